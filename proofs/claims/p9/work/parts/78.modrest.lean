/-! PURE, 28: the other calls of the reference; each keeps it at rest -/
def stQ (m : T_Mod) : Int32 := m.2.2.2.2.2.2.2.2.2.2.2.2.2.2.2.2.2.2.2.2.2.2.2.1
section
variable {n C rc kn k : Nat} {LI FR TO RC KT KP KS AS : Nat → Int32} {hc : Int32} {IC : Nat → Int32} {len : Nat} {RO VA LV CA PL : Nat → Int32} {pr : Nat} {st : Int32} {lf us : Int64} {MK : Nat → Int32} {N : Nat} {lit start tr lvl : Nat → Nat} {asl kt : Nat → Nat}
theorem mgoOnWith_ok (hA : AssI n k AS asl) (hS : ModS n C N LI FR lit start) (hw : RowI rc C RC) (hI : SInv n C len pr RO VA LV CA PL lit start tr lvl) (x : Int64) : ∃ v, m_Mod_goOnWith (modT n C rc kn k LI FR TO RC KT KP KS AS hc IC len RO VA LV CA PL pr st lf us MK) x = some v ∧ ModE n k kn AS KT KP KS v :=
  mgoOn_L hA 451800 fu C rc len pr N LI FR TO RC IC RO VA LV CA PL MK 0 st x us lit start tr lvl (by omega) (by unfold fu; omega) hS hw hI
theorem mrunL (hA : AssI n k AS asl) (hS : ModS n C N LI FR lit start) (hw : RowI rc C RC) (x : Int64) : ∀ (d i f : Nat) (VA : Nat → Int32), i + d = 300 → d < f → (∀ j, j < i → VA j = 0) → ∃ v r, m_Mod_run_L7 f (modT n C rc kn k LI FR TO RC KT KP KS AS hc IC len RO VA LV CA PL pr st lf us MK) x (nI i) = some (v, r) ∧ ModE n k kn AS KT KP KS v := by
  have eF : ∀ f VA i, m_Mod_run_L7 (f + 1) (modT n C rc kn k LI FR TO RC KT KP KS AS hc IC len RO VA LV CA PL pr st lf us MK) x i = (if (300 : Int32) ≤ i then ((m_Mod_goOnWith (modT n C rc kn k LI FR TO RC KT KP KS AS hc IC 0 RO VA LV CA PL 0 st lf 0 MK) x).bind fun r3 => some (r3, stQ r3)) else if ¬ (i < 0 ∨ 300 ≤ i.toNatClampNeg) then m_Mod_run_L7 f (modT n C rc kn k LI FR TO RC KT KP KS AS hc IC len RO (upd VA i.toNatClampNeg 0) LV CA PL pr st lf us MK) x (i + 1) else none) := fun f VA i => rfl
  intro d
  induction d with
  | zero =>
    intro i f VA e hf h
    obtain ⟨f, rfl⟩ : ∃ g, f = g + 1 := ⟨f - 1, by omega⟩
    have hn := hS.1
    obtain ⟨v, w1, w2⟩ := mgoOnWith_ok (n := n) (C := C) (rc := rc) (kn := kn) (k := k) (LI := LI) (FR := FR) (TO := TO) (RC := RC) (KT := KT) (KP := KP) (KS := KS) (AS := AS) (hc := hc) (IC := IC) (len := 0) (RO := RO) (VA := VA) (LV := LV) (CA := CA) (PL := PL) (pr := 0) (st := st) (lf := lf) (us := 0) (MK := MK) hA hS hw (tr := fun _ => 0) (lvl := fun _ => 0) ⟨⟨⟨hn.2.2.1, hn.2.2.2, by omega, by omega⟩, fun i hi => absurd hi (by omega), fun t ht => Or.inl (h t (by omega)), fun i j _ hj => absurd hj (by omega)⟩, fun i hi => absurd hi (by omega), fun j hj => absurd hj (by omega)⟩ x
    rw [eF, if_pos (show (300 : Int32) ≤ nI i from nI_le (a := 300) (by omega) (by omega)), w1, bind_s]
    exact ⟨v, _, rfl, w2⟩
  | succ d ih =>
    intro i f VA e hf h
    obtain ⟨f, rfl⟩ : ∃ g, f = g + 1 := ⟨f - 1, by omega⟩
    rw [eF, if_neg (show ¬ (300 : Int32) ≤ nI i from nI_ge (b := 300) (by omega) (by omega)), if_pos (nI_in (by omega) (by omega)), nI_clamp (n := i) (by omega), nI_1]
    refine ih (i + 1) f (upd VA i 0) (by omega) (by omega) (fun j hj => ?_)
    by_cases q : j = i
    · rw [q, pk_us]
    · rw [pk_un q]
      exact h j (by omega)
theorem mblock_L (hn : n ≤ 300) (hw : RowI rc C RC) {N0 : Nat} (hN : N0 + n ≤ 20000) : ∀ (d j f : Nat) (LI FR : Nat → Int32) (lit start : Nat → Nat), j + d = n → d < f → ModS n C (N0 + j) LI FR lit start → ∃ v, m_Mod_block_L33 f (modT n C rc kn k LI FR TO RC KT KP KS AS hc IC len RO VA LV CA PL pr st lf us MK) (nI j) = some (v, 1) ∧ ModE n k kn AS KT KP KS v := by
  have eF : ∀ f LI FR j, m_Mod_block_L33 (f + 1) (modT n C rc kn k LI FR TO RC KT KP KS AS hc IC len RO VA LV CA PL pr st lf us MK) j = (if nI n ≤ j then some ((modT n C rc kn k LI FR TO RC KT KP KS AS hc IC len RO VA LV CA PL pr 1 lf us MK), 1) else if ¬ (j < 0 ∨ 300 ≤ j.toNatClampNeg) then (if VA j.toNatClampNeg = (2 : Int32) then ((m_Mod_put (modT n C rc kn k LI FR TO RC KT KP KS AS hc IC len RO VA LV CA PL pr st lf us MK) ((2 : Int32) * j + 0)).bind fun r7 => m_Mod_block_L33 f r7 (j + 1)) else ((m_Mod_put (modT n C rc kn k LI FR TO RC KT KP KS AS hc IC len RO VA LV CA PL pr st lf us MK) ((2 : Int32) * j + 1)).bind fun r7 => m_Mod_block_L33 f r7 (j + 1))) else none) := fun f LI FR j => rfl
  intro d
  induction d with
  | zero =>
    intro j f LI FR lit start e hf hS
    obtain ⟨f, rfl⟩ : ∃ g, f = g + 1 := ⟨f - 1, by omega⟩
    rw [eF, if_pos (nI_le (by omega) (by omega))]
    exact ⟨_, rfl, modE1 hS hw⟩
  | succ d ih =>
    intro j f LI FR lit start e hf hS
    obtain ⟨f, rfl⟩ : ∃ g, f = g + 1 := ⟨f - 1, by omega⟩
    have e2 : (2 : Int32) * nI j = nI (2 * j) := pk_mul 2 j
    rw [eF, if_neg (nI_ge (by omega) (by omega)), if_pos (nI_in (by omega) (by omega)), e2, nI_1, nI_1, show nI (2 * j) + 0 = nI (2 * j) from nI_add _ 0]
    obtain ⟨p1, p2⟩ := mput_ok (n := n) (C := C) (rc := rc) (kn := kn) (k := k) (LI := LI) (FR := FR) (TO := TO) (RC := RC) (KT := KT) (KP := KP) (KS := KS) (AS := AS) (hc := hc) (IC := IC) (len := len) (RO := RO) (VA := VA) (LV := LV) (CA := CA) (PL := PL) (pr := pr) (st := st) (lf := lf) (us := us) (MK := MK) hS (by omega) (l := 2 * j) (by omega)
    obtain ⟨p3, p4⟩ := mput_ok (n := n) (C := C) (rc := rc) (kn := kn) (k := k) (LI := LI) (FR := FR) (TO := TO) (RC := RC) (KT := KT) (KP := KP) (KS := KS) (AS := AS) (hc := hc) (IC := IC) (len := len) (RO := RO) (VA := VA) (LV := LV) (CA := CA) (PL := PL) (pr := pr) (st := st) (lf := lf) (us := us) (MK := MK) hS (by omega) (l := 2 * j + 1) (by omega)
    by_cases q : VA (nI j).toNatClampNeg = (2 : Int32)
    · rw [if_pos q, p1, bind_s]
      exact ih (j + 1) f _ _ _ _ (by omega) (by omega) p2
    · rw [if_neg q, p3, bind_s]
      exact ih (j + 1) f _ _ _ _ (by omega) (by omega) p4
theorem massume_L (hA : AssI n k AS asl) (hk : k < 40) {t : Nat} (ht : t < n) (x2 : Int32) : ∀ (d j f : Nat), j + d = k → d < f → (∀ i, i < j → ¬ asl i / 2 = t) → (m_Mod_assume_L26 f (modT n C rc kn k LI FR TO RC KT KP KS AS hc IC len RO VA LV CA PL pr st lf us MK) (nI t) x2 (nI j) = some ((modT n C rc kn k LI FR TO RC KT KP KS AS hc IC len RO VA LV CA PL pr st lf us MK), 0) ∧ ∃ i, i < k ∧ asl i / 2 = t) ∨ (m_Mod_assume_L26 f (modT n C rc kn k LI FR TO RC KT KP KS AS hc IC len RO VA LV CA PL pr st lf us MK) (nI t) x2 (nI j) = some ((modT n C rc kn (k + 1) LI FR TO RC KT KP KS (upd AS k (nI (2 * t + bv x2))) hc IC len RO VA LV CA PL pr 1 lf us MK), 1) ∧ ∀ i, i < k → ¬ asl i / 2 = t) := by
  obtain ⟨h1, h2, h3⟩ := id hA
  have eF : ∀ f j, m_Mod_assume_L26 (f + 1) (modT n C rc kn k LI FR TO RC KT KP KS AS hc IC len RO VA LV CA PL pr st lf us MK) (nI t) x2 j = (if nI k ≤ j then (if x2 = 0 then (if ¬ (nI k < 0 ∨ 40 ≤ (nI k).toNatClampNeg) then some ((0, nI n, (20000, LI), (1502, FR), (1501, TO), nI C, nI rc, (1500, RC), nI kn, (300, KT), (300, KP), (300, KS), nI k + 1, (40, upd AS (nI k).toNatClampNeg ((2 : Int32) * nI t + 0)), hc, (40, IC), nI len, (300, RO), (300, VA), (300, LV), (300, CA), (300, PL), nI pr, (1 : Int32), lf, us, (600, MK)), (1 : Int32)) else none) else (if ¬ (nI k < 0 ∨ 40 ≤ (nI k).toNatClampNeg) then some ((0, nI n, (20000, LI), (1502, FR), (1501, TO), nI C, nI rc, (1500, RC), nI kn, (300, KT), (300, KP), (300, KS), nI k + 1, (40, upd AS (nI k).toNatClampNeg ((2 : Int32) * nI t + 1)), hc, (40, IC), nI len, (300, RO), (300, VA), (300, LV), (300, CA), (300, PL), nI pr, (1 : Int32), lf, us, (600, MK)), (1 : Int32)) else none)) else if ¬ (j < 0 ∨ 40 ≤ j.toNatClampNeg) then (if AS j.toNatClampNeg / (2 : Int32) = nI t then some ((modT n C rc kn k LI FR TO RC KT KP KS AS hc IC len RO VA LV CA PL pr st lf us MK), 0) else m_Mod_assume_L26 f (modT n C rc kn k LI FR TO RC KT KP KS AS hc IC len RO VA LV CA PL pr st lf us MK) (nI t) x2 (j + 1)) else none) := fun f j => rfl
  have e2 : (2 : Int32) * nI t = nI (2 * t) := pk_mul 2 t
  intro d
  induction d with
  | zero =>
    intro j f e hf hno
    obtain ⟨f, rfl⟩ : ∃ g, f = g + 1 := ⟨f - 1, by omega⟩
    refine Or.inr ⟨?_, fun i hi => hno i (by omega)⟩
    have gk : ¬ (nI k < 0 ∨ 40 ≤ (nI k).toNatClampNeg) := nI_in (by omega) (by omega)
    rw [eF, if_pos (nI_le (by omega) (by omega)), e2]
    by_cases q : x2 = 0
    · rw [if_pos q, if_pos gk, nI_clamp (n := k) (by omega), nI_1, show nI (2 * t) + 0 = nI (2 * t) from nI_add _ 0, show bv x2 = 0 from if_pos q]
      rfl
    · rw [if_neg q, if_pos gk, nI_clamp (n := k) (by omega), nI_1, nI_1, show bv x2 = 1 from if_neg q]
  | succ d ih =>
    intro j f e hf hno
    obtain ⟨f, rfl⟩ : ∃ g, f = g + 1 := ⟨f - 1, by omega⟩
    obtain ⟨q1, q2⟩ := h3 j (by omega)
    rw [eF, if_neg (nI_ge (by omega) (by omega)), if_pos (nI_in (by omega) (by omega)), nI_clamp (n := j) (by omega), q1, half_ok (by omega), nI_1]
    by_cases q : asl j / 2 = t
    · rw [if_pos (by rw [q])]
      exact Or.inl ⟨rfl, j, by omega, q⟩
    · rw [if_neg (fun y => q ((nI_eq (by omega) (by omega)).mp y))]
      refine ih (j + 1) f (by omega) (by omega) (fun i hi => ?_)
      by_cases w : i = j
      · rw [w]; exact q
      · exact hno i (by omega)
theorem massume_ok (hA : AssI n k AS asl) (x1 x2 : Int32) : (m_Mod_assume (modT n C rc kn k LI FR TO RC KT KP KS AS hc IC len RO VA LV CA PL pr st lf us MK) x1 x2 = some ((modT n C rc kn k LI FR TO RC KT KP KS AS hc IC len RO VA LV CA PL pr st lf us MK), 0) ∧ ¬ ∃ t, mayAssume n k asl x1 t) ∨ ∃ t, mayAssume n k asl x1 t ∧ m_Mod_assume (modT n C rc kn k LI FR TO RC KT KP KS AS hc IC len RO VA LV CA PL pr st lf us MK) x1 x2 = some ((modT n C rc kn (k + 1) LI FR TO RC KT KP KS (upd AS k (nI (2 * t + bv x2))) hc IC len RO VA LV CA PL pr 1 lf us MK), 1) := by
  obtain ⟨h1, h2, h3⟩ := id hA
  have e : m_Mod_assume (modT n C rc kn k LI FR TO RC KT KP KS AS hc IC len RO VA LV CA PL pr st lf us MK) x1 x2 = ((m_Mod_noThing (modT n C rc kn k LI FR TO RC KT KP KS AS hc IC len RO VA LV CA PL pr st lf us MK) x1).bind fun r5 => if r5 = 0 then (if nI k = (40 : Int32) then some ((modT n C rc kn k LI FR TO RC KT KP KS AS hc IC len RO VA LV CA PL pr st lf us MK), 0) else m_Mod_assume_L26 fu (modT n C rc kn k LI FR TO RC KT KP KS AS hc IC len RO VA LV CA PL pr st lf us MK) x1 x2 0) else some ((modT n C rc kn k LI FR TO RC KT KP KS AS hc IC len RO VA LV CA PL pr st lf us MK), 0)) := rfl
  rw [e]
  rcases mnoThing (n := n) (C := C) (rc := rc) (kn := kn) (k := k) (LI := LI) (FR := FR) (TO := TO) (RC := RC) (KT := KT) (KP := KP) (KS := KS) (AS := AS) (hc := hc) (IC := IC) (len := len) (RO := RO) (VA := VA) (LV := LV) (CA := CA) (PL := PL) (pr := pr) (st := st) (lf := lf) (us := us) (MK := MK) h2 x1 with ⟨w, w2⟩ | ⟨t, ht, rfl, w⟩
  · rw [w, bind_s, if_neg (by decide)]
    exact Or.inl ⟨rfl, fun ⟨t, a, b, _, _⟩ => w2 ⟨t, a, b⟩⟩
  · rw [w, bind_s, if_pos rfl]
    by_cases q : k = 40
    · rw [if_pos (show nI k = (40 : Int32) by rw [q]; rfl)]
      exact Or.inl ⟨rfl, fun ⟨t, _, _, a, _⟩ => by omega⟩
    · rw [if_neg (show ¬ nI k = (40 : Int32) from fun y => q ((nI_eq (a := k) (b := 40) (by omega) (by omega)).mp y))]
      rcases massume_L (n := n) (C := C) (rc := rc) (kn := kn) (k := k) (LI := LI) (FR := FR) (TO := TO) (RC := RC) (KT := KT) (KP := KP) (KS := KS) (AS := AS) (hc := hc) (IC := IC) (len := len) (RO := RO) (VA := VA) (LV := LV) (CA := CA) (PL := PL) (pr := pr) (st := st) (lf := lf) (us := us) (MK := MK) hA (by omega) ht x2 k 0 fu (by omega) (by unfold fu; omega) (fun i hi => absurd hi (by omega)) with ⟨a1, i, a2, a3⟩ | ⟨a1, a2⟩
      · refine Or.inl ⟨a1, fun ⟨t', b1, b2, b3, b4⟩ => ?_⟩
        have : t = t' := (nI_eq (by omega) (by omega)).mp b2
        exact b4 i a2 (by rw [a3, this])
      · exact Or.inr ⟨t, ⟨ht, rfl, by omega, a2⟩, a1⟩
theorem mcore_L (hA : AssI n k AS asl) (x1 : Int32) : ∀ (d j f : Nat) (x2 : Int32), j + d = k → d < f → ∃ r, m_Mod_core_L30 f (modT n C rc kn k LI FR TO RC KT KP KS AS hc IC len RO VA LV CA PL pr st lf us MK) x1 x2 (nI j) = some ((modT n C rc kn k LI FR TO RC KT KP KS AS hc IC len RO VA LV CA PL pr st lf us MK), r) := by
  have hk := hA.1
  have eF : ∀ f x2 j, m_Mod_core_L30 (f + 1) (modT n C rc kn k LI FR TO RC KT KP KS AS hc IC len RO VA LV CA PL pr st lf us MK) x1 x2 j = (if nI k ≤ j then some ((modT n C rc kn k LI FR TO RC KT KP KS AS hc IC len RO VA LV CA PL pr st lf us MK), -1) else if ¬ (j < 0 ∨ 40 ≤ j.toNatClampNeg) then (if IC j.toNatClampNeg = 0 then m_Mod_core_L30 f (modT n C rc kn k LI FR TO RC KT KP KS AS hc IC len RO VA LV CA PL pr st lf us MK) x1 x2 (j + 1) else if x2 = x1 then (if ¬ (j < 0 ∨ 40 ≤ j.toNatClampNeg) then some ((modT n C rc kn k LI FR TO RC KT KP KS AS hc IC len RO VA LV CA PL pr st lf us MK), AS j.toNatClampNeg) else none) else m_Mod_core_L30 f (modT n C rc kn k LI FR TO RC KT KP KS AS hc IC len RO VA LV CA PL pr st lf us MK) x1 (x2 + 1) (j + 1)) else none) := fun f x2 j => rfl
  intro d
  induction d with
  | zero =>
    intro j f x2 e hf
    obtain ⟨f, rfl⟩ : ∃ g, f = g + 1 := ⟨f - 1, by omega⟩
    rw [eF, if_pos (nI_le (by omega) (by omega))]
    exact ⟨_, rfl⟩
  | succ d ih =>
    intro j f x2 e hf
    obtain ⟨f, rfl⟩ : ∃ g, f = g + 1 := ⟨f - 1, by omega⟩
    have gj : ¬ (nI j < 0 ∨ 40 ≤ (nI j).toNatClampNeg) := nI_in (by omega) (by omega)
    rw [eF, if_neg (nI_ge (by omega) (by omega)), if_pos gj, nI_1]
    by_cases q : IC (nI j).toNatClampNeg = 0
    · rw [if_pos q]
      exact ih (j + 1) f x2 (by omega) (by omega)
    · rw [if_neg q]
      by_cases w : x2 = x1
      · rw [if_pos w, if_pos gj]
        exact ⟨_, rfl⟩
      · rw [if_neg w]
        exact ih (j + 1) f (x2 + 1) (by omega) (by omega)
theorem mrow_ok (hS : ModS n C N LI FR lit start) (hw : RowI rc C RC) (x1 x2 : Int32) : ∃ r, m_Mod_row (modT n C rc kn k LI FR TO RC KT KP KS AS hc IC len RO VA LV CA PL pr st lf us MK) x1 x2 = some ((modT n C rc kn k LI FR TO RC KT KP KS AS hc IC len RO VA LV CA PL pr st lf us MK), r) := by
  obtain ⟨⟨y1, y2, y3, y4⟩, y5, y6, y7, y8⟩ := id hS
  have hr := hw.1
  have e : m_Mod_row (modT n C rc kn k LI FR TO RC KT KP KS AS hc IC len RO VA LV CA PL pr st lf us MK) x1 x2 = (if x1 < 0 then some ((modT n C rc kn k LI FR TO RC KT KP KS AS hc IC len RO VA LV CA PL pr st lf us MK), -1) else if nI rc ≤ x1 then some ((modT n C rc kn k LI FR TO RC KT KP KS AS hc IC len RO VA LV CA PL pr st lf us MK), -1) else if x2 < 0 then some ((modT n C rc kn k LI FR TO RC KT KP KS AS hc IC len RO VA LV CA PL pr st lf us MK), -1) else if ¬ (x1 < 0 ∨ 1500 ≤ x1.toNatClampNeg) then (if ¬ (RC x1.toNatClampNeg + 1 < 0 ∨ 1502 ≤ (RC x1.toNatClampNeg + 1).toNatClampNeg) then (if ¬ (x1 < 0 ∨ 1500 ≤ x1.toNatClampNeg) then (if ¬ (RC x1.toNatClampNeg < 0 ∨ 1502 ≤ (RC x1.toNatClampNeg).toNatClampNeg) then (if x2 < FR (RC x1.toNatClampNeg + 1).toNatClampNeg - FR (RC x1.toNatClampNeg).toNatClampNeg then (if ¬ (x1 < 0 ∨ 1500 ≤ x1.toNatClampNeg) then (if ¬ (RC x1.toNatClampNeg < 0 ∨ 1502 ≤ (RC x1.toNatClampNeg).toNatClampNeg) then (if ¬ (FR (RC x1.toNatClampNeg).toNatClampNeg + x2 < 0 ∨ 20000 ≤ (FR (RC x1.toNatClampNeg).toNatClampNeg + x2).toNatClampNeg) then some ((modT n C rc kn k LI FR TO RC KT KP KS AS hc IC len RO VA LV CA PL pr st lf us MK), LI (FR (RC x1.toNatClampNeg).toNatClampNeg + x2).toNatClampNeg) else none) else none) else none) else some ((modT n C rc kn k LI FR TO RC KT KP KS AS hc IC len RO VA LV CA PL pr st lf us MK), -1)) else none) else none) else none) else none) := rfl
  rw [e]
  rcases pk_ix x1 (n := rc) (by omega) with q | q | ⟨j, hj, rfl⟩
  · rw [if_pos q]
    exact ⟨_, rfl⟩
  · by_cases q1 : x1 < 0
    · rw [if_pos q1]
      exact ⟨_, rfl⟩
    · rw [if_neg q1, if_pos q]
      exact ⟨_, rfl⟩
  · rw [if_neg (nI_pos (by omega)), if_neg (nI_ge hj (by omega))]
    by_cases q2 : x2 < 0
    · rw [if_pos q2]
      exact ⟨_, rfl⟩
    · obtain ⟨m, hm, rfl⟩ := nI_of q2
      obtain ⟨c, hc1, ec⟩ := hw.2 j hj
      have gj : ¬ (nI j < 0 ∨ 1500 ≤ (nI j).toNatClampNeg) := nI_in (by omega) (by omega)
      have gk := gj
      rw [nI_clamp (n := j) (by omega)] at gk
      have gc : ¬ (nI c < 0 ∨ 1502 ≤ (nI c).toNatClampNeg) := nI_in (by omega) (by omega)
      have gd := gc
      rw [nI_clamp (n := c) (by omega)] at gd
      have s1 := y7 c hc1
      have s2 := ms_le hS (c := c + 1) (by omega)
      rw [if_neg q2, if_pos gj, nI_clamp (n := j) (by omega), ec, nI_1, if_pos (nI_in (by omega) (by omega)), if_pos gk, if_pos gc, nI_clamp (n := c) (by omega), nI_clamp (n := c + 1) (by omega), y5 c (by omega), y5 (c + 1) (by omega), pk_sub s1]
      by_cases q3 : nI m < nI (start (c + 1) - start c)
      · have q4 := (nI_ltI hm (by omega)).mp q3
        rw [if_pos q3, if_pos gk, if_pos gd, nI_add, if_pos (nI_in (by omega) (by omega))]
        exact ⟨_, rfl⟩
      · rw [if_neg q3]
        exact ⟨_, rfl⟩
theorem mnum_ok (hw : RowI rc C RC) (hC : C ≤ 1500) (x1 : Int32) : ∃ r, m_Mod_numberOf (modT n C rc kn k LI FR TO RC KT KP KS AS hc IC len RO VA LV CA PL pr st lf us MK) x1 = some ((modT n C rc kn k LI FR TO RC KT KP KS AS hc IC len RO VA LV CA PL pr st lf us MK), r) := by
  have hr := hw.1
  have e : m_Mod_numberOf (modT n C rc kn k LI FR TO RC KT KP KS AS hc IC len RO VA LV CA PL pr st lf us MK) x1 = (if x1 < 0 then some ((modT n C rc kn k LI FR TO RC KT KP KS AS hc IC len RO VA LV CA PL pr st lf us MK), -1) else if x1 < nI rc then (if ¬ (x1 < 0 ∨ 1500 ≤ x1.toNatClampNeg) then some ((modT n C rc kn k LI FR TO RC KT KP KS AS hc IC len RO VA LV CA PL pr st lf us MK), RC x1.toNatClampNeg) else none) else some ((modT n C rc kn k LI FR TO RC KT KP KS AS hc IC len RO VA LV CA PL pr st lf us MK), -1)) := rfl
  rw [e]
  by_cases q : x1 < 0
  · rw [if_pos q]
    exact ⟨_, rfl⟩
  · obtain ⟨m, hm, rfl⟩ := nI_of q
    rw [if_neg q]
    by_cases q3 : nI m < nI rc
    · have q4 := (nI_ltI hm (by omega)).mp q3
      rw [if_pos q3, if_pos (nI_in (by omega) (by omega))]
      exact ⟨_, rfl⟩
    · rw [if_neg q3]
      exact ⟨_, rfl⟩
theorem mtruth_ok (hn : n ≤ 300) (x1 : Int32) : ∃ r, m_Mod_truth (modT n C rc kn k LI FR TO RC KT KP KS AS hc IC len RO VA LV CA PL pr st lf us MK) x1 = some ((modT n C rc kn k LI FR TO RC KT KP KS AS hc IC len RO VA LV CA PL pr st lf us MK), r) := by
  have e : m_Mod_truth (modT n C rc kn k LI FR TO RC KT KP KS AS hc IC len RO VA LV CA PL pr st lf us MK) x1 = (if st = 0 then ((m_Mod_noThing (modT n C rc kn k LI FR TO RC KT KP KS AS hc IC len RO VA LV CA PL pr st lf us MK) x1).bind fun r3 => if r3 = 0 then (if ¬ (x1 < 0 ∨ 300 ≤ x1.toNatClampNeg) then (if VA x1.toNatClampNeg = (2 : Int32) then some ((modT n C rc kn k LI FR TO RC KT KP KS AS hc IC len RO VA LV CA PL pr st lf us MK), 1) else some ((modT n C rc kn k LI FR TO RC KT KP KS AS hc IC len RO VA LV CA PL pr st lf us MK), 0)) else none) else some ((modT n C rc kn k LI FR TO RC KT KP KS AS hc IC len RO VA LV CA PL pr st lf us MK), 0)) else some ((modT n C rc kn k LI FR TO RC KT KP KS AS hc IC len RO VA LV CA PL pr st lf us MK), 0)) := rfl
  rw [e]
  by_cases q : st = 0
  · rw [if_pos q]
    rcases mnoThing (n := n) (C := C) (rc := rc) (kn := kn) (k := k) (LI := LI) (FR := FR) (TO := TO) (RC := RC) (KT := KT) (KP := KP) (KS := KS) (AS := AS) (hc := hc) (IC := IC) (len := len) (RO := RO) (VA := VA) (LV := LV) (CA := CA) (PL := PL) (pr := pr) (st := st) (lf := lf) (us := us) (MK := MK) hn x1 with ⟨w, -⟩ | ⟨t, ht, rfl, w⟩
    · rw [w, bind_s, if_neg (by decide)]
      exact ⟨_, rfl⟩
    · rw [w, bind_s, if_pos rfl, if_pos (nI_in (by omega) (by omega))]
      by_cases q2 : VA (nI t).toNatClampNeg = (2 : Int32)
      · rw [if_pos q2]
        exact ⟨_, rfl⟩
      · rw [if_neg q2]
        exact ⟨_, rfl⟩
  · rw [if_neg q]
    exact ⟨_, rfl⟩
end
/-! each call, at rest -/
theorem M_clause {n k : Nat} {asl : Nat → Nat} {v : T_Mod} (h : ModI n k asl v) : ∃ v' r, m_Mod_clause v = some (v', r) ∧ ModI n k asl v' := by
  obtain ⟨AS, kn, KT, KP, KS, kt, hA, hK, C, rc, LI, FR, TO, RC, hc, IC, len, RO, VA, LV, CA, PL, pr, st, lf, us, MK, N, lit, start, tr, lvl, rfl, hS, hw, hI⟩ := h
  obtain ⟨v', r, w1, w2⟩ := mclause_ok (n := n) (C := C) (rc := rc) (kn := kn) (k := k) (LI := LI) (FR := FR) (TO := TO) (RC := RC) (KT := KT) (KP := KP) (KS := KS) (AS := AS) (hc := hc) (IC := IC) (len := len) (RO := RO) (VA := VA) (LV := LV) (CA := CA) (PL := PL) (pr := pr) (st := st) (lf := lf) (us := us) (MK := MK) hS hw hI
  exact ⟨v', r, w1, AS, kn, KT, KP, KS, kt, hA, hK, w2⟩
theorem M_literal {n k : Nat} {asl : Nat → Nat} {v : T_Mod} (h : ModI n k asl v) (x1 x2 x3 : Int32) : ∃ v' r, m_Mod_literal v x1 x2 x3 = some (v', r) ∧ ModI n k asl v' := by
  obtain ⟨AS, kn, KT, KP, KS, kt, hA, hK, C, rc, LI, FR, TO, RC, hc, IC, len, RO, VA, LV, CA, PL, pr, st, lf, us, MK, N, lit, start, tr, lvl, rfl, hS, hw, hI⟩ := h
  obtain ⟨v', r, w1, w2⟩ := mliteral_ok (n := n) (C := C) (rc := rc) (kn := kn) (k := k) (LI := LI) (FR := FR) (TO := TO) (RC := RC) (KT := KT) (KP := KP) (KS := KS) (AS := AS) (hc := hc) (IC := IC) (len := len) (RO := RO) (VA := VA) (LV := LV) (CA := CA) (PL := PL) (pr := pr) (st := st) (lf := lf) (us := us) (MK := MK) hS hw hI x1 x2 x3
  exact ⟨v', r, w1, AS, kn, KT, KP, KS, kt, hA, hK, w2⟩
theorem M_kernel {n k : Nat} {asl : Nat → Nat} {v : T_Mod} (h : ModI n k asl v) (x1 x2 x3 : Int32) : ∃ v' r, m_Mod_kernel v x1 x2 x3 = some (v', r) ∧ ModI n k asl v' := by
  obtain ⟨AS, kn, KT, KP, KS, kt, hA, hK, C, rc, LI, FR, TO, RC, hc, IC, len, RO, VA, LV, CA, PL, pr, st, lf, us, MK, N, lit, start, tr, lvl, rfl, hS, hw, hI⟩ := h
  obtain ⟨v', r, w1, kn', KT', KP', KS', kt', w2, w3⟩ := mkernel_ok (n := n) (C := C) (rc := rc) (kn := kn) (k := k) (LI := LI) (FR := FR) (TO := TO) (RC := RC) (KT := KT) (KP := KP) (KS := KS) (AS := AS) (hc := hc) (IC := IC) (len := len) (RO := RO) (VA := VA) (LV := LV) (CA := CA) (PL := PL) (pr := pr) (st := st) (lf := lf) (us := us) (MK := MK) hS hK hw hI x1 x2 x3
  exact ⟨v', r, w1, AS, kn', KT', KP', KS', kt', hA, w2, w3⟩
theorem M_run {n k : Nat} {asl : Nat → Nat} {v : T_Mod} (h : ModI n k asl v) (x : Int64) : ∃ v' r, m_Mod_run v x = some (v', r) ∧ ModI n k asl v' := by
  obtain ⟨AS, kn, KT, KP, KS, kt, hA, hK, C, rc, LI, FR, TO, RC, hc, IC, len, RO, VA, LV, CA, PL, pr, st, lf, us, MK, N, lit, start, tr, lvl, rfl, hS, hw, hI⟩ := h
  obtain ⟨v', r, w1, w2⟩ := mrunL (n := n) (C := C) (rc := rc) (kn := kn) (k := k) (LI := LI) (FR := FR) (TO := TO) (RC := RC) (KT := KT) (KP := KP) (KS := KS) (AS := AS) (hc := hc) (IC := IC) (len := len) (RO := RO) (LV := LV) (CA := CA) (PL := PL) (pr := pr) (st := st) (lf := lf) (us := us) (MK := MK) hA hS hw x 300 0 fu VA (by omega) (by unfold fu; omega) (fun j hj => absurd hj (by omega))
  exact ⟨v', r, w1, AS, kn, KT, KP, KS, kt, hA, hK, w2⟩
theorem M_goOn {n k : Nat} {asl : Nat → Nat} {v : T_Mod} (h : ModI n k asl v) (x : Int64) : ∃ v' r, m_Mod_goOn v x = some (v', r) ∧ ModI n k asl v' := by
  obtain ⟨AS, kn, KT, KP, KS, kt, hA, hK, C, rc, LI, FR, TO, RC, hc, IC, len, RO, VA, LV, CA, PL, pr, st, lf, us, MK, N, lit, start, tr, lvl, rfl, hS, hw, hI⟩ := h
  have e : m_Mod_goOn (modT n C rc kn k LI FR TO RC KT KP KS AS hc IC len RO VA LV CA PL pr st lf us MK) x = (if st = (3 : Int32) then ((m_Mod_goOnWith (modT n C rc kn k LI FR TO RC KT KP KS AS hc IC len RO VA LV CA PL pr st lf us MK) x).bind fun r3 => if stQ r3 = (3 : Int32) then some (r3, 0) else some (r3, 1)) else some ((modT n C rc kn k LI FR TO RC KT KP KS AS hc IC len RO VA LV CA PL pr st lf us MK), 0)) := rfl
  rw [e]
  by_cases q : st = 3
  · obtain ⟨v', w1, w2⟩ := mgoOnWith_ok (n := n) (C := C) (rc := rc) (kn := kn) (k := k) (LI := LI) (FR := FR) (TO := TO) (RC := RC) (KT := KT) (KP := KP) (KS := KS) (AS := AS) (hc := hc) (IC := IC) (len := len) (RO := RO) (VA := VA) (LV := LV) (CA := CA) (PL := PL) (pr := pr) (st := st) (lf := lf) (us := us) (MK := MK) hA hS hw (hI q) x
    rw [if_pos q, w1, bind_s]
    by_cases q2 : stQ v' = (3 : Int32)
    · rw [if_pos q2]
      exact ⟨v', 0, rfl, AS, kn, KT, KP, KS, kt, hA, hK, w2⟩
    · rw [if_neg q2]
      exact ⟨v', 1, rfl, AS, kn, KT, KP, KS, kt, hA, hK, w2⟩
  · rw [if_neg q]
    exact ⟨_, _, rfl, AS, kn, KT, KP, KS, kt, hA, hK, C, rc, LI, FR, TO, RC, hc, IC, len, RO, VA, LV, CA, PL, pr, st, lf, us, MK, N, lit, start, tr, lvl, rfl, hS, hw, hI⟩
theorem M_block {n k : Nat} {asl : Nat → Nat} {v : T_Mod} (h : ModI n k asl v) : ∃ v' r, m_Mod_block v = some (v', r) ∧ ModI n k asl v' := by
  obtain ⟨AS, kn, KT, KP, KS, kt, hA, hK, C, rc, LI, FR, TO, RC, hc, IC, len, RO, VA, LV, CA, PL, pr, st, lf, us, MK, N, lit, start, tr, lvl, rfl, hS, hw, hI⟩ := h
  have hn := hS.1
  have same : ModI n k asl (modT n C rc kn k LI FR TO RC KT KP KS AS hc IC len RO VA LV CA PL pr st lf us MK) := ⟨AS, kn, KT, KP, KS, kt, hA, hK, C, rc, LI, FR, TO, RC, hc, IC, len, RO, VA, LV, CA, PL, pr, st, lf, us, MK, N, lit, start, tr, lvl, rfl, hS, hw, hI⟩
  have e : m_Mod_block (modT n C rc kn k LI FR TO RC KT KP KS AS hc IC len RO VA LV CA PL pr st lf us MK) = (if st = 0 then ((m_Mod_room (modT n C rc kn k LI FR TO RC KT KP KS AS hc IC len RO VA LV CA PL pr st lf us MK) 1 (nI n)).bind fun r10 => if r10 = 0 then some ((modT n C rc kn k LI FR TO RC KT KP KS AS hc IC len RO VA LV CA PL pr st lf us MK), 0) else (m_Mod_begin (modT n C rc kn k LI FR TO RC KT KP KS AS hc IC len RO VA LV CA PL pr st lf us MK) 0).bind fun r12 => m_Mod_block_L33 fu r12 0) else some ((modT n C rc kn k LI FR TO RC KT KP KS AS hc IC len RO VA LV CA PL pr st lf us MK), 0)) := rfl
  rw [e]
  by_cases q : st = 0
  · rw [if_pos q]
    rcases mroom_ok (n := n) (C := C) (rc := rc) (kn := kn) (k := k) (LI := LI) (FR := FR) (TO := TO) (RC := RC) (KT := KT) (KP := KP) (KS := KS) (AS := AS) (hc := hc) (IC := IC) (len := len) (RO := RO) (VA := VA) (LV := LV) (CA := CA) (PL := PL) (pr := pr) (st := st) (lf := lf) (us := us) (MK := MK) hS (a := 1) (b := n) (by omega) (by omega) with ⟨q1, q2, q3⟩ | ⟨q1, -⟩
    · obtain ⟨b1, b2⟩ := mbegin_ok (n := n) (C := C) (rc := rc) (kn := kn) (k := k) (LI := LI) (FR := FR) (TO := TO) (RC := RC) (KT := KT) (KP := KP) (KS := KS) (AS := AS) (hc := hc) (IC := IC) (len := len) (RO := RO) (VA := VA) (LV := LV) (CA := CA) (PL := PL) (pr := pr) (st := st) (lf := lf) (us := us) (MK := MK) hS q2 0
      obtain ⟨v', w1, w2⟩ := mblock_L (n := n) (C := C + 1) (rc := rc) (kn := kn) (k := k) (TO := upd TO C (0 &&& 1)) (RC := RC) (KT := KT) (KP := KP) (KS := KS) (AS := AS) (hc := hc) (IC := IC) (len := len) (RO := RO) (VA := VA) (LV := LV) (CA := CA) (PL := PL) (pr := pr) (st := st) (lf := lf) (us := us) (MK := MK) hn.2.2.2 (row_more hw) (N0 := N) q3 n 0 fu LI (upd FR (C + 1) (nI N)) lit (va_up start (C + 1) N) (by omega) (by unfold fu; omega) b2
      rw [show m_Mod_room (modT n C rc kn k LI FR TO RC KT KP KS AS hc IC len RO VA LV CA PL pr st lf us MK) 1 (nI n) = some 1 from q1, bind_s, if_neg (by decide), b1, bind_s]
      exact ⟨v', 1, w1, AS, kn, KT, KP, KS, kt, hA, hK, w2⟩
    · rw [show m_Mod_room (modT n C rc kn k LI FR TO RC KT KP KS AS hc IC len RO VA LV CA PL pr st lf us MK) 1 (nI n) = some 0 from q1, bind_s, if_pos rfl]
      exact ⟨_, _, rfl, same⟩
  · rw [if_neg q]
    exact ⟨_, _, rfl, same⟩
theorem M_assume {n k : Nat} {asl : Nat → Nat} {v : T_Mod} (h : ModI n k asl v) (x1 x2 : Int32) : (∃ v', m_Mod_assume v x1 x2 = some (v', 0) ∧ ModI n k asl v' ∧ ¬ ∃ t, mayAssume n k asl x1 t) ∨ ∃ t v', mayAssume n k asl x1 t ∧ m_Mod_assume v x1 x2 = some (v', 1) ∧ ModI n (k + 1) (va_up asl k (2 * t + bv x2)) v' := by
  obtain ⟨AS, kn, KT, KP, KS, kt, hA, hK, C, rc, LI, FR, TO, RC, hc, IC, len, RO, VA, LV, CA, PL, pr, st, lf, us, MK, N, lit, start, tr, lvl, rfl, hS, hw, hI⟩ := h
  rcases massume_ok (n := n) (C := C) (rc := rc) (kn := kn) (k := k) (LI := LI) (FR := FR) (TO := TO) (RC := RC) (KT := KT) (KP := KP) (KS := KS) (AS := AS) (hc := hc) (IC := IC) (len := len) (RO := RO) (VA := VA) (LV := LV) (CA := CA) (PL := PL) (pr := pr) (st := st) (lf := lf) (us := us) (MK := MK) hA x1 x2 with ⟨w1, w2⟩ | ⟨t, w1, w2⟩
  · exact Or.inl ⟨_, w1, ⟨AS, kn, KT, KP, KS, kt, hA, hK, C, rc, LI, FR, TO, RC, hc, IC, len, RO, VA, LV, CA, PL, pr, st, lf, us, MK, N, lit, start, tr, lvl, rfl, hS, hw, hI⟩, w2⟩
  · refine Or.inr ⟨t, _, w1, w2, upd AS k (nI (2 * t + bv x2)), kn, KT, KP, KS, kt, ⟨by have := w1.2.2.1; omega, hA.2.1, fun i hi => ?_⟩, hK, modE1 hS hw⟩
    have hb : bv x2 ≤ 1 := by
      unfold bv
      by_cases q : x2 = 0
      · rw [if_pos q]; omega
      · rw [if_neg q]; omega
    by_cases q : i = k
    · rw [q, pk_us, up_s]
      exact ⟨rfl, by have := w1.1; omega⟩
    · rw [pk_un q, up_n _ _ q]
      exact hA.2.2 i (by omega)
theorem M_freely {n k : Nat} {asl : Nat → Nat} {v : T_Mod} (h : ModI n k asl v) : ∃ v', m_Mod_freely v = some v' ∧ ModI n 0 (fun _ => 0) v' := by
  obtain ⟨AS, kn, KT, KP, KS, kt, hA, hK, C, rc, LI, FR, TO, RC, hc, IC, len, RO, VA, LV, CA, PL, pr, st, lf, us, MK, N, lit, start, tr, lvl, rfl, hS, hw, hI⟩ := h
  exact ⟨(modT n C rc kn 0 LI FR TO RC KT KP KS AS hc IC len RO VA LV CA PL pr 1 lf us MK), rfl, AS, kn, KT, KP, KS, kt, ⟨by omega, hA.2.1, fun i hi => absurd hi (by omega)⟩, hK, modE1 hS hw⟩
theorem M_core {n k : Nat} {asl : Nat → Nat} {v : T_Mod} (h : ModI n k asl v) (x1 : Int32) : ∃ v' r, m_Mod_core v x1 = some (v', r) ∧ ModI n k asl v' := by
  obtain ⟨AS, kn, KT, KP, KS, kt, hA, hK, C, rc, LI, FR, TO, RC, hc, IC, len, RO, VA, LV, CA, PL, pr, st, lf, us, MK, N, lit, start, tr, lvl, rfl, hS, hw, hI⟩ := h
  have same : ModI n k asl (modT n C rc kn k LI FR TO RC KT KP KS AS hc IC len RO VA LV CA PL pr st lf us MK) := ⟨AS, kn, KT, KP, KS, kt, hA, hK, C, rc, LI, FR, TO, RC, hc, IC, len, RO, VA, LV, CA, PL, pr, st, lf, us, MK, N, lit, start, tr, lvl, rfl, hS, hw, hI⟩
  have e : m_Mod_core (modT n C rc kn k LI FR TO RC KT KP KS AS hc IC len RO VA LV CA PL pr st lf us MK) x1 = (if st = (2 : Int32) then (if hc = 0 then some ((modT n C rc kn k LI FR TO RC KT KP KS AS hc IC len RO VA LV CA PL pr st lf us MK), -1) else if 0 ≤ x1 then m_Mod_core_L30 fu (modT n C rc kn k LI FR TO RC KT KP KS AS hc IC len RO VA LV CA PL pr st lf us MK) x1 0 0 else some ((modT n C rc kn k LI FR TO RC KT KP KS AS hc IC len RO VA LV CA PL pr st lf us MK), -1)) else some ((modT n C rc kn k LI FR TO RC KT KP KS AS hc IC len RO VA LV CA PL pr st lf us MK), -1)) := rfl
  rw [e]
  by_cases q : st = (2 : Int32)
  · rw [if_pos q]
    by_cases q2 : hc = 0
    · rw [if_pos q2]
      exact ⟨_, _, rfl, same⟩
    · rw [if_neg q2]
      by_cases q3 : 0 ≤ x1
      · obtain ⟨r, w⟩ := mcore_L (n := n) (C := C) (rc := rc) (kn := kn) (k := k) (LI := LI) (FR := FR) (TO := TO) (RC := RC) (KT := KT) (KP := KP) (KS := KS) (AS := AS) (hc := hc) (IC := IC) (len := len) (RO := RO) (VA := VA) (LV := LV) (CA := CA) (PL := PL) (pr := pr) (st := st) (lf := lf) (us := us) (MK := MK) hA x1 k 0 fu 0 (by omega) (by have := hA.1; unfold fu; omega)
        rw [if_pos q3]
        exact ⟨_, r, w, same⟩
      · rw [if_neg q3]
        exact ⟨_, _, rfl, same⟩
  · rw [if_neg q]
    exact ⟨_, _, rfl, same⟩
theorem M_row {n k : Nat} {asl : Nat → Nat} {v : T_Mod} (h : ModI n k asl v) (x1 x2 : Int32) : ∃ v' r, m_Mod_row v x1 x2 = some (v', r) ∧ ModI n k asl v' := by
  obtain ⟨AS, kn, KT, KP, KS, kt, hA, hK, C, rc, LI, FR, TO, RC, hc, IC, len, RO, VA, LV, CA, PL, pr, st, lf, us, MK, N, lit, start, tr, lvl, rfl, hS, hw, hI⟩ := h
  obtain ⟨r, w⟩ := mrow_ok (n := n) (C := C) (rc := rc) (kn := kn) (k := k) (LI := LI) (FR := FR) (TO := TO) (RC := RC) (KT := KT) (KP := KP) (KS := KS) (AS := AS) (hc := hc) (IC := IC) (len := len) (RO := RO) (VA := VA) (LV := LV) (CA := CA) (PL := PL) (pr := pr) (st := st) (lf := lf) (us := us) (MK := MK) hS hw x1 x2
  exact ⟨_, r, w, AS, kn, KT, KP, KS, kt, hA, hK, C, rc, LI, FR, TO, RC, hc, IC, len, RO, VA, LV, CA, PL, pr, st, lf, us, MK, N, lit, start, tr, lvl, rfl, hS, hw, hI⟩
theorem M_numberOf {n k : Nat} {asl : Nat → Nat} {v : T_Mod} (h : ModI n k asl v) (x1 : Int32) : ∃ v' r, m_Mod_numberOf v x1 = some (v', r) ∧ ModI n k asl v' := by
  obtain ⟨AS, kn, KT, KP, KS, kt, hA, hK, C, rc, LI, FR, TO, RC, hc, IC, len, RO, VA, LV, CA, PL, pr, st, lf, us, MK, N, lit, start, tr, lvl, rfl, hS, hw, hI⟩ := h
  obtain ⟨r, w⟩ := mnum_ok (n := n) (C := C) (rc := rc) (kn := kn) (k := k) (LI := LI) (FR := FR) (TO := TO) (RC := RC) (KT := KT) (KP := KP) (KS := KS) (AS := AS) (hc := hc) (IC := IC) (len := len) (RO := RO) (VA := VA) (LV := LV) (CA := CA) (PL := PL) (pr := pr) (st := st) (lf := lf) (us := us) (MK := MK) hw hS.1.1 x1
  exact ⟨_, r, w, AS, kn, KT, KP, KS, kt, hA, hK, C, rc, LI, FR, TO, RC, hc, IC, len, RO, VA, LV, CA, PL, pr, st, lf, us, MK, N, lit, start, tr, lvl, rfl, hS, hw, hI⟩
theorem M_truth {n k : Nat} {asl : Nat → Nat} {v : T_Mod} (h : ModI n k asl v) (x1 : Int32) : ∃ v' r, m_Mod_truth v x1 = some (v', r) ∧ ModI n k asl v' := by
  obtain ⟨AS, kn, KT, KP, KS, kt, hA, hK, C, rc, LI, FR, TO, RC, hc, IC, len, RO, VA, LV, CA, PL, pr, st, lf, us, MK, N, lit, start, tr, lvl, rfl, hS, hw, hI⟩ := h
  obtain ⟨r, w⟩ := mtruth_ok (n := n) (C := C) (rc := rc) (kn := kn) (k := k) (LI := LI) (FR := FR) (TO := TO) (RC := RC) (KT := KT) (KP := KP) (KS := KS) (AS := AS) (hc := hc) (IC := IC) (len := len) (RO := RO) (VA := VA) (LV := LV) (CA := CA) (PL := PL) (pr := pr) (st := st) (lf := lf) (us := us) (MK := MK) hS.1.2.2.2 x1
  exact ⟨_, r, w, AS, kn, KT, KP, KS, kt, hA, hK, C, rc, LI, FR, TO, RC, hc, IC, len, RO, VA, LV, CA, PL, pr, st, lf, us, MK, N, lit, start, tr, lvl, rfl, hS, hw, hI⟩
theorem M_rows {n k : Nat} {asl : Nat → Nat} {v : T_Mod} (h : ModI n k asl v) : ∃ v' r, m_Mod_rows v = some (v', r) ∧ ModI n k asl v' := by
  obtain ⟨AS, kn, KT, KP, KS, kt, hA, hK, C, rc, LI, FR, TO, RC, hc, IC, len, RO, VA, LV, CA, PL, pr, st, lf, us, MK, N, lit, start, tr, lvl, rfl, hS, hw, hI⟩ := h
  exact ⟨(modT n C rc kn k LI FR TO RC KT KP KS AS hc IC len RO VA LV CA PL pr st lf us MK), _, rfl, AS, kn, KT, KP, KS, kt, hA, hK, C, rc, LI, FR, TO, RC, hc, IC, len, RO, VA, LV, CA, PL, pr, st, lf, us, MK, N, lit, start, tr, lvl, rfl, hS, hw, hI⟩
theorem M_used {n k : Nat} {asl : Nat → Nat} {v : T_Mod} (h : ModI n k asl v) : ∃ v' r, m_Mod_used v = some (v', r) ∧ ModI n k asl v' := by
  obtain ⟨AS, kn, KT, KP, KS, kt, hA, hK, C, rc, LI, FR, TO, RC, hc, IC, len, RO, VA, LV, CA, PL, pr, st, lf, us, MK, N, lit, start, tr, lvl, rfl, hS, hw, hI⟩ := h
  exact ⟨(modT n C rc kn k LI FR TO RC KT KP KS AS hc IC len RO VA LV CA PL pr st lf us MK), _, rfl, AS, kn, KT, KP, KS, kt, hA, hK, C, rc, LI, FR, TO, RC, hc, IC, len, RO, VA, LV, CA, PL, pr, st, lf, us, MK, N, lit, start, tr, lvl, rfl, hS, hw, hI⟩
theorem M_state {n k : Nat} {asl : Nat → Nat} {v : T_Mod} (h : ModI n k asl v) : ∃ v' r, m_Mod_state v = some (v', r) ∧ ModI n k asl v' := by
  obtain ⟨AS, kn, KT, KP, KS, kt, hA, hK, C, rc, LI, FR, TO, RC, hc, IC, len, RO, VA, LV, CA, PL, pr, st, lf, us, MK, N, lit, start, tr, lvl, rfl, hS, hw, hI⟩ := h
  exact ⟨(modT n C rc kn k LI FR TO RC KT KP KS AS hc IC len RO VA LV CA PL pr st lf us MK), _, rfl, AS, kn, KT, KP, KS, kt, hA, hK, C, rc, LI, FR, TO, RC, hc, IC, len, RO, VA, LV, CA, PL, pr, st, lf, us, MK, N, lit, start, tr, lvl, rfl, hS, hw, hI⟩
theorem M_clauses {n k : Nat} {asl : Nat → Nat} {v : T_Mod} (h : ModI n k asl v) : ∃ v' r, m_Mod_clauses v = some (v', r) ∧ ModI n k asl v' := by
  obtain ⟨AS, kn, KT, KP, KS, kt, hA, hK, C, rc, LI, FR, TO, RC, hc, IC, len, RO, VA, LV, CA, PL, pr, st, lf, us, MK, N, lit, start, tr, lvl, rfl, hS, hw, hI⟩ := h
  exact ⟨(modT n C rc kn k LI FR TO RC KT KP KS AS hc IC len RO VA LV CA PL pr st lf us MK), _, rfl, AS, kn, KT, KP, KS, kt, hA, hK, C, rc, LI, FR, TO, RC, hc, IC, len, RO, VA, LV, CA, PL, pr, st, lf, us, MK, N, lit, start, tr, lvl, rfl, hS, hw, hI⟩
theorem M_fresh {n : Nat} (h0 : 1 ≤ n) (hn : n ≤ 300) : ModI n 0 (fun _ => 0) (mod0 n) :=
  ⟨fun _ => 0, 0, fun _ => 0, fun _ => 0, fun _ => 0, fun _ => 0, ⟨by omega, hn, fun i hi => absurd hi (by omega)⟩, ⟨fun j hj => absurd hj (by omega), fun i j hi => absurd hi (by omega)⟩, 0, 0, fun _ => 0, fun _ => 0, fun _ => 0, fun _ => 0, 0, fun _ => 0, 0, fun _ => 0, fun _ => 0, fun _ => 0, fun _ => 0, fun _ => 0, 0, 1, 0, 0, fun _ => 0, 0, fun _ => 0, fun _ => 0, fun _ => 0, fun _ => 0, rfl, ⟨⟨by omega, by omega, h0, hn⟩, fun c hc => rfl, rfl, fun c hc => absurd hc (by omega), fun s hs => absurd hs (by omega)⟩, ⟨by omega, fun j hj => absurd hj (by omega)⟩, fun q => absurd q (by decide)⟩
