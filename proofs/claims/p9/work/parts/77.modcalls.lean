/-! PURE, 27: the calls of the reference -/
/-- what kernel() was told: distinct things -/
def KerI (n kn : Nat) (KT : Nat → Int32) (kt : Nat → Nat) : Prop := (∀ j, j < kn → KT j = nI (kt j) ∧ kt j < n) ∧ ∀ i j, i < kn → j < kn → kt i = kt j → i = j
/-- the reference between calls, with n things and the assumptions asl 0 .. k-1 -/
def ModI (n k : Nat) (asl : Nat → Nat) (v : T_Mod) : Prop := ∃ AS kn KT KP KS kt, AssI n k AS asl ∧ KerI n kn KT kt ∧ ModE n k kn AS KT KP KS v
def kct (KP : Nat → Int32) (x : Int32) : Nat → Nat
  | 0 => 0
  | j + 1 => kct KP x j + (if KP j = x then 1 else 0)
theorem kct_le (KP : Nat → Int32) (x : Int32) : ∀ j, kct KP x j ≤ j := by
  intro j
  induction j with
  | zero => exact Nat.le_refl 0
  | succ j ih =>
    show kct KP x j + (if KP j = x then 1 else 0) ≤ j + 1
    by_cases h : KP j = x
    · rw [if_pos h]; omega
    · rw [if_neg h]; omega
theorem kct_mono (KP : Nat → Int32) (x : Int32) : ∀ d j, kct KP x j ≤ kct KP x (j + d) := by
  intro d
  induction d with
  | zero => intro j; exact Nat.le_refl _
  | succ d ih =>
    intro j
    exact Nat.le_trans (ih j) (Nat.le_add_right _ _)
theorem ker_le {n kn : Nat} {KT : Nat → Int32} {kt : Nat → Nat} (h : KerI n kn KT kt) : kn ≤ n := pig n kn kt (fun i hi => (h.1 i hi).2) h.2
section
variable {n C rc kn k : Nat} {LI FR TO RC KT KP KS AS : Nat → Int32} {hc : Int32} {IC : Nat → Int32} {len : Nat} {RO VA LV CA PL : Nat → Int32} {pr : Nat} {st : Int32} {lf us : Int64} {MK : Nat → Int32} {N : Nat} {lit start tr lvl : Nat → Nat} {asl kt : Nat → Nat}
/-- at rest, with STATE 1 -/
theorem modE1 (hS : ModS n C N LI FR lit start) (hw : RowI rc C RC) : ModE n k kn AS KT KP KS (modT n C rc kn k LI FR TO RC KT KP KS AS hc IC len RO VA LV CA PL pr 1 lf us MK) := ⟨C, rc, LI, FR, TO, RC, hc, IC, len, RO, VA, LV, CA, PL, pr, 1, lf, us, MK, N, lit, start, fun _ => 0, fun _ => 0, rfl, hS, hw, fun q => absurd q (by decide)⟩
theorem row_more (hw : RowI rc C RC) : RowI rc (C + 1) RC := ⟨by have := hw.1; omega, fun j hj => by
  obtain ⟨c, a, b⟩ := hw.2 j hj
  exact ⟨c, by omega, b⟩⟩
theorem row_more2 (hw : RowI rc C RC) (m : Nat) : RowI rc (C + m) RC := ⟨by have := hw.1; omega, fun j hj => by
  obtain ⟨c, a, b⟩ := hw.2 j hj
  exact ⟨c, by omega, b⟩⟩
theorem mnoThing (hn : n ≤ 300) (x : Int32) : (m_Mod_noThing (modT n C rc kn k LI FR TO RC KT KP KS AS hc IC len RO VA LV CA PL pr st lf us MK) x = some 1 ∧ ¬ ∃ t, t < n ∧ x = nI t) ∨ ∃ t, t < n ∧ x = nI t ∧ m_Mod_noThing (modT n C rc kn k LI FR TO RC KT KP KS AS hc IC len RO VA LV CA PL pr st lf us MK) x = some 0 := by
  have e : m_Mod_noThing (modT n C rc kn k LI FR TO RC KT KP KS AS hc IC len RO VA LV CA PL pr st lf us MK) x = (if x < 0 then some 1 else if x < nI n then some 0 else some 1) := rfl
  rw [e]
  rcases pk_ix x (n := n) (by omega) with h | h | ⟨j, hj, rfl⟩
  · refine Or.inl ⟨by rw [if_pos h], fun ⟨t, ht, e⟩ => ?_⟩
    rw [e] at h
    exact nI_pos (by omega) h
  · refine Or.inl ⟨?_, fun ⟨t, ht, e⟩ => ?_⟩
    · by_cases q : x < 0
      · rw [if_pos q]
      · have w : ¬ x < nI n := fun w => by
          rw [Int32.lt_iff_toInt_lt] at w
          rw [Int32.le_iff_toInt_le] at h
          omega
        rw [if_neg q, if_neg w]
    · rw [e] at h
      exact nI_ge ht (by omega) h
  · exact Or.inr ⟨j, hj, rfl, by rw [if_neg (nI_pos (by omega)), if_pos (nI_lt hj (by omega))]⟩
theorem mclause_ok (hS : ModS n C N LI FR lit start) (hw : RowI rc C RC) (hI : st = 3 → SInv n C len pr RO VA LV CA PL lit start tr lvl) : ∃ v r, m_Mod_clause (modT n C rc kn k LI FR TO RC KT KP KS AS hc IC len RO VA LV CA PL pr st lf us MK) = some (v, r) ∧ ModE n k kn AS KT KP KS v := by
  rcases mroom_ok (n := n) (C := C) (rc := rc) (kn := kn) (k := k) (LI := LI) (FR := FR) (TO := TO) (RC := RC) (KT := KT) (KP := KP) (KS := KS) (AS := AS) (hc := hc) (IC := IC) (len := len) (RO := RO) (VA := VA) (LV := LV) (CA := CA) (PL := PL) (pr := pr) (st := st) (lf := lf) (us := us) (MK := MK) hS (a := 1) (b := 0) (by omega) (by omega) with ⟨q1, q2, q3⟩ | ⟨q1, -⟩
  · obtain ⟨b1, b2⟩ := mbegin_ok (n := n) (C := C) (rc := rc) (kn := kn) (k := k) (LI := LI) (FR := FR) (TO := TO) (RC := RC) (KT := KT) (KP := KP) (KS := KS) (AS := AS) (hc := hc) (IC := IC) (len := len) (RO := RO) (VA := VA) (LV := LV) (CA := CA) (PL := PL) (pr := pr) (st := st) (lf := lf) (us := us) (MK := MK) hS q2 1
    refine ⟨(modT n (C + 1) rc kn k LI (upd FR (C + 1) (nI N)) (upd TO C ((1 : Int32) &&& 1)) RC KT KP KS AS hc IC len RO VA LV CA PL pr 1 lf us MK), nI (C + 1) - 1, ?_, modE1 b2 (row_more hw)⟩
    unfold m_Mod_clause
    rw [show m_Mod_room (modT n C rc kn k LI FR TO RC KT KP KS AS hc IC len RO VA LV CA PL pr st lf us MK) 1 0 = some 1 from q1, bind_s, if_neg (by decide), show m_Mod_begin (modT n C rc kn k LI FR TO RC KT KP KS AS hc IC len RO VA LV CA PL pr st lf us MK) 1 = _ from b1, bind_s]
  · refine ⟨(modT n C rc kn k LI FR TO RC KT KP KS AS hc IC len RO VA LV CA PL pr st lf us MK), -1, ?_, C, rc, LI, FR, TO, RC, hc, IC, len, RO, VA, LV, CA, PL, pr, st, lf, us, MK, N, lit, start, tr, lvl, rfl, hS, hw, hI⟩
    unfold m_Mod_clause
    rw [show m_Mod_room (modT n C rc kn k LI FR TO RC KT KP KS AS hc IC len RO VA LV CA PL pr st lf us MK) 1 0 = some 0 from q1, bind_s, if_pos rfl]
theorem mliteral_L (hS : ModS n C N LI FR lit start) (hw : RowI rc C RC) (hI : st = 3 → SInv n C len pr RO VA LV CA PL lit start tr lvl) (hC1 : 1 ≤ C) {l : Nat} (hl : l < 2 * n) : ∀ (d i f : Nat), i + d = N → d < f → ∃ v r, m_Mod_literal_L61 f (modT n C rc kn k LI FR TO RC KT KP KS AS hc IC len RO VA LV CA PL pr st lf us MK) (nI (C - 1)) (nI l) (nI i) = some (v, r) ∧ ModE n k kn AS KT KP KS v := by
  obtain ⟨⟨y1, y2, y3, y4⟩, y5, y6, y7, y8⟩ := id hS
  have eF : ∀ f i, m_Mod_literal_L61 (f + 1) (modT n C rc kn k LI FR TO RC KT KP KS AS hc IC len RO VA LV CA PL pr st lf us MK) (nI (C - 1)) (nI l) (nI i) = (if ¬ (nI (C - 1) + 1 < 0 ∨ 1502 ≤ (nI (C - 1) + 1).toNatClampNeg) then (if FR (nI (C - 1) + 1).toNatClampNeg ≤ nI i then (if ¬ (nI C < 0 ∨ 1502 ≤ (nI C).toNatClampNeg) then (if FR (nI C).toNatClampNeg = (20000 : Int32) then some ((modT n C rc kn k LI FR TO RC KT KP KS AS hc IC len RO VA LV CA PL pr st lf us MK), 0) else if ¬ (nI C < 0 ∨ 1502 ≤ (nI C).toNatClampNeg) then (if ¬ (nI (C - 1) < 0 ∨ 1502 ≤ (nI (C - 1)).toNatClampNeg) then (if FR (nI C).toNatClampNeg - FR (nI (C - 1)).toNatClampNeg = (60 : Int32) then some ((modT n C rc kn k LI FR TO RC KT KP KS AS hc IC len RO VA LV CA PL pr st lf us MK), 0) else (m_Mod_put (modT n C rc kn k LI FR TO RC KT KP KS AS hc IC len RO VA LV CA PL pr st lf us MK) (nI l)).bind fun r9 => some ((r9.1, r9.2.1, r9.2.2.1, r9.2.2.2.1, r9.2.2.2.2.1, r9.2.2.2.2.2.1, r9.2.2.2.2.2.2.1, r9.2.2.2.2.2.2.2.1, r9.2.2.2.2.2.2.2.2.1, r9.2.2.2.2.2.2.2.2.2.1, r9.2.2.2.2.2.2.2.2.2.2.1, r9.2.2.2.2.2.2.2.2.2.2.2.1, r9.2.2.2.2.2.2.2.2.2.2.2.2.1, r9.2.2.2.2.2.2.2.2.2.2.2.2.2.1, r9.2.2.2.2.2.2.2.2.2.2.2.2.2.2.1, r9.2.2.2.2.2.2.2.2.2.2.2.2.2.2.2.1, r9.2.2.2.2.2.2.2.2.2.2.2.2.2.2.2.2.1, r9.2.2.2.2.2.2.2.2.2.2.2.2.2.2.2.2.2.1, r9.2.2.2.2.2.2.2.2.2.2.2.2.2.2.2.2.2.2.1, r9.2.2.2.2.2.2.2.2.2.2.2.2.2.2.2.2.2.2.2.1, r9.2.2.2.2.2.2.2.2.2.2.2.2.2.2.2.2.2.2.2.2.1, r9.2.2.2.2.2.2.2.2.2.2.2.2.2.2.2.2.2.2.2.2.2.1, r9.2.2.2.2.2.2.2.2.2.2.2.2.2.2.2.2.2.2.2.2.2.2.1, (1 : Int32), r9.2.2.2.2.2.2.2.2.2.2.2.2.2.2.2.2.2.2.2.2.2.2.2.2.1, r9.2.2.2.2.2.2.2.2.2.2.2.2.2.2.2.2.2.2.2.2.2.2.2.2.2.1, r9.2.2.2.2.2.2.2.2.2.2.2.2.2.2.2.2.2.2.2.2.2.2.2.2.2.2), (1 : Int32))) else none) else none) else none) else if ¬ (nI i < 0 ∨ 20000 ≤ (nI i).toNatClampNeg) then (if LI (nI i).toNatClampNeg = nI l then some ((modT n C rc kn k LI FR TO RC KT KP KS AS hc IC len RO VA LV CA PL pr st lf us MK), 0) else m_Mod_literal_L61 f (modT n C rc kn k LI FR TO RC KT KP KS AS hc IC len RO VA LV CA PL pr st lf us MK) (nI (C - 1)) (nI l) (nI i + 1)) else none) else none) := fun f i => rfl
  have same : ModE n k kn AS KT KP KS (modT n C rc kn k LI FR TO RC KT KP KS AS hc IC len RO VA LV CA PL pr st lf us MK) := ⟨C, rc, LI, FR, TO, RC, hc, IC, len, RO, VA, LV, CA, PL, pr, st, lf, us, MK, N, lit, start, tr, lvl, rfl, hS, hw, hI⟩
  have ec : C - 1 + 1 = C := by omega
  have gC : ¬ (nI C < 0 ∨ 1502 ≤ (nI C).toNatClampNeg) := nI_in (by omega) (by omega)
  have gD := gC
  rw [nI_clamp (n := C) (by omega)] at gD
  intro d
  induction d with
  | zero =>
    intro i f e hf
    obtain ⟨f, rfl⟩ : ∃ g, f = g + 1 := ⟨f - 1, by omega⟩
    rw [eF, nI_1, ec, if_pos gC, nI_clamp (n := C) (by omega), y5 C (Nat.le_refl C), y6, if_pos (nI_le (by omega) (by omega)), if_pos gD]
    by_cases q : nI N = (20000 : Int32)
    · rw [if_pos q]
      exact ⟨_, _, rfl, same⟩
    · have hN : N + 1 ≤ 20000 := by
        by_cases w : N = 20000
        · exact absurd (by rw [w]; rfl) q
        · omega
      rw [if_neg q, if_pos gD, if_pos (nI_in (by omega) (by omega))]
      by_cases q2 : nI N - FR (nI (C - 1)).toNatClampNeg = (60 : Int32)
      · rw [if_pos q2]
        exact ⟨_, _, rfl, same⟩
      · obtain ⟨p1, p2⟩ := mput_ok (n := n) (C := C) (rc := rc) (kn := kn) (k := k) (LI := LI) (FR := FR) (TO := TO) (RC := RC) (KT := KT) (KP := KP) (KS := KS) (AS := AS) (hc := hc) (IC := IC) (len := len) (RO := RO) (VA := VA) (LV := LV) (CA := CA) (PL := PL) (pr := pr) (st := st) (lf := lf) (us := us) (MK := MK) hS hN hl
        rw [if_neg q2, p1, bind_s]
        exact ⟨(modT n C rc kn k (upd LI N (nI l)) (upd FR C (nI (N + 1))) TO RC KT KP KS AS hc IC len RO VA LV CA PL pr 1 lf us MK), 1, rfl, modE1 p2 hw⟩
  | succ d ih =>
    intro i f e hf
    obtain ⟨f, rfl⟩ : ∃ g, f = g + 1 := ⟨f - 1, by omega⟩
    rw [eF, nI_1, ec, if_pos gC, nI_clamp (n := C) (by omega), y5 C (Nat.le_refl C), y6, if_neg (nI_ge (by omega) (by omega)), if_pos (nI_in (by omega) (by omega)), nI_1]
    by_cases q : LI (nI i).toNatClampNeg = nI l
    · rw [if_pos q]
      exact ⟨_, _, rfl, same⟩
    · rw [if_neg q]
      exact ih (i + 1) f (by omega) (by omega)
theorem mliteral_ok (hS : ModS n C N LI FR lit start) (hw : RowI rc C RC) (hI : st = 3 → SInv n C len pr RO VA LV CA PL lit start tr lvl) (x1 x2 x3 : Int32) : ∃ v r, m_Mod_literal (modT n C rc kn k LI FR TO RC KT KP KS AS hc IC len RO VA LV CA PL pr st lf us MK) x1 x2 x3 = some (v, r) ∧ ModE n k kn AS KT KP KS v := by
  obtain ⟨⟨y1, y2, y3, y4⟩, y5, y6, y7, y8⟩ := id hS
  have same : ModE n k kn AS KT KP KS (modT n C rc kn k LI FR TO RC KT KP KS AS hc IC len RO VA LV CA PL pr st lf us MK) := ⟨C, rc, LI, FR, TO, RC, hc, IC, len, RO, VA, LV, CA, PL, pr, st, lf, us, MK, N, lit, start, tr, lvl, rfl, hS, hw, hI⟩
  have e : m_Mod_literal (modT n C rc kn k LI FR TO RC KT KP KS AS hc IC len RO VA LV CA PL pr st lf us MK) x1 x2 x3 = (if x1 < 0 then some ((modT n C rc kn k LI FR TO RC KT KP KS AS hc IC len RO VA LV CA PL pr st lf us MK), 0) else if x1 = nI C - 1 then (if ¬ (x1 < 0 ∨ 1501 ≤ x1.toNatClampNeg) then (if TO x1.toNatClampNeg = 0 then some ((modT n C rc kn k LI FR TO RC KT KP KS AS hc IC len RO VA LV CA PL pr st lf us MK), 0) else (m_Mod_noThing (modT n C rc kn k LI FR TO RC KT KP KS AS hc IC len RO VA LV CA PL pr st lf us MK) x2).bind fun r14 => if r14 = 0 then (if x3 = 0 then (if ¬ (x1 < 0 ∨ 1502 ≤ x1.toNatClampNeg) then m_Mod_literal_L61 fu (modT n C rc kn k LI FR TO RC KT KP KS AS hc IC len RO VA LV CA PL pr st lf us MK) x1 ((2 : Int32) * x2 + 0) (FR x1.toNatClampNeg) else none) else (if ¬ (x1 < 0 ∨ 1502 ≤ x1.toNatClampNeg) then m_Mod_literal_L61 fu (modT n C rc kn k LI FR TO RC KT KP KS AS hc IC len RO VA LV CA PL pr st lf us MK) x1 ((2 : Int32) * x2 + 1) (FR x1.toNatClampNeg) else none)) else some ((modT n C rc kn k LI FR TO RC KT KP KS AS hc IC len RO VA LV CA PL pr st lf us MK), 0)) else none) else some ((modT n C rc kn k LI FR TO RC KT KP KS AS hc IC len RO VA LV CA PL pr st lf us MK), 0)) := rfl
  rw [e]
  by_cases q1 : x1 < 0
  · rw [if_pos q1]
    exact ⟨_, _, rfl, same⟩
  · rw [if_neg q1]
    by_cases q2 : x1 = nI C - 1
    · have hC1 : 1 ≤ C := by
        by_cases w : C = 0
        · rw [w] at q2
          exact absurd (by rw [q2]; decide) q1
        · omega
      have e3 : nI C - 1 = nI (C - 1) := pk_sub (b := 1) hC1
      rw [if_pos q2]
      rw [e3] at q2
      subst q2
      rw [if_pos (nI_in (by omega) (by omega))]
      by_cases q3 : TO (nI (C - 1)).toNatClampNeg = 0
      · rw [if_pos q3]
        exact ⟨_, _, rfl, same⟩
      · rw [if_neg q3]
        rcases mnoThing (n := n) (C := C) (rc := rc) (kn := kn) (k := k) (LI := LI) (FR := FR) (TO := TO) (RC := RC) (KT := KT) (KP := KP) (KS := KS) (AS := AS) (hc := hc) (IC := IC) (len := len) (RO := RO) (VA := VA) (LV := LV) (CA := CA) (PL := PL) (pr := pr) (st := st) (lf := lf) (us := us) (MK := MK) y4 x2 with ⟨w, -⟩ | ⟨t, ht, rfl, w⟩
        · rw [w, bind_s, if_neg (by decide)]
          exact ⟨_, _, rfl, same⟩
        · have st1 := ms_le hS (c := C - 1) (by omega)
          have e4 : (2 : Int32) * nI t = nI (2 * t) := pk_mul 2 t
          rw [w, bind_s, if_pos rfl, if_pos (nI_in (by omega) (by omega)), if_pos (nI_in (by omega) (by omega)), nI_clamp (n := C - 1) (by omega), y5 (C - 1) (by omega), e4, nI_1, show nI (2 * t) + 0 = nI (2 * t) from nI_add (2 * t) 0]
          by_cases q4 : x3 = 0
          · rw [if_pos q4]
            exact mliteral_L hS hw hI hC1 (by omega) (N - start (C - 1)) (start (C - 1)) fu (by omega) (by unfold fu; omega)
          · rw [if_neg q4]
            exact mliteral_L hS hw hI hC1 (by omega) (N - start (C - 1)) (start (C - 1)) fu (by omega) (by unfold fu; omega)
    · rw [if_neg q2]
      exact ⟨_, _, rfl, same⟩
theorem mkern130 (hK : KerI n kn KT kt) {t : Nat} (ht : t < n) (hnew : ∀ j, j < kn → ¬ kt j = t) (x2 x3 : Int32) {C0 N0 : Nat} (h1 : C0 + kct KP x2 kn ≤ 1500) (h2 : N0 + 2 * kct KP x2 kn ≤ 20000) (hw : RowI rc C0 RC) : ∀ (d j f : Nat) (LI FR TO : Nat → Int32) (lit start : Nat → Nat), j + d = kn → d < f → ModS n (C0 + kct KP x2 j) (N0 + 2 * kct KP x2 j) LI FR lit start → ∃ v, m_Mod_kernel_L130 f (modT n (C0 + kct KP x2 j) rc kn k LI FR TO RC KT KP KS AS hc IC len RO VA LV CA PL pr st lf us MK) (nI t) x2 x3 (nI j) = some (v, 1) ∧ ∃ KT' KP' KS' kt', KerI n (kn + 1) KT' kt' ∧ ModE n k (kn + 1) AS KT' KP' KS' v := by
  have hk := ker_le hK
  have eF : ∀ f C LI FR TO j, m_Mod_kernel_L130 (f + 1) (modT n C rc kn k LI FR TO RC KT KP KS AS hc IC len RO VA LV CA PL pr st lf us MK) (nI t) x2 x3 j = (if nI kn ≤ j then (if ¬ (nI kn < 0 ∨ 300 ≤ (nI kn).toNatClampNeg) then (if ¬ (nI kn < 0 ∨ 300 ≤ (nI kn).toNatClampNeg) then (if ¬ (nI kn < 0 ∨ 300 ≤ (nI kn).toNatClampNeg) then some ((0, nI n, (20000, LI), (1502, FR), (1501, TO), nI C, nI rc, (1500, RC), nI kn + 1, (300, upd KT (nI kn).toNatClampNeg (nI t)), (300, upd KP (nI kn).toNatClampNeg x2), (300, upd KS (nI kn).toNatClampNeg x3), nI k, (40, AS), hc, (40, IC), nI len, (300, RO), (300, VA), (300, LV), (300, CA), (300, PL), nI pr, (1 : Int32), lf, us, (600, MK)), (1 : Int32)) else none) else none) else none) else if ¬ (j < 0 ∨ 300 ≤ j.toNatClampNeg) then (if KP j.toNatClampNeg = x2 then ((m_Mod_begin (modT n C rc kn k LI FR TO RC KT KP KS AS hc IC len RO VA LV CA PL pr st lf us MK) 0).bind fun r15 => if ¬ (j < 0 ∨ r15.2.2.2.2.2.2.2.2.2.1.1 ≤ j.toNatClampNeg) then ((m_Mod_put r15 ((2 : Int32) * r15.2.2.2.2.2.2.2.2.2.1.2 j.toNatClampNeg)).bind fun r18 => (m_Mod_put r18 ((2 : Int32) * nI t)).bind fun r20 => m_Mod_kernel_L130 f r20 (nI t) x2 x3 (j + 1)) else none) else m_Mod_kernel_L130 f (modT n C rc kn k LI FR TO RC KT KP KS AS hc IC len RO VA LV CA PL pr st lf us MK) (nI t) x2 x3 (j + 1)) else none) := fun f C LI FR TO j => rfl
  have e2 : (2 : Int32) * nI t = nI (2 * t) := pk_mul 2 t
  intro d
  induction d with
  | zero =>
    intro j f LI FR TO lit start e hf hS
    obtain ⟨f, rfl⟩ : ∃ g, f = g + 1 := ⟨f - 1, by omega⟩
    have hn := hS.1
    have ej : j = kn := by omega
    subst ej
    have hlt : j < n := by
      have := pig n (j + 1) (fun i => if i < j then kt i else t) (fun i hi => by
        show (if i < j then kt i else t) < n
        by_cases q : i < j
        · rw [if_pos q]; exact (hK.1 i q).2
        · rw [if_neg q]; exact ht) (fun i i' hi hi' y => by
        have y' : (if i < j then kt i else t) = (if i' < j then kt i' else t) := y
        by_cases q : i < j
        · rw [if_pos q] at y'
          by_cases w : i' < j
          · rw [if_pos w] at y'
            exact hK.2 i i' q w y'
          · rw [if_neg w] at y'
            exact absurd y' (hnew i q)
        · rw [if_neg q] at y'
          by_cases w : i' < j
          · rw [if_pos w] at y'
            exact absurd y'.symm (hnew i' w)
          · omega)
      omega
    have gk : ¬ (nI j < 0 ∨ 300 ≤ (nI j).toNatClampNeg) := nI_in (by omega) (by omega)
    rw [eF, if_pos (nI_le (Nat.le_refl _) (by omega)), if_pos gk, if_pos gk, if_pos gk, nI_1, nI_clamp (n := j) (by omega)]
    refine ⟨_, rfl, upd KT j (nI t), upd KP j x2, upd KS j x3, va_up kt j t, ⟨fun i hi => ?_, fun i i' hi hi' y => ?_⟩, modE1 (kn := j + 1) (KT := upd KT j (nI t)) (KP := upd KP j x2) (KS := upd KS j x3) hS (row_more2 hw _)⟩
    · by_cases q : i = j
      · rw [q, pk_us, up_s]; exact ⟨rfl, ht⟩
      · rw [pk_un q, up_n _ _ q]
        exact hK.1 i (by omega)
    · by_cases q : i = j
      · by_cases w : i' = j
        · omega
        · rw [q, up_s, up_n _ _ w] at y
          exact absurd y.symm (hnew i' (by omega))
      · by_cases w : i' = j
        · rw [w, up_s, up_n _ _ q] at y
          exact absurd y (hnew i (by omega))
        · rw [up_n _ _ q, up_n _ _ w] at y
          exact hK.2 i i' (by omega) (by omega) y
  | succ d ih =>
    intro j f LI FR TO lit start e hf hS
    obtain ⟨f, rfl⟩ : ∃ g, f = g + 1 := ⟨f - 1, by omega⟩
    have hn := hS.1
    obtain ⟨k1, k2⟩ := hK.1 j (by omega)
    have e5 : (2 : Int32) * nI (kt j) = nI (2 * kt j) := pk_mul 2 (kt j)
    have gj : ¬ (nI j < 0 ∨ 300 ≤ (nI j).toNatClampNeg) := nI_in (by omega) (by omega)
    have hcm : kct KP x2 (j + 1) = kct KP x2 j + (if KP j = x2 then 1 else 0) := rfl
    have mo := kct_mono KP x2 (kn - (j + 1)) (j + 1)
    rw [show j + 1 + (kn - (j + 1)) = kn by omega] at mo
    rw [eF, if_neg (nI_ge (by omega) (by omega)), if_pos gj, nI_clamp (n := j) (by omega), nI_1]
    by_cases q : KP j = x2
    · rw [if_pos q] at hcm
      obtain ⟨b1, b2⟩ := mbegin_ok (n := n) (C := C0 + kct KP x2 j) (rc := rc) (kn := kn) (k := k) (LI := LI) (FR := FR) (TO := TO) (RC := RC) (KT := KT) (KP := KP) (KS := KS) (AS := AS) (hc := hc) (IC := IC) (len := len) (RO := RO) (VA := VA) (LV := LV) (CA := CA) (PL := PL) (pr := pr) (st := st) (lf := lf) (us := us) (MK := MK) hS (by omega) 0
      obtain ⟨p1, p2⟩ := mput_ok (n := n) (C := C0 + kct KP x2 j + 1) (rc := rc) (kn := kn) (k := k) (LI := LI) (FR := upd FR (C0 + kct KP x2 j + 1) (nI (N0 + 2 * kct KP x2 j))) (TO := upd TO (C0 + kct KP x2 j) (0 &&& 1)) (RC := RC) (KT := KT) (KP := KP) (KS := KS) (AS := AS) (hc := hc) (IC := IC) (len := len) (RO := RO) (VA := VA) (LV := LV) (CA := CA) (PL := PL) (pr := pr) (st := st) (lf := lf) (us := us) (MK := MK) b2 (by omega) (l := 2 * kt j) (by omega)
      obtain ⟨p3, p4⟩ := mput_ok (n := n) (C := C0 + kct KP x2 j + 1) (rc := rc) (kn := kn) (k := k) (LI := upd LI (N0 + 2 * kct KP x2 j) (nI (2 * kt j))) (FR := upd (upd FR (C0 + kct KP x2 j + 1) (nI (N0 + 2 * kct KP x2 j))) (C0 + kct KP x2 j + 1) (nI (N0 + 2 * kct KP x2 j + 1))) (TO := upd TO (C0 + kct KP x2 j) (0 &&& 1)) (RC := RC) (KT := KT) (KP := KP) (KS := KS) (AS := AS) (hc := hc) (IC := IC) (len := len) (RO := RO) (VA := VA) (LV := LV) (CA := CA) (PL := PL) (pr := pr) (st := st) (lf := lf) (us := us) (MK := MK) p2 (by omega) (l := 2 * t) (by omega)
      rw [if_pos q, b1, bind_s, if_pos (by have := gj; rw [nI_clamp (n := j) (by omega)] at this; exact this)]
      show ∃ v, ((m_Mod_put (modT n (C0 + kct KP x2 j + 1) rc kn k LI (upd FR (C0 + kct KP x2 j + 1) (nI (N0 + 2 * kct KP x2 j))) (upd TO (C0 + kct KP x2 j) (0 &&& 1)) RC KT KP KS AS hc IC len RO VA LV CA PL pr st lf us MK) ((2 : Int32) * KT j)).bind fun r18 => (m_Mod_put r18 ((2 : Int32) * nI t)).bind fun r20 => m_Mod_kernel_L130 f r20 (nI t) x2 x3 (nI (j + 1))) = some (v, 1) ∧ _
      rw [k1, e5, p1, bind_s, e2, p3, bind_s]
      have e6 : C0 + kct KP x2 (j + 1) = C0 + kct KP x2 j + 1 := by omega
      have e7 : N0 + 2 * kct KP x2 (j + 1) = N0 + 2 * kct KP x2 j + 1 + 1 := by omega
      have := ih (j + 1) f _ _ (upd TO (C0 + kct KP x2 j) (0 &&& 1)) _ _ (by omega) (by omega) (by rw [e6, e7]; exact p4)
      rw [e6] at this
      exact this
    · rw [if_neg q] at hcm
      rw [if_neg q]
      have e6 : kct KP x2 (j + 1) = kct KP x2 j := by omega
      have := ih (j + 1) f LI FR TO lit start (by omega) (by omega) (by rw [e6]; exact hS)
      rw [e6] at this
      exact this
theorem mkern41 (hS : ModS n C N LI FR lit start) (hK : KerI n kn KT kt) (hw : RowI rc C RC) (hI : st = 3 → SInv n C len pr RO VA LV CA PL lit start tr lvl) {t : Nat} (ht : t < n) (x2 x3 : Int32) : ∀ (d j f : Nat), j + d = kn → d < f → (∀ i, i < j → ¬ kt i = t) → ∃ v r, m_Mod_kernel_L41 f (modT n C rc kn k LI FR TO RC KT KP KS AS hc IC len RO VA LV CA PL pr st lf us MK) (nI t) x2 x3 (nI (kct KP x2 j)) (nI j) = some (v, r) ∧ ∃ kn' KT' KP' KS' kt', KerI n kn' KT' kt' ∧ ModE n k kn' AS KT' KP' KS' v := by
  obtain ⟨⟨y1, y2, y3, y4⟩, y5, y6, y7, y8⟩ := id hS
  have hk := ker_le hK
  have same : ∃ kn' KT' KP' KS' kt', KerI n kn' KT' kt' ∧ ModE n k kn' AS KT' KP' KS' (modT n C rc kn k LI FR TO RC KT KP KS AS hc IC len RO VA LV CA PL pr st lf us MK) := ⟨kn, KT, KP, KS, kt, hK, C, rc, LI, FR, TO, RC, hc, IC, len, RO, VA, LV, CA, PL, pr, st, lf, us, MK, N, lit, start, tr, lvl, rfl, hS, hw, hI⟩
  have eF : ∀ f x4 j, m_Mod_kernel_L41 (f + 1) (modT n C rc kn k LI FR TO RC KT KP KS AS hc IC len RO VA LV CA PL pr st lf us MK) (nI t) x2 x3 x4 j = (if nI kn ≤ j then ((m_Mod_room (modT n C rc kn k LI FR TO RC KT KP KS AS hc IC len RO VA LV CA PL pr st lf us MK) x4 ((2 : Int32) * x4)).bind fun r23 => if r23 = 0 then some ((modT n C rc kn k LI FR TO RC KT KP KS AS hc IC len RO VA LV CA PL pr st lf us MK), 0) else m_Mod_kernel_L130 fu (modT n C rc kn k LI FR TO RC KT KP KS AS hc IC len RO VA LV CA PL pr st lf us MK) (nI t) x2 x3 0) else if ¬ (j < 0 ∨ 300 ≤ j.toNatClampNeg) then (if KT j.toNatClampNeg = nI t then some ((modT n C rc kn k LI FR TO RC KT KP KS AS hc IC len RO VA LV CA PL pr st lf us MK), 0) else if ¬ (j < 0 ∨ 300 ≤ j.toNatClampNeg) then (if KP j.toNatClampNeg = x2 then (if ¬ (j < 0 ∨ 300 ≤ j.toNatClampNeg) then (if KS j.toNatClampNeg = x3 then some ((modT n C rc kn k LI FR TO RC KT KP KS AS hc IC len RO VA LV CA PL pr st lf us MK), 0) else if ¬ (j < 0 ∨ 300 ≤ j.toNatClampNeg) then (if KP j.toNatClampNeg = x2 then m_Mod_kernel_L41 f (modT n C rc kn k LI FR TO RC KT KP KS AS hc IC len RO VA LV CA PL pr st lf us MK) (nI t) x2 x3 (x4 + 1) (j + 1) else m_Mod_kernel_L41 f (modT n C rc kn k LI FR TO RC KT KP KS AS hc IC len RO VA LV CA PL pr st lf us MK) (nI t) x2 x3 (x4 + 0) (j + 1)) else none) else none) else if ¬ (j < 0 ∨ 300 ≤ j.toNatClampNeg) then (if KP j.toNatClampNeg = x2 then m_Mod_kernel_L41 f (modT n C rc kn k LI FR TO RC KT KP KS AS hc IC len RO VA LV CA PL pr st lf us MK) (nI t) x2 x3 (x4 + 1) (j + 1) else m_Mod_kernel_L41 f (modT n C rc kn k LI FR TO RC KT KP KS AS hc IC len RO VA LV CA PL pr st lf us MK) (nI t) x2 x3 (x4 + 0) (j + 1)) else none) else none) else none) := fun f x4 j => rfl
  intro d
  induction d with
  | zero =>
    intro j f e hf hnew
    obtain ⟨f, rfl⟩ : ∃ g, f = g + 1 := ⟨f - 1, by omega⟩
    have ej : j = kn := by omega
    subst ej
    have hq := kct_le KP x2 j
    have e2 : (2 : Int32) * nI (kct KP x2 j) = nI (2 * kct KP x2 j) := pk_mul 2 _
    rw [eF, if_pos (nI_le (Nat.le_refl _) (by omega)), e2]
    rcases mroom_ok (n := n) (C := C) (rc := rc) (kn := j) (k := k) (LI := LI) (FR := FR) (TO := TO) (RC := RC) (KT := KT) (KP := KP) (KS := KS) (AS := AS) (hc := hc) (IC := IC) (len := len) (RO := RO) (VA := VA) (LV := LV) (CA := CA) (PL := PL) (pr := pr) (st := st) (lf := lf) (us := us) (MK := MK) hS (a := kct KP x2 j) (b := 2 * kct KP x2 j) (by omega) (by omega) with ⟨q1, q2, q3⟩ | ⟨q1, -⟩
    · rw [q1, bind_s, if_neg (by decide)]
      obtain ⟨v, w1, KT', KP', KS', kt', w2, w3⟩ := mkern130 (n := n) (rc := rc) (kn := j) (k := k) (RC := RC) (KT := KT) (KP := KP) (KS := KS) (AS := AS) (hc := hc) (IC := IC) (len := len) (RO := RO) (VA := VA) (LV := LV) (CA := CA) (PL := PL) (pr := pr) (st := st) (lf := lf) (us := us) (MK := MK) hK ht hnew x2 x3 (C0 := C) (N0 := N) q2 q3 hw j 0 fu LI FR TO lit start (by omega) (by unfold fu; omega) hS
      exact ⟨v, 1, w1, j + 1, KT', KP', KS', kt', w2, w3⟩
    · rw [q1, bind_s, if_pos rfl]
      exact ⟨_, _, rfl, same⟩
  | succ d ih =>
    intro j f e hf hnew
    obtain ⟨f, rfl⟩ : ∃ g, f = g + 1 := ⟨f - 1, by omega⟩
    obtain ⟨k1, k2⟩ := hK.1 j (by omega)
    have gj : ¬ (nI j < 0 ∨ 300 ≤ (nI j).toNatClampNeg) := nI_in (by omega) (by omega)
    have gk := gj
    rw [nI_clamp (n := j) (by omega)] at gk
    have hcm : kct KP x2 (j + 1) = kct KP x2 j + (if KP j = x2 then 1 else 0) := rfl
    rw [eF, if_neg (nI_ge (by omega) (by omega)), if_pos gj, nI_clamp (n := j) (by omega), k1, nI_1 j]
    by_cases q : kt j = t
    · rw [if_pos (by rw [q])]
      exact ⟨_, _, rfl, same⟩
    · have hnew' : ∀ i, i < j + 1 → ¬ kt i = t := fun i hi => by
        by_cases w : i = j
        · rw [w]; exact q
        · exact hnew i (by omega)
      rw [if_neg (fun y => q ((nI_eq (by omega) (by omega)).mp y)), if_pos gk]
      by_cases w : KP j = x2
      · rw [if_pos w, if_pos gk]
        by_cases w2 : KS j = x3
        · rw [if_pos w2]
          exact ⟨_, _, rfl, same⟩
        · rw [if_neg w2, if_pos gk, if_pos w, nI_1]
          rw [if_pos w] at hcm
          have := ih (j + 1) f (by omega) (by omega) hnew'
          rw [hcm] at this
          exact this
      · rw [if_neg w, if_pos gk, if_neg w, show nI (kct KP x2 j) + 0 = nI (kct KP x2 j) from nI_add _ 0]
        rw [if_neg w] at hcm
        have := ih (j + 1) f (by omega) (by omega) hnew'
        rw [hcm] at this
        exact this
theorem mkernel_ok (hS : ModS n C N LI FR lit start) (hK : KerI n kn KT kt) (hw : RowI rc C RC) (hI : st = 3 → SInv n C len pr RO VA LV CA PL lit start tr lvl) (x1 x2 x3 : Int32) : ∃ v r, m_Mod_kernel (modT n C rc kn k LI FR TO RC KT KP KS AS hc IC len RO VA LV CA PL pr st lf us MK) x1 x2 x3 = some (v, r) ∧ ∃ kn' KT' KP' KS' kt', KerI n kn' KT' kt' ∧ ModE n k kn' AS KT' KP' KS' v := by
  have hn := hS.1
  have hk := ker_le hK
  have same : ∃ kn' KT' KP' KS' kt', KerI n kn' KT' kt' ∧ ModE n k kn' AS KT' KP' KS' (modT n C rc kn k LI FR TO RC KT KP KS AS hc IC len RO VA LV CA PL pr st lf us MK) := ⟨kn, KT, KP, KS, kt, hK, C, rc, LI, FR, TO, RC, hc, IC, len, RO, VA, LV, CA, PL, pr, st, lf, us, MK, N, lit, start, tr, lvl, rfl, hS, hw, hI⟩
  have e : m_Mod_kernel (modT n C rc kn k LI FR TO RC KT KP KS AS hc IC len RO VA LV CA PL pr st lf us MK) x1 x2 x3 = ((m_Mod_noThing (modT n C rc kn k LI FR TO RC KT KP KS AS hc IC len RO VA LV CA PL pr st lf us MK) x1).bind fun r28 => if r28 = 0 then (if x2 < 0 then some ((modT n C rc kn k LI FR TO RC KT KP KS AS hc IC len RO VA LV CA PL pr st lf us MK), 0) else if (65535 : Int32) < x2 then some ((modT n C rc kn k LI FR TO RC KT KP KS AS hc IC len RO VA LV CA PL pr st lf us MK), 0) else if x3 < 0 then some ((modT n C rc kn k LI FR TO RC KT KP KS AS hc IC len RO VA LV CA PL pr st lf us MK), 0) else if x3 ≤ (65535 : Int32) then m_Mod_kernel_L41 fu (modT n C rc kn k LI FR TO RC KT KP KS AS hc IC len RO VA LV CA PL pr st lf us MK) x1 x2 x3 0 0 else some ((modT n C rc kn k LI FR TO RC KT KP KS AS hc IC len RO VA LV CA PL pr st lf us MK), 0)) else some ((modT n C rc kn k LI FR TO RC KT KP KS AS hc IC len RO VA LV CA PL pr st lf us MK), 0)) := rfl
  rw [e]
  rcases mnoThing (n := n) (C := C) (rc := rc) (kn := kn) (k := k) (LI := LI) (FR := FR) (TO := TO) (RC := RC) (KT := KT) (KP := KP) (KS := KS) (AS := AS) (hc := hc) (IC := IC) (len := len) (RO := RO) (VA := VA) (LV := LV) (CA := CA) (PL := PL) (pr := pr) (st := st) (lf := lf) (us := us) (MK := MK) hn.2.2.2 x1 with ⟨w, -⟩ | ⟨t, ht, rfl, w⟩
  · rw [w, bind_s, if_neg (by decide)]
    exact ⟨_, _, rfl, same⟩
  · rw [w, bind_s, if_pos rfl]
    by_cases q1 : x2 < 0
    · rw [if_pos q1]; exact ⟨_, _, rfl, same⟩
    · rw [if_neg q1]
      by_cases q2 : (65535 : Int32) < x2
      · rw [if_pos q2]; exact ⟨_, _, rfl, same⟩
      · rw [if_neg q2]
        by_cases q3 : x3 < 0
        · rw [if_pos q3]; exact ⟨_, _, rfl, same⟩
        · rw [if_neg q3]
          by_cases q4 : x3 ≤ (65535 : Int32)
          · rw [if_pos q4]
            exact mkern41 hS hK hw hI ht x2 x3 kn 0 fu (by omega) (by unfold fu; omega) (fun i hi => absurd hi (by omega))
          · rw [if_neg q4]; exact ⟨_, _, rfl, same⟩
end
