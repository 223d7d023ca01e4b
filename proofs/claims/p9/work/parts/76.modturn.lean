/-! PURE, 26: turns of the reference, to the end -/
section
variable {n C rc kn k : Nat} {LI FR TO RC KT KP KS AS : Nat → Int32} {hc : Int32} {IC : Nat → Int32} {len : Nat} {RO VA LV CA PL : Nat → Int32} {pr : Nat} {st : Int32} {lf us : Int64} {MK : Nat → Int32} {N : Nat} {lit start tr lvl : Nat → Nat} {mk : Nat → Bool} {asl : Nat → Nat}
/-- not on the trail either way: its thing isn't -/
theorem off_thing {l : Nat} (h1 : ¬ On len tr l) (h2 : ¬ On len tr (opp l)) : ∀ i, i < len → ¬ tr i / 2 = l / 2 := fun i hi q => by
  rcases same_thing q with e | e
  · exact h1 ⟨i, hi, e⟩
  · exact h2 ⟨i, hi, e⟩
theorem mdecides_ok (hI : SInv n C len pr RO VA LV CA PL lit start tr lvl) (hZ : ∀ c, c < C → Zc len tr lit start c) {l : Nat} (hl : l < 2 * n) (hn : ∀ i, i < len → ¬ tr i / 2 = l / 2) : GoesIs n C rc kn k LI FR TO RC KT KP KS AS hc IC len RO VA LV CA PL pr st lf us MK lit start ((m_Mod_decides (modT n C rc kn k LI FR TO RC KT KP KS AS hc IC len RO VA LV CA PL pr st lf us MK) (nI l)).bind fun r18 => if r18.2 = 0 ∨ r18.2 = 1 then some (r18.1, r18.2) else none) := by
  have h := hI.1
  have hp := h.1.2.2.2
  have eF : m_Mod_decides (modT n C rc kn k LI FR TO RC KT KP KS AS hc IC len RO VA LV CA PL pr st lf us MK) (nI l) = ((m_Mod_step (modT n C rc kn k LI FR TO RC KT KP KS AS hc IC len RO VA LV CA PL pr st lf us MK)).bind fun r5 => if r5.2 = 0 then some (r5.1, 0) else (m_Mod_comes (r5.1.1, r5.1.2.1, r5.1.2.2.1, r5.1.2.2.2.1, r5.1.2.2.2.2.1, r5.1.2.2.2.2.2.1, r5.1.2.2.2.2.2.2.1, r5.1.2.2.2.2.2.2.2.1, r5.1.2.2.2.2.2.2.2.2.1, r5.1.2.2.2.2.2.2.2.2.2.1, r5.1.2.2.2.2.2.2.2.2.2.2.1, r5.1.2.2.2.2.2.2.2.2.2.2.2.1, r5.1.2.2.2.2.2.2.2.2.2.2.2.2.1, r5.1.2.2.2.2.2.2.2.2.2.2.2.2.2.1, r5.1.2.2.2.2.2.2.2.2.2.2.2.2.2.2.1, r5.1.2.2.2.2.2.2.2.2.2.2.2.2.2.2.2.1, r5.1.2.2.2.2.2.2.2.2.2.2.2.2.2.2.2.2.1, r5.1.2.2.2.2.2.2.2.2.2.2.2.2.2.2.2.2.2.1, r5.1.2.2.2.2.2.2.2.2.2.2.2.2.2.2.2.2.2.2.1, r5.1.2.2.2.2.2.2.2.2.2.2.2.2.2.2.2.2.2.2.2.1, r5.1.2.2.2.2.2.2.2.2.2.2.2.2.2.2.2.2.2.2.2.2.1, r5.1.2.2.2.2.2.2.2.2.2.2.2.2.2.2.2.2.2.2.2.2.2.1, (r5.1.2.2.2.2.2.2.2.2.2.2.2.2.2.2.2.2.2.2.2.2.2.2.1 + (1 : Int32)), r5.1.2.2.2.2.2.2.2.2.2.2.2.2.2.2.2.2.2.2.2.2.2.2.2.1, r5.1.2.2.2.2.2.2.2.2.2.2.2.2.2.2.2.2.2.2.2.2.2.2.2.2.1, r5.1.2.2.2.2.2.2.2.2.2.2.2.2.2.2.2.2.2.2.2.2.2.2.2.2.2.1, r5.1.2.2.2.2.2.2.2.2.2.2.2.2.2.2.2.2.2.2.2.2.2.2.2.2.2.2) (nI l) (r5.1.2.2.2.2.2.2.2.2.2.2.2.2.2.2.2.2.2.2.2.2.2.2.1 + (1 : Int32)) (-1)).bind fun r7 => some (r7, 1)) := rfl
  rw [eF]
  rcases mstep_ok (n := n) (C := C) (rc := rc) (kn := kn) (k := k) (LI := LI) (FR := FR) (TO := TO) (RC := RC) (KT := KT) (KP := KP) (KS := KS) (AS := AS) (hc := hc) (IC := IC) (len := len) (RO := RO) (VA := VA) (LV := LV) (CA := CA) (PL := PL) (pr := pr) (st := st) (lf := lf) (us := us) (MK := MK) with ⟨-, w⟩ | ⟨-, w⟩
  · rw [w, bind_s, if_neg (by exact (show ¬ (1 : Int32) = 0 by decide))]
    obtain ⟨k1, k2, k3⟩ := mcomes_ok (n := n) (C := C) (rc := rc) (kn := kn) (k := k) (LI := LI) (FR := FR) (TO := TO) (RC := RC) (KT := KT) (KP := KP) (KS := KS) (AS := AS) (hc := hc) (IC := IC) (len := len) (RO := RO) (VA := VA) (LV := LV) (CA := CA) (PL := PL) (pr := pr + 1) (st := st) (lf := lf - 1) (us := us + 1) (MK := MK) (mt_c h) hl (a := pr + 1) (by omega) (fun i hi => Nat.le_succ_of_le (h.2.1 i hi).2.2.2.2.2.1) hn (-1)
    show GoesIs n C rc kn k LI FR TO RC KT KP KS AS hc IC len RO VA LV CA PL pr st lf us MK lit start (((m_Mod_comes (0, nI n, (20000, LI), (1502, FR), (1501, TO), nI C, nI rc, (1500, RC), nI kn, (300, KT), (300, KP), (300, KS), nI k, (40, AS), hc, (40, IC), nI len, (300, RO), (300, VA), (300, LV), (300, CA), (300, PL), nI pr + 1, st, lf - 1, us + 1, (600, MK)) (nI l) (nI pr + 1) (-1)).bind fun r7 => some (r7, 1)).bind fun r18 => if r18.2 = 0 ∨ r18.2 = 1 then some (r18.1, r18.2) else none)
    rw [nI_1, show m_Mod_comes (0, nI n, (20000, LI), (1502, FR), (1501, TO), nI C, nI rc, (1500, RC), nI kn, (300, KT), (300, KP), (300, KS), nI k, (40, AS), hc, (40, IC), nI len, (300, RO), (300, VA), (300, LV), (300, CA), (300, PL), nI (pr + 1), st, lf - 1, us + 1, (600, MK)) (nI l) (nI (pr + 1)) (-1) = _ from k2, bind_s, bind_s, if_pos (Or.inr rfl)]
    exact Or.inr (Or.inr ⟨_, _, _, _, _, pr + 1, lf - 1, us + 1, _, _, rfl, put_inv hI hn k3 (by omega) (by omega) (Or.inl ⟨rfl, by omega⟩) (fun j _ _ c hc => hZ c hc)⟩)
  · rw [w, bind_s, if_pos rfl, bind_s, if_pos (Or.inl rfl)]
    exact Or.inl ⟨_, _, _, _, rfl⟩
theorem mchoice_L (hI : SInv n C len pr RO VA LV CA PL lit start tr lvl) (hZ : ∀ c, c < C → Zc len tr lit start c) : ∀ (d t f : Nat), t + d = n → d < f → GoesIs n C rc kn k LI FR TO RC KT KP KS AS hc IC len RO VA LV CA PL pr st lf us MK lit start (m_Mod_goes_L184 f (modT n C rc kn k LI FR TO RC KT KP KS AS hc IC len RO VA LV CA PL pr st lf us MK) (nI t)) := by
  have h := hI.1
  obtain ⟨⟨z1, z2, z3, z4⟩, t1, t2, t3⟩ := id h
  have eF : ∀ f x, m_Mod_goes_L184 (f + 1) (modT n C rc kn k LI FR TO RC KT KP KS AS hc IC len RO VA LV CA PL pr st lf us MK) x = (if nI n ≤ x then some ((modT n C rc kn k LI FR TO RC KT KP KS AS hc IC len RO VA LV CA PL pr 0 lf us MK), 0) else if ¬ (x < 0 ∨ 300 ≤ x.toNatClampNeg) then (if VA x.toNatClampNeg = 0 then ((m_Mod_decides (modT n C rc kn k LI FR TO RC KT KP KS AS hc IC len RO VA LV CA PL pr st lf us MK) ((2 : Int32) * x)).bind fun r18 => if r18.2 = 0 ∨ r18.2 = 1 then some (r18.1, r18.2) else none) else m_Mod_goes_L184 f (modT n C rc kn k LI FR TO RC KT KP KS AS hc IC len RO VA LV CA PL pr st lf us MK) (x + 1)) else none) := fun f x => rfl
  intro d
  induction d with
  | zero =>
    intro t f e hf
    obtain ⟨f, rfl⟩ : ∃ g, f = g + 1 := ⟨f - 1, by omega⟩
    rw [eF, if_pos (nI_le (by omega) (by omega))]
    exact Or.inl ⟨_, _, _, _, rfl⟩
  | succ d ih =>
    intro t f e hf
    obtain ⟨f, rfl⟩ : ∃ g, f = g + 1 := ⟨f - 1, by omega⟩
    have e2 : (2 : Int32) * nI t = nI (2 * t) := pk_mul 2 t
    rw [eF, if_neg (nI_ge (by omega) (by omega)), if_pos (nI_in (by omega) (by omega)), nI_clamp (n := t) (by omega)]
    by_cases q : VA t = 0
    · rw [if_pos q, e2]
      refine mdecides_ok hI hZ (by omega) (fun i hi w => ?_)
      have a := (t1 i hi).2.2.1
      rw [w, show 2 * t / 2 = t by omega, q, show (0 : Int32) = nI 0 from rfl] at a
      exact absurd ((nI_eq (by omega) (by omega)).mp a) (by omega)
    · rw [if_neg q, nI_1]
      exact ih (t + 1) f (by omega) (by omega)
theorem massumed_L (hS : ModS n C N LI FR lit start) (hA : AssI n k AS asl) (hI : SInv n C len pr RO VA LV CA PL lit start tr lvl) (hZ : ∀ c, c < C → Zc len tr lit start c) : ∀ (d a f : Nat), a + d = k → d < f → GoesIs n C rc kn k LI FR TO RC KT KP KS AS hc IC len RO VA LV CA PL pr st lf us MK lit start (m_Mod_goes_L124 f (modT n C rc kn k LI FR TO RC KT KP KS AS hc IC len RO VA LV CA PL pr st lf us MK) (nI a)) := by
  have h := hI.1
  obtain ⟨h1, h2, h3⟩ := id hA
  have eF : ∀ f x, m_Mod_goes_L124 (f + 1) (modT n C rc kn k LI FR TO RC KT KP KS AS hc IC len RO VA LV CA PL pr st lf us MK) x = (if nI k ≤ x then m_Mod_goes_L184 fu (modT n C rc kn k LI FR TO RC KT KP KS AS hc IC len RO VA LV CA PL pr st lf us MK) 0 else if ¬ (x < 0 ∨ 40 ≤ x.toNatClampNeg) then ((m_Mod_holds (modT n C rc kn k LI FR TO RC KT KP KS AS hc IC len RO VA LV CA PL pr st lf us MK) (AS x.toNatClampNeg)).bind fun r22 => if r22 = 0 then (if ¬ (x < 0 ∨ 40 ≤ x.toNatClampNeg) then ((m_Mod_against (modT n C rc kn k LI FR TO RC KT KP KS AS hc IC len RO VA LV CA PL pr st lf us MK) (AS x.toNatClampNeg)).bind fun r25 => if r25 = 0 then (if ¬ (x < 0 ∨ 40 ≤ x.toNatClampNeg) then ((m_Mod_decides (modT n C rc kn k LI FR TO RC KT KP KS AS hc IC len RO VA LV CA PL pr st lf us MK) (AS x.toNatClampNeg)).bind fun r28 => if r28.2 = 0 ∨ r28.2 = 1 then some (r28.1, r28.2) else none) else none) else (m_Mod_findCore (modT n C rc kn k LI FR TO RC KT KP KS AS hc IC len RO VA LV CA PL pr st lf us MK) x).bind fun r31 => some (r31, 0)) else none) else m_Mod_goes_L124 f (modT n C rc kn k LI FR TO RC KT KP KS AS hc IC len RO VA LV CA PL pr st lf us MK) (x + 1)) else none) := fun f x => rfl
  intro d
  induction d with
  | zero =>
    intro a f e hf
    obtain ⟨f, rfl⟩ : ∃ g, f = g + 1 := ⟨f - 1, by omega⟩
    rw [eF, if_pos (nI_le (by omega) (by omega))]
    exact mchoice_L hI hZ n 0 fu (by omega) (by unfold fu; omega)
  | succ d ih =>
    intro a f e hf
    obtain ⟨f, rfl⟩ : ∃ g, f = g + 1 := ⟨f - 1, by omega⟩
    obtain ⟨q1, q2⟩ := h3 a (by omega)
    have ga : ¬ (nI a < 0 ∨ 40 ≤ (nI a).toNatClampNeg) := nI_in (by omega) (by omega)
    have gb := ga
    rw [nI_clamp (n := a) (by omega)] at gb
    rw [eF, if_neg (nI_ge (by omega) (by omega)), if_pos ga, nI_clamp (n := a) (by omega), q1]
    rcases mholds (n := n) (C := C) (rc := rc) (kn := kn) (k := k) (LI := LI) (FR := FR) (TO := TO) (RC := RC) (KT := KT) (KP := KP) (KS := KS) (AS := AS) (hc := hc) (IC := IC) (len := len) (RO := RO) (VA := VA) (LV := LV) (CA := CA) (PL := PL) (pr := pr) (st := st) (lf := lf) (us := us) (MK := MK) h q2 with ⟨w1, w2⟩ | ⟨w1, w2⟩
    · rw [w1, bind_s, if_neg (by decide), nI_1]
      exact ih (a + 1) f (by omega) (by omega)
    · rw [w1, bind_s, if_pos rfl, if_pos gb]
      rcases magainst (n := n) (C := C) (rc := rc) (kn := kn) (k := k) (LI := LI) (FR := FR) (TO := TO) (RC := RC) (KT := KT) (KP := KP) (KS := KS) (AS := AS) (hc := hc) (IC := IC) (len := len) (RO := RO) (VA := VA) (LV := LV) (CA := CA) (PL := PL) (pr := pr) (st := st) (lf := lf) (us := us) (MK := MK) h q2 with ⟨w3, w4⟩ | ⟨w3, w4⟩
      · obtain ⟨IC', MK', w5⟩ := mcore_ok (n := n) (C := C) (rc := rc) (kn := kn) (k := k) (LI := LI) (FR := FR) (TO := TO) (RC := RC) (KT := KT) (KP := KP) (KS := KS) (AS := AS) (hc := hc) (IC := IC) (len := len) (RO := RO) (VA := VA) (LV := LV) (CA := CA) (PL := PL) (pr := pr) (st := st) (lf := lf) (us := us) (MK := MK) hS h hI.2.1 hA (a := a) (by omega)
        rw [w3, bind_s, if_neg (by decide), w5, bind_s]
        exact Or.inl ⟨_, _, _, _, rfl⟩
      · rw [w3, bind_s, if_pos rfl, if_pos gb]
        exact mdecides_ok hI hZ q2 (off_thing w2 w4)
theorem munit_L (hS : ModS n C N LI FR lit start) (hI : SInv n C len pr RO VA LV CA PL lit start tr lvl) {u s0 : Nat} (hu : u < C) (b1 : start u ≤ s0) (b2 : s0 < start (u + 1)) (b3 : ¬ On len tr (opp (lit s0))) (b4 : ¬ On len tr (lit s0)) (b5 : ∀ s, start u ≤ s → s < start (u + 1) → ¬ s = s0 → On len tr (opp (lit s))) : ∀ (d i f : Nat), i + d = s0 → start u ≤ i → d < f → GoesIs n C rc kn k LI FR TO RC KT KP KS AS hc IC len RO VA LV CA PL pr st lf us MK lit start (m_Mod_goes_L71 f (modT n C rc kn k LI FR TO RC KT KP KS AS hc IC len RO VA LV CA PL pr st lf us MK) (nI u) (nI i)) := by
  have h := hI.1
  obtain ⟨⟨z1, z2, z3, z4⟩, t1, t2, t3⟩ := id h
  obtain ⟨⟨y1, y2, y3, y4⟩, y5, y6, y7, y8⟩ := id hS
  have hb := ms_le hS (c := u + 1) (by omega)
  have eF : ∀ f i, m_Mod_goes_L71 (f + 1) (modT n C rc kn k LI FR TO RC KT KP KS AS hc IC len RO VA LV CA PL pr st lf us MK) (nI u) (nI i) = (if ¬ (nI u + 1 < 0 ∨ 1502 ≤ (nI u + 1).toNatClampNeg) then (if FR (nI u + 1).toNatClampNeg ≤ nI i then m_Mod_goes_B122 (modT n C rc kn k LI FR TO RC KT KP KS AS hc IC len RO VA LV CA PL pr st lf us MK) else if ¬ (nI i < 0 ∨ 20000 ≤ (nI i).toNatClampNeg) then (if ¬ (LI (nI i).toNatClampNeg / (2 : Int32) < 0 ∨ 300 ≤ (LI (nI i).toNatClampNeg / (2 : Int32)).toNatClampNeg) then (if VA (LI (nI i).toNatClampNeg / (2 : Int32)).toNatClampNeg = 0 then (if ¬ (nI i < 0 ∨ 20000 ≤ (nI i).toNatClampNeg) then ((m_Mod_comes (modT n C rc kn k LI FR TO RC KT KP KS AS hc IC len RO VA LV CA PL pr st lf us MK) (LI (nI i).toNatClampNeg) (nI pr) (nI u)).bind fun r37 => some (r37, 1)) else none) else m_Mod_goes_L71 f (modT n C rc kn k LI FR TO RC KT KP KS AS hc IC len RO VA LV CA PL pr st lf us MK) (nI u) (nI i + 1)) else none) else none) else none) := fun f i => rfl
  have g1 : ¬ (nI (u + 1) < 0 ∨ 1502 ≤ (nI (u + 1)).toNatClampNeg) := nI_in (by omega) (by omega)
  have g2 : FR (nI (u + 1)).toNatClampNeg = nI (start (u + 1)) := by rw [nI_clamp (by omega), y5 (u + 1) (by omega)]
  intro d
  induction d with
  | zero =>
    intro i f e hi hf
    obtain ⟨f, rfl⟩ : ∃ g, f = g + 1 := ⟨f - 1, by omega⟩
    have ei : i = s0 := by omega
    subst ei
    obtain ⟨l1, l2⟩ := y8 i (by omega)
    have hn := off_thing b4 b3
    have v0 : VA (lit i / 2) = 0 := by
      rcases t2 (lit i / 2) (by omega) with w | ⟨j, w1, w2⟩
      · exact w
      · exact absurd w2 (hn j w1)
    have gi : ¬ (nI i < 0 ∨ 20000 ≤ (nI i).toNatClampNeg) := nI_in (by omega) (by omega)
    have gj := gi
    rw [nI_clamp (n := i) (by omega)] at gj
    obtain ⟨k1, k2, k3⟩ := mcomes_ok (n := n) (C := C) (rc := rc) (kn := kn) (k := k) (LI := LI) (FR := FR) (TO := TO) (RC := RC) (KT := KT) (KP := KP) (KS := KS) (AS := AS) (hc := hc) (IC := IC) (len := len) (RO := RO) (VA := VA) (LV := LV) (CA := CA) (PL := PL) (pr := pr) (st := st) (lf := lf) (us := us) (MK := MK) (mt_c h) l2 (a := pr) (by omega) (fun i hi => (h.2.1 i hi).2.2.2.2.2.1) hn (nI u)
    rw [eF, nI_1, if_pos g1, g2, if_neg (nI_ge (by omega) (by omega)), if_pos gi, nI_clamp (n := i) (by omega), l1, half_ok (by omega), if_pos (nI_in (by omega) (by omega)), nI_clamp (n := lit i / 2) (by omega), if_pos v0, if_pos gj, k2, bind_s]
    refine Or.inr (Or.inr ⟨_, _, _, _, _, pr, lf, us, _, _, rfl, put_inv hI hn k3 (Nat.le_refl pr) (by omega) (Or.inr ⟨u, hu, rfl, fun s s1 s2 => ?_⟩) (fun j q1 q2 => absurd q2 (by omega))⟩)
    by_cases q : s = i
    · exact Or.inl (by rw [q])
    · exact Or.inr (b5 s s1 s2 q)
  | succ d ih =>
    intro i f e hi hf
    obtain ⟨f, rfl⟩ : ∃ g, f = g + 1 := ⟨f - 1, by omega⟩
    obtain ⟨l1, l2⟩ := y8 i (by omega)
    have v0 : ¬ VA (lit i / 2) = 0 := by
      obtain ⟨j, w1, w2⟩ := b5 i hi (by omega) (by omega)
      have a := (t1 j w1).2.2.1
      rw [w2, opp_half] at a
      rw [a, show (0 : Int32) = nI 0 from rfl]
      exact fun y => absurd ((nI_eq (by omega) (by omega)).mp y) (by omega)
    rw [eF, nI_1, if_pos g1, g2, if_neg (nI_ge (by omega) (by omega)), if_pos (nI_in (by omega) (by omega)), nI_clamp (n := i) (by omega), l1, half_ok (by omega), if_pos (nI_in (by omega) (by omega)), nI_clamp (n := lit i / 2) (by omega), if_neg v0, nI_1]
    exact ih (i + 1) f (by omega) (by omega) (by omega)
/-- all but one literal failed, and that one not on the trail -/
def Uc (len : Nat) (tr lit start : Nat → Nat) (u : Nat) : Prop := ∃ s0, start u ≤ s0 ∧ s0 < start (u + 1) ∧ ¬ On len tr (opp (lit s0)) ∧ ¬ On len tr (lit s0) ∧ ∀ s, start u ≤ s → s < start (u + 1) → ¬ s = s0 → On len tr (opp (lit s))
theorem mgoes_L (hS : ModS n C N LI FR lit start) (hA : AssI n k AS asl) (hw : RowI rc C RC) (hI : SInv n C len pr RO VA LV CA PL lit start tr lvl) : ∀ (d c f : Nat) (x : Int32), c + d = C → d < f → ((x = -1 ∧ ∀ c', c' < c → Zc len tr lit start c') ∨ ∃ u, u < C ∧ x = nI u ∧ Uc len tr lit start u) → GoesIs n C rc kn k LI FR TO RC KT KP KS AS hc IC len RO VA LV CA PL pr st lf us MK lit start (m_Mod_goes_L4 f (modT n C rc kn k LI FR TO RC KT KP KS AS hc IC len RO VA LV CA PL pr st lf us MK) x (nI c)) := by
  have h := hI.1
  obtain ⟨⟨z1, z2, z3, z4⟩, t1, t2, t3⟩ := id h
  obtain ⟨⟨y1, y2, y3, y4⟩, y5, y6, y7, y8⟩ := id hS
  have eF : ∀ f x c, m_Mod_goes_L4 (f + 1) (modT n C rc kn k LI FR TO RC KT KP KS AS hc IC len RO VA LV CA PL pr st lf us MK) x c = (if nI C ≤ c then (if x < 0 then m_Mod_goes_L124 fu (modT n C rc kn k LI FR TO RC KT KP KS AS hc IC len RO VA LV CA PL pr st lf us MK) 0 else if ¬ (x < 0 ∨ 1502 ≤ x.toNatClampNeg) then m_Mod_goes_L71 fu (modT n C rc kn k LI FR TO RC KT KP KS AS hc IC len RO VA LV CA PL pr st lf us MK) x (FR x.toNatClampNeg) else none) else (m_Mod_how (modT n C rc kn k LI FR TO RC KT KP KS AS hc IC len RO VA LV CA PL pr st lf us MK) c).bind fun r40 => if r40 = 2 then (if nI pr ≤ 0 then some ((modT n C rc kn k LI FR TO RC KT KP KS AS hc IC len RO VA LV CA PL pr 2 lf us MK), 0) else (m_Mod_learns (modT n C rc kn k LI FR TO RC KT KP KS AS hc IC len RO VA LV CA PL pr st lf us MK) c).bind fun r42 => if r42.2 = 0 ∨ r42.2 = 1 then some (r42.1, r42.2) else none) else if r40 = 1 then (if 0 ≤ x then m_Mod_goes_L4 f (modT n C rc kn k LI FR TO RC KT KP KS AS hc IC len RO VA LV CA PL pr st lf us MK) x (c + 1) else m_Mod_goes_L4 f (modT n C rc kn k LI FR TO RC KT KP KS AS hc IC len RO VA LV CA PL pr st lf us MK) c (c + 1)) else m_Mod_goes_L4 f (modT n C rc kn k LI FR TO RC KT KP KS AS hc IC len RO VA LV CA PL pr st lf us MK) x (c + 1)) := fun f x c => rfl
  intro d
  induction d with
  | zero =>
    intro c f x e hf hx
    obtain ⟨f, rfl⟩ : ∃ g, f = g + 1 := ⟨f - 1, by omega⟩
    have ec : c = C := by omega
    subst ec
    rw [eF, if_pos (nI_le (Nat.le_refl _) (by omega))]
    rcases hx with ⟨rfl, hz⟩ | ⟨u, hu, rfl, s0, b1, b2, b3, b4, b5⟩
    · rw [if_pos (by decide)]
      exact massumed_L hS hA hI hz k 0 fu (by omega) (by have := hA.1; unfold fu; omega)
    · rw [if_neg (nI_pos (by omega)), if_pos (nI_in (by omega) (by omega)), nI_clamp (n := u) (by omega), y5 u (by omega)]
      have hb := ms_le hS (c := u + 1) (by omega)
      exact munit_L hS hI hu b1 b2 b3 b4 b5 (s0 - start u) (start u) fu (by omega) (Nat.le_refl _) (by unfold fu; omega)
  | succ d ih =>
    intro c f x e hf hx
    obtain ⟨f, rfl⟩ : ∃ g, f = g + 1 := ⟨f - 1, by omega⟩
    obtain ⟨r, r1, r2⟩ := how_ok (n := n) (C := C) (rc := rc) (kn := kn) (k := k) (LI := LI) (FR := FR) (TO := TO) (RC := RC) (KT := KT) (KP := KP) (KS := KS) (AS := AS) (hc := hc) (IC := IC) (len := len) (RO := RO) (VA := VA) (LV := LV) (CA := CA) (PL := PL) (pr := pr) (st := st) (lf := lf) (us := us) (MK := MK) hS h (c := c) (by omega)
    rw [eF, if_neg (nI_ge (by omega) (by omega)), r1, bind_s]
    rcases r2 with ⟨rfl, q⟩ | ⟨rfl, q⟩ | ⟨rfl, q⟩
    · rw [if_pos rfl]
      by_cases p : pr = 0
      · rw [if_pos (show nI pr ≤ 0 by rw [p]; decide)]
        exact Or.inl ⟨_, _, _, _, rfl⟩
      · rw [if_neg (nI_nle (by omega) (by omega))]
        rcases mlearn_ok (n := n) (C := C) (rc := rc) (kn := kn) (k := k) (LI := LI) (FR := FR) (TO := TO) (RC := RC) (KT := KT) (KP := KP) (KS := KS) (AS := AS) (hc := hc) (IC := IC) (len := len) (RO := RO) (VA := VA) (LV := LV) (CA := CA) (PL := PL) (pr := pr) (st := st) (lf := lf) (us := us) (MK := MK) hS hI hw (by omega) (c := c) (by omega) q with ⟨MK', w⟩ | w
        · rw [w, bind_s, if_pos (Or.inl rfl)]
          exact Or.inl ⟨_, _, _, _, rfl⟩
        · obtain ⟨LI', FR', TO', RC', len', RO', VA', LV', CA', PL', pr', MK', N', lit', start', tr', lvl', w1, w2, w3, w4⟩ := w
          rw [w1, bind_s, if_pos (Or.inr rfl)]
          exact Or.inr (Or.inl ⟨LI', FR', TO', RC', len', RO', VA', LV', CA', PL', pr', MK', N', lit', start', tr', lvl', rfl, w2, w3, w4⟩)
    · rw [if_neg (by decide), if_pos rfl, nI_1]
      rcases hx with ⟨rfl, hz⟩ | ⟨u, hu, rfl, hU⟩
      · rw [if_neg (by decide)]
        exact ih (c + 1) f (nI c) (by omega) (by omega) (Or.inr ⟨c, by omega, rfl, q⟩)
      · rw [if_pos (show (0 : Int32) ≤ nI u from nI_le (a := 0) (by omega) (by omega))]
        exact ih (c + 1) f (nI u) (by omega) (by omega) (Or.inr ⟨u, hu, rfl, hU⟩)
    · rw [if_neg (by decide), if_neg (by decide), nI_1]
      refine ih (c + 1) f x (by omega) (by omega) ?_
      rcases hx with ⟨rfl, hz⟩ | hx
      · refine Or.inl ⟨rfl, fun c' hc' => ?_⟩
        by_cases w : c' = c
        · rw [w]; exact q
        · exact hz c' (by omega)
      · exact Or.inr hx
theorem mgoes_ok (hS : ModS n C N LI FR lit start) (hA : AssI n k AS asl) (hw : RowI rc C RC) (hI : SInv n C len pr RO VA LV CA PL lit start tr lvl) : GoesIs n C rc kn k LI FR TO RC KT KP KS AS hc IC len RO VA LV CA PL pr st lf us MK lit start (m_Mod_goes (modT n C rc kn k LI FR TO RC KT KP KS AS hc IC len RO VA LV CA PL pr st lf us MK)) :=
  mgoes_L hS hA hw hI C 0 fu (-1) (by omega) (by have := hS.1; unfold fu; omega) (Or.inl ⟨rfl, fun c hc => absurd hc (by omega)⟩)
end
/-- the reference at rest between calls -/
def ModE (n k kn : Nat) (AS KT KP KS : Nat → Int32) (v : T_Mod) : Prop :=
  ∃ C rc LI FR TO RC hc IC len RO VA LV CA PL pr st lf us MK N lit start tr lvl, v = (modT n C rc kn k LI FR TO RC KT KP KS AS hc IC len RO VA LV CA PL pr st lf us MK) ∧ ModS n C N LI FR lit start ∧ RowI rc C RC ∧ (st = 3 → SInv n C len pr RO VA LV CA PL lit start tr lvl)
/-- turn after turn it comes to its end: each row more is followed by at most n things more -/
theorem mgoOn_L {n k kn : Nat} {AS KT KP KS : Nat → Int32} {asl : Nat → Nat} (hA : AssI n k AS asl) : ∀ (m f C rc len pr N : Nat) (LI FR TO RC IC RO VA LV CA PL MK : Nat → Int32) (hc st : Int32) (lf us : Int64) (lit start tr lvl : Nat → Nat), (1500 - C) * 301 + (300 - len) ≤ m → m + 1 < f → ModS n C N LI FR lit start → RowI rc C RC → SInv n C len pr RO VA LV CA PL lit start tr lvl → ∃ v, m_Mod_goOnWith_L12 f (modT n C rc kn k LI FR TO RC KT KP KS AS hc IC len RO VA LV CA PL pr st lf us MK) 1 = some v ∧ ModE n k kn AS KT KP KS v := by
  have eF : ∀ f v x, m_Mod_goOnWith_L12 (f + 1) v x = (if x = 0 then some v else (m_Mod_goes v).bind fun r3 => m_Mod_goOnWith_L12 f r3.1 r3.2) := fun f v x => rfl
  intro m
  induction m with
  | zero =>
    intro f C rc len pr N LI FR TO RC IC RO VA LV CA PL MK hc st lf us lit start tr lvl hm hf hS hw hI
    obtain ⟨f, rfl⟩ : ∃ g, f = g + 1 + 1 := ⟨f - 2, by omega⟩
    rw [eF, if_neg (by decide)]
    rcases mgoes_ok (n := n) (C := C) (rc := rc) (kn := kn) (k := k) (LI := LI) (FR := FR) (TO := TO) (RC := RC) (KT := KT) (KP := KP) (KS := KS) (AS := AS) (hc := hc) (IC := IC) (len := len) (RO := RO) (VA := VA) (LV := LV) (CA := CA) (PL := PL) (pr := pr) (st := st) (lf := lf) (us := us) (MK := MK) hS hA hw hI with ⟨hc', IC', MK', st', e⟩ | ⟨LI', FR', TO', RC', len', RO', VA', LV', CA', PL', pr', MK', N', lit', start', tr', lvl', e, w2, w3, w4⟩ | ⟨RO', VA', LV', CA', PL', pr', lf', us', tr', lvl', e, w⟩
    · rw [e, bind_s, eF, if_pos rfl]
      exact ⟨_, rfl, C, rc, LI, FR, TO, RC, hc', IC', len, RO, VA, LV, CA, PL, pr, st', lf, us, MK', N, lit, start, tr, lvl, rfl, hS, hw, fun _ => hI⟩
    · have := w2.1.1
      omega
    · have a1 := w.1.1
      have a2 := hS.1
      omega
  | succ m ih =>
    intro f C rc len pr N LI FR TO RC IC RO VA LV CA PL MK hc st lf us lit start tr lvl hm hf hS hw hI
    obtain ⟨f, rfl⟩ : ∃ g, f = g + 1 + 1 := ⟨f - 2, by omega⟩
    rw [eF, if_neg (by decide)]
    rcases mgoes_ok (n := n) (C := C) (rc := rc) (kn := kn) (k := k) (LI := LI) (FR := FR) (TO := TO) (RC := RC) (KT := KT) (KP := KP) (KS := KS) (AS := AS) (hc := hc) (IC := IC) (len := len) (RO := RO) (VA := VA) (LV := LV) (CA := CA) (PL := PL) (pr := pr) (st := st) (lf := lf) (us := us) (MK := MK) hS hA hw hI with ⟨hc', IC', MK', st', e⟩ | ⟨LI', FR', TO', RC', len', RO', VA', LV', CA', PL', pr', MK', N', lit', start', tr', lvl', e, w2, w3, w4⟩ | ⟨RO', VA', LV', CA', PL', pr', lf', us', tr', lvl', e, w⟩
    · rw [e, bind_s, eF, if_pos rfl]
      exact ⟨_, rfl, C, rc, LI, FR, TO, RC, hc', IC', len, RO, VA, LV, CA, PL, pr, st', lf, us, MK', N, lit, start, tr, lvl, rfl, hS, hw, fun _ => hI⟩
    · have a1 := w2.1.1
      have a2 := w3.1.1
      have a3 := hI.1.1
      have a4 : (1500 - C) * 301 = (1500 - (C + 1)) * 301 + 301 := by rw [show 1500 - C = 1500 - (C + 1) + 1 by omega, Nat.add_mul, Nat.one_mul]
      have a5 : (1500 - (C + 1)) * 301 + (300 - len') ≤ m := by
        rw [a4] at hm
        generalize (1500 - (C + 1)) * 301 = y at hm ⊢
        omega
      rw [e, bind_s]
      exact ih (f + 1) (C + 1) (rc + 1) len' pr' N' LI' FR' TO' RC' IC RO' VA' LV' CA' PL' MK' hc st (lf - 1) (us + 1) lit' start' tr' lvl' a5 (by omega) w2 w4 w3
    · have a1 := w.1.1
      rw [e, bind_s]
      exact ih (f + 1) C rc (len + 1) pr' N LI FR TO RC IC RO' VA' LV' CA' PL' MK hc st lf' us' lit start tr' lvl' (by omega) (by omega) hS hw w
