/-! PURE, 20: the reference's tuple by its parts; what is on its trail; how a clause stands -/
abbrev modT (n C rc kn k : Nat) (LI FR TO RC KT KP KS AS : Nat → Int32) (hc : Int32) (IC : Nat → Int32) (len : Nat) (RO VA LV CA PL : Nat → Int32) (pr : Nat) (st : Int32) (lf us : Int64) (MK : Nat → Int32) : T_Mod := (0, nI n, (20000, LI), (1502, FR), (1501, TO), nI C, nI rc, (1500, RC), nI kn, (300, KT), (300, KP), (300, KS), nI k, (40, AS), hc, (40, IC), nI len, (300, RO), (300, VA), (300, LV), (300, CA), (300, PL), nI pr, st, lf, us, (600, MK))
/-- the reference's clauses -/
def ModS (n C N : Nat) (LI FR : Nat → Int32) (lit start : Nat → Nat) : Prop :=
  (C ≤ 1500 ∧ N ≤ 20000 ∧ 1 ≤ n ∧ n ≤ 300) ∧ (∀ c, c ≤ C → FR c = nI (start c)) ∧ start C = N ∧ (∀ c, c < C → start c ≤ start (c + 1)) ∧ ∀ s, s < N → LI s = nI (lit s) ∧ lit s < 2 * n
theorem ms_mono {n C N : Nat} {LI FR : Nat → Int32} {lit start : Nat → Nat} (h : ModS n C N LI FR lit start) : ∀ d c, c + d = C → start c ≤ N := by
  obtain ⟨-, -, h3, h4, -⟩ := h
  intro d
  induction d with
  | zero => intro c e; rw [show c = C by omega, h3]; exact Nat.le_refl N
  | succ d ih =>
    intro c e
    exact Nat.le_trans (h4 c (by omega)) (ih (c + 1) (by omega))
theorem ms_le {n C N : Nat} {LI FR : Nat → Int32} {lit start : Nat → Nat} (h : ModS n C N LI FR lit start) {c : Nat} (hc : c ≤ C) : start c ≤ N := ms_mono h (C - c) c (by omega)
/-- a literal is on the trail -/
def On (len : Nat) (tr : Nat → Nat) (l : Nat) : Prop := ∃ i, i < len ∧ tr i = l
/-- the reference's trail -/
def MTra (n len pr : Nat) (RO VA LV PL : Nat → Int32) (tr lvl : Nat → Nat) : Prop :=
  (1 ≤ n ∧ n ≤ 300 ∧ len ≤ n ∧ pr ≤ len) ∧
  (∀ i, i < len → tr i < 2 * n ∧ RO i = nI (tr i / 2) ∧ VA (tr i / 2) = nI (tr i % 2 + 1) ∧ LV (tr i / 2) = nI (lvl (tr i / 2)) ∧ PL (tr i / 2) = nI i ∧ lvl (tr i / 2) ≤ pr ∧ lvl (tr i / 2) ≤ i + 1) ∧
  (∀ t, t < n → VA t = 0 ∨ ∃ i, i < len ∧ tr i / 2 = t) ∧
  (∀ i j, i < j → j < len → lvl (tr i / 2) ≤ lvl (tr j / 2))
theorem mt_inj {n len pr : Nat} {RO VA LV PL : Nat → Int32} {tr lvl : Nat → Nat} (h : MTra n len pr RO VA LV PL tr lvl) {i j : Nat} (hi : i < len) (hj : j < len) (e : tr i / 2 = tr j / 2) : i = j := by
  obtain ⟨⟨z1, z2, z3, z4⟩, t1, -, -⟩ := h
  have a := (t1 i hi).2.2.2.2.1
  have b := (t1 j hj).2.2.2.2.1
  rw [e, b] at a
  exact ((nI_eq (by omega) (by omega)).mp a).symm
theorem opp_mod (l : Nat) : opp l % 2 = 1 - l % 2 := by
  unfold opp
  by_cases h : l % 2 = 0
  · rw [if_pos h]; omega
  · rw [if_neg h]; omega
theorem lit_eq {a b : Nat} (h1 : a / 2 = b / 2) (h2 : a % 2 = b % 2) : a = b := by omega
/-- a literal and its opposite are not both on the trail -/
theorem on_one {n len pr : Nat} {RO VA LV PL : Nat → Int32} {tr lvl : Nat → Nat} (h : MTra n len pr RO VA LV PL tr lvl) {l : Nat} (h1 : On len tr l) (h2 : On len tr (opp l)) : False := by
  obtain ⟨i, hi, e1⟩ := h1
  obtain ⟨j, hj, e2⟩ := h2
  have q : i = j := mt_inj h hi hj (by rw [e1, e2, opp_half])
  rw [q, e2] at e1
  exact opp_ne l e1
section
variable {n C rc kn k : Nat} {LI FR TO RC KT KP KS AS : Nat → Int32} {hc : Int32} {IC : Nat → Int32} {len : Nat} {RO VA LV CA PL : Nat → Int32} {pr : Nat} {st : Int32} {lf us : Int64} {MK : Nat → Int32} {N : Nat} {lit start tr lvl : Nat → Nat}
theorem half_ok {l : Nat} (h : l < 2 ^ 31) : nI l / (2 : Int32) = nI (l / 2) := pk_div (d := 2) h (by omega) (by omega)
theorem rem_ok {l : Nat} (h : l < 2 ^ 31) : nI l - nI l / (2 : Int32) * (2 : Int32) = nI (l % 2) := pk_rem (d := 2) h (by omega) (by omega)
theorem mholds (h : MTra n len pr RO VA LV PL tr lvl) {l : Nat} (hl : l < 2 * n) : (m_Mod_holds (modT n C rc kn k LI FR TO RC KT KP KS AS hc IC len RO VA LV CA PL pr st lf us MK) (nI l) = some 1 ∧ On len tr l) ∨ (m_Mod_holds (modT n C rc kn k LI FR TO RC KT KP KS AS hc IC len RO VA LV CA PL pr st lf us MK) (nI l) = some 0 ∧ ¬ On len tr l) := by
  have e : m_Mod_holds (modT n C rc kn k LI FR TO RC KT KP KS AS hc IC len RO VA LV CA PL pr st lf us MK) (nI l) = (if ¬ (nI l / (2 : Int32) < 0 ∨ 300 ≤ (nI l / (2 : Int32)).toNatClampNeg) then (if VA (nI l / (2 : Int32)).toNatClampNeg = nI l - nI l / (2 : Int32) * (2 : Int32) + 1 then some 1 else some 0) else none) := rfl
  obtain ⟨⟨z1, z2, z3, z4⟩, t1, t2, -⟩ := id h
  rw [e, rem_ok (by omega), half_ok (by omega), if_pos (nI_in (by omega) (by omega)), nI_clamp (by omega), nI_1]
  rcases t2 (l / 2) (by omega) with v | ⟨i, hi, ei⟩
  · refine Or.inr ⟨?_, fun ⟨i, hi, ei⟩ => ?_⟩
    · rw [if_neg (by rw [v, show (0 : Int32) = nI 0 from rfl]; exact fun q => absurd ((nI_eq (by omega) (by omega)).mp q) (by omega))]
    · have w := (t1 i hi).2.2.1
      rw [ei, v, show (0 : Int32) = nI 0 from rfl] at w
      exact absurd ((nI_eq (by omega) (by omega)).mp w) (by omega)
  · have w := (t1 i hi).2.2.1
    rw [ei] at w
    by_cases q : tr i = l
    · refine Or.inl ⟨?_, i, hi, q⟩
      rw [if_pos (by rw [w, q])]
    · refine Or.inr ⟨?_, fun ⟨j, hj, ej⟩ => ?_⟩
      · rw [if_neg (by rw [w]; exact fun y => q (lit_eq ei (by have := (nI_eq (by omega) (by omega)).mp y; omega)))]
      · have y : i = j := mt_inj h hi hj (by rw [ei, ej])
        rw [y] at q
        exact q ej
theorem magainst (h : MTra n len pr RO VA LV PL tr lvl) {l : Nat} (hl : l < 2 * n) : (m_Mod_against (modT n C rc kn k LI FR TO RC KT KP KS AS hc IC len RO VA LV CA PL pr st lf us MK) (nI l) = some 1 ∧ On len tr (opp l)) ∨ (m_Mod_against (modT n C rc kn k LI FR TO RC KT KP KS AS hc IC len RO VA LV CA PL pr st lf us MK) (nI l) = some 0 ∧ ¬ On len tr (opp l)) := by
  have e : m_Mod_against (modT n C rc kn k LI FR TO RC KT KP KS AS hc IC len RO VA LV CA PL pr st lf us MK) (nI l) = (if ¬ (nI l / (2 : Int32) < 0 ∨ 300 ≤ (nI l / (2 : Int32)).toNatClampNeg) then (if VA (nI l / (2 : Int32)).toNatClampNeg = (2 : Int32) - (nI l - nI l / (2 : Int32) * (2 : Int32)) then some 1 else some 0) else none) := rfl
  obtain ⟨⟨z1, z2, z3, z4⟩, t1, t2, -⟩ := id h
  have s2 : (2 : Int32) - nI (l % 2) = nI (2 - l % 2) := pk_sub (a := 2) (b := l % 2) (by omega)
  rw [e, rem_ok (by omega), half_ok (by omega), if_pos (nI_in (by omega) (by omega)), nI_clamp (by omega), s2]
  have hm := opp_mod l
  have hh := opp_half l
  rcases t2 (l / 2) (by omega) with v | ⟨i, hi, ei⟩
  · refine Or.inr ⟨?_, fun ⟨i, hi, ei⟩ => ?_⟩
    · rw [if_neg (by rw [v, show (0 : Int32) = nI 0 from rfl]; exact fun q => absurd ((nI_eq (by omega) (by omega)).mp q) (by omega))]
    · have w := (t1 i hi).2.2.1
      rw [ei, hh, v, show (0 : Int32) = nI 0 from rfl] at w
      exact absurd ((nI_eq (by omega) (by omega)).mp w) (by omega)
  · have w := (t1 i hi).2.2.1
    rw [ei] at w
    by_cases q : tr i = opp l
    · refine Or.inl ⟨?_, i, hi, q⟩
      rw [if_pos (by rw [w, q, hm, show 1 - l % 2 + 1 = 2 - l % 2 by omega])]
    · refine Or.inr ⟨?_, fun ⟨j, hj, ej⟩ => ?_⟩
      · rw [if_neg (by rw [w]; exact fun y => q (lit_eq (by omega) (by have := (nI_eq (by omega) (by omega)).mp y; omega)))]
      · have y : i = j := mt_inj h hi hj (by rw [ei, ej, hh])
        rw [y] at q
        exact q ej
/-- how the slots a .. b-1 stand: 2 all failed, 1 all but one (which is open), 0 one holds, or two have not failed -/
def HowIs (len : Nat) (tr lit : Nat → Nat) (a b : Nat) (r : Int32) : Prop :=
  (r = 2 ∧ ∀ s, a ≤ s → s < b → On len tr (opp (lit s))) ∨
  (r = 1 ∧ ∃ s0, a ≤ s0 ∧ s0 < b ∧ ¬ On len tr (opp (lit s0)) ∧ ¬ On len tr (lit s0) ∧ ∀ s, a ≤ s → s < b → ¬ s = s0 → On len tr (opp (lit s))) ∨
  (r = 0 ∧ ((∃ s, a ≤ s ∧ s < b ∧ On len tr (lit s)) ∨ ∃ s1 s2, a ≤ s1 ∧ s1 < s2 ∧ s2 < b ∧ ¬ On len tr (opp (lit s1)) ∧ ¬ On len tr (opp (lit s2))))
theorem how_L (hS : ModS n C N LI FR lit start) (h : MTra n len pr RO VA LV PL tr lvl) {c : Nat} (hc1 : c < C) : ∀ (d i f o : Nat), i + d = start (c + 1) → start c ≤ i → d < f → o ≤ i →
    ((o = 0 ∧ ∀ s, start c ≤ s → s < i → On len tr (opp (lit s))) ∨ (o = 1 ∧ ∃ s0, start c ≤ s0 ∧ s0 < i ∧ ¬ On len tr (opp (lit s0)) ∧ ¬ On len tr (lit s0) ∧ ∀ s, start c ≤ s → s < i → ¬ s = s0 → On len tr (opp (lit s))) ∨ (2 ≤ o ∧ ∃ s1 s2, start c ≤ s1 ∧ s1 < s2 ∧ s2 < i ∧ ¬ On len tr (opp (lit s1)) ∧ ¬ On len tr (opp (lit s2)))) →
    ∃ r, m_Mod_how_L9 (modT n C rc kn k LI FR TO RC KT KP KS AS hc IC len RO VA LV CA PL pr st lf us MK) f (nI c) (nI o) (nI i) = some r ∧ HowIs len tr lit (start c) (start (c + 1)) r := by
  obtain ⟨⟨y1, y2, y3, y4⟩, y5, y6, y7, y8⟩ := id hS
  have hb := ms_le hS (c := c + 1) (by omega)
  have eF : ∀ f o i, m_Mod_how_L9 (modT n C rc kn k LI FR TO RC KT KP KS AS hc IC len RO VA LV CA PL pr st lf us MK) (f + 1) (nI c) (nI o) (nI i) = (if ¬ (nI c + 1 < 0 ∨ 1502 ≤ (nI c + 1).toNatClampNeg) then (if FR (nI c + 1).toNatClampNeg ≤ nI i then (if nI o = 0 then some 2 else if nI o = 1 then some 1 else some 0) else if ¬ (nI i < 0 ∨ 20000 ≤ (nI i).toNatClampNeg) then ((m_Mod_holds (modT n C rc kn k LI FR TO RC KT KP KS AS hc IC len RO VA LV CA PL pr st lf us MK) (LI (nI i).toNatClampNeg)).bind fun r7 => if r7 = 0 then (if ¬ (nI i < 0 ∨ 20000 ≤ (nI i).toNatClampNeg) then ((m_Mod_against (modT n C rc kn k LI FR TO RC KT KP KS AS hc IC len RO VA LV CA PL pr st lf us MK) (LI (nI i).toNatClampNeg)).bind fun r10 => if r10 = 0 then m_Mod_how_L9 (modT n C rc kn k LI FR TO RC KT KP KS AS hc IC len RO VA LV CA PL pr st lf us MK) f (nI c) (nI o + 1) (nI i + 1) else m_Mod_how_L9 (modT n C rc kn k LI FR TO RC KT KP KS AS hc IC len RO VA LV CA PL pr st lf us MK) f (nI c) (nI o) (nI i + 1)) else none) else some 0) else none) else none) := fun f o i => rfl
  have g1 : ¬ (nI c + 1 < 0 ∨ 1502 ≤ (nI c + 1).toNatClampNeg) := by rw [nI_1]; exact nI_in (by omega) (by omega)
  have g2 : FR (nI c + 1).toNatClampNeg = nI (start (c + 1)) := by rw [nI_1, nI_clamp (by omega), y5 (c + 1) (by omega)]
  intro d
  induction d with
  | zero =>
    intro i f o e h1 hf ho hI
    obtain ⟨f, rfl⟩ : ∃ g, f = g + 1 := ⟨f - 1, by omega⟩
    have ei : i = start (c + 1) := by omega
    rw [eF, if_pos g1, g2, if_pos (nI_le (by omega) (by omega))]
    rcases hI with ⟨rfl, q⟩ | ⟨rfl, q⟩ | ⟨q0, q⟩
    · rw [if_pos (show nI 0 = (0 : Int32) from rfl)]
      exact ⟨2, rfl, Or.inl ⟨rfl, fun s a b => q s a (by omega)⟩⟩
    · rw [if_neg (show ¬ nI 1 = (0 : Int32) by decide), if_pos (show nI 1 = (1 : Int32) from rfl)]
      obtain ⟨s0, q1, q2, q3, q4, q5⟩ := q
      exact ⟨1, rfl, Or.inr (Or.inl ⟨rfl, s0, q1, by omega, q3, q4, fun s a b => q5 s a (by omega)⟩)⟩
    · obtain ⟨s1, s2, q1, q2, q3, q4, q5⟩ := q
      rw [if_neg (show ¬ nI o = (0 : Int32) from fun y => absurd ((nI_eq (a := o) (b := 0) (by omega) (by omega)).mp y) (by omega)), if_neg (show ¬ nI o = (1 : Int32) from fun y => absurd ((nI_eq (a := o) (b := 1) (by omega) (by omega)).mp y) (by omega))]
      exact ⟨0, rfl, Or.inr (Or.inr ⟨rfl, Or.inr ⟨s1, s2, q1, q2, by omega, q4, q5⟩⟩)⟩
  | succ d ih =>
    intro i f o e h1 hf ho hI
    obtain ⟨f, rfl⟩ : ∃ g, f = g + 1 := ⟨f - 1, by omega⟩
    obtain ⟨l1, l2⟩ := y8 i (by omega)
    have gi : ¬ (nI i < 0 ∨ 20000 ≤ (nI i).toNatClampNeg) := nI_in (by omega) (by omega)
    have gj := gi
    rw [nI_clamp (n := i) (by omega)] at gj
    rw [eF, if_pos g1, g2, if_neg (nI_ge (by omega) (by omega)), if_pos gi, nI_clamp (by omega), l1]
    rcases mholds (n := n) (C := C) (rc := rc) (kn := kn) (k := k) (LI := LI) (FR := FR) (TO := TO) (RC := RC) (KT := KT) (KP := KP) (KS := KS) (AS := AS) (hc := hc) (IC := IC) (len := len) (RO := RO) (VA := VA) (LV := LV) (CA := CA) (PL := PL) (pr := pr) (st := st) (lf := lf) (us := us) (MK := MK) h l2 with ⟨a1, a2⟩ | ⟨a1, a2⟩
    · rw [a1, bind_s, if_neg (by decide)]
      exact ⟨0, rfl, Or.inr (Or.inr ⟨rfl, Or.inl ⟨i, h1, by omega, a2⟩⟩)⟩
    · rw [a1, bind_s, if_pos rfl, if_pos gj]
      rcases magainst (n := n) (C := C) (rc := rc) (kn := kn) (k := k) (LI := LI) (FR := FR) (TO := TO) (RC := RC) (KT := KT) (KP := KP) (KS := KS) (AS := AS) (hc := hc) (IC := IC) (len := len) (RO := RO) (VA := VA) (LV := LV) (CA := CA) (PL := PL) (pr := pr) (st := st) (lf := lf) (us := us) (MK := MK) h l2 with ⟨b1, b2⟩ | ⟨b1, b2⟩
      · rw [b1, bind_s, if_neg (by decide), nI_1]
        refine ih (i + 1) f o (by omega) (by omega) (by omega) (by omega) ?_
        have nx : ∀ s, s < i + 1 → ¬ s = i → s < i := fun s a b => by omega
        rcases hI with ⟨r0, q⟩ | ⟨r0, q⟩ | ⟨q0, q⟩
        · refine Or.inl ⟨r0, fun s a b => ?_⟩
          by_cases z : s = i
          · rw [z]; exact b2
          · exact q s a (nx s b z)
        · obtain ⟨s0, q1, q2, q3, q4, q5⟩ := q
          refine Or.inr (Or.inl ⟨r0, s0, q1, by omega, q3, q4, fun s a b w => ?_⟩)
          by_cases z : s = i
          · rw [z]; exact b2
          · exact q5 s a (nx s b z) w
        · obtain ⟨s1, s2, q1, q2, q3, q4, q5⟩ := q
          exact Or.inr (Or.inr ⟨q0, s1, s2, q1, q2, by omega, q4, q5⟩)
      · rw [b1, bind_s, if_pos rfl, nI_1, nI_1]
        refine ih (i + 1) f (o + 1) (by omega) (by omega) (by omega) (by omega) ?_
        have nx : ∀ s, s < i + 1 → ¬ s = i → s < i := fun s a b => by omega
        rcases hI with ⟨r0, q⟩ | ⟨r0, q⟩ | ⟨q0, q⟩
        · exact Or.inr (Or.inl ⟨by omega, i, h1, by omega, b2, a2, fun s a b w => q s a (nx s b w)⟩)
        · obtain ⟨s0, q1, q2, q3, q4, q5⟩ := q
          exact Or.inr (Or.inr ⟨by omega, s0, i, q1, q2, by omega, q3, b2⟩)
        · obtain ⟨s1, s2, q1, q2, q3, q4, q5⟩ := q
          exact Or.inr (Or.inr ⟨by omega, s1, s2, q1, q2, by omega, q4, q5⟩)
theorem how_ok (hS : ModS n C N LI FR lit start) (h : MTra n len pr RO VA LV PL tr lvl) {c : Nat} (hc1 : c < C) : ∃ r, m_Mod_how (modT n C rc kn k LI FR TO RC KT KP KS AS hc IC len RO VA LV CA PL pr st lf us MK) (nI c) = some r ∧ HowIs len tr lit (start c) (start (c + 1)) r := by
  obtain ⟨⟨y1, y2, y3, y4⟩, y5, y6, y7, y8⟩ := id hS
  have hb := ms_le hS (c := c + 1) (by omega)
  obtain ⟨r, e1, e2⟩ := how_L (n := n) (C := C) (rc := rc) (kn := kn) (k := k) (LI := LI) (FR := FR) (TO := TO) (RC := RC) (KT := KT) (KP := KP) (KS := KS) (AS := AS) (hc := hc) (IC := IC) (len := len) (RO := RO) (VA := VA) (LV := LV) (CA := CA) (PL := PL) (pr := pr) (st := st) (lf := lf) (us := us) (MK := MK) hS h hc1 (start (c + 1) - start c) (start c) fu 0 (by have := y7 c hc1; omega) (Nat.le_refl _) (by unfold fu; omega) (by omega) (Or.inl ⟨rfl, fun s a b => absurd b (by omega)⟩)
  refine ⟨r, ?_, e2⟩
  have e : m_Mod_how (modT n C rc kn k LI FR TO RC KT KP KS AS hc IC len RO VA LV CA PL pr st lf us MK) (nI c) = (if ¬ (nI c < 0 ∨ 1502 ≤ (nI c).toNatClampNeg) then m_Mod_how_L9 (modT n C rc kn k LI FR TO RC KT KP KS AS hc IC len RO VA LV CA PL pr st lf us MK) fu (nI c) 0 (FR (nI c).toNatClampNeg) else none) := rfl
  rw [e, if_pos (nI_in (by omega) (by omega)), nI_clamp (by omega), y5 c (by omega)]
  exact e1
end
