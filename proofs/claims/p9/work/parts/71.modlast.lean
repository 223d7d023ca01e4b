/-! PURE, 21: the marks of the reference; last() -/
def bz (b : Bool) : Int32 := if b = true then 1 else 0
/-- the marks as a set; each marked literal's opposite is on the trail -/
def MkI (MK : Nat → Int32) (mk : Nat → Bool) : Prop := ∀ l, l < 600 → MK l = bz (mk l)
def MkR (n len : Nat) (tr : Nat → Nat) (mk : Nat → Bool) : Prop := ∀ l, mk l = true → l < 2 * n ∧ On len tr (opp l)
/-- marked, of the present level -/
def Pm (pr : Nat) (lvl : Nat → Nat) (mk : Nat → Bool) (l : Nat) : Prop := mk l = true ∧ lvl (l / 2) = pr
/-- what last() answers: none, and at most one of the present level is marked; or the one whose thing came last, of at least two -/
def LastIs (len pr : Nat) (tr lvl : Nat → Nat) (mk : Nat → Bool) (r : Int32) : Prop :=
  (r = -1 ∧ ∀ l l', Pm pr lvl mk l → Pm pr lvl mk l' → l = l') ∨
  (∃ b i, r = nI b ∧ Pm pr lvl mk b ∧ i < len ∧ tr i = opp b ∧ (∃ l, Pm pr lvl mk l ∧ ¬ l = b) ∧ ∀ l, Pm pr lvl mk l → ∃ j, j ≤ i ∧ tr j = opp l)
section
variable {n C rc kn k : Nat} {LI FR TO RC KT KP KS AS : Nat → Int32} {hc : Int32} {IC : Nat → Int32} {len : Nat} {RO VA LV CA PL : Nat → Int32} {pr : Nat} {st : Int32} {lf us : Int64} {MK : Nat → Int32} {N : Nat} {lit start tr lvl : Nat → Nat} {mk : Nat → Bool}
theorem mk_on (h : MTra n len pr RO VA LV PL tr lvl) (hR : MkR n len tr mk) {l : Nat} (hl : mk l = true) : l < 2 * n ∧ ∃ i, i < len ∧ tr i = opp l ∧ LV (l / 2) = nI (lvl (l / 2)) ∧ PL (l / 2) = nI i ∧ lvl (l / 2) ≤ pr := by
  obtain ⟨a, i, hi, e⟩ := hR l hl
  obtain ⟨-, -, -, t4, t5, t6, -⟩ := h.2.1 i hi
  rw [e, opp_half] at t4 t5 t6
  exact ⟨a, i, hi, e, t4, t5, t6⟩
/-- what last() knows before literal j: m of the present level, the best one x -/
def LastP (len pr : Nat) (tr lvl : Nat → Nat) (mk : Nat → Bool) (j m : Nat) (x : Int32) : Prop :=
  (m = 0 ∧ x = -1 ∧ ∀ l, l < j → ¬ Pm pr lvl mk l) ∨
  (1 ≤ m ∧ ∃ b i, b < j ∧ x = nI b ∧ Pm pr lvl mk b ∧ i < len ∧ tr i = opp b ∧ (∀ l, l < j → Pm pr lvl mk l → ∃ q, q ≤ i ∧ tr q = opp l) ∧ (m = 1 → ∀ l, l < j → Pm pr lvl mk l → l = b) ∧ (2 ≤ m → ∃ l, Pm pr lvl mk l ∧ ¬ l = b))
theorem lastP_skip {j m : Nat} {x : Int32} (h : LastP len pr tr lvl mk j m x) (hn : ¬ Pm pr lvl mk j) : LastP len pr tr lvl mk (j + 1) m x := by
  have nx : ∀ l, l < j + 1 → Pm pr lvl mk l → l < j := fun l a b => by
    by_cases e : l = j
    · rw [e] at b; exact absurd b hn
    · omega
  rcases h with ⟨h1, h2, h3⟩ | ⟨h1, b, i, q1, q2, q3, q4, q5, q6, q7, q8⟩
  · exact Or.inl ⟨h1, h2, fun l a b => h3 l (nx l a b) b⟩
  · exact Or.inr ⟨h1, b, i, by omega, q2, q3, q4, q5, fun l a c => q6 l (nx l a c) c, fun e l a c => q7 e l (nx l a c) c, q8⟩
theorem last_L (h : MTra n len pr RO VA LV PL tr lvl) (hM : MkI MK mk) (hR : MkR n len tr mk) : ∀ (d j f m : Nat) (x : Int32), j + d = 2 * n → d < f → m ≤ j → LastP len pr tr lvl mk j m x → ∃ r, m_Mod_last_L6 (modT n C rc kn k LI FR TO RC KT KP KS AS hc IC len RO VA LV CA PL pr st lf us MK) f x (nI m) (nI j) = some r ∧ LastIs len pr tr lvl mk r := by
  obtain ⟨⟨z1, z2, z3, z4⟩, t1, t2, t3⟩ := id h
  have eF : ∀ f x m j, m_Mod_last_L6 (modT n C rc kn k LI FR TO RC KT KP KS AS hc IC len RO VA LV CA PL pr st lf us MK) (f + 1) x m j = (if (2 : Int32) * nI n ≤ j then (if m ≤ (1 : Int32) then some (-1) else some x) else if ¬ (j < 0 ∨ 600 ≤ j.toNatClampNeg) then (if MK j.toNatClampNeg = 0 then m_Mod_last_L6 (modT n C rc kn k LI FR TO RC KT KP KS AS hc IC len RO VA LV CA PL pr st lf us MK) f x m (j + 1) else if ¬ (j / (2 : Int32) < 0 ∨ 300 ≤ (j / (2 : Int32)).toNatClampNeg) then (if LV (j / (2 : Int32)).toNatClampNeg = nI pr then (if x < 0 then m_Mod_last_L6 (modT n C rc kn k LI FR TO RC KT KP KS AS hc IC len RO VA LV CA PL pr st lf us MK) f j (m + 1) (j + 1) else if ¬ (j / (2 : Int32) < 0 ∨ 300 ≤ (j / (2 : Int32)).toNatClampNeg) then (if ¬ (x / (2 : Int32) < 0 ∨ 300 ≤ (x / (2 : Int32)).toNatClampNeg) then (if PL (j / (2 : Int32)).toNatClampNeg ≤ PL (x / (2 : Int32)).toNatClampNeg then m_Mod_last_L6 (modT n C rc kn k LI FR TO RC KT KP KS AS hc IC len RO VA LV CA PL pr st lf us MK) f x (m + 1) (j + 1) else m_Mod_last_L6 (modT n C rc kn k LI FR TO RC KT KP KS AS hc IC len RO VA LV CA PL pr st lf us MK) f j (m + 1) (j + 1)) else none) else none) else m_Mod_last_L6 (modT n C rc kn k LI FR TO RC KT KP KS AS hc IC len RO VA LV CA PL pr st lf us MK) f x m (j + 1)) else none) else none) := fun f x m j => rfl
  have e2 : (2 : Int32) * nI n = nI (2 * n) := pk_mul 2 n
  intro d
  induction d with
  | zero =>
    intro j f m x e hf hm hI
    obtain ⟨f, rfl⟩ : ∃ g, f = g + 1 := ⟨f - 1, by omega⟩
    have ej : j = 2 * n := by omega
    have lt : ∀ l, Pm pr lvl mk l → l < j := fun l q => by rw [ej]; exact (hR l q.1).1
    rw [eF, e2, if_pos (nI_le (by omega) (by omega))]
    rcases hI with ⟨h1, h2, h3⟩ | ⟨h1, b, i, q1, q2, q3, q4, q5, q6, q7, q8⟩
    · rw [h1, if_pos (show nI 0 ≤ (1 : Int32) by decide)]
      exact ⟨-1, rfl, Or.inl ⟨rfl, fun l l' a b => absurd a (h3 l (lt l a))⟩⟩
    · by_cases c : m = 1
      · rw [c, if_pos (show nI 1 ≤ (1 : Int32) by decide)]
        exact ⟨-1, rfl, Or.inl ⟨rfl, fun l l' a a' => by rw [q7 c l (lt l a) a, q7 c l' (lt l' a') a']⟩⟩
      · rw [if_neg (show ¬ nI m ≤ (1 : Int32) from nI_ge (a := 1) (by omega) (by omega))]
        exact ⟨x, rfl, Or.inr ⟨b, i, q2, q3, q4, q5, q8 (by omega), fun l a => q6 l (lt l a) a⟩⟩
  | succ d ih =>
    intro j f m x e hf hm hI
    obtain ⟨f, rfl⟩ : ∃ g, f = g + 1 := ⟨f - 1, by omega⟩
    rw [eF, e2, if_neg (nI_ge (by omega) (by omega)), if_pos (nI_in (by omega) (by omega)), nI_clamp (by omega), hM j (by omega)]
    cases hj : mk j with
    | false =>
      rw [show bz false = 0 from rfl, if_pos rfl, nI_1]
      exact ih (j + 1) f m x (by omega) (by omega) (by omega) (lastP_skip hI fun q => by rw [q.1] at hj; cases hj)
    | true =>
      obtain ⟨l1, i, hi, l3, l4, l5, l6⟩ := mk_on h hR hj
      have gi : ¬ (nI (j / 2) < 0 ∨ 300 ≤ (nI (j / 2)).toNatClampNeg) := nI_in (by omega) (by omega)
      have gj := gi
      rw [nI_clamp (n := j / 2) (by omega)] at gj
      rw [show bz true = 1 from rfl, if_neg (by decide), half_ok (by omega), if_pos gi, nI_clamp (n := j / 2) (by omega), l4]
      by_cases c : lvl (j / 2) = pr
      · have hp : Pm pr lvl mk j := ⟨hj, c⟩
        rw [if_pos (by rw [c])]
        rcases hI with ⟨h1, h2, h3⟩ | ⟨h1, b, i', q1, q2, q3, q4, q5, q6, q7, q8⟩
        · rw [h2, if_pos (by decide), nI_1, nI_1]
          refine ih (j + 1) f (m + 1) (nI j) (by omega) (by omega) (by omega) (Or.inr ⟨by omega, j, i, by omega, rfl, hp, hi, l3, fun l a q => ?_, fun _ l a q => ?_, fun y => absurd y (by omega)⟩)
          · by_cases y : l = j
            · exact ⟨i, Nat.le_refl i, by rw [y]; exact l3⟩
            · exact absurd q (h3 l (by omega))
          · by_cases y : l = j
            · exact y
            · exact absurd q (h3 l (by omega))
        · have hb := (hR b q3.1).1
          have pb : PL (b / 2) = nI i' := by
            have := (t1 i' q4).2.2.2.2.1
            rw [q5, opp_half] at this
            exact this
          rw [q2, if_neg (nI_pos (by omega)), if_pos gj, half_ok (by omega), if_pos (nI_in (by omega) (by omega)), nI_clamp (n := b / 2) (by omega), l5, pb, nI_1, nI_1]
          have nb : ¬ j = b := by omega
          by_cases w : i ≤ i'
          · rw [if_pos (nI_le w (by omega))]
            refine ih (j + 1) f (m + 1) (nI b) (by omega) (by omega) (by omega) (Or.inr ⟨by omega, b, i', by omega, rfl, q3, q4, q5, fun l a q => ?_, fun y => absurd y (by omega), fun _ => ⟨j, hp, nb⟩⟩)
            by_cases y : l = j
            · exact ⟨i, w, by rw [y]; exact l3⟩
            · exact q6 l (by omega) q
          · rw [if_neg (nI_ge (by omega) (by omega))]
            refine ih (j + 1) f (m + 1) (nI j) (by omega) (by omega) (by omega) (Or.inr ⟨by omega, j, i, by omega, rfl, hp, hi, l3, fun l a q => ?_, fun y => absurd y (by omega), fun _ => ⟨b, q3, fun y => nb y.symm⟩⟩)
            by_cases y : l = j
            · exact ⟨i, Nat.le_refl i, by rw [y]; exact l3⟩
            · obtain ⟨q', a1, a2⟩ := q6 l (by omega) q
              exact ⟨q', by omega, a2⟩
      · rw [if_neg (fun y => c ((nI_eq (by omega) (by omega)).mp y)), nI_1]
        exact ih (j + 1) f m x (by omega) (by omega) (by omega) (lastP_skip hI fun q => c q.2)
theorem last_ok (h : MTra n len pr RO VA LV PL tr lvl) (hM : MkI MK mk) (hR : MkR n len tr mk) : ∃ r, m_Mod_last (modT n C rc kn k LI FR TO RC KT KP KS AS hc IC len RO VA LV CA PL pr st lf us MK) = some r ∧ LastIs len pr tr lvl mk r :=
  last_L (n := n) (C := C) (rc := rc) (kn := kn) (k := k) (LI := LI) (FR := FR) (TO := TO) (RC := RC) (KT := KT) (KP := KP) (KS := KS) (AS := AS) (hc := hc) (IC := IC) (len := len) (RO := RO) (VA := VA) (LV := LV) (CA := CA) (PL := PL) (pr := pr) (st := st) (lf := lf) (us := us) (MK := MK) h hM hR (2 * n) 0 fu 0 (-1) (by omega) (by have := h.1; unfold fu; omega) (by omega) (Or.inl ⟨rfl, rfl, fun l a => absurd a (by omega)⟩)
/-- mix(c): the literals of clause c are marked, too -/
theorem mix_L (hS : ModS n C N LI FR lit start) {c : Nat} (hc1 : c < C) : ∀ (d i f : Nat) (MK : Nat → Int32) (mk : Nat → Bool), i + d = start (c + 1) → d < f → MkI MK mk → ∃ MK' mk', m_Mod_mix_L7 f (modT n C rc kn k LI FR TO RC KT KP KS AS hc IC len RO VA LV CA PL pr st lf us MK) (nI c) (nI i) = some (modT n C rc kn k LI FR TO RC KT KP KS AS hc IC len RO VA LV CA PL pr st lf us MK') ∧ MkI MK' mk' ∧ ∀ l, mk' l = true ↔ (mk l = true ∨ ∃ s, i ≤ s ∧ s < start (c + 1) ∧ lit s = l) := by
  obtain ⟨⟨y1, y2, y3, y4⟩, y5, y6, y7, y8⟩ := id hS
  have hb := ms_le hS (c := c + 1) (by omega)
  have eF : ∀ f MK i, m_Mod_mix_L7 (f + 1) (modT n C rc kn k LI FR TO RC KT KP KS AS hc IC len RO VA LV CA PL pr st lf us MK) (nI c) (nI i) = (if ¬ (nI c + 1 < 0 ∨ 1502 ≤ (nI c + 1).toNatClampNeg) then (if FR (nI c + 1).toNatClampNeg ≤ nI i then some (modT n C rc kn k LI FR TO RC KT KP KS AS hc IC len RO VA LV CA PL pr st lf us MK) else if ¬ (nI i < 0 ∨ 20000 ≤ (nI i).toNatClampNeg) then (if ¬ (LI (nI i).toNatClampNeg < 0 ∨ 600 ≤ (LI (nI i).toNatClampNeg).toNatClampNeg) then m_Mod_mix_L7 f (modT n C rc kn k LI FR TO RC KT KP KS AS hc IC len RO VA LV CA PL pr st lf us (upd MK (LI (nI i).toNatClampNeg).toNatClampNeg ((1 : Int32) &&& 1))) (nI c) (nI i + 1) else none) else none) else none) := fun f MK i => rfl
  have g1 : ¬ (nI c + 1 < 0 ∨ 1502 ≤ (nI c + 1).toNatClampNeg) := by rw [nI_1]; exact nI_in (by omega) (by omega)
  have g2 : FR (nI c + 1).toNatClampNeg = nI (start (c + 1)) := by rw [nI_1, nI_clamp (by omega), y5 (c + 1) (by omega)]
  intro d
  induction d with
  | zero =>
    intro i f MK mk e hf hM
    obtain ⟨f, rfl⟩ : ∃ g, f = g + 1 := ⟨f - 1, by omega⟩
    rw [eF, if_pos g1, g2, if_pos (nI_le (by omega) (by omega))]
    exact ⟨MK, mk, rfl, hM, fun l => ⟨Or.inl, fun q => by
      rcases q with q | ⟨s, a, b, _⟩
      · exact q
      · exact absurd a (by omega)⟩⟩
  | succ d ih =>
    intro i f MK mk e hf hM
    obtain ⟨f, rfl⟩ : ∃ g, f = g + 1 := ⟨f - 1, by omega⟩
    obtain ⟨l1, l2⟩ := y8 i (by omega)
    rw [eF, if_pos g1, g2, if_neg (nI_ge (by omega) (by omega)), if_pos (nI_in (by omega) (by omega)), nI_clamp (by omega), l1, if_pos (nI_in (by omega) (by omega)), nI_clamp (by omega), nI_1, show (1 : Int32) &&& 1 = 1 by decide]
    obtain ⟨MK', mk', r1, r2, r3⟩ := ih (i + 1) f (upd MK (lit i) 1) (va_up mk (lit i) true) (by omega) (by omega) (fun l hl => by
      by_cases q : l = lit i
      · rw [q, pk_us, up_s]; rfl
      · rw [pk_un q, up_n _ _ q]; exact hM l hl)
    refine ⟨MK', mk', r1, r2, fun l => ?_⟩
    rw [r3 l]
    constructor
    · rintro (q | ⟨s, a, b, w⟩)
      · by_cases y : l = lit i
        · exact Or.inr ⟨i, Nat.le_refl i, by omega, y.symm⟩
        · rw [up_n _ _ y] at q
          exact Or.inl q
      · exact Or.inr ⟨s, by omega, b, w⟩
    · rintro (q | ⟨s, a, b, w⟩)
      · by_cases y : l = lit i
        · rw [y, up_s]; exact Or.inl rfl
        · rw [up_n _ _ y]; exact Or.inl q
      · by_cases y : s = i
        · rw [← w, y, up_s]; exact Or.inl rfl
        · exact Or.inr ⟨s, by omega, b, w⟩
theorem mix_ok (hS : ModS n C N LI FR lit start) {c : Nat} (hc1 : c < C) (hM : MkI MK mk) : ∃ MK' mk', m_Mod_mix (modT n C rc kn k LI FR TO RC KT KP KS AS hc IC len RO VA LV CA PL pr st lf us MK) (nI c) = some (modT n C rc kn k LI FR TO RC KT KP KS AS hc IC len RO VA LV CA PL pr st lf us MK') ∧ MkI MK' mk' ∧ ∀ l, mk' l = true ↔ (mk l = true ∨ ∃ s, start c ≤ s ∧ s < start (c + 1) ∧ lit s = l) := by
  obtain ⟨⟨y1, y2, y3, y4⟩, y5, y6, y7, y8⟩ := id hS
  have hb := ms_le hS (c := c + 1) (by omega)
  have e : m_Mod_mix (modT n C rc kn k LI FR TO RC KT KP KS AS hc IC len RO VA LV CA PL pr st lf us MK) (nI c) = (if ¬ (nI c < 0 ∨ 1502 ≤ (nI c).toNatClampNeg) then m_Mod_mix_L7 fu (modT n C rc kn k LI FR TO RC KT KP KS AS hc IC len RO VA LV CA PL pr st lf us MK) (nI c) (FR (nI c).toNatClampNeg) else none) := rfl
  rw [e, if_pos (nI_in (by omega) (by omega)), nI_clamp (by omega), y5 c (by omega)]
  exact mix_L (n := n) (C := C) (rc := rc) (kn := kn) (k := k) (LI := LI) (FR := FR) (TO := TO) (RC := RC) (KT := KT) (KP := KP) (KS := KS) (AS := AS) (hc := hc) (IC := IC) (len := len) (RO := RO) (VA := VA) (LV := LV) (CA := CA) (PL := PL) (pr := pr) (st := st) (lf := lf) (us := us) hS hc1 (start (c + 1) - start c) (start c) fu MK mk (by have := y7 c hc1; omega) (by unfold fu; omega) hM
end
