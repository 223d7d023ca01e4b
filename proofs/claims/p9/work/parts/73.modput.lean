/-! PURE, 23: the reference's room, STEP, new clauses; the cut; what comes to the trail -/
/-- distinct numbers below n: at most n of them -/
theorem pig : ∀ (n k : Nat) (f : Nat → Nat), (∀ i, i < k → f i < n) → (∀ i j, i < k → j < k → f i = f j → i = j) → k ≤ n := by
  intro n
  induction n with
  | zero =>
    intro k f h1 h2
    by_cases q : k = 0
    · omega
    · exact absurd (h1 0 (by omega)) (by omega)
  | succ n ih =>
    intro k f h1 h2
    by_cases q : ∃ i, i < k ∧ f i = n
    · obtain ⟨i0, a1, a2⟩ := q
      have w := ih (k - 1) (fun i => if i < i0 then f i else f (i + 1)) (fun i hi => by
        show (if i < i0 then f i else f (i + 1)) < n
        by_cases c : i < i0
        · rw [if_pos c]
          have b1 := h1 i (by omega)
          by_cases e : f i = n
          · have := h2 i i0 (by omega) a1 (by rw [e, a2]); omega
          · omega
        · rw [if_neg c]
          have b1 := h1 (i + 1) (by omega)
          by_cases e : f (i + 1) = n
          · have := h2 (i + 1) i0 (by omega) a1 (by rw [e, a2]); omega
          · omega) (fun i j hi hj e => by
        have e' : (if i < i0 then f i else f (i + 1)) = (if j < i0 then f j else f (j + 1)) := e
        by_cases c : i < i0
        · rw [if_pos c] at e'
          by_cases c2 : j < i0
          · rw [if_pos c2] at e'
            exact h2 i j (by omega) (by omega) e'
          · rw [if_neg c2] at e'
            have := h2 i (j + 1) (by omega) (by omega) e'
            omega
        · rw [if_neg c] at e'
          by_cases c2 : j < i0
          · rw [if_pos c2] at e'
            have := h2 (i + 1) j (by omega) (by omega) e'
            omega
          · rw [if_neg c2] at e'
            have := h2 (i + 1) (j + 1) (by omega) (by omega) e'
            omega)
      omega
    · have w := ih k f (fun i hi => by
        have b1 := h1 i hi
        by_cases e : f i = n
        · exact absurd ⟨i, hi, e⟩ q
        · omega) h2
      omega
section
variable {n C rc kn k : Nat} {LI FR TO RC KT KP KS AS : Nat → Int32} {hc : Int32} {IC : Nat → Int32} {len : Nat} {RO VA LV CA PL : Nat → Int32} {pr : Nat} {st : Int32} {lf us : Int64} {MK : Nat → Int32} {N : Nat} {lit start tr lvl : Nat → Nat} {mk : Nat → Bool}
theorem mroom_ok (hS : ModS n C N LI FR lit start) {a b : Nat} (ha : a ≤ 30000) (hb : b ≤ 30000) : (m_Mod_room (modT n C rc kn k LI FR TO RC KT KP KS AS hc IC len RO VA LV CA PL pr st lf us MK) (nI a) (nI b) = some 1 ∧ C + a ≤ 1500 ∧ N + b ≤ 20000) ∨ (m_Mod_room (modT n C rc kn k LI FR TO RC KT KP KS AS hc IC len RO VA LV CA PL pr st lf us MK) (nI a) (nI b) = some 0 ∧ ¬ (C + a ≤ 1500 ∧ N + b ≤ 20000)) := by
  obtain ⟨⟨y1, y2, y3, y4⟩, y5, y6, y7, y8⟩ := id hS
  have e : m_Mod_room (modT n C rc kn k LI FR TO RC KT KP KS AS hc IC len RO VA LV CA PL pr st lf us MK) (nI a) (nI b) = (if (1500 : Int32) < nI C + nI a then some 0 else if ¬ (nI C < 0 ∨ 1502 ≤ (nI C).toNatClampNeg) then (if (20000 : Int32) < FR (nI C).toNatClampNeg + nI b then some 0 else some 1) else none) := rfl
  rw [e, nI_add]
  by_cases c1 : C + a ≤ 1500
  · rw [if_neg (show ¬ (1500 : Int32) < nI (C + a) from nI_nlt (a := 1500) c1 (by omega)), if_pos (nI_in (by omega) (by omega)), nI_clamp (by omega), y5 C (Nat.le_refl C), y6, nI_add]
    by_cases c2 : N + b ≤ 20000
    · rw [if_neg (show ¬ (20000 : Int32) < nI (N + b) from nI_nlt (a := 20000) c2 (by omega))]
      exact Or.inl ⟨rfl, c1, c2⟩
    · rw [if_pos (show (20000 : Int32) < nI (N + b) from nI_lt (a := 20000) (by omega) (by omega))]
      exact Or.inr ⟨rfl, fun q => c2 q.2⟩
  · rw [if_pos (show (1500 : Int32) < nI (C + a) from nI_lt (a := 1500) (by omega) (by omega))]
    exact Or.inr ⟨rfl, fun q => c1 q.1⟩
theorem mstep_ok : (0 < lf ∧ m_Mod_step (modT n C rc kn k LI FR TO RC KT KP KS AS hc IC len RO VA LV CA PL pr st lf us MK) = some ((modT n C rc kn k LI FR TO RC KT KP KS AS hc IC len RO VA LV CA PL pr st (lf - 1) (us + 1) MK), 1)) ∨ (¬ 0 < lf ∧ m_Mod_step (modT n C rc kn k LI FR TO RC KT KP KS AS hc IC len RO VA LV CA PL pr st lf us MK) = some ((modT n C rc kn k LI FR TO RC KT KP KS AS hc IC len RO VA LV CA PL pr 3 lf us MK), 0)) := by
  have e : m_Mod_step (modT n C rc kn k LI FR TO RC KT KP KS AS hc IC len RO VA LV CA PL pr st lf us MK) = (if 0 < lg_cmp lf 0 then some ((modT n C rc kn k LI FR TO RC KT KP KS AS hc IC len RO VA LV CA PL pr st (lf - 1) (us + 1) MK), 1) else some ((modT n C rc kn k LI FR TO RC KT KP KS AS hc IC len RO VA LV CA PL pr 3 lf us MK), 0)) := rfl
  rw [e]
  by_cases c : 0 < lf
  · exact Or.inl ⟨c, by rw [if_pos ((lg_gt0 lf).mpr c)]⟩
  · exact Or.inr ⟨c, by rw [if_neg fun q => c ((lg_gt0 lf).mp q)]⟩
theorem mbegin_ok (hS : ModS n C N LI FR lit start) (hr : C + 1 ≤ 1500) (x : Int32) : m_Mod_begin (modT n C rc kn k LI FR TO RC KT KP KS AS hc IC len RO VA LV CA PL pr st lf us MK) x = some (modT n (C + 1) rc kn k LI (upd FR (C + 1) (nI N)) (upd TO C (x &&& 1)) RC KT KP KS AS hc IC len RO VA LV CA PL pr st lf us MK) ∧ ModS n (C + 1) N LI (upd FR (C + 1) (nI N)) lit (va_up start (C + 1) N) := by
  obtain ⟨⟨y1, y2, y3, y4⟩, y5, y6, y7, y8⟩ := id hS
  constructor
  · have e : m_Mod_begin (modT n C rc kn k LI FR TO RC KT KP KS AS hc IC len RO VA LV CA PL pr st lf us MK) x = (if ¬ (nI C < 0 ∨ 1501 ≤ (nI C).toNatClampNeg) then (if ¬ (nI C + 1 - 1 < 0 ∨ 1502 ≤ (nI C + 1 - 1).toNatClampNeg) then (if ¬ (nI C + 1 < 0 ∨ 1502 ≤ (nI C + 1).toNatClampNeg) then some (0, nI n, (20000, LI), (1502, upd FR (nI C + 1).toNatClampNeg (FR (nI C + 1 - 1).toNatClampNeg)), (1501, upd TO (nI C).toNatClampNeg (x &&& 1)), nI C + 1, nI rc, (1500, RC), nI kn, (300, KT), (300, KP), (300, KS), nI k, (40, AS), hc, (40, IC), nI len, (300, RO), (300, VA), (300, LV), (300, CA), (300, PL), nI pr, st, lf, us, (600, MK)) else none) else none) else none) := rfl
    rw [e, nI_1, nI_pred, if_pos (nI_in (by omega) (by omega)), if_pos (nI_in (by omega) (by omega)), if_pos (nI_in (by omega) (by omega)), nI_clamp (n := C) (by omega), nI_clamp (n := C + 1) (by omega), y5 C (Nat.le_refl C), y6]
  · refine ⟨⟨hr, y2, y3, y4⟩, fun c hc => ?_, up_s _ _ _, fun c hc => ?_, y8⟩
    · by_cases q : c = C + 1
      · rw [q, pk_us, up_s]
      · rw [pk_un q, up_n _ _ q]
        exact y5 c (by omega)
    · rw [up_n _ _ (show ¬ c = C + 1 by omega)]
      by_cases q : c = C
      · rw [q, up_s, y6]; exact Nat.le_refl N
      · rw [up_n _ _ (show ¬ c + 1 = C + 1 by omega)]
        exact y7 c (by omega)
theorem mput_ok (hS : ModS n C N LI FR lit start) (hr : N + 1 ≤ 20000) {l : Nat} (hl : l < 2 * n) : m_Mod_put (modT n C rc kn k LI FR TO RC KT KP KS AS hc IC len RO VA LV CA PL pr st lf us MK) (nI l) = some (modT n C rc kn k (upd LI N (nI l)) (upd FR C (nI (N + 1))) TO RC KT KP KS AS hc IC len RO VA LV CA PL pr st lf us MK) ∧ ModS n C (N + 1) (upd LI N (nI l)) (upd FR C (nI (N + 1))) (va_up lit N l) (va_up start C (N + 1)) := by
  obtain ⟨⟨y1, y2, y3, y4⟩, y5, y6, y7, y8⟩ := id hS
  constructor
  · have e : m_Mod_put (modT n C rc kn k LI FR TO RC KT KP KS AS hc IC len RO VA LV CA PL pr st lf us MK) (nI l) = (if ¬ (nI C < 0 ∨ 1502 ≤ (nI C).toNatClampNeg) then (if ¬ (FR (nI C).toNatClampNeg < 0 ∨ 20000 ≤ (FR (nI C).toNatClampNeg).toNatClampNeg) then (if ¬ (nI C < 0 ∨ 1502 ≤ (nI C).toNatClampNeg) then (if ¬ (nI C < 0 ∨ 1502 ≤ (nI C).toNatClampNeg) then some (modT n C rc kn k (upd LI (FR (nI C).toNatClampNeg).toNatClampNeg (nI l)) (upd FR (nI C).toNatClampNeg (FR (nI C).toNatClampNeg + 1)) TO RC KT KP KS AS hc IC len RO VA LV CA PL pr st lf us MK) else none) else none) else none) else none) := rfl
    have gi : ¬ (nI C < 0 ∨ 1502 ≤ (nI C).toNatClampNeg) := nI_in (by omega) (by omega)
    rw [e, if_pos gi, nI_clamp (n := C) (by omega), y5 C (Nat.le_refl C), y6, if_pos (nI_in (by omega) (by omega)), if_pos (by rw [nI_clamp (n := C) (by omega)] at gi; exact gi), if_pos (by rw [nI_clamp (n := C) (by omega)] at gi; exact gi), nI_clamp (n := N) (by omega), nI_1]
  · refine ⟨⟨y1, hr, y3, y4⟩, fun c hc => ?_, up_s _ _ _, fun c hc => ?_, fun s hs => ?_⟩
    · by_cases q : c = C
      · rw [q, pk_us, up_s]
      · rw [pk_un q, up_n _ _ q]
        exact y5 c hc
    · rw [up_n _ _ (show ¬ c = C by omega)]
      by_cases q : c + 1 = C
      · rw [q, up_s]
        have := y7 c hc
        rw [q, y6] at this
        omega
      · rw [up_n _ _ q]
        exact y7 c hc
    · by_cases q : s = N
      · rw [q, pk_us, up_s]
        exact ⟨rfl, hl⟩
      · rw [pk_un q, up_n _ _ q]
        exact y8 s (by omega)
/-- the marked literals come to the clause that came last, in their order -/
theorem rowput_L (hMk : MkI MK mk) {N0 : Nat} (hQ : N0 + mcm mk (2 * n) ≤ 20000) (lit0 start0 : Nat → Nat) (x3 x4 : Int32) : ∀ (d j f : Nat) (LI FR : Nat → Int32) (lit start : Nat → Nat), j + d = 2 * n → d < f → ModS n C (N0 + mcm mk j) LI FR lit start → (∀ s, s < N0 → lit s = lit0 s) → (∀ c, c < C → start c = start0 c) → (∀ s, N0 ≤ s → s < N0 + mcm mk j → mk (lit s) = true) → (∀ l, l < j → mk l = true → ∃ s, N0 ≤ s ∧ s < N0 + mcm mk j ∧ lit s = l) →
    ∃ LI' FR' lit' start', ModS n C (N0 + mcm mk (2 * n)) LI' FR' lit' start' ∧ (∀ s, s < N0 → lit' s = lit0 s) ∧ (∀ c, c < C → start' c = start0 c) ∧ (∀ s, N0 ≤ s → s < N0 + mcm mk (2 * n) → mk (lit' s) = true) ∧ (∀ l, l < 2 * n → mk l = true → ∃ s, N0 ≤ s ∧ s < N0 + mcm mk (2 * n) ∧ lit' s = l) ∧ m_Mod_learns_L192 f (modT n C rc kn k LI FR TO RC KT KP KS AS hc IC len RO VA LV CA PL pr st lf us MK) x3 x4 (nI j) = m_Mod_learns_L192 1 (modT n C rc kn k LI' FR' TO RC KT KP KS AS hc IC len RO VA LV CA PL pr st lf us MK) x3 x4 (nI (2 * n)) := by
  have eF : ∀ f LI FR j, m_Mod_learns_L192 (f + 1) (modT n C rc kn k LI FR TO RC KT KP KS AS hc IC len RO VA LV CA PL pr st lf us MK) x3 x4 j = (if (2 : Int32) * nI n ≤ j then (if ¬ (nI rc < 0 ∨ 1500 ≤ (nI rc).toNatClampNeg) then ((m_Mod_cut (0, nI n, (20000, LI), (1502, FR), (1501, TO), nI C, nI rc + 1, (1500, upd RC (nI rc).toNatClampNeg (nI C - 1)), nI kn, (300, KT), (300, KP), (300, KS), nI k, (40, AS), hc, (40, IC), nI len, (300, RO), (300, VA), (300, LV), (300, CA), (300, PL), nI pr, st, lf, us, (600, MK)) x4).bind fun r22 => (m_Mod_comes r22 x3 r22.2.2.2.2.2.2.2.2.2.2.2.2.2.2.2.2.2.2.2.2.2.2.1 (r22.2.2.2.2.2.1 - 1)).bind fun r24 => some (r24, 1)) else none) else if ¬ (j < 0 ∨ 600 ≤ j.toNatClampNeg) then (if MK j.toNatClampNeg = 0 then m_Mod_learns_L192 f (modT n C rc kn k LI FR TO RC KT KP KS AS hc IC len RO VA LV CA PL pr st lf us MK) x3 x4 (j + 1) else (m_Mod_put (modT n C rc kn k LI FR TO RC KT KP KS AS hc IC len RO VA LV CA PL pr st lf us MK) j).bind fun r27 => m_Mod_learns_L192 f r27 x3 x4 (j + 1)) else none) := fun f LI FR j => rfl
  have e2 : (2 : Int32) * nI n = nI (2 * n) := pk_mul 2 n
  intro d
  induction d with
  | zero =>
    intro j f LI FR lit start e hf hS h1 h2 h3 h4
    obtain ⟨f, rfl⟩ : ∃ g, f = g + 1 := ⟨f - 1, by omega⟩
    have hn := hS.1
    have ej : j = 2 * n := by omega
    subst ej
    refine ⟨LI, FR, lit, start, hS, h1, h2, h3, h4, ?_⟩
    rw [eF f, eF 0, e2, if_pos (nI_le (Nat.le_refl _) (by omega)), if_pos (nI_le (Nat.le_refl _) (by omega))]
  | succ d ih =>
    intro j f LI FR lit start e hf hS h1 h2 h3 h4
    obtain ⟨f, rfl⟩ : ∃ g, f = g + 1 := ⟨f - 1, by omega⟩
    have hn := hS.1
    have hcm : mcm mk (j + 1) = mcm mk j + (if mk j = true then 1 else 0) := rfl
    rw [eF, e2, if_neg (nI_ge (by omega) (by omega)), if_pos (nI_in (by omega) (by omega)), nI_clamp (n := j) (by omega), hMk j (by omega)]
    cases hj : mk j with
    | false =>
      rw [if_neg (show ¬ mk j = true by rw [hj]; decide)] at hcm
      rw [show bz false = 0 from rfl, if_pos rfl, nI_1]
      have e3 : mcm mk (j + 1) = mcm mk j := by omega
      refine ih (j + 1) f LI FR lit start (by omega) (by omega) (by rw [e3]; exact hS) h1 h2 (by rw [e3]; exact h3) (fun l a w => ?_)
      rw [e3]
      by_cases q : l = j
      · rw [q, hj] at w; cases w
      · exact h4 l (by omega) w
    | true =>
      rw [if_pos hj] at hcm
      have le := mcm_mono mk (2 * n - (j + 1)) (j + 1)
      rw [show j + 1 + (2 * n - (j + 1)) = 2 * n by omega] at le
      obtain ⟨p1, p2⟩ := mput_ok (n := n) (C := C) (rc := rc) (kn := kn) (k := k) (LI := LI) (FR := FR) (TO := TO) (RC := RC) (KT := KT) (KP := KP) (KS := KS) (AS := AS) (hc := hc) (IC := IC) (len := len) (RO := RO) (VA := VA) (LV := LV) (CA := CA) (PL := PL) (pr := pr) (st := st) (lf := lf) (us := us) (MK := MK) hS (by omega) (l := j) (by omega)
      rw [show bz true = 1 from rfl, if_neg (by decide), p1, bind_s, nI_1]
      have e3 : N0 + mcm mk (j + 1) = N0 + mcm mk j + 1 := by omega
      refine ih (j + 1) f _ _ _ _ (by omega) (by omega) (by rw [e3]; exact p2) (fun s a => ?_) (fun c a => ?_) (fun s a b => ?_) (fun l a w => ?_)
      · rw [up_n _ _ (by omega)]
        exact h1 s a
      · rw [up_n _ _ (by omega)]
        exact h2 c a
      · by_cases q : s = N0 + mcm mk j
        · rw [q, up_s]; exact hj
        · rw [up_n _ _ q]
          exact h3 s a (by omega)
      · by_cases q : l = j
        · exact ⟨N0 + mcm mk j, by omega, by omega, by rw [up_s]; exact q.symm⟩
        · obtain ⟨s, a1, a2, a3⟩ := h4 l (by omega) w
          exact ⟨s, a1, by omega, by rw [up_n _ _ (by omega)]; exact a3⟩
/-- the trail without its level -/
def MTc (n len : Nat) (RO VA LV PL : Nat → Int32) (tr lvl : Nat → Nat) : Prop :=
  (1 ≤ n ∧ n ≤ 300 ∧ len ≤ n) ∧
  (∀ i, i < len → tr i < 2 * n ∧ RO i = nI (tr i / 2) ∧ VA (tr i / 2) = nI (tr i % 2 + 1) ∧ LV (tr i / 2) = nI (lvl (tr i / 2)) ∧ PL (tr i / 2) = nI i ∧ lvl (tr i / 2) ≤ i + 1) ∧
  (∀ t, t < n → VA t = 0 ∨ ∃ i, i < len ∧ tr i / 2 = t) ∧
  (∀ i j, i < j → j < len → lvl (tr i / 2) ≤ lvl (tr j / 2))
theorem mt_c (h : MTra n len pr RO VA LV PL tr lvl) : MTc n len RO VA LV PL tr lvl := by
  obtain ⟨⟨z1, z2, z3, z4⟩, t1, t2, t3⟩ := h
  refine ⟨⟨z1, z2, z3⟩, fun i hi => ?_, t2, t3⟩
  obtain ⟨a1, a2, a3, a4, a5, -, a7⟩ := t1 i hi
  exact ⟨a1, a2, a3, a4, a5, a7⟩
theorem mt_of (h : MTc n len RO VA LV PL tr lvl) (hp : pr ≤ len) (hl : ∀ i, i < len → lvl (tr i / 2) ≤ pr) : MTra n len pr RO VA LV PL tr lvl := by
  obtain ⟨⟨z1, z2, z3⟩, t1, t2, t3⟩ := h
  refine ⟨⟨z1, z2, z3, hp⟩, fun i hi => ?_, t2, t3⟩
  obtain ⟨a1, a2, a3, a4, a5, a7⟩ := t1 i hi
  exact ⟨a1, a2, a3, a4, a5, hl i hi, a7⟩
theorem mc_inj (h : MTc n len RO VA LV PL tr lvl) {i j : Nat} (hi : i < len) (hj : j < len) (e : tr i / 2 = tr j / 2) : i = j := by
  obtain ⟨⟨z1, z2, z3⟩, t1, -, -⟩ := h
  have a := (t1 i hi).2.2.2.2.1
  have b := (t1 j hj).2.2.2.2.1
  rw [e, b] at a
  exact ((nI_eq (by omega) (by omega)).mp a).symm
theorem mcut_L {g : Nat} (hg : g < 2 ^ 31) : ∀ (len f : Nat) (VA : Nat → Int32), len < f → MTc n len RO VA LV PL tr lvl → ∃ len' VA', m_Mod_cut_L0 f (modT n C rc kn k LI FR TO RC KT KP KS AS hc IC len RO VA LV CA PL pr st lf us MK) (nI g) = some (modT n C rc kn k LI FR TO RC KT KP KS AS hc IC len' RO VA' LV CA PL g st lf us MK) ∧ MTc n len' RO VA' LV PL tr lvl ∧ len' ≤ len ∧ (∀ i, i < len' → lvl (tr i / 2) ≤ g) ∧ ∀ i, len' ≤ i → i < len → g < lvl (tr i / 2) := by
  have eF : ∀ f len VA, m_Mod_cut_L0 (f + 1) (modT n C rc kn k LI FR TO RC KT KP KS AS hc IC len RO VA LV CA PL pr st lf us MK) (nI g) = (if nI len ≤ 0 then some (modT n C rc kn k LI FR TO RC KT KP KS AS hc IC len RO VA LV CA PL g st lf us MK) else if ¬ (nI len - 1 < 0 ∨ 300 ≤ (nI len - 1).toNatClampNeg) then (if ¬ (RO (nI len - 1).toNatClampNeg < 0 ∨ 300 ≤ (RO (nI len - 1).toNatClampNeg).toNatClampNeg) then (if LV (RO (nI len - 1).toNatClampNeg).toNatClampNeg ≤ nI g then some (modT n C rc kn k LI FR TO RC KT KP KS AS hc IC len RO VA LV CA PL g st lf us MK) else if ¬ (nI len - 1 < 0 ∨ 300 ≤ (nI len - 1).toNatClampNeg) then (if ¬ (RO (nI len - 1).toNatClampNeg < 0 ∨ 300 ≤ (RO (nI len - 1).toNatClampNeg).toNatClampNeg) then m_Mod_cut_L0 f (0, nI n, (20000, LI), (1502, FR), (1501, TO), nI C, nI rc, (1500, RC), nI kn, (300, KT), (300, KP), (300, KS), nI k, (40, AS), hc, (40, IC), nI len - 1, (300, RO), (300, upd VA (RO (nI len - 1).toNatClampNeg).toNatClampNeg 0), (300, LV), (300, CA), (300, PL), nI pr, st, lf, us, (600, MK)) (nI g) else none) else none) else none) else none) := fun f len VA => rfl
  intro len
  induction len with
  | zero =>
    intro f VA hf h
    obtain ⟨f, rfl⟩ : ∃ g, f = g + 1 := ⟨f - 1, by omega⟩
    rw [eF, if_pos (by decide)]
    exact ⟨0, VA, rfl, h, Nat.le_refl 0, fun i hi => absurd hi (by omega), fun i _ hi => absurd hi (by omega)⟩
  | succ len ih =>
    intro f VA hf h
    obtain ⟨f, rfl⟩ : ∃ g, f = g + 1 := ⟨f - 1, by omega⟩
    obtain ⟨⟨z1, z2, z3⟩, t1, t2, t3⟩ := id h
    obtain ⟨a1, a2, a3, a4, a5, a6⟩ := t1 len (by omega)
    have g1 : ¬ (nI len < 0 ∨ 300 ≤ (nI len).toNatClampNeg) := nI_in (by omega) (by omega)
    have g2 : ¬ (nI (tr len / 2) < 0 ∨ 300 ≤ (nI (tr len / 2)).toNatClampNeg) := nI_in (by omega) (by omega)
    rw [eF, if_neg (nI_nle (by omega) (by omega)), nI_pred, if_pos g1, nI_clamp (n := len) (by omega), a2, if_pos g2, nI_clamp (n := tr len / 2) (by omega), a4]
    by_cases c : lvl (tr len / 2) ≤ g
    · rw [if_pos (nI_le c hg)]
      refine ⟨len + 1, VA, rfl, h, Nat.le_refl _, fun i hi => ?_, fun i h1 h2 => absurd h1 (by omega)⟩
      by_cases q : i = len
      · rw [q]; exact c
      · exact Nat.le_trans (t3 i len (by omega) (by omega)) c
    · have g3 : ¬ (nI len < 0 ∨ 300 ≤ len) := by rw [nI_clamp (n := len) (by omega)] at g1; exact g1
      have g4 : ¬ (nI (tr len / 2) < 0 ∨ 300 ≤ tr len / 2) := by rw [nI_clamp (n := tr len / 2) (by omega)] at g2; exact g2
      rw [if_neg (nI_ge (by omega) (by omega)), if_pos g3, if_pos g4]
      obtain ⟨len', VA', r1, r2, r3, r4, r5⟩ := ih f (upd VA (tr len / 2) 0) (by omega) ⟨⟨z1, z2, by omega⟩, fun i hi => by
        obtain ⟨b1, b2, b3, b4, b5, b6⟩ := t1 i (by omega)
        have ne : ¬ tr i / 2 = tr len / 2 := fun q => by
          have := mc_inj h (i := i) (j := len) (by omega) (by omega) q
          omega
        exact ⟨b1, b2, by rw [pk_un ne]; exact b3, b4, b5, b6⟩, fun t ht => by
        by_cases q : t = tr len / 2
        · exact Or.inl (by rw [q, pk_us])
        · rw [pk_un q]
          rcases t2 t ht with w | ⟨i, w1, w2⟩
          · exact Or.inl w
          · by_cases e : i = len
            · rw [e] at w2
              exact absurd w2.symm q
            · exact Or.inr ⟨i, by omega, w2⟩, fun i j h1 h2 => t3 i j h1 (by omega)⟩
      refine ⟨len', VA', r1, r2, by omega, r4, fun i h1 h2 => ?_⟩
      by_cases q : i = len
      · rw [q]; omega
      · exact r5 i h1 (by omega)
/-- a thing that isn't on the trail comes to it -/
theorem mcomes_ok (h : MTc n len RO VA LV PL tr lvl) {l a : Nat} (hl : l < 2 * n) (ha : a ≤ len + 1) (hA : ∀ i, i < len → lvl (tr i / 2) ≤ a) (hn : ∀ i, i < len → ¬ tr i / 2 = l / 2) (x : Int32) : len < n ∧ m_Mod_comes (modT n C rc kn k LI FR TO RC KT KP KS AS hc IC len RO VA LV CA PL pr st lf us MK) (nI l) (nI a) x = some (modT n C rc kn k LI FR TO RC KT KP KS AS hc IC (len + 1) (upd RO len (nI (l / 2))) (upd VA (l / 2) (nI (l % 2 + 1))) (upd LV (l / 2) (nI a)) (upd CA (l / 2) x) (upd PL (l / 2) (nI len)) pr st lf us MK) ∧ MTc n (len + 1) (upd RO len (nI (l / 2))) (upd VA (l / 2) (nI (l % 2 + 1))) (upd LV (l / 2) (nI a)) (upd PL (l / 2) (nI len)) (va_up tr len l) (va_up lvl (l / 2) a) := by
  obtain ⟨⟨z1, z2, z3⟩, t1, t2, t3⟩ := id h
  have hlen : len < n := by
    have := pig n (len + 1) (fun i => if i < len then tr i / 2 else l / 2) (fun i hi => by
      show (if i < len then tr i / 2 else l / 2) < n
      by_cases q : i < len
      · rw [if_pos q]
        have := (t1 i q).1
        omega
      · rw [if_neg q]; omega) (fun i j hi hj e => by
      have e' : (if i < len then tr i / 2 else l / 2) = (if j < len then tr j / 2 else l / 2) := e
      by_cases q : i < len
      · rw [if_pos q] at e'
        by_cases w : j < len
        · rw [if_pos w] at e'
          exact mc_inj h q w e'
        · rw [if_neg w] at e'
          exact absurd e' (hn i q)
      · rw [if_neg q] at e'
        by_cases w : j < len
        · rw [if_pos w] at e'
          exact absurd e'.symm (hn j w)
        · omega)
    omega
  refine ⟨hlen, ?_, ⟨z1, z2, hlen⟩, fun i hi => ?_, fun t ht => ?_, fun i j h1 h2 => ?_⟩
  · have e : m_Mod_comes (modT n C rc kn k LI FR TO RC KT KP KS AS hc IC len RO VA LV CA PL pr st lf us MK) (nI l) (nI a) x = (if ¬ (nI l / (2 : Int32) < 0 ∨ 300 ≤ (nI l / (2 : Int32)).toNatClampNeg) then (if ¬ (nI l / (2 : Int32) < 0 ∨ 300 ≤ (nI l / (2 : Int32)).toNatClampNeg) then (if ¬ (nI l / (2 : Int32) < 0 ∨ 300 ≤ (nI l / (2 : Int32)).toNatClampNeg) then (if ¬ (nI l / (2 : Int32) < 0 ∨ 300 ≤ (nI l / (2 : Int32)).toNatClampNeg) then (if ¬ (nI len < 0 ∨ 300 ≤ (nI len).toNatClampNeg) then some (0, nI n, (20000, LI), (1502, FR), (1501, TO), nI C, nI rc, (1500, RC), nI kn, (300, KT), (300, KP), (300, KS), nI k, (40, AS), hc, (40, IC), nI len + 1, (300, upd RO (nI len).toNatClampNeg (nI l / (2 : Int32))), (300, upd VA (nI l / (2 : Int32)).toNatClampNeg (nI l - nI l / (2 : Int32) * (2 : Int32) + 1)), (300, upd LV (nI l / (2 : Int32)).toNatClampNeg (nI a)), (300, upd CA (nI l / (2 : Int32)).toNatClampNeg x), (300, upd PL (nI l / (2 : Int32)).toNatClampNeg (nI len)), nI pr, st, lf, us, (600, MK)) else none) else none) else none) else none) else none) := rfl
    have g1 : ¬ (nI (l / 2) < 0 ∨ 300 ≤ (nI (l / 2)).toNatClampNeg) := nI_in (by omega) (by omega)
    rw [e, rem_ok (by omega), half_ok (by omega), if_pos g1, if_pos g1, if_pos g1, if_pos g1, if_pos (nI_in (by omega) (by omega)), nI_clamp (n := l / 2) (by omega), nI_clamp (n := len) (by omega), nI_1, nI_1]
  · by_cases q : i = len
    · rw [q, up_s, up_s, pk_us, pk_us, pk_us, pk_us]
      exact ⟨hl, rfl, rfl, rfl, rfl, ha⟩
    · have hi' : i < len := by omega
      have ne := hn i hi'
      rw [up_n _ _ q, up_n _ _ ne, pk_un q, pk_un ne, pk_un ne, pk_un ne]
      exact t1 i hi'
  · by_cases q : t = l / 2
    · exact Or.inr ⟨len, by omega, by rw [up_s]; exact q.symm⟩
    · rw [pk_un q]
      rcases t2 t ht with w | ⟨i, w1, w2⟩
      · exact Or.inl w
      · exact Or.inr ⟨i, by omega, by rw [up_n _ _ (by omega)]; exact w2⟩
  · have hi' : i < len := by omega
    rw [up_n tr _ (show ¬ i = len by omega), up_n lvl _ (hn i hi')]
    by_cases q : j = len
    · rw [q, up_s, up_s]
      exact hA i hi'
    · rw [up_n tr _ q, up_n lvl _ (hn j (by omega))]
      exact t3 i j h1 (by omega)
end
