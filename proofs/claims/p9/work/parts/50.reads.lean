/-! PURE, 11: reads of the Trail: what is on it; the least thing that isn't; the first assumption that doesn't hold -/
theorem on_place {n len lev : Nat} {TL ON LV : Nat → Int32} {tr lvl : Nat → Nat} {on : Nat → Bool} (hR : TraI n len lev TL ON LV tr on lvl) {l : Nat} (h : on l = true) : ON (l / 2) = nI l ∧ l < 2 * n ∧ on (opp l) = false := by
  obtain ⟨-, t1, -, t3, -, -⟩ := hR
  obtain ⟨i, hi, rfl⟩ := t3 l h
  obtain ⟨y1, y2, y3, y4, y5, y6, y7⟩ := t1 i hi
  exact ⟨y5, y2, y4⟩
/-- ON of a thing: its literal on the trail, or -1 -/
theorem on_val {n len lev : Nat} {TL ON LV : Nat → Int32} {tr lvl : Nat → Nat} {on : Nat → Bool} (hR : TraI n len lev TL ON LV tr on lvl) {t : Nat} (ht : t < n) : (on (2 * t) = true ∧ on (2 * t + 1) = false ∧ ON t = nI (2 * t)) ∨ (on (2 * t + 1) = true ∧ on (2 * t) = false ∧ ON t = nI (2 * t + 1)) ∨ (on (2 * t) = false ∧ on (2 * t + 1) = false ∧ ON t = -1) := by
  have o1 : opp (2 * t) = 2 * t + 1 := by unfold opp; rw [if_pos (by omega)]
  have o2 : opp (2 * t + 1) = 2 * t := by unfold opp; rw [if_neg (by omega)]; omega
  cases h1 : on (2 * t) with
  | true =>
    obtain ⟨a, b, c⟩ := on_place hR h1
    rw [show 2 * t / 2 = t by omega] at a
    rw [o1] at c
    exact Or.inl ⟨rfl, c, a⟩
  | false =>
    cases h2 : on (2 * t + 1) with
    | true =>
      obtain ⟨a, b, c⟩ := on_place hR h2
      rw [show (2 * t + 1) / 2 = t by omega] at a
      exact Or.inr (Or.inl ⟨rfl, rfl, a⟩)
    | false => exact Or.inr (Or.inr ⟨rfl, rfl, hR.2.2.1 t ht h1 h2⟩)
theorem nI_m1 {k : Nat} (h : k < 2 ^ 31) : ¬ nI k = -1 := fun q => absurd (show nI k < 0 by rw [q]; decide) (nI_pos h)
theorem has_ok {n len lev : Nat} {TL ON LV CA : Nat → Int32} {tr lvl : Nat → Nat} {on : Nat → Bool} (hR : TraI n len lev TL ON LV tr on lvl) {t : Nat} (ht : t < n) : m_Tra_has (traT n len lev TL ON LV CA) (nI t) = some (if on (2 * t) = true ∨ on (2 * t + 1) = true then 1 else 0) := by
  have hn : n ≤ 300 := hR.1.2.1
  have k1 : ¬ (nI t < 0 ∨ n ≤ (nI t).toNatClampNeg) := nI_in (c := t) (N := n) ht (by omega)
  unfold m_Tra_has
  show (if ¬ (nI t < 0 ∨ n ≤ (nI t).toNatClampNeg) then (if ON (nI t).toNatClampNeg = -1 then _ else _) else none) = _
  rw [if_pos k1, nI_clamp (by omega)]
  rcases on_val hR ht with ⟨a, b, c⟩ | ⟨a, b, c⟩ | ⟨a, b, c⟩
  · rw [c, if_neg (nI_m1 (by omega)), if_pos (Or.inl a)]
  · rw [c, if_neg (nI_m1 (by omega)), if_pos (Or.inr a)]
  · rw [c, if_pos rfl, if_neg (by rw [a, b]; simp)]
theorem holds_ok {n len lev : Nat} {TL ON LV CA : Nat → Int32} {tr lvl : Nat → Nat} {on : Nat → Bool} (hR : TraI n len lev TL ON LV tr on lvl) {l : Nat} (hl : l < 2 * n) : m_Tra_holds (traT n len lev TL ON LV CA) (nI l) = some (if on l = true then 1 else 0) := by
  have hn : n ≤ 300 := hR.1.2.1
  have k1 : ¬ (nI (l / 2) < 0 ∨ n ≤ (nI (l / 2)).toNatClampNeg) := nI_in (c := l / 2) (N := n) (by omega) (by omega)
  unfold m_Tra_holds
  rw [shr1 (by omega)]
  show (if ¬ (nI (l / 2) < 0 ∨ n ≤ (nI (l / 2)).toNatClampNeg) then (if ON (nI (l / 2)).toNatClampNeg = nI l then _ else _) else none) = _
  rw [if_pos k1, nI_clamp (by omega)]
  cases h : on l with
  | true =>
    obtain ⟨a, b, c⟩ := on_place hR h
    rw [if_pos a, if_pos rfl]
  | false =>
    have ne : ¬ ON (l / 2) = nI l := fun q => by
      rcases on_val hR (t := l / 2) (by omega) with ⟨a, b, c⟩ | ⟨a, b, c⟩ | ⟨a, b, c⟩
      · have e := (nI_eq (by omega) (by omega)).mp (c.symm.trans q)
        rw [e, h] at a; exact absurd a (by decide)
      · have e := (nI_eq (by omega) (by omega)).mp (c.symm.trans q)
        rw [e, h] at a; exact absurd a (by decide)
      · exact nI_m1 (by omega) (q.symm.trans c)
    rw [if_neg ne, if_neg (by decide)]
theorem absent_L {n len lev : Nat} {TL ON LV CA : Nat → Int32} {tr lvl : Nat → Nat} {on : Nat → Bool} (hR : TraI n len lev TL ON LV tr on lvl) : ∀ (f i : Nat), i ≤ n → n - i < f → (∀ t, t < i → on (2 * t) = true ∨ on (2 * t + 1) = true) → ∃ r, m_Tra_leastAbsent_L2 (traT n len lev TL ON LV CA) f (nI i) = some r ∧ ((∃ t, t < n ∧ on (2 * t) = false ∧ on (2 * t + 1) = false ∧ (∀ j, j < t → on (2 * j) = true ∨ on (2 * j + 1) = true) ∧ r = nI t) ∨ ((∀ j, j < n → on (2 * j) = true ∨ on (2 * j + 1) = true) ∧ r = -1)) := by
  have hn : n ≤ 300 := hR.1.2.1
  intro f
  induction f with
  | zero => intro i _ h; omega
  | succ f ih =>
    intro i hi hf hd
    rw [m_Tra_leastAbsent_L2]
    by_cases e : i = n
    · subst e
      show ∃ r, (if Int32.ofNat i ≤ nI i then _ else _) = some r ∧ _
      have k0 : Int32.ofNat i ≤ nI i := nI_le (a := i) (Nat.le_refl i) (by omega)
      rw [if_pos k0]
      exact ⟨-1, rfl, Or.inr ⟨hd, rfl⟩⟩
    · have hlt : i < n := by omega
      have k0 : ¬ Int32.ofNat n ≤ nI i := nI_ge (a := i) (b := n) hlt (by omega)
      have k1 : ¬ (nI i < 0 ∨ n ≤ (nI i).toNatClampNeg) := nI_in (c := i) (N := n) hlt (by omega)
      show ∃ r, (if Int32.ofNat n ≤ nI i then _ else (if ¬ (nI i < 0 ∨ n ≤ (nI i).toNatClampNeg) then (if ON (nI i).toNatClampNeg = -1 then some (nI i) else (m_Tra_leastAbsent_L2 (traT n len lev TL ON LV CA) f) (nI i + 1)) else none)) = some r ∧ _
      rw [if_neg k0, if_pos k1, nI_clamp (by omega), nI_1]
      have go : on (2 * i) = true ∨ on (2 * i + 1) = true → ∀ t, t < i + 1 → on (2 * t) = true ∨ on (2 * t + 1) = true := fun q t ht => by
        by_cases g : t = i
        · subst g; exact q
        · exact hd t (by omega)
      rcases on_val hR hlt with ⟨a, b, c⟩ | ⟨a, b, c⟩ | ⟨a, b, c⟩
      · rw [c, if_neg (nI_m1 (by omega))]
        exact ih (i + 1) (by omega) (by omega) (go (Or.inl a))
      · rw [c, if_neg (nI_m1 (by omega))]
        exact ih (i + 1) (by omega) (by omega) (go (Or.inr a))
      · rw [c, if_pos rfl]
        exact ⟨nI i, rfl, Or.inl ⟨i, hlt, a, b, hd, rfl⟩⟩
theorem absent_ok {n len lev : Nat} {TL ON LV CA : Nat → Int32} {tr lvl : Nat → Nat} {on : Nat → Bool} (hR : TraI n len lev TL ON LV tr on lvl) : ∃ r, m_Tra_leastAbsent (traT n len lev TL ON LV CA) = some r ∧ ((∃ t, t < n ∧ on (2 * t) = false ∧ on (2 * t + 1) = false ∧ (∀ j, j < t → on (2 * j) = true ∨ on (2 * j + 1) = true) ∧ r = nI t) ∨ ((∀ j, j < n → on (2 * j) = true ∨ on (2 * j + 1) = true) ∧ r = -1)) :=
  absent_L hR fu 0 (by omega) (by have := hR.1; unfold fu; omega) (fun t ht => absurd ht (by omega))
