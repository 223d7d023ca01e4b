/-! PURE, 3: arrays that grow (withRoomFor), and what they cost -/
/-- what an array of length n (at most 'most') has cost so far, at the most -/
def pot (n most : Nat) : Nat := if n = most then 3 * most else 2 * n
theorem nI_min {a b : Nat} (ha : a < 2 ^ 31) (hb : b < 2 ^ 31) : (if nI a < nI b then nI a else nI b) = nI (min a b) := by
  by_cases h : a < b
  · rw [if_pos ((nI_ltI ha hb).mpr h), Nat.min_eq_left (by omega)]
  · rw [if_neg (fun q => h ((nI_ltI ha hb).mp q)), Nat.min_eq_right (by omega)]
theorem nI_max {a b : Nat} (ha : a < 2 ^ 31) (hb : b < 2 ^ 31) : (if nI a < nI b then nI b else nI a) = nI (max a b) := by
  by_cases h : a < b
  · rw [if_pos ((nI_ltI ha hb).mpr h), Nat.max_eq_right (by omega)]
  · rw [if_neg (fun q => h ((nI_ltI ha hb).mp q)), Nat.max_eq_left (by omega)]
theorem copy_ok {len n : Nat} (a : Nat → Int32) (h : len < n) (hn : n ≤ 40000) : ∃ a', m_Arr__copyOf (len, a) (nI n) = some ((n, a'), 1, n) ∧ ∀ j, j < len → a' j = a j := by
  have h1 : ¬ nI n = Int32.ofNat len := fun q => by
    have := (nI_eq (a := n) (b := len) (by omega) (by omega)).mp q
    omega
  have cn : (nI n).toNatClampNeg = n := nI_clamp (by omega)
  have h2 : ¬ nI n < 0 ∧ (nI n).toNatClampNeg * 4 ≤ 536870912 := ⟨nI_pos (by omega), by rw [cn]; omega⟩
  have h3 : ¬ nI n < Int32.ofNat len := nI_nlt (a := n) (b := len) (by omega) (by omega)
  have cl : (Int32.ofNat len).toNatClampNeg = len := nI_clamp (n := len) (by omega)
  have c0 : ((0 : Int32)).toNatClampNeg = 0 := by decide
  have h4 : ¬ (0 : Int32) < 0 ∧ ¬ (0 : Int32) < 0 ∧ ¬ Int32.ofNat len < 0 ∧ ((0 : Int32)).toNatClampNeg + (Int32.ofNat len).toNatClampNeg ≤ len ∧ ((0 : Int32)).toNatClampNeg + (Int32.ofNat len).toNatClampNeg ≤ (nI n).toNatClampNeg := by
    rw [c0, cl, cn]
    exact ⟨by decide, by decide, nI_pos (n := len) (by omega), by omega, by omega⟩
  refine ⟨va_cpy a (fun _ => 0) 0 0 len, ?_, fun j hj => ?_⟩
  · unfold m_Arr__copyOf
    simp only [if_neg h1, if_pos h2, if_neg h3]
    rw [if_pos h4, c0, cl, cn]
    rfl
  · rw [pk_cpy_in (Nat.zero_le j) (by omega)]
    congr 1
    omega
theorem room_ok {len k most : Nat} (a : Nat → Int32) (h1 : 1 ≤ len) (hl : len ≤ most) (hk : k ≤ most) (hm : most ≤ 20000) : ∃ len' a' c s, m_CS_withRoomFor (len, a) (nI k) (nI most) = some ((len', a'), c, s) ∧ k ≤ len' ∧ len ≤ len' ∧ len' ≤ most ∧ (∀ j, j < len → a' j = a j) ∧ c ≤ s ∧ s + pot len most ≤ pot len' most := by
  by_cases g : len < k
  · have e1 : Int32.ofNat len < nI k := nI_lt (a := len) g (by omega)
    have e2 : (2 : Int32) * Int32.ofNat len = nI (2 * len) := pk_mul 2 len
    obtain ⟨a', p1, p2⟩ := copy_ok (len := len) (n := max k (min (2 * len) most)) a (by omega) (by omega)
    refine ⟨max k (min (2 * len) most), a', 1, max k (min (2 * len) most), ?_, by omega, by omega, by omega, p2, by omega, ?_⟩
    · unfold m_CS_withRoomFor
      rw [if_pos e1]
      simp only [e2]
      rw [nI_min (by omega) (by omega), nI_max (by omega) (by omega), p1, bind_s]
      rfl
    · unfold pot
      have hne : ¬ len = most := by omega
      rw [if_neg hne]
      by_cases q : max k (min (2 * len) most) = most
      · rw [if_pos q]; omega
      · rw [if_neg q]; omega
  · have e1 : ¬ Int32.ofNat len < nI k := nI_nlt (a := len) (b := k) (by omega) (by omega)
    refine ⟨len, a, 0, 0, ?_, by omega, Nat.le_refl len, hl, fun j _ => rfl, Nat.le_refl 0, by omega⟩
    unfold m_CS_withRoomFor
    rw [if_neg e1]
