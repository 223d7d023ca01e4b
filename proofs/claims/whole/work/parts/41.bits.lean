/-! PURE, 2: the sets of clauses (dead, unit) as bits in words of 64 -/
def bitOf (w : Nat → Int64) (c : Nat) : Bool := (w (c / 64)).toBitVec.getLsbD (c % 64)
def bt1 (c : Nat) : Int64 := (1 : Int64) <<< ((nI (c % 64)).toInt64 &&& 63)
theorem bt1_all : ∀ k : Fin 64, ((1 : Int64) <<< ((nI k.val).toInt64 &&& 63)).toBitVec = BitVec.twoPow 64 k.val := by decide +kernel
theorem bt1_bv (c : Nat) : (bt1 c).toBitVec = BitVec.twoPow 64 (c % 64) := bt1_all ⟨c % 64, Nat.mod_lt c (by omega)⟩
theorem bt1_get (c i : Nat) : (bt1 c).toBitVec.getLsbD i = decide (c % 64 = i) := by
  rw [bt1_bv, BitVec.getLsbD_twoPow]
  have : c % 64 < 64 := Nat.mod_lt c (by omega)
  simp [this]
theorem div_mod_eq {j c : Nat} (h1 : j / 64 = c / 64) (h2 : c % 64 = j % 64) : j = c := by omega
theorem bit_set (w : Nat → Int64) (c j : Nat) : bitOf (vp_updL w (c / 64) (w (c / 64) ||| bt1 c)) j = if j = c then true else bitOf w j := by
  unfold bitOf vp_updL
  by_cases e : j = c
  · subst e
    rw [if_pos rfl, if_pos rfl, Int64.toBitVec_or, BitVec.getLsbD_or, bt1_get]
    simp
  · rw [if_neg e]
    by_cases h : j / 64 = c / 64
    · rw [if_pos h, Int64.toBitVec_or, BitVec.getLsbD_or, bt1_get, h]
      have : ¬ c % 64 = j % 64 := fun q => e (div_mod_eq h q)
      simp [this]
    · rw [if_neg h]
theorem bit_clr (w : Nat → Int64) (c j : Nat) : bitOf (vp_updL w (c / 64) (w (c / 64) &&& (bt1 c ^^^ (-1 : Int64)))) j = if j = c then false else bitOf w j := by
  have hm : (-1 : Int64).toBitVec = BitVec.allOnes 64 := by decide
  have hj : j % 64 < 64 := Nat.mod_lt j (by omega)
  unfold bitOf vp_updL
  by_cases e : j = c
  · subst e
    rw [if_pos rfl, if_pos rfl, Int64.toBitVec_and, Int64.toBitVec_xor, BitVec.getLsbD_and, BitVec.getLsbD_xor, bt1_get, hm, BitVec.getLsbD_allOnes]
    simp [hj]
  · rw [if_neg e]
    by_cases h : j / 64 = c / 64
    · rw [if_pos h, Int64.toBitVec_and, Int64.toBitVec_xor, BitVec.getLsbD_and, BitVec.getLsbD_xor, bt1_get, hm, BitVec.getLsbD_allOnes, h]
      have : ¬ c % 64 = j % 64 := fun q => e (div_mod_eq h q)
      simp [this, hj]
    · rw [if_neg h]
/-- judge: the clause's two bits as its counts say; nothing else changes -/
theorem judge_ok {c : Nat} (hc : c < 1500) (wd wu : Nat → Int64) (mb nf : Arr) (h3 : c < mb.1) (h4 : c < nf.1) : ∃ wd' wu', m_Tal_judge ((24, wd), (24, wu), mb, nf) (nI c) = some ((24, wd'), (24, wu'), mb, nf) ∧ (∀ j, bitOf wd' j = if j = c then decide (mb.2 c ≤ 0 ∧ nf.2 c = 0) else bitOf wd j) ∧ ∀ j, bitOf wu' j = if j = c then decide (mb.2 c ≤ 0 ∧ nf.2 c = 1) else bitOf wu j := by
  have cl : (nI c).toNatClampNeg = c := nI_clamp (by omega)
  have n0 : ¬ nI c < 0 := nI_pos (by omega)
  have g3 : ¬ (nI c < 0 ∨ mb.1 ≤ c) := fun q => q.elim n0 (by omega)
  have g4 : ¬ (nI c < 0 ∨ nf.1 ≤ c) := fun q => q.elim n0 (by omega)
  have sh : nI c >>> ((6 : Int32) &&& 31) = nI (c / 64) := pk_shrN (n := c) (by omega) _ 6 (by decide)
  have an : nI c &&& (63 : Int32) = nI (c % 64) := pk_andN (n := c) (by omega) 6 (by decide)
  have cw : (nI (c / 64)).toNatClampNeg = c / 64 := nI_clamp (by omega)
  have gw : ¬ (nI (c / 64) < 0 ∨ 24 ≤ c / 64) := fun q => q.elim (nI_pos (by omega)) (by omega)
  have bt : (1 : Int64) <<< ((nI (c % 64)).toInt64 &&& 63) = bt1 c := rfl
  refine ⟨vp_updL wd (c / 64) (if mb.2 c ≤ 0 ∧ nf.2 c = 0 then wd (c / 64) ||| bt1 c else wd (c / 64) &&& (bt1 c ^^^ (-1 : Int64))), vp_updL wu (c / 64) (if mb.2 c ≤ 0 ∧ nf.2 c = 1 then wu (c / 64) ||| bt1 c else wu (c / 64) &&& (bt1 c ^^^ (-1 : Int64))), ?_, fun j => ?_, fun j => ?_⟩
  · unfold m_Tal_judge m_Tal_judge_B14 m_Tal_judge_B58 m_Tal_judge_B71 m_Tal_judge_B103 m_Tal_judge_B116
    have z1 : ¬ (1 : Int32) = 0 := by decide
    have z2 : ¬ (0 : Int32) = 1 := by decide
    by_cases a1 : mb.2 c ≤ 0
    · by_cases a2 : nf.2 c = 0
      · have a3 : ¬ (nf.2 c = 1) := by rw [a2]; decide
        simp only [sh, an, bt, cl, cw, g3, g4, gw, a1, a2, a3, z2, if_true, if_false, not_false_eq_true, true_and, and_true, and_false, and_self]
      · by_cases a3 : nf.2 c = 1
        · simp only [sh, an, bt, cl, cw, g3, g4, gw, a1, a2, a3, z1, if_true, if_false, not_false_eq_true, true_and, and_true, and_false, and_self]
        · simp only [sh, an, bt, cl, cw, g3, g4, gw, a1, a2, a3, if_true, if_false, not_false_eq_true, true_and, and_true, and_false, and_self]
    · simp only [sh, an, bt, cl, cw, g3, g4, gw, a1, z1, if_true, if_false, not_false_eq_true, false_and, and_false]
  · by_cases a : mb.2 c ≤ 0 ∧ nf.2 c = 0
    · rw [if_pos a, bit_set]
      simp [a]
    · rw [if_neg a, bit_clr]
      simp [a]
  · by_cases a : mb.2 c ≤ 0 ∧ nf.2 c = 1
    · rw [if_pos a, bit_set]
      simp [a]
    · rw [if_neg a, bit_clr]
      simp [a]
/-- the lowest bit of a word: its place, by x &&& -x and the count of the bits below it -/
theorem lb_all : ∀ k : Fin 64, m_Lng_bitCount (lN (2 ^ k.val) - (1 : Int64)) = some (nI k.val) := by decide +kernel
