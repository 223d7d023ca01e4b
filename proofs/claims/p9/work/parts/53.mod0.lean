/-! PURE, 14: a fresh reference -/
def mod0 (n : Nat) : T_Mod := (0, nI n, (20000, fun _ => 0), (1502, fun _ => 0), (1501, fun _ => 0), 0, 0, (1500, fun _ => 0), 0, (300, fun _ => 0), (300, fun _ => 0), (300, fun _ => 0), 0, (40, fun _ => 0), 0, (40, fun _ => 0), 0, (300, fun _ => 0), (300, fun _ => 0), (300, fun _ => 0), (300, fun _ => 0), (300, fun _ => 0), 0, 1, 0, 0, (600, fun _ => 0))
set_option maxRecDepth 100000 in
theorem mod_init_ok (x : Int32) : m_Mod_init x = some (mod0 (held x), 15, 27583) := by
  have a1 : ((20000 : Int32)).toNatClampNeg = 20000 := by decide +kernel
  have a2 : ((1502 : Int32)).toNatClampNeg = 1502 := by decide +kernel
  have a3 : ((1501 : Int32)).toNatClampNeg = 1501 := by decide +kernel
  have a4 : ((1500 : Int32)).toNatClampNeg = 1500 := by decide +kernel
  have a5 : ((300 : Int32)).toNatClampNeg = 300 := by decide +kernel
  have a6 : ((40 : Int32)).toNatClampNeg = 40 := by decide +kernel
  have a7 : ((600 : Int32)).toNatClampNeg = 600 := by decide +kernel
  have z1 : ¬ (20000 : Int32) < 0 := by decide
  have z2 : ¬ (1502 : Int32) < 0 := by decide
  have z3 : ¬ (1501 : Int32) < 0 := by decide
  have z4 : ¬ (1500 : Int32) < 0 := by decide
  have z5 : ¬ (300 : Int32) < 0 := by decide
  have z6 : ¬ (40 : Int32) < 0 := by decide
  have z7 : ¬ (600 : Int32) < 0 := by decide
  unfold m_Mod_init
  rw [a1, a2, a3, a4, a5, a6, a7]
  rw [if_pos ⟨z1, by omega⟩, if_pos ⟨z2, by omega⟩, if_pos ⟨z3, by omega⟩, if_pos ⟨z4, by omega⟩, if_pos ⟨z5, by omega⟩, if_pos ⟨z5, by omega⟩, if_pos ⟨z5, by omega⟩, if_pos ⟨z6, by omega⟩, if_pos ⟨z6, by omega⟩, if_pos ⟨z5, by omega⟩, if_pos ⟨z5, by omega⟩, if_pos ⟨z5, by omega⟩, if_pos ⟨z5, by omega⟩, if_pos ⟨z5, by omega⟩, if_pos ⟨z7, by omega⟩]
  have key : ∀ (v : Int32), v = nI (held x) → addc 1 20000 (addc 1 1502 (addc 1 1501 (addc 1 1500 (addc 1 300 (addc 1 300 (addc 1 300 (addc 1 40 (addc 1 40 (addc 1 300 (addc 1 300 (addc 1 300 (addc 1 300 (addc 1 300 (addc 1 600 (some (((0, v, (20000, fun _ => 0), (1502, fun _ => 0), (1501, fun _ => 0), 0, 0, (1500, fun _ => 0), 0, (300, fun _ => 0), (300, fun _ => 0), (300, fun _ => 0), 0, (40, fun _ => 0), 0, (40, fun _ => 0), 0, (300, fun _ => 0), (300, fun _ => 0), (300, fun _ => 0), (300, fun _ => 0), (300, fun _ => 0), 0, 1, 0, 0, (600, fun _ => 0)) : T_Mod), 0, 0)))))))))))))))) = some (mod0 (held x), 15, 27583) := by
    intro v e
    rw [e]
    simp only [addc_some]
    rfl
  by_cases h1 : (1 : Int32) ≤ x
  · rw [if_pos h1]
    have n1 : ¬ x < 1 := Int32.not_lt.mpr h1
    by_cases h2 : x ≤ (300 : Int32)
    · rw [if_pos h2]
      have n2 : ¬ (300 : Int32) < x := Int32.not_lt.mpr h2
      refine key x ?_
      unfold held
      rw [if_neg n1, if_neg n2]
      have h0 : ¬ x < 0 := fun q => n1 (Int32.lt_trans q (by decide))
      obtain ⟨j, hj, rfl⟩ := nI_of h0
      rw [nI_clamp hj]
    · rw [if_neg h2]
      have n2 : (300 : Int32) < x := Int32.not_le.mp h2
      refine key 300 ?_
      unfold held
      rw [if_neg n1, if_pos n2]
      rfl
  · rw [if_neg h1]
    have n1 : x < 1 := Int32.not_le.mp h1
    refine key 1 ?_
    unfold held
    rw [if_pos n1]
    rfl
