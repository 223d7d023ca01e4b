/-! PURE, 33: the law: call after call -/
theorem more_int {L i : Nat} (hL : L ≤ 2049) (hi : i ≤ 3000) : Int32.ofNat L - 4 < nI i ↔ L < i + 4 := by
  have e : Int32.ofNat L - 4 = nI L - nI 4 := rfl
  rw [e, Int32.lt_iff_toInt_lt, pk_sub_toInt (by omega) (by omega), nI_toInt (by omega)]
  omega
theorem p9_L {L : Nat} (hL : L ≤ 2049) (xs : Nat → Int32) {n : Nat} : ∀ (d i f k T : Nat) (asl : Nat → Nat) (cs : T_CS) (pla : T_Pla) (ass : T_Ass) (sto : T_Sto) (tal : T_Tal) (tra : T_Tra) (se : T_Sea) (v : T_Mod), L < i + 4 * d + 4 → i ≤ 2060 → d < f → ClsI n k asl T cs pla ass sto tal tra se → ModI n k asl v → ∃ mc ms, m_Law_law_L28 L xs f cs pla ass sto tal tra se v (nI i) = some ((), mc, ms) ∧ mc ≤ ms ∧ ms + T ≤ 198000 := by
  intro d
  induction d with
  | zero =>
    intro i f k T asl cs pla ass sto tal tra se v hd hi hf hC hM
    obtain ⟨f, rfl⟩ : ∃ g, f = g + 1 := ⟨f - 1, by omega⟩
    refine ⟨0, 0, ?_, Nat.le_refl 0, by have := cls_le hC; omega⟩
    rw [m_Law_law_L28, if_pos ((more_int hL (by omega)).mpr (by omega))]
  | succ d ih =>
    intro i f k T asl cs pla ass sto tal tra se v hd hi hf hC hM
    obtain ⟨f, rfl⟩ : ∃ g, f = g + 1 := ⟨f - 1, by omega⟩
    by_cases ex : L < i + 4
    · refine ⟨0, 0, ?_, Nat.le_refl 0, by have := cls_le hC; omega⟩
      rw [m_Law_law_L28, if_pos ((more_int hL (by omega)).mpr ex)]
    · have i0 : ¬ (nI i < 0 ∨ L ≤ (nI i).toNatClampNeg) := nI_in (by omega) (by omega)
      have i1 : ¬ (nI i + 1 < 0 ∨ L ≤ (nI i + 1).toNatClampNeg) := by rw [nI_1]; exact nI_in (by omega) (by omega)
      have i2 : ¬ (nI i + 2 < 0 ∨ L ≤ (nI i + 2).toNatClampNeg) := by rw [show nI i + 2 = nI (i + 2) from nI_add i 2]; exact nI_in (by omega) (by omega)
      have i3 : ¬ (nI i + 3 < 0 ∨ L ≤ (nI i + 3).toNatClampNeg) := by rw [show nI i + 3 = nI (i + 3) from nI_add i 3]; exact nI_in (by omega) (by omega)
      -- what comes behind a call
      have go : ∀ (k' T' : Nat) (asl' : Nat → Nat) (cs' : T_CS) (pla' : T_Pla) (ass' : T_Ass) (sto' : T_Sto) (tal' : T_Tal) (tra' : T_Tra) (se' : T_Sea) (v' : T_Mod), ClsI n k' asl' T' cs' pla' ass' sto' tal' tra' se' → ModI n k' asl' v' → ∃ mc ms, m_Law_law_B568 L xs (m_Law_law_L28 L xs f) cs' pla' ass' sto' tal' tra' se' v' (nI i) = some ((), mc, ms) ∧ mc ≤ ms ∧ ms + T' ≤ 198000 := fun k' T' asl' cs' pla' ass' sto' tal' tra' se' v' h1 h2 => by
        unfold m_Law_law_B568
        rw [show nI i + 4 = nI (i + 4) from nI_add i 4]
        exact ih (i + 4) f k' T' asl' cs' pla' ass' sto' tal' tra' se' v' (by omega) (by omega) (by omega) h1 h2
      rw [m_Law_law_L28, if_neg (fun q => ex ((more_int hL (by omega)).mp q)), if_pos i0]
      generalize hop : (xs (nI i).toNatClampNeg &&& (15 : Int32)) = op
      have hq : op = 0 ∨ op = 1 ∨ op = 2 ∨ op = 3 ∨ op = 4 ∨ op = 5 ∨ op = 6 ∨ op = 7 ∨ op = 8 ∨ op = 9 ∨ op = 10 ∨ op = 11 ∨ op = 12 ∨ op = 13 ∨ op = 14 ∨ op = 15 := by
        obtain ⟨j, hj, e⟩ := pk_andE (xs (nI i).toNatClampNeg) (m := 15) 4 (by decide)
        rw [← hop, e]
        have : j = 0 ∨ j = 1 ∨ j = 2 ∨ j = 3 ∨ j = 4 ∨ j = 5 ∨ j = 6 ∨ j = 7 ∨ j = 8 ∨ j = 9 ∨ j = 10 ∨ j = 11 ∨ j = 12 ∨ j = 13 ∨ j = 14 ∨ j = 15 := by omega
        rcases this with rfl | rfl | rfl | rfl | rfl | rfl | rfl | rfl | rfl | rfl | rfl | rfl | rfl | rfl | rfl | rfl <;> decide
      rcases hq with rfl | rfl | rfl | rfl | rfl | rfl | rfl | rfl | rfl | rfl | rfl | rfl | rfl | rfl | rfl | rfl
      · -- clause
        obtain ⟨cs', sto', r, c, s, T', a1, a2, a3, a4⟩ := K_clause hC
        obtain ⟨v', r', b1, b2⟩ := M_clause hM
        obtain ⟨mc, ms, g1, g2, g3⟩ := go k T' asl cs' pla ass sto' tal tra se v' a2 b2
        rw [if_pos rfl]
        rw [a1, bind_s, b1, bind_s, g1]
        exact ⟨c + mc, s + ms, rfl, by omega, by omega⟩
      · -- literal
        rw [if_neg (by decide), if_pos rfl, if_pos i1, if_pos i2, if_pos i3]
        unfold m_Law_law_B157 m_Law_law_B185
        have fin : ∀ (x : Int32), ∃ mc ms, ((m_CS_literal cs sto (xs (nI i + 1).toNatClampNeg) (xs (nI i + 2).toNatClampNeg) x).bind fun r145 => addc r145.2.1 r145.2.2 ((m_Mod_literal v (xs (nI i + 1).toNatClampNeg) (xs (nI i + 2).toNatClampNeg) x).bind fun r143 => m_Law_law_B568 L xs (m_Law_law_L28 L xs f) r145.1.1 pla ass r145.1.2.1 tal tra se r143.1 (nI i))) = some ((), mc, ms) ∧ mc ≤ ms ∧ ms + T ≤ 198000 := fun x => by
          obtain ⟨cs', sto', r, c, s, T', a1, a2, a3, a4⟩ := K_literal hC (xs (nI i + 1).toNatClampNeg) (xs (nI i + 2).toNatClampNeg) x
          obtain ⟨v', r', b1, b2⟩ := M_literal hM (xs (nI i + 1).toNatClampNeg) (xs (nI i + 2).toNatClampNeg) x
          obtain ⟨mc, ms, g1, g2, g3⟩ := go k T' asl cs' pla ass sto' tal tra se v' a2 b2
          rw [a1, bind_s, b1, bind_s, g1]
          exact ⟨c + mc, s + ms, rfl, by omega, by omega⟩
        by_cases q : xs (nI i + 3).toNatClampNeg = 0
        · simp only [if_pos q, if_pos i1, if_pos i2, if_pos i3]
          exact fin 0
        · simp only [if_neg q, if_pos i1, if_pos i2, if_pos i3]
          exact fin 1
      · -- kernel
        obtain ⟨cs', pla', sto', r, c, s, T', a1, a2, a3, a4⟩ := K_kernel hC (xs (nI i + 1).toNatClampNeg) (xs (nI i + 2).toNatClampNeg) (xs (nI i + 3).toNatClampNeg)
        obtain ⟨v', r', b1, b2⟩ := M_kernel hM (xs (nI i + 1).toNatClampNeg) (xs (nI i + 2).toNatClampNeg) (xs (nI i + 3).toNatClampNeg)
        obtain ⟨mc, ms, g1, g2, g3⟩ := go k T' asl cs' pla' ass sto' tal tra se v' a2 b2
        rw [if_neg (by decide), if_neg (by decide), if_pos rfl, if_pos i1, if_pos i2, if_pos i3, a1, bind_s, if_pos i1, if_pos i2, if_pos i3, b1, bind_s, g1]
        exact ⟨c + mc, s + ms, rfl, by omega, by omega⟩
      · -- run
        rw [if_neg (by decide), if_neg (by decide), if_neg (by decide), if_pos rfl, if_pos i1, if_pos i2]
        generalize ((((xs (nI i + 1).toNatClampNeg) : Int32).toInt64 <<< (((32 : Int32)).toInt64 &&& 63)) ||| (((xs (nI i + 2).toNatClampNeg) : Int32).toInt64 &&& (4294967295 : Int64))) = x
        obtain ⟨cs', sto', tal', tra', se', r, c, s, T', a1, a2, a3, a4⟩ := K_run hC x
        obtain ⟨v', r', b1, b2⟩ := M_run hM x
        obtain ⟨mc, ms, g1, g2, g3⟩ := go k T' asl cs' pla ass sto' tal' tra' se' v' a2 b2
        rw [a1, bind_s, if_pos i1, if_pos i2, b1, bind_s, g1]
        exact ⟨c + mc, s + ms, rfl, by omega, by omega⟩
      · -- goOn
        rw [if_neg (by decide), if_neg (by decide), if_neg (by decide), if_neg (by decide), if_pos rfl, if_pos i1, if_pos i2]
        generalize ((((xs (nI i + 1).toNatClampNeg) : Int32).toInt64 <<< (((32 : Int32)).toInt64 &&& 63)) ||| (((xs (nI i + 2).toNatClampNeg) : Int32).toInt64 &&& (4294967295 : Int64))) = x
        obtain ⟨cs', sto', tal', tra', se', r, c, s, T', a1, a2, a3, a4⟩ := K_goOn hC x
        obtain ⟨v', r', b1, b2⟩ := M_goOn hM x
        obtain ⟨mc, ms, g1, g2, g3⟩ := go k T' asl cs' pla ass sto' tal' tra' se' v' a2 b2
        rw [a1, bind_s, if_pos i1, if_pos i2, b1, bind_s, g1]
        exact ⟨c + mc, s + ms, rfl, by omega, by omega⟩
      · -- truth
        obtain ⟨r, a1⟩ := K_truth hC (xs (nI i + 1).toNatClampNeg)
        obtain ⟨v', r', b1, b2⟩ := M_truth hM (xs (nI i + 1).toNatClampNeg)
        rw [if_neg (by decide), if_neg (by decide), if_neg (by decide), if_neg (by decide), if_neg (by decide), if_pos rfl, if_pos i1, a1, bind_s, if_pos i1, b1, bind_s]
        exact go k T asl cs pla ass sto tal tra se v' hC b2
      · -- block
        obtain ⟨cs', sto', r, c, s, T', a1, a2, a3, a4⟩ := K_block hC
        obtain ⟨v', r', b1, b2⟩ := M_block hM
        obtain ⟨mc, ms, g1, g2, g3⟩ := go k T' asl cs' pla ass sto' tal tra se v' a2 b2
        rw [if_neg (by decide), if_neg (by decide), if_neg (by decide), if_neg (by decide), if_neg (by decide), if_neg (by decide), if_pos rfl, a1, bind_s, b1, bind_s, g1]
        exact ⟨c + mc, s + ms, rfl, by omega, by omega⟩
      · -- assume
        rw [if_neg (by decide), if_neg (by decide), if_neg (by decide), if_neg (by decide), if_neg (by decide), if_neg (by decide), if_neg (by decide), if_pos rfl, if_pos i1, if_pos i2]
        unfold m_Law_law_B396 m_Law_law_B418
        have fin : ∀ (x : Int32), ∃ mc ms, ((m_CS_assume cs ass (xs (nI i + 1).toNatClampNeg) x).bind fun r139 => ((m_Mod_assume v (xs (nI i + 1).toNatClampNeg) x).bind fun r137 => if r139.2.2 = r137.2 then m_Law_law_B568 L xs (m_Law_law_L28 L xs f) r139.1 pla r139.2.1 sto tal tra se r137.1 (nI i) else none)) = some ((), mc, ms) ∧ mc ≤ ms ∧ ms + T ≤ 198000 := fun x => by
          rcases K_assume hC (xs (nI i + 1).toNatClampNeg) x with ⟨cs', ass', a1, a2, a3⟩ | ⟨t, cs', ass', a0, a1, a2⟩
          · rcases M_assume hM (xs (nI i + 1).toNatClampNeg) x with ⟨v', b1, b2, -⟩ | ⟨t, v', b0, -, -⟩
            · rw [a1, bind_s, b1, bind_s, if_pos rfl]
              exact go k T asl cs' pla ass' sto tal tra se v' a2 b2
            · exact absurd ⟨t, b0⟩ a3
          · rcases M_assume hM (xs (nI i + 1).toNatClampNeg) x with ⟨v', -, -, b3⟩ | ⟨t', v', b0, b1, b2⟩
            · exact absurd ⟨t, a0⟩ b3
            · have et : t = t' := by
                obtain ⟨y1, y2, -, -⟩ := a0
                obtain ⟨y3, y4, -, -⟩ := b0
                have hn : n ≤ 300 := by
                  obtain ⟨AS, kn, KT, KP, KS, kt, hA, -⟩ := hM
                  exact hA.2.1
                rw [y2] at y4
                exact (nI_eq (by omega) (by omega)).mp y4
              subst et
              rw [a1, bind_s, b1, bind_s, if_pos rfl]
              exact go (k + 1) T _ cs' pla ass' sto tal tra se v' a2 b2
        by_cases q : xs (nI i + 2).toNatClampNeg = 0
        · simp only [if_pos q, if_pos i1, if_pos i2]
          exact fin 0
        · simp only [if_neg q, if_pos i1, if_pos i2]
          exact fin 1
      · -- freely
        obtain ⟨cs', ass', a1, a2⟩ := K_freely hC
        obtain ⟨v', b1, b2⟩ := M_freely hM
        rw [if_neg (by decide), if_neg (by decide), if_neg (by decide), if_neg (by decide), if_neg (by decide), if_neg (by decide), if_neg (by decide), if_neg (by decide), if_pos rfl, a1, bind_s, b1, bind_s]
        exact go 0 T _ cs' pla ass' sto tal tra se v' a2 b2
      · -- core
        obtain ⟨r, a1⟩ := K_core hC (xs (nI i + 1).toNatClampNeg)
        obtain ⟨v', r', b1, b2⟩ := M_core hM (xs (nI i + 1).toNatClampNeg)
        rw [if_neg (by decide), if_neg (by decide), if_neg (by decide), if_neg (by decide), if_neg (by decide), if_neg (by decide), if_neg (by decide), if_neg (by decide), if_neg (by decide), if_pos rfl, if_pos i1, a1, bind_s, if_pos i1, b1, bind_s]
        exact go k T asl cs pla ass sto tal tra se v' hC b2
      · -- rows
        obtain ⟨v', r', b1, b2⟩ := M_rows hM
        rw [if_neg (by decide), if_neg (by decide), if_neg (by decide), if_neg (by decide), if_neg (by decide), if_neg (by decide), if_neg (by decide), if_neg (by decide), if_neg (by decide), if_neg (by decide), if_pos rfl, show m_CS_rows cs se = some se.1 from rfl, bind_s, b1, bind_s]
        exact go k T asl cs pla ass sto tal tra se v' hC b2
      · -- row
        obtain ⟨r, a1⟩ := K_row hC (xs (nI i + 1).toNatClampNeg) (xs (nI i + 2).toNatClampNeg)
        obtain ⟨v', r', b1, b2⟩ := M_row hM (xs (nI i + 1).toNatClampNeg) (xs (nI i + 2).toNatClampNeg)
        rw [if_neg (by decide), if_neg (by decide), if_neg (by decide), if_neg (by decide), if_neg (by decide), if_neg (by decide), if_neg (by decide), if_neg (by decide), if_neg (by decide), if_neg (by decide), if_neg (by decide), if_pos rfl, if_pos i1, if_pos i2, a1, bind_s, if_pos i1, if_pos i2, b1, bind_s]
        exact go k T asl cs pla ass sto tal tra se v' hC b2
      · -- numberOf
        obtain ⟨r, a1⟩ := K_numberOf hC (xs (nI i + 1).toNatClampNeg)
        obtain ⟨v', r', b1, b2⟩ := M_numberOf hM (xs (nI i + 1).toNatClampNeg)
        rw [if_neg (by decide), if_neg (by decide), if_neg (by decide), if_neg (by decide), if_neg (by decide), if_neg (by decide), if_neg (by decide), if_neg (by decide), if_neg (by decide), if_neg (by decide), if_neg (by decide), if_neg (by decide), if_pos rfl, if_pos i1, a1, bind_s, if_pos i1, b1, bind_s]
        exact go k T asl cs pla ass sto tal tra se v' hC b2
      · -- used
        obtain ⟨v', r', b1, b2⟩ := M_used hM
        rw [if_neg (by decide), if_neg (by decide), if_neg (by decide), if_neg (by decide), if_neg (by decide), if_neg (by decide), if_neg (by decide), if_neg (by decide), if_neg (by decide), if_neg (by decide), if_neg (by decide), if_neg (by decide), if_neg (by decide), if_pos rfl, show m_CS_used cs se = some se.2.1 from rfl, bind_s, b1, bind_s]
        exact go k T asl cs pla ass sto tal tra se v' hC b2
      · -- state
        obtain ⟨v', r', b1, b2⟩ := M_state hM
        rw [if_neg (by decide), if_neg (by decide), if_neg (by decide), if_neg (by decide), if_neg (by decide), if_neg (by decide), if_neg (by decide), if_neg (by decide), if_neg (by decide), if_neg (by decide), if_neg (by decide), if_neg (by decide), if_neg (by decide), if_neg (by decide), if_pos rfl, show m_CS_state cs = some cs.2.2 from rfl, bind_s, b1, bind_s]
        exact go k T asl cs pla ass sto tal tra se v' hC b2
      · -- clauses
        obtain ⟨v', r', b1, b2⟩ := M_clauses hM
        rw [if_neg (by decide), if_neg (by decide), if_neg (by decide), if_neg (by decide), if_neg (by decide), if_neg (by decide), if_neg (by decide), if_neg (by decide), if_neg (by decide), if_neg (by decide), if_neg (by decide), if_neg (by decide), if_neg (by decide), if_neg (by decide), if_neg (by decide), if_pos rfl, show m_CS_clauses cs sto = some sto.1 from rfl, bind_s, b1, bind_s]
        exact go k T asl cs pla ass sto tal tra se v' hC b2
theorem p9_pure {L : Nat} (hL : L ≤ 2049) (xs : Nat → Int32) : ∃ mc ms, m_Law_law L xs = some ((), mc, ms) ∧ mc ≤ 600000 ∧ ms ≤ 7302250 := by
  unfold m_Law_law
  generalize (if L = 0 then 0 else xs 0) = x
  obtain ⟨gs, gp, gy, gt, e1, h1, h2, h3, h4⟩ := cs_init_ok x
  obtain ⟨b0, bn⟩ := held_le x
  obtain ⟨T, hC⟩ := K_fresh (gp := gp) (gy := gy) (gt := gt) b0 bn h1
  obtain ⟨mc, ms, z1, z2, z3⟩ := p9_L hL xs 600 1 fu 0 T _ _ _ _ _ _ _ _ _ (by omega) (by omega) (by unfold fu; omega) hC (M_fresh b0 bn)
  rw [e1, bind_s, mod_init_ok, bind_s]
  rw [show m_Law_law_L28 L xs fu (nI (held x), -1, 1) ((held x, gp), (held x, gy)) (0, (40, fun _ => 0)) (0, 0, (32, fun _ => 0), (32, fun _ => 0), (32, fun _ => 0), (2 * held x, gs), (16, fun _ => 0)) ((24, fun _ => 0), (24, fun _ => 0), (16, fun _ => 0), (16, fun _ => 0)) (0, 0, (held x, fun _ => 0), (held x, gt), (held x, fun _ => 0), (held x, fun _ => 0)) (0, 0, nI (held x), (held x, fun _ => 0), (40, fun _ => 0), 0, (16, fun _ => 0), 0) (mod0 (held x)) 1 = _ from z1]
  refine ⟨_, _, rfl, ?_, ?_⟩
  · show 1 + (25 + (1 + (15 + mc))) ≤ 600000
    omega
  · show 8 + (323 + 9 * held x + (27 + (27583 + ms))) ≤ 7302250
    omega
