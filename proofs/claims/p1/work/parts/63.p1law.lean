/-! PURE, 19: the law on at most five ints: no call, or one -/
theorem law_end (xs : Nat → Int32) (f : Nat) (cs : T_CS) (pla : T_Pla) (ass : T_Ass) (sto : T_Sto) (tal : T_Tal) (tra : T_Tra) (se : T_Sea) (m : T_Mod) : m_Law_law_B569 5 xs (m_Law_law_L28 5 xs (f + 1)) cs pla ass sto tal tra se m 1 = some ((), 0, 0) := by
  unfold m_Law_law_B569
  rw [m_Law_law_L28, if_pos (by decide)]
theorem p1_step (xs : Nat → Int32) (f : Nat) {n : Nat} (h0 : 1 ≤ n) (hn : n ≤ 300) {gs gp gy gt : Nat → Int32} (hs : ∀ j, j < 2 * n → gs j = -1) (hp : ∀ j, j < n → gp j = -1) : ∃ mc ms, m_Law_law_L28 5 xs (f + 1 + 1) (nI n, -1, 1) ((n, gp), (n, gy)) (0, (40, fun _ => 0)) (0, 0, (32, fun _ => 0), (32, fun _ => 0), (32, fun _ => 0), (2 * n, gs), (16, fun _ => 0)) ((24, fun _ => 0), (24, fun _ => 0), (16, fun _ => 0), (16, fun _ => 0)) (0, 0, (n, fun _ => 0), (n, gt), (n, fun _ => 0), (n, fun _ => 0)) (0, 0, nI n, (n, fun _ => 0), (40, fun _ => 0), 0, (16, fun _ => 0), 0) (mod0 n) 1 = some ((), mc, ms) ∧ mc ≤ 9000 ∧ ms ≤ 9000 := by
  have i0 : ¬ ((1 : Int32) < 0 ∨ 5 ≤ (1 : Int32).toNatClampNeg) := by decide
  have i1 : ¬ ((1 : Int32) + 1 < 0 ∨ 5 ≤ ((1 : Int32) + 1).toNatClampNeg) := by decide
  have i2 : ¬ ((1 : Int32) + 2 < 0 ∨ 5 ≤ ((1 : Int32) + 2).toNatClampNeg) := by decide
  have i3 : ¬ ((1 : Int32) + 3 < 0 ∨ 5 ≤ ((1 : Int32) + 3).toNatClampNeg) := by decide
  rw [m_Law_law_L28, if_neg (by decide), if_pos i0]
  generalize hop : (xs (1 : Int32).toNatClampNeg &&& (15 : Int32)) = op
  have hq : op = 0 ∨ op = 1 ∨ op = 2 ∨ op = 3 ∨ op = 4 ∨ op = 5 ∨ op = 6 ∨ op = 7 ∨ op = 8 ∨ op = 9 ∨ op = 10 ∨ op = 11 ∨ op = 12 ∨ op = 13 ∨ op = 14 ∨ op = 15 := by
    obtain ⟨j, hj, e⟩ := pk_andE (xs (1 : Int32).toNatClampNeg) (m := 15) 4 (by decide)
    rw [← hop, e]
    have : j = 0 ∨ j = 1 ∨ j = 2 ∨ j = 3 ∨ j = 4 ∨ j = 5 ∨ j = 6 ∨ j = 7 ∨ j = 8 ∨ j = 9 ∨ j = 10 ∨ j = 11 ∨ j = 12 ∨ j = 13 ∨ j = 14 ∨ j = 15 := by omega
    rcases this with rfl | rfl | rfl | rfl | rfl | rfl | rfl | rfl | rfl | rfl | rfl | rfl | rfl | rfl | rfl | rfl <;> decide
  rcases hq with rfl | rfl | rfl | rfl | rfl | rfl | rfl | rfl | rfl | rfl | rfl | rfl | rfl | rfl | rfl | rfl
  · -- clause
    rw [if_pos rfl]
    obtain ⟨cs, sto, c, s, e1, e2, e3⟩ := clause0 h0 hn hs
    obtain ⟨m, e4⟩ := mclause0 n
    refine ⟨c, s, ?_, e2, e3⟩
    rw [show m_CS_clause (nI n, -1, 1) (0, 0, (32, fun _ => 0), (32, fun _ => 0), (32, fun _ => 0), (2 * n, gs), (16, fun _ => 0)) = _ from e1, bind_s, e4, bind_s, if_pos rfl, law_end]
    rfl
  · -- literal
    rw [if_neg (by decide), if_pos rfl, if_pos i1, if_pos i2, if_pos i3]
    refine ⟨0, 0, ?_, by omega, by omega⟩
    unfold m_Law_law_B157 m_Law_law_B184
    by_cases q : xs ((1 : Int32) + 3).toNatClampNeg = 0
    · rw [if_pos q, literal0, bind_s, if_pos i1, if_pos i2, if_pos i3, if_pos q, mliteral0, bind_s, if_pos rfl, law_end]
      rfl
    · rw [if_neg q, literal0, bind_s, if_pos i1, if_pos i2, if_pos i3, if_neg q, mliteral0, bind_s, if_pos rfl, law_end]
      rfl
  · -- kernel
    rw [if_neg (by decide), if_neg (by decide), if_pos rfl, if_pos i1, if_pos i2, if_pos i3]
    obtain ⟨cs, pla, sto, r, m, e1, e2⟩ := kernel0 hn (gs := gs) (gy := gy) hp (xs ((1 : Int32) + 1).toNatClampNeg) (xs ((1 : Int32) + 2).toNatClampNeg) (xs ((1 : Int32) + 3).toNatClampNeg)
    refine ⟨0, 0, ?_, by omega, by omega⟩
    rw [show m_CS_kernel (nI n, -1, 1) ((n, gp), (n, gy)) (0, 0, (32, fun _ => 0), (32, fun _ => 0), (32, fun _ => 0), (2 * n, gs), (16, fun _ => 0)) _ _ _ = _ from e1, bind_s, if_pos i1, if_pos i2, if_pos i3, e2, bind_s, if_pos rfl, law_end]
    rfl
  · -- run
    rw [if_neg (by decide), if_neg (by decide), if_neg (by decide), if_pos rfl, if_pos i1, if_pos i2]
    generalize ((((xs ((1 : Int32) + 1).toNatClampNeg) : Int32).toInt64 <<< (((32 : Int32)).toInt64 &&& 63)) ||| (((xs ((1 : Int32) + 2).toNatClampNeg) : Int32).toInt64 &&& (4294967295 : Int64))) = x
    obtain ⟨cs, sto, tal, tra, se, c, s, e1, e2, e3⟩ := run0 h0 hn (gt := gt) hs (fun _ => 0) (fun _ => 0) (fun _ => 0) (fun _ => 0) (n, fun _ => 0) (40, fun _ => 0) (16, fun _ => 0) x
    obtain ⟨m, e4⟩ := mrun0 hn x
    refine ⟨c, s, ?_, e2, e3⟩
    rw [show m_CS_run (0, (40, fun _ => 0)) (nI n, -1, 1) (0, 0, (32, fun _ => 0), (32, fun _ => 0), (32, fun _ => 0), (2 * n, gs), (16, fun _ => 0)) ((24, fun _ => 0), (24, fun _ => 0), (16, fun _ => 0), (16, fun _ => 0)) (0, 0, (n, fun _ => 0), (n, gt), (n, fun _ => 0), (n, fun _ => 0)) (0, 0, nI n, (n, fun _ => 0), (40, fun _ => 0), 0, (16, fun _ => 0), 0) x = _ from e1, bind_s, if_pos i1, if_pos i2, e4, bind_s, if_pos rfl, law_end]
    rfl
  · -- goOn
    rw [if_neg (by decide), if_neg (by decide), if_neg (by decide), if_neg (by decide), if_pos rfl, if_pos i1, if_pos i2]
    generalize ((((xs ((1 : Int32) + 1).toNatClampNeg) : Int32).toInt64 <<< (((32 : Int32)).toInt64 &&& 63)) ||| (((xs ((1 : Int32) + 2).toNatClampNeg) : Int32).toInt64 &&& (4294967295 : Int64))) = x
    refine ⟨0, 0, ?_, by omega, by omega⟩
    unfold m_CS_goOn m_Mod_goOn
    rw [if_neg (by exact (show ¬ (1 : Int32) = 3 by decide)), bind_s, if_pos i1, if_pos i2, if_neg (by exact (show ¬ (1 : Int32) = 3 by decide)), bind_s, if_pos rfl, law_end]
    rfl
  · -- truth
    rw [if_neg (by decide), if_neg (by decide), if_neg (by decide), if_neg (by decide), if_neg (by decide), if_pos rfl, if_pos i1]
    refine ⟨0, 0, ?_, by omega, by omega⟩
    unfold m_CS_truth m_Mod_truth
    rw [if_neg (by exact (show ¬ (1 : Int32) = 0 by decide)), bind_s, if_pos i1, if_neg (by exact (show ¬ (1 : Int32) = 0 by decide)), bind_s, if_pos rfl, law_end]
  · -- block
    rw [if_neg (by decide), if_neg (by decide), if_neg (by decide), if_neg (by decide), if_neg (by decide), if_neg (by decide), if_pos rfl]
    refine ⟨0, 0, ?_, by omega, by omega⟩
    unfold m_CS_block m_Mod_block
    rw [if_neg (by exact (show ¬ (1 : Int32) = 0 by decide)), bind_s, if_neg (by exact (show ¬ (1 : Int32) = 0 by decide)), bind_s, if_pos rfl, law_end]
    rfl
  · -- assume
    rw [if_neg (by decide), if_neg (by decide), if_neg (by decide), if_neg (by decide), if_neg (by decide), if_neg (by decide), if_neg (by decide), if_pos rfl, if_pos i1, if_pos i2]
    refine ⟨0, 0, ?_, by omega, by omega⟩
    unfold m_Law_law_B396 m_Law_law_B418
    by_cases q : xs ((1 : Int32) + 2).toNatClampNeg = 0
    · obtain ⟨cs, ass, r, m, e1, e2⟩ := assume0 hn (xs ((1 : Int32) + 1).toNatClampNeg) 0
      rw [if_pos q, show m_CS_assume (nI n, -1, 1) (0, (40, fun _ => 0)) _ _ = _ from e1, bind_s, if_pos i1, if_pos i2, if_pos q, e2, bind_s, if_pos rfl, law_end]
    · obtain ⟨cs, ass, r, m, e1, e2⟩ := assume0 hn (xs ((1 : Int32) + 1).toNatClampNeg) 1
      rw [if_neg q, show m_CS_assume (nI n, -1, 1) (0, (40, fun _ => 0)) _ _ = _ from e1, bind_s, if_pos i1, if_pos i2, if_neg q, e2, bind_s, if_pos rfl, law_end]
  · -- freely
    rw [if_neg (by decide), if_neg (by decide), if_neg (by decide), if_neg (by decide), if_neg (by decide), if_neg (by decide), if_neg (by decide), if_neg (by decide), if_pos rfl]
    refine ⟨0, 0, ?_, by omega, by omega⟩
    unfold m_CS_freely m_Ass_clear m_Mod_freely
    rw [bind_s, bind_s, bind_s, law_end]
  · -- core
    rw [if_neg (by decide), if_neg (by decide), if_neg (by decide), if_neg (by decide), if_neg (by decide), if_neg (by decide), if_neg (by decide), if_neg (by decide), if_neg (by decide), if_pos rfl, if_pos i1]
    refine ⟨0, 0, ?_, by omega, by omega⟩
    unfold m_CS_core m_Mod_core
    rw [if_neg (by exact (show ¬ (1 : Int32) = 2 by decide)), bind_s, if_pos i1, if_neg (by exact (show ¬ (1 : Int32) = 2 by decide)), bind_s, if_pos rfl, law_end]
  · -- rows
    rw [if_neg (by decide), if_neg (by decide), if_neg (by decide), if_neg (by decide), if_neg (by decide), if_neg (by decide), if_neg (by decide), if_neg (by decide), if_neg (by decide), if_neg (by decide), if_pos rfl]
    refine ⟨0, 0, ?_, by omega, by omega⟩
    rw [show m_CS_rows _ _ = some 0 from rfl, bind_s, show m_Mod_rows (mod0 n) = some (mod0 n, 0) from rfl, bind_s, if_pos rfl, law_end]
  · -- row
    rw [if_neg (by decide), if_neg (by decide), if_neg (by decide), if_neg (by decide), if_neg (by decide), if_neg (by decide), if_neg (by decide), if_neg (by decide), if_neg (by decide), if_neg (by decide), if_neg (by decide), if_pos rfl, if_pos i1, if_pos i2]
    refine ⟨0, 0, ?_, by omega, by omega⟩
    unfold m_CS_row
    rw [numRow0, bind_s, if_pos (by decide), bind_s, if_pos i1, if_pos i2, mrow0, bind_s, if_pos rfl, law_end]
  · -- numberOf
    rw [if_neg (by decide), if_neg (by decide), if_neg (by decide), if_neg (by decide), if_neg (by decide), if_neg (by decide), if_neg (by decide), if_neg (by decide), if_neg (by decide), if_neg (by decide), if_neg (by decide), if_neg (by decide), if_pos rfl, if_pos i1]
    refine ⟨0, 0, ?_, by omega, by omega⟩
    unfold m_CS_numberOf
    rw [numRow0, bind_s, bind_s, if_pos i1, mnum0, bind_s, if_pos rfl, law_end]
  · -- used
    rw [if_neg (by decide), if_neg (by decide), if_neg (by decide), if_neg (by decide), if_neg (by decide), if_neg (by decide), if_neg (by decide), if_neg (by decide), if_neg (by decide), if_neg (by decide), if_neg (by decide), if_neg (by decide), if_neg (by decide), if_pos rfl]
    refine ⟨0, 0, ?_, by omega, by omega⟩
    unfold m_CS_used m_Mod_used
    rw [bind_s, bind_s, if_pos (by exact (show lg_cmp 0 0 = 0 by decide)), law_end]
  · -- state
    rw [if_neg (by decide), if_neg (by decide), if_neg (by decide), if_neg (by decide), if_neg (by decide), if_neg (by decide), if_neg (by decide), if_neg (by decide), if_neg (by decide), if_neg (by decide), if_neg (by decide), if_neg (by decide), if_neg (by decide), if_neg (by decide), if_pos rfl]
    refine ⟨0, 0, ?_, by omega, by omega⟩
    rw [show m_CS_state _ = some 1 from rfl, bind_s, show m_Mod_state (mod0 n) = some (mod0 n, 1) from rfl, bind_s, if_pos rfl, law_end]
  · -- clauses
    rw [if_neg (by decide), if_neg (by decide), if_neg (by decide), if_neg (by decide), if_neg (by decide), if_neg (by decide), if_neg (by decide), if_neg (by decide), if_neg (by decide), if_neg (by decide), if_neg (by decide), if_neg (by decide), if_neg (by decide), if_neg (by decide), if_neg (by decide), if_pos rfl]
    refine ⟨0, 0, ?_, by omega, by omega⟩
    rw [show m_CS_clauses _ _ = some 0 from rfl, bind_s, show m_Mod_clauses (mod0 n) = some (mod0 n, 0) from rfl, bind_s, if_pos rfl, law_end]
theorem p1_pure {L : Nat} (hL : L ≤ 5) (xs : Nat → Int32) : ∃ mc ms, m_Law_law L xs = some ((), mc, ms) ∧ mc ≤ 600000 ∧ ms ≤ 7302250 := by
  unfold m_Law_law
  generalize (if L = 0 then 0 else xs 0) = x
  obtain ⟨gs, gp, gy, gt, e1, h1, h2, h3, h4⟩ := cs_init_ok x
  obtain ⟨b0, bn⟩ := held_le x
  rw [e1, bind_s, mod_init_ok, bind_s]
  by_cases q : L = 5
  · subst q
    obtain ⟨mc, ms, z1, z2, z3⟩ := p1_step xs 1999998 (gy := gy) (gt := gt) b0 bn h1 h2
    rw [show (fu : Nat) = 1999998 + 1 + 1 from rfl, z1]
    refine ⟨_, _, rfl, ?_, ?_⟩
    · show 1 + (25 + (1 + (15 + mc))) ≤ 600000
      omega
    · show 8 + (323 + 9 * held x + (27 + (27583 + ms))) ≤ 7302250
      omega
  · have c : Int32.ofNat L - 4 < 1 := by
      have : L = 0 ∨ L = 1 ∨ L = 2 ∨ L = 3 ∨ L = 4 := by omega
      rcases this with rfl | rfl | rfl | rfl | rfl <;> decide
    rw [show (fu : Nat) = 1999999 + 1 from rfl, m_Law_law_L28, if_pos c]
    refine ⟨_, _, rfl, ?_, ?_⟩
    · show 1 + (25 + (1 + (15 + 0))) ≤ 600000
      omega
    · show 8 + (323 + 9 * held x + (27 + (27583 + 0))) ≤ 7302250
      omega
