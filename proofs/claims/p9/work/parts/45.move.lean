/-! PURE, 6: the opposite of a literal; Tally.move whole -/
/-- the opposite of a literal -/
def opp (l : Nat) : Nat := if l % 2 = 0 then l + 1 else l - 1
theorem xor1 (l : Nat) : l ^^^ 1 = opp l := by
  apply Nat.eq_of_testBit_eq
  intro i
  have hd : opp l / 2 = l / 2 := by
    unfold opp
    by_cases h : l % 2 = 0
    · rw [if_pos h]; omega
    · rw [if_neg h]; omega
  have hm : opp l % 2 = 1 - l % 2 := by
    unfold opp
    by_cases h : l % 2 = 0
    · rw [if_pos h]; omega
    · rw [if_neg h]; omega
  cases i with
  | zero =>
    rw [Nat.testBit_xor, Nat.testBit_zero, Nat.testBit_zero, Nat.testBit_zero, hm]
    rcases Nat.mod_two_eq_zero_or_one l with q | q <;> rw [q] <;> decide
  | succ i =>
    rw [Nat.testBit_xor, Nat.testBit_succ, Nat.testBit_succ, Nat.testBit_succ, hd]
    simp
theorem nI_xor1 {l : Nat} (h : l < 2 ^ 31) : nI l ^^^ (1 : Int32) = nI (opp l) := by
  rw [← xor1 l]
  apply Int32.toBitVec_inj.mp
  rw [Int32.toBitVec_xor]
  show (BitVec.ofNat 32 l) ^^^ (BitVec.ofNat 32 1) = BitVec.ofNat 32 (l ^^^ 1)
  apply BitVec.eq_of_toNat_eq
  rw [BitVec.toNat_xor, BitVec.toNat_ofNat, BitVec.toNat_ofNat, BitVec.toNat_ofNat, Nat.mod_eq_of_lt (by omega), Nat.mod_eq_of_lt (by omega)]
  rw [Nat.mod_eq_of_lt]
  exact Nat.xor_lt_two_pow (by omega) (by omega)
theorem opp_lt {l n : Nat} (h : l < 2 * n) : opp l < 2 * n := by
  unfold opp
  by_cases q : l % 2 = 0
  · rw [if_pos q]; omega
  · rw [if_neg q]; omega
theorem opp_opp (l : Nat) : opp (opp l) = l := by
  unfold opp
  by_cases q : l % 2 = 0
  · rw [if_pos q, if_neg (by omega)]; omega
  · rw [if_neg q, if_pos (by omega)]; omega
theorem opp_ne (l : Nat) : ¬ opp l = l := by
  unfold opp
  by_cases q : l % 2 = 0
  · rw [if_pos q]; omega
  · rw [if_neg q]; omega
theorem opp_half (l : Nat) : opp l / 2 = l / 2 := by
  unfold opp
  by_cases q : l % 2 = 0
  · rw [if_pos q]; omega
  · rw [if_neg q]; omega
theorem ofInt_sub' (a b : Int) : Int32.ofInt a - Int32.ofInt b = Int32.ofInt (a - b) := (Int32.ofInt_sub a b).symm
/-- the second walk: notFailed of the clauses of l's slots -/
theorem moveB {n C N l1 l2 l3 l5 : Nat} {L O X G S : Nat → Int32} {lit own start : Nat → Nat} (h : StoI n C N l1 l2 l3 l5 L O X G S lit own start) (sg : Int) (l : Nat) {m1 m2 : Nat} {MB : Nat → Int32} : ∀ (f k m : Nat) (wd wu : Nat → Int64) (NF : Nat → Int32) (qs : Nat → Int), k + m ≤ N → k < f → TalB C m1 m2 wd wu MB NF → (∀ c, c < C → NF c = Int32.ofInt (qs c)) → ∃ wd' wu' NF', m_Tal_move_L88 (stoT C N l1 l2 l3 n l5 L O X G S) f (talT m1 m2 wd wu MB NF) (Int32.ofInt sg) (prv lit l k) (nI m) = some (talT m1 m2 wd' wu' MB NF') ∧ TalB C m1 m2 wd' wu' MB NF' ∧ ∀ c, c < C → NF' c = Int32.ofInt (qs c - sg * (cnt lit own l c k : Int)) := by
  obtain ⟨⟨hC, hN, hn1, hn⟩, ⟨a1, a2, a3⟩, ⟨a4, a5, a6⟩, ⟨a7, a8, a9⟩, b, q1, q2, q3, q4, q5, q6⟩ := h
  intro f
  induction f with
  | zero => intro k m wd wu NF qs _ hf; omega
  | succ f ih =>
    intro k m wd wu NF qs hk hf hB hM
    rw [m_Tal_move_L88]
    have done : (∀ s, s < k → ¬ lit s = l) → ∃ wd' wu' NF', some (talT m1 m2 wd wu MB NF) = some (talT m1 m2 wd' wu' MB NF') ∧ TalB C m1 m2 wd' wu' MB NF' ∧ ∀ c, c < C → NF' c = Int32.ofInt (qs c - sg * (cnt lit own l c k : Int)) := fun hz => ⟨wd, wu, NF, rfl, hB, fun c hc => by rw [cnt_none k hz, hM c hc]; simp⟩
    by_cases e1 : N ≤ m
    · have g1 : nI N ≤ nI m := nI_le e1 (by omega)
      show ∃ wd' wu' NF', (if nI N ≤ nI m then _ else _) = _ ∧ _
      rw [if_pos g1]
      exact done (fun s hs => absurd hs (by omega))
    · have g1 : ¬ nI N ≤ nI m := nI_ge (by omega) (by omega)
      show ∃ wd' wu' NF', (if nI N ≤ nI m then _ else _) = _ ∧ _
      rw [if_neg g1]
      rcases prv_lt lit l k with p | ⟨s, hs, p, hl, hno⟩
      · rw [p, if_pos (by decide)]
        exact done (prv_none lit l k p (by omega))
      · have g2 : ¬ nI s < 0 := nI_pos (by omega)
        have cs : (nI s).toNatClampNeg = s := nI_clamp (by omega)
        obtain ⟨y1, y2, y3, y4, y5⟩ := q1 s (by omega)
        have g3 : ¬ (nI s < 0 ∨ l2 ≤ (nI s).toNatClampNeg) := nI_in (c := s) (N := l2) (by omega) (by omega)
        have g4 : ¬ (nI (own s) < 0 ∨ m2 ≤ (nI (own s)).toNatClampNeg) := nI_in (c := own s) (N := m2) (by have := hB.2.1; omega) (by have := hB.2.1; omega)
        have g5 : ¬ (nI s < 0 ∨ l3 ≤ (nI s).toNatClampNeg) := nI_in (c := s) (N := l3) (by omega) (by omega)
        have co : (nI (own s)).toNatClampNeg = own s := nI_clamp (by omega)
        rw [p, if_neg g2]
        show ∃ wd' wu' NF', (if ¬ (nI s < 0 ∨ l2 ≤ (nI s).toNatClampNeg) then (if ¬ (O (nI s).toNatClampNeg < 0 ∨ m2 ≤ (O (nI s).toNatClampNeg).toNatClampNeg) then (if ¬ (O (nI s).toNatClampNeg < 0 ∨ m2 ≤ (O (nI s).toNatClampNeg).toNatClampNeg) then ((m_Tal_judge (talT m1 m2 wd wu MB (upd NF (O (nI s).toNatClampNeg).toNatClampNeg (NF (O (nI s).toNatClampNeg).toNatClampNeg - Int32.ofInt sg))) (O (nI s).toNatClampNeg)).bind fun r15 => (if ¬ (nI s < 0 ∨ l3 ≤ (nI s).toNatClampNeg) then (m_Tal_move_L88 (stoT C N l1 l2 l3 n l5 L O X G S) f) r15 (Int32.ofInt sg) (X (nI s).toNatClampNeg) (nI m + 1) else none)) else none) else none) else none) = _ ∧ _
        rw [if_pos g3, cs, y3, if_pos g4, if_pos g4, co]
        obtain ⟨wd1, wu1, j1, j2⟩ := judge_B (MB' := MB) (NF' := upd NF (own s) (NF (own s) - Int32.ofInt sg)) hB y4 hC (fun j _ => rfl) (fun j hj => pk_un hj)
        rw [j1, bind_s, cs] at *
        rw [if_pos (by rw [← cs] at g5 ⊢; exact g5), y5, hl, nI_1]
        obtain ⟨wd', wu', NF', r1, r2, r3⟩ := ih s (m + 1) wd1 wu1 (upd NF (own s) (NF (own s) - Int32.ofInt sg)) (fun c => qs c - (if own s = c then sg else 0)) (by omega) (by omega) j2 (fun c hc => by
          by_cases g : own s = c
          · subst g
            rw [pk_us, hM _ hc, ofInt_sub', if_pos rfl]
          · rw [pk_un (fun q => g q.symm), hM c hc, if_neg g]
            simp)
        refine ⟨wd', wu', NF', r1, r2, fun c hc => ?_⟩
        rw [r3 c hc, cnt_last hl k hs hno]
        congr 1
        by_cases g : own s = c
        · rw [if_pos g, if_pos g]
          push_cast
          rw [Int.mul_add, Int.mul_one]
          omega
        · rw [if_neg g, if_neg g]
          simp
/-- move(l, sg): the clauses of l's slots are met by sg more, those of the opposite's slots have sg less that isn't failed -/
theorem move_ok {n C N l1 l2 l3 l5 : Nat} {L O X G S : Nat → Int32} {lit own start : Nat → Nat} (h : StoI n C N l1 l2 l3 l5 L O X G S lit own start) (sg : Int) {l : Nat} (hl : l < 2 * n) {m1 m2 : Nat} {wd wu : Nat → Int64} {MB NF : Nat → Int32} {ms qs : Nat → Int} (hB : TalB C m1 m2 wd wu MB NF) (hM : ∀ c, c < C → MB c = Int32.ofInt (ms c)) (hQ : ∀ c, c < C → NF c = Int32.ofInt (qs c)) : ∃ wd' wu' MB' NF', m_Tal_move (stoT C N l1 l2 l3 n l5 L O X G S) (talT m1 m2 wd wu MB NF) (nI l) (Int32.ofInt sg) = some (talT m1 m2 wd' wu' MB' NF') ∧ TalB C m1 m2 wd' wu' MB' NF' ∧ (∀ c, c < C → MB' c = Int32.ofInt (ms c + sg * (cnt lit own l c N : Int))) ∧ ∀ c, c < C → NF' c = Int32.ofInt (qs c - sg * (cnt lit own (opp l) c N : Int)) := by
  obtain ⟨⟨hC, hN, hn1, hn⟩, -, -, -, -, -, q2, -⟩ := id h
  obtain ⟨wd1, wu1, MB1, r1, r2, r3⟩ := moveA h (nI l) sg l fu N 0 wd wu MB ms (by omega) (by unfold fu; omega) hB hM
  obtain ⟨wd2, wu2, NF2, t1, t2, t3⟩ := moveB h sg (opp l) fu N 0 wd1 wu1 NF qs (by omega) (by unfold fu; omega) r2 hQ
  refine ⟨wd2, wu2, MB1, NF2, ?_, t2, r3, t3⟩
  have hol := opp_lt hl
  have g1 : ¬ (nI l < 0 ∨ 2 * n ≤ (nI l).toNatClampNeg) := nI_in (c := l) (N := 2 * n) hl (by omega)
  have g2 : ¬ (nI (opp l) < 0 ∨ 2 * n ≤ (nI (opp l)).toNatClampNeg) := nI_in (c := opp l) (N := 2 * n) hol (by omega)
  unfold m_Tal_move
  show (if ¬ (nI l < 0 ∨ 2 * n ≤ (nI l).toNatClampNeg) then m_Tal_move_L13 (stoT C N l1 l2 l3 n l5 L O X G S) fu (talT m1 m2 wd wu MB NF) (nI l) (Int32.ofInt sg) (G (nI l).toNatClampNeg) 0 else none) = _
  rw [if_pos g1, nI_clamp (by omega), q2 l hl]
  rw [show (0 : Int32) = nI 0 from rfl, r1]
  unfold m_Tal_move_B73
  rw [nI_xor1 (by omega)]
  show (if ¬ (nI (opp l) < 0 ∨ 2 * n ≤ (nI (opp l)).toNatClampNeg) then m_Tal_move_L88 (stoT C N l1 l2 l3 n l5 L O X G S) fu (talT m1 m2 wd1 wu1 MB1 NF) (Int32.ofInt sg) (G (nI (opp l)).toNatClampNeg) 0 else none) = _
  rw [if_pos g2, nI_clamp (by omega), q2 (opp l) hol]
  exact t1
