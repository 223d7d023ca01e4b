/-! PURE, 5: the Store's reads; the Tally's move along the chains of equal literals -/
theorem startOf_ok {n C N l1 l2 l3 l5 : Nat} {L O X G S : Nat → Int32} {lit own start : Nat → Nat} (h : StoI n C N l1 l2 l3 l5 L O X G S lit own start) {c : Nat} (hc : c < C) : m_Sto_startOf (stoT C N l1 l2 l3 n l5 L O X G S) (nI c) = some (nI (start c)) := by
  obtain ⟨⟨hC, hN, hn1, hn⟩, a1, a2, a3, ⟨b1, b2, b3⟩, q1, q2, q3, q4, q5, q6⟩ := h
  unfold m_Sto_startOf
  have e1 : ¬ nI c < 0 := nI_pos (by omega)
  have e2 : ¬ nI C ≤ nI c := nI_ge hc (by omega)
  have e3 : ¬ (nI c < 0 ∨ l5 ≤ (nI c).toNatClampNeg) := nI_in (c := c) (N := l5) (by omega) (by omega)
  show (if nI c < 0 then _ else if nI C ≤ nI c then _ else if ¬ (nI c < 0 ∨ l5 ≤ (nI c).toNatClampNeg) then some (S (nI c).toNatClampNeg) else none) = _
  rw [if_neg e1, if_neg e2, if_pos e3, nI_clamp (by omega), q3 c hc]
theorem endOf_ok {n C N l1 l2 l3 l5 : Nat} {L O X G S : Nat → Int32} {lit own start : Nat → Nat} (h : StoI n C N l1 l2 l3 l5 L O X G S lit own start) {c : Nat} (hc : c < C) : m_Sto_endOf (stoT C N l1 l2 l3 n l5 L O X G S) (nI c) = some (nI (start (c + 1))) := by
  obtain ⟨⟨hC, hN, hn1, hn⟩, a1, a2, a3, ⟨b1, b2, b3⟩, q1, q2, q3, q4, q5, q6⟩ := h
  unfold m_Sto_endOf
  have e1 : ¬ nI c < 0 := nI_pos (by omega)
  show (if nI c < 0 then _ else if nI C ≤ nI c + 1 then some (nI N) else if ¬ (nI c + 1 < 0 ∨ l5 ≤ (nI c + 1).toNatClampNeg) then some (S (nI c + 1).toNatClampNeg) else none) = _
  rw [if_neg e1, nI_1]
  by_cases g : c + 1 = C
  · rw [if_pos (nI_le (by omega) (by omega)), g, q4]
  · have e2 : ¬ nI C ≤ nI (c + 1) := nI_ge (by omega) (by omega)
    have e3 : ¬ (nI (c + 1) < 0 ∨ l5 ≤ (nI (c + 1)).toNatClampNeg) := nI_in (c := c + 1) (N := l5) (by omega) (by omega)
    rw [if_neg e2, if_pos e3, nI_clamp (by omega), q3 (c + 1) (by omega)]
theorem sizeOf_ok {n C N l1 l2 l3 l5 : Nat} {L O X G S : Nat → Int32} {lit own start : Nat → Nat} (h : StoI n C N l1 l2 l3 l5 L O X G S lit own start) {c : Nat} (hc : c < C) : m_Sto_sizeOf (stoT C N l1 l2 l3 n l5 L O X G S) (nI c) = some (nI (start (c + 1) - start c)) := by
  unfold m_Sto_sizeOf
  rw [endOf_ok h hc, bind_s, startOf_ok h hc, bind_s, pk_sub]
  obtain ⟨-, -, -, -, -, -, -, -, -, q5, -⟩ := h
  exact q5 c hc
/-- how many slots below k hold the literal l in clause c -/
def cnt (lit own : Nat → Nat) (l c : Nat) : Nat → Nat
  | 0 => 0
  | k + 1 => cnt lit own l c k + (if lit k = l ∧ own k = c then 1 else 0)
theorem cnt_none {lit own : Nat → Nat} {l c : Nat} : ∀ k, (∀ s, s < k → ¬ lit s = l) → cnt lit own l c k = 0 := by
  intro k
  induction k with
  | zero => intro _; rfl
  | succ k ih =>
    intro h
    show cnt lit own l c k + (if lit k = l ∧ own k = c then 1 else 0) = 0
    rw [ih (fun s hs => h s (by omega)), if_neg (fun q => h k (by omega) q.1)]
theorem cnt_last {lit own : Nat → Nat} {l c s : Nat} (h1 : lit s = l) : ∀ k, s < k → (∀ t, s < t → t < k → ¬ lit t = l) → cnt lit own l c k = cnt lit own l c s + (if own s = c then 1 else 0) := by
  intro k
  induction k with
  | zero => intro h; omega
  | succ k ih =>
    intro hk h
    show cnt lit own l c k + (if lit k = l ∧ own k = c then 1 else 0) = _
    by_cases e : s = k
    · subst e
      by_cases g : own s = c
      · rw [if_pos ⟨h1, g⟩, if_pos g]
      · rw [if_neg (fun q => g q.2), if_neg g]
    · have g0 : ¬ (lit k = l ∧ own k = c) := fun q => h k (by omega) (by omega) q.1
      rw [ih (by omega) (fun t a b => h t a (by omega)), if_neg g0, Nat.add_zero]
/-- the bits as the counts say; beyond the clauses none -/
def TalB (C m1 m2 : Nat) (wd wu : Nat → Int64) (MB NF : Nat → Int32) : Prop :=
  (1 ≤ m1 ∧ C ≤ m1 ∧ m1 ≤ 1500) ∧ (1 ≤ m2 ∧ C ≤ m2 ∧ m2 ≤ 1500) ∧ (∀ c, c < C → bitOf wd c = decide (MB c ≤ 0 ∧ NF c = 0) ∧ bitOf wu c = decide (MB c ≤ 0 ∧ NF c = 1)) ∧ ∀ c, C ≤ c → bitOf wd c = false ∧ bitOf wu c = false
abbrev talT (m1 m2 : Nat) (wd wu : Nat → Int64) (MB NF : Nat → Int32) : T_Tal := ((24, wd), (24, wu), (m1, MB), (m2, NF))
theorem judge_B {C m1 m2 : Nat} {wd wu : Nat → Int64} {MB NF MB' NF' : Nat → Int32} (h : TalB C m1 m2 wd wu MB NF) {c : Nat} (hc : c < C) (hC : C ≤ 1500) (h1 : ∀ j, j ≠ c → MB' j = MB j) (h2 : ∀ j, j ≠ c → NF' j = NF j) : ∃ wd' wu', m_Tal_judge (talT m1 m2 wd wu MB' NF') (nI c) = some (talT m1 m2 wd' wu' MB' NF') ∧ TalB C m1 m2 wd' wu' MB' NF' := by
  obtain ⟨a1, a2, a3, a4⟩ := h
  obtain ⟨wd', wu', e1, e2, e3⟩ := judge_ok (c := c) (by omega) wd wu (m1, MB') (m2, NF') (by show c < m1; omega) (by show c < m2; omega)
  refine ⟨wd', wu', e1, a1, a2, fun j hj => ?_, fun j hj => ?_⟩
  · rw [e2 j, e3 j]
    by_cases g : j = c
    · subst g
      rw [if_pos rfl, if_pos rfl]
      exact ⟨rfl, rfl⟩
    · rw [if_neg g, if_neg g, h1 j g, h2 j g]
      exact a3 j hj
  · have g : ¬ j = c := by omega
    rw [e2 j, e3 j, if_neg g, if_neg g]
    exact a4 j hj
theorem ofInt_add' (a b : Int) : Int32.ofInt a + Int32.ofInt b = Int32.ofInt (a + b) := (Int32.ofInt_add a b).symm
/-- the first walk: metBy of the clauses of l's slots -/
theorem moveA {n C N l1 l2 l3 l5 : Nat} {L O X G S : Nat → Int32} {lit own start : Nat → Nat} (h : StoI n C N l1 l2 l3 l5 L O X G S lit own start) (x1 : Int32) (sg : Int) (l : Nat) {m1 m2 : Nat} {NF : Nat → Int32} : ∀ (f k m : Nat) (wd wu : Nat → Int64) (MB : Nat → Int32) (ms : Nat → Int), k + m ≤ N → k < f → TalB C m1 m2 wd wu MB NF → (∀ c, c < C → MB c = Int32.ofInt (ms c)) → ∃ wd' wu' MB', m_Tal_move_L13 (stoT C N l1 l2 l3 n l5 L O X G S) f (talT m1 m2 wd wu MB NF) x1 (Int32.ofInt sg) (prv lit l k) (nI m) = m_Tal_move_B73 (stoT C N l1 l2 l3 n l5 L O X G S) (talT m1 m2 wd' wu' MB' NF) x1 (Int32.ofInt sg) ∧ TalB C m1 m2 wd' wu' MB' NF ∧ ∀ c, c < C → MB' c = Int32.ofInt (ms c + sg * (cnt lit own l c k : Int)) := by
  obtain ⟨⟨hC, hN, hn1, hn⟩, ⟨a1, a2, a3⟩, ⟨a4, a5, a6⟩, ⟨a7, a8, a9⟩, b, q1, q2, q3, q4, q5, q6⟩ := h
  intro f
  induction f with
  | zero => intro k m wd wu MB ms _ hf; omega
  | succ f ih =>
    intro k m wd wu MB ms hk hf hB hM
    rw [m_Tal_move_L13]
    have done : (∀ s, s < k → ¬ lit s = l) → ∃ wd' wu' MB', m_Tal_move_B73 (stoT C N l1 l2 l3 n l5 L O X G S) (talT m1 m2 wd wu MB NF) x1 (Int32.ofInt sg) = m_Tal_move_B73 (stoT C N l1 l2 l3 n l5 L O X G S) (talT m1 m2 wd' wu' MB' NF) x1 (Int32.ofInt sg) ∧ TalB C m1 m2 wd' wu' MB' NF ∧ ∀ c, c < C → MB' c = Int32.ofInt (ms c + sg * (cnt lit own l c k : Int)) := fun hz => ⟨wd, wu, MB, rfl, hB, fun c hc => by rw [cnt_none k hz, hM c hc]; simp⟩
    by_cases e1 : N ≤ m
    · have g1 : nI N ≤ nI m := nI_le e1 (by omega)
      show ∃ wd' wu' MB', (if nI N ≤ nI m then _ else _) = _ ∧ _
      rw [if_pos g1]
      exact done (fun s hs => absurd hs (by omega))
    · have g1 : ¬ nI N ≤ nI m := nI_ge (by omega) (by omega)
      show ∃ wd' wu' MB', (if nI N ≤ nI m then _ else _) = _ ∧ _
      rw [if_neg g1]
      rcases prv_lt lit l k with p | ⟨s, hs, p, hl, hno⟩
      · rw [p, if_pos (by decide)]
        exact done (prv_none lit l k p (by omega))
      · have g2 : ¬ nI s < 0 := nI_pos (by omega)
        have cs : (nI s).toNatClampNeg = s := nI_clamp (by omega)
        obtain ⟨y1, y2, y3, y4, y5⟩ := q1 s (by omega)
        have g3 : ¬ (nI s < 0 ∨ l2 ≤ (nI s).toNatClampNeg) := nI_in (c := s) (N := l2) (by omega) (by omega)
        have g4 : ¬ (nI (own s) < 0 ∨ m1 ≤ (nI (own s)).toNatClampNeg) := nI_in (c := own s) (N := m1) (by have := hB.1; omega) (by have := hB.1; omega)
        have g5 : ¬ (nI s < 0 ∨ l3 ≤ (nI s).toNatClampNeg) := nI_in (c := s) (N := l3) (by omega) (by omega)
        have co : (nI (own s)).toNatClampNeg = own s := nI_clamp (by omega)
        rw [p, if_neg g2]
        show ∃ wd' wu' MB', (if ¬ (nI s < 0 ∨ l2 ≤ (nI s).toNatClampNeg) then (if ¬ (O (nI s).toNatClampNeg < 0 ∨ m1 ≤ (O (nI s).toNatClampNeg).toNatClampNeg) then (if ¬ (O (nI s).toNatClampNeg < 0 ∨ m1 ≤ (O (nI s).toNatClampNeg).toNatClampNeg) then ((m_Tal_judge (talT m1 m2 wd wu (upd MB (O (nI s).toNatClampNeg).toNatClampNeg (MB (O (nI s).toNatClampNeg).toNatClampNeg + Int32.ofInt sg)) NF) (O (nI s).toNatClampNeg)).bind fun r15 => (if ¬ (nI s < 0 ∨ l3 ≤ (nI s).toNatClampNeg) then (m_Tal_move_L13 (stoT C N l1 l2 l3 n l5 L O X G S) f) r15 x1 (Int32.ofInt sg) (X (nI s).toNatClampNeg) (nI m + 1) else none)) else none) else none) else none) = _ ∧ _
        rw [if_pos g3, cs, y3, if_pos g4, if_pos g4, co]
        obtain ⟨wd1, wu1, j1, j2⟩ := judge_B (MB' := upd MB (own s) (MB (own s) + Int32.ofInt sg)) (NF' := NF) hB y4 hC (fun j hj => pk_un hj) (fun j _ => rfl)
        rw [j1, bind_s, cs] at *
        rw [if_pos (by rw [← cs] at g5 ⊢; exact g5), y5, hl, nI_1]
        obtain ⟨wd', wu', MB', r1, r2, r3⟩ := ih s (m + 1) wd1 wu1 (upd MB (own s) (MB (own s) + Int32.ofInt sg)) (fun c => ms c + (if own s = c then sg else 0)) (by omega) (by omega) j2 (fun c hc => by
          by_cases g : own s = c
          · subst g
            rw [pk_us, hM _ hc, ofInt_add', if_pos rfl]
          · rw [pk_un (fun q => g q.symm), hM c hc, if_neg g]
            simp)
        refine ⟨wd', wu', MB', r1, r2, fun c hc => ?_⟩
        rw [r3 c hc, cnt_last hl k hs hno]
        congr 1
        by_cases g : own s = c
        · rw [if_pos g, if_pos g]
          push_cast
          rw [Int.mul_add, Int.mul_one]
          omega
        · rw [if_neg g, if_neg g]
          simp
