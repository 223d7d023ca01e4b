/-! PURE, 29: the program's own parts in any state they can be in: no call runs off (Store, Tally, Trail) -/
/-- a Store of C clauses that has cost at most P -/
def StoW (n : Nat) (v : T_Sto) (C P : Nat) : Prop := ∃ N l1 l2 l3 l5 L O X G S lit own start, v = stoT C N l1 l2 l3 n l5 L O X G S ∧ StoI n C N l1 l2 l3 l5 L O X G S lit own start ∧ P = PotS l1 l2 l3 l5
/-- a Tally with room for C clauses -/
def TalW (v : T_Tal) (C Q : Nat) : Prop := ∃ m1 m2 wd wu MB NF, v = talT m1 m2 wd wu MB NF ∧ (C ≤ m1 ∧ 1 ≤ m1 ∧ m1 ≤ 1500) ∧ (C ≤ m2 ∧ 1 ≤ m2 ∧ m2 ≤ 1500) ∧ Q = pot m1 1500 + pot m2 1500
def TraW (n : Nat) (v : T_Tra) : Prop := ∃ len lv TL ON LV CA, v = (nI len, lv, (n, TL), (n, ON), (n, LV), (n, CA)) ∧ (1 ≤ n ∧ n ≤ 300 ∧ len ≤ n) ∧ (∀ i, i < len → ∃ l, l < 2 * n ∧ TL i = nI l) ∧ ∀ t, t < n → CA t < 0 ∨ ∃ c, c ≤ 2000 ∧ CA t = nI c
def SeaW (n : Nat) (v : T_Sea) (C R : Nat) : Prop := ∃ rc us mk co cc rl RN lf, v = (nI rc, us, nI n, (n, mk), (40, co), nI cc, (rl, RN), lf) ∧ rc ≤ C ∧ (1 ≤ rl ∧ rl ≤ 1500 ∧ rc ≤ rl) ∧ cc ≤ 40 ∧ (∀ j, j < rc → ∃ c, c < C ∧ RN j = nI c) ∧ R = pot rl 1500
theorem pot_le {k most : Nat} (h : k ≤ most) : pot k most ≤ 3 * most := by
  unfold pot
  by_cases e : k = most
  · rw [if_pos e]; exact Nat.le_refl _
  · rw [if_neg e]; omega
theorem stoW_le {n C P : Nat} {v : T_Sto} (h : StoW n v C P) : C ≤ 1500 ∧ 1 ≤ n ∧ n ≤ 300 ∧ P ≤ 184500 := by
  obtain ⟨N, l1, l2, l3, l5, L, O, X, G, S, lit, own, start, rfl, hI, rfl⟩ := h
  obtain ⟨⟨a1, a2, a3, a4⟩, ⟨-, -, b1⟩, ⟨-, -, b2⟩, ⟨-, -, b3⟩, ⟨-, -, b4⟩, -⟩ := hI
  have c1 := pot_le b1
  have c2 := pot_le b2
  have c3 := pot_le b3
  have c4 := pot_le b4
  unfold PotS
  omega
theorem open_w {n C P : Nat} {v : T_Sto} (h : StoW n v C P) : ∃ v' r c s C' P', m_Sto_open v = some ((v', r), c, s) ∧ StoW n v' C' P' ∧ C ≤ C' ∧ c ≤ s ∧ s + P ≤ P' := by
  obtain ⟨N, l1, l2, l3, l5, L, O, X, G, S, lit, own, start, rfl, hI, rfl⟩ := h
  by_cases q : C + 1 ≤ 1500
  · obtain ⟨l5', S', c, s, e1, e2, e3, e4⟩ := open_ok hI q
    exact ⟨_, _, c, s, C + 1, _, e1, ⟨_, _, _, _, _, _, _, _, _, _, _, _, _, rfl, e2, rfl⟩, by omega, e3, e4⟩
  · have r := hasRoom_ok (n := n) (C := C) (N := N) (l1 := l1) (l2 := l2) (l3 := l3) (l5 := l5) (L := L) (O := O) (X := X) (G := G) (S := S) 1 0 hI.1.1 hI.1.2.1 (by omega) (by omega)
    rw [if_neg (fun w => q w.1)] at r
    refine ⟨_, -1, 0, 0, C, _, ?_, ⟨_, _, _, _, _, _, _, _, _, _, _, _, _, rfl, hI, rfl⟩, Nat.le_refl C, Nat.le_refl 0, by omega⟩
    unfold m_Sto_open
    rw [show m_Sto_hasRoom (stoT C N l1 l2 l3 n l5 L O X G S) 1 0 = some 0 from r, bind_s, if_pos rfl]
theorem append_w {n C P : Nat} {v : T_Sto} (h : StoW n v C P) (x : Int32) : ∃ v' c s P', m_Sto_append v x = some (v', c, s) ∧ StoW n v' C P' ∧ c ≤ s ∧ s + P ≤ P' := by
  obtain ⟨N, l1, l2, l3, l5, L, O, X, G, S, lit, own, start, rfl, hI, rfl⟩ := h
  have hn := hI.1
  have same : ∀ (y : Option ((T_Sto) × Nat × Nat)), y = some (stoT C N l1 l2 l3 n l5 L O X G S, 0, 0) → ∃ v' c s P', y = some (v', c, s) ∧ StoW n v' C P' ∧ c ≤ s ∧ s + PotS l1 l2 l3 l5 ≤ P' := fun y e => ⟨_, 0, 0, _, e, ⟨_, _, _, _, _, _, _, _, _, _, _, _, _, rfl, hI, rfl⟩, Nat.le_refl 0, by omega⟩
  by_cases q0 : C = 0
  · apply same
    unfold m_Sto_append
    rw [if_pos (by exact (show nI C = 0 by rw [q0]; rfl))]
  · have r := hasRoom_ok (n := n) (C := C) (N := N) (l1 := l1) (l2 := l2) (l3 := l3) (l5 := l5) (L := L) (O := O) (X := X) (G := G) (S := S) 0 1 hI.1.1 hI.1.2.1 (by omega) (by omega)
    by_cases q1 : N + 1 ≤ 20000
    · rw [if_pos ⟨by omega, q1⟩] at r
      rcases pk_ix x (n := 2 * n) (by omega) with w | w | ⟨l, hl, rfl⟩
      · apply same
        unfold m_Sto_append
        rw [if_neg (by exact nI_ne0 (by omega) (by omega)), show m_Sto_hasRoom (stoT C N l1 l2 l3 n l5 L O X G S) 0 1 = some 1 from r, bind_s, if_neg (by decide), if_pos w]
      · apply same
        unfold m_Sto_append
        rw [if_neg (by exact nI_ne0 (by omega) (by omega)), show m_Sto_hasRoom (stoT C N l1 l2 l3 n l5 L O X G S) 0 1 = some 1 from r, bind_s, if_neg (by decide)]
        by_cases w2 : x < 0
        · rw [if_pos w2]
        · have w3 : ¬ x < nI (2 * n) := fun y => by
            rw [Int32.lt_iff_toInt_lt] at y
            rw [Int32.le_iff_toInt_le] at w
            omega
          rw [if_neg w2, if_neg (by exact w3)]
      · obtain ⟨l1', l2', l3', L', O', X', G', c, s, e1, e2, e3, e4⟩ := append_ok hI (by omega) q1 hl
        exact ⟨_, c, s, _, e1, ⟨_, _, _, _, _, _, _, _, _, _, _, _, _, rfl, e2, rfl⟩, e3, e4⟩
    · rw [if_neg (fun w => q1 w.2)] at r
      apply same
      unfold m_Sto_append
      rw [if_neg (by exact nI_ne0 (by omega) (by omega)), show m_Sto_hasRoom (stoT C N l1 l2 l3 n l5 L O X G S) 0 1 = some 0 from r, bind_s, if_pos rfl]
/-- the slots of any clause number -/
theorem slots_w {n C P : Nat} {v : T_Sto} (h : StoW n v C P) {c : Nat} (hc : c ≤ 2000) : ∃ a b, m_Sto_endOf v (nI c) = some (nI b) ∧ m_Sto_startOf v (nI c) = some (nI a) ∧ a ≤ b ∧ b ≤ 20000 ∧ ∀ s, s < b → s < v.2.2.1.1 ∧ v.2.2.1.1 ≤ 20000 ∧ ∃ l, l < 2 * n ∧ v.2.2.1.2 s = nI l := by
  obtain ⟨N, l1, l2, l3, l5, L, O, X, G, S, lit, own, start, rfl, hI, rfl⟩ := h
  obtain ⟨⟨a1, a2, a3, a4⟩, ⟨d1, d2, d3⟩, -, -, -, q1, -⟩ := id hI
  have sl : ∀ b, b ≤ N → ∀ s, s < b → s < l1 ∧ l1 ≤ 20000 ∧ ∃ l, l < 2 * n ∧ L s = nI l := fun b hb s hs => ⟨by omega, d3, lit s, (q1 s (by omega)).2.1, (q1 s (by omega)).1⟩
  by_cases q : c < C
  · have hm := start_mono hI C (c + 1) (by omega) (Nat.le_refl C)
    have hm2 := start_mono hI (c + 1) c (by omega) (by omega)
    have q4 : start C = N := hI.2.2.2.2.2.2.2.2.1
    exact ⟨start c, start (c + 1), endOf_ok hI q, startOf_ok hI q, hm2, by omega, sl _ (by omega)⟩
  · refine ⟨N, N, ?_, ?_, Nat.le_refl N, a2, sl N (Nat.le_refl N)⟩
    · unfold m_Sto_endOf
      rw [if_neg (nI_pos (by omega)), nI_1, if_pos (by exact nI_le (a := C) (b := c + 1) (by omega) (by omega))]
    · unfold m_Sto_startOf
      rw [if_neg (nI_pos (by omega)), if_pos (by exact nI_le (a := C) (b := c) (by omega) (by omega))]
/-- a word of the chains: none, or a slot -/
theorem chain_w {N : Nat} (lit : Nat → Nat) (l k : Nat) (hk : k ≤ N) : prv lit l k < 0 ∨ ∃ s, s < N ∧ prv lit l k = nI s := by
  rcases prv_lt lit l k with e | ⟨s, e1, e2, -⟩
  · exact Or.inl (by rw [e]; decide)
  · exact Or.inr ⟨s, by omega, e2⟩
theorem judge_w {C m1 m2 c : Nat} (hc : c < C) (hC : C ≤ 1500) (g1 : C ≤ m1) (g2 : C ≤ m2) (wd wu : Nat → Int64) (MB NF : Nat → Int32) : ∃ wd' wu', m_Tal_judge (talT m1 m2 wd wu MB NF) (nI c) = some (talT m1 m2 wd' wu' MB NF) := by
  obtain ⟨wd', wu', e, -⟩ := judge_ok (c := c) (by omega) wd wu (m1, MB) (m2, NF) (by show c < m1; omega) (by show c < m2; omega)
  exact ⟨wd', wu', e⟩
section
variable {n C N l1 l2 l3 l5 m1 m2 : Nat} {L O X G S : Nat → Int32} {lit own start : Nat → Nat}
theorem move88_w (hI : StoI n C N l1 l2 l3 l5 L O X G S lit own start) (g1 : C ≤ m1) (g2 : C ≤ m2) (hm2 : m2 ≤ 1500) (x2 : Int32) : ∀ (d j f : Nat) (x3 : Int32) (wd wu : Nat → Int64) (MB NF : Nat → Int32), j + d = N → d < f → (x3 < 0 ∨ ∃ s, s < N ∧ x3 = nI s) → ∃ wd' wu' NF', m_Tal_move_L88 (stoT C N l1 l2 l3 n l5 L O X G S) f (talT m1 m2 wd wu MB NF) x2 x3 (nI j) = some (talT m1 m2 wd' wu' MB NF') := by
  obtain ⟨⟨a1, a2, a3, a4⟩, ⟨-, b1, b1'⟩, ⟨-, b2, b2'⟩, ⟨-, b3, b3'⟩, -, q1, -⟩ := id hI
  have eF : ∀ f wd wu MB NF x3 j, m_Tal_move_L88 (stoT C N l1 l2 l3 n l5 L O X G S) (f + 1) (talT m1 m2 wd wu MB NF) x2 x3 j = (if nI N ≤ j then some (talT m1 m2 wd wu MB NF) else if x3 < 0 then some (talT m1 m2 wd wu MB NF) else if ¬ (x3 < 0 ∨ l2 ≤ x3.toNatClampNeg) then (if ¬ (O x3.toNatClampNeg < 0 ∨ m2 ≤ (O x3.toNatClampNeg).toNatClampNeg) then (if ¬ (O x3.toNatClampNeg < 0 ∨ m2 ≤ (O x3.toNatClampNeg).toNatClampNeg) then ((m_Tal_judge (talT m1 m2 wd wu MB (upd NF (O x3.toNatClampNeg).toNatClampNeg (NF (O x3.toNatClampNeg).toNatClampNeg - x2))) (O x3.toNatClampNeg)).bind fun r8 => if ¬ (x3 < 0 ∨ l3 ≤ x3.toNatClampNeg) then m_Tal_move_L88 (stoT C N l1 l2 l3 n l5 L O X G S) f r8 x2 (X x3.toNatClampNeg) (j + 1) else none) else none) else none) else none) := fun f wd wu MB NF x3 j => rfl
  intro d
  induction d with
  | zero =>
    intro j f x3 wd wu MB NF e hf hx
    obtain ⟨f, rfl⟩ : ∃ g, f = g + 1 := ⟨f - 1, by omega⟩
    rw [eF, if_pos (nI_le (by omega) (by omega))]
    exact ⟨wd, wu, NF, rfl⟩
  | succ d ih =>
    intro j f x3 wd wu MB NF e hf hx
    obtain ⟨f, rfl⟩ : ∃ g, f = g + 1 := ⟨f - 1, by omega⟩
    rw [eF, if_neg (nI_ge (by omega) (by omega))]
    rcases hx with hx | ⟨s, hs, rfl⟩
    · rw [if_pos hx]
      exact ⟨wd, wu, NF, rfl⟩
    · obtain ⟨-, w2, w3, w4, w5⟩ := q1 s hs
      have gs : ¬ (nI (own s) < 0 ∨ m2 ≤ (nI (own s)).toNatClampNeg) := nI_in (by omega) (by omega)
      have gt := gs
      rw [nI_clamp (n := own s) (by omega)] at gt
      have g3 : ¬ (nI s < 0 ∨ l3 ≤ s) := by have := nI_in (c := s) (N := l3) (by omega) (by omega); rw [nI_clamp (n := s) (by omega)] at this; exact this
      obtain ⟨wd', wu', e1⟩ := judge_w w4 a1 g1 g2 wd wu MB (upd NF (own s) (NF (own s) - x2))
      rw [if_neg (nI_pos (by omega)), if_pos (nI_in (by omega) (by omega)), nI_clamp (n := s) (by omega), w3, if_pos gs, nI_clamp (n := own s) (by omega), if_pos gt, e1, bind_s, if_pos g3, w5, nI_1]
      exact ih (j + 1) f _ wd' wu' MB _ (by omega) (by omega) (chain_w lit (lit s) s (by omega))
theorem move13_w (hI : StoI n C N l1 l2 l3 l5 L O X G S lit own start) (g1 : C ≤ m1) (g2 : C ≤ m2) (hm1 : m1 ≤ 1500) (hm2 : m2 ≤ 1500) {l : Nat} (hl : l < 2 * n) (x2 : Int32) : ∀ (d j f : Nat) (x3 : Int32) (wd wu : Nat → Int64) (MB NF : Nat → Int32), j + d = N → d < f → (x3 < 0 ∨ ∃ s, s < N ∧ x3 = nI s) → ∃ wd' wu' MB' NF', m_Tal_move_L13 (stoT C N l1 l2 l3 n l5 L O X G S) f (talT m1 m2 wd wu MB NF) (nI l) x2 x3 (nI j) = some (talT m1 m2 wd' wu' MB' NF') := by
  obtain ⟨⟨a1, a2, a3, a4⟩, ⟨-, b1, b1'⟩, ⟨-, b2, b2'⟩, ⟨-, b3, b3'⟩, -, q1, q2, -⟩ := id hI
  have eB : ∀ v, m_Tal_move_B73 (stoT C N l1 l2 l3 n l5 L O X G S) v (nI l) x2 = (if ¬ (nI l ^^^ (1 : Int32) < 0 ∨ 2 * n ≤ (nI l ^^^ (1 : Int32)).toNatClampNeg) then m_Tal_move_L88 (stoT C N l1 l2 l3 n l5 L O X G S) fu v x2 (G (nI l ^^^ (1 : Int32)).toNatClampNeg) 0 else none) := fun v => rfl
  have fin : ∀ wd wu MB NF, ∃ wd' wu' MB' NF', m_Tal_move_B73 (stoT C N l1 l2 l3 n l5 L O X G S) (talT m1 m2 wd wu MB NF) (nI l) x2 = some (talT m1 m2 wd' wu' MB' NF') := fun wd wu MB NF => by
    have ho := opp_lt hl
    rw [eB, nI_xor1 (by omega), if_pos (nI_in (by omega) (by omega)), nI_clamp (n := opp l) (by omega), q2 (opp l) ho]
    obtain ⟨wd', wu', NF', e⟩ := move88_w hI g1 g2 hm2 x2 N 0 fu (prv lit (opp l) N) wd wu MB NF (by omega) (by unfold fu; omega) (chain_w lit (opp l) N (Nat.le_refl N))
    exact ⟨wd', wu', MB, NF', e⟩
  have eF : ∀ f wd wu MB NF x3 j, m_Tal_move_L13 (stoT C N l1 l2 l3 n l5 L O X G S) (f + 1) (talT m1 m2 wd wu MB NF) (nI l) x2 x3 j = (if nI N ≤ j then m_Tal_move_B73 (stoT C N l1 l2 l3 n l5 L O X G S) (talT m1 m2 wd wu MB NF) (nI l) x2 else if x3 < 0 then m_Tal_move_B73 (stoT C N l1 l2 l3 n l5 L O X G S) (talT m1 m2 wd wu MB NF) (nI l) x2 else if ¬ (x3 < 0 ∨ l2 ≤ x3.toNatClampNeg) then (if ¬ (O x3.toNatClampNeg < 0 ∨ m1 ≤ (O x3.toNatClampNeg).toNatClampNeg) then (if ¬ (O x3.toNatClampNeg < 0 ∨ m1 ≤ (O x3.toNatClampNeg).toNatClampNeg) then ((m_Tal_judge (talT m1 m2 wd wu (upd MB (O x3.toNatClampNeg).toNatClampNeg (MB (O x3.toNatClampNeg).toNatClampNeg + x2)) NF) (O x3.toNatClampNeg)).bind fun r15 => if ¬ (x3 < 0 ∨ l3 ≤ x3.toNatClampNeg) then m_Tal_move_L13 (stoT C N l1 l2 l3 n l5 L O X G S) f r15 (nI l) x2 (X x3.toNatClampNeg) (j + 1) else none) else none) else none) else none) := fun f wd wu MB NF x3 j => rfl
  intro d
  induction d with
  | zero =>
    intro j f x3 wd wu MB NF e hf hx
    obtain ⟨f, rfl⟩ : ∃ g, f = g + 1 := ⟨f - 1, by omega⟩
    rw [eF, if_pos (nI_le (by omega) (by omega))]
    exact fin wd wu MB NF
  | succ d ih =>
    intro j f x3 wd wu MB NF e hf hx
    obtain ⟨f, rfl⟩ : ∃ g, f = g + 1 := ⟨f - 1, by omega⟩
    rw [eF, if_neg (nI_ge (by omega) (by omega))]
    rcases hx with hx | ⟨s, hs, rfl⟩
    · rw [if_pos hx]
      exact fin wd wu MB NF
    · obtain ⟨-, w2, w3, w4, w5⟩ := q1 s hs
      have gs : ¬ (nI (own s) < 0 ∨ m1 ≤ (nI (own s)).toNatClampNeg) := nI_in (by omega) (by omega)
      have gt := gs
      rw [nI_clamp (n := own s) (by omega)] at gt
      have g3 : ¬ (nI s < 0 ∨ l3 ≤ s) := by have := nI_in (c := s) (N := l3) (by omega) (by omega); rw [nI_clamp (n := s) (by omega)] at this; exact this
      obtain ⟨wd', wu', e1⟩ := judge_w w4 a1 g1 g2 wd wu (upd MB (own s) (MB (own s) + x2)) NF
      rw [if_neg (nI_pos (by omega)), if_pos (nI_in (by omega) (by omega)), nI_clamp (n := s) (by omega), w3, if_pos gs, nI_clamp (n := own s) (by omega), if_pos gt, e1, bind_s, if_pos g3, w5, nI_1]
      exact ih (j + 1) f _ wd' wu' _ NF (by omega) (by omega) (chain_w lit (lit s) s (by omega))
end
theorem move_w {n C P Q : Nat} {v : T_Sto} {t : T_Tal} (h : StoW n v C P) (hT : TalW t C Q) {l : Nat} (hl : l < 2 * n) (x2 : Int32) : ∃ t', m_Tal_move v t (nI l) x2 = some t' ∧ TalW t' C Q := by
  obtain ⟨N, l1, l2, l3, l5, L, O, X, G, S, lit, own, start, rfl, hI, rfl⟩ := h
  obtain ⟨m1, m2, wd, wu, MB, NF, rfl, ⟨b1, b2, b3⟩, ⟨d1, d2, d3⟩, rfl⟩ := hT
  have hn := hI.1
  have e : m_Tal_move (stoT C N l1 l2 l3 n l5 L O X G S) (talT m1 m2 wd wu MB NF) (nI l) x2 = (if ¬ (nI l < 0 ∨ 2 * n ≤ (nI l).toNatClampNeg) then m_Tal_move_L13 (stoT C N l1 l2 l3 n l5 L O X G S) fu (talT m1 m2 wd wu MB NF) (nI l) x2 (G (nI l).toNatClampNeg) 0 else none) := rfl
  obtain ⟨wd', wu', MB', NF', w⟩ := move13_w hI b1 d1 b3 d3 hl x2 N 0 fu (prv lit l N) wd wu MB NF (by omega) (by unfold fu; omega) (chain_w lit l N (Nat.le_refl N))
  refine ⟨_, ?_, m1, m2, wd', wu', MB', NF', rfl, ⟨b1, b2, b3⟩, ⟨d1, d2, d3⟩, rfl⟩
  rw [e, if_pos (nI_in hl (by omega)), nI_clamp (n := l) (by omega), hI.2.2.2.2.2.2.1 l hl]
  exact w
/-- makeRoom, then anything that judges clauses -/
theorem room_w {n C C0 P Q : Nat} {v : T_Sto} {t : T_Tal} (h : StoW n v C P) (hT : TalW t C0 Q) : ∃ t' c s Q', m_Tal_makeRoom v t = some (t', c, s) ∧ TalW t' C Q' ∧ c ≤ s ∧ s + Q ≤ Q' := by
  have hC := (stoW_le h).1
  obtain ⟨N, l1, l2, l3, l5, L, O, X, G, S, lit, own, start, rfl, hI, rfl⟩ := h
  obtain ⟨m1, m2, wd, wu, MB, NF, rfl, ⟨b1, b2, b3⟩, ⟨d1, d2, d3⟩, rfl⟩ := hT
  obtain ⟨m1', MB1, c1, s1, e1, e2, e3, e4, e5, e6, e7⟩ := room_ok (len := m1) (k := C) (most := 1500) MB b2 b3 hC (by omega)
  obtain ⟨m2', NF1, c2, s2, f1, f2, f3, f4, f5, f6, f7⟩ := room_ok (len := m2) (k := C) (most := 1500) NF d2 d3 hC (by omega)
  refine ⟨talT m1' m2' wd wu MB1 NF1, c1 + (c2 + 0), s1 + (s2 + 0), _, ?_, ⟨m1', m2', wd, wu, MB1, NF1, rfl, ⟨e2, by omega, e4⟩, ⟨f2, by omega, f4⟩, rfl⟩, by omega, by omega⟩
  unfold m_Tal_makeRoom
  rw [show m_CS_withRoomFor (m1, MB) (nI C) (1500 : Int32) = _ from e1, bind_s, show m_CS_withRoomFor (m2, NF) (nI C) (1500 : Int32) = _ from f1, bind_s]
  rfl
theorem restart6_w {n C N l1 l2 l3 l5 m1 m2 : Nat} {L O X G S : Nat → Int32} {lit own start : Nat → Nat} (hI : StoI n C N l1 l2 l3 l5 L O X G S lit own start) (g1 : C ≤ m1) (g2 : C ≤ m2) (h1 : m1 ≤ 1500) (h2 : m2 ≤ 1500) : ∀ (d j f : Nat) (wd wu : Nat → Int64) (MB NF : Nat → Int32), j + d = C → d < f → ∃ wd' wu' MB' NF', m_Tal_restart_L6 (stoT C N l1 l2 l3 n l5 L O X G S) f (talT m1 m2 wd wu MB NF) (nI j) = some (talT m1 m2 wd' wu' MB' NF', 0, 0) := by
  have hC := hI.1.1
  have eF : ∀ f wd wu MB NF j, m_Tal_restart_L6 (stoT C N l1 l2 l3 n l5 L O X G S) (f + 1) (talT m1 m2 wd wu MB NF) j = (if nI C ≤ j then some (talT m1 m2 wd wu MB NF, 0, 0) else if ¬ (j < 0 ∨ m1 ≤ j.toNatClampNeg) then ((m_Sto_sizeOf (stoT C N l1 l2 l3 n l5 L O X G S) j).bind fun r10 => if ¬ (j < 0 ∨ m2 ≤ j.toNatClampNeg) then ((m_Tal_judge (talT m1 m2 wd wu (upd MB j.toNatClampNeg 0) (upd NF j.toNatClampNeg r10)) j).bind fun r13 => m_Tal_restart_L6 (stoT C N l1 l2 l3 n l5 L O X G S) f r13 (j + 1)) else none) else none) := fun f wd wu MB NF j => rfl
  intro d
  induction d with
  | zero =>
    intro j f wd wu MB NF e hf
    obtain ⟨f, rfl⟩ : ∃ g, f = g + 1 := ⟨f - 1, by omega⟩
    rw [eF, if_pos (nI_le (by omega) (by omega))]
    exact ⟨wd, wu, MB, NF, rfl⟩
  | succ d ih =>
    intro j f wd wu MB NF e hf
    obtain ⟨f, rfl⟩ : ∃ g, f = g + 1 := ⟨f - 1, by omega⟩
    obtain ⟨wd', wu', e1⟩ := judge_w (c := j) (by omega) hC g1 g2 wd wu (upd MB (nI j).toNatClampNeg 0) (upd NF (nI j).toNatClampNeg (nI (start (j + 1) - start j)))
    rw [eF, if_neg (nI_ge (by omega) (by omega)), if_pos (nI_in (by omega) (by omega)), sizeOf_ok hI (by omega), bind_s, if_pos (nI_in (by omega) (by omega)), e1, bind_s, nI_1]
    exact ih (j + 1) f wd' wu' _ _ (by omega) (by omega)
theorem restart_w {n C C0 P Q : Nat} {v : T_Sto} {t : T_Tal} (h : StoW n v C P) (hT : TalW t C0 Q) : ∃ t' c s Q', m_Tal_restart v t = some (t', c, s) ∧ TalW t' C Q' ∧ c ≤ s ∧ s + Q ≤ Q' := by
  obtain ⟨t1, c, s, Q', e1, e2, e3, e4⟩ := room_w h hT
  obtain ⟨N, l1, l2, l3, l5, L, O, X, G, S, lit, own, start, rfl, hI, rfl⟩ := h
  obtain ⟨m1, m2, wd, wu, MB, NF, rfl, ⟨b1, b2, b3⟩, ⟨d1, d2, d3⟩, rfl⟩ := e2
  have hC := hI.1.1
  obtain ⟨wd', wu', MB', NF', w⟩ := restart6_w hI b1 d1 b3 d3 C 0 fu wd wu MB NF (by omega) (by unfold fu; omega)
  refine ⟨_, c, s, _, ?_, ⟨m1, m2, wd', wu', MB', NF', rfl, ⟨b1, b2, b3⟩, ⟨d1, d2, d3⟩, rfl⟩, e3, e4⟩
  unfold m_Tal_restart
  rw [e1, bind_s, show m_Tal_restart_L6 (stoT C N l1 l2 l3 n l5 L O X G S) fu (talT m1 m2 wd wu MB NF) 0 = _ from w]
  rfl
theorem dead_w {n C C0 P Q : Nat} {v : T_Sto} {t : T_Tal} (h : StoW n v C P) (hT : TalW t C0 Q) : ∃ t' c s Q', m_Tal_enterDead v t = some (t', c, s) ∧ TalW t' C Q' ∧ c ≤ s ∧ s + Q ≤ Q' := by
  obtain ⟨t1, c, s, Q', e1, e2, e3, e4⟩ := room_w h hT
  obtain ⟨N, l1, l2, l3, l5, L, O, X, G, S, lit, own, start, rfl, hI, rfl⟩ := h
  obtain ⟨m1, m2, wd, wu, MB, NF, rfl, ⟨b1, b2, b3⟩, ⟨d1, d2, d3⟩, rfl⟩ := e2
  have hC := hI.1.1
  have e : m_Tal_enterDead (stoT C N l1 l2 l3 n l5 L O X G S) t = ((m_Tal_makeRoom (stoT C N l1 l2 l3 n l5 L O X G S) t).bind fun r7 => addc r7.2.1 r7.2.2 (if nI C ≤ 0 then some (r7.1, 0, 0) else if ¬ (nI C - 1 < 0 ∨ r7.1.2.2.1.1 ≤ (nI C - 1).toNatClampNeg) then (if ¬ (nI C - 1 < 0 ∨ r7.1.2.2.2.1 ≤ (nI C - 1).toNatClampNeg) then ((m_Tal_judge (r7.1.1, r7.1.2.1, (r7.1.2.2.1.1, upd r7.1.2.2.1.2 (nI C - 1).toNatClampNeg 0), (r7.1.2.2.2.1, upd r7.1.2.2.2.2 (nI C - 1).toNatClampNeg 0)) (nI C - 1)).bind fun r13 => some (r13, 0, 0)) else none) else none)) := rfl
  rw [e, e1, bind_s]
  by_cases q : C = 0
  · refine ⟨_, c, s, _, ?_, ⟨m1, m2, wd, wu, MB, NF, rfl, ⟨b1, b2, b3⟩, ⟨d1, d2, d3⟩, rfl⟩, e3, e4⟩
    rw [if_pos (by rw [q]; decide)]
    rfl
  · have e5 : nI C - 1 = nI (C - 1) := pk_sub (b := 1) (by omega)
    obtain ⟨wd', wu', w⟩ := judge_w (c := C - 1) (by omega) hC b1 d1 wd wu (upd MB (nI (C - 1)).toNatClampNeg 0) (upd NF (nI (C - 1)).toNatClampNeg 0)
    refine ⟨_, c, s, _, ?_, ⟨m1, m2, wd', wu', upd MB (nI (C - 1)).toNatClampNeg 0, upd NF (nI (C - 1)).toNatClampNeg 0, rfl, ⟨b1, b2, b3⟩, ⟨d1, d2, d3⟩, rfl⟩, e3, e4⟩
    rw [if_neg (nI_nle (by omega) (by omega)), e5, if_pos (by exact nI_in (c := C - 1) (N := m1) (by omega) (by omega)), if_pos (by exact nI_in (c := C - 1) (N := m2) (by omega) (by omega)), show m_Tal_judge ((24, wd), (24, wu), (m1, upd MB (nI (C - 1)).toNatClampNeg 0), (m2, upd NF (nI (C - 1)).toNatClampNeg 0)) (nI (C - 1)) = _ from w, bind_s]
    rfl
/-- put(): any literal, any cause -/
theorem neg_shr {x : Int32} (h : x < 0) : x >>> ((1 : Int32) &&& 31) < 0 := by
  rw [Int32.lt_iff_toInt_lt] at h ⊢
  rw [pk_shr x ((1 : Int32) &&& 31) 1 (by decide), Int.shiftRight_eq_div_pow]
  rw [show (0 : Int32).toInt = 0 from rfl] at h ⊢
  omega
theorem put_w {n C P Q : Nat} {v : T_Sto} {t : T_Tal} {tr : T_Tra} (h : StoW n v C P) (hT : TalW t C Q) (hR : TraW n tr) (x : Int32) {y : Int32} (hy : y < 0 ∨ ∃ c, c ≤ 2000 ∧ y = nI c) : ∃ t' tr', m_Tra_put v t tr x y = some (t', tr') ∧ TalW t' C Q ∧ TraW n tr' := by
  obtain ⟨len, lv, TL, ON, LV, CA, rfl, ⟨z1, z2, z3⟩, r1, r2⟩ := id hR
  have e : m_Tra_put v t (nI len, lv, (n, TL), (n, ON), (n, LV), (n, CA)) x y = (if x >>> ((1 : Int32) &&& 31) < 0 then some (t, (nI len, lv, (n, TL), (n, ON), (n, LV), (n, CA))) else if nI n ≤ x >>> ((1 : Int32) &&& 31) then some (t, (nI len, lv, (n, TL), (n, ON), (n, LV), (n, CA))) else if nI len < nI n then (if ¬ (nI len < 0 ∨ n ≤ (nI len).toNatClampNeg) then (if ¬ (x >>> ((1 : Int32) &&& 31) < 0 ∨ n ≤ (x >>> ((1 : Int32) &&& 31)).toNatClampNeg) then (if ¬ (x >>> ((1 : Int32) &&& 31) < 0 ∨ n ≤ (x >>> ((1 : Int32) &&& 31)).toNatClampNeg) then (if ¬ (x >>> ((1 : Int32) &&& 31) < 0 ∨ n ≤ (x >>> ((1 : Int32) &&& 31)).toNatClampNeg) then ((m_Tal_move v t x 1).bind fun r7 => some (r7, (nI len + 1, lv, (n, upd TL (nI len).toNatClampNeg x), (n, upd ON (x >>> ((1 : Int32) &&& 31)).toNatClampNeg x), (n, upd LV (x >>> ((1 : Int32) &&& 31)).toNatClampNeg lv), (n, upd CA (x >>> ((1 : Int32) &&& 31)).toNatClampNeg y)))) else none) else none) else none) else none) else some (t, (nI len, lv, (n, TL), (n, ON), (n, LV), (n, CA)))) := rfl
  rw [e]
  by_cases q : x < 0
  · rw [if_pos (neg_shr q)]
    exact ⟨_, _, rfl, hT, hR⟩
  · obtain ⟨l, hl, rfl⟩ := nI_of q
    rw [shr1 hl, if_neg (nI_pos (by omega))]
    by_cases q2 : n ≤ l / 2
    · rw [if_pos (nI_le q2 (by omega))]
      exact ⟨_, _, rfl, hT, hR⟩
    · rw [if_neg (nI_ge (by omega) (by omega))]
      by_cases q3 : len < n
      · obtain ⟨t', w1, w2⟩ := move_w h hT (l := l) (by omega) 1
        have g : ¬ (nI (l / 2) < 0 ∨ n ≤ (nI (l / 2)).toNatClampNeg) := nI_in (by omega) (by omega)
        rw [if_pos (nI_lt q3 (by omega)), if_pos (nI_in q3 (by omega)), if_pos g, if_pos g, if_pos g, w1, bind_s, nI_1, nI_clamp (n := len) (by omega), nI_clamp (n := l / 2) (by omega)]
        refine ⟨_, _, rfl, w2, len + 1, lv, _, _, _, _, rfl, ⟨z1, z2, by omega⟩, fun i hi => ?_, fun u hu => ?_⟩
        · by_cases w : i = len
          · rw [w, pk_us]
            exact ⟨l, by omega, rfl⟩
          · rw [pk_un w]
            exact r1 i (by omega)
        · by_cases w : u = l / 2
          · rw [w, pk_us]
            exact hy
          · rw [pk_un w]
            exact r2 u hu
      · rw [if_neg (nI_nlt (by omega) (by omega))]
        exact ⟨_, _, rfl, hT, hR⟩
theorem cut_w {n C P Q : Nat} {v : T_Sto} (h : StoW n v C P) (x : Int32) {lv : Int32} {TL LV CA : Nat → Int32} (z1 : 1 ≤ n) (z2 : n ≤ 300) (r2 : ∀ t, t < n → CA t < 0 ∨ ∃ c, c ≤ 2000 ∧ CA t = nI c) : ∀ (len f : Nat) (t : T_Tal) (ON : Nat → Int32), len ≤ n → len < f → (∀ i, i < len → ∃ l, l < 2 * n ∧ TL i = nI l) → TalW t C Q → ∃ t' tr', m_Tra_cutAbove_L7 v f t (nI len, lv, (n, TL), (n, ON), (n, LV), (n, CA)) x (nI len + (-1)) = some (t', tr') ∧ TalW t' C Q ∧ TraW n tr' := by
  have eF : ∀ f t len ON j, m_Tra_cutAbove_L7 v (f + 1) t (nI len, lv, (n, TL), (n, ON), (n, LV), (n, CA)) x j = (if j < 0 then some (t, (nI len, x, (n, TL), (n, ON), (n, LV), (n, CA))) else if ¬ (j < 0 ∨ n ≤ j.toNatClampNeg) then (if ¬ (TL j.toNatClampNeg >>> ((1 : Int32) &&& 31) < 0 ∨ n ≤ (TL j.toNatClampNeg >>> ((1 : Int32) &&& 31)).toNatClampNeg) then (if LV (TL j.toNatClampNeg >>> ((1 : Int32) &&& 31)).toNatClampNeg ≤ x then some (t, (nI len, x, (n, TL), (n, ON), (n, LV), (n, CA))) else if ¬ (j < 0 ∨ n ≤ j.toNatClampNeg) then (if ¬ (TL j.toNatClampNeg >>> ((1 : Int32) &&& 31) < 0 ∨ n ≤ (TL j.toNatClampNeg >>> ((1 : Int32) &&& 31)).toNatClampNeg) then (if ¬ (j < 0 ∨ n ≤ j.toNatClampNeg) then ((m_Tal_move v t (TL j.toNatClampNeg) (-1)).bind fun r8 => m_Tra_cutAbove_L7 v f r8 (j, lv, (n, TL), (n, upd ON (TL j.toNatClampNeg >>> ((1 : Int32) &&& 31)).toNatClampNeg (-1)), (n, LV), (n, CA)) x (j + (-1))) else none) else none) else none) else none) else none) := fun f t len ON j => rfl
  intro len
  induction len with
  | zero =>
    intro f t ON hn hf r1 hT
    obtain ⟨f, rfl⟩ : ∃ g, f = g + 1 := ⟨f - 1, by omega⟩
    rw [eF, if_pos (by decide)]
    exact ⟨_, _, rfl, hT, 0, x, TL, ON, LV, CA, rfl, ⟨z1, z2, by omega⟩, r1, r2⟩
  | succ len ih =>
    intro f t ON hn hf r1 hT
    obtain ⟨f, rfl⟩ : ∃ g, f = g + 1 := ⟨f - 1, by omega⟩
    obtain ⟨l, hl, el⟩ := r1 len (by omega)
    have g1 : ¬ (nI len < 0 ∨ n ≤ (nI len).toNatClampNeg) := nI_in (by omega) (by omega)
    have g1' := g1
    rw [nI_clamp (n := len) (by omega)] at g1'
    have g2 : ¬ (nI (l / 2) < 0 ∨ n ≤ (nI (l / 2)).toNatClampNeg) := nI_in (by omega) (by omega)
    have g2' := g2
    rw [nI_clamp (n := l / 2) (by omega)] at g2'
    rw [eF, pk_m1, if_neg (nI_pos (by omega)), if_pos g1, nI_clamp (n := len) (by omega), el, shr1 (by omega), if_pos g2, nI_clamp (n := l / 2) (by omega)]
    by_cases q : LV (l / 2) ≤ x
    · rw [if_pos q]
      exact ⟨_, _, rfl, hT, len + 1, x, TL, ON, LV, CA, rfl, ⟨z1, z2, hn⟩, r1, r2⟩
    · obtain ⟨t', w1, w2⟩ := move_w h hT hl (-1)
      rw [if_neg q, if_pos g1', if_pos g2', if_pos g1', w1, bind_s]
      exact ih f t' _ (by omega) (by omega) (fun i hi => r1 i (by omega)) w2
theorem cutAbove_w {n C P Q : Nat} {v : T_Sto} {t : T_Tal} {tr : T_Tra} (h : StoW n v C P) (hT : TalW t C Q) (hR : TraW n tr) (x : Int32) : ∃ t' tr', m_Tra_cutAbove v t tr x = some (t', tr') ∧ TalW t' C Q ∧ TraW n tr' := by
  obtain ⟨len, lv, TL, ON, LV, CA, rfl, ⟨z1, z2, z3⟩, r1, r2⟩ := hR
  have e : m_Tra_cutAbove v t (nI len, lv, (n, TL), (n, ON), (n, LV), (n, CA)) x = m_Tra_cutAbove_L7 v fu t (nI len, lv, (n, TL), (n, ON), (n, LV), (n, CA)) x (nI len - 1) := rfl
  rw [e, Int32.sub_eq_add_neg]
  exact cut_w h x z1 z2 r2 len fu t ON z3 (by unfold fu; omega) r1 hT
