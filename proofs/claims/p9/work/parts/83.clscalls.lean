/-! PURE, 32: the program's calls, in any state -/
theorem sea_more {n C C' R : Nat} {se : T_Sea} (h : SeaW n se C R) (hC : C ≤ C') : SeaW n se C' R := by
  obtain ⟨rc, us, mk, co, cc, rl, RN, lf, rfl, u1, u2, u3, u4, u5⟩ := h
  exact ⟨rc, us, mk, co, cc, rl, RN, lf, rfl, by omega, u2, u3, fun j hj => by
    obtain ⟨c, a, b⟩ := u4 j hj
    exact ⟨c, by omega, b⟩, u5⟩
theorem tal_0 {t : T_Tal} {C Q : Nat} (h : TalW t C Q) : TalW t 0 Q := by
  obtain ⟨m1, m2, wd, wu, MB, NF, e, ⟨a1, a2, a3⟩, ⟨b1, b2, b3⟩, c⟩ := h
  exact ⟨m1, m2, wd, wu, MB, NF, e, ⟨by omega, a2, a3⟩, ⟨by omega, b2, b3⟩, c⟩
/-- the program between calls: n things, assumptions asl 0 .. k-1; T: what its arrays have cost at most -/
def ClsI (n k : Nat) (asl : Nat → Nat) (T : Nat) (cs : T_CS) (pla : T_Pla) (ass : T_Ass) (sto : T_Sto) (tal : T_Tal) (tra : T_Tra) (se : T_Sea) : Prop :=
  ∃ hand st gp gy A C P Q R, cs = (nI n, hand, st) ∧ pla = ((n, gp), (n, gy)) ∧ ass = assT k A ∧ AssI n k A asl ∧ StoW n sto C P ∧ TalW tal 0 Q ∧ (st = 3 → TalW tal C Q) ∧ TraW n tra ∧ SeaW n se C R ∧ T = P + Q + R
theorem cls_le {n k T : Nat} {asl : Nat → Nat} {cs : T_CS} {pla : T_Pla} {ass : T_Ass} {sto : T_Sto} {tal : T_Tal} {tra : T_Tra} {se : T_Sea} (h : ClsI n k asl T cs pla ass sto tal tra se) : T ≤ 198000 := by
  obtain ⟨hand, st, gp, gy, A, C, P, Q, R, -, -, -, -, hS, hT, -, -, hE, rfl⟩ := h
  obtain ⟨-, -, -, a⟩ := stoW_le hS
  obtain ⟨m1, m2, wd, wu, MB, NF, -, ⟨-, -, b1⟩, ⟨-, -, b2⟩, rfl⟩ := hT
  obtain ⟨rc, us, mk, co, cc, rl, RN, lf, -, -, ⟨-, b3, -⟩, -, -, rfl⟩ := hE
  have c1 := pot_le b1
  have c2 := pot_le b2
  have c3 := pot_le b3
  omega
theorem hr_w {n C P : Nat} {v : T_Sto} (h : StoW n v C P) (a b : Int32) : ∃ r, m_Sto_hasRoom v a b = some r := by
  obtain ⟨N, l1, l2, l3, l5, L, O, X, G, S, lit, own, start, rfl, -⟩ := h
  have e : m_Sto_hasRoom (stoT C N l1 l2 l3 n l5 L O X G S) a b = (if (1500 : Int32) < nI C + a then some 0 else if (20000 : Int32) < nI N + b then some 0 else some 1) := rfl
  rw [e]
  by_cases q : (1500 : Int32) < nI C + a
  · rw [if_pos q]; exact ⟨_, rfl⟩
  · rw [if_neg q]
    by_cases q2 : (20000 : Int32) < nI N + b
    · rw [if_pos q2]; exact ⟨_, rfl⟩
    · rw [if_neg q2]; exact ⟨_, rfl⟩
section
variable {n k T : Nat} {asl : Nat → Nat} {cs : T_CS} {pla : T_Pla} {ass : T_Ass} {sto : T_Sto} {tal : T_Tal} {tra : T_Tra} {se : T_Sea}
theorem K_clause (h : ClsI n k asl T cs pla ass sto tal tra se) : ∃ cs' sto' r c s T', m_CS_clause cs sto = some ((cs', sto', r), c, s) ∧ ClsI n k asl T' cs' pla ass sto' tal tra se ∧ c ≤ s ∧ s + T ≤ T' := by
  obtain ⟨hand, st, gp, gy, A, C, P, Q, R, rfl, e2, e3, hA, hS, hT, hT3, hR, hE, rfl⟩ := id h
  obtain ⟨r, w⟩ := hr_w hS 1 0
  unfold m_CS_clause
  rw [w, bind_s]
  by_cases q : r = 0
  · rw [if_pos q]
    exact ⟨_, _, _, 0, 0, _, rfl, h, Nat.le_refl 0, by omega⟩
  · obtain ⟨v', r', c, s, C', P', a1, a2, a3, a4, a5⟩ := open_w hS
    rw [if_neg q, a1, bind_s]
    exact ⟨_, _, _, c + 0, s + 0, P' + Q + R, rfl, ⟨r', 1, gp, gy, A, C', P', Q, R, rfl, e2, e3, hA, a2, hT, fun y => absurd y (by decide), hR, sea_more hE a3, rfl⟩, by omega, by omega⟩
theorem sthold_w {C P : Nat} {v : T_Sto} (h : StoW n v C P) {c : Nat} (hc : c ≤ 2000) (x : Int32) : ∃ r, m_Sto_holds v (nI c) x = some r := by
  obtain ⟨a, b, e1, e2, e3, e4, e5⟩ := slots_w h hc
  have eF : ∀ f j, m_Sto_holds_L13 v (f + 1) x (nI b) j = (if nI b ≤ j then some 0 else if ¬ (j < 0 ∨ v.2.2.1.1 ≤ j.toNatClampNeg) then (if v.2.2.1.2 j.toNatClampNeg = x then some 1 else m_Sto_holds_L13 v f x (nI b) (j + 1)) else none) := fun f j => rfl
  have L : ∀ (d j f : Nat), j + d = b → d < f → ∃ r, m_Sto_holds_L13 v f x (nI b) (nI j) = some r := by
    intro d
    induction d with
    | zero =>
      intro j f e hf
      obtain ⟨f, rfl⟩ : ∃ g, f = g + 1 := ⟨f - 1, by omega⟩
      rw [eF, if_pos (nI_le (by omega) (by omega))]
      exact ⟨_, rfl⟩
    | succ d ih =>
      intro j f e hf
      obtain ⟨f, rfl⟩ : ∃ g, f = g + 1 := ⟨f - 1, by omega⟩
      obtain ⟨h1, h2, -⟩ := e5 j (by omega)
      rw [eF, if_neg (nI_ge (by omega) (by omega)), if_pos (nI_in h1 (by omega)), nI_1]
      by_cases q : v.2.2.1.2 (nI j).toNatClampNeg = x
      · rw [if_pos q]; exact ⟨_, rfl⟩
      · rw [if_neg q]
        exact ih (j + 1) f (by omega) (by omega)
  unfold m_Sto_holds
  rw [e1, bind_s, e2, bind_s]
  exact L (b - a) a fu (by omega) (by unfold fu; omega)
theorem K_literal (h : ClsI n k asl T cs pla ass sto tal tra se) (x1 x2 x3 : Int32) : ∃ cs' sto' r c s T', m_CS_literal cs sto x1 x2 x3 = some ((cs', sto', r), c, s) ∧ ClsI n k asl T' cs' pla ass sto' tal tra se ∧ c ≤ s ∧ s + T ≤ T' := by
  obtain ⟨hand, st, gp, gy, A, C, P, Q, R, rfl, e2, e3, hA, hS, hT, hT3, hR, hE, rfl⟩ := id h
  obtain ⟨hC, n1, hn, -⟩ := stoW_le hS
  have same : ∀ y : Option ((T_CS × T_Sto × Int32) × Nat × Nat), y = some (((nI n, hand, st), sto, 0), 0, 0) → ∃ cs' sto' r c s T', y = some ((cs', sto', r), c, s) ∧ ClsI n k asl T' cs' pla ass sto' tal tra se ∧ c ≤ s ∧ s + (P + Q + R) ≤ T' := fun y e => ⟨_, _, _, 0, 0, _, e, h, Nat.le_refl 0, by omega⟩
  have hv : sto.1 = nI C := by
    obtain ⟨_, _, _, _, _, _, _, _, _, _, _, _, _, ev, -⟩ := hS
    rw [ev]
  have io : m_CS_isStillOpen (nI n, hand, st) sto x1 = some 0 ∨ (m_CS_isStillOpen (nI n, hand, st) sto x1 = some 1 ∧ ∃ c, c ≤ 2000 ∧ x1 = nI c) := by
    have e : m_CS_isStillOpen (nI n, hand, st) sto x1 = (if x1 < 0 then some 0 else if x1 = hand then (if x1 = sto.1 - 1 then some 1 else some 0) else some 0) := rfl
    rw [e]
    by_cases q1 : x1 < 0
    · rw [if_pos q1]; exact Or.inl rfl
    · rw [if_neg q1]
      by_cases q2 : x1 = hand
      · rw [if_pos q2]
        by_cases q3 : x1 = sto.1 - 1
        · rw [if_pos q3]
          refine Or.inr ⟨rfl, ?_⟩
          rw [hv] at q3
          by_cases w : C = 0
          · rw [w] at q3
            exact absurd (by rw [q3]; decide) q1
          · exact ⟨C - 1, by omega, by rw [q3]; exact pk_sub (b := 1) (by omega)⟩
        · rw [if_neg q3]; exact Or.inl rfl
      · rw [if_neg q2]; exact Or.inl rfl
  unfold m_CS_literal
  rcases io with io | ⟨io, c, hc, rfl⟩
  · rw [io, bind_s, if_pos rfl]
    exact same _ rfl
  · rw [io, bind_s, if_neg (by decide)]
    rcases isThing_ok hn hand st x2 with ⟨w, -⟩ | ⟨t, ht, rfl, w⟩
    · rw [w, bind_s, if_pos rfl]
      exact same _ rfl
    · obtain ⟨a, b, s1, s2, s3, s4, s5⟩ := slots_w hS hc
      have sz : m_Sto_sizeOf sto (nI c) = some (nI b - nI a) := by
        unfold m_Sto_sizeOf
        rw [s1, bind_s, s2, bind_s]
      rw [w, bind_s, if_neg (by decide), literalOf_ok, bind_s, sz, bind_s]
      by_cases q1 : (60 : Int32) ≤ nI b - nI a
      · rw [if_pos q1]
        exact same _ rfl
      · obtain ⟨r, w2⟩ := hr_w hS 0 1
        rw [if_neg q1, w2, bind_s]
        by_cases q2 : r = 0
        · rw [if_pos q2]
          exact same _ rfl
        · obtain ⟨r2, w3⟩ := sthold_w hS hc (nI (2 * t + bv x3))
          rw [if_neg q2, w3, bind_s]
          by_cases q3 : r2 = 0
          · obtain ⟨v', c', s', P', a1, a2, a3, a4⟩ := append_w hS (nI (2 * t + bv x3))
            rw [if_pos q3, a1, bind_s]
            exact ⟨_, _, _, c' + 0, s' + 0, P' + Q + R, rfl, ⟨hand, 1, gp, gy, A, C, P', Q, R, rfl, e2, e3, hA, a2, hT, fun y => absurd y (by decide), hR, hE, rfl⟩, by omega, by omega⟩
          · rw [if_neg q3]
            exact same _ rfl
theorem taken_w (hn : n ≤ 300) (gp gy : Nat → Int32) (x y : Int32) : ∀ (d i f : Nat), i + d = n → d < f → ∃ r, m_Pla_isTaken_L2 ((n, gp), (n, gy)) f x y (nI i) = some r := by
  have eF : ∀ f j, m_Pla_isTaken_L2 ((n, gp), (n, gy)) (f + 1) x y j = (if nI n ≤ j then some 0 else if ¬ (j < 0 ∨ n ≤ j.toNatClampNeg) then (if gp j.toNatClampNeg = x then (if ¬ (j < 0 ∨ n ≤ j.toNatClampNeg) then (if gy j.toNatClampNeg = y then some 1 else m_Pla_isTaken_L2 ((n, gp), (n, gy)) f x y (j + 1)) else none) else m_Pla_isTaken_L2 ((n, gp), (n, gy)) f x y (j + 1)) else none) := fun f j => rfl
  intro d
  induction d with
  | zero =>
    intro i f e hf
    obtain ⟨f, rfl⟩ : ∃ g, f = g + 1 := ⟨f - 1, by omega⟩
    rw [eF, if_pos (nI_le (by omega) (by omega))]
    exact ⟨_, rfl⟩
  | succ d ih =>
    intro i f e hf
    obtain ⟨f, rfl⟩ : ∃ g, f = g + 1 := ⟨f - 1, by omega⟩
    have gi : ¬ (nI i < 0 ∨ n ≤ (nI i).toNatClampNeg) := nI_in (by omega) (by omega)
    rw [eF, if_neg (nI_ge (by omega) (by omega)), if_pos gi, nI_1]
    by_cases q : gp (nI i).toNatClampNeg = x
    · rw [if_pos q, if_pos gi]
      by_cases q2 : gy (nI i).toNatClampNeg = y
      · rw [if_pos q2]; exact ⟨_, rfl⟩
      · rw [if_neg q2]
        exact ih (i + 1) f (by omega) (by omega)
    · rw [if_neg q]
      exact ih (i + 1) f (by omega) (by omega)
theorem countAt_w (hn : n ≤ 300) (gp gy : Nat → Int32) (x : Int32) : ∀ (d i f : Nat) (y : Int32), i + d = n → d < f → ∃ r, m_Pla_countAt_L4 ((n, gp), (n, gy)) f x y (nI i) = some r := by
  have eF : ∀ f y j, m_Pla_countAt_L4 ((n, gp), (n, gy)) (f + 1) x y j = (if nI n ≤ j then some y else if ¬ (j < 0 ∨ n ≤ j.toNatClampNeg) then (if gp j.toNatClampNeg = x then m_Pla_countAt_L4 ((n, gp), (n, gy)) f x (y + 1) (j + 1) else m_Pla_countAt_L4 ((n, gp), (n, gy)) f x y (j + 1)) else none) := fun f y j => rfl
  intro d
  induction d with
  | zero =>
    intro i f y e hf
    obtain ⟨f, rfl⟩ : ∃ g, f = g + 1 := ⟨f - 1, by omega⟩
    rw [eF, if_pos (nI_le (by omega) (by omega))]
    exact ⟨_, rfl⟩
  | succ d ih =>
    intro i f y e hf
    obtain ⟨f, rfl⟩ : ∃ g, f = g + 1 := ⟨f - 1, by omega⟩
    rw [eF, if_neg (nI_ge (by omega) (by omega)), if_pos (nI_in (by omega) (by omega)), nI_1]
    by_cases q : gp (nI i).toNatClampNeg = x
    · rw [if_pos q]
      exact ih (i + 1) f _ (by omega) (by omega)
    · rw [if_neg q]
      exact ih (i + 1) f y (by omega) (by omega)
theorem kern80_w (hn : n ≤ 300) (hand st : Int32) (gp gy : Nat → Int32) {t : Nat} (ht : t < n) (x y : Int32) : ∀ (d i f C P : Nat) (v : T_Sto), i + d = n → d < f → StoW n v C P → ∃ gp' gy' v' c s C' P', m_CS_kernel_L80 f (nI n, hand, st) ((n, gp), (n, gy)) v (nI t) x y (nI i) = some (((nI n, hand, 1), ((n, gp'), (n, gy')), v', 1), c, s) ∧ StoW n v' C' P' ∧ C ≤ C' ∧ c ≤ s ∧ s + P ≤ P' := by
  have eF : ∀ f v j, m_CS_kernel_L80 (f + 1) (nI n, hand, st) ((n, gp), (n, gy)) v (nI t) x y j = (if nI n ≤ j then ((m_Pla_tell ((n, gp), (n, gy)) (nI t) x y).bind fun r36 => some (((nI n, hand, 1), r36, v, 1), 0, 0)) else (m_Pla_isAt ((n, gp), (n, gy)) j x).bind fun r38 => if r38 = 0 then m_CS_kernel_L80 f (nI n, hand, st) ((n, gp), (n, gy)) v (nI t) x y (j + 1) else (m_Sto_open v).bind fun r40 => addc r40.2.1 r40.2.2 ((m_CS_literalOf j 0).bind fun r43 => (m_Sto_append r40.1.1 r43).bind fun r45 => addc r45.2.1 r45.2.2 ((m_CS_literalOf (nI t) 0).bind fun r50 => (m_Sto_append r45.1 r50).bind fun r52 => addc r52.2.1 r52.2.2 (m_CS_kernel_L80 f (nI n, hand, st) ((n, gp), (n, gy)) r52.1 (nI t) x y (j + 1))))) := fun f v j => rfl
  intro d
  induction d with
  | zero =>
    intro i f C P v e hf h
    obtain ⟨f, rfl⟩ : ∃ g, f = g + 1 := ⟨f - 1, by omega⟩
    have gt : ¬ (nI t < 0 ∨ n ≤ (nI t).toNatClampNeg) := nI_in ht (by omega)
    have et : m_Pla_tell ((n, gp), (n, gy)) (nI t) x y = (if ¬ (nI t < 0 ∨ n ≤ (nI t).toNatClampNeg) then (if ¬ (nI t < 0 ∨ n ≤ (nI t).toNatClampNeg) then some ((n, upd gp (nI t).toNatClampNeg x), (n, upd gy (nI t).toNatClampNeg y)) else none) else none) := rfl
    rw [eF, if_pos (nI_le (by omega) (by omega)), et, if_pos gt, if_pos gt, bind_s]
    exact ⟨_, _, v, 0, 0, C, P, rfl, h, Nat.le_refl C, Nat.le_refl 0, by omega⟩
  | succ d ih =>
    intro i f C P v e hf h
    obtain ⟨f, rfl⟩ : ∃ g, f = g + 1 := ⟨f - 1, by omega⟩
    have ea : m_Pla_isAt ((n, gp), (n, gy)) (nI i) x = (if ¬ (nI i < 0 ∨ n ≤ (nI i).toNatClampNeg) then (if gp (nI i).toNatClampNeg = x then some 1 else some 0) else none) := rfl
    rw [eF, if_neg (nI_ge (by omega) (by omega)), ea, if_pos (nI_in (by omega) (by omega)), nI_1]
    by_cases q : gp (nI i).toNatClampNeg = x
    · obtain ⟨v1, r1, c1, s1, C1, P1, a1, a2, a3, a4, a5⟩ := open_w h
      obtain ⟨v2, c2, s2, P2, b1, b2, b3, b4⟩ := append_w a2 (nI (2 * i + bv 0))
      obtain ⟨v3, c3, s3, P3, d1, d2, d3, d4⟩ := append_w b2 (nI (2 * t + bv 0))
      obtain ⟨gp', gy', v', c, s, C', P', w1, w2, w3, w4, w5⟩ := ih (i + 1) f C1 P3 v3 (by omega) (by omega) d2
      rw [if_pos q, bind_s, if_neg (by decide), a1, bind_s, literalOf_ok, bind_s, b1, bind_s, literalOf_ok, bind_s, d1, bind_s, w1]
      exact ⟨gp', gy', v', c1 + (c2 + (c3 + c)), s1 + (s2 + (s3 + s)), C', P', rfl, w2, by omega, by omega, by omega⟩
    · rw [if_neg q, bind_s, if_pos rfl]
      exact ih (i + 1) f C P v (by omega) (by omega) h
theorem K_kernel (h : ClsI n k asl T cs pla ass sto tal tra se) (x1 x2 x3 : Int32) : ∃ cs' pla' sto' r c s T', m_CS_kernel cs pla sto x1 x2 x3 = some ((cs', pla', sto', r), c, s) ∧ ClsI n k asl T' cs' pla' ass sto' tal tra se ∧ c ≤ s ∧ s + T ≤ T' := by
  obtain ⟨hand, st, gp, gy, A, C, P, Q, R, rfl, rfl, e3, hA, hS, hT, hT3, hR, hE, rfl⟩ := id h
  obtain ⟨hC, n1, hn, -⟩ := stoW_le hS
  have same : ∀ y : Option ((T_CS × T_Pla × T_Sto × Int32) × Nat × Nat), y = some (((nI n, hand, st), ((n, gp), (n, gy)), sto, 0), 0, 0) → ∃ cs' pla' sto' r c s T', y = some ((cs', pla', sto', r), c, s) ∧ ClsI n k asl T' cs' pla' ass sto' tal tra se ∧ c ≤ s ∧ s + (P + Q + R) ≤ T' := fun y e => ⟨_, _, _, _, 0, 0, _, e, h, Nat.le_refl 0, by omega⟩
  have co : ∀ y : Int32, ∃ r, m_CS_isCode y = some r := fun y => by
    unfold m_CS_isCode
    by_cases q : y < 0
    · rw [if_pos q]; exact ⟨_, rfl⟩
    · rw [if_neg q]
      by_cases q2 : (65535 : Int32) < y
      · rw [if_pos q2]; exact ⟨_, rfl⟩
      · rw [if_neg q2]; exact ⟨_, rfl⟩
  unfold m_CS_kernel
  rcases isThing_ok hn hand st x1 with ⟨w, -⟩ | ⟨t, ht, rfl, w⟩
  · rw [w, bind_s, if_pos rfl]
    exact same _ rfl
  · obtain ⟨r2, w2⟩ := co x2
    obtain ⟨r3, w3⟩ := co x3
    rw [w, bind_s, if_neg (by decide), w2, bind_s]
    by_cases q2 : r2 = 0
    · rw [if_pos q2]
      exact same _ rfl
    · rw [if_neg q2, w3, bind_s]
      by_cases q3 : r3 = 0
      · rw [if_pos q3]
        exact same _ rfl
      · have et : ∃ r, m_Pla_isTold ((n, gp), (n, gy)) (nI t) = some r := by
          have e : m_Pla_isTold ((n, gp), (n, gy)) (nI t) = (if ¬ (nI t < 0 ∨ n ≤ (nI t).toNatClampNeg) then (if gp (nI t).toNatClampNeg = -1 then some 0 else some 1) else none) := rfl
          rw [e, if_pos (nI_in ht (by omega))]
          by_cases q : gp (nI t).toNatClampNeg = -1
          · rw [if_pos q]; exact ⟨_, rfl⟩
          · rw [if_neg q]; exact ⟨_, rfl⟩
        obtain ⟨r4, w4⟩ := et
        rw [if_neg q3, w4, bind_s]
        by_cases q4 : r4 = 0
        · obtain ⟨r5, w5⟩ := taken_w hn gp gy x2 x3 n 0 fu (by omega) (by unfold fu; omega)
          rw [if_pos q4, show m_Pla_isTaken ((n, gp), (n, gy)) x2 x3 = _ from w5, bind_s]
          by_cases q5 : r5 = 0
          · obtain ⟨r6, w6⟩ := countAt_w hn gp gy x2 n 0 fu 0 (by omega) (by unfold fu; omega)
            obtain ⟨r7, w7⟩ := hr_w hS r6 ((2 : Int32) * r6)
            rw [if_pos q5, show m_Pla_countAt ((n, gp), (n, gy)) x2 = _ from w6, bind_s, w7, bind_s]
            by_cases q7 : r7 = 0
            · rw [if_pos q7]
              exact same _ rfl
            · obtain ⟨gp', gy', v', c, s, C', P', a1, a2, a3, a4, a5⟩ := kern80_w hn hand st gp gy ht x2 x3 n 0 fu C P sto (by omega) (by unfold fu; omega) hS
              rw [if_neg q7, show m_CS_kernel_L80 fu (nI n, hand, st) ((n, gp), (n, gy)) sto (nI t) x2 x3 0 = _ from a1]
              exact ⟨_, _, _, _, c, s, P' + Q + R, rfl, ⟨hand, 1, gp', gy', A, C', P', Q, R, rfl, rfl, e3, hA, a2, hT, fun y => absurd y (by decide), hR, sea_more hE a3, rfl⟩, a4, by omega⟩
          · rw [if_neg q5]
            exact same _ rfl
        · rw [if_neg q4]
          exact same _ rfl
theorem K_run (h : ClsI n k asl T cs pla ass sto tal tra se) (x : Int64) : ∃ cs' sto' tal' tra' se' r c s T', m_CS_run ass cs sto tal tra se x = some ((cs', sto', tal', tra', se', r), c, s) ∧ ClsI n k asl T' cs' pla ass sto' tal' tra' se' ∧ c ≤ s ∧ s + T ≤ T' := by
  obtain ⟨hand, st, gp, gy, A, C, P, Q, R, rfl, e2, rfl, hA, hS, hT, hT3, hR, hE, rfl⟩ := id h
  obtain ⟨hC, n1, hn, -⟩ := stoW_le hS
  obtain ⟨len, lv, TL, ON, LV, CA, rfl, ⟨z1, z2, z3⟩, z4, z5⟩ := id hR
  obtain ⟨rc, us, mk, co, cc, rl, RN, lf, rfl, u1, u2, u3, u4, rfl⟩ := id hE
  obtain ⟨g, f1, f2⟩ := fill_ok (-1) (n := n) (by omega) ON
  obtain ⟨t1, c1, s1, Q', a1, a2, a3, a4⟩ := restart_w hS hT
  obtain ⟨sto', tal', tra', se', o, c, s, C', T', w1, ⟨P2, Q2, R2, y1, y2, y3, y4, rfl⟩, w3, w4⟩ := adv_w hA (C := C) (T := P + Q' + pot rl 1500) (sto := sto) (tal := t1) (tra := trwT n 0 0 TL g LV CA) (se := seaT n rc 0 rl 0 lf mk co RN) ⟨P, Q', _, hS, a2, ⟨0, 0, TL, g, LV, CA, rfl, ⟨z1, z2, by omega⟩, fun i hi => absurd hi (by omega), z5⟩, ⟨rc, 0, mk, co, 0, rl, RN, lf, rfl, u1, u2, by omega, u4, rfl⟩, rfl⟩ x
  have e : m_CS_run (assT k A) (nI n, hand, st) sto tal (trwT n len lv TL ON LV CA) (seaT n rc cc rl us lf mk co RN) x = ((((m_Arr__fill (n, ON) (-1)).bind fun r7 => (m_Tal_restart sto tal).bind fun r9 => addc r9.2.1 r9.2.2 (some ((r9.1, ((0 : Int32), (0 : Int32), (n, TL), r7, (n, LV), (n, CA))), 0, 0))).bind fun r5 => addc r5.2.1 r5.2.2 (some ((r5.1.1, r5.1.2, (nI rc, (0 : Int64), nI n, (n, mk), (40, co), (0 : Int32), (rl, RN), lf)), 0, 0))).bind fun r14 => addc r14.2.1 r14.2.2 ((m_Sea_advance (assT k A) sto r14.1.1 r14.1.2.1 r14.1.2.2 x).bind fun r18 => addc r18.2.1 r18.2.2 (some (((nI n, hand, r18.1.2.2.2.2), r18.1.1, r18.1.2.1, r18.1.2.2.1, r18.1.2.2.2.1, r18.1.2.2.2.2), 0, 0)))) := rfl
  show ∃ cs' sto' tal' tra' se' r c s T', m_CS_run (assT k A) (nI n, hand, st) sto tal (trwT n len lv TL ON LV CA) (seaT n rc cc rl us lf mk co RN) x = some ((cs', sto', tal', tra', se', r), c, s) ∧ _
  rw [e, f1, bind_s, a1, bind_s]
  simp only [addc_some, bind_s]
  rw [show m_Sea_advance (assT k A) sto t1 ((0 : Int32), (0 : Int32), (n, TL), (n, g), (n, LV), (n, CA)) (nI rc, (0 : Int64), nI n, (n, mk), (40, co), (0 : Int32), (rl, RN), lf) x = _ from w1, bind_s]
  exact ⟨_, _, _, _, _, _, c1 + 0 + 0 + (c + 0), s1 + 0 + 0 + (s + 0), P2 + Q2 + R2, rfl, ⟨hand, o, gp, gy, A, C', P2, Q2, R2, rfl, e2, rfl, hA, y1, tal_0 y2, fun _ => y2, y3, y4, rfl⟩, by omega, by omega⟩
theorem K_goOn (h : ClsI n k asl T cs pla ass sto tal tra se) (x : Int64) : ∃ cs' sto' tal' tra' se' r c s T', m_CS_goOn ass cs sto tal tra se x = some ((cs', sto', tal', tra', se', r), c, s) ∧ ClsI n k asl T' cs' pla ass sto' tal' tra' se' ∧ c ≤ s ∧ s + T ≤ T' := by
  obtain ⟨hand, st, gp, gy, A, C, P, Q, R, rfl, e2, rfl, hA, hS, hT, hT3, hR, hE, rfl⟩ := id h
  have e : m_CS_goOn (assT k A) (nI n, hand, st) sto tal tra se x = (if st = (3 : Int32) then ((m_Sea_advance (assT k A) sto tal tra se x).bind fun r10 => addc r10.2.1 r10.2.2 (if r10.1.2.2.2.2 = (3 : Int32) then some (((nI n, hand, r10.1.2.2.2.2), r10.1.1, r10.1.2.1, r10.1.2.2.1, r10.1.2.2.2.1, (0 : Int32)), 0, 0) else some (((nI n, hand, r10.1.2.2.2.2), r10.1.1, r10.1.2.1, r10.1.2.2.1, r10.1.2.2.2.1, (1 : Int32)), 0, 0))) else some (((nI n, hand, st), sto, tal, tra, se, (0 : Int32)), 0, 0)) := rfl
  rw [e]
  by_cases q : st = 3
  · obtain ⟨sto', tal', tra', se', o, c, s, C', T', w1, ⟨P2, Q2, R2, y1, y2, y3, y4, rfl⟩, w3, w4⟩ := adv_w hA (C := C) ⟨P, Q, R, hS, hT3 q, hR, hE, rfl⟩ x
    rw [if_pos q, w1, bind_s]
    by_cases q2 : o = (3 : Int32)
    · rw [if_pos (by exact q2)]
      exact ⟨_, _, _, _, _, _, c + 0, s + 0, P2 + Q2 + R2, rfl, ⟨hand, o, gp, gy, A, C', P2, Q2, R2, rfl, e2, rfl, hA, y1, tal_0 y2, fun _ => y2, y3, y4, rfl⟩, by omega, by omega⟩
    · rw [if_neg (by exact q2)]
      exact ⟨_, _, _, _, _, _, c + 0, s + 0, P2 + Q2 + R2, rfl, ⟨hand, o, gp, gy, A, C', P2, Q2, R2, rfl, e2, rfl, hA, y1, tal_0 y2, fun _ => y2, y3, y4, rfl⟩, by omega, by omega⟩
  · rw [if_neg q]
    exact ⟨_, _, _, _, _, _, 0, 0, _, rfl, h, Nat.le_refl 0, by omega⟩
theorem K_truth (h : ClsI n k asl T cs pla ass sto tal tra se) (x : Int32) : ∃ r, m_CS_truth cs tra x = some r := by
  obtain ⟨hand, st, gp, gy, A, C, P, Q, R, rfl, e2, e3, hA, hS, hT, hT3, hR, hE, rfl⟩ := id h
  obtain ⟨hC, n1, hn, -⟩ := stoW_le hS
  obtain ⟨len, lv, TL, ON, LV, CA, rfl, -⟩ := id hR
  unfold m_CS_truth
  by_cases q : st = 0
  · rw [if_pos (by exact q)]
    rcases isThing_ok hn hand st x with ⟨w, -⟩ | ⟨t, ht, rfl, w⟩
    · rw [w, bind_s, if_pos rfl]; exact ⟨_, rfl⟩
    · have hb : bv 1 = 1 := rfl
      obtain ⟨r, w2⟩ := holds_w (n := n) (len := len) (lv := lv) (TL := TL) (ON := ON) (LV := LV) (CA := CA) (l := 2 * t + bv 1) (by omega) hn
      rw [w, bind_s, if_neg (by decide), literalOf_ok, bind_s, w2, bind_s]
      by_cases q2 : r = 0
      · rw [if_pos q2]; exact ⟨_, rfl⟩
      · rw [if_neg q2]; exact ⟨_, rfl⟩
  · rw [if_neg (by exact q)]; exact ⟨_, rfl⟩
theorem block34_w (hn : n ≤ 300) (hand st : Int32) (len : Nat) (lv : Int32) (TL ON LV CA : Nat → Int32) : ∀ (d j f C P : Nat) (v : T_Sto), j + d = n → d < f → StoW n v C P → ∃ v' c s P', m_CS_block_L34 (trwT n len lv TL ON LV CA) f (nI n, hand, st) v (nI j) = some (((nI n, hand, 1), v', 1), c, s) ∧ StoW n v' C P' ∧ c ≤ s ∧ s + P ≤ P' := by
  have eF : ∀ f v j, m_CS_block_L34 (trwT n len lv TL ON LV CA) (f + 1) (nI n, hand, st) v j = (if nI n ≤ j then some (((nI n, hand, 1), v, 1), 0, 0) else (m_Tra_refusedLiteralOf (trwT n len lv TL ON LV CA) j).bind fun r13 => (m_Sto_append v r13).bind fun r15 => addc r15.2.1 r15.2.2 (m_CS_block_L34 (trwT n len lv TL ON LV CA) f (nI n, hand, st) r15.1 (j + 1))) := fun f v j => rfl
  intro d
  induction d with
  | zero =>
    intro j f C P v e hf h
    obtain ⟨f, rfl⟩ : ∃ g, f = g + 1 := ⟨f - 1, by omega⟩
    rw [eF, if_pos (nI_le (by omega) (by omega))]
    exact ⟨v, 0, 0, P, rfl, h, Nat.le_refl 0, by omega⟩
  | succ d ih =>
    intro j f C P v e hf h
    obtain ⟨f, rfl⟩ : ∃ g, f = g + 1 := ⟨f - 1, by omega⟩
    obtain ⟨v1, c1, s1, P1, a1, a2, a3, a4⟩ := append_w h (ON j ^^^ 1)
    obtain ⟨v', c, s, P', w1, w2, w3, w4⟩ := ih (j + 1) f C P1 v1 (by omega) (by omega) a2
    rw [eF, if_neg (nI_ge (by omega) (by omega)), refused_w (by omega) hn, bind_s, a1, bind_s, nI_1, w1]
    exact ⟨v', c1 + c, s1 + s, P', rfl, w2, by omega, by omega⟩
theorem K_block (h : ClsI n k asl T cs pla ass sto tal tra se) : ∃ cs' sto' r c s T', m_CS_block tra cs sto = some ((cs', sto', r), c, s) ∧ ClsI n k asl T' cs' pla ass sto' tal tra se ∧ c ≤ s ∧ s + T ≤ T' := by
  obtain ⟨hand, st, gp, gy, A, C, P, Q, R, rfl, e2, e3, hA, hS, hT, hT3, hR, hE, rfl⟩ := id h
  obtain ⟨hC, n1, hn, -⟩ := stoW_le hS
  obtain ⟨len, lv, TL, ON, LV, CA, rfl, z⟩ := id hR
  unfold m_CS_block
  by_cases q : st = 0
  · obtain ⟨r, w⟩ := hr_w hS 1 (nI n)
    rw [if_pos (by exact q), show m_Sto_hasRoom sto 1 ((nI n, hand, st) : T_CS).1 = some r from w, bind_s]
    by_cases q2 : r = 0
    · rw [if_pos q2]
      exact ⟨_, _, _, 0, 0, _, rfl, h, Nat.le_refl 0, by omega⟩
    · obtain ⟨v1, r1, c1, s1, C1, P1, a1, a2, a3, a4, a5⟩ := open_w hS
      obtain ⟨v', c, s, P', w1, w2, w3, w4⟩ := block34_w hn hand st len lv TL ON LV CA n 0 fu C1 P1 v1 (by omega) (by unfold fu; omega) a2
      rw [if_neg q2, a1, bind_s, show m_CS_block_L34 (trwT n len lv TL ON LV CA) fu (nI n, hand, st) v1 0 = _ from w1]
      exact ⟨_, _, _, c1 + c, s1 + s, P' + Q + R, rfl, ⟨hand, 1, gp, gy, A, C1, P', Q, R, rfl, e2, e3, hA, w2, hT, fun y => absurd y (by decide), ⟨len, lv, TL, ON, LV, CA, rfl, z⟩, sea_more hE a3, rfl⟩, by omega, by omega⟩
  · rw [if_neg (by exact q)]
    exact ⟨_, _, _, 0, 0, _, rfl, h, Nat.le_refl 0, by omega⟩
theorem K_assume (h : ClsI n k asl T cs pla ass sto tal tra se) (x1 x2 : Int32) : (∃ cs' ass', m_CS_assume cs ass x1 x2 = some (cs', ass', 0) ∧ ClsI n k asl T cs' pla ass' sto tal tra se ∧ ¬ ∃ t, mayAssume n k asl x1 t) ∨ ∃ t cs' ass', mayAssume n k asl x1 t ∧ m_CS_assume cs ass x1 x2 = some (cs', ass', 1) ∧ ClsI n (k + 1) (va_up asl k (2 * t + bv x2)) T cs' pla ass' sto tal tra se := by
  obtain ⟨hand, st, gp, gy, A, C, P, Q, R, rfl, e2, rfl, hA, hS, hT, hT3, hR, hE, rfl⟩ := id h
  rcases assume_ok hA hand st x1 x2 with ⟨w1, w2⟩ | ⟨t, w1, w2, w3⟩
  · exact Or.inl ⟨_, _, w1, h, w2⟩
  · exact Or.inr ⟨t, _, _, w1, w2, hand, 1, gp, gy, _, C, P, Q, R, rfl, e2, rfl, w3, hS, hT, fun y => absurd y (by decide), hR, hE, rfl⟩
theorem K_freely (h : ClsI n k asl T cs pla ass sto tal tra se) : ∃ cs' ass', m_CS_freely cs ass = some (cs', ass') ∧ ClsI n 0 (fun _ => 0) T cs' pla ass' sto tal tra se := by
  obtain ⟨hand, st, gp, gy, A, C, P, Q, R, rfl, e2, rfl, hA, hS, hT, hT3, hR, hE, rfl⟩ := id h
  exact ⟨(nI n, hand, 1), assT 0 A, rfl, hand, 1, gp, gy, A, C, P, Q, R, rfl, e2, rfl, ⟨by omega, hA.2.1, fun i hi => absurd hi (by omega)⟩, hS, hT, fun y => absurd y (by decide), hR, hE, rfl⟩
theorem K_core (h : ClsI n k asl T cs pla ass sto tal tra se) (x : Int32) : ∃ r, m_CS_core cs se x = some r := by
  obtain ⟨hand, st, gp, gy, A, C, P, Q, R, rfl, e2, e3, hA, hS, hT, hT3, hR, hE, rfl⟩ := id h
  obtain ⟨rc, us, mk, co, cc, rl, RN, lf, rfl, u1, u2, u3, u4, rfl⟩ := id hE
  have e : m_CS_core (nI n, hand, st) (seaT n rc cc rl us lf mk co RN) x = (if st = (2 : Int32) then ((if x < 0 then some (-1) else if nI cc ≤ x then some (-1) else if ¬ (x < 0 ∨ 40 ≤ x.toNatClampNeg) then some (co x.toNatClampNeg) else none).bind fun r3 => some r3) else some (-1)) := rfl
  rw [e]
  by_cases q : st = 2
  · rw [if_pos q]
    rcases pk_ix x (n := cc) (by omega) with w | w | ⟨j, hj, rfl⟩
    · rw [if_pos w]; exact ⟨_, rfl⟩
    · by_cases q1 : x < 0
      · rw [if_pos q1]; exact ⟨_, rfl⟩
      · rw [if_neg q1, if_pos w]; exact ⟨_, rfl⟩
    · rw [if_neg (nI_pos (by omega)), if_neg (nI_ge hj (by omega)), if_pos (nI_in (by omega) (by omega))]
      exact ⟨_, rfl⟩
  · rw [if_neg q]; exact ⟨_, rfl⟩
theorem num_w {C R : Nat} (hE : SeaW n se C R) (hC : C ≤ 1500) (x : Int32) : ∃ r, m_Sea_numberOfRow se x = some r ∧ (r < 0 ∨ ∃ c, c < C ∧ r = nI c) := by
  obtain ⟨rc, us, mk, co, cc, rl, RN, lf, rfl, u1, ⟨u2, u2', u2''⟩, u3, u4, rfl⟩ := hE
  have e : m_Sea_numberOfRow (seaT n rc cc rl us lf mk co RN) x = (if x < 0 then some (-1) else if nI rc ≤ x then some (-1) else if ¬ (x < 0 ∨ rl ≤ x.toNatClampNeg) then some (RN x.toNatClampNeg) else none) := rfl
  rw [e]
  rcases pk_ix x (n := rc) (by omega) with w | w | ⟨j, hj, rfl⟩
  · rw [if_pos w]; exact ⟨_, rfl, Or.inl (by decide)⟩
  · by_cases q1 : x < 0
    · rw [if_pos q1]; exact ⟨_, rfl, Or.inl (by decide)⟩
    · rw [if_neg q1, if_pos w]; exact ⟨_, rfl, Or.inl (by decide)⟩
  · rw [if_neg (nI_pos (by omega)), if_neg (nI_ge hj (by omega)), if_pos (nI_in (by omega) (by omega)), nI_clamp (n := j) (by omega)]
    exact ⟨_, rfl, Or.inr (u4 j hj)⟩
theorem K_row (h : ClsI n k asl T cs pla ass sto tal tra se) (x1 x2 : Int32) : ∃ r, m_CS_row cs sto se x1 x2 = some r := by
  obtain ⟨hand, st, gp, gy, A, C, P, Q, R, rfl, e2, e3, hA, hS, hT, hT3, hR, hE, rfl⟩ := id h
  obtain ⟨hC, n1, hn, -⟩ := stoW_le hS
  obtain ⟨r, w1, w2⟩ := num_w hE hC x1
  unfold m_CS_row
  rw [w1, bind_s]
  by_cases q : r < 0
  · rw [if_pos q]; exact ⟨_, rfl⟩
  · rcases w2 with w2 | ⟨c, hc, rfl⟩
    · exact absurd w2 q
    · rw [if_neg q]
      by_cases q2 : x2 < 0
      · rw [if_pos q2]; exact ⟨_, rfl⟩
      · obtain ⟨m, hm, rfl⟩ := nI_of q2
        obtain ⟨a, b, s1, s2, s3, s4, s5⟩ := slots_w hS (c := c) (by omega)
        have sz : m_Sto_sizeOf sto (nI c) = some (nI (b - a)) := by
          unfold m_Sto_sizeOf
          rw [s1, bind_s, s2, bind_s, pk_sub s3]
        rw [if_neg q2, sz, bind_s]
        by_cases q3 : nI m < nI (b - a)
        · have q4 := (nI_ltI hm (by omega)).mp q3
          obtain ⟨h1, h2, -⟩ := s5 (a + m) (by omega)
          rw [if_pos q3, s2, bind_s, nI_add, if_pos (nI_in h1 (by omega))]
          exact ⟨_, rfl⟩
        · rw [if_neg q3]; exact ⟨_, rfl⟩
theorem K_numberOf (h : ClsI n k asl T cs pla ass sto tal tra se) (x : Int32) : ∃ r, m_CS_numberOf cs se x = some r := by
  obtain ⟨hand, st, gp, gy, A, C, P, Q, R, rfl, e2, e3, hA, hS, hT, hT3, hR, hE, rfl⟩ := id h
  obtain ⟨hC, n1, hn, -⟩ := stoW_le hS
  obtain ⟨r, w1, w2⟩ := num_w hE hC x
  unfold m_CS_numberOf
  rw [w1, bind_s]
  exact ⟨_, rfl⟩
end
theorem K_fresh {n : Nat} (h0 : 1 ≤ n) (hn : n ≤ 300) {gs gp gy gt : Nat → Int32} (hs : ∀ j, j < 2 * n → gs j = -1) : ∃ T, ClsI n 0 (fun _ => 0) T (nI n, -1, 1) ((n, gp), (n, gy)) (0, (40, fun _ => 0)) (0, 0, (32, fun _ => 0), (32, fun _ => 0), (32, fun _ => 0), (2 * n, gs), (16, fun _ => 0)) ((24, fun _ => 0), (24, fun _ => 0), (16, fun _ => 0), (16, fun _ => 0)) (0, 0, (n, fun _ => 0), (n, gt), (n, fun _ => 0), (n, fun _ => 0)) (0, 0, nI n, (n, fun _ => 0), (40, fun _ => 0), 0, (16, fun _ => 0), 0) :=
  ⟨_, -1, 1, gp, gy, fun _ => 0, 0, _, _, _, rfl, rfl, rfl, ⟨by omega, hn, fun i hi => absurd hi (by omega)⟩, ⟨0, 32, 32, 32, 16, fun _ => 0, fun _ => 0, fun _ => 0, gs, fun _ => 0, fun _ => 0, fun _ => 0, fun _ => 0, rfl, ⟨⟨by omega, by omega, h0, hn⟩, ⟨by omega, by omega, by omega⟩, ⟨by omega, by omega, by omega⟩, ⟨by omega, by omega, by omega⟩, ⟨by omega, by omega, by omega⟩, fun s hs => absurd hs (by omega), fun l hl => hs l hl, fun c hc => absurd hc (by omega), rfl, fun c hc => absurd hc (by omega), fun s hs => absurd hs (by omega)⟩, rfl⟩, ⟨16, 16, fun _ => 0, fun _ => 0, fun _ => 0, fun _ => 0, rfl, ⟨by omega, by omega, by omega⟩, ⟨by omega, by omega, by omega⟩, rfl⟩, fun q => absurd q (by decide), ⟨0, 0, fun _ => 0, gt, fun _ => 0, fun _ => 0, rfl, ⟨h0, hn, by omega⟩, fun i hi => absurd hi (by omega), fun t _ => Or.inr ⟨0, by omega, rfl⟩⟩, ⟨0, 0, fun _ => 0, fun _ => 0, 0, 16, fun _ => 0, 0, rfl, by omega, ⟨by omega, by omega, by omega⟩, by omega, fun j hj => absurd hj (by omega), rfl⟩, rfl⟩
