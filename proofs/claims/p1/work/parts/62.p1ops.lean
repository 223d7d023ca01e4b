/-! PURE, 18: the other calls on fresh objects -/
abbrev sto0T (n : Nat) (gs : Nat → Int32) : T_Sto := stoT 0 0 32 32 32 n 16 (fun _ => 0) (fun _ => 0) (fun _ => 0) gs (fun _ => 0)
theorem clause0 {n : Nat} (h0 : 1 ≤ n) (hn : n ≤ 300) {gs : Nat → Int32} (hg : ∀ j, j < 2 * n → gs j = -1) : ∃ cs sto c s, m_CS_clause (nI n, -1, 1) (sto0T n gs) = some ((cs, sto, 0), c, s) ∧ c ≤ 9000 ∧ s ≤ 9000 := by
  obtain ⟨l5, S', c, s, e1, e2, e3, e4⟩ := open_ok (sto0 h0 hn hg) (by omega)
  have r := hasRoom_ok (n := n) (C := 0) (N := 0) (l1 := 32) (l2 := 32) (l3 := 32) (l5 := 16) (L := fun _ => 0) (O := fun _ => 0) (X := fun _ => 0) (G := gs) (S := fun _ => 0) 1 0 (by omega) (by omega) (by omega) (by omega)
  refine ⟨(nI n, nI 0, 1), stoT (0 + 1) 0 32 32 32 n l5 (fun _ => 0) (fun _ => 0) (fun _ => 0) gs S', c, s, ?_, ?_⟩
  · unfold m_CS_clause
    rw [show (m_Sto_hasRoom (sto0T n gs) (1 : Int32) (0 : Int32)) = some 1 from r, bind_s, if_neg (by decide), e1, bind_s]
    rfl
  · have b := e2.2.2.2.2.1.2.2
    have q : pot l5 1500 ≤ 4500 := by
      unfold pot
      by_cases e : l5 = 1500
      · rw [if_pos e]; omega
      · rw [if_neg e]; omega
    unfold PotS at e4
    omega
theorem mclause0 (n : Nat) : ∃ m, m_Mod_clause (mod0 n) = some (m, 0) := by
  have r : m_Mod_room (mod0 n) 1 0 = some 1 := by
    unfold m_Mod_room
    rw [if_neg (by exact (show ¬ (1500 : Int32) < 0 + 1 by decide)), if_pos (by exact (show ¬ ((0 : Int32) < 0 ∨ 1502 ≤ (0 : Int32).toNatClampNeg) by decide)), if_neg (by exact (show ¬ (20000 : Int32) < 0 + 0 by decide))]
  have b : ∃ m, m_Mod_begin (mod0 n) 1 = some m ∧ m.2.2.2.2.2.1 = 1 := by
    unfold m_Mod_begin
    rw [if_pos (by exact (show ¬ ((0 : Int32) < 0 ∨ 1501 ≤ (0 : Int32).toNatClampNeg) by decide)), if_pos (by exact (show ¬ ((0 : Int32) + 1 - 1 < 0 ∨ 1502 ≤ ((0 : Int32) + 1 - 1).toNatClampNeg) by decide)), if_pos (by exact (show ¬ ((0 : Int32) + 1 < 0 ∨ 1502 ≤ ((0 : Int32) + 1).toNatClampNeg) by decide))]
    exact ⟨_, rfl, by exact (show (0 : Int32) + 1 = 1 by decide)⟩
  obtain ⟨m, b1, b2⟩ := b
  unfold m_Mod_clause
  show ∃ m', ((m_Mod_room (mod0 n) 1 0).bind fun r5 => if r5 = 0 then _ else (m_Mod_begin (mod0 n) 1).bind _) = some (m', 0)
  rw [r, bind_s, if_neg (by decide), b1, bind_s, b2]
  exact ⟨_, rfl⟩
theorem literal0 (n : Nat) (sto : T_Sto) (x1 x2 x3 : Int32) : m_CS_literal (nI n, -1, 1) sto x1 x2 x3 = some (((nI n, -1, 1), sto, 0), 0, 0) := by
  have e : m_CS_isStillOpen (nI n, -1, 1) sto x1 = some 0 := by
    unfold m_CS_isStillOpen
    by_cases h : x1 < 0
    · rw [if_pos h]
    · rw [if_neg h, if_neg (by exact (show ¬ x1 = -1 from fun q => h (by rw [q]; decide)))]
  unfold m_CS_literal
  rw [e, bind_s, if_pos rfl]
theorem mliteral0 (n : Nat) (x1 x2 x3 : Int32) : m_Mod_literal (mod0 n) x1 x2 x3 = some (mod0 n, 0) := by
  unfold m_Mod_literal
  by_cases h : x1 < 0
  · rw [if_pos h]
    rfl
  · rw [if_neg h, if_neg (by exact (show ¬ x1 = 0 - 1 from fun q => h (by rw [q]; decide)))]
    rfl
theorem taken0 {n : Nat} (hn : n ≤ 300) {gp gy : Nat → Int32} (hp : ∀ j, j < n → gp j = -1) {x : Int32} (hx : ¬ x < 0) (y : Int32) : ∀ (d i f : Nat), i + d = n → d < f → m_Pla_isTaken_L2 ((n, gp), (n, gy)) f x y (nI i) = some 0 := by
  have nx : ¬ (-1 : Int32) = x := fun q => hx (by rw [← q]; decide)
  intro d
  induction d with
  | zero =>
    intro i f e hf
    obtain ⟨f, rfl⟩ : ∃ g, f = g + 1 := ⟨f - 1, by omega⟩
    rw [m_Pla_isTaken_L2, if_pos (by exact nI_le (a := n) (b := i) (by omega) (by omega))]
  | succ d ih =>
    intro i f e hf
    obtain ⟨f, rfl⟩ : ∃ g, f = g + 1 := ⟨f - 1, by omega⟩
    rw [m_Pla_isTaken_L2, if_neg (by exact nI_ge (a := i) (b := n) (by omega) (by omega)), if_pos (by exact nI_in (c := i) (N := n) (by omega) (by omega)), nI_clamp (by omega), if_neg (by exact fun q => nx ((hp i (by omega)).symm.trans q))]
    unfold m_Pla_isTaken_B33
    rw [nI_1]
    exact ih (i + 1) f (by omega) (by omega)
theorem count0 {n : Nat} (hn : n ≤ 300) {gp gy : Nat → Int32} (hp : ∀ j, j < n → gp j = -1) {x : Int32} (hx : ¬ x < 0) : ∀ (d i f : Nat), i + d = n → d < f → m_Pla_countAt_L4 ((n, gp), (n, gy)) f x 0 (nI i) = some 0 := by
  have nx : ¬ (-1 : Int32) = x := fun q => hx (by rw [← q]; decide)
  intro d
  induction d with
  | zero =>
    intro i f e hf
    obtain ⟨f, rfl⟩ : ∃ g, f = g + 1 := ⟨f - 1, by omega⟩
    rw [m_Pla_countAt_L4, if_pos (by exact nI_le (a := n) (b := i) (by omega) (by omega))]
  | succ d ih =>
    intro i f e hf
    obtain ⟨f, rfl⟩ : ∃ g, f = g + 1 := ⟨f - 1, by omega⟩
    rw [m_Pla_countAt_L4, if_neg (by exact nI_ge (a := i) (b := n) (by omega) (by omega)), if_pos (by exact nI_in (c := i) (N := n) (by omega) (by omega)), nI_clamp (by omega), if_neg (by exact fun q => nx ((hp i (by omega)).symm.trans q))]
    unfold m_Pla_countAt_B26
    rw [nI_1]
    exact ih (i + 1) f (by omega) (by omega)
theorem kern_L0 {n : Nat} (hn : n ≤ 300) {gp gy : Nat → Int32} (hp : ∀ j, j < n → gp j = -1) {x : Int32} (hx : ¬ x < 0) {t : Nat} (ht : t < n) (y : Int32) (hd : Int32) (sto : T_Sto) : ∀ (d i f : Nat), i + d = n → d < f → ∃ cs pla, m_CS_kernel_L80 f (nI n, hd, 1) ((n, gp), (n, gy)) sto (nI t) x y (nI i) = some ((cs, pla, sto, 1), 0, 0) := by
  have nx : ¬ (-1 : Int32) = x := fun q => hx (by rw [← q]; decide)
  intro d
  induction d with
  | zero =>
    intro i f e hf
    obtain ⟨f, rfl⟩ : ∃ g, f = g + 1 := ⟨f - 1, by omega⟩
    rw [m_CS_kernel_L80, if_pos (by exact nI_le (a := n) (b := i) (by omega) (by omega))]
    unfold m_Pla_tell
    rw [if_pos (by exact nI_in (c := t) (N := n) (by omega) (by omega)), if_pos (by exact nI_in (c := t) (N := n) (by omega) (by omega)), bind_s]
    exact ⟨_, _, rfl⟩
  | succ d ih =>
    intro i f e hf
    obtain ⟨f, rfl⟩ : ∃ g, f = g + 1 := ⟨f - 1, by omega⟩
    have a0 : m_Pla_isAt ((n, gp), (n, gy)) (nI i) x = some 0 := by
      unfold m_Pla_isAt
      rw [if_pos (by exact nI_in (c := i) (N := n) (by omega) (by omega)), nI_clamp (by omega), if_neg (by exact fun q => nx ((hp i (by omega)).symm.trans q))]
    rw [m_CS_kernel_L80, if_neg (by exact nI_ge (a := i) (b := n) (by omega) (by omega)), a0, bind_s, if_pos rfl]
    unfold m_CS_kernel_B135
    rw [nI_1]
    exact ih (i + 1) f (by omega) (by omega)
theorem mroom0 (n : Nat) : m_Mod_room (mod0 n) 0 0 = some 1 := by
  unfold m_Mod_room
  rw [if_neg (by exact (show ¬ (1500 : Int32) < 0 + 0 by decide)), if_pos (by exact (show ¬ ((0 : Int32) < 0 ∨ 1502 ≤ (0 : Int32).toNatClampNeg) by decide)), if_neg (by exact (show ¬ (20000 : Int32) < 0 + 0 by decide))]
/-- the reference's kernel, fresh, once thing, place and symbol are such -/
theorem mkern_L0 (n : Nat) (x1 x2 x3 : Int32) : ∃ m, m_Mod_kernel_L41 fu (mod0 n) x1 x2 x3 0 0 = some (m, 1) := by
  rw [show fu = 1999999 + 1 from rfl, m_Mod_kernel_L41, if_pos (by exact (show (0 : Int32) ≤ 0 by decide))]
  rw [show m_Mod_room (mod0 n) 0 (2 * 0) = some 1 from mroom0 n, bind_s, if_neg (by decide), show fu = 1999999 + 1 from rfl, m_Mod_kernel_L130, if_pos (by exact (show (0 : Int32) ≤ 0 by decide))]
  have y : ¬ ((0 : Int32) < 0 ∨ 300 ≤ (0 : Int32).toNatClampNeg) := by decide
  rw [if_pos (by exact y), if_pos (by exact y), if_pos (by exact y)]
  exact ⟨_, rfl⟩
theorem noThing_ok {n : Nat} (hn : n ≤ 300) (x : Int32) : (m_Mod_noThing (mod0 n) x = some 1 ∧ ¬ ∃ t, t < n ∧ x = nI t) ∨ ∃ t, t < n ∧ x = nI t ∧ m_Mod_noThing (mod0 n) x = some 0 := by
  unfold m_Mod_noThing m_Mod_noThing_B12
  rcases pk_ix x (n := n) (by omega) with h | h | ⟨j, hj, rfl⟩
  · refine Or.inl ⟨by rw [if_pos h], fun ⟨t, ht, e⟩ => ?_⟩
    rw [e] at h
    exact nI_pos (by omega) h
  · refine Or.inl ⟨?_, fun ⟨t, ht, e⟩ => ?_⟩
    · by_cases q : x < 0
      · rw [if_pos q]
      · have w : ¬ x < nI n := fun w => by
          rw [Int32.lt_iff_toInt_lt] at w
          rw [Int32.le_iff_toInt_le] at h
          omega
        rw [if_neg q, if_neg (by exact w)]
    · rw [e] at h
      exact nI_ge ht (by omega) h
  · exact Or.inr ⟨j, hj, rfl, by rw [if_neg (nI_pos (by omega)), if_pos (by exact nI_lt hj (by omega))]⟩
theorem isCode_ok (x : Int32) : (m_CS_isCode x = some 1 ∧ ¬ x < 0 ∧ ¬ (65535 : Int32) < x) ∨ (m_CS_isCode x = some 0 ∧ (x < 0 ∨ (65535 : Int32) < x)) := by
  unfold m_CS_isCode
  by_cases h : x < 0
  · exact Or.inr ⟨by rw [if_pos h], Or.inl h⟩
  · by_cases h2 : (65535 : Int32) < x
    · exact Or.inr ⟨by rw [if_neg h, if_pos h2], Or.inr h2⟩
    · exact Or.inl ⟨by rw [if_neg h, if_neg h2], h, h2⟩
theorem kernel0 {n : Nat} (hn : n ≤ 300) {gs gp gy : Nat → Int32} (hp : ∀ j, j < n → gp j = -1) (x1 x2 x3 : Int32) : ∃ cs pla sto r m, m_CS_kernel (nI n, -1, 1) ((n, gp), (n, gy)) (sto0T n gs) x1 x2 x3 = some ((cs, pla, sto, r), 0, 0) ∧ m_Mod_kernel (mod0 n) x1 x2 x3 = some (m, r) := by
  unfold m_CS_kernel m_Mod_kernel
  show ∃ cs pla sto r m, _ ∧ ((m_Mod_noThing (mod0 n) x1).bind fun r28 => if r28 = 0 then (if x2 < 0 then some (mod0 n, 0) else if (65535 : Int32) < x2 then some (mod0 n, 0) else if x3 < 0 then some (mod0 n, 0) else if x3 ≤ (65535 : Int32) then m_Mod_kernel_L41 fu (mod0 n) x1 x2 x3 0 0 else some (mod0 n, 0)) else some (mod0 n, 0)) = some (m, r)
  rcases isThing_ok hn (-1) 1 x1 with ⟨e1, e2⟩ | ⟨t, ht, rfl, e1⟩
  · have m1 : m_Mod_noThing (mod0 n) x1 = some 1 := by
      rcases noThing_ok hn x1 with ⟨q, -⟩ | ⟨t, ht, e, -⟩
      · exact q
      · exact absurd ⟨t, ht, e⟩ e2
    rw [e1, bind_s, if_pos rfl, m1, bind_s, if_neg (by decide)]
    exact ⟨_, _, _, _, _, rfl, rfl⟩
  · have m1 : m_Mod_noThing (mod0 n) (nI t) = some 0 := by
      rcases noThing_ok hn (nI t) with ⟨-, q⟩ | ⟨_, _, _, e⟩
      · exact absurd ⟨t, ht, rfl⟩ q
      · exact e
    rw [e1, bind_s, if_neg (by decide), m1, bind_s, if_pos rfl]
    rcases isCode_ok x2 with ⟨c1, c2, c3⟩ | ⟨c1, c2⟩
    · rw [c1, bind_s, if_neg (by decide), if_neg c2, if_neg c3]
      rcases isCode_ok x3 with ⟨d1, d2, d3⟩ | ⟨d1, d2⟩
      · have d4 : x3 ≤ (65535 : Int32) := by
          rw [Int32.lt_iff_toInt_lt] at d3
          rw [Int32.le_iff_toInt_le]
          omega
        have t0 : m_Pla_isTold ((n, gp), (n, gy)) (nI t) = some 0 := by
          unfold m_Pla_isTold
          rw [if_pos (by exact nI_in (c := t) (N := n) ht (by omega)), nI_clamp (by omega), if_pos (by exact hp t ht)]
        have t1 : m_Pla_isTaken ((n, gp), (n, gy)) x2 x3 = some 0 := taken0 hn hp c2 x3 n 0 fu (by omega) (by unfold fu; omega)
        have t2 : m_Pla_countAt ((n, gp), (n, gy)) x2 = some 0 := count0 hn hp c2 n 0 fu (by omega) (by unfold fu; omega)
        have r := hasRoom_ok (n := n) (C := 0) (N := 0) (l1 := 32) (l2 := 32) (l3 := 32) (l5 := 16) (L := fun _ => 0) (O := fun _ => 0) (X := fun _ => 0) (G := gs) (S := fun _ => 0) 0 0 (by omega) (by omega) (by omega) (by omega)
        obtain ⟨cs, pla, z⟩ := kern_L0 hn (gy := gy) hp c2 ht x3 (-1) (sto0T n gs) n 0 fu (by omega) (by unfold fu; omega)
        obtain ⟨m, zm⟩ := mkern_L0 n (nI t) x2 x3
        rw [d1, bind_s, if_neg (by decide), if_neg d2, if_pos d4, t0, bind_s, if_pos rfl, t1, bind_s, if_pos rfl, t2, bind_s, show m_Sto_hasRoom (sto0T n gs) 0 (2 * 0) = some 1 from r, bind_s, if_neg (by decide), zm]
        exact ⟨cs, pla, _, 1, m, z, rfl⟩
      · rw [d1, bind_s, if_pos rfl]
        rcases d2 with d2 | d2
        · rw [if_pos d2]
          exact ⟨_, _, _, _, _, rfl, rfl⟩
        · have d4 : ¬ x3 ≤ (65535 : Int32) := fun w => by
            rw [Int32.lt_iff_toInt_lt] at d2
            rw [Int32.le_iff_toInt_le] at w
            omega
          rw [if_neg d4]
          by_cases d5 : x3 < 0
          · rw [if_pos d5]
            exact ⟨_, _, _, _, _, rfl, rfl⟩
          · rw [if_neg d5]
            exact ⟨_, _, _, _, _, rfl, rfl⟩
    · rw [c1, bind_s, if_pos rfl]
      rcases c2 with c2 | c2
      · rw [if_pos c2]
        exact ⟨_, _, _, _, _, rfl, rfl⟩
      · rw [if_pos c2]
        by_cases d5 : x2 < 0
        · rw [if_pos d5]
          exact ⟨_, _, _, _, _, rfl, rfl⟩
        · rw [if_neg d5]
          exact ⟨_, _, _, _, _, rfl, rfl⟩
theorem assume0 {n : Nat} (hn : n ≤ 300) (x1 x2 : Int32) : ∃ cs ass r m, m_CS_assume (nI n, -1, 1) (assT 0 (fun _ => 0)) x1 x2 = some (cs, ass, r) ∧ m_Mod_assume (mod0 n) x1 x2 = some (m, r) := by
  unfold m_Mod_assume
  show ∃ cs ass r m, _ ∧ ((m_Mod_noThing (mod0 n) x1).bind fun r5 => if r5 = 0 then (if (0 : Int32) = 40 then some (mod0 n, 0) else m_Mod_assume_L26 fu (mod0 n) x1 x2 0) else some (mod0 n, 0)) = some (m, r)
  rcases assume_ok (n := n) (k := 0) (A := fun _ => 0) (asl := fun _ => 0) ⟨by omega, hn, fun i hi => absurd hi (by omega)⟩ (-1) 1 x1 x2 with ⟨e1, e2⟩ | ⟨t, ⟨ht, rfl, -, -⟩, e2, -⟩
  · have m1 : m_Mod_noThing (mod0 n) x1 = some 1 := by
      rcases noThing_ok hn x1 with ⟨q, -⟩ | ⟨t, ht, e, -⟩
      · exact q
      · exact absurd ⟨t, ht, e, by omega, fun j hj => absurd hj (by omega)⟩ e2
    rw [m1, bind_s, if_neg (by decide)]
    exact ⟨_, _, _, _, e1, rfl⟩
  · have m1 : m_Mod_noThing (mod0 n) (nI t) = some 0 := by
      rcases noThing_ok hn (nI t) with ⟨-, q⟩ | ⟨_, _, _, e⟩
      · exact absurd ⟨t, ht, rfl⟩ q
      · exact e
    have a2 : ∃ m, m_Mod_assume_L26 fu (mod0 n) (nI t) x2 0 = some (m, 1) := by
      rw [show fu = 1999999 + 1 from rfl, m_Mod_assume_L26, if_pos (by exact (show (0 : Int32) ≤ 0 by decide))]
      unfold m_Mod_assume_B74
      have y : ¬ ((0 : Int32) < 0 ∨ 40 ≤ (0 : Int32).toNatClampNeg) := by decide
      by_cases q : x2 = 0
      · rw [if_pos q, if_pos (by exact y)]
        exact ⟨_, rfl⟩
      · rw [if_neg q, if_pos (by exact y)]
        exact ⟨_, rfl⟩
    obtain ⟨m, zm⟩ := a2
    rw [m1, bind_s, if_pos rfl, if_neg (by decide), zm]
    exact ⟨_, _, _, _, e2, rfl⟩
theorem numRow0 (x : Int32) (us : Int64) (tc : Int32) (mk co : Arr) (cc : Int32) (rn : Arr) (lf : Int64) : m_Sea_numberOfRow (0, us, tc, mk, co, cc, rn, lf) x = some (-1) := by
  unfold m_Sea_numberOfRow
  by_cases h : x < 0
  · rw [if_pos h]
  · rw [if_neg h, if_pos (by exact (show (0 : Int32) ≤ x by
      rw [Int32.lt_iff_toInt_lt] at h
      rw [Int32.le_iff_toInt_le]
      omega))]
theorem mrow0 (n : Nat) (x1 x2 : Int32) : m_Mod_row (mod0 n) x1 x2 = some (mod0 n, -1) := by
  unfold m_Mod_row
  by_cases h : x1 < 0
  · rw [if_pos h]
    rfl
  · rw [if_neg h, if_pos (by exact (show (0 : Int32) ≤ x1 by
      rw [Int32.lt_iff_toInt_lt] at h
      rw [Int32.le_iff_toInt_le]
      omega))]
    rfl
theorem mnum0 (n : Nat) (x : Int32) : m_Mod_numberOf (mod0 n) x = some (mod0 n, -1) := by
  unfold m_Mod_numberOf m_Mod_numberOf_B17
  by_cases h : x < 0
  · rw [if_pos h]
    rfl
  · rw [if_neg h, if_neg (by exact h)]
    rfl
