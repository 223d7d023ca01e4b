/-! PURE, 8: Tally.restart: counted anew for an empty trail -/
theorem start_mono {n C N l1 l2 l3 l5 : Nat} {L O X G S : Nat → Int32} {lit own start : Nat → Nat} (h : StoI n C N l1 l2 l3 l5 L O X G S lit own start) : ∀ b a, a ≤ b → b ≤ C → start a ≤ start b := by
  obtain ⟨-, -, -, -, -, -, -, -, -, q5, -⟩ := h
  intro b
  induction b with
  | zero => intro a h1 _; have : a = 0 := by omega
            subst this; exact Nat.le_refl _
  | succ b ih =>
    intro a h1 h2
    by_cases e : a = b + 1
    · subst e; exact Nat.le_refl _
    · exact Nat.le_trans (ih a (by omega) (by omega)) (q5 b (by omega))
theorem own_iff {n C N l1 l2 l3 l5 : Nat} {L O X G S : Nat → Int32} {lit own start : Nat → Nat} (h : StoI n C N l1 l2 l3 l5 L O X G S lit own start) {s c : Nat} (hs : s < N) (hc : c < C) : own s = c ↔ start c ≤ s ∧ s < start (c + 1) := by
  have hm := start_mono h
  obtain ⟨-, -, -, -, -, q1, -, -, -, -, q6⟩ := h
  obtain ⟨y1, y2⟩ := q6 s hs
  have y3 := (q1 s hs).2.2.2.1
  constructor
  · intro e; subst e; exact ⟨y1, y2⟩
  · intro ⟨g1, g2⟩
    rcases Nat.lt_trichotomy (own s) c with q | q | q
    · have := hm c (own s + 1) (by omega) (by omega)
      omega
    · exact q
    · have := hm (own s) (c + 1) (by omega) (by omega)
      omega
theorem mcn_0 {lit own : Nat → Nat} {c : Nat} : ∀ k, mcn lit own (fun _ => false) c k = 0 := by
  intro k
  induction k with
  | zero => rfl
  | succ k ih =>
    show mcn lit own (fun _ => false) c k + (if own k = c ∧ false = true then 1 else 0) = 0
    rw [ih]; simp
theorem qcn_0 {lit own : Nat → Nat} {c A B : Nat} (hAB : A ≤ B) : ∀ k, (∀ s, s < k → (own s = c ↔ A ≤ s ∧ s < B)) → qcn lit own (fun _ => false) c k = min k B - min k A := by
  intro k
  induction k with
  | zero => intro _; simp [qcn]
  | succ k ih =>
    intro h
    show qcn lit own (fun _ => false) c k + (if own k = c ∧ false = false then 1 else 0) = _
    rw [ih (fun s hs => h s (by omega))]
    have hk := h k (by omega)
    by_cases g : own k = c
    · have := hk.mp g
      rw [if_pos ⟨g, rfl⟩]; omega
    · have : ¬ (A ≤ k ∧ k < B) := fun q => g (hk.mpr q)
      rw [if_neg (fun q => g q.1)]; omega
theorem size_cnt {n C N l1 l2 l3 l5 : Nat} {L O X G S : Nat → Int32} {lit own start : Nat → Nat} (h : StoI n C N l1 l2 l3 l5 L O X G S lit own start) {c : Nat} (hc : c < C) : qcn lit own (fun _ => false) c N = start (c + 1) - start c := by
  have hm := start_mono h
  have q4 : start C = N := h.2.2.2.2.2.2.2.2.1
  have e1 := hm C (c + 1) (by omega) (Nat.le_refl C)
  have e2 := hm (c + 1) c (by omega) (by omega)
  rw [qcn_0 (A := start c) (B := start (c + 1)) e2 N (fun s hs => own_iff h hs hc)]
  omega
theorem ofNat_ofInt (k : Nat) : nI k = Int32.ofInt (k : Int) := (Int32.ofInt_eq_ofNat (n := k)).symm
theorem restart_L {n C N l1 l2 l3 l5 : Nat} {L O X G S : Nat → Int32} {lit own start : Nat → Nat} (h : StoI n C N l1 l2 l3 l5 L O X G S lit own start) {m1 m2 : Nat} (g1 : 1 ≤ m1 ∧ C ≤ m1 ∧ m1 ≤ 1500) (g2 : 1 ≤ m2 ∧ C ≤ m2 ∧ m2 ≤ 1500) : ∀ (f i : Nat) (wd wu : Nat → Int64) (MB NF : Nat → Int32), i ≤ C → C - i < f → (∀ c, C ≤ c → bitOf wd c = false ∧ bitOf wu c = false) → (∀ c, c < i → MB c = 0 ∧ NF c = nI (start (c + 1) - start c) ∧ bitOf wd c = decide (MB c ≤ 0 ∧ NF c = 0) ∧ bitOf wu c = decide (MB c ≤ 0 ∧ NF c = 1)) → ∃ wd' wu' MB' NF', m_Tal_restart_L6 (stoT C N l1 l2 l3 n l5 L O X G S) f (talT m1 m2 wd wu MB NF) (nI i) = some (talT m1 m2 wd' wu' MB' NF', 0, 0) ∧ TalM C N m1 m2 wd' wu' MB' NF' lit own (fun _ => false) := by
  have hC : C ≤ 1500 := h.1.1
  intro f
  induction f with
  | zero => intro i wd wu MB NF _ hf; omega
  | succ f ih =>
    intro i wd wu MB NF hi hf hz hd
    rw [m_Tal_restart_L6]
    by_cases e : i = C
    · subst e
      show ∃ wd' wu' MB' NF', (if nI i ≤ nI i then _ else _) = _ ∧ _
      rw [if_pos (nI_le (Nat.le_refl i) (by omega))]
      refine ⟨wd, wu, MB, NF, rfl, ⟨g1, g2, fun c hc => ⟨(hd c hc).2.2.1, (hd c hc).2.2.2⟩, hz⟩, fun c hc => ?_, fun c hc => ?_⟩
      · rw [(hd c hc).1, mcn_0]; rfl
      · rw [(hd c hc).2.1, size_cnt h hc]; exact ofNat_ofInt _
    · have hlt : i < C := by omega
      have k1 : ¬ nI C ≤ nI i := nI_ge hlt (by omega)
      have k2 : ¬ (nI i < 0 ∨ m1 ≤ (nI i).toNatClampNeg) := nI_in (c := i) (N := m1) (by omega) (by omega)
      have k3 : ¬ (nI i < 0 ∨ m2 ≤ (nI i).toNatClampNeg) := nI_in (c := i) (N := m2) (by omega) (by omega)
      have ci : (nI i).toNatClampNeg = i := nI_clamp (by omega)
      show ∃ wd' wu' MB' NF', (if nI C ≤ nI i then _ else (if ¬ (nI i < 0 ∨ m1 ≤ (nI i).toNatClampNeg) then ((m_Sto_sizeOf (stoT C N l1 l2 l3 n l5 L O X G S) (nI i)).bind fun r10 => (if ¬ (nI i < 0 ∨ m2 ≤ (nI i).toNatClampNeg) then ((m_Tal_judge (talT m1 m2 wd wu (upd MB (nI i).toNatClampNeg 0) (upd NF (nI i).toNatClampNeg r10)) (nI i)).bind fun r13 => ((m_Tal_restart_L6 (stoT C N l1 l2 l3 n l5 L O X G S) f) r13 (nI i + 1))) else none)) else none)) = _ ∧ _
      rw [if_neg k1, if_pos k2, sizeOf_ok h hlt, bind_s, if_pos k3, ci]
      obtain ⟨wd1, wu1, j1, j2, j3⟩ := judge_ok (c := i) (by omega) wd wu (m1, upd MB i 0) (m2, upd NF i (nI (start (i + 1) - start i))) (by show i < m1; omega) (by show i < m2; omega)
      rw [j1, bind_s, nI_1]
      refine ih (i + 1) wd1 wu1 (upd MB i 0) (upd NF i (nI (start (i + 1) - start i))) (by omega) (by omega) (fun c hc => ?_) (fun c hc => ?_)
      · have q : ¬ c = i := by omega
        rw [j2 c, j3 c, if_neg q, if_neg q]
        exact hz c hc
      · rw [j2 c, j3 c]
        by_cases q : c = i
        · subst q
          rw [pk_us, pk_us, if_pos rfl, if_pos rfl]
          exact ⟨rfl, rfl, by show decide ((upd MB c 0) c ≤ 0 ∧ (upd NF c _) c = 0) = _; rw [pk_us, pk_us], by show decide ((upd MB c 0) c ≤ 0 ∧ (upd NF c _) c = 1) = _; rw [pk_us, pk_us]⟩
        · rw [pk_un q, pk_un q, if_neg q, if_neg q]
          exact hd c (by omega)
/-- restart(): what the Tally held before doesn't matter, but that no bit stands beyond the clauses -/
theorem restart_ok {n C N l1 l2 l3 l5 : Nat} {L O X G S : Nat → Int32} {lit own start : Nat → Nat} (h : StoI n C N l1 l2 l3 l5 L O X G S lit own start) {m1 m2 : Nat} (g1 : 1 ≤ m1 ∧ m1 ≤ 1500) (g2 : 1 ≤ m2 ∧ m2 ≤ 1500) {wd wu : Nat → Int64} {MB NF : Nat → Int32} (hz : ∀ c, C ≤ c → bitOf wd c = false ∧ bitOf wu c = false) : ∃ m1' m2' wd' wu' MB' NF' c s, m_Tal_restart (stoT C N l1 l2 l3 n l5 L O X G S) (talT m1 m2 wd wu MB NF) = some (talT m1' m2' wd' wu' MB' NF', c, s) ∧ TalM C N m1' m2' wd' wu' MB' NF' lit own (fun _ => false) ∧ c ≤ s ∧ s + (pot m1 1500 + pot m2 1500) ≤ pot m1' 1500 + pot m2' 1500 := by
  have hC : C ≤ 1500 := h.1.1
  obtain ⟨m1', MB1, c1, s1, e1, e2, e3, e4, e5, e6, e7⟩ := room_ok (len := m1) (k := C) (most := 1500) MB g1.1 g1.2 hC (by omega)
  obtain ⟨m2', NF1, c2, s2, f1, f2, f3, f4, f5, f6, f7⟩ := room_ok (len := m2) (k := C) (most := 1500) NF g2.1 g2.2 hC (by omega)
  obtain ⟨wd', wu', MB', NF', r1, r2⟩ := restart_L h (m1 := m1') (m2 := m2') ⟨by omega, e2, e4⟩ ⟨by omega, f2, f4⟩ fu 0 wd wu MB1 NF1 (by omega) (by unfold fu; omega) hz (fun c hc => absurd hc (by omega))
  refine ⟨m1', m2', wd', wu', MB', NF', c1 + (c2 + 0) + 0, s1 + (s2 + 0) + 0, ?_, r2, by omega, by omega⟩
  unfold m_Tal_restart m_Tal_makeRoom
  show ((m_CS_withRoomFor (m1, MB) (nI C) (1500 : Int32)).bind _).bind _ = _
  rw [show (1500 : Int32) = nI 1500 from rfl, e1, bind_s]
  show (addc c1 s1 ((m_CS_withRoomFor (m2, NF) (nI C) (nI 1500)).bind _)).bind _ = _
  rw [f1, bind_s, addc_some, addc_some, bind_s]
  show addc _ _ (m_Tal_restart_L6 (stoT C N l1 l2 l3 n l5 L O X G S) fu (talT m1' m2' wd wu MB1 NF1) (nI 0)) = _
  rw [r1, addc_some]
