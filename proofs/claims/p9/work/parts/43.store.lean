/-! PURE, 4: the Store. C clauses, N literals; lit: slot to literal, own: slot to clause, start: clause to its first slot; chains of equal literals by prv -/
def prv (lit : Nat → Nat) (l : Nat) : Nat → Int32
  | 0 => -1
  | k + 1 => if lit k = l then nI k else prv lit l k
/-- the Store's tuple -/
abbrev stoT (C N l1 l2 l3 n l5 : Nat) (L O X G S : Nat → Int32) : T_Sto := (nI C, nI N, (l1, L), (l2, O), (l3, X), (2 * n, G), (l5, S))
def StoI (n C N l1 l2 l3 l5 : Nat) (L O X G S : Nat → Int32) (lit own start : Nat → Nat) : Prop :=
  (C ≤ 1500 ∧ N ≤ 20000 ∧ 1 ≤ n ∧ n ≤ 300) ∧ (1 ≤ l1 ∧ N ≤ l1 ∧ l1 ≤ 20000) ∧ (1 ≤ l2 ∧ N ≤ l2 ∧ l2 ≤ 20000) ∧ (1 ≤ l3 ∧ N ≤ l3 ∧ l3 ≤ 20000) ∧ (1 ≤ l5 ∧ C ≤ l5 ∧ l5 ≤ 1500) ∧
  (∀ s, s < N → L s = nI (lit s) ∧ lit s < 2 * n ∧ O s = nI (own s) ∧ own s < C ∧ X s = prv lit (lit s) s) ∧
  (∀ l, l < 2 * n → G l = prv lit l N) ∧
  (∀ c, c < C → S c = nI (start c)) ∧ start C = N ∧ (∀ c, c < C → start c ≤ start (c + 1)) ∧
  (∀ s, s < N → start (own s) ≤ s ∧ s < start (own s + 1))
theorem hasRoom_ok {n C N l1 l2 l3 l5 : Nat} {L O X G S : Nat → Int32} (a b : Nat) (hC : C ≤ 1500) (hN : N ≤ 20000) (ha : a ≤ 30000) (hb : b ≤ 30000) : m_Sto_hasRoom (stoT C N l1 l2 l3 n l5 L O X G S) (nI a) (nI b) = some (if C + a ≤ 1500 ∧ N + b ≤ 20000 then 1 else 0) := by
  unfold m_Sto_hasRoom
  show (if (1500 : Int32) < nI C + nI a then some (0 : Int32) else if (20000 : Int32) < nI N + nI b then some 0 else some 1) = _
  rw [nI_add, nI_add]
  by_cases h1 : C + a ≤ 1500
  · have e1 : ¬ (1500 : Int32) < nI (C + a) := fun q => by
      have := (nI_ltI (a := 1500) (b := C + a) (by omega) (by omega)).mp q
      omega
    rw [if_neg e1]
    by_cases h2 : N + b ≤ 20000
    · have e2 : ¬ (20000 : Int32) < nI (N + b) := fun q => by
        have := (nI_ltI (a := 20000) (b := N + b) (by omega) (by omega)).mp q
        omega
      rw [if_neg e2, if_pos ⟨h1, h2⟩]
    · have e2 : (20000 : Int32) < nI (N + b) := (nI_ltI (a := 20000) (b := N + b) (by omega) (by omega)).mpr (by omega)
      rw [if_pos e2, if_neg (fun q => h2 q.2)]
  · have e1 : (1500 : Int32) < nI (C + a) := (nI_ltI (a := 1500) (b := C + a) (by omega) (by omega)).mpr (by omega)
    rw [if_pos e1, if_neg (fun q => h1 q.1)]
theorem prv_lt (lit : Nat → Nat) (l : Nat) : ∀ k, prv lit l k = -1 ∨ ∃ s, s < k ∧ prv lit l k = nI s ∧ lit s = l ∧ ∀ t, s < t → t < k → ¬ lit t = l := by
  intro k
  induction k with
  | zero => exact Or.inl rfl
  | succ k ih =>
    by_cases h : lit k = l
    · refine Or.inr ⟨k, by omega, ?_, h, fun t h1 h2 => absurd h1 (by omega)⟩
      show (if lit k = l then nI k else prv lit l k) = nI k
      rw [if_pos h]
    · have e : prv lit l (k + 1) = prv lit l k := by
        show (if lit k = l then nI k else prv lit l k) = _
        rw [if_neg h]
      rw [e]
      rcases ih with q | ⟨s, h1, h2, h3, h4⟩
      · exact Or.inl q
      · refine Or.inr ⟨s, by omega, h2, h3, fun t a b => ?_⟩
        by_cases c : t = k
        · subst c; exact h
        · exact h4 t a (by omega)
theorem prv_none (lit : Nat → Nat) (l : Nat) : ∀ k, prv lit l k = -1 → k < 2 ^ 31 → ∀ s, s < k → ¬ lit s = l := by
  intro k
  induction k with
  | zero => intro _ _ s hs; omega
  | succ k ih =>
    intro h hk s hs
    have e : prv lit l (k + 1) = (if lit k = l then nI k else prv lit l k) := rfl
    rw [e] at h
    by_cases c : lit k = l
    · rw [if_pos c] at h
      have h0 : nI k < 0 := by rw [h]; decide
      exact absurd h0 (nI_pos (by omega))
    · rw [if_neg c] at h
      by_cases d : s = k
      · subst d; exact c
      · exact ih h (by omega) s (by omega)
theorem prv_same {lit lit' : Nat → Nat} (l : Nat) : ∀ k, (∀ s, s < k → lit' s = lit s) → prv lit' l k = prv lit l k := by
  intro k
  induction k with
  | zero => intro _; rfl
  | succ k ih =>
    intro h
    show (if lit' k = l then nI k else prv lit' l k) = (if lit k = l then nI k else prv lit l k)
    rw [h k (by omega), ih (fun s hs => h s (by omega))]
def PotS (l1 l2 l3 l5 : Nat) : Nat := pot l1 20000 + pot l2 20000 + pot l3 20000 + pot l5 1500
/-- open(): one more clause, without literals -/
theorem open_ok {n C N l1 l2 l3 l5 : Nat} {L O X G S : Nat → Int32} {lit own start : Nat → Nat} (h : StoI n C N l1 l2 l3 l5 L O X G S lit own start) (hr : C + 1 ≤ 1500) : ∃ l5' S' c s, m_Sto_open (stoT C N l1 l2 l3 n l5 L O X G S) = some ((stoT (C + 1) N l1 l2 l3 n l5' L O X G S', nI C), c, s) ∧ StoI n (C + 1) N l1 l2 l3 l5' L O X G S' lit own (va_up start (C + 1) N) ∧ c ≤ s ∧ s + PotS l1 l2 l3 l5 ≤ PotS l1 l2 l3 l5' := by
  obtain ⟨⟨hC, hN, hn1, hn⟩, a1, a2, a3, ⟨b1, b2, b3⟩, q1, q2, q3, q4, q5, q6⟩ := h
  obtain ⟨l5', S', c, s, e1, e2, e3, e4, e5, e6, e7⟩ := room_ok (len := l5) (k := C + 1) (most := 1500) S b1 b3 hr (by omega)
  refine ⟨l5', upd S' C (nI N), c, s, ?_, ⟨⟨hr, hN, hn1, hn⟩, a1, a2, a3, ⟨by omega, by omega, e4⟩, fun t ht => ?_, q2, fun k hk => ?_, ?_, fun k hk => ?_, fun t ht => ?_⟩, e6, ?_⟩
  · unfold m_Sto_open
    have r1 : m_Sto_hasRoom (stoT C N l1 l2 l3 n l5 L O X G S) (1 : Int32) (0 : Int32) = some 1 := by
      have := hasRoom_ok (n := n) (C := C) (N := N) (l1 := l1) (l2 := l2) (l3 := l3) (l5 := l5) (L := L) (O := O) (X := X) (G := G) (S := S) 1 0 hC hN (by omega) (by omega)
      rw [if_pos ⟨hr, by omega⟩] at this
      exact this
    rw [r1, bind_s, if_neg (by decide)]
    have r2 : m_CS_withRoomFor (l5, S) (nI C + 1) (1500 : Int32) = some ((l5', S'), c, s) := by
      rw [nI_1]; exact e1
    show (m_CS_withRoomFor (l5, S) (nI C + 1) (1500 : Int32)).bind _ = _
    rw [r2, bind_s]
    have r3 : ¬ (nI C < 0 ∨ l5' ≤ (nI C).toNatClampNeg) := nI_in (c := C) (N := l5') (by omega) (by omega)
    show addc c s (if ¬ (nI C < 0 ∨ l5' ≤ (nI C).toNatClampNeg) then _ else none) = _
    rw [if_pos r3, addc_some, nI_clamp (by omega), nI_1, nI_pred]
    rfl
  · obtain ⟨x1, x2, x3, x4, x5⟩ := q1 t ht
    exact ⟨x1, x2, x3, by omega, x5⟩
  · by_cases c0 : k = C
    · subst c0
      rw [pk_us]
      show nI N = nI (if k = k + 1 then N else start k)
      rw [if_neg (by omega), q4]
    · rw [pk_un c0, e5 k (by omega), q3 k (by omega)]
      show _ = nI (if k = C + 1 then N else start k)
      rw [if_neg (by omega)]
  · show (if C + 1 = C + 1 then N else start (C + 1)) = N
    rw [if_pos rfl]
  · show (if k = C + 1 then N else start k) ≤ (if k + 1 = C + 1 then N else start (k + 1))
    rw [if_neg (by omega)]
    by_cases c0 : k = C
    · subst c0
      rw [if_pos rfl, q4]
      exact Nat.le_refl N
    · rw [if_neg (by omega)]
      exact q5 k (by omega)
  · obtain ⟨x1, x2, x3, x4, x5⟩ := q1 t ht
    obtain ⟨y1, y2⟩ := q6 t ht
    show (if own t = C + 1 then N else start (own t)) ≤ t ∧ t < (if own t + 1 = C + 1 then N else start (own t + 1))
    rw [if_neg (by omega)]
    refine ⟨y1, ?_⟩
    by_cases c0 : own t + 1 = C + 1
    · rw [if_pos c0]; exact ht
    · rw [if_neg c0]; exact y2
  · unfold PotS
    omega
/-- append(l): one more literal for the clause that came last -/
theorem append_ok {n C N l1 l2 l3 l5 : Nat} {L O X G S : Nat → Int32} {lit own start : Nat → Nat} (h : StoI n C N l1 l2 l3 l5 L O X G S lit own start) (hC1 : 1 ≤ C) (hr : N + 1 ≤ 20000) {l : Nat} (hl : l < 2 * n) : ∃ l1' l2' l3' L' O' X' G' c s, m_Sto_append (stoT C N l1 l2 l3 n l5 L O X G S) (nI l) = some (stoT C (N + 1) l1' l2' l3' n l5 L' O' X' G' S, c, s) ∧ StoI n C (N + 1) l1' l2' l3' l5 L' O' X' G' S (va_up lit N l) (va_up own N (C - 1)) (va_up start C (N + 1)) ∧ c ≤ s ∧ s + PotS l1 l2 l3 l5 ≤ PotS l1' l2' l3' l5 := by
  obtain ⟨⟨hC, hN, hn1, hn⟩, ⟨a1, a2, a3⟩, ⟨a4, a5, a6⟩, ⟨a7, a8, a9⟩, ⟨b1, b2, b3⟩, q1, q2, q3, q4, q5, q6⟩ := h
  obtain ⟨l1', L', c1, s1, e1, e2, e3, e4, e5, e6, e7⟩ := room_ok (len := l1) (k := N + 1) (most := 20000) L a1 a3 hr (by omega)
  obtain ⟨l2', O', c2, s2, f1, f2, f3, f4, f5, f6, f7⟩ := room_ok (len := l2) (k := N + 1) (most := 20000) O a4 a6 hr (by omega)
  obtain ⟨l3', X', c3, s3, g1, g2, g3, g4, g5, g6, g7⟩ := room_ok (len := l3) (k := N + 1) (most := 20000) X a7 a9 hr (by omega)
  have nN : (nI N).toNatClampNeg = N := nI_clamp (by omega)
  have nl : (nI l).toNatClampNeg = l := nI_clamp (by omega)
  have up1 : ∀ (f : Nat → Nat) (v : Nat) (s : Nat), s < N → va_up f N v s = f s := fun f v s hs => by
    show (if s = N then v else f s) = f s
    rw [if_neg (by omega)]
  have up2 : ∀ (f : Nat → Nat) (v : Nat), va_up f N v N = v := fun f v => by
    show (if N = N then v else f N) = v
    rw [if_pos rfl]
  have pv : ∀ (k : Nat), ∀ t, t ≤ N → prv (va_up lit N l) k t = prv lit k t := fun k t ht => prv_same k t (fun s hs => up1 lit l s (by omega))
  refine ⟨l1', l2', l3', upd L' N (nI l), upd O' N (nI (C - 1)), upd X' N (G l), upd G l (nI N), c1 + (c2 + (c3 + 0)), s1 + (s2 + (s3 + 0)), ?_, ⟨⟨hC, hr, hn1, hn⟩, ⟨by omega, e2, e4⟩, ⟨by omega, f2, f4⟩, ⟨by omega, g2, g4⟩, ⟨b1, b2, b3⟩, fun t ht => ?_, fun k hk => ?_, fun k hk => ?_, ?_, fun k hk => ?_, fun t ht => ?_⟩, by omega, ?_⟩
  · unfold m_Sto_append
    have z0 : ¬ nI C = 0 := nI_ne0 (by omega) (by omega)
    show (if nI C = 0 then _ else _) = _
    rw [if_neg z0]
    have r1 : m_Sto_hasRoom (stoT C N l1 l2 l3 n l5 L O X G S) (0 : Int32) (1 : Int32) = some 1 := by
      have := hasRoom_ok (n := n) (C := C) (N := N) (l1 := l1) (l2 := l2) (l3 := l3) (l5 := l5) (L := L) (O := O) (X := X) (G := G) (S := S) 0 1 hC hN (by omega) (by omega)
      rw [if_pos ⟨by omega, hr⟩] at this
      exact this
    have r2 : ¬ nI l < 0 := nI_pos (by omega)
    have r3 : nI l < Int32.ofNat (2 * n) := nI_lt (a := l) (b := 2 * n) hl (by omega)
    rw [r1, bind_s, if_neg (by decide), if_neg r2]
    show (if nI l < Int32.ofNat (2 * n) then _ else _) = _
    rw [if_pos r3]
    have p1 : m_CS_withRoomFor (l1, L) (nI N + 1) (20000 : Int32) = some ((l1', L'), c1, s1) := by rw [nI_1]; exact e1
    have p2 : m_CS_withRoomFor (l2, O) (nI N + 1) (20000 : Int32) = some ((l2', O'), c2, s2) := by rw [nI_1]; exact f1
    have p3 : m_CS_withRoomFor (l3, X) (nI N + 1) (20000 : Int32) = some ((l3', X'), c3, s3) := by rw [nI_1]; exact g1
    show (m_CS_withRoomFor (l1, L) (nI N + 1) (20000 : Int32)).bind _ = _
    rw [p1, bind_s]
    show addc c1 s1 ((m_CS_withRoomFor (l2, O) (nI N + 1) (20000 : Int32)).bind _) = _
    rw [p2, bind_s]
    show addc c1 s1 (addc c2 s2 ((m_CS_withRoomFor (l3, X) (nI N + 1) (20000 : Int32)).bind _)) = _
    rw [p3, bind_s]
    have v1 : ¬ (nI N < 0 ∨ l1' ≤ (nI N).toNatClampNeg) := nI_in (c := N) (N := l1') (by omega) (by omega)
    have v2 : ¬ (nI N < 0 ∨ l2' ≤ (nI N).toNatClampNeg) := nI_in (c := N) (N := l2') (by omega) (by omega)
    have v3 : ¬ (nI N < 0 ∨ l3' ≤ (nI N).toNatClampNeg) := nI_in (c := N) (N := l3') (by omega) (by omega)
    have v4 : ¬ (nI l < 0 ∨ 2 * n ≤ (nI l).toNatClampNeg) := nI_in (c := l) (N := 2 * n) (by omega) (by omega)
    show addc c1 s1 (addc c2 s2 (addc c3 s3 (if ¬ (nI N < 0 ∨ l1' ≤ (nI N).toNatClampNeg) then (if ¬ (nI N < 0 ∨ l2' ≤ (nI N).toNatClampNeg) then (if ¬ (nI l < 0 ∨ 2 * n ≤ (nI l).toNatClampNeg) then (if ¬ (nI N < 0 ∨ l3' ≤ (nI N).toNatClampNeg) then (if ¬ (nI l < 0 ∨ 2 * n ≤ (nI l).toNatClampNeg) then _ else none) else none) else none) else none) else none))) = _
    rw [if_pos v1, if_pos v2, if_pos v4, if_pos v3, if_pos v4, addc_some, addc_some, addc_some, nN, nl, nI_1]
    have d1 : nI C - 1 = nI (C - 1) := by
      rw [show (1 : Int32) = nI 1 from rfl, pk_sub hC1]
    show some ((nI C, nI (N + 1), (l1', upd L' N (nI l)), (l2', upd O' N (nI C - 1)), (l3', upd X' N (G l)), (2 * n, upd G l (nI N)), (l5, S)), _, _) = _
    rw [d1]
  · by_cases c0 : t = N
    · subst c0
      rw [pk_us, pk_us, pk_us, up2, up2]
      refine ⟨rfl, hl, rfl, by omega, ?_⟩
      rw [q2 l hl, pv l t (Nat.le_refl t)]
    · obtain ⟨x1, x2, x3, x4, x5⟩ := q1 t (by omega)
      rw [pk_un c0, pk_un c0, pk_un c0, up1 lit l t (by omega), up1 own _ t (by omega), e5 t (by omega), f5 t (by omega), g5 t (by omega)]
      refine ⟨x1, x2, x3, x4, ?_⟩
      rw [x5, pv _ t (by omega)]
  · show upd G l (nI N) k = (if va_up lit N l N = k then nI N else prv (va_up lit N l) k N)
    rw [up2, pv k N (Nat.le_refl N)]
    by_cases c0 : k = l
    · subst c0
      rw [pk_us, if_pos rfl]
    · rw [pk_un c0, if_neg (fun q => c0 q.symm)]
      exact q2 k hk
  · rw [q3 k hk]
    show nI (start k) = nI (if k = C then N + 1 else start k)
    rw [if_neg (by omega)]
  · show (if C = C then N + 1 else start C) = N + 1
    rw [if_pos rfl]
  · show (if k = C then N + 1 else start k) ≤ (if k + 1 = C then N + 1 else start (k + 1))
    rw [if_neg (by omega)]
    have y := q5 k hk
    by_cases c0 : k + 1 = C
    · rw [if_pos c0]
      rw [c0, q4] at y
      omega
    · rw [if_neg c0]; exact y
  · show (if va_up own N (C - 1) t = C then N + 1 else start (va_up own N (C - 1) t)) ≤ t ∧ t < (if va_up own N (C - 1) t + 1 = C then N + 1 else start (va_up own N (C - 1) t + 1))
    by_cases c0 : t = N
    · subst c0
      rw [up2, if_neg (by omega), if_pos (by omega)]
      refine ⟨?_, by omega⟩
      have y := q5 (C - 1) (by omega)
      rw [show C - 1 + 1 = C by omega, q4] at y
      exact y
    · obtain ⟨x1, x2, x3, x4, x5⟩ := q1 t (by omega)
      obtain ⟨y1, y2⟩ := q6 t (by omega)
      rw [up1 own _ t (by omega), if_neg (by omega)]
      refine ⟨y1, ?_⟩
      by_cases c1 : own t + 1 = C
      · rw [if_pos c1]; omega
      · rw [if_neg c1]; exact y2
  · unfold PotS
    omega
