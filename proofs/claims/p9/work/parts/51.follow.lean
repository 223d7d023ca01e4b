/-! PURE, 12: what the counts say; UNIT: the one literal comes to the trail -/
theorem mcn_zero {lit own : Nat → Nat} {on : Nat → Bool} {c : Nat} : ∀ k, mcn lit own on c k = 0 → ∀ s, s < k → own s = c → on (lit s) = false := by
  intro k
  induction k with
  | zero => intro _ s hs; omega
  | succ k ih =>
    intro h s hs e
    have h' : mcn lit own on c k + (if own k = c ∧ on (lit k) = true then 1 else 0) = 0 := h
    by_cases g : s = k
    · subst g
      cases q : on (lit s) with
      | false => rfl
      | true => rw [if_pos ⟨e, q⟩] at h'; omega
    · exact ih (by omega) s (by omega) e
theorem mcn_pos {lit own : Nat → Nat} {on : Nat → Bool} {c : Nat} : ∀ k, ¬ mcn lit own on c k = 0 → ∃ s, s < k ∧ own s = c ∧ on (lit s) = true := by
  intro k
  induction k with
  | zero => intro h; exact absurd rfl h
  | succ k ih =>
    intro h
    have h' : ¬ mcn lit own on c k + (if own k = c ∧ on (lit k) = true then 1 else 0) = 0 := h
    by_cases g : own k = c ∧ on (lit k) = true
    · exact ⟨k, by omega, g.1, g.2⟩
    · rw [if_neg g] at h'
      obtain ⟨s, a, b⟩ := ih (by omega)
      exact ⟨s, by omega, b⟩
theorem qcn_zero {lit own : Nat → Nat} {on : Nat → Bool} {c : Nat} : ∀ k, qcn lit own on c k = 0 ↔ ∀ s, s < k → own s = c → on (opp (lit s)) = true := by
  intro k
  induction k with
  | zero => exact ⟨fun _ s hs => absurd hs (by omega), fun _ => rfl⟩
  | succ k ih =>
    have e0 : qcn lit own on c (k + 1) = qcn lit own on c k + (if own k = c ∧ on (opp (lit k)) = false then 1 else 0) := rfl
    rw [e0]
    constructor
    · intro h s hs e
      by_cases g : s = k
      · subst g
        cases q : on (opp (lit s)) with
        | true => rfl
        | false => rw [if_pos ⟨e, q⟩] at h; omega
      · exact ih.mp (by omega) s (by omega) e
    · intro h
      rw [ih.mpr (fun s hs e => h s (by omega) e), if_neg (fun q => by rw [h k (by omega) q.1] at q; exact absurd q.2 (by decide))]
theorem qcn_one {lit own : Nat → Nat} {on : Nat → Bool} {c : Nat} : ∀ k, qcn lit own on c k = 1 → ∃ s0, s0 < k ∧ own s0 = c ∧ on (opp (lit s0)) = false ∧ ∀ s, s < k → own s = c → ¬ s = s0 → on (opp (lit s)) = true := by
  intro k
  induction k with
  | zero => intro h; exact absurd (show (0 : Nat) = 1 from h) (by decide)
  | succ k ih =>
    intro h
    have h' : qcn lit own on c k + (if own k = c ∧ on (opp (lit k)) = false then 1 else 0) = 1 := h
    by_cases g : own k = c ∧ on (opp (lit k)) = false
    · rw [if_pos g] at h'
      refine ⟨k, by omega, g.1, g.2, fun s hs e ne => (qcn_zero k).mp (by omega) s (by omega) e⟩
    · rw [if_neg g] at h'
      obtain ⟨s0, a1, a2, a3, a4⟩ := ih (by omega)
      refine ⟨s0, by omega, a2, a3, fun s hs e ne => ?_⟩
      by_cases q : s = k
      · subst q
        cases z : on (opp (lit s)) with
        | true => rfl
        | false => exact absurd ⟨e, z⟩ g
      · exact a4 s (by omega) e ne
theorem lit_two (l : Nat) : (l = 2 * (l / 2) ∧ opp l = 2 * (l / 2) + 1) ∨ (l = 2 * (l / 2) + 1 ∧ opp l = 2 * (l / 2)) := by
  unfold opp
  by_cases q : l % 2 = 0
  · rw [if_pos q]; exact Or.inl ⟨by omega, by omega⟩
  · rw [if_neg q]; exact Or.inr ⟨by omega, by omega⟩
/-- has, of a literal's thing -/
theorem has_lit {n len lev : Nat} {TL ON LV CA : Nat → Int32} {tr lvl : Nat → Nat} {on : Nat → Bool} (hR : TraI n len lev TL ON LV tr on lvl) {l : Nat} (hl : l < 2 * n) : m_Tra_has (traT n len lev TL ON LV CA) (nI (l / 2)) = some (if on l = true ∨ on (opp l) = true then 1 else 0) := by
  rw [has_ok hR (t := l / 2) (by omega)]
  rcases lit_two l with ⟨a, b⟩ | ⟨a, b⟩
  · rw [b]
    rw [show on l = on (2 * (l / 2)) from congrArg on a]
  · rw [b]
    rw [show on l = on (2 * (l / 2) + 1) from congrArg on a]
    by_cases p : on (2 * (l / 2)) = true ∨ on (2 * (l / 2) + 1) = true
    · rw [if_pos p, if_pos p.symm]
    · rw [if_neg p, if_neg (fun q => p q.symm)]
theorem follow_L {n C N l1 l2 l3 l5 : Nat} {L O X G S : Nat → Int32} {lit own start : Nat → Nat} (h : StoI n C N l1 l2 l3 l5 L O X G S lit own start) (se : T_Sea) {tal : T_Tal} {n2 len lev : Nat} {TL ON LV CA : Nat → Int32} {tr lvl : Nat → Nat} {on : Nat → Bool} (hR : TraI n len lev TL ON LV tr on lvl) {u s0 : Nat} (hs0 : s0 < N) (x1 : Int32) (e : Nat) (he : s0 < e) (heN : e ≤ N) (h0 : on (lit s0) = false) (h1 : on (opp (lit s0)) = false) : ∀ (f i : Nat), i ≤ s0 → s0 - i < f → (∀ s, i ≤ s → s < s0 → on (opp (lit s)) = true) → m_Sea_follow_L18 (stoT C N l1 l2 l3 n l5 L O X G S) se f tal (traT n len lev TL ON LV CA) x1 (nI e) (nI i) = (m_Tra_put (stoT C N l1 l2 l3 n l5 L O X G S) tal (traT n len lev TL ON LV CA) (nI (lit s0)) x1).bind fun r => some (r.1, r.2, (4 : Int32)) := by
  obtain ⟨⟨hC, hN, hn1, hn⟩, ⟨a1, a2, a3⟩, -, -, -, q1, -⟩ := h
  intro f
  induction f with
  | zero => intro i _ hf; omega
  | succ f ih =>
    intro i hi hf hd
    rw [m_Sea_follow_L18]
    have k1 : ¬ nI e ≤ nI i := nI_ge (by omega) (by omega)
    have k2 : ¬ (nI i < 0 ∨ l1 ≤ (nI i).toNatClampNeg) := nI_in (c := i) (N := l1) (by omega) (by omega)
    have ci : (nI i).toNatClampNeg = i := nI_clamp (by omega)
    obtain ⟨y1, y2, -⟩ := q1 i (by omega)
    show (if nI e ≤ nI i then _ else (if ¬ (nI i < 0 ∨ l1 ≤ (nI i).toNatClampNeg) then ((m_Tra_has (traT n len lev TL ON LV CA) (L (nI i).toNatClampNeg >>> ((1 : Int32) &&& 31))).bind fun r10 => (if r10 = 0 then ((m_Tra_put (stoT C N l1 l2 l3 n l5 L O X G S) tal (traT n len lev TL ON LV CA) (L (nI i).toNatClampNeg) x1).bind fun r12 => some (r12.1, r12.2, (4 : Int32))) else (m_Sea_follow_L18 (stoT C N l1 l2 l3 n l5 L O X G S) se f) tal (traT n len lev TL ON LV CA) x1 (nI e) (nI i + 1))) else none)) = _
    rw [if_neg k1, if_pos k2, ci, y1, shr1 (by omega), has_lit hR y2, bind_s]
    by_cases g : i = s0
    · subst g
      rw [if_neg (show ¬ (on (lit i) = true ∨ on (opp (lit i)) = true) by rw [h0, h1]; simp), if_pos rfl]
    · rw [if_pos (Or.inr (hd i (Nat.le_refl i) (by omega))), if_neg (by decide), nI_1]
      exact ih (i + 1) (by omega) (by omega) (fun s a b => hd s (by omega) b)
/-- follow(u) -/
theorem follow_ok {n C N l1 l2 l3 l5 : Nat} {L O X G S : Nat → Int32} {lit own start : Nat → Nat} (h : StoI n C N l1 l2 l3 l5 L O X G S lit own start) (se : T_Sea) {tal : T_Tal} {len lev : Nat} {TL ON LV CA : Nat → Int32} {tr lvl : Nat → Nat} {on : Nat → Bool} (hR : TraI n len lev TL ON LV tr on lvl) {u s0 : Nat} (hu : u < C) (hs0 : s0 < N) (ho : own s0 = u) (h0 : on (lit s0) = false) (h1 : on (opp (lit s0)) = false) (hd : ∀ s, s < N → own s = u → ¬ s = s0 → on (opp (lit s)) = true) : m_Sea_follow (stoT C N l1 l2 l3 n l5 L O X G S) se tal (traT n len lev TL ON LV CA) (nI u) = (m_Tra_put (stoT C N l1 l2 l3 n l5 L O X G S) tal (traT n len lev TL ON LV CA) (nI (lit s0)) (nI u)).bind fun r => some (r.1, r.2, (4 : Int32)) := by
  have hm := start_mono h
  have q4 : start C = N := h.2.2.2.2.2.2.2.2.1
  obtain ⟨b1, b2⟩ := (own_iff h hs0 hu).mp ho
  have e1 := hm C (u + 1) (by omega) (Nat.le_refl C)
  have hN : N ≤ 20000 := h.1.2.1
  unfold m_Sea_follow
  rw [endOf_ok h hu, bind_s, startOf_ok h hu, bind_s]
  refine follow_L h se (n2 := 0) (u := u) hR hs0 (nI u) (start (u + 1)) b2 (by omega) h0 h1 fu (start u) b1 (by unfold fu; omega) (fun s a b => hd s (by omega) ((own_iff h (by omega) hu).mpr ⟨a, by omega⟩) (by omega))
