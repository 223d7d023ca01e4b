/-! PURE, 7: what the Tally counts, as a literal comes to the trail and goes from it. on: which literals are on the trail -/
/-- slots of clause c below k whose literal is on the trail -/
def mcn (lit own : Nat → Nat) (on : Nat → Bool) (c : Nat) : Nat → Nat
  | 0 => 0
  | k + 1 => mcn lit own on c k + (if own k = c ∧ on (lit k) = true then 1 else 0)
/-- slots of clause c below k whose opposite is not on the trail -/
def qcn (lit own : Nat → Nat) (on : Nat → Bool) (c : Nat) : Nat → Nat
  | 0 => 0
  | k + 1 => qcn lit own on c k + (if own k = c ∧ on (opp (lit k)) = false then 1 else 0)
theorem up_s {α : Type} (f : Nat → α) (k : Nat) (v : α) : va_up f k v k = v := by
  show (if k = k then v else f k) = v
  rw [if_pos rfl]
theorem up_n {α : Type} (f : Nat → α) {k j : Nat} (v : α) (h : ¬ j = k) : va_up f k v j = f j := by
  show (if j = k then v else f j) = f j
  rw [if_neg h]
theorem mcn_add {lit own : Nat → Nat} {on : Nat → Bool} {l c : Nat} (h : on l = false) : ∀ k, mcn lit own (va_up on l true) c k = mcn lit own on c k + cnt lit own l c k := by
  intro k
  induction k with
  | zero => rfl
  | succ k ih =>
    show mcn lit own (va_up on l true) c k + (if own k = c ∧ va_up on l true (lit k) = true then 1 else 0) = mcn lit own on c k + (if own k = c ∧ on (lit k) = true then 1 else 0) + (cnt lit own l c k + (if lit k = l ∧ own k = c then 1 else 0))
    rw [ih]
    by_cases e : lit k = l
    · rw [e, up_s, h]
      by_cases g : own k = c
      · simp [g]; omega
      · simp [g]
    · rw [up_n on true e]
      simp [e]; omega
theorem opp_eq {a b : Nat} : opp a = b ↔ a = opp b := by
  constructor
  · intro q; rw [← q, opp_opp]
  · intro q; rw [q, opp_opp]
theorem qcn_add {lit own : Nat → Nat} {on : Nat → Bool} {l c : Nat} (h : on l = false) : ∀ k, qcn lit own (va_up on l true) c k + cnt lit own (opp l) c k = qcn lit own on c k := by
  intro k
  induction k with
  | zero => rfl
  | succ k ih =>
    show qcn lit own (va_up on l true) c k + (if own k = c ∧ va_up on l true (opp (lit k)) = false then 1 else 0) + (cnt lit own (opp l) c k + (if lit k = opp l ∧ own k = c then 1 else 0)) = qcn lit own on c k + (if own k = c ∧ on (opp (lit k)) = false then 1 else 0)
    rw [← ih]
    by_cases e : opp (lit k) = l
    · rw [e, up_s, h]
      have e2 : lit k = opp l := opp_eq.mp e
      by_cases g : own k = c
      · simp [g, e2]; omega
      · simp [g]
    · rw [up_n on true e]
      have e2 : ¬ lit k = opp l := fun q => e (opp_eq.mpr q)
      simp [e2]; omega
theorem up_back {on : Nat → Bool} {l : Nat} (h : on l = true) : va_up (va_up on l false) l true = on := by
  funext j
  by_cases e : j = l
  · subst e; rw [up_s, h]
  · rw [up_n _ true e, up_n _ false e]
/-- the Tally at a trail -/
def TalM (C N m1 m2 : Nat) (wd wu : Nat → Int64) (MB NF : Nat → Int32) (lit own : Nat → Nat) (on : Nat → Bool) : Prop :=
  TalB C m1 m2 wd wu MB NF ∧ (∀ c, c < C → MB c = Int32.ofInt (mcn lit own on c N : Int)) ∧ ∀ c, c < C → NF c = Int32.ofInt (qcn lit own on c N : Int)
theorem tal_put {n C N l1 l2 l3 l5 : Nat} {L O X G S : Nat → Int32} {lit own start : Nat → Nat} (h : StoI n C N l1 l2 l3 l5 L O X G S lit own start) {l : Nat} (hl : l < 2 * n) {m1 m2 : Nat} {wd wu : Nat → Int64} {MB NF : Nat → Int32} {on : Nat → Bool} (hT : TalM C N m1 m2 wd wu MB NF lit own on) (ho : on l = false) : ∃ wd' wu' MB' NF', m_Tal_move (stoT C N l1 l2 l3 n l5 L O X G S) (talT m1 m2 wd wu MB NF) (nI l) 1 = some (talT m1 m2 wd' wu' MB' NF') ∧ TalM C N m1 m2 wd' wu' MB' NF' lit own (va_up on l true) := by
  obtain ⟨hB, hM, hQ⟩ := hT
  obtain ⟨wd', wu', MB', NF', r1, r2, r3, r4⟩ := move_ok h 1 hl hB hM hQ
  refine ⟨wd', wu', MB', NF', r1, r2, fun c hc => ?_, fun c hc => ?_⟩
  · rw [r3 c hc, mcn_add ho N]
    congr 1
    push_cast
    omega
  · rw [r4 c hc]
    congr 1
    have := qcn_add (lit := lit) (own := own) (c := c) ho N
    omega
theorem tal_cut {n C N l1 l2 l3 l5 : Nat} {L O X G S : Nat → Int32} {lit own start : Nat → Nat} (h : StoI n C N l1 l2 l3 l5 L O X G S lit own start) {l : Nat} (hl : l < 2 * n) {m1 m2 : Nat} {wd wu : Nat → Int64} {MB NF : Nat → Int32} {on : Nat → Bool} (hT : TalM C N m1 m2 wd wu MB NF lit own on) (ho : on l = true) : ∃ wd' wu' MB' NF', m_Tal_move (stoT C N l1 l2 l3 n l5 L O X G S) (talT m1 m2 wd wu MB NF) (nI l) (-1) = some (talT m1 m2 wd' wu' MB' NF') ∧ TalM C N m1 m2 wd' wu' MB' NF' lit own (va_up on l false) := by
  obtain ⟨hB, hM, hQ⟩ := hT
  obtain ⟨wd', wu', MB', NF', r1, r2, r3, r4⟩ := move_ok h (-1) hl hB hM hQ
  have hf : va_up on l false l = false := up_s on l false
  refine ⟨wd', wu', MB', NF', r1, r2, fun c hc => ?_, fun c hc => ?_⟩
  · rw [r3 c hc]
    congr 1
    have := mcn_add (lit := lit) (own := own) (c := c) hf N
    rw [up_back ho] at this
    omega
  · rw [r4 c hc]
    congr 1
    have := qcn_add (lit := lit) (own := own) (c := c) hf N
    rw [up_back ho] at this
    omega
