/-! PURE, 13: the assumptions of the class -/
abbrev assT (k : Nat) (A : Nat → Int32) : T_Ass := (nI k, (40, A))
def AssI (n k : Nat) (A : Nat → Int32) (asl : Nat → Nat) : Prop := k ≤ 40 ∧ n ≤ 300 ∧ ∀ i, i < k → A i = nI (asl i) ∧ asl i < 2 * n
theorem isThing_ok {n : Nat} (hn : n ≤ 300) (hand st x : Int32) : (m_CS_isThing (nI n, hand, st) x = some 0 ∧ ¬ ∃ t, t < n ∧ x = nI t) ∨ ∃ t, t < n ∧ x = nI t ∧ m_CS_isThing (nI n, hand, st) x = some 1 := by
  unfold m_CS_isThing
  show ((if x < 0 then some (0 : Int32) else if nI n ≤ x then some 0 else some 1) = some 0 ∧ _) ∨ ∃ t, t < n ∧ x = nI t ∧ (if x < 0 then some (0 : Int32) else if nI n ≤ x then some 0 else some 1) = some 1
  rcases pk_ix x (n := n) (by omega) with h | h | ⟨j, hj, rfl⟩
  · refine Or.inl ⟨by rw [if_pos h], fun ⟨t, ht, e⟩ => ?_⟩
    rw [e] at h
    exact nI_pos (by omega) h
  · refine Or.inl ⟨?_, fun ⟨t, ht, e⟩ => ?_⟩
    · by_cases q : x < 0
      · rw [if_pos q]
      · rw [if_neg q, if_pos h]
    · rw [e] at h
      exact nI_ge ht (by omega) h
  · refine Or.inr ⟨j, hj, rfl, ?_⟩
    rw [if_neg (nI_pos (by omega)), if_neg (nI_ge hj (by omega))]
theorem concerns_L {n k : Nat} {A : Nat → Int32} {asl : Nat → Nat} (h : AssI n k A asl) {t : Nat} (ht : t < n) : ∀ (f i : Nat), i ≤ k → k - i < f → (∀ j, j < i → ¬ asl j / 2 = t) → ∃ r, m_Ass_concerns_L2 (assT k A) f (nI t) (nI i) = some r ∧ ((r = 0 ∧ ∀ j, j < k → ¬ asl j / 2 = t) ∨ (r = 1 ∧ ∃ j, j < k ∧ asl j / 2 = t)) := by
  obtain ⟨h1, h2, h3⟩ := h
  intro f
  induction f with
  | zero => intro i _ hf; omega
  | succ f ih =>
    intro i hi hf hd
    rw [m_Ass_concerns_L2]
    by_cases e : i = k
    · subst e
      show ∃ r, (if nI i ≤ nI i then _ else _) = some r ∧ _
      rw [if_pos (nI_le (Nat.le_refl i) (by omega))]
      exact ⟨0, rfl, Or.inl ⟨rfl, hd⟩⟩
    · have k1 : ¬ nI k ≤ nI i := nI_ge (by omega) (by omega)
      have k2 : ¬ (nI i < 0 ∨ 40 ≤ (nI i).toNatClampNeg) := nI_in (c := i) (N := 40) (by omega) (by omega)
      obtain ⟨y1, y2⟩ := h3 i (by omega)
      show ∃ r, (if nI k ≤ nI i then _ else (if ¬ (nI i < 0 ∨ 40 ≤ (nI i).toNatClampNeg) then (if A (nI i).toNatClampNeg >>> ((1 : Int32) &&& 31) = nI t then some (1 : Int32) else (m_Ass_concerns_L2 (assT k A) f) (nI t) (nI i + 1)) else none)) = some r ∧ _
      rw [if_neg k1, if_pos k2, nI_clamp (by omega), y1, shr1 (by omega), nI_1]
      by_cases g : asl i / 2 = t
      · rw [g, if_pos rfl]
        exact ⟨1, rfl, Or.inr ⟨rfl, i, by omega, g⟩⟩
      · have g2 : ¬ nI (asl i / 2) = nI t := fun q => g ((nI_eq (by omega) (by omega)).mp q)
        rw [if_neg g2]
        refine ih (i + 1) (by omega) (by omega) (fun j hj => ?_)
        by_cases q : j = i
        · rw [q]; exact g
        · exact hd j (by omega)
def bv (x : Int32) : Nat := if x = 0 then 0 else 1
theorem literalOf_ok {t : Nat} (x : Int32) : m_CS_literalOf (nI t) x = some (nI (2 * t + bv x)) := by
  unfold m_CS_literalOf bv
  have e : (2 : Int32) * nI t = nI (2 * t) := pk_mul 2 t
  by_cases h : x = 0
  · rw [if_pos h, if_pos h, e, show (0 : Int32) = nI 0 from rfl, nI_add]
  · rw [if_neg h, if_neg h, e, show (1 : Int32) = nI 1 from rfl, nI_add]
/-- when an assumption is taken -/
def mayAssume (n k : Nat) (asl : Nat → Nat) (x : Int32) (t : Nat) : Prop := t < n ∧ x = nI t ∧ k < 40 ∧ ∀ j, j < k → ¬ asl j / 2 = t
theorem assume_ok {n k : Nat} {A : Nat → Int32} {asl : Nat → Nat} (h : AssI n k A asl) (hand st x1 x2 : Int32) : (m_CS_assume (nI n, hand, st) (assT k A) x1 x2 = some ((nI n, hand, st), assT k A, 0) ∧ ¬ ∃ t, mayAssume n k asl x1 t) ∨ ∃ t, mayAssume n k asl x1 t ∧ m_CS_assume (nI n, hand, st) (assT k A) x1 x2 = some ((nI n, hand, 1), assT (k + 1) (upd A k (nI (2 * t + bv x2))), 1) ∧ AssI n (k + 1) (upd A k (nI (2 * t + bv x2))) (va_up asl k (2 * t + bv x2)) := by
  obtain ⟨h1, h2, h3⟩ := id h
  have hb : bv x2 ≤ 1 := by
    unfold bv
    by_cases q : x2 = 0
    · rw [if_pos q]; omega
    · rw [if_neg q]; omega
  unfold m_CS_assume
  rcases isThing_ok h2 hand st x1 with ⟨e, ne⟩ | ⟨t, ht, rfl, e⟩
  · rw [e, bind_s, if_pos rfl]
    exact Or.inl ⟨rfl, fun ⟨t, a, b, _⟩ => ne ⟨t, a, b⟩⟩
  · rw [e, bind_s, if_neg (by decide)]
    by_cases hk : k < 40
    · have f0 : m_Ass_isFull (assT k A) = some 0 := by
        unfold m_Ass_isFull
        have q : nI k < (40 : Int32) := nI_lt (a := k) (b := 40) hk (by omega)
        show (if nI k < (40 : Int32) then _ else _) = _
        rw [if_pos q]
      rw [f0, bind_s, if_pos rfl]
      obtain ⟨r, e1, e2⟩ := concerns_L h ht fu 0 (by omega) (by unfold fu; omega) (fun j hj => absurd hj (by omega))
      have e1' : m_Ass_concerns (assT k A) (nI t) = some r := e1
      rw [e1', bind_s]
      rcases e2 with ⟨rfl, g⟩ | ⟨rfl, j, hj, g⟩
      · rw [if_pos rfl, literalOf_ok, bind_s]
        refine Or.inr ⟨t, ⟨ht, rfl, hk, g⟩, ?_, ⟨by omega, h2, fun i hi => ?_⟩⟩
        · unfold m_Ass_append
          have k2 : ¬ (nI k < 0 ∨ 40 ≤ (nI k).toNatClampNeg) := nI_in (c := k) (N := 40) hk (by omega)
          rw [f0, bind_s, if_pos rfl]
          show ((if ¬ (nI k < 0 ∨ 40 ≤ (nI k).toNatClampNeg) then some (nI k + 1, (40, upd A (nI k).toNatClampNeg (nI (2 * t + bv x2)))) else none).bind _) = _
          rw [if_pos k2, bind_s, nI_clamp (by omega), nI_1]
        · by_cases q : i = k
          · subst q
            rw [pk_us, up_s]
            exact ⟨rfl, by omega⟩
          · rw [pk_un q, up_n asl _ q]
            exact h3 i (by omega)
      · rw [if_neg (by decide)]
        exact Or.inl ⟨rfl, fun ⟨t', a, b, c, d⟩ => by
          have : t = t' := (nI_eq (by omega) (by omega)).mp b
          subst this
          exact d j hj g⟩
    · have f0 : m_Ass_isFull (assT k A) = some 1 := by
        unfold m_Ass_isFull
        have q : ¬ nI k < (40 : Int32) := nI_nlt (a := k) (b := 40) (by omega) (by omega)
        show (if nI k < (40 : Int32) then _ else _) = _
        rw [if_neg q]
      rw [f0, bind_s, if_neg (by decide)]
      exact Or.inl ⟨rfl, fun ⟨t', a, b, c, d⟩ => hk c⟩
