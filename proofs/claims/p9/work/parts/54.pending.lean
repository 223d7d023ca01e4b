/-! PURE, 15: the first assumption that doesn't hold; a STEP and a decision -/
theorem pending_L {n k len lev : Nat} {A : Nat → Int32} {asl : Nat → Nat} (h : AssI n k A asl) (se : T_Sea) {TL ON LV CA : Nat → Int32} {tr lvl : Nat → Nat} {on : Nat → Bool} (hR : TraI n len lev TL ON LV tr on lvl) : ∀ (f i : Nat), i ≤ k → k - i < f → (∀ j, j < i → on (asl j) = true) → ∃ r, m_Sea_firstPendingAssumption_L2 (assT k A) (traT n len lev TL ON LV CA) se f (nI i) = some r ∧ ((∃ a, a < k ∧ on (asl a) = false ∧ (∀ j, j < a → on (asl j) = true) ∧ r = nI a) ∨ ((∀ j, j < k → on (asl j) = true) ∧ r = -1)) := by
  obtain ⟨h1, h2, h3⟩ := h
  intro f
  induction f with
  | zero => intro i _ hf; omega
  | succ f ih =>
    intro i hi hf hd
    rw [m_Sea_firstPendingAssumption_L2]
    by_cases e : i = k
    · subst e
      show ∃ r, (if nI i ≤ nI i then _ else _) = some r ∧ _
      rw [if_pos (nI_le (Nat.le_refl i) (by omega))]
      exact ⟨-1, rfl, Or.inr ⟨hd, rfl⟩⟩
    · have k1 : ¬ nI k ≤ nI i := nI_ge (by omega) (by omega)
      have k2 : ¬ (nI i < 0 ∨ 40 ≤ (nI i).toNatClampNeg) := nI_in (c := i) (N := 40) (by omega) (by omega)
      obtain ⟨y1, y2⟩ := h3 i (by omega)
      show ∃ r, (if nI k ≤ nI i then _ else (if ¬ (nI i < 0 ∨ 40 ≤ (nI i).toNatClampNeg) then ((m_Tra_holds (traT n len lev TL ON LV CA) (A (nI i).toNatClampNeg)).bind fun r4 => (if r4 = 0 then some (nI i) else (m_Sea_firstPendingAssumption_L2 (assT k A) (traT n len lev TL ON LV CA) se f) (nI i + 1))) else none)) = some r ∧ _
      rw [if_neg k1, if_pos k2, nI_clamp (by omega), y1, holds_ok hR y2, bind_s, nI_1]
      cases g : on (asl i) with
      | false =>
        rw [if_neg (show ¬ false = true by decide), if_pos rfl]
        exact ⟨nI i, rfl, Or.inl ⟨i, by omega, g, hd, rfl⟩⟩
      | true =>
        rw [if_pos rfl, if_neg (by decide)]
        refine ih (i + 1) (by omega) (by omega) (fun j hj => ?_)
        by_cases q : j = i
        · rw [q]; exact g
        · exact hd j (by omega)
theorem pending_ok {n k len lev : Nat} {A : Nat → Int32} {asl : Nat → Nat} (h : AssI n k A asl) (se : T_Sea) {TL ON LV CA : Nat → Int32} {tr lvl : Nat → Nat} {on : Nat → Bool} (hR : TraI n len lev TL ON LV tr on lvl) : ∃ r, m_Sea_firstPendingAssumption (assT k A) (traT n len lev TL ON LV CA) se = some r ∧ ((∃ a, a < k ∧ on (asl a) = false ∧ (∀ j, j < a → on (asl j) = true) ∧ r = nI a) ∨ ((∀ j, j < k → on (asl j) = true) ∧ r = -1)) :=
  pending_L h se hR fu 0 (by omega) (by have := h.1; unfold fu; omega) (fun j hj => absurd hj (by omega))
theorem lg_gt0 (x : Int64) : 0 < lg_cmp x 0 ↔ 0 < x := by
  unfold lg_cmp
  by_cases h1 : x > 0
  · rw [if_pos h1]
    exact ⟨fun _ => h1, fun _ => by decide⟩
  · rw [if_neg h1]
    by_cases h2 : x = 0
    · rw [if_pos h2]
      exact ⟨fun q => absurd q (by decide), fun q => absurd q h1⟩
    · rw [if_neg h2]
      exact ⟨fun q => absurd q (by decide), fun q => absurd q h1⟩
/-- a trail at one level more -/
theorem tra_up {n len lev : Nat} {TL ON LV : Nat → Int32} {tr lvl : Nat → Nat} {on : Nat → Bool} (hR : TraI n len lev TL ON LV tr on lvl) (h : lev + 1 ≤ 1000) : TraI n len (lev + 1) TL ON LV tr on lvl := by
  obtain ⟨⟨z1, z2, z3, z4⟩, t1, t2, t3, t4, t5⟩ := hR
  refine ⟨⟨z1, z2, z3, h⟩, fun i hi => ?_, t2, t3, t4, t5⟩
  obtain ⟨y1, y2, y3, y4, y5, y6, y7⟩ := t1 i hi
  exact ⟨y1, y2, y3, y4, y5, y6, by omega⟩
/-- decide(l): with a STEP left, a level of its own; without one: SPENT, and nothing changes -/
theorem decide_ok {n C N l1 l2 l3 l5 : Nat} {L O X G S : Nat → Int32} {lit own start : Nat → Nat} (h : StoI n C N l1 l2 l3 l5 L O X G S lit own start) {m1 m2 : Nat} {wd wu : Nat → Int64} {MB NF : Nat → Int32} {on : Nat → Bool} (hT : TalM C N m1 m2 wd wu MB NF lit own on) {len lev : Nat} {TL ON LV CA : Nat → Int32} {tr lvl : Nat → Nat} (hR : TraI n len lev TL ON LV tr on lvl) (hlev : lev + 1 ≤ 1000) {l : Nat} (hl : l < 2 * n) (ho : on l = false) (ho2 : on (opp l) = false) (hlen : len < n) (rc : Int32) (us : Int64) (tc : Int32) (mk co : Arr) (cc : Int32) (rn : Arr) (lf : Int64) : (¬ 0 < lf ∧ m_Sea_decide (stoT C N l1 l2 l3 n l5 L O X G S) (talT m1 m2 wd wu MB NF) (traT n len lev TL ON LV CA) (rc, us, tc, mk, co, cc, rn, lf) (nI l) = some (talT m1 m2 wd wu MB NF, traT n len lev TL ON LV CA, (rc, us, tc, mk, co, cc, rn, lf), 3)) ∨ (0 < lf ∧ ∃ wd' wu' MB' NF', m_Sea_decide (stoT C N l1 l2 l3 n l5 L O X G S) (talT m1 m2 wd wu MB NF) (traT n len lev TL ON LV CA) (rc, us, tc, mk, co, cc, rn, lf) (nI l) = some (talT m1 m2 wd' wu' MB' NF', traT n (len + 1) (lev + 1) (upd TL len (nI l)) (upd ON (l / 2) (nI l)) (upd LV (l / 2) (nI (lev + 1))) (upd CA (l / 2) (-1)), (rc, us + 1, tc, mk, co, cc, rn, lf - 1), 4) ∧ TalM C N m1 m2 wd' wu' MB' NF' lit own (va_up on l true) ∧ TraI n (len + 1) (lev + 1) (upd TL len (nI l)) (upd ON (l / 2) (nI l)) (upd LV (l / 2) (nI (lev + 1))) (va_up tr len l) (va_up on l true) (va_up lvl (l / 2) (lev + 1))) := by
  unfold m_Sea_decide m_Sea_countStep
  by_cases g : 0 < lf
  · obtain ⟨wd', wu', MB', NF', r1, r2, r3⟩ := put_ok h hT (tra_up hR hlev) hl ho ho2 hlen (CA := CA) (-1)
    refine Or.inr ⟨g, wd', wu', MB', NF', ?_, r2, r3⟩
    show (if 0 < lg_cmp lf 0 then _ else _) = _
    rw [if_pos ((lg_gt0 lf).mpr g), bind_s]
    show ((m_Tra_put (stoT C N l1 l2 l3 n l5 L O X G S) (talT m1 m2 wd wu MB NF) (nI len, nI lev + 1, (n, TL), (n, ON), (n, LV), (n, CA)) (nI l) (-1)).bind _) = _
    rw [nI_1, r1, bind_s]
  · refine Or.inl ⟨g, ?_⟩
    show (if 0 < lg_cmp lf 0 then _ else _) = _
    rw [if_neg (fun q => g ((lg_gt0 lf).mp q))]
