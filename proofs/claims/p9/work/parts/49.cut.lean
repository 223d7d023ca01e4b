/-! PURE, 10: the Trail is cut -/
/-- the trail without its last literal -/
theorem tra_pop {n k lev : Nat} {TL ON LV : Nat → Int32} {tr lvl : Nat → Nat} {on : Nat → Bool} (hR : TraI n (k + 1) lev TL ON LV tr on lvl) : TraI n k lev TL (upd ON (tr k / 2) (-1)) LV tr (va_up on (tr k) false) lvl := by
  obtain ⟨⟨z1, z2, z3, z4⟩, t1, t2, t3, t4, t5⟩ := hR
  have fr : ∀ i, i < k → ¬ tr i / 2 = tr k / 2 := fun i hi q => by
    have := t5 i k (by omega) (by omega) q
    omega
  refine ⟨⟨z1, z2, by omega, z4⟩, fun i hi => ?_, fun t ht a b => ?_, fun l hl => ?_, fun i j hij hj => t4 i j hij (by omega), fun i j hi hj e => t5 i j (by omega) (by omega) e⟩
  · obtain ⟨y1, y2, y3, y4, y5, y6, y7⟩ := t1 i (by omega)
    have f := fr i hi
    have f1 : ¬ tr i = tr k := fun q => f (by rw [q])
    have f2 : ¬ opp (tr i) = tr k := fun q => f (by rw [← opp_half, q])
    rw [up_n on false f1, up_n on false f2, pk_un f]
    exact ⟨y1, y2, y3, y4, y5, y6, y7⟩
  · by_cases e : t = tr k / 2
    · subst e; exact pk_us
    · rw [pk_un e]
      rw [up_n on false (by omega)] at a
      rw [up_n on false (by omega)] at b
      exact t2 t ht a b
  · by_cases e : l = tr k
    · rw [e, up_s] at hl; exact absurd hl (by decide)
    · rw [up_n on false e] at hl
      obtain ⟨i, hi, ei⟩ := t3 l hl
      refine ⟨i, ?_, ei⟩
      by_cases g : i = k
      · subst g; exact absurd ei.symm e
      · omega
theorem m1_0 : nI 0 - 1 = (-1 : Int32) := by decide
theorem cut_L {n C N l1 l2 l3 l5 : Nat} {L O X G S : Nat → Int32} {lit own start : Nat → Nat} (h : StoI n C N l1 l2 l3 l5 L O X G S lit own start) {m1 m2 lev g : Nat} (hg : g ≤ 1000) {TL LV CA : Nat → Int32} {tr lvl : Nat → Nat} : ∀ (f k : Nat) (wd wu : Nat → Int64) (MB NF ON : Nat → Int32) (on : Nat → Bool), k < f → TalM C N m1 m2 wd wu MB NF lit own on → TraI n k lev TL ON LV tr on lvl → ∃ k' wd' wu' MB' NF' ON' on', m_Tra_cutAbove_L7 (stoT C N l1 l2 l3 n l5 L O X G S) f (talT m1 m2 wd wu MB NF) (traT n k lev TL ON LV CA) (nI g) (nI k - 1) = some (talT m1 m2 wd' wu' MB' NF', traT n k' g TL ON' LV CA) ∧ TalM C N m1 m2 wd' wu' MB' NF' lit own on' ∧ TraI n k' g TL ON' LV tr on' lvl ∧ k' ≤ k ∧ (∀ i, i < k' → lvl (tr i / 2) ≤ g) ∧ (∀ i, k' ≤ i → i < k → g < lvl (tr i / 2)) ∧ ∀ l, on' l = true ↔ ∃ i, i < k' ∧ tr i = l := by
  intro f
  induction f with
  | zero => intro k wd wu MB NF ON on hf; omega
  | succ f ih =>
    intro k wd wu MB NF ON on hf hT hR
    rw [m_Tra_cutAbove_L7]
    have fin : (∀ i, i < k → lvl (tr i / 2) ≤ g) → ∃ k' wd' wu' MB' NF' ON' on', m_Tra_cutAbove_B67 (stoT C N l1 l2 l3 n l5 L O X G S) (talT m1 m2 wd wu MB NF) (traT n k lev TL ON LV CA) (nI g) = some (talT m1 m2 wd' wu' MB' NF', traT n k' g TL ON' LV CA) ∧ TalM C N m1 m2 wd' wu' MB' NF' lit own on' ∧ TraI n k' g TL ON' LV tr on' lvl ∧ k' ≤ k ∧ (∀ i, i < k' → lvl (tr i / 2) ≤ g) ∧ (∀ i, k' ≤ i → i < k → g < lvl (tr i / 2)) ∧ ∀ l, on' l = true ↔ ∃ i, i < k' ∧ tr i = l := fun hh => by
      obtain ⟨⟨z1, z2, z3, z4⟩, t1, t2, t3, t4, t5⟩ := hR
      refine ⟨k, wd, wu, MB, NF, ON, on, rfl, hT, ⟨⟨z1, z2, z3, hg⟩, fun i hi => ?_, t2, t3, t4, t5⟩, Nat.le_refl k, hh, fun i a b => absurd b (by omega), fun l => ⟨t3 l, fun ⟨i, hi, e⟩ => e ▸ (t1 i hi).2.2.1⟩⟩
      obtain ⟨y1, y2, y3, y4, y5, y6, y7⟩ := t1 i hi
      exact ⟨y1, y2, y3, y4, y5, y6, hh i hi⟩
    cases k with
    | zero =>
      rw [m1_0, if_pos (by decide)]
      exact fin (fun i hi => absurd hi (by omega))
    | succ k =>
      obtain ⟨⟨z1, z2, z3, z4⟩, t1, t2, t3, t4, t5⟩ := id hR
      obtain ⟨y1, y2, y3, y4, y5, y6, y7⟩ := t1 k (by omega)
      rw [nI_pred]
      have k1 : ¬ nI k < 0 := nI_pos (by omega)
      have c1 : (nI k).toNatClampNeg = k := nI_clamp (by omega)
      have k2 : ¬ (nI k < 0 ∨ n ≤ k) := fun q => q.elim k1 (by omega)
      have c2 : (nI (tr k / 2)).toNatClampNeg = tr k / 2 := nI_clamp (by omega)
      have k3 : ¬ (nI (tr k / 2) < 0 ∨ n ≤ tr k / 2) := fun q => q.elim (nI_pos (by omega)) (by omega)
      rw [if_neg k1]
      show ∃ k' wd' wu' MB' NF' ON' on', (if ¬ (nI k < 0 ∨ n ≤ (nI k).toNatClampNeg) then (if ¬ ((TL (nI k).toNatClampNeg >>> ((1 : Int32) &&& 31)) < 0 ∨ n ≤ (TL (nI k).toNatClampNeg >>> ((1 : Int32) &&& 31)).toNatClampNeg) then (if LV (TL (nI k).toNatClampNeg >>> ((1 : Int32) &&& 31)).toNatClampNeg ≤ nI g then (m_Tra_cutAbove_B67 (stoT C N l1 l2 l3 n l5 L O X G S) (talT m1 m2 wd wu MB NF) (traT n (k + 1) lev TL ON LV CA) (nI g)) else (if ¬ (nI k < 0 ∨ n ≤ (nI k).toNatClampNeg) then (if ¬ ((TL (nI k).toNatClampNeg >>> ((1 : Int32) &&& 31)) < 0 ∨ n ≤ (TL (nI k).toNatClampNeg >>> ((1 : Int32) &&& 31)).toNatClampNeg) then (if ¬ (nI k < 0 ∨ n ≤ (nI k).toNatClampNeg) then ((m_Tal_move (stoT C N l1 l2 l3 n l5 L O X G S) (talT m1 m2 wd wu MB NF) (TL (nI k).toNatClampNeg) (-1 : Int32)).bind fun r8 => ((m_Tra_cutAbove_L7 (stoT C N l1 l2 l3 n l5 L O X G S) f) r8 (nI k, nI lev, (n, TL), (n, upd ON (TL (nI k).toNatClampNeg >>> ((1 : Int32) &&& 31)).toNatClampNeg (-1 : Int32)), (n, LV), (n, CA)) (nI g) (nI k + (-1)))) else none) else none) else none)) else none) else none) = _ ∧ _
      rw [c1, if_pos k2, y1, shr1 (by omega), c2, if_pos k3, y6]
      by_cases hv : lvl (tr k / 2) ≤ g
      · rw [if_pos (nI_le hv (by omega))]
        refine fin (fun i hi => ?_)
        by_cases e : i = k
        · rw [e]; exact hv
        · exact Nat.le_trans (t4 i k (by omega) (by omega)) hv
      · rw [if_neg (nI_ge (by omega) (by omega)), if_pos k2, if_pos k3, if_pos k2]
        obtain ⟨wd1, wu1, MB1, NF1, r1, r2⟩ := tal_cut h y2 hT y3
        rw [r1, bind_s]
        obtain ⟨k', wd', wu', MB', NF', ON', on', s1, s2, s3, s4, s5, s6, s7⟩ := ih k wd1 wu1 MB1 NF1 (upd ON (tr k / 2) (-1)) (va_up on (tr k) false) (by omega) r2 (tra_pop hR)
        refine ⟨k', wd', wu', MB', NF', ON', on', ?_, s2, s3, by omega, s5, fun i a b => ?_, s7⟩
        · have e3 : nI k + (-1 : Int32) = nI k - 1 := by
            rw [Int32.sub_eq_add_neg]
          rw [e3]
          exact s1
        · by_cases e : i = k
          · rw [e]; omega
          · exact s6 i a (by omega)
/-- cutAbove(g) -/
theorem cut_ok {n C N l1 l2 l3 l5 : Nat} {L O X G S : Nat → Int32} {lit own start : Nat → Nat} (h : StoI n C N l1 l2 l3 l5 L O X G S lit own start) {m1 m2 lev g len : Nat} (hg : g ≤ 1000) {TL LV CA ON : Nat → Int32} {tr lvl : Nat → Nat} {wd wu : Nat → Int64} {MB NF : Nat → Int32} {on : Nat → Bool} (hT : TalM C N m1 m2 wd wu MB NF lit own on) (hR : TraI n len lev TL ON LV tr on lvl) : ∃ k' wd' wu' MB' NF' ON' on', m_Tra_cutAbove (stoT C N l1 l2 l3 n l5 L O X G S) (talT m1 m2 wd wu MB NF) (traT n len lev TL ON LV CA) (nI g) = some (talT m1 m2 wd' wu' MB' NF', traT n k' g TL ON' LV CA) ∧ TalM C N m1 m2 wd' wu' MB' NF' lit own on' ∧ TraI n k' g TL ON' LV tr on' lvl ∧ k' ≤ len ∧ (∀ i, i < k' → lvl (tr i / 2) ≤ g) ∧ (∀ i, k' ≤ i → i < len → g < lvl (tr i / 2)) ∧ ∀ l, on' l = true ↔ ∃ i, i < k' ∧ tr i = l :=
  cut_L h hg fu len wd wu MB NF ON on (by have := hR.1; unfold fu; omega) hT hR
