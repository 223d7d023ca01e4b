/-! PURE, 9: the Trail. tr: place to literal; on: which literals are on it; lvl: thing to level -/
abbrev traT (n len lev : Nat) (TL ON LV CA : Nat → Int32) : T_Tra := (nI len, nI lev, (n, TL), (n, ON), (n, LV), (n, CA))
def TraI (n len lev : Nat) (TL ON LV : Nat → Int32) (tr : Nat → Nat) (on : Nat → Bool) (lvl : Nat → Nat) : Prop :=
  (1 ≤ n ∧ n ≤ 300 ∧ len ≤ n ∧ lev ≤ 1000) ∧
  (∀ i, i < len → TL i = nI (tr i) ∧ tr i < 2 * n ∧ on (tr i) = true ∧ on (opp (tr i)) = false ∧ ON (tr i / 2) = nI (tr i) ∧ LV (tr i / 2) = nI (lvl (tr i / 2)) ∧ lvl (tr i / 2) ≤ lev) ∧
  (∀ t, t < n → on (2 * t) = false → on (2 * t + 1) = false → ON t = -1) ∧
  (∀ l, on l = true → ∃ i, i < len ∧ tr i = l) ∧
  (∀ i j, i < j → j < len → lvl (tr i / 2) ≤ lvl (tr j / 2)) ∧
  (∀ i j, i < len → j < len → tr i / 2 = tr j / 2 → i = j)
theorem shr1 {l : Nat} (h : l < 2 ^ 31) : nI l >>> ((1 : Int32) &&& 31) = nI (l / 2) := pk_shrN (n := l) h _ 1 (by decide)
theorem same_thing {a b : Nat} (h : a / 2 = b / 2) : a = b ∨ a = opp b := by
  unfold opp
  by_cases q : b % 2 = 0
  · rw [if_pos q]; omega
  · rw [if_neg q]; omega
/-- put(l, because): the literal comes to the trail at the present level -/
theorem put_ok {n C N l1 l2 l3 l5 : Nat} {L O X G S : Nat → Int32} {lit own start : Nat → Nat} (h : StoI n C N l1 l2 l3 l5 L O X G S lit own start) {m1 m2 : Nat} {wd wu : Nat → Int64} {MB NF : Nat → Int32} {on : Nat → Bool} (hT : TalM C N m1 m2 wd wu MB NF lit own on) {len lev : Nat} {TL ON LV CA : Nat → Int32} {tr lvl : Nat → Nat} (hR : TraI n len lev TL ON LV tr on lvl) {l : Nat} (hl : l < 2 * n) (ho : on l = false) (ho2 : on (opp l) = false) (hlen : len < n) (x2 : Int32) : ∃ wd' wu' MB' NF', m_Tra_put (stoT C N l1 l2 l3 n l5 L O X G S) (talT m1 m2 wd wu MB NF) (traT n len lev TL ON LV CA) (nI l) x2 = some (talT m1 m2 wd' wu' MB' NF', traT n (len + 1) lev (upd TL len (nI l)) (upd ON (l / 2) (nI l)) (upd LV (l / 2) (nI lev)) (upd CA (l / 2) x2)) ∧ TalM C N m1 m2 wd' wu' MB' NF' lit own (va_up on l true) ∧ TraI n (len + 1) lev (upd TL len (nI l)) (upd ON (l / 2) (nI l)) (upd LV (l / 2) (nI lev)) (va_up tr len l) (va_up on l true) (va_up lvl (l / 2) lev) := by
  obtain ⟨⟨z1, z2, z3, z4⟩, t1, t2, t3, t4, t5⟩ := hR
  obtain ⟨wd', wu', MB', NF', r1, r2⟩ := tal_put h hl hT ho
  have fr : ∀ i, i < len → ¬ tr i / 2 = l / 2 := fun i hi q => by
    have hi2 := t1 i hi
    rcases same_thing q with e | e
    · rw [e, ho] at hi2; exact absurd hi2.2.2.1 (by decide)
    · rw [e, ho2] at hi2; exact absurd hi2.2.2.1 (by decide)
  have k1 : ¬ nI (l / 2) < 0 := nI_pos (by omega)
  have k2 : ¬ Int32.ofNat n ≤ nI (l / 2) := nI_ge (a := l / 2) (b := n) (by omega) (by omega)
  have k3 : nI len < Int32.ofNat n := nI_lt (a := len) (b := n) hlen (by omega)
  have k4 : ¬ (nI len < 0 ∨ n ≤ (nI len).toNatClampNeg) := nI_in (c := len) (N := n) hlen (by omega)
  have k5 : ¬ (nI (l / 2) < 0 ∨ n ≤ (nI (l / 2)).toNatClampNeg) := nI_in (c := l / 2) (N := n) (by omega) (by omega)
  have c1 : (nI len).toNatClampNeg = len := nI_clamp (by omega)
  have c2 : (nI (l / 2)).toNatClampNeg = l / 2 := nI_clamp (by omega)
  have u1 : ∀ i, i < len → va_up tr len l i = tr i := fun i hi => up_n tr l (by omega)
  refine ⟨wd', wu', MB', NF', ?_, r2, ⟨z1, z2, by omega, z4⟩, fun i hi => ?_, fun t ht a b => ?_, fun k hk => ?_, fun i j hij hj => ?_, fun i j hi hj e => ?_⟩
  · unfold m_Tra_put
    rw [shr1 (by omega)]
    show (if nI (l / 2) < 0 then _ else (if Int32.ofNat n ≤ nI (l / 2) then _ else (if nI len < Int32.ofNat n then (if ¬ (nI len < 0 ∨ n ≤ (nI len).toNatClampNeg) then (if ¬ (nI (l / 2) < 0 ∨ n ≤ (nI (l / 2)).toNatClampNeg) then (if ¬ (nI (l / 2) < 0 ∨ n ≤ (nI (l / 2)).toNatClampNeg) then (if ¬ (nI (l / 2) < 0 ∨ n ≤ (nI (l / 2)).toNatClampNeg) then ((m_Tal_move (stoT C N l1 l2 l3 n l5 L O X G S) (talT m1 m2 wd wu MB NF) (nI l) 1).bind _) else none) else none) else none) else none) else _))) = _
    rw [if_neg k1, if_neg k2, if_pos k3, if_pos k4, if_pos k5, if_pos k5, if_pos k5, r1, bind_s, c1, c2]
    show some (talT m1 m2 wd' wu' MB' NF', (nI len + 1, nI lev, (n, upd TL len (nI l)), (n, upd ON (l / 2) (nI l)), (n, upd LV (l / 2) (nI lev)), (n, upd CA (l / 2) x2))) = _
    rw [nI_1]
  · by_cases e : i = len
    · subst e
      rw [up_s, pk_us, up_s, pk_us, pk_us, up_s]
      exact ⟨rfl, hl, rfl, by rw [up_n on true (opp_ne l)]; exact ho2, rfl, rfl, Nat.le_refl lev⟩
    · have hi2 : i < len := by omega
      obtain ⟨y1, y2, y3, y4, y5, y6, y7⟩ := t1 i hi2
      have f := fr i hi2
      have f1 : ¬ tr i = l := fun q => f (by rw [q])
      have f2 : ¬ opp (tr i) = l := fun q => f (by rw [← opp_half, q])
      rw [u1 i hi2, pk_un e, up_n on true f1, up_n on true f2, pk_un f, pk_un f, up_n lvl lev f]
      exact ⟨y1, y2, y3, y4, y5, y6, y7⟩
  · have n1 : ¬ t = l / 2 := fun q => by
      have : l = 2 * t ∨ l = 2 * t + 1 := by omega
      rcases this with e | e
      · rw [← e, up_s] at a; exact absurd a (by decide)
      · rw [← e, up_s] at b; exact absurd b (by decide)
    rw [pk_un n1]
    rw [up_n on true (by omega)] at a
    rw [up_n on true (by omega)] at b
    exact t2 t ht a b
  · by_cases e : k = l
    · exact ⟨len, by omega, by rw [up_s, e]⟩
    · rw [up_n on true e] at hk
      obtain ⟨i, hi, ei⟩ := t3 k hk
      exact ⟨i, by omega, by rw [u1 i hi]; exact ei⟩
  · have hi2 : i < len := by omega
    rw [u1 i hi2, up_n lvl lev (fr i hi2)]
    by_cases e : j = len
    · subst e
      rw [up_s, up_s]
      exact (t1 i hi2).2.2.2.2.2.2
    · have hj2 : j < len := by omega
      rw [u1 j hj2, up_n lvl lev (fr j hj2)]
      exact t4 i j hij hj2
  · by_cases e1 : i = len
    · by_cases e2 : j = len
      · omega
      · have hj2 : j < len := by omega
        rw [e1, up_s, u1 j hj2] at e
        exact absurd e.symm (fr j hj2)
    · have hi2 : i < len := by omega
      by_cases e2 : j = len
      · rw [e2, up_s, u1 i hi2] at e
        exact absurd e (fr i hi2)
      · have hj2 : j < len := by omega
        rw [u1 i hi2, u1 j hj2] at e
        exact t5 i j hi2 hj2 e
