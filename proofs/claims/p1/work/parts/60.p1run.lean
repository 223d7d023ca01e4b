/-! PURE, 16: run() of the class on a fresh object: turn after turn the least thing comes as false -/
theorem sto0 {n : Nat} (h0 : 1 ≤ n) (hn : n ≤ 300) {gs : Nat → Int32} (hg : ∀ j, j < 2 * n → gs j = -1) : StoI n 0 0 32 32 32 16 (fun _ => 0) (fun _ => 0) (fun _ => 0) gs (fun _ => 0) (fun _ => 0) (fun _ => 0) (fun _ => 0) :=
  ⟨⟨by omega, by omega, h0, hn⟩, ⟨by omega, by omega, by omega⟩, ⟨by omega, by omega, by omega⟩, ⟨by omega, by omega, by omega⟩, ⟨by omega, by omega, by omega⟩, fun s hs => absurd hs (by omega), fun l hl => hg l hl, fun c hc => absurd hc (by omega), rfl, fun c hc => absurd hc (by omega), fun s hs => absurd hs (by omega)⟩
/-- what a search with no clauses comes to, k things before its end, with l STEPS -/
def resN : Nat → Int64 → Int32
  | 0, _ => 0
  | k + 1, l => if 0 < l then resN k (l - 1) else 3
theorem resN_cap (k : Nat) (x : Int64) : resN k (if x < 0 then 0 else x) = resN k x := by
  by_cases h : x < 0
  · rw [if_pos h]
    cases k with
    | zero => rfl
    | succ k =>
      have q : ¬ (0 : Int64) < x := fun q => by
        rw [Int64.lt_iff_toInt_lt] at h q
        omega
      show (if (0 : Int64) < 0 then resN k (0 - 1) else 3) = if 0 < x then resN k (x - 1) else 3
      rw [if_neg (by decide), if_neg q]
  · rw [if_neg h]
theorem least_none {w : Nat → Int64} (h : ∀ c, bitOf w c = false) : m_Tal_least (24, w) = some (-1) := by
  obtain ⟨r, e1, e2⟩ := least_ok w
  rcases e2 with ⟨c, -, q, -⟩ | ⟨-, q⟩
  · rw [h c] at q
    exact absurd q (by decide)
  · rw [e1, q]
theorem adv0 {n : Nat} {l1 l2 l3 l5 : Nat} {L O X G S : Nat → Int32} {lit own start : Nat → Nat} (h : StoI n 0 0 l1 l2 l3 l5 L O X G S lit own start) (A : Nat → Int32) (m1 m2 : Nat) (rc tc : Int32) (mk co : Arr) (cc : Int32) (rn : Arr) : ∀ (k t f : Nat) (wd wu : Nat → Int64) (MB NF TL ON LV CA : Nat → Int32) (tr lvl : Nat → Nat) (on : Nat → Bool) (us lf : Int64), t + k = n → k < f → TalM 0 0 m1 m2 wd wu MB NF lit own on → TraI n t t TL ON LV tr on lvl → (∀ j, j < t → on (2 * j) = true) → (∀ l, 2 * t ≤ l → on l = false) → ∃ tal tra se, m_Sea_advance_L11 (assT 0 A) f (stoT 0 0 l1 l2 l3 n l5 L O X G S) (talT m1 m2 wd wu MB NF) (traT n t t TL ON LV CA) (rc, us, tc, mk, co, cc, rn, lf) (nI t) = some ((stoT 0 0 l1 l2 l3 n l5 L O X G S, tal, tra, se, resN k lf), 0, 0) := by
  have hn : n ≤ 300 := h.1.2.2.2
  intro k
  induction k with
  | zero =>
    intro t f wd wu MB NF TL ON LV CA tr lvl on us lf htk hf hT hR p1 p2
    obtain ⟨f, rfl⟩ : ∃ g, f = g + 1 := ⟨f - 1, by omega⟩
    have b := hT.1.2.2.2
    have d1 : m_Tal_leastDead (talT m1 m2 wd wu MB NF) = some (-1) := by
      unfold m_Tal_leastDead
      rw [least_none fun c => (b c (by omega)).1, bind_s]
    have d2 : m_Tal_leastUnit (talT m1 m2 wd wu MB NF) = some (-1) := by
      unfold m_Tal_leastUnit
      rw [least_none fun c => (b c (by omega)).2, bind_s]
    obtain ⟨r, e1, e2⟩ := pending_ok (k := 0) (A := A) (asl := fun _ => 0) ⟨by omega, hn, fun i hi => absurd hi (by omega)⟩ (rc, us, tc, mk, co, cc, rn, lf) hR (CA := CA)
    have er : r = -1 := by
      rcases e2 with ⟨a, ha, -⟩ | ⟨-, q⟩
      · exact absurd ha (by omega)
      · exact q
    obtain ⟨r2, g1, g2⟩ := absent_ok hR (CA := CA)
    have er2 : r2 = -1 := by
      rcases g2 with ⟨a, ha, q, -⟩ | ⟨-, q⟩
      · rw [p1 a (by omega)] at q
        exact absurd q (by decide)
      · exact q
    refine ⟨talT m1 m2 wd wu MB NF, traT n t t TL ON LV CA, (rc, us, tc, mk, co, cc, rn, lf), ?_⟩
    rw [m_Sea_advance_L11, if_neg (show ¬ (1000000 : Int32) ≤ nI t from nI_ge (b := 1000000) (by omega) (by omega))]
    unfold m_Sea_takeTurn
    rw [d1, bind_s, if_pos (by decide), d2, bind_s, if_pos (by decide), e1, bind_s, er, if_pos (by decide), g1, bind_s, er2, if_pos (by decide), bind_s, if_neg (show ¬ (0 : Int32) = 4 by decide)]
    rfl
  | succ k ih =>
    intro t f wd wu MB NF TL ON LV CA tr lvl on us lf htk hf hT hR p1 p2
    obtain ⟨f, rfl⟩ : ∃ g, f = g + 1 := ⟨f - 1, by omega⟩
    have b := hT.1.2.2.2
    have d1 : m_Tal_leastDead (talT m1 m2 wd wu MB NF) = some (-1) := by
      unfold m_Tal_leastDead
      rw [least_none fun c => (b c (by omega)).1, bind_s]
    have d2 : m_Tal_leastUnit (talT m1 m2 wd wu MB NF) = some (-1) := by
      unfold m_Tal_leastUnit
      rw [least_none fun c => (b c (by omega)).2, bind_s]
    obtain ⟨r, e1, e2⟩ := pending_ok (k := 0) (A := A) (asl := fun _ => 0) ⟨by omega, hn, fun i hi => absurd hi (by omega)⟩ (rc, us, tc, mk, co, cc, rn, lf) hR (CA := CA)
    have er : r = -1 := by
      rcases e2 with ⟨a, ha, -⟩ | ⟨-, q⟩
      · exact absurd ha (by omega)
      · exact q
    obtain ⟨r2, g1, g2⟩ := absent_ok hR (CA := CA)
    have er2 : r2 = nI t := by
      rcases g2 with ⟨a, ha, q1, q2, q3, q⟩ | ⟨q, -⟩
      · by_cases c1 : a < t
        · rw [p1 a c1] at q1
          exact absurd q1 (by decide)
        · by_cases c2 : t < a
          · rcases q3 t c2 with w | w
            · rw [p2 _ (by omega)] at w
              exact absurd w (by decide)
            · rw [p2 _ (by omega)] at w
              exact absurd w (by decide)
          · rw [q, show a = t by omega]
      · rcases q t (by omega) with w | w
        · rw [p2 _ (by omega)] at w
          exact absurd w (by decide)
        · rw [p2 _ (by omega)] at w
          exact absurd w (by decide)
    have hop : opp (2 * t) = 2 * t + 1 := by
      unfold opp
      rw [if_pos (by omega)]
    have lo : m_CS_literalOf (nI t) 0 = some (nI (2 * t)) := by
      rw [literalOf_ok]
      rfl
    rw [m_Sea_advance_L11, if_neg (show ¬ (1000000 : Int32) ≤ nI t from nI_ge (b := 1000000) (by omega) (by omega))]
    unfold m_Sea_takeTurn
    rw [d1, bind_s, if_pos (by decide), d2, bind_s, if_pos (by decide), e1, bind_s, er, if_pos (by decide), g1, bind_s, er2, if_neg (nI_pos (by omega)), lo, bind_s]
    rcases decide_ok h hT hR (by omega) (l := 2 * t) (by omega) (p2 _ (by omega)) (by rw [hop]; exact p2 _ (by omega)) (by omega) (CA := CA) rc us tc mk co cc rn lf with ⟨c1, c2⟩ | ⟨c1, wd', wu', MB', NF', c2, c3, c4⟩
    · refine ⟨talT m1 m2 wd wu MB NF, traT n t t TL ON LV CA, (rc, us, tc, mk, co, cc, rn, lf), ?_⟩
      rw [c2, bind_s, bind_s, if_neg (show ¬ (3 : Int32) = 4 by decide)]
      show _ = some ((_, _, _, _, if 0 < lf then resN k (lf - 1) else 3), 0, 0)
      rw [if_neg c1]
      rfl
    · rw [c2, bind_s, bind_s, if_pos rfl, nI_1]
      show ∃ tal tra se, addc 0 0 (m_Sea_advance_L11 (assT 0 A) f _ _ _ _ _) = some ((_, _, _, _, if 0 < lf then resN k (lf - 1) else 3), 0, 0)
      rw [if_pos c1]
      have w1 : ∀ j, j < t + 1 → va_up on (2 * t) true (2 * j) = true := fun j hj => by
        by_cases c5 : j = t
        · rw [c5]
          exact up_s _ _ _
        · rw [up_n _ _ (by omega)]
          exact p1 j (by omega)
      have w2 : ∀ l, 2 * (t + 1) ≤ l → va_up on (2 * t) true l = false := fun l hl => by
        rw [up_n _ _ (by omega)]
        exact p2 l (by omega)
      obtain ⟨tal, tra, se, z⟩ := ih (t + 1) f wd' wu' MB' NF' _ _ _ (upd CA (2 * t / 2) (-1)) _ _ _ (us + 1) (lf - 1) (by omega) (by omega) c3 c4 w1 w2
      refine ⟨tal, tra, se, ?_⟩
      rw [z]
      rfl
theorem bit0 (c : Nat) : bitOf (fun _ => 0) c = false := by
  unfold bitOf
  simp
theorem tra0 {n : Nat} (h0 : 1 ≤ n) (hn : n ≤ 300) {TL ON LV : Nat → Int32} (hg : ∀ j, j < n → ON j = -1) : TraI n 0 0 TL ON LV (fun _ => 0) (fun _ => false) (fun _ => 0) :=
  ⟨⟨h0, hn, by omega, by omega⟩, fun i hi => absurd hi (by omega), fun t ht _ _ => hg t ht, fun l hl => Bool.noConfusion hl, fun i j _ hj => absurd hj (by omega), fun i j hi => absurd hi (by omega)⟩
theorem run0 {n : Nat} (h0 : 1 ≤ n) (hn : n ≤ 300) {gs gt : Nat → Int32} (hg : ∀ j, j < 2 * n → gs j = -1) (A TL LV CA : Nat → Int32) (mk co rn : Arr) (x : Int64) : ∃ cs sto tal tra se c s, m_CS_run (assT 0 A) (nI n, -1, 1) (stoT 0 0 32 32 32 n 16 (fun _ => 0) (fun _ => 0) (fun _ => 0) gs (fun _ => 0)) (talT 16 16 (fun _ => 0) (fun _ => 0) (fun _ => 0) (fun _ => 0)) (traT n 0 0 TL gt LV CA) (0, 0, nI n, mk, co, 0, rn, 0) x = some ((cs, sto, tal, tra, se, resN n x), c, s) ∧ c ≤ 9000 ∧ s ≤ 9000 := by
  have hS := sto0 h0 hn hg
  obtain ⟨g, f1, f2⟩ := fill_ok (-1) (n := n) (by omega) gt
  obtain ⟨m1, m2, wd, wu, MB, NF, c, s, r1, r2, r3, r4⟩ := restart_ok hS (m1 := 16) (m2 := 16) ⟨by omega, by omega⟩ ⟨by omega, by omega⟩ (wd := fun _ => 0) (wu := fun _ => 0) (MB := fun _ => 0) (NF := fun _ => 0) (fun c _ => ⟨bit0 c, bit0 c⟩)
  obtain ⟨tal, tra, se, z⟩ := adv0 hS A m1 m2 0 (nI n) mk co 0 rn n 0 fu wd wu MB NF TL g LV CA _ _ _ 0 (if x < 0 then 0 else x) (by omega) (by unfold fu; omega) r2 (tra0 h0 hn f2) (fun j hj => absurd hj (by omega)) (fun l _ => rfl)
  have b1 := r2.1.1.2.2
  have b2 := r2.1.2.1.2.2
  refine ⟨(nI n, -1, resN n x), stoT 0 0 32 32 32 n 16 (fun _ => 0) (fun _ => 0) (fun _ => 0) gs (fun _ => 0), tal, tra, se, c, s, ?_, ?_⟩
  · unfold m_CS_run m_Sea_begin m_Tra_restart m_Sea_advance
    rw [f1, bind_s, r1, bind_s]
    simp only [addc_some, bind_s]
    show addc _ _ ((m_Sea_advance_L11 (assT 0 A) fu _ (talT m1 m2 wd wu MB NF) (traT n 0 0 TL g LV CA) (0, 0, nI n, mk, co, 0, rn, (if x < 0 then 0 else x)) (nI 0)).bind _) = _
    rw [z, bind_s, resN_cap]
    rfl
  · have q : ∀ k, k ≤ 1500 → pot k 1500 ≤ 4500 := fun k hk => by
      unfold pot
      by_cases e : k = 1500
      · rw [if_pos e]; omega
      · rw [if_neg e]; omega
    have q1 := q m1 b1
    have q2 := q m2 b2
    omega
