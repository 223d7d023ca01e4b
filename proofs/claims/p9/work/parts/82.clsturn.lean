/-! PURE, 31: turns of the program's search, in any state -/
section
variable {n k C P Q R rc cc rl len : Nat} {us lf : Int64} {mk co RN A : Nat → Int32} {lv : Int32} {TL ON LV CA : Nat → Int32} {v : T_Sto} {asl : Nat → Nat}
theorem follow18_w (h : StoW n v C P) (se : T_Sea) {t : T_Tal} (hT : TalW t C Q) (hR : TraW n (trwT n len lv TL ON LV CA)) {u b : Nat} (hu : u ≤ 2000) (hb : b ≤ 20000) (hs : ∀ s, s < b → s < v.2.2.1.1 ∧ v.2.2.1.1 ≤ 20000 ∧ ∃ l, l < 2 * n ∧ v.2.2.1.2 s = nI l) : ∀ (d i f : Nat), i + d = b → d < f → ∃ t' tr', m_Sea_follow_L18 v se f t (trwT n len lv TL ON LV CA) (nI u) (nI b) (nI i) = some (t', tr', 4) ∧ TalW t' C Q ∧ TraW n tr' := by
  have hn := (stoW_le h).2.2.1
  have eF : ∀ f i, m_Sea_follow_L18 v se (f + 1) t (trwT n len lv TL ON LV CA) (nI u) (nI b) i = (if nI b ≤ i then some (t, trwT n len lv TL ON LV CA, 4) else if ¬ (i < 0 ∨ v.2.2.1.1 ≤ i.toNatClampNeg) then ((m_Tra_has (trwT n len lv TL ON LV CA) (v.2.2.1.2 i.toNatClampNeg >>> ((1 : Int32) &&& 31))).bind fun r10 => if r10 = 0 then ((m_Tra_put v t (trwT n len lv TL ON LV CA) (v.2.2.1.2 i.toNatClampNeg) (nI u)).bind fun r12 => some (r12.1, r12.2, 4)) else m_Sea_follow_L18 v se f t (trwT n len lv TL ON LV CA) (nI u) (nI b) (i + 1)) else none) := fun f i => rfl
  intro d
  induction d with
  | zero =>
    intro i f e hf
    obtain ⟨f, rfl⟩ : ∃ g, f = g + 1 := ⟨f - 1, by omega⟩
    rw [eF, if_pos (nI_le (by omega) (by omega))]
    exact ⟨_, _, rfl, hT, hR⟩
  | succ d ih =>
    intro i f e hf
    obtain ⟨f, rfl⟩ : ∃ g, f = g + 1 := ⟨f - 1, by omega⟩
    obtain ⟨h1, h2, l, hl, el⟩ := hs i (by omega)
    obtain ⟨r, w⟩ := has_w (len := len) (lv := lv) (TL := TL) (ON := ON) (LV := LV) (CA := CA) (t := l / 2) (n := n) (by omega) hn
    rw [eF, if_neg (nI_ge (by omega) (by omega)), if_pos (nI_in h1 (by omega)), nI_clamp (n := i) (by omega), el, shr1 (by omega), w, bind_s, nI_1]
    by_cases q : r = 0
    · obtain ⟨t', tr', a1, a2, a3⟩ := put_w h hT hR (nI l) (y := nI u) (Or.inr ⟨u, hu, rfl⟩)
      rw [if_pos q, a1, bind_s]
      exact ⟨t', tr', rfl, a2, a3⟩
    · rw [if_neg q]
      exact ih (i + 1) f (by omega) (by omega)
theorem follow_w (h : StoW n v C P) (se : T_Sea) {t : T_Tal} (hT : TalW t C Q) {tr : T_Tra} (hR : TraW n tr) {u : Nat} (hu : u ≤ 2000) : ∃ t' tr', m_Sea_follow v se t tr (nI u) = some (t', tr', 4) ∧ TalW t' C Q ∧ TraW n tr' := by
  obtain ⟨a, b, e1, e2, e3, e4, e5⟩ := slots_w h hu
  obtain ⟨len, lv, TL, ON, LV, CA, rfl, -⟩ := id hR
  unfold m_Sea_follow
  rw [e1, bind_s, e2, bind_s]
  exact follow18_w h se hT hR hu e4 e5 (b - a) a fu (by omega) (by unfold fu; omega)
theorem pend_w (hA : AssI n k A asl) (se : T_Sea) : ∀ (d j f : Nat), j + d = k → d < f → ∃ r, m_Sea_firstPendingAssumption_L2 (assT k A) (trwT n len lv TL ON LV CA) se f (nI j) = some r ∧ (r = -1 ∨ ∃ a, a < k ∧ r = nI a) := by
  obtain ⟨h1, h2, h3⟩ := hA
  have eF : ∀ f j, m_Sea_firstPendingAssumption_L2 (assT k A) (trwT n len lv TL ON LV CA) se (f + 1) j = (if nI k ≤ j then some (-1) else if ¬ (j < 0 ∨ 40 ≤ j.toNatClampNeg) then ((m_Tra_holds (trwT n len lv TL ON LV CA) (A j.toNatClampNeg)).bind fun r4 => if r4 = 0 then some j else m_Sea_firstPendingAssumption_L2 (assT k A) (trwT n len lv TL ON LV CA) se f (j + 1)) else none) := fun f j => rfl
  intro d
  induction d with
  | zero =>
    intro j f e hf
    obtain ⟨f, rfl⟩ : ∃ g, f = g + 1 := ⟨f - 1, by omega⟩
    rw [eF, if_pos (nI_le (by omega) (by omega))]
    exact ⟨_, rfl, Or.inl rfl⟩
  | succ d ih =>
    intro j f e hf
    obtain ⟨f, rfl⟩ : ∃ g, f = g + 1 := ⟨f - 1, by omega⟩
    obtain ⟨q1, q2⟩ := h3 j (by omega)
    obtain ⟨r, w⟩ := holds_w (len := len) (lv := lv) (TL := TL) (ON := ON) (LV := LV) (CA := CA) q2 h2
    rw [eF, if_neg (nI_ge (by omega) (by omega)), if_pos (nI_in (by omega) (by omega)), nI_clamp (n := j) (by omega), q1, w, bind_s, nI_1]
    by_cases q : r = 0
    · rw [if_pos q]
      exact ⟨_, rfl, Or.inr ⟨j, by omega, rfl⟩⟩
    · rw [if_neg q]
      exact ih (j + 1) f (by omega) (by omega)
theorem absent_w (hn : n ≤ 300) : ∀ (d j f : Nat), j + d = n → d < f → ∃ r, m_Tra_leastAbsent_L2 (trwT n len lv TL ON LV CA) f (nI j) = some r ∧ (r = -1 ∨ ∃ t, t < n ∧ r = nI t) := by
  have eF : ∀ f j, m_Tra_leastAbsent_L2 (trwT n len lv TL ON LV CA) (f + 1) j = (if nI n ≤ j then some (-1) else if ¬ (j < 0 ∨ n ≤ j.toNatClampNeg) then (if ON j.toNatClampNeg = -1 then some j else m_Tra_leastAbsent_L2 (trwT n len lv TL ON LV CA) f (j + 1)) else none) := fun f j => rfl
  intro d
  induction d with
  | zero =>
    intro j f e hf
    obtain ⟨f, rfl⟩ : ∃ g, f = g + 1 := ⟨f - 1, by omega⟩
    rw [eF, if_pos (nI_le (by omega) (by omega))]
    exact ⟨_, rfl, Or.inl rfl⟩
  | succ d ih =>
    intro j f e hf
    obtain ⟨f, rfl⟩ : ∃ g, f = g + 1 := ⟨f - 1, by omega⟩
    rw [eF, if_neg (nI_ge (by omega) (by omega)), if_pos (nI_in (by omega) (by omega)), nI_1]
    by_cases q : ON (nI j).toNatClampNeg = -1
    · rw [if_pos q]
      exact ⟨_, rfl, Or.inr ⟨j, by omega, rfl⟩⟩
    · rw [if_neg q]
      exact ih (j + 1) f (by omega) (by omega)
theorem core99_w (hA : AssI n k A asl) (tr1 : 1 ≤ n) (x1 : Int32) : ∀ (d j f cc : Nat) (co : Nat → Int32), j + d = k → d < f → cc ≤ j → ∃ cc' co', cc' ≤ 40 ∧ m_Sea_findCore_L99 (assT k A) v (trwT n len lv TL ON LV CA) f (seaT n rc cc rl us lf mk co RN) x1 (nI j) = some (seaT n rc cc' rl us lf mk co' RN) := by
  obtain ⟨h1, h2, h3⟩ := hA
  have eF : ∀ f cc co j, m_Sea_findCore_L99 (assT k A) v (trwT n len lv TL ON LV CA) (f + 1) (seaT n rc cc rl us lf mk co RN) x1 j = (if nI k ≤ j then some (seaT n rc cc rl us lf mk co RN) else if ¬ (j < 0 ∨ 40 ≤ j.toNatClampNeg) then (if j = x1 then (if ¬ (j < 0 ∨ 40 ≤ j.toNatClampNeg) then (if ¬ (nI cc < 0 ∨ 40 ≤ (nI cc).toNatClampNeg) then m_Sea_findCore_L99 (assT k A) v (trwT n len lv TL ON LV CA) f (nI rc, us, nI n, (n, mk), (40, upd co (nI cc).toNatClampNeg (A j.toNatClampNeg)), nI cc + 1, (rl, RN), lf) x1 (j + 1) else none) else none) else if ¬ (A j.toNatClampNeg >>> ((1 : Int32) &&& 31) < 0 ∨ n ≤ (A j.toNatClampNeg >>> ((1 : Int32) &&& 31)).toNatClampNeg) then (if mk (A j.toNatClampNeg >>> ((1 : Int32) &&& 31)).toNatClampNeg = (1 : Int32) then ((m_Tra_causeOf (trwT n len lv TL ON LV CA) (A j.toNatClampNeg >>> ((1 : Int32) &&& 31))).bind fun r15 => if 0 ≤ r15 then m_Sea_findCore_L99 (assT k A) v (trwT n len lv TL ON LV CA) f (seaT n rc cc rl us lf mk co RN) x1 (j + 1) else (if ¬ (j < 0 ∨ 40 ≤ j.toNatClampNeg) then (if ¬ (nI cc < 0 ∨ 40 ≤ (nI cc).toNatClampNeg) then m_Sea_findCore_L99 (assT k A) v (trwT n len lv TL ON LV CA) f (nI rc, us, nI n, (n, mk), (40, upd co (nI cc).toNatClampNeg (A j.toNatClampNeg)), nI cc + 1, (rl, RN), lf) x1 (j + 1) else none) else none)) else m_Sea_findCore_L99 (assT k A) v (trwT n len lv TL ON LV CA) f (seaT n rc cc rl us lf mk co RN) x1 (j + 1)) else none) else none) := fun f cc co j => rfl
  intro d
  induction d with
  | zero =>
    intro j f cc co e hf hc
    obtain ⟨f, rfl⟩ : ∃ g, f = g + 1 := ⟨f - 1, by omega⟩
    rw [eF, if_pos (nI_le (by omega) (by omega))]
    exact ⟨cc, co, by omega, rfl⟩
  | succ d ih =>
    intro j f cc co e hf hc
    obtain ⟨f, rfl⟩ : ∃ g, f = g + 1 := ⟨f - 1, by omega⟩
    obtain ⟨q1, q2⟩ := h3 j (by omega)
    have gj : ¬ (nI j < 0 ∨ 40 ≤ (nI j).toNatClampNeg) := nI_in (by omega) (by omega)
    have gc : ¬ (nI cc < 0 ∨ 40 ≤ (nI cc).toNatClampNeg) := nI_in (by omega) (by omega)
    have gk := gj
    rw [nI_clamp (n := j) (by omega)] at gk
    have go : ∀ co, ∃ cc' co', cc' ≤ 40 ∧ m_Sea_findCore_L99 (assT k A) v (trwT n len lv TL ON LV CA) f (nI rc, us, nI n, (n, mk), (40, co), nI cc + 1, (rl, RN), lf) x1 (nI (j + 1)) = some (seaT n rc cc' rl us lf mk co' RN) := fun co => by
      rw [nI_1]
      exact ih (j + 1) f (cc + 1) co (by omega) (by omega) (by omega)
    rw [eF, if_neg (nI_ge (by omega) (by omega)), if_pos gj, nI_1 j]
    by_cases w1 : nI j = x1
    · rw [if_pos w1, if_pos gj, if_pos gc]
      exact go _
    · rw [if_neg w1, nI_clamp (n := j) (by omega), q1, shr1 (by omega), if_pos (nI_in (by omega) (by omega))]
      by_cases w2 : mk (nI (asl j / 2)).toNatClampNeg = (1 : Int32)
      · rw [if_pos w2, cause_w (by omega) h2, bind_s]
        by_cases w3 : 0 ≤ CA (asl j / 2)
        · rw [if_pos w3]
          exact ih (j + 1) f cc co (by omega) (by omega) (by omega)
        · rw [if_neg w3, if_pos gk, if_pos gc]
          exact go _
      · rw [if_neg w2]
        exact ih (j + 1) f cc co (by omega) (by omega) (by omega)
theorem core35_w (h : StoW n v C P) (hA : AssI n k A asl) (hl : len ≤ n) (r1 : ∀ i, i < len → ∃ l, l < 2 * n ∧ TL i = nI l) (r2 : ∀ t, t < n → CA t < 0 ∨ ∃ c, c ≤ 2000 ∧ CA t = nI c) (x1 : Int32) : ∀ (m f : Nat) (mk : Nat → Int32), m ≤ len → m < f → ∃ cc' mk' co', cc' ≤ 40 ∧ m_Sea_findCore_L35 (assT k A) v (trwT n len lv TL ON LV CA) f (seaT n rc cc rl us lf mk co RN) x1 (nI m + (-1)) = some (seaT n rc cc' rl us lf mk' co' RN) := by
  obtain ⟨-, n1, hn, -⟩ := stoW_le h
  have eF : ∀ f mk j, m_Sea_findCore_L35 (assT k A) v (trwT n len lv TL ON LV CA) (f + 1) (seaT n rc cc rl us lf mk co RN) x1 j = (if j < 0 then m_Sea_findCore_L99 (assT k A) v (trwT n len lv TL ON LV CA) fu (seaT n rc 0 rl us lf mk co RN) x1 0 else if ¬ (j < 0 ∨ n ≤ j.toNatClampNeg) then (if ¬ (TL j.toNatClampNeg >>> ((1 : Int32) &&& 31) < 0 ∨ n ≤ (TL j.toNatClampNeg >>> ((1 : Int32) &&& 31)).toNatClampNeg) then (if mk (TL j.toNatClampNeg >>> ((1 : Int32) &&& 31)).toNatClampNeg = (1 : Int32) then ((m_Tra_causeOf (trwT n len lv TL ON LV CA) (TL j.toNatClampNeg >>> ((1 : Int32) &&& 31))).bind fun r19 => if r19 < 0 then m_Sea_findCore_L35 (assT k A) v (trwT n len lv TL ON LV CA) f (seaT n rc cc rl us lf mk co RN) x1 (j + (-1)) else (m_Tra_causeOf (trwT n len lv TL ON LV CA) (TL j.toNatClampNeg >>> ((1 : Int32) &&& 31))).bind fun r21 => (m_Sea_markOthers v (trwT n len lv TL ON LV CA) (seaT n rc cc rl us lf mk co RN) r21 (TL j.toNatClampNeg >>> ((1 : Int32) &&& 31))).bind fun r23 => m_Sea_findCore_L35 (assT k A) v (trwT n len lv TL ON LV CA) f r23.1 x1 (j + (-1))) else m_Sea_findCore_L35 (assT k A) v (trwT n len lv TL ON LV CA) f (seaT n rc cc rl us lf mk co RN) x1 (j + (-1))) else none) else none) := fun f mk j => rfl
  intro m
  induction m with
  | zero =>
    intro f mk hm hf
    obtain ⟨f, rfl⟩ : ∃ g, f = g + 1 := ⟨f - 1, by omega⟩
    rw [eF, if_pos (by decide)]
    obtain ⟨cc', co', a1, a2⟩ := core99_w (v := v) (rc := rc) (rl := rl) (len := len) (us := us) (lf := lf) (mk := mk) (RN := RN) (lv := lv) (TL := TL) (ON := ON) (LV := LV) (CA := CA) hA n1 x1 k 0 fu 0 co (by omega) (by have := hA.1; unfold fu; omega) (Nat.le_refl 0)
    exact ⟨cc', mk, co', a1, a2⟩
  | succ m ih =>
    intro f mk hm hf
    obtain ⟨f, rfl⟩ : ∃ g, f = g + 1 := ⟨f - 1, by omega⟩
    obtain ⟨l, h1, el⟩ := r1 m (by omega)
    rw [eF, pk_m1, if_neg (nI_pos (by omega)), if_pos (nI_in (by omega) (by omega)), nI_clamp (n := m) (by omega), el, shr1 (by omega), if_pos (nI_in (by omega) (by omega))]
    by_cases q1 : mk (nI (l / 2)).toNatClampNeg = (1 : Int32)
    · rw [if_pos q1, cause_w (by omega) hn, bind_s]
      rcases r2 (l / 2) (by omega) with w | ⟨c, w1, w2⟩
      · rw [if_pos w]
        exact ih f mk (by omega) (by omega)
      · obtain ⟨mk', r, w3⟩ := mark_w (rc := rc) (cc := cc) (rl := rl) (len := len) (us := us) (lf := lf) (co := co) (RN := RN) (lv := lv) (TL := TL) (ON := ON) (LV := LV) (CA := CA) h w1 (nI (l / 2)) mk
        rw [w2, if_neg (nI_pos (by omega)), bind_s, w3, bind_s]
        exact ih f mk' (by omega) (by omega)
    · rw [if_neg q1]
      exact ih f mk (by omega) (by omega)
theorem core_w (h : StoW n v C P) (hA : AssI n k A asl) (hl : len ≤ n) (r1 : ∀ i, i < len → ∃ l, l < 2 * n ∧ TL i = nI l) (r2 : ∀ t, t < n → CA t < 0 ∨ ∃ c, c ≤ 2000 ∧ CA t = nI c) {a : Nat} (ha : a < k) : ∃ cc' mk' co', cc' ≤ 40 ∧ m_Sea_findCore (assT k A) v (trwT n len lv TL ON LV CA) (seaT n rc cc rl us lf mk co RN) (nI a) = some (seaT n rc cc' rl us lf mk' co' RN) := by
  obtain ⟨-, n1, hn, -⟩ := stoW_le h
  obtain ⟨h1, h2, h3⟩ := id hA
  obtain ⟨q1, q2⟩ := h3 a ha
  obtain ⟨g, f1, f2⟩ := fill_ok 0 (n := n) (by omega) mk
  have e : m_Sea_findCore (assT k A) v (trwT n len lv TL ON LV CA) (seaT n rc cc rl us lf mk co RN) (nI a) = ((m_Arr__fill (n, mk) 0).bind fun r25 => if ¬ (nI a < 0 ∨ 40 ≤ (nI a).toNatClampNeg) then (if ¬ (A (nI a).toNatClampNeg >>> ((1 : Int32) &&& 31) < 0 ∨ r25.1 ≤ (A (nI a).toNatClampNeg >>> ((1 : Int32) &&& 31)).toNatClampNeg) then m_Sea_findCore_L35 (assT k A) v (trwT n len lv TL ON LV CA) fu (nI rc, us, nI n, (r25.1, upd r25.2 (A (nI a).toNatClampNeg >>> ((1 : Int32) &&& 31)).toNatClampNeg 1), (40, co), nI cc, (rl, RN), lf) (nI a) (nI len - 1) else none) else none) := rfl
  rw [e, f1, bind_s, if_pos (nI_in (by omega) (by omega)), nI_clamp (n := a) (by omega), q1, shr1 (by omega), if_pos (by exact nI_in (c := asl a / 2) (N := n) (by omega) (by omega)), Int32.sub_eq_add_neg]
  exact core35_w h hA hl r1 r2 (nI a) len fu _ (Nat.le_refl len) (by unfold fu; omega)
end
theorem sea_lf {n C R : Nat} {se : T_Sea} (h : SeaW n se C R) (x : Int64) : SeaW n (se.1, se.2.1, se.2.2.1, se.2.2.2.1, se.2.2.2.2.1, se.2.2.2.2.2.1, se.2.2.2.2.2.2.1, x) C R := by
  obtain ⟨rc, us, mk, co, cc, rl, RN, lf, rfl, u⟩ := h
  exact ⟨rc, us, mk, co, cc, rl, RN, x, rfl, u⟩
theorem decide_w {n C T : Nat} {sto : T_Sto} {tal : T_Tal} {tra : T_Tra} {se : T_Sea} (h : SysW n C T sto tal tra se) (x : Int32) : ∃ tal' tra' se' o, m_Sea_decide sto tal tra se x = some (tal', tra', se', o) ∧ SysW n C T sto tal' tra' se' := by
  obtain ⟨P, Q, R, hS, hT, hR, hE, rfl⟩ := id h
  obtain ⟨len, lv, TL, ON, LV, CA, rfl, z⟩ := id hR
  obtain ⟨rc, us, mk, co, cc, rl, RN, lf, rfl, u⟩ := id hE
  have e : m_Sea_decide sto tal (trwT n len lv TL ON LV CA) (seaT n rc cc rl us lf mk co RN) x = (if 0 < lg_cmp lf 0 then ((m_Sea_countStep (seaT n rc cc rl us lf mk co RN)).bind fun r5 => (m_Tra_put sto tal (trwT n len (lv + 1) TL ON LV CA) x (-1)).bind fun r7 => some (r7.1, r7.2, r5, 4)) else some (tal, trwT n len lv TL ON LV CA, seaT n rc cc rl us lf mk co RN, 3)) := rfl
  show ∃ tal' tra' se' o, m_Sea_decide sto tal (trwT n len lv TL ON LV CA) (seaT n rc cc rl us lf mk co RN) x = some (tal', tra', se', o) ∧ _
  rw [e]
  by_cases q : 0 < lg_cmp lf 0
  · obtain ⟨t', tr', a1, a2, a3⟩ := put_w hS hT (tr := trwT n len (lv + 1) TL ON LV CA) ⟨len, lv + 1, TL, ON, LV, CA, rfl, z⟩ x (y := -1) (Or.inl (by decide))
    rw [if_pos q, show m_Sea_countStep (seaT n rc cc rl us lf mk co RN) = some (seaT n rc cc rl (us + 1) (lf - 1) mk co RN) from rfl, bind_s, a1, bind_s]
    exact ⟨_, _, _, _, rfl, P, Q, R, hS, a2, a3, ⟨rc, us + 1, mk, co, cc, rl, RN, lf - 1, rfl, u⟩, rfl⟩
  · rw [if_neg q]
    exact ⟨_, _, _, _, rfl, h⟩
theorem assumed_w {n k C T : Nat} {A : Nat → Int32} {asl : Nat → Nat} {sto : T_Sto} {tal : T_Tal} {tra : T_Tra} {se : T_Sea} (hA : AssI n k A asl) (h : SysW n C T sto tal tra se) {a : Nat} (ha : a < k) : ∃ tal' tra' se' o, (if ¬ (nI a < 0 ∨ (assT k A).2.1 ≤ (nI a).toNatClampNeg) then ((m_Tra_holds tra ((assT k A).2.2 (nI a).toNatClampNeg ^^^ (1 : Int32))).bind fun r8 => if r8 = 0 then ((m_Sea_decide sto tal tra se ((assT k A).2.2 (nI a).toNatClampNeg)).bind fun r10 => some ((sto, r10.1, r10.2.1, r10.2.2.1, r10.2.2.2), 0, 0)) else ((m_Sea_failBy (assT k A) sto tra se (nI a)).bind fun r12 => some ((sto, tal, tra, r12.1, r12.2), 0, 0))) else none) = some (((sto, tal', tra', se', o) : T_Sto × T_Tal × T_Tra × T_Sea × Int32), (0 : Nat), (0 : Nat)) ∧ SysW n C T sto tal' tra' se' := by
  obtain ⟨P, Q, R, hS, hT, hR, hE, rfl⟩ := id h
  obtain ⟨len, lv, TL, ON, LV, CA, rfl, ⟨z1, z2, z3⟩, z4, z5⟩ := id hR
  obtain ⟨rc, us, mk, co, cc, rl, RN, lf, rfl, u1, u2, u3, u4, u5⟩ := id hE
  obtain ⟨q1, q2⟩ := hA.2.2 a ha
  have hk := hA.1
  have ho := opp_lt q2
  obtain ⟨r, w⟩ := holds_w (len := len) (lv := lv) (TL := TL) (ON := ON) (LV := LV) (CA := CA) ho z2
  show ∃ tal' tra' se' o, (if ¬ (nI a < 0 ∨ 40 ≤ (nI a).toNatClampNeg) then ((m_Tra_holds (trwT n len lv TL ON LV CA) (A (nI a).toNatClampNeg ^^^ 1)).bind fun r8 => if r8 = 0 then ((m_Sea_decide sto tal (trwT n len lv TL ON LV CA) (seaT n rc cc rl us lf mk co RN) (A (nI a).toNatClampNeg)).bind fun r10 => some ((sto, r10.1, r10.2.1, r10.2.2.1, r10.2.2.2), 0, 0)) else ((m_Sea_failBy (assT k A) sto (trwT n len lv TL ON LV CA) (seaT n rc cc rl us lf mk co RN) (nI a)).bind fun r12 => some ((sto, tal, trwT n len lv TL ON LV CA, r12.1, r12.2), 0, 0))) else none) = some (((sto, tal', tra', se', o) : T_Sto × T_Tal × T_Tra × T_Sea × Int32), (0 : Nat), (0 : Nat)) ∧ _
  rw [if_pos (nI_in (by omega) (by omega)), nI_clamp (n := a) (by omega), q1, nI_xor1 (by omega), w, bind_s]
  by_cases q : r = 0
  · obtain ⟨t', tr', se', o, b1, b2⟩ := decide_w h (nI (asl a))
    rw [if_pos q, show m_Sea_decide sto tal (trwT n len lv TL ON LV CA) (seaT n rc cc rl us lf mk co RN) (nI (asl a)) = _ from b1, bind_s]
    exact ⟨_, _, _, _, rfl, b2⟩
  · obtain ⟨cc', mk', co', b1, b2⟩ := core_w (rc := rc) (cc := cc) (rl := rl) (us := us) (lf := lf) (mk := mk) (co := co) (RN := RN) (lv := lv) (ON := ON) (LV := LV) hS hA z3 z4 z5 ha
    rw [if_neg q]
    unfold m_Sea_failBy
    rw [b2, bind_s, bind_s]
    exact ⟨_, _, _, _, rfl, P, Q, R, hS, hT, hR, ⟨rc, us, mk', co', cc', rl, RN, lf, rfl, u1, u2, b1, u4, u5⟩, rfl⟩
theorem turn_w {n k C T : Nat} {A : Nat → Int32} {asl : Nat → Nat} {sto : T_Sto} {tal : T_Tal} {tra : T_Tra} {se : T_Sea} (hA : AssI n k A asl) (h : SysW n C T sto tal tra se) : ∃ sto' tal' tra' se' o c s C' T', m_Sea_takeTurn (assT k A) sto tal tra se = some ((sto', tal', tra', se', o), c, s) ∧ SysW n C' T' sto' tal' tra' se' ∧ c ≤ s ∧ s + T ≤ T' := by
  obtain ⟨P, Q, R, hS, hT, hR, hE, rfl⟩ := id h
  obtain ⟨hC, n1, hn, -⟩ := stoW_le hS
  obtain ⟨m1, m2, wd, wu, MB, NF, et, -⟩ := id hT
  obtain ⟨rd, d1, d2⟩ := least_ok wd
  obtain ⟨ru, e1, e2⟩ := least_ok wu
  have L1 : m_Tal_leastDead tal = some rd := by
    rw [et]
    unfold m_Tal_leastDead
    rw [d1, bind_s]
  have L2 : m_Tal_leastUnit tal = some ru := by
    rw [et]
    unfold m_Tal_leastUnit
    rw [e1, bind_s]
  unfold m_Sea_takeTurn
  rw [L1, bind_s]
  rcases d2 with ⟨c, hc, -, -, rfl⟩ | ⟨-, rfl⟩
  · rw [if_neg (nI_pos (by omega))]
    by_cases q : tra.2.1 = 0
    · rw [if_pos q]
      exact ⟨_, _, _, _, _, 0, 0, C, _, rfl, h, Nat.le_refl 0, by omega⟩
    · obtain ⟨sto', tal', tra', se', o, c', s', C', T', w1, w2, w3, w4⟩ := learn_w h (d := c) (by omega)
      rw [if_neg q, w1, bind_s]
      exact ⟨_, _, _, _, _, c' + 0, s' + 0, C', T', rfl, w2, by omega, by omega⟩
  · rw [if_pos (by decide), L2, bind_s]
    rcases e2 with ⟨c, hc, -, -, rfl⟩ | ⟨-, rfl⟩
    · obtain ⟨t', tr', w1, w2, w3⟩ := follow_w hS se hT hR (u := c) (by omega)
      rw [if_neg (nI_pos (by omega)), w1, bind_s]
      exact ⟨_, _, _, _, _, 0, 0, C, _, rfl, ⟨P, Q, R, hS, w2, w3, hE, rfl⟩, Nat.le_refl 0, by omega⟩
    · rw [if_pos (by decide)]
      obtain ⟨len, lv, TL, ON, LV, CA, etr, ⟨z1, z2, z3⟩, z4, z5⟩ := id hR
      obtain ⟨rp, p1, p2⟩ := pend_w (len := len) (lv := lv) (TL := TL) (ON := ON) (LV := LV) (CA := CA) hA se k 0 fu (by omega) (by have := hA.1; unfold fu; omega)
      rw [show m_Sea_firstPendingAssumption (assT k A) tra se = some rp by rw [etr]; exact p1, bind_s]
      rcases p2 with rfl | ⟨a, ha, rfl⟩
      · obtain ⟨ra, a1, a2⟩ := absent_w (n := n) (len := len) (lv := lv) (TL := TL) (ON := ON) (LV := LV) (CA := CA) hn n 0 fu (by omega) (by unfold fu; omega)
        rw [if_pos (by decide), show m_Tra_leastAbsent tra = some ra by rw [etr]; exact a1, bind_s]
        rcases a2 with rfl | ⟨t, ht, rfl⟩
        · rw [if_pos (by decide)]
          exact ⟨_, _, _, _, _, 0, 0, C, _, rfl, h, Nat.le_refl 0, by omega⟩
        · obtain ⟨t', tr', se', o, b1, b2⟩ := decide_w h (nI (2 * t + bv 0))
          rw [if_neg (nI_pos (by omega)), literalOf_ok, bind_s, b1, bind_s]
          exact ⟨_, _, _, _, _, 0, 0, C, _, rfl, b2, Nat.le_refl 0, by omega⟩
      · obtain ⟨t', tr', se', o, b1, b2⟩ := assumed_w hA h ha
        have hk := hA.1
        rw [if_neg (nI_pos (by omega))]
        exact ⟨_, _, _, _, _, 0, 0, C, _, b1, b2, Nat.le_refl 0, by omega⟩
theorem advance_w {n k : Nat} {A : Nat → Int32} {asl : Nat → Nat} (hA : AssI n k A asl) : ∀ (d j f C T : Nat) (sto : T_Sto) (tal : T_Tal) (tra : T_Tra) (se : T_Sea), j + d = 1000000 → d < f → SysW n C T sto tal tra se → ∃ sto' tal' tra' se' o c s C' T', m_Sea_advance_L11 (assT k A) f sto tal tra se (nI j) = some ((sto', tal', tra', se', o), c, s) ∧ SysW n C' T' sto' tal' tra' se' ∧ c ≤ s ∧ s + T ≤ T' := by
  have eF : ∀ f sto tal tra se j, m_Sea_advance_L11 (assT k A) (f + 1) sto tal tra se j = (if (1000000 : Int32) ≤ j then some ((sto, tal, tra, se, 3), 0, 0) else (m_Sea_takeTurn (assT k A) sto tal tra se).bind fun r10 => addc r10.2.1 r10.2.2 (if r10.1.2.2.2.2 = (4 : Int32) then m_Sea_advance_L11 (assT k A) f r10.1.1 r10.1.2.1 r10.1.2.2.1 r10.1.2.2.2.1 (j + 1) else some ((r10.1.1, r10.1.2.1, r10.1.2.2.1, r10.1.2.2.2.1, r10.1.2.2.2.2), 0, 0))) := fun f sto tal tra se j => rfl
  intro d
  induction d with
  | zero =>
    intro j f C T sto tal tra se e hf h
    obtain ⟨f, rfl⟩ : ∃ g, f = g + 1 := ⟨f - 1, by omega⟩
    rw [eF, if_pos (show (1000000 : Int32) ≤ nI j from nI_le (a := 1000000) (by omega) (by omega))]
    exact ⟨_, _, _, _, _, 0, 0, C, T, rfl, h, Nat.le_refl 0, by omega⟩
  | succ d ih =>
    intro j f C T sto tal tra se e hf h
    obtain ⟨f, rfl⟩ : ∃ g, f = g + 1 := ⟨f - 1, by omega⟩
    obtain ⟨sto1, tal1, tra1, se1, o, c, s, C1, T1, w1, w2, w3, w4⟩ := turn_w hA h
    rw [eF, if_neg (show ¬ (1000000 : Int32) ≤ nI j from nI_ge (b := 1000000) (by omega) (by omega)), w1, bind_s, nI_1]
    by_cases q : o = 4
    · obtain ⟨sto2, tal2, tra2, se2, o2, c2, s2, C2, T2, y1, y2, y3, y4⟩ := ih (j + 1) f C1 T1 sto1 tal1 tra1 se1 (by omega) (by omega) w2
      rw [if_pos (by exact q), y1]
      exact ⟨_, _, _, _, _, c + c2, s + s2, C2, T2, rfl, y2, by omega, by omega⟩
    · rw [if_neg (by exact q)]
      exact ⟨_, _, _, _, _, c + 0, s + 0, C1, T1, rfl, w2, by omega, by omega⟩
theorem adv_w {n k C T : Nat} {A : Nat → Int32} {asl : Nat → Nat} (hA : AssI n k A asl) {sto : T_Sto} {tal : T_Tal} {tra : T_Tra} {se : T_Sea} (h : SysW n C T sto tal tra se) (x : Int64) : ∃ sto' tal' tra' se' o c s C' T', m_Sea_advance (assT k A) sto tal tra se x = some ((sto', tal', tra', se', o), c, s) ∧ SysW n C' T' sto' tal' tra' se' ∧ c ≤ s ∧ s + T ≤ T' := by
  obtain ⟨P, Q, R, hS, hT, hR, hE, rfl⟩ := h
  exact advance_w hA 1000000 0 fu C _ sto tal tra _ (by omega) (by unfold fu; omega) ⟨P, Q, R, hS, hT, hR, sea_lf hE _, rfl⟩
