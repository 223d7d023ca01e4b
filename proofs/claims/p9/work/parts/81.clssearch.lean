/-! PURE, 30: the program's search in any state it can be in -/
abbrev seaT (n rc cc rl : Nat) (us lf : Int64) (mk co RN : Nat → Int32) : T_Sea := (nI rc, us, nI n, (n, mk), (40, co), nI cc, (rl, RN), lf)
abbrev trwT (n len : Nat) (lv : Int32) (TL ON LV CA : Nat → Int32) : T_Tra := (nI len, lv, (n, TL), (n, ON), (n, LV), (n, CA))
section
variable {n C P Q R rc cc rl len : Nat} {us lf : Int64} {mk co RN : Nat → Int32} {lv : Int32} {TL ON LV CA : Nat → Int32} {v : T_Sto}
theorem level_w {t : Nat} (ht : t < n) (hn : n ≤ 300) : m_Tra_levelOf (trwT n len lv TL ON LV CA) (nI t) = some (LV t) := by
  have e : m_Tra_levelOf (trwT n len lv TL ON LV CA) (nI t) = (if ¬ (nI t < 0 ∨ n ≤ (nI t).toNatClampNeg) then some (LV (nI t).toNatClampNeg) else none) := rfl
  rw [e, if_pos (nI_in ht (by omega)), nI_clamp (by omega)]
theorem cause_w {t : Nat} (ht : t < n) (hn : n ≤ 300) : m_Tra_causeOf (trwT n len lv TL ON LV CA) (nI t) = some (CA t) := by
  have e : m_Tra_causeOf (trwT n len lv TL ON LV CA) (nI t) = (if ¬ (nI t < 0 ∨ n ≤ (nI t).toNatClampNeg) then some (CA (nI t).toNatClampNeg) else none) := rfl
  rw [e, if_pos (nI_in ht (by omega)), nI_clamp (by omega)]
theorem refused_w {t : Nat} (ht : t < n) (hn : n ≤ 300) : m_Tra_refusedLiteralOf (trwT n len lv TL ON LV CA) (nI t) = some (ON t ^^^ 1) := by
  have e : m_Tra_refusedLiteralOf (trwT n len lv TL ON LV CA) (nI t) = (if ¬ (nI t < 0 ∨ n ≤ (nI t).toNatClampNeg) then some (ON (nI t).toNatClampNeg ^^^ 1) else none) := rfl
  rw [e, if_pos (nI_in ht (by omega)), nI_clamp (by omega)]
theorem has_w {t : Nat} (ht : t < n) (hn : n ≤ 300) : ∃ r, m_Tra_has (trwT n len lv TL ON LV CA) (nI t) = some r := by
  have e : m_Tra_has (trwT n len lv TL ON LV CA) (nI t) = (if ¬ (nI t < 0 ∨ n ≤ (nI t).toNatClampNeg) then (if ON (nI t).toNatClampNeg = -1 then some 0 else some 1) else none) := rfl
  rw [e, if_pos (nI_in ht (by omega))]
  by_cases q : ON (nI t).toNatClampNeg = -1
  · rw [if_pos q]; exact ⟨_, rfl⟩
  · rw [if_neg q]; exact ⟨_, rfl⟩
theorem holds_w {l : Nat} (hl : l < 2 * n) (hn : n ≤ 300) : ∃ r, m_Tra_holds (trwT n len lv TL ON LV CA) (nI l) = some r := by
  have e : m_Tra_holds (trwT n len lv TL ON LV CA) (nI l) = (if ¬ (nI l >>> ((1 : Int32) &&& 31) < 0 ∨ n ≤ (nI l >>> ((1 : Int32) &&& 31)).toNatClampNeg) then (if ON (nI l >>> ((1 : Int32) &&& 31)).toNatClampNeg = nI l then some 1 else some 0) else none) := rfl
  rw [e, shr1 (by omega), if_pos (nI_in (by omega) (by omega))]
  by_cases q : ON (nI (l / 2)).toNatClampNeg = nI l
  · rw [if_pos q]; exact ⟨_, rfl⟩
  · rw [if_neg q]; exact ⟨_, rfl⟩
theorem mark22_w (hn : n ≤ 300) {b : Nat} (hb : b ≤ 20000) (hs : ∀ s, s < b → s < v.2.2.1.1 ∧ v.2.2.1.1 ≤ 20000 ∧ ∃ l, l < 2 * n ∧ v.2.2.1.2 s = nI l) (x2 : Int32) : ∀ (d i f : Nat) (mk : Nat → Int32) (x3 : Int32), i + d = b → d < f → ∃ mk' r, m_Sea_markOthers_L22 v (trwT n len lv TL ON LV CA) f (seaT n rc cc rl us lf mk co RN) x2 x3 (nI b) (nI i) = some (seaT n rc cc rl us lf mk' co RN, r) := by
  have eF : ∀ f mk x3 i, m_Sea_markOthers_L22 v (trwT n len lv TL ON LV CA) (f + 1) (seaT n rc cc rl us lf mk co RN) x2 x3 (nI b) i = (if nI b ≤ i then some (seaT n rc cc rl us lf mk co RN, x3) else if ¬ (i < 0 ∨ v.2.2.1.1 ≤ i.toNatClampNeg) then (if v.2.2.1.2 i.toNatClampNeg >>> ((1 : Int32) &&& 31) = x2 then m_Sea_markOthers_L22 v (trwT n len lv TL ON LV CA) f (seaT n rc cc rl us lf mk co RN) x2 x3 (nI b) (i + 1) else if ¬ (v.2.2.1.2 i.toNatClampNeg >>> ((1 : Int32) &&& 31) < 0 ∨ n ≤ (v.2.2.1.2 i.toNatClampNeg >>> ((1 : Int32) &&& 31)).toNatClampNeg) then (if mk (v.2.2.1.2 i.toNatClampNeg >>> ((1 : Int32) &&& 31)).toNatClampNeg = 0 then (if ¬ (v.2.2.1.2 i.toNatClampNeg >>> ((1 : Int32) &&& 31) < 0 ∨ n ≤ (v.2.2.1.2 i.toNatClampNeg >>> ((1 : Int32) &&& 31)).toNatClampNeg) then ((m_Tra_levelOf (trwT n len lv TL ON LV CA) (v.2.2.1.2 i.toNatClampNeg >>> ((1 : Int32) &&& 31))).bind fun r10 => if r10 = lv then m_Sea_markOthers_L22 v (trwT n len lv TL ON LV CA) f (seaT n rc cc rl us lf (upd mk (v.2.2.1.2 i.toNatClampNeg >>> ((1 : Int32) &&& 31)).toNatClampNeg 1) co RN) x2 (x3 + 1) (nI b) (i + 1) else m_Sea_markOthers_L22 v (trwT n len lv TL ON LV CA) f (seaT n rc cc rl us lf (upd mk (v.2.2.1.2 i.toNatClampNeg >>> ((1 : Int32) &&& 31)).toNatClampNeg 1) co RN) x2 (x3 + 0) (nI b) (i + 1)) else none) else m_Sea_markOthers_L22 v (trwT n len lv TL ON LV CA) f (seaT n rc cc rl us lf mk co RN) x2 x3 (nI b) (i + 1)) else none) else none) := fun f mk x3 i => rfl
  intro d
  induction d with
  | zero =>
    intro i f mk x3 e hf
    obtain ⟨f, rfl⟩ : ∃ g, f = g + 1 := ⟨f - 1, by omega⟩
    rw [eF, if_pos (nI_le (by omega) (by omega))]
    exact ⟨mk, x3, rfl⟩
  | succ d ih =>
    intro i f mk x3 e hf
    obtain ⟨f, rfl⟩ : ∃ g, f = g + 1 := ⟨f - 1, by omega⟩
    obtain ⟨h1, h2, l, hl, el⟩ := hs i (by omega)
    have g : ¬ (nI (l / 2) < 0 ∨ n ≤ (nI (l / 2)).toNatClampNeg) := nI_in (by omega) (by omega)
    rw [eF, if_neg (nI_ge (by omega) (by omega)), if_pos (nI_in h1 (by omega)), nI_clamp (n := i) (by omega), el, shr1 (by omega), nI_1]
    by_cases q1 : nI (l / 2) = x2
    · rw [if_pos q1]
      exact ih (i + 1) f mk x3 (by omega) (by omega)
    · rw [if_neg q1, if_pos g]
      by_cases q2 : mk (nI (l / 2)).toNatClampNeg = 0
      · rw [if_pos q2, if_pos g, level_w (by omega) hn, bind_s]
        by_cases q3 : LV (l / 2) = lv
        · rw [if_pos q3]
          exact ih (i + 1) f _ _ (by omega) (by omega)
        · rw [if_neg q3]
          exact ih (i + 1) f _ _ (by omega) (by omega)
      · rw [if_neg q2]
        exact ih (i + 1) f mk x3 (by omega) (by omega)
theorem mark_w (h : StoW n v C P) {c : Nat} (hc : c ≤ 2000) (x2 : Int32) (mk : Nat → Int32) : ∃ mk' r, m_Sea_markOthers v (trwT n len lv TL ON LV CA) (seaT n rc cc rl us lf mk co RN) (nI c) x2 = some (seaT n rc cc rl us lf mk' co RN, r) := by
  obtain ⟨a, b, e1, e2, e3, e4, e5⟩ := slots_w h hc
  have hn := (stoW_le h).2.2.1
  unfold m_Sea_markOthers
  rw [e1, bind_s, e2, bind_s]
  exact mark22_w hn e4 e5 x2 (b - a) a fu mk 0 (by omega) (by unfold fu; omega)
theorem row25_w (h : StoW n v C P) (hl : len ≤ n) (r1 : ∀ i, i < len → ∃ l, l < 2 * n ∧ TL i = nI l) (r2 : ∀ t, t < n → CA t < 0 ∨ ∃ c, c ≤ 2000 ∧ CA t = nI c) : ∀ (m f : Nat) (mk : Nat → Int32) (x2 : Int32), m ≤ len → m < f → ∃ mk', m_Sea_markRow_L25 v (trwT n len lv TL ON LV CA) f (seaT n rc cc rl us lf mk co RN) x2 (nI m + (-1)) = some (seaT n rc cc rl us lf mk' co RN) := by
  have hn := (stoW_le h).2.2.1
  have eF : ∀ f mk x2 j, m_Sea_markRow_L25 v (trwT n len lv TL ON LV CA) (f + 1) (seaT n rc cc rl us lf mk co RN) x2 j = (if j < 0 then some (seaT n rc cc rl us lf mk co RN) else if x2 < (2 : Int32) then some (seaT n rc cc rl us lf mk co RN) else if ¬ (j < 0 ∨ n ≤ j.toNatClampNeg) then ((m_Tra_causeOf (trwT n len lv TL ON LV CA) (TL j.toNatClampNeg >>> ((1 : Int32) &&& 31))).bind fun r10 => if ¬ (TL j.toNatClampNeg >>> ((1 : Int32) &&& 31) < 0 ∨ n ≤ (TL j.toNatClampNeg >>> ((1 : Int32) &&& 31)).toNatClampNeg) then (if mk (TL j.toNatClampNeg >>> ((1 : Int32) &&& 31)).toNatClampNeg = (1 : Int32) then (if r10 < 0 then m_Sea_markRow_L25 v (trwT n len lv TL ON LV CA) f (seaT n rc cc rl us lf mk co RN) x2 (j + (-1)) else if ¬ (TL j.toNatClampNeg >>> ((1 : Int32) &&& 31) < 0 ∨ n ≤ (TL j.toNatClampNeg >>> ((1 : Int32) &&& 31)).toNatClampNeg) then ((m_Sea_markOthers v (trwT n len lv TL ON LV CA) (seaT n rc cc rl us lf (upd mk (TL j.toNatClampNeg >>> ((1 : Int32) &&& 31)).toNatClampNeg 0) co RN) r10 (TL j.toNatClampNeg >>> ((1 : Int32) &&& 31))).bind fun r14 => m_Sea_markRow_L25 v (trwT n len lv TL ON LV CA) f r14.1 (x2 + (r14.2 - 1)) (j + (-1))) else none) else m_Sea_markRow_L25 v (trwT n len lv TL ON LV CA) f (seaT n rc cc rl us lf mk co RN) x2 (j + (-1))) else none) else none) := fun f mk x2 j => rfl
  intro m
  induction m with
  | zero =>
    intro f mk x2 hm hf
    obtain ⟨f, rfl⟩ : ∃ g, f = g + 1 := ⟨f - 1, by omega⟩
    rw [eF, if_pos (by decide)]
    exact ⟨mk, rfl⟩
  | succ m ih =>
    intro f mk x2 hm hf
    obtain ⟨f, rfl⟩ : ∃ g, f = g + 1 := ⟨f - 1, by omega⟩
    obtain ⟨l, h1, el⟩ := r1 m (by omega)
    have g : ¬ (nI (l / 2) < 0 ∨ n ≤ (nI (l / 2)).toNatClampNeg) := nI_in (by omega) (by omega)
    rw [eF, pk_m1, if_neg (nI_pos (by omega))]
    by_cases q0 : x2 < (2 : Int32)
    · rw [if_pos q0]
      exact ⟨mk, rfl⟩
    · rw [if_neg q0, if_pos (nI_in (by omega) (by omega)), nI_clamp (n := m) (by omega), el, shr1 (by omega), cause_w (by omega) hn, bind_s, if_pos g]
      by_cases q1 : mk (nI (l / 2)).toNatClampNeg = (1 : Int32)
      · rw [if_pos q1]
        rcases r2 (l / 2) (by omega) with w | ⟨c, w1, w2⟩
        · rw [if_pos w]
          exact ih f mk x2 (by omega) (by omega)
        · obtain ⟨mk', r, w3⟩ := mark_w (rc := rc) (cc := cc) (rl := rl) (len := len) (us := us) (lf := lf) (co := co) (RN := RN) (lv := lv) (TL := TL) (ON := ON) (LV := LV) (CA := CA) h w1 (nI (l / 2)) (upd mk (nI (l / 2)).toNatClampNeg 0)
          rw [w2, if_neg (nI_pos (by omega)), if_pos g, w3, bind_s]
          exact ih f mk' _ (by omega) (by omega)
      · rw [if_neg q1]
        exact ih f mk x2 (by omega) (by omega)
theorem markRow_w (h : StoW n v C P) (hl : len ≤ n) (r1 : ∀ i, i < len → ∃ l, l < 2 * n ∧ TL i = nI l) (r2 : ∀ t, t < n → CA t < 0 ∨ ∃ c, c ≤ 2000 ∧ CA t = nI c) {c : Nat} (hc : c ≤ 2000) : ∃ mk', m_Sea_markRow v (trwT n len lv TL ON LV CA) (seaT n rc cc rl us lf mk co RN) (nI c) = some (seaT n rc cc rl us lf mk' co RN) := by
  have hn := (stoW_le h).2.2.1
  obtain ⟨g, f1, f2⟩ := fill_ok 0 (n := n) (by omega) mk
  obtain ⟨mk1, r, w1⟩ := mark_w (rc := rc) (cc := cc) (rl := rl) (len := len) (us := us) (lf := lf) (co := co) (RN := RN) (lv := lv) (TL := TL) (ON := ON) (LV := LV) (CA := CA) h hc (-1) g
  obtain ⟨mk2, w2⟩ := row25_w (rc := rc) (cc := cc) (rl := rl) (us := us) (lf := lf) (co := co) (RN := RN) (lv := lv) (ON := ON) (LV := LV) h hl r1 r2 len fu mk1 r (Nat.le_refl len) (by unfold fu; omega)
  refine ⟨mk2, ?_⟩
  have e : m_Sea_markRow v (trwT n len lv TL ON LV CA) (seaT n rc cc rl us lf mk co RN) (nI c) = ((m_Arr__fill (n, mk) 0).bind fun r16 => (m_Sea_markOthers v (trwT n len lv TL ON LV CA) (nI rc, us, nI n, r16, (40, co), nI cc, (rl, RN), lf) (nI c) (-1)).bind fun r18 => m_Sea_markRow_L25 v (trwT n len lv TL ON LV CA) fu r18.1 r18.2 (nI len - 1)) := rfl
  rw [e, f1, bind_s, show m_Sea_markOthers v (trwT n len lv TL ON LV CA) (nI rc, us, nI n, (n, g), (40, co), nI cc, (rl, RN), lf) (nI c) (-1) = _ from w1, bind_s, Int32.sub_eq_add_neg]
  exact w2
theorem count_w (hn : n ≤ 300) : ∀ (d j f : Nat) (x : Int32), j + d = n → d < f → ∃ r, m_Sea_countMarks_L4 (seaT n rc cc rl us lf mk co RN) f x (nI j) = some r := by
  have eF : ∀ f x j, m_Sea_countMarks_L4 (seaT n rc cc rl us lf mk co RN) (f + 1) x j = (if nI n ≤ j then some x else if ¬ (j < 0 ∨ n ≤ j.toNatClampNeg) then m_Sea_countMarks_L4 (seaT n rc cc rl us lf mk co RN) f (x + mk j.toNatClampNeg) (j + 1) else none) := fun f x j => rfl
  intro d
  induction d with
  | zero =>
    intro j f x e hf
    obtain ⟨f, rfl⟩ : ∃ g, f = g + 1 := ⟨f - 1, by omega⟩
    rw [eF, if_pos (nI_le (by omega) (by omega))]
    exact ⟨x, rfl⟩
  | succ d ih =>
    intro j f x e hf
    obtain ⟨f, rfl⟩ : ∃ g, f = g + 1 := ⟨f - 1, by omega⟩
    rw [eF, if_neg (nI_ge (by omega) (by omega)), if_pos (nI_in (by omega) (by omega)), nI_1]
    exact ih (j + 1) f _ (by omega) (by omega)
theorem great_w (hn : n ≤ 300) (x1 : Int32) : ∀ (d j f : Nat) (x2 : Int32), j + d = n → d < f → ∃ r, m_Sea_greatestLevelBut_L4 (trwT n len lv TL ON LV CA) (seaT n rc cc rl us lf mk co RN) f x1 x2 (nI j) = some r := by
  have eF : ∀ f x2 j, m_Sea_greatestLevelBut_L4 (trwT n len lv TL ON LV CA) (seaT n rc cc rl us lf mk co RN) (f + 1) x1 x2 j = (if nI n ≤ j then some x2 else if ¬ (j < 0 ∨ n ≤ j.toNatClampNeg) then (if mk j.toNatClampNeg = (1 : Int32) then (if j = x1 then m_Sea_greatestLevelBut_L4 (trwT n len lv TL ON LV CA) (seaT n rc cc rl us lf mk co RN) f x1 x2 (j + 1) else (m_Tra_levelOf (trwT n len lv TL ON LV CA) j).bind fun r4 => m_Sea_greatestLevelBut_L4 (trwT n len lv TL ON LV CA) (seaT n rc cc rl us lf mk co RN) f x1 (if x2 < r4 then r4 else x2) (j + 1)) else m_Sea_greatestLevelBut_L4 (trwT n len lv TL ON LV CA) (seaT n rc cc rl us lf mk co RN) f x1 x2 (j + 1)) else none) := fun f x2 j => rfl
  intro d
  induction d with
  | zero =>
    intro j f x2 e hf
    obtain ⟨f, rfl⟩ : ∃ g, f = g + 1 := ⟨f - 1, by omega⟩
    rw [eF, if_pos (nI_le (by omega) (by omega))]
    exact ⟨x2, rfl⟩
  | succ d ih =>
    intro j f x2 e hf
    obtain ⟨f, rfl⟩ : ∃ g, f = g + 1 := ⟨f - 1, by omega⟩
    rw [eF, if_neg (nI_ge (by omega) (by omega)), if_pos (nI_in (by omega) (by omega)), nI_1]
    by_cases q : mk (nI j).toNatClampNeg = (1 : Int32)
    · rw [if_pos q]
      by_cases q2 : nI j = x1
      · rw [if_pos q2]
        exact ih (j + 1) f x2 (by omega) (by omega)
      · rw [if_neg q2, level_w (by omega) hn, bind_s]
        exact ih (j + 1) f _ (by omega) (by omega)
    · rw [if_neg q]
      exact ih (j + 1) f x2 (by omega) (by omega)
theorem store50_w (hn : n ≤ 300) : ∀ (d j f : Nat) (v : T_Sto) (P : Nat) (x : Int32), j + d = n → d < f → StoW n v C P → ∃ v' r c s P', m_Sea_storeRow_L50 (trwT n len lv TL ON LV CA) f v (seaT n rc cc rl us lf mk co RN) x (nI j) = some ((v', seaT n rc cc rl us lf mk co RN, r), c, s) ∧ StoW n v' C P' ∧ c ≤ s ∧ s + P ≤ P' := by
  have eF : ∀ f v x j, m_Sea_storeRow_L50 (trwT n len lv TL ON LV CA) (f + 1) v (seaT n rc cc rl us lf mk co RN) x j = (if nI n ≤ j then some ((v, seaT n rc cc rl us lf mk co RN, x), 0, 0) else if ¬ (j < 0 ∨ n ≤ j.toNatClampNeg) then (if mk j.toNatClampNeg = (1 : Int32) then ((m_Tra_refusedLiteralOf (trwT n len lv TL ON LV CA) j).bind fun r17 => (m_Sto_append v r17).bind fun r19 => addc r19.2.1 r19.2.2 ((m_Tra_levelOf (trwT n len lv TL ON LV CA) j).bind fun r24 => if r24 = lv then m_Sea_storeRow_L50 (trwT n len lv TL ON LV CA) f r19.1 (seaT n rc cc rl us lf mk co RN) r17 (j + 1) else m_Sea_storeRow_L50 (trwT n len lv TL ON LV CA) f r19.1 (seaT n rc cc rl us lf mk co RN) x (j + 1))) else m_Sea_storeRow_L50 (trwT n len lv TL ON LV CA) f v (seaT n rc cc rl us lf mk co RN) x (j + 1)) else none) := fun f v x j => rfl
  intro d
  induction d with
  | zero =>
    intro j f v P x e hf h
    obtain ⟨f, rfl⟩ : ∃ g, f = g + 1 := ⟨f - 1, by omega⟩
    rw [eF, if_pos (nI_le (by omega) (by omega))]
    exact ⟨v, x, 0, 0, P, rfl, h, Nat.le_refl 0, by omega⟩
  | succ d ih =>
    intro j f v P x e hf h
    obtain ⟨f, rfl⟩ : ∃ g, f = g + 1 := ⟨f - 1, by omega⟩
    rw [eF, if_neg (nI_ge (by omega) (by omega)), if_pos (nI_in (by omega) (by omega)), nI_1]
    by_cases q : mk (nI j).toNatClampNeg = (1 : Int32)
    · obtain ⟨v1, c1, s1, P1, a1, a2, a3, a4⟩ := append_w h (ON j ^^^ 1)
      rw [if_pos q, refused_w (by omega) hn, bind_s, a1, bind_s, level_w (by omega) hn, bind_s]
      by_cases q2 : LV j = lv
      · obtain ⟨v', r, c, s, P', b1, b2, b3, b4⟩ := ih (j + 1) f v1 P1 (ON j ^^^ 1) (by omega) (by omega) a2
        rw [if_pos q2, b1]
        exact ⟨v', r, c1 + c, s1 + s, P', rfl, b2, by omega, by omega⟩
      · obtain ⟨v', r, c, s, P', b1, b2, b3, b4⟩ := ih (j + 1) f v1 P1 x (by omega) (by omega) a2
        rw [if_neg q2, b1]
        exact ⟨v', r, c1 + c, s1 + s, P', rfl, b2, by omega, by omega⟩
    · rw [if_neg q]
      exact ih (j + 1) f v P x (by omega) (by omega) h
end
/-- the whole search part, with the sum of what its arrays have cost at most -/
def SysW (n C T : Nat) (sto : T_Sto) (tal : T_Tal) (tra : T_Tra) (se : T_Sea) : Prop := ∃ P Q R, StoW n sto C P ∧ TalW tal C Q ∧ TraW n tra ∧ SeaW n se C R ∧ T = P + Q + R
theorem learn_w {n C T : Nat} {sto : T_Sto} {tal : T_Tal} {tra : T_Tra} {se : T_Sea} (h : SysW n C T sto tal tra se) {d : Nat} (hd : d ≤ 2000) : ∃ sto' tal' tra' se' o c s C' T', m_Sea_learnFrom sto tal tra se (nI d) = some ((sto', tal', tra', se', o), c, s) ∧ SysW n C' T' sto' tal' tra' se' ∧ c ≤ s ∧ s + T ≤ T' := by
  obtain ⟨P, Q, R, hS, hT, hR, hE, rfl⟩ := id h
  obtain ⟨hC, n1, hn, -⟩ := stoW_le hS
  obtain ⟨len, lv, TL, ON, LV, CA, rfl, ⟨z1, z2, z3⟩, r1, r2⟩ := id hR
  obtain ⟨rc, us, mk, co, cc, rl, RN, lf, rfl, u1, ⟨u2, u3, u4⟩, u5, u6, rfl⟩ := id hE
  have e : m_Sea_learnFrom sto tal (trwT n len lv TL ON LV CA) (seaT n rc cc rl us lf mk co RN) (nI d) = (if 0 < lg_cmp lf 0 then ((m_Sea_markRow sto (trwT n len lv TL ON LV CA) (seaT n rc cc rl us lf mk co RN) (nI d)).bind fun r26 => (m_Sea_countMarks r26).bind fun r28 => (m_Sto_hasRoom sto 1 r28).bind fun r30 => if r30 = 0 then some ((sto, tal, trwT n len lv TL ON LV CA, r26, 3), 0, 0) else (m_Sea_countStep r26).bind fun r32 => (m_Sea_storeRow (trwT n len lv TL ON LV CA) sto r32).bind fun r34 => addc r34.2.1 r34.2.2 ((m_Tal_enterDead r34.1.1 tal).bind fun r41 => addc r41.2.1 r41.2.2 ((m_Sea_greatestLevelBut (trwT n len lv TL ON LV CA) r34.1.2.1 (r34.1.2.2 >>> ((1 : Int32) &&& 31))).bind fun r45 => (m_Tra_cutAbove r34.1.1 r41.1 (trwT n len lv TL ON LV CA) r45).bind fun r47 => (m_Tra_put r34.1.1 r47.1 r47.2 r34.1.2.2 (r34.1.1.1 - 1)).bind fun r49 => some ((r34.1.1, r49.1, r49.2, r34.1.2.1, 4), 0, 0)))) else some ((sto, tal, trwT n len lv TL ON LV CA, seaT n rc cc rl us lf mk co RN, 3), 0, 0)) := rfl
  have same : ∀ mk, SysW n C (P + Q + pot rl 1500) sto tal (trwT n len lv TL ON LV CA) (seaT n rc cc rl us lf mk co RN) := fun mk => ⟨P, Q, _, hS, hT, hR, ⟨rc, us, mk, co, cc, rl, RN, lf, rfl, u1, ⟨u2, u3, u4⟩, u5, u6, rfl⟩, rfl⟩
  show ∃ sto' tal' tra' se' o c s C' T', m_Sea_learnFrom sto tal (trwT n len lv TL ON LV CA) (seaT n rc cc rl us lf mk co RN) (nI d) = some ((sto', tal', tra', se', o), c, s) ∧ _
  rw [e]
  by_cases q : 0 < lg_cmp lf 0
  · rw [if_pos q]
    obtain ⟨mk1, w1⟩ := markRow_w (rc := rc) (cc := cc) (rl := rl) (us := us) (lf := lf) (mk := mk) (co := co) (RN := RN) (lv := lv) (ON := ON) (LV := LV) hS z3 r1 r2 hd
    obtain ⟨cn, w2⟩ := count_w (rc := rc) (cc := cc) (rl := rl) (us := us) (lf := lf) (mk := mk1) (co := co) (RN := RN) hn n 0 fu 0 (by omega) (by unfold fu; omega)
    rw [w1, bind_s, show m_Sea_countMarks (seaT n rc cc rl us lf mk1 co RN) = _ from w2, bind_s]
    have hr : m_Sto_hasRoom sto 1 cn = some 0 ∨ (m_Sto_hasRoom sto 1 cn = some 1 ∧ C + 1 ≤ 1500) := by
      obtain ⟨N, l1, l2, l3, l5, L, O, X, G, S, lit, own, start, rfl, hI, -⟩ := id hS
      have e2 : m_Sto_hasRoom (stoT C N l1 l2 l3 n l5 L O X G S) 1 cn = (if (1500 : Int32) < nI C + 1 then some 0 else if (20000 : Int32) < nI N + cn then some 0 else some 1) := rfl
      rw [e2, nI_1]
      by_cases q2 : C + 1 ≤ 1500
      · rw [if_neg (show ¬ (1500 : Int32) < nI (C + 1) from nI_nlt (a := 1500) q2 (by omega))]
        by_cases q3 : (20000 : Int32) < nI N + cn
        · rw [if_pos q3]; exact Or.inl rfl
        · rw [if_neg q3]; exact Or.inr ⟨rfl, q2⟩
      · rw [if_pos (show (1500 : Int32) < nI (C + 1) from nI_lt (a := 1500) (by omega) (by omega))]
        exact Or.inl rfl
    rcases hr with hr | ⟨hr, hC1⟩
    · rw [hr, bind_s, if_pos rfl]
      exact ⟨_, _, _, _, _, 0, 0, C, _, rfl, same mk1, Nat.le_refl 0, by omega⟩
    · rw [hr, bind_s, if_neg (by decide), show m_Sea_countStep (seaT n rc cc rl us lf mk1 co RN) = some (seaT n rc cc rl (us + 1) (lf - 1) mk1 co RN) from rfl, bind_s]
      obtain ⟨N, l1, l2, l3, l5, L, O, X, G, S, lit, own, start, rfl, hI, rfl⟩ := id hS
      obtain ⟨rl', RN', c1, s1, a1, a2, a3, a4, a5, a6, a7⟩ := room_ok (len := rl) (k := rc + 1) (most := 1500) RN u2 u3 (by omega) (by omega)
      obtain ⟨l5', S', c2, s2, b1, b2, b3, b4⟩ := open_ok hI hC1
      obtain ⟨v', turned, c3, s3, P', d1, d2, d3, d4⟩ := store50_w (C := C + 1) (rc := rc + 1) (cc := cc) (rl := rl') (len := len) (us := us + 1) (lf := lf - 1) (mk := mk1) (co := co) (RN := upd RN' rc (nI C)) (lv := lv) (TL := TL) (ON := ON) (LV := LV) (CA := CA) hn n 0 fu (stoT (C + 1) N l1 l2 l3 n l5' L O X G S') _ (-1) (by omega) (by unfold fu; omega) ⟨_, _, _, _, _, _, _, _, _, _, _, _, _, rfl, b2, rfl⟩
      have es : m_Sea_storeRow (trwT n len lv TL ON LV CA) (stoT C N l1 l2 l3 n l5 L O X G S) (seaT n rc cc rl (us + 1) (lf - 1) mk1 co RN) = some ((v', seaT n (rc + 1) cc rl' (us + 1) (lf - 1) mk1 co (upd RN' rc (nI C)), turned), c1 + (c2 + c3), s1 + (s2 + s3)) := by
        have e3 : m_Sea_storeRow (trwT n len lv TL ON LV CA) (stoT C N l1 l2 l3 n l5 L O X G S) (seaT n rc cc rl (us + 1) (lf - 1) mk1 co RN) = ((m_CS_withRoomFor (rl, RN) (nI rc + 1) 1500).bind fun r26 => addc r26.2.1 r26.2.2 ((m_Sto_open (stoT C N l1 l2 l3 n l5 L O X G S)).bind fun r29 => addc r29.2.1 r29.2.2 (if ¬ (nI rc < 0 ∨ r26.1.1 ≤ (nI rc).toNatClampNeg) then m_Sea_storeRow_L50 (trwT n len lv TL ON LV CA) fu r29.1.1 (nI rc + 1, us + 1, nI n, (n, mk1), (40, co), nI cc, (r26.1.1, upd r26.1.2 (nI rc).toNatClampNeg r29.1.2), lf - 1) (-1) 0 else none))) := rfl
        rw [e3, nI_1, show m_CS_withRoomFor (rl, RN) (nI (rc + 1)) 1500 = _ from a1, bind_s, b1, bind_s, if_pos (by exact nI_in (c := rc) (N := rl') (by omega) (by omega)), nI_clamp (n := rc) (by omega), show m_Sea_storeRow_L50 (trwT n len lv TL ON LV CA) fu (stoT (C + 1) N l1 l2 l3 n l5' L O X G S') (nI (rc + 1), us + 1, nI n, (n, mk1), (40, co), nI cc, (rl', upd RN' rc (nI C)), lf - 1) (-1) 0 = _ from d1]
        rfl
      obtain ⟨t1, c4, s4, Q', f1, f2, f3, f4⟩ := dead_w d2 hT
      obtain ⟨gl, g1⟩ := great_w (rc := rc + 1) (cc := cc) (rl := rl') (len := len) (us := us + 1) (lf := lf - 1) (mk := mk1) (co := co) (RN := upd RN' rc (nI C)) (lv := lv) (TL := TL) (ON := ON) (LV := LV) (CA := CA) hn (turned >>> ((1 : Int32) &&& 31)) n 0 fu 0 (by omega) (by unfold fu; omega)
      obtain ⟨t2, tra2, i1, i2, i3⟩ := cutAbove_w d2 f2 hR gl
      have hv : v'.1 = nI (C + 1) := by
        obtain ⟨_, _, _, _, _, _, _, _, _, _, _, _, _, ev, -⟩ := d2
        rw [ev]
      obtain ⟨t3, tra3, k1, k2, k3⟩ := put_w d2 i2 i3 turned (y := nI C) (Or.inr ⟨C, by omega, rfl⟩)
      rw [es, bind_s, f1, bind_s, show m_Sea_greatestLevelBut (trwT n len lv TL ON LV CA) (seaT n (rc + 1) cc rl' (us + 1) (lf - 1) mk1 co (upd RN' rc (nI C))) (turned >>> ((1 : Int32) &&& 31)) = _ from g1, bind_s, i1, bind_s, hv, nI_pred, k1, bind_s]
      refine ⟨_, _, _, _, _, c1 + (c2 + c3) + (c4 + 0), s1 + (s2 + s3) + (s4 + 0), C + 1, _, rfl, ⟨P', Q', _, d2, k2, k3, ⟨rc + 1, us + 1, mk1, co, cc, rl', upd RN' rc (nI C), lf - 1, rfl, by omega, ⟨by omega, a4, a2⟩, u5, fun j hj => ?_, rfl⟩, rfl⟩, by omega, by omega⟩
      by_cases w : j = rc
      · exact ⟨C, by omega, by rw [w, pk_us]⟩
      · rw [pk_un w, a5 j (by omega)]
        obtain ⟨c', y1, y2⟩ := u6 j (by omega)
        exact ⟨c', by omega, y2⟩
  · rw [if_neg q]
    exact ⟨_, _, _, _, _, 0, 0, C, _, rfl, same mk, Nat.le_refl 0, by omega⟩
