/-! PURE, 24: a row is learned -/
/-- on the trail, at level j or below -/
def OnL (len : Nat) (tr lvl : Nat → Nat) (j l : Nat) : Prop := ∃ i, i < len ∧ tr i = l ∧ lvl (l / 2) ≤ j
/-- below the present level no clause was dead or unit when the next level began -/
def I3 (len pr C : Nat) (lit start tr lvl : Nat → Nat) : Prop :=
  ∀ j, j < pr → ∀ c, c < C → (∃ s, start c ≤ s ∧ s < start (c + 1) ∧ OnL len tr lvl j (lit s)) ∨ ∃ s1 s2, start c ≤ s1 ∧ s1 < s2 ∧ s2 < start (c + 1) ∧ ¬ OnL len tr lvl j (opp (lit s1)) ∧ ¬ OnL len tr lvl j (opp (lit s2))
def SInv (n C len pr : Nat) (RO VA LV CA PL : Nat → Int32) (lit start tr lvl : Nat → Nat) : Prop :=
  MTra n len pr RO VA LV PL tr lvl ∧ Cau len C CA lit start tr lvl ∧ I3 len pr C lit start tr lvl
def RowI (rc C : Nat) (RC : Nat → Int32) : Prop := rc ≤ C ∧ ∀ j, j < rc → ∃ c, c < C ∧ RC j = nI c
/-- what the new clause has: the marked literals; and the old ones stay -/
theorem row_inv {n C len pr N N' : Nat} {RO VA LV CA PL : Nat → Int32} {lit start lit' start' tr lvl : Nat → Nat} {LI FR LI' FR' : Nat → Int32} {mk : Nat → Bool} (hS : ModS n C N LI FR lit start) (h : MTra n len pr RO VA LV PL tr lvl) (hC : Cau len C CA lit start tr lvl) (h3 : I3 len pr C lit start tr lvl) (hR : MkR n len tr mk) {b g : Nat} (pb : Pm pr lvl mk b) (hU : ∀ l, Pm pr lvl mk l → l = b) (hp : 0 < pr) (g1 : ∀ l, mk l = true → ¬ l = b → lvl (l / 2) ≤ g) (g2 : g = 0 ∨ ∃ l, mk l = true ∧ ¬ l = b ∧ lvl (l / 2) = g) (hS' : ModS n (C + 1) N' LI' FR' lit' start') (a1 : ∀ s, s < N → lit' s = lit s) (a2 : ∀ c, c < C + 1 → start' c = start c) (a3 : ∀ s, N ≤ s → s < N' → mk (lit' s) = true) (a4 : ∀ l, mk l = true → ∃ s, N ≤ s ∧ s < N' ∧ lit' s = l) {len' : Nat} {VA' : Nat → Int32} (c1 : MTc n len' RO VA' LV PL tr lvl) (c2 : len' ≤ len) (c3 : ∀ i, i < len' → lvl (tr i / 2) ≤ g) (c4 : ∀ i, len' ≤ i → i < len → g < lvl (tr i / 2)) : g ≤ len' + 1 ∧ (∀ i, i < len' → ¬ tr i / 2 = b / 2) ∧ (MTc n (len' + 1) (upd RO len' (nI (b / 2))) (upd VA' (b / 2) (nI (b % 2 + 1))) (upd LV (b / 2) (nI g)) (upd PL (b / 2) (nI len')) (va_up tr len' b) (va_up lvl (b / 2) g) → SInv n (C + 1) (len' + 1) g (upd RO len' (nI (b / 2))) (upd VA' (b / 2) (nI (b % 2 + 1))) (upd LV (b / 2) (nI g)) (upd CA (b / 2) (nI C)) (upd PL (b / 2) (nI len')) lit' start' (va_up tr len' b) (va_up lvl (b / 2) g)) := by
  have y6 : start C = N := hS.2.2.1
  have y6' : start' (C + 1) = N' := hS'.2.2.1
  -- a marked literal beside b lies below the cut
  have low : ∀ l, mk l = true → ¬ l = b → ∃ i, i < len' ∧ tr i = opp l := fun l q w => by
    obtain ⟨-, i, hi, ei⟩ := hR l q
    by_cases c : i < len'
    · exact ⟨i, c, ei⟩
    · have := c4 i (by omega) hi
      rw [ei, opp_half] at this
      have := g1 l q w
      omega
  have lp : ∀ l, mk l = true → ¬ l = b → lvl (l / 2) < pr := fun l q w => by
    obtain ⟨-, i, hi, ei⟩ := hR l q
    have a := (h.2.1 i hi).2.2.2.2.2.1
    rw [ei, opp_half] at a
    by_cases c : lvl (l / 2) = pr
    · exact absurd (hU l ⟨q, c⟩) w
    · omega
  have gp : g < pr := by
    rcases g2 with q | ⟨l, q1, q2, q3⟩
    · omega
    · have := lp l q1 q2
      omega
  have nb : ∀ i, i < len' → ¬ tr i / 2 = b / 2 := fun i hi q => by
    have := c3 i hi
    rw [q, pb.2] at this
    omega
  have gl : g ≤ len' := by
    rcases g2 with q | ⟨l, q1, q2, q3⟩
    · omega
    · obtain ⟨i, hi, ei⟩ := low l q1 q2
      have := (c1.2.1 i hi).2.2.2.2.2
      rw [ei, opp_half, q3] at this
      omega
  refine ⟨by omega, nb, fun hT => ?_⟩
  have tn : ∀ i, i < len' → va_up tr len' b i = tr i := fun i hi => up_n _ _ (by omega)
  have ts : va_up tr len' b len' = b := up_s _ _ _
  have ln : ∀ t, ¬ t = b / 2 → va_up lvl (b / 2) g t = lvl t := fun t q => up_n _ _ q
  have ls : va_up lvl (b / 2) g (b / 2) = g := up_s _ _ _
  have st1 : ∀ c, c < C → start' c = start c ∧ start' (c + 1) = start (c + 1) ∧ start (c + 1) ≤ N := fun c hc => ⟨a2 c (by omega), a2 (c + 1) (by omega), ms_le hS (by omega)⟩
  refine ⟨mt_of hT (by omega) (fun i hi => ?_), fun i hi => ?_, fun j hj c hc => ?_⟩
  · by_cases q : i = len'
    · rw [q, ts, ls]; exact Nat.le_refl g
    · rw [tn i (by omega), ln _ (nb i (by omega))]
      exact c3 i (by omega)
  · by_cases q : i = len'
    · rw [q, ts]
      refine Or.inr ⟨C, by omega, by rw [pk_us], fun s h1 h2 => ?_⟩
      rw [a2 C (by omega), y6] at h1
      rw [y6'] at h2
      have m := a3 s h1 h2
      by_cases e : lit' s = b
      · exact Or.inl (by rw [e])
      · obtain ⟨j, hj, ej⟩ := low _ m e
        exact Or.inr ⟨j, hj, by rw [tn j hj]; exact ej⟩
    · have hi' : i < len' := by omega
      rw [tn i hi', pk_un (nb i hi')]
      rcases hC i (by omega) with ⟨q1, q2⟩ | ⟨c, q1, q2, q3⟩
      · refine Or.inl ⟨q1, fun j hj => ?_⟩
        rw [tn j (by omega), ln _ (nb j (by omega)), ln _ (nb i hi')]
        exact q2 j hj
      · refine Or.inr ⟨c, by omega, q2, fun s h1 h2 => ?_⟩
        obtain ⟨w1, w2, w3⟩ := st1 c q1
        rw [w1] at h1
        rw [w2] at h2
        rw [a1 s (by omega)]
        rcases q3 s h1 h2 with w | ⟨j, w4, w5⟩
        · exact Or.inl w
        · exact Or.inr ⟨j, w4, by rw [tn j (by omega)]; exact w5⟩
  · -- what stood at level j or below, stands so still
    have eo : ∀ l, OnL (len' + 1) (va_up tr len' b) (va_up lvl (b / 2) g) j l ↔ OnL len tr lvl j l := fun l => by
      constructor
      · rintro ⟨i, hi, ei, el⟩
        by_cases q : i = len'
        · rw [q, ts] at ei
          rw [← ei, ls] at el
          omega
        · rw [tn i (by omega)] at ei
          have := nb i (by omega)
          rw [ei] at this
          rw [ln _ this] at el
          exact ⟨i, by omega, ei, el⟩
      · rintro ⟨i, hi, ei, el⟩
        have hi' : i < len' := by
          by_cases q : i < len'
          · exact q
          · have := c4 i (by omega) hi
            rw [ei] at this
            omega
        have := nb i hi'
        rw [ei] at this
        exact ⟨i, by omega, by rw [tn i hi']; exact ei, by rw [ln _ this]; exact el⟩
    by_cases q : c = C
    · -- the new clause
      obtain ⟨sb, s1, s2, s3⟩ := a4 b pb.1
      rcases g2 with w | ⟨l, w1, w2, w3⟩
      · omega
      · obtain ⟨sl, t1, t2, t3⟩ := a4 l w1
        have ne : ¬ sb = sl := fun e => by
          rw [e, t3] at s3
          exact w2 s3
        have o1 : ¬ OnL len tr lvl j (opp (lit' sb)) := by
          rintro ⟨i, hi, ei, el⟩
          rw [s3, opp_half, pb.2] at el
          omega
        have o2 : ¬ OnL len tr lvl j (opp (lit' sl)) := by
          rintro ⟨i, hi, ei, el⟩
          rw [t3, opp_half, w3] at el
          omega
        rw [q, a2 C (by omega), y6, y6']
        by_cases c : sb < sl
        · exact Or.inr ⟨sb, sl, s1, c, t2, fun y => o1 ((eo _).mp y), fun y => o2 ((eo _).mp y)⟩
        · exact Or.inr ⟨sl, sb, t1, by omega, s2, fun y => o2 ((eo _).mp y), fun y => o1 ((eo _).mp y)⟩
    · obtain ⟨w1, w2, w3⟩ := st1 c (by omega)
      rw [w1, w2]
      rcases h3 j (by omega) c (by omega) with ⟨s, q1, q2, q3⟩ | ⟨s1, s2, q1, q2, q3, q4, q5⟩
      · exact Or.inl ⟨s, q1, q2, by rw [a1 s (by omega)]; exact (eo _).mpr q3⟩
      · refine Or.inr ⟨s1, s2, q1, q2, q3, ?_, ?_⟩
        · rw [a1 s1 (by omega)]; exact fun y => q4 ((eo _).mp y)
        · rw [a1 s2 (by omega)]; exact fun y => q5 ((eo _).mp y)
section
variable {n C rc kn k : Nat} {LI FR TO RC KT KP KS AS : Nat → Int32} {hc : Int32} {IC : Nat → Int32} {len : Nat} {RO VA LV CA PL : Nat → Int32} {pr : Nat} {st : Int32} {lf us : Int64} {MK : Nat → Int32} {N : Nat} {lit start tr lvl : Nat → Nat} {mk : Nat → Bool}
theorem row_end (hn : n ≤ 300) (hr : rc < 1500) (hC1 : 1 ≤ C) (x3 x4 : Int32) : m_Mod_learns_L192 1 (modT n C rc kn k LI FR TO RC KT KP KS AS hc IC len RO VA LV CA PL pr st lf us MK) x3 x4 (nI (2 * n)) = (m_Mod_cut (modT n C (rc + 1) kn k LI FR TO (upd RC rc (nI (C - 1))) KT KP KS AS hc IC len RO VA LV CA PL pr st lf us MK) x4).bind fun r22 => (m_Mod_comes r22 x3 r22.2.2.2.2.2.2.2.2.2.2.2.2.2.2.2.2.2.2.2.2.2.2.1 (r22.2.2.2.2.2.1 - 1)).bind fun r24 => some (r24, 1) := by
  have e : m_Mod_learns_L192 1 (modT n C rc kn k LI FR TO RC KT KP KS AS hc IC len RO VA LV CA PL pr st lf us MK) x3 x4 (nI (2 * n)) = (if (2 : Int32) * nI n ≤ nI (2 * n) then (if ¬ (nI rc < 0 ∨ 1500 ≤ (nI rc).toNatClampNeg) then ((m_Mod_cut (0, nI n, (20000, LI), (1502, FR), (1501, TO), nI C, nI rc + 1, (1500, upd RC (nI rc).toNatClampNeg (nI C - 1)), nI kn, (300, KT), (300, KP), (300, KS), nI k, (40, AS), hc, (40, IC), nI len, (300, RO), (300, VA), (300, LV), (300, CA), (300, PL), nI pr, st, lf, us, (600, MK)) x4).bind fun r22 => (m_Mod_comes r22 x3 r22.2.2.2.2.2.2.2.2.2.2.2.2.2.2.2.2.2.2.2.2.2.2.1 (r22.2.2.2.2.2.1 - 1)).bind fun r24 => some (r24, 1)) else none) else if ¬ (nI (2 * n) < 0 ∨ 600 ≤ (nI (2 * n)).toNatClampNeg) then (if MK (nI (2 * n)).toNatClampNeg = 0 then none else (m_Mod_put (modT n C rc kn k LI FR TO RC KT KP KS AS hc IC len RO VA LV CA PL pr st lf us MK) (nI (2 * n))).bind fun r27 => none) else none) := rfl
  have e2 : (2 : Int32) * nI n = nI (2 * n) := pk_mul 2 n
  have e3 : nI C - 1 = nI (C - 1) := pk_sub (b := 1) hC1
  rw [e, e2, if_pos (nI_le (Nat.le_refl _) (by omega)), if_pos (nI_in hr (by omega)), nI_clamp (n := rc) (by omega), e3, nI_1]
theorem clear_L (x : Int32) : ∀ (d j f : Nat) (MK : Nat → Int32), j + d = 600 → d < f → (∀ l, l < j → MK l = 0) → ∃ MK', m_Mod_learns_L2 f (modT n C rc kn k LI FR TO RC KT KP KS AS hc IC len RO VA LV CA PL pr st lf us MK) x (nI j) = ((m_Mod_mix (modT n C rc kn k LI FR TO RC KT KP KS AS hc IC len RO VA LV CA PL pr st lf us MK') x).bind fun r46 => (m_Mod_last r46).bind fun r48 => m_Mod_learns_L32 fu r46 r48) ∧ MkI MK' (fun _ => false) := by
  have eF : ∀ f MK j, m_Mod_learns_L2 (f + 1) (modT n C rc kn k LI FR TO RC KT KP KS AS hc IC len RO VA LV CA PL pr st lf us MK) x j = (if (600 : Int32) ≤ j then ((m_Mod_mix (modT n C rc kn k LI FR TO RC KT KP KS AS hc IC len RO VA LV CA PL pr st lf us MK) x).bind fun r46 => (m_Mod_last r46).bind fun r48 => m_Mod_learns_L32 fu r46 r48) else if ¬ (j < 0 ∨ 600 ≤ j.toNatClampNeg) then m_Mod_learns_L2 f (modT n C rc kn k LI FR TO RC KT KP KS AS hc IC len RO VA LV CA PL pr st lf us (upd MK j.toNatClampNeg ((0 : Int32) &&& 1))) x (j + 1) else none) := fun f MK j => rfl
  intro d
  induction d with
  | zero =>
    intro j f MK e hf h
    obtain ⟨f, rfl⟩ : ∃ g, f = g + 1 := ⟨f - 1, by omega⟩
    refine ⟨MK, ?_, fun l hl => h l (by omega)⟩
    rw [eF, if_pos (show (600 : Int32) ≤ nI j from nI_le (a := 600) (by omega) (by omega))]
  | succ d ih =>
    intro j f MK e hf h
    obtain ⟨f, rfl⟩ : ∃ g, f = g + 1 := ⟨f - 1, by omega⟩
    rw [eF, if_neg (show ¬ (600 : Int32) ≤ nI j from nI_ge (b := 600) (by omega) (by omega)), if_pos (nI_in (by omega) (by omega)), nI_clamp (n := j) (by omega), nI_1, and10]
    refine ih (j + 1) f (upd MK j 0) (by omega) (by omega) (fun l hl => ?_)
    by_cases q : l = j
    · rw [q, pk_us]
    · rw [pk_un q]
      exact h l (by omega)
/-- learns(): SPENT, with nothing changed but the marks; or a row more -/
theorem mlearn_ok (hS : ModS n C N LI FR lit start) (hI : SInv n C len pr RO VA LV CA PL lit start tr lvl) (hw : RowI rc C RC) (hp : 0 < pr) {c : Nat} (hc1 : c < C) (hd : ∀ s, start c ≤ s → s < start (c + 1) → On len tr (opp (lit s))) :
    (∃ MK', m_Mod_learns (modT n C rc kn k LI FR TO RC KT KP KS AS hc IC len RO VA LV CA PL pr st lf us MK) (nI c) = some ((modT n C rc kn k LI FR TO RC KT KP KS AS hc IC len RO VA LV CA PL pr 3 lf us MK'), 0)) ∨
    (∃ LI' FR' TO' RC' len' RO' VA' LV' CA' PL' pr' MK' N' lit' start' tr' lvl', m_Mod_learns (modT n C rc kn k LI FR TO RC KT KP KS AS hc IC len RO VA LV CA PL pr st lf us MK) (nI c) = some ((modT n (C + 1) (rc + 1) kn k LI' FR' TO' RC' KT KP KS AS hc IC len' RO' VA' LV' CA' PL' pr' st (lf - 1) (us + 1) MK'), 1) ∧ ModS n (C + 1) N' LI' FR' lit' start' ∧ SInv n (C + 1) len' pr' RO' VA' LV' CA' PL' lit' start' tr' lvl' ∧ RowI (rc + 1) (C + 1) RC') := by
  obtain ⟨h, hC, h3⟩ := hI
  obtain ⟨⟨z1, z2, z3, z4⟩, t1, t2, t3⟩ := id h
  obtain ⟨⟨y1, y2, y3, y4⟩, y5, y6, y7, y8⟩ := id hS
  obtain ⟨MK0, d1, d2⟩ := clear_L (n := n) (C := C) (rc := rc) (kn := kn) (k := k) (LI := LI) (FR := FR) (TO := TO) (RC := RC) (KT := KT) (KP := KP) (KS := KS) (AS := AS) (hc := hc) (IC := IC) (len := len) (RO := RO) (VA := VA) (LV := LV) (CA := CA) (PL := PL) (pr := pr) (st := st) (lf := lf) (us := us) (nI c) 600 0 fu MK (by omega) (by unfold fu; omega) (fun l hl => absurd hl (by omega))
  obtain ⟨MK1, mk1, r1, r2, r3⟩ := mix_ok (n := n) (C := C) (rc := rc) (kn := kn) (k := k) (LI := LI) (FR := FR) (TO := TO) (RC := RC) (KT := KT) (KP := KP) (KS := KS) (AS := AS) (hc := hc) (IC := IC) (len := len) (RO := RO) (VA := VA) (LV := LV) (CA := CA) (PL := PL) (pr := pr) (st := st) (lf := lf) (us := us) (MK := MK0) hS hc1 d2
  have R1 : MkR n len tr mk1 := fun l q => by
    rcases (r3 l).mp q with w | ⟨s, w1, w2, w3⟩
    · cases w
    · have l2 := (y8 s (Nat.lt_of_lt_of_le w2 (ms_le hS (c := c + 1) (by omega)))).2
      have o := hd s w1 w2
      rw [w3] at l2 o
      exact ⟨l2, o⟩
  have E1 : ∃ l, Pm pr lvl mk1 l := by
    rcases h3 (pr - 1) (by omega) c hc1 with ⟨s, w1, w2, i, hi, ei, el⟩ | ⟨s, s2, w1, w2, w3, w4, -⟩
    · exact absurd (hd s w1 w2) (fun q => on_one h ⟨i, hi, ei⟩ q)
    · refine ⟨lit s, (r3 _).mpr (Or.inr ⟨s, w1, by omega, rfl⟩), ?_⟩
      obtain ⟨i, hi, ei⟩ := hd s w1 (by omega)
      have a := (t1 i hi).2.2.2.2.2.1
      rw [ei, opp_half] at a
      by_cases q : lvl (lit s / 2) ≤ pr - 1
      · exact absurd ⟨i, hi, ei, by rw [opp_half]; exact q⟩ w4
      · omega
  obtain ⟨r, l1, l2⟩ := last_ok (n := n) (C := C) (rc := rc) (kn := kn) (k := k) (LI := LI) (FR := FR) (TO := TO) (RC := RC) (KT := KT) (KP := KP) (KS := KS) (AS := AS) (hc := hc) (IC := IC) (len := len) (RO := RO) (VA := VA) (LV := LV) (CA := CA) (PL := PL) (pr := pr) (st := st) (lf := lf) (us := us) (MK := MK1) h r2 R1
  obtain ⟨MK2, mk, s1, s2, s3, b, pb, hU⟩ := learn_L (n := n) (C := C) (rc := rc) (kn := kn) (k := k) (LI := LI) (FR := FR) (TO := TO) (RC := RC) (KT := KT) (KP := KP) (KS := KS) (AS := AS) (hc := hc) (IC := IC) (len := len) (RO := RO) (VA := VA) (LV := LV) (CA := CA) (PL := PL) (pr := pr) (st := st) (lf := lf) (us := us) hS h hC len fu MK1 mk1 r r2 R1 E1 (fun l _ j hj _ => hj) l2 (by unfold fu; omega)
  obtain ⟨g, g0, g1, g2, g3⟩ := learn82 (n := n) (C := C) (rc := rc) (kn := kn) (k := k) (LI := LI) (FR := FR) (TO := TO) (RC := RC) (KT := KT) (KP := KP) (KS := KS) (AS := AS) (hc := hc) (IC := IC) (len := len) (RO := RO) (VA := VA) (LV := LV) (CA := CA) (PL := PL) (pr := pr) (st := st) (lf := lf) (us := us) (MK := MK2) h s2 s3 pb hU (2 * n) 0 fu 0 (by omega) (by unfold fu; omega) (by omega) (fun l hl => absurd hl (by omega)) (Or.inl rfl)
  rw [if_neg (show ¬ b < 0 by omega)] at g3
  have hq := mcm_le mk (2 * n)
  have b2 := (s3 b pb.1).1
  have key : m_Mod_learns (modT n C rc kn k LI FR TO RC KT KP KS AS hc IC len RO VA LV CA PL pr st lf us MK) (nI c) = ((m_Mod_room (modT n C rc kn k LI FR TO RC KT KP KS AS hc IC len RO VA LV CA PL pr st lf us MK2) 1 (nI (mcm mk (2 * n)))).bind fun r29 => if r29 = 0 then some ((modT n C rc kn k LI FR TO RC KT KP KS AS hc IC len RO VA LV CA PL pr 3 lf us MK2), 0) else (m_Mod_step (modT n C rc kn k LI FR TO RC KT KP KS AS hc IC len RO VA LV CA PL pr st lf us MK2)).bind fun r31 => if r31.2 = 0 then some (r31.1, 0) else (m_Mod_begin r31.1 0).bind fun r33 => m_Mod_learns_L192 fu r33 (nI b) (nI g) 0) := by
    have e0 : m_Mod_learns (modT n C rc kn k LI FR TO RC KT KP KS AS hc IC len RO VA LV CA PL pr st lf us MK) (nI c) = m_Mod_learns_L2 fu (modT n C rc kn k LI FR TO RC KT KP KS AS hc IC len RO VA LV CA PL pr st lf us MK) (nI c) (nI 0) := rfl
    rw [e0, d1, r1, bind_s, l1, bind_s, s1]
    exact g3
  rcases mroom_ok (n := n) (C := C) (rc := rc) (kn := kn) (k := k) (LI := LI) (FR := FR) (TO := TO) (RC := RC) (KT := KT) (KP := KP) (KS := KS) (AS := AS) (hc := hc) (IC := IC) (len := len) (RO := RO) (VA := VA) (LV := LV) (CA := CA) (PL := PL) (pr := pr) (st := st) (lf := lf) (us := us) (MK := MK2) hS (a := 1) (b := mcm mk (2 * n)) (by omega) (by omega) with ⟨q1, q2, q3⟩ | ⟨q1, -⟩
  · rcases mstep_ok (n := n) (C := C) (rc := rc) (kn := kn) (k := k) (LI := LI) (FR := FR) (TO := TO) (RC := RC) (KT := KT) (KP := KP) (KS := KS) (AS := AS) (hc := hc) (IC := IC) (len := len) (RO := RO) (VA := VA) (LV := LV) (CA := CA) (PL := PL) (pr := pr) (st := st) (lf := lf) (us := us) (MK := MK2) with ⟨-, w⟩ | ⟨-, w⟩
    · obtain ⟨b1, b3⟩ := mbegin_ok (n := n) (C := C) (rc := rc) (kn := kn) (k := k) (LI := LI) (FR := FR) (TO := TO) (RC := RC) (KT := KT) (KP := KP) (KS := KS) (AS := AS) (hc := hc) (IC := IC) (len := len) (RO := RO) (VA := VA) (LV := LV) (CA := CA) (PL := PL) (pr := pr) (st := st) (lf := lf - 1) (us := us + 1) (MK := MK2) hS q2 0
      obtain ⟨LI', FR', lit', start', p1, p2, p3, p4, p5, p6⟩ := rowput_L (n := n) (C := C + 1) (rc := rc) (kn := kn) (k := k) (TO := upd TO C (0 &&& 1)) (RC := RC) (KT := KT) (KP := KP) (KS := KS) (AS := AS) (hc := hc) (IC := IC) (len := len) (RO := RO) (VA := VA) (LV := LV) (CA := CA) (PL := PL) (pr := pr) (st := st) (lf := lf - 1) (us := us + 1) (MK := MK2) s2 (N0 := N) q3 lit (va_up start (C + 1) N) (nI b) (nI g) (2 * n) 0 fu LI (upd FR (C + 1) (nI N)) lit (va_up start (C + 1) N) (by omega) (by unfold fu; omega) b3 (fun s _ => rfl) (fun c _ => rfl) (fun s a1 a2 => absurd a2 (by show ¬ s < N + 0; omega)) (fun l hl => absurd hl (by omega))
      obtain ⟨len', VA', c1, c2, c3, c4, c5⟩ := mcut_L (n := n) (C := C + 1) (rc := rc + 1) (kn := kn) (k := k) (LI := LI') (FR := FR') (TO := upd TO C (0 &&& 1)) (RC := upd RC rc (nI (C + 1 - 1))) (KT := KT) (KP := KP) (KS := KS) (AS := AS) (hc := hc) (IC := IC) (RO := RO) (LV := LV) (CA := CA) (PL := PL) (pr := pr) (st := st) (lf := lf - 1) (us := us + 1) (MK := MK2) (g := g) (by omega) len fu VA (by unfold fu; omega) (mt_c h)
      obtain ⟨i1, i2, i3⟩ := row_inv hS h hC h3 s3 pb hU hp g1 g2 p1 p2 (fun c hc => (p3 c hc).trans (up_n _ _ (by omega))) p4 (fun l q => p5 l (s3 l q).1 q) c2 c3 c4 c5
      obtain ⟨k1, k2, k3⟩ := mcomes_ok (n := n) (C := C + 1) (rc := rc + 1) (kn := kn) (k := k) (LI := LI') (FR := FR') (TO := upd TO C (0 &&& 1)) (RC := upd RC rc (nI (C + 1 - 1))) (KT := KT) (KP := KP) (KS := KS) (AS := AS) (hc := hc) (IC := IC) (len := len') (RO := RO) (VA := VA') (LV := LV) (CA := CA) (PL := PL) (pr := g) (st := st) (lf := lf - 1) (us := us + 1) (MK := MK2) c2 b2 (a := g) i1 c4 i2 (nI C)
      refine Or.inr ⟨LI', FR', upd TO C (0 &&& 1), upd RC rc (nI (C + 1 - 1)), len' + 1, _, _, _, _, _, g, MK2, _, lit', start', _, _, ?_, p1, i3 k3, by have := hw.1; omega, fun j hj => ?_⟩
      · rw [key, show m_Mod_room (modT n C rc kn k LI FR TO RC KT KP KS AS hc IC len RO VA LV CA PL pr st lf us MK2) 1 (nI (mcm mk (2 * n))) = some 1 from q1, bind_s, if_neg (by decide), w, bind_s, if_neg (by exact (show ¬ (1 : Int32) = 0 by decide)), b1, bind_s, show m_Mod_learns_L192 fu (modT n (C + 1) rc kn k LI (upd FR (C + 1) (nI N)) (upd TO C (0 &&& 1)) RC KT KP KS AS hc IC len RO VA LV CA PL pr st (lf - 1) (us + 1) MK2) (nI b) (nI g) 0 = _ from p6, row_end z2 (by have := hw.1; omega) (by omega), show m_Mod_cut (modT n (C + 1) (rc + 1) kn k LI' FR' (upd TO C (0 &&& 1)) (upd RC rc (nI (C + 1 - 1))) KT KP KS AS hc IC len RO VA LV CA PL pr st (lf - 1) (us + 1) MK2) (nI g) = _ from c1, bind_s]
        show ((m_Mod_comes (modT n (C + 1) (rc + 1) kn k LI' FR' (upd TO C (0 &&& 1)) (upd RC rc (nI (C + 1 - 1))) KT KP KS AS hc IC len' RO VA' LV CA PL g st (lf - 1) (us + 1) MK2) (nI b) (nI g) (nI (C + 1) - 1)).bind fun r24 => some (r24, 1)) = _
        rw [nI_pred, k2, bind_s]
      · by_cases e : j = rc
        · exact ⟨C, by omega, by rw [e, pk_us]; rfl⟩
        · rw [pk_un e]
          obtain ⟨c', e1, e2⟩ := hw.2 j (by omega)
          exact ⟨c', by omega, e2⟩
    · refine Or.inl ⟨MK2, ?_⟩
      rw [key, show m_Mod_room (modT n C rc kn k LI FR TO RC KT KP KS AS hc IC len RO VA LV CA PL pr st lf us MK2) 1 (nI (mcm mk (2 * n))) = some 1 from q1, bind_s, if_neg (by decide), w, bind_s, if_pos rfl]
  · refine Or.inl ⟨MK2, ?_⟩
    rw [key, show m_Mod_room (modT n C rc kn k LI FR TO RC KT KP KS AS hc IC len RO VA LV CA PL pr st lf us MK2) 1 (nI (mcm mk (2 * n))) = some 0 from q1, bind_s, if_pos rfl]
end
