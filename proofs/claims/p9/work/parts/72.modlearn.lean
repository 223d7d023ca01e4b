/-! PURE, 22: learns(): back along the trail to the first common cause -/
/-- the CAUSES: none, and the first of its level; or a clause whose other literals' opposites stand before -/
def Cau (len C : Nat) (CA : Nat → Int32) (lit start tr lvl : Nat → Nat) : Prop :=
  ∀ i, i < len → (CA (tr i / 2) = -1 ∧ ∀ j, j < i → lvl (tr j / 2) < lvl (tr i / 2)) ∨ ∃ c, c < C ∧ CA (tr i / 2) = nI c ∧ ∀ s, start c ≤ s → s < start (c + 1) → lit s / 2 = tr i / 2 ∨ ∃ j, j < i ∧ tr j = opp (lit s)
/-- how many are marked below j -/
def mcm (mk : Nat → Bool) : Nat → Nat
  | 0 => 0
  | j + 1 => mcm mk j + (if mk j = true then 1 else 0)
theorem mcm_le (mk : Nat → Bool) : ∀ j, mcm mk j ≤ j := by
  intro j
  induction j with
  | zero => exact Nat.le_refl 0
  | succ j ih =>
    show mcm mk j + (if mk j = true then 1 else 0) ≤ j + 1
    by_cases h : mk j = true
    · rw [if_pos h]; omega
    · rw [if_neg h]; omega
theorem mcm_mono (mk : Nat → Bool) : ∀ d j, mcm mk j ≤ mcm mk (j + d) := by
  intro d
  induction d with
  | zero => intro j; exact Nat.le_refl _
  | succ d ih =>
    intro j
    exact Nat.le_trans (ih j) (Nat.le_add_right _ _)
section
variable {n C rc kn k : Nat} {LI FR TO RC KT KP KS AS : Nat → Int32} {hc : Int32} {IC : Nat → Int32} {len : Nat} {RO VA LV CA PL : Nat → Int32} {pr : Nat} {st : Int32} {lf us : Int64} {MK : Nat → Int32} {N : Nat} {lit start tr lvl : Nat → Nat} {mk : Nat → Bool}
theorem and10 : (0 : Int32) &&& 1 = 0 := by decide
theorem opp_inj2 {a b : Nat} (h : opp a = opp b) : a = b := by
  rw [← opp_opp a, h, opp_opp]
theorem learn_L (hS : ModS n C N LI FR lit start) (h : MTra n len pr RO VA LV PL tr lvl) (hC : Cau len C CA lit start tr lvl) : ∀ (m f : Nat) (MK : Nat → Int32) (mk : Nat → Bool) (x : Int32), MkI MK mk → MkR n len tr mk → (∃ l, Pm pr lvl mk l) → (∀ l, Pm pr lvl mk l → ∀ j, j < len → tr j = opp l → j < m) → LastIs len pr tr lvl mk x → m < f → ∃ MK' mk', m_Mod_learns_L32 f (modT n C rc kn k LI FR TO RC KT KP KS AS hc IC len RO VA LV CA PL pr st lf us MK) x = m_Mod_learns_L82 fu (modT n C rc kn k LI FR TO RC KT KP KS AS hc IC len RO VA LV CA PL pr st lf us MK') 0 (-1) 0 0 ∧ MkI MK' mk' ∧ MkR n len tr mk' ∧ ∃ b, Pm pr lvl mk' b ∧ ∀ l, Pm pr lvl mk' l → l = b := by
  obtain ⟨⟨z1, z2, z3, z4⟩, t1, t2, t3⟩ := id h
  obtain ⟨⟨y1, y2, y3, y4⟩, y5, y6, y7, y8⟩ := id hS
  intro m
  induction m with
  | zero =>
    intro f MK mk x hM hR hE hB hL hf
    obtain ⟨l, q⟩ := hE
    obtain ⟨j, w, ej⟩ := (hR l q.1).2
    exact absurd (hB l q j w ej) (by omega)
  | succ m ih =>
    intro f MK mk x hM hR hE hB hL hf
    obtain ⟨f, rfl⟩ : ∃ g, f = g + 1 := ⟨f - 1, by omega⟩
    rcases hL with ⟨rfl, hU⟩ | ⟨b, i, rfl, pb, hi, ei, ⟨l', pl, nl⟩, hb⟩
    · obtain ⟨b, q⟩ := hE
      refine ⟨MK, mk, ?_, hM, hR, b, q, fun l w => hU l b w q⟩
      rw [m_Mod_learns_L32, if_pos (by decide)]
    · have b2 := (hR b pb.1).1
      have him := hB b pb i hi ei
      -- the other one of the present level stands before
      obtain ⟨p, hp, ep⟩ := hb l' pl
      have hpi : p < i := by
        by_cases q : p = i
        · rw [q, ei] at ep
          exact absurd (opp_inj2 ep).symm nl
        · omega
      have ib : tr i / 2 = b / 2 := by rw [ei, opp_half]
      have il : tr p / 2 = l' / 2 := by rw [ep, opp_half]
      -- so there is a cause
      rcases hC i hi with ⟨-, q⟩ | ⟨c, c1, c2, c3⟩
      · have w := q p hpi
        rw [ib, il, pb.2, pl.2] at w
        exact absurd w (by omega)
      · rw [ib] at c2 c3
        obtain ⟨MK1, mk1, r1, r2, r3⟩ := mix_ok (n := n) (C := C) (rc := rc) (kn := kn) (k := k) (LI := LI) (FR := FR) (TO := TO) (RC := RC) (KT := KT) (KP := KP) (KS := KS) (AS := AS) (hc := hc) (IC := IC) (len := len) (RO := RO) (VA := VA) (LV := LV) (CA := CA) (PL := PL) (pr := pr) (st := st) (lf := lf) (us := us) (MK := MK) hS c1 hM
        have ob := opp_lt b2
        have nb : ¬ b = opp b := fun q => opp_ne b q.symm
        have M2 : MkI (upd (upd MK1 b 0) (opp b) 0) (va_up (va_up mk1 b false) (opp b) false) := fun l hl => by
          by_cases q : l = opp b
          · rw [q, pk_us, up_s]; rfl
          · rw [pk_un q, up_n _ _ q]
            by_cases q2 : l = b
            · rw [q2, pk_us, up_s]; rfl
            · rw [pk_un q2, up_n _ _ q2]
              exact r2 l hl
        have k2 : ∀ l, va_up (va_up mk1 b false) (opp b) false l = true → mk1 l = true ∧ ¬ l = b ∧ ¬ l = opp b := fun l q => by
          by_cases w : l = opp b
          · rw [w, up_s] at q; cases q
          · rw [up_n _ _ w] at q
            by_cases w2 : l = b
            · rw [w2, up_s] at q; cases q
            · rw [up_n _ _ w2] at q
              exact ⟨q, w2, w⟩
        -- where the marked ones stand
        have k3 : ∀ l, va_up (va_up mk1 b false) (opp b) false l = true → (mk l = true ∧ ¬ l = b) ∨ (l < 2 * n ∧ ∃ j, j < i ∧ tr j = opp l) := fun l q => by
          obtain ⟨q1, q2, q3⟩ := k2 l q
          rcases (r3 l).mp q1 with w | ⟨s, a1, a2, a3⟩
          · exact Or.inl ⟨w, q2⟩
          · have sN : s < N := Nat.lt_of_lt_of_le a2 (ms_le hS (c := c + 1) (by omega))
            have l2 := (y8 s sN).2
            rcases c3 s a1 a2 with w | w
            · rw [a3] at w
              rcases same_thing w with e | e
              · exact absurd e q2
              · exact absurd e q3
            · rw [a3] at w l2
              exact Or.inr ⟨l2, w⟩
        have R2 : MkR n len tr (va_up (va_up mk1 b false) (opp b) false) := fun l q => by
          rcases k3 l q with ⟨w, -⟩ | ⟨w, j, a1, a2⟩
          · exact hR l w
          · exact ⟨w, j, by omega, a2⟩
        have E2 : ∃ l, Pm pr lvl (va_up (va_up mk1 b false) (opp b) false) l := by
          refine ⟨l', ?_, pl.2⟩
          have w : ¬ l' = opp b := fun q => by
            rw [q, opp_opp] at ep
            have := mt_inj h (i := p) (j := i) (by omega) hi (by rw [ep, ib])
            omega
          rw [up_n _ _ w, up_n _ _ nl]
          exact (r3 l').mpr (Or.inl pl.1)
        have B2 : ∀ l, Pm pr lvl (va_up (va_up mk1 b false) (opp b) false) l → ∀ j, j < len → tr j = opp l → j < m := fun l q j hj ej => by
          rcases k3 l q.1 with ⟨w, w2⟩ | ⟨-, j', a1, a2⟩
          · obtain ⟨j', a1, a2⟩ := hb l ⟨w, q.2⟩
            have e1 := mt_inj h (i := j) (j := j') hj (by omega) (by rw [ej, a2])
            by_cases e2 : j' = i
            · rw [e2, ei] at a2
              exact absurd (opp_inj2 a2).symm w2
            · omega
          · have e1 := mt_inj h (i := j) (j := j') hj (by omega) (by rw [ej, a2])
            omega
        obtain ⟨r, l1, l2⟩ := last_ok (n := n) (C := C) (rc := rc) (kn := kn) (k := k) (LI := LI) (FR := FR) (TO := TO) (RC := RC) (KT := KT) (KP := KP) (KS := KS) (AS := AS) (hc := hc) (IC := IC) (len := len) (RO := RO) (VA := VA) (LV := LV) (CA := CA) (PL := PL) (pr := pr) (st := st) (lf := lf) (us := us) (MK := upd (upd MK1 b 0) (opp b) 0) h M2 R2
        obtain ⟨MK', mk', s1, s2, s3, s4⟩ := ih f (upd (upd MK1 b 0) (opp b) 0) (va_up (va_up mk1 b false) (opp b) false) r M2 R2 E2 B2 l2 (by omega)
        refine ⟨MK', mk', ?_, s2, s3, s4⟩
        rw [m_Mod_learns_L32, if_neg (nI_pos (by omega)), half_ok (by omega)]
        show (if ¬ (nI (b / 2) < 0 ∨ 300 ≤ (nI (b / 2)).toNatClampNeg) then ((m_Mod_mix (modT n C rc kn k LI FR TO RC KT KP KS AS hc IC len RO VA LV CA PL pr st lf us MK) (CA (nI (b / 2)).toNatClampNeg)).bind _) else none) = _
        rw [if_pos (nI_in (by omega) (by omega)), nI_clamp (n := b / 2) (by omega), c2, r1, bind_s, nI_xor1 (by omega), if_pos (by exact nI_in (c := b) (N := 600) (by omega) (by omega)), if_pos (by exact nI_in (c := opp b) (N := 600) (by omega) (by omega)), nI_clamp (n := b) (by omega), nI_clamp (n := opp b) (by omega), and10]
        show ((m_Mod_last (modT n C rc kn k LI FR TO RC KT KP KS AS hc IC len RO VA LV CA PL pr st lf us (upd (upd MK1 b 0) (opp b) 0))).bind fun r44 => m_Mod_learns_L32 f (modT n C rc kn k LI FR TO RC KT KP KS AS hc IC len RO VA LV CA PL pr st lf us (upd (upd MK1 b 0) (opp b) 0)) r44) = _
        rw [l1, bind_s]
        exact s1
/-- the count of the marks, the one of the present level, the greatest level of the others -/
theorem learn82 (h : MTra n len pr RO VA LV PL tr lvl) (hM : MkI MK mk) (hR : MkR n len tr mk) {b : Nat} (pb : Pm pr lvl mk b) (hU : ∀ l, Pm pr lvl mk l → l = b) : ∀ (d j f g : Nat), j + d = 2 * n → d < f → g ≤ 301 → (∀ l, l < j → mk l = true → ¬ l = b → lvl (l / 2) ≤ g) → (g = 0 ∨ ∃ l, mk l = true ∧ ¬ l = b ∧ lvl (l / 2) = g) →
    ∃ g', g' ≤ 301 ∧ (∀ l, mk l = true → ¬ l = b → lvl (l / 2) ≤ g') ∧ (g' = 0 ∨ ∃ l, mk l = true ∧ ¬ l = b ∧ lvl (l / 2) = g') ∧ m_Mod_learns_L82 f (modT n C rc kn k LI FR TO RC KT KP KS AS hc IC len RO VA LV CA PL pr st lf us MK) (nI (mcm mk j)) (if b < j then nI b else -1) (nI g) (nI j) = ((m_Mod_room (modT n C rc kn k LI FR TO RC KT KP KS AS hc IC len RO VA LV CA PL pr st lf us MK) 1 (nI (mcm mk (2 * n)))).bind fun r29 => if r29 = 0 then some ((modT n C rc kn k LI FR TO RC KT KP KS AS hc IC len RO VA LV CA PL pr 3 lf us MK), 0) else (m_Mod_step (modT n C rc kn k LI FR TO RC KT KP KS AS hc IC len RO VA LV CA PL pr st lf us MK)).bind fun r31 => if r31.2 = 0 then some (r31.1, 0) else (m_Mod_begin r31.1 0).bind fun r33 => m_Mod_learns_L192 fu r33 (nI b) (nI g') 0) := by
  obtain ⟨⟨z1, z2, z3, z4⟩, t1, t2, t3⟩ := id h
  have b2 := (hR b pb.1).1
  have eF : ∀ f x2 x3 x4 j, m_Mod_learns_L82 (f + 1) (modT n C rc kn k LI FR TO RC KT KP KS AS hc IC len RO VA LV CA PL pr st lf us MK) x2 x3 x4 j = (if (2 : Int32) * nI n ≤ j then ((m_Mod_room (modT n C rc kn k LI FR TO RC KT KP KS AS hc IC len RO VA LV CA PL pr st lf us MK) 1 x2).bind fun r29 => if r29 = 0 then some ((modT n C rc kn k LI FR TO RC KT KP KS AS hc IC len RO VA LV CA PL pr 3 lf us MK), 0) else (m_Mod_step (modT n C rc kn k LI FR TO RC KT KP KS AS hc IC len RO VA LV CA PL pr st lf us MK)).bind fun r31 => if r31.2 = 0 then some (r31.1, 0) else (m_Mod_begin r31.1 0).bind fun r33 => m_Mod_learns_L192 fu r33 x3 x4 0) else if ¬ (j < 0 ∨ 600 ≤ j.toNatClampNeg) then (if MK j.toNatClampNeg = 0 then m_Mod_learns_L82 f (modT n C rc kn k LI FR TO RC KT KP KS AS hc IC len RO VA LV CA PL pr st lf us MK) x2 x3 x4 (j + 1) else if ¬ (j / (2 : Int32) < 0 ∨ 300 ≤ (j / (2 : Int32)).toNatClampNeg) then (if LV (j / (2 : Int32)).toNatClampNeg = nI pr then m_Mod_learns_L82 f (modT n C rc kn k LI FR TO RC KT KP KS AS hc IC len RO VA LV CA PL pr st lf us MK) (x2 + 1) j x4 (j + 1) else if ¬ (j / (2 : Int32) < 0 ∨ 300 ≤ (j / (2 : Int32)).toNatClampNeg) then (if LV (j / (2 : Int32)).toNatClampNeg ≤ x4 then m_Mod_learns_L82 f (modT n C rc kn k LI FR TO RC KT KP KS AS hc IC len RO VA LV CA PL pr st lf us MK) (x2 + 1) x3 x4 (j + 1) else if ¬ (j / (2 : Int32) < 0 ∨ 300 ≤ (j / (2 : Int32)).toNatClampNeg) then m_Mod_learns_L82 f (modT n C rc kn k LI FR TO RC KT KP KS AS hc IC len RO VA LV CA PL pr st lf us MK) (x2 + 1) x3 (LV (j / (2 : Int32)).toNatClampNeg) (j + 1) else none) else none) else none) else none) := fun f x2 x3 x4 j => rfl
  have e2 : (2 : Int32) * nI n = nI (2 * n) := pk_mul 2 n
  intro d
  induction d with
  | zero =>
    intro j f g e hf hg h1 h2
    obtain ⟨f, rfl⟩ : ∃ g, f = g + 1 := ⟨f - 1, by omega⟩
    have ej : j = 2 * n := by omega
    refine ⟨g, hg, fun l a => h1 l (by rw [ej]; exact (hR l a).1) a, h2, ?_⟩
    rw [eF, e2, if_pos (nI_le (by omega) (by omega)), if_pos (show b < j by omega), ej]
  | succ d ih =>
    intro j f g e hf hg h1 h2
    obtain ⟨f, rfl⟩ : ∃ g, f = g + 1 := ⟨f - 1, by omega⟩
    have hcm : mcm mk (j + 1) = mcm mk j + (if mk j = true then 1 else 0) := rfl
    rw [eF, e2, if_neg (nI_ge (by omega) (by omega)), if_pos (nI_in (by omega) (by omega)), nI_clamp (n := j) (by omega), hM j (by omega)]
    cases hj : mk j with
    | false =>
      have nb : ¬ j = b := fun q => by rw [q, pb.1] at hj; cases hj
      rw [if_neg (show ¬ mk j = true by rw [hj]; decide)] at hcm
      have ex : (if b < j then nI b else (-1 : Int32)) = (if b < j + 1 then nI b else -1) := by
        by_cases q : b < j
        · rw [if_pos q, if_pos (by omega)]
        · rw [if_neg q, if_neg (by omega)]
      rw [show bz false = 0 from rfl, if_pos rfl, nI_1, ex, show mcm mk j = mcm mk (j + 1) by omega]
      refine ih (j + 1) f g (by omega) (by omega) hg (fun l a w => ?_) h2
      by_cases q : l = j
      · rw [q, hj] at w; cases w
      · exact h1 l (by omega) w
    | true =>
      obtain ⟨l1, i, hi, l3, l4, l5, l6⟩ := mk_on h hR hj
      have gi : ¬ (nI (j / 2) < 0 ∨ 300 ≤ (nI (j / 2)).toNatClampNeg) := nI_in (by omega) (by omega)
      have gj := gi
      rw [nI_clamp (n := j / 2) (by omega)] at gj
      rw [if_pos hj] at hcm
      rw [show bz true = 1 from rfl, if_neg (by decide), half_ok (by omega), if_pos gi, nI_clamp (n := j / 2) (by omega), l4, nI_1, nI_1, ← hcm]
      by_cases c : lvl (j / 2) = pr
      · have ejb : j = b := hU j ⟨hj, c⟩
        rw [if_pos (by rw [c])]
        have ex : nI j = (if b < j + 1 then nI b else (-1 : Int32)) := by rw [if_pos (by omega), ejb]
        have := ih (j + 1) f g (by omega) (by omega) hg (fun l a w w2 => by
          by_cases q : l = j
          · exact absurd (q.trans ejb) w2
          · exact h1 l (by omega) w w2) h2
        rw [← ex] at this
        exact this
      · have nb : ¬ j = b := fun q => c (by rw [q]; exact pb.2)
        have ex : (if b < j then nI b else (-1 : Int32)) = (if b < j + 1 then nI b else -1) := by
          by_cases q : b < j
          · rw [if_pos q, if_pos (by omega)]
          · rw [if_neg q, if_neg (by omega)]
        rw [if_neg (fun y => c ((nI_eq (by omega) (by omega)).mp y)), if_pos gj, ex]
        by_cases w : lvl (j / 2) ≤ g
        · rw [if_pos (nI_le w (by omega))]
          refine ih (j + 1) f g (by omega) (by omega) hg (fun l a y y2 => ?_) h2
          by_cases q : l = j
          · rw [q]; exact w
          · exact h1 l (by omega) y y2
        · rw [if_neg (nI_ge (by omega) (by omega)), if_pos gj]
          refine ih (j + 1) f (lvl (j / 2)) (by omega) (by omega) (by omega) (fun l a y y2 => ?_) (Or.inr ⟨j, hj, nb, rfl⟩)
          by_cases q : l = j
          · rw [q]; exact Nat.le_refl _
          · have := h1 l (by omega) y y2
            omega
end
