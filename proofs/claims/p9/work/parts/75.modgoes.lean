/-! PURE, 25: a turn of the reference -/
section
variable {n C rc kn k : Nat} {LI FR TO RC KT KP KS AS : Nat → Int32} {hc : Int32} {IC : Nat → Int32} {len : Nat} {RO VA LV CA PL : Nat → Int32} {pr : Nat} {st : Int32} {lf us : Int64} {MK : Nat → Int32} {N : Nat} {lit start tr lvl : Nat → Nat} {mk : Nat → Bool} {asl : Nat → Nat}
/-- findCore's inner loops -/
theorem core115 (hS : ModS n C N LI FR lit start) (ag : T_Mod → Int32 → Option T_Mod) (x2 : Int32) {t c : Nat} (ht : t < 300) (hc1 : c < C) (ec : CA t = nI c) : ∀ (d i f : Nat) (MK : Nat → Int32), i + d = start (c + 1) → d < f → ∃ MK', m_Mod_findCore_L115 ag f (modT n C rc kn k LI FR TO RC KT KP KS AS hc IC len RO VA LV CA PL pr st lf us MK) x2 (nI t) (nI i) = ag (modT n C rc kn k LI FR TO RC KT KP KS AS hc IC len RO VA LV CA PL pr st lf us MK') (x2 + (-1)) := by
  obtain ⟨⟨y1, y2, y3, y4⟩, y5, y6, y7, y8⟩ := id hS
  have hb := ms_le hS (c := c + 1) (by omega)
  have eF : ∀ f MK i, m_Mod_findCore_L115 ag (f + 1) (modT n C rc kn k LI FR TO RC KT KP KS AS hc IC len RO VA LV CA PL pr st lf us MK) x2 (nI t) (nI i) = (if ¬ (nI t < 0 ∨ 300 ≤ (nI t).toNatClampNeg) then (if ¬ (CA (nI t).toNatClampNeg + 1 < 0 ∨ 1502 ≤ (CA (nI t).toNatClampNeg + 1).toNatClampNeg) then (if FR (CA (nI t).toNatClampNeg + 1).toNatClampNeg ≤ nI i then ag (modT n C rc kn k LI FR TO RC KT KP KS AS hc IC len RO VA LV CA PL pr st lf us MK) (x2 + (-1)) else if ¬ (nI i < 0 ∨ 20000 ≤ (nI i).toNatClampNeg) then (if ¬ (LI (nI i).toNatClampNeg / (2 : Int32) < 0 ∨ 600 ≤ (LI (nI i).toNatClampNeg / (2 : Int32)).toNatClampNeg) then m_Mod_findCore_L115 ag f (modT n C rc kn k LI FR TO RC KT KP KS AS hc IC len RO VA LV CA PL pr st lf us (upd MK (LI (nI i).toNatClampNeg / (2 : Int32)).toNatClampNeg ((1 : Int32) &&& 1))) x2 (nI t) (nI i + 1) else none) else none) else none) else none) := fun f MK i => rfl
  have e1 : (nI t).toNatClampNeg = t := nI_clamp (by omega)
  have g0 : ¬ (nI t < 0 ∨ 300 ≤ t) := by have := nI_in (c := t) (N := 300) ht (by omega); rw [e1] at this; exact this
  have g1 : ¬ (nI (c + 1) < 0 ∨ 1502 ≤ (nI (c + 1)).toNatClampNeg) := nI_in (by omega) (by omega)
  have g2 : FR (nI (c + 1)).toNatClampNeg = nI (start (c + 1)) := by rw [nI_clamp (by omega), y5 (c + 1) (by omega)]
  intro d
  induction d with
  | zero =>
    intro i f MK e hf
    obtain ⟨f, rfl⟩ : ∃ g, f = g + 1 := ⟨f - 1, by omega⟩
    rw [eF, e1, if_pos g0, ec, nI_1, if_pos g1, g2, if_pos (nI_le (by omega) (by omega))]
    exact ⟨MK, rfl⟩
  | succ d ih =>
    intro i f MK e hf
    obtain ⟨f, rfl⟩ : ∃ g, f = g + 1 := ⟨f - 1, by omega⟩
    obtain ⟨l1, l2⟩ := y8 i (by omega)
    rw [eF, e1, if_pos g0, ec, nI_1, if_pos g1, g2, if_neg (nI_ge (by omega) (by omega)), if_pos (nI_in (by omega) (by omega)), nI_clamp (n := i) (by omega), l1, half_ok (by omega), if_pos (nI_in (by omega) (by omega)), nI_1]
    exact ih (i + 1) f _ (by omega) (by omega)
theorem core169 (hA : AssI n k AS asl) (ag : T_Mod → Int32 → Option T_Mod) (x2 x3 : Int32) : ∀ (d i f : Nat) (IC : Nat → Int32), i + d = k → d < f → ∃ IC', m_Mod_findCore_L169 ag f (modT n C rc kn k LI FR TO RC KT KP KS AS hc IC len RO VA LV CA PL pr st lf us MK) x2 x3 (nI i) = ag (modT n C rc kn k LI FR TO RC KT KP KS AS hc IC' len RO VA LV CA PL pr st lf us MK) (x2 + (-1)) := by
  obtain ⟨h1, h2, h3⟩ := hA
  have eF : ∀ f IC i, m_Mod_findCore_L169 ag (f + 1) (modT n C rc kn k LI FR TO RC KT KP KS AS hc IC len RO VA LV CA PL pr st lf us MK) x2 x3 (nI i) = (if nI k ≤ nI i then ag (modT n C rc kn k LI FR TO RC KT KP KS AS hc IC len RO VA LV CA PL pr st lf us MK) (x2 + (-1)) else if ¬ (nI i < 0 ∨ 40 ≤ (nI i).toNatClampNeg) then (if AS (nI i).toNatClampNeg / (2 : Int32) = x3 then (if ¬ (nI i < 0 ∨ 40 ≤ (nI i).toNatClampNeg) then m_Mod_findCore_L169 ag f (modT n C rc kn k LI FR TO RC KT KP KS AS hc (upd IC (nI i).toNatClampNeg ((1 : Int32) &&& 1)) len RO VA LV CA PL pr st lf us MK) x2 x3 (nI i + 1) else none) else m_Mod_findCore_L169 ag f (modT n C rc kn k LI FR TO RC KT KP KS AS hc IC len RO VA LV CA PL pr st lf us MK) x2 x3 (nI i + 1)) else none) := fun f IC i => rfl
  intro d
  induction d with
  | zero =>
    intro i f IC e hf
    obtain ⟨f, rfl⟩ : ∃ g, f = g + 1 := ⟨f - 1, by omega⟩
    rw [eF, if_pos (nI_le (by omega) (by omega))]
    exact ⟨IC, rfl⟩
  | succ d ih =>
    intro i f IC e hf
    obtain ⟨f, rfl⟩ : ∃ g, f = g + 1 := ⟨f - 1, by omega⟩
    have gi : ¬ (nI i < 0 ∨ 40 ≤ (nI i).toNatClampNeg) := nI_in (by omega) (by omega)
    rw [eF, if_neg (nI_ge (by omega) (by omega)), if_pos gi, nI_1]
    by_cases q : AS (nI i).toNatClampNeg / (2 : Int32) = x3
    · rw [if_pos q, if_pos gi]
      exact ih (i + 1) f _ (by omega) (by omega)
    · rw [if_neg q]
      exact ih (i + 1) f IC (by omega) (by omega)
theorem core73 (hS : ModS n C N LI FR lit start) (h : MTra n len pr RO VA LV PL tr lvl) (hC : Cau len C CA lit start tr lvl) (hA : AssI n k AS asl) : ∀ (m f : Nat) (IC MK : Nat → Int32), m ≤ len → m < f → ∃ IC' MK', m_Mod_findCore_L73 f (modT n C rc kn k LI FR TO RC KT KP KS AS hc IC len RO VA LV CA PL pr st lf us MK) (nI m + (-1)) = some (modT n C rc kn k LI FR TO RC KT KP KS AS 1 IC' len RO VA LV CA PL pr 2 lf us MK') := by
  obtain ⟨⟨z1, z2, z3, z4⟩, t1, t2, t3⟩ := id h
  obtain ⟨⟨y1, y2, y3, y4⟩, y5, y6, y7, y8⟩ := id hS
  have eF : ∀ f IC MK x, m_Mod_findCore_L73 (f + 1) (modT n C rc kn k LI FR TO RC KT KP KS AS hc IC len RO VA LV CA PL pr st lf us MK) x = (if x < 0 then some (modT n C rc kn k LI FR TO RC KT KP KS AS 1 IC len RO VA LV CA PL pr 2 lf us MK) else if ¬ (x < 0 ∨ 300 ≤ x.toNatClampNeg) then (if ¬ (RO x.toNatClampNeg < 0 ∨ 600 ≤ (RO x.toNatClampNeg).toNatClampNeg) then (if MK (RO x.toNatClampNeg).toNatClampNeg = 0 then (if ¬ (RO x.toNatClampNeg < 0 ∨ 600 ≤ (RO x.toNatClampNeg).toNatClampNeg) then (if MK (RO x.toNatClampNeg).toNatClampNeg = 0 then m_Mod_findCore_L73 f (modT n C rc kn k LI FR TO RC KT KP KS AS hc IC len RO VA LV CA PL pr st lf us MK) (x + (-1)) else m_Mod_findCore_L169 (m_Mod_findCore_L73 f) fu (modT n C rc kn k LI FR TO RC KT KP KS AS hc IC len RO VA LV CA PL pr st lf us MK) x (RO x.toNatClampNeg) 0) else none) else if ¬ (RO x.toNatClampNeg < 0 ∨ 300 ≤ (RO x.toNatClampNeg).toNatClampNeg) then (if CA (RO x.toNatClampNeg).toNatClampNeg < 0 then (if ¬ (RO x.toNatClampNeg < 0 ∨ 600 ≤ (RO x.toNatClampNeg).toNatClampNeg) then (if MK (RO x.toNatClampNeg).toNatClampNeg = 0 then m_Mod_findCore_L73 f (modT n C rc kn k LI FR TO RC KT KP KS AS hc IC len RO VA LV CA PL pr st lf us MK) (x + (-1)) else m_Mod_findCore_L169 (m_Mod_findCore_L73 f) fu (modT n C rc kn k LI FR TO RC KT KP KS AS hc IC len RO VA LV CA PL pr st lf us MK) x (RO x.toNatClampNeg) 0) else none) else if ¬ (RO x.toNatClampNeg < 0 ∨ 300 ≤ (RO x.toNatClampNeg).toNatClampNeg) then (if ¬ (CA (RO x.toNatClampNeg).toNatClampNeg < 0 ∨ 1502 ≤ (CA (RO x.toNatClampNeg).toNatClampNeg).toNatClampNeg) then m_Mod_findCore_L115 (m_Mod_findCore_L73 f) fu (modT n C rc kn k LI FR TO RC KT KP KS AS hc IC len RO VA LV CA PL pr st lf us MK) x (RO x.toNatClampNeg) (FR (CA (RO x.toNatClampNeg).toNatClampNeg).toNatClampNeg) else none) else none) else none) else none) else none) := fun f IC MK x => rfl
  intro m
  induction m with
  | zero =>
    intro f IC MK hm hf
    obtain ⟨f, rfl⟩ : ∃ g, f = g + 1 := ⟨f - 1, by omega⟩
    rw [eF, if_pos (by decide)]
    exact ⟨IC, MK, rfl⟩
  | succ m ih =>
    intro f IC MK hm hf
    obtain ⟨f, rfl⟩ : ∃ g, f = g + 1 := ⟨f - 1, by omega⟩
    obtain ⟨a1, a2, -, -, -, -, -⟩ := t1 m (by omega)
    have em : (nI m).toNatClampNeg = m := nI_clamp (by omega)
    have et : (nI (tr m / 2)).toNatClampNeg = tr m / 2 := nI_clamp (by omega)
    have g1 : ¬ (nI m < 0 ∨ 300 ≤ (nI m).toNatClampNeg) := nI_in (by omega) (by omega)
    have g2 : ¬ (nI (tr m / 2) < 0 ∨ 600 ≤ (nI (tr m / 2)).toNatClampNeg) := nI_in (by omega) (by omega)
    have g3 : ¬ (nI (tr m / 2) < 0 ∨ 300 ≤ (nI (tr m / 2)).toNatClampNeg) := nI_in (by omega) (by omega)
    have fin : ∀ MK IC, ∃ IC' MK', (if MK (tr m / 2) = 0 then m_Mod_findCore_L73 f (modT n C rc kn k LI FR TO RC KT KP KS AS hc IC len RO VA LV CA PL pr st lf us MK) (nI m + (-1)) else m_Mod_findCore_L169 (m_Mod_findCore_L73 f) fu (modT n C rc kn k LI FR TO RC KT KP KS AS hc IC len RO VA LV CA PL pr st lf us MK) (nI m) (nI (tr m / 2)) 0) = some (modT n C rc kn k LI FR TO RC KT KP KS AS 1 IC' len RO VA LV CA PL pr 2 lf us MK') := fun MK IC => by
      by_cases q : MK (tr m / 2) = 0
      · rw [if_pos q]
        exact ih f IC MK (by omega) (by omega)
      · rw [if_neg q]
        obtain ⟨IC1, w⟩ := core169 (n := n) (C := C) (rc := rc) (kn := kn) (k := k) (LI := LI) (FR := FR) (TO := TO) (RC := RC) (KT := KT) (KP := KP) (KS := KS) (AS := AS) (hc := hc) (len := len) (RO := RO) (VA := VA) (LV := LV) (CA := CA) (PL := PL) (pr := pr) (st := st) (lf := lf) (us := us) (MK := MK) hA (m_Mod_findCore_L73 f) (nI m) (nI (tr m / 2)) k 0 fu IC (by omega) (by have := hA.1; unfold fu; omega)
        rw [show m_Mod_findCore_L169 (m_Mod_findCore_L73 f) fu (modT n C rc kn k LI FR TO RC KT KP KS AS hc IC len RO VA LV CA PL pr st lf us MK) (nI m) (nI (tr m / 2)) 0 = _ from w]
        exact ih f IC1 MK (by omega) (by omega)
    rw [eF, pk_m1, if_neg (nI_pos (by omega)), if_pos g1, em, a2, if_pos g2, et]
    by_cases q : MK (tr m / 2) = 0
    · rw [if_pos q]
      rw [et] at g2
      rw [if_pos g2]
      exact fin MK IC
    · rw [if_neg q]
      have g4 := g3
      rw [et] at g2 g4
      rw [if_pos g4]
      rcases hC m (by omega) with ⟨w1, -⟩ | ⟨c, w1, w2, w3⟩
      · rw [w1, if_pos (by decide), if_pos g2]
        exact fin MK IC
      · rw [w2, if_neg (nI_pos (by omega)), if_pos g4, if_pos (nI_in (by omega) (by omega)), nI_clamp (n := c) (by omega), y5 c (by omega)]
        obtain ⟨MK1, w4⟩ := core115 (n := n) (C := C) (rc := rc) (kn := kn) (k := k) (LI := LI) (FR := FR) (TO := TO) (RC := RC) (KT := KT) (KP := KP) (KS := KS) (AS := AS) (hc := hc) (IC := IC) (len := len) (RO := RO) (VA := VA) (LV := LV) (CA := CA) (PL := PL) (pr := pr) (st := st) (lf := lf) (us := us) hS (m_Mod_findCore_L73 f) (nI m) (t := tr m / 2) (by omega) w1 w2 (start (c + 1) - start c) (start c) fu MK (by have := y7 c w1; omega) (by have := ms_le hS (c := c + 1) (by omega); unfold fu; omega)
        rw [w4]
        exact ih f IC MK1 (by omega) (by omega)
theorem core32 (hS : ModS n C N LI FR lit start) (h : MTra n len pr RO VA LV PL tr lvl) (hC : Cau len C CA lit start tr lvl) (hA : AssI n k AS asl) {a : Nat} (ha : a < k) : ∀ (d j f : Nat) (MK : Nat → Int32), j + d = 600 → d < f → ∃ IC' MK', m_Mod_findCore_L32 f (modT n C rc kn k LI FR TO RC KT KP KS AS hc IC len RO VA LV CA PL pr st lf us MK) (nI a) (nI j) = some (modT n C rc kn k LI FR TO RC KT KP KS AS 1 IC' len RO VA LV CA PL pr 2 lf us MK') := by
  have hn := h.1
  obtain ⟨h1, h2, h3⟩ := id hA
  have eF : ∀ f MK j, m_Mod_findCore_L32 (f + 1) (modT n C rc kn k LI FR TO RC KT KP KS AS hc IC len RO VA LV CA PL pr st lf us MK) (nI a) j = (if (600 : Int32) ≤ j then (if ¬ (nI a < 0 ∨ 40 ≤ (nI a).toNatClampNeg) then (if ¬ (AS (nI a).toNatClampNeg / (2 : Int32) < 0 ∨ 600 ≤ (AS (nI a).toNatClampNeg / (2 : Int32)).toNatClampNeg) then m_Mod_findCore_L73 fu (modT n C rc kn k LI FR TO RC KT KP KS AS hc IC len RO VA LV CA PL pr st lf us (upd MK (AS (nI a).toNatClampNeg / (2 : Int32)).toNatClampNeg ((1 : Int32) &&& 1))) (nI len - 1) else none) else none) else if ¬ (j < 0 ∨ 600 ≤ j.toNatClampNeg) then m_Mod_findCore_L32 f (modT n C rc kn k LI FR TO RC KT KP KS AS hc IC len RO VA LV CA PL pr st lf us (upd MK j.toNatClampNeg ((0 : Int32) &&& 1))) (nI a) (j + 1) else none) := fun f MK j => rfl
  intro d
  induction d with
  | zero =>
    intro j f MK e hf
    obtain ⟨f, rfl⟩ : ∃ g, f = g + 1 := ⟨f - 1, by omega⟩
    obtain ⟨q1, q2⟩ := h3 a ha
    rw [eF, if_pos (show (600 : Int32) ≤ nI j from nI_le (a := 600) (by omega) (by omega)), if_pos (nI_in (by omega) (by omega)), nI_clamp (n := a) (by omega), q1, half_ok (by omega), if_pos (nI_in (by omega) (by omega)), Int32.sub_eq_add_neg]
    exact core73 (n := n) (C := C) (rc := rc) (kn := kn) (k := k) (LI := LI) (FR := FR) (TO := TO) (RC := RC) (KT := KT) (KP := KP) (KS := KS) (AS := AS) (hc := hc) (len := len) (RO := RO) (VA := VA) (LV := LV) (CA := CA) (PL := PL) (pr := pr) (st := st) (lf := lf) (us := us) hS h hC hA len fu IC _ (Nat.le_refl len) (by unfold fu; omega)
  | succ d ih =>
    intro j f MK e hf
    obtain ⟨f, rfl⟩ : ∃ g, f = g + 1 := ⟨f - 1, by omega⟩
    rw [eF, if_neg (show ¬ (600 : Int32) ≤ nI j from nI_ge (b := 600) (by omega) (by omega)), if_pos (nI_in (by omega) (by omega)), nI_1]
    exact ih (j + 1) f _ (by omega) (by omega)
theorem mcore_ok (hS : ModS n C N LI FR lit start) (h : MTra n len pr RO VA LV PL tr lvl) (hC : Cau len C CA lit start tr lvl) (hA : AssI n k AS asl) {a : Nat} (ha : a < k) : ∃ IC' MK', m_Mod_findCore (modT n C rc kn k LI FR TO RC KT KP KS AS hc IC len RO VA LV CA PL pr st lf us MK) (nI a) = some (modT n C rc kn k LI FR TO RC KT KP KS AS 1 IC' len RO VA LV CA PL pr 2 lf us MK') := by
  have eF : ∀ f IC j, m_Mod_findCore_L2 (f + 1) (modT n C rc kn k LI FR TO RC KT KP KS AS hc IC len RO VA LV CA PL pr st lf us MK) (nI a) j = (if (40 : Int32) ≤ j then m_Mod_findCore_L32 fu (modT n C rc kn k LI FR TO RC KT KP KS AS hc IC len RO VA LV CA PL pr st lf us MK) (nI a) 0 else if j = nI a then (if ¬ (j < 0 ∨ 40 ≤ j.toNatClampNeg) then m_Mod_findCore_L2 f (modT n C rc kn k LI FR TO RC KT KP KS AS hc (upd IC j.toNatClampNeg ((1 : Int32) &&& 1)) len RO VA LV CA PL pr st lf us MK) (nI a) (j + 1) else none) else (if ¬ (j < 0 ∨ 40 ≤ j.toNatClampNeg) then m_Mod_findCore_L2 f (modT n C rc kn k LI FR TO RC KT KP KS AS hc (upd IC j.toNatClampNeg ((0 : Int32) &&& 1)) len RO VA LV CA PL pr st lf us MK) (nI a) (j + 1) else none)) := fun f IC j => rfl
  have L : ∀ (d j f : Nat) (IC : Nat → Int32), j + d = 40 → d < f → ∃ IC' MK', m_Mod_findCore_L2 f (modT n C rc kn k LI FR TO RC KT KP KS AS hc IC len RO VA LV CA PL pr st lf us MK) (nI a) (nI j) = some (modT n C rc kn k LI FR TO RC KT KP KS AS 1 IC' len RO VA LV CA PL pr 2 lf us MK') := by
    intro d
    induction d with
    | zero =>
      intro j f IC e hf
      obtain ⟨f, rfl⟩ : ∃ g, f = g + 1 := ⟨f - 1, by omega⟩
      rw [eF, if_pos (show (40 : Int32) ≤ nI j from nI_le (a := 40) (by omega) (by omega))]
      exact core32 (n := n) (C := C) (rc := rc) (kn := kn) (k := k) (LI := LI) (FR := FR) (TO := TO) (RC := RC) (KT := KT) (KP := KP) (KS := KS) (AS := AS) (hc := hc) (IC := IC) (len := len) (RO := RO) (VA := VA) (LV := LV) (CA := CA) (PL := PL) (pr := pr) (st := st) (lf := lf) (us := us) hS h hC hA ha 600 0 fu MK (by omega) (by unfold fu; omega)
    | succ d ih =>
      intro j f IC e hf
      obtain ⟨f, rfl⟩ : ∃ g, f = g + 1 := ⟨f - 1, by omega⟩
      have gi : ¬ (nI j < 0 ∨ 40 ≤ (nI j).toNatClampNeg) := nI_in (by omega) (by omega)
      rw [eF, if_neg (show ¬ (40 : Int32) ≤ nI j from nI_ge (b := 40) (by omega) (by omega)), nI_1]
      by_cases q : nI j = nI a
      · rw [if_pos q, if_pos gi]
        exact ih (j + 1) f _ (by omega) (by omega)
      · rw [if_neg q, if_pos gi]
        exact ih (j + 1) f _ (by omega) (by omega)
  exact L 40 0 fu IC (by omega) (by unfold fu; omega)
end
/-- what a turn comes to: an end (nothing changed but marks, core, STATE); a row more; a thing more on the trail -/
def GoesIs (n C rc kn k : Nat) (LI FR TO RC KT KP KS AS : Nat → Int32) (hc : Int32) (IC : Nat → Int32) (len : Nat) (RO VA LV CA PL : Nat → Int32) (pr : Nat) (st : Int32) (lf us : Int64) (MK : Nat → Int32) (lit start : Nat → Nat) (res : Option (T_Mod × Int32)) : Prop :=
  (∃ hc' IC' MK' st', res = some ((modT n C rc kn k LI FR TO RC KT KP KS AS hc' IC' len RO VA LV CA PL pr st' lf us MK'), 0)) ∨
  (∃ LI' FR' TO' RC' len' RO' VA' LV' CA' PL' pr' MK' N' lit' start' tr' lvl', res = some ((modT n (C + 1) (rc + 1) kn k LI' FR' TO' RC' KT KP KS AS hc IC len' RO' VA' LV' CA' PL' pr' st (lf - 1) (us + 1) MK'), 1) ∧ ModS n (C + 1) N' LI' FR' lit' start' ∧ SInv n (C + 1) len' pr' RO' VA' LV' CA' PL' lit' start' tr' lvl' ∧ RowI (rc + 1) (C + 1) RC') ∨
  (∃ RO' VA' LV' CA' PL' pr' lf' us' tr' lvl', res = some ((modT n C rc kn k LI FR TO RC KT KP KS AS hc IC (len + 1) RO' VA' LV' CA' PL' pr' st lf' us' MK), 1) ∧ SInv n C (len + 1) pr' RO' VA' LV' CA' PL' lit start tr' lvl')
/-- neither dead nor unit -/
def Zc (len : Nat) (tr lit start : Nat → Nat) (c : Nat) : Prop := (∃ s, start c ≤ s ∧ s < start (c + 1) ∧ On len tr (lit s)) ∨ ∃ s1 s2, start c ≤ s1 ∧ s1 < s2 ∧ s2 < start (c + 1) ∧ ¬ On len tr (opp (lit s1)) ∧ ¬ On len tr (opp (lit s2))
theorem onl_put {len a j : Nat} {tr lvl : Nat → Nat} {l : Nat} (hn : ∀ i, i < len → ¬ tr i / 2 = l / 2) (ha : j < a) (x : Nat) : OnL (len + 1) (va_up tr len l) (va_up lvl (l / 2) a) j x ↔ OnL len tr lvl j x := by
  constructor
  · rintro ⟨i, hi, ei, el⟩
    by_cases q : i = len
    · rw [q, up_s] at ei
      rw [← ei, up_s] at el
      omega
    · rw [up_n _ _ q] at ei
      have := hn i (by omega)
      rw [ei] at this
      rw [up_n _ _ this] at el
      exact ⟨i, by omega, ei, el⟩
  · rintro ⟨i, hi, ei, el⟩
    have := hn i hi
    rw [ei] at this
    exact ⟨i, by omega, by rw [up_n _ _ (by omega)]; exact ei, by rw [up_n _ _ this]; exact el⟩
/-- the invariants with one thing more -/
theorem put_inv {n C len pr a : Nat} {RO VA LV CA PL RO' VA' LV' PL' : Nat → Int32} {lit start tr lvl : Nat → Nat} {l : Nat} {x : Int32} (hI : SInv n C len pr RO VA LV CA PL lit start tr lvl) (hn : ∀ i, i < len → ¬ tr i / 2 = l / 2) (hT : MTc n (len + 1) RO' VA' LV' PL' (va_up tr len l) (va_up lvl (l / 2) a)) (ha : pr ≤ a) (ha2 : a ≤ len + 1) (hx : (x = -1 ∧ pr < a) ∨ ∃ c, c < C ∧ x = nI c ∧ ∀ s, start c ≤ s → s < start (c + 1) → lit s / 2 = l / 2 ∨ ∃ j, j < len ∧ tr j = opp (lit s)) (h3 : ∀ j, pr ≤ j → j < a → ∀ c, c < C → Zc len tr lit start c) : SInv n C (len + 1) a RO' VA' LV' (upd CA (l / 2) x) PL' lit start (va_up tr len l) (va_up lvl (l / 2) a) := by
  obtain ⟨h, hC, hJ⟩ := hI
  have lp : ∀ i, i < len → lvl (tr i / 2) ≤ pr := fun i hi => (h.2.1 i hi).2.2.2.2.2.1
  have tn : ∀ i, i < len → va_up tr len l i = tr i := fun i hi => up_n _ _ (by omega)
  have ln : ∀ i, i < len → va_up lvl (l / 2) a (tr i / 2) = lvl (tr i / 2) := fun i hi => up_n _ _ (hn i hi)
  refine ⟨mt_of hT ha2 (fun i hi => ?_), fun i hi => ?_, fun j hj c hc => ?_⟩
  · by_cases q : i = len
    · rw [q, up_s, up_s]; exact Nat.le_refl a
    · rw [tn i (by omega), ln i (by omega)]
      exact Nat.le_trans (lp i (by omega)) ha
  · by_cases q : i = len
    · rw [q, up_s, pk_us]
      rcases hx with ⟨e1, e2⟩ | ⟨c, e1, e2, e3⟩
      · refine Or.inl ⟨e1, fun j hj => ?_⟩
        rw [tn j hj, ln j hj, up_s]
        have := lp j hj
        omega
      · refine Or.inr ⟨c, e1, e2, fun s s1 s2 => ?_⟩
        rcases e3 s s1 s2 with w | ⟨j, w1, w2⟩
        · exact Or.inl w
        · exact Or.inr ⟨j, w1, by rw [tn j w1]; exact w2⟩
    · have hi' : i < len := by omega
      rw [tn i hi', pk_un (hn i hi'), ln i hi']
      rcases hC i hi' with ⟨e1, e2⟩ | ⟨c, e1, e2, e3⟩
      · refine Or.inl ⟨e1, fun j hj => ?_⟩
        rw [tn j (by omega), ln j (by omega)]
        exact e2 j hj
      · refine Or.inr ⟨c, e1, e2, fun s s1 s2 => ?_⟩
        rcases e3 s s1 s2 with w | ⟨j, w1, w2⟩
        · exact Or.inl w
        · exact Or.inr ⟨j, w1, by rw [tn j (by omega)]; exact w2⟩
  · have eo := onl_put hn (lvl := lvl) hj
    by_cases q : j < pr
    · rcases hJ j q c hc with ⟨s, q1, q2, q3⟩ | ⟨s1, s2, q1, q2, q3, q4, q5⟩
      · exact Or.inl ⟨s, q1, q2, (eo _).mpr q3⟩
      · exact Or.inr ⟨s1, s2, q1, q2, q3, fun y => q4 ((eo _).mp y), fun y => q5 ((eo _).mp y)⟩
    · have full : ∀ y, OnL len tr lvl j y ↔ On len tr y := fun y => by
        constructor
        · rintro ⟨i, hi, ei, -⟩
          exact ⟨i, hi, ei⟩
        · rintro ⟨i, hi, ei⟩
          have := lp i hi
          rw [ei] at this
          exact ⟨i, hi, ei, by omega⟩
      rcases h3 j (by omega) hj c hc with ⟨s, q1, q2, q3⟩ | ⟨s1, s2, q1, q2, q3, q4, q5⟩
      · exact Or.inl ⟨s, q1, q2, (eo _).mpr ((full _).mpr q3)⟩
      · exact Or.inr ⟨s1, s2, q1, q2, q3, fun y => q4 ((full _).mp ((eo _).mp y)), fun y => q5 ((full _).mp ((eo _).mp y))⟩
