/-! PURE, 2: the sets of clauses (dead, unit) as bits in words of 64 -/
def bitOf (w : Nat → Int64) (c : Nat) : Bool := (w (c / 64)).toBitVec.getLsbD (c % 64)
def bt1 (c : Nat) : Int64 := (1 : Int64) <<< ((nI (c % 64)).toInt64 &&& 63)
theorem bt1_all : ∀ k : Fin 64, ((1 : Int64) <<< ((nI k.val).toInt64 &&& 63)).toBitVec = BitVec.twoPow 64 k.val := by decide +kernel
theorem bt1_bv (c : Nat) : (bt1 c).toBitVec = BitVec.twoPow 64 (c % 64) := bt1_all ⟨c % 64, Nat.mod_lt c (by omega)⟩
theorem bt1_get (c i : Nat) : (bt1 c).toBitVec.getLsbD i = decide (c % 64 = i) := by
  rw [bt1_bv, BitVec.getLsbD_twoPow]
  have : c % 64 < 64 := Nat.mod_lt c (by omega)
  simp [this]
theorem div_mod_eq {j c : Nat} (h1 : j / 64 = c / 64) (h2 : c % 64 = j % 64) : j = c := by omega
theorem bit_set (w : Nat → Int64) (c j : Nat) : bitOf (vp_updL w (c / 64) (w (c / 64) ||| bt1 c)) j = if j = c then true else bitOf w j := by
  unfold bitOf vp_updL
  by_cases e : j = c
  · subst e
    rw [if_pos rfl, if_pos rfl, Int64.toBitVec_or, BitVec.getLsbD_or, bt1_get]
    simp
  · rw [if_neg e]
    by_cases h : j / 64 = c / 64
    · rw [if_pos h, Int64.toBitVec_or, BitVec.getLsbD_or, bt1_get, h]
      have : ¬ c % 64 = j % 64 := fun q => e (div_mod_eq h q)
      simp [this]
    · rw [if_neg h]
theorem bit_clr (w : Nat → Int64) (c j : Nat) : bitOf (vp_updL w (c / 64) (w (c / 64) &&& (bt1 c ^^^ (-1 : Int64)))) j = if j = c then false else bitOf w j := by
  have hm : (-1 : Int64).toBitVec = BitVec.allOnes 64 := by decide
  have hj : j % 64 < 64 := Nat.mod_lt j (by omega)
  unfold bitOf vp_updL
  by_cases e : j = c
  · subst e
    rw [if_pos rfl, if_pos rfl, Int64.toBitVec_and, Int64.toBitVec_xor, BitVec.getLsbD_and, BitVec.getLsbD_xor, bt1_get, hm, BitVec.getLsbD_allOnes]
    simp [hj]
  · rw [if_neg e]
    by_cases h : j / 64 = c / 64
    · rw [if_pos h, Int64.toBitVec_and, Int64.toBitVec_xor, BitVec.getLsbD_and, BitVec.getLsbD_xor, bt1_get, hm, BitVec.getLsbD_allOnes, h]
      have : ¬ c % 64 = j % 64 := fun q => e (div_mod_eq h q)
      simp [this, hj]
    · rw [if_neg h]
/-- judge: the clause's two bits as its counts say; nothing else changes -/
theorem judge_ok {c : Nat} (hc : c < 1500) (wd wu : Nat → Int64) (mb nf : Arr) (h3 : c < mb.1) (h4 : c < nf.1) : ∃ wd' wu', m_Tal_judge ((24, wd), (24, wu), mb, nf) (nI c) = some ((24, wd'), (24, wu'), mb, nf) ∧ (∀ j, bitOf wd' j = if j = c then decide (mb.2 c ≤ 0 ∧ nf.2 c = 0) else bitOf wd j) ∧ ∀ j, bitOf wu' j = if j = c then decide (mb.2 c ≤ 0 ∧ nf.2 c = 1) else bitOf wu j := by
  have cl : (nI c).toNatClampNeg = c := nI_clamp (by omega)
  have n0 : ¬ nI c < 0 := nI_pos (by omega)
  have g3 : ¬ (nI c < 0 ∨ mb.1 ≤ c) := fun q => q.elim n0 (by omega)
  have g4 : ¬ (nI c < 0 ∨ nf.1 ≤ c) := fun q => q.elim n0 (by omega)
  have sh : nI c >>> ((6 : Int32) &&& 31) = nI (c / 64) := pk_shrN (n := c) (by omega) _ 6 (by decide)
  have an : nI c &&& (63 : Int32) = nI (c % 64) := pk_andN (n := c) (by omega) 6 (by decide)
  have cw : (nI (c / 64)).toNatClampNeg = c / 64 := nI_clamp (by omega)
  have gw : ¬ (nI (c / 64) < 0 ∨ 24 ≤ c / 64) := fun q => q.elim (nI_pos (by omega)) (by omega)
  have bt : (1 : Int64) <<< ((nI (c % 64)).toInt64 &&& 63) = bt1 c := rfl
  refine ⟨vp_updL wd (c / 64) (if mb.2 c ≤ 0 ∧ nf.2 c = 0 then wd (c / 64) ||| bt1 c else wd (c / 64) &&& (bt1 c ^^^ (-1 : Int64))), vp_updL wu (c / 64) (if mb.2 c ≤ 0 ∧ nf.2 c = 1 then wu (c / 64) ||| bt1 c else wu (c / 64) &&& (bt1 c ^^^ (-1 : Int64))), ?_, fun j => ?_, fun j => ?_⟩
  · unfold m_Tal_judge m_Tal_judge_B14 m_Tal_judge_B58 m_Tal_judge_B71 m_Tal_judge_B103 m_Tal_judge_B116
    have z1 : ¬ (1 : Int32) = 0 := by decide
    have z2 : ¬ (0 : Int32) = 1 := by decide
    by_cases a1 : mb.2 c ≤ 0
    · by_cases a2 : nf.2 c = 0
      · have a3 : ¬ (nf.2 c = 1) := by rw [a2]; decide
        simp only [sh, an, bt, cl, cw, g3, g4, gw, a1, a2, a3, z2, if_true, if_false, not_false_eq_true, true_and, and_true, and_false, and_self]
      · by_cases a3 : nf.2 c = 1
        · simp only [sh, an, bt, cl, cw, g3, g4, gw, a1, a2, a3, z1, if_true, if_false, not_false_eq_true, true_and, and_true, and_false, and_self]
        · simp only [sh, an, bt, cl, cw, g3, g4, gw, a1, a2, a3, if_true, if_false, not_false_eq_true, true_and, and_true, and_false, and_self]
    · simp only [sh, an, bt, cl, cw, g3, g4, gw, a1, z1, if_true, if_false, not_false_eq_true, false_and, and_false]
  · by_cases a : mb.2 c ≤ 0 ∧ nf.2 c = 0
    · rw [if_pos a, bit_set]
      simp [a]
    · rw [if_neg a, bit_clr]
      simp [a]
  · by_cases a : mb.2 c ≤ 0 ∧ nf.2 c = 1
    · rw [if_pos a, bit_set]
      simp [a]
    · rw [if_neg a, bit_clr]
      simp [a]
/-- the lowest bit of a word: its place, by x &&& -x and the count of the bits below it -/
theorem lb_all : ∀ k : Fin 64, m_Lng_bitCount (lN (2 ^ k.val) - (1 : Int64)) = some (nI k.val) := by decide +kernel
theorem pw_all : ∀ k : Fin 64, (lN (2 ^ k.val)).toBitVec = BitVec.twoPow 64 k.val := by decide +kernel
theorem ex_bit {x : Int64} (h : ¬ x = 0) : ∃ k, x.toBitVec.getLsbD k = true := by
  rcases Classical.em (∃ k, x.toBitVec.getLsbD k = true) with q | q
  · exact q
  · refine absurd (Int64.toBitVec_inj.mp ?_) h
    apply BitVec.eq_of_getLsbD_eq
    intro i hi
    have h1 : x.toBitVec.getLsbD i = false := by
      cases hb : x.toBitVec.getLsbD i with
      | false => rfl
      | true => exact absurd ⟨i, hb⟩ q
    rw [h1]
    simp
theorem low_bit {x : Int64} (h : ¬ x = 0) : ∃ k, k < 64 ∧ x.toBitVec.getLsbD k = true ∧ (∀ i, i < k → x.toBitVec.getLsbD i = false) ∧ x &&& (-x) = lN (2 ^ k) := by
  obtain ⟨k, h1, h2⟩ := pk_least (fun k => x.toBitVec.getLsbD k = true) (ex_bit h)
  have hk : k < 64 := by
    rcases Nat.lt_or_ge k 64 with q | q
    · exact q
    · rw [BitVec.getLsbD_of_ge _ _ q] at h1
      cases h1
  have h3 : ∀ i, i < k → x.toBitVec.getLsbD i = false := fun i hi => by
    cases hb : x.toBitVec.getLsbD i with
    | false => rfl
    | true => exact absurd hb (h2 i hi)
  refine ⟨k, hk, h1, h3, Int64.toBitVec_inj.mp ?_⟩
  rw [pw_all ⟨k, hk⟩, Int64.toBitVec_and, Int64.toBitVec_neg]
  apply BitVec.eq_of_getLsbD_eq
  intro i hi
  rw [BitVec.getLsbD_and, BitVec.getLsbD_neg, BitVec.getLsbD_twoPow]
  rcases Nat.lt_trichotomy i k with q | q | q
  · rw [h3 i q]
    have : ¬ k = i := by omega
    simp [this]
  · subst q
    have : ¬ ∃ j, j < i ∧ x.toBitVec.getLsbD j = true := fun ⟨j, hj, hb⟩ => by rw [h3 j hj] at hb; cases hb
    simp [h1, this, hk]
  · have e1 : ∃ j, j < i ∧ x.toBitVec.getLsbD j = true := ⟨k, q, h1⟩
    have e2 : ¬ k = i := by omega
    cases hb : x.toBitVec.getLsbD i with
    | false => simp [e2]
    | true => simp [e1, e2, hi]
theorem bitOf_at (w : Nat → Int64) {i k : Nat} (hk : k < 64) : bitOf w (64 * i + k) = (w i).toBitVec.getLsbD k := by
  unfold bitOf
  have e1 : (64 * i + k) / 64 = i := by omega
  have e2 : (64 * i + k) % 64 = k := by omega
  rw [e1, e2]
theorem lg_eq0 (x : Int64) : lg_cmp x 0 = 0 ↔ x = 0 := by
  unfold lg_cmp
  by_cases h1 : x > 0
  · rw [if_pos h1]
    constructor
    · intro q; exact absurd q (by decide)
    · intro q; subst q; exact absurd h1 (by decide)
  · rw [if_neg h1]
    by_cases h2 : x = 0
    · rw [if_pos h2]; exact ⟨fun _ => h2, fun _ => rfl⟩
    · rw [if_neg h2]
      constructor
      · intro q; exact absurd q (by decide)
      · intro q; exact absurd q h2
def leastIs (w : Nat → Int64) (r : Int32) : Prop := (∃ c, c < 1536 ∧ bitOf w c = true ∧ (∀ j, j < c → bitOf w j = false) ∧ r = nI c) ∨ ((∀ j, j < 1536 → bitOf w j = false) ∧ r = -1)
theorem least_L (w : Nat → Int64) : ∀ (f i : Nat), i ≤ 24 → 24 - i < f → (∀ j, j < 64 * i → bitOf w j = false) → ∃ r, m_Tal_least_L2 (24, w) f (nI i) = some r ∧ leastIs w r := by
  intro f
  induction f with
  | zero => intro i _ h; exact absurd h (by omega)
  | succ f ih =>
    intro i hi hf hz
    rw [m_Tal_least_L2]
    by_cases e : i = 24
    · subst e
      have h0 : (Int32.ofNat 24) ≤ nI 24 := nI_le (a := 24) (Nat.le_refl 24) (by omega)
      rw [if_pos h0]
      exact ⟨-1, rfl, Or.inr ⟨fun j hj => hz j (by omega), rfl⟩⟩
    · have hlt : i < 24 := by omega
      have h0 : ¬ (Int32.ofNat 24) ≤ nI i := nI_ge hlt (by omega)
      have h1 : ¬ (nI i < 0 ∨ 24 ≤ (nI i).toNatClampNeg) := nI_in hlt (by omega)
      have hcl : (nI i).toNatClampNeg = i := nI_clamp (by omega)
      rw [if_neg h0, if_pos h1]
      show ∃ r, (if lg_cmp (w (nI i).toNatClampNeg) 0 = 0 then _ else _) = some r ∧ _
      by_cases hw : w i = 0
      · rw [if_pos (by rw [hcl]; exact (lg_eq0 _).mpr hw), nI_1]
        refine ih (i + 1) (by omega) (by omega) (fun j hj => ?_)
        by_cases hj2 : j < 64 * i
        · exact hz j hj2
        · have e3 : j = 64 * i + (j - 64 * i) := by omega
          rw [e3, bitOf_at w (by omega), hw]
          simp
      · rw [if_neg (by rw [hcl]; exact fun q => hw ((lg_eq0 _).mp q)), if_pos h1, if_pos h1, hcl]
        obtain ⟨k, hk, b1, b2, b3⟩ := low_bit hw
        show ∃ r, ((m_Lng_bitCount ((w i &&& -w i) - 1)).bind fun r6 => some (64 * nI i + r6)) = some r ∧ _
        rw [b3, lb_all ⟨k, hk⟩, bind_s]
        have e4 : (64 : Int32) * nI i + nI k = nI (64 * i + k) := by
          rw [show (64 : Int32) = nI 64 from rfl, pk_mul, nI_add]
        refine ⟨_, rfl, Or.inl ⟨64 * i + k, by omega, ?_, fun j hj => ?_, e4⟩⟩
        · rw [bitOf_at w hk]; exact b1
        · by_cases hj2 : j < 64 * i
          · exact hz j hj2
          · have e3 : j = 64 * i + (j - 64 * i) := by omega
            rw [e3, bitOf_at w (by omega)]
            exact b2 _ (by omega)
theorem least_ok (w : Nat → Int64) : ∃ r, m_Tal_least (24, w) = some r ∧ leastIs w r := least_L w fu 0 (by omega) (by unfold fu; omega) (fun j hj => absurd hj (by omega))
