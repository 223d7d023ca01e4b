/-! PURE, 1: fresh objects. nI n = Int32.ofNat n -/
theorem addc_some {α : Type} (c k c2 k2 : Nat) (o : α) : addc c k (some (o, c2, k2)) = some (o, c + c2, k + k2) := rfl
theorem bind_s {α β : Type} (a : α) (f : α → Option β) : (some a).bind f = f a := rfl
theorem nI_ok {k n : Nat} (h : k < n) (hn : n < 2 ^ 31) : ¬ (nI k < 0 ∨ n ≤ (nI k).toNatClampNeg) := nI_in h hn
theorem fill_L (v : Int32) {n : Nat} (hn : n < 2 ^ 31) : ∀ (f k : Nat) (a : Nat → Int32), k ≤ n → n - k < f → ∃ g, m_Arr__fill_L5 f (n, a) v (nI k) (nI n) = some (n, g) ∧ ∀ j, j < n → g j = if k ≤ j then v else a j := by
  intro f
  induction f with
  | zero => intro k a _ h; exact absurd h (by omega)
  | succ f ih =>
    intro k a hk hf
    rw [m_Arr__fill_L5]
    by_cases e : k = n
    · subst e
      rw [if_pos (nI_le (Nat.le_refl k) hn)]
      exact ⟨a, rfl, fun j hj => by rw [if_neg (by omega)]⟩
    · have hlt : k < n := by omega
      rw [if_neg (nI_ge hlt hn), if_pos (nI_ok hlt hn), nI_clamp (by omega), nI_1]
      obtain ⟨g, h1, h2⟩ := ih (k + 1) (upd a k v) (by omega) (by omega)
      refine ⟨g, h1, fun j hj => ?_⟩
      rw [h2 j hj]
      by_cases c1 : k + 1 ≤ j
      · rw [if_pos c1, if_pos (by omega)]
      · rw [if_neg c1]
        by_cases c2 : j = k
        · subst c2
          rw [if_pos (Nat.le_refl j)]
          exact pk_us
        · rw [if_neg (by omega)]
          exact pk_un c2
theorem fill_ok (v : Int32) {n : Nat} (hn : n ≤ 20000) (a : Nat → Int32) : ∃ g, m_Arr__fill (n, a) v = some (n, g) ∧ ∀ j, j < n → g j = v := by
  obtain ⟨g, h1, h2⟩ := fill_L v (n := n) (by omega) fu 0 a (Nat.zero_le n) (by unfold fu; omega)
  refine ⟨g, h1, fun j hj => ?_⟩
  rw [h2 j hj, if_pos (Nat.zero_le j)]
/-- the arrays of a fresh Store of n things -/
theorem sto_init_ok {n : Nat} (h0 : 1 ≤ n) (hn : n ≤ 300) : ∃ g, m_Sto_init (nI n) = some ((0, 0, (32, fun _ => 0), (32, fun _ => 0), (32, fun _ => 0), (2 * n, g), (16, fun _ => 0)), 5, 112 + 2 * n) ∧ ∀ j, j < 2 * n → g j = -1 := by
  have e2 : (2 : Int32) * nI n = nI (2 * n) := pk_mul 2 n
  have c2 : (nI (2 * n)).toNatClampNeg = 2 * n := nI_clamp (by omega)
  have p2 : ¬ nI (2 * n) < 0 ∧ (nI (2 * n)).toNatClampNeg * 4 ≤ 536870912 := ⟨nI_pos (by omega), by rw [c2]; omega⟩
  obtain ⟨g, h1, h2⟩ := fill_ok (-1) (n := 2 * n) (by omega) (fun _ => 0)
  refine ⟨g, ?_, h2⟩
  unfold m_Sto_init
  rw [e2, if_pos (by decide), if_pos (by decide), if_pos (by decide), if_pos p2, c2, h1, bind_s, if_pos (by decide)]
  simp only [addc_some]
  have a1 : ((32 : Int32)).toNatClampNeg = 32 := by decide
  have a2 : ((16 : Int32)).toNatClampNeg = 16 := by decide
  rw [a1, a2]
  have e3 : 32 + (32 + (32 + (2 * n + (16 + 0)))) = 112 + 2 * n := by omega
  rw [e3]
theorem pla_init_ok {n : Nat} (h0 : 1 ≤ n) (hn : n ≤ 300) : ∃ g h, m_Pla_init (nI n) = some (((n, g), (n, h)), 2, 2 * n) ∧ (∀ j, j < n → g j = -1) ∧ ∀ j, j < n → h j = -1 := by
  have c2 : (nI n).toNatClampNeg = n := nI_clamp (by omega)
  have p2 : ¬ nI n < 0 ∧ (nI n).toNatClampNeg * 4 ≤ 536870912 := ⟨nI_pos (by omega), by rw [c2]; omega⟩
  obtain ⟨g, h1, h2⟩ := fill_ok (-1) (n := n) (by omega) (fun _ => 0)
  refine ⟨g, g, ?_, h2, h2⟩
  unfold m_Pla_init
  rw [if_pos p2, if_pos p2, c2, h1, bind_s, bind_s]
  simp only [addc_some]
  have e3 : n + (n + 0) = 2 * n := by omega
  rw [e3]
theorem ass_init_ok : m_Ass_init = some ((0, (40, fun _ => 0)), 1, 40) := by
  unfold m_Ass_init
  rw [if_pos (by decide)]
  rfl
theorem tal_init_ok : m_Tal_init = some (((24, fun _ => 0), (24, fun _ => 0), (16, fun _ => 0), (16, fun _ => 0)), 4, 80) := by
  unfold m_Tal_init
  rw [if_pos (by decide), if_pos (by decide), if_pos (by decide), if_pos (by decide)]
  rfl
theorem tra_init_ok {n : Nat} (h0 : 1 ≤ n) (hn : n ≤ 300) : ∃ g, m_Tra_init (nI n) = some ((0, 0, (n, fun _ => 0), (n, g), (n, fun _ => 0), (n, fun _ => 0)), 4, 4 * n) ∧ ∀ j, j < n → g j = -1 := by
  have c2 : (nI n).toNatClampNeg = n := nI_clamp (by omega)
  have p2 : ¬ nI n < 0 ∧ (nI n).toNatClampNeg * 4 ≤ 536870912 := ⟨nI_pos (by omega), by rw [c2]; omega⟩
  obtain ⟨g, h1, h2⟩ := fill_ok (-1) (n := n) (by omega) (fun _ => 0)
  refine ⟨g, ?_, h2⟩
  unfold m_Tra_init
  rw [if_pos p2, if_pos p2, if_pos p2, if_pos p2, c2, h1, bind_s]
  simp only [addc_some]
  have e3 : n + (n + (n + (n + 0))) = 4 * n := by omega
  rw [e3]
theorem sea_init_ok {n : Nat} (h0 : 1 ≤ n) (hn : n ≤ 300) : m_Sea_init (nI n) = some ((0, 0, nI n, (n, fun _ => 0), (40, fun _ => 0), 0, (16, fun _ => 0), 0), 3, 56 + n) := by
  have c2 : (nI n).toNatClampNeg = n := nI_clamp (by omega)
  have p2 : ¬ nI n < 0 ∧ (nI n).toNatClampNeg * 4 ≤ 536870912 := ⟨nI_pos (by omega), by rw [c2]; omega⟩
  unfold m_Sea_init
  rw [if_pos p2, if_pos (by decide), if_pos (by decide), c2]
  simp only [addc_some]
  have a1 : ((40 : Int32)).toNatClampNeg = 40 := by decide
  have a2 : ((16 : Int32)).toNatClampNeg = 16 := by decide
  rw [a1, a2]
  have e3 : n + (40 + (16 + 0)) = 56 + n := by omega
  rw [e3]
/-- how many things an object of 'things' has -/
def held (x : Int32) : Nat := if x < 1 then 1 else if (300 : Int32) < x then 300 else x.toNatClampNeg
theorem held_le (x : Int32) : 1 ≤ held x ∧ held x ≤ 300 := by
  unfold held
  by_cases h1 : x < 1
  · rw [if_pos h1]; omega
  · rw [if_neg h1]
    by_cases h2 : (300 : Int32) < x
    · rw [if_pos h2]; omega
    · rw [if_neg h2]
      have h0 : ¬ x < 0 := fun q => h1 (Int32.lt_trans q (by decide))
      obtain ⟨j, hj, rfl⟩ := nI_of h0
      have e1 : ¬ nI j < nI 1 := h1
      have e2 : ¬ nI 300 < nI j := h2
      rw [nI_ltI hj (by omega)] at e1
      rw [nI_ltI (by omega) hj] at e2
      rw [nI_clamp hj]
      omega
theorem held_eq (x : Int32) : (if (1 : Int32) < (if x < (300 : Int32) then x else (300 : Int32)) then (if x < (300 : Int32) then x else (300 : Int32)) else (1 : Int32)) = nI (held x) := by
  unfold held
  by_cases h0 : x < 0
  · have h1 : x < 1 := Int32.lt_trans h0 (by decide)
    have h3 : x < 300 := Int32.lt_trans h0 (by decide)
    have hn1 : ¬ (1 : Int32) < x := fun q => Int32.lt_irrefl (Int32.lt_trans q h1)
    rw [if_pos h1, if_pos h3, if_neg hn1]
    rfl
  · obtain ⟨j, hj, rfl⟩ := nI_of h0
    have e1 : (nI j < (1 : Int32)) ↔ j < 1 := nI_ltI (b := 1) hj (by omega)
    have e2 : ((300 : Int32) < nI j) ↔ 300 < j := nI_ltI (a := 300) (by omega) hj
    have e3 : (nI j < (300 : Int32)) ↔ j < 300 := nI_ltI (b := 300) hj (by omega)
    have e4 : ((1 : Int32) < nI j) ↔ 1 < j := nI_ltI (a := 1) (by omega) hj
    by_cases c3 : j < 300
    · rw [if_pos (e3.mpr c3)]
      by_cases c1 : j < 1
      · have k3 : ¬ (1 : Int32) < nI j := fun q => by have := e4.mp q; omega
        rw [if_pos (e1.mpr c1), if_neg k3]
        rfl
      · have k1 : ¬ nI j < (1 : Int32) := fun q => c1 (e1.mp q)
        have k2 : ¬ (300 : Int32) < nI j := fun q => by have := e2.mp q; omega
        rw [if_neg k1, if_neg k2, nI_clamp hj]
        by_cases c2 : 1 < j
        · rw [if_pos (e4.mpr c2)]
        · have k3 : ¬ (1 : Int32) < nI j := fun q => c2 (e4.mp q)
          rw [if_neg k3]
          have : j = 1 := by omega
          subst this
          rfl
    · have k1 : ¬ nI j < (1 : Int32) := fun q => by have := e1.mp q; omega
      have k4 : ¬ nI j < (300 : Int32) := fun q => c3 (e3.mp q)
      rw [if_neg k4, if_pos (by decide), if_neg k1]
      by_cases c2 : 300 < j
      · rw [if_pos (e2.mpr c2)]; rfl
      · have k2 : ¬ (300 : Int32) < nI j := fun q => c2 (e2.mp q)
        rw [if_neg k2, nI_clamp hj]
        have : j = 300 := by omega
        subst this
        rfl
/-- a fresh ClauseSearch -/
theorem cs_init_ok (x : Int32) : ∃ gs gp gy gt, m_CS_init x = some (((nI (held x), -1, 1), ((held x, gp), (held x, gy)), (0, (40, fun _ => 0)), (0, 0, (32, fun _ => 0), (32, fun _ => 0), (32, fun _ => 0), (2 * held x, gs), (16, fun _ => 0)), ((24, fun _ => 0), (24, fun _ => 0), (16, fun _ => 0), (16, fun _ => 0)), (0, 0, (held x, fun _ => 0), (held x, gt), (held x, fun _ => 0), (held x, fun _ => 0)), (0, 0, nI (held x), (held x, fun _ => 0), (40, fun _ => 0), 0, (16, fun _ => 0), 0)), 25, 323 + 9 * held x) ∧ (∀ j, j < 2 * held x → gs j = -1) ∧ (∀ j, j < held x → gp j = -1) ∧ (∀ j, j < held x → gy j = -1) ∧ ∀ j, j < held x → gt j = -1 := by
  obtain ⟨h0, hn⟩ := held_le x
  obtain ⟨gs, s1, s2⟩ := sto_init_ok h0 hn
  obtain ⟨gp, gy, p1, p2, p3⟩ := pla_init_ok h0 hn
  obtain ⟨gt, t1, t2⟩ := tra_init_ok h0 hn
  refine ⟨gs, gp, gy, gt, ?_, s2, p2, p3, t2⟩
  unfold m_CS_init
  rw [held_eq, s1, bind_s, p1, bind_s, ass_init_ok, bind_s, tal_init_ok, bind_s, t1, bind_s, sea_init_ok h0 hn, bind_s]
  simp only [addc_some]
  congr 3
  omega
