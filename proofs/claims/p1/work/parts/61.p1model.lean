/-! PURE, 17: run() of the reference, fresh -/
/-- a fresh reference but for what a search with no clauses changes -/
def modS (n : Nat) (tr : Int32) (ro va lv ca pl : Nat → Int32) (pr st : Int32) (lf us : Int64) : T_Mod := (0, nI n, (20000, fun _ => 0), (1502, fun _ => 0), (1501, fun _ => 0), 0, 0, (1500, fun _ => 0), 0, (300, fun _ => 0), (300, fun _ => 0), (300, fun _ => 0), 0, (40, fun _ => 0), 0, (40, fun _ => 0), tr, (300, ro), (300, va), (300, lv), (300, ca), (300, pl), pr, st, lf, us, (600, fun _ => 0))
theorem mod0_S (n : Nat) : mod0 n = modS n 0 (fun _ => 0) (fun _ => 0) (fun _ => 0) (fun _ => 0) (fun _ => 0) 0 1 0 0 := rfl
theorem msc {n t : Nat} (hn : n ≤ 300) (ht : t ≤ n) (tr : Int32) (ro va lv ca pl : Nat → Int32) (pr st : Int32) (lf us : Int64) (hv : ∀ j, j < t → ¬ va j = 0) : ∀ (d i f : Nat), i + d = t → m_Mod_goes_L184 (f + d) (modS n tr ro va lv ca pl pr st lf us) (nI i) = m_Mod_goes_L184 f (modS n tr ro va lv ca pl pr st lf us) (nI t) := by
  intro d
  induction d with
  | zero => intro i f e; rw [show i = t by omega]; rfl
  | succ d ih =>
    intro i f e
    rw [show f + (d + 1) = f + d + 1 by omega, m_Mod_goes_L184]
    show (if nI n ≤ nI i then _ else if ¬ (nI i < 0 ∨ 300 ≤ (nI i).toNatClampNeg) then (if va (nI i).toNatClampNeg = 0 then _ else m_Mod_goes_L184 (f + d) (modS n tr ro va lv ca pl pr st lf us) (nI i + 1)) else none) = _
    rw [if_neg (nI_ge (by omega) (by omega)), if_pos (nI_in (by omega) (by omega)), nI_clamp (by omega), if_neg (hv i (by omega)), nI_1]
    exact ih (i + 1) f (by omega)
theorem mgoes {n t : Nat} (hn : n ≤ 300) (ht : t ≤ n) (ro va lv ca pl : Nat → Int32) (st : Int32) (lf us : Int64) (hv : ∀ j, j < t → ¬ va j = 0) : m_Mod_goes (modS n (nI t) ro va lv ca pl (nI t) st lf us) = m_Mod_goes_L184 (fu - t) (modS n (nI t) ro va lv ca pl (nI t) st lf us) (nI t) := by
  have e := msc hn ht (nI t) ro va lv ca pl (nI t) st lf us hv t 0 (fu - t) (by omega)
  rw [show fu - t + t = fu by unfold fu; omega] at e
  rw [← e]
  unfold m_Mod_goes
  rw [show fu = 1999999 + 1 from rfl, m_Mod_goes_L4, if_pos (by exact (show (0 : Int32) ≤ 0 by decide)), if_pos (by decide)]
  unfold m_Mod_goes_B122
  rw [show fu = 1999999 + 1 from rfl, m_Mod_goes_L124, if_pos (by exact (show (0 : Int32) ≤ 0 by decide))]
  rfl
/-- one turn of the reference with things left: a thing more, or SPENT -/
theorem mdec {n t : Nat} (hn : n ≤ 300) (ht : t < n) (ro va lv ca pl : Nat → Int32) (st : Int32) (lf us : Int64) (hv : ∀ j, j < t → ¬ va j = 0) (hz : va t = 0) : m_Mod_goes (modS n (nI t) ro va lv ca pl (nI t) st lf us) = some (if 0 < lf then (modS n (nI (t + 1)) (upd ro t (nI t)) (upd va t 1) (upd lv t (nI (t + 1))) (upd ca t (-1)) (upd pl t (nI t)) (nI (t + 1)) st (lf - 1) (us + 1), 1) else (modS n (nI t) ro va lv ca pl (nI t) 3 lf us, 0)) := by
  rw [mgoes hn (by omega) ro va lv ca pl st lf us hv]
  rw [show fu - t = fu - t - 1 + 1 by unfold fu; omega, m_Mod_goes_L184]
  show (if nI n ≤ nI t then _ else if ¬ (nI t < 0 ∨ 300 ≤ (nI t).toNatClampNeg) then (if va (nI t).toNatClampNeg = 0 then (m_Mod_decides (modS n (nI t) ro va lv ca pl (nI t) st lf us) (2 * nI t)).bind _ else _) else none) = _
  have e2 : (2 : Int32) * nI t = nI (2 * t) := pk_mul 2 t
  rw [if_neg (nI_ge (by omega) (by omega)), if_pos (nI_in (by omega) (by omega)), nI_clamp (by omega), if_pos hz, e2]
  have d2 : nI (2 * t) / (2 : Int32) = nI t := by
    have := pk_div (a := 2 * t) (d := 2) (by omega) (by omega) (by omega)
    rw [show 2 * t / 2 = t by omega] at this
    exact this
  have r2 : nI (2 * t) - nI t * (2 : Int32) + 1 = 1 := by
    have e : nI t * (2 : Int32) = nI (2 * t) := by
      rw [← e2]
      exact Int32.mul_comm _ _
    rw [e, Int32.sub_self]
    rfl
  by_cases c : 0 < lf
  · rw [if_pos c]
    have g : m_Mod_step (modS n (nI t) ro va lv ca pl (nI t) st lf us) = some (modS n (nI t) ro va lv ca pl (nI t) st (lf - 1) (us + 1), 1) := by
      unfold m_Mod_step
      rw [if_pos (by exact (lg_gt0 lf).mpr c)]
      rfl
    unfold m_Mod_decides
    rw [g, bind_s, if_neg (by exact (show ¬ (1 : Int32) = 0 by decide))]
    have w : m_Mod_comes (modS n (nI t) ro va lv ca pl (nI t + 1) st (lf - 1) (us + 1)) (nI (2 * t)) (nI t + 1) (-1) = some (modS n (nI t + 1) (upd ro t (nI t)) (upd va t 1) (upd lv t (nI t + 1)) (upd ca t (-1)) (upd pl t (nI t)) (nI t + 1) st (lf - 1) (us + 1)) := by
      unfold m_Mod_comes
      have y := nI_in (c := t) (N := 300) (by omega) (by omega)
      rw [d2, if_pos (by exact y), if_pos (by exact y), if_pos (by exact y), if_pos (by exact y), if_pos (by exact y), r2, nI_clamp (by omega)]
      show some (modS n (nI t + 1) (upd ro (nI t).toNatClampNeg (nI t)) (upd va t 1) (upd lv t (nI t + 1)) (upd ca t (-1)) (upd pl t (nI t)) (nI t + 1) st (lf - 1) (us + 1)) = _
      rw [nI_clamp (by omega)]
    show ((m_Mod_comes (modS n (nI t) ro va lv ca pl (nI t + 1) st (lf - 1) (us + 1)) (nI (2 * t)) (nI t + 1) (-1)).bind _).bind _ = _
    rw [w, bind_s, bind_s, if_pos (Or.inr rfl), nI_1]
  · rw [if_neg c]
    have g : m_Mod_step (modS n (nI t) ro va lv ca pl (nI t) st lf us) = some (modS n (nI t) ro va lv ca pl (nI t) 3 lf us, 0) := by
      unfold m_Mod_step
      rw [if_neg (by exact fun q => c ((lg_gt0 lf).mp q))]
      rfl
    unfold m_Mod_decides
    rw [g, bind_s, if_pos rfl, bind_s, if_pos (Or.inl rfl)]
theorem mend {n : Nat} (hn : n ≤ 300) (ro va lv ca pl : Nat → Int32) (st : Int32) (lf us : Int64) (hv : ∀ j, j < n → ¬ va j = 0) : m_Mod_goes (modS n (nI n) ro va lv ca pl (nI n) st lf us) = some (modS n (nI n) ro va lv ca pl (nI n) 0 lf us, 0) := by
  rw [mgoes hn (by omega) ro va lv ca pl st lf us hv]
  rw [show fu - n = fu - n - 1 + 1 by unfold fu; omega, m_Mod_goes_L184, if_pos (by exact nI_le (Nat.le_refl n) (by omega))]
  rfl
def stM (m : T_Mod) : Int32 := m.2.2.2.2.2.2.2.2.2.2.2.2.2.2.2.2.2.2.2.2.2.2.2.1
theorem mgo {n : Nat} (hn : n ≤ 300) : ∀ (k t f : Nat) (ro va lv ca pl : Nat → Int32) (st : Int32) (lf us : Int64), t + k = n → k + 1 < f → (∀ j, j < t → ¬ va j = 0) → (∀ j, t ≤ j → j < 300 → va j = 0) → ∃ m, m_Mod_goOnWith_L12 f (modS n (nI t) ro va lv ca pl (nI t) st lf us) 1 = some m ∧ stM m = resN k lf := by
  intro k
  induction k with
  | zero =>
    intro t f ro va lv ca pl st lf us e hf h1 h2
    obtain ⟨f, rfl⟩ : ∃ g, f = g + 1 + 1 := ⟨f - 2, by omega⟩
    have et : t = n := by omega
    subst et
    rw [m_Mod_goOnWith_L12, if_neg (by decide), mend hn ro va lv ca pl st lf us h1, bind_s, m_Mod_goOnWith_L12, if_pos rfl]
    exact ⟨_, rfl, rfl⟩
  | succ k ih =>
    intro t f ro va lv ca pl st lf us e hf h1 h2
    obtain ⟨f, rfl⟩ : ∃ g, f = g + 1 + 1 := ⟨f - 2, by omega⟩
    rw [m_Mod_goOnWith_L12, if_neg (by decide), mdec hn (by omega) ro va lv ca pl st lf us h1 (h2 t (Nat.le_refl t) (by omega)), bind_s]
    by_cases c : 0 < lf
    · rw [if_pos c]
      obtain ⟨m, z1, z2⟩ := ih (t + 1) (f + 1) (upd ro t (nI t)) (upd va t 1) (upd lv t (nI (t + 1))) (upd ca t (-1)) (upd pl t (nI t)) st (lf - 1) (us + 1) (by omega) (by omega) (fun j hj => by
        by_cases q : j = t
        · rw [q, pk_us]
          decide
        · rw [pk_un q]
          exact h1 j (by omega)) (fun j hj hj2 => by
        rw [pk_un (by omega)]
        exact h2 j (by omega) hj2)
      refine ⟨m, z1, z2.trans ?_⟩
      show resN k (lf - 1) = if 0 < lf then resN k (lf - 1) else 3
      rw [if_pos c]
    · rw [if_neg c, m_Mod_goOnWith_L12, if_pos rfl]
      refine ⟨_, rfl, ?_⟩
      show 3 = if 0 < lf then resN k (lf - 1) else 3
      rw [if_neg c]
theorem mrun_L {n : Nat} (hn : n ≤ 300) (x : Int64) (ro lv ca pl : Nat → Int32) (st : Int32) (lf us : Int64) (tr pr : Int32) : ∀ (d i f : Nat) (va : Nat → Int32), i + d = 300 → d < f → (∀ j, j < i → va j = 0) → ∃ m, m_Mod_run_L7 f (modS n tr ro va lv ca pl pr st lf us) x (nI i) = some (m, resN n x) := by
  intro d
  induction d with
  | zero =>
    intro i f va e hf h
    obtain ⟨f, rfl⟩ : ∃ g, f = g + 1 := ⟨f - 1, by omega⟩
    obtain ⟨m, z1, z2⟩ := mgo hn n 0 fu ro va lv ca pl st x 0 (by omega) (by unfold fu; omega) (fun j hj => absurd hj (by omega)) (fun j _ hj => h j (by omega))
    rw [m_Mod_run_L7, if_pos (show (300 : Int32) ≤ nI i from nI_le (a := 300) (by omega) (by omega))]
    show ∃ m, ((m_Mod_goOnWith_L12 fu (modS n (nI 0) ro va lv ca pl (nI 0) st x 0) 1).bind fun r3 => some (r3, stM r3)) = _
    rw [z1, bind_s, z2]
    exact ⟨_, rfl⟩
  | succ d ih =>
    intro i f va e hf h
    obtain ⟨f, rfl⟩ : ∃ g, f = g + 1 := ⟨f - 1, by omega⟩
    rw [m_Mod_run_L7, if_neg (show ¬ (300 : Int32) ≤ nI i from nI_ge (b := 300) (by omega) (by omega)), if_pos (by exact nI_in (c := i) (N := 300) (by omega) (by omega)), nI_clamp (by omega), nI_1]
    obtain ⟨m, z⟩ := ih (i + 1) f (upd va i 0) (by omega) (by omega) (fun j hj => by
      by_cases q : j = i
      · rw [q, pk_us]
      · rw [pk_un q]
        exact h j (by omega))
    exact ⟨m, z⟩
theorem mrun0 {n : Nat} (hn : n ≤ 300) (x : Int64) : ∃ m, m_Mod_run (mod0 n) x = some (m, resN n x) :=
  mrun_L hn x _ _ _ _ 1 0 0 0 0 300 0 fu (fun _ => 0) (by omega) (by unfold fu; omega) (fun j hj => absurd hj (by omega))
