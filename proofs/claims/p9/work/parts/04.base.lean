/-! the mirrors' own words -/
abbrev Arr : Type := Nat × (Nat → Int32)
abbrev LArr : Type := Nat × (Nat → Int64)
/-- fuel of every loop: more than any loop needs -/
def fu : Nat := 2000000
def addc {α : Type} (c k : Nat) (m : Option (α × Nat × Nat)) : Option (α × Nat × Nat) := match m with
  | none => none
  | some o => some (o.1, c + o.2.1, k + o.2.2)
theorem addc_of {α : Type} {c k : Nat} {m : Option (α × Nat × Nat)} {o : α} {C K : Nat} (h : addc c k m = some (o, C, K)) : ∃ c2 k2, m = some (o, c2, k2) ∧ C = c + c2 ∧ K = k + k2 := by
  cases m with
  | none => cases h
  | some x =>
    obtain ⟨x, c2, k2⟩ := x
    cases h
    exact ⟨c2, k2, rfl, rfl, rfl⟩
theorem res_of {α : Type} {a b : α} {c d : Nat} (h : some (a, (0 : Nat), (0 : Nat)) = some (b, c, d)) : a = b ∧ c = 0 ∧ d = 0 := by
  cases h
  exact ⟨rfl, rfl, rfl⟩
theorem chk_of {α : Type} {c : Prop} [Decidable c] {k : Option α} {o : α} (h : (if c then k else none) = some o) : c ∧ k = some o := by
  by_cases hc : c
  · rw [if_pos hc] at h
    exact ⟨hc, h⟩
  · rw [if_neg hc] at h
    cases h
theorem bnd_of {α β : Type} {m : Option α} {f : α → Option β} {o : β} (h : m.bind f = some o) : ∃ a, m = some a ∧ f a = some o := by
  cases m with
  | none => cases h
  | some a => exact ⟨a, rfl, h⟩
theorem ite_t {α : Type} {c : Prop} [Decidable c] {a b : Option α} {o : α} (hm : (if c then a else b) = some o) (h : c) : a = some o := by
  rw [if_pos h] at hm
  exact hm
theorem ite_f {α : Type} {c : Prop} [Decidable c] {a b : Option α} {o : α} (hm : (if c then a else b) = some o) (h : ¬ c) : b = some o := by
  rw [if_neg h] at hm
  exact hm
theorem aj_ws {p : Program} {l : Launch} {e : Env} {R : Room} {s : State} {m : MethodId} {args : Array Value} {below : List Frame} {meth : Method} {c : Code} {Q : State → Prop} {D : va_G} {cl : List vw_C} {A : Nat → Prop} {nL : Nat} {ws ws' : va_W} {kc ks pc : Nat} {lv : List (Nat × Value)} {st : List Value} (h : ws = ws') (k : aj p l e R s m args below meth c Q D cl A nL ws' kc ks pc lv st) : aj p l e R s m args below meth c Q D cl A nL ws kc ks pc lv st := h ▸ k
theorem kc_step {K d0 c d M : Nat} (h : K + d0 = M) (e : d0 = c + d) : K + c + d = M := by omega
theorem kc_le {K c d M : Nat} (h : K + c + d = M) : K + c ≤ M := by omega
theorem kc_le0 {K d M : Nat} (h : K + d = M) : K ≤ M := by omega
theorem kc_le1 {K d M : Nat} (h : K + d = M) : K + 0 ≤ M := by omega
theorem kc_zero {K d M : Nat} (h : K + d = M) : K + 0 + d = M := by omega
theorem kc_end {K d M : Nat} (h : K + d = M) (e : d = 0) : K = M := by omega
