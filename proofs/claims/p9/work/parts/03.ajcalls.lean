/-! THE WALK'S OWN JUDGEMENT, 2: new cells, returns, contracts (ct), calls -/
/-- the nest's words: private methods and fields that nest mates reach -/
def nk (NM : List (String × Nat × MethodName × String)) (NF : List (String × Nat × String × String × String × String)) (U : State) : Prop :=
  (∀ q ∈ NM, va_Nw (.methodLinkNest q.1 q.2.1 q.2.2.1 q.2.2.2) U) ∧ ∀ q ∈ NF, va_Nw (.fieldLinkNest q.1 q.2.1 q.2.2.1 q.2.2.2.1 q.2.2.2.2.1 q.2.2.2.2.2) U
theorem nk.warm {NM : List (String × Nat × MethodName × String)} {NF : List (String × Nat × String × String × String × String)} {s U : State} (hW : s.WarmedH U.vm) (h : nk NM NF s) : nk NM NF U := ⟨fun q hq => va_Nw.warmM hW (h.1 q hq), fun q hq => va_Nw.warmF hW (h.2 q hq)⟩
theorem nk.same {NM : List (String × Nat × MethodName × String)} {NF : List (String × Nat × String × String × String × String)} {s U : State} (hW : s.vm = U.vm) (h : nk NM NF s) : nk NM NF U := ⟨fun q hq => va_Nw.same rfl hW (h.1 q hq), fun q hq => va_Nw.same rfl hW (h.2 q hq)⟩
/-- what a contract's start says of the state -/
def ctW (D : va_G) (cl : List vw_C) (tys : List (ClassId × FieldType)) (NM : List (String × Nat × MethodName × String)) (NF : List (String × Nat × String × String × String × String)) (w0 : va_W) (sz : Nat) (U : State) : Prop :=
  U.heap.size = sz ∧ va_P D cl w0 U.heap ∧ va_K D cl tys U ∧ va_D (fun _ => True) w0 ∧ nk NM NF U
/-- a contract: from the world w0, with the arguments av; Qf says what comes behind -/
def ct (l : Launch) (y : MethodName) (wy : List Cond) (fr lo : Nat) (D : va_G) (cl : List vw_C) (tys : List (ClassId × FieldType)) (NM : List (String × Nat × MethodName × String)) (NF : List (String × Nat × String × String × String × String)) (av : List Value) (w0 : va_W) (Qf : (Nat → Prop) → Array Value → State → Outcome → State → Prop) (mc ms : Nat) : Prop :=
  ∀ sz : Nat, Met l y wy { frames := fr, cells := mc, slots := ms, locals := lo } (va_Pc av (ctW D cl tys NM NF w0 sz)) (Qf (va_A w0 sz)) mc ms (va_A w0 sz)
def ctB (D : va_G) (cl : List vw_C) (tys : List (ClassId × FieldType)) (A : Nat → Prop) (u : va_W) (t : State) : Prop := va_P D cl u t.heap ∧ va_K D cl tys t ∧ va_D A u
def qI (D : va_G) (cl : List vw_C) (tys : List (ClassId × FieldType)) (O : Int32 → va_W → Prop) (A : Nat → Prop) : Array Value → State → Outcome → State → Prop := va_Qi O (ctB D cl tys A) A
def qL (D : va_G) (cl : List vw_C) (tys : List (ClassId × FieldType)) (O : Int64 → va_W → Prop) (A : Nat → Prop) : Array Value → State → Outcome → State → Prop := va_Ql O (ctB D cl tys A) A
def qV (D : va_G) (cl : List vw_C) (tys : List (ClassId × FieldType)) (O : va_W → Prop) (A : Nat → Prop) : Array Value → State → Outcome → State → Prop := va_Qv O (ctB D cl tys A) A
def qR (D : va_G) (cl : List vw_C) (tys : List (ClassId × FieldType)) (O : Nat → va_W → Prop) (A : Nat → Prop) : Array Value → State → Outcome → State → Prop := va_Qr (fun _ : va_W => True) (fun u a t => O a u ∧ ctB D cl tys A u t) A
theorem Met.ofWF {l : Launch} {y : MethodName} {ws ws' : List Cond} {rm : Room} {Pc : Array Value → State → Prop} {Qc : Array Value → State → Outcome → State → Prop} {mc ms : Nat} {free : Addr → Prop} {cc : ByteArray} {maxL : Nat} {ret : Option FieldType}
    (hy : plainFor y = true) (hw : ws = Cond.code y cc maxL ret :: ws')
    (body : ∀ p e s m args below meth c s₁, BodyLoose p l y (headSpec ws rm) cc maxL ret e s m args below meth c s₁ → c.maxLocals = maxL → Pc args s →
      W p l e (headSpec ws rm).room s m args below meth c s.heap [] 0 0 (MQ below Qc args s mc ms free) (entryFrame m args maxL)) : Met l y ws rm Pc Qc mc ms free := by
  refine MetFree.of_bodySF (code := cc) (maxLocals := maxL) (ret := ret) hy ?_ ?_
  · intro args s m h hn
    obtain ⟨meth, c, h1, h2, h3, h4, h5, h6, -, -⟩ := Cond.code_spec hn (atoms_spec (ws := ws) h _ (by rw [hw]; exact List.mem_cons_self))
    exact ⟨meth, c, h1, h2, h3, h4, h5, h6⟩
  · intro p e s m args below meth c s₁ B hml hP _
    have hh0 : s₁.heap = s.heap := by rw [B.state]; rfl
    obtain ⟨t, a1, o, b1, b2, b3⟩ := body p e s m args below meth c s₁ B hml hP s₁ hh0 (Stand.of_body B)
    exact ⟨t, o, a1, b1, b2, ⟨b3.1, b3.2⟩⟩
/-- a contract out of a walk -/
theorem ct_of {l : Launch} {y : MethodName} {cc : ByteArray} {maxL : Nat} {ret : Option FieldType} {Ts : List Cond} {fr lo : Nat} {D : va_G} {cl : List vw_C} {tys : List (ClassId × FieldType)} {NM : List (String × Nat × MethodName × String)} {NF : List (String × Nat × String × String × String × String)} {av : List Value} {w0 : va_W} {Qf : (Nat → Prop) → Array Value → State → Outcome → State → Prop} {mc ms : Nat}
    (hy : plainFor y = true) (hlen : (lg_sl av).length ≤ maxL)
    (body : ∀ (p : Program) (e : Env) (s : State) (m : MethodId) (args : Array Value) (below : List Frame) (meth : Method) (c : Code) (A : Nat → Prop), aj_C p s m args c D cl tys A cc maxL y.cls Ts → nk NM NF s → meth.sig.returnType = ret → meth.locks = false → meth.name = y.name →
      aj p l e { frames := fr, cells := mc, slots := ms, locals := lo } s m args below meth c (MQ below (Qf A) args s mc ms A) D cl A maxL w0 0 0 0 (lv_args 0 av) []) :
    ct l y (Cond.code y cc maxL ret :: Ts) fr lo D cl tys NM NF av w0 Qf mc ms := by
  intro sz
  refine Met.ofWF (cc := cc) (maxL := maxL) (ret := ret) hy rfl ?_
  intro p e s m args below meth c s₁ B hml hv
  obtain ⟨rfl, hsz, hP, hK, hD0, hNK⟩ := hv
  subst hsz
  have hD := hD0.self (sz := s.heap.size)
  have hts := atoms_spec (ws := Cond.code y cc maxL ret :: Ts) B.pre
  rw [lg_entry_eq]
  exact body p e s m _ below meth c (va_A w0 s.heap.size) ⟨B.exec, B.bytes, hml, findClass_of_methodNamed B.named, fun w hw => hts w (List.mem_cons_of_mem _ hw), hK, fun q h => Or.inr h⟩ hNK B.returns B.notSynchronized (name_of_methodNamed B.named B.method).1 s.heap [] _ hP hD va_S.rf (lv_entry av hlen)
section AJC
variable {p : Program} {l : Launch} {e : Env} {R : Room} {s : State} {m : MethodId} {args : Array Value} {below : List Frame} {meth : Method} {c : Code} {Q : State → Prop} {D : va_G} {cl : List vw_C} {tys : List (ClassId × FieldType)} {A : Nat → Prop} {cc : ByteArray} {nL : Nat} {own : String} {Ts : List Cond} {ws ws' : va_W} {kc ks pc : Nat} {lv lv' : List (Nat × Value)} {st : List Value} {NM : List (String × Nat × MethodName × String)} {NF : List (String × Nat × String × String × String × String)}
-- returns
theorem aj_iret (X : aj_C p s m args c D cl tys A cc nL own Ts) {O : Int32 → va_W → Prop} {v : Int32} (hdg : decode cc pc = .ok (.ireturn, 1)) (hr : meth.sig.returnType = some .int) (hlocks : meth.locks = false) (is : List Nat) (u : va_W) (hn : va_nd is = true) (hs : is.map (fun i => ws[i]?) = u.map some) (hp : O v u) : aj p l e R s m args below meth c (MQ below (qI D cl tys O A) args s kc ks A) D cl A nL ws kc ks pc lv [.int v] :=
  aj_perm is hn hs (fun H locs ls hP hD hS hl => W.iret X.1 X.2.1 hr (fun t ht hW => ⟨⟨v, u, rfl, hp, by rw [ht]; exact hP, va_K.moved hW.alike X.2.2.2.2.2.1, hD⟩, hS.F ht⟩) hS.2.2 hdg hlocks)
theorem aj_zret (X : aj_C p s m args c D cl tys A cc nL own Ts) {O : Int32 → va_W → Prop} {v : Int32} (hdg : decode cc pc = .ok (.ireturn, 1)) (hr : meth.sig.returnType = some .boolean) (hlocks : meth.locks = false) (hv : v = 0 ∨ v = 1) (is : List Nat) (u : va_W) (hn : va_nd is = true) (hs : is.map (fun i => ws[i]?) = u.map some) (hp : O v u) : aj p l e R s m args below meth c (MQ below (qI D cl tys O A) args s kc ks A) D cl A nL ws kc ks pc lv [.int v] :=
  aj_perm is hn hs (fun H locs ls hP hD hS hl => W.zret (ty := .boolean) X.1 X.2.1 hr (by rcases hv with rfl | rfl <;> decide) (fun t ht hW => ⟨⟨v, u, rfl, hp, by rw [ht]; exact hP, va_K.moved hW.alike X.2.2.2.2.2.1, hD⟩, hS.F ht⟩) hS.2.2 hdg hlocks)
theorem aj_lret (X : aj_C p s m args c D cl tys A cc nL own Ts) {O : Int64 → va_W → Prop} {v : Int64} (hdg : decode cc pc = .ok (.lreturn, 1)) (hr : meth.sig.returnType = some .long) (hlocks : meth.locks = false) (is : List Nat) (u : va_W) (hn : va_nd is = true) (hs : is.map (fun i => ws[i]?) = u.map some) (hp : O v u) : aj p l e R s m args below meth c (MQ below (qL D cl tys O A) args s kc ks A) D cl A nL ws kc ks pc lv [.long v] :=
  aj_perm is hn hs (fun H locs ls hP hD hS hl => W.lret X.1 X.2.1 hr (fun t ht hW => ⟨⟨v, u, rfl, hp, by rw [ht]; exact hP, va_K.moved hW.alike X.2.2.2.2.2.1, hD⟩, hS.F ht⟩) hS.2.2 hdg hlocks)
theorem aj_vret (X : aj_C p s m args c D cl tys A cc nL own Ts) {O : va_W → Prop} (hdg : decode cc pc = .ok (.return_, 1)) (hr : meth.sig.returnType = none) (hlocks : meth.locks = false) (is : List Nat) (u : va_W) (hn : va_nd is = true) (hs : is.map (fun i => ws[i]?) = u.map some) (hp : O u) : aj p l e R s m args below meth c (MQ below (qV D cl tys O A) args s kc ks A) D cl A nL ws kc ks pc lv [] :=
  aj_perm is hn hs (fun H locs ls hP hD hS hl => W.vret X.1 X.2.1 hr (fun t ht hW => ⟨⟨u, rfl, hp, by rw [ht]; exact hP, va_K.moved hW.alike X.2.2.2.2.2.1, hD⟩, hS.F ht⟩) hS.2.2 hdg hlocks)
theorem aj_aret (X : aj_C p s m args c D cl tys A cc nL own Ts) {O : Nat → va_W → Prop} {a : Nat} {rt : FieldType} (hdg : decode cc pc = .ok (.areturn, 1)) (hr : meth.sig.returnType = some (.array rt)) (hlocks : meth.locks = false) (is : List Nat) (u : va_W) (hn : va_nd is = true) (hs : is.map (fun i => ws[i]?) = u.map some) (hp : O a u) : aj p l e R s m args below meth c (MQ below (qR D cl tys O A) args s kc ks A) D cl A nL ws kc ks pc lv [.ref a] :=
  aj_perm is hn hs (fun H locs ls hP hD hS hl => W.aret X.1 X.2.1 hr (Or.inr ⟨rt, rfl⟩) (Or.inr ⟨a, rfl⟩) (fun t ht hW => ⟨⟨u, a, rfl, trivial, hp, by rw [ht]; exact hP, va_K.moved hW.alike X.2.2.2.2.2.1, hD⟩, hS.F ht⟩) hS.2.2 hdg hlocks)
-- new cells
theorem aj_newI (X : aj_C p s m args c D cl tys A cc nL own Ts) {n : Int32} {cA : ClassId} (hdg : decode cc pc = .ok (.newarray .int, 2)) (harr : Cond.arrayClass .int ∈ Ts) (t0 : Nat) (ht : tys[t0]? = some (cA, .int)) (hn : ¬ n < 0) (hbytes : n.toNatClampNeg * 4 ≤ 536870912) (hc : kc + 1 ≤ R.cells) (hs : ks + n.toNatClampNeg ≤ R.slots)
    (k : ∀ q : Nat, aj p l e R s m args below meth c Q D cl A nL (ws ++ [(q, .inl (cA, n.toNatClampNeg, .inl (fun _ => 0)))]) (kc + 1) (ks + n.toNatClampNeg) (pc + 2) lv (.ref q :: st)) : aj p l e R s m args below meth c Q D cl A nL ws kc ks pc lv (.int n :: st) := by
  intro H locs ls hP hD hS hl
  refine va_newa (atype := .int) (ty := .int) (a0 := (n.toNatClampNeg, .inl (fun _ => 0))) X.1 X.2.1 (X.2.2.2.2.1 _ harr) rfl X.2.2.2.2.2.1 hP hD hS X.2.2.2.2.2.2 (fun cA => rfl) hn rfl hbytes hc hs hdg (fun q cB H1 hK1 hP1 hD1 hS1 => ?_)
  have e1 : s.vm.findClass ("[" ++ (FieldType.int).toString) = some cB := (hK1.2 tys.length (cB, .int) (by simp)).2
  have e2 : s.vm.findClass ("[" ++ (FieldType.int).toString) = some cA := (X.2.2.2.2.2.1.2 t0 _ ht).2
  have e3 : cB = cA := Option.some.inj (e1.symm.trans e2)
  subst e3
  exact k q H1 locs ls hP1 hD1 hS1 hl
theorem aj_newL (X : aj_C p s m args c D cl tys A cc nL own Ts) {n : Int32} {cA : ClassId} (hdg : decode cc pc = .ok (.newarray .long, 2)) (harr : Cond.arrayClass .long ∈ Ts) (t0 : Nat) (ht : tys[t0]? = some (cA, .long)) (hn : ¬ n < 0) (hbytes : n.toNatClampNeg * 8 ≤ 536870912) (hc : kc + 1 ≤ R.cells) (hs : ks + n.toNatClampNeg ≤ R.slots)
    (k : ∀ q : Nat, aj p l e R s m args below meth c Q D cl A nL (ws ++ [(q, .inl (cA, n.toNatClampNeg, .inr (.inl (fun _ => 0))))]) (kc + 1) (ks + n.toNatClampNeg) (pc + 2) lv (.ref q :: st)) : aj p l e R s m args below meth c Q D cl A nL ws kc ks pc lv (.int n :: st) := by
  intro H locs ls hP hD hS hl
  refine va_newa (atype := .long) (ty := .long) (a0 := (n.toNatClampNeg, .inr (.inl (fun _ => 0)))) X.1 X.2.1 (X.2.2.2.2.1 _ harr) rfl X.2.2.2.2.2.1 hP hD hS X.2.2.2.2.2.2 (fun cA => rfl) hn rfl hbytes hc hs hdg (fun q cB H1 hK1 hP1 hD1 hS1 => ?_)
  have e1 : s.vm.findClass ("[" ++ (FieldType.long).toString) = some cB := (hK1.2 tys.length (cB, .long) (by simp)).2
  have e2 : s.vm.findClass ("[" ++ (FieldType.long).toString) = some cA := (X.2.2.2.2.2.1.2 t0 _ ht).2
  have e3 : cB = cA := Option.some.inj (e1.symm.trans e2)
  subst e3
  exact k q H1 locs ls hP1 hD1 hS1 hl
theorem aj_newZ (X : aj_C p s m args c D cl tys A cc nL own Ts) {n : Int32} {cA : ClassId} (hdg : decode cc pc = .ok (.newarray .boolean, 2)) (harr : Cond.arrayClass .boolean ∈ Ts) (t0 : Nat) (ht : tys[t0]? = some (cA, .boolean)) (hn : ¬ n < 0) (hbytes : n.toNatClampNeg * 1 ≤ 536870912) (hc : kc + 1 ≤ R.cells) (hs : ks + n.toNatClampNeg ≤ R.slots)
    (k : ∀ q : Nat, aj p l e R s m args below meth c Q D cl A nL (ws ++ [(q, .inl (cA, n.toNatClampNeg, .inl (fun _ => 0)))]) (kc + 1) (ks + n.toNatClampNeg) (pc + 2) lv (.ref q :: st)) : aj p l e R s m args below meth c Q D cl A nL ws kc ks pc lv (.int n :: st) := by
  intro H locs ls hP hD hS hl
  refine va_newa (atype := .boolean) (ty := .boolean) (a0 := (n.toNatClampNeg, .inl (fun _ => 0))) X.1 X.2.1 (X.2.2.2.2.1 _ harr) rfl X.2.2.2.2.2.1 hP hD hS X.2.2.2.2.2.2 (fun cA => rfl) hn rfl hbytes hc hs hdg (fun q cB H1 hK1 hP1 hD1 hS1 => ?_)
  have e1 : s.vm.findClass ("[" ++ (FieldType.boolean).toString) = some cB := (hK1.2 tys.length (cB, .boolean) (by simp)).2
  have e2 : s.vm.findClass ("[" ++ (FieldType.boolean).toString) = some cA := (X.2.2.2.2.2.1.2 t0 _ ht).2
  have e3 : cB = cA := Option.some.inj (e1.symm.trans e2)
  subst e3
  exact k q H1 locs ls hP1 hD1 hS1 hl
theorem aj_new (X : aj_C p s m args c D cl tys A cc nL own Ts) {C : String} {T : u_T} {N ci index : Nat} (fs : List Value) (hdg : decode cc pc = .ok (.new index, 3)) (hin : ∀ w ∈ u_ws C T N, w ∈ Ts) (ty : Nat → FieldType) (hty : ∀ k, k < N → parseFieldDescriptor (T k).2.2.1 = some (ty k)) (hcl : Cond.classLink own index C ∈ Ts) (hinst : Cond.instantiable C N ∈ Ts) (hini : Cond.initialized C ∈ Ts) (hci : cl[ci]? = some (C, T, N)) (hfs : ∀ j, j < N → defaultValue (ty j) = vp_V fs j) (hc : kc + 1 ≤ R.cells) (hs : ks + N ≤ R.slots)
    (k : ∀ q : Nat, aj p l e R s m args below meth c Q D cl A nL (ws ++ [(q, .inr (ci, fs))]) (kc + 1) (ks + N) (pc + 3) lv (.ref q :: st)) : aj p l e R s m args below meth c Q D cl A nL ws kc ks pc lv st :=
  fun H locs ls hP hD hS hl => va_new X.1 X.2.1 X.2.2.2.2.1 hin ty hty X.2.2.2.1 (X.2.2.2.2.1 _ hcl) (X.2.2.2.2.1 _ hinst) (X.2.2.2.2.1 _ hini) X.2.2.2.2.2.1 hP hD hS X.2.2.2.2.2.2 hci hfs hc hs hdg (fun q H1 hP1 hD1 hS1 => k q H1 locs ls hP1 hD1 hS1 hl)
theorem aj_objInit (X : aj_C p s m args c D cl tys A cc nL own Ts) {a idx : Nat} (hdg : decode cc pc = .ok (.invokespecial idx, 3)) (h1 : Cond.methodLink own idx Lib.objectInit ∈ Ts) (h2 : Cond.instanceMethod Lib.objectInit ∈ Ts) (h3 : Cond.code Lib.objectInit ⟨#[0xb1]⟩ 1 none ∈ Ts) (hfr : 1 ≤ R.frames) (hlo : (st.map fun v => v.category).sum + 12 ≤ R.locals) (k : aj p l e R s m args below meth c Q D cl A nL ws kc ks (pc + 3) lv st) : aj p l e R s m args below meth c Q D cl A nL ws kc ks pc lv (.ref a :: st) :=
  fun H locs ls hP hD hS hl => W.objInit X.1 X.2.1 X.2.2.2.1 (X.2.2.2.2.1 _ h1) (X.2.2.2.2.1 _ h2) (X.2.2.2.2.1 _ h3) rfl (by rw [X.2.2.1]; exact hl.1) rfl hdg hfr (by show 2 * 0 + _ + 12 ≤ _; omega) (k H locs ls hP hD hS hl)
-- Math
theorem aj_mmax (X : aj_C p s m args c D cl tys A cc nL own Ts) {index : Nat} {x y : Int32} (hdg : decode cc pc = .ok (.invokestatic index, 3)) (h1 : Cond.methodLink own index Lib.Math.max.name ∈ Ts) (h2 : Cond.static Lib.Math.max.name ∈ Ts) (h3 : Cond.initialized "java/lang/Math" ∈ Ts) (h4 : Cond.code Lib.Math.max.name Lib.Math.max.code 2 (some .int) ∈ Ts) (hfr : 1 ≤ R.frames) (hlo : (st.map fun v => v.category).sum + 13 ≤ R.locals) (hc : kc ≤ R.cells) (hs : ks ≤ R.slots) (k : aj p l e R s m args below meth c Q D cl A nL ws kc ks (pc + 3) lv (.int (if x < y then y else x) :: st)) : aj p l e R s m args below meth c Q D cl A nL ws kc ks pc lv (.int y :: .int x :: st) :=
  fun H locs ls hP hD hS hl => va_mmax X.1 X.2.1 (X.2.2.1.trans hl.1.symm) X.2.2.2.1 (X.2.2.2.2.1 _ h1) (X.2.2.2.2.1 _ h2) (X.2.2.2.2.1 _ h3) (X.2.2.2.2.1 _ h4) hfr hlo hc hs hdg (k H locs ls hP hD hS hl)
theorem aj_mmin (X : aj_C p s m args c D cl tys A cc nL own Ts) {index : Nat} {x y : Int32} (hdg : decode cc pc = .ok (.invokestatic index, 3)) (h1 : Cond.methodLink own index Lib.Math.min.name ∈ Ts) (h2 : Cond.static Lib.Math.min.name ∈ Ts) (h3 : Cond.initialized "java/lang/Math" ∈ Ts) (h4 : Cond.code Lib.Math.min.name Lib.Math.min.code 2 (some .int) ∈ Ts) (hfr : 1 ≤ R.frames) (hlo : (st.map fun v => v.category).sum + 13 ≤ R.locals) (hc : kc ≤ R.cells) (hs : ks ≤ R.slots) (k : aj p l e R s m args below meth c Q D cl A nL ws kc ks (pc + 3) lv (.int (if y < x then y else x) :: st)) : aj p l e R s m args below meth c Q D cl A nL ws kc ks pc lv (.int y :: .int x :: st) :=
  fun H locs ls hP hD hS hl => va_mmin X.1 X.2.1 (X.2.2.1.trans hl.1.symm) X.2.2.2.1 (X.2.2.2.2.1 _ h1) (X.2.2.2.2.1 _ h2) (X.2.2.2.2.1 _ h3) (X.2.2.2.2.1 _ h4) hfr hlo hc hs hdg (k H locs ls hP hD hS hl)
theorem aj_mmaxL (X : aj_C p s m args c D cl tys A cc nL own Ts) {index : Nat} {x y : Int64} (hdg : decode cc pc = .ok (.invokestatic index, 3)) (h1 : Cond.methodLink own index Lib.MathLoose.max_long.x ∈ Ts) (h2 : Cond.static Lib.MathLoose.max_long.x ∈ Ts) (h3 : Cond.initialized "java/lang/Math" ∈ Ts) (h4 : Cond.code Lib.MathLoose.max_long.x Lib.MathLoose.max_long.code 4 (some .long) ∈ Ts) (hfr : 1 ≤ R.frames) (hlo : (st.map fun v => v.category).sum + 15 ≤ R.locals) (hc : kc ≤ R.cells) (hs : ks ≤ R.slots) (k : aj p l e R s m args below meth c Q D cl A nL ws kc ks (pc + 3) lv (.long (if y < x then x else y) :: st)) : aj p l e R s m args below meth c Q D cl A nL ws kc ks pc lv (.long y :: .long x :: st) :=
  fun H locs ls hP hD hS hl => va_mmax_long X.1 X.2.1 (X.2.2.1.trans hl.1.symm) X.2.2.2.1 (X.2.2.2.2.1 _ h1) (X.2.2.2.2.1 _ h2) (X.2.2.2.2.1 _ h3) (X.2.2.2.2.1 _ h4) hfr hlo hc hs hdg (k H locs ls hP hD hS hl)
theorem aj_copyi (X : aj_C p s m args c D cl tys A cc nL own Ts) {index a0 a1 n0 n1 : Nat} {cA : ClassId} {f g : Nat → Int32} {sp dp n : Int32} (hdg : decode cc pc = .ok (.invokestatic index, 3)) (hw : Cond.methodLink own index arraycopyName ∈ Ts ∧ Cond.native arraycopyName ∈ Ts ∧ Cond.static arraycopyName ∈ Ts ∧ Cond.initialized "java/lang/System" ∈ Ts) (q0 q1 t0 : Nat) (ha0 : ws[q0]? = some (a0, .inl (cA, n0, .inl f))) (ha1 : ws[q1]? = some (a1, .inl (cA, n1, .inl g))) (ht : tys[t0]? = some (cA, .int)) (h1 : ¬ sp < 0) (h2 : ¬ dp < 0) (h3 : ¬ n < 0) (h4 : sp.toNatClampNeg + n.toNatClampNeg ≤ n0) (h5 : dp.toNatClampNeg + n.toNatClampNeg ≤ n1) (hfr : 1 ≤ R.frames) (hlo : (st.map fun v => v.category).sum + (nativeFrameWords "java/lang/System" "arraycopy" 5 + 11) ≤ R.locals) (hws : ws.set q1 (a1, .inl (cA, n1, .inl (va_cpy f g sp.toNatClampNeg dp.toNatClampNeg n.toNatClampNeg))) = ws') (k : aj p l e R s m args below meth c Q D cl A nL ws' kc ks (pc + 3) lv st) : aj p l e R s m args below meth c Q D cl A nL ws kc ks pc lv (.int n :: .int dp :: .ref a1 :: .int sp :: .ref a0 :: st) := by
  subst hws
  exact fun H locs ls hP hD hS hl => va_copyi X.1 X.2.1 (X.2.2.1.trans hl.1.symm) X.2.2.2.1 (X.2.2.2.2.1 _ hw.1) (X.2.2.2.2.1 _ hw.2.1) (X.2.2.2.2.1 _ hw.2.2.1) (X.2.2.2.2.1 _ hw.2.2.2) X.2.2.2.2.2.1 hP hD hS q0 q1 t0 t0 ha0 ha1 ht ht rfl h1 h2 h3 h4 h5 (fun _ _ => rfl) hfr hlo hdg (fun H1 locs1 hP1 hD1 hS1 => k H1 locs1 ls hP1 hD1 hS1 hl)
end AJC
theorem va_P_sub {D : va_G} {cl : List vw_C} {ws ws' : va_W} {H : Heap} (hP : va_P D cl ws H) (is : List Nat) (hs : is.map (fun i => ws[i]?) = ws'.map some) : va_P D cl ws' H := by
  refine hP.sub is ?_
  have h2 : is.filterMap (fun i => ws[i]?) = (is.map (fun i => ws[i]?)).filterMap id := by rw [List.filterMap_map]; rfl
  rw [h2, hs, List.filterMap_map]
  exact List.filterMap_some
theorem ct_blind {D : va_G} {cl : List vw_C} {tys : List (ClassId × FieldType)} {NM : List (String × Nat × MethodName × String)} {NF : List (String × Nat × String × String × String × String)} {w0 : va_W} {sz : Nat} {av : List Value} : FrameBlind (va_Pc av (ctW D cl tys NM NF w0 sz)) := fun a U g mk q => by
  obtain ⟨q0, q1, qP, qK, qD, qN⟩ := q
  exact ⟨q0, q1, qP, va_K.moved (u := U) (U := U.calling g mk a) (Vm.Alike.refl U.vm) qK, qD, nk.same (U := U.calling g mk a) rfl qN⟩
/-- what a call gives: the kit's va_Run at every heap that holds the world -/
def aj_run (p : Program) (l : Launch) (e : Env) (R : Room) (s : State) (m : MethodId) (args : Array Value) (below : List Frame) (meth : Method) (c : Code) (D : va_G) (cl : List vw_C) (A : Nat → Prop) (nL : Nat) (ws : va_W) (kc ks pc : Nat) (lv : List (Nat × Value)) (st rest : List Value) (w0 : va_W) (Qf : (Nat → Prop) → Array Value → State → Outcome → State → Prop) (av : List Value) (mc ms : Nat) : Prop :=
  ∀ (H : Heap) (locs : List Loc) (ls : Array Slot), va_P D cl ws H → va_D A ws → lv_has ls nL lv → va_Run p l e R s m args below meth c H locs kc ks mc ms (F0 m pc ls st) rest (Qf (va_A w0 H.size) av.toArray) (va_A w0 H.size)
section AJR
variable {p : Program} {l : Launch} {e : Env} {R : Room} {s : State} {m : MethodId} {args : Array Value} {below : List Frame} {meth : Method} {c : Code} {Q : State → Prop} {D : va_G} {cl : List vw_C} {tys : List (ClassId × FieldType)} {A : Nat → Prop} {cc : ByteArray} {nL : Nat} {own : String} {Ts : List Cond} {ws ws' : va_W} {kc ks pc : Nat} {lv lv' : List (Nat × Value)} {st : List Value} {NM : List (String × Nat × MethodName × String)} {NF : List (String × Nat × String × String × String × String)} {b : Nat} {As rest : List Value} {w0 wr : va_W} {Qf : (Nat → Prop) → Array Value → State → Outcome → State → Prop} {y : MethodName} {bytes : ByteArray} {maxL : Nat} {ret : Option FieldType} {fr lo mc ms index : Nat} {host : String}
theorem aj_rV (X : aj_C p s m args c D cl tys A cc nL own Ts) (N : nk NM NF s) (hg : GoodIn Ts Ts) (hM : ct l y (Cond.code y bytes maxL ret :: Ts) fr lo D cl tys NM NF (.ref b :: As) w0 Qf mc ms) (hdg : decode cc pc = .ok (.invokevirtual index, 3)) (hcode : Cond.code y bytes maxL ret ∈ Ts) (hw : ∀ w ∈ ([.methodLink own index y, .instanceMethod y, .selects y.cls y y, .initialized y.cls] : List Cond), w ∈ Ts) (hd : y.cls ≠ "java/lang/invoke/MethodHandle" ∧ y.cls ≠ "java/lang/invoke/VarHandle" ∧ (parseMethodDescriptor y.desc).map (fun d => d.parameters.length) = some As.length) (hR : fr + 1 ≤ R.frames ∧ 8 + (maxL + 11) + lo ≤ R.locals) (isC : List Nat) (hnC : va_nd isC = true) (hC : isC.map (fun i => ws[i]?) = w0.map some) {ci : Nat} {fs : List Value} {q : vw_C} (qr : Nat) (he : w0[qr]? = some (b, .inr (ci, fs))) (hc : cl[ci]? = some q) (hq : q.1 = y.cls) (hst : st = As.reverse ++ .ref b :: rest) (hW : (rest.map fun v => v.category).sum ≤ 8) (hf : kc + mc ≤ R.cells ∧ ks + ms ≤ R.slots) : aj_run p l e R s m args below meth c D cl A nL ws kc ks pc lv st rest w0 Qf (.ref b :: As) mc ms := by
  intro H locs ls hP hD hl
  subst hst
  have hPc : va_P D cl w0 H := va_P_sub hP isC hC
  have hDc : va_D A w0 := hD.sub isC hnC hC
  have hT : GoodIn Ts (wsV own index y.cls y (Cond.code y bytes maxL ret :: Ts)) := by
    intro w h
    have h2 : w ∈ Ts := by
      unfold wsV at h
      rcases List.mem_append.mp h with h | h
      · exact hw w h
      · rcases List.mem_cons.mp h with rfl | h
        · exact hcode
        · exact h
    exact hg w h2
  exact va_runV (As := As) (rest := rest) ⟨X.1, X.2.1, X.2.2.1, X.2.2.2.1, X.2.2.2.2.1⟩ (hM H.size) (cwV As.length X.2.2.2.2.1 hT rfl rfl rfl ⟨rfl, hd⟩ hR) ⟨ct_blind, hq ▸ va_recv X.2.2.2.2.2.1 hPc hc he, fun U hU hW => ⟨rfl, by rw [hU], by rw [hU]; exact hPc, va_K.moved hW.alike X.2.2.2.2.2.1, hDc.weaken (fun _ _ _ _ => trivial), N.warm hW⟩⟩ rfl rfl hl.1 rfl (lv_room hW) hdg hf
theorem aj_rVN (X : aj_C p s m args c D cl tys A cc nL own Ts) (N : nk NM NF s) (hg : GoodIn Ts Ts) (hM : ct l y (Cond.code y bytes maxL ret :: Ts) fr lo D cl tys NM NF (.ref b :: As) w0 Qf mc ms) (hdg : decode cc pc = .ok (.invokevirtual index, 3)) (hcode : Cond.code y bytes maxL ret ∈ Ts) (hnm : (own, index, y, host) ∈ NM) (hw : ∀ w ∈ ([.instanceMethod y, .selects y.cls y y, .initialized y.cls] : List Cond), w ∈ Ts) (hd : y.cls ≠ "java/lang/invoke/MethodHandle" ∧ y.cls ≠ "java/lang/invoke/VarHandle" ∧ (parseMethodDescriptor y.desc).map (fun d => d.parameters.length) = some As.length) (hR : fr + 1 ≤ R.frames ∧ 8 + (maxL + 11) + lo ≤ R.locals) (isC : List Nat) (hnC : va_nd isC = true) (hC : isC.map (fun i => ws[i]?) = w0.map some) {ci : Nat} {fs : List Value} {q : vw_C} (qr : Nat) (he : w0[qr]? = some (b, .inr (ci, fs))) (hc : cl[ci]? = some q) (hq : q.1 = y.cls) (hst : st = As.reverse ++ .ref b :: rest) (hW : (rest.map fun v => v.category).sum ≤ 8) (hf : kc + mc ≤ R.cells ∧ ks + ms ≤ R.slots) : aj_run p l e R s m args below meth c D cl A nL ws kc ks pc lv st rest w0 Qf (.ref b :: As) mc ms := by
  intro H locs ls hP hD hl
  subst hst
  have hPc : va_P D cl w0 H := va_P_sub hP isC hC
  have hDc : va_D A w0 := hD.sub isC hnC hC
  have hT : GoodIn Ts (Cond.code y bytes maxL ret :: Ts) := by
    intro w h
    have h2 : w ∈ Ts := by
      rcases List.mem_cons.mp h with rfl | h
      · exact hcode
      · exact h
    exact hg w h2
  exact va_runVN (C := y.cls) (As := As) (rest := rest) ⟨X.1, X.2.1, X.2.2.1, X.2.2.2.1, X.2.2.2.2.1⟩ (hM H.size) ⟨va_cnB As.length X.2.2.2.2.1 hT rfl rfl rfl (N.1 _ hnm) (X.2.2.2.2.1 _ (hw _ (by simp))) hd hR, X.2.2.2.2.1 _ (hw _ (by simp)), X.2.2.2.2.1 _ (hw _ (by simp))⟩ ⟨ct_blind, hq ▸ va_recv X.2.2.2.2.2.1 hPc hc he, fun U hU hW => ⟨rfl, by rw [hU], by rw [hU]; exact hPc, va_K.moved hW.alike X.2.2.2.2.2.1, hDc.weaken (fun _ _ _ _ => trivial), N.warm hW⟩⟩ rfl rfl hl.1 rfl (lv_room hW) hdg hf
theorem aj_rS (X : aj_C p s m args c D cl tys A cc nL own Ts) (N : nk NM NF s) (hg : GoodIn Ts Ts) (hM : ct l y (Cond.code y bytes maxL ret :: Ts) fr lo D cl tys NM NF As w0 Qf mc ms) (hdg : decode cc pc = .ok (.invokestatic index, 3)) (hcode : Cond.code y bytes maxL ret ∈ Ts) (hw : ∀ w ∈ ([.methodLink own index y, .static y, .initialized y.cls] : List Cond), w ∈ Ts) (hd : y.cls ≠ "java/lang/invoke/MethodHandle" ∧ y.cls ≠ "java/lang/invoke/VarHandle" ∧ (parseMethodDescriptor y.desc).map (fun d => d.parameters.length) = some As.length) (hR : fr + 1 ≤ R.frames ∧ 8 + (maxL + 11) + lo ≤ R.locals) (isC : List Nat) (hnC : va_nd isC = true) (hC : isC.map (fun i => ws[i]?) = w0.map some) (hst : st = As.reverse ++ rest) (hW : (rest.map fun v => v.category).sum ≤ 8) (hf : kc + mc ≤ R.cells ∧ ks + ms ≤ R.slots) : aj_run p l e R s m args below meth c D cl A nL ws kc ks pc lv st rest w0 Qf As mc ms := by
  intro H locs ls hP hD hl
  subst hst
  have hPc : va_P D cl w0 H := va_P_sub hP isC hC
  have hDc : va_D A w0 := hD.sub isC hnC hC
  have hT : GoodIn Ts (va_wsS own index y (Cond.code y bytes maxL ret :: Ts)) := by
    intro w h
    have h2 : w ∈ Ts := by
      unfold va_wsS at h
      rcases List.mem_append.mp h with h | h
      · exact hw w h
      · rcases List.mem_cons.mp h with rfl | h
        · exact hcode
        · exact h
    exact hg w h2
  exact va_runS (As := As) (rest := rest) ⟨X.1, X.2.1, X.2.2.1, X.2.2.2.1, X.2.2.2.2.1⟩ (hM H.size) (va_cwS As.length X.2.2.2.2.1 hT rfl rfl rfl hd hR) ⟨ct_blind, fun U hU hW => ⟨rfl, by rw [hU], by rw [hU]; exact hPc, va_K.moved hW.alike X.2.2.2.2.2.1, hDc.weaken (fun _ _ _ _ => trivial), N.warm hW⟩⟩ rfl rfl hl.1 rfl (lv_room hW) hdg hf
theorem aj_rSN (X : aj_C p s m args c D cl tys A cc nL own Ts) (N : nk NM NF s) (hg : GoodIn Ts Ts) (hM : ct l y (Cond.code y bytes maxL ret :: Ts) fr lo D cl tys NM NF As w0 Qf mc ms) (hdg : decode cc pc = .ok (.invokestatic index, 3)) (hcode : Cond.code y bytes maxL ret ∈ Ts) (hnm : (own, index, y, host) ∈ NM) (hw : ∀ w ∈ ([.static y, .initialized y.cls] : List Cond), w ∈ Ts) (hd : y.cls ≠ "java/lang/invoke/MethodHandle" ∧ y.cls ≠ "java/lang/invoke/VarHandle" ∧ (parseMethodDescriptor y.desc).map (fun d => d.parameters.length) = some As.length) (hR : fr + 1 ≤ R.frames ∧ 8 + (maxL + 11) + lo ≤ R.locals) (isC : List Nat) (hnC : va_nd isC = true) (hC : isC.map (fun i => ws[i]?) = w0.map some) (hst : st = As.reverse ++ rest) (hW : (rest.map fun v => v.category).sum ≤ 8) (hf : kc + mc ≤ R.cells ∧ ks + ms ≤ R.slots) : aj_run p l e R s m args below meth c D cl A nL ws kc ks pc lv st rest w0 Qf As mc ms := by
  intro H locs ls hP hD hl
  subst hst
  have hPc : va_P D cl w0 H := va_P_sub hP isC hC
  have hDc : va_D A w0 := hD.sub isC hnC hC
  have hT : GoodIn Ts (Cond.code y bytes maxL ret :: Ts) := by
    intro w h
    have h2 : w ∈ Ts := by
      rcases List.mem_cons.mp h with rfl | h
      · exact hcode
      · exact h
    exact hg w h2
  exact va_runSN (As := As) (rest := rest) ⟨X.1, X.2.1, X.2.2.1, X.2.2.2.1, X.2.2.2.2.1⟩ (hM H.size) ⟨va_cnB As.length X.2.2.2.2.1 hT rfl rfl rfl (N.1 _ hnm) (X.2.2.2.2.1 _ (hw _ (by simp))) hd hR, X.2.2.2.2.1 _ (hw _ (by simp)), trivial⟩ ⟨ct_blind, fun U hU hW => ⟨rfl, by rw [hU], by rw [hU]; exact hPc, va_K.moved hW.alike X.2.2.2.2.2.1, hDc.weaken (fun _ _ _ _ => trivial), N.warm hW⟩⟩ rfl rfl hl.1 rfl (lv_room hW) hdg hf
theorem aj_rI (X : aj_C p s m args c D cl tys A cc nL own Ts) (N : nk NM NF s) (hg : GoodIn Ts Ts) (hM : ct l y (Cond.code y bytes maxL none :: Ts) fr lo D cl tys NM NF (.ref b :: As) w0 Qf mc ms) (hdg : decode cc pc = .ok (.invokespecial index, 3)) (hcode : Cond.code y bytes maxL none ∈ Ts) (hw : ∀ w ∈ ([.methodLink own index y, .instanceMethod y, .initialized y.cls] : List Cond), w ∈ Ts) (hy1 : y.name = "<init>") (hd : y.cls ≠ "java/lang/invoke/MethodHandle" ∧ y.cls ≠ "java/lang/invoke/VarHandle" ∧ (parseMethodDescriptor y.desc).map (fun d => d.parameters.length) = some As.length) (hR : fr + 1 ≤ R.frames ∧ 8 + (maxL + 11) + lo ≤ R.locals) (isC : List Nat) (hnC : va_nd isC = true) (hC : isC.map (fun i => ws[i]?) = w0.map some) (hst : st = As.reverse ++ .ref b :: rest) (hW : (rest.map fun v => v.category).sum ≤ 8) (hf : kc + mc ≤ R.cells ∧ ks + ms ≤ R.slots) : aj_run p l e R s m args below meth c D cl A nL ws kc ks pc lv st rest w0 Qf (.ref b :: As) mc ms := by
  intro H locs ls hP hD hl
  subst hst
  have hPc : va_P D cl w0 H := va_P_sub hP isC hC
  have hDc : va_D A w0 := hD.sub isC hnC hC
  have hT : GoodIn Ts (Cond.code y bytes maxL none :: Ts) := by
    intro w h
    have h2 : w ∈ Ts := by
      rcases List.mem_cons.mp h with rfl | h
      · exact hcode
      · exact h
    exact hg w h2
  exact va_runI (As := As) (rest := rest) ⟨X.1, X.2.1, X.2.2.1, X.2.2.2.1, X.2.2.2.2.1⟩ (hM H.size) (cwI As.length X.2.2.2.2.1 hT rfl rfl rfl (X.2.2.2.2.1 _ (hw _ (by simp))) (X.2.2.2.2.1 _ (hw _ (by simp))) (X.2.2.2.2.1 _ (hw _ (by simp))) hy1 hd hR) ⟨ct_blind, fun U hU hW => ⟨rfl, by rw [hU], by rw [hU]; exact hPc, va_K.moved hW.alike X.2.2.2.2.2.1, hDc.weaken (fun _ _ _ _ => trivial), N.warm hW⟩⟩ rfl rfl hl.1 rfl (lv_room hW) hdg hf
theorem aj_callI (X : aj_C p s m args c D cl tys A cc nL own Ts) {O : Int32 → va_W → Prop} {av : List Value} (hrun : aj_run p l e R s m args below meth c D cl A nL ws kc ks pc lv st rest w0 (qI D cl tys O) av mc ms) (isC isR : List Nat) (hC : isC.map (fun i => ws[i]?) = w0.map some) (hR : isR.map (fun i => ws[i]?) = wr.map some) (hn : va_nd isR = true) (hdis : ∀ i ∈ isR, i ∉ isC)
    (k : ∀ (r : Int32) (w1 : va_W), O r w1 → aj p l e R s m args below meth c Q D cl A nL (wr ++ w1) (kc + mc) (ks + ms) (pc + 3) lv (.int r :: rest)) : aj p l e R s m args below meth c Q D cl A nL ws kc ks pc lv st := by
  intro H locs ls hP hD hS hl
  have hFc := va_free (wc := w0) hD hS X.2.2.2.2.2.2 isC hC
  refine va_calli (hrun H locs ls hP hD hl) hS (fun q _ h => hFc q h) hFc (fun r u t H1 locs1 ht hvm hw hB hz1 hk1 hS1 => ?_)
  obtain ⟨hP1, hK1, hD1⟩ := hB
  rw [ht] at hP1
  obtain ⟨hP2, hD2⟩ := va_join (wr := wr) (w1 := u) hP hD isC isR hC hR hn hdis hk1 hFc hP1 hD1
  exact k r u hw H1 locs1 ls hP2 hD2 hS1 hl
theorem aj_callL (X : aj_C p s m args c D cl tys A cc nL own Ts) {O : Int64 → va_W → Prop} {av : List Value} (hrun : aj_run p l e R s m args below meth c D cl A nL ws kc ks pc lv st rest w0 (qL D cl tys O) av mc ms) (isC isR : List Nat) (hC : isC.map (fun i => ws[i]?) = w0.map some) (hR : isR.map (fun i => ws[i]?) = wr.map some) (hn : va_nd isR = true) (hdis : ∀ i ∈ isR, i ∉ isC)
    (k : ∀ (r : Int64) (w1 : va_W), O r w1 → aj p l e R s m args below meth c Q D cl A nL (wr ++ w1) (kc + mc) (ks + ms) (pc + 3) lv (.long r :: rest)) : aj p l e R s m args below meth c Q D cl A nL ws kc ks pc lv st := by
  intro H locs ls hP hD hS hl
  have hFc := va_free (wc := w0) hD hS X.2.2.2.2.2.2 isC hC
  refine va_calll (hrun H locs ls hP hD hl) hS (fun q _ h => hFc q h) hFc (fun r u t H1 locs1 ht hvm hw hB hz1 hk1 hS1 => ?_)
  obtain ⟨hP1, hK1, hD1⟩ := hB
  rw [ht] at hP1
  obtain ⟨hP2, hD2⟩ := va_join (wr := wr) (w1 := u) hP hD isC isR hC hR hn hdis hk1 hFc hP1 hD1
  exact k r u hw H1 locs1 ls hP2 hD2 hS1 hl
theorem aj_callV (X : aj_C p s m args c D cl tys A cc nL own Ts) {O : va_W → Prop} {av : List Value} (hrun : aj_run p l e R s m args below meth c D cl A nL ws kc ks pc lv st rest w0 (qV D cl tys O) av mc ms) (isC isR : List Nat) (hC : isC.map (fun i => ws[i]?) = w0.map some) (hR : isR.map (fun i => ws[i]?) = wr.map some) (hn : va_nd isR = true) (hdis : ∀ i ∈ isR, i ∉ isC)
    (k : ∀ (w1 : va_W), O w1 → aj p l e R s m args below meth c Q D cl A nL (wr ++ w1) (kc + mc) (ks + ms) (pc + 3) lv (rest)) : aj p l e R s m args below meth c Q D cl A nL ws kc ks pc lv st := by
  intro H locs ls hP hD hS hl
  have hFc := va_free (wc := w0) hD hS X.2.2.2.2.2.2 isC hC
  refine va_callv (hrun H locs ls hP hD hl) hS (fun q _ h => hFc q h) hFc (fun  u t H1 locs1 ht hvm hw hB hz1 hk1 hS1 => ?_)
  obtain ⟨hP1, hK1, hD1⟩ := hB
  rw [ht] at hP1
  obtain ⟨hP2, hD2⟩ := va_join (wr := wr) (w1 := u) hP hD isC isR hC hR hn hdis hk1 hFc hP1 hD1
  exact k u hw H1 locs1 ls hP2 hD2 hS1 hl
theorem aj_callR (X : aj_C p s m args c D cl tys A cc nL own Ts) {O : Nat → va_W → Prop} {av : List Value} (hrun : aj_run p l e R s m args below meth c D cl A nL ws kc ks pc lv st rest w0 (qR D cl tys O) av mc ms) (isC isR : List Nat) (hC : isC.map (fun i => ws[i]?) = w0.map some) (hR : isR.map (fun i => ws[i]?) = wr.map some) (hn : va_nd isR = true) (hdis : ∀ i ∈ isR, i ∉ isC)
    (k : ∀ (r : Nat) (w1 : va_W), O r w1 → aj p l e R s m args below meth c Q D cl A nL (wr ++ w1) (kc + mc) (ks + ms) (pc + 3) lv (.ref r :: rest)) : aj p l e R s m args below meth c Q D cl A nL ws kc ks pc lv st := by
  intro H locs ls hP hD hS hl
  have hFc := va_free (wc := w0) hD hS X.2.2.2.2.2.2 isC hC
  refine va_callr (hrun H locs ls hP hD hl) hS (fun q _ h => hFc q h) hFc (fun u r t H1 locs1 ht hvm _ hB hz1 hk1 hS1 => ?_)
  obtain ⟨hw, hP1, hK1, hD1⟩ := hB
  rw [ht] at hP1
  obtain ⟨hP2, hD2⟩ := va_join (wr := wr) (w1 := u) hP hD isC isR hC hR hn hdis hk1 hFc hP1 hD1
  exact k r u hw H1 locs1 ls hP2 hD2 hS1 hl
end AJR
