abbrev X_Mod_learns (p : Program) (s : State) (m : MethodId) (args : Array Value) (c : Code) (D : va_G) (cI cL cZ : ClassId) (A : Nat → Prop) : Prop := aj_C p s m args c D clss (ty3 cI cL cZ) A b_Mod_learns 6 R_Mod TB
abbrev J_Mod_learns (p : Program) (l : Launch) (e : Env) (s : State) (m : MethodId) (args : Array Value) (below : List Frame) (meth : Method) (c : Code) (D : va_G) (cI cL cZ : ClassId) (A : Nat → Prop) (O : Int32 → va_W → Prop) (mc ms : Nat) (ws : va_W) (kc ks pc : Nat) (lv : List (Nat × Value)) (st : List Value) : Prop := aj p l e { frames := 1, cells := mc, slots := ms, locals := 24 } s m args below meth c (MQ below (qI D clss (ty3 cI cL cZ) O A) args s mc ms A) D clss A 6 ws kc ks pc lv st
def O_Mod_learns (cI cL cZ : ClassId) (o_Mod a_Mod_0 a_Mod_1 a_Mod_2 a_Mod_3 a_Mod_4 a_Mod_5 a_Mod_6 a_Mod_7 a_Mod_8 a_Mod_9 a_Mod_10 a_Mod_11 a_Mod_12 a_Mod_13 a_Mod_14 : Nat) (out : T_Mod × Int32) : Int32 → va_W → Prop := fun r w1 => out.2 = r ∧ w1 = w_Mod cI cL cZ o_Mod a_Mod_0 a_Mod_1 a_Mod_2 a_Mod_3 a_Mod_4 a_Mod_5 a_Mod_6 a_Mod_7 a_Mod_8 a_Mod_9 a_Mod_10 a_Mod_11 a_Mod_12 a_Mod_13 a_Mod_14 out.1
def m_Mod_learns_B219 (again192 : T_Mod → Int32 → Int32 → Int32 → Option (T_Mod × Int32)) (v_Mod : T_Mod) (x3 : Int32) (x4 : Int32) (x5 : Int32) : Option (T_Mod × Int32) := (again192 v_Mod x3 x4 (x5 + 1))
set_option maxRecDepth 100000 in
set_option maxHeartbeats 4000000 in
theorem c_Mod_learns_B219 {l : Launch} {D : va_G} {cI cL cZ : ClassId} {p : Program} {e : Env} {s : State} {m : MethodId} {args : Array Value} {below : List Frame} {meth : Method} {c : Code} {A : Nat → Prop} (o_Mod a_Mod_0 a_Mod_1 a_Mod_2 a_Mod_3 a_Mod_4 a_Mod_5 a_Mod_6 a_Mod_7 a_Mod_8 a_Mod_9 a_Mod_10 a_Mod_11 a_Mod_12 a_Mod_13 a_Mod_14 : Nat) (out : T_Mod × Int32) (X : X_Mod_learns p s m args c D cI cL cZ A) (N : nk NM0 NF0 s) (hr : meth.sig.returnType = some .boolean) (hlk : meth.locks = false) (again192 : T_Mod → Int32 → Int32 → Int32 → Option (T_Mod × Int32)) (ih192 : ∀ (v_Mod : T_Mod) (x3 : Int32) (x4 : Int32) (x5 : Int32), again192 v_Mod x3 x4 x5 = some out → J_Mod_learns p l e s m args below meth c D cI cL cZ A (O_Mod_learns cI cL cZ o_Mod a_Mod_0 a_Mod_1 a_Mod_2 a_Mod_3 a_Mod_4 a_Mod_5 a_Mod_6 a_Mod_7 a_Mod_8 a_Mod_9 a_Mod_10 a_Mod_11 a_Mod_12 a_Mod_13 a_Mod_14 out) 0 0 (w_Mod cI cL cZ o_Mod a_Mod_0 a_Mod_1 a_Mod_2 a_Mod_3 a_Mod_4 a_Mod_5 a_Mod_6 a_Mod_7 a_Mod_8 a_Mod_9 a_Mod_10 a_Mod_11 a_Mod_12 a_Mod_13 a_Mod_14 v_Mod) 0 0 192 [(0, .ref o_Mod), (3, .int x3), (4, .int x4), (5, .int x5)] []) : ∀ (v_Mod : T_Mod) (x3 : Int32) (x4 : Int32) (x5 : Int32), m_Mod_learns_B219 again192 v_Mod x3 x4 x5 = some out → J_Mod_learns p l e s m args below meth c D cI cL cZ A (O_Mod_learns cI cL cZ o_Mod a_Mod_0 a_Mod_1 a_Mod_2 a_Mod_3 a_Mod_4 a_Mod_5 a_Mod_6 a_Mod_7 a_Mod_8 a_Mod_9 a_Mod_10 a_Mod_11 a_Mod_12 a_Mod_13 a_Mod_14 out) 0 0 (w_Mod cI cL cZ o_Mod a_Mod_0 a_Mod_1 a_Mod_2 a_Mod_3 a_Mod_4 a_Mod_5 a_Mod_6 a_Mod_7 a_Mod_8 a_Mod_9 a_Mod_10 a_Mod_11 a_Mod_12 a_Mod_13 a_Mod_14 v_Mod) 0 0 219 [(0, .ref o_Mod), (3, .int x3), (4, .int x4), (5, .int x5)] [] := by
  intro v_Mod x3 x4 x5 hm
  unfold m_Mod_learns_B219 at hm
  refine aj_iinc (v := (x5 + 1)) (lv' := [(5, .int (x5 + 1)), (0, .ref o_Mod), (3, .int x3), (4, .int x4)]) X d_Mod_learns_219 3 rfl rfl (by decide) rfl ?_
  refine aj_goto X 192 d_Mod_learns_222 (by decide) ?_
  refine aj_lv (lv' := [(0, .ref o_Mod), (3, .int x3), (4, .int x4), (5, .int (x5 + 1))]) [1, 2, 3, 0] rfl ?_
  exact ih192 v_Mod x3 x4 (x5 + 1) hm
def m_Mod_learns_L192 : Nat → T_Mod → Int32 → Int32 → Int32 → Option (T_Mod × Int32)
  | 0, _, _, _, _ => none
  | f + 1, v_Mod, x3, x4, x5 => (if ((2 : Int32) * v_Mod.2.1) ≤ x5 then (if ¬ (v_Mod.2.2.2.2.2.2.1 < 0 ∨ v_Mod.2.2.2.2.2.2.2.1.1 ≤ (v_Mod.2.2.2.2.2.2.1).toNatClampNeg) then ((m_Mod_cut (v_Mod.1, v_Mod.2.1, v_Mod.2.2.1, v_Mod.2.2.2.1, v_Mod.2.2.2.2.1, v_Mod.2.2.2.2.2.1, (v_Mod.2.2.2.2.2.2.1 + (1 : Int32)), (v_Mod.2.2.2.2.2.2.2.1.1, (upd v_Mod.2.2.2.2.2.2.2.1.2 (v_Mod.2.2.2.2.2.2.1).toNatClampNeg (v_Mod.2.2.2.2.2.1 - (1 : Int32)))), v_Mod.2.2.2.2.2.2.2.2.1, v_Mod.2.2.2.2.2.2.2.2.2.1, v_Mod.2.2.2.2.2.2.2.2.2.2.1, v_Mod.2.2.2.2.2.2.2.2.2.2.2.1, v_Mod.2.2.2.2.2.2.2.2.2.2.2.2.1, v_Mod.2.2.2.2.2.2.2.2.2.2.2.2.2.1, v_Mod.2.2.2.2.2.2.2.2.2.2.2.2.2.2.1, v_Mod.2.2.2.2.2.2.2.2.2.2.2.2.2.2.2.1, v_Mod.2.2.2.2.2.2.2.2.2.2.2.2.2.2.2.2.1, v_Mod.2.2.2.2.2.2.2.2.2.2.2.2.2.2.2.2.2.1, v_Mod.2.2.2.2.2.2.2.2.2.2.2.2.2.2.2.2.2.2.1, v_Mod.2.2.2.2.2.2.2.2.2.2.2.2.2.2.2.2.2.2.2.1, v_Mod.2.2.2.2.2.2.2.2.2.2.2.2.2.2.2.2.2.2.2.2.1, v_Mod.2.2.2.2.2.2.2.2.2.2.2.2.2.2.2.2.2.2.2.2.2.1, v_Mod.2.2.2.2.2.2.2.2.2.2.2.2.2.2.2.2.2.2.2.2.2.2.1, v_Mod.2.2.2.2.2.2.2.2.2.2.2.2.2.2.2.2.2.2.2.2.2.2.2.1, v_Mod.2.2.2.2.2.2.2.2.2.2.2.2.2.2.2.2.2.2.2.2.2.2.2.2.1, v_Mod.2.2.2.2.2.2.2.2.2.2.2.2.2.2.2.2.2.2.2.2.2.2.2.2.2.1, v_Mod.2.2.2.2.2.2.2.2.2.2.2.2.2.2.2.2.2.2.2.2.2.2.2.2.2.2) x4).bind fun r22 => ((m_Mod_comes r22 x3 r22.2.2.2.2.2.2.2.2.2.2.2.2.2.2.2.2.2.2.2.2.2.2.1 (r22.2.2.2.2.2.1 - (1 : Int32))).bind fun r24 => (some (r24, (1 : Int32))))) else none) else (if ¬ (x5 < 0 ∨ v_Mod.2.2.2.2.2.2.2.2.2.2.2.2.2.2.2.2.2.2.2.2.2.2.2.2.2.2.1 ≤ (x5).toNatClampNeg) then (if (v_Mod.2.2.2.2.2.2.2.2.2.2.2.2.2.2.2.2.2.2.2.2.2.2.2.2.2.2.2 (x5).toNatClampNeg) = 0 then (m_Mod_learns_B219 (m_Mod_learns_L192 f) v_Mod x3 x4 x5) else ((m_Mod_put v_Mod x5).bind fun r27 => (m_Mod_learns_B219 (m_Mod_learns_L192 f) r27 x3 x4 x5))) else none))
set_option maxRecDepth 100000 in
set_option maxHeartbeats 4000000 in
theorem c_Mod_learns_L192 {l : Launch} {D : va_G} {cI cL cZ : ClassId} {p : Program} {e : Env} {s : State} {m : MethodId} {args : Array Value} {below : List Frame} {meth : Method} {c : Code} {A : Nat → Prop} (o_Mod a_Mod_0 a_Mod_1 a_Mod_2 a_Mod_3 a_Mod_4 a_Mod_5 a_Mod_6 a_Mod_7 a_Mod_8 a_Mod_9 a_Mod_10 a_Mod_11 a_Mod_12 a_Mod_13 a_Mod_14 : Nat) (out : T_Mod × Int32) (X : X_Mod_learns p s m args c D cI cL cZ A) (N : nk NM0 NF0 s) (hr : meth.sig.returnType = some .boolean) (hlk : meth.locks = false) : ∀ (nn : Nat), ∀ (v_Mod : T_Mod) (x3 : Int32) (x4 : Int32) (x5 : Int32), m_Mod_learns_L192 nn v_Mod x3 x4 x5 = some out → J_Mod_learns p l e s m args below meth c D cI cL cZ A (O_Mod_learns cI cL cZ o_Mod a_Mod_0 a_Mod_1 a_Mod_2 a_Mod_3 a_Mod_4 a_Mod_5 a_Mod_6 a_Mod_7 a_Mod_8 a_Mod_9 a_Mod_10 a_Mod_11 a_Mod_12 a_Mod_13 a_Mod_14 out) 0 0 (w_Mod cI cL cZ o_Mod a_Mod_0 a_Mod_1 a_Mod_2 a_Mod_3 a_Mod_4 a_Mod_5 a_Mod_6 a_Mod_7 a_Mod_8 a_Mod_9 a_Mod_10 a_Mod_11 a_Mod_12 a_Mod_13 a_Mod_14 v_Mod) 0 0 192 [(0, .ref o_Mod), (3, .int x3), (4, .int x4), (5, .int x5)] [] := by
  intro nn
  induction nn with
  | zero => intro v_Mod x3 x4 x5 hm; exact absurd hm (by simp [m_Mod_learns_L192])
  | succ nn ih192 =>
    intro v_Mod x3 x4 x5 hm
    unfold m_Mod_learns_L192 at hm
    refine aj_iload X d_Mod_learns_192 3 rfl ?_
    refine aj_iconst (v := (2 : Int32)) X d_Mod_learns_194 (by decide) ?_
    refine aj_aload_n X d_Mod_learns_195 0 rfl ?_
    refine aj_get X d_Mod_learns_196 in_Mod 0 rfl rfl 1 (by decide) lf_Mod_13 rfl ?_
    refine aj_imul X d_Mod_learns_199 ?_
    refine aj_icmp_ge X 225 d_Mod_learns_200 (by decide) (fun h => ?_) (fun h => ?_)
    · have hm := ite_t hm h
      refine aj_aload_n X d_Mod_learns_225 0 rfl ?_
      refine aj_get X d_Mod_learns_226 in_Mod 0 rfl rfl 7 (by decide) lf_Mod_33 rfl ?_
      refine aj_aload_n X d_Mod_learns_229 0 rfl ?_
      refine aj_get X d_Mod_learns_230 in_Mod 0 rfl rfl 6 (by decide) lf_Mod_30 rfl ?_
      refine aj_aload_n X d_Mod_learns_233 0 rfl ?_
      refine aj_get X d_Mod_learns_234 in_Mod 0 rfl rfl 5 (by decide) lf_Mod_27 rfl ?_
      refine aj_iconst (v := (1 : Int32)) X d_Mod_learns_237 (by decide) ?_
      refine aj_isub X d_Mod_learns_238 ?_
      obtain ⟨b21, hm⟩ := chk_of hm
      refine aj_iast (ws' := w_Mod cI cL cZ o_Mod a_Mod_0 a_Mod_1 a_Mod_2 a_Mod_3 a_Mod_4 a_Mod_5 a_Mod_6 a_Mod_7 a_Mod_8 a_Mod_9 a_Mod_10 a_Mod_11 a_Mod_12 a_Mod_13 a_Mod_14 (v_Mod.1, v_Mod.2.1, v_Mod.2.2.1, v_Mod.2.2.2.1, v_Mod.2.2.2.2.1, v_Mod.2.2.2.2.2.1, v_Mod.2.2.2.2.2.2.1, (v_Mod.2.2.2.2.2.2.2.1.1, (upd v_Mod.2.2.2.2.2.2.2.1.2 (v_Mod.2.2.2.2.2.2.1).toNatClampNeg (v_Mod.2.2.2.2.2.1 - (1 : Int32)))), v_Mod.2.2.2.2.2.2.2.2.1, v_Mod.2.2.2.2.2.2.2.2.2.1, v_Mod.2.2.2.2.2.2.2.2.2.2.1, v_Mod.2.2.2.2.2.2.2.2.2.2.2.1, v_Mod.2.2.2.2.2.2.2.2.2.2.2.2.1, v_Mod.2.2.2.2.2.2.2.2.2.2.2.2.2.1, v_Mod.2.2.2.2.2.2.2.2.2.2.2.2.2.2.1, v_Mod.2.2.2.2.2.2.2.2.2.2.2.2.2.2.2.1, v_Mod.2.2.2.2.2.2.2.2.2.2.2.2.2.2.2.2.1, v_Mod.2.2.2.2.2.2.2.2.2.2.2.2.2.2.2.2.2.1, v_Mod.2.2.2.2.2.2.2.2.2.2.2.2.2.2.2.2.2.2.1, v_Mod.2.2.2.2.2.2.2.2.2.2.2.2.2.2.2.2.2.2.2.1, v_Mod.2.2.2.2.2.2.2.2.2.2.2.2.2.2.2.2.2.2.2.2.1, v_Mod.2.2.2.2.2.2.2.2.2.2.2.2.2.2.2.2.2.2.2.2.2.1, v_Mod.2.2.2.2.2.2.2.2.2.2.2.2.2.2.2.2.2.2.2.2.2.2.1, v_Mod.2.2.2.2.2.2.2.2.2.2.2.2.2.2.2.2.2.2.2.2.2.2.2.1, v_Mod.2.2.2.2.2.2.2.2.2.2.2.2.2.2.2.2.2.2.2.2.2.2.2.2.1, v_Mod.2.2.2.2.2.2.2.2.2.2.2.2.2.2.2.2.2.2.2.2.2.2.2.2.2.1, v_Mod.2.2.2.2.2.2.2.2.2.2.2.2.2.2.2.2.2.2.2.2.2.2.2.2.2.2)) X d_Mod_learns_239 4 0 rfl rfl b21 rfl ?_
      refine aj_aload_n X d_Mod_learns_240 0 rfl ?_
      refine aj_dup X d_Mod_learns_241 rfl ?_
      refine aj_get X d_Mod_learns_242 in_Mod 0 rfl rfl 6 (by decide) lf_Mod_30 rfl ?_
      refine aj_iconst (v := (1 : Int32)) X d_Mod_learns_245 (by decide) ?_
      refine aj_iadd X d_Mod_learns_246 ?_
      refine aj_put (ws' := w_Mod cI cL cZ o_Mod a_Mod_0 a_Mod_1 a_Mod_2 a_Mod_3 a_Mod_4 a_Mod_5 a_Mod_6 a_Mod_7 a_Mod_8 a_Mod_9 a_Mod_10 a_Mod_11 a_Mod_12 a_Mod_13 a_Mod_14 (v_Mod.1, v_Mod.2.1, v_Mod.2.2.1, v_Mod.2.2.2.1, v_Mod.2.2.2.2.1, v_Mod.2.2.2.2.2.1, (v_Mod.2.2.2.2.2.2.1 + (1 : Int32)), (v_Mod.2.2.2.2.2.2.2.1.1, (upd v_Mod.2.2.2.2.2.2.2.1.2 (v_Mod.2.2.2.2.2.2.1).toNatClampNeg (v_Mod.2.2.2.2.2.1 - (1 : Int32)))), v_Mod.2.2.2.2.2.2.2.2.1, v_Mod.2.2.2.2.2.2.2.2.2.1, v_Mod.2.2.2.2.2.2.2.2.2.2.1, v_Mod.2.2.2.2.2.2.2.2.2.2.2.1, v_Mod.2.2.2.2.2.2.2.2.2.2.2.2.1, v_Mod.2.2.2.2.2.2.2.2.2.2.2.2.2.1, v_Mod.2.2.2.2.2.2.2.2.2.2.2.2.2.2.1, v_Mod.2.2.2.2.2.2.2.2.2.2.2.2.2.2.2.1, v_Mod.2.2.2.2.2.2.2.2.2.2.2.2.2.2.2.2.1, v_Mod.2.2.2.2.2.2.2.2.2.2.2.2.2.2.2.2.2.1, v_Mod.2.2.2.2.2.2.2.2.2.2.2.2.2.2.2.2.2.2.1, v_Mod.2.2.2.2.2.2.2.2.2.2.2.2.2.2.2.2.2.2.2.1, v_Mod.2.2.2.2.2.2.2.2.2.2.2.2.2.2.2.2.2.2.2.2.1, v_Mod.2.2.2.2.2.2.2.2.2.2.2.2.2.2.2.2.2.2.2.2.2.1, v_Mod.2.2.2.2.2.2.2.2.2.2.2.2.2.2.2.2.2.2.2.2.2.2.1, v_Mod.2.2.2.2.2.2.2.2.2.2.2.2.2.2.2.2.2.2.2.2.2.2.2.1, v_Mod.2.2.2.2.2.2.2.2.2.2.2.2.2.2.2.2.2.2.2.2.2.2.2.2.1, v_Mod.2.2.2.2.2.2.2.2.2.2.2.2.2.2.2.2.2.2.2.2.2.2.2.2.2.1, v_Mod.2.2.2.2.2.2.2.2.2.2.2.2.2.2.2.2.2.2.2.2.2.2.2.2.2.2)) X d_Mod_learns_247 in_Mod ty_Mod tyok_Mod nmx_Mod 0 rfl rfl 6 (by decide) lf_Mod_30 rfl rfl rfl (Nat.le_of_ble_eq_true rfl) rfl ?_
      refine aj_aload_n X d_Mod_learns_250 0 rfl ?_
      refine aj_iload X d_Mod_learns_251 2 rfl ?_
      obtain ⟨r22, h23, hm⟩ := bnd_of hm
      refine aj_callV (wr := []) X (aj_rV (As := [.int x4]) (rest := []) X N gTB (c_Mod_cut (D := D) (cI := cI) (cL := cL) (cZ := cZ) o_Mod a_Mod_0 a_Mod_1 a_Mod_2 a_Mod_3 a_Mod_4 a_Mod_5 a_Mod_6 a_Mod_7 a_Mod_8 a_Mod_9 a_Mod_10 a_Mod_11 a_Mod_12 a_Mod_13 a_Mod_14 (v_Mod.1, v_Mod.2.1, v_Mod.2.2.1, v_Mod.2.2.2.1, v_Mod.2.2.2.2.1, v_Mod.2.2.2.2.2.1, (v_Mod.2.2.2.2.2.2.1 + (1 : Int32)), (v_Mod.2.2.2.2.2.2.2.1.1, (upd v_Mod.2.2.2.2.2.2.2.1.2 (v_Mod.2.2.2.2.2.2.1).toNatClampNeg (v_Mod.2.2.2.2.2.1 - (1 : Int32)))), v_Mod.2.2.2.2.2.2.2.2.1, v_Mod.2.2.2.2.2.2.2.2.2.1, v_Mod.2.2.2.2.2.2.2.2.2.2.1, v_Mod.2.2.2.2.2.2.2.2.2.2.2.1, v_Mod.2.2.2.2.2.2.2.2.2.2.2.2.1, v_Mod.2.2.2.2.2.2.2.2.2.2.2.2.2.1, v_Mod.2.2.2.2.2.2.2.2.2.2.2.2.2.2.1, v_Mod.2.2.2.2.2.2.2.2.2.2.2.2.2.2.2.1, v_Mod.2.2.2.2.2.2.2.2.2.2.2.2.2.2.2.2.1, v_Mod.2.2.2.2.2.2.2.2.2.2.2.2.2.2.2.2.2.1, v_Mod.2.2.2.2.2.2.2.2.2.2.2.2.2.2.2.2.2.2.1, v_Mod.2.2.2.2.2.2.2.2.2.2.2.2.2.2.2.2.2.2.2.1, v_Mod.2.2.2.2.2.2.2.2.2.2.2.2.2.2.2.2.2.2.2.2.1, v_Mod.2.2.2.2.2.2.2.2.2.2.2.2.2.2.2.2.2.2.2.2.2.1, v_Mod.2.2.2.2.2.2.2.2.2.2.2.2.2.2.2.2.2.2.2.2.2.2.1, v_Mod.2.2.2.2.2.2.2.2.2.2.2.2.2.2.2.2.2.2.2.2.2.2.2.1, v_Mod.2.2.2.2.2.2.2.2.2.2.2.2.2.2.2.2.2.2.2.2.2.2.2.2.1, v_Mod.2.2.2.2.2.2.2.2.2.2.2.2.2.2.2.2.2.2.2.2.2.2.2.2.2.1, v_Mod.2.2.2.2.2.2.2.2.2.2.2.2.2.2.2.2.2.2.2.2.2.2.2.2.2.2) x4 r22 h23) d_Mod_learns_253 lk_Mod_cut lw_Mod_125 lh_Mod_cut ⟨(Nat.le_of_ble_eq_true rfl), (Nat.le_of_ble_eq_true rfl)⟩ [0, 1, 2, 3, 4, 5, 6, 7, 8, 9, 10, 11, 12, 13, 14, 15] rfl rfl 0 rfl rfl rfl rfl (Nat.le_of_ble_eq_true rfl) ⟨Nat.le_refl _, Nat.le_refl _⟩) [0, 1, 2, 3, 4, 5, 6, 7, 8, 9, 10, 11, 12, 13, 14, 15] [] rfl rfl rfl (by decide) (fun w1 hO => ?_)
      obtain rfl := hO
      refine aj_perm (ws' := w_Mod cI cL cZ o_Mod a_Mod_0 a_Mod_1 a_Mod_2 a_Mod_3 a_Mod_4 a_Mod_5 a_Mod_6 a_Mod_7 a_Mod_8 a_Mod_9 a_Mod_10 a_Mod_11 a_Mod_12 a_Mod_13 a_Mod_14 r22) [0, 1, 2, 3, 4, 5, 6, 7, 8, 9, 10, 11, 12, 13, 14, 15] rfl rfl ?_
      refine aj_aload_n X d_Mod_learns_256 0 rfl ?_
      refine aj_iload_n X d_Mod_learns_257 1 rfl ?_
      refine aj_aload_n X d_Mod_learns_258 0 rfl ?_
      refine aj_get X d_Mod_learns_259 in_Mod 0 rfl rfl 22 (by decide) lf_Mod_79 rfl ?_
      refine aj_aload_n X d_Mod_learns_262 0 rfl ?_
      refine aj_get X d_Mod_learns_263 in_Mod 0 rfl rfl 5 (by decide) lf_Mod_27 rfl ?_
      refine aj_iconst (v := (1 : Int32)) X d_Mod_learns_266 (by decide) ?_
      refine aj_isub X d_Mod_learns_267 ?_
      obtain ⟨r24, h25, hm⟩ := bnd_of hm
      refine aj_callV (wr := []) X (aj_rV (As := [.int x3, .int r22.2.2.2.2.2.2.2.2.2.2.2.2.2.2.2.2.2.2.2.2.2.2.1, .int (r22.2.2.2.2.2.1 - (1 : Int32))]) (rest := []) X N gTB (c_Mod_comes (D := D) (cI := cI) (cL := cL) (cZ := cZ) o_Mod a_Mod_0 a_Mod_1 a_Mod_2 a_Mod_3 a_Mod_4 a_Mod_5 a_Mod_6 a_Mod_7 a_Mod_8 a_Mod_9 a_Mod_10 a_Mod_11 a_Mod_12 a_Mod_13 a_Mod_14 r22 x3 r22.2.2.2.2.2.2.2.2.2.2.2.2.2.2.2.2.2.2.2.2.2.2.1 (r22.2.2.2.2.2.1 - (1 : Int32)) r24 h25) d_Mod_learns_268 lk_Mod_comes lw_Mod_128 lh_Mod_comes ⟨(Nat.le_of_ble_eq_true rfl), (Nat.le_of_ble_eq_true rfl)⟩ [0, 1, 2, 3, 4, 5, 6, 7, 8, 9, 10, 11, 12, 13, 14, 15] rfl rfl 0 rfl rfl rfl rfl (Nat.le_of_ble_eq_true rfl) ⟨Nat.le_refl _, Nat.le_refl _⟩) [0, 1, 2, 3, 4, 5, 6, 7, 8, 9, 10, 11, 12, 13, 14, 15] [] rfl rfl rfl (by decide) (fun w1 hO => ?_)
      obtain rfl := hO
      refine aj_perm (ws' := w_Mod cI cL cZ o_Mod a_Mod_0 a_Mod_1 a_Mod_2 a_Mod_3 a_Mod_4 a_Mod_5 a_Mod_6 a_Mod_7 a_Mod_8 a_Mod_9 a_Mod_10 a_Mod_11 a_Mod_12 a_Mod_13 a_Mod_14 r24) [0, 1, 2, 3, 4, 5, 6, 7, 8, 9, 10, 11, 12, 13, 14, 15] rfl rfl ?_
      refine aj_iconst (v := (1 : Int32)) X d_Mod_learns_271 (by decide) ?_
      have ho := Option.some.inj hm
      subst ho
      exact aj_zret X d_Mod_learns_272 hr hlk (by decide) [0, 1, 2, 3, 4, 5, 6, 7, 8, 9, 10, 11, 12, 13, 14, 15] (w_Mod cI cL cZ o_Mod a_Mod_0 a_Mod_1 a_Mod_2 a_Mod_3 a_Mod_4 a_Mod_5 a_Mod_6 a_Mod_7 a_Mod_8 a_Mod_9 a_Mod_10 a_Mod_11 a_Mod_12 a_Mod_13 a_Mod_14 r24) rfl rfl ⟨rfl, rfl⟩
    · have hm := ite_f hm h
      refine aj_aload_n X d_Mod_learns_203 0 rfl ?_
      refine aj_get X d_Mod_learns_204 in_Mod 0 rfl rfl 26 (by decide) lf_Mod_92 rfl ?_
      refine aj_iload X d_Mod_learns_207 3 rfl ?_
      obtain ⟨b26, hm⟩ := chk_of hm
      refine aj_zald X d_Mod_learns_209 15 2 rfl rfl b26 ?_
      refine aj_if_eq X 219 d_Mod_learns_210 (by decide) (fun h => ?_) (fun h => ?_)
      · have hm := ite_t hm h
        exact c_Mod_learns_B219 o_Mod a_Mod_0 a_Mod_1 a_Mod_2 a_Mod_3 a_Mod_4 a_Mod_5 a_Mod_6 a_Mod_7 a_Mod_8 a_Mod_9 a_Mod_10 a_Mod_11 a_Mod_12 a_Mod_13 a_Mod_14 out X N hr hlk (m_Mod_learns_L192 nn) ih192 v_Mod x3 x4 x5 hm
      · have hm := ite_f hm h
        refine aj_aload_n X d_Mod_learns_213 0 rfl ?_
        refine aj_iload X d_Mod_learns_214 3 rfl ?_
        obtain ⟨r27, h28, hm⟩ := bnd_of hm
        refine aj_callV (wr := []) X (aj_rV (As := [.int x5]) (rest := []) X N gTB (c_Mod_put (D := D) (cI := cI) (cL := cL) (cZ := cZ) o_Mod a_Mod_0 a_Mod_1 a_Mod_2 a_Mod_3 a_Mod_4 a_Mod_5 a_Mod_6 a_Mod_7 a_Mod_8 a_Mod_9 a_Mod_10 a_Mod_11 a_Mod_12 a_Mod_13 a_Mod_14 v_Mod x5 r27 h28) d_Mod_learns_216 lk_Mod_put lw_Mod_122 lh_Mod_put ⟨(Nat.le_of_ble_eq_true rfl), (Nat.le_of_ble_eq_true rfl)⟩ [0, 1, 2, 3, 4, 5, 6, 7, 8, 9, 10, 11, 12, 13, 14, 15] rfl rfl 0 rfl rfl rfl rfl (Nat.le_of_ble_eq_true rfl) ⟨Nat.le_refl _, Nat.le_refl _⟩) [0, 1, 2, 3, 4, 5, 6, 7, 8, 9, 10, 11, 12, 13, 14, 15] [] rfl rfl rfl (by decide) (fun w1 hO => ?_)
        obtain rfl := hO
        refine aj_perm (ws' := w_Mod cI cL cZ o_Mod a_Mod_0 a_Mod_1 a_Mod_2 a_Mod_3 a_Mod_4 a_Mod_5 a_Mod_6 a_Mod_7 a_Mod_8 a_Mod_9 a_Mod_10 a_Mod_11 a_Mod_12 a_Mod_13 a_Mod_14 r27) [0, 1, 2, 3, 4, 5, 6, 7, 8, 9, 10, 11, 12, 13, 14, 15] rfl rfl ?_
        exact c_Mod_learns_B219 o_Mod a_Mod_0 a_Mod_1 a_Mod_2 a_Mod_3 a_Mod_4 a_Mod_5 a_Mod_6 a_Mod_7 a_Mod_8 a_Mod_9 a_Mod_10 a_Mod_11 a_Mod_12 a_Mod_13 a_Mod_14 out X N hr hlk (m_Mod_learns_L192 nn) ih192 r27 x3 x4 x5 hm
def m_Mod_learns_B153 (again82 : T_Mod → Int32 → Int32 → Int32 → Int32 → Option (T_Mod × Int32)) (v_Mod : T_Mod) (x2 : Int32) (x3 : Int32) (x4 : Int32) (x5 : Int32) : Option (T_Mod × Int32) := (again82 v_Mod x2 x3 x4 (x5 + 1))
set_option maxRecDepth 100000 in
set_option maxHeartbeats 4000000 in
theorem c_Mod_learns_B153 {l : Launch} {D : va_G} {cI cL cZ : ClassId} {p : Program} {e : Env} {s : State} {m : MethodId} {args : Array Value} {below : List Frame} {meth : Method} {c : Code} {A : Nat → Prop} (o_Mod a_Mod_0 a_Mod_1 a_Mod_2 a_Mod_3 a_Mod_4 a_Mod_5 a_Mod_6 a_Mod_7 a_Mod_8 a_Mod_9 a_Mod_10 a_Mod_11 a_Mod_12 a_Mod_13 a_Mod_14 : Nat) (out : T_Mod × Int32) (X : X_Mod_learns p s m args c D cI cL cZ A) (N : nk NM0 NF0 s) (hr : meth.sig.returnType = some .boolean) (hlk : meth.locks = false) (again82 : T_Mod → Int32 → Int32 → Int32 → Int32 → Option (T_Mod × Int32)) (ih82 : ∀ (v_Mod : T_Mod) (x2 : Int32) (x3 : Int32) (x4 : Int32) (x5 : Int32), again82 v_Mod x2 x3 x4 x5 = some out → J_Mod_learns p l e s m args below meth c D cI cL cZ A (O_Mod_learns cI cL cZ o_Mod a_Mod_0 a_Mod_1 a_Mod_2 a_Mod_3 a_Mod_4 a_Mod_5 a_Mod_6 a_Mod_7 a_Mod_8 a_Mod_9 a_Mod_10 a_Mod_11 a_Mod_12 a_Mod_13 a_Mod_14 out) 0 0 (w_Mod cI cL cZ o_Mod a_Mod_0 a_Mod_1 a_Mod_2 a_Mod_3 a_Mod_4 a_Mod_5 a_Mod_6 a_Mod_7 a_Mod_8 a_Mod_9 a_Mod_10 a_Mod_11 a_Mod_12 a_Mod_13 a_Mod_14 v_Mod) 0 0 82 [(0, .ref o_Mod), (2, .int x2), (3, .int x3), (4, .int x4), (5, .int x5)] []) : ∀ (v_Mod : T_Mod) (x2 : Int32) (x3 : Int32) (x4 : Int32) (x5 : Int32), m_Mod_learns_B153 again82 v_Mod x2 x3 x4 x5 = some out → J_Mod_learns p l e s m args below meth c D cI cL cZ A (O_Mod_learns cI cL cZ o_Mod a_Mod_0 a_Mod_1 a_Mod_2 a_Mod_3 a_Mod_4 a_Mod_5 a_Mod_6 a_Mod_7 a_Mod_8 a_Mod_9 a_Mod_10 a_Mod_11 a_Mod_12 a_Mod_13 a_Mod_14 out) 0 0 (w_Mod cI cL cZ o_Mod a_Mod_0 a_Mod_1 a_Mod_2 a_Mod_3 a_Mod_4 a_Mod_5 a_Mod_6 a_Mod_7 a_Mod_8 a_Mod_9 a_Mod_10 a_Mod_11 a_Mod_12 a_Mod_13 a_Mod_14 v_Mod) 0 0 153 [(0, .ref o_Mod), (2, .int x2), (3, .int x3), (4, .int x4), (5, .int x5)] [] := by
  intro v_Mod x2 x3 x4 x5 hm
  unfold m_Mod_learns_B153 at hm
  refine aj_iinc (v := (x5 + 1)) (lv' := [(5, .int (x5 + 1)), (0, .ref o_Mod), (2, .int x2), (3, .int x3), (4, .int x4)]) X d_Mod_learns_153 4 rfl rfl (by decide) rfl ?_
  refine aj_goto X 82 d_Mod_learns_156 (by decide) ?_
  refine aj_lv (lv' := [(0, .ref o_Mod), (2, .int x2), (3, .int x3), (4, .int x4), (5, .int (x5 + 1))]) [1, 2, 3, 4, 0] rfl ?_
  exact ih82 v_Mod x2 x3 x4 (x5 + 1) hm
def m_Mod_learns_L82 : Nat → T_Mod → Int32 → Int32 → Int32 → Int32 → Option (T_Mod × Int32)
  | 0, _, _, _, _, _ => none
  | f + 1, v_Mod, x2, x3, x4, x5 => (if ((2 : Int32) * v_Mod.2.1) ≤ x5 then ((m_Mod_room v_Mod (1 : Int32) x2).bind fun r29 => (if r29 = 0 then (some ((v_Mod.1, v_Mod.2.1, v_Mod.2.2.1, v_Mod.2.2.2.1, v_Mod.2.2.2.2.1, v_Mod.2.2.2.2.2.1, v_Mod.2.2.2.2.2.2.1, v_Mod.2.2.2.2.2.2.2.1, v_Mod.2.2.2.2.2.2.2.2.1, v_Mod.2.2.2.2.2.2.2.2.2.1, v_Mod.2.2.2.2.2.2.2.2.2.2.1, v_Mod.2.2.2.2.2.2.2.2.2.2.2.1, v_Mod.2.2.2.2.2.2.2.2.2.2.2.2.1, v_Mod.2.2.2.2.2.2.2.2.2.2.2.2.2.1, v_Mod.2.2.2.2.2.2.2.2.2.2.2.2.2.2.1, v_Mod.2.2.2.2.2.2.2.2.2.2.2.2.2.2.2.1, v_Mod.2.2.2.2.2.2.2.2.2.2.2.2.2.2.2.2.1, v_Mod.2.2.2.2.2.2.2.2.2.2.2.2.2.2.2.2.2.1, v_Mod.2.2.2.2.2.2.2.2.2.2.2.2.2.2.2.2.2.2.1, v_Mod.2.2.2.2.2.2.2.2.2.2.2.2.2.2.2.2.2.2.2.1, v_Mod.2.2.2.2.2.2.2.2.2.2.2.2.2.2.2.2.2.2.2.2.1, v_Mod.2.2.2.2.2.2.2.2.2.2.2.2.2.2.2.2.2.2.2.2.2.1, v_Mod.2.2.2.2.2.2.2.2.2.2.2.2.2.2.2.2.2.2.2.2.2.2.1, (3 : Int32), v_Mod.2.2.2.2.2.2.2.2.2.2.2.2.2.2.2.2.2.2.2.2.2.2.2.2.1, v_Mod.2.2.2.2.2.2.2.2.2.2.2.2.2.2.2.2.2.2.2.2.2.2.2.2.2.1, v_Mod.2.2.2.2.2.2.2.2.2.2.2.2.2.2.2.2.2.2.2.2.2.2.2.2.2.2), (0 : Int32))) else ((m_Mod_step v_Mod).bind fun r31 => (if r31.2 = 0 then (some (r31.1, (0 : Int32))) else ((m_Mod_begin r31.1 (0 : Int32)).bind fun r33 => (m_Mod_learns_L192 fu r33 x3 x4 (0 : Int32))))))) else (if ¬ (x5 < 0 ∨ v_Mod.2.2.2.2.2.2.2.2.2.2.2.2.2.2.2.2.2.2.2.2.2.2.2.2.2.2.1 ≤ (x5).toNatClampNeg) then (if (v_Mod.2.2.2.2.2.2.2.2.2.2.2.2.2.2.2.2.2.2.2.2.2.2.2.2.2.2.2 (x5).toNatClampNeg) = 0 then (m_Mod_learns_B153 (m_Mod_learns_L82 f) v_Mod x2 x3 x4 x5) else (if ¬ ((x5 / (2 : Int32)) < 0 ∨ v_Mod.2.2.2.2.2.2.2.2.2.2.2.2.2.2.2.2.2.2.2.1.1 ≤ ((x5 / (2 : Int32))).toNatClampNeg) then (if (v_Mod.2.2.2.2.2.2.2.2.2.2.2.2.2.2.2.2.2.2.2.1.2 ((x5 / (2 : Int32))).toNatClampNeg) = v_Mod.2.2.2.2.2.2.2.2.2.2.2.2.2.2.2.2.2.2.2.2.2.2.1 then (m_Mod_learns_B153 (m_Mod_learns_L82 f) v_Mod (x2 + 1) x5 x4 x5) else (if ¬ ((x5 / (2 : Int32)) < 0 ∨ v_Mod.2.2.2.2.2.2.2.2.2.2.2.2.2.2.2.2.2.2.2.1.1 ≤ ((x5 / (2 : Int32))).toNatClampNeg) then (if (v_Mod.2.2.2.2.2.2.2.2.2.2.2.2.2.2.2.2.2.2.2.1.2 ((x5 / (2 : Int32))).toNatClampNeg) ≤ x4 then (m_Mod_learns_B153 (m_Mod_learns_L82 f) v_Mod (x2 + 1) x3 x4 x5) else (if ¬ ((x5 / (2 : Int32)) < 0 ∨ v_Mod.2.2.2.2.2.2.2.2.2.2.2.2.2.2.2.2.2.2.2.1.1 ≤ ((x5 / (2 : Int32))).toNatClampNeg) then (m_Mod_learns_B153 (m_Mod_learns_L82 f) v_Mod (x2 + 1) x3 (v_Mod.2.2.2.2.2.2.2.2.2.2.2.2.2.2.2.2.2.2.2.1.2 ((x5 / (2 : Int32))).toNatClampNeg) x5) else none)) else none)) else none)) else none))
set_option maxRecDepth 100000 in
set_option maxHeartbeats 4000000 in
theorem c_Mod_learns_L82 {l : Launch} {D : va_G} {cI cL cZ : ClassId} {p : Program} {e : Env} {s : State} {m : MethodId} {args : Array Value} {below : List Frame} {meth : Method} {c : Code} {A : Nat → Prop} (o_Mod a_Mod_0 a_Mod_1 a_Mod_2 a_Mod_3 a_Mod_4 a_Mod_5 a_Mod_6 a_Mod_7 a_Mod_8 a_Mod_9 a_Mod_10 a_Mod_11 a_Mod_12 a_Mod_13 a_Mod_14 : Nat) (out : T_Mod × Int32) (X : X_Mod_learns p s m args c D cI cL cZ A) (N : nk NM0 NF0 s) (hr : meth.sig.returnType = some .boolean) (hlk : meth.locks = false) : ∀ (nn : Nat), ∀ (v_Mod : T_Mod) (x2 : Int32) (x3 : Int32) (x4 : Int32) (x5 : Int32), m_Mod_learns_L82 nn v_Mod x2 x3 x4 x5 = some out → J_Mod_learns p l e s m args below meth c D cI cL cZ A (O_Mod_learns cI cL cZ o_Mod a_Mod_0 a_Mod_1 a_Mod_2 a_Mod_3 a_Mod_4 a_Mod_5 a_Mod_6 a_Mod_7 a_Mod_8 a_Mod_9 a_Mod_10 a_Mod_11 a_Mod_12 a_Mod_13 a_Mod_14 out) 0 0 (w_Mod cI cL cZ o_Mod a_Mod_0 a_Mod_1 a_Mod_2 a_Mod_3 a_Mod_4 a_Mod_5 a_Mod_6 a_Mod_7 a_Mod_8 a_Mod_9 a_Mod_10 a_Mod_11 a_Mod_12 a_Mod_13 a_Mod_14 v_Mod) 0 0 82 [(0, .ref o_Mod), (2, .int x2), (3, .int x3), (4, .int x4), (5, .int x5)] [] := by
  intro nn
  induction nn with
  | zero => intro v_Mod x2 x3 x4 x5 hm; exact absurd hm (by simp [m_Mod_learns_L82])
  | succ nn ih82 =>
    intro v_Mod x2 x3 x4 x5 hm
    unfold m_Mod_learns_L82 at hm
    refine aj_iload X d_Mod_learns_82 4 rfl ?_
    refine aj_iconst (v := (2 : Int32)) X d_Mod_learns_84 (by decide) ?_
    refine aj_aload_n X d_Mod_learns_85 0 rfl ?_
    refine aj_get X d_Mod_learns_86 in_Mod 0 rfl rfl 1 (by decide) lf_Mod_13 rfl ?_
    refine aj_imul X d_Mod_learns_89 ?_
    refine aj_icmp_ge X 159 d_Mod_learns_90 (by decide) (fun h => ?_) (fun h => ?_)
    · have hm := ite_t hm h
      refine aj_aload_n X d_Mod_learns_159 0 rfl ?_
      refine aj_iconst (v := (1 : Int32)) X d_Mod_learns_160 (by decide) ?_
      refine aj_iload_n X d_Mod_learns_161 1 rfl ?_
      obtain ⟨r29, h30, hm⟩ := bnd_of hm
      refine aj_callI (wr := []) X (aj_rV (As := [.int (1 : Int32), .int x2]) (rest := []) X N gTB (c_Mod_room (D := D) (cI := cI) (cL := cL) (cZ := cZ) o_Mod a_Mod_0 a_Mod_1 a_Mod_2 a_Mod_3 a_Mod_4 a_Mod_5 a_Mod_6 a_Mod_7 a_Mod_8 a_Mod_9 a_Mod_10 a_Mod_11 a_Mod_12 a_Mod_13 a_Mod_14 v_Mod (1 : Int32) x2 r29 h30) d_Mod_learns_162 lk_Mod_room lw_Mod_110 lh_Mod_room ⟨(Nat.le_of_ble_eq_true rfl), (Nat.le_of_ble_eq_true rfl)⟩ [0, 1, 2, 3, 4, 5, 6, 7, 8, 9, 10, 11, 12, 13, 14, 15] rfl rfl 0 rfl rfl rfl rfl (Nat.le_of_ble_eq_true rfl) ⟨Nat.le_refl _, Nat.le_refl _⟩) [0, 1, 2, 3, 4, 5, 6, 7, 8, 9, 10, 11, 12, 13, 14, 15] [] rfl rfl rfl (by decide) (fun rr w1 hO => ?_)
      obtain ⟨rfl, rfl⟩ := hO
      refine aj_perm (ws' := w_Mod cI cL cZ o_Mod a_Mod_0 a_Mod_1 a_Mod_2 a_Mod_3 a_Mod_4 a_Mod_5 a_Mod_6 a_Mod_7 a_Mod_8 a_Mod_9 a_Mod_10 a_Mod_11 a_Mod_12 a_Mod_13 a_Mod_14 v_Mod) [0, 1, 2, 3, 4, 5, 6, 7, 8, 9, 10, 11, 12, 13, 14, 15] rfl rfl ?_
      refine aj_if_ne X 175 d_Mod_learns_165 (by decide) (fun h => ?_) (fun h => ?_)
      · have hm := ite_f hm h
        refine aj_aload_n X d_Mod_learns_175 0 rfl ?_
        obtain ⟨r31, h32, hm⟩ := bnd_of hm
        refine aj_callI (wr := []) X (aj_rV (As := []) (rest := []) X N gTB (c_Mod_step (D := D) (cI := cI) (cL := cL) (cZ := cZ) o_Mod a_Mod_0 a_Mod_1 a_Mod_2 a_Mod_3 a_Mod_4 a_Mod_5 a_Mod_6 a_Mod_7 a_Mod_8 a_Mod_9 a_Mod_10 a_Mod_11 a_Mod_12 a_Mod_13 a_Mod_14 v_Mod r31 h32) d_Mod_learns_176 lk_Mod_step lw_Mod_114 lh_Mod_step ⟨(Nat.le_of_ble_eq_true rfl), (Nat.le_of_ble_eq_true rfl)⟩ [0, 1, 2, 3, 4, 5, 6, 7, 8, 9, 10, 11, 12, 13, 14, 15] rfl rfl 0 rfl rfl rfl rfl (Nat.le_of_ble_eq_true rfl) ⟨Nat.le_refl _, Nat.le_refl _⟩) [0, 1, 2, 3, 4, 5, 6, 7, 8, 9, 10, 11, 12, 13, 14, 15] [] rfl rfl rfl (by decide) (fun rr w1 hO => ?_)
        obtain ⟨rfl, rfl⟩ := hO
        refine aj_perm (ws' := w_Mod cI cL cZ o_Mod a_Mod_0 a_Mod_1 a_Mod_2 a_Mod_3 a_Mod_4 a_Mod_5 a_Mod_6 a_Mod_7 a_Mod_8 a_Mod_9 a_Mod_10 a_Mod_11 a_Mod_12 a_Mod_13 a_Mod_14 r31.1) [0, 1, 2, 3, 4, 5, 6, 7, 8, 9, 10, 11, 12, 13, 14, 15] rfl rfl ?_
        refine aj_if_ne X 184 d_Mod_learns_179 (by decide) (fun h => ?_) (fun h => ?_)
        · have hm := ite_f hm h
          refine aj_aload_n X d_Mod_learns_184 0 rfl ?_
          refine aj_iconst (v := (0 : Int32)) X d_Mod_learns_185 (by decide) ?_
          obtain ⟨r33, h34, hm⟩ := bnd_of hm
          refine aj_callV (wr := []) X (aj_rV (As := [.int (0 : Int32)]) (rest := []) X N gTB (c_Mod_begin (D := D) (cI := cI) (cL := cL) (cZ := cZ) o_Mod a_Mod_0 a_Mod_1 a_Mod_2 a_Mod_3 a_Mod_4 a_Mod_5 a_Mod_6 a_Mod_7 a_Mod_8 a_Mod_9 a_Mod_10 a_Mod_11 a_Mod_12 a_Mod_13 a_Mod_14 r31.1 (0 : Int32) r33 h34) d_Mod_learns_186 lk_Mod_begin lw_Mod_118 lh_Mod_begin ⟨(Nat.le_of_ble_eq_true rfl), (Nat.le_of_ble_eq_true rfl)⟩ [0, 1, 2, 3, 4, 5, 6, 7, 8, 9, 10, 11, 12, 13, 14, 15] rfl rfl 0 rfl rfl rfl rfl (Nat.le_of_ble_eq_true rfl) ⟨Nat.le_refl _, Nat.le_refl _⟩) [0, 1, 2, 3, 4, 5, 6, 7, 8, 9, 10, 11, 12, 13, 14, 15] [] rfl rfl rfl (by decide) (fun w1 hO => ?_)
          obtain rfl := hO
          refine aj_perm (ws' := w_Mod cI cL cZ o_Mod a_Mod_0 a_Mod_1 a_Mod_2 a_Mod_3 a_Mod_4 a_Mod_5 a_Mod_6 a_Mod_7 a_Mod_8 a_Mod_9 a_Mod_10 a_Mod_11 a_Mod_12 a_Mod_13 a_Mod_14 r33) [0, 1, 2, 3, 4, 5, 6, 7, 8, 9, 10, 11, 12, 13, 14, 15] rfl rfl ?_
          refine aj_iconst (v := (0 : Int32)) X d_Mod_learns_189 (by decide) ?_
          refine aj_istore (lv' := [(5, .int (0 : Int32)), (0, .ref o_Mod), (2, .int x2), (3, .int x3), (4, .int x4)]) X d_Mod_learns_190 (by decide) rfl ?_
          refine aj_lv (lv' := [(0, .ref o_Mod), (3, .int x3), (4, .int x4), (5, .int (0 : Int32))]) [1, 3, 4, 0] rfl ?_
          exact c_Mod_learns_L192 o_Mod a_Mod_0 a_Mod_1 a_Mod_2 a_Mod_3 a_Mod_4 a_Mod_5 a_Mod_6 a_Mod_7 a_Mod_8 a_Mod_9 a_Mod_10 a_Mod_11 a_Mod_12 a_Mod_13 a_Mod_14 out X N hr hlk fu r33 x3 x4 (0 : Int32) hm
        · have hm := ite_t hm h
          refine aj_iconst (v := (0 : Int32)) X d_Mod_learns_182 (by decide) ?_
          have ho := Option.some.inj hm
          subst ho
          exact aj_zret X d_Mod_learns_183 hr hlk (by decide) [0, 1, 2, 3, 4, 5, 6, 7, 8, 9, 10, 11, 12, 13, 14, 15] (w_Mod cI cL cZ o_Mod a_Mod_0 a_Mod_1 a_Mod_2 a_Mod_3 a_Mod_4 a_Mod_5 a_Mod_6 a_Mod_7 a_Mod_8 a_Mod_9 a_Mod_10 a_Mod_11 a_Mod_12 a_Mod_13 a_Mod_14 r31.1) rfl rfl ⟨rfl, rfl⟩
      · have hm := ite_t hm h
        refine aj_aload_n X d_Mod_learns_168 0 rfl ?_
        refine aj_iconst (v := (3 : Int32)) X d_Mod_learns_169 (by decide) ?_
        refine aj_put (ws' := w_Mod cI cL cZ o_Mod a_Mod_0 a_Mod_1 a_Mod_2 a_Mod_3 a_Mod_4 a_Mod_5 a_Mod_6 a_Mod_7 a_Mod_8 a_Mod_9 a_Mod_10 a_Mod_11 a_Mod_12 a_Mod_13 a_Mod_14 (v_Mod.1, v_Mod.2.1, v_Mod.2.2.1, v_Mod.2.2.2.1, v_Mod.2.2.2.2.1, v_Mod.2.2.2.2.2.1, v_Mod.2.2.2.2.2.2.1, v_Mod.2.2.2.2.2.2.2.1, v_Mod.2.2.2.2.2.2.2.2.1, v_Mod.2.2.2.2.2.2.2.2.2.1, v_Mod.2.2.2.2.2.2.2.2.2.2.1, v_Mod.2.2.2.2.2.2.2.2.2.2.2.1, v_Mod.2.2.2.2.2.2.2.2.2.2.2.2.1, v_Mod.2.2.2.2.2.2.2.2.2.2.2.2.2.1, v_Mod.2.2.2.2.2.2.2.2.2.2.2.2.2.2.1, v_Mod.2.2.2.2.2.2.2.2.2.2.2.2.2.2.2.1, v_Mod.2.2.2.2.2.2.2.2.2.2.2.2.2.2.2.2.1, v_Mod.2.2.2.2.2.2.2.2.2.2.2.2.2.2.2.2.2.1, v_Mod.2.2.2.2.2.2.2.2.2.2.2.2.2.2.2.2.2.2.1, v_Mod.2.2.2.2.2.2.2.2.2.2.2.2.2.2.2.2.2.2.2.1, v_Mod.2.2.2.2.2.2.2.2.2.2.2.2.2.2.2.2.2.2.2.2.1, v_Mod.2.2.2.2.2.2.2.2.2.2.2.2.2.2.2.2.2.2.2.2.2.1, v_Mod.2.2.2.2.2.2.2.2.2.2.2.2.2.2.2.2.2.2.2.2.2.2.1, (3 : Int32), v_Mod.2.2.2.2.2.2.2.2.2.2.2.2.2.2.2.2.2.2.2.2.2.2.2.2.1, v_Mod.2.2.2.2.2.2.2.2.2.2.2.2.2.2.2.2.2.2.2.2.2.2.2.2.2.1, v_Mod.2.2.2.2.2.2.2.2.2.2.2.2.2.2.2.2.2.2.2.2.2.2.2.2.2.2)) X d_Mod_learns_170 in_Mod ty_Mod tyok_Mod nmx_Mod 0 rfl rfl 23 (by decide) lf_Mod_82 rfl rfl rfl (Nat.le_of_ble_eq_true rfl) rfl ?_
        refine aj_iconst (v := (0 : Int32)) X d_Mod_learns_173 (by decide) ?_
        have ho := Option.some.inj hm
        subst ho
        exact aj_zret X d_Mod_learns_174 hr hlk (by decide) [0, 1, 2, 3, 4, 5, 6, 7, 8, 9, 10, 11, 12, 13, 14, 15] (w_Mod cI cL cZ o_Mod a_Mod_0 a_Mod_1 a_Mod_2 a_Mod_3 a_Mod_4 a_Mod_5 a_Mod_6 a_Mod_7 a_Mod_8 a_Mod_9 a_Mod_10 a_Mod_11 a_Mod_12 a_Mod_13 a_Mod_14 (v_Mod.1, v_Mod.2.1, v_Mod.2.2.1, v_Mod.2.2.2.1, v_Mod.2.2.2.2.1, v_Mod.2.2.2.2.2.1, v_Mod.2.2.2.2.2.2.1, v_Mod.2.2.2.2.2.2.2.1, v_Mod.2.2.2.2.2.2.2.2.1, v_Mod.2.2.2.2.2.2.2.2.2.1, v_Mod.2.2.2.2.2.2.2.2.2.2.1, v_Mod.2.2.2.2.2.2.2.2.2.2.2.1, v_Mod.2.2.2.2.2.2.2.2.2.2.2.2.1, v_Mod.2.2.2.2.2.2.2.2.2.2.2.2.2.1, v_Mod.2.2.2.2.2.2.2.2.2.2.2.2.2.2.1, v_Mod.2.2.2.2.2.2.2.2.2.2.2.2.2.2.2.1, v_Mod.2.2.2.2.2.2.2.2.2.2.2.2.2.2.2.2.1, v_Mod.2.2.2.2.2.2.2.2.2.2.2.2.2.2.2.2.2.1, v_Mod.2.2.2.2.2.2.2.2.2.2.2.2.2.2.2.2.2.2.1, v_Mod.2.2.2.2.2.2.2.2.2.2.2.2.2.2.2.2.2.2.2.1, v_Mod.2.2.2.2.2.2.2.2.2.2.2.2.2.2.2.2.2.2.2.2.1, v_Mod.2.2.2.2.2.2.2.2.2.2.2.2.2.2.2.2.2.2.2.2.2.1, v_Mod.2.2.2.2.2.2.2.2.2.2.2.2.2.2.2.2.2.2.2.2.2.2.1, (3 : Int32), v_Mod.2.2.2.2.2.2.2.2.2.2.2.2.2.2.2.2.2.2.2.2.2.2.2.2.1, v_Mod.2.2.2.2.2.2.2.2.2.2.2.2.2.2.2.2.2.2.2.2.2.2.2.2.2.1, v_Mod.2.2.2.2.2.2.2.2.2.2.2.2.2.2.2.2.2.2.2.2.2.2.2.2.2.2)) rfl rfl ⟨rfl, rfl⟩
    · have hm := ite_f hm h
      refine aj_aload_n X d_Mod_learns_93 0 rfl ?_
      refine aj_get X d_Mod_learns_94 in_Mod 0 rfl rfl 26 (by decide) lf_Mod_92 rfl ?_
      refine aj_iload X d_Mod_learns_97 4 rfl ?_
      obtain ⟨b35, hm⟩ := chk_of hm
      refine aj_zald X d_Mod_learns_99 15 2 rfl rfl b35 ?_
      refine aj_if_eq X 153 d_Mod_learns_100 (by decide) (fun h => ?_) (fun h => ?_)
      · have hm := ite_t hm h
        exact c_Mod_learns_B153 o_Mod a_Mod_0 a_Mod_1 a_Mod_2 a_Mod_3 a_Mod_4 a_Mod_5 a_Mod_6 a_Mod_7 a_Mod_8 a_Mod_9 a_Mod_10 a_Mod_11 a_Mod_12 a_Mod_13 a_Mod_14 out X N hr hlk (m_Mod_learns_L82 nn) ih82 v_Mod x2 x3 x4 x5 hm
      · have hm := ite_f hm h
        refine aj_iinc (v := (x2 + 1)) (lv' := [(2, .int (x2 + 1)), (0, .ref o_Mod), (3, .int x3), (4, .int x4), (5, .int x5)]) X d_Mod_learns_103 1 rfl rfl (by decide) rfl ?_
        refine aj_aload_n X d_Mod_learns_106 1 rfl ?_
        refine aj_get X d_Mod_learns_107 in_Mod 0 rfl rfl 19 (by decide) lf_Mod_70 rfl ?_
        refine aj_iload X d_Mod_learns_110 4 rfl ?_
        refine aj_iconst (v := (2 : Int32)) X d_Mod_learns_112 (by decide) ?_
        refine aj_idiv X d_Mod_learns_113 (by decide) ?_
        obtain ⟨b36, hm⟩ := chk_of hm
        refine aj_iald X d_Mod_learns_114 12 0 rfl rfl b36 ?_
        refine aj_aload_n X d_Mod_learns_115 1 rfl ?_
        refine aj_get X d_Mod_learns_116 in_Mod 0 rfl rfl 22 (by decide) lf_Mod_79 rfl ?_
        refine aj_icmp_ne X 128 d_Mod_learns_119 (by decide) (fun h => ?_) (fun h => ?_)
        · have hm := ite_f hm h
          refine aj_aload_n X d_Mod_learns_128 1 rfl ?_
          refine aj_get X d_Mod_learns_129 in_Mod 0 rfl rfl 19 (by decide) lf_Mod_70 rfl ?_
          refine aj_iload X d_Mod_learns_132 4 rfl ?_
          refine aj_iconst (v := (2 : Int32)) X d_Mod_learns_134 (by decide) ?_
          refine aj_idiv X d_Mod_learns_135 (by decide) ?_
          obtain ⟨b37, hm⟩ := chk_of hm
          refine aj_iald X d_Mod_learns_136 12 0 rfl rfl b37 ?_
          refine aj_iload X d_Mod_learns_137 3 rfl ?_
          refine aj_icmp_le X 153 d_Mod_learns_139 (by decide) (fun h => ?_) (fun h => ?_)
          · have hm := ite_t hm h
            refine aj_lv (lv' := [(0, .ref o_Mod), (2, .int (x2 + 1)), (3, .int x3), (4, .int x4), (5, .int x5)]) [1, 0, 2, 3, 4] rfl ?_
            exact c_Mod_learns_B153 o_Mod a_Mod_0 a_Mod_1 a_Mod_2 a_Mod_3 a_Mod_4 a_Mod_5 a_Mod_6 a_Mod_7 a_Mod_8 a_Mod_9 a_Mod_10 a_Mod_11 a_Mod_12 a_Mod_13 a_Mod_14 out X N hr hlk (m_Mod_learns_L82 nn) ih82 v_Mod (x2 + 1) x3 x4 x5 hm
          · have hm := ite_f hm h
            refine aj_aload_n X d_Mod_learns_142 1 rfl ?_
            refine aj_get X d_Mod_learns_143 in_Mod 0 rfl rfl 19 (by decide) lf_Mod_70 rfl ?_
            refine aj_iload X d_Mod_learns_146 4 rfl ?_
            refine aj_iconst (v := (2 : Int32)) X d_Mod_learns_148 (by decide) ?_
            refine aj_idiv X d_Mod_learns_149 (by decide) ?_
            obtain ⟨b38, hm⟩ := chk_of hm
            refine aj_iald X d_Mod_learns_150 12 0 rfl rfl b38 ?_
            refine aj_istore (lv' := [(4, .int (v_Mod.2.2.2.2.2.2.2.2.2.2.2.2.2.2.2.2.2.2.2.1.2 ((x5 / (2 : Int32))).toNatClampNeg)), (2, .int (x2 + 1)), (0, .ref o_Mod), (3, .int x3), (5, .int x5)]) X d_Mod_learns_151 (by decide) rfl ?_
            refine aj_lv (lv' := [(0, .ref o_Mod), (2, .int (x2 + 1)), (3, .int x3), (4, .int (v_Mod.2.2.2.2.2.2.2.2.2.2.2.2.2.2.2.2.2.2.2.1.2 ((x5 / (2 : Int32))).toNatClampNeg)), (5, .int x5)]) [2, 1, 3, 0, 4] rfl ?_
            exact c_Mod_learns_B153 o_Mod a_Mod_0 a_Mod_1 a_Mod_2 a_Mod_3 a_Mod_4 a_Mod_5 a_Mod_6 a_Mod_7 a_Mod_8 a_Mod_9 a_Mod_10 a_Mod_11 a_Mod_12 a_Mod_13 a_Mod_14 out X N hr hlk (m_Mod_learns_L82 nn) ih82 v_Mod (x2 + 1) x3 (v_Mod.2.2.2.2.2.2.2.2.2.2.2.2.2.2.2.2.2.2.2.1.2 ((x5 / (2 : Int32))).toNatClampNeg) x5 hm
        · have hm := ite_t hm h
          refine aj_iload X d_Mod_learns_122 4 rfl ?_
          refine aj_istore_n (lv' := [(3, .int x5), (2, .int (x2 + 1)), (0, .ref o_Mod), (4, .int x4), (5, .int x5)]) X d_Mod_learns_124 rfl (by decide) rfl ?_
          refine aj_goto X 153 d_Mod_learns_125 (by decide) ?_
          refine aj_lv (lv' := [(0, .ref o_Mod), (2, .int (x2 + 1)), (3, .int x5), (4, .int x4), (5, .int x5)]) [2, 1, 0, 3, 4] rfl ?_
          exact c_Mod_learns_B153 o_Mod a_Mod_0 a_Mod_1 a_Mod_2 a_Mod_3 a_Mod_4 a_Mod_5 a_Mod_6 a_Mod_7 a_Mod_8 a_Mod_9 a_Mod_10 a_Mod_11 a_Mod_12 a_Mod_13 a_Mod_14 out X N hr hlk (m_Mod_learns_L82 nn) ih82 v_Mod (x2 + 1) x5 x4 x5 hm
def m_Mod_learns_L32 : Nat → T_Mod → Int32 → Option (T_Mod × Int32)
  | 0, _, _ => none
  | f + 1, v_Mod, x2 => (if x2 < 0 then (m_Mod_learns_L82 fu v_Mod (0 : Int32) (-1 : Int32) (0 : Int32) (0 : Int32)) else (if ¬ ((x2 / (2 : Int32)) < 0 ∨ v_Mod.2.2.2.2.2.2.2.2.2.2.2.2.2.2.2.2.2.2.2.2.1.1 ≤ ((x2 / (2 : Int32))).toNatClampNeg) then ((m_Mod_mix v_Mod (v_Mod.2.2.2.2.2.2.2.2.2.2.2.2.2.2.2.2.2.2.2.2.1.2 ((x2 / (2 : Int32))).toNatClampNeg)).bind fun r40 => (if ¬ (x2 < 0 ∨ r40.2.2.2.2.2.2.2.2.2.2.2.2.2.2.2.2.2.2.2.2.2.2.2.2.2.2.1 ≤ (x2).toNatClampNeg) then (if ¬ ((x2 ^^^ (1 : Int32)) < 0 ∨ r40.2.2.2.2.2.2.2.2.2.2.2.2.2.2.2.2.2.2.2.2.2.2.2.2.2.2.1 ≤ ((x2 ^^^ (1 : Int32))).toNatClampNeg) then ((m_Mod_last (r40.1, r40.2.1, r40.2.2.1, r40.2.2.2.1, r40.2.2.2.2.1, r40.2.2.2.2.2.1, r40.2.2.2.2.2.2.1, r40.2.2.2.2.2.2.2.1, r40.2.2.2.2.2.2.2.2.1, r40.2.2.2.2.2.2.2.2.2.1, r40.2.2.2.2.2.2.2.2.2.2.1, r40.2.2.2.2.2.2.2.2.2.2.2.1, r40.2.2.2.2.2.2.2.2.2.2.2.2.1, r40.2.2.2.2.2.2.2.2.2.2.2.2.2.1, r40.2.2.2.2.2.2.2.2.2.2.2.2.2.2.1, r40.2.2.2.2.2.2.2.2.2.2.2.2.2.2.2.1, r40.2.2.2.2.2.2.2.2.2.2.2.2.2.2.2.2.1, r40.2.2.2.2.2.2.2.2.2.2.2.2.2.2.2.2.2.1, r40.2.2.2.2.2.2.2.2.2.2.2.2.2.2.2.2.2.2.1, r40.2.2.2.2.2.2.2.2.2.2.2.2.2.2.2.2.2.2.2.1, r40.2.2.2.2.2.2.2.2.2.2.2.2.2.2.2.2.2.2.2.2.1, r40.2.2.2.2.2.2.2.2.2.2.2.2.2.2.2.2.2.2.2.2.2.1, r40.2.2.2.2.2.2.2.2.2.2.2.2.2.2.2.2.2.2.2.2.2.2.1, r40.2.2.2.2.2.2.2.2.2.2.2.2.2.2.2.2.2.2.2.2.2.2.2.1, r40.2.2.2.2.2.2.2.2.2.2.2.2.2.2.2.2.2.2.2.2.2.2.2.2.1, r40.2.2.2.2.2.2.2.2.2.2.2.2.2.2.2.2.2.2.2.2.2.2.2.2.2.1, (r40.2.2.2.2.2.2.2.2.2.2.2.2.2.2.2.2.2.2.2.2.2.2.2.2.2.2.1, (upd (upd r40.2.2.2.2.2.2.2.2.2.2.2.2.2.2.2.2.2.2.2.2.2.2.2.2.2.2.2 (x2).toNatClampNeg ((0 : Int32) &&& 1)) ((x2 ^^^ (1 : Int32))).toNatClampNeg ((0 : Int32) &&& 1))))).bind fun r44 => ((m_Mod_learns_L32 f) (r40.1, r40.2.1, r40.2.2.1, r40.2.2.2.1, r40.2.2.2.2.1, r40.2.2.2.2.2.1, r40.2.2.2.2.2.2.1, r40.2.2.2.2.2.2.2.1, r40.2.2.2.2.2.2.2.2.1, r40.2.2.2.2.2.2.2.2.2.1, r40.2.2.2.2.2.2.2.2.2.2.1, r40.2.2.2.2.2.2.2.2.2.2.2.1, r40.2.2.2.2.2.2.2.2.2.2.2.2.1, r40.2.2.2.2.2.2.2.2.2.2.2.2.2.1, r40.2.2.2.2.2.2.2.2.2.2.2.2.2.2.1, r40.2.2.2.2.2.2.2.2.2.2.2.2.2.2.2.1, r40.2.2.2.2.2.2.2.2.2.2.2.2.2.2.2.2.1, r40.2.2.2.2.2.2.2.2.2.2.2.2.2.2.2.2.2.1, r40.2.2.2.2.2.2.2.2.2.2.2.2.2.2.2.2.2.2.1, r40.2.2.2.2.2.2.2.2.2.2.2.2.2.2.2.2.2.2.2.1, r40.2.2.2.2.2.2.2.2.2.2.2.2.2.2.2.2.2.2.2.2.1, r40.2.2.2.2.2.2.2.2.2.2.2.2.2.2.2.2.2.2.2.2.2.1, r40.2.2.2.2.2.2.2.2.2.2.2.2.2.2.2.2.2.2.2.2.2.2.1, r40.2.2.2.2.2.2.2.2.2.2.2.2.2.2.2.2.2.2.2.2.2.2.2.1, r40.2.2.2.2.2.2.2.2.2.2.2.2.2.2.2.2.2.2.2.2.2.2.2.2.1, r40.2.2.2.2.2.2.2.2.2.2.2.2.2.2.2.2.2.2.2.2.2.2.2.2.2.1, (r40.2.2.2.2.2.2.2.2.2.2.2.2.2.2.2.2.2.2.2.2.2.2.2.2.2.2.1, (upd (upd r40.2.2.2.2.2.2.2.2.2.2.2.2.2.2.2.2.2.2.2.2.2.2.2.2.2.2.2 (x2).toNatClampNeg ((0 : Int32) &&& 1)) ((x2 ^^^ (1 : Int32))).toNatClampNeg ((0 : Int32) &&& 1)))) r44)) else none) else none)) else none))
set_option maxRecDepth 100000 in
set_option maxHeartbeats 4000000 in
theorem c_Mod_learns_L32 {l : Launch} {D : va_G} {cI cL cZ : ClassId} {p : Program} {e : Env} {s : State} {m : MethodId} {args : Array Value} {below : List Frame} {meth : Method} {c : Code} {A : Nat → Prop} (o_Mod a_Mod_0 a_Mod_1 a_Mod_2 a_Mod_3 a_Mod_4 a_Mod_5 a_Mod_6 a_Mod_7 a_Mod_8 a_Mod_9 a_Mod_10 a_Mod_11 a_Mod_12 a_Mod_13 a_Mod_14 : Nat) (out : T_Mod × Int32) (X : X_Mod_learns p s m args c D cI cL cZ A) (N : nk NM0 NF0 s) (hr : meth.sig.returnType = some .boolean) (hlk : meth.locks = false) : ∀ (nn : Nat), ∀ (v_Mod : T_Mod) (x2 : Int32), m_Mod_learns_L32 nn v_Mod x2 = some out → J_Mod_learns p l e s m args below meth c D cI cL cZ A (O_Mod_learns cI cL cZ o_Mod a_Mod_0 a_Mod_1 a_Mod_2 a_Mod_3 a_Mod_4 a_Mod_5 a_Mod_6 a_Mod_7 a_Mod_8 a_Mod_9 a_Mod_10 a_Mod_11 a_Mod_12 a_Mod_13 a_Mod_14 out) 0 0 (w_Mod cI cL cZ o_Mod a_Mod_0 a_Mod_1 a_Mod_2 a_Mod_3 a_Mod_4 a_Mod_5 a_Mod_6 a_Mod_7 a_Mod_8 a_Mod_9 a_Mod_10 a_Mod_11 a_Mod_12 a_Mod_13 a_Mod_14 v_Mod) 0 0 32 [(0, .ref o_Mod), (2, .int x2)] [] := by
  intro nn
  induction nn with
  | zero => intro v_Mod x2 hm; exact absurd hm (by simp [m_Mod_learns_L32])
  | succ nn ih32 =>
    intro v_Mod x2 hm
    unfold m_Mod_learns_L32 at hm
    refine aj_iload_n X d_Mod_learns_32 1 rfl ?_
    refine aj_if_lt X 72 d_Mod_learns_33 (by decide) (fun h => ?_) (fun h => ?_)
    · have hm := ite_t hm h
      refine aj_iconst (v := (0 : Int32)) X d_Mod_learns_72 (by decide) ?_
      refine aj_istore_n (lv' := [(2, .int (0 : Int32)), (0, .ref o_Mod)]) X d_Mod_learns_73 rfl (by decide) rfl ?_
      refine aj_iconst (v := (-1 : Int32)) X d_Mod_learns_74 (by decide) ?_
      refine aj_istore_n (lv' := [(3, .int (-1 : Int32)), (2, .int (0 : Int32)), (0, .ref o_Mod)]) X d_Mod_learns_75 rfl (by decide) rfl ?_
      refine aj_iconst (v := (0 : Int32)) X d_Mod_learns_76 (by decide) ?_
      refine aj_istore (lv' := [(4, .int (0 : Int32)), (3, .int (-1 : Int32)), (2, .int (0 : Int32)), (0, .ref o_Mod)]) X d_Mod_learns_77 (by decide) rfl ?_
      refine aj_iconst (v := (0 : Int32)) X d_Mod_learns_79 (by decide) ?_
      refine aj_istore (lv' := [(5, .int (0 : Int32)), (4, .int (0 : Int32)), (3, .int (-1 : Int32)), (2, .int (0 : Int32)), (0, .ref o_Mod)]) X d_Mod_learns_80 (by decide) rfl ?_
      refine aj_lv (lv' := [(0, .ref o_Mod), (2, .int (0 : Int32)), (3, .int (-1 : Int32)), (4, .int (0 : Int32)), (5, .int (0 : Int32))]) [4, 3, 2, 1, 0] rfl ?_
      exact c_Mod_learns_L82 o_Mod a_Mod_0 a_Mod_1 a_Mod_2 a_Mod_3 a_Mod_4 a_Mod_5 a_Mod_6 a_Mod_7 a_Mod_8 a_Mod_9 a_Mod_10 a_Mod_11 a_Mod_12 a_Mod_13 a_Mod_14 out X N hr hlk fu v_Mod (0 : Int32) (-1 : Int32) (0 : Int32) (0 : Int32) hm
    · have hm := ite_f hm h
      refine aj_aload_n X d_Mod_learns_36 0 rfl ?_
      refine aj_aload_n X d_Mod_learns_37 0 rfl ?_
      refine aj_get X d_Mod_learns_38 in_Mod 0 rfl rfl 20 (by decide) lf_Mod_73 rfl ?_
      refine aj_iload_n X d_Mod_learns_41 1 rfl ?_
      refine aj_iconst (v := (2 : Int32)) X d_Mod_learns_42 (by decide) ?_
      refine aj_idiv X d_Mod_learns_43 (by decide) ?_
      obtain ⟨b39, hm⟩ := chk_of hm
      refine aj_iald X d_Mod_learns_44 13 0 rfl rfl b39 ?_
      obtain ⟨r40, h41, hm⟩ := bnd_of hm
      refine aj_callV (wr := []) X (aj_rV (As := [.int (v_Mod.2.2.2.2.2.2.2.2.2.2.2.2.2.2.2.2.2.2.2.2.1.2 ((x2 / (2 : Int32))).toNatClampNeg)]) (rest := []) X N gTB (c_Mod_mix (D := D) (cI := cI) (cL := cL) (cZ := cZ) o_Mod a_Mod_0 a_Mod_1 a_Mod_2 a_Mod_3 a_Mod_4 a_Mod_5 a_Mod_6 a_Mod_7 a_Mod_8 a_Mod_9 a_Mod_10 a_Mod_11 a_Mod_12 a_Mod_13 a_Mod_14 v_Mod (v_Mod.2.2.2.2.2.2.2.2.2.2.2.2.2.2.2.2.2.2.2.2.1.2 ((x2 / (2 : Int32))).toNatClampNeg) r40 h41) d_Mod_learns_45 lk_Mod_mix lw_Mod_102 lh_Mod_mix ⟨(Nat.le_of_ble_eq_true rfl), (Nat.le_of_ble_eq_true rfl)⟩ [0, 1, 2, 3, 4, 5, 6, 7, 8, 9, 10, 11, 12, 13, 14, 15] rfl rfl 0 rfl rfl rfl rfl (Nat.le_of_ble_eq_true rfl) ⟨Nat.le_refl _, Nat.le_refl _⟩) [0, 1, 2, 3, 4, 5, 6, 7, 8, 9, 10, 11, 12, 13, 14, 15] [] rfl rfl rfl (by decide) (fun w1 hO => ?_)
      obtain rfl := hO
      refine aj_perm (ws' := w_Mod cI cL cZ o_Mod a_Mod_0 a_Mod_1 a_Mod_2 a_Mod_3 a_Mod_4 a_Mod_5 a_Mod_6 a_Mod_7 a_Mod_8 a_Mod_9 a_Mod_10 a_Mod_11 a_Mod_12 a_Mod_13 a_Mod_14 r40) [0, 1, 2, 3, 4, 5, 6, 7, 8, 9, 10, 11, 12, 13, 14, 15] rfl rfl ?_
      refine aj_aload_n X d_Mod_learns_48 0 rfl ?_
      refine aj_get X d_Mod_learns_49 in_Mod 0 rfl rfl 26 (by decide) lf_Mod_92 rfl ?_
      refine aj_iload_n X d_Mod_learns_52 1 rfl ?_
      refine aj_iconst (v := (0 : Int32)) X d_Mod_learns_53 (by decide) ?_
      obtain ⟨b42, hm⟩ := chk_of hm
      refine aj_zast (ws' := w_Mod cI cL cZ o_Mod a_Mod_0 a_Mod_1 a_Mod_2 a_Mod_3 a_Mod_4 a_Mod_5 a_Mod_6 a_Mod_7 a_Mod_8 a_Mod_9 a_Mod_10 a_Mod_11 a_Mod_12 a_Mod_13 a_Mod_14 (r40.1, r40.2.1, r40.2.2.1, r40.2.2.2.1, r40.2.2.2.2.1, r40.2.2.2.2.2.1, r40.2.2.2.2.2.2.1, r40.2.2.2.2.2.2.2.1, r40.2.2.2.2.2.2.2.2.1, r40.2.2.2.2.2.2.2.2.2.1, r40.2.2.2.2.2.2.2.2.2.2.1, r40.2.2.2.2.2.2.2.2.2.2.2.1, r40.2.2.2.2.2.2.2.2.2.2.2.2.1, r40.2.2.2.2.2.2.2.2.2.2.2.2.2.1, r40.2.2.2.2.2.2.2.2.2.2.2.2.2.2.1, r40.2.2.2.2.2.2.2.2.2.2.2.2.2.2.2.1, r40.2.2.2.2.2.2.2.2.2.2.2.2.2.2.2.2.1, r40.2.2.2.2.2.2.2.2.2.2.2.2.2.2.2.2.2.1, r40.2.2.2.2.2.2.2.2.2.2.2.2.2.2.2.2.2.2.1, r40.2.2.2.2.2.2.2.2.2.2.2.2.2.2.2.2.2.2.2.1, r40.2.2.2.2.2.2.2.2.2.2.2.2.2.2.2.2.2.2.2.2.1, r40.2.2.2.2.2.2.2.2.2.2.2.2.2.2.2.2.2.2.2.2.2.1, r40.2.2.2.2.2.2.2.2.2.2.2.2.2.2.2.2.2.2.2.2.2.2.1, r40.2.2.2.2.2.2.2.2.2.2.2.2.2.2.2.2.2.2.2.2.2.2.2.1, r40.2.2.2.2.2.2.2.2.2.2.2.2.2.2.2.2.2.2.2.2.2.2.2.2.1, r40.2.2.2.2.2.2.2.2.2.2.2.2.2.2.2.2.2.2.2.2.2.2.2.2.2.1, (r40.2.2.2.2.2.2.2.2.2.2.2.2.2.2.2.2.2.2.2.2.2.2.2.2.2.2.1, (upd r40.2.2.2.2.2.2.2.2.2.2.2.2.2.2.2.2.2.2.2.2.2.2.2.2.2.2.2 (x2).toNatClampNeg ((0 : Int32) &&& 1))))) X d_Mod_learns_54 15 2 rfl rfl b42 rfl ?_
      refine aj_aload_n X d_Mod_learns_55 0 rfl ?_
      refine aj_get X d_Mod_learns_56 in_Mod 0 rfl rfl 26 (by decide) lf_Mod_92 rfl ?_
      refine aj_iload_n X d_Mod_learns_59 1 rfl ?_
      refine aj_iconst (v := (1 : Int32)) X d_Mod_learns_60 (by decide) ?_
      refine aj_ixor X d_Mod_learns_61 ?_
      refine aj_iconst (v := (0 : Int32)) X d_Mod_learns_62 (by decide) ?_
      obtain ⟨b43, hm⟩ := chk_of hm
      refine aj_zast (ws' := w_Mod cI cL cZ o_Mod a_Mod_0 a_Mod_1 a_Mod_2 a_Mod_3 a_Mod_4 a_Mod_5 a_Mod_6 a_Mod_7 a_Mod_8 a_Mod_9 a_Mod_10 a_Mod_11 a_Mod_12 a_Mod_13 a_Mod_14 (r40.1, r40.2.1, r40.2.2.1, r40.2.2.2.1, r40.2.2.2.2.1, r40.2.2.2.2.2.1, r40.2.2.2.2.2.2.1, r40.2.2.2.2.2.2.2.1, r40.2.2.2.2.2.2.2.2.1, r40.2.2.2.2.2.2.2.2.2.1, r40.2.2.2.2.2.2.2.2.2.2.1, r40.2.2.2.2.2.2.2.2.2.2.2.1, r40.2.2.2.2.2.2.2.2.2.2.2.2.1, r40.2.2.2.2.2.2.2.2.2.2.2.2.2.1, r40.2.2.2.2.2.2.2.2.2.2.2.2.2.2.1, r40.2.2.2.2.2.2.2.2.2.2.2.2.2.2.2.1, r40.2.2.2.2.2.2.2.2.2.2.2.2.2.2.2.2.1, r40.2.2.2.2.2.2.2.2.2.2.2.2.2.2.2.2.2.1, r40.2.2.2.2.2.2.2.2.2.2.2.2.2.2.2.2.2.2.1, r40.2.2.2.2.2.2.2.2.2.2.2.2.2.2.2.2.2.2.2.1, r40.2.2.2.2.2.2.2.2.2.2.2.2.2.2.2.2.2.2.2.2.1, r40.2.2.2.2.2.2.2.2.2.2.2.2.2.2.2.2.2.2.2.2.2.1, r40.2.2.2.2.2.2.2.2.2.2.2.2.2.2.2.2.2.2.2.2.2.2.1, r40.2.2.2.2.2.2.2.2.2.2.2.2.2.2.2.2.2.2.2.2.2.2.2.1, r40.2.2.2.2.2.2.2.2.2.2.2.2.2.2.2.2.2.2.2.2.2.2.2.2.1, r40.2.2.2.2.2.2.2.2.2.2.2.2.2.2.2.2.2.2.2.2.2.2.2.2.2.1, (r40.2.2.2.2.2.2.2.2.2.2.2.2.2.2.2.2.2.2.2.2.2.2.2.2.2.2.1, (upd (upd r40.2.2.2.2.2.2.2.2.2.2.2.2.2.2.2.2.2.2.2.2.2.2.2.2.2.2.2 (x2).toNatClampNeg ((0 : Int32) &&& 1)) ((x2 ^^^ (1 : Int32))).toNatClampNeg ((0 : Int32) &&& 1))))) X d_Mod_learns_63 15 2 rfl rfl b43 rfl ?_
      refine aj_aload_n X d_Mod_learns_64 0 rfl ?_
      obtain ⟨r44, h45, hm⟩ := bnd_of hm
      refine aj_callI (wr := []) X (aj_rV (As := []) (rest := []) X N gTB (c_Mod_last (D := D) (cI := cI) (cL := cL) (cZ := cZ) o_Mod a_Mod_0 a_Mod_1 a_Mod_2 a_Mod_3 a_Mod_4 a_Mod_5 a_Mod_6 a_Mod_7 a_Mod_8 a_Mod_9 a_Mod_10 a_Mod_11 a_Mod_12 a_Mod_13 a_Mod_14 (r40.1, r40.2.1, r40.2.2.1, r40.2.2.2.1, r40.2.2.2.2.1, r40.2.2.2.2.2.1, r40.2.2.2.2.2.2.1, r40.2.2.2.2.2.2.2.1, r40.2.2.2.2.2.2.2.2.1, r40.2.2.2.2.2.2.2.2.2.1, r40.2.2.2.2.2.2.2.2.2.2.1, r40.2.2.2.2.2.2.2.2.2.2.2.1, r40.2.2.2.2.2.2.2.2.2.2.2.2.1, r40.2.2.2.2.2.2.2.2.2.2.2.2.2.1, r40.2.2.2.2.2.2.2.2.2.2.2.2.2.2.1, r40.2.2.2.2.2.2.2.2.2.2.2.2.2.2.2.1, r40.2.2.2.2.2.2.2.2.2.2.2.2.2.2.2.2.1, r40.2.2.2.2.2.2.2.2.2.2.2.2.2.2.2.2.2.1, r40.2.2.2.2.2.2.2.2.2.2.2.2.2.2.2.2.2.2.1, r40.2.2.2.2.2.2.2.2.2.2.2.2.2.2.2.2.2.2.2.1, r40.2.2.2.2.2.2.2.2.2.2.2.2.2.2.2.2.2.2.2.2.1, r40.2.2.2.2.2.2.2.2.2.2.2.2.2.2.2.2.2.2.2.2.2.1, r40.2.2.2.2.2.2.2.2.2.2.2.2.2.2.2.2.2.2.2.2.2.2.1, r40.2.2.2.2.2.2.2.2.2.2.2.2.2.2.2.2.2.2.2.2.2.2.2.1, r40.2.2.2.2.2.2.2.2.2.2.2.2.2.2.2.2.2.2.2.2.2.2.2.2.1, r40.2.2.2.2.2.2.2.2.2.2.2.2.2.2.2.2.2.2.2.2.2.2.2.2.2.1, (r40.2.2.2.2.2.2.2.2.2.2.2.2.2.2.2.2.2.2.2.2.2.2.2.2.2.2.1, (upd (upd r40.2.2.2.2.2.2.2.2.2.2.2.2.2.2.2.2.2.2.2.2.2.2.2.2.2.2.2 (x2).toNatClampNeg ((0 : Int32) &&& 1)) ((x2 ^^^ (1 : Int32))).toNatClampNeg ((0 : Int32) &&& 1)))) r44 h45) d_Mod_learns_65 lk_Mod_last lw_Mod_106 lh_Mod_last ⟨(Nat.le_of_ble_eq_true rfl), (Nat.le_of_ble_eq_true rfl)⟩ [0, 1, 2, 3, 4, 5, 6, 7, 8, 9, 10, 11, 12, 13, 14, 15] rfl rfl 0 rfl rfl rfl rfl (Nat.le_of_ble_eq_true rfl) ⟨Nat.le_refl _, Nat.le_refl _⟩) [0, 1, 2, 3, 4, 5, 6, 7, 8, 9, 10, 11, 12, 13, 14, 15] [] rfl rfl rfl (by decide) (fun rr w1 hO => ?_)
      obtain ⟨rfl, rfl⟩ := hO
      refine aj_perm (ws' := w_Mod cI cL cZ o_Mod a_Mod_0 a_Mod_1 a_Mod_2 a_Mod_3 a_Mod_4 a_Mod_5 a_Mod_6 a_Mod_7 a_Mod_8 a_Mod_9 a_Mod_10 a_Mod_11 a_Mod_12 a_Mod_13 a_Mod_14 (r40.1, r40.2.1, r40.2.2.1, r40.2.2.2.1, r40.2.2.2.2.1, r40.2.2.2.2.2.1, r40.2.2.2.2.2.2.1, r40.2.2.2.2.2.2.2.1, r40.2.2.2.2.2.2.2.2.1, r40.2.2.2.2.2.2.2.2.2.1, r40.2.2.2.2.2.2.2.2.2.2.1, r40.2.2.2.2.2.2.2.2.2.2.2.1, r40.2.2.2.2.2.2.2.2.2.2.2.2.1, r40.2.2.2.2.2.2.2.2.2.2.2.2.2.1, r40.2.2.2.2.2.2.2.2.2.2.2.2.2.2.1, r40.2.2.2.2.2.2.2.2.2.2.2.2.2.2.2.1, r40.2.2.2.2.2.2.2.2.2.2.2.2.2.2.2.2.1, r40.2.2.2.2.2.2.2.2.2.2.2.2.2.2.2.2.2.1, r40.2.2.2.2.2.2.2.2.2.2.2.2.2.2.2.2.2.2.1, r40.2.2.2.2.2.2.2.2.2.2.2.2.2.2.2.2.2.2.2.1, r40.2.2.2.2.2.2.2.2.2.2.2.2.2.2.2.2.2.2.2.2.1, r40.2.2.2.2.2.2.2.2.2.2.2.2.2.2.2.2.2.2.2.2.2.1, r40.2.2.2.2.2.2.2.2.2.2.2.2.2.2.2.2.2.2.2.2.2.2.1, r40.2.2.2.2.2.2.2.2.2.2.2.2.2.2.2.2.2.2.2.2.2.2.2.1, r40.2.2.2.2.2.2.2.2.2.2.2.2.2.2.2.2.2.2.2.2.2.2.2.2.1, r40.2.2.2.2.2.2.2.2.2.2.2.2.2.2.2.2.2.2.2.2.2.2.2.2.2.1, (r40.2.2.2.2.2.2.2.2.2.2.2.2.2.2.2.2.2.2.2.2.2.2.2.2.2.2.1, (upd (upd r40.2.2.2.2.2.2.2.2.2.2.2.2.2.2.2.2.2.2.2.2.2.2.2.2.2.2.2 (x2).toNatClampNeg ((0 : Int32) &&& 1)) ((x2 ^^^ (1 : Int32))).toNatClampNeg ((0 : Int32) &&& 1))))) [0, 1, 2, 3, 4, 5, 6, 7, 8, 9, 10, 11, 12, 13, 14, 15] rfl rfl ?_
      refine aj_istore_n (lv' := [(2, .int r44), (0, .ref o_Mod)]) X d_Mod_learns_68 rfl (by decide) rfl ?_
      refine aj_goto X 32 d_Mod_learns_69 (by decide) ?_
      refine aj_lv (lv' := [(0, .ref o_Mod), (2, .int r44)]) [1, 0] rfl ?_
      exact ih32 (r40.1, r40.2.1, r40.2.2.1, r40.2.2.2.1, r40.2.2.2.2.1, r40.2.2.2.2.2.1, r40.2.2.2.2.2.2.1, r40.2.2.2.2.2.2.2.1, r40.2.2.2.2.2.2.2.2.1, r40.2.2.2.2.2.2.2.2.2.1, r40.2.2.2.2.2.2.2.2.2.2.1, r40.2.2.2.2.2.2.2.2.2.2.2.1, r40.2.2.2.2.2.2.2.2.2.2.2.2.1, r40.2.2.2.2.2.2.2.2.2.2.2.2.2.1, r40.2.2.2.2.2.2.2.2.2.2.2.2.2.2.1, r40.2.2.2.2.2.2.2.2.2.2.2.2.2.2.2.1, r40.2.2.2.2.2.2.2.2.2.2.2.2.2.2.2.2.1, r40.2.2.2.2.2.2.2.2.2.2.2.2.2.2.2.2.2.1, r40.2.2.2.2.2.2.2.2.2.2.2.2.2.2.2.2.2.2.1, r40.2.2.2.2.2.2.2.2.2.2.2.2.2.2.2.2.2.2.2.1, r40.2.2.2.2.2.2.2.2.2.2.2.2.2.2.2.2.2.2.2.2.1, r40.2.2.2.2.2.2.2.2.2.2.2.2.2.2.2.2.2.2.2.2.2.1, r40.2.2.2.2.2.2.2.2.2.2.2.2.2.2.2.2.2.2.2.2.2.2.1, r40.2.2.2.2.2.2.2.2.2.2.2.2.2.2.2.2.2.2.2.2.2.2.2.1, r40.2.2.2.2.2.2.2.2.2.2.2.2.2.2.2.2.2.2.2.2.2.2.2.2.1, r40.2.2.2.2.2.2.2.2.2.2.2.2.2.2.2.2.2.2.2.2.2.2.2.2.2.1, (r40.2.2.2.2.2.2.2.2.2.2.2.2.2.2.2.2.2.2.2.2.2.2.2.2.2.2.1, (upd (upd r40.2.2.2.2.2.2.2.2.2.2.2.2.2.2.2.2.2.2.2.2.2.2.2.2.2.2.2 (x2).toNatClampNeg ((0 : Int32) &&& 1)) ((x2 ^^^ (1 : Int32))).toNatClampNeg ((0 : Int32) &&& 1)))) r44 hm
def m_Mod_learns_L2 : Nat → T_Mod → Int32 → Int32 → Option (T_Mod × Int32)
  | 0, _, _, _ => none
  | f + 1, v_Mod, x1, x2 => (if (600 : Int32) ≤ x2 then ((m_Mod_mix v_Mod x1).bind fun r46 => ((m_Mod_last r46).bind fun r48 => (m_Mod_learns_L32 fu r46 r48))) else (if ¬ (x2 < 0 ∨ v_Mod.2.2.2.2.2.2.2.2.2.2.2.2.2.2.2.2.2.2.2.2.2.2.2.2.2.2.1 ≤ (x2).toNatClampNeg) then ((m_Mod_learns_L2 f) (v_Mod.1, v_Mod.2.1, v_Mod.2.2.1, v_Mod.2.2.2.1, v_Mod.2.2.2.2.1, v_Mod.2.2.2.2.2.1, v_Mod.2.2.2.2.2.2.1, v_Mod.2.2.2.2.2.2.2.1, v_Mod.2.2.2.2.2.2.2.2.1, v_Mod.2.2.2.2.2.2.2.2.2.1, v_Mod.2.2.2.2.2.2.2.2.2.2.1, v_Mod.2.2.2.2.2.2.2.2.2.2.2.1, v_Mod.2.2.2.2.2.2.2.2.2.2.2.2.1, v_Mod.2.2.2.2.2.2.2.2.2.2.2.2.2.1, v_Mod.2.2.2.2.2.2.2.2.2.2.2.2.2.2.1, v_Mod.2.2.2.2.2.2.2.2.2.2.2.2.2.2.2.1, v_Mod.2.2.2.2.2.2.2.2.2.2.2.2.2.2.2.2.1, v_Mod.2.2.2.2.2.2.2.2.2.2.2.2.2.2.2.2.2.1, v_Mod.2.2.2.2.2.2.2.2.2.2.2.2.2.2.2.2.2.2.1, v_Mod.2.2.2.2.2.2.2.2.2.2.2.2.2.2.2.2.2.2.2.1, v_Mod.2.2.2.2.2.2.2.2.2.2.2.2.2.2.2.2.2.2.2.2.1, v_Mod.2.2.2.2.2.2.2.2.2.2.2.2.2.2.2.2.2.2.2.2.2.1, v_Mod.2.2.2.2.2.2.2.2.2.2.2.2.2.2.2.2.2.2.2.2.2.2.1, v_Mod.2.2.2.2.2.2.2.2.2.2.2.2.2.2.2.2.2.2.2.2.2.2.2.1, v_Mod.2.2.2.2.2.2.2.2.2.2.2.2.2.2.2.2.2.2.2.2.2.2.2.2.1, v_Mod.2.2.2.2.2.2.2.2.2.2.2.2.2.2.2.2.2.2.2.2.2.2.2.2.2.1, (v_Mod.2.2.2.2.2.2.2.2.2.2.2.2.2.2.2.2.2.2.2.2.2.2.2.2.2.2.1, (upd v_Mod.2.2.2.2.2.2.2.2.2.2.2.2.2.2.2.2.2.2.2.2.2.2.2.2.2.2.2 (x2).toNatClampNeg ((0 : Int32) &&& 1)))) x1 (x2 + 1)) else none))
set_option maxRecDepth 100000 in
set_option maxHeartbeats 4000000 in
theorem c_Mod_learns_L2 {l : Launch} {D : va_G} {cI cL cZ : ClassId} {p : Program} {e : Env} {s : State} {m : MethodId} {args : Array Value} {below : List Frame} {meth : Method} {c : Code} {A : Nat → Prop} (o_Mod a_Mod_0 a_Mod_1 a_Mod_2 a_Mod_3 a_Mod_4 a_Mod_5 a_Mod_6 a_Mod_7 a_Mod_8 a_Mod_9 a_Mod_10 a_Mod_11 a_Mod_12 a_Mod_13 a_Mod_14 : Nat) (out : T_Mod × Int32) (X : X_Mod_learns p s m args c D cI cL cZ A) (N : nk NM0 NF0 s) (hr : meth.sig.returnType = some .boolean) (hlk : meth.locks = false) : ∀ (nn : Nat), ∀ (v_Mod : T_Mod) (x1 : Int32) (x2 : Int32), m_Mod_learns_L2 nn v_Mod x1 x2 = some out → J_Mod_learns p l e s m args below meth c D cI cL cZ A (O_Mod_learns cI cL cZ o_Mod a_Mod_0 a_Mod_1 a_Mod_2 a_Mod_3 a_Mod_4 a_Mod_5 a_Mod_6 a_Mod_7 a_Mod_8 a_Mod_9 a_Mod_10 a_Mod_11 a_Mod_12 a_Mod_13 a_Mod_14 out) 0 0 (w_Mod cI cL cZ o_Mod a_Mod_0 a_Mod_1 a_Mod_2 a_Mod_3 a_Mod_4 a_Mod_5 a_Mod_6 a_Mod_7 a_Mod_8 a_Mod_9 a_Mod_10 a_Mod_11 a_Mod_12 a_Mod_13 a_Mod_14 v_Mod) 0 0 2 [(0, .ref o_Mod), (1, .int x1), (2, .int x2)] [] := by
  intro nn
  induction nn with
  | zero => intro v_Mod x1 x2 hm; exact absurd hm (by simp [m_Mod_learns_L2])
  | succ nn ih2 =>
    intro v_Mod x1 x2 hm
    unfold m_Mod_learns_L2 at hm
    refine aj_iload_n X d_Mod_learns_2 2 rfl ?_
    refine aj_sipush (v := (600 : Int32)) X d_Mod_learns_3 (by decide) ?_
    refine aj_icmp_ge X 22 d_Mod_learns_6 (by decide) (fun h => ?_) (fun h => ?_)
    · have hm := ite_t hm h
      refine aj_aload_n X d_Mod_learns_22 0 rfl ?_
      refine aj_iload_n X d_Mod_learns_23 1 rfl ?_
      obtain ⟨r46, h47, hm⟩ := bnd_of hm
      refine aj_callV (wr := []) X (aj_rV (As := [.int x1]) (rest := []) X N gTB (c_Mod_mix (D := D) (cI := cI) (cL := cL) (cZ := cZ) o_Mod a_Mod_0 a_Mod_1 a_Mod_2 a_Mod_3 a_Mod_4 a_Mod_5 a_Mod_6 a_Mod_7 a_Mod_8 a_Mod_9 a_Mod_10 a_Mod_11 a_Mod_12 a_Mod_13 a_Mod_14 v_Mod x1 r46 h47) d_Mod_learns_24 lk_Mod_mix lw_Mod_102 lh_Mod_mix ⟨(Nat.le_of_ble_eq_true rfl), (Nat.le_of_ble_eq_true rfl)⟩ [0, 1, 2, 3, 4, 5, 6, 7, 8, 9, 10, 11, 12, 13, 14, 15] rfl rfl 0 rfl rfl rfl rfl (Nat.le_of_ble_eq_true rfl) ⟨Nat.le_refl _, Nat.le_refl _⟩) [0, 1, 2, 3, 4, 5, 6, 7, 8, 9, 10, 11, 12, 13, 14, 15] [] rfl rfl rfl (by decide) (fun w1 hO => ?_)
      obtain rfl := hO
      refine aj_perm (ws' := w_Mod cI cL cZ o_Mod a_Mod_0 a_Mod_1 a_Mod_2 a_Mod_3 a_Mod_4 a_Mod_5 a_Mod_6 a_Mod_7 a_Mod_8 a_Mod_9 a_Mod_10 a_Mod_11 a_Mod_12 a_Mod_13 a_Mod_14 r46) [0, 1, 2, 3, 4, 5, 6, 7, 8, 9, 10, 11, 12, 13, 14, 15] rfl rfl ?_
      refine aj_aload_n X d_Mod_learns_27 0 rfl ?_
      obtain ⟨r48, h49, hm⟩ := bnd_of hm
      refine aj_callI (wr := []) X (aj_rV (As := []) (rest := []) X N gTB (c_Mod_last (D := D) (cI := cI) (cL := cL) (cZ := cZ) o_Mod a_Mod_0 a_Mod_1 a_Mod_2 a_Mod_3 a_Mod_4 a_Mod_5 a_Mod_6 a_Mod_7 a_Mod_8 a_Mod_9 a_Mod_10 a_Mod_11 a_Mod_12 a_Mod_13 a_Mod_14 r46 r48 h49) d_Mod_learns_28 lk_Mod_last lw_Mod_106 lh_Mod_last ⟨(Nat.le_of_ble_eq_true rfl), (Nat.le_of_ble_eq_true rfl)⟩ [0, 1, 2, 3, 4, 5, 6, 7, 8, 9, 10, 11, 12, 13, 14, 15] rfl rfl 0 rfl rfl rfl rfl (Nat.le_of_ble_eq_true rfl) ⟨Nat.le_refl _, Nat.le_refl _⟩) [0, 1, 2, 3, 4, 5, 6, 7, 8, 9, 10, 11, 12, 13, 14, 15] [] rfl rfl rfl (by decide) (fun rr w1 hO => ?_)
      obtain ⟨rfl, rfl⟩ := hO
      refine aj_perm (ws' := w_Mod cI cL cZ o_Mod a_Mod_0 a_Mod_1 a_Mod_2 a_Mod_3 a_Mod_4 a_Mod_5 a_Mod_6 a_Mod_7 a_Mod_8 a_Mod_9 a_Mod_10 a_Mod_11 a_Mod_12 a_Mod_13 a_Mod_14 r46) [0, 1, 2, 3, 4, 5, 6, 7, 8, 9, 10, 11, 12, 13, 14, 15] rfl rfl ?_
      refine aj_istore_n (lv' := [(2, .int r48), (0, .ref o_Mod), (1, .int x1)]) X d_Mod_learns_31 rfl (by decide) rfl ?_
      refine aj_lv (lv' := [(0, .ref o_Mod), (2, .int r48)]) [1, 0] rfl ?_
      exact c_Mod_learns_L32 o_Mod a_Mod_0 a_Mod_1 a_Mod_2 a_Mod_3 a_Mod_4 a_Mod_5 a_Mod_6 a_Mod_7 a_Mod_8 a_Mod_9 a_Mod_10 a_Mod_11 a_Mod_12 a_Mod_13 a_Mod_14 out X N hr hlk fu r46 r48 hm
    · have hm := ite_f hm h
      refine aj_aload_n X d_Mod_learns_9 0 rfl ?_
      refine aj_get X d_Mod_learns_10 in_Mod 0 rfl rfl 26 (by decide) lf_Mod_92 rfl ?_
      refine aj_iload_n X d_Mod_learns_13 2 rfl ?_
      refine aj_iconst (v := (0 : Int32)) X d_Mod_learns_14 (by decide) ?_
      obtain ⟨b50, hm⟩ := chk_of hm
      refine aj_zast (ws' := w_Mod cI cL cZ o_Mod a_Mod_0 a_Mod_1 a_Mod_2 a_Mod_3 a_Mod_4 a_Mod_5 a_Mod_6 a_Mod_7 a_Mod_8 a_Mod_9 a_Mod_10 a_Mod_11 a_Mod_12 a_Mod_13 a_Mod_14 (v_Mod.1, v_Mod.2.1, v_Mod.2.2.1, v_Mod.2.2.2.1, v_Mod.2.2.2.2.1, v_Mod.2.2.2.2.2.1, v_Mod.2.2.2.2.2.2.1, v_Mod.2.2.2.2.2.2.2.1, v_Mod.2.2.2.2.2.2.2.2.1, v_Mod.2.2.2.2.2.2.2.2.2.1, v_Mod.2.2.2.2.2.2.2.2.2.2.1, v_Mod.2.2.2.2.2.2.2.2.2.2.2.1, v_Mod.2.2.2.2.2.2.2.2.2.2.2.2.1, v_Mod.2.2.2.2.2.2.2.2.2.2.2.2.2.1, v_Mod.2.2.2.2.2.2.2.2.2.2.2.2.2.2.1, v_Mod.2.2.2.2.2.2.2.2.2.2.2.2.2.2.2.1, v_Mod.2.2.2.2.2.2.2.2.2.2.2.2.2.2.2.2.1, v_Mod.2.2.2.2.2.2.2.2.2.2.2.2.2.2.2.2.2.1, v_Mod.2.2.2.2.2.2.2.2.2.2.2.2.2.2.2.2.2.2.1, v_Mod.2.2.2.2.2.2.2.2.2.2.2.2.2.2.2.2.2.2.2.1, v_Mod.2.2.2.2.2.2.2.2.2.2.2.2.2.2.2.2.2.2.2.2.1, v_Mod.2.2.2.2.2.2.2.2.2.2.2.2.2.2.2.2.2.2.2.2.2.1, v_Mod.2.2.2.2.2.2.2.2.2.2.2.2.2.2.2.2.2.2.2.2.2.2.1, v_Mod.2.2.2.2.2.2.2.2.2.2.2.2.2.2.2.2.2.2.2.2.2.2.2.1, v_Mod.2.2.2.2.2.2.2.2.2.2.2.2.2.2.2.2.2.2.2.2.2.2.2.2.1, v_Mod.2.2.2.2.2.2.2.2.2.2.2.2.2.2.2.2.2.2.2.2.2.2.2.2.2.1, (v_Mod.2.2.2.2.2.2.2.2.2.2.2.2.2.2.2.2.2.2.2.2.2.2.2.2.2.2.1, (upd v_Mod.2.2.2.2.2.2.2.2.2.2.2.2.2.2.2.2.2.2.2.2.2.2.2.2.2.2.2 (x2).toNatClampNeg ((0 : Int32) &&& 1))))) X d_Mod_learns_15 15 2 rfl rfl b50 rfl ?_
      refine aj_iinc (v := (x2 + 1)) (lv' := [(2, .int (x2 + 1)), (0, .ref o_Mod), (1, .int x1)]) X d_Mod_learns_16 2 rfl rfl (by decide) rfl ?_
      refine aj_goto X 2 d_Mod_learns_19 (by decide) ?_
      refine aj_lv (lv' := [(0, .ref o_Mod), (1, .int x1), (2, .int (x2 + 1))]) [1, 2, 0] rfl ?_
      exact ih2 (v_Mod.1, v_Mod.2.1, v_Mod.2.2.1, v_Mod.2.2.2.1, v_Mod.2.2.2.2.1, v_Mod.2.2.2.2.2.1, v_Mod.2.2.2.2.2.2.1, v_Mod.2.2.2.2.2.2.2.1, v_Mod.2.2.2.2.2.2.2.2.1, v_Mod.2.2.2.2.2.2.2.2.2.1, v_Mod.2.2.2.2.2.2.2.2.2.2.1, v_Mod.2.2.2.2.2.2.2.2.2.2.2.1, v_Mod.2.2.2.2.2.2.2.2.2.2.2.2.1, v_Mod.2.2.2.2.2.2.2.2.2.2.2.2.2.1, v_Mod.2.2.2.2.2.2.2.2.2.2.2.2.2.2.1, v_Mod.2.2.2.2.2.2.2.2.2.2.2.2.2.2.2.1, v_Mod.2.2.2.2.2.2.2.2.2.2.2.2.2.2.2.2.1, v_Mod.2.2.2.2.2.2.2.2.2.2.2.2.2.2.2.2.2.1, v_Mod.2.2.2.2.2.2.2.2.2.2.2.2.2.2.2.2.2.2.1, v_Mod.2.2.2.2.2.2.2.2.2.2.2.2.2.2.2.2.2.2.2.1, v_Mod.2.2.2.2.2.2.2.2.2.2.2.2.2.2.2.2.2.2.2.2.1, v_Mod.2.2.2.2.2.2.2.2.2.2.2.2.2.2.2.2.2.2.2.2.2.1, v_Mod.2.2.2.2.2.2.2.2.2.2.2.2.2.2.2.2.2.2.2.2.2.2.1, v_Mod.2.2.2.2.2.2.2.2.2.2.2.2.2.2.2.2.2.2.2.2.2.2.2.1, v_Mod.2.2.2.2.2.2.2.2.2.2.2.2.2.2.2.2.2.2.2.2.2.2.2.2.1, v_Mod.2.2.2.2.2.2.2.2.2.2.2.2.2.2.2.2.2.2.2.2.2.2.2.2.2.1, (v_Mod.2.2.2.2.2.2.2.2.2.2.2.2.2.2.2.2.2.2.2.2.2.2.2.2.2.2.1, (upd v_Mod.2.2.2.2.2.2.2.2.2.2.2.2.2.2.2.2.2.2.2.2.2.2.2.2.2.2.2 (x2).toNatClampNeg ((0 : Int32) &&& 1)))) x1 (x2 + 1) hm
def m_Mod_learns (v_Mod : T_Mod) (x1 : Int32) : Option (T_Mod × Int32) := (m_Mod_learns_L2 fu v_Mod x1 (0 : Int32))
set_option maxRecDepth 100000 in
set_option maxHeartbeats 4000000 in
theorem c_Mod_learns {l : Launch} {D : va_G} {cI cL cZ : ClassId} (o_Mod a_Mod_0 a_Mod_1 a_Mod_2 a_Mod_3 a_Mod_4 a_Mod_5 a_Mod_6 a_Mod_7 a_Mod_8 a_Mod_9 a_Mod_10 a_Mod_11 a_Mod_12 a_Mod_13 a_Mod_14 : Nat) (v_Mod : T_Mod) (x1 : Int32) (out : T_Mod × Int32) (hm : m_Mod_learns v_Mod x1 = some out) : ct l y_Mod_learns (Cond.code y_Mod_learns b_Mod_learns 6 (some .boolean) :: TB) 1 24 D clss (ty3 cI cL cZ) NM0 NF0 [.ref o_Mod, .int x1] (w_Mod cI cL cZ o_Mod a_Mod_0 a_Mod_1 a_Mod_2 a_Mod_3 a_Mod_4 a_Mod_5 a_Mod_6 a_Mod_7 a_Mod_8 a_Mod_9 a_Mod_10 a_Mod_11 a_Mod_12 a_Mod_13 a_Mod_14 v_Mod) (qI D clss (ty3 cI cL cZ) (O_Mod_learns cI cL cZ o_Mod a_Mod_0 a_Mod_1 a_Mod_2 a_Mod_3 a_Mod_4 a_Mod_5 a_Mod_6 a_Mod_7 a_Mod_8 a_Mod_9 a_Mod_10 a_Mod_11 a_Mod_12 a_Mod_13 a_Mod_14 out)) 0 0 := by
  refine ct_of (plainFor_of_name (by decide)) (Nat.le_of_ble_eq_true rfl) (fun p e s m args below meth c A X N hr hlk hnm => ?_)
  refine aj_lv (lv' := [(0, .ref o_Mod), (1, .int x1)]) [0, 1] rfl ?_
  unfold m_Mod_learns at hm
  refine aj_iconst (v := (0 : Int32)) X d_Mod_learns_0 (by decide) ?_
  refine aj_istore_n (lv' := [(2, .int (0 : Int32)), (0, .ref o_Mod), (1, .int x1)]) X d_Mod_learns_1 rfl (by decide) rfl ?_
  refine aj_lv (lv' := [(0, .ref o_Mod), (1, .int x1), (2, .int (0 : Int32))]) [1, 2, 0] rfl ?_
  exact c_Mod_learns_L2 o_Mod a_Mod_0 a_Mod_1 a_Mod_2 a_Mod_3 a_Mod_4 a_Mod_5 a_Mod_6 a_Mod_7 a_Mod_8 a_Mod_9 a_Mod_10 a_Mod_11 a_Mod_12 a_Mod_13 a_Mod_14 out X N hr hlk fu v_Mod x1 (0 : Int32) hm
abbrev X_Mod_findCore (p : Program) (s : State) (m : MethodId) (args : Array Value) (c : Code) (D : va_G) (cI cL cZ : ClassId) (A : Nat → Prop) : Prop := aj_C p s m args c D clss (ty3 cI cL cZ) A b_Mod_findCore 5 R_Mod TB
abbrev J_Mod_findCore (p : Program) (l : Launch) (e : Env) (s : State) (m : MethodId) (args : Array Value) (below : List Frame) (meth : Method) (c : Code) (D : va_G) (cI cL cZ : ClassId) (A : Nat → Prop) (O : va_W → Prop) (mc ms : Nat) (ws : va_W) (kc ks pc : Nat) (lv : List (Nat × Value)) (st : List Value) : Prop := aj p l e { frames := 0, cells := mc, slots := ms, locals := 0 } s m args below meth c (MQ below (qV D clss (ty3 cI cL cZ) O A) args s mc ms A) D clss A 5 ws kc ks pc lv st
def O_Mod_findCore (cI cL cZ : ClassId) (o_Mod a_Mod_0 a_Mod_1 a_Mod_2 a_Mod_3 a_Mod_4 a_Mod_5 a_Mod_6 a_Mod_7 a_Mod_8 a_Mod_9 a_Mod_10 a_Mod_11 a_Mod_12 a_Mod_13 a_Mod_14 : Nat) (out : T_Mod) : va_W → Prop := fun w1 => w1 = w_Mod cI cL cZ o_Mod a_Mod_0 a_Mod_1 a_Mod_2 a_Mod_3 a_Mod_4 a_Mod_5 a_Mod_6 a_Mod_7 a_Mod_8 a_Mod_9 a_Mod_10 a_Mod_11 a_Mod_12 a_Mod_13 a_Mod_14 out
def m_Mod_findCore_B205 (again73 : T_Mod → Int32 → Option (T_Mod)) (v_Mod : T_Mod) (x2 : Int32) : Option (T_Mod) := (again73 v_Mod (x2 + (-1)))
set_option maxRecDepth 100000 in
set_option maxHeartbeats 4000000 in
theorem c_Mod_findCore_B205 {l : Launch} {D : va_G} {cI cL cZ : ClassId} {p : Program} {e : Env} {s : State} {m : MethodId} {args : Array Value} {below : List Frame} {meth : Method} {c : Code} {A : Nat → Prop} (o_Mod a_Mod_0 a_Mod_1 a_Mod_2 a_Mod_3 a_Mod_4 a_Mod_5 a_Mod_6 a_Mod_7 a_Mod_8 a_Mod_9 a_Mod_10 a_Mod_11 a_Mod_12 a_Mod_13 a_Mod_14 : Nat) (out : T_Mod) (X : X_Mod_findCore p s m args c D cI cL cZ A) (N : nk NM0 NF0 s) (hr : meth.sig.returnType = none) (hlk : meth.locks = false) (again73 : T_Mod → Int32 → Option (T_Mod)) (ih73 : ∀ (v_Mod : T_Mod) (x2 : Int32), again73 v_Mod x2 = some out → J_Mod_findCore p l e s m args below meth c D cI cL cZ A (O_Mod_findCore cI cL cZ o_Mod a_Mod_0 a_Mod_1 a_Mod_2 a_Mod_3 a_Mod_4 a_Mod_5 a_Mod_6 a_Mod_7 a_Mod_8 a_Mod_9 a_Mod_10 a_Mod_11 a_Mod_12 a_Mod_13 a_Mod_14 out) 0 0 (w_Mod cI cL cZ o_Mod a_Mod_0 a_Mod_1 a_Mod_2 a_Mod_3 a_Mod_4 a_Mod_5 a_Mod_6 a_Mod_7 a_Mod_8 a_Mod_9 a_Mod_10 a_Mod_11 a_Mod_12 a_Mod_13 a_Mod_14 v_Mod) 0 0 73 [(0, .ref o_Mod), (2, .int x2)] []) : ∀ (v_Mod : T_Mod) (x2 : Int32), m_Mod_findCore_B205 again73 v_Mod x2 = some out → J_Mod_findCore p l e s m args below meth c D cI cL cZ A (O_Mod_findCore cI cL cZ o_Mod a_Mod_0 a_Mod_1 a_Mod_2 a_Mod_3 a_Mod_4 a_Mod_5 a_Mod_6 a_Mod_7 a_Mod_8 a_Mod_9 a_Mod_10 a_Mod_11 a_Mod_12 a_Mod_13 a_Mod_14 out) 0 0 (w_Mod cI cL cZ o_Mod a_Mod_0 a_Mod_1 a_Mod_2 a_Mod_3 a_Mod_4 a_Mod_5 a_Mod_6 a_Mod_7 a_Mod_8 a_Mod_9 a_Mod_10 a_Mod_11 a_Mod_12 a_Mod_13 a_Mod_14 v_Mod) 0 0 205 [(0, .ref o_Mod), (2, .int x2)] [] := by
  intro v_Mod x2 hm
  unfold m_Mod_findCore_B205 at hm
  refine aj_iinc (v := (x2 + (-1))) (lv' := [(2, .int (x2 + (-1))), (0, .ref o_Mod)]) X d_Mod_findCore_205 1 rfl rfl (by decide) rfl ?_
  refine aj_goto X 73 d_Mod_findCore_208 (by decide) ?_
  refine aj_lv (lv' := [(0, .ref o_Mod), (2, .int (x2 + (-1)))]) [1, 0] rfl ?_
  exact ih73 v_Mod (x2 + (-1)) hm
def m_Mod_findCore_B199 (again73 : T_Mod → Int32 → Option (T_Mod)) (again169 : T_Mod → Int32 → Int32 → Int32 → Option (T_Mod)) (v_Mod : T_Mod) (x2 : Int32) (x3 : Int32) (x4 : Int32) : Option (T_Mod) := (again169 v_Mod x2 x3 (x4 + 1))
set_option maxRecDepth 100000 in
set_option maxHeartbeats 4000000 in
theorem c_Mod_findCore_B199 {l : Launch} {D : va_G} {cI cL cZ : ClassId} {p : Program} {e : Env} {s : State} {m : MethodId} {args : Array Value} {below : List Frame} {meth : Method} {c : Code} {A : Nat → Prop} (o_Mod a_Mod_0 a_Mod_1 a_Mod_2 a_Mod_3 a_Mod_4 a_Mod_5 a_Mod_6 a_Mod_7 a_Mod_8 a_Mod_9 a_Mod_10 a_Mod_11 a_Mod_12 a_Mod_13 a_Mod_14 : Nat) (out : T_Mod) (X : X_Mod_findCore p s m args c D cI cL cZ A) (N : nk NM0 NF0 s) (hr : meth.sig.returnType = none) (hlk : meth.locks = false) (again73 : T_Mod → Int32 → Option (T_Mod)) (ih73 : ∀ (v_Mod : T_Mod) (x2 : Int32), again73 v_Mod x2 = some out → J_Mod_findCore p l e s m args below meth c D cI cL cZ A (O_Mod_findCore cI cL cZ o_Mod a_Mod_0 a_Mod_1 a_Mod_2 a_Mod_3 a_Mod_4 a_Mod_5 a_Mod_6 a_Mod_7 a_Mod_8 a_Mod_9 a_Mod_10 a_Mod_11 a_Mod_12 a_Mod_13 a_Mod_14 out) 0 0 (w_Mod cI cL cZ o_Mod a_Mod_0 a_Mod_1 a_Mod_2 a_Mod_3 a_Mod_4 a_Mod_5 a_Mod_6 a_Mod_7 a_Mod_8 a_Mod_9 a_Mod_10 a_Mod_11 a_Mod_12 a_Mod_13 a_Mod_14 v_Mod) 0 0 73 [(0, .ref o_Mod), (2, .int x2)] []) (again169 : T_Mod → Int32 → Int32 → Int32 → Option (T_Mod)) (ih169 : ∀ (v_Mod : T_Mod) (x2 : Int32) (x3 : Int32) (x4 : Int32), again169 v_Mod x2 x3 x4 = some out → J_Mod_findCore p l e s m args below meth c D cI cL cZ A (O_Mod_findCore cI cL cZ o_Mod a_Mod_0 a_Mod_1 a_Mod_2 a_Mod_3 a_Mod_4 a_Mod_5 a_Mod_6 a_Mod_7 a_Mod_8 a_Mod_9 a_Mod_10 a_Mod_11 a_Mod_12 a_Mod_13 a_Mod_14 out) 0 0 (w_Mod cI cL cZ o_Mod a_Mod_0 a_Mod_1 a_Mod_2 a_Mod_3 a_Mod_4 a_Mod_5 a_Mod_6 a_Mod_7 a_Mod_8 a_Mod_9 a_Mod_10 a_Mod_11 a_Mod_12 a_Mod_13 a_Mod_14 v_Mod) 0 0 169 [(0, .ref o_Mod), (2, .int x2), (3, .int x3), (4, .int x4)] []) : ∀ (v_Mod : T_Mod) (x2 : Int32) (x3 : Int32) (x4 : Int32), m_Mod_findCore_B199 again73 again169 v_Mod x2 x3 x4 = some out → J_Mod_findCore p l e s m args below meth c D cI cL cZ A (O_Mod_findCore cI cL cZ o_Mod a_Mod_0 a_Mod_1 a_Mod_2 a_Mod_3 a_Mod_4 a_Mod_5 a_Mod_6 a_Mod_7 a_Mod_8 a_Mod_9 a_Mod_10 a_Mod_11 a_Mod_12 a_Mod_13 a_Mod_14 out) 0 0 (w_Mod cI cL cZ o_Mod a_Mod_0 a_Mod_1 a_Mod_2 a_Mod_3 a_Mod_4 a_Mod_5 a_Mod_6 a_Mod_7 a_Mod_8 a_Mod_9 a_Mod_10 a_Mod_11 a_Mod_12 a_Mod_13 a_Mod_14 v_Mod) 0 0 199 [(0, .ref o_Mod), (2, .int x2), (3, .int x3), (4, .int x4)] [] := by
  intro v_Mod x2 x3 x4 hm
  unfold m_Mod_findCore_B199 at hm
  refine aj_iinc (v := (x4 + 1)) (lv' := [(4, .int (x4 + 1)), (0, .ref o_Mod), (2, .int x2), (3, .int x3)]) X d_Mod_findCore_199 3 rfl rfl (by decide) rfl ?_
  refine aj_goto X 169 d_Mod_findCore_202 (by decide) ?_
  refine aj_lv (lv' := [(0, .ref o_Mod), (2, .int x2), (3, .int x3), (4, .int (x4 + 1))]) [1, 2, 3, 0] rfl ?_
  exact ih169 v_Mod x2 x3 (x4 + 1) hm
def m_Mod_findCore_L169 (again73 : T_Mod → Int32 → Option (T_Mod)) : Nat → T_Mod → Int32 → Int32 → Int32 → Option (T_Mod)
  | 0, _, _, _, _ => none
  | f + 1, v_Mod, x2, x3, x4 => (if v_Mod.2.2.2.2.2.2.2.2.2.2.2.2.1 ≤ x4 then (m_Mod_findCore_B205 again73 v_Mod x2) else (if ¬ (x4 < 0 ∨ v_Mod.2.2.2.2.2.2.2.2.2.2.2.2.2.1.1 ≤ (x4).toNatClampNeg) then (if ((v_Mod.2.2.2.2.2.2.2.2.2.2.2.2.2.1.2 (x4).toNatClampNeg) / (2 : Int32)) = x3 then (if ¬ (x4 < 0 ∨ v_Mod.2.2.2.2.2.2.2.2.2.2.2.2.2.2.2.1.1 ≤ (x4).toNatClampNeg) then (m_Mod_findCore_B199 again73 (m_Mod_findCore_L169 again73 f) (v_Mod.1, v_Mod.2.1, v_Mod.2.2.1, v_Mod.2.2.2.1, v_Mod.2.2.2.2.1, v_Mod.2.2.2.2.2.1, v_Mod.2.2.2.2.2.2.1, v_Mod.2.2.2.2.2.2.2.1, v_Mod.2.2.2.2.2.2.2.2.1, v_Mod.2.2.2.2.2.2.2.2.2.1, v_Mod.2.2.2.2.2.2.2.2.2.2.1, v_Mod.2.2.2.2.2.2.2.2.2.2.2.1, v_Mod.2.2.2.2.2.2.2.2.2.2.2.2.1, v_Mod.2.2.2.2.2.2.2.2.2.2.2.2.2.1, v_Mod.2.2.2.2.2.2.2.2.2.2.2.2.2.2.1, (v_Mod.2.2.2.2.2.2.2.2.2.2.2.2.2.2.2.1.1, (upd v_Mod.2.2.2.2.2.2.2.2.2.2.2.2.2.2.2.1.2 (x4).toNatClampNeg ((1 : Int32) &&& 1))), v_Mod.2.2.2.2.2.2.2.2.2.2.2.2.2.2.2.2.1, v_Mod.2.2.2.2.2.2.2.2.2.2.2.2.2.2.2.2.2.1, v_Mod.2.2.2.2.2.2.2.2.2.2.2.2.2.2.2.2.2.2.1, v_Mod.2.2.2.2.2.2.2.2.2.2.2.2.2.2.2.2.2.2.2.1, v_Mod.2.2.2.2.2.2.2.2.2.2.2.2.2.2.2.2.2.2.2.2.1, v_Mod.2.2.2.2.2.2.2.2.2.2.2.2.2.2.2.2.2.2.2.2.2.1, v_Mod.2.2.2.2.2.2.2.2.2.2.2.2.2.2.2.2.2.2.2.2.2.2.1, v_Mod.2.2.2.2.2.2.2.2.2.2.2.2.2.2.2.2.2.2.2.2.2.2.2.1, v_Mod.2.2.2.2.2.2.2.2.2.2.2.2.2.2.2.2.2.2.2.2.2.2.2.2.1, v_Mod.2.2.2.2.2.2.2.2.2.2.2.2.2.2.2.2.2.2.2.2.2.2.2.2.2.1, v_Mod.2.2.2.2.2.2.2.2.2.2.2.2.2.2.2.2.2.2.2.2.2.2.2.2.2.2) x2 x3 x4) else none) else (m_Mod_findCore_B199 again73 (m_Mod_findCore_L169 again73 f) v_Mod x2 x3 x4)) else none))
set_option maxRecDepth 100000 in
set_option maxHeartbeats 4000000 in
theorem c_Mod_findCore_L169 {l : Launch} {D : va_G} {cI cL cZ : ClassId} {p : Program} {e : Env} {s : State} {m : MethodId} {args : Array Value} {below : List Frame} {meth : Method} {c : Code} {A : Nat → Prop} (o_Mod a_Mod_0 a_Mod_1 a_Mod_2 a_Mod_3 a_Mod_4 a_Mod_5 a_Mod_6 a_Mod_7 a_Mod_8 a_Mod_9 a_Mod_10 a_Mod_11 a_Mod_12 a_Mod_13 a_Mod_14 : Nat) (out : T_Mod) (X : X_Mod_findCore p s m args c D cI cL cZ A) (N : nk NM0 NF0 s) (hr : meth.sig.returnType = none) (hlk : meth.locks = false) (again73 : T_Mod → Int32 → Option (T_Mod)) (ih73 : ∀ (v_Mod : T_Mod) (x2 : Int32), again73 v_Mod x2 = some out → J_Mod_findCore p l e s m args below meth c D cI cL cZ A (O_Mod_findCore cI cL cZ o_Mod a_Mod_0 a_Mod_1 a_Mod_2 a_Mod_3 a_Mod_4 a_Mod_5 a_Mod_6 a_Mod_7 a_Mod_8 a_Mod_9 a_Mod_10 a_Mod_11 a_Mod_12 a_Mod_13 a_Mod_14 out) 0 0 (w_Mod cI cL cZ o_Mod a_Mod_0 a_Mod_1 a_Mod_2 a_Mod_3 a_Mod_4 a_Mod_5 a_Mod_6 a_Mod_7 a_Mod_8 a_Mod_9 a_Mod_10 a_Mod_11 a_Mod_12 a_Mod_13 a_Mod_14 v_Mod) 0 0 73 [(0, .ref o_Mod), (2, .int x2)] []) : ∀ (nn : Nat), ∀ (v_Mod : T_Mod) (x2 : Int32) (x3 : Int32) (x4 : Int32), m_Mod_findCore_L169 again73 nn v_Mod x2 x3 x4 = some out → J_Mod_findCore p l e s m args below meth c D cI cL cZ A (O_Mod_findCore cI cL cZ o_Mod a_Mod_0 a_Mod_1 a_Mod_2 a_Mod_3 a_Mod_4 a_Mod_5 a_Mod_6 a_Mod_7 a_Mod_8 a_Mod_9 a_Mod_10 a_Mod_11 a_Mod_12 a_Mod_13 a_Mod_14 out) 0 0 (w_Mod cI cL cZ o_Mod a_Mod_0 a_Mod_1 a_Mod_2 a_Mod_3 a_Mod_4 a_Mod_5 a_Mod_6 a_Mod_7 a_Mod_8 a_Mod_9 a_Mod_10 a_Mod_11 a_Mod_12 a_Mod_13 a_Mod_14 v_Mod) 0 0 169 [(0, .ref o_Mod), (2, .int x2), (3, .int x3), (4, .int x4)] [] := by
  intro nn
  induction nn with
  | zero => intro v_Mod x2 x3 x4 hm; exact absurd hm (by simp [m_Mod_findCore_L169])
  | succ nn ih169 =>
    intro v_Mod x2 x3 x4 hm
    unfold m_Mod_findCore_L169 at hm
    refine aj_iload X d_Mod_findCore_169 3 rfl ?_
    refine aj_aload_n X d_Mod_findCore_171 0 rfl ?_
    refine aj_get X d_Mod_findCore_172 in_Mod 0 rfl rfl 12 (by decide) lf_Mod_48 rfl ?_
    refine aj_icmp_ge X 205 d_Mod_findCore_175 (by decide) (fun h => ?_) (fun h => ?_)
    · have hm := ite_t hm h
      refine aj_lv (lv' := [(0, .ref o_Mod), (2, .int x2)]) [0, 1] rfl ?_
      exact c_Mod_findCore_B205 o_Mod a_Mod_0 a_Mod_1 a_Mod_2 a_Mod_3 a_Mod_4 a_Mod_5 a_Mod_6 a_Mod_7 a_Mod_8 a_Mod_9 a_Mod_10 a_Mod_11 a_Mod_12 a_Mod_13 a_Mod_14 out X N hr hlk again73 ih73 v_Mod x2 hm
    · have hm := ite_f hm h
      refine aj_aload_n X d_Mod_findCore_178 0 rfl ?_
      refine aj_get X d_Mod_findCore_179 in_Mod 0 rfl rfl 13 (by decide) lf_Mod_51 rfl ?_
      refine aj_iload X d_Mod_findCore_182 3 rfl ?_
      obtain ⟨b1, hm⟩ := chk_of hm
      refine aj_iald X d_Mod_findCore_184 8 0 rfl rfl b1 ?_
      refine aj_iconst (v := (2 : Int32)) X d_Mod_findCore_185 (by decide) ?_
      refine aj_idiv X d_Mod_findCore_186 (by decide) ?_
      refine aj_iload_n X d_Mod_findCore_187 2 rfl ?_
      refine aj_icmp_ne X 199 d_Mod_findCore_188 (by decide) (fun h => ?_) (fun h => ?_)
      · have hm := ite_f hm h
        exact c_Mod_findCore_B199 o_Mod a_Mod_0 a_Mod_1 a_Mod_2 a_Mod_3 a_Mod_4 a_Mod_5 a_Mod_6 a_Mod_7 a_Mod_8 a_Mod_9 a_Mod_10 a_Mod_11 a_Mod_12 a_Mod_13 a_Mod_14 out X N hr hlk again73 ih73 (m_Mod_findCore_L169 again73 nn) ih169 v_Mod x2 x3 x4 hm
      · have hm := ite_t hm h
        refine aj_aload_n X d_Mod_findCore_191 0 rfl ?_
        refine aj_get X d_Mod_findCore_192 in_Mod 0 rfl rfl 15 (by decide) lf_Mod_58 rfl ?_
        refine aj_iload X d_Mod_findCore_195 3 rfl ?_
        refine aj_iconst (v := (1 : Int32)) X d_Mod_findCore_197 (by decide) ?_
        obtain ⟨b2, hm⟩ := chk_of hm
        refine aj_zast (ws' := w_Mod cI cL cZ o_Mod a_Mod_0 a_Mod_1 a_Mod_2 a_Mod_3 a_Mod_4 a_Mod_5 a_Mod_6 a_Mod_7 a_Mod_8 a_Mod_9 a_Mod_10 a_Mod_11 a_Mod_12 a_Mod_13 a_Mod_14 (v_Mod.1, v_Mod.2.1, v_Mod.2.2.1, v_Mod.2.2.2.1, v_Mod.2.2.2.2.1, v_Mod.2.2.2.2.2.1, v_Mod.2.2.2.2.2.2.1, v_Mod.2.2.2.2.2.2.2.1, v_Mod.2.2.2.2.2.2.2.2.1, v_Mod.2.2.2.2.2.2.2.2.2.1, v_Mod.2.2.2.2.2.2.2.2.2.2.1, v_Mod.2.2.2.2.2.2.2.2.2.2.2.1, v_Mod.2.2.2.2.2.2.2.2.2.2.2.2.1, v_Mod.2.2.2.2.2.2.2.2.2.2.2.2.2.1, v_Mod.2.2.2.2.2.2.2.2.2.2.2.2.2.2.1, (v_Mod.2.2.2.2.2.2.2.2.2.2.2.2.2.2.2.1.1, (upd v_Mod.2.2.2.2.2.2.2.2.2.2.2.2.2.2.2.1.2 (x4).toNatClampNeg ((1 : Int32) &&& 1))), v_Mod.2.2.2.2.2.2.2.2.2.2.2.2.2.2.2.2.1, v_Mod.2.2.2.2.2.2.2.2.2.2.2.2.2.2.2.2.2.1, v_Mod.2.2.2.2.2.2.2.2.2.2.2.2.2.2.2.2.2.2.1, v_Mod.2.2.2.2.2.2.2.2.2.2.2.2.2.2.2.2.2.2.2.1, v_Mod.2.2.2.2.2.2.2.2.2.2.2.2.2.2.2.2.2.2.2.2.1, v_Mod.2.2.2.2.2.2.2.2.2.2.2.2.2.2.2.2.2.2.2.2.2.1, v_Mod.2.2.2.2.2.2.2.2.2.2.2.2.2.2.2.2.2.2.2.2.2.2.1, v_Mod.2.2.2.2.2.2.2.2.2.2.2.2.2.2.2.2.2.2.2.2.2.2.2.1, v_Mod.2.2.2.2.2.2.2.2.2.2.2.2.2.2.2.2.2.2.2.2.2.2.2.2.1, v_Mod.2.2.2.2.2.2.2.2.2.2.2.2.2.2.2.2.2.2.2.2.2.2.2.2.2.1, v_Mod.2.2.2.2.2.2.2.2.2.2.2.2.2.2.2.2.2.2.2.2.2.2.2.2.2.2)) X d_Mod_findCore_198 9 2 rfl rfl b2 rfl ?_
        exact c_Mod_findCore_B199 o_Mod a_Mod_0 a_Mod_1 a_Mod_2 a_Mod_3 a_Mod_4 a_Mod_5 a_Mod_6 a_Mod_7 a_Mod_8 a_Mod_9 a_Mod_10 a_Mod_11 a_Mod_12 a_Mod_13 a_Mod_14 out X N hr hlk again73 ih73 (m_Mod_findCore_L169 again73 nn) ih169 (v_Mod.1, v_Mod.2.1, v_Mod.2.2.1, v_Mod.2.2.2.1, v_Mod.2.2.2.2.1, v_Mod.2.2.2.2.2.1, v_Mod.2.2.2.2.2.2.1, v_Mod.2.2.2.2.2.2.2.1, v_Mod.2.2.2.2.2.2.2.2.1, v_Mod.2.2.2.2.2.2.2.2.2.1, v_Mod.2.2.2.2.2.2.2.2.2.2.1, v_Mod.2.2.2.2.2.2.2.2.2.2.2.1, v_Mod.2.2.2.2.2.2.2.2.2.2.2.2.1, v_Mod.2.2.2.2.2.2.2.2.2.2.2.2.2.1, v_Mod.2.2.2.2.2.2.2.2.2.2.2.2.2.2.1, (v_Mod.2.2.2.2.2.2.2.2.2.2.2.2.2.2.2.1.1, (upd v_Mod.2.2.2.2.2.2.2.2.2.2.2.2.2.2.2.1.2 (x4).toNatClampNeg ((1 : Int32) &&& 1))), v_Mod.2.2.2.2.2.2.2.2.2.2.2.2.2.2.2.2.1, v_Mod.2.2.2.2.2.2.2.2.2.2.2.2.2.2.2.2.2.1, v_Mod.2.2.2.2.2.2.2.2.2.2.2.2.2.2.2.2.2.2.1, v_Mod.2.2.2.2.2.2.2.2.2.2.2.2.2.2.2.2.2.2.2.1, v_Mod.2.2.2.2.2.2.2.2.2.2.2.2.2.2.2.2.2.2.2.2.1, v_Mod.2.2.2.2.2.2.2.2.2.2.2.2.2.2.2.2.2.2.2.2.2.1, v_Mod.2.2.2.2.2.2.2.2.2.2.2.2.2.2.2.2.2.2.2.2.2.2.1, v_Mod.2.2.2.2.2.2.2.2.2.2.2.2.2.2.2.2.2.2.2.2.2.2.2.1, v_Mod.2.2.2.2.2.2.2.2.2.2.2.2.2.2.2.2.2.2.2.2.2.2.2.2.1, v_Mod.2.2.2.2.2.2.2.2.2.2.2.2.2.2.2.2.2.2.2.2.2.2.2.2.2.1, v_Mod.2.2.2.2.2.2.2.2.2.2.2.2.2.2.2.2.2.2.2.2.2.2.2.2.2.2) x2 x3 x4 hm
def m_Mod_findCore_B157 (again73 : T_Mod → Int32 → Option (T_Mod)) (v_Mod : T_Mod) (x2 : Int32) (x3 : Int32) : Option (T_Mod) := (if ¬ (x3 < 0 ∨ v_Mod.2.2.2.2.2.2.2.2.2.2.2.2.2.2.2.2.2.2.2.2.2.2.2.2.2.2.1 ≤ (x3).toNatClampNeg) then (if (v_Mod.2.2.2.2.2.2.2.2.2.2.2.2.2.2.2.2.2.2.2.2.2.2.2.2.2.2.2 (x3).toNatClampNeg) = 0 then (m_Mod_findCore_B205 again73 v_Mod x2) else (m_Mod_findCore_L169 again73 fu v_Mod x2 x3 (0 : Int32))) else none)
set_option maxRecDepth 100000 in
set_option maxHeartbeats 4000000 in
theorem c_Mod_findCore_B157 {l : Launch} {D : va_G} {cI cL cZ : ClassId} {p : Program} {e : Env} {s : State} {m : MethodId} {args : Array Value} {below : List Frame} {meth : Method} {c : Code} {A : Nat → Prop} (o_Mod a_Mod_0 a_Mod_1 a_Mod_2 a_Mod_3 a_Mod_4 a_Mod_5 a_Mod_6 a_Mod_7 a_Mod_8 a_Mod_9 a_Mod_10 a_Mod_11 a_Mod_12 a_Mod_13 a_Mod_14 : Nat) (out : T_Mod) (X : X_Mod_findCore p s m args c D cI cL cZ A) (N : nk NM0 NF0 s) (hr : meth.sig.returnType = none) (hlk : meth.locks = false) (again73 : T_Mod → Int32 → Option (T_Mod)) (ih73 : ∀ (v_Mod : T_Mod) (x2 : Int32), again73 v_Mod x2 = some out → J_Mod_findCore p l e s m args below meth c D cI cL cZ A (O_Mod_findCore cI cL cZ o_Mod a_Mod_0 a_Mod_1 a_Mod_2 a_Mod_3 a_Mod_4 a_Mod_5 a_Mod_6 a_Mod_7 a_Mod_8 a_Mod_9 a_Mod_10 a_Mod_11 a_Mod_12 a_Mod_13 a_Mod_14 out) 0 0 (w_Mod cI cL cZ o_Mod a_Mod_0 a_Mod_1 a_Mod_2 a_Mod_3 a_Mod_4 a_Mod_5 a_Mod_6 a_Mod_7 a_Mod_8 a_Mod_9 a_Mod_10 a_Mod_11 a_Mod_12 a_Mod_13 a_Mod_14 v_Mod) 0 0 73 [(0, .ref o_Mod), (2, .int x2)] []) : ∀ (v_Mod : T_Mod) (x2 : Int32) (x3 : Int32), m_Mod_findCore_B157 again73 v_Mod x2 x3 = some out → J_Mod_findCore p l e s m args below meth c D cI cL cZ A (O_Mod_findCore cI cL cZ o_Mod a_Mod_0 a_Mod_1 a_Mod_2 a_Mod_3 a_Mod_4 a_Mod_5 a_Mod_6 a_Mod_7 a_Mod_8 a_Mod_9 a_Mod_10 a_Mod_11 a_Mod_12 a_Mod_13 a_Mod_14 out) 0 0 (w_Mod cI cL cZ o_Mod a_Mod_0 a_Mod_1 a_Mod_2 a_Mod_3 a_Mod_4 a_Mod_5 a_Mod_6 a_Mod_7 a_Mod_8 a_Mod_9 a_Mod_10 a_Mod_11 a_Mod_12 a_Mod_13 a_Mod_14 v_Mod) 0 0 157 [(0, .ref o_Mod), (2, .int x2), (3, .int x3)] [] := by
  intro v_Mod x2 x3 hm
  unfold m_Mod_findCore_B157 at hm
  refine aj_aload_n X d_Mod_findCore_157 0 rfl ?_
  refine aj_get X d_Mod_findCore_158 in_Mod 0 rfl rfl 26 (by decide) lf_Mod_92 rfl ?_
  refine aj_iload_n X d_Mod_findCore_161 2 rfl ?_
  obtain ⟨b3, hm⟩ := chk_of hm
  refine aj_zald X d_Mod_findCore_162 15 2 rfl rfl b3 ?_
  refine aj_if_eq X 205 d_Mod_findCore_163 (by decide) (fun h => ?_) (fun h => ?_)
  · have hm := ite_t hm h
    refine aj_lv (lv' := [(0, .ref o_Mod), (2, .int x2)]) [0, 1] rfl ?_
    exact c_Mod_findCore_B205 o_Mod a_Mod_0 a_Mod_1 a_Mod_2 a_Mod_3 a_Mod_4 a_Mod_5 a_Mod_6 a_Mod_7 a_Mod_8 a_Mod_9 a_Mod_10 a_Mod_11 a_Mod_12 a_Mod_13 a_Mod_14 out X N hr hlk again73 ih73 v_Mod x2 hm
  · have hm := ite_f hm h
    refine aj_iconst (v := (0 : Int32)) X d_Mod_findCore_166 (by decide) ?_
    refine aj_istore (lv' := [(4, .int (0 : Int32)), (0, .ref o_Mod), (2, .int x2), (3, .int x3)]) X d_Mod_findCore_167 (by decide) rfl ?_
    refine aj_lv (lv' := [(0, .ref o_Mod), (2, .int x2), (3, .int x3), (4, .int (0 : Int32))]) [1, 2, 3, 0] rfl ?_
    exact c_Mod_findCore_L169 o_Mod a_Mod_0 a_Mod_1 a_Mod_2 a_Mod_3 a_Mod_4 a_Mod_5 a_Mod_6 a_Mod_7 a_Mod_8 a_Mod_9 a_Mod_10 a_Mod_11 a_Mod_12 a_Mod_13 a_Mod_14 out X N hr hlk again73 ih73 fu v_Mod x2 x3 (0 : Int32) hm
def m_Mod_findCore_L115 (again73 : T_Mod → Int32 → Option (T_Mod)) : Nat → T_Mod → Int32 → Int32 → Int32 → Option (T_Mod)
  | 0, _, _, _, _ => none
  | f + 1, v_Mod, x2, x3, x4 => (if ¬ (x3 < 0 ∨ v_Mod.2.2.2.2.2.2.2.2.2.2.2.2.2.2.2.2.2.2.2.2.1.1 ≤ (x3).toNatClampNeg) then (if ¬ (((v_Mod.2.2.2.2.2.2.2.2.2.2.2.2.2.2.2.2.2.2.2.2.1.2 (x3).toNatClampNeg) + (1 : Int32)) < 0 ∨ v_Mod.2.2.2.1.1 ≤ (((v_Mod.2.2.2.2.2.2.2.2.2.2.2.2.2.2.2.2.2.2.2.2.1.2 (x3).toNatClampNeg) + (1 : Int32))).toNatClampNeg) then (if (v_Mod.2.2.2.1.2 (((v_Mod.2.2.2.2.2.2.2.2.2.2.2.2.2.2.2.2.2.2.2.2.1.2 (x3).toNatClampNeg) + (1 : Int32))).toNatClampNeg) ≤ x4 then (m_Mod_findCore_B205 again73 v_Mod x2) else (if ¬ (x4 < 0 ∨ v_Mod.2.2.1.1 ≤ (x4).toNatClampNeg) then (if ¬ (((v_Mod.2.2.1.2 (x4).toNatClampNeg) / (2 : Int32)) < 0 ∨ v_Mod.2.2.2.2.2.2.2.2.2.2.2.2.2.2.2.2.2.2.2.2.2.2.2.2.2.2.1 ≤ (((v_Mod.2.2.1.2 (x4).toNatClampNeg) / (2 : Int32))).toNatClampNeg) then ((m_Mod_findCore_L115 again73 f) (v_Mod.1, v_Mod.2.1, v_Mod.2.2.1, v_Mod.2.2.2.1, v_Mod.2.2.2.2.1, v_Mod.2.2.2.2.2.1, v_Mod.2.2.2.2.2.2.1, v_Mod.2.2.2.2.2.2.2.1, v_Mod.2.2.2.2.2.2.2.2.1, v_Mod.2.2.2.2.2.2.2.2.2.1, v_Mod.2.2.2.2.2.2.2.2.2.2.1, v_Mod.2.2.2.2.2.2.2.2.2.2.2.1, v_Mod.2.2.2.2.2.2.2.2.2.2.2.2.1, v_Mod.2.2.2.2.2.2.2.2.2.2.2.2.2.1, v_Mod.2.2.2.2.2.2.2.2.2.2.2.2.2.2.1, v_Mod.2.2.2.2.2.2.2.2.2.2.2.2.2.2.2.1, v_Mod.2.2.2.2.2.2.2.2.2.2.2.2.2.2.2.2.1, v_Mod.2.2.2.2.2.2.2.2.2.2.2.2.2.2.2.2.2.1, v_Mod.2.2.2.2.2.2.2.2.2.2.2.2.2.2.2.2.2.2.1, v_Mod.2.2.2.2.2.2.2.2.2.2.2.2.2.2.2.2.2.2.2.1, v_Mod.2.2.2.2.2.2.2.2.2.2.2.2.2.2.2.2.2.2.2.2.1, v_Mod.2.2.2.2.2.2.2.2.2.2.2.2.2.2.2.2.2.2.2.2.2.1, v_Mod.2.2.2.2.2.2.2.2.2.2.2.2.2.2.2.2.2.2.2.2.2.2.1, v_Mod.2.2.2.2.2.2.2.2.2.2.2.2.2.2.2.2.2.2.2.2.2.2.2.1, v_Mod.2.2.2.2.2.2.2.2.2.2.2.2.2.2.2.2.2.2.2.2.2.2.2.2.1, v_Mod.2.2.2.2.2.2.2.2.2.2.2.2.2.2.2.2.2.2.2.2.2.2.2.2.2.1, (v_Mod.2.2.2.2.2.2.2.2.2.2.2.2.2.2.2.2.2.2.2.2.2.2.2.2.2.2.1, (upd v_Mod.2.2.2.2.2.2.2.2.2.2.2.2.2.2.2.2.2.2.2.2.2.2.2.2.2.2.2 (((v_Mod.2.2.1.2 (x4).toNatClampNeg) / (2 : Int32))).toNatClampNeg ((1 : Int32) &&& 1)))) x2 x3 (x4 + 1)) else none) else none)) else none) else none)
set_option maxRecDepth 100000 in
set_option maxHeartbeats 4000000 in
theorem c_Mod_findCore_L115 {l : Launch} {D : va_G} {cI cL cZ : ClassId} {p : Program} {e : Env} {s : State} {m : MethodId} {args : Array Value} {below : List Frame} {meth : Method} {c : Code} {A : Nat → Prop} (o_Mod a_Mod_0 a_Mod_1 a_Mod_2 a_Mod_3 a_Mod_4 a_Mod_5 a_Mod_6 a_Mod_7 a_Mod_8 a_Mod_9 a_Mod_10 a_Mod_11 a_Mod_12 a_Mod_13 a_Mod_14 : Nat) (out : T_Mod) (X : X_Mod_findCore p s m args c D cI cL cZ A) (N : nk NM0 NF0 s) (hr : meth.sig.returnType = none) (hlk : meth.locks = false) (again73 : T_Mod → Int32 → Option (T_Mod)) (ih73 : ∀ (v_Mod : T_Mod) (x2 : Int32), again73 v_Mod x2 = some out → J_Mod_findCore p l e s m args below meth c D cI cL cZ A (O_Mod_findCore cI cL cZ o_Mod a_Mod_0 a_Mod_1 a_Mod_2 a_Mod_3 a_Mod_4 a_Mod_5 a_Mod_6 a_Mod_7 a_Mod_8 a_Mod_9 a_Mod_10 a_Mod_11 a_Mod_12 a_Mod_13 a_Mod_14 out) 0 0 (w_Mod cI cL cZ o_Mod a_Mod_0 a_Mod_1 a_Mod_2 a_Mod_3 a_Mod_4 a_Mod_5 a_Mod_6 a_Mod_7 a_Mod_8 a_Mod_9 a_Mod_10 a_Mod_11 a_Mod_12 a_Mod_13 a_Mod_14 v_Mod) 0 0 73 [(0, .ref o_Mod), (2, .int x2)] []) : ∀ (nn : Nat), ∀ (v_Mod : T_Mod) (x2 : Int32) (x3 : Int32) (x4 : Int32), m_Mod_findCore_L115 again73 nn v_Mod x2 x3 x4 = some out → J_Mod_findCore p l e s m args below meth c D cI cL cZ A (O_Mod_findCore cI cL cZ o_Mod a_Mod_0 a_Mod_1 a_Mod_2 a_Mod_3 a_Mod_4 a_Mod_5 a_Mod_6 a_Mod_7 a_Mod_8 a_Mod_9 a_Mod_10 a_Mod_11 a_Mod_12 a_Mod_13 a_Mod_14 out) 0 0 (w_Mod cI cL cZ o_Mod a_Mod_0 a_Mod_1 a_Mod_2 a_Mod_3 a_Mod_4 a_Mod_5 a_Mod_6 a_Mod_7 a_Mod_8 a_Mod_9 a_Mod_10 a_Mod_11 a_Mod_12 a_Mod_13 a_Mod_14 v_Mod) 0 0 115 [(0, .ref o_Mod), (2, .int x2), (3, .int x3), (4, .int x4)] [] := by
  intro nn
  induction nn with
  | zero => intro v_Mod x2 x3 x4 hm; exact absurd hm (by simp [m_Mod_findCore_L115])
  | succ nn ih115 =>
    intro v_Mod x2 x3 x4 hm
    unfold m_Mod_findCore_L115 at hm
    refine aj_iload X d_Mod_findCore_115 3 rfl ?_
    refine aj_aload_n X d_Mod_findCore_117 0 rfl ?_
    refine aj_get X d_Mod_findCore_118 in_Mod 0 rfl rfl 3 (by decide) lf_Mod_20 rfl ?_
    refine aj_aload_n X d_Mod_findCore_121 0 rfl ?_
    refine aj_get X d_Mod_findCore_122 in_Mod 0 rfl rfl 20 (by decide) lf_Mod_73 rfl ?_
    refine aj_iload_n X d_Mod_findCore_125 2 rfl ?_
    obtain ⟨b4, hm⟩ := chk_of hm
    refine aj_iald X d_Mod_findCore_126 13 0 rfl rfl b4 ?_
    refine aj_iconst (v := (1 : Int32)) X d_Mod_findCore_127 (by decide) ?_
    refine aj_iadd X d_Mod_findCore_128 ?_
    obtain ⟨b5, hm⟩ := chk_of hm
    refine aj_iald X d_Mod_findCore_129 2 0 rfl rfl b5 ?_
    refine aj_icmp_ge X 154 d_Mod_findCore_130 (by decide) (fun h => ?_) (fun h => ?_)
    · have hm := ite_t hm h
      refine aj_goto X 205 d_Mod_findCore_154 (by decide) ?_
      refine aj_lv (lv' := [(0, .ref o_Mod), (2, .int x2)]) [0, 1] rfl ?_
      exact c_Mod_findCore_B205 o_Mod a_Mod_0 a_Mod_1 a_Mod_2 a_Mod_3 a_Mod_4 a_Mod_5 a_Mod_6 a_Mod_7 a_Mod_8 a_Mod_9 a_Mod_10 a_Mod_11 a_Mod_12 a_Mod_13 a_Mod_14 out X N hr hlk again73 ih73 v_Mod x2 hm
    · have hm := ite_f hm h
      refine aj_aload_n X d_Mod_findCore_133 0 rfl ?_
      refine aj_get X d_Mod_findCore_134 in_Mod 0 rfl rfl 26 (by decide) lf_Mod_92 rfl ?_
      refine aj_aload_n X d_Mod_findCore_137 0 rfl ?_
      refine aj_get X d_Mod_findCore_138 in_Mod 0 rfl rfl 2 (by decide) lf_Mod_16 rfl ?_
      refine aj_iload X d_Mod_findCore_141 3 rfl ?_
      obtain ⟨b6, hm⟩ := chk_of hm
      refine aj_iald X d_Mod_findCore_143 1 0 rfl rfl b6 ?_
      refine aj_iconst (v := (2 : Int32)) X d_Mod_findCore_144 (by decide) ?_
      refine aj_idiv X d_Mod_findCore_145 (by decide) ?_
      refine aj_iconst (v := (1 : Int32)) X d_Mod_findCore_146 (by decide) ?_
      obtain ⟨b7, hm⟩ := chk_of hm
      refine aj_zast (ws' := w_Mod cI cL cZ o_Mod a_Mod_0 a_Mod_1 a_Mod_2 a_Mod_3 a_Mod_4 a_Mod_5 a_Mod_6 a_Mod_7 a_Mod_8 a_Mod_9 a_Mod_10 a_Mod_11 a_Mod_12 a_Mod_13 a_Mod_14 (v_Mod.1, v_Mod.2.1, v_Mod.2.2.1, v_Mod.2.2.2.1, v_Mod.2.2.2.2.1, v_Mod.2.2.2.2.2.1, v_Mod.2.2.2.2.2.2.1, v_Mod.2.2.2.2.2.2.2.1, v_Mod.2.2.2.2.2.2.2.2.1, v_Mod.2.2.2.2.2.2.2.2.2.1, v_Mod.2.2.2.2.2.2.2.2.2.2.1, v_Mod.2.2.2.2.2.2.2.2.2.2.2.1, v_Mod.2.2.2.2.2.2.2.2.2.2.2.2.1, v_Mod.2.2.2.2.2.2.2.2.2.2.2.2.2.1, v_Mod.2.2.2.2.2.2.2.2.2.2.2.2.2.2.1, v_Mod.2.2.2.2.2.2.2.2.2.2.2.2.2.2.2.1, v_Mod.2.2.2.2.2.2.2.2.2.2.2.2.2.2.2.2.1, v_Mod.2.2.2.2.2.2.2.2.2.2.2.2.2.2.2.2.2.1, v_Mod.2.2.2.2.2.2.2.2.2.2.2.2.2.2.2.2.2.2.1, v_Mod.2.2.2.2.2.2.2.2.2.2.2.2.2.2.2.2.2.2.2.1, v_Mod.2.2.2.2.2.2.2.2.2.2.2.2.2.2.2.2.2.2.2.2.1, v_Mod.2.2.2.2.2.2.2.2.2.2.2.2.2.2.2.2.2.2.2.2.2.1, v_Mod.2.2.2.2.2.2.2.2.2.2.2.2.2.2.2.2.2.2.2.2.2.2.1, v_Mod.2.2.2.2.2.2.2.2.2.2.2.2.2.2.2.2.2.2.2.2.2.2.2.1, v_Mod.2.2.2.2.2.2.2.2.2.2.2.2.2.2.2.2.2.2.2.2.2.2.2.2.1, v_Mod.2.2.2.2.2.2.2.2.2.2.2.2.2.2.2.2.2.2.2.2.2.2.2.2.2.1, (v_Mod.2.2.2.2.2.2.2.2.2.2.2.2.2.2.2.2.2.2.2.2.2.2.2.2.2.2.1, (upd v_Mod.2.2.2.2.2.2.2.2.2.2.2.2.2.2.2.2.2.2.2.2.2.2.2.2.2.2.2 (((v_Mod.2.2.1.2 (x4).toNatClampNeg) / (2 : Int32))).toNatClampNeg ((1 : Int32) &&& 1))))) X d_Mod_findCore_147 15 2 rfl rfl b7 rfl ?_
      refine aj_iinc (v := (x4 + 1)) (lv' := [(4, .int (x4 + 1)), (0, .ref o_Mod), (2, .int x2), (3, .int x3)]) X d_Mod_findCore_148 3 rfl rfl (by decide) rfl ?_
      refine aj_goto X 115 d_Mod_findCore_151 (by decide) ?_
      refine aj_lv (lv' := [(0, .ref o_Mod), (2, .int x2), (3, .int x3), (4, .int (x4 + 1))]) [1, 2, 3, 0] rfl ?_
      exact ih115 (v_Mod.1, v_Mod.2.1, v_Mod.2.2.1, v_Mod.2.2.2.1, v_Mod.2.2.2.2.1, v_Mod.2.2.2.2.2.1, v_Mod.2.2.2.2.2.2.1, v_Mod.2.2.2.2.2.2.2.1, v_Mod.2.2.2.2.2.2.2.2.1, v_Mod.2.2.2.2.2.2.2.2.2.1, v_Mod.2.2.2.2.2.2.2.2.2.2.1, v_Mod.2.2.2.2.2.2.2.2.2.2.2.1, v_Mod.2.2.2.2.2.2.2.2.2.2.2.2.1, v_Mod.2.2.2.2.2.2.2.2.2.2.2.2.2.1, v_Mod.2.2.2.2.2.2.2.2.2.2.2.2.2.2.1, v_Mod.2.2.2.2.2.2.2.2.2.2.2.2.2.2.2.1, v_Mod.2.2.2.2.2.2.2.2.2.2.2.2.2.2.2.2.1, v_Mod.2.2.2.2.2.2.2.2.2.2.2.2.2.2.2.2.2.1, v_Mod.2.2.2.2.2.2.2.2.2.2.2.2.2.2.2.2.2.2.1, v_Mod.2.2.2.2.2.2.2.2.2.2.2.2.2.2.2.2.2.2.2.1, v_Mod.2.2.2.2.2.2.2.2.2.2.2.2.2.2.2.2.2.2.2.2.1, v_Mod.2.2.2.2.2.2.2.2.2.2.2.2.2.2.2.2.2.2.2.2.2.1, v_Mod.2.2.2.2.2.2.2.2.2.2.2.2.2.2.2.2.2.2.2.2.2.2.1, v_Mod.2.2.2.2.2.2.2.2.2.2.2.2.2.2.2.2.2.2.2.2.2.2.2.1, v_Mod.2.2.2.2.2.2.2.2.2.2.2.2.2.2.2.2.2.2.2.2.2.2.2.2.1, v_Mod.2.2.2.2.2.2.2.2.2.2.2.2.2.2.2.2.2.2.2.2.2.2.2.2.2.1, (v_Mod.2.2.2.2.2.2.2.2.2.2.2.2.2.2.2.2.2.2.2.2.2.2.2.2.2.2.1, (upd v_Mod.2.2.2.2.2.2.2.2.2.2.2.2.2.2.2.2.2.2.2.2.2.2.2.2.2.2.2 (((v_Mod.2.2.1.2 (x4).toNatClampNeg) / (2 : Int32))).toNatClampNeg ((1 : Int32) &&& 1)))) x2 x3 (x4 + 1) hm
def m_Mod_findCore_L73 : Nat → T_Mod → Int32 → Option (T_Mod)
  | 0, _, _ => none
  | f + 1, v_Mod, x2 => (if x2 < 0 then (some (v_Mod.1, v_Mod.2.1, v_Mod.2.2.1, v_Mod.2.2.2.1, v_Mod.2.2.2.2.1, v_Mod.2.2.2.2.2.1, v_Mod.2.2.2.2.2.2.1, v_Mod.2.2.2.2.2.2.2.1, v_Mod.2.2.2.2.2.2.2.2.1, v_Mod.2.2.2.2.2.2.2.2.2.1, v_Mod.2.2.2.2.2.2.2.2.2.2.1, v_Mod.2.2.2.2.2.2.2.2.2.2.2.1, v_Mod.2.2.2.2.2.2.2.2.2.2.2.2.1, v_Mod.2.2.2.2.2.2.2.2.2.2.2.2.2.1, (1 : Int32), v_Mod.2.2.2.2.2.2.2.2.2.2.2.2.2.2.2.1, v_Mod.2.2.2.2.2.2.2.2.2.2.2.2.2.2.2.2.1, v_Mod.2.2.2.2.2.2.2.2.2.2.2.2.2.2.2.2.2.1, v_Mod.2.2.2.2.2.2.2.2.2.2.2.2.2.2.2.2.2.2.1, v_Mod.2.2.2.2.2.2.2.2.2.2.2.2.2.2.2.2.2.2.2.1, v_Mod.2.2.2.2.2.2.2.2.2.2.2.2.2.2.2.2.2.2.2.2.1, v_Mod.2.2.2.2.2.2.2.2.2.2.2.2.2.2.2.2.2.2.2.2.2.1, v_Mod.2.2.2.2.2.2.2.2.2.2.2.2.2.2.2.2.2.2.2.2.2.2.1, (2 : Int32), v_Mod.2.2.2.2.2.2.2.2.2.2.2.2.2.2.2.2.2.2.2.2.2.2.2.2.1, v_Mod.2.2.2.2.2.2.2.2.2.2.2.2.2.2.2.2.2.2.2.2.2.2.2.2.2.1, v_Mod.2.2.2.2.2.2.2.2.2.2.2.2.2.2.2.2.2.2.2.2.2.2.2.2.2.2)) else (if ¬ (x2 < 0 ∨ v_Mod.2.2.2.2.2.2.2.2.2.2.2.2.2.2.2.2.2.1.1 ≤ (x2).toNatClampNeg) then (if ¬ ((v_Mod.2.2.2.2.2.2.2.2.2.2.2.2.2.2.2.2.2.1.2 (x2).toNatClampNeg) < 0 ∨ v_Mod.2.2.2.2.2.2.2.2.2.2.2.2.2.2.2.2.2.2.2.2.2.2.2.2.2.2.1 ≤ ((v_Mod.2.2.2.2.2.2.2.2.2.2.2.2.2.2.2.2.2.1.2 (x2).toNatClampNeg)).toNatClampNeg) then (if (v_Mod.2.2.2.2.2.2.2.2.2.2.2.2.2.2.2.2.2.2.2.2.2.2.2.2.2.2.2 ((v_Mod.2.2.2.2.2.2.2.2.2.2.2.2.2.2.2.2.2.1.2 (x2).toNatClampNeg)).toNatClampNeg) = 0 then (m_Mod_findCore_B157 (m_Mod_findCore_L73 f) v_Mod x2 (v_Mod.2.2.2.2.2.2.2.2.2.2.2.2.2.2.2.2.2.1.2 (x2).toNatClampNeg)) else (if ¬ ((v_Mod.2.2.2.2.2.2.2.2.2.2.2.2.2.2.2.2.2.1.2 (x2).toNatClampNeg) < 0 ∨ v_Mod.2.2.2.2.2.2.2.2.2.2.2.2.2.2.2.2.2.2.2.2.1.1 ≤ ((v_Mod.2.2.2.2.2.2.2.2.2.2.2.2.2.2.2.2.2.1.2 (x2).toNatClampNeg)).toNatClampNeg) then (if (v_Mod.2.2.2.2.2.2.2.2.2.2.2.2.2.2.2.2.2.2.2.2.1.2 ((v_Mod.2.2.2.2.2.2.2.2.2.2.2.2.2.2.2.2.2.1.2 (x2).toNatClampNeg)).toNatClampNeg) < 0 then (m_Mod_findCore_B157 (m_Mod_findCore_L73 f) v_Mod x2 (v_Mod.2.2.2.2.2.2.2.2.2.2.2.2.2.2.2.2.2.1.2 (x2).toNatClampNeg)) else (if ¬ ((v_Mod.2.2.2.2.2.2.2.2.2.2.2.2.2.2.2.2.2.1.2 (x2).toNatClampNeg) < 0 ∨ v_Mod.2.2.2.2.2.2.2.2.2.2.2.2.2.2.2.2.2.2.2.2.1.1 ≤ ((v_Mod.2.2.2.2.2.2.2.2.2.2.2.2.2.2.2.2.2.1.2 (x2).toNatClampNeg)).toNatClampNeg) then (if ¬ ((v_Mod.2.2.2.2.2.2.2.2.2.2.2.2.2.2.2.2.2.2.2.2.1.2 ((v_Mod.2.2.2.2.2.2.2.2.2.2.2.2.2.2.2.2.2.1.2 (x2).toNatClampNeg)).toNatClampNeg) < 0 ∨ v_Mod.2.2.2.1.1 ≤ ((v_Mod.2.2.2.2.2.2.2.2.2.2.2.2.2.2.2.2.2.2.2.2.1.2 ((v_Mod.2.2.2.2.2.2.2.2.2.2.2.2.2.2.2.2.2.1.2 (x2).toNatClampNeg)).toNatClampNeg)).toNatClampNeg) then (m_Mod_findCore_L115 (m_Mod_findCore_L73 f) fu v_Mod x2 (v_Mod.2.2.2.2.2.2.2.2.2.2.2.2.2.2.2.2.2.1.2 (x2).toNatClampNeg) (v_Mod.2.2.2.1.2 ((v_Mod.2.2.2.2.2.2.2.2.2.2.2.2.2.2.2.2.2.2.2.2.1.2 ((v_Mod.2.2.2.2.2.2.2.2.2.2.2.2.2.2.2.2.2.1.2 (x2).toNatClampNeg)).toNatClampNeg)).toNatClampNeg)) else none) else none)) else none)) else none) else none))
set_option maxRecDepth 100000 in
set_option maxHeartbeats 4000000 in
theorem c_Mod_findCore_L73 {l : Launch} {D : va_G} {cI cL cZ : ClassId} {p : Program} {e : Env} {s : State} {m : MethodId} {args : Array Value} {below : List Frame} {meth : Method} {c : Code} {A : Nat → Prop} (o_Mod a_Mod_0 a_Mod_1 a_Mod_2 a_Mod_3 a_Mod_4 a_Mod_5 a_Mod_6 a_Mod_7 a_Mod_8 a_Mod_9 a_Mod_10 a_Mod_11 a_Mod_12 a_Mod_13 a_Mod_14 : Nat) (out : T_Mod) (X : X_Mod_findCore p s m args c D cI cL cZ A) (N : nk NM0 NF0 s) (hr : meth.sig.returnType = none) (hlk : meth.locks = false) : ∀ (nn : Nat), ∀ (v_Mod : T_Mod) (x2 : Int32), m_Mod_findCore_L73 nn v_Mod x2 = some out → J_Mod_findCore p l e s m args below meth c D cI cL cZ A (O_Mod_findCore cI cL cZ o_Mod a_Mod_0 a_Mod_1 a_Mod_2 a_Mod_3 a_Mod_4 a_Mod_5 a_Mod_6 a_Mod_7 a_Mod_8 a_Mod_9 a_Mod_10 a_Mod_11 a_Mod_12 a_Mod_13 a_Mod_14 out) 0 0 (w_Mod cI cL cZ o_Mod a_Mod_0 a_Mod_1 a_Mod_2 a_Mod_3 a_Mod_4 a_Mod_5 a_Mod_6 a_Mod_7 a_Mod_8 a_Mod_9 a_Mod_10 a_Mod_11 a_Mod_12 a_Mod_13 a_Mod_14 v_Mod) 0 0 73 [(0, .ref o_Mod), (2, .int x2)] [] := by
  intro nn
  induction nn with
  | zero => intro v_Mod x2 hm; exact absurd hm (by simp [m_Mod_findCore_L73])
  | succ nn ih73 =>
    intro v_Mod x2 hm
    unfold m_Mod_findCore_L73 at hm
    refine aj_iload_n X d_Mod_findCore_73 1 rfl ?_
    refine aj_if_lt X 211 d_Mod_findCore_74 (by decide) (fun h => ?_) (fun h => ?_)
    · have hm := ite_t hm h
      refine aj_aload_n X d_Mod_findCore_211 0 rfl ?_
      refine aj_iconst (v := (1 : Int32)) X d_Mod_findCore_212 (by decide) ?_
      refine aj_put (ws' := w_Mod cI cL cZ o_Mod a_Mod_0 a_Mod_1 a_Mod_2 a_Mod_3 a_Mod_4 a_Mod_5 a_Mod_6 a_Mod_7 a_Mod_8 a_Mod_9 a_Mod_10 a_Mod_11 a_Mod_12 a_Mod_13 a_Mod_14 (v_Mod.1, v_Mod.2.1, v_Mod.2.2.1, v_Mod.2.2.2.1, v_Mod.2.2.2.2.1, v_Mod.2.2.2.2.2.1, v_Mod.2.2.2.2.2.2.1, v_Mod.2.2.2.2.2.2.2.1, v_Mod.2.2.2.2.2.2.2.2.1, v_Mod.2.2.2.2.2.2.2.2.2.1, v_Mod.2.2.2.2.2.2.2.2.2.2.1, v_Mod.2.2.2.2.2.2.2.2.2.2.2.1, v_Mod.2.2.2.2.2.2.2.2.2.2.2.2.1, v_Mod.2.2.2.2.2.2.2.2.2.2.2.2.2.1, (1 : Int32), v_Mod.2.2.2.2.2.2.2.2.2.2.2.2.2.2.2.1, v_Mod.2.2.2.2.2.2.2.2.2.2.2.2.2.2.2.2.1, v_Mod.2.2.2.2.2.2.2.2.2.2.2.2.2.2.2.2.2.1, v_Mod.2.2.2.2.2.2.2.2.2.2.2.2.2.2.2.2.2.2.1, v_Mod.2.2.2.2.2.2.2.2.2.2.2.2.2.2.2.2.2.2.2.1, v_Mod.2.2.2.2.2.2.2.2.2.2.2.2.2.2.2.2.2.2.2.2.1, v_Mod.2.2.2.2.2.2.2.2.2.2.2.2.2.2.2.2.2.2.2.2.2.1, v_Mod.2.2.2.2.2.2.2.2.2.2.2.2.2.2.2.2.2.2.2.2.2.2.1, v_Mod.2.2.2.2.2.2.2.2.2.2.2.2.2.2.2.2.2.2.2.2.2.2.2.1, v_Mod.2.2.2.2.2.2.2.2.2.2.2.2.2.2.2.2.2.2.2.2.2.2.2.2.1, v_Mod.2.2.2.2.2.2.2.2.2.2.2.2.2.2.2.2.2.2.2.2.2.2.2.2.2.1, v_Mod.2.2.2.2.2.2.2.2.2.2.2.2.2.2.2.2.2.2.2.2.2.2.2.2.2.2)) X d_Mod_findCore_213 in_Mod ty_Mod tyok_Mod nmx_Mod 0 rfl rfl 14 (by decide) lf_Mod_54 rfl rfl rfl (Nat.le_of_ble_eq_true rfl) rfl ?_
      refine aj_aload_n X d_Mod_findCore_216 0 rfl ?_
      refine aj_iconst (v := (2 : Int32)) X d_Mod_findCore_217 (by decide) ?_
      refine aj_put (ws' := w_Mod cI cL cZ o_Mod a_Mod_0 a_Mod_1 a_Mod_2 a_Mod_3 a_Mod_4 a_Mod_5 a_Mod_6 a_Mod_7 a_Mod_8 a_Mod_9 a_Mod_10 a_Mod_11 a_Mod_12 a_Mod_13 a_Mod_14 (v_Mod.1, v_Mod.2.1, v_Mod.2.2.1, v_Mod.2.2.2.1, v_Mod.2.2.2.2.1, v_Mod.2.2.2.2.2.1, v_Mod.2.2.2.2.2.2.1, v_Mod.2.2.2.2.2.2.2.1, v_Mod.2.2.2.2.2.2.2.2.1, v_Mod.2.2.2.2.2.2.2.2.2.1, v_Mod.2.2.2.2.2.2.2.2.2.2.1, v_Mod.2.2.2.2.2.2.2.2.2.2.2.1, v_Mod.2.2.2.2.2.2.2.2.2.2.2.2.1, v_Mod.2.2.2.2.2.2.2.2.2.2.2.2.2.1, (1 : Int32), v_Mod.2.2.2.2.2.2.2.2.2.2.2.2.2.2.2.1, v_Mod.2.2.2.2.2.2.2.2.2.2.2.2.2.2.2.2.1, v_Mod.2.2.2.2.2.2.2.2.2.2.2.2.2.2.2.2.2.1, v_Mod.2.2.2.2.2.2.2.2.2.2.2.2.2.2.2.2.2.2.1, v_Mod.2.2.2.2.2.2.2.2.2.2.2.2.2.2.2.2.2.2.2.1, v_Mod.2.2.2.2.2.2.2.2.2.2.2.2.2.2.2.2.2.2.2.2.1, v_Mod.2.2.2.2.2.2.2.2.2.2.2.2.2.2.2.2.2.2.2.2.2.1, v_Mod.2.2.2.2.2.2.2.2.2.2.2.2.2.2.2.2.2.2.2.2.2.2.1, (2 : Int32), v_Mod.2.2.2.2.2.2.2.2.2.2.2.2.2.2.2.2.2.2.2.2.2.2.2.2.1, v_Mod.2.2.2.2.2.2.2.2.2.2.2.2.2.2.2.2.2.2.2.2.2.2.2.2.2.1, v_Mod.2.2.2.2.2.2.2.2.2.2.2.2.2.2.2.2.2.2.2.2.2.2.2.2.2.2)) X d_Mod_findCore_218 in_Mod ty_Mod tyok_Mod nmx_Mod 0 rfl rfl 23 (by decide) lf_Mod_82 rfl rfl rfl (Nat.le_of_ble_eq_true rfl) rfl ?_
      have ho := Option.some.inj hm
      subst ho
      exact aj_vret X d_Mod_findCore_221 hr hlk [0, 1, 2, 3, 4, 5, 6, 7, 8, 9, 10, 11, 12, 13, 14, 15] (w_Mod cI cL cZ o_Mod a_Mod_0 a_Mod_1 a_Mod_2 a_Mod_3 a_Mod_4 a_Mod_5 a_Mod_6 a_Mod_7 a_Mod_8 a_Mod_9 a_Mod_10 a_Mod_11 a_Mod_12 a_Mod_13 a_Mod_14 (v_Mod.1, v_Mod.2.1, v_Mod.2.2.1, v_Mod.2.2.2.1, v_Mod.2.2.2.2.1, v_Mod.2.2.2.2.2.1, v_Mod.2.2.2.2.2.2.1, v_Mod.2.2.2.2.2.2.2.1, v_Mod.2.2.2.2.2.2.2.2.1, v_Mod.2.2.2.2.2.2.2.2.2.1, v_Mod.2.2.2.2.2.2.2.2.2.2.1, v_Mod.2.2.2.2.2.2.2.2.2.2.2.1, v_Mod.2.2.2.2.2.2.2.2.2.2.2.2.1, v_Mod.2.2.2.2.2.2.2.2.2.2.2.2.2.1, (1 : Int32), v_Mod.2.2.2.2.2.2.2.2.2.2.2.2.2.2.2.1, v_Mod.2.2.2.2.2.2.2.2.2.2.2.2.2.2.2.2.1, v_Mod.2.2.2.2.2.2.2.2.2.2.2.2.2.2.2.2.2.1, v_Mod.2.2.2.2.2.2.2.2.2.2.2.2.2.2.2.2.2.2.1, v_Mod.2.2.2.2.2.2.2.2.2.2.2.2.2.2.2.2.2.2.2.1, v_Mod.2.2.2.2.2.2.2.2.2.2.2.2.2.2.2.2.2.2.2.2.1, v_Mod.2.2.2.2.2.2.2.2.2.2.2.2.2.2.2.2.2.2.2.2.2.1, v_Mod.2.2.2.2.2.2.2.2.2.2.2.2.2.2.2.2.2.2.2.2.2.2.1, (2 : Int32), v_Mod.2.2.2.2.2.2.2.2.2.2.2.2.2.2.2.2.2.2.2.2.2.2.2.2.1, v_Mod.2.2.2.2.2.2.2.2.2.2.2.2.2.2.2.2.2.2.2.2.2.2.2.2.2.1, v_Mod.2.2.2.2.2.2.2.2.2.2.2.2.2.2.2.2.2.2.2.2.2.2.2.2.2.2)) rfl rfl rfl
    · have hm := ite_f hm h
      refine aj_aload_n X d_Mod_findCore_77 0 rfl ?_
      refine aj_get X d_Mod_findCore_78 in_Mod 0 rfl rfl 17 (by decide) lf_Mod_64 rfl ?_
      refine aj_iload_n X d_Mod_findCore_81 1 rfl ?_
      obtain ⟨b8, hm⟩ := chk_of hm
      refine aj_iald X d_Mod_findCore_82 10 0 rfl rfl b8 ?_
      refine aj_istore_n (lv' := [(3, .int (v_Mod.2.2.2.2.2.2.2.2.2.2.2.2.2.2.2.2.2.1.2 (x2).toNatClampNeg)), (0, .ref o_Mod), (2, .int x2)]) X d_Mod_findCore_83 rfl (by decide) rfl ?_
      refine aj_aload_n X d_Mod_findCore_84 1 rfl ?_
      refine aj_get X d_Mod_findCore_85 in_Mod 0 rfl rfl 26 (by decide) lf_Mod_92 rfl ?_
      refine aj_iload_n X d_Mod_findCore_88 0 rfl ?_
      obtain ⟨b9, hm⟩ := chk_of hm
      refine aj_zald X d_Mod_findCore_89 15 2 rfl rfl b9 ?_
      refine aj_if_eq X 157 d_Mod_findCore_90 (by decide) (fun h => ?_) (fun h => ?_)
      · have hm := ite_t hm h
        refine aj_lv (lv' := [(0, .ref o_Mod), (2, .int x2), (3, .int (v_Mod.2.2.2.2.2.2.2.2.2.2.2.2.2.2.2.2.2.1.2 (x2).toNatClampNeg))]) [1, 2, 0] rfl ?_
        exact c_Mod_findCore_B157 o_Mod a_Mod_0 a_Mod_1 a_Mod_2 a_Mod_3 a_Mod_4 a_Mod_5 a_Mod_6 a_Mod_7 a_Mod_8 a_Mod_9 a_Mod_10 a_Mod_11 a_Mod_12 a_Mod_13 a_Mod_14 out X N hr hlk (m_Mod_findCore_L73 nn) ih73 v_Mod x2 (v_Mod.2.2.2.2.2.2.2.2.2.2.2.2.2.2.2.2.2.1.2 (x2).toNatClampNeg) hm
      · have hm := ite_f hm h
        refine aj_aload_n X d_Mod_findCore_93 1 rfl ?_
        refine aj_get X d_Mod_findCore_94 in_Mod 0 rfl rfl 20 (by decide) lf_Mod_73 rfl ?_
        refine aj_iload_n X d_Mod_findCore_97 0 rfl ?_
        obtain ⟨b10, hm⟩ := chk_of hm
        refine aj_iald X d_Mod_findCore_98 13 0 rfl rfl b10 ?_
        refine aj_if_lt X 157 d_Mod_findCore_99 (by decide) (fun h => ?_) (fun h => ?_)
        · have hm := ite_t hm h
          refine aj_lv (lv' := [(0, .ref o_Mod), (2, .int x2), (3, .int (v_Mod.2.2.2.2.2.2.2.2.2.2.2.2.2.2.2.2.2.1.2 (x2).toNatClampNeg))]) [1, 2, 0] rfl ?_
          exact c_Mod_findCore_B157 o_Mod a_Mod_0 a_Mod_1 a_Mod_2 a_Mod_3 a_Mod_4 a_Mod_5 a_Mod_6 a_Mod_7 a_Mod_8 a_Mod_9 a_Mod_10 a_Mod_11 a_Mod_12 a_Mod_13 a_Mod_14 out X N hr hlk (m_Mod_findCore_L73 nn) ih73 v_Mod x2 (v_Mod.2.2.2.2.2.2.2.2.2.2.2.2.2.2.2.2.2.1.2 (x2).toNatClampNeg) hm
        · have hm := ite_f hm h
          refine aj_aload_n X d_Mod_findCore_102 1 rfl ?_
          refine aj_get X d_Mod_findCore_103 in_Mod 0 rfl rfl 3 (by decide) lf_Mod_20 rfl ?_
          refine aj_aload_n X d_Mod_findCore_106 1 rfl ?_
          refine aj_get X d_Mod_findCore_107 in_Mod 0 rfl rfl 20 (by decide) lf_Mod_73 rfl ?_
          refine aj_iload_n X d_Mod_findCore_110 0 rfl ?_
          obtain ⟨b11, hm⟩ := chk_of hm
          refine aj_iald X d_Mod_findCore_111 13 0 rfl rfl b11 ?_
          obtain ⟨b12, hm⟩ := chk_of hm
          refine aj_iald X d_Mod_findCore_112 2 0 rfl rfl b12 ?_
          refine aj_istore (lv' := [(4, .int (v_Mod.2.2.2.1.2 ((v_Mod.2.2.2.2.2.2.2.2.2.2.2.2.2.2.2.2.2.2.2.2.1.2 ((v_Mod.2.2.2.2.2.2.2.2.2.2.2.2.2.2.2.2.2.1.2 (x2).toNatClampNeg)).toNatClampNeg)).toNatClampNeg)), (3, .int (v_Mod.2.2.2.2.2.2.2.2.2.2.2.2.2.2.2.2.2.1.2 (x2).toNatClampNeg)), (0, .ref o_Mod), (2, .int x2)]) X d_Mod_findCore_113 (by decide) rfl ?_
          refine aj_lv (lv' := [(0, .ref o_Mod), (2, .int x2), (3, .int (v_Mod.2.2.2.2.2.2.2.2.2.2.2.2.2.2.2.2.2.1.2 (x2).toNatClampNeg)), (4, .int (v_Mod.2.2.2.1.2 ((v_Mod.2.2.2.2.2.2.2.2.2.2.2.2.2.2.2.2.2.2.2.2.1.2 ((v_Mod.2.2.2.2.2.2.2.2.2.2.2.2.2.2.2.2.2.1.2 (x2).toNatClampNeg)).toNatClampNeg)).toNatClampNeg))]) [2, 3, 1, 0] rfl ?_
          exact c_Mod_findCore_L115 o_Mod a_Mod_0 a_Mod_1 a_Mod_2 a_Mod_3 a_Mod_4 a_Mod_5 a_Mod_6 a_Mod_7 a_Mod_8 a_Mod_9 a_Mod_10 a_Mod_11 a_Mod_12 a_Mod_13 a_Mod_14 out X N hr hlk (m_Mod_findCore_L73 nn) ih73 fu v_Mod x2 (v_Mod.2.2.2.2.2.2.2.2.2.2.2.2.2.2.2.2.2.1.2 (x2).toNatClampNeg) (v_Mod.2.2.2.1.2 ((v_Mod.2.2.2.2.2.2.2.2.2.2.2.2.2.2.2.2.2.2.2.2.1.2 ((v_Mod.2.2.2.2.2.2.2.2.2.2.2.2.2.2.2.2.2.1.2 (x2).toNatClampNeg)).toNatClampNeg)).toNatClampNeg) hm
def m_Mod_findCore_L32 : Nat → T_Mod → Int32 → Int32 → Option (T_Mod)
  | 0, _, _, _ => none
  | f + 1, v_Mod, x1, x2 => (if (600 : Int32) ≤ x2 then (if ¬ (x1 < 0 ∨ v_Mod.2.2.2.2.2.2.2.2.2.2.2.2.2.1.1 ≤ (x1).toNatClampNeg) then (if ¬ (((v_Mod.2.2.2.2.2.2.2.2.2.2.2.2.2.1.2 (x1).toNatClampNeg) / (2 : Int32)) < 0 ∨ v_Mod.2.2.2.2.2.2.2.2.2.2.2.2.2.2.2.2.2.2.2.2.2.2.2.2.2.2.1 ≤ (((v_Mod.2.2.2.2.2.2.2.2.2.2.2.2.2.1.2 (x1).toNatClampNeg) / (2 : Int32))).toNatClampNeg) then (m_Mod_findCore_L73 fu (v_Mod.1, v_Mod.2.1, v_Mod.2.2.1, v_Mod.2.2.2.1, v_Mod.2.2.2.2.1, v_Mod.2.2.2.2.2.1, v_Mod.2.2.2.2.2.2.1, v_Mod.2.2.2.2.2.2.2.1, v_Mod.2.2.2.2.2.2.2.2.1, v_Mod.2.2.2.2.2.2.2.2.2.1, v_Mod.2.2.2.2.2.2.2.2.2.2.1, v_Mod.2.2.2.2.2.2.2.2.2.2.2.1, v_Mod.2.2.2.2.2.2.2.2.2.2.2.2.1, v_Mod.2.2.2.2.2.2.2.2.2.2.2.2.2.1, v_Mod.2.2.2.2.2.2.2.2.2.2.2.2.2.2.1, v_Mod.2.2.2.2.2.2.2.2.2.2.2.2.2.2.2.1, v_Mod.2.2.2.2.2.2.2.2.2.2.2.2.2.2.2.2.1, v_Mod.2.2.2.2.2.2.2.2.2.2.2.2.2.2.2.2.2.1, v_Mod.2.2.2.2.2.2.2.2.2.2.2.2.2.2.2.2.2.2.1, v_Mod.2.2.2.2.2.2.2.2.2.2.2.2.2.2.2.2.2.2.2.1, v_Mod.2.2.2.2.2.2.2.2.2.2.2.2.2.2.2.2.2.2.2.2.1, v_Mod.2.2.2.2.2.2.2.2.2.2.2.2.2.2.2.2.2.2.2.2.2.1, v_Mod.2.2.2.2.2.2.2.2.2.2.2.2.2.2.2.2.2.2.2.2.2.2.1, v_Mod.2.2.2.2.2.2.2.2.2.2.2.2.2.2.2.2.2.2.2.2.2.2.2.1, v_Mod.2.2.2.2.2.2.2.2.2.2.2.2.2.2.2.2.2.2.2.2.2.2.2.2.1, v_Mod.2.2.2.2.2.2.2.2.2.2.2.2.2.2.2.2.2.2.2.2.2.2.2.2.2.1, (v_Mod.2.2.2.2.2.2.2.2.2.2.2.2.2.2.2.2.2.2.2.2.2.2.2.2.2.2.1, (upd v_Mod.2.2.2.2.2.2.2.2.2.2.2.2.2.2.2.2.2.2.2.2.2.2.2.2.2.2.2 (((v_Mod.2.2.2.2.2.2.2.2.2.2.2.2.2.1.2 (x1).toNatClampNeg) / (2 : Int32))).toNatClampNeg ((1 : Int32) &&& 1)))) (v_Mod.2.2.2.2.2.2.2.2.2.2.2.2.2.2.2.2.1 - (1 : Int32))) else none) else none) else (if ¬ (x2 < 0 ∨ v_Mod.2.2.2.2.2.2.2.2.2.2.2.2.2.2.2.2.2.2.2.2.2.2.2.2.2.2.1 ≤ (x2).toNatClampNeg) then ((m_Mod_findCore_L32 f) (v_Mod.1, v_Mod.2.1, v_Mod.2.2.1, v_Mod.2.2.2.1, v_Mod.2.2.2.2.1, v_Mod.2.2.2.2.2.1, v_Mod.2.2.2.2.2.2.1, v_Mod.2.2.2.2.2.2.2.1, v_Mod.2.2.2.2.2.2.2.2.1, v_Mod.2.2.2.2.2.2.2.2.2.1, v_Mod.2.2.2.2.2.2.2.2.2.2.1, v_Mod.2.2.2.2.2.2.2.2.2.2.2.1, v_Mod.2.2.2.2.2.2.2.2.2.2.2.2.1, v_Mod.2.2.2.2.2.2.2.2.2.2.2.2.2.1, v_Mod.2.2.2.2.2.2.2.2.2.2.2.2.2.2.1, v_Mod.2.2.2.2.2.2.2.2.2.2.2.2.2.2.2.1, v_Mod.2.2.2.2.2.2.2.2.2.2.2.2.2.2.2.2.1, v_Mod.2.2.2.2.2.2.2.2.2.2.2.2.2.2.2.2.2.1, v_Mod.2.2.2.2.2.2.2.2.2.2.2.2.2.2.2.2.2.2.1, v_Mod.2.2.2.2.2.2.2.2.2.2.2.2.2.2.2.2.2.2.2.1, v_Mod.2.2.2.2.2.2.2.2.2.2.2.2.2.2.2.2.2.2.2.2.1, v_Mod.2.2.2.2.2.2.2.2.2.2.2.2.2.2.2.2.2.2.2.2.2.1, v_Mod.2.2.2.2.2.2.2.2.2.2.2.2.2.2.2.2.2.2.2.2.2.2.1, v_Mod.2.2.2.2.2.2.2.2.2.2.2.2.2.2.2.2.2.2.2.2.2.2.2.1, v_Mod.2.2.2.2.2.2.2.2.2.2.2.2.2.2.2.2.2.2.2.2.2.2.2.2.1, v_Mod.2.2.2.2.2.2.2.2.2.2.2.2.2.2.2.2.2.2.2.2.2.2.2.2.2.1, (v_Mod.2.2.2.2.2.2.2.2.2.2.2.2.2.2.2.2.2.2.2.2.2.2.2.2.2.2.1, (upd v_Mod.2.2.2.2.2.2.2.2.2.2.2.2.2.2.2.2.2.2.2.2.2.2.2.2.2.2.2 (x2).toNatClampNeg ((0 : Int32) &&& 1)))) x1 (x2 + 1)) else none))
set_option maxRecDepth 100000 in
set_option maxHeartbeats 4000000 in
theorem c_Mod_findCore_L32 {l : Launch} {D : va_G} {cI cL cZ : ClassId} {p : Program} {e : Env} {s : State} {m : MethodId} {args : Array Value} {below : List Frame} {meth : Method} {c : Code} {A : Nat → Prop} (o_Mod a_Mod_0 a_Mod_1 a_Mod_2 a_Mod_3 a_Mod_4 a_Mod_5 a_Mod_6 a_Mod_7 a_Mod_8 a_Mod_9 a_Mod_10 a_Mod_11 a_Mod_12 a_Mod_13 a_Mod_14 : Nat) (out : T_Mod) (X : X_Mod_findCore p s m args c D cI cL cZ A) (N : nk NM0 NF0 s) (hr : meth.sig.returnType = none) (hlk : meth.locks = false) : ∀ (nn : Nat), ∀ (v_Mod : T_Mod) (x1 : Int32) (x2 : Int32), m_Mod_findCore_L32 nn v_Mod x1 x2 = some out → J_Mod_findCore p l e s m args below meth c D cI cL cZ A (O_Mod_findCore cI cL cZ o_Mod a_Mod_0 a_Mod_1 a_Mod_2 a_Mod_3 a_Mod_4 a_Mod_5 a_Mod_6 a_Mod_7 a_Mod_8 a_Mod_9 a_Mod_10 a_Mod_11 a_Mod_12 a_Mod_13 a_Mod_14 out) 0 0 (w_Mod cI cL cZ o_Mod a_Mod_0 a_Mod_1 a_Mod_2 a_Mod_3 a_Mod_4 a_Mod_5 a_Mod_6 a_Mod_7 a_Mod_8 a_Mod_9 a_Mod_10 a_Mod_11 a_Mod_12 a_Mod_13 a_Mod_14 v_Mod) 0 0 32 [(0, .ref o_Mod), (1, .int x1), (2, .int x2)] [] := by
  intro nn
  induction nn with
  | zero => intro v_Mod x1 x2 hm; exact absurd hm (by simp [m_Mod_findCore_L32])
  | succ nn ih32 =>
    intro v_Mod x1 x2 hm
    unfold m_Mod_findCore_L32 at hm
    refine aj_iload_n X d_Mod_findCore_32 2 rfl ?_
    refine aj_sipush (v := (600 : Int32)) X d_Mod_findCore_33 (by decide) ?_
    refine aj_icmp_ge X 52 d_Mod_findCore_36 (by decide) (fun h => ?_) (fun h => ?_)
    · have hm := ite_t hm h
      refine aj_aload_n X d_Mod_findCore_52 0 rfl ?_
      refine aj_get X d_Mod_findCore_53 in_Mod 0 rfl rfl 26 (by decide) lf_Mod_92 rfl ?_
      refine aj_aload_n X d_Mod_findCore_56 0 rfl ?_
      refine aj_get X d_Mod_findCore_57 in_Mod 0 rfl rfl 13 (by decide) lf_Mod_51 rfl ?_
      refine aj_iload_n X d_Mod_findCore_60 1 rfl ?_
      obtain ⟨b13, hm⟩ := chk_of hm
      refine aj_iald X d_Mod_findCore_61 8 0 rfl rfl b13 ?_
      refine aj_iconst (v := (2 : Int32)) X d_Mod_findCore_62 (by decide) ?_
      refine aj_idiv X d_Mod_findCore_63 (by decide) ?_
      refine aj_iconst (v := (1 : Int32)) X d_Mod_findCore_64 (by decide) ?_
      obtain ⟨b14, hm⟩ := chk_of hm
      refine aj_zast (ws' := w_Mod cI cL cZ o_Mod a_Mod_0 a_Mod_1 a_Mod_2 a_Mod_3 a_Mod_4 a_Mod_5 a_Mod_6 a_Mod_7 a_Mod_8 a_Mod_9 a_Mod_10 a_Mod_11 a_Mod_12 a_Mod_13 a_Mod_14 (v_Mod.1, v_Mod.2.1, v_Mod.2.2.1, v_Mod.2.2.2.1, v_Mod.2.2.2.2.1, v_Mod.2.2.2.2.2.1, v_Mod.2.2.2.2.2.2.1, v_Mod.2.2.2.2.2.2.2.1, v_Mod.2.2.2.2.2.2.2.2.1, v_Mod.2.2.2.2.2.2.2.2.2.1, v_Mod.2.2.2.2.2.2.2.2.2.2.1, v_Mod.2.2.2.2.2.2.2.2.2.2.2.1, v_Mod.2.2.2.2.2.2.2.2.2.2.2.2.1, v_Mod.2.2.2.2.2.2.2.2.2.2.2.2.2.1, v_Mod.2.2.2.2.2.2.2.2.2.2.2.2.2.2.1, v_Mod.2.2.2.2.2.2.2.2.2.2.2.2.2.2.2.1, v_Mod.2.2.2.2.2.2.2.2.2.2.2.2.2.2.2.2.1, v_Mod.2.2.2.2.2.2.2.2.2.2.2.2.2.2.2.2.2.1, v_Mod.2.2.2.2.2.2.2.2.2.2.2.2.2.2.2.2.2.2.1, v_Mod.2.2.2.2.2.2.2.2.2.2.2.2.2.2.2.2.2.2.2.1, v_Mod.2.2.2.2.2.2.2.2.2.2.2.2.2.2.2.2.2.2.2.2.1, v_Mod.2.2.2.2.2.2.2.2.2.2.2.2.2.2.2.2.2.2.2.2.2.1, v_Mod.2.2.2.2.2.2.2.2.2.2.2.2.2.2.2.2.2.2.2.2.2.2.1, v_Mod.2.2.2.2.2.2.2.2.2.2.2.2.2.2.2.2.2.2.2.2.2.2.2.1, v_Mod.2.2.2.2.2.2.2.2.2.2.2.2.2.2.2.2.2.2.2.2.2.2.2.2.1, v_Mod.2.2.2.2.2.2.2.2.2.2.2.2.2.2.2.2.2.2.2.2.2.2.2.2.2.1, (v_Mod.2.2.2.2.2.2.2.2.2.2.2.2.2.2.2.2.2.2.2.2.2.2.2.2.2.2.1, (upd v_Mod.2.2.2.2.2.2.2.2.2.2.2.2.2.2.2.2.2.2.2.2.2.2.2.2.2.2.2 (((v_Mod.2.2.2.2.2.2.2.2.2.2.2.2.2.1.2 (x1).toNatClampNeg) / (2 : Int32))).toNatClampNeg ((1 : Int32) &&& 1))))) X d_Mod_findCore_65 15 2 rfl rfl b14 rfl ?_
      refine aj_aload_n X d_Mod_findCore_66 0 rfl ?_
      refine aj_get X d_Mod_findCore_67 in_Mod 0 rfl rfl 16 (by decide) lf_Mod_61 rfl ?_
      refine aj_iconst (v := (1 : Int32)) X d_Mod_findCore_70 (by decide) ?_
      refine aj_isub X d_Mod_findCore_71 ?_
      refine aj_istore_n (lv' := [(2, .int (v_Mod.2.2.2.2.2.2.2.2.2.2.2.2.2.2.2.2.1 - (1 : Int32))), (0, .ref o_Mod), (1, .int x1)]) X d_Mod_findCore_72 rfl (by decide) rfl ?_
      refine aj_lv (lv' := [(0, .ref o_Mod), (2, .int (v_Mod.2.2.2.2.2.2.2.2.2.2.2.2.2.2.2.2.1 - (1 : Int32)))]) [1, 0] rfl ?_
      exact c_Mod_findCore_L73 o_Mod a_Mod_0 a_Mod_1 a_Mod_2 a_Mod_3 a_Mod_4 a_Mod_5 a_Mod_6 a_Mod_7 a_Mod_8 a_Mod_9 a_Mod_10 a_Mod_11 a_Mod_12 a_Mod_13 a_Mod_14 out X N hr hlk fu (v_Mod.1, v_Mod.2.1, v_Mod.2.2.1, v_Mod.2.2.2.1, v_Mod.2.2.2.2.1, v_Mod.2.2.2.2.2.1, v_Mod.2.2.2.2.2.2.1, v_Mod.2.2.2.2.2.2.2.1, v_Mod.2.2.2.2.2.2.2.2.1, v_Mod.2.2.2.2.2.2.2.2.2.1, v_Mod.2.2.2.2.2.2.2.2.2.2.1, v_Mod.2.2.2.2.2.2.2.2.2.2.2.1, v_Mod.2.2.2.2.2.2.2.2.2.2.2.2.1, v_Mod.2.2.2.2.2.2.2.2.2.2.2.2.2.1, v_Mod.2.2.2.2.2.2.2.2.2.2.2.2.2.2.1, v_Mod.2.2.2.2.2.2.2.2.2.2.2.2.2.2.2.1, v_Mod.2.2.2.2.2.2.2.2.2.2.2.2.2.2.2.2.1, v_Mod.2.2.2.2.2.2.2.2.2.2.2.2.2.2.2.2.2.1, v_Mod.2.2.2.2.2.2.2.2.2.2.2.2.2.2.2.2.2.2.1, v_Mod.2.2.2.2.2.2.2.2.2.2.2.2.2.2.2.2.2.2.2.1, v_Mod.2.2.2.2.2.2.2.2.2.2.2.2.2.2.2.2.2.2.2.2.1, v_Mod.2.2.2.2.2.2.2.2.2.2.2.2.2.2.2.2.2.2.2.2.2.1, v_Mod.2.2.2.2.2.2.2.2.2.2.2.2.2.2.2.2.2.2.2.2.2.2.1, v_Mod.2.2.2.2.2.2.2.2.2.2.2.2.2.2.2.2.2.2.2.2.2.2.2.1, v_Mod.2.2.2.2.2.2.2.2.2.2.2.2.2.2.2.2.2.2.2.2.2.2.2.2.1, v_Mod.2.2.2.2.2.2.2.2.2.2.2.2.2.2.2.2.2.2.2.2.2.2.2.2.2.1, (v_Mod.2.2.2.2.2.2.2.2.2.2.2.2.2.2.2.2.2.2.2.2.2.2.2.2.2.2.1, (upd v_Mod.2.2.2.2.2.2.2.2.2.2.2.2.2.2.2.2.2.2.2.2.2.2.2.2.2.2.2 (((v_Mod.2.2.2.2.2.2.2.2.2.2.2.2.2.1.2 (x1).toNatClampNeg) / (2 : Int32))).toNatClampNeg ((1 : Int32) &&& 1)))) (v_Mod.2.2.2.2.2.2.2.2.2.2.2.2.2.2.2.2.1 - (1 : Int32)) hm
    · have hm := ite_f hm h
      refine aj_aload_n X d_Mod_findCore_39 0 rfl ?_
      refine aj_get X d_Mod_findCore_40 in_Mod 0 rfl rfl 26 (by decide) lf_Mod_92 rfl ?_
      refine aj_iload_n X d_Mod_findCore_43 2 rfl ?_
      refine aj_iconst (v := (0 : Int32)) X d_Mod_findCore_44 (by decide) ?_
      obtain ⟨b15, hm⟩ := chk_of hm
      refine aj_zast (ws' := w_Mod cI cL cZ o_Mod a_Mod_0 a_Mod_1 a_Mod_2 a_Mod_3 a_Mod_4 a_Mod_5 a_Mod_6 a_Mod_7 a_Mod_8 a_Mod_9 a_Mod_10 a_Mod_11 a_Mod_12 a_Mod_13 a_Mod_14 (v_Mod.1, v_Mod.2.1, v_Mod.2.2.1, v_Mod.2.2.2.1, v_Mod.2.2.2.2.1, v_Mod.2.2.2.2.2.1, v_Mod.2.2.2.2.2.2.1, v_Mod.2.2.2.2.2.2.2.1, v_Mod.2.2.2.2.2.2.2.2.1, v_Mod.2.2.2.2.2.2.2.2.2.1, v_Mod.2.2.2.2.2.2.2.2.2.2.1, v_Mod.2.2.2.2.2.2.2.2.2.2.2.1, v_Mod.2.2.2.2.2.2.2.2.2.2.2.2.1, v_Mod.2.2.2.2.2.2.2.2.2.2.2.2.2.1, v_Mod.2.2.2.2.2.2.2.2.2.2.2.2.2.2.1, v_Mod.2.2.2.2.2.2.2.2.2.2.2.2.2.2.2.1, v_Mod.2.2.2.2.2.2.2.2.2.2.2.2.2.2.2.2.1, v_Mod.2.2.2.2.2.2.2.2.2.2.2.2.2.2.2.2.2.1, v_Mod.2.2.2.2.2.2.2.2.2.2.2.2.2.2.2.2.2.2.1, v_Mod.2.2.2.2.2.2.2.2.2.2.2.2.2.2.2.2.2.2.2.1, v_Mod.2.2.2.2.2.2.2.2.2.2.2.2.2.2.2.2.2.2.2.2.1, v_Mod.2.2.2.2.2.2.2.2.2.2.2.2.2.2.2.2.2.2.2.2.2.1, v_Mod.2.2.2.2.2.2.2.2.2.2.2.2.2.2.2.2.2.2.2.2.2.2.1, v_Mod.2.2.2.2.2.2.2.2.2.2.2.2.2.2.2.2.2.2.2.2.2.2.2.1, v_Mod.2.2.2.2.2.2.2.2.2.2.2.2.2.2.2.2.2.2.2.2.2.2.2.2.1, v_Mod.2.2.2.2.2.2.2.2.2.2.2.2.2.2.2.2.2.2.2.2.2.2.2.2.2.1, (v_Mod.2.2.2.2.2.2.2.2.2.2.2.2.2.2.2.2.2.2.2.2.2.2.2.2.2.2.1, (upd v_Mod.2.2.2.2.2.2.2.2.2.2.2.2.2.2.2.2.2.2.2.2.2.2.2.2.2.2.2 (x2).toNatClampNeg ((0 : Int32) &&& 1))))) X d_Mod_findCore_45 15 2 rfl rfl b15 rfl ?_
      refine aj_iinc (v := (x2 + 1)) (lv' := [(2, .int (x2 + 1)), (0, .ref o_Mod), (1, .int x1)]) X d_Mod_findCore_46 2 rfl rfl (by decide) rfl ?_
      refine aj_goto X 32 d_Mod_findCore_49 (by decide) ?_
      refine aj_lv (lv' := [(0, .ref o_Mod), (1, .int x1), (2, .int (x2 + 1))]) [1, 2, 0] rfl ?_
      exact ih32 (v_Mod.1, v_Mod.2.1, v_Mod.2.2.1, v_Mod.2.2.2.1, v_Mod.2.2.2.2.1, v_Mod.2.2.2.2.2.1, v_Mod.2.2.2.2.2.2.1, v_Mod.2.2.2.2.2.2.2.1, v_Mod.2.2.2.2.2.2.2.2.1, v_Mod.2.2.2.2.2.2.2.2.2.1, v_Mod.2.2.2.2.2.2.2.2.2.2.1, v_Mod.2.2.2.2.2.2.2.2.2.2.2.1, v_Mod.2.2.2.2.2.2.2.2.2.2.2.2.1, v_Mod.2.2.2.2.2.2.2.2.2.2.2.2.2.1, v_Mod.2.2.2.2.2.2.2.2.2.2.2.2.2.2.1, v_Mod.2.2.2.2.2.2.2.2.2.2.2.2.2.2.2.1, v_Mod.2.2.2.2.2.2.2.2.2.2.2.2.2.2.2.2.1, v_Mod.2.2.2.2.2.2.2.2.2.2.2.2.2.2.2.2.2.1, v_Mod.2.2.2.2.2.2.2.2.2.2.2.2.2.2.2.2.2.2.1, v_Mod.2.2.2.2.2.2.2.2.2.2.2.2.2.2.2.2.2.2.2.1, v_Mod.2.2.2.2.2.2.2.2.2.2.2.2.2.2.2.2.2.2.2.2.1, v_Mod.2.2.2.2.2.2.2.2.2.2.2.2.2.2.2.2.2.2.2.2.2.1, v_Mod.2.2.2.2.2.2.2.2.2.2.2.2.2.2.2.2.2.2.2.2.2.2.1, v_Mod.2.2.2.2.2.2.2.2.2.2.2.2.2.2.2.2.2.2.2.2.2.2.2.1, v_Mod.2.2.2.2.2.2.2.2.2.2.2.2.2.2.2.2.2.2.2.2.2.2.2.2.1, v_Mod.2.2.2.2.2.2.2.2.2.2.2.2.2.2.2.2.2.2.2.2.2.2.2.2.2.1, (v_Mod.2.2.2.2.2.2.2.2.2.2.2.2.2.2.2.2.2.2.2.2.2.2.2.2.2.2.1, (upd v_Mod.2.2.2.2.2.2.2.2.2.2.2.2.2.2.2.2.2.2.2.2.2.2.2.2.2.2.2 (x2).toNatClampNeg ((0 : Int32) &&& 1)))) x1 (x2 + 1) hm
def m_Mod_findCore_B23 (again2 : T_Mod → Int32 → Int32 → Option (T_Mod)) (v_Mod : T_Mod) (x1 : Int32) (x2 : Int32) (z0 : Int32) (z1 : Int32) : Option (T_Mod) := (if ¬ (z1 < 0 ∨ v_Mod.2.2.2.2.2.2.2.2.2.2.2.2.2.2.2.1.1 ≤ (z1).toNatClampNeg) then (again2 (v_Mod.1, v_Mod.2.1, v_Mod.2.2.1, v_Mod.2.2.2.1, v_Mod.2.2.2.2.1, v_Mod.2.2.2.2.2.1, v_Mod.2.2.2.2.2.2.1, v_Mod.2.2.2.2.2.2.2.1, v_Mod.2.2.2.2.2.2.2.2.1, v_Mod.2.2.2.2.2.2.2.2.2.1, v_Mod.2.2.2.2.2.2.2.2.2.2.1, v_Mod.2.2.2.2.2.2.2.2.2.2.2.1, v_Mod.2.2.2.2.2.2.2.2.2.2.2.2.1, v_Mod.2.2.2.2.2.2.2.2.2.2.2.2.2.1, v_Mod.2.2.2.2.2.2.2.2.2.2.2.2.2.2.1, (v_Mod.2.2.2.2.2.2.2.2.2.2.2.2.2.2.2.1.1, (upd v_Mod.2.2.2.2.2.2.2.2.2.2.2.2.2.2.2.1.2 (z1).toNatClampNeg (z0 &&& 1))), v_Mod.2.2.2.2.2.2.2.2.2.2.2.2.2.2.2.2.1, v_Mod.2.2.2.2.2.2.2.2.2.2.2.2.2.2.2.2.2.1, v_Mod.2.2.2.2.2.2.2.2.2.2.2.2.2.2.2.2.2.2.1, v_Mod.2.2.2.2.2.2.2.2.2.2.2.2.2.2.2.2.2.2.2.1, v_Mod.2.2.2.2.2.2.2.2.2.2.2.2.2.2.2.2.2.2.2.2.1, v_Mod.2.2.2.2.2.2.2.2.2.2.2.2.2.2.2.2.2.2.2.2.2.1, v_Mod.2.2.2.2.2.2.2.2.2.2.2.2.2.2.2.2.2.2.2.2.2.2.1, v_Mod.2.2.2.2.2.2.2.2.2.2.2.2.2.2.2.2.2.2.2.2.2.2.2.1, v_Mod.2.2.2.2.2.2.2.2.2.2.2.2.2.2.2.2.2.2.2.2.2.2.2.2.1, v_Mod.2.2.2.2.2.2.2.2.2.2.2.2.2.2.2.2.2.2.2.2.2.2.2.2.2.1, v_Mod.2.2.2.2.2.2.2.2.2.2.2.2.2.2.2.2.2.2.2.2.2.2.2.2.2.2) x1 (x2 + 1)) else none)
set_option maxRecDepth 100000 in
set_option maxHeartbeats 4000000 in
theorem c_Mod_findCore_B23 {l : Launch} {D : va_G} {cI cL cZ : ClassId} {p : Program} {e : Env} {s : State} {m : MethodId} {args : Array Value} {below : List Frame} {meth : Method} {c : Code} {A : Nat → Prop} (o_Mod a_Mod_0 a_Mod_1 a_Mod_2 a_Mod_3 a_Mod_4 a_Mod_5 a_Mod_6 a_Mod_7 a_Mod_8 a_Mod_9 a_Mod_10 a_Mod_11 a_Mod_12 a_Mod_13 a_Mod_14 : Nat) (out : T_Mod) (X : X_Mod_findCore p s m args c D cI cL cZ A) (N : nk NM0 NF0 s) (hr : meth.sig.returnType = none) (hlk : meth.locks = false) (again2 : T_Mod → Int32 → Int32 → Option (T_Mod)) (ih2 : ∀ (v_Mod : T_Mod) (x1 : Int32) (x2 : Int32), again2 v_Mod x1 x2 = some out → J_Mod_findCore p l e s m args below meth c D cI cL cZ A (O_Mod_findCore cI cL cZ o_Mod a_Mod_0 a_Mod_1 a_Mod_2 a_Mod_3 a_Mod_4 a_Mod_5 a_Mod_6 a_Mod_7 a_Mod_8 a_Mod_9 a_Mod_10 a_Mod_11 a_Mod_12 a_Mod_13 a_Mod_14 out) 0 0 (w_Mod cI cL cZ o_Mod a_Mod_0 a_Mod_1 a_Mod_2 a_Mod_3 a_Mod_4 a_Mod_5 a_Mod_6 a_Mod_7 a_Mod_8 a_Mod_9 a_Mod_10 a_Mod_11 a_Mod_12 a_Mod_13 a_Mod_14 v_Mod) 0 0 2 [(0, .ref o_Mod), (1, .int x1), (2, .int x2)] []) : ∀ (v_Mod : T_Mod) (x1 : Int32) (x2 : Int32) (z0 : Int32) (z1 : Int32), m_Mod_findCore_B23 again2 v_Mod x1 x2 z0 z1 = some out → J_Mod_findCore p l e s m args below meth c D cI cL cZ A (O_Mod_findCore cI cL cZ o_Mod a_Mod_0 a_Mod_1 a_Mod_2 a_Mod_3 a_Mod_4 a_Mod_5 a_Mod_6 a_Mod_7 a_Mod_8 a_Mod_9 a_Mod_10 a_Mod_11 a_Mod_12 a_Mod_13 a_Mod_14 out) 0 0 (w_Mod cI cL cZ o_Mod a_Mod_0 a_Mod_1 a_Mod_2 a_Mod_3 a_Mod_4 a_Mod_5 a_Mod_6 a_Mod_7 a_Mod_8 a_Mod_9 a_Mod_10 a_Mod_11 a_Mod_12 a_Mod_13 a_Mod_14 v_Mod) 0 0 23 [(0, .ref o_Mod), (1, .int x1), (2, .int x2)] [.int z0, .int z1, .ref a_Mod_8] := by
  intro v_Mod x1 x2 z0 z1 hm
  unfold m_Mod_findCore_B23 at hm
  obtain ⟨b16, hm⟩ := chk_of hm
  refine aj_zast (ws' := w_Mod cI cL cZ o_Mod a_Mod_0 a_Mod_1 a_Mod_2 a_Mod_3 a_Mod_4 a_Mod_5 a_Mod_6 a_Mod_7 a_Mod_8 a_Mod_9 a_Mod_10 a_Mod_11 a_Mod_12 a_Mod_13 a_Mod_14 (v_Mod.1, v_Mod.2.1, v_Mod.2.2.1, v_Mod.2.2.2.1, v_Mod.2.2.2.2.1, v_Mod.2.2.2.2.2.1, v_Mod.2.2.2.2.2.2.1, v_Mod.2.2.2.2.2.2.2.1, v_Mod.2.2.2.2.2.2.2.2.1, v_Mod.2.2.2.2.2.2.2.2.2.1, v_Mod.2.2.2.2.2.2.2.2.2.2.1, v_Mod.2.2.2.2.2.2.2.2.2.2.2.1, v_Mod.2.2.2.2.2.2.2.2.2.2.2.2.1, v_Mod.2.2.2.2.2.2.2.2.2.2.2.2.2.1, v_Mod.2.2.2.2.2.2.2.2.2.2.2.2.2.2.1, (v_Mod.2.2.2.2.2.2.2.2.2.2.2.2.2.2.2.1.1, (upd v_Mod.2.2.2.2.2.2.2.2.2.2.2.2.2.2.2.1.2 (z1).toNatClampNeg (z0 &&& 1))), v_Mod.2.2.2.2.2.2.2.2.2.2.2.2.2.2.2.2.1, v_Mod.2.2.2.2.2.2.2.2.2.2.2.2.2.2.2.2.2.1, v_Mod.2.2.2.2.2.2.2.2.2.2.2.2.2.2.2.2.2.2.1, v_Mod.2.2.2.2.2.2.2.2.2.2.2.2.2.2.2.2.2.2.2.1, v_Mod.2.2.2.2.2.2.2.2.2.2.2.2.2.2.2.2.2.2.2.2.1, v_Mod.2.2.2.2.2.2.2.2.2.2.2.2.2.2.2.2.2.2.2.2.2.1, v_Mod.2.2.2.2.2.2.2.2.2.2.2.2.2.2.2.2.2.2.2.2.2.2.1, v_Mod.2.2.2.2.2.2.2.2.2.2.2.2.2.2.2.2.2.2.2.2.2.2.2.1, v_Mod.2.2.2.2.2.2.2.2.2.2.2.2.2.2.2.2.2.2.2.2.2.2.2.2.1, v_Mod.2.2.2.2.2.2.2.2.2.2.2.2.2.2.2.2.2.2.2.2.2.2.2.2.2.1, v_Mod.2.2.2.2.2.2.2.2.2.2.2.2.2.2.2.2.2.2.2.2.2.2.2.2.2.2)) X d_Mod_findCore_23 9 2 rfl rfl b16 rfl ?_
  refine aj_iinc (v := (x2 + 1)) (lv' := [(2, .int (x2 + 1)), (0, .ref o_Mod), (1, .int x1)]) X d_Mod_findCore_24 2 rfl rfl (by decide) rfl ?_
  refine aj_goto X 2 d_Mod_findCore_27 (by decide) ?_
  refine aj_lv (lv' := [(0, .ref o_Mod), (1, .int x1), (2, .int (x2 + 1))]) [1, 2, 0] rfl ?_
  exact ih2 (v_Mod.1, v_Mod.2.1, v_Mod.2.2.1, v_Mod.2.2.2.1, v_Mod.2.2.2.2.1, v_Mod.2.2.2.2.2.1, v_Mod.2.2.2.2.2.2.1, v_Mod.2.2.2.2.2.2.2.1, v_Mod.2.2.2.2.2.2.2.2.1, v_Mod.2.2.2.2.2.2.2.2.2.1, v_Mod.2.2.2.2.2.2.2.2.2.2.1, v_Mod.2.2.2.2.2.2.2.2.2.2.2.1, v_Mod.2.2.2.2.2.2.2.2.2.2.2.2.1, v_Mod.2.2.2.2.2.2.2.2.2.2.2.2.2.1, v_Mod.2.2.2.2.2.2.2.2.2.2.2.2.2.2.1, (v_Mod.2.2.2.2.2.2.2.2.2.2.2.2.2.2.2.1.1, (upd v_Mod.2.2.2.2.2.2.2.2.2.2.2.2.2.2.2.1.2 (z1).toNatClampNeg (z0 &&& 1))), v_Mod.2.2.2.2.2.2.2.2.2.2.2.2.2.2.2.2.1, v_Mod.2.2.2.2.2.2.2.2.2.2.2.2.2.2.2.2.2.1, v_Mod.2.2.2.2.2.2.2.2.2.2.2.2.2.2.2.2.2.2.1, v_Mod.2.2.2.2.2.2.2.2.2.2.2.2.2.2.2.2.2.2.2.1, v_Mod.2.2.2.2.2.2.2.2.2.2.2.2.2.2.2.2.2.2.2.2.1, v_Mod.2.2.2.2.2.2.2.2.2.2.2.2.2.2.2.2.2.2.2.2.2.1, v_Mod.2.2.2.2.2.2.2.2.2.2.2.2.2.2.2.2.2.2.2.2.2.2.1, v_Mod.2.2.2.2.2.2.2.2.2.2.2.2.2.2.2.2.2.2.2.2.2.2.2.1, v_Mod.2.2.2.2.2.2.2.2.2.2.2.2.2.2.2.2.2.2.2.2.2.2.2.2.1, v_Mod.2.2.2.2.2.2.2.2.2.2.2.2.2.2.2.2.2.2.2.2.2.2.2.2.2.1, v_Mod.2.2.2.2.2.2.2.2.2.2.2.2.2.2.2.2.2.2.2.2.2.2.2.2.2.2) x1 (x2 + 1) hm
def m_Mod_findCore_L2 : Nat → T_Mod → Int32 → Int32 → Option (T_Mod)
  | 0, _, _, _ => none
  | f + 1, v_Mod, x1, x2 => (if (40 : Int32) ≤ x2 then (m_Mod_findCore_L32 fu v_Mod x1 (0 : Int32)) else (if x2 = x1 then (m_Mod_findCore_B23 (m_Mod_findCore_L2 f) v_Mod x1 x2 (1 : Int32) x2) else (m_Mod_findCore_B23 (m_Mod_findCore_L2 f) v_Mod x1 x2 (0 : Int32) x2)))
set_option maxRecDepth 100000 in
set_option maxHeartbeats 4000000 in
theorem c_Mod_findCore_L2 {l : Launch} {D : va_G} {cI cL cZ : ClassId} {p : Program} {e : Env} {s : State} {m : MethodId} {args : Array Value} {below : List Frame} {meth : Method} {c : Code} {A : Nat → Prop} (o_Mod a_Mod_0 a_Mod_1 a_Mod_2 a_Mod_3 a_Mod_4 a_Mod_5 a_Mod_6 a_Mod_7 a_Mod_8 a_Mod_9 a_Mod_10 a_Mod_11 a_Mod_12 a_Mod_13 a_Mod_14 : Nat) (out : T_Mod) (X : X_Mod_findCore p s m args c D cI cL cZ A) (N : nk NM0 NF0 s) (hr : meth.sig.returnType = none) (hlk : meth.locks = false) : ∀ (nn : Nat), ∀ (v_Mod : T_Mod) (x1 : Int32) (x2 : Int32), m_Mod_findCore_L2 nn v_Mod x1 x2 = some out → J_Mod_findCore p l e s m args below meth c D cI cL cZ A (O_Mod_findCore cI cL cZ o_Mod a_Mod_0 a_Mod_1 a_Mod_2 a_Mod_3 a_Mod_4 a_Mod_5 a_Mod_6 a_Mod_7 a_Mod_8 a_Mod_9 a_Mod_10 a_Mod_11 a_Mod_12 a_Mod_13 a_Mod_14 out) 0 0 (w_Mod cI cL cZ o_Mod a_Mod_0 a_Mod_1 a_Mod_2 a_Mod_3 a_Mod_4 a_Mod_5 a_Mod_6 a_Mod_7 a_Mod_8 a_Mod_9 a_Mod_10 a_Mod_11 a_Mod_12 a_Mod_13 a_Mod_14 v_Mod) 0 0 2 [(0, .ref o_Mod), (1, .int x1), (2, .int x2)] [] := by
  intro nn
  induction nn with
  | zero => intro v_Mod x1 x2 hm; exact absurd hm (by simp [m_Mod_findCore_L2])
  | succ nn ih2 =>
    intro v_Mod x1 x2 hm
    unfold m_Mod_findCore_L2 at hm
    refine aj_iload_n X d_Mod_findCore_2 2 rfl ?_
    refine aj_bipush (v := (40 : Int32)) X d_Mod_findCore_3 (by decide) ?_
    refine aj_icmp_ge X 30 d_Mod_findCore_5 (by decide) (fun h => ?_) (fun h => ?_)
    · have hm := ite_t hm h
      refine aj_iconst (v := (0 : Int32)) X d_Mod_findCore_30 (by decide) ?_
      refine aj_istore_n (lv' := [(2, .int (0 : Int32)), (0, .ref o_Mod), (1, .int x1)]) X d_Mod_findCore_31 rfl (by decide) rfl ?_
      refine aj_lv (lv' := [(0, .ref o_Mod), (1, .int x1), (2, .int (0 : Int32))]) [1, 2, 0] rfl ?_
      exact c_Mod_findCore_L32 o_Mod a_Mod_0 a_Mod_1 a_Mod_2 a_Mod_3 a_Mod_4 a_Mod_5 a_Mod_6 a_Mod_7 a_Mod_8 a_Mod_9 a_Mod_10 a_Mod_11 a_Mod_12 a_Mod_13 a_Mod_14 out X N hr hlk fu v_Mod x1 (0 : Int32) hm
    · have hm := ite_f hm h
      refine aj_aload_n X d_Mod_findCore_8 0 rfl ?_
      refine aj_get X d_Mod_findCore_9 in_Mod 0 rfl rfl 15 (by decide) lf_Mod_58 rfl ?_
      refine aj_iload_n X d_Mod_findCore_12 2 rfl ?_
      refine aj_iload_n X d_Mod_findCore_13 2 rfl ?_
      refine aj_iload_n X d_Mod_findCore_14 1 rfl ?_
      refine aj_icmp_ne X 22 d_Mod_findCore_15 (by decide) (fun h => ?_) (fun h => ?_)
      · have hm := ite_f hm h
        refine aj_iconst (v := (0 : Int32)) X d_Mod_findCore_22 (by decide) ?_
        exact c_Mod_findCore_B23 o_Mod a_Mod_0 a_Mod_1 a_Mod_2 a_Mod_3 a_Mod_4 a_Mod_5 a_Mod_6 a_Mod_7 a_Mod_8 a_Mod_9 a_Mod_10 a_Mod_11 a_Mod_12 a_Mod_13 a_Mod_14 out X N hr hlk (m_Mod_findCore_L2 nn) ih2 v_Mod x1 x2 (0 : Int32) x2 hm
      · have hm := ite_t hm h
        refine aj_iconst (v := (1 : Int32)) X d_Mod_findCore_18 (by decide) ?_
        refine aj_goto X 23 d_Mod_findCore_19 (by decide) ?_
        exact c_Mod_findCore_B23 o_Mod a_Mod_0 a_Mod_1 a_Mod_2 a_Mod_3 a_Mod_4 a_Mod_5 a_Mod_6 a_Mod_7 a_Mod_8 a_Mod_9 a_Mod_10 a_Mod_11 a_Mod_12 a_Mod_13 a_Mod_14 out X N hr hlk (m_Mod_findCore_L2 nn) ih2 v_Mod x1 x2 (1 : Int32) x2 hm
def m_Mod_findCore (v_Mod : T_Mod) (x1 : Int32) : Option (T_Mod) := (m_Mod_findCore_L2 fu v_Mod x1 (0 : Int32))
set_option maxRecDepth 100000 in
set_option maxHeartbeats 4000000 in
theorem c_Mod_findCore {l : Launch} {D : va_G} {cI cL cZ : ClassId} (o_Mod a_Mod_0 a_Mod_1 a_Mod_2 a_Mod_3 a_Mod_4 a_Mod_5 a_Mod_6 a_Mod_7 a_Mod_8 a_Mod_9 a_Mod_10 a_Mod_11 a_Mod_12 a_Mod_13 a_Mod_14 : Nat) (v_Mod : T_Mod) (x1 : Int32) (out : T_Mod) (hm : m_Mod_findCore v_Mod x1 = some out) : ct l y_Mod_findCore (Cond.code y_Mod_findCore b_Mod_findCore 5 none :: TB) 0 0 D clss (ty3 cI cL cZ) NM0 NF0 [.ref o_Mod, .int x1] (w_Mod cI cL cZ o_Mod a_Mod_0 a_Mod_1 a_Mod_2 a_Mod_3 a_Mod_4 a_Mod_5 a_Mod_6 a_Mod_7 a_Mod_8 a_Mod_9 a_Mod_10 a_Mod_11 a_Mod_12 a_Mod_13 a_Mod_14 v_Mod) (qV D clss (ty3 cI cL cZ) (O_Mod_findCore cI cL cZ o_Mod a_Mod_0 a_Mod_1 a_Mod_2 a_Mod_3 a_Mod_4 a_Mod_5 a_Mod_6 a_Mod_7 a_Mod_8 a_Mod_9 a_Mod_10 a_Mod_11 a_Mod_12 a_Mod_13 a_Mod_14 out)) 0 0 := by
  refine ct_of (plainFor_of_name (by decide)) (Nat.le_of_ble_eq_true rfl) (fun p e s m args below meth c A X N hr hlk hnm => ?_)
  refine aj_lv (lv' := [(0, .ref o_Mod), (1, .int x1)]) [0, 1] rfl ?_
  unfold m_Mod_findCore at hm
  refine aj_iconst (v := (0 : Int32)) X d_Mod_findCore_0 (by decide) ?_
  refine aj_istore_n (lv' := [(2, .int (0 : Int32)), (0, .ref o_Mod), (1, .int x1)]) X d_Mod_findCore_1 rfl (by decide) rfl ?_
  refine aj_lv (lv' := [(0, .ref o_Mod), (1, .int x1), (2, .int (0 : Int32))]) [1, 2, 0] rfl ?_
  exact c_Mod_findCore_L2 o_Mod a_Mod_0 a_Mod_1 a_Mod_2 a_Mod_3 a_Mod_4 a_Mod_5 a_Mod_6 a_Mod_7 a_Mod_8 a_Mod_9 a_Mod_10 a_Mod_11 a_Mod_12 a_Mod_13 a_Mod_14 out X N hr hlk fu v_Mod x1 (0 : Int32) hm
