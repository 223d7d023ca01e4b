abbrev X_Tal_judge (p : Program) (s : State) (m : MethodId) (args : Array Value) (c : Code) (D : va_G) (cI cL cZ : ClassId) (A : Nat → Prop) : Prop := aj_C p s m args c D clss (ty3 cI cL cZ) A b_Tal_judge 6 R_Tal TB
abbrev J_Tal_judge (p : Program) (l : Launch) (e : Env) (s : State) (m : MethodId) (args : Array Value) (below : List Frame) (meth : Method) (c : Code) (D : va_G) (cI cL cZ : ClassId) (A : Nat → Prop) (O : va_W → Prop) (mc ms : Nat) (ws : va_W) (kc ks pc : Nat) (lv : List (Nat × Value)) (st : List Value) : Prop := aj p l e { frames := 0, cells := mc, slots := ms, locals := 0 } s m args below meth c (MQ below (qV D clss (ty3 cI cL cZ) O A) args s mc ms A) D clss A 6 ws kc ks pc lv st
def O_Tal_judge (cI cL cZ : ClassId) (o_Tal o_Sto a_Tal_0 a_Tal_1 a_Tal_2 a_Tal_3 : Nat) (out : T_Tal) : va_W → Prop := fun w1 => w1 = w_Tal cI cL cZ o_Tal o_Sto a_Tal_0 a_Tal_1 a_Tal_2 a_Tal_3 out
def m_Tal_judge_B116 (v_Tal : T_Tal) (z0 : Int64) (z1 : Int32) : Option (T_Tal) := (if ¬ (z1 < 0 ∨ v_Tal.2.1.1 ≤ (z1).toNatClampNeg) then (some (v_Tal.1, (v_Tal.2.1.1, (vp_updL v_Tal.2.1.2 (z1).toNatClampNeg z0)), v_Tal.2.2.1, v_Tal.2.2.2)) else none)
set_option maxRecDepth 100000 in
set_option maxHeartbeats 4000000 in
theorem c_Tal_judge_B116 {l : Launch} {D : va_G} {cI cL cZ : ClassId} {p : Program} {e : Env} {s : State} {m : MethodId} {args : Array Value} {below : List Frame} {meth : Method} {c : Code} {A : Nat → Prop} (o_Tal o_Sto a_Tal_0 a_Tal_1 a_Tal_2 a_Tal_3 : Nat) (out : T_Tal) (X : X_Tal_judge p s m args c D cI cL cZ A) (N : nk NM0 NF0 s) (hr : meth.sig.returnType = none) (hlk : meth.locks = false) : ∀ (v_Tal : T_Tal) (z0 : Int64) (z1 : Int32), m_Tal_judge_B116 v_Tal z0 z1 = some out → J_Tal_judge p l e s m args below meth c D cI cL cZ A (O_Tal_judge cI cL cZ o_Tal o_Sto a_Tal_0 a_Tal_1 a_Tal_2 a_Tal_3 out) 0 0 (w_Tal cI cL cZ o_Tal o_Sto a_Tal_0 a_Tal_1 a_Tal_2 a_Tal_3 v_Tal) 0 0 116 [] [.long z0, .int z1, .ref a_Tal_1] := by
  intro v_Tal z0 z1 hm
  unfold m_Tal_judge_B116 at hm
  obtain ⟨b1, hm⟩ := chk_of hm
  refine aj_last (ws' := w_Tal cI cL cZ o_Tal o_Sto a_Tal_0 a_Tal_1 a_Tal_2 a_Tal_3 (v_Tal.1, (v_Tal.2.1.1, (vp_updL v_Tal.2.1.2 (z1).toNatClampNeg z0)), v_Tal.2.2.1, v_Tal.2.2.2)) X d_Tal_judge_116 2 1 rfl rfl b1 rfl ?_
  have ho := Option.some.inj hm
  subst ho
  exact aj_vret X d_Tal_judge_117 hr hlk [0, 1, 2, 3, 4] (w_Tal cI cL cZ o_Tal o_Sto a_Tal_0 a_Tal_1 a_Tal_2 a_Tal_3 (v_Tal.1, (v_Tal.2.1.1, (vp_updL v_Tal.2.1.2 (z1).toNatClampNeg z0)), v_Tal.2.2.1, v_Tal.2.2.2)) rfl rfl rfl
def m_Tal_judge_B103 (v_Tal : T_Tal) (x3 : Int32) (x4 : Int64) (z0 : Int32) : Option (T_Tal) := (if ¬ (x3 < 0 ∨ v_Tal.2.1.1 ≤ (x3).toNatClampNeg) then (m_Tal_judge_B116 v_Tal ((v_Tal.2.1.2 (x3).toNatClampNeg) &&& (x4 ^^^ (-1 : Int64))) z0) else none)
set_option maxRecDepth 100000 in
set_option maxHeartbeats 4000000 in
theorem c_Tal_judge_B103 {l : Launch} {D : va_G} {cI cL cZ : ClassId} {p : Program} {e : Env} {s : State} {m : MethodId} {args : Array Value} {below : List Frame} {meth : Method} {c : Code} {A : Nat → Prop} (o_Tal o_Sto a_Tal_0 a_Tal_1 a_Tal_2 a_Tal_3 : Nat) (out : T_Tal) (X : X_Tal_judge p s m args c D cI cL cZ A) (N : nk NM0 NF0 s) (hr : meth.sig.returnType = none) (hlk : meth.locks = false) : ∀ (v_Tal : T_Tal) (x3 : Int32) (x4 : Int64) (z0 : Int32), m_Tal_judge_B103 v_Tal x3 x4 z0 = some out → J_Tal_judge p l e s m args below meth c D cI cL cZ A (O_Tal_judge cI cL cZ o_Tal o_Sto a_Tal_0 a_Tal_1 a_Tal_2 a_Tal_3 out) 0 0 (w_Tal cI cL cZ o_Tal o_Sto a_Tal_0 a_Tal_1 a_Tal_2 a_Tal_3 v_Tal) 0 0 103 [(0, .ref o_Tal), (3, .int x3), (4, .long x4)] [.int z0, .ref a_Tal_1] := by
  intro v_Tal x3 x4 z0 hm
  unfold m_Tal_judge_B103 at hm
  refine aj_aload_n X d_Tal_judge_103 0 rfl ?_
  refine aj_get X d_Tal_judge_104 in_Tal 0 rfl rfl 2 (by decide) lf_Tal_19 rfl ?_
  refine aj_iload_n X d_Tal_judge_107 1 rfl ?_
  obtain ⟨b2, hm⟩ := chk_of hm
  refine aj_lald X d_Tal_judge_108 2 1 rfl rfl b2 ?_
  refine aj_lload X d_Tal_judge_109 2 rfl ?_
  refine aj_ldc2 (v := (-1 : Int64)) X d_Tal_judge_111 lc_Tal_66 ?_
  refine aj_lxor X d_Tal_judge_114 ?_
  refine aj_land X d_Tal_judge_115 ?_
  refine aj_lv (lv' := []) [] rfl ?_
  exact c_Tal_judge_B116 o_Tal o_Sto a_Tal_0 a_Tal_1 a_Tal_2 a_Tal_3 out X N hr hlk v_Tal ((v_Tal.2.1.2 (x3).toNatClampNeg) &&& (x4 ^^^ (-1 : Int64))) z0 hm
def m_Tal_judge_B71 (v_Tal : T_Tal) (x1 : Int32) (x2 : Int32) (x3 : Int32) (x4 : Int64) (z0 : Int64) (z1 : Int32) : Option (T_Tal) := (if ¬ (z1 < 0 ∨ v_Tal.1.1 ≤ (z1).toNatClampNeg) then (if x2 = 0 then (if ¬ (x1 < 0 ∨ v_Tal.2.2.2.1 ≤ (x1).toNatClampNeg) then (if (v_Tal.2.2.2.2 (x1).toNatClampNeg) = (1 : Int32) then (if ¬ (x3 < 0 ∨ v_Tal.2.1.1 ≤ (x3).toNatClampNeg) then (m_Tal_judge_B116 ((v_Tal.1.1, (vp_updL v_Tal.1.2 (z1).toNatClampNeg z0)), v_Tal.2.1, v_Tal.2.2.1, v_Tal.2.2.2) ((v_Tal.2.1.2 (x3).toNatClampNeg) ||| x4) x3) else none) else (m_Tal_judge_B103 ((v_Tal.1.1, (vp_updL v_Tal.1.2 (z1).toNatClampNeg z0)), v_Tal.2.1, v_Tal.2.2.1, v_Tal.2.2.2) x3 x4 x3)) else none) else (m_Tal_judge_B103 ((v_Tal.1.1, (vp_updL v_Tal.1.2 (z1).toNatClampNeg z0)), v_Tal.2.1, v_Tal.2.2.1, v_Tal.2.2.2) x3 x4 x3)) else none)
set_option maxRecDepth 100000 in
set_option maxHeartbeats 4000000 in
theorem c_Tal_judge_B71 {l : Launch} {D : va_G} {cI cL cZ : ClassId} {p : Program} {e : Env} {s : State} {m : MethodId} {args : Array Value} {below : List Frame} {meth : Method} {c : Code} {A : Nat → Prop} (o_Tal o_Sto a_Tal_0 a_Tal_1 a_Tal_2 a_Tal_3 : Nat) (out : T_Tal) (X : X_Tal_judge p s m args c D cI cL cZ A) (N : nk NM0 NF0 s) (hr : meth.sig.returnType = none) (hlk : meth.locks = false) : ∀ (v_Tal : T_Tal) (x1 : Int32) (x2 : Int32) (x3 : Int32) (x4 : Int64) (z0 : Int64) (z1 : Int32), m_Tal_judge_B71 v_Tal x1 x2 x3 x4 z0 z1 = some out → J_Tal_judge p l e s m args below meth c D cI cL cZ A (O_Tal_judge cI cL cZ o_Tal o_Sto a_Tal_0 a_Tal_1 a_Tal_2 a_Tal_3 out) 0 0 (w_Tal cI cL cZ o_Tal o_Sto a_Tal_0 a_Tal_1 a_Tal_2 a_Tal_3 v_Tal) 0 0 71 [(0, .ref o_Tal), (1, .int x1), (2, .int x2), (3, .int x3), (4, .long x4)] [.long z0, .int z1, .ref a_Tal_0] := by
  intro v_Tal x1 x2 x3 x4 z0 z1 hm
  unfold m_Tal_judge_B71 at hm
  obtain ⟨b3, hm⟩ := chk_of hm
  refine aj_last (ws' := w_Tal cI cL cZ o_Tal o_Sto a_Tal_0 a_Tal_1 a_Tal_2 a_Tal_3 ((v_Tal.1.1, (vp_updL v_Tal.1.2 (z1).toNatClampNeg z0)), v_Tal.2.1, v_Tal.2.2.1, v_Tal.2.2.2)) X d_Tal_judge_71 1 1 rfl rfl b3 rfl ?_
  refine aj_aload_n X d_Tal_judge_72 0 rfl ?_
  refine aj_get X d_Tal_judge_73 in_Tal 0 rfl rfl 2 (by decide) lf_Tal_19 rfl ?_
  refine aj_iload_n X d_Tal_judge_76 3 rfl ?_
  refine aj_iload_n X d_Tal_judge_77 2 rfl ?_
  refine aj_if_ne X 103 d_Tal_judge_78 (by decide) (fun h => ?_) (fun h => ?_)
  · have hm := ite_f hm h
    refine aj_lv (lv' := [(0, .ref o_Tal), (3, .int x3), (4, .long x4)]) [0, 3, 4] rfl ?_
    exact c_Tal_judge_B103 o_Tal o_Sto a_Tal_0 a_Tal_1 a_Tal_2 a_Tal_3 out X N hr hlk ((v_Tal.1.1, (vp_updL v_Tal.1.2 (z1).toNatClampNeg z0)), v_Tal.2.1, v_Tal.2.2.1, v_Tal.2.2.2) x3 x4 x3 hm
  · have hm := ite_t hm h
    refine aj_aload_n X d_Tal_judge_81 0 rfl ?_
    refine aj_get X d_Tal_judge_82 in_Tal 0 rfl rfl 4 (by decide) lf_Tal_26 rfl ?_
    refine aj_iload_n X d_Tal_judge_85 1 rfl ?_
    obtain ⟨b4, hm⟩ := chk_of hm
    refine aj_iald X d_Tal_judge_86 4 0 rfl rfl b4 ?_
    refine aj_iconst (v := (1 : Int32)) X d_Tal_judge_87 (by decide) ?_
    refine aj_icmp_ne X 103 d_Tal_judge_88 (by decide) (fun h => ?_) (fun h => ?_)
    · have hm := ite_f hm h
      refine aj_lv (lv' := [(0, .ref o_Tal), (3, .int x3), (4, .long x4)]) [0, 3, 4] rfl ?_
      exact c_Tal_judge_B103 o_Tal o_Sto a_Tal_0 a_Tal_1 a_Tal_2 a_Tal_3 out X N hr hlk ((v_Tal.1.1, (vp_updL v_Tal.1.2 (z1).toNatClampNeg z0)), v_Tal.2.1, v_Tal.2.2.1, v_Tal.2.2.2) x3 x4 x3 hm
    · have hm := ite_t hm h
      refine aj_aload_n X d_Tal_judge_91 0 rfl ?_
      refine aj_get X d_Tal_judge_92 in_Tal 0 rfl rfl 2 (by decide) lf_Tal_19 rfl ?_
      refine aj_iload_n X d_Tal_judge_95 3 rfl ?_
      obtain ⟨b5, hm⟩ := chk_of hm
      refine aj_lald X d_Tal_judge_96 2 1 rfl rfl b5 ?_
      refine aj_lload X d_Tal_judge_97 4 rfl ?_
      refine aj_lor X d_Tal_judge_99 ?_
      refine aj_goto X 116 d_Tal_judge_100 (by decide) ?_
      refine aj_lv (lv' := []) [] rfl ?_
      exact c_Tal_judge_B116 o_Tal o_Sto a_Tal_0 a_Tal_1 a_Tal_2 a_Tal_3 out X N hr hlk ((v_Tal.1.1, (vp_updL v_Tal.1.2 (z1).toNatClampNeg z0)), v_Tal.2.1, v_Tal.2.2.1, v_Tal.2.2.2) ((v_Tal.2.1.2 (x3).toNatClampNeg) ||| x4) x3 hm
def m_Tal_judge_B58 (v_Tal : T_Tal) (x1 : Int32) (x2 : Int32) (x3 : Int32) (x4 : Int64) (z0 : Int32) : Option (T_Tal) := (if ¬ (x3 < 0 ∨ v_Tal.1.1 ≤ (x3).toNatClampNeg) then (m_Tal_judge_B71 v_Tal x1 x2 x3 x4 ((v_Tal.1.2 (x3).toNatClampNeg) &&& (x4 ^^^ (-1 : Int64))) z0) else none)
set_option maxRecDepth 100000 in
set_option maxHeartbeats 4000000 in
theorem c_Tal_judge_B58 {l : Launch} {D : va_G} {cI cL cZ : ClassId} {p : Program} {e : Env} {s : State} {m : MethodId} {args : Array Value} {below : List Frame} {meth : Method} {c : Code} {A : Nat → Prop} (o_Tal o_Sto a_Tal_0 a_Tal_1 a_Tal_2 a_Tal_3 : Nat) (out : T_Tal) (X : X_Tal_judge p s m args c D cI cL cZ A) (N : nk NM0 NF0 s) (hr : meth.sig.returnType = none) (hlk : meth.locks = false) : ∀ (v_Tal : T_Tal) (x1 : Int32) (x2 : Int32) (x3 : Int32) (x4 : Int64) (z0 : Int32), m_Tal_judge_B58 v_Tal x1 x2 x3 x4 z0 = some out → J_Tal_judge p l e s m args below meth c D cI cL cZ A (O_Tal_judge cI cL cZ o_Tal o_Sto a_Tal_0 a_Tal_1 a_Tal_2 a_Tal_3 out) 0 0 (w_Tal cI cL cZ o_Tal o_Sto a_Tal_0 a_Tal_1 a_Tal_2 a_Tal_3 v_Tal) 0 0 58 [(0, .ref o_Tal), (1, .int x1), (2, .int x2), (3, .int x3), (4, .long x4)] [.int z0, .ref a_Tal_0] := by
  intro v_Tal x1 x2 x3 x4 z0 hm
  unfold m_Tal_judge_B58 at hm
  refine aj_aload_n X d_Tal_judge_58 0 rfl ?_
  refine aj_get X d_Tal_judge_59 in_Tal 0 rfl rfl 1 (by decide) lf_Tal_15 rfl ?_
  refine aj_iload_n X d_Tal_judge_62 3 rfl ?_
  obtain ⟨b6, hm⟩ := chk_of hm
  refine aj_lald X d_Tal_judge_63 1 1 rfl rfl b6 ?_
  refine aj_lload X d_Tal_judge_64 4 rfl ?_
  refine aj_ldc2 (v := (-1 : Int64)) X d_Tal_judge_66 lc_Tal_66 ?_
  refine aj_lxor X d_Tal_judge_69 ?_
  refine aj_land X d_Tal_judge_70 ?_
  exact c_Tal_judge_B71 o_Tal o_Sto a_Tal_0 a_Tal_1 a_Tal_2 a_Tal_3 out X N hr hlk v_Tal x1 x2 x3 x4 ((v_Tal.1.2 (x3).toNatClampNeg) &&& (x4 ^^^ (-1 : Int64))) z0 hm
def m_Tal_judge_B14 (v_Tal : T_Tal) (x1 : Int32) (z0 : Int32) : Option (T_Tal) := (if z0 = 0 then (if ¬ (x1 < 0 ∨ v_Tal.2.2.2.1 ≤ (x1).toNatClampNeg) then (if (v_Tal.2.2.2.2 (x1).toNatClampNeg) = 0 then (if ¬ ((x1 >>> ((6 : Int32) &&& 31)) < 0 ∨ v_Tal.1.1 ≤ ((x1 >>> ((6 : Int32) &&& 31))).toNatClampNeg) then (m_Tal_judge_B71 v_Tal x1 z0 (x1 >>> ((6 : Int32) &&& 31)) ((1 : Int64) <<< (((x1 &&& (63 : Int32))).toInt64 &&& 63)) ((v_Tal.1.2 ((x1 >>> ((6 : Int32) &&& 31))).toNatClampNeg) ||| ((1 : Int64) <<< (((x1 &&& (63 : Int32))).toInt64 &&& 63))) (x1 >>> ((6 : Int32) &&& 31))) else none) else (m_Tal_judge_B58 v_Tal x1 z0 (x1 >>> ((6 : Int32) &&& 31)) ((1 : Int64) <<< (((x1 &&& (63 : Int32))).toInt64 &&& 63)) (x1 >>> ((6 : Int32) &&& 31)))) else none) else (m_Tal_judge_B58 v_Tal x1 z0 (x1 >>> ((6 : Int32) &&& 31)) ((1 : Int64) <<< (((x1 &&& (63 : Int32))).toInt64 &&& 63)) (x1 >>> ((6 : Int32) &&& 31))))
set_option maxRecDepth 100000 in
set_option maxHeartbeats 4000000 in
theorem c_Tal_judge_B14 {l : Launch} {D : va_G} {cI cL cZ : ClassId} {p : Program} {e : Env} {s : State} {m : MethodId} {args : Array Value} {below : List Frame} {meth : Method} {c : Code} {A : Nat → Prop} (o_Tal o_Sto a_Tal_0 a_Tal_1 a_Tal_2 a_Tal_3 : Nat) (out : T_Tal) (X : X_Tal_judge p s m args c D cI cL cZ A) (N : nk NM0 NF0 s) (hr : meth.sig.returnType = none) (hlk : meth.locks = false) : ∀ (v_Tal : T_Tal) (x1 : Int32) (z0 : Int32), m_Tal_judge_B14 v_Tal x1 z0 = some out → J_Tal_judge p l e s m args below meth c D cI cL cZ A (O_Tal_judge cI cL cZ o_Tal o_Sto a_Tal_0 a_Tal_1 a_Tal_2 a_Tal_3 out) 0 0 (w_Tal cI cL cZ o_Tal o_Sto a_Tal_0 a_Tal_1 a_Tal_2 a_Tal_3 v_Tal) 0 0 14 [(0, .ref o_Tal), (1, .int x1)] [.int z0] := by
  intro v_Tal x1 z0 hm
  unfold m_Tal_judge_B14 at hm
  refine aj_istore_n (lv' := [(2, .int z0), (0, .ref o_Tal), (1, .int x1)]) X d_Tal_judge_14 rfl (by decide) rfl ?_
  refine aj_iload_n X d_Tal_judge_15 2 rfl ?_
  refine aj_bipush (v := (6 : Int32)) X d_Tal_judge_16 (by decide) ?_
  refine aj_ishr X d_Tal_judge_18 ?_
  refine aj_istore_n (lv' := [(3, .int (x1 >>> ((6 : Int32) &&& 31))), (2, .int z0), (0, .ref o_Tal), (1, .int x1)]) X d_Tal_judge_19 rfl (by decide) rfl ?_
  refine aj_lconst (v := (1 : Int64)) X d_Tal_judge_20 (by decide) ?_
  refine aj_iload_n X d_Tal_judge_21 3 rfl ?_
  refine aj_bipush (v := (63 : Int32)) X d_Tal_judge_22 (by decide) ?_
  refine aj_iand X d_Tal_judge_24 ?_
  refine aj_lshl X d_Tal_judge_25 rfl ?_
  refine aj_lstore (lv' := [(4, .long ((1 : Int64) <<< (((x1 &&& (63 : Int32))).toInt64 &&& 63))), (3, .int (x1 >>> ((6 : Int32) &&& 31))), (2, .int z0), (0, .ref o_Tal), (1, .int x1)]) X d_Tal_judge_26 (by decide) rfl ?_
  refine aj_aload_n X d_Tal_judge_28 3 rfl ?_
  refine aj_get X d_Tal_judge_29 in_Tal 0 rfl rfl 1 (by decide) lf_Tal_15 rfl ?_
  refine aj_iload_n X d_Tal_judge_32 1 rfl ?_
  refine aj_iload_n X d_Tal_judge_33 2 rfl ?_
  refine aj_if_ne X 58 d_Tal_judge_34 (by decide) (fun h => ?_) (fun h => ?_)
  · have hm := ite_f hm h
    refine aj_lv (lv' := [(0, .ref o_Tal), (1, .int x1), (2, .int z0), (3, .int (x1 >>> ((6 : Int32) &&& 31))), (4, .long ((1 : Int64) <<< (((x1 &&& (63 : Int32))).toInt64 &&& 63)))]) [3, 4, 2, 1, 0] rfl ?_
    exact c_Tal_judge_B58 o_Tal o_Sto a_Tal_0 a_Tal_1 a_Tal_2 a_Tal_3 out X N hr hlk v_Tal x1 z0 (x1 >>> ((6 : Int32) &&& 31)) ((1 : Int64) <<< (((x1 &&& (63 : Int32))).toInt64 &&& 63)) (x1 >>> ((6 : Int32) &&& 31)) hm
  · have hm := ite_t hm h
    refine aj_aload_n X d_Tal_judge_37 3 rfl ?_
    refine aj_get X d_Tal_judge_38 in_Tal 0 rfl rfl 4 (by decide) lf_Tal_26 rfl ?_
    refine aj_iload_n X d_Tal_judge_41 4 rfl ?_
    obtain ⟨b7, hm⟩ := chk_of hm
    refine aj_iald X d_Tal_judge_42 4 0 rfl rfl b7 ?_
    refine aj_if_ne X 58 d_Tal_judge_43 (by decide) (fun h => ?_) (fun h => ?_)
    · have hm := ite_f hm h
      refine aj_lv (lv' := [(0, .ref o_Tal), (1, .int x1), (2, .int z0), (3, .int (x1 >>> ((6 : Int32) &&& 31))), (4, .long ((1 : Int64) <<< (((x1 &&& (63 : Int32))).toInt64 &&& 63)))]) [3, 4, 2, 1, 0] rfl ?_
      exact c_Tal_judge_B58 o_Tal o_Sto a_Tal_0 a_Tal_1 a_Tal_2 a_Tal_3 out X N hr hlk v_Tal x1 z0 (x1 >>> ((6 : Int32) &&& 31)) ((1 : Int64) <<< (((x1 &&& (63 : Int32))).toInt64 &&& 63)) (x1 >>> ((6 : Int32) &&& 31)) hm
    · have hm := ite_t hm h
      refine aj_aload_n X d_Tal_judge_46 3 rfl ?_
      refine aj_get X d_Tal_judge_47 in_Tal 0 rfl rfl 1 (by decide) lf_Tal_15 rfl ?_
      refine aj_iload_n X d_Tal_judge_50 1 rfl ?_
      obtain ⟨b8, hm⟩ := chk_of hm
      refine aj_lald X d_Tal_judge_51 1 1 rfl rfl b8 ?_
      refine aj_lload X d_Tal_judge_52 0 rfl ?_
      refine aj_lor X d_Tal_judge_54 ?_
      refine aj_goto X 71 d_Tal_judge_55 (by decide) ?_
      refine aj_lv (lv' := [(0, .ref o_Tal), (1, .int x1), (2, .int z0), (3, .int (x1 >>> ((6 : Int32) &&& 31))), (4, .long ((1 : Int64) <<< (((x1 &&& (63 : Int32))).toInt64 &&& 63)))]) [3, 4, 2, 1, 0] rfl ?_
      exact c_Tal_judge_B71 o_Tal o_Sto a_Tal_0 a_Tal_1 a_Tal_2 a_Tal_3 out X N hr hlk v_Tal x1 z0 (x1 >>> ((6 : Int32) &&& 31)) ((1 : Int64) <<< (((x1 &&& (63 : Int32))).toInt64 &&& 63)) ((v_Tal.1.2 ((x1 >>> ((6 : Int32) &&& 31))).toNatClampNeg) ||| ((1 : Int64) <<< (((x1 &&& (63 : Int32))).toInt64 &&& 63))) (x1 >>> ((6 : Int32) &&& 31)) hm
def m_Tal_judge (v_Tal : T_Tal) (x1 : Int32) : Option (T_Tal) := (if ¬ (x1 < 0 ∨ v_Tal.2.2.1.1 ≤ (x1).toNatClampNeg) then (if (v_Tal.2.2.1.2 (x1).toNatClampNeg) ≤ 0 then (m_Tal_judge_B14 v_Tal x1 (0 : Int32)) else (m_Tal_judge_B14 v_Tal x1 (1 : Int32))) else none)
set_option maxRecDepth 100000 in
set_option maxHeartbeats 4000000 in
theorem c_Tal_judge {l : Launch} {D : va_G} {cI cL cZ : ClassId} (o_Tal o_Sto a_Tal_0 a_Tal_1 a_Tal_2 a_Tal_3 : Nat) (v_Tal : T_Tal) (x1 : Int32) (out : T_Tal) (hm : m_Tal_judge v_Tal x1 = some out) : ct l y_Tal_judge (Cond.code y_Tal_judge b_Tal_judge 6 none :: TB) 0 0 D clss (ty3 cI cL cZ) NM0 NF0 [.ref o_Tal, .int x1] (w_Tal cI cL cZ o_Tal o_Sto a_Tal_0 a_Tal_1 a_Tal_2 a_Tal_3 v_Tal) (qV D clss (ty3 cI cL cZ) (O_Tal_judge cI cL cZ o_Tal o_Sto a_Tal_0 a_Tal_1 a_Tal_2 a_Tal_3 out)) 0 0 := by
  refine ct_of (plainFor_of_name (by decide)) (Nat.le_of_ble_eq_true rfl) (fun p e s m args below meth c A X N hr hlk hnm => ?_)
  refine aj_lv (lv' := [(0, .ref o_Tal), (1, .int x1)]) [0, 1] rfl ?_
  unfold m_Tal_judge at hm
  refine aj_aload_n X d_Tal_judge_0 0 rfl ?_
  refine aj_get X d_Tal_judge_1 in_Tal 0 rfl rfl 3 (by decide) lf_Tal_22 rfl ?_
  refine aj_iload_n X d_Tal_judge_4 1 rfl ?_
  obtain ⟨b9, hm⟩ := chk_of hm
  refine aj_iald X d_Tal_judge_5 3 0 rfl rfl b9 ?_
  refine aj_if_le X 13 d_Tal_judge_6 (by decide) (fun h => ?_) (fun h => ?_)
  · have hm := ite_t hm h
    refine aj_iconst (v := (0 : Int32)) X d_Tal_judge_13 (by decide) ?_
    exact c_Tal_judge_B14 o_Tal o_Sto a_Tal_0 a_Tal_1 a_Tal_2 a_Tal_3 out X N hr hlk v_Tal x1 (0 : Int32) hm
  · have hm := ite_f hm h
    refine aj_iconst (v := (1 : Int32)) X d_Tal_judge_9 (by decide) ?_
    refine aj_goto X 14 d_Tal_judge_10 (by decide) ?_
    exact c_Tal_judge_B14 o_Tal o_Sto a_Tal_0 a_Tal_1 a_Tal_2 a_Tal_3 out X N hr hlk v_Tal x1 (1 : Int32) hm
abbrev X_Tal_restart (p : Program) (s : State) (m : MethodId) (args : Array Value) (c : Code) (D : va_G) (cI cL cZ : ClassId) (A : Nat → Prop) : Prop := aj_C p s m args c D clss (ty3 cI cL cZ) A b_Tal_restart 2 R_Tal TB
abbrev J_Tal_restart (p : Program) (l : Launch) (e : Env) (s : State) (m : MethodId) (args : Array Value) (below : List Frame) (meth : Method) (c : Code) (D : va_G) (cI cL cZ : ClassId) (A : Nat → Prop) (O : va_W → Prop) (mc ms : Nat) (ws : va_W) (kc ks pc : Nat) (lv : List (Nat × Value)) (st : List Value) : Prop := aj p l e { frames := 4, cells := mc, slots := ms, locals := 104 } s m args below meth c (MQ below (qV D clss (ty3 cI cL cZ) O A) args s mc ms A) D clss A 2 ws kc ks pc lv st
def O_Tal_restart (cI cL cZ : ClassId) (o_Sto o_Tal a_Sto_0 a_Sto_1 a_Sto_2 a_Sto_3 a_Sto_4 a_Tal_0 a_Tal_1 : Nat) (v_Sto : T_Sto) (out : T_Tal) : va_W → Prop := fun w1 => ∃ (a_Tal_2 a_Tal_3 : Nat), w1 = w_Sto cI cL cZ o_Sto a_Sto_0 a_Sto_1 a_Sto_2 a_Sto_3 a_Sto_4 v_Sto ++ w_Tal cI cL cZ o_Tal o_Sto a_Tal_0 a_Tal_1 a_Tal_2 a_Tal_3 out
def m_Tal_restart_L6 (v_Sto : T_Sto) : Nat → T_Tal → Int32 → Option ((T_Tal) × Nat × Nat)
  | 0, _, _ => none
  | f + 1, v_Tal, x1 => (if v_Sto.1 ≤ x1 then (some (v_Tal, 0, 0)) else (if ¬ (x1 < 0 ∨ v_Tal.2.2.1.1 ≤ (x1).toNatClampNeg) then ((m_Sto_sizeOf v_Sto x1).bind fun r10 => (if ¬ (x1 < 0 ∨ v_Tal.2.2.2.1 ≤ (x1).toNatClampNeg) then ((m_Tal_judge (v_Tal.1, v_Tal.2.1, (v_Tal.2.2.1.1, (upd v_Tal.2.2.1.2 (x1).toNatClampNeg (0 : Int32))), (v_Tal.2.2.2.1, (upd v_Tal.2.2.2.2 (x1).toNatClampNeg r10))) x1).bind fun r13 => ((m_Tal_restart_L6 v_Sto f) r13 (x1 + 1))) else none)) else none))
set_option maxRecDepth 100000 in
set_option maxHeartbeats 4000000 in
theorem c_Tal_restart_L6 {l : Launch} {D : va_G} {cI cL cZ : ClassId} {p : Program} {e : Env} {s : State} {m : MethodId} {args : Array Value} {below : List Frame} {meth : Method} {c : Code} {A : Nat → Prop} (o_Sto o_Tal a_Sto_0 a_Sto_1 a_Sto_2 a_Sto_3 a_Sto_4 a_Tal_0 a_Tal_1 : Nat) (v_Sto : T_Sto) (out : T_Tal) (mc ms : Nat) (X : X_Tal_restart p s m args c D cI cL cZ A) (N : nk NM0 NF0 s) (hr : meth.sig.returnType = none) (hlk : meth.locks = false) : ∀ (nn : Nat), ∀ (a_Tal_2 a_Tal_3 : Nat) (v_Tal : T_Tal) (x1 : Int32) (kc ks dc ds : Nat), m_Tal_restart_L6 v_Sto nn v_Tal x1 = some (out, dc, ds) → kc + dc = mc → ks + ds = ms → J_Tal_restart p l e s m args below meth c D cI cL cZ A (O_Tal_restart cI cL cZ o_Sto o_Tal a_Sto_0 a_Sto_1 a_Sto_2 a_Sto_3 a_Sto_4 a_Tal_0 a_Tal_1 v_Sto out) mc ms (w_Sto cI cL cZ o_Sto a_Sto_0 a_Sto_1 a_Sto_2 a_Sto_3 a_Sto_4 v_Sto ++ w_Tal cI cL cZ o_Tal o_Sto a_Tal_0 a_Tal_1 a_Tal_2 a_Tal_3 v_Tal) kc ks 6 [(0, .ref o_Tal), (1, .int x1)] [] := by
  intro nn
  induction nn with
  | zero => intro a_Tal_2 a_Tal_3 v_Tal x1 kc ks dc ds hm hkc hks; exact absurd hm (by simp [m_Tal_restart_L6])
  | succ nn ih6 =>
    intro a_Tal_2 a_Tal_3 v_Tal x1 kc ks dc ds hm hkc hks
    unfold m_Tal_restart_L6 at hm
    refine aj_iload_n X d_Tal_restart_6 1 rfl ?_
    refine aj_aload_n X d_Tal_restart_7 0 rfl ?_
    refine aj_get X d_Tal_restart_8 in_Tal 6 rfl rfl 0 (by decide) lf_Tal_9 rfl ?_
    refine aj_get X d_Tal_restart_11 in_Sto 0 rfl rfl 0 (by decide) lf_Tal_32 rfl ?_
    refine aj_icmp_ge X 49 d_Tal_restart_14 (by decide) (fun h => ?_) (fun h => ?_)
    · have hm := ite_t hm h
      obtain ⟨ho, e1, e2⟩ := res_of hm
      subst ho
      obtain rfl := kc_end hkc e1
      obtain rfl := kc_end hks e2
      exact aj_vret X d_Tal_restart_49 hr hlk [0, 1, 2, 3, 4, 5, 6, 7, 8, 9, 10] (w_Sto cI cL cZ o_Sto a_Sto_0 a_Sto_1 a_Sto_2 a_Sto_3 a_Sto_4 v_Sto ++ w_Tal cI cL cZ o_Tal o_Sto a_Tal_0 a_Tal_1 a_Tal_2 a_Tal_3 v_Tal) rfl rfl ⟨a_Tal_2, a_Tal_3, rfl⟩
    · have hm := ite_f hm h
      refine aj_aload_n X d_Tal_restart_17 0 rfl ?_
      refine aj_get X d_Tal_restart_18 in_Tal 6 rfl rfl 3 (by decide) lf_Tal_22 rfl ?_
      refine aj_iload_n X d_Tal_restart_21 1 rfl ?_
      refine aj_iconst (v := (0 : Int32)) X d_Tal_restart_22 (by decide) ?_
      obtain ⟨b9, hm⟩ := chk_of hm
      refine aj_iast (ws' := w_Sto cI cL cZ o_Sto a_Sto_0 a_Sto_1 a_Sto_2 a_Sto_3 a_Sto_4 v_Sto ++ w_Tal cI cL cZ o_Tal o_Sto a_Tal_0 a_Tal_1 a_Tal_2 a_Tal_3 (v_Tal.1, v_Tal.2.1, (v_Tal.2.2.1.1, (upd v_Tal.2.2.1.2 (x1).toNatClampNeg (0 : Int32))), v_Tal.2.2.2)) X d_Tal_restart_23 9 0 rfl rfl b9 rfl ?_
      refine aj_aload_n X d_Tal_restart_24 0 rfl ?_
      refine aj_get X d_Tal_restart_25 in_Tal 6 rfl rfl 4 (by decide) lf_Tal_26 rfl ?_
      refine aj_iload_n X d_Tal_restart_28 1 rfl ?_
      refine aj_aload_n X d_Tal_restart_29 0 rfl ?_
      refine aj_get X d_Tal_restart_30 in_Tal 6 rfl rfl 0 (by decide) lf_Tal_9 rfl ?_
      refine aj_iload_n X d_Tal_restart_33 1 rfl ?_
      obtain ⟨r10, h11, hm⟩ := bnd_of hm
      refine aj_callI (wr := [(o_Tal, .inr (4, [.ref o_Sto, .ref a_Tal_0, .ref a_Tal_1, .ref a_Tal_2, .ref a_Tal_3])), (a_Tal_0, .inl (cL, v_Tal.1.1, .inr (.inl v_Tal.1.2))), (a_Tal_1, .inl (cL, v_Tal.2.1.1, .inr (.inl v_Tal.2.1.2))), (a_Tal_2, .inl (cI, v_Tal.2.2.1.1, .inl (upd v_Tal.2.2.1.2 (x1).toNatClampNeg (0 : Int32)))), (a_Tal_3, .inl (cI, v_Tal.2.2.2.1, .inl v_Tal.2.2.2.2))]) X (aj_rV (As := [.int x1]) (rest := [.int x1, .ref a_Tal_3]) X N gTB (c_Sto_sizeOf (D := D) (cI := cI) (cL := cL) (cZ := cZ) o_Sto a_Sto_0 a_Sto_1 a_Sto_2 a_Sto_3 a_Sto_4 v_Sto x1 r10 h11) d_Tal_restart_34 lk_Sto_sizeOf lw_Tal_38 lh_Sto_sizeOf ⟨(Nat.le_of_ble_eq_true rfl), (Nat.le_of_ble_eq_true rfl)⟩ [0, 1, 2, 3, 4, 5] rfl rfl 0 rfl rfl rfl rfl (Nat.le_of_ble_eq_true rfl) ⟨kc_le1 hkc, kc_le1 hks⟩) [0, 1, 2, 3, 4, 5] [6, 7, 8, 9, 10] rfl rfl rfl (by decide) (fun rr w1 hO => ?_)
      have hkc := kc_zero hkc
      have hks := kc_zero hks
      obtain ⟨rfl, rfl⟩ := hO
      refine aj_perm (ws' := w_Sto cI cL cZ o_Sto a_Sto_0 a_Sto_1 a_Sto_2 a_Sto_3 a_Sto_4 v_Sto ++ w_Tal cI cL cZ o_Tal o_Sto a_Tal_0 a_Tal_1 a_Tal_2 a_Tal_3 (v_Tal.1, v_Tal.2.1, (v_Tal.2.2.1.1, (upd v_Tal.2.2.1.2 (x1).toNatClampNeg (0 : Int32))), v_Tal.2.2.2)) [5, 6, 7, 8, 9, 10, 0, 1, 2, 3, 4] rfl rfl ?_
      obtain ⟨b12, hm⟩ := chk_of hm
      refine aj_iast (ws' := w_Sto cI cL cZ o_Sto a_Sto_0 a_Sto_1 a_Sto_2 a_Sto_3 a_Sto_4 v_Sto ++ w_Tal cI cL cZ o_Tal o_Sto a_Tal_0 a_Tal_1 a_Tal_2 a_Tal_3 (v_Tal.1, v_Tal.2.1, (v_Tal.2.2.1.1, (upd v_Tal.2.2.1.2 (x1).toNatClampNeg (0 : Int32))), (v_Tal.2.2.2.1, (upd v_Tal.2.2.2.2 (x1).toNatClampNeg r10)))) X d_Tal_restart_37 10 0 rfl rfl b12 rfl ?_
      refine aj_aload_n X d_Tal_restart_38 0 rfl ?_
      refine aj_iload_n X d_Tal_restart_39 1 rfl ?_
      obtain ⟨r13, h14, hm⟩ := bnd_of hm
      refine aj_callV (wr := [(o_Sto, .inr (3, [.int v_Sto.1, .int v_Sto.2.1, .ref a_Sto_0, .ref a_Sto_1, .ref a_Sto_2, .ref a_Sto_3, .ref a_Sto_4])), (a_Sto_0, .inl (cI, v_Sto.2.2.1.1, .inl v_Sto.2.2.1.2)), (a_Sto_1, .inl (cI, v_Sto.2.2.2.1.1, .inl v_Sto.2.2.2.1.2)), (a_Sto_2, .inl (cI, v_Sto.2.2.2.2.1.1, .inl v_Sto.2.2.2.2.1.2)), (a_Sto_3, .inl (cI, v_Sto.2.2.2.2.2.1.1, .inl v_Sto.2.2.2.2.2.1.2)), (a_Sto_4, .inl (cI, v_Sto.2.2.2.2.2.2.1, .inl v_Sto.2.2.2.2.2.2.2))]) X (aj_rV (As := [.int x1]) (rest := []) X N gTB (c_Tal_judge (D := D) (cI := cI) (cL := cL) (cZ := cZ) o_Tal o_Sto a_Tal_0 a_Tal_1 a_Tal_2 a_Tal_3 (v_Tal.1, v_Tal.2.1, (v_Tal.2.2.1.1, (upd v_Tal.2.2.1.2 (x1).toNatClampNeg (0 : Int32))), (v_Tal.2.2.2.1, (upd v_Tal.2.2.2.2 (x1).toNatClampNeg r10))) x1 r13 h14) d_Tal_restart_40 lk_Tal_judge lw_Tal_42 lh_Tal_judge ⟨(Nat.le_of_ble_eq_true rfl), (Nat.le_of_ble_eq_true rfl)⟩ [6, 7, 8, 9, 10] rfl rfl 0 rfl rfl rfl rfl (Nat.le_of_ble_eq_true rfl) ⟨kc_le1 hkc, kc_le1 hks⟩) [6, 7, 8, 9, 10] [0, 1, 2, 3, 4, 5] rfl rfl rfl (by decide) (fun w1 hO => ?_)
      have hkc := kc_zero hkc
      have hks := kc_zero hks
      obtain rfl := hO
      refine aj_perm (ws' := w_Sto cI cL cZ o_Sto a_Sto_0 a_Sto_1 a_Sto_2 a_Sto_3 a_Sto_4 v_Sto ++ w_Tal cI cL cZ o_Tal o_Sto a_Tal_0 a_Tal_1 a_Tal_2 a_Tal_3 r13) [0, 1, 2, 3, 4, 5, 6, 7, 8, 9, 10] rfl rfl ?_
      refine aj_iinc (v := (x1 + 1)) (lv' := [(1, .int (x1 + 1)), (0, .ref o_Tal)]) X d_Tal_restart_43 1 rfl rfl (by decide) rfl ?_
      refine aj_goto X 6 d_Tal_restart_46 (by decide) ?_
      refine aj_lv (lv' := [(0, .ref o_Tal), (1, .int (x1 + 1))]) [1, 0] rfl ?_
      exact ih6 a_Tal_2 a_Tal_3 r13 (x1 + 1) (kc + 0 + 0) (ks + 0 + 0) _ _ hm hkc hks
def m_Tal_restart (v_Sto : T_Sto) (v_Tal : T_Tal) : Option ((T_Tal) × Nat × Nat) := ((m_Tal_makeRoom v_Sto v_Tal).bind fun r15 => addc r15.2.1 r15.2.2 (m_Tal_restart_L6 v_Sto fu r15.1 (0 : Int32)))
set_option maxRecDepth 100000 in
set_option maxHeartbeats 4000000 in
theorem c_Tal_restart {l : Launch} {D : va_G} {cI cL cZ : ClassId} (o_Sto o_Tal a_Sto_0 a_Sto_1 a_Sto_2 a_Sto_3 a_Sto_4 a_Tal_0 a_Tal_1 : Nat) (a_Tal_2 a_Tal_3 : Nat) (v_Sto : T_Sto) (v_Tal : T_Tal) (out : T_Tal) (mc ms : Nat) (hm : m_Tal_restart v_Sto v_Tal = some (out, mc, ms)) : ct l y_Tal_restart (Cond.code y_Tal_restart b_Tal_restart 2 none :: TB) 4 104 D clss (ty3 cI cL cZ) NM0 NF0 [.ref o_Tal] (w_Sto cI cL cZ o_Sto a_Sto_0 a_Sto_1 a_Sto_2 a_Sto_3 a_Sto_4 v_Sto ++ w_Tal cI cL cZ o_Tal o_Sto a_Tal_0 a_Tal_1 a_Tal_2 a_Tal_3 v_Tal) (qV D clss (ty3 cI cL cZ) (O_Tal_restart cI cL cZ o_Sto o_Tal a_Sto_0 a_Sto_1 a_Sto_2 a_Sto_3 a_Sto_4 a_Tal_0 a_Tal_1 v_Sto out)) mc ms := by
  refine ct_of (plainFor_of_name (by decide)) (Nat.le_of_ble_eq_true rfl) (fun p e s m args below meth c A X N hr hlk hnm => ?_)
  refine aj_lv (lv' := [(0, .ref o_Tal)]) [0] rfl ?_
  unfold m_Tal_restart at hm
  have hkc : 0 + mc = mc := Nat.zero_add _
  have hks : 0 + ms = ms := Nat.zero_add _
  refine aj_aload_n X d_Tal_restart_0 0 rfl ?_
  obtain ⟨r15, h16, hm⟩ := bnd_of hm
  obtain ⟨dc, ds, hm, e1, e2⟩ := addc_of hm
  have hkc := kc_step hkc e1
  have hks := kc_step hks e2
  refine aj_callV (wr := []) X (aj_rV (As := []) (rest := []) X N gTB (c_Tal_makeRoom (D := D) (cI := cI) (cL := cL) (cZ := cZ) o_Sto o_Tal a_Sto_0 a_Sto_1 a_Sto_2 a_Sto_3 a_Sto_4 a_Tal_0 a_Tal_1 a_Tal_2 a_Tal_3 v_Sto v_Tal r15.1 r15.2.1 r15.2.2 h16) d_Tal_restart_1 lk_Tal_makeRoom lw_Tal_29 lh_Tal_makeRoom ⟨(Nat.le_of_ble_eq_true rfl), (Nat.le_of_ble_eq_true rfl)⟩ [0, 1, 2, 3, 4, 5, 6, 7, 8, 9, 10] rfl rfl 6 rfl rfl rfl rfl (Nat.le_of_ble_eq_true rfl) ⟨kc_le hkc, kc_le hks⟩) [0, 1, 2, 3, 4, 5, 6, 7, 8, 9, 10] [] rfl rfl rfl (by decide) (fun w1 hO => ?_)
  obtain ⟨a17, a18, rfl⟩ := hO
  refine aj_perm (ws' := w_Sto cI cL cZ o_Sto a_Sto_0 a_Sto_1 a_Sto_2 a_Sto_3 a_Sto_4 v_Sto ++ w_Tal cI cL cZ o_Tal o_Sto a_Tal_0 a_Tal_1 a17 a18 r15.1) [0, 1, 2, 3, 4, 5, 6, 7, 8, 9, 10] rfl rfl ?_
  refine aj_iconst (v := (0 : Int32)) X d_Tal_restart_4 (by decide) ?_
  refine aj_istore_n (lv' := [(1, .int (0 : Int32)), (0, .ref o_Tal)]) X d_Tal_restart_5 rfl (by decide) rfl ?_
  refine aj_lv (lv' := [(0, .ref o_Tal), (1, .int (0 : Int32))]) [1, 0] rfl ?_
  exact c_Tal_restart_L6 o_Sto o_Tal a_Sto_0 a_Sto_1 a_Sto_2 a_Sto_3 a_Sto_4 a_Tal_0 a_Tal_1 v_Sto out mc ms X N hr hlk fu a17 a18 r15.1 (0 : Int32) (0 + r15.2.1) (0 + r15.2.2) _ _ hm hkc hks
abbrev X_Tra_restart (p : Program) (s : State) (m : MethodId) (args : Array Value) (c : Code) (D : va_G) (cI cL cZ : ClassId) (A : Nat → Prop) : Prop := aj_C p s m args c D clss (ty3 cI cL cZ) A b_Tra_restart 1 R_Tra TB
abbrev J_Tra_restart (p : Program) (l : Launch) (e : Env) (s : State) (m : MethodId) (args : Array Value) (below : List Frame) (meth : Method) (c : Code) (D : va_G) (cI cL cZ : ClassId) (A : Nat → Prop) (O : va_W → Prop) (mc ms : Nat) (ws : va_W) (kc ks pc : Nat) (lv : List (Nat × Value)) (st : List Value) : Prop := aj p l e { frames := 5, cells := mc, slots := ms, locals := 125 } s m args below meth c (MQ below (qV D clss (ty3 cI cL cZ) O A) args s mc ms A) D clss A 1 ws kc ks pc lv st
def O_Tra_restart (cI cL cZ : ClassId) (o_Sto o_Tal o_Tra a_Sto_0 a_Sto_1 a_Sto_2 a_Sto_3 a_Sto_4 a_Tal_0 a_Tal_1 a_Tra_0 a_Tra_1 a_Tra_2 a_Tra_3 : Nat) (v_Sto : T_Sto) (out : T_Tal × T_Tra) : va_W → Prop := fun w1 => ∃ (a_Tal_2 a_Tal_3 : Nat), w1 = w_Sto cI cL cZ o_Sto a_Sto_0 a_Sto_1 a_Sto_2 a_Sto_3 a_Sto_4 v_Sto ++ w_Tal cI cL cZ o_Tal o_Sto a_Tal_0 a_Tal_1 a_Tal_2 a_Tal_3 out.1 ++ w_Tra cI cL cZ o_Tra o_Tal a_Tra_0 a_Tra_1 a_Tra_2 a_Tra_3 out.2
def m_Tra_restart (v_Sto : T_Sto) (v_Tal : T_Tal) (v_Tra : T_Tra) : Option ((T_Tal × T_Tra) × Nat × Nat) := ((m_Arr__fill v_Tra.2.2.2.1 (-1 : Int32)).bind fun r7 => ((m_Tal_restart v_Sto v_Tal).bind fun r9 => addc r9.2.1 r9.2.2 (some ((r9.1, ((0 : Int32), (0 : Int32), v_Tra.2.2.1, r7, v_Tra.2.2.2.2.1, v_Tra.2.2.2.2.2)), 0, 0))))
set_option maxRecDepth 100000 in
set_option maxHeartbeats 4000000 in
theorem c_Tra_restart {l : Launch} {D : va_G} {cI cL cZ : ClassId} (o_Sto o_Tal o_Tra a_Sto_0 a_Sto_1 a_Sto_2 a_Sto_3 a_Sto_4 a_Tal_0 a_Tal_1 a_Tra_0 a_Tra_1 a_Tra_2 a_Tra_3 : Nat) (a_Tal_2 a_Tal_3 : Nat) (v_Sto : T_Sto) (v_Tal : T_Tal) (v_Tra : T_Tra) (out : T_Tal × T_Tra) (mc ms : Nat) (hm : m_Tra_restart v_Sto v_Tal v_Tra = some (out, mc, ms)) : ct l y_Tra_restart (Cond.code y_Tra_restart b_Tra_restart 1 none :: TB) 5 125 D clss (ty3 cI cL cZ) NM0 NF0 [.ref o_Tra] (w_Sto cI cL cZ o_Sto a_Sto_0 a_Sto_1 a_Sto_2 a_Sto_3 a_Sto_4 v_Sto ++ w_Tal cI cL cZ o_Tal o_Sto a_Tal_0 a_Tal_1 a_Tal_2 a_Tal_3 v_Tal ++ w_Tra cI cL cZ o_Tra o_Tal a_Tra_0 a_Tra_1 a_Tra_2 a_Tra_3 v_Tra) (qV D clss (ty3 cI cL cZ) (O_Tra_restart cI cL cZ o_Sto o_Tal o_Tra a_Sto_0 a_Sto_1 a_Sto_2 a_Sto_3 a_Sto_4 a_Tal_0 a_Tal_1 a_Tra_0 a_Tra_1 a_Tra_2 a_Tra_3 v_Sto out)) mc ms := by
  refine ct_of (plainFor_of_name (by decide)) (Nat.le_of_ble_eq_true rfl) (fun p e s m args below meth c A X N hr hlk hnm => ?_)
  refine aj_lv (lv' := [(0, .ref o_Tra)]) [0] rfl ?_
  unfold m_Tra_restart at hm
  have hkc : 0 + mc = mc := Nat.zero_add _
  have hks : 0 + ms = ms := Nat.zero_add _
  refine aj_aload_n X d_Tra_restart_0 0 rfl ?_
  refine aj_iconst (v := (0 : Int32)) X d_Tra_restart_1 (by decide) ?_
  refine aj_put (ws' := w_Sto cI cL cZ o_Sto a_Sto_0 a_Sto_1 a_Sto_2 a_Sto_3 a_Sto_4 v_Sto ++ w_Tal cI cL cZ o_Tal o_Sto a_Tal_0 a_Tal_1 a_Tal_2 a_Tal_3 v_Tal ++ w_Tra cI cL cZ o_Tra o_Tal a_Tra_0 a_Tra_1 a_Tra_2 a_Tra_3 ((0 : Int32), v_Tra.2.1, v_Tra.2.2.1, v_Tra.2.2.2.1, v_Tra.2.2.2.2.1, v_Tra.2.2.2.2.2)) X d_Tra_restart_2 in_Tra ty_Tra tyok_Tra nmx_Tra 11 rfl rfl 0 (by decide) lf_Tra_15 rfl rfl rfl (Nat.le_of_ble_eq_true rfl) rfl ?_
  refine aj_aload_n X d_Tra_restart_5 0 rfl ?_
  refine aj_iconst (v := (0 : Int32)) X d_Tra_restart_6 (by decide) ?_
  refine aj_put (ws' := w_Sto cI cL cZ o_Sto a_Sto_0 a_Sto_1 a_Sto_2 a_Sto_3 a_Sto_4 v_Sto ++ w_Tal cI cL cZ o_Tal o_Sto a_Tal_0 a_Tal_1 a_Tal_2 a_Tal_3 v_Tal ++ w_Tra cI cL cZ o_Tra o_Tal a_Tra_0 a_Tra_1 a_Tra_2 a_Tra_3 ((0 : Int32), (0 : Int32), v_Tra.2.2.1, v_Tra.2.2.2.1, v_Tra.2.2.2.2.1, v_Tra.2.2.2.2.2)) X d_Tra_restart_7 in_Tra ty_Tra tyok_Tra nmx_Tra 11 rfl rfl 1 (by decide) lf_Tra_19 rfl rfl rfl (Nat.le_of_ble_eq_true rfl) rfl ?_
  refine aj_aload_n X d_Tra_restart_10 0 rfl ?_
  refine aj_get X d_Tra_restart_11 in_Tra 11 rfl rfl 4 (by decide) lf_Tra_26 rfl ?_
  refine aj_iconst (v := (-1 : Int32)) X d_Tra_restart_14 (by decide) ?_
  obtain ⟨r7, h8, hm⟩ := bnd_of hm
  refine aj_callV (wr := [(o_Sto, .inr (3, [.int v_Sto.1, .int v_Sto.2.1, .ref a_Sto_0, .ref a_Sto_1, .ref a_Sto_2, .ref a_Sto_3, .ref a_Sto_4])), (a_Sto_0, .inl (cI, v_Sto.2.2.1.1, .inl v_Sto.2.2.1.2)), (a_Sto_1, .inl (cI, v_Sto.2.2.2.1.1, .inl v_Sto.2.2.2.1.2)), (a_Sto_2, .inl (cI, v_Sto.2.2.2.2.1.1, .inl v_Sto.2.2.2.2.1.2)), (a_Sto_3, .inl (cI, v_Sto.2.2.2.2.2.1.1, .inl v_Sto.2.2.2.2.2.1.2)), (a_Sto_4, .inl (cI, v_Sto.2.2.2.2.2.2.1, .inl v_Sto.2.2.2.2.2.2.2)), (o_Tal, .inr (4, [.ref o_Sto, .ref a_Tal_0, .ref a_Tal_1, .ref a_Tal_2, .ref a_Tal_3])), (a_Tal_0, .inl (cL, v_Tal.1.1, .inr (.inl v_Tal.1.2))), (a_Tal_1, .inl (cL, v_Tal.2.1.1, .inr (.inl v_Tal.2.1.2))), (a_Tal_2, .inl (cI, v_Tal.2.2.1.1, .inl v_Tal.2.2.1.2)), (a_Tal_3, .inl (cI, v_Tal.2.2.2.1, .inl v_Tal.2.2.2.2)), (o_Tra, .inr (5, [.int (0 : Int32), .int (0 : Int32), .ref a_Tra_0, .ref o_Tal, .ref a_Tra_1, .ref a_Tra_2, .ref a_Tra_3])), (a_Tra_0, .inl (cI, v_Tra.2.2.1.1, .inl v_Tra.2.2.1.2)), (a_Tra_2, .inl (cI, v_Tra.2.2.2.2.1.1, .inl v_Tra.2.2.2.2.1.2)), (a_Tra_3, .inl (cI, v_Tra.2.2.2.2.2.1, .inl v_Tra.2.2.2.2.2.2))]) X (aj_rS (As := [.ref a_Tra_1, .int (-1 : Int32)]) (rest := []) X N gTB (c_Arr__fill (D := D) (cI := cI) (cL := cL) (cZ := cZ) a_Tra_1 v_Tra.2.2.2.1 (-1 : Int32) r7 h8) d_Tra_restart_15 lk_Arr__fill lw_Tra_35 lh_Arr__fill ⟨(Nat.le_of_ble_eq_true rfl), (Nat.le_of_ble_eq_true rfl)⟩ [13] rfl rfl rfl (Nat.le_of_ble_eq_true rfl) ⟨kc_le1 hkc, kc_le1 hks⟩) [13] [0, 1, 2, 3, 4, 5, 6, 7, 8, 9, 10, 11, 12, 14, 15] rfl rfl rfl (by decide) (fun w1 hO => ?_)
  have hkc := kc_zero hkc
  have hks := kc_zero hks
  obtain rfl := hO
  refine aj_perm (ws' := w_Sto cI cL cZ o_Sto a_Sto_0 a_Sto_1 a_Sto_2 a_Sto_3 a_Sto_4 v_Sto ++ w_Tal cI cL cZ o_Tal o_Sto a_Tal_0 a_Tal_1 a_Tal_2 a_Tal_3 v_Tal ++ w_Tra cI cL cZ o_Tra o_Tal a_Tra_0 a_Tra_1 a_Tra_2 a_Tra_3 ((0 : Int32), (0 : Int32), v_Tra.2.2.1, r7, v_Tra.2.2.2.2.1, v_Tra.2.2.2.2.2)) [0, 1, 2, 3, 4, 5, 6, 7, 8, 9, 10, 11, 12, 15, 13, 14] rfl rfl ?_
  refine aj_aload_n X d_Tra_restart_18 0 rfl ?_
  refine aj_get X d_Tra_restart_19 in_Tra 11 rfl rfl 3 (by decide) lf_Tra_9 rfl ?_
  obtain ⟨r9, h10, hm⟩ := bnd_of hm
  obtain ⟨dc, ds, hm, e1, e2⟩ := addc_of hm
  have hkc := kc_step hkc e1
  have hks := kc_step hks e2
  refine aj_callV (wr := [(o_Tra, .inr (5, [.int (0 : Int32), .int (0 : Int32), .ref a_Tra_0, .ref o_Tal, .ref a_Tra_1, .ref a_Tra_2, .ref a_Tra_3])), (a_Tra_0, .inl (cI, v_Tra.2.2.1.1, .inl v_Tra.2.2.1.2)), (a_Tra_1, .inl (cI, r7.1, .inl r7.2)), (a_Tra_2, .inl (cI, v_Tra.2.2.2.2.1.1, .inl v_Tra.2.2.2.2.1.2)), (a_Tra_3, .inl (cI, v_Tra.2.2.2.2.2.1, .inl v_Tra.2.2.2.2.2.2))]) X (aj_rV (As := []) (rest := []) X N gTB (c_Tal_restart (D := D) (cI := cI) (cL := cL) (cZ := cZ) o_Sto o_Tal a_Sto_0 a_Sto_1 a_Sto_2 a_Sto_3 a_Sto_4 a_Tal_0 a_Tal_1 a_Tal_2 a_Tal_3 v_Sto v_Tal r9.1 r9.2.1 r9.2.2 h10) d_Tra_restart_22 lk_Tal_restart lw_Tra_41 lh_Tal_restart ⟨(Nat.le_of_ble_eq_true rfl), (Nat.le_of_ble_eq_true rfl)⟩ [0, 1, 2, 3, 4, 5, 6, 7, 8, 9, 10] rfl rfl 6 rfl rfl rfl rfl (Nat.le_of_ble_eq_true rfl) ⟨kc_le hkc, kc_le hks⟩) [0, 1, 2, 3, 4, 5, 6, 7, 8, 9, 10] [11, 12, 13, 14, 15] rfl rfl rfl (by decide) (fun w1 hO => ?_)
  obtain ⟨a11, a12, rfl⟩ := hO
  refine aj_perm (ws' := w_Sto cI cL cZ o_Sto a_Sto_0 a_Sto_1 a_Sto_2 a_Sto_3 a_Sto_4 v_Sto ++ w_Tal cI cL cZ o_Tal o_Sto a_Tal_0 a_Tal_1 a11 a12 r9.1 ++ w_Tra cI cL cZ o_Tra o_Tal a_Tra_0 a_Tra_1 a_Tra_2 a_Tra_3 ((0 : Int32), (0 : Int32), v_Tra.2.2.1, r7, v_Tra.2.2.2.2.1, v_Tra.2.2.2.2.2)) [5, 6, 7, 8, 9, 10, 11, 12, 13, 14, 15, 0, 1, 2, 3, 4] rfl rfl ?_
  obtain ⟨ho, e1, e2⟩ := res_of hm
  subst ho
  obtain rfl := kc_end hkc e1
  obtain rfl := kc_end hks e2
  exact aj_vret X d_Tra_restart_25 hr hlk [0, 1, 2, 3, 4, 5, 6, 7, 8, 9, 10, 11, 12, 13, 14, 15] (w_Sto cI cL cZ o_Sto a_Sto_0 a_Sto_1 a_Sto_2 a_Sto_3 a_Sto_4 v_Sto ++ w_Tal cI cL cZ o_Tal o_Sto a_Tal_0 a_Tal_1 a11 a12 r9.1 ++ w_Tra cI cL cZ o_Tra o_Tal a_Tra_0 a_Tra_1 a_Tra_2 a_Tra_3 ((0 : Int32), (0 : Int32), v_Tra.2.2.1, r7, v_Tra.2.2.2.2.1, v_Tra.2.2.2.2.2)) rfl rfl ⟨a11, a12, rfl⟩
abbrev X_Sea_begin (p : Program) (s : State) (m : MethodId) (args : Array Value) (c : Code) (D : va_G) (cI cL cZ : ClassId) (A : Nat → Prop) : Prop := aj_C p s m args c D clss (ty3 cI cL cZ) A b_Sea_begin 1 R_Sea TB
abbrev J_Sea_begin (p : Program) (l : Launch) (e : Env) (s : State) (m : MethodId) (args : Array Value) (below : List Frame) (meth : Method) (c : Code) (D : va_G) (cI cL cZ : ClassId) (A : Nat → Prop) (O : va_W → Prop) (mc ms : Nat) (ws : va_W) (kc ks pc : Nat) (lv : List (Nat × Value)) (st : List Value) : Prop := aj p l e { frames := 6, cells := mc, slots := ms, locals := 145 } s m args below meth c (MQ below (qV D clss (ty3 cI cL cZ) O A) args s mc ms A) D clss A 1 ws kc ks pc lv st
def O_Sea_begin (cI cL cZ : ClassId) (o_Sto o_Tal o_Tra o_Sea o_Ass a_Sto_0 a_Sto_1 a_Sto_2 a_Sto_3 a_Sto_4 a_Tal_0 a_Tal_1 a_Tra_0 a_Tra_1 a_Tra_2 a_Tra_3 a_Sea_0 a_Sea_1 a_Sea_2 : Nat) (v_Sto : T_Sto) (out : T_Tal × T_Tra × T_Sea) : va_W → Prop := fun w1 => ∃ (a_Tal_2 a_Tal_3 : Nat), w1 = w_Sto cI cL cZ o_Sto a_Sto_0 a_Sto_1 a_Sto_2 a_Sto_3 a_Sto_4 v_Sto ++ w_Tal cI cL cZ o_Tal o_Sto a_Tal_0 a_Tal_1 a_Tal_2 a_Tal_3 out.1 ++ w_Tra cI cL cZ o_Tra o_Tal a_Tra_0 a_Tra_1 a_Tra_2 a_Tra_3 out.2.1 ++ w_Sea cI cL cZ o_Sea o_Sto o_Tra o_Tal o_Ass a_Sea_0 a_Sea_1 a_Sea_2 out.2.2
def m_Sea_begin (v_Sto : T_Sto) (v_Tal : T_Tal) (v_Tra : T_Tra) (v_Sea : T_Sea) : Option ((T_Tal × T_Tra × T_Sea) × Nat × Nat) := ((m_Tra_restart v_Sto v_Tal v_Tra).bind fun r5 => addc r5.2.1 r5.2.2 (some ((r5.1.1, r5.1.2, (v_Sea.1, (0 : Int64), v_Sea.2.2.1, v_Sea.2.2.2.1, v_Sea.2.2.2.2.1, (0 : Int32), v_Sea.2.2.2.2.2.2.1, v_Sea.2.2.2.2.2.2.2)), 0, 0)))
set_option maxRecDepth 100000 in
set_option maxHeartbeats 4000000 in
theorem c_Sea_begin {l : Launch} {D : va_G} {cI cL cZ : ClassId} (o_Sto o_Tal o_Tra o_Sea o_Ass a_Sto_0 a_Sto_1 a_Sto_2 a_Sto_3 a_Sto_4 a_Tal_0 a_Tal_1 a_Tra_0 a_Tra_1 a_Tra_2 a_Tra_3 a_Sea_0 a_Sea_1 a_Sea_2 : Nat) (a_Tal_2 a_Tal_3 : Nat) (v_Sto : T_Sto) (v_Tal : T_Tal) (v_Tra : T_Tra) (v_Sea : T_Sea) (out : T_Tal × T_Tra × T_Sea) (mc ms : Nat) (hm : m_Sea_begin v_Sto v_Tal v_Tra v_Sea = some (out, mc, ms)) : ct l y_Sea_begin (Cond.code y_Sea_begin b_Sea_begin 1 none :: TB) 6 145 D clss (ty3 cI cL cZ) NM0 NF0 [.ref o_Sea] (w_Sto cI cL cZ o_Sto a_Sto_0 a_Sto_1 a_Sto_2 a_Sto_3 a_Sto_4 v_Sto ++ w_Tal cI cL cZ o_Tal o_Sto a_Tal_0 a_Tal_1 a_Tal_2 a_Tal_3 v_Tal ++ w_Tra cI cL cZ o_Tra o_Tal a_Tra_0 a_Tra_1 a_Tra_2 a_Tra_3 v_Tra ++ w_Sea cI cL cZ o_Sea o_Sto o_Tra o_Tal o_Ass a_Sea_0 a_Sea_1 a_Sea_2 v_Sea) (qV D clss (ty3 cI cL cZ) (O_Sea_begin cI cL cZ o_Sto o_Tal o_Tra o_Sea o_Ass a_Sto_0 a_Sto_1 a_Sto_2 a_Sto_3 a_Sto_4 a_Tal_0 a_Tal_1 a_Tra_0 a_Tra_1 a_Tra_2 a_Tra_3 a_Sea_0 a_Sea_1 a_Sea_2 v_Sto out)) mc ms := by
  refine ct_of (plainFor_of_name (by decide)) (Nat.le_of_ble_eq_true rfl) (fun p e s m args below meth c A X N hr hlk hnm => ?_)
  refine aj_lv (lv' := [(0, .ref o_Sea)]) [0] rfl ?_
  unfold m_Sea_begin at hm
  have hkc : 0 + mc = mc := Nat.zero_add _
  have hks : 0 + ms = ms := Nat.zero_add _
  refine aj_aload_n X d_Sea_begin_0 0 rfl ?_
  refine aj_get X d_Sea_begin_1 in_Sea 16 rfl rfl 4 (by decide) lf_Sea_19 rfl ?_
  obtain ⟨r5, h6, hm⟩ := bnd_of hm
  obtain ⟨dc, ds, hm, e1, e2⟩ := addc_of hm
  have hkc := kc_step hkc e1
  have hks := kc_step hks e2
  refine aj_callV (wr := [(o_Sea, .inr (2, [.int v_Sea.1, .long v_Sea.2.1, .int v_Sea.2.2.1, .ref o_Sto, .ref o_Tra, .ref o_Tal, .ref o_Ass, .ref a_Sea_0, .ref a_Sea_1, .int v_Sea.2.2.2.2.2.1, .ref a_Sea_2, .long v_Sea.2.2.2.2.2.2.2])), (a_Sea_0, .inl (cI, v_Sea.2.2.2.1.1, .inl v_Sea.2.2.2.1.2)), (a_Sea_1, .inl (cI, v_Sea.2.2.2.2.1.1, .inl v_Sea.2.2.2.2.1.2)), (a_Sea_2, .inl (cI, v_Sea.2.2.2.2.2.2.1.1, .inl v_Sea.2.2.2.2.2.2.1.2))]) X (aj_rV (As := []) (rest := []) X N gTB (c_Tra_restart (D := D) (cI := cI) (cL := cL) (cZ := cZ) o_Sto o_Tal o_Tra a_Sto_0 a_Sto_1 a_Sto_2 a_Sto_3 a_Sto_4 a_Tal_0 a_Tal_1 a_Tra_0 a_Tra_1 a_Tra_2 a_Tra_3 a_Tal_2 a_Tal_3 v_Sto v_Tal v_Tra r5.1 r5.2.1 r5.2.2 h6) d_Sea_begin_4 lk_Tra_restart lw_Sea_54 lh_Tra_restart ⟨(Nat.le_of_ble_eq_true rfl), (Nat.le_of_ble_eq_true rfl)⟩ [0, 1, 2, 3, 4, 5, 6, 7, 8, 9, 10, 11, 12, 13, 14, 15] rfl rfl 11 rfl rfl rfl rfl (Nat.le_of_ble_eq_true rfl) ⟨kc_le hkc, kc_le hks⟩) [0, 1, 2, 3, 4, 5, 6, 7, 8, 9, 10, 11, 12, 13, 14, 15] [16, 17, 18, 19] rfl rfl rfl (by decide) (fun w1 hO => ?_)
  obtain ⟨a7, a8, rfl⟩ := hO
  refine aj_perm (ws' := w_Sto cI cL cZ o_Sto a_Sto_0 a_Sto_1 a_Sto_2 a_Sto_3 a_Sto_4 v_Sto ++ w_Tal cI cL cZ o_Tal o_Sto a_Tal_0 a_Tal_1 a7 a8 r5.1.1 ++ w_Tra cI cL cZ o_Tra o_Tal a_Tra_0 a_Tra_1 a_Tra_2 a_Tra_3 r5.1.2 ++ w_Sea cI cL cZ o_Sea o_Sto o_Tra o_Tal o_Ass a_Sea_0 a_Sea_1 a_Sea_2 v_Sea) [4, 5, 6, 7, 8, 9, 10, 11, 12, 13, 14, 15, 16, 17, 18, 19, 0, 1, 2, 3] rfl rfl ?_
  refine aj_aload_n X d_Sea_begin_7 0 rfl ?_
  refine aj_iconst (v := (0 : Int32)) X d_Sea_begin_8 (by decide) ?_
  refine aj_put (ws' := w_Sto cI cL cZ o_Sto a_Sto_0 a_Sto_1 a_Sto_2 a_Sto_3 a_Sto_4 v_Sto ++ w_Tal cI cL cZ o_Tal o_Sto a_Tal_0 a_Tal_1 a7 a8 r5.1.1 ++ w_Tra cI cL cZ o_Tra o_Tal a_Tra_0 a_Tra_1 a_Tra_2 a_Tra_3 r5.1.2 ++ w_Sea cI cL cZ o_Sea o_Sto o_Tra o_Tal o_Ass a_Sea_0 a_Sea_1 a_Sea_2 (v_Sea.1, v_Sea.2.1, v_Sea.2.2.1, v_Sea.2.2.2.1, v_Sea.2.2.2.2.1, (0 : Int32), v_Sea.2.2.2.2.2.2.1, v_Sea.2.2.2.2.2.2.2)) X d_Sea_begin_9 in_Sea ty_Sea tyok_Sea nmx_Sea 16 rfl rfl 9 (by decide) lf_Sea_38 rfl rfl rfl (Nat.le_of_ble_eq_true rfl) rfl ?_
  refine aj_aload_n X d_Sea_begin_12 0 rfl ?_
  refine aj_lconst (v := (0 : Int64)) X d_Sea_begin_13 (by decide) ?_
  refine aj_put (ws' := w_Sto cI cL cZ o_Sto a_Sto_0 a_Sto_1 a_Sto_2 a_Sto_3 a_Sto_4 v_Sto ++ w_Tal cI cL cZ o_Tal o_Sto a_Tal_0 a_Tal_1 a7 a8 r5.1.1 ++ w_Tra cI cL cZ o_Tra o_Tal a_Tra_0 a_Tra_1 a_Tra_2 a_Tra_3 r5.1.2 ++ w_Sea cI cL cZ o_Sea o_Sto o_Tra o_Tal o_Ass a_Sea_0 a_Sea_1 a_Sea_2 (v_Sea.1, (0 : Int64), v_Sea.2.2.1, v_Sea.2.2.2.1, v_Sea.2.2.2.2.1, (0 : Int32), v_Sea.2.2.2.2.2.2.1, v_Sea.2.2.2.2.2.2.2)) X d_Sea_begin_14 in_Sea ty_Sea tyok_Sea nmx_Sea 16 rfl rfl 1 (by decide) lf_Sea_47 rfl rfl rfl (Nat.le_of_ble_eq_true rfl) rfl ?_
  obtain ⟨ho, e1, e2⟩ := res_of hm
  subst ho
  obtain rfl := kc_end hkc e1
  obtain rfl := kc_end hks e2
  exact aj_vret X d_Sea_begin_17 hr hlk [0, 1, 2, 3, 4, 5, 6, 7, 8, 9, 10, 11, 12, 13, 14, 15, 16, 17, 18, 19] (w_Sto cI cL cZ o_Sto a_Sto_0 a_Sto_1 a_Sto_2 a_Sto_3 a_Sto_4 v_Sto ++ w_Tal cI cL cZ o_Tal o_Sto a_Tal_0 a_Tal_1 a7 a8 r5.1.1 ++ w_Tra cI cL cZ o_Tra o_Tal a_Tra_0 a_Tra_1 a_Tra_2 a_Tra_3 r5.1.2 ++ w_Sea cI cL cZ o_Sea o_Sto o_Tra o_Tal o_Ass a_Sea_0 a_Sea_1 a_Sea_2 (v_Sea.1, (0 : Int64), v_Sea.2.2.1, v_Sea.2.2.2.1, v_Sea.2.2.2.2.1, (0 : Int32), v_Sea.2.2.2.2.2.2.1, v_Sea.2.2.2.2.2.2.2)) rfl rfl ⟨a7, a8, rfl⟩
abbrev X_Lng_bitCount (p : Program) (s : State) (m : MethodId) (args : Array Value) (c : Code) (D : va_G) (cI cL cZ : ClassId) (A : Nat → Prop) : Prop := aj_C p s m args c D clss (ty3 cI cL cZ) A b_Lng_bitCount 2 R_Lng TB
abbrev J_Lng_bitCount (p : Program) (l : Launch) (e : Env) (s : State) (m : MethodId) (args : Array Value) (below : List Frame) (meth : Method) (c : Code) (D : va_G) (cI cL cZ : ClassId) (A : Nat → Prop) (O : Int32 → va_W → Prop) (mc ms : Nat) (ws : va_W) (kc ks pc : Nat) (lv : List (Nat × Value)) (st : List Value) : Prop := aj p l e { frames := 0, cells := mc, slots := ms, locals := 0 } s m args below meth c (MQ below (qI D clss (ty3 cI cL cZ) O A) args s mc ms A) D clss A 2 ws kc ks pc lv st
def O_Lng_bitCount (cI cL cZ : ClassId) (out : Int32) : Int32 → va_W → Prop := fun r w1 => out = r ∧ w1 = []
def m_Lng_bitCount (x0 : Int64) : Option (Int32) := (some ((((((((((x0 - (((x0).toUInt64 >>> (((1 : Int32)).toInt64.toUInt64 &&& Int64.toUInt64 63)).toInt64 &&& (6148914691236517205 : Int64))) &&& (3689348814741910323 : Int64)) + ((((x0 - (((x0).toUInt64 >>> (((1 : Int32)).toInt64.toUInt64 &&& Int64.toUInt64 63)).toInt64 &&& (6148914691236517205 : Int64)))).toUInt64 >>> (((2 : Int32)).toInt64.toUInt64 &&& Int64.toUInt64 63)).toInt64 &&& (3689348814741910323 : Int64))) + (((((x0 - (((x0).toUInt64 >>> (((1 : Int32)).toInt64.toUInt64 &&& Int64.toUInt64 63)).toInt64 &&& (6148914691236517205 : Int64))) &&& (3689348814741910323 : Int64)) + ((((x0 - (((x0).toUInt64 >>> (((1 : Int32)).toInt64.toUInt64 &&& Int64.toUInt64 63)).toInt64 &&& (6148914691236517205 : Int64)))).toUInt64 >>> (((2 : Int32)).toInt64.toUInt64 &&& Int64.toUInt64 63)).toInt64 &&& (3689348814741910323 : Int64)))).toUInt64 >>> (((4 : Int32)).toInt64.toUInt64 &&& Int64.toUInt64 63)).toInt64) &&& (1085102592571150095 : Int64)) + (((((((x0 - (((x0).toUInt64 >>> (((1 : Int32)).toInt64.toUInt64 &&& Int64.toUInt64 63)).toInt64 &&& (6148914691236517205 : Int64))) &&& (3689348814741910323 : Int64)) + ((((x0 - (((x0).toUInt64 >>> (((1 : Int32)).toInt64.toUInt64 &&& Int64.toUInt64 63)).toInt64 &&& (6148914691236517205 : Int64)))).toUInt64 >>> (((2 : Int32)).toInt64.toUInt64 &&& Int64.toUInt64 63)).toInt64 &&& (3689348814741910323 : Int64))) + (((((x0 - (((x0).toUInt64 >>> (((1 : Int32)).toInt64.toUInt64 &&& Int64.toUInt64 63)).toInt64 &&& (6148914691236517205 : Int64))) &&& (3689348814741910323 : Int64)) + ((((x0 - (((x0).toUInt64 >>> (((1 : Int32)).toInt64.toUInt64 &&& Int64.toUInt64 63)).toInt64 &&& (6148914691236517205 : Int64)))).toUInt64 >>> (((2 : Int32)).toInt64.toUInt64 &&& Int64.toUInt64 63)).toInt64 &&& (3689348814741910323 : Int64)))).toUInt64 >>> (((4 : Int32)).toInt64.toUInt64 &&& Int64.toUInt64 63)).toInt64) &&& (1085102592571150095 : Int64))).toUInt64 >>> (((8 : Int32)).toInt64.toUInt64 &&& Int64.toUInt64 63)).toInt64) + ((((((((x0 - (((x0).toUInt64 >>> (((1 : Int32)).toInt64.toUInt64 &&& Int64.toUInt64 63)).toInt64 &&& (6148914691236517205 : Int64))) &&& (3689348814741910323 : Int64)) + ((((x0 - (((x0).toUInt64 >>> (((1 : Int32)).toInt64.toUInt64 &&& Int64.toUInt64 63)).toInt64 &&& (6148914691236517205 : Int64)))).toUInt64 >>> (((2 : Int32)).toInt64.toUInt64 &&& Int64.toUInt64 63)).toInt64 &&& (3689348814741910323 : Int64))) + (((((x0 - (((x0).toUInt64 >>> (((1 : Int32)).toInt64.toUInt64 &&& Int64.toUInt64 63)).toInt64 &&& (6148914691236517205 : Int64))) &&& (3689348814741910323 : Int64)) + ((((x0 - (((x0).toUInt64 >>> (((1 : Int32)).toInt64.toUInt64 &&& Int64.toUInt64 63)).toInt64 &&& (6148914691236517205 : Int64)))).toUInt64 >>> (((2 : Int32)).toInt64.toUInt64 &&& Int64.toUInt64 63)).toInt64 &&& (3689348814741910323 : Int64)))).toUInt64 >>> (((4 : Int32)).toInt64.toUInt64 &&& Int64.toUInt64 63)).toInt64) &&& (1085102592571150095 : Int64)) + (((((((x0 - (((x0).toUInt64 >>> (((1 : Int32)).toInt64.toUInt64 &&& Int64.toUInt64 63)).toInt64 &&& (6148914691236517205 : Int64))) &&& (3689348814741910323 : Int64)) + ((((x0 - (((x0).toUInt64 >>> (((1 : Int32)).toInt64.toUInt64 &&& Int64.toUInt64 63)).toInt64 &&& (6148914691236517205 : Int64)))).toUInt64 >>> (((2 : Int32)).toInt64.toUInt64 &&& Int64.toUInt64 63)).toInt64 &&& (3689348814741910323 : Int64))) + (((((x0 - (((x0).toUInt64 >>> (((1 : Int32)).toInt64.toUInt64 &&& Int64.toUInt64 63)).toInt64 &&& (6148914691236517205 : Int64))) &&& (3689348814741910323 : Int64)) + ((((x0 - (((x0).toUInt64 >>> (((1 : Int32)).toInt64.toUInt64 &&& Int64.toUInt64 63)).toInt64 &&& (6148914691236517205 : Int64)))).toUInt64 >>> (((2 : Int32)).toInt64.toUInt64 &&& Int64.toUInt64 63)).toInt64 &&& (3689348814741910323 : Int64)))).toUInt64 >>> (((4 : Int32)).toInt64.toUInt64 &&& Int64.toUInt64 63)).toInt64) &&& (1085102592571150095 : Int64))).toUInt64 >>> (((8 : Int32)).toInt64.toUInt64 &&& Int64.toUInt64 63)).toInt64)).toUInt64 >>> (((16 : Int32)).toInt64.toUInt64 &&& Int64.toUInt64 63)).toInt64) + (((((((((x0 - (((x0).toUInt64 >>> (((1 : Int32)).toInt64.toUInt64 &&& Int64.toUInt64 63)).toInt64 &&& (6148914691236517205 : Int64))) &&& (3689348814741910323 : Int64)) + ((((x0 - (((x0).toUInt64 >>> (((1 : Int32)).toInt64.toUInt64 &&& Int64.toUInt64 63)).toInt64 &&& (6148914691236517205 : Int64)))).toUInt64 >>> (((2 : Int32)).toInt64.toUInt64 &&& Int64.toUInt64 63)).toInt64 &&& (3689348814741910323 : Int64))) + (((((x0 - (((x0).toUInt64 >>> (((1 : Int32)).toInt64.toUInt64 &&& Int64.toUInt64 63)).toInt64 &&& (6148914691236517205 : Int64))) &&& (3689348814741910323 : Int64)) + ((((x0 - (((x0).toUInt64 >>> (((1 : Int32)).toInt64.toUInt64 &&& Int64.toUInt64 63)).toInt64 &&& (6148914691236517205 : Int64)))).toUInt64 >>> (((2 : Int32)).toInt64.toUInt64 &&& Int64.toUInt64 63)).toInt64 &&& (3689348814741910323 : Int64)))).toUInt64 >>> (((4 : Int32)).toInt64.toUInt64 &&& Int64.toUInt64 63)).toInt64) &&& (1085102592571150095 : Int64)) + (((((((x0 - (((x0).toUInt64 >>> (((1 : Int32)).toInt64.toUInt64 &&& Int64.toUInt64 63)).toInt64 &&& (6148914691236517205 : Int64))) &&& (3689348814741910323 : Int64)) + ((((x0 - (((x0).toUInt64 >>> (((1 : Int32)).toInt64.toUInt64 &&& Int64.toUInt64 63)).toInt64 &&& (6148914691236517205 : Int64)))).toUInt64 >>> (((2 : Int32)).toInt64.toUInt64 &&& Int64.toUInt64 63)).toInt64 &&& (3689348814741910323 : Int64))) + (((((x0 - (((x0).toUInt64 >>> (((1 : Int32)).toInt64.toUInt64 &&& Int64.toUInt64 63)).toInt64 &&& (6148914691236517205 : Int64))) &&& (3689348814741910323 : Int64)) + ((((x0 - (((x0).toUInt64 >>> (((1 : Int32)).toInt64.toUInt64 &&& Int64.toUInt64 63)).toInt64 &&& (6148914691236517205 : Int64)))).toUInt64 >>> (((2 : Int32)).toInt64.toUInt64 &&& Int64.toUInt64 63)).toInt64 &&& (3689348814741910323 : Int64)))).toUInt64 >>> (((4 : Int32)).toInt64.toUInt64 &&& Int64.toUInt64 63)).toInt64) &&& (1085102592571150095 : Int64))).toUInt64 >>> (((8 : Int32)).toInt64.toUInt64 &&& Int64.toUInt64 63)).toInt64) + ((((((((x0 - (((x0).toUInt64 >>> (((1 : Int32)).toInt64.toUInt64 &&& Int64.toUInt64 63)).toInt64 &&& (6148914691236517205 : Int64))) &&& (3689348814741910323 : Int64)) + ((((x0 - (((x0).toUInt64 >>> (((1 : Int32)).toInt64.toUInt64 &&& Int64.toUInt64 63)).toInt64 &&& (6148914691236517205 : Int64)))).toUInt64 >>> (((2 : Int32)).toInt64.toUInt64 &&& Int64.toUInt64 63)).toInt64 &&& (3689348814741910323 : Int64))) + (((((x0 - (((x0).toUInt64 >>> (((1 : Int32)).toInt64.toUInt64 &&& Int64.toUInt64 63)).toInt64 &&& (6148914691236517205 : Int64))) &&& (3689348814741910323 : Int64)) + ((((x0 - (((x0).toUInt64 >>> (((1 : Int32)).toInt64.toUInt64 &&& Int64.toUInt64 63)).toInt64 &&& (6148914691236517205 : Int64)))).toUInt64 >>> (((2 : Int32)).toInt64.toUInt64 &&& Int64.toUInt64 63)).toInt64 &&& (3689348814741910323 : Int64)))).toUInt64 >>> (((4 : Int32)).toInt64.toUInt64 &&& Int64.toUInt64 63)).toInt64) &&& (1085102592571150095 : Int64)) + (((((((x0 - (((x0).toUInt64 >>> (((1 : Int32)).toInt64.toUInt64 &&& Int64.toUInt64 63)).toInt64 &&& (6148914691236517205 : Int64))) &&& (3689348814741910323 : Int64)) + ((((x0 - (((x0).toUInt64 >>> (((1 : Int32)).toInt64.toUInt64 &&& Int64.toUInt64 63)).toInt64 &&& (6148914691236517205 : Int64)))).toUInt64 >>> (((2 : Int32)).toInt64.toUInt64 &&& Int64.toUInt64 63)).toInt64 &&& (3689348814741910323 : Int64))) + (((((x0 - (((x0).toUInt64 >>> (((1 : Int32)).toInt64.toUInt64 &&& Int64.toUInt64 63)).toInt64 &&& (6148914691236517205 : Int64))) &&& (3689348814741910323 : Int64)) + ((((x0 - (((x0).toUInt64 >>> (((1 : Int32)).toInt64.toUInt64 &&& Int64.toUInt64 63)).toInt64 &&& (6148914691236517205 : Int64)))).toUInt64 >>> (((2 : Int32)).toInt64.toUInt64 &&& Int64.toUInt64 63)).toInt64 &&& (3689348814741910323 : Int64)))).toUInt64 >>> (((4 : Int32)).toInt64.toUInt64 &&& Int64.toUInt64 63)).toInt64) &&& (1085102592571150095 : Int64))).toUInt64 >>> (((8 : Int32)).toInt64.toUInt64 &&& Int64.toUInt64 63)).toInt64)).toUInt64 >>> (((16 : Int32)).toInt64.toUInt64 &&& Int64.toUInt64 63)).toInt64)).toUInt64 >>> (((32 : Int32)).toInt64.toUInt64 &&& Int64.toUInt64 63)).toInt64) : Int64).toInt32 &&& (127 : Int32)))
set_option maxRecDepth 100000 in
set_option maxHeartbeats 4000000 in
theorem c_Lng_bitCount {l : Launch} {D : va_G} {cI cL cZ : ClassId} (x0 : Int64) (out : Int32) (hm : m_Lng_bitCount x0 = some out) : ct l y_Lng_bitCount (Cond.code y_Lng_bitCount b_Lng_bitCount 2 (some .int) :: TB) 0 0 D clss (ty3 cI cL cZ) NM0 NF0 [.long x0] ([]) (qI D clss (ty3 cI cL cZ) (O_Lng_bitCount cI cL cZ out)) 0 0 := by
  refine ct_of (by decide +kernel) (Nat.le_of_ble_eq_true rfl) (fun p e s m args below meth c A X N hr hlk hnm => ?_)
  refine aj_lv (lv' := [(0, .long x0)]) [0] rfl ?_
  unfold m_Lng_bitCount at hm
  refine aj_lload_n X d_Lng_bitCount_0 0 rfl ?_
  refine aj_lload_n X d_Lng_bitCount_1 0 rfl ?_
  refine aj_iconst (v := (1 : Int32)) X d_Lng_bitCount_2 (by decide) ?_
  refine aj_lushr X d_Lng_bitCount_3 rfl ?_
  refine aj_ldc2 (v := (6148914691236517205 : Int64)) X d_Lng_bitCount_4 lc_Lng_314 ?_
  refine aj_land X d_Lng_bitCount_7 ?_
  refine aj_lsub X d_Lng_bitCount_8 ?_
  refine aj_lstore_n (lv' := [(0, .long (x0 - (((x0).toUInt64 >>> (((1 : Int32)).toInt64.toUInt64 &&& Int64.toUInt64 63)).toInt64 &&& (6148914691236517205 : Int64))))]) X d_Lng_bitCount_9 rfl (by decide) rfl ?_
  refine aj_lload_n X d_Lng_bitCount_10 0 rfl ?_
  refine aj_ldc2 (v := (3689348814741910323 : Int64)) X d_Lng_bitCount_11 lc_Lng_316 ?_
  refine aj_land X d_Lng_bitCount_14 ?_
  refine aj_lload_n X d_Lng_bitCount_15 0 rfl ?_
  refine aj_iconst (v := (2 : Int32)) X d_Lng_bitCount_16 (by decide) ?_
  refine aj_lushr X d_Lng_bitCount_17 rfl ?_
  refine aj_ldc2 (v := (3689348814741910323 : Int64)) X d_Lng_bitCount_18 lc_Lng_316 ?_
  refine aj_land X d_Lng_bitCount_21 ?_
  refine aj_ladd X d_Lng_bitCount_22 ?_
  refine aj_lstore_n (lv' := [(0, .long (((x0 - (((x0).toUInt64 >>> (((1 : Int32)).toInt64.toUInt64 &&& Int64.toUInt64 63)).toInt64 &&& (6148914691236517205 : Int64))) &&& (3689348814741910323 : Int64)) + ((((x0 - (((x0).toUInt64 >>> (((1 : Int32)).toInt64.toUInt64 &&& Int64.toUInt64 63)).toInt64 &&& (6148914691236517205 : Int64)))).toUInt64 >>> (((2 : Int32)).toInt64.toUInt64 &&& Int64.toUInt64 63)).toInt64 &&& (3689348814741910323 : Int64))))]) X d_Lng_bitCount_23 rfl (by decide) rfl ?_
  refine aj_lload_n X d_Lng_bitCount_24 0 rfl ?_
  refine aj_lload_n X d_Lng_bitCount_25 0 rfl ?_
  refine aj_iconst (v := (4 : Int32)) X d_Lng_bitCount_26 (by decide) ?_
  refine aj_lushr X d_Lng_bitCount_27 rfl ?_
  refine aj_ladd X d_Lng_bitCount_28 ?_
  refine aj_ldc2 (v := (1085102592571150095 : Int64)) X d_Lng_bitCount_29 lc_Lng_318 ?_
  refine aj_land X d_Lng_bitCount_32 ?_
  refine aj_lstore_n (lv' := [(0, .long (((((x0 - (((x0).toUInt64 >>> (((1 : Int32)).toInt64.toUInt64 &&& Int64.toUInt64 63)).toInt64 &&& (6148914691236517205 : Int64))) &&& (3689348814741910323 : Int64)) + ((((x0 - (((x0).toUInt64 >>> (((1 : Int32)).toInt64.toUInt64 &&& Int64.toUInt64 63)).toInt64 &&& (6148914691236517205 : Int64)))).toUInt64 >>> (((2 : Int32)).toInt64.toUInt64 &&& Int64.toUInt64 63)).toInt64 &&& (3689348814741910323 : Int64))) + (((((x0 - (((x0).toUInt64 >>> (((1 : Int32)).toInt64.toUInt64 &&& Int64.toUInt64 63)).toInt64 &&& (6148914691236517205 : Int64))) &&& (3689348814741910323 : Int64)) + ((((x0 - (((x0).toUInt64 >>> (((1 : Int32)).toInt64.toUInt64 &&& Int64.toUInt64 63)).toInt64 &&& (6148914691236517205 : Int64)))).toUInt64 >>> (((2 : Int32)).toInt64.toUInt64 &&& Int64.toUInt64 63)).toInt64 &&& (3689348814741910323 : Int64)))).toUInt64 >>> (((4 : Int32)).toInt64.toUInt64 &&& Int64.toUInt64 63)).toInt64) &&& (1085102592571150095 : Int64)))]) X d_Lng_bitCount_33 rfl (by decide) rfl ?_
  refine aj_lload_n X d_Lng_bitCount_34 0 rfl ?_
  refine aj_lload_n X d_Lng_bitCount_35 0 rfl ?_
  refine aj_bipush (v := (8 : Int32)) X d_Lng_bitCount_36 (by decide) ?_
  refine aj_lushr X d_Lng_bitCount_38 rfl ?_
  refine aj_ladd X d_Lng_bitCount_39 ?_
  refine aj_lstore_n (lv' := [(0, .long ((((((x0 - (((x0).toUInt64 >>> (((1 : Int32)).toInt64.toUInt64 &&& Int64.toUInt64 63)).toInt64 &&& (6148914691236517205 : Int64))) &&& (3689348814741910323 : Int64)) + ((((x0 - (((x0).toUInt64 >>> (((1 : Int32)).toInt64.toUInt64 &&& Int64.toUInt64 63)).toInt64 &&& (6148914691236517205 : Int64)))).toUInt64 >>> (((2 : Int32)).toInt64.toUInt64 &&& Int64.toUInt64 63)).toInt64 &&& (3689348814741910323 : Int64))) + (((((x0 - (((x0).toUInt64 >>> (((1 : Int32)).toInt64.toUInt64 &&& Int64.toUInt64 63)).toInt64 &&& (6148914691236517205 : Int64))) &&& (3689348814741910323 : Int64)) + ((((x0 - (((x0).toUInt64 >>> (((1 : Int32)).toInt64.toUInt64 &&& Int64.toUInt64 63)).toInt64 &&& (6148914691236517205 : Int64)))).toUInt64 >>> (((2 : Int32)).toInt64.toUInt64 &&& Int64.toUInt64 63)).toInt64 &&& (3689348814741910323 : Int64)))).toUInt64 >>> (((4 : Int32)).toInt64.toUInt64 &&& Int64.toUInt64 63)).toInt64) &&& (1085102592571150095 : Int64)) + (((((((x0 - (((x0).toUInt64 >>> (((1 : Int32)).toInt64.toUInt64 &&& Int64.toUInt64 63)).toInt64 &&& (6148914691236517205 : Int64))) &&& (3689348814741910323 : Int64)) + ((((x0 - (((x0).toUInt64 >>> (((1 : Int32)).toInt64.toUInt64 &&& Int64.toUInt64 63)).toInt64 &&& (6148914691236517205 : Int64)))).toUInt64 >>> (((2 : Int32)).toInt64.toUInt64 &&& Int64.toUInt64 63)).toInt64 &&& (3689348814741910323 : Int64))) + (((((x0 - (((x0).toUInt64 >>> (((1 : Int32)).toInt64.toUInt64 &&& Int64.toUInt64 63)).toInt64 &&& (6148914691236517205 : Int64))) &&& (3689348814741910323 : Int64)) + ((((x0 - (((x0).toUInt64 >>> (((1 : Int32)).toInt64.toUInt64 &&& Int64.toUInt64 63)).toInt64 &&& (6148914691236517205 : Int64)))).toUInt64 >>> (((2 : Int32)).toInt64.toUInt64 &&& Int64.toUInt64 63)).toInt64 &&& (3689348814741910323 : Int64)))).toUInt64 >>> (((4 : Int32)).toInt64.toUInt64 &&& Int64.toUInt64 63)).toInt64) &&& (1085102592571150095 : Int64))).toUInt64 >>> (((8 : Int32)).toInt64.toUInt64 &&& Int64.toUInt64 63)).toInt64))]) X d_Lng_bitCount_40 rfl (by decide) rfl ?_
  refine aj_lload_n X d_Lng_bitCount_41 0 rfl ?_
  refine aj_lload_n X d_Lng_bitCount_42 0 rfl ?_
  refine aj_bipush (v := (16 : Int32)) X d_Lng_bitCount_43 (by decide) ?_
  refine aj_lushr X d_Lng_bitCount_45 rfl ?_
  refine aj_ladd X d_Lng_bitCount_46 ?_
  refine aj_lstore_n (lv' := [(0, .long (((((((x0 - (((x0).toUInt64 >>> (((1 : Int32)).toInt64.toUInt64 &&& Int64.toUInt64 63)).toInt64 &&& (6148914691236517205 : Int64))) &&& (3689348814741910323 : Int64)) + ((((x0 - (((x0).toUInt64 >>> (((1 : Int32)).toInt64.toUInt64 &&& Int64.toUInt64 63)).toInt64 &&& (6148914691236517205 : Int64)))).toUInt64 >>> (((2 : Int32)).toInt64.toUInt64 &&& Int64.toUInt64 63)).toInt64 &&& (3689348814741910323 : Int64))) + (((((x0 - (((x0).toUInt64 >>> (((1 : Int32)).toInt64.toUInt64 &&& Int64.toUInt64 63)).toInt64 &&& (6148914691236517205 : Int64))) &&& (3689348814741910323 : Int64)) + ((((x0 - (((x0).toUInt64 >>> (((1 : Int32)).toInt64.toUInt64 &&& Int64.toUInt64 63)).toInt64 &&& (6148914691236517205 : Int64)))).toUInt64 >>> (((2 : Int32)).toInt64.toUInt64 &&& Int64.toUInt64 63)).toInt64 &&& (3689348814741910323 : Int64)))).toUInt64 >>> (((4 : Int32)).toInt64.toUInt64 &&& Int64.toUInt64 63)).toInt64) &&& (1085102592571150095 : Int64)) + (((((((x0 - (((x0).toUInt64 >>> (((1 : Int32)).toInt64.toUInt64 &&& Int64.toUInt64 63)).toInt64 &&& (6148914691236517205 : Int64))) &&& (3689348814741910323 : Int64)) + ((((x0 - (((x0).toUInt64 >>> (((1 : Int32)).toInt64.toUInt64 &&& Int64.toUInt64 63)).toInt64 &&& (6148914691236517205 : Int64)))).toUInt64 >>> (((2 : Int32)).toInt64.toUInt64 &&& Int64.toUInt64 63)).toInt64 &&& (3689348814741910323 : Int64))) + (((((x0 - (((x0).toUInt64 >>> (((1 : Int32)).toInt64.toUInt64 &&& Int64.toUInt64 63)).toInt64 &&& (6148914691236517205 : Int64))) &&& (3689348814741910323 : Int64)) + ((((x0 - (((x0).toUInt64 >>> (((1 : Int32)).toInt64.toUInt64 &&& Int64.toUInt64 63)).toInt64 &&& (6148914691236517205 : Int64)))).toUInt64 >>> (((2 : Int32)).toInt64.toUInt64 &&& Int64.toUInt64 63)).toInt64 &&& (3689348814741910323 : Int64)))).toUInt64 >>> (((4 : Int32)).toInt64.toUInt64 &&& Int64.toUInt64 63)).toInt64) &&& (1085102592571150095 : Int64))).toUInt64 >>> (((8 : Int32)).toInt64.toUInt64 &&& Int64.toUInt64 63)).toInt64) + ((((((((x0 - (((x0).toUInt64 >>> (((1 : Int32)).toInt64.toUInt64 &&& Int64.toUInt64 63)).toInt64 &&& (6148914691236517205 : Int64))) &&& (3689348814741910323 : Int64)) + ((((x0 - (((x0).toUInt64 >>> (((1 : Int32)).toInt64.toUInt64 &&& Int64.toUInt64 63)).toInt64 &&& (6148914691236517205 : Int64)))).toUInt64 >>> (((2 : Int32)).toInt64.toUInt64 &&& Int64.toUInt64 63)).toInt64 &&& (3689348814741910323 : Int64))) + (((((x0 - (((x0).toUInt64 >>> (((1 : Int32)).toInt64.toUInt64 &&& Int64.toUInt64 63)).toInt64 &&& (6148914691236517205 : Int64))) &&& (3689348814741910323 : Int64)) + ((((x0 - (((x0).toUInt64 >>> (((1 : Int32)).toInt64.toUInt64 &&& Int64.toUInt64 63)).toInt64 &&& (6148914691236517205 : Int64)))).toUInt64 >>> (((2 : Int32)).toInt64.toUInt64 &&& Int64.toUInt64 63)).toInt64 &&& (3689348814741910323 : Int64)))).toUInt64 >>> (((4 : Int32)).toInt64.toUInt64 &&& Int64.toUInt64 63)).toInt64) &&& (1085102592571150095 : Int64)) + (((((((x0 - (((x0).toUInt64 >>> (((1 : Int32)).toInt64.toUInt64 &&& Int64.toUInt64 63)).toInt64 &&& (6148914691236517205 : Int64))) &&& (3689348814741910323 : Int64)) + ((((x0 - (((x0).toUInt64 >>> (((1 : Int32)).toInt64.toUInt64 &&& Int64.toUInt64 63)).toInt64 &&& (6148914691236517205 : Int64)))).toUInt64 >>> (((2 : Int32)).toInt64.toUInt64 &&& Int64.toUInt64 63)).toInt64 &&& (3689348814741910323 : Int64))) + (((((x0 - (((x0).toUInt64 >>> (((1 : Int32)).toInt64.toUInt64 &&& Int64.toUInt64 63)).toInt64 &&& (6148914691236517205 : Int64))) &&& (3689348814741910323 : Int64)) + ((((x0 - (((x0).toUInt64 >>> (((1 : Int32)).toInt64.toUInt64 &&& Int64.toUInt64 63)).toInt64 &&& (6148914691236517205 : Int64)))).toUInt64 >>> (((2 : Int32)).toInt64.toUInt64 &&& Int64.toUInt64 63)).toInt64 &&& (3689348814741910323 : Int64)))).toUInt64 >>> (((4 : Int32)).toInt64.toUInt64 &&& Int64.toUInt64 63)).toInt64) &&& (1085102592571150095 : Int64))).toUInt64 >>> (((8 : Int32)).toInt64.toUInt64 &&& Int64.toUInt64 63)).toInt64)).toUInt64 >>> (((16 : Int32)).toInt64.toUInt64 &&& Int64.toUInt64 63)).toInt64))]) X d_Lng_bitCount_47 rfl (by decide) rfl ?_
  refine aj_lload_n X d_Lng_bitCount_48 0 rfl ?_
  refine aj_lload_n X d_Lng_bitCount_49 0 rfl ?_
  refine aj_bipush (v := (32 : Int32)) X d_Lng_bitCount_50 (by decide) ?_
  refine aj_lushr X d_Lng_bitCount_52 rfl ?_
  refine aj_ladd X d_Lng_bitCount_53 ?_
  refine aj_lstore_n (lv' := [(0, .long ((((((((x0 - (((x0).toUInt64 >>> (((1 : Int32)).toInt64.toUInt64 &&& Int64.toUInt64 63)).toInt64 &&& (6148914691236517205 : Int64))) &&& (3689348814741910323 : Int64)) + ((((x0 - (((x0).toUInt64 >>> (((1 : Int32)).toInt64.toUInt64 &&& Int64.toUInt64 63)).toInt64 &&& (6148914691236517205 : Int64)))).toUInt64 >>> (((2 : Int32)).toInt64.toUInt64 &&& Int64.toUInt64 63)).toInt64 &&& (3689348814741910323 : Int64))) + (((((x0 - (((x0).toUInt64 >>> (((1 : Int32)).toInt64.toUInt64 &&& Int64.toUInt64 63)).toInt64 &&& (6148914691236517205 : Int64))) &&& (3689348814741910323 : Int64)) + ((((x0 - (((x0).toUInt64 >>> (((1 : Int32)).toInt64.toUInt64 &&& Int64.toUInt64 63)).toInt64 &&& (6148914691236517205 : Int64)))).toUInt64 >>> (((2 : Int32)).toInt64.toUInt64 &&& Int64.toUInt64 63)).toInt64 &&& (3689348814741910323 : Int64)))).toUInt64 >>> (((4 : Int32)).toInt64.toUInt64 &&& Int64.toUInt64 63)).toInt64) &&& (1085102592571150095 : Int64)) + (((((((x0 - (((x0).toUInt64 >>> (((1 : Int32)).toInt64.toUInt64 &&& Int64.toUInt64 63)).toInt64 &&& (6148914691236517205 : Int64))) &&& (3689348814741910323 : Int64)) + ((((x0 - (((x0).toUInt64 >>> (((1 : Int32)).toInt64.toUInt64 &&& Int64.toUInt64 63)).toInt64 &&& (6148914691236517205 : Int64)))).toUInt64 >>> (((2 : Int32)).toInt64.toUInt64 &&& Int64.toUInt64 63)).toInt64 &&& (3689348814741910323 : Int64))) + (((((x0 - (((x0).toUInt64 >>> (((1 : Int32)).toInt64.toUInt64 &&& Int64.toUInt64 63)).toInt64 &&& (6148914691236517205 : Int64))) &&& (3689348814741910323 : Int64)) + ((((x0 - (((x0).toUInt64 >>> (((1 : Int32)).toInt64.toUInt64 &&& Int64.toUInt64 63)).toInt64 &&& (6148914691236517205 : Int64)))).toUInt64 >>> (((2 : Int32)).toInt64.toUInt64 &&& Int64.toUInt64 63)).toInt64 &&& (3689348814741910323 : Int64)))).toUInt64 >>> (((4 : Int32)).toInt64.toUInt64 &&& Int64.toUInt64 63)).toInt64) &&& (1085102592571150095 : Int64))).toUInt64 >>> (((8 : Int32)).toInt64.toUInt64 &&& Int64.toUInt64 63)).toInt64) + ((((((((x0 - (((x0).toUInt64 >>> (((1 : Int32)).toInt64.toUInt64 &&& Int64.toUInt64 63)).toInt64 &&& (6148914691236517205 : Int64))) &&& (3689348814741910323 : Int64)) + ((((x0 - (((x0).toUInt64 >>> (((1 : Int32)).toInt64.toUInt64 &&& Int64.toUInt64 63)).toInt64 &&& (6148914691236517205 : Int64)))).toUInt64 >>> (((2 : Int32)).toInt64.toUInt64 &&& Int64.toUInt64 63)).toInt64 &&& (3689348814741910323 : Int64))) + (((((x0 - (((x0).toUInt64 >>> (((1 : Int32)).toInt64.toUInt64 &&& Int64.toUInt64 63)).toInt64 &&& (6148914691236517205 : Int64))) &&& (3689348814741910323 : Int64)) + ((((x0 - (((x0).toUInt64 >>> (((1 : Int32)).toInt64.toUInt64 &&& Int64.toUInt64 63)).toInt64 &&& (6148914691236517205 : Int64)))).toUInt64 >>> (((2 : Int32)).toInt64.toUInt64 &&& Int64.toUInt64 63)).toInt64 &&& (3689348814741910323 : Int64)))).toUInt64 >>> (((4 : Int32)).toInt64.toUInt64 &&& Int64.toUInt64 63)).toInt64) &&& (1085102592571150095 : Int64)) + (((((((x0 - (((x0).toUInt64 >>> (((1 : Int32)).toInt64.toUInt64 &&& Int64.toUInt64 63)).toInt64 &&& (6148914691236517205 : Int64))) &&& (3689348814741910323 : Int64)) + ((((x0 - (((x0).toUInt64 >>> (((1 : Int32)).toInt64.toUInt64 &&& Int64.toUInt64 63)).toInt64 &&& (6148914691236517205 : Int64)))).toUInt64 >>> (((2 : Int32)).toInt64.toUInt64 &&& Int64.toUInt64 63)).toInt64 &&& (3689348814741910323 : Int64))) + (((((x0 - (((x0).toUInt64 >>> (((1 : Int32)).toInt64.toUInt64 &&& Int64.toUInt64 63)).toInt64 &&& (6148914691236517205 : Int64))) &&& (3689348814741910323 : Int64)) + ((((x0 - (((x0).toUInt64 >>> (((1 : Int32)).toInt64.toUInt64 &&& Int64.toUInt64 63)).toInt64 &&& (6148914691236517205 : Int64)))).toUInt64 >>> (((2 : Int32)).toInt64.toUInt64 &&& Int64.toUInt64 63)).toInt64 &&& (3689348814741910323 : Int64)))).toUInt64 >>> (((4 : Int32)).toInt64.toUInt64 &&& Int64.toUInt64 63)).toInt64) &&& (1085102592571150095 : Int64))).toUInt64 >>> (((8 : Int32)).toInt64.toUInt64 &&& Int64.toUInt64 63)).toInt64)).toUInt64 >>> (((16 : Int32)).toInt64.toUInt64 &&& Int64.toUInt64 63)).toInt64) + (((((((((x0 - (((x0).toUInt64 >>> (((1 : Int32)).toInt64.toUInt64 &&& Int64.toUInt64 63)).toInt64 &&& (6148914691236517205 : Int64))) &&& (3689348814741910323 : Int64)) + ((((x0 - (((x0).toUInt64 >>> (((1 : Int32)).toInt64.toUInt64 &&& Int64.toUInt64 63)).toInt64 &&& (6148914691236517205 : Int64)))).toUInt64 >>> (((2 : Int32)).toInt64.toUInt64 &&& Int64.toUInt64 63)).toInt64 &&& (3689348814741910323 : Int64))) + (((((x0 - (((x0).toUInt64 >>> (((1 : Int32)).toInt64.toUInt64 &&& Int64.toUInt64 63)).toInt64 &&& (6148914691236517205 : Int64))) &&& (3689348814741910323 : Int64)) + ((((x0 - (((x0).toUInt64 >>> (((1 : Int32)).toInt64.toUInt64 &&& Int64.toUInt64 63)).toInt64 &&& (6148914691236517205 : Int64)))).toUInt64 >>> (((2 : Int32)).toInt64.toUInt64 &&& Int64.toUInt64 63)).toInt64 &&& (3689348814741910323 : Int64)))).toUInt64 >>> (((4 : Int32)).toInt64.toUInt64 &&& Int64.toUInt64 63)).toInt64) &&& (1085102592571150095 : Int64)) + (((((((x0 - (((x0).toUInt64 >>> (((1 : Int32)).toInt64.toUInt64 &&& Int64.toUInt64 63)).toInt64 &&& (6148914691236517205 : Int64))) &&& (3689348814741910323 : Int64)) + ((((x0 - (((x0).toUInt64 >>> (((1 : Int32)).toInt64.toUInt64 &&& Int64.toUInt64 63)).toInt64 &&& (6148914691236517205 : Int64)))).toUInt64 >>> (((2 : Int32)).toInt64.toUInt64 &&& Int64.toUInt64 63)).toInt64 &&& (3689348814741910323 : Int64))) + (((((x0 - (((x0).toUInt64 >>> (((1 : Int32)).toInt64.toUInt64 &&& Int64.toUInt64 63)).toInt64 &&& (6148914691236517205 : Int64))) &&& (3689348814741910323 : Int64)) + ((((x0 - (((x0).toUInt64 >>> (((1 : Int32)).toInt64.toUInt64 &&& Int64.toUInt64 63)).toInt64 &&& (6148914691236517205 : Int64)))).toUInt64 >>> (((2 : Int32)).toInt64.toUInt64 &&& Int64.toUInt64 63)).toInt64 &&& (3689348814741910323 : Int64)))).toUInt64 >>> (((4 : Int32)).toInt64.toUInt64 &&& Int64.toUInt64 63)).toInt64) &&& (1085102592571150095 : Int64))).toUInt64 >>> (((8 : Int32)).toInt64.toUInt64 &&& Int64.toUInt64 63)).toInt64) + ((((((((x0 - (((x0).toUInt64 >>> (((1 : Int32)).toInt64.toUInt64 &&& Int64.toUInt64 63)).toInt64 &&& (6148914691236517205 : Int64))) &&& (3689348814741910323 : Int64)) + ((((x0 - (((x0).toUInt64 >>> (((1 : Int32)).toInt64.toUInt64 &&& Int64.toUInt64 63)).toInt64 &&& (6148914691236517205 : Int64)))).toUInt64 >>> (((2 : Int32)).toInt64.toUInt64 &&& Int64.toUInt64 63)).toInt64 &&& (3689348814741910323 : Int64))) + (((((x0 - (((x0).toUInt64 >>> (((1 : Int32)).toInt64.toUInt64 &&& Int64.toUInt64 63)).toInt64 &&& (6148914691236517205 : Int64))) &&& (3689348814741910323 : Int64)) + ((((x0 - (((x0).toUInt64 >>> (((1 : Int32)).toInt64.toUInt64 &&& Int64.toUInt64 63)).toInt64 &&& (6148914691236517205 : Int64)))).toUInt64 >>> (((2 : Int32)).toInt64.toUInt64 &&& Int64.toUInt64 63)).toInt64 &&& (3689348814741910323 : Int64)))).toUInt64 >>> (((4 : Int32)).toInt64.toUInt64 &&& Int64.toUInt64 63)).toInt64) &&& (1085102592571150095 : Int64)) + (((((((x0 - (((x0).toUInt64 >>> (((1 : Int32)).toInt64.toUInt64 &&& Int64.toUInt64 63)).toInt64 &&& (6148914691236517205 : Int64))) &&& (3689348814741910323 : Int64)) + ((((x0 - (((x0).toUInt64 >>> (((1 : Int32)).toInt64.toUInt64 &&& Int64.toUInt64 63)).toInt64 &&& (6148914691236517205 : Int64)))).toUInt64 >>> (((2 : Int32)).toInt64.toUInt64 &&& Int64.toUInt64 63)).toInt64 &&& (3689348814741910323 : Int64))) + (((((x0 - (((x0).toUInt64 >>> (((1 : Int32)).toInt64.toUInt64 &&& Int64.toUInt64 63)).toInt64 &&& (6148914691236517205 : Int64))) &&& (3689348814741910323 : Int64)) + ((((x0 - (((x0).toUInt64 >>> (((1 : Int32)).toInt64.toUInt64 &&& Int64.toUInt64 63)).toInt64 &&& (6148914691236517205 : Int64)))).toUInt64 >>> (((2 : Int32)).toInt64.toUInt64 &&& Int64.toUInt64 63)).toInt64 &&& (3689348814741910323 : Int64)))).toUInt64 >>> (((4 : Int32)).toInt64.toUInt64 &&& Int64.toUInt64 63)).toInt64) &&& (1085102592571150095 : Int64))).toUInt64 >>> (((8 : Int32)).toInt64.toUInt64 &&& Int64.toUInt64 63)).toInt64)).toUInt64 >>> (((16 : Int32)).toInt64.toUInt64 &&& Int64.toUInt64 63)).toInt64)).toUInt64 >>> (((32 : Int32)).toInt64.toUInt64 &&& Int64.toUInt64 63)).toInt64))]) X d_Lng_bitCount_54 rfl (by decide) rfl ?_
  refine aj_lload_n X d_Lng_bitCount_55 0 rfl ?_
  refine aj_l2i X d_Lng_bitCount_56 rfl ?_
  refine aj_bipush (v := (127 : Int32)) X d_Lng_bitCount_57 (by decide) ?_
  refine aj_iand X d_Lng_bitCount_59 ?_
  have ho := Option.some.inj hm
  subst ho
  exact aj_iret X d_Lng_bitCount_60 hr hlk [] ([]) rfl rfl ⟨rfl, rfl⟩
abbrev X_Tal_least (p : Program) (s : State) (m : MethodId) (args : Array Value) (c : Code) (D : va_G) (cI cL cZ : ClassId) (A : Nat → Prop) : Prop := aj_C p s m args c D clss (ty3 cI cL cZ) A b_Tal_least 4 R_Tal TB
abbrev J_Tal_least (p : Program) (l : Launch) (e : Env) (s : State) (m : MethodId) (args : Array Value) (below : List Frame) (meth : Method) (c : Code) (D : va_G) (cI cL cZ : ClassId) (A : Nat → Prop) (O : Int32 → va_W → Prop) (mc ms : Nat) (ws : va_W) (kc ks pc : Nat) (lv : List (Nat × Value)) (st : List Value) : Prop := aj p l e { frames := 1, cells := mc, slots := ms, locals := 21 } s m args below meth c (MQ below (qI D clss (ty3 cI cL cZ) O A) args s mc ms A) D clss A 4 ws kc ks pc lv st
def O_Tal_least (cI cL cZ : ClassId) (q_0 : Nat) (p_0 : LArr) (out : Int32) : Int32 → va_W → Prop := fun r w1 => out = r ∧ w1 = ([(q_0, .inl (cL, p_0.1, .inr (.inl p_0.2)))] : va_W)
def m_Tal_least_L2 (p_0 : LArr) : Nat → Int32 → Option (Int32)
  | 0, _ => none
  | f + 1, x1 => (if (Int32.ofNat p_0.1) ≤ x1 then (some (-1 : Int32)) else (if ¬ (x1 < 0 ∨ p_0.1 ≤ (x1).toNatClampNeg) then (if (lg_cmp (p_0.2 (x1).toNatClampNeg) (0 : Int64)) = 0 then ((m_Tal_least_L2 p_0 f) (x1 + 1)) else (if ¬ (x1 < 0 ∨ p_0.1 ≤ (x1).toNatClampNeg) then (if ¬ (x1 < 0 ∨ p_0.1 ≤ (x1).toNatClampNeg) then ((m_Lng_bitCount (((p_0.2 (x1).toNatClampNeg) &&& (-(p_0.2 (x1).toNatClampNeg))) - (1 : Int64))).bind fun r6 => (some (((64 : Int32) * x1) + r6))) else none) else none)) else none))
set_option maxRecDepth 100000 in
set_option maxHeartbeats 4000000 in
theorem c_Tal_least_L2 {l : Launch} {D : va_G} {cI cL cZ : ClassId} {p : Program} {e : Env} {s : State} {m : MethodId} {args : Array Value} {below : List Frame} {meth : Method} {c : Code} {A : Nat → Prop} (q_0 : Nat) (p_0 : LArr) (out : Int32) (X : X_Tal_least p s m args c D cI cL cZ A) (N : nk NM0 NF0 s) (hr : meth.sig.returnType = some .int) (hlk : meth.locks = false) : ∀ (nn : Nat), ∀ (x1 : Int32), m_Tal_least_L2 p_0 nn x1 = some out → J_Tal_least p l e s m args below meth c D cI cL cZ A (O_Tal_least cI cL cZ q_0 p_0 out) 0 0 (([(q_0, .inl (cL, p_0.1, .inr (.inl p_0.2)))] : va_W)) 0 0 2 [(0, .ref q_0), (1, .int x1)] [] := by
  intro nn
  induction nn with
  | zero => intro x1 hm; exact absurd hm (by simp [m_Tal_least_L2])
  | succ nn ih2 =>
    intro x1 hm
    unfold m_Tal_least_L2 at hm
    refine aj_iload_n X d_Tal_least_2 1 rfl ?_
    refine aj_aload_n X d_Tal_least_3 0 rfl ?_
    refine aj_alen X d_Tal_least_4 0 1 rfl rfl ?_
    refine aj_icmp_ge X 43 d_Tal_least_5 (by decide) (fun h => ?_) (fun h => ?_)
    · have hm := ite_t hm h
      refine aj_iconst (v := (-1 : Int32)) X d_Tal_least_43 (by decide) ?_
      have ho := Option.some.inj hm
      subst ho
      exact aj_iret X d_Tal_least_44 hr hlk [0] (([(q_0, .inl (cL, p_0.1, .inr (.inl p_0.2)))] : va_W)) rfl rfl ⟨rfl, rfl⟩
    · have hm := ite_f hm h
      refine aj_aload_n X d_Tal_least_8 0 rfl ?_
      refine aj_iload_n X d_Tal_least_9 1 rfl ?_
      obtain ⟨b3, hm⟩ := chk_of hm
      refine aj_lald X d_Tal_least_10 0 1 rfl rfl b3 ?_
      refine aj_lconst (v := (0 : Int64)) X d_Tal_least_11 (by decide) ?_
      refine aj_lcmp X d_Tal_least_12 ?_
      refine aj_if_eq X 37 d_Tal_least_13 (by decide) (fun h => ?_) (fun h => ?_)
      · have hm := ite_t hm h
        refine aj_iinc (v := (x1 + 1)) (lv' := [(1, .int (x1 + 1)), (0, .ref q_0)]) X d_Tal_least_37 1 rfl rfl (by decide) rfl ?_
        refine aj_goto X 2 d_Tal_least_40 (by decide) ?_
        refine aj_lv (lv' := [(0, .ref q_0), (1, .int (x1 + 1))]) [1, 0] rfl ?_
        exact ih2 (x1 + 1) hm
      · have hm := ite_f hm h
        refine aj_aload_n X d_Tal_least_16 0 rfl ?_
        refine aj_iload_n X d_Tal_least_17 1 rfl ?_
        obtain ⟨b4, hm⟩ := chk_of hm
        refine aj_lald X d_Tal_least_18 0 1 rfl rfl b4 ?_
        refine aj_aload_n X d_Tal_least_19 0 rfl ?_
        refine aj_iload_n X d_Tal_least_20 1 rfl ?_
        obtain ⟨b5, hm⟩ := chk_of hm
        refine aj_lald X d_Tal_least_21 0 1 rfl rfl b5 ?_
        refine aj_lneg X d_Tal_least_22 ?_
        refine aj_land X d_Tal_least_23 ?_
        refine aj_lstore_n (lv' := [(2, .long ((p_0.2 (x1).toNatClampNeg) &&& (-(p_0.2 (x1).toNatClampNeg)))), (0, .ref q_0), (1, .int x1)]) X d_Tal_least_24 rfl (by decide) rfl ?_
        refine aj_bipush (v := (64 : Int32)) X d_Tal_least_25 (by decide) ?_
        refine aj_iload_n X d_Tal_least_27 2 rfl ?_
        refine aj_imul X d_Tal_least_28 ?_
        refine aj_lload_n X d_Tal_least_29 0 rfl ?_
        refine aj_lconst (v := (1 : Int64)) X d_Tal_least_30 (by decide) ?_
        refine aj_lsub X d_Tal_least_31 ?_
        obtain ⟨r6, h7, hm⟩ := bnd_of hm
        refine aj_callI (wr := [(q_0, .inl (cL, p_0.1, .inr (.inl p_0.2)))]) X (aj_rS (As := [.long (((p_0.2 (x1).toNatClampNeg) &&& (-(p_0.2 (x1).toNatClampNeg))) - (1 : Int64))]) (rest := [.int ((64 : Int32) * x1)]) X N gTB (c_Lng_bitCount (D := D) (cI := cI) (cL := cL) (cZ := cZ) (((p_0.2 (x1).toNatClampNeg) &&& (-(p_0.2 (x1).toNatClampNeg))) - (1 : Int64)) r6 h7) d_Tal_least_32 lk_Lng_bitCount lw_Tal_68 lh_Lng_bitCount ⟨(Nat.le_of_ble_eq_true rfl), (Nat.le_of_ble_eq_true rfl)⟩ [] rfl rfl rfl (Nat.le_of_ble_eq_true rfl) ⟨Nat.le_refl _, Nat.le_refl _⟩) [] [0] rfl rfl rfl (by decide) (fun rr w1 hO => ?_)
        obtain ⟨rfl, rfl⟩ := hO
        refine aj_perm (ws' := ([(q_0, .inl (cL, p_0.1, .inr (.inl p_0.2)))] : va_W)) [0] rfl rfl ?_
        refine aj_iadd X d_Tal_least_35 ?_
        have ho := Option.some.inj hm
        subst ho
        exact aj_iret X d_Tal_least_36 hr hlk [0] (([(q_0, .inl (cL, p_0.1, .inr (.inl p_0.2)))] : va_W)) rfl rfl ⟨rfl, rfl⟩
def m_Tal_least (p_0 : LArr) : Option (Int32) := (m_Tal_least_L2 p_0 fu (0 : Int32))
set_option maxRecDepth 100000 in
set_option maxHeartbeats 4000000 in
theorem c_Tal_least {l : Launch} {D : va_G} {cI cL cZ : ClassId} (q_0 : Nat) (p_0 : LArr) (out : Int32) (hm : m_Tal_least p_0 = some out) : ct l y_Tal_least (Cond.code y_Tal_least b_Tal_least 4 (some .int) :: TB) 1 21 D clss (ty3 cI cL cZ) NM0 NF0 [.ref q_0] (([(q_0, .inl (cL, p_0.1, .inr (.inl p_0.2)))] : va_W)) (qI D clss (ty3 cI cL cZ) (O_Tal_least cI cL cZ q_0 p_0 out)) 0 0 := by
  refine ct_of (plainFor_of_name (by decide)) (Nat.le_of_ble_eq_true rfl) (fun p e s m args below meth c A X N hr hlk hnm => ?_)
  refine aj_lv (lv' := [(0, .ref q_0)]) [0] rfl ?_
  unfold m_Tal_least at hm
  refine aj_iconst (v := (0 : Int32)) X d_Tal_least_0 (by decide) ?_
  refine aj_istore_n (lv' := [(1, .int (0 : Int32)), (0, .ref q_0)]) X d_Tal_least_1 rfl (by decide) rfl ?_
  refine aj_lv (lv' := [(0, .ref q_0), (1, .int (0 : Int32))]) [1, 0] rfl ?_
  exact c_Tal_least_L2 q_0 p_0 out X N hr hlk fu (0 : Int32) hm
abbrev X_Tal_leastDead (p : Program) (s : State) (m : MethodId) (args : Array Value) (c : Code) (D : va_G) (cI cL cZ : ClassId) (A : Nat → Prop) : Prop := aj_C p s m args c D clss (ty3 cI cL cZ) A b_Tal_leastDead 1 R_Tal TB
abbrev J_Tal_leastDead (p : Program) (l : Launch) (e : Env) (s : State) (m : MethodId) (args : Array Value) (below : List Frame) (meth : Method) (c : Code) (D : va_G) (cI cL cZ : ClassId) (A : Nat → Prop) (O : Int32 → va_W → Prop) (mc ms : Nat) (ws : va_W) (kc ks pc : Nat) (lv : List (Nat × Value)) (st : List Value) : Prop := aj p l e { frames := 2, cells := mc, slots := ms, locals := 44 } s m args below meth c (MQ below (qI D clss (ty3 cI cL cZ) O A) args s mc ms A) D clss A 1 ws kc ks pc lv st
def O_Tal_leastDead (cI cL cZ : ClassId) (o_Tal o_Sto a_Tal_0 a_Tal_1 a_Tal_2 a_Tal_3 : Nat) (v_Tal : T_Tal) (out : Int32) : Int32 → va_W → Prop := fun r w1 => out = r ∧ w1 = w_Tal cI cL cZ o_Tal o_Sto a_Tal_0 a_Tal_1 a_Tal_2 a_Tal_3 v_Tal
def m_Tal_leastDead (v_Tal : T_Tal) : Option (Int32) := ((m_Tal_least v_Tal.1).bind fun r3 => (some r3))
set_option maxRecDepth 100000 in
set_option maxHeartbeats 4000000 in
theorem c_Tal_leastDead {l : Launch} {D : va_G} {cI cL cZ : ClassId} (o_Tal o_Sto a_Tal_0 a_Tal_1 a_Tal_2 a_Tal_3 : Nat) (v_Tal : T_Tal) (out : Int32) (hm : m_Tal_leastDead v_Tal = some out) : ct l y_Tal_leastDead (Cond.code y_Tal_leastDead b_Tal_leastDead 1 (some .int) :: TB) 2 44 D clss (ty3 cI cL cZ) NM0 NF0 [.ref o_Tal] (w_Tal cI cL cZ o_Tal o_Sto a_Tal_0 a_Tal_1 a_Tal_2 a_Tal_3 v_Tal) (qI D clss (ty3 cI cL cZ) (O_Tal_leastDead cI cL cZ o_Tal o_Sto a_Tal_0 a_Tal_1 a_Tal_2 a_Tal_3 v_Tal out)) 0 0 := by
  refine ct_of (plainFor_of_name (by decide)) (Nat.le_of_ble_eq_true rfl) (fun p e s m args below meth c A X N hr hlk hnm => ?_)
  refine aj_lv (lv' := [(0, .ref o_Tal)]) [0] rfl ?_
  unfold m_Tal_leastDead at hm
  refine aj_aload_n X d_Tal_leastDead_0 0 rfl ?_
  refine aj_get X d_Tal_leastDead_1 in_Tal 0 rfl rfl 1 (by decide) lf_Tal_15 rfl ?_
  obtain ⟨r3, h4, hm⟩ := bnd_of hm
  refine aj_callI (wr := [(o_Tal, .inr (4, [.ref o_Sto, .ref a_Tal_0, .ref a_Tal_1, .ref a_Tal_2, .ref a_Tal_3])), (a_Tal_1, .inl (cL, v_Tal.2.1.1, .inr (.inl v_Tal.2.1.2))), (a_Tal_2, .inl (cI, v_Tal.2.2.1.1, .inl v_Tal.2.2.1.2)), (a_Tal_3, .inl (cI, v_Tal.2.2.2.1, .inl v_Tal.2.2.2.2))]) X (aj_rS (As := [.ref a_Tal_0]) (rest := []) X N gTB (c_Tal_least (D := D) (cI := cI) (cL := cL) (cZ := cZ) a_Tal_0 v_Tal.1 r3 h4) d_Tal_leastDead_4 lk_Tal_least lw_Tal_58 lh_Tal_least ⟨(Nat.le_of_ble_eq_true rfl), (Nat.le_of_ble_eq_true rfl)⟩ [1] rfl rfl rfl (Nat.le_of_ble_eq_true rfl) ⟨Nat.le_refl _, Nat.le_refl _⟩) [1] [0, 2, 3, 4] rfl rfl rfl (by decide) (fun rr w1 hO => ?_)
  obtain ⟨rfl, rfl⟩ := hO
  refine aj_perm (ws' := w_Tal cI cL cZ o_Tal o_Sto a_Tal_0 a_Tal_1 a_Tal_2 a_Tal_3 v_Tal) [0, 4, 1, 2, 3] rfl rfl ?_
  have ho := Option.some.inj hm
  subst ho
  exact aj_iret X d_Tal_leastDead_7 hr hlk [0, 1, 2, 3, 4] (w_Tal cI cL cZ o_Tal o_Sto a_Tal_0 a_Tal_1 a_Tal_2 a_Tal_3 v_Tal) rfl rfl ⟨rfl, rfl⟩
abbrev X_Tra_levelOf (p : Program) (s : State) (m : MethodId) (args : Array Value) (c : Code) (D : va_G) (cI cL cZ : ClassId) (A : Nat → Prop) : Prop := aj_C p s m args c D clss (ty3 cI cL cZ) A b_Tra_levelOf 2 R_Tra TB
abbrev J_Tra_levelOf (p : Program) (l : Launch) (e : Env) (s : State) (m : MethodId) (args : Array Value) (below : List Frame) (meth : Method) (c : Code) (D : va_G) (cI cL cZ : ClassId) (A : Nat → Prop) (O : Int32 → va_W → Prop) (mc ms : Nat) (ws : va_W) (kc ks pc : Nat) (lv : List (Nat × Value)) (st : List Value) : Prop := aj p l e { frames := 0, cells := mc, slots := ms, locals := 0 } s m args below meth c (MQ below (qI D clss (ty3 cI cL cZ) O A) args s mc ms A) D clss A 2 ws kc ks pc lv st
def O_Tra_levelOf (cI cL cZ : ClassId) (o_Tra o_Tal a_Tra_0 a_Tra_1 a_Tra_2 a_Tra_3 : Nat) (v_Tra : T_Tra) (out : Int32) : Int32 → va_W → Prop := fun r w1 => out = r ∧ w1 = w_Tra cI cL cZ o_Tra o_Tal a_Tra_0 a_Tra_1 a_Tra_2 a_Tra_3 v_Tra
def m_Tra_levelOf (v_Tra : T_Tra) (x1 : Int32) : Option (Int32) := (if ¬ (x1 < 0 ∨ v_Tra.2.2.2.2.1.1 ≤ (x1).toNatClampNeg) then (some (v_Tra.2.2.2.2.1.2 (x1).toNatClampNeg)) else none)
set_option maxRecDepth 100000 in
set_option maxHeartbeats 4000000 in
theorem c_Tra_levelOf {l : Launch} {D : va_G} {cI cL cZ : ClassId} (o_Tra o_Tal a_Tra_0 a_Tra_1 a_Tra_2 a_Tra_3 : Nat) (v_Tra : T_Tra) (x1 : Int32) (out : Int32) (hm : m_Tra_levelOf v_Tra x1 = some out) : ct l y_Tra_levelOf (Cond.code y_Tra_levelOf b_Tra_levelOf 2 (some .int) :: TB) 0 0 D clss (ty3 cI cL cZ) NM0 NF0 [.ref o_Tra, .int x1] (w_Tra cI cL cZ o_Tra o_Tal a_Tra_0 a_Tra_1 a_Tra_2 a_Tra_3 v_Tra) (qI D clss (ty3 cI cL cZ) (O_Tra_levelOf cI cL cZ o_Tra o_Tal a_Tra_0 a_Tra_1 a_Tra_2 a_Tra_3 v_Tra out)) 0 0 := by
  refine ct_of (plainFor_of_name (by decide)) (Nat.le_of_ble_eq_true rfl) (fun p e s m args below meth c A X N hr hlk hnm => ?_)
  refine aj_lv (lv' := [(0, .ref o_Tra), (1, .int x1)]) [0, 1] rfl ?_
  unfold m_Tra_levelOf at hm
  refine aj_aload_n X d_Tra_levelOf_0 0 rfl ?_
  refine aj_get X d_Tra_levelOf_1 in_Tra 0 rfl rfl 5 (by decide) lf_Tra_29 rfl ?_
  refine aj_iload_n X d_Tra_levelOf_4 1 rfl ?_
  obtain ⟨b1, hm⟩ := chk_of hm
  refine aj_iald X d_Tra_levelOf_5 3 0 rfl rfl b1 ?_
  have ho := Option.some.inj hm
  subst ho
  exact aj_iret X d_Tra_levelOf_6 hr hlk [0, 1, 2, 3, 4] (w_Tra cI cL cZ o_Tra o_Tal a_Tra_0 a_Tra_1 a_Tra_2 a_Tra_3 v_Tra) rfl rfl ⟨rfl, rfl⟩
abbrev X_Sea_markOthers (p : Program) (s : State) (m : MethodId) (args : Array Value) (c : Code) (D : va_G) (cI cL cZ : ClassId) (A : Nat → Prop) : Prop := aj_C p s m args c D clss (ty3 cI cL cZ) A b_Sea_markOthers 7 R_Sea TB
abbrev J_Sea_markOthers (p : Program) (l : Launch) (e : Env) (s : State) (m : MethodId) (args : Array Value) (below : List Frame) (meth : Method) (c : Code) (D : va_G) (cI cL cZ : ClassId) (A : Nat → Prop) (O : Int32 → va_W → Prop) (mc ms : Nat) (ws : va_W) (kc ks pc : Nat) (lv : List (Nat × Value)) (st : List Value) : Prop := aj p l e { frames := 1, cells := mc, slots := ms, locals := 21 } s m args below meth c (MQ below (qI D clss (ty3 cI cL cZ) O A) args s mc ms A) D clss A 7 ws kc ks pc lv st
def O_Sea_markOthers (cI cL cZ : ClassId) (o_Sto o_Tra o_Tal o_Sea o_Ass a_Sto_0 a_Sto_1 a_Sto_2 a_Sto_3 a_Sto_4 a_Tra_0 a_Tra_1 a_Tra_2 a_Tra_3 a_Sea_0 a_Sea_1 a_Sea_2 : Nat) (v_Sto : T_Sto) (v_Tra : T_Tra) (out : T_Sea × Int32) : Int32 → va_W → Prop := fun r w1 => out.2 = r ∧ w1 = w_Sto cI cL cZ o_Sto a_Sto_0 a_Sto_1 a_Sto_2 a_Sto_3 a_Sto_4 v_Sto ++ w_Tra cI cL cZ o_Tra o_Tal a_Tra_0 a_Tra_1 a_Tra_2 a_Tra_3 v_Tra ++ w_Sea cI cL cZ o_Sea o_Sto o_Tra o_Tal o_Ass a_Sea_0 a_Sea_1 a_Sea_2 out.1
def m_Sea_markOthers_B94 (v_Sto : T_Sto) (v_Tra : T_Tra) (again22 : T_Sea → Int32 → Int32 → Int32 → Int32 → Option (T_Sea × Int32)) (v_Sea : T_Sea) (x2 : Int32) (x3 : Int32) (x4 : Int32) (x5 : Int32) : Option (T_Sea × Int32) := (again22 v_Sea x2 x3 x4 (x5 + 1))
set_option maxRecDepth 100000 in
set_option maxHeartbeats 4000000 in
theorem c_Sea_markOthers_B94 {l : Launch} {D : va_G} {cI cL cZ : ClassId} {p : Program} {e : Env} {s : State} {m : MethodId} {args : Array Value} {below : List Frame} {meth : Method} {c : Code} {A : Nat → Prop} (o_Sto o_Tra o_Tal o_Sea o_Ass a_Sto_0 a_Sto_1 a_Sto_2 a_Sto_3 a_Sto_4 a_Tra_0 a_Tra_1 a_Tra_2 a_Tra_3 a_Sea_0 a_Sea_1 a_Sea_2 : Nat) (v_Sto : T_Sto) (v_Tra : T_Tra) (out : T_Sea × Int32) (X : X_Sea_markOthers p s m args c D cI cL cZ A) (N : nk NM0 NF0 s) (hr : meth.sig.returnType = some .int) (hlk : meth.locks = false) (again22 : T_Sea → Int32 → Int32 → Int32 → Int32 → Option (T_Sea × Int32)) (ih22 : ∀ (v_Sea : T_Sea) (x2 : Int32) (x3 : Int32) (x4 : Int32) (x5 : Int32), again22 v_Sea x2 x3 x4 x5 = some out → J_Sea_markOthers p l e s m args below meth c D cI cL cZ A (O_Sea_markOthers cI cL cZ o_Sto o_Tra o_Tal o_Sea o_Ass a_Sto_0 a_Sto_1 a_Sto_2 a_Sto_3 a_Sto_4 a_Tra_0 a_Tra_1 a_Tra_2 a_Tra_3 a_Sea_0 a_Sea_1 a_Sea_2 v_Sto v_Tra out) 0 0 (w_Sto cI cL cZ o_Sto a_Sto_0 a_Sto_1 a_Sto_2 a_Sto_3 a_Sto_4 v_Sto ++ w_Tra cI cL cZ o_Tra o_Tal a_Tra_0 a_Tra_1 a_Tra_2 a_Tra_3 v_Tra ++ w_Sea cI cL cZ o_Sea o_Sto o_Tra o_Tal o_Ass a_Sea_0 a_Sea_1 a_Sea_2 v_Sea) 0 0 22 [(0, .ref o_Sea), (2, .int x2), (3, .int x3), (4, .int x4), (5, .int x5)] []) : ∀ (v_Sea : T_Sea) (x2 : Int32) (x3 : Int32) (x4 : Int32) (x5 : Int32), m_Sea_markOthers_B94 v_Sto v_Tra again22 v_Sea x2 x3 x4 x5 = some out → J_Sea_markOthers p l e s m args below meth c D cI cL cZ A (O_Sea_markOthers cI cL cZ o_Sto o_Tra o_Tal o_Sea o_Ass a_Sto_0 a_Sto_1 a_Sto_2 a_Sto_3 a_Sto_4 a_Tra_0 a_Tra_1 a_Tra_2 a_Tra_3 a_Sea_0 a_Sea_1 a_Sea_2 v_Sto v_Tra out) 0 0 (w_Sto cI cL cZ o_Sto a_Sto_0 a_Sto_1 a_Sto_2 a_Sto_3 a_Sto_4 v_Sto ++ w_Tra cI cL cZ o_Tra o_Tal a_Tra_0 a_Tra_1 a_Tra_2 a_Tra_3 v_Tra ++ w_Sea cI cL cZ o_Sea o_Sto o_Tra o_Tal o_Ass a_Sea_0 a_Sea_1 a_Sea_2 v_Sea) 0 0 94 [(0, .ref o_Sea), (2, .int x2), (3, .int x3), (4, .int x4), (5, .int x5)] [] := by
  intro v_Sea x2 x3 x4 x5 hm
  unfold m_Sea_markOthers_B94 at hm
  refine aj_iinc (v := (x5 + 1)) (lv' := [(5, .int (x5 + 1)), (0, .ref o_Sea), (2, .int x2), (3, .int x3), (4, .int x4)]) X d_Sea_markOthers_94 4 rfl rfl (by decide) rfl ?_
  refine aj_goto X 22 d_Sea_markOthers_97 (by decide) ?_
  refine aj_lv (lv' := [(0, .ref o_Sea), (2, .int x2), (3, .int x3), (4, .int x4), (5, .int (x5 + 1))]) [1, 2, 3, 4, 0] rfl ?_
  exact ih22 v_Sea x2 x3 x4 (x5 + 1) hm
def m_Sea_markOthers_B92 (v_Sto : T_Sto) (v_Tra : T_Tra) (again22 : T_Sea → Int32 → Int32 → Int32 → Int32 → Option (T_Sea × Int32)) (v_Sea : T_Sea) (x2 : Int32) (x4 : Int32) (x5 : Int32) (z0 : Int32) (z1 : Int32) : Option (T_Sea × Int32) := (m_Sea_markOthers_B94 v_Sto v_Tra again22 v_Sea x2 (z1 + z0) x4 x5)
set_option maxRecDepth 100000 in
set_option maxHeartbeats 4000000 in
theorem c_Sea_markOthers_B92 {l : Launch} {D : va_G} {cI cL cZ : ClassId} {p : Program} {e : Env} {s : State} {m : MethodId} {args : Array Value} {below : List Frame} {meth : Method} {c : Code} {A : Nat → Prop} (o_Sto o_Tra o_Tal o_Sea o_Ass a_Sto_0 a_Sto_1 a_Sto_2 a_Sto_3 a_Sto_4 a_Tra_0 a_Tra_1 a_Tra_2 a_Tra_3 a_Sea_0 a_Sea_1 a_Sea_2 : Nat) (v_Sto : T_Sto) (v_Tra : T_Tra) (out : T_Sea × Int32) (X : X_Sea_markOthers p s m args c D cI cL cZ A) (N : nk NM0 NF0 s) (hr : meth.sig.returnType = some .int) (hlk : meth.locks = false) (again22 : T_Sea → Int32 → Int32 → Int32 → Int32 → Option (T_Sea × Int32)) (ih22 : ∀ (v_Sea : T_Sea) (x2 : Int32) (x3 : Int32) (x4 : Int32) (x5 : Int32), again22 v_Sea x2 x3 x4 x5 = some out → J_Sea_markOthers p l e s m args below meth c D cI cL cZ A (O_Sea_markOthers cI cL cZ o_Sto o_Tra o_Tal o_Sea o_Ass a_Sto_0 a_Sto_1 a_Sto_2 a_Sto_3 a_Sto_4 a_Tra_0 a_Tra_1 a_Tra_2 a_Tra_3 a_Sea_0 a_Sea_1 a_Sea_2 v_Sto v_Tra out) 0 0 (w_Sto cI cL cZ o_Sto a_Sto_0 a_Sto_1 a_Sto_2 a_Sto_3 a_Sto_4 v_Sto ++ w_Tra cI cL cZ o_Tra o_Tal a_Tra_0 a_Tra_1 a_Tra_2 a_Tra_3 v_Tra ++ w_Sea cI cL cZ o_Sea o_Sto o_Tra o_Tal o_Ass a_Sea_0 a_Sea_1 a_Sea_2 v_Sea) 0 0 22 [(0, .ref o_Sea), (2, .int x2), (3, .int x3), (4, .int x4), (5, .int x5)] []) : ∀ (v_Sea : T_Sea) (x2 : Int32) (x4 : Int32) (x5 : Int32) (z0 : Int32) (z1 : Int32), m_Sea_markOthers_B92 v_Sto v_Tra again22 v_Sea x2 x4 x5 z0 z1 = some out → J_Sea_markOthers p l e s m args below meth c D cI cL cZ A (O_Sea_markOthers cI cL cZ o_Sto o_Tra o_Tal o_Sea o_Ass a_Sto_0 a_Sto_1 a_Sto_2 a_Sto_3 a_Sto_4 a_Tra_0 a_Tra_1 a_Tra_2 a_Tra_3 a_Sea_0 a_Sea_1 a_Sea_2 v_Sto v_Tra out) 0 0 (w_Sto cI cL cZ o_Sto a_Sto_0 a_Sto_1 a_Sto_2 a_Sto_3 a_Sto_4 v_Sto ++ w_Tra cI cL cZ o_Tra o_Tal a_Tra_0 a_Tra_1 a_Tra_2 a_Tra_3 v_Tra ++ w_Sea cI cL cZ o_Sea o_Sto o_Tra o_Tal o_Ass a_Sea_0 a_Sea_1 a_Sea_2 v_Sea) 0 0 92 [(0, .ref o_Sea), (2, .int x2), (4, .int x4), (5, .int x5)] [.int z0, .int z1] := by
  intro v_Sea x2 x4 x5 z0 z1 hm
  unfold m_Sea_markOthers_B92 at hm
  refine aj_iadd X d_Sea_markOthers_92 ?_
  refine aj_istore_n (lv' := [(3, .int (z1 + z0)), (0, .ref o_Sea), (2, .int x2), (4, .int x4), (5, .int x5)]) X d_Sea_markOthers_93 rfl (by decide) rfl ?_
  refine aj_lv (lv' := [(0, .ref o_Sea), (2, .int x2), (3, .int (z1 + z0)), (4, .int x4), (5, .int x5)]) [1, 2, 0, 3, 4] rfl ?_
  exact c_Sea_markOthers_B94 o_Sto o_Tra o_Tal o_Sea o_Ass a_Sto_0 a_Sto_1 a_Sto_2 a_Sto_3 a_Sto_4 a_Tra_0 a_Tra_1 a_Tra_2 a_Tra_3 a_Sea_0 a_Sea_1 a_Sea_2 v_Sto v_Tra out X N hr hlk again22 ih22 v_Sea x2 (z1 + z0) x4 x5 hm
def m_Sea_markOthers_L22 (v_Sto : T_Sto) (v_Tra : T_Tra) : Nat → T_Sea → Int32 → Int32 → Int32 → Int32 → Option (T_Sea × Int32)
  | 0, _, _, _, _, _ => none
  | f + 1, v_Sea, x2, x3, x4, x5 => (if x4 ≤ x5 then (some (v_Sea, x3)) else (if ¬ (x5 < 0 ∨ v_Sto.2.2.1.1 ≤ (x5).toNatClampNeg) then (if ((v_Sto.2.2.1.2 (x5).toNatClampNeg) >>> ((1 : Int32) &&& 31)) = x2 then (m_Sea_markOthers_B94 v_Sto v_Tra (m_Sea_markOthers_L22 v_Sto v_Tra f) v_Sea x2 x3 x4 x5) else (if ¬ (((v_Sto.2.2.1.2 (x5).toNatClampNeg) >>> ((1 : Int32) &&& 31)) < 0 ∨ v_Sea.2.2.2.1.1 ≤ (((v_Sto.2.2.1.2 (x5).toNatClampNeg) >>> ((1 : Int32) &&& 31))).toNatClampNeg) then (if (v_Sea.2.2.2.1.2 (((v_Sto.2.2.1.2 (x5).toNatClampNeg) >>> ((1 : Int32) &&& 31))).toNatClampNeg) = 0 then (if ¬ (((v_Sto.2.2.1.2 (x5).toNatClampNeg) >>> ((1 : Int32) &&& 31)) < 0 ∨ v_Sea.2.2.2.1.1 ≤ (((v_Sto.2.2.1.2 (x5).toNatClampNeg) >>> ((1 : Int32) &&& 31))).toNatClampNeg) then ((m_Tra_levelOf v_Tra ((v_Sto.2.2.1.2 (x5).toNatClampNeg) >>> ((1 : Int32) &&& 31))).bind fun r10 => (if r10 = v_Tra.2.1 then (m_Sea_markOthers_B92 v_Sto v_Tra (m_Sea_markOthers_L22 v_Sto v_Tra f) (v_Sea.1, v_Sea.2.1, v_Sea.2.2.1, (v_Sea.2.2.2.1.1, (upd v_Sea.2.2.2.1.2 (((v_Sto.2.2.1.2 (x5).toNatClampNeg) >>> ((1 : Int32) &&& 31))).toNatClampNeg (1 : Int32))), v_Sea.2.2.2.2.1, v_Sea.2.2.2.2.2.1, v_Sea.2.2.2.2.2.2.1, v_Sea.2.2.2.2.2.2.2) x2 x4 x5 (1 : Int32) x3) else (m_Sea_markOthers_B92 v_Sto v_Tra (m_Sea_markOthers_L22 v_Sto v_Tra f) (v_Sea.1, v_Sea.2.1, v_Sea.2.2.1, (v_Sea.2.2.2.1.1, (upd v_Sea.2.2.2.1.2 (((v_Sto.2.2.1.2 (x5).toNatClampNeg) >>> ((1 : Int32) &&& 31))).toNatClampNeg (1 : Int32))), v_Sea.2.2.2.2.1, v_Sea.2.2.2.2.2.1, v_Sea.2.2.2.2.2.2.1, v_Sea.2.2.2.2.2.2.2) x2 x4 x5 (0 : Int32) x3))) else none) else (m_Sea_markOthers_B94 v_Sto v_Tra (m_Sea_markOthers_L22 v_Sto v_Tra f) v_Sea x2 x3 x4 x5)) else none)) else none))
set_option maxRecDepth 100000 in
set_option maxHeartbeats 4000000 in
theorem c_Sea_markOthers_L22 {l : Launch} {D : va_G} {cI cL cZ : ClassId} {p : Program} {e : Env} {s : State} {m : MethodId} {args : Array Value} {below : List Frame} {meth : Method} {c : Code} {A : Nat → Prop} (o_Sto o_Tra o_Tal o_Sea o_Ass a_Sto_0 a_Sto_1 a_Sto_2 a_Sto_3 a_Sto_4 a_Tra_0 a_Tra_1 a_Tra_2 a_Tra_3 a_Sea_0 a_Sea_1 a_Sea_2 : Nat) (v_Sto : T_Sto) (v_Tra : T_Tra) (out : T_Sea × Int32) (X : X_Sea_markOthers p s m args c D cI cL cZ A) (N : nk NM0 NF0 s) (hr : meth.sig.returnType = some .int) (hlk : meth.locks = false) : ∀ (nn : Nat), ∀ (v_Sea : T_Sea) (x2 : Int32) (x3 : Int32) (x4 : Int32) (x5 : Int32), m_Sea_markOthers_L22 v_Sto v_Tra nn v_Sea x2 x3 x4 x5 = some out → J_Sea_markOthers p l e s m args below meth c D cI cL cZ A (O_Sea_markOthers cI cL cZ o_Sto o_Tra o_Tal o_Sea o_Ass a_Sto_0 a_Sto_1 a_Sto_2 a_Sto_3 a_Sto_4 a_Tra_0 a_Tra_1 a_Tra_2 a_Tra_3 a_Sea_0 a_Sea_1 a_Sea_2 v_Sto v_Tra out) 0 0 (w_Sto cI cL cZ o_Sto a_Sto_0 a_Sto_1 a_Sto_2 a_Sto_3 a_Sto_4 v_Sto ++ w_Tra cI cL cZ o_Tra o_Tal a_Tra_0 a_Tra_1 a_Tra_2 a_Tra_3 v_Tra ++ w_Sea cI cL cZ o_Sea o_Sto o_Tra o_Tal o_Ass a_Sea_0 a_Sea_1 a_Sea_2 v_Sea) 0 0 22 [(0, .ref o_Sea), (2, .int x2), (3, .int x3), (4, .int x4), (5, .int x5)] [] := by
  intro nn
  induction nn with
  | zero => intro v_Sea x2 x3 x4 x5 hm; exact absurd hm (by simp [m_Sea_markOthers_L22])
  | succ nn ih22 =>
    intro v_Sea x2 x3 x4 x5 hm
    unfold m_Sea_markOthers_L22 at hm
    refine aj_iload X d_Sea_markOthers_22 4 rfl ?_
    refine aj_iload X d_Sea_markOthers_24 3 rfl ?_
    refine aj_icmp_ge X 100 d_Sea_markOthers_26 (by decide) (fun h => ?_) (fun h => ?_)
    · have hm := ite_t hm h
      refine aj_iload_n X d_Sea_markOthers_100 2 rfl ?_
      have ho := Option.some.inj hm
      subst ho
      exact aj_iret X d_Sea_markOthers_101 hr hlk [0, 1, 2, 3, 4, 5, 6, 7, 8, 9, 10, 11, 12, 13, 14] (w_Sto cI cL cZ o_Sto a_Sto_0 a_Sto_1 a_Sto_2 a_Sto_3 a_Sto_4 v_Sto ++ w_Tra cI cL cZ o_Tra o_Tal a_Tra_0 a_Tra_1 a_Tra_2 a_Tra_3 v_Tra ++ w_Sea cI cL cZ o_Sea o_Sto o_Tra o_Tal o_Ass a_Sea_0 a_Sea_1 a_Sea_2 v_Sea) rfl rfl ⟨rfl, rfl⟩
    · have hm := ite_f hm h
      refine aj_aload_n X d_Sea_markOthers_29 0 rfl ?_
      refine aj_get X d_Sea_markOthers_30 in_Sea 11 rfl rfl 3 (by decide) lf_Sea_15 rfl ?_
      refine aj_get X d_Sea_markOthers_33 in_Sto 0 rfl rfl 2 (by decide) lf_Sea_121 rfl ?_
      refine aj_iload X d_Sea_markOthers_36 4 rfl ?_
      obtain ⟨b7, hm⟩ := chk_of hm
      refine aj_iald X d_Sea_markOthers_38 1 0 rfl rfl b7 ?_
      refine aj_iconst (v := (1 : Int32)) X d_Sea_markOthers_39 (by decide) ?_
      refine aj_ishr X d_Sea_markOthers_40 ?_
      refine aj_istore (lv' := [(6, .int ((v_Sto.2.2.1.2 (x5).toNatClampNeg) >>> ((1 : Int32) &&& 31))), (0, .ref o_Sea), (2, .int x2), (3, .int x3), (4, .int x4), (5, .int x5)]) X d_Sea_markOthers_41 (by decide) rfl ?_
      refine aj_iload X d_Sea_markOthers_43 0 rfl ?_
      refine aj_iload_n X d_Sea_markOthers_45 2 rfl ?_
      refine aj_icmp_eq X 94 d_Sea_markOthers_46 (by decide) (fun h => ?_) (fun h => ?_)
      · have hm := ite_t hm h
        refine aj_lv (lv' := [(0, .ref o_Sea), (2, .int x2), (3, .int x3), (4, .int x4), (5, .int x5)]) [1, 2, 3, 4, 5] rfl ?_
        exact c_Sea_markOthers_B94 o_Sto o_Tra o_Tal o_Sea o_Ass a_Sto_0 a_Sto_1 a_Sto_2 a_Sto_3 a_Sto_4 a_Tra_0 a_Tra_1 a_Tra_2 a_Tra_3 a_Sea_0 a_Sea_1 a_Sea_2 v_Sto v_Tra out X N hr hlk (m_Sea_markOthers_L22 v_Sto v_Tra nn) ih22 v_Sea x2 x3 x4 x5 hm
      · have hm := ite_f hm h
        refine aj_aload_n X d_Sea_markOthers_49 1 rfl ?_
        refine aj_get X d_Sea_markOthers_50 in_Sea 11 rfl rfl 7 (by decide) lf_Sea_31 rfl ?_
        refine aj_iload X d_Sea_markOthers_53 0 rfl ?_
        obtain ⟨b8, hm⟩ := chk_of hm
        refine aj_iald X d_Sea_markOthers_55 12 0 rfl rfl b8 ?_
        refine aj_if_ne X 94 d_Sea_markOthers_56 (by decide) (fun h => ?_) (fun h => ?_)
        · have hm := ite_f hm h
          refine aj_lv (lv' := [(0, .ref o_Sea), (2, .int x2), (3, .int x3), (4, .int x4), (5, .int x5)]) [1, 2, 3, 4, 5] rfl ?_
          exact c_Sea_markOthers_B94 o_Sto o_Tra o_Tal o_Sea o_Ass a_Sto_0 a_Sto_1 a_Sto_2 a_Sto_3 a_Sto_4 a_Tra_0 a_Tra_1 a_Tra_2 a_Tra_3 a_Sea_0 a_Sea_1 a_Sea_2 v_Sto v_Tra out X N hr hlk (m_Sea_markOthers_L22 v_Sto v_Tra nn) ih22 v_Sea x2 x3 x4 x5 hm
        · have hm := ite_t hm h
          refine aj_aload_n X d_Sea_markOthers_59 1 rfl ?_
          refine aj_get X d_Sea_markOthers_60 in_Sea 11 rfl rfl 7 (by decide) lf_Sea_31 rfl ?_
          refine aj_iload X d_Sea_markOthers_63 0 rfl ?_
          refine aj_iconst (v := (1 : Int32)) X d_Sea_markOthers_65 (by decide) ?_
          obtain ⟨b9, hm⟩ := chk_of hm
          refine aj_iast (ws' := w_Sto cI cL cZ o_Sto a_Sto_0 a_Sto_1 a_Sto_2 a_Sto_3 a_Sto_4 v_Sto ++ w_Tra cI cL cZ o_Tra o_Tal a_Tra_0 a_Tra_1 a_Tra_2 a_Tra_3 v_Tra ++ w_Sea cI cL cZ o_Sea o_Sto o_Tra o_Tal o_Ass a_Sea_0 a_Sea_1 a_Sea_2 (v_Sea.1, v_Sea.2.1, v_Sea.2.2.1, (v_Sea.2.2.2.1.1, (upd v_Sea.2.2.2.1.2 (((v_Sto.2.2.1.2 (x5).toNatClampNeg) >>> ((1 : Int32) &&& 31))).toNatClampNeg (1 : Int32))), v_Sea.2.2.2.2.1, v_Sea.2.2.2.2.2.1, v_Sea.2.2.2.2.2.2.1, v_Sea.2.2.2.2.2.2.2)) X d_Sea_markOthers_66 12 0 rfl rfl b9 rfl ?_
          refine aj_iload_n X d_Sea_markOthers_67 3 rfl ?_
          refine aj_aload_n X d_Sea_markOthers_68 1 rfl ?_
          refine aj_get X d_Sea_markOthers_69 in_Sea 11 rfl rfl 4 (by decide) lf_Sea_19 rfl ?_
          refine aj_iload X d_Sea_markOthers_72 0 rfl ?_
          obtain ⟨r10, h11, hm⟩ := bnd_of hm
          refine aj_callI (wr := [(o_Sto, .inr (3, [.int v_Sto.1, .int v_Sto.2.1, .ref a_Sto_0, .ref a_Sto_1, .ref a_Sto_2, .ref a_Sto_3, .ref a_Sto_4])), (a_Sto_0, .inl (cI, v_Sto.2.2.1.1, .inl v_Sto.2.2.1.2)), (a_Sto_1, .inl (cI, v_Sto.2.2.2.1.1, .inl v_Sto.2.2.2.1.2)), (a_Sto_2, .inl (cI, v_Sto.2.2.2.2.1.1, .inl v_Sto.2.2.2.2.1.2)), (a_Sto_3, .inl (cI, v_Sto.2.2.2.2.2.1.1, .inl v_Sto.2.2.2.2.2.1.2)), (a_Sto_4, .inl (cI, v_Sto.2.2.2.2.2.2.1, .inl v_Sto.2.2.2.2.2.2.2)), (o_Sea, .inr (2, [.int v_Sea.1, .long v_Sea.2.1, .int v_Sea.2.2.1, .ref o_Sto, .ref o_Tra, .ref o_Tal, .ref o_Ass, .ref a_Sea_0, .ref a_Sea_1, .int v_Sea.2.2.2.2.2.1, .ref a_Sea_2, .long v_Sea.2.2.2.2.2.2.2])), (a_Sea_0, .inl (cI, v_Sea.2.2.2.1.1, .inl (upd v_Sea.2.2.2.1.2 (((v_Sto.2.2.1.2 (x5).toNatClampNeg) >>> ((1 : Int32) &&& 31))).toNatClampNeg (1 : Int32)))), (a_Sea_1, .inl (cI, v_Sea.2.2.2.2.1.1, .inl v_Sea.2.2.2.2.1.2)), (a_Sea_2, .inl (cI, v_Sea.2.2.2.2.2.2.1.1, .inl v_Sea.2.2.2.2.2.2.1.2))]) X (aj_rV (As := [.int ((v_Sto.2.2.1.2 (x5).toNatClampNeg) >>> ((1 : Int32) &&& 31))]) (rest := [.int x3]) X N gTB (c_Tra_levelOf (D := D) (cI := cI) (cL := cL) (cZ := cZ) o_Tra o_Tal a_Tra_0 a_Tra_1 a_Tra_2 a_Tra_3 v_Tra ((v_Sto.2.2.1.2 (x5).toNatClampNeg) >>> ((1 : Int32) &&& 31)) r10 h11) d_Sea_markOthers_74 lk_Tra_levelOf lw_Sea_181 lh_Tra_levelOf ⟨(Nat.le_of_ble_eq_true rfl), (Nat.le_of_ble_eq_true rfl)⟩ [6, 7, 8, 9, 10] rfl rfl 0 rfl rfl rfl rfl (Nat.le_of_ble_eq_true rfl) ⟨Nat.le_refl _, Nat.le_refl _⟩) [6, 7, 8, 9, 10] [0, 1, 2, 3, 4, 5, 11, 12, 13, 14] rfl rfl rfl (by decide) (fun rr w1 hO => ?_)
          obtain ⟨rfl, rfl⟩ := hO
          refine aj_perm (ws' := w_Sto cI cL cZ o_Sto a_Sto_0 a_Sto_1 a_Sto_2 a_Sto_3 a_Sto_4 v_Sto ++ w_Tra cI cL cZ o_Tra o_Tal a_Tra_0 a_Tra_1 a_Tra_2 a_Tra_3 v_Tra ++ w_Sea cI cL cZ o_Sea o_Sto o_Tra o_Tal o_Ass a_Sea_0 a_Sea_1 a_Sea_2 (v_Sea.1, v_Sea.2.1, v_Sea.2.2.1, (v_Sea.2.2.2.1.1, (upd v_Sea.2.2.2.1.2 (((v_Sto.2.2.1.2 (x5).toNatClampNeg) >>> ((1 : Int32) &&& 31))).toNatClampNeg (1 : Int32))), v_Sea.2.2.2.2.1, v_Sea.2.2.2.2.2.1, v_Sea.2.2.2.2.2.2.1, v_Sea.2.2.2.2.2.2.2)) [0, 1, 2, 3, 4, 5, 10, 11, 12, 13, 14, 6, 7, 8, 9] rfl rfl ?_
          refine aj_aload_n X d_Sea_markOthers_77 1 rfl ?_
          refine aj_get X d_Sea_markOthers_78 in_Sea 11 rfl rfl 4 (by decide) lf_Sea_19 rfl ?_
          refine aj_get X d_Sea_markOthers_81 in_Tra 6 rfl rfl 1 (by decide) lf_Sea_75 rfl ?_
          refine aj_icmp_ne X 91 d_Sea_markOthers_84 (by decide) (fun h => ?_) (fun h => ?_)
          · have hm := ite_f hm h
            refine aj_iconst (v := (0 : Int32)) X d_Sea_markOthers_91 (by decide) ?_
            refine aj_lv (lv' := [(0, .ref o_Sea), (2, .int x2), (4, .int x4), (5, .int x5)]) [1, 2, 4, 5] rfl ?_
            exact c_Sea_markOthers_B92 o_Sto o_Tra o_Tal o_Sea o_Ass a_Sto_0 a_Sto_1 a_Sto_2 a_Sto_3 a_Sto_4 a_Tra_0 a_Tra_1 a_Tra_2 a_Tra_3 a_Sea_0 a_Sea_1 a_Sea_2 v_Sto v_Tra out X N hr hlk (m_Sea_markOthers_L22 v_Sto v_Tra nn) ih22 (v_Sea.1, v_Sea.2.1, v_Sea.2.2.1, (v_Sea.2.2.2.1.1, (upd v_Sea.2.2.2.1.2 (((v_Sto.2.2.1.2 (x5).toNatClampNeg) >>> ((1 : Int32) &&& 31))).toNatClampNeg (1 : Int32))), v_Sea.2.2.2.2.1, v_Sea.2.2.2.2.2.1, v_Sea.2.2.2.2.2.2.1, v_Sea.2.2.2.2.2.2.2) x2 x4 x5 (0 : Int32) x3 hm
          · have hm := ite_t hm h
            refine aj_iconst (v := (1 : Int32)) X d_Sea_markOthers_87 (by decide) ?_
            refine aj_goto X 92 d_Sea_markOthers_88 (by decide) ?_
            refine aj_lv (lv' := [(0, .ref o_Sea), (2, .int x2), (4, .int x4), (5, .int x5)]) [1, 2, 4, 5] rfl ?_
            exact c_Sea_markOthers_B92 o_Sto o_Tra o_Tal o_Sea o_Ass a_Sto_0 a_Sto_1 a_Sto_2 a_Sto_3 a_Sto_4 a_Tra_0 a_Tra_1 a_Tra_2 a_Tra_3 a_Sea_0 a_Sea_1 a_Sea_2 v_Sto v_Tra out X N hr hlk (m_Sea_markOthers_L22 v_Sto v_Tra nn) ih22 (v_Sea.1, v_Sea.2.1, v_Sea.2.2.1, (v_Sea.2.2.2.1.1, (upd v_Sea.2.2.2.1.2 (((v_Sto.2.2.1.2 (x5).toNatClampNeg) >>> ((1 : Int32) &&& 31))).toNatClampNeg (1 : Int32))), v_Sea.2.2.2.2.1, v_Sea.2.2.2.2.2.1, v_Sea.2.2.2.2.2.2.1, v_Sea.2.2.2.2.2.2.2) x2 x4 x5 (1 : Int32) x3 hm
def m_Sea_markOthers (v_Sto : T_Sto) (v_Tra : T_Tra) (v_Sea : T_Sea) (x1 : Int32) (x2 : Int32) : Option (T_Sea × Int32) := ((m_Sto_endOf v_Sto x1).bind fun r12 => ((m_Sto_startOf v_Sto x1).bind fun r14 => (m_Sea_markOthers_L22 v_Sto v_Tra fu v_Sea x2 (0 : Int32) r12 r14)))
set_option maxRecDepth 100000 in
set_option maxHeartbeats 4000000 in
theorem c_Sea_markOthers {l : Launch} {D : va_G} {cI cL cZ : ClassId} (o_Sto o_Tra o_Tal o_Sea o_Ass a_Sto_0 a_Sto_1 a_Sto_2 a_Sto_3 a_Sto_4 a_Tra_0 a_Tra_1 a_Tra_2 a_Tra_3 a_Sea_0 a_Sea_1 a_Sea_2 : Nat) (v_Sto : T_Sto) (v_Tra : T_Tra) (v_Sea : T_Sea) (x1 : Int32) (x2 : Int32) (out : T_Sea × Int32) (hm : m_Sea_markOthers v_Sto v_Tra v_Sea x1 x2 = some out) : ct l y_Sea_markOthers (Cond.code y_Sea_markOthers b_Sea_markOthers 7 (some .int) :: TB) 1 21 D clss (ty3 cI cL cZ) NM0 NF0 [.ref o_Sea, .int x1, .int x2] (w_Sto cI cL cZ o_Sto a_Sto_0 a_Sto_1 a_Sto_2 a_Sto_3 a_Sto_4 v_Sto ++ w_Tra cI cL cZ o_Tra o_Tal a_Tra_0 a_Tra_1 a_Tra_2 a_Tra_3 v_Tra ++ w_Sea cI cL cZ o_Sea o_Sto o_Tra o_Tal o_Ass a_Sea_0 a_Sea_1 a_Sea_2 v_Sea) (qI D clss (ty3 cI cL cZ) (O_Sea_markOthers cI cL cZ o_Sto o_Tra o_Tal o_Sea o_Ass a_Sto_0 a_Sto_1 a_Sto_2 a_Sto_3 a_Sto_4 a_Tra_0 a_Tra_1 a_Tra_2 a_Tra_3 a_Sea_0 a_Sea_1 a_Sea_2 v_Sto v_Tra out)) 0 0 := by
  refine ct_of (plainFor_of_name (by decide)) (Nat.le_of_ble_eq_true rfl) (fun p e s m args below meth c A X N hr hlk hnm => ?_)
  refine aj_lv (lv' := [(0, .ref o_Sea), (1, .int x1), (2, .int x2)]) [0, 1, 2] rfl ?_
  unfold m_Sea_markOthers at hm
  refine aj_iconst (v := (0 : Int32)) X d_Sea_markOthers_0 (by decide) ?_
  refine aj_istore_n (lv' := [(3, .int (0 : Int32)), (0, .ref o_Sea), (1, .int x1), (2, .int x2)]) X d_Sea_markOthers_1 rfl (by decide) rfl ?_
  refine aj_aload_n X d_Sea_markOthers_2 1 rfl ?_
  refine aj_get X d_Sea_markOthers_3 in_Sea 11 rfl rfl 3 (by decide) lf_Sea_15 rfl ?_
  refine aj_iload_n X d_Sea_markOthers_6 2 rfl ?_
  obtain ⟨r12, h13, hm⟩ := bnd_of hm
  refine aj_callI (wr := [(o_Tra, .inr (5, [.int v_Tra.1, .int v_Tra.2.1, .ref a_Tra_0, .ref o_Tal, .ref a_Tra_1, .ref a_Tra_2, .ref a_Tra_3])), (a_Tra_0, .inl (cI, v_Tra.2.2.1.1, .inl v_Tra.2.2.1.2)), (a_Tra_1, .inl (cI, v_Tra.2.2.2.1.1, .inl v_Tra.2.2.2.1.2)), (a_Tra_2, .inl (cI, v_Tra.2.2.2.2.1.1, .inl v_Tra.2.2.2.2.1.2)), (a_Tra_3, .inl (cI, v_Tra.2.2.2.2.2.1, .inl v_Tra.2.2.2.2.2.2)), (o_Sea, .inr (2, [.int v_Sea.1, .long v_Sea.2.1, .int v_Sea.2.2.1, .ref o_Sto, .ref o_Tra, .ref o_Tal, .ref o_Ass, .ref a_Sea_0, .ref a_Sea_1, .int v_Sea.2.2.2.2.2.1, .ref a_Sea_2, .long v_Sea.2.2.2.2.2.2.2])), (a_Sea_0, .inl (cI, v_Sea.2.2.2.1.1, .inl v_Sea.2.2.2.1.2)), (a_Sea_1, .inl (cI, v_Sea.2.2.2.2.1.1, .inl v_Sea.2.2.2.2.1.2)), (a_Sea_2, .inl (cI, v_Sea.2.2.2.2.2.2.1.1, .inl v_Sea.2.2.2.2.2.2.1.2))]) X (aj_rV (As := [.int x1]) (rest := []) X N gTB (c_Sto_endOf (D := D) (cI := cI) (cL := cL) (cZ := cZ) o_Sto a_Sto_0 a_Sto_1 a_Sto_2 a_Sto_3 a_Sto_4 v_Sto x1 r12 h13) d_Sea_markOthers_7 lk_Sto_endOf lw_Sea_113 lh_Sto_endOf ⟨(Nat.le_of_ble_eq_true rfl), (Nat.le_of_ble_eq_true rfl)⟩ [0, 1, 2, 3, 4, 5] rfl rfl 0 rfl rfl rfl rfl (Nat.le_of_ble_eq_true rfl) ⟨Nat.le_refl _, Nat.le_refl _⟩) [0, 1, 2, 3, 4, 5] [6, 7, 8, 9, 10, 11, 12, 13, 14] rfl rfl rfl (by decide) (fun rr w1 hO => ?_)
  obtain ⟨rfl, rfl⟩ := hO
  refine aj_perm (ws' := w_Sto cI cL cZ o_Sto a_Sto_0 a_Sto_1 a_Sto_2 a_Sto_3 a_Sto_4 v_Sto ++ w_Tra cI cL cZ o_Tra o_Tal a_Tra_0 a_Tra_1 a_Tra_2 a_Tra_3 v_Tra ++ w_Sea cI cL cZ o_Sea o_Sto o_Tra o_Tal o_Ass a_Sea_0 a_Sea_1 a_Sea_2 v_Sea) [9, 10, 11, 12, 13, 14, 0, 1, 2, 3, 4, 5, 6, 7, 8] rfl rfl ?_
  refine aj_istore (lv' := [(4, .int r12), (3, .int (0 : Int32)), (0, .ref o_Sea), (1, .int x1), (2, .int x2)]) X d_Sea_markOthers_10 (by decide) rfl ?_
  refine aj_aload_n X d_Sea_markOthers_12 2 rfl ?_
  refine aj_get X d_Sea_markOthers_13 in_Sea 11 rfl rfl 3 (by decide) lf_Sea_15 rfl ?_
  refine aj_iload_n X d_Sea_markOthers_16 3 rfl ?_
  obtain ⟨r14, h15, hm⟩ := bnd_of hm
  refine aj_callI (wr := [(o_Tra, .inr (5, [.int v_Tra.1, .int v_Tra.2.1, .ref a_Tra_0, .ref o_Tal, .ref a_Tra_1, .ref a_Tra_2, .ref a_Tra_3])), (a_Tra_0, .inl (cI, v_Tra.2.2.1.1, .inl v_Tra.2.2.1.2)), (a_Tra_1, .inl (cI, v_Tra.2.2.2.1.1, .inl v_Tra.2.2.2.1.2)), (a_Tra_2, .inl (cI, v_Tra.2.2.2.2.1.1, .inl v_Tra.2.2.2.2.1.2)), (a_Tra_3, .inl (cI, v_Tra.2.2.2.2.2.1, .inl v_Tra.2.2.2.2.2.2)), (o_Sea, .inr (2, [.int v_Sea.1, .long v_Sea.2.1, .int v_Sea.2.2.1, .ref o_Sto, .ref o_Tra, .ref o_Tal, .ref o_Ass, .ref a_Sea_0, .ref a_Sea_1, .int v_Sea.2.2.2.2.2.1, .ref a_Sea_2, .long v_Sea.2.2.2.2.2.2.2])), (a_Sea_0, .inl (cI, v_Sea.2.2.2.1.1, .inl v_Sea.2.2.2.1.2)), (a_Sea_1, .inl (cI, v_Sea.2.2.2.2.1.1, .inl v_Sea.2.2.2.2.1.2)), (a_Sea_2, .inl (cI, v_Sea.2.2.2.2.2.2.1.1, .inl v_Sea.2.2.2.2.2.2.1.2))]) X (aj_rV (As := [.int x1]) (rest := []) X N gTB (c_Sto_startOf (D := D) (cI := cI) (cL := cL) (cZ := cZ) o_Sto a_Sto_0 a_Sto_1 a_Sto_2 a_Sto_3 a_Sto_4 v_Sto x1 r14 h15) d_Sea_markOthers_17 lk_Sto_startOf lw_Sea_118 lh_Sto_startOf ⟨(Nat.le_of_ble_eq_true rfl), (Nat.le_of_ble_eq_true rfl)⟩ [0, 1, 2, 3, 4, 5] rfl rfl 0 rfl rfl rfl rfl (Nat.le_of_ble_eq_true rfl) ⟨Nat.le_refl _, Nat.le_refl _⟩) [0, 1, 2, 3, 4, 5] [6, 7, 8, 9, 10, 11, 12, 13, 14] rfl rfl rfl (by decide) (fun rr w1 hO => ?_)
  obtain ⟨rfl, rfl⟩ := hO
  refine aj_perm (ws' := w_Sto cI cL cZ o_Sto a_Sto_0 a_Sto_1 a_Sto_2 a_Sto_3 a_Sto_4 v_Sto ++ w_Tra cI cL cZ o_Tra o_Tal a_Tra_0 a_Tra_1 a_Tra_2 a_Tra_3 v_Tra ++ w_Sea cI cL cZ o_Sea o_Sto o_Tra o_Tal o_Ass a_Sea_0 a_Sea_1 a_Sea_2 v_Sea) [9, 10, 11, 12, 13, 14, 0, 1, 2, 3, 4, 5, 6, 7, 8] rfl rfl ?_
  refine aj_istore (lv' := [(5, .int r14), (4, .int r12), (3, .int (0 : Int32)), (0, .ref o_Sea), (1, .int x1), (2, .int x2)]) X d_Sea_markOthers_20 (by decide) rfl ?_
  refine aj_lv (lv' := [(0, .ref o_Sea), (2, .int x2), (3, .int (0 : Int32)), (4, .int r12), (5, .int r14)]) [3, 5, 2, 1, 0] rfl ?_
  exact c_Sea_markOthers_L22 o_Sto o_Tra o_Tal o_Sea o_Ass a_Sto_0 a_Sto_1 a_Sto_2 a_Sto_3 a_Sto_4 a_Tra_0 a_Tra_1 a_Tra_2 a_Tra_3 a_Sea_0 a_Sea_1 a_Sea_2 v_Sto v_Tra out X N hr hlk fu v_Sea x2 (0 : Int32) r12 r14 hm
abbrev X_Tra_causeOf (p : Program) (s : State) (m : MethodId) (args : Array Value) (c : Code) (D : va_G) (cI cL cZ : ClassId) (A : Nat → Prop) : Prop := aj_C p s m args c D clss (ty3 cI cL cZ) A b_Tra_causeOf 2 R_Tra TB
abbrev J_Tra_causeOf (p : Program) (l : Launch) (e : Env) (s : State) (m : MethodId) (args : Array Value) (below : List Frame) (meth : Method) (c : Code) (D : va_G) (cI cL cZ : ClassId) (A : Nat → Prop) (O : Int32 → va_W → Prop) (mc ms : Nat) (ws : va_W) (kc ks pc : Nat) (lv : List (Nat × Value)) (st : List Value) : Prop := aj p l e { frames := 0, cells := mc, slots := ms, locals := 0 } s m args below meth c (MQ below (qI D clss (ty3 cI cL cZ) O A) args s mc ms A) D clss A 2 ws kc ks pc lv st
def O_Tra_causeOf (cI cL cZ : ClassId) (o_Tra o_Tal a_Tra_0 a_Tra_1 a_Tra_2 a_Tra_3 : Nat) (v_Tra : T_Tra) (out : Int32) : Int32 → va_W → Prop := fun r w1 => out = r ∧ w1 = w_Tra cI cL cZ o_Tra o_Tal a_Tra_0 a_Tra_1 a_Tra_2 a_Tra_3 v_Tra
def m_Tra_causeOf (v_Tra : T_Tra) (x1 : Int32) : Option (Int32) := (if ¬ (x1 < 0 ∨ v_Tra.2.2.2.2.2.1 ≤ (x1).toNatClampNeg) then (some (v_Tra.2.2.2.2.2.2 (x1).toNatClampNeg)) else none)
set_option maxRecDepth 100000 in
set_option maxHeartbeats 4000000 in
theorem c_Tra_causeOf {l : Launch} {D : va_G} {cI cL cZ : ClassId} (o_Tra o_Tal a_Tra_0 a_Tra_1 a_Tra_2 a_Tra_3 : Nat) (v_Tra : T_Tra) (x1 : Int32) (out : Int32) (hm : m_Tra_causeOf v_Tra x1 = some out) : ct l y_Tra_causeOf (Cond.code y_Tra_causeOf b_Tra_causeOf 2 (some .int) :: TB) 0 0 D clss (ty3 cI cL cZ) NM0 NF0 [.ref o_Tra, .int x1] (w_Tra cI cL cZ o_Tra o_Tal a_Tra_0 a_Tra_1 a_Tra_2 a_Tra_3 v_Tra) (qI D clss (ty3 cI cL cZ) (O_Tra_causeOf cI cL cZ o_Tra o_Tal a_Tra_0 a_Tra_1 a_Tra_2 a_Tra_3 v_Tra out)) 0 0 := by
  refine ct_of (plainFor_of_name (by decide)) (Nat.le_of_ble_eq_true rfl) (fun p e s m args below meth c A X N hr hlk hnm => ?_)
  refine aj_lv (lv' := [(0, .ref o_Tra), (1, .int x1)]) [0, 1] rfl ?_
  unfold m_Tra_causeOf at hm
  refine aj_aload_n X d_Tra_causeOf_0 0 rfl ?_
  refine aj_get X d_Tra_causeOf_1 in_Tra 0 rfl rfl 6 (by decide) lf_Tra_32 rfl ?_
  refine aj_iload_n X d_Tra_causeOf_4 1 rfl ?_
  obtain ⟨b1, hm⟩ := chk_of hm
  refine aj_iald X d_Tra_causeOf_5 4 0 rfl rfl b1 ?_
  have ho := Option.some.inj hm
  subst ho
  exact aj_iret X d_Tra_causeOf_6 hr hlk [0, 1, 2, 3, 4] (w_Tra cI cL cZ o_Tra o_Tal a_Tra_0 a_Tra_1 a_Tra_2 a_Tra_3 v_Tra) rfl rfl ⟨rfl, rfl⟩
