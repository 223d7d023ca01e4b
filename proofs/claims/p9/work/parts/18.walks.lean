abbrev X_Mod_holds (p : Program) (s : State) (m : MethodId) (args : Array Value) (c : Code) (D : va_G) (cI cL cZ : ClassId) (A : Nat → Prop) : Prop := aj_C p s m args c D clss (ty3 cI cL cZ) A b_Mod_holds 2 R_Mod TB
abbrev J_Mod_holds (p : Program) (l : Launch) (e : Env) (s : State) (m : MethodId) (args : Array Value) (below : List Frame) (meth : Method) (c : Code) (D : va_G) (cI cL cZ : ClassId) (A : Nat → Prop) (O : Int32 → va_W → Prop) (mc ms : Nat) (ws : va_W) (kc ks pc : Nat) (lv : List (Nat × Value)) (st : List Value) : Prop := aj p l e { frames := 0, cells := mc, slots := ms, locals := 0 } s m args below meth c (MQ below (qI D clss (ty3 cI cL cZ) O A) args s mc ms A) D clss A 2 ws kc ks pc lv st
def O_Mod_holds (cI cL cZ : ClassId) (o_Mod a_Mod_0 a_Mod_1 a_Mod_2 a_Mod_3 a_Mod_4 a_Mod_5 a_Mod_6 a_Mod_7 a_Mod_8 a_Mod_9 a_Mod_10 a_Mod_11 a_Mod_12 a_Mod_13 a_Mod_14 : Nat) (v_Mod : T_Mod) (out : Int32) : Int32 → va_W → Prop := fun r w1 => out = r ∧ w1 = w_Mod cI cL cZ o_Mod a_Mod_0 a_Mod_1 a_Mod_2 a_Mod_3 a_Mod_4 a_Mod_5 a_Mod_6 a_Mod_7 a_Mod_8 a_Mod_9 a_Mod_10 a_Mod_11 a_Mod_12 a_Mod_13 a_Mod_14 v_Mod
def m_Mod_holds (v_Mod : T_Mod) (x1 : Int32) : Option (Int32) := (if ¬ ((x1 / (2 : Int32)) < 0 ∨ v_Mod.2.2.2.2.2.2.2.2.2.2.2.2.2.2.2.2.2.2.1.1 ≤ ((x1 / (2 : Int32))).toNatClampNeg) then (if (v_Mod.2.2.2.2.2.2.2.2.2.2.2.2.2.2.2.2.2.2.1.2 ((x1 / (2 : Int32))).toNatClampNeg) = ((x1 - x1 / (2 : Int32) * (2 : Int32)) + (1 : Int32)) then (some (1 : Int32)) else (some (0 : Int32))) else none)
set_option maxRecDepth 100000 in
set_option maxHeartbeats 4000000 in
theorem c_Mod_holds {l : Launch} {D : va_G} {cI cL cZ : ClassId} (o_Mod a_Mod_0 a_Mod_1 a_Mod_2 a_Mod_3 a_Mod_4 a_Mod_5 a_Mod_6 a_Mod_7 a_Mod_8 a_Mod_9 a_Mod_10 a_Mod_11 a_Mod_12 a_Mod_13 a_Mod_14 : Nat) (v_Mod : T_Mod) (x1 : Int32) (out : Int32) (hm : m_Mod_holds v_Mod x1 = some out) : ct l y_Mod_holds (Cond.code y_Mod_holds b_Mod_holds 2 (some .boolean) :: TB) 0 0 D clss (ty3 cI cL cZ) NM0 NF0 [.ref o_Mod, .int x1] (w_Mod cI cL cZ o_Mod a_Mod_0 a_Mod_1 a_Mod_2 a_Mod_3 a_Mod_4 a_Mod_5 a_Mod_6 a_Mod_7 a_Mod_8 a_Mod_9 a_Mod_10 a_Mod_11 a_Mod_12 a_Mod_13 a_Mod_14 v_Mod) (qI D clss (ty3 cI cL cZ) (O_Mod_holds cI cL cZ o_Mod a_Mod_0 a_Mod_1 a_Mod_2 a_Mod_3 a_Mod_4 a_Mod_5 a_Mod_6 a_Mod_7 a_Mod_8 a_Mod_9 a_Mod_10 a_Mod_11 a_Mod_12 a_Mod_13 a_Mod_14 v_Mod out)) 0 0 := by
  refine ct_of (plainFor_of_name (by decide)) (Nat.le_of_ble_eq_true rfl) (fun p e s m args below meth c A X N hr hlk hnm => ?_)
  refine aj_lv (lv' := [(0, .ref o_Mod), (1, .int x1)]) [0, 1] rfl ?_
  unfold m_Mod_holds at hm
  refine aj_aload_n X d_Mod_holds_0 0 rfl ?_
  refine aj_get X d_Mod_holds_1 in_Mod 0 rfl rfl 18 (by decide) lf_Mod_67 rfl ?_
  refine aj_iload_n X d_Mod_holds_4 1 rfl ?_
  refine aj_iconst (v := (2 : Int32)) X d_Mod_holds_5 (by decide) ?_
  refine aj_idiv X d_Mod_holds_6 (by decide) ?_
  obtain ⟨b1, hm⟩ := chk_of hm
  refine aj_iald X d_Mod_holds_7 11 0 rfl rfl b1 ?_
  refine aj_iload_n X d_Mod_holds_8 1 rfl ?_
  refine aj_iconst (v := (2 : Int32)) X d_Mod_holds_9 (by decide) ?_
  refine aj_irem X d_Mod_holds_10 (by decide) ?_
  refine aj_iconst (v := (1 : Int32)) X d_Mod_holds_11 (by decide) ?_
  refine aj_iadd X d_Mod_holds_12 ?_
  refine aj_icmp_ne X 20 d_Mod_holds_13 (by decide) (fun h => ?_) (fun h => ?_)
  · have hm := ite_f hm h
    refine aj_iconst (v := (0 : Int32)) X d_Mod_holds_20 (by decide) ?_
    have ho := Option.some.inj hm
    subst ho
    exact aj_zret X d_Mod_holds_21 hr hlk (by decide) [0, 1, 2, 3, 4, 5, 6, 7, 8, 9, 10, 11, 12, 13, 14, 15] (w_Mod cI cL cZ o_Mod a_Mod_0 a_Mod_1 a_Mod_2 a_Mod_3 a_Mod_4 a_Mod_5 a_Mod_6 a_Mod_7 a_Mod_8 a_Mod_9 a_Mod_10 a_Mod_11 a_Mod_12 a_Mod_13 a_Mod_14 v_Mod) rfl rfl ⟨rfl, rfl⟩
  · have hm := ite_t hm h
    refine aj_iconst (v := (1 : Int32)) X d_Mod_holds_16 (by decide) ?_
    refine aj_goto X 21 d_Mod_holds_17 (by decide) ?_
    have ho := Option.some.inj hm
    subst ho
    exact aj_zret X d_Mod_holds_21 hr hlk (by decide) [0, 1, 2, 3, 4, 5, 6, 7, 8, 9, 10, 11, 12, 13, 14, 15] (w_Mod cI cL cZ o_Mod a_Mod_0 a_Mod_1 a_Mod_2 a_Mod_3 a_Mod_4 a_Mod_5 a_Mod_6 a_Mod_7 a_Mod_8 a_Mod_9 a_Mod_10 a_Mod_11 a_Mod_12 a_Mod_13 a_Mod_14 v_Mod) rfl rfl ⟨rfl, rfl⟩
abbrev X_Mod_against (p : Program) (s : State) (m : MethodId) (args : Array Value) (c : Code) (D : va_G) (cI cL cZ : ClassId) (A : Nat → Prop) : Prop := aj_C p s m args c D clss (ty3 cI cL cZ) A b_Mod_against 2 R_Mod TB
abbrev J_Mod_against (p : Program) (l : Launch) (e : Env) (s : State) (m : MethodId) (args : Array Value) (below : List Frame) (meth : Method) (c : Code) (D : va_G) (cI cL cZ : ClassId) (A : Nat → Prop) (O : Int32 → va_W → Prop) (mc ms : Nat) (ws : va_W) (kc ks pc : Nat) (lv : List (Nat × Value)) (st : List Value) : Prop := aj p l e { frames := 0, cells := mc, slots := ms, locals := 0 } s m args below meth c (MQ below (qI D clss (ty3 cI cL cZ) O A) args s mc ms A) D clss A 2 ws kc ks pc lv st
def O_Mod_against (cI cL cZ : ClassId) (o_Mod a_Mod_0 a_Mod_1 a_Mod_2 a_Mod_3 a_Mod_4 a_Mod_5 a_Mod_6 a_Mod_7 a_Mod_8 a_Mod_9 a_Mod_10 a_Mod_11 a_Mod_12 a_Mod_13 a_Mod_14 : Nat) (v_Mod : T_Mod) (out : Int32) : Int32 → va_W → Prop := fun r w1 => out = r ∧ w1 = w_Mod cI cL cZ o_Mod a_Mod_0 a_Mod_1 a_Mod_2 a_Mod_3 a_Mod_4 a_Mod_5 a_Mod_6 a_Mod_7 a_Mod_8 a_Mod_9 a_Mod_10 a_Mod_11 a_Mod_12 a_Mod_13 a_Mod_14 v_Mod
def m_Mod_against (v_Mod : T_Mod) (x1 : Int32) : Option (Int32) := (if ¬ ((x1 / (2 : Int32)) < 0 ∨ v_Mod.2.2.2.2.2.2.2.2.2.2.2.2.2.2.2.2.2.2.1.1 ≤ ((x1 / (2 : Int32))).toNatClampNeg) then (if (v_Mod.2.2.2.2.2.2.2.2.2.2.2.2.2.2.2.2.2.2.1.2 ((x1 / (2 : Int32))).toNatClampNeg) = ((2 : Int32) - (x1 - x1 / (2 : Int32) * (2 : Int32))) then (some (1 : Int32)) else (some (0 : Int32))) else none)
set_option maxRecDepth 100000 in
set_option maxHeartbeats 4000000 in
theorem c_Mod_against {l : Launch} {D : va_G} {cI cL cZ : ClassId} (o_Mod a_Mod_0 a_Mod_1 a_Mod_2 a_Mod_3 a_Mod_4 a_Mod_5 a_Mod_6 a_Mod_7 a_Mod_8 a_Mod_9 a_Mod_10 a_Mod_11 a_Mod_12 a_Mod_13 a_Mod_14 : Nat) (v_Mod : T_Mod) (x1 : Int32) (out : Int32) (hm : m_Mod_against v_Mod x1 = some out) : ct l y_Mod_against (Cond.code y_Mod_against b_Mod_against 2 (some .boolean) :: TB) 0 0 D clss (ty3 cI cL cZ) NM0 NF0 [.ref o_Mod, .int x1] (w_Mod cI cL cZ o_Mod a_Mod_0 a_Mod_1 a_Mod_2 a_Mod_3 a_Mod_4 a_Mod_5 a_Mod_6 a_Mod_7 a_Mod_8 a_Mod_9 a_Mod_10 a_Mod_11 a_Mod_12 a_Mod_13 a_Mod_14 v_Mod) (qI D clss (ty3 cI cL cZ) (O_Mod_against cI cL cZ o_Mod a_Mod_0 a_Mod_1 a_Mod_2 a_Mod_3 a_Mod_4 a_Mod_5 a_Mod_6 a_Mod_7 a_Mod_8 a_Mod_9 a_Mod_10 a_Mod_11 a_Mod_12 a_Mod_13 a_Mod_14 v_Mod out)) 0 0 := by
  refine ct_of (plainFor_of_name (by decide)) (Nat.le_of_ble_eq_true rfl) (fun p e s m args below meth c A X N hr hlk hnm => ?_)
  refine aj_lv (lv' := [(0, .ref o_Mod), (1, .int x1)]) [0, 1] rfl ?_
  unfold m_Mod_against at hm
  refine aj_aload_n X d_Mod_against_0 0 rfl ?_
  refine aj_get X d_Mod_against_1 in_Mod 0 rfl rfl 18 (by decide) lf_Mod_67 rfl ?_
  refine aj_iload_n X d_Mod_against_4 1 rfl ?_
  refine aj_iconst (v := (2 : Int32)) X d_Mod_against_5 (by decide) ?_
  refine aj_idiv X d_Mod_against_6 (by decide) ?_
  obtain ⟨b1, hm⟩ := chk_of hm
  refine aj_iald X d_Mod_against_7 11 0 rfl rfl b1 ?_
  refine aj_iconst (v := (2 : Int32)) X d_Mod_against_8 (by decide) ?_
  refine aj_iload_n X d_Mod_against_9 1 rfl ?_
  refine aj_iconst (v := (2 : Int32)) X d_Mod_against_10 (by decide) ?_
  refine aj_irem X d_Mod_against_11 (by decide) ?_
  refine aj_isub X d_Mod_against_12 ?_
  refine aj_icmp_ne X 20 d_Mod_against_13 (by decide) (fun h => ?_) (fun h => ?_)
  · have hm := ite_f hm h
    refine aj_iconst (v := (0 : Int32)) X d_Mod_against_20 (by decide) ?_
    have ho := Option.some.inj hm
    subst ho
    exact aj_zret X d_Mod_against_21 hr hlk (by decide) [0, 1, 2, 3, 4, 5, 6, 7, 8, 9, 10, 11, 12, 13, 14, 15] (w_Mod cI cL cZ o_Mod a_Mod_0 a_Mod_1 a_Mod_2 a_Mod_3 a_Mod_4 a_Mod_5 a_Mod_6 a_Mod_7 a_Mod_8 a_Mod_9 a_Mod_10 a_Mod_11 a_Mod_12 a_Mod_13 a_Mod_14 v_Mod) rfl rfl ⟨rfl, rfl⟩
  · have hm := ite_t hm h
    refine aj_iconst (v := (1 : Int32)) X d_Mod_against_16 (by decide) ?_
    refine aj_goto X 21 d_Mod_against_17 (by decide) ?_
    have ho := Option.some.inj hm
    subst ho
    exact aj_zret X d_Mod_against_21 hr hlk (by decide) [0, 1, 2, 3, 4, 5, 6, 7, 8, 9, 10, 11, 12, 13, 14, 15] (w_Mod cI cL cZ o_Mod a_Mod_0 a_Mod_1 a_Mod_2 a_Mod_3 a_Mod_4 a_Mod_5 a_Mod_6 a_Mod_7 a_Mod_8 a_Mod_9 a_Mod_10 a_Mod_11 a_Mod_12 a_Mod_13 a_Mod_14 v_Mod) rfl rfl ⟨rfl, rfl⟩
abbrev X_Mod_room (p : Program) (s : State) (m : MethodId) (args : Array Value) (c : Code) (D : va_G) (cI cL cZ : ClassId) (A : Nat → Prop) : Prop := aj_C p s m args c D clss (ty3 cI cL cZ) A b_Mod_room 3 R_Mod TB
abbrev J_Mod_room (p : Program) (l : Launch) (e : Env) (s : State) (m : MethodId) (args : Array Value) (below : List Frame) (meth : Method) (c : Code) (D : va_G) (cI cL cZ : ClassId) (A : Nat → Prop) (O : Int32 → va_W → Prop) (mc ms : Nat) (ws : va_W) (kc ks pc : Nat) (lv : List (Nat × Value)) (st : List Value) : Prop := aj p l e { frames := 0, cells := mc, slots := ms, locals := 0 } s m args below meth c (MQ below (qI D clss (ty3 cI cL cZ) O A) args s mc ms A) D clss A 3 ws kc ks pc lv st
def O_Mod_room (cI cL cZ : ClassId) (o_Mod a_Mod_0 a_Mod_1 a_Mod_2 a_Mod_3 a_Mod_4 a_Mod_5 a_Mod_6 a_Mod_7 a_Mod_8 a_Mod_9 a_Mod_10 a_Mod_11 a_Mod_12 a_Mod_13 a_Mod_14 : Nat) (v_Mod : T_Mod) (out : Int32) : Int32 → va_W → Prop := fun r w1 => out = r ∧ w1 = w_Mod cI cL cZ o_Mod a_Mod_0 a_Mod_1 a_Mod_2 a_Mod_3 a_Mod_4 a_Mod_5 a_Mod_6 a_Mod_7 a_Mod_8 a_Mod_9 a_Mod_10 a_Mod_11 a_Mod_12 a_Mod_13 a_Mod_14 v_Mod
def m_Mod_room (v_Mod : T_Mod) (x1 : Int32) (x2 : Int32) : Option (Int32) := (if (1500 : Int32) < (v_Mod.2.2.2.2.2.1 + x1) then (some (0 : Int32)) else (if ¬ (v_Mod.2.2.2.2.2.1 < 0 ∨ v_Mod.2.2.2.1.1 ≤ (v_Mod.2.2.2.2.2.1).toNatClampNeg) then (if (20000 : Int32) < ((v_Mod.2.2.2.1.2 (v_Mod.2.2.2.2.2.1).toNatClampNeg) + x2) then (some (0 : Int32)) else (some (1 : Int32))) else none))
set_option maxRecDepth 100000 in
set_option maxHeartbeats 4000000 in
theorem c_Mod_room {l : Launch} {D : va_G} {cI cL cZ : ClassId} (o_Mod a_Mod_0 a_Mod_1 a_Mod_2 a_Mod_3 a_Mod_4 a_Mod_5 a_Mod_6 a_Mod_7 a_Mod_8 a_Mod_9 a_Mod_10 a_Mod_11 a_Mod_12 a_Mod_13 a_Mod_14 : Nat) (v_Mod : T_Mod) (x1 : Int32) (x2 : Int32) (out : Int32) (hm : m_Mod_room v_Mod x1 x2 = some out) : ct l y_Mod_room (Cond.code y_Mod_room b_Mod_room 3 (some .boolean) :: TB) 0 0 D clss (ty3 cI cL cZ) NM0 NF0 [.ref o_Mod, .int x1, .int x2] (w_Mod cI cL cZ o_Mod a_Mod_0 a_Mod_1 a_Mod_2 a_Mod_3 a_Mod_4 a_Mod_5 a_Mod_6 a_Mod_7 a_Mod_8 a_Mod_9 a_Mod_10 a_Mod_11 a_Mod_12 a_Mod_13 a_Mod_14 v_Mod) (qI D clss (ty3 cI cL cZ) (O_Mod_room cI cL cZ o_Mod a_Mod_0 a_Mod_1 a_Mod_2 a_Mod_3 a_Mod_4 a_Mod_5 a_Mod_6 a_Mod_7 a_Mod_8 a_Mod_9 a_Mod_10 a_Mod_11 a_Mod_12 a_Mod_13 a_Mod_14 v_Mod out)) 0 0 := by
  refine ct_of (plainFor_of_name (by decide)) (Nat.le_of_ble_eq_true rfl) (fun p e s m args below meth c A X N hr hlk hnm => ?_)
  refine aj_lv (lv' := [(0, .ref o_Mod), (1, .int x1), (2, .int x2)]) [0, 1, 2] rfl ?_
  unfold m_Mod_room at hm
  refine aj_aload_n X d_Mod_room_0 0 rfl ?_
  refine aj_get X d_Mod_room_1 in_Mod 0 rfl rfl 5 (by decide) lf_Mod_27 rfl ?_
  refine aj_iload_n X d_Mod_room_4 1 rfl ?_
  refine aj_iadd X d_Mod_room_5 ?_
  refine aj_sipush (v := (1500 : Int32)) X d_Mod_room_6 (by decide) ?_
  refine aj_icmp_gt X 33 d_Mod_room_9 (by decide) (fun h => ?_) (fun h => ?_)
  · have hm := ite_t hm h
    refine aj_iconst (v := (0 : Int32)) X d_Mod_room_33 (by decide) ?_
    have ho := Option.some.inj hm
    subst ho
    exact aj_zret X d_Mod_room_34 hr hlk (by decide) [0, 1, 2, 3, 4, 5, 6, 7, 8, 9, 10, 11, 12, 13, 14, 15] (w_Mod cI cL cZ o_Mod a_Mod_0 a_Mod_1 a_Mod_2 a_Mod_3 a_Mod_4 a_Mod_5 a_Mod_6 a_Mod_7 a_Mod_8 a_Mod_9 a_Mod_10 a_Mod_11 a_Mod_12 a_Mod_13 a_Mod_14 v_Mod) rfl rfl ⟨rfl, rfl⟩
  · have hm := ite_f hm h
    refine aj_aload_n X d_Mod_room_12 0 rfl ?_
    refine aj_get X d_Mod_room_13 in_Mod 0 rfl rfl 3 (by decide) lf_Mod_20 rfl ?_
    refine aj_aload_n X d_Mod_room_16 0 rfl ?_
    refine aj_get X d_Mod_room_17 in_Mod 0 rfl rfl 5 (by decide) lf_Mod_27 rfl ?_
    obtain ⟨b1, hm⟩ := chk_of hm
    refine aj_iald X d_Mod_room_20 2 0 rfl rfl b1 ?_
    refine aj_iload_n X d_Mod_room_21 2 rfl ?_
    refine aj_iadd X d_Mod_room_22 ?_
    refine aj_sipush (v := (20000 : Int32)) X d_Mod_room_23 (by decide) ?_
    refine aj_icmp_gt X 33 d_Mod_room_26 (by decide) (fun h => ?_) (fun h => ?_)
    · have hm := ite_t hm h
      refine aj_iconst (v := (0 : Int32)) X d_Mod_room_33 (by decide) ?_
      have ho := Option.some.inj hm
      subst ho
      exact aj_zret X d_Mod_room_34 hr hlk (by decide) [0, 1, 2, 3, 4, 5, 6, 7, 8, 9, 10, 11, 12, 13, 14, 15] (w_Mod cI cL cZ o_Mod a_Mod_0 a_Mod_1 a_Mod_2 a_Mod_3 a_Mod_4 a_Mod_5 a_Mod_6 a_Mod_7 a_Mod_8 a_Mod_9 a_Mod_10 a_Mod_11 a_Mod_12 a_Mod_13 a_Mod_14 v_Mod) rfl rfl ⟨rfl, rfl⟩
    · have hm := ite_f hm h
      refine aj_iconst (v := (1 : Int32)) X d_Mod_room_29 (by decide) ?_
      refine aj_goto X 34 d_Mod_room_30 (by decide) ?_
      have ho := Option.some.inj hm
      subst ho
      exact aj_zret X d_Mod_room_34 hr hlk (by decide) [0, 1, 2, 3, 4, 5, 6, 7, 8, 9, 10, 11, 12, 13, 14, 15] (w_Mod cI cL cZ o_Mod a_Mod_0 a_Mod_1 a_Mod_2 a_Mod_3 a_Mod_4 a_Mod_5 a_Mod_6 a_Mod_7 a_Mod_8 a_Mod_9 a_Mod_10 a_Mod_11 a_Mod_12 a_Mod_13 a_Mod_14 v_Mod) rfl rfl ⟨rfl, rfl⟩
abbrev X_Mod_begin (p : Program) (s : State) (m : MethodId) (args : Array Value) (c : Code) (D : va_G) (cI cL cZ : ClassId) (A : Nat → Prop) : Prop := aj_C p s m args c D clss (ty3 cI cL cZ) A b_Mod_begin 2 R_Mod TB
abbrev J_Mod_begin (p : Program) (l : Launch) (e : Env) (s : State) (m : MethodId) (args : Array Value) (below : List Frame) (meth : Method) (c : Code) (D : va_G) (cI cL cZ : ClassId) (A : Nat → Prop) (O : va_W → Prop) (mc ms : Nat) (ws : va_W) (kc ks pc : Nat) (lv : List (Nat × Value)) (st : List Value) : Prop := aj p l e { frames := 0, cells := mc, slots := ms, locals := 0 } s m args below meth c (MQ below (qV D clss (ty3 cI cL cZ) O A) args s mc ms A) D clss A 2 ws kc ks pc lv st
def O_Mod_begin (cI cL cZ : ClassId) (o_Mod a_Mod_0 a_Mod_1 a_Mod_2 a_Mod_3 a_Mod_4 a_Mod_5 a_Mod_6 a_Mod_7 a_Mod_8 a_Mod_9 a_Mod_10 a_Mod_11 a_Mod_12 a_Mod_13 a_Mod_14 : Nat) (out : T_Mod) : va_W → Prop := fun w1 => w1 = w_Mod cI cL cZ o_Mod a_Mod_0 a_Mod_1 a_Mod_2 a_Mod_3 a_Mod_4 a_Mod_5 a_Mod_6 a_Mod_7 a_Mod_8 a_Mod_9 a_Mod_10 a_Mod_11 a_Mod_12 a_Mod_13 a_Mod_14 out
def m_Mod_begin (v_Mod : T_Mod) (x1 : Int32) : Option (T_Mod) := (if ¬ (v_Mod.2.2.2.2.2.1 < 0 ∨ v_Mod.2.2.2.2.1.1 ≤ (v_Mod.2.2.2.2.2.1).toNatClampNeg) then (if ¬ (((v_Mod.2.2.2.2.2.1 + (1 : Int32)) - (1 : Int32)) < 0 ∨ v_Mod.2.2.2.1.1 ≤ (((v_Mod.2.2.2.2.2.1 + (1 : Int32)) - (1 : Int32))).toNatClampNeg) then (if ¬ ((v_Mod.2.2.2.2.2.1 + (1 : Int32)) < 0 ∨ v_Mod.2.2.2.1.1 ≤ ((v_Mod.2.2.2.2.2.1 + (1 : Int32))).toNatClampNeg) then (some (v_Mod.1, v_Mod.2.1, v_Mod.2.2.1, (v_Mod.2.2.2.1.1, (upd v_Mod.2.2.2.1.2 ((v_Mod.2.2.2.2.2.1 + (1 : Int32))).toNatClampNeg (v_Mod.2.2.2.1.2 (((v_Mod.2.2.2.2.2.1 + (1 : Int32)) - (1 : Int32))).toNatClampNeg))), (v_Mod.2.2.2.2.1.1, (upd v_Mod.2.2.2.2.1.2 (v_Mod.2.2.2.2.2.1).toNatClampNeg (x1 &&& 1))), (v_Mod.2.2.2.2.2.1 + (1 : Int32)), v_Mod.2.2.2.2.2.2.1, v_Mod.2.2.2.2.2.2.2.1, v_Mod.2.2.2.2.2.2.2.2.1, v_Mod.2.2.2.2.2.2.2.2.2.1, v_Mod.2.2.2.2.2.2.2.2.2.2.1, v_Mod.2.2.2.2.2.2.2.2.2.2.2.1, v_Mod.2.2.2.2.2.2.2.2.2.2.2.2.1, v_Mod.2.2.2.2.2.2.2.2.2.2.2.2.2.1, v_Mod.2.2.2.2.2.2.2.2.2.2.2.2.2.2.1, v_Mod.2.2.2.2.2.2.2.2.2.2.2.2.2.2.2.1, v_Mod.2.2.2.2.2.2.2.2.2.2.2.2.2.2.2.2.1, v_Mod.2.2.2.2.2.2.2.2.2.2.2.2.2.2.2.2.2.1, v_Mod.2.2.2.2.2.2.2.2.2.2.2.2.2.2.2.2.2.2.1, v_Mod.2.2.2.2.2.2.2.2.2.2.2.2.2.2.2.2.2.2.2.1, v_Mod.2.2.2.2.2.2.2.2.2.2.2.2.2.2.2.2.2.2.2.2.1, v_Mod.2.2.2.2.2.2.2.2.2.2.2.2.2.2.2.2.2.2.2.2.2.1, v_Mod.2.2.2.2.2.2.2.2.2.2.2.2.2.2.2.2.2.2.2.2.2.2.1, v_Mod.2.2.2.2.2.2.2.2.2.2.2.2.2.2.2.2.2.2.2.2.2.2.2.1, v_Mod.2.2.2.2.2.2.2.2.2.2.2.2.2.2.2.2.2.2.2.2.2.2.2.2.1, v_Mod.2.2.2.2.2.2.2.2.2.2.2.2.2.2.2.2.2.2.2.2.2.2.2.2.2.1, v_Mod.2.2.2.2.2.2.2.2.2.2.2.2.2.2.2.2.2.2.2.2.2.2.2.2.2.2)) else none) else none) else none)
set_option maxRecDepth 100000 in
set_option maxHeartbeats 4000000 in
theorem c_Mod_begin {l : Launch} {D : va_G} {cI cL cZ : ClassId} (o_Mod a_Mod_0 a_Mod_1 a_Mod_2 a_Mod_3 a_Mod_4 a_Mod_5 a_Mod_6 a_Mod_7 a_Mod_8 a_Mod_9 a_Mod_10 a_Mod_11 a_Mod_12 a_Mod_13 a_Mod_14 : Nat) (v_Mod : T_Mod) (x1 : Int32) (out : T_Mod) (hm : m_Mod_begin v_Mod x1 = some out) : ct l y_Mod_begin (Cond.code y_Mod_begin b_Mod_begin 2 none :: TB) 0 0 D clss (ty3 cI cL cZ) NM0 NF0 [.ref o_Mod, .int x1] (w_Mod cI cL cZ o_Mod a_Mod_0 a_Mod_1 a_Mod_2 a_Mod_3 a_Mod_4 a_Mod_5 a_Mod_6 a_Mod_7 a_Mod_8 a_Mod_9 a_Mod_10 a_Mod_11 a_Mod_12 a_Mod_13 a_Mod_14 v_Mod) (qV D clss (ty3 cI cL cZ) (O_Mod_begin cI cL cZ o_Mod a_Mod_0 a_Mod_1 a_Mod_2 a_Mod_3 a_Mod_4 a_Mod_5 a_Mod_6 a_Mod_7 a_Mod_8 a_Mod_9 a_Mod_10 a_Mod_11 a_Mod_12 a_Mod_13 a_Mod_14 out)) 0 0 := by
  refine ct_of (plainFor_of_name (by decide)) (Nat.le_of_ble_eq_true rfl) (fun p e s m args below meth c A X N hr hlk hnm => ?_)
  refine aj_lv (lv' := [(0, .ref o_Mod), (1, .int x1)]) [0, 1] rfl ?_
  unfold m_Mod_begin at hm
  refine aj_aload_n X d_Mod_begin_0 0 rfl ?_
  refine aj_get X d_Mod_begin_1 in_Mod 0 rfl rfl 4 (by decide) lf_Mod_23 rfl ?_
  refine aj_aload_n X d_Mod_begin_4 0 rfl ?_
  refine aj_get X d_Mod_begin_5 in_Mod 0 rfl rfl 5 (by decide) lf_Mod_27 rfl ?_
  refine aj_iload_n X d_Mod_begin_8 1 rfl ?_
  obtain ⟨b1, hm⟩ := chk_of hm
  refine aj_zast (ws' := w_Mod cI cL cZ o_Mod a_Mod_0 a_Mod_1 a_Mod_2 a_Mod_3 a_Mod_4 a_Mod_5 a_Mod_6 a_Mod_7 a_Mod_8 a_Mod_9 a_Mod_10 a_Mod_11 a_Mod_12 a_Mod_13 a_Mod_14 (v_Mod.1, v_Mod.2.1, v_Mod.2.2.1, v_Mod.2.2.2.1, (v_Mod.2.2.2.2.1.1, (upd v_Mod.2.2.2.2.1.2 (v_Mod.2.2.2.2.2.1).toNatClampNeg (x1 &&& 1))), v_Mod.2.2.2.2.2.1, v_Mod.2.2.2.2.2.2.1, v_Mod.2.2.2.2.2.2.2.1, v_Mod.2.2.2.2.2.2.2.2.1, v_Mod.2.2.2.2.2.2.2.2.2.1, v_Mod.2.2.2.2.2.2.2.2.2.2.1, v_Mod.2.2.2.2.2.2.2.2.2.2.2.1, v_Mod.2.2.2.2.2.2.2.2.2.2.2.2.1, v_Mod.2.2.2.2.2.2.2.2.2.2.2.2.2.1, v_Mod.2.2.2.2.2.2.2.2.2.2.2.2.2.2.1, v_Mod.2.2.2.2.2.2.2.2.2.2.2.2.2.2.2.1, v_Mod.2.2.2.2.2.2.2.2.2.2.2.2.2.2.2.2.1, v_Mod.2.2.2.2.2.2.2.2.2.2.2.2.2.2.2.2.2.1, v_Mod.2.2.2.2.2.2.2.2.2.2.2.2.2.2.2.2.2.2.1, v_Mod.2.2.2.2.2.2.2.2.2.2.2.2.2.2.2.2.2.2.2.1, v_Mod.2.2.2.2.2.2.2.2.2.2.2.2.2.2.2.2.2.2.2.2.1, v_Mod.2.2.2.2.2.2.2.2.2.2.2.2.2.2.2.2.2.2.2.2.2.1, v_Mod.2.2.2.2.2.2.2.2.2.2.2.2.2.2.2.2.2.2.2.2.2.2.1, v_Mod.2.2.2.2.2.2.2.2.2.2.2.2.2.2.2.2.2.2.2.2.2.2.2.1, v_Mod.2.2.2.2.2.2.2.2.2.2.2.2.2.2.2.2.2.2.2.2.2.2.2.2.1, v_Mod.2.2.2.2.2.2.2.2.2.2.2.2.2.2.2.2.2.2.2.2.2.2.2.2.2.1, v_Mod.2.2.2.2.2.2.2.2.2.2.2.2.2.2.2.2.2.2.2.2.2.2.2.2.2.2)) X d_Mod_begin_9 3 2 rfl rfl b1 rfl ?_
  refine aj_aload_n X d_Mod_begin_10 0 rfl ?_
  refine aj_dup X d_Mod_begin_11 rfl ?_
  refine aj_get X d_Mod_begin_12 in_Mod 0 rfl rfl 5 (by decide) lf_Mod_27 rfl ?_
  refine aj_iconst (v := (1 : Int32)) X d_Mod_begin_15 (by decide) ?_
  refine aj_iadd X d_Mod_begin_16 ?_
  refine aj_put (ws' := w_Mod cI cL cZ o_Mod a_Mod_0 a_Mod_1 a_Mod_2 a_Mod_3 a_Mod_4 a_Mod_5 a_Mod_6 a_Mod_7 a_Mod_8 a_Mod_9 a_Mod_10 a_Mod_11 a_Mod_12 a_Mod_13 a_Mod_14 (v_Mod.1, v_Mod.2.1, v_Mod.2.2.1, v_Mod.2.2.2.1, (v_Mod.2.2.2.2.1.1, (upd v_Mod.2.2.2.2.1.2 (v_Mod.2.2.2.2.2.1).toNatClampNeg (x1 &&& 1))), (v_Mod.2.2.2.2.2.1 + (1 : Int32)), v_Mod.2.2.2.2.2.2.1, v_Mod.2.2.2.2.2.2.2.1, v_Mod.2.2.2.2.2.2.2.2.1, v_Mod.2.2.2.2.2.2.2.2.2.1, v_Mod.2.2.2.2.2.2.2.2.2.2.1, v_Mod.2.2.2.2.2.2.2.2.2.2.2.1, v_Mod.2.2.2.2.2.2.2.2.2.2.2.2.1, v_Mod.2.2.2.2.2.2.2.2.2.2.2.2.2.1, v_Mod.2.2.2.2.2.2.2.2.2.2.2.2.2.2.1, v_Mod.2.2.2.2.2.2.2.2.2.2.2.2.2.2.2.1, v_Mod.2.2.2.2.2.2.2.2.2.2.2.2.2.2.2.2.1, v_Mod.2.2.2.2.2.2.2.2.2.2.2.2.2.2.2.2.2.1, v_Mod.2.2.2.2.2.2.2.2.2.2.2.2.2.2.2.2.2.2.1, v_Mod.2.2.2.2.2.2.2.2.2.2.2.2.2.2.2.2.2.2.2.1, v_Mod.2.2.2.2.2.2.2.2.2.2.2.2.2.2.2.2.2.2.2.2.1, v_Mod.2.2.2.2.2.2.2.2.2.2.2.2.2.2.2.2.2.2.2.2.2.1, v_Mod.2.2.2.2.2.2.2.2.2.2.2.2.2.2.2.2.2.2.2.2.2.2.1, v_Mod.2.2.2.2.2.2.2.2.2.2.2.2.2.2.2.2.2.2.2.2.2.2.2.1, v_Mod.2.2.2.2.2.2.2.2.2.2.2.2.2.2.2.2.2.2.2.2.2.2.2.2.1, v_Mod.2.2.2.2.2.2.2.2.2.2.2.2.2.2.2.2.2.2.2.2.2.2.2.2.2.1, v_Mod.2.2.2.2.2.2.2.2.2.2.2.2.2.2.2.2.2.2.2.2.2.2.2.2.2.2)) X d_Mod_begin_17 in_Mod ty_Mod tyok_Mod nmx_Mod 0 rfl rfl 5 (by decide) lf_Mod_27 rfl rfl rfl (Nat.le_of_ble_eq_true rfl) rfl ?_
  refine aj_aload_n X d_Mod_begin_20 0 rfl ?_
  refine aj_get X d_Mod_begin_21 in_Mod 0 rfl rfl 3 (by decide) lf_Mod_20 rfl ?_
  refine aj_aload_n X d_Mod_begin_24 0 rfl ?_
  refine aj_get X d_Mod_begin_25 in_Mod 0 rfl rfl 5 (by decide) lf_Mod_27 rfl ?_
  refine aj_aload_n X d_Mod_begin_28 0 rfl ?_
  refine aj_get X d_Mod_begin_29 in_Mod 0 rfl rfl 3 (by decide) lf_Mod_20 rfl ?_
  refine aj_aload_n X d_Mod_begin_32 0 rfl ?_
  refine aj_get X d_Mod_begin_33 in_Mod 0 rfl rfl 5 (by decide) lf_Mod_27 rfl ?_
  refine aj_iconst (v := (1 : Int32)) X d_Mod_begin_36 (by decide) ?_
  refine aj_isub X d_Mod_begin_37 ?_
  obtain ⟨b2, hm⟩ := chk_of hm
  refine aj_iald X d_Mod_begin_38 2 0 rfl rfl b2 ?_
  obtain ⟨b3, hm⟩ := chk_of hm
  refine aj_iast (ws' := w_Mod cI cL cZ o_Mod a_Mod_0 a_Mod_1 a_Mod_2 a_Mod_3 a_Mod_4 a_Mod_5 a_Mod_6 a_Mod_7 a_Mod_8 a_Mod_9 a_Mod_10 a_Mod_11 a_Mod_12 a_Mod_13 a_Mod_14 (v_Mod.1, v_Mod.2.1, v_Mod.2.2.1, (v_Mod.2.2.2.1.1, (upd v_Mod.2.2.2.1.2 ((v_Mod.2.2.2.2.2.1 + (1 : Int32))).toNatClampNeg (v_Mod.2.2.2.1.2 (((v_Mod.2.2.2.2.2.1 + (1 : Int32)) - (1 : Int32))).toNatClampNeg))), (v_Mod.2.2.2.2.1.1, (upd v_Mod.2.2.2.2.1.2 (v_Mod.2.2.2.2.2.1).toNatClampNeg (x1 &&& 1))), (v_Mod.2.2.2.2.2.1 + (1 : Int32)), v_Mod.2.2.2.2.2.2.1, v_Mod.2.2.2.2.2.2.2.1, v_Mod.2.2.2.2.2.2.2.2.1, v_Mod.2.2.2.2.2.2.2.2.2.1, v_Mod.2.2.2.2.2.2.2.2.2.2.1, v_Mod.2.2.2.2.2.2.2.2.2.2.2.1, v_Mod.2.2.2.2.2.2.2.2.2.2.2.2.1, v_Mod.2.2.2.2.2.2.2.2.2.2.2.2.2.1, v_Mod.2.2.2.2.2.2.2.2.2.2.2.2.2.2.1, v_Mod.2.2.2.2.2.2.2.2.2.2.2.2.2.2.2.1, v_Mod.2.2.2.2.2.2.2.2.2.2.2.2.2.2.2.2.1, v_Mod.2.2.2.2.2.2.2.2.2.2.2.2.2.2.2.2.2.1, v_Mod.2.2.2.2.2.2.2.2.2.2.2.2.2.2.2.2.2.2.1, v_Mod.2.2.2.2.2.2.2.2.2.2.2.2.2.2.2.2.2.2.2.1, v_Mod.2.2.2.2.2.2.2.2.2.2.2.2.2.2.2.2.2.2.2.2.1, v_Mod.2.2.2.2.2.2.2.2.2.2.2.2.2.2.2.2.2.2.2.2.2.1, v_Mod.2.2.2.2.2.2.2.2.2.2.2.2.2.2.2.2.2.2.2.2.2.2.1, v_Mod.2.2.2.2.2.2.2.2.2.2.2.2.2.2.2.2.2.2.2.2.2.2.2.1, v_Mod.2.2.2.2.2.2.2.2.2.2.2.2.2.2.2.2.2.2.2.2.2.2.2.2.1, v_Mod.2.2.2.2.2.2.2.2.2.2.2.2.2.2.2.2.2.2.2.2.2.2.2.2.2.1, v_Mod.2.2.2.2.2.2.2.2.2.2.2.2.2.2.2.2.2.2.2.2.2.2.2.2.2.2)) X d_Mod_begin_39 2 0 rfl rfl b3 rfl ?_
  have ho := Option.some.inj hm
  subst ho
  exact aj_vret X d_Mod_begin_40 hr hlk [0, 1, 2, 3, 4, 5, 6, 7, 8, 9, 10, 11, 12, 13, 14, 15] (w_Mod cI cL cZ o_Mod a_Mod_0 a_Mod_1 a_Mod_2 a_Mod_3 a_Mod_4 a_Mod_5 a_Mod_6 a_Mod_7 a_Mod_8 a_Mod_9 a_Mod_10 a_Mod_11 a_Mod_12 a_Mod_13 a_Mod_14 (v_Mod.1, v_Mod.2.1, v_Mod.2.2.1, (v_Mod.2.2.2.1.1, (upd v_Mod.2.2.2.1.2 ((v_Mod.2.2.2.2.2.1 + (1 : Int32))).toNatClampNeg (v_Mod.2.2.2.1.2 (((v_Mod.2.2.2.2.2.1 + (1 : Int32)) - (1 : Int32))).toNatClampNeg))), (v_Mod.2.2.2.2.1.1, (upd v_Mod.2.2.2.2.1.2 (v_Mod.2.2.2.2.2.1).toNatClampNeg (x1 &&& 1))), (v_Mod.2.2.2.2.2.1 + (1 : Int32)), v_Mod.2.2.2.2.2.2.1, v_Mod.2.2.2.2.2.2.2.1, v_Mod.2.2.2.2.2.2.2.2.1, v_Mod.2.2.2.2.2.2.2.2.2.1, v_Mod.2.2.2.2.2.2.2.2.2.2.1, v_Mod.2.2.2.2.2.2.2.2.2.2.2.1, v_Mod.2.2.2.2.2.2.2.2.2.2.2.2.1, v_Mod.2.2.2.2.2.2.2.2.2.2.2.2.2.1, v_Mod.2.2.2.2.2.2.2.2.2.2.2.2.2.2.1, v_Mod.2.2.2.2.2.2.2.2.2.2.2.2.2.2.2.1, v_Mod.2.2.2.2.2.2.2.2.2.2.2.2.2.2.2.2.1, v_Mod.2.2.2.2.2.2.2.2.2.2.2.2.2.2.2.2.2.1, v_Mod.2.2.2.2.2.2.2.2.2.2.2.2.2.2.2.2.2.2.1, v_Mod.2.2.2.2.2.2.2.2.2.2.2.2.2.2.2.2.2.2.2.1, v_Mod.2.2.2.2.2.2.2.2.2.2.2.2.2.2.2.2.2.2.2.2.1, v_Mod.2.2.2.2.2.2.2.2.2.2.2.2.2.2.2.2.2.2.2.2.2.1, v_Mod.2.2.2.2.2.2.2.2.2.2.2.2.2.2.2.2.2.2.2.2.2.2.1, v_Mod.2.2.2.2.2.2.2.2.2.2.2.2.2.2.2.2.2.2.2.2.2.2.2.1, v_Mod.2.2.2.2.2.2.2.2.2.2.2.2.2.2.2.2.2.2.2.2.2.2.2.2.1, v_Mod.2.2.2.2.2.2.2.2.2.2.2.2.2.2.2.2.2.2.2.2.2.2.2.2.2.1, v_Mod.2.2.2.2.2.2.2.2.2.2.2.2.2.2.2.2.2.2.2.2.2.2.2.2.2.2)) rfl rfl rfl
abbrev X_Mod_put (p : Program) (s : State) (m : MethodId) (args : Array Value) (c : Code) (D : va_G) (cI cL cZ : ClassId) (A : Nat → Prop) : Prop := aj_C p s m args c D clss (ty3 cI cL cZ) A b_Mod_put 2 R_Mod TB
abbrev J_Mod_put (p : Program) (l : Launch) (e : Env) (s : State) (m : MethodId) (args : Array Value) (below : List Frame) (meth : Method) (c : Code) (D : va_G) (cI cL cZ : ClassId) (A : Nat → Prop) (O : va_W → Prop) (mc ms : Nat) (ws : va_W) (kc ks pc : Nat) (lv : List (Nat × Value)) (st : List Value) : Prop := aj p l e { frames := 0, cells := mc, slots := ms, locals := 0 } s m args below meth c (MQ below (qV D clss (ty3 cI cL cZ) O A) args s mc ms A) D clss A 2 ws kc ks pc lv st
def O_Mod_put (cI cL cZ : ClassId) (o_Mod a_Mod_0 a_Mod_1 a_Mod_2 a_Mod_3 a_Mod_4 a_Mod_5 a_Mod_6 a_Mod_7 a_Mod_8 a_Mod_9 a_Mod_10 a_Mod_11 a_Mod_12 a_Mod_13 a_Mod_14 : Nat) (out : T_Mod) : va_W → Prop := fun w1 => w1 = w_Mod cI cL cZ o_Mod a_Mod_0 a_Mod_1 a_Mod_2 a_Mod_3 a_Mod_4 a_Mod_5 a_Mod_6 a_Mod_7 a_Mod_8 a_Mod_9 a_Mod_10 a_Mod_11 a_Mod_12 a_Mod_13 a_Mod_14 out
def m_Mod_put (v_Mod : T_Mod) (x1 : Int32) : Option (T_Mod) := (if ¬ (v_Mod.2.2.2.2.2.1 < 0 ∨ v_Mod.2.2.2.1.1 ≤ (v_Mod.2.2.2.2.2.1).toNatClampNeg) then (if ¬ ((v_Mod.2.2.2.1.2 (v_Mod.2.2.2.2.2.1).toNatClampNeg) < 0 ∨ v_Mod.2.2.1.1 ≤ ((v_Mod.2.2.2.1.2 (v_Mod.2.2.2.2.2.1).toNatClampNeg)).toNatClampNeg) then (if ¬ (v_Mod.2.2.2.2.2.1 < 0 ∨ v_Mod.2.2.2.1.1 ≤ (v_Mod.2.2.2.2.2.1).toNatClampNeg) then (if ¬ (v_Mod.2.2.2.2.2.1 < 0 ∨ v_Mod.2.2.2.1.1 ≤ (v_Mod.2.2.2.2.2.1).toNatClampNeg) then (some (v_Mod.1, v_Mod.2.1, (v_Mod.2.2.1.1, (upd v_Mod.2.2.1.2 ((v_Mod.2.2.2.1.2 (v_Mod.2.2.2.2.2.1).toNatClampNeg)).toNatClampNeg x1)), (v_Mod.2.2.2.1.1, (upd v_Mod.2.2.2.1.2 (v_Mod.2.2.2.2.2.1).toNatClampNeg ((v_Mod.2.2.2.1.2 (v_Mod.2.2.2.2.2.1).toNatClampNeg) + (1 : Int32)))), v_Mod.2.2.2.2.1, v_Mod.2.2.2.2.2.1, v_Mod.2.2.2.2.2.2.1, v_Mod.2.2.2.2.2.2.2.1, v_Mod.2.2.2.2.2.2.2.2.1, v_Mod.2.2.2.2.2.2.2.2.2.1, v_Mod.2.2.2.2.2.2.2.2.2.2.1, v_Mod.2.2.2.2.2.2.2.2.2.2.2.1, v_Mod.2.2.2.2.2.2.2.2.2.2.2.2.1, v_Mod.2.2.2.2.2.2.2.2.2.2.2.2.2.1, v_Mod.2.2.2.2.2.2.2.2.2.2.2.2.2.2.1, v_Mod.2.2.2.2.2.2.2.2.2.2.2.2.2.2.2.1, v_Mod.2.2.2.2.2.2.2.2.2.2.2.2.2.2.2.2.1, v_Mod.2.2.2.2.2.2.2.2.2.2.2.2.2.2.2.2.2.1, v_Mod.2.2.2.2.2.2.2.2.2.2.2.2.2.2.2.2.2.2.1, v_Mod.2.2.2.2.2.2.2.2.2.2.2.2.2.2.2.2.2.2.2.1, v_Mod.2.2.2.2.2.2.2.2.2.2.2.2.2.2.2.2.2.2.2.2.1, v_Mod.2.2.2.2.2.2.2.2.2.2.2.2.2.2.2.2.2.2.2.2.2.1, v_Mod.2.2.2.2.2.2.2.2.2.2.2.2.2.2.2.2.2.2.2.2.2.2.1, v_Mod.2.2.2.2.2.2.2.2.2.2.2.2.2.2.2.2.2.2.2.2.2.2.2.1, v_Mod.2.2.2.2.2.2.2.2.2.2.2.2.2.2.2.2.2.2.2.2.2.2.2.2.1, v_Mod.2.2.2.2.2.2.2.2.2.2.2.2.2.2.2.2.2.2.2.2.2.2.2.2.2.1, v_Mod.2.2.2.2.2.2.2.2.2.2.2.2.2.2.2.2.2.2.2.2.2.2.2.2.2.2)) else none) else none) else none) else none)
set_option maxRecDepth 100000 in
set_option maxHeartbeats 4000000 in
theorem c_Mod_put {l : Launch} {D : va_G} {cI cL cZ : ClassId} (o_Mod a_Mod_0 a_Mod_1 a_Mod_2 a_Mod_3 a_Mod_4 a_Mod_5 a_Mod_6 a_Mod_7 a_Mod_8 a_Mod_9 a_Mod_10 a_Mod_11 a_Mod_12 a_Mod_13 a_Mod_14 : Nat) (v_Mod : T_Mod) (x1 : Int32) (out : T_Mod) (hm : m_Mod_put v_Mod x1 = some out) : ct l y_Mod_put (Cond.code y_Mod_put b_Mod_put 2 none :: TB) 0 0 D clss (ty3 cI cL cZ) NM0 NF0 [.ref o_Mod, .int x1] (w_Mod cI cL cZ o_Mod a_Mod_0 a_Mod_1 a_Mod_2 a_Mod_3 a_Mod_4 a_Mod_5 a_Mod_6 a_Mod_7 a_Mod_8 a_Mod_9 a_Mod_10 a_Mod_11 a_Mod_12 a_Mod_13 a_Mod_14 v_Mod) (qV D clss (ty3 cI cL cZ) (O_Mod_put cI cL cZ o_Mod a_Mod_0 a_Mod_1 a_Mod_2 a_Mod_3 a_Mod_4 a_Mod_5 a_Mod_6 a_Mod_7 a_Mod_8 a_Mod_9 a_Mod_10 a_Mod_11 a_Mod_12 a_Mod_13 a_Mod_14 out)) 0 0 := by
  refine ct_of (plainFor_of_name (by decide)) (Nat.le_of_ble_eq_true rfl) (fun p e s m args below meth c A X N hr hlk hnm => ?_)
  refine aj_lv (lv' := [(0, .ref o_Mod), (1, .int x1)]) [0, 1] rfl ?_
  unfold m_Mod_put at hm
  refine aj_aload_n X d_Mod_put_0 0 rfl ?_
  refine aj_get X d_Mod_put_1 in_Mod 0 rfl rfl 2 (by decide) lf_Mod_16 rfl ?_
  refine aj_aload_n X d_Mod_put_4 0 rfl ?_
  refine aj_get X d_Mod_put_5 in_Mod 0 rfl rfl 3 (by decide) lf_Mod_20 rfl ?_
  refine aj_aload_n X d_Mod_put_8 0 rfl ?_
  refine aj_get X d_Mod_put_9 in_Mod 0 rfl rfl 5 (by decide) lf_Mod_27 rfl ?_
  obtain ⟨b1, hm⟩ := chk_of hm
  refine aj_iald X d_Mod_put_12 2 0 rfl rfl b1 ?_
  refine aj_iload_n X d_Mod_put_13 1 rfl ?_
  obtain ⟨b2, hm⟩ := chk_of hm
  refine aj_iast (ws' := w_Mod cI cL cZ o_Mod a_Mod_0 a_Mod_1 a_Mod_2 a_Mod_3 a_Mod_4 a_Mod_5 a_Mod_6 a_Mod_7 a_Mod_8 a_Mod_9 a_Mod_10 a_Mod_11 a_Mod_12 a_Mod_13 a_Mod_14 (v_Mod.1, v_Mod.2.1, (v_Mod.2.2.1.1, (upd v_Mod.2.2.1.2 ((v_Mod.2.2.2.1.2 (v_Mod.2.2.2.2.2.1).toNatClampNeg)).toNatClampNeg x1)), v_Mod.2.2.2.1, v_Mod.2.2.2.2.1, v_Mod.2.2.2.2.2.1, v_Mod.2.2.2.2.2.2.1, v_Mod.2.2.2.2.2.2.2.1, v_Mod.2.2.2.2.2.2.2.2.1, v_Mod.2.2.2.2.2.2.2.2.2.1, v_Mod.2.2.2.2.2.2.2.2.2.2.1, v_Mod.2.2.2.2.2.2.2.2.2.2.2.1, v_Mod.2.2.2.2.2.2.2.2.2.2.2.2.1, v_Mod.2.2.2.2.2.2.2.2.2.2.2.2.2.1, v_Mod.2.2.2.2.2.2.2.2.2.2.2.2.2.2.1, v_Mod.2.2.2.2.2.2.2.2.2.2.2.2.2.2.2.1, v_Mod.2.2.2.2.2.2.2.2.2.2.2.2.2.2.2.2.1, v_Mod.2.2.2.2.2.2.2.2.2.2.2.2.2.2.2.2.2.1, v_Mod.2.2.2.2.2.2.2.2.2.2.2.2.2.2.2.2.2.2.1, v_Mod.2.2.2.2.2.2.2.2.2.2.2.2.2.2.2.2.2.2.2.1, v_Mod.2.2.2.2.2.2.2.2.2.2.2.2.2.2.2.2.2.2.2.2.1, v_Mod.2.2.2.2.2.2.2.2.2.2.2.2.2.2.2.2.2.2.2.2.2.1, v_Mod.2.2.2.2.2.2.2.2.2.2.2.2.2.2.2.2.2.2.2.2.2.2.1, v_Mod.2.2.2.2.2.2.2.2.2.2.2.2.2.2.2.2.2.2.2.2.2.2.2.1, v_Mod.2.2.2.2.2.2.2.2.2.2.2.2.2.2.2.2.2.2.2.2.2.2.2.2.1, v_Mod.2.2.2.2.2.2.2.2.2.2.2.2.2.2.2.2.2.2.2.2.2.2.2.2.2.1, v_Mod.2.2.2.2.2.2.2.2.2.2.2.2.2.2.2.2.2.2.2.2.2.2.2.2.2.2)) X d_Mod_put_14 1 0 rfl rfl b2 rfl ?_
  refine aj_aload_n X d_Mod_put_15 0 rfl ?_
  refine aj_get X d_Mod_put_16 in_Mod 0 rfl rfl 3 (by decide) lf_Mod_20 rfl ?_
  refine aj_aload_n X d_Mod_put_19 0 rfl ?_
  refine aj_get X d_Mod_put_20 in_Mod 0 rfl rfl 5 (by decide) lf_Mod_27 rfl ?_
  refine aj_aload_n X d_Mod_put_23 0 rfl ?_
  refine aj_get X d_Mod_put_24 in_Mod 0 rfl rfl 3 (by decide) lf_Mod_20 rfl ?_
  refine aj_aload_n X d_Mod_put_27 0 rfl ?_
  refine aj_get X d_Mod_put_28 in_Mod 0 rfl rfl 5 (by decide) lf_Mod_27 rfl ?_
  obtain ⟨b3, hm⟩ := chk_of hm
  refine aj_iald X d_Mod_put_31 2 0 rfl rfl b3 ?_
  refine aj_iconst (v := (1 : Int32)) X d_Mod_put_32 (by decide) ?_
  refine aj_iadd X d_Mod_put_33 ?_
  obtain ⟨b4, hm⟩ := chk_of hm
  refine aj_iast (ws' := w_Mod cI cL cZ o_Mod a_Mod_0 a_Mod_1 a_Mod_2 a_Mod_3 a_Mod_4 a_Mod_5 a_Mod_6 a_Mod_7 a_Mod_8 a_Mod_9 a_Mod_10 a_Mod_11 a_Mod_12 a_Mod_13 a_Mod_14 (v_Mod.1, v_Mod.2.1, (v_Mod.2.2.1.1, (upd v_Mod.2.2.1.2 ((v_Mod.2.2.2.1.2 (v_Mod.2.2.2.2.2.1).toNatClampNeg)).toNatClampNeg x1)), (v_Mod.2.2.2.1.1, (upd v_Mod.2.2.2.1.2 (v_Mod.2.2.2.2.2.1).toNatClampNeg ((v_Mod.2.2.2.1.2 (v_Mod.2.2.2.2.2.1).toNatClampNeg) + (1 : Int32)))), v_Mod.2.2.2.2.1, v_Mod.2.2.2.2.2.1, v_Mod.2.2.2.2.2.2.1, v_Mod.2.2.2.2.2.2.2.1, v_Mod.2.2.2.2.2.2.2.2.1, v_Mod.2.2.2.2.2.2.2.2.2.1, v_Mod.2.2.2.2.2.2.2.2.2.2.1, v_Mod.2.2.2.2.2.2.2.2.2.2.2.1, v_Mod.2.2.2.2.2.2.2.2.2.2.2.2.1, v_Mod.2.2.2.2.2.2.2.2.2.2.2.2.2.1, v_Mod.2.2.2.2.2.2.2.2.2.2.2.2.2.2.1, v_Mod.2.2.2.2.2.2.2.2.2.2.2.2.2.2.2.1, v_Mod.2.2.2.2.2.2.2.2.2.2.2.2.2.2.2.2.1, v_Mod.2.2.2.2.2.2.2.2.2.2.2.2.2.2.2.2.2.1, v_Mod.2.2.2.2.2.2.2.2.2.2.2.2.2.2.2.2.2.2.1, v_Mod.2.2.2.2.2.2.2.2.2.2.2.2.2.2.2.2.2.2.2.1, v_Mod.2.2.2.2.2.2.2.2.2.2.2.2.2.2.2.2.2.2.2.2.1, v_Mod.2.2.2.2.2.2.2.2.2.2.2.2.2.2.2.2.2.2.2.2.2.1, v_Mod.2.2.2.2.2.2.2.2.2.2.2.2.2.2.2.2.2.2.2.2.2.2.1, v_Mod.2.2.2.2.2.2.2.2.2.2.2.2.2.2.2.2.2.2.2.2.2.2.2.1, v_Mod.2.2.2.2.2.2.2.2.2.2.2.2.2.2.2.2.2.2.2.2.2.2.2.2.1, v_Mod.2.2.2.2.2.2.2.2.2.2.2.2.2.2.2.2.2.2.2.2.2.2.2.2.2.1, v_Mod.2.2.2.2.2.2.2.2.2.2.2.2.2.2.2.2.2.2.2.2.2.2.2.2.2.2)) X d_Mod_put_34 2 0 rfl rfl b4 rfl ?_
  have ho := Option.some.inj hm
  subst ho
  exact aj_vret X d_Mod_put_35 hr hlk [0, 1, 2, 3, 4, 5, 6, 7, 8, 9, 10, 11, 12, 13, 14, 15] (w_Mod cI cL cZ o_Mod a_Mod_0 a_Mod_1 a_Mod_2 a_Mod_3 a_Mod_4 a_Mod_5 a_Mod_6 a_Mod_7 a_Mod_8 a_Mod_9 a_Mod_10 a_Mod_11 a_Mod_12 a_Mod_13 a_Mod_14 (v_Mod.1, v_Mod.2.1, (v_Mod.2.2.1.1, (upd v_Mod.2.2.1.2 ((v_Mod.2.2.2.1.2 (v_Mod.2.2.2.2.2.1).toNatClampNeg)).toNatClampNeg x1)), (v_Mod.2.2.2.1.1, (upd v_Mod.2.2.2.1.2 (v_Mod.2.2.2.2.2.1).toNatClampNeg ((v_Mod.2.2.2.1.2 (v_Mod.2.2.2.2.2.1).toNatClampNeg) + (1 : Int32)))), v_Mod.2.2.2.2.1, v_Mod.2.2.2.2.2.1, v_Mod.2.2.2.2.2.2.1, v_Mod.2.2.2.2.2.2.2.1, v_Mod.2.2.2.2.2.2.2.2.1, v_Mod.2.2.2.2.2.2.2.2.2.1, v_Mod.2.2.2.2.2.2.2.2.2.2.1, v_Mod.2.2.2.2.2.2.2.2.2.2.2.1, v_Mod.2.2.2.2.2.2.2.2.2.2.2.2.1, v_Mod.2.2.2.2.2.2.2.2.2.2.2.2.2.1, v_Mod.2.2.2.2.2.2.2.2.2.2.2.2.2.2.1, v_Mod.2.2.2.2.2.2.2.2.2.2.2.2.2.2.2.1, v_Mod.2.2.2.2.2.2.2.2.2.2.2.2.2.2.2.2.1, v_Mod.2.2.2.2.2.2.2.2.2.2.2.2.2.2.2.2.2.1, v_Mod.2.2.2.2.2.2.2.2.2.2.2.2.2.2.2.2.2.2.1, v_Mod.2.2.2.2.2.2.2.2.2.2.2.2.2.2.2.2.2.2.2.1, v_Mod.2.2.2.2.2.2.2.2.2.2.2.2.2.2.2.2.2.2.2.2.1, v_Mod.2.2.2.2.2.2.2.2.2.2.2.2.2.2.2.2.2.2.2.2.2.1, v_Mod.2.2.2.2.2.2.2.2.2.2.2.2.2.2.2.2.2.2.2.2.2.2.1, v_Mod.2.2.2.2.2.2.2.2.2.2.2.2.2.2.2.2.2.2.2.2.2.2.2.1, v_Mod.2.2.2.2.2.2.2.2.2.2.2.2.2.2.2.2.2.2.2.2.2.2.2.2.1, v_Mod.2.2.2.2.2.2.2.2.2.2.2.2.2.2.2.2.2.2.2.2.2.2.2.2.2.1, v_Mod.2.2.2.2.2.2.2.2.2.2.2.2.2.2.2.2.2.2.2.2.2.2.2.2.2.2)) rfl rfl rfl
abbrev X_Mod_comes (p : Program) (s : State) (m : MethodId) (args : Array Value) (c : Code) (D : va_G) (cI cL cZ : ClassId) (A : Nat → Prop) : Prop := aj_C p s m args c D clss (ty3 cI cL cZ) A b_Mod_comes 5 R_Mod TB
abbrev J_Mod_comes (p : Program) (l : Launch) (e : Env) (s : State) (m : MethodId) (args : Array Value) (below : List Frame) (meth : Method) (c : Code) (D : va_G) (cI cL cZ : ClassId) (A : Nat → Prop) (O : va_W → Prop) (mc ms : Nat) (ws : va_W) (kc ks pc : Nat) (lv : List (Nat × Value)) (st : List Value) : Prop := aj p l e { frames := 0, cells := mc, slots := ms, locals := 0 } s m args below meth c (MQ below (qV D clss (ty3 cI cL cZ) O A) args s mc ms A) D clss A 5 ws kc ks pc lv st
def O_Mod_comes (cI cL cZ : ClassId) (o_Mod a_Mod_0 a_Mod_1 a_Mod_2 a_Mod_3 a_Mod_4 a_Mod_5 a_Mod_6 a_Mod_7 a_Mod_8 a_Mod_9 a_Mod_10 a_Mod_11 a_Mod_12 a_Mod_13 a_Mod_14 : Nat) (out : T_Mod) : va_W → Prop := fun w1 => w1 = w_Mod cI cL cZ o_Mod a_Mod_0 a_Mod_1 a_Mod_2 a_Mod_3 a_Mod_4 a_Mod_5 a_Mod_6 a_Mod_7 a_Mod_8 a_Mod_9 a_Mod_10 a_Mod_11 a_Mod_12 a_Mod_13 a_Mod_14 out
def m_Mod_comes (v_Mod : T_Mod) (x1 : Int32) (x2 : Int32) (x3 : Int32) : Option (T_Mod) := (if ¬ ((x1 / (2 : Int32)) < 0 ∨ v_Mod.2.2.2.2.2.2.2.2.2.2.2.2.2.2.2.2.2.2.1.1 ≤ ((x1 / (2 : Int32))).toNatClampNeg) then (if ¬ ((x1 / (2 : Int32)) < 0 ∨ v_Mod.2.2.2.2.2.2.2.2.2.2.2.2.2.2.2.2.2.2.2.1.1 ≤ ((x1 / (2 : Int32))).toNatClampNeg) then (if ¬ ((x1 / (2 : Int32)) < 0 ∨ v_Mod.2.2.2.2.2.2.2.2.2.2.2.2.2.2.2.2.2.2.2.2.1.1 ≤ ((x1 / (2 : Int32))).toNatClampNeg) then (if ¬ ((x1 / (2 : Int32)) < 0 ∨ v_Mod.2.2.2.2.2.2.2.2.2.2.2.2.2.2.2.2.2.2.2.2.2.1.1 ≤ ((x1 / (2 : Int32))).toNatClampNeg) then (if ¬ (v_Mod.2.2.2.2.2.2.2.2.2.2.2.2.2.2.2.2.1 < 0 ∨ v_Mod.2.2.2.2.2.2.2.2.2.2.2.2.2.2.2.2.2.1.1 ≤ (v_Mod.2.2.2.2.2.2.2.2.2.2.2.2.2.2.2.2.1).toNatClampNeg) then (some (v_Mod.1, v_Mod.2.1, v_Mod.2.2.1, v_Mod.2.2.2.1, v_Mod.2.2.2.2.1, v_Mod.2.2.2.2.2.1, v_Mod.2.2.2.2.2.2.1, v_Mod.2.2.2.2.2.2.2.1, v_Mod.2.2.2.2.2.2.2.2.1, v_Mod.2.2.2.2.2.2.2.2.2.1, v_Mod.2.2.2.2.2.2.2.2.2.2.1, v_Mod.2.2.2.2.2.2.2.2.2.2.2.1, v_Mod.2.2.2.2.2.2.2.2.2.2.2.2.1, v_Mod.2.2.2.2.2.2.2.2.2.2.2.2.2.1, v_Mod.2.2.2.2.2.2.2.2.2.2.2.2.2.2.1, v_Mod.2.2.2.2.2.2.2.2.2.2.2.2.2.2.2.1, (v_Mod.2.2.2.2.2.2.2.2.2.2.2.2.2.2.2.2.1 + (1 : Int32)), (v_Mod.2.2.2.2.2.2.2.2.2.2.2.2.2.2.2.2.2.1.1, (upd v_Mod.2.2.2.2.2.2.2.2.2.2.2.2.2.2.2.2.2.1.2 (v_Mod.2.2.2.2.2.2.2.2.2.2.2.2.2.2.2.2.1).toNatClampNeg (x1 / (2 : Int32)))), (v_Mod.2.2.2.2.2.2.2.2.2.2.2.2.2.2.2.2.2.2.1.1, (upd v_Mod.2.2.2.2.2.2.2.2.2.2.2.2.2.2.2.2.2.2.1.2 ((x1 / (2 : Int32))).toNatClampNeg ((x1 - x1 / (2 : Int32) * (2 : Int32)) + (1 : Int32)))), (v_Mod.2.2.2.2.2.2.2.2.2.2.2.2.2.2.2.2.2.2.2.1.1, (upd v_Mod.2.2.2.2.2.2.2.2.2.2.2.2.2.2.2.2.2.2.2.1.2 ((x1 / (2 : Int32))).toNatClampNeg x2)), (v_Mod.2.2.2.2.2.2.2.2.2.2.2.2.2.2.2.2.2.2.2.2.1.1, (upd v_Mod.2.2.2.2.2.2.2.2.2.2.2.2.2.2.2.2.2.2.2.2.1.2 ((x1 / (2 : Int32))).toNatClampNeg x3)), (v_Mod.2.2.2.2.2.2.2.2.2.2.2.2.2.2.2.2.2.2.2.2.2.1.1, (upd v_Mod.2.2.2.2.2.2.2.2.2.2.2.2.2.2.2.2.2.2.2.2.2.1.2 ((x1 / (2 : Int32))).toNatClampNeg v_Mod.2.2.2.2.2.2.2.2.2.2.2.2.2.2.2.2.1)), v_Mod.2.2.2.2.2.2.2.2.2.2.2.2.2.2.2.2.2.2.2.2.2.2.1, v_Mod.2.2.2.2.2.2.2.2.2.2.2.2.2.2.2.2.2.2.2.2.2.2.2.1, v_Mod.2.2.2.2.2.2.2.2.2.2.2.2.2.2.2.2.2.2.2.2.2.2.2.2.1, v_Mod.2.2.2.2.2.2.2.2.2.2.2.2.2.2.2.2.2.2.2.2.2.2.2.2.2.1, v_Mod.2.2.2.2.2.2.2.2.2.2.2.2.2.2.2.2.2.2.2.2.2.2.2.2.2.2)) else none) else none) else none) else none) else none)
set_option maxRecDepth 100000 in
set_option maxHeartbeats 4000000 in
theorem c_Mod_comes {l : Launch} {D : va_G} {cI cL cZ : ClassId} (o_Mod a_Mod_0 a_Mod_1 a_Mod_2 a_Mod_3 a_Mod_4 a_Mod_5 a_Mod_6 a_Mod_7 a_Mod_8 a_Mod_9 a_Mod_10 a_Mod_11 a_Mod_12 a_Mod_13 a_Mod_14 : Nat) (v_Mod : T_Mod) (x1 : Int32) (x2 : Int32) (x3 : Int32) (out : T_Mod) (hm : m_Mod_comes v_Mod x1 x2 x3 = some out) : ct l y_Mod_comes (Cond.code y_Mod_comes b_Mod_comes 5 none :: TB) 0 0 D clss (ty3 cI cL cZ) NM0 NF0 [.ref o_Mod, .int x1, .int x2, .int x3] (w_Mod cI cL cZ o_Mod a_Mod_0 a_Mod_1 a_Mod_2 a_Mod_3 a_Mod_4 a_Mod_5 a_Mod_6 a_Mod_7 a_Mod_8 a_Mod_9 a_Mod_10 a_Mod_11 a_Mod_12 a_Mod_13 a_Mod_14 v_Mod) (qV D clss (ty3 cI cL cZ) (O_Mod_comes cI cL cZ o_Mod a_Mod_0 a_Mod_1 a_Mod_2 a_Mod_3 a_Mod_4 a_Mod_5 a_Mod_6 a_Mod_7 a_Mod_8 a_Mod_9 a_Mod_10 a_Mod_11 a_Mod_12 a_Mod_13 a_Mod_14 out)) 0 0 := by
  refine ct_of (plainFor_of_name (by decide)) (Nat.le_of_ble_eq_true rfl) (fun p e s m args below meth c A X N hr hlk hnm => ?_)
  refine aj_lv (lv' := [(0, .ref o_Mod), (1, .int x1), (2, .int x2), (3, .int x3)]) [0, 1, 2, 3] rfl ?_
  unfold m_Mod_comes at hm
  refine aj_iload_n X d_Mod_comes_0 1 rfl ?_
  refine aj_iconst (v := (2 : Int32)) X d_Mod_comes_1 (by decide) ?_
  refine aj_idiv X d_Mod_comes_2 (by decide) ?_
  refine aj_istore (lv' := [(4, .int (x1 / (2 : Int32))), (0, .ref o_Mod), (1, .int x1), (2, .int x2), (3, .int x3)]) X d_Mod_comes_3 (by decide) rfl ?_
  refine aj_aload_n X d_Mod_comes_5 1 rfl ?_
  refine aj_get X d_Mod_comes_6 in_Mod 0 rfl rfl 18 (by decide) lf_Mod_67 rfl ?_
  refine aj_iload X d_Mod_comes_9 0 rfl ?_
  refine aj_iload_n X d_Mod_comes_11 2 rfl ?_
  refine aj_iconst (v := (2 : Int32)) X d_Mod_comes_12 (by decide) ?_
  refine aj_irem X d_Mod_comes_13 (by decide) ?_
  refine aj_iconst (v := (1 : Int32)) X d_Mod_comes_14 (by decide) ?_
  refine aj_iadd X d_Mod_comes_15 ?_
  obtain ⟨b1, hm⟩ := chk_of hm
  refine aj_iast (ws' := w_Mod cI cL cZ o_Mod a_Mod_0 a_Mod_1 a_Mod_2 a_Mod_3 a_Mod_4 a_Mod_5 a_Mod_6 a_Mod_7 a_Mod_8 a_Mod_9 a_Mod_10 a_Mod_11 a_Mod_12 a_Mod_13 a_Mod_14 (v_Mod.1, v_Mod.2.1, v_Mod.2.2.1, v_Mod.2.2.2.1, v_Mod.2.2.2.2.1, v_Mod.2.2.2.2.2.1, v_Mod.2.2.2.2.2.2.1, v_Mod.2.2.2.2.2.2.2.1, v_Mod.2.2.2.2.2.2.2.2.1, v_Mod.2.2.2.2.2.2.2.2.2.1, v_Mod.2.2.2.2.2.2.2.2.2.2.1, v_Mod.2.2.2.2.2.2.2.2.2.2.2.1, v_Mod.2.2.2.2.2.2.2.2.2.2.2.2.1, v_Mod.2.2.2.2.2.2.2.2.2.2.2.2.2.1, v_Mod.2.2.2.2.2.2.2.2.2.2.2.2.2.2.1, v_Mod.2.2.2.2.2.2.2.2.2.2.2.2.2.2.2.1, v_Mod.2.2.2.2.2.2.2.2.2.2.2.2.2.2.2.2.1, v_Mod.2.2.2.2.2.2.2.2.2.2.2.2.2.2.2.2.2.1, (v_Mod.2.2.2.2.2.2.2.2.2.2.2.2.2.2.2.2.2.2.1.1, (upd v_Mod.2.2.2.2.2.2.2.2.2.2.2.2.2.2.2.2.2.2.1.2 ((x1 / (2 : Int32))).toNatClampNeg ((x1 - x1 / (2 : Int32) * (2 : Int32)) + (1 : Int32)))), v_Mod.2.2.2.2.2.2.2.2.2.2.2.2.2.2.2.2.2.2.2.1, v_Mod.2.2.2.2.2.2.2.2.2.2.2.2.2.2.2.2.2.2.2.2.1, v_Mod.2.2.2.2.2.2.2.2.2.2.2.2.2.2.2.2.2.2.2.2.2.1, v_Mod.2.2.2.2.2.2.2.2.2.2.2.2.2.2.2.2.2.2.2.2.2.2.1, v_Mod.2.2.2.2.2.2.2.2.2.2.2.2.2.2.2.2.2.2.2.2.2.2.2.1, v_Mod.2.2.2.2.2.2.2.2.2.2.2.2.2.2.2.2.2.2.2.2.2.2.2.2.1, v_Mod.2.2.2.2.2.2.2.2.2.2.2.2.2.2.2.2.2.2.2.2.2.2.2.2.2.1, v_Mod.2.2.2.2.2.2.2.2.2.2.2.2.2.2.2.2.2.2.2.2.2.2.2.2.2.2)) X d_Mod_comes_16 11 0 rfl rfl b1 rfl ?_
  refine aj_aload_n X d_Mod_comes_17 1 rfl ?_
  refine aj_get X d_Mod_comes_18 in_Mod 0 rfl rfl 19 (by decide) lf_Mod_70 rfl ?_
  refine aj_iload X d_Mod_comes_21 0 rfl ?_
  refine aj_iload_n X d_Mod_comes_23 3 rfl ?_
  obtain ⟨b2, hm⟩ := chk_of hm
  refine aj_iast (ws' := w_Mod cI cL cZ o_Mod a_Mod_0 a_Mod_1 a_Mod_2 a_Mod_3 a_Mod_4 a_Mod_5 a_Mod_6 a_Mod_7 a_Mod_8 a_Mod_9 a_Mod_10 a_Mod_11 a_Mod_12 a_Mod_13 a_Mod_14 (v_Mod.1, v_Mod.2.1, v_Mod.2.2.1, v_Mod.2.2.2.1, v_Mod.2.2.2.2.1, v_Mod.2.2.2.2.2.1, v_Mod.2.2.2.2.2.2.1, v_Mod.2.2.2.2.2.2.2.1, v_Mod.2.2.2.2.2.2.2.2.1, v_Mod.2.2.2.2.2.2.2.2.2.1, v_Mod.2.2.2.2.2.2.2.2.2.2.1, v_Mod.2.2.2.2.2.2.2.2.2.2.2.1, v_Mod.2.2.2.2.2.2.2.2.2.2.2.2.1, v_Mod.2.2.2.2.2.2.2.2.2.2.2.2.2.1, v_Mod.2.2.2.2.2.2.2.2.2.2.2.2.2.2.1, v_Mod.2.2.2.2.2.2.2.2.2.2.2.2.2.2.2.1, v_Mod.2.2.2.2.2.2.2.2.2.2.2.2.2.2.2.2.1, v_Mod.2.2.2.2.2.2.2.2.2.2.2.2.2.2.2.2.2.1, (v_Mod.2.2.2.2.2.2.2.2.2.2.2.2.2.2.2.2.2.2.1.1, (upd v_Mod.2.2.2.2.2.2.2.2.2.2.2.2.2.2.2.2.2.2.1.2 ((x1 / (2 : Int32))).toNatClampNeg ((x1 - x1 / (2 : Int32) * (2 : Int32)) + (1 : Int32)))), (v_Mod.2.2.2.2.2.2.2.2.2.2.2.2.2.2.2.2.2.2.2.1.1, (upd v_Mod.2.2.2.2.2.2.2.2.2.2.2.2.2.2.2.2.2.2.2.1.2 ((x1 / (2 : Int32))).toNatClampNeg x2)), v_Mod.2.2.2.2.2.2.2.2.2.2.2.2.2.2.2.2.2.2.2.2.1, v_Mod.2.2.2.2.2.2.2.2.2.2.2.2.2.2.2.2.2.2.2.2.2.1, v_Mod.2.2.2.2.2.2.2.2.2.2.2.2.2.2.2.2.2.2.2.2.2.2.1, v_Mod.2.2.2.2.2.2.2.2.2.2.2.2.2.2.2.2.2.2.2.2.2.2.2.1, v_Mod.2.2.2.2.2.2.2.2.2.2.2.2.2.2.2.2.2.2.2.2.2.2.2.2.1, v_Mod.2.2.2.2.2.2.2.2.2.2.2.2.2.2.2.2.2.2.2.2.2.2.2.2.2.1, v_Mod.2.2.2.2.2.2.2.2.2.2.2.2.2.2.2.2.2.2.2.2.2.2.2.2.2.2)) X d_Mod_comes_24 12 0 rfl rfl b2 rfl ?_
  refine aj_aload_n X d_Mod_comes_25 1 rfl ?_
  refine aj_get X d_Mod_comes_26 in_Mod 0 rfl rfl 20 (by decide) lf_Mod_73 rfl ?_
  refine aj_iload X d_Mod_comes_29 0 rfl ?_
  refine aj_iload_n X d_Mod_comes_31 4 rfl ?_
  obtain ⟨b3, hm⟩ := chk_of hm
  refine aj_iast (ws' := w_Mod cI cL cZ o_Mod a_Mod_0 a_Mod_1 a_Mod_2 a_Mod_3 a_Mod_4 a_Mod_5 a_Mod_6 a_Mod_7 a_Mod_8 a_Mod_9 a_Mod_10 a_Mod_11 a_Mod_12 a_Mod_13 a_Mod_14 (v_Mod.1, v_Mod.2.1, v_Mod.2.2.1, v_Mod.2.2.2.1, v_Mod.2.2.2.2.1, v_Mod.2.2.2.2.2.1, v_Mod.2.2.2.2.2.2.1, v_Mod.2.2.2.2.2.2.2.1, v_Mod.2.2.2.2.2.2.2.2.1, v_Mod.2.2.2.2.2.2.2.2.2.1, v_Mod.2.2.2.2.2.2.2.2.2.2.1, v_Mod.2.2.2.2.2.2.2.2.2.2.2.1, v_Mod.2.2.2.2.2.2.2.2.2.2.2.2.1, v_Mod.2.2.2.2.2.2.2.2.2.2.2.2.2.1, v_Mod.2.2.2.2.2.2.2.2.2.2.2.2.2.2.1, v_Mod.2.2.2.2.2.2.2.2.2.2.2.2.2.2.2.1, v_Mod.2.2.2.2.2.2.2.2.2.2.2.2.2.2.2.2.1, v_Mod.2.2.2.2.2.2.2.2.2.2.2.2.2.2.2.2.2.1, (v_Mod.2.2.2.2.2.2.2.2.2.2.2.2.2.2.2.2.2.2.1.1, (upd v_Mod.2.2.2.2.2.2.2.2.2.2.2.2.2.2.2.2.2.2.1.2 ((x1 / (2 : Int32))).toNatClampNeg ((x1 - x1 / (2 : Int32) * (2 : Int32)) + (1 : Int32)))), (v_Mod.2.2.2.2.2.2.2.2.2.2.2.2.2.2.2.2.2.2.2.1.1, (upd v_Mod.2.2.2.2.2.2.2.2.2.2.2.2.2.2.2.2.2.2.2.1.2 ((x1 / (2 : Int32))).toNatClampNeg x2)), (v_Mod.2.2.2.2.2.2.2.2.2.2.2.2.2.2.2.2.2.2.2.2.1.1, (upd v_Mod.2.2.2.2.2.2.2.2.2.2.2.2.2.2.2.2.2.2.2.2.1.2 ((x1 / (2 : Int32))).toNatClampNeg x3)), v_Mod.2.2.2.2.2.2.2.2.2.2.2.2.2.2.2.2.2.2.2.2.2.1, v_Mod.2.2.2.2.2.2.2.2.2.2.2.2.2.2.2.2.2.2.2.2.2.2.1, v_Mod.2.2.2.2.2.2.2.2.2.2.2.2.2.2.2.2.2.2.2.2.2.2.2.1, v_Mod.2.2.2.2.2.2.2.2.2.2.2.2.2.2.2.2.2.2.2.2.2.2.2.2.1, v_Mod.2.2.2.2.2.2.2.2.2.2.2.2.2.2.2.2.2.2.2.2.2.2.2.2.2.1, v_Mod.2.2.2.2.2.2.2.2.2.2.2.2.2.2.2.2.2.2.2.2.2.2.2.2.2.2)) X d_Mod_comes_32 13 0 rfl rfl b3 rfl ?_
  refine aj_aload_n X d_Mod_comes_33 1 rfl ?_
  refine aj_get X d_Mod_comes_34 in_Mod 0 rfl rfl 21 (by decide) lf_Mod_76 rfl ?_
  refine aj_iload X d_Mod_comes_37 0 rfl ?_
  refine aj_aload_n X d_Mod_comes_39 1 rfl ?_
  refine aj_get X d_Mod_comes_40 in_Mod 0 rfl rfl 16 (by decide) lf_Mod_61 rfl ?_
  obtain ⟨b4, hm⟩ := chk_of hm
  refine aj_iast (ws' := w_Mod cI cL cZ o_Mod a_Mod_0 a_Mod_1 a_Mod_2 a_Mod_3 a_Mod_4 a_Mod_5 a_Mod_6 a_Mod_7 a_Mod_8 a_Mod_9 a_Mod_10 a_Mod_11 a_Mod_12 a_Mod_13 a_Mod_14 (v_Mod.1, v_Mod.2.1, v_Mod.2.2.1, v_Mod.2.2.2.1, v_Mod.2.2.2.2.1, v_Mod.2.2.2.2.2.1, v_Mod.2.2.2.2.2.2.1, v_Mod.2.2.2.2.2.2.2.1, v_Mod.2.2.2.2.2.2.2.2.1, v_Mod.2.2.2.2.2.2.2.2.2.1, v_Mod.2.2.2.2.2.2.2.2.2.2.1, v_Mod.2.2.2.2.2.2.2.2.2.2.2.1, v_Mod.2.2.2.2.2.2.2.2.2.2.2.2.1, v_Mod.2.2.2.2.2.2.2.2.2.2.2.2.2.1, v_Mod.2.2.2.2.2.2.2.2.2.2.2.2.2.2.1, v_Mod.2.2.2.2.2.2.2.2.2.2.2.2.2.2.2.1, v_Mod.2.2.2.2.2.2.2.2.2.2.2.2.2.2.2.2.1, v_Mod.2.2.2.2.2.2.2.2.2.2.2.2.2.2.2.2.2.1, (v_Mod.2.2.2.2.2.2.2.2.2.2.2.2.2.2.2.2.2.2.1.1, (upd v_Mod.2.2.2.2.2.2.2.2.2.2.2.2.2.2.2.2.2.2.1.2 ((x1 / (2 : Int32))).toNatClampNeg ((x1 - x1 / (2 : Int32) * (2 : Int32)) + (1 : Int32)))), (v_Mod.2.2.2.2.2.2.2.2.2.2.2.2.2.2.2.2.2.2.2.1.1, (upd v_Mod.2.2.2.2.2.2.2.2.2.2.2.2.2.2.2.2.2.2.2.1.2 ((x1 / (2 : Int32))).toNatClampNeg x2)), (v_Mod.2.2.2.2.2.2.2.2.2.2.2.2.2.2.2.2.2.2.2.2.1.1, (upd v_Mod.2.2.2.2.2.2.2.2.2.2.2.2.2.2.2.2.2.2.2.2.1.2 ((x1 / (2 : Int32))).toNatClampNeg x3)), (v_Mod.2.2.2.2.2.2.2.2.2.2.2.2.2.2.2.2.2.2.2.2.2.1.1, (upd v_Mod.2.2.2.2.2.2.2.2.2.2.2.2.2.2.2.2.2.2.2.2.2.1.2 ((x1 / (2 : Int32))).toNatClampNeg v_Mod.2.2.2.2.2.2.2.2.2.2.2.2.2.2.2.2.1)), v_Mod.2.2.2.2.2.2.2.2.2.2.2.2.2.2.2.2.2.2.2.2.2.2.1, v_Mod.2.2.2.2.2.2.2.2.2.2.2.2.2.2.2.2.2.2.2.2.2.2.2.1, v_Mod.2.2.2.2.2.2.2.2.2.2.2.2.2.2.2.2.2.2.2.2.2.2.2.2.1, v_Mod.2.2.2.2.2.2.2.2.2.2.2.2.2.2.2.2.2.2.2.2.2.2.2.2.2.1, v_Mod.2.2.2.2.2.2.2.2.2.2.2.2.2.2.2.2.2.2.2.2.2.2.2.2.2.2)) X d_Mod_comes_43 14 0 rfl rfl b4 rfl ?_
  refine aj_aload_n X d_Mod_comes_44 1 rfl ?_
  refine aj_get X d_Mod_comes_45 in_Mod 0 rfl rfl 17 (by decide) lf_Mod_64 rfl ?_
  refine aj_aload_n X d_Mod_comes_48 1 rfl ?_
  refine aj_get X d_Mod_comes_49 in_Mod 0 rfl rfl 16 (by decide) lf_Mod_61 rfl ?_
  refine aj_iload X d_Mod_comes_52 0 rfl ?_
  obtain ⟨b5, hm⟩ := chk_of hm
  refine aj_iast (ws' := w_Mod cI cL cZ o_Mod a_Mod_0 a_Mod_1 a_Mod_2 a_Mod_3 a_Mod_4 a_Mod_5 a_Mod_6 a_Mod_7 a_Mod_8 a_Mod_9 a_Mod_10 a_Mod_11 a_Mod_12 a_Mod_13 a_Mod_14 (v_Mod.1, v_Mod.2.1, v_Mod.2.2.1, v_Mod.2.2.2.1, v_Mod.2.2.2.2.1, v_Mod.2.2.2.2.2.1, v_Mod.2.2.2.2.2.2.1, v_Mod.2.2.2.2.2.2.2.1, v_Mod.2.2.2.2.2.2.2.2.1, v_Mod.2.2.2.2.2.2.2.2.2.1, v_Mod.2.2.2.2.2.2.2.2.2.2.1, v_Mod.2.2.2.2.2.2.2.2.2.2.2.1, v_Mod.2.2.2.2.2.2.2.2.2.2.2.2.1, v_Mod.2.2.2.2.2.2.2.2.2.2.2.2.2.1, v_Mod.2.2.2.2.2.2.2.2.2.2.2.2.2.2.1, v_Mod.2.2.2.2.2.2.2.2.2.2.2.2.2.2.2.1, v_Mod.2.2.2.2.2.2.2.2.2.2.2.2.2.2.2.2.1, (v_Mod.2.2.2.2.2.2.2.2.2.2.2.2.2.2.2.2.2.1.1, (upd v_Mod.2.2.2.2.2.2.2.2.2.2.2.2.2.2.2.2.2.1.2 (v_Mod.2.2.2.2.2.2.2.2.2.2.2.2.2.2.2.2.1).toNatClampNeg (x1 / (2 : Int32)))), (v_Mod.2.2.2.2.2.2.2.2.2.2.2.2.2.2.2.2.2.2.1.1, (upd v_Mod.2.2.2.2.2.2.2.2.2.2.2.2.2.2.2.2.2.2.1.2 ((x1 / (2 : Int32))).toNatClampNeg ((x1 - x1 / (2 : Int32) * (2 : Int32)) + (1 : Int32)))), (v_Mod.2.2.2.2.2.2.2.2.2.2.2.2.2.2.2.2.2.2.2.1.1, (upd v_Mod.2.2.2.2.2.2.2.2.2.2.2.2.2.2.2.2.2.2.2.1.2 ((x1 / (2 : Int32))).toNatClampNeg x2)), (v_Mod.2.2.2.2.2.2.2.2.2.2.2.2.2.2.2.2.2.2.2.2.1.1, (upd v_Mod.2.2.2.2.2.2.2.2.2.2.2.2.2.2.2.2.2.2.2.2.1.2 ((x1 / (2 : Int32))).toNatClampNeg x3)), (v_Mod.2.2.2.2.2.2.2.2.2.2.2.2.2.2.2.2.2.2.2.2.2.1.1, (upd v_Mod.2.2.2.2.2.2.2.2.2.2.2.2.2.2.2.2.2.2.2.2.2.1.2 ((x1 / (2 : Int32))).toNatClampNeg v_Mod.2.2.2.2.2.2.2.2.2.2.2.2.2.2.2.2.1)), v_Mod.2.2.2.2.2.2.2.2.2.2.2.2.2.2.2.2.2.2.2.2.2.2.1, v_Mod.2.2.2.2.2.2.2.2.2.2.2.2.2.2.2.2.2.2.2.2.2.2.2.1, v_Mod.2.2.2.2.2.2.2.2.2.2.2.2.2.2.2.2.2.2.2.2.2.2.2.2.1, v_Mod.2.2.2.2.2.2.2.2.2.2.2.2.2.2.2.2.2.2.2.2.2.2.2.2.2.1, v_Mod.2.2.2.2.2.2.2.2.2.2.2.2.2.2.2.2.2.2.2.2.2.2.2.2.2.2)) X d_Mod_comes_54 10 0 rfl rfl b5 rfl ?_
  refine aj_aload_n X d_Mod_comes_55 1 rfl ?_
  refine aj_dup X d_Mod_comes_56 rfl ?_
  refine aj_get X d_Mod_comes_57 in_Mod 0 rfl rfl 16 (by decide) lf_Mod_61 rfl ?_
  refine aj_iconst (v := (1 : Int32)) X d_Mod_comes_60 (by decide) ?_
  refine aj_iadd X d_Mod_comes_61 ?_
  refine aj_put (ws' := w_Mod cI cL cZ o_Mod a_Mod_0 a_Mod_1 a_Mod_2 a_Mod_3 a_Mod_4 a_Mod_5 a_Mod_6 a_Mod_7 a_Mod_8 a_Mod_9 a_Mod_10 a_Mod_11 a_Mod_12 a_Mod_13 a_Mod_14 (v_Mod.1, v_Mod.2.1, v_Mod.2.2.1, v_Mod.2.2.2.1, v_Mod.2.2.2.2.1, v_Mod.2.2.2.2.2.1, v_Mod.2.2.2.2.2.2.1, v_Mod.2.2.2.2.2.2.2.1, v_Mod.2.2.2.2.2.2.2.2.1, v_Mod.2.2.2.2.2.2.2.2.2.1, v_Mod.2.2.2.2.2.2.2.2.2.2.1, v_Mod.2.2.2.2.2.2.2.2.2.2.2.1, v_Mod.2.2.2.2.2.2.2.2.2.2.2.2.1, v_Mod.2.2.2.2.2.2.2.2.2.2.2.2.2.1, v_Mod.2.2.2.2.2.2.2.2.2.2.2.2.2.2.1, v_Mod.2.2.2.2.2.2.2.2.2.2.2.2.2.2.2.1, (v_Mod.2.2.2.2.2.2.2.2.2.2.2.2.2.2.2.2.1 + (1 : Int32)), (v_Mod.2.2.2.2.2.2.2.2.2.2.2.2.2.2.2.2.2.1.1, (upd v_Mod.2.2.2.2.2.2.2.2.2.2.2.2.2.2.2.2.2.1.2 (v_Mod.2.2.2.2.2.2.2.2.2.2.2.2.2.2.2.2.1).toNatClampNeg (x1 / (2 : Int32)))), (v_Mod.2.2.2.2.2.2.2.2.2.2.2.2.2.2.2.2.2.2.1.1, (upd v_Mod.2.2.2.2.2.2.2.2.2.2.2.2.2.2.2.2.2.2.1.2 ((x1 / (2 : Int32))).toNatClampNeg ((x1 - x1 / (2 : Int32) * (2 : Int32)) + (1 : Int32)))), (v_Mod.2.2.2.2.2.2.2.2.2.2.2.2.2.2.2.2.2.2.2.1.1, (upd v_Mod.2.2.2.2.2.2.2.2.2.2.2.2.2.2.2.2.2.2.2.1.2 ((x1 / (2 : Int32))).toNatClampNeg x2)), (v_Mod.2.2.2.2.2.2.2.2.2.2.2.2.2.2.2.2.2.2.2.2.1.1, (upd v_Mod.2.2.2.2.2.2.2.2.2.2.2.2.2.2.2.2.2.2.2.2.1.2 ((x1 / (2 : Int32))).toNatClampNeg x3)), (v_Mod.2.2.2.2.2.2.2.2.2.2.2.2.2.2.2.2.2.2.2.2.2.1.1, (upd v_Mod.2.2.2.2.2.2.2.2.2.2.2.2.2.2.2.2.2.2.2.2.2.1.2 ((x1 / (2 : Int32))).toNatClampNeg v_Mod.2.2.2.2.2.2.2.2.2.2.2.2.2.2.2.2.1)), v_Mod.2.2.2.2.2.2.2.2.2.2.2.2.2.2.2.2.2.2.2.2.2.2.1, v_Mod.2.2.2.2.2.2.2.2.2.2.2.2.2.2.2.2.2.2.2.2.2.2.2.1, v_Mod.2.2.2.2.2.2.2.2.2.2.2.2.2.2.2.2.2.2.2.2.2.2.2.2.1, v_Mod.2.2.2.2.2.2.2.2.2.2.2.2.2.2.2.2.2.2.2.2.2.2.2.2.2.1, v_Mod.2.2.2.2.2.2.2.2.2.2.2.2.2.2.2.2.2.2.2.2.2.2.2.2.2.2)) X d_Mod_comes_62 in_Mod ty_Mod tyok_Mod nmx_Mod 0 rfl rfl 16 (by decide) lf_Mod_61 rfl rfl rfl (Nat.le_of_ble_eq_true rfl) rfl ?_
  have ho := Option.some.inj hm
  subst ho
  exact aj_vret X d_Mod_comes_65 hr hlk [0, 1, 2, 3, 4, 5, 6, 7, 8, 9, 10, 11, 12, 13, 14, 15] (w_Mod cI cL cZ o_Mod a_Mod_0 a_Mod_1 a_Mod_2 a_Mod_3 a_Mod_4 a_Mod_5 a_Mod_6 a_Mod_7 a_Mod_8 a_Mod_9 a_Mod_10 a_Mod_11 a_Mod_12 a_Mod_13 a_Mod_14 (v_Mod.1, v_Mod.2.1, v_Mod.2.2.1, v_Mod.2.2.2.1, v_Mod.2.2.2.2.1, v_Mod.2.2.2.2.2.1, v_Mod.2.2.2.2.2.2.1, v_Mod.2.2.2.2.2.2.2.1, v_Mod.2.2.2.2.2.2.2.2.1, v_Mod.2.2.2.2.2.2.2.2.2.1, v_Mod.2.2.2.2.2.2.2.2.2.2.1, v_Mod.2.2.2.2.2.2.2.2.2.2.2.1, v_Mod.2.2.2.2.2.2.2.2.2.2.2.2.1, v_Mod.2.2.2.2.2.2.2.2.2.2.2.2.2.1, v_Mod.2.2.2.2.2.2.2.2.2.2.2.2.2.2.1, v_Mod.2.2.2.2.2.2.2.2.2.2.2.2.2.2.2.1, (v_Mod.2.2.2.2.2.2.2.2.2.2.2.2.2.2.2.2.1 + (1 : Int32)), (v_Mod.2.2.2.2.2.2.2.2.2.2.2.2.2.2.2.2.2.1.1, (upd v_Mod.2.2.2.2.2.2.2.2.2.2.2.2.2.2.2.2.2.1.2 (v_Mod.2.2.2.2.2.2.2.2.2.2.2.2.2.2.2.2.1).toNatClampNeg (x1 / (2 : Int32)))), (v_Mod.2.2.2.2.2.2.2.2.2.2.2.2.2.2.2.2.2.2.1.1, (upd v_Mod.2.2.2.2.2.2.2.2.2.2.2.2.2.2.2.2.2.2.1.2 ((x1 / (2 : Int32))).toNatClampNeg ((x1 - x1 / (2 : Int32) * (2 : Int32)) + (1 : Int32)))), (v_Mod.2.2.2.2.2.2.2.2.2.2.2.2.2.2.2.2.2.2.2.1.1, (upd v_Mod.2.2.2.2.2.2.2.2.2.2.2.2.2.2.2.2.2.2.2.1.2 ((x1 / (2 : Int32))).toNatClampNeg x2)), (v_Mod.2.2.2.2.2.2.2.2.2.2.2.2.2.2.2.2.2.2.2.2.1.1, (upd v_Mod.2.2.2.2.2.2.2.2.2.2.2.2.2.2.2.2.2.2.2.2.1.2 ((x1 / (2 : Int32))).toNatClampNeg x3)), (v_Mod.2.2.2.2.2.2.2.2.2.2.2.2.2.2.2.2.2.2.2.2.2.1.1, (upd v_Mod.2.2.2.2.2.2.2.2.2.2.2.2.2.2.2.2.2.2.2.2.2.1.2 ((x1 / (2 : Int32))).toNatClampNeg v_Mod.2.2.2.2.2.2.2.2.2.2.2.2.2.2.2.2.1)), v_Mod.2.2.2.2.2.2.2.2.2.2.2.2.2.2.2.2.2.2.2.2.2.2.1, v_Mod.2.2.2.2.2.2.2.2.2.2.2.2.2.2.2.2.2.2.2.2.2.2.2.1, v_Mod.2.2.2.2.2.2.2.2.2.2.2.2.2.2.2.2.2.2.2.2.2.2.2.2.1, v_Mod.2.2.2.2.2.2.2.2.2.2.2.2.2.2.2.2.2.2.2.2.2.2.2.2.2.1, v_Mod.2.2.2.2.2.2.2.2.2.2.2.2.2.2.2.2.2.2.2.2.2.2.2.2.2.2)) rfl rfl rfl
abbrev X_Mod_cut (p : Program) (s : State) (m : MethodId) (args : Array Value) (c : Code) (D : va_G) (cI cL cZ : ClassId) (A : Nat → Prop) : Prop := aj_C p s m args c D clss (ty3 cI cL cZ) A b_Mod_cut 2 R_Mod TB
abbrev J_Mod_cut (p : Program) (l : Launch) (e : Env) (s : State) (m : MethodId) (args : Array Value) (below : List Frame) (meth : Method) (c : Code) (D : va_G) (cI cL cZ : ClassId) (A : Nat → Prop) (O : va_W → Prop) (mc ms : Nat) (ws : va_W) (kc ks pc : Nat) (lv : List (Nat × Value)) (st : List Value) : Prop := aj p l e { frames := 0, cells := mc, slots := ms, locals := 0 } s m args below meth c (MQ below (qV D clss (ty3 cI cL cZ) O A) args s mc ms A) D clss A 2 ws kc ks pc lv st
def O_Mod_cut (cI cL cZ : ClassId) (o_Mod a_Mod_0 a_Mod_1 a_Mod_2 a_Mod_3 a_Mod_4 a_Mod_5 a_Mod_6 a_Mod_7 a_Mod_8 a_Mod_9 a_Mod_10 a_Mod_11 a_Mod_12 a_Mod_13 a_Mod_14 : Nat) (out : T_Mod) : va_W → Prop := fun w1 => w1 = w_Mod cI cL cZ o_Mod a_Mod_0 a_Mod_1 a_Mod_2 a_Mod_3 a_Mod_4 a_Mod_5 a_Mod_6 a_Mod_7 a_Mod_8 a_Mod_9 a_Mod_10 a_Mod_11 a_Mod_12 a_Mod_13 a_Mod_14 out
def m_Mod_cut_B55 (v_Mod : T_Mod) (x1 : Int32) : Option (T_Mod) := (some (v_Mod.1, v_Mod.2.1, v_Mod.2.2.1, v_Mod.2.2.2.1, v_Mod.2.2.2.2.1, v_Mod.2.2.2.2.2.1, v_Mod.2.2.2.2.2.2.1, v_Mod.2.2.2.2.2.2.2.1, v_Mod.2.2.2.2.2.2.2.2.1, v_Mod.2.2.2.2.2.2.2.2.2.1, v_Mod.2.2.2.2.2.2.2.2.2.2.1, v_Mod.2.2.2.2.2.2.2.2.2.2.2.1, v_Mod.2.2.2.2.2.2.2.2.2.2.2.2.1, v_Mod.2.2.2.2.2.2.2.2.2.2.2.2.2.1, v_Mod.2.2.2.2.2.2.2.2.2.2.2.2.2.2.1, v_Mod.2.2.2.2.2.2.2.2.2.2.2.2.2.2.2.1, v_Mod.2.2.2.2.2.2.2.2.2.2.2.2.2.2.2.2.1, v_Mod.2.2.2.2.2.2.2.2.2.2.2.2.2.2.2.2.2.1, v_Mod.2.2.2.2.2.2.2.2.2.2.2.2.2.2.2.2.2.2.1, v_Mod.2.2.2.2.2.2.2.2.2.2.2.2.2.2.2.2.2.2.2.1, v_Mod.2.2.2.2.2.2.2.2.2.2.2.2.2.2.2.2.2.2.2.2.1, v_Mod.2.2.2.2.2.2.2.2.2.2.2.2.2.2.2.2.2.2.2.2.2.1, x1, v_Mod.2.2.2.2.2.2.2.2.2.2.2.2.2.2.2.2.2.2.2.2.2.2.2.1, v_Mod.2.2.2.2.2.2.2.2.2.2.2.2.2.2.2.2.2.2.2.2.2.2.2.2.1, v_Mod.2.2.2.2.2.2.2.2.2.2.2.2.2.2.2.2.2.2.2.2.2.2.2.2.2.1, v_Mod.2.2.2.2.2.2.2.2.2.2.2.2.2.2.2.2.2.2.2.2.2.2.2.2.2.2))
set_option maxRecDepth 100000 in
set_option maxHeartbeats 4000000 in
theorem c_Mod_cut_B55 {l : Launch} {D : va_G} {cI cL cZ : ClassId} {p : Program} {e : Env} {s : State} {m : MethodId} {args : Array Value} {below : List Frame} {meth : Method} {c : Code} {A : Nat → Prop} (o_Mod a_Mod_0 a_Mod_1 a_Mod_2 a_Mod_3 a_Mod_4 a_Mod_5 a_Mod_6 a_Mod_7 a_Mod_8 a_Mod_9 a_Mod_10 a_Mod_11 a_Mod_12 a_Mod_13 a_Mod_14 : Nat) (out : T_Mod) (X : X_Mod_cut p s m args c D cI cL cZ A) (N : nk NM0 NF0 s) (hr : meth.sig.returnType = none) (hlk : meth.locks = false) : ∀ (v_Mod : T_Mod) (x1 : Int32), m_Mod_cut_B55 v_Mod x1 = some out → J_Mod_cut p l e s m args below meth c D cI cL cZ A (O_Mod_cut cI cL cZ o_Mod a_Mod_0 a_Mod_1 a_Mod_2 a_Mod_3 a_Mod_4 a_Mod_5 a_Mod_6 a_Mod_7 a_Mod_8 a_Mod_9 a_Mod_10 a_Mod_11 a_Mod_12 a_Mod_13 a_Mod_14 out) 0 0 (w_Mod cI cL cZ o_Mod a_Mod_0 a_Mod_1 a_Mod_2 a_Mod_3 a_Mod_4 a_Mod_5 a_Mod_6 a_Mod_7 a_Mod_8 a_Mod_9 a_Mod_10 a_Mod_11 a_Mod_12 a_Mod_13 a_Mod_14 v_Mod) 0 0 55 [(0, .ref o_Mod), (1, .int x1)] [] := by
  intro v_Mod x1 hm
  unfold m_Mod_cut_B55 at hm
  refine aj_aload_n X d_Mod_cut_55 0 rfl ?_
  refine aj_iload_n X d_Mod_cut_56 1 rfl ?_
  refine aj_put (ws' := w_Mod cI cL cZ o_Mod a_Mod_0 a_Mod_1 a_Mod_2 a_Mod_3 a_Mod_4 a_Mod_5 a_Mod_6 a_Mod_7 a_Mod_8 a_Mod_9 a_Mod_10 a_Mod_11 a_Mod_12 a_Mod_13 a_Mod_14 (v_Mod.1, v_Mod.2.1, v_Mod.2.2.1, v_Mod.2.2.2.1, v_Mod.2.2.2.2.1, v_Mod.2.2.2.2.2.1, v_Mod.2.2.2.2.2.2.1, v_Mod.2.2.2.2.2.2.2.1, v_Mod.2.2.2.2.2.2.2.2.1, v_Mod.2.2.2.2.2.2.2.2.2.1, v_Mod.2.2.2.2.2.2.2.2.2.2.1, v_Mod.2.2.2.2.2.2.2.2.2.2.2.1, v_Mod.2.2.2.2.2.2.2.2.2.2.2.2.1, v_Mod.2.2.2.2.2.2.2.2.2.2.2.2.2.1, v_Mod.2.2.2.2.2.2.2.2.2.2.2.2.2.2.1, v_Mod.2.2.2.2.2.2.2.2.2.2.2.2.2.2.2.1, v_Mod.2.2.2.2.2.2.2.2.2.2.2.2.2.2.2.2.1, v_Mod.2.2.2.2.2.2.2.2.2.2.2.2.2.2.2.2.2.1, v_Mod.2.2.2.2.2.2.2.2.2.2.2.2.2.2.2.2.2.2.1, v_Mod.2.2.2.2.2.2.2.2.2.2.2.2.2.2.2.2.2.2.2.1, v_Mod.2.2.2.2.2.2.2.2.2.2.2.2.2.2.2.2.2.2.2.2.1, v_Mod.2.2.2.2.2.2.2.2.2.2.2.2.2.2.2.2.2.2.2.2.2.1, x1, v_Mod.2.2.2.2.2.2.2.2.2.2.2.2.2.2.2.2.2.2.2.2.2.2.2.1, v_Mod.2.2.2.2.2.2.2.2.2.2.2.2.2.2.2.2.2.2.2.2.2.2.2.2.1, v_Mod.2.2.2.2.2.2.2.2.2.2.2.2.2.2.2.2.2.2.2.2.2.2.2.2.2.1, v_Mod.2.2.2.2.2.2.2.2.2.2.2.2.2.2.2.2.2.2.2.2.2.2.2.2.2.2)) X d_Mod_cut_57 in_Mod ty_Mod tyok_Mod nmx_Mod 0 rfl rfl 22 (by decide) lf_Mod_79 rfl rfl rfl (Nat.le_of_ble_eq_true rfl) rfl ?_
  have ho := Option.some.inj hm
  subst ho
  exact aj_vret X d_Mod_cut_60 hr hlk [0, 1, 2, 3, 4, 5, 6, 7, 8, 9, 10, 11, 12, 13, 14, 15] (w_Mod cI cL cZ o_Mod a_Mod_0 a_Mod_1 a_Mod_2 a_Mod_3 a_Mod_4 a_Mod_5 a_Mod_6 a_Mod_7 a_Mod_8 a_Mod_9 a_Mod_10 a_Mod_11 a_Mod_12 a_Mod_13 a_Mod_14 (v_Mod.1, v_Mod.2.1, v_Mod.2.2.1, v_Mod.2.2.2.1, v_Mod.2.2.2.2.1, v_Mod.2.2.2.2.2.1, v_Mod.2.2.2.2.2.2.1, v_Mod.2.2.2.2.2.2.2.1, v_Mod.2.2.2.2.2.2.2.2.1, v_Mod.2.2.2.2.2.2.2.2.2.1, v_Mod.2.2.2.2.2.2.2.2.2.2.1, v_Mod.2.2.2.2.2.2.2.2.2.2.2.1, v_Mod.2.2.2.2.2.2.2.2.2.2.2.2.1, v_Mod.2.2.2.2.2.2.2.2.2.2.2.2.2.1, v_Mod.2.2.2.2.2.2.2.2.2.2.2.2.2.2.1, v_Mod.2.2.2.2.2.2.2.2.2.2.2.2.2.2.2.1, v_Mod.2.2.2.2.2.2.2.2.2.2.2.2.2.2.2.2.1, v_Mod.2.2.2.2.2.2.2.2.2.2.2.2.2.2.2.2.2.1, v_Mod.2.2.2.2.2.2.2.2.2.2.2.2.2.2.2.2.2.2.1, v_Mod.2.2.2.2.2.2.2.2.2.2.2.2.2.2.2.2.2.2.2.1, v_Mod.2.2.2.2.2.2.2.2.2.2.2.2.2.2.2.2.2.2.2.2.1, v_Mod.2.2.2.2.2.2.2.2.2.2.2.2.2.2.2.2.2.2.2.2.2.1, x1, v_Mod.2.2.2.2.2.2.2.2.2.2.2.2.2.2.2.2.2.2.2.2.2.2.2.1, v_Mod.2.2.2.2.2.2.2.2.2.2.2.2.2.2.2.2.2.2.2.2.2.2.2.2.1, v_Mod.2.2.2.2.2.2.2.2.2.2.2.2.2.2.2.2.2.2.2.2.2.2.2.2.2.1, v_Mod.2.2.2.2.2.2.2.2.2.2.2.2.2.2.2.2.2.2.2.2.2.2.2.2.2.2)) rfl rfl rfl
def m_Mod_cut_L0 : Nat → T_Mod → Int32 → Option (T_Mod)
  | 0, _, _ => none
  | f + 1, v_Mod, x1 => (if v_Mod.2.2.2.2.2.2.2.2.2.2.2.2.2.2.2.2.1 ≤ 0 then (m_Mod_cut_B55 v_Mod x1) else (if ¬ ((v_Mod.2.2.2.2.2.2.2.2.2.2.2.2.2.2.2.2.1 - (1 : Int32)) < 0 ∨ v_Mod.2.2.2.2.2.2.2.2.2.2.2.2.2.2.2.2.2.1.1 ≤ ((v_Mod.2.2.2.2.2.2.2.2.2.2.2.2.2.2.2.2.1 - (1 : Int32))).toNatClampNeg) then (if ¬ ((v_Mod.2.2.2.2.2.2.2.2.2.2.2.2.2.2.2.2.2.1.2 ((v_Mod.2.2.2.2.2.2.2.2.2.2.2.2.2.2.2.2.1 - (1 : Int32))).toNatClampNeg) < 0 ∨ v_Mod.2.2.2.2.2.2.2.2.2.2.2.2.2.2.2.2.2.2.2.1.1 ≤ ((v_Mod.2.2.2.2.2.2.2.2.2.2.2.2.2.2.2.2.2.1.2 ((v_Mod.2.2.2.2.2.2.2.2.2.2.2.2.2.2.2.2.1 - (1 : Int32))).toNatClampNeg)).toNatClampNeg) then (if (v_Mod.2.2.2.2.2.2.2.2.2.2.2.2.2.2.2.2.2.2.2.1.2 ((v_Mod.2.2.2.2.2.2.2.2.2.2.2.2.2.2.2.2.2.1.2 ((v_Mod.2.2.2.2.2.2.2.2.2.2.2.2.2.2.2.2.1 - (1 : Int32))).toNatClampNeg)).toNatClampNeg) ≤ x1 then (m_Mod_cut_B55 v_Mod x1) else (if ¬ ((v_Mod.2.2.2.2.2.2.2.2.2.2.2.2.2.2.2.2.1 - (1 : Int32)) < 0 ∨ v_Mod.2.2.2.2.2.2.2.2.2.2.2.2.2.2.2.2.2.1.1 ≤ ((v_Mod.2.2.2.2.2.2.2.2.2.2.2.2.2.2.2.2.1 - (1 : Int32))).toNatClampNeg) then (if ¬ ((v_Mod.2.2.2.2.2.2.2.2.2.2.2.2.2.2.2.2.2.1.2 ((v_Mod.2.2.2.2.2.2.2.2.2.2.2.2.2.2.2.2.1 - (1 : Int32))).toNatClampNeg) < 0 ∨ v_Mod.2.2.2.2.2.2.2.2.2.2.2.2.2.2.2.2.2.2.1.1 ≤ ((v_Mod.2.2.2.2.2.2.2.2.2.2.2.2.2.2.2.2.2.1.2 ((v_Mod.2.2.2.2.2.2.2.2.2.2.2.2.2.2.2.2.1 - (1 : Int32))).toNatClampNeg)).toNatClampNeg) then ((m_Mod_cut_L0 f) (v_Mod.1, v_Mod.2.1, v_Mod.2.2.1, v_Mod.2.2.2.1, v_Mod.2.2.2.2.1, v_Mod.2.2.2.2.2.1, v_Mod.2.2.2.2.2.2.1, v_Mod.2.2.2.2.2.2.2.1, v_Mod.2.2.2.2.2.2.2.2.1, v_Mod.2.2.2.2.2.2.2.2.2.1, v_Mod.2.2.2.2.2.2.2.2.2.2.1, v_Mod.2.2.2.2.2.2.2.2.2.2.2.1, v_Mod.2.2.2.2.2.2.2.2.2.2.2.2.1, v_Mod.2.2.2.2.2.2.2.2.2.2.2.2.2.1, v_Mod.2.2.2.2.2.2.2.2.2.2.2.2.2.2.1, v_Mod.2.2.2.2.2.2.2.2.2.2.2.2.2.2.2.1, (v_Mod.2.2.2.2.2.2.2.2.2.2.2.2.2.2.2.2.1 - (1 : Int32)), v_Mod.2.2.2.2.2.2.2.2.2.2.2.2.2.2.2.2.2.1, (v_Mod.2.2.2.2.2.2.2.2.2.2.2.2.2.2.2.2.2.2.1.1, (upd v_Mod.2.2.2.2.2.2.2.2.2.2.2.2.2.2.2.2.2.2.1.2 ((v_Mod.2.2.2.2.2.2.2.2.2.2.2.2.2.2.2.2.2.1.2 ((v_Mod.2.2.2.2.2.2.2.2.2.2.2.2.2.2.2.2.1 - (1 : Int32))).toNatClampNeg)).toNatClampNeg (0 : Int32))), v_Mod.2.2.2.2.2.2.2.2.2.2.2.2.2.2.2.2.2.2.2.1, v_Mod.2.2.2.2.2.2.2.2.2.2.2.2.2.2.2.2.2.2.2.2.1, v_Mod.2.2.2.2.2.2.2.2.2.2.2.2.2.2.2.2.2.2.2.2.2.1, v_Mod.2.2.2.2.2.2.2.2.2.2.2.2.2.2.2.2.2.2.2.2.2.2.1, v_Mod.2.2.2.2.2.2.2.2.2.2.2.2.2.2.2.2.2.2.2.2.2.2.2.1, v_Mod.2.2.2.2.2.2.2.2.2.2.2.2.2.2.2.2.2.2.2.2.2.2.2.2.1, v_Mod.2.2.2.2.2.2.2.2.2.2.2.2.2.2.2.2.2.2.2.2.2.2.2.2.2.1, v_Mod.2.2.2.2.2.2.2.2.2.2.2.2.2.2.2.2.2.2.2.2.2.2.2.2.2.2) x1) else none) else none)) else none) else none))
set_option maxRecDepth 100000 in
set_option maxHeartbeats 4000000 in
theorem c_Mod_cut_L0 {l : Launch} {D : va_G} {cI cL cZ : ClassId} {p : Program} {e : Env} {s : State} {m : MethodId} {args : Array Value} {below : List Frame} {meth : Method} {c : Code} {A : Nat → Prop} (o_Mod a_Mod_0 a_Mod_1 a_Mod_2 a_Mod_3 a_Mod_4 a_Mod_5 a_Mod_6 a_Mod_7 a_Mod_8 a_Mod_9 a_Mod_10 a_Mod_11 a_Mod_12 a_Mod_13 a_Mod_14 : Nat) (out : T_Mod) (X : X_Mod_cut p s m args c D cI cL cZ A) (N : nk NM0 NF0 s) (hr : meth.sig.returnType = none) (hlk : meth.locks = false) : ∀ (nn : Nat), ∀ (v_Mod : T_Mod) (x1 : Int32), m_Mod_cut_L0 nn v_Mod x1 = some out → J_Mod_cut p l e s m args below meth c D cI cL cZ A (O_Mod_cut cI cL cZ o_Mod a_Mod_0 a_Mod_1 a_Mod_2 a_Mod_3 a_Mod_4 a_Mod_5 a_Mod_6 a_Mod_7 a_Mod_8 a_Mod_9 a_Mod_10 a_Mod_11 a_Mod_12 a_Mod_13 a_Mod_14 out) 0 0 (w_Mod cI cL cZ o_Mod a_Mod_0 a_Mod_1 a_Mod_2 a_Mod_3 a_Mod_4 a_Mod_5 a_Mod_6 a_Mod_7 a_Mod_8 a_Mod_9 a_Mod_10 a_Mod_11 a_Mod_12 a_Mod_13 a_Mod_14 v_Mod) 0 0 0 [(0, .ref o_Mod), (1, .int x1)] [] := by
  intro nn
  induction nn with
  | zero => intro v_Mod x1 hm; exact absurd hm (by simp [m_Mod_cut_L0])
  | succ nn ih0 =>
    intro v_Mod x1 hm
    unfold m_Mod_cut_L0 at hm
    refine aj_aload_n X d_Mod_cut_0 0 rfl ?_
    refine aj_get X d_Mod_cut_1 in_Mod 0 rfl rfl 16 (by decide) lf_Mod_61 rfl ?_
    refine aj_if_le X 55 d_Mod_cut_4 (by decide) (fun h => ?_) (fun h => ?_)
    · have hm := ite_t hm h
      exact c_Mod_cut_B55 o_Mod a_Mod_0 a_Mod_1 a_Mod_2 a_Mod_3 a_Mod_4 a_Mod_5 a_Mod_6 a_Mod_7 a_Mod_8 a_Mod_9 a_Mod_10 a_Mod_11 a_Mod_12 a_Mod_13 a_Mod_14 out X N hr hlk v_Mod x1 hm
    · have hm := ite_f hm h
      refine aj_aload_n X d_Mod_cut_7 0 rfl ?_
      refine aj_get X d_Mod_cut_8 in_Mod 0 rfl rfl 19 (by decide) lf_Mod_70 rfl ?_
      refine aj_aload_n X d_Mod_cut_11 0 rfl ?_
      refine aj_get X d_Mod_cut_12 in_Mod 0 rfl rfl 17 (by decide) lf_Mod_64 rfl ?_
      refine aj_aload_n X d_Mod_cut_15 0 rfl ?_
      refine aj_get X d_Mod_cut_16 in_Mod 0 rfl rfl 16 (by decide) lf_Mod_61 rfl ?_
      refine aj_iconst (v := (1 : Int32)) X d_Mod_cut_19 (by decide) ?_
      refine aj_isub X d_Mod_cut_20 ?_
      obtain ⟨b1, hm⟩ := chk_of hm
      refine aj_iald X d_Mod_cut_21 10 0 rfl rfl b1 ?_
      obtain ⟨b2, hm⟩ := chk_of hm
      refine aj_iald X d_Mod_cut_22 12 0 rfl rfl b2 ?_
      refine aj_iload_n X d_Mod_cut_23 1 rfl ?_
      refine aj_icmp_le X 55 d_Mod_cut_24 (by decide) (fun h => ?_) (fun h => ?_)
      · have hm := ite_t hm h
        exact c_Mod_cut_B55 o_Mod a_Mod_0 a_Mod_1 a_Mod_2 a_Mod_3 a_Mod_4 a_Mod_5 a_Mod_6 a_Mod_7 a_Mod_8 a_Mod_9 a_Mod_10 a_Mod_11 a_Mod_12 a_Mod_13 a_Mod_14 out X N hr hlk v_Mod x1 hm
      · have hm := ite_f hm h
        refine aj_aload_n X d_Mod_cut_27 0 rfl ?_
        refine aj_dup X d_Mod_cut_28 rfl ?_
        refine aj_get X d_Mod_cut_29 in_Mod 0 rfl rfl 16 (by decide) lf_Mod_61 rfl ?_
        refine aj_iconst (v := (1 : Int32)) X d_Mod_cut_32 (by decide) ?_
        refine aj_isub X d_Mod_cut_33 ?_
        refine aj_put (ws' := w_Mod cI cL cZ o_Mod a_Mod_0 a_Mod_1 a_Mod_2 a_Mod_3 a_Mod_4 a_Mod_5 a_Mod_6 a_Mod_7 a_Mod_8 a_Mod_9 a_Mod_10 a_Mod_11 a_Mod_12 a_Mod_13 a_Mod_14 (v_Mod.1, v_Mod.2.1, v_Mod.2.2.1, v_Mod.2.2.2.1, v_Mod.2.2.2.2.1, v_Mod.2.2.2.2.2.1, v_Mod.2.2.2.2.2.2.1, v_Mod.2.2.2.2.2.2.2.1, v_Mod.2.2.2.2.2.2.2.2.1, v_Mod.2.2.2.2.2.2.2.2.2.1, v_Mod.2.2.2.2.2.2.2.2.2.2.1, v_Mod.2.2.2.2.2.2.2.2.2.2.2.1, v_Mod.2.2.2.2.2.2.2.2.2.2.2.2.1, v_Mod.2.2.2.2.2.2.2.2.2.2.2.2.2.1, v_Mod.2.2.2.2.2.2.2.2.2.2.2.2.2.2.1, v_Mod.2.2.2.2.2.2.2.2.2.2.2.2.2.2.2.1, (v_Mod.2.2.2.2.2.2.2.2.2.2.2.2.2.2.2.2.1 - (1 : Int32)), v_Mod.2.2.2.2.2.2.2.2.2.2.2.2.2.2.2.2.2.1, v_Mod.2.2.2.2.2.2.2.2.2.2.2.2.2.2.2.2.2.2.1, v_Mod.2.2.2.2.2.2.2.2.2.2.2.2.2.2.2.2.2.2.2.1, v_Mod.2.2.2.2.2.2.2.2.2.2.2.2.2.2.2.2.2.2.2.2.1, v_Mod.2.2.2.2.2.2.2.2.2.2.2.2.2.2.2.2.2.2.2.2.2.1, v_Mod.2.2.2.2.2.2.2.2.2.2.2.2.2.2.2.2.2.2.2.2.2.2.1, v_Mod.2.2.2.2.2.2.2.2.2.2.2.2.2.2.2.2.2.2.2.2.2.2.2.1, v_Mod.2.2.2.2.2.2.2.2.2.2.2.2.2.2.2.2.2.2.2.2.2.2.2.2.1, v_Mod.2.2.2.2.2.2.2.2.2.2.2.2.2.2.2.2.2.2.2.2.2.2.2.2.2.1, v_Mod.2.2.2.2.2.2.2.2.2.2.2.2.2.2.2.2.2.2.2.2.2.2.2.2.2.2)) X d_Mod_cut_34 in_Mod ty_Mod tyok_Mod nmx_Mod 0 rfl rfl 16 (by decide) lf_Mod_61 rfl rfl rfl (Nat.le_of_ble_eq_true rfl) rfl ?_
        refine aj_aload_n X d_Mod_cut_37 0 rfl ?_
        refine aj_get X d_Mod_cut_38 in_Mod 0 rfl rfl 18 (by decide) lf_Mod_67 rfl ?_
        refine aj_aload_n X d_Mod_cut_41 0 rfl ?_
        refine aj_get X d_Mod_cut_42 in_Mod 0 rfl rfl 17 (by decide) lf_Mod_64 rfl ?_
        refine aj_aload_n X d_Mod_cut_45 0 rfl ?_
        refine aj_get X d_Mod_cut_46 in_Mod 0 rfl rfl 16 (by decide) lf_Mod_61 rfl ?_
        obtain ⟨b3, hm⟩ := chk_of hm
        refine aj_iald X d_Mod_cut_49 10 0 rfl rfl b3 ?_
        refine aj_iconst (v := (0 : Int32)) X d_Mod_cut_50 (by decide) ?_
        obtain ⟨b4, hm⟩ := chk_of hm
        refine aj_iast (ws' := w_Mod cI cL cZ o_Mod a_Mod_0 a_Mod_1 a_Mod_2 a_Mod_3 a_Mod_4 a_Mod_5 a_Mod_6 a_Mod_7 a_Mod_8 a_Mod_9 a_Mod_10 a_Mod_11 a_Mod_12 a_Mod_13 a_Mod_14 (v_Mod.1, v_Mod.2.1, v_Mod.2.2.1, v_Mod.2.2.2.1, v_Mod.2.2.2.2.1, v_Mod.2.2.2.2.2.1, v_Mod.2.2.2.2.2.2.1, v_Mod.2.2.2.2.2.2.2.1, v_Mod.2.2.2.2.2.2.2.2.1, v_Mod.2.2.2.2.2.2.2.2.2.1, v_Mod.2.2.2.2.2.2.2.2.2.2.1, v_Mod.2.2.2.2.2.2.2.2.2.2.2.1, v_Mod.2.2.2.2.2.2.2.2.2.2.2.2.1, v_Mod.2.2.2.2.2.2.2.2.2.2.2.2.2.1, v_Mod.2.2.2.2.2.2.2.2.2.2.2.2.2.2.1, v_Mod.2.2.2.2.2.2.2.2.2.2.2.2.2.2.2.1, (v_Mod.2.2.2.2.2.2.2.2.2.2.2.2.2.2.2.2.1 - (1 : Int32)), v_Mod.2.2.2.2.2.2.2.2.2.2.2.2.2.2.2.2.2.1, (v_Mod.2.2.2.2.2.2.2.2.2.2.2.2.2.2.2.2.2.2.1.1, (upd v_Mod.2.2.2.2.2.2.2.2.2.2.2.2.2.2.2.2.2.2.1.2 ((v_Mod.2.2.2.2.2.2.2.2.2.2.2.2.2.2.2.2.2.1.2 ((v_Mod.2.2.2.2.2.2.2.2.2.2.2.2.2.2.2.2.1 - (1 : Int32))).toNatClampNeg)).toNatClampNeg (0 : Int32))), v_Mod.2.2.2.2.2.2.2.2.2.2.2.2.2.2.2.2.2.2.2.1, v_Mod.2.2.2.2.2.2.2.2.2.2.2.2.2.2.2.2.2.2.2.2.1, v_Mod.2.2.2.2.2.2.2.2.2.2.2.2.2.2.2.2.2.2.2.2.2.1, v_Mod.2.2.2.2.2.2.2.2.2.2.2.2.2.2.2.2.2.2.2.2.2.2.1, v_Mod.2.2.2.2.2.2.2.2.2.2.2.2.2.2.2.2.2.2.2.2.2.2.2.1, v_Mod.2.2.2.2.2.2.2.2.2.2.2.2.2.2.2.2.2.2.2.2.2.2.2.2.1, v_Mod.2.2.2.2.2.2.2.2.2.2.2.2.2.2.2.2.2.2.2.2.2.2.2.2.2.1, v_Mod.2.2.2.2.2.2.2.2.2.2.2.2.2.2.2.2.2.2.2.2.2.2.2.2.2.2)) X d_Mod_cut_51 11 0 rfl rfl b4 rfl ?_
        refine aj_goto X 0 d_Mod_cut_52 (by decide) ?_
        exact ih0 (v_Mod.1, v_Mod.2.1, v_Mod.2.2.1, v_Mod.2.2.2.1, v_Mod.2.2.2.2.1, v_Mod.2.2.2.2.2.1, v_Mod.2.2.2.2.2.2.1, v_Mod.2.2.2.2.2.2.2.1, v_Mod.2.2.2.2.2.2.2.2.1, v_Mod.2.2.2.2.2.2.2.2.2.1, v_Mod.2.2.2.2.2.2.2.2.2.2.1, v_Mod.2.2.2.2.2.2.2.2.2.2.2.1, v_Mod.2.2.2.2.2.2.2.2.2.2.2.2.1, v_Mod.2.2.2.2.2.2.2.2.2.2.2.2.2.1, v_Mod.2.2.2.2.2.2.2.2.2.2.2.2.2.2.1, v_Mod.2.2.2.2.2.2.2.2.2.2.2.2.2.2.2.1, (v_Mod.2.2.2.2.2.2.2.2.2.2.2.2.2.2.2.2.1 - (1 : Int32)), v_Mod.2.2.2.2.2.2.2.2.2.2.2.2.2.2.2.2.2.1, (v_Mod.2.2.2.2.2.2.2.2.2.2.2.2.2.2.2.2.2.2.1.1, (upd v_Mod.2.2.2.2.2.2.2.2.2.2.2.2.2.2.2.2.2.2.1.2 ((v_Mod.2.2.2.2.2.2.2.2.2.2.2.2.2.2.2.2.2.1.2 ((v_Mod.2.2.2.2.2.2.2.2.2.2.2.2.2.2.2.2.1 - (1 : Int32))).toNatClampNeg)).toNatClampNeg (0 : Int32))), v_Mod.2.2.2.2.2.2.2.2.2.2.2.2.2.2.2.2.2.2.2.1, v_Mod.2.2.2.2.2.2.2.2.2.2.2.2.2.2.2.2.2.2.2.2.1, v_Mod.2.2.2.2.2.2.2.2.2.2.2.2.2.2.2.2.2.2.2.2.2.1, v_Mod.2.2.2.2.2.2.2.2.2.2.2.2.2.2.2.2.2.2.2.2.2.2.1, v_Mod.2.2.2.2.2.2.2.2.2.2.2.2.2.2.2.2.2.2.2.2.2.2.2.1, v_Mod.2.2.2.2.2.2.2.2.2.2.2.2.2.2.2.2.2.2.2.2.2.2.2.2.1, v_Mod.2.2.2.2.2.2.2.2.2.2.2.2.2.2.2.2.2.2.2.2.2.2.2.2.2.1, v_Mod.2.2.2.2.2.2.2.2.2.2.2.2.2.2.2.2.2.2.2.2.2.2.2.2.2.2) x1 hm
def m_Mod_cut (v_Mod : T_Mod) (x1 : Int32) : Option (T_Mod) := (m_Mod_cut_L0 fu v_Mod x1)
set_option maxRecDepth 100000 in
set_option maxHeartbeats 4000000 in
theorem c_Mod_cut {l : Launch} {D : va_G} {cI cL cZ : ClassId} (o_Mod a_Mod_0 a_Mod_1 a_Mod_2 a_Mod_3 a_Mod_4 a_Mod_5 a_Mod_6 a_Mod_7 a_Mod_8 a_Mod_9 a_Mod_10 a_Mod_11 a_Mod_12 a_Mod_13 a_Mod_14 : Nat) (v_Mod : T_Mod) (x1 : Int32) (out : T_Mod) (hm : m_Mod_cut v_Mod x1 = some out) : ct l y_Mod_cut (Cond.code y_Mod_cut b_Mod_cut 2 none :: TB) 0 0 D clss (ty3 cI cL cZ) NM0 NF0 [.ref o_Mod, .int x1] (w_Mod cI cL cZ o_Mod a_Mod_0 a_Mod_1 a_Mod_2 a_Mod_3 a_Mod_4 a_Mod_5 a_Mod_6 a_Mod_7 a_Mod_8 a_Mod_9 a_Mod_10 a_Mod_11 a_Mod_12 a_Mod_13 a_Mod_14 v_Mod) (qV D clss (ty3 cI cL cZ) (O_Mod_cut cI cL cZ o_Mod a_Mod_0 a_Mod_1 a_Mod_2 a_Mod_3 a_Mod_4 a_Mod_5 a_Mod_6 a_Mod_7 a_Mod_8 a_Mod_9 a_Mod_10 a_Mod_11 a_Mod_12 a_Mod_13 a_Mod_14 out)) 0 0 := by
  refine ct_of (plainFor_of_name (by decide)) (Nat.le_of_ble_eq_true rfl) (fun p e s m args below meth c A X N hr hlk hnm => ?_)
  refine aj_lv (lv' := [(0, .ref o_Mod), (1, .int x1)]) [0, 1] rfl ?_
  unfold m_Mod_cut at hm
  exact c_Mod_cut_L0 o_Mod a_Mod_0 a_Mod_1 a_Mod_2 a_Mod_3 a_Mod_4 a_Mod_5 a_Mod_6 a_Mod_7 a_Mod_8 a_Mod_9 a_Mod_10 a_Mod_11 a_Mod_12 a_Mod_13 a_Mod_14 out X N hr hlk fu v_Mod x1 hm
abbrev X_Mod_how (p : Program) (s : State) (m : MethodId) (args : Array Value) (c : Code) (D : va_G) (cI cL cZ : ClassId) (A : Nat → Prop) : Prop := aj_C p s m args c D clss (ty3 cI cL cZ) A b_Mod_how 4 R_Mod TB
abbrev J_Mod_how (p : Program) (l : Launch) (e : Env) (s : State) (m : MethodId) (args : Array Value) (below : List Frame) (meth : Method) (c : Code) (D : va_G) (cI cL cZ : ClassId) (A : Nat → Prop) (O : Int32 → va_W → Prop) (mc ms : Nat) (ws : va_W) (kc ks pc : Nat) (lv : List (Nat × Value)) (st : List Value) : Prop := aj p l e { frames := 1, cells := mc, slots := ms, locals := 21 } s m args below meth c (MQ below (qI D clss (ty3 cI cL cZ) O A) args s mc ms A) D clss A 4 ws kc ks pc lv st
def O_Mod_how (cI cL cZ : ClassId) (o_Mod a_Mod_0 a_Mod_1 a_Mod_2 a_Mod_3 a_Mod_4 a_Mod_5 a_Mod_6 a_Mod_7 a_Mod_8 a_Mod_9 a_Mod_10 a_Mod_11 a_Mod_12 a_Mod_13 a_Mod_14 : Nat) (v_Mod : T_Mod) (out : Int32) : Int32 → va_W → Prop := fun r w1 => out = r ∧ w1 = w_Mod cI cL cZ o_Mod a_Mod_0 a_Mod_1 a_Mod_2 a_Mod_3 a_Mod_4 a_Mod_5 a_Mod_6 a_Mod_7 a_Mod_8 a_Mod_9 a_Mod_10 a_Mod_11 a_Mod_12 a_Mod_13 a_Mod_14 v_Mod
def m_Mod_how_B52 (v_Mod : T_Mod) (again9 : Int32 → Int32 → Int32 → Option (Int32)) (x1 : Int32) (x2 : Int32) (x3 : Int32) : Option (Int32) := (again9 x1 x2 (x3 + 1))
set_option maxRecDepth 100000 in
set_option maxHeartbeats 4000000 in
theorem c_Mod_how_B52 {l : Launch} {D : va_G} {cI cL cZ : ClassId} {p : Program} {e : Env} {s : State} {m : MethodId} {args : Array Value} {below : List Frame} {meth : Method} {c : Code} {A : Nat → Prop} (o_Mod a_Mod_0 a_Mod_1 a_Mod_2 a_Mod_3 a_Mod_4 a_Mod_5 a_Mod_6 a_Mod_7 a_Mod_8 a_Mod_9 a_Mod_10 a_Mod_11 a_Mod_12 a_Mod_13 a_Mod_14 : Nat) (v_Mod : T_Mod) (out : Int32) (X : X_Mod_how p s m args c D cI cL cZ A) (N : nk NM0 NF0 s) (hr : meth.sig.returnType = some .int) (hlk : meth.locks = false) (again9 : Int32 → Int32 → Int32 → Option (Int32)) (ih9 : ∀ (x1 : Int32) (x2 : Int32) (x3 : Int32), again9 x1 x2 x3 = some out → J_Mod_how p l e s m args below meth c D cI cL cZ A (O_Mod_how cI cL cZ o_Mod a_Mod_0 a_Mod_1 a_Mod_2 a_Mod_3 a_Mod_4 a_Mod_5 a_Mod_6 a_Mod_7 a_Mod_8 a_Mod_9 a_Mod_10 a_Mod_11 a_Mod_12 a_Mod_13 a_Mod_14 v_Mod out) 0 0 (w_Mod cI cL cZ o_Mod a_Mod_0 a_Mod_1 a_Mod_2 a_Mod_3 a_Mod_4 a_Mod_5 a_Mod_6 a_Mod_7 a_Mod_8 a_Mod_9 a_Mod_10 a_Mod_11 a_Mod_12 a_Mod_13 a_Mod_14 v_Mod) 0 0 9 [(0, .ref o_Mod), (1, .int x1), (2, .int x2), (3, .int x3)] []) : ∀ (x1 : Int32) (x2 : Int32) (x3 : Int32), m_Mod_how_B52 v_Mod again9 x1 x2 x3 = some out → J_Mod_how p l e s m args below meth c D cI cL cZ A (O_Mod_how cI cL cZ o_Mod a_Mod_0 a_Mod_1 a_Mod_2 a_Mod_3 a_Mod_4 a_Mod_5 a_Mod_6 a_Mod_7 a_Mod_8 a_Mod_9 a_Mod_10 a_Mod_11 a_Mod_12 a_Mod_13 a_Mod_14 v_Mod out) 0 0 (w_Mod cI cL cZ o_Mod a_Mod_0 a_Mod_1 a_Mod_2 a_Mod_3 a_Mod_4 a_Mod_5 a_Mod_6 a_Mod_7 a_Mod_8 a_Mod_9 a_Mod_10 a_Mod_11 a_Mod_12 a_Mod_13 a_Mod_14 v_Mod) 0 0 52 [(0, .ref o_Mod), (1, .int x1), (2, .int x2), (3, .int x3)] [] := by
  intro x1 x2 x3 hm
  unfold m_Mod_how_B52 at hm
  refine aj_iinc (v := (x3 + 1)) (lv' := [(3, .int (x3 + 1)), (0, .ref o_Mod), (1, .int x1), (2, .int x2)]) X d_Mod_how_52 3 rfl rfl (by decide) rfl ?_
  refine aj_goto X 9 d_Mod_how_55 (by decide) ?_
  refine aj_lv (lv' := [(0, .ref o_Mod), (1, .int x1), (2, .int x2), (3, .int (x3 + 1))]) [1, 2, 3, 0] rfl ?_
  exact ih9 x1 x2 (x3 + 1) hm
def m_Mod_how_L9 (v_Mod : T_Mod) : Nat → Int32 → Int32 → Int32 → Option (Int32)
  | 0, _, _, _ => none
  | f + 1, x1, x2, x3 => (if ¬ ((x1 + (1 : Int32)) < 0 ∨ v_Mod.2.2.2.1.1 ≤ ((x1 + (1 : Int32))).toNatClampNeg) then (if (v_Mod.2.2.2.1.2 ((x1 + (1 : Int32))).toNatClampNeg) ≤ x3 then (if x2 = 0 then (some (2 : Int32)) else (if x2 = (1 : Int32) then (some (1 : Int32)) else (some (0 : Int32)))) else (if ¬ (x3 < 0 ∨ v_Mod.2.2.1.1 ≤ (x3).toNatClampNeg) then ((m_Mod_holds v_Mod (v_Mod.2.2.1.2 (x3).toNatClampNeg)).bind fun r7 => (if r7 = 0 then (if ¬ (x3 < 0 ∨ v_Mod.2.2.1.1 ≤ (x3).toNatClampNeg) then ((m_Mod_against v_Mod (v_Mod.2.2.1.2 (x3).toNatClampNeg)).bind fun r10 => (if r10 = 0 then (m_Mod_how_B52 v_Mod (m_Mod_how_L9 v_Mod f) x1 (x2 + 1) x3) else (m_Mod_how_B52 v_Mod (m_Mod_how_L9 v_Mod f) x1 x2 x3))) else none) else (some (0 : Int32)))) else none)) else none)
set_option maxRecDepth 100000 in
set_option maxHeartbeats 4000000 in
theorem c_Mod_how_L9 {l : Launch} {D : va_G} {cI cL cZ : ClassId} {p : Program} {e : Env} {s : State} {m : MethodId} {args : Array Value} {below : List Frame} {meth : Method} {c : Code} {A : Nat → Prop} (o_Mod a_Mod_0 a_Mod_1 a_Mod_2 a_Mod_3 a_Mod_4 a_Mod_5 a_Mod_6 a_Mod_7 a_Mod_8 a_Mod_9 a_Mod_10 a_Mod_11 a_Mod_12 a_Mod_13 a_Mod_14 : Nat) (v_Mod : T_Mod) (out : Int32) (X : X_Mod_how p s m args c D cI cL cZ A) (N : nk NM0 NF0 s) (hr : meth.sig.returnType = some .int) (hlk : meth.locks = false) : ∀ (nn : Nat), ∀ (x1 : Int32) (x2 : Int32) (x3 : Int32), m_Mod_how_L9 v_Mod nn x1 x2 x3 = some out → J_Mod_how p l e s m args below meth c D cI cL cZ A (O_Mod_how cI cL cZ o_Mod a_Mod_0 a_Mod_1 a_Mod_2 a_Mod_3 a_Mod_4 a_Mod_5 a_Mod_6 a_Mod_7 a_Mod_8 a_Mod_9 a_Mod_10 a_Mod_11 a_Mod_12 a_Mod_13 a_Mod_14 v_Mod out) 0 0 (w_Mod cI cL cZ o_Mod a_Mod_0 a_Mod_1 a_Mod_2 a_Mod_3 a_Mod_4 a_Mod_5 a_Mod_6 a_Mod_7 a_Mod_8 a_Mod_9 a_Mod_10 a_Mod_11 a_Mod_12 a_Mod_13 a_Mod_14 v_Mod) 0 0 9 [(0, .ref o_Mod), (1, .int x1), (2, .int x2), (3, .int x3)] [] := by
  intro nn
  induction nn with
  | zero => intro x1 x2 x3 hm; exact absurd hm (by simp [m_Mod_how_L9])
  | succ nn ih9 =>
    intro x1 x2 x3 hm
    unfold m_Mod_how_L9 at hm
    refine aj_iload_n X d_Mod_how_9 3 rfl ?_
    refine aj_aload_n X d_Mod_how_10 0 rfl ?_
    refine aj_get X d_Mod_how_11 in_Mod 0 rfl rfl 3 (by decide) lf_Mod_20 rfl ?_
    refine aj_iload_n X d_Mod_how_14 1 rfl ?_
    refine aj_iconst (v := (1 : Int32)) X d_Mod_how_15 (by decide) ?_
    refine aj_iadd X d_Mod_how_16 ?_
    obtain ⟨b5, hm⟩ := chk_of hm
    refine aj_iald X d_Mod_how_17 2 0 rfl rfl b5 ?_
    refine aj_icmp_ge X 58 d_Mod_how_18 (by decide) (fun h => ?_) (fun h => ?_)
    · have hm := ite_t hm h
      refine aj_iload_n X d_Mod_how_58 2 rfl ?_
      refine aj_if_ne X 66 d_Mod_how_59 (by decide) (fun h => ?_) (fun h => ?_)
      · have hm := ite_f hm h
        refine aj_iload_n X d_Mod_how_66 2 rfl ?_
        refine aj_iconst (v := (1 : Int32)) X d_Mod_how_67 (by decide) ?_
        refine aj_icmp_ne X 75 d_Mod_how_68 (by decide) (fun h => ?_) (fun h => ?_)
        · have hm := ite_f hm h
          refine aj_iconst (v := (0 : Int32)) X d_Mod_how_75 (by decide) ?_
          have ho := Option.some.inj hm
          subst ho
          exact aj_iret X d_Mod_how_76 hr hlk [0, 1, 2, 3, 4, 5, 6, 7, 8, 9, 10, 11, 12, 13, 14, 15] (w_Mod cI cL cZ o_Mod a_Mod_0 a_Mod_1 a_Mod_2 a_Mod_3 a_Mod_4 a_Mod_5 a_Mod_6 a_Mod_7 a_Mod_8 a_Mod_9 a_Mod_10 a_Mod_11 a_Mod_12 a_Mod_13 a_Mod_14 v_Mod) rfl rfl ⟨rfl, rfl⟩
        · have hm := ite_t hm h
          refine aj_iconst (v := (1 : Int32)) X d_Mod_how_71 (by decide) ?_
          refine aj_goto X 76 d_Mod_how_72 (by decide) ?_
          have ho := Option.some.inj hm
          subst ho
          exact aj_iret X d_Mod_how_76 hr hlk [0, 1, 2, 3, 4, 5, 6, 7, 8, 9, 10, 11, 12, 13, 14, 15] (w_Mod cI cL cZ o_Mod a_Mod_0 a_Mod_1 a_Mod_2 a_Mod_3 a_Mod_4 a_Mod_5 a_Mod_6 a_Mod_7 a_Mod_8 a_Mod_9 a_Mod_10 a_Mod_11 a_Mod_12 a_Mod_13 a_Mod_14 v_Mod) rfl rfl ⟨rfl, rfl⟩
      · have hm := ite_t hm h
        refine aj_iconst (v := (2 : Int32)) X d_Mod_how_62 (by decide) ?_
        refine aj_goto X 76 d_Mod_how_63 (by decide) ?_
        have ho := Option.some.inj hm
        subst ho
        exact aj_iret X d_Mod_how_76 hr hlk [0, 1, 2, 3, 4, 5, 6, 7, 8, 9, 10, 11, 12, 13, 14, 15] (w_Mod cI cL cZ o_Mod a_Mod_0 a_Mod_1 a_Mod_2 a_Mod_3 a_Mod_4 a_Mod_5 a_Mod_6 a_Mod_7 a_Mod_8 a_Mod_9 a_Mod_10 a_Mod_11 a_Mod_12 a_Mod_13 a_Mod_14 v_Mod) rfl rfl ⟨rfl, rfl⟩
    · have hm := ite_f hm h
      refine aj_aload_n X d_Mod_how_21 0 rfl ?_
      refine aj_aload_n X d_Mod_how_22 0 rfl ?_
      refine aj_get X d_Mod_how_23 in_Mod 0 rfl rfl 2 (by decide) lf_Mod_16 rfl ?_
      refine aj_iload_n X d_Mod_how_26 3 rfl ?_
      obtain ⟨b6, hm⟩ := chk_of hm
      refine aj_iald X d_Mod_how_27 1 0 rfl rfl b6 ?_
      obtain ⟨r7, h8, hm⟩ := bnd_of hm
      refine aj_callI (wr := []) X (aj_rV (As := [.int (v_Mod.2.2.1.2 (x3).toNatClampNeg)]) (rest := []) X N gTB (c_Mod_holds (D := D) (cI := cI) (cL := cL) (cZ := cZ) o_Mod a_Mod_0 a_Mod_1 a_Mod_2 a_Mod_3 a_Mod_4 a_Mod_5 a_Mod_6 a_Mod_7 a_Mod_8 a_Mod_9 a_Mod_10 a_Mod_11 a_Mod_12 a_Mod_13 a_Mod_14 v_Mod (v_Mod.2.2.1.2 (x3).toNatClampNeg) r7 h8) d_Mod_how_28 lk_Mod_holds lw_Mod_95 lh_Mod_holds ⟨(Nat.le_of_ble_eq_true rfl), (Nat.le_of_ble_eq_true rfl)⟩ [0, 1, 2, 3, 4, 5, 6, 7, 8, 9, 10, 11, 12, 13, 14, 15] rfl rfl 0 rfl rfl rfl rfl (Nat.le_of_ble_eq_true rfl) ⟨Nat.le_refl _, Nat.le_refl _⟩) [0, 1, 2, 3, 4, 5, 6, 7, 8, 9, 10, 11, 12, 13, 14, 15] [] rfl rfl rfl (by decide) (fun rr w1 hO => ?_)
      obtain ⟨rfl, rfl⟩ := hO
      refine aj_perm (ws' := w_Mod cI cL cZ o_Mod a_Mod_0 a_Mod_1 a_Mod_2 a_Mod_3 a_Mod_4 a_Mod_5 a_Mod_6 a_Mod_7 a_Mod_8 a_Mod_9 a_Mod_10 a_Mod_11 a_Mod_12 a_Mod_13 a_Mod_14 v_Mod) [0, 1, 2, 3, 4, 5, 6, 7, 8, 9, 10, 11, 12, 13, 14, 15] rfl rfl ?_
      refine aj_if_eq X 36 d_Mod_how_31 (by decide) (fun h => ?_) (fun h => ?_)
      · have hm := ite_t hm h
        refine aj_aload_n X d_Mod_how_36 0 rfl ?_
        refine aj_aload_n X d_Mod_how_37 0 rfl ?_
        refine aj_get X d_Mod_how_38 in_Mod 0 rfl rfl 2 (by decide) lf_Mod_16 rfl ?_
        refine aj_iload_n X d_Mod_how_41 3 rfl ?_
        obtain ⟨b9, hm⟩ := chk_of hm
        refine aj_iald X d_Mod_how_42 1 0 rfl rfl b9 ?_
        obtain ⟨r10, h11, hm⟩ := bnd_of hm
        refine aj_callI (wr := []) X (aj_rV (As := [.int (v_Mod.2.2.1.2 (x3).toNatClampNeg)]) (rest := []) X N gTB (c_Mod_against (D := D) (cI := cI) (cL := cL) (cZ := cZ) o_Mod a_Mod_0 a_Mod_1 a_Mod_2 a_Mod_3 a_Mod_4 a_Mod_5 a_Mod_6 a_Mod_7 a_Mod_8 a_Mod_9 a_Mod_10 a_Mod_11 a_Mod_12 a_Mod_13 a_Mod_14 v_Mod (v_Mod.2.2.1.2 (x3).toNatClampNeg) r10 h11) d_Mod_how_43 lk_Mod_against lw_Mod_99 lh_Mod_against ⟨(Nat.le_of_ble_eq_true rfl), (Nat.le_of_ble_eq_true rfl)⟩ [0, 1, 2, 3, 4, 5, 6, 7, 8, 9, 10, 11, 12, 13, 14, 15] rfl rfl 0 rfl rfl rfl rfl (Nat.le_of_ble_eq_true rfl) ⟨Nat.le_refl _, Nat.le_refl _⟩) [0, 1, 2, 3, 4, 5, 6, 7, 8, 9, 10, 11, 12, 13, 14, 15] [] rfl rfl rfl (by decide) (fun rr w1 hO => ?_)
        obtain ⟨rfl, rfl⟩ := hO
        refine aj_perm (ws' := w_Mod cI cL cZ o_Mod a_Mod_0 a_Mod_1 a_Mod_2 a_Mod_3 a_Mod_4 a_Mod_5 a_Mod_6 a_Mod_7 a_Mod_8 a_Mod_9 a_Mod_10 a_Mod_11 a_Mod_12 a_Mod_13 a_Mod_14 v_Mod) [0, 1, 2, 3, 4, 5, 6, 7, 8, 9, 10, 11, 12, 13, 14, 15] rfl rfl ?_
        refine aj_if_ne X 52 d_Mod_how_46 (by decide) (fun h => ?_) (fun h => ?_)
        · have hm := ite_f hm h
          exact c_Mod_how_B52 o_Mod a_Mod_0 a_Mod_1 a_Mod_2 a_Mod_3 a_Mod_4 a_Mod_5 a_Mod_6 a_Mod_7 a_Mod_8 a_Mod_9 a_Mod_10 a_Mod_11 a_Mod_12 a_Mod_13 a_Mod_14 v_Mod out X N hr hlk (m_Mod_how_L9 v_Mod nn) ih9 x1 x2 x3 hm
        · have hm := ite_t hm h
          refine aj_iinc (v := (x2 + 1)) (lv' := [(2, .int (x2 + 1)), (0, .ref o_Mod), (1, .int x1), (3, .int x3)]) X d_Mod_how_49 2 rfl rfl (by decide) rfl ?_
          refine aj_lv (lv' := [(0, .ref o_Mod), (1, .int x1), (2, .int (x2 + 1)), (3, .int x3)]) [1, 2, 0, 3] rfl ?_
          exact c_Mod_how_B52 o_Mod a_Mod_0 a_Mod_1 a_Mod_2 a_Mod_3 a_Mod_4 a_Mod_5 a_Mod_6 a_Mod_7 a_Mod_8 a_Mod_9 a_Mod_10 a_Mod_11 a_Mod_12 a_Mod_13 a_Mod_14 v_Mod out X N hr hlk (m_Mod_how_L9 v_Mod nn) ih9 x1 (x2 + 1) x3 hm
      · have hm := ite_f hm h
        refine aj_iconst (v := (0 : Int32)) X d_Mod_how_34 (by decide) ?_
        have ho := Option.some.inj hm
        subst ho
        exact aj_iret X d_Mod_how_35 hr hlk [0, 1, 2, 3, 4, 5, 6, 7, 8, 9, 10, 11, 12, 13, 14, 15] (w_Mod cI cL cZ o_Mod a_Mod_0 a_Mod_1 a_Mod_2 a_Mod_3 a_Mod_4 a_Mod_5 a_Mod_6 a_Mod_7 a_Mod_8 a_Mod_9 a_Mod_10 a_Mod_11 a_Mod_12 a_Mod_13 a_Mod_14 v_Mod) rfl rfl ⟨rfl, rfl⟩
def m_Mod_how (v_Mod : T_Mod) (x1 : Int32) : Option (Int32) := (if ¬ (x1 < 0 ∨ v_Mod.2.2.2.1.1 ≤ (x1).toNatClampNeg) then (m_Mod_how_L9 v_Mod fu x1 (0 : Int32) (v_Mod.2.2.2.1.2 (x1).toNatClampNeg)) else none)
set_option maxRecDepth 100000 in
set_option maxHeartbeats 4000000 in
theorem c_Mod_how {l : Launch} {D : va_G} {cI cL cZ : ClassId} (o_Mod a_Mod_0 a_Mod_1 a_Mod_2 a_Mod_3 a_Mod_4 a_Mod_5 a_Mod_6 a_Mod_7 a_Mod_8 a_Mod_9 a_Mod_10 a_Mod_11 a_Mod_12 a_Mod_13 a_Mod_14 : Nat) (v_Mod : T_Mod) (x1 : Int32) (out : Int32) (hm : m_Mod_how v_Mod x1 = some out) : ct l y_Mod_how (Cond.code y_Mod_how b_Mod_how 4 (some .int) :: TB) 1 21 D clss (ty3 cI cL cZ) NM0 NF0 [.ref o_Mod, .int x1] (w_Mod cI cL cZ o_Mod a_Mod_0 a_Mod_1 a_Mod_2 a_Mod_3 a_Mod_4 a_Mod_5 a_Mod_6 a_Mod_7 a_Mod_8 a_Mod_9 a_Mod_10 a_Mod_11 a_Mod_12 a_Mod_13 a_Mod_14 v_Mod) (qI D clss (ty3 cI cL cZ) (O_Mod_how cI cL cZ o_Mod a_Mod_0 a_Mod_1 a_Mod_2 a_Mod_3 a_Mod_4 a_Mod_5 a_Mod_6 a_Mod_7 a_Mod_8 a_Mod_9 a_Mod_10 a_Mod_11 a_Mod_12 a_Mod_13 a_Mod_14 v_Mod out)) 0 0 := by
  refine ct_of (plainFor_of_name (by decide)) (Nat.le_of_ble_eq_true rfl) (fun p e s m args below meth c A X N hr hlk hnm => ?_)
  refine aj_lv (lv' := [(0, .ref o_Mod), (1, .int x1)]) [0, 1] rfl ?_
  unfold m_Mod_how at hm
  refine aj_iconst (v := (0 : Int32)) X d_Mod_how_0 (by decide) ?_
  refine aj_istore_n (lv' := [(2, .int (0 : Int32)), (0, .ref o_Mod), (1, .int x1)]) X d_Mod_how_1 rfl (by decide) rfl ?_
  refine aj_aload_n X d_Mod_how_2 1 rfl ?_
  refine aj_get X d_Mod_how_3 in_Mod 0 rfl rfl 3 (by decide) lf_Mod_20 rfl ?_
  refine aj_iload_n X d_Mod_how_6 2 rfl ?_
  obtain ⟨b12, hm⟩ := chk_of hm
  refine aj_iald X d_Mod_how_7 2 0 rfl rfl b12 ?_
  refine aj_istore_n (lv' := [(3, .int (v_Mod.2.2.2.1.2 (x1).toNatClampNeg)), (2, .int (0 : Int32)), (0, .ref o_Mod), (1, .int x1)]) X d_Mod_how_8 rfl (by decide) rfl ?_
  refine aj_lv (lv' := [(0, .ref o_Mod), (1, .int x1), (2, .int (0 : Int32)), (3, .int (v_Mod.2.2.2.1.2 (x1).toNatClampNeg))]) [2, 3, 1, 0] rfl ?_
  exact c_Mod_how_L9 o_Mod a_Mod_0 a_Mod_1 a_Mod_2 a_Mod_3 a_Mod_4 a_Mod_5 a_Mod_6 a_Mod_7 a_Mod_8 a_Mod_9 a_Mod_10 a_Mod_11 a_Mod_12 a_Mod_13 a_Mod_14 v_Mod out X N hr hlk fu x1 (0 : Int32) (v_Mod.2.2.2.1.2 (x1).toNatClampNeg) hm
abbrev X_Mod_step (p : Program) (s : State) (m : MethodId) (args : Array Value) (c : Code) (D : va_G) (cI cL cZ : ClassId) (A : Nat → Prop) : Prop := aj_C p s m args c D clss (ty3 cI cL cZ) A b_Mod_step 1 R_Mod TB
abbrev J_Mod_step (p : Program) (l : Launch) (e : Env) (s : State) (m : MethodId) (args : Array Value) (below : List Frame) (meth : Method) (c : Code) (D : va_G) (cI cL cZ : ClassId) (A : Nat → Prop) (O : Int32 → va_W → Prop) (mc ms : Nat) (ws : va_W) (kc ks pc : Nat) (lv : List (Nat × Value)) (st : List Value) : Prop := aj p l e { frames := 0, cells := mc, slots := ms, locals := 0 } s m args below meth c (MQ below (qI D clss (ty3 cI cL cZ) O A) args s mc ms A) D clss A 1 ws kc ks pc lv st
def O_Mod_step (cI cL cZ : ClassId) (o_Mod a_Mod_0 a_Mod_1 a_Mod_2 a_Mod_3 a_Mod_4 a_Mod_5 a_Mod_6 a_Mod_7 a_Mod_8 a_Mod_9 a_Mod_10 a_Mod_11 a_Mod_12 a_Mod_13 a_Mod_14 : Nat) (out : T_Mod × Int32) : Int32 → va_W → Prop := fun r w1 => out.2 = r ∧ w1 = w_Mod cI cL cZ o_Mod a_Mod_0 a_Mod_1 a_Mod_2 a_Mod_3 a_Mod_4 a_Mod_5 a_Mod_6 a_Mod_7 a_Mod_8 a_Mod_9 a_Mod_10 a_Mod_11 a_Mod_12 a_Mod_13 a_Mod_14 out.1
def m_Mod_step (v_Mod : T_Mod) : Option (T_Mod × Int32) := (if 0 < (lg_cmp v_Mod.2.2.2.2.2.2.2.2.2.2.2.2.2.2.2.2.2.2.2.2.2.2.2.2.1 (0 : Int64)) then (some ((v_Mod.1, v_Mod.2.1, v_Mod.2.2.1, v_Mod.2.2.2.1, v_Mod.2.2.2.2.1, v_Mod.2.2.2.2.2.1, v_Mod.2.2.2.2.2.2.1, v_Mod.2.2.2.2.2.2.2.1, v_Mod.2.2.2.2.2.2.2.2.1, v_Mod.2.2.2.2.2.2.2.2.2.1, v_Mod.2.2.2.2.2.2.2.2.2.2.1, v_Mod.2.2.2.2.2.2.2.2.2.2.2.1, v_Mod.2.2.2.2.2.2.2.2.2.2.2.2.1, v_Mod.2.2.2.2.2.2.2.2.2.2.2.2.2.1, v_Mod.2.2.2.2.2.2.2.2.2.2.2.2.2.2.1, v_Mod.2.2.2.2.2.2.2.2.2.2.2.2.2.2.2.1, v_Mod.2.2.2.2.2.2.2.2.2.2.2.2.2.2.2.2.1, v_Mod.2.2.2.2.2.2.2.2.2.2.2.2.2.2.2.2.2.1, v_Mod.2.2.2.2.2.2.2.2.2.2.2.2.2.2.2.2.2.2.1, v_Mod.2.2.2.2.2.2.2.2.2.2.2.2.2.2.2.2.2.2.2.1, v_Mod.2.2.2.2.2.2.2.2.2.2.2.2.2.2.2.2.2.2.2.2.1, v_Mod.2.2.2.2.2.2.2.2.2.2.2.2.2.2.2.2.2.2.2.2.2.1, v_Mod.2.2.2.2.2.2.2.2.2.2.2.2.2.2.2.2.2.2.2.2.2.2.1, v_Mod.2.2.2.2.2.2.2.2.2.2.2.2.2.2.2.2.2.2.2.2.2.2.2.1, (v_Mod.2.2.2.2.2.2.2.2.2.2.2.2.2.2.2.2.2.2.2.2.2.2.2.2.1 - (1 : Int64)), (v_Mod.2.2.2.2.2.2.2.2.2.2.2.2.2.2.2.2.2.2.2.2.2.2.2.2.2.1 + (1 : Int64)), v_Mod.2.2.2.2.2.2.2.2.2.2.2.2.2.2.2.2.2.2.2.2.2.2.2.2.2.2), (1 : Int32))) else (some ((v_Mod.1, v_Mod.2.1, v_Mod.2.2.1, v_Mod.2.2.2.1, v_Mod.2.2.2.2.1, v_Mod.2.2.2.2.2.1, v_Mod.2.2.2.2.2.2.1, v_Mod.2.2.2.2.2.2.2.1, v_Mod.2.2.2.2.2.2.2.2.1, v_Mod.2.2.2.2.2.2.2.2.2.1, v_Mod.2.2.2.2.2.2.2.2.2.2.1, v_Mod.2.2.2.2.2.2.2.2.2.2.2.1, v_Mod.2.2.2.2.2.2.2.2.2.2.2.2.1, v_Mod.2.2.2.2.2.2.2.2.2.2.2.2.2.1, v_Mod.2.2.2.2.2.2.2.2.2.2.2.2.2.2.1, v_Mod.2.2.2.2.2.2.2.2.2.2.2.2.2.2.2.1, v_Mod.2.2.2.2.2.2.2.2.2.2.2.2.2.2.2.2.1, v_Mod.2.2.2.2.2.2.2.2.2.2.2.2.2.2.2.2.2.1, v_Mod.2.2.2.2.2.2.2.2.2.2.2.2.2.2.2.2.2.2.1, v_Mod.2.2.2.2.2.2.2.2.2.2.2.2.2.2.2.2.2.2.2.1, v_Mod.2.2.2.2.2.2.2.2.2.2.2.2.2.2.2.2.2.2.2.2.1, v_Mod.2.2.2.2.2.2.2.2.2.2.2.2.2.2.2.2.2.2.2.2.2.1, v_Mod.2.2.2.2.2.2.2.2.2.2.2.2.2.2.2.2.2.2.2.2.2.2.1, (3 : Int32), v_Mod.2.2.2.2.2.2.2.2.2.2.2.2.2.2.2.2.2.2.2.2.2.2.2.2.1, v_Mod.2.2.2.2.2.2.2.2.2.2.2.2.2.2.2.2.2.2.2.2.2.2.2.2.2.1, v_Mod.2.2.2.2.2.2.2.2.2.2.2.2.2.2.2.2.2.2.2.2.2.2.2.2.2.2), (0 : Int32))))
set_option maxRecDepth 100000 in
set_option maxHeartbeats 4000000 in
theorem c_Mod_step {l : Launch} {D : va_G} {cI cL cZ : ClassId} (o_Mod a_Mod_0 a_Mod_1 a_Mod_2 a_Mod_3 a_Mod_4 a_Mod_5 a_Mod_6 a_Mod_7 a_Mod_8 a_Mod_9 a_Mod_10 a_Mod_11 a_Mod_12 a_Mod_13 a_Mod_14 : Nat) (v_Mod : T_Mod) (out : T_Mod × Int32) (hm : m_Mod_step v_Mod = some out) : ct l y_Mod_step (Cond.code y_Mod_step b_Mod_step 1 (some .boolean) :: TB) 0 0 D clss (ty3 cI cL cZ) NM0 NF0 [.ref o_Mod] (w_Mod cI cL cZ o_Mod a_Mod_0 a_Mod_1 a_Mod_2 a_Mod_3 a_Mod_4 a_Mod_5 a_Mod_6 a_Mod_7 a_Mod_8 a_Mod_9 a_Mod_10 a_Mod_11 a_Mod_12 a_Mod_13 a_Mod_14 v_Mod) (qI D clss (ty3 cI cL cZ) (O_Mod_step cI cL cZ o_Mod a_Mod_0 a_Mod_1 a_Mod_2 a_Mod_3 a_Mod_4 a_Mod_5 a_Mod_6 a_Mod_7 a_Mod_8 a_Mod_9 a_Mod_10 a_Mod_11 a_Mod_12 a_Mod_13 a_Mod_14 out)) 0 0 := by
  refine ct_of (plainFor_of_name (by decide)) (Nat.le_of_ble_eq_true rfl) (fun p e s m args below meth c A X N hr hlk hnm => ?_)
  refine aj_lv (lv' := [(0, .ref o_Mod)]) [0] rfl ?_
  unfold m_Mod_step at hm
  refine aj_aload_n X d_Mod_step_0 0 rfl ?_
  refine aj_get X d_Mod_step_1 in_Mod 0 rfl rfl 24 (by decide) lf_Mod_85 rfl ?_
  refine aj_lconst (v := (0 : Int64)) X d_Mod_step_4 (by decide) ?_
  refine aj_lcmp X d_Mod_step_5 ?_
  refine aj_if_gt X 16 d_Mod_step_6 (by decide) (fun h => ?_) (fun h => ?_)
  · have hm := ite_t hm h
    refine aj_aload_n X d_Mod_step_16 0 rfl ?_
    refine aj_dup X d_Mod_step_17 rfl ?_
    refine aj_get X d_Mod_step_18 in_Mod 0 rfl rfl 24 (by decide) lf_Mod_85 rfl ?_
    refine aj_lconst (v := (1 : Int64)) X d_Mod_step_21 (by decide) ?_
    refine aj_lsub X d_Mod_step_22 ?_
    refine aj_put (ws' := w_Mod cI cL cZ o_Mod a_Mod_0 a_Mod_1 a_Mod_2 a_Mod_3 a_Mod_4 a_Mod_5 a_Mod_6 a_Mod_7 a_Mod_8 a_Mod_9 a_Mod_10 a_Mod_11 a_Mod_12 a_Mod_13 a_Mod_14 (v_Mod.1, v_Mod.2.1, v_Mod.2.2.1, v_Mod.2.2.2.1, v_Mod.2.2.2.2.1, v_Mod.2.2.2.2.2.1, v_Mod.2.2.2.2.2.2.1, v_Mod.2.2.2.2.2.2.2.1, v_Mod.2.2.2.2.2.2.2.2.1, v_Mod.2.2.2.2.2.2.2.2.2.1, v_Mod.2.2.2.2.2.2.2.2.2.2.1, v_Mod.2.2.2.2.2.2.2.2.2.2.2.1, v_Mod.2.2.2.2.2.2.2.2.2.2.2.2.1, v_Mod.2.2.2.2.2.2.2.2.2.2.2.2.2.1, v_Mod.2.2.2.2.2.2.2.2.2.2.2.2.2.2.1, v_Mod.2.2.2.2.2.2.2.2.2.2.2.2.2.2.2.1, v_Mod.2.2.2.2.2.2.2.2.2.2.2.2.2.2.2.2.1, v_Mod.2.2.2.2.2.2.2.2.2.2.2.2.2.2.2.2.2.1, v_Mod.2.2.2.2.2.2.2.2.2.2.2.2.2.2.2.2.2.2.1, v_Mod.2.2.2.2.2.2.2.2.2.2.2.2.2.2.2.2.2.2.2.1, v_Mod.2.2.2.2.2.2.2.2.2.2.2.2.2.2.2.2.2.2.2.2.1, v_Mod.2.2.2.2.2.2.2.2.2.2.2.2.2.2.2.2.2.2.2.2.2.1, v_Mod.2.2.2.2.2.2.2.2.2.2.2.2.2.2.2.2.2.2.2.2.2.2.1, v_Mod.2.2.2.2.2.2.2.2.2.2.2.2.2.2.2.2.2.2.2.2.2.2.2.1, (v_Mod.2.2.2.2.2.2.2.2.2.2.2.2.2.2.2.2.2.2.2.2.2.2.2.2.1 - (1 : Int64)), v_Mod.2.2.2.2.2.2.2.2.2.2.2.2.2.2.2.2.2.2.2.2.2.2.2.2.2.1, v_Mod.2.2.2.2.2.2.2.2.2.2.2.2.2.2.2.2.2.2.2.2.2.2.2.2.2.2)) X d_Mod_step_23 in_Mod ty_Mod tyok_Mod nmx_Mod 0 rfl rfl 24 (by decide) lf_Mod_85 rfl rfl rfl (Nat.le_of_ble_eq_true rfl) rfl ?_
    refine aj_aload_n X d_Mod_step_26 0 rfl ?_
    refine aj_dup X d_Mod_step_27 rfl ?_
    refine aj_get X d_Mod_step_28 in_Mod 0 rfl rfl 25 (by decide) lf_Mod_89 rfl ?_
    refine aj_lconst (v := (1 : Int64)) X d_Mod_step_31 (by decide) ?_
    refine aj_ladd X d_Mod_step_32 ?_
    refine aj_put (ws' := w_Mod cI cL cZ o_Mod a_Mod_0 a_Mod_1 a_Mod_2 a_Mod_3 a_Mod_4 a_Mod_5 a_Mod_6 a_Mod_7 a_Mod_8 a_Mod_9 a_Mod_10 a_Mod_11 a_Mod_12 a_Mod_13 a_Mod_14 (v_Mod.1, v_Mod.2.1, v_Mod.2.2.1, v_Mod.2.2.2.1, v_Mod.2.2.2.2.1, v_Mod.2.2.2.2.2.1, v_Mod.2.2.2.2.2.2.1, v_Mod.2.2.2.2.2.2.2.1, v_Mod.2.2.2.2.2.2.2.2.1, v_Mod.2.2.2.2.2.2.2.2.2.1, v_Mod.2.2.2.2.2.2.2.2.2.2.1, v_Mod.2.2.2.2.2.2.2.2.2.2.2.1, v_Mod.2.2.2.2.2.2.2.2.2.2.2.2.1, v_Mod.2.2.2.2.2.2.2.2.2.2.2.2.2.1, v_Mod.2.2.2.2.2.2.2.2.2.2.2.2.2.2.1, v_Mod.2.2.2.2.2.2.2.2.2.2.2.2.2.2.2.1, v_Mod.2.2.2.2.2.2.2.2.2.2.2.2.2.2.2.2.1, v_Mod.2.2.2.2.2.2.2.2.2.2.2.2.2.2.2.2.2.1, v_Mod.2.2.2.2.2.2.2.2.2.2.2.2.2.2.2.2.2.2.1, v_Mod.2.2.2.2.2.2.2.2.2.2.2.2.2.2.2.2.2.2.2.1, v_Mod.2.2.2.2.2.2.2.2.2.2.2.2.2.2.2.2.2.2.2.2.1, v_Mod.2.2.2.2.2.2.2.2.2.2.2.2.2.2.2.2.2.2.2.2.2.1, v_Mod.2.2.2.2.2.2.2.2.2.2.2.2.2.2.2.2.2.2.2.2.2.2.1, v_Mod.2.2.2.2.2.2.2.2.2.2.2.2.2.2.2.2.2.2.2.2.2.2.2.1, (v_Mod.2.2.2.2.2.2.2.2.2.2.2.2.2.2.2.2.2.2.2.2.2.2.2.2.1 - (1 : Int64)), (v_Mod.2.2.2.2.2.2.2.2.2.2.2.2.2.2.2.2.2.2.2.2.2.2.2.2.2.1 + (1 : Int64)), v_Mod.2.2.2.2.2.2.2.2.2.2.2.2.2.2.2.2.2.2.2.2.2.2.2.2.2.2)) X d_Mod_step_33 in_Mod ty_Mod tyok_Mod nmx_Mod 0 rfl rfl 25 (by decide) lf_Mod_89 rfl rfl rfl (Nat.le_of_ble_eq_true rfl) rfl ?_
    refine aj_iconst (v := (1 : Int32)) X d_Mod_step_36 (by decide) ?_
    have ho := Option.some.inj hm
    subst ho
    exact aj_zret X d_Mod_step_37 hr hlk (by decide) [0, 1, 2, 3, 4, 5, 6, 7, 8, 9, 10, 11, 12, 13, 14, 15] (w_Mod cI cL cZ o_Mod a_Mod_0 a_Mod_1 a_Mod_2 a_Mod_3 a_Mod_4 a_Mod_5 a_Mod_6 a_Mod_7 a_Mod_8 a_Mod_9 a_Mod_10 a_Mod_11 a_Mod_12 a_Mod_13 a_Mod_14 (v_Mod.1, v_Mod.2.1, v_Mod.2.2.1, v_Mod.2.2.2.1, v_Mod.2.2.2.2.1, v_Mod.2.2.2.2.2.1, v_Mod.2.2.2.2.2.2.1, v_Mod.2.2.2.2.2.2.2.1, v_Mod.2.2.2.2.2.2.2.2.1, v_Mod.2.2.2.2.2.2.2.2.2.1, v_Mod.2.2.2.2.2.2.2.2.2.2.1, v_Mod.2.2.2.2.2.2.2.2.2.2.2.1, v_Mod.2.2.2.2.2.2.2.2.2.2.2.2.1, v_Mod.2.2.2.2.2.2.2.2.2.2.2.2.2.1, v_Mod.2.2.2.2.2.2.2.2.2.2.2.2.2.2.1, v_Mod.2.2.2.2.2.2.2.2.2.2.2.2.2.2.2.1, v_Mod.2.2.2.2.2.2.2.2.2.2.2.2.2.2.2.2.1, v_Mod.2.2.2.2.2.2.2.2.2.2.2.2.2.2.2.2.2.1, v_Mod.2.2.2.2.2.2.2.2.2.2.2.2.2.2.2.2.2.2.1, v_Mod.2.2.2.2.2.2.2.2.2.2.2.2.2.2.2.2.2.2.2.1, v_Mod.2.2.2.2.2.2.2.2.2.2.2.2.2.2.2.2.2.2.2.2.1, v_Mod.2.2.2.2.2.2.2.2.2.2.2.2.2.2.2.2.2.2.2.2.2.1, v_Mod.2.2.2.2.2.2.2.2.2.2.2.2.2.2.2.2.2.2.2.2.2.2.1, v_Mod.2.2.2.2.2.2.2.2.2.2.2.2.2.2.2.2.2.2.2.2.2.2.2.1, (v_Mod.2.2.2.2.2.2.2.2.2.2.2.2.2.2.2.2.2.2.2.2.2.2.2.2.1 - (1 : Int64)), (v_Mod.2.2.2.2.2.2.2.2.2.2.2.2.2.2.2.2.2.2.2.2.2.2.2.2.2.1 + (1 : Int64)), v_Mod.2.2.2.2.2.2.2.2.2.2.2.2.2.2.2.2.2.2.2.2.2.2.2.2.2.2)) rfl rfl ⟨rfl, rfl⟩
  · have hm := ite_f hm h
    refine aj_aload_n X d_Mod_step_9 0 rfl ?_
    refine aj_iconst (v := (3 : Int32)) X d_Mod_step_10 (by decide) ?_
    refine aj_put (ws' := w_Mod cI cL cZ o_Mod a_Mod_0 a_Mod_1 a_Mod_2 a_Mod_3 a_Mod_4 a_Mod_5 a_Mod_6 a_Mod_7 a_Mod_8 a_Mod_9 a_Mod_10 a_Mod_11 a_Mod_12 a_Mod_13 a_Mod_14 (v_Mod.1, v_Mod.2.1, v_Mod.2.2.1, v_Mod.2.2.2.1, v_Mod.2.2.2.2.1, v_Mod.2.2.2.2.2.1, v_Mod.2.2.2.2.2.2.1, v_Mod.2.2.2.2.2.2.2.1, v_Mod.2.2.2.2.2.2.2.2.1, v_Mod.2.2.2.2.2.2.2.2.2.1, v_Mod.2.2.2.2.2.2.2.2.2.2.1, v_Mod.2.2.2.2.2.2.2.2.2.2.2.1, v_Mod.2.2.2.2.2.2.2.2.2.2.2.2.1, v_Mod.2.2.2.2.2.2.2.2.2.2.2.2.2.1, v_Mod.2.2.2.2.2.2.2.2.2.2.2.2.2.2.1, v_Mod.2.2.2.2.2.2.2.2.2.2.2.2.2.2.2.1, v_Mod.2.2.2.2.2.2.2.2.2.2.2.2.2.2.2.2.1, v_Mod.2.2.2.2.2.2.2.2.2.2.2.2.2.2.2.2.2.1, v_Mod.2.2.2.2.2.2.2.2.2.2.2.2.2.2.2.2.2.2.1, v_Mod.2.2.2.2.2.2.2.2.2.2.2.2.2.2.2.2.2.2.2.1, v_Mod.2.2.2.2.2.2.2.2.2.2.2.2.2.2.2.2.2.2.2.2.1, v_Mod.2.2.2.2.2.2.2.2.2.2.2.2.2.2.2.2.2.2.2.2.2.1, v_Mod.2.2.2.2.2.2.2.2.2.2.2.2.2.2.2.2.2.2.2.2.2.2.1, (3 : Int32), v_Mod.2.2.2.2.2.2.2.2.2.2.2.2.2.2.2.2.2.2.2.2.2.2.2.2.1, v_Mod.2.2.2.2.2.2.2.2.2.2.2.2.2.2.2.2.2.2.2.2.2.2.2.2.2.1, v_Mod.2.2.2.2.2.2.2.2.2.2.2.2.2.2.2.2.2.2.2.2.2.2.2.2.2.2)) X d_Mod_step_11 in_Mod ty_Mod tyok_Mod nmx_Mod 0 rfl rfl 23 (by decide) lf_Mod_82 rfl rfl rfl (Nat.le_of_ble_eq_true rfl) rfl ?_
    refine aj_iconst (v := (0 : Int32)) X d_Mod_step_14 (by decide) ?_
    have ho := Option.some.inj hm
    subst ho
    exact aj_zret X d_Mod_step_15 hr hlk (by decide) [0, 1, 2, 3, 4, 5, 6, 7, 8, 9, 10, 11, 12, 13, 14, 15] (w_Mod cI cL cZ o_Mod a_Mod_0 a_Mod_1 a_Mod_2 a_Mod_3 a_Mod_4 a_Mod_5 a_Mod_6 a_Mod_7 a_Mod_8 a_Mod_9 a_Mod_10 a_Mod_11 a_Mod_12 a_Mod_13 a_Mod_14 (v_Mod.1, v_Mod.2.1, v_Mod.2.2.1, v_Mod.2.2.2.1, v_Mod.2.2.2.2.1, v_Mod.2.2.2.2.2.1, v_Mod.2.2.2.2.2.2.1, v_Mod.2.2.2.2.2.2.2.1, v_Mod.2.2.2.2.2.2.2.2.1, v_Mod.2.2.2.2.2.2.2.2.2.1, v_Mod.2.2.2.2.2.2.2.2.2.2.1, v_Mod.2.2.2.2.2.2.2.2.2.2.2.1, v_Mod.2.2.2.2.2.2.2.2.2.2.2.2.1, v_Mod.2.2.2.2.2.2.2.2.2.2.2.2.2.1, v_Mod.2.2.2.2.2.2.2.2.2.2.2.2.2.2.1, v_Mod.2.2.2.2.2.2.2.2.2.2.2.2.2.2.2.1, v_Mod.2.2.2.2.2.2.2.2.2.2.2.2.2.2.2.2.1, v_Mod.2.2.2.2.2.2.2.2.2.2.2.2.2.2.2.2.2.1, v_Mod.2.2.2.2.2.2.2.2.2.2.2.2.2.2.2.2.2.2.1, v_Mod.2.2.2.2.2.2.2.2.2.2.2.2.2.2.2.2.2.2.2.1, v_Mod.2.2.2.2.2.2.2.2.2.2.2.2.2.2.2.2.2.2.2.2.1, v_Mod.2.2.2.2.2.2.2.2.2.2.2.2.2.2.2.2.2.2.2.2.2.1, v_Mod.2.2.2.2.2.2.2.2.2.2.2.2.2.2.2.2.2.2.2.2.2.2.1, (3 : Int32), v_Mod.2.2.2.2.2.2.2.2.2.2.2.2.2.2.2.2.2.2.2.2.2.2.2.2.1, v_Mod.2.2.2.2.2.2.2.2.2.2.2.2.2.2.2.2.2.2.2.2.2.2.2.2.2.1, v_Mod.2.2.2.2.2.2.2.2.2.2.2.2.2.2.2.2.2.2.2.2.2.2.2.2.2.2)) rfl rfl ⟨rfl, rfl⟩
abbrev X_Mod_last (p : Program) (s : State) (m : MethodId) (args : Array Value) (c : Code) (D : va_G) (cI cL cZ : ClassId) (A : Nat → Prop) : Prop := aj_C p s m args c D clss (ty3 cI cL cZ) A b_Mod_last 4 R_Mod TB
abbrev J_Mod_last (p : Program) (l : Launch) (e : Env) (s : State) (m : MethodId) (args : Array Value) (below : List Frame) (meth : Method) (c : Code) (D : va_G) (cI cL cZ : ClassId) (A : Nat → Prop) (O : Int32 → va_W → Prop) (mc ms : Nat) (ws : va_W) (kc ks pc : Nat) (lv : List (Nat × Value)) (st : List Value) : Prop := aj p l e { frames := 0, cells := mc, slots := ms, locals := 0 } s m args below meth c (MQ below (qI D clss (ty3 cI cL cZ) O A) args s mc ms A) D clss A 4 ws kc ks pc lv st
def O_Mod_last (cI cL cZ : ClassId) (o_Mod a_Mod_0 a_Mod_1 a_Mod_2 a_Mod_3 a_Mod_4 a_Mod_5 a_Mod_6 a_Mod_7 a_Mod_8 a_Mod_9 a_Mod_10 a_Mod_11 a_Mod_12 a_Mod_13 a_Mod_14 : Nat) (v_Mod : T_Mod) (out : Int32) : Int32 → va_W → Prop := fun r w1 => out = r ∧ w1 = w_Mod cI cL cZ o_Mod a_Mod_0 a_Mod_1 a_Mod_2 a_Mod_3 a_Mod_4 a_Mod_5 a_Mod_6 a_Mod_7 a_Mod_8 a_Mod_9 a_Mod_10 a_Mod_11 a_Mod_12 a_Mod_13 a_Mod_14 v_Mod
def m_Mod_last_B68 (v_Mod : T_Mod) (again6 : Int32 → Int32 → Int32 → Option (Int32)) (x1 : Int32) (x2 : Int32) (x3 : Int32) : Option (Int32) := (again6 x1 x2 (x3 + 1))
set_option maxRecDepth 100000 in
set_option maxHeartbeats 4000000 in
theorem c_Mod_last_B68 {l : Launch} {D : va_G} {cI cL cZ : ClassId} {p : Program} {e : Env} {s : State} {m : MethodId} {args : Array Value} {below : List Frame} {meth : Method} {c : Code} {A : Nat → Prop} (o_Mod a_Mod_0 a_Mod_1 a_Mod_2 a_Mod_3 a_Mod_4 a_Mod_5 a_Mod_6 a_Mod_7 a_Mod_8 a_Mod_9 a_Mod_10 a_Mod_11 a_Mod_12 a_Mod_13 a_Mod_14 : Nat) (v_Mod : T_Mod) (out : Int32) (X : X_Mod_last p s m args c D cI cL cZ A) (N : nk NM0 NF0 s) (hr : meth.sig.returnType = some .int) (hlk : meth.locks = false) (again6 : Int32 → Int32 → Int32 → Option (Int32)) (ih6 : ∀ (x1 : Int32) (x2 : Int32) (x3 : Int32), again6 x1 x2 x3 = some out → J_Mod_last p l e s m args below meth c D cI cL cZ A (O_Mod_last cI cL cZ o_Mod a_Mod_0 a_Mod_1 a_Mod_2 a_Mod_3 a_Mod_4 a_Mod_5 a_Mod_6 a_Mod_7 a_Mod_8 a_Mod_9 a_Mod_10 a_Mod_11 a_Mod_12 a_Mod_13 a_Mod_14 v_Mod out) 0 0 (w_Mod cI cL cZ o_Mod a_Mod_0 a_Mod_1 a_Mod_2 a_Mod_3 a_Mod_4 a_Mod_5 a_Mod_6 a_Mod_7 a_Mod_8 a_Mod_9 a_Mod_10 a_Mod_11 a_Mod_12 a_Mod_13 a_Mod_14 v_Mod) 0 0 6 [(0, .ref o_Mod), (1, .int x1), (2, .int x2), (3, .int x3)] []) : ∀ (x1 : Int32) (x2 : Int32) (x3 : Int32), m_Mod_last_B68 v_Mod again6 x1 x2 x3 = some out → J_Mod_last p l e s m args below meth c D cI cL cZ A (O_Mod_last cI cL cZ o_Mod a_Mod_0 a_Mod_1 a_Mod_2 a_Mod_3 a_Mod_4 a_Mod_5 a_Mod_6 a_Mod_7 a_Mod_8 a_Mod_9 a_Mod_10 a_Mod_11 a_Mod_12 a_Mod_13 a_Mod_14 v_Mod out) 0 0 (w_Mod cI cL cZ o_Mod a_Mod_0 a_Mod_1 a_Mod_2 a_Mod_3 a_Mod_4 a_Mod_5 a_Mod_6 a_Mod_7 a_Mod_8 a_Mod_9 a_Mod_10 a_Mod_11 a_Mod_12 a_Mod_13 a_Mod_14 v_Mod) 0 0 68 [(0, .ref o_Mod), (1, .int x1), (2, .int x2), (3, .int x3)] [] := by
  intro x1 x2 x3 hm
  unfold m_Mod_last_B68 at hm
  refine aj_iinc (v := (x3 + 1)) (lv' := [(3, .int (x3 + 1)), (0, .ref o_Mod), (1, .int x1), (2, .int x2)]) X d_Mod_last_68 3 rfl rfl (by decide) rfl ?_
  refine aj_goto X 6 d_Mod_last_71 (by decide) ?_
  refine aj_lv (lv' := [(0, .ref o_Mod), (1, .int x1), (2, .int x2), (3, .int (x3 + 1))]) [1, 2, 3, 0] rfl ?_
  exact ih6 x1 x2 (x3 + 1) hm
def m_Mod_last_B66 (v_Mod : T_Mod) (again6 : Int32 → Int32 → Int32 → Option (Int32)) (x2 : Int32) (x3 : Int32) : Option (Int32) := (m_Mod_last_B68 v_Mod again6 x3 x2 x3)
set_option maxRecDepth 100000 in
set_option maxHeartbeats 4000000 in
theorem c_Mod_last_B66 {l : Launch} {D : va_G} {cI cL cZ : ClassId} {p : Program} {e : Env} {s : State} {m : MethodId} {args : Array Value} {below : List Frame} {meth : Method} {c : Code} {A : Nat → Prop} (o_Mod a_Mod_0 a_Mod_1 a_Mod_2 a_Mod_3 a_Mod_4 a_Mod_5 a_Mod_6 a_Mod_7 a_Mod_8 a_Mod_9 a_Mod_10 a_Mod_11 a_Mod_12 a_Mod_13 a_Mod_14 : Nat) (v_Mod : T_Mod) (out : Int32) (X : X_Mod_last p s m args c D cI cL cZ A) (N : nk NM0 NF0 s) (hr : meth.sig.returnType = some .int) (hlk : meth.locks = false) (again6 : Int32 → Int32 → Int32 → Option (Int32)) (ih6 : ∀ (x1 : Int32) (x2 : Int32) (x3 : Int32), again6 x1 x2 x3 = some out → J_Mod_last p l e s m args below meth c D cI cL cZ A (O_Mod_last cI cL cZ o_Mod a_Mod_0 a_Mod_1 a_Mod_2 a_Mod_3 a_Mod_4 a_Mod_5 a_Mod_6 a_Mod_7 a_Mod_8 a_Mod_9 a_Mod_10 a_Mod_11 a_Mod_12 a_Mod_13 a_Mod_14 v_Mod out) 0 0 (w_Mod cI cL cZ o_Mod a_Mod_0 a_Mod_1 a_Mod_2 a_Mod_3 a_Mod_4 a_Mod_5 a_Mod_6 a_Mod_7 a_Mod_8 a_Mod_9 a_Mod_10 a_Mod_11 a_Mod_12 a_Mod_13 a_Mod_14 v_Mod) 0 0 6 [(0, .ref o_Mod), (1, .int x1), (2, .int x2), (3, .int x3)] []) : ∀ (x2 : Int32) (x3 : Int32), m_Mod_last_B66 v_Mod again6 x2 x3 = some out → J_Mod_last p l e s m args below meth c D cI cL cZ A (O_Mod_last cI cL cZ o_Mod a_Mod_0 a_Mod_1 a_Mod_2 a_Mod_3 a_Mod_4 a_Mod_5 a_Mod_6 a_Mod_7 a_Mod_8 a_Mod_9 a_Mod_10 a_Mod_11 a_Mod_12 a_Mod_13 a_Mod_14 v_Mod out) 0 0 (w_Mod cI cL cZ o_Mod a_Mod_0 a_Mod_1 a_Mod_2 a_Mod_3 a_Mod_4 a_Mod_5 a_Mod_6 a_Mod_7 a_Mod_8 a_Mod_9 a_Mod_10 a_Mod_11 a_Mod_12 a_Mod_13 a_Mod_14 v_Mod) 0 0 66 [(0, .ref o_Mod), (2, .int x2), (3, .int x3)] [] := by
  intro x2 x3 hm
  unfold m_Mod_last_B66 at hm
  refine aj_iload_n X d_Mod_last_66 2 rfl ?_
  refine aj_istore_n (lv' := [(1, .int x3), (0, .ref o_Mod), (2, .int x2), (3, .int x3)]) X d_Mod_last_67 rfl (by decide) rfl ?_
  refine aj_lv (lv' := [(0, .ref o_Mod), (1, .int x3), (2, .int x2), (3, .int x3)]) [1, 0, 2, 3] rfl ?_
  exact c_Mod_last_B68 o_Mod a_Mod_0 a_Mod_1 a_Mod_2 a_Mod_3 a_Mod_4 a_Mod_5 a_Mod_6 a_Mod_7 a_Mod_8 a_Mod_9 a_Mod_10 a_Mod_11 a_Mod_12 a_Mod_13 a_Mod_14 v_Mod out X N hr hlk again6 ih6 x3 x2 x3 hm
def m_Mod_last_L6 (v_Mod : T_Mod) : Nat → Int32 → Int32 → Int32 → Option (Int32)
  | 0, _, _, _ => none
  | f + 1, x1, x2, x3 => (if ((2 : Int32) * v_Mod.2.1) ≤ x3 then (if x2 ≤ (1 : Int32) then (some (-1 : Int32)) else (some x1)) else (if ¬ (x3 < 0 ∨ v_Mod.2.2.2.2.2.2.2.2.2.2.2.2.2.2.2.2.2.2.2.2.2.2.2.2.2.2.1 ≤ (x3).toNatClampNeg) then (if (v_Mod.2.2.2.2.2.2.2.2.2.2.2.2.2.2.2.2.2.2.2.2.2.2.2.2.2.2.2 (x3).toNatClampNeg) = 0 then (m_Mod_last_B68 v_Mod (m_Mod_last_L6 v_Mod f) x1 x2 x3) else (if ¬ ((x3 / (2 : Int32)) < 0 ∨ v_Mod.2.2.2.2.2.2.2.2.2.2.2.2.2.2.2.2.2.2.2.1.1 ≤ ((x3 / (2 : Int32))).toNatClampNeg) then (if (v_Mod.2.2.2.2.2.2.2.2.2.2.2.2.2.2.2.2.2.2.2.1.2 ((x3 / (2 : Int32))).toNatClampNeg) = v_Mod.2.2.2.2.2.2.2.2.2.2.2.2.2.2.2.2.2.2.2.2.2.2.1 then (if x1 < 0 then (m_Mod_last_B66 v_Mod (m_Mod_last_L6 v_Mod f) (x2 + 1) x3) else (if ¬ ((x3 / (2 : Int32)) < 0 ∨ v_Mod.2.2.2.2.2.2.2.2.2.2.2.2.2.2.2.2.2.2.2.2.2.1.1 ≤ ((x3 / (2 : Int32))).toNatClampNeg) then (if ¬ ((x1 / (2 : Int32)) < 0 ∨ v_Mod.2.2.2.2.2.2.2.2.2.2.2.2.2.2.2.2.2.2.2.2.2.1.1 ≤ ((x1 / (2 : Int32))).toNatClampNeg) then (if (v_Mod.2.2.2.2.2.2.2.2.2.2.2.2.2.2.2.2.2.2.2.2.2.1.2 ((x3 / (2 : Int32))).toNatClampNeg) ≤ (v_Mod.2.2.2.2.2.2.2.2.2.2.2.2.2.2.2.2.2.2.2.2.2.1.2 ((x1 / (2 : Int32))).toNatClampNeg) then (m_Mod_last_B68 v_Mod (m_Mod_last_L6 v_Mod f) x1 (x2 + 1) x3) else (m_Mod_last_B66 v_Mod (m_Mod_last_L6 v_Mod f) (x2 + 1) x3)) else none) else none)) else (m_Mod_last_B68 v_Mod (m_Mod_last_L6 v_Mod f) x1 x2 x3)) else none)) else none))
set_option maxRecDepth 100000 in
set_option maxHeartbeats 4000000 in
theorem c_Mod_last_L6 {l : Launch} {D : va_G} {cI cL cZ : ClassId} {p : Program} {e : Env} {s : State} {m : MethodId} {args : Array Value} {below : List Frame} {meth : Method} {c : Code} {A : Nat → Prop} (o_Mod a_Mod_0 a_Mod_1 a_Mod_2 a_Mod_3 a_Mod_4 a_Mod_5 a_Mod_6 a_Mod_7 a_Mod_8 a_Mod_9 a_Mod_10 a_Mod_11 a_Mod_12 a_Mod_13 a_Mod_14 : Nat) (v_Mod : T_Mod) (out : Int32) (X : X_Mod_last p s m args c D cI cL cZ A) (N : nk NM0 NF0 s) (hr : meth.sig.returnType = some .int) (hlk : meth.locks = false) : ∀ (nn : Nat), ∀ (x1 : Int32) (x2 : Int32) (x3 : Int32), m_Mod_last_L6 v_Mod nn x1 x2 x3 = some out → J_Mod_last p l e s m args below meth c D cI cL cZ A (O_Mod_last cI cL cZ o_Mod a_Mod_0 a_Mod_1 a_Mod_2 a_Mod_3 a_Mod_4 a_Mod_5 a_Mod_6 a_Mod_7 a_Mod_8 a_Mod_9 a_Mod_10 a_Mod_11 a_Mod_12 a_Mod_13 a_Mod_14 v_Mod out) 0 0 (w_Mod cI cL cZ o_Mod a_Mod_0 a_Mod_1 a_Mod_2 a_Mod_3 a_Mod_4 a_Mod_5 a_Mod_6 a_Mod_7 a_Mod_8 a_Mod_9 a_Mod_10 a_Mod_11 a_Mod_12 a_Mod_13 a_Mod_14 v_Mod) 0 0 6 [(0, .ref o_Mod), (1, .int x1), (2, .int x2), (3, .int x3)] [] := by
  intro nn
  induction nn with
  | zero => intro x1 x2 x3 hm; exact absurd hm (by simp [m_Mod_last_L6])
  | succ nn ih6 =>
    intro x1 x2 x3 hm
    unfold m_Mod_last_L6 at hm
    refine aj_iload_n X d_Mod_last_6 3 rfl ?_
    refine aj_iconst (v := (2 : Int32)) X d_Mod_last_7 (by decide) ?_
    refine aj_aload_n X d_Mod_last_8 0 rfl ?_
    refine aj_get X d_Mod_last_9 in_Mod 0 rfl rfl 1 (by decide) lf_Mod_13 rfl ?_
    refine aj_imul X d_Mod_last_12 ?_
    refine aj_icmp_ge X 74 d_Mod_last_13 (by decide) (fun h => ?_) (fun h => ?_)
    · have hm := ite_t hm h
      refine aj_iload_n X d_Mod_last_74 2 rfl ?_
      refine aj_iconst (v := (1 : Int32)) X d_Mod_last_75 (by decide) ?_
      refine aj_icmp_le X 83 d_Mod_last_76 (by decide) (fun h => ?_) (fun h => ?_)
      · have hm := ite_t hm h
        refine aj_iconst (v := (-1 : Int32)) X d_Mod_last_83 (by decide) ?_
        have ho := Option.some.inj hm
        subst ho
        exact aj_iret X d_Mod_last_84 hr hlk [0, 1, 2, 3, 4, 5, 6, 7, 8, 9, 10, 11, 12, 13, 14, 15] (w_Mod cI cL cZ o_Mod a_Mod_0 a_Mod_1 a_Mod_2 a_Mod_3 a_Mod_4 a_Mod_5 a_Mod_6 a_Mod_7 a_Mod_8 a_Mod_9 a_Mod_10 a_Mod_11 a_Mod_12 a_Mod_13 a_Mod_14 v_Mod) rfl rfl ⟨rfl, rfl⟩
      · have hm := ite_f hm h
        refine aj_iload_n X d_Mod_last_79 1 rfl ?_
        refine aj_goto X 84 d_Mod_last_80 (by decide) ?_
        have ho := Option.some.inj hm
        subst ho
        exact aj_iret X d_Mod_last_84 hr hlk [0, 1, 2, 3, 4, 5, 6, 7, 8, 9, 10, 11, 12, 13, 14, 15] (w_Mod cI cL cZ o_Mod a_Mod_0 a_Mod_1 a_Mod_2 a_Mod_3 a_Mod_4 a_Mod_5 a_Mod_6 a_Mod_7 a_Mod_8 a_Mod_9 a_Mod_10 a_Mod_11 a_Mod_12 a_Mod_13 a_Mod_14 v_Mod) rfl rfl ⟨rfl, rfl⟩
    · have hm := ite_f hm h
      refine aj_aload_n X d_Mod_last_16 0 rfl ?_
      refine aj_get X d_Mod_last_17 in_Mod 0 rfl rfl 26 (by decide) lf_Mod_92 rfl ?_
      refine aj_iload_n X d_Mod_last_20 3 rfl ?_
      obtain ⟨b1, hm⟩ := chk_of hm
      refine aj_zald X d_Mod_last_21 15 2 rfl rfl b1 ?_
      refine aj_if_eq X 68 d_Mod_last_22 (by decide) (fun h => ?_) (fun h => ?_)
      · have hm := ite_t hm h
        exact c_Mod_last_B68 o_Mod a_Mod_0 a_Mod_1 a_Mod_2 a_Mod_3 a_Mod_4 a_Mod_5 a_Mod_6 a_Mod_7 a_Mod_8 a_Mod_9 a_Mod_10 a_Mod_11 a_Mod_12 a_Mod_13 a_Mod_14 v_Mod out X N hr hlk (m_Mod_last_L6 v_Mod nn) ih6 x1 x2 x3 hm
      · have hm := ite_f hm h
        refine aj_aload_n X d_Mod_last_25 0 rfl ?_
        refine aj_get X d_Mod_last_26 in_Mod 0 rfl rfl 19 (by decide) lf_Mod_70 rfl ?_
        refine aj_iload_n X d_Mod_last_29 3 rfl ?_
        refine aj_iconst (v := (2 : Int32)) X d_Mod_last_30 (by decide) ?_
        refine aj_idiv X d_Mod_last_31 (by decide) ?_
        obtain ⟨b2, hm⟩ := chk_of hm
        refine aj_iald X d_Mod_last_32 12 0 rfl rfl b2 ?_
        refine aj_aload_n X d_Mod_last_33 0 rfl ?_
        refine aj_get X d_Mod_last_34 in_Mod 0 rfl rfl 22 (by decide) lf_Mod_79 rfl ?_
        refine aj_icmp_ne X 68 d_Mod_last_37 (by decide) (fun h => ?_) (fun h => ?_)
        · have hm := ite_f hm h
          exact c_Mod_last_B68 o_Mod a_Mod_0 a_Mod_1 a_Mod_2 a_Mod_3 a_Mod_4 a_Mod_5 a_Mod_6 a_Mod_7 a_Mod_8 a_Mod_9 a_Mod_10 a_Mod_11 a_Mod_12 a_Mod_13 a_Mod_14 v_Mod out X N hr hlk (m_Mod_last_L6 v_Mod nn) ih6 x1 x2 x3 hm
        · have hm := ite_t hm h
          refine aj_iinc (v := (x2 + 1)) (lv' := [(2, .int (x2 + 1)), (0, .ref o_Mod), (1, .int x1), (3, .int x3)]) X d_Mod_last_40 2 rfl rfl (by decide) rfl ?_
          refine aj_iload_n X d_Mod_last_43 2 rfl ?_
          refine aj_if_lt X 66 d_Mod_last_44 (by decide) (fun h => ?_) (fun h => ?_)
          · have hm := ite_t hm h
            refine aj_lv (lv' := [(0, .ref o_Mod), (2, .int (x2 + 1)), (3, .int x3)]) [1, 0, 3] rfl ?_
            exact c_Mod_last_B66 o_Mod a_Mod_0 a_Mod_1 a_Mod_2 a_Mod_3 a_Mod_4 a_Mod_5 a_Mod_6 a_Mod_7 a_Mod_8 a_Mod_9 a_Mod_10 a_Mod_11 a_Mod_12 a_Mod_13 a_Mod_14 v_Mod out X N hr hlk (m_Mod_last_L6 v_Mod nn) ih6 (x2 + 1) x3 hm
          · have hm := ite_f hm h
            refine aj_aload_n X d_Mod_last_47 1 rfl ?_
            refine aj_get X d_Mod_last_48 in_Mod 0 rfl rfl 21 (by decide) lf_Mod_76 rfl ?_
            refine aj_iload_n X d_Mod_last_51 3 rfl ?_
            refine aj_iconst (v := (2 : Int32)) X d_Mod_last_52 (by decide) ?_
            refine aj_idiv X d_Mod_last_53 (by decide) ?_
            obtain ⟨b3, hm⟩ := chk_of hm
            refine aj_iald X d_Mod_last_54 14 0 rfl rfl b3 ?_
            refine aj_aload_n X d_Mod_last_55 1 rfl ?_
            refine aj_get X d_Mod_last_56 in_Mod 0 rfl rfl 21 (by decide) lf_Mod_76 rfl ?_
            refine aj_iload_n X d_Mod_last_59 2 rfl ?_
            refine aj_iconst (v := (2 : Int32)) X d_Mod_last_60 (by decide) ?_
            refine aj_idiv X d_Mod_last_61 (by decide) ?_
            obtain ⟨b4, hm⟩ := chk_of hm
            refine aj_iald X d_Mod_last_62 14 0 rfl rfl b4 ?_
            refine aj_icmp_le X 68 d_Mod_last_63 (by decide) (fun h => ?_) (fun h => ?_)
            · have hm := ite_t hm h
              refine aj_lv (lv' := [(0, .ref o_Mod), (1, .int x1), (2, .int (x2 + 1)), (3, .int x3)]) [1, 2, 0, 3] rfl ?_
              exact c_Mod_last_B68 o_Mod a_Mod_0 a_Mod_1 a_Mod_2 a_Mod_3 a_Mod_4 a_Mod_5 a_Mod_6 a_Mod_7 a_Mod_8 a_Mod_9 a_Mod_10 a_Mod_11 a_Mod_12 a_Mod_13 a_Mod_14 v_Mod out X N hr hlk (m_Mod_last_L6 v_Mod nn) ih6 x1 (x2 + 1) x3 hm
            · have hm := ite_f hm h
              refine aj_lv (lv' := [(0, .ref o_Mod), (2, .int (x2 + 1)), (3, .int x3)]) [1, 0, 3] rfl ?_
              exact c_Mod_last_B66 o_Mod a_Mod_0 a_Mod_1 a_Mod_2 a_Mod_3 a_Mod_4 a_Mod_5 a_Mod_6 a_Mod_7 a_Mod_8 a_Mod_9 a_Mod_10 a_Mod_11 a_Mod_12 a_Mod_13 a_Mod_14 v_Mod out X N hr hlk (m_Mod_last_L6 v_Mod nn) ih6 (x2 + 1) x3 hm
def m_Mod_last (v_Mod : T_Mod) : Option (Int32) := (m_Mod_last_L6 v_Mod fu (-1 : Int32) (0 : Int32) (0 : Int32))
set_option maxRecDepth 100000 in
set_option maxHeartbeats 4000000 in
theorem c_Mod_last {l : Launch} {D : va_G} {cI cL cZ : ClassId} (o_Mod a_Mod_0 a_Mod_1 a_Mod_2 a_Mod_3 a_Mod_4 a_Mod_5 a_Mod_6 a_Mod_7 a_Mod_8 a_Mod_9 a_Mod_10 a_Mod_11 a_Mod_12 a_Mod_13 a_Mod_14 : Nat) (v_Mod : T_Mod) (out : Int32) (hm : m_Mod_last v_Mod = some out) : ct l y_Mod_last (Cond.code y_Mod_last b_Mod_last 4 (some .int) :: TB) 0 0 D clss (ty3 cI cL cZ) NM0 NF0 [.ref o_Mod] (w_Mod cI cL cZ o_Mod a_Mod_0 a_Mod_1 a_Mod_2 a_Mod_3 a_Mod_4 a_Mod_5 a_Mod_6 a_Mod_7 a_Mod_8 a_Mod_9 a_Mod_10 a_Mod_11 a_Mod_12 a_Mod_13 a_Mod_14 v_Mod) (qI D clss (ty3 cI cL cZ) (O_Mod_last cI cL cZ o_Mod a_Mod_0 a_Mod_1 a_Mod_2 a_Mod_3 a_Mod_4 a_Mod_5 a_Mod_6 a_Mod_7 a_Mod_8 a_Mod_9 a_Mod_10 a_Mod_11 a_Mod_12 a_Mod_13 a_Mod_14 v_Mod out)) 0 0 := by
  refine ct_of (plainFor_of_name (by decide)) (Nat.le_of_ble_eq_true rfl) (fun p e s m args below meth c A X N hr hlk hnm => ?_)
  refine aj_lv (lv' := [(0, .ref o_Mod)]) [0] rfl ?_
  unfold m_Mod_last at hm
  refine aj_iconst (v := (-1 : Int32)) X d_Mod_last_0 (by decide) ?_
  refine aj_istore_n (lv' := [(1, .int (-1 : Int32)), (0, .ref o_Mod)]) X d_Mod_last_1 rfl (by decide) rfl ?_
  refine aj_iconst (v := (0 : Int32)) X d_Mod_last_2 (by decide) ?_
  refine aj_istore_n (lv' := [(2, .int (0 : Int32)), (1, .int (-1 : Int32)), (0, .ref o_Mod)]) X d_Mod_last_3 rfl (by decide) rfl ?_
  refine aj_iconst (v := (0 : Int32)) X d_Mod_last_4 (by decide) ?_
  refine aj_istore_n (lv' := [(3, .int (0 : Int32)), (2, .int (0 : Int32)), (1, .int (-1 : Int32)), (0, .ref o_Mod)]) X d_Mod_last_5 rfl (by decide) rfl ?_
  refine aj_lv (lv' := [(0, .ref o_Mod), (1, .int (-1 : Int32)), (2, .int (0 : Int32)), (3, .int (0 : Int32))]) [3, 2, 1, 0] rfl ?_
  exact c_Mod_last_L6 o_Mod a_Mod_0 a_Mod_1 a_Mod_2 a_Mod_3 a_Mod_4 a_Mod_5 a_Mod_6 a_Mod_7 a_Mod_8 a_Mod_9 a_Mod_10 a_Mod_11 a_Mod_12 a_Mod_13 a_Mod_14 v_Mod out X N hr hlk fu (-1 : Int32) (0 : Int32) (0 : Int32) hm
abbrev X_Mod_mix (p : Program) (s : State) (m : MethodId) (args : Array Value) (c : Code) (D : va_G) (cI cL cZ : ClassId) (A : Nat → Prop) : Prop := aj_C p s m args c D clss (ty3 cI cL cZ) A b_Mod_mix 3 R_Mod TB
abbrev J_Mod_mix (p : Program) (l : Launch) (e : Env) (s : State) (m : MethodId) (args : Array Value) (below : List Frame) (meth : Method) (c : Code) (D : va_G) (cI cL cZ : ClassId) (A : Nat → Prop) (O : va_W → Prop) (mc ms : Nat) (ws : va_W) (kc ks pc : Nat) (lv : List (Nat × Value)) (st : List Value) : Prop := aj p l e { frames := 0, cells := mc, slots := ms, locals := 0 } s m args below meth c (MQ below (qV D clss (ty3 cI cL cZ) O A) args s mc ms A) D clss A 3 ws kc ks pc lv st
def O_Mod_mix (cI cL cZ : ClassId) (o_Mod a_Mod_0 a_Mod_1 a_Mod_2 a_Mod_3 a_Mod_4 a_Mod_5 a_Mod_6 a_Mod_7 a_Mod_8 a_Mod_9 a_Mod_10 a_Mod_11 a_Mod_12 a_Mod_13 a_Mod_14 : Nat) (out : T_Mod) : va_W → Prop := fun w1 => w1 = w_Mod cI cL cZ o_Mod a_Mod_0 a_Mod_1 a_Mod_2 a_Mod_3 a_Mod_4 a_Mod_5 a_Mod_6 a_Mod_7 a_Mod_8 a_Mod_9 a_Mod_10 a_Mod_11 a_Mod_12 a_Mod_13 a_Mod_14 out
def m_Mod_mix_L7 : Nat → T_Mod → Int32 → Int32 → Option (T_Mod)
  | 0, _, _, _ => none
  | f + 1, v_Mod, x1, x2 => (if ¬ ((x1 + (1 : Int32)) < 0 ∨ v_Mod.2.2.2.1.1 ≤ ((x1 + (1 : Int32))).toNatClampNeg) then (if (v_Mod.2.2.2.1.2 ((x1 + (1 : Int32))).toNatClampNeg) ≤ x2 then (some v_Mod) else (if ¬ (x2 < 0 ∨ v_Mod.2.2.1.1 ≤ (x2).toNatClampNeg) then (if ¬ ((v_Mod.2.2.1.2 (x2).toNatClampNeg) < 0 ∨ v_Mod.2.2.2.2.2.2.2.2.2.2.2.2.2.2.2.2.2.2.2.2.2.2.2.2.2.2.1 ≤ ((v_Mod.2.2.1.2 (x2).toNatClampNeg)).toNatClampNeg) then ((m_Mod_mix_L7 f) (v_Mod.1, v_Mod.2.1, v_Mod.2.2.1, v_Mod.2.2.2.1, v_Mod.2.2.2.2.1, v_Mod.2.2.2.2.2.1, v_Mod.2.2.2.2.2.2.1, v_Mod.2.2.2.2.2.2.2.1, v_Mod.2.2.2.2.2.2.2.2.1, v_Mod.2.2.2.2.2.2.2.2.2.1, v_Mod.2.2.2.2.2.2.2.2.2.2.1, v_Mod.2.2.2.2.2.2.2.2.2.2.2.1, v_Mod.2.2.2.2.2.2.2.2.2.2.2.2.1, v_Mod.2.2.2.2.2.2.2.2.2.2.2.2.2.1, v_Mod.2.2.2.2.2.2.2.2.2.2.2.2.2.2.1, v_Mod.2.2.2.2.2.2.2.2.2.2.2.2.2.2.2.1, v_Mod.2.2.2.2.2.2.2.2.2.2.2.2.2.2.2.2.1, v_Mod.2.2.2.2.2.2.2.2.2.2.2.2.2.2.2.2.2.1, v_Mod.2.2.2.2.2.2.2.2.2.2.2.2.2.2.2.2.2.2.1, v_Mod.2.2.2.2.2.2.2.2.2.2.2.2.2.2.2.2.2.2.2.1, v_Mod.2.2.2.2.2.2.2.2.2.2.2.2.2.2.2.2.2.2.2.2.1, v_Mod.2.2.2.2.2.2.2.2.2.2.2.2.2.2.2.2.2.2.2.2.2.1, v_Mod.2.2.2.2.2.2.2.2.2.2.2.2.2.2.2.2.2.2.2.2.2.2.1, v_Mod.2.2.2.2.2.2.2.2.2.2.2.2.2.2.2.2.2.2.2.2.2.2.2.1, v_Mod.2.2.2.2.2.2.2.2.2.2.2.2.2.2.2.2.2.2.2.2.2.2.2.2.1, v_Mod.2.2.2.2.2.2.2.2.2.2.2.2.2.2.2.2.2.2.2.2.2.2.2.2.2.1, (v_Mod.2.2.2.2.2.2.2.2.2.2.2.2.2.2.2.2.2.2.2.2.2.2.2.2.2.2.1, (upd v_Mod.2.2.2.2.2.2.2.2.2.2.2.2.2.2.2.2.2.2.2.2.2.2.2.2.2.2.2 ((v_Mod.2.2.1.2 (x2).toNatClampNeg)).toNatClampNeg ((1 : Int32) &&& 1)))) x1 (x2 + 1)) else none) else none)) else none)
set_option maxRecDepth 100000 in
set_option maxHeartbeats 4000000 in
theorem c_Mod_mix_L7 {l : Launch} {D : va_G} {cI cL cZ : ClassId} {p : Program} {e : Env} {s : State} {m : MethodId} {args : Array Value} {below : List Frame} {meth : Method} {c : Code} {A : Nat → Prop} (o_Mod a_Mod_0 a_Mod_1 a_Mod_2 a_Mod_3 a_Mod_4 a_Mod_5 a_Mod_6 a_Mod_7 a_Mod_8 a_Mod_9 a_Mod_10 a_Mod_11 a_Mod_12 a_Mod_13 a_Mod_14 : Nat) (out : T_Mod) (X : X_Mod_mix p s m args c D cI cL cZ A) (N : nk NM0 NF0 s) (hr : meth.sig.returnType = none) (hlk : meth.locks = false) : ∀ (nn : Nat), ∀ (v_Mod : T_Mod) (x1 : Int32) (x2 : Int32), m_Mod_mix_L7 nn v_Mod x1 x2 = some out → J_Mod_mix p l e s m args below meth c D cI cL cZ A (O_Mod_mix cI cL cZ o_Mod a_Mod_0 a_Mod_1 a_Mod_2 a_Mod_3 a_Mod_4 a_Mod_5 a_Mod_6 a_Mod_7 a_Mod_8 a_Mod_9 a_Mod_10 a_Mod_11 a_Mod_12 a_Mod_13 a_Mod_14 out) 0 0 (w_Mod cI cL cZ o_Mod a_Mod_0 a_Mod_1 a_Mod_2 a_Mod_3 a_Mod_4 a_Mod_5 a_Mod_6 a_Mod_7 a_Mod_8 a_Mod_9 a_Mod_10 a_Mod_11 a_Mod_12 a_Mod_13 a_Mod_14 v_Mod) 0 0 7 [(0, .ref o_Mod), (1, .int x1), (2, .int x2)] [] := by
  intro nn
  induction nn with
  | zero => intro v_Mod x1 x2 hm; exact absurd hm (by simp [m_Mod_mix_L7])
  | succ nn ih7 =>
    intro v_Mod x1 x2 hm
    unfold m_Mod_mix_L7 at hm
    refine aj_iload_n X d_Mod_mix_7 2 rfl ?_
    refine aj_aload_n X d_Mod_mix_8 0 rfl ?_
    refine aj_get X d_Mod_mix_9 in_Mod 0 rfl rfl 3 (by decide) lf_Mod_20 rfl ?_
    refine aj_iload_n X d_Mod_mix_12 1 rfl ?_
    refine aj_iconst (v := (1 : Int32)) X d_Mod_mix_13 (by decide) ?_
    refine aj_iadd X d_Mod_mix_14 ?_
    obtain ⟨b1, hm⟩ := chk_of hm
    refine aj_iald X d_Mod_mix_15 2 0 rfl rfl b1 ?_
    refine aj_icmp_ge X 37 d_Mod_mix_16 (by decide) (fun h => ?_) (fun h => ?_)
    · have hm := ite_t hm h
      have ho := Option.some.inj hm
      subst ho
      exact aj_vret X d_Mod_mix_37 hr hlk [0, 1, 2, 3, 4, 5, 6, 7, 8, 9, 10, 11, 12, 13, 14, 15] (w_Mod cI cL cZ o_Mod a_Mod_0 a_Mod_1 a_Mod_2 a_Mod_3 a_Mod_4 a_Mod_5 a_Mod_6 a_Mod_7 a_Mod_8 a_Mod_9 a_Mod_10 a_Mod_11 a_Mod_12 a_Mod_13 a_Mod_14 v_Mod) rfl rfl rfl
    · have hm := ite_f hm h
      refine aj_aload_n X d_Mod_mix_19 0 rfl ?_
      refine aj_get X d_Mod_mix_20 in_Mod 0 rfl rfl 26 (by decide) lf_Mod_92 rfl ?_
      refine aj_aload_n X d_Mod_mix_23 0 rfl ?_
      refine aj_get X d_Mod_mix_24 in_Mod 0 rfl rfl 2 (by decide) lf_Mod_16 rfl ?_
      refine aj_iload_n X d_Mod_mix_27 2 rfl ?_
      obtain ⟨b2, hm⟩ := chk_of hm
      refine aj_iald X d_Mod_mix_28 1 0 rfl rfl b2 ?_
      refine aj_iconst (v := (1 : Int32)) X d_Mod_mix_29 (by decide) ?_
      obtain ⟨b3, hm⟩ := chk_of hm
      refine aj_zast (ws' := w_Mod cI cL cZ o_Mod a_Mod_0 a_Mod_1 a_Mod_2 a_Mod_3 a_Mod_4 a_Mod_5 a_Mod_6 a_Mod_7 a_Mod_8 a_Mod_9 a_Mod_10 a_Mod_11 a_Mod_12 a_Mod_13 a_Mod_14 (v_Mod.1, v_Mod.2.1, v_Mod.2.2.1, v_Mod.2.2.2.1, v_Mod.2.2.2.2.1, v_Mod.2.2.2.2.2.1, v_Mod.2.2.2.2.2.2.1, v_Mod.2.2.2.2.2.2.2.1, v_Mod.2.2.2.2.2.2.2.2.1, v_Mod.2.2.2.2.2.2.2.2.2.1, v_Mod.2.2.2.2.2.2.2.2.2.2.1, v_Mod.2.2.2.2.2.2.2.2.2.2.2.1, v_Mod.2.2.2.2.2.2.2.2.2.2.2.2.1, v_Mod.2.2.2.2.2.2.2.2.2.2.2.2.2.1, v_Mod.2.2.2.2.2.2.2.2.2.2.2.2.2.2.1, v_Mod.2.2.2.2.2.2.2.2.2.2.2.2.2.2.2.1, v_Mod.2.2.2.2.2.2.2.2.2.2.2.2.2.2.2.2.1, v_Mod.2.2.2.2.2.2.2.2.2.2.2.2.2.2.2.2.2.1, v_Mod.2.2.2.2.2.2.2.2.2.2.2.2.2.2.2.2.2.2.1, v_Mod.2.2.2.2.2.2.2.2.2.2.2.2.2.2.2.2.2.2.2.1, v_Mod.2.2.2.2.2.2.2.2.2.2.2.2.2.2.2.2.2.2.2.2.1, v_Mod.2.2.2.2.2.2.2.2.2.2.2.2.2.2.2.2.2.2.2.2.2.1, v_Mod.2.2.2.2.2.2.2.2.2.2.2.2.2.2.2.2.2.2.2.2.2.2.1, v_Mod.2.2.2.2.2.2.2.2.2.2.2.2.2.2.2.2.2.2.2.2.2.2.2.1, v_Mod.2.2.2.2.2.2.2.2.2.2.2.2.2.2.2.2.2.2.2.2.2.2.2.2.1, v_Mod.2.2.2.2.2.2.2.2.2.2.2.2.2.2.2.2.2.2.2.2.2.2.2.2.2.1, (v_Mod.2.2.2.2.2.2.2.2.2.2.2.2.2.2.2.2.2.2.2.2.2.2.2.2.2.2.1, (upd v_Mod.2.2.2.2.2.2.2.2.2.2.2.2.2.2.2.2.2.2.2.2.2.2.2.2.2.2.2 ((v_Mod.2.2.1.2 (x2).toNatClampNeg)).toNatClampNeg ((1 : Int32) &&& 1))))) X d_Mod_mix_30 15 2 rfl rfl b3 rfl ?_
      refine aj_iinc (v := (x2 + 1)) (lv' := [(2, .int (x2 + 1)), (0, .ref o_Mod), (1, .int x1)]) X d_Mod_mix_31 2 rfl rfl (by decide) rfl ?_
      refine aj_goto X 7 d_Mod_mix_34 (by decide) ?_
      refine aj_lv (lv' := [(0, .ref o_Mod), (1, .int x1), (2, .int (x2 + 1))]) [1, 2, 0] rfl ?_
      exact ih7 (v_Mod.1, v_Mod.2.1, v_Mod.2.2.1, v_Mod.2.2.2.1, v_Mod.2.2.2.2.1, v_Mod.2.2.2.2.2.1, v_Mod.2.2.2.2.2.2.1, v_Mod.2.2.2.2.2.2.2.1, v_Mod.2.2.2.2.2.2.2.2.1, v_Mod.2.2.2.2.2.2.2.2.2.1, v_Mod.2.2.2.2.2.2.2.2.2.2.1, v_Mod.2.2.2.2.2.2.2.2.2.2.2.1, v_Mod.2.2.2.2.2.2.2.2.2.2.2.2.1, v_Mod.2.2.2.2.2.2.2.2.2.2.2.2.2.1, v_Mod.2.2.2.2.2.2.2.2.2.2.2.2.2.2.1, v_Mod.2.2.2.2.2.2.2.2.2.2.2.2.2.2.2.1, v_Mod.2.2.2.2.2.2.2.2.2.2.2.2.2.2.2.2.1, v_Mod.2.2.2.2.2.2.2.2.2.2.2.2.2.2.2.2.2.1, v_Mod.2.2.2.2.2.2.2.2.2.2.2.2.2.2.2.2.2.2.1, v_Mod.2.2.2.2.2.2.2.2.2.2.2.2.2.2.2.2.2.2.2.1, v_Mod.2.2.2.2.2.2.2.2.2.2.2.2.2.2.2.2.2.2.2.2.1, v_Mod.2.2.2.2.2.2.2.2.2.2.2.2.2.2.2.2.2.2.2.2.2.1, v_Mod.2.2.2.2.2.2.2.2.2.2.2.2.2.2.2.2.2.2.2.2.2.2.1, v_Mod.2.2.2.2.2.2.2.2.2.2.2.2.2.2.2.2.2.2.2.2.2.2.2.1, v_Mod.2.2.2.2.2.2.2.2.2.2.2.2.2.2.2.2.2.2.2.2.2.2.2.2.1, v_Mod.2.2.2.2.2.2.2.2.2.2.2.2.2.2.2.2.2.2.2.2.2.2.2.2.2.1, (v_Mod.2.2.2.2.2.2.2.2.2.2.2.2.2.2.2.2.2.2.2.2.2.2.2.2.2.2.1, (upd v_Mod.2.2.2.2.2.2.2.2.2.2.2.2.2.2.2.2.2.2.2.2.2.2.2.2.2.2.2 ((v_Mod.2.2.1.2 (x2).toNatClampNeg)).toNatClampNeg ((1 : Int32) &&& 1)))) x1 (x2 + 1) hm
def m_Mod_mix (v_Mod : T_Mod) (x1 : Int32) : Option (T_Mod) := (if ¬ (x1 < 0 ∨ v_Mod.2.2.2.1.1 ≤ (x1).toNatClampNeg) then (m_Mod_mix_L7 fu v_Mod x1 (v_Mod.2.2.2.1.2 (x1).toNatClampNeg)) else none)
set_option maxRecDepth 100000 in
set_option maxHeartbeats 4000000 in
theorem c_Mod_mix {l : Launch} {D : va_G} {cI cL cZ : ClassId} (o_Mod a_Mod_0 a_Mod_1 a_Mod_2 a_Mod_3 a_Mod_4 a_Mod_5 a_Mod_6 a_Mod_7 a_Mod_8 a_Mod_9 a_Mod_10 a_Mod_11 a_Mod_12 a_Mod_13 a_Mod_14 : Nat) (v_Mod : T_Mod) (x1 : Int32) (out : T_Mod) (hm : m_Mod_mix v_Mod x1 = some out) : ct l y_Mod_mix (Cond.code y_Mod_mix b_Mod_mix 3 none :: TB) 0 0 D clss (ty3 cI cL cZ) NM0 NF0 [.ref o_Mod, .int x1] (w_Mod cI cL cZ o_Mod a_Mod_0 a_Mod_1 a_Mod_2 a_Mod_3 a_Mod_4 a_Mod_5 a_Mod_6 a_Mod_7 a_Mod_8 a_Mod_9 a_Mod_10 a_Mod_11 a_Mod_12 a_Mod_13 a_Mod_14 v_Mod) (qV D clss (ty3 cI cL cZ) (O_Mod_mix cI cL cZ o_Mod a_Mod_0 a_Mod_1 a_Mod_2 a_Mod_3 a_Mod_4 a_Mod_5 a_Mod_6 a_Mod_7 a_Mod_8 a_Mod_9 a_Mod_10 a_Mod_11 a_Mod_12 a_Mod_13 a_Mod_14 out)) 0 0 := by
  refine ct_of (plainFor_of_name (by decide)) (Nat.le_of_ble_eq_true rfl) (fun p e s m args below meth c A X N hr hlk hnm => ?_)
  refine aj_lv (lv' := [(0, .ref o_Mod), (1, .int x1)]) [0, 1] rfl ?_
  unfold m_Mod_mix at hm
  refine aj_aload_n X d_Mod_mix_0 0 rfl ?_
  refine aj_get X d_Mod_mix_1 in_Mod 0 rfl rfl 3 (by decide) lf_Mod_20 rfl ?_
  refine aj_iload_n X d_Mod_mix_4 1 rfl ?_
  obtain ⟨b4, hm⟩ := chk_of hm
  refine aj_iald X d_Mod_mix_5 2 0 rfl rfl b4 ?_
  refine aj_istore_n (lv' := [(2, .int (v_Mod.2.2.2.1.2 (x1).toNatClampNeg)), (0, .ref o_Mod), (1, .int x1)]) X d_Mod_mix_6 rfl (by decide) rfl ?_
  refine aj_lv (lv' := [(0, .ref o_Mod), (1, .int x1), (2, .int (v_Mod.2.2.2.1.2 (x1).toNatClampNeg))]) [1, 2, 0] rfl ?_
  exact c_Mod_mix_L7 o_Mod a_Mod_0 a_Mod_1 a_Mod_2 a_Mod_3 a_Mod_4 a_Mod_5 a_Mod_6 a_Mod_7 a_Mod_8 a_Mod_9 a_Mod_10 a_Mod_11 a_Mod_12 a_Mod_13 a_Mod_14 out X N hr hlk fu v_Mod x1 (v_Mod.2.2.2.1.2 (x1).toNatClampNeg) hm
