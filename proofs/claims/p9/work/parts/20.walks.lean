abbrev X_Mod_decides (p : Program) (s : State) (m : MethodId) (args : Array Value) (c : Code) (D : va_G) (cI cL cZ : ClassId) (A : Nat → Prop) : Prop := aj_C p s m args c D clss (ty3 cI cL cZ) A b_Mod_decides 2 R_Mod TB
abbrev J_Mod_decides (p : Program) (l : Launch) (e : Env) (s : State) (m : MethodId) (args : Array Value) (below : List Frame) (meth : Method) (c : Code) (D : va_G) (cI cL cZ : ClassId) (A : Nat → Prop) (O : Int32 → va_W → Prop) (mc ms : Nat) (ws : va_W) (kc ks pc : Nat) (lv : List (Nat × Value)) (st : List Value) : Prop := aj p l e { frames := 1, cells := mc, slots := ms, locals := 24 } s m args below meth c (MQ below (qI D clss (ty3 cI cL cZ) O A) args s mc ms A) D clss A 2 ws kc ks pc lv st
def O_Mod_decides (cI cL cZ : ClassId) (o_Mod a_Mod_0 a_Mod_1 a_Mod_2 a_Mod_3 a_Mod_4 a_Mod_5 a_Mod_6 a_Mod_7 a_Mod_8 a_Mod_9 a_Mod_10 a_Mod_11 a_Mod_12 a_Mod_13 a_Mod_14 : Nat) (out : T_Mod × Int32) : Int32 → va_W → Prop := fun r w1 => out.2 = r ∧ w1 = w_Mod cI cL cZ o_Mod a_Mod_0 a_Mod_1 a_Mod_2 a_Mod_3 a_Mod_4 a_Mod_5 a_Mod_6 a_Mod_7 a_Mod_8 a_Mod_9 a_Mod_10 a_Mod_11 a_Mod_12 a_Mod_13 a_Mod_14 out.1
def m_Mod_decides (v_Mod : T_Mod) (x1 : Int32) : Option (T_Mod × Int32) := ((m_Mod_step v_Mod).bind fun r5 => (if r5.2 = 0 then (some (r5.1, (0 : Int32))) else ((m_Mod_comes (r5.1.1, r5.1.2.1, r5.1.2.2.1, r5.1.2.2.2.1, r5.1.2.2.2.2.1, r5.1.2.2.2.2.2.1, r5.1.2.2.2.2.2.2.1, r5.1.2.2.2.2.2.2.2.1, r5.1.2.2.2.2.2.2.2.2.1, r5.1.2.2.2.2.2.2.2.2.2.1, r5.1.2.2.2.2.2.2.2.2.2.2.1, r5.1.2.2.2.2.2.2.2.2.2.2.2.1, r5.1.2.2.2.2.2.2.2.2.2.2.2.2.1, r5.1.2.2.2.2.2.2.2.2.2.2.2.2.2.1, r5.1.2.2.2.2.2.2.2.2.2.2.2.2.2.2.1, r5.1.2.2.2.2.2.2.2.2.2.2.2.2.2.2.2.1, r5.1.2.2.2.2.2.2.2.2.2.2.2.2.2.2.2.2.1, r5.1.2.2.2.2.2.2.2.2.2.2.2.2.2.2.2.2.2.1, r5.1.2.2.2.2.2.2.2.2.2.2.2.2.2.2.2.2.2.2.1, r5.1.2.2.2.2.2.2.2.2.2.2.2.2.2.2.2.2.2.2.2.1, r5.1.2.2.2.2.2.2.2.2.2.2.2.2.2.2.2.2.2.2.2.2.1, r5.1.2.2.2.2.2.2.2.2.2.2.2.2.2.2.2.2.2.2.2.2.2.1, (r5.1.2.2.2.2.2.2.2.2.2.2.2.2.2.2.2.2.2.2.2.2.2.2.1 + (1 : Int32)), r5.1.2.2.2.2.2.2.2.2.2.2.2.2.2.2.2.2.2.2.2.2.2.2.2.1, r5.1.2.2.2.2.2.2.2.2.2.2.2.2.2.2.2.2.2.2.2.2.2.2.2.2.1, r5.1.2.2.2.2.2.2.2.2.2.2.2.2.2.2.2.2.2.2.2.2.2.2.2.2.2.1, r5.1.2.2.2.2.2.2.2.2.2.2.2.2.2.2.2.2.2.2.2.2.2.2.2.2.2.2) x1 (r5.1.2.2.2.2.2.2.2.2.2.2.2.2.2.2.2.2.2.2.2.2.2.2.1 + (1 : Int32)) (-1 : Int32)).bind fun r7 => (some (r7, (1 : Int32))))))
set_option maxRecDepth 100000 in
set_option maxHeartbeats 4000000 in
theorem c_Mod_decides {l : Launch} {D : va_G} {cI cL cZ : ClassId} (o_Mod a_Mod_0 a_Mod_1 a_Mod_2 a_Mod_3 a_Mod_4 a_Mod_5 a_Mod_6 a_Mod_7 a_Mod_8 a_Mod_9 a_Mod_10 a_Mod_11 a_Mod_12 a_Mod_13 a_Mod_14 : Nat) (v_Mod : T_Mod) (x1 : Int32) (out : T_Mod × Int32) (hm : m_Mod_decides v_Mod x1 = some out) : ct l y_Mod_decides (Cond.code y_Mod_decides b_Mod_decides 2 (some .boolean) :: TB) 1 24 D clss (ty3 cI cL cZ) NM0 NF0 [.ref o_Mod, .int x1] (w_Mod cI cL cZ o_Mod a_Mod_0 a_Mod_1 a_Mod_2 a_Mod_3 a_Mod_4 a_Mod_5 a_Mod_6 a_Mod_7 a_Mod_8 a_Mod_9 a_Mod_10 a_Mod_11 a_Mod_12 a_Mod_13 a_Mod_14 v_Mod) (qI D clss (ty3 cI cL cZ) (O_Mod_decides cI cL cZ o_Mod a_Mod_0 a_Mod_1 a_Mod_2 a_Mod_3 a_Mod_4 a_Mod_5 a_Mod_6 a_Mod_7 a_Mod_8 a_Mod_9 a_Mod_10 a_Mod_11 a_Mod_12 a_Mod_13 a_Mod_14 out)) 0 0 := by
  refine ct_of (plainFor_of_name (by decide)) (Nat.le_of_ble_eq_true rfl) (fun p e s m args below meth c A X N hr hlk hnm => ?_)
  refine aj_lv (lv' := [(0, .ref o_Mod), (1, .int x1)]) [0, 1] rfl ?_
  unfold m_Mod_decides at hm
  refine aj_aload_n X d_Mod_decides_0 0 rfl ?_
  obtain ⟨r5, h6, hm⟩ := bnd_of hm
  refine aj_callI (wr := []) X (aj_rV (As := []) (rest := []) X N gTB (c_Mod_step (D := D) (cI := cI) (cL := cL) (cZ := cZ) o_Mod a_Mod_0 a_Mod_1 a_Mod_2 a_Mod_3 a_Mod_4 a_Mod_5 a_Mod_6 a_Mod_7 a_Mod_8 a_Mod_9 a_Mod_10 a_Mod_11 a_Mod_12 a_Mod_13 a_Mod_14 v_Mod r5 h6) d_Mod_decides_1 lk_Mod_step lw_Mod_114 lh_Mod_step ⟨(Nat.le_of_ble_eq_true rfl), (Nat.le_of_ble_eq_true rfl)⟩ [0, 1, 2, 3, 4, 5, 6, 7, 8, 9, 10, 11, 12, 13, 14, 15] rfl rfl 0 rfl rfl rfl rfl (Nat.le_of_ble_eq_true rfl) ⟨Nat.le_refl _, Nat.le_refl _⟩) [0, 1, 2, 3, 4, 5, 6, 7, 8, 9, 10, 11, 12, 13, 14, 15] [] rfl rfl rfl (by decide) (fun rr w1 hO => ?_)
  obtain ⟨rfl, rfl⟩ := hO
  refine aj_perm (ws' := w_Mod cI cL cZ o_Mod a_Mod_0 a_Mod_1 a_Mod_2 a_Mod_3 a_Mod_4 a_Mod_5 a_Mod_6 a_Mod_7 a_Mod_8 a_Mod_9 a_Mod_10 a_Mod_11 a_Mod_12 a_Mod_13 a_Mod_14 r5.1) [0, 1, 2, 3, 4, 5, 6, 7, 8, 9, 10, 11, 12, 13, 14, 15] rfl rfl ?_
  refine aj_if_ne X 9 d_Mod_decides_4 (by decide) (fun h => ?_) (fun h => ?_)
  · have hm := ite_f hm h
    refine aj_aload_n X d_Mod_decides_9 0 rfl ?_
    refine aj_dup X d_Mod_decides_10 rfl ?_
    refine aj_get X d_Mod_decides_11 in_Mod 0 rfl rfl 22 (by decide) lf_Mod_79 rfl ?_
    refine aj_iconst (v := (1 : Int32)) X d_Mod_decides_14 (by decide) ?_
    refine aj_iadd X d_Mod_decides_15 ?_
    refine aj_put (ws' := w_Mod cI cL cZ o_Mod a_Mod_0 a_Mod_1 a_Mod_2 a_Mod_3 a_Mod_4 a_Mod_5 a_Mod_6 a_Mod_7 a_Mod_8 a_Mod_9 a_Mod_10 a_Mod_11 a_Mod_12 a_Mod_13 a_Mod_14 (r5.1.1, r5.1.2.1, r5.1.2.2.1, r5.1.2.2.2.1, r5.1.2.2.2.2.1, r5.1.2.2.2.2.2.1, r5.1.2.2.2.2.2.2.1, r5.1.2.2.2.2.2.2.2.1, r5.1.2.2.2.2.2.2.2.2.1, r5.1.2.2.2.2.2.2.2.2.2.1, r5.1.2.2.2.2.2.2.2.2.2.2.1, r5.1.2.2.2.2.2.2.2.2.2.2.2.1, r5.1.2.2.2.2.2.2.2.2.2.2.2.2.1, r5.1.2.2.2.2.2.2.2.2.2.2.2.2.2.1, r5.1.2.2.2.2.2.2.2.2.2.2.2.2.2.2.1, r5.1.2.2.2.2.2.2.2.2.2.2.2.2.2.2.2.1, r5.1.2.2.2.2.2.2.2.2.2.2.2.2.2.2.2.2.1, r5.1.2.2.2.2.2.2.2.2.2.2.2.2.2.2.2.2.2.1, r5.1.2.2.2.2.2.2.2.2.2.2.2.2.2.2.2.2.2.2.1, r5.1.2.2.2.2.2.2.2.2.2.2.2.2.2.2.2.2.2.2.2.1, r5.1.2.2.2.2.2.2.2.2.2.2.2.2.2.2.2.2.2.2.2.2.1, r5.1.2.2.2.2.2.2.2.2.2.2.2.2.2.2.2.2.2.2.2.2.2.1, (r5.1.2.2.2.2.2.2.2.2.2.2.2.2.2.2.2.2.2.2.2.2.2.2.1 + (1 : Int32)), r5.1.2.2.2.2.2.2.2.2.2.2.2.2.2.2.2.2.2.2.2.2.2.2.2.1, r5.1.2.2.2.2.2.2.2.2.2.2.2.2.2.2.2.2.2.2.2.2.2.2.2.2.1, r5.1.2.2.2.2.2.2.2.2.2.2.2.2.2.2.2.2.2.2.2.2.2.2.2.2.2.1, r5.1.2.2.2.2.2.2.2.2.2.2.2.2.2.2.2.2.2.2.2.2.2.2.2.2.2.2)) X d_Mod_decides_16 in_Mod ty_Mod tyok_Mod nmx_Mod 0 rfl rfl 22 (by decide) lf_Mod_79 rfl rfl rfl (Nat.le_of_ble_eq_true rfl) rfl ?_
    refine aj_aload_n X d_Mod_decides_19 0 rfl ?_
    refine aj_iload_n X d_Mod_decides_20 1 rfl ?_
    refine aj_aload_n X d_Mod_decides_21 0 rfl ?_
    refine aj_get X d_Mod_decides_22 in_Mod 0 rfl rfl 22 (by decide) lf_Mod_79 rfl ?_
    refine aj_iconst (v := (-1 : Int32)) X d_Mod_decides_25 (by decide) ?_
    obtain ⟨r7, h8, hm⟩ := bnd_of hm
    refine aj_callV (wr := []) X (aj_rV (As := [.int x1, .int (r5.1.2.2.2.2.2.2.2.2.2.2.2.2.2.2.2.2.2.2.2.2.2.2.1 + (1 : Int32)), .int (-1 : Int32)]) (rest := []) X N gTB (c_Mod_comes (D := D) (cI := cI) (cL := cL) (cZ := cZ) o_Mod a_Mod_0 a_Mod_1 a_Mod_2 a_Mod_3 a_Mod_4 a_Mod_5 a_Mod_6 a_Mod_7 a_Mod_8 a_Mod_9 a_Mod_10 a_Mod_11 a_Mod_12 a_Mod_13 a_Mod_14 (r5.1.1, r5.1.2.1, r5.1.2.2.1, r5.1.2.2.2.1, r5.1.2.2.2.2.1, r5.1.2.2.2.2.2.1, r5.1.2.2.2.2.2.2.1, r5.1.2.2.2.2.2.2.2.1, r5.1.2.2.2.2.2.2.2.2.1, r5.1.2.2.2.2.2.2.2.2.2.1, r5.1.2.2.2.2.2.2.2.2.2.2.1, r5.1.2.2.2.2.2.2.2.2.2.2.2.1, r5.1.2.2.2.2.2.2.2.2.2.2.2.2.1, r5.1.2.2.2.2.2.2.2.2.2.2.2.2.2.1, r5.1.2.2.2.2.2.2.2.2.2.2.2.2.2.2.1, r5.1.2.2.2.2.2.2.2.2.2.2.2.2.2.2.2.1, r5.1.2.2.2.2.2.2.2.2.2.2.2.2.2.2.2.2.1, r5.1.2.2.2.2.2.2.2.2.2.2.2.2.2.2.2.2.2.1, r5.1.2.2.2.2.2.2.2.2.2.2.2.2.2.2.2.2.2.2.1, r5.1.2.2.2.2.2.2.2.2.2.2.2.2.2.2.2.2.2.2.2.1, r5.1.2.2.2.2.2.2.2.2.2.2.2.2.2.2.2.2.2.2.2.2.1, r5.1.2.2.2.2.2.2.2.2.2.2.2.2.2.2.2.2.2.2.2.2.2.1, (r5.1.2.2.2.2.2.2.2.2.2.2.2.2.2.2.2.2.2.2.2.2.2.2.1 + (1 : Int32)), r5.1.2.2.2.2.2.2.2.2.2.2.2.2.2.2.2.2.2.2.2.2.2.2.2.1, r5.1.2.2.2.2.2.2.2.2.2.2.2.2.2.2.2.2.2.2.2.2.2.2.2.2.1, r5.1.2.2.2.2.2.2.2.2.2.2.2.2.2.2.2.2.2.2.2.2.2.2.2.2.2.1, r5.1.2.2.2.2.2.2.2.2.2.2.2.2.2.2.2.2.2.2.2.2.2.2.2.2.2.2) x1 (r5.1.2.2.2.2.2.2.2.2.2.2.2.2.2.2.2.2.2.2.2.2.2.2.1 + (1 : Int32)) (-1 : Int32) r7 h8) d_Mod_decides_26 lk_Mod_comes lw_Mod_128 lh_Mod_comes ⟨(Nat.le_of_ble_eq_true rfl), (Nat.le_of_ble_eq_true rfl)⟩ [0, 1, 2, 3, 4, 5, 6, 7, 8, 9, 10, 11, 12, 13, 14, 15] rfl rfl 0 rfl rfl rfl rfl (Nat.le_of_ble_eq_true rfl) ⟨Nat.le_refl _, Nat.le_refl _⟩) [0, 1, 2, 3, 4, 5, 6, 7, 8, 9, 10, 11, 12, 13, 14, 15] [] rfl rfl rfl (by decide) (fun w1 hO => ?_)
    obtain rfl := hO
    refine aj_perm (ws' := w_Mod cI cL cZ o_Mod a_Mod_0 a_Mod_1 a_Mod_2 a_Mod_3 a_Mod_4 a_Mod_5 a_Mod_6 a_Mod_7 a_Mod_8 a_Mod_9 a_Mod_10 a_Mod_11 a_Mod_12 a_Mod_13 a_Mod_14 r7) [0, 1, 2, 3, 4, 5, 6, 7, 8, 9, 10, 11, 12, 13, 14, 15] rfl rfl ?_
    refine aj_iconst (v := (1 : Int32)) X d_Mod_decides_29 (by decide) ?_
    have ho := Option.some.inj hm
    subst ho
    exact aj_zret X d_Mod_decides_30 hr hlk (by decide) [0, 1, 2, 3, 4, 5, 6, 7, 8, 9, 10, 11, 12, 13, 14, 15] (w_Mod cI cL cZ o_Mod a_Mod_0 a_Mod_1 a_Mod_2 a_Mod_3 a_Mod_4 a_Mod_5 a_Mod_6 a_Mod_7 a_Mod_8 a_Mod_9 a_Mod_10 a_Mod_11 a_Mod_12 a_Mod_13 a_Mod_14 r7) rfl rfl ⟨rfl, rfl⟩
  · have hm := ite_t hm h
    refine aj_iconst (v := (0 : Int32)) X d_Mod_decides_7 (by decide) ?_
    have ho := Option.some.inj hm
    subst ho
    exact aj_zret X d_Mod_decides_8 hr hlk (by decide) [0, 1, 2, 3, 4, 5, 6, 7, 8, 9, 10, 11, 12, 13, 14, 15] (w_Mod cI cL cZ o_Mod a_Mod_0 a_Mod_1 a_Mod_2 a_Mod_3 a_Mod_4 a_Mod_5 a_Mod_6 a_Mod_7 a_Mod_8 a_Mod_9 a_Mod_10 a_Mod_11 a_Mod_12 a_Mod_13 a_Mod_14 r5.1) rfl rfl ⟨rfl, rfl⟩
abbrev X_Mod_goes (p : Program) (s : State) (m : MethodId) (args : Array Value) (c : Code) (D : va_G) (cI cL cZ : ClassId) (A : Nat → Prop) : Prop := aj_C p s m args c D clss (ty3 cI cL cZ) A b_Mod_goes 4 R_Mod TB
abbrev J_Mod_goes (p : Program) (l : Launch) (e : Env) (s : State) (m : MethodId) (args : Array Value) (below : List Frame) (meth : Method) (c : Code) (D : va_G) (cI cL cZ : ClassId) (A : Nat → Prop) (O : Int32 → va_W → Prop) (mc ms : Nat) (ws : va_W) (kc ks pc : Nat) (lv : List (Nat × Value)) (st : List Value) : Prop := aj p l e { frames := 2, cells := mc, slots := ms, locals := 49 } s m args below meth c (MQ below (qI D clss (ty3 cI cL cZ) O A) args s mc ms A) D clss A 4 ws kc ks pc lv st
def O_Mod_goes (cI cL cZ : ClassId) (o_Mod a_Mod_0 a_Mod_1 a_Mod_2 a_Mod_3 a_Mod_4 a_Mod_5 a_Mod_6 a_Mod_7 a_Mod_8 a_Mod_9 a_Mod_10 a_Mod_11 a_Mod_12 a_Mod_13 a_Mod_14 : Nat) (out : T_Mod × Int32) : Int32 → va_W → Prop := fun r w1 => out.2 = r ∧ w1 = w_Mod cI cL cZ o_Mod a_Mod_0 a_Mod_1 a_Mod_2 a_Mod_3 a_Mod_4 a_Mod_5 a_Mod_6 a_Mod_7 a_Mod_8 a_Mod_9 a_Mod_10 a_Mod_11 a_Mod_12 a_Mod_13 a_Mod_14 out.1
def m_Mod_goes_L184 : Nat → T_Mod → Int32 → Option (T_Mod × Int32)
  | 0, _, _ => none
  | f + 1, v_Mod, x2 => (if v_Mod.2.1 ≤ x2 then (some ((v_Mod.1, v_Mod.2.1, v_Mod.2.2.1, v_Mod.2.2.2.1, v_Mod.2.2.2.2.1, v_Mod.2.2.2.2.2.1, v_Mod.2.2.2.2.2.2.1, v_Mod.2.2.2.2.2.2.2.1, v_Mod.2.2.2.2.2.2.2.2.1, v_Mod.2.2.2.2.2.2.2.2.2.1, v_Mod.2.2.2.2.2.2.2.2.2.2.1, v_Mod.2.2.2.2.2.2.2.2.2.2.2.1, v_Mod.2.2.2.2.2.2.2.2.2.2.2.2.1, v_Mod.2.2.2.2.2.2.2.2.2.2.2.2.2.1, v_Mod.2.2.2.2.2.2.2.2.2.2.2.2.2.2.1, v_Mod.2.2.2.2.2.2.2.2.2.2.2.2.2.2.2.1, v_Mod.2.2.2.2.2.2.2.2.2.2.2.2.2.2.2.2.1, v_Mod.2.2.2.2.2.2.2.2.2.2.2.2.2.2.2.2.2.1, v_Mod.2.2.2.2.2.2.2.2.2.2.2.2.2.2.2.2.2.2.1, v_Mod.2.2.2.2.2.2.2.2.2.2.2.2.2.2.2.2.2.2.2.1, v_Mod.2.2.2.2.2.2.2.2.2.2.2.2.2.2.2.2.2.2.2.2.1, v_Mod.2.2.2.2.2.2.2.2.2.2.2.2.2.2.2.2.2.2.2.2.2.1, v_Mod.2.2.2.2.2.2.2.2.2.2.2.2.2.2.2.2.2.2.2.2.2.2.1, (0 : Int32), v_Mod.2.2.2.2.2.2.2.2.2.2.2.2.2.2.2.2.2.2.2.2.2.2.2.2.1, v_Mod.2.2.2.2.2.2.2.2.2.2.2.2.2.2.2.2.2.2.2.2.2.2.2.2.2.1, v_Mod.2.2.2.2.2.2.2.2.2.2.2.2.2.2.2.2.2.2.2.2.2.2.2.2.2.2), (0 : Int32))) else (if ¬ (x2 < 0 ∨ v_Mod.2.2.2.2.2.2.2.2.2.2.2.2.2.2.2.2.2.2.1.1 ≤ (x2).toNatClampNeg) then (if (v_Mod.2.2.2.2.2.2.2.2.2.2.2.2.2.2.2.2.2.2.1.2 (x2).toNatClampNeg) = 0 then ((m_Mod_decides v_Mod ((2 : Int32) * x2)).bind fun r18 => (if r18.2 = 0 ∨ r18.2 = 1 then (some (r18.1, r18.2)) else none)) else ((m_Mod_goes_L184 f) v_Mod (x2 + 1))) else none))
set_option maxRecDepth 100000 in
set_option maxHeartbeats 4000000 in
theorem c_Mod_goes_L184 {l : Launch} {D : va_G} {cI cL cZ : ClassId} {p : Program} {e : Env} {s : State} {m : MethodId} {args : Array Value} {below : List Frame} {meth : Method} {c : Code} {A : Nat → Prop} (o_Mod a_Mod_0 a_Mod_1 a_Mod_2 a_Mod_3 a_Mod_4 a_Mod_5 a_Mod_6 a_Mod_7 a_Mod_8 a_Mod_9 a_Mod_10 a_Mod_11 a_Mod_12 a_Mod_13 a_Mod_14 : Nat) (out : T_Mod × Int32) (X : X_Mod_goes p s m args c D cI cL cZ A) (N : nk NM0 NF0 s) (hr : meth.sig.returnType = some .boolean) (hlk : meth.locks = false) : ∀ (nn : Nat), ∀ (v_Mod : T_Mod) (x2 : Int32), m_Mod_goes_L184 nn v_Mod x2 = some out → J_Mod_goes p l e s m args below meth c D cI cL cZ A (O_Mod_goes cI cL cZ o_Mod a_Mod_0 a_Mod_1 a_Mod_2 a_Mod_3 a_Mod_4 a_Mod_5 a_Mod_6 a_Mod_7 a_Mod_8 a_Mod_9 a_Mod_10 a_Mod_11 a_Mod_12 a_Mod_13 a_Mod_14 out) 0 0 (w_Mod cI cL cZ o_Mod a_Mod_0 a_Mod_1 a_Mod_2 a_Mod_3 a_Mod_4 a_Mod_5 a_Mod_6 a_Mod_7 a_Mod_8 a_Mod_9 a_Mod_10 a_Mod_11 a_Mod_12 a_Mod_13 a_Mod_14 v_Mod) 0 0 184 [(0, .ref o_Mod), (2, .int x2)] [] := by
  intro nn
  induction nn with
  | zero => intro v_Mod x2 hm; exact absurd hm (by simp [m_Mod_goes_L184])
  | succ nn ih184 =>
    intro v_Mod x2 hm
    unfold m_Mod_goes_L184 at hm
    refine aj_iload_n X d_Mod_goes_184 1 rfl ?_
    refine aj_aload_n X d_Mod_goes_185 0 rfl ?_
    refine aj_get X d_Mod_goes_186 in_Mod 0 rfl rfl 1 (by decide) lf_Mod_13 rfl ?_
    refine aj_icmp_ge X 215 d_Mod_goes_189 (by decide) (fun h => ?_) (fun h => ?_)
    · have hm := ite_t hm h
      refine aj_aload_n X d_Mod_goes_215 0 rfl ?_
      refine aj_iconst (v := (0 : Int32)) X d_Mod_goes_216 (by decide) ?_
      refine aj_put (ws' := w_Mod cI cL cZ o_Mod a_Mod_0 a_Mod_1 a_Mod_2 a_Mod_3 a_Mod_4 a_Mod_5 a_Mod_6 a_Mod_7 a_Mod_8 a_Mod_9 a_Mod_10 a_Mod_11 a_Mod_12 a_Mod_13 a_Mod_14 (v_Mod.1, v_Mod.2.1, v_Mod.2.2.1, v_Mod.2.2.2.1, v_Mod.2.2.2.2.1, v_Mod.2.2.2.2.2.1, v_Mod.2.2.2.2.2.2.1, v_Mod.2.2.2.2.2.2.2.1, v_Mod.2.2.2.2.2.2.2.2.1, v_Mod.2.2.2.2.2.2.2.2.2.1, v_Mod.2.2.2.2.2.2.2.2.2.2.1, v_Mod.2.2.2.2.2.2.2.2.2.2.2.1, v_Mod.2.2.2.2.2.2.2.2.2.2.2.2.1, v_Mod.2.2.2.2.2.2.2.2.2.2.2.2.2.1, v_Mod.2.2.2.2.2.2.2.2.2.2.2.2.2.2.1, v_Mod.2.2.2.2.2.2.2.2.2.2.2.2.2.2.2.1, v_Mod.2.2.2.2.2.2.2.2.2.2.2.2.2.2.2.2.1, v_Mod.2.2.2.2.2.2.2.2.2.2.2.2.2.2.2.2.2.1, v_Mod.2.2.2.2.2.2.2.2.2.2.2.2.2.2.2.2.2.2.1, v_Mod.2.2.2.2.2.2.2.2.2.2.2.2.2.2.2.2.2.2.2.1, v_Mod.2.2.2.2.2.2.2.2.2.2.2.2.2.2.2.2.2.2.2.2.1, v_Mod.2.2.2.2.2.2.2.2.2.2.2.2.2.2.2.2.2.2.2.2.2.1, v_Mod.2.2.2.2.2.2.2.2.2.2.2.2.2.2.2.2.2.2.2.2.2.2.1, (0 : Int32), v_Mod.2.2.2.2.2.2.2.2.2.2.2.2.2.2.2.2.2.2.2.2.2.2.2.2.1, v_Mod.2.2.2.2.2.2.2.2.2.2.2.2.2.2.2.2.2.2.2.2.2.2.2.2.2.1, v_Mod.2.2.2.2.2.2.2.2.2.2.2.2.2.2.2.2.2.2.2.2.2.2.2.2.2.2)) X d_Mod_goes_217 in_Mod ty_Mod tyok_Mod nmx_Mod 0 rfl rfl 23 (by decide) lf_Mod_82 rfl rfl rfl (Nat.le_of_ble_eq_true rfl) rfl ?_
      refine aj_iconst (v := (0 : Int32)) X d_Mod_goes_220 (by decide) ?_
      have ho := Option.some.inj hm
      subst ho
      exact aj_zret X d_Mod_goes_221 hr hlk (by decide) [0, 1, 2, 3, 4, 5, 6, 7, 8, 9, 10, 11, 12, 13, 14, 15] (w_Mod cI cL cZ o_Mod a_Mod_0 a_Mod_1 a_Mod_2 a_Mod_3 a_Mod_4 a_Mod_5 a_Mod_6 a_Mod_7 a_Mod_8 a_Mod_9 a_Mod_10 a_Mod_11 a_Mod_12 a_Mod_13 a_Mod_14 (v_Mod.1, v_Mod.2.1, v_Mod.2.2.1, v_Mod.2.2.2.1, v_Mod.2.2.2.2.1, v_Mod.2.2.2.2.2.1, v_Mod.2.2.2.2.2.2.1, v_Mod.2.2.2.2.2.2.2.1, v_Mod.2.2.2.2.2.2.2.2.1, v_Mod.2.2.2.2.2.2.2.2.2.1, v_Mod.2.2.2.2.2.2.2.2.2.2.1, v_Mod.2.2.2.2.2.2.2.2.2.2.2.1, v_Mod.2.2.2.2.2.2.2.2.2.2.2.2.1, v_Mod.2.2.2.2.2.2.2.2.2.2.2.2.2.1, v_Mod.2.2.2.2.2.2.2.2.2.2.2.2.2.2.1, v_Mod.2.2.2.2.2.2.2.2.2.2.2.2.2.2.2.1, v_Mod.2.2.2.2.2.2.2.2.2.2.2.2.2.2.2.2.1, v_Mod.2.2.2.2.2.2.2.2.2.2.2.2.2.2.2.2.2.1, v_Mod.2.2.2.2.2.2.2.2.2.2.2.2.2.2.2.2.2.2.1, v_Mod.2.2.2.2.2.2.2.2.2.2.2.2.2.2.2.2.2.2.2.1, v_Mod.2.2.2.2.2.2.2.2.2.2.2.2.2.2.2.2.2.2.2.2.1, v_Mod.2.2.2.2.2.2.2.2.2.2.2.2.2.2.2.2.2.2.2.2.2.1, v_Mod.2.2.2.2.2.2.2.2.2.2.2.2.2.2.2.2.2.2.2.2.2.2.1, (0 : Int32), v_Mod.2.2.2.2.2.2.2.2.2.2.2.2.2.2.2.2.2.2.2.2.2.2.2.2.1, v_Mod.2.2.2.2.2.2.2.2.2.2.2.2.2.2.2.2.2.2.2.2.2.2.2.2.2.1, v_Mod.2.2.2.2.2.2.2.2.2.2.2.2.2.2.2.2.2.2.2.2.2.2.2.2.2.2)) rfl rfl ⟨rfl, rfl⟩
    · have hm := ite_f hm h
      refine aj_aload_n X d_Mod_goes_192 0 rfl ?_
      refine aj_get X d_Mod_goes_193 in_Mod 0 rfl rfl 18 (by decide) lf_Mod_67 rfl ?_
      refine aj_iload_n X d_Mod_goes_196 1 rfl ?_
      obtain ⟨b17, hm⟩ := chk_of hm
      refine aj_iald X d_Mod_goes_197 11 0 rfl rfl b17 ?_
      refine aj_if_ne X 209 d_Mod_goes_198 (by decide) (fun h => ?_) (fun h => ?_)
      · have hm := ite_f hm h
        refine aj_iinc (v := (x2 + 1)) (lv' := [(2, .int (x2 + 1)), (0, .ref o_Mod)]) X d_Mod_goes_209 1 rfl rfl (by decide) rfl ?_
        refine aj_goto X 184 d_Mod_goes_212 (by decide) ?_
        refine aj_lv (lv' := [(0, .ref o_Mod), (2, .int (x2 + 1))]) [1, 0] rfl ?_
        exact ih184 v_Mod (x2 + 1) hm
      · have hm := ite_t hm h
        refine aj_aload_n X d_Mod_goes_201 0 rfl ?_
        refine aj_iconst (v := (2 : Int32)) X d_Mod_goes_202 (by decide) ?_
        refine aj_iload_n X d_Mod_goes_203 1 rfl ?_
        refine aj_imul X d_Mod_goes_204 ?_
        obtain ⟨r18, h19, hm⟩ := bnd_of hm
        refine aj_callI (wr := []) X (aj_rV (As := [.int ((2 : Int32) * x2)]) (rest := []) X N gTB (c_Mod_decides (D := D) (cI := cI) (cL := cL) (cZ := cZ) o_Mod a_Mod_0 a_Mod_1 a_Mod_2 a_Mod_3 a_Mod_4 a_Mod_5 a_Mod_6 a_Mod_7 a_Mod_8 a_Mod_9 a_Mod_10 a_Mod_11 a_Mod_12 a_Mod_13 a_Mod_14 v_Mod ((2 : Int32) * x2) r18 h19) d_Mod_goes_205 lk_Mod_decides lw_Mod_142 lh_Mod_decides ⟨(Nat.le_of_ble_eq_true rfl), (Nat.le_of_ble_eq_true rfl)⟩ [0, 1, 2, 3, 4, 5, 6, 7, 8, 9, 10, 11, 12, 13, 14, 15] rfl rfl 0 rfl rfl rfl rfl (Nat.le_of_ble_eq_true rfl) ⟨Nat.le_refl _, Nat.le_refl _⟩) [0, 1, 2, 3, 4, 5, 6, 7, 8, 9, 10, 11, 12, 13, 14, 15] [] rfl rfl rfl (by decide) (fun rr w1 hO => ?_)
        obtain ⟨rfl, rfl⟩ := hO
        refine aj_perm (ws' := w_Mod cI cL cZ o_Mod a_Mod_0 a_Mod_1 a_Mod_2 a_Mod_3 a_Mod_4 a_Mod_5 a_Mod_6 a_Mod_7 a_Mod_8 a_Mod_9 a_Mod_10 a_Mod_11 a_Mod_12 a_Mod_13 a_Mod_14 r18.1) [0, 1, 2, 3, 4, 5, 6, 7, 8, 9, 10, 11, 12, 13, 14, 15] rfl rfl ?_
        obtain ⟨b20, hm⟩ := chk_of hm
        have ho := Option.some.inj hm
        subst ho
        exact aj_zret X d_Mod_goes_208 hr hlk b20 [0, 1, 2, 3, 4, 5, 6, 7, 8, 9, 10, 11, 12, 13, 14, 15] (w_Mod cI cL cZ o_Mod a_Mod_0 a_Mod_1 a_Mod_2 a_Mod_3 a_Mod_4 a_Mod_5 a_Mod_6 a_Mod_7 a_Mod_8 a_Mod_9 a_Mod_10 a_Mod_11 a_Mod_12 a_Mod_13 a_Mod_14 r18.1) rfl rfl ⟨rfl, rfl⟩
def m_Mod_goes_L124 : Nat → T_Mod → Int32 → Option (T_Mod × Int32)
  | 0, _, _ => none
  | f + 1, v_Mod, x2 => (if v_Mod.2.2.2.2.2.2.2.2.2.2.2.2.1 ≤ x2 then (m_Mod_goes_L184 fu v_Mod (0 : Int32)) else (if ¬ (x2 < 0 ∨ v_Mod.2.2.2.2.2.2.2.2.2.2.2.2.2.1.1 ≤ (x2).toNatClampNeg) then ((m_Mod_holds v_Mod (v_Mod.2.2.2.2.2.2.2.2.2.2.2.2.2.1.2 (x2).toNatClampNeg)).bind fun r22 => (if r22 = 0 then (if ¬ (x2 < 0 ∨ v_Mod.2.2.2.2.2.2.2.2.2.2.2.2.2.1.1 ≤ (x2).toNatClampNeg) then ((m_Mod_against v_Mod (v_Mod.2.2.2.2.2.2.2.2.2.2.2.2.2.1.2 (x2).toNatClampNeg)).bind fun r25 => (if r25 = 0 then (if ¬ (x2 < 0 ∨ v_Mod.2.2.2.2.2.2.2.2.2.2.2.2.2.1.1 ≤ (x2).toNatClampNeg) then ((m_Mod_decides v_Mod (v_Mod.2.2.2.2.2.2.2.2.2.2.2.2.2.1.2 (x2).toNatClampNeg)).bind fun r28 => (if r28.2 = 0 ∨ r28.2 = 1 then (some (r28.1, r28.2)) else none)) else none) else ((m_Mod_findCore v_Mod x2).bind fun r31 => (some (r31, (0 : Int32)))))) else none) else ((m_Mod_goes_L124 f) v_Mod (x2 + 1)))) else none))
set_option maxRecDepth 100000 in
set_option maxHeartbeats 4000000 in
theorem c_Mod_goes_L124 {l : Launch} {D : va_G} {cI cL cZ : ClassId} {p : Program} {e : Env} {s : State} {m : MethodId} {args : Array Value} {below : List Frame} {meth : Method} {c : Code} {A : Nat → Prop} (o_Mod a_Mod_0 a_Mod_1 a_Mod_2 a_Mod_3 a_Mod_4 a_Mod_5 a_Mod_6 a_Mod_7 a_Mod_8 a_Mod_9 a_Mod_10 a_Mod_11 a_Mod_12 a_Mod_13 a_Mod_14 : Nat) (out : T_Mod × Int32) (X : X_Mod_goes p s m args c D cI cL cZ A) (N : nk NM0 NF0 s) (hr : meth.sig.returnType = some .boolean) (hlk : meth.locks = false) : ∀ (nn : Nat), ∀ (v_Mod : T_Mod) (x2 : Int32), m_Mod_goes_L124 nn v_Mod x2 = some out → J_Mod_goes p l e s m args below meth c D cI cL cZ A (O_Mod_goes cI cL cZ o_Mod a_Mod_0 a_Mod_1 a_Mod_2 a_Mod_3 a_Mod_4 a_Mod_5 a_Mod_6 a_Mod_7 a_Mod_8 a_Mod_9 a_Mod_10 a_Mod_11 a_Mod_12 a_Mod_13 a_Mod_14 out) 0 0 (w_Mod cI cL cZ o_Mod a_Mod_0 a_Mod_1 a_Mod_2 a_Mod_3 a_Mod_4 a_Mod_5 a_Mod_6 a_Mod_7 a_Mod_8 a_Mod_9 a_Mod_10 a_Mod_11 a_Mod_12 a_Mod_13 a_Mod_14 v_Mod) 0 0 124 [(0, .ref o_Mod), (2, .int x2)] [] := by
  intro nn
  induction nn with
  | zero => intro v_Mod x2 hm; exact absurd hm (by simp [m_Mod_goes_L124])
  | succ nn ih124 =>
    intro v_Mod x2 hm
    unfold m_Mod_goes_L124 at hm
    refine aj_iload_n X d_Mod_goes_124 1 rfl ?_
    refine aj_aload_n X d_Mod_goes_125 0 rfl ?_
    refine aj_get X d_Mod_goes_126 in_Mod 0 rfl rfl 12 (by decide) lf_Mod_48 rfl ?_
    refine aj_icmp_ge X 182 d_Mod_goes_129 (by decide) (fun h => ?_) (fun h => ?_)
    · have hm := ite_t hm h
      refine aj_iconst (v := (0 : Int32)) X d_Mod_goes_182 (by decide) ?_
      refine aj_istore_n (lv' := [(2, .int (0 : Int32)), (0, .ref o_Mod)]) X d_Mod_goes_183 rfl (by decide) rfl ?_
      refine aj_lv (lv' := [(0, .ref o_Mod), (2, .int (0 : Int32))]) [1, 0] rfl ?_
      exact c_Mod_goes_L184 o_Mod a_Mod_0 a_Mod_1 a_Mod_2 a_Mod_3 a_Mod_4 a_Mod_5 a_Mod_6 a_Mod_7 a_Mod_8 a_Mod_9 a_Mod_10 a_Mod_11 a_Mod_12 a_Mod_13 a_Mod_14 out X N hr hlk fu v_Mod (0 : Int32) hm
    · have hm := ite_f hm h
      refine aj_aload_n X d_Mod_goes_132 0 rfl ?_
      refine aj_aload_n X d_Mod_goes_133 0 rfl ?_
      refine aj_get X d_Mod_goes_134 in_Mod 0 rfl rfl 13 (by decide) lf_Mod_51 rfl ?_
      refine aj_iload_n X d_Mod_goes_137 1 rfl ?_
      obtain ⟨b21, hm⟩ := chk_of hm
      refine aj_iald X d_Mod_goes_138 8 0 rfl rfl b21 ?_
      obtain ⟨r22, h23, hm⟩ := bnd_of hm
      refine aj_callI (wr := []) X (aj_rV (As := [.int (v_Mod.2.2.2.2.2.2.2.2.2.2.2.2.2.1.2 (x2).toNatClampNeg)]) (rest := []) X N gTB (c_Mod_holds (D := D) (cI := cI) (cL := cL) (cZ := cZ) o_Mod a_Mod_0 a_Mod_1 a_Mod_2 a_Mod_3 a_Mod_4 a_Mod_5 a_Mod_6 a_Mod_7 a_Mod_8 a_Mod_9 a_Mod_10 a_Mod_11 a_Mod_12 a_Mod_13 a_Mod_14 v_Mod (v_Mod.2.2.2.2.2.2.2.2.2.2.2.2.2.1.2 (x2).toNatClampNeg) r22 h23) d_Mod_goes_139 lk_Mod_holds lw_Mod_95 lh_Mod_holds ⟨(Nat.le_of_ble_eq_true rfl), (Nat.le_of_ble_eq_true rfl)⟩ [0, 1, 2, 3, 4, 5, 6, 7, 8, 9, 10, 11, 12, 13, 14, 15] rfl rfl 0 rfl rfl rfl rfl (Nat.le_of_ble_eq_true rfl) ⟨Nat.le_refl _, Nat.le_refl _⟩) [0, 1, 2, 3, 4, 5, 6, 7, 8, 9, 10, 11, 12, 13, 14, 15] [] rfl rfl rfl (by decide) (fun rr w1 hO => ?_)
      obtain ⟨rfl, rfl⟩ := hO
      refine aj_perm (ws' := w_Mod cI cL cZ o_Mod a_Mod_0 a_Mod_1 a_Mod_2 a_Mod_3 a_Mod_4 a_Mod_5 a_Mod_6 a_Mod_7 a_Mod_8 a_Mod_9 a_Mod_10 a_Mod_11 a_Mod_12 a_Mod_13 a_Mod_14 v_Mod) [0, 1, 2, 3, 4, 5, 6, 7, 8, 9, 10, 11, 12, 13, 14, 15] rfl rfl ?_
      refine aj_if_ne X 176 d_Mod_goes_142 (by decide) (fun h => ?_) (fun h => ?_)
      · have hm := ite_f hm h
        refine aj_iinc (v := (x2 + 1)) (lv' := [(2, .int (x2 + 1)), (0, .ref o_Mod)]) X d_Mod_goes_176 1 rfl rfl (by decide) rfl ?_
        refine aj_goto X 124 d_Mod_goes_179 (by decide) ?_
        refine aj_lv (lv' := [(0, .ref o_Mod), (2, .int (x2 + 1))]) [1, 0] rfl ?_
        exact ih124 v_Mod (x2 + 1) hm
      · have hm := ite_t hm h
        refine aj_aload_n X d_Mod_goes_145 0 rfl ?_
        refine aj_aload_n X d_Mod_goes_146 0 rfl ?_
        refine aj_get X d_Mod_goes_147 in_Mod 0 rfl rfl 13 (by decide) lf_Mod_51 rfl ?_
        refine aj_iload_n X d_Mod_goes_150 1 rfl ?_
        obtain ⟨b24, hm⟩ := chk_of hm
        refine aj_iald X d_Mod_goes_151 8 0 rfl rfl b24 ?_
        obtain ⟨r25, h26, hm⟩ := bnd_of hm
        refine aj_callI (wr := []) X (aj_rV (As := [.int (v_Mod.2.2.2.2.2.2.2.2.2.2.2.2.2.1.2 (x2).toNatClampNeg)]) (rest := []) X N gTB (c_Mod_against (D := D) (cI := cI) (cL := cL) (cZ := cZ) o_Mod a_Mod_0 a_Mod_1 a_Mod_2 a_Mod_3 a_Mod_4 a_Mod_5 a_Mod_6 a_Mod_7 a_Mod_8 a_Mod_9 a_Mod_10 a_Mod_11 a_Mod_12 a_Mod_13 a_Mod_14 v_Mod (v_Mod.2.2.2.2.2.2.2.2.2.2.2.2.2.1.2 (x2).toNatClampNeg) r25 h26) d_Mod_goes_152 lk_Mod_against lw_Mod_99 lh_Mod_against ⟨(Nat.le_of_ble_eq_true rfl), (Nat.le_of_ble_eq_true rfl)⟩ [0, 1, 2, 3, 4, 5, 6, 7, 8, 9, 10, 11, 12, 13, 14, 15] rfl rfl 0 rfl rfl rfl rfl (Nat.le_of_ble_eq_true rfl) ⟨Nat.le_refl _, Nat.le_refl _⟩) [0, 1, 2, 3, 4, 5, 6, 7, 8, 9, 10, 11, 12, 13, 14, 15] [] rfl rfl rfl (by decide) (fun rr w1 hO => ?_)
        obtain ⟨rfl, rfl⟩ := hO
        refine aj_perm (ws' := w_Mod cI cL cZ o_Mod a_Mod_0 a_Mod_1 a_Mod_2 a_Mod_3 a_Mod_4 a_Mod_5 a_Mod_6 a_Mod_7 a_Mod_8 a_Mod_9 a_Mod_10 a_Mod_11 a_Mod_12 a_Mod_13 a_Mod_14 v_Mod) [0, 1, 2, 3, 4, 5, 6, 7, 8, 9, 10, 11, 12, 13, 14, 15] rfl rfl ?_
        refine aj_if_eq X 165 d_Mod_goes_155 (by decide) (fun h => ?_) (fun h => ?_)
        · have hm := ite_t hm h
          refine aj_aload_n X d_Mod_goes_165 0 rfl ?_
          refine aj_aload_n X d_Mod_goes_166 0 rfl ?_
          refine aj_get X d_Mod_goes_167 in_Mod 0 rfl rfl 13 (by decide) lf_Mod_51 rfl ?_
          refine aj_iload_n X d_Mod_goes_170 1 rfl ?_
          obtain ⟨b27, hm⟩ := chk_of hm
          refine aj_iald X d_Mod_goes_171 8 0 rfl rfl b27 ?_
          obtain ⟨r28, h29, hm⟩ := bnd_of hm
          refine aj_callI (wr := []) X (aj_rV (As := [.int (v_Mod.2.2.2.2.2.2.2.2.2.2.2.2.2.1.2 (x2).toNatClampNeg)]) (rest := []) X N gTB (c_Mod_decides (D := D) (cI := cI) (cL := cL) (cZ := cZ) o_Mod a_Mod_0 a_Mod_1 a_Mod_2 a_Mod_3 a_Mod_4 a_Mod_5 a_Mod_6 a_Mod_7 a_Mod_8 a_Mod_9 a_Mod_10 a_Mod_11 a_Mod_12 a_Mod_13 a_Mod_14 v_Mod (v_Mod.2.2.2.2.2.2.2.2.2.2.2.2.2.1.2 (x2).toNatClampNeg) r28 h29) d_Mod_goes_172 lk_Mod_decides lw_Mod_142 lh_Mod_decides ⟨(Nat.le_of_ble_eq_true rfl), (Nat.le_of_ble_eq_true rfl)⟩ [0, 1, 2, 3, 4, 5, 6, 7, 8, 9, 10, 11, 12, 13, 14, 15] rfl rfl 0 rfl rfl rfl rfl (Nat.le_of_ble_eq_true rfl) ⟨Nat.le_refl _, Nat.le_refl _⟩) [0, 1, 2, 3, 4, 5, 6, 7, 8, 9, 10, 11, 12, 13, 14, 15] [] rfl rfl rfl (by decide) (fun rr w1 hO => ?_)
          obtain ⟨rfl, rfl⟩ := hO
          refine aj_perm (ws' := w_Mod cI cL cZ o_Mod a_Mod_0 a_Mod_1 a_Mod_2 a_Mod_3 a_Mod_4 a_Mod_5 a_Mod_6 a_Mod_7 a_Mod_8 a_Mod_9 a_Mod_10 a_Mod_11 a_Mod_12 a_Mod_13 a_Mod_14 r28.1) [0, 1, 2, 3, 4, 5, 6, 7, 8, 9, 10, 11, 12, 13, 14, 15] rfl rfl ?_
          obtain ⟨b30, hm⟩ := chk_of hm
          have ho := Option.some.inj hm
          subst ho
          exact aj_zret X d_Mod_goes_175 hr hlk b30 [0, 1, 2, 3, 4, 5, 6, 7, 8, 9, 10, 11, 12, 13, 14, 15] (w_Mod cI cL cZ o_Mod a_Mod_0 a_Mod_1 a_Mod_2 a_Mod_3 a_Mod_4 a_Mod_5 a_Mod_6 a_Mod_7 a_Mod_8 a_Mod_9 a_Mod_10 a_Mod_11 a_Mod_12 a_Mod_13 a_Mod_14 r28.1) rfl rfl ⟨rfl, rfl⟩
        · have hm := ite_f hm h
          refine aj_aload_n X d_Mod_goes_158 0 rfl ?_
          refine aj_iload_n X d_Mod_goes_159 1 rfl ?_
          obtain ⟨r31, h32, hm⟩ := bnd_of hm
          refine aj_callV (wr := []) X (aj_rV (As := [.int x2]) (rest := []) X N gTB (c_Mod_findCore (D := D) (cI := cI) (cL := cL) (cZ := cZ) o_Mod a_Mod_0 a_Mod_1 a_Mod_2 a_Mod_3 a_Mod_4 a_Mod_5 a_Mod_6 a_Mod_7 a_Mod_8 a_Mod_9 a_Mod_10 a_Mod_11 a_Mod_12 a_Mod_13 a_Mod_14 v_Mod x2 r31 h32) d_Mod_goes_160 lk_Mod_findCore lw_Mod_139 lh_Mod_findCore ⟨(Nat.le_of_ble_eq_true rfl), (Nat.le_of_ble_eq_true rfl)⟩ [0, 1, 2, 3, 4, 5, 6, 7, 8, 9, 10, 11, 12, 13, 14, 15] rfl rfl 0 rfl rfl rfl rfl (Nat.le_of_ble_eq_true rfl) ⟨Nat.le_refl _, Nat.le_refl _⟩) [0, 1, 2, 3, 4, 5, 6, 7, 8, 9, 10, 11, 12, 13, 14, 15] [] rfl rfl rfl (by decide) (fun w1 hO => ?_)
          obtain rfl := hO
          refine aj_perm (ws' := w_Mod cI cL cZ o_Mod a_Mod_0 a_Mod_1 a_Mod_2 a_Mod_3 a_Mod_4 a_Mod_5 a_Mod_6 a_Mod_7 a_Mod_8 a_Mod_9 a_Mod_10 a_Mod_11 a_Mod_12 a_Mod_13 a_Mod_14 r31) [0, 1, 2, 3, 4, 5, 6, 7, 8, 9, 10, 11, 12, 13, 14, 15] rfl rfl ?_
          refine aj_iconst (v := (0 : Int32)) X d_Mod_goes_163 (by decide) ?_
          have ho := Option.some.inj hm
          subst ho
          exact aj_zret X d_Mod_goes_164 hr hlk (by decide) [0, 1, 2, 3, 4, 5, 6, 7, 8, 9, 10, 11, 12, 13, 14, 15] (w_Mod cI cL cZ o_Mod a_Mod_0 a_Mod_1 a_Mod_2 a_Mod_3 a_Mod_4 a_Mod_5 a_Mod_6 a_Mod_7 a_Mod_8 a_Mod_9 a_Mod_10 a_Mod_11 a_Mod_12 a_Mod_13 a_Mod_14 r31) rfl rfl ⟨rfl, rfl⟩
def m_Mod_goes_B122 (v_Mod : T_Mod) : Option (T_Mod × Int32) := (m_Mod_goes_L124 fu v_Mod (0 : Int32))
set_option maxRecDepth 100000 in
set_option maxHeartbeats 4000000 in
theorem c_Mod_goes_B122 {l : Launch} {D : va_G} {cI cL cZ : ClassId} {p : Program} {e : Env} {s : State} {m : MethodId} {args : Array Value} {below : List Frame} {meth : Method} {c : Code} {A : Nat → Prop} (o_Mod a_Mod_0 a_Mod_1 a_Mod_2 a_Mod_3 a_Mod_4 a_Mod_5 a_Mod_6 a_Mod_7 a_Mod_8 a_Mod_9 a_Mod_10 a_Mod_11 a_Mod_12 a_Mod_13 a_Mod_14 : Nat) (out : T_Mod × Int32) (X : X_Mod_goes p s m args c D cI cL cZ A) (N : nk NM0 NF0 s) (hr : meth.sig.returnType = some .boolean) (hlk : meth.locks = false) : ∀ (v_Mod : T_Mod), m_Mod_goes_B122 v_Mod = some out → J_Mod_goes p l e s m args below meth c D cI cL cZ A (O_Mod_goes cI cL cZ o_Mod a_Mod_0 a_Mod_1 a_Mod_2 a_Mod_3 a_Mod_4 a_Mod_5 a_Mod_6 a_Mod_7 a_Mod_8 a_Mod_9 a_Mod_10 a_Mod_11 a_Mod_12 a_Mod_13 a_Mod_14 out) 0 0 (w_Mod cI cL cZ o_Mod a_Mod_0 a_Mod_1 a_Mod_2 a_Mod_3 a_Mod_4 a_Mod_5 a_Mod_6 a_Mod_7 a_Mod_8 a_Mod_9 a_Mod_10 a_Mod_11 a_Mod_12 a_Mod_13 a_Mod_14 v_Mod) 0 0 122 [(0, .ref o_Mod)] [] := by
  intro v_Mod hm
  unfold m_Mod_goes_B122 at hm
  refine aj_iconst (v := (0 : Int32)) X d_Mod_goes_122 (by decide) ?_
  refine aj_istore_n (lv' := [(2, .int (0 : Int32)), (0, .ref o_Mod)]) X d_Mod_goes_123 rfl (by decide) rfl ?_
  refine aj_lv (lv' := [(0, .ref o_Mod), (2, .int (0 : Int32))]) [1, 0] rfl ?_
  exact c_Mod_goes_L124 o_Mod a_Mod_0 a_Mod_1 a_Mod_2 a_Mod_3 a_Mod_4 a_Mod_5 a_Mod_6 a_Mod_7 a_Mod_8 a_Mod_9 a_Mod_10 a_Mod_11 a_Mod_12 a_Mod_13 a_Mod_14 out X N hr hlk fu v_Mod (0 : Int32) hm
def m_Mod_goes_L71 : Nat → T_Mod → Int32 → Int32 → Option (T_Mod × Int32)
  | 0, _, _, _ => none
  | f + 1, v_Mod, x1, x2 => (if ¬ ((x1 + (1 : Int32)) < 0 ∨ v_Mod.2.2.2.1.1 ≤ ((x1 + (1 : Int32))).toNatClampNeg) then (if (v_Mod.2.2.2.1.2 ((x1 + (1 : Int32))).toNatClampNeg) ≤ x2 then (m_Mod_goes_B122 v_Mod) else (if ¬ (x2 < 0 ∨ v_Mod.2.2.1.1 ≤ (x2).toNatClampNeg) then (if ¬ (((v_Mod.2.2.1.2 (x2).toNatClampNeg) / (2 : Int32)) < 0 ∨ v_Mod.2.2.2.2.2.2.2.2.2.2.2.2.2.2.2.2.2.2.1.1 ≤ (((v_Mod.2.2.1.2 (x2).toNatClampNeg) / (2 : Int32))).toNatClampNeg) then (if (v_Mod.2.2.2.2.2.2.2.2.2.2.2.2.2.2.2.2.2.2.1.2 (((v_Mod.2.2.1.2 (x2).toNatClampNeg) / (2 : Int32))).toNatClampNeg) = 0 then (if ¬ (x2 < 0 ∨ v_Mod.2.2.1.1 ≤ (x2).toNatClampNeg) then ((m_Mod_comes v_Mod (v_Mod.2.2.1.2 (x2).toNatClampNeg) v_Mod.2.2.2.2.2.2.2.2.2.2.2.2.2.2.2.2.2.2.2.2.2.2.1 x1).bind fun r37 => (some (r37, (1 : Int32)))) else none) else ((m_Mod_goes_L71 f) v_Mod x1 (x2 + 1))) else none) else none)) else none)
set_option maxRecDepth 100000 in
set_option maxHeartbeats 4000000 in
theorem c_Mod_goes_L71 {l : Launch} {D : va_G} {cI cL cZ : ClassId} {p : Program} {e : Env} {s : State} {m : MethodId} {args : Array Value} {below : List Frame} {meth : Method} {c : Code} {A : Nat → Prop} (o_Mod a_Mod_0 a_Mod_1 a_Mod_2 a_Mod_3 a_Mod_4 a_Mod_5 a_Mod_6 a_Mod_7 a_Mod_8 a_Mod_9 a_Mod_10 a_Mod_11 a_Mod_12 a_Mod_13 a_Mod_14 : Nat) (out : T_Mod × Int32) (X : X_Mod_goes p s m args c D cI cL cZ A) (N : nk NM0 NF0 s) (hr : meth.sig.returnType = some .boolean) (hlk : meth.locks = false) : ∀ (nn : Nat), ∀ (v_Mod : T_Mod) (x1 : Int32) (x2 : Int32), m_Mod_goes_L71 nn v_Mod x1 x2 = some out → J_Mod_goes p l e s m args below meth c D cI cL cZ A (O_Mod_goes cI cL cZ o_Mod a_Mod_0 a_Mod_1 a_Mod_2 a_Mod_3 a_Mod_4 a_Mod_5 a_Mod_6 a_Mod_7 a_Mod_8 a_Mod_9 a_Mod_10 a_Mod_11 a_Mod_12 a_Mod_13 a_Mod_14 out) 0 0 (w_Mod cI cL cZ o_Mod a_Mod_0 a_Mod_1 a_Mod_2 a_Mod_3 a_Mod_4 a_Mod_5 a_Mod_6 a_Mod_7 a_Mod_8 a_Mod_9 a_Mod_10 a_Mod_11 a_Mod_12 a_Mod_13 a_Mod_14 v_Mod) 0 0 71 [(0, .ref o_Mod), (1, .int x1), (2, .int x2)] [] := by
  intro nn
  induction nn with
  | zero => intro v_Mod x1 x2 hm; exact absurd hm (by simp [m_Mod_goes_L71])
  | succ nn ih71 =>
    intro v_Mod x1 x2 hm
    unfold m_Mod_goes_L71 at hm
    refine aj_iload_n X d_Mod_goes_71 2 rfl ?_
    refine aj_aload_n X d_Mod_goes_72 0 rfl ?_
    refine aj_get X d_Mod_goes_73 in_Mod 0 rfl rfl 3 (by decide) lf_Mod_20 rfl ?_
    refine aj_iload_n X d_Mod_goes_76 1 rfl ?_
    refine aj_iconst (v := (1 : Int32)) X d_Mod_goes_77 (by decide) ?_
    refine aj_iadd X d_Mod_goes_78 ?_
    obtain ⟨b33, hm⟩ := chk_of hm
    refine aj_iald X d_Mod_goes_79 2 0 rfl rfl b33 ?_
    refine aj_icmp_ge X 122 d_Mod_goes_80 (by decide) (fun h => ?_) (fun h => ?_)
    · have hm := ite_t hm h
      refine aj_lv (lv' := [(0, .ref o_Mod)]) [0] rfl ?_
      exact c_Mod_goes_B122 o_Mod a_Mod_0 a_Mod_1 a_Mod_2 a_Mod_3 a_Mod_4 a_Mod_5 a_Mod_6 a_Mod_7 a_Mod_8 a_Mod_9 a_Mod_10 a_Mod_11 a_Mod_12 a_Mod_13 a_Mod_14 out X N hr hlk v_Mod hm
    · have hm := ite_f hm h
      refine aj_aload_n X d_Mod_goes_83 0 rfl ?_
      refine aj_get X d_Mod_goes_84 in_Mod 0 rfl rfl 18 (by decide) lf_Mod_67 rfl ?_
      refine aj_aload_n X d_Mod_goes_87 0 rfl ?_
      refine aj_get X d_Mod_goes_88 in_Mod 0 rfl rfl 2 (by decide) lf_Mod_16 rfl ?_
      refine aj_iload_n X d_Mod_goes_91 2 rfl ?_
      obtain ⟨b34, hm⟩ := chk_of hm
      refine aj_iald X d_Mod_goes_92 1 0 rfl rfl b34 ?_
      refine aj_iconst (v := (2 : Int32)) X d_Mod_goes_93 (by decide) ?_
      refine aj_idiv X d_Mod_goes_94 (by decide) ?_
      obtain ⟨b35, hm⟩ := chk_of hm
      refine aj_iald X d_Mod_goes_95 11 0 rfl rfl b35 ?_
      refine aj_if_ne X 116 d_Mod_goes_96 (by decide) (fun h => ?_) (fun h => ?_)
      · have hm := ite_f hm h
        refine aj_iinc (v := (x2 + 1)) (lv' := [(2, .int (x2 + 1)), (0, .ref o_Mod), (1, .int x1)]) X d_Mod_goes_116 2 rfl rfl (by decide) rfl ?_
        refine aj_goto X 71 d_Mod_goes_119 (by decide) ?_
        refine aj_lv (lv' := [(0, .ref o_Mod), (1, .int x1), (2, .int (x2 + 1))]) [1, 2, 0] rfl ?_
        exact ih71 v_Mod x1 (x2 + 1) hm
      · have hm := ite_t hm h
        refine aj_aload_n X d_Mod_goes_99 0 rfl ?_
        refine aj_aload_n X d_Mod_goes_100 0 rfl ?_
        refine aj_get X d_Mod_goes_101 in_Mod 0 rfl rfl 2 (by decide) lf_Mod_16 rfl ?_
        refine aj_iload_n X d_Mod_goes_104 2 rfl ?_
        obtain ⟨b36, hm⟩ := chk_of hm
        refine aj_iald X d_Mod_goes_105 1 0 rfl rfl b36 ?_
        refine aj_aload_n X d_Mod_goes_106 0 rfl ?_
        refine aj_get X d_Mod_goes_107 in_Mod 0 rfl rfl 22 (by decide) lf_Mod_79 rfl ?_
        refine aj_iload_n X d_Mod_goes_110 1 rfl ?_
        obtain ⟨r37, h38, hm⟩ := bnd_of hm
        refine aj_callV (wr := []) X (aj_rV (As := [.int (v_Mod.2.2.1.2 (x2).toNatClampNeg), .int v_Mod.2.2.2.2.2.2.2.2.2.2.2.2.2.2.2.2.2.2.2.2.2.2.1, .int x1]) (rest := []) X N gTB (c_Mod_comes (D := D) (cI := cI) (cL := cL) (cZ := cZ) o_Mod a_Mod_0 a_Mod_1 a_Mod_2 a_Mod_3 a_Mod_4 a_Mod_5 a_Mod_6 a_Mod_7 a_Mod_8 a_Mod_9 a_Mod_10 a_Mod_11 a_Mod_12 a_Mod_13 a_Mod_14 v_Mod (v_Mod.2.2.1.2 (x2).toNatClampNeg) v_Mod.2.2.2.2.2.2.2.2.2.2.2.2.2.2.2.2.2.2.2.2.2.2.1 x1 r37 h38) d_Mod_goes_111 lk_Mod_comes lw_Mod_128 lh_Mod_comes ⟨(Nat.le_of_ble_eq_true rfl), (Nat.le_of_ble_eq_true rfl)⟩ [0, 1, 2, 3, 4, 5, 6, 7, 8, 9, 10, 11, 12, 13, 14, 15] rfl rfl 0 rfl rfl rfl rfl (Nat.le_of_ble_eq_true rfl) ⟨Nat.le_refl _, Nat.le_refl _⟩) [0, 1, 2, 3, 4, 5, 6, 7, 8, 9, 10, 11, 12, 13, 14, 15] [] rfl rfl rfl (by decide) (fun w1 hO => ?_)
        obtain rfl := hO
        refine aj_perm (ws' := w_Mod cI cL cZ o_Mod a_Mod_0 a_Mod_1 a_Mod_2 a_Mod_3 a_Mod_4 a_Mod_5 a_Mod_6 a_Mod_7 a_Mod_8 a_Mod_9 a_Mod_10 a_Mod_11 a_Mod_12 a_Mod_13 a_Mod_14 r37) [0, 1, 2, 3, 4, 5, 6, 7, 8, 9, 10, 11, 12, 13, 14, 15] rfl rfl ?_
        refine aj_iconst (v := (1 : Int32)) X d_Mod_goes_114 (by decide) ?_
        have ho := Option.some.inj hm
        subst ho
        exact aj_zret X d_Mod_goes_115 hr hlk (by decide) [0, 1, 2, 3, 4, 5, 6, 7, 8, 9, 10, 11, 12, 13, 14, 15] (w_Mod cI cL cZ o_Mod a_Mod_0 a_Mod_1 a_Mod_2 a_Mod_3 a_Mod_4 a_Mod_5 a_Mod_6 a_Mod_7 a_Mod_8 a_Mod_9 a_Mod_10 a_Mod_11 a_Mod_12 a_Mod_13 a_Mod_14 r37) rfl rfl ⟨rfl, rfl⟩
def m_Mod_goes_B54 (again4 : T_Mod → Int32 → Int32 → Option (T_Mod × Int32)) (v_Mod : T_Mod) (x1 : Int32) (x2 : Int32) : Option (T_Mod × Int32) := (again4 v_Mod x1 (x2 + 1))
set_option maxRecDepth 100000 in
set_option maxHeartbeats 4000000 in
theorem c_Mod_goes_B54 {l : Launch} {D : va_G} {cI cL cZ : ClassId} {p : Program} {e : Env} {s : State} {m : MethodId} {args : Array Value} {below : List Frame} {meth : Method} {c : Code} {A : Nat → Prop} (o_Mod a_Mod_0 a_Mod_1 a_Mod_2 a_Mod_3 a_Mod_4 a_Mod_5 a_Mod_6 a_Mod_7 a_Mod_8 a_Mod_9 a_Mod_10 a_Mod_11 a_Mod_12 a_Mod_13 a_Mod_14 : Nat) (out : T_Mod × Int32) (X : X_Mod_goes p s m args c D cI cL cZ A) (N : nk NM0 NF0 s) (hr : meth.sig.returnType = some .boolean) (hlk : meth.locks = false) (again4 : T_Mod → Int32 → Int32 → Option (T_Mod × Int32)) (ih4 : ∀ (v_Mod : T_Mod) (x1 : Int32) (x2 : Int32), again4 v_Mod x1 x2 = some out → J_Mod_goes p l e s m args below meth c D cI cL cZ A (O_Mod_goes cI cL cZ o_Mod a_Mod_0 a_Mod_1 a_Mod_2 a_Mod_3 a_Mod_4 a_Mod_5 a_Mod_6 a_Mod_7 a_Mod_8 a_Mod_9 a_Mod_10 a_Mod_11 a_Mod_12 a_Mod_13 a_Mod_14 out) 0 0 (w_Mod cI cL cZ o_Mod a_Mod_0 a_Mod_1 a_Mod_2 a_Mod_3 a_Mod_4 a_Mod_5 a_Mod_6 a_Mod_7 a_Mod_8 a_Mod_9 a_Mod_10 a_Mod_11 a_Mod_12 a_Mod_13 a_Mod_14 v_Mod) 0 0 4 [(0, .ref o_Mod), (1, .int x1), (2, .int x2)] []) : ∀ (v_Mod : T_Mod) (x1 : Int32) (x2 : Int32), m_Mod_goes_B54 again4 v_Mod x1 x2 = some out → J_Mod_goes p l e s m args below meth c D cI cL cZ A (O_Mod_goes cI cL cZ o_Mod a_Mod_0 a_Mod_1 a_Mod_2 a_Mod_3 a_Mod_4 a_Mod_5 a_Mod_6 a_Mod_7 a_Mod_8 a_Mod_9 a_Mod_10 a_Mod_11 a_Mod_12 a_Mod_13 a_Mod_14 out) 0 0 (w_Mod cI cL cZ o_Mod a_Mod_0 a_Mod_1 a_Mod_2 a_Mod_3 a_Mod_4 a_Mod_5 a_Mod_6 a_Mod_7 a_Mod_8 a_Mod_9 a_Mod_10 a_Mod_11 a_Mod_12 a_Mod_13 a_Mod_14 v_Mod) 0 0 54 [(0, .ref o_Mod), (1, .int x1), (2, .int x2)] [] := by
  intro v_Mod x1 x2 hm
  unfold m_Mod_goes_B54 at hm
  refine aj_iinc (v := (x2 + 1)) (lv' := [(2, .int (x2 + 1)), (0, .ref o_Mod), (1, .int x1)]) X d_Mod_goes_54 2 rfl rfl (by decide) rfl ?_
  refine aj_goto X 4 d_Mod_goes_57 (by decide) ?_
  refine aj_lv (lv' := [(0, .ref o_Mod), (1, .int x1), (2, .int (x2 + 1))]) [1, 2, 0] rfl ?_
  exact ih4 v_Mod x1 (x2 + 1) hm
def m_Mod_goes_L4 : Nat → T_Mod → Int32 → Int32 → Option (T_Mod × Int32)
  | 0, _, _, _ => none
  | f + 1, v_Mod, x1, x2 => (if v_Mod.2.2.2.2.2.1 ≤ x2 then (if x1 < 0 then (m_Mod_goes_B122 v_Mod) else (if ¬ (x1 < 0 ∨ v_Mod.2.2.2.1.1 ≤ (x1).toNatClampNeg) then (m_Mod_goes_L71 fu v_Mod x1 (v_Mod.2.2.2.1.2 (x1).toNatClampNeg)) else none)) else ((m_Mod_how v_Mod x2).bind fun r40 => (if r40 = (2 : Int32) then (if v_Mod.2.2.2.2.2.2.2.2.2.2.2.2.2.2.2.2.2.2.2.2.2.2.1 ≤ 0 then (some ((v_Mod.1, v_Mod.2.1, v_Mod.2.2.1, v_Mod.2.2.2.1, v_Mod.2.2.2.2.1, v_Mod.2.2.2.2.2.1, v_Mod.2.2.2.2.2.2.1, v_Mod.2.2.2.2.2.2.2.1, v_Mod.2.2.2.2.2.2.2.2.1, v_Mod.2.2.2.2.2.2.2.2.2.1, v_Mod.2.2.2.2.2.2.2.2.2.2.1, v_Mod.2.2.2.2.2.2.2.2.2.2.2.1, v_Mod.2.2.2.2.2.2.2.2.2.2.2.2.1, v_Mod.2.2.2.2.2.2.2.2.2.2.2.2.2.1, v_Mod.2.2.2.2.2.2.2.2.2.2.2.2.2.2.1, v_Mod.2.2.2.2.2.2.2.2.2.2.2.2.2.2.2.1, v_Mod.2.2.2.2.2.2.2.2.2.2.2.2.2.2.2.2.1, v_Mod.2.2.2.2.2.2.2.2.2.2.2.2.2.2.2.2.2.1, v_Mod.2.2.2.2.2.2.2.2.2.2.2.2.2.2.2.2.2.2.1, v_Mod.2.2.2.2.2.2.2.2.2.2.2.2.2.2.2.2.2.2.2.1, v_Mod.2.2.2.2.2.2.2.2.2.2.2.2.2.2.2.2.2.2.2.2.1, v_Mod.2.2.2.2.2.2.2.2.2.2.2.2.2.2.2.2.2.2.2.2.2.1, v_Mod.2.2.2.2.2.2.2.2.2.2.2.2.2.2.2.2.2.2.2.2.2.2.1, (2 : Int32), v_Mod.2.2.2.2.2.2.2.2.2.2.2.2.2.2.2.2.2.2.2.2.2.2.2.2.1, v_Mod.2.2.2.2.2.2.2.2.2.2.2.2.2.2.2.2.2.2.2.2.2.2.2.2.2.1, v_Mod.2.2.2.2.2.2.2.2.2.2.2.2.2.2.2.2.2.2.2.2.2.2.2.2.2.2), (0 : Int32))) else ((m_Mod_learns v_Mod x2).bind fun r42 => (if r42.2 = 0 ∨ r42.2 = 1 then (some (r42.1, r42.2)) else none))) else (if r40 = (1 : Int32) then (if 0 ≤ x1 then (m_Mod_goes_B54 (m_Mod_goes_L4 f) v_Mod x1 x2) else (m_Mod_goes_B54 (m_Mod_goes_L4 f) v_Mod x2 x2)) else (m_Mod_goes_B54 (m_Mod_goes_L4 f) v_Mod x1 x2)))))
set_option maxRecDepth 100000 in
set_option maxHeartbeats 4000000 in
theorem c_Mod_goes_L4 {l : Launch} {D : va_G} {cI cL cZ : ClassId} {p : Program} {e : Env} {s : State} {m : MethodId} {args : Array Value} {below : List Frame} {meth : Method} {c : Code} {A : Nat → Prop} (o_Mod a_Mod_0 a_Mod_1 a_Mod_2 a_Mod_3 a_Mod_4 a_Mod_5 a_Mod_6 a_Mod_7 a_Mod_8 a_Mod_9 a_Mod_10 a_Mod_11 a_Mod_12 a_Mod_13 a_Mod_14 : Nat) (out : T_Mod × Int32) (X : X_Mod_goes p s m args c D cI cL cZ A) (N : nk NM0 NF0 s) (hr : meth.sig.returnType = some .boolean) (hlk : meth.locks = false) : ∀ (nn : Nat), ∀ (v_Mod : T_Mod) (x1 : Int32) (x2 : Int32), m_Mod_goes_L4 nn v_Mod x1 x2 = some out → J_Mod_goes p l e s m args below meth c D cI cL cZ A (O_Mod_goes cI cL cZ o_Mod a_Mod_0 a_Mod_1 a_Mod_2 a_Mod_3 a_Mod_4 a_Mod_5 a_Mod_6 a_Mod_7 a_Mod_8 a_Mod_9 a_Mod_10 a_Mod_11 a_Mod_12 a_Mod_13 a_Mod_14 out) 0 0 (w_Mod cI cL cZ o_Mod a_Mod_0 a_Mod_1 a_Mod_2 a_Mod_3 a_Mod_4 a_Mod_5 a_Mod_6 a_Mod_7 a_Mod_8 a_Mod_9 a_Mod_10 a_Mod_11 a_Mod_12 a_Mod_13 a_Mod_14 v_Mod) 0 0 4 [(0, .ref o_Mod), (1, .int x1), (2, .int x2)] [] := by
  intro nn
  induction nn with
  | zero => intro v_Mod x1 x2 hm; exact absurd hm (by simp [m_Mod_goes_L4])
  | succ nn ih4 =>
    intro v_Mod x1 x2 hm
    unfold m_Mod_goes_L4 at hm
    refine aj_iload_n X d_Mod_goes_4 2 rfl ?_
    refine aj_aload_n X d_Mod_goes_5 0 rfl ?_
    refine aj_get X d_Mod_goes_6 in_Mod 0 rfl rfl 5 (by decide) lf_Mod_27 rfl ?_
    refine aj_icmp_ge X 60 d_Mod_goes_9 (by decide) (fun h => ?_) (fun h => ?_)
    · have hm := ite_t hm h
      refine aj_iload_n X d_Mod_goes_60 1 rfl ?_
      refine aj_if_lt X 122 d_Mod_goes_61 (by decide) (fun h => ?_) (fun h => ?_)
      · have hm := ite_t hm h
        refine aj_lv (lv' := [(0, .ref o_Mod)]) [0] rfl ?_
        exact c_Mod_goes_B122 o_Mod a_Mod_0 a_Mod_1 a_Mod_2 a_Mod_3 a_Mod_4 a_Mod_5 a_Mod_6 a_Mod_7 a_Mod_8 a_Mod_9 a_Mod_10 a_Mod_11 a_Mod_12 a_Mod_13 a_Mod_14 out X N hr hlk v_Mod hm
      · have hm := ite_f hm h
        refine aj_aload_n X d_Mod_goes_64 0 rfl ?_
        refine aj_get X d_Mod_goes_65 in_Mod 0 rfl rfl 3 (by decide) lf_Mod_20 rfl ?_
        refine aj_iload_n X d_Mod_goes_68 1 rfl ?_
        obtain ⟨b39, hm⟩ := chk_of hm
        refine aj_iald X d_Mod_goes_69 2 0 rfl rfl b39 ?_
        refine aj_istore_n (lv' := [(2, .int (v_Mod.2.2.2.1.2 (x1).toNatClampNeg)), (0, .ref o_Mod), (1, .int x1)]) X d_Mod_goes_70 rfl (by decide) rfl ?_
        refine aj_lv (lv' := [(0, .ref o_Mod), (1, .int x1), (2, .int (v_Mod.2.2.2.1.2 (x1).toNatClampNeg))]) [1, 2, 0] rfl ?_
        exact c_Mod_goes_L71 o_Mod a_Mod_0 a_Mod_1 a_Mod_2 a_Mod_3 a_Mod_4 a_Mod_5 a_Mod_6 a_Mod_7 a_Mod_8 a_Mod_9 a_Mod_10 a_Mod_11 a_Mod_12 a_Mod_13 a_Mod_14 out X N hr hlk fu v_Mod x1 (v_Mod.2.2.2.1.2 (x1).toNatClampNeg) hm
    · have hm := ite_f hm h
      refine aj_aload_n X d_Mod_goes_12 0 rfl ?_
      refine aj_iload_n X d_Mod_goes_13 2 rfl ?_
      obtain ⟨r40, h41, hm⟩ := bnd_of hm
      refine aj_callI (wr := []) X (aj_rV (As := [.int x2]) (rest := []) X N gTB (c_Mod_how (D := D) (cI := cI) (cL := cL) (cZ := cZ) o_Mod a_Mod_0 a_Mod_1 a_Mod_2 a_Mod_3 a_Mod_4 a_Mod_5 a_Mod_6 a_Mod_7 a_Mod_8 a_Mod_9 a_Mod_10 a_Mod_11 a_Mod_12 a_Mod_13 a_Mod_14 v_Mod x2 r40 h41) d_Mod_goes_14 lk_Mod_how lw_Mod_132 lh_Mod_how ⟨(Nat.le_of_ble_eq_true rfl), (Nat.le_of_ble_eq_true rfl)⟩ [0, 1, 2, 3, 4, 5, 6, 7, 8, 9, 10, 11, 12, 13, 14, 15] rfl rfl 0 rfl rfl rfl rfl (Nat.le_of_ble_eq_true rfl) ⟨Nat.le_refl _, Nat.le_refl _⟩) [0, 1, 2, 3, 4, 5, 6, 7, 8, 9, 10, 11, 12, 13, 14, 15] [] rfl rfl rfl (by decide) (fun rr w1 hO => ?_)
      obtain ⟨rfl, rfl⟩ := hO
      refine aj_perm (ws' := w_Mod cI cL cZ o_Mod a_Mod_0 a_Mod_1 a_Mod_2 a_Mod_3 a_Mod_4 a_Mod_5 a_Mod_6 a_Mod_7 a_Mod_8 a_Mod_9 a_Mod_10 a_Mod_11 a_Mod_12 a_Mod_13 a_Mod_14 v_Mod) [0, 1, 2, 3, 4, 5, 6, 7, 8, 9, 10, 11, 12, 13, 14, 15] rfl rfl ?_
      refine aj_istore_n (lv' := [(3, .int r40), (0, .ref o_Mod), (1, .int x1), (2, .int x2)]) X d_Mod_goes_17 rfl (by decide) rfl ?_
      refine aj_iload_n X d_Mod_goes_18 0 rfl ?_
      refine aj_iconst (v := (2 : Int32)) X d_Mod_goes_19 (by decide) ?_
      refine aj_icmp_ne X 43 d_Mod_goes_20 (by decide) (fun h => ?_) (fun h => ?_)
      · have hm := ite_f hm h
        refine aj_iload_n X d_Mod_goes_43 0 rfl ?_
        refine aj_iconst (v := (1 : Int32)) X d_Mod_goes_44 (by decide) ?_
        refine aj_icmp_ne X 54 d_Mod_goes_45 (by decide) (fun h => ?_) (fun h => ?_)
        · have hm := ite_f hm h
          refine aj_lv (lv' := [(0, .ref o_Mod), (1, .int x1), (2, .int x2)]) [1, 2, 3] rfl ?_
          exact c_Mod_goes_B54 o_Mod a_Mod_0 a_Mod_1 a_Mod_2 a_Mod_3 a_Mod_4 a_Mod_5 a_Mod_6 a_Mod_7 a_Mod_8 a_Mod_9 a_Mod_10 a_Mod_11 a_Mod_12 a_Mod_13 a_Mod_14 out X N hr hlk (m_Mod_goes_L4 nn) ih4 v_Mod x1 x2 hm
        · have hm := ite_t hm h
          refine aj_iload_n X d_Mod_goes_48 2 rfl ?_
          refine aj_if_ge X 54 d_Mod_goes_49 (by decide) (fun h => ?_) (fun h => ?_)
          · have hm := ite_t hm h
            refine aj_lv (lv' := [(0, .ref o_Mod), (1, .int x1), (2, .int x2)]) [1, 2, 3] rfl ?_
            exact c_Mod_goes_B54 o_Mod a_Mod_0 a_Mod_1 a_Mod_2 a_Mod_3 a_Mod_4 a_Mod_5 a_Mod_6 a_Mod_7 a_Mod_8 a_Mod_9 a_Mod_10 a_Mod_11 a_Mod_12 a_Mod_13 a_Mod_14 out X N hr hlk (m_Mod_goes_L4 nn) ih4 v_Mod x1 x2 hm
          · have hm := ite_f hm h
            refine aj_iload_n X d_Mod_goes_52 3 rfl ?_
            refine aj_istore_n (lv' := [(1, .int x2), (3, .int r40), (0, .ref o_Mod), (2, .int x2)]) X d_Mod_goes_53 rfl (by decide) rfl ?_
            refine aj_lv (lv' := [(0, .ref o_Mod), (1, .int x2), (2, .int x2)]) [2, 0, 3] rfl ?_
            exact c_Mod_goes_B54 o_Mod a_Mod_0 a_Mod_1 a_Mod_2 a_Mod_3 a_Mod_4 a_Mod_5 a_Mod_6 a_Mod_7 a_Mod_8 a_Mod_9 a_Mod_10 a_Mod_11 a_Mod_12 a_Mod_13 a_Mod_14 out X N hr hlk (m_Mod_goes_L4 nn) ih4 v_Mod x2 x2 hm
      · have hm := ite_t hm h
        refine aj_aload_n X d_Mod_goes_23 1 rfl ?_
        refine aj_get X d_Mod_goes_24 in_Mod 0 rfl rfl 22 (by decide) lf_Mod_79 rfl ?_
        refine aj_if_le X 36 d_Mod_goes_27 (by decide) (fun h => ?_) (fun h => ?_)
        · have hm := ite_t hm h
          refine aj_aload_n X d_Mod_goes_36 1 rfl ?_
          refine aj_iconst (v := (2 : Int32)) X d_Mod_goes_37 (by decide) ?_
          refine aj_put (ws' := w_Mod cI cL cZ o_Mod a_Mod_0 a_Mod_1 a_Mod_2 a_Mod_3 a_Mod_4 a_Mod_5 a_Mod_6 a_Mod_7 a_Mod_8 a_Mod_9 a_Mod_10 a_Mod_11 a_Mod_12 a_Mod_13 a_Mod_14 (v_Mod.1, v_Mod.2.1, v_Mod.2.2.1, v_Mod.2.2.2.1, v_Mod.2.2.2.2.1, v_Mod.2.2.2.2.2.1, v_Mod.2.2.2.2.2.2.1, v_Mod.2.2.2.2.2.2.2.1, v_Mod.2.2.2.2.2.2.2.2.1, v_Mod.2.2.2.2.2.2.2.2.2.1, v_Mod.2.2.2.2.2.2.2.2.2.2.1, v_Mod.2.2.2.2.2.2.2.2.2.2.2.1, v_Mod.2.2.2.2.2.2.2.2.2.2.2.2.1, v_Mod.2.2.2.2.2.2.2.2.2.2.2.2.2.1, v_Mod.2.2.2.2.2.2.2.2.2.2.2.2.2.2.1, v_Mod.2.2.2.2.2.2.2.2.2.2.2.2.2.2.2.1, v_Mod.2.2.2.2.2.2.2.2.2.2.2.2.2.2.2.2.1, v_Mod.2.2.2.2.2.2.2.2.2.2.2.2.2.2.2.2.2.1, v_Mod.2.2.2.2.2.2.2.2.2.2.2.2.2.2.2.2.2.2.1, v_Mod.2.2.2.2.2.2.2.2.2.2.2.2.2.2.2.2.2.2.2.1, v_Mod.2.2.2.2.2.2.2.2.2.2.2.2.2.2.2.2.2.2.2.2.1, v_Mod.2.2.2.2.2.2.2.2.2.2.2.2.2.2.2.2.2.2.2.2.2.1, v_Mod.2.2.2.2.2.2.2.2.2.2.2.2.2.2.2.2.2.2.2.2.2.2.1, (2 : Int32), v_Mod.2.2.2.2.2.2.2.2.2.2.2.2.2.2.2.2.2.2.2.2.2.2.2.2.1, v_Mod.2.2.2.2.2.2.2.2.2.2.2.2.2.2.2.2.2.2.2.2.2.2.2.2.2.1, v_Mod.2.2.2.2.2.2.2.2.2.2.2.2.2.2.2.2.2.2.2.2.2.2.2.2.2.2)) X d_Mod_goes_38 in_Mod ty_Mod tyok_Mod nmx_Mod 0 rfl rfl 23 (by decide) lf_Mod_82 rfl rfl rfl (Nat.le_of_ble_eq_true rfl) rfl ?_
          refine aj_iconst (v := (0 : Int32)) X d_Mod_goes_41 (by decide) ?_
          have ho := Option.some.inj hm
          subst ho
          exact aj_zret X d_Mod_goes_42 hr hlk (by decide) [0, 1, 2, 3, 4, 5, 6, 7, 8, 9, 10, 11, 12, 13, 14, 15] (w_Mod cI cL cZ o_Mod a_Mod_0 a_Mod_1 a_Mod_2 a_Mod_3 a_Mod_4 a_Mod_5 a_Mod_6 a_Mod_7 a_Mod_8 a_Mod_9 a_Mod_10 a_Mod_11 a_Mod_12 a_Mod_13 a_Mod_14 (v_Mod.1, v_Mod.2.1, v_Mod.2.2.1, v_Mod.2.2.2.1, v_Mod.2.2.2.2.1, v_Mod.2.2.2.2.2.1, v_Mod.2.2.2.2.2.2.1, v_Mod.2.2.2.2.2.2.2.1, v_Mod.2.2.2.2.2.2.2.2.1, v_Mod.2.2.2.2.2.2.2.2.2.1, v_Mod.2.2.2.2.2.2.2.2.2.2.1, v_Mod.2.2.2.2.2.2.2.2.2.2.2.1, v_Mod.2.2.2.2.2.2.2.2.2.2.2.2.1, v_Mod.2.2.2.2.2.2.2.2.2.2.2.2.2.1, v_Mod.2.2.2.2.2.2.2.2.2.2.2.2.2.2.1, v_Mod.2.2.2.2.2.2.2.2.2.2.2.2.2.2.2.1, v_Mod.2.2.2.2.2.2.2.2.2.2.2.2.2.2.2.2.1, v_Mod.2.2.2.2.2.2.2.2.2.2.2.2.2.2.2.2.2.1, v_Mod.2.2.2.2.2.2.2.2.2.2.2.2.2.2.2.2.2.2.1, v_Mod.2.2.2.2.2.2.2.2.2.2.2.2.2.2.2.2.2.2.2.1, v_Mod.2.2.2.2.2.2.2.2.2.2.2.2.2.2.2.2.2.2.2.2.1, v_Mod.2.2.2.2.2.2.2.2.2.2.2.2.2.2.2.2.2.2.2.2.2.1, v_Mod.2.2.2.2.2.2.2.2.2.2.2.2.2.2.2.2.2.2.2.2.2.2.1, (2 : Int32), v_Mod.2.2.2.2.2.2.2.2.2.2.2.2.2.2.2.2.2.2.2.2.2.2.2.2.1, v_Mod.2.2.2.2.2.2.2.2.2.2.2.2.2.2.2.2.2.2.2.2.2.2.2.2.2.1, v_Mod.2.2.2.2.2.2.2.2.2.2.2.2.2.2.2.2.2.2.2.2.2.2.2.2.2.2)) rfl rfl ⟨rfl, rfl⟩
        · have hm := ite_f hm h
          refine aj_aload_n X d_Mod_goes_30 1 rfl ?_
          refine aj_iload_n X d_Mod_goes_31 3 rfl ?_
          obtain ⟨r42, h43, hm⟩ := bnd_of hm
          refine aj_callI (wr := []) X (aj_rV (As := [.int x2]) (rest := []) X N gTB (c_Mod_learns (D := D) (cI := cI) (cL := cL) (cZ := cZ) o_Mod a_Mod_0 a_Mod_1 a_Mod_2 a_Mod_3 a_Mod_4 a_Mod_5 a_Mod_6 a_Mod_7 a_Mod_8 a_Mod_9 a_Mod_10 a_Mod_11 a_Mod_12 a_Mod_13 a_Mod_14 v_Mod x2 r42 h43) d_Mod_goes_32 lk_Mod_learns lw_Mod_136 lh_Mod_learns ⟨(Nat.le_of_ble_eq_true rfl), (Nat.le_of_ble_eq_true rfl)⟩ [0, 1, 2, 3, 4, 5, 6, 7, 8, 9, 10, 11, 12, 13, 14, 15] rfl rfl 0 rfl rfl rfl rfl (Nat.le_of_ble_eq_true rfl) ⟨Nat.le_refl _, Nat.le_refl _⟩) [0, 1, 2, 3, 4, 5, 6, 7, 8, 9, 10, 11, 12, 13, 14, 15] [] rfl rfl rfl (by decide) (fun rr w1 hO => ?_)
          obtain ⟨rfl, rfl⟩ := hO
          refine aj_perm (ws' := w_Mod cI cL cZ o_Mod a_Mod_0 a_Mod_1 a_Mod_2 a_Mod_3 a_Mod_4 a_Mod_5 a_Mod_6 a_Mod_7 a_Mod_8 a_Mod_9 a_Mod_10 a_Mod_11 a_Mod_12 a_Mod_13 a_Mod_14 r42.1) [0, 1, 2, 3, 4, 5, 6, 7, 8, 9, 10, 11, 12, 13, 14, 15] rfl rfl ?_
          obtain ⟨b44, hm⟩ := chk_of hm
          have ho := Option.some.inj hm
          subst ho
          exact aj_zret X d_Mod_goes_35 hr hlk b44 [0, 1, 2, 3, 4, 5, 6, 7, 8, 9, 10, 11, 12, 13, 14, 15] (w_Mod cI cL cZ o_Mod a_Mod_0 a_Mod_1 a_Mod_2 a_Mod_3 a_Mod_4 a_Mod_5 a_Mod_6 a_Mod_7 a_Mod_8 a_Mod_9 a_Mod_10 a_Mod_11 a_Mod_12 a_Mod_13 a_Mod_14 r42.1) rfl rfl ⟨rfl, rfl⟩
def m_Mod_goes (v_Mod : T_Mod) : Option (T_Mod × Int32) := (m_Mod_goes_L4 fu v_Mod (-1 : Int32) (0 : Int32))
set_option maxRecDepth 100000 in
set_option maxHeartbeats 4000000 in
theorem c_Mod_goes {l : Launch} {D : va_G} {cI cL cZ : ClassId} (o_Mod a_Mod_0 a_Mod_1 a_Mod_2 a_Mod_3 a_Mod_4 a_Mod_5 a_Mod_6 a_Mod_7 a_Mod_8 a_Mod_9 a_Mod_10 a_Mod_11 a_Mod_12 a_Mod_13 a_Mod_14 : Nat) (v_Mod : T_Mod) (out : T_Mod × Int32) (hm : m_Mod_goes v_Mod = some out) : ct l y_Mod_goes (Cond.code y_Mod_goes b_Mod_goes 4 (some .boolean) :: TB) 2 49 D clss (ty3 cI cL cZ) NM0 NF0 [.ref o_Mod] (w_Mod cI cL cZ o_Mod a_Mod_0 a_Mod_1 a_Mod_2 a_Mod_3 a_Mod_4 a_Mod_5 a_Mod_6 a_Mod_7 a_Mod_8 a_Mod_9 a_Mod_10 a_Mod_11 a_Mod_12 a_Mod_13 a_Mod_14 v_Mod) (qI D clss (ty3 cI cL cZ) (O_Mod_goes cI cL cZ o_Mod a_Mod_0 a_Mod_1 a_Mod_2 a_Mod_3 a_Mod_4 a_Mod_5 a_Mod_6 a_Mod_7 a_Mod_8 a_Mod_9 a_Mod_10 a_Mod_11 a_Mod_12 a_Mod_13 a_Mod_14 out)) 0 0 := by
  refine ct_of (plainFor_of_name (by decide)) (Nat.le_of_ble_eq_true rfl) (fun p e s m args below meth c A X N hr hlk hnm => ?_)
  refine aj_lv (lv' := [(0, .ref o_Mod)]) [0] rfl ?_
  unfold m_Mod_goes at hm
  refine aj_iconst (v := (-1 : Int32)) X d_Mod_goes_0 (by decide) ?_
  refine aj_istore_n (lv' := [(1, .int (-1 : Int32)), (0, .ref o_Mod)]) X d_Mod_goes_1 rfl (by decide) rfl ?_
  refine aj_iconst (v := (0 : Int32)) X d_Mod_goes_2 (by decide) ?_
  refine aj_istore_n (lv' := [(2, .int (0 : Int32)), (1, .int (-1 : Int32)), (0, .ref o_Mod)]) X d_Mod_goes_3 rfl (by decide) rfl ?_
  refine aj_lv (lv' := [(0, .ref o_Mod), (1, .int (-1 : Int32)), (2, .int (0 : Int32))]) [2, 1, 0] rfl ?_
  exact c_Mod_goes_L4 o_Mod a_Mod_0 a_Mod_1 a_Mod_2 a_Mod_3 a_Mod_4 a_Mod_5 a_Mod_6 a_Mod_7 a_Mod_8 a_Mod_9 a_Mod_10 a_Mod_11 a_Mod_12 a_Mod_13 a_Mod_14 out X N hr hlk fu v_Mod (-1 : Int32) (0 : Int32) hm
abbrev X_Mod_goOnWith (p : Program) (s : State) (m : MethodId) (args : Array Value) (c : Code) (D : va_G) (cI cL cZ : ClassId) (A : Nat → Prop) : Prop := aj_C p s m args c D clss (ty3 cI cL cZ) A b_Mod_goOnWith 4 R_Mod TB
abbrev J_Mod_goOnWith (p : Program) (l : Launch) (e : Env) (s : State) (m : MethodId) (args : Array Value) (below : List Frame) (meth : Method) (c : Code) (D : va_G) (cI cL cZ : ClassId) (A : Nat → Prop) (O : va_W → Prop) (mc ms : Nat) (ws : va_W) (kc ks pc : Nat) (lv : List (Nat × Value)) (st : List Value) : Prop := aj p l e { frames := 3, cells := mc, slots := ms, locals := 72 } s m args below meth c (MQ below (qV D clss (ty3 cI cL cZ) O A) args s mc ms A) D clss A 4 ws kc ks pc lv st
def O_Mod_goOnWith (cI cL cZ : ClassId) (o_Mod a_Mod_0 a_Mod_1 a_Mod_2 a_Mod_3 a_Mod_4 a_Mod_5 a_Mod_6 a_Mod_7 a_Mod_8 a_Mod_9 a_Mod_10 a_Mod_11 a_Mod_12 a_Mod_13 a_Mod_14 : Nat) (out : T_Mod) : va_W → Prop := fun w1 => w1 = w_Mod cI cL cZ o_Mod a_Mod_0 a_Mod_1 a_Mod_2 a_Mod_3 a_Mod_4 a_Mod_5 a_Mod_6 a_Mod_7 a_Mod_8 a_Mod_9 a_Mod_10 a_Mod_11 a_Mod_12 a_Mod_13 a_Mod_14 out
def m_Mod_goOnWith_L12 : Nat → T_Mod → Int32 → Option (T_Mod)
  | 0, _, _ => none
  | f + 1, v_Mod, x3 => (if x3 = 0 then (some v_Mod) else ((m_Mod_goes v_Mod).bind fun r3 => ((m_Mod_goOnWith_L12 f) r3.1 r3.2)))
set_option maxRecDepth 100000 in
set_option maxHeartbeats 4000000 in
theorem c_Mod_goOnWith_L12 {l : Launch} {D : va_G} {cI cL cZ : ClassId} {p : Program} {e : Env} {s : State} {m : MethodId} {args : Array Value} {below : List Frame} {meth : Method} {c : Code} {A : Nat → Prop} (o_Mod a_Mod_0 a_Mod_1 a_Mod_2 a_Mod_3 a_Mod_4 a_Mod_5 a_Mod_6 a_Mod_7 a_Mod_8 a_Mod_9 a_Mod_10 a_Mod_11 a_Mod_12 a_Mod_13 a_Mod_14 : Nat) (out : T_Mod) (X : X_Mod_goOnWith p s m args c D cI cL cZ A) (N : nk NM0 NF0 s) (hr : meth.sig.returnType = none) (hlk : meth.locks = false) : ∀ (nn : Nat), ∀ (v_Mod : T_Mod) (x3 : Int32), m_Mod_goOnWith_L12 nn v_Mod x3 = some out → J_Mod_goOnWith p l e s m args below meth c D cI cL cZ A (O_Mod_goOnWith cI cL cZ o_Mod a_Mod_0 a_Mod_1 a_Mod_2 a_Mod_3 a_Mod_4 a_Mod_5 a_Mod_6 a_Mod_7 a_Mod_8 a_Mod_9 a_Mod_10 a_Mod_11 a_Mod_12 a_Mod_13 a_Mod_14 out) 0 0 (w_Mod cI cL cZ o_Mod a_Mod_0 a_Mod_1 a_Mod_2 a_Mod_3 a_Mod_4 a_Mod_5 a_Mod_6 a_Mod_7 a_Mod_8 a_Mod_9 a_Mod_10 a_Mod_11 a_Mod_12 a_Mod_13 a_Mod_14 v_Mod) 0 0 12 [(0, .ref o_Mod), (3, .int x3)] [] := by
  intro nn
  induction nn with
  | zero => intro v_Mod x3 hm; exact absurd hm (by simp [m_Mod_goOnWith_L12])
  | succ nn ih12 =>
    intro v_Mod x3 hm
    unfold m_Mod_goOnWith_L12 at hm
    refine aj_iload_n X d_Mod_goOnWith_12 1 rfl ?_
    refine aj_if_eq X 24 d_Mod_goOnWith_13 (by decide) (fun h => ?_) (fun h => ?_)
    · have hm := ite_t hm h
      have ho := Option.some.inj hm
      subst ho
      exact aj_vret X d_Mod_goOnWith_24 hr hlk [0, 1, 2, 3, 4, 5, 6, 7, 8, 9, 10, 11, 12, 13, 14, 15] (w_Mod cI cL cZ o_Mod a_Mod_0 a_Mod_1 a_Mod_2 a_Mod_3 a_Mod_4 a_Mod_5 a_Mod_6 a_Mod_7 a_Mod_8 a_Mod_9 a_Mod_10 a_Mod_11 a_Mod_12 a_Mod_13 a_Mod_14 v_Mod) rfl rfl rfl
    · have hm := ite_f hm h
      refine aj_aload_n X d_Mod_goOnWith_16 0 rfl ?_
      obtain ⟨r3, h4, hm⟩ := bnd_of hm
      refine aj_callI (wr := []) X (aj_rV (As := []) (rest := []) X N gTB (c_Mod_goes (D := D) (cI := cI) (cL := cL) (cZ := cZ) o_Mod a_Mod_0 a_Mod_1 a_Mod_2 a_Mod_3 a_Mod_4 a_Mod_5 a_Mod_6 a_Mod_7 a_Mod_8 a_Mod_9 a_Mod_10 a_Mod_11 a_Mod_12 a_Mod_13 a_Mod_14 v_Mod r3 h4) d_Mod_goOnWith_17 lk_Mod_goes lw_Mod_145 lh_Mod_goes ⟨(Nat.le_of_ble_eq_true rfl), (Nat.le_of_ble_eq_true rfl)⟩ [0, 1, 2, 3, 4, 5, 6, 7, 8, 9, 10, 11, 12, 13, 14, 15] rfl rfl 0 rfl rfl rfl rfl (Nat.le_of_ble_eq_true rfl) ⟨Nat.le_refl _, Nat.le_refl _⟩) [0, 1, 2, 3, 4, 5, 6, 7, 8, 9, 10, 11, 12, 13, 14, 15] [] rfl rfl rfl (by decide) (fun rr w1 hO => ?_)
      obtain ⟨rfl, rfl⟩ := hO
      refine aj_perm (ws' := w_Mod cI cL cZ o_Mod a_Mod_0 a_Mod_1 a_Mod_2 a_Mod_3 a_Mod_4 a_Mod_5 a_Mod_6 a_Mod_7 a_Mod_8 a_Mod_9 a_Mod_10 a_Mod_11 a_Mod_12 a_Mod_13 a_Mod_14 r3.1) [0, 1, 2, 3, 4, 5, 6, 7, 8, 9, 10, 11, 12, 13, 14, 15] rfl rfl ?_
      refine aj_istore_n (lv' := [(3, .int r3.2), (0, .ref o_Mod)]) X d_Mod_goOnWith_20 rfl (by decide) rfl ?_
      refine aj_goto X 12 d_Mod_goOnWith_21 (by decide) ?_
      refine aj_lv (lv' := [(0, .ref o_Mod), (3, .int r3.2)]) [1, 0] rfl ?_
      exact ih12 r3.1 r3.2 hm
def m_Mod_goOnWith (v_Mod : T_Mod) (x1 : Int64) : Option (T_Mod) := (m_Mod_goOnWith_L12 fu (v_Mod.1, v_Mod.2.1, v_Mod.2.2.1, v_Mod.2.2.2.1, v_Mod.2.2.2.2.1, v_Mod.2.2.2.2.2.1, v_Mod.2.2.2.2.2.2.1, v_Mod.2.2.2.2.2.2.2.1, v_Mod.2.2.2.2.2.2.2.2.1, v_Mod.2.2.2.2.2.2.2.2.2.1, v_Mod.2.2.2.2.2.2.2.2.2.2.1, v_Mod.2.2.2.2.2.2.2.2.2.2.2.1, v_Mod.2.2.2.2.2.2.2.2.2.2.2.2.1, v_Mod.2.2.2.2.2.2.2.2.2.2.2.2.2.1, (0 : Int32), v_Mod.2.2.2.2.2.2.2.2.2.2.2.2.2.2.2.1, v_Mod.2.2.2.2.2.2.2.2.2.2.2.2.2.2.2.2.1, v_Mod.2.2.2.2.2.2.2.2.2.2.2.2.2.2.2.2.2.1, v_Mod.2.2.2.2.2.2.2.2.2.2.2.2.2.2.2.2.2.2.1, v_Mod.2.2.2.2.2.2.2.2.2.2.2.2.2.2.2.2.2.2.2.1, v_Mod.2.2.2.2.2.2.2.2.2.2.2.2.2.2.2.2.2.2.2.2.1, v_Mod.2.2.2.2.2.2.2.2.2.2.2.2.2.2.2.2.2.2.2.2.2.1, v_Mod.2.2.2.2.2.2.2.2.2.2.2.2.2.2.2.2.2.2.2.2.2.2.1, v_Mod.2.2.2.2.2.2.2.2.2.2.2.2.2.2.2.2.2.2.2.2.2.2.2.1, x1, v_Mod.2.2.2.2.2.2.2.2.2.2.2.2.2.2.2.2.2.2.2.2.2.2.2.2.2.1, v_Mod.2.2.2.2.2.2.2.2.2.2.2.2.2.2.2.2.2.2.2.2.2.2.2.2.2.2) (1 : Int32))
set_option maxRecDepth 100000 in
set_option maxHeartbeats 4000000 in
theorem c_Mod_goOnWith {l : Launch} {D : va_G} {cI cL cZ : ClassId} (o_Mod a_Mod_0 a_Mod_1 a_Mod_2 a_Mod_3 a_Mod_4 a_Mod_5 a_Mod_6 a_Mod_7 a_Mod_8 a_Mod_9 a_Mod_10 a_Mod_11 a_Mod_12 a_Mod_13 a_Mod_14 : Nat) (v_Mod : T_Mod) (x1 : Int64) (out : T_Mod) (hm : m_Mod_goOnWith v_Mod x1 = some out) : ct l y_Mod_goOnWith (Cond.code y_Mod_goOnWith b_Mod_goOnWith 4 none :: TB) 3 72 D clss (ty3 cI cL cZ) NM0 NF0 [.ref o_Mod, .long x1] (w_Mod cI cL cZ o_Mod a_Mod_0 a_Mod_1 a_Mod_2 a_Mod_3 a_Mod_4 a_Mod_5 a_Mod_6 a_Mod_7 a_Mod_8 a_Mod_9 a_Mod_10 a_Mod_11 a_Mod_12 a_Mod_13 a_Mod_14 v_Mod) (qV D clss (ty3 cI cL cZ) (O_Mod_goOnWith cI cL cZ o_Mod a_Mod_0 a_Mod_1 a_Mod_2 a_Mod_3 a_Mod_4 a_Mod_5 a_Mod_6 a_Mod_7 a_Mod_8 a_Mod_9 a_Mod_10 a_Mod_11 a_Mod_12 a_Mod_13 a_Mod_14 out)) 0 0 := by
  refine ct_of (plainFor_of_name (by decide)) (Nat.le_of_ble_eq_true rfl) (fun p e s m args below meth c A X N hr hlk hnm => ?_)
  refine aj_lv (lv' := [(0, .ref o_Mod), (1, .long x1)]) [0, 1] rfl ?_
  unfold m_Mod_goOnWith at hm
  refine aj_aload_n X d_Mod_goOnWith_0 0 rfl ?_
  refine aj_lload_n X d_Mod_goOnWith_1 1 rfl ?_
  refine aj_put (ws' := w_Mod cI cL cZ o_Mod a_Mod_0 a_Mod_1 a_Mod_2 a_Mod_3 a_Mod_4 a_Mod_5 a_Mod_6 a_Mod_7 a_Mod_8 a_Mod_9 a_Mod_10 a_Mod_11 a_Mod_12 a_Mod_13 a_Mod_14 (v_Mod.1, v_Mod.2.1, v_Mod.2.2.1, v_Mod.2.2.2.1, v_Mod.2.2.2.2.1, v_Mod.2.2.2.2.2.1, v_Mod.2.2.2.2.2.2.1, v_Mod.2.2.2.2.2.2.2.1, v_Mod.2.2.2.2.2.2.2.2.1, v_Mod.2.2.2.2.2.2.2.2.2.1, v_Mod.2.2.2.2.2.2.2.2.2.2.1, v_Mod.2.2.2.2.2.2.2.2.2.2.2.1, v_Mod.2.2.2.2.2.2.2.2.2.2.2.2.1, v_Mod.2.2.2.2.2.2.2.2.2.2.2.2.2.1, v_Mod.2.2.2.2.2.2.2.2.2.2.2.2.2.2.1, v_Mod.2.2.2.2.2.2.2.2.2.2.2.2.2.2.2.1, v_Mod.2.2.2.2.2.2.2.2.2.2.2.2.2.2.2.2.1, v_Mod.2.2.2.2.2.2.2.2.2.2.2.2.2.2.2.2.2.1, v_Mod.2.2.2.2.2.2.2.2.2.2.2.2.2.2.2.2.2.2.1, v_Mod.2.2.2.2.2.2.2.2.2.2.2.2.2.2.2.2.2.2.2.1, v_Mod.2.2.2.2.2.2.2.2.2.2.2.2.2.2.2.2.2.2.2.2.1, v_Mod.2.2.2.2.2.2.2.2.2.2.2.2.2.2.2.2.2.2.2.2.2.1, v_Mod.2.2.2.2.2.2.2.2.2.2.2.2.2.2.2.2.2.2.2.2.2.2.1, v_Mod.2.2.2.2.2.2.2.2.2.2.2.2.2.2.2.2.2.2.2.2.2.2.2.1, x1, v_Mod.2.2.2.2.2.2.2.2.2.2.2.2.2.2.2.2.2.2.2.2.2.2.2.2.2.1, v_Mod.2.2.2.2.2.2.2.2.2.2.2.2.2.2.2.2.2.2.2.2.2.2.2.2.2.2)) X d_Mod_goOnWith_2 in_Mod ty_Mod tyok_Mod nmx_Mod 0 rfl rfl 24 (by decide) lf_Mod_85 rfl rfl rfl (Nat.le_of_ble_eq_true rfl) rfl ?_
  refine aj_aload_n X d_Mod_goOnWith_5 0 rfl ?_
  refine aj_iconst (v := (0 : Int32)) X d_Mod_goOnWith_6 (by decide) ?_
  refine aj_put (ws' := w_Mod cI cL cZ o_Mod a_Mod_0 a_Mod_1 a_Mod_2 a_Mod_3 a_Mod_4 a_Mod_5 a_Mod_6 a_Mod_7 a_Mod_8 a_Mod_9 a_Mod_10 a_Mod_11 a_Mod_12 a_Mod_13 a_Mod_14 (v_Mod.1, v_Mod.2.1, v_Mod.2.2.1, v_Mod.2.2.2.1, v_Mod.2.2.2.2.1, v_Mod.2.2.2.2.2.1, v_Mod.2.2.2.2.2.2.1, v_Mod.2.2.2.2.2.2.2.1, v_Mod.2.2.2.2.2.2.2.2.1, v_Mod.2.2.2.2.2.2.2.2.2.1, v_Mod.2.2.2.2.2.2.2.2.2.2.1, v_Mod.2.2.2.2.2.2.2.2.2.2.2.1, v_Mod.2.2.2.2.2.2.2.2.2.2.2.2.1, v_Mod.2.2.2.2.2.2.2.2.2.2.2.2.2.1, (0 : Int32), v_Mod.2.2.2.2.2.2.2.2.2.2.2.2.2.2.2.1, v_Mod.2.2.2.2.2.2.2.2.2.2.2.2.2.2.2.2.1, v_Mod.2.2.2.2.2.2.2.2.2.2.2.2.2.2.2.2.2.1, v_Mod.2.2.2.2.2.2.2.2.2.2.2.2.2.2.2.2.2.2.1, v_Mod.2.2.2.2.2.2.2.2.2.2.2.2.2.2.2.2.2.2.2.1, v_Mod.2.2.2.2.2.2.2.2.2.2.2.2.2.2.2.2.2.2.2.2.1, v_Mod.2.2.2.2.2.2.2.2.2.2.2.2.2.2.2.2.2.2.2.2.2.1, v_Mod.2.2.2.2.2.2.2.2.2.2.2.2.2.2.2.2.2.2.2.2.2.2.1, v_Mod.2.2.2.2.2.2.2.2.2.2.2.2.2.2.2.2.2.2.2.2.2.2.2.1, x1, v_Mod.2.2.2.2.2.2.2.2.2.2.2.2.2.2.2.2.2.2.2.2.2.2.2.2.2.1, v_Mod.2.2.2.2.2.2.2.2.2.2.2.2.2.2.2.2.2.2.2.2.2.2.2.2.2.2)) X d_Mod_goOnWith_7 in_Mod ty_Mod tyok_Mod nmx_Mod 0 rfl rfl 14 (by decide) lf_Mod_54 rfl rfl rfl (Nat.le_of_ble_eq_true rfl) rfl ?_
  refine aj_iconst (v := (1 : Int32)) X d_Mod_goOnWith_10 (by decide) ?_
  refine aj_istore_n (lv' := [(3, .int (1 : Int32)), (0, .ref o_Mod), (1, .long x1)]) X d_Mod_goOnWith_11 rfl (by decide) rfl ?_
  refine aj_lv (lv' := [(0, .ref o_Mod), (3, .int (1 : Int32))]) [1, 0] rfl ?_
  exact c_Mod_goOnWith_L12 o_Mod a_Mod_0 a_Mod_1 a_Mod_2 a_Mod_3 a_Mod_4 a_Mod_5 a_Mod_6 a_Mod_7 a_Mod_8 a_Mod_9 a_Mod_10 a_Mod_11 a_Mod_12 a_Mod_13 a_Mod_14 out X N hr hlk fu (v_Mod.1, v_Mod.2.1, v_Mod.2.2.1, v_Mod.2.2.2.1, v_Mod.2.2.2.2.1, v_Mod.2.2.2.2.2.1, v_Mod.2.2.2.2.2.2.1, v_Mod.2.2.2.2.2.2.2.1, v_Mod.2.2.2.2.2.2.2.2.1, v_Mod.2.2.2.2.2.2.2.2.2.1, v_Mod.2.2.2.2.2.2.2.2.2.2.1, v_Mod.2.2.2.2.2.2.2.2.2.2.2.1, v_Mod.2.2.2.2.2.2.2.2.2.2.2.2.1, v_Mod.2.2.2.2.2.2.2.2.2.2.2.2.2.1, (0 : Int32), v_Mod.2.2.2.2.2.2.2.2.2.2.2.2.2.2.2.1, v_Mod.2.2.2.2.2.2.2.2.2.2.2.2.2.2.2.2.1, v_Mod.2.2.2.2.2.2.2.2.2.2.2.2.2.2.2.2.2.1, v_Mod.2.2.2.2.2.2.2.2.2.2.2.2.2.2.2.2.2.2.1, v_Mod.2.2.2.2.2.2.2.2.2.2.2.2.2.2.2.2.2.2.2.1, v_Mod.2.2.2.2.2.2.2.2.2.2.2.2.2.2.2.2.2.2.2.2.1, v_Mod.2.2.2.2.2.2.2.2.2.2.2.2.2.2.2.2.2.2.2.2.2.1, v_Mod.2.2.2.2.2.2.2.2.2.2.2.2.2.2.2.2.2.2.2.2.2.2.1, v_Mod.2.2.2.2.2.2.2.2.2.2.2.2.2.2.2.2.2.2.2.2.2.2.2.1, x1, v_Mod.2.2.2.2.2.2.2.2.2.2.2.2.2.2.2.2.2.2.2.2.2.2.2.2.2.1, v_Mod.2.2.2.2.2.2.2.2.2.2.2.2.2.2.2.2.2.2.2.2.2.2.2.2.2.2) (1 : Int32) hm
abbrev X_Mod_noThing (p : Program) (s : State) (m : MethodId) (args : Array Value) (c : Code) (D : va_G) (cI cL cZ : ClassId) (A : Nat → Prop) : Prop := aj_C p s m args c D clss (ty3 cI cL cZ) A b_Mod_noThing 2 R_Mod TB
abbrev J_Mod_noThing (p : Program) (l : Launch) (e : Env) (s : State) (m : MethodId) (args : Array Value) (below : List Frame) (meth : Method) (c : Code) (D : va_G) (cI cL cZ : ClassId) (A : Nat → Prop) (O : Int32 → va_W → Prop) (mc ms : Nat) (ws : va_W) (kc ks pc : Nat) (lv : List (Nat × Value)) (st : List Value) : Prop := aj p l e { frames := 0, cells := mc, slots := ms, locals := 0 } s m args below meth c (MQ below (qI D clss (ty3 cI cL cZ) O A) args s mc ms A) D clss A 2 ws kc ks pc lv st
def O_Mod_noThing (cI cL cZ : ClassId) (o_Mod a_Mod_0 a_Mod_1 a_Mod_2 a_Mod_3 a_Mod_4 a_Mod_5 a_Mod_6 a_Mod_7 a_Mod_8 a_Mod_9 a_Mod_10 a_Mod_11 a_Mod_12 a_Mod_13 a_Mod_14 : Nat) (v_Mod : T_Mod) (out : Int32) : Int32 → va_W → Prop := fun r w1 => out = r ∧ w1 = w_Mod cI cL cZ o_Mod a_Mod_0 a_Mod_1 a_Mod_2 a_Mod_3 a_Mod_4 a_Mod_5 a_Mod_6 a_Mod_7 a_Mod_8 a_Mod_9 a_Mod_10 a_Mod_11 a_Mod_12 a_Mod_13 a_Mod_14 v_Mod
def m_Mod_noThing_B12 (v_Mod : T_Mod) : Option (Int32) := (some (1 : Int32))
set_option maxRecDepth 100000 in
set_option maxHeartbeats 4000000 in
theorem c_Mod_noThing_B12 {l : Launch} {D : va_G} {cI cL cZ : ClassId} {p : Program} {e : Env} {s : State} {m : MethodId} {args : Array Value} {below : List Frame} {meth : Method} {c : Code} {A : Nat → Prop} (o_Mod a_Mod_0 a_Mod_1 a_Mod_2 a_Mod_3 a_Mod_4 a_Mod_5 a_Mod_6 a_Mod_7 a_Mod_8 a_Mod_9 a_Mod_10 a_Mod_11 a_Mod_12 a_Mod_13 a_Mod_14 : Nat) (v_Mod : T_Mod) (out : Int32) (X : X_Mod_noThing p s m args c D cI cL cZ A) (N : nk NM0 NF0 s) (hr : meth.sig.returnType = some .boolean) (hlk : meth.locks = false) : m_Mod_noThing_B12 v_Mod = some out → J_Mod_noThing p l e s m args below meth c D cI cL cZ A (O_Mod_noThing cI cL cZ o_Mod a_Mod_0 a_Mod_1 a_Mod_2 a_Mod_3 a_Mod_4 a_Mod_5 a_Mod_6 a_Mod_7 a_Mod_8 a_Mod_9 a_Mod_10 a_Mod_11 a_Mod_12 a_Mod_13 a_Mod_14 v_Mod out) 0 0 (w_Mod cI cL cZ o_Mod a_Mod_0 a_Mod_1 a_Mod_2 a_Mod_3 a_Mod_4 a_Mod_5 a_Mod_6 a_Mod_7 a_Mod_8 a_Mod_9 a_Mod_10 a_Mod_11 a_Mod_12 a_Mod_13 a_Mod_14 v_Mod) 0 0 12 [] [] := by
  intro hm
  unfold m_Mod_noThing_B12 at hm
  refine aj_iconst (v := (1 : Int32)) X d_Mod_noThing_12 (by decide) ?_
  refine aj_goto X 17 d_Mod_noThing_13 (by decide) ?_
  have ho := Option.some.inj hm
  subst ho
  exact aj_zret X d_Mod_noThing_17 hr hlk (by decide) [0, 1, 2, 3, 4, 5, 6, 7, 8, 9, 10, 11, 12, 13, 14, 15] (w_Mod cI cL cZ o_Mod a_Mod_0 a_Mod_1 a_Mod_2 a_Mod_3 a_Mod_4 a_Mod_5 a_Mod_6 a_Mod_7 a_Mod_8 a_Mod_9 a_Mod_10 a_Mod_11 a_Mod_12 a_Mod_13 a_Mod_14 v_Mod) rfl rfl ⟨rfl, rfl⟩
def m_Mod_noThing (v_Mod : T_Mod) (x1 : Int32) : Option (Int32) := (if x1 < 0 then (m_Mod_noThing_B12 v_Mod) else (if x1 < v_Mod.2.1 then (some (0 : Int32)) else (m_Mod_noThing_B12 v_Mod)))
set_option maxRecDepth 100000 in
set_option maxHeartbeats 4000000 in
theorem c_Mod_noThing {l : Launch} {D : va_G} {cI cL cZ : ClassId} (o_Mod a_Mod_0 a_Mod_1 a_Mod_2 a_Mod_3 a_Mod_4 a_Mod_5 a_Mod_6 a_Mod_7 a_Mod_8 a_Mod_9 a_Mod_10 a_Mod_11 a_Mod_12 a_Mod_13 a_Mod_14 : Nat) (v_Mod : T_Mod) (x1 : Int32) (out : Int32) (hm : m_Mod_noThing v_Mod x1 = some out) : ct l y_Mod_noThing (Cond.code y_Mod_noThing b_Mod_noThing 2 (some .boolean) :: TB) 0 0 D clss (ty3 cI cL cZ) NM0 NF0 [.ref o_Mod, .int x1] (w_Mod cI cL cZ o_Mod a_Mod_0 a_Mod_1 a_Mod_2 a_Mod_3 a_Mod_4 a_Mod_5 a_Mod_6 a_Mod_7 a_Mod_8 a_Mod_9 a_Mod_10 a_Mod_11 a_Mod_12 a_Mod_13 a_Mod_14 v_Mod) (qI D clss (ty3 cI cL cZ) (O_Mod_noThing cI cL cZ o_Mod a_Mod_0 a_Mod_1 a_Mod_2 a_Mod_3 a_Mod_4 a_Mod_5 a_Mod_6 a_Mod_7 a_Mod_8 a_Mod_9 a_Mod_10 a_Mod_11 a_Mod_12 a_Mod_13 a_Mod_14 v_Mod out)) 0 0 := by
  refine ct_of (plainFor_of_name (by decide)) (Nat.le_of_ble_eq_true rfl) (fun p e s m args below meth c A X N hr hlk hnm => ?_)
  refine aj_lv (lv' := [(0, .ref o_Mod), (1, .int x1)]) [0, 1] rfl ?_
  unfold m_Mod_noThing at hm
  refine aj_iload_n X d_Mod_noThing_0 1 rfl ?_
  refine aj_if_lt X 12 d_Mod_noThing_1 (by decide) (fun h => ?_) (fun h => ?_)
  · have hm := ite_t hm h
    refine aj_lv (lv' := []) [] rfl ?_
    exact c_Mod_noThing_B12 o_Mod a_Mod_0 a_Mod_1 a_Mod_2 a_Mod_3 a_Mod_4 a_Mod_5 a_Mod_6 a_Mod_7 a_Mod_8 a_Mod_9 a_Mod_10 a_Mod_11 a_Mod_12 a_Mod_13 a_Mod_14 v_Mod out X N hr hlk hm
  · have hm := ite_f hm h
    refine aj_iload_n X d_Mod_noThing_4 1 rfl ?_
    refine aj_aload_n X d_Mod_noThing_5 0 rfl ?_
    refine aj_get X d_Mod_noThing_6 in_Mod 0 rfl rfl 1 (by decide) lf_Mod_13 rfl ?_
    refine aj_icmp_lt X 16 d_Mod_noThing_9 (by decide) (fun h => ?_) (fun h => ?_)
    · have hm := ite_t hm h
      refine aj_iconst (v := (0 : Int32)) X d_Mod_noThing_16 (by decide) ?_
      have ho := Option.some.inj hm
      subst ho
      exact aj_zret X d_Mod_noThing_17 hr hlk (by decide) [0, 1, 2, 3, 4, 5, 6, 7, 8, 9, 10, 11, 12, 13, 14, 15] (w_Mod cI cL cZ o_Mod a_Mod_0 a_Mod_1 a_Mod_2 a_Mod_3 a_Mod_4 a_Mod_5 a_Mod_6 a_Mod_7 a_Mod_8 a_Mod_9 a_Mod_10 a_Mod_11 a_Mod_12 a_Mod_13 a_Mod_14 v_Mod) rfl rfl ⟨rfl, rfl⟩
    · have hm := ite_f hm h
      refine aj_lv (lv' := []) [] rfl ?_
      exact c_Mod_noThing_B12 o_Mod a_Mod_0 a_Mod_1 a_Mod_2 a_Mod_3 a_Mod_4 a_Mod_5 a_Mod_6 a_Mod_7 a_Mod_8 a_Mod_9 a_Mod_10 a_Mod_11 a_Mod_12 a_Mod_13 a_Mod_14 v_Mod out X N hr hlk hm
abbrev X_Mod_clause (p : Program) (s : State) (m : MethodId) (args : Array Value) (c : Code) (D : va_G) (cI cL cZ : ClassId) (A : Nat → Prop) : Prop := aj_C p s m args c D clss (ty3 cI cL cZ) A b_Mod_clause 1 R_Mod TB
abbrev J_Mod_clause (p : Program) (l : Launch) (e : Env) (s : State) (m : MethodId) (args : Array Value) (below : List Frame) (meth : Method) (c : Code) (D : va_G) (cI cL cZ : ClassId) (A : Nat → Prop) (O : Int32 → va_W → Prop) (mc ms : Nat) (ws : va_W) (kc ks pc : Nat) (lv : List (Nat × Value)) (st : List Value) : Prop := aj p l e { frames := 1, cells := mc, slots := ms, locals := 22 } s m args below meth c (MQ below (qI D clss (ty3 cI cL cZ) O A) args s mc ms A) D clss A 1 ws kc ks pc lv st
def O_Mod_clause (cI cL cZ : ClassId) (o_Mod a_Mod_0 a_Mod_1 a_Mod_2 a_Mod_3 a_Mod_4 a_Mod_5 a_Mod_6 a_Mod_7 a_Mod_8 a_Mod_9 a_Mod_10 a_Mod_11 a_Mod_12 a_Mod_13 a_Mod_14 : Nat) (out : T_Mod × Int32) : Int32 → va_W → Prop := fun r w1 => out.2 = r ∧ w1 = w_Mod cI cL cZ o_Mod a_Mod_0 a_Mod_1 a_Mod_2 a_Mod_3 a_Mod_4 a_Mod_5 a_Mod_6 a_Mod_7 a_Mod_8 a_Mod_9 a_Mod_10 a_Mod_11 a_Mod_12 a_Mod_13 a_Mod_14 out.1
def m_Mod_clause (v_Mod : T_Mod) : Option (T_Mod × Int32) := ((m_Mod_room ((0 : Int32), v_Mod.2.1, v_Mod.2.2.1, v_Mod.2.2.2.1, v_Mod.2.2.2.2.1, v_Mod.2.2.2.2.2.1, v_Mod.2.2.2.2.2.2.1, v_Mod.2.2.2.2.2.2.2.1, v_Mod.2.2.2.2.2.2.2.2.1, v_Mod.2.2.2.2.2.2.2.2.2.1, v_Mod.2.2.2.2.2.2.2.2.2.2.1, v_Mod.2.2.2.2.2.2.2.2.2.2.2.1, v_Mod.2.2.2.2.2.2.2.2.2.2.2.2.1, v_Mod.2.2.2.2.2.2.2.2.2.2.2.2.2.1, v_Mod.2.2.2.2.2.2.2.2.2.2.2.2.2.2.1, v_Mod.2.2.2.2.2.2.2.2.2.2.2.2.2.2.2.1, v_Mod.2.2.2.2.2.2.2.2.2.2.2.2.2.2.2.2.1, v_Mod.2.2.2.2.2.2.2.2.2.2.2.2.2.2.2.2.2.1, v_Mod.2.2.2.2.2.2.2.2.2.2.2.2.2.2.2.2.2.2.1, v_Mod.2.2.2.2.2.2.2.2.2.2.2.2.2.2.2.2.2.2.2.1, v_Mod.2.2.2.2.2.2.2.2.2.2.2.2.2.2.2.2.2.2.2.2.1, v_Mod.2.2.2.2.2.2.2.2.2.2.2.2.2.2.2.2.2.2.2.2.2.1, v_Mod.2.2.2.2.2.2.2.2.2.2.2.2.2.2.2.2.2.2.2.2.2.2.1, v_Mod.2.2.2.2.2.2.2.2.2.2.2.2.2.2.2.2.2.2.2.2.2.2.2.1, v_Mod.2.2.2.2.2.2.2.2.2.2.2.2.2.2.2.2.2.2.2.2.2.2.2.2.1, v_Mod.2.2.2.2.2.2.2.2.2.2.2.2.2.2.2.2.2.2.2.2.2.2.2.2.2.1, v_Mod.2.2.2.2.2.2.2.2.2.2.2.2.2.2.2.2.2.2.2.2.2.2.2.2.2.2) (1 : Int32) (0 : Int32)).bind fun r5 => (if r5 = 0 then (some (((0 : Int32), v_Mod.2.1, v_Mod.2.2.1, v_Mod.2.2.2.1, v_Mod.2.2.2.2.1, v_Mod.2.2.2.2.2.1, v_Mod.2.2.2.2.2.2.1, v_Mod.2.2.2.2.2.2.2.1, v_Mod.2.2.2.2.2.2.2.2.1, v_Mod.2.2.2.2.2.2.2.2.2.1, v_Mod.2.2.2.2.2.2.2.2.2.2.1, v_Mod.2.2.2.2.2.2.2.2.2.2.2.1, v_Mod.2.2.2.2.2.2.2.2.2.2.2.2.1, v_Mod.2.2.2.2.2.2.2.2.2.2.2.2.2.1, v_Mod.2.2.2.2.2.2.2.2.2.2.2.2.2.2.1, v_Mod.2.2.2.2.2.2.2.2.2.2.2.2.2.2.2.1, v_Mod.2.2.2.2.2.2.2.2.2.2.2.2.2.2.2.2.1, v_Mod.2.2.2.2.2.2.2.2.2.2.2.2.2.2.2.2.2.1, v_Mod.2.2.2.2.2.2.2.2.2.2.2.2.2.2.2.2.2.2.1, v_Mod.2.2.2.2.2.2.2.2.2.2.2.2.2.2.2.2.2.2.2.1, v_Mod.2.2.2.2.2.2.2.2.2.2.2.2.2.2.2.2.2.2.2.2.1, v_Mod.2.2.2.2.2.2.2.2.2.2.2.2.2.2.2.2.2.2.2.2.2.1, v_Mod.2.2.2.2.2.2.2.2.2.2.2.2.2.2.2.2.2.2.2.2.2.2.1, v_Mod.2.2.2.2.2.2.2.2.2.2.2.2.2.2.2.2.2.2.2.2.2.2.2.1, v_Mod.2.2.2.2.2.2.2.2.2.2.2.2.2.2.2.2.2.2.2.2.2.2.2.2.1, v_Mod.2.2.2.2.2.2.2.2.2.2.2.2.2.2.2.2.2.2.2.2.2.2.2.2.2.1, v_Mod.2.2.2.2.2.2.2.2.2.2.2.2.2.2.2.2.2.2.2.2.2.2.2.2.2.2), (-1 : Int32))) else ((m_Mod_begin ((0 : Int32), v_Mod.2.1, v_Mod.2.2.1, v_Mod.2.2.2.1, v_Mod.2.2.2.2.1, v_Mod.2.2.2.2.2.1, v_Mod.2.2.2.2.2.2.1, v_Mod.2.2.2.2.2.2.2.1, v_Mod.2.2.2.2.2.2.2.2.1, v_Mod.2.2.2.2.2.2.2.2.2.1, v_Mod.2.2.2.2.2.2.2.2.2.2.1, v_Mod.2.2.2.2.2.2.2.2.2.2.2.1, v_Mod.2.2.2.2.2.2.2.2.2.2.2.2.1, v_Mod.2.2.2.2.2.2.2.2.2.2.2.2.2.1, v_Mod.2.2.2.2.2.2.2.2.2.2.2.2.2.2.1, v_Mod.2.2.2.2.2.2.2.2.2.2.2.2.2.2.2.1, v_Mod.2.2.2.2.2.2.2.2.2.2.2.2.2.2.2.2.1, v_Mod.2.2.2.2.2.2.2.2.2.2.2.2.2.2.2.2.2.1, v_Mod.2.2.2.2.2.2.2.2.2.2.2.2.2.2.2.2.2.2.1, v_Mod.2.2.2.2.2.2.2.2.2.2.2.2.2.2.2.2.2.2.2.1, v_Mod.2.2.2.2.2.2.2.2.2.2.2.2.2.2.2.2.2.2.2.2.1, v_Mod.2.2.2.2.2.2.2.2.2.2.2.2.2.2.2.2.2.2.2.2.2.1, v_Mod.2.2.2.2.2.2.2.2.2.2.2.2.2.2.2.2.2.2.2.2.2.2.1, v_Mod.2.2.2.2.2.2.2.2.2.2.2.2.2.2.2.2.2.2.2.2.2.2.2.1, v_Mod.2.2.2.2.2.2.2.2.2.2.2.2.2.2.2.2.2.2.2.2.2.2.2.2.1, v_Mod.2.2.2.2.2.2.2.2.2.2.2.2.2.2.2.2.2.2.2.2.2.2.2.2.2.1, v_Mod.2.2.2.2.2.2.2.2.2.2.2.2.2.2.2.2.2.2.2.2.2.2.2.2.2.2) (1 : Int32)).bind fun r7 => (some ((r7.1, r7.2.1, r7.2.2.1, r7.2.2.2.1, r7.2.2.2.2.1, r7.2.2.2.2.2.1, r7.2.2.2.2.2.2.1, r7.2.2.2.2.2.2.2.1, r7.2.2.2.2.2.2.2.2.1, r7.2.2.2.2.2.2.2.2.2.1, r7.2.2.2.2.2.2.2.2.2.2.1, r7.2.2.2.2.2.2.2.2.2.2.2.1, r7.2.2.2.2.2.2.2.2.2.2.2.2.1, r7.2.2.2.2.2.2.2.2.2.2.2.2.2.1, r7.2.2.2.2.2.2.2.2.2.2.2.2.2.2.1, r7.2.2.2.2.2.2.2.2.2.2.2.2.2.2.2.1, r7.2.2.2.2.2.2.2.2.2.2.2.2.2.2.2.2.1, r7.2.2.2.2.2.2.2.2.2.2.2.2.2.2.2.2.2.1, r7.2.2.2.2.2.2.2.2.2.2.2.2.2.2.2.2.2.2.1, r7.2.2.2.2.2.2.2.2.2.2.2.2.2.2.2.2.2.2.2.1, r7.2.2.2.2.2.2.2.2.2.2.2.2.2.2.2.2.2.2.2.2.1, r7.2.2.2.2.2.2.2.2.2.2.2.2.2.2.2.2.2.2.2.2.2.1, r7.2.2.2.2.2.2.2.2.2.2.2.2.2.2.2.2.2.2.2.2.2.2.1, (1 : Int32), r7.2.2.2.2.2.2.2.2.2.2.2.2.2.2.2.2.2.2.2.2.2.2.2.2.1, r7.2.2.2.2.2.2.2.2.2.2.2.2.2.2.2.2.2.2.2.2.2.2.2.2.2.1, r7.2.2.2.2.2.2.2.2.2.2.2.2.2.2.2.2.2.2.2.2.2.2.2.2.2.2), (r7.2.2.2.2.2.1 - (1 : Int32)))))))
set_option maxRecDepth 100000 in
set_option maxHeartbeats 4000000 in
theorem c_Mod_clause {l : Launch} {D : va_G} {cI cL cZ : ClassId} (o_Mod a_Mod_0 a_Mod_1 a_Mod_2 a_Mod_3 a_Mod_4 a_Mod_5 a_Mod_6 a_Mod_7 a_Mod_8 a_Mod_9 a_Mod_10 a_Mod_11 a_Mod_12 a_Mod_13 a_Mod_14 : Nat) (v_Mod : T_Mod) (out : T_Mod × Int32) (hm : m_Mod_clause v_Mod = some out) : ct l y_Mod_clause (Cond.code y_Mod_clause b_Mod_clause 1 (some .int) :: TB) 1 22 D clss (ty3 cI cL cZ) NM0 NF0 [.ref o_Mod] (w_Mod cI cL cZ o_Mod a_Mod_0 a_Mod_1 a_Mod_2 a_Mod_3 a_Mod_4 a_Mod_5 a_Mod_6 a_Mod_7 a_Mod_8 a_Mod_9 a_Mod_10 a_Mod_11 a_Mod_12 a_Mod_13 a_Mod_14 v_Mod) (qI D clss (ty3 cI cL cZ) (O_Mod_clause cI cL cZ o_Mod a_Mod_0 a_Mod_1 a_Mod_2 a_Mod_3 a_Mod_4 a_Mod_5 a_Mod_6 a_Mod_7 a_Mod_8 a_Mod_9 a_Mod_10 a_Mod_11 a_Mod_12 a_Mod_13 a_Mod_14 out)) 0 0 := by
  refine ct_of (plainFor_of_name (by decide)) (Nat.le_of_ble_eq_true rfl) (fun p e s m args below meth c A X N hr hlk hnm => ?_)
  refine aj_lv (lv' := [(0, .ref o_Mod)]) [0] rfl ?_
  unfold m_Mod_clause at hm
  refine aj_aload_n X d_Mod_clause_0 0 rfl ?_
  refine aj_iconst (v := (0 : Int32)) X d_Mod_clause_1 (by decide) ?_
  refine aj_put (ws' := w_Mod cI cL cZ o_Mod a_Mod_0 a_Mod_1 a_Mod_2 a_Mod_3 a_Mod_4 a_Mod_5 a_Mod_6 a_Mod_7 a_Mod_8 a_Mod_9 a_Mod_10 a_Mod_11 a_Mod_12 a_Mod_13 a_Mod_14 ((0 : Int32), v_Mod.2.1, v_Mod.2.2.1, v_Mod.2.2.2.1, v_Mod.2.2.2.2.1, v_Mod.2.2.2.2.2.1, v_Mod.2.2.2.2.2.2.1, v_Mod.2.2.2.2.2.2.2.1, v_Mod.2.2.2.2.2.2.2.2.1, v_Mod.2.2.2.2.2.2.2.2.2.1, v_Mod.2.2.2.2.2.2.2.2.2.2.1, v_Mod.2.2.2.2.2.2.2.2.2.2.2.1, v_Mod.2.2.2.2.2.2.2.2.2.2.2.2.1, v_Mod.2.2.2.2.2.2.2.2.2.2.2.2.2.1, v_Mod.2.2.2.2.2.2.2.2.2.2.2.2.2.2.1, v_Mod.2.2.2.2.2.2.2.2.2.2.2.2.2.2.2.1, v_Mod.2.2.2.2.2.2.2.2.2.2.2.2.2.2.2.2.1, v_Mod.2.2.2.2.2.2.2.2.2.2.2.2.2.2.2.2.2.1, v_Mod.2.2.2.2.2.2.2.2.2.2.2.2.2.2.2.2.2.2.1, v_Mod.2.2.2.2.2.2.2.2.2.2.2.2.2.2.2.2.2.2.2.1, v_Mod.2.2.2.2.2.2.2.2.2.2.2.2.2.2.2.2.2.2.2.2.1, v_Mod.2.2.2.2.2.2.2.2.2.2.2.2.2.2.2.2.2.2.2.2.2.1, v_Mod.2.2.2.2.2.2.2.2.2.2.2.2.2.2.2.2.2.2.2.2.2.2.1, v_Mod.2.2.2.2.2.2.2.2.2.2.2.2.2.2.2.2.2.2.2.2.2.2.2.1, v_Mod.2.2.2.2.2.2.2.2.2.2.2.2.2.2.2.2.2.2.2.2.2.2.2.2.1, v_Mod.2.2.2.2.2.2.2.2.2.2.2.2.2.2.2.2.2.2.2.2.2.2.2.2.2.1, v_Mod.2.2.2.2.2.2.2.2.2.2.2.2.2.2.2.2.2.2.2.2.2.2.2.2.2.2)) X d_Mod_clause_2 in_Mod ty_Mod tyok_Mod nmx_Mod 0 rfl rfl 0 (by decide) lf_Mod_7 rfl rfl rfl (Nat.le_of_ble_eq_true rfl) rfl ?_
  refine aj_aload_n X d_Mod_clause_5 0 rfl ?_
  refine aj_iconst (v := (1 : Int32)) X d_Mod_clause_6 (by decide) ?_
  refine aj_iconst (v := (0 : Int32)) X d_Mod_clause_7 (by decide) ?_
  obtain ⟨r5, h6, hm⟩ := bnd_of hm
  refine aj_callI (wr := []) X (aj_rV (As := [.int (1 : Int32), .int (0 : Int32)]) (rest := []) X N gTB (c_Mod_room (D := D) (cI := cI) (cL := cL) (cZ := cZ) o_Mod a_Mod_0 a_Mod_1 a_Mod_2 a_Mod_3 a_Mod_4 a_Mod_5 a_Mod_6 a_Mod_7 a_Mod_8 a_Mod_9 a_Mod_10 a_Mod_11 a_Mod_12 a_Mod_13 a_Mod_14 ((0 : Int32), v_Mod.2.1, v_Mod.2.2.1, v_Mod.2.2.2.1, v_Mod.2.2.2.2.1, v_Mod.2.2.2.2.2.1, v_Mod.2.2.2.2.2.2.1, v_Mod.2.2.2.2.2.2.2.1, v_Mod.2.2.2.2.2.2.2.2.1, v_Mod.2.2.2.2.2.2.2.2.2.1, v_Mod.2.2.2.2.2.2.2.2.2.2.1, v_Mod.2.2.2.2.2.2.2.2.2.2.2.1, v_Mod.2.2.2.2.2.2.2.2.2.2.2.2.1, v_Mod.2.2.2.2.2.2.2.2.2.2.2.2.2.1, v_Mod.2.2.2.2.2.2.2.2.2.2.2.2.2.2.1, v_Mod.2.2.2.2.2.2.2.2.2.2.2.2.2.2.2.1, v_Mod.2.2.2.2.2.2.2.2.2.2.2.2.2.2.2.2.1, v_Mod.2.2.2.2.2.2.2.2.2.2.2.2.2.2.2.2.2.1, v_Mod.2.2.2.2.2.2.2.2.2.2.2.2.2.2.2.2.2.2.1, v_Mod.2.2.2.2.2.2.2.2.2.2.2.2.2.2.2.2.2.2.2.1, v_Mod.2.2.2.2.2.2.2.2.2.2.2.2.2.2.2.2.2.2.2.2.1, v_Mod.2.2.2.2.2.2.2.2.2.2.2.2.2.2.2.2.2.2.2.2.2.1, v_Mod.2.2.2.2.2.2.2.2.2.2.2.2.2.2.2.2.2.2.2.2.2.2.1, v_Mod.2.2.2.2.2.2.2.2.2.2.2.2.2.2.2.2.2.2.2.2.2.2.2.1, v_Mod.2.2.2.2.2.2.2.2.2.2.2.2.2.2.2.2.2.2.2.2.2.2.2.2.1, v_Mod.2.2.2.2.2.2.2.2.2.2.2.2.2.2.2.2.2.2.2.2.2.2.2.2.2.1, v_Mod.2.2.2.2.2.2.2.2.2.2.2.2.2.2.2.2.2.2.2.2.2.2.2.2.2.2) (1 : Int32) (0 : Int32) r5 h6) d_Mod_clause_8 lk_Mod_room lw_Mod_110 lh_Mod_room ⟨(Nat.le_of_ble_eq_true rfl), (Nat.le_of_ble_eq_true rfl)⟩ [0, 1, 2, 3, 4, 5, 6, 7, 8, 9, 10, 11, 12, 13, 14, 15] rfl rfl 0 rfl rfl rfl rfl (Nat.le_of_ble_eq_true rfl) ⟨Nat.le_refl _, Nat.le_refl _⟩) [0, 1, 2, 3, 4, 5, 6, 7, 8, 9, 10, 11, 12, 13, 14, 15] [] rfl rfl rfl (by decide) (fun rr w1 hO => ?_)
  obtain ⟨rfl, rfl⟩ := hO
  refine aj_perm (ws' := w_Mod cI cL cZ o_Mod a_Mod_0 a_Mod_1 a_Mod_2 a_Mod_3 a_Mod_4 a_Mod_5 a_Mod_6 a_Mod_7 a_Mod_8 a_Mod_9 a_Mod_10 a_Mod_11 a_Mod_12 a_Mod_13 a_Mod_14 ((0 : Int32), v_Mod.2.1, v_Mod.2.2.1, v_Mod.2.2.2.1, v_Mod.2.2.2.2.1, v_Mod.2.2.2.2.2.1, v_Mod.2.2.2.2.2.2.1, v_Mod.2.2.2.2.2.2.2.1, v_Mod.2.2.2.2.2.2.2.2.1, v_Mod.2.2.2.2.2.2.2.2.2.1, v_Mod.2.2.2.2.2.2.2.2.2.2.1, v_Mod.2.2.2.2.2.2.2.2.2.2.2.1, v_Mod.2.2.2.2.2.2.2.2.2.2.2.2.1, v_Mod.2.2.2.2.2.2.2.2.2.2.2.2.2.1, v_Mod.2.2.2.2.2.2.2.2.2.2.2.2.2.2.1, v_Mod.2.2.2.2.2.2.2.2.2.2.2.2.2.2.2.1, v_Mod.2.2.2.2.2.2.2.2.2.2.2.2.2.2.2.2.1, v_Mod.2.2.2.2.2.2.2.2.2.2.2.2.2.2.2.2.2.1, v_Mod.2.2.2.2.2.2.2.2.2.2.2.2.2.2.2.2.2.2.1, v_Mod.2.2.2.2.2.2.2.2.2.2.2.2.2.2.2.2.2.2.2.1, v_Mod.2.2.2.2.2.2.2.2.2.2.2.2.2.2.2.2.2.2.2.2.1, v_Mod.2.2.2.2.2.2.2.2.2.2.2.2.2.2.2.2.2.2.2.2.2.1, v_Mod.2.2.2.2.2.2.2.2.2.2.2.2.2.2.2.2.2.2.2.2.2.2.1, v_Mod.2.2.2.2.2.2.2.2.2.2.2.2.2.2.2.2.2.2.2.2.2.2.2.1, v_Mod.2.2.2.2.2.2.2.2.2.2.2.2.2.2.2.2.2.2.2.2.2.2.2.2.1, v_Mod.2.2.2.2.2.2.2.2.2.2.2.2.2.2.2.2.2.2.2.2.2.2.2.2.2.1, v_Mod.2.2.2.2.2.2.2.2.2.2.2.2.2.2.2.2.2.2.2.2.2.2.2.2.2.2)) [0, 1, 2, 3, 4, 5, 6, 7, 8, 9, 10, 11, 12, 13, 14, 15] rfl rfl ?_
  refine aj_if_ne X 16 d_Mod_clause_11 (by decide) (fun h => ?_) (fun h => ?_)
  · have hm := ite_f hm h
    refine aj_aload_n X d_Mod_clause_16 0 rfl ?_
    refine aj_iconst (v := (1 : Int32)) X d_Mod_clause_17 (by decide) ?_
    obtain ⟨r7, h8, hm⟩ := bnd_of hm
    refine aj_callV (wr := []) X (aj_rV (As := [.int (1 : Int32)]) (rest := []) X N gTB (c_Mod_begin (D := D) (cI := cI) (cL := cL) (cZ := cZ) o_Mod a_Mod_0 a_Mod_1 a_Mod_2 a_Mod_3 a_Mod_4 a_Mod_5 a_Mod_6 a_Mod_7 a_Mod_8 a_Mod_9 a_Mod_10 a_Mod_11 a_Mod_12 a_Mod_13 a_Mod_14 ((0 : Int32), v_Mod.2.1, v_Mod.2.2.1, v_Mod.2.2.2.1, v_Mod.2.2.2.2.1, v_Mod.2.2.2.2.2.1, v_Mod.2.2.2.2.2.2.1, v_Mod.2.2.2.2.2.2.2.1, v_Mod.2.2.2.2.2.2.2.2.1, v_Mod.2.2.2.2.2.2.2.2.2.1, v_Mod.2.2.2.2.2.2.2.2.2.2.1, v_Mod.2.2.2.2.2.2.2.2.2.2.2.1, v_Mod.2.2.2.2.2.2.2.2.2.2.2.2.1, v_Mod.2.2.2.2.2.2.2.2.2.2.2.2.2.1, v_Mod.2.2.2.2.2.2.2.2.2.2.2.2.2.2.1, v_Mod.2.2.2.2.2.2.2.2.2.2.2.2.2.2.2.1, v_Mod.2.2.2.2.2.2.2.2.2.2.2.2.2.2.2.2.1, v_Mod.2.2.2.2.2.2.2.2.2.2.2.2.2.2.2.2.2.1, v_Mod.2.2.2.2.2.2.2.2.2.2.2.2.2.2.2.2.2.2.1, v_Mod.2.2.2.2.2.2.2.2.2.2.2.2.2.2.2.2.2.2.2.1, v_Mod.2.2.2.2.2.2.2.2.2.2.2.2.2.2.2.2.2.2.2.2.1, v_Mod.2.2.2.2.2.2.2.2.2.2.2.2.2.2.2.2.2.2.2.2.2.1, v_Mod.2.2.2.2.2.2.2.2.2.2.2.2.2.2.2.2.2.2.2.2.2.2.1, v_Mod.2.2.2.2.2.2.2.2.2.2.2.2.2.2.2.2.2.2.2.2.2.2.2.1, v_Mod.2.2.2.2.2.2.2.2.2.2.2.2.2.2.2.2.2.2.2.2.2.2.2.2.1, v_Mod.2.2.2.2.2.2.2.2.2.2.2.2.2.2.2.2.2.2.2.2.2.2.2.2.2.1, v_Mod.2.2.2.2.2.2.2.2.2.2.2.2.2.2.2.2.2.2.2.2.2.2.2.2.2.2) (1 : Int32) r7 h8) d_Mod_clause_18 lk_Mod_begin lw_Mod_118 lh_Mod_begin ⟨(Nat.le_of_ble_eq_true rfl), (Nat.le_of_ble_eq_true rfl)⟩ [0, 1, 2, 3, 4, 5, 6, 7, 8, 9, 10, 11, 12, 13, 14, 15] rfl rfl 0 rfl rfl rfl rfl (Nat.le_of_ble_eq_true rfl) ⟨Nat.le_refl _, Nat.le_refl _⟩) [0, 1, 2, 3, 4, 5, 6, 7, 8, 9, 10, 11, 12, 13, 14, 15] [] rfl rfl rfl (by decide) (fun w1 hO => ?_)
    obtain rfl := hO
    refine aj_perm (ws' := w_Mod cI cL cZ o_Mod a_Mod_0 a_Mod_1 a_Mod_2 a_Mod_3 a_Mod_4 a_Mod_5 a_Mod_6 a_Mod_7 a_Mod_8 a_Mod_9 a_Mod_10 a_Mod_11 a_Mod_12 a_Mod_13 a_Mod_14 r7) [0, 1, 2, 3, 4, 5, 6, 7, 8, 9, 10, 11, 12, 13, 14, 15] rfl rfl ?_
    refine aj_aload_n X d_Mod_clause_21 0 rfl ?_
    refine aj_iconst (v := (1 : Int32)) X d_Mod_clause_22 (by decide) ?_
    refine aj_put (ws' := w_Mod cI cL cZ o_Mod a_Mod_0 a_Mod_1 a_Mod_2 a_Mod_3 a_Mod_4 a_Mod_5 a_Mod_6 a_Mod_7 a_Mod_8 a_Mod_9 a_Mod_10 a_Mod_11 a_Mod_12 a_Mod_13 a_Mod_14 (r7.1, r7.2.1, r7.2.2.1, r7.2.2.2.1, r7.2.2.2.2.1, r7.2.2.2.2.2.1, r7.2.2.2.2.2.2.1, r7.2.2.2.2.2.2.2.1, r7.2.2.2.2.2.2.2.2.1, r7.2.2.2.2.2.2.2.2.2.1, r7.2.2.2.2.2.2.2.2.2.2.1, r7.2.2.2.2.2.2.2.2.2.2.2.1, r7.2.2.2.2.2.2.2.2.2.2.2.2.1, r7.2.2.2.2.2.2.2.2.2.2.2.2.2.1, r7.2.2.2.2.2.2.2.2.2.2.2.2.2.2.1, r7.2.2.2.2.2.2.2.2.2.2.2.2.2.2.2.1, r7.2.2.2.2.2.2.2.2.2.2.2.2.2.2.2.2.1, r7.2.2.2.2.2.2.2.2.2.2.2.2.2.2.2.2.2.1, r7.2.2.2.2.2.2.2.2.2.2.2.2.2.2.2.2.2.2.1, r7.2.2.2.2.2.2.2.2.2.2.2.2.2.2.2.2.2.2.2.1, r7.2.2.2.2.2.2.2.2.2.2.2.2.2.2.2.2.2.2.2.2.1, r7.2.2.2.2.2.2.2.2.2.2.2.2.2.2.2.2.2.2.2.2.2.1, r7.2.2.2.2.2.2.2.2.2.2.2.2.2.2.2.2.2.2.2.2.2.2.1, (1 : Int32), r7.2.2.2.2.2.2.2.2.2.2.2.2.2.2.2.2.2.2.2.2.2.2.2.2.1, r7.2.2.2.2.2.2.2.2.2.2.2.2.2.2.2.2.2.2.2.2.2.2.2.2.2.1, r7.2.2.2.2.2.2.2.2.2.2.2.2.2.2.2.2.2.2.2.2.2.2.2.2.2.2)) X d_Mod_clause_23 in_Mod ty_Mod tyok_Mod nmx_Mod 0 rfl rfl 23 (by decide) lf_Mod_82 rfl rfl rfl (Nat.le_of_ble_eq_true rfl) rfl ?_
    refine aj_aload_n X d_Mod_clause_26 0 rfl ?_
    refine aj_get X d_Mod_clause_27 in_Mod 0 rfl rfl 5 (by decide) lf_Mod_27 rfl ?_
    refine aj_iconst (v := (1 : Int32)) X d_Mod_clause_30 (by decide) ?_
    refine aj_isub X d_Mod_clause_31 ?_
    have ho := Option.some.inj hm
    subst ho
    exact aj_iret X d_Mod_clause_32 hr hlk [0, 1, 2, 3, 4, 5, 6, 7, 8, 9, 10, 11, 12, 13, 14, 15] (w_Mod cI cL cZ o_Mod a_Mod_0 a_Mod_1 a_Mod_2 a_Mod_3 a_Mod_4 a_Mod_5 a_Mod_6 a_Mod_7 a_Mod_8 a_Mod_9 a_Mod_10 a_Mod_11 a_Mod_12 a_Mod_13 a_Mod_14 (r7.1, r7.2.1, r7.2.2.1, r7.2.2.2.1, r7.2.2.2.2.1, r7.2.2.2.2.2.1, r7.2.2.2.2.2.2.1, r7.2.2.2.2.2.2.2.1, r7.2.2.2.2.2.2.2.2.1, r7.2.2.2.2.2.2.2.2.2.1, r7.2.2.2.2.2.2.2.2.2.2.1, r7.2.2.2.2.2.2.2.2.2.2.2.1, r7.2.2.2.2.2.2.2.2.2.2.2.2.1, r7.2.2.2.2.2.2.2.2.2.2.2.2.2.1, r7.2.2.2.2.2.2.2.2.2.2.2.2.2.2.1, r7.2.2.2.2.2.2.2.2.2.2.2.2.2.2.2.1, r7.2.2.2.2.2.2.2.2.2.2.2.2.2.2.2.2.1, r7.2.2.2.2.2.2.2.2.2.2.2.2.2.2.2.2.2.1, r7.2.2.2.2.2.2.2.2.2.2.2.2.2.2.2.2.2.2.1, r7.2.2.2.2.2.2.2.2.2.2.2.2.2.2.2.2.2.2.2.1, r7.2.2.2.2.2.2.2.2.2.2.2.2.2.2.2.2.2.2.2.2.1, r7.2.2.2.2.2.2.2.2.2.2.2.2.2.2.2.2.2.2.2.2.2.1, r7.2.2.2.2.2.2.2.2.2.2.2.2.2.2.2.2.2.2.2.2.2.2.1, (1 : Int32), r7.2.2.2.2.2.2.2.2.2.2.2.2.2.2.2.2.2.2.2.2.2.2.2.2.1, r7.2.2.2.2.2.2.2.2.2.2.2.2.2.2.2.2.2.2.2.2.2.2.2.2.2.1, r7.2.2.2.2.2.2.2.2.2.2.2.2.2.2.2.2.2.2.2.2.2.2.2.2.2.2)) rfl rfl ⟨rfl, rfl⟩
  · have hm := ite_t hm h
    refine aj_iconst (v := (-1 : Int32)) X d_Mod_clause_14 (by decide) ?_
    have ho := Option.some.inj hm
    subst ho
    exact aj_iret X d_Mod_clause_15 hr hlk [0, 1, 2, 3, 4, 5, 6, 7, 8, 9, 10, 11, 12, 13, 14, 15] (w_Mod cI cL cZ o_Mod a_Mod_0 a_Mod_1 a_Mod_2 a_Mod_3 a_Mod_4 a_Mod_5 a_Mod_6 a_Mod_7 a_Mod_8 a_Mod_9 a_Mod_10 a_Mod_11 a_Mod_12 a_Mod_13 a_Mod_14 ((0 : Int32), v_Mod.2.1, v_Mod.2.2.1, v_Mod.2.2.2.1, v_Mod.2.2.2.2.1, v_Mod.2.2.2.2.2.1, v_Mod.2.2.2.2.2.2.1, v_Mod.2.2.2.2.2.2.2.1, v_Mod.2.2.2.2.2.2.2.2.1, v_Mod.2.2.2.2.2.2.2.2.2.1, v_Mod.2.2.2.2.2.2.2.2.2.2.1, v_Mod.2.2.2.2.2.2.2.2.2.2.2.1, v_Mod.2.2.2.2.2.2.2.2.2.2.2.2.1, v_Mod.2.2.2.2.2.2.2.2.2.2.2.2.2.1, v_Mod.2.2.2.2.2.2.2.2.2.2.2.2.2.2.1, v_Mod.2.2.2.2.2.2.2.2.2.2.2.2.2.2.2.1, v_Mod.2.2.2.2.2.2.2.2.2.2.2.2.2.2.2.2.1, v_Mod.2.2.2.2.2.2.2.2.2.2.2.2.2.2.2.2.2.1, v_Mod.2.2.2.2.2.2.2.2.2.2.2.2.2.2.2.2.2.2.1, v_Mod.2.2.2.2.2.2.2.2.2.2.2.2.2.2.2.2.2.2.2.1, v_Mod.2.2.2.2.2.2.2.2.2.2.2.2.2.2.2.2.2.2.2.2.1, v_Mod.2.2.2.2.2.2.2.2.2.2.2.2.2.2.2.2.2.2.2.2.2.1, v_Mod.2.2.2.2.2.2.2.2.2.2.2.2.2.2.2.2.2.2.2.2.2.2.1, v_Mod.2.2.2.2.2.2.2.2.2.2.2.2.2.2.2.2.2.2.2.2.2.2.2.1, v_Mod.2.2.2.2.2.2.2.2.2.2.2.2.2.2.2.2.2.2.2.2.2.2.2.2.1, v_Mod.2.2.2.2.2.2.2.2.2.2.2.2.2.2.2.2.2.2.2.2.2.2.2.2.2.1, v_Mod.2.2.2.2.2.2.2.2.2.2.2.2.2.2.2.2.2.2.2.2.2.2.2.2.2.2)) rfl rfl ⟨rfl, rfl⟩
abbrev X_Mod_literal (p : Program) (s : State) (m : MethodId) (args : Array Value) (c : Code) (D : va_G) (cI cL cZ : ClassId) (A : Nat → Prop) : Prop := aj_C p s m args c D clss (ty3 cI cL cZ) A b_Mod_literal 6 R_Mod TB
abbrev J_Mod_literal (p : Program) (l : Launch) (e : Env) (s : State) (m : MethodId) (args : Array Value) (below : List Frame) (meth : Method) (c : Code) (D : va_G) (cI cL cZ : ClassId) (A : Nat → Prop) (O : Int32 → va_W → Prop) (mc ms : Nat) (ws : va_W) (kc ks pc : Nat) (lv : List (Nat × Value)) (st : List Value) : Prop := aj p l e { frames := 1, cells := mc, slots := ms, locals := 21 } s m args below meth c (MQ below (qI D clss (ty3 cI cL cZ) O A) args s mc ms A) D clss A 6 ws kc ks pc lv st
def O_Mod_literal (cI cL cZ : ClassId) (o_Mod a_Mod_0 a_Mod_1 a_Mod_2 a_Mod_3 a_Mod_4 a_Mod_5 a_Mod_6 a_Mod_7 a_Mod_8 a_Mod_9 a_Mod_10 a_Mod_11 a_Mod_12 a_Mod_13 a_Mod_14 : Nat) (out : T_Mod × Int32) : Int32 → va_W → Prop := fun r w1 => out.2 = r ∧ w1 = w_Mod cI cL cZ o_Mod a_Mod_0 a_Mod_1 a_Mod_2 a_Mod_3 a_Mod_4 a_Mod_5 a_Mod_6 a_Mod_7 a_Mod_8 a_Mod_9 a_Mod_10 a_Mod_11 a_Mod_12 a_Mod_13 a_Mod_14 out.1
def m_Mod_literal_L61 : Nat → T_Mod → Int32 → Int32 → Int32 → Option (T_Mod × Int32)
  | 0, _, _, _, _ => none
  | f + 1, v_Mod, x1, x4, x5 => (if ¬ ((x1 + (1 : Int32)) < 0 ∨ v_Mod.2.2.2.1.1 ≤ ((x1 + (1 : Int32))).toNatClampNeg) then (if (v_Mod.2.2.2.1.2 ((x1 + (1 : Int32))).toNatClampNeg) ≤ x5 then (if ¬ (v_Mod.2.2.2.2.2.1 < 0 ∨ v_Mod.2.2.2.1.1 ≤ (v_Mod.2.2.2.2.2.1).toNatClampNeg) then (if (v_Mod.2.2.2.1.2 (v_Mod.2.2.2.2.2.1).toNatClampNeg) = (20000 : Int32) then (some (v_Mod, (0 : Int32))) else (if ¬ (v_Mod.2.2.2.2.2.1 < 0 ∨ v_Mod.2.2.2.1.1 ≤ (v_Mod.2.2.2.2.2.1).toNatClampNeg) then (if ¬ (x1 < 0 ∨ v_Mod.2.2.2.1.1 ≤ (x1).toNatClampNeg) then (if ((v_Mod.2.2.2.1.2 (v_Mod.2.2.2.2.2.1).toNatClampNeg) - (v_Mod.2.2.2.1.2 (x1).toNatClampNeg)) = (60 : Int32) then (some (v_Mod, (0 : Int32))) else ((m_Mod_put v_Mod x4).bind fun r9 => (some ((r9.1, r9.2.1, r9.2.2.1, r9.2.2.2.1, r9.2.2.2.2.1, r9.2.2.2.2.2.1, r9.2.2.2.2.2.2.1, r9.2.2.2.2.2.2.2.1, r9.2.2.2.2.2.2.2.2.1, r9.2.2.2.2.2.2.2.2.2.1, r9.2.2.2.2.2.2.2.2.2.2.1, r9.2.2.2.2.2.2.2.2.2.2.2.1, r9.2.2.2.2.2.2.2.2.2.2.2.2.1, r9.2.2.2.2.2.2.2.2.2.2.2.2.2.1, r9.2.2.2.2.2.2.2.2.2.2.2.2.2.2.1, r9.2.2.2.2.2.2.2.2.2.2.2.2.2.2.2.1, r9.2.2.2.2.2.2.2.2.2.2.2.2.2.2.2.2.1, r9.2.2.2.2.2.2.2.2.2.2.2.2.2.2.2.2.2.1, r9.2.2.2.2.2.2.2.2.2.2.2.2.2.2.2.2.2.2.1, r9.2.2.2.2.2.2.2.2.2.2.2.2.2.2.2.2.2.2.2.1, r9.2.2.2.2.2.2.2.2.2.2.2.2.2.2.2.2.2.2.2.2.1, r9.2.2.2.2.2.2.2.2.2.2.2.2.2.2.2.2.2.2.2.2.2.1, r9.2.2.2.2.2.2.2.2.2.2.2.2.2.2.2.2.2.2.2.2.2.2.1, (1 : Int32), r9.2.2.2.2.2.2.2.2.2.2.2.2.2.2.2.2.2.2.2.2.2.2.2.2.1, r9.2.2.2.2.2.2.2.2.2.2.2.2.2.2.2.2.2.2.2.2.2.2.2.2.2.1, r9.2.2.2.2.2.2.2.2.2.2.2.2.2.2.2.2.2.2.2.2.2.2.2.2.2.2), (1 : Int32))))) else none) else none)) else none) else (if ¬ (x5 < 0 ∨ v_Mod.2.2.1.1 ≤ (x5).toNatClampNeg) then (if (v_Mod.2.2.1.2 (x5).toNatClampNeg) = x4 then (some (v_Mod, (0 : Int32))) else ((m_Mod_literal_L61 f) v_Mod x1 x4 (x5 + 1))) else none)) else none)
set_option maxRecDepth 100000 in
set_option maxHeartbeats 4000000 in
theorem c_Mod_literal_L61 {l : Launch} {D : va_G} {cI cL cZ : ClassId} {p : Program} {e : Env} {s : State} {m : MethodId} {args : Array Value} {below : List Frame} {meth : Method} {c : Code} {A : Nat → Prop} (o_Mod a_Mod_0 a_Mod_1 a_Mod_2 a_Mod_3 a_Mod_4 a_Mod_5 a_Mod_6 a_Mod_7 a_Mod_8 a_Mod_9 a_Mod_10 a_Mod_11 a_Mod_12 a_Mod_13 a_Mod_14 : Nat) (out : T_Mod × Int32) (X : X_Mod_literal p s m args c D cI cL cZ A) (N : nk NM0 NF0 s) (hr : meth.sig.returnType = some .boolean) (hlk : meth.locks = false) : ∀ (nn : Nat), ∀ (v_Mod : T_Mod) (x1 : Int32) (x4 : Int32) (x5 : Int32), m_Mod_literal_L61 nn v_Mod x1 x4 x5 = some out → J_Mod_literal p l e s m args below meth c D cI cL cZ A (O_Mod_literal cI cL cZ o_Mod a_Mod_0 a_Mod_1 a_Mod_2 a_Mod_3 a_Mod_4 a_Mod_5 a_Mod_6 a_Mod_7 a_Mod_8 a_Mod_9 a_Mod_10 a_Mod_11 a_Mod_12 a_Mod_13 a_Mod_14 out) 0 0 (w_Mod cI cL cZ o_Mod a_Mod_0 a_Mod_1 a_Mod_2 a_Mod_3 a_Mod_4 a_Mod_5 a_Mod_6 a_Mod_7 a_Mod_8 a_Mod_9 a_Mod_10 a_Mod_11 a_Mod_12 a_Mod_13 a_Mod_14 v_Mod) 0 0 61 [(0, .ref o_Mod), (1, .int x1), (4, .int x4), (5, .int x5)] [] := by
  intro nn
  induction nn with
  | zero => intro v_Mod x1 x4 x5 hm; exact absurd hm (by simp [m_Mod_literal_L61])
  | succ nn ih61 =>
    intro v_Mod x1 x4 x5 hm
    unfold m_Mod_literal_L61 at hm
    refine aj_iload X d_Mod_literal_61 3 rfl ?_
    refine aj_aload_n X d_Mod_literal_63 0 rfl ?_
    refine aj_get X d_Mod_literal_64 in_Mod 0 rfl rfl 3 (by decide) lf_Mod_20 rfl ?_
    refine aj_iload_n X d_Mod_literal_67 1 rfl ?_
    refine aj_iconst (v := (1 : Int32)) X d_Mod_literal_68 (by decide) ?_
    refine aj_iadd X d_Mod_literal_69 ?_
    obtain ⟨b5, hm⟩ := chk_of hm
    refine aj_iald X d_Mod_literal_70 2 0 rfl rfl b5 ?_
    refine aj_icmp_ge X 94 d_Mod_literal_71 (by decide) (fun h => ?_) (fun h => ?_)
    · have hm := ite_t hm h
      refine aj_aload_n X d_Mod_literal_94 0 rfl ?_
      refine aj_get X d_Mod_literal_95 in_Mod 0 rfl rfl 3 (by decide) lf_Mod_20 rfl ?_
      refine aj_aload_n X d_Mod_literal_98 0 rfl ?_
      refine aj_get X d_Mod_literal_99 in_Mod 0 rfl rfl 5 (by decide) lf_Mod_27 rfl ?_
      obtain ⟨b6, hm⟩ := chk_of hm
      refine aj_iald X d_Mod_literal_102 2 0 rfl rfl b6 ?_
      refine aj_sipush (v := (20000 : Int32)) X d_Mod_literal_103 (by decide) ?_
      refine aj_icmp_eq X 130 d_Mod_literal_106 (by decide) (fun h => ?_) (fun h => ?_)
      · have hm := ite_t hm h
        refine aj_iconst (v := (0 : Int32)) X d_Mod_literal_130 (by decide) ?_
        have ho := Option.some.inj hm
        subst ho
        exact aj_zret X d_Mod_literal_131 hr hlk (by decide) [0, 1, 2, 3, 4, 5, 6, 7, 8, 9, 10, 11, 12, 13, 14, 15] (w_Mod cI cL cZ o_Mod a_Mod_0 a_Mod_1 a_Mod_2 a_Mod_3 a_Mod_4 a_Mod_5 a_Mod_6 a_Mod_7 a_Mod_8 a_Mod_9 a_Mod_10 a_Mod_11 a_Mod_12 a_Mod_13 a_Mod_14 v_Mod) rfl rfl ⟨rfl, rfl⟩
      · have hm := ite_f hm h
        refine aj_aload_n X d_Mod_literal_109 0 rfl ?_
        refine aj_get X d_Mod_literal_110 in_Mod 0 rfl rfl 3 (by decide) lf_Mod_20 rfl ?_
        refine aj_aload_n X d_Mod_literal_113 0 rfl ?_
        refine aj_get X d_Mod_literal_114 in_Mod 0 rfl rfl 5 (by decide) lf_Mod_27 rfl ?_
        obtain ⟨b7, hm⟩ := chk_of hm
        refine aj_iald X d_Mod_literal_117 2 0 rfl rfl b7 ?_
        refine aj_aload_n X d_Mod_literal_118 0 rfl ?_
        refine aj_get X d_Mod_literal_119 in_Mod 0 rfl rfl 3 (by decide) lf_Mod_20 rfl ?_
        refine aj_iload_n X d_Mod_literal_122 1 rfl ?_
        obtain ⟨b8, hm⟩ := chk_of hm
        refine aj_iald X d_Mod_literal_123 2 0 rfl rfl b8 ?_
        refine aj_isub X d_Mod_literal_124 ?_
        refine aj_bipush (v := (60 : Int32)) X d_Mod_literal_125 (by decide) ?_
        refine aj_icmp_ne X 132 d_Mod_literal_127 (by decide) (fun h => ?_) (fun h => ?_)
        · have hm := ite_f hm h
          refine aj_aload_n X d_Mod_literal_132 0 rfl ?_
          refine aj_iload X d_Mod_literal_133 2 rfl ?_
          obtain ⟨r9, h10, hm⟩ := bnd_of hm
          refine aj_callV (wr := []) X (aj_rV (As := [.int x4]) (rest := []) X N gTB (c_Mod_put (D := D) (cI := cI) (cL := cL) (cZ := cZ) o_Mod a_Mod_0 a_Mod_1 a_Mod_2 a_Mod_3 a_Mod_4 a_Mod_5 a_Mod_6 a_Mod_7 a_Mod_8 a_Mod_9 a_Mod_10 a_Mod_11 a_Mod_12 a_Mod_13 a_Mod_14 v_Mod x4 r9 h10) d_Mod_literal_135 lk_Mod_put lw_Mod_122 lh_Mod_put ⟨(Nat.le_of_ble_eq_true rfl), (Nat.le_of_ble_eq_true rfl)⟩ [0, 1, 2, 3, 4, 5, 6, 7, 8, 9, 10, 11, 12, 13, 14, 15] rfl rfl 0 rfl rfl rfl rfl (Nat.le_of_ble_eq_true rfl) ⟨Nat.le_refl _, Nat.le_refl _⟩) [0, 1, 2, 3, 4, 5, 6, 7, 8, 9, 10, 11, 12, 13, 14, 15] [] rfl rfl rfl (by decide) (fun w1 hO => ?_)
          obtain rfl := hO
          refine aj_perm (ws' := w_Mod cI cL cZ o_Mod a_Mod_0 a_Mod_1 a_Mod_2 a_Mod_3 a_Mod_4 a_Mod_5 a_Mod_6 a_Mod_7 a_Mod_8 a_Mod_9 a_Mod_10 a_Mod_11 a_Mod_12 a_Mod_13 a_Mod_14 r9) [0, 1, 2, 3, 4, 5, 6, 7, 8, 9, 10, 11, 12, 13, 14, 15] rfl rfl ?_
          refine aj_aload_n X d_Mod_literal_138 0 rfl ?_
          refine aj_iconst (v := (1 : Int32)) X d_Mod_literal_139 (by decide) ?_
          refine aj_put (ws' := w_Mod cI cL cZ o_Mod a_Mod_0 a_Mod_1 a_Mod_2 a_Mod_3 a_Mod_4 a_Mod_5 a_Mod_6 a_Mod_7 a_Mod_8 a_Mod_9 a_Mod_10 a_Mod_11 a_Mod_12 a_Mod_13 a_Mod_14 (r9.1, r9.2.1, r9.2.2.1, r9.2.2.2.1, r9.2.2.2.2.1, r9.2.2.2.2.2.1, r9.2.2.2.2.2.2.1, r9.2.2.2.2.2.2.2.1, r9.2.2.2.2.2.2.2.2.1, r9.2.2.2.2.2.2.2.2.2.1, r9.2.2.2.2.2.2.2.2.2.2.1, r9.2.2.2.2.2.2.2.2.2.2.2.1, r9.2.2.2.2.2.2.2.2.2.2.2.2.1, r9.2.2.2.2.2.2.2.2.2.2.2.2.2.1, r9.2.2.2.2.2.2.2.2.2.2.2.2.2.2.1, r9.2.2.2.2.2.2.2.2.2.2.2.2.2.2.2.1, r9.2.2.2.2.2.2.2.2.2.2.2.2.2.2.2.2.1, r9.2.2.2.2.2.2.2.2.2.2.2.2.2.2.2.2.2.1, r9.2.2.2.2.2.2.2.2.2.2.2.2.2.2.2.2.2.2.1, r9.2.2.2.2.2.2.2.2.2.2.2.2.2.2.2.2.2.2.2.1, r9.2.2.2.2.2.2.2.2.2.2.2.2.2.2.2.2.2.2.2.2.1, r9.2.2.2.2.2.2.2.2.2.2.2.2.2.2.2.2.2.2.2.2.2.1, r9.2.2.2.2.2.2.2.2.2.2.2.2.2.2.2.2.2.2.2.2.2.2.1, (1 : Int32), r9.2.2.2.2.2.2.2.2.2.2.2.2.2.2.2.2.2.2.2.2.2.2.2.2.1, r9.2.2.2.2.2.2.2.2.2.2.2.2.2.2.2.2.2.2.2.2.2.2.2.2.2.1, r9.2.2.2.2.2.2.2.2.2.2.2.2.2.2.2.2.2.2.2.2.2.2.2.2.2.2)) X d_Mod_literal_140 in_Mod ty_Mod tyok_Mod nmx_Mod 0 rfl rfl 23 (by decide) lf_Mod_82 rfl rfl rfl (Nat.le_of_ble_eq_true rfl) rfl ?_
          refine aj_iconst (v := (1 : Int32)) X d_Mod_literal_143 (by decide) ?_
          have ho := Option.some.inj hm
          subst ho
          exact aj_zret X d_Mod_literal_144 hr hlk (by decide) [0, 1, 2, 3, 4, 5, 6, 7, 8, 9, 10, 11, 12, 13, 14, 15] (w_Mod cI cL cZ o_Mod a_Mod_0 a_Mod_1 a_Mod_2 a_Mod_3 a_Mod_4 a_Mod_5 a_Mod_6 a_Mod_7 a_Mod_8 a_Mod_9 a_Mod_10 a_Mod_11 a_Mod_12 a_Mod_13 a_Mod_14 (r9.1, r9.2.1, r9.2.2.1, r9.2.2.2.1, r9.2.2.2.2.1, r9.2.2.2.2.2.1, r9.2.2.2.2.2.2.1, r9.2.2.2.2.2.2.2.1, r9.2.2.2.2.2.2.2.2.1, r9.2.2.2.2.2.2.2.2.2.1, r9.2.2.2.2.2.2.2.2.2.2.1, r9.2.2.2.2.2.2.2.2.2.2.2.1, r9.2.2.2.2.2.2.2.2.2.2.2.2.1, r9.2.2.2.2.2.2.2.2.2.2.2.2.2.1, r9.2.2.2.2.2.2.2.2.2.2.2.2.2.2.1, r9.2.2.2.2.2.2.2.2.2.2.2.2.2.2.2.1, r9.2.2.2.2.2.2.2.2.2.2.2.2.2.2.2.2.1, r9.2.2.2.2.2.2.2.2.2.2.2.2.2.2.2.2.2.1, r9.2.2.2.2.2.2.2.2.2.2.2.2.2.2.2.2.2.2.1, r9.2.2.2.2.2.2.2.2.2.2.2.2.2.2.2.2.2.2.2.1, r9.2.2.2.2.2.2.2.2.2.2.2.2.2.2.2.2.2.2.2.2.1, r9.2.2.2.2.2.2.2.2.2.2.2.2.2.2.2.2.2.2.2.2.2.1, r9.2.2.2.2.2.2.2.2.2.2.2.2.2.2.2.2.2.2.2.2.2.2.1, (1 : Int32), r9.2.2.2.2.2.2.2.2.2.2.2.2.2.2.2.2.2.2.2.2.2.2.2.2.1, r9.2.2.2.2.2.2.2.2.2.2.2.2.2.2.2.2.2.2.2.2.2.2.2.2.2.1, r9.2.2.2.2.2.2.2.2.2.2.2.2.2.2.2.2.2.2.2.2.2.2.2.2.2.2)) rfl rfl ⟨rfl, rfl⟩
        · have hm := ite_t hm h
          refine aj_iconst (v := (0 : Int32)) X d_Mod_literal_130 (by decide) ?_
          have ho := Option.some.inj hm
          subst ho
          exact aj_zret X d_Mod_literal_131 hr hlk (by decide) [0, 1, 2, 3, 4, 5, 6, 7, 8, 9, 10, 11, 12, 13, 14, 15] (w_Mod cI cL cZ o_Mod a_Mod_0 a_Mod_1 a_Mod_2 a_Mod_3 a_Mod_4 a_Mod_5 a_Mod_6 a_Mod_7 a_Mod_8 a_Mod_9 a_Mod_10 a_Mod_11 a_Mod_12 a_Mod_13 a_Mod_14 v_Mod) rfl rfl ⟨rfl, rfl⟩
    · have hm := ite_f hm h
      refine aj_aload_n X d_Mod_literal_74 0 rfl ?_
      refine aj_get X d_Mod_literal_75 in_Mod 0 rfl rfl 2 (by decide) lf_Mod_16 rfl ?_
      refine aj_iload X d_Mod_literal_78 3 rfl ?_
      obtain ⟨b11, hm⟩ := chk_of hm
      refine aj_iald X d_Mod_literal_80 1 0 rfl rfl b11 ?_
      refine aj_iload X d_Mod_literal_81 2 rfl ?_
      refine aj_icmp_ne X 88 d_Mod_literal_83 (by decide) (fun h => ?_) (fun h => ?_)
      · have hm := ite_f hm h
        refine aj_iinc (v := (x5 + 1)) (lv' := [(5, .int (x5 + 1)), (0, .ref o_Mod), (1, .int x1), (4, .int x4)]) X d_Mod_literal_88 3 rfl rfl (by decide) rfl ?_
        refine aj_goto X 61 d_Mod_literal_91 (by decide) ?_
        refine aj_lv (lv' := [(0, .ref o_Mod), (1, .int x1), (4, .int x4), (5, .int (x5 + 1))]) [1, 2, 3, 0] rfl ?_
        exact ih61 v_Mod x1 x4 (x5 + 1) hm
      · have hm := ite_t hm h
        refine aj_iconst (v := (0 : Int32)) X d_Mod_literal_86 (by decide) ?_
        have ho := Option.some.inj hm
        subst ho
        exact aj_zret X d_Mod_literal_87 hr hlk (by decide) [0, 1, 2, 3, 4, 5, 6, 7, 8, 9, 10, 11, 12, 13, 14, 15] (w_Mod cI cL cZ o_Mod a_Mod_0 a_Mod_1 a_Mod_2 a_Mod_3 a_Mod_4 a_Mod_5 a_Mod_6 a_Mod_7 a_Mod_8 a_Mod_9 a_Mod_10 a_Mod_11 a_Mod_12 a_Mod_13 a_Mod_14 v_Mod) rfl rfl ⟨rfl, rfl⟩
def m_Mod_literal_B50 (v_Mod : T_Mod) (x1 : Int32) (z0 : Int32) (z1 : Int32) : Option (T_Mod × Int32) := (if ¬ (x1 < 0 ∨ v_Mod.2.2.2.1.1 ≤ (x1).toNatClampNeg) then (m_Mod_literal_L61 fu v_Mod x1 (z1 + z0) (v_Mod.2.2.2.1.2 (x1).toNatClampNeg)) else none)
set_option maxRecDepth 100000 in
set_option maxHeartbeats 4000000 in
theorem c_Mod_literal_B50 {l : Launch} {D : va_G} {cI cL cZ : ClassId} {p : Program} {e : Env} {s : State} {m : MethodId} {args : Array Value} {below : List Frame} {meth : Method} {c : Code} {A : Nat → Prop} (o_Mod a_Mod_0 a_Mod_1 a_Mod_2 a_Mod_3 a_Mod_4 a_Mod_5 a_Mod_6 a_Mod_7 a_Mod_8 a_Mod_9 a_Mod_10 a_Mod_11 a_Mod_12 a_Mod_13 a_Mod_14 : Nat) (out : T_Mod × Int32) (X : X_Mod_literal p s m args c D cI cL cZ A) (N : nk NM0 NF0 s) (hr : meth.sig.returnType = some .boolean) (hlk : meth.locks = false) : ∀ (v_Mod : T_Mod) (x1 : Int32) (z0 : Int32) (z1 : Int32), m_Mod_literal_B50 v_Mod x1 z0 z1 = some out → J_Mod_literal p l e s m args below meth c D cI cL cZ A (O_Mod_literal cI cL cZ o_Mod a_Mod_0 a_Mod_1 a_Mod_2 a_Mod_3 a_Mod_4 a_Mod_5 a_Mod_6 a_Mod_7 a_Mod_8 a_Mod_9 a_Mod_10 a_Mod_11 a_Mod_12 a_Mod_13 a_Mod_14 out) 0 0 (w_Mod cI cL cZ o_Mod a_Mod_0 a_Mod_1 a_Mod_2 a_Mod_3 a_Mod_4 a_Mod_5 a_Mod_6 a_Mod_7 a_Mod_8 a_Mod_9 a_Mod_10 a_Mod_11 a_Mod_12 a_Mod_13 a_Mod_14 v_Mod) 0 0 50 [(0, .ref o_Mod), (1, .int x1)] [.int z0, .int z1] := by
  intro v_Mod x1 z0 z1 hm
  unfold m_Mod_literal_B50 at hm
  refine aj_iadd X d_Mod_literal_50 ?_
  refine aj_istore (lv' := [(4, .int (z1 + z0)), (0, .ref o_Mod), (1, .int x1)]) X d_Mod_literal_51 (by decide) rfl ?_
  refine aj_aload_n X d_Mod_literal_53 1 rfl ?_
  refine aj_get X d_Mod_literal_54 in_Mod 0 rfl rfl 3 (by decide) lf_Mod_20 rfl ?_
  refine aj_iload_n X d_Mod_literal_57 2 rfl ?_
  obtain ⟨b12, hm⟩ := chk_of hm
  refine aj_iald X d_Mod_literal_58 2 0 rfl rfl b12 ?_
  refine aj_istore (lv' := [(5, .int (v_Mod.2.2.2.1.2 (x1).toNatClampNeg)), (4, .int (z1 + z0)), (0, .ref o_Mod), (1, .int x1)]) X d_Mod_literal_59 (by decide) rfl ?_
  refine aj_lv (lv' := [(0, .ref o_Mod), (1, .int x1), (4, .int (z1 + z0)), (5, .int (v_Mod.2.2.2.1.2 (x1).toNatClampNeg))]) [2, 3, 1, 0] rfl ?_
  exact c_Mod_literal_L61 o_Mod a_Mod_0 a_Mod_1 a_Mod_2 a_Mod_3 a_Mod_4 a_Mod_5 a_Mod_6 a_Mod_7 a_Mod_8 a_Mod_9 a_Mod_10 a_Mod_11 a_Mod_12 a_Mod_13 a_Mod_14 out X N hr hlk fu v_Mod x1 (z1 + z0) (v_Mod.2.2.2.1.2 (x1).toNatClampNeg) hm
def m_Mod_literal (v_Mod : T_Mod) (x1 : Int32) (x2 : Int32) (x3 : Int32) : Option (T_Mod × Int32) := (if x1 < 0 then (some (((0 : Int32), v_Mod.2.1, v_Mod.2.2.1, v_Mod.2.2.2.1, v_Mod.2.2.2.2.1, v_Mod.2.2.2.2.2.1, v_Mod.2.2.2.2.2.2.1, v_Mod.2.2.2.2.2.2.2.1, v_Mod.2.2.2.2.2.2.2.2.1, v_Mod.2.2.2.2.2.2.2.2.2.1, v_Mod.2.2.2.2.2.2.2.2.2.2.1, v_Mod.2.2.2.2.2.2.2.2.2.2.2.1, v_Mod.2.2.2.2.2.2.2.2.2.2.2.2.1, v_Mod.2.2.2.2.2.2.2.2.2.2.2.2.2.1, v_Mod.2.2.2.2.2.2.2.2.2.2.2.2.2.2.1, v_Mod.2.2.2.2.2.2.2.2.2.2.2.2.2.2.2.1, v_Mod.2.2.2.2.2.2.2.2.2.2.2.2.2.2.2.2.1, v_Mod.2.2.2.2.2.2.2.2.2.2.2.2.2.2.2.2.2.1, v_Mod.2.2.2.2.2.2.2.2.2.2.2.2.2.2.2.2.2.2.1, v_Mod.2.2.2.2.2.2.2.2.2.2.2.2.2.2.2.2.2.2.2.1, v_Mod.2.2.2.2.2.2.2.2.2.2.2.2.2.2.2.2.2.2.2.2.1, v_Mod.2.2.2.2.2.2.2.2.2.2.2.2.2.2.2.2.2.2.2.2.2.1, v_Mod.2.2.2.2.2.2.2.2.2.2.2.2.2.2.2.2.2.2.2.2.2.2.1, v_Mod.2.2.2.2.2.2.2.2.2.2.2.2.2.2.2.2.2.2.2.2.2.2.2.1, v_Mod.2.2.2.2.2.2.2.2.2.2.2.2.2.2.2.2.2.2.2.2.2.2.2.2.1, v_Mod.2.2.2.2.2.2.2.2.2.2.2.2.2.2.2.2.2.2.2.2.2.2.2.2.2.1, v_Mod.2.2.2.2.2.2.2.2.2.2.2.2.2.2.2.2.2.2.2.2.2.2.2.2.2.2), (0 : Int32))) else (if x1 = (v_Mod.2.2.2.2.2.1 - (1 : Int32)) then (if ¬ (x1 < 0 ∨ v_Mod.2.2.2.2.1.1 ≤ (x1).toNatClampNeg) then (if (v_Mod.2.2.2.2.1.2 (x1).toNatClampNeg) = 0 then (some (((0 : Int32), v_Mod.2.1, v_Mod.2.2.1, v_Mod.2.2.2.1, v_Mod.2.2.2.2.1, v_Mod.2.2.2.2.2.1, v_Mod.2.2.2.2.2.2.1, v_Mod.2.2.2.2.2.2.2.1, v_Mod.2.2.2.2.2.2.2.2.1, v_Mod.2.2.2.2.2.2.2.2.2.1, v_Mod.2.2.2.2.2.2.2.2.2.2.1, v_Mod.2.2.2.2.2.2.2.2.2.2.2.1, v_Mod.2.2.2.2.2.2.2.2.2.2.2.2.1, v_Mod.2.2.2.2.2.2.2.2.2.2.2.2.2.1, v_Mod.2.2.2.2.2.2.2.2.2.2.2.2.2.2.1, v_Mod.2.2.2.2.2.2.2.2.2.2.2.2.2.2.2.1, v_Mod.2.2.2.2.2.2.2.2.2.2.2.2.2.2.2.2.1, v_Mod.2.2.2.2.2.2.2.2.2.2.2.2.2.2.2.2.2.1, v_Mod.2.2.2.2.2.2.2.2.2.2.2.2.2.2.2.2.2.2.1, v_Mod.2.2.2.2.2.2.2.2.2.2.2.2.2.2.2.2.2.2.2.1, v_Mod.2.2.2.2.2.2.2.2.2.2.2.2.2.2.2.2.2.2.2.2.1, v_Mod.2.2.2.2.2.2.2.2.2.2.2.2.2.2.2.2.2.2.2.2.2.1, v_Mod.2.2.2.2.2.2.2.2.2.2.2.2.2.2.2.2.2.2.2.2.2.2.1, v_Mod.2.2.2.2.2.2.2.2.2.2.2.2.2.2.2.2.2.2.2.2.2.2.2.1, v_Mod.2.2.2.2.2.2.2.2.2.2.2.2.2.2.2.2.2.2.2.2.2.2.2.2.1, v_Mod.2.2.2.2.2.2.2.2.2.2.2.2.2.2.2.2.2.2.2.2.2.2.2.2.2.1, v_Mod.2.2.2.2.2.2.2.2.2.2.2.2.2.2.2.2.2.2.2.2.2.2.2.2.2.2), (0 : Int32))) else ((m_Mod_noThing ((0 : Int32), v_Mod.2.1, v_Mod.2.2.1, v_Mod.2.2.2.1, v_Mod.2.2.2.2.1, v_Mod.2.2.2.2.2.1, v_Mod.2.2.2.2.2.2.1, v_Mod.2.2.2.2.2.2.2.1, v_Mod.2.2.2.2.2.2.2.2.1, v_Mod.2.2.2.2.2.2.2.2.2.1, v_Mod.2.2.2.2.2.2.2.2.2.2.1, v_Mod.2.2.2.2.2.2.2.2.2.2.2.1, v_Mod.2.2.2.2.2.2.2.2.2.2.2.2.1, v_Mod.2.2.2.2.2.2.2.2.2.2.2.2.2.1, v_Mod.2.2.2.2.2.2.2.2.2.2.2.2.2.2.1, v_Mod.2.2.2.2.2.2.2.2.2.2.2.2.2.2.2.1, v_Mod.2.2.2.2.2.2.2.2.2.2.2.2.2.2.2.2.1, v_Mod.2.2.2.2.2.2.2.2.2.2.2.2.2.2.2.2.2.1, v_Mod.2.2.2.2.2.2.2.2.2.2.2.2.2.2.2.2.2.2.1, v_Mod.2.2.2.2.2.2.2.2.2.2.2.2.2.2.2.2.2.2.2.1, v_Mod.2.2.2.2.2.2.2.2.2.2.2.2.2.2.2.2.2.2.2.2.1, v_Mod.2.2.2.2.2.2.2.2.2.2.2.2.2.2.2.2.2.2.2.2.2.1, v_Mod.2.2.2.2.2.2.2.2.2.2.2.2.2.2.2.2.2.2.2.2.2.2.1, v_Mod.2.2.2.2.2.2.2.2.2.2.2.2.2.2.2.2.2.2.2.2.2.2.2.1, v_Mod.2.2.2.2.2.2.2.2.2.2.2.2.2.2.2.2.2.2.2.2.2.2.2.2.1, v_Mod.2.2.2.2.2.2.2.2.2.2.2.2.2.2.2.2.2.2.2.2.2.2.2.2.2.1, v_Mod.2.2.2.2.2.2.2.2.2.2.2.2.2.2.2.2.2.2.2.2.2.2.2.2.2.2) x2).bind fun r14 => (if r14 = 0 then (if x3 = 0 then (m_Mod_literal_B50 ((0 : Int32), v_Mod.2.1, v_Mod.2.2.1, v_Mod.2.2.2.1, v_Mod.2.2.2.2.1, v_Mod.2.2.2.2.2.1, v_Mod.2.2.2.2.2.2.1, v_Mod.2.2.2.2.2.2.2.1, v_Mod.2.2.2.2.2.2.2.2.1, v_Mod.2.2.2.2.2.2.2.2.2.1, v_Mod.2.2.2.2.2.2.2.2.2.2.1, v_Mod.2.2.2.2.2.2.2.2.2.2.2.1, v_Mod.2.2.2.2.2.2.2.2.2.2.2.2.1, v_Mod.2.2.2.2.2.2.2.2.2.2.2.2.2.1, v_Mod.2.2.2.2.2.2.2.2.2.2.2.2.2.2.1, v_Mod.2.2.2.2.2.2.2.2.2.2.2.2.2.2.2.1, v_Mod.2.2.2.2.2.2.2.2.2.2.2.2.2.2.2.2.1, v_Mod.2.2.2.2.2.2.2.2.2.2.2.2.2.2.2.2.2.1, v_Mod.2.2.2.2.2.2.2.2.2.2.2.2.2.2.2.2.2.2.1, v_Mod.2.2.2.2.2.2.2.2.2.2.2.2.2.2.2.2.2.2.2.1, v_Mod.2.2.2.2.2.2.2.2.2.2.2.2.2.2.2.2.2.2.2.2.1, v_Mod.2.2.2.2.2.2.2.2.2.2.2.2.2.2.2.2.2.2.2.2.2.1, v_Mod.2.2.2.2.2.2.2.2.2.2.2.2.2.2.2.2.2.2.2.2.2.2.1, v_Mod.2.2.2.2.2.2.2.2.2.2.2.2.2.2.2.2.2.2.2.2.2.2.2.1, v_Mod.2.2.2.2.2.2.2.2.2.2.2.2.2.2.2.2.2.2.2.2.2.2.2.2.1, v_Mod.2.2.2.2.2.2.2.2.2.2.2.2.2.2.2.2.2.2.2.2.2.2.2.2.2.1, v_Mod.2.2.2.2.2.2.2.2.2.2.2.2.2.2.2.2.2.2.2.2.2.2.2.2.2.2) x1 (0 : Int32) ((2 : Int32) * x2)) else (m_Mod_literal_B50 ((0 : Int32), v_Mod.2.1, v_Mod.2.2.1, v_Mod.2.2.2.1, v_Mod.2.2.2.2.1, v_Mod.2.2.2.2.2.1, v_Mod.2.2.2.2.2.2.1, v_Mod.2.2.2.2.2.2.2.1, v_Mod.2.2.2.2.2.2.2.2.1, v_Mod.2.2.2.2.2.2.2.2.2.1, v_Mod.2.2.2.2.2.2.2.2.2.2.1, v_Mod.2.2.2.2.2.2.2.2.2.2.2.1, v_Mod.2.2.2.2.2.2.2.2.2.2.2.2.1, v_Mod.2.2.2.2.2.2.2.2.2.2.2.2.2.1, v_Mod.2.2.2.2.2.2.2.2.2.2.2.2.2.2.1, v_Mod.2.2.2.2.2.2.2.2.2.2.2.2.2.2.2.1, v_Mod.2.2.2.2.2.2.2.2.2.2.2.2.2.2.2.2.1, v_Mod.2.2.2.2.2.2.2.2.2.2.2.2.2.2.2.2.2.1, v_Mod.2.2.2.2.2.2.2.2.2.2.2.2.2.2.2.2.2.2.1, v_Mod.2.2.2.2.2.2.2.2.2.2.2.2.2.2.2.2.2.2.2.1, v_Mod.2.2.2.2.2.2.2.2.2.2.2.2.2.2.2.2.2.2.2.2.1, v_Mod.2.2.2.2.2.2.2.2.2.2.2.2.2.2.2.2.2.2.2.2.2.1, v_Mod.2.2.2.2.2.2.2.2.2.2.2.2.2.2.2.2.2.2.2.2.2.2.1, v_Mod.2.2.2.2.2.2.2.2.2.2.2.2.2.2.2.2.2.2.2.2.2.2.2.1, v_Mod.2.2.2.2.2.2.2.2.2.2.2.2.2.2.2.2.2.2.2.2.2.2.2.2.1, v_Mod.2.2.2.2.2.2.2.2.2.2.2.2.2.2.2.2.2.2.2.2.2.2.2.2.2.1, v_Mod.2.2.2.2.2.2.2.2.2.2.2.2.2.2.2.2.2.2.2.2.2.2.2.2.2.2) x1 (1 : Int32) ((2 : Int32) * x2))) else (some (((0 : Int32), v_Mod.2.1, v_Mod.2.2.1, v_Mod.2.2.2.1, v_Mod.2.2.2.2.1, v_Mod.2.2.2.2.2.1, v_Mod.2.2.2.2.2.2.1, v_Mod.2.2.2.2.2.2.2.1, v_Mod.2.2.2.2.2.2.2.2.1, v_Mod.2.2.2.2.2.2.2.2.2.1, v_Mod.2.2.2.2.2.2.2.2.2.2.1, v_Mod.2.2.2.2.2.2.2.2.2.2.2.1, v_Mod.2.2.2.2.2.2.2.2.2.2.2.2.1, v_Mod.2.2.2.2.2.2.2.2.2.2.2.2.2.1, v_Mod.2.2.2.2.2.2.2.2.2.2.2.2.2.2.1, v_Mod.2.2.2.2.2.2.2.2.2.2.2.2.2.2.2.1, v_Mod.2.2.2.2.2.2.2.2.2.2.2.2.2.2.2.2.1, v_Mod.2.2.2.2.2.2.2.2.2.2.2.2.2.2.2.2.2.1, v_Mod.2.2.2.2.2.2.2.2.2.2.2.2.2.2.2.2.2.2.1, v_Mod.2.2.2.2.2.2.2.2.2.2.2.2.2.2.2.2.2.2.2.1, v_Mod.2.2.2.2.2.2.2.2.2.2.2.2.2.2.2.2.2.2.2.2.1, v_Mod.2.2.2.2.2.2.2.2.2.2.2.2.2.2.2.2.2.2.2.2.2.1, v_Mod.2.2.2.2.2.2.2.2.2.2.2.2.2.2.2.2.2.2.2.2.2.2.1, v_Mod.2.2.2.2.2.2.2.2.2.2.2.2.2.2.2.2.2.2.2.2.2.2.2.1, v_Mod.2.2.2.2.2.2.2.2.2.2.2.2.2.2.2.2.2.2.2.2.2.2.2.2.1, v_Mod.2.2.2.2.2.2.2.2.2.2.2.2.2.2.2.2.2.2.2.2.2.2.2.2.2.1, v_Mod.2.2.2.2.2.2.2.2.2.2.2.2.2.2.2.2.2.2.2.2.2.2.2.2.2.2), (0 : Int32)))))) else none) else (some (((0 : Int32), v_Mod.2.1, v_Mod.2.2.1, v_Mod.2.2.2.1, v_Mod.2.2.2.2.1, v_Mod.2.2.2.2.2.1, v_Mod.2.2.2.2.2.2.1, v_Mod.2.2.2.2.2.2.2.1, v_Mod.2.2.2.2.2.2.2.2.1, v_Mod.2.2.2.2.2.2.2.2.2.1, v_Mod.2.2.2.2.2.2.2.2.2.2.1, v_Mod.2.2.2.2.2.2.2.2.2.2.2.1, v_Mod.2.2.2.2.2.2.2.2.2.2.2.2.1, v_Mod.2.2.2.2.2.2.2.2.2.2.2.2.2.1, v_Mod.2.2.2.2.2.2.2.2.2.2.2.2.2.2.1, v_Mod.2.2.2.2.2.2.2.2.2.2.2.2.2.2.2.1, v_Mod.2.2.2.2.2.2.2.2.2.2.2.2.2.2.2.2.1, v_Mod.2.2.2.2.2.2.2.2.2.2.2.2.2.2.2.2.2.1, v_Mod.2.2.2.2.2.2.2.2.2.2.2.2.2.2.2.2.2.2.1, v_Mod.2.2.2.2.2.2.2.2.2.2.2.2.2.2.2.2.2.2.2.1, v_Mod.2.2.2.2.2.2.2.2.2.2.2.2.2.2.2.2.2.2.2.2.1, v_Mod.2.2.2.2.2.2.2.2.2.2.2.2.2.2.2.2.2.2.2.2.2.1, v_Mod.2.2.2.2.2.2.2.2.2.2.2.2.2.2.2.2.2.2.2.2.2.2.1, v_Mod.2.2.2.2.2.2.2.2.2.2.2.2.2.2.2.2.2.2.2.2.2.2.2.1, v_Mod.2.2.2.2.2.2.2.2.2.2.2.2.2.2.2.2.2.2.2.2.2.2.2.2.1, v_Mod.2.2.2.2.2.2.2.2.2.2.2.2.2.2.2.2.2.2.2.2.2.2.2.2.2.1, v_Mod.2.2.2.2.2.2.2.2.2.2.2.2.2.2.2.2.2.2.2.2.2.2.2.2.2.2), (0 : Int32)))))
set_option maxRecDepth 100000 in
set_option maxHeartbeats 4000000 in
theorem c_Mod_literal {l : Launch} {D : va_G} {cI cL cZ : ClassId} (o_Mod a_Mod_0 a_Mod_1 a_Mod_2 a_Mod_3 a_Mod_4 a_Mod_5 a_Mod_6 a_Mod_7 a_Mod_8 a_Mod_9 a_Mod_10 a_Mod_11 a_Mod_12 a_Mod_13 a_Mod_14 : Nat) (v_Mod : T_Mod) (x1 : Int32) (x2 : Int32) (x3 : Int32) (out : T_Mod × Int32) (hm : m_Mod_literal v_Mod x1 x2 x3 = some out) : ct l y_Mod_literal (Cond.code y_Mod_literal b_Mod_literal 6 (some .boolean) :: TB) 1 21 D clss (ty3 cI cL cZ) NM0 NF0 [.ref o_Mod, .int x1, .int x2, .int x3] (w_Mod cI cL cZ o_Mod a_Mod_0 a_Mod_1 a_Mod_2 a_Mod_3 a_Mod_4 a_Mod_5 a_Mod_6 a_Mod_7 a_Mod_8 a_Mod_9 a_Mod_10 a_Mod_11 a_Mod_12 a_Mod_13 a_Mod_14 v_Mod) (qI D clss (ty3 cI cL cZ) (O_Mod_literal cI cL cZ o_Mod a_Mod_0 a_Mod_1 a_Mod_2 a_Mod_3 a_Mod_4 a_Mod_5 a_Mod_6 a_Mod_7 a_Mod_8 a_Mod_9 a_Mod_10 a_Mod_11 a_Mod_12 a_Mod_13 a_Mod_14 out)) 0 0 := by
  refine ct_of (plainFor_of_name (by decide)) (Nat.le_of_ble_eq_true rfl) (fun p e s m args below meth c A X N hr hlk hnm => ?_)
  refine aj_lv (lv' := [(0, .ref o_Mod), (1, .int x1), (2, .int x2), (3, .int x3)]) [0, 1, 2, 3] rfl ?_
  unfold m_Mod_literal at hm
  refine aj_aload_n X d_Mod_literal_0 0 rfl ?_
  refine aj_iconst (v := (0 : Int32)) X d_Mod_literal_1 (by decide) ?_
  refine aj_put (ws' := w_Mod cI cL cZ o_Mod a_Mod_0 a_Mod_1 a_Mod_2 a_Mod_3 a_Mod_4 a_Mod_5 a_Mod_6 a_Mod_7 a_Mod_8 a_Mod_9 a_Mod_10 a_Mod_11 a_Mod_12 a_Mod_13 a_Mod_14 ((0 : Int32), v_Mod.2.1, v_Mod.2.2.1, v_Mod.2.2.2.1, v_Mod.2.2.2.2.1, v_Mod.2.2.2.2.2.1, v_Mod.2.2.2.2.2.2.1, v_Mod.2.2.2.2.2.2.2.1, v_Mod.2.2.2.2.2.2.2.2.1, v_Mod.2.2.2.2.2.2.2.2.2.1, v_Mod.2.2.2.2.2.2.2.2.2.2.1, v_Mod.2.2.2.2.2.2.2.2.2.2.2.1, v_Mod.2.2.2.2.2.2.2.2.2.2.2.2.1, v_Mod.2.2.2.2.2.2.2.2.2.2.2.2.2.1, v_Mod.2.2.2.2.2.2.2.2.2.2.2.2.2.2.1, v_Mod.2.2.2.2.2.2.2.2.2.2.2.2.2.2.2.1, v_Mod.2.2.2.2.2.2.2.2.2.2.2.2.2.2.2.2.1, v_Mod.2.2.2.2.2.2.2.2.2.2.2.2.2.2.2.2.2.1, v_Mod.2.2.2.2.2.2.2.2.2.2.2.2.2.2.2.2.2.2.1, v_Mod.2.2.2.2.2.2.2.2.2.2.2.2.2.2.2.2.2.2.2.1, v_Mod.2.2.2.2.2.2.2.2.2.2.2.2.2.2.2.2.2.2.2.2.1, v_Mod.2.2.2.2.2.2.2.2.2.2.2.2.2.2.2.2.2.2.2.2.2.1, v_Mod.2.2.2.2.2.2.2.2.2.2.2.2.2.2.2.2.2.2.2.2.2.2.1, v_Mod.2.2.2.2.2.2.2.2.2.2.2.2.2.2.2.2.2.2.2.2.2.2.2.1, v_Mod.2.2.2.2.2.2.2.2.2.2.2.2.2.2.2.2.2.2.2.2.2.2.2.2.1, v_Mod.2.2.2.2.2.2.2.2.2.2.2.2.2.2.2.2.2.2.2.2.2.2.2.2.2.1, v_Mod.2.2.2.2.2.2.2.2.2.2.2.2.2.2.2.2.2.2.2.2.2.2.2.2.2.2)) X d_Mod_literal_2 in_Mod ty_Mod tyok_Mod nmx_Mod 0 rfl rfl 0 (by decide) lf_Mod_7 rfl rfl rfl (Nat.le_of_ble_eq_true rfl) rfl ?_
  refine aj_iload_n X d_Mod_literal_5 1 rfl ?_
  refine aj_if_lt X 36 d_Mod_literal_6 (by decide) (fun h => ?_) (fun h => ?_)
  · have hm := ite_t hm h
    refine aj_iconst (v := (0 : Int32)) X d_Mod_literal_36 (by decide) ?_
    have ho := Option.some.inj hm
    subst ho
    exact aj_zret X d_Mod_literal_37 hr hlk (by decide) [0, 1, 2, 3, 4, 5, 6, 7, 8, 9, 10, 11, 12, 13, 14, 15] (w_Mod cI cL cZ o_Mod a_Mod_0 a_Mod_1 a_Mod_2 a_Mod_3 a_Mod_4 a_Mod_5 a_Mod_6 a_Mod_7 a_Mod_8 a_Mod_9 a_Mod_10 a_Mod_11 a_Mod_12 a_Mod_13 a_Mod_14 ((0 : Int32), v_Mod.2.1, v_Mod.2.2.1, v_Mod.2.2.2.1, v_Mod.2.2.2.2.1, v_Mod.2.2.2.2.2.1, v_Mod.2.2.2.2.2.2.1, v_Mod.2.2.2.2.2.2.2.1, v_Mod.2.2.2.2.2.2.2.2.1, v_Mod.2.2.2.2.2.2.2.2.2.1, v_Mod.2.2.2.2.2.2.2.2.2.2.1, v_Mod.2.2.2.2.2.2.2.2.2.2.2.1, v_Mod.2.2.2.2.2.2.2.2.2.2.2.2.1, v_Mod.2.2.2.2.2.2.2.2.2.2.2.2.2.1, v_Mod.2.2.2.2.2.2.2.2.2.2.2.2.2.2.1, v_Mod.2.2.2.2.2.2.2.2.2.2.2.2.2.2.2.1, v_Mod.2.2.2.2.2.2.2.2.2.2.2.2.2.2.2.2.1, v_Mod.2.2.2.2.2.2.2.2.2.2.2.2.2.2.2.2.2.1, v_Mod.2.2.2.2.2.2.2.2.2.2.2.2.2.2.2.2.2.2.1, v_Mod.2.2.2.2.2.2.2.2.2.2.2.2.2.2.2.2.2.2.2.1, v_Mod.2.2.2.2.2.2.2.2.2.2.2.2.2.2.2.2.2.2.2.2.1, v_Mod.2.2.2.2.2.2.2.2.2.2.2.2.2.2.2.2.2.2.2.2.2.1, v_Mod.2.2.2.2.2.2.2.2.2.2.2.2.2.2.2.2.2.2.2.2.2.2.1, v_Mod.2.2.2.2.2.2.2.2.2.2.2.2.2.2.2.2.2.2.2.2.2.2.2.1, v_Mod.2.2.2.2.2.2.2.2.2.2.2.2.2.2.2.2.2.2.2.2.2.2.2.2.1, v_Mod.2.2.2.2.2.2.2.2.2.2.2.2.2.2.2.2.2.2.2.2.2.2.2.2.2.1, v_Mod.2.2.2.2.2.2.2.2.2.2.2.2.2.2.2.2.2.2.2.2.2.2.2.2.2.2)) rfl rfl ⟨rfl, rfl⟩
  · have hm := ite_f hm h
    refine aj_iload_n X d_Mod_literal_9 1 rfl ?_
    refine aj_aload_n X d_Mod_literal_10 0 rfl ?_
    refine aj_get X d_Mod_literal_11 in_Mod 0 rfl rfl 5 (by decide) lf_Mod_27 rfl ?_
    refine aj_iconst (v := (1 : Int32)) X d_Mod_literal_14 (by decide) ?_
    refine aj_isub X d_Mod_literal_15 ?_
    refine aj_icmp_ne X 36 d_Mod_literal_16 (by decide) (fun h => ?_) (fun h => ?_)
    · have hm := ite_f hm h
      refine aj_iconst (v := (0 : Int32)) X d_Mod_literal_36 (by decide) ?_
      have ho := Option.some.inj hm
      subst ho
      exact aj_zret X d_Mod_literal_37 hr hlk (by decide) [0, 1, 2, 3, 4, 5, 6, 7, 8, 9, 10, 11, 12, 13, 14, 15] (w_Mod cI cL cZ o_Mod a_Mod_0 a_Mod_1 a_Mod_2 a_Mod_3 a_Mod_4 a_Mod_5 a_Mod_6 a_Mod_7 a_Mod_8 a_Mod_9 a_Mod_10 a_Mod_11 a_Mod_12 a_Mod_13 a_Mod_14 ((0 : Int32), v_Mod.2.1, v_Mod.2.2.1, v_Mod.2.2.2.1, v_Mod.2.2.2.2.1, v_Mod.2.2.2.2.2.1, v_Mod.2.2.2.2.2.2.1, v_Mod.2.2.2.2.2.2.2.1, v_Mod.2.2.2.2.2.2.2.2.1, v_Mod.2.2.2.2.2.2.2.2.2.1, v_Mod.2.2.2.2.2.2.2.2.2.2.1, v_Mod.2.2.2.2.2.2.2.2.2.2.2.1, v_Mod.2.2.2.2.2.2.2.2.2.2.2.2.1, v_Mod.2.2.2.2.2.2.2.2.2.2.2.2.2.1, v_Mod.2.2.2.2.2.2.2.2.2.2.2.2.2.2.1, v_Mod.2.2.2.2.2.2.2.2.2.2.2.2.2.2.2.1, v_Mod.2.2.2.2.2.2.2.2.2.2.2.2.2.2.2.2.1, v_Mod.2.2.2.2.2.2.2.2.2.2.2.2.2.2.2.2.2.1, v_Mod.2.2.2.2.2.2.2.2.2.2.2.2.2.2.2.2.2.2.1, v_Mod.2.2.2.2.2.2.2.2.2.2.2.2.2.2.2.2.2.2.2.1, v_Mod.2.2.2.2.2.2.2.2.2.2.2.2.2.2.2.2.2.2.2.2.1, v_Mod.2.2.2.2.2.2.2.2.2.2.2.2.2.2.2.2.2.2.2.2.2.1, v_Mod.2.2.2.2.2.2.2.2.2.2.2.2.2.2.2.2.2.2.2.2.2.2.1, v_Mod.2.2.2.2.2.2.2.2.2.2.2.2.2.2.2.2.2.2.2.2.2.2.2.1, v_Mod.2.2.2.2.2.2.2.2.2.2.2.2.2.2.2.2.2.2.2.2.2.2.2.2.1, v_Mod.2.2.2.2.2.2.2.2.2.2.2.2.2.2.2.2.2.2.2.2.2.2.2.2.2.1, v_Mod.2.2.2.2.2.2.2.2.2.2.2.2.2.2.2.2.2.2.2.2.2.2.2.2.2.2)) rfl rfl ⟨rfl, rfl⟩
    · have hm := ite_t hm h
      refine aj_aload_n X d_Mod_literal_19 0 rfl ?_
      refine aj_get X d_Mod_literal_20 in_Mod 0 rfl rfl 4 (by decide) lf_Mod_23 rfl ?_
      refine aj_iload_n X d_Mod_literal_23 1 rfl ?_
      obtain ⟨b13, hm⟩ := chk_of hm
      refine aj_zald X d_Mod_literal_24 3 2 rfl rfl b13 ?_
      refine aj_if_eq X 36 d_Mod_literal_25 (by decide) (fun h => ?_) (fun h => ?_)
      · have hm := ite_t hm h
        refine aj_iconst (v := (0 : Int32)) X d_Mod_literal_36 (by decide) ?_
        have ho := Option.some.inj hm
        subst ho
        exact aj_zret X d_Mod_literal_37 hr hlk (by decide) [0, 1, 2, 3, 4, 5, 6, 7, 8, 9, 10, 11, 12, 13, 14, 15] (w_Mod cI cL cZ o_Mod a_Mod_0 a_Mod_1 a_Mod_2 a_Mod_3 a_Mod_4 a_Mod_5 a_Mod_6 a_Mod_7 a_Mod_8 a_Mod_9 a_Mod_10 a_Mod_11 a_Mod_12 a_Mod_13 a_Mod_14 ((0 : Int32), v_Mod.2.1, v_Mod.2.2.1, v_Mod.2.2.2.1, v_Mod.2.2.2.2.1, v_Mod.2.2.2.2.2.1, v_Mod.2.2.2.2.2.2.1, v_Mod.2.2.2.2.2.2.2.1, v_Mod.2.2.2.2.2.2.2.2.1, v_Mod.2.2.2.2.2.2.2.2.2.1, v_Mod.2.2.2.2.2.2.2.2.2.2.1, v_Mod.2.2.2.2.2.2.2.2.2.2.2.1, v_Mod.2.2.2.2.2.2.2.2.2.2.2.2.1, v_Mod.2.2.2.2.2.2.2.2.2.2.2.2.2.1, v_Mod.2.2.2.2.2.2.2.2.2.2.2.2.2.2.1, v_Mod.2.2.2.2.2.2.2.2.2.2.2.2.2.2.2.1, v_Mod.2.2.2.2.2.2.2.2.2.2.2.2.2.2.2.2.1, v_Mod.2.2.2.2.2.2.2.2.2.2.2.2.2.2.2.2.2.1, v_Mod.2.2.2.2.2.2.2.2.2.2.2.2.2.2.2.2.2.2.1, v_Mod.2.2.2.2.2.2.2.2.2.2.2.2.2.2.2.2.2.2.2.1, v_Mod.2.2.2.2.2.2.2.2.2.2.2.2.2.2.2.2.2.2.2.2.1, v_Mod.2.2.2.2.2.2.2.2.2.2.2.2.2.2.2.2.2.2.2.2.2.1, v_Mod.2.2.2.2.2.2.2.2.2.2.2.2.2.2.2.2.2.2.2.2.2.2.1, v_Mod.2.2.2.2.2.2.2.2.2.2.2.2.2.2.2.2.2.2.2.2.2.2.2.1, v_Mod.2.2.2.2.2.2.2.2.2.2.2.2.2.2.2.2.2.2.2.2.2.2.2.2.1, v_Mod.2.2.2.2.2.2.2.2.2.2.2.2.2.2.2.2.2.2.2.2.2.2.2.2.2.1, v_Mod.2.2.2.2.2.2.2.2.2.2.2.2.2.2.2.2.2.2.2.2.2.2.2.2.2.2)) rfl rfl ⟨rfl, rfl⟩
      · have hm := ite_f hm h
        refine aj_aload_n X d_Mod_literal_28 0 rfl ?_
        refine aj_iload_n X d_Mod_literal_29 2 rfl ?_
        obtain ⟨r14, h15, hm⟩ := bnd_of hm
        refine aj_callI (wr := []) X (aj_rV (As := [.int x2]) (rest := []) X N gTB (c_Mod_noThing (D := D) (cI := cI) (cL := cL) (cZ := cZ) o_Mod a_Mod_0 a_Mod_1 a_Mod_2 a_Mod_3 a_Mod_4 a_Mod_5 a_Mod_6 a_Mod_7 a_Mod_8 a_Mod_9 a_Mod_10 a_Mod_11 a_Mod_12 a_Mod_13 a_Mod_14 ((0 : Int32), v_Mod.2.1, v_Mod.2.2.1, v_Mod.2.2.2.1, v_Mod.2.2.2.2.1, v_Mod.2.2.2.2.2.1, v_Mod.2.2.2.2.2.2.1, v_Mod.2.2.2.2.2.2.2.1, v_Mod.2.2.2.2.2.2.2.2.1, v_Mod.2.2.2.2.2.2.2.2.2.1, v_Mod.2.2.2.2.2.2.2.2.2.2.1, v_Mod.2.2.2.2.2.2.2.2.2.2.2.1, v_Mod.2.2.2.2.2.2.2.2.2.2.2.2.1, v_Mod.2.2.2.2.2.2.2.2.2.2.2.2.2.1, v_Mod.2.2.2.2.2.2.2.2.2.2.2.2.2.2.1, v_Mod.2.2.2.2.2.2.2.2.2.2.2.2.2.2.2.1, v_Mod.2.2.2.2.2.2.2.2.2.2.2.2.2.2.2.2.1, v_Mod.2.2.2.2.2.2.2.2.2.2.2.2.2.2.2.2.2.1, v_Mod.2.2.2.2.2.2.2.2.2.2.2.2.2.2.2.2.2.2.1, v_Mod.2.2.2.2.2.2.2.2.2.2.2.2.2.2.2.2.2.2.2.1, v_Mod.2.2.2.2.2.2.2.2.2.2.2.2.2.2.2.2.2.2.2.2.1, v_Mod.2.2.2.2.2.2.2.2.2.2.2.2.2.2.2.2.2.2.2.2.2.1, v_Mod.2.2.2.2.2.2.2.2.2.2.2.2.2.2.2.2.2.2.2.2.2.2.1, v_Mod.2.2.2.2.2.2.2.2.2.2.2.2.2.2.2.2.2.2.2.2.2.2.2.1, v_Mod.2.2.2.2.2.2.2.2.2.2.2.2.2.2.2.2.2.2.2.2.2.2.2.2.1, v_Mod.2.2.2.2.2.2.2.2.2.2.2.2.2.2.2.2.2.2.2.2.2.2.2.2.2.1, v_Mod.2.2.2.2.2.2.2.2.2.2.2.2.2.2.2.2.2.2.2.2.2.2.2.2.2.2) x2 r14 h15) d_Mod_literal_30 lk_Mod_noThing lw_Mod_148 lh_Mod_noThing ⟨(Nat.le_of_ble_eq_true rfl), (Nat.le_of_ble_eq_true rfl)⟩ [0, 1, 2, 3, 4, 5, 6, 7, 8, 9, 10, 11, 12, 13, 14, 15] rfl rfl 0 rfl rfl rfl rfl (Nat.le_of_ble_eq_true rfl) ⟨Nat.le_refl _, Nat.le_refl _⟩) [0, 1, 2, 3, 4, 5, 6, 7, 8, 9, 10, 11, 12, 13, 14, 15] [] rfl rfl rfl (by decide) (fun rr w1 hO => ?_)
        obtain ⟨rfl, rfl⟩ := hO
        refine aj_perm (ws' := w_Mod cI cL cZ o_Mod a_Mod_0 a_Mod_1 a_Mod_2 a_Mod_3 a_Mod_4 a_Mod_5 a_Mod_6 a_Mod_7 a_Mod_8 a_Mod_9 a_Mod_10 a_Mod_11 a_Mod_12 a_Mod_13 a_Mod_14 ((0 : Int32), v_Mod.2.1, v_Mod.2.2.1, v_Mod.2.2.2.1, v_Mod.2.2.2.2.1, v_Mod.2.2.2.2.2.1, v_Mod.2.2.2.2.2.2.1, v_Mod.2.2.2.2.2.2.2.1, v_Mod.2.2.2.2.2.2.2.2.1, v_Mod.2.2.2.2.2.2.2.2.2.1, v_Mod.2.2.2.2.2.2.2.2.2.2.1, v_Mod.2.2.2.2.2.2.2.2.2.2.2.1, v_Mod.2.2.2.2.2.2.2.2.2.2.2.2.1, v_Mod.2.2.2.2.2.2.2.2.2.2.2.2.2.1, v_Mod.2.2.2.2.2.2.2.2.2.2.2.2.2.2.1, v_Mod.2.2.2.2.2.2.2.2.2.2.2.2.2.2.2.1, v_Mod.2.2.2.2.2.2.2.2.2.2.2.2.2.2.2.2.1, v_Mod.2.2.2.2.2.2.2.2.2.2.2.2.2.2.2.2.2.1, v_Mod.2.2.2.2.2.2.2.2.2.2.2.2.2.2.2.2.2.2.1, v_Mod.2.2.2.2.2.2.2.2.2.2.2.2.2.2.2.2.2.2.2.1, v_Mod.2.2.2.2.2.2.2.2.2.2.2.2.2.2.2.2.2.2.2.2.1, v_Mod.2.2.2.2.2.2.2.2.2.2.2.2.2.2.2.2.2.2.2.2.2.1, v_Mod.2.2.2.2.2.2.2.2.2.2.2.2.2.2.2.2.2.2.2.2.2.2.1, v_Mod.2.2.2.2.2.2.2.2.2.2.2.2.2.2.2.2.2.2.2.2.2.2.2.1, v_Mod.2.2.2.2.2.2.2.2.2.2.2.2.2.2.2.2.2.2.2.2.2.2.2.2.1, v_Mod.2.2.2.2.2.2.2.2.2.2.2.2.2.2.2.2.2.2.2.2.2.2.2.2.2.1, v_Mod.2.2.2.2.2.2.2.2.2.2.2.2.2.2.2.2.2.2.2.2.2.2.2.2.2.2)) [0, 1, 2, 3, 4, 5, 6, 7, 8, 9, 10, 11, 12, 13, 14, 15] rfl rfl ?_
        refine aj_if_eq X 38 d_Mod_literal_33 (by decide) (fun h => ?_) (fun h => ?_)
        · have hm := ite_t hm h
          refine aj_iconst (v := (2 : Int32)) X d_Mod_literal_38 (by decide) ?_
          refine aj_iload_n X d_Mod_literal_39 2 rfl ?_
          refine aj_imul X d_Mod_literal_40 ?_
          refine aj_iload_n X d_Mod_literal_41 3 rfl ?_
          refine aj_if_eq X 49 d_Mod_literal_42 (by decide) (fun h => ?_) (fun h => ?_)
          · have hm := ite_t hm h
            refine aj_iconst (v := (0 : Int32)) X d_Mod_literal_49 (by decide) ?_
            refine aj_lv (lv' := [(0, .ref o_Mod), (1, .int x1)]) [0, 1] rfl ?_
            exact c_Mod_literal_B50 o_Mod a_Mod_0 a_Mod_1 a_Mod_2 a_Mod_3 a_Mod_4 a_Mod_5 a_Mod_6 a_Mod_7 a_Mod_8 a_Mod_9 a_Mod_10 a_Mod_11 a_Mod_12 a_Mod_13 a_Mod_14 out X N hr hlk ((0 : Int32), v_Mod.2.1, v_Mod.2.2.1, v_Mod.2.2.2.1, v_Mod.2.2.2.2.1, v_Mod.2.2.2.2.2.1, v_Mod.2.2.2.2.2.2.1, v_Mod.2.2.2.2.2.2.2.1, v_Mod.2.2.2.2.2.2.2.2.1, v_Mod.2.2.2.2.2.2.2.2.2.1, v_Mod.2.2.2.2.2.2.2.2.2.2.1, v_Mod.2.2.2.2.2.2.2.2.2.2.2.1, v_Mod.2.2.2.2.2.2.2.2.2.2.2.2.1, v_Mod.2.2.2.2.2.2.2.2.2.2.2.2.2.1, v_Mod.2.2.2.2.2.2.2.2.2.2.2.2.2.2.1, v_Mod.2.2.2.2.2.2.2.2.2.2.2.2.2.2.2.1, v_Mod.2.2.2.2.2.2.2.2.2.2.2.2.2.2.2.2.1, v_Mod.2.2.2.2.2.2.2.2.2.2.2.2.2.2.2.2.2.1, v_Mod.2.2.2.2.2.2.2.2.2.2.2.2.2.2.2.2.2.2.1, v_Mod.2.2.2.2.2.2.2.2.2.2.2.2.2.2.2.2.2.2.2.1, v_Mod.2.2.2.2.2.2.2.2.2.2.2.2.2.2.2.2.2.2.2.2.1, v_Mod.2.2.2.2.2.2.2.2.2.2.2.2.2.2.2.2.2.2.2.2.2.1, v_Mod.2.2.2.2.2.2.2.2.2.2.2.2.2.2.2.2.2.2.2.2.2.2.1, v_Mod.2.2.2.2.2.2.2.2.2.2.2.2.2.2.2.2.2.2.2.2.2.2.2.1, v_Mod.2.2.2.2.2.2.2.2.2.2.2.2.2.2.2.2.2.2.2.2.2.2.2.2.1, v_Mod.2.2.2.2.2.2.2.2.2.2.2.2.2.2.2.2.2.2.2.2.2.2.2.2.2.1, v_Mod.2.2.2.2.2.2.2.2.2.2.2.2.2.2.2.2.2.2.2.2.2.2.2.2.2.2) x1 (0 : Int32) ((2 : Int32) * x2) hm
          · have hm := ite_f hm h
            refine aj_iconst (v := (1 : Int32)) X d_Mod_literal_45 (by decide) ?_
            refine aj_goto X 50 d_Mod_literal_46 (by decide) ?_
            refine aj_lv (lv' := [(0, .ref o_Mod), (1, .int x1)]) [0, 1] rfl ?_
            exact c_Mod_literal_B50 o_Mod a_Mod_0 a_Mod_1 a_Mod_2 a_Mod_3 a_Mod_4 a_Mod_5 a_Mod_6 a_Mod_7 a_Mod_8 a_Mod_9 a_Mod_10 a_Mod_11 a_Mod_12 a_Mod_13 a_Mod_14 out X N hr hlk ((0 : Int32), v_Mod.2.1, v_Mod.2.2.1, v_Mod.2.2.2.1, v_Mod.2.2.2.2.1, v_Mod.2.2.2.2.2.1, v_Mod.2.2.2.2.2.2.1, v_Mod.2.2.2.2.2.2.2.1, v_Mod.2.2.2.2.2.2.2.2.1, v_Mod.2.2.2.2.2.2.2.2.2.1, v_Mod.2.2.2.2.2.2.2.2.2.2.1, v_Mod.2.2.2.2.2.2.2.2.2.2.2.1, v_Mod.2.2.2.2.2.2.2.2.2.2.2.2.1, v_Mod.2.2.2.2.2.2.2.2.2.2.2.2.2.1, v_Mod.2.2.2.2.2.2.2.2.2.2.2.2.2.2.1, v_Mod.2.2.2.2.2.2.2.2.2.2.2.2.2.2.2.1, v_Mod.2.2.2.2.2.2.2.2.2.2.2.2.2.2.2.2.1, v_Mod.2.2.2.2.2.2.2.2.2.2.2.2.2.2.2.2.2.1, v_Mod.2.2.2.2.2.2.2.2.2.2.2.2.2.2.2.2.2.2.1, v_Mod.2.2.2.2.2.2.2.2.2.2.2.2.2.2.2.2.2.2.2.1, v_Mod.2.2.2.2.2.2.2.2.2.2.2.2.2.2.2.2.2.2.2.2.1, v_Mod.2.2.2.2.2.2.2.2.2.2.2.2.2.2.2.2.2.2.2.2.2.1, v_Mod.2.2.2.2.2.2.2.2.2.2.2.2.2.2.2.2.2.2.2.2.2.2.1, v_Mod.2.2.2.2.2.2.2.2.2.2.2.2.2.2.2.2.2.2.2.2.2.2.2.1, v_Mod.2.2.2.2.2.2.2.2.2.2.2.2.2.2.2.2.2.2.2.2.2.2.2.2.1, v_Mod.2.2.2.2.2.2.2.2.2.2.2.2.2.2.2.2.2.2.2.2.2.2.2.2.2.1, v_Mod.2.2.2.2.2.2.2.2.2.2.2.2.2.2.2.2.2.2.2.2.2.2.2.2.2.2) x1 (1 : Int32) ((2 : Int32) * x2) hm
        · have hm := ite_f hm h
          refine aj_iconst (v := (0 : Int32)) X d_Mod_literal_36 (by decide) ?_
          have ho := Option.some.inj hm
          subst ho
          exact aj_zret X d_Mod_literal_37 hr hlk (by decide) [0, 1, 2, 3, 4, 5, 6, 7, 8, 9, 10, 11, 12, 13, 14, 15] (w_Mod cI cL cZ o_Mod a_Mod_0 a_Mod_1 a_Mod_2 a_Mod_3 a_Mod_4 a_Mod_5 a_Mod_6 a_Mod_7 a_Mod_8 a_Mod_9 a_Mod_10 a_Mod_11 a_Mod_12 a_Mod_13 a_Mod_14 ((0 : Int32), v_Mod.2.1, v_Mod.2.2.1, v_Mod.2.2.2.1, v_Mod.2.2.2.2.1, v_Mod.2.2.2.2.2.1, v_Mod.2.2.2.2.2.2.1, v_Mod.2.2.2.2.2.2.2.1, v_Mod.2.2.2.2.2.2.2.2.1, v_Mod.2.2.2.2.2.2.2.2.2.1, v_Mod.2.2.2.2.2.2.2.2.2.2.1, v_Mod.2.2.2.2.2.2.2.2.2.2.2.1, v_Mod.2.2.2.2.2.2.2.2.2.2.2.2.1, v_Mod.2.2.2.2.2.2.2.2.2.2.2.2.2.1, v_Mod.2.2.2.2.2.2.2.2.2.2.2.2.2.2.1, v_Mod.2.2.2.2.2.2.2.2.2.2.2.2.2.2.2.1, v_Mod.2.2.2.2.2.2.2.2.2.2.2.2.2.2.2.2.1, v_Mod.2.2.2.2.2.2.2.2.2.2.2.2.2.2.2.2.2.1, v_Mod.2.2.2.2.2.2.2.2.2.2.2.2.2.2.2.2.2.2.1, v_Mod.2.2.2.2.2.2.2.2.2.2.2.2.2.2.2.2.2.2.2.1, v_Mod.2.2.2.2.2.2.2.2.2.2.2.2.2.2.2.2.2.2.2.2.1, v_Mod.2.2.2.2.2.2.2.2.2.2.2.2.2.2.2.2.2.2.2.2.2.1, v_Mod.2.2.2.2.2.2.2.2.2.2.2.2.2.2.2.2.2.2.2.2.2.2.1, v_Mod.2.2.2.2.2.2.2.2.2.2.2.2.2.2.2.2.2.2.2.2.2.2.2.1, v_Mod.2.2.2.2.2.2.2.2.2.2.2.2.2.2.2.2.2.2.2.2.2.2.2.2.1, v_Mod.2.2.2.2.2.2.2.2.2.2.2.2.2.2.2.2.2.2.2.2.2.2.2.2.2.1, v_Mod.2.2.2.2.2.2.2.2.2.2.2.2.2.2.2.2.2.2.2.2.2.2.2.2.2.2)) rfl rfl ⟨rfl, rfl⟩
