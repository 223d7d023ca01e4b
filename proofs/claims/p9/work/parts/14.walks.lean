abbrev X_Tra_put (p : Program) (s : State) (m : MethodId) (args : Array Value) (c : Code) (D : va_G) (cI cL cZ : ClassId) (A : Nat → Prop) : Prop := aj_C p s m args c D clss (ty3 cI cL cZ) A b_Tra_put 4 R_Tra TB
abbrev J_Tra_put (p : Program) (l : Launch) (e : Env) (s : State) (m : MethodId) (args : Array Value) (below : List Frame) (meth : Method) (c : Code) (D : va_G) (cI cL cZ : ClassId) (A : Nat → Prop) (O : va_W → Prop) (mc ms : Nat) (ws : va_W) (kc ks pc : Nat) (lv : List (Nat × Value)) (st : List Value) : Prop := aj p l e { frames := 2, cells := mc, slots := ms, locals := 50 } s m args below meth c (MQ below (qV D clss (ty3 cI cL cZ) O A) args s mc ms A) D clss A 4 ws kc ks pc lv st
def O_Tra_put (cI cL cZ : ClassId) (o_Sto o_Tal o_Tra a_Sto_0 a_Sto_1 a_Sto_2 a_Sto_3 a_Sto_4 a_Tal_0 a_Tal_1 a_Tal_2 a_Tal_3 a_Tra_0 a_Tra_1 a_Tra_2 a_Tra_3 : Nat) (v_Sto : T_Sto) (out : T_Tal × T_Tra) : va_W → Prop := fun w1 => w1 = w_Sto cI cL cZ o_Sto a_Sto_0 a_Sto_1 a_Sto_2 a_Sto_3 a_Sto_4 v_Sto ++ w_Tal cI cL cZ o_Tal o_Sto a_Tal_0 a_Tal_1 a_Tal_2 a_Tal_3 out.1 ++ w_Tra cI cL cZ o_Tra o_Tal a_Tra_0 a_Tra_1 a_Tra_2 a_Tra_3 out.2
def m_Tra_put (v_Sto : T_Sto) (v_Tal : T_Tal) (v_Tra : T_Tra) (x1 : Int32) (x2 : Int32) : Option (T_Tal × T_Tra) := (if (x1 >>> ((1 : Int32) &&& 31)) < 0 then (some (v_Tal, v_Tra)) else (if (Int32.ofNat v_Tra.2.2.2.1.1) ≤ (x1 >>> ((1 : Int32) &&& 31)) then (some (v_Tal, v_Tra)) else (if v_Tra.1 < (Int32.ofNat v_Tra.2.2.1.1) then (if ¬ (v_Tra.1 < 0 ∨ v_Tra.2.2.1.1 ≤ (v_Tra.1).toNatClampNeg) then (if ¬ ((x1 >>> ((1 : Int32) &&& 31)) < 0 ∨ v_Tra.2.2.2.1.1 ≤ ((x1 >>> ((1 : Int32) &&& 31))).toNatClampNeg) then (if ¬ ((x1 >>> ((1 : Int32) &&& 31)) < 0 ∨ v_Tra.2.2.2.2.1.1 ≤ ((x1 >>> ((1 : Int32) &&& 31))).toNatClampNeg) then (if ¬ ((x1 >>> ((1 : Int32) &&& 31)) < 0 ∨ v_Tra.2.2.2.2.2.1 ≤ ((x1 >>> ((1 : Int32) &&& 31))).toNatClampNeg) then ((m_Tal_move v_Sto v_Tal x1 (1 : Int32)).bind fun r7 => (some (r7, ((v_Tra.1 + (1 : Int32)), v_Tra.2.1, (v_Tra.2.2.1.1, (upd v_Tra.2.2.1.2 (v_Tra.1).toNatClampNeg x1)), (v_Tra.2.2.2.1.1, (upd v_Tra.2.2.2.1.2 ((x1 >>> ((1 : Int32) &&& 31))).toNatClampNeg x1)), (v_Tra.2.2.2.2.1.1, (upd v_Tra.2.2.2.2.1.2 ((x1 >>> ((1 : Int32) &&& 31))).toNatClampNeg v_Tra.2.1)), (v_Tra.2.2.2.2.2.1, (upd v_Tra.2.2.2.2.2.2 ((x1 >>> ((1 : Int32) &&& 31))).toNatClampNeg x2)))))) else none) else none) else none) else none) else (some (v_Tal, v_Tra)))))
set_option maxRecDepth 100000 in
set_option maxHeartbeats 4000000 in
theorem c_Tra_put {l : Launch} {D : va_G} {cI cL cZ : ClassId} (o_Sto o_Tal o_Tra a_Sto_0 a_Sto_1 a_Sto_2 a_Sto_3 a_Sto_4 a_Tal_0 a_Tal_1 a_Tal_2 a_Tal_3 a_Tra_0 a_Tra_1 a_Tra_2 a_Tra_3 : Nat) (v_Sto : T_Sto) (v_Tal : T_Tal) (v_Tra : T_Tra) (x1 : Int32) (x2 : Int32) (out : T_Tal × T_Tra) (hm : m_Tra_put v_Sto v_Tal v_Tra x1 x2 = some out) : ct l y_Tra_put (Cond.code y_Tra_put b_Tra_put 4 none :: TB) 2 50 D clss (ty3 cI cL cZ) NM0 NF0 [.ref o_Tra, .int x1, .int x2] (w_Sto cI cL cZ o_Sto a_Sto_0 a_Sto_1 a_Sto_2 a_Sto_3 a_Sto_4 v_Sto ++ w_Tal cI cL cZ o_Tal o_Sto a_Tal_0 a_Tal_1 a_Tal_2 a_Tal_3 v_Tal ++ w_Tra cI cL cZ o_Tra o_Tal a_Tra_0 a_Tra_1 a_Tra_2 a_Tra_3 v_Tra) (qV D clss (ty3 cI cL cZ) (O_Tra_put cI cL cZ o_Sto o_Tal o_Tra a_Sto_0 a_Sto_1 a_Sto_2 a_Sto_3 a_Sto_4 a_Tal_0 a_Tal_1 a_Tal_2 a_Tal_3 a_Tra_0 a_Tra_1 a_Tra_2 a_Tra_3 v_Sto out)) 0 0 := by
  refine ct_of (plainFor_of_name (by decide)) (Nat.le_of_ble_eq_true rfl) (fun p e s m args below meth c A X N hr hlk hnm => ?_)
  refine aj_lv (lv' := [(0, .ref o_Tra), (1, .int x1), (2, .int x2)]) [0, 1, 2] rfl ?_
  unfold m_Tra_put at hm
  refine aj_iload_n X d_Tra_put_0 1 rfl ?_
  refine aj_iconst (v := (1 : Int32)) X d_Tra_put_1 (by decide) ?_
  refine aj_ishr X d_Tra_put_2 ?_
  refine aj_istore_n (lv' := [(3, .int (x1 >>> ((1 : Int32) &&& 31))), (0, .ref o_Tra), (1, .int x1), (2, .int x2)]) X d_Tra_put_3 rfl (by decide) rfl ?_
  refine aj_iload_n X d_Tra_put_4 0 rfl ?_
  refine aj_if_lt X 29 d_Tra_put_5 (by decide) (fun h => ?_) (fun h => ?_)
  · have hm := ite_t hm h
    have ho := Option.some.inj hm
    subst ho
    exact aj_vret X d_Tra_put_29 hr hlk [0, 1, 2, 3, 4, 5, 6, 7, 8, 9, 10, 11, 12, 13, 14, 15] (w_Sto cI cL cZ o_Sto a_Sto_0 a_Sto_1 a_Sto_2 a_Sto_3 a_Sto_4 v_Sto ++ w_Tal cI cL cZ o_Tal o_Sto a_Tal_0 a_Tal_1 a_Tal_2 a_Tal_3 v_Tal ++ w_Tra cI cL cZ o_Tra o_Tal a_Tra_0 a_Tra_1 a_Tra_2 a_Tra_3 v_Tra) rfl rfl rfl
  · have hm := ite_f hm h
    refine aj_iload_n X d_Tra_put_8 0 rfl ?_
    refine aj_aload_n X d_Tra_put_9 1 rfl ?_
    refine aj_get X d_Tra_put_10 in_Tra 11 rfl rfl 4 (by decide) lf_Tra_26 rfl ?_
    refine aj_alen X d_Tra_put_13 13 0 rfl rfl ?_
    refine aj_icmp_ge X 29 d_Tra_put_14 (by decide) (fun h => ?_) (fun h => ?_)
    · have hm := ite_t hm h
      have ho := Option.some.inj hm
      subst ho
      exact aj_vret X d_Tra_put_29 hr hlk [0, 1, 2, 3, 4, 5, 6, 7, 8, 9, 10, 11, 12, 13, 14, 15] (w_Sto cI cL cZ o_Sto a_Sto_0 a_Sto_1 a_Sto_2 a_Sto_3 a_Sto_4 v_Sto ++ w_Tal cI cL cZ o_Tal o_Sto a_Tal_0 a_Tal_1 a_Tal_2 a_Tal_3 v_Tal ++ w_Tra cI cL cZ o_Tra o_Tal a_Tra_0 a_Tra_1 a_Tra_2 a_Tra_3 v_Tra) rfl rfl rfl
    · have hm := ite_f hm h
      refine aj_aload_n X d_Tra_put_17 1 rfl ?_
      refine aj_get X d_Tra_put_18 in_Tra 11 rfl rfl 0 (by decide) lf_Tra_15 rfl ?_
      refine aj_aload_n X d_Tra_put_21 1 rfl ?_
      refine aj_get X d_Tra_put_22 in_Tra 11 rfl rfl 2 (by decide) lf_Tra_22 rfl ?_
      refine aj_alen X d_Tra_put_25 12 0 rfl rfl ?_
      refine aj_icmp_lt X 30 d_Tra_put_26 (by decide) (fun h => ?_) (fun h => ?_)
      · have hm := ite_t hm h
        refine aj_aload_n X d_Tra_put_30 1 rfl ?_
        refine aj_get X d_Tra_put_31 in_Tra 11 rfl rfl 2 (by decide) lf_Tra_22 rfl ?_
        refine aj_aload_n X d_Tra_put_34 1 rfl ?_
        refine aj_get X d_Tra_put_35 in_Tra 11 rfl rfl 0 (by decide) lf_Tra_15 rfl ?_
        refine aj_iload_n X d_Tra_put_38 2 rfl ?_
        obtain ⟨b3, hm⟩ := chk_of hm
        refine aj_iast (ws' := w_Sto cI cL cZ o_Sto a_Sto_0 a_Sto_1 a_Sto_2 a_Sto_3 a_Sto_4 v_Sto ++ w_Tal cI cL cZ o_Tal o_Sto a_Tal_0 a_Tal_1 a_Tal_2 a_Tal_3 v_Tal ++ w_Tra cI cL cZ o_Tra o_Tal a_Tra_0 a_Tra_1 a_Tra_2 a_Tra_3 (v_Tra.1, v_Tra.2.1, (v_Tra.2.2.1.1, (upd v_Tra.2.2.1.2 (v_Tra.1).toNatClampNeg x1)), v_Tra.2.2.2.1, v_Tra.2.2.2.2.1, v_Tra.2.2.2.2.2)) X d_Tra_put_39 12 0 rfl rfl b3 rfl ?_
        refine aj_aload_n X d_Tra_put_40 1 rfl ?_
        refine aj_dup X d_Tra_put_41 rfl ?_
        refine aj_get X d_Tra_put_42 in_Tra 11 rfl rfl 0 (by decide) lf_Tra_15 rfl ?_
        refine aj_iconst (v := (1 : Int32)) X d_Tra_put_45 (by decide) ?_
        refine aj_iadd X d_Tra_put_46 ?_
        refine aj_put (ws' := w_Sto cI cL cZ o_Sto a_Sto_0 a_Sto_1 a_Sto_2 a_Sto_3 a_Sto_4 v_Sto ++ w_Tal cI cL cZ o_Tal o_Sto a_Tal_0 a_Tal_1 a_Tal_2 a_Tal_3 v_Tal ++ w_Tra cI cL cZ o_Tra o_Tal a_Tra_0 a_Tra_1 a_Tra_2 a_Tra_3 ((v_Tra.1 + (1 : Int32)), v_Tra.2.1, (v_Tra.2.2.1.1, (upd v_Tra.2.2.1.2 (v_Tra.1).toNatClampNeg x1)), v_Tra.2.2.2.1, v_Tra.2.2.2.2.1, v_Tra.2.2.2.2.2)) X d_Tra_put_47 in_Tra ty_Tra tyok_Tra nmx_Tra 11 rfl rfl 0 (by decide) lf_Tra_15 rfl rfl rfl (Nat.le_of_ble_eq_true rfl) rfl ?_
        refine aj_aload_n X d_Tra_put_50 1 rfl ?_
        refine aj_get X d_Tra_put_51 in_Tra 11 rfl rfl 4 (by decide) lf_Tra_26 rfl ?_
        refine aj_iload_n X d_Tra_put_54 0 rfl ?_
        refine aj_iload_n X d_Tra_put_55 2 rfl ?_
        obtain ⟨b4, hm⟩ := chk_of hm
        refine aj_iast (ws' := w_Sto cI cL cZ o_Sto a_Sto_0 a_Sto_1 a_Sto_2 a_Sto_3 a_Sto_4 v_Sto ++ w_Tal cI cL cZ o_Tal o_Sto a_Tal_0 a_Tal_1 a_Tal_2 a_Tal_3 v_Tal ++ w_Tra cI cL cZ o_Tra o_Tal a_Tra_0 a_Tra_1 a_Tra_2 a_Tra_3 ((v_Tra.1 + (1 : Int32)), v_Tra.2.1, (v_Tra.2.2.1.1, (upd v_Tra.2.2.1.2 (v_Tra.1).toNatClampNeg x1)), (v_Tra.2.2.2.1.1, (upd v_Tra.2.2.2.1.2 ((x1 >>> ((1 : Int32) &&& 31))).toNatClampNeg x1)), v_Tra.2.2.2.2.1, v_Tra.2.2.2.2.2)) X d_Tra_put_56 13 0 rfl rfl b4 rfl ?_
        refine aj_aload_n X d_Tra_put_57 1 rfl ?_
        refine aj_get X d_Tra_put_58 in_Tra 11 rfl rfl 5 (by decide) lf_Tra_29 rfl ?_
        refine aj_iload_n X d_Tra_put_61 0 rfl ?_
        refine aj_aload_n X d_Tra_put_62 1 rfl ?_
        refine aj_get X d_Tra_put_63 in_Tra 11 rfl rfl 1 (by decide) lf_Tra_19 rfl ?_
        obtain ⟨b5, hm⟩ := chk_of hm
        refine aj_iast (ws' := w_Sto cI cL cZ o_Sto a_Sto_0 a_Sto_1 a_Sto_2 a_Sto_3 a_Sto_4 v_Sto ++ w_Tal cI cL cZ o_Tal o_Sto a_Tal_0 a_Tal_1 a_Tal_2 a_Tal_3 v_Tal ++ w_Tra cI cL cZ o_Tra o_Tal a_Tra_0 a_Tra_1 a_Tra_2 a_Tra_3 ((v_Tra.1 + (1 : Int32)), v_Tra.2.1, (v_Tra.2.2.1.1, (upd v_Tra.2.2.1.2 (v_Tra.1).toNatClampNeg x1)), (v_Tra.2.2.2.1.1, (upd v_Tra.2.2.2.1.2 ((x1 >>> ((1 : Int32) &&& 31))).toNatClampNeg x1)), (v_Tra.2.2.2.2.1.1, (upd v_Tra.2.2.2.2.1.2 ((x1 >>> ((1 : Int32) &&& 31))).toNatClampNeg v_Tra.2.1)), v_Tra.2.2.2.2.2)) X d_Tra_put_66 14 0 rfl rfl b5 rfl ?_
        refine aj_aload_n X d_Tra_put_67 1 rfl ?_
        refine aj_get X d_Tra_put_68 in_Tra 11 rfl rfl 6 (by decide) lf_Tra_32 rfl ?_
        refine aj_iload_n X d_Tra_put_71 0 rfl ?_
        refine aj_iload_n X d_Tra_put_72 3 rfl ?_
        obtain ⟨b6, hm⟩ := chk_of hm
        refine aj_iast (ws' := w_Sto cI cL cZ o_Sto a_Sto_0 a_Sto_1 a_Sto_2 a_Sto_3 a_Sto_4 v_Sto ++ w_Tal cI cL cZ o_Tal o_Sto a_Tal_0 a_Tal_1 a_Tal_2 a_Tal_3 v_Tal ++ w_Tra cI cL cZ o_Tra o_Tal a_Tra_0 a_Tra_1 a_Tra_2 a_Tra_3 ((v_Tra.1 + (1 : Int32)), v_Tra.2.1, (v_Tra.2.2.1.1, (upd v_Tra.2.2.1.2 (v_Tra.1).toNatClampNeg x1)), (v_Tra.2.2.2.1.1, (upd v_Tra.2.2.2.1.2 ((x1 >>> ((1 : Int32) &&& 31))).toNatClampNeg x1)), (v_Tra.2.2.2.2.1.1, (upd v_Tra.2.2.2.2.1.2 ((x1 >>> ((1 : Int32) &&& 31))).toNatClampNeg v_Tra.2.1)), (v_Tra.2.2.2.2.2.1, (upd v_Tra.2.2.2.2.2.2 ((x1 >>> ((1 : Int32) &&& 31))).toNatClampNeg x2)))) X d_Tra_put_73 15 0 rfl rfl b6 rfl ?_
        refine aj_aload_n X d_Tra_put_74 1 rfl ?_
        refine aj_get X d_Tra_put_75 in_Tra 11 rfl rfl 3 (by decide) lf_Tra_9 rfl ?_
        refine aj_iload_n X d_Tra_put_78 2 rfl ?_
        refine aj_iconst (v := (1 : Int32)) X d_Tra_put_79 (by decide) ?_
        obtain ⟨r7, h8, hm⟩ := bnd_of hm
        refine aj_callV (wr := [(o_Tra, .inr (5, [.int (v_Tra.1 + (1 : Int32)), .int v_Tra.2.1, .ref a_Tra_0, .ref o_Tal, .ref a_Tra_1, .ref a_Tra_2, .ref a_Tra_3])), (a_Tra_0, .inl (cI, v_Tra.2.2.1.1, .inl (upd v_Tra.2.2.1.2 (v_Tra.1).toNatClampNeg x1))), (a_Tra_1, .inl (cI, v_Tra.2.2.2.1.1, .inl (upd v_Tra.2.2.2.1.2 ((x1 >>> ((1 : Int32) &&& 31))).toNatClampNeg x1))), (a_Tra_2, .inl (cI, v_Tra.2.2.2.2.1.1, .inl (upd v_Tra.2.2.2.2.1.2 ((x1 >>> ((1 : Int32) &&& 31))).toNatClampNeg v_Tra.2.1))), (a_Tra_3, .inl (cI, v_Tra.2.2.2.2.2.1, .inl (upd v_Tra.2.2.2.2.2.2 ((x1 >>> ((1 : Int32) &&& 31))).toNatClampNeg x2)))]) X (aj_rV (As := [.int x1, .int (1 : Int32)]) (rest := []) X N gTB (c_Tal_move (D := D) (cI := cI) (cL := cL) (cZ := cZ) o_Sto o_Tal a_Sto_0 a_Sto_1 a_Sto_2 a_Sto_3 a_Sto_4 a_Tal_0 a_Tal_1 a_Tal_2 a_Tal_3 v_Sto v_Tal x1 (1 : Int32) r7 h8) d_Tra_put_80 lk_Tal_move lw_Tra_46 lh_Tal_move ⟨(Nat.le_of_ble_eq_true rfl), (Nat.le_of_ble_eq_true rfl)⟩ [0, 1, 2, 3, 4, 5, 6, 7, 8, 9, 10] rfl rfl 6 rfl rfl rfl rfl (Nat.le_of_ble_eq_true rfl) ⟨Nat.le_refl _, Nat.le_refl _⟩) [0, 1, 2, 3, 4, 5, 6, 7, 8, 9, 10] [11, 12, 13, 14, 15] rfl rfl rfl (by decide) (fun w1 hO => ?_)
        obtain rfl := hO
        refine aj_perm (ws' := w_Sto cI cL cZ o_Sto a_Sto_0 a_Sto_1 a_Sto_2 a_Sto_3 a_Sto_4 v_Sto ++ w_Tal cI cL cZ o_Tal o_Sto a_Tal_0 a_Tal_1 a_Tal_2 a_Tal_3 r7 ++ w_Tra cI cL cZ o_Tra o_Tal a_Tra_0 a_Tra_1 a_Tra_2 a_Tra_3 ((v_Tra.1 + (1 : Int32)), v_Tra.2.1, (v_Tra.2.2.1.1, (upd v_Tra.2.2.1.2 (v_Tra.1).toNatClampNeg x1)), (v_Tra.2.2.2.1.1, (upd v_Tra.2.2.2.1.2 ((x1 >>> ((1 : Int32) &&& 31))).toNatClampNeg x1)), (v_Tra.2.2.2.2.1.1, (upd v_Tra.2.2.2.2.1.2 ((x1 >>> ((1 : Int32) &&& 31))).toNatClampNeg v_Tra.2.1)), (v_Tra.2.2.2.2.2.1, (upd v_Tra.2.2.2.2.2.2 ((x1 >>> ((1 : Int32) &&& 31))).toNatClampNeg x2)))) [5, 6, 7, 8, 9, 10, 11, 12, 13, 14, 15, 0, 1, 2, 3, 4] rfl rfl ?_
        have ho := Option.some.inj hm
        subst ho
        exact aj_vret X d_Tra_put_83 hr hlk [0, 1, 2, 3, 4, 5, 6, 7, 8, 9, 10, 11, 12, 13, 14, 15] (w_Sto cI cL cZ o_Sto a_Sto_0 a_Sto_1 a_Sto_2 a_Sto_3 a_Sto_4 v_Sto ++ w_Tal cI cL cZ o_Tal o_Sto a_Tal_0 a_Tal_1 a_Tal_2 a_Tal_3 r7 ++ w_Tra cI cL cZ o_Tra o_Tal a_Tra_0 a_Tra_1 a_Tra_2 a_Tra_3 ((v_Tra.1 + (1 : Int32)), v_Tra.2.1, (v_Tra.2.2.1.1, (upd v_Tra.2.2.1.2 (v_Tra.1).toNatClampNeg x1)), (v_Tra.2.2.2.1.1, (upd v_Tra.2.2.2.1.2 ((x1 >>> ((1 : Int32) &&& 31))).toNatClampNeg x1)), (v_Tra.2.2.2.2.1.1, (upd v_Tra.2.2.2.2.1.2 ((x1 >>> ((1 : Int32) &&& 31))).toNatClampNeg v_Tra.2.1)), (v_Tra.2.2.2.2.2.1, (upd v_Tra.2.2.2.2.2.2 ((x1 >>> ((1 : Int32) &&& 31))).toNatClampNeg x2)))) rfl rfl rfl
      · have hm := ite_f hm h
        have ho := Option.some.inj hm
        subst ho
        exact aj_vret X d_Tra_put_29 hr hlk [0, 1, 2, 3, 4, 5, 6, 7, 8, 9, 10, 11, 12, 13, 14, 15] (w_Sto cI cL cZ o_Sto a_Sto_0 a_Sto_1 a_Sto_2 a_Sto_3 a_Sto_4 v_Sto ++ w_Tal cI cL cZ o_Tal o_Sto a_Tal_0 a_Tal_1 a_Tal_2 a_Tal_3 v_Tal ++ w_Tra cI cL cZ o_Tra o_Tal a_Tra_0 a_Tra_1 a_Tra_2 a_Tra_3 v_Tra) rfl rfl rfl
abbrev X_Sea_learnFrom (p : Program) (s : State) (m : MethodId) (args : Array Value) (c : Code) (D : va_G) (cI cL cZ : ClassId) (A : Nat → Prop) : Prop := aj_C p s m args c D clss (ty3 cI cL cZ) A b_Sea_learnFrom 3 R_Sea TB
abbrev J_Sea_learnFrom (p : Program) (l : Launch) (e : Env) (s : State) (m : MethodId) (args : Array Value) (below : List Frame) (meth : Method) (c : Code) (D : va_G) (cI cL cZ : ClassId) (A : Nat → Prop) (O : Int32 → va_W → Prop) (mc ms : Nat) (ws : va_W) (kc ks pc : Nat) (lv : List (Nat × Value)) (st : List Value) : Prop := aj p l e { frames := 5, cells := mc, slots := ms, locals := 128 } s m args below meth c (MQ below (qI D clss (ty3 cI cL cZ) O A) args s mc ms A) D clss A 3 ws kc ks pc lv st
def O_Sea_learnFrom (cI cL cZ : ClassId) (o_Sto o_Tal o_Tra o_Sea o_Ass a_Sto_3 a_Tal_0 a_Tal_1 a_Tra_0 a_Tra_1 a_Tra_2 a_Tra_3 a_Sea_0 a_Sea_1 : Nat) (out : T_Sto × T_Tal × T_Tra × T_Sea × Int32) : Int32 → va_W → Prop := fun r w1 => out.2.2.2.2 = r ∧ ∃ (a_Sto_0 a_Sto_1 a_Sto_2 a_Sto_4 a_Tal_2 a_Tal_3 a_Sea_2 : Nat), w1 = w_Sto cI cL cZ o_Sto a_Sto_0 a_Sto_1 a_Sto_2 a_Sto_3 a_Sto_4 out.1 ++ w_Tal cI cL cZ o_Tal o_Sto a_Tal_0 a_Tal_1 a_Tal_2 a_Tal_3 out.2.1 ++ w_Tra cI cL cZ o_Tra o_Tal a_Tra_0 a_Tra_1 a_Tra_2 a_Tra_3 out.2.2.1 ++ w_Sea cI cL cZ o_Sea o_Sto o_Tra o_Tal o_Ass a_Sea_0 a_Sea_1 a_Sea_2 out.2.2.2.1
def m_Sea_learnFrom (v_Sto : T_Sto) (v_Tal : T_Tal) (v_Tra : T_Tra) (v_Sea : T_Sea) (x1 : Int32) : Option ((T_Sto × T_Tal × T_Tra × T_Sea × Int32) × Nat × Nat) := (if 0 < (lg_cmp v_Sea.2.2.2.2.2.2.2 (0 : Int64)) then ((m_Sea_markRow v_Sto v_Tra v_Sea x1).bind fun r26 => ((m_Sea_countMarks r26).bind fun r28 => ((m_Sto_hasRoom v_Sto (1 : Int32) r28).bind fun r30 => (if r30 = 0 then (some ((v_Sto, v_Tal, v_Tra, r26, (3 : Int32)), 0, 0)) else ((m_Sea_countStep r26).bind fun r32 => ((m_Sea_storeRow v_Tra v_Sto r32).bind fun r34 => addc r34.2.1 r34.2.2 ((m_Tal_enterDead r34.1.1 v_Tal).bind fun r41 => addc r41.2.1 r41.2.2 ((m_Sea_greatestLevelBut v_Tra r34.1.2.1 (r34.1.2.2 >>> ((1 : Int32) &&& 31))).bind fun r45 => ((m_Tra_cutAbove r34.1.1 r41.1 v_Tra r45).bind fun r47 => ((m_Tra_put r34.1.1 r47.1 r47.2 r34.1.2.2 (r34.1.1.1 - (1 : Int32))).bind fun r49 => (some ((r34.1.1, r49.1, r49.2, r34.1.2.1, (4 : Int32)), 0, 0)))))))))))) else (some ((v_Sto, v_Tal, v_Tra, v_Sea, (3 : Int32)), 0, 0)))
set_option maxRecDepth 100000 in
set_option maxHeartbeats 4000000 in
theorem c_Sea_learnFrom {l : Launch} {D : va_G} {cI cL cZ : ClassId} (o_Sto o_Tal o_Tra o_Sea o_Ass a_Sto_3 a_Tal_0 a_Tal_1 a_Tra_0 a_Tra_1 a_Tra_2 a_Tra_3 a_Sea_0 a_Sea_1 : Nat) (a_Sto_0 a_Sto_1 a_Sto_2 a_Sto_4 a_Tal_2 a_Tal_3 a_Sea_2 : Nat) (v_Sto : T_Sto) (v_Tal : T_Tal) (v_Tra : T_Tra) (v_Sea : T_Sea) (x1 : Int32) (out : T_Sto × T_Tal × T_Tra × T_Sea × Int32) (mc ms : Nat) (hm : m_Sea_learnFrom v_Sto v_Tal v_Tra v_Sea x1 = some (out, mc, ms)) : ct l y_Sea_learnFrom (Cond.code y_Sea_learnFrom b_Sea_learnFrom 3 (some .int) :: TB) 5 128 D clss (ty3 cI cL cZ) NM0 NF0 [.ref o_Sea, .int x1] (w_Sto cI cL cZ o_Sto a_Sto_0 a_Sto_1 a_Sto_2 a_Sto_3 a_Sto_4 v_Sto ++ w_Tal cI cL cZ o_Tal o_Sto a_Tal_0 a_Tal_1 a_Tal_2 a_Tal_3 v_Tal ++ w_Tra cI cL cZ o_Tra o_Tal a_Tra_0 a_Tra_1 a_Tra_2 a_Tra_3 v_Tra ++ w_Sea cI cL cZ o_Sea o_Sto o_Tra o_Tal o_Ass a_Sea_0 a_Sea_1 a_Sea_2 v_Sea) (qI D clss (ty3 cI cL cZ) (O_Sea_learnFrom cI cL cZ o_Sto o_Tal o_Tra o_Sea o_Ass a_Sto_3 a_Tal_0 a_Tal_1 a_Tra_0 a_Tra_1 a_Tra_2 a_Tra_3 a_Sea_0 a_Sea_1 out)) mc ms := by
  refine ct_of (plainFor_of_name (by decide)) (Nat.le_of_ble_eq_true rfl) (fun p e s m args below meth c A X N hr hlk hnm => ?_)
  refine aj_lv (lv' := [(0, .ref o_Sea), (1, .int x1)]) [0, 1] rfl ?_
  unfold m_Sea_learnFrom at hm
  have hkc : 0 + mc = mc := Nat.zero_add _
  have hks : 0 + ms = ms := Nat.zero_add _
  refine aj_aload_n X d_Sea_learnFrom_0 0 rfl ?_
  refine aj_get X d_Sea_learnFrom_1 in_Sea 16 rfl rfl 11 (by decide) lf_Sea_51 rfl ?_
  refine aj_lconst (v := (0 : Int64)) X d_Sea_learnFrom_4 (by decide) ?_
  refine aj_lcmp X d_Sea_learnFrom_5 ?_
  refine aj_if_gt X 11 d_Sea_learnFrom_6 (by decide) (fun h => ?_) (fun h => ?_)
  · have hm := ite_t hm h
    refine aj_aload_n X d_Sea_learnFrom_11 0 rfl ?_
    refine aj_iload_n X d_Sea_learnFrom_12 1 rfl ?_
    obtain ⟨r26, h27, hm⟩ := bnd_of hm
    refine aj_callV (wr := [(o_Tal, .inr (4, [.ref o_Sto, .ref a_Tal_0, .ref a_Tal_1, .ref a_Tal_2, .ref a_Tal_3])), (a_Tal_0, .inl (cL, v_Tal.1.1, .inr (.inl v_Tal.1.2))), (a_Tal_1, .inl (cL, v_Tal.2.1.1, .inr (.inl v_Tal.2.1.2))), (a_Tal_2, .inl (cI, v_Tal.2.2.1.1, .inl v_Tal.2.2.1.2)), (a_Tal_3, .inl (cI, v_Tal.2.2.2.1, .inl v_Tal.2.2.2.2))]) X (aj_rV (As := [.int x1]) (rest := []) X N gTB (c_Sea_markRow (D := D) (cI := cI) (cL := cL) (cZ := cZ) o_Sto o_Tra o_Tal o_Sea o_Ass a_Sto_0 a_Sto_1 a_Sto_2 a_Sto_3 a_Sto_4 a_Tra_0 a_Tra_1 a_Tra_2 a_Tra_3 a_Sea_0 a_Sea_1 a_Sea_2 v_Sto v_Tra v_Sea x1 r26 h27) d_Sea_learnFrom_13 lk_Sea_markRow lw_Sea_139 lh_Sea_markRow ⟨(Nat.le_of_ble_eq_true rfl), (Nat.le_of_ble_eq_true rfl)⟩ [0, 1, 2, 3, 4, 5, 11, 12, 13, 14, 15, 16, 17, 18, 19] rfl rfl 11 rfl rfl rfl rfl (Nat.le_of_ble_eq_true rfl) ⟨kc_le1 hkc, kc_le1 hks⟩) [0, 1, 2, 3, 4, 5, 11, 12, 13, 14, 15, 16, 17, 18, 19] [6, 7, 8, 9, 10] rfl rfl rfl (by decide) (fun w1 hO => ?_)
    have hkc := kc_zero hkc
    have hks := kc_zero hks
    obtain rfl := hO
    refine aj_perm (ws' := w_Sto cI cL cZ o_Sto a_Sto_0 a_Sto_1 a_Sto_2 a_Sto_3 a_Sto_4 v_Sto ++ w_Tal cI cL cZ o_Tal o_Sto a_Tal_0 a_Tal_1 a_Tal_2 a_Tal_3 v_Tal ++ w_Tra cI cL cZ o_Tra o_Tal a_Tra_0 a_Tra_1 a_Tra_2 a_Tra_3 v_Tra ++ w_Sea cI cL cZ o_Sea o_Sto o_Tra o_Tal o_Ass a_Sea_0 a_Sea_1 a_Sea_2 r26) [5, 6, 7, 8, 9, 10, 0, 1, 2, 3, 4, 11, 12, 13, 14, 15, 16, 17, 18, 19] rfl rfl ?_
    refine aj_aload_n X d_Sea_learnFrom_16 0 rfl ?_
    refine aj_get X d_Sea_learnFrom_17 in_Sea 16 rfl rfl 3 (by decide) lf_Sea_15 rfl ?_
    refine aj_iconst (v := (1 : Int32)) X d_Sea_learnFrom_20 (by decide) ?_
    refine aj_aload_n X d_Sea_learnFrom_21 0 rfl ?_
    obtain ⟨r28, h29, hm⟩ := bnd_of hm
    refine aj_callI (wr := [(o_Sto, .inr (3, [.int v_Sto.1, .int v_Sto.2.1, .ref a_Sto_0, .ref a_Sto_1, .ref a_Sto_2, .ref a_Sto_3, .ref a_Sto_4])), (a_Sto_0, .inl (cI, v_Sto.2.2.1.1, .inl v_Sto.2.2.1.2)), (a_Sto_1, .inl (cI, v_Sto.2.2.2.1.1, .inl v_Sto.2.2.2.1.2)), (a_Sto_2, .inl (cI, v_Sto.2.2.2.2.1.1, .inl v_Sto.2.2.2.2.1.2)), (a_Sto_3, .inl (cI, v_Sto.2.2.2.2.2.1.1, .inl v_Sto.2.2.2.2.2.1.2)), (a_Sto_4, .inl (cI, v_Sto.2.2.2.2.2.2.1, .inl v_Sto.2.2.2.2.2.2.2)), (o_Tal, .inr (4, [.ref o_Sto, .ref a_Tal_0, .ref a_Tal_1, .ref a_Tal_2, .ref a_Tal_3])), (a_Tal_0, .inl (cL, v_Tal.1.1, .inr (.inl v_Tal.1.2))), (a_Tal_1, .inl (cL, v_Tal.2.1.1, .inr (.inl v_Tal.2.1.2))), (a_Tal_2, .inl (cI, v_Tal.2.2.1.1, .inl v_Tal.2.2.1.2)), (a_Tal_3, .inl (cI, v_Tal.2.2.2.1, .inl v_Tal.2.2.2.2)), (o_Tra, .inr (5, [.int v_Tra.1, .int v_Tra.2.1, .ref a_Tra_0, .ref o_Tal, .ref a_Tra_1, .ref a_Tra_2, .ref a_Tra_3])), (a_Tra_0, .inl (cI, v_Tra.2.2.1.1, .inl v_Tra.2.2.1.2)), (a_Tra_1, .inl (cI, v_Tra.2.2.2.1.1, .inl v_Tra.2.2.2.1.2)), (a_Tra_2, .inl (cI, v_Tra.2.2.2.2.1.1, .inl v_Tra.2.2.2.2.1.2)), (a_Tra_3, .inl (cI, v_Tra.2.2.2.2.2.1, .inl v_Tra.2.2.2.2.2.2))]) X (aj_rV (As := []) (rest := [.int (1 : Int32), .ref o_Sto]) X N gTB (c_Sea_countMarks (D := D) (cI := cI) (cL := cL) (cZ := cZ) o_Sea o_Sto o_Tra o_Tal o_Ass a_Sea_0 a_Sea_1 a_Sea_2 r26 r28 h29) d_Sea_learnFrom_22 lk_Sea_countMarks lw_Sea_142 lh_Sea_countMarks ⟨(Nat.le_of_ble_eq_true rfl), (Nat.le_of_ble_eq_true rfl)⟩ [16, 17, 18, 19] rfl rfl 0 rfl rfl rfl rfl (Nat.le_of_ble_eq_true rfl) ⟨kc_le1 hkc, kc_le1 hks⟩) [16, 17, 18, 19] [0, 1, 2, 3, 4, 5, 6, 7, 8, 9, 10, 11, 12, 13, 14, 15] rfl rfl rfl (by decide) (fun rr w1 hO => ?_)
    have hkc := kc_zero hkc
    have hks := kc_zero hks
    obtain ⟨rfl, rfl⟩ := hO
    refine aj_perm (ws' := w_Sto cI cL cZ o_Sto a_Sto_0 a_Sto_1 a_Sto_2 a_Sto_3 a_Sto_4 v_Sto ++ w_Tal cI cL cZ o_Tal o_Sto a_Tal_0 a_Tal_1 a_Tal_2 a_Tal_3 v_Tal ++ w_Tra cI cL cZ o_Tra o_Tal a_Tra_0 a_Tra_1 a_Tra_2 a_Tra_3 v_Tra ++ w_Sea cI cL cZ o_Sea o_Sto o_Tra o_Tal o_Ass a_Sea_0 a_Sea_1 a_Sea_2 r26) [0, 1, 2, 3, 4, 5, 6, 7, 8, 9, 10, 11, 12, 13, 14, 15, 16, 17, 18, 19] rfl rfl ?_
    obtain ⟨r30, h31, hm⟩ := bnd_of hm
    refine aj_callI (wr := [(o_Tal, .inr (4, [.ref o_Sto, .ref a_Tal_0, .ref a_Tal_1, .ref a_Tal_2, .ref a_Tal_3])), (a_Tal_0, .inl (cL, v_Tal.1.1, .inr (.inl v_Tal.1.2))), (a_Tal_1, .inl (cL, v_Tal.2.1.1, .inr (.inl v_Tal.2.1.2))), (a_Tal_2, .inl (cI, v_Tal.2.2.1.1, .inl v_Tal.2.2.1.2)), (a_Tal_3, .inl (cI, v_Tal.2.2.2.1, .inl v_Tal.2.2.2.2)), (o_Tra, .inr (5, [.int v_Tra.1, .int v_Tra.2.1, .ref a_Tra_0, .ref o_Tal, .ref a_Tra_1, .ref a_Tra_2, .ref a_Tra_3])), (a_Tra_0, .inl (cI, v_Tra.2.2.1.1, .inl v_Tra.2.2.1.2)), (a_Tra_1, .inl (cI, v_Tra.2.2.2.1.1, .inl v_Tra.2.2.2.1.2)), (a_Tra_2, .inl (cI, v_Tra.2.2.2.2.1.1, .inl v_Tra.2.2.2.2.1.2)), (a_Tra_3, .inl (cI, v_Tra.2.2.2.2.2.1, .inl v_Tra.2.2.2.2.2.2)), (o_Sea, .inr (2, [.int r26.1, .long r26.2.1, .int r26.2.2.1, .ref o_Sto, .ref o_Tra, .ref o_Tal, .ref o_Ass, .ref a_Sea_0, .ref a_Sea_1, .int r26.2.2.2.2.2.1, .ref a_Sea_2, .long r26.2.2.2.2.2.2.2])), (a_Sea_0, .inl (cI, r26.2.2.2.1.1, .inl r26.2.2.2.1.2)), (a_Sea_1, .inl (cI, r26.2.2.2.2.1.1, .inl r26.2.2.2.2.1.2)), (a_Sea_2, .inl (cI, r26.2.2.2.2.2.2.1.1, .inl r26.2.2.2.2.2.2.1.2))]) X (aj_rV (As := [.int (1 : Int32), .int r28]) (rest := []) X N gTB (c_Sto_hasRoom (D := D) (cI := cI) (cL := cL) (cZ := cZ) o_Sto a_Sto_0 a_Sto_1 a_Sto_2 a_Sto_3 a_Sto_4 v_Sto (1 : Int32) r28 r30 h31) d_Sea_learnFrom_25 lk_Sto_hasRoom lw_Sea_145 lh_Sto_hasRoom ⟨(Nat.le_of_ble_eq_true rfl), (Nat.le_of_ble_eq_true rfl)⟩ [0, 1, 2, 3, 4, 5] rfl rfl 0 rfl rfl rfl rfl (Nat.le_of_ble_eq_true rfl) ⟨kc_le1 hkc, kc_le1 hks⟩) [0, 1, 2, 3, 4, 5] [6, 7, 8, 9, 10, 11, 12, 13, 14, 15, 16, 17, 18, 19] rfl rfl rfl (by decide) (fun rr w1 hO => ?_)
    have hkc := kc_zero hkc
    have hks := kc_zero hks
    obtain ⟨rfl, rfl⟩ := hO
    refine aj_perm (ws' := w_Sto cI cL cZ o_Sto a_Sto_0 a_Sto_1 a_Sto_2 a_Sto_3 a_Sto_4 v_Sto ++ w_Tal cI cL cZ o_Tal o_Sto a_Tal_0 a_Tal_1 a_Tal_2 a_Tal_3 v_Tal ++ w_Tra cI cL cZ o_Tra o_Tal a_Tra_0 a_Tra_1 a_Tra_2 a_Tra_3 v_Tra ++ w_Sea cI cL cZ o_Sea o_Sto o_Tra o_Tal o_Ass a_Sea_0 a_Sea_1 a_Sea_2 r26) [14, 15, 16, 17, 18, 19, 0, 1, 2, 3, 4, 5, 6, 7, 8, 9, 10, 11, 12, 13] rfl rfl ?_
    refine aj_if_ne X 33 d_Sea_learnFrom_28 (by decide) (fun h => ?_) (fun h => ?_)
    · have hm := ite_f hm h
      refine aj_aload_n X d_Sea_learnFrom_33 0 rfl ?_
      obtain ⟨r32, h33, hm⟩ := bnd_of hm
      refine aj_callV (wr := [(o_Sto, .inr (3, [.int v_Sto.1, .int v_Sto.2.1, .ref a_Sto_0, .ref a_Sto_1, .ref a_Sto_2, .ref a_Sto_3, .ref a_Sto_4])), (a_Sto_0, .inl (cI, v_Sto.2.2.1.1, .inl v_Sto.2.2.1.2)), (a_Sto_1, .inl (cI, v_Sto.2.2.2.1.1, .inl v_Sto.2.2.2.1.2)), (a_Sto_2, .inl (cI, v_Sto.2.2.2.2.1.1, .inl v_Sto.2.2.2.2.1.2)), (a_Sto_3, .inl (cI, v_Sto.2.2.2.2.2.1.1, .inl v_Sto.2.2.2.2.2.1.2)), (a_Sto_4, .inl (cI, v_Sto.2.2.2.2.2.2.1, .inl v_Sto.2.2.2.2.2.2.2)), (o_Tal, .inr (4, [.ref o_Sto, .ref a_Tal_0, .ref a_Tal_1, .ref a_Tal_2, .ref a_Tal_3])), (a_Tal_0, .inl (cL, v_Tal.1.1, .inr (.inl v_Tal.1.2))), (a_Tal_1, .inl (cL, v_Tal.2.1.1, .inr (.inl v_Tal.2.1.2))), (a_Tal_2, .inl (cI, v_Tal.2.2.1.1, .inl v_Tal.2.2.1.2)), (a_Tal_3, .inl (cI, v_Tal.2.2.2.1, .inl v_Tal.2.2.2.2)), (o_Tra, .inr (5, [.int v_Tra.1, .int v_Tra.2.1, .ref a_Tra_0, .ref o_Tal, .ref a_Tra_1, .ref a_Tra_2, .ref a_Tra_3])), (a_Tra_0, .inl (cI, v_Tra.2.2.1.1, .inl v_Tra.2.2.1.2)), (a_Tra_1, .inl (cI, v_Tra.2.2.2.1.1, .inl v_Tra.2.2.2.1.2)), (a_Tra_2, .inl (cI, v_Tra.2.2.2.2.1.1, .inl v_Tra.2.2.2.2.1.2)), (a_Tra_3, .inl (cI, v_Tra.2.2.2.2.2.1, .inl v_Tra.2.2.2.2.2.2))]) X (aj_rV (As := []) (rest := []) X N gTB (c_Sea_countStep (D := D) (cI := cI) (cL := cL) (cZ := cZ) o_Sea o_Sto o_Tra o_Tal o_Ass a_Sea_0 a_Sea_1 a_Sea_2 r26 r32 h33) d_Sea_learnFrom_34 lk_Sea_countStep lw_Sea_136 lh_Sea_countStep ⟨(Nat.le_of_ble_eq_true rfl), (Nat.le_of_ble_eq_true rfl)⟩ [16, 17, 18, 19] rfl rfl 0 rfl rfl rfl rfl (Nat.le_of_ble_eq_true rfl) ⟨kc_le1 hkc, kc_le1 hks⟩) [16, 17, 18, 19] [0, 1, 2, 3, 4, 5, 6, 7, 8, 9, 10, 11, 12, 13, 14, 15] rfl rfl rfl (by decide) (fun w1 hO => ?_)
      have hkc := kc_zero hkc
      have hks := kc_zero hks
      obtain rfl := hO
      refine aj_perm (ws' := w_Sto cI cL cZ o_Sto a_Sto_0 a_Sto_1 a_Sto_2 a_Sto_3 a_Sto_4 v_Sto ++ w_Tal cI cL cZ o_Tal o_Sto a_Tal_0 a_Tal_1 a_Tal_2 a_Tal_3 v_Tal ++ w_Tra cI cL cZ o_Tra o_Tal a_Tra_0 a_Tra_1 a_Tra_2 a_Tra_3 v_Tra ++ w_Sea cI cL cZ o_Sea o_Sto o_Tra o_Tal o_Ass a_Sea_0 a_Sea_1 a_Sea_2 r32) [0, 1, 2, 3, 4, 5, 6, 7, 8, 9, 10, 11, 12, 13, 14, 15, 16, 17, 18, 19] rfl rfl ?_
      refine aj_aload_n X d_Sea_learnFrom_37 0 rfl ?_
      obtain ⟨r34, h35, hm⟩ := bnd_of hm
      obtain ⟨dc, ds, hm, e1, e2⟩ := addc_of hm
      have hkc := kc_step hkc e1
      have hks := kc_step hks e2
      refine aj_callI (wr := [(o_Tal, .inr (4, [.ref o_Sto, .ref a_Tal_0, .ref a_Tal_1, .ref a_Tal_2, .ref a_Tal_3])), (a_Tal_0, .inl (cL, v_Tal.1.1, .inr (.inl v_Tal.1.2))), (a_Tal_1, .inl (cL, v_Tal.2.1.1, .inr (.inl v_Tal.2.1.2))), (a_Tal_2, .inl (cI, v_Tal.2.2.1.1, .inl v_Tal.2.2.1.2)), (a_Tal_3, .inl (cI, v_Tal.2.2.2.1, .inl v_Tal.2.2.2.2))]) X (aj_rV (As := []) (rest := []) X N gTB (c_Sea_storeRow (D := D) (cI := cI) (cL := cL) (cZ := cZ) o_Sto o_Tra o_Tal o_Sea o_Ass a_Sto_3 a_Tra_0 a_Tra_1 a_Tra_2 a_Tra_3 a_Sea_0 a_Sea_1 a_Sto_0 a_Sto_1 a_Sto_2 a_Sto_4 a_Sea_2 v_Tra v_Sto r32 r34.1 r34.2.1 r34.2.2 h35) d_Sea_learnFrom_38 lk_Sea_storeRow lw_Sea_149 lh_Sea_storeRow ⟨(Nat.le_of_ble_eq_true rfl), (Nat.le_of_ble_eq_true rfl)⟩ [0, 1, 2, 3, 4, 5, 11, 12, 13, 14, 15, 16, 17, 18, 19] rfl rfl 11 rfl rfl rfl rfl (Nat.le_of_ble_eq_true rfl) ⟨kc_le hkc, kc_le hks⟩) [0, 1, 2, 3, 4, 5, 11, 12, 13, 14, 15, 16, 17, 18, 19] [6, 7, 8, 9, 10] rfl rfl rfl (by decide) (fun rr w1 hO => ?_)
      obtain ⟨rfl, a36, a37, a38, a39, a40, rfl⟩ := hO
      refine aj_perm (ws' := w_Sto cI cL cZ o_Sto a36 a37 a38 a_Sto_3 a39 r34.1.1 ++ w_Tal cI cL cZ o_Tal o_Sto a_Tal_0 a_Tal_1 a_Tal_2 a_Tal_3 v_Tal ++ w_Tra cI cL cZ o_Tra o_Tal a_Tra_0 a_Tra_1 a_Tra_2 a_Tra_3 v_Tra ++ w_Sea cI cL cZ o_Sea o_Sto o_Tra o_Tal o_Ass a_Sea_0 a_Sea_1 a40 r34.1.2.1) [5, 6, 7, 8, 9, 10, 0, 1, 2, 3, 4, 11, 12, 13, 14, 15, 16, 17, 18, 19] rfl rfl ?_
      refine aj_istore_n (lv' := [(2, .int r34.1.2.2), (0, .ref o_Sea), (1, .int x1)]) X d_Sea_learnFrom_41 rfl (by decide) rfl ?_
      refine aj_aload_n X d_Sea_learnFrom_42 1 rfl ?_
      refine aj_get X d_Sea_learnFrom_43 in_Sea 16 rfl rfl 5 (by decide) lf_Sea_23 rfl ?_
      obtain ⟨r41, h42, hm⟩ := bnd_of hm
      obtain ⟨dc, ds, hm, e1, e2⟩ := addc_of hm
      have hkc := kc_step hkc e1
      have hks := kc_step hks e2
      refine aj_callV (wr := [(o_Tra, .inr (5, [.int v_Tra.1, .int v_Tra.2.1, .ref a_Tra_0, .ref o_Tal, .ref a_Tra_1, .ref a_Tra_2, .ref a_Tra_3])), (a_Tra_0, .inl (cI, v_Tra.2.2.1.1, .inl v_Tra.2.2.1.2)), (a_Tra_1, .inl (cI, v_Tra.2.2.2.1.1, .inl v_Tra.2.2.2.1.2)), (a_Tra_2, .inl (cI, v_Tra.2.2.2.2.1.1, .inl v_Tra.2.2.2.2.1.2)), (a_Tra_3, .inl (cI, v_Tra.2.2.2.2.2.1, .inl v_Tra.2.2.2.2.2.2)), (o_Sea, .inr (2, [.int r34.1.2.1.1, .long r34.1.2.1.2.1, .int r34.1.2.1.2.2.1, .ref o_Sto, .ref o_Tra, .ref o_Tal, .ref o_Ass, .ref a_Sea_0, .ref a_Sea_1, .int r34.1.2.1.2.2.2.2.2.1, .ref a40, .long r34.1.2.1.2.2.2.2.2.2.2])), (a_Sea_0, .inl (cI, r34.1.2.1.2.2.2.1.1, .inl r34.1.2.1.2.2.2.1.2)), (a_Sea_1, .inl (cI, r34.1.2.1.2.2.2.2.1.1, .inl r34.1.2.1.2.2.2.2.1.2)), (a40, .inl (cI, r34.1.2.1.2.2.2.2.2.2.1.1, .inl r34.1.2.1.2.2.2.2.2.2.1.2))]) X (aj_rV (As := []) (rest := []) X N gTB (c_Tal_enterDead (D := D) (cI := cI) (cL := cL) (cZ := cZ) o_Sto o_Tal a36 a37 a38 a_Sto_3 a39 a_Tal_0 a_Tal_1 a_Tal_2 a_Tal_3 r34.1.1 v_Tal r41.1 r41.2.1 r41.2.2 h42) d_Sea_learnFrom_46 lk_Tal_enterDead lw_Sea_152 lh_Tal_enterDead ⟨(Nat.le_of_ble_eq_true rfl), (Nat.le_of_ble_eq_true rfl)⟩ [0, 1, 2, 3, 4, 5, 6, 7, 8, 9, 10] rfl rfl 6 rfl rfl rfl rfl (Nat.le_of_ble_eq_true rfl) ⟨kc_le hkc, kc_le hks⟩) [0, 1, 2, 3, 4, 5, 6, 7, 8, 9, 10] [11, 12, 13, 14, 15, 16, 17, 18, 19] rfl rfl rfl (by decide) (fun w1 hO => ?_)
      obtain ⟨a43, a44, rfl⟩ := hO
      refine aj_perm (ws' := w_Sto cI cL cZ o_Sto a36 a37 a38 a_Sto_3 a39 r34.1.1 ++ w_Tal cI cL cZ o_Tal o_Sto a_Tal_0 a_Tal_1 a43 a44 r41.1 ++ w_Tra cI cL cZ o_Tra o_Tal a_Tra_0 a_Tra_1 a_Tra_2 a_Tra_3 v_Tra ++ w_Sea cI cL cZ o_Sea o_Sto o_Tra o_Tal o_Ass a_Sea_0 a_Sea_1 a40 r34.1.2.1) [9, 10, 11, 12, 13, 14, 15, 16, 17, 18, 19, 0, 1, 2, 3, 4, 5, 6, 7, 8] rfl rfl ?_
      refine aj_aload_n X d_Sea_learnFrom_49 1 rfl ?_
      refine aj_get X d_Sea_learnFrom_50 in_Sea 16 rfl rfl 4 (by decide) lf_Sea_19 rfl ?_
      refine aj_aload_n X d_Sea_learnFrom_53 1 rfl ?_
      refine aj_iload_n X d_Sea_learnFrom_54 0 rfl ?_
      refine aj_iconst (v := (1 : Int32)) X d_Sea_learnFrom_55 (by decide) ?_
      refine aj_ishr X d_Sea_learnFrom_56 ?_
      obtain ⟨r45, h46, hm⟩ := bnd_of hm
      refine aj_callI (wr := [(o_Sto, .inr (3, [.int r34.1.1.1, .int r34.1.1.2.1, .ref a36, .ref a37, .ref a38, .ref a_Sto_3, .ref a39])), (a36, .inl (cI, r34.1.1.2.2.1.1, .inl r34.1.1.2.2.1.2)), (a37, .inl (cI, r34.1.1.2.2.2.1.1, .inl r34.1.1.2.2.2.1.2)), (a38, .inl (cI, r34.1.1.2.2.2.2.1.1, .inl r34.1.1.2.2.2.2.1.2)), (a_Sto_3, .inl (cI, r34.1.1.2.2.2.2.2.1.1, .inl r34.1.1.2.2.2.2.2.1.2)), (a39, .inl (cI, r34.1.1.2.2.2.2.2.2.1, .inl r34.1.1.2.2.2.2.2.2.2)), (o_Tal, .inr (4, [.ref o_Sto, .ref a_Tal_0, .ref a_Tal_1, .ref a43, .ref a44])), (a_Tal_0, .inl (cL, r41.1.1.1, .inr (.inl r41.1.1.2))), (a_Tal_1, .inl (cL, r41.1.2.1.1, .inr (.inl r41.1.2.1.2))), (a43, .inl (cI, r41.1.2.2.1.1, .inl r41.1.2.2.1.2)), (a44, .inl (cI, r41.1.2.2.2.1, .inl r41.1.2.2.2.2))]) X (aj_rV (As := [.int (r34.1.2.2 >>> ((1 : Int32) &&& 31))]) (rest := [.ref o_Tra]) X N gTB (c_Sea_greatestLevelBut (D := D) (cI := cI) (cL := cL) (cZ := cZ) o_Tra o_Tal o_Sea o_Sto o_Ass a_Tra_0 a_Tra_1 a_Tra_2 a_Tra_3 a_Sea_0 a_Sea_1 a40 v_Tra r34.1.2.1 (r34.1.2.2 >>> ((1 : Int32) &&& 31)) r45 h46) d_Sea_learnFrom_57 lk_Sea_greatestLevelBut lw_Sea_155 lh_Sea_greatestLevelBut ⟨(Nat.le_of_ble_eq_true rfl), (Nat.le_of_ble_eq_true rfl)⟩ [11, 12, 13, 14, 15, 16, 17, 18, 19] rfl rfl 5 rfl rfl rfl rfl (Nat.le_of_ble_eq_true rfl) ⟨kc_le1 hkc, kc_le1 hks⟩) [11, 12, 13, 14, 15, 16, 17, 18, 19] [0, 1, 2, 3, 4, 5, 6, 7, 8, 9, 10] rfl rfl rfl (by decide) (fun rr w1 hO => ?_)
      have hkc := kc_zero hkc
      have hks := kc_zero hks
      obtain ⟨rfl, rfl⟩ := hO
      refine aj_perm (ws' := w_Sto cI cL cZ o_Sto a36 a37 a38 a_Sto_3 a39 r34.1.1 ++ w_Tal cI cL cZ o_Tal o_Sto a_Tal_0 a_Tal_1 a43 a44 r41.1 ++ w_Tra cI cL cZ o_Tra o_Tal a_Tra_0 a_Tra_1 a_Tra_2 a_Tra_3 v_Tra ++ w_Sea cI cL cZ o_Sea o_Sto o_Tra o_Tal o_Ass a_Sea_0 a_Sea_1 a40 r34.1.2.1) [0, 1, 2, 3, 4, 5, 6, 7, 8, 9, 10, 11, 12, 13, 14, 15, 16, 17, 18, 19] rfl rfl ?_
      obtain ⟨r47, h48, hm⟩ := bnd_of hm
      refine aj_callV (wr := [(o_Sea, .inr (2, [.int r34.1.2.1.1, .long r34.1.2.1.2.1, .int r34.1.2.1.2.2.1, .ref o_Sto, .ref o_Tra, .ref o_Tal, .ref o_Ass, .ref a_Sea_0, .ref a_Sea_1, .int r34.1.2.1.2.2.2.2.2.1, .ref a40, .long r34.1.2.1.2.2.2.2.2.2.2])), (a_Sea_0, .inl (cI, r34.1.2.1.2.2.2.1.1, .inl r34.1.2.1.2.2.2.1.2)), (a_Sea_1, .inl (cI, r34.1.2.1.2.2.2.2.1.1, .inl r34.1.2.1.2.2.2.2.1.2)), (a40, .inl (cI, r34.1.2.1.2.2.2.2.2.2.1.1, .inl r34.1.2.1.2.2.2.2.2.2.1.2))]) X (aj_rV (As := [.int r45]) (rest := []) X N gTB (c_Tra_cutAbove (D := D) (cI := cI) (cL := cL) (cZ := cZ) o_Sto o_Tal o_Tra a36 a37 a38 a_Sto_3 a39 a_Tal_0 a_Tal_1 a43 a44 a_Tra_0 a_Tra_1 a_Tra_2 a_Tra_3 r34.1.1 r41.1 v_Tra r45 r47 h48) d_Sea_learnFrom_60 lk_Tra_cutAbove lw_Sea_158 lh_Tra_cutAbove ⟨(Nat.le_of_ble_eq_true rfl), (Nat.le_of_ble_eq_true rfl)⟩ [0, 1, 2, 3, 4, 5, 6, 7, 8, 9, 10, 11, 12, 13, 14, 15] rfl rfl 11 rfl rfl rfl rfl (Nat.le_of_ble_eq_true rfl) ⟨kc_le1 hkc, kc_le1 hks⟩) [0, 1, 2, 3, 4, 5, 6, 7, 8, 9, 10, 11, 12, 13, 14, 15] [16, 17, 18, 19] rfl rfl rfl (by decide) (fun w1 hO => ?_)
      have hkc := kc_zero hkc
      have hks := kc_zero hks
      obtain rfl := hO
      refine aj_perm (ws' := w_Sto cI cL cZ o_Sto a36 a37 a38 a_Sto_3 a39 r34.1.1 ++ w_Tal cI cL cZ o_Tal o_Sto a_Tal_0 a_Tal_1 a43 a44 r47.1 ++ w_Tra cI cL cZ o_Tra o_Tal a_Tra_0 a_Tra_1 a_Tra_2 a_Tra_3 r47.2 ++ w_Sea cI cL cZ o_Sea o_Sto o_Tra o_Tal o_Ass a_Sea_0 a_Sea_1 a40 r34.1.2.1) [4, 5, 6, 7, 8, 9, 10, 11, 12, 13, 14, 15, 16, 17, 18, 19, 0, 1, 2, 3] rfl rfl ?_
      refine aj_aload_n X d_Sea_learnFrom_63 1 rfl ?_
      refine aj_get X d_Sea_learnFrom_64 in_Sea 16 rfl rfl 4 (by decide) lf_Sea_19 rfl ?_
      refine aj_iload_n X d_Sea_learnFrom_67 0 rfl ?_
      refine aj_aload_n X d_Sea_learnFrom_68 1 rfl ?_
      refine aj_get X d_Sea_learnFrom_69 in_Sea 16 rfl rfl 3 (by decide) lf_Sea_15 rfl ?_
      refine aj_get X d_Sea_learnFrom_72 in_Sto 0 rfl rfl 0 (by decide) lf_Sea_161 rfl ?_
      refine aj_iconst (v := (1 : Int32)) X d_Sea_learnFrom_75 (by decide) ?_
      refine aj_isub X d_Sea_learnFrom_76 ?_
      obtain ⟨r49, h50, hm⟩ := bnd_of hm
      refine aj_callV (wr := [(o_Sea, .inr (2, [.int r34.1.2.1.1, .long r34.1.2.1.2.1, .int r34.1.2.1.2.2.1, .ref o_Sto, .ref o_Tra, .ref o_Tal, .ref o_Ass, .ref a_Sea_0, .ref a_Sea_1, .int r34.1.2.1.2.2.2.2.2.1, .ref a40, .long r34.1.2.1.2.2.2.2.2.2.2])), (a_Sea_0, .inl (cI, r34.1.2.1.2.2.2.1.1, .inl r34.1.2.1.2.2.2.1.2)), (a_Sea_1, .inl (cI, r34.1.2.1.2.2.2.2.1.1, .inl r34.1.2.1.2.2.2.2.1.2)), (a40, .inl (cI, r34.1.2.1.2.2.2.2.2.2.1.1, .inl r34.1.2.1.2.2.2.2.2.2.1.2))]) X (aj_rV (As := [.int r34.1.2.2, .int (r34.1.1.1 - (1 : Int32))]) (rest := []) X N gTB (c_Tra_put (D := D) (cI := cI) (cL := cL) (cZ := cZ) o_Sto o_Tal o_Tra a36 a37 a38 a_Sto_3 a39 a_Tal_0 a_Tal_1 a43 a44 a_Tra_0 a_Tra_1 a_Tra_2 a_Tra_3 r34.1.1 r47.1 r47.2 r34.1.2.2 (r34.1.1.1 - (1 : Int32)) r49 h50) d_Sea_learnFrom_77 lk_Tra_put lw_Sea_125 lh_Tra_put ⟨(Nat.le_of_ble_eq_true rfl), (Nat.le_of_ble_eq_true rfl)⟩ [0, 1, 2, 3, 4, 5, 6, 7, 8, 9, 10, 11, 12, 13, 14, 15] rfl rfl 11 rfl rfl rfl rfl (Nat.le_of_ble_eq_true rfl) ⟨kc_le1 hkc, kc_le1 hks⟩) [0, 1, 2, 3, 4, 5, 6, 7, 8, 9, 10, 11, 12, 13, 14, 15] [16, 17, 18, 19] rfl rfl rfl (by decide) (fun w1 hO => ?_)
      have hkc := kc_zero hkc
      have hks := kc_zero hks
      obtain rfl := hO
      refine aj_perm (ws' := w_Sto cI cL cZ o_Sto a36 a37 a38 a_Sto_3 a39 r34.1.1 ++ w_Tal cI cL cZ o_Tal o_Sto a_Tal_0 a_Tal_1 a43 a44 r49.1 ++ w_Tra cI cL cZ o_Tra o_Tal a_Tra_0 a_Tra_1 a_Tra_2 a_Tra_3 r49.2 ++ w_Sea cI cL cZ o_Sea o_Sto o_Tra o_Tal o_Ass a_Sea_0 a_Sea_1 a40 r34.1.2.1) [4, 5, 6, 7, 8, 9, 10, 11, 12, 13, 14, 15, 16, 17, 18, 19, 0, 1, 2, 3] rfl rfl ?_
      refine aj_iconst (v := (4 : Int32)) X d_Sea_learnFrom_80 (by decide) ?_
      obtain ⟨ho, e1, e2⟩ := res_of hm
      subst ho
      obtain rfl := kc_end hkc e1
      obtain rfl := kc_end hks e2
      exact aj_iret X d_Sea_learnFrom_81 hr hlk [0, 1, 2, 3, 4, 5, 6, 7, 8, 9, 10, 11, 12, 13, 14, 15, 16, 17, 18, 19] (w_Sto cI cL cZ o_Sto a36 a37 a38 a_Sto_3 a39 r34.1.1 ++ w_Tal cI cL cZ o_Tal o_Sto a_Tal_0 a_Tal_1 a43 a44 r49.1 ++ w_Tra cI cL cZ o_Tra o_Tal a_Tra_0 a_Tra_1 a_Tra_2 a_Tra_3 r49.2 ++ w_Sea cI cL cZ o_Sea o_Sto o_Tra o_Tal o_Ass a_Sea_0 a_Sea_1 a40 r34.1.2.1) rfl rfl ⟨rfl, a36, a37, a38, a39, a43, a44, a40, rfl⟩
    · have hm := ite_t hm h
      refine aj_iconst (v := (3 : Int32)) X d_Sea_learnFrom_31 (by decide) ?_
      obtain ⟨ho, e1, e2⟩ := res_of hm
      subst ho
      obtain rfl := kc_end hkc e1
      obtain rfl := kc_end hks e2
      exact aj_iret X d_Sea_learnFrom_32 hr hlk [0, 1, 2, 3, 4, 5, 6, 7, 8, 9, 10, 11, 12, 13, 14, 15, 16, 17, 18, 19] (w_Sto cI cL cZ o_Sto a_Sto_0 a_Sto_1 a_Sto_2 a_Sto_3 a_Sto_4 v_Sto ++ w_Tal cI cL cZ o_Tal o_Sto a_Tal_0 a_Tal_1 a_Tal_2 a_Tal_3 v_Tal ++ w_Tra cI cL cZ o_Tra o_Tal a_Tra_0 a_Tra_1 a_Tra_2 a_Tra_3 v_Tra ++ w_Sea cI cL cZ o_Sea o_Sto o_Tra o_Tal o_Ass a_Sea_0 a_Sea_1 a_Sea_2 r26) rfl rfl ⟨rfl, a_Sto_0, a_Sto_1, a_Sto_2, a_Sto_4, a_Tal_2, a_Tal_3, a_Sea_2, rfl⟩
  · have hm := ite_f hm h
    refine aj_iconst (v := (3 : Int32)) X d_Sea_learnFrom_9 (by decide) ?_
    obtain ⟨ho, e1, e2⟩ := res_of hm
    subst ho
    obtain rfl := kc_end hkc e1
    obtain rfl := kc_end hks e2
    exact aj_iret X d_Sea_learnFrom_10 hr hlk [0, 1, 2, 3, 4, 5, 6, 7, 8, 9, 10, 11, 12, 13, 14, 15, 16, 17, 18, 19] (w_Sto cI cL cZ o_Sto a_Sto_0 a_Sto_1 a_Sto_2 a_Sto_3 a_Sto_4 v_Sto ++ w_Tal cI cL cZ o_Tal o_Sto a_Tal_0 a_Tal_1 a_Tal_2 a_Tal_3 v_Tal ++ w_Tra cI cL cZ o_Tra o_Tal a_Tra_0 a_Tra_1 a_Tra_2 a_Tra_3 v_Tra ++ w_Sea cI cL cZ o_Sea o_Sto o_Tra o_Tal o_Ass a_Sea_0 a_Sea_1 a_Sea_2 v_Sea) rfl rfl ⟨rfl, a_Sto_0, a_Sto_1, a_Sto_2, a_Sto_4, a_Tal_2, a_Tal_3, a_Sea_2, rfl⟩
abbrev X_Tal_leastUnit (p : Program) (s : State) (m : MethodId) (args : Array Value) (c : Code) (D : va_G) (cI cL cZ : ClassId) (A : Nat → Prop) : Prop := aj_C p s m args c D clss (ty3 cI cL cZ) A b_Tal_leastUnit 1 R_Tal TB
abbrev J_Tal_leastUnit (p : Program) (l : Launch) (e : Env) (s : State) (m : MethodId) (args : Array Value) (below : List Frame) (meth : Method) (c : Code) (D : va_G) (cI cL cZ : ClassId) (A : Nat → Prop) (O : Int32 → va_W → Prop) (mc ms : Nat) (ws : va_W) (kc ks pc : Nat) (lv : List (Nat × Value)) (st : List Value) : Prop := aj p l e { frames := 2, cells := mc, slots := ms, locals := 44 } s m args below meth c (MQ below (qI D clss (ty3 cI cL cZ) O A) args s mc ms A) D clss A 1 ws kc ks pc lv st
def O_Tal_leastUnit (cI cL cZ : ClassId) (o_Tal o_Sto a_Tal_0 a_Tal_1 a_Tal_2 a_Tal_3 : Nat) (v_Tal : T_Tal) (out : Int32) : Int32 → va_W → Prop := fun r w1 => out = r ∧ w1 = w_Tal cI cL cZ o_Tal o_Sto a_Tal_0 a_Tal_1 a_Tal_2 a_Tal_3 v_Tal
def m_Tal_leastUnit (v_Tal : T_Tal) : Option (Int32) := ((m_Tal_least v_Tal.2.1).bind fun r3 => (some r3))
set_option maxRecDepth 100000 in
set_option maxHeartbeats 4000000 in
theorem c_Tal_leastUnit {l : Launch} {D : va_G} {cI cL cZ : ClassId} (o_Tal o_Sto a_Tal_0 a_Tal_1 a_Tal_2 a_Tal_3 : Nat) (v_Tal : T_Tal) (out : Int32) (hm : m_Tal_leastUnit v_Tal = some out) : ct l y_Tal_leastUnit (Cond.code y_Tal_leastUnit b_Tal_leastUnit 1 (some .int) :: TB) 2 44 D clss (ty3 cI cL cZ) NM0 NF0 [.ref o_Tal] (w_Tal cI cL cZ o_Tal o_Sto a_Tal_0 a_Tal_1 a_Tal_2 a_Tal_3 v_Tal) (qI D clss (ty3 cI cL cZ) (O_Tal_leastUnit cI cL cZ o_Tal o_Sto a_Tal_0 a_Tal_1 a_Tal_2 a_Tal_3 v_Tal out)) 0 0 := by
  refine ct_of (plainFor_of_name (by decide)) (Nat.le_of_ble_eq_true rfl) (fun p e s m args below meth c A X N hr hlk hnm => ?_)
  refine aj_lv (lv' := [(0, .ref o_Tal)]) [0] rfl ?_
  unfold m_Tal_leastUnit at hm
  refine aj_aload_n X d_Tal_leastUnit_0 0 rfl ?_
  refine aj_get X d_Tal_leastUnit_1 in_Tal 0 rfl rfl 2 (by decide) lf_Tal_19 rfl ?_
  obtain ⟨r3, h4, hm⟩ := bnd_of hm
  refine aj_callI (wr := [(o_Tal, .inr (4, [.ref o_Sto, .ref a_Tal_0, .ref a_Tal_1, .ref a_Tal_2, .ref a_Tal_3])), (a_Tal_0, .inl (cL, v_Tal.1.1, .inr (.inl v_Tal.1.2))), (a_Tal_2, .inl (cI, v_Tal.2.2.1.1, .inl v_Tal.2.2.1.2)), (a_Tal_3, .inl (cI, v_Tal.2.2.2.1, .inl v_Tal.2.2.2.2))]) X (aj_rS (As := [.ref a_Tal_1]) (rest := []) X N gTB (c_Tal_least (D := D) (cI := cI) (cL := cL) (cZ := cZ) a_Tal_1 v_Tal.2.1 r3 h4) d_Tal_leastUnit_4 lk_Tal_least lw_Tal_58 lh_Tal_least ⟨(Nat.le_of_ble_eq_true rfl), (Nat.le_of_ble_eq_true rfl)⟩ [2] rfl rfl rfl (Nat.le_of_ble_eq_true rfl) ⟨Nat.le_refl _, Nat.le_refl _⟩) [2] [0, 1, 3, 4] rfl rfl rfl (by decide) (fun rr w1 hO => ?_)
  obtain ⟨rfl, rfl⟩ := hO
  refine aj_perm (ws' := w_Tal cI cL cZ o_Tal o_Sto a_Tal_0 a_Tal_1 a_Tal_2 a_Tal_3 v_Tal) [0, 1, 4, 2, 3] rfl rfl ?_
  have ho := Option.some.inj hm
  subst ho
  exact aj_iret X d_Tal_leastUnit_7 hr hlk [0, 1, 2, 3, 4] (w_Tal cI cL cZ o_Tal o_Sto a_Tal_0 a_Tal_1 a_Tal_2 a_Tal_3 v_Tal) rfl rfl ⟨rfl, rfl⟩
abbrev X_Tra_has (p : Program) (s : State) (m : MethodId) (args : Array Value) (c : Code) (D : va_G) (cI cL cZ : ClassId) (A : Nat → Prop) : Prop := aj_C p s m args c D clss (ty3 cI cL cZ) A b_Tra_has 2 R_Tra TB
abbrev J_Tra_has (p : Program) (l : Launch) (e : Env) (s : State) (m : MethodId) (args : Array Value) (below : List Frame) (meth : Method) (c : Code) (D : va_G) (cI cL cZ : ClassId) (A : Nat → Prop) (O : Int32 → va_W → Prop) (mc ms : Nat) (ws : va_W) (kc ks pc : Nat) (lv : List (Nat × Value)) (st : List Value) : Prop := aj p l e { frames := 0, cells := mc, slots := ms, locals := 0 } s m args below meth c (MQ below (qI D clss (ty3 cI cL cZ) O A) args s mc ms A) D clss A 2 ws kc ks pc lv st
def O_Tra_has (cI cL cZ : ClassId) (o_Tra o_Tal a_Tra_0 a_Tra_1 a_Tra_2 a_Tra_3 : Nat) (v_Tra : T_Tra) (out : Int32) : Int32 → va_W → Prop := fun r w1 => out = r ∧ w1 = w_Tra cI cL cZ o_Tra o_Tal a_Tra_0 a_Tra_1 a_Tra_2 a_Tra_3 v_Tra
def m_Tra_has (v_Tra : T_Tra) (x1 : Int32) : Option (Int32) := (if ¬ (x1 < 0 ∨ v_Tra.2.2.2.1.1 ≤ (x1).toNatClampNeg) then (if (v_Tra.2.2.2.1.2 (x1).toNatClampNeg) = (-1 : Int32) then (some (0 : Int32)) else (some (1 : Int32))) else none)
set_option maxRecDepth 100000 in
set_option maxHeartbeats 4000000 in
theorem c_Tra_has {l : Launch} {D : va_G} {cI cL cZ : ClassId} (o_Tra o_Tal a_Tra_0 a_Tra_1 a_Tra_2 a_Tra_3 : Nat) (v_Tra : T_Tra) (x1 : Int32) (out : Int32) (hm : m_Tra_has v_Tra x1 = some out) : ct l y_Tra_has (Cond.code y_Tra_has b_Tra_has 2 (some .boolean) :: TB) 0 0 D clss (ty3 cI cL cZ) NM0 NF0 [.ref o_Tra, .int x1] (w_Tra cI cL cZ o_Tra o_Tal a_Tra_0 a_Tra_1 a_Tra_2 a_Tra_3 v_Tra) (qI D clss (ty3 cI cL cZ) (O_Tra_has cI cL cZ o_Tra o_Tal a_Tra_0 a_Tra_1 a_Tra_2 a_Tra_3 v_Tra out)) 0 0 := by
  refine ct_of (plainFor_of_name (by decide)) (Nat.le_of_ble_eq_true rfl) (fun p e s m args below meth c A X N hr hlk hnm => ?_)
  refine aj_lv (lv' := [(0, .ref o_Tra), (1, .int x1)]) [0, 1] rfl ?_
  unfold m_Tra_has at hm
  refine aj_aload_n X d_Tra_has_0 0 rfl ?_
  refine aj_get X d_Tra_has_1 in_Tra 0 rfl rfl 4 (by decide) lf_Tra_26 rfl ?_
  refine aj_iload_n X d_Tra_has_4 1 rfl ?_
  obtain ⟨b1, hm⟩ := chk_of hm
  refine aj_iald X d_Tra_has_5 2 0 rfl rfl b1 ?_
  refine aj_iconst (v := (-1 : Int32)) X d_Tra_has_6 (by decide) ?_
  refine aj_icmp_eq X 14 d_Tra_has_7 (by decide) (fun h => ?_) (fun h => ?_)
  · have hm := ite_t hm h
    refine aj_iconst (v := (0 : Int32)) X d_Tra_has_14 (by decide) ?_
    have ho := Option.some.inj hm
    subst ho
    exact aj_zret X d_Tra_has_15 hr hlk (by decide) [0, 1, 2, 3, 4] (w_Tra cI cL cZ o_Tra o_Tal a_Tra_0 a_Tra_1 a_Tra_2 a_Tra_3 v_Tra) rfl rfl ⟨rfl, rfl⟩
  · have hm := ite_f hm h
    refine aj_iconst (v := (1 : Int32)) X d_Tra_has_10 (by decide) ?_
    refine aj_goto X 15 d_Tra_has_11 (by decide) ?_
    have ho := Option.some.inj hm
    subst ho
    exact aj_zret X d_Tra_has_15 hr hlk (by decide) [0, 1, 2, 3, 4] (w_Tra cI cL cZ o_Tra o_Tal a_Tra_0 a_Tra_1 a_Tra_2 a_Tra_3 v_Tra) rfl rfl ⟨rfl, rfl⟩
abbrev X_Sea_follow (p : Program) (s : State) (m : MethodId) (args : Array Value) (c : Code) (D : va_G) (cI cL cZ : ClassId) (A : Nat → Prop) : Prop := aj_C p s m args c D clss (ty3 cI cL cZ) A b_Sea_follow 5 R_Sea TB
abbrev J_Sea_follow (p : Program) (l : Launch) (e : Env) (s : State) (m : MethodId) (args : Array Value) (below : List Frame) (meth : Method) (c : Code) (D : va_G) (cI cL cZ : ClassId) (A : Nat → Prop) (O : Int32 → va_W → Prop) (mc ms : Nat) (ws : va_W) (kc ks pc : Nat) (lv : List (Nat × Value)) (st : List Value) : Prop := aj p l e { frames := 3, cells := mc, slots := ms, locals := 73 } s m args below meth c (MQ below (qI D clss (ty3 cI cL cZ) O A) args s mc ms A) D clss A 5 ws kc ks pc lv st
def O_Sea_follow (cI cL cZ : ClassId) (o_Sto o_Tal o_Tra o_Sea o_Ass a_Sto_0 a_Sto_1 a_Sto_2 a_Sto_3 a_Sto_4 a_Tal_0 a_Tal_1 a_Tal_2 a_Tal_3 a_Tra_0 a_Tra_1 a_Tra_2 a_Tra_3 a_Sea_0 a_Sea_1 a_Sea_2 : Nat) (v_Sto : T_Sto) (v_Sea : T_Sea) (out : T_Tal × T_Tra × Int32) : Int32 → va_W → Prop := fun r w1 => out.2.2 = r ∧ w1 = w_Sto cI cL cZ o_Sto a_Sto_0 a_Sto_1 a_Sto_2 a_Sto_3 a_Sto_4 v_Sto ++ w_Tal cI cL cZ o_Tal o_Sto a_Tal_0 a_Tal_1 a_Tal_2 a_Tal_3 out.1 ++ w_Tra cI cL cZ o_Tra o_Tal a_Tra_0 a_Tra_1 a_Tra_2 a_Tra_3 out.2.1 ++ w_Sea cI cL cZ o_Sea o_Sto o_Tra o_Tal o_Ass a_Sea_0 a_Sea_1 a_Sea_2 v_Sea
def m_Sea_follow_L18 (v_Sto : T_Sto) (v_Sea : T_Sea) : Nat → T_Tal → T_Tra → Int32 → Int32 → Int32 → Option (T_Tal × T_Tra × Int32)
  | 0, _, _, _, _, _ => none
  | f + 1, v_Tal, v_Tra, x1, x2, x3 => (if x2 ≤ x3 then (some (v_Tal, v_Tra, (4 : Int32))) else (if ¬ (x3 < 0 ∨ v_Sto.2.2.1.1 ≤ (x3).toNatClampNeg) then ((m_Tra_has v_Tra ((v_Sto.2.2.1.2 (x3).toNatClampNeg) >>> ((1 : Int32) &&& 31))).bind fun r10 => (if r10 = 0 then ((m_Tra_put v_Sto v_Tal v_Tra (v_Sto.2.2.1.2 (x3).toNatClampNeg) x1).bind fun r12 => (some (r12.1, r12.2, (4 : Int32)))) else ((m_Sea_follow_L18 v_Sto v_Sea f) v_Tal v_Tra x1 x2 (x3 + 1)))) else none))
set_option maxRecDepth 100000 in
set_option maxHeartbeats 4000000 in
theorem c_Sea_follow_L18 {l : Launch} {D : va_G} {cI cL cZ : ClassId} {p : Program} {e : Env} {s : State} {m : MethodId} {args : Array Value} {below : List Frame} {meth : Method} {c : Code} {A : Nat → Prop} (o_Sto o_Tal o_Tra o_Sea o_Ass a_Sto_0 a_Sto_1 a_Sto_2 a_Sto_3 a_Sto_4 a_Tal_0 a_Tal_1 a_Tal_2 a_Tal_3 a_Tra_0 a_Tra_1 a_Tra_2 a_Tra_3 a_Sea_0 a_Sea_1 a_Sea_2 : Nat) (v_Sto : T_Sto) (v_Sea : T_Sea) (out : T_Tal × T_Tra × Int32) (X : X_Sea_follow p s m args c D cI cL cZ A) (N : nk NM0 NF0 s) (hr : meth.sig.returnType = some .int) (hlk : meth.locks = false) : ∀ (nn : Nat), ∀ (v_Tal : T_Tal) (v_Tra : T_Tra) (x1 : Int32) (x2 : Int32) (x3 : Int32), m_Sea_follow_L18 v_Sto v_Sea nn v_Tal v_Tra x1 x2 x3 = some out → J_Sea_follow p l e s m args below meth c D cI cL cZ A (O_Sea_follow cI cL cZ o_Sto o_Tal o_Tra o_Sea o_Ass a_Sto_0 a_Sto_1 a_Sto_2 a_Sto_3 a_Sto_4 a_Tal_0 a_Tal_1 a_Tal_2 a_Tal_3 a_Tra_0 a_Tra_1 a_Tra_2 a_Tra_3 a_Sea_0 a_Sea_1 a_Sea_2 v_Sto v_Sea out) 0 0 (w_Sto cI cL cZ o_Sto a_Sto_0 a_Sto_1 a_Sto_2 a_Sto_3 a_Sto_4 v_Sto ++ w_Tal cI cL cZ o_Tal o_Sto a_Tal_0 a_Tal_1 a_Tal_2 a_Tal_3 v_Tal ++ w_Tra cI cL cZ o_Tra o_Tal a_Tra_0 a_Tra_1 a_Tra_2 a_Tra_3 v_Tra ++ w_Sea cI cL cZ o_Sea o_Sto o_Tra o_Tal o_Ass a_Sea_0 a_Sea_1 a_Sea_2 v_Sea) 0 0 18 [(0, .ref o_Sea), (1, .int x1), (2, .int x2), (3, .int x3)] [] := by
  intro nn
  induction nn with
  | zero => intro v_Tal v_Tra x1 x2 x3 hm; exact absurd hm (by simp [m_Sea_follow_L18])
  | succ nn ih18 =>
    intro v_Tal v_Tra x1 x2 x3 hm
    unfold m_Sea_follow_L18 at hm
    refine aj_iload_n X d_Sea_follow_18 3 rfl ?_
    refine aj_iload_n X d_Sea_follow_19 2 rfl ?_
    refine aj_icmp_ge X 66 d_Sea_follow_20 (by decide) (fun h => ?_) (fun h => ?_)
    · have hm := ite_t hm h
      refine aj_iconst (v := (4 : Int32)) X d_Sea_follow_66 (by decide) ?_
      have ho := Option.some.inj hm
      subst ho
      exact aj_iret X d_Sea_follow_67 hr hlk [0, 1, 2, 3, 4, 5, 6, 7, 8, 9, 10, 11, 12, 13, 14, 15, 16, 17, 18, 19] (w_Sto cI cL cZ o_Sto a_Sto_0 a_Sto_1 a_Sto_2 a_Sto_3 a_Sto_4 v_Sto ++ w_Tal cI cL cZ o_Tal o_Sto a_Tal_0 a_Tal_1 a_Tal_2 a_Tal_3 v_Tal ++ w_Tra cI cL cZ o_Tra o_Tal a_Tra_0 a_Tra_1 a_Tra_2 a_Tra_3 v_Tra ++ w_Sea cI cL cZ o_Sea o_Sto o_Tra o_Tal o_Ass a_Sea_0 a_Sea_1 a_Sea_2 v_Sea) rfl rfl ⟨rfl, rfl⟩
    · have hm := ite_f hm h
      refine aj_aload_n X d_Sea_follow_23 0 rfl ?_
      refine aj_get X d_Sea_follow_24 in_Sea 16 rfl rfl 3 (by decide) lf_Sea_15 rfl ?_
      refine aj_get X d_Sea_follow_27 in_Sto 0 rfl rfl 2 (by decide) lf_Sea_121 rfl ?_
      refine aj_iload_n X d_Sea_follow_30 3 rfl ?_
      obtain ⟨b9, hm⟩ := chk_of hm
      refine aj_iald X d_Sea_follow_31 1 0 rfl rfl b9 ?_
      refine aj_istore (lv' := [(4, .int (v_Sto.2.2.1.2 (x3).toNatClampNeg)), (0, .ref o_Sea), (1, .int x1), (2, .int x2), (3, .int x3)]) X d_Sea_follow_32 (by decide) rfl ?_
      refine aj_aload_n X d_Sea_follow_34 1 rfl ?_
      refine aj_get X d_Sea_follow_35 in_Sea 16 rfl rfl 4 (by decide) lf_Sea_19 rfl ?_
      refine aj_iload X d_Sea_follow_38 0 rfl ?_
      refine aj_iconst (v := (1 : Int32)) X d_Sea_follow_40 (by decide) ?_
      refine aj_ishr X d_Sea_follow_41 ?_
      obtain ⟨r10, h11, hm⟩ := bnd_of hm
      refine aj_callI (wr := [(o_Sto, .inr (3, [.int v_Sto.1, .int v_Sto.2.1, .ref a_Sto_0, .ref a_Sto_1, .ref a_Sto_2, .ref a_Sto_3, .ref a_Sto_4])), (a_Sto_0, .inl (cI, v_Sto.2.2.1.1, .inl v_Sto.2.2.1.2)), (a_Sto_1, .inl (cI, v_Sto.2.2.2.1.1, .inl v_Sto.2.2.2.1.2)), (a_Sto_2, .inl (cI, v_Sto.2.2.2.2.1.1, .inl v_Sto.2.2.2.2.1.2)), (a_Sto_3, .inl (cI, v_Sto.2.2.2.2.2.1.1, .inl v_Sto.2.2.2.2.2.1.2)), (a_Sto_4, .inl (cI, v_Sto.2.2.2.2.2.2.1, .inl v_Sto.2.2.2.2.2.2.2)), (o_Tal, .inr (4, [.ref o_Sto, .ref a_Tal_0, .ref a_Tal_1, .ref a_Tal_2, .ref a_Tal_3])), (a_Tal_0, .inl (cL, v_Tal.1.1, .inr (.inl v_Tal.1.2))), (a_Tal_1, .inl (cL, v_Tal.2.1.1, .inr (.inl v_Tal.2.1.2))), (a_Tal_2, .inl (cI, v_Tal.2.2.1.1, .inl v_Tal.2.2.1.2)), (a_Tal_3, .inl (cI, v_Tal.2.2.2.1, .inl v_Tal.2.2.2.2)), (o_Sea, .inr (2, [.int v_Sea.1, .long v_Sea.2.1, .int v_Sea.2.2.1, .ref o_Sto, .ref o_Tra, .ref o_Tal, .ref o_Ass, .ref a_Sea_0, .ref a_Sea_1, .int v_Sea.2.2.2.2.2.1, .ref a_Sea_2, .long v_Sea.2.2.2.2.2.2.2])), (a_Sea_0, .inl (cI, v_Sea.2.2.2.1.1, .inl v_Sea.2.2.2.1.2)), (a_Sea_1, .inl (cI, v_Sea.2.2.2.2.1.1, .inl v_Sea.2.2.2.2.1.2)), (a_Sea_2, .inl (cI, v_Sea.2.2.2.2.2.2.1.1, .inl v_Sea.2.2.2.2.2.2.1.2))]) X (aj_rV (As := [.int ((v_Sto.2.2.1.2 (x3).toNatClampNeg) >>> ((1 : Int32) &&& 31))]) (rest := []) X N gTB (c_Tra_has (D := D) (cI := cI) (cL := cL) (cZ := cZ) o_Tra o_Tal a_Tra_0 a_Tra_1 a_Tra_2 a_Tra_3 v_Tra ((v_Sto.2.2.1.2 (x3).toNatClampNeg) >>> ((1 : Int32) &&& 31)) r10 h11) d_Sea_follow_42 lk_Tra_has lw_Sea_122 lh_Tra_has ⟨(Nat.le_of_ble_eq_true rfl), (Nat.le_of_ble_eq_true rfl)⟩ [11, 12, 13, 14, 15] rfl rfl 0 rfl rfl rfl rfl (Nat.le_of_ble_eq_true rfl) ⟨Nat.le_refl _, Nat.le_refl _⟩) [11, 12, 13, 14, 15] [0, 1, 2, 3, 4, 5, 6, 7, 8, 9, 10, 16, 17, 18, 19] rfl rfl rfl (by decide) (fun rr w1 hO => ?_)
      obtain ⟨rfl, rfl⟩ := hO
      refine aj_perm (ws' := w_Sto cI cL cZ o_Sto a_Sto_0 a_Sto_1 a_Sto_2 a_Sto_3 a_Sto_4 v_Sto ++ w_Tal cI cL cZ o_Tal o_Sto a_Tal_0 a_Tal_1 a_Tal_2 a_Tal_3 v_Tal ++ w_Tra cI cL cZ o_Tra o_Tal a_Tra_0 a_Tra_1 a_Tra_2 a_Tra_3 v_Tra ++ w_Sea cI cL cZ o_Sea o_Sto o_Tra o_Tal o_Ass a_Sea_0 a_Sea_1 a_Sea_2 v_Sea) [0, 1, 2, 3, 4, 5, 6, 7, 8, 9, 10, 15, 16, 17, 18, 19, 11, 12, 13, 14] rfl rfl ?_
      refine aj_if_ne X 60 d_Sea_follow_45 (by decide) (fun h => ?_) (fun h => ?_)
      · have hm := ite_f hm h
        refine aj_iinc (v := (x3 + 1)) (lv' := [(3, .int (x3 + 1)), (4, .int (v_Sto.2.2.1.2 (x3).toNatClampNeg)), (0, .ref o_Sea), (1, .int x1), (2, .int x2)]) X d_Sea_follow_60 4 rfl rfl (by decide) rfl ?_
        refine aj_goto X 18 d_Sea_follow_63 (by decide) ?_
        refine aj_lv (lv' := [(0, .ref o_Sea), (1, .int x1), (2, .int x2), (3, .int (x3 + 1))]) [2, 3, 4, 0] rfl ?_
        exact ih18 v_Tal v_Tra x1 x2 (x3 + 1) hm
      · have hm := ite_t hm h
        refine aj_aload_n X d_Sea_follow_48 1 rfl ?_
        refine aj_get X d_Sea_follow_49 in_Sea 16 rfl rfl 4 (by decide) lf_Sea_19 rfl ?_
        refine aj_iload X d_Sea_follow_52 0 rfl ?_
        refine aj_iload_n X d_Sea_follow_54 2 rfl ?_
        obtain ⟨r12, h13, hm⟩ := bnd_of hm
        refine aj_callV (wr := [(o_Sea, .inr (2, [.int v_Sea.1, .long v_Sea.2.1, .int v_Sea.2.2.1, .ref o_Sto, .ref o_Tra, .ref o_Tal, .ref o_Ass, .ref a_Sea_0, .ref a_Sea_1, .int v_Sea.2.2.2.2.2.1, .ref a_Sea_2, .long v_Sea.2.2.2.2.2.2.2])), (a_Sea_0, .inl (cI, v_Sea.2.2.2.1.1, .inl v_Sea.2.2.2.1.2)), (a_Sea_1, .inl (cI, v_Sea.2.2.2.2.1.1, .inl v_Sea.2.2.2.2.1.2)), (a_Sea_2, .inl (cI, v_Sea.2.2.2.2.2.2.1.1, .inl v_Sea.2.2.2.2.2.2.1.2))]) X (aj_rV (As := [.int (v_Sto.2.2.1.2 (x3).toNatClampNeg), .int x1]) (rest := []) X N gTB (c_Tra_put (D := D) (cI := cI) (cL := cL) (cZ := cZ) o_Sto o_Tal o_Tra a_Sto_0 a_Sto_1 a_Sto_2 a_Sto_3 a_Sto_4 a_Tal_0 a_Tal_1 a_Tal_2 a_Tal_3 a_Tra_0 a_Tra_1 a_Tra_2 a_Tra_3 v_Sto v_Tal v_Tra (v_Sto.2.2.1.2 (x3).toNatClampNeg) x1 r12 h13) d_Sea_follow_55 lk_Tra_put lw_Sea_125 lh_Tra_put ⟨(Nat.le_of_ble_eq_true rfl), (Nat.le_of_ble_eq_true rfl)⟩ [0, 1, 2, 3, 4, 5, 6, 7, 8, 9, 10, 11, 12, 13, 14, 15] rfl rfl 11 rfl rfl rfl rfl (Nat.le_of_ble_eq_true rfl) ⟨Nat.le_refl _, Nat.le_refl _⟩) [0, 1, 2, 3, 4, 5, 6, 7, 8, 9, 10, 11, 12, 13, 14, 15] [16, 17, 18, 19] rfl rfl rfl (by decide) (fun w1 hO => ?_)
        obtain rfl := hO
        refine aj_perm (ws' := w_Sto cI cL cZ o_Sto a_Sto_0 a_Sto_1 a_Sto_2 a_Sto_3 a_Sto_4 v_Sto ++ w_Tal cI cL cZ o_Tal o_Sto a_Tal_0 a_Tal_1 a_Tal_2 a_Tal_3 r12.1 ++ w_Tra cI cL cZ o_Tra o_Tal a_Tra_0 a_Tra_1 a_Tra_2 a_Tra_3 r12.2 ++ w_Sea cI cL cZ o_Sea o_Sto o_Tra o_Tal o_Ass a_Sea_0 a_Sea_1 a_Sea_2 v_Sea) [4, 5, 6, 7, 8, 9, 10, 11, 12, 13, 14, 15, 16, 17, 18, 19, 0, 1, 2, 3] rfl rfl ?_
        refine aj_iconst (v := (4 : Int32)) X d_Sea_follow_58 (by decide) ?_
        have ho := Option.some.inj hm
        subst ho
        exact aj_iret X d_Sea_follow_59 hr hlk [0, 1, 2, 3, 4, 5, 6, 7, 8, 9, 10, 11, 12, 13, 14, 15, 16, 17, 18, 19] (w_Sto cI cL cZ o_Sto a_Sto_0 a_Sto_1 a_Sto_2 a_Sto_3 a_Sto_4 v_Sto ++ w_Tal cI cL cZ o_Tal o_Sto a_Tal_0 a_Tal_1 a_Tal_2 a_Tal_3 r12.1 ++ w_Tra cI cL cZ o_Tra o_Tal a_Tra_0 a_Tra_1 a_Tra_2 a_Tra_3 r12.2 ++ w_Sea cI cL cZ o_Sea o_Sto o_Tra o_Tal o_Ass a_Sea_0 a_Sea_1 a_Sea_2 v_Sea) rfl rfl ⟨rfl, rfl⟩
def m_Sea_follow (v_Sto : T_Sto) (v_Sea : T_Sea) (v_Tal : T_Tal) (v_Tra : T_Tra) (x1 : Int32) : Option (T_Tal × T_Tra × Int32) := ((m_Sto_endOf v_Sto x1).bind fun r14 => ((m_Sto_startOf v_Sto x1).bind fun r16 => (m_Sea_follow_L18 v_Sto v_Sea fu v_Tal v_Tra x1 r14 r16)))
set_option maxRecDepth 100000 in
set_option maxHeartbeats 4000000 in
theorem c_Sea_follow {l : Launch} {D : va_G} {cI cL cZ : ClassId} (o_Sto o_Tal o_Tra o_Sea o_Ass a_Sto_0 a_Sto_1 a_Sto_2 a_Sto_3 a_Sto_4 a_Tal_0 a_Tal_1 a_Tal_2 a_Tal_3 a_Tra_0 a_Tra_1 a_Tra_2 a_Tra_3 a_Sea_0 a_Sea_1 a_Sea_2 : Nat) (v_Sto : T_Sto) (v_Sea : T_Sea) (v_Tal : T_Tal) (v_Tra : T_Tra) (x1 : Int32) (out : T_Tal × T_Tra × Int32) (hm : m_Sea_follow v_Sto v_Sea v_Tal v_Tra x1 = some out) : ct l y_Sea_follow (Cond.code y_Sea_follow b_Sea_follow 5 (some .int) :: TB) 3 73 D clss (ty3 cI cL cZ) NM0 NF0 [.ref o_Sea, .int x1] (w_Sto cI cL cZ o_Sto a_Sto_0 a_Sto_1 a_Sto_2 a_Sto_3 a_Sto_4 v_Sto ++ w_Tal cI cL cZ o_Tal o_Sto a_Tal_0 a_Tal_1 a_Tal_2 a_Tal_3 v_Tal ++ w_Tra cI cL cZ o_Tra o_Tal a_Tra_0 a_Tra_1 a_Tra_2 a_Tra_3 v_Tra ++ w_Sea cI cL cZ o_Sea o_Sto o_Tra o_Tal o_Ass a_Sea_0 a_Sea_1 a_Sea_2 v_Sea) (qI D clss (ty3 cI cL cZ) (O_Sea_follow cI cL cZ o_Sto o_Tal o_Tra o_Sea o_Ass a_Sto_0 a_Sto_1 a_Sto_2 a_Sto_3 a_Sto_4 a_Tal_0 a_Tal_1 a_Tal_2 a_Tal_3 a_Tra_0 a_Tra_1 a_Tra_2 a_Tra_3 a_Sea_0 a_Sea_1 a_Sea_2 v_Sto v_Sea out)) 0 0 := by
  refine ct_of (plainFor_of_name (by decide)) (Nat.le_of_ble_eq_true rfl) (fun p e s m args below meth c A X N hr hlk hnm => ?_)
  refine aj_lv (lv' := [(0, .ref o_Sea), (1, .int x1)]) [0, 1] rfl ?_
  unfold m_Sea_follow at hm
  refine aj_aload_n X d_Sea_follow_0 0 rfl ?_
  refine aj_get X d_Sea_follow_1 in_Sea 16 rfl rfl 3 (by decide) lf_Sea_15 rfl ?_
  refine aj_iload_n X d_Sea_follow_4 1 rfl ?_
  obtain ⟨r14, h15, hm⟩ := bnd_of hm
  refine aj_callI (wr := [(o_Tal, .inr (4, [.ref o_Sto, .ref a_Tal_0, .ref a_Tal_1, .ref a_Tal_2, .ref a_Tal_3])), (a_Tal_0, .inl (cL, v_Tal.1.1, .inr (.inl v_Tal.1.2))), (a_Tal_1, .inl (cL, v_Tal.2.1.1, .inr (.inl v_Tal.2.1.2))), (a_Tal_2, .inl (cI, v_Tal.2.2.1.1, .inl v_Tal.2.2.1.2)), (a_Tal_3, .inl (cI, v_Tal.2.2.2.1, .inl v_Tal.2.2.2.2)), (o_Tra, .inr (5, [.int v_Tra.1, .int v_Tra.2.1, .ref a_Tra_0, .ref o_Tal, .ref a_Tra_1, .ref a_Tra_2, .ref a_Tra_3])), (a_Tra_0, .inl (cI, v_Tra.2.2.1.1, .inl v_Tra.2.2.1.2)), (a_Tra_1, .inl (cI, v_Tra.2.2.2.1.1, .inl v_Tra.2.2.2.1.2)), (a_Tra_2, .inl (cI, v_Tra.2.2.2.2.1.1, .inl v_Tra.2.2.2.2.1.2)), (a_Tra_3, .inl (cI, v_Tra.2.2.2.2.2.1, .inl v_Tra.2.2.2.2.2.2)), (o_Sea, .inr (2, [.int v_Sea.1, .long v_Sea.2.1, .int v_Sea.2.2.1, .ref o_Sto, .ref o_Tra, .ref o_Tal, .ref o_Ass, .ref a_Sea_0, .ref a_Sea_1, .int v_Sea.2.2.2.2.2.1, .ref a_Sea_2, .long v_Sea.2.2.2.2.2.2.2])), (a_Sea_0, .inl (cI, v_Sea.2.2.2.1.1, .inl v_Sea.2.2.2.1.2)), (a_Sea_1, .inl (cI, v_Sea.2.2.2.2.1.1, .inl v_Sea.2.2.2.2.1.2)), (a_Sea_2, .inl (cI, v_Sea.2.2.2.2.2.2.1.1, .inl v_Sea.2.2.2.2.2.2.1.2))]) X (aj_rV (As := [.int x1]) (rest := []) X N gTB (c_Sto_endOf (D := D) (cI := cI) (cL := cL) (cZ := cZ) o_Sto a_Sto_0 a_Sto_1 a_Sto_2 a_Sto_3 a_Sto_4 v_Sto x1 r14 h15) d_Sea_follow_5 lk_Sto_endOf lw_Sea_113 lh_Sto_endOf ⟨(Nat.le_of_ble_eq_true rfl), (Nat.le_of_ble_eq_true rfl)⟩ [0, 1, 2, 3, 4, 5] rfl rfl 0 rfl rfl rfl rfl (Nat.le_of_ble_eq_true rfl) ⟨Nat.le_refl _, Nat.le_refl _⟩) [0, 1, 2, 3, 4, 5] [6, 7, 8, 9, 10, 11, 12, 13, 14, 15, 16, 17, 18, 19] rfl rfl rfl (by decide) (fun rr w1 hO => ?_)
  obtain ⟨rfl, rfl⟩ := hO
  refine aj_perm (ws' := w_Sto cI cL cZ o_Sto a_Sto_0 a_Sto_1 a_Sto_2 a_Sto_3 a_Sto_4 v_Sto ++ w_Tal cI cL cZ o_Tal o_Sto a_Tal_0 a_Tal_1 a_Tal_2 a_Tal_3 v_Tal ++ w_Tra cI cL cZ o_Tra o_Tal a_Tra_0 a_Tra_1 a_Tra_2 a_Tra_3 v_Tra ++ w_Sea cI cL cZ o_Sea o_Sto o_Tra o_Tal o_Ass a_Sea_0 a_Sea_1 a_Sea_2 v_Sea) [14, 15, 16, 17, 18, 19, 0, 1, 2, 3, 4, 5, 6, 7, 8, 9, 10, 11, 12, 13] rfl rfl ?_
  refine aj_istore_n (lv' := [(2, .int r14), (0, .ref o_Sea), (1, .int x1)]) X d_Sea_follow_8 rfl (by decide) rfl ?_
  refine aj_aload_n X d_Sea_follow_9 1 rfl ?_
  refine aj_get X d_Sea_follow_10 in_Sea 16 rfl rfl 3 (by decide) lf_Sea_15 rfl ?_
  refine aj_iload_n X d_Sea_follow_13 2 rfl ?_
  obtain ⟨r16, h17, hm⟩ := bnd_of hm
  refine aj_callI (wr := [(o_Tal, .inr (4, [.ref o_Sto, .ref a_Tal_0, .ref a_Tal_1, .ref a_Tal_2, .ref a_Tal_3])), (a_Tal_0, .inl (cL, v_Tal.1.1, .inr (.inl v_Tal.1.2))), (a_Tal_1, .inl (cL, v_Tal.2.1.1, .inr (.inl v_Tal.2.1.2))), (a_Tal_2, .inl (cI, v_Tal.2.2.1.1, .inl v_Tal.2.2.1.2)), (a_Tal_3, .inl (cI, v_Tal.2.2.2.1, .inl v_Tal.2.2.2.2)), (o_Tra, .inr (5, [.int v_Tra.1, .int v_Tra.2.1, .ref a_Tra_0, .ref o_Tal, .ref a_Tra_1, .ref a_Tra_2, .ref a_Tra_3])), (a_Tra_0, .inl (cI, v_Tra.2.2.1.1, .inl v_Tra.2.2.1.2)), (a_Tra_1, .inl (cI, v_Tra.2.2.2.1.1, .inl v_Tra.2.2.2.1.2)), (a_Tra_2, .inl (cI, v_Tra.2.2.2.2.1.1, .inl v_Tra.2.2.2.2.1.2)), (a_Tra_3, .inl (cI, v_Tra.2.2.2.2.2.1, .inl v_Tra.2.2.2.2.2.2)), (o_Sea, .inr (2, [.int v_Sea.1, .long v_Sea.2.1, .int v_Sea.2.2.1, .ref o_Sto, .ref o_Tra, .ref o_Tal, .ref o_Ass, .ref a_Sea_0, .ref a_Sea_1, .int v_Sea.2.2.2.2.2.1, .ref a_Sea_2, .long v_Sea.2.2.2.2.2.2.2])), (a_Sea_0, .inl (cI, v_Sea.2.2.2.1.1, .inl v_Sea.2.2.2.1.2)), (a_Sea_1, .inl (cI, v_Sea.2.2.2.2.1.1, .inl v_Sea.2.2.2.2.1.2)), (a_Sea_2, .inl (cI, v_Sea.2.2.2.2.2.2.1.1, .inl v_Sea.2.2.2.2.2.2.1.2))]) X (aj_rV (As := [.int x1]) (rest := []) X N gTB (c_Sto_startOf (D := D) (cI := cI) (cL := cL) (cZ := cZ) o_Sto a_Sto_0 a_Sto_1 a_Sto_2 a_Sto_3 a_Sto_4 v_Sto x1 r16 h17) d_Sea_follow_14 lk_Sto_startOf lw_Sea_118 lh_Sto_startOf ⟨(Nat.le_of_ble_eq_true rfl), (Nat.le_of_ble_eq_true rfl)⟩ [0, 1, 2, 3, 4, 5] rfl rfl 0 rfl rfl rfl rfl (Nat.le_of_ble_eq_true rfl) ⟨Nat.le_refl _, Nat.le_refl _⟩) [0, 1, 2, 3, 4, 5] [6, 7, 8, 9, 10, 11, 12, 13, 14, 15, 16, 17, 18, 19] rfl rfl rfl (by decide) (fun rr w1 hO => ?_)
  obtain ⟨rfl, rfl⟩ := hO
  refine aj_perm (ws' := w_Sto cI cL cZ o_Sto a_Sto_0 a_Sto_1 a_Sto_2 a_Sto_3 a_Sto_4 v_Sto ++ w_Tal cI cL cZ o_Tal o_Sto a_Tal_0 a_Tal_1 a_Tal_2 a_Tal_3 v_Tal ++ w_Tra cI cL cZ o_Tra o_Tal a_Tra_0 a_Tra_1 a_Tra_2 a_Tra_3 v_Tra ++ w_Sea cI cL cZ o_Sea o_Sto o_Tra o_Tal o_Ass a_Sea_0 a_Sea_1 a_Sea_2 v_Sea) [14, 15, 16, 17, 18, 19, 0, 1, 2, 3, 4, 5, 6, 7, 8, 9, 10, 11, 12, 13] rfl rfl ?_
  refine aj_istore_n (lv' := [(3, .int r16), (2, .int r14), (0, .ref o_Sea), (1, .int x1)]) X d_Sea_follow_17 rfl (by decide) rfl ?_
  refine aj_lv (lv' := [(0, .ref o_Sea), (1, .int x1), (2, .int r14), (3, .int r16)]) [2, 3, 1, 0] rfl ?_
  exact c_Sea_follow_L18 o_Sto o_Tal o_Tra o_Sea o_Ass a_Sto_0 a_Sto_1 a_Sto_2 a_Sto_3 a_Sto_4 a_Tal_0 a_Tal_1 a_Tal_2 a_Tal_3 a_Tra_0 a_Tra_1 a_Tra_2 a_Tra_3 a_Sea_0 a_Sea_1 a_Sea_2 v_Sto v_Sea out X N hr hlk fu v_Tal v_Tra x1 r14 r16 hm
abbrev X_Tra_holds (p : Program) (s : State) (m : MethodId) (args : Array Value) (c : Code) (D : va_G) (cI cL cZ : ClassId) (A : Nat → Prop) : Prop := aj_C p s m args c D clss (ty3 cI cL cZ) A b_Tra_holds 2 R_Tra TB
abbrev J_Tra_holds (p : Program) (l : Launch) (e : Env) (s : State) (m : MethodId) (args : Array Value) (below : List Frame) (meth : Method) (c : Code) (D : va_G) (cI cL cZ : ClassId) (A : Nat → Prop) (O : Int32 → va_W → Prop) (mc ms : Nat) (ws : va_W) (kc ks pc : Nat) (lv : List (Nat × Value)) (st : List Value) : Prop := aj p l e { frames := 0, cells := mc, slots := ms, locals := 0 } s m args below meth c (MQ below (qI D clss (ty3 cI cL cZ) O A) args s mc ms A) D clss A 2 ws kc ks pc lv st
def O_Tra_holds (cI cL cZ : ClassId) (o_Tra o_Tal a_Tra_0 a_Tra_1 a_Tra_2 a_Tra_3 : Nat) (v_Tra : T_Tra) (out : Int32) : Int32 → va_W → Prop := fun r w1 => out = r ∧ w1 = w_Tra cI cL cZ o_Tra o_Tal a_Tra_0 a_Tra_1 a_Tra_2 a_Tra_3 v_Tra
def m_Tra_holds (v_Tra : T_Tra) (x1 : Int32) : Option (Int32) := (if ¬ ((x1 >>> ((1 : Int32) &&& 31)) < 0 ∨ v_Tra.2.2.2.1.1 ≤ ((x1 >>> ((1 : Int32) &&& 31))).toNatClampNeg) then (if (v_Tra.2.2.2.1.2 ((x1 >>> ((1 : Int32) &&& 31))).toNatClampNeg) = x1 then (some (1 : Int32)) else (some (0 : Int32))) else none)
set_option maxRecDepth 100000 in
set_option maxHeartbeats 4000000 in
theorem c_Tra_holds {l : Launch} {D : va_G} {cI cL cZ : ClassId} (o_Tra o_Tal a_Tra_0 a_Tra_1 a_Tra_2 a_Tra_3 : Nat) (v_Tra : T_Tra) (x1 : Int32) (out : Int32) (hm : m_Tra_holds v_Tra x1 = some out) : ct l y_Tra_holds (Cond.code y_Tra_holds b_Tra_holds 2 (some .boolean) :: TB) 0 0 D clss (ty3 cI cL cZ) NM0 NF0 [.ref o_Tra, .int x1] (w_Tra cI cL cZ o_Tra o_Tal a_Tra_0 a_Tra_1 a_Tra_2 a_Tra_3 v_Tra) (qI D clss (ty3 cI cL cZ) (O_Tra_holds cI cL cZ o_Tra o_Tal a_Tra_0 a_Tra_1 a_Tra_2 a_Tra_3 v_Tra out)) 0 0 := by
  refine ct_of (plainFor_of_name (by decide)) (Nat.le_of_ble_eq_true rfl) (fun p e s m args below meth c A X N hr hlk hnm => ?_)
  refine aj_lv (lv' := [(0, .ref o_Tra), (1, .int x1)]) [0, 1] rfl ?_
  unfold m_Tra_holds at hm
  refine aj_aload_n X d_Tra_holds_0 0 rfl ?_
  refine aj_get X d_Tra_holds_1 in_Tra 0 rfl rfl 4 (by decide) lf_Tra_26 rfl ?_
  refine aj_iload_n X d_Tra_holds_4 1 rfl ?_
  refine aj_iconst (v := (1 : Int32)) X d_Tra_holds_5 (by decide) ?_
  refine aj_ishr X d_Tra_holds_6 ?_
  obtain ⟨b1, hm⟩ := chk_of hm
  refine aj_iald X d_Tra_holds_7 2 0 rfl rfl b1 ?_
  refine aj_iload_n X d_Tra_holds_8 1 rfl ?_
  refine aj_icmp_ne X 16 d_Tra_holds_9 (by decide) (fun h => ?_) (fun h => ?_)
  · have hm := ite_f hm h
    refine aj_iconst (v := (0 : Int32)) X d_Tra_holds_16 (by decide) ?_
    have ho := Option.some.inj hm
    subst ho
    exact aj_zret X d_Tra_holds_17 hr hlk (by decide) [0, 1, 2, 3, 4] (w_Tra cI cL cZ o_Tra o_Tal a_Tra_0 a_Tra_1 a_Tra_2 a_Tra_3 v_Tra) rfl rfl ⟨rfl, rfl⟩
  · have hm := ite_t hm h
    refine aj_iconst (v := (1 : Int32)) X d_Tra_holds_12 (by decide) ?_
    refine aj_goto X 17 d_Tra_holds_13 (by decide) ?_
    have ho := Option.some.inj hm
    subst ho
    exact aj_zret X d_Tra_holds_17 hr hlk (by decide) [0, 1, 2, 3, 4] (w_Tra cI cL cZ o_Tra o_Tal a_Tra_0 a_Tra_1 a_Tra_2 a_Tra_3 v_Tra) rfl rfl ⟨rfl, rfl⟩
abbrev X_Sea_firstPendingAssumption (p : Program) (s : State) (m : MethodId) (args : Array Value) (c : Code) (D : va_G) (cI cL cZ : ClassId) (A : Nat → Prop) : Prop := aj_C p s m args c D clss (ty3 cI cL cZ) A b_Sea_firstPendingAssumption 2 R_Sea TB
abbrev J_Sea_firstPendingAssumption (p : Program) (l : Launch) (e : Env) (s : State) (m : MethodId) (args : Array Value) (below : List Frame) (meth : Method) (c : Code) (D : va_G) (cI cL cZ : ClassId) (A : Nat → Prop) (O : Int32 → va_W → Prop) (mc ms : Nat) (ws : va_W) (kc ks pc : Nat) (lv : List (Nat × Value)) (st : List Value) : Prop := aj p l e { frames := 1, cells := mc, slots := ms, locals := 21 } s m args below meth c (MQ below (qI D clss (ty3 cI cL cZ) O A) args s mc ms A) D clss A 2 ws kc ks pc lv st
def O_Sea_firstPendingAssumption (cI cL cZ : ClassId) (o_Ass o_Tra o_Tal o_Sea o_Sto a_Ass_0 a_Tra_0 a_Tra_1 a_Tra_2 a_Tra_3 a_Sea_0 a_Sea_1 a_Sea_2 : Nat) (v_Ass : T_Ass) (v_Tra : T_Tra) (v_Sea : T_Sea) (out : Int32) : Int32 → va_W → Prop := fun r w1 => out = r ∧ w1 = w_Ass cI cL cZ o_Ass a_Ass_0 v_Ass ++ w_Tra cI cL cZ o_Tra o_Tal a_Tra_0 a_Tra_1 a_Tra_2 a_Tra_3 v_Tra ++ w_Sea cI cL cZ o_Sea o_Sto o_Tra o_Tal o_Ass a_Sea_0 a_Sea_1 a_Sea_2 v_Sea
def m_Sea_firstPendingAssumption_L2 (v_Ass : T_Ass) (v_Tra : T_Tra) (v_Sea : T_Sea) : Nat → Int32 → Option (Int32)
  | 0, _ => none
  | f + 1, x1 => (if v_Ass.1 ≤ x1 then (some (-1 : Int32)) else (if ¬ (x1 < 0 ∨ v_Ass.2.1 ≤ (x1).toNatClampNeg) then ((m_Tra_holds v_Tra (v_Ass.2.2 (x1).toNatClampNeg)).bind fun r4 => (if r4 = 0 then (some x1) else ((m_Sea_firstPendingAssumption_L2 v_Ass v_Tra v_Sea f) (x1 + 1)))) else none))
set_option maxRecDepth 100000 in
set_option maxHeartbeats 4000000 in
theorem c_Sea_firstPendingAssumption_L2 {l : Launch} {D : va_G} {cI cL cZ : ClassId} {p : Program} {e : Env} {s : State} {m : MethodId} {args : Array Value} {below : List Frame} {meth : Method} {c : Code} {A : Nat → Prop} (o_Ass o_Tra o_Tal o_Sea o_Sto a_Ass_0 a_Tra_0 a_Tra_1 a_Tra_2 a_Tra_3 a_Sea_0 a_Sea_1 a_Sea_2 : Nat) (v_Ass : T_Ass) (v_Tra : T_Tra) (v_Sea : T_Sea) (out : Int32) (X : X_Sea_firstPendingAssumption p s m args c D cI cL cZ A) (N : nk NM0 NF0 s) (hr : meth.sig.returnType = some .int) (hlk : meth.locks = false) : ∀ (nn : Nat), ∀ (x1 : Int32), m_Sea_firstPendingAssumption_L2 v_Ass v_Tra v_Sea nn x1 = some out → J_Sea_firstPendingAssumption p l e s m args below meth c D cI cL cZ A (O_Sea_firstPendingAssumption cI cL cZ o_Ass o_Tra o_Tal o_Sea o_Sto a_Ass_0 a_Tra_0 a_Tra_1 a_Tra_2 a_Tra_3 a_Sea_0 a_Sea_1 a_Sea_2 v_Ass v_Tra v_Sea out) 0 0 (w_Ass cI cL cZ o_Ass a_Ass_0 v_Ass ++ w_Tra cI cL cZ o_Tra o_Tal a_Tra_0 a_Tra_1 a_Tra_2 a_Tra_3 v_Tra ++ w_Sea cI cL cZ o_Sea o_Sto o_Tra o_Tal o_Ass a_Sea_0 a_Sea_1 a_Sea_2 v_Sea) 0 0 2 [(0, .ref o_Sea), (1, .int x1)] [] := by
  intro nn
  induction nn with
  | zero => intro x1 hm; exact absurd hm (by simp [m_Sea_firstPendingAssumption_L2])
  | succ nn ih2 =>
    intro x1 hm
    unfold m_Sea_firstPendingAssumption_L2 at hm
    refine aj_iload_n X d_Sea_firstPendingAssumption_2 1 rfl ?_
    refine aj_aload_n X d_Sea_firstPendingAssumption_3 0 rfl ?_
    refine aj_get X d_Sea_firstPendingAssumption_4 in_Sea 7 rfl rfl 6 (by decide) lf_Sea_27 rfl ?_
    refine aj_get X d_Sea_firstPendingAssumption_7 in_Ass 0 rfl rfl 0 (by decide) lf_Sea_129 rfl ?_
    refine aj_icmp_ge X 40 d_Sea_firstPendingAssumption_10 (by decide) (fun h => ?_) (fun h => ?_)
    · have hm := ite_t hm h
      refine aj_iconst (v := (-1 : Int32)) X d_Sea_firstPendingAssumption_40 (by decide) ?_
      have ho := Option.some.inj hm
      subst ho
      exact aj_iret X d_Sea_firstPendingAssumption_41 hr hlk [0, 1, 2, 3, 4, 5, 6, 7, 8, 9, 10] (w_Ass cI cL cZ o_Ass a_Ass_0 v_Ass ++ w_Tra cI cL cZ o_Tra o_Tal a_Tra_0 a_Tra_1 a_Tra_2 a_Tra_3 v_Tra ++ w_Sea cI cL cZ o_Sea o_Sto o_Tra o_Tal o_Ass a_Sea_0 a_Sea_1 a_Sea_2 v_Sea) rfl rfl ⟨rfl, rfl⟩
    · have hm := ite_f hm h
      refine aj_aload_n X d_Sea_firstPendingAssumption_13 0 rfl ?_
      refine aj_get X d_Sea_firstPendingAssumption_14 in_Sea 7 rfl rfl 4 (by decide) lf_Sea_19 rfl ?_
      refine aj_aload_n X d_Sea_firstPendingAssumption_17 0 rfl ?_
      refine aj_get X d_Sea_firstPendingAssumption_18 in_Sea 7 rfl rfl 6 (by decide) lf_Sea_27 rfl ?_
      refine aj_get X d_Sea_firstPendingAssumption_21 in_Ass 0 rfl rfl 1 (by decide) lf_Sea_91 rfl ?_
      refine aj_iload_n X d_Sea_firstPendingAssumption_24 1 rfl ?_
      obtain ⟨b3, hm⟩ := chk_of hm
      refine aj_iald X d_Sea_firstPendingAssumption_25 1 0 rfl rfl b3 ?_
      obtain ⟨r4, h5, hm⟩ := bnd_of hm
      refine aj_callI (wr := [(o_Ass, .inr (0, [.int v_Ass.1, .ref a_Ass_0])), (a_Ass_0, .inl (cI, v_Ass.2.1, .inl v_Ass.2.2)), (o_Sea, .inr (2, [.int v_Sea.1, .long v_Sea.2.1, .int v_Sea.2.2.1, .ref o_Sto, .ref o_Tra, .ref o_Tal, .ref o_Ass, .ref a_Sea_0, .ref a_Sea_1, .int v_Sea.2.2.2.2.2.1, .ref a_Sea_2, .long v_Sea.2.2.2.2.2.2.2])), (a_Sea_0, .inl (cI, v_Sea.2.2.2.1.1, .inl v_Sea.2.2.2.1.2)), (a_Sea_1, .inl (cI, v_Sea.2.2.2.2.1.1, .inl v_Sea.2.2.2.2.1.2)), (a_Sea_2, .inl (cI, v_Sea.2.2.2.2.2.2.1.1, .inl v_Sea.2.2.2.2.2.2.1.2))]) X (aj_rV (As := [.int (v_Ass.2.2 (x1).toNatClampNeg)]) (rest := []) X N gTB (c_Tra_holds (D := D) (cI := cI) (cL := cL) (cZ := cZ) o_Tra o_Tal a_Tra_0 a_Tra_1 a_Tra_2 a_Tra_3 v_Tra (v_Ass.2.2 (x1).toNatClampNeg) r4 h5) d_Sea_firstPendingAssumption_26 lk_Tra_holds lw_Sea_96 lh_Tra_holds ⟨(Nat.le_of_ble_eq_true rfl), (Nat.le_of_ble_eq_true rfl)⟩ [2, 3, 4, 5, 6] rfl rfl 0 rfl rfl rfl rfl (Nat.le_of_ble_eq_true rfl) ⟨Nat.le_refl _, Nat.le_refl _⟩) [2, 3, 4, 5, 6] [0, 1, 7, 8, 9, 10] rfl rfl rfl (by decide) (fun rr w1 hO => ?_)
      obtain ⟨rfl, rfl⟩ := hO
      refine aj_perm (ws' := w_Ass cI cL cZ o_Ass a_Ass_0 v_Ass ++ w_Tra cI cL cZ o_Tra o_Tal a_Tra_0 a_Tra_1 a_Tra_2 a_Tra_3 v_Tra ++ w_Sea cI cL cZ o_Sea o_Sto o_Tra o_Tal o_Ass a_Sea_0 a_Sea_1 a_Sea_2 v_Sea) [0, 1, 6, 7, 8, 9, 10, 2, 3, 4, 5] rfl rfl ?_
      refine aj_if_ne X 34 d_Sea_firstPendingAssumption_29 (by decide) (fun h => ?_) (fun h => ?_)
      · have hm := ite_f hm h
        refine aj_iinc (v := (x1 + 1)) (lv' := [(1, .int (x1 + 1)), (0, .ref o_Sea)]) X d_Sea_firstPendingAssumption_34 1 rfl rfl (by decide) rfl ?_
        refine aj_goto X 2 d_Sea_firstPendingAssumption_37 (by decide) ?_
        refine aj_lv (lv' := [(0, .ref o_Sea), (1, .int (x1 + 1))]) [1, 0] rfl ?_
        exact ih2 (x1 + 1) hm
      · have hm := ite_t hm h
        refine aj_iload_n X d_Sea_firstPendingAssumption_32 1 rfl ?_
        have ho := Option.some.inj hm
        subst ho
        exact aj_iret X d_Sea_firstPendingAssumption_33 hr hlk [0, 1, 2, 3, 4, 5, 6, 7, 8, 9, 10] (w_Ass cI cL cZ o_Ass a_Ass_0 v_Ass ++ w_Tra cI cL cZ o_Tra o_Tal a_Tra_0 a_Tra_1 a_Tra_2 a_Tra_3 v_Tra ++ w_Sea cI cL cZ o_Sea o_Sto o_Tra o_Tal o_Ass a_Sea_0 a_Sea_1 a_Sea_2 v_Sea) rfl rfl ⟨rfl, rfl⟩
def m_Sea_firstPendingAssumption (v_Ass : T_Ass) (v_Tra : T_Tra) (v_Sea : T_Sea) : Option (Int32) := (m_Sea_firstPendingAssumption_L2 v_Ass v_Tra v_Sea fu (0 : Int32))
set_option maxRecDepth 100000 in
set_option maxHeartbeats 4000000 in
theorem c_Sea_firstPendingAssumption {l : Launch} {D : va_G} {cI cL cZ : ClassId} (o_Ass o_Tra o_Tal o_Sea o_Sto a_Ass_0 a_Tra_0 a_Tra_1 a_Tra_2 a_Tra_3 a_Sea_0 a_Sea_1 a_Sea_2 : Nat) (v_Ass : T_Ass) (v_Tra : T_Tra) (v_Sea : T_Sea) (out : Int32) (hm : m_Sea_firstPendingAssumption v_Ass v_Tra v_Sea = some out) : ct l y_Sea_firstPendingAssumption (Cond.code y_Sea_firstPendingAssumption b_Sea_firstPendingAssumption 2 (some .int) :: TB) 1 21 D clss (ty3 cI cL cZ) NM0 NF0 [.ref o_Sea] (w_Ass cI cL cZ o_Ass a_Ass_0 v_Ass ++ w_Tra cI cL cZ o_Tra o_Tal a_Tra_0 a_Tra_1 a_Tra_2 a_Tra_3 v_Tra ++ w_Sea cI cL cZ o_Sea o_Sto o_Tra o_Tal o_Ass a_Sea_0 a_Sea_1 a_Sea_2 v_Sea) (qI D clss (ty3 cI cL cZ) (O_Sea_firstPendingAssumption cI cL cZ o_Ass o_Tra o_Tal o_Sea o_Sto a_Ass_0 a_Tra_0 a_Tra_1 a_Tra_2 a_Tra_3 a_Sea_0 a_Sea_1 a_Sea_2 v_Ass v_Tra v_Sea out)) 0 0 := by
  refine ct_of (plainFor_of_name (by decide)) (Nat.le_of_ble_eq_true rfl) (fun p e s m args below meth c A X N hr hlk hnm => ?_)
  refine aj_lv (lv' := [(0, .ref o_Sea)]) [0] rfl ?_
  unfold m_Sea_firstPendingAssumption at hm
  refine aj_iconst (v := (0 : Int32)) X d_Sea_firstPendingAssumption_0 (by decide) ?_
  refine aj_istore_n (lv' := [(1, .int (0 : Int32)), (0, .ref o_Sea)]) X d_Sea_firstPendingAssumption_1 rfl (by decide) rfl ?_
  refine aj_lv (lv' := [(0, .ref o_Sea), (1, .int (0 : Int32))]) [1, 0] rfl ?_
  exact c_Sea_firstPendingAssumption_L2 o_Ass o_Tra o_Tal o_Sea o_Sto a_Ass_0 a_Tra_0 a_Tra_1 a_Tra_2 a_Tra_3 a_Sea_0 a_Sea_1 a_Sea_2 v_Ass v_Tra v_Sea out X N hr hlk fu (0 : Int32) hm
abbrev X_Sea_findCore (p : Program) (s : State) (m : MethodId) (args : Array Value) (c : Code) (D : va_G) (cI cL cZ : ClassId) (A : Nat → Prop) : Prop := aj_C p s m args c D clss (ty3 cI cL cZ) A b_Sea_findCore 4 R_Sea TB
abbrev J_Sea_findCore (p : Program) (l : Launch) (e : Env) (s : State) (m : MethodId) (args : Array Value) (below : List Frame) (meth : Method) (c : Code) (D : va_G) (cI cL cZ : ClassId) (A : Nat → Prop) (O : va_W → Prop) (mc ms : Nat) (ws : va_W) (kc ks pc : Nat) (lv : List (Nat × Value)) (st : List Value) : Prop := aj p l e { frames := 2, cells := mc, slots := ms, locals := 47 } s m args below meth c (MQ below (qV D clss (ty3 cI cL cZ) O A) args s mc ms A) D clss A 4 ws kc ks pc lv st
def O_Sea_findCore (cI cL cZ : ClassId) (o_Ass o_Sto o_Tra o_Tal o_Sea a_Ass_0 a_Sto_0 a_Sto_1 a_Sto_2 a_Sto_3 a_Sto_4 a_Tra_0 a_Tra_1 a_Tra_2 a_Tra_3 a_Sea_0 a_Sea_1 a_Sea_2 : Nat) (v_Ass : T_Ass) (v_Sto : T_Sto) (v_Tra : T_Tra) (out : T_Sea) : va_W → Prop := fun w1 => w1 = w_Ass cI cL cZ o_Ass a_Ass_0 v_Ass ++ w_Sto cI cL cZ o_Sto a_Sto_0 a_Sto_1 a_Sto_2 a_Sto_3 a_Sto_4 v_Sto ++ w_Tra cI cL cZ o_Tra o_Tal a_Tra_0 a_Tra_1 a_Tra_2 a_Tra_3 v_Tra ++ w_Sea cI cL cZ o_Sea o_Sto o_Tra o_Tal o_Ass a_Sea_0 a_Sea_1 a_Sea_2 out
def m_Sea_findCore_B176 (v_Ass : T_Ass) (v_Sto : T_Sto) (v_Tra : T_Tra) (again99 : T_Sea → Int32 → Int32 → Option (T_Sea)) (v_Sea : T_Sea) (x1 : Int32) (x2 : Int32) : Option (T_Sea) := (again99 v_Sea x1 (x2 + 1))
set_option maxRecDepth 100000 in
set_option maxHeartbeats 4000000 in
theorem c_Sea_findCore_B176 {l : Launch} {D : va_G} {cI cL cZ : ClassId} {p : Program} {e : Env} {s : State} {m : MethodId} {args : Array Value} {below : List Frame} {meth : Method} {c : Code} {A : Nat → Prop} (o_Ass o_Sto o_Tra o_Tal o_Sea a_Ass_0 a_Sto_0 a_Sto_1 a_Sto_2 a_Sto_3 a_Sto_4 a_Tra_0 a_Tra_1 a_Tra_2 a_Tra_3 a_Sea_0 a_Sea_1 a_Sea_2 : Nat) (v_Ass : T_Ass) (v_Sto : T_Sto) (v_Tra : T_Tra) (out : T_Sea) (X : X_Sea_findCore p s m args c D cI cL cZ A) (N : nk NM0 NF0 s) (hr : meth.sig.returnType = none) (hlk : meth.locks = false) (again99 : T_Sea → Int32 → Int32 → Option (T_Sea)) (ih99 : ∀ (v_Sea : T_Sea) (x1 : Int32) (x2 : Int32), again99 v_Sea x1 x2 = some out → J_Sea_findCore p l e s m args below meth c D cI cL cZ A (O_Sea_findCore cI cL cZ o_Ass o_Sto o_Tra o_Tal o_Sea a_Ass_0 a_Sto_0 a_Sto_1 a_Sto_2 a_Sto_3 a_Sto_4 a_Tra_0 a_Tra_1 a_Tra_2 a_Tra_3 a_Sea_0 a_Sea_1 a_Sea_2 v_Ass v_Sto v_Tra out) 0 0 (w_Ass cI cL cZ o_Ass a_Ass_0 v_Ass ++ w_Sto cI cL cZ o_Sto a_Sto_0 a_Sto_1 a_Sto_2 a_Sto_3 a_Sto_4 v_Sto ++ w_Tra cI cL cZ o_Tra o_Tal a_Tra_0 a_Tra_1 a_Tra_2 a_Tra_3 v_Tra ++ w_Sea cI cL cZ o_Sea o_Sto o_Tra o_Tal o_Ass a_Sea_0 a_Sea_1 a_Sea_2 v_Sea) 0 0 99 [(0, .ref o_Sea), (1, .int x1), (2, .int x2)] []) : ∀ (v_Sea : T_Sea) (x1 : Int32) (x2 : Int32), m_Sea_findCore_B176 v_Ass v_Sto v_Tra again99 v_Sea x1 x2 = some out → J_Sea_findCore p l e s m args below meth c D cI cL cZ A (O_Sea_findCore cI cL cZ o_Ass o_Sto o_Tra o_Tal o_Sea a_Ass_0 a_Sto_0 a_Sto_1 a_Sto_2 a_Sto_3 a_Sto_4 a_Tra_0 a_Tra_1 a_Tra_2 a_Tra_3 a_Sea_0 a_Sea_1 a_Sea_2 v_Ass v_Sto v_Tra out) 0 0 (w_Ass cI cL cZ o_Ass a_Ass_0 v_Ass ++ w_Sto cI cL cZ o_Sto a_Sto_0 a_Sto_1 a_Sto_2 a_Sto_3 a_Sto_4 v_Sto ++ w_Tra cI cL cZ o_Tra o_Tal a_Tra_0 a_Tra_1 a_Tra_2 a_Tra_3 v_Tra ++ w_Sea cI cL cZ o_Sea o_Sto o_Tra o_Tal o_Ass a_Sea_0 a_Sea_1 a_Sea_2 v_Sea) 0 0 176 [(0, .ref o_Sea), (1, .int x1), (2, .int x2)] [] := by
  intro v_Sea x1 x2 hm
  unfold m_Sea_findCore_B176 at hm
  refine aj_iinc (v := (x2 + 1)) (lv' := [(2, .int (x2 + 1)), (0, .ref o_Sea), (1, .int x1)]) X d_Sea_findCore_176 2 rfl rfl (by decide) rfl ?_
  refine aj_goto X 99 d_Sea_findCore_179 (by decide) ?_
  refine aj_lv (lv' := [(0, .ref o_Sea), (1, .int x1), (2, .int (x2 + 1))]) [1, 2, 0] rfl ?_
  exact ih99 v_Sea x1 (x2 + 1) hm
def m_Sea_findCore_B148 (v_Ass : T_Ass) (v_Sto : T_Sto) (v_Tra : T_Tra) (again99 : T_Sea → Int32 → Int32 → Option (T_Sea)) (v_Sea : T_Sea) (x1 : Int32) (x2 : Int32) : Option (T_Sea) := (if ¬ (x2 < 0 ∨ v_Ass.2.1 ≤ (x2).toNatClampNeg) then (if ¬ (v_Sea.2.2.2.2.2.1 < 0 ∨ v_Sea.2.2.2.2.1.1 ≤ (v_Sea.2.2.2.2.2.1).toNatClampNeg) then (m_Sea_findCore_B176 v_Ass v_Sto v_Tra again99 (v_Sea.1, v_Sea.2.1, v_Sea.2.2.1, v_Sea.2.2.2.1, (v_Sea.2.2.2.2.1.1, (upd v_Sea.2.2.2.2.1.2 (v_Sea.2.2.2.2.2.1).toNatClampNeg (v_Ass.2.2 (x2).toNatClampNeg))), (v_Sea.2.2.2.2.2.1 + (1 : Int32)), v_Sea.2.2.2.2.2.2.1, v_Sea.2.2.2.2.2.2.2) x1 x2) else none) else none)
set_option maxRecDepth 100000 in
set_option maxHeartbeats 4000000 in
theorem c_Sea_findCore_B148 {l : Launch} {D : va_G} {cI cL cZ : ClassId} {p : Program} {e : Env} {s : State} {m : MethodId} {args : Array Value} {below : List Frame} {meth : Method} {c : Code} {A : Nat → Prop} (o_Ass o_Sto o_Tra o_Tal o_Sea a_Ass_0 a_Sto_0 a_Sto_1 a_Sto_2 a_Sto_3 a_Sto_4 a_Tra_0 a_Tra_1 a_Tra_2 a_Tra_3 a_Sea_0 a_Sea_1 a_Sea_2 : Nat) (v_Ass : T_Ass) (v_Sto : T_Sto) (v_Tra : T_Tra) (out : T_Sea) (X : X_Sea_findCore p s m args c D cI cL cZ A) (N : nk NM0 NF0 s) (hr : meth.sig.returnType = none) (hlk : meth.locks = false) (again99 : T_Sea → Int32 → Int32 → Option (T_Sea)) (ih99 : ∀ (v_Sea : T_Sea) (x1 : Int32) (x2 : Int32), again99 v_Sea x1 x2 = some out → J_Sea_findCore p l e s m args below meth c D cI cL cZ A (O_Sea_findCore cI cL cZ o_Ass o_Sto o_Tra o_Tal o_Sea a_Ass_0 a_Sto_0 a_Sto_1 a_Sto_2 a_Sto_3 a_Sto_4 a_Tra_0 a_Tra_1 a_Tra_2 a_Tra_3 a_Sea_0 a_Sea_1 a_Sea_2 v_Ass v_Sto v_Tra out) 0 0 (w_Ass cI cL cZ o_Ass a_Ass_0 v_Ass ++ w_Sto cI cL cZ o_Sto a_Sto_0 a_Sto_1 a_Sto_2 a_Sto_3 a_Sto_4 v_Sto ++ w_Tra cI cL cZ o_Tra o_Tal a_Tra_0 a_Tra_1 a_Tra_2 a_Tra_3 v_Tra ++ w_Sea cI cL cZ o_Sea o_Sto o_Tra o_Tal o_Ass a_Sea_0 a_Sea_1 a_Sea_2 v_Sea) 0 0 99 [(0, .ref o_Sea), (1, .int x1), (2, .int x2)] []) : ∀ (v_Sea : T_Sea) (x1 : Int32) (x2 : Int32), m_Sea_findCore_B148 v_Ass v_Sto v_Tra again99 v_Sea x1 x2 = some out → J_Sea_findCore p l e s m args below meth c D cI cL cZ A (O_Sea_findCore cI cL cZ o_Ass o_Sto o_Tra o_Tal o_Sea a_Ass_0 a_Sto_0 a_Sto_1 a_Sto_2 a_Sto_3 a_Sto_4 a_Tra_0 a_Tra_1 a_Tra_2 a_Tra_3 a_Sea_0 a_Sea_1 a_Sea_2 v_Ass v_Sto v_Tra out) 0 0 (w_Ass cI cL cZ o_Ass a_Ass_0 v_Ass ++ w_Sto cI cL cZ o_Sto a_Sto_0 a_Sto_1 a_Sto_2 a_Sto_3 a_Sto_4 v_Sto ++ w_Tra cI cL cZ o_Tra o_Tal a_Tra_0 a_Tra_1 a_Tra_2 a_Tra_3 v_Tra ++ w_Sea cI cL cZ o_Sea o_Sto o_Tra o_Tal o_Ass a_Sea_0 a_Sea_1 a_Sea_2 v_Sea) 0 0 148 [(0, .ref o_Sea), (1, .int x1), (2, .int x2)] [] := by
  intro v_Sea x1 x2 hm
  unfold m_Sea_findCore_B148 at hm
  refine aj_aload_n X d_Sea_findCore_148 0 rfl ?_
  refine aj_get X d_Sea_findCore_149 in_Sea 13 rfl rfl 8 (by decide) lf_Sea_35 rfl ?_
  refine aj_aload_n X d_Sea_findCore_152 0 rfl ?_
  refine aj_get X d_Sea_findCore_153 in_Sea 13 rfl rfl 9 (by decide) lf_Sea_38 rfl ?_
  refine aj_aload_n X d_Sea_findCore_156 0 rfl ?_
  refine aj_get X d_Sea_findCore_157 in_Sea 13 rfl rfl 6 (by decide) lf_Sea_27 rfl ?_
  refine aj_get X d_Sea_findCore_160 in_Ass 0 rfl rfl 1 (by decide) lf_Sea_91 rfl ?_
  refine aj_iload_n X d_Sea_findCore_163 2 rfl ?_
  obtain ⟨b11, hm⟩ := chk_of hm
  refine aj_iald X d_Sea_findCore_164 1 0 rfl rfl b11 ?_
  obtain ⟨b12, hm⟩ := chk_of hm
  refine aj_iast (ws' := w_Ass cI cL cZ o_Ass a_Ass_0 v_Ass ++ w_Sto cI cL cZ o_Sto a_Sto_0 a_Sto_1 a_Sto_2 a_Sto_3 a_Sto_4 v_Sto ++ w_Tra cI cL cZ o_Tra o_Tal a_Tra_0 a_Tra_1 a_Tra_2 a_Tra_3 v_Tra ++ w_Sea cI cL cZ o_Sea o_Sto o_Tra o_Tal o_Ass a_Sea_0 a_Sea_1 a_Sea_2 (v_Sea.1, v_Sea.2.1, v_Sea.2.2.1, v_Sea.2.2.2.1, (v_Sea.2.2.2.2.1.1, (upd v_Sea.2.2.2.2.1.2 (v_Sea.2.2.2.2.2.1).toNatClampNeg (v_Ass.2.2 (x2).toNatClampNeg))), v_Sea.2.2.2.2.2.1, v_Sea.2.2.2.2.2.2.1, v_Sea.2.2.2.2.2.2.2)) X d_Sea_findCore_165 15 0 rfl rfl b12 rfl ?_
  refine aj_aload_n X d_Sea_findCore_166 0 rfl ?_
  refine aj_dup X d_Sea_findCore_167 rfl ?_
  refine aj_get X d_Sea_findCore_168 in_Sea 13 rfl rfl 9 (by decide) lf_Sea_38 rfl ?_
  refine aj_iconst (v := (1 : Int32)) X d_Sea_findCore_171 (by decide) ?_
  refine aj_iadd X d_Sea_findCore_172 ?_
  refine aj_put (ws' := w_Ass cI cL cZ o_Ass a_Ass_0 v_Ass ++ w_Sto cI cL cZ o_Sto a_Sto_0 a_Sto_1 a_Sto_2 a_Sto_3 a_Sto_4 v_Sto ++ w_Tra cI cL cZ o_Tra o_Tal a_Tra_0 a_Tra_1 a_Tra_2 a_Tra_3 v_Tra ++ w_Sea cI cL cZ o_Sea o_Sto o_Tra o_Tal o_Ass a_Sea_0 a_Sea_1 a_Sea_2 (v_Sea.1, v_Sea.2.1, v_Sea.2.2.1, v_Sea.2.2.2.1, (v_Sea.2.2.2.2.1.1, (upd v_Sea.2.2.2.2.1.2 (v_Sea.2.2.2.2.2.1).toNatClampNeg (v_Ass.2.2 (x2).toNatClampNeg))), (v_Sea.2.2.2.2.2.1 + (1 : Int32)), v_Sea.2.2.2.2.2.2.1, v_Sea.2.2.2.2.2.2.2)) X d_Sea_findCore_173 in_Sea ty_Sea tyok_Sea nmx_Sea 13 rfl rfl 9 (by decide) lf_Sea_38 rfl rfl rfl (Nat.le_of_ble_eq_true rfl) rfl ?_
  exact c_Sea_findCore_B176 o_Ass o_Sto o_Tra o_Tal o_Sea a_Ass_0 a_Sto_0 a_Sto_1 a_Sto_2 a_Sto_3 a_Sto_4 a_Tra_0 a_Tra_1 a_Tra_2 a_Tra_3 a_Sea_0 a_Sea_1 a_Sea_2 v_Ass v_Sto v_Tra out X N hr hlk again99 ih99 (v_Sea.1, v_Sea.2.1, v_Sea.2.2.1, v_Sea.2.2.2.1, (v_Sea.2.2.2.2.1.1, (upd v_Sea.2.2.2.2.1.2 (v_Sea.2.2.2.2.2.1).toNatClampNeg (v_Ass.2.2 (x2).toNatClampNeg))), (v_Sea.2.2.2.2.2.1 + (1 : Int32)), v_Sea.2.2.2.2.2.2.1, v_Sea.2.2.2.2.2.2.2) x1 x2 hm
def m_Sea_findCore_L99 (v_Ass : T_Ass) (v_Sto : T_Sto) (v_Tra : T_Tra) : Nat → T_Sea → Int32 → Int32 → Option (T_Sea)
  | 0, _, _, _ => none
  | f + 1, v_Sea, x1, x2 => (if v_Ass.1 ≤ x2 then (some v_Sea) else (if ¬ (x2 < 0 ∨ v_Ass.2.1 ≤ (x2).toNatClampNeg) then (if x2 = x1 then (m_Sea_findCore_B148 v_Ass v_Sto v_Tra (m_Sea_findCore_L99 v_Ass v_Sto v_Tra f) v_Sea x1 x2) else (if ¬ (((v_Ass.2.2 (x2).toNatClampNeg) >>> ((1 : Int32) &&& 31)) < 0 ∨ v_Sea.2.2.2.1.1 ≤ (((v_Ass.2.2 (x2).toNatClampNeg) >>> ((1 : Int32) &&& 31))).toNatClampNeg) then (if (v_Sea.2.2.2.1.2 (((v_Ass.2.2 (x2).toNatClampNeg) >>> ((1 : Int32) &&& 31))).toNatClampNeg) = (1 : Int32) then ((m_Tra_causeOf v_Tra ((v_Ass.2.2 (x2).toNatClampNeg) >>> ((1 : Int32) &&& 31))).bind fun r15 => (if 0 ≤ r15 then (m_Sea_findCore_B176 v_Ass v_Sto v_Tra (m_Sea_findCore_L99 v_Ass v_Sto v_Tra f) v_Sea x1 x2) else (m_Sea_findCore_B148 v_Ass v_Sto v_Tra (m_Sea_findCore_L99 v_Ass v_Sto v_Tra f) v_Sea x1 x2))) else (m_Sea_findCore_B176 v_Ass v_Sto v_Tra (m_Sea_findCore_L99 v_Ass v_Sto v_Tra f) v_Sea x1 x2)) else none)) else none))
set_option maxRecDepth 100000 in
set_option maxHeartbeats 4000000 in
theorem c_Sea_findCore_L99 {l : Launch} {D : va_G} {cI cL cZ : ClassId} {p : Program} {e : Env} {s : State} {m : MethodId} {args : Array Value} {below : List Frame} {meth : Method} {c : Code} {A : Nat → Prop} (o_Ass o_Sto o_Tra o_Tal o_Sea a_Ass_0 a_Sto_0 a_Sto_1 a_Sto_2 a_Sto_3 a_Sto_4 a_Tra_0 a_Tra_1 a_Tra_2 a_Tra_3 a_Sea_0 a_Sea_1 a_Sea_2 : Nat) (v_Ass : T_Ass) (v_Sto : T_Sto) (v_Tra : T_Tra) (out : T_Sea) (X : X_Sea_findCore p s m args c D cI cL cZ A) (N : nk NM0 NF0 s) (hr : meth.sig.returnType = none) (hlk : meth.locks = false) : ∀ (nn : Nat), ∀ (v_Sea : T_Sea) (x1 : Int32) (x2 : Int32), m_Sea_findCore_L99 v_Ass v_Sto v_Tra nn v_Sea x1 x2 = some out → J_Sea_findCore p l e s m args below meth c D cI cL cZ A (O_Sea_findCore cI cL cZ o_Ass o_Sto o_Tra o_Tal o_Sea a_Ass_0 a_Sto_0 a_Sto_1 a_Sto_2 a_Sto_3 a_Sto_4 a_Tra_0 a_Tra_1 a_Tra_2 a_Tra_3 a_Sea_0 a_Sea_1 a_Sea_2 v_Ass v_Sto v_Tra out) 0 0 (w_Ass cI cL cZ o_Ass a_Ass_0 v_Ass ++ w_Sto cI cL cZ o_Sto a_Sto_0 a_Sto_1 a_Sto_2 a_Sto_3 a_Sto_4 v_Sto ++ w_Tra cI cL cZ o_Tra o_Tal a_Tra_0 a_Tra_1 a_Tra_2 a_Tra_3 v_Tra ++ w_Sea cI cL cZ o_Sea o_Sto o_Tra o_Tal o_Ass a_Sea_0 a_Sea_1 a_Sea_2 v_Sea) 0 0 99 [(0, .ref o_Sea), (1, .int x1), (2, .int x2)] [] := by
  intro nn
  induction nn with
  | zero => intro v_Sea x1 x2 hm; exact absurd hm (by simp [m_Sea_findCore_L99])
  | succ nn ih99 =>
    intro v_Sea x1 x2 hm
    unfold m_Sea_findCore_L99 at hm
    refine aj_iload_n X d_Sea_findCore_99 2 rfl ?_
    refine aj_aload_n X d_Sea_findCore_100 0 rfl ?_
    refine aj_get X d_Sea_findCore_101 in_Sea 13 rfl rfl 6 (by decide) lf_Sea_27 rfl ?_
    refine aj_get X d_Sea_findCore_104 in_Ass 0 rfl rfl 0 (by decide) lf_Sea_129 rfl ?_
    refine aj_icmp_ge X 182 d_Sea_findCore_107 (by decide) (fun h => ?_) (fun h => ?_)
    · have hm := ite_t hm h
      have ho := Option.some.inj hm
      subst ho
      exact aj_vret X d_Sea_findCore_182 hr hlk [0, 1, 2, 3, 4, 5, 6, 7, 8, 9, 10, 11, 12, 13, 14, 15, 16] (w_Ass cI cL cZ o_Ass a_Ass_0 v_Ass ++ w_Sto cI cL cZ o_Sto a_Sto_0 a_Sto_1 a_Sto_2 a_Sto_3 a_Sto_4 v_Sto ++ w_Tra cI cL cZ o_Tra o_Tal a_Tra_0 a_Tra_1 a_Tra_2 a_Tra_3 v_Tra ++ w_Sea cI cL cZ o_Sea o_Sto o_Tra o_Tal o_Ass a_Sea_0 a_Sea_1 a_Sea_2 v_Sea) rfl rfl rfl
    · have hm := ite_f hm h
      refine aj_aload_n X d_Sea_findCore_110 0 rfl ?_
      refine aj_get X d_Sea_findCore_111 in_Sea 13 rfl rfl 6 (by decide) lf_Sea_27 rfl ?_
      refine aj_get X d_Sea_findCore_114 in_Ass 0 rfl rfl 1 (by decide) lf_Sea_91 rfl ?_
      refine aj_iload_n X d_Sea_findCore_117 2 rfl ?_
      obtain ⟨b13, hm⟩ := chk_of hm
      refine aj_iald X d_Sea_findCore_118 1 0 rfl rfl b13 ?_
      refine aj_iconst (v := (1 : Int32)) X d_Sea_findCore_119 (by decide) ?_
      refine aj_ishr X d_Sea_findCore_120 ?_
      refine aj_istore_n (lv' := [(3, .int ((v_Ass.2.2 (x2).toNatClampNeg) >>> ((1 : Int32) &&& 31))), (0, .ref o_Sea), (1, .int x1), (2, .int x2)]) X d_Sea_findCore_121 rfl (by decide) rfl ?_
      refine aj_iload_n X d_Sea_findCore_122 3 rfl ?_
      refine aj_iload_n X d_Sea_findCore_123 2 rfl ?_
      refine aj_icmp_eq X 148 d_Sea_findCore_124 (by decide) (fun h => ?_) (fun h => ?_)
      · have hm := ite_t hm h
        refine aj_lv (lv' := [(0, .ref o_Sea), (1, .int x1), (2, .int x2)]) [1, 2, 3] rfl ?_
        exact c_Sea_findCore_B148 o_Ass o_Sto o_Tra o_Tal o_Sea a_Ass_0 a_Sto_0 a_Sto_1 a_Sto_2 a_Sto_3 a_Sto_4 a_Tra_0 a_Tra_1 a_Tra_2 a_Tra_3 a_Sea_0 a_Sea_1 a_Sea_2 v_Ass v_Sto v_Tra out X N hr hlk (m_Sea_findCore_L99 v_Ass v_Sto v_Tra nn) ih99 v_Sea x1 x2 hm
      · have hm := ite_f hm h
        refine aj_aload_n X d_Sea_findCore_127 1 rfl ?_
        refine aj_get X d_Sea_findCore_128 in_Sea 13 rfl rfl 7 (by decide) lf_Sea_31 rfl ?_
        refine aj_iload_n X d_Sea_findCore_131 0 rfl ?_
        obtain ⟨b14, hm⟩ := chk_of hm
        refine aj_iald X d_Sea_findCore_132 14 0 rfl rfl b14 ?_
        refine aj_iconst (v := (1 : Int32)) X d_Sea_findCore_133 (by decide) ?_
        refine aj_icmp_ne X 176 d_Sea_findCore_134 (by decide) (fun h => ?_) (fun h => ?_)
        · have hm := ite_f hm h
          refine aj_lv (lv' := [(0, .ref o_Sea), (1, .int x1), (2, .int x2)]) [1, 2, 3] rfl ?_
          exact c_Sea_findCore_B176 o_Ass o_Sto o_Tra o_Tal o_Sea a_Ass_0 a_Sto_0 a_Sto_1 a_Sto_2 a_Sto_3 a_Sto_4 a_Tra_0 a_Tra_1 a_Tra_2 a_Tra_3 a_Sea_0 a_Sea_1 a_Sea_2 v_Ass v_Sto v_Tra out X N hr hlk (m_Sea_findCore_L99 v_Ass v_Sto v_Tra nn) ih99 v_Sea x1 x2 hm
        · have hm := ite_t hm h
          refine aj_aload_n X d_Sea_findCore_137 1 rfl ?_
          refine aj_get X d_Sea_findCore_138 in_Sea 13 rfl rfl 4 (by decide) lf_Sea_19 rfl ?_
          refine aj_iload_n X d_Sea_findCore_141 0 rfl ?_
          obtain ⟨r15, h16, hm⟩ := bnd_of hm
          refine aj_callI (wr := [(o_Ass, .inr (0, [.int v_Ass.1, .ref a_Ass_0])), (a_Ass_0, .inl (cI, v_Ass.2.1, .inl v_Ass.2.2)), (o_Sto, .inr (3, [.int v_Sto.1, .int v_Sto.2.1, .ref a_Sto_0, .ref a_Sto_1, .ref a_Sto_2, .ref a_Sto_3, .ref a_Sto_4])), (a_Sto_0, .inl (cI, v_Sto.2.2.1.1, .inl v_Sto.2.2.1.2)), (a_Sto_1, .inl (cI, v_Sto.2.2.2.1.1, .inl v_Sto.2.2.2.1.2)), (a_Sto_2, .inl (cI, v_Sto.2.2.2.2.1.1, .inl v_Sto.2.2.2.2.1.2)), (a_Sto_3, .inl (cI, v_Sto.2.2.2.2.2.1.1, .inl v_Sto.2.2.2.2.2.1.2)), (a_Sto_4, .inl (cI, v_Sto.2.2.2.2.2.2.1, .inl v_Sto.2.2.2.2.2.2.2)), (o_Sea, .inr (2, [.int v_Sea.1, .long v_Sea.2.1, .int v_Sea.2.2.1, .ref o_Sto, .ref o_Tra, .ref o_Tal, .ref o_Ass, .ref a_Sea_0, .ref a_Sea_1, .int v_Sea.2.2.2.2.2.1, .ref a_Sea_2, .long v_Sea.2.2.2.2.2.2.2])), (a_Sea_0, .inl (cI, v_Sea.2.2.2.1.1, .inl v_Sea.2.2.2.1.2)), (a_Sea_1, .inl (cI, v_Sea.2.2.2.2.1.1, .inl v_Sea.2.2.2.2.1.2)), (a_Sea_2, .inl (cI, v_Sea.2.2.2.2.2.2.1.1, .inl v_Sea.2.2.2.2.2.2.1.2))]) X (aj_rV (As := [.int ((v_Ass.2.2 (x2).toNatClampNeg) >>> ((1 : Int32) &&& 31))]) (rest := []) X N gTB (c_Tra_causeOf (D := D) (cI := cI) (cL := cL) (cZ := cZ) o_Tra o_Tal a_Tra_0 a_Tra_1 a_Tra_2 a_Tra_3 v_Tra ((v_Ass.2.2 (x2).toNatClampNeg) >>> ((1 : Int32) &&& 31)) r15 h16) d_Sea_findCore_142 lk_Tra_causeOf lw_Sea_178 lh_Tra_causeOf ⟨(Nat.le_of_ble_eq_true rfl), (Nat.le_of_ble_eq_true rfl)⟩ [8, 9, 10, 11, 12] rfl rfl 0 rfl rfl rfl rfl (Nat.le_of_ble_eq_true rfl) ⟨Nat.le_refl _, Nat.le_refl _⟩) [8, 9, 10, 11, 12] [0, 1, 2, 3, 4, 5, 6, 7, 13, 14, 15, 16] rfl rfl rfl (by decide) (fun rr w1 hO => ?_)
          obtain ⟨rfl, rfl⟩ := hO
          refine aj_perm (ws' := w_Ass cI cL cZ o_Ass a_Ass_0 v_Ass ++ w_Sto cI cL cZ o_Sto a_Sto_0 a_Sto_1 a_Sto_2 a_Sto_3 a_Sto_4 v_Sto ++ w_Tra cI cL cZ o_Tra o_Tal a_Tra_0 a_Tra_1 a_Tra_2 a_Tra_3 v_Tra ++ w_Sea cI cL cZ o_Sea o_Sto o_Tra o_Tal o_Ass a_Sea_0 a_Sea_1 a_Sea_2 v_Sea) [0, 1, 2, 3, 4, 5, 6, 7, 12, 13, 14, 15, 16, 8, 9, 10, 11] rfl rfl ?_
          refine aj_if_ge X 176 d_Sea_findCore_145 (by decide) (fun h => ?_) (fun h => ?_)
          · have hm := ite_t hm h
            refine aj_lv (lv' := [(0, .ref o_Sea), (1, .int x1), (2, .int x2)]) [1, 2, 3] rfl ?_
            exact c_Sea_findCore_B176 o_Ass o_Sto o_Tra o_Tal o_Sea a_Ass_0 a_Sto_0 a_Sto_1 a_Sto_2 a_Sto_3 a_Sto_4 a_Tra_0 a_Tra_1 a_Tra_2 a_Tra_3 a_Sea_0 a_Sea_1 a_Sea_2 v_Ass v_Sto v_Tra out X N hr hlk (m_Sea_findCore_L99 v_Ass v_Sto v_Tra nn) ih99 v_Sea x1 x2 hm
          · have hm := ite_f hm h
            refine aj_lv (lv' := [(0, .ref o_Sea), (1, .int x1), (2, .int x2)]) [1, 2, 3] rfl ?_
            exact c_Sea_findCore_B148 o_Ass o_Sto o_Tra o_Tal o_Sea a_Ass_0 a_Sto_0 a_Sto_1 a_Sto_2 a_Sto_3 a_Sto_4 a_Tra_0 a_Tra_1 a_Tra_2 a_Tra_3 a_Sea_0 a_Sea_1 a_Sea_2 v_Ass v_Sto v_Tra out X N hr hlk (m_Sea_findCore_L99 v_Ass v_Sto v_Tra nn) ih99 v_Sea x1 x2 hm
def m_Sea_findCore_B86 (v_Ass : T_Ass) (v_Sto : T_Sto) (v_Tra : T_Tra) (again35 : T_Sea → Int32 → Int32 → Option (T_Sea)) (v_Sea : T_Sea) (x1 : Int32) (x2 : Int32) : Option (T_Sea) := (again35 v_Sea x1 (x2 + (-1)))
set_option maxRecDepth 100000 in
set_option maxHeartbeats 4000000 in
theorem c_Sea_findCore_B86 {l : Launch} {D : va_G} {cI cL cZ : ClassId} {p : Program} {e : Env} {s : State} {m : MethodId} {args : Array Value} {below : List Frame} {meth : Method} {c : Code} {A : Nat → Prop} (o_Ass o_Sto o_Tra o_Tal o_Sea a_Ass_0 a_Sto_0 a_Sto_1 a_Sto_2 a_Sto_3 a_Sto_4 a_Tra_0 a_Tra_1 a_Tra_2 a_Tra_3 a_Sea_0 a_Sea_1 a_Sea_2 : Nat) (v_Ass : T_Ass) (v_Sto : T_Sto) (v_Tra : T_Tra) (out : T_Sea) (X : X_Sea_findCore p s m args c D cI cL cZ A) (N : nk NM0 NF0 s) (hr : meth.sig.returnType = none) (hlk : meth.locks = false) (again35 : T_Sea → Int32 → Int32 → Option (T_Sea)) (ih35 : ∀ (v_Sea : T_Sea) (x1 : Int32) (x2 : Int32), again35 v_Sea x1 x2 = some out → J_Sea_findCore p l e s m args below meth c D cI cL cZ A (O_Sea_findCore cI cL cZ o_Ass o_Sto o_Tra o_Tal o_Sea a_Ass_0 a_Sto_0 a_Sto_1 a_Sto_2 a_Sto_3 a_Sto_4 a_Tra_0 a_Tra_1 a_Tra_2 a_Tra_3 a_Sea_0 a_Sea_1 a_Sea_2 v_Ass v_Sto v_Tra out) 0 0 (w_Ass cI cL cZ o_Ass a_Ass_0 v_Ass ++ w_Sto cI cL cZ o_Sto a_Sto_0 a_Sto_1 a_Sto_2 a_Sto_3 a_Sto_4 v_Sto ++ w_Tra cI cL cZ o_Tra o_Tal a_Tra_0 a_Tra_1 a_Tra_2 a_Tra_3 v_Tra ++ w_Sea cI cL cZ o_Sea o_Sto o_Tra o_Tal o_Ass a_Sea_0 a_Sea_1 a_Sea_2 v_Sea) 0 0 35 [(0, .ref o_Sea), (1, .int x1), (2, .int x2)] []) : ∀ (v_Sea : T_Sea) (x1 : Int32) (x2 : Int32), m_Sea_findCore_B86 v_Ass v_Sto v_Tra again35 v_Sea x1 x2 = some out → J_Sea_findCore p l e s m args below meth c D cI cL cZ A (O_Sea_findCore cI cL cZ o_Ass o_Sto o_Tra o_Tal o_Sea a_Ass_0 a_Sto_0 a_Sto_1 a_Sto_2 a_Sto_3 a_Sto_4 a_Tra_0 a_Tra_1 a_Tra_2 a_Tra_3 a_Sea_0 a_Sea_1 a_Sea_2 v_Ass v_Sto v_Tra out) 0 0 (w_Ass cI cL cZ o_Ass a_Ass_0 v_Ass ++ w_Sto cI cL cZ o_Sto a_Sto_0 a_Sto_1 a_Sto_2 a_Sto_3 a_Sto_4 v_Sto ++ w_Tra cI cL cZ o_Tra o_Tal a_Tra_0 a_Tra_1 a_Tra_2 a_Tra_3 v_Tra ++ w_Sea cI cL cZ o_Sea o_Sto o_Tra o_Tal o_Ass a_Sea_0 a_Sea_1 a_Sea_2 v_Sea) 0 0 86 [(0, .ref o_Sea), (1, .int x1), (2, .int x2)] [] := by
  intro v_Sea x1 x2 hm
  unfold m_Sea_findCore_B86 at hm
  refine aj_iinc (v := (x2 + (-1))) (lv' := [(2, .int (x2 + (-1))), (0, .ref o_Sea), (1, .int x1)]) X d_Sea_findCore_86 2 rfl rfl (by decide) rfl ?_
  refine aj_goto X 35 d_Sea_findCore_89 (by decide) ?_
  refine aj_lv (lv' := [(0, .ref o_Sea), (1, .int x1), (2, .int (x2 + (-1)))]) [1, 2, 0] rfl ?_
  exact ih35 v_Sea x1 (x2 + (-1)) hm
def m_Sea_findCore_L35 (v_Ass : T_Ass) (v_Sto : T_Sto) (v_Tra : T_Tra) : Nat → T_Sea → Int32 → Int32 → Option (T_Sea)
  | 0, _, _, _ => none
  | f + 1, v_Sea, x1, x2 => (if x2 < 0 then (m_Sea_findCore_L99 v_Ass v_Sto v_Tra fu (v_Sea.1, v_Sea.2.1, v_Sea.2.2.1, v_Sea.2.2.2.1, v_Sea.2.2.2.2.1, (0 : Int32), v_Sea.2.2.2.2.2.2.1, v_Sea.2.2.2.2.2.2.2) x1 (0 : Int32)) else (if ¬ (x2 < 0 ∨ v_Tra.2.2.1.1 ≤ (x2).toNatClampNeg) then (if ¬ (((v_Tra.2.2.1.2 (x2).toNatClampNeg) >>> ((1 : Int32) &&& 31)) < 0 ∨ v_Sea.2.2.2.1.1 ≤ (((v_Tra.2.2.1.2 (x2).toNatClampNeg) >>> ((1 : Int32) &&& 31))).toNatClampNeg) then (if (v_Sea.2.2.2.1.2 (((v_Tra.2.2.1.2 (x2).toNatClampNeg) >>> ((1 : Int32) &&& 31))).toNatClampNeg) = (1 : Int32) then ((m_Tra_causeOf v_Tra ((v_Tra.2.2.1.2 (x2).toNatClampNeg) >>> ((1 : Int32) &&& 31))).bind fun r19 => (if r19 < 0 then (m_Sea_findCore_B86 v_Ass v_Sto v_Tra (m_Sea_findCore_L35 v_Ass v_Sto v_Tra f) v_Sea x1 x2) else ((m_Tra_causeOf v_Tra ((v_Tra.2.2.1.2 (x2).toNatClampNeg) >>> ((1 : Int32) &&& 31))).bind fun r21 => ((m_Sea_markOthers v_Sto v_Tra v_Sea r21 ((v_Tra.2.2.1.2 (x2).toNatClampNeg) >>> ((1 : Int32) &&& 31))).bind fun r23 => (m_Sea_findCore_B86 v_Ass v_Sto v_Tra (m_Sea_findCore_L35 v_Ass v_Sto v_Tra f) r23.1 x1 x2))))) else (m_Sea_findCore_B86 v_Ass v_Sto v_Tra (m_Sea_findCore_L35 v_Ass v_Sto v_Tra f) v_Sea x1 x2)) else none) else none))
set_option maxRecDepth 100000 in
set_option maxHeartbeats 4000000 in
theorem c_Sea_findCore_L35 {l : Launch} {D : va_G} {cI cL cZ : ClassId} {p : Program} {e : Env} {s : State} {m : MethodId} {args : Array Value} {below : List Frame} {meth : Method} {c : Code} {A : Nat → Prop} (o_Ass o_Sto o_Tra o_Tal o_Sea a_Ass_0 a_Sto_0 a_Sto_1 a_Sto_2 a_Sto_3 a_Sto_4 a_Tra_0 a_Tra_1 a_Tra_2 a_Tra_3 a_Sea_0 a_Sea_1 a_Sea_2 : Nat) (v_Ass : T_Ass) (v_Sto : T_Sto) (v_Tra : T_Tra) (out : T_Sea) (X : X_Sea_findCore p s m args c D cI cL cZ A) (N : nk NM0 NF0 s) (hr : meth.sig.returnType = none) (hlk : meth.locks = false) : ∀ (nn : Nat), ∀ (v_Sea : T_Sea) (x1 : Int32) (x2 : Int32), m_Sea_findCore_L35 v_Ass v_Sto v_Tra nn v_Sea x1 x2 = some out → J_Sea_findCore p l e s m args below meth c D cI cL cZ A (O_Sea_findCore cI cL cZ o_Ass o_Sto o_Tra o_Tal o_Sea a_Ass_0 a_Sto_0 a_Sto_1 a_Sto_2 a_Sto_3 a_Sto_4 a_Tra_0 a_Tra_1 a_Tra_2 a_Tra_3 a_Sea_0 a_Sea_1 a_Sea_2 v_Ass v_Sto v_Tra out) 0 0 (w_Ass cI cL cZ o_Ass a_Ass_0 v_Ass ++ w_Sto cI cL cZ o_Sto a_Sto_0 a_Sto_1 a_Sto_2 a_Sto_3 a_Sto_4 v_Sto ++ w_Tra cI cL cZ o_Tra o_Tal a_Tra_0 a_Tra_1 a_Tra_2 a_Tra_3 v_Tra ++ w_Sea cI cL cZ o_Sea o_Sto o_Tra o_Tal o_Ass a_Sea_0 a_Sea_1 a_Sea_2 v_Sea) 0 0 35 [(0, .ref o_Sea), (1, .int x1), (2, .int x2)] [] := by
  intro nn
  induction nn with
  | zero => intro v_Sea x1 x2 hm; exact absurd hm (by simp [m_Sea_findCore_L35])
  | succ nn ih35 =>
    intro v_Sea x1 x2 hm
    unfold m_Sea_findCore_L35 at hm
    refine aj_iload_n X d_Sea_findCore_35 2 rfl ?_
    refine aj_if_lt X 92 d_Sea_findCore_36 (by decide) (fun h => ?_) (fun h => ?_)
    · have hm := ite_t hm h
      refine aj_aload_n X d_Sea_findCore_92 0 rfl ?_
      refine aj_iconst (v := (0 : Int32)) X d_Sea_findCore_93 (by decide) ?_
      refine aj_put (ws' := w_Ass cI cL cZ o_Ass a_Ass_0 v_Ass ++ w_Sto cI cL cZ o_Sto a_Sto_0 a_Sto_1 a_Sto_2 a_Sto_3 a_Sto_4 v_Sto ++ w_Tra cI cL cZ o_Tra o_Tal a_Tra_0 a_Tra_1 a_Tra_2 a_Tra_3 v_Tra ++ w_Sea cI cL cZ o_Sea o_Sto o_Tra o_Tal o_Ass a_Sea_0 a_Sea_1 a_Sea_2 (v_Sea.1, v_Sea.2.1, v_Sea.2.2.1, v_Sea.2.2.2.1, v_Sea.2.2.2.2.1, (0 : Int32), v_Sea.2.2.2.2.2.2.1, v_Sea.2.2.2.2.2.2.2)) X d_Sea_findCore_94 in_Sea ty_Sea tyok_Sea nmx_Sea 13 rfl rfl 9 (by decide) lf_Sea_38 rfl rfl rfl (Nat.le_of_ble_eq_true rfl) rfl ?_
      refine aj_iconst (v := (0 : Int32)) X d_Sea_findCore_97 (by decide) ?_
      refine aj_istore_n (lv' := [(2, .int (0 : Int32)), (0, .ref o_Sea), (1, .int x1)]) X d_Sea_findCore_98 rfl (by decide) rfl ?_
      refine aj_lv (lv' := [(0, .ref o_Sea), (1, .int x1), (2, .int (0 : Int32))]) [1, 2, 0] rfl ?_
      exact c_Sea_findCore_L99 o_Ass o_Sto o_Tra o_Tal o_Sea a_Ass_0 a_Sto_0 a_Sto_1 a_Sto_2 a_Sto_3 a_Sto_4 a_Tra_0 a_Tra_1 a_Tra_2 a_Tra_3 a_Sea_0 a_Sea_1 a_Sea_2 v_Ass v_Sto v_Tra out X N hr hlk fu (v_Sea.1, v_Sea.2.1, v_Sea.2.2.1, v_Sea.2.2.2.1, v_Sea.2.2.2.2.1, (0 : Int32), v_Sea.2.2.2.2.2.2.1, v_Sea.2.2.2.2.2.2.2) x1 (0 : Int32) hm
    · have hm := ite_f hm h
      refine aj_aload_n X d_Sea_findCore_39 0 rfl ?_
      refine aj_get X d_Sea_findCore_40 in_Sea 13 rfl rfl 4 (by decide) lf_Sea_19 rfl ?_
      refine aj_get X d_Sea_findCore_43 in_Tra 8 rfl rfl 2 (by decide) lf_Sea_177 rfl ?_
      refine aj_iload_n X d_Sea_findCore_46 2 rfl ?_
      obtain ⟨b17, hm⟩ := chk_of hm
      refine aj_iald X d_Sea_findCore_47 9 0 rfl rfl b17 ?_
      refine aj_iconst (v := (1 : Int32)) X d_Sea_findCore_48 (by decide) ?_
      refine aj_ishr X d_Sea_findCore_49 ?_
      refine aj_istore_n (lv' := [(3, .int ((v_Tra.2.2.1.2 (x2).toNatClampNeg) >>> ((1 : Int32) &&& 31))), (0, .ref o_Sea), (1, .int x1), (2, .int x2)]) X d_Sea_findCore_50 rfl (by decide) rfl ?_
      refine aj_aload_n X d_Sea_findCore_51 1 rfl ?_
      refine aj_get X d_Sea_findCore_52 in_Sea 13 rfl rfl 7 (by decide) lf_Sea_31 rfl ?_
      refine aj_iload_n X d_Sea_findCore_55 0 rfl ?_
      obtain ⟨b18, hm⟩ := chk_of hm
      refine aj_iald X d_Sea_findCore_56 14 0 rfl rfl b18 ?_
      refine aj_iconst (v := (1 : Int32)) X d_Sea_findCore_57 (by decide) ?_
      refine aj_icmp_ne X 86 d_Sea_findCore_58 (by decide) (fun h => ?_) (fun h => ?_)
      · have hm := ite_f hm h
        refine aj_lv (lv' := [(0, .ref o_Sea), (1, .int x1), (2, .int x2)]) [1, 2, 3] rfl ?_
        exact c_Sea_findCore_B86 o_Ass o_Sto o_Tra o_Tal o_Sea a_Ass_0 a_Sto_0 a_Sto_1 a_Sto_2 a_Sto_3 a_Sto_4 a_Tra_0 a_Tra_1 a_Tra_2 a_Tra_3 a_Sea_0 a_Sea_1 a_Sea_2 v_Ass v_Sto v_Tra out X N hr hlk (m_Sea_findCore_L35 v_Ass v_Sto v_Tra nn) ih35 v_Sea x1 x2 hm
      · have hm := ite_t hm h
        refine aj_aload_n X d_Sea_findCore_61 1 rfl ?_
        refine aj_get X d_Sea_findCore_62 in_Sea 13 rfl rfl 4 (by decide) lf_Sea_19 rfl ?_
        refine aj_iload_n X d_Sea_findCore_65 0 rfl ?_
        obtain ⟨r19, h20, hm⟩ := bnd_of hm
        refine aj_callI (wr := [(o_Ass, .inr (0, [.int v_Ass.1, .ref a_Ass_0])), (a_Ass_0, .inl (cI, v_Ass.2.1, .inl v_Ass.2.2)), (o_Sto, .inr (3, [.int v_Sto.1, .int v_Sto.2.1, .ref a_Sto_0, .ref a_Sto_1, .ref a_Sto_2, .ref a_Sto_3, .ref a_Sto_4])), (a_Sto_0, .inl (cI, v_Sto.2.2.1.1, .inl v_Sto.2.2.1.2)), (a_Sto_1, .inl (cI, v_Sto.2.2.2.1.1, .inl v_Sto.2.2.2.1.2)), (a_Sto_2, .inl (cI, v_Sto.2.2.2.2.1.1, .inl v_Sto.2.2.2.2.1.2)), (a_Sto_3, .inl (cI, v_Sto.2.2.2.2.2.1.1, .inl v_Sto.2.2.2.2.2.1.2)), (a_Sto_4, .inl (cI, v_Sto.2.2.2.2.2.2.1, .inl v_Sto.2.2.2.2.2.2.2)), (o_Sea, .inr (2, [.int v_Sea.1, .long v_Sea.2.1, .int v_Sea.2.2.1, .ref o_Sto, .ref o_Tra, .ref o_Tal, .ref o_Ass, .ref a_Sea_0, .ref a_Sea_1, .int v_Sea.2.2.2.2.2.1, .ref a_Sea_2, .long v_Sea.2.2.2.2.2.2.2])), (a_Sea_0, .inl (cI, v_Sea.2.2.2.1.1, .inl v_Sea.2.2.2.1.2)), (a_Sea_1, .inl (cI, v_Sea.2.2.2.2.1.1, .inl v_Sea.2.2.2.2.1.2)), (a_Sea_2, .inl (cI, v_Sea.2.2.2.2.2.2.1.1, .inl v_Sea.2.2.2.2.2.2.1.2))]) X (aj_rV (As := [.int ((v_Tra.2.2.1.2 (x2).toNatClampNeg) >>> ((1 : Int32) &&& 31))]) (rest := []) X N gTB (c_Tra_causeOf (D := D) (cI := cI) (cL := cL) (cZ := cZ) o_Tra o_Tal a_Tra_0 a_Tra_1 a_Tra_2 a_Tra_3 v_Tra ((v_Tra.2.2.1.2 (x2).toNatClampNeg) >>> ((1 : Int32) &&& 31)) r19 h20) d_Sea_findCore_66 lk_Tra_causeOf lw_Sea_178 lh_Tra_causeOf ⟨(Nat.le_of_ble_eq_true rfl), (Nat.le_of_ble_eq_true rfl)⟩ [8, 9, 10, 11, 12] rfl rfl 0 rfl rfl rfl rfl (Nat.le_of_ble_eq_true rfl) ⟨Nat.le_refl _, Nat.le_refl _⟩) [8, 9, 10, 11, 12] [0, 1, 2, 3, 4, 5, 6, 7, 13, 14, 15, 16] rfl rfl rfl (by decide) (fun rr w1 hO => ?_)
        obtain ⟨rfl, rfl⟩ := hO
        refine aj_perm (ws' := w_Ass cI cL cZ o_Ass a_Ass_0 v_Ass ++ w_Sto cI cL cZ o_Sto a_Sto_0 a_Sto_1 a_Sto_2 a_Sto_3 a_Sto_4 v_Sto ++ w_Tra cI cL cZ o_Tra o_Tal a_Tra_0 a_Tra_1 a_Tra_2 a_Tra_3 v_Tra ++ w_Sea cI cL cZ o_Sea o_Sto o_Tra o_Tal o_Ass a_Sea_0 a_Sea_1 a_Sea_2 v_Sea) [0, 1, 2, 3, 4, 5, 6, 7, 12, 13, 14, 15, 16, 8, 9, 10, 11] rfl rfl ?_
        refine aj_if_lt X 86 d_Sea_findCore_69 (by decide) (fun h => ?_) (fun h => ?_)
        · have hm := ite_t hm h
          refine aj_lv (lv' := [(0, .ref o_Sea), (1, .int x1), (2, .int x2)]) [1, 2, 3] rfl ?_
          exact c_Sea_findCore_B86 o_Ass o_Sto o_Tra o_Tal o_Sea a_Ass_0 a_Sto_0 a_Sto_1 a_Sto_2 a_Sto_3 a_Sto_4 a_Tra_0 a_Tra_1 a_Tra_2 a_Tra_3 a_Sea_0 a_Sea_1 a_Sea_2 v_Ass v_Sto v_Tra out X N hr hlk (m_Sea_findCore_L35 v_Ass v_Sto v_Tra nn) ih35 v_Sea x1 x2 hm
        · have hm := ite_f hm h
          refine aj_aload_n X d_Sea_findCore_72 1 rfl ?_
          refine aj_aload_n X d_Sea_findCore_73 1 rfl ?_
          refine aj_get X d_Sea_findCore_74 in_Sea 13 rfl rfl 4 (by decide) lf_Sea_19 rfl ?_
          refine aj_iload_n X d_Sea_findCore_77 0 rfl ?_
          obtain ⟨r21, h22, hm⟩ := bnd_of hm
          refine aj_callI (wr := [(o_Ass, .inr (0, [.int v_Ass.1, .ref a_Ass_0])), (a_Ass_0, .inl (cI, v_Ass.2.1, .inl v_Ass.2.2)), (o_Sto, .inr (3, [.int v_Sto.1, .int v_Sto.2.1, .ref a_Sto_0, .ref a_Sto_1, .ref a_Sto_2, .ref a_Sto_3, .ref a_Sto_4])), (a_Sto_0, .inl (cI, v_Sto.2.2.1.1, .inl v_Sto.2.2.1.2)), (a_Sto_1, .inl (cI, v_Sto.2.2.2.1.1, .inl v_Sto.2.2.2.1.2)), (a_Sto_2, .inl (cI, v_Sto.2.2.2.2.1.1, .inl v_Sto.2.2.2.2.1.2)), (a_Sto_3, .inl (cI, v_Sto.2.2.2.2.2.1.1, .inl v_Sto.2.2.2.2.2.1.2)), (a_Sto_4, .inl (cI, v_Sto.2.2.2.2.2.2.1, .inl v_Sto.2.2.2.2.2.2.2)), (o_Sea, .inr (2, [.int v_Sea.1, .long v_Sea.2.1, .int v_Sea.2.2.1, .ref o_Sto, .ref o_Tra, .ref o_Tal, .ref o_Ass, .ref a_Sea_0, .ref a_Sea_1, .int v_Sea.2.2.2.2.2.1, .ref a_Sea_2, .long v_Sea.2.2.2.2.2.2.2])), (a_Sea_0, .inl (cI, v_Sea.2.2.2.1.1, .inl v_Sea.2.2.2.1.2)), (a_Sea_1, .inl (cI, v_Sea.2.2.2.2.1.1, .inl v_Sea.2.2.2.2.1.2)), (a_Sea_2, .inl (cI, v_Sea.2.2.2.2.2.2.1.1, .inl v_Sea.2.2.2.2.2.2.1.2))]) X (aj_rV (As := [.int ((v_Tra.2.2.1.2 (x2).toNatClampNeg) >>> ((1 : Int32) &&& 31))]) (rest := [.ref o_Sea]) X N gTB (c_Tra_causeOf (D := D) (cI := cI) (cL := cL) (cZ := cZ) o_Tra o_Tal a_Tra_0 a_Tra_1 a_Tra_2 a_Tra_3 v_Tra ((v_Tra.2.2.1.2 (x2).toNatClampNeg) >>> ((1 : Int32) &&& 31)) r21 h22) d_Sea_findCore_78 lk_Tra_causeOf lw_Sea_178 lh_Tra_causeOf ⟨(Nat.le_of_ble_eq_true rfl), (Nat.le_of_ble_eq_true rfl)⟩ [8, 9, 10, 11, 12] rfl rfl 0 rfl rfl rfl rfl (Nat.le_of_ble_eq_true rfl) ⟨Nat.le_refl _, Nat.le_refl _⟩) [8, 9, 10, 11, 12] [0, 1, 2, 3, 4, 5, 6, 7, 13, 14, 15, 16] rfl rfl rfl (by decide) (fun rr w1 hO => ?_)
          obtain ⟨rfl, rfl⟩ := hO
          refine aj_perm (ws' := w_Ass cI cL cZ o_Ass a_Ass_0 v_Ass ++ w_Sto cI cL cZ o_Sto a_Sto_0 a_Sto_1 a_Sto_2 a_Sto_3 a_Sto_4 v_Sto ++ w_Tra cI cL cZ o_Tra o_Tal a_Tra_0 a_Tra_1 a_Tra_2 a_Tra_3 v_Tra ++ w_Sea cI cL cZ o_Sea o_Sto o_Tra o_Tal o_Ass a_Sea_0 a_Sea_1 a_Sea_2 v_Sea) [0, 1, 2, 3, 4, 5, 6, 7, 12, 13, 14, 15, 16, 8, 9, 10, 11] rfl rfl ?_
          refine aj_iload_n X d_Sea_findCore_81 0 rfl ?_
          obtain ⟨r23, h24, hm⟩ := bnd_of hm
          refine aj_callI (wr := [(o_Ass, .inr (0, [.int v_Ass.1, .ref a_Ass_0])), (a_Ass_0, .inl (cI, v_Ass.2.1, .inl v_Ass.2.2))]) X (aj_rV (As := [.int r21, .int ((v_Tra.2.2.1.2 (x2).toNatClampNeg) >>> ((1 : Int32) &&& 31))]) (rest := []) X N gTB (c_Sea_markOthers (D := D) (cI := cI) (cL := cL) (cZ := cZ) o_Sto o_Tra o_Tal o_Sea o_Ass a_Sto_0 a_Sto_1 a_Sto_2 a_Sto_3 a_Sto_4 a_Tra_0 a_Tra_1 a_Tra_2 a_Tra_3 a_Sea_0 a_Sea_1 a_Sea_2 v_Sto v_Tra v_Sea r21 ((v_Tra.2.2.1.2 (x2).toNatClampNeg) >>> ((1 : Int32) &&& 31)) r23 h24) d_Sea_findCore_82 lk_Sea_markOthers lw_Sea_170 lh_Sea_markOthers ⟨(Nat.le_of_ble_eq_true rfl), (Nat.le_of_ble_eq_true rfl)⟩ [2, 3, 4, 5, 6, 7, 8, 9, 10, 11, 12, 13, 14, 15, 16] rfl rfl 11 rfl rfl rfl rfl (Nat.le_of_ble_eq_true rfl) ⟨Nat.le_refl _, Nat.le_refl _⟩) [2, 3, 4, 5, 6, 7, 8, 9, 10, 11, 12, 13, 14, 15, 16] [0, 1] rfl rfl rfl (by decide) (fun rr w1 hO => ?_)
          obtain ⟨rfl, rfl⟩ := hO
          refine aj_perm (ws' := w_Ass cI cL cZ o_Ass a_Ass_0 v_Ass ++ w_Sto cI cL cZ o_Sto a_Sto_0 a_Sto_1 a_Sto_2 a_Sto_3 a_Sto_4 v_Sto ++ w_Tra cI cL cZ o_Tra o_Tal a_Tra_0 a_Tra_1 a_Tra_2 a_Tra_3 v_Tra ++ w_Sea cI cL cZ o_Sea o_Sto o_Tra o_Tal o_Ass a_Sea_0 a_Sea_1 a_Sea_2 r23.1) [0, 1, 2, 3, 4, 5, 6, 7, 8, 9, 10, 11, 12, 13, 14, 15, 16] rfl rfl ?_
          refine aj_pop X d_Sea_findCore_85 rfl ?_
          refine aj_lv (lv' := [(0, .ref o_Sea), (1, .int x1), (2, .int x2)]) [1, 2, 3] rfl ?_
          exact c_Sea_findCore_B86 o_Ass o_Sto o_Tra o_Tal o_Sea a_Ass_0 a_Sto_0 a_Sto_1 a_Sto_2 a_Sto_3 a_Sto_4 a_Tra_0 a_Tra_1 a_Tra_2 a_Tra_3 a_Sea_0 a_Sea_1 a_Sea_2 v_Ass v_Sto v_Tra out X N hr hlk (m_Sea_findCore_L35 v_Ass v_Sto v_Tra nn) ih35 r23.1 x1 x2 hm
def m_Sea_findCore (v_Ass : T_Ass) (v_Sto : T_Sto) (v_Tra : T_Tra) (v_Sea : T_Sea) (x1 : Int32) : Option (T_Sea) := ((m_Arr__fill v_Sea.2.2.2.1 (0 : Int32)).bind fun r25 => (if ¬ (x1 < 0 ∨ v_Ass.2.1 ≤ (x1).toNatClampNeg) then (if ¬ (((v_Ass.2.2 (x1).toNatClampNeg) >>> ((1 : Int32) &&& 31)) < 0 ∨ r25.1 ≤ (((v_Ass.2.2 (x1).toNatClampNeg) >>> ((1 : Int32) &&& 31))).toNatClampNeg) then (m_Sea_findCore_L35 v_Ass v_Sto v_Tra fu (v_Sea.1, v_Sea.2.1, v_Sea.2.2.1, (r25.1, (upd r25.2 (((v_Ass.2.2 (x1).toNatClampNeg) >>> ((1 : Int32) &&& 31))).toNatClampNeg (1 : Int32))), v_Sea.2.2.2.2.1, v_Sea.2.2.2.2.2.1, v_Sea.2.2.2.2.2.2.1, v_Sea.2.2.2.2.2.2.2) x1 (v_Tra.1 - (1 : Int32))) else none) else none))
set_option maxRecDepth 100000 in
set_option maxHeartbeats 4000000 in
theorem c_Sea_findCore {l : Launch} {D : va_G} {cI cL cZ : ClassId} (o_Ass o_Sto o_Tra o_Tal o_Sea a_Ass_0 a_Sto_0 a_Sto_1 a_Sto_2 a_Sto_3 a_Sto_4 a_Tra_0 a_Tra_1 a_Tra_2 a_Tra_3 a_Sea_0 a_Sea_1 a_Sea_2 : Nat) (v_Ass : T_Ass) (v_Sto : T_Sto) (v_Tra : T_Tra) (v_Sea : T_Sea) (x1 : Int32) (out : T_Sea) (hm : m_Sea_findCore v_Ass v_Sto v_Tra v_Sea x1 = some out) : ct l y_Sea_findCore (Cond.code y_Sea_findCore b_Sea_findCore 4 none :: TB) 2 47 D clss (ty3 cI cL cZ) NM0 NF0 [.ref o_Sea, .int x1] (w_Ass cI cL cZ o_Ass a_Ass_0 v_Ass ++ w_Sto cI cL cZ o_Sto a_Sto_0 a_Sto_1 a_Sto_2 a_Sto_3 a_Sto_4 v_Sto ++ w_Tra cI cL cZ o_Tra o_Tal a_Tra_0 a_Tra_1 a_Tra_2 a_Tra_3 v_Tra ++ w_Sea cI cL cZ o_Sea o_Sto o_Tra o_Tal o_Ass a_Sea_0 a_Sea_1 a_Sea_2 v_Sea) (qV D clss (ty3 cI cL cZ) (O_Sea_findCore cI cL cZ o_Ass o_Sto o_Tra o_Tal o_Sea a_Ass_0 a_Sto_0 a_Sto_1 a_Sto_2 a_Sto_3 a_Sto_4 a_Tra_0 a_Tra_1 a_Tra_2 a_Tra_3 a_Sea_0 a_Sea_1 a_Sea_2 v_Ass v_Sto v_Tra out)) 0 0 := by
  refine ct_of (plainFor_of_name (by decide)) (Nat.le_of_ble_eq_true rfl) (fun p e s m args below meth c A X N hr hlk hnm => ?_)
  refine aj_lv (lv' := [(0, .ref o_Sea), (1, .int x1)]) [0, 1] rfl ?_
  unfold m_Sea_findCore at hm
  refine aj_aload_n X d_Sea_findCore_0 0 rfl ?_
  refine aj_get X d_Sea_findCore_1 in_Sea 13 rfl rfl 7 (by decide) lf_Sea_31 rfl ?_
  refine aj_iconst (v := (0 : Int32)) X d_Sea_findCore_4 (by decide) ?_
  obtain ⟨r25, h26, hm⟩ := bnd_of hm
  refine aj_callV (wr := [(o_Ass, .inr (0, [.int v_Ass.1, .ref a_Ass_0])), (a_Ass_0, .inl (cI, v_Ass.2.1, .inl v_Ass.2.2)), (o_Sto, .inr (3, [.int v_Sto.1, .int v_Sto.2.1, .ref a_Sto_0, .ref a_Sto_1, .ref a_Sto_2, .ref a_Sto_3, .ref a_Sto_4])), (a_Sto_0, .inl (cI, v_Sto.2.2.1.1, .inl v_Sto.2.2.1.2)), (a_Sto_1, .inl (cI, v_Sto.2.2.2.1.1, .inl v_Sto.2.2.2.1.2)), (a_Sto_2, .inl (cI, v_Sto.2.2.2.2.1.1, .inl v_Sto.2.2.2.2.1.2)), (a_Sto_3, .inl (cI, v_Sto.2.2.2.2.2.1.1, .inl v_Sto.2.2.2.2.2.1.2)), (a_Sto_4, .inl (cI, v_Sto.2.2.2.2.2.2.1, .inl v_Sto.2.2.2.2.2.2.2)), (o_Tra, .inr (5, [.int v_Tra.1, .int v_Tra.2.1, .ref a_Tra_0, .ref o_Tal, .ref a_Tra_1, .ref a_Tra_2, .ref a_Tra_3])), (a_Tra_0, .inl (cI, v_Tra.2.2.1.1, .inl v_Tra.2.2.1.2)), (a_Tra_1, .inl (cI, v_Tra.2.2.2.1.1, .inl v_Tra.2.2.2.1.2)), (a_Tra_2, .inl (cI, v_Tra.2.2.2.2.1.1, .inl v_Tra.2.2.2.2.1.2)), (a_Tra_3, .inl (cI, v_Tra.2.2.2.2.2.1, .inl v_Tra.2.2.2.2.2.2)), (o_Sea, .inr (2, [.int v_Sea.1, .long v_Sea.2.1, .int v_Sea.2.2.1, .ref o_Sto, .ref o_Tra, .ref o_Tal, .ref o_Ass, .ref a_Sea_0, .ref a_Sea_1, .int v_Sea.2.2.2.2.2.1, .ref a_Sea_2, .long v_Sea.2.2.2.2.2.2.2])), (a_Sea_1, .inl (cI, v_Sea.2.2.2.2.1.1, .inl v_Sea.2.2.2.2.1.2)), (a_Sea_2, .inl (cI, v_Sea.2.2.2.2.2.2.1.1, .inl v_Sea.2.2.2.2.2.2.1.2))]) X (aj_rS (As := [.ref a_Sea_0, .int (0 : Int32)]) (rest := []) X N gTB (c_Arr__fill (D := D) (cI := cI) (cL := cL) (cZ := cZ) a_Sea_0 v_Sea.2.2.2.1 (0 : Int32) r25 h26) d_Sea_findCore_5 lk_Arr__fill lw_Sea_164 lh_Arr__fill ⟨(Nat.le_of_ble_eq_true rfl), (Nat.le_of_ble_eq_true rfl)⟩ [14] rfl rfl rfl (Nat.le_of_ble_eq_true rfl) ⟨Nat.le_refl _, Nat.le_refl _⟩) [14] [0, 1, 2, 3, 4, 5, 6, 7, 8, 9, 10, 11, 12, 13, 15, 16] rfl rfl rfl (by decide) (fun w1 hO => ?_)
  obtain rfl := hO
  refine aj_perm (ws' := w_Ass cI cL cZ o_Ass a_Ass_0 v_Ass ++ w_Sto cI cL cZ o_Sto a_Sto_0 a_Sto_1 a_Sto_2 a_Sto_3 a_Sto_4 v_Sto ++ w_Tra cI cL cZ o_Tra o_Tal a_Tra_0 a_Tra_1 a_Tra_2 a_Tra_3 v_Tra ++ w_Sea cI cL cZ o_Sea o_Sto o_Tra o_Tal o_Ass a_Sea_0 a_Sea_1 a_Sea_2 (v_Sea.1, v_Sea.2.1, v_Sea.2.2.1, r25, v_Sea.2.2.2.2.1, v_Sea.2.2.2.2.2.1, v_Sea.2.2.2.2.2.2.1, v_Sea.2.2.2.2.2.2.2)) [0, 1, 2, 3, 4, 5, 6, 7, 8, 9, 10, 11, 12, 13, 16, 14, 15] rfl rfl ?_
  refine aj_aload_n X d_Sea_findCore_8 0 rfl ?_
  refine aj_get X d_Sea_findCore_9 in_Sea 13 rfl rfl 7 (by decide) lf_Sea_31 rfl ?_
  refine aj_aload_n X d_Sea_findCore_12 0 rfl ?_
  refine aj_get X d_Sea_findCore_13 in_Sea 13 rfl rfl 6 (by decide) lf_Sea_27 rfl ?_
  refine aj_get X d_Sea_findCore_16 in_Ass 0 rfl rfl 1 (by decide) lf_Sea_91 rfl ?_
  refine aj_iload_n X d_Sea_findCore_19 1 rfl ?_
  obtain ⟨b27, hm⟩ := chk_of hm
  refine aj_iald X d_Sea_findCore_20 1 0 rfl rfl b27 ?_
  refine aj_iconst (v := (1 : Int32)) X d_Sea_findCore_21 (by decide) ?_
  refine aj_ishr X d_Sea_findCore_22 ?_
  refine aj_iconst (v := (1 : Int32)) X d_Sea_findCore_23 (by decide) ?_
  obtain ⟨b28, hm⟩ := chk_of hm
  refine aj_iast (ws' := w_Ass cI cL cZ o_Ass a_Ass_0 v_Ass ++ w_Sto cI cL cZ o_Sto a_Sto_0 a_Sto_1 a_Sto_2 a_Sto_3 a_Sto_4 v_Sto ++ w_Tra cI cL cZ o_Tra o_Tal a_Tra_0 a_Tra_1 a_Tra_2 a_Tra_3 v_Tra ++ w_Sea cI cL cZ o_Sea o_Sto o_Tra o_Tal o_Ass a_Sea_0 a_Sea_1 a_Sea_2 (v_Sea.1, v_Sea.2.1, v_Sea.2.2.1, (r25.1, (upd r25.2 (((v_Ass.2.2 (x1).toNatClampNeg) >>> ((1 : Int32) &&& 31))).toNatClampNeg (1 : Int32))), v_Sea.2.2.2.2.1, v_Sea.2.2.2.2.2.1, v_Sea.2.2.2.2.2.2.1, v_Sea.2.2.2.2.2.2.2)) X d_Sea_findCore_24 14 0 rfl rfl b28 rfl ?_
  refine aj_aload_n X d_Sea_findCore_25 0 rfl ?_
  refine aj_get X d_Sea_findCore_26 in_Sea 13 rfl rfl 4 (by decide) lf_Sea_19 rfl ?_
  refine aj_get X d_Sea_findCore_29 in_Tra 8 rfl rfl 0 (by decide) lf_Sea_174 rfl ?_
  refine aj_iconst (v := (1 : Int32)) X d_Sea_findCore_32 (by decide) ?_
  refine aj_isub X d_Sea_findCore_33 ?_
  refine aj_istore_n (lv' := [(2, .int (v_Tra.1 - (1 : Int32))), (0, .ref o_Sea), (1, .int x1)]) X d_Sea_findCore_34 rfl (by decide) rfl ?_
  refine aj_lv (lv' := [(0, .ref o_Sea), (1, .int x1), (2, .int (v_Tra.1 - (1 : Int32)))]) [1, 2, 0] rfl ?_
  exact c_Sea_findCore_L35 o_Ass o_Sto o_Tra o_Tal o_Sea a_Ass_0 a_Sto_0 a_Sto_1 a_Sto_2 a_Sto_3 a_Sto_4 a_Tra_0 a_Tra_1 a_Tra_2 a_Tra_3 a_Sea_0 a_Sea_1 a_Sea_2 v_Ass v_Sto v_Tra out X N hr hlk fu (v_Sea.1, v_Sea.2.1, v_Sea.2.2.1, (r25.1, (upd r25.2 (((v_Ass.2.2 (x1).toNatClampNeg) >>> ((1 : Int32) &&& 31))).toNatClampNeg (1 : Int32))), v_Sea.2.2.2.2.1, v_Sea.2.2.2.2.2.1, v_Sea.2.2.2.2.2.2.1, v_Sea.2.2.2.2.2.2.2) x1 (v_Tra.1 - (1 : Int32)) hm
abbrev X_Sea_failBy (p : Program) (s : State) (m : MethodId) (args : Array Value) (c : Code) (D : va_G) (cI cL cZ : ClassId) (A : Nat → Prop) : Prop := aj_C p s m args c D clss (ty3 cI cL cZ) A b_Sea_failBy 2 R_Sea TB
abbrev J_Sea_failBy (p : Program) (l : Launch) (e : Env) (s : State) (m : MethodId) (args : Array Value) (below : List Frame) (meth : Method) (c : Code) (D : va_G) (cI cL cZ : ClassId) (A : Nat → Prop) (O : Int32 → va_W → Prop) (mc ms : Nat) (ws : va_W) (kc ks pc : Nat) (lv : List (Nat × Value)) (st : List Value) : Prop := aj p l e { frames := 3, cells := mc, slots := ms, locals := 70 } s m args below meth c (MQ below (qI D clss (ty3 cI cL cZ) O A) args s mc ms A) D clss A 2 ws kc ks pc lv st
def O_Sea_failBy (cI cL cZ : ClassId) (o_Ass o_Sto o_Tra o_Tal o_Sea a_Ass_0 a_Sto_0 a_Sto_1 a_Sto_2 a_Sto_3 a_Sto_4 a_Tra_0 a_Tra_1 a_Tra_2 a_Tra_3 a_Sea_0 a_Sea_1 a_Sea_2 : Nat) (v_Ass : T_Ass) (v_Sto : T_Sto) (v_Tra : T_Tra) (out : T_Sea × Int32) : Int32 → va_W → Prop := fun r w1 => out.2 = r ∧ w1 = w_Ass cI cL cZ o_Ass a_Ass_0 v_Ass ++ w_Sto cI cL cZ o_Sto a_Sto_0 a_Sto_1 a_Sto_2 a_Sto_3 a_Sto_4 v_Sto ++ w_Tra cI cL cZ o_Tra o_Tal a_Tra_0 a_Tra_1 a_Tra_2 a_Tra_3 v_Tra ++ w_Sea cI cL cZ o_Sea o_Sto o_Tra o_Tal o_Ass a_Sea_0 a_Sea_1 a_Sea_2 out.1
def m_Sea_failBy (v_Ass : T_Ass) (v_Sto : T_Sto) (v_Tra : T_Tra) (v_Sea : T_Sea) (x1 : Int32) : Option (T_Sea × Int32) := ((m_Sea_findCore v_Ass v_Sto v_Tra v_Sea x1).bind fun r3 => (some (r3, (2 : Int32))))
set_option maxRecDepth 100000 in
set_option maxHeartbeats 4000000 in
theorem c_Sea_failBy {l : Launch} {D : va_G} {cI cL cZ : ClassId} (o_Ass o_Sto o_Tra o_Tal o_Sea a_Ass_0 a_Sto_0 a_Sto_1 a_Sto_2 a_Sto_3 a_Sto_4 a_Tra_0 a_Tra_1 a_Tra_2 a_Tra_3 a_Sea_0 a_Sea_1 a_Sea_2 : Nat) (v_Ass : T_Ass) (v_Sto : T_Sto) (v_Tra : T_Tra) (v_Sea : T_Sea) (x1 : Int32) (out : T_Sea × Int32) (hm : m_Sea_failBy v_Ass v_Sto v_Tra v_Sea x1 = some out) : ct l y_Sea_failBy (Cond.code y_Sea_failBy b_Sea_failBy 2 (some .int) :: TB) 3 70 D clss (ty3 cI cL cZ) NM0 NF0 [.ref o_Sea, .int x1] (w_Ass cI cL cZ o_Ass a_Ass_0 v_Ass ++ w_Sto cI cL cZ o_Sto a_Sto_0 a_Sto_1 a_Sto_2 a_Sto_3 a_Sto_4 v_Sto ++ w_Tra cI cL cZ o_Tra o_Tal a_Tra_0 a_Tra_1 a_Tra_2 a_Tra_3 v_Tra ++ w_Sea cI cL cZ o_Sea o_Sto o_Tra o_Tal o_Ass a_Sea_0 a_Sea_1 a_Sea_2 v_Sea) (qI D clss (ty3 cI cL cZ) (O_Sea_failBy cI cL cZ o_Ass o_Sto o_Tra o_Tal o_Sea a_Ass_0 a_Sto_0 a_Sto_1 a_Sto_2 a_Sto_3 a_Sto_4 a_Tra_0 a_Tra_1 a_Tra_2 a_Tra_3 a_Sea_0 a_Sea_1 a_Sea_2 v_Ass v_Sto v_Tra out)) 0 0 := by
  refine ct_of (plainFor_of_name (by decide)) (Nat.le_of_ble_eq_true rfl) (fun p e s m args below meth c A X N hr hlk hnm => ?_)
  refine aj_lv (lv' := [(0, .ref o_Sea), (1, .int x1)]) [0, 1] rfl ?_
  unfold m_Sea_failBy at hm
  refine aj_aload_n X d_Sea_failBy_0 0 rfl ?_
  refine aj_iload_n X d_Sea_failBy_1 1 rfl ?_
  obtain ⟨r3, h4, hm⟩ := bnd_of hm
  refine aj_callV (wr := []) X (aj_rV (As := [.int x1]) (rest := []) X N gTB (c_Sea_findCore (D := D) (cI := cI) (cL := cL) (cZ := cZ) o_Ass o_Sto o_Tra o_Tal o_Sea a_Ass_0 a_Sto_0 a_Sto_1 a_Sto_2 a_Sto_3 a_Sto_4 a_Tra_0 a_Tra_1 a_Tra_2 a_Tra_3 a_Sea_0 a_Sea_1 a_Sea_2 v_Ass v_Sto v_Tra v_Sea x1 r3 h4) d_Sea_failBy_2 lk_Sea_findCore lw_Sea_132 lh_Sea_findCore ⟨(Nat.le_of_ble_eq_true rfl), (Nat.le_of_ble_eq_true rfl)⟩ [0, 1, 2, 3, 4, 5, 6, 7, 8, 9, 10, 11, 12, 13, 14, 15, 16] rfl rfl 13 rfl rfl rfl rfl (Nat.le_of_ble_eq_true rfl) ⟨Nat.le_refl _, Nat.le_refl _⟩) [0, 1, 2, 3, 4, 5, 6, 7, 8, 9, 10, 11, 12, 13, 14, 15, 16] [] rfl rfl rfl (by decide) (fun w1 hO => ?_)
  obtain rfl := hO
  refine aj_perm (ws' := w_Ass cI cL cZ o_Ass a_Ass_0 v_Ass ++ w_Sto cI cL cZ o_Sto a_Sto_0 a_Sto_1 a_Sto_2 a_Sto_3 a_Sto_4 v_Sto ++ w_Tra cI cL cZ o_Tra o_Tal a_Tra_0 a_Tra_1 a_Tra_2 a_Tra_3 v_Tra ++ w_Sea cI cL cZ o_Sea o_Sto o_Tra o_Tal o_Ass a_Sea_0 a_Sea_1 a_Sea_2 r3) [0, 1, 2, 3, 4, 5, 6, 7, 8, 9, 10, 11, 12, 13, 14, 15, 16] rfl rfl ?_
  refine aj_iconst (v := (2 : Int32)) X d_Sea_failBy_5 (by decide) ?_
  have ho := Option.some.inj hm
  subst ho
  exact aj_iret X d_Sea_failBy_6 hr hlk [0, 1, 2, 3, 4, 5, 6, 7, 8, 9, 10, 11, 12, 13, 14, 15, 16] (w_Ass cI cL cZ o_Ass a_Ass_0 v_Ass ++ w_Sto cI cL cZ o_Sto a_Sto_0 a_Sto_1 a_Sto_2 a_Sto_3 a_Sto_4 v_Sto ++ w_Tra cI cL cZ o_Tra o_Tal a_Tra_0 a_Tra_1 a_Tra_2 a_Tra_3 v_Tra ++ w_Sea cI cL cZ o_Sea o_Sto o_Tra o_Tal o_Ass a_Sea_0 a_Sea_1 a_Sea_2 r3) rfl rfl ⟨rfl, rfl⟩
abbrev X_Sea_decide (p : Program) (s : State) (m : MethodId) (args : Array Value) (c : Code) (D : va_G) (cI cL cZ : ClassId) (A : Nat → Prop) : Prop := aj_C p s m args c D clss (ty3 cI cL cZ) A b_Sea_decide 2 R_Sea TB
abbrev J_Sea_decide (p : Program) (l : Launch) (e : Env) (s : State) (m : MethodId) (args : Array Value) (below : List Frame) (meth : Method) (c : Code) (D : va_G) (cI cL cZ : ClassId) (A : Nat → Prop) (O : Int32 → va_W → Prop) (mc ms : Nat) (ws : va_W) (kc ks pc : Nat) (lv : List (Nat × Value)) (st : List Value) : Prop := aj p l e { frames := 3, cells := mc, slots := ms, locals := 73 } s m args below meth c (MQ below (qI D clss (ty3 cI cL cZ) O A) args s mc ms A) D clss A 2 ws kc ks pc lv st
def O_Sea_decide (cI cL cZ : ClassId) (o_Sto o_Tal o_Tra o_Sea o_Ass a_Sto_0 a_Sto_1 a_Sto_2 a_Sto_3 a_Sto_4 a_Tal_0 a_Tal_1 a_Tal_2 a_Tal_3 a_Tra_0 a_Tra_1 a_Tra_2 a_Tra_3 a_Sea_0 a_Sea_1 a_Sea_2 : Nat) (v_Sto : T_Sto) (out : T_Tal × T_Tra × T_Sea × Int32) : Int32 → va_W → Prop := fun r w1 => out.2.2.2 = r ∧ w1 = w_Sto cI cL cZ o_Sto a_Sto_0 a_Sto_1 a_Sto_2 a_Sto_3 a_Sto_4 v_Sto ++ w_Tal cI cL cZ o_Tal o_Sto a_Tal_0 a_Tal_1 a_Tal_2 a_Tal_3 out.1 ++ w_Tra cI cL cZ o_Tra o_Tal a_Tra_0 a_Tra_1 a_Tra_2 a_Tra_3 out.2.1 ++ w_Sea cI cL cZ o_Sea o_Sto o_Tra o_Tal o_Ass a_Sea_0 a_Sea_1 a_Sea_2 out.2.2.1
def m_Sea_decide (v_Sto : T_Sto) (v_Tal : T_Tal) (v_Tra : T_Tra) (v_Sea : T_Sea) (x1 : Int32) : Option (T_Tal × T_Tra × T_Sea × Int32) := (if 0 < (lg_cmp v_Sea.2.2.2.2.2.2.2 (0 : Int64)) then ((m_Sea_countStep v_Sea).bind fun r5 => ((m_Tra_put v_Sto v_Tal (v_Tra.1, (v_Tra.2.1 + (1 : Int32)), v_Tra.2.2.1, v_Tra.2.2.2.1, v_Tra.2.2.2.2.1, v_Tra.2.2.2.2.2) x1 (-1 : Int32)).bind fun r7 => (some (r7.1, r7.2, r5, (4 : Int32))))) else (some (v_Tal, v_Tra, v_Sea, (3 : Int32))))
set_option maxRecDepth 100000 in
set_option maxHeartbeats 4000000 in
theorem c_Sea_decide {l : Launch} {D : va_G} {cI cL cZ : ClassId} (o_Sto o_Tal o_Tra o_Sea o_Ass a_Sto_0 a_Sto_1 a_Sto_2 a_Sto_3 a_Sto_4 a_Tal_0 a_Tal_1 a_Tal_2 a_Tal_3 a_Tra_0 a_Tra_1 a_Tra_2 a_Tra_3 a_Sea_0 a_Sea_1 a_Sea_2 : Nat) (v_Sto : T_Sto) (v_Tal : T_Tal) (v_Tra : T_Tra) (v_Sea : T_Sea) (x1 : Int32) (out : T_Tal × T_Tra × T_Sea × Int32) (hm : m_Sea_decide v_Sto v_Tal v_Tra v_Sea x1 = some out) : ct l y_Sea_decide (Cond.code y_Sea_decide b_Sea_decide 2 (some .int) :: TB) 3 73 D clss (ty3 cI cL cZ) NM0 NF0 [.ref o_Sea, .int x1] (w_Sto cI cL cZ o_Sto a_Sto_0 a_Sto_1 a_Sto_2 a_Sto_3 a_Sto_4 v_Sto ++ w_Tal cI cL cZ o_Tal o_Sto a_Tal_0 a_Tal_1 a_Tal_2 a_Tal_3 v_Tal ++ w_Tra cI cL cZ o_Tra o_Tal a_Tra_0 a_Tra_1 a_Tra_2 a_Tra_3 v_Tra ++ w_Sea cI cL cZ o_Sea o_Sto o_Tra o_Tal o_Ass a_Sea_0 a_Sea_1 a_Sea_2 v_Sea) (qI D clss (ty3 cI cL cZ) (O_Sea_decide cI cL cZ o_Sto o_Tal o_Tra o_Sea o_Ass a_Sto_0 a_Sto_1 a_Sto_2 a_Sto_3 a_Sto_4 a_Tal_0 a_Tal_1 a_Tal_2 a_Tal_3 a_Tra_0 a_Tra_1 a_Tra_2 a_Tra_3 a_Sea_0 a_Sea_1 a_Sea_2 v_Sto out)) 0 0 := by
  refine ct_of (plainFor_of_name (by decide)) (Nat.le_of_ble_eq_true rfl) (fun p e s m args below meth c A X N hr hlk hnm => ?_)
  refine aj_lv (lv' := [(0, .ref o_Sea), (1, .int x1)]) [0, 1] rfl ?_
  unfold m_Sea_decide at hm
  refine aj_aload_n X d_Sea_decide_0 0 rfl ?_
  refine aj_get X d_Sea_decide_1 in_Sea 16 rfl rfl 11 (by decide) lf_Sea_51 rfl ?_
  refine aj_lconst (v := (0 : Int64)) X d_Sea_decide_4 (by decide) ?_
  refine aj_lcmp X d_Sea_decide_5 ?_
  refine aj_if_gt X 11 d_Sea_decide_6 (by decide) (fun h => ?_) (fun h => ?_)
  · have hm := ite_t hm h
    refine aj_aload_n X d_Sea_decide_11 0 rfl ?_
    obtain ⟨r5, h6, hm⟩ := bnd_of hm
    refine aj_callV (wr := [(o_Sto, .inr (3, [.int v_Sto.1, .int v_Sto.2.1, .ref a_Sto_0, .ref a_Sto_1, .ref a_Sto_2, .ref a_Sto_3, .ref a_Sto_4])), (a_Sto_0, .inl (cI, v_Sto.2.2.1.1, .inl v_Sto.2.2.1.2)), (a_Sto_1, .inl (cI, v_Sto.2.2.2.1.1, .inl v_Sto.2.2.2.1.2)), (a_Sto_2, .inl (cI, v_Sto.2.2.2.2.1.1, .inl v_Sto.2.2.2.2.1.2)), (a_Sto_3, .inl (cI, v_Sto.2.2.2.2.2.1.1, .inl v_Sto.2.2.2.2.2.1.2)), (a_Sto_4, .inl (cI, v_Sto.2.2.2.2.2.2.1, .inl v_Sto.2.2.2.2.2.2.2)), (o_Tal, .inr (4, [.ref o_Sto, .ref a_Tal_0, .ref a_Tal_1, .ref a_Tal_2, .ref a_Tal_3])), (a_Tal_0, .inl (cL, v_Tal.1.1, .inr (.inl v_Tal.1.2))), (a_Tal_1, .inl (cL, v_Tal.2.1.1, .inr (.inl v_Tal.2.1.2))), (a_Tal_2, .inl (cI, v_Tal.2.2.1.1, .inl v_Tal.2.2.1.2)), (a_Tal_3, .inl (cI, v_Tal.2.2.2.1, .inl v_Tal.2.2.2.2)), (o_Tra, .inr (5, [.int v_Tra.1, .int v_Tra.2.1, .ref a_Tra_0, .ref o_Tal, .ref a_Tra_1, .ref a_Tra_2, .ref a_Tra_3])), (a_Tra_0, .inl (cI, v_Tra.2.2.1.1, .inl v_Tra.2.2.1.2)), (a_Tra_1, .inl (cI, v_Tra.2.2.2.1.1, .inl v_Tra.2.2.2.1.2)), (a_Tra_2, .inl (cI, v_Tra.2.2.2.2.1.1, .inl v_Tra.2.2.2.2.1.2)), (a_Tra_3, .inl (cI, v_Tra.2.2.2.2.2.1, .inl v_Tra.2.2.2.2.2.2))]) X (aj_rV (As := []) (rest := []) X N gTB (c_Sea_countStep (D := D) (cI := cI) (cL := cL) (cZ := cZ) o_Sea o_Sto o_Tra o_Tal o_Ass a_Sea_0 a_Sea_1 a_Sea_2 v_Sea r5 h6) d_Sea_decide_12 lk_Sea_countStep lw_Sea_136 lh_Sea_countStep ⟨(Nat.le_of_ble_eq_true rfl), (Nat.le_of_ble_eq_true rfl)⟩ [16, 17, 18, 19] rfl rfl 0 rfl rfl rfl rfl (Nat.le_of_ble_eq_true rfl) ⟨Nat.le_refl _, Nat.le_refl _⟩) [16, 17, 18, 19] [0, 1, 2, 3, 4, 5, 6, 7, 8, 9, 10, 11, 12, 13, 14, 15] rfl rfl rfl (by decide) (fun w1 hO => ?_)
    obtain rfl := hO
    refine aj_perm (ws' := w_Sto cI cL cZ o_Sto a_Sto_0 a_Sto_1 a_Sto_2 a_Sto_3 a_Sto_4 v_Sto ++ w_Tal cI cL cZ o_Tal o_Sto a_Tal_0 a_Tal_1 a_Tal_2 a_Tal_3 v_Tal ++ w_Tra cI cL cZ o_Tra o_Tal a_Tra_0 a_Tra_1 a_Tra_2 a_Tra_3 v_Tra ++ w_Sea cI cL cZ o_Sea o_Sto o_Tra o_Tal o_Ass a_Sea_0 a_Sea_1 a_Sea_2 r5) [0, 1, 2, 3, 4, 5, 6, 7, 8, 9, 10, 11, 12, 13, 14, 15, 16, 17, 18, 19] rfl rfl ?_
    refine aj_aload_n X d_Sea_decide_15 0 rfl ?_
    refine aj_get X d_Sea_decide_16 in_Sea 16 rfl rfl 4 (by decide) lf_Sea_19 rfl ?_
    refine aj_dup X d_Sea_decide_19 rfl ?_
    refine aj_get X d_Sea_decide_20 in_Tra 11 rfl rfl 1 (by decide) lf_Sea_75 rfl ?_
    refine aj_iconst (v := (1 : Int32)) X d_Sea_decide_23 (by decide) ?_
    refine aj_iadd X d_Sea_decide_24 ?_
    refine aj_put (ws' := w_Sto cI cL cZ o_Sto a_Sto_0 a_Sto_1 a_Sto_2 a_Sto_3 a_Sto_4 v_Sto ++ w_Tal cI cL cZ o_Tal o_Sto a_Tal_0 a_Tal_1 a_Tal_2 a_Tal_3 v_Tal ++ w_Tra cI cL cZ o_Tra o_Tal a_Tra_0 a_Tra_1 a_Tra_2 a_Tra_3 (v_Tra.1, (v_Tra.2.1 + (1 : Int32)), v_Tra.2.2.1, v_Tra.2.2.2.1, v_Tra.2.2.2.2.1, v_Tra.2.2.2.2.2) ++ w_Sea cI cL cZ o_Sea o_Sto o_Tra o_Tal o_Ass a_Sea_0 a_Sea_1 a_Sea_2 r5) X d_Sea_decide_25 in_Tra ty_Tra tyok_Tra nmx_Tra 11 rfl rfl 1 (by decide) lf_Sea_75 rfl rfl rfl (Nat.le_of_ble_eq_true rfl) rfl ?_
    refine aj_aload_n X d_Sea_decide_28 0 rfl ?_
    refine aj_get X d_Sea_decide_29 in_Sea 16 rfl rfl 4 (by decide) lf_Sea_19 rfl ?_
    refine aj_iload_n X d_Sea_decide_32 1 rfl ?_
    refine aj_iconst (v := (-1 : Int32)) X d_Sea_decide_33 (by decide) ?_
    obtain ⟨r7, h8, hm⟩ := bnd_of hm
    refine aj_callV (wr := [(o_Sea, .inr (2, [.int r5.1, .long r5.2.1, .int r5.2.2.1, .ref o_Sto, .ref o_Tra, .ref o_Tal, .ref o_Ass, .ref a_Sea_0, .ref a_Sea_1, .int r5.2.2.2.2.2.1, .ref a_Sea_2, .long r5.2.2.2.2.2.2.2])), (a_Sea_0, .inl (cI, r5.2.2.2.1.1, .inl r5.2.2.2.1.2)), (a_Sea_1, .inl (cI, r5.2.2.2.2.1.1, .inl r5.2.2.2.2.1.2)), (a_Sea_2, .inl (cI, r5.2.2.2.2.2.2.1.1, .inl r5.2.2.2.2.2.2.1.2))]) X (aj_rV (As := [.int x1, .int (-1 : Int32)]) (rest := []) X N gTB (c_Tra_put (D := D) (cI := cI) (cL := cL) (cZ := cZ) o_Sto o_Tal o_Tra a_Sto_0 a_Sto_1 a_Sto_2 a_Sto_3 a_Sto_4 a_Tal_0 a_Tal_1 a_Tal_2 a_Tal_3 a_Tra_0 a_Tra_1 a_Tra_2 a_Tra_3 v_Sto v_Tal (v_Tra.1, (v_Tra.2.1 + (1 : Int32)), v_Tra.2.2.1, v_Tra.2.2.2.1, v_Tra.2.2.2.2.1, v_Tra.2.2.2.2.2) x1 (-1 : Int32) r7 h8) d_Sea_decide_34 lk_Tra_put lw_Sea_125 lh_Tra_put ⟨(Nat.le_of_ble_eq_true rfl), (Nat.le_of_ble_eq_true rfl)⟩ [0, 1, 2, 3, 4, 5, 6, 7, 8, 9, 10, 11, 12, 13, 14, 15] rfl rfl 11 rfl rfl rfl rfl (Nat.le_of_ble_eq_true rfl) ⟨Nat.le_refl _, Nat.le_refl _⟩) [0, 1, 2, 3, 4, 5, 6, 7, 8, 9, 10, 11, 12, 13, 14, 15] [16, 17, 18, 19] rfl rfl rfl (by decide) (fun w1 hO => ?_)
    obtain rfl := hO
    refine aj_perm (ws' := w_Sto cI cL cZ o_Sto a_Sto_0 a_Sto_1 a_Sto_2 a_Sto_3 a_Sto_4 v_Sto ++ w_Tal cI cL cZ o_Tal o_Sto a_Tal_0 a_Tal_1 a_Tal_2 a_Tal_3 r7.1 ++ w_Tra cI cL cZ o_Tra o_Tal a_Tra_0 a_Tra_1 a_Tra_2 a_Tra_3 r7.2 ++ w_Sea cI cL cZ o_Sea o_Sto o_Tra o_Tal o_Ass a_Sea_0 a_Sea_1 a_Sea_2 r5) [4, 5, 6, 7, 8, 9, 10, 11, 12, 13, 14, 15, 16, 17, 18, 19, 0, 1, 2, 3] rfl rfl ?_
    refine aj_iconst (v := (4 : Int32)) X d_Sea_decide_37 (by decide) ?_
    have ho := Option.some.inj hm
    subst ho
    exact aj_iret X d_Sea_decide_38 hr hlk [0, 1, 2, 3, 4, 5, 6, 7, 8, 9, 10, 11, 12, 13, 14, 15, 16, 17, 18, 19] (w_Sto cI cL cZ o_Sto a_Sto_0 a_Sto_1 a_Sto_2 a_Sto_3 a_Sto_4 v_Sto ++ w_Tal cI cL cZ o_Tal o_Sto a_Tal_0 a_Tal_1 a_Tal_2 a_Tal_3 r7.1 ++ w_Tra cI cL cZ o_Tra o_Tal a_Tra_0 a_Tra_1 a_Tra_2 a_Tra_3 r7.2 ++ w_Sea cI cL cZ o_Sea o_Sto o_Tra o_Tal o_Ass a_Sea_0 a_Sea_1 a_Sea_2 r5) rfl rfl ⟨rfl, rfl⟩
  · have hm := ite_f hm h
    refine aj_iconst (v := (3 : Int32)) X d_Sea_decide_9 (by decide) ?_
    have ho := Option.some.inj hm
    subst ho
    exact aj_iret X d_Sea_decide_10 hr hlk [0, 1, 2, 3, 4, 5, 6, 7, 8, 9, 10, 11, 12, 13, 14, 15, 16, 17, 18, 19] (w_Sto cI cL cZ o_Sto a_Sto_0 a_Sto_1 a_Sto_2 a_Sto_3 a_Sto_4 v_Sto ++ w_Tal cI cL cZ o_Tal o_Sto a_Tal_0 a_Tal_1 a_Tal_2 a_Tal_3 v_Tal ++ w_Tra cI cL cZ o_Tra o_Tal a_Tra_0 a_Tra_1 a_Tra_2 a_Tra_3 v_Tra ++ w_Sea cI cL cZ o_Sea o_Sto o_Tra o_Tal o_Ass a_Sea_0 a_Sea_1 a_Sea_2 v_Sea) rfl rfl ⟨rfl, rfl⟩
