abbrev X_Sea_markRow (p : Program) (s : State) (m : MethodId) (args : Array Value) (c : Code) (D : va_G) (cI cL cZ : ClassId) (A : Nat → Prop) : Prop := aj_C p s m args c D clss (ty3 cI cL cZ) A b_Sea_markRow 6 R_Sea TB
abbrev J_Sea_markRow (p : Program) (l : Launch) (e : Env) (s : State) (m : MethodId) (args : Array Value) (below : List Frame) (meth : Method) (c : Code) (D : va_G) (cI cL cZ : ClassId) (A : Nat → Prop) (O : va_W → Prop) (mc ms : Nat) (ws : va_W) (kc ks pc : Nat) (lv : List (Nat × Value)) (st : List Value) : Prop := aj p l e { frames := 2, cells := mc, slots := ms, locals := 47 } s m args below meth c (MQ below (qV D clss (ty3 cI cL cZ) O A) args s mc ms A) D clss A 6 ws kc ks pc lv st
def O_Sea_markRow (cI cL cZ : ClassId) (o_Sto o_Tra o_Tal o_Sea o_Ass a_Sto_0 a_Sto_1 a_Sto_2 a_Sto_3 a_Sto_4 a_Tra_0 a_Tra_1 a_Tra_2 a_Tra_3 a_Sea_0 a_Sea_1 a_Sea_2 : Nat) (v_Sto : T_Sto) (v_Tra : T_Tra) (out : T_Sea) : va_W → Prop := fun w1 => w1 = w_Sto cI cL cZ o_Sto a_Sto_0 a_Sto_1 a_Sto_2 a_Sto_3 a_Sto_4 v_Sto ++ w_Tra cI cL cZ o_Tra o_Tal a_Tra_0 a_Tra_1 a_Tra_2 a_Tra_3 v_Tra ++ w_Sea cI cL cZ o_Sea o_Sto o_Tra o_Tal o_Ass a_Sea_0 a_Sea_1 a_Sea_2 out
def m_Sea_markRow_B95 (v_Sto : T_Sto) (v_Tra : T_Tra) (again25 : T_Sea → Int32 → Int32 → Option (T_Sea)) (v_Sea : T_Sea) (x2 : Int32) (x3 : Int32) : Option (T_Sea) := (again25 v_Sea x2 (x3 + (-1)))
set_option maxRecDepth 100000 in
set_option maxHeartbeats 4000000 in
theorem c_Sea_markRow_B95 {l : Launch} {D : va_G} {cI cL cZ : ClassId} {p : Program} {e : Env} {s : State} {m : MethodId} {args : Array Value} {below : List Frame} {meth : Method} {c : Code} {A : Nat → Prop} (o_Sto o_Tra o_Tal o_Sea o_Ass a_Sto_0 a_Sto_1 a_Sto_2 a_Sto_3 a_Sto_4 a_Tra_0 a_Tra_1 a_Tra_2 a_Tra_3 a_Sea_0 a_Sea_1 a_Sea_2 : Nat) (v_Sto : T_Sto) (v_Tra : T_Tra) (out : T_Sea) (X : X_Sea_markRow p s m args c D cI cL cZ A) (N : nk NM0 NF0 s) (hr : meth.sig.returnType = none) (hlk : meth.locks = false) (again25 : T_Sea → Int32 → Int32 → Option (T_Sea)) (ih25 : ∀ (v_Sea : T_Sea) (x2 : Int32) (x3 : Int32), again25 v_Sea x2 x3 = some out → J_Sea_markRow p l e s m args below meth c D cI cL cZ A (O_Sea_markRow cI cL cZ o_Sto o_Tra o_Tal o_Sea o_Ass a_Sto_0 a_Sto_1 a_Sto_2 a_Sto_3 a_Sto_4 a_Tra_0 a_Tra_1 a_Tra_2 a_Tra_3 a_Sea_0 a_Sea_1 a_Sea_2 v_Sto v_Tra out) 0 0 (w_Sto cI cL cZ o_Sto a_Sto_0 a_Sto_1 a_Sto_2 a_Sto_3 a_Sto_4 v_Sto ++ w_Tra cI cL cZ o_Tra o_Tal a_Tra_0 a_Tra_1 a_Tra_2 a_Tra_3 v_Tra ++ w_Sea cI cL cZ o_Sea o_Sto o_Tra o_Tal o_Ass a_Sea_0 a_Sea_1 a_Sea_2 v_Sea) 0 0 25 [(0, .ref o_Sea), (2, .int x2), (3, .int x3)] []) : ∀ (v_Sea : T_Sea) (x2 : Int32) (x3 : Int32), m_Sea_markRow_B95 v_Sto v_Tra again25 v_Sea x2 x3 = some out → J_Sea_markRow p l e s m args below meth c D cI cL cZ A (O_Sea_markRow cI cL cZ o_Sto o_Tra o_Tal o_Sea o_Ass a_Sto_0 a_Sto_1 a_Sto_2 a_Sto_3 a_Sto_4 a_Tra_0 a_Tra_1 a_Tra_2 a_Tra_3 a_Sea_0 a_Sea_1 a_Sea_2 v_Sto v_Tra out) 0 0 (w_Sto cI cL cZ o_Sto a_Sto_0 a_Sto_1 a_Sto_2 a_Sto_3 a_Sto_4 v_Sto ++ w_Tra cI cL cZ o_Tra o_Tal a_Tra_0 a_Tra_1 a_Tra_2 a_Tra_3 v_Tra ++ w_Sea cI cL cZ o_Sea o_Sto o_Tra o_Tal o_Ass a_Sea_0 a_Sea_1 a_Sea_2 v_Sea) 0 0 95 [(0, .ref o_Sea), (2, .int x2), (3, .int x3)] [] := by
  intro v_Sea x2 x3 hm
  unfold m_Sea_markRow_B95 at hm
  refine aj_iinc (v := (x3 + (-1))) (lv' := [(3, .int (x3 + (-1))), (0, .ref o_Sea), (2, .int x2)]) X d_Sea_markRow_95 2 rfl rfl (by decide) rfl ?_
  refine aj_goto X 25 d_Sea_markRow_98 (by decide) ?_
  refine aj_lv (lv' := [(0, .ref o_Sea), (2, .int x2), (3, .int (x3 + (-1)))]) [1, 2, 0] rfl ?_
  exact ih25 v_Sea x2 (x3 + (-1)) hm
def m_Sea_markRow_L25 (v_Sto : T_Sto) (v_Tra : T_Tra) : Nat → T_Sea → Int32 → Int32 → Option (T_Sea)
  | 0, _, _, _ => none
  | f + 1, v_Sea, x2, x3 => (if x3 < 0 then (some v_Sea) else (if x2 < (2 : Int32) then (some v_Sea) else (if ¬ (x3 < 0 ∨ v_Tra.2.2.1.1 ≤ (x3).toNatClampNeg) then ((m_Tra_causeOf v_Tra ((v_Tra.2.2.1.2 (x3).toNatClampNeg) >>> ((1 : Int32) &&& 31))).bind fun r10 => (if ¬ (((v_Tra.2.2.1.2 (x3).toNatClampNeg) >>> ((1 : Int32) &&& 31)) < 0 ∨ v_Sea.2.2.2.1.1 ≤ (((v_Tra.2.2.1.2 (x3).toNatClampNeg) >>> ((1 : Int32) &&& 31))).toNatClampNeg) then (if (v_Sea.2.2.2.1.2 (((v_Tra.2.2.1.2 (x3).toNatClampNeg) >>> ((1 : Int32) &&& 31))).toNatClampNeg) = (1 : Int32) then (if r10 < 0 then (m_Sea_markRow_B95 v_Sto v_Tra (m_Sea_markRow_L25 v_Sto v_Tra f) v_Sea x2 x3) else (if ¬ (((v_Tra.2.2.1.2 (x3).toNatClampNeg) >>> ((1 : Int32) &&& 31)) < 0 ∨ v_Sea.2.2.2.1.1 ≤ (((v_Tra.2.2.1.2 (x3).toNatClampNeg) >>> ((1 : Int32) &&& 31))).toNatClampNeg) then ((m_Sea_markOthers v_Sto v_Tra (v_Sea.1, v_Sea.2.1, v_Sea.2.2.1, (v_Sea.2.2.2.1.1, (upd v_Sea.2.2.2.1.2 (((v_Tra.2.2.1.2 (x3).toNatClampNeg) >>> ((1 : Int32) &&& 31))).toNatClampNeg (0 : Int32))), v_Sea.2.2.2.2.1, v_Sea.2.2.2.2.2.1, v_Sea.2.2.2.2.2.2.1, v_Sea.2.2.2.2.2.2.2) r10 ((v_Tra.2.2.1.2 (x3).toNatClampNeg) >>> ((1 : Int32) &&& 31))).bind fun r14 => (m_Sea_markRow_B95 v_Sto v_Tra (m_Sea_markRow_L25 v_Sto v_Tra f) r14.1 (x2 + (r14.2 - (1 : Int32))) x3)) else none)) else (m_Sea_markRow_B95 v_Sto v_Tra (m_Sea_markRow_L25 v_Sto v_Tra f) v_Sea x2 x3)) else none)) else none)))
set_option maxRecDepth 100000 in
set_option maxHeartbeats 4000000 in
theorem c_Sea_markRow_L25 {l : Launch} {D : va_G} {cI cL cZ : ClassId} {p : Program} {e : Env} {s : State} {m : MethodId} {args : Array Value} {below : List Frame} {meth : Method} {c : Code} {A : Nat → Prop} (o_Sto o_Tra o_Tal o_Sea o_Ass a_Sto_0 a_Sto_1 a_Sto_2 a_Sto_3 a_Sto_4 a_Tra_0 a_Tra_1 a_Tra_2 a_Tra_3 a_Sea_0 a_Sea_1 a_Sea_2 : Nat) (v_Sto : T_Sto) (v_Tra : T_Tra) (out : T_Sea) (X : X_Sea_markRow p s m args c D cI cL cZ A) (N : nk NM0 NF0 s) (hr : meth.sig.returnType = none) (hlk : meth.locks = false) : ∀ (nn : Nat), ∀ (v_Sea : T_Sea) (x2 : Int32) (x3 : Int32), m_Sea_markRow_L25 v_Sto v_Tra nn v_Sea x2 x3 = some out → J_Sea_markRow p l e s m args below meth c D cI cL cZ A (O_Sea_markRow cI cL cZ o_Sto o_Tra o_Tal o_Sea o_Ass a_Sto_0 a_Sto_1 a_Sto_2 a_Sto_3 a_Sto_4 a_Tra_0 a_Tra_1 a_Tra_2 a_Tra_3 a_Sea_0 a_Sea_1 a_Sea_2 v_Sto v_Tra out) 0 0 (w_Sto cI cL cZ o_Sto a_Sto_0 a_Sto_1 a_Sto_2 a_Sto_3 a_Sto_4 v_Sto ++ w_Tra cI cL cZ o_Tra o_Tal a_Tra_0 a_Tra_1 a_Tra_2 a_Tra_3 v_Tra ++ w_Sea cI cL cZ o_Sea o_Sto o_Tra o_Tal o_Ass a_Sea_0 a_Sea_1 a_Sea_2 v_Sea) 0 0 25 [(0, .ref o_Sea), (2, .int x2), (3, .int x3)] [] := by
  intro nn
  induction nn with
  | zero => intro v_Sea x2 x3 hm; exact absurd hm (by simp [m_Sea_markRow_L25])
  | succ nn ih25 =>
    intro v_Sea x2 x3 hm
    unfold m_Sea_markRow_L25 at hm
    refine aj_iload_n X d_Sea_markRow_25 2 rfl ?_
    refine aj_if_lt X 101 d_Sea_markRow_26 (by decide) (fun h => ?_) (fun h => ?_)
    · have hm := ite_t hm h
      have ho := Option.some.inj hm
      subst ho
      exact aj_vret X d_Sea_markRow_101 hr hlk [0, 1, 2, 3, 4, 5, 6, 7, 8, 9, 10, 11, 12, 13, 14] (w_Sto cI cL cZ o_Sto a_Sto_0 a_Sto_1 a_Sto_2 a_Sto_3 a_Sto_4 v_Sto ++ w_Tra cI cL cZ o_Tra o_Tal a_Tra_0 a_Tra_1 a_Tra_2 a_Tra_3 v_Tra ++ w_Sea cI cL cZ o_Sea o_Sto o_Tra o_Tal o_Ass a_Sea_0 a_Sea_1 a_Sea_2 v_Sea) rfl rfl rfl
    · have hm := ite_f hm h
      refine aj_iload_n X d_Sea_markRow_29 1 rfl ?_
      refine aj_iconst (v := (2 : Int32)) X d_Sea_markRow_30 (by decide) ?_
      refine aj_icmp_lt X 101 d_Sea_markRow_31 (by decide) (fun h => ?_) (fun h => ?_)
      · have hm := ite_t hm h
        have ho := Option.some.inj hm
        subst ho
        exact aj_vret X d_Sea_markRow_101 hr hlk [0, 1, 2, 3, 4, 5, 6, 7, 8, 9, 10, 11, 12, 13, 14] (w_Sto cI cL cZ o_Sto a_Sto_0 a_Sto_1 a_Sto_2 a_Sto_3 a_Sto_4 v_Sto ++ w_Tra cI cL cZ o_Tra o_Tal a_Tra_0 a_Tra_1 a_Tra_2 a_Tra_3 v_Tra ++ w_Sea cI cL cZ o_Sea o_Sto o_Tra o_Tal o_Ass a_Sea_0 a_Sea_1 a_Sea_2 v_Sea) rfl rfl rfl
      · have hm := ite_f hm h
        refine aj_aload_n X d_Sea_markRow_34 0 rfl ?_
        refine aj_get X d_Sea_markRow_35 in_Sea 11 rfl rfl 4 (by decide) lf_Sea_19 rfl ?_
        refine aj_get X d_Sea_markRow_38 in_Tra 6 rfl rfl 2 (by decide) lf_Sea_177 rfl ?_
        refine aj_iload_n X d_Sea_markRow_41 2 rfl ?_
        obtain ⟨b9, hm⟩ := chk_of hm
        refine aj_iald X d_Sea_markRow_42 7 0 rfl rfl b9 ?_
        refine aj_iconst (v := (1 : Int32)) X d_Sea_markRow_43 (by decide) ?_
        refine aj_ishr X d_Sea_markRow_44 ?_
        refine aj_istore (lv' := [(4, .int ((v_Tra.2.2.1.2 (x3).toNatClampNeg) >>> ((1 : Int32) &&& 31))), (0, .ref o_Sea), (2, .int x2), (3, .int x3)]) X d_Sea_markRow_45 (by decide) rfl ?_
        refine aj_aload_n X d_Sea_markRow_47 1 rfl ?_
        refine aj_get X d_Sea_markRow_48 in_Sea 11 rfl rfl 4 (by decide) lf_Sea_19 rfl ?_
        refine aj_iload X d_Sea_markRow_51 0 rfl ?_
        obtain ⟨r10, h11, hm⟩ := bnd_of hm
        refine aj_callI (wr := [(o_Sto, .inr (3, [.int v_Sto.1, .int v_Sto.2.1, .ref a_Sto_0, .ref a_Sto_1, .ref a_Sto_2, .ref a_Sto_3, .ref a_Sto_4])), (a_Sto_0, .inl (cI, v_Sto.2.2.1.1, .inl v_Sto.2.2.1.2)), (a_Sto_1, .inl (cI, v_Sto.2.2.2.1.1, .inl v_Sto.2.2.2.1.2)), (a_Sto_2, .inl (cI, v_Sto.2.2.2.2.1.1, .inl v_Sto.2.2.2.2.1.2)), (a_Sto_3, .inl (cI, v_Sto.2.2.2.2.2.1.1, .inl v_Sto.2.2.2.2.2.1.2)), (a_Sto_4, .inl (cI, v_Sto.2.2.2.2.2.2.1, .inl v_Sto.2.2.2.2.2.2.2)), (o_Sea, .inr (2, [.int v_Sea.1, .long v_Sea.2.1, .int v_Sea.2.2.1, .ref o_Sto, .ref o_Tra, .ref o_Tal, .ref o_Ass, .ref a_Sea_0, .ref a_Sea_1, .int v_Sea.2.2.2.2.2.1, .ref a_Sea_2, .long v_Sea.2.2.2.2.2.2.2])), (a_Sea_0, .inl (cI, v_Sea.2.2.2.1.1, .inl v_Sea.2.2.2.1.2)), (a_Sea_1, .inl (cI, v_Sea.2.2.2.2.1.1, .inl v_Sea.2.2.2.2.1.2)), (a_Sea_2, .inl (cI, v_Sea.2.2.2.2.2.2.1.1, .inl v_Sea.2.2.2.2.2.2.1.2))]) X (aj_rV (As := [.int ((v_Tra.2.2.1.2 (x3).toNatClampNeg) >>> ((1 : Int32) &&& 31))]) (rest := []) X N gTB (c_Tra_causeOf (D := D) (cI := cI) (cL := cL) (cZ := cZ) o_Tra o_Tal a_Tra_0 a_Tra_1 a_Tra_2 a_Tra_3 v_Tra ((v_Tra.2.2.1.2 (x3).toNatClampNeg) >>> ((1 : Int32) &&& 31)) r10 h11) d_Sea_markRow_53 lk_Tra_causeOf lw_Sea_178 lh_Tra_causeOf ⟨(Nat.le_of_ble_eq_true rfl), (Nat.le_of_ble_eq_true rfl)⟩ [6, 7, 8, 9, 10] rfl rfl 0 rfl rfl rfl rfl (Nat.le_of_ble_eq_true rfl) ⟨Nat.le_refl _, Nat.le_refl _⟩) [6, 7, 8, 9, 10] [0, 1, 2, 3, 4, 5, 11, 12, 13, 14] rfl rfl rfl (by decide) (fun rr w1 hO => ?_)
        obtain ⟨rfl, rfl⟩ := hO
        refine aj_perm (ws' := w_Sto cI cL cZ o_Sto a_Sto_0 a_Sto_1 a_Sto_2 a_Sto_3 a_Sto_4 v_Sto ++ w_Tra cI cL cZ o_Tra o_Tal a_Tra_0 a_Tra_1 a_Tra_2 a_Tra_3 v_Tra ++ w_Sea cI cL cZ o_Sea o_Sto o_Tra o_Tal o_Ass a_Sea_0 a_Sea_1 a_Sea_2 v_Sea) [0, 1, 2, 3, 4, 5, 10, 11, 12, 13, 14, 6, 7, 8, 9] rfl rfl ?_
        refine aj_istore (lv' := [(5, .int r10), (4, .int ((v_Tra.2.2.1.2 (x3).toNatClampNeg) >>> ((1 : Int32) &&& 31))), (0, .ref o_Sea), (2, .int x2), (3, .int x3)]) X d_Sea_markRow_56 (by decide) rfl ?_
        refine aj_aload_n X d_Sea_markRow_58 2 rfl ?_
        refine aj_get X d_Sea_markRow_59 in_Sea 11 rfl rfl 7 (by decide) lf_Sea_31 rfl ?_
        refine aj_iload X d_Sea_markRow_62 1 rfl ?_
        obtain ⟨b12, hm⟩ := chk_of hm
        refine aj_iald X d_Sea_markRow_64 12 0 rfl rfl b12 ?_
        refine aj_iconst (v := (1 : Int32)) X d_Sea_markRow_65 (by decide) ?_
        refine aj_icmp_ne X 95 d_Sea_markRow_66 (by decide) (fun h => ?_) (fun h => ?_)
        · have hm := ite_f hm h
          refine aj_lv (lv' := [(0, .ref o_Sea), (2, .int x2), (3, .int x3)]) [2, 3, 4] rfl ?_
          exact c_Sea_markRow_B95 o_Sto o_Tra o_Tal o_Sea o_Ass a_Sto_0 a_Sto_1 a_Sto_2 a_Sto_3 a_Sto_4 a_Tra_0 a_Tra_1 a_Tra_2 a_Tra_3 a_Sea_0 a_Sea_1 a_Sea_2 v_Sto v_Tra out X N hr hlk (m_Sea_markRow_L25 v_Sto v_Tra nn) ih25 v_Sea x2 x3 hm
        · have hm := ite_t hm h
          refine aj_iload X d_Sea_markRow_69 0 rfl ?_
          refine aj_if_lt X 95 d_Sea_markRow_71 (by decide) (fun h => ?_) (fun h => ?_)
          · have hm := ite_t hm h
            refine aj_lv (lv' := [(0, .ref o_Sea), (2, .int x2), (3, .int x3)]) [2, 3, 4] rfl ?_
            exact c_Sea_markRow_B95 o_Sto o_Tra o_Tal o_Sea o_Ass a_Sto_0 a_Sto_1 a_Sto_2 a_Sto_3 a_Sto_4 a_Tra_0 a_Tra_1 a_Tra_2 a_Tra_3 a_Sea_0 a_Sea_1 a_Sea_2 v_Sto v_Tra out X N hr hlk (m_Sea_markRow_L25 v_Sto v_Tra nn) ih25 v_Sea x2 x3 hm
          · have hm := ite_f hm h
            refine aj_aload_n X d_Sea_markRow_74 2 rfl ?_
            refine aj_get X d_Sea_markRow_75 in_Sea 11 rfl rfl 7 (by decide) lf_Sea_31 rfl ?_
            refine aj_iload X d_Sea_markRow_78 1 rfl ?_
            refine aj_iconst (v := (0 : Int32)) X d_Sea_markRow_80 (by decide) ?_
            obtain ⟨b13, hm⟩ := chk_of hm
            refine aj_iast (ws' := w_Sto cI cL cZ o_Sto a_Sto_0 a_Sto_1 a_Sto_2 a_Sto_3 a_Sto_4 v_Sto ++ w_Tra cI cL cZ o_Tra o_Tal a_Tra_0 a_Tra_1 a_Tra_2 a_Tra_3 v_Tra ++ w_Sea cI cL cZ o_Sea o_Sto o_Tra o_Tal o_Ass a_Sea_0 a_Sea_1 a_Sea_2 (v_Sea.1, v_Sea.2.1, v_Sea.2.2.1, (v_Sea.2.2.2.1.1, (upd v_Sea.2.2.2.1.2 (((v_Tra.2.2.1.2 (x3).toNatClampNeg) >>> ((1 : Int32) &&& 31))).toNatClampNeg (0 : Int32))), v_Sea.2.2.2.2.1, v_Sea.2.2.2.2.2.1, v_Sea.2.2.2.2.2.2.1, v_Sea.2.2.2.2.2.2.2)) X d_Sea_markRow_81 12 0 rfl rfl b13 rfl ?_
            refine aj_iload_n X d_Sea_markRow_82 3 rfl ?_
            refine aj_aload_n X d_Sea_markRow_83 2 rfl ?_
            refine aj_iload X d_Sea_markRow_84 0 rfl ?_
            refine aj_iload X d_Sea_markRow_86 1 rfl ?_
            obtain ⟨r14, h15, hm⟩ := bnd_of hm
            refine aj_callI (wr := []) X (aj_rV (As := [.int r10, .int ((v_Tra.2.2.1.2 (x3).toNatClampNeg) >>> ((1 : Int32) &&& 31))]) (rest := [.int x2]) X N gTB (c_Sea_markOthers (D := D) (cI := cI) (cL := cL) (cZ := cZ) o_Sto o_Tra o_Tal o_Sea o_Ass a_Sto_0 a_Sto_1 a_Sto_2 a_Sto_3 a_Sto_4 a_Tra_0 a_Tra_1 a_Tra_2 a_Tra_3 a_Sea_0 a_Sea_1 a_Sea_2 v_Sto v_Tra (v_Sea.1, v_Sea.2.1, v_Sea.2.2.1, (v_Sea.2.2.2.1.1, (upd v_Sea.2.2.2.1.2 (((v_Tra.2.2.1.2 (x3).toNatClampNeg) >>> ((1 : Int32) &&& 31))).toNatClampNeg (0 : Int32))), v_Sea.2.2.2.2.1, v_Sea.2.2.2.2.2.1, v_Sea.2.2.2.2.2.2.1, v_Sea.2.2.2.2.2.2.2) r10 ((v_Tra.2.2.1.2 (x3).toNatClampNeg) >>> ((1 : Int32) &&& 31)) r14 h15) d_Sea_markRow_88 lk_Sea_markOthers lw_Sea_170 lh_Sea_markOthers ⟨(Nat.le_of_ble_eq_true rfl), (Nat.le_of_ble_eq_true rfl)⟩ [0, 1, 2, 3, 4, 5, 6, 7, 8, 9, 10, 11, 12, 13, 14] rfl rfl 11 rfl rfl rfl rfl (Nat.le_of_ble_eq_true rfl) ⟨Nat.le_refl _, Nat.le_refl _⟩) [0, 1, 2, 3, 4, 5, 6, 7, 8, 9, 10, 11, 12, 13, 14] [] rfl rfl rfl (by decide) (fun rr w1 hO => ?_)
            obtain ⟨rfl, rfl⟩ := hO
            refine aj_perm (ws' := w_Sto cI cL cZ o_Sto a_Sto_0 a_Sto_1 a_Sto_2 a_Sto_3 a_Sto_4 v_Sto ++ w_Tra cI cL cZ o_Tra o_Tal a_Tra_0 a_Tra_1 a_Tra_2 a_Tra_3 v_Tra ++ w_Sea cI cL cZ o_Sea o_Sto o_Tra o_Tal o_Ass a_Sea_0 a_Sea_1 a_Sea_2 r14.1) [0, 1, 2, 3, 4, 5, 6, 7, 8, 9, 10, 11, 12, 13, 14] rfl rfl ?_
            refine aj_iconst (v := (1 : Int32)) X d_Sea_markRow_91 (by decide) ?_
            refine aj_isub X d_Sea_markRow_92 ?_
            refine aj_iadd X d_Sea_markRow_93 ?_
            refine aj_istore_n (lv' := [(2, .int (x2 + (r14.2 - (1 : Int32)))), (5, .int r10), (4, .int ((v_Tra.2.2.1.2 (x3).toNatClampNeg) >>> ((1 : Int32) &&& 31))), (0, .ref o_Sea), (3, .int x3)]) X d_Sea_markRow_94 rfl (by decide) rfl ?_
            refine aj_lv (lv' := [(0, .ref o_Sea), (2, .int (x2 + (r14.2 - (1 : Int32)))), (3, .int x3)]) [3, 0, 4] rfl ?_
            exact c_Sea_markRow_B95 o_Sto o_Tra o_Tal o_Sea o_Ass a_Sto_0 a_Sto_1 a_Sto_2 a_Sto_3 a_Sto_4 a_Tra_0 a_Tra_1 a_Tra_2 a_Tra_3 a_Sea_0 a_Sea_1 a_Sea_2 v_Sto v_Tra out X N hr hlk (m_Sea_markRow_L25 v_Sto v_Tra nn) ih25 r14.1 (x2 + (r14.2 - (1 : Int32))) x3 hm
def m_Sea_markRow (v_Sto : T_Sto) (v_Tra : T_Tra) (v_Sea : T_Sea) (x1 : Int32) : Option (T_Sea) := ((m_Arr__fill v_Sea.2.2.2.1 (0 : Int32)).bind fun r16 => ((m_Sea_markOthers v_Sto v_Tra (v_Sea.1, v_Sea.2.1, v_Sea.2.2.1, r16, v_Sea.2.2.2.2.1, v_Sea.2.2.2.2.2.1, v_Sea.2.2.2.2.2.2.1, v_Sea.2.2.2.2.2.2.2) x1 (-1 : Int32)).bind fun r18 => (m_Sea_markRow_L25 v_Sto v_Tra fu r18.1 r18.2 (v_Tra.1 - (1 : Int32)))))
set_option maxRecDepth 100000 in
set_option maxHeartbeats 4000000 in
theorem c_Sea_markRow {l : Launch} {D : va_G} {cI cL cZ : ClassId} (o_Sto o_Tra o_Tal o_Sea o_Ass a_Sto_0 a_Sto_1 a_Sto_2 a_Sto_3 a_Sto_4 a_Tra_0 a_Tra_1 a_Tra_2 a_Tra_3 a_Sea_0 a_Sea_1 a_Sea_2 : Nat) (v_Sto : T_Sto) (v_Tra : T_Tra) (v_Sea : T_Sea) (x1 : Int32) (out : T_Sea) (hm : m_Sea_markRow v_Sto v_Tra v_Sea x1 = some out) : ct l y_Sea_markRow (Cond.code y_Sea_markRow b_Sea_markRow 6 none :: TB) 2 47 D clss (ty3 cI cL cZ) NM0 NF0 [.ref o_Sea, .int x1] (w_Sto cI cL cZ o_Sto a_Sto_0 a_Sto_1 a_Sto_2 a_Sto_3 a_Sto_4 v_Sto ++ w_Tra cI cL cZ o_Tra o_Tal a_Tra_0 a_Tra_1 a_Tra_2 a_Tra_3 v_Tra ++ w_Sea cI cL cZ o_Sea o_Sto o_Tra o_Tal o_Ass a_Sea_0 a_Sea_1 a_Sea_2 v_Sea) (qV D clss (ty3 cI cL cZ) (O_Sea_markRow cI cL cZ o_Sto o_Tra o_Tal o_Sea o_Ass a_Sto_0 a_Sto_1 a_Sto_2 a_Sto_3 a_Sto_4 a_Tra_0 a_Tra_1 a_Tra_2 a_Tra_3 a_Sea_0 a_Sea_1 a_Sea_2 v_Sto v_Tra out)) 0 0 := by
  refine ct_of (plainFor_of_name (by decide)) (Nat.le_of_ble_eq_true rfl) (fun p e s m args below meth c A X N hr hlk hnm => ?_)
  refine aj_lv (lv' := [(0, .ref o_Sea), (1, .int x1)]) [0, 1] rfl ?_
  unfold m_Sea_markRow at hm
  refine aj_aload_n X d_Sea_markRow_0 0 rfl ?_
  refine aj_get X d_Sea_markRow_1 in_Sea 11 rfl rfl 7 (by decide) lf_Sea_31 rfl ?_
  refine aj_iconst (v := (0 : Int32)) X d_Sea_markRow_4 (by decide) ?_
  obtain ⟨r16, h17, hm⟩ := bnd_of hm
  refine aj_callV (wr := [(o_Sto, .inr (3, [.int v_Sto.1, .int v_Sto.2.1, .ref a_Sto_0, .ref a_Sto_1, .ref a_Sto_2, .ref a_Sto_3, .ref a_Sto_4])), (a_Sto_0, .inl (cI, v_Sto.2.2.1.1, .inl v_Sto.2.2.1.2)), (a_Sto_1, .inl (cI, v_Sto.2.2.2.1.1, .inl v_Sto.2.2.2.1.2)), (a_Sto_2, .inl (cI, v_Sto.2.2.2.2.1.1, .inl v_Sto.2.2.2.2.1.2)), (a_Sto_3, .inl (cI, v_Sto.2.2.2.2.2.1.1, .inl v_Sto.2.2.2.2.2.1.2)), (a_Sto_4, .inl (cI, v_Sto.2.2.2.2.2.2.1, .inl v_Sto.2.2.2.2.2.2.2)), (o_Tra, .inr (5, [.int v_Tra.1, .int v_Tra.2.1, .ref a_Tra_0, .ref o_Tal, .ref a_Tra_1, .ref a_Tra_2, .ref a_Tra_3])), (a_Tra_0, .inl (cI, v_Tra.2.2.1.1, .inl v_Tra.2.2.1.2)), (a_Tra_1, .inl (cI, v_Tra.2.2.2.1.1, .inl v_Tra.2.2.2.1.2)), (a_Tra_2, .inl (cI, v_Tra.2.2.2.2.1.1, .inl v_Tra.2.2.2.2.1.2)), (a_Tra_3, .inl (cI, v_Tra.2.2.2.2.2.1, .inl v_Tra.2.2.2.2.2.2)), (o_Sea, .inr (2, [.int v_Sea.1, .long v_Sea.2.1, .int v_Sea.2.2.1, .ref o_Sto, .ref o_Tra, .ref o_Tal, .ref o_Ass, .ref a_Sea_0, .ref a_Sea_1, .int v_Sea.2.2.2.2.2.1, .ref a_Sea_2, .long v_Sea.2.2.2.2.2.2.2])), (a_Sea_1, .inl (cI, v_Sea.2.2.2.2.1.1, .inl v_Sea.2.2.2.2.1.2)), (a_Sea_2, .inl (cI, v_Sea.2.2.2.2.2.2.1.1, .inl v_Sea.2.2.2.2.2.2.1.2))]) X (aj_rS (As := [.ref a_Sea_0, .int (0 : Int32)]) (rest := []) X N gTB (c_Arr__fill (D := D) (cI := cI) (cL := cL) (cZ := cZ) a_Sea_0 v_Sea.2.2.2.1 (0 : Int32) r16 h17) d_Sea_markRow_5 lk_Arr__fill lw_Sea_164 lh_Arr__fill ⟨(Nat.le_of_ble_eq_true rfl), (Nat.le_of_ble_eq_true rfl)⟩ [12] rfl rfl rfl (Nat.le_of_ble_eq_true rfl) ⟨Nat.le_refl _, Nat.le_refl _⟩) [12] [0, 1, 2, 3, 4, 5, 6, 7, 8, 9, 10, 11, 13, 14] rfl rfl rfl (by decide) (fun w1 hO => ?_)
  obtain rfl := hO
  refine aj_perm (ws' := w_Sto cI cL cZ o_Sto a_Sto_0 a_Sto_1 a_Sto_2 a_Sto_3 a_Sto_4 v_Sto ++ w_Tra cI cL cZ o_Tra o_Tal a_Tra_0 a_Tra_1 a_Tra_2 a_Tra_3 v_Tra ++ w_Sea cI cL cZ o_Sea o_Sto o_Tra o_Tal o_Ass a_Sea_0 a_Sea_1 a_Sea_2 (v_Sea.1, v_Sea.2.1, v_Sea.2.2.1, r16, v_Sea.2.2.2.2.1, v_Sea.2.2.2.2.2.1, v_Sea.2.2.2.2.2.2.1, v_Sea.2.2.2.2.2.2.2)) [0, 1, 2, 3, 4, 5, 6, 7, 8, 9, 10, 11, 14, 12, 13] rfl rfl ?_
  refine aj_aload_n X d_Sea_markRow_8 0 rfl ?_
  refine aj_iload_n X d_Sea_markRow_9 1 rfl ?_
  refine aj_iconst (v := (-1 : Int32)) X d_Sea_markRow_10 (by decide) ?_
  obtain ⟨r18, h19, hm⟩ := bnd_of hm
  refine aj_callI (wr := []) X (aj_rV (As := [.int x1, .int (-1 : Int32)]) (rest := []) X N gTB (c_Sea_markOthers (D := D) (cI := cI) (cL := cL) (cZ := cZ) o_Sto o_Tra o_Tal o_Sea o_Ass a_Sto_0 a_Sto_1 a_Sto_2 a_Sto_3 a_Sto_4 a_Tra_0 a_Tra_1 a_Tra_2 a_Tra_3 a_Sea_0 a_Sea_1 a_Sea_2 v_Sto v_Tra (v_Sea.1, v_Sea.2.1, v_Sea.2.2.1, r16, v_Sea.2.2.2.2.1, v_Sea.2.2.2.2.2.1, v_Sea.2.2.2.2.2.2.1, v_Sea.2.2.2.2.2.2.2) x1 (-1 : Int32) r18 h19) d_Sea_markRow_11 lk_Sea_markOthers lw_Sea_170 lh_Sea_markOthers ⟨(Nat.le_of_ble_eq_true rfl), (Nat.le_of_ble_eq_true rfl)⟩ [0, 1, 2, 3, 4, 5, 6, 7, 8, 9, 10, 11, 12, 13, 14] rfl rfl 11 rfl rfl rfl rfl (Nat.le_of_ble_eq_true rfl) ⟨Nat.le_refl _, Nat.le_refl _⟩) [0, 1, 2, 3, 4, 5, 6, 7, 8, 9, 10, 11, 12, 13, 14] [] rfl rfl rfl (by decide) (fun rr w1 hO => ?_)
  obtain ⟨rfl, rfl⟩ := hO
  refine aj_perm (ws' := w_Sto cI cL cZ o_Sto a_Sto_0 a_Sto_1 a_Sto_2 a_Sto_3 a_Sto_4 v_Sto ++ w_Tra cI cL cZ o_Tra o_Tal a_Tra_0 a_Tra_1 a_Tra_2 a_Tra_3 v_Tra ++ w_Sea cI cL cZ o_Sea o_Sto o_Tra o_Tal o_Ass a_Sea_0 a_Sea_1 a_Sea_2 r18.1) [0, 1, 2, 3, 4, 5, 6, 7, 8, 9, 10, 11, 12, 13, 14] rfl rfl ?_
  refine aj_istore_n (lv' := [(2, .int r18.2), (0, .ref o_Sea), (1, .int x1)]) X d_Sea_markRow_14 rfl (by decide) rfl ?_
  refine aj_aload_n X d_Sea_markRow_15 1 rfl ?_
  refine aj_get X d_Sea_markRow_16 in_Sea 11 rfl rfl 4 (by decide) lf_Sea_19 rfl ?_
  refine aj_get X d_Sea_markRow_19 in_Tra 6 rfl rfl 0 (by decide) lf_Sea_174 rfl ?_
  refine aj_iconst (v := (1 : Int32)) X d_Sea_markRow_22 (by decide) ?_
  refine aj_isub X d_Sea_markRow_23 ?_
  refine aj_istore_n (lv' := [(3, .int (v_Tra.1 - (1 : Int32))), (2, .int r18.2), (0, .ref o_Sea), (1, .int x1)]) X d_Sea_markRow_24 rfl (by decide) rfl ?_
  refine aj_lv (lv' := [(0, .ref o_Sea), (2, .int r18.2), (3, .int (v_Tra.1 - (1 : Int32)))]) [2, 1, 0] rfl ?_
  exact c_Sea_markRow_L25 o_Sto o_Tra o_Tal o_Sea o_Ass a_Sto_0 a_Sto_1 a_Sto_2 a_Sto_3 a_Sto_4 a_Tra_0 a_Tra_1 a_Tra_2 a_Tra_3 a_Sea_0 a_Sea_1 a_Sea_2 v_Sto v_Tra out X N hr hlk fu r18.1 r18.2 (v_Tra.1 - (1 : Int32)) hm
abbrev X_Sea_countMarks (p : Program) (s : State) (m : MethodId) (args : Array Value) (c : Code) (D : va_G) (cI cL cZ : ClassId) (A : Nat → Prop) : Prop := aj_C p s m args c D clss (ty3 cI cL cZ) A b_Sea_countMarks 3 R_Sea TB
abbrev J_Sea_countMarks (p : Program) (l : Launch) (e : Env) (s : State) (m : MethodId) (args : Array Value) (below : List Frame) (meth : Method) (c : Code) (D : va_G) (cI cL cZ : ClassId) (A : Nat → Prop) (O : Int32 → va_W → Prop) (mc ms : Nat) (ws : va_W) (kc ks pc : Nat) (lv : List (Nat × Value)) (st : List Value) : Prop := aj p l e { frames := 0, cells := mc, slots := ms, locals := 0 } s m args below meth c (MQ below (qI D clss (ty3 cI cL cZ) O A) args s mc ms A) D clss A 3 ws kc ks pc lv st
def O_Sea_countMarks (cI cL cZ : ClassId) (o_Sea o_Sto o_Tra o_Tal o_Ass a_Sea_0 a_Sea_1 a_Sea_2 : Nat) (v_Sea : T_Sea) (out : Int32) : Int32 → va_W → Prop := fun r w1 => out = r ∧ w1 = w_Sea cI cL cZ o_Sea o_Sto o_Tra o_Tal o_Ass a_Sea_0 a_Sea_1 a_Sea_2 v_Sea
def m_Sea_countMarks_L4 (v_Sea : T_Sea) : Nat → Int32 → Int32 → Option (Int32)
  | 0, _, _ => none
  | f + 1, x1, x2 => (if v_Sea.2.2.1 ≤ x2 then (some x1) else (if ¬ (x2 < 0 ∨ v_Sea.2.2.2.1.1 ≤ (x2).toNatClampNeg) then ((m_Sea_countMarks_L4 v_Sea f) (x1 + (v_Sea.2.2.2.1.2 (x2).toNatClampNeg)) (x2 + 1)) else none))
set_option maxRecDepth 100000 in
set_option maxHeartbeats 4000000 in
theorem c_Sea_countMarks_L4 {l : Launch} {D : va_G} {cI cL cZ : ClassId} {p : Program} {e : Env} {s : State} {m : MethodId} {args : Array Value} {below : List Frame} {meth : Method} {c : Code} {A : Nat → Prop} (o_Sea o_Sto o_Tra o_Tal o_Ass a_Sea_0 a_Sea_1 a_Sea_2 : Nat) (v_Sea : T_Sea) (out : Int32) (X : X_Sea_countMarks p s m args c D cI cL cZ A) (N : nk NM0 NF0 s) (hr : meth.sig.returnType = some .int) (hlk : meth.locks = false) : ∀ (nn : Nat), ∀ (x1 : Int32) (x2 : Int32), m_Sea_countMarks_L4 v_Sea nn x1 x2 = some out → J_Sea_countMarks p l e s m args below meth c D cI cL cZ A (O_Sea_countMarks cI cL cZ o_Sea o_Sto o_Tra o_Tal o_Ass a_Sea_0 a_Sea_1 a_Sea_2 v_Sea out) 0 0 (w_Sea cI cL cZ o_Sea o_Sto o_Tra o_Tal o_Ass a_Sea_0 a_Sea_1 a_Sea_2 v_Sea) 0 0 4 [(0, .ref o_Sea), (1, .int x1), (2, .int x2)] [] := by
  intro nn
  induction nn with
  | zero => intro x1 x2 hm; exact absurd hm (by simp [m_Sea_countMarks_L4])
  | succ nn ih4 =>
    intro x1 x2 hm
    unfold m_Sea_countMarks_L4 at hm
    refine aj_iload_n X d_Sea_countMarks_4 2 rfl ?_
    refine aj_aload_n X d_Sea_countMarks_5 0 rfl ?_
    refine aj_get X d_Sea_countMarks_6 in_Sea 0 rfl rfl 2 (by decide) lf_Sea_9 rfl ?_
    refine aj_icmp_ge X 27 d_Sea_countMarks_9 (by decide) (fun h => ?_) (fun h => ?_)
    · have hm := ite_t hm h
      refine aj_iload_n X d_Sea_countMarks_27 1 rfl ?_
      have ho := Option.some.inj hm
      subst ho
      exact aj_iret X d_Sea_countMarks_28 hr hlk [0, 1, 2, 3] (w_Sea cI cL cZ o_Sea o_Sto o_Tra o_Tal o_Ass a_Sea_0 a_Sea_1 a_Sea_2 v_Sea) rfl rfl ⟨rfl, rfl⟩
    · have hm := ite_f hm h
      refine aj_iload_n X d_Sea_countMarks_12 1 rfl ?_
      refine aj_aload_n X d_Sea_countMarks_13 0 rfl ?_
      refine aj_get X d_Sea_countMarks_14 in_Sea 0 rfl rfl 7 (by decide) lf_Sea_31 rfl ?_
      refine aj_iload_n X d_Sea_countMarks_17 2 rfl ?_
      obtain ⟨b1, hm⟩ := chk_of hm
      refine aj_iald X d_Sea_countMarks_18 1 0 rfl rfl b1 ?_
      refine aj_iadd X d_Sea_countMarks_19 ?_
      refine aj_istore_n (lv' := [(1, .int (x1 + (v_Sea.2.2.2.1.2 (x2).toNatClampNeg))), (0, .ref o_Sea), (2, .int x2)]) X d_Sea_countMarks_20 rfl (by decide) rfl ?_
      refine aj_iinc (v := (x2 + 1)) (lv' := [(2, .int (x2 + 1)), (1, .int (x1 + (v_Sea.2.2.2.1.2 (x2).toNatClampNeg))), (0, .ref o_Sea)]) X d_Sea_countMarks_21 2 rfl rfl (by decide) rfl ?_
      refine aj_goto X 4 d_Sea_countMarks_24 (by decide) ?_
      refine aj_lv (lv' := [(0, .ref o_Sea), (1, .int (x1 + (v_Sea.2.2.2.1.2 (x2).toNatClampNeg))), (2, .int (x2 + 1))]) [2, 1, 0] rfl ?_
      exact ih4 (x1 + (v_Sea.2.2.2.1.2 (x2).toNatClampNeg)) (x2 + 1) hm
def m_Sea_countMarks (v_Sea : T_Sea) : Option (Int32) := (m_Sea_countMarks_L4 v_Sea fu (0 : Int32) (0 : Int32))
set_option maxRecDepth 100000 in
set_option maxHeartbeats 4000000 in
theorem c_Sea_countMarks {l : Launch} {D : va_G} {cI cL cZ : ClassId} (o_Sea o_Sto o_Tra o_Tal o_Ass a_Sea_0 a_Sea_1 a_Sea_2 : Nat) (v_Sea : T_Sea) (out : Int32) (hm : m_Sea_countMarks v_Sea = some out) : ct l y_Sea_countMarks (Cond.code y_Sea_countMarks b_Sea_countMarks 3 (some .int) :: TB) 0 0 D clss (ty3 cI cL cZ) NM0 NF0 [.ref o_Sea] (w_Sea cI cL cZ o_Sea o_Sto o_Tra o_Tal o_Ass a_Sea_0 a_Sea_1 a_Sea_2 v_Sea) (qI D clss (ty3 cI cL cZ) (O_Sea_countMarks cI cL cZ o_Sea o_Sto o_Tra o_Tal o_Ass a_Sea_0 a_Sea_1 a_Sea_2 v_Sea out)) 0 0 := by
  refine ct_of (plainFor_of_name (by decide)) (Nat.le_of_ble_eq_true rfl) (fun p e s m args below meth c A X N hr hlk hnm => ?_)
  refine aj_lv (lv' := [(0, .ref o_Sea)]) [0] rfl ?_
  unfold m_Sea_countMarks at hm
  refine aj_iconst (v := (0 : Int32)) X d_Sea_countMarks_0 (by decide) ?_
  refine aj_istore_n (lv' := [(1, .int (0 : Int32)), (0, .ref o_Sea)]) X d_Sea_countMarks_1 rfl (by decide) rfl ?_
  refine aj_iconst (v := (0 : Int32)) X d_Sea_countMarks_2 (by decide) ?_
  refine aj_istore_n (lv' := [(2, .int (0 : Int32)), (1, .int (0 : Int32)), (0, .ref o_Sea)]) X d_Sea_countMarks_3 rfl (by decide) rfl ?_
  refine aj_lv (lv' := [(0, .ref o_Sea), (1, .int (0 : Int32)), (2, .int (0 : Int32))]) [2, 1, 0] rfl ?_
  exact c_Sea_countMarks_L4 o_Sea o_Sto o_Tra o_Tal o_Ass a_Sea_0 a_Sea_1 a_Sea_2 v_Sea out X N hr hlk fu (0 : Int32) (0 : Int32) hm
abbrev X_Sea_countStep (p : Program) (s : State) (m : MethodId) (args : Array Value) (c : Code) (D : va_G) (cI cL cZ : ClassId) (A : Nat → Prop) : Prop := aj_C p s m args c D clss (ty3 cI cL cZ) A b_Sea_countStep 1 R_Sea TB
abbrev J_Sea_countStep (p : Program) (l : Launch) (e : Env) (s : State) (m : MethodId) (args : Array Value) (below : List Frame) (meth : Method) (c : Code) (D : va_G) (cI cL cZ : ClassId) (A : Nat → Prop) (O : va_W → Prop) (mc ms : Nat) (ws : va_W) (kc ks pc : Nat) (lv : List (Nat × Value)) (st : List Value) : Prop := aj p l e { frames := 0, cells := mc, slots := ms, locals := 0 } s m args below meth c (MQ below (qV D clss (ty3 cI cL cZ) O A) args s mc ms A) D clss A 1 ws kc ks pc lv st
def O_Sea_countStep (cI cL cZ : ClassId) (o_Sea o_Sto o_Tra o_Tal o_Ass a_Sea_0 a_Sea_1 a_Sea_2 : Nat) (out : T_Sea) : va_W → Prop := fun w1 => w1 = w_Sea cI cL cZ o_Sea o_Sto o_Tra o_Tal o_Ass a_Sea_0 a_Sea_1 a_Sea_2 out
def m_Sea_countStep (v_Sea : T_Sea) : Option (T_Sea) := (some (v_Sea.1, (v_Sea.2.1 + (1 : Int64)), v_Sea.2.2.1, v_Sea.2.2.2.1, v_Sea.2.2.2.2.1, v_Sea.2.2.2.2.2.1, v_Sea.2.2.2.2.2.2.1, (v_Sea.2.2.2.2.2.2.2 - (1 : Int64))))
set_option maxRecDepth 100000 in
set_option maxHeartbeats 4000000 in
theorem c_Sea_countStep {l : Launch} {D : va_G} {cI cL cZ : ClassId} (o_Sea o_Sto o_Tra o_Tal o_Ass a_Sea_0 a_Sea_1 a_Sea_2 : Nat) (v_Sea : T_Sea) (out : T_Sea) (hm : m_Sea_countStep v_Sea = some out) : ct l y_Sea_countStep (Cond.code y_Sea_countStep b_Sea_countStep 1 none :: TB) 0 0 D clss (ty3 cI cL cZ) NM0 NF0 [.ref o_Sea] (w_Sea cI cL cZ o_Sea o_Sto o_Tra o_Tal o_Ass a_Sea_0 a_Sea_1 a_Sea_2 v_Sea) (qV D clss (ty3 cI cL cZ) (O_Sea_countStep cI cL cZ o_Sea o_Sto o_Tra o_Tal o_Ass a_Sea_0 a_Sea_1 a_Sea_2 out)) 0 0 := by
  refine ct_of (plainFor_of_name (by decide)) (Nat.le_of_ble_eq_true rfl) (fun p e s m args below meth c A X N hr hlk hnm => ?_)
  refine aj_lv (lv' := [(0, .ref o_Sea)]) [0] rfl ?_
  unfold m_Sea_countStep at hm
  refine aj_aload_n X d_Sea_countStep_0 0 rfl ?_
  refine aj_dup X d_Sea_countStep_1 rfl ?_
  refine aj_get X d_Sea_countStep_2 in_Sea 0 rfl rfl 11 (by decide) lf_Sea_51 rfl ?_
  refine aj_lconst (v := (1 : Int64)) X d_Sea_countStep_5 (by decide) ?_
  refine aj_lsub X d_Sea_countStep_6 ?_
  refine aj_put (ws' := w_Sea cI cL cZ o_Sea o_Sto o_Tra o_Tal o_Ass a_Sea_0 a_Sea_1 a_Sea_2 (v_Sea.1, v_Sea.2.1, v_Sea.2.2.1, v_Sea.2.2.2.1, v_Sea.2.2.2.2.1, v_Sea.2.2.2.2.2.1, v_Sea.2.2.2.2.2.2.1, (v_Sea.2.2.2.2.2.2.2 - (1 : Int64)))) X d_Sea_countStep_7 in_Sea ty_Sea tyok_Sea nmx_Sea 0 rfl rfl 11 (by decide) lf_Sea_51 rfl rfl rfl (Nat.le_of_ble_eq_true rfl) rfl ?_
  refine aj_aload_n X d_Sea_countStep_10 0 rfl ?_
  refine aj_dup X d_Sea_countStep_11 rfl ?_
  refine aj_get X d_Sea_countStep_12 in_Sea 0 rfl rfl 1 (by decide) lf_Sea_47 rfl ?_
  refine aj_lconst (v := (1 : Int64)) X d_Sea_countStep_15 (by decide) ?_
  refine aj_ladd X d_Sea_countStep_16 ?_
  refine aj_put (ws' := w_Sea cI cL cZ o_Sea o_Sto o_Tra o_Tal o_Ass a_Sea_0 a_Sea_1 a_Sea_2 (v_Sea.1, (v_Sea.2.1 + (1 : Int64)), v_Sea.2.2.1, v_Sea.2.2.2.1, v_Sea.2.2.2.2.1, v_Sea.2.2.2.2.2.1, v_Sea.2.2.2.2.2.2.1, (v_Sea.2.2.2.2.2.2.2 - (1 : Int64)))) X d_Sea_countStep_17 in_Sea ty_Sea tyok_Sea nmx_Sea 0 rfl rfl 1 (by decide) lf_Sea_47 rfl rfl rfl (Nat.le_of_ble_eq_true rfl) rfl ?_
  have ho := Option.some.inj hm
  subst ho
  exact aj_vret X d_Sea_countStep_20 hr hlk [0, 1, 2, 3] (w_Sea cI cL cZ o_Sea o_Sto o_Tra o_Tal o_Ass a_Sea_0 a_Sea_1 a_Sea_2 (v_Sea.1, (v_Sea.2.1 + (1 : Int64)), v_Sea.2.2.1, v_Sea.2.2.2.1, v_Sea.2.2.2.2.1, v_Sea.2.2.2.2.2.1, v_Sea.2.2.2.2.2.2.1, (v_Sea.2.2.2.2.2.2.2 - (1 : Int64)))) rfl rfl rfl
abbrev X_Tra_refusedLiteralOf (p : Program) (s : State) (m : MethodId) (args : Array Value) (c : Code) (D : va_G) (cI cL cZ : ClassId) (A : Nat → Prop) : Prop := aj_C p s m args c D clss (ty3 cI cL cZ) A b_Tra_refusedLiteralOf 2 R_Tra TB
abbrev J_Tra_refusedLiteralOf (p : Program) (l : Launch) (e : Env) (s : State) (m : MethodId) (args : Array Value) (below : List Frame) (meth : Method) (c : Code) (D : va_G) (cI cL cZ : ClassId) (A : Nat → Prop) (O : Int32 → va_W → Prop) (mc ms : Nat) (ws : va_W) (kc ks pc : Nat) (lv : List (Nat × Value)) (st : List Value) : Prop := aj p l e { frames := 0, cells := mc, slots := ms, locals := 0 } s m args below meth c (MQ below (qI D clss (ty3 cI cL cZ) O A) args s mc ms A) D clss A 2 ws kc ks pc lv st
def O_Tra_refusedLiteralOf (cI cL cZ : ClassId) (o_Tra o_Tal a_Tra_0 a_Tra_1 a_Tra_2 a_Tra_3 : Nat) (v_Tra : T_Tra) (out : Int32) : Int32 → va_W → Prop := fun r w1 => out = r ∧ w1 = w_Tra cI cL cZ o_Tra o_Tal a_Tra_0 a_Tra_1 a_Tra_2 a_Tra_3 v_Tra
def m_Tra_refusedLiteralOf (v_Tra : T_Tra) (x1 : Int32) : Option (Int32) := (if ¬ (x1 < 0 ∨ v_Tra.2.2.2.1.1 ≤ (x1).toNatClampNeg) then (some ((v_Tra.2.2.2.1.2 (x1).toNatClampNeg) ^^^ (1 : Int32))) else none)
set_option maxRecDepth 100000 in
set_option maxHeartbeats 4000000 in
theorem c_Tra_refusedLiteralOf {l : Launch} {D : va_G} {cI cL cZ : ClassId} (o_Tra o_Tal a_Tra_0 a_Tra_1 a_Tra_2 a_Tra_3 : Nat) (v_Tra : T_Tra) (x1 : Int32) (out : Int32) (hm : m_Tra_refusedLiteralOf v_Tra x1 = some out) : ct l y_Tra_refusedLiteralOf (Cond.code y_Tra_refusedLiteralOf b_Tra_refusedLiteralOf 2 (some .int) :: TB) 0 0 D clss (ty3 cI cL cZ) NM0 NF0 [.ref o_Tra, .int x1] (w_Tra cI cL cZ o_Tra o_Tal a_Tra_0 a_Tra_1 a_Tra_2 a_Tra_3 v_Tra) (qI D clss (ty3 cI cL cZ) (O_Tra_refusedLiteralOf cI cL cZ o_Tra o_Tal a_Tra_0 a_Tra_1 a_Tra_2 a_Tra_3 v_Tra out)) 0 0 := by
  refine ct_of (plainFor_of_name (by decide)) (Nat.le_of_ble_eq_true rfl) (fun p e s m args below meth c A X N hr hlk hnm => ?_)
  refine aj_lv (lv' := [(0, .ref o_Tra), (1, .int x1)]) [0, 1] rfl ?_
  unfold m_Tra_refusedLiteralOf at hm
  refine aj_aload_n X d_Tra_refusedLiteralOf_0 0 rfl ?_
  refine aj_get X d_Tra_refusedLiteralOf_1 in_Tra 0 rfl rfl 4 (by decide) lf_Tra_26 rfl ?_
  refine aj_iload_n X d_Tra_refusedLiteralOf_4 1 rfl ?_
  obtain ⟨b1, hm⟩ := chk_of hm
  refine aj_iald X d_Tra_refusedLiteralOf_5 2 0 rfl rfl b1 ?_
  refine aj_iconst (v := (1 : Int32)) X d_Tra_refusedLiteralOf_6 (by decide) ?_
  refine aj_ixor X d_Tra_refusedLiteralOf_7 ?_
  have ho := Option.some.inj hm
  subst ho
  exact aj_iret X d_Tra_refusedLiteralOf_8 hr hlk [0, 1, 2, 3, 4] (w_Tra cI cL cZ o_Tra o_Tal a_Tra_0 a_Tra_1 a_Tra_2 a_Tra_3 v_Tra) rfl rfl ⟨rfl, rfl⟩
abbrev X_Sea_storeRow (p : Program) (s : State) (m : MethodId) (args : Array Value) (c : Code) (D : va_G) (cI cL cZ : ClassId) (A : Nat → Prop) : Prop := aj_C p s m args c D clss (ty3 cI cL cZ) A b_Sea_storeRow 4 R_Sea TB
abbrev J_Sea_storeRow (p : Program) (l : Launch) (e : Env) (s : State) (m : MethodId) (args : Array Value) (below : List Frame) (meth : Method) (c : Code) (D : va_G) (cI cL cZ : ClassId) (A : Nat → Prop) (O : Int32 → va_W → Prop) (mc ms : Nat) (ws : va_W) (kc ks pc : Nat) (lv : List (Nat × Value)) (st : List Value) : Prop := aj p l e { frames := 4, cells := mc, slots := ms, locals := 105 } s m args below meth c (MQ below (qI D clss (ty3 cI cL cZ) O A) args s mc ms A) D clss A 4 ws kc ks pc lv st
def O_Sea_storeRow (cI cL cZ : ClassId) (o_Sto o_Tra o_Tal o_Sea o_Ass a_Sto_3 a_Tra_0 a_Tra_1 a_Tra_2 a_Tra_3 a_Sea_0 a_Sea_1 : Nat) (v_Tra : T_Tra) (out : T_Sto × T_Sea × Int32) : Int32 → va_W → Prop := fun r w1 => out.2.2 = r ∧ ∃ (a_Sto_0 a_Sto_1 a_Sto_2 a_Sto_4 a_Sea_2 : Nat), w1 = w_Sto cI cL cZ o_Sto a_Sto_0 a_Sto_1 a_Sto_2 a_Sto_3 a_Sto_4 out.1 ++ w_Tra cI cL cZ o_Tra o_Tal a_Tra_0 a_Tra_1 a_Tra_2 a_Tra_3 v_Tra ++ w_Sea cI cL cZ o_Sea o_Sto o_Tra o_Tal o_Ass a_Sea_0 a_Sea_1 a_Sea_2 out.2.1
def m_Sea_storeRow_B109 (v_Tra : T_Tra) (again50 : T_Sto → T_Sea → Int32 → Int32 → Option ((T_Sto × T_Sea × Int32) × Nat × Nat)) (v_Sto : T_Sto) (v_Sea : T_Sea) (x1 : Int32) (x2 : Int32) : Option ((T_Sto × T_Sea × Int32) × Nat × Nat) := (again50 v_Sto v_Sea x1 (x2 + 1))
set_option maxRecDepth 100000 in
set_option maxHeartbeats 4000000 in
theorem c_Sea_storeRow_B109 {l : Launch} {D : va_G} {cI cL cZ : ClassId} {p : Program} {e : Env} {s : State} {m : MethodId} {args : Array Value} {below : List Frame} {meth : Method} {c : Code} {A : Nat → Prop} (o_Sto o_Tra o_Tal o_Sea o_Ass a_Sto_3 a_Tra_0 a_Tra_1 a_Tra_2 a_Tra_3 a_Sea_0 a_Sea_1 : Nat) (v_Tra : T_Tra) (out : T_Sto × T_Sea × Int32) (mc ms : Nat) (X : X_Sea_storeRow p s m args c D cI cL cZ A) (N : nk NM0 NF0 s) (hr : meth.sig.returnType = some .int) (hlk : meth.locks = false) (again50 : T_Sto → T_Sea → Int32 → Int32 → Option ((T_Sto × T_Sea × Int32) × Nat × Nat)) (ih50 : ∀ (a_Sto_0 a_Sto_1 a_Sto_2 a_Sto_4 a_Sea_2 : Nat) (v_Sto : T_Sto) (v_Sea : T_Sea) (x1 : Int32) (x2 : Int32) (kc ks dc ds : Nat), again50 v_Sto v_Sea x1 x2 = some (out, dc, ds) → kc + dc = mc → ks + ds = ms → J_Sea_storeRow p l e s m args below meth c D cI cL cZ A (O_Sea_storeRow cI cL cZ o_Sto o_Tra o_Tal o_Sea o_Ass a_Sto_3 a_Tra_0 a_Tra_1 a_Tra_2 a_Tra_3 a_Sea_0 a_Sea_1 v_Tra out) mc ms (w_Sto cI cL cZ o_Sto a_Sto_0 a_Sto_1 a_Sto_2 a_Sto_3 a_Sto_4 v_Sto ++ w_Tra cI cL cZ o_Tra o_Tal a_Tra_0 a_Tra_1 a_Tra_2 a_Tra_3 v_Tra ++ w_Sea cI cL cZ o_Sea o_Sto o_Tra o_Tal o_Ass a_Sea_0 a_Sea_1 a_Sea_2 v_Sea) kc ks 50 [(0, .ref o_Sea), (1, .int x1), (2, .int x2)] []) : ∀ (a_Sto_0 a_Sto_1 a_Sto_2 a_Sto_4 a_Sea_2 : Nat) (v_Sto : T_Sto) (v_Sea : T_Sea) (x1 : Int32) (x2 : Int32) (kc ks dc ds : Nat), m_Sea_storeRow_B109 v_Tra again50 v_Sto v_Sea x1 x2 = some (out, dc, ds) → kc + dc = mc → ks + ds = ms → J_Sea_storeRow p l e s m args below meth c D cI cL cZ A (O_Sea_storeRow cI cL cZ o_Sto o_Tra o_Tal o_Sea o_Ass a_Sto_3 a_Tra_0 a_Tra_1 a_Tra_2 a_Tra_3 a_Sea_0 a_Sea_1 v_Tra out) mc ms (w_Sto cI cL cZ o_Sto a_Sto_0 a_Sto_1 a_Sto_2 a_Sto_3 a_Sto_4 v_Sto ++ w_Tra cI cL cZ o_Tra o_Tal a_Tra_0 a_Tra_1 a_Tra_2 a_Tra_3 v_Tra ++ w_Sea cI cL cZ o_Sea o_Sto o_Tra o_Tal o_Ass a_Sea_0 a_Sea_1 a_Sea_2 v_Sea) kc ks 109 [(0, .ref o_Sea), (1, .int x1), (2, .int x2)] [] := by
  intro a_Sto_0 a_Sto_1 a_Sto_2 a_Sto_4 a_Sea_2 v_Sto v_Sea x1 x2 kc ks dc ds hm hkc hks
  unfold m_Sea_storeRow_B109 at hm
  refine aj_iinc (v := (x2 + 1)) (lv' := [(2, .int (x2 + 1)), (0, .ref o_Sea), (1, .int x1)]) X d_Sea_storeRow_109 2 rfl rfl (by decide) rfl ?_
  refine aj_goto X 50 d_Sea_storeRow_112 (by decide) ?_
  refine aj_lv (lv' := [(0, .ref o_Sea), (1, .int x1), (2, .int (x2 + 1))]) [1, 2, 0] rfl ?_
  exact ih50 a_Sto_0 a_Sto_1 a_Sto_2 a_Sto_4 a_Sea_2 v_Sto v_Sea x1 (x2 + 1) kc ks _ _ hm hkc hks
def m_Sea_storeRow_B108 (v_Tra : T_Tra) (again50 : T_Sto → T_Sea → Int32 → Int32 → Option ((T_Sto × T_Sea × Int32) × Nat × Nat)) (v_Sto : T_Sto) (v_Sea : T_Sea) (x2 : Int32) (z0 : Int32) : Option ((T_Sto × T_Sea × Int32) × Nat × Nat) := (m_Sea_storeRow_B109 v_Tra again50 v_Sto v_Sea z0 x2)
set_option maxRecDepth 100000 in
set_option maxHeartbeats 4000000 in
theorem c_Sea_storeRow_B108 {l : Launch} {D : va_G} {cI cL cZ : ClassId} {p : Program} {e : Env} {s : State} {m : MethodId} {args : Array Value} {below : List Frame} {meth : Method} {c : Code} {A : Nat → Prop} (o_Sto o_Tra o_Tal o_Sea o_Ass a_Sto_3 a_Tra_0 a_Tra_1 a_Tra_2 a_Tra_3 a_Sea_0 a_Sea_1 : Nat) (v_Tra : T_Tra) (out : T_Sto × T_Sea × Int32) (mc ms : Nat) (X : X_Sea_storeRow p s m args c D cI cL cZ A) (N : nk NM0 NF0 s) (hr : meth.sig.returnType = some .int) (hlk : meth.locks = false) (again50 : T_Sto → T_Sea → Int32 → Int32 → Option ((T_Sto × T_Sea × Int32) × Nat × Nat)) (ih50 : ∀ (a_Sto_0 a_Sto_1 a_Sto_2 a_Sto_4 a_Sea_2 : Nat) (v_Sto : T_Sto) (v_Sea : T_Sea) (x1 : Int32) (x2 : Int32) (kc ks dc ds : Nat), again50 v_Sto v_Sea x1 x2 = some (out, dc, ds) → kc + dc = mc → ks + ds = ms → J_Sea_storeRow p l e s m args below meth c D cI cL cZ A (O_Sea_storeRow cI cL cZ o_Sto o_Tra o_Tal o_Sea o_Ass a_Sto_3 a_Tra_0 a_Tra_1 a_Tra_2 a_Tra_3 a_Sea_0 a_Sea_1 v_Tra out) mc ms (w_Sto cI cL cZ o_Sto a_Sto_0 a_Sto_1 a_Sto_2 a_Sto_3 a_Sto_4 v_Sto ++ w_Tra cI cL cZ o_Tra o_Tal a_Tra_0 a_Tra_1 a_Tra_2 a_Tra_3 v_Tra ++ w_Sea cI cL cZ o_Sea o_Sto o_Tra o_Tal o_Ass a_Sea_0 a_Sea_1 a_Sea_2 v_Sea) kc ks 50 [(0, .ref o_Sea), (1, .int x1), (2, .int x2)] []) : ∀ (a_Sto_0 a_Sto_1 a_Sto_2 a_Sto_4 a_Sea_2 : Nat) (v_Sto : T_Sto) (v_Sea : T_Sea) (x2 : Int32) (z0 : Int32) (kc ks dc ds : Nat), m_Sea_storeRow_B108 v_Tra again50 v_Sto v_Sea x2 z0 = some (out, dc, ds) → kc + dc = mc → ks + ds = ms → J_Sea_storeRow p l e s m args below meth c D cI cL cZ A (O_Sea_storeRow cI cL cZ o_Sto o_Tra o_Tal o_Sea o_Ass a_Sto_3 a_Tra_0 a_Tra_1 a_Tra_2 a_Tra_3 a_Sea_0 a_Sea_1 v_Tra out) mc ms (w_Sto cI cL cZ o_Sto a_Sto_0 a_Sto_1 a_Sto_2 a_Sto_3 a_Sto_4 v_Sto ++ w_Tra cI cL cZ o_Tra o_Tal a_Tra_0 a_Tra_1 a_Tra_2 a_Tra_3 v_Tra ++ w_Sea cI cL cZ o_Sea o_Sto o_Tra o_Tal o_Ass a_Sea_0 a_Sea_1 a_Sea_2 v_Sea) kc ks 108 [(0, .ref o_Sea), (2, .int x2)] [.int z0] := by
  intro a_Sto_0 a_Sto_1 a_Sto_2 a_Sto_4 a_Sea_2 v_Sto v_Sea x2 z0 kc ks dc ds hm hkc hks
  unfold m_Sea_storeRow_B108 at hm
  refine aj_istore_n (lv' := [(1, .int z0), (0, .ref o_Sea), (2, .int x2)]) X d_Sea_storeRow_108 rfl (by decide) rfl ?_
  refine aj_lv (lv' := [(0, .ref o_Sea), (1, .int z0), (2, .int x2)]) [1, 0, 2] rfl ?_
  exact c_Sea_storeRow_B109 o_Sto o_Tra o_Tal o_Sea o_Ass a_Sto_3 a_Tra_0 a_Tra_1 a_Tra_2 a_Tra_3 a_Sea_0 a_Sea_1 v_Tra out mc ms X N hr hlk again50 ih50 a_Sto_0 a_Sto_1 a_Sto_2 a_Sto_4 a_Sea_2 v_Sto v_Sea z0 x2 kc ks _ _ hm hkc hks
def m_Sea_storeRow_L50 (v_Tra : T_Tra) : Nat → T_Sto → T_Sea → Int32 → Int32 → Option ((T_Sto × T_Sea × Int32) × Nat × Nat)
  | 0, _, _, _, _ => none
  | f + 1, v_Sto, v_Sea, x1, x2 => (if v_Sea.2.2.1 ≤ x2 then (some ((v_Sto, v_Sea, x1), 0, 0)) else (if ¬ (x2 < 0 ∨ v_Sea.2.2.2.1.1 ≤ (x2).toNatClampNeg) then (if (v_Sea.2.2.2.1.2 (x2).toNatClampNeg) = (1 : Int32) then ((m_Tra_refusedLiteralOf v_Tra x2).bind fun r17 => ((m_Sto_append v_Sto r17).bind fun r19 => addc r19.2.1 r19.2.2 ((m_Tra_levelOf v_Tra x2).bind fun r24 => (if r24 = v_Tra.2.1 then (m_Sea_storeRow_B108 v_Tra (m_Sea_storeRow_L50 v_Tra f) r19.1 v_Sea x2 r17) else (m_Sea_storeRow_B108 v_Tra (m_Sea_storeRow_L50 v_Tra f) r19.1 v_Sea x2 x1))))) else (m_Sea_storeRow_B109 v_Tra (m_Sea_storeRow_L50 v_Tra f) v_Sto v_Sea x1 x2)) else none))
set_option maxRecDepth 100000 in
set_option maxHeartbeats 4000000 in
theorem c_Sea_storeRow_L50 {l : Launch} {D : va_G} {cI cL cZ : ClassId} {p : Program} {e : Env} {s : State} {m : MethodId} {args : Array Value} {below : List Frame} {meth : Method} {c : Code} {A : Nat → Prop} (o_Sto o_Tra o_Tal o_Sea o_Ass a_Sto_3 a_Tra_0 a_Tra_1 a_Tra_2 a_Tra_3 a_Sea_0 a_Sea_1 : Nat) (v_Tra : T_Tra) (out : T_Sto × T_Sea × Int32) (mc ms : Nat) (X : X_Sea_storeRow p s m args c D cI cL cZ A) (N : nk NM0 NF0 s) (hr : meth.sig.returnType = some .int) (hlk : meth.locks = false) : ∀ (nn : Nat), ∀ (a_Sto_0 a_Sto_1 a_Sto_2 a_Sto_4 a_Sea_2 : Nat) (v_Sto : T_Sto) (v_Sea : T_Sea) (x1 : Int32) (x2 : Int32) (kc ks dc ds : Nat), m_Sea_storeRow_L50 v_Tra nn v_Sto v_Sea x1 x2 = some (out, dc, ds) → kc + dc = mc → ks + ds = ms → J_Sea_storeRow p l e s m args below meth c D cI cL cZ A (O_Sea_storeRow cI cL cZ o_Sto o_Tra o_Tal o_Sea o_Ass a_Sto_3 a_Tra_0 a_Tra_1 a_Tra_2 a_Tra_3 a_Sea_0 a_Sea_1 v_Tra out) mc ms (w_Sto cI cL cZ o_Sto a_Sto_0 a_Sto_1 a_Sto_2 a_Sto_3 a_Sto_4 v_Sto ++ w_Tra cI cL cZ o_Tra o_Tal a_Tra_0 a_Tra_1 a_Tra_2 a_Tra_3 v_Tra ++ w_Sea cI cL cZ o_Sea o_Sto o_Tra o_Tal o_Ass a_Sea_0 a_Sea_1 a_Sea_2 v_Sea) kc ks 50 [(0, .ref o_Sea), (1, .int x1), (2, .int x2)] [] := by
  intro nn
  induction nn with
  | zero => intro a_Sto_0 a_Sto_1 a_Sto_2 a_Sto_4 a_Sea_2 v_Sto v_Sea x1 x2 kc ks dc ds hm hkc hks; exact absurd hm (by simp [m_Sea_storeRow_L50])
  | succ nn ih50 =>
    intro a_Sto_0 a_Sto_1 a_Sto_2 a_Sto_4 a_Sea_2 v_Sto v_Sea x1 x2 kc ks dc ds hm hkc hks
    unfold m_Sea_storeRow_L50 at hm
    refine aj_iload_n X d_Sea_storeRow_50 2 rfl ?_
    refine aj_aload_n X d_Sea_storeRow_51 0 rfl ?_
    refine aj_get X d_Sea_storeRow_52 in_Sea 11 rfl rfl 2 (by decide) lf_Sea_9 rfl ?_
    refine aj_icmp_ge X 115 d_Sea_storeRow_55 (by decide) (fun h => ?_) (fun h => ?_)
    · have hm := ite_t hm h
      refine aj_iload_n X d_Sea_storeRow_115 1 rfl ?_
      obtain ⟨ho, e1, e2⟩ := res_of hm
      subst ho
      obtain rfl := kc_end hkc e1
      obtain rfl := kc_end hks e2
      exact aj_iret X d_Sea_storeRow_116 hr hlk [0, 1, 2, 3, 4, 5, 6, 7, 8, 9, 10, 11, 12, 13, 14] (w_Sto cI cL cZ o_Sto a_Sto_0 a_Sto_1 a_Sto_2 a_Sto_3 a_Sto_4 v_Sto ++ w_Tra cI cL cZ o_Tra o_Tal a_Tra_0 a_Tra_1 a_Tra_2 a_Tra_3 v_Tra ++ w_Sea cI cL cZ o_Sea o_Sto o_Tra o_Tal o_Ass a_Sea_0 a_Sea_1 a_Sea_2 v_Sea) rfl rfl ⟨rfl, a_Sto_0, a_Sto_1, a_Sto_2, a_Sto_4, a_Sea_2, rfl⟩
    · have hm := ite_f hm h
      refine aj_aload_n X d_Sea_storeRow_58 0 rfl ?_
      refine aj_get X d_Sea_storeRow_59 in_Sea 11 rfl rfl 7 (by decide) lf_Sea_31 rfl ?_
      refine aj_iload_n X d_Sea_storeRow_62 2 rfl ?_
      obtain ⟨b16, hm⟩ := chk_of hm
      refine aj_iald X d_Sea_storeRow_63 12 0 rfl rfl b16 ?_
      refine aj_iconst (v := (1 : Int32)) X d_Sea_storeRow_64 (by decide) ?_
      refine aj_icmp_ne X 109 d_Sea_storeRow_65 (by decide) (fun h => ?_) (fun h => ?_)
      · have hm := ite_f hm h
        exact c_Sea_storeRow_B109 o_Sto o_Tra o_Tal o_Sea o_Ass a_Sto_3 a_Tra_0 a_Tra_1 a_Tra_2 a_Tra_3 a_Sea_0 a_Sea_1 v_Tra out mc ms X N hr hlk (m_Sea_storeRow_L50 v_Tra nn) ih50 a_Sto_0 a_Sto_1 a_Sto_2 a_Sto_4 a_Sea_2 v_Sto v_Sea x1 x2 kc ks _ _ hm hkc hks
      · have hm := ite_t hm h
        refine aj_aload_n X d_Sea_storeRow_68 0 rfl ?_
        refine aj_get X d_Sea_storeRow_69 in_Sea 11 rfl rfl 4 (by decide) lf_Sea_19 rfl ?_
        refine aj_iload_n X d_Sea_storeRow_72 2 rfl ?_
        obtain ⟨r17, h18, hm⟩ := bnd_of hm
        refine aj_callI (wr := [(o_Sto, .inr (3, [.int v_Sto.1, .int v_Sto.2.1, .ref a_Sto_0, .ref a_Sto_1, .ref a_Sto_2, .ref a_Sto_3, .ref a_Sto_4])), (a_Sto_0, .inl (cI, v_Sto.2.2.1.1, .inl v_Sto.2.2.1.2)), (a_Sto_1, .inl (cI, v_Sto.2.2.2.1.1, .inl v_Sto.2.2.2.1.2)), (a_Sto_2, .inl (cI, v_Sto.2.2.2.2.1.1, .inl v_Sto.2.2.2.2.1.2)), (a_Sto_3, .inl (cI, v_Sto.2.2.2.2.2.1.1, .inl v_Sto.2.2.2.2.2.1.2)), (a_Sto_4, .inl (cI, v_Sto.2.2.2.2.2.2.1, .inl v_Sto.2.2.2.2.2.2.2)), (o_Sea, .inr (2, [.int v_Sea.1, .long v_Sea.2.1, .int v_Sea.2.2.1, .ref o_Sto, .ref o_Tra, .ref o_Tal, .ref o_Ass, .ref a_Sea_0, .ref a_Sea_1, .int v_Sea.2.2.2.2.2.1, .ref a_Sea_2, .long v_Sea.2.2.2.2.2.2.2])), (a_Sea_0, .inl (cI, v_Sea.2.2.2.1.1, .inl v_Sea.2.2.2.1.2)), (a_Sea_1, .inl (cI, v_Sea.2.2.2.2.1.1, .inl v_Sea.2.2.2.2.1.2)), (a_Sea_2, .inl (cI, v_Sea.2.2.2.2.2.2.1.1, .inl v_Sea.2.2.2.2.2.2.1.2))]) X (aj_rV (As := [.int x2]) (rest := []) X N gTB (c_Tra_refusedLiteralOf (D := D) (cI := cI) (cL := cL) (cZ := cZ) o_Tra o_Tal a_Tra_0 a_Tra_1 a_Tra_2 a_Tra_3 v_Tra x2 r17 h18) d_Sea_storeRow_73 lk_Tra_refusedLiteralOf lw_Sea_191 lh_Tra_refusedLiteralOf ⟨(Nat.le_of_ble_eq_true rfl), (Nat.le_of_ble_eq_true rfl)⟩ [6, 7, 8, 9, 10] rfl rfl 0 rfl rfl rfl rfl (Nat.le_of_ble_eq_true rfl) ⟨kc_le1 hkc, kc_le1 hks⟩) [6, 7, 8, 9, 10] [0, 1, 2, 3, 4, 5, 11, 12, 13, 14] rfl rfl rfl (by decide) (fun rr w1 hO => ?_)
        have hkc := kc_zero hkc
        have hks := kc_zero hks
        obtain ⟨rfl, rfl⟩ := hO
        refine aj_perm (ws' := w_Sto cI cL cZ o_Sto a_Sto_0 a_Sto_1 a_Sto_2 a_Sto_3 a_Sto_4 v_Sto ++ w_Tra cI cL cZ o_Tra o_Tal a_Tra_0 a_Tra_1 a_Tra_2 a_Tra_3 v_Tra ++ w_Sea cI cL cZ o_Sea o_Sto o_Tra o_Tal o_Ass a_Sea_0 a_Sea_1 a_Sea_2 v_Sea) [0, 1, 2, 3, 4, 5, 10, 11, 12, 13, 14, 6, 7, 8, 9] rfl rfl ?_
        refine aj_istore_n (lv' := [(3, .int r17), (0, .ref o_Sea), (1, .int x1), (2, .int x2)]) X d_Sea_storeRow_76 rfl (by decide) rfl ?_
        refine aj_aload_n X d_Sea_storeRow_77 1 rfl ?_
        refine aj_get X d_Sea_storeRow_78 in_Sea 11 rfl rfl 3 (by decide) lf_Sea_15 rfl ?_
        refine aj_iload_n X d_Sea_storeRow_81 0 rfl ?_
        obtain ⟨r19, h20, hm⟩ := bnd_of hm
        obtain ⟨dc, ds, hm, e1, e2⟩ := addc_of hm
        have hkc := kc_step hkc e1
        have hks := kc_step hks e2
        refine aj_callV (wr := [(o_Tra, .inr (5, [.int v_Tra.1, .int v_Tra.2.1, .ref a_Tra_0, .ref o_Tal, .ref a_Tra_1, .ref a_Tra_2, .ref a_Tra_3])), (a_Tra_0, .inl (cI, v_Tra.2.2.1.1, .inl v_Tra.2.2.1.2)), (a_Tra_1, .inl (cI, v_Tra.2.2.2.1.1, .inl v_Tra.2.2.2.1.2)), (a_Tra_2, .inl (cI, v_Tra.2.2.2.2.1.1, .inl v_Tra.2.2.2.2.1.2)), (a_Tra_3, .inl (cI, v_Tra.2.2.2.2.2.1, .inl v_Tra.2.2.2.2.2.2)), (o_Sea, .inr (2, [.int v_Sea.1, .long v_Sea.2.1, .int v_Sea.2.2.1, .ref o_Sto, .ref o_Tra, .ref o_Tal, .ref o_Ass, .ref a_Sea_0, .ref a_Sea_1, .int v_Sea.2.2.2.2.2.1, .ref a_Sea_2, .long v_Sea.2.2.2.2.2.2.2])), (a_Sea_0, .inl (cI, v_Sea.2.2.2.1.1, .inl v_Sea.2.2.2.1.2)), (a_Sea_1, .inl (cI, v_Sea.2.2.2.2.1.1, .inl v_Sea.2.2.2.2.1.2)), (a_Sea_2, .inl (cI, v_Sea.2.2.2.2.2.2.1.1, .inl v_Sea.2.2.2.2.2.2.1.2))]) X (aj_rV (As := [.int r17]) (rest := []) X N gTB (c_Sto_append (D := D) (cI := cI) (cL := cL) (cZ := cZ) o_Sto a_Sto_3 a_Sto_4 a_Sto_0 a_Sto_1 a_Sto_2 v_Sto r17 r19.1 r19.2.1 r19.2.2 h20) d_Sea_storeRow_82 lk_Sto_append lw_Sea_194 lh_Sto_append ⟨(Nat.le_of_ble_eq_true rfl), (Nat.le_of_ble_eq_true rfl)⟩ [0, 1, 2, 3, 4, 5] rfl rfl 0 rfl rfl rfl rfl (Nat.le_of_ble_eq_true rfl) ⟨kc_le hkc, kc_le hks⟩) [0, 1, 2, 3, 4, 5] [6, 7, 8, 9, 10, 11, 12, 13, 14] rfl rfl rfl (by decide) (fun w1 hO => ?_)
        obtain ⟨a21, a22, a23, rfl⟩ := hO
        refine aj_perm (ws' := w_Sto cI cL cZ o_Sto a21 a22 a23 a_Sto_3 a_Sto_4 r19.1 ++ w_Tra cI cL cZ o_Tra o_Tal a_Tra_0 a_Tra_1 a_Tra_2 a_Tra_3 v_Tra ++ w_Sea cI cL cZ o_Sea o_Sto o_Tra o_Tal o_Ass a_Sea_0 a_Sea_1 a_Sea_2 v_Sea) [9, 10, 11, 12, 13, 14, 0, 1, 2, 3, 4, 5, 6, 7, 8] rfl rfl ?_
        refine aj_aload_n X d_Sea_storeRow_85 1 rfl ?_
        refine aj_get X d_Sea_storeRow_86 in_Sea 11 rfl rfl 4 (by decide) lf_Sea_19 rfl ?_
        refine aj_iload_n X d_Sea_storeRow_89 3 rfl ?_
        obtain ⟨r24, h25, hm⟩ := bnd_of hm
        refine aj_callI (wr := [(o_Sto, .inr (3, [.int r19.1.1, .int r19.1.2.1, .ref a21, .ref a22, .ref a23, .ref a_Sto_3, .ref a_Sto_4])), (a21, .inl (cI, r19.1.2.2.1.1, .inl r19.1.2.2.1.2)), (a22, .inl (cI, r19.1.2.2.2.1.1, .inl r19.1.2.2.2.1.2)), (a23, .inl (cI, r19.1.2.2.2.2.1.1, .inl r19.1.2.2.2.2.1.2)), (a_Sto_3, .inl (cI, r19.1.2.2.2.2.2.1.1, .inl r19.1.2.2.2.2.2.1.2)), (a_Sto_4, .inl (cI, r19.1.2.2.2.2.2.2.1, .inl r19.1.2.2.2.2.2.2.2)), (o_Sea, .inr (2, [.int v_Sea.1, .long v_Sea.2.1, .int v_Sea.2.2.1, .ref o_Sto, .ref o_Tra, .ref o_Tal, .ref o_Ass, .ref a_Sea_0, .ref a_Sea_1, .int v_Sea.2.2.2.2.2.1, .ref a_Sea_2, .long v_Sea.2.2.2.2.2.2.2])), (a_Sea_0, .inl (cI, v_Sea.2.2.2.1.1, .inl v_Sea.2.2.2.1.2)), (a_Sea_1, .inl (cI, v_Sea.2.2.2.2.1.1, .inl v_Sea.2.2.2.2.1.2)), (a_Sea_2, .inl (cI, v_Sea.2.2.2.2.2.2.1.1, .inl v_Sea.2.2.2.2.2.2.1.2))]) X (aj_rV (As := [.int x2]) (rest := []) X N gTB (c_Tra_levelOf (D := D) (cI := cI) (cL := cL) (cZ := cZ) o_Tra o_Tal a_Tra_0 a_Tra_1 a_Tra_2 a_Tra_3 v_Tra x2 r24 h25) d_Sea_storeRow_90 lk_Tra_levelOf lw_Sea_181 lh_Tra_levelOf ⟨(Nat.le_of_ble_eq_true rfl), (Nat.le_of_ble_eq_true rfl)⟩ [6, 7, 8, 9, 10] rfl rfl 0 rfl rfl rfl rfl (Nat.le_of_ble_eq_true rfl) ⟨kc_le1 hkc, kc_le1 hks⟩) [6, 7, 8, 9, 10] [0, 1, 2, 3, 4, 5, 11, 12, 13, 14] rfl rfl rfl (by decide) (fun rr w1 hO => ?_)
        have hkc := kc_zero hkc
        have hks := kc_zero hks
        obtain ⟨rfl, rfl⟩ := hO
        refine aj_perm (ws' := w_Sto cI cL cZ o_Sto a21 a22 a23 a_Sto_3 a_Sto_4 r19.1 ++ w_Tra cI cL cZ o_Tra o_Tal a_Tra_0 a_Tra_1 a_Tra_2 a_Tra_3 v_Tra ++ w_Sea cI cL cZ o_Sea o_Sto o_Tra o_Tal o_Ass a_Sea_0 a_Sea_1 a_Sea_2 v_Sea) [0, 1, 2, 3, 4, 5, 10, 11, 12, 13, 14, 6, 7, 8, 9] rfl rfl ?_
        refine aj_aload_n X d_Sea_storeRow_93 1 rfl ?_
        refine aj_get X d_Sea_storeRow_94 in_Sea 11 rfl rfl 4 (by decide) lf_Sea_19 rfl ?_
        refine aj_get X d_Sea_storeRow_97 in_Tra 6 rfl rfl 1 (by decide) lf_Sea_75 rfl ?_
        refine aj_icmp_ne X 107 d_Sea_storeRow_100 (by decide) (fun h => ?_) (fun h => ?_)
        · have hm := ite_f hm h
          refine aj_iload_n X d_Sea_storeRow_107 2 rfl ?_
          refine aj_lv (lv' := [(0, .ref o_Sea), (2, .int x2)]) [1, 3] rfl ?_
          exact c_Sea_storeRow_B108 o_Sto o_Tra o_Tal o_Sea o_Ass a_Sto_3 a_Tra_0 a_Tra_1 a_Tra_2 a_Tra_3 a_Sea_0 a_Sea_1 v_Tra out mc ms X N hr hlk (m_Sea_storeRow_L50 v_Tra nn) ih50 a21 a22 a23 a_Sto_4 a_Sea_2 r19.1 v_Sea x2 x1 (kc + 0 + r19.2.1 + 0) (ks + 0 + r19.2.2 + 0) _ _ hm hkc hks
        · have hm := ite_t hm h
          refine aj_iload_n X d_Sea_storeRow_103 0 rfl ?_
          refine aj_goto X 108 d_Sea_storeRow_104 (by decide) ?_
          refine aj_lv (lv' := [(0, .ref o_Sea), (2, .int x2)]) [1, 3] rfl ?_
          exact c_Sea_storeRow_B108 o_Sto o_Tra o_Tal o_Sea o_Ass a_Sto_3 a_Tra_0 a_Tra_1 a_Tra_2 a_Tra_3 a_Sea_0 a_Sea_1 v_Tra out mc ms X N hr hlk (m_Sea_storeRow_L50 v_Tra nn) ih50 a21 a22 a23 a_Sto_4 a_Sea_2 r19.1 v_Sea x2 r17 (kc + 0 + r19.2.1 + 0) (ks + 0 + r19.2.2 + 0) _ _ hm hkc hks
def m_Sea_storeRow (v_Tra : T_Tra) (v_Sto : T_Sto) (v_Sea : T_Sea) : Option ((T_Sto × T_Sea × Int32) × Nat × Nat) := ((m_CS_withRoomFor v_Sea.2.2.2.2.2.2.1 (v_Sea.1 + (1 : Int32)) (1500 : Int32)).bind fun r26 => addc r26.2.1 r26.2.2 ((m_Sto_open v_Sto).bind fun r29 => addc r29.2.1 r29.2.2 (if ¬ (v_Sea.1 < 0 ∨ r26.1.1 ≤ (v_Sea.1).toNatClampNeg) then (m_Sea_storeRow_L50 v_Tra fu r29.1.1 ((v_Sea.1 + (1 : Int32)), v_Sea.2.1, v_Sea.2.2.1, v_Sea.2.2.2.1, v_Sea.2.2.2.2.1, v_Sea.2.2.2.2.2.1, (r26.1.1, (upd r26.1.2 (v_Sea.1).toNatClampNeg r29.1.2)), v_Sea.2.2.2.2.2.2.2) (-1 : Int32) (0 : Int32)) else none)))
set_option maxRecDepth 100000 in
set_option maxHeartbeats 4000000 in
theorem c_Sea_storeRow {l : Launch} {D : va_G} {cI cL cZ : ClassId} (o_Sto o_Tra o_Tal o_Sea o_Ass a_Sto_3 a_Tra_0 a_Tra_1 a_Tra_2 a_Tra_3 a_Sea_0 a_Sea_1 : Nat) (a_Sto_0 a_Sto_1 a_Sto_2 a_Sto_4 a_Sea_2 : Nat) (v_Tra : T_Tra) (v_Sto : T_Sto) (v_Sea : T_Sea) (out : T_Sto × T_Sea × Int32) (mc ms : Nat) (hm : m_Sea_storeRow v_Tra v_Sto v_Sea = some (out, mc, ms)) : ct l y_Sea_storeRow (Cond.code y_Sea_storeRow b_Sea_storeRow 4 (some .int) :: TB) 4 105 D clss (ty3 cI cL cZ) NM0 NF0 [.ref o_Sea] (w_Sto cI cL cZ o_Sto a_Sto_0 a_Sto_1 a_Sto_2 a_Sto_3 a_Sto_4 v_Sto ++ w_Tra cI cL cZ o_Tra o_Tal a_Tra_0 a_Tra_1 a_Tra_2 a_Tra_3 v_Tra ++ w_Sea cI cL cZ o_Sea o_Sto o_Tra o_Tal o_Ass a_Sea_0 a_Sea_1 a_Sea_2 v_Sea) (qI D clss (ty3 cI cL cZ) (O_Sea_storeRow cI cL cZ o_Sto o_Tra o_Tal o_Sea o_Ass a_Sto_3 a_Tra_0 a_Tra_1 a_Tra_2 a_Tra_3 a_Sea_0 a_Sea_1 v_Tra out)) mc ms := by
  refine ct_of (plainFor_of_name (by decide)) (Nat.le_of_ble_eq_true rfl) (fun p e s m args below meth c A X N hr hlk hnm => ?_)
  refine aj_lv (lv' := [(0, .ref o_Sea)]) [0] rfl ?_
  unfold m_Sea_storeRow at hm
  have hkc : 0 + mc = mc := Nat.zero_add _
  have hks : 0 + ms = ms := Nat.zero_add _
  refine aj_aload_n X d_Sea_storeRow_0 0 rfl ?_
  refine aj_aload_n X d_Sea_storeRow_1 0 rfl ?_
  refine aj_get X d_Sea_storeRow_2 in_Sea 11 rfl rfl 10 (by decide) lf_Sea_41 rfl ?_
  refine aj_aload_n X d_Sea_storeRow_5 0 rfl ?_
  refine aj_get X d_Sea_storeRow_6 in_Sea 11 rfl rfl 0 (by decide) lf_Sea_44 rfl ?_
  refine aj_iconst (v := (1 : Int32)) X d_Sea_storeRow_9 (by decide) ?_
  refine aj_iadd X d_Sea_storeRow_10 ?_
  refine aj_sipush (v := (1500 : Int32)) X d_Sea_storeRow_11 (by decide) ?_
  obtain ⟨r26, h27, hm⟩ := bnd_of hm
  obtain ⟨dc, ds, hm, e1, e2⟩ := addc_of hm
  have hkc := kc_step hkc e1
  have hks := kc_step hks e2
  refine aj_callR (wr := [(o_Sto, .inr (3, [.int v_Sto.1, .int v_Sto.2.1, .ref a_Sto_0, .ref a_Sto_1, .ref a_Sto_2, .ref a_Sto_3, .ref a_Sto_4])), (a_Sto_0, .inl (cI, v_Sto.2.2.1.1, .inl v_Sto.2.2.1.2)), (a_Sto_1, .inl (cI, v_Sto.2.2.2.1.1, .inl v_Sto.2.2.2.1.2)), (a_Sto_2, .inl (cI, v_Sto.2.2.2.2.1.1, .inl v_Sto.2.2.2.2.1.2)), (a_Sto_3, .inl (cI, v_Sto.2.2.2.2.2.1.1, .inl v_Sto.2.2.2.2.2.1.2)), (a_Sto_4, .inl (cI, v_Sto.2.2.2.2.2.2.1, .inl v_Sto.2.2.2.2.2.2.2)), (o_Tra, .inr (5, [.int v_Tra.1, .int v_Tra.2.1, .ref a_Tra_0, .ref o_Tal, .ref a_Tra_1, .ref a_Tra_2, .ref a_Tra_3])), (a_Tra_0, .inl (cI, v_Tra.2.2.1.1, .inl v_Tra.2.2.1.2)), (a_Tra_1, .inl (cI, v_Tra.2.2.2.1.1, .inl v_Tra.2.2.2.1.2)), (a_Tra_2, .inl (cI, v_Tra.2.2.2.2.1.1, .inl v_Tra.2.2.2.2.1.2)), (a_Tra_3, .inl (cI, v_Tra.2.2.2.2.2.1, .inl v_Tra.2.2.2.2.2.2)), (o_Sea, .inr (2, [.int v_Sea.1, .long v_Sea.2.1, .int v_Sea.2.2.1, .ref o_Sto, .ref o_Tra, .ref o_Tal, .ref o_Ass, .ref a_Sea_0, .ref a_Sea_1, .int v_Sea.2.2.2.2.2.1, .ref a_Sea_2, .long v_Sea.2.2.2.2.2.2.2])), (a_Sea_0, .inl (cI, v_Sea.2.2.2.1.1, .inl v_Sea.2.2.2.1.2)), (a_Sea_1, .inl (cI, v_Sea.2.2.2.2.1.1, .inl v_Sea.2.2.2.2.1.2))]) X (aj_rSN (As := [.ref a_Sea_2, .int (v_Sea.1 + (1 : Int32)), .int (1500 : Int32)]) (rest := [.ref o_Sea]) X N gTB (c_CS_withRoomFor (D := D) (cI := cI) (cL := cL) (cZ := cZ) a_Sea_2 v_Sea.2.2.2.2.2.2.1 (v_Sea.1 + (1 : Int32)) (1500 : Int32) r26.1 r26.2.1 r26.2.2 h27) d_Sea_storeRow_14 lk_CS_withRoomFor ln_Sea_184 lw_Sea_184 lh_CS_withRoomFor ⟨(Nat.le_of_ble_eq_true rfl), (Nat.le_of_ble_eq_true rfl)⟩ [14] rfl rfl rfl (Nat.le_of_ble_eq_true rfl) ⟨kc_le hkc, kc_le hks⟩) [14] [0, 1, 2, 3, 4, 5, 6, 7, 8, 9, 10, 11, 12, 13] rfl rfl rfl (by decide) (fun a28 w1 hO => ?_)
  obtain rfl := hO
  refine aj_perm (ws' := w_Sto cI cL cZ o_Sto a_Sto_0 a_Sto_1 a_Sto_2 a_Sto_3 a_Sto_4 v_Sto ++ w_Tra cI cL cZ o_Tra o_Tal a_Tra_0 a_Tra_1 a_Tra_2 a_Tra_3 v_Tra ++ ([(o_Sea, .inr (2, [.int v_Sea.1, .long v_Sea.2.1, .int v_Sea.2.2.1, .ref o_Sto, .ref o_Tra, .ref o_Tal, .ref o_Ass, .ref a_Sea_0, .ref a_Sea_1, .int v_Sea.2.2.2.2.2.1, .ref a_Sea_2, .long v_Sea.2.2.2.2.2.2.2])), (a_Sea_0, .inl (cI, v_Sea.2.2.2.1.1, .inl v_Sea.2.2.2.1.2)), (a_Sea_1, .inl (cI, v_Sea.2.2.2.2.1.1, .inl v_Sea.2.2.2.2.1.2)), (a28, .inl (cI, r26.1.1, .inl r26.1.2))] : va_W)) [0, 1, 2, 3, 4, 5, 6, 7, 8, 9, 10, 11, 12, 13, 14] rfl rfl ?_
  refine aj_put (ws' := w_Sto cI cL cZ o_Sto a_Sto_0 a_Sto_1 a_Sto_2 a_Sto_3 a_Sto_4 v_Sto ++ w_Tra cI cL cZ o_Tra o_Tal a_Tra_0 a_Tra_1 a_Tra_2 a_Tra_3 v_Tra ++ w_Sea cI cL cZ o_Sea o_Sto o_Tra o_Tal o_Ass a_Sea_0 a_Sea_1 a28 (v_Sea.1, v_Sea.2.1, v_Sea.2.2.1, v_Sea.2.2.2.1, v_Sea.2.2.2.2.1, v_Sea.2.2.2.2.2.1, r26.1, v_Sea.2.2.2.2.2.2.2)) X d_Sea_storeRow_17 in_Sea ty_Sea tyok_Sea nmx_Sea 11 rfl rfl 10 (by decide) lf_Sea_41 rfl rfl rfl (Nat.le_of_ble_eq_true rfl) rfl ?_
  refine aj_aload_n X d_Sea_storeRow_20 0 rfl ?_
  refine aj_get X d_Sea_storeRow_21 in_Sea 11 rfl rfl 10 (by decide) lf_Sea_41 rfl ?_
  refine aj_aload_n X d_Sea_storeRow_24 0 rfl ?_
  refine aj_get X d_Sea_storeRow_25 in_Sea 11 rfl rfl 0 (by decide) lf_Sea_44 rfl ?_
  refine aj_aload_n X d_Sea_storeRow_28 0 rfl ?_
  refine aj_get X d_Sea_storeRow_29 in_Sea 11 rfl rfl 3 (by decide) lf_Sea_15 rfl ?_
  obtain ⟨r29, h30, hm⟩ := bnd_of hm
  obtain ⟨dc, ds, hm, e1, e2⟩ := addc_of hm
  have hkc := kc_step hkc e1
  have hks := kc_step hks e2
  refine aj_callI (wr := [(o_Tra, .inr (5, [.int v_Tra.1, .int v_Tra.2.1, .ref a_Tra_0, .ref o_Tal, .ref a_Tra_1, .ref a_Tra_2, .ref a_Tra_3])), (a_Tra_0, .inl (cI, v_Tra.2.2.1.1, .inl v_Tra.2.2.1.2)), (a_Tra_1, .inl (cI, v_Tra.2.2.2.1.1, .inl v_Tra.2.2.2.1.2)), (a_Tra_2, .inl (cI, v_Tra.2.2.2.2.1.1, .inl v_Tra.2.2.2.2.1.2)), (a_Tra_3, .inl (cI, v_Tra.2.2.2.2.2.1, .inl v_Tra.2.2.2.2.2.2)), (o_Sea, .inr (2, [.int v_Sea.1, .long v_Sea.2.1, .int v_Sea.2.2.1, .ref o_Sto, .ref o_Tra, .ref o_Tal, .ref o_Ass, .ref a_Sea_0, .ref a_Sea_1, .int v_Sea.2.2.2.2.2.1, .ref a28, .long v_Sea.2.2.2.2.2.2.2])), (a_Sea_0, .inl (cI, v_Sea.2.2.2.1.1, .inl v_Sea.2.2.2.1.2)), (a_Sea_1, .inl (cI, v_Sea.2.2.2.2.1.1, .inl v_Sea.2.2.2.2.1.2)), (a28, .inl (cI, r26.1.1, .inl r26.1.2))]) X (aj_rV (As := []) (rest := [.int v_Sea.1, .ref a28]) X N gTB (c_Sto_open (D := D) (cI := cI) (cL := cL) (cZ := cZ) o_Sto a_Sto_0 a_Sto_1 a_Sto_2 a_Sto_3 a_Sto_4 v_Sto r29.1 r29.2.1 r29.2.2 h30) d_Sea_storeRow_32 lk_Sto_open lw_Sea_188 lh_Sto_open ⟨(Nat.le_of_ble_eq_true rfl), (Nat.le_of_ble_eq_true rfl)⟩ [0, 1, 2, 3, 4, 5] rfl rfl 0 rfl rfl rfl rfl (Nat.le_of_ble_eq_true rfl) ⟨kc_le hkc, kc_le hks⟩) [0, 1, 2, 3, 4, 5] [6, 7, 8, 9, 10, 11, 12, 13, 14] rfl rfl rfl (by decide) (fun rr w1 hO => ?_)
  obtain ⟨rfl, a31, rfl⟩ := hO
  refine aj_perm (ws' := w_Sto cI cL cZ o_Sto a_Sto_0 a_Sto_1 a_Sto_2 a_Sto_3 a31 r29.1.1 ++ w_Tra cI cL cZ o_Tra o_Tal a_Tra_0 a_Tra_1 a_Tra_2 a_Tra_3 v_Tra ++ w_Sea cI cL cZ o_Sea o_Sto o_Tra o_Tal o_Ass a_Sea_0 a_Sea_1 a28 (v_Sea.1, v_Sea.2.1, v_Sea.2.2.1, v_Sea.2.2.2.1, v_Sea.2.2.2.2.1, v_Sea.2.2.2.2.2.1, r26.1, v_Sea.2.2.2.2.2.2.2)) [9, 10, 11, 12, 13, 14, 0, 1, 2, 3, 4, 5, 6, 7, 8] rfl rfl ?_
  obtain ⟨b32, hm⟩ := chk_of hm
  refine aj_iast (ws' := w_Sto cI cL cZ o_Sto a_Sto_0 a_Sto_1 a_Sto_2 a_Sto_3 a31 r29.1.1 ++ w_Tra cI cL cZ o_Tra o_Tal a_Tra_0 a_Tra_1 a_Tra_2 a_Tra_3 v_Tra ++ w_Sea cI cL cZ o_Sea o_Sto o_Tra o_Tal o_Ass a_Sea_0 a_Sea_1 a28 (v_Sea.1, v_Sea.2.1, v_Sea.2.2.1, v_Sea.2.2.2.1, v_Sea.2.2.2.2.1, v_Sea.2.2.2.2.2.1, (r26.1.1, (upd r26.1.2 (v_Sea.1).toNatClampNeg r29.1.2)), v_Sea.2.2.2.2.2.2.2)) X d_Sea_storeRow_35 14 0 rfl rfl b32 rfl ?_
  refine aj_aload_n X d_Sea_storeRow_36 0 rfl ?_
  refine aj_dup X d_Sea_storeRow_37 rfl ?_
  refine aj_get X d_Sea_storeRow_38 in_Sea 11 rfl rfl 0 (by decide) lf_Sea_44 rfl ?_
  refine aj_iconst (v := (1 : Int32)) X d_Sea_storeRow_41 (by decide) ?_
  refine aj_iadd X d_Sea_storeRow_42 ?_
  refine aj_put (ws' := w_Sto cI cL cZ o_Sto a_Sto_0 a_Sto_1 a_Sto_2 a_Sto_3 a31 r29.1.1 ++ w_Tra cI cL cZ o_Tra o_Tal a_Tra_0 a_Tra_1 a_Tra_2 a_Tra_3 v_Tra ++ w_Sea cI cL cZ o_Sea o_Sto o_Tra o_Tal o_Ass a_Sea_0 a_Sea_1 a28 ((v_Sea.1 + (1 : Int32)), v_Sea.2.1, v_Sea.2.2.1, v_Sea.2.2.2.1, v_Sea.2.2.2.2.1, v_Sea.2.2.2.2.2.1, (r26.1.1, (upd r26.1.2 (v_Sea.1).toNatClampNeg r29.1.2)), v_Sea.2.2.2.2.2.2.2)) X d_Sea_storeRow_43 in_Sea ty_Sea tyok_Sea nmx_Sea 11 rfl rfl 0 (by decide) lf_Sea_44 rfl rfl rfl (Nat.le_of_ble_eq_true rfl) rfl ?_
  refine aj_iconst (v := (-1 : Int32)) X d_Sea_storeRow_46 (by decide) ?_
  refine aj_istore_n (lv' := [(1, .int (-1 : Int32)), (0, .ref o_Sea)]) X d_Sea_storeRow_47 rfl (by decide) rfl ?_
  refine aj_iconst (v := (0 : Int32)) X d_Sea_storeRow_48 (by decide) ?_
  refine aj_istore_n (lv' := [(2, .int (0 : Int32)), (1, .int (-1 : Int32)), (0, .ref o_Sea)]) X d_Sea_storeRow_49 rfl (by decide) rfl ?_
  refine aj_lv (lv' := [(0, .ref o_Sea), (1, .int (-1 : Int32)), (2, .int (0 : Int32))]) [2, 1, 0] rfl ?_
  exact c_Sea_storeRow_L50 o_Sto o_Tra o_Tal o_Sea o_Ass a_Sto_3 a_Tra_0 a_Tra_1 a_Tra_2 a_Tra_3 a_Sea_0 a_Sea_1 v_Tra out mc ms X N hr hlk fu a_Sto_0 a_Sto_1 a_Sto_2 a31 a28 r29.1.1 ((v_Sea.1 + (1 : Int32)), v_Sea.2.1, v_Sea.2.2.1, v_Sea.2.2.2.1, v_Sea.2.2.2.2.1, v_Sea.2.2.2.2.2.1, (r26.1.1, (upd r26.1.2 (v_Sea.1).toNatClampNeg r29.1.2)), v_Sea.2.2.2.2.2.2.2) (-1 : Int32) (0 : Int32) (0 + r26.2.1 + r29.2.1) (0 + r26.2.2 + r29.2.2) _ _ hm hkc hks
abbrev X_Tal_enterDead (p : Program) (s : State) (m : MethodId) (args : Array Value) (c : Code) (D : va_G) (cI cL cZ : ClassId) (A : Nat → Prop) : Prop := aj_C p s m args c D clss (ty3 cI cL cZ) A b_Tal_enterDead 1 R_Tal TB
abbrev J_Tal_enterDead (p : Program) (l : Launch) (e : Env) (s : State) (m : MethodId) (args : Array Value) (below : List Frame) (meth : Method) (c : Code) (D : va_G) (cI cL cZ : ClassId) (A : Nat → Prop) (O : va_W → Prop) (mc ms : Nat) (ws : va_W) (kc ks pc : Nat) (lv : List (Nat × Value)) (st : List Value) : Prop := aj p l e { frames := 4, cells := mc, slots := ms, locals := 104 } s m args below meth c (MQ below (qV D clss (ty3 cI cL cZ) O A) args s mc ms A) D clss A 1 ws kc ks pc lv st
def O_Tal_enterDead (cI cL cZ : ClassId) (o_Sto o_Tal a_Sto_0 a_Sto_1 a_Sto_2 a_Sto_3 a_Sto_4 a_Tal_0 a_Tal_1 : Nat) (v_Sto : T_Sto) (out : T_Tal) : va_W → Prop := fun w1 => ∃ (a_Tal_2 a_Tal_3 : Nat), w1 = w_Sto cI cL cZ o_Sto a_Sto_0 a_Sto_1 a_Sto_2 a_Sto_3 a_Sto_4 v_Sto ++ w_Tal cI cL cZ o_Tal o_Sto a_Tal_0 a_Tal_1 a_Tal_2 a_Tal_3 out
def m_Tal_enterDead (v_Sto : T_Sto) (v_Tal : T_Tal) : Option ((T_Tal) × Nat × Nat) := ((m_Tal_makeRoom v_Sto v_Tal).bind fun r7 => addc r7.2.1 r7.2.2 (if v_Sto.1 ≤ 0 then (some (r7.1, 0, 0)) else (if ¬ ((v_Sto.1 - (1 : Int32)) < 0 ∨ r7.1.2.2.1.1 ≤ ((v_Sto.1 - (1 : Int32))).toNatClampNeg) then (if ¬ ((v_Sto.1 - (1 : Int32)) < 0 ∨ r7.1.2.2.2.1 ≤ ((v_Sto.1 - (1 : Int32))).toNatClampNeg) then ((m_Tal_judge (r7.1.1, r7.1.2.1, (r7.1.2.2.1.1, (upd r7.1.2.2.1.2 ((v_Sto.1 - (1 : Int32))).toNatClampNeg (0 : Int32))), (r7.1.2.2.2.1, (upd r7.1.2.2.2.2 ((v_Sto.1 - (1 : Int32))).toNatClampNeg (0 : Int32)))) (v_Sto.1 - (1 : Int32))).bind fun r13 => (some (r13, 0, 0))) else none) else none)))
set_option maxRecDepth 100000 in
set_option maxHeartbeats 4000000 in
theorem c_Tal_enterDead {l : Launch} {D : va_G} {cI cL cZ : ClassId} (o_Sto o_Tal a_Sto_0 a_Sto_1 a_Sto_2 a_Sto_3 a_Sto_4 a_Tal_0 a_Tal_1 : Nat) (a_Tal_2 a_Tal_3 : Nat) (v_Sto : T_Sto) (v_Tal : T_Tal) (out : T_Tal) (mc ms : Nat) (hm : m_Tal_enterDead v_Sto v_Tal = some (out, mc, ms)) : ct l y_Tal_enterDead (Cond.code y_Tal_enterDead b_Tal_enterDead 1 none :: TB) 4 104 D clss (ty3 cI cL cZ) NM0 NF0 [.ref o_Tal] (w_Sto cI cL cZ o_Sto a_Sto_0 a_Sto_1 a_Sto_2 a_Sto_3 a_Sto_4 v_Sto ++ w_Tal cI cL cZ o_Tal o_Sto a_Tal_0 a_Tal_1 a_Tal_2 a_Tal_3 v_Tal) (qV D clss (ty3 cI cL cZ) (O_Tal_enterDead cI cL cZ o_Sto o_Tal a_Sto_0 a_Sto_1 a_Sto_2 a_Sto_3 a_Sto_4 a_Tal_0 a_Tal_1 v_Sto out)) mc ms := by
  refine ct_of (plainFor_of_name (by decide)) (Nat.le_of_ble_eq_true rfl) (fun p e s m args below meth c A X N hr hlk hnm => ?_)
  refine aj_lv (lv' := [(0, .ref o_Tal)]) [0] rfl ?_
  unfold m_Tal_enterDead at hm
  have hkc : 0 + mc = mc := Nat.zero_add _
  have hks : 0 + ms = ms := Nat.zero_add _
  refine aj_aload_n X d_Tal_enterDead_0 0 rfl ?_
  obtain ⟨r7, h8, hm⟩ := bnd_of hm
  obtain ⟨dc, ds, hm, e1, e2⟩ := addc_of hm
  have hkc := kc_step hkc e1
  have hks := kc_step hks e2
  refine aj_callV (wr := []) X (aj_rV (As := []) (rest := []) X N gTB (c_Tal_makeRoom (D := D) (cI := cI) (cL := cL) (cZ := cZ) o_Sto o_Tal a_Sto_0 a_Sto_1 a_Sto_2 a_Sto_3 a_Sto_4 a_Tal_0 a_Tal_1 a_Tal_2 a_Tal_3 v_Sto v_Tal r7.1 r7.2.1 r7.2.2 h8) d_Tal_enterDead_1 lk_Tal_makeRoom lw_Tal_29 lh_Tal_makeRoom ⟨(Nat.le_of_ble_eq_true rfl), (Nat.le_of_ble_eq_true rfl)⟩ [0, 1, 2, 3, 4, 5, 6, 7, 8, 9, 10] rfl rfl 6 rfl rfl rfl rfl (Nat.le_of_ble_eq_true rfl) ⟨kc_le hkc, kc_le hks⟩) [0, 1, 2, 3, 4, 5, 6, 7, 8, 9, 10] [] rfl rfl rfl (by decide) (fun w1 hO => ?_)
  obtain ⟨a9, a10, rfl⟩ := hO
  refine aj_perm (ws' := w_Sto cI cL cZ o_Sto a_Sto_0 a_Sto_1 a_Sto_2 a_Sto_3 a_Sto_4 v_Sto ++ w_Tal cI cL cZ o_Tal o_Sto a_Tal_0 a_Tal_1 a9 a10 r7.1) [0, 1, 2, 3, 4, 5, 6, 7, 8, 9, 10] rfl rfl ?_
  refine aj_aload_n X d_Tal_enterDead_4 0 rfl ?_
  refine aj_get X d_Tal_enterDead_5 in_Tal 6 rfl rfl 0 (by decide) lf_Tal_9 rfl ?_
  refine aj_get X d_Tal_enterDead_8 in_Sto 0 rfl rfl 0 (by decide) lf_Tal_32 rfl ?_
  refine aj_if_le X 57 d_Tal_enterDead_11 (by decide) (fun h => ?_) (fun h => ?_)
  · have hm := ite_t hm h
    obtain ⟨ho, e1, e2⟩ := res_of hm
    subst ho
    obtain rfl := kc_end hkc e1
    obtain rfl := kc_end hks e2
    exact aj_vret X d_Tal_enterDead_57 hr hlk [0, 1, 2, 3, 4, 5, 6, 7, 8, 9, 10] (w_Sto cI cL cZ o_Sto a_Sto_0 a_Sto_1 a_Sto_2 a_Sto_3 a_Sto_4 v_Sto ++ w_Tal cI cL cZ o_Tal o_Sto a_Tal_0 a_Tal_1 a9 a10 r7.1) rfl rfl ⟨a9, a10, rfl⟩
  · have hm := ite_f hm h
    refine aj_aload_n X d_Tal_enterDead_14 0 rfl ?_
    refine aj_get X d_Tal_enterDead_15 in_Tal 6 rfl rfl 3 (by decide) lf_Tal_22 rfl ?_
    refine aj_aload_n X d_Tal_enterDead_18 0 rfl ?_
    refine aj_get X d_Tal_enterDead_19 in_Tal 6 rfl rfl 0 (by decide) lf_Tal_9 rfl ?_
    refine aj_get X d_Tal_enterDead_22 in_Sto 0 rfl rfl 0 (by decide) lf_Tal_32 rfl ?_
    refine aj_iconst (v := (1 : Int32)) X d_Tal_enterDead_25 (by decide) ?_
    refine aj_isub X d_Tal_enterDead_26 ?_
    refine aj_iconst (v := (0 : Int32)) X d_Tal_enterDead_27 (by decide) ?_
    obtain ⟨b11, hm⟩ := chk_of hm
    refine aj_iast (ws' := w_Sto cI cL cZ o_Sto a_Sto_0 a_Sto_1 a_Sto_2 a_Sto_3 a_Sto_4 v_Sto ++ w_Tal cI cL cZ o_Tal o_Sto a_Tal_0 a_Tal_1 a9 a10 (r7.1.1, r7.1.2.1, (r7.1.2.2.1.1, (upd r7.1.2.2.1.2 ((v_Sto.1 - (1 : Int32))).toNatClampNeg (0 : Int32))), r7.1.2.2.2)) X d_Tal_enterDead_28 9 0 rfl rfl b11 rfl ?_
    refine aj_aload_n X d_Tal_enterDead_29 0 rfl ?_
    refine aj_get X d_Tal_enterDead_30 in_Tal 6 rfl rfl 4 (by decide) lf_Tal_26 rfl ?_
    refine aj_aload_n X d_Tal_enterDead_33 0 rfl ?_
    refine aj_get X d_Tal_enterDead_34 in_Tal 6 rfl rfl 0 (by decide) lf_Tal_9 rfl ?_
    refine aj_get X d_Tal_enterDead_37 in_Sto 0 rfl rfl 0 (by decide) lf_Tal_32 rfl ?_
    refine aj_iconst (v := (1 : Int32)) X d_Tal_enterDead_40 (by decide) ?_
    refine aj_isub X d_Tal_enterDead_41 ?_
    refine aj_iconst (v := (0 : Int32)) X d_Tal_enterDead_42 (by decide) ?_
    obtain ⟨b12, hm⟩ := chk_of hm
    refine aj_iast (ws' := w_Sto cI cL cZ o_Sto a_Sto_0 a_Sto_1 a_Sto_2 a_Sto_3 a_Sto_4 v_Sto ++ w_Tal cI cL cZ o_Tal o_Sto a_Tal_0 a_Tal_1 a9 a10 (r7.1.1, r7.1.2.1, (r7.1.2.2.1.1, (upd r7.1.2.2.1.2 ((v_Sto.1 - (1 : Int32))).toNatClampNeg (0 : Int32))), (r7.1.2.2.2.1, (upd r7.1.2.2.2.2 ((v_Sto.1 - (1 : Int32))).toNatClampNeg (0 : Int32))))) X d_Tal_enterDead_43 10 0 rfl rfl b12 rfl ?_
    refine aj_aload_n X d_Tal_enterDead_44 0 rfl ?_
    refine aj_aload_n X d_Tal_enterDead_45 0 rfl ?_
    refine aj_get X d_Tal_enterDead_46 in_Tal 6 rfl rfl 0 (by decide) lf_Tal_9 rfl ?_
    refine aj_get X d_Tal_enterDead_49 in_Sto 0 rfl rfl 0 (by decide) lf_Tal_32 rfl ?_
    refine aj_iconst (v := (1 : Int32)) X d_Tal_enterDead_52 (by decide) ?_
    refine aj_isub X d_Tal_enterDead_53 ?_
    obtain ⟨r13, h14, hm⟩ := bnd_of hm
    refine aj_callV (wr := [(o_Sto, .inr (3, [.int v_Sto.1, .int v_Sto.2.1, .ref a_Sto_0, .ref a_Sto_1, .ref a_Sto_2, .ref a_Sto_3, .ref a_Sto_4])), (a_Sto_0, .inl (cI, v_Sto.2.2.1.1, .inl v_Sto.2.2.1.2)), (a_Sto_1, .inl (cI, v_Sto.2.2.2.1.1, .inl v_Sto.2.2.2.1.2)), (a_Sto_2, .inl (cI, v_Sto.2.2.2.2.1.1, .inl v_Sto.2.2.2.2.1.2)), (a_Sto_3, .inl (cI, v_Sto.2.2.2.2.2.1.1, .inl v_Sto.2.2.2.2.2.1.2)), (a_Sto_4, .inl (cI, v_Sto.2.2.2.2.2.2.1, .inl v_Sto.2.2.2.2.2.2.2))]) X (aj_rV (As := [.int (v_Sto.1 - (1 : Int32))]) (rest := []) X N gTB (c_Tal_judge (D := D) (cI := cI) (cL := cL) (cZ := cZ) o_Tal o_Sto a_Tal_0 a_Tal_1 a9 a10 (r7.1.1, r7.1.2.1, (r7.1.2.2.1.1, (upd r7.1.2.2.1.2 ((v_Sto.1 - (1 : Int32))).toNatClampNeg (0 : Int32))), (r7.1.2.2.2.1, (upd r7.1.2.2.2.2 ((v_Sto.1 - (1 : Int32))).toNatClampNeg (0 : Int32)))) (v_Sto.1 - (1 : Int32)) r13 h14) d_Tal_enterDead_54 lk_Tal_judge lw_Tal_42 lh_Tal_judge ⟨(Nat.le_of_ble_eq_true rfl), (Nat.le_of_ble_eq_true rfl)⟩ [6, 7, 8, 9, 10] rfl rfl 0 rfl rfl rfl rfl (Nat.le_of_ble_eq_true rfl) ⟨kc_le1 hkc, kc_le1 hks⟩) [6, 7, 8, 9, 10] [0, 1, 2, 3, 4, 5] rfl rfl rfl (by decide) (fun w1 hO => ?_)
    have hkc := kc_zero hkc
    have hks := kc_zero hks
    obtain rfl := hO
    refine aj_perm (ws' := w_Sto cI cL cZ o_Sto a_Sto_0 a_Sto_1 a_Sto_2 a_Sto_3 a_Sto_4 v_Sto ++ w_Tal cI cL cZ o_Tal o_Sto a_Tal_0 a_Tal_1 a9 a10 r13) [0, 1, 2, 3, 4, 5, 6, 7, 8, 9, 10] rfl rfl ?_
    obtain ⟨ho, e1, e2⟩ := res_of hm
    subst ho
    obtain rfl := kc_end hkc e1
    obtain rfl := kc_end hks e2
    exact aj_vret X d_Tal_enterDead_57 hr hlk [0, 1, 2, 3, 4, 5, 6, 7, 8, 9, 10] (w_Sto cI cL cZ o_Sto a_Sto_0 a_Sto_1 a_Sto_2 a_Sto_3 a_Sto_4 v_Sto ++ w_Tal cI cL cZ o_Tal o_Sto a_Tal_0 a_Tal_1 a9 a10 r13) rfl rfl ⟨a9, a10, rfl⟩
abbrev X_Sea_greatestLevelBut (p : Program) (s : State) (m : MethodId) (args : Array Value) (c : Code) (D : va_G) (cI cL cZ : ClassId) (A : Nat → Prop) : Prop := aj_C p s m args c D clss (ty3 cI cL cZ) A b_Sea_greatestLevelBut 4 R_Sea TB
abbrev J_Sea_greatestLevelBut (p : Program) (l : Launch) (e : Env) (s : State) (m : MethodId) (args : Array Value) (below : List Frame) (meth : Method) (c : Code) (D : va_G) (cI cL cZ : ClassId) (A : Nat → Prop) (O : Int32 → va_W → Prop) (mc ms : Nat) (ws : va_W) (kc ks pc : Nat) (lv : List (Nat × Value)) (st : List Value) : Prop := aj p l e { frames := 1, cells := mc, slots := ms, locals := 21 } s m args below meth c (MQ below (qI D clss (ty3 cI cL cZ) O A) args s mc ms A) D clss A 4 ws kc ks pc lv st
def O_Sea_greatestLevelBut (cI cL cZ : ClassId) (o_Tra o_Tal o_Sea o_Sto o_Ass a_Tra_0 a_Tra_1 a_Tra_2 a_Tra_3 a_Sea_0 a_Sea_1 a_Sea_2 : Nat) (v_Tra : T_Tra) (v_Sea : T_Sea) (out : Int32) : Int32 → va_W → Prop := fun r w1 => out = r ∧ w1 = w_Tra cI cL cZ o_Tra o_Tal a_Tra_0 a_Tra_1 a_Tra_2 a_Tra_3 v_Tra ++ w_Sea cI cL cZ o_Sea o_Sto o_Tra o_Tal o_Ass a_Sea_0 a_Sea_1 a_Sea_2 v_Sea
def m_Sea_greatestLevelBut_B40 (v_Tra : T_Tra) (v_Sea : T_Sea) (again4 : Int32 → Int32 → Int32 → Option (Int32)) (x1 : Int32) (x2 : Int32) (x3 : Int32) : Option (Int32) := (again4 x1 x2 (x3 + 1))
set_option maxRecDepth 100000 in
set_option maxHeartbeats 4000000 in
theorem c_Sea_greatestLevelBut_B40 {l : Launch} {D : va_G} {cI cL cZ : ClassId} {p : Program} {e : Env} {s : State} {m : MethodId} {args : Array Value} {below : List Frame} {meth : Method} {c : Code} {A : Nat → Prop} (o_Tra o_Tal o_Sea o_Sto o_Ass a_Tra_0 a_Tra_1 a_Tra_2 a_Tra_3 a_Sea_0 a_Sea_1 a_Sea_2 : Nat) (v_Tra : T_Tra) (v_Sea : T_Sea) (out : Int32) (X : X_Sea_greatestLevelBut p s m args c D cI cL cZ A) (N : nk NM0 NF0 s) (hr : meth.sig.returnType = some .int) (hlk : meth.locks = false) (again4 : Int32 → Int32 → Int32 → Option (Int32)) (ih4 : ∀ (x1 : Int32) (x2 : Int32) (x3 : Int32), again4 x1 x2 x3 = some out → J_Sea_greatestLevelBut p l e s m args below meth c D cI cL cZ A (O_Sea_greatestLevelBut cI cL cZ o_Tra o_Tal o_Sea o_Sto o_Ass a_Tra_0 a_Tra_1 a_Tra_2 a_Tra_3 a_Sea_0 a_Sea_1 a_Sea_2 v_Tra v_Sea out) 0 0 (w_Tra cI cL cZ o_Tra o_Tal a_Tra_0 a_Tra_1 a_Tra_2 a_Tra_3 v_Tra ++ w_Sea cI cL cZ o_Sea o_Sto o_Tra o_Tal o_Ass a_Sea_0 a_Sea_1 a_Sea_2 v_Sea) 0 0 4 [(0, .ref o_Sea), (1, .int x1), (2, .int x2), (3, .int x3)] []) : ∀ (x1 : Int32) (x2 : Int32) (x3 : Int32), m_Sea_greatestLevelBut_B40 v_Tra v_Sea again4 x1 x2 x3 = some out → J_Sea_greatestLevelBut p l e s m args below meth c D cI cL cZ A (O_Sea_greatestLevelBut cI cL cZ o_Tra o_Tal o_Sea o_Sto o_Ass a_Tra_0 a_Tra_1 a_Tra_2 a_Tra_3 a_Sea_0 a_Sea_1 a_Sea_2 v_Tra v_Sea out) 0 0 (w_Tra cI cL cZ o_Tra o_Tal a_Tra_0 a_Tra_1 a_Tra_2 a_Tra_3 v_Tra ++ w_Sea cI cL cZ o_Sea o_Sto o_Tra o_Tal o_Ass a_Sea_0 a_Sea_1 a_Sea_2 v_Sea) 0 0 40 [(0, .ref o_Sea), (1, .int x1), (2, .int x2), (3, .int x3)] [] := by
  intro x1 x2 x3 hm
  unfold m_Sea_greatestLevelBut_B40 at hm
  refine aj_iinc (v := (x3 + 1)) (lv' := [(3, .int (x3 + 1)), (0, .ref o_Sea), (1, .int x1), (2, .int x2)]) X d_Sea_greatestLevelBut_40 3 rfl rfl (by decide) rfl ?_
  refine aj_goto X 4 d_Sea_greatestLevelBut_43 (by decide) ?_
  refine aj_lv (lv' := [(0, .ref o_Sea), (1, .int x1), (2, .int x2), (3, .int (x3 + 1))]) [1, 2, 3, 0] rfl ?_
  exact ih4 x1 x2 (x3 + 1) hm
def m_Sea_greatestLevelBut_L4 (v_Tra : T_Tra) (v_Sea : T_Sea) : Nat → Int32 → Int32 → Int32 → Option (Int32)
  | 0, _, _, _ => none
  | f + 1, x1, x2, x3 => (if v_Sea.2.2.1 ≤ x3 then (some x2) else (if ¬ (x3 < 0 ∨ v_Sea.2.2.2.1.1 ≤ (x3).toNatClampNeg) then (if (v_Sea.2.2.2.1.2 (x3).toNatClampNeg) = (1 : Int32) then (if x3 = x1 then (m_Sea_greatestLevelBut_B40 v_Tra v_Sea (m_Sea_greatestLevelBut_L4 v_Tra v_Sea f) x1 x2 x3) else ((m_Tra_levelOf v_Tra x3).bind fun r4 => (m_Sea_greatestLevelBut_B40 v_Tra v_Sea (m_Sea_greatestLevelBut_L4 v_Tra v_Sea f) x1 (if x2 < r4 then r4 else x2) x3))) else (m_Sea_greatestLevelBut_B40 v_Tra v_Sea (m_Sea_greatestLevelBut_L4 v_Tra v_Sea f) x1 x2 x3)) else none))
set_option maxRecDepth 100000 in
set_option maxHeartbeats 4000000 in
theorem c_Sea_greatestLevelBut_L4 {l : Launch} {D : va_G} {cI cL cZ : ClassId} {p : Program} {e : Env} {s : State} {m : MethodId} {args : Array Value} {below : List Frame} {meth : Method} {c : Code} {A : Nat → Prop} (o_Tra o_Tal o_Sea o_Sto o_Ass a_Tra_0 a_Tra_1 a_Tra_2 a_Tra_3 a_Sea_0 a_Sea_1 a_Sea_2 : Nat) (v_Tra : T_Tra) (v_Sea : T_Sea) (out : Int32) (X : X_Sea_greatestLevelBut p s m args c D cI cL cZ A) (N : nk NM0 NF0 s) (hr : meth.sig.returnType = some .int) (hlk : meth.locks = false) : ∀ (nn : Nat), ∀ (x1 : Int32) (x2 : Int32) (x3 : Int32), m_Sea_greatestLevelBut_L4 v_Tra v_Sea nn x1 x2 x3 = some out → J_Sea_greatestLevelBut p l e s m args below meth c D cI cL cZ A (O_Sea_greatestLevelBut cI cL cZ o_Tra o_Tal o_Sea o_Sto o_Ass a_Tra_0 a_Tra_1 a_Tra_2 a_Tra_3 a_Sea_0 a_Sea_1 a_Sea_2 v_Tra v_Sea out) 0 0 (w_Tra cI cL cZ o_Tra o_Tal a_Tra_0 a_Tra_1 a_Tra_2 a_Tra_3 v_Tra ++ w_Sea cI cL cZ o_Sea o_Sto o_Tra o_Tal o_Ass a_Sea_0 a_Sea_1 a_Sea_2 v_Sea) 0 0 4 [(0, .ref o_Sea), (1, .int x1), (2, .int x2), (3, .int x3)] [] := by
  intro nn
  induction nn with
  | zero => intro x1 x2 x3 hm; exact absurd hm (by simp [m_Sea_greatestLevelBut_L4])
  | succ nn ih4 =>
    intro x1 x2 x3 hm
    unfold m_Sea_greatestLevelBut_L4 at hm
    refine aj_iload_n X d_Sea_greatestLevelBut_4 3 rfl ?_
    refine aj_aload_n X d_Sea_greatestLevelBut_5 0 rfl ?_
    refine aj_get X d_Sea_greatestLevelBut_6 in_Sea 5 rfl rfl 2 (by decide) lf_Sea_9 rfl ?_
    refine aj_icmp_ge X 46 d_Sea_greatestLevelBut_9 (by decide) (fun h => ?_) (fun h => ?_)
    · have hm := ite_t hm h
      refine aj_iload_n X d_Sea_greatestLevelBut_46 2 rfl ?_
      have ho := Option.some.inj hm
      subst ho
      exact aj_iret X d_Sea_greatestLevelBut_47 hr hlk [0, 1, 2, 3, 4, 5, 6, 7, 8] (w_Tra cI cL cZ o_Tra o_Tal a_Tra_0 a_Tra_1 a_Tra_2 a_Tra_3 v_Tra ++ w_Sea cI cL cZ o_Sea o_Sto o_Tra o_Tal o_Ass a_Sea_0 a_Sea_1 a_Sea_2 v_Sea) rfl rfl ⟨rfl, rfl⟩
    · have hm := ite_f hm h
      refine aj_aload_n X d_Sea_greatestLevelBut_12 0 rfl ?_
      refine aj_get X d_Sea_greatestLevelBut_13 in_Sea 5 rfl rfl 7 (by decide) lf_Sea_31 rfl ?_
      refine aj_iload_n X d_Sea_greatestLevelBut_16 3 rfl ?_
      obtain ⟨b3, hm⟩ := chk_of hm
      refine aj_iald X d_Sea_greatestLevelBut_17 6 0 rfl rfl b3 ?_
      refine aj_iconst (v := (1 : Int32)) X d_Sea_greatestLevelBut_18 (by decide) ?_
      refine aj_icmp_ne X 40 d_Sea_greatestLevelBut_19 (by decide) (fun h => ?_) (fun h => ?_)
      · have hm := ite_f hm h
        exact c_Sea_greatestLevelBut_B40 o_Tra o_Tal o_Sea o_Sto o_Ass a_Tra_0 a_Tra_1 a_Tra_2 a_Tra_3 a_Sea_0 a_Sea_1 a_Sea_2 v_Tra v_Sea out X N hr hlk (m_Sea_greatestLevelBut_L4 v_Tra v_Sea nn) ih4 x1 x2 x3 hm
      · have hm := ite_t hm h
        refine aj_iload_n X d_Sea_greatestLevelBut_22 3 rfl ?_
        refine aj_iload_n X d_Sea_greatestLevelBut_23 1 rfl ?_
        refine aj_icmp_eq X 40 d_Sea_greatestLevelBut_24 (by decide) (fun h => ?_) (fun h => ?_)
        · have hm := ite_t hm h
          exact c_Sea_greatestLevelBut_B40 o_Tra o_Tal o_Sea o_Sto o_Ass a_Tra_0 a_Tra_1 a_Tra_2 a_Tra_3 a_Sea_0 a_Sea_1 a_Sea_2 v_Tra v_Sea out X N hr hlk (m_Sea_greatestLevelBut_L4 v_Tra v_Sea nn) ih4 x1 x2 x3 hm
        · have hm := ite_f hm h
          refine aj_iload_n X d_Sea_greatestLevelBut_27 2 rfl ?_
          refine aj_aload_n X d_Sea_greatestLevelBut_28 0 rfl ?_
          refine aj_get X d_Sea_greatestLevelBut_29 in_Sea 5 rfl rfl 4 (by decide) lf_Sea_19 rfl ?_
          refine aj_iload_n X d_Sea_greatestLevelBut_32 3 rfl ?_
          obtain ⟨r4, h5, hm⟩ := bnd_of hm
          refine aj_callI (wr := [(o_Sea, .inr (2, [.int v_Sea.1, .long v_Sea.2.1, .int v_Sea.2.2.1, .ref o_Sto, .ref o_Tra, .ref o_Tal, .ref o_Ass, .ref a_Sea_0, .ref a_Sea_1, .int v_Sea.2.2.2.2.2.1, .ref a_Sea_2, .long v_Sea.2.2.2.2.2.2.2])), (a_Sea_0, .inl (cI, v_Sea.2.2.2.1.1, .inl v_Sea.2.2.2.1.2)), (a_Sea_1, .inl (cI, v_Sea.2.2.2.2.1.1, .inl v_Sea.2.2.2.2.1.2)), (a_Sea_2, .inl (cI, v_Sea.2.2.2.2.2.2.1.1, .inl v_Sea.2.2.2.2.2.2.1.2))]) X (aj_rV (As := [.int x3]) (rest := [.int x2]) X N gTB (c_Tra_levelOf (D := D) (cI := cI) (cL := cL) (cZ := cZ) o_Tra o_Tal a_Tra_0 a_Tra_1 a_Tra_2 a_Tra_3 v_Tra x3 r4 h5) d_Sea_greatestLevelBut_33 lk_Tra_levelOf lw_Sea_181 lh_Tra_levelOf ⟨(Nat.le_of_ble_eq_true rfl), (Nat.le_of_ble_eq_true rfl)⟩ [0, 1, 2, 3, 4] rfl rfl 0 rfl rfl rfl rfl (Nat.le_of_ble_eq_true rfl) ⟨Nat.le_refl _, Nat.le_refl _⟩) [0, 1, 2, 3, 4] [5, 6, 7, 8] rfl rfl rfl (by decide) (fun rr w1 hO => ?_)
          obtain ⟨rfl, rfl⟩ := hO
          refine aj_perm (ws' := w_Tra cI cL cZ o_Tra o_Tal a_Tra_0 a_Tra_1 a_Tra_2 a_Tra_3 v_Tra ++ w_Sea cI cL cZ o_Sea o_Sto o_Tra o_Tal o_Ass a_Sea_0 a_Sea_1 a_Sea_2 v_Sea) [4, 5, 6, 7, 8, 0, 1, 2, 3] rfl rfl ?_
          refine aj_mmax X d_Sea_greatestLevelBut_36 lm_Sea_197.1 lm_Sea_197.2.1 lm_Sea_197.2.2.1 lm_Sea_197.2.2.2 (Nat.le_of_ble_eq_true rfl) (Nat.le_of_ble_eq_true rfl) (Nat.zero_le _) (Nat.zero_le _) ?_
          refine aj_istore_n (lv' := [(2, .int (if x2 < r4 then r4 else x2)), (0, .ref o_Sea), (1, .int x1), (3, .int x3)]) X d_Sea_greatestLevelBut_39 rfl (by decide) rfl ?_
          refine aj_lv (lv' := [(0, .ref o_Sea), (1, .int x1), (2, .int (if x2 < r4 then r4 else x2)), (3, .int x3)]) [1, 2, 0, 3] rfl ?_
          exact c_Sea_greatestLevelBut_B40 o_Tra o_Tal o_Sea o_Sto o_Ass a_Tra_0 a_Tra_1 a_Tra_2 a_Tra_3 a_Sea_0 a_Sea_1 a_Sea_2 v_Tra v_Sea out X N hr hlk (m_Sea_greatestLevelBut_L4 v_Tra v_Sea nn) ih4 x1 (if x2 < r4 then r4 else x2) x3 hm
def m_Sea_greatestLevelBut (v_Tra : T_Tra) (v_Sea : T_Sea) (x1 : Int32) : Option (Int32) := (m_Sea_greatestLevelBut_L4 v_Tra v_Sea fu x1 (0 : Int32) (0 : Int32))
set_option maxRecDepth 100000 in
set_option maxHeartbeats 4000000 in
theorem c_Sea_greatestLevelBut {l : Launch} {D : va_G} {cI cL cZ : ClassId} (o_Tra o_Tal o_Sea o_Sto o_Ass a_Tra_0 a_Tra_1 a_Tra_2 a_Tra_3 a_Sea_0 a_Sea_1 a_Sea_2 : Nat) (v_Tra : T_Tra) (v_Sea : T_Sea) (x1 : Int32) (out : Int32) (hm : m_Sea_greatestLevelBut v_Tra v_Sea x1 = some out) : ct l y_Sea_greatestLevelBut (Cond.code y_Sea_greatestLevelBut b_Sea_greatestLevelBut 4 (some .int) :: TB) 1 21 D clss (ty3 cI cL cZ) NM0 NF0 [.ref o_Sea, .int x1] (w_Tra cI cL cZ o_Tra o_Tal a_Tra_0 a_Tra_1 a_Tra_2 a_Tra_3 v_Tra ++ w_Sea cI cL cZ o_Sea o_Sto o_Tra o_Tal o_Ass a_Sea_0 a_Sea_1 a_Sea_2 v_Sea) (qI D clss (ty3 cI cL cZ) (O_Sea_greatestLevelBut cI cL cZ o_Tra o_Tal o_Sea o_Sto o_Ass a_Tra_0 a_Tra_1 a_Tra_2 a_Tra_3 a_Sea_0 a_Sea_1 a_Sea_2 v_Tra v_Sea out)) 0 0 := by
  refine ct_of (plainFor_of_name (by decide)) (Nat.le_of_ble_eq_true rfl) (fun p e s m args below meth c A X N hr hlk hnm => ?_)
  refine aj_lv (lv' := [(0, .ref o_Sea), (1, .int x1)]) [0, 1] rfl ?_
  unfold m_Sea_greatestLevelBut at hm
  refine aj_iconst (v := (0 : Int32)) X d_Sea_greatestLevelBut_0 (by decide) ?_
  refine aj_istore_n (lv' := [(2, .int (0 : Int32)), (0, .ref o_Sea), (1, .int x1)]) X d_Sea_greatestLevelBut_1 rfl (by decide) rfl ?_
  refine aj_iconst (v := (0 : Int32)) X d_Sea_greatestLevelBut_2 (by decide) ?_
  refine aj_istore_n (lv' := [(3, .int (0 : Int32)), (2, .int (0 : Int32)), (0, .ref o_Sea), (1, .int x1)]) X d_Sea_greatestLevelBut_3 rfl (by decide) rfl ?_
  refine aj_lv (lv' := [(0, .ref o_Sea), (1, .int x1), (2, .int (0 : Int32)), (3, .int (0 : Int32))]) [2, 3, 1, 0] rfl ?_
  exact c_Sea_greatestLevelBut_L4 o_Tra o_Tal o_Sea o_Sto o_Ass a_Tra_0 a_Tra_1 a_Tra_2 a_Tra_3 a_Sea_0 a_Sea_1 a_Sea_2 v_Tra v_Sea out X N hr hlk fu x1 (0 : Int32) (0 : Int32) hm
abbrev X_Tal_move (p : Program) (s : State) (m : MethodId) (args : Array Value) (c : Code) (D : va_G) (cI cL cZ : ClassId) (A : Nat → Prop) : Prop := aj_C p s m args c D clss (ty3 cI cL cZ) A b_Tal_move 6 R_Tal TB
abbrev J_Tal_move (p : Program) (l : Launch) (e : Env) (s : State) (m : MethodId) (args : Array Value) (below : List Frame) (meth : Method) (c : Code) (D : va_G) (cI cL cZ : ClassId) (A : Nat → Prop) (O : va_W → Prop) (mc ms : Nat) (ws : va_W) (kc ks pc : Nat) (lv : List (Nat × Value)) (st : List Value) : Prop := aj p l e { frames := 1, cells := mc, slots := ms, locals := 25 } s m args below meth c (MQ below (qV D clss (ty3 cI cL cZ) O A) args s mc ms A) D clss A 6 ws kc ks pc lv st
def O_Tal_move (cI cL cZ : ClassId) (o_Sto o_Tal a_Sto_0 a_Sto_1 a_Sto_2 a_Sto_3 a_Sto_4 a_Tal_0 a_Tal_1 a_Tal_2 a_Tal_3 : Nat) (v_Sto : T_Sto) (out : T_Tal) : va_W → Prop := fun w1 => w1 = w_Sto cI cL cZ o_Sto a_Sto_0 a_Sto_1 a_Sto_2 a_Sto_3 a_Sto_4 v_Sto ++ w_Tal cI cL cZ o_Tal o_Sto a_Tal_0 a_Tal_1 a_Tal_2 a_Tal_3 out
def m_Tal_move_L88 (v_Sto : T_Sto) : Nat → T_Tal → Int32 → Int32 → Int32 → Option (T_Tal)
  | 0, _, _, _, _ => none
  | f + 1, v_Tal, x2, x3, x4 => (if v_Sto.2.1 ≤ x4 then (some v_Tal) else (if x3 < 0 then (some v_Tal) else (if ¬ (x3 < 0 ∨ v_Sto.2.2.2.1.1 ≤ (x3).toNatClampNeg) then (if ¬ ((v_Sto.2.2.2.1.2 (x3).toNatClampNeg) < 0 ∨ v_Tal.2.2.2.1 ≤ ((v_Sto.2.2.2.1.2 (x3).toNatClampNeg)).toNatClampNeg) then (if ¬ ((v_Sto.2.2.2.1.2 (x3).toNatClampNeg) < 0 ∨ v_Tal.2.2.2.1 ≤ ((v_Sto.2.2.2.1.2 (x3).toNatClampNeg)).toNatClampNeg) then ((m_Tal_judge (v_Tal.1, v_Tal.2.1, v_Tal.2.2.1, (v_Tal.2.2.2.1, (upd v_Tal.2.2.2.2 ((v_Sto.2.2.2.1.2 (x3).toNatClampNeg)).toNatClampNeg ((v_Tal.2.2.2.2 ((v_Sto.2.2.2.1.2 (x3).toNatClampNeg)).toNatClampNeg) - x2)))) (v_Sto.2.2.2.1.2 (x3).toNatClampNeg)).bind fun r8 => (if ¬ (x3 < 0 ∨ v_Sto.2.2.2.2.1.1 ≤ (x3).toNatClampNeg) then ((m_Tal_move_L88 v_Sto f) r8 x2 (v_Sto.2.2.2.2.1.2 (x3).toNatClampNeg) (x4 + 1)) else none)) else none) else none) else none)))
set_option maxRecDepth 100000 in
set_option maxHeartbeats 4000000 in
theorem c_Tal_move_L88 {l : Launch} {D : va_G} {cI cL cZ : ClassId} {p : Program} {e : Env} {s : State} {m : MethodId} {args : Array Value} {below : List Frame} {meth : Method} {c : Code} {A : Nat → Prop} (o_Sto o_Tal a_Sto_0 a_Sto_1 a_Sto_2 a_Sto_3 a_Sto_4 a_Tal_0 a_Tal_1 a_Tal_2 a_Tal_3 : Nat) (v_Sto : T_Sto) (out : T_Tal) (X : X_Tal_move p s m args c D cI cL cZ A) (N : nk NM0 NF0 s) (hr : meth.sig.returnType = none) (hlk : meth.locks = false) : ∀ (nn : Nat), ∀ (v_Tal : T_Tal) (x2 : Int32) (x3 : Int32) (x4 : Int32), m_Tal_move_L88 v_Sto nn v_Tal x2 x3 x4 = some out → J_Tal_move p l e s m args below meth c D cI cL cZ A (O_Tal_move cI cL cZ o_Sto o_Tal a_Sto_0 a_Sto_1 a_Sto_2 a_Sto_3 a_Sto_4 a_Tal_0 a_Tal_1 a_Tal_2 a_Tal_3 v_Sto out) 0 0 (w_Sto cI cL cZ o_Sto a_Sto_0 a_Sto_1 a_Sto_2 a_Sto_3 a_Sto_4 v_Sto ++ w_Tal cI cL cZ o_Tal o_Sto a_Tal_0 a_Tal_1 a_Tal_2 a_Tal_3 v_Tal) 0 0 88 [(0, .ref o_Tal), (2, .int x2), (3, .int x3), (4, .int x4)] [] := by
  intro nn
  induction nn with
  | zero => intro v_Tal x2 x3 x4 hm; exact absurd hm (by simp [m_Tal_move_L88])
  | succ nn ih88 =>
    intro v_Tal x2 x3 x4 hm
    unfold m_Tal_move_L88 at hm
    refine aj_iload X d_Tal_move_88 3 rfl ?_
    refine aj_aload_n X d_Tal_move_90 0 rfl ?_
    refine aj_get X d_Tal_move_91 in_Tal 6 rfl rfl 0 (by decide) lf_Tal_9 rfl ?_
    refine aj_get X d_Tal_move_94 in_Sto 0 rfl rfl 1 (by decide) lf_Tal_49 rfl ?_
    refine aj_icmp_ge X 148 d_Tal_move_97 (by decide) (fun h => ?_) (fun h => ?_)
    · have hm := ite_t hm h
      have ho := Option.some.inj hm
      subst ho
      exact aj_vret X d_Tal_move_148 hr hlk [0, 1, 2, 3, 4, 5, 6, 7, 8, 9, 10] (w_Sto cI cL cZ o_Sto a_Sto_0 a_Sto_1 a_Sto_2 a_Sto_3 a_Sto_4 v_Sto ++ w_Tal cI cL cZ o_Tal o_Sto a_Tal_0 a_Tal_1 a_Tal_2 a_Tal_3 v_Tal) rfl rfl rfl
    · have hm := ite_f hm h
      refine aj_iload_n X d_Tal_move_100 2 rfl ?_
      refine aj_if_lt X 148 d_Tal_move_101 (by decide) (fun h => ?_) (fun h => ?_)
      · have hm := ite_t hm h
        have ho := Option.some.inj hm
        subst ho
        exact aj_vret X d_Tal_move_148 hr hlk [0, 1, 2, 3, 4, 5, 6, 7, 8, 9, 10] (w_Sto cI cL cZ o_Sto a_Sto_0 a_Sto_1 a_Sto_2 a_Sto_3 a_Sto_4 v_Sto ++ w_Tal cI cL cZ o_Tal o_Sto a_Tal_0 a_Tal_1 a_Tal_2 a_Tal_3 v_Tal) rfl rfl rfl
      · have hm := ite_f hm h
        refine aj_aload_n X d_Tal_move_104 0 rfl ?_
        refine aj_get X d_Tal_move_105 in_Tal 6 rfl rfl 0 (by decide) lf_Tal_9 rfl ?_
        refine aj_get X d_Tal_move_108 in_Sto 0 rfl rfl 3 (by decide) lf_Tal_52 rfl ?_
        refine aj_iload_n X d_Tal_move_111 2 rfl ?_
        obtain ⟨b5, hm⟩ := chk_of hm
        refine aj_iald X d_Tal_move_112 2 0 rfl rfl b5 ?_
        refine aj_istore (lv' := [(5, .int (v_Sto.2.2.2.1.2 (x3).toNatClampNeg)), (0, .ref o_Tal), (2, .int x2), (3, .int x3), (4, .int x4)]) X d_Tal_move_113 (by decide) rfl ?_
        refine aj_aload_n X d_Tal_move_115 1 rfl ?_
        refine aj_get X d_Tal_move_116 in_Tal 6 rfl rfl 4 (by decide) lf_Tal_26 rfl ?_
        refine aj_iload X d_Tal_move_119 0 rfl ?_
        refine aj_dup2_11 X d_Tal_move_121 rfl rfl ?_
        obtain ⟨b6, hm⟩ := chk_of hm
        refine aj_iald X d_Tal_move_122 10 0 rfl rfl b6 ?_
        refine aj_iload_n X d_Tal_move_123 2 rfl ?_
        refine aj_isub X d_Tal_move_124 ?_
        obtain ⟨b7, hm⟩ := chk_of hm
        refine aj_iast (ws' := w_Sto cI cL cZ o_Sto a_Sto_0 a_Sto_1 a_Sto_2 a_Sto_3 a_Sto_4 v_Sto ++ w_Tal cI cL cZ o_Tal o_Sto a_Tal_0 a_Tal_1 a_Tal_2 a_Tal_3 (v_Tal.1, v_Tal.2.1, v_Tal.2.2.1, (v_Tal.2.2.2.1, (upd v_Tal.2.2.2.2 ((v_Sto.2.2.2.1.2 (x3).toNatClampNeg)).toNatClampNeg ((v_Tal.2.2.2.2 ((v_Sto.2.2.2.1.2 (x3).toNatClampNeg)).toNatClampNeg) - x2))))) X d_Tal_move_125 10 0 rfl rfl b7 rfl ?_
        refine aj_aload_n X d_Tal_move_126 1 rfl ?_
        refine aj_iload X d_Tal_move_127 0 rfl ?_
        obtain ⟨r8, h9, hm⟩ := bnd_of hm
        refine aj_callV (wr := [(o_Sto, .inr (3, [.int v_Sto.1, .int v_Sto.2.1, .ref a_Sto_0, .ref a_Sto_1, .ref a_Sto_2, .ref a_Sto_3, .ref a_Sto_4])), (a_Sto_0, .inl (cI, v_Sto.2.2.1.1, .inl v_Sto.2.2.1.2)), (a_Sto_1, .inl (cI, v_Sto.2.2.2.1.1, .inl v_Sto.2.2.2.1.2)), (a_Sto_2, .inl (cI, v_Sto.2.2.2.2.1.1, .inl v_Sto.2.2.2.2.1.2)), (a_Sto_3, .inl (cI, v_Sto.2.2.2.2.2.1.1, .inl v_Sto.2.2.2.2.2.1.2)), (a_Sto_4, .inl (cI, v_Sto.2.2.2.2.2.2.1, .inl v_Sto.2.2.2.2.2.2.2))]) X (aj_rV (As := [.int (v_Sto.2.2.2.1.2 (x3).toNatClampNeg)]) (rest := []) X N gTB (c_Tal_judge (D := D) (cI := cI) (cL := cL) (cZ := cZ) o_Tal o_Sto a_Tal_0 a_Tal_1 a_Tal_2 a_Tal_3 (v_Tal.1, v_Tal.2.1, v_Tal.2.2.1, (v_Tal.2.2.2.1, (upd v_Tal.2.2.2.2 ((v_Sto.2.2.2.1.2 (x3).toNatClampNeg)).toNatClampNeg ((v_Tal.2.2.2.2 ((v_Sto.2.2.2.1.2 (x3).toNatClampNeg)).toNatClampNeg) - x2)))) (v_Sto.2.2.2.1.2 (x3).toNatClampNeg) r8 h9) d_Tal_move_129 lk_Tal_judge lw_Tal_42 lh_Tal_judge ⟨(Nat.le_of_ble_eq_true rfl), (Nat.le_of_ble_eq_true rfl)⟩ [6, 7, 8, 9, 10] rfl rfl 0 rfl rfl rfl rfl (Nat.le_of_ble_eq_true rfl) ⟨Nat.le_refl _, Nat.le_refl _⟩) [6, 7, 8, 9, 10] [0, 1, 2, 3, 4, 5] rfl rfl rfl (by decide) (fun w1 hO => ?_)
        obtain rfl := hO
        refine aj_perm (ws' := w_Sto cI cL cZ o_Sto a_Sto_0 a_Sto_1 a_Sto_2 a_Sto_3 a_Sto_4 v_Sto ++ w_Tal cI cL cZ o_Tal o_Sto a_Tal_0 a_Tal_1 a_Tal_2 a_Tal_3 r8) [0, 1, 2, 3, 4, 5, 6, 7, 8, 9, 10] rfl rfl ?_
        refine aj_aload_n X d_Tal_move_132 1 rfl ?_
        refine aj_get X d_Tal_move_133 in_Tal 6 rfl rfl 0 (by decide) lf_Tal_9 rfl ?_
        refine aj_get X d_Tal_move_136 in_Sto 0 rfl rfl 4 (by decide) lf_Tal_55 rfl ?_
        refine aj_iload_n X d_Tal_move_139 3 rfl ?_
        obtain ⟨b10, hm⟩ := chk_of hm
        refine aj_iald X d_Tal_move_140 3 0 rfl rfl b10 ?_
        refine aj_istore_n (lv' := [(3, .int (v_Sto.2.2.2.2.1.2 (x3).toNatClampNeg)), (5, .int (v_Sto.2.2.2.1.2 (x3).toNatClampNeg)), (0, .ref o_Tal), (2, .int x2), (4, .int x4)]) X d_Tal_move_141 rfl (by decide) rfl ?_
        refine aj_iinc (v := (x4 + 1)) (lv' := [(4, .int (x4 + 1)), (3, .int (v_Sto.2.2.2.2.1.2 (x3).toNatClampNeg)), (5, .int (v_Sto.2.2.2.1.2 (x3).toNatClampNeg)), (0, .ref o_Tal), (2, .int x2)]) X d_Tal_move_142 4 rfl rfl (by decide) rfl ?_
        refine aj_goto X 88 d_Tal_move_145 (by decide) ?_
        refine aj_lv (lv' := [(0, .ref o_Tal), (2, .int x2), (3, .int (v_Sto.2.2.2.2.1.2 (x3).toNatClampNeg)), (4, .int (x4 + 1))]) [3, 4, 1, 0] rfl ?_
        exact ih88 r8 x2 (v_Sto.2.2.2.2.1.2 (x3).toNatClampNeg) (x4 + 1) hm
def m_Tal_move_B73 (v_Sto : T_Sto) (v_Tal : T_Tal) (x1 : Int32) (x2 : Int32) : Option (T_Tal) := (if ¬ ((x1 ^^^ (1 : Int32)) < 0 ∨ v_Sto.2.2.2.2.2.1.1 ≤ ((x1 ^^^ (1 : Int32))).toNatClampNeg) then (m_Tal_move_L88 v_Sto fu v_Tal x2 (v_Sto.2.2.2.2.2.1.2 ((x1 ^^^ (1 : Int32))).toNatClampNeg) (0 : Int32)) else none)
set_option maxRecDepth 100000 in
set_option maxHeartbeats 4000000 in
theorem c_Tal_move_B73 {l : Launch} {D : va_G} {cI cL cZ : ClassId} {p : Program} {e : Env} {s : State} {m : MethodId} {args : Array Value} {below : List Frame} {meth : Method} {c : Code} {A : Nat → Prop} (o_Sto o_Tal a_Sto_0 a_Sto_1 a_Sto_2 a_Sto_3 a_Sto_4 a_Tal_0 a_Tal_1 a_Tal_2 a_Tal_3 : Nat) (v_Sto : T_Sto) (out : T_Tal) (X : X_Tal_move p s m args c D cI cL cZ A) (N : nk NM0 NF0 s) (hr : meth.sig.returnType = none) (hlk : meth.locks = false) : ∀ (v_Tal : T_Tal) (x1 : Int32) (x2 : Int32), m_Tal_move_B73 v_Sto v_Tal x1 x2 = some out → J_Tal_move p l e s m args below meth c D cI cL cZ A (O_Tal_move cI cL cZ o_Sto o_Tal a_Sto_0 a_Sto_1 a_Sto_2 a_Sto_3 a_Sto_4 a_Tal_0 a_Tal_1 a_Tal_2 a_Tal_3 v_Sto out) 0 0 (w_Sto cI cL cZ o_Sto a_Sto_0 a_Sto_1 a_Sto_2 a_Sto_3 a_Sto_4 v_Sto ++ w_Tal cI cL cZ o_Tal o_Sto a_Tal_0 a_Tal_1 a_Tal_2 a_Tal_3 v_Tal) 0 0 73 [(0, .ref o_Tal), (1, .int x1), (2, .int x2)] [] := by
  intro v_Tal x1 x2 hm
  unfold m_Tal_move_B73 at hm
  refine aj_aload_n X d_Tal_move_73 0 rfl ?_
  refine aj_get X d_Tal_move_74 in_Tal 6 rfl rfl 0 (by decide) lf_Tal_9 rfl ?_
  refine aj_get X d_Tal_move_77 in_Sto 0 rfl rfl 5 (by decide) lf_Tal_46 rfl ?_
  refine aj_iload_n X d_Tal_move_80 1 rfl ?_
  refine aj_iconst (v := (1 : Int32)) X d_Tal_move_81 (by decide) ?_
  refine aj_ixor X d_Tal_move_82 ?_
  obtain ⟨b11, hm⟩ := chk_of hm
  refine aj_iald X d_Tal_move_83 4 0 rfl rfl b11 ?_
  refine aj_istore_n (lv' := [(3, .int (v_Sto.2.2.2.2.2.1.2 ((x1 ^^^ (1 : Int32))).toNatClampNeg)), (0, .ref o_Tal), (1, .int x1), (2, .int x2)]) X d_Tal_move_84 rfl (by decide) rfl ?_
  refine aj_iconst (v := (0 : Int32)) X d_Tal_move_85 (by decide) ?_
  refine aj_istore (lv' := [(4, .int (0 : Int32)), (3, .int (v_Sto.2.2.2.2.2.1.2 ((x1 ^^^ (1 : Int32))).toNatClampNeg)), (0, .ref o_Tal), (1, .int x1), (2, .int x2)]) X d_Tal_move_86 (by decide) rfl ?_
  refine aj_lv (lv' := [(0, .ref o_Tal), (2, .int x2), (3, .int (v_Sto.2.2.2.2.2.1.2 ((x1 ^^^ (1 : Int32))).toNatClampNeg)), (4, .int (0 : Int32))]) [2, 4, 1, 0] rfl ?_
  exact c_Tal_move_L88 o_Sto o_Tal a_Sto_0 a_Sto_1 a_Sto_2 a_Sto_3 a_Sto_4 a_Tal_0 a_Tal_1 a_Tal_2 a_Tal_3 v_Sto out X N hr hlk fu v_Tal x2 (v_Sto.2.2.2.2.2.1.2 ((x1 ^^^ (1 : Int32))).toNatClampNeg) (0 : Int32) hm
def m_Tal_move_L13 (v_Sto : T_Sto) : Nat → T_Tal → Int32 → Int32 → Int32 → Int32 → Option (T_Tal)
  | 0, _, _, _, _, _ => none
  | f + 1, v_Tal, x1, x2, x3, x4 => (if v_Sto.2.1 ≤ x4 then (m_Tal_move_B73 v_Sto v_Tal x1 x2) else (if x3 < 0 then (m_Tal_move_B73 v_Sto v_Tal x1 x2) else (if ¬ (x3 < 0 ∨ v_Sto.2.2.2.1.1 ≤ (x3).toNatClampNeg) then (if ¬ ((v_Sto.2.2.2.1.2 (x3).toNatClampNeg) < 0 ∨ v_Tal.2.2.1.1 ≤ ((v_Sto.2.2.2.1.2 (x3).toNatClampNeg)).toNatClampNeg) then (if ¬ ((v_Sto.2.2.2.1.2 (x3).toNatClampNeg) < 0 ∨ v_Tal.2.2.1.1 ≤ ((v_Sto.2.2.2.1.2 (x3).toNatClampNeg)).toNatClampNeg) then ((m_Tal_judge (v_Tal.1, v_Tal.2.1, (v_Tal.2.2.1.1, (upd v_Tal.2.2.1.2 ((v_Sto.2.2.2.1.2 (x3).toNatClampNeg)).toNatClampNeg ((v_Tal.2.2.1.2 ((v_Sto.2.2.2.1.2 (x3).toNatClampNeg)).toNatClampNeg) + x2))), v_Tal.2.2.2) (v_Sto.2.2.2.1.2 (x3).toNatClampNeg)).bind fun r15 => (if ¬ (x3 < 0 ∨ v_Sto.2.2.2.2.1.1 ≤ (x3).toNatClampNeg) then ((m_Tal_move_L13 v_Sto f) r15 x1 x2 (v_Sto.2.2.2.2.1.2 (x3).toNatClampNeg) (x4 + 1)) else none)) else none) else none) else none)))
set_option maxRecDepth 100000 in
set_option maxHeartbeats 4000000 in
theorem c_Tal_move_L13 {l : Launch} {D : va_G} {cI cL cZ : ClassId} {p : Program} {e : Env} {s : State} {m : MethodId} {args : Array Value} {below : List Frame} {meth : Method} {c : Code} {A : Nat → Prop} (o_Sto o_Tal a_Sto_0 a_Sto_1 a_Sto_2 a_Sto_3 a_Sto_4 a_Tal_0 a_Tal_1 a_Tal_2 a_Tal_3 : Nat) (v_Sto : T_Sto) (out : T_Tal) (X : X_Tal_move p s m args c D cI cL cZ A) (N : nk NM0 NF0 s) (hr : meth.sig.returnType = none) (hlk : meth.locks = false) : ∀ (nn : Nat), ∀ (v_Tal : T_Tal) (x1 : Int32) (x2 : Int32) (x3 : Int32) (x4 : Int32), m_Tal_move_L13 v_Sto nn v_Tal x1 x2 x3 x4 = some out → J_Tal_move p l e s m args below meth c D cI cL cZ A (O_Tal_move cI cL cZ o_Sto o_Tal a_Sto_0 a_Sto_1 a_Sto_2 a_Sto_3 a_Sto_4 a_Tal_0 a_Tal_1 a_Tal_2 a_Tal_3 v_Sto out) 0 0 (w_Sto cI cL cZ o_Sto a_Sto_0 a_Sto_1 a_Sto_2 a_Sto_3 a_Sto_4 v_Sto ++ w_Tal cI cL cZ o_Tal o_Sto a_Tal_0 a_Tal_1 a_Tal_2 a_Tal_3 v_Tal) 0 0 13 [(0, .ref o_Tal), (1, .int x1), (2, .int x2), (3, .int x3), (4, .int x4)] [] := by
  intro nn
  induction nn with
  | zero => intro v_Tal x1 x2 x3 x4 hm; exact absurd hm (by simp [m_Tal_move_L13])
  | succ nn ih13 =>
    intro v_Tal x1 x2 x3 x4 hm
    unfold m_Tal_move_L13 at hm
    refine aj_iload X d_Tal_move_13 4 rfl ?_
    refine aj_aload_n X d_Tal_move_15 0 rfl ?_
    refine aj_get X d_Tal_move_16 in_Tal 6 rfl rfl 0 (by decide) lf_Tal_9 rfl ?_
    refine aj_get X d_Tal_move_19 in_Sto 0 rfl rfl 1 (by decide) lf_Tal_49 rfl ?_
    refine aj_icmp_ge X 73 d_Tal_move_22 (by decide) (fun h => ?_) (fun h => ?_)
    · have hm := ite_t hm h
      refine aj_lv (lv' := [(0, .ref o_Tal), (1, .int x1), (2, .int x2)]) [0, 1, 2] rfl ?_
      exact c_Tal_move_B73 o_Sto o_Tal a_Sto_0 a_Sto_1 a_Sto_2 a_Sto_3 a_Sto_4 a_Tal_0 a_Tal_1 a_Tal_2 a_Tal_3 v_Sto out X N hr hlk v_Tal x1 x2 hm
    · have hm := ite_f hm h
      refine aj_iload_n X d_Tal_move_25 3 rfl ?_
      refine aj_if_lt X 73 d_Tal_move_26 (by decide) (fun h => ?_) (fun h => ?_)
      · have hm := ite_t hm h
        refine aj_lv (lv' := [(0, .ref o_Tal), (1, .int x1), (2, .int x2)]) [0, 1, 2] rfl ?_
        exact c_Tal_move_B73 o_Sto o_Tal a_Sto_0 a_Sto_1 a_Sto_2 a_Sto_3 a_Sto_4 a_Tal_0 a_Tal_1 a_Tal_2 a_Tal_3 v_Sto out X N hr hlk v_Tal x1 x2 hm
      · have hm := ite_f hm h
        refine aj_aload_n X d_Tal_move_29 0 rfl ?_
        refine aj_get X d_Tal_move_30 in_Tal 6 rfl rfl 0 (by decide) lf_Tal_9 rfl ?_
        refine aj_get X d_Tal_move_33 in_Sto 0 rfl rfl 3 (by decide) lf_Tal_52 rfl ?_
        refine aj_iload_n X d_Tal_move_36 3 rfl ?_
        obtain ⟨b12, hm⟩ := chk_of hm
        refine aj_iald X d_Tal_move_37 2 0 rfl rfl b12 ?_
        refine aj_istore (lv' := [(5, .int (v_Sto.2.2.2.1.2 (x3).toNatClampNeg)), (0, .ref o_Tal), (1, .int x1), (2, .int x2), (3, .int x3), (4, .int x4)]) X d_Tal_move_38 (by decide) rfl ?_
        refine aj_aload_n X d_Tal_move_40 1 rfl ?_
        refine aj_get X d_Tal_move_41 in_Tal 6 rfl rfl 3 (by decide) lf_Tal_22 rfl ?_
        refine aj_iload X d_Tal_move_44 0 rfl ?_
        refine aj_dup2_11 X d_Tal_move_46 rfl rfl ?_
        obtain ⟨b13, hm⟩ := chk_of hm
        refine aj_iald X d_Tal_move_47 9 0 rfl rfl b13 ?_
        refine aj_iload_n X d_Tal_move_48 3 rfl ?_
        refine aj_iadd X d_Tal_move_49 ?_
        obtain ⟨b14, hm⟩ := chk_of hm
        refine aj_iast (ws' := w_Sto cI cL cZ o_Sto a_Sto_0 a_Sto_1 a_Sto_2 a_Sto_3 a_Sto_4 v_Sto ++ w_Tal cI cL cZ o_Tal o_Sto a_Tal_0 a_Tal_1 a_Tal_2 a_Tal_3 (v_Tal.1, v_Tal.2.1, (v_Tal.2.2.1.1, (upd v_Tal.2.2.1.2 ((v_Sto.2.2.2.1.2 (x3).toNatClampNeg)).toNatClampNeg ((v_Tal.2.2.1.2 ((v_Sto.2.2.2.1.2 (x3).toNatClampNeg)).toNatClampNeg) + x2))), v_Tal.2.2.2)) X d_Tal_move_50 9 0 rfl rfl b14 rfl ?_
        refine aj_aload_n X d_Tal_move_51 1 rfl ?_
        refine aj_iload X d_Tal_move_52 0 rfl ?_
        obtain ⟨r15, h16, hm⟩ := bnd_of hm
        refine aj_callV (wr := [(o_Sto, .inr (3, [.int v_Sto.1, .int v_Sto.2.1, .ref a_Sto_0, .ref a_Sto_1, .ref a_Sto_2, .ref a_Sto_3, .ref a_Sto_4])), (a_Sto_0, .inl (cI, v_Sto.2.2.1.1, .inl v_Sto.2.2.1.2)), (a_Sto_1, .inl (cI, v_Sto.2.2.2.1.1, .inl v_Sto.2.2.2.1.2)), (a_Sto_2, .inl (cI, v_Sto.2.2.2.2.1.1, .inl v_Sto.2.2.2.2.1.2)), (a_Sto_3, .inl (cI, v_Sto.2.2.2.2.2.1.1, .inl v_Sto.2.2.2.2.2.1.2)), (a_Sto_4, .inl (cI, v_Sto.2.2.2.2.2.2.1, .inl v_Sto.2.2.2.2.2.2.2))]) X (aj_rV (As := [.int (v_Sto.2.2.2.1.2 (x3).toNatClampNeg)]) (rest := []) X N gTB (c_Tal_judge (D := D) (cI := cI) (cL := cL) (cZ := cZ) o_Tal o_Sto a_Tal_0 a_Tal_1 a_Tal_2 a_Tal_3 (v_Tal.1, v_Tal.2.1, (v_Tal.2.2.1.1, (upd v_Tal.2.2.1.2 ((v_Sto.2.2.2.1.2 (x3).toNatClampNeg)).toNatClampNeg ((v_Tal.2.2.1.2 ((v_Sto.2.2.2.1.2 (x3).toNatClampNeg)).toNatClampNeg) + x2))), v_Tal.2.2.2) (v_Sto.2.2.2.1.2 (x3).toNatClampNeg) r15 h16) d_Tal_move_54 lk_Tal_judge lw_Tal_42 lh_Tal_judge ⟨(Nat.le_of_ble_eq_true rfl), (Nat.le_of_ble_eq_true rfl)⟩ [6, 7, 8, 9, 10] rfl rfl 0 rfl rfl rfl rfl (Nat.le_of_ble_eq_true rfl) ⟨Nat.le_refl _, Nat.le_refl _⟩) [6, 7, 8, 9, 10] [0, 1, 2, 3, 4, 5] rfl rfl rfl (by decide) (fun w1 hO => ?_)
        obtain rfl := hO
        refine aj_perm (ws' := w_Sto cI cL cZ o_Sto a_Sto_0 a_Sto_1 a_Sto_2 a_Sto_3 a_Sto_4 v_Sto ++ w_Tal cI cL cZ o_Tal o_Sto a_Tal_0 a_Tal_1 a_Tal_2 a_Tal_3 r15) [0, 1, 2, 3, 4, 5, 6, 7, 8, 9, 10] rfl rfl ?_
        refine aj_aload_n X d_Tal_move_57 1 rfl ?_
        refine aj_get X d_Tal_move_58 in_Tal 6 rfl rfl 0 (by decide) lf_Tal_9 rfl ?_
        refine aj_get X d_Tal_move_61 in_Sto 0 rfl rfl 4 (by decide) lf_Tal_55 rfl ?_
        refine aj_iload_n X d_Tal_move_64 4 rfl ?_
        obtain ⟨b17, hm⟩ := chk_of hm
        refine aj_iald X d_Tal_move_65 3 0 rfl rfl b17 ?_
        refine aj_istore_n (lv' := [(3, .int (v_Sto.2.2.2.2.1.2 (x3).toNatClampNeg)), (5, .int (v_Sto.2.2.2.1.2 (x3).toNatClampNeg)), (0, .ref o_Tal), (1, .int x1), (2, .int x2), (4, .int x4)]) X d_Tal_move_66 rfl (by decide) rfl ?_
        refine aj_iinc (v := (x4 + 1)) (lv' := [(4, .int (x4 + 1)), (3, .int (v_Sto.2.2.2.2.1.2 (x3).toNatClampNeg)), (5, .int (v_Sto.2.2.2.1.2 (x3).toNatClampNeg)), (0, .ref o_Tal), (1, .int x1), (2, .int x2)]) X d_Tal_move_67 5 rfl rfl (by decide) rfl ?_
        refine aj_goto X 13 d_Tal_move_70 (by decide) ?_
        refine aj_lv (lv' := [(0, .ref o_Tal), (1, .int x1), (2, .int x2), (3, .int (v_Sto.2.2.2.2.1.2 (x3).toNatClampNeg)), (4, .int (x4 + 1))]) [3, 4, 5, 1, 0] rfl ?_
        exact ih13 r15 x1 x2 (v_Sto.2.2.2.2.1.2 (x3).toNatClampNeg) (x4 + 1) hm
def m_Tal_move (v_Sto : T_Sto) (v_Tal : T_Tal) (x1 : Int32) (x2 : Int32) : Option (T_Tal) := (if ¬ (x1 < 0 ∨ v_Sto.2.2.2.2.2.1.1 ≤ (x1).toNatClampNeg) then (m_Tal_move_L13 v_Sto fu v_Tal x1 x2 (v_Sto.2.2.2.2.2.1.2 (x1).toNatClampNeg) (0 : Int32)) else none)
set_option maxRecDepth 100000 in
set_option maxHeartbeats 4000000 in
theorem c_Tal_move {l : Launch} {D : va_G} {cI cL cZ : ClassId} (o_Sto o_Tal a_Sto_0 a_Sto_1 a_Sto_2 a_Sto_3 a_Sto_4 a_Tal_0 a_Tal_1 a_Tal_2 a_Tal_3 : Nat) (v_Sto : T_Sto) (v_Tal : T_Tal) (x1 : Int32) (x2 : Int32) (out : T_Tal) (hm : m_Tal_move v_Sto v_Tal x1 x2 = some out) : ct l y_Tal_move (Cond.code y_Tal_move b_Tal_move 6 none :: TB) 1 25 D clss (ty3 cI cL cZ) NM0 NF0 [.ref o_Tal, .int x1, .int x2] (w_Sto cI cL cZ o_Sto a_Sto_0 a_Sto_1 a_Sto_2 a_Sto_3 a_Sto_4 v_Sto ++ w_Tal cI cL cZ o_Tal o_Sto a_Tal_0 a_Tal_1 a_Tal_2 a_Tal_3 v_Tal) (qV D clss (ty3 cI cL cZ) (O_Tal_move cI cL cZ o_Sto o_Tal a_Sto_0 a_Sto_1 a_Sto_2 a_Sto_3 a_Sto_4 a_Tal_0 a_Tal_1 a_Tal_2 a_Tal_3 v_Sto out)) 0 0 := by
  refine ct_of (plainFor_of_name (by decide)) (Nat.le_of_ble_eq_true rfl) (fun p e s m args below meth c A X N hr hlk hnm => ?_)
  refine aj_lv (lv' := [(0, .ref o_Tal), (1, .int x1), (2, .int x2)]) [0, 1, 2] rfl ?_
  unfold m_Tal_move at hm
  refine aj_aload_n X d_Tal_move_0 0 rfl ?_
  refine aj_get X d_Tal_move_1 in_Tal 6 rfl rfl 0 (by decide) lf_Tal_9 rfl ?_
  refine aj_get X d_Tal_move_4 in_Sto 0 rfl rfl 5 (by decide) lf_Tal_46 rfl ?_
  refine aj_iload_n X d_Tal_move_7 1 rfl ?_
  obtain ⟨b18, hm⟩ := chk_of hm
  refine aj_iald X d_Tal_move_8 4 0 rfl rfl b18 ?_
  refine aj_istore_n (lv' := [(3, .int (v_Sto.2.2.2.2.2.1.2 (x1).toNatClampNeg)), (0, .ref o_Tal), (1, .int x1), (2, .int x2)]) X d_Tal_move_9 rfl (by decide) rfl ?_
  refine aj_iconst (v := (0 : Int32)) X d_Tal_move_10 (by decide) ?_
  refine aj_istore (lv' := [(4, .int (0 : Int32)), (3, .int (v_Sto.2.2.2.2.2.1.2 (x1).toNatClampNeg)), (0, .ref o_Tal), (1, .int x1), (2, .int x2)]) X d_Tal_move_11 (by decide) rfl ?_
  refine aj_lv (lv' := [(0, .ref o_Tal), (1, .int x1), (2, .int x2), (3, .int (v_Sto.2.2.2.2.2.1.2 (x1).toNatClampNeg)), (4, .int (0 : Int32))]) [2, 3, 4, 1, 0] rfl ?_
  exact c_Tal_move_L13 o_Sto o_Tal a_Sto_0 a_Sto_1 a_Sto_2 a_Sto_3 a_Sto_4 a_Tal_0 a_Tal_1 a_Tal_2 a_Tal_3 v_Sto out X N hr hlk fu v_Tal x1 x2 (v_Sto.2.2.2.2.2.1.2 (x1).toNatClampNeg) (0 : Int32) hm
abbrev X_Tra_cutAbove (p : Program) (s : State) (m : MethodId) (args : Array Value) (c : Code) (D : va_G) (cI cL cZ : ClassId) (A : Nat → Prop) : Prop := aj_C p s m args c D clss (ty3 cI cL cZ) A b_Tra_cutAbove 3 R_Tra TB
abbrev J_Tra_cutAbove (p : Program) (l : Launch) (e : Env) (s : State) (m : MethodId) (args : Array Value) (below : List Frame) (meth : Method) (c : Code) (D : va_G) (cI cL cZ : ClassId) (A : Nat → Prop) (O : va_W → Prop) (mc ms : Nat) (ws : va_W) (kc ks pc : Nat) (lv : List (Nat × Value)) (st : List Value) : Prop := aj p l e { frames := 2, cells := mc, slots := ms, locals := 50 } s m args below meth c (MQ below (qV D clss (ty3 cI cL cZ) O A) args s mc ms A) D clss A 3 ws kc ks pc lv st
def O_Tra_cutAbove (cI cL cZ : ClassId) (o_Sto o_Tal o_Tra a_Sto_0 a_Sto_1 a_Sto_2 a_Sto_3 a_Sto_4 a_Tal_0 a_Tal_1 a_Tal_2 a_Tal_3 a_Tra_0 a_Tra_1 a_Tra_2 a_Tra_3 : Nat) (v_Sto : T_Sto) (out : T_Tal × T_Tra) : va_W → Prop := fun w1 => w1 = w_Sto cI cL cZ o_Sto a_Sto_0 a_Sto_1 a_Sto_2 a_Sto_3 a_Sto_4 v_Sto ++ w_Tal cI cL cZ o_Tal o_Sto a_Tal_0 a_Tal_1 a_Tal_2 a_Tal_3 out.1 ++ w_Tra cI cL cZ o_Tra o_Tal a_Tra_0 a_Tra_1 a_Tra_2 a_Tra_3 out.2
def m_Tra_cutAbove_B67 (v_Sto : T_Sto) (v_Tal : T_Tal) (v_Tra : T_Tra) (x1 : Int32) : Option (T_Tal × T_Tra) := (some (v_Tal, (v_Tra.1, x1, v_Tra.2.2.1, v_Tra.2.2.2.1, v_Tra.2.2.2.2.1, v_Tra.2.2.2.2.2)))
set_option maxRecDepth 100000 in
set_option maxHeartbeats 4000000 in
theorem c_Tra_cutAbove_B67 {l : Launch} {D : va_G} {cI cL cZ : ClassId} {p : Program} {e : Env} {s : State} {m : MethodId} {args : Array Value} {below : List Frame} {meth : Method} {c : Code} {A : Nat → Prop} (o_Sto o_Tal o_Tra a_Sto_0 a_Sto_1 a_Sto_2 a_Sto_3 a_Sto_4 a_Tal_0 a_Tal_1 a_Tal_2 a_Tal_3 a_Tra_0 a_Tra_1 a_Tra_2 a_Tra_3 : Nat) (v_Sto : T_Sto) (out : T_Tal × T_Tra) (X : X_Tra_cutAbove p s m args c D cI cL cZ A) (N : nk NM0 NF0 s) (hr : meth.sig.returnType = none) (hlk : meth.locks = false) : ∀ (v_Tal : T_Tal) (v_Tra : T_Tra) (x1 : Int32), m_Tra_cutAbove_B67 v_Sto v_Tal v_Tra x1 = some out → J_Tra_cutAbove p l e s m args below meth c D cI cL cZ A (O_Tra_cutAbove cI cL cZ o_Sto o_Tal o_Tra a_Sto_0 a_Sto_1 a_Sto_2 a_Sto_3 a_Sto_4 a_Tal_0 a_Tal_1 a_Tal_2 a_Tal_3 a_Tra_0 a_Tra_1 a_Tra_2 a_Tra_3 v_Sto out) 0 0 (w_Sto cI cL cZ o_Sto a_Sto_0 a_Sto_1 a_Sto_2 a_Sto_3 a_Sto_4 v_Sto ++ w_Tal cI cL cZ o_Tal o_Sto a_Tal_0 a_Tal_1 a_Tal_2 a_Tal_3 v_Tal ++ w_Tra cI cL cZ o_Tra o_Tal a_Tra_0 a_Tra_1 a_Tra_2 a_Tra_3 v_Tra) 0 0 67 [(0, .ref o_Tra), (1, .int x1)] [] := by
  intro v_Tal v_Tra x1 hm
  unfold m_Tra_cutAbove_B67 at hm
  refine aj_aload_n X d_Tra_cutAbove_67 0 rfl ?_
  refine aj_iload_n X d_Tra_cutAbove_68 1 rfl ?_
  refine aj_put (ws' := w_Sto cI cL cZ o_Sto a_Sto_0 a_Sto_1 a_Sto_2 a_Sto_3 a_Sto_4 v_Sto ++ w_Tal cI cL cZ o_Tal o_Sto a_Tal_0 a_Tal_1 a_Tal_2 a_Tal_3 v_Tal ++ w_Tra cI cL cZ o_Tra o_Tal a_Tra_0 a_Tra_1 a_Tra_2 a_Tra_3 (v_Tra.1, x1, v_Tra.2.2.1, v_Tra.2.2.2.1, v_Tra.2.2.2.2.1, v_Tra.2.2.2.2.2)) X d_Tra_cutAbove_69 in_Tra ty_Tra tyok_Tra nmx_Tra 11 rfl rfl 1 (by decide) lf_Tra_19 rfl rfl rfl (Nat.le_of_ble_eq_true rfl) rfl ?_
  have ho := Option.some.inj hm
  subst ho
  exact aj_vret X d_Tra_cutAbove_72 hr hlk [0, 1, 2, 3, 4, 5, 6, 7, 8, 9, 10, 11, 12, 13, 14, 15] (w_Sto cI cL cZ o_Sto a_Sto_0 a_Sto_1 a_Sto_2 a_Sto_3 a_Sto_4 v_Sto ++ w_Tal cI cL cZ o_Tal o_Sto a_Tal_0 a_Tal_1 a_Tal_2 a_Tal_3 v_Tal ++ w_Tra cI cL cZ o_Tra o_Tal a_Tra_0 a_Tra_1 a_Tra_2 a_Tra_3 (v_Tra.1, x1, v_Tra.2.2.1, v_Tra.2.2.2.1, v_Tra.2.2.2.2.1, v_Tra.2.2.2.2.2)) rfl rfl rfl
def m_Tra_cutAbove_L7 (v_Sto : T_Sto) : Nat → T_Tal → T_Tra → Int32 → Int32 → Option (T_Tal × T_Tra)
  | 0, _, _, _, _ => none
  | f + 1, v_Tal, v_Tra, x1, x2 => (if x2 < 0 then (m_Tra_cutAbove_B67 v_Sto v_Tal v_Tra x1) else (if ¬ (x2 < 0 ∨ v_Tra.2.2.1.1 ≤ (x2).toNatClampNeg) then (if ¬ (((v_Tra.2.2.1.2 (x2).toNatClampNeg) >>> ((1 : Int32) &&& 31)) < 0 ∨ v_Tra.2.2.2.2.1.1 ≤ (((v_Tra.2.2.1.2 (x2).toNatClampNeg) >>> ((1 : Int32) &&& 31))).toNatClampNeg) then (if (v_Tra.2.2.2.2.1.2 (((v_Tra.2.2.1.2 (x2).toNatClampNeg) >>> ((1 : Int32) &&& 31))).toNatClampNeg) ≤ x1 then (m_Tra_cutAbove_B67 v_Sto v_Tal v_Tra x1) else (if ¬ (x2 < 0 ∨ v_Tra.2.2.1.1 ≤ (x2).toNatClampNeg) then (if ¬ (((v_Tra.2.2.1.2 (x2).toNatClampNeg) >>> ((1 : Int32) &&& 31)) < 0 ∨ v_Tra.2.2.2.1.1 ≤ (((v_Tra.2.2.1.2 (x2).toNatClampNeg) >>> ((1 : Int32) &&& 31))).toNatClampNeg) then (if ¬ (x2 < 0 ∨ v_Tra.2.2.1.1 ≤ (x2).toNatClampNeg) then ((m_Tal_move v_Sto v_Tal (v_Tra.2.2.1.2 (x2).toNatClampNeg) (-1 : Int32)).bind fun r8 => ((m_Tra_cutAbove_L7 v_Sto f) r8 (x2, v_Tra.2.1, v_Tra.2.2.1, (v_Tra.2.2.2.1.1, (upd v_Tra.2.2.2.1.2 (((v_Tra.2.2.1.2 (x2).toNatClampNeg) >>> ((1 : Int32) &&& 31))).toNatClampNeg (-1 : Int32))), v_Tra.2.2.2.2.1, v_Tra.2.2.2.2.2) x1 (x2 + (-1)))) else none) else none) else none)) else none) else none))
set_option maxRecDepth 100000 in
set_option maxHeartbeats 4000000 in
theorem c_Tra_cutAbove_L7 {l : Launch} {D : va_G} {cI cL cZ : ClassId} {p : Program} {e : Env} {s : State} {m : MethodId} {args : Array Value} {below : List Frame} {meth : Method} {c : Code} {A : Nat → Prop} (o_Sto o_Tal o_Tra a_Sto_0 a_Sto_1 a_Sto_2 a_Sto_3 a_Sto_4 a_Tal_0 a_Tal_1 a_Tal_2 a_Tal_3 a_Tra_0 a_Tra_1 a_Tra_2 a_Tra_3 : Nat) (v_Sto : T_Sto) (out : T_Tal × T_Tra) (X : X_Tra_cutAbove p s m args c D cI cL cZ A) (N : nk NM0 NF0 s) (hr : meth.sig.returnType = none) (hlk : meth.locks = false) : ∀ (nn : Nat), ∀ (v_Tal : T_Tal) (v_Tra : T_Tra) (x1 : Int32) (x2 : Int32), m_Tra_cutAbove_L7 v_Sto nn v_Tal v_Tra x1 x2 = some out → J_Tra_cutAbove p l e s m args below meth c D cI cL cZ A (O_Tra_cutAbove cI cL cZ o_Sto o_Tal o_Tra a_Sto_0 a_Sto_1 a_Sto_2 a_Sto_3 a_Sto_4 a_Tal_0 a_Tal_1 a_Tal_2 a_Tal_3 a_Tra_0 a_Tra_1 a_Tra_2 a_Tra_3 v_Sto out) 0 0 (w_Sto cI cL cZ o_Sto a_Sto_0 a_Sto_1 a_Sto_2 a_Sto_3 a_Sto_4 v_Sto ++ w_Tal cI cL cZ o_Tal o_Sto a_Tal_0 a_Tal_1 a_Tal_2 a_Tal_3 v_Tal ++ w_Tra cI cL cZ o_Tra o_Tal a_Tra_0 a_Tra_1 a_Tra_2 a_Tra_3 v_Tra) 0 0 7 [(0, .ref o_Tra), (1, .int x1), (2, .int x2)] [] := by
  intro nn
  induction nn with
  | zero => intro v_Tal v_Tra x1 x2 hm; exact absurd hm (by simp [m_Tra_cutAbove_L7])
  | succ nn ih7 =>
    intro v_Tal v_Tra x1 x2 hm
    unfold m_Tra_cutAbove_L7 at hm
    refine aj_iload_n X d_Tra_cutAbove_7 2 rfl ?_
    refine aj_if_lt X 67 d_Tra_cutAbove_8 (by decide) (fun h => ?_) (fun h => ?_)
    · have hm := ite_t hm h
      refine aj_lv (lv' := [(0, .ref o_Tra), (1, .int x1)]) [0, 1] rfl ?_
      exact c_Tra_cutAbove_B67 o_Sto o_Tal o_Tra a_Sto_0 a_Sto_1 a_Sto_2 a_Sto_3 a_Sto_4 a_Tal_0 a_Tal_1 a_Tal_2 a_Tal_3 a_Tra_0 a_Tra_1 a_Tra_2 a_Tra_3 v_Sto out X N hr hlk v_Tal v_Tra x1 hm
    · have hm := ite_f hm h
      refine aj_aload_n X d_Tra_cutAbove_11 0 rfl ?_
      refine aj_get X d_Tra_cutAbove_12 in_Tra 11 rfl rfl 5 (by decide) lf_Tra_29 rfl ?_
      refine aj_aload_n X d_Tra_cutAbove_15 0 rfl ?_
      refine aj_get X d_Tra_cutAbove_16 in_Tra 11 rfl rfl 2 (by decide) lf_Tra_22 rfl ?_
      refine aj_iload_n X d_Tra_cutAbove_19 2 rfl ?_
      obtain ⟨b3, hm⟩ := chk_of hm
      refine aj_iald X d_Tra_cutAbove_20 12 0 rfl rfl b3 ?_
      refine aj_iconst (v := (1 : Int32)) X d_Tra_cutAbove_21 (by decide) ?_
      refine aj_ishr X d_Tra_cutAbove_22 ?_
      obtain ⟨b4, hm⟩ := chk_of hm
      refine aj_iald X d_Tra_cutAbove_23 14 0 rfl rfl b4 ?_
      refine aj_iload_n X d_Tra_cutAbove_24 1 rfl ?_
      refine aj_icmp_le X 67 d_Tra_cutAbove_25 (by decide) (fun h => ?_) (fun h => ?_)
      · have hm := ite_t hm h
        refine aj_lv (lv' := [(0, .ref o_Tra), (1, .int x1)]) [0, 1] rfl ?_
        exact c_Tra_cutAbove_B67 o_Sto o_Tal o_Tra a_Sto_0 a_Sto_1 a_Sto_2 a_Sto_3 a_Sto_4 a_Tal_0 a_Tal_1 a_Tal_2 a_Tal_3 a_Tra_0 a_Tra_1 a_Tra_2 a_Tra_3 v_Sto out X N hr hlk v_Tal v_Tra x1 hm
      · have hm := ite_f hm h
        refine aj_aload_n X d_Tra_cutAbove_28 0 rfl ?_
        refine aj_get X d_Tra_cutAbove_29 in_Tra 11 rfl rfl 4 (by decide) lf_Tra_26 rfl ?_
        refine aj_aload_n X d_Tra_cutAbove_32 0 rfl ?_
        refine aj_get X d_Tra_cutAbove_33 in_Tra 11 rfl rfl 2 (by decide) lf_Tra_22 rfl ?_
        refine aj_iload_n X d_Tra_cutAbove_36 2 rfl ?_
        obtain ⟨b5, hm⟩ := chk_of hm
        refine aj_iald X d_Tra_cutAbove_37 12 0 rfl rfl b5 ?_
        refine aj_iconst (v := (1 : Int32)) X d_Tra_cutAbove_38 (by decide) ?_
        refine aj_ishr X d_Tra_cutAbove_39 ?_
        refine aj_iconst (v := (-1 : Int32)) X d_Tra_cutAbove_40 (by decide) ?_
        obtain ⟨b6, hm⟩ := chk_of hm
        refine aj_iast (ws' := w_Sto cI cL cZ o_Sto a_Sto_0 a_Sto_1 a_Sto_2 a_Sto_3 a_Sto_4 v_Sto ++ w_Tal cI cL cZ o_Tal o_Sto a_Tal_0 a_Tal_1 a_Tal_2 a_Tal_3 v_Tal ++ w_Tra cI cL cZ o_Tra o_Tal a_Tra_0 a_Tra_1 a_Tra_2 a_Tra_3 (v_Tra.1, v_Tra.2.1, v_Tra.2.2.1, (v_Tra.2.2.2.1.1, (upd v_Tra.2.2.2.1.2 (((v_Tra.2.2.1.2 (x2).toNatClampNeg) >>> ((1 : Int32) &&& 31))).toNatClampNeg (-1 : Int32))), v_Tra.2.2.2.2.1, v_Tra.2.2.2.2.2)) X d_Tra_cutAbove_41 13 0 rfl rfl b6 rfl ?_
        refine aj_aload_n X d_Tra_cutAbove_42 0 rfl ?_
        refine aj_get X d_Tra_cutAbove_43 in_Tra 11 rfl rfl 3 (by decide) lf_Tra_9 rfl ?_
        refine aj_aload_n X d_Tra_cutAbove_46 0 rfl ?_
        refine aj_get X d_Tra_cutAbove_47 in_Tra 11 rfl rfl 2 (by decide) lf_Tra_22 rfl ?_
        refine aj_iload_n X d_Tra_cutAbove_50 2 rfl ?_
        obtain ⟨b7, hm⟩ := chk_of hm
        refine aj_iald X d_Tra_cutAbove_51 12 0 rfl rfl b7 ?_
        refine aj_iconst (v := (-1 : Int32)) X d_Tra_cutAbove_52 (by decide) ?_
        obtain ⟨r8, h9, hm⟩ := bnd_of hm
        refine aj_callV (wr := [(o_Tra, .inr (5, [.int v_Tra.1, .int v_Tra.2.1, .ref a_Tra_0, .ref o_Tal, .ref a_Tra_1, .ref a_Tra_2, .ref a_Tra_3])), (a_Tra_0, .inl (cI, v_Tra.2.2.1.1, .inl v_Tra.2.2.1.2)), (a_Tra_1, .inl (cI, v_Tra.2.2.2.1.1, .inl (upd v_Tra.2.2.2.1.2 (((v_Tra.2.2.1.2 (x2).toNatClampNeg) >>> ((1 : Int32) &&& 31))).toNatClampNeg (-1 : Int32)))), (a_Tra_2, .inl (cI, v_Tra.2.2.2.2.1.1, .inl v_Tra.2.2.2.2.1.2)), (a_Tra_3, .inl (cI, v_Tra.2.2.2.2.2.1, .inl v_Tra.2.2.2.2.2.2))]) X (aj_rV (As := [.int (v_Tra.2.2.1.2 (x2).toNatClampNeg), .int (-1 : Int32)]) (rest := []) X N gTB (c_Tal_move (D := D) (cI := cI) (cL := cL) (cZ := cZ) o_Sto o_Tal a_Sto_0 a_Sto_1 a_Sto_2 a_Sto_3 a_Sto_4 a_Tal_0 a_Tal_1 a_Tal_2 a_Tal_3 v_Sto v_Tal (v_Tra.2.2.1.2 (x2).toNatClampNeg) (-1 : Int32) r8 h9) d_Tra_cutAbove_53 lk_Tal_move lw_Tra_46 lh_Tal_move ⟨(Nat.le_of_ble_eq_true rfl), (Nat.le_of_ble_eq_true rfl)⟩ [0, 1, 2, 3, 4, 5, 6, 7, 8, 9, 10] rfl rfl 6 rfl rfl rfl rfl (Nat.le_of_ble_eq_true rfl) ⟨Nat.le_refl _, Nat.le_refl _⟩) [0, 1, 2, 3, 4, 5, 6, 7, 8, 9, 10] [11, 12, 13, 14, 15] rfl rfl rfl (by decide) (fun w1 hO => ?_)
        obtain rfl := hO
        refine aj_perm (ws' := w_Sto cI cL cZ o_Sto a_Sto_0 a_Sto_1 a_Sto_2 a_Sto_3 a_Sto_4 v_Sto ++ w_Tal cI cL cZ o_Tal o_Sto a_Tal_0 a_Tal_1 a_Tal_2 a_Tal_3 r8 ++ w_Tra cI cL cZ o_Tra o_Tal a_Tra_0 a_Tra_1 a_Tra_2 a_Tra_3 (v_Tra.1, v_Tra.2.1, v_Tra.2.2.1, (v_Tra.2.2.2.1.1, (upd v_Tra.2.2.2.1.2 (((v_Tra.2.2.1.2 (x2).toNatClampNeg) >>> ((1 : Int32) &&& 31))).toNatClampNeg (-1 : Int32))), v_Tra.2.2.2.2.1, v_Tra.2.2.2.2.2)) [5, 6, 7, 8, 9, 10, 11, 12, 13, 14, 15, 0, 1, 2, 3, 4] rfl rfl ?_
        refine aj_aload_n X d_Tra_cutAbove_56 0 rfl ?_
        refine aj_iload_n X d_Tra_cutAbove_57 2 rfl ?_
        refine aj_put (ws' := w_Sto cI cL cZ o_Sto a_Sto_0 a_Sto_1 a_Sto_2 a_Sto_3 a_Sto_4 v_Sto ++ w_Tal cI cL cZ o_Tal o_Sto a_Tal_0 a_Tal_1 a_Tal_2 a_Tal_3 r8 ++ w_Tra cI cL cZ o_Tra o_Tal a_Tra_0 a_Tra_1 a_Tra_2 a_Tra_3 (x2, v_Tra.2.1, v_Tra.2.2.1, (v_Tra.2.2.2.1.1, (upd v_Tra.2.2.2.1.2 (((v_Tra.2.2.1.2 (x2).toNatClampNeg) >>> ((1 : Int32) &&& 31))).toNatClampNeg (-1 : Int32))), v_Tra.2.2.2.2.1, v_Tra.2.2.2.2.2)) X d_Tra_cutAbove_58 in_Tra ty_Tra tyok_Tra nmx_Tra 11 rfl rfl 0 (by decide) lf_Tra_15 rfl rfl rfl (Nat.le_of_ble_eq_true rfl) rfl ?_
        refine aj_iinc (v := (x2 + (-1))) (lv' := [(2, .int (x2 + (-1))), (0, .ref o_Tra), (1, .int x1)]) X d_Tra_cutAbove_61 2 rfl rfl (by decide) rfl ?_
        refine aj_goto X 7 d_Tra_cutAbove_64 (by decide) ?_
        refine aj_lv (lv' := [(0, .ref o_Tra), (1, .int x1), (2, .int (x2 + (-1)))]) [1, 2, 0] rfl ?_
        exact ih7 r8 (x2, v_Tra.2.1, v_Tra.2.2.1, (v_Tra.2.2.2.1.1, (upd v_Tra.2.2.2.1.2 (((v_Tra.2.2.1.2 (x2).toNatClampNeg) >>> ((1 : Int32) &&& 31))).toNatClampNeg (-1 : Int32))), v_Tra.2.2.2.2.1, v_Tra.2.2.2.2.2) x1 (x2 + (-1)) hm
def m_Tra_cutAbove (v_Sto : T_Sto) (v_Tal : T_Tal) (v_Tra : T_Tra) (x1 : Int32) : Option (T_Tal × T_Tra) := (m_Tra_cutAbove_L7 v_Sto fu v_Tal v_Tra x1 (v_Tra.1 - (1 : Int32)))
set_option maxRecDepth 100000 in
set_option maxHeartbeats 4000000 in
theorem c_Tra_cutAbove {l : Launch} {D : va_G} {cI cL cZ : ClassId} (o_Sto o_Tal o_Tra a_Sto_0 a_Sto_1 a_Sto_2 a_Sto_3 a_Sto_4 a_Tal_0 a_Tal_1 a_Tal_2 a_Tal_3 a_Tra_0 a_Tra_1 a_Tra_2 a_Tra_3 : Nat) (v_Sto : T_Sto) (v_Tal : T_Tal) (v_Tra : T_Tra) (x1 : Int32) (out : T_Tal × T_Tra) (hm : m_Tra_cutAbove v_Sto v_Tal v_Tra x1 = some out) : ct l y_Tra_cutAbove (Cond.code y_Tra_cutAbove b_Tra_cutAbove 3 none :: TB) 2 50 D clss (ty3 cI cL cZ) NM0 NF0 [.ref o_Tra, .int x1] (w_Sto cI cL cZ o_Sto a_Sto_0 a_Sto_1 a_Sto_2 a_Sto_3 a_Sto_4 v_Sto ++ w_Tal cI cL cZ o_Tal o_Sto a_Tal_0 a_Tal_1 a_Tal_2 a_Tal_3 v_Tal ++ w_Tra cI cL cZ o_Tra o_Tal a_Tra_0 a_Tra_1 a_Tra_2 a_Tra_3 v_Tra) (qV D clss (ty3 cI cL cZ) (O_Tra_cutAbove cI cL cZ o_Sto o_Tal o_Tra a_Sto_0 a_Sto_1 a_Sto_2 a_Sto_3 a_Sto_4 a_Tal_0 a_Tal_1 a_Tal_2 a_Tal_3 a_Tra_0 a_Tra_1 a_Tra_2 a_Tra_3 v_Sto out)) 0 0 := by
  refine ct_of (plainFor_of_name (by decide)) (Nat.le_of_ble_eq_true rfl) (fun p e s m args below meth c A X N hr hlk hnm => ?_)
  refine aj_lv (lv' := [(0, .ref o_Tra), (1, .int x1)]) [0, 1] rfl ?_
  unfold m_Tra_cutAbove at hm
  refine aj_aload_n X d_Tra_cutAbove_0 0 rfl ?_
  refine aj_get X d_Tra_cutAbove_1 in_Tra 11 rfl rfl 0 (by decide) lf_Tra_15 rfl ?_
  refine aj_iconst (v := (1 : Int32)) X d_Tra_cutAbove_4 (by decide) ?_
  refine aj_isub X d_Tra_cutAbove_5 ?_
  refine aj_istore_n (lv' := [(2, .int (v_Tra.1 - (1 : Int32))), (0, .ref o_Tra), (1, .int x1)]) X d_Tra_cutAbove_6 rfl (by decide) rfl ?_
  refine aj_lv (lv' := [(0, .ref o_Tra), (1, .int x1), (2, .int (v_Tra.1 - (1 : Int32)))]) [1, 2, 0] rfl ?_
  exact c_Tra_cutAbove_L7 o_Sto o_Tal o_Tra a_Sto_0 a_Sto_1 a_Sto_2 a_Sto_3 a_Sto_4 a_Tal_0 a_Tal_1 a_Tal_2 a_Tal_3 a_Tra_0 a_Tra_1 a_Tra_2 a_Tra_3 v_Sto out X N hr hlk fu v_Tal v_Tra x1 (v_Tra.1 - (1 : Int32)) hm
