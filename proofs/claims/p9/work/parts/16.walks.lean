abbrev X_Sea_numberOfRow (p : Program) (s : State) (m : MethodId) (args : Array Value) (c : Code) (D : va_G) (cI cL cZ : ClassId) (A : Nat → Prop) : Prop := aj_C p s m args c D clss (ty3 cI cL cZ) A b_Sea_numberOfRow 2 R_Sea TB
abbrev J_Sea_numberOfRow (p : Program) (l : Launch) (e : Env) (s : State) (m : MethodId) (args : Array Value) (below : List Frame) (meth : Method) (c : Code) (D : va_G) (cI cL cZ : ClassId) (A : Nat → Prop) (O : Int32 → va_W → Prop) (mc ms : Nat) (ws : va_W) (kc ks pc : Nat) (lv : List (Nat × Value)) (st : List Value) : Prop := aj p l e { frames := 0, cells := mc, slots := ms, locals := 0 } s m args below meth c (MQ below (qI D clss (ty3 cI cL cZ) O A) args s mc ms A) D clss A 2 ws kc ks pc lv st
def O_Sea_numberOfRow (cI cL cZ : ClassId) (o_Sea o_Sto o_Tra o_Tal o_Ass a_Sea_0 a_Sea_1 a_Sea_2 : Nat) (v_Sea : T_Sea) (out : Int32) : Int32 → va_W → Prop := fun r w1 => out = r ∧ w1 = w_Sea cI cL cZ o_Sea o_Sto o_Tra o_Tal o_Ass a_Sea_0 a_Sea_1 a_Sea_2 v_Sea
def m_Sea_numberOfRow (v_Sea : T_Sea) (x1 : Int32) : Option (Int32) := (if x1 < 0 then (some (-1 : Int32)) else (if v_Sea.1 ≤ x1 then (some (-1 : Int32)) else (if ¬ (x1 < 0 ∨ v_Sea.2.2.2.2.2.2.1.1 ≤ (x1).toNatClampNeg) then (some (v_Sea.2.2.2.2.2.2.1.2 (x1).toNatClampNeg)) else none)))
set_option maxRecDepth 100000 in
set_option maxHeartbeats 4000000 in
theorem c_Sea_numberOfRow {l : Launch} {D : va_G} {cI cL cZ : ClassId} (o_Sea o_Sto o_Tra o_Tal o_Ass a_Sea_0 a_Sea_1 a_Sea_2 : Nat) (v_Sea : T_Sea) (x1 : Int32) (out : Int32) (hm : m_Sea_numberOfRow v_Sea x1 = some out) : ct l y_Sea_numberOfRow (Cond.code y_Sea_numberOfRow b_Sea_numberOfRow 2 (some .int) :: TB) 0 0 D clss (ty3 cI cL cZ) NM0 NF0 [.ref o_Sea, .int x1] (w_Sea cI cL cZ o_Sea o_Sto o_Tra o_Tal o_Ass a_Sea_0 a_Sea_1 a_Sea_2 v_Sea) (qI D clss (ty3 cI cL cZ) (O_Sea_numberOfRow cI cL cZ o_Sea o_Sto o_Tra o_Tal o_Ass a_Sea_0 a_Sea_1 a_Sea_2 v_Sea out)) 0 0 := by
  refine ct_of (plainFor_of_name (by decide)) (Nat.le_of_ble_eq_true rfl) (fun p e s m args below meth c A X N hr hlk hnm => ?_)
  refine aj_lv (lv' := [(0, .ref o_Sea), (1, .int x1)]) [0, 1] rfl ?_
  unfold m_Sea_numberOfRow at hm
  refine aj_iload_n X d_Sea_numberOfRow_0 1 rfl ?_
  refine aj_if_lt X 21 d_Sea_numberOfRow_1 (by decide) (fun h => ?_) (fun h => ?_)
  · have hm := ite_t hm h
    refine aj_iconst (v := (-1 : Int32)) X d_Sea_numberOfRow_21 (by decide) ?_
    have ho := Option.some.inj hm
    subst ho
    exact aj_iret X d_Sea_numberOfRow_22 hr hlk [0, 1, 2, 3] (w_Sea cI cL cZ o_Sea o_Sto o_Tra o_Tal o_Ass a_Sea_0 a_Sea_1 a_Sea_2 v_Sea) rfl rfl ⟨rfl, rfl⟩
  · have hm := ite_f hm h
    refine aj_iload_n X d_Sea_numberOfRow_4 1 rfl ?_
    refine aj_aload_n X d_Sea_numberOfRow_5 0 rfl ?_
    refine aj_get X d_Sea_numberOfRow_6 in_Sea 0 rfl rfl 0 (by decide) lf_Sea_44 rfl ?_
    refine aj_icmp_ge X 21 d_Sea_numberOfRow_9 (by decide) (fun h => ?_) (fun h => ?_)
    · have hm := ite_t hm h
      refine aj_iconst (v := (-1 : Int32)) X d_Sea_numberOfRow_21 (by decide) ?_
      have ho := Option.some.inj hm
      subst ho
      exact aj_iret X d_Sea_numberOfRow_22 hr hlk [0, 1, 2, 3] (w_Sea cI cL cZ o_Sea o_Sto o_Tra o_Tal o_Ass a_Sea_0 a_Sea_1 a_Sea_2 v_Sea) rfl rfl ⟨rfl, rfl⟩
    · have hm := ite_f hm h
      refine aj_aload_n X d_Sea_numberOfRow_12 0 rfl ?_
      refine aj_get X d_Sea_numberOfRow_13 in_Sea 0 rfl rfl 10 (by decide) lf_Sea_41 rfl ?_
      refine aj_iload_n X d_Sea_numberOfRow_16 1 rfl ?_
      obtain ⟨b1, hm⟩ := chk_of hm
      refine aj_iald X d_Sea_numberOfRow_17 3 0 rfl rfl b1 ?_
      refine aj_goto X 22 d_Sea_numberOfRow_18 (by decide) ?_
      have ho := Option.some.inj hm
      subst ho
      exact aj_iret X d_Sea_numberOfRow_22 hr hlk [0, 1, 2, 3] (w_Sea cI cL cZ o_Sea o_Sto o_Tra o_Tal o_Ass a_Sea_0 a_Sea_1 a_Sea_2 v_Sea) rfl rfl ⟨rfl, rfl⟩
abbrev X_CS_row (p : Program) (s : State) (m : MethodId) (args : Array Value) (c : Code) (D : va_G) (cI cL cZ : ClassId) (A : Nat → Prop) : Prop := aj_C p s m args c D clss (ty3 cI cL cZ) A b_CS_row 4 R_CS TB
abbrev J_CS_row (p : Program) (l : Launch) (e : Env) (s : State) (m : MethodId) (args : Array Value) (below : List Frame) (meth : Method) (c : Code) (D : va_G) (cI cL cZ : ClassId) (A : Nat → Prop) (O : Int32 → va_W → Prop) (mc ms : Nat) (ws : va_W) (kc ks pc : Nat) (lv : List (Nat × Value)) (st : List Value) : Prop := aj p l e { frames := 2, cells := mc, slots := ms, locals := 42 } s m args below meth c (MQ below (qI D clss (ty3 cI cL cZ) O A) args s mc ms A) D clss A 4 ws kc ks pc lv st
def O_CS_row (cI cL cZ : ClassId) (o_CS o_Sto o_Pla o_Ass o_Tra o_Sea o_Tal a_Sto_0 a_Sto_1 a_Sto_2 a_Sto_3 a_Sto_4 a_Sea_0 a_Sea_1 a_Sea_2 : Nat) (v_CS : T_CS) (v_Sto : T_Sto) (v_Sea : T_Sea) (out : Int32) : Int32 → va_W → Prop := fun r w1 => out = r ∧ w1 = w_CS cI cL cZ o_CS o_Sto o_Pla o_Ass o_Tra o_Sea v_CS ++ w_Sto cI cL cZ o_Sto a_Sto_0 a_Sto_1 a_Sto_2 a_Sto_3 a_Sto_4 v_Sto ++ w_Sea cI cL cZ o_Sea o_Sto o_Tra o_Tal o_Ass a_Sea_0 a_Sea_1 a_Sea_2 v_Sea
def m_CS_row (v_CS : T_CS) (v_Sto : T_Sto) (v_Sea : T_Sea) (x1 : Int32) (x2 : Int32) : Option (Int32) := ((m_Sea_numberOfRow v_Sea x1).bind fun r7 => (if r7 < 0 then (some (-1 : Int32)) else (if x2 < 0 then (some (-1 : Int32)) else ((m_Sto_sizeOf v_Sto r7).bind fun r9 => (if x2 < r9 then ((m_Sto_startOf v_Sto r7).bind fun r11 => (if ¬ ((r11 + x2) < 0 ∨ v_Sto.2.2.1.1 ≤ ((r11 + x2)).toNatClampNeg) then (some (v_Sto.2.2.1.2 ((r11 + x2)).toNatClampNeg)) else none)) else (some (-1 : Int32)))))))
set_option maxRecDepth 100000 in
set_option maxHeartbeats 4000000 in
theorem c_CS_row {l : Launch} {D : va_G} {cI cL cZ : ClassId} (o_CS o_Sto o_Pla o_Ass o_Tra o_Sea o_Tal a_Sto_0 a_Sto_1 a_Sto_2 a_Sto_3 a_Sto_4 a_Sea_0 a_Sea_1 a_Sea_2 : Nat) (v_CS : T_CS) (v_Sto : T_Sto) (v_Sea : T_Sea) (x1 : Int32) (x2 : Int32) (out : Int32) (hm : m_CS_row v_CS v_Sto v_Sea x1 x2 = some out) : ct l y_CS_row (Cond.code y_CS_row b_CS_row 4 (some .int) :: TB) 2 42 D clss (ty3 cI cL cZ) NM0 NF0 [.ref o_CS, .int x1, .int x2] (w_CS cI cL cZ o_CS o_Sto o_Pla o_Ass o_Tra o_Sea v_CS ++ w_Sto cI cL cZ o_Sto a_Sto_0 a_Sto_1 a_Sto_2 a_Sto_3 a_Sto_4 v_Sto ++ w_Sea cI cL cZ o_Sea o_Sto o_Tra o_Tal o_Ass a_Sea_0 a_Sea_1 a_Sea_2 v_Sea) (qI D clss (ty3 cI cL cZ) (O_CS_row cI cL cZ o_CS o_Sto o_Pla o_Ass o_Tra o_Sea o_Tal a_Sto_0 a_Sto_1 a_Sto_2 a_Sto_3 a_Sto_4 a_Sea_0 a_Sea_1 a_Sea_2 v_CS v_Sto v_Sea out)) 0 0 := by
  refine ct_of (plainFor_of_name (by decide)) (Nat.le_of_ble_eq_true rfl) (fun p e s m args below meth c A X N hr hlk hnm => ?_)
  refine aj_lv (lv' := [(0, .ref o_CS), (1, .int x1), (2, .int x2)]) [0, 1, 2] rfl ?_
  unfold m_CS_row at hm
  refine aj_aload_n X d_CS_row_0 0 rfl ?_
  refine aj_get X d_CS_row_1 in_CS 0 rfl rfl 5 (by decide) lf_CS_64 rfl ?_
  refine aj_iload_n X d_CS_row_4 1 rfl ?_
  obtain ⟨r7, h8, hm⟩ := bnd_of hm
  refine aj_callI (wr := [(o_CS, .inr (6, [.int v_CS.1, .ref o_Sto, .ref o_Pla, .ref o_Ass, .ref o_Tra, .ref o_Sea, .int v_CS.2.1, .int v_CS.2.2])), (o_Sto, .inr (3, [.int v_Sto.1, .int v_Sto.2.1, .ref a_Sto_0, .ref a_Sto_1, .ref a_Sto_2, .ref a_Sto_3, .ref a_Sto_4])), (a_Sto_0, .inl (cI, v_Sto.2.2.1.1, .inl v_Sto.2.2.1.2)), (a_Sto_1, .inl (cI, v_Sto.2.2.2.1.1, .inl v_Sto.2.2.2.1.2)), (a_Sto_2, .inl (cI, v_Sto.2.2.2.2.1.1, .inl v_Sto.2.2.2.2.1.2)), (a_Sto_3, .inl (cI, v_Sto.2.2.2.2.2.1.1, .inl v_Sto.2.2.2.2.2.1.2)), (a_Sto_4, .inl (cI, v_Sto.2.2.2.2.2.2.1, .inl v_Sto.2.2.2.2.2.2.2))]) X (aj_rV (As := [.int x1]) (rest := []) X N gTB (c_Sea_numberOfRow (D := D) (cI := cI) (cL := cL) (cZ := cZ) o_Sea o_Sto o_Tra o_Tal o_Ass a_Sea_0 a_Sea_1 a_Sea_2 v_Sea x1 r7 h8) d_CS_row_5 lk_Sea_numberOfRow lw_CS_151 lh_Sea_numberOfRow ⟨(Nat.le_of_ble_eq_true rfl), (Nat.le_of_ble_eq_true rfl)⟩ [7, 8, 9, 10] rfl rfl 0 rfl rfl rfl rfl (Nat.le_of_ble_eq_true rfl) ⟨Nat.le_refl _, Nat.le_refl _⟩) [7, 8, 9, 10] [0, 1, 2, 3, 4, 5, 6] rfl rfl rfl (by decide) (fun rr w1 hO => ?_)
  obtain ⟨rfl, rfl⟩ := hO
  refine aj_perm (ws' := w_CS cI cL cZ o_CS o_Sto o_Pla o_Ass o_Tra o_Sea v_CS ++ w_Sto cI cL cZ o_Sto a_Sto_0 a_Sto_1 a_Sto_2 a_Sto_3 a_Sto_4 v_Sto ++ w_Sea cI cL cZ o_Sea o_Sto o_Tra o_Tal o_Ass a_Sea_0 a_Sea_1 a_Sea_2 v_Sea) [0, 1, 2, 3, 4, 5, 6, 7, 8, 9, 10] rfl rfl ?_
  refine aj_istore_n (lv' := [(3, .int r7), (0, .ref o_CS), (1, .int x1), (2, .int x2)]) X d_CS_row_8 rfl (by decide) rfl ?_
  refine aj_iload_n X d_CS_row_9 0 rfl ?_
  refine aj_if_lt X 29 d_CS_row_10 (by decide) (fun h => ?_) (fun h => ?_)
  · have hm := ite_t hm h
    refine aj_iconst (v := (-1 : Int32)) X d_CS_row_29 (by decide) ?_
    have ho := Option.some.inj hm
    subst ho
    exact aj_iret X d_CS_row_30 hr hlk [0, 1, 2, 3, 4, 5, 6, 7, 8, 9, 10] (w_CS cI cL cZ o_CS o_Sto o_Pla o_Ass o_Tra o_Sea v_CS ++ w_Sto cI cL cZ o_Sto a_Sto_0 a_Sto_1 a_Sto_2 a_Sto_3 a_Sto_4 v_Sto ++ w_Sea cI cL cZ o_Sea o_Sto o_Tra o_Tal o_Ass a_Sea_0 a_Sea_1 a_Sea_2 v_Sea) rfl rfl ⟨rfl, rfl⟩
  · have hm := ite_f hm h
    refine aj_iload_n X d_CS_row_13 3 rfl ?_
    refine aj_if_lt X 29 d_CS_row_14 (by decide) (fun h => ?_) (fun h => ?_)
    · have hm := ite_t hm h
      refine aj_iconst (v := (-1 : Int32)) X d_CS_row_29 (by decide) ?_
      have ho := Option.some.inj hm
      subst ho
      exact aj_iret X d_CS_row_30 hr hlk [0, 1, 2, 3, 4, 5, 6, 7, 8, 9, 10] (w_CS cI cL cZ o_CS o_Sto o_Pla o_Ass o_Tra o_Sea v_CS ++ w_Sto cI cL cZ o_Sto a_Sto_0 a_Sto_1 a_Sto_2 a_Sto_3 a_Sto_4 v_Sto ++ w_Sea cI cL cZ o_Sea o_Sto o_Tra o_Tal o_Ass a_Sea_0 a_Sea_1 a_Sea_2 v_Sea) rfl rfl ⟨rfl, rfl⟩
    · have hm := ite_f hm h
      refine aj_iload_n X d_CS_row_17 3 rfl ?_
      refine aj_aload_n X d_CS_row_18 1 rfl ?_
      refine aj_get X d_CS_row_19 in_CS 0 rfl rfl 1 (by decide) lf_CS_27 rfl ?_
      refine aj_iload_n X d_CS_row_22 0 rfl ?_
      obtain ⟨r9, h10, hm⟩ := bnd_of hm
      refine aj_callI (wr := [(o_CS, .inr (6, [.int v_CS.1, .ref o_Sto, .ref o_Pla, .ref o_Ass, .ref o_Tra, .ref o_Sea, .int v_CS.2.1, .int v_CS.2.2])), (o_Sea, .inr (2, [.int v_Sea.1, .long v_Sea.2.1, .int v_Sea.2.2.1, .ref o_Sto, .ref o_Tra, .ref o_Tal, .ref o_Ass, .ref a_Sea_0, .ref a_Sea_1, .int v_Sea.2.2.2.2.2.1, .ref a_Sea_2, .long v_Sea.2.2.2.2.2.2.2])), (a_Sea_0, .inl (cI, v_Sea.2.2.2.1.1, .inl v_Sea.2.2.2.1.2)), (a_Sea_1, .inl (cI, v_Sea.2.2.2.2.1.1, .inl v_Sea.2.2.2.2.1.2)), (a_Sea_2, .inl (cI, v_Sea.2.2.2.2.2.2.1.1, .inl v_Sea.2.2.2.2.2.2.1.2))]) X (aj_rV (As := [.int r7]) (rest := [.int x2]) X N gTB (c_Sto_sizeOf (D := D) (cI := cI) (cL := cL) (cZ := cZ) o_Sto a_Sto_0 a_Sto_1 a_Sto_2 a_Sto_3 a_Sto_4 v_Sto r7 r9 h10) d_CS_row_23 lk_Sto_sizeOf lw_CS_93 lh_Sto_sizeOf ⟨(Nat.le_of_ble_eq_true rfl), (Nat.le_of_ble_eq_true rfl)⟩ [1, 2, 3, 4, 5, 6] rfl rfl 0 rfl rfl rfl rfl (Nat.le_of_ble_eq_true rfl) ⟨Nat.le_refl _, Nat.le_refl _⟩) [1, 2, 3, 4, 5, 6] [0, 7, 8, 9, 10] rfl rfl rfl (by decide) (fun rr w1 hO => ?_)
      obtain ⟨rfl, rfl⟩ := hO
      refine aj_perm (ws' := w_CS cI cL cZ o_CS o_Sto o_Pla o_Ass o_Tra o_Sea v_CS ++ w_Sto cI cL cZ o_Sto a_Sto_0 a_Sto_1 a_Sto_2 a_Sto_3 a_Sto_4 v_Sto ++ w_Sea cI cL cZ o_Sea o_Sto o_Tra o_Tal o_Ass a_Sea_0 a_Sea_1 a_Sea_2 v_Sea) [0, 5, 6, 7, 8, 9, 10, 1, 2, 3, 4] rfl rfl ?_
      refine aj_icmp_lt X 31 d_CS_row_26 (by decide) (fun h => ?_) (fun h => ?_)
      · have hm := ite_t hm h
        refine aj_aload_n X d_CS_row_31 1 rfl ?_
        refine aj_get X d_CS_row_32 in_CS 0 rfl rfl 1 (by decide) lf_CS_27 rfl ?_
        refine aj_get X d_CS_row_35 in_Sto 1 rfl rfl 2 (by decide) lf_CS_154 rfl ?_
        refine aj_aload_n X d_CS_row_38 1 rfl ?_
        refine aj_get X d_CS_row_39 in_CS 0 rfl rfl 1 (by decide) lf_CS_27 rfl ?_
        refine aj_iload_n X d_CS_row_42 0 rfl ?_
        obtain ⟨r11, h12, hm⟩ := bnd_of hm
        refine aj_callI (wr := [(o_CS, .inr (6, [.int v_CS.1, .ref o_Sto, .ref o_Pla, .ref o_Ass, .ref o_Tra, .ref o_Sea, .int v_CS.2.1, .int v_CS.2.2])), (o_Sea, .inr (2, [.int v_Sea.1, .long v_Sea.2.1, .int v_Sea.2.2.1, .ref o_Sto, .ref o_Tra, .ref o_Tal, .ref o_Ass, .ref a_Sea_0, .ref a_Sea_1, .int v_Sea.2.2.2.2.2.1, .ref a_Sea_2, .long v_Sea.2.2.2.2.2.2.2])), (a_Sea_0, .inl (cI, v_Sea.2.2.2.1.1, .inl v_Sea.2.2.2.1.2)), (a_Sea_1, .inl (cI, v_Sea.2.2.2.2.1.1, .inl v_Sea.2.2.2.2.1.2)), (a_Sea_2, .inl (cI, v_Sea.2.2.2.2.2.2.1.1, .inl v_Sea.2.2.2.2.2.2.1.2))]) X (aj_rV (As := [.int r7]) (rest := [.ref a_Sto_0]) X N gTB (c_Sto_startOf (D := D) (cI := cI) (cL := cL) (cZ := cZ) o_Sto a_Sto_0 a_Sto_1 a_Sto_2 a_Sto_3 a_Sto_4 v_Sto r7 r11 h12) d_CS_row_43 lk_Sto_startOf lw_CS_158 lh_Sto_startOf ⟨(Nat.le_of_ble_eq_true rfl), (Nat.le_of_ble_eq_true rfl)⟩ [1, 2, 3, 4, 5, 6] rfl rfl 0 rfl rfl rfl rfl (Nat.le_of_ble_eq_true rfl) ⟨Nat.le_refl _, Nat.le_refl _⟩) [1, 2, 3, 4, 5, 6] [0, 7, 8, 9, 10] rfl rfl rfl (by decide) (fun rr w1 hO => ?_)
        obtain ⟨rfl, rfl⟩ := hO
        refine aj_perm (ws' := w_CS cI cL cZ o_CS o_Sto o_Pla o_Ass o_Tra o_Sea v_CS ++ w_Sto cI cL cZ o_Sto a_Sto_0 a_Sto_1 a_Sto_2 a_Sto_3 a_Sto_4 v_Sto ++ w_Sea cI cL cZ o_Sea o_Sto o_Tra o_Tal o_Ass a_Sea_0 a_Sea_1 a_Sea_2 v_Sea) [0, 5, 6, 7, 8, 9, 10, 1, 2, 3, 4] rfl rfl ?_
        refine aj_iload_n X d_CS_row_46 3 rfl ?_
        refine aj_iadd X d_CS_row_47 ?_
        obtain ⟨b13, hm⟩ := chk_of hm
        refine aj_iald X d_CS_row_48 2 0 rfl rfl b13 ?_
        have ho := Option.some.inj hm
        subst ho
        exact aj_iret X d_CS_row_49 hr hlk [0, 1, 2, 3, 4, 5, 6, 7, 8, 9, 10] (w_CS cI cL cZ o_CS o_Sto o_Pla o_Ass o_Tra o_Sea v_CS ++ w_Sto cI cL cZ o_Sto a_Sto_0 a_Sto_1 a_Sto_2 a_Sto_3 a_Sto_4 v_Sto ++ w_Sea cI cL cZ o_Sea o_Sto o_Tra o_Tal o_Ass a_Sea_0 a_Sea_1 a_Sea_2 v_Sea) rfl rfl ⟨rfl, rfl⟩
      · have hm := ite_f hm h
        refine aj_iconst (v := (-1 : Int32)) X d_CS_row_29 (by decide) ?_
        have ho := Option.some.inj hm
        subst ho
        exact aj_iret X d_CS_row_30 hr hlk [0, 1, 2, 3, 4, 5, 6, 7, 8, 9, 10] (w_CS cI cL cZ o_CS o_Sto o_Pla o_Ass o_Tra o_Sea v_CS ++ w_Sto cI cL cZ o_Sto a_Sto_0 a_Sto_1 a_Sto_2 a_Sto_3 a_Sto_4 v_Sto ++ w_Sea cI cL cZ o_Sea o_Sto o_Tra o_Tal o_Ass a_Sea_0 a_Sea_1 a_Sea_2 v_Sea) rfl rfl ⟨rfl, rfl⟩
abbrev X_CS_numberOf (p : Program) (s : State) (m : MethodId) (args : Array Value) (c : Code) (D : va_G) (cI cL cZ : ClassId) (A : Nat → Prop) : Prop := aj_C p s m args c D clss (ty3 cI cL cZ) A b_CS_numberOf 2 R_CS TB
abbrev J_CS_numberOf (p : Program) (l : Launch) (e : Env) (s : State) (m : MethodId) (args : Array Value) (below : List Frame) (meth : Method) (c : Code) (D : va_G) (cI cL cZ : ClassId) (A : Nat → Prop) (O : Int32 → va_W → Prop) (mc ms : Nat) (ws : va_W) (kc ks pc : Nat) (lv : List (Nat × Value)) (st : List Value) : Prop := aj p l e { frames := 1, cells := mc, slots := ms, locals := 21 } s m args below meth c (MQ below (qI D clss (ty3 cI cL cZ) O A) args s mc ms A) D clss A 2 ws kc ks pc lv st
def O_CS_numberOf (cI cL cZ : ClassId) (o_CS o_Sto o_Pla o_Ass o_Tra o_Sea o_Tal a_Sea_0 a_Sea_1 a_Sea_2 : Nat) (v_CS : T_CS) (v_Sea : T_Sea) (out : Int32) : Int32 → va_W → Prop := fun r w1 => out = r ∧ w1 = w_CS cI cL cZ o_CS o_Sto o_Pla o_Ass o_Tra o_Sea v_CS ++ w_Sea cI cL cZ o_Sea o_Sto o_Tra o_Tal o_Ass a_Sea_0 a_Sea_1 a_Sea_2 v_Sea
def m_CS_numberOf (v_CS : T_CS) (v_Sea : T_Sea) (x1 : Int32) : Option (Int32) := ((m_Sea_numberOfRow v_Sea x1).bind fun r3 => (some r3))
set_option maxRecDepth 100000 in
set_option maxHeartbeats 4000000 in
theorem c_CS_numberOf {l : Launch} {D : va_G} {cI cL cZ : ClassId} (o_CS o_Sto o_Pla o_Ass o_Tra o_Sea o_Tal a_Sea_0 a_Sea_1 a_Sea_2 : Nat) (v_CS : T_CS) (v_Sea : T_Sea) (x1 : Int32) (out : Int32) (hm : m_CS_numberOf v_CS v_Sea x1 = some out) : ct l y_CS_numberOf (Cond.code y_CS_numberOf b_CS_numberOf 2 (some .int) :: TB) 1 21 D clss (ty3 cI cL cZ) NM0 NF0 [.ref o_CS, .int x1] (w_CS cI cL cZ o_CS o_Sto o_Pla o_Ass o_Tra o_Sea v_CS ++ w_Sea cI cL cZ o_Sea o_Sto o_Tra o_Tal o_Ass a_Sea_0 a_Sea_1 a_Sea_2 v_Sea) (qI D clss (ty3 cI cL cZ) (O_CS_numberOf cI cL cZ o_CS o_Sto o_Pla o_Ass o_Tra o_Sea o_Tal a_Sea_0 a_Sea_1 a_Sea_2 v_CS v_Sea out)) 0 0 := by
  refine ct_of (plainFor_of_name (by decide)) (Nat.le_of_ble_eq_true rfl) (fun p e s m args below meth c A X N hr hlk hnm => ?_)
  refine aj_lv (lv' := [(0, .ref o_CS), (1, .int x1)]) [0, 1] rfl ?_
  unfold m_CS_numberOf at hm
  refine aj_aload_n X d_CS_numberOf_0 0 rfl ?_
  refine aj_get X d_CS_numberOf_1 in_CS 0 rfl rfl 5 (by decide) lf_CS_64 rfl ?_
  refine aj_iload_n X d_CS_numberOf_4 1 rfl ?_
  obtain ⟨r3, h4, hm⟩ := bnd_of hm
  refine aj_callI (wr := [(o_CS, .inr (6, [.int v_CS.1, .ref o_Sto, .ref o_Pla, .ref o_Ass, .ref o_Tra, .ref o_Sea, .int v_CS.2.1, .int v_CS.2.2]))]) X (aj_rV (As := [.int x1]) (rest := []) X N gTB (c_Sea_numberOfRow (D := D) (cI := cI) (cL := cL) (cZ := cZ) o_Sea o_Sto o_Tra o_Tal o_Ass a_Sea_0 a_Sea_1 a_Sea_2 v_Sea x1 r3 h4) d_CS_numberOf_5 lk_Sea_numberOfRow lw_CS_151 lh_Sea_numberOfRow ⟨(Nat.le_of_ble_eq_true rfl), (Nat.le_of_ble_eq_true rfl)⟩ [1, 2, 3, 4] rfl rfl 0 rfl rfl rfl rfl (Nat.le_of_ble_eq_true rfl) ⟨Nat.le_refl _, Nat.le_refl _⟩) [1, 2, 3, 4] [0] rfl rfl rfl (by decide) (fun rr w1 hO => ?_)
  obtain ⟨rfl, rfl⟩ := hO
  refine aj_perm (ws' := w_CS cI cL cZ o_CS o_Sto o_Pla o_Ass o_Tra o_Sea v_CS ++ w_Sea cI cL cZ o_Sea o_Sto o_Tra o_Tal o_Ass a_Sea_0 a_Sea_1 a_Sea_2 v_Sea) [0, 1, 2, 3, 4] rfl rfl ?_
  have ho := Option.some.inj hm
  subst ho
  exact aj_iret X d_CS_numberOf_8 hr hlk [0, 1, 2, 3, 4] (w_CS cI cL cZ o_CS o_Sto o_Pla o_Ass o_Tra o_Sea v_CS ++ w_Sea cI cL cZ o_Sea o_Sto o_Tra o_Tal o_Ass a_Sea_0 a_Sea_1 a_Sea_2 v_Sea) rfl rfl ⟨rfl, rfl⟩
abbrev X_CS_used (p : Program) (s : State) (m : MethodId) (args : Array Value) (c : Code) (D : va_G) (cI cL cZ : ClassId) (A : Nat → Prop) : Prop := aj_C p s m args c D clss (ty3 cI cL cZ) A b_CS_used 1 R_CS TB
abbrev J_CS_used (p : Program) (l : Launch) (e : Env) (s : State) (m : MethodId) (args : Array Value) (below : List Frame) (meth : Method) (c : Code) (D : va_G) (cI cL cZ : ClassId) (A : Nat → Prop) (O : Int64 → va_W → Prop) (mc ms : Nat) (ws : va_W) (kc ks pc : Nat) (lv : List (Nat × Value)) (st : List Value) : Prop := aj p l e { frames := 0, cells := mc, slots := ms, locals := 0 } s m args below meth c (MQ below (qL D clss (ty3 cI cL cZ) O A) args s mc ms A) D clss A 1 ws kc ks pc lv st
def O_CS_used (cI cL cZ : ClassId) (o_CS o_Sto o_Pla o_Ass o_Tra o_Sea o_Tal a_Sea_0 a_Sea_1 a_Sea_2 : Nat) (v_CS : T_CS) (v_Sea : T_Sea) (out : Int64) : Int64 → va_W → Prop := fun r w1 => out = r ∧ w1 = w_CS cI cL cZ o_CS o_Sto o_Pla o_Ass o_Tra o_Sea v_CS ++ w_Sea cI cL cZ o_Sea o_Sto o_Tra o_Tal o_Ass a_Sea_0 a_Sea_1 a_Sea_2 v_Sea
def m_CS_used (v_CS : T_CS) (v_Sea : T_Sea) : Option (Int64) := (some v_Sea.2.1)
set_option maxRecDepth 100000 in
set_option maxHeartbeats 4000000 in
theorem c_CS_used {l : Launch} {D : va_G} {cI cL cZ : ClassId} (o_CS o_Sto o_Pla o_Ass o_Tra o_Sea o_Tal a_Sea_0 a_Sea_1 a_Sea_2 : Nat) (v_CS : T_CS) (v_Sea : T_Sea) (out : Int64) (hm : m_CS_used v_CS v_Sea = some out) : ct l y_CS_used (Cond.code y_CS_used b_CS_used 1 (some .long) :: TB) 0 0 D clss (ty3 cI cL cZ) NM0 NF0 [.ref o_CS] (w_CS cI cL cZ o_CS o_Sto o_Pla o_Ass o_Tra o_Sea v_CS ++ w_Sea cI cL cZ o_Sea o_Sto o_Tra o_Tal o_Ass a_Sea_0 a_Sea_1 a_Sea_2 v_Sea) (qL D clss (ty3 cI cL cZ) (O_CS_used cI cL cZ o_CS o_Sto o_Pla o_Ass o_Tra o_Sea o_Tal a_Sea_0 a_Sea_1 a_Sea_2 v_CS v_Sea out)) 0 0 := by
  refine ct_of (plainFor_of_name (by decide)) (Nat.le_of_ble_eq_true rfl) (fun p e s m args below meth c A X N hr hlk hnm => ?_)
  refine aj_lv (lv' := [(0, .ref o_CS)]) [0] rfl ?_
  unfold m_CS_used at hm
  refine aj_aload_n X d_CS_used_0 0 rfl ?_
  refine aj_get X d_CS_used_1 in_CS 0 rfl rfl 5 (by decide) lf_CS_64 rfl ?_
  refine aj_get X d_CS_used_4 in_Sea 1 rfl rfl 1 (by decide) lf_CS_161 rfl ?_
  have ho := Option.some.inj hm
  subst ho
  exact aj_lret X d_CS_used_7 hr hlk [0, 1, 2, 3, 4] (w_CS cI cL cZ o_CS o_Sto o_Pla o_Ass o_Tra o_Sea v_CS ++ w_Sea cI cL cZ o_Sea o_Sto o_Tra o_Tal o_Ass a_Sea_0 a_Sea_1 a_Sea_2 v_Sea) rfl rfl ⟨rfl, rfl⟩
abbrev X_CS_state (p : Program) (s : State) (m : MethodId) (args : Array Value) (c : Code) (D : va_G) (cI cL cZ : ClassId) (A : Nat → Prop) : Prop := aj_C p s m args c D clss (ty3 cI cL cZ) A b_CS_state 1 R_CS TB
abbrev J_CS_state (p : Program) (l : Launch) (e : Env) (s : State) (m : MethodId) (args : Array Value) (below : List Frame) (meth : Method) (c : Code) (D : va_G) (cI cL cZ : ClassId) (A : Nat → Prop) (O : Int32 → va_W → Prop) (mc ms : Nat) (ws : va_W) (kc ks pc : Nat) (lv : List (Nat × Value)) (st : List Value) : Prop := aj p l e { frames := 0, cells := mc, slots := ms, locals := 0 } s m args below meth c (MQ below (qI D clss (ty3 cI cL cZ) O A) args s mc ms A) D clss A 1 ws kc ks pc lv st
def O_CS_state (cI cL cZ : ClassId) (o_CS o_Sto o_Pla o_Ass o_Tra o_Sea : Nat) (v_CS : T_CS) (out : Int32) : Int32 → va_W → Prop := fun r w1 => out = r ∧ w1 = w_CS cI cL cZ o_CS o_Sto o_Pla o_Ass o_Tra o_Sea v_CS
def m_CS_state (v_CS : T_CS) : Option (Int32) := (some v_CS.2.2)
set_option maxRecDepth 100000 in
set_option maxHeartbeats 4000000 in
theorem c_CS_state {l : Launch} {D : va_G} {cI cL cZ : ClassId} (o_CS o_Sto o_Pla o_Ass o_Tra o_Sea : Nat) (v_CS : T_CS) (out : Int32) (hm : m_CS_state v_CS = some out) : ct l y_CS_state (Cond.code y_CS_state b_CS_state 1 (some .int) :: TB) 0 0 D clss (ty3 cI cL cZ) NM0 NF0 [.ref o_CS] (w_CS cI cL cZ o_CS o_Sto o_Pla o_Ass o_Tra o_Sea v_CS) (qI D clss (ty3 cI cL cZ) (O_CS_state cI cL cZ o_CS o_Sto o_Pla o_Ass o_Tra o_Sea v_CS out)) 0 0 := by
  refine ct_of (plainFor_of_name (by decide)) (Nat.le_of_ble_eq_true rfl) (fun p e s m args below meth c A X N hr hlk hnm => ?_)
  refine aj_lv (lv' := [(0, .ref o_CS)]) [0] rfl ?_
  unfold m_CS_state at hm
  refine aj_aload_n X d_CS_state_0 0 rfl ?_
  refine aj_get X d_CS_state_1 in_CS 0 rfl rfl 7 (by decide) lf_CS_71 rfl ?_
  have ho := Option.some.inj hm
  subst ho
  exact aj_iret X d_CS_state_4 hr hlk [0] (w_CS cI cL cZ o_CS o_Sto o_Pla o_Ass o_Tra o_Sea v_CS) rfl rfl ⟨rfl, rfl⟩
abbrev X_CS_clauses (p : Program) (s : State) (m : MethodId) (args : Array Value) (c : Code) (D : va_G) (cI cL cZ : ClassId) (A : Nat → Prop) : Prop := aj_C p s m args c D clss (ty3 cI cL cZ) A b_CS_clauses 1 R_CS TB
abbrev J_CS_clauses (p : Program) (l : Launch) (e : Env) (s : State) (m : MethodId) (args : Array Value) (below : List Frame) (meth : Method) (c : Code) (D : va_G) (cI cL cZ : ClassId) (A : Nat → Prop) (O : Int32 → va_W → Prop) (mc ms : Nat) (ws : va_W) (kc ks pc : Nat) (lv : List (Nat × Value)) (st : List Value) : Prop := aj p l e { frames := 0, cells := mc, slots := ms, locals := 0 } s m args below meth c (MQ below (qI D clss (ty3 cI cL cZ) O A) args s mc ms A) D clss A 1 ws kc ks pc lv st
def O_CS_clauses (cI cL cZ : ClassId) (o_CS o_Sto o_Pla o_Ass o_Tra o_Sea a_Sto_0 a_Sto_1 a_Sto_2 a_Sto_3 a_Sto_4 : Nat) (v_CS : T_CS) (v_Sto : T_Sto) (out : Int32) : Int32 → va_W → Prop := fun r w1 => out = r ∧ w1 = w_CS cI cL cZ o_CS o_Sto o_Pla o_Ass o_Tra o_Sea v_CS ++ w_Sto cI cL cZ o_Sto a_Sto_0 a_Sto_1 a_Sto_2 a_Sto_3 a_Sto_4 v_Sto
def m_CS_clauses (v_CS : T_CS) (v_Sto : T_Sto) : Option (Int32) := (some v_Sto.1)
set_option maxRecDepth 100000 in
set_option maxHeartbeats 4000000 in
theorem c_CS_clauses {l : Launch} {D : va_G} {cI cL cZ : ClassId} (o_CS o_Sto o_Pla o_Ass o_Tra o_Sea a_Sto_0 a_Sto_1 a_Sto_2 a_Sto_3 a_Sto_4 : Nat) (v_CS : T_CS) (v_Sto : T_Sto) (out : Int32) (hm : m_CS_clauses v_CS v_Sto = some out) : ct l y_CS_clauses (Cond.code y_CS_clauses b_CS_clauses 1 (some .int) :: TB) 0 0 D clss (ty3 cI cL cZ) NM0 NF0 [.ref o_CS] (w_CS cI cL cZ o_CS o_Sto o_Pla o_Ass o_Tra o_Sea v_CS ++ w_Sto cI cL cZ o_Sto a_Sto_0 a_Sto_1 a_Sto_2 a_Sto_3 a_Sto_4 v_Sto) (qI D clss (ty3 cI cL cZ) (O_CS_clauses cI cL cZ o_CS o_Sto o_Pla o_Ass o_Tra o_Sea a_Sto_0 a_Sto_1 a_Sto_2 a_Sto_3 a_Sto_4 v_CS v_Sto out)) 0 0 := by
  refine ct_of (plainFor_of_name (by decide)) (Nat.le_of_ble_eq_true rfl) (fun p e s m args below meth c A X N hr hlk hnm => ?_)
  refine aj_lv (lv' := [(0, .ref o_CS)]) [0] rfl ?_
  unfold m_CS_clauses at hm
  refine aj_aload_n X d_CS_clauses_0 0 rfl ?_
  refine aj_get X d_CS_clauses_1 in_CS 0 rfl rfl 1 (by decide) lf_CS_27 rfl ?_
  refine aj_get X d_CS_clauses_4 in_Sto 1 rfl rfl 0 (by decide) lf_CS_165 rfl ?_
  have ho := Option.some.inj hm
  subst ho
  exact aj_iret X d_CS_clauses_7 hr hlk [0, 1, 2, 3, 4, 5, 6] (w_CS cI cL cZ o_CS o_Sto o_Pla o_Ass o_Tra o_Sea v_CS ++ w_Sto cI cL cZ o_Sto a_Sto_0 a_Sto_1 a_Sto_2 a_Sto_3 a_Sto_4 v_Sto) rfl rfl ⟨rfl, rfl⟩
