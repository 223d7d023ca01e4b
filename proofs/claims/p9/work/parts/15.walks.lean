abbrev X_Tra_leastAbsent (p : Program) (s : State) (m : MethodId) (args : Array Value) (c : Code) (D : va_G) (cI cL cZ : ClassId) (A : Nat → Prop) : Prop := aj_C p s m args c D clss (ty3 cI cL cZ) A b_Tra_leastAbsent 2 R_Tra TB
abbrev J_Tra_leastAbsent (p : Program) (l : Launch) (e : Env) (s : State) (m : MethodId) (args : Array Value) (below : List Frame) (meth : Method) (c : Code) (D : va_G) (cI cL cZ : ClassId) (A : Nat → Prop) (O : Int32 → va_W → Prop) (mc ms : Nat) (ws : va_W) (kc ks pc : Nat) (lv : List (Nat × Value)) (st : List Value) : Prop := aj p l e { frames := 0, cells := mc, slots := ms, locals := 0 } s m args below meth c (MQ below (qI D clss (ty3 cI cL cZ) O A) args s mc ms A) D clss A 2 ws kc ks pc lv st
def O_Tra_leastAbsent (cI cL cZ : ClassId) (o_Tra o_Tal a_Tra_0 a_Tra_1 a_Tra_2 a_Tra_3 : Nat) (v_Tra : T_Tra) (out : Int32) : Int32 → va_W → Prop := fun r w1 => out = r ∧ w1 = w_Tra cI cL cZ o_Tra o_Tal a_Tra_0 a_Tra_1 a_Tra_2 a_Tra_3 v_Tra
def m_Tra_leastAbsent_L2 (v_Tra : T_Tra) : Nat → Int32 → Option (Int32)
  | 0, _ => none
  | f + 1, x1 => (if (Int32.ofNat v_Tra.2.2.2.1.1) ≤ x1 then (some (-1 : Int32)) else (if ¬ (x1 < 0 ∨ v_Tra.2.2.2.1.1 ≤ (x1).toNatClampNeg) then (if (v_Tra.2.2.2.1.2 (x1).toNatClampNeg) = (-1 : Int32) then (some x1) else ((m_Tra_leastAbsent_L2 v_Tra f) (x1 + 1))) else none))
set_option maxRecDepth 100000 in
set_option maxHeartbeats 4000000 in
theorem c_Tra_leastAbsent_L2 {l : Launch} {D : va_G} {cI cL cZ : ClassId} {p : Program} {e : Env} {s : State} {m : MethodId} {args : Array Value} {below : List Frame} {meth : Method} {c : Code} {A : Nat → Prop} (o_Tra o_Tal a_Tra_0 a_Tra_1 a_Tra_2 a_Tra_3 : Nat) (v_Tra : T_Tra) (out : Int32) (X : X_Tra_leastAbsent p s m args c D cI cL cZ A) (N : nk NM0 NF0 s) (hr : meth.sig.returnType = some .int) (hlk : meth.locks = false) : ∀ (nn : Nat), ∀ (x1 : Int32), m_Tra_leastAbsent_L2 v_Tra nn x1 = some out → J_Tra_leastAbsent p l e s m args below meth c D cI cL cZ A (O_Tra_leastAbsent cI cL cZ o_Tra o_Tal a_Tra_0 a_Tra_1 a_Tra_2 a_Tra_3 v_Tra out) 0 0 (w_Tra cI cL cZ o_Tra o_Tal a_Tra_0 a_Tra_1 a_Tra_2 a_Tra_3 v_Tra) 0 0 2 [(0, .ref o_Tra), (1, .int x1)] [] := by
  intro nn
  induction nn with
  | zero => intro x1 hm; exact absurd hm (by simp [m_Tra_leastAbsent_L2])
  | succ nn ih2 =>
    intro x1 hm
    unfold m_Tra_leastAbsent_L2 at hm
    refine aj_iload_n X d_Tra_leastAbsent_2 1 rfl ?_
    refine aj_aload_n X d_Tra_leastAbsent_3 0 rfl ?_
    refine aj_get X d_Tra_leastAbsent_4 in_Tra 0 rfl rfl 4 (by decide) lf_Tra_26 rfl ?_
    refine aj_alen X d_Tra_leastAbsent_7 2 0 rfl rfl ?_
    refine aj_icmp_ge X 29 d_Tra_leastAbsent_8 (by decide) (fun h => ?_) (fun h => ?_)
    · have hm := ite_t hm h
      refine aj_iconst (v := (-1 : Int32)) X d_Tra_leastAbsent_29 (by decide) ?_
      have ho := Option.some.inj hm
      subst ho
      exact aj_iret X d_Tra_leastAbsent_30 hr hlk [0, 1, 2, 3, 4] (w_Tra cI cL cZ o_Tra o_Tal a_Tra_0 a_Tra_1 a_Tra_2 a_Tra_3 v_Tra) rfl rfl ⟨rfl, rfl⟩
    · have hm := ite_f hm h
      refine aj_aload_n X d_Tra_leastAbsent_11 0 rfl ?_
      refine aj_get X d_Tra_leastAbsent_12 in_Tra 0 rfl rfl 4 (by decide) lf_Tra_26 rfl ?_
      refine aj_iload_n X d_Tra_leastAbsent_15 1 rfl ?_
      obtain ⟨b1, hm⟩ := chk_of hm
      refine aj_iald X d_Tra_leastAbsent_16 2 0 rfl rfl b1 ?_
      refine aj_iconst (v := (-1 : Int32)) X d_Tra_leastAbsent_17 (by decide) ?_
      refine aj_icmp_ne X 23 d_Tra_leastAbsent_18 (by decide) (fun h => ?_) (fun h => ?_)
      · have hm := ite_f hm h
        refine aj_iinc (v := (x1 + 1)) (lv' := [(1, .int (x1 + 1)), (0, .ref o_Tra)]) X d_Tra_leastAbsent_23 1 rfl rfl (by decide) rfl ?_
        refine aj_goto X 2 d_Tra_leastAbsent_26 (by decide) ?_
        refine aj_lv (lv' := [(0, .ref o_Tra), (1, .int (x1 + 1))]) [1, 0] rfl ?_
        exact ih2 (x1 + 1) hm
      · have hm := ite_t hm h
        refine aj_iload_n X d_Tra_leastAbsent_21 1 rfl ?_
        have ho := Option.some.inj hm
        subst ho
        exact aj_iret X d_Tra_leastAbsent_22 hr hlk [0, 1, 2, 3, 4] (w_Tra cI cL cZ o_Tra o_Tal a_Tra_0 a_Tra_1 a_Tra_2 a_Tra_3 v_Tra) rfl rfl ⟨rfl, rfl⟩
def m_Tra_leastAbsent (v_Tra : T_Tra) : Option (Int32) := (m_Tra_leastAbsent_L2 v_Tra fu (0 : Int32))
set_option maxRecDepth 100000 in
set_option maxHeartbeats 4000000 in
theorem c_Tra_leastAbsent {l : Launch} {D : va_G} {cI cL cZ : ClassId} (o_Tra o_Tal a_Tra_0 a_Tra_1 a_Tra_2 a_Tra_3 : Nat) (v_Tra : T_Tra) (out : Int32) (hm : m_Tra_leastAbsent v_Tra = some out) : ct l y_Tra_leastAbsent (Cond.code y_Tra_leastAbsent b_Tra_leastAbsent 2 (some .int) :: TB) 0 0 D clss (ty3 cI cL cZ) NM0 NF0 [.ref o_Tra] (w_Tra cI cL cZ o_Tra o_Tal a_Tra_0 a_Tra_1 a_Tra_2 a_Tra_3 v_Tra) (qI D clss (ty3 cI cL cZ) (O_Tra_leastAbsent cI cL cZ o_Tra o_Tal a_Tra_0 a_Tra_1 a_Tra_2 a_Tra_3 v_Tra out)) 0 0 := by
  refine ct_of (plainFor_of_name (by decide)) (Nat.le_of_ble_eq_true rfl) (fun p e s m args below meth c A X N hr hlk hnm => ?_)
  refine aj_lv (lv' := [(0, .ref o_Tra)]) [0] rfl ?_
  unfold m_Tra_leastAbsent at hm
  refine aj_iconst (v := (0 : Int32)) X d_Tra_leastAbsent_0 (by decide) ?_
  refine aj_istore_n (lv' := [(1, .int (0 : Int32)), (0, .ref o_Tra)]) X d_Tra_leastAbsent_1 rfl (by decide) rfl ?_
  refine aj_lv (lv' := [(0, .ref o_Tra), (1, .int (0 : Int32))]) [1, 0] rfl ?_
  exact c_Tra_leastAbsent_L2 o_Tra o_Tal a_Tra_0 a_Tra_1 a_Tra_2 a_Tra_3 v_Tra out X N hr hlk fu (0 : Int32) hm
abbrev X_Sea_takeTurn (p : Program) (s : State) (m : MethodId) (args : Array Value) (c : Code) (D : va_G) (cI cL cZ : ClassId) (A : Nat → Prop) : Prop := aj_C p s m args c D clss (ty3 cI cL cZ) A b_Sea_takeTurn 5 R_Sea TB
abbrev J_Sea_takeTurn (p : Program) (l : Launch) (e : Env) (s : State) (m : MethodId) (args : Array Value) (below : List Frame) (meth : Method) (c : Code) (D : va_G) (cI cL cZ : ClassId) (A : Nat → Prop) (O : Int32 → va_W → Prop) (mc ms : Nat) (ws : va_W) (kc ks pc : Nat) (lv : List (Nat × Value)) (st : List Value) : Prop := aj p l e { frames := 6, cells := mc, slots := ms, locals := 150 } s m args below meth c (MQ below (qI D clss (ty3 cI cL cZ) O A) args s mc ms A) D clss A 5 ws kc ks pc lv st
def O_Sea_takeTurn (cI cL cZ : ClassId) (o_Ass o_Sto o_Tal o_Tra o_Sea a_Ass_0 a_Sto_3 a_Tal_0 a_Tal_1 a_Tra_0 a_Tra_1 a_Tra_2 a_Tra_3 a_Sea_0 a_Sea_1 : Nat) (v_Ass : T_Ass) (out : T_Sto × T_Tal × T_Tra × T_Sea × Int32) : Int32 → va_W → Prop := fun r w1 => out.2.2.2.2 = r ∧ ∃ (a_Sto_0 a_Sto_1 a_Sto_2 a_Sto_4 a_Tal_2 a_Tal_3 a_Sea_2 : Nat), w1 = w_Ass cI cL cZ o_Ass a_Ass_0 v_Ass ++ w_Sto cI cL cZ o_Sto a_Sto_0 a_Sto_1 a_Sto_2 a_Sto_3 a_Sto_4 out.1 ++ w_Tal cI cL cZ o_Tal o_Sto a_Tal_0 a_Tal_1 a_Tal_2 a_Tal_3 out.2.1 ++ w_Tra cI cL cZ o_Tra o_Tal a_Tra_0 a_Tra_1 a_Tra_2 a_Tra_3 out.2.2.1 ++ w_Sea cI cL cZ o_Sea o_Sto o_Tra o_Tal o_Ass a_Sea_0 a_Sea_1 a_Sea_2 out.2.2.2.1
def m_Sea_takeTurn (v_Ass : T_Ass) (v_Sto : T_Sto) (v_Tal : T_Tal) (v_Tra : T_Tra) (v_Sea : T_Sea) : Option ((T_Sto × T_Tal × T_Tra × T_Sea × Int32) × Nat × Nat) := ((m_Tal_leastDead v_Tal).bind fun r30 => (if r30 < 0 then ((m_Tal_leastUnit v_Tal).bind fun r32 => (if r32 < 0 then ((m_Sea_firstPendingAssumption v_Ass v_Tra v_Sea).bind fun r34 => (if r34 < 0 then ((m_Tra_leastAbsent v_Tra).bind fun r36 => (if r36 < 0 then (some ((v_Sto, v_Tal, v_Tra, v_Sea, (0 : Int32)), 0, 0)) else ((m_CS_literalOf r36 (0 : Int32)).bind fun r38 => ((m_Sea_decide v_Sto v_Tal v_Tra v_Sea r38).bind fun r40 => (some ((v_Sto, r40.1, r40.2.1, r40.2.2.1, r40.2.2.2), 0, 0)))))) else (if ¬ (r34 < 0 ∨ v_Ass.2.1 ≤ (r34).toNatClampNeg) then ((m_Tra_holds v_Tra ((v_Ass.2.2 (r34).toNatClampNeg) ^^^ (1 : Int32))).bind fun r43 => (if r43 = 0 then ((m_Sea_decide v_Sto v_Tal v_Tra v_Sea (v_Ass.2.2 (r34).toNatClampNeg)).bind fun r45 => (some ((v_Sto, r45.1, r45.2.1, r45.2.2.1, r45.2.2.2), 0, 0))) else ((m_Sea_failBy v_Ass v_Sto v_Tra v_Sea r34).bind fun r47 => (some ((v_Sto, v_Tal, v_Tra, r47.1, r47.2), 0, 0))))) else none))) else ((m_Sea_follow v_Sto v_Sea v_Tal v_Tra r32).bind fun r49 => (some ((v_Sto, r49.1, r49.2.1, v_Sea, r49.2.2), 0, 0))))) else (if v_Tra.2.1 = 0 then (some ((v_Sto, v_Tal, v_Tra, v_Sea, (2 : Int32)), 0, 0)) else ((m_Sea_learnFrom v_Sto v_Tal v_Tra v_Sea r30).bind fun r51 => addc r51.2.1 r51.2.2 (some ((r51.1.1, r51.1.2.1, r51.1.2.2.1, r51.1.2.2.2.1, r51.1.2.2.2.2), 0, 0))))))
set_option maxRecDepth 100000 in
set_option maxHeartbeats 4000000 in
theorem c_Sea_takeTurn {l : Launch} {D : va_G} {cI cL cZ : ClassId} (o_Ass o_Sto o_Tal o_Tra o_Sea a_Ass_0 a_Sto_3 a_Tal_0 a_Tal_1 a_Tra_0 a_Tra_1 a_Tra_2 a_Tra_3 a_Sea_0 a_Sea_1 : Nat) (a_Sto_0 a_Sto_1 a_Sto_2 a_Sto_4 a_Tal_2 a_Tal_3 a_Sea_2 : Nat) (v_Ass : T_Ass) (v_Sto : T_Sto) (v_Tal : T_Tal) (v_Tra : T_Tra) (v_Sea : T_Sea) (out : T_Sto × T_Tal × T_Tra × T_Sea × Int32) (mc ms : Nat) (hm : m_Sea_takeTurn v_Ass v_Sto v_Tal v_Tra v_Sea = some (out, mc, ms)) : ct l y_Sea_takeTurn (Cond.code y_Sea_takeTurn b_Sea_takeTurn 5 (some .int) :: TB) 6 150 D clss (ty3 cI cL cZ) NM0 NF0 [.ref o_Sea] (w_Ass cI cL cZ o_Ass a_Ass_0 v_Ass ++ w_Sto cI cL cZ o_Sto a_Sto_0 a_Sto_1 a_Sto_2 a_Sto_3 a_Sto_4 v_Sto ++ w_Tal cI cL cZ o_Tal o_Sto a_Tal_0 a_Tal_1 a_Tal_2 a_Tal_3 v_Tal ++ w_Tra cI cL cZ o_Tra o_Tal a_Tra_0 a_Tra_1 a_Tra_2 a_Tra_3 v_Tra ++ w_Sea cI cL cZ o_Sea o_Sto o_Tra o_Tal o_Ass a_Sea_0 a_Sea_1 a_Sea_2 v_Sea) (qI D clss (ty3 cI cL cZ) (O_Sea_takeTurn cI cL cZ o_Ass o_Sto o_Tal o_Tra o_Sea a_Ass_0 a_Sto_3 a_Tal_0 a_Tal_1 a_Tra_0 a_Tra_1 a_Tra_2 a_Tra_3 a_Sea_0 a_Sea_1 v_Ass out)) mc ms := by
  refine ct_of (plainFor_of_name (by decide)) (Nat.le_of_ble_eq_true rfl) (fun p e s m args below meth c A X N hr hlk hnm => ?_)
  refine aj_lv (lv' := [(0, .ref o_Sea)]) [0] rfl ?_
  unfold m_Sea_takeTurn at hm
  have hkc : 0 + mc = mc := Nat.zero_add _
  have hks : 0 + ms = ms := Nat.zero_add _
  refine aj_aload_n X d_Sea_takeTurn_0 0 rfl ?_
  refine aj_get X d_Sea_takeTurn_1 in_Sea 18 rfl rfl 5 (by decide) lf_Sea_23 rfl ?_
  obtain ⟨r30, h31, hm⟩ := bnd_of hm
  refine aj_callI (wr := [(o_Ass, .inr (0, [.int v_Ass.1, .ref a_Ass_0])), (a_Ass_0, .inl (cI, v_Ass.2.1, .inl v_Ass.2.2)), (o_Sto, .inr (3, [.int v_Sto.1, .int v_Sto.2.1, .ref a_Sto_0, .ref a_Sto_1, .ref a_Sto_2, .ref a_Sto_3, .ref a_Sto_4])), (a_Sto_0, .inl (cI, v_Sto.2.2.1.1, .inl v_Sto.2.2.1.2)), (a_Sto_1, .inl (cI, v_Sto.2.2.2.1.1, .inl v_Sto.2.2.2.1.2)), (a_Sto_2, .inl (cI, v_Sto.2.2.2.2.1.1, .inl v_Sto.2.2.2.2.1.2)), (a_Sto_3, .inl (cI, v_Sto.2.2.2.2.2.1.1, .inl v_Sto.2.2.2.2.2.1.2)), (a_Sto_4, .inl (cI, v_Sto.2.2.2.2.2.2.1, .inl v_Sto.2.2.2.2.2.2.2)), (o_Tra, .inr (5, [.int v_Tra.1, .int v_Tra.2.1, .ref a_Tra_0, .ref o_Tal, .ref a_Tra_1, .ref a_Tra_2, .ref a_Tra_3])), (a_Tra_0, .inl (cI, v_Tra.2.2.1.1, .inl v_Tra.2.2.1.2)), (a_Tra_1, .inl (cI, v_Tra.2.2.2.1.1, .inl v_Tra.2.2.2.1.2)), (a_Tra_2, .inl (cI, v_Tra.2.2.2.2.1.1, .inl v_Tra.2.2.2.2.1.2)), (a_Tra_3, .inl (cI, v_Tra.2.2.2.2.2.1, .inl v_Tra.2.2.2.2.2.2)), (o_Sea, .inr (2, [.int v_Sea.1, .long v_Sea.2.1, .int v_Sea.2.2.1, .ref o_Sto, .ref o_Tra, .ref o_Tal, .ref o_Ass, .ref a_Sea_0, .ref a_Sea_1, .int v_Sea.2.2.2.2.2.1, .ref a_Sea_2, .long v_Sea.2.2.2.2.2.2.2])), (a_Sea_0, .inl (cI, v_Sea.2.2.2.1.1, .inl v_Sea.2.2.2.1.2)), (a_Sea_1, .inl (cI, v_Sea.2.2.2.2.1.1, .inl v_Sea.2.2.2.2.1.2)), (a_Sea_2, .inl (cI, v_Sea.2.2.2.2.2.2.1.1, .inl v_Sea.2.2.2.2.2.2.1.2))]) X (aj_rV (As := []) (rest := []) X N gTB (c_Tal_leastDead (D := D) (cI := cI) (cL := cL) (cZ := cZ) o_Tal o_Sto a_Tal_0 a_Tal_1 a_Tal_2 a_Tal_3 v_Tal r30 h31) d_Sea_takeTurn_4 lk_Tal_leastDead lw_Sea_70 lh_Tal_leastDead ⟨(Nat.le_of_ble_eq_true rfl), (Nat.le_of_ble_eq_true rfl)⟩ [8, 9, 10, 11, 12] rfl rfl 0 rfl rfl rfl rfl (Nat.le_of_ble_eq_true rfl) ⟨kc_le1 hkc, kc_le1 hks⟩) [8, 9, 10, 11, 12] [0, 1, 2, 3, 4, 5, 6, 7, 13, 14, 15, 16, 17, 18, 19, 20, 21] rfl rfl rfl (by decide) (fun rr w1 hO => ?_)
  have hkc := kc_zero hkc
  have hks := kc_zero hks
  obtain ⟨rfl, rfl⟩ := hO
  refine aj_perm (ws' := w_Ass cI cL cZ o_Ass a_Ass_0 v_Ass ++ w_Sto cI cL cZ o_Sto a_Sto_0 a_Sto_1 a_Sto_2 a_Sto_3 a_Sto_4 v_Sto ++ w_Tal cI cL cZ o_Tal o_Sto a_Tal_0 a_Tal_1 a_Tal_2 a_Tal_3 v_Tal ++ w_Tra cI cL cZ o_Tra o_Tal a_Tra_0 a_Tra_1 a_Tra_2 a_Tra_3 v_Tra ++ w_Sea cI cL cZ o_Sea o_Sto o_Tra o_Tal o_Ass a_Sea_0 a_Sea_1 a_Sea_2 v_Sea) [0, 1, 2, 3, 4, 5, 6, 7, 17, 18, 19, 20, 21, 8, 9, 10, 11, 12, 13, 14, 15, 16] rfl rfl ?_
  refine aj_istore_n (lv' := [(1, .int r30), (0, .ref o_Sea)]) X d_Sea_takeTurn_7 rfl (by decide) rfl ?_
  refine aj_iload_n X d_Sea_takeTurn_8 0 rfl ?_
  refine aj_if_lt X 32 d_Sea_takeTurn_9 (by decide) (fun h => ?_) (fun h => ?_)
  · have hm := ite_t hm h
    refine aj_aload_n X d_Sea_takeTurn_32 1 rfl ?_
    refine aj_get X d_Sea_takeTurn_33 in_Sea 18 rfl rfl 5 (by decide) lf_Sea_23 rfl ?_
    obtain ⟨r32, h33, hm⟩ := bnd_of hm
    refine aj_callI (wr := [(o_Ass, .inr (0, [.int v_Ass.1, .ref a_Ass_0])), (a_Ass_0, .inl (cI, v_Ass.2.1, .inl v_Ass.2.2)), (o_Sto, .inr (3, [.int v_Sto.1, .int v_Sto.2.1, .ref a_Sto_0, .ref a_Sto_1, .ref a_Sto_2, .ref a_Sto_3, .ref a_Sto_4])), (a_Sto_0, .inl (cI, v_Sto.2.2.1.1, .inl v_Sto.2.2.1.2)), (a_Sto_1, .inl (cI, v_Sto.2.2.2.1.1, .inl v_Sto.2.2.2.1.2)), (a_Sto_2, .inl (cI, v_Sto.2.2.2.2.1.1, .inl v_Sto.2.2.2.2.1.2)), (a_Sto_3, .inl (cI, v_Sto.2.2.2.2.2.1.1, .inl v_Sto.2.2.2.2.2.1.2)), (a_Sto_4, .inl (cI, v_Sto.2.2.2.2.2.2.1, .inl v_Sto.2.2.2.2.2.2.2)), (o_Tra, .inr (5, [.int v_Tra.1, .int v_Tra.2.1, .ref a_Tra_0, .ref o_Tal, .ref a_Tra_1, .ref a_Tra_2, .ref a_Tra_3])), (a_Tra_0, .inl (cI, v_Tra.2.2.1.1, .inl v_Tra.2.2.1.2)), (a_Tra_1, .inl (cI, v_Tra.2.2.2.1.1, .inl v_Tra.2.2.2.1.2)), (a_Tra_2, .inl (cI, v_Tra.2.2.2.2.1.1, .inl v_Tra.2.2.2.2.1.2)), (a_Tra_3, .inl (cI, v_Tra.2.2.2.2.2.1, .inl v_Tra.2.2.2.2.2.2)), (o_Sea, .inr (2, [.int v_Sea.1, .long v_Sea.2.1, .int v_Sea.2.2.1, .ref o_Sto, .ref o_Tra, .ref o_Tal, .ref o_Ass, .ref a_Sea_0, .ref a_Sea_1, .int v_Sea.2.2.2.2.2.1, .ref a_Sea_2, .long v_Sea.2.2.2.2.2.2.2])), (a_Sea_0, .inl (cI, v_Sea.2.2.2.1.1, .inl v_Sea.2.2.2.1.2)), (a_Sea_1, .inl (cI, v_Sea.2.2.2.2.1.1, .inl v_Sea.2.2.2.2.1.2)), (a_Sea_2, .inl (cI, v_Sea.2.2.2.2.2.2.1.1, .inl v_Sea.2.2.2.2.2.2.1.2))]) X (aj_rV (As := []) (rest := []) X N gTB (c_Tal_leastUnit (D := D) (cI := cI) (cL := cL) (cZ := cZ) o_Tal o_Sto a_Tal_0 a_Tal_1 a_Tal_2 a_Tal_3 v_Tal r32 h33) d_Sea_takeTurn_36 lk_Tal_leastUnit lw_Sea_82 lh_Tal_leastUnit ⟨(Nat.le_of_ble_eq_true rfl), (Nat.le_of_ble_eq_true rfl)⟩ [8, 9, 10, 11, 12] rfl rfl 0 rfl rfl rfl rfl (Nat.le_of_ble_eq_true rfl) ⟨kc_le1 hkc, kc_le1 hks⟩) [8, 9, 10, 11, 12] [0, 1, 2, 3, 4, 5, 6, 7, 13, 14, 15, 16, 17, 18, 19, 20, 21] rfl rfl rfl (by decide) (fun rr w1 hO => ?_)
    have hkc := kc_zero hkc
    have hks := kc_zero hks
    obtain ⟨rfl, rfl⟩ := hO
    refine aj_perm (ws' := w_Ass cI cL cZ o_Ass a_Ass_0 v_Ass ++ w_Sto cI cL cZ o_Sto a_Sto_0 a_Sto_1 a_Sto_2 a_Sto_3 a_Sto_4 v_Sto ++ w_Tal cI cL cZ o_Tal o_Sto a_Tal_0 a_Tal_1 a_Tal_2 a_Tal_3 v_Tal ++ w_Tra cI cL cZ o_Tra o_Tal a_Tra_0 a_Tra_1 a_Tra_2 a_Tra_3 v_Tra ++ w_Sea cI cL cZ o_Sea o_Sto o_Tra o_Tal o_Ass a_Sea_0 a_Sea_1 a_Sea_2 v_Sea) [0, 1, 2, 3, 4, 5, 6, 7, 17, 18, 19, 20, 21, 8, 9, 10, 11, 12, 13, 14, 15, 16] rfl rfl ?_
    refine aj_istore_n (lv' := [(2, .int r32), (1, .int r30), (0, .ref o_Sea)]) X d_Sea_takeTurn_39 rfl (by decide) rfl ?_
    refine aj_iload_n X d_Sea_takeTurn_40 0 rfl ?_
    refine aj_if_lt X 50 d_Sea_takeTurn_41 (by decide) (fun h => ?_) (fun h => ?_)
    · have hm := ite_t hm h
      refine aj_aload_n X d_Sea_takeTurn_50 2 rfl ?_
      obtain ⟨r34, h35, hm⟩ := bnd_of hm
      refine aj_callI (wr := [(o_Sto, .inr (3, [.int v_Sto.1, .int v_Sto.2.1, .ref a_Sto_0, .ref a_Sto_1, .ref a_Sto_2, .ref a_Sto_3, .ref a_Sto_4])), (a_Sto_0, .inl (cI, v_Sto.2.2.1.1, .inl v_Sto.2.2.1.2)), (a_Sto_1, .inl (cI, v_Sto.2.2.2.1.1, .inl v_Sto.2.2.2.1.2)), (a_Sto_2, .inl (cI, v_Sto.2.2.2.2.1.1, .inl v_Sto.2.2.2.2.1.2)), (a_Sto_3, .inl (cI, v_Sto.2.2.2.2.2.1.1, .inl v_Sto.2.2.2.2.2.1.2)), (a_Sto_4, .inl (cI, v_Sto.2.2.2.2.2.2.1, .inl v_Sto.2.2.2.2.2.2.2)), (o_Tal, .inr (4, [.ref o_Sto, .ref a_Tal_0, .ref a_Tal_1, .ref a_Tal_2, .ref a_Tal_3])), (a_Tal_0, .inl (cL, v_Tal.1.1, .inr (.inl v_Tal.1.2))), (a_Tal_1, .inl (cL, v_Tal.2.1.1, .inr (.inl v_Tal.2.1.2))), (a_Tal_2, .inl (cI, v_Tal.2.2.1.1, .inl v_Tal.2.2.1.2)), (a_Tal_3, .inl (cI, v_Tal.2.2.2.1, .inl v_Tal.2.2.2.2))]) X (aj_rV (As := []) (rest := []) X N gTB (c_Sea_firstPendingAssumption (D := D) (cI := cI) (cL := cL) (cZ := cZ) o_Ass o_Tra o_Tal o_Sea o_Sto a_Ass_0 a_Tra_0 a_Tra_1 a_Tra_2 a_Tra_3 a_Sea_0 a_Sea_1 a_Sea_2 v_Ass v_Tra v_Sea r34 h35) d_Sea_takeTurn_51 lk_Sea_firstPendingAssumption lw_Sea_88 lh_Sea_firstPendingAssumption ⟨(Nat.le_of_ble_eq_true rfl), (Nat.le_of_ble_eq_true rfl)⟩ [0, 1, 13, 14, 15, 16, 17, 18, 19, 20, 21] rfl rfl 7 rfl rfl rfl rfl (Nat.le_of_ble_eq_true rfl) ⟨kc_le1 hkc, kc_le1 hks⟩) [0, 1, 13, 14, 15, 16, 17, 18, 19, 20, 21] [2, 3, 4, 5, 6, 7, 8, 9, 10, 11, 12] rfl rfl rfl (by decide) (fun rr w1 hO => ?_)
      have hkc := kc_zero hkc
      have hks := kc_zero hks
      obtain ⟨rfl, rfl⟩ := hO
      refine aj_perm (ws' := w_Ass cI cL cZ o_Ass a_Ass_0 v_Ass ++ w_Sto cI cL cZ o_Sto a_Sto_0 a_Sto_1 a_Sto_2 a_Sto_3 a_Sto_4 v_Sto ++ w_Tal cI cL cZ o_Tal o_Sto a_Tal_0 a_Tal_1 a_Tal_2 a_Tal_3 v_Tal ++ w_Tra cI cL cZ o_Tra o_Tal a_Tra_0 a_Tra_1 a_Tra_2 a_Tra_3 v_Tra ++ w_Sea cI cL cZ o_Sea o_Sto o_Tra o_Tal o_Ass a_Sea_0 a_Sea_1 a_Sea_2 v_Sea) [11, 12, 0, 1, 2, 3, 4, 5, 6, 7, 8, 9, 10, 13, 14, 15, 16, 17, 18, 19, 20, 21] rfl rfl ?_
      refine aj_istore_n (lv' := [(3, .int r34), (2, .int r32), (1, .int r30), (0, .ref o_Sea)]) X d_Sea_takeTurn_54 rfl (by decide) rfl ?_
      refine aj_iload_n X d_Sea_takeTurn_55 0 rfl ?_
      refine aj_if_lt X 99 d_Sea_takeTurn_56 (by decide) (fun h => ?_) (fun h => ?_)
      · have hm := ite_t hm h
        refine aj_aload_n X d_Sea_takeTurn_99 3 rfl ?_
        refine aj_get X d_Sea_takeTurn_100 in_Sea 18 rfl rfl 4 (by decide) lf_Sea_19 rfl ?_
        obtain ⟨r36, h37, hm⟩ := bnd_of hm
        refine aj_callI (wr := [(o_Ass, .inr (0, [.int v_Ass.1, .ref a_Ass_0])), (a_Ass_0, .inl (cI, v_Ass.2.1, .inl v_Ass.2.2)), (o_Sto, .inr (3, [.int v_Sto.1, .int v_Sto.2.1, .ref a_Sto_0, .ref a_Sto_1, .ref a_Sto_2, .ref a_Sto_3, .ref a_Sto_4])), (a_Sto_0, .inl (cI, v_Sto.2.2.1.1, .inl v_Sto.2.2.1.2)), (a_Sto_1, .inl (cI, v_Sto.2.2.2.1.1, .inl v_Sto.2.2.2.1.2)), (a_Sto_2, .inl (cI, v_Sto.2.2.2.2.1.1, .inl v_Sto.2.2.2.2.1.2)), (a_Sto_3, .inl (cI, v_Sto.2.2.2.2.2.1.1, .inl v_Sto.2.2.2.2.2.1.2)), (a_Sto_4, .inl (cI, v_Sto.2.2.2.2.2.2.1, .inl v_Sto.2.2.2.2.2.2.2)), (o_Tal, .inr (4, [.ref o_Sto, .ref a_Tal_0, .ref a_Tal_1, .ref a_Tal_2, .ref a_Tal_3])), (a_Tal_0, .inl (cL, v_Tal.1.1, .inr (.inl v_Tal.1.2))), (a_Tal_1, .inl (cL, v_Tal.2.1.1, .inr (.inl v_Tal.2.1.2))), (a_Tal_2, .inl (cI, v_Tal.2.2.1.1, .inl v_Tal.2.2.1.2)), (a_Tal_3, .inl (cI, v_Tal.2.2.2.1, .inl v_Tal.2.2.2.2)), (o_Sea, .inr (2, [.int v_Sea.1, .long v_Sea.2.1, .int v_Sea.2.2.1, .ref o_Sto, .ref o_Tra, .ref o_Tal, .ref o_Ass, .ref a_Sea_0, .ref a_Sea_1, .int v_Sea.2.2.2.2.2.1, .ref a_Sea_2, .long v_Sea.2.2.2.2.2.2.2])), (a_Sea_0, .inl (cI, v_Sea.2.2.2.1.1, .inl v_Sea.2.2.2.1.2)), (a_Sea_1, .inl (cI, v_Sea.2.2.2.2.1.1, .inl v_Sea.2.2.2.2.1.2)), (a_Sea_2, .inl (cI, v_Sea.2.2.2.2.2.2.1.1, .inl v_Sea.2.2.2.2.2.2.1.2))]) X (aj_rV (As := []) (rest := []) X N gTB (c_Tra_leastAbsent (D := D) (cI := cI) (cL := cL) (cZ := cZ) o_Tra o_Tal a_Tra_0 a_Tra_1 a_Tra_2 a_Tra_3 v_Tra r36 h37) d_Sea_takeTurn_103 lk_Tra_leastAbsent lw_Sea_106 lh_Tra_leastAbsent ⟨(Nat.le_of_ble_eq_true rfl), (Nat.le_of_ble_eq_true rfl)⟩ [13, 14, 15, 16, 17] rfl rfl 0 rfl rfl rfl rfl (Nat.le_of_ble_eq_true rfl) ⟨kc_le1 hkc, kc_le1 hks⟩) [13, 14, 15, 16, 17] [0, 1, 2, 3, 4, 5, 6, 7, 8, 9, 10, 11, 12, 18, 19, 20, 21] rfl rfl rfl (by decide) (fun rr w1 hO => ?_)
        have hkc := kc_zero hkc
        have hks := kc_zero hks
        obtain ⟨rfl, rfl⟩ := hO
        refine aj_perm (ws' := w_Ass cI cL cZ o_Ass a_Ass_0 v_Ass ++ w_Sto cI cL cZ o_Sto a_Sto_0 a_Sto_1 a_Sto_2 a_Sto_3 a_Sto_4 v_Sto ++ w_Tal cI cL cZ o_Tal o_Sto a_Tal_0 a_Tal_1 a_Tal_2 a_Tal_3 v_Tal ++ w_Tra cI cL cZ o_Tra o_Tal a_Tra_0 a_Tra_1 a_Tra_2 a_Tra_3 v_Tra ++ w_Sea cI cL cZ o_Sea o_Sto o_Tra o_Tal o_Ass a_Sea_0 a_Sea_1 a_Sea_2 v_Sea) [0, 1, 2, 3, 4, 5, 6, 7, 8, 9, 10, 11, 12, 17, 18, 19, 20, 21, 13, 14, 15, 16] rfl rfl ?_
        refine aj_istore (lv' := [(4, .int r36), (3, .int r34), (2, .int r32), (1, .int r30), (0, .ref o_Sea)]) X d_Sea_takeTurn_106 (by decide) rfl ?_
        refine aj_iload X d_Sea_takeTurn_108 0 rfl ?_
        refine aj_if_lt X 126 d_Sea_takeTurn_110 (by decide) (fun h => ?_) (fun h => ?_)
        · have hm := ite_t hm h
          refine aj_iconst (v := (0 : Int32)) X d_Sea_takeTurn_126 (by decide) ?_
          obtain ⟨ho, e1, e2⟩ := res_of hm
          subst ho
          obtain rfl := kc_end hkc e1
          obtain rfl := kc_end hks e2
          exact aj_iret X d_Sea_takeTurn_127 hr hlk [0, 1, 2, 3, 4, 5, 6, 7, 8, 9, 10, 11, 12, 13, 14, 15, 16, 17, 18, 19, 20, 21] (w_Ass cI cL cZ o_Ass a_Ass_0 v_Ass ++ w_Sto cI cL cZ o_Sto a_Sto_0 a_Sto_1 a_Sto_2 a_Sto_3 a_Sto_4 v_Sto ++ w_Tal cI cL cZ o_Tal o_Sto a_Tal_0 a_Tal_1 a_Tal_2 a_Tal_3 v_Tal ++ w_Tra cI cL cZ o_Tra o_Tal a_Tra_0 a_Tra_1 a_Tra_2 a_Tra_3 v_Tra ++ w_Sea cI cL cZ o_Sea o_Sto o_Tra o_Tal o_Ass a_Sea_0 a_Sea_1 a_Sea_2 v_Sea) rfl rfl ⟨rfl, a_Sto_0, a_Sto_1, a_Sto_2, a_Sto_4, a_Tal_2, a_Tal_3, a_Sea_2, rfl⟩
        · have hm := ite_f hm h
          refine aj_aload_n X d_Sea_takeTurn_113 4 rfl ?_
          refine aj_iload X d_Sea_takeTurn_114 0 rfl ?_
          refine aj_iconst (v := (0 : Int32)) X d_Sea_takeTurn_116 (by decide) ?_
          obtain ⟨r38, h39, hm⟩ := bnd_of hm
          refine aj_callI (wr := [(o_Ass, .inr (0, [.int v_Ass.1, .ref a_Ass_0])), (a_Ass_0, .inl (cI, v_Ass.2.1, .inl v_Ass.2.2)), (o_Sto, .inr (3, [.int v_Sto.1, .int v_Sto.2.1, .ref a_Sto_0, .ref a_Sto_1, .ref a_Sto_2, .ref a_Sto_3, .ref a_Sto_4])), (a_Sto_0, .inl (cI, v_Sto.2.2.1.1, .inl v_Sto.2.2.1.2)), (a_Sto_1, .inl (cI, v_Sto.2.2.2.1.1, .inl v_Sto.2.2.2.1.2)), (a_Sto_2, .inl (cI, v_Sto.2.2.2.2.1.1, .inl v_Sto.2.2.2.2.1.2)), (a_Sto_3, .inl (cI, v_Sto.2.2.2.2.2.1.1, .inl v_Sto.2.2.2.2.2.1.2)), (a_Sto_4, .inl (cI, v_Sto.2.2.2.2.2.2.1, .inl v_Sto.2.2.2.2.2.2.2)), (o_Tal, .inr (4, [.ref o_Sto, .ref a_Tal_0, .ref a_Tal_1, .ref a_Tal_2, .ref a_Tal_3])), (a_Tal_0, .inl (cL, v_Tal.1.1, .inr (.inl v_Tal.1.2))), (a_Tal_1, .inl (cL, v_Tal.2.1.1, .inr (.inl v_Tal.2.1.2))), (a_Tal_2, .inl (cI, v_Tal.2.2.1.1, .inl v_Tal.2.2.1.2)), (a_Tal_3, .inl (cI, v_Tal.2.2.2.1, .inl v_Tal.2.2.2.2)), (o_Tra, .inr (5, [.int v_Tra.1, .int v_Tra.2.1, .ref a_Tra_0, .ref o_Tal, .ref a_Tra_1, .ref a_Tra_2, .ref a_Tra_3])), (a_Tra_0, .inl (cI, v_Tra.2.2.1.1, .inl v_Tra.2.2.1.2)), (a_Tra_1, .inl (cI, v_Tra.2.2.2.1.1, .inl v_Tra.2.2.2.1.2)), (a_Tra_2, .inl (cI, v_Tra.2.2.2.2.1.1, .inl v_Tra.2.2.2.2.1.2)), (a_Tra_3, .inl (cI, v_Tra.2.2.2.2.2.1, .inl v_Tra.2.2.2.2.2.2)), (o_Sea, .inr (2, [.int v_Sea.1, .long v_Sea.2.1, .int v_Sea.2.2.1, .ref o_Sto, .ref o_Tra, .ref o_Tal, .ref o_Ass, .ref a_Sea_0, .ref a_Sea_1, .int v_Sea.2.2.2.2.2.1, .ref a_Sea_2, .long v_Sea.2.2.2.2.2.2.2])), (a_Sea_0, .inl (cI, v_Sea.2.2.2.1.1, .inl v_Sea.2.2.2.1.2)), (a_Sea_1, .inl (cI, v_Sea.2.2.2.2.1.1, .inl v_Sea.2.2.2.2.1.2)), (a_Sea_2, .inl (cI, v_Sea.2.2.2.2.2.2.1.1, .inl v_Sea.2.2.2.2.2.2.1.2))]) X (aj_rSN (As := [.int r36, .int (0 : Int32)]) (rest := [.ref o_Sea]) X N gTB (c_CS_literalOf (D := D) (cI := cI) (cL := cL) (cZ := cZ) r36 (0 : Int32) r38 h39) d_Sea_takeTurn_117 lk_CS_literalOf ln_Sea_109 lw_Sea_109 lh_CS_literalOf ⟨(Nat.le_of_ble_eq_true rfl), (Nat.le_of_ble_eq_true rfl)⟩ [] rfl rfl rfl (Nat.le_of_ble_eq_true rfl) ⟨kc_le1 hkc, kc_le1 hks⟩) [] [0, 1, 2, 3, 4, 5, 6, 7, 8, 9, 10, 11, 12, 13, 14, 15, 16, 17, 18, 19, 20, 21] rfl rfl rfl (by decide) (fun rr w1 hO => ?_)
          have hkc := kc_zero hkc
          have hks := kc_zero hks
          obtain ⟨rfl, rfl⟩ := hO
          refine aj_perm (ws' := w_Ass cI cL cZ o_Ass a_Ass_0 v_Ass ++ w_Sto cI cL cZ o_Sto a_Sto_0 a_Sto_1 a_Sto_2 a_Sto_3 a_Sto_4 v_Sto ++ w_Tal cI cL cZ o_Tal o_Sto a_Tal_0 a_Tal_1 a_Tal_2 a_Tal_3 v_Tal ++ w_Tra cI cL cZ o_Tra o_Tal a_Tra_0 a_Tra_1 a_Tra_2 a_Tra_3 v_Tra ++ w_Sea cI cL cZ o_Sea o_Sto o_Tra o_Tal o_Ass a_Sea_0 a_Sea_1 a_Sea_2 v_Sea) [0, 1, 2, 3, 4, 5, 6, 7, 8, 9, 10, 11, 12, 13, 14, 15, 16, 17, 18, 19, 20, 21] rfl rfl ?_
          obtain ⟨r40, h41, hm⟩ := bnd_of hm
          refine aj_callI (wr := [(o_Ass, .inr (0, [.int v_Ass.1, .ref a_Ass_0])), (a_Ass_0, .inl (cI, v_Ass.2.1, .inl v_Ass.2.2))]) X (aj_rV (As := [.int r38]) (rest := []) X N gTB (c_Sea_decide (D := D) (cI := cI) (cL := cL) (cZ := cZ) o_Sto o_Tal o_Tra o_Sea o_Ass a_Sto_0 a_Sto_1 a_Sto_2 a_Sto_3 a_Sto_4 a_Tal_0 a_Tal_1 a_Tal_2 a_Tal_3 a_Tra_0 a_Tra_1 a_Tra_2 a_Tra_3 a_Sea_0 a_Sea_1 a_Sea_2 v_Sto v_Tal v_Tra v_Sea r38 r40 h41) d_Sea_takeTurn_120 lk_Sea_decide lw_Sea_103 lh_Sea_decide ⟨(Nat.le_of_ble_eq_true rfl), (Nat.le_of_ble_eq_true rfl)⟩ [2, 3, 4, 5, 6, 7, 8, 9, 10, 11, 12, 13, 14, 15, 16, 17, 18, 19, 20, 21] rfl rfl 16 rfl rfl rfl rfl (Nat.le_of_ble_eq_true rfl) ⟨kc_le1 hkc, kc_le1 hks⟩) [2, 3, 4, 5, 6, 7, 8, 9, 10, 11, 12, 13, 14, 15, 16, 17, 18, 19, 20, 21] [0, 1] rfl rfl rfl (by decide) (fun rr w1 hO => ?_)
          have hkc := kc_zero hkc
          have hks := kc_zero hks
          obtain ⟨rfl, rfl⟩ := hO
          refine aj_perm (ws' := w_Ass cI cL cZ o_Ass a_Ass_0 v_Ass ++ w_Sto cI cL cZ o_Sto a_Sto_0 a_Sto_1 a_Sto_2 a_Sto_3 a_Sto_4 v_Sto ++ w_Tal cI cL cZ o_Tal o_Sto a_Tal_0 a_Tal_1 a_Tal_2 a_Tal_3 r40.1 ++ w_Tra cI cL cZ o_Tra o_Tal a_Tra_0 a_Tra_1 a_Tra_2 a_Tra_3 r40.2.1 ++ w_Sea cI cL cZ o_Sea o_Sto o_Tra o_Tal o_Ass a_Sea_0 a_Sea_1 a_Sea_2 r40.2.2.1) [0, 1, 2, 3, 4, 5, 6, 7, 8, 9, 10, 11, 12, 13, 14, 15, 16, 17, 18, 19, 20, 21] rfl rfl ?_
          refine aj_goto X 127 d_Sea_takeTurn_123 (by decide) ?_
          obtain ⟨ho, e1, e2⟩ := res_of hm
          subst ho
          obtain rfl := kc_end hkc e1
          obtain rfl := kc_end hks e2
          exact aj_iret X d_Sea_takeTurn_127 hr hlk [0, 1, 2, 3, 4, 5, 6, 7, 8, 9, 10, 11, 12, 13, 14, 15, 16, 17, 18, 19, 20, 21] (w_Ass cI cL cZ o_Ass a_Ass_0 v_Ass ++ w_Sto cI cL cZ o_Sto a_Sto_0 a_Sto_1 a_Sto_2 a_Sto_3 a_Sto_4 v_Sto ++ w_Tal cI cL cZ o_Tal o_Sto a_Tal_0 a_Tal_1 a_Tal_2 a_Tal_3 r40.1 ++ w_Tra cI cL cZ o_Tra o_Tal a_Tra_0 a_Tra_1 a_Tra_2 a_Tra_3 r40.2.1 ++ w_Sea cI cL cZ o_Sea o_Sto o_Tra o_Tal o_Ass a_Sea_0 a_Sea_1 a_Sea_2 r40.2.2.1) rfl rfl ⟨rfl, a_Sto_0, a_Sto_1, a_Sto_2, a_Sto_4, a_Tal_2, a_Tal_3, a_Sea_2, rfl⟩
      · have hm := ite_f hm h
        refine aj_aload_n X d_Sea_takeTurn_59 3 rfl ?_
        refine aj_get X d_Sea_takeTurn_60 in_Sea 18 rfl rfl 6 (by decide) lf_Sea_27 rfl ?_
        refine aj_get X d_Sea_takeTurn_63 in_Ass 0 rfl rfl 1 (by decide) lf_Sea_91 rfl ?_
        refine aj_iload_n X d_Sea_takeTurn_66 0 rfl ?_
        obtain ⟨b42, hm⟩ := chk_of hm
        refine aj_iald X d_Sea_takeTurn_67 1 0 rfl rfl b42 ?_
        refine aj_istore (lv' := [(4, .int (v_Ass.2.2 (r34).toNatClampNeg)), (3, .int r34), (2, .int r32), (1, .int r30), (0, .ref o_Sea)]) X d_Sea_takeTurn_68 (by decide) rfl ?_
        refine aj_aload_n X d_Sea_takeTurn_70 4 rfl ?_
        refine aj_get X d_Sea_takeTurn_71 in_Sea 18 rfl rfl 4 (by decide) lf_Sea_19 rfl ?_
        refine aj_iload X d_Sea_takeTurn_74 0 rfl ?_
        refine aj_iconst (v := (1 : Int32)) X d_Sea_takeTurn_76 (by decide) ?_
        refine aj_ixor X d_Sea_takeTurn_77 ?_
        obtain ⟨r43, h44, hm⟩ := bnd_of hm
        refine aj_callI (wr := [(o_Ass, .inr (0, [.int v_Ass.1, .ref a_Ass_0])), (a_Ass_0, .inl (cI, v_Ass.2.1, .inl v_Ass.2.2)), (o_Sto, .inr (3, [.int v_Sto.1, .int v_Sto.2.1, .ref a_Sto_0, .ref a_Sto_1, .ref a_Sto_2, .ref a_Sto_3, .ref a_Sto_4])), (a_Sto_0, .inl (cI, v_Sto.2.2.1.1, .inl v_Sto.2.2.1.2)), (a_Sto_1, .inl (cI, v_Sto.2.2.2.1.1, .inl v_Sto.2.2.2.1.2)), (a_Sto_2, .inl (cI, v_Sto.2.2.2.2.1.1, .inl v_Sto.2.2.2.2.1.2)), (a_Sto_3, .inl (cI, v_Sto.2.2.2.2.2.1.1, .inl v_Sto.2.2.2.2.2.1.2)), (a_Sto_4, .inl (cI, v_Sto.2.2.2.2.2.2.1, .inl v_Sto.2.2.2.2.2.2.2)), (o_Tal, .inr (4, [.ref o_Sto, .ref a_Tal_0, .ref a_Tal_1, .ref a_Tal_2, .ref a_Tal_3])), (a_Tal_0, .inl (cL, v_Tal.1.1, .inr (.inl v_Tal.1.2))), (a_Tal_1, .inl (cL, v_Tal.2.1.1, .inr (.inl v_Tal.2.1.2))), (a_Tal_2, .inl (cI, v_Tal.2.2.1.1, .inl v_Tal.2.2.1.2)), (a_Tal_3, .inl (cI, v_Tal.2.2.2.1, .inl v_Tal.2.2.2.2)), (o_Sea, .inr (2, [.int v_Sea.1, .long v_Sea.2.1, .int v_Sea.2.2.1, .ref o_Sto, .ref o_Tra, .ref o_Tal, .ref o_Ass, .ref a_Sea_0, .ref a_Sea_1, .int v_Sea.2.2.2.2.2.1, .ref a_Sea_2, .long v_Sea.2.2.2.2.2.2.2])), (a_Sea_0, .inl (cI, v_Sea.2.2.2.1.1, .inl v_Sea.2.2.2.1.2)), (a_Sea_1, .inl (cI, v_Sea.2.2.2.2.1.1, .inl v_Sea.2.2.2.2.1.2)), (a_Sea_2, .inl (cI, v_Sea.2.2.2.2.2.2.1.1, .inl v_Sea.2.2.2.2.2.2.1.2))]) X (aj_rV (As := [.int ((v_Ass.2.2 (r34).toNatClampNeg) ^^^ (1 : Int32))]) (rest := []) X N gTB (c_Tra_holds (D := D) (cI := cI) (cL := cL) (cZ := cZ) o_Tra o_Tal a_Tra_0 a_Tra_1 a_Tra_2 a_Tra_3 v_Tra ((v_Ass.2.2 (r34).toNatClampNeg) ^^^ (1 : Int32)) r43 h44) d_Sea_takeTurn_78 lk_Tra_holds lw_Sea_96 lh_Tra_holds ⟨(Nat.le_of_ble_eq_true rfl), (Nat.le_of_ble_eq_true rfl)⟩ [13, 14, 15, 16, 17] rfl rfl 0 rfl rfl rfl rfl (Nat.le_of_ble_eq_true rfl) ⟨kc_le1 hkc, kc_le1 hks⟩) [13, 14, 15, 16, 17] [0, 1, 2, 3, 4, 5, 6, 7, 8, 9, 10, 11, 12, 18, 19, 20, 21] rfl rfl rfl (by decide) (fun rr w1 hO => ?_)
        have hkc := kc_zero hkc
        have hks := kc_zero hks
        obtain ⟨rfl, rfl⟩ := hO
        refine aj_perm (ws' := w_Ass cI cL cZ o_Ass a_Ass_0 v_Ass ++ w_Sto cI cL cZ o_Sto a_Sto_0 a_Sto_1 a_Sto_2 a_Sto_3 a_Sto_4 v_Sto ++ w_Tal cI cL cZ o_Tal o_Sto a_Tal_0 a_Tal_1 a_Tal_2 a_Tal_3 v_Tal ++ w_Tra cI cL cZ o_Tra o_Tal a_Tra_0 a_Tra_1 a_Tra_2 a_Tra_3 v_Tra ++ w_Sea cI cL cZ o_Sea o_Sto o_Tra o_Tal o_Ass a_Sea_0 a_Sea_1 a_Sea_2 v_Sea) [0, 1, 2, 3, 4, 5, 6, 7, 8, 9, 10, 11, 12, 17, 18, 19, 20, 21, 13, 14, 15, 16] rfl rfl ?_
        refine aj_if_eq X 92 d_Sea_takeTurn_81 (by decide) (fun h => ?_) (fun h => ?_)
        · have hm := ite_t hm h
          refine aj_aload_n X d_Sea_takeTurn_92 4 rfl ?_
          refine aj_iload X d_Sea_takeTurn_93 0 rfl ?_
          obtain ⟨r45, h46, hm⟩ := bnd_of hm
          refine aj_callI (wr := [(o_Ass, .inr (0, [.int v_Ass.1, .ref a_Ass_0])), (a_Ass_0, .inl (cI, v_Ass.2.1, .inl v_Ass.2.2))]) X (aj_rV (As := [.int (v_Ass.2.2 (r34).toNatClampNeg)]) (rest := []) X N gTB (c_Sea_decide (D := D) (cI := cI) (cL := cL) (cZ := cZ) o_Sto o_Tal o_Tra o_Sea o_Ass a_Sto_0 a_Sto_1 a_Sto_2 a_Sto_3 a_Sto_4 a_Tal_0 a_Tal_1 a_Tal_2 a_Tal_3 a_Tra_0 a_Tra_1 a_Tra_2 a_Tra_3 a_Sea_0 a_Sea_1 a_Sea_2 v_Sto v_Tal v_Tra v_Sea (v_Ass.2.2 (r34).toNatClampNeg) r45 h46) d_Sea_takeTurn_95 lk_Sea_decide lw_Sea_103 lh_Sea_decide ⟨(Nat.le_of_ble_eq_true rfl), (Nat.le_of_ble_eq_true rfl)⟩ [2, 3, 4, 5, 6, 7, 8, 9, 10, 11, 12, 13, 14, 15, 16, 17, 18, 19, 20, 21] rfl rfl 16 rfl rfl rfl rfl (Nat.le_of_ble_eq_true rfl) ⟨kc_le1 hkc, kc_le1 hks⟩) [2, 3, 4, 5, 6, 7, 8, 9, 10, 11, 12, 13, 14, 15, 16, 17, 18, 19, 20, 21] [0, 1] rfl rfl rfl (by decide) (fun rr w1 hO => ?_)
          have hkc := kc_zero hkc
          have hks := kc_zero hks
          obtain ⟨rfl, rfl⟩ := hO
          refine aj_perm (ws' := w_Ass cI cL cZ o_Ass a_Ass_0 v_Ass ++ w_Sto cI cL cZ o_Sto a_Sto_0 a_Sto_1 a_Sto_2 a_Sto_3 a_Sto_4 v_Sto ++ w_Tal cI cL cZ o_Tal o_Sto a_Tal_0 a_Tal_1 a_Tal_2 a_Tal_3 r45.1 ++ w_Tra cI cL cZ o_Tra o_Tal a_Tra_0 a_Tra_1 a_Tra_2 a_Tra_3 r45.2.1 ++ w_Sea cI cL cZ o_Sea o_Sto o_Tra o_Tal o_Ass a_Sea_0 a_Sea_1 a_Sea_2 r45.2.2.1) [0, 1, 2, 3, 4, 5, 6, 7, 8, 9, 10, 11, 12, 13, 14, 15, 16, 17, 18, 19, 20, 21] rfl rfl ?_
          obtain ⟨ho, e1, e2⟩ := res_of hm
          subst ho
          obtain rfl := kc_end hkc e1
          obtain rfl := kc_end hks e2
          exact aj_iret X d_Sea_takeTurn_98 hr hlk [0, 1, 2, 3, 4, 5, 6, 7, 8, 9, 10, 11, 12, 13, 14, 15, 16, 17, 18, 19, 20, 21] (w_Ass cI cL cZ o_Ass a_Ass_0 v_Ass ++ w_Sto cI cL cZ o_Sto a_Sto_0 a_Sto_1 a_Sto_2 a_Sto_3 a_Sto_4 v_Sto ++ w_Tal cI cL cZ o_Tal o_Sto a_Tal_0 a_Tal_1 a_Tal_2 a_Tal_3 r45.1 ++ w_Tra cI cL cZ o_Tra o_Tal a_Tra_0 a_Tra_1 a_Tra_2 a_Tra_3 r45.2.1 ++ w_Sea cI cL cZ o_Sea o_Sto o_Tra o_Tal o_Ass a_Sea_0 a_Sea_1 a_Sea_2 r45.2.2.1) rfl rfl ⟨rfl, a_Sto_0, a_Sto_1, a_Sto_2, a_Sto_4, a_Tal_2, a_Tal_3, a_Sea_2, rfl⟩
        · have hm := ite_f hm h
          refine aj_aload_n X d_Sea_takeTurn_84 4 rfl ?_
          refine aj_iload_n X d_Sea_takeTurn_85 1 rfl ?_
          obtain ⟨r47, h48, hm⟩ := bnd_of hm
          refine aj_callI (wr := [(o_Tal, .inr (4, [.ref o_Sto, .ref a_Tal_0, .ref a_Tal_1, .ref a_Tal_2, .ref a_Tal_3])), (a_Tal_0, .inl (cL, v_Tal.1.1, .inr (.inl v_Tal.1.2))), (a_Tal_1, .inl (cL, v_Tal.2.1.1, .inr (.inl v_Tal.2.1.2))), (a_Tal_2, .inl (cI, v_Tal.2.2.1.1, .inl v_Tal.2.2.1.2)), (a_Tal_3, .inl (cI, v_Tal.2.2.2.1, .inl v_Tal.2.2.2.2))]) X (aj_rV (As := [.int r34]) (rest := []) X N gTB (c_Sea_failBy (D := D) (cI := cI) (cL := cL) (cZ := cZ) o_Ass o_Sto o_Tra o_Tal o_Sea a_Ass_0 a_Sto_0 a_Sto_1 a_Sto_2 a_Sto_3 a_Sto_4 a_Tra_0 a_Tra_1 a_Tra_2 a_Tra_3 a_Sea_0 a_Sea_1 a_Sea_2 v_Ass v_Sto v_Tra v_Sea r34 r47 h48) d_Sea_takeTurn_86 lk_Sea_failBy lw_Sea_100 lh_Sea_failBy ⟨(Nat.le_of_ble_eq_true rfl), (Nat.le_of_ble_eq_true rfl)⟩ [0, 1, 2, 3, 4, 5, 6, 7, 13, 14, 15, 16, 17, 18, 19, 20, 21] rfl rfl 13 rfl rfl rfl rfl (Nat.le_of_ble_eq_true rfl) ⟨kc_le1 hkc, kc_le1 hks⟩) [0, 1, 2, 3, 4, 5, 6, 7, 13, 14, 15, 16, 17, 18, 19, 20, 21] [8, 9, 10, 11, 12] rfl rfl rfl (by decide) (fun rr w1 hO => ?_)
          have hkc := kc_zero hkc
          have hks := kc_zero hks
          obtain ⟨rfl, rfl⟩ := hO
          refine aj_perm (ws' := w_Ass cI cL cZ o_Ass a_Ass_0 v_Ass ++ w_Sto cI cL cZ o_Sto a_Sto_0 a_Sto_1 a_Sto_2 a_Sto_3 a_Sto_4 v_Sto ++ w_Tal cI cL cZ o_Tal o_Sto a_Tal_0 a_Tal_1 a_Tal_2 a_Tal_3 v_Tal ++ w_Tra cI cL cZ o_Tra o_Tal a_Tra_0 a_Tra_1 a_Tra_2 a_Tra_3 v_Tra ++ w_Sea cI cL cZ o_Sea o_Sto o_Tra o_Tal o_Ass a_Sea_0 a_Sea_1 a_Sea_2 r47.1) [5, 6, 7, 8, 9, 10, 11, 12, 0, 1, 2, 3, 4, 13, 14, 15, 16, 17, 18, 19, 20, 21] rfl rfl ?_
          refine aj_goto X 98 d_Sea_takeTurn_89 (by decide) ?_
          obtain ⟨ho, e1, e2⟩ := res_of hm
          subst ho
          obtain rfl := kc_end hkc e1
          obtain rfl := kc_end hks e2
          exact aj_iret X d_Sea_takeTurn_98 hr hlk [0, 1, 2, 3, 4, 5, 6, 7, 8, 9, 10, 11, 12, 13, 14, 15, 16, 17, 18, 19, 20, 21] (w_Ass cI cL cZ o_Ass a_Ass_0 v_Ass ++ w_Sto cI cL cZ o_Sto a_Sto_0 a_Sto_1 a_Sto_2 a_Sto_3 a_Sto_4 v_Sto ++ w_Tal cI cL cZ o_Tal o_Sto a_Tal_0 a_Tal_1 a_Tal_2 a_Tal_3 v_Tal ++ w_Tra cI cL cZ o_Tra o_Tal a_Tra_0 a_Tra_1 a_Tra_2 a_Tra_3 v_Tra ++ w_Sea cI cL cZ o_Sea o_Sto o_Tra o_Tal o_Ass a_Sea_0 a_Sea_1 a_Sea_2 r47.1) rfl rfl ⟨rfl, a_Sto_0, a_Sto_1, a_Sto_2, a_Sto_4, a_Tal_2, a_Tal_3, a_Sea_2, rfl⟩
    · have hm := ite_f hm h
      refine aj_aload_n X d_Sea_takeTurn_44 2 rfl ?_
      refine aj_iload_n X d_Sea_takeTurn_45 0 rfl ?_
      obtain ⟨r49, h50, hm⟩ := bnd_of hm
      refine aj_callI (wr := [(o_Ass, .inr (0, [.int v_Ass.1, .ref a_Ass_0])), (a_Ass_0, .inl (cI, v_Ass.2.1, .inl v_Ass.2.2))]) X (aj_rV (As := [.int r32]) (rest := []) X N gTB (c_Sea_follow (D := D) (cI := cI) (cL := cL) (cZ := cZ) o_Sto o_Tal o_Tra o_Sea o_Ass a_Sto_0 a_Sto_1 a_Sto_2 a_Sto_3 a_Sto_4 a_Tal_0 a_Tal_1 a_Tal_2 a_Tal_3 a_Tra_0 a_Tra_1 a_Tra_2 a_Tra_3 a_Sea_0 a_Sea_1 a_Sea_2 v_Sto v_Sea v_Tal v_Tra r32 r49 h50) d_Sea_takeTurn_46 lk_Sea_follow lw_Sea_85 lh_Sea_follow ⟨(Nat.le_of_ble_eq_true rfl), (Nat.le_of_ble_eq_true rfl)⟩ [2, 3, 4, 5, 6, 7, 8, 9, 10, 11, 12, 13, 14, 15, 16, 17, 18, 19, 20, 21] rfl rfl 16 rfl rfl rfl rfl (Nat.le_of_ble_eq_true rfl) ⟨kc_le1 hkc, kc_le1 hks⟩) [2, 3, 4, 5, 6, 7, 8, 9, 10, 11, 12, 13, 14, 15, 16, 17, 18, 19, 20, 21] [0, 1] rfl rfl rfl (by decide) (fun rr w1 hO => ?_)
      have hkc := kc_zero hkc
      have hks := kc_zero hks
      obtain ⟨rfl, rfl⟩ := hO
      refine aj_perm (ws' := w_Ass cI cL cZ o_Ass a_Ass_0 v_Ass ++ w_Sto cI cL cZ o_Sto a_Sto_0 a_Sto_1 a_Sto_2 a_Sto_3 a_Sto_4 v_Sto ++ w_Tal cI cL cZ o_Tal o_Sto a_Tal_0 a_Tal_1 a_Tal_2 a_Tal_3 r49.1 ++ w_Tra cI cL cZ o_Tra o_Tal a_Tra_0 a_Tra_1 a_Tra_2 a_Tra_3 r49.2.1 ++ w_Sea cI cL cZ o_Sea o_Sto o_Tra o_Tal o_Ass a_Sea_0 a_Sea_1 a_Sea_2 v_Sea) [0, 1, 2, 3, 4, 5, 6, 7, 8, 9, 10, 11, 12, 13, 14, 15, 16, 17, 18, 19, 20, 21] rfl rfl ?_
      obtain ⟨ho, e1, e2⟩ := res_of hm
      subst ho
      obtain rfl := kc_end hkc e1
      obtain rfl := kc_end hks e2
      exact aj_iret X d_Sea_takeTurn_49 hr hlk [0, 1, 2, 3, 4, 5, 6, 7, 8, 9, 10, 11, 12, 13, 14, 15, 16, 17, 18, 19, 20, 21] (w_Ass cI cL cZ o_Ass a_Ass_0 v_Ass ++ w_Sto cI cL cZ o_Sto a_Sto_0 a_Sto_1 a_Sto_2 a_Sto_3 a_Sto_4 v_Sto ++ w_Tal cI cL cZ o_Tal o_Sto a_Tal_0 a_Tal_1 a_Tal_2 a_Tal_3 r49.1 ++ w_Tra cI cL cZ o_Tra o_Tal a_Tra_0 a_Tra_1 a_Tra_2 a_Tra_3 r49.2.1 ++ w_Sea cI cL cZ o_Sea o_Sto o_Tra o_Tal o_Ass a_Sea_0 a_Sea_1 a_Sea_2 v_Sea) rfl rfl ⟨rfl, a_Sto_0, a_Sto_1, a_Sto_2, a_Sto_4, a_Tal_2, a_Tal_3, a_Sea_2, rfl⟩
  · have hm := ite_f hm h
    refine aj_aload_n X d_Sea_takeTurn_12 1 rfl ?_
    refine aj_get X d_Sea_takeTurn_13 in_Sea 18 rfl rfl 4 (by decide) lf_Sea_19 rfl ?_
    refine aj_get X d_Sea_takeTurn_16 in_Tra 13 rfl rfl 1 (by decide) lf_Sea_75 rfl ?_
    refine aj_if_ne X 26 d_Sea_takeTurn_19 (by decide) (fun h => ?_) (fun h => ?_)
    · have hm := ite_f hm h
      refine aj_aload_n X d_Sea_takeTurn_26 1 rfl ?_
      refine aj_iload_n X d_Sea_takeTurn_27 0 rfl ?_
      obtain ⟨r51, h52, hm⟩ := bnd_of hm
      obtain ⟨dc, ds, hm, e1, e2⟩ := addc_of hm
      have hkc := kc_step hkc e1
      have hks := kc_step hks e2
      refine aj_callI (wr := [(o_Ass, .inr (0, [.int v_Ass.1, .ref a_Ass_0])), (a_Ass_0, .inl (cI, v_Ass.2.1, .inl v_Ass.2.2))]) X (aj_rV (As := [.int r30]) (rest := []) X N gTB (c_Sea_learnFrom (D := D) (cI := cI) (cL := cL) (cZ := cZ) o_Sto o_Tal o_Tra o_Sea o_Ass a_Sto_3 a_Tal_0 a_Tal_1 a_Tra_0 a_Tra_1 a_Tra_2 a_Tra_3 a_Sea_0 a_Sea_1 a_Sto_0 a_Sto_1 a_Sto_2 a_Sto_4 a_Tal_2 a_Tal_3 a_Sea_2 v_Sto v_Tal v_Tra v_Sea r30 r51.1 r51.2.1 r51.2.2 h52) d_Sea_takeTurn_28 lk_Sea_learnFrom lw_Sea_78 lh_Sea_learnFrom ⟨(Nat.le_of_ble_eq_true rfl), (Nat.le_of_ble_eq_true rfl)⟩ [2, 3, 4, 5, 6, 7, 8, 9, 10, 11, 12, 13, 14, 15, 16, 17, 18, 19, 20, 21] rfl rfl 16 rfl rfl rfl rfl (Nat.le_of_ble_eq_true rfl) ⟨kc_le hkc, kc_le hks⟩) [2, 3, 4, 5, 6, 7, 8, 9, 10, 11, 12, 13, 14, 15, 16, 17, 18, 19, 20, 21] [0, 1] rfl rfl rfl (by decide) (fun rr w1 hO => ?_)
      obtain ⟨rfl, a53, a54, a55, a56, a57, a58, a59, rfl⟩ := hO
      refine aj_perm (ws' := w_Ass cI cL cZ o_Ass a_Ass_0 v_Ass ++ w_Sto cI cL cZ o_Sto a53 a54 a55 a_Sto_3 a56 r51.1.1 ++ w_Tal cI cL cZ o_Tal o_Sto a_Tal_0 a_Tal_1 a57 a58 r51.1.2.1 ++ w_Tra cI cL cZ o_Tra o_Tal a_Tra_0 a_Tra_1 a_Tra_2 a_Tra_3 r51.1.2.2.1 ++ w_Sea cI cL cZ o_Sea o_Sto o_Tra o_Tal o_Ass a_Sea_0 a_Sea_1 a59 r51.1.2.2.2.1) [0, 1, 2, 3, 4, 5, 6, 7, 8, 9, 10, 11, 12, 13, 14, 15, 16, 17, 18, 19, 20, 21] rfl rfl ?_
      obtain ⟨ho, e1, e2⟩ := res_of hm
      subst ho
      obtain rfl := kc_end hkc e1
      obtain rfl := kc_end hks e2
      exact aj_iret X d_Sea_takeTurn_31 hr hlk [0, 1, 2, 3, 4, 5, 6, 7, 8, 9, 10, 11, 12, 13, 14, 15, 16, 17, 18, 19, 20, 21] (w_Ass cI cL cZ o_Ass a_Ass_0 v_Ass ++ w_Sto cI cL cZ o_Sto a53 a54 a55 a_Sto_3 a56 r51.1.1 ++ w_Tal cI cL cZ o_Tal o_Sto a_Tal_0 a_Tal_1 a57 a58 r51.1.2.1 ++ w_Tra cI cL cZ o_Tra o_Tal a_Tra_0 a_Tra_1 a_Tra_2 a_Tra_3 r51.1.2.2.1 ++ w_Sea cI cL cZ o_Sea o_Sto o_Tra o_Tal o_Ass a_Sea_0 a_Sea_1 a59 r51.1.2.2.2.1) rfl rfl ⟨rfl, a53, a54, a55, a56, a57, a58, a59, rfl⟩
    · have hm := ite_t hm h
      refine aj_iconst (v := (2 : Int32)) X d_Sea_takeTurn_22 (by decide) ?_
      refine aj_goto X 31 d_Sea_takeTurn_23 (by decide) ?_
      obtain ⟨ho, e1, e2⟩ := res_of hm
      subst ho
      obtain rfl := kc_end hkc e1
      obtain rfl := kc_end hks e2
      exact aj_iret X d_Sea_takeTurn_31 hr hlk [0, 1, 2, 3, 4, 5, 6, 7, 8, 9, 10, 11, 12, 13, 14, 15, 16, 17, 18, 19, 20, 21] (w_Ass cI cL cZ o_Ass a_Ass_0 v_Ass ++ w_Sto cI cL cZ o_Sto a_Sto_0 a_Sto_1 a_Sto_2 a_Sto_3 a_Sto_4 v_Sto ++ w_Tal cI cL cZ o_Tal o_Sto a_Tal_0 a_Tal_1 a_Tal_2 a_Tal_3 v_Tal ++ w_Tra cI cL cZ o_Tra o_Tal a_Tra_0 a_Tra_1 a_Tra_2 a_Tra_3 v_Tra ++ w_Sea cI cL cZ o_Sea o_Sto o_Tra o_Tal o_Ass a_Sea_0 a_Sea_1 a_Sea_2 v_Sea) rfl rfl ⟨rfl, a_Sto_0, a_Sto_1, a_Sto_2, a_Sto_4, a_Tal_2, a_Tal_3, a_Sea_2, rfl⟩
abbrev X_Sea_advance (p : Program) (s : State) (m : MethodId) (args : Array Value) (c : Code) (D : va_G) (cI cL cZ : ClassId) (A : Nat → Prop) : Prop := aj_C p s m args c D clss (ty3 cI cL cZ) A b_Sea_advance 5 R_Sea TB
abbrev J_Sea_advance (p : Program) (l : Launch) (e : Env) (s : State) (m : MethodId) (args : Array Value) (below : List Frame) (meth : Method) (c : Code) (D : va_G) (cI cL cZ : ClassId) (A : Nat → Prop) (O : Int32 → va_W → Prop) (mc ms : Nat) (ws : va_W) (kc ks pc : Nat) (lv : List (Nat × Value)) (st : List Value) : Prop := aj p l e { frames := 7, cells := mc, slots := ms, locals := 174 } s m args below meth c (MQ below (qI D clss (ty3 cI cL cZ) O A) args s mc ms A) D clss A 5 ws kc ks pc lv st
def O_Sea_advance (cI cL cZ : ClassId) (o_Ass o_Sto o_Tal o_Tra o_Sea a_Ass_0 a_Sto_3 a_Tal_0 a_Tal_1 a_Tra_0 a_Tra_1 a_Tra_2 a_Tra_3 a_Sea_0 a_Sea_1 : Nat) (v_Ass : T_Ass) (out : T_Sto × T_Tal × T_Tra × T_Sea × Int32) : Int32 → va_W → Prop := fun r w1 => out.2.2.2.2 = r ∧ ∃ (a_Sto_0 a_Sto_1 a_Sto_2 a_Sto_4 a_Tal_2 a_Tal_3 a_Sea_2 : Nat), w1 = w_Ass cI cL cZ o_Ass a_Ass_0 v_Ass ++ w_Sto cI cL cZ o_Sto a_Sto_0 a_Sto_1 a_Sto_2 a_Sto_3 a_Sto_4 out.1 ++ w_Tal cI cL cZ o_Tal o_Sto a_Tal_0 a_Tal_1 a_Tal_2 a_Tal_3 out.2.1 ++ w_Tra cI cL cZ o_Tra o_Tal a_Tra_0 a_Tra_1 a_Tra_2 a_Tra_3 out.2.2.1 ++ w_Sea cI cL cZ o_Sea o_Sto o_Tra o_Tal o_Ass a_Sea_0 a_Sea_1 a_Sea_2 out.2.2.2.1
def m_Sea_advance_L11 (v_Ass : T_Ass) : Nat → T_Sto → T_Tal → T_Tra → T_Sea → Int32 → Option ((T_Sto × T_Tal × T_Tra × T_Sea × Int32) × Nat × Nat)
  | 0, _, _, _, _, _ => none
  | f + 1, v_Sto, v_Tal, v_Tra, v_Sea, x3 => (if (1000000 : Int32) ≤ x3 then (some ((v_Sto, v_Tal, v_Tra, v_Sea, (3 : Int32)), 0, 0)) else ((m_Sea_takeTurn v_Ass v_Sto v_Tal v_Tra v_Sea).bind fun r10 => addc r10.2.1 r10.2.2 (if r10.1.2.2.2.2 = (4 : Int32) then ((m_Sea_advance_L11 v_Ass f) r10.1.1 r10.1.2.1 r10.1.2.2.1 r10.1.2.2.2.1 (x3 + 1)) else (some ((r10.1.1, r10.1.2.1, r10.1.2.2.1, r10.1.2.2.2.1, r10.1.2.2.2.2), 0, 0)))))
set_option maxRecDepth 100000 in
set_option maxHeartbeats 4000000 in
theorem c_Sea_advance_L11 {l : Launch} {D : va_G} {cI cL cZ : ClassId} {p : Program} {e : Env} {s : State} {m : MethodId} {args : Array Value} {below : List Frame} {meth : Method} {c : Code} {A : Nat → Prop} (o_Ass o_Sto o_Tal o_Tra o_Sea a_Ass_0 a_Sto_3 a_Tal_0 a_Tal_1 a_Tra_0 a_Tra_1 a_Tra_2 a_Tra_3 a_Sea_0 a_Sea_1 : Nat) (v_Ass : T_Ass) (out : T_Sto × T_Tal × T_Tra × T_Sea × Int32) (mc ms : Nat) (X : X_Sea_advance p s m args c D cI cL cZ A) (N : nk NM0 NF0 s) (hr : meth.sig.returnType = some .int) (hlk : meth.locks = false) : ∀ (nn : Nat), ∀ (a_Sto_0 a_Sto_1 a_Sto_2 a_Sto_4 a_Tal_2 a_Tal_3 a_Sea_2 : Nat) (v_Sto : T_Sto) (v_Tal : T_Tal) (v_Tra : T_Tra) (v_Sea : T_Sea) (x3 : Int32) (kc ks dc ds : Nat), m_Sea_advance_L11 v_Ass nn v_Sto v_Tal v_Tra v_Sea x3 = some (out, dc, ds) → kc + dc = mc → ks + ds = ms → J_Sea_advance p l e s m args below meth c D cI cL cZ A (O_Sea_advance cI cL cZ o_Ass o_Sto o_Tal o_Tra o_Sea a_Ass_0 a_Sto_3 a_Tal_0 a_Tal_1 a_Tra_0 a_Tra_1 a_Tra_2 a_Tra_3 a_Sea_0 a_Sea_1 v_Ass out) mc ms (w_Ass cI cL cZ o_Ass a_Ass_0 v_Ass ++ w_Sto cI cL cZ o_Sto a_Sto_0 a_Sto_1 a_Sto_2 a_Sto_3 a_Sto_4 v_Sto ++ w_Tal cI cL cZ o_Tal o_Sto a_Tal_0 a_Tal_1 a_Tal_2 a_Tal_3 v_Tal ++ w_Tra cI cL cZ o_Tra o_Tal a_Tra_0 a_Tra_1 a_Tra_2 a_Tra_3 v_Tra ++ w_Sea cI cL cZ o_Sea o_Sto o_Tra o_Tal o_Ass a_Sea_0 a_Sea_1 a_Sea_2 v_Sea) kc ks 11 [(0, .ref o_Sea), (3, .int x3)] [] := by
  intro nn
  induction nn with
  | zero => intro a_Sto_0 a_Sto_1 a_Sto_2 a_Sto_4 a_Tal_2 a_Tal_3 a_Sea_2 v_Sto v_Tal v_Tra v_Sea x3 kc ks dc ds hm hkc hks; exact absurd hm (by simp [m_Sea_advance_L11])
  | succ nn ih11 =>
    intro a_Sto_0 a_Sto_1 a_Sto_2 a_Sto_4 a_Tal_2 a_Tal_3 a_Sea_2 v_Sto v_Tal v_Tra v_Sea x3 kc ks dc ds hm hkc hks
    unfold m_Sea_advance_L11 at hm
    refine aj_iload_n X d_Sea_advance_11 1 rfl ?_
    refine aj_ldc (v := (1000000 : Int32)) X d_Sea_advance_12 lc_Sea_65 ?_
    refine aj_icmp_ge X 38 d_Sea_advance_14 (by decide) (fun h => ?_) (fun h => ?_)
    · have hm := ite_t hm h
      refine aj_iconst (v := (3 : Int32)) X d_Sea_advance_38 (by decide) ?_
      obtain ⟨ho, e1, e2⟩ := res_of hm
      subst ho
      obtain rfl := kc_end hkc e1
      obtain rfl := kc_end hks e2
      exact aj_iret X d_Sea_advance_39 hr hlk [0, 1, 2, 3, 4, 5, 6, 7, 8, 9, 10, 11, 12, 13, 14, 15, 16, 17, 18, 19, 20, 21] (w_Ass cI cL cZ o_Ass a_Ass_0 v_Ass ++ w_Sto cI cL cZ o_Sto a_Sto_0 a_Sto_1 a_Sto_2 a_Sto_3 a_Sto_4 v_Sto ++ w_Tal cI cL cZ o_Tal o_Sto a_Tal_0 a_Tal_1 a_Tal_2 a_Tal_3 v_Tal ++ w_Tra cI cL cZ o_Tra o_Tal a_Tra_0 a_Tra_1 a_Tra_2 a_Tra_3 v_Tra ++ w_Sea cI cL cZ o_Sea o_Sto o_Tra o_Tal o_Ass a_Sea_0 a_Sea_1 a_Sea_2 v_Sea) rfl rfl ⟨rfl, a_Sto_0, a_Sto_1, a_Sto_2, a_Sto_4, a_Tal_2, a_Tal_3, a_Sea_2, rfl⟩
    · have hm := ite_f hm h
      refine aj_aload_n X d_Sea_advance_17 0 rfl ?_
      obtain ⟨r10, h11, hm⟩ := bnd_of hm
      obtain ⟨dc, ds, hm, e1, e2⟩ := addc_of hm
      have hkc := kc_step hkc e1
      have hks := kc_step hks e2
      refine aj_callI (wr := []) X (aj_rV (As := []) (rest := []) X N gTB (c_Sea_takeTurn (D := D) (cI := cI) (cL := cL) (cZ := cZ) o_Ass o_Sto o_Tal o_Tra o_Sea a_Ass_0 a_Sto_3 a_Tal_0 a_Tal_1 a_Tra_0 a_Tra_1 a_Tra_2 a_Tra_3 a_Sea_0 a_Sea_1 a_Sto_0 a_Sto_1 a_Sto_2 a_Sto_4 a_Tal_2 a_Tal_3 a_Sea_2 v_Ass v_Sto v_Tal v_Tra v_Sea r10.1 r10.2.1 r10.2.2 h11) d_Sea_advance_18 lk_Sea_takeTurn lw_Sea_66 lh_Sea_takeTurn ⟨(Nat.le_of_ble_eq_true rfl), (Nat.le_of_ble_eq_true rfl)⟩ [0, 1, 2, 3, 4, 5, 6, 7, 8, 9, 10, 11, 12, 13, 14, 15, 16, 17, 18, 19, 20, 21] rfl rfl 18 rfl rfl rfl rfl (Nat.le_of_ble_eq_true rfl) ⟨kc_le hkc, kc_le hks⟩) [0, 1, 2, 3, 4, 5, 6, 7, 8, 9, 10, 11, 12, 13, 14, 15, 16, 17, 18, 19, 20, 21] [] rfl rfl rfl (by decide) (fun rr w1 hO => ?_)
      obtain ⟨rfl, a12, a13, a14, a15, a16, a17, a18, rfl⟩ := hO
      refine aj_perm (ws' := w_Ass cI cL cZ o_Ass a_Ass_0 v_Ass ++ w_Sto cI cL cZ o_Sto a12 a13 a14 a_Sto_3 a15 r10.1.1 ++ w_Tal cI cL cZ o_Tal o_Sto a_Tal_0 a_Tal_1 a16 a17 r10.1.2.1 ++ w_Tra cI cL cZ o_Tra o_Tal a_Tra_0 a_Tra_1 a_Tra_2 a_Tra_3 r10.1.2.2.1 ++ w_Sea cI cL cZ o_Sea o_Sto o_Tra o_Tal o_Ass a_Sea_0 a_Sea_1 a18 r10.1.2.2.2.1) [0, 1, 2, 3, 4, 5, 6, 7, 8, 9, 10, 11, 12, 13, 14, 15, 16, 17, 18, 19, 20, 21] rfl rfl ?_
      refine aj_istore (lv' := [(4, .int r10.1.2.2.2.2), (0, .ref o_Sea), (3, .int x3)]) X d_Sea_advance_21 (by decide) rfl ?_
      refine aj_iload X d_Sea_advance_23 0 rfl ?_
      refine aj_iconst (v := (4 : Int32)) X d_Sea_advance_25 (by decide) ?_
      refine aj_icmp_eq X 32 d_Sea_advance_26 (by decide) (fun h => ?_) (fun h => ?_)
      · have hm := ite_t hm h
        refine aj_iinc (v := (x3 + 1)) (lv' := [(3, .int (x3 + 1)), (4, .int r10.1.2.2.2.2), (0, .ref o_Sea)]) X d_Sea_advance_32 2 rfl rfl (by decide) rfl ?_
        refine aj_goto X 11 d_Sea_advance_35 (by decide) ?_
        refine aj_lv (lv' := [(0, .ref o_Sea), (3, .int (x3 + 1))]) [2, 0] rfl ?_
        exact ih11 a12 a13 a14 a15 a16 a17 a18 r10.1.1 r10.1.2.1 r10.1.2.2.1 r10.1.2.2.2.1 (x3 + 1) (kc + r10.2.1) (ks + r10.2.2) _ _ hm hkc hks
      · have hm := ite_f hm h
        refine aj_iload X d_Sea_advance_29 0 rfl ?_
        obtain ⟨ho, e1, e2⟩ := res_of hm
        subst ho
        obtain rfl := kc_end hkc e1
        obtain rfl := kc_end hks e2
        exact aj_iret X d_Sea_advance_31 hr hlk [0, 1, 2, 3, 4, 5, 6, 7, 8, 9, 10, 11, 12, 13, 14, 15, 16, 17, 18, 19, 20, 21] (w_Ass cI cL cZ o_Ass a_Ass_0 v_Ass ++ w_Sto cI cL cZ o_Sto a12 a13 a14 a_Sto_3 a15 r10.1.1 ++ w_Tal cI cL cZ o_Tal o_Sto a_Tal_0 a_Tal_1 a16 a17 r10.1.2.1 ++ w_Tra cI cL cZ o_Tra o_Tal a_Tra_0 a_Tra_1 a_Tra_2 a_Tra_3 r10.1.2.2.1 ++ w_Sea cI cL cZ o_Sea o_Sto o_Tra o_Tal o_Ass a_Sea_0 a_Sea_1 a18 r10.1.2.2.2.1) rfl rfl ⟨rfl, a12, a13, a14, a15, a16, a17, a18, rfl⟩
def m_Sea_advance (v_Ass : T_Ass) (v_Sto : T_Sto) (v_Tal : T_Tal) (v_Tra : T_Tra) (v_Sea : T_Sea) (x1 : Int64) : Option ((T_Sto × T_Tal × T_Tra × T_Sea × Int32) × Nat × Nat) := (m_Sea_advance_L11 v_Ass fu v_Sto v_Tal v_Tra (v_Sea.1, v_Sea.2.1, v_Sea.2.2.1, v_Sea.2.2.2.1, v_Sea.2.2.2.2.1, v_Sea.2.2.2.2.2.1, v_Sea.2.2.2.2.2.2.1, (if x1 < (0 : Int64) then (0 : Int64) else x1)) (0 : Int32))
set_option maxRecDepth 100000 in
set_option maxHeartbeats 4000000 in
theorem c_Sea_advance {l : Launch} {D : va_G} {cI cL cZ : ClassId} (o_Ass o_Sto o_Tal o_Tra o_Sea a_Ass_0 a_Sto_3 a_Tal_0 a_Tal_1 a_Tra_0 a_Tra_1 a_Tra_2 a_Tra_3 a_Sea_0 a_Sea_1 : Nat) (a_Sto_0 a_Sto_1 a_Sto_2 a_Sto_4 a_Tal_2 a_Tal_3 a_Sea_2 : Nat) (v_Ass : T_Ass) (v_Sto : T_Sto) (v_Tal : T_Tal) (v_Tra : T_Tra) (v_Sea : T_Sea) (x1 : Int64) (out : T_Sto × T_Tal × T_Tra × T_Sea × Int32) (mc ms : Nat) (hm : m_Sea_advance v_Ass v_Sto v_Tal v_Tra v_Sea x1 = some (out, mc, ms)) : ct l y_Sea_advance (Cond.code y_Sea_advance b_Sea_advance 5 (some .int) :: TB) 7 174 D clss (ty3 cI cL cZ) NM0 NF0 [.ref o_Sea, .long x1] (w_Ass cI cL cZ o_Ass a_Ass_0 v_Ass ++ w_Sto cI cL cZ o_Sto a_Sto_0 a_Sto_1 a_Sto_2 a_Sto_3 a_Sto_4 v_Sto ++ w_Tal cI cL cZ o_Tal o_Sto a_Tal_0 a_Tal_1 a_Tal_2 a_Tal_3 v_Tal ++ w_Tra cI cL cZ o_Tra o_Tal a_Tra_0 a_Tra_1 a_Tra_2 a_Tra_3 v_Tra ++ w_Sea cI cL cZ o_Sea o_Sto o_Tra o_Tal o_Ass a_Sea_0 a_Sea_1 a_Sea_2 v_Sea) (qI D clss (ty3 cI cL cZ) (O_Sea_advance cI cL cZ o_Ass o_Sto o_Tal o_Tra o_Sea a_Ass_0 a_Sto_3 a_Tal_0 a_Tal_1 a_Tra_0 a_Tra_1 a_Tra_2 a_Tra_3 a_Sea_0 a_Sea_1 v_Ass out)) mc ms := by
  refine ct_of (plainFor_of_name (by decide)) (Nat.le_of_ble_eq_true rfl) (fun p e s m args below meth c A X N hr hlk hnm => ?_)
  refine aj_lv (lv' := [(0, .ref o_Sea), (1, .long x1)]) [0, 1] rfl ?_
  unfold m_Sea_advance at hm
  have hkc : 0 + mc = mc := Nat.zero_add _
  have hks : 0 + ms = ms := Nat.zero_add _
  refine aj_aload_n X d_Sea_advance_0 0 rfl ?_
  refine aj_lconst (v := (0 : Int64)) X d_Sea_advance_1 (by decide) ?_
  refine aj_lload_n X d_Sea_advance_2 1 rfl ?_
  refine aj_mmaxL X d_Sea_advance_3 lm_Sea_59.1 lm_Sea_59.2.1 lm_Sea_59.2.2.1 lm_Sea_59.2.2.2 (Nat.le_of_ble_eq_true rfl) (Nat.le_of_ble_eq_true rfl) (kc_le0 hkc) (kc_le0 hks) ?_
  refine aj_put (ws' := w_Ass cI cL cZ o_Ass a_Ass_0 v_Ass ++ w_Sto cI cL cZ o_Sto a_Sto_0 a_Sto_1 a_Sto_2 a_Sto_3 a_Sto_4 v_Sto ++ w_Tal cI cL cZ o_Tal o_Sto a_Tal_0 a_Tal_1 a_Tal_2 a_Tal_3 v_Tal ++ w_Tra cI cL cZ o_Tra o_Tal a_Tra_0 a_Tra_1 a_Tra_2 a_Tra_3 v_Tra ++ w_Sea cI cL cZ o_Sea o_Sto o_Tra o_Tal o_Ass a_Sea_0 a_Sea_1 a_Sea_2 (v_Sea.1, v_Sea.2.1, v_Sea.2.2.1, v_Sea.2.2.2.1, v_Sea.2.2.2.2.1, v_Sea.2.2.2.2.2.1, v_Sea.2.2.2.2.2.2.1, (if x1 < (0 : Int64) then (0 : Int64) else x1))) X d_Sea_advance_6 in_Sea ty_Sea tyok_Sea nmx_Sea 18 rfl rfl 11 (by decide) lf_Sea_51 rfl rfl rfl (Nat.le_of_ble_eq_true rfl) rfl ?_
  refine aj_iconst (v := (0 : Int32)) X d_Sea_advance_9 (by decide) ?_
  refine aj_istore_n (lv' := [(3, .int (0 : Int32)), (0, .ref o_Sea), (1, .long x1)]) X d_Sea_advance_10 rfl (by decide) rfl ?_
  refine aj_lv (lv' := [(0, .ref o_Sea), (3, .int (0 : Int32))]) [1, 0] rfl ?_
  exact c_Sea_advance_L11 o_Ass o_Sto o_Tal o_Tra o_Sea a_Ass_0 a_Sto_3 a_Tal_0 a_Tal_1 a_Tra_0 a_Tra_1 a_Tra_2 a_Tra_3 a_Sea_0 a_Sea_1 v_Ass out mc ms X N hr hlk fu a_Sto_0 a_Sto_1 a_Sto_2 a_Sto_4 a_Tal_2 a_Tal_3 a_Sea_2 v_Sto v_Tal v_Tra (v_Sea.1, v_Sea.2.1, v_Sea.2.2.1, v_Sea.2.2.2.1, v_Sea.2.2.2.2.1, v_Sea.2.2.2.2.2.1, v_Sea.2.2.2.2.2.2.1, (if x1 < (0 : Int64) then (0 : Int64) else x1)) (0 : Int32) 0 0 _ _ hm hkc hks
abbrev X_CS_run (p : Program) (s : State) (m : MethodId) (args : Array Value) (c : Code) (D : va_G) (cI cL cZ : ClassId) (A : Nat → Prop) : Prop := aj_C p s m args c D clss (ty3 cI cL cZ) A b_CS_run 3 R_CS TB
abbrev J_CS_run (p : Program) (l : Launch) (e : Env) (s : State) (m : MethodId) (args : Array Value) (below : List Frame) (meth : Method) (c : Code) (D : va_G) (cI cL cZ : ClassId) (A : Nat → Prop) (O : Int32 → va_W → Prop) (mc ms : Nat) (ws : va_W) (kc ks pc : Nat) (lv : List (Nat × Value)) (st : List Value) : Prop := aj p l e { frames := 8, cells := mc, slots := ms, locals := 198 } s m args below meth c (MQ below (qI D clss (ty3 cI cL cZ) O A) args s mc ms A) D clss A 3 ws kc ks pc lv st
def O_CS_run (cI cL cZ : ClassId) (o_CS o_Sto o_Pla o_Ass o_Tra o_Sea o_Tal a_Ass_0 a_Sto_3 a_Tal_0 a_Tal_1 a_Tra_0 a_Tra_1 a_Tra_2 a_Tra_3 a_Sea_0 a_Sea_1 : Nat) (v_Ass : T_Ass) (out : T_CS × T_Sto × T_Tal × T_Tra × T_Sea × Int32) : Int32 → va_W → Prop := fun r w1 => out.2.2.2.2.2 = r ∧ ∃ (a_Sto_0 a_Sto_1 a_Sto_2 a_Sto_4 a_Tal_2 a_Tal_3 a_Sea_2 : Nat), w1 = w_CS cI cL cZ o_CS o_Sto o_Pla o_Ass o_Tra o_Sea out.1 ++ w_Ass cI cL cZ o_Ass a_Ass_0 v_Ass ++ w_Sto cI cL cZ o_Sto a_Sto_0 a_Sto_1 a_Sto_2 a_Sto_3 a_Sto_4 out.2.1 ++ w_Tal cI cL cZ o_Tal o_Sto a_Tal_0 a_Tal_1 a_Tal_2 a_Tal_3 out.2.2.1 ++ w_Tra cI cL cZ o_Tra o_Tal a_Tra_0 a_Tra_1 a_Tra_2 a_Tra_3 out.2.2.2.1 ++ w_Sea cI cL cZ o_Sea o_Sto o_Tra o_Tal o_Ass a_Sea_0 a_Sea_1 a_Sea_2 out.2.2.2.2.1
def m_CS_run (v_Ass : T_Ass) (v_CS : T_CS) (v_Sto : T_Sto) (v_Tal : T_Tal) (v_Tra : T_Tra) (v_Sea : T_Sea) (x1 : Int64) : Option ((T_CS × T_Sto × T_Tal × T_Tra × T_Sea × Int32) × Nat × Nat) := ((m_Sea_begin v_Sto v_Tal v_Tra v_Sea).bind fun r14 => addc r14.2.1 r14.2.2 ((m_Sea_advance v_Ass v_Sto r14.1.1 r14.1.2.1 r14.1.2.2 x1).bind fun r18 => addc r18.2.1 r18.2.2 (some (((v_CS.1, v_CS.2.1, r18.1.2.2.2.2), r18.1.1, r18.1.2.1, r18.1.2.2.1, r18.1.2.2.2.1, r18.1.2.2.2.2), 0, 0))))
set_option maxRecDepth 100000 in
set_option maxHeartbeats 4000000 in
theorem c_CS_run {l : Launch} {D : va_G} {cI cL cZ : ClassId} (o_CS o_Sto o_Pla o_Ass o_Tra o_Sea o_Tal a_Ass_0 a_Sto_3 a_Tal_0 a_Tal_1 a_Tra_0 a_Tra_1 a_Tra_2 a_Tra_3 a_Sea_0 a_Sea_1 : Nat) (a_Sto_0 a_Sto_1 a_Sto_2 a_Sto_4 a_Tal_2 a_Tal_3 a_Sea_2 : Nat) (v_Ass : T_Ass) (v_CS : T_CS) (v_Sto : T_Sto) (v_Tal : T_Tal) (v_Tra : T_Tra) (v_Sea : T_Sea) (x1 : Int64) (out : T_CS × T_Sto × T_Tal × T_Tra × T_Sea × Int32) (mc ms : Nat) (hm : m_CS_run v_Ass v_CS v_Sto v_Tal v_Tra v_Sea x1 = some (out, mc, ms)) : ct l y_CS_run (Cond.code y_CS_run b_CS_run 3 (some .int) :: TB) 8 198 D clss (ty3 cI cL cZ) NM0 NF0 [.ref o_CS, .long x1] (w_CS cI cL cZ o_CS o_Sto o_Pla o_Ass o_Tra o_Sea v_CS ++ w_Ass cI cL cZ o_Ass a_Ass_0 v_Ass ++ w_Sto cI cL cZ o_Sto a_Sto_0 a_Sto_1 a_Sto_2 a_Sto_3 a_Sto_4 v_Sto ++ w_Tal cI cL cZ o_Tal o_Sto a_Tal_0 a_Tal_1 a_Tal_2 a_Tal_3 v_Tal ++ w_Tra cI cL cZ o_Tra o_Tal a_Tra_0 a_Tra_1 a_Tra_2 a_Tra_3 v_Tra ++ w_Sea cI cL cZ o_Sea o_Sto o_Tra o_Tal o_Ass a_Sea_0 a_Sea_1 a_Sea_2 v_Sea) (qI D clss (ty3 cI cL cZ) (O_CS_run cI cL cZ o_CS o_Sto o_Pla o_Ass o_Tra o_Sea o_Tal a_Ass_0 a_Sto_3 a_Tal_0 a_Tal_1 a_Tra_0 a_Tra_1 a_Tra_2 a_Tra_3 a_Sea_0 a_Sea_1 v_Ass out)) mc ms := by
  refine ct_of (plainFor_of_name (by decide)) (Nat.le_of_ble_eq_true rfl) (fun p e s m args below meth c A X N hr hlk hnm => ?_)
  refine aj_lv (lv' := [(0, .ref o_CS), (1, .long x1)]) [0, 1] rfl ?_
  unfold m_CS_run at hm
  have hkc : 0 + mc = mc := Nat.zero_add _
  have hks : 0 + ms = ms := Nat.zero_add _
  refine aj_aload_n X d_CS_run_0 0 rfl ?_
  refine aj_get X d_CS_run_1 in_CS 0 rfl rfl 5 (by decide) lf_CS_64 rfl ?_
  obtain ⟨r14, h15, hm⟩ := bnd_of hm
  obtain ⟨dc, ds, hm, e1, e2⟩ := addc_of hm
  have hkc := kc_step hkc e1
  have hks := kc_step hks e2
  refine aj_callV (wr := [(o_CS, .inr (6, [.int v_CS.1, .ref o_Sto, .ref o_Pla, .ref o_Ass, .ref o_Tra, .ref o_Sea, .int v_CS.2.1, .int v_CS.2.2])), (o_Ass, .inr (0, [.int v_Ass.1, .ref a_Ass_0])), (a_Ass_0, .inl (cI, v_Ass.2.1, .inl v_Ass.2.2))]) X (aj_rV (As := []) (rest := []) X N gTB (c_Sea_begin (D := D) (cI := cI) (cL := cL) (cZ := cZ) o_Sto o_Tal o_Tra o_Sea o_Ass a_Sto_0 a_Sto_1 a_Sto_2 a_Sto_3 a_Sto_4 a_Tal_0 a_Tal_1 a_Tra_0 a_Tra_1 a_Tra_2 a_Tra_3 a_Sea_0 a_Sea_1 a_Sea_2 a_Tal_2 a_Tal_3 v_Sto v_Tal v_Tra v_Sea r14.1 r14.2.1 r14.2.2 h15) d_CS_run_4 lk_Sea_begin lw_CS_122 lh_Sea_begin ⟨(Nat.le_of_ble_eq_true rfl), (Nat.le_of_ble_eq_true rfl)⟩ [3, 4, 5, 6, 7, 8, 9, 10, 11, 12, 13, 14, 15, 16, 17, 18, 19, 20, 21, 22] rfl rfl 16 rfl rfl rfl rfl (Nat.le_of_ble_eq_true rfl) ⟨kc_le hkc, kc_le hks⟩) [3, 4, 5, 6, 7, 8, 9, 10, 11, 12, 13, 14, 15, 16, 17, 18, 19, 20, 21, 22] [0, 1, 2] rfl rfl rfl (by decide) (fun w1 hO => ?_)
  obtain ⟨a16, a17, rfl⟩ := hO
  refine aj_perm (ws' := w_CS cI cL cZ o_CS o_Sto o_Pla o_Ass o_Tra o_Sea v_CS ++ w_Ass cI cL cZ o_Ass a_Ass_0 v_Ass ++ w_Sto cI cL cZ o_Sto a_Sto_0 a_Sto_1 a_Sto_2 a_Sto_3 a_Sto_4 v_Sto ++ w_Tal cI cL cZ o_Tal o_Sto a_Tal_0 a_Tal_1 a16 a17 r14.1.1 ++ w_Tra cI cL cZ o_Tra o_Tal a_Tra_0 a_Tra_1 a_Tra_2 a_Tra_3 r14.1.2.1 ++ w_Sea cI cL cZ o_Sea o_Sto o_Tra o_Tal o_Ass a_Sea_0 a_Sea_1 a_Sea_2 r14.1.2.2) [0, 1, 2, 3, 4, 5, 6, 7, 8, 9, 10, 11, 12, 13, 14, 15, 16, 17, 18, 19, 20, 21, 22] rfl rfl ?_
  refine aj_aload_n X d_CS_run_7 0 rfl ?_
  refine aj_aload_n X d_CS_run_8 0 rfl ?_
  refine aj_get X d_CS_run_9 in_CS 0 rfl rfl 5 (by decide) lf_CS_64 rfl ?_
  refine aj_lload_n X d_CS_run_12 1 rfl ?_
  obtain ⟨r18, h19, hm⟩ := bnd_of hm
  obtain ⟨dc, ds, hm, e1, e2⟩ := addc_of hm
  have hkc := kc_step hkc e1
  have hks := kc_step hks e2
  refine aj_callI (wr := [(o_CS, .inr (6, [.int v_CS.1, .ref o_Sto, .ref o_Pla, .ref o_Ass, .ref o_Tra, .ref o_Sea, .int v_CS.2.1, .int v_CS.2.2]))]) X (aj_rV (As := [.long x1]) (rest := [.ref o_CS]) X N gTB (c_Sea_advance (D := D) (cI := cI) (cL := cL) (cZ := cZ) o_Ass o_Sto o_Tal o_Tra o_Sea a_Ass_0 a_Sto_3 a_Tal_0 a_Tal_1 a_Tra_0 a_Tra_1 a_Tra_2 a_Tra_3 a_Sea_0 a_Sea_1 a_Sto_0 a_Sto_1 a_Sto_2 a_Sto_4 a16 a17 a_Sea_2 v_Ass v_Sto r14.1.1 r14.1.2.1 r14.1.2.2 x1 r18.1 r18.2.1 r18.2.2 h19) d_CS_run_13 lk_Sea_advance lw_CS_125 lh_Sea_advance ⟨(Nat.le_of_ble_eq_true rfl), (Nat.le_of_ble_eq_true rfl)⟩ [1, 2, 3, 4, 5, 6, 7, 8, 9, 10, 11, 12, 13, 14, 15, 16, 17, 18, 19, 20, 21, 22] rfl rfl 18 rfl rfl rfl rfl (Nat.le_of_ble_eq_true rfl) ⟨kc_le hkc, kc_le hks⟩) [1, 2, 3, 4, 5, 6, 7, 8, 9, 10, 11, 12, 13, 14, 15, 16, 17, 18, 19, 20, 21, 22] [0] rfl rfl rfl (by decide) (fun rr w1 hO => ?_)
  obtain ⟨rfl, a20, a21, a22, a23, a24, a25, a26, rfl⟩ := hO
  refine aj_perm (ws' := w_CS cI cL cZ o_CS o_Sto o_Pla o_Ass o_Tra o_Sea v_CS ++ w_Ass cI cL cZ o_Ass a_Ass_0 v_Ass ++ w_Sto cI cL cZ o_Sto a20 a21 a22 a_Sto_3 a23 r18.1.1 ++ w_Tal cI cL cZ o_Tal o_Sto a_Tal_0 a_Tal_1 a24 a25 r18.1.2.1 ++ w_Tra cI cL cZ o_Tra o_Tal a_Tra_0 a_Tra_1 a_Tra_2 a_Tra_3 r18.1.2.2.1 ++ w_Sea cI cL cZ o_Sea o_Sto o_Tra o_Tal o_Ass a_Sea_0 a_Sea_1 a26 r18.1.2.2.2.1) [0, 1, 2, 3, 4, 5, 6, 7, 8, 9, 10, 11, 12, 13, 14, 15, 16, 17, 18, 19, 20, 21, 22] rfl rfl ?_
  refine aj_put (ws' := w_CS cI cL cZ o_CS o_Sto o_Pla o_Ass o_Tra o_Sea (v_CS.1, v_CS.2.1, r18.1.2.2.2.2) ++ w_Ass cI cL cZ o_Ass a_Ass_0 v_Ass ++ w_Sto cI cL cZ o_Sto a20 a21 a22 a_Sto_3 a23 r18.1.1 ++ w_Tal cI cL cZ o_Tal o_Sto a_Tal_0 a_Tal_1 a24 a25 r18.1.2.1 ++ w_Tra cI cL cZ o_Tra o_Tal a_Tra_0 a_Tra_1 a_Tra_2 a_Tra_3 r18.1.2.2.1 ++ w_Sea cI cL cZ o_Sea o_Sto o_Tra o_Tal o_Ass a_Sea_0 a_Sea_1 a26 r18.1.2.2.2.1) X d_CS_run_16 in_CS ty_CS tyok_CS nmx_CS 0 rfl rfl 7 (by decide) lf_CS_71 rfl rfl rfl (Nat.le_of_ble_eq_true rfl) rfl ?_
  refine aj_aload_n X d_CS_run_19 0 rfl ?_
  refine aj_get X d_CS_run_20 in_CS 0 rfl rfl 7 (by decide) lf_CS_71 rfl ?_
  obtain ⟨ho, e1, e2⟩ := res_of hm
  subst ho
  obtain rfl := kc_end hkc e1
  obtain rfl := kc_end hks e2
  exact aj_iret X d_CS_run_23 hr hlk [0, 1, 2, 3, 4, 5, 6, 7, 8, 9, 10, 11, 12, 13, 14, 15, 16, 17, 18, 19, 20, 21, 22] (w_CS cI cL cZ o_CS o_Sto o_Pla o_Ass o_Tra o_Sea (v_CS.1, v_CS.2.1, r18.1.2.2.2.2) ++ w_Ass cI cL cZ o_Ass a_Ass_0 v_Ass ++ w_Sto cI cL cZ o_Sto a20 a21 a22 a_Sto_3 a23 r18.1.1 ++ w_Tal cI cL cZ o_Tal o_Sto a_Tal_0 a_Tal_1 a24 a25 r18.1.2.1 ++ w_Tra cI cL cZ o_Tra o_Tal a_Tra_0 a_Tra_1 a_Tra_2 a_Tra_3 r18.1.2.2.1 ++ w_Sea cI cL cZ o_Sea o_Sto o_Tra o_Tal o_Ass a_Sea_0 a_Sea_1 a26 r18.1.2.2.2.1) rfl rfl ⟨rfl, a20, a21, a22, a23, a24, a25, a26, rfl⟩
abbrev X_CS_goOn (p : Program) (s : State) (m : MethodId) (args : Array Value) (c : Code) (D : va_G) (cI cL cZ : ClassId) (A : Nat → Prop) : Prop := aj_C p s m args c D clss (ty3 cI cL cZ) A b_CS_goOn 3 R_CS TB
abbrev J_CS_goOn (p : Program) (l : Launch) (e : Env) (s : State) (m : MethodId) (args : Array Value) (below : List Frame) (meth : Method) (c : Code) (D : va_G) (cI cL cZ : ClassId) (A : Nat → Prop) (O : Int32 → va_W → Prop) (mc ms : Nat) (ws : va_W) (kc ks pc : Nat) (lv : List (Nat × Value)) (st : List Value) : Prop := aj p l e { frames := 8, cells := mc, slots := ms, locals := 198 } s m args below meth c (MQ below (qI D clss (ty3 cI cL cZ) O A) args s mc ms A) D clss A 3 ws kc ks pc lv st
def O_CS_goOn (cI cL cZ : ClassId) (o_CS o_Sto o_Pla o_Ass o_Tra o_Sea o_Tal a_Ass_0 a_Sto_3 a_Tal_0 a_Tal_1 a_Tra_0 a_Tra_1 a_Tra_2 a_Tra_3 a_Sea_0 a_Sea_1 : Nat) (v_Ass : T_Ass) (out : T_CS × T_Sto × T_Tal × T_Tra × T_Sea × Int32) : Int32 → va_W → Prop := fun r w1 => out.2.2.2.2.2 = r ∧ ∃ (a_Sto_0 a_Sto_1 a_Sto_2 a_Sto_4 a_Tal_2 a_Tal_3 a_Sea_2 : Nat), w1 = w_CS cI cL cZ o_CS o_Sto o_Pla o_Ass o_Tra o_Sea out.1 ++ w_Ass cI cL cZ o_Ass a_Ass_0 v_Ass ++ w_Sto cI cL cZ o_Sto a_Sto_0 a_Sto_1 a_Sto_2 a_Sto_3 a_Sto_4 out.2.1 ++ w_Tal cI cL cZ o_Tal o_Sto a_Tal_0 a_Tal_1 a_Tal_2 a_Tal_3 out.2.2.1 ++ w_Tra cI cL cZ o_Tra o_Tal a_Tra_0 a_Tra_1 a_Tra_2 a_Tra_3 out.2.2.2.1 ++ w_Sea cI cL cZ o_Sea o_Sto o_Tra o_Tal o_Ass a_Sea_0 a_Sea_1 a_Sea_2 out.2.2.2.2.1
def m_CS_goOn (v_Ass : T_Ass) (v_CS : T_CS) (v_Sto : T_Sto) (v_Tal : T_Tal) (v_Tra : T_Tra) (v_Sea : T_Sea) (x1 : Int64) : Option ((T_CS × T_Sto × T_Tal × T_Tra × T_Sea × Int32) × Nat × Nat) := (if v_CS.2.2 = (3 : Int32) then ((m_Sea_advance v_Ass v_Sto v_Tal v_Tra v_Sea x1).bind fun r10 => addc r10.2.1 r10.2.2 (if r10.1.2.2.2.2 = (3 : Int32) then (some (((v_CS.1, v_CS.2.1, r10.1.2.2.2.2), r10.1.1, r10.1.2.1, r10.1.2.2.1, r10.1.2.2.2.1, (0 : Int32)), 0, 0)) else (some (((v_CS.1, v_CS.2.1, r10.1.2.2.2.2), r10.1.1, r10.1.2.1, r10.1.2.2.1, r10.1.2.2.2.1, (1 : Int32)), 0, 0)))) else (some ((v_CS, v_Sto, v_Tal, v_Tra, v_Sea, (0 : Int32)), 0, 0)))
set_option maxRecDepth 100000 in
set_option maxHeartbeats 4000000 in
theorem c_CS_goOn {l : Launch} {D : va_G} {cI cL cZ : ClassId} (o_CS o_Sto o_Pla o_Ass o_Tra o_Sea o_Tal a_Ass_0 a_Sto_3 a_Tal_0 a_Tal_1 a_Tra_0 a_Tra_1 a_Tra_2 a_Tra_3 a_Sea_0 a_Sea_1 : Nat) (a_Sto_0 a_Sto_1 a_Sto_2 a_Sto_4 a_Tal_2 a_Tal_3 a_Sea_2 : Nat) (v_Ass : T_Ass) (v_CS : T_CS) (v_Sto : T_Sto) (v_Tal : T_Tal) (v_Tra : T_Tra) (v_Sea : T_Sea) (x1 : Int64) (out : T_CS × T_Sto × T_Tal × T_Tra × T_Sea × Int32) (mc ms : Nat) (hm : m_CS_goOn v_Ass v_CS v_Sto v_Tal v_Tra v_Sea x1 = some (out, mc, ms)) : ct l y_CS_goOn (Cond.code y_CS_goOn b_CS_goOn 3 (some .boolean) :: TB) 8 198 D clss (ty3 cI cL cZ) NM0 NF0 [.ref o_CS, .long x1] (w_CS cI cL cZ o_CS o_Sto o_Pla o_Ass o_Tra o_Sea v_CS ++ w_Ass cI cL cZ o_Ass a_Ass_0 v_Ass ++ w_Sto cI cL cZ o_Sto a_Sto_0 a_Sto_1 a_Sto_2 a_Sto_3 a_Sto_4 v_Sto ++ w_Tal cI cL cZ o_Tal o_Sto a_Tal_0 a_Tal_1 a_Tal_2 a_Tal_3 v_Tal ++ w_Tra cI cL cZ o_Tra o_Tal a_Tra_0 a_Tra_1 a_Tra_2 a_Tra_3 v_Tra ++ w_Sea cI cL cZ o_Sea o_Sto o_Tra o_Tal o_Ass a_Sea_0 a_Sea_1 a_Sea_2 v_Sea) (qI D clss (ty3 cI cL cZ) (O_CS_goOn cI cL cZ o_CS o_Sto o_Pla o_Ass o_Tra o_Sea o_Tal a_Ass_0 a_Sto_3 a_Tal_0 a_Tal_1 a_Tra_0 a_Tra_1 a_Tra_2 a_Tra_3 a_Sea_0 a_Sea_1 v_Ass out)) mc ms := by
  refine ct_of (plainFor_of_name (by decide)) (Nat.le_of_ble_eq_true rfl) (fun p e s m args below meth c A X N hr hlk hnm => ?_)
  refine aj_lv (lv' := [(0, .ref o_CS), (1, .long x1)]) [0, 1] rfl ?_
  unfold m_CS_goOn at hm
  have hkc : 0 + mc = mc := Nat.zero_add _
  have hks : 0 + ms = ms := Nat.zero_add _
  refine aj_aload_n X d_CS_goOn_0 0 rfl ?_
  refine aj_get X d_CS_goOn_1 in_CS 0 rfl rfl 7 (by decide) lf_CS_71 rfl ?_
  refine aj_iconst (v := (3 : Int32)) X d_CS_goOn_4 (by decide) ?_
  refine aj_icmp_eq X 10 d_CS_goOn_5 (by decide) (fun h => ?_) (fun h => ?_)
  · have hm := ite_t hm h
    refine aj_aload_n X d_CS_goOn_10 0 rfl ?_
    refine aj_aload_n X d_CS_goOn_11 0 rfl ?_
    refine aj_get X d_CS_goOn_12 in_CS 0 rfl rfl 5 (by decide) lf_CS_64 rfl ?_
    refine aj_lload_n X d_CS_goOn_15 1 rfl ?_
    obtain ⟨r10, h11, hm⟩ := bnd_of hm
    obtain ⟨dc, ds, hm, e1, e2⟩ := addc_of hm
    have hkc := kc_step hkc e1
    have hks := kc_step hks e2
    refine aj_callI (wr := [(o_CS, .inr (6, [.int v_CS.1, .ref o_Sto, .ref o_Pla, .ref o_Ass, .ref o_Tra, .ref o_Sea, .int v_CS.2.1, .int v_CS.2.2]))]) X (aj_rV (As := [.long x1]) (rest := [.ref o_CS]) X N gTB (c_Sea_advance (D := D) (cI := cI) (cL := cL) (cZ := cZ) o_Ass o_Sto o_Tal o_Tra o_Sea a_Ass_0 a_Sto_3 a_Tal_0 a_Tal_1 a_Tra_0 a_Tra_1 a_Tra_2 a_Tra_3 a_Sea_0 a_Sea_1 a_Sto_0 a_Sto_1 a_Sto_2 a_Sto_4 a_Tal_2 a_Tal_3 a_Sea_2 v_Ass v_Sto v_Tal v_Tra v_Sea x1 r10.1 r10.2.1 r10.2.2 h11) d_CS_goOn_16 lk_Sea_advance lw_CS_125 lh_Sea_advance ⟨(Nat.le_of_ble_eq_true rfl), (Nat.le_of_ble_eq_true rfl)⟩ [1, 2, 3, 4, 5, 6, 7, 8, 9, 10, 11, 12, 13, 14, 15, 16, 17, 18, 19, 20, 21, 22] rfl rfl 18 rfl rfl rfl rfl (Nat.le_of_ble_eq_true rfl) ⟨kc_le hkc, kc_le hks⟩) [1, 2, 3, 4, 5, 6, 7, 8, 9, 10, 11, 12, 13, 14, 15, 16, 17, 18, 19, 20, 21, 22] [0] rfl rfl rfl (by decide) (fun rr w1 hO => ?_)
    obtain ⟨rfl, a12, a13, a14, a15, a16, a17, a18, rfl⟩ := hO
    refine aj_perm (ws' := w_CS cI cL cZ o_CS o_Sto o_Pla o_Ass o_Tra o_Sea v_CS ++ w_Ass cI cL cZ o_Ass a_Ass_0 v_Ass ++ w_Sto cI cL cZ o_Sto a12 a13 a14 a_Sto_3 a15 r10.1.1 ++ w_Tal cI cL cZ o_Tal o_Sto a_Tal_0 a_Tal_1 a16 a17 r10.1.2.1 ++ w_Tra cI cL cZ o_Tra o_Tal a_Tra_0 a_Tra_1 a_Tra_2 a_Tra_3 r10.1.2.2.1 ++ w_Sea cI cL cZ o_Sea o_Sto o_Tra o_Tal o_Ass a_Sea_0 a_Sea_1 a18 r10.1.2.2.2.1) [0, 1, 2, 3, 4, 5, 6, 7, 8, 9, 10, 11, 12, 13, 14, 15, 16, 17, 18, 19, 20, 21, 22] rfl rfl ?_
    refine aj_put (ws' := w_CS cI cL cZ o_CS o_Sto o_Pla o_Ass o_Tra o_Sea (v_CS.1, v_CS.2.1, r10.1.2.2.2.2) ++ w_Ass cI cL cZ o_Ass a_Ass_0 v_Ass ++ w_Sto cI cL cZ o_Sto a12 a13 a14 a_Sto_3 a15 r10.1.1 ++ w_Tal cI cL cZ o_Tal o_Sto a_Tal_0 a_Tal_1 a16 a17 r10.1.2.1 ++ w_Tra cI cL cZ o_Tra o_Tal a_Tra_0 a_Tra_1 a_Tra_2 a_Tra_3 r10.1.2.2.1 ++ w_Sea cI cL cZ o_Sea o_Sto o_Tra o_Tal o_Ass a_Sea_0 a_Sea_1 a18 r10.1.2.2.2.1) X d_CS_goOn_19 in_CS ty_CS tyok_CS nmx_CS 0 rfl rfl 7 (by decide) lf_CS_71 rfl rfl rfl (Nat.le_of_ble_eq_true rfl) rfl ?_
    refine aj_aload_n X d_CS_goOn_22 0 rfl ?_
    refine aj_get X d_CS_goOn_23 in_CS 0 rfl rfl 7 (by decide) lf_CS_71 rfl ?_
    refine aj_iconst (v := (3 : Int32)) X d_CS_goOn_26 (by decide) ?_
    refine aj_icmp_eq X 34 d_CS_goOn_27 (by decide) (fun h => ?_) (fun h => ?_)
    · have hm := ite_t hm h
      refine aj_iconst (v := (0 : Int32)) X d_CS_goOn_34 (by decide) ?_
      obtain ⟨ho, e1, e2⟩ := res_of hm
      subst ho
      obtain rfl := kc_end hkc e1
      obtain rfl := kc_end hks e2
      exact aj_zret X d_CS_goOn_35 hr hlk (by decide) [0, 1, 2, 3, 4, 5, 6, 7, 8, 9, 10, 11, 12, 13, 14, 15, 16, 17, 18, 19, 20, 21, 22] (w_CS cI cL cZ o_CS o_Sto o_Pla o_Ass o_Tra o_Sea (v_CS.1, v_CS.2.1, r10.1.2.2.2.2) ++ w_Ass cI cL cZ o_Ass a_Ass_0 v_Ass ++ w_Sto cI cL cZ o_Sto a12 a13 a14 a_Sto_3 a15 r10.1.1 ++ w_Tal cI cL cZ o_Tal o_Sto a_Tal_0 a_Tal_1 a16 a17 r10.1.2.1 ++ w_Tra cI cL cZ o_Tra o_Tal a_Tra_0 a_Tra_1 a_Tra_2 a_Tra_3 r10.1.2.2.1 ++ w_Sea cI cL cZ o_Sea o_Sto o_Tra o_Tal o_Ass a_Sea_0 a_Sea_1 a18 r10.1.2.2.2.1) rfl rfl ⟨rfl, a12, a13, a14, a15, a16, a17, a18, rfl⟩
    · have hm := ite_f hm h
      refine aj_iconst (v := (1 : Int32)) X d_CS_goOn_30 (by decide) ?_
      refine aj_goto X 35 d_CS_goOn_31 (by decide) ?_
      obtain ⟨ho, e1, e2⟩ := res_of hm
      subst ho
      obtain rfl := kc_end hkc e1
      obtain rfl := kc_end hks e2
      exact aj_zret X d_CS_goOn_35 hr hlk (by decide) [0, 1, 2, 3, 4, 5, 6, 7, 8, 9, 10, 11, 12, 13, 14, 15, 16, 17, 18, 19, 20, 21, 22] (w_CS cI cL cZ o_CS o_Sto o_Pla o_Ass o_Tra o_Sea (v_CS.1, v_CS.2.1, r10.1.2.2.2.2) ++ w_Ass cI cL cZ o_Ass a_Ass_0 v_Ass ++ w_Sto cI cL cZ o_Sto a12 a13 a14 a_Sto_3 a15 r10.1.1 ++ w_Tal cI cL cZ o_Tal o_Sto a_Tal_0 a_Tal_1 a16 a17 r10.1.2.1 ++ w_Tra cI cL cZ o_Tra o_Tal a_Tra_0 a_Tra_1 a_Tra_2 a_Tra_3 r10.1.2.2.1 ++ w_Sea cI cL cZ o_Sea o_Sto o_Tra o_Tal o_Ass a_Sea_0 a_Sea_1 a18 r10.1.2.2.2.1) rfl rfl ⟨rfl, a12, a13, a14, a15, a16, a17, a18, rfl⟩
  · have hm := ite_f hm h
    refine aj_iconst (v := (0 : Int32)) X d_CS_goOn_8 (by decide) ?_
    obtain ⟨ho, e1, e2⟩ := res_of hm
    subst ho
    obtain rfl := kc_end hkc e1
    obtain rfl := kc_end hks e2
    exact aj_zret X d_CS_goOn_9 hr hlk (by decide) [0, 1, 2, 3, 4, 5, 6, 7, 8, 9, 10, 11, 12, 13, 14, 15, 16, 17, 18, 19, 20, 21, 22] (w_CS cI cL cZ o_CS o_Sto o_Pla o_Ass o_Tra o_Sea v_CS ++ w_Ass cI cL cZ o_Ass a_Ass_0 v_Ass ++ w_Sto cI cL cZ o_Sto a_Sto_0 a_Sto_1 a_Sto_2 a_Sto_3 a_Sto_4 v_Sto ++ w_Tal cI cL cZ o_Tal o_Sto a_Tal_0 a_Tal_1 a_Tal_2 a_Tal_3 v_Tal ++ w_Tra cI cL cZ o_Tra o_Tal a_Tra_0 a_Tra_1 a_Tra_2 a_Tra_3 v_Tra ++ w_Sea cI cL cZ o_Sea o_Sto o_Tra o_Tal o_Ass a_Sea_0 a_Sea_1 a_Sea_2 v_Sea) rfl rfl ⟨rfl, a_Sto_0, a_Sto_1, a_Sto_2, a_Sto_4, a_Tal_2, a_Tal_3, a_Sea_2, rfl⟩
abbrev X_CS_truth (p : Program) (s : State) (m : MethodId) (args : Array Value) (c : Code) (D : va_G) (cI cL cZ : ClassId) (A : Nat → Prop) : Prop := aj_C p s m args c D clss (ty3 cI cL cZ) A b_CS_truth 2 R_CS TB
abbrev J_CS_truth (p : Program) (l : Launch) (e : Env) (s : State) (m : MethodId) (args : Array Value) (below : List Frame) (meth : Method) (c : Code) (D : va_G) (cI cL cZ : ClassId) (A : Nat → Prop) (O : Int32 → va_W → Prop) (mc ms : Nat) (ws : va_W) (kc ks pc : Nat) (lv : List (Nat × Value)) (st : List Value) : Prop := aj p l e { frames := 1, cells := mc, slots := ms, locals := 21 } s m args below meth c (MQ below (qI D clss (ty3 cI cL cZ) O A) args s mc ms A) D clss A 2 ws kc ks pc lv st
def O_CS_truth (cI cL cZ : ClassId) (o_CS o_Sto o_Pla o_Ass o_Tra o_Sea o_Tal a_Tra_0 a_Tra_1 a_Tra_2 a_Tra_3 : Nat) (v_CS : T_CS) (v_Tra : T_Tra) (out : Int32) : Int32 → va_W → Prop := fun r w1 => out = r ∧ w1 = w_CS cI cL cZ o_CS o_Sto o_Pla o_Ass o_Tra o_Sea v_CS ++ w_Tra cI cL cZ o_Tra o_Tal a_Tra_0 a_Tra_1 a_Tra_2 a_Tra_3 v_Tra
def m_CS_truth (v_CS : T_CS) (v_Tra : T_Tra) (x1 : Int32) : Option (Int32) := (if v_CS.2.2 = 0 then ((m_CS_isThing v_CS x1).bind fun r7 => (if r7 = 0 then (some (0 : Int32)) else ((m_CS_literalOf x1 (1 : Int32)).bind fun r9 => ((m_Tra_holds v_Tra r9).bind fun r11 => (if r11 = 0 then (some (0 : Int32)) else (some (1 : Int32))))))) else (some (0 : Int32)))
set_option maxRecDepth 100000 in
set_option maxHeartbeats 4000000 in
theorem c_CS_truth {l : Launch} {D : va_G} {cI cL cZ : ClassId} (o_CS o_Sto o_Pla o_Ass o_Tra o_Sea o_Tal a_Tra_0 a_Tra_1 a_Tra_2 a_Tra_3 : Nat) (v_CS : T_CS) (v_Tra : T_Tra) (x1 : Int32) (out : Int32) (hm : m_CS_truth v_CS v_Tra x1 = some out) : ct l y_CS_truth (Cond.code y_CS_truth b_CS_truth 2 (some .boolean) :: TB) 1 21 D clss (ty3 cI cL cZ) NM0 NF0 [.ref o_CS, .int x1] (w_CS cI cL cZ o_CS o_Sto o_Pla o_Ass o_Tra o_Sea v_CS ++ w_Tra cI cL cZ o_Tra o_Tal a_Tra_0 a_Tra_1 a_Tra_2 a_Tra_3 v_Tra) (qI D clss (ty3 cI cL cZ) (O_CS_truth cI cL cZ o_CS o_Sto o_Pla o_Ass o_Tra o_Sea o_Tal a_Tra_0 a_Tra_1 a_Tra_2 a_Tra_3 v_CS v_Tra out)) 0 0 := by
  refine ct_of (plainFor_of_name (by decide)) (Nat.le_of_ble_eq_true rfl) (fun p e s m args below meth c A X N hr hlk hnm => ?_)
  refine aj_lv (lv' := [(0, .ref o_CS), (1, .int x1)]) [0, 1] rfl ?_
  unfold m_CS_truth at hm
  refine aj_aload_n X d_CS_truth_0 0 rfl ?_
  refine aj_get X d_CS_truth_1 in_CS 0 rfl rfl 7 (by decide) lf_CS_71 rfl ?_
  refine aj_if_ne X 34 d_CS_truth_4 (by decide) (fun h => ?_) (fun h => ?_)
  · have hm := ite_f hm h
    refine aj_iconst (v := (0 : Int32)) X d_CS_truth_34 (by decide) ?_
    have ho := Option.some.inj hm
    subst ho
    exact aj_zret X d_CS_truth_35 hr hlk (by decide) [0, 1, 2, 3, 4, 5] (w_CS cI cL cZ o_CS o_Sto o_Pla o_Ass o_Tra o_Sea v_CS ++ w_Tra cI cL cZ o_Tra o_Tal a_Tra_0 a_Tra_1 a_Tra_2 a_Tra_3 v_Tra) rfl rfl ⟨rfl, rfl⟩
  · have hm := ite_t hm h
    refine aj_aload_n X d_CS_truth_7 0 rfl ?_
    refine aj_iload_n X d_CS_truth_8 1 rfl ?_
    obtain ⟨r7, h8, hm⟩ := bnd_of hm
    refine aj_callI (wr := [(o_Tra, .inr (5, [.int v_Tra.1, .int v_Tra.2.1, .ref a_Tra_0, .ref o_Tal, .ref a_Tra_1, .ref a_Tra_2, .ref a_Tra_3])), (a_Tra_0, .inl (cI, v_Tra.2.2.1.1, .inl v_Tra.2.2.1.2)), (a_Tra_1, .inl (cI, v_Tra.2.2.2.1.1, .inl v_Tra.2.2.2.1.2)), (a_Tra_2, .inl (cI, v_Tra.2.2.2.2.1.1, .inl v_Tra.2.2.2.2.1.2)), (a_Tra_3, .inl (cI, v_Tra.2.2.2.2.2.1, .inl v_Tra.2.2.2.2.2.2))]) X (aj_rV (As := [.int x1]) (rest := []) X N gTB (c_CS_isThing (D := D) (cI := cI) (cL := cL) (cZ := cZ) o_CS o_Sto o_Pla o_Ass o_Tra o_Sea v_CS x1 r7 h8) d_CS_truth_9 lk_CS_isThing lw_CS_86 lh_CS_isThing ⟨(Nat.le_of_ble_eq_true rfl), (Nat.le_of_ble_eq_true rfl)⟩ [0] rfl rfl 0 rfl rfl rfl rfl (Nat.le_of_ble_eq_true rfl) ⟨Nat.le_refl _, Nat.le_refl _⟩) [0] [1, 2, 3, 4, 5] rfl rfl rfl (by decide) (fun rr w1 hO => ?_)
    obtain ⟨rfl, rfl⟩ := hO
    refine aj_perm (ws' := w_CS cI cL cZ o_CS o_Sto o_Pla o_Ass o_Tra o_Sea v_CS ++ w_Tra cI cL cZ o_Tra o_Tal a_Tra_0 a_Tra_1 a_Tra_2 a_Tra_3 v_Tra) [5, 0, 1, 2, 3, 4] rfl rfl ?_
    refine aj_if_eq X 34 d_CS_truth_12 (by decide) (fun h => ?_) (fun h => ?_)
    · have hm := ite_t hm h
      refine aj_iconst (v := (0 : Int32)) X d_CS_truth_34 (by decide) ?_
      have ho := Option.some.inj hm
      subst ho
      exact aj_zret X d_CS_truth_35 hr hlk (by decide) [0, 1, 2, 3, 4, 5] (w_CS cI cL cZ o_CS o_Sto o_Pla o_Ass o_Tra o_Sea v_CS ++ w_Tra cI cL cZ o_Tra o_Tal a_Tra_0 a_Tra_1 a_Tra_2 a_Tra_3 v_Tra) rfl rfl ⟨rfl, rfl⟩
    · have hm := ite_f hm h
      refine aj_aload_n X d_CS_truth_15 0 rfl ?_
      refine aj_get X d_CS_truth_16 in_CS 0 rfl rfl 4 (by decide) lf_CS_55 rfl ?_
      refine aj_iload_n X d_CS_truth_19 1 rfl ?_
      refine aj_iconst (v := (1 : Int32)) X d_CS_truth_20 (by decide) ?_
      obtain ⟨r9, h10, hm⟩ := bnd_of hm
      refine aj_callI (wr := [(o_CS, .inr (6, [.int v_CS.1, .ref o_Sto, .ref o_Pla, .ref o_Ass, .ref o_Tra, .ref o_Sea, .int v_CS.2.1, .int v_CS.2.2])), (o_Tra, .inr (5, [.int v_Tra.1, .int v_Tra.2.1, .ref a_Tra_0, .ref o_Tal, .ref a_Tra_1, .ref a_Tra_2, .ref a_Tra_3])), (a_Tra_0, .inl (cI, v_Tra.2.2.1.1, .inl v_Tra.2.2.1.2)), (a_Tra_1, .inl (cI, v_Tra.2.2.2.1.1, .inl v_Tra.2.2.2.1.2)), (a_Tra_2, .inl (cI, v_Tra.2.2.2.2.1.1, .inl v_Tra.2.2.2.2.1.2)), (a_Tra_3, .inl (cI, v_Tra.2.2.2.2.2.1, .inl v_Tra.2.2.2.2.2.2))]) X (aj_rS (As := [.int x1, .int (1 : Int32)]) (rest := [.ref o_Tra]) X N gTB (c_CS_literalOf (D := D) (cI := cI) (cL := cL) (cZ := cZ) x1 (1 : Int32) r9 h10) d_CS_truth_21 lk_CS_literalOf lw_CS_89 lh_CS_literalOf ⟨(Nat.le_of_ble_eq_true rfl), (Nat.le_of_ble_eq_true rfl)⟩ [] rfl rfl rfl (Nat.le_of_ble_eq_true rfl) ⟨Nat.le_refl _, Nat.le_refl _⟩) [] [0, 1, 2, 3, 4, 5] rfl rfl rfl (by decide) (fun rr w1 hO => ?_)
      obtain ⟨rfl, rfl⟩ := hO
      refine aj_perm (ws' := w_CS cI cL cZ o_CS o_Sto o_Pla o_Ass o_Tra o_Sea v_CS ++ w_Tra cI cL cZ o_Tra o_Tal a_Tra_0 a_Tra_1 a_Tra_2 a_Tra_3 v_Tra) [0, 1, 2, 3, 4, 5] rfl rfl ?_
      obtain ⟨r11, h12, hm⟩ := bnd_of hm
      refine aj_callI (wr := [(o_CS, .inr (6, [.int v_CS.1, .ref o_Sto, .ref o_Pla, .ref o_Ass, .ref o_Tra, .ref o_Sea, .int v_CS.2.1, .int v_CS.2.2]))]) X (aj_rV (As := [.int r9]) (rest := []) X N gTB (c_Tra_holds (D := D) (cI := cI) (cL := cL) (cZ := cZ) o_Tra o_Tal a_Tra_0 a_Tra_1 a_Tra_2 a_Tra_3 v_Tra r9 r11 h12) d_CS_truth_24 lk_Tra_holds lw_CS_129 lh_Tra_holds ⟨(Nat.le_of_ble_eq_true rfl), (Nat.le_of_ble_eq_true rfl)⟩ [1, 2, 3, 4, 5] rfl rfl 0 rfl rfl rfl rfl (Nat.le_of_ble_eq_true rfl) ⟨Nat.le_refl _, Nat.le_refl _⟩) [1, 2, 3, 4, 5] [0] rfl rfl rfl (by decide) (fun rr w1 hO => ?_)
      obtain ⟨rfl, rfl⟩ := hO
      refine aj_perm (ws' := w_CS cI cL cZ o_CS o_Sto o_Pla o_Ass o_Tra o_Sea v_CS ++ w_Tra cI cL cZ o_Tra o_Tal a_Tra_0 a_Tra_1 a_Tra_2 a_Tra_3 v_Tra) [0, 1, 2, 3, 4, 5] rfl rfl ?_
      refine aj_if_eq X 34 d_CS_truth_27 (by decide) (fun h => ?_) (fun h => ?_)
      · have hm := ite_t hm h
        refine aj_iconst (v := (0 : Int32)) X d_CS_truth_34 (by decide) ?_
        have ho := Option.some.inj hm
        subst ho
        exact aj_zret X d_CS_truth_35 hr hlk (by decide) [0, 1, 2, 3, 4, 5] (w_CS cI cL cZ o_CS o_Sto o_Pla o_Ass o_Tra o_Sea v_CS ++ w_Tra cI cL cZ o_Tra o_Tal a_Tra_0 a_Tra_1 a_Tra_2 a_Tra_3 v_Tra) rfl rfl ⟨rfl, rfl⟩
      · have hm := ite_f hm h
        refine aj_iconst (v := (1 : Int32)) X d_CS_truth_30 (by decide) ?_
        refine aj_goto X 35 d_CS_truth_31 (by decide) ?_
        have ho := Option.some.inj hm
        subst ho
        exact aj_zret X d_CS_truth_35 hr hlk (by decide) [0, 1, 2, 3, 4, 5] (w_CS cI cL cZ o_CS o_Sto o_Pla o_Ass o_Tra o_Sea v_CS ++ w_Tra cI cL cZ o_Tra o_Tal a_Tra_0 a_Tra_1 a_Tra_2 a_Tra_3 v_Tra) rfl rfl ⟨rfl, rfl⟩
abbrev X_CS_block (p : Program) (s : State) (m : MethodId) (args : Array Value) (c : Code) (D : va_G) (cI cL cZ : ClassId) (A : Nat → Prop) : Prop := aj_C p s m args c D clss (ty3 cI cL cZ) A b_CS_block 2 R_CS TB
abbrev J_CS_block (p : Program) (l : Launch) (e : Env) (s : State) (m : MethodId) (args : Array Value) (below : List Frame) (meth : Method) (c : Code) (D : va_G) (cI cL cZ : ClassId) (A : Nat → Prop) (O : Int32 → va_W → Prop) (mc ms : Nat) (ws : va_W) (kc ks pc : Nat) (lv : List (Nat × Value)) (st : List Value) : Prop := aj p l e { frames := 4, cells := mc, slots := ms, locals := 105 } s m args below meth c (MQ below (qI D clss (ty3 cI cL cZ) O A) args s mc ms A) D clss A 2 ws kc ks pc lv st
def O_CS_block (cI cL cZ : ClassId) (o_CS o_Sto o_Pla o_Ass o_Tra o_Sea o_Tal a_Sto_3 a_Tra_0 a_Tra_1 a_Tra_2 a_Tra_3 : Nat) (v_Tra : T_Tra) (out : T_CS × T_Sto × Int32) : Int32 → va_W → Prop := fun r w1 => out.2.2 = r ∧ ∃ (a_Sto_0 a_Sto_1 a_Sto_2 a_Sto_4 : Nat), w1 = w_CS cI cL cZ o_CS o_Sto o_Pla o_Ass o_Tra o_Sea out.1 ++ w_Sto cI cL cZ o_Sto a_Sto_0 a_Sto_1 a_Sto_2 a_Sto_3 a_Sto_4 out.2.1 ++ w_Tra cI cL cZ o_Tra o_Tal a_Tra_0 a_Tra_1 a_Tra_2 a_Tra_3 v_Tra
def m_CS_block_L34 (v_Tra : T_Tra) : Nat → T_CS → T_Sto → Int32 → Option ((T_CS × T_Sto × Int32) × Nat × Nat)
  | 0, _, _, _ => none
  | f + 1, v_CS, v_Sto, x1 => (if v_CS.1 ≤ x1 then (some (((v_CS.1, v_CS.2.1, (1 : Int32)), v_Sto, (1 : Int32)), 0, 0)) else ((m_Tra_refusedLiteralOf v_Tra x1).bind fun r13 => ((m_Sto_append v_Sto r13).bind fun r15 => addc r15.2.1 r15.2.2 ((m_CS_block_L34 v_Tra f) v_CS r15.1 (x1 + 1)))))
set_option maxRecDepth 100000 in
set_option maxHeartbeats 4000000 in
theorem c_CS_block_L34 {l : Launch} {D : va_G} {cI cL cZ : ClassId} {p : Program} {e : Env} {s : State} {m : MethodId} {args : Array Value} {below : List Frame} {meth : Method} {c : Code} {A : Nat → Prop} (o_CS o_Sto o_Pla o_Ass o_Tra o_Sea o_Tal a_Sto_3 a_Tra_0 a_Tra_1 a_Tra_2 a_Tra_3 : Nat) (v_Tra : T_Tra) (out : T_CS × T_Sto × Int32) (mc ms : Nat) (X : X_CS_block p s m args c D cI cL cZ A) (N : nk NM0 NF0 s) (hr : meth.sig.returnType = some .boolean) (hlk : meth.locks = false) : ∀ (nn : Nat), ∀ (a_Sto_0 a_Sto_1 a_Sto_2 a_Sto_4 : Nat) (v_CS : T_CS) (v_Sto : T_Sto) (x1 : Int32) (kc ks dc ds : Nat), m_CS_block_L34 v_Tra nn v_CS v_Sto x1 = some (out, dc, ds) → kc + dc = mc → ks + ds = ms → J_CS_block p l e s m args below meth c D cI cL cZ A (O_CS_block cI cL cZ o_CS o_Sto o_Pla o_Ass o_Tra o_Sea o_Tal a_Sto_3 a_Tra_0 a_Tra_1 a_Tra_2 a_Tra_3 v_Tra out) mc ms (w_CS cI cL cZ o_CS o_Sto o_Pla o_Ass o_Tra o_Sea v_CS ++ w_Sto cI cL cZ o_Sto a_Sto_0 a_Sto_1 a_Sto_2 a_Sto_3 a_Sto_4 v_Sto ++ w_Tra cI cL cZ o_Tra o_Tal a_Tra_0 a_Tra_1 a_Tra_2 a_Tra_3 v_Tra) kc ks 34 [(0, .ref o_CS), (1, .int x1)] [] := by
  intro nn
  induction nn with
  | zero => intro a_Sto_0 a_Sto_1 a_Sto_2 a_Sto_4 v_CS v_Sto x1 kc ks dc ds hm hkc hks; exact absurd hm (by simp [m_CS_block_L34])
  | succ nn ih34 =>
    intro a_Sto_0 a_Sto_1 a_Sto_2 a_Sto_4 v_CS v_Sto x1 kc ks dc ds hm hkc hks
    unfold m_CS_block_L34 at hm
    refine aj_iload_n X d_CS_block_34 1 rfl ?_
    refine aj_aload_n X d_CS_block_35 0 rfl ?_
    refine aj_get X d_CS_block_36 in_CS 0 rfl rfl 0 (by decide) lf_CS_18 rfl ?_
    refine aj_icmp_ge X 63 d_CS_block_39 (by decide) (fun h => ?_) (fun h => ?_)
    · have hm := ite_t hm h
      refine aj_aload_n X d_CS_block_63 0 rfl ?_
      refine aj_iconst (v := (1 : Int32)) X d_CS_block_64 (by decide) ?_
      refine aj_put (ws' := w_CS cI cL cZ o_CS o_Sto o_Pla o_Ass o_Tra o_Sea (v_CS.1, v_CS.2.1, (1 : Int32)) ++ w_Sto cI cL cZ o_Sto a_Sto_0 a_Sto_1 a_Sto_2 a_Sto_3 a_Sto_4 v_Sto ++ w_Tra cI cL cZ o_Tra o_Tal a_Tra_0 a_Tra_1 a_Tra_2 a_Tra_3 v_Tra) X d_CS_block_65 in_CS ty_CS tyok_CS nmx_CS 0 rfl rfl 7 (by decide) lf_CS_71 rfl rfl rfl (Nat.le_of_ble_eq_true rfl) rfl ?_
      refine aj_iconst (v := (1 : Int32)) X d_CS_block_68 (by decide) ?_
      obtain ⟨ho, e1, e2⟩ := res_of hm
      subst ho
      obtain rfl := kc_end hkc e1
      obtain rfl := kc_end hks e2
      exact aj_zret X d_CS_block_69 hr hlk (by decide) [0, 1, 2, 3, 4, 5, 6, 7, 8, 9, 10, 11] (w_CS cI cL cZ o_CS o_Sto o_Pla o_Ass o_Tra o_Sea (v_CS.1, v_CS.2.1, (1 : Int32)) ++ w_Sto cI cL cZ o_Sto a_Sto_0 a_Sto_1 a_Sto_2 a_Sto_3 a_Sto_4 v_Sto ++ w_Tra cI cL cZ o_Tra o_Tal a_Tra_0 a_Tra_1 a_Tra_2 a_Tra_3 v_Tra) rfl rfl ⟨rfl, a_Sto_0, a_Sto_1, a_Sto_2, a_Sto_4, rfl⟩
    · have hm := ite_f hm h
      refine aj_aload_n X d_CS_block_42 0 rfl ?_
      refine aj_get X d_CS_block_43 in_CS 0 rfl rfl 1 (by decide) lf_CS_27 rfl ?_
      refine aj_aload_n X d_CS_block_46 0 rfl ?_
      refine aj_get X d_CS_block_47 in_CS 0 rfl rfl 4 (by decide) lf_CS_55 rfl ?_
      refine aj_iload_n X d_CS_block_50 1 rfl ?_
      obtain ⟨r13, h14, hm⟩ := bnd_of hm
      refine aj_callI (wr := [(o_CS, .inr (6, [.int v_CS.1, .ref o_Sto, .ref o_Pla, .ref o_Ass, .ref o_Tra, .ref o_Sea, .int v_CS.2.1, .int v_CS.2.2])), (o_Sto, .inr (3, [.int v_Sto.1, .int v_Sto.2.1, .ref a_Sto_0, .ref a_Sto_1, .ref a_Sto_2, .ref a_Sto_3, .ref a_Sto_4])), (a_Sto_0, .inl (cI, v_Sto.2.2.1.1, .inl v_Sto.2.2.1.2)), (a_Sto_1, .inl (cI, v_Sto.2.2.2.1.1, .inl v_Sto.2.2.2.1.2)), (a_Sto_2, .inl (cI, v_Sto.2.2.2.2.1.1, .inl v_Sto.2.2.2.2.1.2)), (a_Sto_3, .inl (cI, v_Sto.2.2.2.2.2.1.1, .inl v_Sto.2.2.2.2.2.1.2)), (a_Sto_4, .inl (cI, v_Sto.2.2.2.2.2.2.1, .inl v_Sto.2.2.2.2.2.2.2))]) X (aj_rV (As := [.int x1]) (rest := [.ref o_Sto]) X N gTB (c_Tra_refusedLiteralOf (D := D) (cI := cI) (cL := cL) (cZ := cZ) o_Tra o_Tal a_Tra_0 a_Tra_1 a_Tra_2 a_Tra_3 v_Tra x1 r13 h14) d_CS_block_51 lk_Tra_refusedLiteralOf lw_CS_131 lh_Tra_refusedLiteralOf ⟨(Nat.le_of_ble_eq_true rfl), (Nat.le_of_ble_eq_true rfl)⟩ [7, 8, 9, 10, 11] rfl rfl 0 rfl rfl rfl rfl (Nat.le_of_ble_eq_true rfl) ⟨kc_le1 hkc, kc_le1 hks⟩) [7, 8, 9, 10, 11] [0, 1, 2, 3, 4, 5, 6] rfl rfl rfl (by decide) (fun rr w1 hO => ?_)
      have hkc := kc_zero hkc
      have hks := kc_zero hks
      obtain ⟨rfl, rfl⟩ := hO
      refine aj_perm (ws' := w_CS cI cL cZ o_CS o_Sto o_Pla o_Ass o_Tra o_Sea v_CS ++ w_Sto cI cL cZ o_Sto a_Sto_0 a_Sto_1 a_Sto_2 a_Sto_3 a_Sto_4 v_Sto ++ w_Tra cI cL cZ o_Tra o_Tal a_Tra_0 a_Tra_1 a_Tra_2 a_Tra_3 v_Tra) [0, 1, 2, 3, 4, 5, 6, 7, 8, 9, 10, 11] rfl rfl ?_
      obtain ⟨r15, h16, hm⟩ := bnd_of hm
      obtain ⟨dc, ds, hm, e1, e2⟩ := addc_of hm
      have hkc := kc_step hkc e1
      have hks := kc_step hks e2
      refine aj_callV (wr := [(o_CS, .inr (6, [.int v_CS.1, .ref o_Sto, .ref o_Pla, .ref o_Ass, .ref o_Tra, .ref o_Sea, .int v_CS.2.1, .int v_CS.2.2])), (o_Tra, .inr (5, [.int v_Tra.1, .int v_Tra.2.1, .ref a_Tra_0, .ref o_Tal, .ref a_Tra_1, .ref a_Tra_2, .ref a_Tra_3])), (a_Tra_0, .inl (cI, v_Tra.2.2.1.1, .inl v_Tra.2.2.1.2)), (a_Tra_1, .inl (cI, v_Tra.2.2.2.1.1, .inl v_Tra.2.2.2.1.2)), (a_Tra_2, .inl (cI, v_Tra.2.2.2.2.1.1, .inl v_Tra.2.2.2.2.1.2)), (a_Tra_3, .inl (cI, v_Tra.2.2.2.2.2.1, .inl v_Tra.2.2.2.2.2.2))]) X (aj_rV (As := [.int r13]) (rest := []) X N gTB (c_Sto_append (D := D) (cI := cI) (cL := cL) (cZ := cZ) o_Sto a_Sto_3 a_Sto_4 a_Sto_0 a_Sto_1 a_Sto_2 v_Sto r13 r15.1 r15.2.1 r15.2.2 h16) d_CS_block_54 lk_Sto_append lw_CS_100 lh_Sto_append ⟨(Nat.le_of_ble_eq_true rfl), (Nat.le_of_ble_eq_true rfl)⟩ [1, 2, 3, 4, 5, 6] rfl rfl 0 rfl rfl rfl rfl (Nat.le_of_ble_eq_true rfl) ⟨kc_le hkc, kc_le hks⟩) [1, 2, 3, 4, 5, 6] [0, 7, 8, 9, 10, 11] rfl rfl rfl (by decide) (fun w1 hO => ?_)
      obtain ⟨a17, a18, a19, rfl⟩ := hO
      refine aj_perm (ws' := w_CS cI cL cZ o_CS o_Sto o_Pla o_Ass o_Tra o_Sea v_CS ++ w_Sto cI cL cZ o_Sto a17 a18 a19 a_Sto_3 a_Sto_4 r15.1 ++ w_Tra cI cL cZ o_Tra o_Tal a_Tra_0 a_Tra_1 a_Tra_2 a_Tra_3 v_Tra) [0, 6, 7, 8, 9, 10, 11, 1, 2, 3, 4, 5] rfl rfl ?_
      refine aj_iinc (v := (x1 + 1)) (lv' := [(1, .int (x1 + 1)), (0, .ref o_CS)]) X d_CS_block_57 1 rfl rfl (by decide) rfl ?_
      refine aj_goto X 34 d_CS_block_60 (by decide) ?_
      refine aj_lv (lv' := [(0, .ref o_CS), (1, .int (x1 + 1))]) [1, 0] rfl ?_
      exact ih34 a17 a18 a19 a_Sto_4 v_CS r15.1 (x1 + 1) (kc + 0 + r15.2.1) (ks + 0 + r15.2.2) _ _ hm hkc hks
def m_CS_block (v_Tra : T_Tra) (v_CS : T_CS) (v_Sto : T_Sto) : Option ((T_CS × T_Sto × Int32) × Nat × Nat) := (if v_CS.2.2 = 0 then ((m_Sto_hasRoom v_Sto (1 : Int32) v_CS.1).bind fun r20 => (if r20 = 0 then (some ((v_CS, v_Sto, (0 : Int32)), 0, 0)) else ((m_Sto_open v_Sto).bind fun r22 => addc r22.2.1 r22.2.2 (m_CS_block_L34 v_Tra fu v_CS r22.1.1 (0 : Int32))))) else (some ((v_CS, v_Sto, (0 : Int32)), 0, 0)))
set_option maxRecDepth 100000 in
set_option maxHeartbeats 4000000 in
theorem c_CS_block {l : Launch} {D : va_G} {cI cL cZ : ClassId} (o_CS o_Sto o_Pla o_Ass o_Tra o_Sea o_Tal a_Sto_3 a_Tra_0 a_Tra_1 a_Tra_2 a_Tra_3 : Nat) (a_Sto_0 a_Sto_1 a_Sto_2 a_Sto_4 : Nat) (v_Tra : T_Tra) (v_CS : T_CS) (v_Sto : T_Sto) (out : T_CS × T_Sto × Int32) (mc ms : Nat) (hm : m_CS_block v_Tra v_CS v_Sto = some (out, mc, ms)) : ct l y_CS_block (Cond.code y_CS_block b_CS_block 2 (some .boolean) :: TB) 4 105 D clss (ty3 cI cL cZ) NM0 NF0 [.ref o_CS] (w_CS cI cL cZ o_CS o_Sto o_Pla o_Ass o_Tra o_Sea v_CS ++ w_Sto cI cL cZ o_Sto a_Sto_0 a_Sto_1 a_Sto_2 a_Sto_3 a_Sto_4 v_Sto ++ w_Tra cI cL cZ o_Tra o_Tal a_Tra_0 a_Tra_1 a_Tra_2 a_Tra_3 v_Tra) (qI D clss (ty3 cI cL cZ) (O_CS_block cI cL cZ o_CS o_Sto o_Pla o_Ass o_Tra o_Sea o_Tal a_Sto_3 a_Tra_0 a_Tra_1 a_Tra_2 a_Tra_3 v_Tra out)) mc ms := by
  refine ct_of (plainFor_of_name (by decide)) (Nat.le_of_ble_eq_true rfl) (fun p e s m args below meth c A X N hr hlk hnm => ?_)
  refine aj_lv (lv' := [(0, .ref o_CS)]) [0] rfl ?_
  unfold m_CS_block at hm
  have hkc : 0 + mc = mc := Nat.zero_add _
  have hks : 0 + ms = ms := Nat.zero_add _
  refine aj_aload_n X d_CS_block_0 0 rfl ?_
  refine aj_get X d_CS_block_1 in_CS 0 rfl rfl 7 (by decide) lf_CS_71 rfl ?_
  refine aj_if_ne X 22 d_CS_block_4 (by decide) (fun h => ?_) (fun h => ?_)
  · have hm := ite_f hm h
    refine aj_iconst (v := (0 : Int32)) X d_CS_block_22 (by decide) ?_
    obtain ⟨ho, e1, e2⟩ := res_of hm
    subst ho
    obtain rfl := kc_end hkc e1
    obtain rfl := kc_end hks e2
    exact aj_zret X d_CS_block_23 hr hlk (by decide) [0, 1, 2, 3, 4, 5, 6, 7, 8, 9, 10, 11] (w_CS cI cL cZ o_CS o_Sto o_Pla o_Ass o_Tra o_Sea v_CS ++ w_Sto cI cL cZ o_Sto a_Sto_0 a_Sto_1 a_Sto_2 a_Sto_3 a_Sto_4 v_Sto ++ w_Tra cI cL cZ o_Tra o_Tal a_Tra_0 a_Tra_1 a_Tra_2 a_Tra_3 v_Tra) rfl rfl ⟨rfl, a_Sto_0, a_Sto_1, a_Sto_2, a_Sto_4, rfl⟩
  · have hm := ite_t hm h
    refine aj_aload_n X d_CS_block_7 0 rfl ?_
    refine aj_get X d_CS_block_8 in_CS 0 rfl rfl 1 (by decide) lf_CS_27 rfl ?_
    refine aj_iconst (v := (1 : Int32)) X d_CS_block_11 (by decide) ?_
    refine aj_aload_n X d_CS_block_12 0 rfl ?_
    refine aj_get X d_CS_block_13 in_CS 0 rfl rfl 0 (by decide) lf_CS_18 rfl ?_
    obtain ⟨r20, h21, hm⟩ := bnd_of hm
    refine aj_callI (wr := [(o_CS, .inr (6, [.int v_CS.1, .ref o_Sto, .ref o_Pla, .ref o_Ass, .ref o_Tra, .ref o_Sea, .int v_CS.2.1, .int v_CS.2.2])), (o_Tra, .inr (5, [.int v_Tra.1, .int v_Tra.2.1, .ref a_Tra_0, .ref o_Tal, .ref a_Tra_1, .ref a_Tra_2, .ref a_Tra_3])), (a_Tra_0, .inl (cI, v_Tra.2.2.1.1, .inl v_Tra.2.2.1.2)), (a_Tra_1, .inl (cI, v_Tra.2.2.2.1.1, .inl v_Tra.2.2.2.1.2)), (a_Tra_2, .inl (cI, v_Tra.2.2.2.2.1.1, .inl v_Tra.2.2.2.2.1.2)), (a_Tra_3, .inl (cI, v_Tra.2.2.2.2.2.1, .inl v_Tra.2.2.2.2.2.2))]) X (aj_rV (As := [.int (1 : Int32), .int v_CS.1]) (rest := []) X N gTB (c_Sto_hasRoom (D := D) (cI := cI) (cL := cL) (cZ := cZ) o_Sto a_Sto_0 a_Sto_1 a_Sto_2 a_Sto_3 a_Sto_4 v_Sto (1 : Int32) v_CS.1 r20 h21) d_CS_block_16 lk_Sto_hasRoom lw_CS_74 lh_Sto_hasRoom ⟨(Nat.le_of_ble_eq_true rfl), (Nat.le_of_ble_eq_true rfl)⟩ [1, 2, 3, 4, 5, 6] rfl rfl 0 rfl rfl rfl rfl (Nat.le_of_ble_eq_true rfl) ⟨kc_le1 hkc, kc_le1 hks⟩) [1, 2, 3, 4, 5, 6] [0, 7, 8, 9, 10, 11] rfl rfl rfl (by decide) (fun rr w1 hO => ?_)
    have hkc := kc_zero hkc
    have hks := kc_zero hks
    obtain ⟨rfl, rfl⟩ := hO
    refine aj_perm (ws' := w_CS cI cL cZ o_CS o_Sto o_Pla o_Ass o_Tra o_Sea v_CS ++ w_Sto cI cL cZ o_Sto a_Sto_0 a_Sto_1 a_Sto_2 a_Sto_3 a_Sto_4 v_Sto ++ w_Tra cI cL cZ o_Tra o_Tal a_Tra_0 a_Tra_1 a_Tra_2 a_Tra_3 v_Tra) [0, 6, 7, 8, 9, 10, 11, 1, 2, 3, 4, 5] rfl rfl ?_
    refine aj_if_ne X 24 d_CS_block_19 (by decide) (fun h => ?_) (fun h => ?_)
    · have hm := ite_f hm h
      refine aj_aload_n X d_CS_block_24 0 rfl ?_
      refine aj_get X d_CS_block_25 in_CS 0 rfl rfl 1 (by decide) lf_CS_27 rfl ?_
      obtain ⟨r22, h23, hm⟩ := bnd_of hm
      obtain ⟨dc, ds, hm, e1, e2⟩ := addc_of hm
      have hkc := kc_step hkc e1
      have hks := kc_step hks e2
      refine aj_callI (wr := [(o_CS, .inr (6, [.int v_CS.1, .ref o_Sto, .ref o_Pla, .ref o_Ass, .ref o_Tra, .ref o_Sea, .int v_CS.2.1, .int v_CS.2.2])), (o_Tra, .inr (5, [.int v_Tra.1, .int v_Tra.2.1, .ref a_Tra_0, .ref o_Tal, .ref a_Tra_1, .ref a_Tra_2, .ref a_Tra_3])), (a_Tra_0, .inl (cI, v_Tra.2.2.1.1, .inl v_Tra.2.2.1.2)), (a_Tra_1, .inl (cI, v_Tra.2.2.2.1.1, .inl v_Tra.2.2.2.1.2)), (a_Tra_2, .inl (cI, v_Tra.2.2.2.2.1.1, .inl v_Tra.2.2.2.2.1.2)), (a_Tra_3, .inl (cI, v_Tra.2.2.2.2.2.1, .inl v_Tra.2.2.2.2.2.2))]) X (aj_rV (As := []) (rest := []) X N gTB (c_Sto_open (D := D) (cI := cI) (cL := cL) (cZ := cZ) o_Sto a_Sto_0 a_Sto_1 a_Sto_2 a_Sto_3 a_Sto_4 v_Sto r22.1 r22.2.1 r22.2.2 h23) d_CS_block_28 lk_Sto_open lw_CS_78 lh_Sto_open ⟨(Nat.le_of_ble_eq_true rfl), (Nat.le_of_ble_eq_true rfl)⟩ [1, 2, 3, 4, 5, 6] rfl rfl 0 rfl rfl rfl rfl (Nat.le_of_ble_eq_true rfl) ⟨kc_le hkc, kc_le hks⟩) [1, 2, 3, 4, 5, 6] [0, 7, 8, 9, 10, 11] rfl rfl rfl (by decide) (fun rr w1 hO => ?_)
      obtain ⟨rfl, a24, rfl⟩ := hO
      refine aj_perm (ws' := w_CS cI cL cZ o_CS o_Sto o_Pla o_Ass o_Tra o_Sea v_CS ++ w_Sto cI cL cZ o_Sto a_Sto_0 a_Sto_1 a_Sto_2 a_Sto_3 a24 r22.1.1 ++ w_Tra cI cL cZ o_Tra o_Tal a_Tra_0 a_Tra_1 a_Tra_2 a_Tra_3 v_Tra) [0, 6, 7, 8, 9, 10, 11, 1, 2, 3, 4, 5] rfl rfl ?_
      refine aj_pop X d_CS_block_31 rfl ?_
      refine aj_iconst (v := (0 : Int32)) X d_CS_block_32 (by decide) ?_
      refine aj_istore_n (lv' := [(1, .int (0 : Int32)), (0, .ref o_CS)]) X d_CS_block_33 rfl (by decide) rfl ?_
      refine aj_lv (lv' := [(0, .ref o_CS), (1, .int (0 : Int32))]) [1, 0] rfl ?_
      exact c_CS_block_L34 o_CS o_Sto o_Pla o_Ass o_Tra o_Sea o_Tal a_Sto_3 a_Tra_0 a_Tra_1 a_Tra_2 a_Tra_3 v_Tra out mc ms X N hr hlk fu a_Sto_0 a_Sto_1 a_Sto_2 a24 v_CS r22.1.1 (0 : Int32) (0 + 0 + r22.2.1) (0 + 0 + r22.2.2) _ _ hm hkc hks
    · have hm := ite_t hm h
      refine aj_iconst (v := (0 : Int32)) X d_CS_block_22 (by decide) ?_
      obtain ⟨ho, e1, e2⟩ := res_of hm
      subst ho
      obtain rfl := kc_end hkc e1
      obtain rfl := kc_end hks e2
      exact aj_zret X d_CS_block_23 hr hlk (by decide) [0, 1, 2, 3, 4, 5, 6, 7, 8, 9, 10, 11] (w_CS cI cL cZ o_CS o_Sto o_Pla o_Ass o_Tra o_Sea v_CS ++ w_Sto cI cL cZ o_Sto a_Sto_0 a_Sto_1 a_Sto_2 a_Sto_3 a_Sto_4 v_Sto ++ w_Tra cI cL cZ o_Tra o_Tal a_Tra_0 a_Tra_1 a_Tra_2 a_Tra_3 v_Tra) rfl rfl ⟨rfl, a_Sto_0, a_Sto_1, a_Sto_2, a_Sto_4, rfl⟩
abbrev X_Ass_isFull (p : Program) (s : State) (m : MethodId) (args : Array Value) (c : Code) (D : va_G) (cI cL cZ : ClassId) (A : Nat → Prop) : Prop := aj_C p s m args c D clss (ty3 cI cL cZ) A b_Ass_isFull 1 R_Ass TB
abbrev J_Ass_isFull (p : Program) (l : Launch) (e : Env) (s : State) (m : MethodId) (args : Array Value) (below : List Frame) (meth : Method) (c : Code) (D : va_G) (cI cL cZ : ClassId) (A : Nat → Prop) (O : Int32 → va_W → Prop) (mc ms : Nat) (ws : va_W) (kc ks pc : Nat) (lv : List (Nat × Value)) (st : List Value) : Prop := aj p l e { frames := 0, cells := mc, slots := ms, locals := 0 } s m args below meth c (MQ below (qI D clss (ty3 cI cL cZ) O A) args s mc ms A) D clss A 1 ws kc ks pc lv st
def O_Ass_isFull (cI cL cZ : ClassId) (o_Ass a_Ass_0 : Nat) (v_Ass : T_Ass) (out : Int32) : Int32 → va_W → Prop := fun r w1 => out = r ∧ w1 = w_Ass cI cL cZ o_Ass a_Ass_0 v_Ass
def m_Ass_isFull (v_Ass : T_Ass) : Option (Int32) := (if v_Ass.1 < (40 : Int32) then (some (0 : Int32)) else (some (1 : Int32)))
set_option maxRecDepth 100000 in
set_option maxHeartbeats 4000000 in
theorem c_Ass_isFull {l : Launch} {D : va_G} {cI cL cZ : ClassId} (o_Ass a_Ass_0 : Nat) (v_Ass : T_Ass) (out : Int32) (hm : m_Ass_isFull v_Ass = some out) : ct l y_Ass_isFull (Cond.code y_Ass_isFull b_Ass_isFull 1 (some .boolean) :: TB) 0 0 D clss (ty3 cI cL cZ) NM0 NF0 [.ref o_Ass] (w_Ass cI cL cZ o_Ass a_Ass_0 v_Ass) (qI D clss (ty3 cI cL cZ) (O_Ass_isFull cI cL cZ o_Ass a_Ass_0 v_Ass out)) 0 0 := by
  refine ct_of (plainFor_of_name (by decide)) (Nat.le_of_ble_eq_true rfl) (fun p e s m args below meth c A X N hr hlk hnm => ?_)
  refine aj_lv (lv' := [(0, .ref o_Ass)]) [0] rfl ?_
  unfold m_Ass_isFull at hm
  refine aj_aload_n X d_Ass_isFull_0 0 rfl ?_
  refine aj_get X d_Ass_isFull_1 in_Ass 0 rfl rfl 0 (by decide) lf_Ass_9 rfl ?_
  refine aj_bipush (v := (40 : Int32)) X d_Ass_isFull_4 (by decide) ?_
  refine aj_icmp_lt X 13 d_Ass_isFull_6 (by decide) (fun h => ?_) (fun h => ?_)
  · have hm := ite_t hm h
    refine aj_iconst (v := (0 : Int32)) X d_Ass_isFull_13 (by decide) ?_
    have ho := Option.some.inj hm
    subst ho
    exact aj_zret X d_Ass_isFull_14 hr hlk (by decide) [0, 1] (w_Ass cI cL cZ o_Ass a_Ass_0 v_Ass) rfl rfl ⟨rfl, rfl⟩
  · have hm := ite_f hm h
    refine aj_iconst (v := (1 : Int32)) X d_Ass_isFull_9 (by decide) ?_
    refine aj_goto X 14 d_Ass_isFull_10 (by decide) ?_
    have ho := Option.some.inj hm
    subst ho
    exact aj_zret X d_Ass_isFull_14 hr hlk (by decide) [0, 1] (w_Ass cI cL cZ o_Ass a_Ass_0 v_Ass) rfl rfl ⟨rfl, rfl⟩
abbrev X_Ass_concerns (p : Program) (s : State) (m : MethodId) (args : Array Value) (c : Code) (D : va_G) (cI cL cZ : ClassId) (A : Nat → Prop) : Prop := aj_C p s m args c D clss (ty3 cI cL cZ) A b_Ass_concerns 3 R_Ass TB
abbrev J_Ass_concerns (p : Program) (l : Launch) (e : Env) (s : State) (m : MethodId) (args : Array Value) (below : List Frame) (meth : Method) (c : Code) (D : va_G) (cI cL cZ : ClassId) (A : Nat → Prop) (O : Int32 → va_W → Prop) (mc ms : Nat) (ws : va_W) (kc ks pc : Nat) (lv : List (Nat × Value)) (st : List Value) : Prop := aj p l e { frames := 0, cells := mc, slots := ms, locals := 0 } s m args below meth c (MQ below (qI D clss (ty3 cI cL cZ) O A) args s mc ms A) D clss A 3 ws kc ks pc lv st
def O_Ass_concerns (cI cL cZ : ClassId) (o_Ass a_Ass_0 : Nat) (v_Ass : T_Ass) (out : Int32) : Int32 → va_W → Prop := fun r w1 => out = r ∧ w1 = w_Ass cI cL cZ o_Ass a_Ass_0 v_Ass
def m_Ass_concerns_L2 (v_Ass : T_Ass) : Nat → Int32 → Int32 → Option (Int32)
  | 0, _, _ => none
  | f + 1, x1, x2 => (if v_Ass.1 ≤ x2 then (some (0 : Int32)) else (if ¬ (x2 < 0 ∨ v_Ass.2.1 ≤ (x2).toNatClampNeg) then (if ((v_Ass.2.2 (x2).toNatClampNeg) >>> ((1 : Int32) &&& 31)) = x1 then (some (1 : Int32)) else ((m_Ass_concerns_L2 v_Ass f) x1 (x2 + 1))) else none))
set_option maxRecDepth 100000 in
set_option maxHeartbeats 4000000 in
theorem c_Ass_concerns_L2 {l : Launch} {D : va_G} {cI cL cZ : ClassId} {p : Program} {e : Env} {s : State} {m : MethodId} {args : Array Value} {below : List Frame} {meth : Method} {c : Code} {A : Nat → Prop} (o_Ass a_Ass_0 : Nat) (v_Ass : T_Ass) (out : Int32) (X : X_Ass_concerns p s m args c D cI cL cZ A) (N : nk NM0 NF0 s) (hr : meth.sig.returnType = some .boolean) (hlk : meth.locks = false) : ∀ (nn : Nat), ∀ (x1 : Int32) (x2 : Int32), m_Ass_concerns_L2 v_Ass nn x1 x2 = some out → J_Ass_concerns p l e s m args below meth c D cI cL cZ A (O_Ass_concerns cI cL cZ o_Ass a_Ass_0 v_Ass out) 0 0 (w_Ass cI cL cZ o_Ass a_Ass_0 v_Ass) 0 0 2 [(0, .ref o_Ass), (1, .int x1), (2, .int x2)] [] := by
  intro nn
  induction nn with
  | zero => intro x1 x2 hm; exact absurd hm (by simp [m_Ass_concerns_L2])
  | succ nn ih2 =>
    intro x1 x2 hm
    unfold m_Ass_concerns_L2 at hm
    refine aj_iload_n X d_Ass_concerns_2 2 rfl ?_
    refine aj_aload_n X d_Ass_concerns_3 0 rfl ?_
    refine aj_get X d_Ass_concerns_4 in_Ass 0 rfl rfl 0 (by decide) lf_Ass_9 rfl ?_
    refine aj_icmp_ge X 30 d_Ass_concerns_7 (by decide) (fun h => ?_) (fun h => ?_)
    · have hm := ite_t hm h
      refine aj_iconst (v := (0 : Int32)) X d_Ass_concerns_30 (by decide) ?_
      have ho := Option.some.inj hm
      subst ho
      exact aj_zret X d_Ass_concerns_31 hr hlk (by decide) [0, 1] (w_Ass cI cL cZ o_Ass a_Ass_0 v_Ass) rfl rfl ⟨rfl, rfl⟩
    · have hm := ite_f hm h
      refine aj_aload_n X d_Ass_concerns_10 0 rfl ?_
      refine aj_get X d_Ass_concerns_11 in_Ass 0 rfl rfl 1 (by decide) lf_Ass_15 rfl ?_
      refine aj_iload_n X d_Ass_concerns_14 2 rfl ?_
      obtain ⟨b1, hm⟩ := chk_of hm
      refine aj_iald X d_Ass_concerns_15 1 0 rfl rfl b1 ?_
      refine aj_iconst (v := (1 : Int32)) X d_Ass_concerns_16 (by decide) ?_
      refine aj_ishr X d_Ass_concerns_17 ?_
      refine aj_iload_n X d_Ass_concerns_18 1 rfl ?_
      refine aj_icmp_ne X 24 d_Ass_concerns_19 (by decide) (fun h => ?_) (fun h => ?_)
      · have hm := ite_f hm h
        refine aj_iinc (v := (x2 + 1)) (lv' := [(2, .int (x2 + 1)), (0, .ref o_Ass), (1, .int x1)]) X d_Ass_concerns_24 2 rfl rfl (by decide) rfl ?_
        refine aj_goto X 2 d_Ass_concerns_27 (by decide) ?_
        refine aj_lv (lv' := [(0, .ref o_Ass), (1, .int x1), (2, .int (x2 + 1))]) [1, 2, 0] rfl ?_
        exact ih2 x1 (x2 + 1) hm
      · have hm := ite_t hm h
        refine aj_iconst (v := (1 : Int32)) X d_Ass_concerns_22 (by decide) ?_
        have ho := Option.some.inj hm
        subst ho
        exact aj_zret X d_Ass_concerns_23 hr hlk (by decide) [0, 1] (w_Ass cI cL cZ o_Ass a_Ass_0 v_Ass) rfl rfl ⟨rfl, rfl⟩
def m_Ass_concerns (v_Ass : T_Ass) (x1 : Int32) : Option (Int32) := (m_Ass_concerns_L2 v_Ass fu x1 (0 : Int32))
set_option maxRecDepth 100000 in
set_option maxHeartbeats 4000000 in
theorem c_Ass_concerns {l : Launch} {D : va_G} {cI cL cZ : ClassId} (o_Ass a_Ass_0 : Nat) (v_Ass : T_Ass) (x1 : Int32) (out : Int32) (hm : m_Ass_concerns v_Ass x1 = some out) : ct l y_Ass_concerns (Cond.code y_Ass_concerns b_Ass_concerns 3 (some .boolean) :: TB) 0 0 D clss (ty3 cI cL cZ) NM0 NF0 [.ref o_Ass, .int x1] (w_Ass cI cL cZ o_Ass a_Ass_0 v_Ass) (qI D clss (ty3 cI cL cZ) (O_Ass_concerns cI cL cZ o_Ass a_Ass_0 v_Ass out)) 0 0 := by
  refine ct_of (plainFor_of_name (by decide)) (Nat.le_of_ble_eq_true rfl) (fun p e s m args below meth c A X N hr hlk hnm => ?_)
  refine aj_lv (lv' := [(0, .ref o_Ass), (1, .int x1)]) [0, 1] rfl ?_
  unfold m_Ass_concerns at hm
  refine aj_iconst (v := (0 : Int32)) X d_Ass_concerns_0 (by decide) ?_
  refine aj_istore_n (lv' := [(2, .int (0 : Int32)), (0, .ref o_Ass), (1, .int x1)]) X d_Ass_concerns_1 rfl (by decide) rfl ?_
  refine aj_lv (lv' := [(0, .ref o_Ass), (1, .int x1), (2, .int (0 : Int32))]) [1, 2, 0] rfl ?_
  exact c_Ass_concerns_L2 o_Ass a_Ass_0 v_Ass out X N hr hlk fu x1 (0 : Int32) hm
abbrev X_Ass_append (p : Program) (s : State) (m : MethodId) (args : Array Value) (c : Code) (D : va_G) (cI cL cZ : ClassId) (A : Nat → Prop) : Prop := aj_C p s m args c D clss (ty3 cI cL cZ) A b_Ass_append 2 R_Ass TB
abbrev J_Ass_append (p : Program) (l : Launch) (e : Env) (s : State) (m : MethodId) (args : Array Value) (below : List Frame) (meth : Method) (c : Code) (D : va_G) (cI cL cZ : ClassId) (A : Nat → Prop) (O : va_W → Prop) (mc ms : Nat) (ws : va_W) (kc ks pc : Nat) (lv : List (Nat × Value)) (st : List Value) : Prop := aj p l e { frames := 1, cells := mc, slots := ms, locals := 20 } s m args below meth c (MQ below (qV D clss (ty3 cI cL cZ) O A) args s mc ms A) D clss A 2 ws kc ks pc lv st
def O_Ass_append (cI cL cZ : ClassId) (o_Ass a_Ass_0 : Nat) (out : T_Ass) : va_W → Prop := fun w1 => w1 = w_Ass cI cL cZ o_Ass a_Ass_0 out
def m_Ass_append (v_Ass : T_Ass) (x1 : Int32) : Option (T_Ass) := ((m_Ass_isFull v_Ass).bind fun r3 => (if r3 = 0 then (if ¬ (v_Ass.1 < 0 ∨ v_Ass.2.1 ≤ (v_Ass.1).toNatClampNeg) then (some ((v_Ass.1 + (1 : Int32)), (v_Ass.2.1, (upd v_Ass.2.2 (v_Ass.1).toNatClampNeg x1)))) else none) else (some v_Ass)))
set_option maxRecDepth 100000 in
set_option maxHeartbeats 4000000 in
theorem c_Ass_append {l : Launch} {D : va_G} {cI cL cZ : ClassId} (o_Ass a_Ass_0 : Nat) (v_Ass : T_Ass) (x1 : Int32) (out : T_Ass) (hm : m_Ass_append v_Ass x1 = some out) : ct l y_Ass_append (Cond.code y_Ass_append b_Ass_append 2 none :: TB) 1 20 D clss (ty3 cI cL cZ) NM0 NF0 [.ref o_Ass, .int x1] (w_Ass cI cL cZ o_Ass a_Ass_0 v_Ass) (qV D clss (ty3 cI cL cZ) (O_Ass_append cI cL cZ o_Ass a_Ass_0 out)) 0 0 := by
  refine ct_of (plainFor_of_name (by decide)) (Nat.le_of_ble_eq_true rfl) (fun p e s m args below meth c A X N hr hlk hnm => ?_)
  refine aj_lv (lv' := [(0, .ref o_Ass), (1, .int x1)]) [0, 1] rfl ?_
  unfold m_Ass_append at hm
  refine aj_aload_n X d_Ass_append_0 0 rfl ?_
  obtain ⟨r3, h4, hm⟩ := bnd_of hm
  refine aj_callI (wr := []) X (aj_rV (As := []) (rest := []) X N gTB (c_Ass_isFull (D := D) (cI := cI) (cL := cL) (cZ := cZ) o_Ass a_Ass_0 v_Ass r3 h4) d_Ass_append_1 lk_Ass_isFull lw_Ass_19 lh_Ass_isFull ⟨(Nat.le_of_ble_eq_true rfl), (Nat.le_of_ble_eq_true rfl)⟩ [0, 1] rfl rfl 0 rfl rfl rfl rfl (Nat.le_of_ble_eq_true rfl) ⟨Nat.le_refl _, Nat.le_refl _⟩) [0, 1] [] rfl rfl rfl (by decide) (fun rr w1 hO => ?_)
  obtain ⟨rfl, rfl⟩ := hO
  refine aj_perm (ws' := w_Ass cI cL cZ o_Ass a_Ass_0 v_Ass) [0, 1] rfl rfl ?_
  refine aj_if_eq X 8 d_Ass_append_4 (by decide) (fun h => ?_) (fun h => ?_)
  · have hm := ite_t hm h
    refine aj_aload_n X d_Ass_append_8 0 rfl ?_
    refine aj_get X d_Ass_append_9 in_Ass 0 rfl rfl 1 (by decide) lf_Ass_15 rfl ?_
    refine aj_aload_n X d_Ass_append_12 0 rfl ?_
    refine aj_get X d_Ass_append_13 in_Ass 0 rfl rfl 0 (by decide) lf_Ass_9 rfl ?_
    refine aj_iload_n X d_Ass_append_16 1 rfl ?_
    obtain ⟨b5, hm⟩ := chk_of hm
    refine aj_iast (ws' := w_Ass cI cL cZ o_Ass a_Ass_0 (v_Ass.1, (v_Ass.2.1, (upd v_Ass.2.2 (v_Ass.1).toNatClampNeg x1)))) X d_Ass_append_17 1 0 rfl rfl b5 rfl ?_
    refine aj_aload_n X d_Ass_append_18 0 rfl ?_
    refine aj_dup X d_Ass_append_19 rfl ?_
    refine aj_get X d_Ass_append_20 in_Ass 0 rfl rfl 0 (by decide) lf_Ass_9 rfl ?_
    refine aj_iconst (v := (1 : Int32)) X d_Ass_append_23 (by decide) ?_
    refine aj_iadd X d_Ass_append_24 ?_
    refine aj_put (ws' := w_Ass cI cL cZ o_Ass a_Ass_0 ((v_Ass.1 + (1 : Int32)), (v_Ass.2.1, (upd v_Ass.2.2 (v_Ass.1).toNatClampNeg x1)))) X d_Ass_append_25 in_Ass ty_Ass tyok_Ass nmx_Ass 0 rfl rfl 0 (by decide) lf_Ass_9 rfl rfl rfl (Nat.le_of_ble_eq_true rfl) rfl ?_
    have ho := Option.some.inj hm
    subst ho
    exact aj_vret X d_Ass_append_28 hr hlk [0, 1] (w_Ass cI cL cZ o_Ass a_Ass_0 ((v_Ass.1 + (1 : Int32)), (v_Ass.2.1, (upd v_Ass.2.2 (v_Ass.1).toNatClampNeg x1)))) rfl rfl rfl
  · have hm := ite_f hm h
    have ho := Option.some.inj hm
    subst ho
    exact aj_vret X d_Ass_append_7 hr hlk [0, 1] (w_Ass cI cL cZ o_Ass a_Ass_0 v_Ass) rfl rfl rfl
abbrev X_CS_assume (p : Program) (s : State) (m : MethodId) (args : Array Value) (c : Code) (D : va_G) (cI cL cZ : ClassId) (A : Nat → Prop) : Prop := aj_C p s m args c D clss (ty3 cI cL cZ) A b_CS_assume 3 R_CS TB
abbrev J_CS_assume (p : Program) (l : Launch) (e : Env) (s : State) (m : MethodId) (args : Array Value) (below : List Frame) (meth : Method) (c : Code) (D : va_G) (cI cL cZ : ClassId) (A : Nat → Prop) (O : Int32 → va_W → Prop) (mc ms : Nat) (ws : va_W) (kc ks pc : Nat) (lv : List (Nat × Value)) (st : List Value) : Prop := aj p l e { frames := 2, cells := mc, slots := ms, locals := 41 } s m args below meth c (MQ below (qI D clss (ty3 cI cL cZ) O A) args s mc ms A) D clss A 3 ws kc ks pc lv st
def O_CS_assume (cI cL cZ : ClassId) (o_CS o_Sto o_Pla o_Ass o_Tra o_Sea a_Ass_0 : Nat) (out : T_CS × T_Ass × Int32) : Int32 → va_W → Prop := fun r w1 => out.2.2 = r ∧ w1 = w_CS cI cL cZ o_CS o_Sto o_Pla o_Ass o_Tra o_Sea out.1 ++ w_Ass cI cL cZ o_Ass a_Ass_0 out.2.1
def m_CS_assume (v_CS : T_CS) (v_Ass : T_Ass) (x1 : Int32) (x2 : Int32) : Option (T_CS × T_Ass × Int32) := ((m_CS_isThing v_CS x1).bind fun r11 => (if r11 = 0 then (some (v_CS, v_Ass, (0 : Int32))) else ((m_Ass_isFull v_Ass).bind fun r13 => (if r13 = 0 then ((m_Ass_concerns v_Ass x1).bind fun r15 => (if r15 = 0 then ((m_CS_literalOf x1 x2).bind fun r17 => ((m_Ass_append v_Ass r17).bind fun r19 => (some ((v_CS.1, v_CS.2.1, (1 : Int32)), r19, (1 : Int32))))) else (some (v_CS, v_Ass, (0 : Int32))))) else (some (v_CS, v_Ass, (0 : Int32)))))))
set_option maxRecDepth 100000 in
set_option maxHeartbeats 4000000 in
theorem c_CS_assume {l : Launch} {D : va_G} {cI cL cZ : ClassId} (o_CS o_Sto o_Pla o_Ass o_Tra o_Sea a_Ass_0 : Nat) (v_CS : T_CS) (v_Ass : T_Ass) (x1 : Int32) (x2 : Int32) (out : T_CS × T_Ass × Int32) (hm : m_CS_assume v_CS v_Ass x1 x2 = some out) : ct l y_CS_assume (Cond.code y_CS_assume b_CS_assume 3 (some .boolean) :: TB) 2 41 D clss (ty3 cI cL cZ) NM0 NF0 [.ref o_CS, .int x1, .int x2] (w_CS cI cL cZ o_CS o_Sto o_Pla o_Ass o_Tra o_Sea v_CS ++ w_Ass cI cL cZ o_Ass a_Ass_0 v_Ass) (qI D clss (ty3 cI cL cZ) (O_CS_assume cI cL cZ o_CS o_Sto o_Pla o_Ass o_Tra o_Sea a_Ass_0 out)) 0 0 := by
  refine ct_of (plainFor_of_name (by decide)) (Nat.le_of_ble_eq_true rfl) (fun p e s m args below meth c A X N hr hlk hnm => ?_)
  refine aj_lv (lv' := [(0, .ref o_CS), (1, .int x1), (2, .int x2)]) [0, 1, 2] rfl ?_
  unfold m_CS_assume at hm
  refine aj_aload_n X d_CS_assume_0 0 rfl ?_
  refine aj_iload_n X d_CS_assume_1 1 rfl ?_
  obtain ⟨r11, h12, hm⟩ := bnd_of hm
  refine aj_callI (wr := [(o_Ass, .inr (0, [.int v_Ass.1, .ref a_Ass_0])), (a_Ass_0, .inl (cI, v_Ass.2.1, .inl v_Ass.2.2))]) X (aj_rV (As := [.int x1]) (rest := []) X N gTB (c_CS_isThing (D := D) (cI := cI) (cL := cL) (cZ := cZ) o_CS o_Sto o_Pla o_Ass o_Tra o_Sea v_CS x1 r11 h12) d_CS_assume_2 lk_CS_isThing lw_CS_86 lh_CS_isThing ⟨(Nat.le_of_ble_eq_true rfl), (Nat.le_of_ble_eq_true rfl)⟩ [0] rfl rfl 0 rfl rfl rfl rfl (Nat.le_of_ble_eq_true rfl) ⟨Nat.le_refl _, Nat.le_refl _⟩) [0] [1, 2] rfl rfl rfl (by decide) (fun rr w1 hO => ?_)
  obtain ⟨rfl, rfl⟩ := hO
  refine aj_perm (ws' := w_CS cI cL cZ o_CS o_Sto o_Pla o_Ass o_Tra o_Sea v_CS ++ w_Ass cI cL cZ o_Ass a_Ass_0 v_Ass) [2, 0, 1] rfl rfl ?_
  refine aj_if_eq X 29 d_CS_assume_5 (by decide) (fun h => ?_) (fun h => ?_)
  · have hm := ite_t hm h
    refine aj_iconst (v := (0 : Int32)) X d_CS_assume_29 (by decide) ?_
    have ho := Option.some.inj hm
    subst ho
    exact aj_zret X d_CS_assume_30 hr hlk (by decide) [0, 1, 2] (w_CS cI cL cZ o_CS o_Sto o_Pla o_Ass o_Tra o_Sea v_CS ++ w_Ass cI cL cZ o_Ass a_Ass_0 v_Ass) rfl rfl ⟨rfl, rfl⟩
  · have hm := ite_f hm h
    refine aj_aload_n X d_CS_assume_8 0 rfl ?_
    refine aj_get X d_CS_assume_9 in_CS 0 rfl rfl 3 (by decide) lf_CS_41 rfl ?_
    obtain ⟨r13, h14, hm⟩ := bnd_of hm
    refine aj_callI (wr := [(o_CS, .inr (6, [.int v_CS.1, .ref o_Sto, .ref o_Pla, .ref o_Ass, .ref o_Tra, .ref o_Sea, .int v_CS.2.1, .int v_CS.2.2]))]) X (aj_rV (As := []) (rest := []) X N gTB (c_Ass_isFull (D := D) (cI := cI) (cL := cL) (cZ := cZ) o_Ass a_Ass_0 v_Ass r13 h14) d_CS_assume_12 lk_Ass_isFull lw_CS_134 lh_Ass_isFull ⟨(Nat.le_of_ble_eq_true rfl), (Nat.le_of_ble_eq_true rfl)⟩ [1, 2] rfl rfl 0 rfl rfl rfl rfl (Nat.le_of_ble_eq_true rfl) ⟨Nat.le_refl _, Nat.le_refl _⟩) [1, 2] [0] rfl rfl rfl (by decide) (fun rr w1 hO => ?_)
    obtain ⟨rfl, rfl⟩ := hO
    refine aj_perm (ws' := w_CS cI cL cZ o_CS o_Sto o_Pla o_Ass o_Tra o_Sea v_CS ++ w_Ass cI cL cZ o_Ass a_Ass_0 v_Ass) [0, 1, 2] rfl rfl ?_
    refine aj_if_ne X 29 d_CS_assume_15 (by decide) (fun h => ?_) (fun h => ?_)
    · have hm := ite_f hm h
      refine aj_iconst (v := (0 : Int32)) X d_CS_assume_29 (by decide) ?_
      have ho := Option.some.inj hm
      subst ho
      exact aj_zret X d_CS_assume_30 hr hlk (by decide) [0, 1, 2] (w_CS cI cL cZ o_CS o_Sto o_Pla o_Ass o_Tra o_Sea v_CS ++ w_Ass cI cL cZ o_Ass a_Ass_0 v_Ass) rfl rfl ⟨rfl, rfl⟩
    · have hm := ite_t hm h
      refine aj_aload_n X d_CS_assume_18 0 rfl ?_
      refine aj_get X d_CS_assume_19 in_CS 0 rfl rfl 3 (by decide) lf_CS_41 rfl ?_
      refine aj_iload_n X d_CS_assume_22 1 rfl ?_
      obtain ⟨r15, h16, hm⟩ := bnd_of hm
      refine aj_callI (wr := [(o_CS, .inr (6, [.int v_CS.1, .ref o_Sto, .ref o_Pla, .ref o_Ass, .ref o_Tra, .ref o_Sea, .int v_CS.2.1, .int v_CS.2.2]))]) X (aj_rV (As := [.int x1]) (rest := []) X N gTB (c_Ass_concerns (D := D) (cI := cI) (cL := cL) (cZ := cZ) o_Ass a_Ass_0 v_Ass x1 r15 h16) d_CS_assume_23 lk_Ass_concerns lw_CS_138 lh_Ass_concerns ⟨(Nat.le_of_ble_eq_true rfl), (Nat.le_of_ble_eq_true rfl)⟩ [1, 2] rfl rfl 0 rfl rfl rfl rfl (Nat.le_of_ble_eq_true rfl) ⟨Nat.le_refl _, Nat.le_refl _⟩) [1, 2] [0] rfl rfl rfl (by decide) (fun rr w1 hO => ?_)
      obtain ⟨rfl, rfl⟩ := hO
      refine aj_perm (ws' := w_CS cI cL cZ o_CS o_Sto o_Pla o_Ass o_Tra o_Sea v_CS ++ w_Ass cI cL cZ o_Ass a_Ass_0 v_Ass) [0, 1, 2] rfl rfl ?_
      refine aj_if_eq X 31 d_CS_assume_26 (by decide) (fun h => ?_) (fun h => ?_)
      · have hm := ite_t hm h
        refine aj_aload_n X d_CS_assume_31 0 rfl ?_
        refine aj_get X d_CS_assume_32 in_CS 0 rfl rfl 3 (by decide) lf_CS_41 rfl ?_
        refine aj_iload_n X d_CS_assume_35 1 rfl ?_
        refine aj_iload_n X d_CS_assume_36 2 rfl ?_
        obtain ⟨r17, h18, hm⟩ := bnd_of hm
        refine aj_callI (wr := [(o_CS, .inr (6, [.int v_CS.1, .ref o_Sto, .ref o_Pla, .ref o_Ass, .ref o_Tra, .ref o_Sea, .int v_CS.2.1, .int v_CS.2.2])), (o_Ass, .inr (0, [.int v_Ass.1, .ref a_Ass_0])), (a_Ass_0, .inl (cI, v_Ass.2.1, .inl v_Ass.2.2))]) X (aj_rS (As := [.int x1, .int x2]) (rest := [.ref o_Ass]) X N gTB (c_CS_literalOf (D := D) (cI := cI) (cL := cL) (cZ := cZ) x1 x2 r17 h18) d_CS_assume_37 lk_CS_literalOf lw_CS_89 lh_CS_literalOf ⟨(Nat.le_of_ble_eq_true rfl), (Nat.le_of_ble_eq_true rfl)⟩ [] rfl rfl rfl (Nat.le_of_ble_eq_true rfl) ⟨Nat.le_refl _, Nat.le_refl _⟩) [] [0, 1, 2] rfl rfl rfl (by decide) (fun rr w1 hO => ?_)
        obtain ⟨rfl, rfl⟩ := hO
        refine aj_perm (ws' := w_CS cI cL cZ o_CS o_Sto o_Pla o_Ass o_Tra o_Sea v_CS ++ w_Ass cI cL cZ o_Ass a_Ass_0 v_Ass) [0, 1, 2] rfl rfl ?_
        obtain ⟨r19, h20, hm⟩ := bnd_of hm
        refine aj_callV (wr := [(o_CS, .inr (6, [.int v_CS.1, .ref o_Sto, .ref o_Pla, .ref o_Ass, .ref o_Tra, .ref o_Sea, .int v_CS.2.1, .int v_CS.2.2]))]) X (aj_rV (As := [.int r17]) (rest := []) X N gTB (c_Ass_append (D := D) (cI := cI) (cL := cL) (cZ := cZ) o_Ass a_Ass_0 v_Ass r17 r19 h20) d_CS_assume_40 lk_Ass_append lw_CS_141 lh_Ass_append ⟨(Nat.le_of_ble_eq_true rfl), (Nat.le_of_ble_eq_true rfl)⟩ [1, 2] rfl rfl 0 rfl rfl rfl rfl (Nat.le_of_ble_eq_true rfl) ⟨Nat.le_refl _, Nat.le_refl _⟩) [1, 2] [0] rfl rfl rfl (by decide) (fun w1 hO => ?_)
        obtain rfl := hO
        refine aj_perm (ws' := w_CS cI cL cZ o_CS o_Sto o_Pla o_Ass o_Tra o_Sea v_CS ++ w_Ass cI cL cZ o_Ass a_Ass_0 r19) [0, 1, 2] rfl rfl ?_
        refine aj_aload_n X d_CS_assume_43 0 rfl ?_
        refine aj_iconst (v := (1 : Int32)) X d_CS_assume_44 (by decide) ?_
        refine aj_put (ws' := w_CS cI cL cZ o_CS o_Sto o_Pla o_Ass o_Tra o_Sea (v_CS.1, v_CS.2.1, (1 : Int32)) ++ w_Ass cI cL cZ o_Ass a_Ass_0 r19) X d_CS_assume_45 in_CS ty_CS tyok_CS nmx_CS 0 rfl rfl 7 (by decide) lf_CS_71 rfl rfl rfl (Nat.le_of_ble_eq_true rfl) rfl ?_
        refine aj_iconst (v := (1 : Int32)) X d_CS_assume_48 (by decide) ?_
        have ho := Option.some.inj hm
        subst ho
        exact aj_zret X d_CS_assume_49 hr hlk (by decide) [0, 1, 2] (w_CS cI cL cZ o_CS o_Sto o_Pla o_Ass o_Tra o_Sea (v_CS.1, v_CS.2.1, (1 : Int32)) ++ w_Ass cI cL cZ o_Ass a_Ass_0 r19) rfl rfl ⟨rfl, rfl⟩
      · have hm := ite_f hm h
        refine aj_iconst (v := (0 : Int32)) X d_CS_assume_29 (by decide) ?_
        have ho := Option.some.inj hm
        subst ho
        exact aj_zret X d_CS_assume_30 hr hlk (by decide) [0, 1, 2] (w_CS cI cL cZ o_CS o_Sto o_Pla o_Ass o_Tra o_Sea v_CS ++ w_Ass cI cL cZ o_Ass a_Ass_0 v_Ass) rfl rfl ⟨rfl, rfl⟩
abbrev X_Ass_clear (p : Program) (s : State) (m : MethodId) (args : Array Value) (c : Code) (D : va_G) (cI cL cZ : ClassId) (A : Nat → Prop) : Prop := aj_C p s m args c D clss (ty3 cI cL cZ) A b_Ass_clear 1 R_Ass TB
abbrev J_Ass_clear (p : Program) (l : Launch) (e : Env) (s : State) (m : MethodId) (args : Array Value) (below : List Frame) (meth : Method) (c : Code) (D : va_G) (cI cL cZ : ClassId) (A : Nat → Prop) (O : va_W → Prop) (mc ms : Nat) (ws : va_W) (kc ks pc : Nat) (lv : List (Nat × Value)) (st : List Value) : Prop := aj p l e { frames := 0, cells := mc, slots := ms, locals := 0 } s m args below meth c (MQ below (qV D clss (ty3 cI cL cZ) O A) args s mc ms A) D clss A 1 ws kc ks pc lv st
def O_Ass_clear (cI cL cZ : ClassId) (o_Ass a_Ass_0 : Nat) (out : T_Ass) : va_W → Prop := fun w1 => w1 = w_Ass cI cL cZ o_Ass a_Ass_0 out
def m_Ass_clear (v_Ass : T_Ass) : Option (T_Ass) := (some ((0 : Int32), v_Ass.2))
set_option maxRecDepth 100000 in
set_option maxHeartbeats 4000000 in
theorem c_Ass_clear {l : Launch} {D : va_G} {cI cL cZ : ClassId} (o_Ass a_Ass_0 : Nat) (v_Ass : T_Ass) (out : T_Ass) (hm : m_Ass_clear v_Ass = some out) : ct l y_Ass_clear (Cond.code y_Ass_clear b_Ass_clear 1 none :: TB) 0 0 D clss (ty3 cI cL cZ) NM0 NF0 [.ref o_Ass] (w_Ass cI cL cZ o_Ass a_Ass_0 v_Ass) (qV D clss (ty3 cI cL cZ) (O_Ass_clear cI cL cZ o_Ass a_Ass_0 out)) 0 0 := by
  refine ct_of (plainFor_of_name (by decide)) (Nat.le_of_ble_eq_true rfl) (fun p e s m args below meth c A X N hr hlk hnm => ?_)
  refine aj_lv (lv' := [(0, .ref o_Ass)]) [0] rfl ?_
  unfold m_Ass_clear at hm
  refine aj_aload_n X d_Ass_clear_0 0 rfl ?_
  refine aj_iconst (v := (0 : Int32)) X d_Ass_clear_1 (by decide) ?_
  refine aj_put (ws' := w_Ass cI cL cZ o_Ass a_Ass_0 ((0 : Int32), v_Ass.2)) X d_Ass_clear_2 in_Ass ty_Ass tyok_Ass nmx_Ass 0 rfl rfl 0 (by decide) lf_Ass_9 rfl rfl rfl (Nat.le_of_ble_eq_true rfl) rfl ?_
  have ho := Option.some.inj hm
  subst ho
  exact aj_vret X d_Ass_clear_5 hr hlk [0, 1] (w_Ass cI cL cZ o_Ass a_Ass_0 ((0 : Int32), v_Ass.2)) rfl rfl rfl
abbrev X_CS_freely (p : Program) (s : State) (m : MethodId) (args : Array Value) (c : Code) (D : va_G) (cI cL cZ : ClassId) (A : Nat → Prop) : Prop := aj_C p s m args c D clss (ty3 cI cL cZ) A b_CS_freely 1 R_CS TB
abbrev J_CS_freely (p : Program) (l : Launch) (e : Env) (s : State) (m : MethodId) (args : Array Value) (below : List Frame) (meth : Method) (c : Code) (D : va_G) (cI cL cZ : ClassId) (A : Nat → Prop) (O : va_W → Prop) (mc ms : Nat) (ws : va_W) (kc ks pc : Nat) (lv : List (Nat × Value)) (st : List Value) : Prop := aj p l e { frames := 1, cells := mc, slots := ms, locals := 20 } s m args below meth c (MQ below (qV D clss (ty3 cI cL cZ) O A) args s mc ms A) D clss A 1 ws kc ks pc lv st
def O_CS_freely (cI cL cZ : ClassId) (o_CS o_Sto o_Pla o_Ass o_Tra o_Sea a_Ass_0 : Nat) (out : T_CS × T_Ass) : va_W → Prop := fun w1 => w1 = w_CS cI cL cZ o_CS o_Sto o_Pla o_Ass o_Tra o_Sea out.1 ++ w_Ass cI cL cZ o_Ass a_Ass_0 out.2
def m_CS_freely (v_CS : T_CS) (v_Ass : T_Ass) : Option (T_CS × T_Ass) := ((m_Ass_clear v_Ass).bind fun r3 => (some ((v_CS.1, v_CS.2.1, (1 : Int32)), r3)))
set_option maxRecDepth 100000 in
set_option maxHeartbeats 4000000 in
theorem c_CS_freely {l : Launch} {D : va_G} {cI cL cZ : ClassId} (o_CS o_Sto o_Pla o_Ass o_Tra o_Sea a_Ass_0 : Nat) (v_CS : T_CS) (v_Ass : T_Ass) (out : T_CS × T_Ass) (hm : m_CS_freely v_CS v_Ass = some out) : ct l y_CS_freely (Cond.code y_CS_freely b_CS_freely 1 none :: TB) 1 20 D clss (ty3 cI cL cZ) NM0 NF0 [.ref o_CS] (w_CS cI cL cZ o_CS o_Sto o_Pla o_Ass o_Tra o_Sea v_CS ++ w_Ass cI cL cZ o_Ass a_Ass_0 v_Ass) (qV D clss (ty3 cI cL cZ) (O_CS_freely cI cL cZ o_CS o_Sto o_Pla o_Ass o_Tra o_Sea a_Ass_0 out)) 0 0 := by
  refine ct_of (plainFor_of_name (by decide)) (Nat.le_of_ble_eq_true rfl) (fun p e s m args below meth c A X N hr hlk hnm => ?_)
  refine aj_lv (lv' := [(0, .ref o_CS)]) [0] rfl ?_
  unfold m_CS_freely at hm
  refine aj_aload_n X d_CS_freely_0 0 rfl ?_
  refine aj_get X d_CS_freely_1 in_CS 0 rfl rfl 3 (by decide) lf_CS_41 rfl ?_
  obtain ⟨r3, h4, hm⟩ := bnd_of hm
  refine aj_callV (wr := [(o_CS, .inr (6, [.int v_CS.1, .ref o_Sto, .ref o_Pla, .ref o_Ass, .ref o_Tra, .ref o_Sea, .int v_CS.2.1, .int v_CS.2.2]))]) X (aj_rV (As := []) (rest := []) X N gTB (c_Ass_clear (D := D) (cI := cI) (cL := cL) (cZ := cZ) o_Ass a_Ass_0 v_Ass r3 h4) d_CS_freely_4 lk_Ass_clear lw_CS_142 lh_Ass_clear ⟨(Nat.le_of_ble_eq_true rfl), (Nat.le_of_ble_eq_true rfl)⟩ [1, 2] rfl rfl 0 rfl rfl rfl rfl (Nat.le_of_ble_eq_true rfl) ⟨Nat.le_refl _, Nat.le_refl _⟩) [1, 2] [0] rfl rfl rfl (by decide) (fun w1 hO => ?_)
  obtain rfl := hO
  refine aj_perm (ws' := w_CS cI cL cZ o_CS o_Sto o_Pla o_Ass o_Tra o_Sea v_CS ++ w_Ass cI cL cZ o_Ass a_Ass_0 r3) [0, 1, 2] rfl rfl ?_
  refine aj_aload_n X d_CS_freely_7 0 rfl ?_
  refine aj_iconst (v := (1 : Int32)) X d_CS_freely_8 (by decide) ?_
  refine aj_put (ws' := w_CS cI cL cZ o_CS o_Sto o_Pla o_Ass o_Tra o_Sea (v_CS.1, v_CS.2.1, (1 : Int32)) ++ w_Ass cI cL cZ o_Ass a_Ass_0 r3) X d_CS_freely_9 in_CS ty_CS tyok_CS nmx_CS 0 rfl rfl 7 (by decide) lf_CS_71 rfl rfl rfl (Nat.le_of_ble_eq_true rfl) rfl ?_
  have ho := Option.some.inj hm
  subst ho
  exact aj_vret X d_CS_freely_12 hr hlk [0, 1, 2] (w_CS cI cL cZ o_CS o_Sto o_Pla o_Ass o_Tra o_Sea (v_CS.1, v_CS.2.1, (1 : Int32)) ++ w_Ass cI cL cZ o_Ass a_Ass_0 r3) rfl rfl rfl
abbrev X_Sea_coreLiteral (p : Program) (s : State) (m : MethodId) (args : Array Value) (c : Code) (D : va_G) (cI cL cZ : ClassId) (A : Nat → Prop) : Prop := aj_C p s m args c D clss (ty3 cI cL cZ) A b_Sea_coreLiteral 2 R_Sea TB
abbrev J_Sea_coreLiteral (p : Program) (l : Launch) (e : Env) (s : State) (m : MethodId) (args : Array Value) (below : List Frame) (meth : Method) (c : Code) (D : va_G) (cI cL cZ : ClassId) (A : Nat → Prop) (O : Int32 → va_W → Prop) (mc ms : Nat) (ws : va_W) (kc ks pc : Nat) (lv : List (Nat × Value)) (st : List Value) : Prop := aj p l e { frames := 0, cells := mc, slots := ms, locals := 0 } s m args below meth c (MQ below (qI D clss (ty3 cI cL cZ) O A) args s mc ms A) D clss A 2 ws kc ks pc lv st
def O_Sea_coreLiteral (cI cL cZ : ClassId) (o_Sea o_Sto o_Tra o_Tal o_Ass a_Sea_0 a_Sea_1 a_Sea_2 : Nat) (v_Sea : T_Sea) (out : Int32) : Int32 → va_W → Prop := fun r w1 => out = r ∧ w1 = w_Sea cI cL cZ o_Sea o_Sto o_Tra o_Tal o_Ass a_Sea_0 a_Sea_1 a_Sea_2 v_Sea
def m_Sea_coreLiteral (v_Sea : T_Sea) (x1 : Int32) : Option (Int32) := (if x1 < 0 then (some (-1 : Int32)) else (if v_Sea.2.2.2.2.2.1 ≤ x1 then (some (-1 : Int32)) else (if ¬ (x1 < 0 ∨ v_Sea.2.2.2.2.1.1 ≤ (x1).toNatClampNeg) then (some (v_Sea.2.2.2.2.1.2 (x1).toNatClampNeg)) else none)))
set_option maxRecDepth 100000 in
set_option maxHeartbeats 4000000 in
theorem c_Sea_coreLiteral {l : Launch} {D : va_G} {cI cL cZ : ClassId} (o_Sea o_Sto o_Tra o_Tal o_Ass a_Sea_0 a_Sea_1 a_Sea_2 : Nat) (v_Sea : T_Sea) (x1 : Int32) (out : Int32) (hm : m_Sea_coreLiteral v_Sea x1 = some out) : ct l y_Sea_coreLiteral (Cond.code y_Sea_coreLiteral b_Sea_coreLiteral 2 (some .int) :: TB) 0 0 D clss (ty3 cI cL cZ) NM0 NF0 [.ref o_Sea, .int x1] (w_Sea cI cL cZ o_Sea o_Sto o_Tra o_Tal o_Ass a_Sea_0 a_Sea_1 a_Sea_2 v_Sea) (qI D clss (ty3 cI cL cZ) (O_Sea_coreLiteral cI cL cZ o_Sea o_Sto o_Tra o_Tal o_Ass a_Sea_0 a_Sea_1 a_Sea_2 v_Sea out)) 0 0 := by
  refine ct_of (plainFor_of_name (by decide)) (Nat.le_of_ble_eq_true rfl) (fun p e s m args below meth c A X N hr hlk hnm => ?_)
  refine aj_lv (lv' := [(0, .ref o_Sea), (1, .int x1)]) [0, 1] rfl ?_
  unfold m_Sea_coreLiteral at hm
  refine aj_iload_n X d_Sea_coreLiteral_0 1 rfl ?_
  refine aj_if_lt X 21 d_Sea_coreLiteral_1 (by decide) (fun h => ?_) (fun h => ?_)
  · have hm := ite_t hm h
    refine aj_iconst (v := (-1 : Int32)) X d_Sea_coreLiteral_21 (by decide) ?_
    have ho := Option.some.inj hm
    subst ho
    exact aj_iret X d_Sea_coreLiteral_22 hr hlk [0, 1, 2, 3] (w_Sea cI cL cZ o_Sea o_Sto o_Tra o_Tal o_Ass a_Sea_0 a_Sea_1 a_Sea_2 v_Sea) rfl rfl ⟨rfl, rfl⟩
  · have hm := ite_f hm h
    refine aj_iload_n X d_Sea_coreLiteral_4 1 rfl ?_
    refine aj_aload_n X d_Sea_coreLiteral_5 0 rfl ?_
    refine aj_get X d_Sea_coreLiteral_6 in_Sea 0 rfl rfl 9 (by decide) lf_Sea_38 rfl ?_
    refine aj_icmp_ge X 21 d_Sea_coreLiteral_9 (by decide) (fun h => ?_) (fun h => ?_)
    · have hm := ite_t hm h
      refine aj_iconst (v := (-1 : Int32)) X d_Sea_coreLiteral_21 (by decide) ?_
      have ho := Option.some.inj hm
      subst ho
      exact aj_iret X d_Sea_coreLiteral_22 hr hlk [0, 1, 2, 3] (w_Sea cI cL cZ o_Sea o_Sto o_Tra o_Tal o_Ass a_Sea_0 a_Sea_1 a_Sea_2 v_Sea) rfl rfl ⟨rfl, rfl⟩
    · have hm := ite_f hm h
      refine aj_aload_n X d_Sea_coreLiteral_12 0 rfl ?_
      refine aj_get X d_Sea_coreLiteral_13 in_Sea 0 rfl rfl 8 (by decide) lf_Sea_35 rfl ?_
      refine aj_iload_n X d_Sea_coreLiteral_16 1 rfl ?_
      obtain ⟨b1, hm⟩ := chk_of hm
      refine aj_iald X d_Sea_coreLiteral_17 2 0 rfl rfl b1 ?_
      refine aj_goto X 22 d_Sea_coreLiteral_18 (by decide) ?_
      have ho := Option.some.inj hm
      subst ho
      exact aj_iret X d_Sea_coreLiteral_22 hr hlk [0, 1, 2, 3] (w_Sea cI cL cZ o_Sea o_Sto o_Tra o_Tal o_Ass a_Sea_0 a_Sea_1 a_Sea_2 v_Sea) rfl rfl ⟨rfl, rfl⟩
abbrev X_CS_core (p : Program) (s : State) (m : MethodId) (args : Array Value) (c : Code) (D : va_G) (cI cL cZ : ClassId) (A : Nat → Prop) : Prop := aj_C p s m args c D clss (ty3 cI cL cZ) A b_CS_core 2 R_CS TB
abbrev J_CS_core (p : Program) (l : Launch) (e : Env) (s : State) (m : MethodId) (args : Array Value) (below : List Frame) (meth : Method) (c : Code) (D : va_G) (cI cL cZ : ClassId) (A : Nat → Prop) (O : Int32 → va_W → Prop) (mc ms : Nat) (ws : va_W) (kc ks pc : Nat) (lv : List (Nat × Value)) (st : List Value) : Prop := aj p l e { frames := 1, cells := mc, slots := ms, locals := 21 } s m args below meth c (MQ below (qI D clss (ty3 cI cL cZ) O A) args s mc ms A) D clss A 2 ws kc ks pc lv st
def O_CS_core (cI cL cZ : ClassId) (o_CS o_Sto o_Pla o_Ass o_Tra o_Sea o_Tal a_Sea_0 a_Sea_1 a_Sea_2 : Nat) (v_CS : T_CS) (v_Sea : T_Sea) (out : Int32) : Int32 → va_W → Prop := fun r w1 => out = r ∧ w1 = w_CS cI cL cZ o_CS o_Sto o_Pla o_Ass o_Tra o_Sea v_CS ++ w_Sea cI cL cZ o_Sea o_Sto o_Tra o_Tal o_Ass a_Sea_0 a_Sea_1 a_Sea_2 v_Sea
def m_CS_core (v_CS : T_CS) (v_Sea : T_Sea) (x1 : Int32) : Option (Int32) := (if v_CS.2.2 = (2 : Int32) then ((m_Sea_coreLiteral v_Sea x1).bind fun r3 => (some r3)) else (some (-1 : Int32)))
set_option maxRecDepth 100000 in
set_option maxHeartbeats 4000000 in
theorem c_CS_core {l : Launch} {D : va_G} {cI cL cZ : ClassId} (o_CS o_Sto o_Pla o_Ass o_Tra o_Sea o_Tal a_Sea_0 a_Sea_1 a_Sea_2 : Nat) (v_CS : T_CS) (v_Sea : T_Sea) (x1 : Int32) (out : Int32) (hm : m_CS_core v_CS v_Sea x1 = some out) : ct l y_CS_core (Cond.code y_CS_core b_CS_core 2 (some .int) :: TB) 1 21 D clss (ty3 cI cL cZ) NM0 NF0 [.ref o_CS, .int x1] (w_CS cI cL cZ o_CS o_Sto o_Pla o_Ass o_Tra o_Sea v_CS ++ w_Sea cI cL cZ o_Sea o_Sto o_Tra o_Tal o_Ass a_Sea_0 a_Sea_1 a_Sea_2 v_Sea) (qI D clss (ty3 cI cL cZ) (O_CS_core cI cL cZ o_CS o_Sto o_Pla o_Ass o_Tra o_Sea o_Tal a_Sea_0 a_Sea_1 a_Sea_2 v_CS v_Sea out)) 0 0 := by
  refine ct_of (plainFor_of_name (by decide)) (Nat.le_of_ble_eq_true rfl) (fun p e s m args below meth c A X N hr hlk hnm => ?_)
  refine aj_lv (lv' := [(0, .ref o_CS), (1, .int x1)]) [0, 1] rfl ?_
  unfold m_CS_core at hm
  refine aj_aload_n X d_CS_core_0 0 rfl ?_
  refine aj_get X d_CS_core_1 in_CS 0 rfl rfl 7 (by decide) lf_CS_71 rfl ?_
  refine aj_iconst (v := (2 : Int32)) X d_CS_core_4 (by decide) ?_
  refine aj_icmp_ne X 19 d_CS_core_5 (by decide) (fun h => ?_) (fun h => ?_)
  · have hm := ite_f hm h
    refine aj_iconst (v := (-1 : Int32)) X d_CS_core_19 (by decide) ?_
    have ho := Option.some.inj hm
    subst ho
    exact aj_iret X d_CS_core_20 hr hlk [0, 1, 2, 3, 4] (w_CS cI cL cZ o_CS o_Sto o_Pla o_Ass o_Tra o_Sea v_CS ++ w_Sea cI cL cZ o_Sea o_Sto o_Tra o_Tal o_Ass a_Sea_0 a_Sea_1 a_Sea_2 v_Sea) rfl rfl ⟨rfl, rfl⟩
  · have hm := ite_t hm h
    refine aj_aload_n X d_CS_core_8 0 rfl ?_
    refine aj_get X d_CS_core_9 in_CS 0 rfl rfl 5 (by decide) lf_CS_64 rfl ?_
    refine aj_iload_n X d_CS_core_12 1 rfl ?_
    obtain ⟨r3, h4, hm⟩ := bnd_of hm
    refine aj_callI (wr := [(o_CS, .inr (6, [.int v_CS.1, .ref o_Sto, .ref o_Pla, .ref o_Ass, .ref o_Tra, .ref o_Sea, .int v_CS.2.1, .int v_CS.2.2]))]) X (aj_rV (As := [.int x1]) (rest := []) X N gTB (c_Sea_coreLiteral (D := D) (cI := cI) (cL := cL) (cZ := cZ) o_Sea o_Sto o_Tra o_Tal o_Ass a_Sea_0 a_Sea_1 a_Sea_2 v_Sea x1 r3 h4) d_CS_core_13 lk_Sea_coreLiteral lw_CS_145 lh_Sea_coreLiteral ⟨(Nat.le_of_ble_eq_true rfl), (Nat.le_of_ble_eq_true rfl)⟩ [1, 2, 3, 4] rfl rfl 0 rfl rfl rfl rfl (Nat.le_of_ble_eq_true rfl) ⟨Nat.le_refl _, Nat.le_refl _⟩) [1, 2, 3, 4] [0] rfl rfl rfl (by decide) (fun rr w1 hO => ?_)
    obtain ⟨rfl, rfl⟩ := hO
    refine aj_perm (ws' := w_CS cI cL cZ o_CS o_Sto o_Pla o_Ass o_Tra o_Sea v_CS ++ w_Sea cI cL cZ o_Sea o_Sto o_Tra o_Tal o_Ass a_Sea_0 a_Sea_1 a_Sea_2 v_Sea) [0, 1, 2, 3, 4] rfl rfl ?_
    refine aj_goto X 20 d_CS_core_16 (by decide) ?_
    have ho := Option.some.inj hm
    subst ho
    exact aj_iret X d_CS_core_20 hr hlk [0, 1, 2, 3, 4] (w_CS cI cL cZ o_CS o_Sto o_Pla o_Ass o_Tra o_Sea v_CS ++ w_Sea cI cL cZ o_Sea o_Sto o_Tra o_Tal o_Ass a_Sea_0 a_Sea_1 a_Sea_2 v_Sea) rfl rfl ⟨rfl, rfl⟩
abbrev X_CS_rows (p : Program) (s : State) (m : MethodId) (args : Array Value) (c : Code) (D : va_G) (cI cL cZ : ClassId) (A : Nat → Prop) : Prop := aj_C p s m args c D clss (ty3 cI cL cZ) A b_CS_rows 1 R_CS TB
abbrev J_CS_rows (p : Program) (l : Launch) (e : Env) (s : State) (m : MethodId) (args : Array Value) (below : List Frame) (meth : Method) (c : Code) (D : va_G) (cI cL cZ : ClassId) (A : Nat → Prop) (O : Int32 → va_W → Prop) (mc ms : Nat) (ws : va_W) (kc ks pc : Nat) (lv : List (Nat × Value)) (st : List Value) : Prop := aj p l e { frames := 0, cells := mc, slots := ms, locals := 0 } s m args below meth c (MQ below (qI D clss (ty3 cI cL cZ) O A) args s mc ms A) D clss A 1 ws kc ks pc lv st
def O_CS_rows (cI cL cZ : ClassId) (o_CS o_Sto o_Pla o_Ass o_Tra o_Sea o_Tal a_Sea_0 a_Sea_1 a_Sea_2 : Nat) (v_CS : T_CS) (v_Sea : T_Sea) (out : Int32) : Int32 → va_W → Prop := fun r w1 => out = r ∧ w1 = w_CS cI cL cZ o_CS o_Sto o_Pla o_Ass o_Tra o_Sea v_CS ++ w_Sea cI cL cZ o_Sea o_Sto o_Tra o_Tal o_Ass a_Sea_0 a_Sea_1 a_Sea_2 v_Sea
def m_CS_rows (v_CS : T_CS) (v_Sea : T_Sea) : Option (Int32) := (some v_Sea.1)
set_option maxRecDepth 100000 in
set_option maxHeartbeats 4000000 in
theorem c_CS_rows {l : Launch} {D : va_G} {cI cL cZ : ClassId} (o_CS o_Sto o_Pla o_Ass o_Tra o_Sea o_Tal a_Sea_0 a_Sea_1 a_Sea_2 : Nat) (v_CS : T_CS) (v_Sea : T_Sea) (out : Int32) (hm : m_CS_rows v_CS v_Sea = some out) : ct l y_CS_rows (Cond.code y_CS_rows b_CS_rows 1 (some .int) :: TB) 0 0 D clss (ty3 cI cL cZ) NM0 NF0 [.ref o_CS] (w_CS cI cL cZ o_CS o_Sto o_Pla o_Ass o_Tra o_Sea v_CS ++ w_Sea cI cL cZ o_Sea o_Sto o_Tra o_Tal o_Ass a_Sea_0 a_Sea_1 a_Sea_2 v_Sea) (qI D clss (ty3 cI cL cZ) (O_CS_rows cI cL cZ o_CS o_Sto o_Pla o_Ass o_Tra o_Sea o_Tal a_Sea_0 a_Sea_1 a_Sea_2 v_CS v_Sea out)) 0 0 := by
  refine ct_of (plainFor_of_name (by decide)) (Nat.le_of_ble_eq_true rfl) (fun p e s m args below meth c A X N hr hlk hnm => ?_)
  refine aj_lv (lv' := [(0, .ref o_CS)]) [0] rfl ?_
  unfold m_CS_rows at hm
  refine aj_aload_n X d_CS_rows_0 0 rfl ?_
  refine aj_get X d_CS_rows_1 in_CS 0 rfl rfl 5 (by decide) lf_CS_64 rfl ?_
  refine aj_get X d_CS_rows_4 in_Sea 1 rfl rfl 0 (by decide) lf_CS_148 rfl ?_
  have ho := Option.some.inj hm
  subst ho
  exact aj_iret X d_CS_rows_7 hr hlk [0, 1, 2, 3, 4] (w_CS cI cL cZ o_CS o_Sto o_Pla o_Ass o_Tra o_Sea v_CS ++ w_Sea cI cL cZ o_Sea o_Sto o_Tra o_Tal o_Ass a_Sea_0 a_Sea_1 a_Sea_2 v_Sea) rfl rfl ⟨rfl, rfl⟩
