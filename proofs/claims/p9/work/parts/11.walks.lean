abbrev X_Sto_startOf (p : Program) (s : State) (m : MethodId) (args : Array Value) (c : Code) (D : va_G) (cI cL cZ : ClassId) (A : Nat → Prop) : Prop := aj_C p s m args c D clss (ty3 cI cL cZ) A b_Sto_startOf 2 R_Sto TB
abbrev J_Sto_startOf (p : Program) (l : Launch) (e : Env) (s : State) (m : MethodId) (args : Array Value) (below : List Frame) (meth : Method) (c : Code) (D : va_G) (cI cL cZ : ClassId) (A : Nat → Prop) (O : Int32 → va_W → Prop) (mc ms : Nat) (ws : va_W) (kc ks pc : Nat) (lv : List (Nat × Value)) (st : List Value) : Prop := aj p l e { frames := 0, cells := mc, slots := ms, locals := 0 } s m args below meth c (MQ below (qI D clss (ty3 cI cL cZ) O A) args s mc ms A) D clss A 2 ws kc ks pc lv st
def O_Sto_startOf (cI cL cZ : ClassId) (o_Sto a_Sto_0 a_Sto_1 a_Sto_2 a_Sto_3 a_Sto_4 : Nat) (v_Sto : T_Sto) (out : Int32) : Int32 → va_W → Prop := fun r w1 => out = r ∧ w1 = w_Sto cI cL cZ o_Sto a_Sto_0 a_Sto_1 a_Sto_2 a_Sto_3 a_Sto_4 v_Sto
def m_Sto_startOf (v_Sto : T_Sto) (x1 : Int32) : Option (Int32) := (if x1 < 0 then (some v_Sto.2.1) else (if v_Sto.1 ≤ x1 then (some v_Sto.2.1) else (if ¬ (x1 < 0 ∨ v_Sto.2.2.2.2.2.2.1 ≤ (x1).toNatClampNeg) then (some (v_Sto.2.2.2.2.2.2.2 (x1).toNatClampNeg)) else none)))
set_option maxRecDepth 100000 in
set_option maxHeartbeats 4000000 in
theorem c_Sto_startOf {l : Launch} {D : va_G} {cI cL cZ : ClassId} (o_Sto a_Sto_0 a_Sto_1 a_Sto_2 a_Sto_3 a_Sto_4 : Nat) (v_Sto : T_Sto) (x1 : Int32) (out : Int32) (hm : m_Sto_startOf v_Sto x1 = some out) : ct l y_Sto_startOf (Cond.code y_Sto_startOf b_Sto_startOf 2 (some .int) :: TB) 0 0 D clss (ty3 cI cL cZ) NM0 NF0 [.ref o_Sto, .int x1] (w_Sto cI cL cZ o_Sto a_Sto_0 a_Sto_1 a_Sto_2 a_Sto_3 a_Sto_4 v_Sto) (qI D clss (ty3 cI cL cZ) (O_Sto_startOf cI cL cZ o_Sto a_Sto_0 a_Sto_1 a_Sto_2 a_Sto_3 a_Sto_4 v_Sto out)) 0 0 := by
  refine ct_of (plainFor_of_name (by decide)) (Nat.le_of_ble_eq_true rfl) (fun p e s m args below meth c A X N hr hlk hnm => ?_)
  refine aj_lv (lv' := [(0, .ref o_Sto), (1, .int x1)]) [0, 1] rfl ?_
  unfold m_Sto_startOf at hm
  refine aj_iload_n X d_Sto_startOf_0 1 rfl ?_
  refine aj_if_lt X 21 d_Sto_startOf_1 (by decide) (fun h => ?_) (fun h => ?_)
  · have hm := ite_t hm h
    refine aj_aload_n X d_Sto_startOf_21 0 rfl ?_
    refine aj_get X d_Sto_startOf_22 in_Sto 0 rfl rfl 1 (by decide) lf_Sto_15 rfl ?_
    have ho := Option.some.inj hm
    subst ho
    exact aj_iret X d_Sto_startOf_25 hr hlk [0, 1, 2, 3, 4, 5] (w_Sto cI cL cZ o_Sto a_Sto_0 a_Sto_1 a_Sto_2 a_Sto_3 a_Sto_4 v_Sto) rfl rfl ⟨rfl, rfl⟩
  · have hm := ite_f hm h
    refine aj_iload_n X d_Sto_startOf_4 1 rfl ?_
    refine aj_aload_n X d_Sto_startOf_5 0 rfl ?_
    refine aj_get X d_Sto_startOf_6 in_Sto 0 rfl rfl 0 (by decide) lf_Sto_9 rfl ?_
    refine aj_icmp_ge X 21 d_Sto_startOf_9 (by decide) (fun h => ?_) (fun h => ?_)
    · have hm := ite_t hm h
      refine aj_aload_n X d_Sto_startOf_21 0 rfl ?_
      refine aj_get X d_Sto_startOf_22 in_Sto 0 rfl rfl 1 (by decide) lf_Sto_15 rfl ?_
      have ho := Option.some.inj hm
      subst ho
      exact aj_iret X d_Sto_startOf_25 hr hlk [0, 1, 2, 3, 4, 5] (w_Sto cI cL cZ o_Sto a_Sto_0 a_Sto_1 a_Sto_2 a_Sto_3 a_Sto_4 v_Sto) rfl rfl ⟨rfl, rfl⟩
    · have hm := ite_f hm h
      refine aj_aload_n X d_Sto_startOf_12 0 rfl ?_
      refine aj_get X d_Sto_startOf_13 in_Sto 0 rfl rfl 6 (by decide) lf_Sto_37 rfl ?_
      refine aj_iload_n X d_Sto_startOf_16 1 rfl ?_
      obtain ⟨b1, hm⟩ := chk_of hm
      refine aj_iald X d_Sto_startOf_17 5 0 rfl rfl b1 ?_
      refine aj_goto X 25 d_Sto_startOf_18 (by decide) ?_
      have ho := Option.some.inj hm
      subst ho
      exact aj_iret X d_Sto_startOf_25 hr hlk [0, 1, 2, 3, 4, 5] (w_Sto cI cL cZ o_Sto a_Sto_0 a_Sto_1 a_Sto_2 a_Sto_3 a_Sto_4 v_Sto) rfl rfl ⟨rfl, rfl⟩
abbrev X_Sto_sizeOf (p : Program) (s : State) (m : MethodId) (args : Array Value) (c : Code) (D : va_G) (cI cL cZ : ClassId) (A : Nat → Prop) : Prop := aj_C p s m args c D clss (ty3 cI cL cZ) A b_Sto_sizeOf 2 R_Sto TB
abbrev J_Sto_sizeOf (p : Program) (l : Launch) (e : Env) (s : State) (m : MethodId) (args : Array Value) (below : List Frame) (meth : Method) (c : Code) (D : va_G) (cI cL cZ : ClassId) (A : Nat → Prop) (O : Int32 → va_W → Prop) (mc ms : Nat) (ws : va_W) (kc ks pc : Nat) (lv : List (Nat × Value)) (st : List Value) : Prop := aj p l e { frames := 1, cells := mc, slots := ms, locals := 21 } s m args below meth c (MQ below (qI D clss (ty3 cI cL cZ) O A) args s mc ms A) D clss A 2 ws kc ks pc lv st
def O_Sto_sizeOf (cI cL cZ : ClassId) (o_Sto a_Sto_0 a_Sto_1 a_Sto_2 a_Sto_3 a_Sto_4 : Nat) (v_Sto : T_Sto) (out : Int32) : Int32 → va_W → Prop := fun r w1 => out = r ∧ w1 = w_Sto cI cL cZ o_Sto a_Sto_0 a_Sto_1 a_Sto_2 a_Sto_3 a_Sto_4 v_Sto
def m_Sto_sizeOf (v_Sto : T_Sto) (x1 : Int32) : Option (Int32) := ((m_Sto_endOf v_Sto x1).bind fun r5 => ((m_Sto_startOf v_Sto x1).bind fun r7 => (some (r5 - r7))))
set_option maxRecDepth 100000 in
set_option maxHeartbeats 4000000 in
theorem c_Sto_sizeOf {l : Launch} {D : va_G} {cI cL cZ : ClassId} (o_Sto a_Sto_0 a_Sto_1 a_Sto_2 a_Sto_3 a_Sto_4 : Nat) (v_Sto : T_Sto) (x1 : Int32) (out : Int32) (hm : m_Sto_sizeOf v_Sto x1 = some out) : ct l y_Sto_sizeOf (Cond.code y_Sto_sizeOf b_Sto_sizeOf 2 (some .int) :: TB) 1 21 D clss (ty3 cI cL cZ) NM0 NF0 [.ref o_Sto, .int x1] (w_Sto cI cL cZ o_Sto a_Sto_0 a_Sto_1 a_Sto_2 a_Sto_3 a_Sto_4 v_Sto) (qI D clss (ty3 cI cL cZ) (O_Sto_sizeOf cI cL cZ o_Sto a_Sto_0 a_Sto_1 a_Sto_2 a_Sto_3 a_Sto_4 v_Sto out)) 0 0 := by
  refine ct_of (plainFor_of_name (by decide)) (Nat.le_of_ble_eq_true rfl) (fun p e s m args below meth c A X N hr hlk hnm => ?_)
  refine aj_lv (lv' := [(0, .ref o_Sto), (1, .int x1)]) [0, 1] rfl ?_
  unfold m_Sto_sizeOf at hm
  refine aj_aload_n X d_Sto_sizeOf_0 0 rfl ?_
  refine aj_iload_n X d_Sto_sizeOf_1 1 rfl ?_
  obtain ⟨r5, h6, hm⟩ := bnd_of hm
  refine aj_callI (wr := []) X (aj_rV (As := [.int x1]) (rest := []) X N gTB (c_Sto_endOf (D := D) (cI := cI) (cL := cL) (cZ := cZ) o_Sto a_Sto_0 a_Sto_1 a_Sto_2 a_Sto_3 a_Sto_4 v_Sto x1 r5 h6) d_Sto_sizeOf_2 lk_Sto_endOf lw_Sto_48 lh_Sto_endOf ⟨(Nat.le_of_ble_eq_true rfl), (Nat.le_of_ble_eq_true rfl)⟩ [0, 1, 2, 3, 4, 5] rfl rfl 0 rfl rfl rfl rfl (Nat.le_of_ble_eq_true rfl) ⟨Nat.le_refl _, Nat.le_refl _⟩) [0, 1, 2, 3, 4, 5] [] rfl rfl rfl (by decide) (fun rr w1 hO => ?_)
  obtain ⟨rfl, rfl⟩ := hO
  refine aj_perm (ws' := w_Sto cI cL cZ o_Sto a_Sto_0 a_Sto_1 a_Sto_2 a_Sto_3 a_Sto_4 v_Sto) [0, 1, 2, 3, 4, 5] rfl rfl ?_
  refine aj_aload_n X d_Sto_sizeOf_5 0 rfl ?_
  refine aj_iload_n X d_Sto_sizeOf_6 1 rfl ?_
  obtain ⟨r7, h8, hm⟩ := bnd_of hm
  refine aj_callI (wr := []) X (aj_rV (As := [.int x1]) (rest := [.int r5]) X N gTB (c_Sto_startOf (D := D) (cI := cI) (cL := cL) (cZ := cZ) o_Sto a_Sto_0 a_Sto_1 a_Sto_2 a_Sto_3 a_Sto_4 v_Sto x1 r7 h8) d_Sto_sizeOf_7 lk_Sto_startOf lw_Sto_52 lh_Sto_startOf ⟨(Nat.le_of_ble_eq_true rfl), (Nat.le_of_ble_eq_true rfl)⟩ [0, 1, 2, 3, 4, 5] rfl rfl 0 rfl rfl rfl rfl (Nat.le_of_ble_eq_true rfl) ⟨Nat.le_refl _, Nat.le_refl _⟩) [0, 1, 2, 3, 4, 5] [] rfl rfl rfl (by decide) (fun rr w1 hO => ?_)
  obtain ⟨rfl, rfl⟩ := hO
  refine aj_perm (ws' := w_Sto cI cL cZ o_Sto a_Sto_0 a_Sto_1 a_Sto_2 a_Sto_3 a_Sto_4 v_Sto) [0, 1, 2, 3, 4, 5] rfl rfl ?_
  refine aj_isub X d_Sto_sizeOf_10 ?_
  have ho := Option.some.inj hm
  subst ho
  exact aj_iret X d_Sto_sizeOf_11 hr hlk [0, 1, 2, 3, 4, 5] (w_Sto cI cL cZ o_Sto a_Sto_0 a_Sto_1 a_Sto_2 a_Sto_3 a_Sto_4 v_Sto) rfl rfl ⟨rfl, rfl⟩
abbrev X_Sto_holds (p : Program) (s : State) (m : MethodId) (args : Array Value) (c : Code) (D : va_G) (cI cL cZ : ClassId) (A : Nat → Prop) : Prop := aj_C p s m args c D clss (ty3 cI cL cZ) A b_Sto_holds 5 R_Sto TB
abbrev J_Sto_holds (p : Program) (l : Launch) (e : Env) (s : State) (m : MethodId) (args : Array Value) (below : List Frame) (meth : Method) (c : Code) (D : va_G) (cI cL cZ : ClassId) (A : Nat → Prop) (O : Int32 → va_W → Prop) (mc ms : Nat) (ws : va_W) (kc ks pc : Nat) (lv : List (Nat × Value)) (st : List Value) : Prop := aj p l e { frames := 1, cells := mc, slots := ms, locals := 21 } s m args below meth c (MQ below (qI D clss (ty3 cI cL cZ) O A) args s mc ms A) D clss A 5 ws kc ks pc lv st
def O_Sto_holds (cI cL cZ : ClassId) (o_Sto a_Sto_0 a_Sto_1 a_Sto_2 a_Sto_3 a_Sto_4 : Nat) (v_Sto : T_Sto) (out : Int32) : Int32 → va_W → Prop := fun r w1 => out = r ∧ w1 = w_Sto cI cL cZ o_Sto a_Sto_0 a_Sto_1 a_Sto_2 a_Sto_3 a_Sto_4 v_Sto
def m_Sto_holds_L13 (v_Sto : T_Sto) : Nat → Int32 → Int32 → Int32 → Option (Int32)
  | 0, _, _, _ => none
  | f + 1, x2, x3, x4 => (if x3 ≤ x4 then (some (0 : Int32)) else (if ¬ (x4 < 0 ∨ v_Sto.2.2.1.1 ≤ (x4).toNatClampNeg) then (if (v_Sto.2.2.1.2 (x4).toNatClampNeg) = x2 then (some (1 : Int32)) else ((m_Sto_holds_L13 v_Sto f) x2 x3 (x4 + 1))) else none))
set_option maxRecDepth 100000 in
set_option maxHeartbeats 4000000 in
theorem c_Sto_holds_L13 {l : Launch} {D : va_G} {cI cL cZ : ClassId} {p : Program} {e : Env} {s : State} {m : MethodId} {args : Array Value} {below : List Frame} {meth : Method} {c : Code} {A : Nat → Prop} (o_Sto a_Sto_0 a_Sto_1 a_Sto_2 a_Sto_3 a_Sto_4 : Nat) (v_Sto : T_Sto) (out : Int32) (X : X_Sto_holds p s m args c D cI cL cZ A) (N : nk NM0 NF0 s) (hr : meth.sig.returnType = some .boolean) (hlk : meth.locks = false) : ∀ (nn : Nat), ∀ (x2 : Int32) (x3 : Int32) (x4 : Int32), m_Sto_holds_L13 v_Sto nn x2 x3 x4 = some out → J_Sto_holds p l e s m args below meth c D cI cL cZ A (O_Sto_holds cI cL cZ o_Sto a_Sto_0 a_Sto_1 a_Sto_2 a_Sto_3 a_Sto_4 v_Sto out) 0 0 (w_Sto cI cL cZ o_Sto a_Sto_0 a_Sto_1 a_Sto_2 a_Sto_3 a_Sto_4 v_Sto) 0 0 13 [(0, .ref o_Sto), (2, .int x2), (3, .int x3), (4, .int x4)] [] := by
  intro nn
  induction nn with
  | zero => intro x2 x3 x4 hm; exact absurd hm (by simp [m_Sto_holds_L13])
  | succ nn ih13 =>
    intro x2 x3 x4 hm
    unfold m_Sto_holds_L13 at hm
    refine aj_iload X d_Sto_holds_13 3 rfl ?_
    refine aj_iload_n X d_Sto_holds_15 2 rfl ?_
    refine aj_icmp_ge X 38 d_Sto_holds_16 (by decide) (fun h => ?_) (fun h => ?_)
    · have hm := ite_t hm h
      refine aj_iconst (v := (0 : Int32)) X d_Sto_holds_38 (by decide) ?_
      have ho := Option.some.inj hm
      subst ho
      exact aj_zret X d_Sto_holds_39 hr hlk (by decide) [0, 1, 2, 3, 4, 5] (w_Sto cI cL cZ o_Sto a_Sto_0 a_Sto_1 a_Sto_2 a_Sto_3 a_Sto_4 v_Sto) rfl rfl ⟨rfl, rfl⟩
    · have hm := ite_f hm h
      refine aj_aload_n X d_Sto_holds_19 0 rfl ?_
      refine aj_get X d_Sto_holds_20 in_Sto 0 rfl rfl 2 (by decide) lf_Sto_18 rfl ?_
      refine aj_iload X d_Sto_holds_23 3 rfl ?_
      obtain ⟨b5, hm⟩ := chk_of hm
      refine aj_iald X d_Sto_holds_25 1 0 rfl rfl b5 ?_
      refine aj_iload_n X d_Sto_holds_26 1 rfl ?_
      refine aj_icmp_ne X 32 d_Sto_holds_27 (by decide) (fun h => ?_) (fun h => ?_)
      · have hm := ite_f hm h
        refine aj_iinc (v := (x4 + 1)) (lv' := [(4, .int (x4 + 1)), (0, .ref o_Sto), (2, .int x2), (3, .int x3)]) X d_Sto_holds_32 3 rfl rfl (by decide) rfl ?_
        refine aj_goto X 13 d_Sto_holds_35 (by decide) ?_
        refine aj_lv (lv' := [(0, .ref o_Sto), (2, .int x2), (3, .int x3), (4, .int (x4 + 1))]) [1, 2, 3, 0] rfl ?_
        exact ih13 x2 x3 (x4 + 1) hm
      · have hm := ite_t hm h
        refine aj_iconst (v := (1 : Int32)) X d_Sto_holds_30 (by decide) ?_
        have ho := Option.some.inj hm
        subst ho
        exact aj_zret X d_Sto_holds_31 hr hlk (by decide) [0, 1, 2, 3, 4, 5] (w_Sto cI cL cZ o_Sto a_Sto_0 a_Sto_1 a_Sto_2 a_Sto_3 a_Sto_4 v_Sto) rfl rfl ⟨rfl, rfl⟩
def m_Sto_holds (v_Sto : T_Sto) (x1 : Int32) (x2 : Int32) : Option (Int32) := ((m_Sto_endOf v_Sto x1).bind fun r6 => ((m_Sto_startOf v_Sto x1).bind fun r8 => (m_Sto_holds_L13 v_Sto fu x2 r6 r8)))
set_option maxRecDepth 100000 in
set_option maxHeartbeats 4000000 in
theorem c_Sto_holds {l : Launch} {D : va_G} {cI cL cZ : ClassId} (o_Sto a_Sto_0 a_Sto_1 a_Sto_2 a_Sto_3 a_Sto_4 : Nat) (v_Sto : T_Sto) (x1 : Int32) (x2 : Int32) (out : Int32) (hm : m_Sto_holds v_Sto x1 x2 = some out) : ct l y_Sto_holds (Cond.code y_Sto_holds b_Sto_holds 5 (some .boolean) :: TB) 1 21 D clss (ty3 cI cL cZ) NM0 NF0 [.ref o_Sto, .int x1, .int x2] (w_Sto cI cL cZ o_Sto a_Sto_0 a_Sto_1 a_Sto_2 a_Sto_3 a_Sto_4 v_Sto) (qI D clss (ty3 cI cL cZ) (O_Sto_holds cI cL cZ o_Sto a_Sto_0 a_Sto_1 a_Sto_2 a_Sto_3 a_Sto_4 v_Sto out)) 0 0 := by
  refine ct_of (plainFor_of_name (by decide)) (Nat.le_of_ble_eq_true rfl) (fun p e s m args below meth c A X N hr hlk hnm => ?_)
  refine aj_lv (lv' := [(0, .ref o_Sto), (1, .int x1), (2, .int x2)]) [0, 1, 2] rfl ?_
  unfold m_Sto_holds at hm
  refine aj_aload_n X d_Sto_holds_0 0 rfl ?_
  refine aj_iload_n X d_Sto_holds_1 1 rfl ?_
  obtain ⟨r6, h7, hm⟩ := bnd_of hm
  refine aj_callI (wr := []) X (aj_rV (As := [.int x1]) (rest := []) X N gTB (c_Sto_endOf (D := D) (cI := cI) (cL := cL) (cZ := cZ) o_Sto a_Sto_0 a_Sto_1 a_Sto_2 a_Sto_3 a_Sto_4 v_Sto x1 r6 h7) d_Sto_holds_2 lk_Sto_endOf lw_Sto_48 lh_Sto_endOf ⟨(Nat.le_of_ble_eq_true rfl), (Nat.le_of_ble_eq_true rfl)⟩ [0, 1, 2, 3, 4, 5] rfl rfl 0 rfl rfl rfl rfl (Nat.le_of_ble_eq_true rfl) ⟨Nat.le_refl _, Nat.le_refl _⟩) [0, 1, 2, 3, 4, 5] [] rfl rfl rfl (by decide) (fun rr w1 hO => ?_)
  obtain ⟨rfl, rfl⟩ := hO
  refine aj_perm (ws' := w_Sto cI cL cZ o_Sto a_Sto_0 a_Sto_1 a_Sto_2 a_Sto_3 a_Sto_4 v_Sto) [0, 1, 2, 3, 4, 5] rfl rfl ?_
  refine aj_istore_n (lv' := [(3, .int r6), (0, .ref o_Sto), (1, .int x1), (2, .int x2)]) X d_Sto_holds_5 rfl (by decide) rfl ?_
  refine aj_aload_n X d_Sto_holds_6 1 rfl ?_
  refine aj_iload_n X d_Sto_holds_7 2 rfl ?_
  obtain ⟨r8, h9, hm⟩ := bnd_of hm
  refine aj_callI (wr := []) X (aj_rV (As := [.int x1]) (rest := []) X N gTB (c_Sto_startOf (D := D) (cI := cI) (cL := cL) (cZ := cZ) o_Sto a_Sto_0 a_Sto_1 a_Sto_2 a_Sto_3 a_Sto_4 v_Sto x1 r8 h9) d_Sto_holds_8 lk_Sto_startOf lw_Sto_52 lh_Sto_startOf ⟨(Nat.le_of_ble_eq_true rfl), (Nat.le_of_ble_eq_true rfl)⟩ [0, 1, 2, 3, 4, 5] rfl rfl 0 rfl rfl rfl rfl (Nat.le_of_ble_eq_true rfl) ⟨Nat.le_refl _, Nat.le_refl _⟩) [0, 1, 2, 3, 4, 5] [] rfl rfl rfl (by decide) (fun rr w1 hO => ?_)
  obtain ⟨rfl, rfl⟩ := hO
  refine aj_perm (ws' := w_Sto cI cL cZ o_Sto a_Sto_0 a_Sto_1 a_Sto_2 a_Sto_3 a_Sto_4 v_Sto) [0, 1, 2, 3, 4, 5] rfl rfl ?_
  refine aj_istore (lv' := [(4, .int r8), (3, .int r6), (0, .ref o_Sto), (1, .int x1), (2, .int x2)]) X d_Sto_holds_11 (by decide) rfl ?_
  refine aj_lv (lv' := [(0, .ref o_Sto), (2, .int x2), (3, .int r6), (4, .int r8)]) [2, 4, 1, 0] rfl ?_
  exact c_Sto_holds_L13 o_Sto a_Sto_0 a_Sto_1 a_Sto_2 a_Sto_3 a_Sto_4 v_Sto out X N hr hlk fu x2 r6 r8 hm
abbrev X_Sto_append (p : Program) (s : State) (m : MethodId) (args : Array Value) (c : Code) (D : va_G) (cI cL cZ : ClassId) (A : Nat → Prop) : Prop := aj_C p s m args c D clss (ty3 cI cL cZ) A b_Sto_append 2 R_Sto TB
abbrev J_Sto_append (p : Program) (l : Launch) (e : Env) (s : State) (m : MethodId) (args : Array Value) (below : List Frame) (meth : Method) (c : Code) (D : va_G) (cI cL cZ : ClassId) (A : Nat → Prop) (O : va_W → Prop) (mc ms : Nat) (ws : va_W) (kc ks pc : Nat) (lv : List (Nat × Value)) (st : List Value) : Prop := aj p l e { frames := 3, cells := mc, slots := ms, locals := 84 } s m args below meth c (MQ below (qV D clss (ty3 cI cL cZ) O A) args s mc ms A) D clss A 2 ws kc ks pc lv st
def O_Sto_append (cI cL cZ : ClassId) (o_Sto a_Sto_3 a_Sto_4 : Nat) (out : T_Sto) : va_W → Prop := fun w1 => ∃ (a_Sto_0 a_Sto_1 a_Sto_2 : Nat), w1 = w_Sto cI cL cZ o_Sto a_Sto_0 a_Sto_1 a_Sto_2 a_Sto_3 a_Sto_4 out
def m_Sto_append (v_Sto : T_Sto) (x1 : Int32) : Option ((T_Sto) × Nat × Nat) := (if v_Sto.1 = 0 then (some (v_Sto, 0, 0)) else ((m_Sto_hasRoom v_Sto (0 : Int32) (1 : Int32)).bind fun r12 => (if r12 = 0 then (some (v_Sto, 0, 0)) else (if x1 < 0 then (some (v_Sto, 0, 0)) else (if x1 < (Int32.ofNat v_Sto.2.2.2.2.2.1.1) then ((m_CS_withRoomFor v_Sto.2.2.1 (v_Sto.2.1 + (1 : Int32)) (20000 : Int32)).bind fun r14 => addc r14.2.1 r14.2.2 ((m_CS_withRoomFor v_Sto.2.2.2.1 (v_Sto.2.1 + (1 : Int32)) (20000 : Int32)).bind fun r17 => addc r17.2.1 r17.2.2 ((m_CS_withRoomFor v_Sto.2.2.2.2.1 (v_Sto.2.1 + (1 : Int32)) (20000 : Int32)).bind fun r20 => addc r20.2.1 r20.2.2 (if ¬ (v_Sto.2.1 < 0 ∨ r14.1.1 ≤ (v_Sto.2.1).toNatClampNeg) then (if ¬ (v_Sto.2.1 < 0 ∨ r17.1.1 ≤ (v_Sto.2.1).toNatClampNeg) then (if ¬ (x1 < 0 ∨ v_Sto.2.2.2.2.2.1.1 ≤ (x1).toNatClampNeg) then (if ¬ (v_Sto.2.1 < 0 ∨ r20.1.1 ≤ (v_Sto.2.1).toNatClampNeg) then (if ¬ (x1 < 0 ∨ v_Sto.2.2.2.2.2.1.1 ≤ (x1).toNatClampNeg) then (some ((v_Sto.1, (v_Sto.2.1 + (1 : Int32)), (r14.1.1, (upd r14.1.2 (v_Sto.2.1).toNatClampNeg x1)), (r17.1.1, (upd r17.1.2 (v_Sto.2.1).toNatClampNeg (v_Sto.1 - (1 : Int32)))), (r20.1.1, (upd r20.1.2 (v_Sto.2.1).toNatClampNeg (v_Sto.2.2.2.2.2.1.2 (x1).toNatClampNeg))), (v_Sto.2.2.2.2.2.1.1, (upd v_Sto.2.2.2.2.2.1.2 (x1).toNatClampNeg v_Sto.2.1)), v_Sto.2.2.2.2.2.2), 0, 0)) else none) else none) else none) else none) else none)))) else (some (v_Sto, 0, 0)))))))
set_option maxRecDepth 100000 in
set_option maxHeartbeats 4000000 in
theorem c_Sto_append {l : Launch} {D : va_G} {cI cL cZ : ClassId} (o_Sto a_Sto_3 a_Sto_4 : Nat) (a_Sto_0 a_Sto_1 a_Sto_2 : Nat) (v_Sto : T_Sto) (x1 : Int32) (out : T_Sto) (mc ms : Nat) (hm : m_Sto_append v_Sto x1 = some (out, mc, ms)) : ct l y_Sto_append (Cond.code y_Sto_append b_Sto_append 2 none :: TB) 3 84 D clss (ty3 cI cL cZ) NM0 NF0 [.ref o_Sto, .int x1] (w_Sto cI cL cZ o_Sto a_Sto_0 a_Sto_1 a_Sto_2 a_Sto_3 a_Sto_4 v_Sto) (qV D clss (ty3 cI cL cZ) (O_Sto_append cI cL cZ o_Sto a_Sto_3 a_Sto_4 out)) mc ms := by
  refine ct_of (plainFor_of_name (by decide)) (Nat.le_of_ble_eq_true rfl) (fun p e s m args below meth c A X N hr hlk hnm => ?_)
  refine aj_lv (lv' := [(0, .ref o_Sto), (1, .int x1)]) [0, 1] rfl ?_
  unfold m_Sto_append at hm
  have hkc : 0 + mc = mc := Nat.zero_add _
  have hks : 0 + ms = ms := Nat.zero_add _
  refine aj_aload_n X d_Sto_append_0 0 rfl ?_
  refine aj_get X d_Sto_append_1 in_Sto 0 rfl rfl 0 (by decide) lf_Sto_9 rfl ?_
  refine aj_if_eq X 29 d_Sto_append_4 (by decide) (fun h => ?_) (fun h => ?_)
  · have hm := ite_t hm h
    obtain ⟨ho, e1, e2⟩ := res_of hm
    subst ho
    obtain rfl := kc_end hkc e1
    obtain rfl := kc_end hks e2
    exact aj_vret X d_Sto_append_29 hr hlk [0, 1, 2, 3, 4, 5] (w_Sto cI cL cZ o_Sto a_Sto_0 a_Sto_1 a_Sto_2 a_Sto_3 a_Sto_4 v_Sto) rfl rfl ⟨a_Sto_0, a_Sto_1, a_Sto_2, rfl⟩
  · have hm := ite_f hm h
    refine aj_aload_n X d_Sto_append_7 0 rfl ?_
    refine aj_iconst (v := (0 : Int32)) X d_Sto_append_8 (by decide) ?_
    refine aj_iconst (v := (1 : Int32)) X d_Sto_append_9 (by decide) ?_
    obtain ⟨r12, h13, hm⟩ := bnd_of hm
    refine aj_callI (wr := []) X (aj_rV (As := [.int (0 : Int32), .int (1 : Int32)]) (rest := []) X N gTB (c_Sto_hasRoom (D := D) (cI := cI) (cL := cL) (cZ := cZ) o_Sto a_Sto_0 a_Sto_1 a_Sto_2 a_Sto_3 a_Sto_4 v_Sto (0 : Int32) (1 : Int32) r12 h13) d_Sto_append_10 lk_Sto_hasRoom lw_Sto_40 lh_Sto_hasRoom ⟨(Nat.le_of_ble_eq_true rfl), (Nat.le_of_ble_eq_true rfl)⟩ [0, 1, 2, 3, 4, 5] rfl rfl 0 rfl rfl rfl rfl (Nat.le_of_ble_eq_true rfl) ⟨kc_le1 hkc, kc_le1 hks⟩) [0, 1, 2, 3, 4, 5] [] rfl rfl rfl (by decide) (fun rr w1 hO => ?_)
    have hkc := kc_zero hkc
    have hks := kc_zero hks
    obtain ⟨rfl, rfl⟩ := hO
    refine aj_perm (ws' := w_Sto cI cL cZ o_Sto a_Sto_0 a_Sto_1 a_Sto_2 a_Sto_3 a_Sto_4 v_Sto) [0, 1, 2, 3, 4, 5] rfl rfl ?_
    refine aj_if_eq X 29 d_Sto_append_13 (by decide) (fun h => ?_) (fun h => ?_)
    · have hm := ite_t hm h
      obtain ⟨ho, e1, e2⟩ := res_of hm
      subst ho
      obtain rfl := kc_end hkc e1
      obtain rfl := kc_end hks e2
      exact aj_vret X d_Sto_append_29 hr hlk [0, 1, 2, 3, 4, 5] (w_Sto cI cL cZ o_Sto a_Sto_0 a_Sto_1 a_Sto_2 a_Sto_3 a_Sto_4 v_Sto) rfl rfl ⟨a_Sto_0, a_Sto_1, a_Sto_2, rfl⟩
    · have hm := ite_f hm h
      refine aj_iload_n X d_Sto_append_16 1 rfl ?_
      refine aj_if_lt X 29 d_Sto_append_17 (by decide) (fun h => ?_) (fun h => ?_)
      · have hm := ite_t hm h
        obtain ⟨ho, e1, e2⟩ := res_of hm
        subst ho
        obtain rfl := kc_end hkc e1
        obtain rfl := kc_end hks e2
        exact aj_vret X d_Sto_append_29 hr hlk [0, 1, 2, 3, 4, 5] (w_Sto cI cL cZ o_Sto a_Sto_0 a_Sto_1 a_Sto_2 a_Sto_3 a_Sto_4 v_Sto) rfl rfl ⟨a_Sto_0, a_Sto_1, a_Sto_2, rfl⟩
      · have hm := ite_f hm h
        refine aj_iload_n X d_Sto_append_20 1 rfl ?_
        refine aj_aload_n X d_Sto_append_21 0 rfl ?_
        refine aj_get X d_Sto_append_22 in_Sto 0 rfl rfl 5 (by decide) lf_Sto_28 rfl ?_
        refine aj_alen X d_Sto_append_25 4 0 rfl rfl ?_
        refine aj_icmp_lt X 30 d_Sto_append_26 (by decide) (fun h => ?_) (fun h => ?_)
        · have hm := ite_t hm h
          refine aj_aload_n X d_Sto_append_30 0 rfl ?_
          refine aj_aload_n X d_Sto_append_31 0 rfl ?_
          refine aj_get X d_Sto_append_32 in_Sto 0 rfl rfl 2 (by decide) lf_Sto_18 rfl ?_
          refine aj_aload_n X d_Sto_append_35 0 rfl ?_
          refine aj_get X d_Sto_append_36 in_Sto 0 rfl rfl 1 (by decide) lf_Sto_15 rfl ?_
          refine aj_iconst (v := (1 : Int32)) X d_Sto_append_39 (by decide) ?_
          refine aj_iadd X d_Sto_append_40 ?_
          refine aj_sipush (v := (20000 : Int32)) X d_Sto_append_41 (by decide) ?_
          obtain ⟨r14, h15, hm⟩ := bnd_of hm
          obtain ⟨dc, ds, hm, e1, e2⟩ := addc_of hm
          have hkc := kc_step hkc e1
          have hks := kc_step hks e2
          refine aj_callR (wr := [(o_Sto, .inr (3, [.int v_Sto.1, .int v_Sto.2.1, .ref a_Sto_0, .ref a_Sto_1, .ref a_Sto_2, .ref a_Sto_3, .ref a_Sto_4])), (a_Sto_1, .inl (cI, v_Sto.2.2.2.1.1, .inl v_Sto.2.2.2.1.2)), (a_Sto_2, .inl (cI, v_Sto.2.2.2.2.1.1, .inl v_Sto.2.2.2.2.1.2)), (a_Sto_3, .inl (cI, v_Sto.2.2.2.2.2.1.1, .inl v_Sto.2.2.2.2.2.1.2)), (a_Sto_4, .inl (cI, v_Sto.2.2.2.2.2.2.1, .inl v_Sto.2.2.2.2.2.2.2))]) X (aj_rSN (As := [.ref a_Sto_0, .int (v_Sto.2.1 + (1 : Int32)), .int (20000 : Int32)]) (rest := [.ref o_Sto]) X N gTB (c_CS_withRoomFor (D := D) (cI := cI) (cL := cL) (cZ := cZ) a_Sto_0 v_Sto.2.2.1 (v_Sto.2.1 + (1 : Int32)) (20000 : Int32) r14.1 r14.2.1 r14.2.2 h15) d_Sto_append_44 lk_CS_withRoomFor ln_Sto_44 lw_Sto_44 lh_CS_withRoomFor ⟨(Nat.le_of_ble_eq_true rfl), (Nat.le_of_ble_eq_true rfl)⟩ [1] rfl rfl rfl (Nat.le_of_ble_eq_true rfl) ⟨kc_le hkc, kc_le hks⟩) [1] [0, 2, 3, 4, 5] rfl rfl rfl (by decide) (fun a16 w1 hO => ?_)
          obtain rfl := hO
          refine aj_perm (ws' := ([(o_Sto, .inr (3, [.int v_Sto.1, .int v_Sto.2.1, .ref a_Sto_0, .ref a_Sto_1, .ref a_Sto_2, .ref a_Sto_3, .ref a_Sto_4])), (a16, .inl (cI, r14.1.1, .inl r14.1.2)), (a_Sto_1, .inl (cI, v_Sto.2.2.2.1.1, .inl v_Sto.2.2.2.1.2)), (a_Sto_2, .inl (cI, v_Sto.2.2.2.2.1.1, .inl v_Sto.2.2.2.2.1.2)), (a_Sto_3, .inl (cI, v_Sto.2.2.2.2.2.1.1, .inl v_Sto.2.2.2.2.2.1.2)), (a_Sto_4, .inl (cI, v_Sto.2.2.2.2.2.2.1, .inl v_Sto.2.2.2.2.2.2.2))] : va_W)) [0, 5, 1, 2, 3, 4] rfl rfl ?_
          refine aj_put (ws' := w_Sto cI cL cZ o_Sto a16 a_Sto_1 a_Sto_2 a_Sto_3 a_Sto_4 (v_Sto.1, v_Sto.2.1, r14.1, v_Sto.2.2.2.1, v_Sto.2.2.2.2.1, v_Sto.2.2.2.2.2.1, v_Sto.2.2.2.2.2.2)) X d_Sto_append_47 in_Sto ty_Sto tyok_Sto nmx_Sto 0 rfl rfl 2 (by decide) lf_Sto_18 rfl rfl rfl (Nat.le_of_ble_eq_true rfl) rfl ?_
          refine aj_aload_n X d_Sto_append_50 0 rfl ?_
          refine aj_aload_n X d_Sto_append_51 0 rfl ?_
          refine aj_get X d_Sto_append_52 in_Sto 0 rfl rfl 3 (by decide) lf_Sto_22 rfl ?_
          refine aj_aload_n X d_Sto_append_55 0 rfl ?_
          refine aj_get X d_Sto_append_56 in_Sto 0 rfl rfl 1 (by decide) lf_Sto_15 rfl ?_
          refine aj_iconst (v := (1 : Int32)) X d_Sto_append_59 (by decide) ?_
          refine aj_iadd X d_Sto_append_60 ?_
          refine aj_sipush (v := (20000 : Int32)) X d_Sto_append_61 (by decide) ?_
          obtain ⟨r17, h18, hm⟩ := bnd_of hm
          obtain ⟨dc, ds, hm, e1, e2⟩ := addc_of hm
          have hkc := kc_step hkc e1
          have hks := kc_step hks e2
          refine aj_callR (wr := [(o_Sto, .inr (3, [.int v_Sto.1, .int v_Sto.2.1, .ref a16, .ref a_Sto_1, .ref a_Sto_2, .ref a_Sto_3, .ref a_Sto_4])), (a16, .inl (cI, r14.1.1, .inl r14.1.2)), (a_Sto_2, .inl (cI, v_Sto.2.2.2.2.1.1, .inl v_Sto.2.2.2.2.1.2)), (a_Sto_3, .inl (cI, v_Sto.2.2.2.2.2.1.1, .inl v_Sto.2.2.2.2.2.1.2)), (a_Sto_4, .inl (cI, v_Sto.2.2.2.2.2.2.1, .inl v_Sto.2.2.2.2.2.2.2))]) X (aj_rSN (As := [.ref a_Sto_1, .int (v_Sto.2.1 + (1 : Int32)), .int (20000 : Int32)]) (rest := [.ref o_Sto]) X N gTB (c_CS_withRoomFor (D := D) (cI := cI) (cL := cL) (cZ := cZ) a_Sto_1 v_Sto.2.2.2.1 (v_Sto.2.1 + (1 : Int32)) (20000 : Int32) r17.1 r17.2.1 r17.2.2 h18) d_Sto_append_64 lk_CS_withRoomFor ln_Sto_44 lw_Sto_44 lh_CS_withRoomFor ⟨(Nat.le_of_ble_eq_true rfl), (Nat.le_of_ble_eq_true rfl)⟩ [2] rfl rfl rfl (Nat.le_of_ble_eq_true rfl) ⟨kc_le hkc, kc_le hks⟩) [2] [0, 1, 3, 4, 5] rfl rfl rfl (by decide) (fun a19 w1 hO => ?_)
          obtain rfl := hO
          refine aj_perm (ws' := ([(o_Sto, .inr (3, [.int v_Sto.1, .int v_Sto.2.1, .ref a16, .ref a_Sto_1, .ref a_Sto_2, .ref a_Sto_3, .ref a_Sto_4])), (a16, .inl (cI, r14.1.1, .inl r14.1.2)), (a19, .inl (cI, r17.1.1, .inl r17.1.2)), (a_Sto_2, .inl (cI, v_Sto.2.2.2.2.1.1, .inl v_Sto.2.2.2.2.1.2)), (a_Sto_3, .inl (cI, v_Sto.2.2.2.2.2.1.1, .inl v_Sto.2.2.2.2.2.1.2)), (a_Sto_4, .inl (cI, v_Sto.2.2.2.2.2.2.1, .inl v_Sto.2.2.2.2.2.2.2))] : va_W)) [0, 1, 5, 2, 3, 4] rfl rfl ?_
          refine aj_put (ws' := w_Sto cI cL cZ o_Sto a16 a19 a_Sto_2 a_Sto_3 a_Sto_4 (v_Sto.1, v_Sto.2.1, r14.1, r17.1, v_Sto.2.2.2.2.1, v_Sto.2.2.2.2.2.1, v_Sto.2.2.2.2.2.2)) X d_Sto_append_67 in_Sto ty_Sto tyok_Sto nmx_Sto 0 rfl rfl 3 (by decide) lf_Sto_22 rfl rfl rfl (Nat.le_of_ble_eq_true rfl) rfl ?_
          refine aj_aload_n X d_Sto_append_70 0 rfl ?_
          refine aj_aload_n X d_Sto_append_71 0 rfl ?_
          refine aj_get X d_Sto_append_72 in_Sto 0 rfl rfl 4 (by decide) lf_Sto_25 rfl ?_
          refine aj_aload_n X d_Sto_append_75 0 rfl ?_
          refine aj_get X d_Sto_append_76 in_Sto 0 rfl rfl 1 (by decide) lf_Sto_15 rfl ?_
          refine aj_iconst (v := (1 : Int32)) X d_Sto_append_79 (by decide) ?_
          refine aj_iadd X d_Sto_append_80 ?_
          refine aj_sipush (v := (20000 : Int32)) X d_Sto_append_81 (by decide) ?_
          obtain ⟨r20, h21, hm⟩ := bnd_of hm
          obtain ⟨dc, ds, hm, e1, e2⟩ := addc_of hm
          have hkc := kc_step hkc e1
          have hks := kc_step hks e2
          refine aj_callR (wr := [(o_Sto, .inr (3, [.int v_Sto.1, .int v_Sto.2.1, .ref a16, .ref a19, .ref a_Sto_2, .ref a_Sto_3, .ref a_Sto_4])), (a16, .inl (cI, r14.1.1, .inl r14.1.2)), (a19, .inl (cI, r17.1.1, .inl r17.1.2)), (a_Sto_3, .inl (cI, v_Sto.2.2.2.2.2.1.1, .inl v_Sto.2.2.2.2.2.1.2)), (a_Sto_4, .inl (cI, v_Sto.2.2.2.2.2.2.1, .inl v_Sto.2.2.2.2.2.2.2))]) X (aj_rSN (As := [.ref a_Sto_2, .int (v_Sto.2.1 + (1 : Int32)), .int (20000 : Int32)]) (rest := [.ref o_Sto]) X N gTB (c_CS_withRoomFor (D := D) (cI := cI) (cL := cL) (cZ := cZ) a_Sto_2 v_Sto.2.2.2.2.1 (v_Sto.2.1 + (1 : Int32)) (20000 : Int32) r20.1 r20.2.1 r20.2.2 h21) d_Sto_append_84 lk_CS_withRoomFor ln_Sto_44 lw_Sto_44 lh_CS_withRoomFor ⟨(Nat.le_of_ble_eq_true rfl), (Nat.le_of_ble_eq_true rfl)⟩ [3] rfl rfl rfl (Nat.le_of_ble_eq_true rfl) ⟨kc_le hkc, kc_le hks⟩) [3] [0, 1, 2, 4, 5] rfl rfl rfl (by decide) (fun a22 w1 hO => ?_)
          obtain rfl := hO
          refine aj_perm (ws' := ([(o_Sto, .inr (3, [.int v_Sto.1, .int v_Sto.2.1, .ref a16, .ref a19, .ref a_Sto_2, .ref a_Sto_3, .ref a_Sto_4])), (a16, .inl (cI, r14.1.1, .inl r14.1.2)), (a19, .inl (cI, r17.1.1, .inl r17.1.2)), (a22, .inl (cI, r20.1.1, .inl r20.1.2)), (a_Sto_3, .inl (cI, v_Sto.2.2.2.2.2.1.1, .inl v_Sto.2.2.2.2.2.1.2)), (a_Sto_4, .inl (cI, v_Sto.2.2.2.2.2.2.1, .inl v_Sto.2.2.2.2.2.2.2))] : va_W)) [0, 1, 2, 5, 3, 4] rfl rfl ?_
          refine aj_put (ws' := w_Sto cI cL cZ o_Sto a16 a19 a22 a_Sto_3 a_Sto_4 (v_Sto.1, v_Sto.2.1, r14.1, r17.1, r20.1, v_Sto.2.2.2.2.2.1, v_Sto.2.2.2.2.2.2)) X d_Sto_append_87 in_Sto ty_Sto tyok_Sto nmx_Sto 0 rfl rfl 4 (by decide) lf_Sto_25 rfl rfl rfl (Nat.le_of_ble_eq_true rfl) rfl ?_
          refine aj_aload_n X d_Sto_append_90 0 rfl ?_
          refine aj_get X d_Sto_append_91 in_Sto 0 rfl rfl 2 (by decide) lf_Sto_18 rfl ?_
          refine aj_aload_n X d_Sto_append_94 0 rfl ?_
          refine aj_get X d_Sto_append_95 in_Sto 0 rfl rfl 1 (by decide) lf_Sto_15 rfl ?_
          refine aj_iload_n X d_Sto_append_98 1 rfl ?_
          obtain ⟨b23, hm⟩ := chk_of hm
          refine aj_iast (ws' := w_Sto cI cL cZ o_Sto a16 a19 a22 a_Sto_3 a_Sto_4 (v_Sto.1, v_Sto.2.1, (r14.1.1, (upd r14.1.2 (v_Sto.2.1).toNatClampNeg x1)), r17.1, r20.1, v_Sto.2.2.2.2.2.1, v_Sto.2.2.2.2.2.2)) X d_Sto_append_99 1 0 rfl rfl b23 rfl ?_
          refine aj_aload_n X d_Sto_append_100 0 rfl ?_
          refine aj_get X d_Sto_append_101 in_Sto 0 rfl rfl 3 (by decide) lf_Sto_22 rfl ?_
          refine aj_aload_n X d_Sto_append_104 0 rfl ?_
          refine aj_get X d_Sto_append_105 in_Sto 0 rfl rfl 1 (by decide) lf_Sto_15 rfl ?_
          refine aj_aload_n X d_Sto_append_108 0 rfl ?_
          refine aj_get X d_Sto_append_109 in_Sto 0 rfl rfl 0 (by decide) lf_Sto_9 rfl ?_
          refine aj_iconst (v := (1 : Int32)) X d_Sto_append_112 (by decide) ?_
          refine aj_isub X d_Sto_append_113 ?_
          obtain ⟨b24, hm⟩ := chk_of hm
          refine aj_iast (ws' := w_Sto cI cL cZ o_Sto a16 a19 a22 a_Sto_3 a_Sto_4 (v_Sto.1, v_Sto.2.1, (r14.1.1, (upd r14.1.2 (v_Sto.2.1).toNatClampNeg x1)), (r17.1.1, (upd r17.1.2 (v_Sto.2.1).toNatClampNeg (v_Sto.1 - (1 : Int32)))), r20.1, v_Sto.2.2.2.2.2.1, v_Sto.2.2.2.2.2.2)) X d_Sto_append_114 2 0 rfl rfl b24 rfl ?_
          refine aj_aload_n X d_Sto_append_115 0 rfl ?_
          refine aj_get X d_Sto_append_116 in_Sto 0 rfl rfl 4 (by decide) lf_Sto_25 rfl ?_
          refine aj_aload_n X d_Sto_append_119 0 rfl ?_
          refine aj_get X d_Sto_append_120 in_Sto 0 rfl rfl 1 (by decide) lf_Sto_15 rfl ?_
          refine aj_aload_n X d_Sto_append_123 0 rfl ?_
          refine aj_get X d_Sto_append_124 in_Sto 0 rfl rfl 5 (by decide) lf_Sto_28 rfl ?_
          refine aj_iload_n X d_Sto_append_127 1 rfl ?_
          obtain ⟨b25, hm⟩ := chk_of hm
          refine aj_iald X d_Sto_append_128 4 0 rfl rfl b25 ?_
          obtain ⟨b26, hm⟩ := chk_of hm
          refine aj_iast (ws' := w_Sto cI cL cZ o_Sto a16 a19 a22 a_Sto_3 a_Sto_4 (v_Sto.1, v_Sto.2.1, (r14.1.1, (upd r14.1.2 (v_Sto.2.1).toNatClampNeg x1)), (r17.1.1, (upd r17.1.2 (v_Sto.2.1).toNatClampNeg (v_Sto.1 - (1 : Int32)))), (r20.1.1, (upd r20.1.2 (v_Sto.2.1).toNatClampNeg (v_Sto.2.2.2.2.2.1.2 (x1).toNatClampNeg))), v_Sto.2.2.2.2.2.1, v_Sto.2.2.2.2.2.2)) X d_Sto_append_129 3 0 rfl rfl b26 rfl ?_
          refine aj_aload_n X d_Sto_append_130 0 rfl ?_
          refine aj_get X d_Sto_append_131 in_Sto 0 rfl rfl 5 (by decide) lf_Sto_28 rfl ?_
          refine aj_iload_n X d_Sto_append_134 1 rfl ?_
          refine aj_aload_n X d_Sto_append_135 0 rfl ?_
          refine aj_get X d_Sto_append_136 in_Sto 0 rfl rfl 1 (by decide) lf_Sto_15 rfl ?_
          obtain ⟨b27, hm⟩ := chk_of hm
          refine aj_iast (ws' := w_Sto cI cL cZ o_Sto a16 a19 a22 a_Sto_3 a_Sto_4 (v_Sto.1, v_Sto.2.1, (r14.1.1, (upd r14.1.2 (v_Sto.2.1).toNatClampNeg x1)), (r17.1.1, (upd r17.1.2 (v_Sto.2.1).toNatClampNeg (v_Sto.1 - (1 : Int32)))), (r20.1.1, (upd r20.1.2 (v_Sto.2.1).toNatClampNeg (v_Sto.2.2.2.2.2.1.2 (x1).toNatClampNeg))), (v_Sto.2.2.2.2.2.1.1, (upd v_Sto.2.2.2.2.2.1.2 (x1).toNatClampNeg v_Sto.2.1)), v_Sto.2.2.2.2.2.2)) X d_Sto_append_139 4 0 rfl rfl b27 rfl ?_
          refine aj_aload_n X d_Sto_append_140 0 rfl ?_
          refine aj_dup X d_Sto_append_141 rfl ?_
          refine aj_get X d_Sto_append_142 in_Sto 0 rfl rfl 1 (by decide) lf_Sto_15 rfl ?_
          refine aj_iconst (v := (1 : Int32)) X d_Sto_append_145 (by decide) ?_
          refine aj_iadd X d_Sto_append_146 ?_
          refine aj_put (ws' := w_Sto cI cL cZ o_Sto a16 a19 a22 a_Sto_3 a_Sto_4 (v_Sto.1, (v_Sto.2.1 + (1 : Int32)), (r14.1.1, (upd r14.1.2 (v_Sto.2.1).toNatClampNeg x1)), (r17.1.1, (upd r17.1.2 (v_Sto.2.1).toNatClampNeg (v_Sto.1 - (1 : Int32)))), (r20.1.1, (upd r20.1.2 (v_Sto.2.1).toNatClampNeg (v_Sto.2.2.2.2.2.1.2 (x1).toNatClampNeg))), (v_Sto.2.2.2.2.2.1.1, (upd v_Sto.2.2.2.2.2.1.2 (x1).toNatClampNeg v_Sto.2.1)), v_Sto.2.2.2.2.2.2)) X d_Sto_append_147 in_Sto ty_Sto tyok_Sto nmx_Sto 0 rfl rfl 1 (by decide) lf_Sto_15 rfl rfl rfl (Nat.le_of_ble_eq_true rfl) rfl ?_
          obtain ⟨ho, e1, e2⟩ := res_of hm
          subst ho
          obtain rfl := kc_end hkc e1
          obtain rfl := kc_end hks e2
          exact aj_vret X d_Sto_append_150 hr hlk [0, 1, 2, 3, 4, 5] (w_Sto cI cL cZ o_Sto a16 a19 a22 a_Sto_3 a_Sto_4 (v_Sto.1, (v_Sto.2.1 + (1 : Int32)), (r14.1.1, (upd r14.1.2 (v_Sto.2.1).toNatClampNeg x1)), (r17.1.1, (upd r17.1.2 (v_Sto.2.1).toNatClampNeg (v_Sto.1 - (1 : Int32)))), (r20.1.1, (upd r20.1.2 (v_Sto.2.1).toNatClampNeg (v_Sto.2.2.2.2.2.1.2 (x1).toNatClampNeg))), (v_Sto.2.2.2.2.2.1.1, (upd v_Sto.2.2.2.2.2.1.2 (x1).toNatClampNeg v_Sto.2.1)), v_Sto.2.2.2.2.2.2)) rfl rfl ⟨a16, a19, a22, rfl⟩
        · have hm := ite_f hm h
          obtain ⟨ho, e1, e2⟩ := res_of hm
          subst ho
          obtain rfl := kc_end hkc e1
          obtain rfl := kc_end hks e2
          exact aj_vret X d_Sto_append_29 hr hlk [0, 1, 2, 3, 4, 5] (w_Sto cI cL cZ o_Sto a_Sto_0 a_Sto_1 a_Sto_2 a_Sto_3 a_Sto_4 v_Sto) rfl rfl ⟨a_Sto_0, a_Sto_1, a_Sto_2, rfl⟩
abbrev X_CS_literal (p : Program) (s : State) (m : MethodId) (args : Array Value) (c : Code) (D : va_G) (cI cL cZ : ClassId) (A : Nat → Prop) : Prop := aj_C p s m args c D clss (ty3 cI cL cZ) A b_CS_literal 5 R_CS TB
abbrev J_CS_literal (p : Program) (l : Launch) (e : Env) (s : State) (m : MethodId) (args : Array Value) (below : List Frame) (meth : Method) (c : Code) (D : va_G) (cI cL cZ : ClassId) (A : Nat → Prop) (O : Int32 → va_W → Prop) (mc ms : Nat) (ws : va_W) (kc ks pc : Nat) (lv : List (Nat × Value)) (st : List Value) : Prop := aj p l e { frames := 4, cells := mc, slots := ms, locals := 105 } s m args below meth c (MQ below (qI D clss (ty3 cI cL cZ) O A) args s mc ms A) D clss A 5 ws kc ks pc lv st
def O_CS_literal (cI cL cZ : ClassId) (o_CS o_Sto o_Pla o_Ass o_Tra o_Sea a_Sto_3 a_Sto_4 : Nat) (out : T_CS × T_Sto × Int32) : Int32 → va_W → Prop := fun r w1 => out.2.2 = r ∧ ∃ (a_Sto_0 a_Sto_1 a_Sto_2 : Nat), w1 = w_CS cI cL cZ o_CS o_Sto o_Pla o_Ass o_Tra o_Sea out.1 ++ w_Sto cI cL cZ o_Sto a_Sto_0 a_Sto_1 a_Sto_2 a_Sto_3 a_Sto_4 out.2.1
def m_CS_literal (v_CS : T_CS) (v_Sto : T_Sto) (x1 : Int32) (x2 : Int32) (x3 : Int32) : Option ((T_CS × T_Sto × Int32) × Nat × Nat) := ((m_CS_isStillOpen v_CS v_Sto x1).bind fun r18 => (if r18 = 0 then (some ((v_CS, v_Sto, (0 : Int32)), 0, 0)) else ((m_CS_isThing v_CS x2).bind fun r20 => (if r20 = 0 then (some ((v_CS, v_Sto, (0 : Int32)), 0, 0)) else ((m_CS_literalOf x2 x3).bind fun r22 => ((m_Sto_sizeOf v_Sto x1).bind fun r24 => (if (60 : Int32) ≤ r24 then (some ((v_CS, v_Sto, (0 : Int32)), 0, 0)) else ((m_Sto_hasRoom v_Sto (0 : Int32) (1 : Int32)).bind fun r26 => (if r26 = 0 then (some ((v_CS, v_Sto, (0 : Int32)), 0, 0)) else ((m_Sto_holds v_Sto x1 r22).bind fun r28 => (if r28 = 0 then ((m_Sto_append v_Sto r22).bind fun r30 => addc r30.2.1 r30.2.2 (some (((v_CS.1, v_CS.2.1, (1 : Int32)), r30.1, (1 : Int32)), 0, 0))) else (some ((v_CS, v_Sto, (0 : Int32)), 0, 0)))))))))))))
set_option maxRecDepth 100000 in
set_option maxHeartbeats 4000000 in
theorem c_CS_literal {l : Launch} {D : va_G} {cI cL cZ : ClassId} (o_CS o_Sto o_Pla o_Ass o_Tra o_Sea a_Sto_3 a_Sto_4 : Nat) (a_Sto_0 a_Sto_1 a_Sto_2 : Nat) (v_CS : T_CS) (v_Sto : T_Sto) (x1 : Int32) (x2 : Int32) (x3 : Int32) (out : T_CS × T_Sto × Int32) (mc ms : Nat) (hm : m_CS_literal v_CS v_Sto x1 x2 x3 = some (out, mc, ms)) : ct l y_CS_literal (Cond.code y_CS_literal b_CS_literal 5 (some .boolean) :: TB) 4 105 D clss (ty3 cI cL cZ) NM0 NF0 [.ref o_CS, .int x1, .int x2, .int x3] (w_CS cI cL cZ o_CS o_Sto o_Pla o_Ass o_Tra o_Sea v_CS ++ w_Sto cI cL cZ o_Sto a_Sto_0 a_Sto_1 a_Sto_2 a_Sto_3 a_Sto_4 v_Sto) (qI D clss (ty3 cI cL cZ) (O_CS_literal cI cL cZ o_CS o_Sto o_Pla o_Ass o_Tra o_Sea a_Sto_3 a_Sto_4 out)) mc ms := by
  refine ct_of (plainFor_of_name (by decide)) (Nat.le_of_ble_eq_true rfl) (fun p e s m args below meth c A X N hr hlk hnm => ?_)
  refine aj_lv (lv' := [(0, .ref o_CS), (1, .int x1), (2, .int x2), (3, .int x3)]) [0, 1, 2, 3] rfl ?_
  unfold m_CS_literal at hm
  have hkc : 0 + mc = mc := Nat.zero_add _
  have hks : 0 + ms = ms := Nat.zero_add _
  refine aj_aload_n X d_CS_literal_0 0 rfl ?_
  refine aj_iload_n X d_CS_literal_1 1 rfl ?_
  obtain ⟨r18, h19, hm⟩ := bnd_of hm
  refine aj_callI (wr := []) X (aj_rV (As := [.int x1]) (rest := []) X N gTB (c_CS_isStillOpen (D := D) (cI := cI) (cL := cL) (cZ := cZ) o_CS o_Sto o_Pla o_Ass o_Tra o_Sea a_Sto_0 a_Sto_1 a_Sto_2 a_Sto_3 a_Sto_4 v_CS v_Sto x1 r18 h19) d_CS_literal_2 lk_CS_isStillOpen lw_CS_82 lh_CS_isStillOpen ⟨(Nat.le_of_ble_eq_true rfl), (Nat.le_of_ble_eq_true rfl)⟩ [0, 1, 2, 3, 4, 5, 6] rfl rfl 0 rfl rfl rfl rfl (Nat.le_of_ble_eq_true rfl) ⟨kc_le1 hkc, kc_le1 hks⟩) [0, 1, 2, 3, 4, 5, 6] [] rfl rfl rfl (by decide) (fun rr w1 hO => ?_)
  have hkc := kc_zero hkc
  have hks := kc_zero hks
  obtain ⟨rfl, rfl⟩ := hO
  refine aj_perm (ws' := w_CS cI cL cZ o_CS o_Sto o_Pla o_Ass o_Tra o_Sea v_CS ++ w_Sto cI cL cZ o_Sto a_Sto_0 a_Sto_1 a_Sto_2 a_Sto_3 a_Sto_4 v_Sto) [0, 1, 2, 3, 4, 5, 6] rfl rfl ?_
  refine aj_if_eq X 16 d_CS_literal_5 (by decide) (fun h => ?_) (fun h => ?_)
  · have hm := ite_t hm h
    refine aj_iconst (v := (0 : Int32)) X d_CS_literal_16 (by decide) ?_
    obtain ⟨ho, e1, e2⟩ := res_of hm
    subst ho
    obtain rfl := kc_end hkc e1
    obtain rfl := kc_end hks e2
    exact aj_zret X d_CS_literal_17 hr hlk (by decide) [0, 1, 2, 3, 4, 5, 6] (w_CS cI cL cZ o_CS o_Sto o_Pla o_Ass o_Tra o_Sea v_CS ++ w_Sto cI cL cZ o_Sto a_Sto_0 a_Sto_1 a_Sto_2 a_Sto_3 a_Sto_4 v_Sto) rfl rfl ⟨rfl, a_Sto_0, a_Sto_1, a_Sto_2, rfl⟩
  · have hm := ite_f hm h
    refine aj_aload_n X d_CS_literal_8 0 rfl ?_
    refine aj_iload_n X d_CS_literal_9 2 rfl ?_
    obtain ⟨r20, h21, hm⟩ := bnd_of hm
    refine aj_callI (wr := [(o_Sto, .inr (3, [.int v_Sto.1, .int v_Sto.2.1, .ref a_Sto_0, .ref a_Sto_1, .ref a_Sto_2, .ref a_Sto_3, .ref a_Sto_4])), (a_Sto_0, .inl (cI, v_Sto.2.2.1.1, .inl v_Sto.2.2.1.2)), (a_Sto_1, .inl (cI, v_Sto.2.2.2.1.1, .inl v_Sto.2.2.2.1.2)), (a_Sto_2, .inl (cI, v_Sto.2.2.2.2.1.1, .inl v_Sto.2.2.2.2.1.2)), (a_Sto_3, .inl (cI, v_Sto.2.2.2.2.2.1.1, .inl v_Sto.2.2.2.2.2.1.2)), (a_Sto_4, .inl (cI, v_Sto.2.2.2.2.2.2.1, .inl v_Sto.2.2.2.2.2.2.2))]) X (aj_rV (As := [.int x2]) (rest := []) X N gTB (c_CS_isThing (D := D) (cI := cI) (cL := cL) (cZ := cZ) o_CS o_Sto o_Pla o_Ass o_Tra o_Sea v_CS x2 r20 h21) d_CS_literal_10 lk_CS_isThing lw_CS_86 lh_CS_isThing ⟨(Nat.le_of_ble_eq_true rfl), (Nat.le_of_ble_eq_true rfl)⟩ [0] rfl rfl 0 rfl rfl rfl rfl (Nat.le_of_ble_eq_true rfl) ⟨kc_le1 hkc, kc_le1 hks⟩) [0] [1, 2, 3, 4, 5, 6] rfl rfl rfl (by decide) (fun rr w1 hO => ?_)
    have hkc := kc_zero hkc
    have hks := kc_zero hks
    obtain ⟨rfl, rfl⟩ := hO
    refine aj_perm (ws' := w_CS cI cL cZ o_CS o_Sto o_Pla o_Ass o_Tra o_Sea v_CS ++ w_Sto cI cL cZ o_Sto a_Sto_0 a_Sto_1 a_Sto_2 a_Sto_3 a_Sto_4 v_Sto) [6, 0, 1, 2, 3, 4, 5] rfl rfl ?_
    refine aj_if_ne X 18 d_CS_literal_13 (by decide) (fun h => ?_) (fun h => ?_)
    · have hm := ite_f hm h
      refine aj_iload_n X d_CS_literal_18 2 rfl ?_
      refine aj_iload_n X d_CS_literal_19 3 rfl ?_
      obtain ⟨r22, h23, hm⟩ := bnd_of hm
      refine aj_callI (wr := [(o_CS, .inr (6, [.int v_CS.1, .ref o_Sto, .ref o_Pla, .ref o_Ass, .ref o_Tra, .ref o_Sea, .int v_CS.2.1, .int v_CS.2.2])), (o_Sto, .inr (3, [.int v_Sto.1, .int v_Sto.2.1, .ref a_Sto_0, .ref a_Sto_1, .ref a_Sto_2, .ref a_Sto_3, .ref a_Sto_4])), (a_Sto_0, .inl (cI, v_Sto.2.2.1.1, .inl v_Sto.2.2.1.2)), (a_Sto_1, .inl (cI, v_Sto.2.2.2.1.1, .inl v_Sto.2.2.2.1.2)), (a_Sto_2, .inl (cI, v_Sto.2.2.2.2.1.1, .inl v_Sto.2.2.2.2.1.2)), (a_Sto_3, .inl (cI, v_Sto.2.2.2.2.2.1.1, .inl v_Sto.2.2.2.2.2.1.2)), (a_Sto_4, .inl (cI, v_Sto.2.2.2.2.2.2.1, .inl v_Sto.2.2.2.2.2.2.2))]) X (aj_rS (As := [.int x2, .int x3]) (rest := []) X N gTB (c_CS_literalOf (D := D) (cI := cI) (cL := cL) (cZ := cZ) x2 x3 r22 h23) d_CS_literal_20 lk_CS_literalOf lw_CS_89 lh_CS_literalOf ⟨(Nat.le_of_ble_eq_true rfl), (Nat.le_of_ble_eq_true rfl)⟩ [] rfl rfl rfl (Nat.le_of_ble_eq_true rfl) ⟨kc_le1 hkc, kc_le1 hks⟩) [] [0, 1, 2, 3, 4, 5, 6] rfl rfl rfl (by decide) (fun rr w1 hO => ?_)
      have hkc := kc_zero hkc
      have hks := kc_zero hks
      obtain ⟨rfl, rfl⟩ := hO
      refine aj_perm (ws' := w_CS cI cL cZ o_CS o_Sto o_Pla o_Ass o_Tra o_Sea v_CS ++ w_Sto cI cL cZ o_Sto a_Sto_0 a_Sto_1 a_Sto_2 a_Sto_3 a_Sto_4 v_Sto) [0, 1, 2, 3, 4, 5, 6] rfl rfl ?_
      refine aj_istore (lv' := [(4, .int r22), (0, .ref o_CS), (1, .int x1), (2, .int x2), (3, .int x3)]) X d_CS_literal_23 (by decide) rfl ?_
      refine aj_aload_n X d_CS_literal_25 1 rfl ?_
      refine aj_get X d_CS_literal_26 in_CS 0 rfl rfl 1 (by decide) lf_CS_27 rfl ?_
      refine aj_iload_n X d_CS_literal_29 2 rfl ?_
      obtain ⟨r24, h25, hm⟩ := bnd_of hm
      refine aj_callI (wr := [(o_CS, .inr (6, [.int v_CS.1, .ref o_Sto, .ref o_Pla, .ref o_Ass, .ref o_Tra, .ref o_Sea, .int v_CS.2.1, .int v_CS.2.2]))]) X (aj_rV (As := [.int x1]) (rest := []) X N gTB (c_Sto_sizeOf (D := D) (cI := cI) (cL := cL) (cZ := cZ) o_Sto a_Sto_0 a_Sto_1 a_Sto_2 a_Sto_3 a_Sto_4 v_Sto x1 r24 h25) d_CS_literal_30 lk_Sto_sizeOf lw_CS_93 lh_Sto_sizeOf ⟨(Nat.le_of_ble_eq_true rfl), (Nat.le_of_ble_eq_true rfl)⟩ [1, 2, 3, 4, 5, 6] rfl rfl 0 rfl rfl rfl rfl (Nat.le_of_ble_eq_true rfl) ⟨kc_le1 hkc, kc_le1 hks⟩) [1, 2, 3, 4, 5, 6] [0] rfl rfl rfl (by decide) (fun rr w1 hO => ?_)
      have hkc := kc_zero hkc
      have hks := kc_zero hks
      obtain ⟨rfl, rfl⟩ := hO
      refine aj_perm (ws' := w_CS cI cL cZ o_CS o_Sto o_Pla o_Ass o_Tra o_Sea v_CS ++ w_Sto cI cL cZ o_Sto a_Sto_0 a_Sto_1 a_Sto_2 a_Sto_3 a_Sto_4 v_Sto) [0, 1, 2, 3, 4, 5, 6] rfl rfl ?_
      refine aj_bipush (v := (60 : Int32)) X d_CS_literal_33 (by decide) ?_
      refine aj_icmp_ge X 63 d_CS_literal_35 (by decide) (fun h => ?_) (fun h => ?_)
      · have hm := ite_t hm h
        refine aj_iconst (v := (0 : Int32)) X d_CS_literal_63 (by decide) ?_
        obtain ⟨ho, e1, e2⟩ := res_of hm
        subst ho
        obtain rfl := kc_end hkc e1
        obtain rfl := kc_end hks e2
        exact aj_zret X d_CS_literal_64 hr hlk (by decide) [0, 1, 2, 3, 4, 5, 6] (w_CS cI cL cZ o_CS o_Sto o_Pla o_Ass o_Tra o_Sea v_CS ++ w_Sto cI cL cZ o_Sto a_Sto_0 a_Sto_1 a_Sto_2 a_Sto_3 a_Sto_4 v_Sto) rfl rfl ⟨rfl, a_Sto_0, a_Sto_1, a_Sto_2, rfl⟩
      · have hm := ite_f hm h
        refine aj_aload_n X d_CS_literal_38 1 rfl ?_
        refine aj_get X d_CS_literal_39 in_CS 0 rfl rfl 1 (by decide) lf_CS_27 rfl ?_
        refine aj_iconst (v := (0 : Int32)) X d_CS_literal_42 (by decide) ?_
        refine aj_iconst (v := (1 : Int32)) X d_CS_literal_43 (by decide) ?_
        obtain ⟨r26, h27, hm⟩ := bnd_of hm
        refine aj_callI (wr := [(o_CS, .inr (6, [.int v_CS.1, .ref o_Sto, .ref o_Pla, .ref o_Ass, .ref o_Tra, .ref o_Sea, .int v_CS.2.1, .int v_CS.2.2]))]) X (aj_rV (As := [.int (0 : Int32), .int (1 : Int32)]) (rest := []) X N gTB (c_Sto_hasRoom (D := D) (cI := cI) (cL := cL) (cZ := cZ) o_Sto a_Sto_0 a_Sto_1 a_Sto_2 a_Sto_3 a_Sto_4 v_Sto (0 : Int32) (1 : Int32) r26 h27) d_CS_literal_44 lk_Sto_hasRoom lw_CS_74 lh_Sto_hasRoom ⟨(Nat.le_of_ble_eq_true rfl), (Nat.le_of_ble_eq_true rfl)⟩ [1, 2, 3, 4, 5, 6] rfl rfl 0 rfl rfl rfl rfl (Nat.le_of_ble_eq_true rfl) ⟨kc_le1 hkc, kc_le1 hks⟩) [1, 2, 3, 4, 5, 6] [0] rfl rfl rfl (by decide) (fun rr w1 hO => ?_)
        have hkc := kc_zero hkc
        have hks := kc_zero hks
        obtain ⟨rfl, rfl⟩ := hO
        refine aj_perm (ws' := w_CS cI cL cZ o_CS o_Sto o_Pla o_Ass o_Tra o_Sea v_CS ++ w_Sto cI cL cZ o_Sto a_Sto_0 a_Sto_1 a_Sto_2 a_Sto_3 a_Sto_4 v_Sto) [0, 1, 2, 3, 4, 5, 6] rfl rfl ?_
        refine aj_if_eq X 63 d_CS_literal_47 (by decide) (fun h => ?_) (fun h => ?_)
        · have hm := ite_t hm h
          refine aj_iconst (v := (0 : Int32)) X d_CS_literal_63 (by decide) ?_
          obtain ⟨ho, e1, e2⟩ := res_of hm
          subst ho
          obtain rfl := kc_end hkc e1
          obtain rfl := kc_end hks e2
          exact aj_zret X d_CS_literal_64 hr hlk (by decide) [0, 1, 2, 3, 4, 5, 6] (w_CS cI cL cZ o_CS o_Sto o_Pla o_Ass o_Tra o_Sea v_CS ++ w_Sto cI cL cZ o_Sto a_Sto_0 a_Sto_1 a_Sto_2 a_Sto_3 a_Sto_4 v_Sto) rfl rfl ⟨rfl, a_Sto_0, a_Sto_1, a_Sto_2, rfl⟩
        · have hm := ite_f hm h
          refine aj_aload_n X d_CS_literal_50 1 rfl ?_
          refine aj_get X d_CS_literal_51 in_CS 0 rfl rfl 1 (by decide) lf_CS_27 rfl ?_
          refine aj_iload_n X d_CS_literal_54 2 rfl ?_
          refine aj_iload X d_CS_literal_55 0 rfl ?_
          obtain ⟨r28, h29, hm⟩ := bnd_of hm
          refine aj_callI (wr := [(o_CS, .inr (6, [.int v_CS.1, .ref o_Sto, .ref o_Pla, .ref o_Ass, .ref o_Tra, .ref o_Sea, .int v_CS.2.1, .int v_CS.2.2]))]) X (aj_rV (As := [.int x1, .int r22]) (rest := []) X N gTB (c_Sto_holds (D := D) (cI := cI) (cL := cL) (cZ := cZ) o_Sto a_Sto_0 a_Sto_1 a_Sto_2 a_Sto_3 a_Sto_4 v_Sto x1 r22 r28 h29) d_CS_literal_57 lk_Sto_holds lw_CS_97 lh_Sto_holds ⟨(Nat.le_of_ble_eq_true rfl), (Nat.le_of_ble_eq_true rfl)⟩ [1, 2, 3, 4, 5, 6] rfl rfl 0 rfl rfl rfl rfl (Nat.le_of_ble_eq_true rfl) ⟨kc_le1 hkc, kc_le1 hks⟩) [1, 2, 3, 4, 5, 6] [0] rfl rfl rfl (by decide) (fun rr w1 hO => ?_)
          have hkc := kc_zero hkc
          have hks := kc_zero hks
          obtain ⟨rfl, rfl⟩ := hO
          refine aj_perm (ws' := w_CS cI cL cZ o_CS o_Sto o_Pla o_Ass o_Tra o_Sea v_CS ++ w_Sto cI cL cZ o_Sto a_Sto_0 a_Sto_1 a_Sto_2 a_Sto_3 a_Sto_4 v_Sto) [0, 1, 2, 3, 4, 5, 6] rfl rfl ?_
          refine aj_if_eq X 65 d_CS_literal_60 (by decide) (fun h => ?_) (fun h => ?_)
          · have hm := ite_t hm h
            refine aj_aload_n X d_CS_literal_65 1 rfl ?_
            refine aj_get X d_CS_literal_66 in_CS 0 rfl rfl 1 (by decide) lf_CS_27 rfl ?_
            refine aj_iload X d_CS_literal_69 0 rfl ?_
            obtain ⟨r30, h31, hm⟩ := bnd_of hm
            obtain ⟨dc, ds, hm, e1, e2⟩ := addc_of hm
            have hkc := kc_step hkc e1
            have hks := kc_step hks e2
            refine aj_callV (wr := [(o_CS, .inr (6, [.int v_CS.1, .ref o_Sto, .ref o_Pla, .ref o_Ass, .ref o_Tra, .ref o_Sea, .int v_CS.2.1, .int v_CS.2.2]))]) X (aj_rV (As := [.int r22]) (rest := []) X N gTB (c_Sto_append (D := D) (cI := cI) (cL := cL) (cZ := cZ) o_Sto a_Sto_3 a_Sto_4 a_Sto_0 a_Sto_1 a_Sto_2 v_Sto r22 r30.1 r30.2.1 r30.2.2 h31) d_CS_literal_71 lk_Sto_append lw_CS_100 lh_Sto_append ⟨(Nat.le_of_ble_eq_true rfl), (Nat.le_of_ble_eq_true rfl)⟩ [1, 2, 3, 4, 5, 6] rfl rfl 0 rfl rfl rfl rfl (Nat.le_of_ble_eq_true rfl) ⟨kc_le hkc, kc_le hks⟩) [1, 2, 3, 4, 5, 6] [0] rfl rfl rfl (by decide) (fun w1 hO => ?_)
            obtain ⟨a32, a33, a34, rfl⟩ := hO
            refine aj_perm (ws' := w_CS cI cL cZ o_CS o_Sto o_Pla o_Ass o_Tra o_Sea v_CS ++ w_Sto cI cL cZ o_Sto a32 a33 a34 a_Sto_3 a_Sto_4 r30.1) [0, 1, 2, 3, 4, 5, 6] rfl rfl ?_
            refine aj_aload_n X d_CS_literal_74 1 rfl ?_
            refine aj_iconst (v := (1 : Int32)) X d_CS_literal_75 (by decide) ?_
            refine aj_put (ws' := w_CS cI cL cZ o_CS o_Sto o_Pla o_Ass o_Tra o_Sea (v_CS.1, v_CS.2.1, (1 : Int32)) ++ w_Sto cI cL cZ o_Sto a32 a33 a34 a_Sto_3 a_Sto_4 r30.1) X d_CS_literal_76 in_CS ty_CS tyok_CS nmx_CS 0 rfl rfl 7 (by decide) lf_CS_71 rfl rfl rfl (Nat.le_of_ble_eq_true rfl) rfl ?_
            refine aj_iconst (v := (1 : Int32)) X d_CS_literal_79 (by decide) ?_
            obtain ⟨ho, e1, e2⟩ := res_of hm
            subst ho
            obtain rfl := kc_end hkc e1
            obtain rfl := kc_end hks e2
            exact aj_zret X d_CS_literal_80 hr hlk (by decide) [0, 1, 2, 3, 4, 5, 6] (w_CS cI cL cZ o_CS o_Sto o_Pla o_Ass o_Tra o_Sea (v_CS.1, v_CS.2.1, (1 : Int32)) ++ w_Sto cI cL cZ o_Sto a32 a33 a34 a_Sto_3 a_Sto_4 r30.1) rfl rfl ⟨rfl, a32, a33, a34, rfl⟩
          · have hm := ite_f hm h
            refine aj_iconst (v := (0 : Int32)) X d_CS_literal_63 (by decide) ?_
            obtain ⟨ho, e1, e2⟩ := res_of hm
            subst ho
            obtain rfl := kc_end hkc e1
            obtain rfl := kc_end hks e2
            exact aj_zret X d_CS_literal_64 hr hlk (by decide) [0, 1, 2, 3, 4, 5, 6] (w_CS cI cL cZ o_CS o_Sto o_Pla o_Ass o_Tra o_Sea v_CS ++ w_Sto cI cL cZ o_Sto a_Sto_0 a_Sto_1 a_Sto_2 a_Sto_3 a_Sto_4 v_Sto) rfl rfl ⟨rfl, a_Sto_0, a_Sto_1, a_Sto_2, rfl⟩
    · have hm := ite_t hm h
      refine aj_iconst (v := (0 : Int32)) X d_CS_literal_16 (by decide) ?_
      obtain ⟨ho, e1, e2⟩ := res_of hm
      subst ho
      obtain rfl := kc_end hkc e1
      obtain rfl := kc_end hks e2
      exact aj_zret X d_CS_literal_17 hr hlk (by decide) [0, 1, 2, 3, 4, 5, 6] (w_CS cI cL cZ o_CS o_Sto o_Pla o_Ass o_Tra o_Sea v_CS ++ w_Sto cI cL cZ o_Sto a_Sto_0 a_Sto_1 a_Sto_2 a_Sto_3 a_Sto_4 v_Sto) rfl rfl ⟨rfl, a_Sto_0, a_Sto_1, a_Sto_2, rfl⟩
abbrev X_CS_isCode (p : Program) (s : State) (m : MethodId) (args : Array Value) (c : Code) (D : va_G) (cI cL cZ : ClassId) (A : Nat → Prop) : Prop := aj_C p s m args c D clss (ty3 cI cL cZ) A b_CS_isCode 1 R_CS TB
abbrev J_CS_isCode (p : Program) (l : Launch) (e : Env) (s : State) (m : MethodId) (args : Array Value) (below : List Frame) (meth : Method) (c : Code) (D : va_G) (cI cL cZ : ClassId) (A : Nat → Prop) (O : Int32 → va_W → Prop) (mc ms : Nat) (ws : va_W) (kc ks pc : Nat) (lv : List (Nat × Value)) (st : List Value) : Prop := aj p l e { frames := 0, cells := mc, slots := ms, locals := 0 } s m args below meth c (MQ below (qI D clss (ty3 cI cL cZ) O A) args s mc ms A) D clss A 1 ws kc ks pc lv st
def O_CS_isCode (cI cL cZ : ClassId) (out : Int32) : Int32 → va_W → Prop := fun r w1 => out = r ∧ w1 = []
def m_CS_isCode (x0 : Int32) : Option (Int32) := (if x0 < 0 then (some (0 : Int32)) else (if (65535 : Int32) < x0 then (some (0 : Int32)) else (some (1 : Int32))))
set_option maxRecDepth 100000 in
set_option maxHeartbeats 4000000 in
theorem c_CS_isCode {l : Launch} {D : va_G} {cI cL cZ : ClassId} (x0 : Int32) (out : Int32) (hm : m_CS_isCode x0 = some out) : ct l y_CS_isCode (Cond.code y_CS_isCode b_CS_isCode 1 (some .boolean) :: TB) 0 0 D clss (ty3 cI cL cZ) NM0 NF0 [.int x0] ([]) (qI D clss (ty3 cI cL cZ) (O_CS_isCode cI cL cZ out)) 0 0 := by
  refine ct_of (plainFor_of_name (by decide)) (Nat.le_of_ble_eq_true rfl) (fun p e s m args below meth c A X N hr hlk hnm => ?_)
  refine aj_lv (lv' := [(0, .int x0)]) [0] rfl ?_
  unfold m_CS_isCode at hm
  refine aj_iload_n X d_CS_isCode_0 0 rfl ?_
  refine aj_if_lt X 14 d_CS_isCode_1 (by decide) (fun h => ?_) (fun h => ?_)
  · have hm := ite_t hm h
    refine aj_iconst (v := (0 : Int32)) X d_CS_isCode_14 (by decide) ?_
    have ho := Option.some.inj hm
    subst ho
    exact aj_zret X d_CS_isCode_15 hr hlk (by decide) [] ([]) rfl rfl ⟨rfl, rfl⟩
  · have hm := ite_f hm h
    refine aj_iload_n X d_CS_isCode_4 0 rfl ?_
    refine aj_ldc (v := (65535 : Int32)) X d_CS_isCode_5 lc_CS_168 ?_
    refine aj_icmp_gt X 14 d_CS_isCode_7 (by decide) (fun h => ?_) (fun h => ?_)
    · have hm := ite_t hm h
      refine aj_iconst (v := (0 : Int32)) X d_CS_isCode_14 (by decide) ?_
      have ho := Option.some.inj hm
      subst ho
      exact aj_zret X d_CS_isCode_15 hr hlk (by decide) [] ([]) rfl rfl ⟨rfl, rfl⟩
    · have hm := ite_f hm h
      refine aj_iconst (v := (1 : Int32)) X d_CS_isCode_10 (by decide) ?_
      refine aj_goto X 15 d_CS_isCode_11 (by decide) ?_
      have ho := Option.some.inj hm
      subst ho
      exact aj_zret X d_CS_isCode_15 hr hlk (by decide) [] ([]) rfl rfl ⟨rfl, rfl⟩
abbrev X_Pla_isTold (p : Program) (s : State) (m : MethodId) (args : Array Value) (c : Code) (D : va_G) (cI cL cZ : ClassId) (A : Nat → Prop) : Prop := aj_C p s m args c D clss (ty3 cI cL cZ) A b_Pla_isTold 2 R_Pla TB
abbrev J_Pla_isTold (p : Program) (l : Launch) (e : Env) (s : State) (m : MethodId) (args : Array Value) (below : List Frame) (meth : Method) (c : Code) (D : va_G) (cI cL cZ : ClassId) (A : Nat → Prop) (O : Int32 → va_W → Prop) (mc ms : Nat) (ws : va_W) (kc ks pc : Nat) (lv : List (Nat × Value)) (st : List Value) : Prop := aj p l e { frames := 0, cells := mc, slots := ms, locals := 0 } s m args below meth c (MQ below (qI D clss (ty3 cI cL cZ) O A) args s mc ms A) D clss A 2 ws kc ks pc lv st
def O_Pla_isTold (cI cL cZ : ClassId) (o_Pla a_Pla_0 a_Pla_1 : Nat) (v_Pla : T_Pla) (out : Int32) : Int32 → va_W → Prop := fun r w1 => out = r ∧ w1 = w_Pla cI cL cZ o_Pla a_Pla_0 a_Pla_1 v_Pla
def m_Pla_isTold (v_Pla : T_Pla) (x1 : Int32) : Option (Int32) := (if ¬ (x1 < 0 ∨ v_Pla.1.1 ≤ (x1).toNatClampNeg) then (if (v_Pla.1.2 (x1).toNatClampNeg) = (-1 : Int32) then (some (0 : Int32)) else (some (1 : Int32))) else none)
set_option maxRecDepth 100000 in
set_option maxHeartbeats 4000000 in
theorem c_Pla_isTold {l : Launch} {D : va_G} {cI cL cZ : ClassId} (o_Pla a_Pla_0 a_Pla_1 : Nat) (v_Pla : T_Pla) (x1 : Int32) (out : Int32) (hm : m_Pla_isTold v_Pla x1 = some out) : ct l y_Pla_isTold (Cond.code y_Pla_isTold b_Pla_isTold 2 (some .boolean) :: TB) 0 0 D clss (ty3 cI cL cZ) NM0 NF0 [.ref o_Pla, .int x1] (w_Pla cI cL cZ o_Pla a_Pla_0 a_Pla_1 v_Pla) (qI D clss (ty3 cI cL cZ) (O_Pla_isTold cI cL cZ o_Pla a_Pla_0 a_Pla_1 v_Pla out)) 0 0 := by
  refine ct_of (plainFor_of_name (by decide)) (Nat.le_of_ble_eq_true rfl) (fun p e s m args below meth c A X N hr hlk hnm => ?_)
  refine aj_lv (lv' := [(0, .ref o_Pla), (1, .int x1)]) [0, 1] rfl ?_
  unfold m_Pla_isTold at hm
  refine aj_aload_n X d_Pla_isTold_0 0 rfl ?_
  refine aj_get X d_Pla_isTold_1 in_Pla 0 rfl rfl 0 (by decide) lf_Pla_9 rfl ?_
  refine aj_iload_n X d_Pla_isTold_4 1 rfl ?_
  obtain ⟨b1, hm⟩ := chk_of hm
  refine aj_iald X d_Pla_isTold_5 1 0 rfl rfl b1 ?_
  refine aj_iconst (v := (-1 : Int32)) X d_Pla_isTold_6 (by decide) ?_
  refine aj_icmp_eq X 14 d_Pla_isTold_7 (by decide) (fun h => ?_) (fun h => ?_)
  · have hm := ite_t hm h
    refine aj_iconst (v := (0 : Int32)) X d_Pla_isTold_14 (by decide) ?_
    have ho := Option.some.inj hm
    subst ho
    exact aj_zret X d_Pla_isTold_15 hr hlk (by decide) [0, 1, 2] (w_Pla cI cL cZ o_Pla a_Pla_0 a_Pla_1 v_Pla) rfl rfl ⟨rfl, rfl⟩
  · have hm := ite_f hm h
    refine aj_iconst (v := (1 : Int32)) X d_Pla_isTold_10 (by decide) ?_
    refine aj_goto X 15 d_Pla_isTold_11 (by decide) ?_
    have ho := Option.some.inj hm
    subst ho
    exact aj_zret X d_Pla_isTold_15 hr hlk (by decide) [0, 1, 2] (w_Pla cI cL cZ o_Pla a_Pla_0 a_Pla_1 v_Pla) rfl rfl ⟨rfl, rfl⟩
abbrev X_Pla_isTaken (p : Program) (s : State) (m : MethodId) (args : Array Value) (c : Code) (D : va_G) (cI cL cZ : ClassId) (A : Nat → Prop) : Prop := aj_C p s m args c D clss (ty3 cI cL cZ) A b_Pla_isTaken 4 R_Pla TB
abbrev J_Pla_isTaken (p : Program) (l : Launch) (e : Env) (s : State) (m : MethodId) (args : Array Value) (below : List Frame) (meth : Method) (c : Code) (D : va_G) (cI cL cZ : ClassId) (A : Nat → Prop) (O : Int32 → va_W → Prop) (mc ms : Nat) (ws : va_W) (kc ks pc : Nat) (lv : List (Nat × Value)) (st : List Value) : Prop := aj p l e { frames := 0, cells := mc, slots := ms, locals := 0 } s m args below meth c (MQ below (qI D clss (ty3 cI cL cZ) O A) args s mc ms A) D clss A 4 ws kc ks pc lv st
def O_Pla_isTaken (cI cL cZ : ClassId) (o_Pla a_Pla_0 a_Pla_1 : Nat) (v_Pla : T_Pla) (out : Int32) : Int32 → va_W → Prop := fun r w1 => out = r ∧ w1 = w_Pla cI cL cZ o_Pla a_Pla_0 a_Pla_1 v_Pla
def m_Pla_isTaken_B33 (v_Pla : T_Pla) (again2 : Int32 → Int32 → Int32 → Option (Int32)) (x1 : Int32) (x2 : Int32) (x3 : Int32) : Option (Int32) := (again2 x1 x2 (x3 + 1))
set_option maxRecDepth 100000 in
set_option maxHeartbeats 4000000 in
theorem c_Pla_isTaken_B33 {l : Launch} {D : va_G} {cI cL cZ : ClassId} {p : Program} {e : Env} {s : State} {m : MethodId} {args : Array Value} {below : List Frame} {meth : Method} {c : Code} {A : Nat → Prop} (o_Pla a_Pla_0 a_Pla_1 : Nat) (v_Pla : T_Pla) (out : Int32) (X : X_Pla_isTaken p s m args c D cI cL cZ A) (N : nk NM0 NF0 s) (hr : meth.sig.returnType = some .boolean) (hlk : meth.locks = false) (again2 : Int32 → Int32 → Int32 → Option (Int32)) (ih2 : ∀ (x1 : Int32) (x2 : Int32) (x3 : Int32), again2 x1 x2 x3 = some out → J_Pla_isTaken p l e s m args below meth c D cI cL cZ A (O_Pla_isTaken cI cL cZ o_Pla a_Pla_0 a_Pla_1 v_Pla out) 0 0 (w_Pla cI cL cZ o_Pla a_Pla_0 a_Pla_1 v_Pla) 0 0 2 [(0, .ref o_Pla), (1, .int x1), (2, .int x2), (3, .int x3)] []) : ∀ (x1 : Int32) (x2 : Int32) (x3 : Int32), m_Pla_isTaken_B33 v_Pla again2 x1 x2 x3 = some out → J_Pla_isTaken p l e s m args below meth c D cI cL cZ A (O_Pla_isTaken cI cL cZ o_Pla a_Pla_0 a_Pla_1 v_Pla out) 0 0 (w_Pla cI cL cZ o_Pla a_Pla_0 a_Pla_1 v_Pla) 0 0 33 [(0, .ref o_Pla), (1, .int x1), (2, .int x2), (3, .int x3)] [] := by
  intro x1 x2 x3 hm
  unfold m_Pla_isTaken_B33 at hm
  refine aj_iinc (v := (x3 + 1)) (lv' := [(3, .int (x3 + 1)), (0, .ref o_Pla), (1, .int x1), (2, .int x2)]) X d_Pla_isTaken_33 3 rfl rfl (by decide) rfl ?_
  refine aj_goto X 2 d_Pla_isTaken_36 (by decide) ?_
  refine aj_lv (lv' := [(0, .ref o_Pla), (1, .int x1), (2, .int x2), (3, .int (x3 + 1))]) [1, 2, 3, 0] rfl ?_
  exact ih2 x1 x2 (x3 + 1) hm
def m_Pla_isTaken_L2 (v_Pla : T_Pla) : Nat → Int32 → Int32 → Int32 → Option (Int32)
  | 0, _, _, _ => none
  | f + 1, x1, x2, x3 => (if (Int32.ofNat v_Pla.1.1) ≤ x3 then (some (0 : Int32)) else (if ¬ (x3 < 0 ∨ v_Pla.1.1 ≤ (x3).toNatClampNeg) then (if (v_Pla.1.2 (x3).toNatClampNeg) = x1 then (if ¬ (x3 < 0 ∨ v_Pla.2.1 ≤ (x3).toNatClampNeg) then (if (v_Pla.2.2 (x3).toNatClampNeg) = x2 then (some (1 : Int32)) else (m_Pla_isTaken_B33 v_Pla (m_Pla_isTaken_L2 v_Pla f) x1 x2 x3)) else none) else (m_Pla_isTaken_B33 v_Pla (m_Pla_isTaken_L2 v_Pla f) x1 x2 x3)) else none))
set_option maxRecDepth 100000 in
set_option maxHeartbeats 4000000 in
theorem c_Pla_isTaken_L2 {l : Launch} {D : va_G} {cI cL cZ : ClassId} {p : Program} {e : Env} {s : State} {m : MethodId} {args : Array Value} {below : List Frame} {meth : Method} {c : Code} {A : Nat → Prop} (o_Pla a_Pla_0 a_Pla_1 : Nat) (v_Pla : T_Pla) (out : Int32) (X : X_Pla_isTaken p s m args c D cI cL cZ A) (N : nk NM0 NF0 s) (hr : meth.sig.returnType = some .boolean) (hlk : meth.locks = false) : ∀ (nn : Nat), ∀ (x1 : Int32) (x2 : Int32) (x3 : Int32), m_Pla_isTaken_L2 v_Pla nn x1 x2 x3 = some out → J_Pla_isTaken p l e s m args below meth c D cI cL cZ A (O_Pla_isTaken cI cL cZ o_Pla a_Pla_0 a_Pla_1 v_Pla out) 0 0 (w_Pla cI cL cZ o_Pla a_Pla_0 a_Pla_1 v_Pla) 0 0 2 [(0, .ref o_Pla), (1, .int x1), (2, .int x2), (3, .int x3)] [] := by
  intro nn
  induction nn with
  | zero => intro x1 x2 x3 hm; exact absurd hm (by simp [m_Pla_isTaken_L2])
  | succ nn ih2 =>
    intro x1 x2 x3 hm
    unfold m_Pla_isTaken_L2 at hm
    refine aj_iload_n X d_Pla_isTaken_2 3 rfl ?_
    refine aj_aload_n X d_Pla_isTaken_3 0 rfl ?_
    refine aj_get X d_Pla_isTaken_4 in_Pla 0 rfl rfl 0 (by decide) lf_Pla_9 rfl ?_
    refine aj_alen X d_Pla_isTaken_7 1 0 rfl rfl ?_
    refine aj_icmp_ge X 39 d_Pla_isTaken_8 (by decide) (fun h => ?_) (fun h => ?_)
    · have hm := ite_t hm h
      refine aj_iconst (v := (0 : Int32)) X d_Pla_isTaken_39 (by decide) ?_
      have ho := Option.some.inj hm
      subst ho
      exact aj_zret X d_Pla_isTaken_40 hr hlk (by decide) [0, 1, 2] (w_Pla cI cL cZ o_Pla a_Pla_0 a_Pla_1 v_Pla) rfl rfl ⟨rfl, rfl⟩
    · have hm := ite_f hm h
      refine aj_aload_n X d_Pla_isTaken_11 0 rfl ?_
      refine aj_get X d_Pla_isTaken_12 in_Pla 0 rfl rfl 0 (by decide) lf_Pla_9 rfl ?_
      refine aj_iload_n X d_Pla_isTaken_15 3 rfl ?_
      obtain ⟨b1, hm⟩ := chk_of hm
      refine aj_iald X d_Pla_isTaken_16 1 0 rfl rfl b1 ?_
      refine aj_iload_n X d_Pla_isTaken_17 1 rfl ?_
      refine aj_icmp_ne X 33 d_Pla_isTaken_18 (by decide) (fun h => ?_) (fun h => ?_)
      · have hm := ite_f hm h
        exact c_Pla_isTaken_B33 o_Pla a_Pla_0 a_Pla_1 v_Pla out X N hr hlk (m_Pla_isTaken_L2 v_Pla nn) ih2 x1 x2 x3 hm
      · have hm := ite_t hm h
        refine aj_aload_n X d_Pla_isTaken_21 0 rfl ?_
        refine aj_get X d_Pla_isTaken_22 in_Pla 0 rfl rfl 1 (by decide) lf_Pla_15 rfl ?_
        refine aj_iload_n X d_Pla_isTaken_25 3 rfl ?_
        obtain ⟨b2, hm⟩ := chk_of hm
        refine aj_iald X d_Pla_isTaken_26 2 0 rfl rfl b2 ?_
        refine aj_iload_n X d_Pla_isTaken_27 2 rfl ?_
        refine aj_icmp_ne X 33 d_Pla_isTaken_28 (by decide) (fun h => ?_) (fun h => ?_)
        · have hm := ite_f hm h
          exact c_Pla_isTaken_B33 o_Pla a_Pla_0 a_Pla_1 v_Pla out X N hr hlk (m_Pla_isTaken_L2 v_Pla nn) ih2 x1 x2 x3 hm
        · have hm := ite_t hm h
          refine aj_iconst (v := (1 : Int32)) X d_Pla_isTaken_31 (by decide) ?_
          have ho := Option.some.inj hm
          subst ho
          exact aj_zret X d_Pla_isTaken_32 hr hlk (by decide) [0, 1, 2] (w_Pla cI cL cZ o_Pla a_Pla_0 a_Pla_1 v_Pla) rfl rfl ⟨rfl, rfl⟩
def m_Pla_isTaken (v_Pla : T_Pla) (x1 : Int32) (x2 : Int32) : Option (Int32) := (m_Pla_isTaken_L2 v_Pla fu x1 x2 (0 : Int32))
set_option maxRecDepth 100000 in
set_option maxHeartbeats 4000000 in
theorem c_Pla_isTaken {l : Launch} {D : va_G} {cI cL cZ : ClassId} (o_Pla a_Pla_0 a_Pla_1 : Nat) (v_Pla : T_Pla) (x1 : Int32) (x2 : Int32) (out : Int32) (hm : m_Pla_isTaken v_Pla x1 x2 = some out) : ct l y_Pla_isTaken (Cond.code y_Pla_isTaken b_Pla_isTaken 4 (some .boolean) :: TB) 0 0 D clss (ty3 cI cL cZ) NM0 NF0 [.ref o_Pla, .int x1, .int x2] (w_Pla cI cL cZ o_Pla a_Pla_0 a_Pla_1 v_Pla) (qI D clss (ty3 cI cL cZ) (O_Pla_isTaken cI cL cZ o_Pla a_Pla_0 a_Pla_1 v_Pla out)) 0 0 := by
  refine ct_of (plainFor_of_name (by decide)) (Nat.le_of_ble_eq_true rfl) (fun p e s m args below meth c A X N hr hlk hnm => ?_)
  refine aj_lv (lv' := [(0, .ref o_Pla), (1, .int x1), (2, .int x2)]) [0, 1, 2] rfl ?_
  unfold m_Pla_isTaken at hm
  refine aj_iconst (v := (0 : Int32)) X d_Pla_isTaken_0 (by decide) ?_
  refine aj_istore_n (lv' := [(3, .int (0 : Int32)), (0, .ref o_Pla), (1, .int x1), (2, .int x2)]) X d_Pla_isTaken_1 rfl (by decide) rfl ?_
  refine aj_lv (lv' := [(0, .ref o_Pla), (1, .int x1), (2, .int x2), (3, .int (0 : Int32))]) [1, 2, 3, 0] rfl ?_
  exact c_Pla_isTaken_L2 o_Pla a_Pla_0 a_Pla_1 v_Pla out X N hr hlk fu x1 x2 (0 : Int32) hm
abbrev X_Pla_countAt (p : Program) (s : State) (m : MethodId) (args : Array Value) (c : Code) (D : va_G) (cI cL cZ : ClassId) (A : Nat → Prop) : Prop := aj_C p s m args c D clss (ty3 cI cL cZ) A b_Pla_countAt 4 R_Pla TB
abbrev J_Pla_countAt (p : Program) (l : Launch) (e : Env) (s : State) (m : MethodId) (args : Array Value) (below : List Frame) (meth : Method) (c : Code) (D : va_G) (cI cL cZ : ClassId) (A : Nat → Prop) (O : Int32 → va_W → Prop) (mc ms : Nat) (ws : va_W) (kc ks pc : Nat) (lv : List (Nat × Value)) (st : List Value) : Prop := aj p l e { frames := 0, cells := mc, slots := ms, locals := 0 } s m args below meth c (MQ below (qI D clss (ty3 cI cL cZ) O A) args s mc ms A) D clss A 4 ws kc ks pc lv st
def O_Pla_countAt (cI cL cZ : ClassId) (o_Pla a_Pla_0 a_Pla_1 : Nat) (v_Pla : T_Pla) (out : Int32) : Int32 → va_W → Prop := fun r w1 => out = r ∧ w1 = w_Pla cI cL cZ o_Pla a_Pla_0 a_Pla_1 v_Pla
def m_Pla_countAt_B26 (v_Pla : T_Pla) (again4 : Int32 → Int32 → Int32 → Option (Int32)) (x1 : Int32) (x2 : Int32) (x3 : Int32) : Option (Int32) := (again4 x1 x2 (x3 + 1))
set_option maxRecDepth 100000 in
set_option maxHeartbeats 4000000 in
theorem c_Pla_countAt_B26 {l : Launch} {D : va_G} {cI cL cZ : ClassId} {p : Program} {e : Env} {s : State} {m : MethodId} {args : Array Value} {below : List Frame} {meth : Method} {c : Code} {A : Nat → Prop} (o_Pla a_Pla_0 a_Pla_1 : Nat) (v_Pla : T_Pla) (out : Int32) (X : X_Pla_countAt p s m args c D cI cL cZ A) (N : nk NM0 NF0 s) (hr : meth.sig.returnType = some .int) (hlk : meth.locks = false) (again4 : Int32 → Int32 → Int32 → Option (Int32)) (ih4 : ∀ (x1 : Int32) (x2 : Int32) (x3 : Int32), again4 x1 x2 x3 = some out → J_Pla_countAt p l e s m args below meth c D cI cL cZ A (O_Pla_countAt cI cL cZ o_Pla a_Pla_0 a_Pla_1 v_Pla out) 0 0 (w_Pla cI cL cZ o_Pla a_Pla_0 a_Pla_1 v_Pla) 0 0 4 [(0, .ref o_Pla), (1, .int x1), (2, .int x2), (3, .int x3)] []) : ∀ (x1 : Int32) (x2 : Int32) (x3 : Int32), m_Pla_countAt_B26 v_Pla again4 x1 x2 x3 = some out → J_Pla_countAt p l e s m args below meth c D cI cL cZ A (O_Pla_countAt cI cL cZ o_Pla a_Pla_0 a_Pla_1 v_Pla out) 0 0 (w_Pla cI cL cZ o_Pla a_Pla_0 a_Pla_1 v_Pla) 0 0 26 [(0, .ref o_Pla), (1, .int x1), (2, .int x2), (3, .int x3)] [] := by
  intro x1 x2 x3 hm
  unfold m_Pla_countAt_B26 at hm
  refine aj_iinc (v := (x3 + 1)) (lv' := [(3, .int (x3 + 1)), (0, .ref o_Pla), (1, .int x1), (2, .int x2)]) X d_Pla_countAt_26 3 rfl rfl (by decide) rfl ?_
  refine aj_goto X 4 d_Pla_countAt_29 (by decide) ?_
  refine aj_lv (lv' := [(0, .ref o_Pla), (1, .int x1), (2, .int x2), (3, .int (x3 + 1))]) [1, 2, 3, 0] rfl ?_
  exact ih4 x1 x2 (x3 + 1) hm
def m_Pla_countAt_L4 (v_Pla : T_Pla) : Nat → Int32 → Int32 → Int32 → Option (Int32)
  | 0, _, _, _ => none
  | f + 1, x1, x2, x3 => (if (Int32.ofNat v_Pla.1.1) ≤ x3 then (some x2) else (if ¬ (x3 < 0 ∨ v_Pla.1.1 ≤ (x3).toNatClampNeg) then (if (v_Pla.1.2 (x3).toNatClampNeg) = x1 then (m_Pla_countAt_B26 v_Pla (m_Pla_countAt_L4 v_Pla f) x1 (x2 + 1) x3) else (m_Pla_countAt_B26 v_Pla (m_Pla_countAt_L4 v_Pla f) x1 x2 x3)) else none))
set_option maxRecDepth 100000 in
set_option maxHeartbeats 4000000 in
theorem c_Pla_countAt_L4 {l : Launch} {D : va_G} {cI cL cZ : ClassId} {p : Program} {e : Env} {s : State} {m : MethodId} {args : Array Value} {below : List Frame} {meth : Method} {c : Code} {A : Nat → Prop} (o_Pla a_Pla_0 a_Pla_1 : Nat) (v_Pla : T_Pla) (out : Int32) (X : X_Pla_countAt p s m args c D cI cL cZ A) (N : nk NM0 NF0 s) (hr : meth.sig.returnType = some .int) (hlk : meth.locks = false) : ∀ (nn : Nat), ∀ (x1 : Int32) (x2 : Int32) (x3 : Int32), m_Pla_countAt_L4 v_Pla nn x1 x2 x3 = some out → J_Pla_countAt p l e s m args below meth c D cI cL cZ A (O_Pla_countAt cI cL cZ o_Pla a_Pla_0 a_Pla_1 v_Pla out) 0 0 (w_Pla cI cL cZ o_Pla a_Pla_0 a_Pla_1 v_Pla) 0 0 4 [(0, .ref o_Pla), (1, .int x1), (2, .int x2), (3, .int x3)] [] := by
  intro nn
  induction nn with
  | zero => intro x1 x2 x3 hm; exact absurd hm (by simp [m_Pla_countAt_L4])
  | succ nn ih4 =>
    intro x1 x2 x3 hm
    unfold m_Pla_countAt_L4 at hm
    refine aj_iload_n X d_Pla_countAt_4 3 rfl ?_
    refine aj_aload_n X d_Pla_countAt_5 0 rfl ?_
    refine aj_get X d_Pla_countAt_6 in_Pla 0 rfl rfl 0 (by decide) lf_Pla_9 rfl ?_
    refine aj_alen X d_Pla_countAt_9 1 0 rfl rfl ?_
    refine aj_icmp_ge X 32 d_Pla_countAt_10 (by decide) (fun h => ?_) (fun h => ?_)
    · have hm := ite_t hm h
      refine aj_iload_n X d_Pla_countAt_32 2 rfl ?_
      have ho := Option.some.inj hm
      subst ho
      exact aj_iret X d_Pla_countAt_33 hr hlk [0, 1, 2] (w_Pla cI cL cZ o_Pla a_Pla_0 a_Pla_1 v_Pla) rfl rfl ⟨rfl, rfl⟩
    · have hm := ite_f hm h
      refine aj_aload_n X d_Pla_countAt_13 0 rfl ?_
      refine aj_get X d_Pla_countAt_14 in_Pla 0 rfl rfl 0 (by decide) lf_Pla_9 rfl ?_
      refine aj_iload_n X d_Pla_countAt_17 3 rfl ?_
      obtain ⟨b1, hm⟩ := chk_of hm
      refine aj_iald X d_Pla_countAt_18 1 0 rfl rfl b1 ?_
      refine aj_iload_n X d_Pla_countAt_19 1 rfl ?_
      refine aj_icmp_ne X 26 d_Pla_countAt_20 (by decide) (fun h => ?_) (fun h => ?_)
      · have hm := ite_f hm h
        exact c_Pla_countAt_B26 o_Pla a_Pla_0 a_Pla_1 v_Pla out X N hr hlk (m_Pla_countAt_L4 v_Pla nn) ih4 x1 x2 x3 hm
      · have hm := ite_t hm h
        refine aj_iinc (v := (x2 + 1)) (lv' := [(2, .int (x2 + 1)), (0, .ref o_Pla), (1, .int x1), (3, .int x3)]) X d_Pla_countAt_23 2 rfl rfl (by decide) rfl ?_
        refine aj_lv (lv' := [(0, .ref o_Pla), (1, .int x1), (2, .int (x2 + 1)), (3, .int x3)]) [1, 2, 0, 3] rfl ?_
        exact c_Pla_countAt_B26 o_Pla a_Pla_0 a_Pla_1 v_Pla out X N hr hlk (m_Pla_countAt_L4 v_Pla nn) ih4 x1 (x2 + 1) x3 hm
def m_Pla_countAt (v_Pla : T_Pla) (x1 : Int32) : Option (Int32) := (m_Pla_countAt_L4 v_Pla fu x1 (0 : Int32) (0 : Int32))
set_option maxRecDepth 100000 in
set_option maxHeartbeats 4000000 in
theorem c_Pla_countAt {l : Launch} {D : va_G} {cI cL cZ : ClassId} (o_Pla a_Pla_0 a_Pla_1 : Nat) (v_Pla : T_Pla) (x1 : Int32) (out : Int32) (hm : m_Pla_countAt v_Pla x1 = some out) : ct l y_Pla_countAt (Cond.code y_Pla_countAt b_Pla_countAt 4 (some .int) :: TB) 0 0 D clss (ty3 cI cL cZ) NM0 NF0 [.ref o_Pla, .int x1] (w_Pla cI cL cZ o_Pla a_Pla_0 a_Pla_1 v_Pla) (qI D clss (ty3 cI cL cZ) (O_Pla_countAt cI cL cZ o_Pla a_Pla_0 a_Pla_1 v_Pla out)) 0 0 := by
  refine ct_of (plainFor_of_name (by decide)) (Nat.le_of_ble_eq_true rfl) (fun p e s m args below meth c A X N hr hlk hnm => ?_)
  refine aj_lv (lv' := [(0, .ref o_Pla), (1, .int x1)]) [0, 1] rfl ?_
  unfold m_Pla_countAt at hm
  refine aj_iconst (v := (0 : Int32)) X d_Pla_countAt_0 (by decide) ?_
  refine aj_istore_n (lv' := [(2, .int (0 : Int32)), (0, .ref o_Pla), (1, .int x1)]) X d_Pla_countAt_1 rfl (by decide) rfl ?_
  refine aj_iconst (v := (0 : Int32)) X d_Pla_countAt_2 (by decide) ?_
  refine aj_istore_n (lv' := [(3, .int (0 : Int32)), (2, .int (0 : Int32)), (0, .ref o_Pla), (1, .int x1)]) X d_Pla_countAt_3 rfl (by decide) rfl ?_
  refine aj_lv (lv' := [(0, .ref o_Pla), (1, .int x1), (2, .int (0 : Int32)), (3, .int (0 : Int32))]) [2, 3, 1, 0] rfl ?_
  exact c_Pla_countAt_L4 o_Pla a_Pla_0 a_Pla_1 v_Pla out X N hr hlk fu x1 (0 : Int32) (0 : Int32) hm
abbrev X_Pla_isAt (p : Program) (s : State) (m : MethodId) (args : Array Value) (c : Code) (D : va_G) (cI cL cZ : ClassId) (A : Nat → Prop) : Prop := aj_C p s m args c D clss (ty3 cI cL cZ) A b_Pla_isAt 3 R_Pla TB
abbrev J_Pla_isAt (p : Program) (l : Launch) (e : Env) (s : State) (m : MethodId) (args : Array Value) (below : List Frame) (meth : Method) (c : Code) (D : va_G) (cI cL cZ : ClassId) (A : Nat → Prop) (O : Int32 → va_W → Prop) (mc ms : Nat) (ws : va_W) (kc ks pc : Nat) (lv : List (Nat × Value)) (st : List Value) : Prop := aj p l e { frames := 0, cells := mc, slots := ms, locals := 0 } s m args below meth c (MQ below (qI D clss (ty3 cI cL cZ) O A) args s mc ms A) D clss A 3 ws kc ks pc lv st
def O_Pla_isAt (cI cL cZ : ClassId) (o_Pla a_Pla_0 a_Pla_1 : Nat) (v_Pla : T_Pla) (out : Int32) : Int32 → va_W → Prop := fun r w1 => out = r ∧ w1 = w_Pla cI cL cZ o_Pla a_Pla_0 a_Pla_1 v_Pla
def m_Pla_isAt (v_Pla : T_Pla) (x1 : Int32) (x2 : Int32) : Option (Int32) := (if ¬ (x1 < 0 ∨ v_Pla.1.1 ≤ (x1).toNatClampNeg) then (if (v_Pla.1.2 (x1).toNatClampNeg) = x2 then (some (1 : Int32)) else (some (0 : Int32))) else none)
set_option maxRecDepth 100000 in
set_option maxHeartbeats 4000000 in
theorem c_Pla_isAt {l : Launch} {D : va_G} {cI cL cZ : ClassId} (o_Pla a_Pla_0 a_Pla_1 : Nat) (v_Pla : T_Pla) (x1 : Int32) (x2 : Int32) (out : Int32) (hm : m_Pla_isAt v_Pla x1 x2 = some out) : ct l y_Pla_isAt (Cond.code y_Pla_isAt b_Pla_isAt 3 (some .boolean) :: TB) 0 0 D clss (ty3 cI cL cZ) NM0 NF0 [.ref o_Pla, .int x1, .int x2] (w_Pla cI cL cZ o_Pla a_Pla_0 a_Pla_1 v_Pla) (qI D clss (ty3 cI cL cZ) (O_Pla_isAt cI cL cZ o_Pla a_Pla_0 a_Pla_1 v_Pla out)) 0 0 := by
  refine ct_of (plainFor_of_name (by decide)) (Nat.le_of_ble_eq_true rfl) (fun p e s m args below meth c A X N hr hlk hnm => ?_)
  refine aj_lv (lv' := [(0, .ref o_Pla), (1, .int x1), (2, .int x2)]) [0, 1, 2] rfl ?_
  unfold m_Pla_isAt at hm
  refine aj_aload_n X d_Pla_isAt_0 0 rfl ?_
  refine aj_get X d_Pla_isAt_1 in_Pla 0 rfl rfl 0 (by decide) lf_Pla_9 rfl ?_
  refine aj_iload_n X d_Pla_isAt_4 1 rfl ?_
  obtain ⟨b1, hm⟩ := chk_of hm
  refine aj_iald X d_Pla_isAt_5 1 0 rfl rfl b1 ?_
  refine aj_iload_n X d_Pla_isAt_6 2 rfl ?_
  refine aj_icmp_ne X 14 d_Pla_isAt_7 (by decide) (fun h => ?_) (fun h => ?_)
  · have hm := ite_f hm h
    refine aj_iconst (v := (0 : Int32)) X d_Pla_isAt_14 (by decide) ?_
    have ho := Option.some.inj hm
    subst ho
    exact aj_zret X d_Pla_isAt_15 hr hlk (by decide) [0, 1, 2] (w_Pla cI cL cZ o_Pla a_Pla_0 a_Pla_1 v_Pla) rfl rfl ⟨rfl, rfl⟩
  · have hm := ite_t hm h
    refine aj_iconst (v := (1 : Int32)) X d_Pla_isAt_10 (by decide) ?_
    refine aj_goto X 15 d_Pla_isAt_11 (by decide) ?_
    have ho := Option.some.inj hm
    subst ho
    exact aj_zret X d_Pla_isAt_15 hr hlk (by decide) [0, 1, 2] (w_Pla cI cL cZ o_Pla a_Pla_0 a_Pla_1 v_Pla) rfl rfl ⟨rfl, rfl⟩
abbrev X_Pla_tell (p : Program) (s : State) (m : MethodId) (args : Array Value) (c : Code) (D : va_G) (cI cL cZ : ClassId) (A : Nat → Prop) : Prop := aj_C p s m args c D clss (ty3 cI cL cZ) A b_Pla_tell 4 R_Pla TB
abbrev J_Pla_tell (p : Program) (l : Launch) (e : Env) (s : State) (m : MethodId) (args : Array Value) (below : List Frame) (meth : Method) (c : Code) (D : va_G) (cI cL cZ : ClassId) (A : Nat → Prop) (O : va_W → Prop) (mc ms : Nat) (ws : va_W) (kc ks pc : Nat) (lv : List (Nat × Value)) (st : List Value) : Prop := aj p l e { frames := 0, cells := mc, slots := ms, locals := 0 } s m args below meth c (MQ below (qV D clss (ty3 cI cL cZ) O A) args s mc ms A) D clss A 4 ws kc ks pc lv st
def O_Pla_tell (cI cL cZ : ClassId) (o_Pla a_Pla_0 a_Pla_1 : Nat) (out : T_Pla) : va_W → Prop := fun w1 => w1 = w_Pla cI cL cZ o_Pla a_Pla_0 a_Pla_1 out
def m_Pla_tell (v_Pla : T_Pla) (x1 : Int32) (x2 : Int32) (x3 : Int32) : Option (T_Pla) := (if ¬ (x1 < 0 ∨ v_Pla.1.1 ≤ (x1).toNatClampNeg) then (if ¬ (x1 < 0 ∨ v_Pla.2.1 ≤ (x1).toNatClampNeg) then (some ((v_Pla.1.1, (upd v_Pla.1.2 (x1).toNatClampNeg x2)), (v_Pla.2.1, (upd v_Pla.2.2 (x1).toNatClampNeg x3)))) else none) else none)
set_option maxRecDepth 100000 in
set_option maxHeartbeats 4000000 in
theorem c_Pla_tell {l : Launch} {D : va_G} {cI cL cZ : ClassId} (o_Pla a_Pla_0 a_Pla_1 : Nat) (v_Pla : T_Pla) (x1 : Int32) (x2 : Int32) (x3 : Int32) (out : T_Pla) (hm : m_Pla_tell v_Pla x1 x2 x3 = some out) : ct l y_Pla_tell (Cond.code y_Pla_tell b_Pla_tell 4 none :: TB) 0 0 D clss (ty3 cI cL cZ) NM0 NF0 [.ref o_Pla, .int x1, .int x2, .int x3] (w_Pla cI cL cZ o_Pla a_Pla_0 a_Pla_1 v_Pla) (qV D clss (ty3 cI cL cZ) (O_Pla_tell cI cL cZ o_Pla a_Pla_0 a_Pla_1 out)) 0 0 := by
  refine ct_of (plainFor_of_name (by decide)) (Nat.le_of_ble_eq_true rfl) (fun p e s m args below meth c A X N hr hlk hnm => ?_)
  refine aj_lv (lv' := [(0, .ref o_Pla), (1, .int x1), (2, .int x2), (3, .int x3)]) [0, 1, 2, 3] rfl ?_
  unfold m_Pla_tell at hm
  refine aj_aload_n X d_Pla_tell_0 0 rfl ?_
  refine aj_get X d_Pla_tell_1 in_Pla 0 rfl rfl 0 (by decide) lf_Pla_9 rfl ?_
  refine aj_iload_n X d_Pla_tell_4 1 rfl ?_
  refine aj_iload_n X d_Pla_tell_5 2 rfl ?_
  obtain ⟨b1, hm⟩ := chk_of hm
  refine aj_iast (ws' := w_Pla cI cL cZ o_Pla a_Pla_0 a_Pla_1 ((v_Pla.1.1, (upd v_Pla.1.2 (x1).toNatClampNeg x2)), v_Pla.2)) X d_Pla_tell_6 1 0 rfl rfl b1 rfl ?_
  refine aj_aload_n X d_Pla_tell_7 0 rfl ?_
  refine aj_get X d_Pla_tell_8 in_Pla 0 rfl rfl 1 (by decide) lf_Pla_15 rfl ?_
  refine aj_iload_n X d_Pla_tell_11 1 rfl ?_
  refine aj_iload_n X d_Pla_tell_12 3 rfl ?_
  obtain ⟨b2, hm⟩ := chk_of hm
  refine aj_iast (ws' := w_Pla cI cL cZ o_Pla a_Pla_0 a_Pla_1 ((v_Pla.1.1, (upd v_Pla.1.2 (x1).toNatClampNeg x2)), (v_Pla.2.1, (upd v_Pla.2.2 (x1).toNatClampNeg x3)))) X d_Pla_tell_13 2 0 rfl rfl b2 rfl ?_
  have ho := Option.some.inj hm
  subst ho
  exact aj_vret X d_Pla_tell_14 hr hlk [0, 1, 2] (w_Pla cI cL cZ o_Pla a_Pla_0 a_Pla_1 ((v_Pla.1.1, (upd v_Pla.1.2 (x1).toNatClampNeg x2)), (v_Pla.2.1, (upd v_Pla.2.2 (x1).toNatClampNeg x3)))) rfl rfl rfl
abbrev X_CS_kernel (p : Program) (s : State) (m : MethodId) (args : Array Value) (c : Code) (D : va_G) (cI cL cZ : ClassId) (A : Nat → Prop) : Prop := aj_C p s m args c D clss (ty3 cI cL cZ) A b_CS_kernel 6 R_CS TB
abbrev J_CS_kernel (p : Program) (l : Launch) (e : Env) (s : State) (m : MethodId) (args : Array Value) (below : List Frame) (meth : Method) (c : Code) (D : va_G) (cI cL cZ : ClassId) (A : Nat → Prop) (O : Int32 → va_W → Prop) (mc ms : Nat) (ws : va_W) (kc ks pc : Nat) (lv : List (Nat × Value)) (st : List Value) : Prop := aj p l e { frames := 4, cells := mc, slots := ms, locals := 105 } s m args below meth c (MQ below (qI D clss (ty3 cI cL cZ) O A) args s mc ms A) D clss A 6 ws kc ks pc lv st
def O_CS_kernel (cI cL cZ : ClassId) (o_CS o_Sto o_Pla o_Ass o_Tra o_Sea a_Pla_0 a_Pla_1 a_Sto_3 : Nat) (out : T_CS × T_Pla × T_Sto × Int32) : Int32 → va_W → Prop := fun r w1 => out.2.2.2 = r ∧ ∃ (a_Sto_0 a_Sto_1 a_Sto_2 a_Sto_4 : Nat), w1 = w_CS cI cL cZ o_CS o_Sto o_Pla o_Ass o_Tra o_Sea out.1 ++ w_Pla cI cL cZ o_Pla a_Pla_0 a_Pla_1 out.2.1 ++ w_Sto cI cL cZ o_Sto a_Sto_0 a_Sto_1 a_Sto_2 a_Sto_3 a_Sto_4 out.2.2.1
def m_CS_kernel_B135 (again80 : T_CS → T_Pla → T_Sto → Int32 → Int32 → Int32 → Int32 → Option ((T_CS × T_Pla × T_Sto × Int32) × Nat × Nat)) (v_CS : T_CS) (v_Pla : T_Pla) (v_Sto : T_Sto) (x1 : Int32) (x2 : Int32) (x3 : Int32) (x5 : Int32) : Option ((T_CS × T_Pla × T_Sto × Int32) × Nat × Nat) := (again80 v_CS v_Pla v_Sto x1 x2 x3 (x5 + 1))
set_option maxRecDepth 100000 in
set_option maxHeartbeats 4000000 in
theorem c_CS_kernel_B135 {l : Launch} {D : va_G} {cI cL cZ : ClassId} {p : Program} {e : Env} {s : State} {m : MethodId} {args : Array Value} {below : List Frame} {meth : Method} {c : Code} {A : Nat → Prop} (o_CS o_Sto o_Pla o_Ass o_Tra o_Sea a_Pla_0 a_Pla_1 a_Sto_3 : Nat) (out : T_CS × T_Pla × T_Sto × Int32) (mc ms : Nat) (X : X_CS_kernel p s m args c D cI cL cZ A) (N : nk NM0 NF0 s) (hr : meth.sig.returnType = some .boolean) (hlk : meth.locks = false) (again80 : T_CS → T_Pla → T_Sto → Int32 → Int32 → Int32 → Int32 → Option ((T_CS × T_Pla × T_Sto × Int32) × Nat × Nat)) (ih80 : ∀ (a_Sto_0 a_Sto_1 a_Sto_2 a_Sto_4 : Nat) (v_CS : T_CS) (v_Pla : T_Pla) (v_Sto : T_Sto) (x1 : Int32) (x2 : Int32) (x3 : Int32) (x5 : Int32) (kc ks dc ds : Nat), again80 v_CS v_Pla v_Sto x1 x2 x3 x5 = some (out, dc, ds) → kc + dc = mc → ks + ds = ms → J_CS_kernel p l e s m args below meth c D cI cL cZ A (O_CS_kernel cI cL cZ o_CS o_Sto o_Pla o_Ass o_Tra o_Sea a_Pla_0 a_Pla_1 a_Sto_3 out) mc ms (w_CS cI cL cZ o_CS o_Sto o_Pla o_Ass o_Tra o_Sea v_CS ++ w_Pla cI cL cZ o_Pla a_Pla_0 a_Pla_1 v_Pla ++ w_Sto cI cL cZ o_Sto a_Sto_0 a_Sto_1 a_Sto_2 a_Sto_3 a_Sto_4 v_Sto) kc ks 80 [(0, .ref o_CS), (1, .int x1), (2, .int x2), (3, .int x3), (5, .int x5)] []) : ∀ (a_Sto_0 a_Sto_1 a_Sto_2 a_Sto_4 : Nat) (v_CS : T_CS) (v_Pla : T_Pla) (v_Sto : T_Sto) (x1 : Int32) (x2 : Int32) (x3 : Int32) (x5 : Int32) (kc ks dc ds : Nat), m_CS_kernel_B135 again80 v_CS v_Pla v_Sto x1 x2 x3 x5 = some (out, dc, ds) → kc + dc = mc → ks + ds = ms → J_CS_kernel p l e s m args below meth c D cI cL cZ A (O_CS_kernel cI cL cZ o_CS o_Sto o_Pla o_Ass o_Tra o_Sea a_Pla_0 a_Pla_1 a_Sto_3 out) mc ms (w_CS cI cL cZ o_CS o_Sto o_Pla o_Ass o_Tra o_Sea v_CS ++ w_Pla cI cL cZ o_Pla a_Pla_0 a_Pla_1 v_Pla ++ w_Sto cI cL cZ o_Sto a_Sto_0 a_Sto_1 a_Sto_2 a_Sto_3 a_Sto_4 v_Sto) kc ks 135 [(0, .ref o_CS), (1, .int x1), (2, .int x2), (3, .int x3), (5, .int x5)] [] := by
  intro a_Sto_0 a_Sto_1 a_Sto_2 a_Sto_4 v_CS v_Pla v_Sto x1 x2 x3 x5 kc ks dc ds hm hkc hks
  unfold m_CS_kernel_B135 at hm
  refine aj_iinc (v := (x5 + 1)) (lv' := [(5, .int (x5 + 1)), (0, .ref o_CS), (1, .int x1), (2, .int x2), (3, .int x3)]) X d_CS_kernel_135 4 rfl rfl (by decide) rfl ?_
  refine aj_goto X 80 d_CS_kernel_138 (by decide) ?_
  refine aj_lv (lv' := [(0, .ref o_CS), (1, .int x1), (2, .int x2), (3, .int x3), (5, .int (x5 + 1))]) [1, 2, 3, 4, 0] rfl ?_
  exact ih80 a_Sto_0 a_Sto_1 a_Sto_2 a_Sto_4 v_CS v_Pla v_Sto x1 x2 x3 (x5 + 1) kc ks _ _ hm hkc hks
def m_CS_kernel_L80 : Nat → T_CS → T_Pla → T_Sto → Int32 → Int32 → Int32 → Int32 → Option ((T_CS × T_Pla × T_Sto × Int32) × Nat × Nat)
  | 0, _, _, _, _, _, _, _ => none
  | f + 1, v_CS, v_Pla, v_Sto, x1, x2, x3, x5 => (if v_CS.1 ≤ x5 then ((m_Pla_tell v_Pla x1 x2 x3).bind fun r36 => (some (((v_CS.1, v_CS.2.1, (1 : Int32)), r36, v_Sto, (1 : Int32)), 0, 0))) else ((m_Pla_isAt v_Pla x5 x2).bind fun r38 => (if r38 = 0 then (m_CS_kernel_B135 (m_CS_kernel_L80 f) v_CS v_Pla v_Sto x1 x2 x3 x5) else ((m_Sto_open v_Sto).bind fun r40 => addc r40.2.1 r40.2.2 ((m_CS_literalOf x5 (0 : Int32)).bind fun r43 => ((m_Sto_append r40.1.1 r43).bind fun r45 => addc r45.2.1 r45.2.2 ((m_CS_literalOf x1 (0 : Int32)).bind fun r50 => ((m_Sto_append r45.1 r50).bind fun r52 => addc r52.2.1 r52.2.2 (m_CS_kernel_B135 (m_CS_kernel_L80 f) v_CS v_Pla r52.1 x1 x2 x3 x5)))))))))
set_option maxRecDepth 100000 in
set_option maxHeartbeats 4000000 in
theorem c_CS_kernel_L80 {l : Launch} {D : va_G} {cI cL cZ : ClassId} {p : Program} {e : Env} {s : State} {m : MethodId} {args : Array Value} {below : List Frame} {meth : Method} {c : Code} {A : Nat → Prop} (o_CS o_Sto o_Pla o_Ass o_Tra o_Sea a_Pla_0 a_Pla_1 a_Sto_3 : Nat) (out : T_CS × T_Pla × T_Sto × Int32) (mc ms : Nat) (X : X_CS_kernel p s m args c D cI cL cZ A) (N : nk NM0 NF0 s) (hr : meth.sig.returnType = some .boolean) (hlk : meth.locks = false) : ∀ (nn : Nat), ∀ (a_Sto_0 a_Sto_1 a_Sto_2 a_Sto_4 : Nat) (v_CS : T_CS) (v_Pla : T_Pla) (v_Sto : T_Sto) (x1 : Int32) (x2 : Int32) (x3 : Int32) (x5 : Int32) (kc ks dc ds : Nat), m_CS_kernel_L80 nn v_CS v_Pla v_Sto x1 x2 x3 x5 = some (out, dc, ds) → kc + dc = mc → ks + ds = ms → J_CS_kernel p l e s m args below meth c D cI cL cZ A (O_CS_kernel cI cL cZ o_CS o_Sto o_Pla o_Ass o_Tra o_Sea a_Pla_0 a_Pla_1 a_Sto_3 out) mc ms (w_CS cI cL cZ o_CS o_Sto o_Pla o_Ass o_Tra o_Sea v_CS ++ w_Pla cI cL cZ o_Pla a_Pla_0 a_Pla_1 v_Pla ++ w_Sto cI cL cZ o_Sto a_Sto_0 a_Sto_1 a_Sto_2 a_Sto_3 a_Sto_4 v_Sto) kc ks 80 [(0, .ref o_CS), (1, .int x1), (2, .int x2), (3, .int x3), (5, .int x5)] [] := by
  intro nn
  induction nn with
  | zero => intro a_Sto_0 a_Sto_1 a_Sto_2 a_Sto_4 v_CS v_Pla v_Sto x1 x2 x3 x5 kc ks dc ds hm hkc hks; exact absurd hm (by simp [m_CS_kernel_L80])
  | succ nn ih80 =>
    intro a_Sto_0 a_Sto_1 a_Sto_2 a_Sto_4 v_CS v_Pla v_Sto x1 x2 x3 x5 kc ks dc ds hm hkc hks
    unfold m_CS_kernel_L80 at hm
    refine aj_iload X d_CS_kernel_80 4 rfl ?_
    refine aj_aload_n X d_CS_kernel_82 0 rfl ?_
    refine aj_get X d_CS_kernel_83 in_CS 0 rfl rfl 0 (by decide) lf_CS_18 rfl ?_
    refine aj_icmp_ge X 141 d_CS_kernel_86 (by decide) (fun h => ?_) (fun h => ?_)
    · have hm := ite_t hm h
      refine aj_aload_n X d_CS_kernel_141 0 rfl ?_
      refine aj_get X d_CS_kernel_142 in_CS 0 rfl rfl 2 (by decide) lf_CS_34 rfl ?_
      refine aj_iload_n X d_CS_kernel_145 1 rfl ?_
      refine aj_iload_n X d_CS_kernel_146 2 rfl ?_
      refine aj_iload_n X d_CS_kernel_147 3 rfl ?_
      obtain ⟨r36, h37, hm⟩ := bnd_of hm
      refine aj_callV (wr := [(o_CS, .inr (6, [.int v_CS.1, .ref o_Sto, .ref o_Pla, .ref o_Ass, .ref o_Tra, .ref o_Sea, .int v_CS.2.1, .int v_CS.2.2])), (o_Sto, .inr (3, [.int v_Sto.1, .int v_Sto.2.1, .ref a_Sto_0, .ref a_Sto_1, .ref a_Sto_2, .ref a_Sto_3, .ref a_Sto_4])), (a_Sto_0, .inl (cI, v_Sto.2.2.1.1, .inl v_Sto.2.2.1.2)), (a_Sto_1, .inl (cI, v_Sto.2.2.2.1.1, .inl v_Sto.2.2.2.1.2)), (a_Sto_2, .inl (cI, v_Sto.2.2.2.2.1.1, .inl v_Sto.2.2.2.2.1.2)), (a_Sto_3, .inl (cI, v_Sto.2.2.2.2.2.1.1, .inl v_Sto.2.2.2.2.2.1.2)), (a_Sto_4, .inl (cI, v_Sto.2.2.2.2.2.2.1, .inl v_Sto.2.2.2.2.2.2.2))]) X (aj_rV (As := [.int x1, .int x2, .int x3]) (rest := []) X N gTB (c_Pla_tell (D := D) (cI := cI) (cL := cL) (cZ := cZ) o_Pla a_Pla_0 a_Pla_1 v_Pla x1 x2 x3 r36 h37) d_CS_kernel_148 lk_Pla_tell lw_CS_118 lh_Pla_tell ⟨(Nat.le_of_ble_eq_true rfl), (Nat.le_of_ble_eq_true rfl)⟩ [1, 2, 3] rfl rfl 0 rfl rfl rfl rfl (Nat.le_of_ble_eq_true rfl) ⟨kc_le1 hkc, kc_le1 hks⟩) [1, 2, 3] [0, 4, 5, 6, 7, 8, 9] rfl rfl rfl (by decide) (fun w1 hO => ?_)
      have hkc := kc_zero hkc
      have hks := kc_zero hks
      obtain rfl := hO
      refine aj_perm (ws' := w_CS cI cL cZ o_CS o_Sto o_Pla o_Ass o_Tra o_Sea v_CS ++ w_Pla cI cL cZ o_Pla a_Pla_0 a_Pla_1 r36 ++ w_Sto cI cL cZ o_Sto a_Sto_0 a_Sto_1 a_Sto_2 a_Sto_3 a_Sto_4 v_Sto) [0, 7, 8, 9, 1, 2, 3, 4, 5, 6] rfl rfl ?_
      refine aj_aload_n X d_CS_kernel_151 0 rfl ?_
      refine aj_iconst (v := (1 : Int32)) X d_CS_kernel_152 (by decide) ?_
      refine aj_put (ws' := w_CS cI cL cZ o_CS o_Sto o_Pla o_Ass o_Tra o_Sea (v_CS.1, v_CS.2.1, (1 : Int32)) ++ w_Pla cI cL cZ o_Pla a_Pla_0 a_Pla_1 r36 ++ w_Sto cI cL cZ o_Sto a_Sto_0 a_Sto_1 a_Sto_2 a_Sto_3 a_Sto_4 v_Sto) X d_CS_kernel_153 in_CS ty_CS tyok_CS nmx_CS 0 rfl rfl 7 (by decide) lf_CS_71 rfl rfl rfl (Nat.le_of_ble_eq_true rfl) rfl ?_
      refine aj_iconst (v := (1 : Int32)) X d_CS_kernel_156 (by decide) ?_
      obtain ⟨ho, e1, e2⟩ := res_of hm
      subst ho
      obtain rfl := kc_end hkc e1
      obtain rfl := kc_end hks e2
      exact aj_zret X d_CS_kernel_157 hr hlk (by decide) [0, 1, 2, 3, 4, 5, 6, 7, 8, 9] (w_CS cI cL cZ o_CS o_Sto o_Pla o_Ass o_Tra o_Sea (v_CS.1, v_CS.2.1, (1 : Int32)) ++ w_Pla cI cL cZ o_Pla a_Pla_0 a_Pla_1 r36 ++ w_Sto cI cL cZ o_Sto a_Sto_0 a_Sto_1 a_Sto_2 a_Sto_3 a_Sto_4 v_Sto) rfl rfl ⟨rfl, a_Sto_0, a_Sto_1, a_Sto_2, a_Sto_4, rfl⟩
    · have hm := ite_f hm h
      refine aj_aload_n X d_CS_kernel_89 0 rfl ?_
      refine aj_get X d_CS_kernel_90 in_CS 0 rfl rfl 2 (by decide) lf_CS_34 rfl ?_
      refine aj_iload X d_CS_kernel_93 4 rfl ?_
      refine aj_iload_n X d_CS_kernel_95 2 rfl ?_
      obtain ⟨r38, h39, hm⟩ := bnd_of hm
      refine aj_callI (wr := [(o_CS, .inr (6, [.int v_CS.1, .ref o_Sto, .ref o_Pla, .ref o_Ass, .ref o_Tra, .ref o_Sea, .int v_CS.2.1, .int v_CS.2.2])), (o_Sto, .inr (3, [.int v_Sto.1, .int v_Sto.2.1, .ref a_Sto_0, .ref a_Sto_1, .ref a_Sto_2, .ref a_Sto_3, .ref a_Sto_4])), (a_Sto_0, .inl (cI, v_Sto.2.2.1.1, .inl v_Sto.2.2.1.2)), (a_Sto_1, .inl (cI, v_Sto.2.2.2.1.1, .inl v_Sto.2.2.2.1.2)), (a_Sto_2, .inl (cI, v_Sto.2.2.2.2.1.1, .inl v_Sto.2.2.2.2.1.2)), (a_Sto_3, .inl (cI, v_Sto.2.2.2.2.2.1.1, .inl v_Sto.2.2.2.2.2.1.2)), (a_Sto_4, .inl (cI, v_Sto.2.2.2.2.2.2.1, .inl v_Sto.2.2.2.2.2.2.2))]) X (aj_rV (As := [.int x5, .int x2]) (rest := []) X N gTB (c_Pla_isAt (D := D) (cI := cI) (cL := cL) (cZ := cZ) o_Pla a_Pla_0 a_Pla_1 v_Pla x5 x2 r38 h39) d_CS_kernel_96 lk_Pla_isAt lw_CS_115 lh_Pla_isAt ⟨(Nat.le_of_ble_eq_true rfl), (Nat.le_of_ble_eq_true rfl)⟩ [1, 2, 3] rfl rfl 0 rfl rfl rfl rfl (Nat.le_of_ble_eq_true rfl) ⟨kc_le1 hkc, kc_le1 hks⟩) [1, 2, 3] [0, 4, 5, 6, 7, 8, 9] rfl rfl rfl (by decide) (fun rr w1 hO => ?_)
      have hkc := kc_zero hkc
      have hks := kc_zero hks
      obtain ⟨rfl, rfl⟩ := hO
      refine aj_perm (ws' := w_CS cI cL cZ o_CS o_Sto o_Pla o_Ass o_Tra o_Sea v_CS ++ w_Pla cI cL cZ o_Pla a_Pla_0 a_Pla_1 v_Pla ++ w_Sto cI cL cZ o_Sto a_Sto_0 a_Sto_1 a_Sto_2 a_Sto_3 a_Sto_4 v_Sto) [0, 7, 8, 9, 1, 2, 3, 4, 5, 6] rfl rfl ?_
      refine aj_if_eq X 135 d_CS_kernel_99 (by decide) (fun h => ?_) (fun h => ?_)
      · have hm := ite_t hm h
        exact c_CS_kernel_B135 o_CS o_Sto o_Pla o_Ass o_Tra o_Sea a_Pla_0 a_Pla_1 a_Sto_3 out mc ms X N hr hlk (m_CS_kernel_L80 nn) ih80 a_Sto_0 a_Sto_1 a_Sto_2 a_Sto_4 v_CS v_Pla v_Sto x1 x2 x3 x5 (kc + 0) (ks + 0) _ _ hm hkc hks
      · have hm := ite_f hm h
        refine aj_aload_n X d_CS_kernel_102 0 rfl ?_
        refine aj_get X d_CS_kernel_103 in_CS 0 rfl rfl 1 (by decide) lf_CS_27 rfl ?_
        obtain ⟨r40, h41, hm⟩ := bnd_of hm
        obtain ⟨dc, ds, hm, e1, e2⟩ := addc_of hm
        have hkc := kc_step hkc e1
        have hks := kc_step hks e2
        refine aj_callI (wr := [(o_CS, .inr (6, [.int v_CS.1, .ref o_Sto, .ref o_Pla, .ref o_Ass, .ref o_Tra, .ref o_Sea, .int v_CS.2.1, .int v_CS.2.2])), (o_Pla, .inr (1, [.ref a_Pla_0, .ref a_Pla_1])), (a_Pla_0, .inl (cI, v_Pla.1.1, .inl v_Pla.1.2)), (a_Pla_1, .inl (cI, v_Pla.2.1, .inl v_Pla.2.2))]) X (aj_rV (As := []) (rest := []) X N gTB (c_Sto_open (D := D) (cI := cI) (cL := cL) (cZ := cZ) o_Sto a_Sto_0 a_Sto_1 a_Sto_2 a_Sto_3 a_Sto_4 v_Sto r40.1 r40.2.1 r40.2.2 h41) d_CS_kernel_106 lk_Sto_open lw_CS_78 lh_Sto_open ⟨(Nat.le_of_ble_eq_true rfl), (Nat.le_of_ble_eq_true rfl)⟩ [4, 5, 6, 7, 8, 9] rfl rfl 0 rfl rfl rfl rfl (Nat.le_of_ble_eq_true rfl) ⟨kc_le hkc, kc_le hks⟩) [4, 5, 6, 7, 8, 9] [0, 1, 2, 3] rfl rfl rfl (by decide) (fun rr w1 hO => ?_)
        obtain ⟨rfl, a42, rfl⟩ := hO
        refine aj_perm (ws' := w_CS cI cL cZ o_CS o_Sto o_Pla o_Ass o_Tra o_Sea v_CS ++ w_Pla cI cL cZ o_Pla a_Pla_0 a_Pla_1 v_Pla ++ w_Sto cI cL cZ o_Sto a_Sto_0 a_Sto_1 a_Sto_2 a_Sto_3 a42 r40.1.1) [0, 1, 2, 3, 4, 5, 6, 7, 8, 9] rfl rfl ?_
        refine aj_pop X d_CS_kernel_109 rfl ?_
        refine aj_aload_n X d_CS_kernel_110 0 rfl ?_
        refine aj_get X d_CS_kernel_111 in_CS 0 rfl rfl 1 (by decide) lf_CS_27 rfl ?_
        refine aj_iload X d_CS_kernel_114 4 rfl ?_
        refine aj_iconst (v := (0 : Int32)) X d_CS_kernel_116 (by decide) ?_
        obtain ⟨r43, h44, hm⟩ := bnd_of hm
        refine aj_callI (wr := [(o_CS, .inr (6, [.int v_CS.1, .ref o_Sto, .ref o_Pla, .ref o_Ass, .ref o_Tra, .ref o_Sea, .int v_CS.2.1, .int v_CS.2.2])), (o_Pla, .inr (1, [.ref a_Pla_0, .ref a_Pla_1])), (a_Pla_0, .inl (cI, v_Pla.1.1, .inl v_Pla.1.2)), (a_Pla_1, .inl (cI, v_Pla.2.1, .inl v_Pla.2.2)), (o_Sto, .inr (3, [.int r40.1.1.1, .int r40.1.1.2.1, .ref a_Sto_0, .ref a_Sto_1, .ref a_Sto_2, .ref a_Sto_3, .ref a42])), (a_Sto_0, .inl (cI, r40.1.1.2.2.1.1, .inl r40.1.1.2.2.1.2)), (a_Sto_1, .inl (cI, r40.1.1.2.2.2.1.1, .inl r40.1.1.2.2.2.1.2)), (a_Sto_2, .inl (cI, r40.1.1.2.2.2.2.1.1, .inl r40.1.1.2.2.2.2.1.2)), (a_Sto_3, .inl (cI, r40.1.1.2.2.2.2.2.1.1, .inl r40.1.1.2.2.2.2.2.1.2)), (a42, .inl (cI, r40.1.1.2.2.2.2.2.2.1, .inl r40.1.1.2.2.2.2.2.2.2))]) X (aj_rS (As := [.int x5, .int (0 : Int32)]) (rest := [.ref o_Sto]) X N gTB (c_CS_literalOf (D := D) (cI := cI) (cL := cL) (cZ := cZ) x5 (0 : Int32) r43 h44) d_CS_kernel_117 lk_CS_literalOf lw_CS_89 lh_CS_literalOf ⟨(Nat.le_of_ble_eq_true rfl), (Nat.le_of_ble_eq_true rfl)⟩ [] rfl rfl rfl (Nat.le_of_ble_eq_true rfl) ⟨kc_le1 hkc, kc_le1 hks⟩) [] [0, 1, 2, 3, 4, 5, 6, 7, 8, 9] rfl rfl rfl (by decide) (fun rr w1 hO => ?_)
        have hkc := kc_zero hkc
        have hks := kc_zero hks
        obtain ⟨rfl, rfl⟩ := hO
        refine aj_perm (ws' := w_CS cI cL cZ o_CS o_Sto o_Pla o_Ass o_Tra o_Sea v_CS ++ w_Pla cI cL cZ o_Pla a_Pla_0 a_Pla_1 v_Pla ++ w_Sto cI cL cZ o_Sto a_Sto_0 a_Sto_1 a_Sto_2 a_Sto_3 a42 r40.1.1) [0, 1, 2, 3, 4, 5, 6, 7, 8, 9] rfl rfl ?_
        obtain ⟨r45, h46, hm⟩ := bnd_of hm
        obtain ⟨dc, ds, hm, e1, e2⟩ := addc_of hm
        have hkc := kc_step hkc e1
        have hks := kc_step hks e2
        refine aj_callV (wr := [(o_CS, .inr (6, [.int v_CS.1, .ref o_Sto, .ref o_Pla, .ref o_Ass, .ref o_Tra, .ref o_Sea, .int v_CS.2.1, .int v_CS.2.2])), (o_Pla, .inr (1, [.ref a_Pla_0, .ref a_Pla_1])), (a_Pla_0, .inl (cI, v_Pla.1.1, .inl v_Pla.1.2)), (a_Pla_1, .inl (cI, v_Pla.2.1, .inl v_Pla.2.2))]) X (aj_rV (As := [.int r43]) (rest := []) X N gTB (c_Sto_append (D := D) (cI := cI) (cL := cL) (cZ := cZ) o_Sto a_Sto_3 a42 a_Sto_0 a_Sto_1 a_Sto_2 r40.1.1 r43 r45.1 r45.2.1 r45.2.2 h46) d_CS_kernel_120 lk_Sto_append lw_CS_100 lh_Sto_append ⟨(Nat.le_of_ble_eq_true rfl), (Nat.le_of_ble_eq_true rfl)⟩ [4, 5, 6, 7, 8, 9] rfl rfl 0 rfl rfl rfl rfl (Nat.le_of_ble_eq_true rfl) ⟨kc_le hkc, kc_le hks⟩) [4, 5, 6, 7, 8, 9] [0, 1, 2, 3] rfl rfl rfl (by decide) (fun w1 hO => ?_)
        obtain ⟨a47, a48, a49, rfl⟩ := hO
        refine aj_perm (ws' := w_CS cI cL cZ o_CS o_Sto o_Pla o_Ass o_Tra o_Sea v_CS ++ w_Pla cI cL cZ o_Pla a_Pla_0 a_Pla_1 v_Pla ++ w_Sto cI cL cZ o_Sto a47 a48 a49 a_Sto_3 a42 r45.1) [0, 1, 2, 3, 4, 5, 6, 7, 8, 9] rfl rfl ?_
        refine aj_aload_n X d_CS_kernel_123 0 rfl ?_
        refine aj_get X d_CS_kernel_124 in_CS 0 rfl rfl 1 (by decide) lf_CS_27 rfl ?_
        refine aj_iload_n X d_CS_kernel_127 1 rfl ?_
        refine aj_iconst (v := (0 : Int32)) X d_CS_kernel_128 (by decide) ?_
        obtain ⟨r50, h51, hm⟩ := bnd_of hm
        refine aj_callI (wr := [(o_CS, .inr (6, [.int v_CS.1, .ref o_Sto, .ref o_Pla, .ref o_Ass, .ref o_Tra, .ref o_Sea, .int v_CS.2.1, .int v_CS.2.2])), (o_Pla, .inr (1, [.ref a_Pla_0, .ref a_Pla_1])), (a_Pla_0, .inl (cI, v_Pla.1.1, .inl v_Pla.1.2)), (a_Pla_1, .inl (cI, v_Pla.2.1, .inl v_Pla.2.2)), (o_Sto, .inr (3, [.int r45.1.1, .int r45.1.2.1, .ref a47, .ref a48, .ref a49, .ref a_Sto_3, .ref a42])), (a47, .inl (cI, r45.1.2.2.1.1, .inl r45.1.2.2.1.2)), (a48, .inl (cI, r45.1.2.2.2.1.1, .inl r45.1.2.2.2.1.2)), (a49, .inl (cI, r45.1.2.2.2.2.1.1, .inl r45.1.2.2.2.2.1.2)), (a_Sto_3, .inl (cI, r45.1.2.2.2.2.2.1.1, .inl r45.1.2.2.2.2.2.1.2)), (a42, .inl (cI, r45.1.2.2.2.2.2.2.1, .inl r45.1.2.2.2.2.2.2.2))]) X (aj_rS (As := [.int x1, .int (0 : Int32)]) (rest := [.ref o_Sto]) X N gTB (c_CS_literalOf (D := D) (cI := cI) (cL := cL) (cZ := cZ) x1 (0 : Int32) r50 h51) d_CS_kernel_129 lk_CS_literalOf lw_CS_89 lh_CS_literalOf ⟨(Nat.le_of_ble_eq_true rfl), (Nat.le_of_ble_eq_true rfl)⟩ [] rfl rfl rfl (Nat.le_of_ble_eq_true rfl) ⟨kc_le1 hkc, kc_le1 hks⟩) [] [0, 1, 2, 3, 4, 5, 6, 7, 8, 9] rfl rfl rfl (by decide) (fun rr w1 hO => ?_)
        have hkc := kc_zero hkc
        have hks := kc_zero hks
        obtain ⟨rfl, rfl⟩ := hO
        refine aj_perm (ws' := w_CS cI cL cZ o_CS o_Sto o_Pla o_Ass o_Tra o_Sea v_CS ++ w_Pla cI cL cZ o_Pla a_Pla_0 a_Pla_1 v_Pla ++ w_Sto cI cL cZ o_Sto a47 a48 a49 a_Sto_3 a42 r45.1) [0, 1, 2, 3, 4, 5, 6, 7, 8, 9] rfl rfl ?_
        obtain ⟨r52, h53, hm⟩ := bnd_of hm
        obtain ⟨dc, ds, hm, e1, e2⟩ := addc_of hm
        have hkc := kc_step hkc e1
        have hks := kc_step hks e2
        refine aj_callV (wr := [(o_CS, .inr (6, [.int v_CS.1, .ref o_Sto, .ref o_Pla, .ref o_Ass, .ref o_Tra, .ref o_Sea, .int v_CS.2.1, .int v_CS.2.2])), (o_Pla, .inr (1, [.ref a_Pla_0, .ref a_Pla_1])), (a_Pla_0, .inl (cI, v_Pla.1.1, .inl v_Pla.1.2)), (a_Pla_1, .inl (cI, v_Pla.2.1, .inl v_Pla.2.2))]) X (aj_rV (As := [.int r50]) (rest := []) X N gTB (c_Sto_append (D := D) (cI := cI) (cL := cL) (cZ := cZ) o_Sto a_Sto_3 a42 a47 a48 a49 r45.1 r50 r52.1 r52.2.1 r52.2.2 h53) d_CS_kernel_132 lk_Sto_append lw_CS_100 lh_Sto_append ⟨(Nat.le_of_ble_eq_true rfl), (Nat.le_of_ble_eq_true rfl)⟩ [4, 5, 6, 7, 8, 9] rfl rfl 0 rfl rfl rfl rfl (Nat.le_of_ble_eq_true rfl) ⟨kc_le hkc, kc_le hks⟩) [4, 5, 6, 7, 8, 9] [0, 1, 2, 3] rfl rfl rfl (by decide) (fun w1 hO => ?_)
        obtain ⟨a54, a55, a56, rfl⟩ := hO
        refine aj_perm (ws' := w_CS cI cL cZ o_CS o_Sto o_Pla o_Ass o_Tra o_Sea v_CS ++ w_Pla cI cL cZ o_Pla a_Pla_0 a_Pla_1 v_Pla ++ w_Sto cI cL cZ o_Sto a54 a55 a56 a_Sto_3 a42 r52.1) [0, 1, 2, 3, 4, 5, 6, 7, 8, 9] rfl rfl ?_
        exact c_CS_kernel_B135 o_CS o_Sto o_Pla o_Ass o_Tra o_Sea a_Pla_0 a_Pla_1 a_Sto_3 out mc ms X N hr hlk (m_CS_kernel_L80 nn) ih80 a54 a55 a56 a42 v_CS v_Pla r52.1 x1 x2 x3 x5 (kc + 0 + r40.2.1 + 0 + r45.2.1 + 0 + r52.2.1) (ks + 0 + r40.2.2 + 0 + r45.2.2 + 0 + r52.2.2) _ _ hm hkc hks
def m_CS_kernel (v_CS : T_CS) (v_Pla : T_Pla) (v_Sto : T_Sto) (x1 : Int32) (x2 : Int32) (x3 : Int32) : Option ((T_CS × T_Pla × T_Sto × Int32) × Nat × Nat) := ((m_CS_isThing v_CS x1).bind fun r57 => (if r57 = 0 then (some ((v_CS, v_Pla, v_Sto, (0 : Int32)), 0, 0)) else ((m_CS_isCode x2).bind fun r59 => (if r59 = 0 then (some ((v_CS, v_Pla, v_Sto, (0 : Int32)), 0, 0)) else ((m_CS_isCode x3).bind fun r61 => (if r61 = 0 then (some ((v_CS, v_Pla, v_Sto, (0 : Int32)), 0, 0)) else ((m_Pla_isTold v_Pla x1).bind fun r63 => (if r63 = 0 then ((m_Pla_isTaken v_Pla x2 x3).bind fun r65 => (if r65 = 0 then ((m_Pla_countAt v_Pla x2).bind fun r67 => ((m_Sto_hasRoom v_Sto r67 ((2 : Int32) * r67)).bind fun r69 => (if r69 = 0 then (some ((v_CS, v_Pla, v_Sto, (0 : Int32)), 0, 0)) else (m_CS_kernel_L80 fu v_CS v_Pla v_Sto x1 x2 x3 (0 : Int32))))) else (some ((v_CS, v_Pla, v_Sto, (0 : Int32)), 0, 0)))) else (some ((v_CS, v_Pla, v_Sto, (0 : Int32)), 0, 0))))))))))
set_option maxRecDepth 100000 in
set_option maxHeartbeats 4000000 in
theorem c_CS_kernel {l : Launch} {D : va_G} {cI cL cZ : ClassId} (o_CS o_Sto o_Pla o_Ass o_Tra o_Sea a_Pla_0 a_Pla_1 a_Sto_3 : Nat) (a_Sto_0 a_Sto_1 a_Sto_2 a_Sto_4 : Nat) (v_CS : T_CS) (v_Pla : T_Pla) (v_Sto : T_Sto) (x1 : Int32) (x2 : Int32) (x3 : Int32) (out : T_CS × T_Pla × T_Sto × Int32) (mc ms : Nat) (hm : m_CS_kernel v_CS v_Pla v_Sto x1 x2 x3 = some (out, mc, ms)) : ct l y_CS_kernel (Cond.code y_CS_kernel b_CS_kernel 6 (some .boolean) :: TB) 4 105 D clss (ty3 cI cL cZ) NM0 NF0 [.ref o_CS, .int x1, .int x2, .int x3] (w_CS cI cL cZ o_CS o_Sto o_Pla o_Ass o_Tra o_Sea v_CS ++ w_Pla cI cL cZ o_Pla a_Pla_0 a_Pla_1 v_Pla ++ w_Sto cI cL cZ o_Sto a_Sto_0 a_Sto_1 a_Sto_2 a_Sto_3 a_Sto_4 v_Sto) (qI D clss (ty3 cI cL cZ) (O_CS_kernel cI cL cZ o_CS o_Sto o_Pla o_Ass o_Tra o_Sea a_Pla_0 a_Pla_1 a_Sto_3 out)) mc ms := by
  refine ct_of (plainFor_of_name (by decide)) (Nat.le_of_ble_eq_true rfl) (fun p e s m args below meth c A X N hr hlk hnm => ?_)
  refine aj_lv (lv' := [(0, .ref o_CS), (1, .int x1), (2, .int x2), (3, .int x3)]) [0, 1, 2, 3] rfl ?_
  unfold m_CS_kernel at hm
  have hkc : 0 + mc = mc := Nat.zero_add _
  have hks : 0 + ms = ms := Nat.zero_add _
  refine aj_aload_n X d_CS_kernel_0 0 rfl ?_
  refine aj_iload_n X d_CS_kernel_1 1 rfl ?_
  obtain ⟨r57, h58, hm⟩ := bnd_of hm
  refine aj_callI (wr := [(o_Pla, .inr (1, [.ref a_Pla_0, .ref a_Pla_1])), (a_Pla_0, .inl (cI, v_Pla.1.1, .inl v_Pla.1.2)), (a_Pla_1, .inl (cI, v_Pla.2.1, .inl v_Pla.2.2)), (o_Sto, .inr (3, [.int v_Sto.1, .int v_Sto.2.1, .ref a_Sto_0, .ref a_Sto_1, .ref a_Sto_2, .ref a_Sto_3, .ref a_Sto_4])), (a_Sto_0, .inl (cI, v_Sto.2.2.1.1, .inl v_Sto.2.2.1.2)), (a_Sto_1, .inl (cI, v_Sto.2.2.2.1.1, .inl v_Sto.2.2.2.1.2)), (a_Sto_2, .inl (cI, v_Sto.2.2.2.2.1.1, .inl v_Sto.2.2.2.2.1.2)), (a_Sto_3, .inl (cI, v_Sto.2.2.2.2.2.1.1, .inl v_Sto.2.2.2.2.2.1.2)), (a_Sto_4, .inl (cI, v_Sto.2.2.2.2.2.2.1, .inl v_Sto.2.2.2.2.2.2.2))]) X (aj_rV (As := [.int x1]) (rest := []) X N gTB (c_CS_isThing (D := D) (cI := cI) (cL := cL) (cZ := cZ) o_CS o_Sto o_Pla o_Ass o_Tra o_Sea v_CS x1 r57 h58) d_CS_kernel_2 lk_CS_isThing lw_CS_86 lh_CS_isThing ⟨(Nat.le_of_ble_eq_true rfl), (Nat.le_of_ble_eq_true rfl)⟩ [0] rfl rfl 0 rfl rfl rfl rfl (Nat.le_of_ble_eq_true rfl) ⟨kc_le1 hkc, kc_le1 hks⟩) [0] [1, 2, 3, 4, 5, 6, 7, 8, 9] rfl rfl rfl (by decide) (fun rr w1 hO => ?_)
  have hkc := kc_zero hkc
  have hks := kc_zero hks
  obtain ⟨rfl, rfl⟩ := hO
  refine aj_perm (ws' := w_CS cI cL cZ o_CS o_Sto o_Pla o_Ass o_Tra o_Sea v_CS ++ w_Pla cI cL cZ o_Pla a_Pla_0 a_Pla_1 v_Pla ++ w_Sto cI cL cZ o_Sto a_Sto_0 a_Sto_1 a_Sto_2 a_Sto_3 a_Sto_4 v_Sto) [9, 0, 1, 2, 3, 4, 5, 6, 7, 8] rfl rfl ?_
  refine aj_if_eq X 22 d_CS_kernel_5 (by decide) (fun h => ?_) (fun h => ?_)
  · have hm := ite_t hm h
    refine aj_iconst (v := (0 : Int32)) X d_CS_kernel_22 (by decide) ?_
    obtain ⟨ho, e1, e2⟩ := res_of hm
    subst ho
    obtain rfl := kc_end hkc e1
    obtain rfl := kc_end hks e2
    exact aj_zret X d_CS_kernel_23 hr hlk (by decide) [0, 1, 2, 3, 4, 5, 6, 7, 8, 9] (w_CS cI cL cZ o_CS o_Sto o_Pla o_Ass o_Tra o_Sea v_CS ++ w_Pla cI cL cZ o_Pla a_Pla_0 a_Pla_1 v_Pla ++ w_Sto cI cL cZ o_Sto a_Sto_0 a_Sto_1 a_Sto_2 a_Sto_3 a_Sto_4 v_Sto) rfl rfl ⟨rfl, a_Sto_0, a_Sto_1, a_Sto_2, a_Sto_4, rfl⟩
  · have hm := ite_f hm h
    refine aj_iload_n X d_CS_kernel_8 2 rfl ?_
    obtain ⟨r59, h60, hm⟩ := bnd_of hm
    refine aj_callI (wr := [(o_CS, .inr (6, [.int v_CS.1, .ref o_Sto, .ref o_Pla, .ref o_Ass, .ref o_Tra, .ref o_Sea, .int v_CS.2.1, .int v_CS.2.2])), (o_Pla, .inr (1, [.ref a_Pla_0, .ref a_Pla_1])), (a_Pla_0, .inl (cI, v_Pla.1.1, .inl v_Pla.1.2)), (a_Pla_1, .inl (cI, v_Pla.2.1, .inl v_Pla.2.2)), (o_Sto, .inr (3, [.int v_Sto.1, .int v_Sto.2.1, .ref a_Sto_0, .ref a_Sto_1, .ref a_Sto_2, .ref a_Sto_3, .ref a_Sto_4])), (a_Sto_0, .inl (cI, v_Sto.2.2.1.1, .inl v_Sto.2.2.1.2)), (a_Sto_1, .inl (cI, v_Sto.2.2.2.1.1, .inl v_Sto.2.2.2.1.2)), (a_Sto_2, .inl (cI, v_Sto.2.2.2.2.1.1, .inl v_Sto.2.2.2.2.1.2)), (a_Sto_3, .inl (cI, v_Sto.2.2.2.2.2.1.1, .inl v_Sto.2.2.2.2.2.1.2)), (a_Sto_4, .inl (cI, v_Sto.2.2.2.2.2.2.1, .inl v_Sto.2.2.2.2.2.2.2))]) X (aj_rS (As := [.int x2]) (rest := []) X N gTB (c_CS_isCode (D := D) (cI := cI) (cL := cL) (cZ := cZ) x2 r59 h60) d_CS_kernel_9 lk_CS_isCode lw_CS_103 lh_CS_isCode ⟨(Nat.le_of_ble_eq_true rfl), (Nat.le_of_ble_eq_true rfl)⟩ [] rfl rfl rfl (Nat.le_of_ble_eq_true rfl) ⟨kc_le1 hkc, kc_le1 hks⟩) [] [0, 1, 2, 3, 4, 5, 6, 7, 8, 9] rfl rfl rfl (by decide) (fun rr w1 hO => ?_)
    have hkc := kc_zero hkc
    have hks := kc_zero hks
    obtain ⟨rfl, rfl⟩ := hO
    refine aj_perm (ws' := w_CS cI cL cZ o_CS o_Sto o_Pla o_Ass o_Tra o_Sea v_CS ++ w_Pla cI cL cZ o_Pla a_Pla_0 a_Pla_1 v_Pla ++ w_Sto cI cL cZ o_Sto a_Sto_0 a_Sto_1 a_Sto_2 a_Sto_3 a_Sto_4 v_Sto) [0, 1, 2, 3, 4, 5, 6, 7, 8, 9] rfl rfl ?_
    refine aj_if_eq X 22 d_CS_kernel_12 (by decide) (fun h => ?_) (fun h => ?_)
    · have hm := ite_t hm h
      refine aj_iconst (v := (0 : Int32)) X d_CS_kernel_22 (by decide) ?_
      obtain ⟨ho, e1, e2⟩ := res_of hm
      subst ho
      obtain rfl := kc_end hkc e1
      obtain rfl := kc_end hks e2
      exact aj_zret X d_CS_kernel_23 hr hlk (by decide) [0, 1, 2, 3, 4, 5, 6, 7, 8, 9] (w_CS cI cL cZ o_CS o_Sto o_Pla o_Ass o_Tra o_Sea v_CS ++ w_Pla cI cL cZ o_Pla a_Pla_0 a_Pla_1 v_Pla ++ w_Sto cI cL cZ o_Sto a_Sto_0 a_Sto_1 a_Sto_2 a_Sto_3 a_Sto_4 v_Sto) rfl rfl ⟨rfl, a_Sto_0, a_Sto_1, a_Sto_2, a_Sto_4, rfl⟩
    · have hm := ite_f hm h
      refine aj_iload_n X d_CS_kernel_15 3 rfl ?_
      obtain ⟨r61, h62, hm⟩ := bnd_of hm
      refine aj_callI (wr := [(o_CS, .inr (6, [.int v_CS.1, .ref o_Sto, .ref o_Pla, .ref o_Ass, .ref o_Tra, .ref o_Sea, .int v_CS.2.1, .int v_CS.2.2])), (o_Pla, .inr (1, [.ref a_Pla_0, .ref a_Pla_1])), (a_Pla_0, .inl (cI, v_Pla.1.1, .inl v_Pla.1.2)), (a_Pla_1, .inl (cI, v_Pla.2.1, .inl v_Pla.2.2)), (o_Sto, .inr (3, [.int v_Sto.1, .int v_Sto.2.1, .ref a_Sto_0, .ref a_Sto_1, .ref a_Sto_2, .ref a_Sto_3, .ref a_Sto_4])), (a_Sto_0, .inl (cI, v_Sto.2.2.1.1, .inl v_Sto.2.2.1.2)), (a_Sto_1, .inl (cI, v_Sto.2.2.2.1.1, .inl v_Sto.2.2.2.1.2)), (a_Sto_2, .inl (cI, v_Sto.2.2.2.2.1.1, .inl v_Sto.2.2.2.2.1.2)), (a_Sto_3, .inl (cI, v_Sto.2.2.2.2.2.1.1, .inl v_Sto.2.2.2.2.2.1.2)), (a_Sto_4, .inl (cI, v_Sto.2.2.2.2.2.2.1, .inl v_Sto.2.2.2.2.2.2.2))]) X (aj_rS (As := [.int x3]) (rest := []) X N gTB (c_CS_isCode (D := D) (cI := cI) (cL := cL) (cZ := cZ) x3 r61 h62) d_CS_kernel_16 lk_CS_isCode lw_CS_103 lh_CS_isCode ⟨(Nat.le_of_ble_eq_true rfl), (Nat.le_of_ble_eq_true rfl)⟩ [] rfl rfl rfl (Nat.le_of_ble_eq_true rfl) ⟨kc_le1 hkc, kc_le1 hks⟩) [] [0, 1, 2, 3, 4, 5, 6, 7, 8, 9] rfl rfl rfl (by decide) (fun rr w1 hO => ?_)
      have hkc := kc_zero hkc
      have hks := kc_zero hks
      obtain ⟨rfl, rfl⟩ := hO
      refine aj_perm (ws' := w_CS cI cL cZ o_CS o_Sto o_Pla o_Ass o_Tra o_Sea v_CS ++ w_Pla cI cL cZ o_Pla a_Pla_0 a_Pla_1 v_Pla ++ w_Sto cI cL cZ o_Sto a_Sto_0 a_Sto_1 a_Sto_2 a_Sto_3 a_Sto_4 v_Sto) [0, 1, 2, 3, 4, 5, 6, 7, 8, 9] rfl rfl ?_
      refine aj_if_ne X 24 d_CS_kernel_19 (by decide) (fun h => ?_) (fun h => ?_)
      · have hm := ite_f hm h
        refine aj_aload_n X d_CS_kernel_24 0 rfl ?_
        refine aj_get X d_CS_kernel_25 in_CS 0 rfl rfl 2 (by decide) lf_CS_34 rfl ?_
        refine aj_iload_n X d_CS_kernel_28 1 rfl ?_
        obtain ⟨r63, h64, hm⟩ := bnd_of hm
        refine aj_callI (wr := [(o_CS, .inr (6, [.int v_CS.1, .ref o_Sto, .ref o_Pla, .ref o_Ass, .ref o_Tra, .ref o_Sea, .int v_CS.2.1, .int v_CS.2.2])), (o_Sto, .inr (3, [.int v_Sto.1, .int v_Sto.2.1, .ref a_Sto_0, .ref a_Sto_1, .ref a_Sto_2, .ref a_Sto_3, .ref a_Sto_4])), (a_Sto_0, .inl (cI, v_Sto.2.2.1.1, .inl v_Sto.2.2.1.2)), (a_Sto_1, .inl (cI, v_Sto.2.2.2.1.1, .inl v_Sto.2.2.2.1.2)), (a_Sto_2, .inl (cI, v_Sto.2.2.2.2.1.1, .inl v_Sto.2.2.2.2.1.2)), (a_Sto_3, .inl (cI, v_Sto.2.2.2.2.2.1.1, .inl v_Sto.2.2.2.2.2.1.2)), (a_Sto_4, .inl (cI, v_Sto.2.2.2.2.2.2.1, .inl v_Sto.2.2.2.2.2.2.2))]) X (aj_rV (As := [.int x1]) (rest := []) X N gTB (c_Pla_isTold (D := D) (cI := cI) (cL := cL) (cZ := cZ) o_Pla a_Pla_0 a_Pla_1 v_Pla x1 r63 h64) d_CS_kernel_29 lk_Pla_isTold lw_CS_106 lh_Pla_isTold ⟨(Nat.le_of_ble_eq_true rfl), (Nat.le_of_ble_eq_true rfl)⟩ [1, 2, 3] rfl rfl 0 rfl rfl rfl rfl (Nat.le_of_ble_eq_true rfl) ⟨kc_le1 hkc, kc_le1 hks⟩) [1, 2, 3] [0, 4, 5, 6, 7, 8, 9] rfl rfl rfl (by decide) (fun rr w1 hO => ?_)
        have hkc := kc_zero hkc
        have hks := kc_zero hks
        obtain ⟨rfl, rfl⟩ := hO
        refine aj_perm (ws' := w_CS cI cL cZ o_CS o_Sto o_Pla o_Ass o_Tra o_Sea v_CS ++ w_Pla cI cL cZ o_Pla a_Pla_0 a_Pla_1 v_Pla ++ w_Sto cI cL cZ o_Sto a_Sto_0 a_Sto_1 a_Sto_2 a_Sto_3 a_Sto_4 v_Sto) [0, 7, 8, 9, 1, 2, 3, 4, 5, 6] rfl rfl ?_
        refine aj_if_ne X 47 d_CS_kernel_32 (by decide) (fun h => ?_) (fun h => ?_)
        · have hm := ite_f hm h
          refine aj_iconst (v := (0 : Int32)) X d_CS_kernel_47 (by decide) ?_
          obtain ⟨ho, e1, e2⟩ := res_of hm
          subst ho
          obtain rfl := kc_end hkc e1
          obtain rfl := kc_end hks e2
          exact aj_zret X d_CS_kernel_48 hr hlk (by decide) [0, 1, 2, 3, 4, 5, 6, 7, 8, 9] (w_CS cI cL cZ o_CS o_Sto o_Pla o_Ass o_Tra o_Sea v_CS ++ w_Pla cI cL cZ o_Pla a_Pla_0 a_Pla_1 v_Pla ++ w_Sto cI cL cZ o_Sto a_Sto_0 a_Sto_1 a_Sto_2 a_Sto_3 a_Sto_4 v_Sto) rfl rfl ⟨rfl, a_Sto_0, a_Sto_1, a_Sto_2, a_Sto_4, rfl⟩
        · have hm := ite_t hm h
          refine aj_aload_n X d_CS_kernel_35 0 rfl ?_
          refine aj_get X d_CS_kernel_36 in_CS 0 rfl rfl 2 (by decide) lf_CS_34 rfl ?_
          refine aj_iload_n X d_CS_kernel_39 2 rfl ?_
          refine aj_iload_n X d_CS_kernel_40 3 rfl ?_
          obtain ⟨r65, h66, hm⟩ := bnd_of hm
          refine aj_callI (wr := [(o_CS, .inr (6, [.int v_CS.1, .ref o_Sto, .ref o_Pla, .ref o_Ass, .ref o_Tra, .ref o_Sea, .int v_CS.2.1, .int v_CS.2.2])), (o_Sto, .inr (3, [.int v_Sto.1, .int v_Sto.2.1, .ref a_Sto_0, .ref a_Sto_1, .ref a_Sto_2, .ref a_Sto_3, .ref a_Sto_4])), (a_Sto_0, .inl (cI, v_Sto.2.2.1.1, .inl v_Sto.2.2.1.2)), (a_Sto_1, .inl (cI, v_Sto.2.2.2.1.1, .inl v_Sto.2.2.2.1.2)), (a_Sto_2, .inl (cI, v_Sto.2.2.2.2.1.1, .inl v_Sto.2.2.2.2.1.2)), (a_Sto_3, .inl (cI, v_Sto.2.2.2.2.2.1.1, .inl v_Sto.2.2.2.2.2.1.2)), (a_Sto_4, .inl (cI, v_Sto.2.2.2.2.2.2.1, .inl v_Sto.2.2.2.2.2.2.2))]) X (aj_rV (As := [.int x2, .int x3]) (rest := []) X N gTB (c_Pla_isTaken (D := D) (cI := cI) (cL := cL) (cZ := cZ) o_Pla a_Pla_0 a_Pla_1 v_Pla x2 x3 r65 h66) d_CS_kernel_41 lk_Pla_isTaken lw_CS_109 lh_Pla_isTaken ⟨(Nat.le_of_ble_eq_true rfl), (Nat.le_of_ble_eq_true rfl)⟩ [1, 2, 3] rfl rfl 0 rfl rfl rfl rfl (Nat.le_of_ble_eq_true rfl) ⟨kc_le1 hkc, kc_le1 hks⟩) [1, 2, 3] [0, 4, 5, 6, 7, 8, 9] rfl rfl rfl (by decide) (fun rr w1 hO => ?_)
          have hkc := kc_zero hkc
          have hks := kc_zero hks
          obtain ⟨rfl, rfl⟩ := hO
          refine aj_perm (ws' := w_CS cI cL cZ o_CS o_Sto o_Pla o_Ass o_Tra o_Sea v_CS ++ w_Pla cI cL cZ o_Pla a_Pla_0 a_Pla_1 v_Pla ++ w_Sto cI cL cZ o_Sto a_Sto_0 a_Sto_1 a_Sto_2 a_Sto_3 a_Sto_4 v_Sto) [0, 7, 8, 9, 1, 2, 3, 4, 5, 6] rfl rfl ?_
          refine aj_if_eq X 49 d_CS_kernel_44 (by decide) (fun h => ?_) (fun h => ?_)
          · have hm := ite_t hm h
            refine aj_aload_n X d_CS_kernel_49 0 rfl ?_
            refine aj_get X d_CS_kernel_50 in_CS 0 rfl rfl 2 (by decide) lf_CS_34 rfl ?_
            refine aj_iload_n X d_CS_kernel_53 2 rfl ?_
            obtain ⟨r67, h68, hm⟩ := bnd_of hm
            refine aj_callI (wr := [(o_CS, .inr (6, [.int v_CS.1, .ref o_Sto, .ref o_Pla, .ref o_Ass, .ref o_Tra, .ref o_Sea, .int v_CS.2.1, .int v_CS.2.2])), (o_Sto, .inr (3, [.int v_Sto.1, .int v_Sto.2.1, .ref a_Sto_0, .ref a_Sto_1, .ref a_Sto_2, .ref a_Sto_3, .ref a_Sto_4])), (a_Sto_0, .inl (cI, v_Sto.2.2.1.1, .inl v_Sto.2.2.1.2)), (a_Sto_1, .inl (cI, v_Sto.2.2.2.1.1, .inl v_Sto.2.2.2.1.2)), (a_Sto_2, .inl (cI, v_Sto.2.2.2.2.1.1, .inl v_Sto.2.2.2.2.1.2)), (a_Sto_3, .inl (cI, v_Sto.2.2.2.2.2.1.1, .inl v_Sto.2.2.2.2.2.1.2)), (a_Sto_4, .inl (cI, v_Sto.2.2.2.2.2.2.1, .inl v_Sto.2.2.2.2.2.2.2))]) X (aj_rV (As := [.int x2]) (rest := []) X N gTB (c_Pla_countAt (D := D) (cI := cI) (cL := cL) (cZ := cZ) o_Pla a_Pla_0 a_Pla_1 v_Pla x2 r67 h68) d_CS_kernel_54 lk_Pla_countAt lw_CS_112 lh_Pla_countAt ⟨(Nat.le_of_ble_eq_true rfl), (Nat.le_of_ble_eq_true rfl)⟩ [1, 2, 3] rfl rfl 0 rfl rfl rfl rfl (Nat.le_of_ble_eq_true rfl) ⟨kc_le1 hkc, kc_le1 hks⟩) [1, 2, 3] [0, 4, 5, 6, 7, 8, 9] rfl rfl rfl (by decide) (fun rr w1 hO => ?_)
            have hkc := kc_zero hkc
            have hks := kc_zero hks
            obtain ⟨rfl, rfl⟩ := hO
            refine aj_perm (ws' := w_CS cI cL cZ o_CS o_Sto o_Pla o_Ass o_Tra o_Sea v_CS ++ w_Pla cI cL cZ o_Pla a_Pla_0 a_Pla_1 v_Pla ++ w_Sto cI cL cZ o_Sto a_Sto_0 a_Sto_1 a_Sto_2 a_Sto_3 a_Sto_4 v_Sto) [0, 7, 8, 9, 1, 2, 3, 4, 5, 6] rfl rfl ?_
            refine aj_istore (lv' := [(4, .int r67), (0, .ref o_CS), (1, .int x1), (2, .int x2), (3, .int x3)]) X d_CS_kernel_57 (by decide) rfl ?_
            refine aj_aload_n X d_CS_kernel_59 1 rfl ?_
            refine aj_get X d_CS_kernel_60 in_CS 0 rfl rfl 1 (by decide) lf_CS_27 rfl ?_
            refine aj_iload X d_CS_kernel_63 0 rfl ?_
            refine aj_iconst (v := (2 : Int32)) X d_CS_kernel_65 (by decide) ?_
            refine aj_iload X d_CS_kernel_66 0 rfl ?_
            refine aj_imul X d_CS_kernel_68 ?_
            obtain ⟨r69, h70, hm⟩ := bnd_of hm
            refine aj_callI (wr := [(o_CS, .inr (6, [.int v_CS.1, .ref o_Sto, .ref o_Pla, .ref o_Ass, .ref o_Tra, .ref o_Sea, .int v_CS.2.1, .int v_CS.2.2])), (o_Pla, .inr (1, [.ref a_Pla_0, .ref a_Pla_1])), (a_Pla_0, .inl (cI, v_Pla.1.1, .inl v_Pla.1.2)), (a_Pla_1, .inl (cI, v_Pla.2.1, .inl v_Pla.2.2))]) X (aj_rV (As := [.int r67, .int ((2 : Int32) * r67)]) (rest := []) X N gTB (c_Sto_hasRoom (D := D) (cI := cI) (cL := cL) (cZ := cZ) o_Sto a_Sto_0 a_Sto_1 a_Sto_2 a_Sto_3 a_Sto_4 v_Sto r67 ((2 : Int32) * r67) r69 h70) d_CS_kernel_69 lk_Sto_hasRoom lw_CS_74 lh_Sto_hasRoom ⟨(Nat.le_of_ble_eq_true rfl), (Nat.le_of_ble_eq_true rfl)⟩ [4, 5, 6, 7, 8, 9] rfl rfl 0 rfl rfl rfl rfl (Nat.le_of_ble_eq_true rfl) ⟨kc_le1 hkc, kc_le1 hks⟩) [4, 5, 6, 7, 8, 9] [0, 1, 2, 3] rfl rfl rfl (by decide) (fun rr w1 hO => ?_)
            have hkc := kc_zero hkc
            have hks := kc_zero hks
            obtain ⟨rfl, rfl⟩ := hO
            refine aj_perm (ws' := w_CS cI cL cZ o_CS o_Sto o_Pla o_Ass o_Tra o_Sea v_CS ++ w_Pla cI cL cZ o_Pla a_Pla_0 a_Pla_1 v_Pla ++ w_Sto cI cL cZ o_Sto a_Sto_0 a_Sto_1 a_Sto_2 a_Sto_3 a_Sto_4 v_Sto) [0, 1, 2, 3, 4, 5, 6, 7, 8, 9] rfl rfl ?_
            refine aj_if_ne X 77 d_CS_kernel_72 (by decide) (fun h => ?_) (fun h => ?_)
            · have hm := ite_f hm h
              refine aj_iconst (v := (0 : Int32)) X d_CS_kernel_77 (by decide) ?_
              refine aj_istore (lv' := [(5, .int (0 : Int32)), (4, .int r67), (0, .ref o_CS), (1, .int x1), (2, .int x2), (3, .int x3)]) X d_CS_kernel_78 (by decide) rfl ?_
              refine aj_lv (lv' := [(0, .ref o_CS), (1, .int x1), (2, .int x2), (3, .int x3), (5, .int (0 : Int32))]) [2, 3, 4, 5, 0] rfl ?_
              exact c_CS_kernel_L80 o_CS o_Sto o_Pla o_Ass o_Tra o_Sea a_Pla_0 a_Pla_1 a_Sto_3 out mc ms X N hr hlk fu a_Sto_0 a_Sto_1 a_Sto_2 a_Sto_4 v_CS v_Pla v_Sto x1 x2 x3 (0 : Int32) (0 + 0 + 0 + 0 + 0 + 0 + 0 + 0) (0 + 0 + 0 + 0 + 0 + 0 + 0 + 0) _ _ hm hkc hks
            · have hm := ite_t hm h
              refine aj_iconst (v := (0 : Int32)) X d_CS_kernel_75 (by decide) ?_
              obtain ⟨ho, e1, e2⟩ := res_of hm
              subst ho
              obtain rfl := kc_end hkc e1
              obtain rfl := kc_end hks e2
              exact aj_zret X d_CS_kernel_76 hr hlk (by decide) [0, 1, 2, 3, 4, 5, 6, 7, 8, 9] (w_CS cI cL cZ o_CS o_Sto o_Pla o_Ass o_Tra o_Sea v_CS ++ w_Pla cI cL cZ o_Pla a_Pla_0 a_Pla_1 v_Pla ++ w_Sto cI cL cZ o_Sto a_Sto_0 a_Sto_1 a_Sto_2 a_Sto_3 a_Sto_4 v_Sto) rfl rfl ⟨rfl, a_Sto_0, a_Sto_1, a_Sto_2, a_Sto_4, rfl⟩
          · have hm := ite_f hm h
            refine aj_iconst (v := (0 : Int32)) X d_CS_kernel_47 (by decide) ?_
            obtain ⟨ho, e1, e2⟩ := res_of hm
            subst ho
            obtain rfl := kc_end hkc e1
            obtain rfl := kc_end hks e2
            exact aj_zret X d_CS_kernel_48 hr hlk (by decide) [0, 1, 2, 3, 4, 5, 6, 7, 8, 9] (w_CS cI cL cZ o_CS o_Sto o_Pla o_Ass o_Tra o_Sea v_CS ++ w_Pla cI cL cZ o_Pla a_Pla_0 a_Pla_1 v_Pla ++ w_Sto cI cL cZ o_Sto a_Sto_0 a_Sto_1 a_Sto_2 a_Sto_3 a_Sto_4 v_Sto) rfl rfl ⟨rfl, a_Sto_0, a_Sto_1, a_Sto_2, a_Sto_4, rfl⟩
      · have hm := ite_t hm h
        refine aj_iconst (v := (0 : Int32)) X d_CS_kernel_22 (by decide) ?_
        obtain ⟨ho, e1, e2⟩ := res_of hm
        subst ho
        obtain rfl := kc_end hkc e1
        obtain rfl := kc_end hks e2
        exact aj_zret X d_CS_kernel_23 hr hlk (by decide) [0, 1, 2, 3, 4, 5, 6, 7, 8, 9] (w_CS cI cL cZ o_CS o_Sto o_Pla o_Ass o_Tra o_Sea v_CS ++ w_Pla cI cL cZ o_Pla a_Pla_0 a_Pla_1 v_Pla ++ w_Sto cI cL cZ o_Sto a_Sto_0 a_Sto_1 a_Sto_2 a_Sto_3 a_Sto_4 v_Sto) rfl rfl ⟨rfl, a_Sto_0, a_Sto_1, a_Sto_2, a_Sto_4, rfl⟩
abbrev X_Tal_makeRoom (p : Program) (s : State) (m : MethodId) (args : Array Value) (c : Code) (D : va_G) (cI cL cZ : ClassId) (A : Nat → Prop) : Prop := aj_C p s m args c D clss (ty3 cI cL cZ) A b_Tal_makeRoom 1 R_Tal TB
abbrev J_Tal_makeRoom (p : Program) (l : Launch) (e : Env) (s : State) (m : MethodId) (args : Array Value) (below : List Frame) (meth : Method) (c : Code) (D : va_G) (cI cL cZ : ClassId) (A : Nat → Prop) (O : va_W → Prop) (mc ms : Nat) (ws : va_W) (kc ks pc : Nat) (lv : List (Nat × Value)) (st : List Value) : Prop := aj p l e { frames := 3, cells := mc, slots := ms, locals := 84 } s m args below meth c (MQ below (qV D clss (ty3 cI cL cZ) O A) args s mc ms A) D clss A 1 ws kc ks pc lv st
def O_Tal_makeRoom (cI cL cZ : ClassId) (o_Sto o_Tal a_Sto_0 a_Sto_1 a_Sto_2 a_Sto_3 a_Sto_4 a_Tal_0 a_Tal_1 : Nat) (v_Sto : T_Sto) (out : T_Tal) : va_W → Prop := fun w1 => ∃ (a_Tal_2 a_Tal_3 : Nat), w1 = w_Sto cI cL cZ o_Sto a_Sto_0 a_Sto_1 a_Sto_2 a_Sto_3 a_Sto_4 v_Sto ++ w_Tal cI cL cZ o_Tal o_Sto a_Tal_0 a_Tal_1 a_Tal_2 a_Tal_3 out
def m_Tal_makeRoom (v_Sto : T_Sto) (v_Tal : T_Tal) : Option ((T_Tal) × Nat × Nat) := ((m_CS_withRoomFor v_Tal.2.2.1 v_Sto.1 (1500 : Int32)).bind fun r7 => addc r7.2.1 r7.2.2 ((m_CS_withRoomFor v_Tal.2.2.2 v_Sto.1 (1500 : Int32)).bind fun r10 => addc r10.2.1 r10.2.2 (some ((v_Tal.1, v_Tal.2.1, r7.1, r10.1), 0, 0))))
set_option maxRecDepth 100000 in
set_option maxHeartbeats 4000000 in
theorem c_Tal_makeRoom {l : Launch} {D : va_G} {cI cL cZ : ClassId} (o_Sto o_Tal a_Sto_0 a_Sto_1 a_Sto_2 a_Sto_3 a_Sto_4 a_Tal_0 a_Tal_1 : Nat) (a_Tal_2 a_Tal_3 : Nat) (v_Sto : T_Sto) (v_Tal : T_Tal) (out : T_Tal) (mc ms : Nat) (hm : m_Tal_makeRoom v_Sto v_Tal = some (out, mc, ms)) : ct l y_Tal_makeRoom (Cond.code y_Tal_makeRoom b_Tal_makeRoom 1 none :: TB) 3 84 D clss (ty3 cI cL cZ) NM0 NF0 [.ref o_Tal] (w_Sto cI cL cZ o_Sto a_Sto_0 a_Sto_1 a_Sto_2 a_Sto_3 a_Sto_4 v_Sto ++ w_Tal cI cL cZ o_Tal o_Sto a_Tal_0 a_Tal_1 a_Tal_2 a_Tal_3 v_Tal) (qV D clss (ty3 cI cL cZ) (O_Tal_makeRoom cI cL cZ o_Sto o_Tal a_Sto_0 a_Sto_1 a_Sto_2 a_Sto_3 a_Sto_4 a_Tal_0 a_Tal_1 v_Sto out)) mc ms := by
  refine ct_of (plainFor_of_name (by decide)) (Nat.le_of_ble_eq_true rfl) (fun p e s m args below meth c A X N hr hlk hnm => ?_)
  refine aj_lv (lv' := [(0, .ref o_Tal)]) [0] rfl ?_
  unfold m_Tal_makeRoom at hm
  have hkc : 0 + mc = mc := Nat.zero_add _
  have hks : 0 + ms = ms := Nat.zero_add _
  refine aj_aload_n X d_Tal_makeRoom_0 0 rfl ?_
  refine aj_aload_n X d_Tal_makeRoom_1 0 rfl ?_
  refine aj_get X d_Tal_makeRoom_2 in_Tal 6 rfl rfl 3 (by decide) lf_Tal_22 rfl ?_
  refine aj_aload_n X d_Tal_makeRoom_5 0 rfl ?_
  refine aj_get X d_Tal_makeRoom_6 in_Tal 6 rfl rfl 0 (by decide) lf_Tal_9 rfl ?_
  refine aj_get X d_Tal_makeRoom_9 in_Sto 0 rfl rfl 0 (by decide) lf_Tal_32 rfl ?_
  refine aj_sipush (v := (1500 : Int32)) X d_Tal_makeRoom_12 (by decide) ?_
  obtain ⟨r7, h8, hm⟩ := bnd_of hm
  obtain ⟨dc, ds, hm, e1, e2⟩ := addc_of hm
  have hkc := kc_step hkc e1
  have hks := kc_step hks e2
  refine aj_callR (wr := [(o_Sto, .inr (3, [.int v_Sto.1, .int v_Sto.2.1, .ref a_Sto_0, .ref a_Sto_1, .ref a_Sto_2, .ref a_Sto_3, .ref a_Sto_4])), (a_Sto_0, .inl (cI, v_Sto.2.2.1.1, .inl v_Sto.2.2.1.2)), (a_Sto_1, .inl (cI, v_Sto.2.2.2.1.1, .inl v_Sto.2.2.2.1.2)), (a_Sto_2, .inl (cI, v_Sto.2.2.2.2.1.1, .inl v_Sto.2.2.2.2.1.2)), (a_Sto_3, .inl (cI, v_Sto.2.2.2.2.2.1.1, .inl v_Sto.2.2.2.2.2.1.2)), (a_Sto_4, .inl (cI, v_Sto.2.2.2.2.2.2.1, .inl v_Sto.2.2.2.2.2.2.2)), (o_Tal, .inr (4, [.ref o_Sto, .ref a_Tal_0, .ref a_Tal_1, .ref a_Tal_2, .ref a_Tal_3])), (a_Tal_0, .inl (cL, v_Tal.1.1, .inr (.inl v_Tal.1.2))), (a_Tal_1, .inl (cL, v_Tal.2.1.1, .inr (.inl v_Tal.2.1.2))), (a_Tal_3, .inl (cI, v_Tal.2.2.2.1, .inl v_Tal.2.2.2.2))]) X (aj_rSN (As := [.ref a_Tal_2, .int v_Sto.1, .int (1500 : Int32)]) (rest := [.ref o_Tal]) X N gTB (c_CS_withRoomFor (D := D) (cI := cI) (cL := cL) (cZ := cZ) a_Tal_2 v_Tal.2.2.1 v_Sto.1 (1500 : Int32) r7.1 r7.2.1 r7.2.2 h8) d_Tal_makeRoom_15 lk_CS_withRoomFor ln_Tal_62 lw_Tal_62 lh_CS_withRoomFor ⟨(Nat.le_of_ble_eq_true rfl), (Nat.le_of_ble_eq_true rfl)⟩ [9] rfl rfl rfl (Nat.le_of_ble_eq_true rfl) ⟨kc_le hkc, kc_le hks⟩) [9] [0, 1, 2, 3, 4, 5, 6, 7, 8, 10] rfl rfl rfl (by decide) (fun a9 w1 hO => ?_)
  obtain rfl := hO
  refine aj_perm (ws' := w_Sto cI cL cZ o_Sto a_Sto_0 a_Sto_1 a_Sto_2 a_Sto_3 a_Sto_4 v_Sto ++ ([(o_Tal, .inr (4, [.ref o_Sto, .ref a_Tal_0, .ref a_Tal_1, .ref a_Tal_2, .ref a_Tal_3])), (a_Tal_0, .inl (cL, v_Tal.1.1, .inr (.inl v_Tal.1.2))), (a_Tal_1, .inl (cL, v_Tal.2.1.1, .inr (.inl v_Tal.2.1.2))), (a9, .inl (cI, r7.1.1, .inl r7.1.2)), (a_Tal_3, .inl (cI, v_Tal.2.2.2.1, .inl v_Tal.2.2.2.2))] : va_W)) [0, 1, 2, 3, 4, 5, 6, 7, 8, 10, 9] rfl rfl ?_
  refine aj_put (ws' := w_Sto cI cL cZ o_Sto a_Sto_0 a_Sto_1 a_Sto_2 a_Sto_3 a_Sto_4 v_Sto ++ w_Tal cI cL cZ o_Tal o_Sto a_Tal_0 a_Tal_1 a9 a_Tal_3 (v_Tal.1, v_Tal.2.1, r7.1, v_Tal.2.2.2)) X d_Tal_makeRoom_18 in_Tal ty_Tal tyok_Tal nmx_Tal 6 rfl rfl 3 (by decide) lf_Tal_22 rfl rfl rfl (Nat.le_of_ble_eq_true rfl) rfl ?_
  refine aj_aload_n X d_Tal_makeRoom_21 0 rfl ?_
  refine aj_aload_n X d_Tal_makeRoom_22 0 rfl ?_
  refine aj_get X d_Tal_makeRoom_23 in_Tal 6 rfl rfl 4 (by decide) lf_Tal_26 rfl ?_
  refine aj_aload_n X d_Tal_makeRoom_26 0 rfl ?_
  refine aj_get X d_Tal_makeRoom_27 in_Tal 6 rfl rfl 0 (by decide) lf_Tal_9 rfl ?_
  refine aj_get X d_Tal_makeRoom_30 in_Sto 0 rfl rfl 0 (by decide) lf_Tal_32 rfl ?_
  refine aj_sipush (v := (1500 : Int32)) X d_Tal_makeRoom_33 (by decide) ?_
  obtain ⟨r10, h11, hm⟩ := bnd_of hm
  obtain ⟨dc, ds, hm, e1, e2⟩ := addc_of hm
  have hkc := kc_step hkc e1
  have hks := kc_step hks e2
  refine aj_callR (wr := [(o_Sto, .inr (3, [.int v_Sto.1, .int v_Sto.2.1, .ref a_Sto_0, .ref a_Sto_1, .ref a_Sto_2, .ref a_Sto_3, .ref a_Sto_4])), (a_Sto_0, .inl (cI, v_Sto.2.2.1.1, .inl v_Sto.2.2.1.2)), (a_Sto_1, .inl (cI, v_Sto.2.2.2.1.1, .inl v_Sto.2.2.2.1.2)), (a_Sto_2, .inl (cI, v_Sto.2.2.2.2.1.1, .inl v_Sto.2.2.2.2.1.2)), (a_Sto_3, .inl (cI, v_Sto.2.2.2.2.2.1.1, .inl v_Sto.2.2.2.2.2.1.2)), (a_Sto_4, .inl (cI, v_Sto.2.2.2.2.2.2.1, .inl v_Sto.2.2.2.2.2.2.2)), (o_Tal, .inr (4, [.ref o_Sto, .ref a_Tal_0, .ref a_Tal_1, .ref a9, .ref a_Tal_3])), (a_Tal_0, .inl (cL, v_Tal.1.1, .inr (.inl v_Tal.1.2))), (a_Tal_1, .inl (cL, v_Tal.2.1.1, .inr (.inl v_Tal.2.1.2))), (a9, .inl (cI, r7.1.1, .inl r7.1.2))]) X (aj_rSN (As := [.ref a_Tal_3, .int v_Sto.1, .int (1500 : Int32)]) (rest := [.ref o_Tal]) X N gTB (c_CS_withRoomFor (D := D) (cI := cI) (cL := cL) (cZ := cZ) a_Tal_3 v_Tal.2.2.2 v_Sto.1 (1500 : Int32) r10.1 r10.2.1 r10.2.2 h11) d_Tal_makeRoom_36 lk_CS_withRoomFor ln_Tal_62 lw_Tal_62 lh_CS_withRoomFor ⟨(Nat.le_of_ble_eq_true rfl), (Nat.le_of_ble_eq_true rfl)⟩ [10] rfl rfl rfl (Nat.le_of_ble_eq_true rfl) ⟨kc_le hkc, kc_le hks⟩) [10] [0, 1, 2, 3, 4, 5, 6, 7, 8, 9] rfl rfl rfl (by decide) (fun a12 w1 hO => ?_)
  obtain rfl := hO
  refine aj_perm (ws' := w_Sto cI cL cZ o_Sto a_Sto_0 a_Sto_1 a_Sto_2 a_Sto_3 a_Sto_4 v_Sto ++ ([(o_Tal, .inr (4, [.ref o_Sto, .ref a_Tal_0, .ref a_Tal_1, .ref a9, .ref a_Tal_3])), (a_Tal_0, .inl (cL, v_Tal.1.1, .inr (.inl v_Tal.1.2))), (a_Tal_1, .inl (cL, v_Tal.2.1.1, .inr (.inl v_Tal.2.1.2))), (a9, .inl (cI, r7.1.1, .inl r7.1.2)), (a12, .inl (cI, r10.1.1, .inl r10.1.2))] : va_W)) [0, 1, 2, 3, 4, 5, 6, 7, 8, 9, 10] rfl rfl ?_
  refine aj_put (ws' := w_Sto cI cL cZ o_Sto a_Sto_0 a_Sto_1 a_Sto_2 a_Sto_3 a_Sto_4 v_Sto ++ w_Tal cI cL cZ o_Tal o_Sto a_Tal_0 a_Tal_1 a9 a12 (v_Tal.1, v_Tal.2.1, r7.1, r10.1)) X d_Tal_makeRoom_39 in_Tal ty_Tal tyok_Tal nmx_Tal 6 rfl rfl 4 (by decide) lf_Tal_26 rfl rfl rfl (Nat.le_of_ble_eq_true rfl) rfl ?_
  obtain ⟨ho, e1, e2⟩ := res_of hm
  subst ho
  obtain rfl := kc_end hkc e1
  obtain rfl := kc_end hks e2
  exact aj_vret X d_Tal_makeRoom_42 hr hlk [0, 1, 2, 3, 4, 5, 6, 7, 8, 9, 10] (w_Sto cI cL cZ o_Sto a_Sto_0 a_Sto_1 a_Sto_2 a_Sto_3 a_Sto_4 v_Sto ++ w_Tal cI cL cZ o_Tal o_Sto a_Tal_0 a_Tal_1 a9 a12 (v_Tal.1, v_Tal.2.1, r7.1, r10.1)) rfl rfl ⟨a9, a12, rfl⟩
