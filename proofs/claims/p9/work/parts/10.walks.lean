abbrev X_Arr__fill (p : Program) (s : State) (m : MethodId) (args : Array Value) (c : Code) (D : va_G) (cI cL cZ : ClassId) (A : Nat → Prop) : Prop := aj_C p s m args c D clss (ty3 cI cL cZ) A b_Arr__fill 4 R_Arr_ TB
abbrev J_Arr__fill (p : Program) (l : Launch) (e : Env) (s : State) (m : MethodId) (args : Array Value) (below : List Frame) (meth : Method) (c : Code) (D : va_G) (cI cL cZ : ClassId) (A : Nat → Prop) (O : va_W → Prop) (mc ms : Nat) (ws : va_W) (kc ks pc : Nat) (lv : List (Nat × Value)) (st : List Value) : Prop := aj p l e { frames := 0, cells := mc, slots := ms, locals := 0 } s m args below meth c (MQ below (qV D clss (ty3 cI cL cZ) O A) args s mc ms A) D clss A 4 ws kc ks pc lv st
def O_Arr__fill (cI cL cZ : ClassId) (q_0 : Nat) (out : Arr) : va_W → Prop := fun w1 => w1 = ([(q_0, .inl (cI, out.1, .inl out.2))] : va_W)
def m_Arr__fill_L5 : Nat → Arr → Int32 → Int32 → Int32 → Option (Arr)
  | 0, _, _, _, _ => none
  | f + 1, p_0, x1, x2, x3 => (if x3 ≤ x2 then (some p_0) else (if ¬ (x2 < 0 ∨ p_0.1 ≤ (x2).toNatClampNeg) then ((m_Arr__fill_L5 f) (p_0.1, (upd p_0.2 (x2).toNatClampNeg x1)) x1 (x2 + 1) x3) else none))
set_option maxRecDepth 100000 in
set_option maxHeartbeats 4000000 in
theorem c_Arr__fill_L5 {l : Launch} {D : va_G} {cI cL cZ : ClassId} {p : Program} {e : Env} {s : State} {m : MethodId} {args : Array Value} {below : List Frame} {meth : Method} {c : Code} {A : Nat → Prop} (q_0 : Nat) (out : Arr) (X : X_Arr__fill p s m args c D cI cL cZ A) (N : nk NM0 NF0 s) (hr : meth.sig.returnType = none) (hlk : meth.locks = false) : ∀ (nn : Nat), ∀ (p_0 : Arr) (x1 : Int32) (x2 : Int32) (x3 : Int32), m_Arr__fill_L5 nn p_0 x1 x2 x3 = some out → J_Arr__fill p l e s m args below meth c D cI cL cZ A (O_Arr__fill cI cL cZ q_0 out) 0 0 (([(q_0, .inl (cI, p_0.1, .inl p_0.2))] : va_W)) 0 0 5 [(0, .ref q_0), (1, .int x1), (2, .int x2), (3, .int x3)] [] := by
  intro nn
  induction nn with
  | zero => intro p_0 x1 x2 x3 hm; exact absurd hm (by simp [m_Arr__fill_L5])
  | succ nn ih5 =>
    intro p_0 x1 x2 x3 hm
    unfold m_Arr__fill_L5 at hm
    refine aj_iload_n X d_Arr__fill_5 2 rfl ?_
    refine aj_iload_n X d_Arr__fill_6 3 rfl ?_
    refine aj_icmp_ge X 20 d_Arr__fill_7 (by decide) (fun h => ?_) (fun h => ?_)
    · have hm := ite_t hm h
      have ho := Option.some.inj hm
      subst ho
      exact aj_vret X d_Arr__fill_20 hr hlk [0] (([(q_0, .inl (cI, p_0.1, .inl p_0.2))] : va_W)) rfl rfl rfl
    · have hm := ite_f hm h
      refine aj_aload_n X d_Arr__fill_10 0 rfl ?_
      refine aj_iload_n X d_Arr__fill_11 2 rfl ?_
      refine aj_iload_n X d_Arr__fill_12 1 rfl ?_
      obtain ⟨b1, hm⟩ := chk_of hm
      refine aj_iast (ws' := ([(q_0, .inl (cI, p_0.1, .inl (upd p_0.2 (x2).toNatClampNeg x1)))] : va_W)) X d_Arr__fill_13 0 0 rfl rfl b1 rfl ?_
      refine aj_iinc (v := (x2 + 1)) (lv' := [(2, .int (x2 + 1)), (0, .ref q_0), (1, .int x1), (3, .int x3)]) X d_Arr__fill_14 2 rfl rfl (by decide) rfl ?_
      refine aj_goto X 5 d_Arr__fill_17 (by decide) ?_
      refine aj_lv (lv' := [(0, .ref q_0), (1, .int x1), (2, .int (x2 + 1)), (3, .int x3)]) [1, 2, 0, 3] rfl ?_
      exact ih5 (p_0.1, (upd p_0.2 (x2).toNatClampNeg x1)) x1 (x2 + 1) x3 hm
def m_Arr__fill (p_0 : Arr) (x1 : Int32) : Option (Arr) := (m_Arr__fill_L5 fu p_0 x1 (0 : Int32) (Int32.ofNat p_0.1))
set_option maxRecDepth 100000 in
set_option maxHeartbeats 4000000 in
theorem c_Arr__fill {l : Launch} {D : va_G} {cI cL cZ : ClassId} (q_0 : Nat) (p_0 : Arr) (x1 : Int32) (out : Arr) (hm : m_Arr__fill p_0 x1 = some out) : ct l y_Arr__fill (Cond.code y_Arr__fill b_Arr__fill 4 none :: TB) 0 0 D clss (ty3 cI cL cZ) NM0 NF0 [.ref q_0, .int x1] (([(q_0, .inl (cI, p_0.1, .inl p_0.2))] : va_W)) (qV D clss (ty3 cI cL cZ) (O_Arr__fill cI cL cZ q_0 out)) 0 0 := by
  refine ct_of (by decide +kernel) (Nat.le_of_ble_eq_true rfl) (fun p e s m args below meth c A X N hr hlk hnm => ?_)
  refine aj_lv (lv' := [(0, .ref q_0), (1, .int x1)]) [0, 1] rfl ?_
  unfold m_Arr__fill at hm
  refine aj_iconst (v := (0 : Int32)) X d_Arr__fill_0 (by decide) ?_
  refine aj_istore_n (lv' := [(2, .int (0 : Int32)), (0, .ref q_0), (1, .int x1)]) X d_Arr__fill_1 rfl (by decide) rfl ?_
  refine aj_aload_n X d_Arr__fill_2 1 rfl ?_
  refine aj_alen X d_Arr__fill_3 0 0 rfl rfl ?_
  refine aj_istore_n (lv' := [(3, .int (Int32.ofNat p_0.1)), (2, .int (0 : Int32)), (0, .ref q_0), (1, .int x1)]) X d_Arr__fill_4 rfl (by decide) rfl ?_
  refine aj_lv (lv' := [(0, .ref q_0), (1, .int x1), (2, .int (0 : Int32)), (3, .int (Int32.ofNat p_0.1))]) [2, 3, 1, 0] rfl ?_
  exact c_Arr__fill_L5 q_0 out X N hr hlk fu p_0 x1 (0 : Int32) (Int32.ofNat p_0.1) hm
abbrev X_Sto_init (p : Program) (s : State) (m : MethodId) (args : Array Value) (c : Code) (D : va_G) (cI cL cZ : ClassId) (A : Nat → Prop) : Prop := aj_C p s m args c D clss (ty3 cI cL cZ) A b_Sto_init 2 R_Sto TB
abbrev J_Sto_init (p : Program) (l : Launch) (e : Env) (s : State) (m : MethodId) (args : Array Value) (below : List Frame) (meth : Method) (c : Code) (D : va_G) (cI cL cZ : ClassId) (A : Nat → Prop) (O : va_W → Prop) (mc ms : Nat) (ws : va_W) (kc ks pc : Nat) (lv : List (Nat × Value)) (st : List Value) : Prop := aj p l e { frames := 1, cells := mc, slots := ms, locals := 23 } s m args below meth c (MQ below (qV D clss (ty3 cI cL cZ) O A) args s mc ms A) D clss A 2 ws kc ks pc lv st
def O_Sto_init (cI cL cZ : ClassId) (o_Sto : Nat) (out : T_Sto) : va_W → Prop := fun w1 => ∃ (a_Sto_0 a_Sto_1 a_Sto_2 a_Sto_3 a_Sto_4 : Nat), w1 = w_Sto cI cL cZ o_Sto a_Sto_0 a_Sto_1 a_Sto_2 a_Sto_3 a_Sto_4 out
def m_Sto_init (x1 : Int32) : Option ((T_Sto) × Nat × Nat) := (if ¬ (32 : Int32) < 0 ∧ ((32 : Int32)).toNatClampNeg * 4 ≤ 536870912 then addc 1 ((32 : Int32)).toNatClampNeg (if ¬ (32 : Int32) < 0 ∧ ((32 : Int32)).toNatClampNeg * 4 ≤ 536870912 then addc 1 ((32 : Int32)).toNatClampNeg (if ¬ (32 : Int32) < 0 ∧ ((32 : Int32)).toNatClampNeg * 4 ≤ 536870912 then addc 1 ((32 : Int32)).toNatClampNeg (if ¬ ((2 : Int32) * x1) < 0 ∧ (((2 : Int32) * x1)).toNatClampNeg * 4 ≤ 536870912 then addc 1 (((2 : Int32) * x1)).toNatClampNeg ((m_Arr__fill ((((2 : Int32) * x1)).toNatClampNeg, (fun _ => 0)) (-1 : Int32)).bind fun r25 => (if ¬ (16 : Int32) < 0 ∧ ((16 : Int32)).toNatClampNeg * 4 ≤ 536870912 then addc 1 ((16 : Int32)).toNatClampNeg (some (((0 : Int32), (0 : Int32), (((32 : Int32)).toNatClampNeg, (fun _ => 0)), (((32 : Int32)).toNatClampNeg, (fun _ => 0)), (((32 : Int32)).toNatClampNeg, (fun _ => 0)), r25, (((16 : Int32)).toNatClampNeg, (fun _ => 0))), 0, 0)) else none)) else none) else none) else none) else none)
set_option maxRecDepth 100000 in
set_option maxHeartbeats 4000000 in
theorem c_Sto_init {l : Launch} {D : va_G} {cI cL cZ : ClassId} (o_Sto : Nat) (x1 : Int32) (out : T_Sto) (mc ms : Nat) (hm : m_Sto_init x1 = some (out, mc, ms)) : ct l y_Sto_init (Cond.code y_Sto_init b_Sto_init 2 none :: TB) 1 23 D clss (ty3 cI cL cZ) NM0 NF0 [.ref o_Sto, .int x1] (([(o_Sto, .inr (3, [.int (0 : Int32), .int (0 : Int32), .null, .null, .null, .null, .null]))] : va_W)) (qV D clss (ty3 cI cL cZ) (O_Sto_init cI cL cZ o_Sto out)) mc ms := by
  refine ct_of (plainFor_of_name (by decide)) (Nat.le_of_ble_eq_true rfl) (fun p e s m args below meth c A X N hr hlk hnm => ?_)
  refine aj_lv (lv' := [(0, .ref o_Sto), (1, .int x1)]) [0, 1] rfl ?_
  unfold m_Sto_init at hm
  have hkc : 0 + mc = mc := Nat.zero_add _
  have hks : 0 + ms = ms := Nat.zero_add _
  refine aj_aload_n X d_Sto_init_0 0 rfl ?_
  refine aj_objInit X d_Sto_init_1 lo_Sto_3.1 lo_Sto_3.2.1 lo_Sto_3.2.2 (Nat.le_of_ble_eq_true rfl) (Nat.le_of_ble_eq_true rfl) ?_
  refine aj_aload_n X d_Sto_init_4 0 rfl ?_
  refine aj_iconst (v := (0 : Int32)) X d_Sto_init_5 (by decide) ?_
  refine aj_put (ws' := ([(o_Sto, .inr (3, [.int (0 : Int32), .int (0 : Int32), .null, .null, .null, .null, .null]))] : va_W)) X d_Sto_init_6 in_Sto ty_Sto tyok_Sto nmx_Sto 0 rfl rfl 0 (by decide) lf_Sto_9 rfl rfl rfl (Nat.le_of_ble_eq_true rfl) rfl ?_
  refine aj_aload_n X d_Sto_init_9 0 rfl ?_
  refine aj_iconst (v := (0 : Int32)) X d_Sto_init_10 (by decide) ?_
  refine aj_put (ws' := ([(o_Sto, .inr (3, [.int (0 : Int32), .int (0 : Int32), .null, .null, .null, .null, .null]))] : va_W)) X d_Sto_init_11 in_Sto ty_Sto tyok_Sto nmx_Sto 0 rfl rfl 1 (by decide) lf_Sto_15 rfl rfl rfl (Nat.le_of_ble_eq_true rfl) rfl ?_
  refine aj_aload_n X d_Sto_init_14 0 rfl ?_
  refine aj_bipush (v := (32 : Int32)) X d_Sto_init_15 (by decide) ?_
  obtain ⟨b15, hm⟩ := chk_of hm
  obtain ⟨dc, ds, hm, e1, e2⟩ := addc_of hm
  have hkc := kc_step hkc e1
  have hks := kc_step hks e2
  refine aj_newI X d_Sto_init_17 lz_int 0 rfl b15.1 b15.2 (kc_le hkc) (kc_le hks) (fun q13 => ?_)
  refine aj_ws (ws' := ([(o_Sto, .inr (3, [.int (0 : Int32), .int (0 : Int32), .null, .null, .null, .null, .null])), (q13, .inl (cI, ((32 : Int32)).toNatClampNeg, .inl (fun _ => 0)))] : va_W)) rfl ?_
  refine aj_put (ws' := ([(o_Sto, .inr (3, [.int (0 : Int32), .int (0 : Int32), .ref q13, .null, .null, .null, .null])), (q13, .inl (cI, ((32 : Int32)).toNatClampNeg, .inl (fun _ => 0)))] : va_W)) X d_Sto_init_19 in_Sto ty_Sto tyok_Sto nmx_Sto 0 rfl rfl 2 (by decide) lf_Sto_18 rfl rfl rfl (Nat.le_of_ble_eq_true rfl) rfl ?_
  refine aj_aload_n X d_Sto_init_22 0 rfl ?_
  refine aj_bipush (v := (32 : Int32)) X d_Sto_init_23 (by decide) ?_
  obtain ⟨b18, hm⟩ := chk_of hm
  obtain ⟨dc, ds, hm, e1, e2⟩ := addc_of hm
  have hkc := kc_step hkc e1
  have hks := kc_step hks e2
  refine aj_newI X d_Sto_init_25 lz_int 0 rfl b18.1 b18.2 (kc_le hkc) (kc_le hks) (fun q16 => ?_)
  refine aj_ws (ws' := ([(o_Sto, .inr (3, [.int (0 : Int32), .int (0 : Int32), .ref q13, .null, .null, .null, .null])), (q13, .inl (cI, ((32 : Int32)).toNatClampNeg, .inl (fun _ => 0))), (q16, .inl (cI, ((32 : Int32)).toNatClampNeg, .inl (fun _ => 0)))] : va_W)) rfl ?_
  refine aj_put (ws' := ([(o_Sto, .inr (3, [.int (0 : Int32), .int (0 : Int32), .ref q13, .ref q16, .null, .null, .null])), (q13, .inl (cI, ((32 : Int32)).toNatClampNeg, .inl (fun _ => 0))), (q16, .inl (cI, ((32 : Int32)).toNatClampNeg, .inl (fun _ => 0)))] : va_W)) X d_Sto_init_27 in_Sto ty_Sto tyok_Sto nmx_Sto 0 rfl rfl 3 (by decide) lf_Sto_22 rfl rfl rfl (Nat.le_of_ble_eq_true rfl) rfl ?_
  refine aj_aload_n X d_Sto_init_30 0 rfl ?_
  refine aj_bipush (v := (32 : Int32)) X d_Sto_init_31 (by decide) ?_
  obtain ⟨b21, hm⟩ := chk_of hm
  obtain ⟨dc, ds, hm, e1, e2⟩ := addc_of hm
  have hkc := kc_step hkc e1
  have hks := kc_step hks e2
  refine aj_newI X d_Sto_init_33 lz_int 0 rfl b21.1 b21.2 (kc_le hkc) (kc_le hks) (fun q19 => ?_)
  refine aj_ws (ws' := ([(o_Sto, .inr (3, [.int (0 : Int32), .int (0 : Int32), .ref q13, .ref q16, .null, .null, .null])), (q13, .inl (cI, ((32 : Int32)).toNatClampNeg, .inl (fun _ => 0))), (q16, .inl (cI, ((32 : Int32)).toNatClampNeg, .inl (fun _ => 0))), (q19, .inl (cI, ((32 : Int32)).toNatClampNeg, .inl (fun _ => 0)))] : va_W)) rfl ?_
  refine aj_put (ws' := ([(o_Sto, .inr (3, [.int (0 : Int32), .int (0 : Int32), .ref q13, .ref q16, .ref q19, .null, .null])), (q13, .inl (cI, ((32 : Int32)).toNatClampNeg, .inl (fun _ => 0))), (q16, .inl (cI, ((32 : Int32)).toNatClampNeg, .inl (fun _ => 0))), (q19, .inl (cI, ((32 : Int32)).toNatClampNeg, .inl (fun _ => 0)))] : va_W)) X d_Sto_init_35 in_Sto ty_Sto tyok_Sto nmx_Sto 0 rfl rfl 4 (by decide) lf_Sto_25 rfl rfl rfl (Nat.le_of_ble_eq_true rfl) rfl ?_
  refine aj_aload_n X d_Sto_init_38 0 rfl ?_
  refine aj_iconst (v := (2 : Int32)) X d_Sto_init_39 (by decide) ?_
  refine aj_iload_n X d_Sto_init_40 1 rfl ?_
  refine aj_imul X d_Sto_init_41 ?_
  obtain ⟨b24, hm⟩ := chk_of hm
  obtain ⟨dc, ds, hm, e1, e2⟩ := addc_of hm
  have hkc := kc_step hkc e1
  have hks := kc_step hks e2
  refine aj_newI X d_Sto_init_42 lz_int 0 rfl b24.1 b24.2 (kc_le hkc) (kc_le hks) (fun q22 => ?_)
  refine aj_ws (ws' := ([(o_Sto, .inr (3, [.int (0 : Int32), .int (0 : Int32), .ref q13, .ref q16, .ref q19, .null, .null])), (q13, .inl (cI, ((32 : Int32)).toNatClampNeg, .inl (fun _ => 0))), (q16, .inl (cI, ((32 : Int32)).toNatClampNeg, .inl (fun _ => 0))), (q19, .inl (cI, ((32 : Int32)).toNatClampNeg, .inl (fun _ => 0))), (q22, .inl (cI, (((2 : Int32) * x1)).toNatClampNeg, .inl (fun _ => 0)))] : va_W)) rfl ?_
  refine aj_putF (ws' := ([(o_Sto, .inr (3, [.int (0 : Int32), .int (0 : Int32), .ref q13, .ref q16, .ref q19, .ref q22, .null])), (q13, .inl (cI, ((32 : Int32)).toNatClampNeg, .inl (fun _ => 0))), (q16, .inl (cI, ((32 : Int32)).toNatClampNeg, .inl (fun _ => 0))), (q19, .inl (cI, ((32 : Int32)).toNatClampNeg, .inl (fun _ => 0))), (q22, .inl (cI, (((2 : Int32) * x1)).toNatClampNeg, .inl (fun _ => 0)))] : va_W)) X d_Sto_init_44 in_Sto ty_Sto tyok_Sto nmx_Sto 0 rfl rfl 5 (by decide) lf_Sto_28 rfl hnm rfl rfl rfl (Nat.le_of_ble_eq_true rfl) rfl ?_
  refine aj_aload_n X d_Sto_init_47 0 rfl ?_
  refine aj_get X d_Sto_init_48 in_Sto 0 rfl rfl 5 (by decide) lf_Sto_28 rfl ?_
  refine aj_iconst (v := (-1 : Int32)) X d_Sto_init_51 (by decide) ?_
  obtain ⟨r25, h26, hm⟩ := bnd_of hm
  refine aj_callV (wr := [(o_Sto, .inr (3, [.int (0 : Int32), .int (0 : Int32), .ref q13, .ref q16, .ref q19, .ref q22, .null])), (q13, .inl (cI, ((32 : Int32)).toNatClampNeg, .inl (fun _ => 0))), (q16, .inl (cI, ((32 : Int32)).toNatClampNeg, .inl (fun _ => 0))), (q19, .inl (cI, ((32 : Int32)).toNatClampNeg, .inl (fun _ => 0)))]) X (aj_rS (As := [.ref q22, .int (-1 : Int32)]) (rest := []) X N gTB (c_Arr__fill (D := D) (cI := cI) (cL := cL) (cZ := cZ) q22 ((((2 : Int32) * x1)).toNatClampNeg, (fun _ => 0)) (-1 : Int32) r25 h26) d_Sto_init_52 lk_Arr__fill lw_Sto_31 lh_Arr__fill ⟨(Nat.le_of_ble_eq_true rfl), (Nat.le_of_ble_eq_true rfl)⟩ [4] rfl rfl rfl (Nat.le_of_ble_eq_true rfl) ⟨kc_le1 hkc, kc_le1 hks⟩) [4] [0, 1, 2, 3] rfl rfl rfl (by decide) (fun w1 hO => ?_)
  have hkc := kc_zero hkc
  have hks := kc_zero hks
  obtain rfl := hO
  refine aj_perm (ws' := ([(o_Sto, .inr (3, [.int (0 : Int32), .int (0 : Int32), .ref q13, .ref q16, .ref q19, .ref q22, .null])), (q13, .inl (cI, ((32 : Int32)).toNatClampNeg, .inl (fun _ => 0))), (q16, .inl (cI, ((32 : Int32)).toNatClampNeg, .inl (fun _ => 0))), (q19, .inl (cI, ((32 : Int32)).toNatClampNeg, .inl (fun _ => 0))), (q22, .inl (cI, r25.1, .inl r25.2))] : va_W)) [0, 1, 2, 3, 4] rfl rfl ?_
  refine aj_aload_n X d_Sto_init_55 0 rfl ?_
  refine aj_bipush (v := (16 : Int32)) X d_Sto_init_56 (by decide) ?_
  obtain ⟨b29, hm⟩ := chk_of hm
  obtain ⟨dc, ds, hm, e1, e2⟩ := addc_of hm
  have hkc := kc_step hkc e1
  have hks := kc_step hks e2
  refine aj_newI X d_Sto_init_58 lz_int 0 rfl b29.1 b29.2 (kc_le hkc) (kc_le hks) (fun q27 => ?_)
  refine aj_ws (ws' := ([(o_Sto, .inr (3, [.int (0 : Int32), .int (0 : Int32), .ref q13, .ref q16, .ref q19, .ref q22, .null])), (q13, .inl (cI, ((32 : Int32)).toNatClampNeg, .inl (fun _ => 0))), (q16, .inl (cI, ((32 : Int32)).toNatClampNeg, .inl (fun _ => 0))), (q19, .inl (cI, ((32 : Int32)).toNatClampNeg, .inl (fun _ => 0))), (q22, .inl (cI, r25.1, .inl r25.2)), (q27, .inl (cI, ((16 : Int32)).toNatClampNeg, .inl (fun _ => 0)))] : va_W)) rfl ?_
  refine aj_put (ws' := ([(o_Sto, .inr (3, [.int (0 : Int32), .int (0 : Int32), .ref q13, .ref q16, .ref q19, .ref q22, .ref q27])), (q13, .inl (cI, ((32 : Int32)).toNatClampNeg, .inl (fun _ => 0))), (q16, .inl (cI, ((32 : Int32)).toNatClampNeg, .inl (fun _ => 0))), (q19, .inl (cI, ((32 : Int32)).toNatClampNeg, .inl (fun _ => 0))), (q22, .inl (cI, r25.1, .inl r25.2)), (q27, .inl (cI, ((16 : Int32)).toNatClampNeg, .inl (fun _ => 0)))] : va_W)) X d_Sto_init_60 in_Sto ty_Sto tyok_Sto nmx_Sto 0 rfl rfl 6 (by decide) lf_Sto_37 rfl rfl rfl (Nat.le_of_ble_eq_true rfl) rfl ?_
  obtain ⟨ho, e1, e2⟩ := res_of hm
  subst ho
  obtain rfl := kc_end hkc e1
  obtain rfl := kc_end hks e2
  exact aj_vret X d_Sto_init_63 hr hlk [0, 1, 2, 3, 4, 5] (w_Sto cI cL cZ o_Sto q13 q16 q19 q22 q27 ((0 : Int32), (0 : Int32), (((32 : Int32)).toNatClampNeg, (fun _ => 0)), (((32 : Int32)).toNatClampNeg, (fun _ => 0)), (((32 : Int32)).toNatClampNeg, (fun _ => 0)), r25, (((16 : Int32)).toNatClampNeg, (fun _ => 0)))) rfl rfl ⟨q13, q16, q19, q22, q27, rfl⟩
abbrev X_Pla_init (p : Program) (s : State) (m : MethodId) (args : Array Value) (c : Code) (D : va_G) (cI cL cZ : ClassId) (A : Nat → Prop) : Prop := aj_C p s m args c D clss (ty3 cI cL cZ) A b_Pla_init 2 R_Pla TB
abbrev J_Pla_init (p : Program) (l : Launch) (e : Env) (s : State) (m : MethodId) (args : Array Value) (below : List Frame) (meth : Method) (c : Code) (D : va_G) (cI cL cZ : ClassId) (A : Nat → Prop) (O : va_W → Prop) (mc ms : Nat) (ws : va_W) (kc ks pc : Nat) (lv : List (Nat × Value)) (st : List Value) : Prop := aj p l e { frames := 1, cells := mc, slots := ms, locals := 23 } s m args below meth c (MQ below (qV D clss (ty3 cI cL cZ) O A) args s mc ms A) D clss A 2 ws kc ks pc lv st
def O_Pla_init (cI cL cZ : ClassId) (o_Pla : Nat) (out : T_Pla) : va_W → Prop := fun w1 => ∃ (a_Pla_0 a_Pla_1 : Nat), w1 = w_Pla cI cL cZ o_Pla a_Pla_0 a_Pla_1 out
def m_Pla_init (x1 : Int32) : Option ((T_Pla) × Nat × Nat) := (if ¬ x1 < 0 ∧ (x1).toNatClampNeg * 4 ≤ 536870912 then addc 1 (x1).toNatClampNeg (if ¬ x1 < 0 ∧ (x1).toNatClampNeg * 4 ≤ 536870912 then addc 1 (x1).toNatClampNeg ((m_Arr__fill ((x1).toNatClampNeg, (fun _ => 0)) (-1 : Int32)).bind fun r15 => ((m_Arr__fill ((x1).toNatClampNeg, (fun _ => 0)) (-1 : Int32)).bind fun r17 => (some ((r15, r17), 0, 0)))) else none) else none)
set_option maxRecDepth 100000 in
set_option maxHeartbeats 4000000 in
theorem c_Pla_init {l : Launch} {D : va_G} {cI cL cZ : ClassId} (o_Pla : Nat) (x1 : Int32) (out : T_Pla) (mc ms : Nat) (hm : m_Pla_init x1 = some (out, mc, ms)) : ct l y_Pla_init (Cond.code y_Pla_init b_Pla_init 2 none :: TB) 1 23 D clss (ty3 cI cL cZ) NM0 NF0 [.ref o_Pla, .int x1] (([(o_Pla, .inr (1, [.null, .null]))] : va_W)) (qV D clss (ty3 cI cL cZ) (O_Pla_init cI cL cZ o_Pla out)) mc ms := by
  refine ct_of (plainFor_of_name (by decide)) (Nat.le_of_ble_eq_true rfl) (fun p e s m args below meth c A X N hr hlk hnm => ?_)
  refine aj_lv (lv' := [(0, .ref o_Pla), (1, .int x1)]) [0, 1] rfl ?_
  unfold m_Pla_init at hm
  have hkc : 0 + mc = mc := Nat.zero_add _
  have hks : 0 + ms = ms := Nat.zero_add _
  refine aj_aload_n X d_Pla_init_0 0 rfl ?_
  refine aj_objInit X d_Pla_init_1 lo_Pla_3.1 lo_Pla_3.2.1 lo_Pla_3.2.2 (Nat.le_of_ble_eq_true rfl) (Nat.le_of_ble_eq_true rfl) ?_
  refine aj_aload_n X d_Pla_init_4 0 rfl ?_
  refine aj_iload_n X d_Pla_init_5 1 rfl ?_
  obtain ⟨b11, hm⟩ := chk_of hm
  obtain ⟨dc, ds, hm, e1, e2⟩ := addc_of hm
  have hkc := kc_step hkc e1
  have hks := kc_step hks e2
  refine aj_newI X d_Pla_init_6 lz_int 0 rfl b11.1 b11.2 (kc_le hkc) (kc_le hks) (fun q9 => ?_)
  refine aj_ws (ws' := ([(o_Pla, .inr (1, [.null, .null])), (q9, .inl (cI, (x1).toNatClampNeg, .inl (fun _ => 0)))] : va_W)) rfl ?_
  refine aj_putF (ws' := ([(o_Pla, .inr (1, [.ref q9, .null])), (q9, .inl (cI, (x1).toNatClampNeg, .inl (fun _ => 0)))] : va_W)) X d_Pla_init_8 in_Pla ty_Pla tyok_Pla nmx_Pla 0 rfl rfl 0 (by decide) lf_Pla_9 rfl hnm rfl rfl rfl (Nat.le_of_ble_eq_true rfl) rfl ?_
  refine aj_aload_n X d_Pla_init_11 0 rfl ?_
  refine aj_iload_n X d_Pla_init_12 1 rfl ?_
  obtain ⟨b14, hm⟩ := chk_of hm
  obtain ⟨dc, ds, hm, e1, e2⟩ := addc_of hm
  have hkc := kc_step hkc e1
  have hks := kc_step hks e2
  refine aj_newI X d_Pla_init_13 lz_int 0 rfl b14.1 b14.2 (kc_le hkc) (kc_le hks) (fun q12 => ?_)
  refine aj_ws (ws' := ([(o_Pla, .inr (1, [.ref q9, .null])), (q9, .inl (cI, (x1).toNatClampNeg, .inl (fun _ => 0))), (q12, .inl (cI, (x1).toNatClampNeg, .inl (fun _ => 0)))] : va_W)) rfl ?_
  refine aj_putF (ws' := ([(o_Pla, .inr (1, [.ref q9, .ref q12])), (q9, .inl (cI, (x1).toNatClampNeg, .inl (fun _ => 0))), (q12, .inl (cI, (x1).toNatClampNeg, .inl (fun _ => 0)))] : va_W)) X d_Pla_init_15 in_Pla ty_Pla tyok_Pla nmx_Pla 0 rfl rfl 1 (by decide) lf_Pla_15 rfl hnm rfl rfl rfl (Nat.le_of_ble_eq_true rfl) rfl ?_
  refine aj_aload_n X d_Pla_init_18 0 rfl ?_
  refine aj_get X d_Pla_init_19 in_Pla 0 rfl rfl 0 (by decide) lf_Pla_9 rfl ?_
  refine aj_iconst (v := (-1 : Int32)) X d_Pla_init_22 (by decide) ?_
  obtain ⟨r15, h16, hm⟩ := bnd_of hm
  refine aj_callV (wr := [(o_Pla, .inr (1, [.ref q9, .ref q12])), (q12, .inl (cI, (x1).toNatClampNeg, .inl (fun _ => 0)))]) X (aj_rS (As := [.ref q9, .int (-1 : Int32)]) (rest := []) X N gTB (c_Arr__fill (D := D) (cI := cI) (cL := cL) (cZ := cZ) q9 ((x1).toNatClampNeg, (fun _ => 0)) (-1 : Int32) r15 h16) d_Pla_init_23 lk_Arr__fill lw_Pla_18 lh_Arr__fill ⟨(Nat.le_of_ble_eq_true rfl), (Nat.le_of_ble_eq_true rfl)⟩ [1] rfl rfl rfl (Nat.le_of_ble_eq_true rfl) ⟨kc_le1 hkc, kc_le1 hks⟩) [1] [0, 2] rfl rfl rfl (by decide) (fun w1 hO => ?_)
  have hkc := kc_zero hkc
  have hks := kc_zero hks
  obtain rfl := hO
  refine aj_perm (ws' := ([(o_Pla, .inr (1, [.ref q9, .ref q12])), (q9, .inl (cI, r15.1, .inl r15.2)), (q12, .inl (cI, (x1).toNatClampNeg, .inl (fun _ => 0)))] : va_W)) [0, 2, 1] rfl rfl ?_
  refine aj_aload_n X d_Pla_init_26 0 rfl ?_
  refine aj_get X d_Pla_init_27 in_Pla 0 rfl rfl 1 (by decide) lf_Pla_15 rfl ?_
  refine aj_iconst (v := (-1 : Int32)) X d_Pla_init_30 (by decide) ?_
  obtain ⟨r17, h18, hm⟩ := bnd_of hm
  refine aj_callV (wr := [(o_Pla, .inr (1, [.ref q9, .ref q12])), (q9, .inl (cI, r15.1, .inl r15.2))]) X (aj_rS (As := [.ref q12, .int (-1 : Int32)]) (rest := []) X N gTB (c_Arr__fill (D := D) (cI := cI) (cL := cL) (cZ := cZ) q12 ((x1).toNatClampNeg, (fun _ => 0)) (-1 : Int32) r17 h18) d_Pla_init_31 lk_Arr__fill lw_Pla_18 lh_Arr__fill ⟨(Nat.le_of_ble_eq_true rfl), (Nat.le_of_ble_eq_true rfl)⟩ [2] rfl rfl rfl (Nat.le_of_ble_eq_true rfl) ⟨kc_le1 hkc, kc_le1 hks⟩) [2] [0, 1] rfl rfl rfl (by decide) (fun w1 hO => ?_)
  have hkc := kc_zero hkc
  have hks := kc_zero hks
  obtain rfl := hO
  refine aj_perm (ws' := ([(o_Pla, .inr (1, [.ref q9, .ref q12])), (q9, .inl (cI, r15.1, .inl r15.2)), (q12, .inl (cI, r17.1, .inl r17.2))] : va_W)) [0, 1, 2] rfl rfl ?_
  obtain ⟨ho, e1, e2⟩ := res_of hm
  subst ho
  obtain rfl := kc_end hkc e1
  obtain rfl := kc_end hks e2
  exact aj_vret X d_Pla_init_34 hr hlk [0, 1, 2] (w_Pla cI cL cZ o_Pla q9 q12 (r15, r17)) rfl rfl ⟨q9, q12, rfl⟩
abbrev X_Ass_init (p : Program) (s : State) (m : MethodId) (args : Array Value) (c : Code) (D : va_G) (cI cL cZ : ClassId) (A : Nat → Prop) : Prop := aj_C p s m args c D clss (ty3 cI cL cZ) A b_Ass_init 1 R_Ass TB
abbrev J_Ass_init (p : Program) (l : Launch) (e : Env) (s : State) (m : MethodId) (args : Array Value) (below : List Frame) (meth : Method) (c : Code) (D : va_G) (cI cL cZ : ClassId) (A : Nat → Prop) (O : va_W → Prop) (mc ms : Nat) (ws : va_W) (kc ks pc : Nat) (lv : List (Nat × Value)) (st : List Value) : Prop := aj p l e { frames := 1, cells := mc, slots := ms, locals := 20 } s m args below meth c (MQ below (qV D clss (ty3 cI cL cZ) O A) args s mc ms A) D clss A 1 ws kc ks pc lv st
def O_Ass_init (cI cL cZ : ClassId) (o_Ass : Nat) (out : T_Ass) : va_W → Prop := fun w1 => ∃ (a_Ass_0 : Nat), w1 = w_Ass cI cL cZ o_Ass a_Ass_0 out
def m_Ass_init : Option ((T_Ass) × Nat × Nat) := (if ¬ (40 : Int32) < 0 ∧ ((40 : Int32)).toNatClampNeg * 4 ≤ 536870912 then addc 1 ((40 : Int32)).toNatClampNeg (some (((0 : Int32), (((40 : Int32)).toNatClampNeg, (fun _ => 0))), 0, 0)) else none)
set_option maxRecDepth 100000 in
set_option maxHeartbeats 4000000 in
theorem c_Ass_init {l : Launch} {D : va_G} {cI cL cZ : ClassId} (o_Ass : Nat) (out : T_Ass) (mc ms : Nat) (hm : m_Ass_init = some (out, mc, ms)) : ct l y_Ass_init (Cond.code y_Ass_init b_Ass_init 1 none :: TB) 1 20 D clss (ty3 cI cL cZ) NM0 NF0 [.ref o_Ass] (([(o_Ass, .inr (0, [.int (0 : Int32), .null]))] : va_W)) (qV D clss (ty3 cI cL cZ) (O_Ass_init cI cL cZ o_Ass out)) mc ms := by
  refine ct_of (plainFor_of_name (by decide)) (Nat.le_of_ble_eq_true rfl) (fun p e s m args below meth c A X N hr hlk hnm => ?_)
  refine aj_lv (lv' := [(0, .ref o_Ass)]) [0] rfl ?_
  unfold m_Ass_init at hm
  have hkc : 0 + mc = mc := Nat.zero_add _
  have hks : 0 + ms = ms := Nat.zero_add _
  refine aj_aload_n X d_Ass_init_0 0 rfl ?_
  refine aj_objInit X d_Ass_init_1 lo_Ass_3.1 lo_Ass_3.2.1 lo_Ass_3.2.2 (Nat.le_of_ble_eq_true rfl) (Nat.le_of_ble_eq_true rfl) ?_
  refine aj_aload_n X d_Ass_init_4 0 rfl ?_
  refine aj_iconst (v := (0 : Int32)) X d_Ass_init_5 (by decide) ?_
  refine aj_put (ws' := ([(o_Ass, .inr (0, [.int (0 : Int32), .null]))] : va_W)) X d_Ass_init_6 in_Ass ty_Ass tyok_Ass nmx_Ass 0 rfl rfl 0 (by decide) lf_Ass_9 rfl rfl rfl (Nat.le_of_ble_eq_true rfl) rfl ?_
  refine aj_aload_n X d_Ass_init_9 0 rfl ?_
  refine aj_bipush (v := (40 : Int32)) X d_Ass_init_10 (by decide) ?_
  obtain ⟨b5, hm⟩ := chk_of hm
  obtain ⟨dc, ds, hm, e1, e2⟩ := addc_of hm
  have hkc := kc_step hkc e1
  have hks := kc_step hks e2
  refine aj_newI X d_Ass_init_12 lz_int 0 rfl b5.1 b5.2 (kc_le hkc) (kc_le hks) (fun q3 => ?_)
  refine aj_ws (ws' := ([(o_Ass, .inr (0, [.int (0 : Int32), .null])), (q3, .inl (cI, ((40 : Int32)).toNatClampNeg, .inl (fun _ => 0)))] : va_W)) rfl ?_
  refine aj_putF (ws' := ([(o_Ass, .inr (0, [.int (0 : Int32), .ref q3])), (q3, .inl (cI, ((40 : Int32)).toNatClampNeg, .inl (fun _ => 0)))] : va_W)) X d_Ass_init_14 in_Ass ty_Ass tyok_Ass nmx_Ass 0 rfl rfl 1 (by decide) lf_Ass_15 rfl hnm rfl rfl rfl (Nat.le_of_ble_eq_true rfl) rfl ?_
  obtain ⟨ho, e1, e2⟩ := res_of hm
  subst ho
  obtain rfl := kc_end hkc e1
  obtain rfl := kc_end hks e2
  exact aj_vret X d_Ass_init_17 hr hlk [0, 1] (w_Ass cI cL cZ o_Ass q3 ((0 : Int32), (((40 : Int32)).toNatClampNeg, (fun _ => 0)))) rfl rfl ⟨q3, rfl⟩
abbrev X_Tal_init (p : Program) (s : State) (m : MethodId) (args : Array Value) (c : Code) (D : va_G) (cI cL cZ : ClassId) (A : Nat → Prop) : Prop := aj_C p s m args c D clss (ty3 cI cL cZ) A b_Tal_init 2 R_Tal TB
abbrev J_Tal_init (p : Program) (l : Launch) (e : Env) (s : State) (m : MethodId) (args : Array Value) (below : List Frame) (meth : Method) (c : Code) (D : va_G) (cI cL cZ : ClassId) (A : Nat → Prop) (O : va_W → Prop) (mc ms : Nat) (ws : va_W) (kc ks pc : Nat) (lv : List (Nat × Value)) (st : List Value) : Prop := aj p l e { frames := 1, cells := mc, slots := ms, locals := 20 } s m args below meth c (MQ below (qV D clss (ty3 cI cL cZ) O A) args s mc ms A) D clss A 2 ws kc ks pc lv st
def O_Tal_init (cI cL cZ : ClassId) (o_Tal o_Sto : Nat) (out : T_Tal) : va_W → Prop := fun w1 => ∃ (a_Tal_0 a_Tal_1 a_Tal_2 a_Tal_3 : Nat), w1 = w_Tal cI cL cZ o_Tal o_Sto a_Tal_0 a_Tal_1 a_Tal_2 a_Tal_3 out
def m_Tal_init : Option ((T_Tal) × Nat × Nat) := (if ¬ (24 : Int32) < 0 ∧ ((24 : Int32)).toNatClampNeg * 8 ≤ 536870912 then addc 1 ((24 : Int32)).toNatClampNeg (if ¬ (24 : Int32) < 0 ∧ ((24 : Int32)).toNatClampNeg * 8 ≤ 536870912 then addc 1 ((24 : Int32)).toNatClampNeg (if ¬ (16 : Int32) < 0 ∧ ((16 : Int32)).toNatClampNeg * 4 ≤ 536870912 then addc 1 ((16 : Int32)).toNatClampNeg (if ¬ (16 : Int32) < 0 ∧ ((16 : Int32)).toNatClampNeg * 4 ≤ 536870912 then addc 1 ((16 : Int32)).toNatClampNeg (some (((((24 : Int32)).toNatClampNeg, (fun _ => 0)), (((24 : Int32)).toNatClampNeg, (fun _ => 0)), (((16 : Int32)).toNatClampNeg, (fun _ => 0)), (((16 : Int32)).toNatClampNeg, (fun _ => 0))), 0, 0)) else none) else none) else none) else none)
set_option maxRecDepth 100000 in
set_option maxHeartbeats 4000000 in
theorem c_Tal_init {l : Launch} {D : va_G} {cI cL cZ : ClassId} (o_Tal o_Sto : Nat) (out : T_Tal) (mc ms : Nat) (hm : m_Tal_init = some (out, mc, ms)) : ct l y_Tal_init (Cond.code y_Tal_init b_Tal_init 2 none :: TB) 1 20 D clss (ty3 cI cL cZ) NM0 NF0 [.ref o_Tal, .ref o_Sto] (([(o_Tal, .inr (4, [.null, .null, .null, .null, .null]))] : va_W)) (qV D clss (ty3 cI cL cZ) (O_Tal_init cI cL cZ o_Tal o_Sto out)) mc ms := by
  refine ct_of (plainFor_of_name (by decide)) (Nat.le_of_ble_eq_true rfl) (fun p e s m args below meth c A X N hr hlk hnm => ?_)
  refine aj_lv (lv' := [(0, .ref o_Tal), (1, .ref o_Sto)]) [0, 1] rfl ?_
  unfold m_Tal_init at hm
  have hkc : 0 + mc = mc := Nat.zero_add _
  have hks : 0 + ms = ms := Nat.zero_add _
  refine aj_aload_n X d_Tal_init_0 0 rfl ?_
  refine aj_objInit X d_Tal_init_1 lo_Tal_3.1 lo_Tal_3.2.1 lo_Tal_3.2.2 (Nat.le_of_ble_eq_true rfl) (Nat.le_of_ble_eq_true rfl) ?_
  refine aj_aload_n X d_Tal_init_4 0 rfl ?_
  refine aj_aload_n X d_Tal_init_5 1 rfl ?_
  refine aj_putF (ws' := ([(o_Tal, .inr (4, [.ref o_Sto, .null, .null, .null, .null]))] : va_W)) X d_Tal_init_6 in_Tal ty_Tal tyok_Tal nmx_Tal 0 rfl rfl 0 (by decide) lf_Tal_9 rfl hnm rfl rfl rfl (Nat.le_of_ble_eq_true rfl) rfl ?_
  refine aj_aload_n X d_Tal_init_9 0 rfl ?_
  refine aj_bipush (v := (24 : Int32)) X d_Tal_init_10 (by decide) ?_
  obtain ⟨b11, hm⟩ := chk_of hm
  obtain ⟨dc, ds, hm, e1, e2⟩ := addc_of hm
  have hkc := kc_step hkc e1
  have hks := kc_step hks e2
  refine aj_newL X d_Tal_init_12 lz_long 1 rfl b11.1 b11.2 (kc_le hkc) (kc_le hks) (fun q9 => ?_)
  refine aj_ws (ws' := ([(o_Tal, .inr (4, [.ref o_Sto, .null, .null, .null, .null])), (q9, .inl (cL, ((24 : Int32)).toNatClampNeg, .inr (.inl (fun _ => 0))))] : va_W)) rfl ?_
  refine aj_putF (ws' := ([(o_Tal, .inr (4, [.ref o_Sto, .ref q9, .null, .null, .null])), (q9, .inl (cL, ((24 : Int32)).toNatClampNeg, .inr (.inl (fun _ => 0))))] : va_W)) X d_Tal_init_14 in_Tal ty_Tal tyok_Tal nmx_Tal 0 rfl rfl 1 (by decide) lf_Tal_15 rfl hnm rfl rfl rfl (Nat.le_of_ble_eq_true rfl) rfl ?_
  refine aj_aload_n X d_Tal_init_17 0 rfl ?_
  refine aj_bipush (v := (24 : Int32)) X d_Tal_init_18 (by decide) ?_
  obtain ⟨b14, hm⟩ := chk_of hm
  obtain ⟨dc, ds, hm, e1, e2⟩ := addc_of hm
  have hkc := kc_step hkc e1
  have hks := kc_step hks e2
  refine aj_newL X d_Tal_init_20 lz_long 1 rfl b14.1 b14.2 (kc_le hkc) (kc_le hks) (fun q12 => ?_)
  refine aj_ws (ws' := ([(o_Tal, .inr (4, [.ref o_Sto, .ref q9, .null, .null, .null])), (q9, .inl (cL, ((24 : Int32)).toNatClampNeg, .inr (.inl (fun _ => 0)))), (q12, .inl (cL, ((24 : Int32)).toNatClampNeg, .inr (.inl (fun _ => 0))))] : va_W)) rfl ?_
  refine aj_putF (ws' := ([(o_Tal, .inr (4, [.ref o_Sto, .ref q9, .ref q12, .null, .null])), (q9, .inl (cL, ((24 : Int32)).toNatClampNeg, .inr (.inl (fun _ => 0)))), (q12, .inl (cL, ((24 : Int32)).toNatClampNeg, .inr (.inl (fun _ => 0))))] : va_W)) X d_Tal_init_22 in_Tal ty_Tal tyok_Tal nmx_Tal 0 rfl rfl 2 (by decide) lf_Tal_19 rfl hnm rfl rfl rfl (Nat.le_of_ble_eq_true rfl) rfl ?_
  refine aj_aload_n X d_Tal_init_25 0 rfl ?_
  refine aj_bipush (v := (16 : Int32)) X d_Tal_init_26 (by decide) ?_
  obtain ⟨b17, hm⟩ := chk_of hm
  obtain ⟨dc, ds, hm, e1, e2⟩ := addc_of hm
  have hkc := kc_step hkc e1
  have hks := kc_step hks e2
  refine aj_newI X d_Tal_init_28 lz_int 0 rfl b17.1 b17.2 (kc_le hkc) (kc_le hks) (fun q15 => ?_)
  refine aj_ws (ws' := ([(o_Tal, .inr (4, [.ref o_Sto, .ref q9, .ref q12, .null, .null])), (q9, .inl (cL, ((24 : Int32)).toNatClampNeg, .inr (.inl (fun _ => 0)))), (q12, .inl (cL, ((24 : Int32)).toNatClampNeg, .inr (.inl (fun _ => 0)))), (q15, .inl (cI, ((16 : Int32)).toNatClampNeg, .inl (fun _ => 0)))] : va_W)) rfl ?_
  refine aj_put (ws' := ([(o_Tal, .inr (4, [.ref o_Sto, .ref q9, .ref q12, .ref q15, .null])), (q9, .inl (cL, ((24 : Int32)).toNatClampNeg, .inr (.inl (fun _ => 0)))), (q12, .inl (cL, ((24 : Int32)).toNatClampNeg, .inr (.inl (fun _ => 0)))), (q15, .inl (cI, ((16 : Int32)).toNatClampNeg, .inl (fun _ => 0)))] : va_W)) X d_Tal_init_30 in_Tal ty_Tal tyok_Tal nmx_Tal 0 rfl rfl 3 (by decide) lf_Tal_22 rfl rfl rfl (Nat.le_of_ble_eq_true rfl) rfl ?_
  refine aj_aload_n X d_Tal_init_33 0 rfl ?_
  refine aj_bipush (v := (16 : Int32)) X d_Tal_init_34 (by decide) ?_
  obtain ⟨b20, hm⟩ := chk_of hm
  obtain ⟨dc, ds, hm, e1, e2⟩ := addc_of hm
  have hkc := kc_step hkc e1
  have hks := kc_step hks e2
  refine aj_newI X d_Tal_init_36 lz_int 0 rfl b20.1 b20.2 (kc_le hkc) (kc_le hks) (fun q18 => ?_)
  refine aj_ws (ws' := ([(o_Tal, .inr (4, [.ref o_Sto, .ref q9, .ref q12, .ref q15, .null])), (q9, .inl (cL, ((24 : Int32)).toNatClampNeg, .inr (.inl (fun _ => 0)))), (q12, .inl (cL, ((24 : Int32)).toNatClampNeg, .inr (.inl (fun _ => 0)))), (q15, .inl (cI, ((16 : Int32)).toNatClampNeg, .inl (fun _ => 0))), (q18, .inl (cI, ((16 : Int32)).toNatClampNeg, .inl (fun _ => 0)))] : va_W)) rfl ?_
  refine aj_put (ws' := ([(o_Tal, .inr (4, [.ref o_Sto, .ref q9, .ref q12, .ref q15, .ref q18])), (q9, .inl (cL, ((24 : Int32)).toNatClampNeg, .inr (.inl (fun _ => 0)))), (q12, .inl (cL, ((24 : Int32)).toNatClampNeg, .inr (.inl (fun _ => 0)))), (q15, .inl (cI, ((16 : Int32)).toNatClampNeg, .inl (fun _ => 0))), (q18, .inl (cI, ((16 : Int32)).toNatClampNeg, .inl (fun _ => 0)))] : va_W)) X d_Tal_init_38 in_Tal ty_Tal tyok_Tal nmx_Tal 0 rfl rfl 4 (by decide) lf_Tal_26 rfl rfl rfl (Nat.le_of_ble_eq_true rfl) rfl ?_
  obtain ⟨ho, e1, e2⟩ := res_of hm
  subst ho
  obtain rfl := kc_end hkc e1
  obtain rfl := kc_end hks e2
  exact aj_vret X d_Tal_init_41 hr hlk [0, 1, 2, 3, 4] (w_Tal cI cL cZ o_Tal o_Sto q9 q12 q15 q18 ((((24 : Int32)).toNatClampNeg, (fun _ => 0)), (((24 : Int32)).toNatClampNeg, (fun _ => 0)), (((16 : Int32)).toNatClampNeg, (fun _ => 0)), (((16 : Int32)).toNatClampNeg, (fun _ => 0)))) rfl rfl ⟨q9, q12, q15, q18, rfl⟩
abbrev X_Tra_init (p : Program) (s : State) (m : MethodId) (args : Array Value) (c : Code) (D : va_G) (cI cL cZ : ClassId) (A : Nat → Prop) : Prop := aj_C p s m args c D clss (ty3 cI cL cZ) A b_Tra_init 3 R_Tra TB
abbrev J_Tra_init (p : Program) (l : Launch) (e : Env) (s : State) (m : MethodId) (args : Array Value) (below : List Frame) (meth : Method) (c : Code) (D : va_G) (cI cL cZ : ClassId) (A : Nat → Prop) (O : va_W → Prop) (mc ms : Nat) (ws : va_W) (kc ks pc : Nat) (lv : List (Nat × Value)) (st : List Value) : Prop := aj p l e { frames := 1, cells := mc, slots := ms, locals := 23 } s m args below meth c (MQ below (qV D clss (ty3 cI cL cZ) O A) args s mc ms A) D clss A 3 ws kc ks pc lv st
def O_Tra_init (cI cL cZ : ClassId) (o_Tra o_Tal : Nat) (out : T_Tra) : va_W → Prop := fun w1 => ∃ (a_Tra_0 a_Tra_1 a_Tra_2 a_Tra_3 : Nat), w1 = w_Tra cI cL cZ o_Tra o_Tal a_Tra_0 a_Tra_1 a_Tra_2 a_Tra_3 out
def m_Tra_init (x1 : Int32) : Option ((T_Tra) × Nat × Nat) := (if ¬ x1 < 0 ∧ (x1).toNatClampNeg * 4 ≤ 536870912 then addc 1 (x1).toNatClampNeg (if ¬ x1 < 0 ∧ (x1).toNatClampNeg * 4 ≤ 536870912 then addc 1 (x1).toNatClampNeg (if ¬ x1 < 0 ∧ (x1).toNatClampNeg * 4 ≤ 536870912 then addc 1 (x1).toNatClampNeg (if ¬ x1 < 0 ∧ (x1).toNatClampNeg * 4 ≤ 536870912 then addc 1 (x1).toNatClampNeg ((m_Arr__fill ((x1).toNatClampNeg, (fun _ => 0)) (-1 : Int32)).bind fun r23 => (some (((0 : Int32), (0 : Int32), ((x1).toNatClampNeg, (fun _ => 0)), r23, ((x1).toNatClampNeg, (fun _ => 0)), ((x1).toNatClampNeg, (fun _ => 0))), 0, 0))) else none) else none) else none) else none)
set_option maxRecDepth 100000 in
set_option maxHeartbeats 4000000 in
theorem c_Tra_init {l : Launch} {D : va_G} {cI cL cZ : ClassId} (o_Tra o_Tal : Nat) (x1 : Int32) (out : T_Tra) (mc ms : Nat) (hm : m_Tra_init x1 = some (out, mc, ms)) : ct l y_Tra_init (Cond.code y_Tra_init b_Tra_init 3 none :: TB) 1 23 D clss (ty3 cI cL cZ) NM0 NF0 [.ref o_Tra, .int x1, .ref o_Tal] (([(o_Tra, .inr (5, [.int (0 : Int32), .int (0 : Int32), .null, .null, .null, .null, .null]))] : va_W)) (qV D clss (ty3 cI cL cZ) (O_Tra_init cI cL cZ o_Tra o_Tal out)) mc ms := by
  refine ct_of (plainFor_of_name (by decide)) (Nat.le_of_ble_eq_true rfl) (fun p e s m args below meth c A X N hr hlk hnm => ?_)
  refine aj_lv (lv' := [(0, .ref o_Tra), (1, .int x1), (2, .ref o_Tal)]) [0, 1, 2] rfl ?_
  unfold m_Tra_init at hm
  have hkc : 0 + mc = mc := Nat.zero_add _
  have hks : 0 + ms = ms := Nat.zero_add _
  refine aj_aload_n X d_Tra_init_0 0 rfl ?_
  refine aj_objInit X d_Tra_init_1 lo_Tra_3.1 lo_Tra_3.2.1 lo_Tra_3.2.2 (Nat.le_of_ble_eq_true rfl) (Nat.le_of_ble_eq_true rfl) ?_
  refine aj_aload_n X d_Tra_init_4 0 rfl ?_
  refine aj_aload_n X d_Tra_init_5 2 rfl ?_
  refine aj_putF (ws' := ([(o_Tra, .inr (5, [.int (0 : Int32), .int (0 : Int32), .null, .ref o_Tal, .null, .null, .null]))] : va_W)) X d_Tra_init_6 in_Tra ty_Tra tyok_Tra nmx_Tra 0 rfl rfl 3 (by decide) lf_Tra_9 rfl hnm rfl rfl rfl (Nat.le_of_ble_eq_true rfl) rfl ?_
  refine aj_aload_n X d_Tra_init_9 0 rfl ?_
  refine aj_iconst (v := (0 : Int32)) X d_Tra_init_10 (by decide) ?_
  refine aj_put (ws' := ([(o_Tra, .inr (5, [.int (0 : Int32), .int (0 : Int32), .null, .ref o_Tal, .null, .null, .null]))] : va_W)) X d_Tra_init_11 in_Tra ty_Tra tyok_Tra nmx_Tra 0 rfl rfl 0 (by decide) lf_Tra_15 rfl rfl rfl (Nat.le_of_ble_eq_true rfl) rfl ?_
  refine aj_aload_n X d_Tra_init_14 0 rfl ?_
  refine aj_iconst (v := (0 : Int32)) X d_Tra_init_15 (by decide) ?_
  refine aj_put (ws' := ([(o_Tra, .inr (5, [.int (0 : Int32), .int (0 : Int32), .null, .ref o_Tal, .null, .null, .null]))] : va_W)) X d_Tra_init_16 in_Tra ty_Tra tyok_Tra nmx_Tra 0 rfl rfl 1 (by decide) lf_Tra_19 rfl rfl rfl (Nat.le_of_ble_eq_true rfl) rfl ?_
  refine aj_aload_n X d_Tra_init_19 0 rfl ?_
  refine aj_iload_n X d_Tra_init_20 1 rfl ?_
  obtain ⟨b13, hm⟩ := chk_of hm
  obtain ⟨dc, ds, hm, e1, e2⟩ := addc_of hm
  have hkc := kc_step hkc e1
  have hks := kc_step hks e2
  refine aj_newI X d_Tra_init_21 lz_int 0 rfl b13.1 b13.2 (kc_le hkc) (kc_le hks) (fun q11 => ?_)
  refine aj_ws (ws' := ([(o_Tra, .inr (5, [.int (0 : Int32), .int (0 : Int32), .null, .ref o_Tal, .null, .null, .null])), (q11, .inl (cI, (x1).toNatClampNeg, .inl (fun _ => 0)))] : va_W)) rfl ?_
  refine aj_putF (ws' := ([(o_Tra, .inr (5, [.int (0 : Int32), .int (0 : Int32), .ref q11, .ref o_Tal, .null, .null, .null])), (q11, .inl (cI, (x1).toNatClampNeg, .inl (fun _ => 0)))] : va_W)) X d_Tra_init_23 in_Tra ty_Tra tyok_Tra nmx_Tra 0 rfl rfl 2 (by decide) lf_Tra_22 rfl hnm rfl rfl rfl (Nat.le_of_ble_eq_true rfl) rfl ?_
  refine aj_aload_n X d_Tra_init_26 0 rfl ?_
  refine aj_iload_n X d_Tra_init_27 1 rfl ?_
  obtain ⟨b16, hm⟩ := chk_of hm
  obtain ⟨dc, ds, hm, e1, e2⟩ := addc_of hm
  have hkc := kc_step hkc e1
  have hks := kc_step hks e2
  refine aj_newI X d_Tra_init_28 lz_int 0 rfl b16.1 b16.2 (kc_le hkc) (kc_le hks) (fun q14 => ?_)
  refine aj_ws (ws' := ([(o_Tra, .inr (5, [.int (0 : Int32), .int (0 : Int32), .ref q11, .ref o_Tal, .null, .null, .null])), (q11, .inl (cI, (x1).toNatClampNeg, .inl (fun _ => 0))), (q14, .inl (cI, (x1).toNatClampNeg, .inl (fun _ => 0)))] : va_W)) rfl ?_
  refine aj_putF (ws' := ([(o_Tra, .inr (5, [.int (0 : Int32), .int (0 : Int32), .ref q11, .ref o_Tal, .ref q14, .null, .null])), (q11, .inl (cI, (x1).toNatClampNeg, .inl (fun _ => 0))), (q14, .inl (cI, (x1).toNatClampNeg, .inl (fun _ => 0)))] : va_W)) X d_Tra_init_30 in_Tra ty_Tra tyok_Tra nmx_Tra 0 rfl rfl 4 (by decide) lf_Tra_26 rfl hnm rfl rfl rfl (Nat.le_of_ble_eq_true rfl) rfl ?_
  refine aj_aload_n X d_Tra_init_33 0 rfl ?_
  refine aj_iload_n X d_Tra_init_34 1 rfl ?_
  obtain ⟨b19, hm⟩ := chk_of hm
  obtain ⟨dc, ds, hm, e1, e2⟩ := addc_of hm
  have hkc := kc_step hkc e1
  have hks := kc_step hks e2
  refine aj_newI X d_Tra_init_35 lz_int 0 rfl b19.1 b19.2 (kc_le hkc) (kc_le hks) (fun q17 => ?_)
  refine aj_ws (ws' := ([(o_Tra, .inr (5, [.int (0 : Int32), .int (0 : Int32), .ref q11, .ref o_Tal, .ref q14, .null, .null])), (q11, .inl (cI, (x1).toNatClampNeg, .inl (fun _ => 0))), (q14, .inl (cI, (x1).toNatClampNeg, .inl (fun _ => 0))), (q17, .inl (cI, (x1).toNatClampNeg, .inl (fun _ => 0)))] : va_W)) rfl ?_
  refine aj_putF (ws' := ([(o_Tra, .inr (5, [.int (0 : Int32), .int (0 : Int32), .ref q11, .ref o_Tal, .ref q14, .ref q17, .null])), (q11, .inl (cI, (x1).toNatClampNeg, .inl (fun _ => 0))), (q14, .inl (cI, (x1).toNatClampNeg, .inl (fun _ => 0))), (q17, .inl (cI, (x1).toNatClampNeg, .inl (fun _ => 0)))] : va_W)) X d_Tra_init_37 in_Tra ty_Tra tyok_Tra nmx_Tra 0 rfl rfl 5 (by decide) lf_Tra_29 rfl hnm rfl rfl rfl (Nat.le_of_ble_eq_true rfl) rfl ?_
  refine aj_aload_n X d_Tra_init_40 0 rfl ?_
  refine aj_iload_n X d_Tra_init_41 1 rfl ?_
  obtain ⟨b22, hm⟩ := chk_of hm
  obtain ⟨dc, ds, hm, e1, e2⟩ := addc_of hm
  have hkc := kc_step hkc e1
  have hks := kc_step hks e2
  refine aj_newI X d_Tra_init_42 lz_int 0 rfl b22.1 b22.2 (kc_le hkc) (kc_le hks) (fun q20 => ?_)
  refine aj_ws (ws' := ([(o_Tra, .inr (5, [.int (0 : Int32), .int (0 : Int32), .ref q11, .ref o_Tal, .ref q14, .ref q17, .null])), (q11, .inl (cI, (x1).toNatClampNeg, .inl (fun _ => 0))), (q14, .inl (cI, (x1).toNatClampNeg, .inl (fun _ => 0))), (q17, .inl (cI, (x1).toNatClampNeg, .inl (fun _ => 0))), (q20, .inl (cI, (x1).toNatClampNeg, .inl (fun _ => 0)))] : va_W)) rfl ?_
  refine aj_putF (ws' := ([(o_Tra, .inr (5, [.int (0 : Int32), .int (0 : Int32), .ref q11, .ref o_Tal, .ref q14, .ref q17, .ref q20])), (q11, .inl (cI, (x1).toNatClampNeg, .inl (fun _ => 0))), (q14, .inl (cI, (x1).toNatClampNeg, .inl (fun _ => 0))), (q17, .inl (cI, (x1).toNatClampNeg, .inl (fun _ => 0))), (q20, .inl (cI, (x1).toNatClampNeg, .inl (fun _ => 0)))] : va_W)) X d_Tra_init_44 in_Tra ty_Tra tyok_Tra nmx_Tra 0 rfl rfl 6 (by decide) lf_Tra_32 rfl hnm rfl rfl rfl (Nat.le_of_ble_eq_true rfl) rfl ?_
  refine aj_aload_n X d_Tra_init_47 0 rfl ?_
  refine aj_get X d_Tra_init_48 in_Tra 0 rfl rfl 4 (by decide) lf_Tra_26 rfl ?_
  refine aj_iconst (v := (-1 : Int32)) X d_Tra_init_51 (by decide) ?_
  obtain ⟨r23, h24, hm⟩ := bnd_of hm
  refine aj_callV (wr := [(o_Tra, .inr (5, [.int (0 : Int32), .int (0 : Int32), .ref q11, .ref o_Tal, .ref q14, .ref q17, .ref q20])), (q11, .inl (cI, (x1).toNatClampNeg, .inl (fun _ => 0))), (q17, .inl (cI, (x1).toNatClampNeg, .inl (fun _ => 0))), (q20, .inl (cI, (x1).toNatClampNeg, .inl (fun _ => 0)))]) X (aj_rS (As := [.ref q14, .int (-1 : Int32)]) (rest := []) X N gTB (c_Arr__fill (D := D) (cI := cI) (cL := cL) (cZ := cZ) q14 ((x1).toNatClampNeg, (fun _ => 0)) (-1 : Int32) r23 h24) d_Tra_init_52 lk_Arr__fill lw_Tra_35 lh_Arr__fill ⟨(Nat.le_of_ble_eq_true rfl), (Nat.le_of_ble_eq_true rfl)⟩ [2] rfl rfl rfl (Nat.le_of_ble_eq_true rfl) ⟨kc_le1 hkc, kc_le1 hks⟩) [2] [0, 1, 3, 4] rfl rfl rfl (by decide) (fun w1 hO => ?_)
  have hkc := kc_zero hkc
  have hks := kc_zero hks
  obtain rfl := hO
  refine aj_perm (ws' := ([(o_Tra, .inr (5, [.int (0 : Int32), .int (0 : Int32), .ref q11, .ref o_Tal, .ref q14, .ref q17, .ref q20])), (q11, .inl (cI, (x1).toNatClampNeg, .inl (fun _ => 0))), (q14, .inl (cI, r23.1, .inl r23.2)), (q17, .inl (cI, (x1).toNatClampNeg, .inl (fun _ => 0))), (q20, .inl (cI, (x1).toNatClampNeg, .inl (fun _ => 0)))] : va_W)) [0, 1, 4, 2, 3] rfl rfl ?_
  obtain ⟨ho, e1, e2⟩ := res_of hm
  subst ho
  obtain rfl := kc_end hkc e1
  obtain rfl := kc_end hks e2
  exact aj_vret X d_Tra_init_55 hr hlk [0, 1, 2, 3, 4] (w_Tra cI cL cZ o_Tra o_Tal q11 q14 q17 q20 ((0 : Int32), (0 : Int32), ((x1).toNatClampNeg, (fun _ => 0)), r23, ((x1).toNatClampNeg, (fun _ => 0)), ((x1).toNatClampNeg, (fun _ => 0)))) rfl rfl ⟨q11, q14, q17, q20, rfl⟩
abbrev X_Sea_init (p : Program) (s : State) (m : MethodId) (args : Array Value) (c : Code) (D : va_G) (cI cL cZ : ClassId) (A : Nat → Prop) : Prop := aj_C p s m args c D clss (ty3 cI cL cZ) A b_Sea_init 6 R_Sea TB
abbrev J_Sea_init (p : Program) (l : Launch) (e : Env) (s : State) (m : MethodId) (args : Array Value) (below : List Frame) (meth : Method) (c : Code) (D : va_G) (cI cL cZ : ClassId) (A : Nat → Prop) (O : va_W → Prop) (mc ms : Nat) (ws : va_W) (kc ks pc : Nat) (lv : List (Nat × Value)) (st : List Value) : Prop := aj p l e { frames := 1, cells := mc, slots := ms, locals := 20 } s m args below meth c (MQ below (qV D clss (ty3 cI cL cZ) O A) args s mc ms A) D clss A 6 ws kc ks pc lv st
def O_Sea_init (cI cL cZ : ClassId) (o_Sea o_Sto o_Tra o_Tal o_Ass : Nat) (out : T_Sea) : va_W → Prop := fun w1 => ∃ (a_Sea_0 a_Sea_1 a_Sea_2 : Nat), w1 = w_Sea cI cL cZ o_Sea o_Sto o_Tra o_Tal o_Ass a_Sea_0 a_Sea_1 a_Sea_2 out
def m_Sea_init (x1 : Int32) : Option ((T_Sea) × Nat × Nat) := (if ¬ x1 < 0 ∧ (x1).toNatClampNeg * 4 ≤ 536870912 then addc 1 (x1).toNatClampNeg (if ¬ (40 : Int32) < 0 ∧ ((40 : Int32)).toNatClampNeg * 4 ≤ 536870912 then addc 1 ((40 : Int32)).toNatClampNeg (if ¬ (16 : Int32) < 0 ∧ ((16 : Int32)).toNatClampNeg * 4 ≤ 536870912 then addc 1 ((16 : Int32)).toNatClampNeg (some (((0 : Int32), (0 : Int64), x1, ((x1).toNatClampNeg, (fun _ => 0)), (((40 : Int32)).toNatClampNeg, (fun _ => 0)), (0 : Int32), (((16 : Int32)).toNatClampNeg, (fun _ => 0)), (0 : Int64)), 0, 0)) else none) else none) else none)
set_option maxRecDepth 100000 in
set_option maxHeartbeats 4000000 in
theorem c_Sea_init {l : Launch} {D : va_G} {cI cL cZ : ClassId} (o_Sea o_Sto o_Tra o_Tal o_Ass : Nat) (x1 : Int32) (out : T_Sea) (mc ms : Nat) (hm : m_Sea_init x1 = some (out, mc, ms)) : ct l y_Sea_init (Cond.code y_Sea_init b_Sea_init 6 none :: TB) 1 20 D clss (ty3 cI cL cZ) NM0 NF0 [.ref o_Sea, .int x1, .ref o_Sto, .ref o_Tra, .ref o_Tal, .ref o_Ass] (([(o_Sea, .inr (2, [.int (0 : Int32), .long (0 : Int64), .int (0 : Int32), .null, .null, .null, .null, .null, .null, .int (0 : Int32), .null, .long (0 : Int64)]))] : va_W)) (qV D clss (ty3 cI cL cZ) (O_Sea_init cI cL cZ o_Sea o_Sto o_Tra o_Tal o_Ass out)) mc ms := by
  refine ct_of (plainFor_of_name (by decide)) (Nat.le_of_ble_eq_true rfl) (fun p e s m args below meth c A X N hr hlk hnm => ?_)
  refine aj_lv (lv' := [(0, .ref o_Sea), (1, .int x1), (2, .ref o_Sto), (3, .ref o_Tra), (4, .ref o_Tal), (5, .ref o_Ass)]) [0, 1, 2, 3, 4, 5] rfl ?_
  unfold m_Sea_init at hm
  have hkc : 0 + mc = mc := Nat.zero_add _
  have hks : 0 + ms = ms := Nat.zero_add _
  refine aj_aload_n X d_Sea_init_0 0 rfl ?_
  refine aj_objInit X d_Sea_init_1 lo_Sea_3.1 lo_Sea_3.2.1 lo_Sea_3.2.2 (Nat.le_of_ble_eq_true rfl) (Nat.le_of_ble_eq_true rfl) ?_
  refine aj_aload_n X d_Sea_init_4 0 rfl ?_
  refine aj_iload_n X d_Sea_init_5 1 rfl ?_
  refine aj_putF (ws' := ([(o_Sea, .inr (2, [.int (0 : Int32), .long (0 : Int64), .int x1, .null, .null, .null, .null, .null, .null, .int (0 : Int32), .null, .long (0 : Int64)]))] : va_W)) X d_Sea_init_6 in_Sea ty_Sea tyok_Sea nmx_Sea 0 rfl rfl 2 (by decide) lf_Sea_9 rfl hnm rfl rfl rfl (Nat.le_of_ble_eq_true rfl) rfl ?_
  refine aj_aload_n X d_Sea_init_9 0 rfl ?_
  refine aj_aload_n X d_Sea_init_10 2 rfl ?_
  refine aj_putF (ws' := ([(o_Sea, .inr (2, [.int (0 : Int32), .long (0 : Int64), .int x1, .ref o_Sto, .null, .null, .null, .null, .null, .int (0 : Int32), .null, .long (0 : Int64)]))] : va_W)) X d_Sea_init_11 in_Sea ty_Sea tyok_Sea nmx_Sea 0 rfl rfl 3 (by decide) lf_Sea_15 rfl hnm rfl rfl rfl (Nat.le_of_ble_eq_true rfl) rfl ?_
  refine aj_aload_n X d_Sea_init_14 0 rfl ?_
  refine aj_aload_n X d_Sea_init_15 3 rfl ?_
  refine aj_putF (ws' := ([(o_Sea, .inr (2, [.int (0 : Int32), .long (0 : Int64), .int x1, .ref o_Sto, .ref o_Tra, .null, .null, .null, .null, .int (0 : Int32), .null, .long (0 : Int64)]))] : va_W)) X d_Sea_init_16 in_Sea ty_Sea tyok_Sea nmx_Sea 0 rfl rfl 4 (by decide) lf_Sea_19 rfl hnm rfl rfl rfl (Nat.le_of_ble_eq_true rfl) rfl ?_
  refine aj_aload_n X d_Sea_init_19 0 rfl ?_
  refine aj_aload X d_Sea_init_20 4 rfl ?_
  refine aj_putF (ws' := ([(o_Sea, .inr (2, [.int (0 : Int32), .long (0 : Int64), .int x1, .ref o_Sto, .ref o_Tra, .ref o_Tal, .null, .null, .null, .int (0 : Int32), .null, .long (0 : Int64)]))] : va_W)) X d_Sea_init_22 in_Sea ty_Sea tyok_Sea nmx_Sea 0 rfl rfl 5 (by decide) lf_Sea_23 rfl hnm rfl rfl rfl (Nat.le_of_ble_eq_true rfl) rfl ?_
  refine aj_aload_n X d_Sea_init_25 0 rfl ?_
  refine aj_aload X d_Sea_init_26 5 rfl ?_
  refine aj_putF (ws' := ([(o_Sea, .inr (2, [.int (0 : Int32), .long (0 : Int64), .int x1, .ref o_Sto, .ref o_Tra, .ref o_Tal, .ref o_Ass, .null, .null, .int (0 : Int32), .null, .long (0 : Int64)]))] : va_W)) X d_Sea_init_28 in_Sea ty_Sea tyok_Sea nmx_Sea 0 rfl rfl 6 (by decide) lf_Sea_27 rfl hnm rfl rfl rfl (Nat.le_of_ble_eq_true rfl) rfl ?_
  refine aj_aload_n X d_Sea_init_31 0 rfl ?_
  refine aj_iload_n X d_Sea_init_32 1 rfl ?_
  obtain ⟨b9, hm⟩ := chk_of hm
  obtain ⟨dc, ds, hm, e1, e2⟩ := addc_of hm
  have hkc := kc_step hkc e1
  have hks := kc_step hks e2
  refine aj_newI X d_Sea_init_33 lz_int 0 rfl b9.1 b9.2 (kc_le hkc) (kc_le hks) (fun q7 => ?_)
  refine aj_ws (ws' := ([(o_Sea, .inr (2, [.int (0 : Int32), .long (0 : Int64), .int x1, .ref o_Sto, .ref o_Tra, .ref o_Tal, .ref o_Ass, .null, .null, .int (0 : Int32), .null, .long (0 : Int64)])), (q7, .inl (cI, (x1).toNatClampNeg, .inl (fun _ => 0)))] : va_W)) rfl ?_
  refine aj_putF (ws' := ([(o_Sea, .inr (2, [.int (0 : Int32), .long (0 : Int64), .int x1, .ref o_Sto, .ref o_Tra, .ref o_Tal, .ref o_Ass, .ref q7, .null, .int (0 : Int32), .null, .long (0 : Int64)])), (q7, .inl (cI, (x1).toNatClampNeg, .inl (fun _ => 0)))] : va_W)) X d_Sea_init_35 in_Sea ty_Sea tyok_Sea nmx_Sea 0 rfl rfl 7 (by decide) lf_Sea_31 rfl hnm rfl rfl rfl (Nat.le_of_ble_eq_true rfl) rfl ?_
  refine aj_aload_n X d_Sea_init_38 0 rfl ?_
  refine aj_bipush (v := (40 : Int32)) X d_Sea_init_39 (by decide) ?_
  obtain ⟨b12, hm⟩ := chk_of hm
  obtain ⟨dc, ds, hm, e1, e2⟩ := addc_of hm
  have hkc := kc_step hkc e1
  have hks := kc_step hks e2
  refine aj_newI X d_Sea_init_41 lz_int 0 rfl b12.1 b12.2 (kc_le hkc) (kc_le hks) (fun q10 => ?_)
  refine aj_ws (ws' := ([(o_Sea, .inr (2, [.int (0 : Int32), .long (0 : Int64), .int x1, .ref o_Sto, .ref o_Tra, .ref o_Tal, .ref o_Ass, .ref q7, .null, .int (0 : Int32), .null, .long (0 : Int64)])), (q7, .inl (cI, (x1).toNatClampNeg, .inl (fun _ => 0))), (q10, .inl (cI, ((40 : Int32)).toNatClampNeg, .inl (fun _ => 0)))] : va_W)) rfl ?_
  refine aj_putF (ws' := ([(o_Sea, .inr (2, [.int (0 : Int32), .long (0 : Int64), .int x1, .ref o_Sto, .ref o_Tra, .ref o_Tal, .ref o_Ass, .ref q7, .ref q10, .int (0 : Int32), .null, .long (0 : Int64)])), (q7, .inl (cI, (x1).toNatClampNeg, .inl (fun _ => 0))), (q10, .inl (cI, ((40 : Int32)).toNatClampNeg, .inl (fun _ => 0)))] : va_W)) X d_Sea_init_43 in_Sea ty_Sea tyok_Sea nmx_Sea 0 rfl rfl 8 (by decide) lf_Sea_35 rfl hnm rfl rfl rfl (Nat.le_of_ble_eq_true rfl) rfl ?_
  refine aj_aload_n X d_Sea_init_46 0 rfl ?_
  refine aj_iconst (v := (0 : Int32)) X d_Sea_init_47 (by decide) ?_
  refine aj_put (ws' := ([(o_Sea, .inr (2, [.int (0 : Int32), .long (0 : Int64), .int x1, .ref o_Sto, .ref o_Tra, .ref o_Tal, .ref o_Ass, .ref q7, .ref q10, .int (0 : Int32), .null, .long (0 : Int64)])), (q7, .inl (cI, (x1).toNatClampNeg, .inl (fun _ => 0))), (q10, .inl (cI, ((40 : Int32)).toNatClampNeg, .inl (fun _ => 0)))] : va_W)) X d_Sea_init_48 in_Sea ty_Sea tyok_Sea nmx_Sea 0 rfl rfl 9 (by decide) lf_Sea_38 rfl rfl rfl (Nat.le_of_ble_eq_true rfl) rfl ?_
  refine aj_aload_n X d_Sea_init_51 0 rfl ?_
  refine aj_bipush (v := (16 : Int32)) X d_Sea_init_52 (by decide) ?_
  obtain ⟨b15, hm⟩ := chk_of hm
  obtain ⟨dc, ds, hm, e1, e2⟩ := addc_of hm
  have hkc := kc_step hkc e1
  have hks := kc_step hks e2
  refine aj_newI X d_Sea_init_54 lz_int 0 rfl b15.1 b15.2 (kc_le hkc) (kc_le hks) (fun q13 => ?_)
  refine aj_ws (ws' := ([(o_Sea, .inr (2, [.int (0 : Int32), .long (0 : Int64), .int x1, .ref o_Sto, .ref o_Tra, .ref o_Tal, .ref o_Ass, .ref q7, .ref q10, .int (0 : Int32), .null, .long (0 : Int64)])), (q7, .inl (cI, (x1).toNatClampNeg, .inl (fun _ => 0))), (q10, .inl (cI, ((40 : Int32)).toNatClampNeg, .inl (fun _ => 0))), (q13, .inl (cI, ((16 : Int32)).toNatClampNeg, .inl (fun _ => 0)))] : va_W)) rfl ?_
  refine aj_put (ws' := ([(o_Sea, .inr (2, [.int (0 : Int32), .long (0 : Int64), .int x1, .ref o_Sto, .ref o_Tra, .ref o_Tal, .ref o_Ass, .ref q7, .ref q10, .int (0 : Int32), .ref q13, .long (0 : Int64)])), (q7, .inl (cI, (x1).toNatClampNeg, .inl (fun _ => 0))), (q10, .inl (cI, ((40 : Int32)).toNatClampNeg, .inl (fun _ => 0))), (q13, .inl (cI, ((16 : Int32)).toNatClampNeg, .inl (fun _ => 0)))] : va_W)) X d_Sea_init_56 in_Sea ty_Sea tyok_Sea nmx_Sea 0 rfl rfl 10 (by decide) lf_Sea_41 rfl rfl rfl (Nat.le_of_ble_eq_true rfl) rfl ?_
  refine aj_aload_n X d_Sea_init_59 0 rfl ?_
  refine aj_iconst (v := (0 : Int32)) X d_Sea_init_60 (by decide) ?_
  refine aj_put (ws' := ([(o_Sea, .inr (2, [.int (0 : Int32), .long (0 : Int64), .int x1, .ref o_Sto, .ref o_Tra, .ref o_Tal, .ref o_Ass, .ref q7, .ref q10, .int (0 : Int32), .ref q13, .long (0 : Int64)])), (q7, .inl (cI, (x1).toNatClampNeg, .inl (fun _ => 0))), (q10, .inl (cI, ((40 : Int32)).toNatClampNeg, .inl (fun _ => 0))), (q13, .inl (cI, ((16 : Int32)).toNatClampNeg, .inl (fun _ => 0)))] : va_W)) X d_Sea_init_61 in_Sea ty_Sea tyok_Sea nmx_Sea 0 rfl rfl 0 (by decide) lf_Sea_44 rfl rfl rfl (Nat.le_of_ble_eq_true rfl) rfl ?_
  refine aj_aload_n X d_Sea_init_64 0 rfl ?_
  refine aj_lconst (v := (0 : Int64)) X d_Sea_init_65 (by decide) ?_
  refine aj_put (ws' := ([(o_Sea, .inr (2, [.int (0 : Int32), .long (0 : Int64), .int x1, .ref o_Sto, .ref o_Tra, .ref o_Tal, .ref o_Ass, .ref q7, .ref q10, .int (0 : Int32), .ref q13, .long (0 : Int64)])), (q7, .inl (cI, (x1).toNatClampNeg, .inl (fun _ => 0))), (q10, .inl (cI, ((40 : Int32)).toNatClampNeg, .inl (fun _ => 0))), (q13, .inl (cI, ((16 : Int32)).toNatClampNeg, .inl (fun _ => 0)))] : va_W)) X d_Sea_init_66 in_Sea ty_Sea tyok_Sea nmx_Sea 0 rfl rfl 1 (by decide) lf_Sea_47 rfl rfl rfl (Nat.le_of_ble_eq_true rfl) rfl ?_
  refine aj_aload_n X d_Sea_init_69 0 rfl ?_
  refine aj_lconst (v := (0 : Int64)) X d_Sea_init_70 (by decide) ?_
  refine aj_put (ws' := ([(o_Sea, .inr (2, [.int (0 : Int32), .long (0 : Int64), .int x1, .ref o_Sto, .ref o_Tra, .ref o_Tal, .ref o_Ass, .ref q7, .ref q10, .int (0 : Int32), .ref q13, .long (0 : Int64)])), (q7, .inl (cI, (x1).toNatClampNeg, .inl (fun _ => 0))), (q10, .inl (cI, ((40 : Int32)).toNatClampNeg, .inl (fun _ => 0))), (q13, .inl (cI, ((16 : Int32)).toNatClampNeg, .inl (fun _ => 0)))] : va_W)) X d_Sea_init_71 in_Sea ty_Sea tyok_Sea nmx_Sea 0 rfl rfl 11 (by decide) lf_Sea_51 rfl rfl rfl (Nat.le_of_ble_eq_true rfl) rfl ?_
  obtain ⟨ho, e1, e2⟩ := res_of hm
  subst ho
  obtain rfl := kc_end hkc e1
  obtain rfl := kc_end hks e2
  exact aj_vret X d_Sea_init_74 hr hlk [0, 1, 2, 3] (w_Sea cI cL cZ o_Sea o_Sto o_Tra o_Tal o_Ass q7 q10 q13 ((0 : Int32), (0 : Int64), x1, ((x1).toNatClampNeg, (fun _ => 0)), (((40 : Int32)).toNatClampNeg, (fun _ => 0)), (0 : Int32), (((16 : Int32)).toNatClampNeg, (fun _ => 0)), (0 : Int64))) rfl rfl ⟨q7, q10, q13, rfl⟩
abbrev X_CS_init (p : Program) (s : State) (m : MethodId) (args : Array Value) (c : Code) (D : va_G) (cI cL cZ : ClassId) (A : Nat → Prop) : Prop := aj_C p s m args c D clss (ty3 cI cL cZ) A b_CS_init 3 R_CS TB
abbrev J_CS_init (p : Program) (l : Launch) (e : Env) (s : State) (m : MethodId) (args : Array Value) (below : List Frame) (meth : Method) (c : Code) (D : va_G) (cI cL cZ : ClassId) (A : Nat → Prop) (O : va_W → Prop) (mc ms : Nat) (ws : va_W) (kc ks pc : Nat) (lv : List (Nat × Value)) (st : List Value) : Prop := aj p l e { frames := 2, cells := mc, slots := ms, locals := 45 } s m args below meth c (MQ below (qV D clss (ty3 cI cL cZ) O A) args s mc ms A) D clss A 3 ws kc ks pc lv st
def O_CS_init (cI cL cZ : ClassId) (o_CS : Nat) (out : T_CS × T_Pla × T_Ass × T_Sto × T_Tal × T_Tra × T_Sea) : va_W → Prop := fun w1 => ∃ (o_Pla o_Ass o_Sto o_Tal o_Tra o_Sea a_Pla_0 a_Pla_1 a_Ass_0 a_Sto_0 a_Sto_1 a_Sto_2 a_Sto_3 a_Sto_4 a_Tal_0 a_Tal_1 a_Tal_2 a_Tal_3 a_Tra_0 a_Tra_1 a_Tra_2 a_Tra_3 a_Sea_0 a_Sea_1 a_Sea_2 : Nat), w1 = w_CS cI cL cZ o_CS o_Sto o_Pla o_Ass o_Tra o_Sea out.1 ++ w_Pla cI cL cZ o_Pla a_Pla_0 a_Pla_1 out.2.1 ++ w_Ass cI cL cZ o_Ass a_Ass_0 out.2.2.1 ++ w_Sto cI cL cZ o_Sto a_Sto_0 a_Sto_1 a_Sto_2 a_Sto_3 a_Sto_4 out.2.2.2.1 ++ w_Tal cI cL cZ o_Tal o_Sto a_Tal_0 a_Tal_1 a_Tal_2 a_Tal_3 out.2.2.2.2.1 ++ w_Tra cI cL cZ o_Tra o_Tal a_Tra_0 a_Tra_1 a_Tra_2 a_Tra_3 out.2.2.2.2.2.1 ++ w_Sea cI cL cZ o_Sea o_Sto o_Tra o_Tal o_Ass a_Sea_0 a_Sea_1 a_Sea_2 out.2.2.2.2.2.2
def m_CS_init (x1 : Int32) : Option ((T_CS × T_Pla × T_Ass × T_Sto × T_Tal × T_Tra × T_Sea) × Nat × Nat) := (addc 1 7 ((m_Sto_init (if (1 : Int32) < (if x1 < (300 : Int32) then x1 else (300 : Int32)) then (if x1 < (300 : Int32) then x1 else (300 : Int32)) else (1 : Int32))).bind fun r39 => addc r39.2.1 r39.2.2 (addc 1 2 ((m_Pla_init (if (1 : Int32) < (if x1 < (300 : Int32) then x1 else (300 : Int32)) then (if x1 < (300 : Int32) then x1 else (300 : Int32)) else (1 : Int32))).bind fun r47 => addc r47.2.1 r47.2.2 (addc 1 2 ((m_Ass_init).bind fun r52 => addc r52.2.1 r52.2.2 (addc 1 5 ((m_Tal_init).bind fun r56 => addc r56.2.1 r56.2.2 (addc 1 7 ((m_Tra_init (if (1 : Int32) < (if x1 < (300 : Int32) then x1 else (300 : Int32)) then (if x1 < (300 : Int32) then x1 else (300 : Int32)) else (1 : Int32))).bind fun r63 => addc r63.2.1 r63.2.2 (addc 1 12 ((m_Sea_init (if (1 : Int32) < (if x1 < (300 : Int32) then x1 else (300 : Int32)) then (if x1 < (300 : Int32) then x1 else (300 : Int32)) else (1 : Int32))).bind fun r70 => addc r70.2.1 r70.2.2 (some ((((if (1 : Int32) < (if x1 < (300 : Int32) then x1 else (300 : Int32)) then (if x1 < (300 : Int32) then x1 else (300 : Int32)) else (1 : Int32)), (-1 : Int32), (1 : Int32)), r47.1, r52.1, r39.1, r56.1, r63.1, r70.1), 0, 0))))))))))))))
set_option maxRecDepth 100000 in
set_option maxHeartbeats 4000000 in
theorem c_CS_init {l : Launch} {D : va_G} {cI cL cZ : ClassId} (o_CS : Nat) (x1 : Int32) (out : T_CS × T_Pla × T_Ass × T_Sto × T_Tal × T_Tra × T_Sea) (mc ms : Nat) (hm : m_CS_init x1 = some (out, mc, ms)) : ct l y_CS_init (Cond.code y_CS_init b_CS_init 3 none :: TB) 2 45 D clss (ty3 cI cL cZ) NM0 NF0 [.ref o_CS, .int x1] (([(o_CS, .inr (6, [.int (0 : Int32), .null, .null, .null, .null, .null, .int (0 : Int32), .int (0 : Int32)]))] : va_W)) (qV D clss (ty3 cI cL cZ) (O_CS_init cI cL cZ o_CS out)) mc ms := by
  refine ct_of (plainFor_of_name (by decide)) (Nat.le_of_ble_eq_true rfl) (fun p e s m args below meth c A X N hr hlk hnm => ?_)
  refine aj_lv (lv' := [(0, .ref o_CS), (1, .int x1)]) [0, 1] rfl ?_
  unfold m_CS_init at hm
  have hkc : 0 + mc = mc := Nat.zero_add _
  have hks : 0 + ms = ms := Nat.zero_add _
  refine aj_aload_n X d_CS_init_0 0 rfl ?_
  refine aj_objInit X d_CS_init_1 lo_CS_1.1 lo_CS_1.2.1 lo_CS_1.2.2 (Nat.le_of_ble_eq_true rfl) (Nat.le_of_ble_eq_true rfl) ?_
  refine aj_aload_n X d_CS_init_4 0 rfl ?_
  refine aj_iconst (v := (1 : Int32)) X d_CS_init_5 (by decide) ?_
  refine aj_sipush (v := (300 : Int32)) X d_CS_init_6 (by decide) ?_
  refine aj_iload_n X d_CS_init_9 1 rfl ?_
  refine aj_mmin X d_CS_init_10 lm_CS_9.1 lm_CS_9.2.1 lm_CS_9.2.2.1 lm_CS_9.2.2.2 (Nat.le_of_ble_eq_true rfl) (Nat.le_of_ble_eq_true rfl) (kc_le0 hkc) (kc_le0 hks) ?_
  refine aj_mmax X d_CS_init_13 lm_CS_15.1 lm_CS_15.2.1 lm_CS_15.2.2.1 lm_CS_15.2.2.2 (Nat.le_of_ble_eq_true rfl) (Nat.le_of_ble_eq_true rfl) (kc_le0 hkc) (kc_le0 hks) ?_
  refine aj_putF (ws' := ([(o_CS, .inr (6, [.int (if (1 : Int32) < (if x1 < (300 : Int32) then x1 else (300 : Int32)) then (if x1 < (300 : Int32) then x1 else (300 : Int32)) else (1 : Int32)), .null, .null, .null, .null, .null, .int (0 : Int32), .int (0 : Int32)]))] : va_W)) X d_CS_init_16 in_CS ty_CS tyok_CS nmx_CS 0 rfl rfl 0 (by decide) lf_CS_18 rfl hnm rfl rfl rfl (Nat.le_of_ble_eq_true rfl) rfl ?_
  refine aj_aload_n X d_CS_init_19 0 rfl ?_
  obtain ⟨dc, ds, hm, e1, e2⟩ := addc_of hm
  have hkc := kc_step hkc e1
  have hks := kc_step hks e2
  refine aj_new (ci := 3) X [.int (0 : Int32), .int (0 : Int32), .null, .null, .null, .null, .null] d_CS_init_20 in_Sto ty_Sto tyok_Sto le_CS_22.1 le_CS_22.2.1 le_CS_22.2.2 rfl df_Sto (kc_le hkc) (kc_le hks) (fun q38 => ?_)
  refine aj_ws (ws' := ([(o_CS, .inr (6, [.int (if (1 : Int32) < (if x1 < (300 : Int32) then x1 else (300 : Int32)) then (if x1 < (300 : Int32) then x1 else (300 : Int32)) else (1 : Int32)), .null, .null, .null, .null, .null, .int (0 : Int32), .int (0 : Int32)])), (q38, .inr (3, [.int (0 : Int32), .int (0 : Int32), .null, .null, .null, .null, .null]))] : va_W)) rfl ?_
  refine aj_dup X d_CS_init_23 rfl ?_
  refine aj_aload_n X d_CS_init_24 0 rfl ?_
  refine aj_get X d_CS_init_25 in_CS 0 rfl rfl 0 (by decide) lf_CS_18 rfl ?_
  obtain ⟨r39, h40, hm⟩ := bnd_of hm
  obtain ⟨dc, ds, hm, e1, e2⟩ := addc_of hm
  have hkc := kc_step hkc e1
  have hks := kc_step hks e2
  refine aj_callV (wr := [(o_CS, .inr (6, [.int (if (1 : Int32) < (if x1 < (300 : Int32) then x1 else (300 : Int32)) then (if x1 < (300 : Int32) then x1 else (300 : Int32)) else (1 : Int32)), .null, .null, .null, .null, .null, .int (0 : Int32), .int (0 : Int32)]))]) X (aj_rI (As := [.int (if (1 : Int32) < (if x1 < (300 : Int32) then x1 else (300 : Int32)) then (if x1 < (300 : Int32) then x1 else (300 : Int32)) else (1 : Int32))]) (rest := [.ref q38, .ref o_CS]) X N gTB (c_Sto_init (D := D) (cI := cI) (cL := cL) (cZ := cZ) q38 (if (1 : Int32) < (if x1 < (300 : Int32) then x1 else (300 : Int32)) then (if x1 < (300 : Int32) then x1 else (300 : Int32)) else (1 : Int32)) r39.1 r39.2.1 r39.2.2 h40) d_CS_init_28 lk_Sto_init lw_CS_24 rfl lh_Sto_init ⟨(Nat.le_of_ble_eq_true rfl), (Nat.le_of_ble_eq_true rfl)⟩ [1] rfl rfl rfl (Nat.le_of_ble_eq_true rfl) ⟨kc_le hkc, kc_le hks⟩) [1] [0] rfl rfl rfl (by decide) (fun w1 hO => ?_)
  obtain ⟨a41, a42, a43, a44, a45, rfl⟩ := hO
  refine aj_perm (ws' := ([(o_CS, .inr (6, [.int (if (1 : Int32) < (if x1 < (300 : Int32) then x1 else (300 : Int32)) then (if x1 < (300 : Int32) then x1 else (300 : Int32)) else (1 : Int32)), .null, .null, .null, .null, .null, .int (0 : Int32), .int (0 : Int32)]))] : va_W) ++ w_Sto cI cL cZ q38 a41 a42 a43 a44 a45 r39.1) [0, 1, 2, 3, 4, 5, 6] rfl rfl ?_
  refine aj_putF (ws' := ([(o_CS, .inr (6, [.int (if (1 : Int32) < (if x1 < (300 : Int32) then x1 else (300 : Int32)) then (if x1 < (300 : Int32) then x1 else (300 : Int32)) else (1 : Int32)), .ref q38, .null, .null, .null, .null, .int (0 : Int32), .int (0 : Int32)]))] : va_W) ++ w_Sto cI cL cZ q38 a41 a42 a43 a44 a45 r39.1) X d_CS_init_31 in_CS ty_CS tyok_CS nmx_CS 0 rfl rfl 1 (by decide) lf_CS_27 rfl hnm rfl rfl rfl (Nat.le_of_ble_eq_true rfl) rfl ?_
  refine aj_aload_n X d_CS_init_34 0 rfl ?_
  obtain ⟨dc, ds, hm, e1, e2⟩ := addc_of hm
  have hkc := kc_step hkc e1
  have hks := kc_step hks e2
  refine aj_new (ci := 1) X [.null, .null] d_CS_init_35 in_Pla ty_Pla tyok_Pla le_CS_31.1 le_CS_31.2.1 le_CS_31.2.2 rfl df_Pla (kc_le hkc) (kc_le hks) (fun q46 => ?_)
  refine aj_ws (ws' := ([(o_CS, .inr (6, [.int (if (1 : Int32) < (if x1 < (300 : Int32) then x1 else (300 : Int32)) then (if x1 < (300 : Int32) then x1 else (300 : Int32)) else (1 : Int32)), .ref q38, .null, .null, .null, .null, .int (0 : Int32), .int (0 : Int32)]))] : va_W) ++ w_Sto cI cL cZ q38 a41 a42 a43 a44 a45 r39.1 ++ ([(q46, .inr (1, [.null, .null]))] : va_W)) rfl ?_
  refine aj_dup X d_CS_init_38 rfl ?_
  refine aj_aload_n X d_CS_init_39 0 rfl ?_
  refine aj_get X d_CS_init_40 in_CS 0 rfl rfl 0 (by decide) lf_CS_18 rfl ?_
  obtain ⟨r47, h48, hm⟩ := bnd_of hm
  obtain ⟨dc, ds, hm, e1, e2⟩ := addc_of hm
  have hkc := kc_step hkc e1
  have hks := kc_step hks e2
  refine aj_callV (wr := [(o_CS, .inr (6, [.int (if (1 : Int32) < (if x1 < (300 : Int32) then x1 else (300 : Int32)) then (if x1 < (300 : Int32) then x1 else (300 : Int32)) else (1 : Int32)), .ref q38, .null, .null, .null, .null, .int (0 : Int32), .int (0 : Int32)])), (q38, .inr (3, [.int r39.1.1, .int r39.1.2.1, .ref a41, .ref a42, .ref a43, .ref a44, .ref a45])), (a41, .inl (cI, r39.1.2.2.1.1, .inl r39.1.2.2.1.2)), (a42, .inl (cI, r39.1.2.2.2.1.1, .inl r39.1.2.2.2.1.2)), (a43, .inl (cI, r39.1.2.2.2.2.1.1, .inl r39.1.2.2.2.2.1.2)), (a44, .inl (cI, r39.1.2.2.2.2.2.1.1, .inl r39.1.2.2.2.2.2.1.2)), (a45, .inl (cI, r39.1.2.2.2.2.2.2.1, .inl r39.1.2.2.2.2.2.2.2))]) X (aj_rI (As := [.int (if (1 : Int32) < (if x1 < (300 : Int32) then x1 else (300 : Int32)) then (if x1 < (300 : Int32) then x1 else (300 : Int32)) else (1 : Int32))]) (rest := [.ref q46, .ref o_CS]) X N gTB (c_Pla_init (D := D) (cI := cI) (cL := cL) (cZ := cZ) q46 (if (1 : Int32) < (if x1 < (300 : Int32) then x1 else (300 : Int32)) then (if x1 < (300 : Int32) then x1 else (300 : Int32)) else (1 : Int32)) r47.1 r47.2.1 r47.2.2 h48) d_CS_init_43 lk_Pla_init lw_CS_33 rfl lh_Pla_init ⟨(Nat.le_of_ble_eq_true rfl), (Nat.le_of_ble_eq_true rfl)⟩ [7] rfl rfl rfl (Nat.le_of_ble_eq_true rfl) ⟨kc_le hkc, kc_le hks⟩) [7] [0, 1, 2, 3, 4, 5, 6] rfl rfl rfl (by decide) (fun w1 hO => ?_)
  obtain ⟨a49, a50, rfl⟩ := hO
  refine aj_perm (ws' := ([(o_CS, .inr (6, [.int (if (1 : Int32) < (if x1 < (300 : Int32) then x1 else (300 : Int32)) then (if x1 < (300 : Int32) then x1 else (300 : Int32)) else (1 : Int32)), .ref q38, .null, .null, .null, .null, .int (0 : Int32), .int (0 : Int32)]))] : va_W) ++ w_Sto cI cL cZ q38 a41 a42 a43 a44 a45 r39.1 ++ w_Pla cI cL cZ q46 a49 a50 r47.1) [0, 1, 2, 3, 4, 5, 6, 7, 8, 9] rfl rfl ?_
  refine aj_putF (ws' := ([(o_CS, .inr (6, [.int (if (1 : Int32) < (if x1 < (300 : Int32) then x1 else (300 : Int32)) then (if x1 < (300 : Int32) then x1 else (300 : Int32)) else (1 : Int32)), .ref q38, .ref q46, .null, .null, .null, .int (0 : Int32), .int (0 : Int32)]))] : va_W) ++ w_Sto cI cL cZ q38 a41 a42 a43 a44 a45 r39.1 ++ w_Pla cI cL cZ q46 a49 a50 r47.1) X d_CS_init_46 in_CS ty_CS tyok_CS nmx_CS 0 rfl rfl 2 (by decide) lf_CS_34 rfl hnm rfl rfl rfl (Nat.le_of_ble_eq_true rfl) rfl ?_
  refine aj_aload_n X d_CS_init_49 0 rfl ?_
  obtain ⟨dc, ds, hm, e1, e2⟩ := addc_of hm
  have hkc := kc_step hkc e1
  have hks := kc_step hks e2
  refine aj_new (ci := 0) X [.int (0 : Int32), .null] d_CS_init_50 in_Ass ty_Ass tyok_Ass le_CS_38.1 le_CS_38.2.1 le_CS_38.2.2 rfl df_Ass (kc_le hkc) (kc_le hks) (fun q51 => ?_)
  refine aj_ws (ws' := ([(o_CS, .inr (6, [.int (if (1 : Int32) < (if x1 < (300 : Int32) then x1 else (300 : Int32)) then (if x1 < (300 : Int32) then x1 else (300 : Int32)) else (1 : Int32)), .ref q38, .ref q46, .null, .null, .null, .int (0 : Int32), .int (0 : Int32)]))] : va_W) ++ w_Sto cI cL cZ q38 a41 a42 a43 a44 a45 r39.1 ++ w_Pla cI cL cZ q46 a49 a50 r47.1 ++ ([(q51, .inr (0, [.int (0 : Int32), .null]))] : va_W)) rfl ?_
  refine aj_dup X d_CS_init_53 rfl ?_
  obtain ⟨r52, h53, hm⟩ := bnd_of hm
  obtain ⟨dc, ds, hm, e1, e2⟩ := addc_of hm
  have hkc := kc_step hkc e1
  have hks := kc_step hks e2
  refine aj_callV (wr := [(o_CS, .inr (6, [.int (if (1 : Int32) < (if x1 < (300 : Int32) then x1 else (300 : Int32)) then (if x1 < (300 : Int32) then x1 else (300 : Int32)) else (1 : Int32)), .ref q38, .ref q46, .null, .null, .null, .int (0 : Int32), .int (0 : Int32)])), (q38, .inr (3, [.int r39.1.1, .int r39.1.2.1, .ref a41, .ref a42, .ref a43, .ref a44, .ref a45])), (a41, .inl (cI, r39.1.2.2.1.1, .inl r39.1.2.2.1.2)), (a42, .inl (cI, r39.1.2.2.2.1.1, .inl r39.1.2.2.2.1.2)), (a43, .inl (cI, r39.1.2.2.2.2.1.1, .inl r39.1.2.2.2.2.1.2)), (a44, .inl (cI, r39.1.2.2.2.2.2.1.1, .inl r39.1.2.2.2.2.2.1.2)), (a45, .inl (cI, r39.1.2.2.2.2.2.2.1, .inl r39.1.2.2.2.2.2.2.2)), (q46, .inr (1, [.ref a49, .ref a50])), (a49, .inl (cI, r47.1.1.1, .inl r47.1.1.2)), (a50, .inl (cI, r47.1.2.1, .inl r47.1.2.2))]) X (aj_rI (As := []) (rest := [.ref q51, .ref o_CS]) X N gTB (c_Ass_init (D := D) (cI := cI) (cL := cL) (cZ := cZ) q51 r52.1 r52.2.1 r52.2.2 h53) d_CS_init_54 lk_Ass_init lw_CS_40 rfl lh_Ass_init ⟨(Nat.le_of_ble_eq_true rfl), (Nat.le_of_ble_eq_true rfl)⟩ [10] rfl rfl rfl (Nat.le_of_ble_eq_true rfl) ⟨kc_le hkc, kc_le hks⟩) [10] [0, 1, 2, 3, 4, 5, 6, 7, 8, 9] rfl rfl rfl (by decide) (fun w1 hO => ?_)
  obtain ⟨a54, rfl⟩ := hO
  refine aj_perm (ws' := ([(o_CS, .inr (6, [.int (if (1 : Int32) < (if x1 < (300 : Int32) then x1 else (300 : Int32)) then (if x1 < (300 : Int32) then x1 else (300 : Int32)) else (1 : Int32)), .ref q38, .ref q46, .null, .null, .null, .int (0 : Int32), .int (0 : Int32)]))] : va_W) ++ w_Sto cI cL cZ q38 a41 a42 a43 a44 a45 r39.1 ++ w_Pla cI cL cZ q46 a49 a50 r47.1 ++ w_Ass cI cL cZ q51 a54 r52.1) [0, 1, 2, 3, 4, 5, 6, 7, 8, 9, 10, 11] rfl rfl ?_
  refine aj_putF (ws' := ([(o_CS, .inr (6, [.int (if (1 : Int32) < (if x1 < (300 : Int32) then x1 else (300 : Int32)) then (if x1 < (300 : Int32) then x1 else (300 : Int32)) else (1 : Int32)), .ref q38, .ref q46, .ref q51, .null, .null, .int (0 : Int32), .int (0 : Int32)]))] : va_W) ++ w_Sto cI cL cZ q38 a41 a42 a43 a44 a45 r39.1 ++ w_Pla cI cL cZ q46 a49 a50 r47.1 ++ w_Ass cI cL cZ q51 a54 r52.1) X d_CS_init_57 in_CS ty_CS tyok_CS nmx_CS 0 rfl rfl 3 (by decide) lf_CS_41 rfl hnm rfl rfl rfl (Nat.le_of_ble_eq_true rfl) rfl ?_
  obtain ⟨dc, ds, hm, e1, e2⟩ := addc_of hm
  have hkc := kc_step hkc e1
  have hks := kc_step hks e2
  refine aj_new (ci := 4) X [.null, .null, .null, .null, .null] d_CS_init_60 in_Tal ty_Tal tyok_Tal le_CS_45.1 le_CS_45.2.1 le_CS_45.2.2 rfl df_Tal (kc_le hkc) (kc_le hks) (fun q55 => ?_)
  refine aj_ws (ws' := ([(o_CS, .inr (6, [.int (if (1 : Int32) < (if x1 < (300 : Int32) then x1 else (300 : Int32)) then (if x1 < (300 : Int32) then x1 else (300 : Int32)) else (1 : Int32)), .ref q38, .ref q46, .ref q51, .null, .null, .int (0 : Int32), .int (0 : Int32)]))] : va_W) ++ w_Sto cI cL cZ q38 a41 a42 a43 a44 a45 r39.1 ++ w_Pla cI cL cZ q46 a49 a50 r47.1 ++ w_Ass cI cL cZ q51 a54 r52.1 ++ ([(q55, .inr (4, [.null, .null, .null, .null, .null]))] : va_W)) rfl ?_
  refine aj_dup X d_CS_init_63 rfl ?_
  refine aj_aload_n X d_CS_init_64 0 rfl ?_
  refine aj_get X d_CS_init_65 in_CS 0 rfl rfl 1 (by decide) lf_CS_27 rfl ?_
  obtain ⟨r56, h57, hm⟩ := bnd_of hm
  obtain ⟨dc, ds, hm, e1, e2⟩ := addc_of hm
  have hkc := kc_step hkc e1
  have hks := kc_step hks e2
  refine aj_callV (wr := [(o_CS, .inr (6, [.int (if (1 : Int32) < (if x1 < (300 : Int32) then x1 else (300 : Int32)) then (if x1 < (300 : Int32) then x1 else (300 : Int32)) else (1 : Int32)), .ref q38, .ref q46, .ref q51, .null, .null, .int (0 : Int32), .int (0 : Int32)])), (q38, .inr (3, [.int r39.1.1, .int r39.1.2.1, .ref a41, .ref a42, .ref a43, .ref a44, .ref a45])), (a41, .inl (cI, r39.1.2.2.1.1, .inl r39.1.2.2.1.2)), (a42, .inl (cI, r39.1.2.2.2.1.1, .inl r39.1.2.2.2.1.2)), (a43, .inl (cI, r39.1.2.2.2.2.1.1, .inl r39.1.2.2.2.2.1.2)), (a44, .inl (cI, r39.1.2.2.2.2.2.1.1, .inl r39.1.2.2.2.2.2.1.2)), (a45, .inl (cI, r39.1.2.2.2.2.2.2.1, .inl r39.1.2.2.2.2.2.2.2)), (q46, .inr (1, [.ref a49, .ref a50])), (a49, .inl (cI, r47.1.1.1, .inl r47.1.1.2)), (a50, .inl (cI, r47.1.2.1, .inl r47.1.2.2)), (q51, .inr (0, [.int r52.1.1, .ref a54])), (a54, .inl (cI, r52.1.2.1, .inl r52.1.2.2))]) X (aj_rI (As := [.ref q38]) (rest := [.ref q55]) X N gTB (c_Tal_init (D := D) (cI := cI) (cL := cL) (cZ := cZ) q55 q38 r56.1 r56.2.1 r56.2.2 h57) d_CS_init_68 lk_Tal_init lw_CS_47 rfl lh_Tal_init ⟨(Nat.le_of_ble_eq_true rfl), (Nat.le_of_ble_eq_true rfl)⟩ [12] rfl rfl rfl (Nat.le_of_ble_eq_true rfl) ⟨kc_le hkc, kc_le hks⟩) [12] [0, 1, 2, 3, 4, 5, 6, 7, 8, 9, 10, 11] rfl rfl rfl (by decide) (fun w1 hO => ?_)
  obtain ⟨a58, a59, a60, a61, rfl⟩ := hO
  refine aj_perm (ws' := ([(o_CS, .inr (6, [.int (if (1 : Int32) < (if x1 < (300 : Int32) then x1 else (300 : Int32)) then (if x1 < (300 : Int32) then x1 else (300 : Int32)) else (1 : Int32)), .ref q38, .ref q46, .ref q51, .null, .null, .int (0 : Int32), .int (0 : Int32)]))] : va_W) ++ w_Sto cI cL cZ q38 a41 a42 a43 a44 a45 r39.1 ++ w_Pla cI cL cZ q46 a49 a50 r47.1 ++ w_Ass cI cL cZ q51 a54 r52.1 ++ w_Tal cI cL cZ q55 q38 a58 a59 a60 a61 r56.1) [0, 1, 2, 3, 4, 5, 6, 7, 8, 9, 10, 11, 12, 13, 14, 15, 16] rfl rfl ?_
  refine aj_astore_n (lv' := [(2, .ref q55), (0, .ref o_CS), (1, .int x1)]) X d_CS_init_71 rfl (by decide) rfl ?_
  refine aj_aload_n X d_CS_init_72 1 rfl ?_
  obtain ⟨dc, ds, hm, e1, e2⟩ := addc_of hm
  have hkc := kc_step hkc e1
  have hks := kc_step hks e2
  refine aj_new (ci := 5) X [.int (0 : Int32), .int (0 : Int32), .null, .null, .null, .null, .null] d_CS_init_73 in_Tra ty_Tra tyok_Tra le_CS_50.1 le_CS_50.2.1 le_CS_50.2.2 rfl df_Tra (kc_le hkc) (kc_le hks) (fun q62 => ?_)
  refine aj_ws (ws' := ([(o_CS, .inr (6, [.int (if (1 : Int32) < (if x1 < (300 : Int32) then x1 else (300 : Int32)) then (if x1 < (300 : Int32) then x1 else (300 : Int32)) else (1 : Int32)), .ref q38, .ref q46, .ref q51, .null, .null, .int (0 : Int32), .int (0 : Int32)]))] : va_W) ++ w_Sto cI cL cZ q38 a41 a42 a43 a44 a45 r39.1 ++ w_Pla cI cL cZ q46 a49 a50 r47.1 ++ w_Ass cI cL cZ q51 a54 r52.1 ++ w_Tal cI cL cZ q55 q38 a58 a59 a60 a61 r56.1 ++ ([(q62, .inr (5, [.int (0 : Int32), .int (0 : Int32), .null, .null, .null, .null, .null]))] : va_W)) rfl ?_
  refine aj_dup X d_CS_init_76 rfl ?_
  refine aj_aload_n X d_CS_init_77 1 rfl ?_
  refine aj_get X d_CS_init_78 in_CS 0 rfl rfl 0 (by decide) lf_CS_18 rfl ?_
  refine aj_aload_n X d_CS_init_81 0 rfl ?_
  obtain ⟨r63, h64, hm⟩ := bnd_of hm
  obtain ⟨dc, ds, hm, e1, e2⟩ := addc_of hm
  have hkc := kc_step hkc e1
  have hks := kc_step hks e2
  refine aj_callV (wr := [(o_CS, .inr (6, [.int (if (1 : Int32) < (if x1 < (300 : Int32) then x1 else (300 : Int32)) then (if x1 < (300 : Int32) then x1 else (300 : Int32)) else (1 : Int32)), .ref q38, .ref q46, .ref q51, .null, .null, .int (0 : Int32), .int (0 : Int32)])), (q38, .inr (3, [.int r39.1.1, .int r39.1.2.1, .ref a41, .ref a42, .ref a43, .ref a44, .ref a45])), (a41, .inl (cI, r39.1.2.2.1.1, .inl r39.1.2.2.1.2)), (a42, .inl (cI, r39.1.2.2.2.1.1, .inl r39.1.2.2.2.1.2)), (a43, .inl (cI, r39.1.2.2.2.2.1.1, .inl r39.1.2.2.2.2.1.2)), (a44, .inl (cI, r39.1.2.2.2.2.2.1.1, .inl r39.1.2.2.2.2.2.1.2)), (a45, .inl (cI, r39.1.2.2.2.2.2.2.1, .inl r39.1.2.2.2.2.2.2.2)), (q46, .inr (1, [.ref a49, .ref a50])), (a49, .inl (cI, r47.1.1.1, .inl r47.1.1.2)), (a50, .inl (cI, r47.1.2.1, .inl r47.1.2.2)), (q51, .inr (0, [.int r52.1.1, .ref a54])), (a54, .inl (cI, r52.1.2.1, .inl r52.1.2.2)), (q55, .inr (4, [.ref q38, .ref a58, .ref a59, .ref a60, .ref a61])), (a58, .inl (cL, r56.1.1.1, .inr (.inl r56.1.1.2))), (a59, .inl (cL, r56.1.2.1.1, .inr (.inl r56.1.2.1.2))), (a60, .inl (cI, r56.1.2.2.1.1, .inl r56.1.2.2.1.2)), (a61, .inl (cI, r56.1.2.2.2.1, .inl r56.1.2.2.2.2))]) X (aj_rI (As := [.int (if (1 : Int32) < (if x1 < (300 : Int32) then x1 else (300 : Int32)) then (if x1 < (300 : Int32) then x1 else (300 : Int32)) else (1 : Int32)), .ref q55]) (rest := [.ref q62, .ref o_CS]) X N gTB (c_Tra_init (D := D) (cI := cI) (cL := cL) (cZ := cZ) q62 q55 (if (1 : Int32) < (if x1 < (300 : Int32) then x1 else (300 : Int32)) then (if x1 < (300 : Int32) then x1 else (300 : Int32)) else (1 : Int32)) r63.1 r63.2.1 r63.2.2 h64) d_CS_init_82 lk_Tra_init lw_CS_52 rfl lh_Tra_init ⟨(Nat.le_of_ble_eq_true rfl), (Nat.le_of_ble_eq_true rfl)⟩ [17] rfl rfl rfl (Nat.le_of_ble_eq_true rfl) ⟨kc_le hkc, kc_le hks⟩) [17] [0, 1, 2, 3, 4, 5, 6, 7, 8, 9, 10, 11, 12, 13, 14, 15, 16] rfl rfl rfl (by decide) (fun w1 hO => ?_)
  obtain ⟨a65, a66, a67, a68, rfl⟩ := hO
  refine aj_perm (ws' := ([(o_CS, .inr (6, [.int (if (1 : Int32) < (if x1 < (300 : Int32) then x1 else (300 : Int32)) then (if x1 < (300 : Int32) then x1 else (300 : Int32)) else (1 : Int32)), .ref q38, .ref q46, .ref q51, .null, .null, .int (0 : Int32), .int (0 : Int32)]))] : va_W) ++ w_Sto cI cL cZ q38 a41 a42 a43 a44 a45 r39.1 ++ w_Pla cI cL cZ q46 a49 a50 r47.1 ++ w_Ass cI cL cZ q51 a54 r52.1 ++ w_Tal cI cL cZ q55 q38 a58 a59 a60 a61 r56.1 ++ w_Tra cI cL cZ q62 q55 a65 a66 a67 a68 r63.1) [0, 1, 2, 3, 4, 5, 6, 7, 8, 9, 10, 11, 12, 13, 14, 15, 16, 17, 18, 19, 20, 21] rfl rfl ?_
  refine aj_putF (ws' := ([(o_CS, .inr (6, [.int (if (1 : Int32) < (if x1 < (300 : Int32) then x1 else (300 : Int32)) then (if x1 < (300 : Int32) then x1 else (300 : Int32)) else (1 : Int32)), .ref q38, .ref q46, .ref q51, .ref q62, .null, .int (0 : Int32), .int (0 : Int32)]))] : va_W) ++ w_Sto cI cL cZ q38 a41 a42 a43 a44 a45 r39.1 ++ w_Pla cI cL cZ q46 a49 a50 r47.1 ++ w_Ass cI cL cZ q51 a54 r52.1 ++ w_Tal cI cL cZ q55 q38 a58 a59 a60 a61 r56.1 ++ w_Tra cI cL cZ q62 q55 a65 a66 a67 a68 r63.1) X d_CS_init_85 in_CS ty_CS tyok_CS nmx_CS 0 rfl rfl 4 (by decide) lf_CS_55 rfl hnm rfl rfl rfl (Nat.le_of_ble_eq_true rfl) rfl ?_
  refine aj_aload_n X d_CS_init_88 1 rfl ?_
  obtain ⟨dc, ds, hm, e1, e2⟩ := addc_of hm
  have hkc := kc_step hkc e1
  have hks := kc_step hks e2
  refine aj_new (ci := 2) X [.int (0 : Int32), .long (0 : Int64), .int (0 : Int32), .null, .null, .null, .null, .null, .null, .int (0 : Int32), .null, .long (0 : Int64)] d_CS_init_89 in_Sea ty_Sea tyok_Sea le_CS_59.1 le_CS_59.2.1 le_CS_59.2.2 rfl df_Sea (kc_le hkc) (kc_le hks) (fun q69 => ?_)
  refine aj_ws (ws' := ([(o_CS, .inr (6, [.int (if (1 : Int32) < (if x1 < (300 : Int32) then x1 else (300 : Int32)) then (if x1 < (300 : Int32) then x1 else (300 : Int32)) else (1 : Int32)), .ref q38, .ref q46, .ref q51, .ref q62, .null, .int (0 : Int32), .int (0 : Int32)]))] : va_W) ++ w_Sto cI cL cZ q38 a41 a42 a43 a44 a45 r39.1 ++ w_Pla cI cL cZ q46 a49 a50 r47.1 ++ w_Ass cI cL cZ q51 a54 r52.1 ++ w_Tal cI cL cZ q55 q38 a58 a59 a60 a61 r56.1 ++ w_Tra cI cL cZ q62 q55 a65 a66 a67 a68 r63.1 ++ ([(q69, .inr (2, [.int (0 : Int32), .long (0 : Int64), .int (0 : Int32), .null, .null, .null, .null, .null, .null, .int (0 : Int32), .null, .long (0 : Int64)]))] : va_W)) rfl ?_
  refine aj_dup X d_CS_init_92 rfl ?_
  refine aj_aload_n X d_CS_init_93 1 rfl ?_
  refine aj_get X d_CS_init_94 in_CS 0 rfl rfl 0 (by decide) lf_CS_18 rfl ?_
  refine aj_aload_n X d_CS_init_97 1 rfl ?_
  refine aj_get X d_CS_init_98 in_CS 0 rfl rfl 1 (by decide) lf_CS_27 rfl ?_
  refine aj_aload_n X d_CS_init_101 1 rfl ?_
  refine aj_get X d_CS_init_102 in_CS 0 rfl rfl 4 (by decide) lf_CS_55 rfl ?_
  refine aj_aload_n X d_CS_init_105 0 rfl ?_
  refine aj_aload_n X d_CS_init_106 1 rfl ?_
  refine aj_get X d_CS_init_107 in_CS 0 rfl rfl 3 (by decide) lf_CS_41 rfl ?_
  obtain ⟨r70, h71, hm⟩ := bnd_of hm
  obtain ⟨dc, ds, hm, e1, e2⟩ := addc_of hm
  have hkc := kc_step hkc e1
  have hks := kc_step hks e2
  refine aj_callV (wr := [(o_CS, .inr (6, [.int (if (1 : Int32) < (if x1 < (300 : Int32) then x1 else (300 : Int32)) then (if x1 < (300 : Int32) then x1 else (300 : Int32)) else (1 : Int32)), .ref q38, .ref q46, .ref q51, .ref q62, .null, .int (0 : Int32), .int (0 : Int32)])), (q38, .inr (3, [.int r39.1.1, .int r39.1.2.1, .ref a41, .ref a42, .ref a43, .ref a44, .ref a45])), (a41, .inl (cI, r39.1.2.2.1.1, .inl r39.1.2.2.1.2)), (a42, .inl (cI, r39.1.2.2.2.1.1, .inl r39.1.2.2.2.1.2)), (a43, .inl (cI, r39.1.2.2.2.2.1.1, .inl r39.1.2.2.2.2.1.2)), (a44, .inl (cI, r39.1.2.2.2.2.2.1.1, .inl r39.1.2.2.2.2.2.1.2)), (a45, .inl (cI, r39.1.2.2.2.2.2.2.1, .inl r39.1.2.2.2.2.2.2.2)), (q46, .inr (1, [.ref a49, .ref a50])), (a49, .inl (cI, r47.1.1.1, .inl r47.1.1.2)), (a50, .inl (cI, r47.1.2.1, .inl r47.1.2.2)), (q51, .inr (0, [.int r52.1.1, .ref a54])), (a54, .inl (cI, r52.1.2.1, .inl r52.1.2.2)), (q55, .inr (4, [.ref q38, .ref a58, .ref a59, .ref a60, .ref a61])), (a58, .inl (cL, r56.1.1.1, .inr (.inl r56.1.1.2))), (a59, .inl (cL, r56.1.2.1.1, .inr (.inl r56.1.2.1.2))), (a60, .inl (cI, r56.1.2.2.1.1, .inl r56.1.2.2.1.2)), (a61, .inl (cI, r56.1.2.2.2.1, .inl r56.1.2.2.2.2)), (q62, .inr (5, [.int r63.1.1, .int r63.1.2.1, .ref a65, .ref q55, .ref a66, .ref a67, .ref a68])), (a65, .inl (cI, r63.1.2.2.1.1, .inl r63.1.2.2.1.2)), (a66, .inl (cI, r63.1.2.2.2.1.1, .inl r63.1.2.2.2.1.2)), (a67, .inl (cI, r63.1.2.2.2.2.1.1, .inl r63.1.2.2.2.2.1.2)), (a68, .inl (cI, r63.1.2.2.2.2.2.1, .inl r63.1.2.2.2.2.2.2))]) X (aj_rI (As := [.int (if (1 : Int32) < (if x1 < (300 : Int32) then x1 else (300 : Int32)) then (if x1 < (300 : Int32) then x1 else (300 : Int32)) else (1 : Int32)), .ref q38, .ref q62, .ref q55, .ref q51]) (rest := [.ref q69, .ref o_CS]) X N gTB (c_Sea_init (D := D) (cI := cI) (cL := cL) (cZ := cZ) q69 q38 q62 q55 q51 (if (1 : Int32) < (if x1 < (300 : Int32) then x1 else (300 : Int32)) then (if x1 < (300 : Int32) then x1 else (300 : Int32)) else (1 : Int32)) r70.1 r70.2.1 r70.2.2 h71) d_CS_init_110 lk_Sea_init lw_CS_61 rfl lh_Sea_init ⟨(Nat.le_of_ble_eq_true rfl), (Nat.le_of_ble_eq_true rfl)⟩ [22] rfl rfl rfl (Nat.le_of_ble_eq_true rfl) ⟨kc_le hkc, kc_le hks⟩) [22] [0, 1, 2, 3, 4, 5, 6, 7, 8, 9, 10, 11, 12, 13, 14, 15, 16, 17, 18, 19, 20, 21] rfl rfl rfl (by decide) (fun w1 hO => ?_)
  obtain ⟨a72, a73, a74, rfl⟩ := hO
  refine aj_perm (ws' := ([(o_CS, .inr (6, [.int (if (1 : Int32) < (if x1 < (300 : Int32) then x1 else (300 : Int32)) then (if x1 < (300 : Int32) then x1 else (300 : Int32)) else (1 : Int32)), .ref q38, .ref q46, .ref q51, .ref q62, .null, .int (0 : Int32), .int (0 : Int32)]))] : va_W) ++ w_Sto cI cL cZ q38 a41 a42 a43 a44 a45 r39.1 ++ w_Pla cI cL cZ q46 a49 a50 r47.1 ++ w_Ass cI cL cZ q51 a54 r52.1 ++ w_Tal cI cL cZ q55 q38 a58 a59 a60 a61 r56.1 ++ w_Tra cI cL cZ q62 q55 a65 a66 a67 a68 r63.1 ++ w_Sea cI cL cZ q69 q38 q62 q55 q51 a72 a73 a74 r70.1) [0, 1, 2, 3, 4, 5, 6, 7, 8, 9, 10, 11, 12, 13, 14, 15, 16, 17, 18, 19, 20, 21, 22, 23, 24, 25] rfl rfl ?_
  refine aj_putF (ws' := ([(o_CS, .inr (6, [.int (if (1 : Int32) < (if x1 < (300 : Int32) then x1 else (300 : Int32)) then (if x1 < (300 : Int32) then x1 else (300 : Int32)) else (1 : Int32)), .ref q38, .ref q46, .ref q51, .ref q62, .ref q69, .int (0 : Int32), .int (0 : Int32)]))] : va_W) ++ w_Sto cI cL cZ q38 a41 a42 a43 a44 a45 r39.1 ++ w_Pla cI cL cZ q46 a49 a50 r47.1 ++ w_Ass cI cL cZ q51 a54 r52.1 ++ w_Tal cI cL cZ q55 q38 a58 a59 a60 a61 r56.1 ++ w_Tra cI cL cZ q62 q55 a65 a66 a67 a68 r63.1 ++ w_Sea cI cL cZ q69 q38 q62 q55 q51 a72 a73 a74 r70.1) X d_CS_init_113 in_CS ty_CS tyok_CS nmx_CS 0 rfl rfl 5 (by decide) lf_CS_64 rfl hnm rfl rfl rfl (Nat.le_of_ble_eq_true rfl) rfl ?_
  refine aj_aload_n X d_CS_init_116 1 rfl ?_
  refine aj_iconst (v := (-1 : Int32)) X d_CS_init_117 (by decide) ?_
  refine aj_put (ws' := ([(o_CS, .inr (6, [.int (if (1 : Int32) < (if x1 < (300 : Int32) then x1 else (300 : Int32)) then (if x1 < (300 : Int32) then x1 else (300 : Int32)) else (1 : Int32)), .ref q38, .ref q46, .ref q51, .ref q62, .ref q69, .int (-1 : Int32), .int (0 : Int32)]))] : va_W) ++ w_Sto cI cL cZ q38 a41 a42 a43 a44 a45 r39.1 ++ w_Pla cI cL cZ q46 a49 a50 r47.1 ++ w_Ass cI cL cZ q51 a54 r52.1 ++ w_Tal cI cL cZ q55 q38 a58 a59 a60 a61 r56.1 ++ w_Tra cI cL cZ q62 q55 a65 a66 a67 a68 r63.1 ++ w_Sea cI cL cZ q69 q38 q62 q55 q51 a72 a73 a74 r70.1) X d_CS_init_118 in_CS ty_CS tyok_CS nmx_CS 0 rfl rfl 6 (by decide) lf_CS_68 rfl rfl rfl (Nat.le_of_ble_eq_true rfl) rfl ?_
  refine aj_aload_n X d_CS_init_121 1 rfl ?_
  refine aj_iconst (v := (1 : Int32)) X d_CS_init_122 (by decide) ?_
  refine aj_put (ws' := ([(o_CS, .inr (6, [.int (if (1 : Int32) < (if x1 < (300 : Int32) then x1 else (300 : Int32)) then (if x1 < (300 : Int32) then x1 else (300 : Int32)) else (1 : Int32)), .ref q38, .ref q46, .ref q51, .ref q62, .ref q69, .int (-1 : Int32), .int (1 : Int32)]))] : va_W) ++ w_Sto cI cL cZ q38 a41 a42 a43 a44 a45 r39.1 ++ w_Pla cI cL cZ q46 a49 a50 r47.1 ++ w_Ass cI cL cZ q51 a54 r52.1 ++ w_Tal cI cL cZ q55 q38 a58 a59 a60 a61 r56.1 ++ w_Tra cI cL cZ q62 q55 a65 a66 a67 a68 r63.1 ++ w_Sea cI cL cZ q69 q38 q62 q55 q51 a72 a73 a74 r70.1) X d_CS_init_123 in_CS ty_CS tyok_CS nmx_CS 0 rfl rfl 7 (by decide) lf_CS_71 rfl rfl rfl (Nat.le_of_ble_eq_true rfl) rfl ?_
  obtain ⟨ho, e1, e2⟩ := res_of hm
  subst ho
  obtain rfl := kc_end hkc e1
  obtain rfl := kc_end hks e2
  exact aj_vret X d_CS_init_126 hr hlk [0, 7, 8, 9, 10, 11, 1, 2, 3, 4, 5, 6, 12, 13, 14, 15, 16, 17, 18, 19, 20, 21, 22, 23, 24, 25] (w_CS cI cL cZ o_CS q38 q46 q51 q62 q69 ((if (1 : Int32) < (if x1 < (300 : Int32) then x1 else (300 : Int32)) then (if x1 < (300 : Int32) then x1 else (300 : Int32)) else (1 : Int32)), (-1 : Int32), (1 : Int32)) ++ w_Pla cI cL cZ q46 a49 a50 r47.1 ++ w_Ass cI cL cZ q51 a54 r52.1 ++ w_Sto cI cL cZ q38 a41 a42 a43 a44 a45 r39.1 ++ w_Tal cI cL cZ q55 q38 a58 a59 a60 a61 r56.1 ++ w_Tra cI cL cZ q62 q55 a65 a66 a67 a68 r63.1 ++ w_Sea cI cL cZ q69 q38 q62 q55 q51 a72 a73 a74 r70.1) rfl rfl ⟨q46, q51, q38, q55, q62, q69, a49, a50, a54, a41, a42, a43, a44, a45, a58, a59, a60, a61, a65, a66, a67, a68, a72, a73, a74, rfl⟩
abbrev X_Sto_hasRoom (p : Program) (s : State) (m : MethodId) (args : Array Value) (c : Code) (D : va_G) (cI cL cZ : ClassId) (A : Nat → Prop) : Prop := aj_C p s m args c D clss (ty3 cI cL cZ) A b_Sto_hasRoom 3 R_Sto TB
abbrev J_Sto_hasRoom (p : Program) (l : Launch) (e : Env) (s : State) (m : MethodId) (args : Array Value) (below : List Frame) (meth : Method) (c : Code) (D : va_G) (cI cL cZ : ClassId) (A : Nat → Prop) (O : Int32 → va_W → Prop) (mc ms : Nat) (ws : va_W) (kc ks pc : Nat) (lv : List (Nat × Value)) (st : List Value) : Prop := aj p l e { frames := 0, cells := mc, slots := ms, locals := 0 } s m args below meth c (MQ below (qI D clss (ty3 cI cL cZ) O A) args s mc ms A) D clss A 3 ws kc ks pc lv st
def O_Sto_hasRoom (cI cL cZ : ClassId) (o_Sto a_Sto_0 a_Sto_1 a_Sto_2 a_Sto_3 a_Sto_4 : Nat) (v_Sto : T_Sto) (out : Int32) : Int32 → va_W → Prop := fun r w1 => out = r ∧ w1 = w_Sto cI cL cZ o_Sto a_Sto_0 a_Sto_1 a_Sto_2 a_Sto_3 a_Sto_4 v_Sto
def m_Sto_hasRoom (v_Sto : T_Sto) (x1 : Int32) (x2 : Int32) : Option (Int32) := (if (1500 : Int32) < (v_Sto.1 + x1) then (some (0 : Int32)) else (if (20000 : Int32) < (v_Sto.2.1 + x2) then (some (0 : Int32)) else (some (1 : Int32))))
set_option maxRecDepth 100000 in
set_option maxHeartbeats 4000000 in
theorem c_Sto_hasRoom {l : Launch} {D : va_G} {cI cL cZ : ClassId} (o_Sto a_Sto_0 a_Sto_1 a_Sto_2 a_Sto_3 a_Sto_4 : Nat) (v_Sto : T_Sto) (x1 : Int32) (x2 : Int32) (out : Int32) (hm : m_Sto_hasRoom v_Sto x1 x2 = some out) : ct l y_Sto_hasRoom (Cond.code y_Sto_hasRoom b_Sto_hasRoom 3 (some .boolean) :: TB) 0 0 D clss (ty3 cI cL cZ) NM0 NF0 [.ref o_Sto, .int x1, .int x2] (w_Sto cI cL cZ o_Sto a_Sto_0 a_Sto_1 a_Sto_2 a_Sto_3 a_Sto_4 v_Sto) (qI D clss (ty3 cI cL cZ) (O_Sto_hasRoom cI cL cZ o_Sto a_Sto_0 a_Sto_1 a_Sto_2 a_Sto_3 a_Sto_4 v_Sto out)) 0 0 := by
  refine ct_of (plainFor_of_name (by decide)) (Nat.le_of_ble_eq_true rfl) (fun p e s m args below meth c A X N hr hlk hnm => ?_)
  refine aj_lv (lv' := [(0, .ref o_Sto), (1, .int x1), (2, .int x2)]) [0, 1, 2] rfl ?_
  unfold m_Sto_hasRoom at hm
  refine aj_aload_n X d_Sto_hasRoom_0 0 rfl ?_
  refine aj_get X d_Sto_hasRoom_1 in_Sto 0 rfl rfl 0 (by decide) lf_Sto_9 rfl ?_
  refine aj_iload_n X d_Sto_hasRoom_4 1 rfl ?_
  refine aj_iadd X d_Sto_hasRoom_5 ?_
  refine aj_sipush (v := (1500 : Int32)) X d_Sto_hasRoom_6 (by decide) ?_
  refine aj_icmp_gt X 28 d_Sto_hasRoom_9 (by decide) (fun h => ?_) (fun h => ?_)
  · have hm := ite_t hm h
    refine aj_iconst (v := (0 : Int32)) X d_Sto_hasRoom_28 (by decide) ?_
    have ho := Option.some.inj hm
    subst ho
    exact aj_zret X d_Sto_hasRoom_29 hr hlk (by decide) [0, 1, 2, 3, 4, 5] (w_Sto cI cL cZ o_Sto a_Sto_0 a_Sto_1 a_Sto_2 a_Sto_3 a_Sto_4 v_Sto) rfl rfl ⟨rfl, rfl⟩
  · have hm := ite_f hm h
    refine aj_aload_n X d_Sto_hasRoom_12 0 rfl ?_
    refine aj_get X d_Sto_hasRoom_13 in_Sto 0 rfl rfl 1 (by decide) lf_Sto_15 rfl ?_
    refine aj_iload_n X d_Sto_hasRoom_16 2 rfl ?_
    refine aj_iadd X d_Sto_hasRoom_17 ?_
    refine aj_sipush (v := (20000 : Int32)) X d_Sto_hasRoom_18 (by decide) ?_
    refine aj_icmp_gt X 28 d_Sto_hasRoom_21 (by decide) (fun h => ?_) (fun h => ?_)
    · have hm := ite_t hm h
      refine aj_iconst (v := (0 : Int32)) X d_Sto_hasRoom_28 (by decide) ?_
      have ho := Option.some.inj hm
      subst ho
      exact aj_zret X d_Sto_hasRoom_29 hr hlk (by decide) [0, 1, 2, 3, 4, 5] (w_Sto cI cL cZ o_Sto a_Sto_0 a_Sto_1 a_Sto_2 a_Sto_3 a_Sto_4 v_Sto) rfl rfl ⟨rfl, rfl⟩
    · have hm := ite_f hm h
      refine aj_iconst (v := (1 : Int32)) X d_Sto_hasRoom_24 (by decide) ?_
      refine aj_goto X 29 d_Sto_hasRoom_25 (by decide) ?_
      have ho := Option.some.inj hm
      subst ho
      exact aj_zret X d_Sto_hasRoom_29 hr hlk (by decide) [0, 1, 2, 3, 4, 5] (w_Sto cI cL cZ o_Sto a_Sto_0 a_Sto_1 a_Sto_2 a_Sto_3 a_Sto_4 v_Sto) rfl rfl ⟨rfl, rfl⟩
abbrev X_Arr__copyOf (p : Program) (s : State) (m : MethodId) (args : Array Value) (c : Code) (D : va_G) (cI cL cZ : ClassId) (A : Nat → Prop) : Prop := aj_C p s m args c D clss (ty3 cI cL cZ) A b_Arr__copyOf 3 R_Arr_ TB
abbrev J_Arr__copyOf (p : Program) (l : Launch) (e : Env) (s : State) (m : MethodId) (args : Array Value) (below : List Frame) (meth : Method) (c : Code) (D : va_G) (cI cL cZ : ClassId) (A : Nat → Prop) (O : Nat → va_W → Prop) (mc ms : Nat) (ws : va_W) (kc ks pc : Nat) (lv : List (Nat × Value)) (st : List Value) : Prop := aj p l e { frames := 1, cells := mc, slots := ms, locals := 40 } s m args below meth c (MQ below (qR D clss (ty3 cI cL cZ) O A) args s mc ms A) D clss A 3 ws kc ks pc lv st
def O_Arr__copyOf (cI cL cZ : ClassId) (q_0 : Nat) (p_0 : Arr) (out : Arr) : Nat → va_W → Prop := fun r w1 => w1 = ([(q_0, .inl (cI, p_0.1, .inl p_0.2))] : va_W) ++ ([(r, .inl (cI, out.1, .inl out.2))] : va_W)
def m_Arr__copyOf (p_0 : Arr) (x1 : Int32) : Option ((Arr) × Nat × Nat) := (if x1 = (Int32.ofNat p_0.1) then none else (if ¬ x1 < 0 ∧ (x1).toNatClampNeg * 4 ≤ 536870912 then addc 1 (x1).toNatClampNeg (if ¬ (0 : Int32) < 0 ∧ ¬ (0 : Int32) < 0 ∧ ¬ (if x1 < (Int32.ofNat p_0.1) then x1 else (Int32.ofNat p_0.1)) < 0 ∧ ((0 : Int32)).toNatClampNeg + ((if x1 < (Int32.ofNat p_0.1) then x1 else (Int32.ofNat p_0.1))).toNatClampNeg ≤ p_0.1 ∧ ((0 : Int32)).toNatClampNeg + ((if x1 < (Int32.ofNat p_0.1) then x1 else (Int32.ofNat p_0.1))).toNatClampNeg ≤ (x1).toNatClampNeg then (some (((x1).toNatClampNeg, (va_cpy p_0.2 (fun _ => 0) ((0 : Int32)).toNatClampNeg ((0 : Int32)).toNatClampNeg ((if x1 < (Int32.ofNat p_0.1) then x1 else (Int32.ofNat p_0.1))).toNatClampNeg)), 0, 0)) else none) else none))
set_option maxRecDepth 100000 in
set_option maxHeartbeats 4000000 in
theorem c_Arr__copyOf {l : Launch} {D : va_G} {cI cL cZ : ClassId} (q_0 : Nat) (p_0 : Arr) (x1 : Int32) (out : Arr) (mc ms : Nat) (hm : m_Arr__copyOf p_0 x1 = some (out, mc, ms)) : ct l y_Arr__copyOf (Cond.code y_Arr__copyOf b_Arr__copyOf 3 (some (.array .int)) :: TB) 1 40 D clss (ty3 cI cL cZ) NM0 NF0 [.ref q_0, .int x1] (([(q_0, .inl (cI, p_0.1, .inl p_0.2))] : va_W)) (qR D clss (ty3 cI cL cZ) (O_Arr__copyOf cI cL cZ q_0 p_0 out)) mc ms := by
  refine ct_of (by decide +kernel) (Nat.le_of_ble_eq_true rfl) (fun p e s m args below meth c A X N hr hlk hnm => ?_)
  refine aj_lv (lv' := [(0, .ref q_0), (1, .int x1)]) [0, 1] rfl ?_
  unfold m_Arr__copyOf at hm
  have hkc : 0 + mc = mc := Nat.zero_add _
  have hks : 0 + ms = ms := Nat.zero_add _
  refine aj_iload_n X d_Arr__copyOf_0 1 rfl ?_
  refine aj_aload_n X d_Arr__copyOf_1 0 rfl ?_
  refine aj_alen X d_Arr__copyOf_2 0 0 rfl rfl ?_
  refine aj_icmp_ne X 14 d_Arr__copyOf_3 (by decide) (fun h => ?_) (fun h => ?_)
  · have hm := ite_f hm h
    refine aj_iload_n X d_Arr__copyOf_14 1 rfl ?_
    obtain ⟨b5, hm⟩ := chk_of hm
    obtain ⟨dc, ds, hm, e1, e2⟩ := addc_of hm
    have hkc := kc_step hkc e1
    have hks := kc_step hks e2
    refine aj_newI X d_Arr__copyOf_15 lz_int 0 rfl b5.1 b5.2 (kc_le hkc) (kc_le hks) (fun q3 => ?_)
    refine aj_ws (ws' := ([(q_0, .inl (cI, p_0.1, .inl p_0.2)), (q3, .inl (cI, (x1).toNatClampNeg, .inl (fun _ => 0)))] : va_W)) rfl ?_
    refine aj_astore_n (lv' := [(2, .ref q3), (0, .ref q_0), (1, .int x1)]) X d_Arr__copyOf_17 rfl (by decide) rfl ?_
    refine aj_aload_n X d_Arr__copyOf_18 1 rfl ?_
    refine aj_iconst (v := (0 : Int32)) X d_Arr__copyOf_19 (by decide) ?_
    refine aj_aload_n X d_Arr__copyOf_20 0 rfl ?_
    refine aj_iconst (v := (0 : Int32)) X d_Arr__copyOf_21 (by decide) ?_
    refine aj_aload_n X d_Arr__copyOf_22 1 rfl ?_
    refine aj_alen X d_Arr__copyOf_23 0 0 rfl rfl ?_
    refine aj_iload_n X d_Arr__copyOf_24 2 rfl ?_
    refine aj_mmin X d_Arr__copyOf_25 lm_Arr__304.1 lm_Arr__304.2.1 lm_Arr__304.2.2.1 lm_Arr__304.2.2.2 (Nat.le_of_ble_eq_true rfl) (Nat.le_of_ble_eq_true rfl) (kc_le0 hkc) (kc_le0 hks) ?_
    obtain ⟨b6, hm⟩ := chk_of hm
    refine aj_copyi (ws' := ([(q_0, .inl (cI, p_0.1, .inl p_0.2)), (q3, .inl (cI, (x1).toNatClampNeg, .inl (va_cpy p_0.2 (fun _ => 0) ((0 : Int32)).toNatClampNeg ((0 : Int32)).toNatClampNeg ((if x1 < (Int32.ofNat p_0.1) then x1 else (Int32.ofNat p_0.1))).toNatClampNeg)))] : va_W)) X d_Arr__copyOf_28 la_Arr__150 0 1 0 rfl rfl rfl b6.1 b6.2.1 b6.2.2.1 b6.2.2.2.1 b6.2.2.2.2 (Nat.le_of_ble_eq_true rfl) (Nat.le_of_ble_eq_true rfl) rfl ?_
    refine aj_aload_n X d_Arr__copyOf_31 0 rfl ?_
    obtain ⟨ho, e1, e2⟩ := res_of hm
    subst ho
    obtain rfl := kc_end hkc e1
    obtain rfl := kc_end hks e2
    exact aj_aret X d_Arr__copyOf_32 hr hlk [0, 1] (([(q_0, .inl (cI, p_0.1, .inl p_0.2))] : va_W) ++ ([(q3, .inl (cI, (x1).toNatClampNeg, .inl (va_cpy p_0.2 (fun _ => 0) ((0 : Int32)).toNatClampNeg ((0 : Int32)).toNatClampNeg ((if x1 < (Int32.ofNat p_0.1) then x1 else (Int32.ofNat p_0.1))).toNatClampNeg)))] : va_W)) rfl rfl rfl
  · have hm := ite_t hm h
    exact absurd hm (by simp)
abbrev X_CS_withRoomFor (p : Program) (s : State) (m : MethodId) (args : Array Value) (c : Code) (D : va_G) (cI cL cZ : ClassId) (A : Nat → Prop) : Prop := aj_C p s m args c D clss (ty3 cI cL cZ) A b_CS_withRoomFor 3 R_CS TB
abbrev J_CS_withRoomFor (p : Program) (l : Launch) (e : Env) (s : State) (m : MethodId) (args : Array Value) (below : List Frame) (meth : Method) (c : Code) (D : va_G) (cI cL cZ : ClassId) (A : Nat → Prop) (O : Nat → va_W → Prop) (mc ms : Nat) (ws : va_W) (kc ks pc : Nat) (lv : List (Nat × Value)) (st : List Value) : Prop := aj p l e { frames := 2, cells := mc, slots := ms, locals := 62 } s m args below meth c (MQ below (qR D clss (ty3 cI cL cZ) O A) args s mc ms A) D clss A 3 ws kc ks pc lv st
def O_CS_withRoomFor (cI cL cZ : ClassId) (q_0 : Nat) (p_0 : Arr) (out : Arr) : Nat → va_W → Prop := fun r w1 => w1 = ([(r, .inl (cI, out.1, .inl out.2))] : va_W)
def m_CS_withRoomFor (p_0 : Arr) (x1 : Int32) (x2 : Int32) : Option ((Arr) × Nat × Nat) := (if (Int32.ofNat p_0.1) < x1 then ((m_Arr__copyOf p_0 (if x1 < (if ((2 : Int32) * (Int32.ofNat p_0.1)) < x2 then ((2 : Int32) * (Int32.ofNat p_0.1)) else x2) then (if ((2 : Int32) * (Int32.ofNat p_0.1)) < x2 then ((2 : Int32) * (Int32.ofNat p_0.1)) else x2) else x1)).bind fun r5 => addc r5.2.1 r5.2.2 (some (r5.1, 0, 0))) else (some (p_0, 0, 0)))
set_option maxRecDepth 100000 in
set_option maxHeartbeats 4000000 in
theorem c_CS_withRoomFor {l : Launch} {D : va_G} {cI cL cZ : ClassId} (q_0 : Nat) (p_0 : Arr) (x1 : Int32) (x2 : Int32) (out : Arr) (mc ms : Nat) (hm : m_CS_withRoomFor p_0 x1 x2 = some (out, mc, ms)) : ct l y_CS_withRoomFor (Cond.code y_CS_withRoomFor b_CS_withRoomFor 3 (some (.array .int)) :: TB) 2 62 D clss (ty3 cI cL cZ) NM0 NF0 [.ref q_0, .int x1, .int x2] (([(q_0, .inl (cI, p_0.1, .inl p_0.2))] : va_W)) (qR D clss (ty3 cI cL cZ) (O_CS_withRoomFor cI cL cZ q_0 p_0 out)) mc ms := by
  refine ct_of (plainFor_of_name (by decide)) (Nat.le_of_ble_eq_true rfl) (fun p e s m args below meth c A X N hr hlk hnm => ?_)
  refine aj_lv (lv' := [(0, .ref q_0), (1, .int x1), (2, .int x2)]) [0, 1, 2] rfl ?_
  unfold m_CS_withRoomFor at hm
  have hkc : 0 + mc = mc := Nat.zero_add _
  have hks : 0 + ms = ms := Nat.zero_add _
  refine aj_iload_n X d_CS_withRoomFor_0 1 rfl ?_
  refine aj_aload_n X d_CS_withRoomFor_1 0 rfl ?_
  refine aj_alen X d_CS_withRoomFor_2 0 0 rfl rfl ?_
  refine aj_icmp_gt X 8 d_CS_withRoomFor_3 (by decide) (fun h => ?_) (fun h => ?_)
  · have hm := ite_t hm h
    refine aj_aload_n X d_CS_withRoomFor_8 0 rfl ?_
    refine aj_iload_n X d_CS_withRoomFor_9 1 rfl ?_
    refine aj_iload_n X d_CS_withRoomFor_10 2 rfl ?_
    refine aj_iconst (v := (2 : Int32)) X d_CS_withRoomFor_11 (by decide) ?_
    refine aj_aload_n X d_CS_withRoomFor_12 0 rfl ?_
    refine aj_alen X d_CS_withRoomFor_13 0 0 rfl rfl ?_
    refine aj_imul X d_CS_withRoomFor_14 ?_
    refine aj_mmin X d_CS_withRoomFor_15 lm_CS_9.1 lm_CS_9.2.1 lm_CS_9.2.2.1 lm_CS_9.2.2.2 (Nat.le_of_ble_eq_true rfl) (Nat.le_of_ble_eq_true rfl) (kc_le0 hkc) (kc_le0 hks) ?_
    refine aj_mmax X d_CS_withRoomFor_18 lm_CS_15.1 lm_CS_15.2.1 lm_CS_15.2.2.1 lm_CS_15.2.2.2 (Nat.le_of_ble_eq_true rfl) (Nat.le_of_ble_eq_true rfl) (kc_le0 hkc) (kc_le0 hks) ?_
    obtain ⟨r5, h6, hm⟩ := bnd_of hm
    obtain ⟨dc, ds, hm, e1, e2⟩ := addc_of hm
    have hkc := kc_step hkc e1
    have hks := kc_step hks e2
    refine aj_callR (wr := []) X (aj_rS (As := [.ref q_0, .int (if x1 < (if ((2 : Int32) * (Int32.ofNat p_0.1)) < x2 then ((2 : Int32) * (Int32.ofNat p_0.1)) else x2) then (if ((2 : Int32) * (Int32.ofNat p_0.1)) < x2 then ((2 : Int32) * (Int32.ofNat p_0.1)) else x2) else x1)]) (rest := []) X N gTB (c_Arr__copyOf (D := D) (cI := cI) (cL := cL) (cZ := cZ) q_0 p_0 (if x1 < (if ((2 : Int32) * (Int32.ofNat p_0.1)) < x2 then ((2 : Int32) * (Int32.ofNat p_0.1)) else x2) then (if ((2 : Int32) * (Int32.ofNat p_0.1)) < x2 then ((2 : Int32) * (Int32.ofNat p_0.1)) else x2) else x1) r5.1 r5.2.1 r5.2.2 h6) d_CS_withRoomFor_21 lk_Arr__copyOf lw_CS_169 lh_Arr__copyOf ⟨(Nat.le_of_ble_eq_true rfl), (Nat.le_of_ble_eq_true rfl)⟩ [0] rfl rfl rfl (Nat.le_of_ble_eq_true rfl) ⟨kc_le hkc, kc_le hks⟩) [0] [] rfl rfl rfl (by decide) (fun a7 w1 hO => ?_)
    obtain rfl := hO
    refine aj_perm (ws' := ([(q_0, .inl (cI, p_0.1, .inl p_0.2)), (a7, .inl (cI, r5.1.1, .inl r5.1.2))] : va_W)) [0, 1] rfl rfl ?_
    obtain ⟨ho, e1, e2⟩ := res_of hm
    subst ho
    obtain rfl := kc_end hkc e1
    obtain rfl := kc_end hks e2
    exact aj_aret X d_CS_withRoomFor_24 hr hlk [1] (([(a7, .inl (cI, r5.1.1, .inl r5.1.2))] : va_W)) rfl rfl rfl
  · have hm := ite_f hm h
    refine aj_aload_n X d_CS_withRoomFor_6 0 rfl ?_
    obtain ⟨ho, e1, e2⟩ := res_of hm
    subst ho
    obtain rfl := kc_end hkc e1
    obtain rfl := kc_end hks e2
    exact aj_aret X d_CS_withRoomFor_7 hr hlk [0] (([(q_0, .inl (cI, p_0.1, .inl p_0.2))] : va_W)) rfl rfl rfl
abbrev X_Sto_open (p : Program) (s : State) (m : MethodId) (args : Array Value) (c : Code) (D : va_G) (cI cL cZ : ClassId) (A : Nat → Prop) : Prop := aj_C p s m args c D clss (ty3 cI cL cZ) A b_Sto_open 1 R_Sto TB
abbrev J_Sto_open (p : Program) (l : Launch) (e : Env) (s : State) (m : MethodId) (args : Array Value) (below : List Frame) (meth : Method) (c : Code) (D : va_G) (cI cL cZ : ClassId) (A : Nat → Prop) (O : Int32 → va_W → Prop) (mc ms : Nat) (ws : va_W) (kc ks pc : Nat) (lv : List (Nat × Value)) (st : List Value) : Prop := aj p l e { frames := 3, cells := mc, slots := ms, locals := 84 } s m args below meth c (MQ below (qI D clss (ty3 cI cL cZ) O A) args s mc ms A) D clss A 1 ws kc ks pc lv st
def O_Sto_open (cI cL cZ : ClassId) (o_Sto a_Sto_0 a_Sto_1 a_Sto_2 a_Sto_3 : Nat) (out : T_Sto × Int32) : Int32 → va_W → Prop := fun r w1 => out.2 = r ∧ ∃ (a_Sto_4 : Nat), w1 = w_Sto cI cL cZ o_Sto a_Sto_0 a_Sto_1 a_Sto_2 a_Sto_3 a_Sto_4 out.1
def m_Sto_open (v_Sto : T_Sto) : Option ((T_Sto × Int32) × Nat × Nat) := ((m_Sto_hasRoom v_Sto (1 : Int32) (0 : Int32)).bind fun r6 => (if r6 = 0 then (some ((v_Sto, (-1 : Int32)), 0, 0)) else ((m_CS_withRoomFor v_Sto.2.2.2.2.2.2 (v_Sto.1 + (1 : Int32)) (1500 : Int32)).bind fun r8 => addc r8.2.1 r8.2.2 (if ¬ (v_Sto.1 < 0 ∨ r8.1.1 ≤ (v_Sto.1).toNatClampNeg) then (some ((((v_Sto.1 + (1 : Int32)), v_Sto.2.1, v_Sto.2.2.1, v_Sto.2.2.2.1, v_Sto.2.2.2.2.1, v_Sto.2.2.2.2.2.1, (r8.1.1, (upd r8.1.2 (v_Sto.1).toNatClampNeg v_Sto.2.1))), ((v_Sto.1 + (1 : Int32)) - (1 : Int32))), 0, 0)) else none))))
set_option maxRecDepth 100000 in
set_option maxHeartbeats 4000000 in
theorem c_Sto_open {l : Launch} {D : va_G} {cI cL cZ : ClassId} (o_Sto a_Sto_0 a_Sto_1 a_Sto_2 a_Sto_3 : Nat) (a_Sto_4 : Nat) (v_Sto : T_Sto) (out : T_Sto × Int32) (mc ms : Nat) (hm : m_Sto_open v_Sto = some (out, mc, ms)) : ct l y_Sto_open (Cond.code y_Sto_open b_Sto_open 1 (some .int) :: TB) 3 84 D clss (ty3 cI cL cZ) NM0 NF0 [.ref o_Sto] (w_Sto cI cL cZ o_Sto a_Sto_0 a_Sto_1 a_Sto_2 a_Sto_3 a_Sto_4 v_Sto) (qI D clss (ty3 cI cL cZ) (O_Sto_open cI cL cZ o_Sto a_Sto_0 a_Sto_1 a_Sto_2 a_Sto_3 out)) mc ms := by
  refine ct_of (plainFor_of_name (by decide)) (Nat.le_of_ble_eq_true rfl) (fun p e s m args below meth c A X N hr hlk hnm => ?_)
  refine aj_lv (lv' := [(0, .ref o_Sto)]) [0] rfl ?_
  unfold m_Sto_open at hm
  have hkc : 0 + mc = mc := Nat.zero_add _
  have hks : 0 + ms = ms := Nat.zero_add _
  refine aj_aload_n X d_Sto_open_0 0 rfl ?_
  refine aj_iconst (v := (1 : Int32)) X d_Sto_open_1 (by decide) ?_
  refine aj_iconst (v := (0 : Int32)) X d_Sto_open_2 (by decide) ?_
  obtain ⟨r6, h7, hm⟩ := bnd_of hm
  refine aj_callI (wr := []) X (aj_rV (As := [.int (1 : Int32), .int (0 : Int32)]) (rest := []) X N gTB (c_Sto_hasRoom (D := D) (cI := cI) (cL := cL) (cZ := cZ) o_Sto a_Sto_0 a_Sto_1 a_Sto_2 a_Sto_3 a_Sto_4 v_Sto (1 : Int32) (0 : Int32) r6 h7) d_Sto_open_3 lk_Sto_hasRoom lw_Sto_40 lh_Sto_hasRoom ⟨(Nat.le_of_ble_eq_true rfl), (Nat.le_of_ble_eq_true rfl)⟩ [0, 1, 2, 3, 4, 5] rfl rfl 0 rfl rfl rfl rfl (Nat.le_of_ble_eq_true rfl) ⟨kc_le1 hkc, kc_le1 hks⟩) [0, 1, 2, 3, 4, 5] [] rfl rfl rfl (by decide) (fun rr w1 hO => ?_)
  have hkc := kc_zero hkc
  have hks := kc_zero hks
  obtain ⟨rfl, rfl⟩ := hO
  refine aj_perm (ws' := w_Sto cI cL cZ o_Sto a_Sto_0 a_Sto_1 a_Sto_2 a_Sto_3 a_Sto_4 v_Sto) [0, 1, 2, 3, 4, 5] rfl rfl ?_
  refine aj_if_ne X 11 d_Sto_open_6 (by decide) (fun h => ?_) (fun h => ?_)
  · have hm := ite_f hm h
    refine aj_aload_n X d_Sto_open_11 0 rfl ?_
    refine aj_aload_n X d_Sto_open_12 0 rfl ?_
    refine aj_get X d_Sto_open_13 in_Sto 0 rfl rfl 6 (by decide) lf_Sto_37 rfl ?_
    refine aj_aload_n X d_Sto_open_16 0 rfl ?_
    refine aj_get X d_Sto_open_17 in_Sto 0 rfl rfl 0 (by decide) lf_Sto_9 rfl ?_
    refine aj_iconst (v := (1 : Int32)) X d_Sto_open_20 (by decide) ?_
    refine aj_iadd X d_Sto_open_21 ?_
    refine aj_sipush (v := (1500 : Int32)) X d_Sto_open_22 (by decide) ?_
    obtain ⟨r8, h9, hm⟩ := bnd_of hm
    obtain ⟨dc, ds, hm, e1, e2⟩ := addc_of hm
    have hkc := kc_step hkc e1
    have hks := kc_step hks e2
    refine aj_callR (wr := [(o_Sto, .inr (3, [.int v_Sto.1, .int v_Sto.2.1, .ref a_Sto_0, .ref a_Sto_1, .ref a_Sto_2, .ref a_Sto_3, .ref a_Sto_4])), (a_Sto_0, .inl (cI, v_Sto.2.2.1.1, .inl v_Sto.2.2.1.2)), (a_Sto_1, .inl (cI, v_Sto.2.2.2.1.1, .inl v_Sto.2.2.2.1.2)), (a_Sto_2, .inl (cI, v_Sto.2.2.2.2.1.1, .inl v_Sto.2.2.2.2.1.2)), (a_Sto_3, .inl (cI, v_Sto.2.2.2.2.2.1.1, .inl v_Sto.2.2.2.2.2.1.2))]) X (aj_rSN (As := [.ref a_Sto_4, .int (v_Sto.1 + (1 : Int32)), .int (1500 : Int32)]) (rest := [.ref o_Sto]) X N gTB (c_CS_withRoomFor (D := D) (cI := cI) (cL := cL) (cZ := cZ) a_Sto_4 v_Sto.2.2.2.2.2.2 (v_Sto.1 + (1 : Int32)) (1500 : Int32) r8.1 r8.2.1 r8.2.2 h9) d_Sto_open_25 lk_CS_withRoomFor ln_Sto_44 lw_Sto_44 lh_CS_withRoomFor ⟨(Nat.le_of_ble_eq_true rfl), (Nat.le_of_ble_eq_true rfl)⟩ [5] rfl rfl rfl (Nat.le_of_ble_eq_true rfl) ⟨kc_le hkc, kc_le hks⟩) [5] [0, 1, 2, 3, 4] rfl rfl rfl (by decide) (fun a10 w1 hO => ?_)
    obtain rfl := hO
    refine aj_perm (ws' := ([(o_Sto, .inr (3, [.int v_Sto.1, .int v_Sto.2.1, .ref a_Sto_0, .ref a_Sto_1, .ref a_Sto_2, .ref a_Sto_3, .ref a_Sto_4])), (a_Sto_0, .inl (cI, v_Sto.2.2.1.1, .inl v_Sto.2.2.1.2)), (a_Sto_1, .inl (cI, v_Sto.2.2.2.1.1, .inl v_Sto.2.2.2.1.2)), (a_Sto_2, .inl (cI, v_Sto.2.2.2.2.1.1, .inl v_Sto.2.2.2.2.1.2)), (a_Sto_3, .inl (cI, v_Sto.2.2.2.2.2.1.1, .inl v_Sto.2.2.2.2.2.1.2)), (a10, .inl (cI, r8.1.1, .inl r8.1.2))] : va_W)) [0, 1, 2, 3, 4, 5] rfl rfl ?_
    refine aj_put (ws' := w_Sto cI cL cZ o_Sto a_Sto_0 a_Sto_1 a_Sto_2 a_Sto_3 a10 (v_Sto.1, v_Sto.2.1, v_Sto.2.2.1, v_Sto.2.2.2.1, v_Sto.2.2.2.2.1, v_Sto.2.2.2.2.2.1, r8.1)) X d_Sto_open_28 in_Sto ty_Sto tyok_Sto nmx_Sto 0 rfl rfl 6 (by decide) lf_Sto_37 rfl rfl rfl (Nat.le_of_ble_eq_true rfl) rfl ?_
    refine aj_aload_n X d_Sto_open_31 0 rfl ?_
    refine aj_get X d_Sto_open_32 in_Sto 0 rfl rfl 6 (by decide) lf_Sto_37 rfl ?_
    refine aj_aload_n X d_Sto_open_35 0 rfl ?_
    refine aj_get X d_Sto_open_36 in_Sto 0 rfl rfl 0 (by decide) lf_Sto_9 rfl ?_
    refine aj_aload_n X d_Sto_open_39 0 rfl ?_
    refine aj_get X d_Sto_open_40 in_Sto 0 rfl rfl 1 (by decide) lf_Sto_15 rfl ?_
    obtain ⟨b11, hm⟩ := chk_of hm
    refine aj_iast (ws' := w_Sto cI cL cZ o_Sto a_Sto_0 a_Sto_1 a_Sto_2 a_Sto_3 a10 (v_Sto.1, v_Sto.2.1, v_Sto.2.2.1, v_Sto.2.2.2.1, v_Sto.2.2.2.2.1, v_Sto.2.2.2.2.2.1, (r8.1.1, (upd r8.1.2 (v_Sto.1).toNatClampNeg v_Sto.2.1)))) X d_Sto_open_43 5 0 rfl rfl b11 rfl ?_
    refine aj_aload_n X d_Sto_open_44 0 rfl ?_
    refine aj_dup X d_Sto_open_45 rfl ?_
    refine aj_get X d_Sto_open_46 in_Sto 0 rfl rfl 0 (by decide) lf_Sto_9 rfl ?_
    refine aj_iconst (v := (1 : Int32)) X d_Sto_open_49 (by decide) ?_
    refine aj_iadd X d_Sto_open_50 ?_
    refine aj_put (ws' := w_Sto cI cL cZ o_Sto a_Sto_0 a_Sto_1 a_Sto_2 a_Sto_3 a10 ((v_Sto.1 + (1 : Int32)), v_Sto.2.1, v_Sto.2.2.1, v_Sto.2.2.2.1, v_Sto.2.2.2.2.1, v_Sto.2.2.2.2.2.1, (r8.1.1, (upd r8.1.2 (v_Sto.1).toNatClampNeg v_Sto.2.1)))) X d_Sto_open_51 in_Sto ty_Sto tyok_Sto nmx_Sto 0 rfl rfl 0 (by decide) lf_Sto_9 rfl rfl rfl (Nat.le_of_ble_eq_true rfl) rfl ?_
    refine aj_aload_n X d_Sto_open_54 0 rfl ?_
    refine aj_get X d_Sto_open_55 in_Sto 0 rfl rfl 0 (by decide) lf_Sto_9 rfl ?_
    refine aj_iconst (v := (1 : Int32)) X d_Sto_open_58 (by decide) ?_
    refine aj_isub X d_Sto_open_59 ?_
    obtain ⟨ho, e1, e2⟩ := res_of hm
    subst ho
    obtain rfl := kc_end hkc e1
    obtain rfl := kc_end hks e2
    exact aj_iret X d_Sto_open_60 hr hlk [0, 1, 2, 3, 4, 5] (w_Sto cI cL cZ o_Sto a_Sto_0 a_Sto_1 a_Sto_2 a_Sto_3 a10 ((v_Sto.1 + (1 : Int32)), v_Sto.2.1, v_Sto.2.2.1, v_Sto.2.2.2.1, v_Sto.2.2.2.2.1, v_Sto.2.2.2.2.2.1, (r8.1.1, (upd r8.1.2 (v_Sto.1).toNatClampNeg v_Sto.2.1)))) rfl rfl ⟨rfl, a10, rfl⟩
  · have hm := ite_t hm h
    refine aj_iconst (v := (-1 : Int32)) X d_Sto_open_9 (by decide) ?_
    obtain ⟨ho, e1, e2⟩ := res_of hm
    subst ho
    obtain rfl := kc_end hkc e1
    obtain rfl := kc_end hks e2
    exact aj_iret X d_Sto_open_10 hr hlk [0, 1, 2, 3, 4, 5] (w_Sto cI cL cZ o_Sto a_Sto_0 a_Sto_1 a_Sto_2 a_Sto_3 a_Sto_4 v_Sto) rfl rfl ⟨rfl, a_Sto_4, rfl⟩
abbrev X_CS_clause (p : Program) (s : State) (m : MethodId) (args : Array Value) (c : Code) (D : va_G) (cI cL cZ : ClassId) (A : Nat → Prop) : Prop := aj_C p s m args c D clss (ty3 cI cL cZ) A b_CS_clause 1 R_CS TB
abbrev J_CS_clause (p : Program) (l : Launch) (e : Env) (s : State) (m : MethodId) (args : Array Value) (below : List Frame) (meth : Method) (c : Code) (D : va_G) (cI cL cZ : ClassId) (A : Nat → Prop) (O : Int32 → va_W → Prop) (mc ms : Nat) (ws : va_W) (kc ks pc : Nat) (lv : List (Nat × Value)) (st : List Value) : Prop := aj p l e { frames := 4, cells := mc, slots := ms, locals := 104 } s m args below meth c (MQ below (qI D clss (ty3 cI cL cZ) O A) args s mc ms A) D clss A 1 ws kc ks pc lv st
def O_CS_clause (cI cL cZ : ClassId) (o_CS o_Sto o_Pla o_Ass o_Tra o_Sea a_Sto_0 a_Sto_1 a_Sto_2 a_Sto_3 : Nat) (out : T_CS × T_Sto × Int32) : Int32 → va_W → Prop := fun r w1 => out.2.2 = r ∧ ∃ (a_Sto_4 : Nat), w1 = w_CS cI cL cZ o_CS o_Sto o_Pla o_Ass o_Tra o_Sea out.1 ++ w_Sto cI cL cZ o_Sto a_Sto_0 a_Sto_1 a_Sto_2 a_Sto_3 a_Sto_4 out.2.1
def m_CS_clause (v_CS : T_CS) (v_Sto : T_Sto) : Option ((T_CS × T_Sto × Int32) × Nat × Nat) := ((m_Sto_hasRoom v_Sto (1 : Int32) (0 : Int32)).bind fun r6 => (if r6 = 0 then (some ((v_CS, v_Sto, (-1 : Int32)), 0, 0)) else ((m_Sto_open v_Sto).bind fun r8 => addc r8.2.1 r8.2.2 (some (((v_CS.1, r8.1.2, (1 : Int32)), r8.1.1, r8.1.2), 0, 0)))))
set_option maxRecDepth 100000 in
set_option maxHeartbeats 4000000 in
theorem c_CS_clause {l : Launch} {D : va_G} {cI cL cZ : ClassId} (o_CS o_Sto o_Pla o_Ass o_Tra o_Sea a_Sto_0 a_Sto_1 a_Sto_2 a_Sto_3 : Nat) (a_Sto_4 : Nat) (v_CS : T_CS) (v_Sto : T_Sto) (out : T_CS × T_Sto × Int32) (mc ms : Nat) (hm : m_CS_clause v_CS v_Sto = some (out, mc, ms)) : ct l y_CS_clause (Cond.code y_CS_clause b_CS_clause 1 (some .int) :: TB) 4 104 D clss (ty3 cI cL cZ) NM0 NF0 [.ref o_CS] (w_CS cI cL cZ o_CS o_Sto o_Pla o_Ass o_Tra o_Sea v_CS ++ w_Sto cI cL cZ o_Sto a_Sto_0 a_Sto_1 a_Sto_2 a_Sto_3 a_Sto_4 v_Sto) (qI D clss (ty3 cI cL cZ) (O_CS_clause cI cL cZ o_CS o_Sto o_Pla o_Ass o_Tra o_Sea a_Sto_0 a_Sto_1 a_Sto_2 a_Sto_3 out)) mc ms := by
  refine ct_of (plainFor_of_name (by decide)) (Nat.le_of_ble_eq_true rfl) (fun p e s m args below meth c A X N hr hlk hnm => ?_)
  refine aj_lv (lv' := [(0, .ref o_CS)]) [0] rfl ?_
  unfold m_CS_clause at hm
  have hkc : 0 + mc = mc := Nat.zero_add _
  have hks : 0 + ms = ms := Nat.zero_add _
  refine aj_aload_n X d_CS_clause_0 0 rfl ?_
  refine aj_get X d_CS_clause_1 in_CS 0 rfl rfl 1 (by decide) lf_CS_27 rfl ?_
  refine aj_iconst (v := (1 : Int32)) X d_CS_clause_4 (by decide) ?_
  refine aj_iconst (v := (0 : Int32)) X d_CS_clause_5 (by decide) ?_
  obtain ⟨r6, h7, hm⟩ := bnd_of hm
  refine aj_callI (wr := [(o_CS, .inr (6, [.int v_CS.1, .ref o_Sto, .ref o_Pla, .ref o_Ass, .ref o_Tra, .ref o_Sea, .int v_CS.2.1, .int v_CS.2.2]))]) X (aj_rV (As := [.int (1 : Int32), .int (0 : Int32)]) (rest := []) X N gTB (c_Sto_hasRoom (D := D) (cI := cI) (cL := cL) (cZ := cZ) o_Sto a_Sto_0 a_Sto_1 a_Sto_2 a_Sto_3 a_Sto_4 v_Sto (1 : Int32) (0 : Int32) r6 h7) d_CS_clause_6 lk_Sto_hasRoom lw_CS_74 lh_Sto_hasRoom ⟨(Nat.le_of_ble_eq_true rfl), (Nat.le_of_ble_eq_true rfl)⟩ [1, 2, 3, 4, 5, 6] rfl rfl 0 rfl rfl rfl rfl (Nat.le_of_ble_eq_true rfl) ⟨kc_le1 hkc, kc_le1 hks⟩) [1, 2, 3, 4, 5, 6] [0] rfl rfl rfl (by decide) (fun rr w1 hO => ?_)
  have hkc := kc_zero hkc
  have hks := kc_zero hks
  obtain ⟨rfl, rfl⟩ := hO
  refine aj_perm (ws' := w_CS cI cL cZ o_CS o_Sto o_Pla o_Ass o_Tra o_Sea v_CS ++ w_Sto cI cL cZ o_Sto a_Sto_0 a_Sto_1 a_Sto_2 a_Sto_3 a_Sto_4 v_Sto) [0, 1, 2, 3, 4, 5, 6] rfl rfl ?_
  refine aj_if_ne X 14 d_CS_clause_9 (by decide) (fun h => ?_) (fun h => ?_)
  · have hm := ite_f hm h
    refine aj_aload_n X d_CS_clause_14 0 rfl ?_
    refine aj_aload_n X d_CS_clause_15 0 rfl ?_
    refine aj_get X d_CS_clause_16 in_CS 0 rfl rfl 1 (by decide) lf_CS_27 rfl ?_
    obtain ⟨r8, h9, hm⟩ := bnd_of hm
    obtain ⟨dc, ds, hm, e1, e2⟩ := addc_of hm
    have hkc := kc_step hkc e1
    have hks := kc_step hks e2
    refine aj_callI (wr := [(o_CS, .inr (6, [.int v_CS.1, .ref o_Sto, .ref o_Pla, .ref o_Ass, .ref o_Tra, .ref o_Sea, .int v_CS.2.1, .int v_CS.2.2]))]) X (aj_rV (As := []) (rest := [.ref o_CS]) X N gTB (c_Sto_open (D := D) (cI := cI) (cL := cL) (cZ := cZ) o_Sto a_Sto_0 a_Sto_1 a_Sto_2 a_Sto_3 a_Sto_4 v_Sto r8.1 r8.2.1 r8.2.2 h9) d_CS_clause_19 lk_Sto_open lw_CS_78 lh_Sto_open ⟨(Nat.le_of_ble_eq_true rfl), (Nat.le_of_ble_eq_true rfl)⟩ [1, 2, 3, 4, 5, 6] rfl rfl 0 rfl rfl rfl rfl (Nat.le_of_ble_eq_true rfl) ⟨kc_le hkc, kc_le hks⟩) [1, 2, 3, 4, 5, 6] [0] rfl rfl rfl (by decide) (fun rr w1 hO => ?_)
    obtain ⟨rfl, a10, rfl⟩ := hO
    refine aj_perm (ws' := w_CS cI cL cZ o_CS o_Sto o_Pla o_Ass o_Tra o_Sea v_CS ++ w_Sto cI cL cZ o_Sto a_Sto_0 a_Sto_1 a_Sto_2 a_Sto_3 a10 r8.1.1) [0, 1, 2, 3, 4, 5, 6] rfl rfl ?_
    refine aj_put (ws' := w_CS cI cL cZ o_CS o_Sto o_Pla o_Ass o_Tra o_Sea (v_CS.1, r8.1.2, v_CS.2.2) ++ w_Sto cI cL cZ o_Sto a_Sto_0 a_Sto_1 a_Sto_2 a_Sto_3 a10 r8.1.1) X d_CS_clause_22 in_CS ty_CS tyok_CS nmx_CS 0 rfl rfl 6 (by decide) lf_CS_68 rfl rfl rfl (Nat.le_of_ble_eq_true rfl) rfl ?_
    refine aj_aload_n X d_CS_clause_25 0 rfl ?_
    refine aj_iconst (v := (1 : Int32)) X d_CS_clause_26 (by decide) ?_
    refine aj_put (ws' := w_CS cI cL cZ o_CS o_Sto o_Pla o_Ass o_Tra o_Sea (v_CS.1, r8.1.2, (1 : Int32)) ++ w_Sto cI cL cZ o_Sto a_Sto_0 a_Sto_1 a_Sto_2 a_Sto_3 a10 r8.1.1) X d_CS_clause_27 in_CS ty_CS tyok_CS nmx_CS 0 rfl rfl 7 (by decide) lf_CS_71 rfl rfl rfl (Nat.le_of_ble_eq_true rfl) rfl ?_
    refine aj_aload_n X d_CS_clause_30 0 rfl ?_
    refine aj_get X d_CS_clause_31 in_CS 0 rfl rfl 6 (by decide) lf_CS_68 rfl ?_
    obtain ⟨ho, e1, e2⟩ := res_of hm
    subst ho
    obtain rfl := kc_end hkc e1
    obtain rfl := kc_end hks e2
    exact aj_iret X d_CS_clause_34 hr hlk [0, 1, 2, 3, 4, 5, 6] (w_CS cI cL cZ o_CS o_Sto o_Pla o_Ass o_Tra o_Sea (v_CS.1, r8.1.2, (1 : Int32)) ++ w_Sto cI cL cZ o_Sto a_Sto_0 a_Sto_1 a_Sto_2 a_Sto_3 a10 r8.1.1) rfl rfl ⟨rfl, a10, rfl⟩
  · have hm := ite_t hm h
    refine aj_iconst (v := (-1 : Int32)) X d_CS_clause_12 (by decide) ?_
    obtain ⟨ho, e1, e2⟩ := res_of hm
    subst ho
    obtain rfl := kc_end hkc e1
    obtain rfl := kc_end hks e2
    exact aj_iret X d_CS_clause_13 hr hlk [0, 1, 2, 3, 4, 5, 6] (w_CS cI cL cZ o_CS o_Sto o_Pla o_Ass o_Tra o_Sea v_CS ++ w_Sto cI cL cZ o_Sto a_Sto_0 a_Sto_1 a_Sto_2 a_Sto_3 a_Sto_4 v_Sto) rfl rfl ⟨rfl, a_Sto_4, rfl⟩
abbrev X_CS_isStillOpen (p : Program) (s : State) (m : MethodId) (args : Array Value) (c : Code) (D : va_G) (cI cL cZ : ClassId) (A : Nat → Prop) : Prop := aj_C p s m args c D clss (ty3 cI cL cZ) A b_CS_isStillOpen 2 R_CS TB
abbrev J_CS_isStillOpen (p : Program) (l : Launch) (e : Env) (s : State) (m : MethodId) (args : Array Value) (below : List Frame) (meth : Method) (c : Code) (D : va_G) (cI cL cZ : ClassId) (A : Nat → Prop) (O : Int32 → va_W → Prop) (mc ms : Nat) (ws : va_W) (kc ks pc : Nat) (lv : List (Nat × Value)) (st : List Value) : Prop := aj p l e { frames := 0, cells := mc, slots := ms, locals := 0 } s m args below meth c (MQ below (qI D clss (ty3 cI cL cZ) O A) args s mc ms A) D clss A 2 ws kc ks pc lv st
def O_CS_isStillOpen (cI cL cZ : ClassId) (o_CS o_Sto o_Pla o_Ass o_Tra o_Sea a_Sto_0 a_Sto_1 a_Sto_2 a_Sto_3 a_Sto_4 : Nat) (v_CS : T_CS) (v_Sto : T_Sto) (out : Int32) : Int32 → va_W → Prop := fun r w1 => out = r ∧ w1 = w_CS cI cL cZ o_CS o_Sto o_Pla o_Ass o_Tra o_Sea v_CS ++ w_Sto cI cL cZ o_Sto a_Sto_0 a_Sto_1 a_Sto_2 a_Sto_3 a_Sto_4 v_Sto
def m_CS_isStillOpen (v_CS : T_CS) (v_Sto : T_Sto) (x1 : Int32) : Option (Int32) := (if x1 < 0 then (some (0 : Int32)) else (if x1 = v_CS.2.1 then (if x1 = (v_Sto.1 - (1 : Int32)) then (some (1 : Int32)) else (some (0 : Int32))) else (some (0 : Int32))))
set_option maxRecDepth 100000 in
set_option maxHeartbeats 4000000 in
theorem c_CS_isStillOpen {l : Launch} {D : va_G} {cI cL cZ : ClassId} (o_CS o_Sto o_Pla o_Ass o_Tra o_Sea a_Sto_0 a_Sto_1 a_Sto_2 a_Sto_3 a_Sto_4 : Nat) (v_CS : T_CS) (v_Sto : T_Sto) (x1 : Int32) (out : Int32) (hm : m_CS_isStillOpen v_CS v_Sto x1 = some out) : ct l y_CS_isStillOpen (Cond.code y_CS_isStillOpen b_CS_isStillOpen 2 (some .boolean) :: TB) 0 0 D clss (ty3 cI cL cZ) NM0 NF0 [.ref o_CS, .int x1] (w_CS cI cL cZ o_CS o_Sto o_Pla o_Ass o_Tra o_Sea v_CS ++ w_Sto cI cL cZ o_Sto a_Sto_0 a_Sto_1 a_Sto_2 a_Sto_3 a_Sto_4 v_Sto) (qI D clss (ty3 cI cL cZ) (O_CS_isStillOpen cI cL cZ o_CS o_Sto o_Pla o_Ass o_Tra o_Sea a_Sto_0 a_Sto_1 a_Sto_2 a_Sto_3 a_Sto_4 v_CS v_Sto out)) 0 0 := by
  refine ct_of (plainFor_of_name (by decide)) (Nat.le_of_ble_eq_true rfl) (fun p e s m args below meth c A X N hr hlk hnm => ?_)
  refine aj_lv (lv' := [(0, .ref o_CS), (1, .int x1)]) [0, 1] rfl ?_
  unfold m_CS_isStillOpen at hm
  refine aj_iload_n X d_CS_isStillOpen_0 1 rfl ?_
  refine aj_if_lt X 29 d_CS_isStillOpen_1 (by decide) (fun h => ?_) (fun h => ?_)
  · have hm := ite_t hm h
    refine aj_iconst (v := (0 : Int32)) X d_CS_isStillOpen_29 (by decide) ?_
    have ho := Option.some.inj hm
    subst ho
    exact aj_zret X d_CS_isStillOpen_30 hr hlk (by decide) [0, 1, 2, 3, 4, 5, 6] (w_CS cI cL cZ o_CS o_Sto o_Pla o_Ass o_Tra o_Sea v_CS ++ w_Sto cI cL cZ o_Sto a_Sto_0 a_Sto_1 a_Sto_2 a_Sto_3 a_Sto_4 v_Sto) rfl rfl ⟨rfl, rfl⟩
  · have hm := ite_f hm h
    refine aj_iload_n X d_CS_isStillOpen_4 1 rfl ?_
    refine aj_aload_n X d_CS_isStillOpen_5 0 rfl ?_
    refine aj_get X d_CS_isStillOpen_6 in_CS 0 rfl rfl 6 (by decide) lf_CS_68 rfl ?_
    refine aj_icmp_ne X 29 d_CS_isStillOpen_9 (by decide) (fun h => ?_) (fun h => ?_)
    · have hm := ite_f hm h
      refine aj_iconst (v := (0 : Int32)) X d_CS_isStillOpen_29 (by decide) ?_
      have ho := Option.some.inj hm
      subst ho
      exact aj_zret X d_CS_isStillOpen_30 hr hlk (by decide) [0, 1, 2, 3, 4, 5, 6] (w_CS cI cL cZ o_CS o_Sto o_Pla o_Ass o_Tra o_Sea v_CS ++ w_Sto cI cL cZ o_Sto a_Sto_0 a_Sto_1 a_Sto_2 a_Sto_3 a_Sto_4 v_Sto) rfl rfl ⟨rfl, rfl⟩
    · have hm := ite_t hm h
      refine aj_iload_n X d_CS_isStillOpen_12 1 rfl ?_
      refine aj_aload_n X d_CS_isStillOpen_13 0 rfl ?_
      refine aj_get X d_CS_isStillOpen_14 in_CS 0 rfl rfl 1 (by decide) lf_CS_27 rfl ?_
      refine aj_get X d_CS_isStillOpen_17 in_Sto 1 rfl rfl 0 (by decide) lf_CS_165 rfl ?_
      refine aj_iconst (v := (1 : Int32)) X d_CS_isStillOpen_20 (by decide) ?_
      refine aj_isub X d_CS_isStillOpen_21 ?_
      refine aj_icmp_ne X 29 d_CS_isStillOpen_22 (by decide) (fun h => ?_) (fun h => ?_)
      · have hm := ite_f hm h
        refine aj_iconst (v := (0 : Int32)) X d_CS_isStillOpen_29 (by decide) ?_
        have ho := Option.some.inj hm
        subst ho
        exact aj_zret X d_CS_isStillOpen_30 hr hlk (by decide) [0, 1, 2, 3, 4, 5, 6] (w_CS cI cL cZ o_CS o_Sto o_Pla o_Ass o_Tra o_Sea v_CS ++ w_Sto cI cL cZ o_Sto a_Sto_0 a_Sto_1 a_Sto_2 a_Sto_3 a_Sto_4 v_Sto) rfl rfl ⟨rfl, rfl⟩
      · have hm := ite_t hm h
        refine aj_iconst (v := (1 : Int32)) X d_CS_isStillOpen_25 (by decide) ?_
        refine aj_goto X 30 d_CS_isStillOpen_26 (by decide) ?_
        have ho := Option.some.inj hm
        subst ho
        exact aj_zret X d_CS_isStillOpen_30 hr hlk (by decide) [0, 1, 2, 3, 4, 5, 6] (w_CS cI cL cZ o_CS o_Sto o_Pla o_Ass o_Tra o_Sea v_CS ++ w_Sto cI cL cZ o_Sto a_Sto_0 a_Sto_1 a_Sto_2 a_Sto_3 a_Sto_4 v_Sto) rfl rfl ⟨rfl, rfl⟩
abbrev X_CS_isThing (p : Program) (s : State) (m : MethodId) (args : Array Value) (c : Code) (D : va_G) (cI cL cZ : ClassId) (A : Nat → Prop) : Prop := aj_C p s m args c D clss (ty3 cI cL cZ) A b_CS_isThing 2 R_CS TB
abbrev J_CS_isThing (p : Program) (l : Launch) (e : Env) (s : State) (m : MethodId) (args : Array Value) (below : List Frame) (meth : Method) (c : Code) (D : va_G) (cI cL cZ : ClassId) (A : Nat → Prop) (O : Int32 → va_W → Prop) (mc ms : Nat) (ws : va_W) (kc ks pc : Nat) (lv : List (Nat × Value)) (st : List Value) : Prop := aj p l e { frames := 0, cells := mc, slots := ms, locals := 0 } s m args below meth c (MQ below (qI D clss (ty3 cI cL cZ) O A) args s mc ms A) D clss A 2 ws kc ks pc lv st
def O_CS_isThing (cI cL cZ : ClassId) (o_CS o_Sto o_Pla o_Ass o_Tra o_Sea : Nat) (v_CS : T_CS) (out : Int32) : Int32 → va_W → Prop := fun r w1 => out = r ∧ w1 = w_CS cI cL cZ o_CS o_Sto o_Pla o_Ass o_Tra o_Sea v_CS
def m_CS_isThing (v_CS : T_CS) (x1 : Int32) : Option (Int32) := (if x1 < 0 then (some (0 : Int32)) else (if v_CS.1 ≤ x1 then (some (0 : Int32)) else (some (1 : Int32))))
set_option maxRecDepth 100000 in
set_option maxHeartbeats 4000000 in
theorem c_CS_isThing {l : Launch} {D : va_G} {cI cL cZ : ClassId} (o_CS o_Sto o_Pla o_Ass o_Tra o_Sea : Nat) (v_CS : T_CS) (x1 : Int32) (out : Int32) (hm : m_CS_isThing v_CS x1 = some out) : ct l y_CS_isThing (Cond.code y_CS_isThing b_CS_isThing 2 (some .boolean) :: TB) 0 0 D clss (ty3 cI cL cZ) NM0 NF0 [.ref o_CS, .int x1] (w_CS cI cL cZ o_CS o_Sto o_Pla o_Ass o_Tra o_Sea v_CS) (qI D clss (ty3 cI cL cZ) (O_CS_isThing cI cL cZ o_CS o_Sto o_Pla o_Ass o_Tra o_Sea v_CS out)) 0 0 := by
  refine ct_of (plainFor_of_name (by decide)) (Nat.le_of_ble_eq_true rfl) (fun p e s m args below meth c A X N hr hlk hnm => ?_)
  refine aj_lv (lv' := [(0, .ref o_CS), (1, .int x1)]) [0, 1] rfl ?_
  unfold m_CS_isThing at hm
  refine aj_iload_n X d_CS_isThing_0 1 rfl ?_
  refine aj_if_lt X 16 d_CS_isThing_1 (by decide) (fun h => ?_) (fun h => ?_)
  · have hm := ite_t hm h
    refine aj_iconst (v := (0 : Int32)) X d_CS_isThing_16 (by decide) ?_
    have ho := Option.some.inj hm
    subst ho
    exact aj_zret X d_CS_isThing_17 hr hlk (by decide) [0] (w_CS cI cL cZ o_CS o_Sto o_Pla o_Ass o_Tra o_Sea v_CS) rfl rfl ⟨rfl, rfl⟩
  · have hm := ite_f hm h
    refine aj_iload_n X d_CS_isThing_4 1 rfl ?_
    refine aj_aload_n X d_CS_isThing_5 0 rfl ?_
    refine aj_get X d_CS_isThing_6 in_CS 0 rfl rfl 0 (by decide) lf_CS_18 rfl ?_
    refine aj_icmp_ge X 16 d_CS_isThing_9 (by decide) (fun h => ?_) (fun h => ?_)
    · have hm := ite_t hm h
      refine aj_iconst (v := (0 : Int32)) X d_CS_isThing_16 (by decide) ?_
      have ho := Option.some.inj hm
      subst ho
      exact aj_zret X d_CS_isThing_17 hr hlk (by decide) [0] (w_CS cI cL cZ o_CS o_Sto o_Pla o_Ass o_Tra o_Sea v_CS) rfl rfl ⟨rfl, rfl⟩
    · have hm := ite_f hm h
      refine aj_iconst (v := (1 : Int32)) X d_CS_isThing_12 (by decide) ?_
      refine aj_goto X 17 d_CS_isThing_13 (by decide) ?_
      have ho := Option.some.inj hm
      subst ho
      exact aj_zret X d_CS_isThing_17 hr hlk (by decide) [0] (w_CS cI cL cZ o_CS o_Sto o_Pla o_Ass o_Tra o_Sea v_CS) rfl rfl ⟨rfl, rfl⟩
abbrev X_CS_literalOf (p : Program) (s : State) (m : MethodId) (args : Array Value) (c : Code) (D : va_G) (cI cL cZ : ClassId) (A : Nat → Prop) : Prop := aj_C p s m args c D clss (ty3 cI cL cZ) A b_CS_literalOf 2 R_CS TB
abbrev J_CS_literalOf (p : Program) (l : Launch) (e : Env) (s : State) (m : MethodId) (args : Array Value) (below : List Frame) (meth : Method) (c : Code) (D : va_G) (cI cL cZ : ClassId) (A : Nat → Prop) (O : Int32 → va_W → Prop) (mc ms : Nat) (ws : va_W) (kc ks pc : Nat) (lv : List (Nat × Value)) (st : List Value) : Prop := aj p l e { frames := 0, cells := mc, slots := ms, locals := 0 } s m args below meth c (MQ below (qI D clss (ty3 cI cL cZ) O A) args s mc ms A) D clss A 2 ws kc ks pc lv st
def O_CS_literalOf (cI cL cZ : ClassId) (out : Int32) : Int32 → va_W → Prop := fun r w1 => out = r ∧ w1 = []
def m_CS_literalOf (x0 : Int32) (x1 : Int32) : Option (Int32) := (if x1 = 0 then (some (((2 : Int32) * x0) + (0 : Int32))) else (some (((2 : Int32) * x0) + (1 : Int32))))
set_option maxRecDepth 100000 in
set_option maxHeartbeats 4000000 in
theorem c_CS_literalOf {l : Launch} {D : va_G} {cI cL cZ : ClassId} (x0 : Int32) (x1 : Int32) (out : Int32) (hm : m_CS_literalOf x0 x1 = some out) : ct l y_CS_literalOf (Cond.code y_CS_literalOf b_CS_literalOf 2 (some .int) :: TB) 0 0 D clss (ty3 cI cL cZ) NM0 NF0 [.int x0, .int x1] ([]) (qI D clss (ty3 cI cL cZ) (O_CS_literalOf cI cL cZ out)) 0 0 := by
  refine ct_of (plainFor_of_name (by decide)) (Nat.le_of_ble_eq_true rfl) (fun p e s m args below meth c A X N hr hlk hnm => ?_)
  refine aj_lv (lv' := [(0, .int x0), (1, .int x1)]) [0, 1] rfl ?_
  unfold m_CS_literalOf at hm
  refine aj_iconst (v := (2 : Int32)) X d_CS_literalOf_0 (by decide) ?_
  refine aj_iload_n X d_CS_literalOf_1 0 rfl ?_
  refine aj_imul X d_CS_literalOf_2 ?_
  refine aj_iload_n X d_CS_literalOf_3 1 rfl ?_
  refine aj_if_eq X 11 d_CS_literalOf_4 (by decide) (fun h => ?_) (fun h => ?_)
  · have hm := ite_t hm h
    refine aj_iconst (v := (0 : Int32)) X d_CS_literalOf_11 (by decide) ?_
    refine aj_iadd X d_CS_literalOf_12 ?_
    have ho := Option.some.inj hm
    subst ho
    exact aj_iret X d_CS_literalOf_13 hr hlk [] ([]) rfl rfl ⟨rfl, rfl⟩
  · have hm := ite_f hm h
    refine aj_iconst (v := (1 : Int32)) X d_CS_literalOf_7 (by decide) ?_
    refine aj_goto X 12 d_CS_literalOf_8 (by decide) ?_
    refine aj_iadd X d_CS_literalOf_12 ?_
    have ho := Option.some.inj hm
    subst ho
    exact aj_iret X d_CS_literalOf_13 hr hlk [] ([]) rfl rfl ⟨rfl, rfl⟩
abbrev X_Sto_endOf (p : Program) (s : State) (m : MethodId) (args : Array Value) (c : Code) (D : va_G) (cI cL cZ : ClassId) (A : Nat → Prop) : Prop := aj_C p s m args c D clss (ty3 cI cL cZ) A b_Sto_endOf 2 R_Sto TB
abbrev J_Sto_endOf (p : Program) (l : Launch) (e : Env) (s : State) (m : MethodId) (args : Array Value) (below : List Frame) (meth : Method) (c : Code) (D : va_G) (cI cL cZ : ClassId) (A : Nat → Prop) (O : Int32 → va_W → Prop) (mc ms : Nat) (ws : va_W) (kc ks pc : Nat) (lv : List (Nat × Value)) (st : List Value) : Prop := aj p l e { frames := 0, cells := mc, slots := ms, locals := 0 } s m args below meth c (MQ below (qI D clss (ty3 cI cL cZ) O A) args s mc ms A) D clss A 2 ws kc ks pc lv st
def O_Sto_endOf (cI cL cZ : ClassId) (o_Sto a_Sto_0 a_Sto_1 a_Sto_2 a_Sto_3 a_Sto_4 : Nat) (v_Sto : T_Sto) (out : Int32) : Int32 → va_W → Prop := fun r w1 => out = r ∧ w1 = w_Sto cI cL cZ o_Sto a_Sto_0 a_Sto_1 a_Sto_2 a_Sto_3 a_Sto_4 v_Sto
def m_Sto_endOf (v_Sto : T_Sto) (x1 : Int32) : Option (Int32) := (if x1 < 0 then (some v_Sto.2.1) else (if v_Sto.1 ≤ (x1 + (1 : Int32)) then (some v_Sto.2.1) else (if ¬ ((x1 + (1 : Int32)) < 0 ∨ v_Sto.2.2.2.2.2.2.1 ≤ ((x1 + (1 : Int32))).toNatClampNeg) then (some (v_Sto.2.2.2.2.2.2.2 ((x1 + (1 : Int32))).toNatClampNeg)) else none)))
set_option maxRecDepth 100000 in
set_option maxHeartbeats 4000000 in
theorem c_Sto_endOf {l : Launch} {D : va_G} {cI cL cZ : ClassId} (o_Sto a_Sto_0 a_Sto_1 a_Sto_2 a_Sto_3 a_Sto_4 : Nat) (v_Sto : T_Sto) (x1 : Int32) (out : Int32) (hm : m_Sto_endOf v_Sto x1 = some out) : ct l y_Sto_endOf (Cond.code y_Sto_endOf b_Sto_endOf 2 (some .int) :: TB) 0 0 D clss (ty3 cI cL cZ) NM0 NF0 [.ref o_Sto, .int x1] (w_Sto cI cL cZ o_Sto a_Sto_0 a_Sto_1 a_Sto_2 a_Sto_3 a_Sto_4 v_Sto) (qI D clss (ty3 cI cL cZ) (O_Sto_endOf cI cL cZ o_Sto a_Sto_0 a_Sto_1 a_Sto_2 a_Sto_3 a_Sto_4 v_Sto out)) 0 0 := by
  refine ct_of (plainFor_of_name (by decide)) (Nat.le_of_ble_eq_true rfl) (fun p e s m args below meth c A X N hr hlk hnm => ?_)
  refine aj_lv (lv' := [(0, .ref o_Sto), (1, .int x1)]) [0, 1] rfl ?_
  unfold m_Sto_endOf at hm
  refine aj_iload_n X d_Sto_endOf_0 1 rfl ?_
  refine aj_if_lt X 25 d_Sto_endOf_1 (by decide) (fun h => ?_) (fun h => ?_)
  · have hm := ite_t hm h
    refine aj_aload_n X d_Sto_endOf_25 0 rfl ?_
    refine aj_get X d_Sto_endOf_26 in_Sto 0 rfl rfl 1 (by decide) lf_Sto_15 rfl ?_
    have ho := Option.some.inj hm
    subst ho
    exact aj_iret X d_Sto_endOf_29 hr hlk [0, 1, 2, 3, 4, 5] (w_Sto cI cL cZ o_Sto a_Sto_0 a_Sto_1 a_Sto_2 a_Sto_3 a_Sto_4 v_Sto) rfl rfl ⟨rfl, rfl⟩
  · have hm := ite_f hm h
    refine aj_iload_n X d_Sto_endOf_4 1 rfl ?_
    refine aj_iconst (v := (1 : Int32)) X d_Sto_endOf_5 (by decide) ?_
    refine aj_iadd X d_Sto_endOf_6 ?_
    refine aj_aload_n X d_Sto_endOf_7 0 rfl ?_
    refine aj_get X d_Sto_endOf_8 in_Sto 0 rfl rfl 0 (by decide) lf_Sto_9 rfl ?_
    refine aj_icmp_ge X 25 d_Sto_endOf_11 (by decide) (fun h => ?_) (fun h => ?_)
    · have hm := ite_t hm h
      refine aj_aload_n X d_Sto_endOf_25 0 rfl ?_
      refine aj_get X d_Sto_endOf_26 in_Sto 0 rfl rfl 1 (by decide) lf_Sto_15 rfl ?_
      have ho := Option.some.inj hm
      subst ho
      exact aj_iret X d_Sto_endOf_29 hr hlk [0, 1, 2, 3, 4, 5] (w_Sto cI cL cZ o_Sto a_Sto_0 a_Sto_1 a_Sto_2 a_Sto_3 a_Sto_4 v_Sto) rfl rfl ⟨rfl, rfl⟩
    · have hm := ite_f hm h
      refine aj_aload_n X d_Sto_endOf_14 0 rfl ?_
      refine aj_get X d_Sto_endOf_15 in_Sto 0 rfl rfl 6 (by decide) lf_Sto_37 rfl ?_
      refine aj_iload_n X d_Sto_endOf_18 1 rfl ?_
      refine aj_iconst (v := (1 : Int32)) X d_Sto_endOf_19 (by decide) ?_
      refine aj_iadd X d_Sto_endOf_20 ?_
      obtain ⟨b1, hm⟩ := chk_of hm
      refine aj_iald X d_Sto_endOf_21 5 0 rfl rfl b1 ?_
      refine aj_goto X 29 d_Sto_endOf_22 (by decide) ?_
      have ho := Option.some.inj hm
      subst ho
      exact aj_iret X d_Sto_endOf_29 hr hlk [0, 1, 2, 3, 4, 5] (w_Sto cI cL cZ o_Sto a_Sto_0 a_Sto_1 a_Sto_2 a_Sto_3 a_Sto_4 v_Sto) rfl rfl ⟨rfl, rfl⟩
