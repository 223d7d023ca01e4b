/-! the law's own rows: the script, cell(), the switch, the end -/
section LAWK
variable {p : Program} {l : Launch} {e : Env} {R : Room} {s : State} {m : MethodId} {args : Array Value} {below : List Frame} {meth : Method} {c : Code} {Q : State → Prop} {D : va_G} {cl : List vw_C} {tys : List (ClassId × FieldType)} {A : Nat → Prop} {cc : ByteArray} {nL : Nat} {own : String} {Ts : List Cond} {ws ws' : va_W} {kc ks pc : Nat} {lv lv' : List (Nat × Value)} {st : List Value} {b L : Nat} {xs : Nat → Int32}
theorem aj_sld (X : aj_C p s m args c D cl tys A cc nL own Ts) (hX : va_X b L xs s s.heap) (hbl : b < s.heap.size) (hbA : ¬ A b) {i : Int32} (hdg : decode cc pc = .ok (.iaload, 1)) (hin : ¬ (i < 0 ∨ L ≤ i.toNatClampNeg)) (k : aj p l e R s m args below meth c Q D cl A nL ws kc ks (pc + 1) lv (.int (xs i.toNatClampNeg) :: st)) : aj p l e R s m args below meth c Q D cl A nL ws kc ks pc lv (.int i :: .ref b :: st) :=
  fun H locs ls hP hD hS hl => va_sld X.1 X.2.1 hX hbl hbA hS hin hdg (k H locs ls hP hD hS hl)
theorem aj_slen (X : aj_C p s m args c D cl tys A cc nL own Ts) (hX : va_X b L xs s s.heap) (hbl : b < s.heap.size) (hbA : ¬ A b) (hdg : decode cc pc = .ok (.arraylength, 1)) (k : aj p l e R s m args below meth c Q D cl A nL ws kc ks (pc + 1) lv (.int (Int32.ofNat L) :: st)) : aj p l e R s m args below meth c Q D cl A nL ws kc ks pc lv (.ref b :: st) :=
  fun H locs ls hP hD hS hl => va_slen X.1 X.2.1 hX hbl hbA hS hdg (k H locs ls hP hD hS hl)
theorem aj_swk (X : aj_C p s m args c D cl tys A cc nL own Ts) {dflt lo hi : Int} {offs : Array Int} {len : Nat} {x : Int32} (tgt : Nat) (v : Int32) (off : Int) (hdg : decode cc pc = .ok (.tableswitch dflt lo hi offs, len)) (hx : x = v) (h1 : ¬ v.toInt < lo) (h2 : ¬ hi < v.toInt) (ho : offs[(v.toInt - lo).toNat]? = some off) (ht : (pc : Int) + off = (tgt : Int)) (k : aj p l e R s m args below meth c Q D cl A nL ws kc ks tgt lv st) : aj p l e R s m args below meth c Q D cl A nL ws kc ks pc lv (.int x :: st) := by
  subst hx
  exact fun H locs ls hP hD hS hl => lv_tableIn X.1 X.2.1 hdg h1 h2 ho ht (k H locs ls hP hD hS hl)
end LAWK
set_option maxRecDepth 100000 in
set_option maxHeartbeats 4000000 in
theorem c_cell (l : Launch) {b L : Nat} {xs : Nat → Int32} (hL : L ≤ 2049) : Met l y_Law_cell (Cond.code y_Law_cell b_Law_cell 2 (some .int) :: TB) { frames := 0, cells := 0, slots := 0, locals := 0 } (va_Pc [.ref b, .int 0] (fun U => va_X b L xs U U.heap ∧ b < U.heap.size)) (va_Qi (fun r (_ : Unit) => r = (if L = 0 then 0 else xs 0)) (fun _ _ => True) (fun _ => False)) 0 0 (fun _ => False) := by
  refine Met.ofW (cc := b_Law_cell) (maxL := 2) (ret := some .int) (by decide) rfl ?_
  intro p e s m args below meth c s₁ B hml hv
  obtain ⟨rfl, hX, hbl⟩ := hv
  have hx := B.exec
  have hb := B.bytes
  have hr := B.returns
  have hlocks := B.notSynchronized
  have hS : va_S (fun _ : Nat => False) s.heap s.heap [] := va_S.rf
  have hl := lv_entry ([.ref b, .int 0]) (n := 2) (Nat.le_of_ble_eq_true rfl)
  rw [lg_entry_eq]
  generalize (lg_sl ([.ref b, .int 0]) ++ List.replicate (2 - (lg_sl ([.ref b, .int 0])).length) Slot.unset).toArray = ls at hl ⊢
  have hl : lv_has ls 2 [(0, .ref b), (1, .int 0)] := hl
  refine lv_iload_n hx hb d_Law_cell_0 rfl (lv_at hl 1 rfl) ?_
  refine lv_aload_n hx hb d_Law_cell_1 rfl (lv_at hl 0 rfl) ?_
  refine va_slen hx hb hX hbl (fun h => h) hS d_Law_cell_2 ?_
  refine lv_icmp_ge (tgt := 12) hx hb d_Law_cell_3 (by decide) (fun h => ?_) (fun h => ?_)
  · refine lv_iconst (v := 0) hx hb d_Law_cell_12 (by decide) ?_
    have e0 : L = 0 := by
      rcases Nat.eq_zero_or_pos L with q | q
      · exact q
      · exact absurd h (nI_nle q (by omega))
    exact W.iret (v := 0) hx hb hr (fun t ht hW => ⟨⟨0, (), rfl, by rw [if_pos e0], trivial⟩, hS.F ht⟩) hS.2.2 d_Law_cell_13
  · have e0 : ¬ L = 0 := fun q => h (by rw [q]; decide)
    refine lv_aload_n hx hb d_Law_cell_6 rfl (lv_at hl 0 rfl) ?_
    refine lv_iload_n hx hb d_Law_cell_7 rfl (lv_at hl 1 rfl) ?_
    have hin : vp_in (0 : Int32) L := vp_in_nI (n := 0) (N := L) (by omega) (by omega)
    refine va_sld hx hb hX hbl (fun h => h) hS hin d_Law_cell_8 ?_
    refine lv_goto (tgt := 13) hx hb d_Law_cell_9 (by decide) ?_
    exact W.iret (v := xs (0 : Int32).toNatClampNeg) hx hb hr (fun t ht hW => ⟨⟨_, (), rfl, by rw [if_neg e0]; rfl, trivial⟩, hS.F ht⟩) hS.2.2 d_Law_cell_13
set_option maxRecDepth 100000 in
set_option maxHeartbeats 4000000 in
theorem aj_cell {p : Program} {l : Launch} {e : Env} {R : Room} {s : State} {m : MethodId} {args : Array Value} {below : List Frame} {meth : Method} {c : Code} {Q : State → Prop} {D : va_G} {cl : List vw_C} {tys : List (ClassId × FieldType)} {A : Nat → Prop} {cc : ByteArray} {nL : Nat} {ws : va_W} {kc ks pc : Nat} {lv : List (Nat × Value)} {st : List Value} {b L : Nat} {xs : Nat → Int32} (X : aj_C p s m args c D cl tys A cc nL R_Law TB) (hL : L ≤ 2049) (hX : va_X b L xs s s.heap) (hbl : b < s.heap.size) (hbA : ¬ A b) {idx : Nat} (hdg : decode cc pc = .ok (.invokestatic idx, 3)) (hlk : Cond.methodLink R_Law idx y_Law_cell ∈ TB) (hst : Cond.static y_Law_cell ∈ TB) (hini : Cond.initialized y_Law_cell.cls ∈ TB) (hW : (st.map fun v => v.category).sum ≤ 8) (hR : 1 ≤ R.frames ∧ 21 ≤ R.locals) (hf : kc ≤ R.cells ∧ ks ≤ R.slots) (k : aj p l e R s m args below meth c Q D cl A nL ws kc ks (pc + 3) lv (.int (if L = 0 then 0 else xs 0) :: st)) : aj p l e R s m args below meth c Q D cl A nL ws kc ks pc lv (.int 0 :: .ref b :: st) := by
  intro H locs ls hP hD hS hl
  have hT : GoodIn TB (va_wsS R_Law idx y_Law_cell (Cond.code y_Law_cell b_Law_cell 2 (some .int) :: TB)) := by
    intro w h
    have h2 : w ∈ TB := by
      unfold va_wsS at h
      rcases List.mem_append.mp h with h | h
      · rcases List.mem_cons.mp h with rfl | h
        · exact hlk
        · rcases List.mem_cons.mp h with rfl | h
          · exact hst
          · rcases List.mem_cons.mp h with rfl | h
            · exact hini
            · exact absurd h List.not_mem_nil
      · rcases List.mem_cons.mp h with rfl | h
        · exact lk_Law_cell
        · exact h
    exact gTB w h2
  refine va_calli (va_runS (As := [.ref b, .int 0]) (rest := st) ⟨X.1, X.2.1, X.2.2.1, X.2.2.2.1, X.2.2.2.2.1⟩ (c_cell l hL (b := b) (xs := xs)) (va_cwS 2 X.2.2.2.2.1 hT rfl rfl rfl lh_Law_cell ⟨hR.1, hR.2⟩) ⟨fun a U g mk q => ⟨q.1, va_X.moved (u := U) (U := U.calling g mk a) (Vm.Alike.refl U.vm) q.2.1, q.2.2⟩, fun U hU hW => ⟨rfl, by rw [hU]; exact va_X.moved hW.alike (va_X.kept hX (hS.2.1 b hbl hbA)), by rw [hU]; exact Nat.lt_of_lt_of_le hbl hS.1⟩⟩ rfl rfl hl.1 rfl (lv_room hW) hdg hf) hS (fun q _ h => h.elim) (fun q h => h.elim) (fun r u t H1 locs1 ht hvm hw hB hz1 hk1 hS1 => ?_)
  rw [hw]
  exact k H1 locs1 ls (hP.kept (fun j q hq => hk1 q.1 ((hP j q hq).lt) (fun h => h))) hD hS1 hl
/-- the law's end -/
theorem aj_lawret {p : Program} {l : Launch} {e : Env} {s : State} {m : MethodId} {below : List Frame} {meth : Method} {c : Code} {D : va_G} {cl : List vw_C} {tys : List (ClassId × FieldType)} {own : String} {Ts : List Cond} {ws : va_W} {kc ks pc nL : Nat} {lv : List (Nat × Value)} {b : Nat} (X : aj_C p s m #[Value.ref b] c D cl tys (fun q : Nat => s.heap.size ≤ q) code nL own Ts) (hr : meth.sig.returnType = ret) (hlk : meth.locks = false) (hdg : decode code pc = .ok (.ireturn, 1)) (hk : kc ≤ 600000) (hs : ks ≤ 7302250) : aj p l e room_1 s m #[Value.ref b] below meth c (lw_Z below #[Value.ref b] s) D cl (fun q : Nat => s.heap.size ≤ q) nL ws kc ks pc lv [.int 1] :=
  fun H locs ls hP hD hS hl => va_forget (fun q hq => hS.2.2 q hq) (W.widen hk hs (lw_ret X.1 X.2.1 hr hlk hdg))
