/-- THE CLAIM'S START OUT OF THE MIRROR: where the law's mirror answers within the room, the law on the machine comes to its end with true -/
theorem nm_tbl : ∀ q ∈ NM0, Cond.methodLinkNest q.1 q.2.1 q.2.2.1 q.2.2.2 ∈ lw_tbl := List.forall_mem_cons.mpr ⟨List.mem_of_getElem? (i := 269) (by decide +kernel), List.forall_mem_cons.mpr ⟨List.mem_of_getElem? (i := 369) (by decide +kernel), List.forall_mem_cons.mpr ⟨List.mem_of_getElem? (i := 437) (by decide +kernel), List.forall_mem_cons.mpr ⟨List.mem_of_getElem? (i := 501) (by decide +kernel), fun _ h => absurd h List.not_mem_nil⟩⟩⟩⟩
set_option maxRecDepth 100000 in
set_option maxHeartbeats 4000000 in
theorem start_of {p : Program} {e : Env} {s : State} {m : MethodId} {below : List Frame} {meth : Method} {c : Code} (l : Launch) {b L : Nat} {xs : Nat → Int32} (hL : L ≤ 2049) (C0 : lw_At p s m meth c b L xs) {mc ms : Nat} (hMC : mc ≤ 600000) (hMS : ms ≤ 7302250) (hm : m_Law_law L xs = some ((), mc, ms)) : W p l e room_1 s m #[Value.ref b] below meth c s.heap [] 0 0 (lw_Z below #[Value.ref b] s) (entryFrame m ([Value.ref b] : List Value).toArray 4) := by
  obtain ⟨hx, hb, hr, hml, hown, hts, hX, hbl, hlocks, hgv⟩ := C0
  have hTB : ∀ w ∈ TB, w.before #[Value.ref b] s = true := fun w hw => hts w (List.mem_filter.mp hw).1
  obtain ⟨c0, i0, k0⟩ := u_known (C := R_Ass) (T := F_Ass) (N := 2) (n := 2) hTB in_Ass (hTB _ le_CS_38.2.1)
  obtain ⟨c1, i1, k1⟩ := u_known (C := R_Pla) (T := F_Pla) (N := 2) (n := 2) hTB in_Pla (hTB _ le_CS_31.2.1)
  obtain ⟨c2, i2, k2⟩ := u_known (C := R_Sea) (T := F_Sea) (N := 12) (n := 12) hTB in_Sea (hTB _ le_CS_59.2.1)
  obtain ⟨c3, i3, k3⟩ := u_known (C := R_Sto) (T := F_Sto) (N := 7) (n := 7) hTB in_Sto (hTB _ le_CS_22.2.1)
  obtain ⟨c4, i4, k4⟩ := u_known (C := R_Tal) (T := F_Tal) (N := 5) (n := 5) hTB in_Tal (hTB _ le_CS_45.2.1)
  obtain ⟨c5, i5, k5⟩ := u_known (C := R_Tra) (T := F_Tra) (N := 7) (n := 7) hTB in_Tra (hTB _ le_CS_50.2.1)
  obtain ⟨c6, i6, k6⟩ := u_known (C := R_CS) (T := F_CS) (N := 8) (n := 8) hTB in_CS (hTB _ le_Law_7.2.1)
  obtain ⟨c7, i7, k7⟩ := u_known (C := R_Mod) (T := F_Mod) (N := 27) (n := 27) hTB in_Mod (hTB _ le_Law_18.2.1)
  obtain ⟨dC, dI, hKc⟩ : ∃ (dC : Nat → ClassId) (dI : Nat → Nat → Nat), ∀ (k : Nat) (q : vw_C), clss[k]? = some q → u_Kn s q.1 q.2.1 q.2.2 (dC k) (dI k) := by
    refine ⟨fun k => if k = 0 then c0 else if k = 1 then c1 else if k = 2 then c2 else if k = 3 then c3 else if k = 4 then c4 else if k = 5 then c5 else if k = 6 then c6 else c7, fun k => if k = 0 then i0 else if k = 1 then i1 else if k = 2 then i2 else if k = 3 then i3 else if k = 4 then i4 else if k = 5 then i5 else if k = 6 then i6 else i7, ?_⟩
    intro k q hq
    match k, hq with
    | 0, hq => cases hq; exact k0
    | 1, hq => cases hq; exact k1
    | 2, hq => cases hq; exact k2
    | 3, hq => cases hq; exact k3
    | 4, hq => cases hq; exact k4
    | 5, hq => cases hq; exact k5
    | 6, hq => cases hq; exact k6
    | 7, hq => cases hq; exact k7
    | k + 8, hq => simp [clss] at hq
  obtain ⟨cI, kI, compI, eI, gI, uI⟩ := Cond.arrayClass_spec (hTB _ lz_int)
  obtain ⟨cL, kL, compL, eL, gL, uL⟩ := Cond.arrayClass_spec (hTB _ lz_long)
  obtain ⟨cZ, kZ, compZ, eZ, gZ, uZ⟩ := Cond.arrayClass_spec (hTB _ lz_boolean)
  have hK : va_K (dC, dI) clss (ty3 cI cL cZ) s := by
    refine ⟨hKc, fun k q h => ?_⟩
    match k, h with
    | 0, h => cases h; exact ⟨fun n z => ⟨fun k h => (by cases h), kI, gI, compI, uI⟩, eI⟩
    | 1, h => cases h; exact ⟨fun n z => ⟨fun k h => (by cases h), kL, gL, compL, uL⟩, eL⟩
    | 2, h => cases h; exact ⟨fun n z => ⟨fun k h => (by cases h), kZ, gZ, compZ, uZ⟩, eZ⟩
    | k + 3, h => simp at h
  have N : nk NM0 NF0 s := ⟨fun q hq => va_Nw.of rfl (hts _ (nm_tbl q hq)), fun q hq => absurd hq List.not_mem_nil⟩
  have hl := lv_entry ([.ref b]) (n := 4) (Nat.le_of_ble_eq_true rfl)
  rw [lg_entry_eq]
  exact c_Law_law (D := (dC, dI)) (cI := cI) (cL := cL) (cZ := cZ) mc ms hMC hMS hL ⟨hx, hb, hml, hown, hTB, hK, fun q h => h⟩ N hr hlocks hX hbl hm s.heap [] _ (fun k q h => by simp at h) ⟨fun i j p q h => by simp at h, fun k q h => by simp at h⟩ va_S.rf hl
