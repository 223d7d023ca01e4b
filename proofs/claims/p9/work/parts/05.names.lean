/-! names: classes, fields, the tables' words -/
def tbGood (w : Cond) : Bool := k2_isCode w || goodWord w
def TB : List Cond := lw_tbl.filter tbGood
theorem tbm {w : Cond} (i : Nat) (h : lw_tbl[i]? = some w) (hg : tbGood w = true) : w ∈ TB := List.mem_filter.mpr ⟨List.mem_of_getElem? h, hg⟩
theorem gTB : GoodIn TB TB := by
  intro w hw
  refine ⟨hw, ?_⟩
  have h := (List.mem_filter.mp hw).2
  unfold tbGood at h
  rcases (Bool.or_eq_true _ _).mp h with hc | hg
  · cases w <;> first | (simp [k2_isCode] at hc; done) | exact Or.inl rfl
  · exact good_of_word hg
abbrev ty3 (cI cL cZ : ClassId) : List (ClassId × FieldType) := [(cI, .int), (cL, .long), (cZ, .boolean)]
def R_Ass : String := "ClauseSearch$Assumptions"
def F_Ass : u_T := fun k => match k with
  | 0 => ("ClauseSearch$Assumptions", "count", "I", false)
  | _ => ("ClauseSearch$Assumptions", "literals", "[I", true)
def ty_Ass : Nat → FieldType := fun k => match k with
  | 0 => .int
  | _ => .array .int
theorem nmx_Ass : ∀ a, a < 2 → ∀ b, b < 2 → a ≠ b → (F_Ass a).2.1 ≠ (F_Ass b).2.1 := by decide +kernel
theorem tyok_Ass : ∀ k, k < 2 → parseFieldDescriptor (F_Ass k).2.2.1 = some (ty_Ass k) := by decide +kernel
theorem in_Ass : ∀ w ∈ u_ws R_Ass F_Ass 2, w ∈ TB := List.forall_mem_cons.mpr ⟨tbm 126 (by decide +kernel) rfl, List.forall_mem_cons.mpr ⟨tbm 128 (by decide +kernel) rfl, fun _ h => absurd h List.not_mem_nil⟩⟩
theorem df_Ass : ∀ j, j < 2 → defaultValue (ty_Ass j) = vp_V [.int (0 : Int32), .null] j := by decide +kernel
def R_Pla : String := "ClauseSearch$Places"
def F_Pla : u_T := fun k => match k with
  | 0 => ("ClauseSearch$Places", "placeOf", "[I", true)
  | _ => ("ClauseSearch$Places", "symbolOf", "[I", true)
def ty_Pla : Nat → FieldType := fun k => match k with
  | 0 => .array .int
  | _ => .array .int
theorem nmx_Pla : ∀ a, a < 2 → ∀ b, b < 2 → a ≠ b → (F_Pla a).2.1 ≠ (F_Pla b).2.1 := by decide +kernel
theorem tyok_Pla : ∀ k, k < 2 → parseFieldDescriptor (F_Pla k).2.2.1 = some (ty_Pla k) := by decide +kernel
theorem in_Pla : ∀ w ∈ u_ws R_Pla F_Pla 2, w ∈ TB := List.forall_mem_cons.mpr ⟨tbm 111 (by decide +kernel) rfl, List.forall_mem_cons.mpr ⟨tbm 113 (by decide +kernel) rfl, fun _ h => absurd h List.not_mem_nil⟩⟩
theorem df_Pla : ∀ j, j < 2 → defaultValue (ty_Pla j) = vp_V [.null, .null] j := by decide +kernel
def R_Sea : String := "ClauseSearch$Search"
def F_Sea : u_T := fun k => match k with
  | 0 => ("ClauseSearch$Search", "rowCount", "I", false)
  | 1 => ("ClauseSearch$Search", "stepsUsed", "J", false)
  | 2 => ("ClauseSearch$Search", "thingCount", "I", true)
  | 3 => ("ClauseSearch$Search", "store", "LClauseSearch$Store;", true)
  | 4 => ("ClauseSearch$Search", "trail", "LClauseSearch$Trail;", true)
  | 5 => ("ClauseSearch$Search", "tally", "LClauseSearch$Tally;", true)
  | 6 => ("ClauseSearch$Search", "assumptions", "LClauseSearch$Assumptions;", true)
  | 7 => ("ClauseSearch$Search", "marks", "[I", true)
  | 8 => ("ClauseSearch$Search", "core", "[I", true)
  | 9 => ("ClauseSearch$Search", "coreCount", "I", false)
  | 10 => ("ClauseSearch$Search", "rowNumbers", "[I", false)
  | _ => ("ClauseSearch$Search", "stepsLeft", "J", false)
def ty_Sea : Nat → FieldType := fun k => match k with
  | 0 => .int
  | 1 => .long
  | 2 => .int
  | 3 => .object "ClauseSearch$Store"
  | 4 => .object "ClauseSearch$Trail"
  | 5 => .object "ClauseSearch$Tally"
  | 6 => .object "ClauseSearch$Assumptions"
  | 7 => .array .int
  | 8 => .array .int
  | 9 => .int
  | 10 => .array .int
  | _ => .long
theorem nmx_Sea : ∀ a, a < 12 → ∀ b, b < 12 → a ≠ b → (F_Sea a).2.1 ≠ (F_Sea b).2.1 := by decide +kernel
theorem tyok_Sea : ∀ k, k < 12 → parseFieldDescriptor (F_Sea k).2.2.1 = some (ty_Sea k) := by decide +kernel
theorem in_Sea : ∀ w ∈ u_ws R_Sea F_Sea 12, w ∈ TB := List.forall_mem_cons.mpr ⟨tbm 206 (by decide +kernel) rfl, List.forall_mem_cons.mpr ⟨tbm 208 (by decide +kernel) rfl, List.forall_mem_cons.mpr ⟨tbm 210 (by decide +kernel) rfl, List.forall_mem_cons.mpr ⟨tbm 212 (by decide +kernel) rfl, List.forall_mem_cons.mpr ⟨tbm 214 (by decide +kernel) rfl, List.forall_mem_cons.mpr ⟨tbm 216 (by decide +kernel) rfl, List.forall_mem_cons.mpr ⟨tbm 218 (by decide +kernel) rfl, List.forall_mem_cons.mpr ⟨tbm 220 (by decide +kernel) rfl, List.forall_mem_cons.mpr ⟨tbm 222 (by decide +kernel) rfl, List.forall_mem_cons.mpr ⟨tbm 224 (by decide +kernel) rfl, List.forall_mem_cons.mpr ⟨tbm 226 (by decide +kernel) rfl, List.forall_mem_cons.mpr ⟨tbm 228 (by decide +kernel) rfl, fun _ h => absurd h List.not_mem_nil⟩⟩⟩⟩⟩⟩⟩⟩⟩⟩⟩⟩
theorem df_Sea : ∀ j, j < 12 → defaultValue (ty_Sea j) = vp_V [.int (0 : Int32), .long (0 : Int64), .int (0 : Int32), .null, .null, .null, .null, .null, .null, .int (0 : Int32), .null, .long (0 : Int64)] j := by decide +kernel
def R_Sto : String := "ClauseSearch$Store"
def F_Sto : u_T := fun k => match k with
  | 0 => ("ClauseSearch$Store", "clauseCount", "I", false)
  | 1 => ("ClauseSearch$Store", "literalCount", "I", false)
  | 2 => ("ClauseSearch$Store", "literals", "[I", false)
  | 3 => ("ClauseSearch$Store", "owners", "[I", false)
  | 4 => ("ClauseSearch$Store", "nextAlike", "[I", false)
  | 5 => ("ClauseSearch$Store", "firstAlike", "[I", true)
  | _ => ("ClauseSearch$Store", "starts", "[I", false)
def ty_Sto : Nat → FieldType := fun k => match k with
  | 0 => .int
  | 1 => .int
  | 2 => .array .int
  | 3 => .array .int
  | 4 => .array .int
  | 5 => .array .int
  | _ => .array .int
theorem nmx_Sto : ∀ a, a < 7 → ∀ b, b < 7 → a ≠ b → (F_Sto a).2.1 ≠ (F_Sto b).2.1 := by decide +kernel
theorem tyok_Sto : ∀ k, k < 7 → parseFieldDescriptor (F_Sto k).2.2.1 = some (ty_Sto k) := by decide +kernel
theorem in_Sto : ∀ w ∈ u_ws R_Sto F_Sto 7, w ∈ TB := List.forall_mem_cons.mpr ⟨tbm 86 (by decide +kernel) rfl, List.forall_mem_cons.mpr ⟨tbm 88 (by decide +kernel) rfl, List.forall_mem_cons.mpr ⟨tbm 90 (by decide +kernel) rfl, List.forall_mem_cons.mpr ⟨tbm 92 (by decide +kernel) rfl, List.forall_mem_cons.mpr ⟨tbm 94 (by decide +kernel) rfl, List.forall_mem_cons.mpr ⟨tbm 96 (by decide +kernel) rfl, List.forall_mem_cons.mpr ⟨tbm 98 (by decide +kernel) rfl, fun _ h => absurd h List.not_mem_nil⟩⟩⟩⟩⟩⟩⟩
theorem df_Sto : ∀ j, j < 7 → defaultValue (ty_Sto j) = vp_V [.int (0 : Int32), .int (0 : Int32), .null, .null, .null, .null, .null] j := by decide +kernel
def R_Tal : String := "ClauseSearch$Tally"
def F_Tal : u_T := fun k => match k with
  | 0 => ("ClauseSearch$Tally", "store", "LClauseSearch$Store;", true)
  | 1 => ("ClauseSearch$Tally", "dead", "[J", true)
  | 2 => ("ClauseSearch$Tally", "unit", "[J", true)
  | 3 => ("ClauseSearch$Tally", "metBy", "[I", false)
  | _ => ("ClauseSearch$Tally", "notFailed", "[I", false)
def ty_Tal : Nat → FieldType := fun k => match k with
  | 0 => .object "ClauseSearch$Store"
  | 1 => .array .long
  | 2 => .array .long
  | 3 => .array .int
  | _ => .array .int
theorem nmx_Tal : ∀ a, a < 5 → ∀ b, b < 5 → a ≠ b → (F_Tal a).2.1 ≠ (F_Tal b).2.1 := by decide +kernel
theorem tyok_Tal : ∀ k, k < 5 → parseFieldDescriptor (F_Tal k).2.2.1 = some (ty_Tal k) := by decide +kernel
theorem in_Tal : ∀ w ∈ u_ws R_Tal F_Tal 5, w ∈ TB := List.forall_mem_cons.mpr ⟨tbm 142 (by decide +kernel) rfl, List.forall_mem_cons.mpr ⟨tbm 144 (by decide +kernel) rfl, List.forall_mem_cons.mpr ⟨tbm 146 (by decide +kernel) rfl, List.forall_mem_cons.mpr ⟨tbm 148 (by decide +kernel) rfl, List.forall_mem_cons.mpr ⟨tbm 150 (by decide +kernel) rfl, fun _ h => absurd h List.not_mem_nil⟩⟩⟩⟩⟩
theorem df_Tal : ∀ j, j < 5 → defaultValue (ty_Tal j) = vp_V [.null, .null, .null, .null, .null] j := by decide +kernel
def R_Tra : String := "ClauseSearch$Trail"
def F_Tra : u_T := fun k => match k with
  | 0 => ("ClauseSearch$Trail", "length", "I", false)
  | 1 => ("ClauseSearch$Trail", "level", "I", false)
  | 2 => ("ClauseSearch$Trail", "literals", "[I", true)
  | 3 => ("ClauseSearch$Trail", "tally", "LClauseSearch$Tally;", true)
  | 4 => ("ClauseSearch$Trail", "literalOn", "[I", true)
  | 5 => ("ClauseSearch$Trail", "levels", "[I", true)
  | _ => ("ClauseSearch$Trail", "causes", "[I", true)
def ty_Tra : Nat → FieldType := fun k => match k with
  | 0 => .int
  | 1 => .int
  | 2 => .array .int
  | 3 => .object "ClauseSearch$Tally"
  | 4 => .array .int
  | 5 => .array .int
  | _ => .array .int
theorem nmx_Tra : ∀ a, a < 7 → ∀ b, b < 7 → a ≠ b → (F_Tra a).2.1 ≠ (F_Tra b).2.1 := by decide +kernel
theorem tyok_Tra : ∀ k, k < 7 → parseFieldDescriptor (F_Tra k).2.2.1 = some (ty_Tra k) := by decide +kernel
theorem in_Tra : ∀ w ∈ u_ws R_Tra F_Tra 7, w ∈ TB := List.forall_mem_cons.mpr ⟨tbm 171 (by decide +kernel) rfl, List.forall_mem_cons.mpr ⟨tbm 173 (by decide +kernel) rfl, List.forall_mem_cons.mpr ⟨tbm 175 (by decide +kernel) rfl, List.forall_mem_cons.mpr ⟨tbm 177 (by decide +kernel) rfl, List.forall_mem_cons.mpr ⟨tbm 179 (by decide +kernel) rfl, List.forall_mem_cons.mpr ⟨tbm 181 (by decide +kernel) rfl, List.forall_mem_cons.mpr ⟨tbm 183 (by decide +kernel) rfl, fun _ h => absurd h List.not_mem_nil⟩⟩⟩⟩⟩⟩⟩
theorem df_Tra : ∀ j, j < 7 → defaultValue (ty_Tra j) = vp_V [.int (0 : Int32), .int (0 : Int32), .null, .null, .null, .null, .null] j := by decide +kernel
def R_CS : String := "ClauseSearch"
def F_CS : u_T := fun k => match k with
  | 0 => ("ClauseSearch", "thingCount", "I", true)
  | 1 => ("ClauseSearch", "store", "LClauseSearch$Store;", true)
  | 2 => ("ClauseSearch", "places", "LClauseSearch$Places;", true)
  | 3 => ("ClauseSearch", "assumptions", "LClauseSearch$Assumptions;", true)
  | 4 => ("ClauseSearch", "trail", "LClauseSearch$Trail;", true)
  | 5 => ("ClauseSearch", "search", "LClauseSearch$Search;", true)
  | 6 => ("ClauseSearch", "handMade", "I", false)
  | _ => ("ClauseSearch", "status", "I", false)
def ty_CS : Nat → FieldType := fun k => match k with
  | 0 => .int
  | 1 => .object "ClauseSearch$Store"
  | 2 => .object "ClauseSearch$Places"
  | 3 => .object "ClauseSearch$Assumptions"
  | 4 => .object "ClauseSearch$Trail"
  | 5 => .object "ClauseSearch$Search"
  | 6 => .int
  | _ => .int
theorem nmx_CS : ∀ a, a < 8 → ∀ b, b < 8 → a ≠ b → (F_CS a).2.1 ≠ (F_CS b).2.1 := by decide +kernel
theorem tyok_CS : ∀ k, k < 8 → parseFieldDescriptor (F_CS k).2.2.1 = some (ty_CS k) := by decide +kernel
theorem in_CS : ∀ w ∈ u_ws R_CS F_CS 8, w ∈ TB := List.forall_mem_cons.mpr ⟨tbm 239 (by decide +kernel) rfl, List.forall_mem_cons.mpr ⟨tbm 241 (by decide +kernel) rfl, List.forall_mem_cons.mpr ⟨tbm 243 (by decide +kernel) rfl, List.forall_mem_cons.mpr ⟨tbm 245 (by decide +kernel) rfl, List.forall_mem_cons.mpr ⟨tbm 247 (by decide +kernel) rfl, List.forall_mem_cons.mpr ⟨tbm 249 (by decide +kernel) rfl, List.forall_mem_cons.mpr ⟨tbm 251 (by decide +kernel) rfl, List.forall_mem_cons.mpr ⟨tbm 253 (by decide +kernel) rfl, fun _ h => absurd h List.not_mem_nil⟩⟩⟩⟩⟩⟩⟩⟩
theorem df_CS : ∀ j, j < 8 → defaultValue (ty_CS j) = vp_V [.int (0 : Int32), .null, .null, .null, .null, .null, .int (0 : Int32), .int (0 : Int32)] j := by decide +kernel
def R_Mod : String := "ClauseSearchModel"
def F_Mod : u_T := fun k => match k with
  | 0 => ("ClauseSearchModel", "thrownCode", "I", false)
  | 1 => ("ClauseSearchModel", "things", "I", false)
  | 2 => ("ClauseSearchModel", "literals", "[I", true)
  | 3 => ("ClauseSearchModel", "from", "[I", true)
  | 4 => ("ClauseSearchModel", "told", "[Z", true)
  | 5 => ("ClauseSearchModel", "clauses", "I", false)
  | 6 => ("ClauseSearchModel", "rows", "I", false)
  | 7 => ("ClauseSearchModel", "rowClause", "[I", true)
  | 8 => ("ClauseSearchModel", "kernels", "I", false)
  | 9 => ("ClauseSearchModel", "kernelThing", "[I", true)
  | 10 => ("ClauseSearchModel", "kernelPlace", "[I", true)
  | 11 => ("ClauseSearchModel", "kernelSymbol", "[I", true)
  | 12 => ("ClauseSearchModel", "assumed", "I", false)
  | 13 => ("ClauseSearchModel", "assumption", "[I", true)
  | 14 => ("ClauseSearchModel", "hasCore", "Z", false)
  | 15 => ("ClauseSearchModel", "inCore", "[Z", true)
  | 16 => ("ClauseSearchModel", "trail", "I", false)
  | 17 => ("ClauseSearchModel", "row", "[I", true)
  | 18 => ("ClauseSearchModel", "value", "[I", true)
  | 19 => ("ClauseSearchModel", "level", "[I", true)
  | 20 => ("ClauseSearchModel", "cause", "[I", true)
  | 21 => ("ClauseSearchModel", "place", "[I", true)
  | 22 => ("ClauseSearchModel", "present", "I", false)
  | 23 => ("ClauseSearchModel", "state", "I", false)
  | 24 => ("ClauseSearchModel", "left", "J", false)
  | 25 => ("ClauseSearchModel", "used", "J", false)
  | _ => ("ClauseSearchModel", "mark", "[Z", true)
def ty_Mod : Nat → FieldType := fun k => match k with
  | 0 => .int
  | 1 => .int
  | 2 => .array .int
  | 3 => .array .int
  | 4 => .array .boolean
  | 5 => .int
  | 6 => .int
  | 7 => .array .int
  | 8 => .int
  | 9 => .array .int
  | 10 => .array .int
  | 11 => .array .int
  | 12 => .int
  | 13 => .array .int
  | 14 => .boolean
  | 15 => .array .boolean
  | 16 => .int
  | 17 => .array .int
  | 18 => .array .int
  | 19 => .array .int
  | 20 => .array .int
  | 21 => .array .int
  | 22 => .int
  | 23 => .int
  | 24 => .long
  | 25 => .long
  | _ => .array .boolean
theorem nmx_Mod : ∀ a, a < 27 → ∀ b, b < 27 → a ≠ b → (F_Mod a).2.1 ≠ (F_Mod b).2.1 := by decide +kernel
theorem tyok_Mod : ∀ k, k < 27 → parseFieldDescriptor (F_Mod k).2.2.1 = some (ty_Mod k) := by decide +kernel
theorem in_Mod : ∀ w ∈ u_ws R_Mod F_Mod 27, w ∈ TB := List.forall_mem_cons.mpr ⟨tbm 614 (by decide +kernel) rfl, List.forall_mem_cons.mpr ⟨tbm 616 (by decide +kernel) rfl, List.forall_mem_cons.mpr ⟨tbm 618 (by decide +kernel) rfl, List.forall_mem_cons.mpr ⟨tbm 620 (by decide +kernel) rfl, List.forall_mem_cons.mpr ⟨tbm 622 (by decide +kernel) rfl, List.forall_mem_cons.mpr ⟨tbm 624 (by decide +kernel) rfl, List.forall_mem_cons.mpr ⟨tbm 626 (by decide +kernel) rfl, List.forall_mem_cons.mpr ⟨tbm 628 (by decide +kernel) rfl, List.forall_mem_cons.mpr ⟨tbm 630 (by decide +kernel) rfl, List.forall_mem_cons.mpr ⟨tbm 632 (by decide +kernel) rfl, List.forall_mem_cons.mpr ⟨tbm 634 (by decide +kernel) rfl, List.forall_mem_cons.mpr ⟨tbm 636 (by decide +kernel) rfl, List.forall_mem_cons.mpr ⟨tbm 638 (by decide +kernel) rfl, List.forall_mem_cons.mpr ⟨tbm 640 (by decide +kernel) rfl, List.forall_mem_cons.mpr ⟨tbm 642 (by decide +kernel) rfl, List.forall_mem_cons.mpr ⟨tbm 644 (by decide +kernel) rfl, List.forall_mem_cons.mpr ⟨tbm 646 (by decide +kernel) rfl, List.forall_mem_cons.mpr ⟨tbm 648 (by decide +kernel) rfl, List.forall_mem_cons.mpr ⟨tbm 650 (by decide +kernel) rfl, List.forall_mem_cons.mpr ⟨tbm 652 (by decide +kernel) rfl, List.forall_mem_cons.mpr ⟨tbm 654 (by decide +kernel) rfl, List.forall_mem_cons.mpr ⟨tbm 656 (by decide +kernel) rfl, List.forall_mem_cons.mpr ⟨tbm 658 (by decide +kernel) rfl, List.forall_mem_cons.mpr ⟨tbm 660 (by decide +kernel) rfl, List.forall_mem_cons.mpr ⟨tbm 662 (by decide +kernel) rfl, List.forall_mem_cons.mpr ⟨tbm 664 (by decide +kernel) rfl, List.forall_mem_cons.mpr ⟨tbm 666 (by decide +kernel) rfl, fun _ h => absurd h List.not_mem_nil⟩⟩⟩⟩⟩⟩⟩⟩⟩⟩⟩⟩⟩⟩⟩⟩⟩⟩⟩⟩⟩⟩⟩⟩⟩⟩⟩
theorem df_Mod : ∀ j, j < 27 → defaultValue (ty_Mod j) = vp_V [.int (0 : Int32), .int (0 : Int32), .null, .null, .null, .int (0 : Int32), .int (0 : Int32), .null, .int (0 : Int32), .null, .null, .null, .int (0 : Int32), .null, .int (0 : Int32), .null, .int (0 : Int32), .null, .null, .null, .null, .null, .int (0 : Int32), .int (0 : Int32), .long (0 : Int64), .long (0 : Int64), .null] j := by decide +kernel
def R_Law : String := "ClauseSearchLaw"
def R_Arr_ : String := "java/util/Arrays"
def R_Lng : String := "java/lang/Long"
abbrev clss : List vw_C := [(R_Ass, F_Ass, 2), (R_Pla, F_Pla, 2), (R_Sea, F_Sea, 12), (R_Sto, F_Sto, 7), (R_Tal, F_Tal, 5), (R_Tra, F_Tra, 7), (R_CS, F_CS, 8), (R_Mod, F_Mod, 27)]
abbrev T_Ass : Type := Int32 × Arr
def w_Ass (cI cL cZ : ClassId) (o a0 : Nat) (v : T_Ass) : va_W := [(o, .inr (0, [.int v.1, .ref a0])), (a0, .inl (cI, v.2.1, .inl v.2.2))]
abbrev T_Pla : Type := Arr × Arr
def w_Pla (cI cL cZ : ClassId) (o a0 a1 : Nat) (v : T_Pla) : va_W := [(o, .inr (1, [.ref a0, .ref a1])), (a0, .inl (cI, v.1.1, .inl v.1.2)), (a1, .inl (cI, v.2.1, .inl v.2.2))]
abbrev T_Sea : Type := Int32 × Int64 × Int32 × Arr × Arr × Int32 × Arr × Int64
def w_Sea (cI cL cZ : ClassId) (o r0 r1 r2 r3 a0 a1 a2 : Nat) (v : T_Sea) : va_W := [(o, .inr (2, [.int v.1, .long v.2.1, .int v.2.2.1, .ref r0, .ref r1, .ref r2, .ref r3, .ref a0, .ref a1, .int v.2.2.2.2.2.1, .ref a2, .long v.2.2.2.2.2.2.2])), (a0, .inl (cI, v.2.2.2.1.1, .inl v.2.2.2.1.2)), (a1, .inl (cI, v.2.2.2.2.1.1, .inl v.2.2.2.2.1.2)), (a2, .inl (cI, v.2.2.2.2.2.2.1.1, .inl v.2.2.2.2.2.2.1.2))]
abbrev T_Sto : Type := Int32 × Int32 × Arr × Arr × Arr × Arr × Arr
def w_Sto (cI cL cZ : ClassId) (o a0 a1 a2 a3 a4 : Nat) (v : T_Sto) : va_W := [(o, .inr (3, [.int v.1, .int v.2.1, .ref a0, .ref a1, .ref a2, .ref a3, .ref a4])), (a0, .inl (cI, v.2.2.1.1, .inl v.2.2.1.2)), (a1, .inl (cI, v.2.2.2.1.1, .inl v.2.2.2.1.2)), (a2, .inl (cI, v.2.2.2.2.1.1, .inl v.2.2.2.2.1.2)), (a3, .inl (cI, v.2.2.2.2.2.1.1, .inl v.2.2.2.2.2.1.2)), (a4, .inl (cI, v.2.2.2.2.2.2.1, .inl v.2.2.2.2.2.2.2))]
abbrev T_Tal : Type := LArr × LArr × Arr × Arr
def w_Tal (cI cL cZ : ClassId) (o r0 a0 a1 a2 a3 : Nat) (v : T_Tal) : va_W := [(o, .inr (4, [.ref r0, .ref a0, .ref a1, .ref a2, .ref a3])), (a0, .inl (cL, v.1.1, .inr (.inl v.1.2))), (a1, .inl (cL, v.2.1.1, .inr (.inl v.2.1.2))), (a2, .inl (cI, v.2.2.1.1, .inl v.2.2.1.2)), (a3, .inl (cI, v.2.2.2.1, .inl v.2.2.2.2))]
abbrev T_Tra : Type := Int32 × Int32 × Arr × Arr × Arr × Arr
def w_Tra (cI cL cZ : ClassId) (o r0 a0 a1 a2 a3 : Nat) (v : T_Tra) : va_W := [(o, .inr (5, [.int v.1, .int v.2.1, .ref a0, .ref r0, .ref a1, .ref a2, .ref a3])), (a0, .inl (cI, v.2.2.1.1, .inl v.2.2.1.2)), (a1, .inl (cI, v.2.2.2.1.1, .inl v.2.2.2.1.2)), (a2, .inl (cI, v.2.2.2.2.1.1, .inl v.2.2.2.2.1.2)), (a3, .inl (cI, v.2.2.2.2.2.1, .inl v.2.2.2.2.2.2))]
abbrev T_CS : Type := Int32 × Int32 × Int32
def w_CS (cI cL cZ : ClassId) (o r0 r1 r2 r3 r4 : Nat) (v : T_CS) : va_W := [(o, .inr (6, [.int v.1, .ref r0, .ref r1, .ref r2, .ref r3, .ref r4, .int v.2.1, .int v.2.2]))]
abbrev T_Mod : Type := Int32 × Int32 × Arr × Arr × Arr × Int32 × Int32 × Arr × Int32 × Arr × Arr × Arr × Int32 × Arr × Int32 × Arr × Int32 × Arr × Arr × Arr × Arr × Arr × Int32 × Int32 × Int64 × Int64 × Arr
def w_Mod (cI cL cZ : ClassId) (o a0 a1 a2 a3 a4 a5 a6 a7 a8 a9 a10 a11 a12 a13 a14 : Nat) (v : T_Mod) : va_W := [(o, .inr (7, [.int v.1, .int v.2.1, .ref a0, .ref a1, .ref a2, .int v.2.2.2.2.2.1, .int v.2.2.2.2.2.2.1, .ref a3, .int v.2.2.2.2.2.2.2.2.1, .ref a4, .ref a5, .ref a6, .int v.2.2.2.2.2.2.2.2.2.2.2.2.1, .ref a7, .int v.2.2.2.2.2.2.2.2.2.2.2.2.2.2.1, .ref a8, .int v.2.2.2.2.2.2.2.2.2.2.2.2.2.2.2.2.1, .ref a9, .ref a10, .ref a11, .ref a12, .ref a13, .int v.2.2.2.2.2.2.2.2.2.2.2.2.2.2.2.2.2.2.2.2.2.2.1, .int v.2.2.2.2.2.2.2.2.2.2.2.2.2.2.2.2.2.2.2.2.2.2.2.1, .long v.2.2.2.2.2.2.2.2.2.2.2.2.2.2.2.2.2.2.2.2.2.2.2.2.1, .long v.2.2.2.2.2.2.2.2.2.2.2.2.2.2.2.2.2.2.2.2.2.2.2.2.2.1, .ref a14])), (a0, .inl (cI, v.2.2.1.1, .inl v.2.2.1.2)), (a1, .inl (cI, v.2.2.2.1.1, .inl v.2.2.2.1.2)), (a2, .inl (cZ, v.2.2.2.2.1.1, .inl v.2.2.2.2.1.2)), (a3, .inl (cI, v.2.2.2.2.2.2.2.1.1, .inl v.2.2.2.2.2.2.2.1.2)), (a4, .inl (cI, v.2.2.2.2.2.2.2.2.2.1.1, .inl v.2.2.2.2.2.2.2.2.2.1.2)), (a5, .inl (cI, v.2.2.2.2.2.2.2.2.2.2.1.1, .inl v.2.2.2.2.2.2.2.2.2.2.1.2)), (a6, .inl (cI, v.2.2.2.2.2.2.2.2.2.2.2.1.1, .inl v.2.2.2.2.2.2.2.2.2.2.2.1.2)), (a7, .inl (cI, v.2.2.2.2.2.2.2.2.2.2.2.2.2.1.1, .inl v.2.2.2.2.2.2.2.2.2.2.2.2.2.1.2)), (a8, .inl (cZ, v.2.2.2.2.2.2.2.2.2.2.2.2.2.2.2.1.1, .inl v.2.2.2.2.2.2.2.2.2.2.2.2.2.2.2.1.2)), (a9, .inl (cI, v.2.2.2.2.2.2.2.2.2.2.2.2.2.2.2.2.2.1.1, .inl v.2.2.2.2.2.2.2.2.2.2.2.2.2.2.2.2.2.1.2)), (a10, .inl (cI, v.2.2.2.2.2.2.2.2.2.2.2.2.2.2.2.2.2.2.1.1, .inl v.2.2.2.2.2.2.2.2.2.2.2.2.2.2.2.2.2.2.1.2)), (a11, .inl (cI, v.2.2.2.2.2.2.2.2.2.2.2.2.2.2.2.2.2.2.2.1.1, .inl v.2.2.2.2.2.2.2.2.2.2.2.2.2.2.2.2.2.2.2.1.2)), (a12, .inl (cI, v.2.2.2.2.2.2.2.2.2.2.2.2.2.2.2.2.2.2.2.2.1.1, .inl v.2.2.2.2.2.2.2.2.2.2.2.2.2.2.2.2.2.2.2.2.1.2)), (a13, .inl (cI, v.2.2.2.2.2.2.2.2.2.2.2.2.2.2.2.2.2.2.2.2.2.1.1, .inl v.2.2.2.2.2.2.2.2.2.2.2.2.2.2.2.2.2.2.2.2.2.1.2)), (a14, .inl (cZ, v.2.2.2.2.2.2.2.2.2.2.2.2.2.2.2.2.2.2.2.2.2.2.2.2.2.2.1, .inl v.2.2.2.2.2.2.2.2.2.2.2.2.2.2.2.2.2.2.2.2.2.2.2.2.2.2.2))]
/-! names: methods -/
def y_CS_init : MethodName := ⟨"ClauseSearch", "<init>", "(I)V"⟩
abbrev b_CS_init : ByteArray := prog_1_method_1_code
def y_CS_clause : MethodName := ⟨"ClauseSearch", "clause", "()I"⟩
abbrev b_CS_clause : ByteArray := prog_1_method_2_code
def y_CS_literal : MethodName := ⟨"ClauseSearch", "literal", "(IIZ)Z"⟩
abbrev b_CS_literal : ByteArray := prog_1_method_3_code
def y_CS_kernel : MethodName := ⟨"ClauseSearch", "kernel", "(III)Z"⟩
abbrev b_CS_kernel : ByteArray := prog_1_method_4_code
def y_CS_run : MethodName := ⟨"ClauseSearch", "run", "(J)I"⟩
abbrev b_CS_run : ByteArray := prog_1_method_5_code
def y_CS_goOn : MethodName := ⟨"ClauseSearch", "goOn", "(J)Z"⟩
abbrev b_CS_goOn : ByteArray := prog_1_method_6_code
def y_CS_truth : MethodName := ⟨"ClauseSearch", "truth", "(I)Z"⟩
abbrev b_CS_truth : ByteArray := prog_1_method_7_code
def y_CS_block : MethodName := ⟨"ClauseSearch", "block", "()Z"⟩
abbrev b_CS_block : ByteArray := prog_1_method_8_code
def y_CS_assume : MethodName := ⟨"ClauseSearch", "assume", "(IZ)Z"⟩
abbrev b_CS_assume : ByteArray := prog_1_method_9_code
def y_CS_freely : MethodName := ⟨"ClauseSearch", "freely", "()V"⟩
abbrev b_CS_freely : ByteArray := prog_1_method_10_code
def y_CS_core : MethodName := ⟨"ClauseSearch", "core", "(I)I"⟩
abbrev b_CS_core : ByteArray := prog_1_method_11_code
def y_CS_rows : MethodName := ⟨"ClauseSearch", "rows", "()I"⟩
abbrev b_CS_rows : ByteArray := prog_1_method_12_code
def y_CS_row : MethodName := ⟨"ClauseSearch", "row", "(II)I"⟩
abbrev b_CS_row : ByteArray := prog_1_method_13_code
def y_CS_numberOf : MethodName := ⟨"ClauseSearch", "numberOf", "(I)I"⟩
abbrev b_CS_numberOf : ByteArray := prog_1_method_14_code
def y_CS_used : MethodName := ⟨"ClauseSearch", "used", "()J"⟩
abbrev b_CS_used : ByteArray := prog_1_method_15_code
def y_CS_state : MethodName := ⟨"ClauseSearch", "state", "()I"⟩
abbrev b_CS_state : ByteArray := prog_1_method_16_code
def y_CS_clauses : MethodName := ⟨"ClauseSearch", "clauses", "()I"⟩
abbrev b_CS_clauses : ByteArray := prog_1_method_17_code
def y_CS_isThing : MethodName := ⟨"ClauseSearch", "isThing", "(I)Z"⟩
abbrev b_CS_isThing : ByteArray := prog_1_method_18_code
def y_CS_isStillOpen : MethodName := ⟨"ClauseSearch", "isStillOpen", "(I)Z"⟩
abbrev b_CS_isStillOpen : ByteArray := prog_1_method_19_code
def y_CS_isCode : MethodName := ⟨"ClauseSearch", "isCode", "(I)Z"⟩
abbrev b_CS_isCode : ByteArray := prog_1_method_20_code
def y_CS_literalOf : MethodName := ⟨"ClauseSearch", "literalOf", "(IZ)I"⟩
abbrev b_CS_literalOf : ByteArray := prog_1_method_21_code
def y_CS_withRoomFor : MethodName := ⟨"ClauseSearch", "withRoomFor", "([III)[I"⟩
abbrev b_CS_withRoomFor : ByteArray := prog_1_method_22_code
def y_Mod_init : MethodName := ⟨"ClauseSearchModel", "<init>", "(I)V"⟩
abbrev b_Mod_init : ByteArray := prog_9_method_1_code
def y_Mod_holds : MethodName := ⟨"ClauseSearchModel", "holds", "(I)Z"⟩
abbrev b_Mod_holds : ByteArray := prog_9_method_2_code
def y_Mod_against : MethodName := ⟨"ClauseSearchModel", "against", "(I)Z"⟩
abbrev b_Mod_against : ByteArray := prog_9_method_3_code
def y_Mod_room : MethodName := ⟨"ClauseSearchModel", "room", "(II)Z"⟩
abbrev b_Mod_room : ByteArray := prog_9_method_4_code
def y_Mod_begin : MethodName := ⟨"ClauseSearchModel", "begin", "(Z)V"⟩
abbrev b_Mod_begin : ByteArray := prog_9_method_5_code
def y_Mod_put : MethodName := ⟨"ClauseSearchModel", "put", "(I)V"⟩
abbrev b_Mod_put : ByteArray := prog_9_method_6_code
def y_Mod_comes : MethodName := ⟨"ClauseSearchModel", "comes", "(III)V"⟩
abbrev b_Mod_comes : ByteArray := prog_9_method_7_code
def y_Mod_cut : MethodName := ⟨"ClauseSearchModel", "cut", "(I)V"⟩
abbrev b_Mod_cut : ByteArray := prog_9_method_8_code
def y_Mod_how : MethodName := ⟨"ClauseSearchModel", "how", "(I)I"⟩
abbrev b_Mod_how : ByteArray := prog_9_method_9_code
def y_Mod_step : MethodName := ⟨"ClauseSearchModel", "step", "()Z"⟩
abbrev b_Mod_step : ByteArray := prog_9_method_10_code
def y_Mod_last : MethodName := ⟨"ClauseSearchModel", "last", "()I"⟩
abbrev b_Mod_last : ByteArray := prog_9_method_11_code
def y_Mod_mix : MethodName := ⟨"ClauseSearchModel", "mix", "(I)V"⟩
abbrev b_Mod_mix : ByteArray := prog_9_method_12_code
def y_Mod_learns : MethodName := ⟨"ClauseSearchModel", "learns", "(I)Z"⟩
abbrev b_Mod_learns : ByteArray := prog_9_method_13_code
def y_Mod_findCore : MethodName := ⟨"ClauseSearchModel", "findCore", "(I)V"⟩
abbrev b_Mod_findCore : ByteArray := prog_9_method_14_code
def y_Mod_goes : MethodName := ⟨"ClauseSearchModel", "goes", "()Z"⟩
abbrev b_Mod_goes : ByteArray := prog_9_method_15_code
def y_Mod_decides : MethodName := ⟨"ClauseSearchModel", "decides", "(I)Z"⟩
abbrev b_Mod_decides : ByteArray := prog_9_method_16_code
def y_Mod_goOnWith : MethodName := ⟨"ClauseSearchModel", "goOnWith", "(J)V"⟩
abbrev b_Mod_goOnWith : ByteArray := prog_9_method_17_code
def y_Mod_noThing : MethodName := ⟨"ClauseSearchModel", "noThing", "(I)Z"⟩
abbrev b_Mod_noThing : ByteArray := prog_9_method_18_code
def y_Mod_clause : MethodName := ⟨"ClauseSearchModel", "clause", "()I"⟩
abbrev b_Mod_clause : ByteArray := prog_9_method_20_code
def y_Mod_literal : MethodName := ⟨"ClauseSearchModel", "literal", "(IIZ)Z"⟩
abbrev b_Mod_literal : ByteArray := prog_9_method_21_code
def y_Mod_kernel : MethodName := ⟨"ClauseSearchModel", "kernel", "(III)Z"⟩
abbrev b_Mod_kernel : ByteArray := prog_9_method_22_code
def y_Mod_run : MethodName := ⟨"ClauseSearchModel", "run", "(J)I"⟩
abbrev b_Mod_run : ByteArray := prog_9_method_23_code
def y_Mod_goOn : MethodName := ⟨"ClauseSearchModel", "goOn", "(J)Z"⟩
abbrev b_Mod_goOn : ByteArray := prog_9_method_24_code
def y_Mod_truth : MethodName := ⟨"ClauseSearchModel", "truth", "(I)Z"⟩
abbrev b_Mod_truth : ByteArray := prog_9_method_25_code
def y_Mod_block : MethodName := ⟨"ClauseSearchModel", "block", "()Z"⟩
abbrev b_Mod_block : ByteArray := prog_9_method_26_code
def y_Mod_assume : MethodName := ⟨"ClauseSearchModel", "assume", "(IZ)Z"⟩
abbrev b_Mod_assume : ByteArray := prog_9_method_27_code
def y_Mod_freely : MethodName := ⟨"ClauseSearchModel", "freely", "()V"⟩
abbrev b_Mod_freely : ByteArray := prog_9_method_28_code
def y_Mod_core : MethodName := ⟨"ClauseSearchModel", "core", "(I)I"⟩
abbrev b_Mod_core : ByteArray := prog_9_method_29_code
def y_Mod_rows : MethodName := ⟨"ClauseSearchModel", "rows", "()I"⟩
abbrev b_Mod_rows : ByteArray := prog_9_method_30_code
def y_Mod_row : MethodName := ⟨"ClauseSearchModel", "row", "(II)I"⟩
abbrev b_Mod_row : ByteArray := prog_9_method_31_code
def y_Mod_numberOf : MethodName := ⟨"ClauseSearchModel", "numberOf", "(I)I"⟩
abbrev b_Mod_numberOf : ByteArray := prog_9_method_32_code
def y_Mod_used : MethodName := ⟨"ClauseSearchModel", "used", "()J"⟩
abbrev b_Mod_used : ByteArray := prog_9_method_33_code
def y_Mod_state : MethodName := ⟨"ClauseSearchModel", "state", "()I"⟩
abbrev b_Mod_state : ByteArray := prog_9_method_34_code
def y_Mod_clauses : MethodName := ⟨"ClauseSearchModel", "clauses", "()I"⟩
abbrev b_Mod_clauses : ByteArray := prog_9_method_35_code
def y_Ass_init : MethodName := ⟨"ClauseSearch$Assumptions", "<init>", "()V"⟩
abbrev b_Ass_init : ByteArray := prog_2_method_1_code
def y_Ass_isFull : MethodName := ⟨"ClauseSearch$Assumptions", "isFull", "()Z"⟩
abbrev b_Ass_isFull : ByteArray := prog_2_method_2_code
def y_Ass_concerns : MethodName := ⟨"ClauseSearch$Assumptions", "concerns", "(I)Z"⟩
abbrev b_Ass_concerns : ByteArray := prog_2_method_3_code
def y_Ass_append : MethodName := ⟨"ClauseSearch$Assumptions", "append", "(I)V"⟩
abbrev b_Ass_append : ByteArray := prog_2_method_4_code
def y_Ass_clear : MethodName := ⟨"ClauseSearch$Assumptions", "clear", "()V"⟩
abbrev b_Ass_clear : ByteArray := prog_2_method_5_code
def y_Pla_init : MethodName := ⟨"ClauseSearch$Places", "<init>", "(I)V"⟩
abbrev b_Pla_init : ByteArray := prog_3_method_1_code
def y_Pla_isTold : MethodName := ⟨"ClauseSearch$Places", "isTold", "(I)Z"⟩
abbrev b_Pla_isTold : ByteArray := prog_3_method_2_code
def y_Pla_isAt : MethodName := ⟨"ClauseSearch$Places", "isAt", "(II)Z"⟩
abbrev b_Pla_isAt : ByteArray := prog_3_method_3_code
def y_Pla_isTaken : MethodName := ⟨"ClauseSearch$Places", "isTaken", "(II)Z"⟩
abbrev b_Pla_isTaken : ByteArray := prog_3_method_4_code
def y_Pla_countAt : MethodName := ⟨"ClauseSearch$Places", "countAt", "(I)I"⟩
abbrev b_Pla_countAt : ByteArray := prog_3_method_5_code
def y_Pla_tell : MethodName := ⟨"ClauseSearch$Places", "tell", "(III)V"⟩
abbrev b_Pla_tell : ByteArray := prog_3_method_6_code
def y_Sea_init : MethodName := ⟨"ClauseSearch$Search", "<init>", "(ILClauseSearch$Store;LClauseSearch$Trail;LClauseSearch$Tally;LClauseSearch$Assumptions;)V"⟩
abbrev b_Sea_init : ByteArray := prog_4_method_1_code
def y_Sea_coreLiteral : MethodName := ⟨"ClauseSearch$Search", "coreLiteral", "(I)I"⟩
abbrev b_Sea_coreLiteral : ByteArray := prog_4_method_2_code
def y_Sea_numberOfRow : MethodName := ⟨"ClauseSearch$Search", "numberOfRow", "(I)I"⟩
abbrev b_Sea_numberOfRow : ByteArray := prog_4_method_3_code
def y_Sea_begin : MethodName := ⟨"ClauseSearch$Search", "begin", "()V"⟩
abbrev b_Sea_begin : ByteArray := prog_4_method_4_code
def y_Sea_advance : MethodName := ⟨"ClauseSearch$Search", "advance", "(J)I"⟩
abbrev b_Sea_advance : ByteArray := prog_4_method_5_code
def y_Sea_takeTurn : MethodName := ⟨"ClauseSearch$Search", "takeTurn", "()I"⟩
abbrev b_Sea_takeTurn : ByteArray := prog_4_method_6_code
def y_Sea_follow : MethodName := ⟨"ClauseSearch$Search", "follow", "(I)I"⟩
abbrev b_Sea_follow : ByteArray := prog_4_method_7_code
def y_Sea_firstPendingAssumption : MethodName := ⟨"ClauseSearch$Search", "firstPendingAssumption", "()I"⟩
abbrev b_Sea_firstPendingAssumption : ByteArray := prog_4_method_8_code
def y_Sea_failBy : MethodName := ⟨"ClauseSearch$Search", "failBy", "(I)I"⟩
abbrev b_Sea_failBy : ByteArray := prog_4_method_9_code
def y_Sea_decide : MethodName := ⟨"ClauseSearch$Search", "decide", "(I)I"⟩
abbrev b_Sea_decide : ByteArray := prog_4_method_10_code
def y_Sea_countStep : MethodName := ⟨"ClauseSearch$Search", "countStep", "()V"⟩
abbrev b_Sea_countStep : ByteArray := prog_4_method_11_code
def y_Sea_learnFrom : MethodName := ⟨"ClauseSearch$Search", "learnFrom", "(I)I"⟩
abbrev b_Sea_learnFrom : ByteArray := prog_4_method_12_code
def y_Sea_markRow : MethodName := ⟨"ClauseSearch$Search", "markRow", "(I)V"⟩
abbrev b_Sea_markRow : ByteArray := prog_4_method_13_code
def y_Sea_markOthers : MethodName := ⟨"ClauseSearch$Search", "markOthers", "(II)I"⟩
abbrev b_Sea_markOthers : ByteArray := prog_4_method_14_code
def y_Sea_countMarks : MethodName := ⟨"ClauseSearch$Search", "countMarks", "()I"⟩
abbrev b_Sea_countMarks : ByteArray := prog_4_method_15_code
def y_Sea_storeRow : MethodName := ⟨"ClauseSearch$Search", "storeRow", "()I"⟩
abbrev b_Sea_storeRow : ByteArray := prog_4_method_16_code
def y_Sea_greatestLevelBut : MethodName := ⟨"ClauseSearch$Search", "greatestLevelBut", "(I)I"⟩
abbrev b_Sea_greatestLevelBut : ByteArray := prog_4_method_17_code
def y_Sea_findCore : MethodName := ⟨"ClauseSearch$Search", "findCore", "(I)V"⟩
abbrev b_Sea_findCore : ByteArray := prog_4_method_18_code
def y_Sto_init : MethodName := ⟨"ClauseSearch$Store", "<init>", "(I)V"⟩
abbrev b_Sto_init : ByteArray := prog_5_method_1_code
def y_Sto_hasRoom : MethodName := ⟨"ClauseSearch$Store", "hasRoom", "(II)Z"⟩
abbrev b_Sto_hasRoom : ByteArray := prog_5_method_2_code
def y_Sto_open : MethodName := ⟨"ClauseSearch$Store", "open", "()I"⟩
abbrev b_Sto_open : ByteArray := prog_5_method_3_code
def y_Sto_append : MethodName := ⟨"ClauseSearch$Store", "append", "(I)V"⟩
abbrev b_Sto_append : ByteArray := prog_5_method_4_code
def y_Sto_startOf : MethodName := ⟨"ClauseSearch$Store", "startOf", "(I)I"⟩
abbrev b_Sto_startOf : ByteArray := prog_5_method_5_code
def y_Sto_endOf : MethodName := ⟨"ClauseSearch$Store", "endOf", "(I)I"⟩
abbrev b_Sto_endOf : ByteArray := prog_5_method_6_code
def y_Sto_sizeOf : MethodName := ⟨"ClauseSearch$Store", "sizeOf", "(I)I"⟩
abbrev b_Sto_sizeOf : ByteArray := prog_5_method_7_code
def y_Sto_holds : MethodName := ⟨"ClauseSearch$Store", "holds", "(II)Z"⟩
abbrev b_Sto_holds : ByteArray := prog_5_method_8_code
def y_Tal_init : MethodName := ⟨"ClauseSearch$Tally", "<init>", "(LClauseSearch$Store;)V"⟩
abbrev b_Tal_init : ByteArray := prog_6_method_1_code
def y_Tal_restart : MethodName := ⟨"ClauseSearch$Tally", "restart", "()V"⟩
abbrev b_Tal_restart : ByteArray := prog_6_method_2_code
def y_Tal_enterDead : MethodName := ⟨"ClauseSearch$Tally", "enterDead", "()V"⟩
abbrev b_Tal_enterDead : ByteArray := prog_6_method_3_code
def y_Tal_move : MethodName := ⟨"ClauseSearch$Tally", "move", "(II)V"⟩
abbrev b_Tal_move : ByteArray := prog_6_method_4_code
def y_Tal_leastDead : MethodName := ⟨"ClauseSearch$Tally", "leastDead", "()I"⟩
abbrev b_Tal_leastDead : ByteArray := prog_6_method_5_code
def y_Tal_leastUnit : MethodName := ⟨"ClauseSearch$Tally", "leastUnit", "()I"⟩
abbrev b_Tal_leastUnit : ByteArray := prog_6_method_6_code
def y_Tal_makeRoom : MethodName := ⟨"ClauseSearch$Tally", "makeRoom", "()V"⟩
abbrev b_Tal_makeRoom : ByteArray := prog_6_method_7_code
def y_Tal_judge : MethodName := ⟨"ClauseSearch$Tally", "judge", "(I)V"⟩
abbrev b_Tal_judge : ByteArray := prog_6_method_8_code
def y_Tal_least : MethodName := ⟨"ClauseSearch$Tally", "least", "([J)I"⟩
abbrev b_Tal_least : ByteArray := prog_6_method_9_code
def y_Tra_init : MethodName := ⟨"ClauseSearch$Trail", "<init>", "(ILClauseSearch$Tally;)V"⟩
abbrev b_Tra_init : ByteArray := prog_7_method_1_code
def y_Tra_restart : MethodName := ⟨"ClauseSearch$Trail", "restart", "()V"⟩
abbrev b_Tra_restart : ByteArray := prog_7_method_2_code
def y_Tra_put : MethodName := ⟨"ClauseSearch$Trail", "put", "(II)V"⟩
abbrev b_Tra_put : ByteArray := prog_7_method_3_code
def y_Tra_cutAbove : MethodName := ⟨"ClauseSearch$Trail", "cutAbove", "(I)V"⟩
abbrev b_Tra_cutAbove : ByteArray := prog_7_method_4_code
def y_Tra_holds : MethodName := ⟨"ClauseSearch$Trail", "holds", "(I)Z"⟩
abbrev b_Tra_holds : ByteArray := prog_7_method_5_code
def y_Tra_has : MethodName := ⟨"ClauseSearch$Trail", "has", "(I)Z"⟩
abbrev b_Tra_has : ByteArray := prog_7_method_6_code
def y_Tra_refusedLiteralOf : MethodName := ⟨"ClauseSearch$Trail", "refusedLiteralOf", "(I)I"⟩
abbrev b_Tra_refusedLiteralOf : ByteArray := prog_7_method_7_code
def y_Tra_levelOf : MethodName := ⟨"ClauseSearch$Trail", "levelOf", "(I)I"⟩
abbrev b_Tra_levelOf : ByteArray := prog_7_method_8_code
def y_Tra_causeOf : MethodName := ⟨"ClauseSearch$Trail", "causeOf", "(I)I"⟩
abbrev b_Tra_causeOf : ByteArray := prog_7_method_9_code
def y_Tra_leastAbsent : MethodName := ⟨"ClauseSearch$Trail", "leastAbsent", "()I"⟩
abbrev b_Tra_leastAbsent : ByteArray := prog_7_method_10_code
def y_Law_cell : MethodName := ⟨"ClauseSearchLaw", "cell", "([II)I"⟩
abbrev b_Law_cell : ByteArray := method_2_code
def y_Lng_bitCount : MethodName := ⟨"java/lang/Long", "bitCount", "(J)I"⟩
abbrev b_Lng_bitCount : ByteArray := prog_11_method_50_code
def y_Arr__fill : MethodName := ⟨"java/util/Arrays", "fill", "([II)V"⟩
abbrev b_Arr__fill : ByteArray := prog_14_method_103_code
def y_Arr__copyOf : MethodName := ⟨"java/util/Arrays", "copyOf", "([II)[I"⟩
abbrev b_Arr__copyOf : ByteArray := prog_14_method_123_code
def NM0 : List (String × Nat × MethodName × String) := [("ClauseSearch$Store", 44, y_CS_withRoomFor, "ClauseSearch"), ("ClauseSearch$Tally", 62, y_CS_withRoomFor, "ClauseSearch"), ("ClauseSearch$Search", 184, y_CS_withRoomFor, "ClauseSearch"), ("ClauseSearch$Search", 109, y_CS_literalOf, "ClauseSearch")]
def NF0 : List (String × Nat × String × String × String × String) := []
