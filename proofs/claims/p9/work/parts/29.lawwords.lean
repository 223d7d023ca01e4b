/-! the words of the tables, by their places -/
theorem lk_Law_cell : Cond.code y_Law_cell b_Law_cell 2 (some .int) ∈ TB := tbm 580 (by decide +kernel) rfl
theorem lh_Law_cell : y_Law_cell.cls ≠ "java/lang/invoke/MethodHandle" ∧ y_Law_cell.cls ≠ "java/lang/invoke/VarHandle" ∧ (parseMethodDescriptor y_Law_cell.desc).map (fun d => d.parameters.length) = some 2 := by decide +kernel
theorem lw_Law_15 : ∀ w ∈ ([.methodLink R_Law 15 y_CS_init, .instanceMethod y_CS_init, .initialized y_CS_init.cls] : List Cond), w ∈ TB := List.forall_mem_cons.mpr ⟨tbm 49 (by decide +kernel) rfl, List.forall_mem_cons.mpr ⟨tbm 50 (by decide +kernel) rfl, List.forall_mem_cons.mpr ⟨tbm 35 (by decide +kernel) rfl, fun _ h => absurd h List.not_mem_nil⟩⟩⟩
theorem lw_Law_20 : ∀ w ∈ ([.methodLink R_Law 20 y_Mod_init, .instanceMethod y_Mod_init, .initialized y_Mod_init.cls] : List Cond), w ∈ TB := List.forall_mem_cons.mpr ⟨tbm 583 (by decide +kernel) rfl, List.forall_mem_cons.mpr ⟨tbm 584 (by decide +kernel) rfl, List.forall_mem_cons.mpr ⟨tbm 44 (by decide +kernel) rfl, fun _ h => absurd h List.not_mem_nil⟩⟩⟩
theorem lw_Law_21 : ∀ w ∈ ([.methodLink R_Law 21 y_CS_clause, .instanceMethod y_CS_clause, .selects y_CS_clause.cls y_CS_clause y_CS_clause, .initialized y_CS_clause.cls] : List Cond), w ∈ TB := List.forall_mem_cons.mpr ⟨tbm 256 (by decide +kernel) rfl, List.forall_mem_cons.mpr ⟨tbm 257 (by decide +kernel) rfl, List.forall_mem_cons.mpr ⟨tbm 258 (by decide +kernel) rfl, List.forall_mem_cons.mpr ⟨tbm 35 (by decide +kernel) rfl, fun _ h => absurd h List.not_mem_nil⟩⟩⟩⟩
theorem lw_Law_25 : ∀ w ∈ ([.methodLink R_Law 25 y_Mod_clause, .instanceMethod y_Mod_clause, .selects y_Mod_clause.cls y_Mod_clause y_Mod_clause, .initialized y_Mod_clause.cls] : List Cond), w ∈ TB := List.forall_mem_cons.mpr ⟨tbm 670 (by decide +kernel) rfl, List.forall_mem_cons.mpr ⟨tbm 671 (by decide +kernel) rfl, List.forall_mem_cons.mpr ⟨tbm 672 (by decide +kernel) rfl, List.forall_mem_cons.mpr ⟨tbm 44 (by decide +kernel) rfl, fun _ h => absurd h List.not_mem_nil⟩⟩⟩⟩
theorem lw_Law_26 : ∀ w ∈ ([.methodLink R_Law 26 y_CS_literal, .instanceMethod y_CS_literal, .selects y_CS_literal.cls y_CS_literal y_CS_literal, .initialized y_CS_literal.cls] : List Cond), w ∈ TB := List.forall_mem_cons.mpr ⟨tbm 286 (by decide +kernel) rfl, List.forall_mem_cons.mpr ⟨tbm 287 (by decide +kernel) rfl, List.forall_mem_cons.mpr ⟨tbm 288 (by decide +kernel) rfl, List.forall_mem_cons.mpr ⟨tbm 35 (by decide +kernel) rfl, fun _ h => absurd h List.not_mem_nil⟩⟩⟩⟩
theorem lw_Law_30 : ∀ w ∈ ([.methodLink R_Law 30 y_Mod_literal, .instanceMethod y_Mod_literal, .selects y_Mod_literal.cls y_Mod_literal y_Mod_literal, .initialized y_Mod_literal.cls] : List Cond), w ∈ TB := List.forall_mem_cons.mpr ⟨tbm 682 (by decide +kernel) rfl, List.forall_mem_cons.mpr ⟨tbm 683 (by decide +kernel) rfl, List.forall_mem_cons.mpr ⟨tbm 684 (by decide +kernel) rfl, List.forall_mem_cons.mpr ⟨tbm 44 (by decide +kernel) rfl, fun _ h => absurd h List.not_mem_nil⟩⟩⟩⟩
theorem lw_Law_31 : ∀ w ∈ ([.methodLink R_Law 31 y_CS_kernel, .instanceMethod y_CS_kernel, .selects y_CS_kernel.cls y_CS_kernel y_CS_kernel, .initialized y_CS_kernel.cls] : List Cond), w ∈ TB := List.forall_mem_cons.mpr ⟨tbm 321 (by decide +kernel) rfl, List.forall_mem_cons.mpr ⟨tbm 322 (by decide +kernel) rfl, List.forall_mem_cons.mpr ⟨tbm 323 (by decide +kernel) rfl, List.forall_mem_cons.mpr ⟨tbm 35 (by decide +kernel) rfl, fun _ h => absurd h List.not_mem_nil⟩⟩⟩⟩
theorem lw_Law_35 : ∀ w ∈ ([.methodLink R_Law 35 y_Mod_kernel, .instanceMethod y_Mod_kernel, .selects y_Mod_kernel.cls y_Mod_kernel y_Mod_kernel, .initialized y_Mod_kernel.cls] : List Cond), w ∈ TB := List.forall_mem_cons.mpr ⟨tbm 694 (by decide +kernel) rfl, List.forall_mem_cons.mpr ⟨tbm 695 (by decide +kernel) rfl, List.forall_mem_cons.mpr ⟨tbm 696 (by decide +kernel) rfl, List.forall_mem_cons.mpr ⟨tbm 44 (by decide +kernel) rfl, fun _ h => absurd h List.not_mem_nil⟩⟩⟩⟩
theorem lw_Law_38 : ∀ w ∈ ([.methodLink R_Law 38 y_CS_run, .instanceMethod y_CS_run, .selects y_CS_run.cls y_CS_run y_CS_run, .initialized y_CS_run.cls] : List Cond), w ∈ TB := List.forall_mem_cons.mpr ⟨tbm 349 (by decide +kernel) rfl, List.forall_mem_cons.mpr ⟨tbm 350 (by decide +kernel) rfl, List.forall_mem_cons.mpr ⟨tbm 351 (by decide +kernel) rfl, List.forall_mem_cons.mpr ⟨tbm 35 (by decide +kernel) rfl, fun _ h => absurd h List.not_mem_nil⟩⟩⟩⟩
theorem lw_Law_42 : ∀ w ∈ ([.methodLink R_Law 42 y_Mod_run, .instanceMethod y_Mod_run, .selects y_Mod_run.cls y_Mod_run y_Mod_run, .initialized y_Mod_run.cls] : List Cond), w ∈ TB := List.forall_mem_cons.mpr ⟨tbm 699 (by decide +kernel) rfl, List.forall_mem_cons.mpr ⟨tbm 700 (by decide +kernel) rfl, List.forall_mem_cons.mpr ⟨tbm 701 (by decide +kernel) rfl, List.forall_mem_cons.mpr ⟨tbm 44 (by decide +kernel) rfl, fun _ h => absurd h List.not_mem_nil⟩⟩⟩⟩
theorem lw_Law_43 : ∀ w ∈ ([.methodLink R_Law 43 y_CS_goOn, .instanceMethod y_CS_goOn, .selects y_CS_goOn.cls y_CS_goOn y_CS_goOn, .initialized y_CS_goOn.cls] : List Cond), w ∈ TB := List.forall_mem_cons.mpr ⟨tbm 502 (by decide +kernel) rfl, List.forall_mem_cons.mpr ⟨tbm 503 (by decide +kernel) rfl, List.forall_mem_cons.mpr ⟨tbm 504 (by decide +kernel) rfl, List.forall_mem_cons.mpr ⟨tbm 35 (by decide +kernel) rfl, fun _ h => absurd h List.not_mem_nil⟩⟩⟩⟩
theorem lw_Law_47 : ∀ w ∈ ([.methodLink R_Law 47 y_Mod_goOn, .instanceMethod y_Mod_goOn, .selects y_Mod_goOn.cls y_Mod_goOn y_Mod_goOn, .initialized y_Mod_goOn.cls] : List Cond), w ∈ TB := List.forall_mem_cons.mpr ⟨tbm 755 (by decide +kernel) rfl, List.forall_mem_cons.mpr ⟨tbm 756 (by decide +kernel) rfl, List.forall_mem_cons.mpr ⟨tbm 757 (by decide +kernel) rfl, List.forall_mem_cons.mpr ⟨tbm 44 (by decide +kernel) rfl, fun _ h => absurd h List.not_mem_nil⟩⟩⟩⟩
theorem lw_Law_48 : ∀ w ∈ ([.methodLink R_Law 48 y_CS_truth, .instanceMethod y_CS_truth, .selects y_CS_truth.cls y_CS_truth y_CS_truth, .initialized y_CS_truth.cls] : List Cond), w ∈ TB := List.forall_mem_cons.mpr ⟨tbm 506 (by decide +kernel) rfl, List.forall_mem_cons.mpr ⟨tbm 507 (by decide +kernel) rfl, List.forall_mem_cons.mpr ⟨tbm 508 (by decide +kernel) rfl, List.forall_mem_cons.mpr ⟨tbm 35 (by decide +kernel) rfl, fun _ h => absurd h List.not_mem_nil⟩⟩⟩⟩
theorem lw_Law_52 : ∀ w ∈ ([.methodLink R_Law 52 y_Mod_truth, .instanceMethod y_Mod_truth, .selects y_Mod_truth.cls y_Mod_truth y_Mod_truth, .initialized y_Mod_truth.cls] : List Cond), w ∈ TB := List.forall_mem_cons.mpr ⟨tbm 759 (by decide +kernel) rfl, List.forall_mem_cons.mpr ⟨tbm 760 (by decide +kernel) rfl, List.forall_mem_cons.mpr ⟨tbm 761 (by decide +kernel) rfl, List.forall_mem_cons.mpr ⟨tbm 44 (by decide +kernel) rfl, fun _ h => absurd h List.not_mem_nil⟩⟩⟩⟩
theorem lw_Law_53 : ∀ w ∈ ([.methodLink R_Law 53 y_CS_block, .instanceMethod y_CS_block, .selects y_CS_block.cls y_CS_block y_CS_block, .initialized y_CS_block.cls] : List Cond), w ∈ TB := List.forall_mem_cons.mpr ⟨tbm 511 (by decide +kernel) rfl, List.forall_mem_cons.mpr ⟨tbm 512 (by decide +kernel) rfl, List.forall_mem_cons.mpr ⟨tbm 513 (by decide +kernel) rfl, List.forall_mem_cons.mpr ⟨tbm 35 (by decide +kernel) rfl, fun _ h => absurd h List.not_mem_nil⟩⟩⟩⟩
theorem lw_Law_57 : ∀ w ∈ ([.methodLink R_Law 57 y_Mod_block, .instanceMethod y_Mod_block, .selects y_Mod_block.cls y_Mod_block y_Mod_block, .initialized y_Mod_block.cls] : List Cond), w ∈ TB := List.forall_mem_cons.mpr ⟨tbm 763 (by decide +kernel) rfl, List.forall_mem_cons.mpr ⟨tbm 764 (by decide +kernel) rfl, List.forall_mem_cons.mpr ⟨tbm 765 (by decide +kernel) rfl, List.forall_mem_cons.mpr ⟨tbm 44 (by decide +kernel) rfl, fun _ h => absurd h List.not_mem_nil⟩⟩⟩⟩
theorem lw_Law_58 : ∀ w ∈ ([.methodLink R_Law 58 y_CS_assume, .instanceMethod y_CS_assume, .selects y_CS_assume.cls y_CS_assume y_CS_assume, .initialized y_CS_assume.cls] : List Cond), w ∈ TB := List.forall_mem_cons.mpr ⟨tbm 516 (by decide +kernel) rfl, List.forall_mem_cons.mpr ⟨tbm 517 (by decide +kernel) rfl, List.forall_mem_cons.mpr ⟨tbm 518 (by decide +kernel) rfl, List.forall_mem_cons.mpr ⟨tbm 35 (by decide +kernel) rfl, fun _ h => absurd h List.not_mem_nil⟩⟩⟩⟩
theorem lw_Law_62 : ∀ w ∈ ([.methodLink R_Law 62 y_Mod_assume, .instanceMethod y_Mod_assume, .selects y_Mod_assume.cls y_Mod_assume y_Mod_assume, .initialized y_Mod_assume.cls] : List Cond), w ∈ TB := List.forall_mem_cons.mpr ⟨tbm 767 (by decide +kernel) rfl, List.forall_mem_cons.mpr ⟨tbm 768 (by decide +kernel) rfl, List.forall_mem_cons.mpr ⟨tbm 769 (by decide +kernel) rfl, List.forall_mem_cons.mpr ⟨tbm 44 (by decide +kernel) rfl, fun _ h => absurd h List.not_mem_nil⟩⟩⟩⟩
theorem lw_Law_63 : ∀ w ∈ ([.methodLink R_Law 63 y_CS_freely, .instanceMethod y_CS_freely, .selects y_CS_freely.cls y_CS_freely y_CS_freely, .initialized y_CS_freely.cls] : List Cond), w ∈ TB := List.forall_mem_cons.mpr ⟨tbm 533 (by decide +kernel) rfl, List.forall_mem_cons.mpr ⟨tbm 534 (by decide +kernel) rfl, List.forall_mem_cons.mpr ⟨tbm 535 (by decide +kernel) rfl, List.forall_mem_cons.mpr ⟨tbm 35 (by decide +kernel) rfl, fun _ h => absurd h List.not_mem_nil⟩⟩⟩⟩
theorem lw_Law_66 : ∀ w ∈ ([.methodLink R_Law 66 y_Mod_freely, .instanceMethod y_Mod_freely, .selects y_Mod_freely.cls y_Mod_freely y_Mod_freely, .initialized y_Mod_freely.cls] : List Cond), w ∈ TB := List.forall_mem_cons.mpr ⟨tbm 771 (by decide +kernel) rfl, List.forall_mem_cons.mpr ⟨tbm 772 (by decide +kernel) rfl, List.forall_mem_cons.mpr ⟨tbm 773 (by decide +kernel) rfl, List.forall_mem_cons.mpr ⟨tbm 44 (by decide +kernel) rfl, fun _ h => absurd h List.not_mem_nil⟩⟩⟩⟩
theorem lw_Law_67 : ∀ w ∈ ([.methodLink R_Law 67 y_CS_core, .instanceMethod y_CS_core, .selects y_CS_core.cls y_CS_core y_CS_core, .initialized y_CS_core.cls] : List Cond), w ∈ TB := List.forall_mem_cons.mpr ⟨tbm 541 (by decide +kernel) rfl, List.forall_mem_cons.mpr ⟨tbm 542 (by decide +kernel) rfl, List.forall_mem_cons.mpr ⟨tbm 543 (by decide +kernel) rfl, List.forall_mem_cons.mpr ⟨tbm 35 (by decide +kernel) rfl, fun _ h => absurd h List.not_mem_nil⟩⟩⟩⟩
theorem lw_Law_71 : ∀ w ∈ ([.methodLink R_Law 71 y_Mod_core, .instanceMethod y_Mod_core, .selects y_Mod_core.cls y_Mod_core y_Mod_core, .initialized y_Mod_core.cls] : List Cond), w ∈ TB := List.forall_mem_cons.mpr ⟨tbm 775 (by decide +kernel) rfl, List.forall_mem_cons.mpr ⟨tbm 776 (by decide +kernel) rfl, List.forall_mem_cons.mpr ⟨tbm 777 (by decide +kernel) rfl, List.forall_mem_cons.mpr ⟨tbm 44 (by decide +kernel) rfl, fun _ h => absurd h List.not_mem_nil⟩⟩⟩⟩
theorem lw_Law_72 : ∀ w ∈ ([.methodLink R_Law 72 y_CS_rows, .instanceMethod y_CS_rows, .selects y_CS_rows.cls y_CS_rows y_CS_rows, .initialized y_CS_rows.cls] : List Cond), w ∈ TB := List.forall_mem_cons.mpr ⟨tbm 549 (by decide +kernel) rfl, List.forall_mem_cons.mpr ⟨tbm 550 (by decide +kernel) rfl, List.forall_mem_cons.mpr ⟨tbm 551 (by decide +kernel) rfl, List.forall_mem_cons.mpr ⟨tbm 35 (by decide +kernel) rfl, fun _ h => absurd h List.not_mem_nil⟩⟩⟩⟩
theorem lw_Law_75 : ∀ w ∈ ([.methodLink R_Law 75 y_Mod_rows, .instanceMethod y_Mod_rows, .selects y_Mod_rows.cls y_Mod_rows y_Mod_rows, .initialized y_Mod_rows.cls] : List Cond), w ∈ TB := List.forall_mem_cons.mpr ⟨tbm 779 (by decide +kernel) rfl, List.forall_mem_cons.mpr ⟨tbm 780 (by decide +kernel) rfl, List.forall_mem_cons.mpr ⟨tbm 781 (by decide +kernel) rfl, List.forall_mem_cons.mpr ⟨tbm 44 (by decide +kernel) rfl, fun _ h => absurd h List.not_mem_nil⟩⟩⟩⟩
theorem lw_Law_76 : ∀ w ∈ ([.methodLink R_Law 76 y_CS_row, .instanceMethod y_CS_row, .selects y_CS_row.cls y_CS_row y_CS_row, .initialized y_CS_row.cls] : List Cond), w ∈ TB := List.forall_mem_cons.mpr ⟨tbm 553 (by decide +kernel) rfl, List.forall_mem_cons.mpr ⟨tbm 554 (by decide +kernel) rfl, List.forall_mem_cons.mpr ⟨tbm 555 (by decide +kernel) rfl, List.forall_mem_cons.mpr ⟨tbm 35 (by decide +kernel) rfl, fun _ h => absurd h List.not_mem_nil⟩⟩⟩⟩
theorem lw_Law_80 : ∀ w ∈ ([.methodLink R_Law 80 y_Mod_row, .instanceMethod y_Mod_row, .selects y_Mod_row.cls y_Mod_row y_Mod_row, .initialized y_Mod_row.cls] : List Cond), w ∈ TB := List.forall_mem_cons.mpr ⟨tbm 783 (by decide +kernel) rfl, List.forall_mem_cons.mpr ⟨tbm 784 (by decide +kernel) rfl, List.forall_mem_cons.mpr ⟨tbm 785 (by decide +kernel) rfl, List.forall_mem_cons.mpr ⟨tbm 44 (by decide +kernel) rfl, fun _ h => absurd h List.not_mem_nil⟩⟩⟩⟩
theorem lw_Law_81 : ∀ w ∈ ([.methodLink R_Law 81 y_CS_numberOf, .instanceMethod y_CS_numberOf, .selects y_CS_numberOf.cls y_CS_numberOf y_CS_numberOf, .initialized y_CS_numberOf.cls] : List Cond), w ∈ TB := List.forall_mem_cons.mpr ⟨tbm 562 (by decide +kernel) rfl, List.forall_mem_cons.mpr ⟨tbm 563 (by decide +kernel) rfl, List.forall_mem_cons.mpr ⟨tbm 564 (by decide +kernel) rfl, List.forall_mem_cons.mpr ⟨tbm 35 (by decide +kernel) rfl, fun _ h => absurd h List.not_mem_nil⟩⟩⟩⟩
theorem lw_Law_84 : ∀ w ∈ ([.methodLink R_Law 84 y_Mod_numberOf, .instanceMethod y_Mod_numberOf, .selects y_Mod_numberOf.cls y_Mod_numberOf y_Mod_numberOf, .initialized y_Mod_numberOf.cls] : List Cond), w ∈ TB := List.forall_mem_cons.mpr ⟨tbm 787 (by decide +kernel) rfl, List.forall_mem_cons.mpr ⟨tbm 788 (by decide +kernel) rfl, List.forall_mem_cons.mpr ⟨tbm 789 (by decide +kernel) rfl, List.forall_mem_cons.mpr ⟨tbm 44 (by decide +kernel) rfl, fun _ h => absurd h List.not_mem_nil⟩⟩⟩⟩
theorem lw_Law_85 : ∀ w ∈ ([.methodLink R_Law 85 y_CS_used, .instanceMethod y_CS_used, .selects y_CS_used.cls y_CS_used y_CS_used, .initialized y_CS_used.cls] : List Cond), w ∈ TB := List.forall_mem_cons.mpr ⟨tbm 566 (by decide +kernel) rfl, List.forall_mem_cons.mpr ⟨tbm 567 (by decide +kernel) rfl, List.forall_mem_cons.mpr ⟨tbm 568 (by decide +kernel) rfl, List.forall_mem_cons.mpr ⟨tbm 35 (by decide +kernel) rfl, fun _ h => absurd h List.not_mem_nil⟩⟩⟩⟩
theorem lw_Law_89 : ∀ w ∈ ([.methodLink R_Law 89 y_Mod_used, .instanceMethod y_Mod_used, .selects y_Mod_used.cls y_Mod_used y_Mod_used, .initialized y_Mod_used.cls] : List Cond), w ∈ TB := List.forall_mem_cons.mpr ⟨tbm 791 (by decide +kernel) rfl, List.forall_mem_cons.mpr ⟨tbm 792 (by decide +kernel) rfl, List.forall_mem_cons.mpr ⟨tbm 793 (by decide +kernel) rfl, List.forall_mem_cons.mpr ⟨tbm 44 (by decide +kernel) rfl, fun _ h => absurd h List.not_mem_nil⟩⟩⟩⟩
theorem lw_Law_90 : ∀ w ∈ ([.methodLink R_Law 90 y_CS_state, .instanceMethod y_CS_state, .selects y_CS_state.cls y_CS_state y_CS_state, .initialized y_CS_state.cls] : List Cond), w ∈ TB := List.forall_mem_cons.mpr ⟨tbm 570 (by decide +kernel) rfl, List.forall_mem_cons.mpr ⟨tbm 571 (by decide +kernel) rfl, List.forall_mem_cons.mpr ⟨tbm 572 (by decide +kernel) rfl, List.forall_mem_cons.mpr ⟨tbm 35 (by decide +kernel) rfl, fun _ h => absurd h List.not_mem_nil⟩⟩⟩⟩
theorem lw_Law_93 : ∀ w ∈ ([.methodLink R_Law 93 y_Mod_state, .instanceMethod y_Mod_state, .selects y_Mod_state.cls y_Mod_state y_Mod_state, .initialized y_Mod_state.cls] : List Cond), w ∈ TB := List.forall_mem_cons.mpr ⟨tbm 795 (by decide +kernel) rfl, List.forall_mem_cons.mpr ⟨tbm 796 (by decide +kernel) rfl, List.forall_mem_cons.mpr ⟨tbm 797 (by decide +kernel) rfl, List.forall_mem_cons.mpr ⟨tbm 44 (by decide +kernel) rfl, fun _ h => absurd h List.not_mem_nil⟩⟩⟩⟩
theorem lw_Law_94 : ∀ w ∈ ([.methodLink R_Law 94 y_CS_clauses, .instanceMethod y_CS_clauses, .selects y_CS_clauses.cls y_CS_clauses y_CS_clauses, .initialized y_CS_clauses.cls] : List Cond), w ∈ TB := List.forall_mem_cons.mpr ⟨tbm 574 (by decide +kernel) rfl, List.forall_mem_cons.mpr ⟨tbm 575 (by decide +kernel) rfl, List.forall_mem_cons.mpr ⟨tbm 576 (by decide +kernel) rfl, List.forall_mem_cons.mpr ⟨tbm 35 (by decide +kernel) rfl, fun _ h => absurd h List.not_mem_nil⟩⟩⟩⟩
theorem lw_Law_97 : ∀ w ∈ ([.methodLink R_Law 97 y_Mod_clauses, .instanceMethod y_Mod_clauses, .selects y_Mod_clauses.cls y_Mod_clauses y_Mod_clauses, .initialized y_Mod_clauses.cls] : List Cond), w ∈ TB := List.forall_mem_cons.mpr ⟨tbm 799 (by decide +kernel) rfl, List.forall_mem_cons.mpr ⟨tbm 800 (by decide +kernel) rfl, List.forall_mem_cons.mpr ⟨tbm 801 (by decide +kernel) rfl, List.forall_mem_cons.mpr ⟨tbm 44 (by decide +kernel) rfl, fun _ h => absurd h List.not_mem_nil⟩⟩⟩⟩
theorem lc_Law_36 : Cond.constantLong R_Law 36 (4294967295 : Int64) ∈ TB := tbm 803 (by decide +kernel) rfl
theorem le_Law_7 : Cond.classLink R_Law 7 R_CS ∈ TB ∧ Cond.instantiable R_CS 8 ∈ TB ∧ Cond.initialized R_CS ∈ TB := ⟨tbm 47 (by decide +kernel) rfl, tbm 48 (by decide +kernel) rfl, tbm 35 (by decide +kernel) rfl⟩
theorem le_Law_18 : Cond.classLink R_Law 18 R_Mod ∈ TB ∧ Cond.instantiable R_Mod 27 ∈ TB ∧ Cond.initialized R_Mod ∈ TB := ⟨tbm 581 (by decide +kernel) rfl, tbm 582 (by decide +kernel) rfl, tbm 44 (by decide +kernel) rfl⟩
theorem lcell_9 : Cond.methodLink R_Law 9 y_Law_cell ∈ TB ∧ Cond.static y_Law_cell ∈ TB ∧ Cond.initialized y_Law_cell.cls ∈ TB := ⟨tbm 578 (by decide +kernel) rfl, tbm 579 (by decide +kernel) rfl, tbm 34 (by decide +kernel) rfl⟩
theorem d_Law_law_0 : decode code 0 = .ok (.new 7, 3) := by decide +kernel
theorem d_Law_law_3 : decode code 3 = .ok (.dup, 1) := by decide +kernel
theorem d_Law_law_4 : decode code 4 = .ok (.aload_n 0, 1) := by decide +kernel
theorem d_Law_law_5 : decode code 5 = .ok (.iconst 0, 1) := by decide +kernel
theorem d_Law_law_6 : decode code 6 = .ok (.invokestatic 9, 3) := by decide +kernel
theorem d_Law_law_9 : decode code 9 = .ok (.invokespecial 15, 3) := by decide +kernel
theorem d_Law_law_12 : decode code 12 = .ok (.astore_n 1, 1) := by decide +kernel
theorem d_Law_law_13 : decode code 13 = .ok (.new 18, 3) := by decide +kernel
theorem d_Law_law_16 : decode code 16 = .ok (.dup, 1) := by decide +kernel
theorem d_Law_law_17 : decode code 17 = .ok (.aload_n 0, 1) := by decide +kernel
theorem d_Law_law_18 : decode code 18 = .ok (.iconst 0, 1) := by decide +kernel
theorem d_Law_law_19 : decode code 19 = .ok (.invokestatic 9, 3) := by decide +kernel
theorem d_Law_law_22 : decode code 22 = .ok (.invokespecial 20, 3) := by decide +kernel
theorem d_Law_law_25 : decode code 25 = .ok (.astore_n 2, 1) := by decide +kernel
theorem d_Law_law_26 : decode code 26 = .ok (.iconst 1, 1) := by decide +kernel
theorem d_Law_law_27 : decode code 27 = .ok (.istore_n 3, 1) := by decide +kernel
theorem d_Law_law_28 : decode code 28 = .ok (.iload_n 3, 1) := by decide +kernel
theorem d_Law_law_29 : decode code 29 = .ok (.aload_n 0, 1) := by decide +kernel
theorem d_Law_law_30 : decode code 30 = .ok (.arraylength, 1) := by decide +kernel
theorem d_Law_law_31 : decode code 31 = .ok (.iconst 4, 1) := by decide +kernel
theorem d_Law_law_32 : decode code 32 = .ok (.isub, 1) := by decide +kernel
theorem d_Law_law_33 : decode code 33 = .ok (.if_icmp .gt 541, 3) := by decide +kernel
theorem d_Law_law_36 : decode code 36 = .ok (.aload_n 0, 1) := by decide +kernel
theorem d_Law_law_37 : decode code 37 = .ok (.iload_n 3, 1) := by decide +kernel
theorem d_Law_law_38 : decode code 38 = .ok (.iaload, 1) := by decide +kernel
theorem d_Law_law_39 : decode code 39 = .ok (.bipush 15, 2) := by decide +kernel
theorem d_Law_law_41 : decode code 41 = .ok (.iand, 1) := by decide +kernel
theorem d_Law_law_42 : decode code 42 = .ok (.tableswitch 526 0 15 #[78, 91, 150, 193, 246, 299, 322, 335, 384, 395, 418, 431, 464, 487, 500, 513], 78) := by decide +kernel
theorem d_Law_law_120 : decode code 120 = .ok (.aload_n 1, 1) := by decide +kernel
theorem d_Law_law_121 : decode code 121 = .ok (.invokevirtual 21, 3) := by decide +kernel
theorem d_Law_law_124 : decode code 124 = .ok (.pop, 1) := by decide +kernel
theorem d_Law_law_125 : decode code 125 = .ok (.aload_n 2, 1) := by decide +kernel
theorem d_Law_law_126 : decode code 126 = .ok (.invokevirtual 25, 3) := by decide +kernel
theorem d_Law_law_129 : decode code 129 = .ok (.pop, 1) := by decide +kernel
theorem d_Law_law_130 : decode code 130 = .ok (.goto 438, 3) := by decide +kernel
theorem d_Law_law_133 : decode code 133 = .ok (.aload_n 1, 1) := by decide +kernel
theorem d_Law_law_134 : decode code 134 = .ok (.aload_n 0, 1) := by decide +kernel
theorem d_Law_law_135 : decode code 135 = .ok (.iload_n 3, 1) := by decide +kernel
theorem d_Law_law_136 : decode code 136 = .ok (.iconst 1, 1) := by decide +kernel
theorem d_Law_law_137 : decode code 137 = .ok (.iadd, 1) := by decide +kernel
theorem d_Law_law_138 : decode code 138 = .ok (.iaload, 1) := by decide +kernel
theorem d_Law_law_139 : decode code 139 = .ok (.aload_n 0, 1) := by decide +kernel
theorem d_Law_law_140 : decode code 140 = .ok (.iload_n 3, 1) := by decide +kernel
theorem d_Law_law_141 : decode code 141 = .ok (.iconst 2, 1) := by decide +kernel
theorem d_Law_law_142 : decode code 142 = .ok (.iadd, 1) := by decide +kernel
theorem d_Law_law_143 : decode code 143 = .ok (.iaload, 1) := by decide +kernel
theorem d_Law_law_144 : decode code 144 = .ok (.aload_n 0, 1) := by decide +kernel
theorem d_Law_law_145 : decode code 145 = .ok (.iload_n 3, 1) := by decide +kernel
theorem d_Law_law_146 : decode code 146 = .ok (.iconst 3, 1) := by decide +kernel
theorem d_Law_law_147 : decode code 147 = .ok (.iadd, 1) := by decide +kernel
theorem d_Law_law_148 : decode code 148 = .ok (.iaload, 1) := by decide +kernel
theorem d_Law_law_149 : decode code 149 = .ok (.ifCond .eq 7, 3) := by decide +kernel
theorem d_Law_law_152 : decode code 152 = .ok (.iconst 1, 1) := by decide +kernel
theorem d_Law_law_153 : decode code 153 = .ok (.goto 4, 3) := by decide +kernel
theorem d_Law_law_156 : decode code 156 = .ok (.iconst 0, 1) := by decide +kernel
theorem d_Law_law_157 : decode code 157 = .ok (.invokevirtual 26, 3) := by decide +kernel
theorem d_Law_law_160 : decode code 160 = .ok (.pop, 1) := by decide +kernel
theorem d_Law_law_161 : decode code 161 = .ok (.aload_n 2, 1) := by decide +kernel
theorem d_Law_law_162 : decode code 162 = .ok (.aload_n 0, 1) := by decide +kernel
theorem d_Law_law_163 : decode code 163 = .ok (.iload_n 3, 1) := by decide +kernel
theorem d_Law_law_164 : decode code 164 = .ok (.iconst 1, 1) := by decide +kernel
theorem d_Law_law_165 : decode code 165 = .ok (.iadd, 1) := by decide +kernel
theorem d_Law_law_166 : decode code 166 = .ok (.iaload, 1) := by decide +kernel
theorem d_Law_law_167 : decode code 167 = .ok (.aload_n 0, 1) := by decide +kernel
theorem d_Law_law_168 : decode code 168 = .ok (.iload_n 3, 1) := by decide +kernel
theorem d_Law_law_169 : decode code 169 = .ok (.iconst 2, 1) := by decide +kernel
theorem d_Law_law_170 : decode code 170 = .ok (.iadd, 1) := by decide +kernel
theorem d_Law_law_171 : decode code 171 = .ok (.iaload, 1) := by decide +kernel
theorem d_Law_law_172 : decode code 172 = .ok (.aload_n 0, 1) := by decide +kernel
theorem d_Law_law_173 : decode code 173 = .ok (.iload_n 3, 1) := by decide +kernel
theorem d_Law_law_174 : decode code 174 = .ok (.iconst 3, 1) := by decide +kernel
theorem d_Law_law_175 : decode code 175 = .ok (.iadd, 1) := by decide +kernel
theorem d_Law_law_176 : decode code 176 = .ok (.iaload, 1) := by decide +kernel
theorem d_Law_law_177 : decode code 177 = .ok (.ifCond .eq 7, 3) := by decide +kernel
theorem d_Law_law_180 : decode code 180 = .ok (.iconst 1, 1) := by decide +kernel
theorem d_Law_law_181 : decode code 181 = .ok (.goto 4, 3) := by decide +kernel
theorem d_Law_law_184 : decode code 184 = .ok (.iconst 0, 1) := by decide +kernel
theorem d_Law_law_185 : decode code 185 = .ok (.invokevirtual 30, 3) := by decide +kernel
theorem d_Law_law_188 : decode code 188 = .ok (.pop, 1) := by decide +kernel
theorem d_Law_law_189 : decode code 189 = .ok (.goto 379, 3) := by decide +kernel
theorem d_Law_law_192 : decode code 192 = .ok (.aload_n 1, 1) := by decide +kernel
theorem d_Law_law_193 : decode code 193 = .ok (.aload_n 0, 1) := by decide +kernel
theorem d_Law_law_194 : decode code 194 = .ok (.iload_n 3, 1) := by decide +kernel
theorem d_Law_law_195 : decode code 195 = .ok (.iconst 1, 1) := by decide +kernel
theorem d_Law_law_196 : decode code 196 = .ok (.iadd, 1) := by decide +kernel
theorem d_Law_law_197 : decode code 197 = .ok (.iaload, 1) := by decide +kernel
theorem d_Law_law_198 : decode code 198 = .ok (.aload_n 0, 1) := by decide +kernel
theorem d_Law_law_199 : decode code 199 = .ok (.iload_n 3, 1) := by decide +kernel
theorem d_Law_law_200 : decode code 200 = .ok (.iconst 2, 1) := by decide +kernel
theorem d_Law_law_201 : decode code 201 = .ok (.iadd, 1) := by decide +kernel
theorem d_Law_law_202 : decode code 202 = .ok (.iaload, 1) := by decide +kernel
theorem d_Law_law_203 : decode code 203 = .ok (.aload_n 0, 1) := by decide +kernel
theorem d_Law_law_204 : decode code 204 = .ok (.iload_n 3, 1) := by decide +kernel
theorem d_Law_law_205 : decode code 205 = .ok (.iconst 3, 1) := by decide +kernel
theorem d_Law_law_206 : decode code 206 = .ok (.iadd, 1) := by decide +kernel
theorem d_Law_law_207 : decode code 207 = .ok (.iaload, 1) := by decide +kernel
theorem d_Law_law_208 : decode code 208 = .ok (.invokevirtual 31, 3) := by decide +kernel
theorem d_Law_law_211 : decode code 211 = .ok (.pop, 1) := by decide +kernel
theorem d_Law_law_212 : decode code 212 = .ok (.aload_n 2, 1) := by decide +kernel
theorem d_Law_law_213 : decode code 213 = .ok (.aload_n 0, 1) := by decide +kernel
theorem d_Law_law_214 : decode code 214 = .ok (.iload_n 3, 1) := by decide +kernel
theorem d_Law_law_215 : decode code 215 = .ok (.iconst 1, 1) := by decide +kernel
theorem d_Law_law_216 : decode code 216 = .ok (.iadd, 1) := by decide +kernel
theorem d_Law_law_217 : decode code 217 = .ok (.iaload, 1) := by decide +kernel
theorem d_Law_law_218 : decode code 218 = .ok (.aload_n 0, 1) := by decide +kernel
theorem d_Law_law_219 : decode code 219 = .ok (.iload_n 3, 1) := by decide +kernel
theorem d_Law_law_220 : decode code 220 = .ok (.iconst 2, 1) := by decide +kernel
theorem d_Law_law_221 : decode code 221 = .ok (.iadd, 1) := by decide +kernel
theorem d_Law_law_222 : decode code 222 = .ok (.iaload, 1) := by decide +kernel
theorem d_Law_law_223 : decode code 223 = .ok (.aload_n 0, 1) := by decide +kernel
theorem d_Law_law_224 : decode code 224 = .ok (.iload_n 3, 1) := by decide +kernel
theorem d_Law_law_225 : decode code 225 = .ok (.iconst 3, 1) := by decide +kernel
theorem d_Law_law_226 : decode code 226 = .ok (.iadd, 1) := by decide +kernel
theorem d_Law_law_227 : decode code 227 = .ok (.iaload, 1) := by decide +kernel
theorem d_Law_law_228 : decode code 228 = .ok (.invokevirtual 35, 3) := by decide +kernel
theorem d_Law_law_231 : decode code 231 = .ok (.pop, 1) := by decide +kernel
theorem d_Law_law_232 : decode code 232 = .ok (.goto 336, 3) := by decide +kernel
theorem d_Law_law_235 : decode code 235 = .ok (.aload_n 1, 1) := by decide +kernel
theorem d_Law_law_236 : decode code 236 = .ok (.aload_n 0, 1) := by decide +kernel
theorem d_Law_law_237 : decode code 237 = .ok (.iload_n 3, 1) := by decide +kernel
theorem d_Law_law_238 : decode code 238 = .ok (.iconst 1, 1) := by decide +kernel
theorem d_Law_law_239 : decode code 239 = .ok (.iadd, 1) := by decide +kernel
theorem d_Law_law_240 : decode code 240 = .ok (.iaload, 1) := by decide +kernel
theorem d_Law_law_241 : decode code 241 = .ok (.i2l, 1) := by decide +kernel
theorem d_Law_law_242 : decode code 242 = .ok (.bipush 32, 2) := by decide +kernel
theorem d_Law_law_244 : decode code 244 = .ok (.lshl, 1) := by decide +kernel
theorem d_Law_law_245 : decode code 245 = .ok (.aload_n 0, 1) := by decide +kernel
theorem d_Law_law_246 : decode code 246 = .ok (.iload_n 3, 1) := by decide +kernel
theorem d_Law_law_247 : decode code 247 = .ok (.iconst 2, 1) := by decide +kernel
theorem d_Law_law_248 : decode code 248 = .ok (.iadd, 1) := by decide +kernel
theorem d_Law_law_249 : decode code 249 = .ok (.iaload, 1) := by decide +kernel
theorem d_Law_law_250 : decode code 250 = .ok (.i2l, 1) := by decide +kernel
theorem d_Law_law_251 : decode code 251 = .ok (.ldc2_w 36, 3) := by decide +kernel
theorem d_Law_law_254 : decode code 254 = .ok (.land, 1) := by decide +kernel
theorem d_Law_law_255 : decode code 255 = .ok (.lor, 1) := by decide +kernel
theorem d_Law_law_256 : decode code 256 = .ok (.invokevirtual 38, 3) := by decide +kernel
theorem d_Law_law_259 : decode code 259 = .ok (.pop, 1) := by decide +kernel
theorem d_Law_law_260 : decode code 260 = .ok (.aload_n 2, 1) := by decide +kernel
theorem d_Law_law_261 : decode code 261 = .ok (.aload_n 0, 1) := by decide +kernel
theorem d_Law_law_262 : decode code 262 = .ok (.iload_n 3, 1) := by decide +kernel
theorem d_Law_law_263 : decode code 263 = .ok (.iconst 1, 1) := by decide +kernel
theorem d_Law_law_264 : decode code 264 = .ok (.iadd, 1) := by decide +kernel
theorem d_Law_law_265 : decode code 265 = .ok (.iaload, 1) := by decide +kernel
theorem d_Law_law_266 : decode code 266 = .ok (.i2l, 1) := by decide +kernel
theorem d_Law_law_267 : decode code 267 = .ok (.bipush 32, 2) := by decide +kernel
theorem d_Law_law_269 : decode code 269 = .ok (.lshl, 1) := by decide +kernel
theorem d_Law_law_270 : decode code 270 = .ok (.aload_n 0, 1) := by decide +kernel
theorem d_Law_law_271 : decode code 271 = .ok (.iload_n 3, 1) := by decide +kernel
theorem d_Law_law_272 : decode code 272 = .ok (.iconst 2, 1) := by decide +kernel
theorem d_Law_law_273 : decode code 273 = .ok (.iadd, 1) := by decide +kernel
theorem d_Law_law_274 : decode code 274 = .ok (.iaload, 1) := by decide +kernel
theorem d_Law_law_275 : decode code 275 = .ok (.i2l, 1) := by decide +kernel
theorem d_Law_law_276 : decode code 276 = .ok (.ldc2_w 36, 3) := by decide +kernel
theorem d_Law_law_279 : decode code 279 = .ok (.land, 1) := by decide +kernel
theorem d_Law_law_280 : decode code 280 = .ok (.lor, 1) := by decide +kernel
theorem d_Law_law_281 : decode code 281 = .ok (.invokevirtual 42, 3) := by decide +kernel
theorem d_Law_law_284 : decode code 284 = .ok (.pop, 1) := by decide +kernel
theorem d_Law_law_285 : decode code 285 = .ok (.goto 283, 3) := by decide +kernel
theorem d_Law_law_288 : decode code 288 = .ok (.aload_n 1, 1) := by decide +kernel
theorem d_Law_law_289 : decode code 289 = .ok (.aload_n 0, 1) := by decide +kernel
theorem d_Law_law_290 : decode code 290 = .ok (.iload_n 3, 1) := by decide +kernel
theorem d_Law_law_291 : decode code 291 = .ok (.iconst 1, 1) := by decide +kernel
theorem d_Law_law_292 : decode code 292 = .ok (.iadd, 1) := by decide +kernel
theorem d_Law_law_293 : decode code 293 = .ok (.iaload, 1) := by decide +kernel
theorem d_Law_law_294 : decode code 294 = .ok (.i2l, 1) := by decide +kernel
theorem d_Law_law_295 : decode code 295 = .ok (.bipush 32, 2) := by decide +kernel
theorem d_Law_law_297 : decode code 297 = .ok (.lshl, 1) := by decide +kernel
theorem d_Law_law_298 : decode code 298 = .ok (.aload_n 0, 1) := by decide +kernel
theorem d_Law_law_299 : decode code 299 = .ok (.iload_n 3, 1) := by decide +kernel
theorem d_Law_law_300 : decode code 300 = .ok (.iconst 2, 1) := by decide +kernel
theorem d_Law_law_301 : decode code 301 = .ok (.iadd, 1) := by decide +kernel
theorem d_Law_law_302 : decode code 302 = .ok (.iaload, 1) := by decide +kernel
theorem d_Law_law_303 : decode code 303 = .ok (.i2l, 1) := by decide +kernel
theorem d_Law_law_304 : decode code 304 = .ok (.ldc2_w 36, 3) := by decide +kernel
theorem d_Law_law_307 : decode code 307 = .ok (.land, 1) := by decide +kernel
theorem d_Law_law_308 : decode code 308 = .ok (.lor, 1) := by decide +kernel
theorem d_Law_law_309 : decode code 309 = .ok (.invokevirtual 43, 3) := by decide +kernel
theorem d_Law_law_312 : decode code 312 = .ok (.pop, 1) := by decide +kernel
theorem d_Law_law_313 : decode code 313 = .ok (.aload_n 2, 1) := by decide +kernel
theorem d_Law_law_314 : decode code 314 = .ok (.aload_n 0, 1) := by decide +kernel
theorem d_Law_law_315 : decode code 315 = .ok (.iload_n 3, 1) := by decide +kernel
theorem d_Law_law_316 : decode code 316 = .ok (.iconst 1, 1) := by decide +kernel
theorem d_Law_law_317 : decode code 317 = .ok (.iadd, 1) := by decide +kernel
theorem d_Law_law_318 : decode code 318 = .ok (.iaload, 1) := by decide +kernel
theorem d_Law_law_319 : decode code 319 = .ok (.i2l, 1) := by decide +kernel
theorem d_Law_law_320 : decode code 320 = .ok (.bipush 32, 2) := by decide +kernel
theorem d_Law_law_322 : decode code 322 = .ok (.lshl, 1) := by decide +kernel
theorem d_Law_law_323 : decode code 323 = .ok (.aload_n 0, 1) := by decide +kernel
theorem d_Law_law_324 : decode code 324 = .ok (.iload_n 3, 1) := by decide +kernel
theorem d_Law_law_325 : decode code 325 = .ok (.iconst 2, 1) := by decide +kernel
theorem d_Law_law_326 : decode code 326 = .ok (.iadd, 1) := by decide +kernel
theorem d_Law_law_327 : decode code 327 = .ok (.iaload, 1) := by decide +kernel
theorem d_Law_law_328 : decode code 328 = .ok (.i2l, 1) := by decide +kernel
theorem d_Law_law_329 : decode code 329 = .ok (.ldc2_w 36, 3) := by decide +kernel
theorem d_Law_law_332 : decode code 332 = .ok (.land, 1) := by decide +kernel
theorem d_Law_law_333 : decode code 333 = .ok (.lor, 1) := by decide +kernel
theorem d_Law_law_334 : decode code 334 = .ok (.invokevirtual 47, 3) := by decide +kernel
theorem d_Law_law_337 : decode code 337 = .ok (.pop, 1) := by decide +kernel
theorem d_Law_law_338 : decode code 338 = .ok (.goto 230, 3) := by decide +kernel
theorem d_Law_law_341 : decode code 341 = .ok (.aload_n 1, 1) := by decide +kernel
theorem d_Law_law_342 : decode code 342 = .ok (.aload_n 0, 1) := by decide +kernel
theorem d_Law_law_343 : decode code 343 = .ok (.iload_n 3, 1) := by decide +kernel
theorem d_Law_law_344 : decode code 344 = .ok (.iconst 1, 1) := by decide +kernel
theorem d_Law_law_345 : decode code 345 = .ok (.iadd, 1) := by decide +kernel
theorem d_Law_law_346 : decode code 346 = .ok (.iaload, 1) := by decide +kernel
theorem d_Law_law_347 : decode code 347 = .ok (.invokevirtual 48, 3) := by decide +kernel
theorem d_Law_law_350 : decode code 350 = .ok (.pop, 1) := by decide +kernel
theorem d_Law_law_351 : decode code 351 = .ok (.aload_n 2, 1) := by decide +kernel
theorem d_Law_law_352 : decode code 352 = .ok (.aload_n 0, 1) := by decide +kernel
theorem d_Law_law_353 : decode code 353 = .ok (.iload_n 3, 1) := by decide +kernel
theorem d_Law_law_354 : decode code 354 = .ok (.iconst 1, 1) := by decide +kernel
theorem d_Law_law_355 : decode code 355 = .ok (.iadd, 1) := by decide +kernel
theorem d_Law_law_356 : decode code 356 = .ok (.iaload, 1) := by decide +kernel
theorem d_Law_law_357 : decode code 357 = .ok (.invokevirtual 52, 3) := by decide +kernel
theorem d_Law_law_360 : decode code 360 = .ok (.pop, 1) := by decide +kernel
theorem d_Law_law_361 : decode code 361 = .ok (.goto 207, 3) := by decide +kernel
theorem d_Law_law_364 : decode code 364 = .ok (.aload_n 1, 1) := by decide +kernel
theorem d_Law_law_365 : decode code 365 = .ok (.invokevirtual 53, 3) := by decide +kernel
theorem d_Law_law_368 : decode code 368 = .ok (.pop, 1) := by decide +kernel
theorem d_Law_law_369 : decode code 369 = .ok (.aload_n 2, 1) := by decide +kernel
theorem d_Law_law_370 : decode code 370 = .ok (.invokevirtual 57, 3) := by decide +kernel
theorem d_Law_law_373 : decode code 373 = .ok (.pop, 1) := by decide +kernel
theorem d_Law_law_374 : decode code 374 = .ok (.goto 194, 3) := by decide +kernel
theorem d_Law_law_377 : decode code 377 = .ok (.aload_n 1, 1) := by decide +kernel
theorem d_Law_law_378 : decode code 378 = .ok (.aload_n 0, 1) := by decide +kernel
theorem d_Law_law_379 : decode code 379 = .ok (.iload_n 3, 1) := by decide +kernel
theorem d_Law_law_380 : decode code 380 = .ok (.iconst 1, 1) := by decide +kernel
theorem d_Law_law_381 : decode code 381 = .ok (.iadd, 1) := by decide +kernel
theorem d_Law_law_382 : decode code 382 = .ok (.iaload, 1) := by decide +kernel
theorem d_Law_law_383 : decode code 383 = .ok (.aload_n 0, 1) := by decide +kernel
theorem d_Law_law_384 : decode code 384 = .ok (.iload_n 3, 1) := by decide +kernel
theorem d_Law_law_385 : decode code 385 = .ok (.iconst 2, 1) := by decide +kernel
theorem d_Law_law_386 : decode code 386 = .ok (.iadd, 1) := by decide +kernel
theorem d_Law_law_387 : decode code 387 = .ok (.iaload, 1) := by decide +kernel
theorem d_Law_law_388 : decode code 388 = .ok (.ifCond .eq 7, 3) := by decide +kernel
theorem d_Law_law_391 : decode code 391 = .ok (.iconst 1, 1) := by decide +kernel
theorem d_Law_law_392 : decode code 392 = .ok (.goto 4, 3) := by decide +kernel
theorem d_Law_law_395 : decode code 395 = .ok (.iconst 0, 1) := by decide +kernel
theorem d_Law_law_396 : decode code 396 = .ok (.invokevirtual 58, 3) := by decide +kernel
theorem d_Law_law_399 : decode code 399 = .ok (.aload_n 2, 1) := by decide +kernel
theorem d_Law_law_400 : decode code 400 = .ok (.aload_n 0, 1) := by decide +kernel
theorem d_Law_law_401 : decode code 401 = .ok (.iload_n 3, 1) := by decide +kernel
theorem d_Law_law_402 : decode code 402 = .ok (.iconst 1, 1) := by decide +kernel
theorem d_Law_law_403 : decode code 403 = .ok (.iadd, 1) := by decide +kernel
theorem d_Law_law_404 : decode code 404 = .ok (.iaload, 1) := by decide +kernel
theorem d_Law_law_405 : decode code 405 = .ok (.aload_n 0, 1) := by decide +kernel
theorem d_Law_law_406 : decode code 406 = .ok (.iload_n 3, 1) := by decide +kernel
theorem d_Law_law_407 : decode code 407 = .ok (.iconst 2, 1) := by decide +kernel
theorem d_Law_law_408 : decode code 408 = .ok (.iadd, 1) := by decide +kernel
theorem d_Law_law_409 : decode code 409 = .ok (.iaload, 1) := by decide +kernel
theorem d_Law_law_410 : decode code 410 = .ok (.ifCond .eq 7, 3) := by decide +kernel
theorem d_Law_law_413 : decode code 413 = .ok (.iconst 1, 1) := by decide +kernel
theorem d_Law_law_414 : decode code 414 = .ok (.goto 4, 3) := by decide +kernel
theorem d_Law_law_417 : decode code 417 = .ok (.iconst 0, 1) := by decide +kernel
theorem d_Law_law_418 : decode code 418 = .ok (.invokevirtual 62, 3) := by decide +kernel
theorem d_Law_law_421 : decode code 421 = .ok (.if_icmp .eq 147, 3) := by decide +kernel
theorem d_Law_law_424 : decode code 424 = .ok (.iconst 0, 1) := by decide +kernel
theorem d_Law_law_425 : decode code 425 = .ok (.ireturn, 1) := by decide +kernel
theorem d_Law_law_426 : decode code 426 = .ok (.aload_n 1, 1) := by decide +kernel
theorem d_Law_law_427 : decode code 427 = .ok (.invokevirtual 63, 3) := by decide +kernel
theorem d_Law_law_430 : decode code 430 = .ok (.aload_n 2, 1) := by decide +kernel
theorem d_Law_law_431 : decode code 431 = .ok (.invokevirtual 66, 3) := by decide +kernel
theorem d_Law_law_434 : decode code 434 = .ok (.goto 134, 3) := by decide +kernel
theorem d_Law_law_437 : decode code 437 = .ok (.aload_n 1, 1) := by decide +kernel
theorem d_Law_law_438 : decode code 438 = .ok (.aload_n 0, 1) := by decide +kernel
theorem d_Law_law_439 : decode code 439 = .ok (.iload_n 3, 1) := by decide +kernel
theorem d_Law_law_440 : decode code 440 = .ok (.iconst 1, 1) := by decide +kernel
theorem d_Law_law_441 : decode code 441 = .ok (.iadd, 1) := by decide +kernel
theorem d_Law_law_442 : decode code 442 = .ok (.iaload, 1) := by decide +kernel
theorem d_Law_law_443 : decode code 443 = .ok (.invokevirtual 67, 3) := by decide +kernel
theorem d_Law_law_446 : decode code 446 = .ok (.pop, 1) := by decide +kernel
theorem d_Law_law_447 : decode code 447 = .ok (.aload_n 2, 1) := by decide +kernel
theorem d_Law_law_448 : decode code 448 = .ok (.aload_n 0, 1) := by decide +kernel
theorem d_Law_law_449 : decode code 449 = .ok (.iload_n 3, 1) := by decide +kernel
theorem d_Law_law_450 : decode code 450 = .ok (.iconst 1, 1) := by decide +kernel
theorem d_Law_law_451 : decode code 451 = .ok (.iadd, 1) := by decide +kernel
theorem d_Law_law_452 : decode code 452 = .ok (.iaload, 1) := by decide +kernel
theorem d_Law_law_453 : decode code 453 = .ok (.invokevirtual 71, 3) := by decide +kernel
theorem d_Law_law_456 : decode code 456 = .ok (.pop, 1) := by decide +kernel
theorem d_Law_law_457 : decode code 457 = .ok (.goto 111, 3) := by decide +kernel
theorem d_Law_law_460 : decode code 460 = .ok (.aload_n 1, 1) := by decide +kernel
theorem d_Law_law_461 : decode code 461 = .ok (.invokevirtual 72, 3) := by decide +kernel
theorem d_Law_law_464 : decode code 464 = .ok (.pop, 1) := by decide +kernel
theorem d_Law_law_465 : decode code 465 = .ok (.aload_n 2, 1) := by decide +kernel
theorem d_Law_law_466 : decode code 466 = .ok (.invokevirtual 75, 3) := by decide +kernel
theorem d_Law_law_469 : decode code 469 = .ok (.pop, 1) := by decide +kernel
theorem d_Law_law_470 : decode code 470 = .ok (.goto 98, 3) := by decide +kernel
theorem d_Law_law_473 : decode code 473 = .ok (.aload_n 1, 1) := by decide +kernel
theorem d_Law_law_474 : decode code 474 = .ok (.aload_n 0, 1) := by decide +kernel
theorem d_Law_law_475 : decode code 475 = .ok (.iload_n 3, 1) := by decide +kernel
theorem d_Law_law_476 : decode code 476 = .ok (.iconst 1, 1) := by decide +kernel
theorem d_Law_law_477 : decode code 477 = .ok (.iadd, 1) := by decide +kernel
theorem d_Law_law_478 : decode code 478 = .ok (.iaload, 1) := by decide +kernel
theorem d_Law_law_479 : decode code 479 = .ok (.aload_n 0, 1) := by decide +kernel
theorem d_Law_law_480 : decode code 480 = .ok (.iload_n 3, 1) := by decide +kernel
theorem d_Law_law_481 : decode code 481 = .ok (.iconst 2, 1) := by decide +kernel
theorem d_Law_law_482 : decode code 482 = .ok (.iadd, 1) := by decide +kernel
theorem d_Law_law_483 : decode code 483 = .ok (.iaload, 1) := by decide +kernel
theorem d_Law_law_484 : decode code 484 = .ok (.invokevirtual 76, 3) := by decide +kernel
theorem d_Law_law_487 : decode code 487 = .ok (.pop, 1) := by decide +kernel
theorem d_Law_law_488 : decode code 488 = .ok (.aload_n 2, 1) := by decide +kernel
theorem d_Law_law_489 : decode code 489 = .ok (.aload_n 0, 1) := by decide +kernel
theorem d_Law_law_490 : decode code 490 = .ok (.iload_n 3, 1) := by decide +kernel
theorem d_Law_law_491 : decode code 491 = .ok (.iconst 1, 1) := by decide +kernel
theorem d_Law_law_492 : decode code 492 = .ok (.iadd, 1) := by decide +kernel
theorem d_Law_law_493 : decode code 493 = .ok (.iaload, 1) := by decide +kernel
theorem d_Law_law_494 : decode code 494 = .ok (.aload_n 0, 1) := by decide +kernel
theorem d_Law_law_495 : decode code 495 = .ok (.iload_n 3, 1) := by decide +kernel
theorem d_Law_law_496 : decode code 496 = .ok (.iconst 2, 1) := by decide +kernel
theorem d_Law_law_497 : decode code 497 = .ok (.iadd, 1) := by decide +kernel
theorem d_Law_law_498 : decode code 498 = .ok (.iaload, 1) := by decide +kernel
theorem d_Law_law_499 : decode code 499 = .ok (.invokevirtual 80, 3) := by decide +kernel
theorem d_Law_law_502 : decode code 502 = .ok (.pop, 1) := by decide +kernel
theorem d_Law_law_503 : decode code 503 = .ok (.goto 65, 3) := by decide +kernel
theorem d_Law_law_506 : decode code 506 = .ok (.aload_n 1, 1) := by decide +kernel
theorem d_Law_law_507 : decode code 507 = .ok (.aload_n 0, 1) := by decide +kernel
theorem d_Law_law_508 : decode code 508 = .ok (.iload_n 3, 1) := by decide +kernel
theorem d_Law_law_509 : decode code 509 = .ok (.iconst 1, 1) := by decide +kernel
theorem d_Law_law_510 : decode code 510 = .ok (.iadd, 1) := by decide +kernel
theorem d_Law_law_511 : decode code 511 = .ok (.iaload, 1) := by decide +kernel
theorem d_Law_law_512 : decode code 512 = .ok (.invokevirtual 81, 3) := by decide +kernel
theorem d_Law_law_515 : decode code 515 = .ok (.pop, 1) := by decide +kernel
theorem d_Law_law_516 : decode code 516 = .ok (.aload_n 2, 1) := by decide +kernel
theorem d_Law_law_517 : decode code 517 = .ok (.aload_n 0, 1) := by decide +kernel
theorem d_Law_law_518 : decode code 518 = .ok (.iload_n 3, 1) := by decide +kernel
theorem d_Law_law_519 : decode code 519 = .ok (.iconst 1, 1) := by decide +kernel
theorem d_Law_law_520 : decode code 520 = .ok (.iadd, 1) := by decide +kernel
theorem d_Law_law_521 : decode code 521 = .ok (.iaload, 1) := by decide +kernel
theorem d_Law_law_522 : decode code 522 = .ok (.invokevirtual 84, 3) := by decide +kernel
theorem d_Law_law_525 : decode code 525 = .ok (.pop, 1) := by decide +kernel
theorem d_Law_law_526 : decode code 526 = .ok (.goto 42, 3) := by decide +kernel
theorem d_Law_law_529 : decode code 529 = .ok (.aload_n 1, 1) := by decide +kernel
theorem d_Law_law_530 : decode code 530 = .ok (.invokevirtual 85, 3) := by decide +kernel
theorem d_Law_law_533 : decode code 533 = .ok (.pop2, 1) := by decide +kernel
theorem d_Law_law_534 : decode code 534 = .ok (.aload_n 2, 1) := by decide +kernel
theorem d_Law_law_535 : decode code 535 = .ok (.invokevirtual 89, 3) := by decide +kernel
theorem d_Law_law_538 : decode code 538 = .ok (.pop2, 1) := by decide +kernel
theorem d_Law_law_539 : decode code 539 = .ok (.goto 29, 3) := by decide +kernel
theorem d_Law_law_542 : decode code 542 = .ok (.aload_n 1, 1) := by decide +kernel
theorem d_Law_law_543 : decode code 543 = .ok (.invokevirtual 90, 3) := by decide +kernel
theorem d_Law_law_546 : decode code 546 = .ok (.pop, 1) := by decide +kernel
theorem d_Law_law_547 : decode code 547 = .ok (.aload_n 2, 1) := by decide +kernel
theorem d_Law_law_548 : decode code 548 = .ok (.invokevirtual 93, 3) := by decide +kernel
theorem d_Law_law_551 : decode code 551 = .ok (.pop, 1) := by decide +kernel
theorem d_Law_law_552 : decode code 552 = .ok (.goto 16, 3) := by decide +kernel
theorem d_Law_law_555 : decode code 555 = .ok (.aload_n 1, 1) := by decide +kernel
theorem d_Law_law_556 : decode code 556 = .ok (.invokevirtual 94, 3) := by decide +kernel
theorem d_Law_law_559 : decode code 559 = .ok (.pop, 1) := by decide +kernel
theorem d_Law_law_560 : decode code 560 = .ok (.aload_n 2, 1) := by decide +kernel
theorem d_Law_law_561 : decode code 561 = .ok (.invokevirtual 97, 3) := by decide +kernel
theorem d_Law_law_564 : decode code 564 = .ok (.pop, 1) := by decide +kernel
theorem d_Law_law_565 : decode code 565 = .ok (.goto 3, 3) := by decide +kernel
theorem d_Law_law_568 : decode code 568 = .ok (.iinc 3 4, 3) := by decide +kernel
theorem d_Law_law_571 : decode code 571 = .ok (.goto (-543), 3) := by decide +kernel
theorem d_Law_law_574 : decode code 574 = .ok (.iconst 1, 1) := by decide +kernel
theorem d_Law_law_575 : decode code 575 = .ok (.ireturn, 1) := by decide +kernel
theorem d_Law_cell_0 : decode b_Law_cell 0 = .ok (.iload_n 1, 1) := by decide +kernel
theorem d_Law_cell_1 : decode b_Law_cell 1 = .ok (.aload_n 0, 1) := by decide +kernel
theorem d_Law_cell_2 : decode b_Law_cell 2 = .ok (.arraylength, 1) := by decide +kernel
theorem d_Law_cell_3 : decode b_Law_cell 3 = .ok (.if_icmp .ge 9, 3) := by decide +kernel
theorem d_Law_cell_6 : decode b_Law_cell 6 = .ok (.aload_n 0, 1) := by decide +kernel
theorem d_Law_cell_7 : decode b_Law_cell 7 = .ok (.iload_n 1, 1) := by decide +kernel
theorem d_Law_cell_8 : decode b_Law_cell 8 = .ok (.iaload, 1) := by decide +kernel
theorem d_Law_cell_9 : decode b_Law_cell 9 = .ok (.goto 4, 3) := by decide +kernel
theorem d_Law_cell_12 : decode b_Law_cell 12 = .ok (.iconst 0, 1) := by decide +kernel
theorem d_Law_cell_13 : decode b_Law_cell 13 = .ok (.ireturn, 1) := by decide +kernel
