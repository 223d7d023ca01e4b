theorem d_Mod_numberOf_0 : decode b_Mod_numberOf 0 = .ok (.aload_n 0, 1) := by decide +kernel
theorem d_Mod_numberOf_1 : decode b_Mod_numberOf 1 = .ok (.iconst 0, 1) := by decide +kernel
theorem d_Mod_numberOf_2 : decode b_Mod_numberOf 2 = .ok (.putfield 7, 3) := by decide +kernel
theorem d_Mod_numberOf_5 : decode b_Mod_numberOf 5 = .ok (.iload_n 1, 1) := by decide +kernel
theorem d_Mod_numberOf_6 : decode b_Mod_numberOf 6 = .ok (.ifCond .lt 11, 3) := by decide +kernel
theorem d_Mod_numberOf_9 : decode b_Mod_numberOf 9 = .ok (.iload_n 1, 1) := by decide +kernel
theorem d_Mod_numberOf_10 : decode b_Mod_numberOf 10 = .ok (.aload_n 0, 1) := by decide +kernel
theorem d_Mod_numberOf_11 : decode b_Mod_numberOf 11 = .ok (.getfield 30, 3) := by decide +kernel
theorem d_Mod_numberOf_14 : decode b_Mod_numberOf 14 = .ok (.if_icmp .lt 7, 3) := by decide +kernel
theorem d_Mod_numberOf_17 : decode b_Mod_numberOf 17 = .ok (.iconst (-1), 1) := by decide +kernel
theorem d_Mod_numberOf_18 : decode b_Mod_numberOf 18 = .ok (.goto 9, 3) := by decide +kernel
theorem d_Mod_numberOf_21 : decode b_Mod_numberOf 21 = .ok (.aload_n 0, 1) := by decide +kernel
theorem d_Mod_numberOf_22 : decode b_Mod_numberOf 22 = .ok (.getfield 33, 3) := by decide +kernel
theorem d_Mod_numberOf_25 : decode b_Mod_numberOf 25 = .ok (.iload_n 1, 1) := by decide +kernel
theorem d_Mod_numberOf_26 : decode b_Mod_numberOf 26 = .ok (.iaload, 1) := by decide +kernel
theorem d_Mod_numberOf_27 : decode b_Mod_numberOf 27 = .ok (.ireturn, 1) := by decide +kernel
theorem d_Mod_used_0 : decode b_Mod_used 0 = .ok (.aload_n 0, 1) := by decide +kernel
theorem d_Mod_used_1 : decode b_Mod_used 1 = .ok (.iconst 0, 1) := by decide +kernel
theorem d_Mod_used_2 : decode b_Mod_used 2 = .ok (.putfield 7, 3) := by decide +kernel
theorem d_Mod_used_5 : decode b_Mod_used 5 = .ok (.aload_n 0, 1) := by decide +kernel
theorem d_Mod_used_6 : decode b_Mod_used 6 = .ok (.getfield 89, 3) := by decide +kernel
theorem d_Mod_used_9 : decode b_Mod_used 9 = .ok (.lreturn, 1) := by decide +kernel
theorem d_Mod_state_0 : decode b_Mod_state 0 = .ok (.aload_n 0, 1) := by decide +kernel
theorem d_Mod_state_1 : decode b_Mod_state 1 = .ok (.iconst 0, 1) := by decide +kernel
theorem d_Mod_state_2 : decode b_Mod_state 2 = .ok (.putfield 7, 3) := by decide +kernel
theorem d_Mod_state_5 : decode b_Mod_state 5 = .ok (.aload_n 0, 1) := by decide +kernel
theorem d_Mod_state_6 : decode b_Mod_state 6 = .ok (.getfield 82, 3) := by decide +kernel
theorem d_Mod_state_9 : decode b_Mod_state 9 = .ok (.ireturn, 1) := by decide +kernel
theorem d_Mod_clauses_0 : decode b_Mod_clauses 0 = .ok (.aload_n 0, 1) := by decide +kernel
theorem d_Mod_clauses_1 : decode b_Mod_clauses 1 = .ok (.iconst 0, 1) := by decide +kernel
theorem d_Mod_clauses_2 : decode b_Mod_clauses 2 = .ok (.putfield 7, 3) := by decide +kernel
theorem d_Mod_clauses_5 : decode b_Mod_clauses 5 = .ok (.aload_n 0, 1) := by decide +kernel
theorem d_Mod_clauses_6 : decode b_Mod_clauses 6 = .ok (.getfield 27, 3) := by decide +kernel
theorem d_Mod_clauses_9 : decode b_Mod_clauses 9 = .ok (.ireturn, 1) := by decide +kernel
