theorem d_Mod_cut_0 : decode b_Mod_cut 0 = .ok (.aload_n 0, 1) := by decide +kernel
theorem d_Mod_cut_1 : decode b_Mod_cut 1 = .ok (.getfield 61, 3) := by decide +kernel
theorem d_Mod_cut_4 : decode b_Mod_cut 4 = .ok (.ifCond .le 51, 3) := by decide +kernel
theorem d_Mod_cut_7 : decode b_Mod_cut 7 = .ok (.aload_n 0, 1) := by decide +kernel
theorem d_Mod_cut_8 : decode b_Mod_cut 8 = .ok (.getfield 70, 3) := by decide +kernel
theorem d_Mod_cut_11 : decode b_Mod_cut 11 = .ok (.aload_n 0, 1) := by decide +kernel
theorem d_Mod_cut_12 : decode b_Mod_cut 12 = .ok (.getfield 64, 3) := by decide +kernel
theorem d_Mod_cut_15 : decode b_Mod_cut 15 = .ok (.aload_n 0, 1) := by decide +kernel
theorem d_Mod_cut_16 : decode b_Mod_cut 16 = .ok (.getfield 61, 3) := by decide +kernel
theorem d_Mod_cut_19 : decode b_Mod_cut 19 = .ok (.iconst 1, 1) := by decide +kernel
theorem d_Mod_cut_20 : decode b_Mod_cut 20 = .ok (.isub, 1) := by decide +kernel
theorem d_Mod_cut_21 : decode b_Mod_cut 21 = .ok (.iaload, 1) := by decide +kernel
theorem d_Mod_cut_22 : decode b_Mod_cut 22 = .ok (.iaload, 1) := by decide +kernel
theorem d_Mod_cut_23 : decode b_Mod_cut 23 = .ok (.iload_n 1, 1) := by decide +kernel
theorem d_Mod_cut_24 : decode b_Mod_cut 24 = .ok (.if_icmp .le 31, 3) := by decide +kernel
theorem d_Mod_cut_27 : decode b_Mod_cut 27 = .ok (.aload_n 0, 1) := by decide +kernel
theorem d_Mod_cut_28 : decode b_Mod_cut 28 = .ok (.dup, 1) := by decide +kernel
theorem d_Mod_cut_29 : decode b_Mod_cut 29 = .ok (.getfield 61, 3) := by decide +kernel
theorem d_Mod_cut_32 : decode b_Mod_cut 32 = .ok (.iconst 1, 1) := by decide +kernel
theorem d_Mod_cut_33 : decode b_Mod_cut 33 = .ok (.isub, 1) := by decide +kernel
theorem d_Mod_cut_34 : decode b_Mod_cut 34 = .ok (.putfield 61, 3) := by decide +kernel
theorem d_Mod_cut_37 : decode b_Mod_cut 37 = .ok (.aload_n 0, 1) := by decide +kernel
theorem d_Mod_cut_38 : decode b_Mod_cut 38 = .ok (.getfield 67, 3) := by decide +kernel
theorem d_Mod_cut_41 : decode b_Mod_cut 41 = .ok (.aload_n 0, 1) := by decide +kernel
theorem d_Mod_cut_42 : decode b_Mod_cut 42 = .ok (.getfield 64, 3) := by decide +kernel
theorem d_Mod_cut_45 : decode b_Mod_cut 45 = .ok (.aload_n 0, 1) := by decide +kernel
theorem d_Mod_cut_46 : decode b_Mod_cut 46 = .ok (.getfield 61, 3) := by decide +kernel
theorem d_Mod_cut_49 : decode b_Mod_cut 49 = .ok (.iaload, 1) := by decide +kernel
theorem d_Mod_cut_50 : decode b_Mod_cut 50 = .ok (.iconst 0, 1) := by decide +kernel
theorem d_Mod_cut_51 : decode b_Mod_cut 51 = .ok (.iastore, 1) := by decide +kernel
theorem d_Mod_cut_52 : decode b_Mod_cut 52 = .ok (.goto (-52), 3) := by decide +kernel
theorem d_Mod_cut_55 : decode b_Mod_cut 55 = .ok (.aload_n 0, 1) := by decide +kernel
theorem d_Mod_cut_56 : decode b_Mod_cut 56 = .ok (.iload_n 1, 1) := by decide +kernel
theorem d_Mod_cut_57 : decode b_Mod_cut 57 = .ok (.putfield 79, 3) := by decide +kernel
theorem d_Mod_cut_60 : decode b_Mod_cut 60 = .ok (.return_, 1) := by decide +kernel
theorem d_Mod_how_0 : decode b_Mod_how 0 = .ok (.iconst 0, 1) := by decide +kernel
theorem d_Mod_how_1 : decode b_Mod_how 1 = .ok (.istore_n 2, 1) := by decide +kernel
theorem d_Mod_how_2 : decode b_Mod_how 2 = .ok (.aload_n 0, 1) := by decide +kernel
theorem d_Mod_how_3 : decode b_Mod_how 3 = .ok (.getfield 20, 3) := by decide +kernel
theorem d_Mod_how_6 : decode b_Mod_how 6 = .ok (.iload_n 1, 1) := by decide +kernel
theorem d_Mod_how_7 : decode b_Mod_how 7 = .ok (.iaload, 1) := by decide +kernel
theorem d_Mod_how_8 : decode b_Mod_how 8 = .ok (.istore_n 3, 1) := by decide +kernel
theorem d_Mod_how_9 : decode b_Mod_how 9 = .ok (.iload_n 3, 1) := by decide +kernel
theorem d_Mod_how_10 : decode b_Mod_how 10 = .ok (.aload_n 0, 1) := by decide +kernel
theorem d_Mod_how_11 : decode b_Mod_how 11 = .ok (.getfield 20, 3) := by decide +kernel
theorem d_Mod_how_14 : decode b_Mod_how 14 = .ok (.iload_n 1, 1) := by decide +kernel
theorem d_Mod_how_15 : decode b_Mod_how 15 = .ok (.iconst 1, 1) := by decide +kernel
theorem d_Mod_how_16 : decode b_Mod_how 16 = .ok (.iadd, 1) := by decide +kernel
theorem d_Mod_how_17 : decode b_Mod_how 17 = .ok (.iaload, 1) := by decide +kernel
theorem d_Mod_how_18 : decode b_Mod_how 18 = .ok (.if_icmp .ge 40, 3) := by decide +kernel
theorem d_Mod_how_21 : decode b_Mod_how 21 = .ok (.aload_n 0, 1) := by decide +kernel
theorem d_Mod_how_22 : decode b_Mod_how 22 = .ok (.aload_n 0, 1) := by decide +kernel
theorem d_Mod_how_23 : decode b_Mod_how 23 = .ok (.getfield 16, 3) := by decide +kernel
theorem d_Mod_how_26 : decode b_Mod_how 26 = .ok (.iload_n 3, 1) := by decide +kernel
theorem d_Mod_how_27 : decode b_Mod_how 27 = .ok (.iaload, 1) := by decide +kernel
theorem d_Mod_how_28 : decode b_Mod_how 28 = .ok (.invokevirtual 95, 3) := by decide +kernel
theorem d_Mod_how_31 : decode b_Mod_how 31 = .ok (.ifCond .eq 5, 3) := by decide +kernel
theorem d_Mod_how_34 : decode b_Mod_how 34 = .ok (.iconst 0, 1) := by decide +kernel
theorem d_Mod_how_35 : decode b_Mod_how 35 = .ok (.ireturn, 1) := by decide +kernel
theorem d_Mod_how_36 : decode b_Mod_how 36 = .ok (.aload_n 0, 1) := by decide +kernel
theorem d_Mod_how_37 : decode b_Mod_how 37 = .ok (.aload_n 0, 1) := by decide +kernel
theorem d_Mod_how_38 : decode b_Mod_how 38 = .ok (.getfield 16, 3) := by decide +kernel
theorem d_Mod_how_41 : decode b_Mod_how 41 = .ok (.iload_n 3, 1) := by decide +kernel
theorem d_Mod_how_42 : decode b_Mod_how 42 = .ok (.iaload, 1) := by decide +kernel
theorem d_Mod_how_43 : decode b_Mod_how 43 = .ok (.invokevirtual 99, 3) := by decide +kernel
theorem d_Mod_how_46 : decode b_Mod_how 46 = .ok (.ifCond .ne 6, 3) := by decide +kernel
theorem d_Mod_how_49 : decode b_Mod_how 49 = .ok (.iinc 2 1, 3) := by decide +kernel
theorem d_Mod_how_52 : decode b_Mod_how 52 = .ok (.iinc 3 1, 3) := by decide +kernel
theorem d_Mod_how_55 : decode b_Mod_how 55 = .ok (.goto (-46), 3) := by decide +kernel
theorem d_Mod_how_58 : decode b_Mod_how 58 = .ok (.iload_n 2, 1) := by decide +kernel
theorem d_Mod_how_59 : decode b_Mod_how 59 = .ok (.ifCond .ne 7, 3) := by decide +kernel
theorem d_Mod_how_62 : decode b_Mod_how 62 = .ok (.iconst 2, 1) := by decide +kernel
theorem d_Mod_how_63 : decode b_Mod_how 63 = .ok (.goto 13, 3) := by decide +kernel
theorem d_Mod_how_66 : decode b_Mod_how 66 = .ok (.iload_n 2, 1) := by decide +kernel
theorem d_Mod_how_67 : decode b_Mod_how 67 = .ok (.iconst 1, 1) := by decide +kernel
theorem d_Mod_how_68 : decode b_Mod_how 68 = .ok (.if_icmp .ne 7, 3) := by decide +kernel
theorem d_Mod_how_71 : decode b_Mod_how 71 = .ok (.iconst 1, 1) := by decide +kernel
theorem d_Mod_how_72 : decode b_Mod_how 72 = .ok (.goto 4, 3) := by decide +kernel
theorem d_Mod_how_75 : decode b_Mod_how 75 = .ok (.iconst 0, 1) := by decide +kernel
theorem d_Mod_how_76 : decode b_Mod_how 76 = .ok (.ireturn, 1) := by decide +kernel
theorem d_Mod_step_0 : decode b_Mod_step 0 = .ok (.aload_n 0, 1) := by decide +kernel
theorem d_Mod_step_1 : decode b_Mod_step 1 = .ok (.getfield 85, 3) := by decide +kernel
theorem d_Mod_step_4 : decode b_Mod_step 4 = .ok (.lconst 0, 1) := by decide +kernel
theorem d_Mod_step_5 : decode b_Mod_step 5 = .ok (.lcmp, 1) := by decide +kernel
theorem d_Mod_step_6 : decode b_Mod_step 6 = .ok (.ifCond .gt 10, 3) := by decide +kernel
theorem d_Mod_step_9 : decode b_Mod_step 9 = .ok (.aload_n 0, 1) := by decide +kernel
theorem d_Mod_step_10 : decode b_Mod_step 10 = .ok (.iconst 3, 1) := by decide +kernel
theorem d_Mod_step_11 : decode b_Mod_step 11 = .ok (.putfield 82, 3) := by decide +kernel
theorem d_Mod_step_14 : decode b_Mod_step 14 = .ok (.iconst 0, 1) := by decide +kernel
theorem d_Mod_step_15 : decode b_Mod_step 15 = .ok (.ireturn, 1) := by decide +kernel
theorem d_Mod_step_16 : decode b_Mod_step 16 = .ok (.aload_n 0, 1) := by decide +kernel
theorem d_Mod_step_17 : decode b_Mod_step 17 = .ok (.dup, 1) := by decide +kernel
theorem d_Mod_step_18 : decode b_Mod_step 18 = .ok (.getfield 85, 3) := by decide +kernel
theorem d_Mod_step_21 : decode b_Mod_step 21 = .ok (.lconst 1, 1) := by decide +kernel
theorem d_Mod_step_22 : decode b_Mod_step 22 = .ok (.lsub, 1) := by decide +kernel
theorem d_Mod_step_23 : decode b_Mod_step 23 = .ok (.putfield 85, 3) := by decide +kernel
theorem d_Mod_step_26 : decode b_Mod_step 26 = .ok (.aload_n 0, 1) := by decide +kernel
theorem d_Mod_step_27 : decode b_Mod_step 27 = .ok (.dup, 1) := by decide +kernel
theorem d_Mod_step_28 : decode b_Mod_step 28 = .ok (.getfield 89, 3) := by decide +kernel
theorem d_Mod_step_31 : decode b_Mod_step 31 = .ok (.lconst 1, 1) := by decide +kernel
theorem d_Mod_step_32 : decode b_Mod_step 32 = .ok (.ladd, 1) := by decide +kernel
theorem d_Mod_step_33 : decode b_Mod_step 33 = .ok (.putfield 89, 3) := by decide +kernel
theorem d_Mod_step_36 : decode b_Mod_step 36 = .ok (.iconst 1, 1) := by decide +kernel
theorem d_Mod_step_37 : decode b_Mod_step 37 = .ok (.ireturn, 1) := by decide +kernel
theorem d_Mod_last_0 : decode b_Mod_last 0 = .ok (.iconst (-1), 1) := by decide +kernel
theorem d_Mod_last_1 : decode b_Mod_last 1 = .ok (.istore_n 1, 1) := by decide +kernel
theorem d_Mod_last_2 : decode b_Mod_last 2 = .ok (.iconst 0, 1) := by decide +kernel
theorem d_Mod_last_3 : decode b_Mod_last 3 = .ok (.istore_n 2, 1) := by decide +kernel
theorem d_Mod_last_4 : decode b_Mod_last 4 = .ok (.iconst 0, 1) := by decide +kernel
theorem d_Mod_last_5 : decode b_Mod_last 5 = .ok (.istore_n 3, 1) := by decide +kernel
theorem d_Mod_last_6 : decode b_Mod_last 6 = .ok (.iload_n 3, 1) := by decide +kernel
theorem d_Mod_last_7 : decode b_Mod_last 7 = .ok (.iconst 2, 1) := by decide +kernel
theorem d_Mod_last_8 : decode b_Mod_last 8 = .ok (.aload_n 0, 1) := by decide +kernel
theorem d_Mod_last_9 : decode b_Mod_last 9 = .ok (.getfield 13, 3) := by decide +kernel
theorem d_Mod_last_12 : decode b_Mod_last 12 = .ok (.imul, 1) := by decide +kernel
theorem d_Mod_last_13 : decode b_Mod_last 13 = .ok (.if_icmp .ge 61, 3) := by decide +kernel
theorem d_Mod_last_16 : decode b_Mod_last 16 = .ok (.aload_n 0, 1) := by decide +kernel
theorem d_Mod_last_17 : decode b_Mod_last 17 = .ok (.getfield 92, 3) := by decide +kernel
theorem d_Mod_last_20 : decode b_Mod_last 20 = .ok (.iload_n 3, 1) := by decide +kernel
theorem d_Mod_last_21 : decode b_Mod_last 21 = .ok (.baload, 1) := by decide +kernel
theorem d_Mod_last_22 : decode b_Mod_last 22 = .ok (.ifCond .eq 46, 3) := by decide +kernel
theorem d_Mod_last_25 : decode b_Mod_last 25 = .ok (.aload_n 0, 1) := by decide +kernel
theorem d_Mod_last_26 : decode b_Mod_last 26 = .ok (.getfield 70, 3) := by decide +kernel
theorem d_Mod_last_29 : decode b_Mod_last 29 = .ok (.iload_n 3, 1) := by decide +kernel
theorem d_Mod_last_30 : decode b_Mod_last 30 = .ok (.iconst 2, 1) := by decide +kernel
theorem d_Mod_last_31 : decode b_Mod_last 31 = .ok (.idiv, 1) := by decide +kernel
theorem d_Mod_last_32 : decode b_Mod_last 32 = .ok (.iaload, 1) := by decide +kernel
theorem d_Mod_last_33 : decode b_Mod_last 33 = .ok (.aload_n 0, 1) := by decide +kernel
theorem d_Mod_last_34 : decode b_Mod_last 34 = .ok (.getfield 79, 3) := by decide +kernel
theorem d_Mod_last_37 : decode b_Mod_last 37 = .ok (.if_icmp .ne 31, 3) := by decide +kernel
theorem d_Mod_last_40 : decode b_Mod_last 40 = .ok (.iinc 2 1, 3) := by decide +kernel
theorem d_Mod_last_43 : decode b_Mod_last 43 = .ok (.iload_n 1, 1) := by decide +kernel
theorem d_Mod_last_44 : decode b_Mod_last 44 = .ok (.ifCond .lt 22, 3) := by decide +kernel
theorem d_Mod_last_47 : decode b_Mod_last 47 = .ok (.aload_n 0, 1) := by decide +kernel
theorem d_Mod_last_48 : decode b_Mod_last 48 = .ok (.getfield 76, 3) := by decide +kernel
theorem d_Mod_last_51 : decode b_Mod_last 51 = .ok (.iload_n 3, 1) := by decide +kernel
theorem d_Mod_last_52 : decode b_Mod_last 52 = .ok (.iconst 2, 1) := by decide +kernel
theorem d_Mod_last_53 : decode b_Mod_last 53 = .ok (.idiv, 1) := by decide +kernel
theorem d_Mod_last_54 : decode b_Mod_last 54 = .ok (.iaload, 1) := by decide +kernel
theorem d_Mod_last_55 : decode b_Mod_last 55 = .ok (.aload_n 0, 1) := by decide +kernel
theorem d_Mod_last_56 : decode b_Mod_last 56 = .ok (.getfield 76, 3) := by decide +kernel
theorem d_Mod_last_59 : decode b_Mod_last 59 = .ok (.iload_n 1, 1) := by decide +kernel
theorem d_Mod_last_60 : decode b_Mod_last 60 = .ok (.iconst 2, 1) := by decide +kernel
theorem d_Mod_last_61 : decode b_Mod_last 61 = .ok (.idiv, 1) := by decide +kernel
theorem d_Mod_last_62 : decode b_Mod_last 62 = .ok (.iaload, 1) := by decide +kernel
theorem d_Mod_last_63 : decode b_Mod_last 63 = .ok (.if_icmp .le 5, 3) := by decide +kernel
theorem d_Mod_last_66 : decode b_Mod_last 66 = .ok (.iload_n 3, 1) := by decide +kernel
theorem d_Mod_last_67 : decode b_Mod_last 67 = .ok (.istore_n 1, 1) := by decide +kernel
theorem d_Mod_last_68 : decode b_Mod_last 68 = .ok (.iinc 3 1, 3) := by decide +kernel
theorem d_Mod_last_71 : decode b_Mod_last 71 = .ok (.goto (-65), 3) := by decide +kernel
theorem d_Mod_last_74 : decode b_Mod_last 74 = .ok (.iload_n 2, 1) := by decide +kernel
theorem d_Mod_last_75 : decode b_Mod_last 75 = .ok (.iconst 1, 1) := by decide +kernel
theorem d_Mod_last_76 : decode b_Mod_last 76 = .ok (.if_icmp .le 7, 3) := by decide +kernel
theorem d_Mod_last_79 : decode b_Mod_last 79 = .ok (.iload_n 1, 1) := by decide +kernel
theorem d_Mod_last_80 : decode b_Mod_last 80 = .ok (.goto 4, 3) := by decide +kernel
theorem d_Mod_last_83 : decode b_Mod_last 83 = .ok (.iconst (-1), 1) := by decide +kernel
theorem d_Mod_last_84 : decode b_Mod_last 84 = .ok (.ireturn, 1) := by decide +kernel
theorem d_Mod_mix_0 : decode b_Mod_mix 0 = .ok (.aload_n 0, 1) := by decide +kernel
theorem d_Mod_mix_1 : decode b_Mod_mix 1 = .ok (.getfield 20, 3) := by decide +kernel
theorem d_Mod_mix_4 : decode b_Mod_mix 4 = .ok (.iload_n 1, 1) := by decide +kernel
theorem d_Mod_mix_5 : decode b_Mod_mix 5 = .ok (.iaload, 1) := by decide +kernel
theorem d_Mod_mix_6 : decode b_Mod_mix 6 = .ok (.istore_n 2, 1) := by decide +kernel
theorem d_Mod_mix_7 : decode b_Mod_mix 7 = .ok (.iload_n 2, 1) := by decide +kernel
theorem d_Mod_mix_8 : decode b_Mod_mix 8 = .ok (.aload_n 0, 1) := by decide +kernel
theorem d_Mod_mix_9 : decode b_Mod_mix 9 = .ok (.getfield 20, 3) := by decide +kernel
theorem d_Mod_mix_12 : decode b_Mod_mix 12 = .ok (.iload_n 1, 1) := by decide +kernel
theorem d_Mod_mix_13 : decode b_Mod_mix 13 = .ok (.iconst 1, 1) := by decide +kernel
theorem d_Mod_mix_14 : decode b_Mod_mix 14 = .ok (.iadd, 1) := by decide +kernel
theorem d_Mod_mix_15 : decode b_Mod_mix 15 = .ok (.iaload, 1) := by decide +kernel
theorem d_Mod_mix_16 : decode b_Mod_mix 16 = .ok (.if_icmp .ge 21, 3) := by decide +kernel
theorem d_Mod_mix_19 : decode b_Mod_mix 19 = .ok (.aload_n 0, 1) := by decide +kernel
theorem d_Mod_mix_20 : decode b_Mod_mix 20 = .ok (.getfield 92, 3) := by decide +kernel
theorem d_Mod_mix_23 : decode b_Mod_mix 23 = .ok (.aload_n 0, 1) := by decide +kernel
theorem d_Mod_mix_24 : decode b_Mod_mix 24 = .ok (.getfield 16, 3) := by decide +kernel
theorem d_Mod_mix_27 : decode b_Mod_mix 27 = .ok (.iload_n 2, 1) := by decide +kernel
theorem d_Mod_mix_28 : decode b_Mod_mix 28 = .ok (.iaload, 1) := by decide +kernel
theorem d_Mod_mix_29 : decode b_Mod_mix 29 = .ok (.iconst 1, 1) := by decide +kernel
theorem d_Mod_mix_30 : decode b_Mod_mix 30 = .ok (.bastore, 1) := by decide +kernel
theorem d_Mod_mix_31 : decode b_Mod_mix 31 = .ok (.iinc 2 1, 3) := by decide +kernel
theorem d_Mod_mix_34 : decode b_Mod_mix 34 = .ok (.goto (-27), 3) := by decide +kernel
theorem d_Mod_mix_37 : decode b_Mod_mix 37 = .ok (.return_, 1) := by decide +kernel
theorem d_Mod_learns_0 : decode b_Mod_learns 0 = .ok (.iconst 0, 1) := by decide +kernel
theorem d_Mod_learns_1 : decode b_Mod_learns 1 = .ok (.istore_n 2, 1) := by decide +kernel
theorem d_Mod_learns_2 : decode b_Mod_learns 2 = .ok (.iload_n 2, 1) := by decide +kernel
theorem d_Mod_learns_3 : decode b_Mod_learns 3 = .ok (.sipush 600, 3) := by decide +kernel
theorem d_Mod_learns_6 : decode b_Mod_learns 6 = .ok (.if_icmp .ge 16, 3) := by decide +kernel
theorem d_Mod_learns_9 : decode b_Mod_learns 9 = .ok (.aload_n 0, 1) := by decide +kernel
theorem d_Mod_learns_10 : decode b_Mod_learns 10 = .ok (.getfield 92, 3) := by decide +kernel
theorem d_Mod_learns_13 : decode b_Mod_learns 13 = .ok (.iload_n 2, 1) := by decide +kernel
theorem d_Mod_learns_14 : decode b_Mod_learns 14 = .ok (.iconst 0, 1) := by decide +kernel
theorem d_Mod_learns_15 : decode b_Mod_learns 15 = .ok (.bastore, 1) := by decide +kernel
theorem d_Mod_learns_16 : decode b_Mod_learns 16 = .ok (.iinc 2 1, 3) := by decide +kernel
theorem d_Mod_learns_19 : decode b_Mod_learns 19 = .ok (.goto (-17), 3) := by decide +kernel
theorem d_Mod_learns_22 : decode b_Mod_learns 22 = .ok (.aload_n 0, 1) := by decide +kernel
theorem d_Mod_learns_23 : decode b_Mod_learns 23 = .ok (.iload_n 1, 1) := by decide +kernel
theorem d_Mod_learns_24 : decode b_Mod_learns 24 = .ok (.invokevirtual 102, 3) := by decide +kernel
theorem d_Mod_learns_27 : decode b_Mod_learns 27 = .ok (.aload_n 0, 1) := by decide +kernel
theorem d_Mod_learns_28 : decode b_Mod_learns 28 = .ok (.invokevirtual 106, 3) := by decide +kernel
theorem d_Mod_learns_31 : decode b_Mod_learns 31 = .ok (.istore_n 2, 1) := by decide +kernel
theorem d_Mod_learns_32 : decode b_Mod_learns 32 = .ok (.iload_n 2, 1) := by decide +kernel
theorem d_Mod_learns_33 : decode b_Mod_learns 33 = .ok (.ifCond .lt 39, 3) := by decide +kernel
theorem d_Mod_learns_36 : decode b_Mod_learns 36 = .ok (.aload_n 0, 1) := by decide +kernel
theorem d_Mod_learns_37 : decode b_Mod_learns 37 = .ok (.aload_n 0, 1) := by decide +kernel
theorem d_Mod_learns_38 : decode b_Mod_learns 38 = .ok (.getfield 73, 3) := by decide +kernel
theorem d_Mod_learns_41 : decode b_Mod_learns 41 = .ok (.iload_n 2, 1) := by decide +kernel
theorem d_Mod_learns_42 : decode b_Mod_learns 42 = .ok (.iconst 2, 1) := by decide +kernel
theorem d_Mod_learns_43 : decode b_Mod_learns 43 = .ok (.idiv, 1) := by decide +kernel
theorem d_Mod_learns_44 : decode b_Mod_learns 44 = .ok (.iaload, 1) := by decide +kernel
theorem d_Mod_learns_45 : decode b_Mod_learns 45 = .ok (.invokevirtual 102, 3) := by decide +kernel
theorem d_Mod_learns_48 : decode b_Mod_learns 48 = .ok (.aload_n 0, 1) := by decide +kernel
theorem d_Mod_learns_49 : decode b_Mod_learns 49 = .ok (.getfield 92, 3) := by decide +kernel
theorem d_Mod_learns_52 : decode b_Mod_learns 52 = .ok (.iload_n 2, 1) := by decide +kernel
theorem d_Mod_learns_53 : decode b_Mod_learns 53 = .ok (.iconst 0, 1) := by decide +kernel
theorem d_Mod_learns_54 : decode b_Mod_learns 54 = .ok (.bastore, 1) := by decide +kernel
theorem d_Mod_learns_55 : decode b_Mod_learns 55 = .ok (.aload_n 0, 1) := by decide +kernel
theorem d_Mod_learns_56 : decode b_Mod_learns 56 = .ok (.getfield 92, 3) := by decide +kernel
theorem d_Mod_learns_59 : decode b_Mod_learns 59 = .ok (.iload_n 2, 1) := by decide +kernel
theorem d_Mod_learns_60 : decode b_Mod_learns 60 = .ok (.iconst 1, 1) := by decide +kernel
theorem d_Mod_learns_61 : decode b_Mod_learns 61 = .ok (.ixor, 1) := by decide +kernel
theorem d_Mod_learns_62 : decode b_Mod_learns 62 = .ok (.iconst 0, 1) := by decide +kernel
theorem d_Mod_learns_63 : decode b_Mod_learns 63 = .ok (.bastore, 1) := by decide +kernel
theorem d_Mod_learns_64 : decode b_Mod_learns 64 = .ok (.aload_n 0, 1) := by decide +kernel
theorem d_Mod_learns_65 : decode b_Mod_learns 65 = .ok (.invokevirtual 106, 3) := by decide +kernel
theorem d_Mod_learns_68 : decode b_Mod_learns 68 = .ok (.istore_n 2, 1) := by decide +kernel
theorem d_Mod_learns_69 : decode b_Mod_learns 69 = .ok (.goto (-37), 3) := by decide +kernel
theorem d_Mod_learns_72 : decode b_Mod_learns 72 = .ok (.iconst 0, 1) := by decide +kernel
theorem d_Mod_learns_73 : decode b_Mod_learns 73 = .ok (.istore_n 2, 1) := by decide +kernel
theorem d_Mod_learns_74 : decode b_Mod_learns 74 = .ok (.iconst (-1), 1) := by decide +kernel
theorem d_Mod_learns_75 : decode b_Mod_learns 75 = .ok (.istore_n 3, 1) := by decide +kernel
theorem d_Mod_learns_76 : decode b_Mod_learns 76 = .ok (.iconst 0, 1) := by decide +kernel
theorem d_Mod_learns_77 : decode b_Mod_learns 77 = .ok (.istore 4, 2) := by decide +kernel
theorem d_Mod_learns_79 : decode b_Mod_learns 79 = .ok (.iconst 0, 1) := by decide +kernel
theorem d_Mod_learns_80 : decode b_Mod_learns 80 = .ok (.istore 5, 2) := by decide +kernel
theorem d_Mod_learns_82 : decode b_Mod_learns 82 = .ok (.iload 5, 2) := by decide +kernel
theorem d_Mod_learns_84 : decode b_Mod_learns 84 = .ok (.iconst 2, 1) := by decide +kernel
theorem d_Mod_learns_85 : decode b_Mod_learns 85 = .ok (.aload_n 0, 1) := by decide +kernel
theorem d_Mod_learns_86 : decode b_Mod_learns 86 = .ok (.getfield 13, 3) := by decide +kernel
theorem d_Mod_learns_89 : decode b_Mod_learns 89 = .ok (.imul, 1) := by decide +kernel
theorem d_Mod_learns_90 : decode b_Mod_learns 90 = .ok (.if_icmp .ge 69, 3) := by decide +kernel
theorem d_Mod_learns_93 : decode b_Mod_learns 93 = .ok (.aload_n 0, 1) := by decide +kernel
theorem d_Mod_learns_94 : decode b_Mod_learns 94 = .ok (.getfield 92, 3) := by decide +kernel
theorem d_Mod_learns_97 : decode b_Mod_learns 97 = .ok (.iload 5, 2) := by decide +kernel
theorem d_Mod_learns_99 : decode b_Mod_learns 99 = .ok (.baload, 1) := by decide +kernel
theorem d_Mod_learns_100 : decode b_Mod_learns 100 = .ok (.ifCond .eq 53, 3) := by decide +kernel
theorem d_Mod_learns_103 : decode b_Mod_learns 103 = .ok (.iinc 2 1, 3) := by decide +kernel
theorem d_Mod_learns_106 : decode b_Mod_learns 106 = .ok (.aload_n 0, 1) := by decide +kernel
theorem d_Mod_learns_107 : decode b_Mod_learns 107 = .ok (.getfield 70, 3) := by decide +kernel
theorem d_Mod_learns_110 : decode b_Mod_learns 110 = .ok (.iload 5, 2) := by decide +kernel
theorem d_Mod_learns_112 : decode b_Mod_learns 112 = .ok (.iconst 2, 1) := by decide +kernel
theorem d_Mod_learns_113 : decode b_Mod_learns 113 = .ok (.idiv, 1) := by decide +kernel
theorem d_Mod_learns_114 : decode b_Mod_learns 114 = .ok (.iaload, 1) := by decide +kernel
theorem d_Mod_learns_115 : decode b_Mod_learns 115 = .ok (.aload_n 0, 1) := by decide +kernel
theorem d_Mod_learns_116 : decode b_Mod_learns 116 = .ok (.getfield 79, 3) := by decide +kernel
theorem d_Mod_learns_119 : decode b_Mod_learns 119 = .ok (.if_icmp .ne 9, 3) := by decide +kernel
theorem d_Mod_learns_122 : decode b_Mod_learns 122 = .ok (.iload 5, 2) := by decide +kernel
theorem d_Mod_learns_124 : decode b_Mod_learns 124 = .ok (.istore_n 3, 1) := by decide +kernel
theorem d_Mod_learns_125 : decode b_Mod_learns 125 = .ok (.goto 28, 3) := by decide +kernel
theorem d_Mod_learns_128 : decode b_Mod_learns 128 = .ok (.aload_n 0, 1) := by decide +kernel
theorem d_Mod_learns_129 : decode b_Mod_learns 129 = .ok (.getfield 70, 3) := by decide +kernel
theorem d_Mod_learns_132 : decode b_Mod_learns 132 = .ok (.iload 5, 2) := by decide +kernel
theorem d_Mod_learns_134 : decode b_Mod_learns 134 = .ok (.iconst 2, 1) := by decide +kernel
theorem d_Mod_learns_135 : decode b_Mod_learns 135 = .ok (.idiv, 1) := by decide +kernel
theorem d_Mod_learns_136 : decode b_Mod_learns 136 = .ok (.iaload, 1) := by decide +kernel
theorem d_Mod_learns_137 : decode b_Mod_learns 137 = .ok (.iload 4, 2) := by decide +kernel
theorem d_Mod_learns_139 : decode b_Mod_learns 139 = .ok (.if_icmp .le 14, 3) := by decide +kernel
theorem d_Mod_learns_142 : decode b_Mod_learns 142 = .ok (.aload_n 0, 1) := by decide +kernel
theorem d_Mod_learns_143 : decode b_Mod_learns 143 = .ok (.getfield 70, 3) := by decide +kernel
theorem d_Mod_learns_146 : decode b_Mod_learns 146 = .ok (.iload 5, 2) := by decide +kernel
theorem d_Mod_learns_148 : decode b_Mod_learns 148 = .ok (.iconst 2, 1) := by decide +kernel
theorem d_Mod_learns_149 : decode b_Mod_learns 149 = .ok (.idiv, 1) := by decide +kernel
theorem d_Mod_learns_150 : decode b_Mod_learns 150 = .ok (.iaload, 1) := by decide +kernel
theorem d_Mod_learns_151 : decode b_Mod_learns 151 = .ok (.istore 4, 2) := by decide +kernel
theorem d_Mod_learns_153 : decode b_Mod_learns 153 = .ok (.iinc 5 1, 3) := by decide +kernel
theorem d_Mod_learns_156 : decode b_Mod_learns 156 = .ok (.goto (-74), 3) := by decide +kernel
theorem d_Mod_learns_159 : decode b_Mod_learns 159 = .ok (.aload_n 0, 1) := by decide +kernel
theorem d_Mod_learns_160 : decode b_Mod_learns 160 = .ok (.iconst 1, 1) := by decide +kernel
theorem d_Mod_learns_161 : decode b_Mod_learns 161 = .ok (.iload_n 2, 1) := by decide +kernel
theorem d_Mod_learns_162 : decode b_Mod_learns 162 = .ok (.invokevirtual 110, 3) := by decide +kernel
theorem d_Mod_learns_165 : decode b_Mod_learns 165 = .ok (.ifCond .ne 10, 3) := by decide +kernel
theorem d_Mod_learns_168 : decode b_Mod_learns 168 = .ok (.aload_n 0, 1) := by decide +kernel
theorem d_Mod_learns_169 : decode b_Mod_learns 169 = .ok (.iconst 3, 1) := by decide +kernel
theorem d_Mod_learns_170 : decode b_Mod_learns 170 = .ok (.putfield 82, 3) := by decide +kernel
theorem d_Mod_learns_173 : decode b_Mod_learns 173 = .ok (.iconst 0, 1) := by decide +kernel
theorem d_Mod_learns_174 : decode b_Mod_learns 174 = .ok (.ireturn, 1) := by decide +kernel
theorem d_Mod_learns_175 : decode b_Mod_learns 175 = .ok (.aload_n 0, 1) := by decide +kernel
theorem d_Mod_learns_176 : decode b_Mod_learns 176 = .ok (.invokevirtual 114, 3) := by decide +kernel
theorem d_Mod_learns_179 : decode b_Mod_learns 179 = .ok (.ifCond .ne 5, 3) := by decide +kernel
theorem d_Mod_learns_182 : decode b_Mod_learns 182 = .ok (.iconst 0, 1) := by decide +kernel
theorem d_Mod_learns_183 : decode b_Mod_learns 183 = .ok (.ireturn, 1) := by decide +kernel
theorem d_Mod_learns_184 : decode b_Mod_learns 184 = .ok (.aload_n 0, 1) := by decide +kernel
theorem d_Mod_learns_185 : decode b_Mod_learns 185 = .ok (.iconst 0, 1) := by decide +kernel
theorem d_Mod_learns_186 : decode b_Mod_learns 186 = .ok (.invokevirtual 118, 3) := by decide +kernel
theorem d_Mod_learns_189 : decode b_Mod_learns 189 = .ok (.iconst 0, 1) := by decide +kernel
theorem d_Mod_learns_190 : decode b_Mod_learns 190 = .ok (.istore 5, 2) := by decide +kernel
theorem d_Mod_learns_192 : decode b_Mod_learns 192 = .ok (.iload 5, 2) := by decide +kernel
theorem d_Mod_learns_194 : decode b_Mod_learns 194 = .ok (.iconst 2, 1) := by decide +kernel
theorem d_Mod_learns_195 : decode b_Mod_learns 195 = .ok (.aload_n 0, 1) := by decide +kernel
theorem d_Mod_learns_196 : decode b_Mod_learns 196 = .ok (.getfield 13, 3) := by decide +kernel
theorem d_Mod_learns_199 : decode b_Mod_learns 199 = .ok (.imul, 1) := by decide +kernel
theorem d_Mod_learns_200 : decode b_Mod_learns 200 = .ok (.if_icmp .ge 25, 3) := by decide +kernel
theorem d_Mod_learns_203 : decode b_Mod_learns 203 = .ok (.aload_n 0, 1) := by decide +kernel
theorem d_Mod_learns_204 : decode b_Mod_learns 204 = .ok (.getfield 92, 3) := by decide +kernel
theorem d_Mod_learns_207 : decode b_Mod_learns 207 = .ok (.iload 5, 2) := by decide +kernel
theorem d_Mod_learns_209 : decode b_Mod_learns 209 = .ok (.baload, 1) := by decide +kernel
theorem d_Mod_learns_210 : decode b_Mod_learns 210 = .ok (.ifCond .eq 9, 3) := by decide +kernel
theorem d_Mod_learns_213 : decode b_Mod_learns 213 = .ok (.aload_n 0, 1) := by decide +kernel
theorem d_Mod_learns_214 : decode b_Mod_learns 214 = .ok (.iload 5, 2) := by decide +kernel
theorem d_Mod_learns_216 : decode b_Mod_learns 216 = .ok (.invokevirtual 122, 3) := by decide +kernel
theorem d_Mod_learns_219 : decode b_Mod_learns 219 = .ok (.iinc 5 1, 3) := by decide +kernel
theorem d_Mod_learns_222 : decode b_Mod_learns 222 = .ok (.goto (-30), 3) := by decide +kernel
theorem d_Mod_learns_225 : decode b_Mod_learns 225 = .ok (.aload_n 0, 1) := by decide +kernel
theorem d_Mod_learns_226 : decode b_Mod_learns 226 = .ok (.getfield 33, 3) := by decide +kernel
theorem d_Mod_learns_229 : decode b_Mod_learns 229 = .ok (.aload_n 0, 1) := by decide +kernel
theorem d_Mod_learns_230 : decode b_Mod_learns 230 = .ok (.getfield 30, 3) := by decide +kernel
theorem d_Mod_learns_233 : decode b_Mod_learns 233 = .ok (.aload_n 0, 1) := by decide +kernel
theorem d_Mod_learns_234 : decode b_Mod_learns 234 = .ok (.getfield 27, 3) := by decide +kernel
theorem d_Mod_learns_237 : decode b_Mod_learns 237 = .ok (.iconst 1, 1) := by decide +kernel
theorem d_Mod_learns_238 : decode b_Mod_learns 238 = .ok (.isub, 1) := by decide +kernel
theorem d_Mod_learns_239 : decode b_Mod_learns 239 = .ok (.iastore, 1) := by decide +kernel
theorem d_Mod_learns_240 : decode b_Mod_learns 240 = .ok (.aload_n 0, 1) := by decide +kernel
theorem d_Mod_learns_241 : decode b_Mod_learns 241 = .ok (.dup, 1) := by decide +kernel
theorem d_Mod_learns_242 : decode b_Mod_learns 242 = .ok (.getfield 30, 3) := by decide +kernel
theorem d_Mod_learns_245 : decode b_Mod_learns 245 = .ok (.iconst 1, 1) := by decide +kernel
theorem d_Mod_learns_246 : decode b_Mod_learns 246 = .ok (.iadd, 1) := by decide +kernel
theorem d_Mod_learns_247 : decode b_Mod_learns 247 = .ok (.putfield 30, 3) := by decide +kernel
theorem d_Mod_learns_250 : decode b_Mod_learns 250 = .ok (.aload_n 0, 1) := by decide +kernel
theorem d_Mod_learns_251 : decode b_Mod_learns 251 = .ok (.iload 4, 2) := by decide +kernel
theorem d_Mod_learns_253 : decode b_Mod_learns 253 = .ok (.invokevirtual 125, 3) := by decide +kernel
theorem d_Mod_learns_256 : decode b_Mod_learns 256 = .ok (.aload_n 0, 1) := by decide +kernel
theorem d_Mod_learns_257 : decode b_Mod_learns 257 = .ok (.iload_n 3, 1) := by decide +kernel
theorem d_Mod_learns_258 : decode b_Mod_learns 258 = .ok (.aload_n 0, 1) := by decide +kernel
theorem d_Mod_learns_259 : decode b_Mod_learns 259 = .ok (.getfield 79, 3) := by decide +kernel
theorem d_Mod_learns_262 : decode b_Mod_learns 262 = .ok (.aload_n 0, 1) := by decide +kernel
theorem d_Mod_learns_263 : decode b_Mod_learns 263 = .ok (.getfield 27, 3) := by decide +kernel
theorem d_Mod_learns_266 : decode b_Mod_learns 266 = .ok (.iconst 1, 1) := by decide +kernel
theorem d_Mod_learns_267 : decode b_Mod_learns 267 = .ok (.isub, 1) := by decide +kernel
theorem d_Mod_learns_268 : decode b_Mod_learns 268 = .ok (.invokevirtual 128, 3) := by decide +kernel
theorem d_Mod_learns_271 : decode b_Mod_learns 271 = .ok (.iconst 1, 1) := by decide +kernel
theorem d_Mod_learns_272 : decode b_Mod_learns 272 = .ok (.ireturn, 1) := by decide +kernel
theorem d_Mod_findCore_0 : decode b_Mod_findCore 0 = .ok (.iconst 0, 1) := by decide +kernel
theorem d_Mod_findCore_1 : decode b_Mod_findCore 1 = .ok (.istore_n 2, 1) := by decide +kernel
theorem d_Mod_findCore_2 : decode b_Mod_findCore 2 = .ok (.iload_n 2, 1) := by decide +kernel
theorem d_Mod_findCore_3 : decode b_Mod_findCore 3 = .ok (.bipush 40, 2) := by decide +kernel
theorem d_Mod_findCore_5 : decode b_Mod_findCore 5 = .ok (.if_icmp .ge 25, 3) := by decide +kernel
theorem d_Mod_findCore_8 : decode b_Mod_findCore 8 = .ok (.aload_n 0, 1) := by decide +kernel
theorem d_Mod_findCore_9 : decode b_Mod_findCore 9 = .ok (.getfield 58, 3) := by decide +kernel
theorem d_Mod_findCore_12 : decode b_Mod_findCore 12 = .ok (.iload_n 2, 1) := by decide +kernel
theorem d_Mod_findCore_13 : decode b_Mod_findCore 13 = .ok (.iload_n 2, 1) := by decide +kernel
theorem d_Mod_findCore_14 : decode b_Mod_findCore 14 = .ok (.iload_n 1, 1) := by decide +kernel
theorem d_Mod_findCore_15 : decode b_Mod_findCore 15 = .ok (.if_icmp .ne 7, 3) := by decide +kernel
theorem d_Mod_findCore_18 : decode b_Mod_findCore 18 = .ok (.iconst 1, 1) := by decide +kernel
theorem d_Mod_findCore_19 : decode b_Mod_findCore 19 = .ok (.goto 4, 3) := by decide +kernel
theorem d_Mod_findCore_22 : decode b_Mod_findCore 22 = .ok (.iconst 0, 1) := by decide +kernel
theorem d_Mod_findCore_23 : decode b_Mod_findCore 23 = .ok (.bastore, 1) := by decide +kernel
theorem d_Mod_findCore_24 : decode b_Mod_findCore 24 = .ok (.iinc 2 1, 3) := by decide +kernel
theorem d_Mod_findCore_27 : decode b_Mod_findCore 27 = .ok (.goto (-25), 3) := by decide +kernel
theorem d_Mod_findCore_30 : decode b_Mod_findCore 30 = .ok (.iconst 0, 1) := by decide +kernel
theorem d_Mod_findCore_31 : decode b_Mod_findCore 31 = .ok (.istore_n 2, 1) := by decide +kernel
theorem d_Mod_findCore_32 : decode b_Mod_findCore 32 = .ok (.iload_n 2, 1) := by decide +kernel
theorem d_Mod_findCore_33 : decode b_Mod_findCore 33 = .ok (.sipush 600, 3) := by decide +kernel
theorem d_Mod_findCore_36 : decode b_Mod_findCore 36 = .ok (.if_icmp .ge 16, 3) := by decide +kernel
theorem d_Mod_findCore_39 : decode b_Mod_findCore 39 = .ok (.aload_n 0, 1) := by decide +kernel
theorem d_Mod_findCore_40 : decode b_Mod_findCore 40 = .ok (.getfield 92, 3) := by decide +kernel
theorem d_Mod_findCore_43 : decode b_Mod_findCore 43 = .ok (.iload_n 2, 1) := by decide +kernel
theorem d_Mod_findCore_44 : decode b_Mod_findCore 44 = .ok (.iconst 0, 1) := by decide +kernel
theorem d_Mod_findCore_45 : decode b_Mod_findCore 45 = .ok (.bastore, 1) := by decide +kernel
theorem d_Mod_findCore_46 : decode b_Mod_findCore 46 = .ok (.iinc 2 1, 3) := by decide +kernel
theorem d_Mod_findCore_49 : decode b_Mod_findCore 49 = .ok (.goto (-17), 3) := by decide +kernel
theorem d_Mod_findCore_52 : decode b_Mod_findCore 52 = .ok (.aload_n 0, 1) := by decide +kernel
theorem d_Mod_findCore_53 : decode b_Mod_findCore 53 = .ok (.getfield 92, 3) := by decide +kernel
theorem d_Mod_findCore_56 : decode b_Mod_findCore 56 = .ok (.aload_n 0, 1) := by decide +kernel
theorem d_Mod_findCore_57 : decode b_Mod_findCore 57 = .ok (.getfield 51, 3) := by decide +kernel
theorem d_Mod_findCore_60 : decode b_Mod_findCore 60 = .ok (.iload_n 1, 1) := by decide +kernel
theorem d_Mod_findCore_61 : decode b_Mod_findCore 61 = .ok (.iaload, 1) := by decide +kernel
theorem d_Mod_findCore_62 : decode b_Mod_findCore 62 = .ok (.iconst 2, 1) := by decide +kernel
theorem d_Mod_findCore_63 : decode b_Mod_findCore 63 = .ok (.idiv, 1) := by decide +kernel
theorem d_Mod_findCore_64 : decode b_Mod_findCore 64 = .ok (.iconst 1, 1) := by decide +kernel
theorem d_Mod_findCore_65 : decode b_Mod_findCore 65 = .ok (.bastore, 1) := by decide +kernel
theorem d_Mod_findCore_66 : decode b_Mod_findCore 66 = .ok (.aload_n 0, 1) := by decide +kernel
theorem d_Mod_findCore_67 : decode b_Mod_findCore 67 = .ok (.getfield 61, 3) := by decide +kernel
theorem d_Mod_findCore_70 : decode b_Mod_findCore 70 = .ok (.iconst 1, 1) := by decide +kernel
theorem d_Mod_findCore_71 : decode b_Mod_findCore 71 = .ok (.isub, 1) := by decide +kernel
theorem d_Mod_findCore_72 : decode b_Mod_findCore 72 = .ok (.istore_n 2, 1) := by decide +kernel
theorem d_Mod_findCore_73 : decode b_Mod_findCore 73 = .ok (.iload_n 2, 1) := by decide +kernel
theorem d_Mod_findCore_74 : decode b_Mod_findCore 74 = .ok (.ifCond .lt 137, 3) := by decide +kernel
theorem d_Mod_findCore_77 : decode b_Mod_findCore 77 = .ok (.aload_n 0, 1) := by decide +kernel
theorem d_Mod_findCore_78 : decode b_Mod_findCore 78 = .ok (.getfield 64, 3) := by decide +kernel
theorem d_Mod_findCore_81 : decode b_Mod_findCore 81 = .ok (.iload_n 2, 1) := by decide +kernel
theorem d_Mod_findCore_82 : decode b_Mod_findCore 82 = .ok (.iaload, 1) := by decide +kernel
theorem d_Mod_findCore_83 : decode b_Mod_findCore 83 = .ok (.istore_n 3, 1) := by decide +kernel
theorem d_Mod_findCore_84 : decode b_Mod_findCore 84 = .ok (.aload_n 0, 1) := by decide +kernel
theorem d_Mod_findCore_85 : decode b_Mod_findCore 85 = .ok (.getfield 92, 3) := by decide +kernel
theorem d_Mod_findCore_88 : decode b_Mod_findCore 88 = .ok (.iload_n 3, 1) := by decide +kernel
theorem d_Mod_findCore_89 : decode b_Mod_findCore 89 = .ok (.baload, 1) := by decide +kernel
theorem d_Mod_findCore_90 : decode b_Mod_findCore 90 = .ok (.ifCond .eq 67, 3) := by decide +kernel
theorem d_Mod_findCore_93 : decode b_Mod_findCore 93 = .ok (.aload_n 0, 1) := by decide +kernel
theorem d_Mod_findCore_94 : decode b_Mod_findCore 94 = .ok (.getfield 73, 3) := by decide +kernel
theorem d_Mod_findCore_97 : decode b_Mod_findCore 97 = .ok (.iload_n 3, 1) := by decide +kernel
theorem d_Mod_findCore_98 : decode b_Mod_findCore 98 = .ok (.iaload, 1) := by decide +kernel
theorem d_Mod_findCore_99 : decode b_Mod_findCore 99 = .ok (.ifCond .lt 58, 3) := by decide +kernel
theorem d_Mod_findCore_102 : decode b_Mod_findCore 102 = .ok (.aload_n 0, 1) := by decide +kernel
theorem d_Mod_findCore_103 : decode b_Mod_findCore 103 = .ok (.getfield 20, 3) := by decide +kernel
theorem d_Mod_findCore_106 : decode b_Mod_findCore 106 = .ok (.aload_n 0, 1) := by decide +kernel
theorem d_Mod_findCore_107 : decode b_Mod_findCore 107 = .ok (.getfield 73, 3) := by decide +kernel
theorem d_Mod_findCore_110 : decode b_Mod_findCore 110 = .ok (.iload_n 3, 1) := by decide +kernel
theorem d_Mod_findCore_111 : decode b_Mod_findCore 111 = .ok (.iaload, 1) := by decide +kernel
theorem d_Mod_findCore_112 : decode b_Mod_findCore 112 = .ok (.iaload, 1) := by decide +kernel
theorem d_Mod_findCore_113 : decode b_Mod_findCore 113 = .ok (.istore 4, 2) := by decide +kernel
theorem d_Mod_findCore_115 : decode b_Mod_findCore 115 = .ok (.iload 4, 2) := by decide +kernel
theorem d_Mod_findCore_117 : decode b_Mod_findCore 117 = .ok (.aload_n 0, 1) := by decide +kernel
theorem d_Mod_findCore_118 : decode b_Mod_findCore 118 = .ok (.getfield 20, 3) := by decide +kernel
theorem d_Mod_findCore_121 : decode b_Mod_findCore 121 = .ok (.aload_n 0, 1) := by decide +kernel
theorem d_Mod_findCore_122 : decode b_Mod_findCore 122 = .ok (.getfield 73, 3) := by decide +kernel
theorem d_Mod_findCore_125 : decode b_Mod_findCore 125 = .ok (.iload_n 3, 1) := by decide +kernel
theorem d_Mod_findCore_126 : decode b_Mod_findCore 126 = .ok (.iaload, 1) := by decide +kernel
theorem d_Mod_findCore_127 : decode b_Mod_findCore 127 = .ok (.iconst 1, 1) := by decide +kernel
theorem d_Mod_findCore_128 : decode b_Mod_findCore 128 = .ok (.iadd, 1) := by decide +kernel
theorem d_Mod_findCore_129 : decode b_Mod_findCore 129 = .ok (.iaload, 1) := by decide +kernel
theorem d_Mod_findCore_130 : decode b_Mod_findCore 130 = .ok (.if_icmp .ge 24, 3) := by decide +kernel
theorem d_Mod_findCore_133 : decode b_Mod_findCore 133 = .ok (.aload_n 0, 1) := by decide +kernel
theorem d_Mod_findCore_134 : decode b_Mod_findCore 134 = .ok (.getfield 92, 3) := by decide +kernel
theorem d_Mod_findCore_137 : decode b_Mod_findCore 137 = .ok (.aload_n 0, 1) := by decide +kernel
theorem d_Mod_findCore_138 : decode b_Mod_findCore 138 = .ok (.getfield 16, 3) := by decide +kernel
theorem d_Mod_findCore_141 : decode b_Mod_findCore 141 = .ok (.iload 4, 2) := by decide +kernel
theorem d_Mod_findCore_143 : decode b_Mod_findCore 143 = .ok (.iaload, 1) := by decide +kernel
theorem d_Mod_findCore_144 : decode b_Mod_findCore 144 = .ok (.iconst 2, 1) := by decide +kernel
theorem d_Mod_findCore_145 : decode b_Mod_findCore 145 = .ok (.idiv, 1) := by decide +kernel
theorem d_Mod_findCore_146 : decode b_Mod_findCore 146 = .ok (.iconst 1, 1) := by decide +kernel
theorem d_Mod_findCore_147 : decode b_Mod_findCore 147 = .ok (.bastore, 1) := by decide +kernel
theorem d_Mod_findCore_148 : decode b_Mod_findCore 148 = .ok (.iinc 4 1, 3) := by decide +kernel
theorem d_Mod_findCore_151 : decode b_Mod_findCore 151 = .ok (.goto (-36), 3) := by decide +kernel
theorem d_Mod_findCore_154 : decode b_Mod_findCore 154 = .ok (.goto 51, 3) := by decide +kernel
theorem d_Mod_findCore_157 : decode b_Mod_findCore 157 = .ok (.aload_n 0, 1) := by decide +kernel
theorem d_Mod_findCore_158 : decode b_Mod_findCore 158 = .ok (.getfield 92, 3) := by decide +kernel
theorem d_Mod_findCore_161 : decode b_Mod_findCore 161 = .ok (.iload_n 3, 1) := by decide +kernel
theorem d_Mod_findCore_162 : decode b_Mod_findCore 162 = .ok (.baload, 1) := by decide +kernel
theorem d_Mod_findCore_163 : decode b_Mod_findCore 163 = .ok (.ifCond .eq 42, 3) := by decide +kernel
theorem d_Mod_findCore_166 : decode b_Mod_findCore 166 = .ok (.iconst 0, 1) := by decide +kernel
theorem d_Mod_findCore_167 : decode b_Mod_findCore 167 = .ok (.istore 4, 2) := by decide +kernel
theorem d_Mod_findCore_169 : decode b_Mod_findCore 169 = .ok (.iload 4, 2) := by decide +kernel
theorem d_Mod_findCore_171 : decode b_Mod_findCore 171 = .ok (.aload_n 0, 1) := by decide +kernel
theorem d_Mod_findCore_172 : decode b_Mod_findCore 172 = .ok (.getfield 48, 3) := by decide +kernel
theorem d_Mod_findCore_175 : decode b_Mod_findCore 175 = .ok (.if_icmp .ge 30, 3) := by decide +kernel
theorem d_Mod_findCore_178 : decode b_Mod_findCore 178 = .ok (.aload_n 0, 1) := by decide +kernel
theorem d_Mod_findCore_179 : decode b_Mod_findCore 179 = .ok (.getfield 51, 3) := by decide +kernel
theorem d_Mod_findCore_182 : decode b_Mod_findCore 182 = .ok (.iload 4, 2) := by decide +kernel
theorem d_Mod_findCore_184 : decode b_Mod_findCore 184 = .ok (.iaload, 1) := by decide +kernel
theorem d_Mod_findCore_185 : decode b_Mod_findCore 185 = .ok (.iconst 2, 1) := by decide +kernel
theorem d_Mod_findCore_186 : decode b_Mod_findCore 186 = .ok (.idiv, 1) := by decide +kernel
theorem d_Mod_findCore_187 : decode b_Mod_findCore 187 = .ok (.iload_n 3, 1) := by decide +kernel
theorem d_Mod_findCore_188 : decode b_Mod_findCore 188 = .ok (.if_icmp .ne 11, 3) := by decide +kernel
theorem d_Mod_findCore_191 : decode b_Mod_findCore 191 = .ok (.aload_n 0, 1) := by decide +kernel
theorem d_Mod_findCore_192 : decode b_Mod_findCore 192 = .ok (.getfield 58, 3) := by decide +kernel
theorem d_Mod_findCore_195 : decode b_Mod_findCore 195 = .ok (.iload 4, 2) := by decide +kernel
theorem d_Mod_findCore_197 : decode b_Mod_findCore 197 = .ok (.iconst 1, 1) := by decide +kernel
theorem d_Mod_findCore_198 : decode b_Mod_findCore 198 = .ok (.bastore, 1) := by decide +kernel
theorem d_Mod_findCore_199 : decode b_Mod_findCore 199 = .ok (.iinc 4 1, 3) := by decide +kernel
theorem d_Mod_findCore_202 : decode b_Mod_findCore 202 = .ok (.goto (-33), 3) := by decide +kernel
theorem d_Mod_findCore_205 : decode b_Mod_findCore 205 = .ok (.iinc 2 (-1), 3) := by decide +kernel
theorem d_Mod_findCore_208 : decode b_Mod_findCore 208 = .ok (.goto (-135), 3) := by decide +kernel
theorem d_Mod_findCore_211 : decode b_Mod_findCore 211 = .ok (.aload_n 0, 1) := by decide +kernel
theorem d_Mod_findCore_212 : decode b_Mod_findCore 212 = .ok (.iconst 1, 1) := by decide +kernel
theorem d_Mod_findCore_213 : decode b_Mod_findCore 213 = .ok (.putfield 54, 3) := by decide +kernel
theorem d_Mod_findCore_216 : decode b_Mod_findCore 216 = .ok (.aload_n 0, 1) := by decide +kernel
theorem d_Mod_findCore_217 : decode b_Mod_findCore 217 = .ok (.iconst 2, 1) := by decide +kernel
theorem d_Mod_findCore_218 : decode b_Mod_findCore 218 = .ok (.putfield 82, 3) := by decide +kernel
theorem d_Mod_findCore_221 : decode b_Mod_findCore 221 = .ok (.return_, 1) := by decide +kernel
theorem d_Mod_decides_0 : decode b_Mod_decides 0 = .ok (.aload_n 0, 1) := by decide +kernel
theorem d_Mod_decides_1 : decode b_Mod_decides 1 = .ok (.invokevirtual 114, 3) := by decide +kernel
theorem d_Mod_decides_4 : decode b_Mod_decides 4 = .ok (.ifCond .ne 5, 3) := by decide +kernel
theorem d_Mod_decides_7 : decode b_Mod_decides 7 = .ok (.iconst 0, 1) := by decide +kernel
theorem d_Mod_decides_8 : decode b_Mod_decides 8 = .ok (.ireturn, 1) := by decide +kernel
theorem d_Mod_decides_9 : decode b_Mod_decides 9 = .ok (.aload_n 0, 1) := by decide +kernel
theorem d_Mod_decides_10 : decode b_Mod_decides 10 = .ok (.dup, 1) := by decide +kernel
theorem d_Mod_decides_11 : decode b_Mod_decides 11 = .ok (.getfield 79, 3) := by decide +kernel
theorem d_Mod_decides_14 : decode b_Mod_decides 14 = .ok (.iconst 1, 1) := by decide +kernel
theorem d_Mod_decides_15 : decode b_Mod_decides 15 = .ok (.iadd, 1) := by decide +kernel
theorem d_Mod_decides_16 : decode b_Mod_decides 16 = .ok (.putfield 79, 3) := by decide +kernel
theorem d_Mod_decides_19 : decode b_Mod_decides 19 = .ok (.aload_n 0, 1) := by decide +kernel
theorem d_Mod_decides_20 : decode b_Mod_decides 20 = .ok (.iload_n 1, 1) := by decide +kernel
theorem d_Mod_decides_21 : decode b_Mod_decides 21 = .ok (.aload_n 0, 1) := by decide +kernel
theorem d_Mod_decides_22 : decode b_Mod_decides 22 = .ok (.getfield 79, 3) := by decide +kernel
theorem d_Mod_decides_25 : decode b_Mod_decides 25 = .ok (.iconst (-1), 1) := by decide +kernel
theorem d_Mod_decides_26 : decode b_Mod_decides 26 = .ok (.invokevirtual 128, 3) := by decide +kernel
theorem d_Mod_decides_29 : decode b_Mod_decides 29 = .ok (.iconst 1, 1) := by decide +kernel
theorem d_Mod_decides_30 : decode b_Mod_decides 30 = .ok (.ireturn, 1) := by decide +kernel
theorem d_Mod_goes_0 : decode b_Mod_goes 0 = .ok (.iconst (-1), 1) := by decide +kernel
theorem d_Mod_goes_1 : decode b_Mod_goes 1 = .ok (.istore_n 1, 1) := by decide +kernel
theorem d_Mod_goes_2 : decode b_Mod_goes 2 = .ok (.iconst 0, 1) := by decide +kernel
theorem d_Mod_goes_3 : decode b_Mod_goes 3 = .ok (.istore_n 2, 1) := by decide +kernel
theorem d_Mod_goes_4 : decode b_Mod_goes 4 = .ok (.iload_n 2, 1) := by decide +kernel
theorem d_Mod_goes_5 : decode b_Mod_goes 5 = .ok (.aload_n 0, 1) := by decide +kernel
theorem d_Mod_goes_6 : decode b_Mod_goes 6 = .ok (.getfield 27, 3) := by decide +kernel
theorem d_Mod_goes_9 : decode b_Mod_goes 9 = .ok (.if_icmp .ge 51, 3) := by decide +kernel
theorem d_Mod_goes_12 : decode b_Mod_goes 12 = .ok (.aload_n 0, 1) := by decide +kernel
theorem d_Mod_goes_13 : decode b_Mod_goes 13 = .ok (.iload_n 2, 1) := by decide +kernel
theorem d_Mod_goes_14 : decode b_Mod_goes 14 = .ok (.invokevirtual 132, 3) := by decide +kernel
theorem d_Mod_goes_17 : decode b_Mod_goes 17 = .ok (.istore_n 3, 1) := by decide +kernel
theorem d_Mod_goes_18 : decode b_Mod_goes 18 = .ok (.iload_n 3, 1) := by decide +kernel
theorem d_Mod_goes_19 : decode b_Mod_goes 19 = .ok (.iconst 2, 1) := by decide +kernel
theorem d_Mod_goes_20 : decode b_Mod_goes 20 = .ok (.if_icmp .ne 23, 3) := by decide +kernel
theorem d_Mod_goes_23 : decode b_Mod_goes 23 = .ok (.aload_n 0, 1) := by decide +kernel
theorem d_Mod_goes_24 : decode b_Mod_goes 24 = .ok (.getfield 79, 3) := by decide +kernel
theorem d_Mod_goes_27 : decode b_Mod_goes 27 = .ok (.ifCond .le 9, 3) := by decide +kernel
theorem d_Mod_goes_30 : decode b_Mod_goes 30 = .ok (.aload_n 0, 1) := by decide +kernel
theorem d_Mod_goes_31 : decode b_Mod_goes 31 = .ok (.iload_n 2, 1) := by decide +kernel
theorem d_Mod_goes_32 : decode b_Mod_goes 32 = .ok (.invokevirtual 136, 3) := by decide +kernel
theorem d_Mod_goes_35 : decode b_Mod_goes 35 = .ok (.ireturn, 1) := by decide +kernel
theorem d_Mod_goes_36 : decode b_Mod_goes 36 = .ok (.aload_n 0, 1) := by decide +kernel
theorem d_Mod_goes_37 : decode b_Mod_goes 37 = .ok (.iconst 2, 1) := by decide +kernel
theorem d_Mod_goes_38 : decode b_Mod_goes 38 = .ok (.putfield 82, 3) := by decide +kernel
theorem d_Mod_goes_41 : decode b_Mod_goes 41 = .ok (.iconst 0, 1) := by decide +kernel
theorem d_Mod_goes_42 : decode b_Mod_goes 42 = .ok (.ireturn, 1) := by decide +kernel
theorem d_Mod_goes_43 : decode b_Mod_goes 43 = .ok (.iload_n 3, 1) := by decide +kernel
theorem d_Mod_goes_44 : decode b_Mod_goes 44 = .ok (.iconst 1, 1) := by decide +kernel
theorem d_Mod_goes_45 : decode b_Mod_goes 45 = .ok (.if_icmp .ne 9, 3) := by decide +kernel
theorem d_Mod_goes_48 : decode b_Mod_goes 48 = .ok (.iload_n 1, 1) := by decide +kernel
theorem d_Mod_goes_49 : decode b_Mod_goes 49 = .ok (.ifCond .ge 5, 3) := by decide +kernel
theorem d_Mod_goes_52 : decode b_Mod_goes 52 = .ok (.iload_n 2, 1) := by decide +kernel
theorem d_Mod_goes_53 : decode b_Mod_goes 53 = .ok (.istore_n 1, 1) := by decide +kernel
theorem d_Mod_goes_54 : decode b_Mod_goes 54 = .ok (.iinc 2 1, 3) := by decide +kernel
theorem d_Mod_goes_57 : decode b_Mod_goes 57 = .ok (.goto (-53), 3) := by decide +kernel
theorem d_Mod_goes_60 : decode b_Mod_goes 60 = .ok (.iload_n 1, 1) := by decide +kernel
theorem d_Mod_goes_61 : decode b_Mod_goes 61 = .ok (.ifCond .lt 61, 3) := by decide +kernel
theorem d_Mod_goes_64 : decode b_Mod_goes 64 = .ok (.aload_n 0, 1) := by decide +kernel
theorem d_Mod_goes_65 : decode b_Mod_goes 65 = .ok (.getfield 20, 3) := by decide +kernel
theorem d_Mod_goes_68 : decode b_Mod_goes 68 = .ok (.iload_n 1, 1) := by decide +kernel
theorem d_Mod_goes_69 : decode b_Mod_goes 69 = .ok (.iaload, 1) := by decide +kernel
theorem d_Mod_goes_70 : decode b_Mod_goes 70 = .ok (.istore_n 2, 1) := by decide +kernel
theorem d_Mod_goes_71 : decode b_Mod_goes 71 = .ok (.iload_n 2, 1) := by decide +kernel
theorem d_Mod_goes_72 : decode b_Mod_goes 72 = .ok (.aload_n 0, 1) := by decide +kernel
theorem d_Mod_goes_73 : decode b_Mod_goes 73 = .ok (.getfield 20, 3) := by decide +kernel
theorem d_Mod_goes_76 : decode b_Mod_goes 76 = .ok (.iload_n 1, 1) := by decide +kernel
theorem d_Mod_goes_77 : decode b_Mod_goes 77 = .ok (.iconst 1, 1) := by decide +kernel
theorem d_Mod_goes_78 : decode b_Mod_goes 78 = .ok (.iadd, 1) := by decide +kernel
theorem d_Mod_goes_79 : decode b_Mod_goes 79 = .ok (.iaload, 1) := by decide +kernel
theorem d_Mod_goes_80 : decode b_Mod_goes 80 = .ok (.if_icmp .ge 42, 3) := by decide +kernel
theorem d_Mod_goes_83 : decode b_Mod_goes 83 = .ok (.aload_n 0, 1) := by decide +kernel
theorem d_Mod_goes_84 : decode b_Mod_goes 84 = .ok (.getfield 67, 3) := by decide +kernel
theorem d_Mod_goes_87 : decode b_Mod_goes 87 = .ok (.aload_n 0, 1) := by decide +kernel
theorem d_Mod_goes_88 : decode b_Mod_goes 88 = .ok (.getfield 16, 3) := by decide +kernel
theorem d_Mod_goes_91 : decode b_Mod_goes 91 = .ok (.iload_n 2, 1) := by decide +kernel
theorem d_Mod_goes_92 : decode b_Mod_goes 92 = .ok (.iaload, 1) := by decide +kernel
theorem d_Mod_goes_93 : decode b_Mod_goes 93 = .ok (.iconst 2, 1) := by decide +kernel
theorem d_Mod_goes_94 : decode b_Mod_goes 94 = .ok (.idiv, 1) := by decide +kernel
theorem d_Mod_goes_95 : decode b_Mod_goes 95 = .ok (.iaload, 1) := by decide +kernel
theorem d_Mod_goes_96 : decode b_Mod_goes 96 = .ok (.ifCond .ne 20, 3) := by decide +kernel
theorem d_Mod_goes_99 : decode b_Mod_goes 99 = .ok (.aload_n 0, 1) := by decide +kernel
theorem d_Mod_goes_100 : decode b_Mod_goes 100 = .ok (.aload_n 0, 1) := by decide +kernel
theorem d_Mod_goes_101 : decode b_Mod_goes 101 = .ok (.getfield 16, 3) := by decide +kernel
theorem d_Mod_goes_104 : decode b_Mod_goes 104 = .ok (.iload_n 2, 1) := by decide +kernel
theorem d_Mod_goes_105 : decode b_Mod_goes 105 = .ok (.iaload, 1) := by decide +kernel
theorem d_Mod_goes_106 : decode b_Mod_goes 106 = .ok (.aload_n 0, 1) := by decide +kernel
theorem d_Mod_goes_107 : decode b_Mod_goes 107 = .ok (.getfield 79, 3) := by decide +kernel
theorem d_Mod_goes_110 : decode b_Mod_goes 110 = .ok (.iload_n 1, 1) := by decide +kernel
theorem d_Mod_goes_111 : decode b_Mod_goes 111 = .ok (.invokevirtual 128, 3) := by decide +kernel
theorem d_Mod_goes_114 : decode b_Mod_goes 114 = .ok (.iconst 1, 1) := by decide +kernel
theorem d_Mod_goes_115 : decode b_Mod_goes 115 = .ok (.ireturn, 1) := by decide +kernel
theorem d_Mod_goes_116 : decode b_Mod_goes 116 = .ok (.iinc 2 1, 3) := by decide +kernel
theorem d_Mod_goes_119 : decode b_Mod_goes 119 = .ok (.goto (-48), 3) := by decide +kernel
theorem d_Mod_goes_122 : decode b_Mod_goes 122 = .ok (.iconst 0, 1) := by decide +kernel
theorem d_Mod_goes_123 : decode b_Mod_goes 123 = .ok (.istore_n 2, 1) := by decide +kernel
theorem d_Mod_goes_124 : decode b_Mod_goes 124 = .ok (.iload_n 2, 1) := by decide +kernel
theorem d_Mod_goes_125 : decode b_Mod_goes 125 = .ok (.aload_n 0, 1) := by decide +kernel
theorem d_Mod_goes_126 : decode b_Mod_goes 126 = .ok (.getfield 48, 3) := by decide +kernel
theorem d_Mod_goes_129 : decode b_Mod_goes 129 = .ok (.if_icmp .ge 53, 3) := by decide +kernel
theorem d_Mod_goes_132 : decode b_Mod_goes 132 = .ok (.aload_n 0, 1) := by decide +kernel
theorem d_Mod_goes_133 : decode b_Mod_goes 133 = .ok (.aload_n 0, 1) := by decide +kernel
theorem d_Mod_goes_134 : decode b_Mod_goes 134 = .ok (.getfield 51, 3) := by decide +kernel
theorem d_Mod_goes_137 : decode b_Mod_goes 137 = .ok (.iload_n 2, 1) := by decide +kernel
theorem d_Mod_goes_138 : decode b_Mod_goes 138 = .ok (.iaload, 1) := by decide +kernel
theorem d_Mod_goes_139 : decode b_Mod_goes 139 = .ok (.invokevirtual 95, 3) := by decide +kernel
theorem d_Mod_goes_142 : decode b_Mod_goes 142 = .ok (.ifCond .ne 34, 3) := by decide +kernel
theorem d_Mod_goes_145 : decode b_Mod_goes 145 = .ok (.aload_n 0, 1) := by decide +kernel
theorem d_Mod_goes_146 : decode b_Mod_goes 146 = .ok (.aload_n 0, 1) := by decide +kernel
theorem d_Mod_goes_147 : decode b_Mod_goes 147 = .ok (.getfield 51, 3) := by decide +kernel
theorem d_Mod_goes_150 : decode b_Mod_goes 150 = .ok (.iload_n 2, 1) := by decide +kernel
theorem d_Mod_goes_151 : decode b_Mod_goes 151 = .ok (.iaload, 1) := by decide +kernel
theorem d_Mod_goes_152 : decode b_Mod_goes 152 = .ok (.invokevirtual 99, 3) := by decide +kernel
theorem d_Mod_goes_155 : decode b_Mod_goes 155 = .ok (.ifCond .eq 10, 3) := by decide +kernel
theorem d_Mod_goes_158 : decode b_Mod_goes 158 = .ok (.aload_n 0, 1) := by decide +kernel
theorem d_Mod_goes_159 : decode b_Mod_goes 159 = .ok (.iload_n 2, 1) := by decide +kernel
theorem d_Mod_goes_160 : decode b_Mod_goes 160 = .ok (.invokevirtual 139, 3) := by decide +kernel
theorem d_Mod_goes_163 : decode b_Mod_goes 163 = .ok (.iconst 0, 1) := by decide +kernel
theorem d_Mod_goes_164 : decode b_Mod_goes 164 = .ok (.ireturn, 1) := by decide +kernel
theorem d_Mod_goes_165 : decode b_Mod_goes 165 = .ok (.aload_n 0, 1) := by decide +kernel
theorem d_Mod_goes_166 : decode b_Mod_goes 166 = .ok (.aload_n 0, 1) := by decide +kernel
theorem d_Mod_goes_167 : decode b_Mod_goes 167 = .ok (.getfield 51, 3) := by decide +kernel
theorem d_Mod_goes_170 : decode b_Mod_goes 170 = .ok (.iload_n 2, 1) := by decide +kernel
theorem d_Mod_goes_171 : decode b_Mod_goes 171 = .ok (.iaload, 1) := by decide +kernel
theorem d_Mod_goes_172 : decode b_Mod_goes 172 = .ok (.invokevirtual 142, 3) := by decide +kernel
theorem d_Mod_goes_175 : decode b_Mod_goes 175 = .ok (.ireturn, 1) := by decide +kernel
theorem d_Mod_goes_176 : decode b_Mod_goes 176 = .ok (.iinc 2 1, 3) := by decide +kernel
theorem d_Mod_goes_179 : decode b_Mod_goes 179 = .ok (.goto (-55), 3) := by decide +kernel
theorem d_Mod_goes_182 : decode b_Mod_goes 182 = .ok (.iconst 0, 1) := by decide +kernel
theorem d_Mod_goes_183 : decode b_Mod_goes 183 = .ok (.istore_n 2, 1) := by decide +kernel
theorem d_Mod_goes_184 : decode b_Mod_goes 184 = .ok (.iload_n 2, 1) := by decide +kernel
theorem d_Mod_goes_185 : decode b_Mod_goes 185 = .ok (.aload_n 0, 1) := by decide +kernel
theorem d_Mod_goes_186 : decode b_Mod_goes 186 = .ok (.getfield 13, 3) := by decide +kernel
theorem d_Mod_goes_189 : decode b_Mod_goes 189 = .ok (.if_icmp .ge 26, 3) := by decide +kernel
theorem d_Mod_goes_192 : decode b_Mod_goes 192 = .ok (.aload_n 0, 1) := by decide +kernel
theorem d_Mod_goes_193 : decode b_Mod_goes 193 = .ok (.getfield 67, 3) := by decide +kernel
theorem d_Mod_goes_196 : decode b_Mod_goes 196 = .ok (.iload_n 2, 1) := by decide +kernel
theorem d_Mod_goes_197 : decode b_Mod_goes 197 = .ok (.iaload, 1) := by decide +kernel
theorem d_Mod_goes_198 : decode b_Mod_goes 198 = .ok (.ifCond .ne 11, 3) := by decide +kernel
theorem d_Mod_goes_201 : decode b_Mod_goes 201 = .ok (.aload_n 0, 1) := by decide +kernel
theorem d_Mod_goes_202 : decode b_Mod_goes 202 = .ok (.iconst 2, 1) := by decide +kernel
theorem d_Mod_goes_203 : decode b_Mod_goes 203 = .ok (.iload_n 2, 1) := by decide +kernel
theorem d_Mod_goes_204 : decode b_Mod_goes 204 = .ok (.imul, 1) := by decide +kernel
theorem d_Mod_goes_205 : decode b_Mod_goes 205 = .ok (.invokevirtual 142, 3) := by decide +kernel
theorem d_Mod_goes_208 : decode b_Mod_goes 208 = .ok (.ireturn, 1) := by decide +kernel
theorem d_Mod_goes_209 : decode b_Mod_goes 209 = .ok (.iinc 2 1, 3) := by decide +kernel
theorem d_Mod_goes_212 : decode b_Mod_goes 212 = .ok (.goto (-28), 3) := by decide +kernel
theorem d_Mod_goes_215 : decode b_Mod_goes 215 = .ok (.aload_n 0, 1) := by decide +kernel
theorem d_Mod_goes_216 : decode b_Mod_goes 216 = .ok (.iconst 0, 1) := by decide +kernel
theorem d_Mod_goes_217 : decode b_Mod_goes 217 = .ok (.putfield 82, 3) := by decide +kernel
theorem d_Mod_goes_220 : decode b_Mod_goes 220 = .ok (.iconst 0, 1) := by decide +kernel
theorem d_Mod_goes_221 : decode b_Mod_goes 221 = .ok (.ireturn, 1) := by decide +kernel
theorem d_Mod_goOnWith_0 : decode b_Mod_goOnWith 0 = .ok (.aload_n 0, 1) := by decide +kernel
theorem d_Mod_goOnWith_1 : decode b_Mod_goOnWith 1 = .ok (.lload_n 1, 1) := by decide +kernel
theorem d_Mod_goOnWith_2 : decode b_Mod_goOnWith 2 = .ok (.putfield 85, 3) := by decide +kernel
theorem d_Mod_goOnWith_5 : decode b_Mod_goOnWith 5 = .ok (.aload_n 0, 1) := by decide +kernel
theorem d_Mod_goOnWith_6 : decode b_Mod_goOnWith 6 = .ok (.iconst 0, 1) := by decide +kernel
theorem d_Mod_goOnWith_7 : decode b_Mod_goOnWith 7 = .ok (.putfield 54, 3) := by decide +kernel
theorem d_Mod_goOnWith_10 : decode b_Mod_goOnWith 10 = .ok (.iconst 1, 1) := by decide +kernel
theorem d_Mod_goOnWith_11 : decode b_Mod_goOnWith 11 = .ok (.istore_n 3, 1) := by decide +kernel
theorem d_Mod_goOnWith_12 : decode b_Mod_goOnWith 12 = .ok (.iload_n 3, 1) := by decide +kernel
theorem d_Mod_goOnWith_13 : decode b_Mod_goOnWith 13 = .ok (.ifCond .eq 11, 3) := by decide +kernel
theorem d_Mod_goOnWith_16 : decode b_Mod_goOnWith 16 = .ok (.aload_n 0, 1) := by decide +kernel
theorem d_Mod_goOnWith_17 : decode b_Mod_goOnWith 17 = .ok (.invokevirtual 145, 3) := by decide +kernel
theorem d_Mod_goOnWith_20 : decode b_Mod_goOnWith 20 = .ok (.istore_n 3, 1) := by decide +kernel
theorem d_Mod_goOnWith_21 : decode b_Mod_goOnWith 21 = .ok (.goto (-9), 3) := by decide +kernel
theorem d_Mod_goOnWith_24 : decode b_Mod_goOnWith 24 = .ok (.return_, 1) := by decide +kernel
theorem d_Mod_noThing_0 : decode b_Mod_noThing 0 = .ok (.iload_n 1, 1) := by decide +kernel
theorem d_Mod_noThing_1 : decode b_Mod_noThing 1 = .ok (.ifCond .lt 11, 3) := by decide +kernel
theorem d_Mod_noThing_4 : decode b_Mod_noThing 4 = .ok (.iload_n 1, 1) := by decide +kernel
theorem d_Mod_noThing_5 : decode b_Mod_noThing 5 = .ok (.aload_n 0, 1) := by decide +kernel
theorem d_Mod_noThing_6 : decode b_Mod_noThing 6 = .ok (.getfield 13, 3) := by decide +kernel
theorem d_Mod_noThing_9 : decode b_Mod_noThing 9 = .ok (.if_icmp .lt 7, 3) := by decide +kernel
theorem d_Mod_noThing_12 : decode b_Mod_noThing 12 = .ok (.iconst 1, 1) := by decide +kernel
theorem d_Mod_noThing_13 : decode b_Mod_noThing 13 = .ok (.goto 4, 3) := by decide +kernel
theorem d_Mod_noThing_16 : decode b_Mod_noThing 16 = .ok (.iconst 0, 1) := by decide +kernel
theorem d_Mod_noThing_17 : decode b_Mod_noThing 17 = .ok (.ireturn, 1) := by decide +kernel
theorem d_Mod_clause_0 : decode b_Mod_clause 0 = .ok (.aload_n 0, 1) := by decide +kernel
theorem d_Mod_clause_1 : decode b_Mod_clause 1 = .ok (.iconst 0, 1) := by decide +kernel
theorem d_Mod_clause_2 : decode b_Mod_clause 2 = .ok (.putfield 7, 3) := by decide +kernel
theorem d_Mod_clause_5 : decode b_Mod_clause 5 = .ok (.aload_n 0, 1) := by decide +kernel
theorem d_Mod_clause_6 : decode b_Mod_clause 6 = .ok (.iconst 1, 1) := by decide +kernel
theorem d_Mod_clause_7 : decode b_Mod_clause 7 = .ok (.iconst 0, 1) := by decide +kernel
theorem d_Mod_clause_8 : decode b_Mod_clause 8 = .ok (.invokevirtual 110, 3) := by decide +kernel
theorem d_Mod_clause_11 : decode b_Mod_clause 11 = .ok (.ifCond .ne 5, 3) := by decide +kernel
theorem d_Mod_clause_14 : decode b_Mod_clause 14 = .ok (.iconst (-1), 1) := by decide +kernel
theorem d_Mod_clause_15 : decode b_Mod_clause 15 = .ok (.ireturn, 1) := by decide +kernel
theorem d_Mod_clause_16 : decode b_Mod_clause 16 = .ok (.aload_n 0, 1) := by decide +kernel
theorem d_Mod_clause_17 : decode b_Mod_clause 17 = .ok (.iconst 1, 1) := by decide +kernel
theorem d_Mod_clause_18 : decode b_Mod_clause 18 = .ok (.invokevirtual 118, 3) := by decide +kernel
theorem d_Mod_clause_21 : decode b_Mod_clause 21 = .ok (.aload_n 0, 1) := by decide +kernel
theorem d_Mod_clause_22 : decode b_Mod_clause 22 = .ok (.iconst 1, 1) := by decide +kernel
theorem d_Mod_clause_23 : decode b_Mod_clause 23 = .ok (.putfield 82, 3) := by decide +kernel
theorem d_Mod_clause_26 : decode b_Mod_clause 26 = .ok (.aload_n 0, 1) := by decide +kernel
theorem d_Mod_clause_27 : decode b_Mod_clause 27 = .ok (.getfield 27, 3) := by decide +kernel
theorem d_Mod_clause_30 : decode b_Mod_clause 30 = .ok (.iconst 1, 1) := by decide +kernel
theorem d_Mod_clause_31 : decode b_Mod_clause 31 = .ok (.isub, 1) := by decide +kernel
theorem d_Mod_clause_32 : decode b_Mod_clause 32 = .ok (.ireturn, 1) := by decide +kernel
theorem d_Mod_literal_0 : decode b_Mod_literal 0 = .ok (.aload_n 0, 1) := by decide +kernel
theorem d_Mod_literal_1 : decode b_Mod_literal 1 = .ok (.iconst 0, 1) := by decide +kernel
theorem d_Mod_literal_2 : decode b_Mod_literal 2 = .ok (.putfield 7, 3) := by decide +kernel
theorem d_Mod_literal_5 : decode b_Mod_literal 5 = .ok (.iload_n 1, 1) := by decide +kernel
theorem d_Mod_literal_6 : decode b_Mod_literal 6 = .ok (.ifCond .lt 30, 3) := by decide +kernel
theorem d_Mod_literal_9 : decode b_Mod_literal 9 = .ok (.iload_n 1, 1) := by decide +kernel
theorem d_Mod_literal_10 : decode b_Mod_literal 10 = .ok (.aload_n 0, 1) := by decide +kernel
theorem d_Mod_literal_11 : decode b_Mod_literal 11 = .ok (.getfield 27, 3) := by decide +kernel
theorem d_Mod_literal_14 : decode b_Mod_literal 14 = .ok (.iconst 1, 1) := by decide +kernel
theorem d_Mod_literal_15 : decode b_Mod_literal 15 = .ok (.isub, 1) := by decide +kernel
theorem d_Mod_literal_16 : decode b_Mod_literal 16 = .ok (.if_icmp .ne 20, 3) := by decide +kernel
theorem d_Mod_literal_19 : decode b_Mod_literal 19 = .ok (.aload_n 0, 1) := by decide +kernel
theorem d_Mod_literal_20 : decode b_Mod_literal 20 = .ok (.getfield 23, 3) := by decide +kernel
theorem d_Mod_literal_23 : decode b_Mod_literal 23 = .ok (.iload_n 1, 1) := by decide +kernel
theorem d_Mod_literal_24 : decode b_Mod_literal 24 = .ok (.baload, 1) := by decide +kernel
theorem d_Mod_literal_25 : decode b_Mod_literal 25 = .ok (.ifCond .eq 11, 3) := by decide +kernel
theorem d_Mod_literal_28 : decode b_Mod_literal 28 = .ok (.aload_n 0, 1) := by decide +kernel
theorem d_Mod_literal_29 : decode b_Mod_literal 29 = .ok (.iload_n 2, 1) := by decide +kernel
theorem d_Mod_literal_30 : decode b_Mod_literal 30 = .ok (.invokevirtual 148, 3) := by decide +kernel
theorem d_Mod_literal_33 : decode b_Mod_literal 33 = .ok (.ifCond .eq 5, 3) := by decide +kernel
theorem d_Mod_literal_36 : decode b_Mod_literal 36 = .ok (.iconst 0, 1) := by decide +kernel
theorem d_Mod_literal_37 : decode b_Mod_literal 37 = .ok (.ireturn, 1) := by decide +kernel
theorem d_Mod_literal_38 : decode b_Mod_literal 38 = .ok (.iconst 2, 1) := by decide +kernel
theorem d_Mod_literal_39 : decode b_Mod_literal 39 = .ok (.iload_n 2, 1) := by decide +kernel
theorem d_Mod_literal_40 : decode b_Mod_literal 40 = .ok (.imul, 1) := by decide +kernel
theorem d_Mod_literal_41 : decode b_Mod_literal 41 = .ok (.iload_n 3, 1) := by decide +kernel
theorem d_Mod_literal_42 : decode b_Mod_literal 42 = .ok (.ifCond .eq 7, 3) := by decide +kernel
theorem d_Mod_literal_45 : decode b_Mod_literal 45 = .ok (.iconst 1, 1) := by decide +kernel
theorem d_Mod_literal_46 : decode b_Mod_literal 46 = .ok (.goto 4, 3) := by decide +kernel
theorem d_Mod_literal_49 : decode b_Mod_literal 49 = .ok (.iconst 0, 1) := by decide +kernel
theorem d_Mod_literal_50 : decode b_Mod_literal 50 = .ok (.iadd, 1) := by decide +kernel
theorem d_Mod_literal_51 : decode b_Mod_literal 51 = .ok (.istore 4, 2) := by decide +kernel
theorem d_Mod_literal_53 : decode b_Mod_literal 53 = .ok (.aload_n 0, 1) := by decide +kernel
theorem d_Mod_literal_54 : decode b_Mod_literal 54 = .ok (.getfield 20, 3) := by decide +kernel
theorem d_Mod_literal_57 : decode b_Mod_literal 57 = .ok (.iload_n 1, 1) := by decide +kernel
theorem d_Mod_literal_58 : decode b_Mod_literal 58 = .ok (.iaload, 1) := by decide +kernel
theorem d_Mod_literal_59 : decode b_Mod_literal 59 = .ok (.istore 5, 2) := by decide +kernel
theorem d_Mod_literal_61 : decode b_Mod_literal 61 = .ok (.iload 5, 2) := by decide +kernel
theorem d_Mod_literal_63 : decode b_Mod_literal 63 = .ok (.aload_n 0, 1) := by decide +kernel
theorem d_Mod_literal_64 : decode b_Mod_literal 64 = .ok (.getfield 20, 3) := by decide +kernel
theorem d_Mod_literal_67 : decode b_Mod_literal 67 = .ok (.iload_n 1, 1) := by decide +kernel
theorem d_Mod_literal_68 : decode b_Mod_literal 68 = .ok (.iconst 1, 1) := by decide +kernel
theorem d_Mod_literal_69 : decode b_Mod_literal 69 = .ok (.iadd, 1) := by decide +kernel
theorem d_Mod_literal_70 : decode b_Mod_literal 70 = .ok (.iaload, 1) := by decide +kernel
theorem d_Mod_literal_71 : decode b_Mod_literal 71 = .ok (.if_icmp .ge 23, 3) := by decide +kernel
theorem d_Mod_literal_74 : decode b_Mod_literal 74 = .ok (.aload_n 0, 1) := by decide +kernel
theorem d_Mod_literal_75 : decode b_Mod_literal 75 = .ok (.getfield 16, 3) := by decide +kernel
theorem d_Mod_literal_78 : decode b_Mod_literal 78 = .ok (.iload 5, 2) := by decide +kernel
theorem d_Mod_literal_80 : decode b_Mod_literal 80 = .ok (.iaload, 1) := by decide +kernel
theorem d_Mod_literal_81 : decode b_Mod_literal 81 = .ok (.iload 4, 2) := by decide +kernel
theorem d_Mod_literal_83 : decode b_Mod_literal 83 = .ok (.if_icmp .ne 5, 3) := by decide +kernel
theorem d_Mod_literal_86 : decode b_Mod_literal 86 = .ok (.iconst 0, 1) := by decide +kernel
theorem d_Mod_literal_87 : decode b_Mod_literal 87 = .ok (.ireturn, 1) := by decide +kernel
theorem d_Mod_literal_88 : decode b_Mod_literal 88 = .ok (.iinc 5 1, 3) := by decide +kernel
theorem d_Mod_literal_91 : decode b_Mod_literal 91 = .ok (.goto (-30), 3) := by decide +kernel
theorem d_Mod_literal_94 : decode b_Mod_literal 94 = .ok (.aload_n 0, 1) := by decide +kernel
theorem d_Mod_literal_95 : decode b_Mod_literal 95 = .ok (.getfield 20, 3) := by decide +kernel
theorem d_Mod_literal_98 : decode b_Mod_literal 98 = .ok (.aload_n 0, 1) := by decide +kernel
theorem d_Mod_literal_99 : decode b_Mod_literal 99 = .ok (.getfield 27, 3) := by decide +kernel
theorem d_Mod_literal_102 : decode b_Mod_literal 102 = .ok (.iaload, 1) := by decide +kernel
theorem d_Mod_literal_103 : decode b_Mod_literal 103 = .ok (.sipush 20000, 3) := by decide +kernel
theorem d_Mod_literal_106 : decode b_Mod_literal 106 = .ok (.if_icmp .eq 24, 3) := by decide +kernel
theorem d_Mod_literal_109 : decode b_Mod_literal 109 = .ok (.aload_n 0, 1) := by decide +kernel
theorem d_Mod_literal_110 : decode b_Mod_literal 110 = .ok (.getfield 20, 3) := by decide +kernel
theorem d_Mod_literal_113 : decode b_Mod_literal 113 = .ok (.aload_n 0, 1) := by decide +kernel
theorem d_Mod_literal_114 : decode b_Mod_literal 114 = .ok (.getfield 27, 3) := by decide +kernel
theorem d_Mod_literal_117 : decode b_Mod_literal 117 = .ok (.iaload, 1) := by decide +kernel
theorem d_Mod_literal_118 : decode b_Mod_literal 118 = .ok (.aload_n 0, 1) := by decide +kernel
theorem d_Mod_literal_119 : decode b_Mod_literal 119 = .ok (.getfield 20, 3) := by decide +kernel
theorem d_Mod_literal_122 : decode b_Mod_literal 122 = .ok (.iload_n 1, 1) := by decide +kernel
theorem d_Mod_literal_123 : decode b_Mod_literal 123 = .ok (.iaload, 1) := by decide +kernel
theorem d_Mod_literal_124 : decode b_Mod_literal 124 = .ok (.isub, 1) := by decide +kernel
theorem d_Mod_literal_125 : decode b_Mod_literal 125 = .ok (.bipush 60, 2) := by decide +kernel
theorem d_Mod_literal_127 : decode b_Mod_literal 127 = .ok (.if_icmp .ne 5, 3) := by decide +kernel
theorem d_Mod_literal_130 : decode b_Mod_literal 130 = .ok (.iconst 0, 1) := by decide +kernel
theorem d_Mod_literal_131 : decode b_Mod_literal 131 = .ok (.ireturn, 1) := by decide +kernel
theorem d_Mod_literal_132 : decode b_Mod_literal 132 = .ok (.aload_n 0, 1) := by decide +kernel
theorem d_Mod_literal_133 : decode b_Mod_literal 133 = .ok (.iload 4, 2) := by decide +kernel
theorem d_Mod_literal_135 : decode b_Mod_literal 135 = .ok (.invokevirtual 122, 3) := by decide +kernel
theorem d_Mod_literal_138 : decode b_Mod_literal 138 = .ok (.aload_n 0, 1) := by decide +kernel
theorem d_Mod_literal_139 : decode b_Mod_literal 139 = .ok (.iconst 1, 1) := by decide +kernel
theorem d_Mod_literal_140 : decode b_Mod_literal 140 = .ok (.putfield 82, 3) := by decide +kernel
theorem d_Mod_literal_143 : decode b_Mod_literal 143 = .ok (.iconst 1, 1) := by decide +kernel
theorem d_Mod_literal_144 : decode b_Mod_literal 144 = .ok (.ireturn, 1) := by decide +kernel
theorem d_Mod_kernel_0 : decode b_Mod_kernel 0 = .ok (.aload_n 0, 1) := by decide +kernel
theorem d_Mod_kernel_1 : decode b_Mod_kernel 1 = .ok (.iconst 0, 1) := by decide +kernel
theorem d_Mod_kernel_2 : decode b_Mod_kernel 2 = .ok (.putfield 7, 3) := by decide +kernel
theorem d_Mod_kernel_5 : decode b_Mod_kernel 5 = .ok (.aload_n 0, 1) := by decide +kernel
theorem d_Mod_kernel_6 : decode b_Mod_kernel 6 = .ok (.iload_n 1, 1) := by decide +kernel
theorem d_Mod_kernel_7 : decode b_Mod_kernel 7 = .ok (.invokevirtual 148, 3) := by decide +kernel
theorem d_Mod_kernel_10 : decode b_Mod_kernel 10 = .ok (.ifCond .ne 23, 3) := by decide +kernel
theorem d_Mod_kernel_13 : decode b_Mod_kernel 13 = .ok (.iload_n 2, 1) := by decide +kernel
theorem d_Mod_kernel_14 : decode b_Mod_kernel 14 = .ok (.ifCond .lt 19, 3) := by decide +kernel
theorem d_Mod_kernel_17 : decode b_Mod_kernel 17 = .ok (.iload_n 2, 1) := by decide +kernel
theorem d_Mod_kernel_18 : decode b_Mod_kernel 18 = .ok (.ldc 151, 2) := by decide +kernel
theorem d_Mod_kernel_20 : decode b_Mod_kernel 20 = .ok (.if_icmp .gt 13, 3) := by decide +kernel
theorem d_Mod_kernel_23 : decode b_Mod_kernel 23 = .ok (.iload_n 3, 1) := by decide +kernel
theorem d_Mod_kernel_24 : decode b_Mod_kernel 24 = .ok (.ifCond .lt 9, 3) := by decide +kernel
theorem d_Mod_kernel_27 : decode b_Mod_kernel 27 = .ok (.iload_n 3, 1) := by decide +kernel
theorem d_Mod_kernel_28 : decode b_Mod_kernel 28 = .ok (.ldc 151, 2) := by decide +kernel
theorem d_Mod_kernel_30 : decode b_Mod_kernel 30 = .ok (.if_icmp .le 5, 3) := by decide +kernel
theorem d_Mod_kernel_33 : decode b_Mod_kernel 33 = .ok (.iconst 0, 1) := by decide +kernel
theorem d_Mod_kernel_34 : decode b_Mod_kernel 34 = .ok (.ireturn, 1) := by decide +kernel
theorem d_Mod_kernel_35 : decode b_Mod_kernel 35 = .ok (.iconst 0, 1) := by decide +kernel
theorem d_Mod_kernel_36 : decode b_Mod_kernel 36 = .ok (.istore 4, 2) := by decide +kernel
theorem d_Mod_kernel_38 : decode b_Mod_kernel 38 = .ok (.iconst 0, 1) := by decide +kernel
theorem d_Mod_kernel_39 : decode b_Mod_kernel 39 = .ok (.istore 5, 2) := by decide +kernel
theorem d_Mod_kernel_41 : decode b_Mod_kernel 41 = .ok (.iload 5, 2) := by decide +kernel
theorem d_Mod_kernel_43 : decode b_Mod_kernel 43 = .ok (.aload_n 0, 1) := by decide +kernel
theorem d_Mod_kernel_44 : decode b_Mod_kernel 44 = .ok (.getfield 36, 3) := by decide +kernel
theorem d_Mod_kernel_47 : decode b_Mod_kernel 47 = .ok (.if_icmp .ge 65, 3) := by decide +kernel
theorem d_Mod_kernel_50 : decode b_Mod_kernel 50 = .ok (.aload_n 0, 1) := by decide +kernel
theorem d_Mod_kernel_51 : decode b_Mod_kernel 51 = .ok (.getfield 39, 3) := by decide +kernel
theorem d_Mod_kernel_54 : decode b_Mod_kernel 54 = .ok (.iload 5, 2) := by decide +kernel
theorem d_Mod_kernel_56 : decode b_Mod_kernel 56 = .ok (.iaload, 1) := by decide +kernel
theorem d_Mod_kernel_57 : decode b_Mod_kernel 57 = .ok (.iload_n 1, 1) := by decide +kernel
theorem d_Mod_kernel_58 : decode b_Mod_kernel 58 = .ok (.if_icmp .eq 25, 3) := by decide +kernel
theorem d_Mod_kernel_61 : decode b_Mod_kernel 61 = .ok (.aload_n 0, 1) := by decide +kernel
theorem d_Mod_kernel_62 : decode b_Mod_kernel 62 = .ok (.getfield 42, 3) := by decide +kernel
theorem d_Mod_kernel_65 : decode b_Mod_kernel 65 = .ok (.iload 5, 2) := by decide +kernel
theorem d_Mod_kernel_67 : decode b_Mod_kernel 67 = .ok (.iaload, 1) := by decide +kernel
theorem d_Mod_kernel_68 : decode b_Mod_kernel 68 = .ok (.iload_n 2, 1) := by decide +kernel
theorem d_Mod_kernel_69 : decode b_Mod_kernel 69 = .ok (.if_icmp .ne 16, 3) := by decide +kernel
theorem d_Mod_kernel_72 : decode b_Mod_kernel 72 = .ok (.aload_n 0, 1) := by decide +kernel
theorem d_Mod_kernel_73 : decode b_Mod_kernel 73 = .ok (.getfield 45, 3) := by decide +kernel
theorem d_Mod_kernel_76 : decode b_Mod_kernel 76 = .ok (.iload 5, 2) := by decide +kernel
theorem d_Mod_kernel_78 : decode b_Mod_kernel 78 = .ok (.iaload, 1) := by decide +kernel
theorem d_Mod_kernel_79 : decode b_Mod_kernel 79 = .ok (.iload_n 3, 1) := by decide +kernel
theorem d_Mod_kernel_80 : decode b_Mod_kernel 80 = .ok (.if_icmp .ne 5, 3) := by decide +kernel
theorem d_Mod_kernel_83 : decode b_Mod_kernel 83 = .ok (.iconst 0, 1) := by decide +kernel
theorem d_Mod_kernel_84 : decode b_Mod_kernel 84 = .ok (.ireturn, 1) := by decide +kernel
theorem d_Mod_kernel_85 : decode b_Mod_kernel 85 = .ok (.iload 4, 2) := by decide +kernel
theorem d_Mod_kernel_87 : decode b_Mod_kernel 87 = .ok (.aload_n 0, 1) := by decide +kernel
theorem d_Mod_kernel_88 : decode b_Mod_kernel 88 = .ok (.getfield 42, 3) := by decide +kernel
theorem d_Mod_kernel_91 : decode b_Mod_kernel 91 = .ok (.iload 5, 2) := by decide +kernel
theorem d_Mod_kernel_93 : decode b_Mod_kernel 93 = .ok (.iaload, 1) := by decide +kernel
theorem d_Mod_kernel_94 : decode b_Mod_kernel 94 = .ok (.iload_n 2, 1) := by decide +kernel
theorem d_Mod_kernel_95 : decode b_Mod_kernel 95 = .ok (.if_icmp .ne 7, 3) := by decide +kernel
theorem d_Mod_kernel_98 : decode b_Mod_kernel 98 = .ok (.iconst 1, 1) := by decide +kernel
theorem d_Mod_kernel_99 : decode b_Mod_kernel 99 = .ok (.goto 4, 3) := by decide +kernel
theorem d_Mod_kernel_102 : decode b_Mod_kernel 102 = .ok (.iconst 0, 1) := by decide +kernel
theorem d_Mod_kernel_103 : decode b_Mod_kernel 103 = .ok (.iadd, 1) := by decide +kernel
theorem d_Mod_kernel_104 : decode b_Mod_kernel 104 = .ok (.istore 4, 2) := by decide +kernel
theorem d_Mod_kernel_106 : decode b_Mod_kernel 106 = .ok (.iinc 5 1, 3) := by decide +kernel
theorem d_Mod_kernel_109 : decode b_Mod_kernel 109 = .ok (.goto (-68), 3) := by decide +kernel
theorem d_Mod_kernel_112 : decode b_Mod_kernel 112 = .ok (.aload_n 0, 1) := by decide +kernel
theorem d_Mod_kernel_113 : decode b_Mod_kernel 113 = .ok (.iload 4, 2) := by decide +kernel
theorem d_Mod_kernel_115 : decode b_Mod_kernel 115 = .ok (.iconst 2, 1) := by decide +kernel
theorem d_Mod_kernel_116 : decode b_Mod_kernel 116 = .ok (.iload 4, 2) := by decide +kernel
theorem d_Mod_kernel_118 : decode b_Mod_kernel 118 = .ok (.imul, 1) := by decide +kernel
theorem d_Mod_kernel_119 : decode b_Mod_kernel 119 = .ok (.invokevirtual 110, 3) := by decide +kernel
theorem d_Mod_kernel_122 : decode b_Mod_kernel 122 = .ok (.ifCond .ne 5, 3) := by decide +kernel
theorem d_Mod_kernel_125 : decode b_Mod_kernel 125 = .ok (.iconst 0, 1) := by decide +kernel
theorem d_Mod_kernel_126 : decode b_Mod_kernel 126 = .ok (.ireturn, 1) := by decide +kernel
theorem d_Mod_kernel_127 : decode b_Mod_kernel 127 = .ok (.iconst 0, 1) := by decide +kernel
theorem d_Mod_kernel_128 : decode b_Mod_kernel 128 = .ok (.istore 5, 2) := by decide +kernel
theorem d_Mod_kernel_130 : decode b_Mod_kernel 130 = .ok (.iload 5, 2) := by decide +kernel
theorem d_Mod_kernel_132 : decode b_Mod_kernel 132 = .ok (.aload_n 0, 1) := by decide +kernel
theorem d_Mod_kernel_133 : decode b_Mod_kernel 133 = .ok (.getfield 36, 3) := by decide +kernel
theorem d_Mod_kernel_136 : decode b_Mod_kernel 136 = .ok (.if_icmp .ge 45, 3) := by decide +kernel
theorem d_Mod_kernel_139 : decode b_Mod_kernel 139 = .ok (.aload_n 0, 1) := by decide +kernel
theorem d_Mod_kernel_140 : decode b_Mod_kernel 140 = .ok (.getfield 42, 3) := by decide +kernel
theorem d_Mod_kernel_143 : decode b_Mod_kernel 143 = .ok (.iload 5, 2) := by decide +kernel
theorem d_Mod_kernel_145 : decode b_Mod_kernel 145 = .ok (.iaload, 1) := by decide +kernel
theorem d_Mod_kernel_146 : decode b_Mod_kernel 146 = .ok (.iload_n 2, 1) := by decide +kernel
theorem d_Mod_kernel_147 : decode b_Mod_kernel 147 = .ok (.if_icmp .ne 28, 3) := by decide +kernel
theorem d_Mod_kernel_150 : decode b_Mod_kernel 150 = .ok (.aload_n 0, 1) := by decide +kernel
theorem d_Mod_kernel_151 : decode b_Mod_kernel 151 = .ok (.iconst 0, 1) := by decide +kernel
theorem d_Mod_kernel_152 : decode b_Mod_kernel 152 = .ok (.invokevirtual 118, 3) := by decide +kernel
theorem d_Mod_kernel_155 : decode b_Mod_kernel 155 = .ok (.aload_n 0, 1) := by decide +kernel
theorem d_Mod_kernel_156 : decode b_Mod_kernel 156 = .ok (.iconst 2, 1) := by decide +kernel
theorem d_Mod_kernel_157 : decode b_Mod_kernel 157 = .ok (.aload_n 0, 1) := by decide +kernel
theorem d_Mod_kernel_158 : decode b_Mod_kernel 158 = .ok (.getfield 39, 3) := by decide +kernel
theorem d_Mod_kernel_161 : decode b_Mod_kernel 161 = .ok (.iload 5, 2) := by decide +kernel
theorem d_Mod_kernel_163 : decode b_Mod_kernel 163 = .ok (.iaload, 1) := by decide +kernel
theorem d_Mod_kernel_164 : decode b_Mod_kernel 164 = .ok (.imul, 1) := by decide +kernel
theorem d_Mod_kernel_165 : decode b_Mod_kernel 165 = .ok (.invokevirtual 122, 3) := by decide +kernel
theorem d_Mod_kernel_168 : decode b_Mod_kernel 168 = .ok (.aload_n 0, 1) := by decide +kernel
theorem d_Mod_kernel_169 : decode b_Mod_kernel 169 = .ok (.iconst 2, 1) := by decide +kernel
theorem d_Mod_kernel_170 : decode b_Mod_kernel 170 = .ok (.iload_n 1, 1) := by decide +kernel
theorem d_Mod_kernel_171 : decode b_Mod_kernel 171 = .ok (.imul, 1) := by decide +kernel
theorem d_Mod_kernel_172 : decode b_Mod_kernel 172 = .ok (.invokevirtual 122, 3) := by decide +kernel
theorem d_Mod_kernel_175 : decode b_Mod_kernel 175 = .ok (.iinc 5 1, 3) := by decide +kernel
theorem d_Mod_kernel_178 : decode b_Mod_kernel 178 = .ok (.goto (-48), 3) := by decide +kernel
theorem d_Mod_kernel_181 : decode b_Mod_kernel 181 = .ok (.aload_n 0, 1) := by decide +kernel
theorem d_Mod_kernel_182 : decode b_Mod_kernel 182 = .ok (.getfield 39, 3) := by decide +kernel
theorem d_Mod_kernel_185 : decode b_Mod_kernel 185 = .ok (.aload_n 0, 1) := by decide +kernel
theorem d_Mod_kernel_186 : decode b_Mod_kernel 186 = .ok (.getfield 36, 3) := by decide +kernel
theorem d_Mod_kernel_189 : decode b_Mod_kernel 189 = .ok (.iload_n 1, 1) := by decide +kernel
theorem d_Mod_kernel_190 : decode b_Mod_kernel 190 = .ok (.iastore, 1) := by decide +kernel
theorem d_Mod_kernel_191 : decode b_Mod_kernel 191 = .ok (.aload_n 0, 1) := by decide +kernel
theorem d_Mod_kernel_192 : decode b_Mod_kernel 192 = .ok (.getfield 42, 3) := by decide +kernel
theorem d_Mod_kernel_195 : decode b_Mod_kernel 195 = .ok (.aload_n 0, 1) := by decide +kernel
theorem d_Mod_kernel_196 : decode b_Mod_kernel 196 = .ok (.getfield 36, 3) := by decide +kernel
theorem d_Mod_kernel_199 : decode b_Mod_kernel 199 = .ok (.iload_n 2, 1) := by decide +kernel
theorem d_Mod_kernel_200 : decode b_Mod_kernel 200 = .ok (.iastore, 1) := by decide +kernel
theorem d_Mod_kernel_201 : decode b_Mod_kernel 201 = .ok (.aload_n 0, 1) := by decide +kernel
theorem d_Mod_kernel_202 : decode b_Mod_kernel 202 = .ok (.getfield 45, 3) := by decide +kernel
theorem d_Mod_kernel_205 : decode b_Mod_kernel 205 = .ok (.aload_n 0, 1) := by decide +kernel
theorem d_Mod_kernel_206 : decode b_Mod_kernel 206 = .ok (.getfield 36, 3) := by decide +kernel
theorem d_Mod_kernel_209 : decode b_Mod_kernel 209 = .ok (.iload_n 3, 1) := by decide +kernel
theorem d_Mod_kernel_210 : decode b_Mod_kernel 210 = .ok (.iastore, 1) := by decide +kernel
theorem d_Mod_kernel_211 : decode b_Mod_kernel 211 = .ok (.aload_n 0, 1) := by decide +kernel
theorem d_Mod_kernel_212 : decode b_Mod_kernel 212 = .ok (.dup, 1) := by decide +kernel
theorem d_Mod_kernel_213 : decode b_Mod_kernel 213 = .ok (.getfield 36, 3) := by decide +kernel
theorem d_Mod_kernel_216 : decode b_Mod_kernel 216 = .ok (.iconst 1, 1) := by decide +kernel
theorem d_Mod_kernel_217 : decode b_Mod_kernel 217 = .ok (.iadd, 1) := by decide +kernel
theorem d_Mod_kernel_218 : decode b_Mod_kernel 218 = .ok (.putfield 36, 3) := by decide +kernel
theorem d_Mod_kernel_221 : decode b_Mod_kernel 221 = .ok (.aload_n 0, 1) := by decide +kernel
theorem d_Mod_kernel_222 : decode b_Mod_kernel 222 = .ok (.iconst 1, 1) := by decide +kernel
theorem d_Mod_kernel_223 : decode b_Mod_kernel 223 = .ok (.putfield 82, 3) := by decide +kernel
theorem d_Mod_kernel_226 : decode b_Mod_kernel 226 = .ok (.iconst 1, 1) := by decide +kernel
theorem d_Mod_kernel_227 : decode b_Mod_kernel 227 = .ok (.ireturn, 1) := by decide +kernel
theorem d_Mod_run_0 : decode b_Mod_run 0 = .ok (.aload_n 0, 1) := by decide +kernel
theorem d_Mod_run_1 : decode b_Mod_run 1 = .ok (.iconst 0, 1) := by decide +kernel
theorem d_Mod_run_2 : decode b_Mod_run 2 = .ok (.putfield 7, 3) := by decide +kernel
theorem d_Mod_run_5 : decode b_Mod_run 5 = .ok (.iconst 0, 1) := by decide +kernel
theorem d_Mod_run_6 : decode b_Mod_run 6 = .ok (.istore_n 3, 1) := by decide +kernel
theorem d_Mod_run_7 : decode b_Mod_run 7 = .ok (.iload_n 3, 1) := by decide +kernel
theorem d_Mod_run_8 : decode b_Mod_run 8 = .ok (.sipush 300, 3) := by decide +kernel
theorem d_Mod_run_11 : decode b_Mod_run 11 = .ok (.if_icmp .ge 16, 3) := by decide +kernel
theorem d_Mod_run_14 : decode b_Mod_run 14 = .ok (.aload_n 0, 1) := by decide +kernel
theorem d_Mod_run_15 : decode b_Mod_run 15 = .ok (.getfield 67, 3) := by decide +kernel
theorem d_Mod_run_18 : decode b_Mod_run 18 = .ok (.iload_n 3, 1) := by decide +kernel
theorem d_Mod_run_19 : decode b_Mod_run 19 = .ok (.iconst 0, 1) := by decide +kernel
theorem d_Mod_run_20 : decode b_Mod_run 20 = .ok (.iastore, 1) := by decide +kernel
theorem d_Mod_run_21 : decode b_Mod_run 21 = .ok (.iinc 3 1, 3) := by decide +kernel
theorem d_Mod_run_24 : decode b_Mod_run 24 = .ok (.goto (-17), 3) := by decide +kernel
theorem d_Mod_run_27 : decode b_Mod_run 27 = .ok (.aload_n 0, 1) := by decide +kernel
theorem d_Mod_run_28 : decode b_Mod_run 28 = .ok (.iconst 0, 1) := by decide +kernel
theorem d_Mod_run_29 : decode b_Mod_run 29 = .ok (.putfield 61, 3) := by decide +kernel
theorem d_Mod_run_32 : decode b_Mod_run 32 = .ok (.aload_n 0, 1) := by decide +kernel
theorem d_Mod_run_33 : decode b_Mod_run 33 = .ok (.iconst 0, 1) := by decide +kernel
theorem d_Mod_run_34 : decode b_Mod_run 34 = .ok (.putfield 79, 3) := by decide +kernel
theorem d_Mod_run_37 : decode b_Mod_run 37 = .ok (.aload_n 0, 1) := by decide +kernel
theorem d_Mod_run_38 : decode b_Mod_run 38 = .ok (.lconst 0, 1) := by decide +kernel
theorem d_Mod_run_39 : decode b_Mod_run 39 = .ok (.putfield 89, 3) := by decide +kernel
theorem d_Mod_run_42 : decode b_Mod_run 42 = .ok (.aload_n 0, 1) := by decide +kernel
theorem d_Mod_run_43 : decode b_Mod_run 43 = .ok (.lload_n 1, 1) := by decide +kernel
theorem d_Mod_run_44 : decode b_Mod_run 44 = .ok (.invokevirtual 152, 3) := by decide +kernel
theorem d_Mod_run_47 : decode b_Mod_run 47 = .ok (.aload_n 0, 1) := by decide +kernel
theorem d_Mod_run_48 : decode b_Mod_run 48 = .ok (.getfield 82, 3) := by decide +kernel
theorem d_Mod_run_51 : decode b_Mod_run 51 = .ok (.ireturn, 1) := by decide +kernel
theorem d_Mod_goOn_0 : decode b_Mod_goOn 0 = .ok (.aload_n 0, 1) := by decide +kernel
theorem d_Mod_goOn_1 : decode b_Mod_goOn 1 = .ok (.iconst 0, 1) := by decide +kernel
theorem d_Mod_goOn_2 : decode b_Mod_goOn 2 = .ok (.putfield 7, 3) := by decide +kernel
theorem d_Mod_goOn_5 : decode b_Mod_goOn 5 = .ok (.aload_n 0, 1) := by decide +kernel
theorem d_Mod_goOn_6 : decode b_Mod_goOn 6 = .ok (.getfield 82, 3) := by decide +kernel
theorem d_Mod_goOn_9 : decode b_Mod_goOn 9 = .ok (.iconst 3, 1) := by decide +kernel
theorem d_Mod_goOn_10 : decode b_Mod_goOn 10 = .ok (.if_icmp .eq 5, 3) := by decide +kernel
theorem d_Mod_goOn_13 : decode b_Mod_goOn 13 = .ok (.iconst 0, 1) := by decide +kernel
theorem d_Mod_goOn_14 : decode b_Mod_goOn 14 = .ok (.ireturn, 1) := by decide +kernel
theorem d_Mod_goOn_15 : decode b_Mod_goOn 15 = .ok (.aload_n 0, 1) := by decide +kernel
theorem d_Mod_goOn_16 : decode b_Mod_goOn 16 = .ok (.lload_n 1, 1) := by decide +kernel
theorem d_Mod_goOn_17 : decode b_Mod_goOn 17 = .ok (.invokevirtual 152, 3) := by decide +kernel
theorem d_Mod_goOn_20 : decode b_Mod_goOn 20 = .ok (.aload_n 0, 1) := by decide +kernel
theorem d_Mod_goOn_21 : decode b_Mod_goOn 21 = .ok (.getfield 82, 3) := by decide +kernel
theorem d_Mod_goOn_24 : decode b_Mod_goOn 24 = .ok (.iconst 3, 1) := by decide +kernel
theorem d_Mod_goOn_25 : decode b_Mod_goOn 25 = .ok (.if_icmp .eq 7, 3) := by decide +kernel
theorem d_Mod_goOn_28 : decode b_Mod_goOn 28 = .ok (.iconst 1, 1) := by decide +kernel
theorem d_Mod_goOn_29 : decode b_Mod_goOn 29 = .ok (.goto 4, 3) := by decide +kernel
theorem d_Mod_goOn_32 : decode b_Mod_goOn 32 = .ok (.iconst 0, 1) := by decide +kernel
theorem d_Mod_goOn_33 : decode b_Mod_goOn 33 = .ok (.ireturn, 1) := by decide +kernel
theorem d_Mod_truth_0 : decode b_Mod_truth 0 = .ok (.aload_n 0, 1) := by decide +kernel
theorem d_Mod_truth_1 : decode b_Mod_truth 1 = .ok (.iconst 0, 1) := by decide +kernel
theorem d_Mod_truth_2 : decode b_Mod_truth 2 = .ok (.putfield 7, 3) := by decide +kernel
theorem d_Mod_truth_5 : decode b_Mod_truth 5 = .ok (.aload_n 0, 1) := by decide +kernel
theorem d_Mod_truth_6 : decode b_Mod_truth 6 = .ok (.getfield 82, 3) := by decide +kernel
theorem d_Mod_truth_9 : decode b_Mod_truth 9 = .ok (.ifCond .ne 25, 3) := by decide +kernel
theorem d_Mod_truth_12 : decode b_Mod_truth 12 = .ok (.aload_n 0, 1) := by decide +kernel
theorem d_Mod_truth_13 : decode b_Mod_truth 13 = .ok (.iload_n 1, 1) := by decide +kernel
theorem d_Mod_truth_14 : decode b_Mod_truth 14 = .ok (.invokevirtual 148, 3) := by decide +kernel
theorem d_Mod_truth_17 : decode b_Mod_truth 17 = .ok (.ifCond .ne 17, 3) := by decide +kernel
theorem d_Mod_truth_20 : decode b_Mod_truth 20 = .ok (.aload_n 0, 1) := by decide +kernel
theorem d_Mod_truth_21 : decode b_Mod_truth 21 = .ok (.getfield 67, 3) := by decide +kernel
theorem d_Mod_truth_24 : decode b_Mod_truth 24 = .ok (.iload_n 1, 1) := by decide +kernel
theorem d_Mod_truth_25 : decode b_Mod_truth 25 = .ok (.iaload, 1) := by decide +kernel
theorem d_Mod_truth_26 : decode b_Mod_truth 26 = .ok (.iconst 2, 1) := by decide +kernel
theorem d_Mod_truth_27 : decode b_Mod_truth 27 = .ok (.if_icmp .ne 7, 3) := by decide +kernel
theorem d_Mod_truth_30 : decode b_Mod_truth 30 = .ok (.iconst 1, 1) := by decide +kernel
theorem d_Mod_truth_31 : decode b_Mod_truth 31 = .ok (.goto 4, 3) := by decide +kernel
theorem d_Mod_truth_34 : decode b_Mod_truth 34 = .ok (.iconst 0, 1) := by decide +kernel
theorem d_Mod_truth_35 : decode b_Mod_truth 35 = .ok (.ireturn, 1) := by decide +kernel
theorem d_Mod_block_0 : decode b_Mod_block 0 = .ok (.aload_n 0, 1) := by decide +kernel
theorem d_Mod_block_1 : decode b_Mod_block 1 = .ok (.iconst 0, 1) := by decide +kernel
theorem d_Mod_block_2 : decode b_Mod_block 2 = .ok (.putfield 7, 3) := by decide +kernel
theorem d_Mod_block_5 : decode b_Mod_block 5 = .ok (.aload_n 0, 1) := by decide +kernel
theorem d_Mod_block_6 : decode b_Mod_block 6 = .ok (.getfield 82, 3) := by decide +kernel
theorem d_Mod_block_9 : decode b_Mod_block 9 = .ok (.ifCond .ne 15, 3) := by decide +kernel
theorem d_Mod_block_12 : decode b_Mod_block 12 = .ok (.aload_n 0, 1) := by decide +kernel
theorem d_Mod_block_13 : decode b_Mod_block 13 = .ok (.iconst 1, 1) := by decide +kernel
theorem d_Mod_block_14 : decode b_Mod_block 14 = .ok (.aload_n 0, 1) := by decide +kernel
theorem d_Mod_block_15 : decode b_Mod_block 15 = .ok (.getfield 13, 3) := by decide +kernel
theorem d_Mod_block_18 : decode b_Mod_block 18 = .ok (.invokevirtual 110, 3) := by decide +kernel
theorem d_Mod_block_21 : decode b_Mod_block 21 = .ok (.ifCond .ne 5, 3) := by decide +kernel
theorem d_Mod_block_24 : decode b_Mod_block 24 = .ok (.iconst 0, 1) := by decide +kernel
theorem d_Mod_block_25 : decode b_Mod_block 25 = .ok (.ireturn, 1) := by decide +kernel
theorem d_Mod_block_26 : decode b_Mod_block 26 = .ok (.aload_n 0, 1) := by decide +kernel
theorem d_Mod_block_27 : decode b_Mod_block 27 = .ok (.iconst 0, 1) := by decide +kernel
theorem d_Mod_block_28 : decode b_Mod_block 28 = .ok (.invokevirtual 118, 3) := by decide +kernel
theorem d_Mod_block_31 : decode b_Mod_block 31 = .ok (.iconst 0, 1) := by decide +kernel
theorem d_Mod_block_32 : decode b_Mod_block 32 = .ok (.istore_n 1, 1) := by decide +kernel
theorem d_Mod_block_33 : decode b_Mod_block 33 = .ok (.iload_n 1, 1) := by decide +kernel
theorem d_Mod_block_34 : decode b_Mod_block 34 = .ok (.aload_n 0, 1) := by decide +kernel
theorem d_Mod_block_35 : decode b_Mod_block 35 = .ok (.getfield 13, 3) := by decide +kernel
theorem d_Mod_block_38 : decode b_Mod_block 38 = .ok (.if_icmp .ge 32, 3) := by decide +kernel
theorem d_Mod_block_41 : decode b_Mod_block 41 = .ok (.aload_n 0, 1) := by decide +kernel
theorem d_Mod_block_42 : decode b_Mod_block 42 = .ok (.iconst 2, 1) := by decide +kernel
theorem d_Mod_block_43 : decode b_Mod_block 43 = .ok (.iload_n 1, 1) := by decide +kernel
theorem d_Mod_block_44 : decode b_Mod_block 44 = .ok (.imul, 1) := by decide +kernel
theorem d_Mod_block_45 : decode b_Mod_block 45 = .ok (.aload_n 0, 1) := by decide +kernel
theorem d_Mod_block_46 : decode b_Mod_block 46 = .ok (.getfield 67, 3) := by decide +kernel
theorem d_Mod_block_49 : decode b_Mod_block 49 = .ok (.iload_n 1, 1) := by decide +kernel
theorem d_Mod_block_50 : decode b_Mod_block 50 = .ok (.iaload, 1) := by decide +kernel
theorem d_Mod_block_51 : decode b_Mod_block 51 = .ok (.iconst 2, 1) := by decide +kernel
theorem d_Mod_block_52 : decode b_Mod_block 52 = .ok (.if_icmp .ne 7, 3) := by decide +kernel
theorem d_Mod_block_55 : decode b_Mod_block 55 = .ok (.iconst 0, 1) := by decide +kernel
theorem d_Mod_block_56 : decode b_Mod_block 56 = .ok (.goto 4, 3) := by decide +kernel
theorem d_Mod_block_59 : decode b_Mod_block 59 = .ok (.iconst 1, 1) := by decide +kernel
theorem d_Mod_block_60 : decode b_Mod_block 60 = .ok (.iadd, 1) := by decide +kernel
theorem d_Mod_block_61 : decode b_Mod_block 61 = .ok (.invokevirtual 122, 3) := by decide +kernel
theorem d_Mod_block_64 : decode b_Mod_block 64 = .ok (.iinc 1 1, 3) := by decide +kernel
theorem d_Mod_block_67 : decode b_Mod_block 67 = .ok (.goto (-34), 3) := by decide +kernel
theorem d_Mod_block_70 : decode b_Mod_block 70 = .ok (.aload_n 0, 1) := by decide +kernel
theorem d_Mod_block_71 : decode b_Mod_block 71 = .ok (.iconst 1, 1) := by decide +kernel
theorem d_Mod_block_72 : decode b_Mod_block 72 = .ok (.putfield 82, 3) := by decide +kernel
theorem d_Mod_block_75 : decode b_Mod_block 75 = .ok (.iconst 1, 1) := by decide +kernel
theorem d_Mod_block_76 : decode b_Mod_block 76 = .ok (.ireturn, 1) := by decide +kernel
theorem d_Mod_assume_0 : decode b_Mod_assume 0 = .ok (.aload_n 0, 1) := by decide +kernel
theorem d_Mod_assume_1 : decode b_Mod_assume 1 = .ok (.iconst 0, 1) := by decide +kernel
theorem d_Mod_assume_2 : decode b_Mod_assume 2 = .ok (.putfield 7, 3) := by decide +kernel
theorem d_Mod_assume_5 : decode b_Mod_assume 5 = .ok (.aload_n 0, 1) := by decide +kernel
theorem d_Mod_assume_6 : decode b_Mod_assume 6 = .ok (.iload_n 1, 1) := by decide +kernel
theorem d_Mod_assume_7 : decode b_Mod_assume 7 = .ok (.invokevirtual 148, 3) := by decide +kernel
theorem d_Mod_assume_10 : decode b_Mod_assume 10 = .ok (.ifCond .ne 12, 3) := by decide +kernel
theorem d_Mod_assume_13 : decode b_Mod_assume 13 = .ok (.aload_n 0, 1) := by decide +kernel
theorem d_Mod_assume_14 : decode b_Mod_assume 14 = .ok (.getfield 48, 3) := by decide +kernel
theorem d_Mod_assume_17 : decode b_Mod_assume 17 = .ok (.bipush 40, 2) := by decide +kernel
theorem d_Mod_assume_19 : decode b_Mod_assume 19 = .ok (.if_icmp .ne 5, 3) := by decide +kernel
theorem d_Mod_assume_22 : decode b_Mod_assume 22 = .ok (.iconst 0, 1) := by decide +kernel
theorem d_Mod_assume_23 : decode b_Mod_assume 23 = .ok (.ireturn, 1) := by decide +kernel
theorem d_Mod_assume_24 : decode b_Mod_assume 24 = .ok (.iconst 0, 1) := by decide +kernel
theorem d_Mod_assume_25 : decode b_Mod_assume 25 = .ok (.istore_n 3, 1) := by decide +kernel
theorem d_Mod_assume_26 : decode b_Mod_assume 26 = .ok (.iload_n 3, 1) := by decide +kernel
theorem d_Mod_assume_27 : decode b_Mod_assume 27 = .ok (.aload_n 0, 1) := by decide +kernel
theorem d_Mod_assume_28 : decode b_Mod_assume 28 = .ok (.getfield 48, 3) := by decide +kernel
theorem d_Mod_assume_31 : decode b_Mod_assume 31 = .ok (.if_icmp .ge 23, 3) := by decide +kernel
theorem d_Mod_assume_34 : decode b_Mod_assume 34 = .ok (.aload_n 0, 1) := by decide +kernel
theorem d_Mod_assume_35 : decode b_Mod_assume 35 = .ok (.getfield 51, 3) := by decide +kernel
theorem d_Mod_assume_38 : decode b_Mod_assume 38 = .ok (.iload_n 3, 1) := by decide +kernel
theorem d_Mod_assume_39 : decode b_Mod_assume 39 = .ok (.iaload, 1) := by decide +kernel
theorem d_Mod_assume_40 : decode b_Mod_assume 40 = .ok (.iconst 2, 1) := by decide +kernel
theorem d_Mod_assume_41 : decode b_Mod_assume 41 = .ok (.idiv, 1) := by decide +kernel
theorem d_Mod_assume_42 : decode b_Mod_assume 42 = .ok (.iload_n 1, 1) := by decide +kernel
theorem d_Mod_assume_43 : decode b_Mod_assume 43 = .ok (.if_icmp .ne 5, 3) := by decide +kernel
theorem d_Mod_assume_46 : decode b_Mod_assume 46 = .ok (.iconst 0, 1) := by decide +kernel
theorem d_Mod_assume_47 : decode b_Mod_assume 47 = .ok (.ireturn, 1) := by decide +kernel
theorem d_Mod_assume_48 : decode b_Mod_assume 48 = .ok (.iinc 3 1, 3) := by decide +kernel
theorem d_Mod_assume_51 : decode b_Mod_assume 51 = .ok (.goto (-25), 3) := by decide +kernel
theorem d_Mod_assume_54 : decode b_Mod_assume 54 = .ok (.aload_n 0, 1) := by decide +kernel
theorem d_Mod_assume_55 : decode b_Mod_assume 55 = .ok (.getfield 51, 3) := by decide +kernel
theorem d_Mod_assume_58 : decode b_Mod_assume 58 = .ok (.aload_n 0, 1) := by decide +kernel
theorem d_Mod_assume_59 : decode b_Mod_assume 59 = .ok (.getfield 48, 3) := by decide +kernel
theorem d_Mod_assume_62 : decode b_Mod_assume 62 = .ok (.iconst 2, 1) := by decide +kernel
theorem d_Mod_assume_63 : decode b_Mod_assume 63 = .ok (.iload_n 1, 1) := by decide +kernel
theorem d_Mod_assume_64 : decode b_Mod_assume 64 = .ok (.imul, 1) := by decide +kernel
theorem d_Mod_assume_65 : decode b_Mod_assume 65 = .ok (.iload_n 2, 1) := by decide +kernel
theorem d_Mod_assume_66 : decode b_Mod_assume 66 = .ok (.ifCond .eq 7, 3) := by decide +kernel
theorem d_Mod_assume_69 : decode b_Mod_assume 69 = .ok (.iconst 1, 1) := by decide +kernel
theorem d_Mod_assume_70 : decode b_Mod_assume 70 = .ok (.goto 4, 3) := by decide +kernel
theorem d_Mod_assume_73 : decode b_Mod_assume 73 = .ok (.iconst 0, 1) := by decide +kernel
theorem d_Mod_assume_74 : decode b_Mod_assume 74 = .ok (.iadd, 1) := by decide +kernel
theorem d_Mod_assume_75 : decode b_Mod_assume 75 = .ok (.iastore, 1) := by decide +kernel
theorem d_Mod_assume_76 : decode b_Mod_assume 76 = .ok (.aload_n 0, 1) := by decide +kernel
theorem d_Mod_assume_77 : decode b_Mod_assume 77 = .ok (.dup, 1) := by decide +kernel
theorem d_Mod_assume_78 : decode b_Mod_assume 78 = .ok (.getfield 48, 3) := by decide +kernel
theorem d_Mod_assume_81 : decode b_Mod_assume 81 = .ok (.iconst 1, 1) := by decide +kernel
theorem d_Mod_assume_82 : decode b_Mod_assume 82 = .ok (.iadd, 1) := by decide +kernel
theorem d_Mod_assume_83 : decode b_Mod_assume 83 = .ok (.putfield 48, 3) := by decide +kernel
theorem d_Mod_assume_86 : decode b_Mod_assume 86 = .ok (.aload_n 0, 1) := by decide +kernel
theorem d_Mod_assume_87 : decode b_Mod_assume 87 = .ok (.iconst 1, 1) := by decide +kernel
theorem d_Mod_assume_88 : decode b_Mod_assume 88 = .ok (.putfield 82, 3) := by decide +kernel
theorem d_Mod_assume_91 : decode b_Mod_assume 91 = .ok (.iconst 1, 1) := by decide +kernel
theorem d_Mod_assume_92 : decode b_Mod_assume 92 = .ok (.ireturn, 1) := by decide +kernel
theorem d_Mod_freely_0 : decode b_Mod_freely 0 = .ok (.aload_n 0, 1) := by decide +kernel
theorem d_Mod_freely_1 : decode b_Mod_freely 1 = .ok (.iconst 0, 1) := by decide +kernel
theorem d_Mod_freely_2 : decode b_Mod_freely 2 = .ok (.putfield 7, 3) := by decide +kernel
theorem d_Mod_freely_5 : decode b_Mod_freely 5 = .ok (.aload_n 0, 1) := by decide +kernel
theorem d_Mod_freely_6 : decode b_Mod_freely 6 = .ok (.iconst 0, 1) := by decide +kernel
theorem d_Mod_freely_7 : decode b_Mod_freely 7 = .ok (.putfield 48, 3) := by decide +kernel
theorem d_Mod_freely_10 : decode b_Mod_freely 10 = .ok (.aload_n 0, 1) := by decide +kernel
theorem d_Mod_freely_11 : decode b_Mod_freely 11 = .ok (.iconst 1, 1) := by decide +kernel
theorem d_Mod_freely_12 : decode b_Mod_freely 12 = .ok (.putfield 82, 3) := by decide +kernel
theorem d_Mod_freely_15 : decode b_Mod_freely 15 = .ok (.return_, 1) := by decide +kernel
theorem d_Mod_core_0 : decode b_Mod_core 0 = .ok (.aload_n 0, 1) := by decide +kernel
theorem d_Mod_core_1 : decode b_Mod_core 1 = .ok (.iconst 0, 1) := by decide +kernel
theorem d_Mod_core_2 : decode b_Mod_core 2 = .ok (.putfield 7, 3) := by decide +kernel
theorem d_Mod_core_5 : decode b_Mod_core 5 = .ok (.aload_n 0, 1) := by decide +kernel
theorem d_Mod_core_6 : decode b_Mod_core 6 = .ok (.getfield 82, 3) := by decide +kernel
theorem d_Mod_core_9 : decode b_Mod_core 9 = .ok (.iconst 2, 1) := by decide +kernel
theorem d_Mod_core_10 : decode b_Mod_core 10 = .ok (.if_icmp .ne 14, 3) := by decide +kernel
theorem d_Mod_core_13 : decode b_Mod_core 13 = .ok (.aload_n 0, 1) := by decide +kernel
theorem d_Mod_core_14 : decode b_Mod_core 14 = .ok (.getfield 54, 3) := by decide +kernel
theorem d_Mod_core_17 : decode b_Mod_core 17 = .ok (.ifCond .eq 7, 3) := by decide +kernel
theorem d_Mod_core_20 : decode b_Mod_core 20 = .ok (.iload_n 1, 1) := by decide +kernel
theorem d_Mod_core_21 : decode b_Mod_core 21 = .ok (.ifCond .ge 5, 3) := by decide +kernel
theorem d_Mod_core_24 : decode b_Mod_core 24 = .ok (.iconst (-1), 1) := by decide +kernel
theorem d_Mod_core_25 : decode b_Mod_core 25 = .ok (.ireturn, 1) := by decide +kernel
theorem d_Mod_core_26 : decode b_Mod_core 26 = .ok (.iconst 0, 1) := by decide +kernel
theorem d_Mod_core_27 : decode b_Mod_core 27 = .ok (.istore_n 2, 1) := by decide +kernel
theorem d_Mod_core_28 : decode b_Mod_core 28 = .ok (.iconst 0, 1) := by decide +kernel
theorem d_Mod_core_29 : decode b_Mod_core 29 = .ok (.istore_n 3, 1) := by decide +kernel
theorem d_Mod_core_30 : decode b_Mod_core 30 = .ok (.iload_n 3, 1) := by decide +kernel
theorem d_Mod_core_31 : decode b_Mod_core 31 = .ok (.aload_n 0, 1) := by decide +kernel
theorem d_Mod_core_32 : decode b_Mod_core 32 = .ok (.getfield 48, 3) := by decide +kernel
theorem d_Mod_core_35 : decode b_Mod_core 35 = .ok (.if_icmp .ge 33, 3) := by decide +kernel
theorem d_Mod_core_38 : decode b_Mod_core 38 = .ok (.aload_n 0, 1) := by decide +kernel
theorem d_Mod_core_39 : decode b_Mod_core 39 = .ok (.getfield 58, 3) := by decide +kernel
theorem d_Mod_core_42 : decode b_Mod_core 42 = .ok (.iload_n 3, 1) := by decide +kernel
theorem d_Mod_core_43 : decode b_Mod_core 43 = .ok (.baload, 1) := by decide +kernel
theorem d_Mod_core_44 : decode b_Mod_core 44 = .ok (.ifCond .eq 18, 3) := by decide +kernel
theorem d_Mod_core_47 : decode b_Mod_core 47 = .ok (.iload_n 2, 1) := by decide +kernel
theorem d_Mod_core_48 : decode b_Mod_core 48 = .ok (.iload_n 1, 1) := by decide +kernel
theorem d_Mod_core_49 : decode b_Mod_core 49 = .ok (.if_icmp .ne 10, 3) := by decide +kernel
theorem d_Mod_core_52 : decode b_Mod_core 52 = .ok (.aload_n 0, 1) := by decide +kernel
theorem d_Mod_core_53 : decode b_Mod_core 53 = .ok (.getfield 51, 3) := by decide +kernel
theorem d_Mod_core_56 : decode b_Mod_core 56 = .ok (.iload_n 3, 1) := by decide +kernel
theorem d_Mod_core_57 : decode b_Mod_core 57 = .ok (.iaload, 1) := by decide +kernel
theorem d_Mod_core_58 : decode b_Mod_core 58 = .ok (.ireturn, 1) := by decide +kernel
theorem d_Mod_core_59 : decode b_Mod_core 59 = .ok (.iinc 2 1, 3) := by decide +kernel
theorem d_Mod_core_62 : decode b_Mod_core 62 = .ok (.iinc 3 1, 3) := by decide +kernel
theorem d_Mod_core_65 : decode b_Mod_core 65 = .ok (.goto (-35), 3) := by decide +kernel
theorem d_Mod_core_68 : decode b_Mod_core 68 = .ok (.iconst (-1), 1) := by decide +kernel
theorem d_Mod_core_69 : decode b_Mod_core 69 = .ok (.ireturn, 1) := by decide +kernel
theorem d_Mod_rows_0 : decode b_Mod_rows 0 = .ok (.aload_n 0, 1) := by decide +kernel
theorem d_Mod_rows_1 : decode b_Mod_rows 1 = .ok (.iconst 0, 1) := by decide +kernel
theorem d_Mod_rows_2 : decode b_Mod_rows 2 = .ok (.putfield 7, 3) := by decide +kernel
theorem d_Mod_rows_5 : decode b_Mod_rows 5 = .ok (.aload_n 0, 1) := by decide +kernel
theorem d_Mod_rows_6 : decode b_Mod_rows 6 = .ok (.getfield 30, 3) := by decide +kernel
theorem d_Mod_rows_9 : decode b_Mod_rows 9 = .ok (.ireturn, 1) := by decide +kernel
theorem d_Mod_row_0 : decode b_Mod_row 0 = .ok (.aload_n 0, 1) := by decide +kernel
theorem d_Mod_row_1 : decode b_Mod_row 1 = .ok (.iconst 0, 1) := by decide +kernel
theorem d_Mod_row_2 : decode b_Mod_row 2 = .ok (.putfield 7, 3) := by decide +kernel
theorem d_Mod_row_5 : decode b_Mod_row 5 = .ok (.iload_n 1, 1) := by decide +kernel
theorem d_Mod_row_6 : decode b_Mod_row 6 = .ok (.ifCond .lt 44, 3) := by decide +kernel
theorem d_Mod_row_9 : decode b_Mod_row 9 = .ok (.iload_n 1, 1) := by decide +kernel
theorem d_Mod_row_10 : decode b_Mod_row 10 = .ok (.aload_n 0, 1) := by decide +kernel
theorem d_Mod_row_11 : decode b_Mod_row 11 = .ok (.getfield 30, 3) := by decide +kernel
theorem d_Mod_row_14 : decode b_Mod_row 14 = .ok (.if_icmp .ge 36, 3) := by decide +kernel
theorem d_Mod_row_17 : decode b_Mod_row 17 = .ok (.iload_n 2, 1) := by decide +kernel
theorem d_Mod_row_18 : decode b_Mod_row 18 = .ok (.ifCond .lt 32, 3) := by decide +kernel
theorem d_Mod_row_21 : decode b_Mod_row 21 = .ok (.iload_n 2, 1) := by decide +kernel
theorem d_Mod_row_22 : decode b_Mod_row 22 = .ok (.aload_n 0, 1) := by decide +kernel
theorem d_Mod_row_23 : decode b_Mod_row 23 = .ok (.getfield 20, 3) := by decide +kernel
theorem d_Mod_row_26 : decode b_Mod_row 26 = .ok (.aload_n 0, 1) := by decide +kernel
theorem d_Mod_row_27 : decode b_Mod_row 27 = .ok (.getfield 33, 3) := by decide +kernel
theorem d_Mod_row_30 : decode b_Mod_row 30 = .ok (.iload_n 1, 1) := by decide +kernel
theorem d_Mod_row_31 : decode b_Mod_row 31 = .ok (.iaload, 1) := by decide +kernel
theorem d_Mod_row_32 : decode b_Mod_row 32 = .ok (.iconst 1, 1) := by decide +kernel
theorem d_Mod_row_33 : decode b_Mod_row 33 = .ok (.iadd, 1) := by decide +kernel
theorem d_Mod_row_34 : decode b_Mod_row 34 = .ok (.iaload, 1) := by decide +kernel
theorem d_Mod_row_35 : decode b_Mod_row 35 = .ok (.aload_n 0, 1) := by decide +kernel
theorem d_Mod_row_36 : decode b_Mod_row 36 = .ok (.getfield 20, 3) := by decide +kernel
theorem d_Mod_row_39 : decode b_Mod_row 39 = .ok (.aload_n 0, 1) := by decide +kernel
theorem d_Mod_row_40 : decode b_Mod_row 40 = .ok (.getfield 33, 3) := by decide +kernel
theorem d_Mod_row_43 : decode b_Mod_row 43 = .ok (.iload_n 1, 1) := by decide +kernel
theorem d_Mod_row_44 : decode b_Mod_row 44 = .ok (.iaload, 1) := by decide +kernel
theorem d_Mod_row_45 : decode b_Mod_row 45 = .ok (.iaload, 1) := by decide +kernel
theorem d_Mod_row_46 : decode b_Mod_row 46 = .ok (.isub, 1) := by decide +kernel
theorem d_Mod_row_47 : decode b_Mod_row 47 = .ok (.if_icmp .lt 5, 3) := by decide +kernel
theorem d_Mod_row_50 : decode b_Mod_row 50 = .ok (.iconst (-1), 1) := by decide +kernel
theorem d_Mod_row_51 : decode b_Mod_row 51 = .ok (.ireturn, 1) := by decide +kernel
theorem d_Mod_row_52 : decode b_Mod_row 52 = .ok (.aload_n 0, 1) := by decide +kernel
theorem d_Mod_row_53 : decode b_Mod_row 53 = .ok (.getfield 16, 3) := by decide +kernel
theorem d_Mod_row_56 : decode b_Mod_row 56 = .ok (.aload_n 0, 1) := by decide +kernel
theorem d_Mod_row_57 : decode b_Mod_row 57 = .ok (.getfield 20, 3) := by decide +kernel
theorem d_Mod_row_60 : decode b_Mod_row 60 = .ok (.aload_n 0, 1) := by decide +kernel
theorem d_Mod_row_61 : decode b_Mod_row 61 = .ok (.getfield 33, 3) := by decide +kernel
theorem d_Mod_row_64 : decode b_Mod_row 64 = .ok (.iload_n 1, 1) := by decide +kernel
theorem d_Mod_row_65 : decode b_Mod_row 65 = .ok (.iaload, 1) := by decide +kernel
theorem d_Mod_row_66 : decode b_Mod_row 66 = .ok (.iaload, 1) := by decide +kernel
theorem d_Mod_row_67 : decode b_Mod_row 67 = .ok (.iload_n 2, 1) := by decide +kernel
theorem d_Mod_row_68 : decode b_Mod_row 68 = .ok (.iadd, 1) := by decide +kernel
theorem d_Mod_row_69 : decode b_Mod_row 69 = .ok (.iaload, 1) := by decide +kernel
theorem d_Mod_row_70 : decode b_Mod_row 70 = .ok (.ireturn, 1) := by decide +kernel
theorem d_Mod_numberOf_0 : decode b_Mod_numberOf 0 = .ok (.aload_n 0, 1) := by decide +kernel
theorem d_Mod_numberOf_1 : decode b_Mod_numberOf 1 = .ok (.iconst 0, 1) := by decide +kernel
theorem d_Mod_numberOf_2 : decode b_Mod_numberOf 2 = .ok (.putfield 7, 3) := by decide +kernel
theorem d_Mod_numberOf_5 : decode b_Mod_numberOf 5 = .ok (.iload_n 1, 1) := by decide +kernel
theorem d_Mod_numberOf_6 : decode b_Mod_numberOf 6 = .ok (.ifCond .lt 11, 3) := by decide +kernel
theorem d_Mod_numberOf_9 : decode b_Mod_numberOf 9 = .ok (.iload_n 1, 1) := by decide +kernel
theorem d_Mod_numberOf_10 : decode b_Mod_numberOf 10 = .ok (.aload_n 0, 1) := by decide +kernel
theorem d_Mod_numberOf_11 : decode b_Mod_numberOf 11 = .ok (.getfield 30, 3) := by decide +kernel
theorem d_Mod_numberOf_14 : decode b_Mod_numberOf 14 = .ok (.if_icmp .lt 7, 3) := by decide +kernel
theorem d_Mod_numberOf_17 : decode b_Mod_numberOf 17 = .ok (.iconst (-1), 1) := by decide +kernel
theorem d_Mod_numberOf_18 : decode b_Mod_numberOf 18 = .ok (.goto 9, 3) := by decide +kernel
theorem d_Mod_numberOf_21 : decode b_Mod_numberOf 21 = .ok (.aload_n 0, 1) := by decide +kernel
theorem d_Mod_numberOf_22 : decode b_Mod_numberOf 22 = .ok (.getfield 33, 3) := by decide +kernel
theorem d_Mod_numberOf_25 : decode b_Mod_numberOf 25 = .ok (.iload_n 1, 1) := by decide +kernel
theorem d_Mod_numberOf_26 : decode b_Mod_numberOf 26 = .ok (.iaload, 1) := by decide +kernel
theorem d_Mod_numberOf_27 : decode b_Mod_numberOf 27 = .ok (.ireturn, 1) := by decide +kernel
theorem d_Mod_used_0 : decode b_Mod_used 0 = .ok (.aload_n 0, 1) := by decide +kernel
theorem d_Mod_used_1 : decode b_Mod_used 1 = .ok (.iconst 0, 1) := by decide +kernel
theorem d_Mod_used_2 : decode b_Mod_used 2 = .ok (.putfield 7, 3) := by decide +kernel
theorem d_Mod_used_5 : decode b_Mod_used 5 = .ok (.aload_n 0, 1) := by decide +kernel
theorem d_Mod_used_6 : decode b_Mod_used 6 = .ok (.getfield 89, 3) := by decide +kernel
theorem d_Mod_used_9 : decode b_Mod_used 9 = .ok (.lreturn, 1) := by decide +kernel
theorem d_Mod_state_0 : decode b_Mod_state 0 = .ok (.aload_n 0, 1) := by decide +kernel
theorem d_Mod_state_1 : decode b_Mod_state 1 = .ok (.iconst 0, 1) := by decide +kernel
theorem d_Mod_state_2 : decode b_Mod_state 2 = .ok (.putfield 7, 3) := by decide +kernel
theorem d_Mod_state_5 : decode b_Mod_state 5 = .ok (.aload_n 0, 1) := by decide +kernel
theorem d_Mod_state_6 : decode b_Mod_state 6 = .ok (.getfield 82, 3) := by decide +kernel
theorem d_Mod_state_9 : decode b_Mod_state 9 = .ok (.ireturn, 1) := by decide +kernel
theorem d_Mod_clauses_0 : decode b_Mod_clauses 0 = .ok (.aload_n 0, 1) := by decide +kernel
theorem d_Mod_clauses_1 : decode b_Mod_clauses 1 = .ok (.iconst 0, 1) := by decide +kernel
theorem d_Mod_clauses_2 : decode b_Mod_clauses 2 = .ok (.putfield 7, 3) := by decide +kernel
theorem d_Mod_clauses_5 : decode b_Mod_clauses 5 = .ok (.aload_n 0, 1) := by decide +kernel
theorem d_Mod_clauses_6 : decode b_Mod_clauses 6 = .ok (.getfield 27, 3) := by decide +kernel
theorem d_Mod_clauses_9 : decode b_Mod_clauses 9 = .ok (.ireturn, 1) := by decide +kernel
