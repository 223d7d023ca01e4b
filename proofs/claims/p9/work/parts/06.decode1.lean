theorem d_Arr__fill_0 : decode b_Arr__fill 0 = .ok (.iconst 0, 1) := by decide +kernel
theorem d_Arr__fill_1 : decode b_Arr__fill 1 = .ok (.istore_n 2, 1) := by decide +kernel
theorem d_Arr__fill_2 : decode b_Arr__fill 2 = .ok (.aload_n 0, 1) := by decide +kernel
theorem d_Arr__fill_3 : decode b_Arr__fill 3 = .ok (.arraylength, 1) := by decide +kernel
theorem d_Arr__fill_4 : decode b_Arr__fill 4 = .ok (.istore_n 3, 1) := by decide +kernel
theorem d_Arr__fill_5 : decode b_Arr__fill 5 = .ok (.iload_n 2, 1) := by decide +kernel
theorem d_Arr__fill_6 : decode b_Arr__fill 6 = .ok (.iload_n 3, 1) := by decide +kernel
theorem d_Arr__fill_7 : decode b_Arr__fill 7 = .ok (.if_icmp .ge 13, 3) := by decide +kernel
theorem d_Arr__fill_10 : decode b_Arr__fill 10 = .ok (.aload_n 0, 1) := by decide +kernel
theorem d_Arr__fill_11 : decode b_Arr__fill 11 = .ok (.iload_n 2, 1) := by decide +kernel
theorem d_Arr__fill_12 : decode b_Arr__fill 12 = .ok (.iload_n 1, 1) := by decide +kernel
theorem d_Arr__fill_13 : decode b_Arr__fill 13 = .ok (.iastore, 1) := by decide +kernel
theorem d_Arr__fill_14 : decode b_Arr__fill 14 = .ok (.iinc 2 1, 3) := by decide +kernel
theorem d_Arr__fill_17 : decode b_Arr__fill 17 = .ok (.goto (-12), 3) := by decide +kernel
theorem d_Arr__fill_20 : decode b_Arr__fill 20 = .ok (.return_, 1) := by decide +kernel
theorem d_Sto_init_0 : decode b_Sto_init 0 = .ok (.aload_n 0, 1) := by decide +kernel
theorem d_Sto_init_1 : decode b_Sto_init 1 = .ok (.invokespecial 3, 3) := by decide +kernel
theorem d_Sto_init_4 : decode b_Sto_init 4 = .ok (.aload_n 0, 1) := by decide +kernel
theorem d_Sto_init_5 : decode b_Sto_init 5 = .ok (.iconst 0, 1) := by decide +kernel
theorem d_Sto_init_6 : decode b_Sto_init 6 = .ok (.putfield 9, 3) := by decide +kernel
theorem d_Sto_init_9 : decode b_Sto_init 9 = .ok (.aload_n 0, 1) := by decide +kernel
theorem d_Sto_init_10 : decode b_Sto_init 10 = .ok (.iconst 0, 1) := by decide +kernel
theorem d_Sto_init_11 : decode b_Sto_init 11 = .ok (.putfield 15, 3) := by decide +kernel
theorem d_Sto_init_14 : decode b_Sto_init 14 = .ok (.aload_n 0, 1) := by decide +kernel
theorem d_Sto_init_15 : decode b_Sto_init 15 = .ok (.bipush 32, 2) := by decide +kernel
theorem d_Sto_init_17 : decode b_Sto_init 17 = .ok (.newarray .int, 2) := by decide +kernel
theorem d_Sto_init_19 : decode b_Sto_init 19 = .ok (.putfield 18, 3) := by decide +kernel
theorem d_Sto_init_22 : decode b_Sto_init 22 = .ok (.aload_n 0, 1) := by decide +kernel
theorem d_Sto_init_23 : decode b_Sto_init 23 = .ok (.bipush 32, 2) := by decide +kernel
theorem d_Sto_init_25 : decode b_Sto_init 25 = .ok (.newarray .int, 2) := by decide +kernel
theorem d_Sto_init_27 : decode b_Sto_init 27 = .ok (.putfield 22, 3) := by decide +kernel
theorem d_Sto_init_30 : decode b_Sto_init 30 = .ok (.aload_n 0, 1) := by decide +kernel
theorem d_Sto_init_31 : decode b_Sto_init 31 = .ok (.bipush 32, 2) := by decide +kernel
theorem d_Sto_init_33 : decode b_Sto_init 33 = .ok (.newarray .int, 2) := by decide +kernel
theorem d_Sto_init_35 : decode b_Sto_init 35 = .ok (.putfield 25, 3) := by decide +kernel
theorem d_Sto_init_38 : decode b_Sto_init 38 = .ok (.aload_n 0, 1) := by decide +kernel
theorem d_Sto_init_39 : decode b_Sto_init 39 = .ok (.iconst 2, 1) := by decide +kernel
theorem d_Sto_init_40 : decode b_Sto_init 40 = .ok (.iload_n 1, 1) := by decide +kernel
theorem d_Sto_init_41 : decode b_Sto_init 41 = .ok (.imul, 1) := by decide +kernel
theorem d_Sto_init_42 : decode b_Sto_init 42 = .ok (.newarray .int, 2) := by decide +kernel
theorem d_Sto_init_44 : decode b_Sto_init 44 = .ok (.putfield 28, 3) := by decide +kernel
theorem d_Sto_init_47 : decode b_Sto_init 47 = .ok (.aload_n 0, 1) := by decide +kernel
theorem d_Sto_init_48 : decode b_Sto_init 48 = .ok (.getfield 28, 3) := by decide +kernel
theorem d_Sto_init_51 : decode b_Sto_init 51 = .ok (.iconst (-1), 1) := by decide +kernel
theorem d_Sto_init_52 : decode b_Sto_init 52 = .ok (.invokestatic 31, 3) := by decide +kernel
theorem d_Sto_init_55 : decode b_Sto_init 55 = .ok (.aload_n 0, 1) := by decide +kernel
theorem d_Sto_init_56 : decode b_Sto_init 56 = .ok (.bipush 16, 2) := by decide +kernel
theorem d_Sto_init_58 : decode b_Sto_init 58 = .ok (.newarray .int, 2) := by decide +kernel
theorem d_Sto_init_60 : decode b_Sto_init 60 = .ok (.putfield 37, 3) := by decide +kernel
theorem d_Sto_init_63 : decode b_Sto_init 63 = .ok (.return_, 1) := by decide +kernel
theorem d_Pla_init_0 : decode b_Pla_init 0 = .ok (.aload_n 0, 1) := by decide +kernel
theorem d_Pla_init_1 : decode b_Pla_init 1 = .ok (.invokespecial 3, 3) := by decide +kernel
theorem d_Pla_init_4 : decode b_Pla_init 4 = .ok (.aload_n 0, 1) := by decide +kernel
theorem d_Pla_init_5 : decode b_Pla_init 5 = .ok (.iload_n 1, 1) := by decide +kernel
theorem d_Pla_init_6 : decode b_Pla_init 6 = .ok (.newarray .int, 2) := by decide +kernel
theorem d_Pla_init_8 : decode b_Pla_init 8 = .ok (.putfield 9, 3) := by decide +kernel
theorem d_Pla_init_11 : decode b_Pla_init 11 = .ok (.aload_n 0, 1) := by decide +kernel
theorem d_Pla_init_12 : decode b_Pla_init 12 = .ok (.iload_n 1, 1) := by decide +kernel
theorem d_Pla_init_13 : decode b_Pla_init 13 = .ok (.newarray .int, 2) := by decide +kernel
theorem d_Pla_init_15 : decode b_Pla_init 15 = .ok (.putfield 15, 3) := by decide +kernel
theorem d_Pla_init_18 : decode b_Pla_init 18 = .ok (.aload_n 0, 1) := by decide +kernel
theorem d_Pla_init_19 : decode b_Pla_init 19 = .ok (.getfield 9, 3) := by decide +kernel
theorem d_Pla_init_22 : decode b_Pla_init 22 = .ok (.iconst (-1), 1) := by decide +kernel
theorem d_Pla_init_23 : decode b_Pla_init 23 = .ok (.invokestatic 18, 3) := by decide +kernel
theorem d_Pla_init_26 : decode b_Pla_init 26 = .ok (.aload_n 0, 1) := by decide +kernel
theorem d_Pla_init_27 : decode b_Pla_init 27 = .ok (.getfield 15, 3) := by decide +kernel
theorem d_Pla_init_30 : decode b_Pla_init 30 = .ok (.iconst (-1), 1) := by decide +kernel
theorem d_Pla_init_31 : decode b_Pla_init 31 = .ok (.invokestatic 18, 3) := by decide +kernel
theorem d_Pla_init_34 : decode b_Pla_init 34 = .ok (.return_, 1) := by decide +kernel
theorem d_Ass_init_0 : decode b_Ass_init 0 = .ok (.aload_n 0, 1) := by decide +kernel
theorem d_Ass_init_1 : decode b_Ass_init 1 = .ok (.invokespecial 3, 3) := by decide +kernel
theorem d_Ass_init_4 : decode b_Ass_init 4 = .ok (.aload_n 0, 1) := by decide +kernel
theorem d_Ass_init_5 : decode b_Ass_init 5 = .ok (.iconst 0, 1) := by decide +kernel
theorem d_Ass_init_6 : decode b_Ass_init 6 = .ok (.putfield 9, 3) := by decide +kernel
theorem d_Ass_init_9 : decode b_Ass_init 9 = .ok (.aload_n 0, 1) := by decide +kernel
theorem d_Ass_init_10 : decode b_Ass_init 10 = .ok (.bipush 40, 2) := by decide +kernel
theorem d_Ass_init_12 : decode b_Ass_init 12 = .ok (.newarray .int, 2) := by decide +kernel
theorem d_Ass_init_14 : decode b_Ass_init 14 = .ok (.putfield 15, 3) := by decide +kernel
theorem d_Ass_init_17 : decode b_Ass_init 17 = .ok (.return_, 1) := by decide +kernel
theorem d_Tal_init_0 : decode b_Tal_init 0 = .ok (.aload_n 0, 1) := by decide +kernel
theorem d_Tal_init_1 : decode b_Tal_init 1 = .ok (.invokespecial 3, 3) := by decide +kernel
theorem d_Tal_init_4 : decode b_Tal_init 4 = .ok (.aload_n 0, 1) := by decide +kernel
theorem d_Tal_init_5 : decode b_Tal_init 5 = .ok (.aload_n 1, 1) := by decide +kernel
theorem d_Tal_init_6 : decode b_Tal_init 6 = .ok (.putfield 9, 3) := by decide +kernel
theorem d_Tal_init_9 : decode b_Tal_init 9 = .ok (.aload_n 0, 1) := by decide +kernel
theorem d_Tal_init_10 : decode b_Tal_init 10 = .ok (.bipush 24, 2) := by decide +kernel
theorem d_Tal_init_12 : decode b_Tal_init 12 = .ok (.newarray .long, 2) := by decide +kernel
theorem d_Tal_init_14 : decode b_Tal_init 14 = .ok (.putfield 15, 3) := by decide +kernel
theorem d_Tal_init_17 : decode b_Tal_init 17 = .ok (.aload_n 0, 1) := by decide +kernel
theorem d_Tal_init_18 : decode b_Tal_init 18 = .ok (.bipush 24, 2) := by decide +kernel
theorem d_Tal_init_20 : decode b_Tal_init 20 = .ok (.newarray .long, 2) := by decide +kernel
theorem d_Tal_init_22 : decode b_Tal_init 22 = .ok (.putfield 19, 3) := by decide +kernel
theorem d_Tal_init_25 : decode b_Tal_init 25 = .ok (.aload_n 0, 1) := by decide +kernel
theorem d_Tal_init_26 : decode b_Tal_init 26 = .ok (.bipush 16, 2) := by decide +kernel
theorem d_Tal_init_28 : decode b_Tal_init 28 = .ok (.newarray .int, 2) := by decide +kernel
theorem d_Tal_init_30 : decode b_Tal_init 30 = .ok (.putfield 22, 3) := by decide +kernel
theorem d_Tal_init_33 : decode b_Tal_init 33 = .ok (.aload_n 0, 1) := by decide +kernel
theorem d_Tal_init_34 : decode b_Tal_init 34 = .ok (.bipush 16, 2) := by decide +kernel
theorem d_Tal_init_36 : decode b_Tal_init 36 = .ok (.newarray .int, 2) := by decide +kernel
theorem d_Tal_init_38 : decode b_Tal_init 38 = .ok (.putfield 26, 3) := by decide +kernel
theorem d_Tal_init_41 : decode b_Tal_init 41 = .ok (.return_, 1) := by decide +kernel
theorem d_Tra_init_0 : decode b_Tra_init 0 = .ok (.aload_n 0, 1) := by decide +kernel
theorem d_Tra_init_1 : decode b_Tra_init 1 = .ok (.invokespecial 3, 3) := by decide +kernel
theorem d_Tra_init_4 : decode b_Tra_init 4 = .ok (.aload_n 0, 1) := by decide +kernel
theorem d_Tra_init_5 : decode b_Tra_init 5 = .ok (.aload_n 2, 1) := by decide +kernel
theorem d_Tra_init_6 : decode b_Tra_init 6 = .ok (.putfield 9, 3) := by decide +kernel
theorem d_Tra_init_9 : decode b_Tra_init 9 = .ok (.aload_n 0, 1) := by decide +kernel
theorem d_Tra_init_10 : decode b_Tra_init 10 = .ok (.iconst 0, 1) := by decide +kernel
theorem d_Tra_init_11 : decode b_Tra_init 11 = .ok (.putfield 15, 3) := by decide +kernel
theorem d_Tra_init_14 : decode b_Tra_init 14 = .ok (.aload_n 0, 1) := by decide +kernel
theorem d_Tra_init_15 : decode b_Tra_init 15 = .ok (.iconst 0, 1) := by decide +kernel
theorem d_Tra_init_16 : decode b_Tra_init 16 = .ok (.putfield 19, 3) := by decide +kernel
theorem d_Tra_init_19 : decode b_Tra_init 19 = .ok (.aload_n 0, 1) := by decide +kernel
theorem d_Tra_init_20 : decode b_Tra_init 20 = .ok (.iload_n 1, 1) := by decide +kernel
theorem d_Tra_init_21 : decode b_Tra_init 21 = .ok (.newarray .int, 2) := by decide +kernel
theorem d_Tra_init_23 : decode b_Tra_init 23 = .ok (.putfield 22, 3) := by decide +kernel
theorem d_Tra_init_26 : decode b_Tra_init 26 = .ok (.aload_n 0, 1) := by decide +kernel
theorem d_Tra_init_27 : decode b_Tra_init 27 = .ok (.iload_n 1, 1) := by decide +kernel
theorem d_Tra_init_28 : decode b_Tra_init 28 = .ok (.newarray .int, 2) := by decide +kernel
theorem d_Tra_init_30 : decode b_Tra_init 30 = .ok (.putfield 26, 3) := by decide +kernel
theorem d_Tra_init_33 : decode b_Tra_init 33 = .ok (.aload_n 0, 1) := by decide +kernel
theorem d_Tra_init_34 : decode b_Tra_init 34 = .ok (.iload_n 1, 1) := by decide +kernel
theorem d_Tra_init_35 : decode b_Tra_init 35 = .ok (.newarray .int, 2) := by decide +kernel
theorem d_Tra_init_37 : decode b_Tra_init 37 = .ok (.putfield 29, 3) := by decide +kernel
theorem d_Tra_init_40 : decode b_Tra_init 40 = .ok (.aload_n 0, 1) := by decide +kernel
theorem d_Tra_init_41 : decode b_Tra_init 41 = .ok (.iload_n 1, 1) := by decide +kernel
theorem d_Tra_init_42 : decode b_Tra_init 42 = .ok (.newarray .int, 2) := by decide +kernel
theorem d_Tra_init_44 : decode b_Tra_init 44 = .ok (.putfield 32, 3) := by decide +kernel
theorem d_Tra_init_47 : decode b_Tra_init 47 = .ok (.aload_n 0, 1) := by decide +kernel
theorem d_Tra_init_48 : decode b_Tra_init 48 = .ok (.getfield 26, 3) := by decide +kernel
theorem d_Tra_init_51 : decode b_Tra_init 51 = .ok (.iconst (-1), 1) := by decide +kernel
theorem d_Tra_init_52 : decode b_Tra_init 52 = .ok (.invokestatic 35, 3) := by decide +kernel
theorem d_Tra_init_55 : decode b_Tra_init 55 = .ok (.return_, 1) := by decide +kernel
theorem d_Sea_init_0 : decode b_Sea_init 0 = .ok (.aload_n 0, 1) := by decide +kernel
theorem d_Sea_init_1 : decode b_Sea_init 1 = .ok (.invokespecial 3, 3) := by decide +kernel
theorem d_Sea_init_4 : decode b_Sea_init 4 = .ok (.aload_n 0, 1) := by decide +kernel
theorem d_Sea_init_5 : decode b_Sea_init 5 = .ok (.iload_n 1, 1) := by decide +kernel
theorem d_Sea_init_6 : decode b_Sea_init 6 = .ok (.putfield 9, 3) := by decide +kernel
theorem d_Sea_init_9 : decode b_Sea_init 9 = .ok (.aload_n 0, 1) := by decide +kernel
theorem d_Sea_init_10 : decode b_Sea_init 10 = .ok (.aload_n 2, 1) := by decide +kernel
theorem d_Sea_init_11 : decode b_Sea_init 11 = .ok (.putfield 15, 3) := by decide +kernel
theorem d_Sea_init_14 : decode b_Sea_init 14 = .ok (.aload_n 0, 1) := by decide +kernel
theorem d_Sea_init_15 : decode b_Sea_init 15 = .ok (.aload_n 3, 1) := by decide +kernel
theorem d_Sea_init_16 : decode b_Sea_init 16 = .ok (.putfield 19, 3) := by decide +kernel
theorem d_Sea_init_19 : decode b_Sea_init 19 = .ok (.aload_n 0, 1) := by decide +kernel
theorem d_Sea_init_20 : decode b_Sea_init 20 = .ok (.aload 4, 2) := by decide +kernel
theorem d_Sea_init_22 : decode b_Sea_init 22 = .ok (.putfield 23, 3) := by decide +kernel
theorem d_Sea_init_25 : decode b_Sea_init 25 = .ok (.aload_n 0, 1) := by decide +kernel
theorem d_Sea_init_26 : decode b_Sea_init 26 = .ok (.aload 5, 2) := by decide +kernel
theorem d_Sea_init_28 : decode b_Sea_init 28 = .ok (.putfield 27, 3) := by decide +kernel
theorem d_Sea_init_31 : decode b_Sea_init 31 = .ok (.aload_n 0, 1) := by decide +kernel
theorem d_Sea_init_32 : decode b_Sea_init 32 = .ok (.iload_n 1, 1) := by decide +kernel
theorem d_Sea_init_33 : decode b_Sea_init 33 = .ok (.newarray .int, 2) := by decide +kernel
theorem d_Sea_init_35 : decode b_Sea_init 35 = .ok (.putfield 31, 3) := by decide +kernel
theorem d_Sea_init_38 : decode b_Sea_init 38 = .ok (.aload_n 0, 1) := by decide +kernel
theorem d_Sea_init_39 : decode b_Sea_init 39 = .ok (.bipush 40, 2) := by decide +kernel
theorem d_Sea_init_41 : decode b_Sea_init 41 = .ok (.newarray .int, 2) := by decide +kernel
theorem d_Sea_init_43 : decode b_Sea_init 43 = .ok (.putfield 35, 3) := by decide +kernel
theorem d_Sea_init_46 : decode b_Sea_init 46 = .ok (.aload_n 0, 1) := by decide +kernel
theorem d_Sea_init_47 : decode b_Sea_init 47 = .ok (.iconst 0, 1) := by decide +kernel
theorem d_Sea_init_48 : decode b_Sea_init 48 = .ok (.putfield 38, 3) := by decide +kernel
theorem d_Sea_init_51 : decode b_Sea_init 51 = .ok (.aload_n 0, 1) := by decide +kernel
theorem d_Sea_init_52 : decode b_Sea_init 52 = .ok (.bipush 16, 2) := by decide +kernel
theorem d_Sea_init_54 : decode b_Sea_init 54 = .ok (.newarray .int, 2) := by decide +kernel
theorem d_Sea_init_56 : decode b_Sea_init 56 = .ok (.putfield 41, 3) := by decide +kernel
theorem d_Sea_init_59 : decode b_Sea_init 59 = .ok (.aload_n 0, 1) := by decide +kernel
theorem d_Sea_init_60 : decode b_Sea_init 60 = .ok (.iconst 0, 1) := by decide +kernel
theorem d_Sea_init_61 : decode b_Sea_init 61 = .ok (.putfield 44, 3) := by decide +kernel
theorem d_Sea_init_64 : decode b_Sea_init 64 = .ok (.aload_n 0, 1) := by decide +kernel
theorem d_Sea_init_65 : decode b_Sea_init 65 = .ok (.lconst 0, 1) := by decide +kernel
theorem d_Sea_init_66 : decode b_Sea_init 66 = .ok (.putfield 47, 3) := by decide +kernel
theorem d_Sea_init_69 : decode b_Sea_init 69 = .ok (.aload_n 0, 1) := by decide +kernel
theorem d_Sea_init_70 : decode b_Sea_init 70 = .ok (.lconst 0, 1) := by decide +kernel
theorem d_Sea_init_71 : decode b_Sea_init 71 = .ok (.putfield 51, 3) := by decide +kernel
theorem d_Sea_init_74 : decode b_Sea_init 74 = .ok (.return_, 1) := by decide +kernel
theorem d_CS_init_0 : decode b_CS_init 0 = .ok (.aload_n 0, 1) := by decide +kernel
theorem d_CS_init_1 : decode b_CS_init 1 = .ok (.invokespecial 1, 3) := by decide +kernel
theorem d_CS_init_4 : decode b_CS_init 4 = .ok (.aload_n 0, 1) := by decide +kernel
theorem d_CS_init_5 : decode b_CS_init 5 = .ok (.iconst 1, 1) := by decide +kernel
theorem d_CS_init_6 : decode b_CS_init 6 = .ok (.sipush 300, 3) := by decide +kernel
theorem d_CS_init_9 : decode b_CS_init 9 = .ok (.iload_n 1, 1) := by decide +kernel
theorem d_CS_init_10 : decode b_CS_init 10 = .ok (.invokestatic 9, 3) := by decide +kernel
theorem d_CS_init_13 : decode b_CS_init 13 = .ok (.invokestatic 15, 3) := by decide +kernel
theorem d_CS_init_16 : decode b_CS_init 16 = .ok (.putfield 18, 3) := by decide +kernel
theorem d_CS_init_19 : decode b_CS_init 19 = .ok (.aload_n 0, 1) := by decide +kernel
theorem d_CS_init_20 : decode b_CS_init 20 = .ok (.new 22, 3) := by decide +kernel
theorem d_CS_init_23 : decode b_CS_init 23 = .ok (.dup, 1) := by decide +kernel
theorem d_CS_init_24 : decode b_CS_init 24 = .ok (.aload_n 0, 1) := by decide +kernel
theorem d_CS_init_25 : decode b_CS_init 25 = .ok (.getfield 18, 3) := by decide +kernel
theorem d_CS_init_28 : decode b_CS_init 28 = .ok (.invokespecial 24, 3) := by decide +kernel
theorem d_CS_init_31 : decode b_CS_init 31 = .ok (.putfield 27, 3) := by decide +kernel
theorem d_CS_init_34 : decode b_CS_init 34 = .ok (.aload_n 0, 1) := by decide +kernel
theorem d_CS_init_35 : decode b_CS_init 35 = .ok (.new 31, 3) := by decide +kernel
theorem d_CS_init_38 : decode b_CS_init 38 = .ok (.dup, 1) := by decide +kernel
theorem d_CS_init_39 : decode b_CS_init 39 = .ok (.aload_n 0, 1) := by decide +kernel
theorem d_CS_init_40 : decode b_CS_init 40 = .ok (.getfield 18, 3) := by decide +kernel
theorem d_CS_init_43 : decode b_CS_init 43 = .ok (.invokespecial 33, 3) := by decide +kernel
theorem d_CS_init_46 : decode b_CS_init 46 = .ok (.putfield 34, 3) := by decide +kernel
theorem d_CS_init_49 : decode b_CS_init 49 = .ok (.aload_n 0, 1) := by decide +kernel
theorem d_CS_init_50 : decode b_CS_init 50 = .ok (.new 38, 3) := by decide +kernel
theorem d_CS_init_53 : decode b_CS_init 53 = .ok (.dup, 1) := by decide +kernel
theorem d_CS_init_54 : decode b_CS_init 54 = .ok (.invokespecial 40, 3) := by decide +kernel
theorem d_CS_init_57 : decode b_CS_init 57 = .ok (.putfield 41, 3) := by decide +kernel
theorem d_CS_init_60 : decode b_CS_init 60 = .ok (.new 45, 3) := by decide +kernel
theorem d_CS_init_63 : decode b_CS_init 63 = .ok (.dup, 1) := by decide +kernel
theorem d_CS_init_64 : decode b_CS_init 64 = .ok (.aload_n 0, 1) := by decide +kernel
theorem d_CS_init_65 : decode b_CS_init 65 = .ok (.getfield 27, 3) := by decide +kernel
theorem d_CS_init_68 : decode b_CS_init 68 = .ok (.invokespecial 47, 3) := by decide +kernel
theorem d_CS_init_71 : decode b_CS_init 71 = .ok (.astore_n 2, 1) := by decide +kernel
theorem d_CS_init_72 : decode b_CS_init 72 = .ok (.aload_n 0, 1) := by decide +kernel
theorem d_CS_init_73 : decode b_CS_init 73 = .ok (.new 50, 3) := by decide +kernel
theorem d_CS_init_76 : decode b_CS_init 76 = .ok (.dup, 1) := by decide +kernel
theorem d_CS_init_77 : decode b_CS_init 77 = .ok (.aload_n 0, 1) := by decide +kernel
theorem d_CS_init_78 : decode b_CS_init 78 = .ok (.getfield 18, 3) := by decide +kernel
theorem d_CS_init_81 : decode b_CS_init 81 = .ok (.aload_n 2, 1) := by decide +kernel
theorem d_CS_init_82 : decode b_CS_init 82 = .ok (.invokespecial 52, 3) := by decide +kernel
theorem d_CS_init_85 : decode b_CS_init 85 = .ok (.putfield 55, 3) := by decide +kernel
theorem d_CS_init_88 : decode b_CS_init 88 = .ok (.aload_n 0, 1) := by decide +kernel
theorem d_CS_init_89 : decode b_CS_init 89 = .ok (.new 59, 3) := by decide +kernel
theorem d_CS_init_92 : decode b_CS_init 92 = .ok (.dup, 1) := by decide +kernel
theorem d_CS_init_93 : decode b_CS_init 93 = .ok (.aload_n 0, 1) := by decide +kernel
theorem d_CS_init_94 : decode b_CS_init 94 = .ok (.getfield 18, 3) := by decide +kernel
theorem d_CS_init_97 : decode b_CS_init 97 = .ok (.aload_n 0, 1) := by decide +kernel
theorem d_CS_init_98 : decode b_CS_init 98 = .ok (.getfield 27, 3) := by decide +kernel
theorem d_CS_init_101 : decode b_CS_init 101 = .ok (.aload_n 0, 1) := by decide +kernel
theorem d_CS_init_102 : decode b_CS_init 102 = .ok (.getfield 55, 3) := by decide +kernel
theorem d_CS_init_105 : decode b_CS_init 105 = .ok (.aload_n 2, 1) := by decide +kernel
theorem d_CS_init_106 : decode b_CS_init 106 = .ok (.aload_n 0, 1) := by decide +kernel
theorem d_CS_init_107 : decode b_CS_init 107 = .ok (.getfield 41, 3) := by decide +kernel
theorem d_CS_init_110 : decode b_CS_init 110 = .ok (.invokespecial 61, 3) := by decide +kernel
theorem d_CS_init_113 : decode b_CS_init 113 = .ok (.putfield 64, 3) := by decide +kernel
theorem d_CS_init_116 : decode b_CS_init 116 = .ok (.aload_n 0, 1) := by decide +kernel
theorem d_CS_init_117 : decode b_CS_init 117 = .ok (.iconst (-1), 1) := by decide +kernel
theorem d_CS_init_118 : decode b_CS_init 118 = .ok (.putfield 68, 3) := by decide +kernel
theorem d_CS_init_121 : decode b_CS_init 121 = .ok (.aload_n 0, 1) := by decide +kernel
theorem d_CS_init_122 : decode b_CS_init 122 = .ok (.iconst 1, 1) := by decide +kernel
theorem d_CS_init_123 : decode b_CS_init 123 = .ok (.putfield 71, 3) := by decide +kernel
theorem d_CS_init_126 : decode b_CS_init 126 = .ok (.return_, 1) := by decide +kernel
theorem d_Sto_hasRoom_0 : decode b_Sto_hasRoom 0 = .ok (.aload_n 0, 1) := by decide +kernel
theorem d_Sto_hasRoom_1 : decode b_Sto_hasRoom 1 = .ok (.getfield 9, 3) := by decide +kernel
theorem d_Sto_hasRoom_4 : decode b_Sto_hasRoom 4 = .ok (.iload_n 1, 1) := by decide +kernel
theorem d_Sto_hasRoom_5 : decode b_Sto_hasRoom 5 = .ok (.iadd, 1) := by decide +kernel
theorem d_Sto_hasRoom_6 : decode b_Sto_hasRoom 6 = .ok (.sipush 1500, 3) := by decide +kernel
theorem d_Sto_hasRoom_9 : decode b_Sto_hasRoom 9 = .ok (.if_icmp .gt 19, 3) := by decide +kernel
theorem d_Sto_hasRoom_12 : decode b_Sto_hasRoom 12 = .ok (.aload_n 0, 1) := by decide +kernel
theorem d_Sto_hasRoom_13 : decode b_Sto_hasRoom 13 = .ok (.getfield 15, 3) := by decide +kernel
theorem d_Sto_hasRoom_16 : decode b_Sto_hasRoom 16 = .ok (.iload_n 2, 1) := by decide +kernel
theorem d_Sto_hasRoom_17 : decode b_Sto_hasRoom 17 = .ok (.iadd, 1) := by decide +kernel
theorem d_Sto_hasRoom_18 : decode b_Sto_hasRoom 18 = .ok (.sipush 20000, 3) := by decide +kernel
theorem d_Sto_hasRoom_21 : decode b_Sto_hasRoom 21 = .ok (.if_icmp .gt 7, 3) := by decide +kernel
theorem d_Sto_hasRoom_24 : decode b_Sto_hasRoom 24 = .ok (.iconst 1, 1) := by decide +kernel
theorem d_Sto_hasRoom_25 : decode b_Sto_hasRoom 25 = .ok (.goto 4, 3) := by decide +kernel
theorem d_Sto_hasRoom_28 : decode b_Sto_hasRoom 28 = .ok (.iconst 0, 1) := by decide +kernel
theorem d_Sto_hasRoom_29 : decode b_Sto_hasRoom 29 = .ok (.ireturn, 1) := by decide +kernel
theorem d_Arr__copyOf_0 : decode b_Arr__copyOf 0 = .ok (.iload_n 1, 1) := by decide +kernel
theorem d_Arr__copyOf_1 : decode b_Arr__copyOf 1 = .ok (.aload_n 0, 1) := by decide +kernel
theorem d_Arr__copyOf_2 : decode b_Arr__copyOf 2 = .ok (.arraylength, 1) := by decide +kernel
theorem d_Arr__copyOf_3 : decode b_Arr__copyOf 3 = .ok (.if_icmp .ne 11, 3) := by decide +kernel
theorem d_Arr__copyOf_6 : decode b_Arr__copyOf 6 = .ok (.aload_n 0, 1) := by decide +kernel
theorem d_Arr__copyOf_7 : decode b_Arr__copyOf 7 = .ok (.invokevirtual 316, 3) := by decide +kernel
theorem d_Arr__copyOf_13 : decode b_Arr__copyOf 13 = .ok (.areturn, 1) := by decide +kernel
theorem d_Arr__copyOf_14 : decode b_Arr__copyOf 14 = .ok (.iload_n 1, 1) := by decide +kernel
theorem d_Arr__copyOf_15 : decode b_Arr__copyOf 15 = .ok (.newarray .int, 2) := by decide +kernel
theorem d_Arr__copyOf_17 : decode b_Arr__copyOf 17 = .ok (.astore_n 2, 1) := by decide +kernel
theorem d_Arr__copyOf_18 : decode b_Arr__copyOf 18 = .ok (.aload_n 0, 1) := by decide +kernel
theorem d_Arr__copyOf_19 : decode b_Arr__copyOf 19 = .ok (.iconst 0, 1) := by decide +kernel
theorem d_Arr__copyOf_20 : decode b_Arr__copyOf 20 = .ok (.aload_n 2, 1) := by decide +kernel
theorem d_Arr__copyOf_21 : decode b_Arr__copyOf 21 = .ok (.iconst 0, 1) := by decide +kernel
theorem d_Arr__copyOf_22 : decode b_Arr__copyOf 22 = .ok (.aload_n 0, 1) := by decide +kernel
theorem d_Arr__copyOf_23 : decode b_Arr__copyOf 23 = .ok (.arraylength, 1) := by decide +kernel
theorem d_Arr__copyOf_24 : decode b_Arr__copyOf 24 = .ok (.iload_n 1, 1) := by decide +kernel
theorem d_Arr__copyOf_25 : decode b_Arr__copyOf 25 = .ok (.invokestatic 304, 3) := by decide +kernel
theorem d_Arr__copyOf_28 : decode b_Arr__copyOf 28 = .ok (.invokestatic 150, 3) := by decide +kernel
theorem d_Arr__copyOf_31 : decode b_Arr__copyOf 31 = .ok (.aload_n 2, 1) := by decide +kernel
theorem d_Arr__copyOf_32 : decode b_Arr__copyOf 32 = .ok (.areturn, 1) := by decide +kernel
theorem d_CS_withRoomFor_0 : decode b_CS_withRoomFor 0 = .ok (.iload_n 1, 1) := by decide +kernel
theorem d_CS_withRoomFor_1 : decode b_CS_withRoomFor 1 = .ok (.aload_n 0, 1) := by decide +kernel
theorem d_CS_withRoomFor_2 : decode b_CS_withRoomFor 2 = .ok (.arraylength, 1) := by decide +kernel
theorem d_CS_withRoomFor_3 : decode b_CS_withRoomFor 3 = .ok (.if_icmp .gt 5, 3) := by decide +kernel
theorem d_CS_withRoomFor_6 : decode b_CS_withRoomFor 6 = .ok (.aload_n 0, 1) := by decide +kernel
theorem d_CS_withRoomFor_7 : decode b_CS_withRoomFor 7 = .ok (.areturn, 1) := by decide +kernel
theorem d_CS_withRoomFor_8 : decode b_CS_withRoomFor 8 = .ok (.aload_n 0, 1) := by decide +kernel
theorem d_CS_withRoomFor_9 : decode b_CS_withRoomFor 9 = .ok (.iload_n 1, 1) := by decide +kernel
theorem d_CS_withRoomFor_10 : decode b_CS_withRoomFor 10 = .ok (.iload_n 2, 1) := by decide +kernel
theorem d_CS_withRoomFor_11 : decode b_CS_withRoomFor 11 = .ok (.iconst 2, 1) := by decide +kernel
theorem d_CS_withRoomFor_12 : decode b_CS_withRoomFor 12 = .ok (.aload_n 0, 1) := by decide +kernel
theorem d_CS_withRoomFor_13 : decode b_CS_withRoomFor 13 = .ok (.arraylength, 1) := by decide +kernel
theorem d_CS_withRoomFor_14 : decode b_CS_withRoomFor 14 = .ok (.imul, 1) := by decide +kernel
theorem d_CS_withRoomFor_15 : decode b_CS_withRoomFor 15 = .ok (.invokestatic 9, 3) := by decide +kernel
theorem d_CS_withRoomFor_18 : decode b_CS_withRoomFor 18 = .ok (.invokestatic 15, 3) := by decide +kernel
theorem d_CS_withRoomFor_21 : decode b_CS_withRoomFor 21 = .ok (.invokestatic 169, 3) := by decide +kernel
theorem d_CS_withRoomFor_24 : decode b_CS_withRoomFor 24 = .ok (.areturn, 1) := by decide +kernel
theorem d_Sto_open_0 : decode b_Sto_open 0 = .ok (.aload_n 0, 1) := by decide +kernel
theorem d_Sto_open_1 : decode b_Sto_open 1 = .ok (.iconst 1, 1) := by decide +kernel
theorem d_Sto_open_2 : decode b_Sto_open 2 = .ok (.iconst 0, 1) := by decide +kernel
theorem d_Sto_open_3 : decode b_Sto_open 3 = .ok (.invokevirtual 40, 3) := by decide +kernel
theorem d_Sto_open_6 : decode b_Sto_open 6 = .ok (.ifCond .ne 5, 3) := by decide +kernel
theorem d_Sto_open_9 : decode b_Sto_open 9 = .ok (.iconst (-1), 1) := by decide +kernel
theorem d_Sto_open_10 : decode b_Sto_open 10 = .ok (.ireturn, 1) := by decide +kernel
theorem d_Sto_open_11 : decode b_Sto_open 11 = .ok (.aload_n 0, 1) := by decide +kernel
theorem d_Sto_open_12 : decode b_Sto_open 12 = .ok (.aload_n 0, 1) := by decide +kernel
theorem d_Sto_open_13 : decode b_Sto_open 13 = .ok (.getfield 37, 3) := by decide +kernel
theorem d_Sto_open_16 : decode b_Sto_open 16 = .ok (.aload_n 0, 1) := by decide +kernel
theorem d_Sto_open_17 : decode b_Sto_open 17 = .ok (.getfield 9, 3) := by decide +kernel
theorem d_Sto_open_20 : decode b_Sto_open 20 = .ok (.iconst 1, 1) := by decide +kernel
theorem d_Sto_open_21 : decode b_Sto_open 21 = .ok (.iadd, 1) := by decide +kernel
theorem d_Sto_open_22 : decode b_Sto_open 22 = .ok (.sipush 1500, 3) := by decide +kernel
theorem d_Sto_open_25 : decode b_Sto_open 25 = .ok (.invokestatic 44, 3) := by decide +kernel
theorem d_Sto_open_28 : decode b_Sto_open 28 = .ok (.putfield 37, 3) := by decide +kernel
theorem d_Sto_open_31 : decode b_Sto_open 31 = .ok (.aload_n 0, 1) := by decide +kernel
theorem d_Sto_open_32 : decode b_Sto_open 32 = .ok (.getfield 37, 3) := by decide +kernel
theorem d_Sto_open_35 : decode b_Sto_open 35 = .ok (.aload_n 0, 1) := by decide +kernel
theorem d_Sto_open_36 : decode b_Sto_open 36 = .ok (.getfield 9, 3) := by decide +kernel
theorem d_Sto_open_39 : decode b_Sto_open 39 = .ok (.aload_n 0, 1) := by decide +kernel
theorem d_Sto_open_40 : decode b_Sto_open 40 = .ok (.getfield 15, 3) := by decide +kernel
theorem d_Sto_open_43 : decode b_Sto_open 43 = .ok (.iastore, 1) := by decide +kernel
theorem d_Sto_open_44 : decode b_Sto_open 44 = .ok (.aload_n 0, 1) := by decide +kernel
theorem d_Sto_open_45 : decode b_Sto_open 45 = .ok (.dup, 1) := by decide +kernel
theorem d_Sto_open_46 : decode b_Sto_open 46 = .ok (.getfield 9, 3) := by decide +kernel
theorem d_Sto_open_49 : decode b_Sto_open 49 = .ok (.iconst 1, 1) := by decide +kernel
theorem d_Sto_open_50 : decode b_Sto_open 50 = .ok (.iadd, 1) := by decide +kernel
theorem d_Sto_open_51 : decode b_Sto_open 51 = .ok (.putfield 9, 3) := by decide +kernel
theorem d_Sto_open_54 : decode b_Sto_open 54 = .ok (.aload_n 0, 1) := by decide +kernel
theorem d_Sto_open_55 : decode b_Sto_open 55 = .ok (.getfield 9, 3) := by decide +kernel
theorem d_Sto_open_58 : decode b_Sto_open 58 = .ok (.iconst 1, 1) := by decide +kernel
theorem d_Sto_open_59 : decode b_Sto_open 59 = .ok (.isub, 1) := by decide +kernel
theorem d_Sto_open_60 : decode b_Sto_open 60 = .ok (.ireturn, 1) := by decide +kernel
theorem d_CS_clause_0 : decode b_CS_clause 0 = .ok (.aload_n 0, 1) := by decide +kernel
theorem d_CS_clause_1 : decode b_CS_clause 1 = .ok (.getfield 27, 3) := by decide +kernel
theorem d_CS_clause_4 : decode b_CS_clause 4 = .ok (.iconst 1, 1) := by decide +kernel
theorem d_CS_clause_5 : decode b_CS_clause 5 = .ok (.iconst 0, 1) := by decide +kernel
theorem d_CS_clause_6 : decode b_CS_clause 6 = .ok (.invokevirtual 74, 3) := by decide +kernel
theorem d_CS_clause_9 : decode b_CS_clause 9 = .ok (.ifCond .ne 5, 3) := by decide +kernel
theorem d_CS_clause_12 : decode b_CS_clause 12 = .ok (.iconst (-1), 1) := by decide +kernel
theorem d_CS_clause_13 : decode b_CS_clause 13 = .ok (.ireturn, 1) := by decide +kernel
theorem d_CS_clause_14 : decode b_CS_clause 14 = .ok (.aload_n 0, 1) := by decide +kernel
theorem d_CS_clause_15 : decode b_CS_clause 15 = .ok (.aload_n 0, 1) := by decide +kernel
theorem d_CS_clause_16 : decode b_CS_clause 16 = .ok (.getfield 27, 3) := by decide +kernel
theorem d_CS_clause_19 : decode b_CS_clause 19 = .ok (.invokevirtual 78, 3) := by decide +kernel
theorem d_CS_clause_22 : decode b_CS_clause 22 = .ok (.putfield 68, 3) := by decide +kernel
theorem d_CS_clause_25 : decode b_CS_clause 25 = .ok (.aload_n 0, 1) := by decide +kernel
theorem d_CS_clause_26 : decode b_CS_clause 26 = .ok (.iconst 1, 1) := by decide +kernel
theorem d_CS_clause_27 : decode b_CS_clause 27 = .ok (.putfield 71, 3) := by decide +kernel
theorem d_CS_clause_30 : decode b_CS_clause 30 = .ok (.aload_n 0, 1) := by decide +kernel
theorem d_CS_clause_31 : decode b_CS_clause 31 = .ok (.getfield 68, 3) := by decide +kernel
theorem d_CS_clause_34 : decode b_CS_clause 34 = .ok (.ireturn, 1) := by decide +kernel
theorem d_CS_isStillOpen_0 : decode b_CS_isStillOpen 0 = .ok (.iload_n 1, 1) := by decide +kernel
theorem d_CS_isStillOpen_1 : decode b_CS_isStillOpen 1 = .ok (.ifCond .lt 28, 3) := by decide +kernel
theorem d_CS_isStillOpen_4 : decode b_CS_isStillOpen 4 = .ok (.iload_n 1, 1) := by decide +kernel
theorem d_CS_isStillOpen_5 : decode b_CS_isStillOpen 5 = .ok (.aload_n 0, 1) := by decide +kernel
theorem d_CS_isStillOpen_6 : decode b_CS_isStillOpen 6 = .ok (.getfield 68, 3) := by decide +kernel
theorem d_CS_isStillOpen_9 : decode b_CS_isStillOpen 9 = .ok (.if_icmp .ne 20, 3) := by decide +kernel
theorem d_CS_isStillOpen_12 : decode b_CS_isStillOpen 12 = .ok (.iload_n 1, 1) := by decide +kernel
theorem d_CS_isStillOpen_13 : decode b_CS_isStillOpen 13 = .ok (.aload_n 0, 1) := by decide +kernel
theorem d_CS_isStillOpen_14 : decode b_CS_isStillOpen 14 = .ok (.getfield 27, 3) := by decide +kernel
theorem d_CS_isStillOpen_17 : decode b_CS_isStillOpen 17 = .ok (.getfield 165, 3) := by decide +kernel
theorem d_CS_isStillOpen_20 : decode b_CS_isStillOpen 20 = .ok (.iconst 1, 1) := by decide +kernel
theorem d_CS_isStillOpen_21 : decode b_CS_isStillOpen 21 = .ok (.isub, 1) := by decide +kernel
theorem d_CS_isStillOpen_22 : decode b_CS_isStillOpen 22 = .ok (.if_icmp .ne 7, 3) := by decide +kernel
theorem d_CS_isStillOpen_25 : decode b_CS_isStillOpen 25 = .ok (.iconst 1, 1) := by decide +kernel
theorem d_CS_isStillOpen_26 : decode b_CS_isStillOpen 26 = .ok (.goto 4, 3) := by decide +kernel
theorem d_CS_isStillOpen_29 : decode b_CS_isStillOpen 29 = .ok (.iconst 0, 1) := by decide +kernel
theorem d_CS_isStillOpen_30 : decode b_CS_isStillOpen 30 = .ok (.ireturn, 1) := by decide +kernel
theorem d_CS_isThing_0 : decode b_CS_isThing 0 = .ok (.iload_n 1, 1) := by decide +kernel
theorem d_CS_isThing_1 : decode b_CS_isThing 1 = .ok (.ifCond .lt 15, 3) := by decide +kernel
theorem d_CS_isThing_4 : decode b_CS_isThing 4 = .ok (.iload_n 1, 1) := by decide +kernel
theorem d_CS_isThing_5 : decode b_CS_isThing 5 = .ok (.aload_n 0, 1) := by decide +kernel
theorem d_CS_isThing_6 : decode b_CS_isThing 6 = .ok (.getfield 18, 3) := by decide +kernel
theorem d_CS_isThing_9 : decode b_CS_isThing 9 = .ok (.if_icmp .ge 7, 3) := by decide +kernel
theorem d_CS_isThing_12 : decode b_CS_isThing 12 = .ok (.iconst 1, 1) := by decide +kernel
theorem d_CS_isThing_13 : decode b_CS_isThing 13 = .ok (.goto 4, 3) := by decide +kernel
theorem d_CS_isThing_16 : decode b_CS_isThing 16 = .ok (.iconst 0, 1) := by decide +kernel
theorem d_CS_isThing_17 : decode b_CS_isThing 17 = .ok (.ireturn, 1) := by decide +kernel
theorem d_CS_literalOf_0 : decode b_CS_literalOf 0 = .ok (.iconst 2, 1) := by decide +kernel
theorem d_CS_literalOf_1 : decode b_CS_literalOf 1 = .ok (.iload_n 0, 1) := by decide +kernel
theorem d_CS_literalOf_2 : decode b_CS_literalOf 2 = .ok (.imul, 1) := by decide +kernel
theorem d_CS_literalOf_3 : decode b_CS_literalOf 3 = .ok (.iload_n 1, 1) := by decide +kernel
theorem d_CS_literalOf_4 : decode b_CS_literalOf 4 = .ok (.ifCond .eq 7, 3) := by decide +kernel
theorem d_CS_literalOf_7 : decode b_CS_literalOf 7 = .ok (.iconst 1, 1) := by decide +kernel
theorem d_CS_literalOf_8 : decode b_CS_literalOf 8 = .ok (.goto 4, 3) := by decide +kernel
theorem d_CS_literalOf_11 : decode b_CS_literalOf 11 = .ok (.iconst 0, 1) := by decide +kernel
theorem d_CS_literalOf_12 : decode b_CS_literalOf 12 = .ok (.iadd, 1) := by decide +kernel
theorem d_CS_literalOf_13 : decode b_CS_literalOf 13 = .ok (.ireturn, 1) := by decide +kernel
theorem d_Sto_endOf_0 : decode b_Sto_endOf 0 = .ok (.iload_n 1, 1) := by decide +kernel
theorem d_Sto_endOf_1 : decode b_Sto_endOf 1 = .ok (.ifCond .lt 24, 3) := by decide +kernel
theorem d_Sto_endOf_4 : decode b_Sto_endOf 4 = .ok (.iload_n 1, 1) := by decide +kernel
theorem d_Sto_endOf_5 : decode b_Sto_endOf 5 = .ok (.iconst 1, 1) := by decide +kernel
theorem d_Sto_endOf_6 : decode b_Sto_endOf 6 = .ok (.iadd, 1) := by decide +kernel
theorem d_Sto_endOf_7 : decode b_Sto_endOf 7 = .ok (.aload_n 0, 1) := by decide +kernel
theorem d_Sto_endOf_8 : decode b_Sto_endOf 8 = .ok (.getfield 9, 3) := by decide +kernel
theorem d_Sto_endOf_11 : decode b_Sto_endOf 11 = .ok (.if_icmp .ge 14, 3) := by decide +kernel
theorem d_Sto_endOf_14 : decode b_Sto_endOf 14 = .ok (.aload_n 0, 1) := by decide +kernel
theorem d_Sto_endOf_15 : decode b_Sto_endOf 15 = .ok (.getfield 37, 3) := by decide +kernel
theorem d_Sto_endOf_18 : decode b_Sto_endOf 18 = .ok (.iload_n 1, 1) := by decide +kernel
theorem d_Sto_endOf_19 : decode b_Sto_endOf 19 = .ok (.iconst 1, 1) := by decide +kernel
theorem d_Sto_endOf_20 : decode b_Sto_endOf 20 = .ok (.iadd, 1) := by decide +kernel
theorem d_Sto_endOf_21 : decode b_Sto_endOf 21 = .ok (.iaload, 1) := by decide +kernel
theorem d_Sto_endOf_22 : decode b_Sto_endOf 22 = .ok (.goto 7, 3) := by decide +kernel
theorem d_Sto_endOf_25 : decode b_Sto_endOf 25 = .ok (.aload_n 0, 1) := by decide +kernel
theorem d_Sto_endOf_26 : decode b_Sto_endOf 26 = .ok (.getfield 15, 3) := by decide +kernel
theorem d_Sto_endOf_29 : decode b_Sto_endOf 29 = .ok (.ireturn, 1) := by decide +kernel
theorem d_Sto_startOf_0 : decode b_Sto_startOf 0 = .ok (.iload_n 1, 1) := by decide +kernel
theorem d_Sto_startOf_1 : decode b_Sto_startOf 1 = .ok (.ifCond .lt 20, 3) := by decide +kernel
theorem d_Sto_startOf_4 : decode b_Sto_startOf 4 = .ok (.iload_n 1, 1) := by decide +kernel
theorem d_Sto_startOf_5 : decode b_Sto_startOf 5 = .ok (.aload_n 0, 1) := by decide +kernel
theorem d_Sto_startOf_6 : decode b_Sto_startOf 6 = .ok (.getfield 9, 3) := by decide +kernel
theorem d_Sto_startOf_9 : decode b_Sto_startOf 9 = .ok (.if_icmp .ge 12, 3) := by decide +kernel
theorem d_Sto_startOf_12 : decode b_Sto_startOf 12 = .ok (.aload_n 0, 1) := by decide +kernel
theorem d_Sto_startOf_13 : decode b_Sto_startOf 13 = .ok (.getfield 37, 3) := by decide +kernel
theorem d_Sto_startOf_16 : decode b_Sto_startOf 16 = .ok (.iload_n 1, 1) := by decide +kernel
theorem d_Sto_startOf_17 : decode b_Sto_startOf 17 = .ok (.iaload, 1) := by decide +kernel
theorem d_Sto_startOf_18 : decode b_Sto_startOf 18 = .ok (.goto 7, 3) := by decide +kernel
theorem d_Sto_startOf_21 : decode b_Sto_startOf 21 = .ok (.aload_n 0, 1) := by decide +kernel
theorem d_Sto_startOf_22 : decode b_Sto_startOf 22 = .ok (.getfield 15, 3) := by decide +kernel
theorem d_Sto_startOf_25 : decode b_Sto_startOf 25 = .ok (.ireturn, 1) := by decide +kernel
theorem d_Sto_sizeOf_0 : decode b_Sto_sizeOf 0 = .ok (.aload_n 0, 1) := by decide +kernel
theorem d_Sto_sizeOf_1 : decode b_Sto_sizeOf 1 = .ok (.iload_n 1, 1) := by decide +kernel
theorem d_Sto_sizeOf_2 : decode b_Sto_sizeOf 2 = .ok (.invokevirtual 48, 3) := by decide +kernel
theorem d_Sto_sizeOf_5 : decode b_Sto_sizeOf 5 = .ok (.aload_n 0, 1) := by decide +kernel
theorem d_Sto_sizeOf_6 : decode b_Sto_sizeOf 6 = .ok (.iload_n 1, 1) := by decide +kernel
theorem d_Sto_sizeOf_7 : decode b_Sto_sizeOf 7 = .ok (.invokevirtual 52, 3) := by decide +kernel
theorem d_Sto_sizeOf_10 : decode b_Sto_sizeOf 10 = .ok (.isub, 1) := by decide +kernel
theorem d_Sto_sizeOf_11 : decode b_Sto_sizeOf 11 = .ok (.ireturn, 1) := by decide +kernel
theorem d_Sto_holds_0 : decode b_Sto_holds 0 = .ok (.aload_n 0, 1) := by decide +kernel
theorem d_Sto_holds_1 : decode b_Sto_holds 1 = .ok (.iload_n 1, 1) := by decide +kernel
theorem d_Sto_holds_2 : decode b_Sto_holds 2 = .ok (.invokevirtual 48, 3) := by decide +kernel
theorem d_Sto_holds_5 : decode b_Sto_holds 5 = .ok (.istore_n 3, 1) := by decide +kernel
theorem d_Sto_holds_6 : decode b_Sto_holds 6 = .ok (.aload_n 0, 1) := by decide +kernel
theorem d_Sto_holds_7 : decode b_Sto_holds 7 = .ok (.iload_n 1, 1) := by decide +kernel
theorem d_Sto_holds_8 : decode b_Sto_holds 8 = .ok (.invokevirtual 52, 3) := by decide +kernel
theorem d_Sto_holds_11 : decode b_Sto_holds 11 = .ok (.istore 4, 2) := by decide +kernel
theorem d_Sto_holds_13 : decode b_Sto_holds 13 = .ok (.iload 4, 2) := by decide +kernel
theorem d_Sto_holds_15 : decode b_Sto_holds 15 = .ok (.iload_n 3, 1) := by decide +kernel
theorem d_Sto_holds_16 : decode b_Sto_holds 16 = .ok (.if_icmp .ge 22, 3) := by decide +kernel
theorem d_Sto_holds_19 : decode b_Sto_holds 19 = .ok (.aload_n 0, 1) := by decide +kernel
theorem d_Sto_holds_20 : decode b_Sto_holds 20 = .ok (.getfield 18, 3) := by decide +kernel
theorem d_Sto_holds_23 : decode b_Sto_holds 23 = .ok (.iload 4, 2) := by decide +kernel
theorem d_Sto_holds_25 : decode b_Sto_holds 25 = .ok (.iaload, 1) := by decide +kernel
theorem d_Sto_holds_26 : decode b_Sto_holds 26 = .ok (.iload_n 2, 1) := by decide +kernel
theorem d_Sto_holds_27 : decode b_Sto_holds 27 = .ok (.if_icmp .ne 5, 3) := by decide +kernel
theorem d_Sto_holds_30 : decode b_Sto_holds 30 = .ok (.iconst 1, 1) := by decide +kernel
theorem d_Sto_holds_31 : decode b_Sto_holds 31 = .ok (.ireturn, 1) := by decide +kernel
theorem d_Sto_holds_32 : decode b_Sto_holds 32 = .ok (.iinc 4 1, 3) := by decide +kernel
theorem d_Sto_holds_35 : decode b_Sto_holds 35 = .ok (.goto (-22), 3) := by decide +kernel
theorem d_Sto_holds_38 : decode b_Sto_holds 38 = .ok (.iconst 0, 1) := by decide +kernel
theorem d_Sto_holds_39 : decode b_Sto_holds 39 = .ok (.ireturn, 1) := by decide +kernel
theorem d_Sto_append_0 : decode b_Sto_append 0 = .ok (.aload_n 0, 1) := by decide +kernel
theorem d_Sto_append_1 : decode b_Sto_append 1 = .ok (.getfield 9, 3) := by decide +kernel
theorem d_Sto_append_4 : decode b_Sto_append 4 = .ok (.ifCond .eq 25, 3) := by decide +kernel
theorem d_Sto_append_7 : decode b_Sto_append 7 = .ok (.aload_n 0, 1) := by decide +kernel
theorem d_Sto_append_8 : decode b_Sto_append 8 = .ok (.iconst 0, 1) := by decide +kernel
theorem d_Sto_append_9 : decode b_Sto_append 9 = .ok (.iconst 1, 1) := by decide +kernel
theorem d_Sto_append_10 : decode b_Sto_append 10 = .ok (.invokevirtual 40, 3) := by decide +kernel
theorem d_Sto_append_13 : decode b_Sto_append 13 = .ok (.ifCond .eq 16, 3) := by decide +kernel
theorem d_Sto_append_16 : decode b_Sto_append 16 = .ok (.iload_n 1, 1) := by decide +kernel
theorem d_Sto_append_17 : decode b_Sto_append 17 = .ok (.ifCond .lt 12, 3) := by decide +kernel
theorem d_Sto_append_20 : decode b_Sto_append 20 = .ok (.iload_n 1, 1) := by decide +kernel
theorem d_Sto_append_21 : decode b_Sto_append 21 = .ok (.aload_n 0, 1) := by decide +kernel
theorem d_Sto_append_22 : decode b_Sto_append 22 = .ok (.getfield 28, 3) := by decide +kernel
theorem d_Sto_append_25 : decode b_Sto_append 25 = .ok (.arraylength, 1) := by decide +kernel
theorem d_Sto_append_26 : decode b_Sto_append 26 = .ok (.if_icmp .lt 4, 3) := by decide +kernel
theorem d_Sto_append_29 : decode b_Sto_append 29 = .ok (.return_, 1) := by decide +kernel
theorem d_Sto_append_30 : decode b_Sto_append 30 = .ok (.aload_n 0, 1) := by decide +kernel
theorem d_Sto_append_31 : decode b_Sto_append 31 = .ok (.aload_n 0, 1) := by decide +kernel
theorem d_Sto_append_32 : decode b_Sto_append 32 = .ok (.getfield 18, 3) := by decide +kernel
theorem d_Sto_append_35 : decode b_Sto_append 35 = .ok (.aload_n 0, 1) := by decide +kernel
theorem d_Sto_append_36 : decode b_Sto_append 36 = .ok (.getfield 15, 3) := by decide +kernel
theorem d_Sto_append_39 : decode b_Sto_append 39 = .ok (.iconst 1, 1) := by decide +kernel
theorem d_Sto_append_40 : decode b_Sto_append 40 = .ok (.iadd, 1) := by decide +kernel
theorem d_Sto_append_41 : decode b_Sto_append 41 = .ok (.sipush 20000, 3) := by decide +kernel
theorem d_Sto_append_44 : decode b_Sto_append 44 = .ok (.invokestatic 44, 3) := by decide +kernel
theorem d_Sto_append_47 : decode b_Sto_append 47 = .ok (.putfield 18, 3) := by decide +kernel
theorem d_Sto_append_50 : decode b_Sto_append 50 = .ok (.aload_n 0, 1) := by decide +kernel
theorem d_Sto_append_51 : decode b_Sto_append 51 = .ok (.aload_n 0, 1) := by decide +kernel
theorem d_Sto_append_52 : decode b_Sto_append 52 = .ok (.getfield 22, 3) := by decide +kernel
theorem d_Sto_append_55 : decode b_Sto_append 55 = .ok (.aload_n 0, 1) := by decide +kernel
theorem d_Sto_append_56 : decode b_Sto_append 56 = .ok (.getfield 15, 3) := by decide +kernel
theorem d_Sto_append_59 : decode b_Sto_append 59 = .ok (.iconst 1, 1) := by decide +kernel
theorem d_Sto_append_60 : decode b_Sto_append 60 = .ok (.iadd, 1) := by decide +kernel
theorem d_Sto_append_61 : decode b_Sto_append 61 = .ok (.sipush 20000, 3) := by decide +kernel
theorem d_Sto_append_64 : decode b_Sto_append 64 = .ok (.invokestatic 44, 3) := by decide +kernel
theorem d_Sto_append_67 : decode b_Sto_append 67 = .ok (.putfield 22, 3) := by decide +kernel
theorem d_Sto_append_70 : decode b_Sto_append 70 = .ok (.aload_n 0, 1) := by decide +kernel
theorem d_Sto_append_71 : decode b_Sto_append 71 = .ok (.aload_n 0, 1) := by decide +kernel
theorem d_Sto_append_72 : decode b_Sto_append 72 = .ok (.getfield 25, 3) := by decide +kernel
theorem d_Sto_append_75 : decode b_Sto_append 75 = .ok (.aload_n 0, 1) := by decide +kernel
theorem d_Sto_append_76 : decode b_Sto_append 76 = .ok (.getfield 15, 3) := by decide +kernel
theorem d_Sto_append_79 : decode b_Sto_append 79 = .ok (.iconst 1, 1) := by decide +kernel
theorem d_Sto_append_80 : decode b_Sto_append 80 = .ok (.iadd, 1) := by decide +kernel
theorem d_Sto_append_81 : decode b_Sto_append 81 = .ok (.sipush 20000, 3) := by decide +kernel
theorem d_Sto_append_84 : decode b_Sto_append 84 = .ok (.invokestatic 44, 3) := by decide +kernel
theorem d_Sto_append_87 : decode b_Sto_append 87 = .ok (.putfield 25, 3) := by decide +kernel
theorem d_Sto_append_90 : decode b_Sto_append 90 = .ok (.aload_n 0, 1) := by decide +kernel
theorem d_Sto_append_91 : decode b_Sto_append 91 = .ok (.getfield 18, 3) := by decide +kernel
theorem d_Sto_append_94 : decode b_Sto_append 94 = .ok (.aload_n 0, 1) := by decide +kernel
theorem d_Sto_append_95 : decode b_Sto_append 95 = .ok (.getfield 15, 3) := by decide +kernel
theorem d_Sto_append_98 : decode b_Sto_append 98 = .ok (.iload_n 1, 1) := by decide +kernel
theorem d_Sto_append_99 : decode b_Sto_append 99 = .ok (.iastore, 1) := by decide +kernel
theorem d_Sto_append_100 : decode b_Sto_append 100 = .ok (.aload_n 0, 1) := by decide +kernel
theorem d_Sto_append_101 : decode b_Sto_append 101 = .ok (.getfield 22, 3) := by decide +kernel
theorem d_Sto_append_104 : decode b_Sto_append 104 = .ok (.aload_n 0, 1) := by decide +kernel
theorem d_Sto_append_105 : decode b_Sto_append 105 = .ok (.getfield 15, 3) := by decide +kernel
theorem d_Sto_append_108 : decode b_Sto_append 108 = .ok (.aload_n 0, 1) := by decide +kernel
theorem d_Sto_append_109 : decode b_Sto_append 109 = .ok (.getfield 9, 3) := by decide +kernel
theorem d_Sto_append_112 : decode b_Sto_append 112 = .ok (.iconst 1, 1) := by decide +kernel
theorem d_Sto_append_113 : decode b_Sto_append 113 = .ok (.isub, 1) := by decide +kernel
theorem d_Sto_append_114 : decode b_Sto_append 114 = .ok (.iastore, 1) := by decide +kernel
theorem d_Sto_append_115 : decode b_Sto_append 115 = .ok (.aload_n 0, 1) := by decide +kernel
theorem d_Sto_append_116 : decode b_Sto_append 116 = .ok (.getfield 25, 3) := by decide +kernel
theorem d_Sto_append_119 : decode b_Sto_append 119 = .ok (.aload_n 0, 1) := by decide +kernel
theorem d_Sto_append_120 : decode b_Sto_append 120 = .ok (.getfield 15, 3) := by decide +kernel
theorem d_Sto_append_123 : decode b_Sto_append 123 = .ok (.aload_n 0, 1) := by decide +kernel
theorem d_Sto_append_124 : decode b_Sto_append 124 = .ok (.getfield 28, 3) := by decide +kernel
theorem d_Sto_append_127 : decode b_Sto_append 127 = .ok (.iload_n 1, 1) := by decide +kernel
theorem d_Sto_append_128 : decode b_Sto_append 128 = .ok (.iaload, 1) := by decide +kernel
theorem d_Sto_append_129 : decode b_Sto_append 129 = .ok (.iastore, 1) := by decide +kernel
theorem d_Sto_append_130 : decode b_Sto_append 130 = .ok (.aload_n 0, 1) := by decide +kernel
theorem d_Sto_append_131 : decode b_Sto_append 131 = .ok (.getfield 28, 3) := by decide +kernel
theorem d_Sto_append_134 : decode b_Sto_append 134 = .ok (.iload_n 1, 1) := by decide +kernel
theorem d_Sto_append_135 : decode b_Sto_append 135 = .ok (.aload_n 0, 1) := by decide +kernel
theorem d_Sto_append_136 : decode b_Sto_append 136 = .ok (.getfield 15, 3) := by decide +kernel
theorem d_Sto_append_139 : decode b_Sto_append 139 = .ok (.iastore, 1) := by decide +kernel
theorem d_Sto_append_140 : decode b_Sto_append 140 = .ok (.aload_n 0, 1) := by decide +kernel
theorem d_Sto_append_141 : decode b_Sto_append 141 = .ok (.dup, 1) := by decide +kernel
theorem d_Sto_append_142 : decode b_Sto_append 142 = .ok (.getfield 15, 3) := by decide +kernel
theorem d_Sto_append_145 : decode b_Sto_append 145 = .ok (.iconst 1, 1) := by decide +kernel
theorem d_Sto_append_146 : decode b_Sto_append 146 = .ok (.iadd, 1) := by decide +kernel
theorem d_Sto_append_147 : decode b_Sto_append 147 = .ok (.putfield 15, 3) := by decide +kernel
theorem d_Sto_append_150 : decode b_Sto_append 150 = .ok (.return_, 1) := by decide +kernel
theorem d_CS_literal_0 : decode b_CS_literal 0 = .ok (.aload_n 0, 1) := by decide +kernel
theorem d_CS_literal_1 : decode b_CS_literal 1 = .ok (.iload_n 1, 1) := by decide +kernel
theorem d_CS_literal_2 : decode b_CS_literal 2 = .ok (.invokevirtual 82, 3) := by decide +kernel
theorem d_CS_literal_5 : decode b_CS_literal 5 = .ok (.ifCond .eq 11, 3) := by decide +kernel
theorem d_CS_literal_8 : decode b_CS_literal 8 = .ok (.aload_n 0, 1) := by decide +kernel
theorem d_CS_literal_9 : decode b_CS_literal 9 = .ok (.iload_n 2, 1) := by decide +kernel
theorem d_CS_literal_10 : decode b_CS_literal 10 = .ok (.invokevirtual 86, 3) := by decide +kernel
theorem d_CS_literal_13 : decode b_CS_literal 13 = .ok (.ifCond .ne 5, 3) := by decide +kernel
theorem d_CS_literal_16 : decode b_CS_literal 16 = .ok (.iconst 0, 1) := by decide +kernel
theorem d_CS_literal_17 : decode b_CS_literal 17 = .ok (.ireturn, 1) := by decide +kernel
theorem d_CS_literal_18 : decode b_CS_literal 18 = .ok (.iload_n 2, 1) := by decide +kernel
theorem d_CS_literal_19 : decode b_CS_literal 19 = .ok (.iload_n 3, 1) := by decide +kernel
theorem d_CS_literal_20 : decode b_CS_literal 20 = .ok (.invokestatic 89, 3) := by decide +kernel
theorem d_CS_literal_23 : decode b_CS_literal 23 = .ok (.istore 4, 2) := by decide +kernel
theorem d_CS_literal_25 : decode b_CS_literal 25 = .ok (.aload_n 0, 1) := by decide +kernel
theorem d_CS_literal_26 : decode b_CS_literal 26 = .ok (.getfield 27, 3) := by decide +kernel
theorem d_CS_literal_29 : decode b_CS_literal 29 = .ok (.iload_n 1, 1) := by decide +kernel
theorem d_CS_literal_30 : decode b_CS_literal 30 = .ok (.invokevirtual 93, 3) := by decide +kernel
theorem d_CS_literal_33 : decode b_CS_literal 33 = .ok (.bipush 60, 2) := by decide +kernel
theorem d_CS_literal_35 : decode b_CS_literal 35 = .ok (.if_icmp .ge 28, 3) := by decide +kernel
theorem d_CS_literal_38 : decode b_CS_literal 38 = .ok (.aload_n 0, 1) := by decide +kernel
theorem d_CS_literal_39 : decode b_CS_literal 39 = .ok (.getfield 27, 3) := by decide +kernel
theorem d_CS_literal_42 : decode b_CS_literal 42 = .ok (.iconst 0, 1) := by decide +kernel
theorem d_CS_literal_43 : decode b_CS_literal 43 = .ok (.iconst 1, 1) := by decide +kernel
theorem d_CS_literal_44 : decode b_CS_literal 44 = .ok (.invokevirtual 74, 3) := by decide +kernel
theorem d_CS_literal_47 : decode b_CS_literal 47 = .ok (.ifCond .eq 16, 3) := by decide +kernel
theorem d_CS_literal_50 : decode b_CS_literal 50 = .ok (.aload_n 0, 1) := by decide +kernel
theorem d_CS_literal_51 : decode b_CS_literal 51 = .ok (.getfield 27, 3) := by decide +kernel
theorem d_CS_literal_54 : decode b_CS_literal 54 = .ok (.iload_n 1, 1) := by decide +kernel
theorem d_CS_literal_55 : decode b_CS_literal 55 = .ok (.iload 4, 2) := by decide +kernel
theorem d_CS_literal_57 : decode b_CS_literal 57 = .ok (.invokevirtual 97, 3) := by decide +kernel
theorem d_CS_literal_60 : decode b_CS_literal 60 = .ok (.ifCond .eq 5, 3) := by decide +kernel
theorem d_CS_literal_63 : decode b_CS_literal 63 = .ok (.iconst 0, 1) := by decide +kernel
theorem d_CS_literal_64 : decode b_CS_literal 64 = .ok (.ireturn, 1) := by decide +kernel
theorem d_CS_literal_65 : decode b_CS_literal 65 = .ok (.aload_n 0, 1) := by decide +kernel
theorem d_CS_literal_66 : decode b_CS_literal 66 = .ok (.getfield 27, 3) := by decide +kernel
theorem d_CS_literal_69 : decode b_CS_literal 69 = .ok (.iload 4, 2) := by decide +kernel
theorem d_CS_literal_71 : decode b_CS_literal 71 = .ok (.invokevirtual 100, 3) := by decide +kernel
theorem d_CS_literal_74 : decode b_CS_literal 74 = .ok (.aload_n 0, 1) := by decide +kernel
theorem d_CS_literal_75 : decode b_CS_literal 75 = .ok (.iconst 1, 1) := by decide +kernel
theorem d_CS_literal_76 : decode b_CS_literal 76 = .ok (.putfield 71, 3) := by decide +kernel
theorem d_CS_literal_79 : decode b_CS_literal 79 = .ok (.iconst 1, 1) := by decide +kernel
theorem d_CS_literal_80 : decode b_CS_literal 80 = .ok (.ireturn, 1) := by decide +kernel
theorem d_CS_isCode_0 : decode b_CS_isCode 0 = .ok (.iload_n 0, 1) := by decide +kernel
theorem d_CS_isCode_1 : decode b_CS_isCode 1 = .ok (.ifCond .lt 13, 3) := by decide +kernel
theorem d_CS_isCode_4 : decode b_CS_isCode 4 = .ok (.iload_n 0, 1) := by decide +kernel
theorem d_CS_isCode_5 : decode b_CS_isCode 5 = .ok (.ldc 168, 2) := by decide +kernel
theorem d_CS_isCode_7 : decode b_CS_isCode 7 = .ok (.if_icmp .gt 7, 3) := by decide +kernel
theorem d_CS_isCode_10 : decode b_CS_isCode 10 = .ok (.iconst 1, 1) := by decide +kernel
theorem d_CS_isCode_11 : decode b_CS_isCode 11 = .ok (.goto 4, 3) := by decide +kernel
theorem d_CS_isCode_14 : decode b_CS_isCode 14 = .ok (.iconst 0, 1) := by decide +kernel
theorem d_CS_isCode_15 : decode b_CS_isCode 15 = .ok (.ireturn, 1) := by decide +kernel
theorem d_Pla_isTold_0 : decode b_Pla_isTold 0 = .ok (.aload_n 0, 1) := by decide +kernel
theorem d_Pla_isTold_1 : decode b_Pla_isTold 1 = .ok (.getfield 9, 3) := by decide +kernel
theorem d_Pla_isTold_4 : decode b_Pla_isTold 4 = .ok (.iload_n 1, 1) := by decide +kernel
theorem d_Pla_isTold_5 : decode b_Pla_isTold 5 = .ok (.iaload, 1) := by decide +kernel
theorem d_Pla_isTold_6 : decode b_Pla_isTold 6 = .ok (.iconst (-1), 1) := by decide +kernel
theorem d_Pla_isTold_7 : decode b_Pla_isTold 7 = .ok (.if_icmp .eq 7, 3) := by decide +kernel
theorem d_Pla_isTold_10 : decode b_Pla_isTold 10 = .ok (.iconst 1, 1) := by decide +kernel
theorem d_Pla_isTold_11 : decode b_Pla_isTold 11 = .ok (.goto 4, 3) := by decide +kernel
theorem d_Pla_isTold_14 : decode b_Pla_isTold 14 = .ok (.iconst 0, 1) := by decide +kernel
theorem d_Pla_isTold_15 : decode b_Pla_isTold 15 = .ok (.ireturn, 1) := by decide +kernel
theorem d_Pla_isTaken_0 : decode b_Pla_isTaken 0 = .ok (.iconst 0, 1) := by decide +kernel
theorem d_Pla_isTaken_1 : decode b_Pla_isTaken 1 = .ok (.istore_n 3, 1) := by decide +kernel
theorem d_Pla_isTaken_2 : decode b_Pla_isTaken 2 = .ok (.iload_n 3, 1) := by decide +kernel
theorem d_Pla_isTaken_3 : decode b_Pla_isTaken 3 = .ok (.aload_n 0, 1) := by decide +kernel
theorem d_Pla_isTaken_4 : decode b_Pla_isTaken 4 = .ok (.getfield 9, 3) := by decide +kernel
theorem d_Pla_isTaken_7 : decode b_Pla_isTaken 7 = .ok (.arraylength, 1) := by decide +kernel
theorem d_Pla_isTaken_8 : decode b_Pla_isTaken 8 = .ok (.if_icmp .ge 31, 3) := by decide +kernel
theorem d_Pla_isTaken_11 : decode b_Pla_isTaken 11 = .ok (.aload_n 0, 1) := by decide +kernel
theorem d_Pla_isTaken_12 : decode b_Pla_isTaken 12 = .ok (.getfield 9, 3) := by decide +kernel
theorem d_Pla_isTaken_15 : decode b_Pla_isTaken 15 = .ok (.iload_n 3, 1) := by decide +kernel
theorem d_Pla_isTaken_16 : decode b_Pla_isTaken 16 = .ok (.iaload, 1) := by decide +kernel
theorem d_Pla_isTaken_17 : decode b_Pla_isTaken 17 = .ok (.iload_n 1, 1) := by decide +kernel
theorem d_Pla_isTaken_18 : decode b_Pla_isTaken 18 = .ok (.if_icmp .ne 15, 3) := by decide +kernel
theorem d_Pla_isTaken_21 : decode b_Pla_isTaken 21 = .ok (.aload_n 0, 1) := by decide +kernel
theorem d_Pla_isTaken_22 : decode b_Pla_isTaken 22 = .ok (.getfield 15, 3) := by decide +kernel
theorem d_Pla_isTaken_25 : decode b_Pla_isTaken 25 = .ok (.iload_n 3, 1) := by decide +kernel
theorem d_Pla_isTaken_26 : decode b_Pla_isTaken 26 = .ok (.iaload, 1) := by decide +kernel
theorem d_Pla_isTaken_27 : decode b_Pla_isTaken 27 = .ok (.iload_n 2, 1) := by decide +kernel
theorem d_Pla_isTaken_28 : decode b_Pla_isTaken 28 = .ok (.if_icmp .ne 5, 3) := by decide +kernel
theorem d_Pla_isTaken_31 : decode b_Pla_isTaken 31 = .ok (.iconst 1, 1) := by decide +kernel
theorem d_Pla_isTaken_32 : decode b_Pla_isTaken 32 = .ok (.ireturn, 1) := by decide +kernel
theorem d_Pla_isTaken_33 : decode b_Pla_isTaken 33 = .ok (.iinc 3 1, 3) := by decide +kernel
theorem d_Pla_isTaken_36 : decode b_Pla_isTaken 36 = .ok (.goto (-34), 3) := by decide +kernel
theorem d_Pla_isTaken_39 : decode b_Pla_isTaken 39 = .ok (.iconst 0, 1) := by decide +kernel
theorem d_Pla_isTaken_40 : decode b_Pla_isTaken 40 = .ok (.ireturn, 1) := by decide +kernel
theorem d_Pla_countAt_0 : decode b_Pla_countAt 0 = .ok (.iconst 0, 1) := by decide +kernel
theorem d_Pla_countAt_1 : decode b_Pla_countAt 1 = .ok (.istore_n 2, 1) := by decide +kernel
theorem d_Pla_countAt_2 : decode b_Pla_countAt 2 = .ok (.iconst 0, 1) := by decide +kernel
theorem d_Pla_countAt_3 : decode b_Pla_countAt 3 = .ok (.istore_n 3, 1) := by decide +kernel
theorem d_Pla_countAt_4 : decode b_Pla_countAt 4 = .ok (.iload_n 3, 1) := by decide +kernel
theorem d_Pla_countAt_5 : decode b_Pla_countAt 5 = .ok (.aload_n 0, 1) := by decide +kernel
theorem d_Pla_countAt_6 : decode b_Pla_countAt 6 = .ok (.getfield 9, 3) := by decide +kernel
theorem d_Pla_countAt_9 : decode b_Pla_countAt 9 = .ok (.arraylength, 1) := by decide +kernel
theorem d_Pla_countAt_10 : decode b_Pla_countAt 10 = .ok (.if_icmp .ge 22, 3) := by decide +kernel
theorem d_Pla_countAt_13 : decode b_Pla_countAt 13 = .ok (.aload_n 0, 1) := by decide +kernel
theorem d_Pla_countAt_14 : decode b_Pla_countAt 14 = .ok (.getfield 9, 3) := by decide +kernel
theorem d_Pla_countAt_17 : decode b_Pla_countAt 17 = .ok (.iload_n 3, 1) := by decide +kernel
theorem d_Pla_countAt_18 : decode b_Pla_countAt 18 = .ok (.iaload, 1) := by decide +kernel
theorem d_Pla_countAt_19 : decode b_Pla_countAt 19 = .ok (.iload_n 1, 1) := by decide +kernel
theorem d_Pla_countAt_20 : decode b_Pla_countAt 20 = .ok (.if_icmp .ne 6, 3) := by decide +kernel
theorem d_Pla_countAt_23 : decode b_Pla_countAt 23 = .ok (.iinc 2 1, 3) := by decide +kernel
theorem d_Pla_countAt_26 : decode b_Pla_countAt 26 = .ok (.iinc 3 1, 3) := by decide +kernel
theorem d_Pla_countAt_29 : decode b_Pla_countAt 29 = .ok (.goto (-25), 3) := by decide +kernel
theorem d_Pla_countAt_32 : decode b_Pla_countAt 32 = .ok (.iload_n 2, 1) := by decide +kernel
theorem d_Pla_countAt_33 : decode b_Pla_countAt 33 = .ok (.ireturn, 1) := by decide +kernel
theorem d_Pla_isAt_0 : decode b_Pla_isAt 0 = .ok (.aload_n 0, 1) := by decide +kernel
theorem d_Pla_isAt_1 : decode b_Pla_isAt 1 = .ok (.getfield 9, 3) := by decide +kernel
theorem d_Pla_isAt_4 : decode b_Pla_isAt 4 = .ok (.iload_n 1, 1) := by decide +kernel
theorem d_Pla_isAt_5 : decode b_Pla_isAt 5 = .ok (.iaload, 1) := by decide +kernel
theorem d_Pla_isAt_6 : decode b_Pla_isAt 6 = .ok (.iload_n 2, 1) := by decide +kernel
theorem d_Pla_isAt_7 : decode b_Pla_isAt 7 = .ok (.if_icmp .ne 7, 3) := by decide +kernel
theorem d_Pla_isAt_10 : decode b_Pla_isAt 10 = .ok (.iconst 1, 1) := by decide +kernel
theorem d_Pla_isAt_11 : decode b_Pla_isAt 11 = .ok (.goto 4, 3) := by decide +kernel
theorem d_Pla_isAt_14 : decode b_Pla_isAt 14 = .ok (.iconst 0, 1) := by decide +kernel
theorem d_Pla_isAt_15 : decode b_Pla_isAt 15 = .ok (.ireturn, 1) := by decide +kernel
theorem d_Pla_tell_0 : decode b_Pla_tell 0 = .ok (.aload_n 0, 1) := by decide +kernel
theorem d_Pla_tell_1 : decode b_Pla_tell 1 = .ok (.getfield 9, 3) := by decide +kernel
theorem d_Pla_tell_4 : decode b_Pla_tell 4 = .ok (.iload_n 1, 1) := by decide +kernel
theorem d_Pla_tell_5 : decode b_Pla_tell 5 = .ok (.iload_n 2, 1) := by decide +kernel
theorem d_Pla_tell_6 : decode b_Pla_tell 6 = .ok (.iastore, 1) := by decide +kernel
theorem d_Pla_tell_7 : decode b_Pla_tell 7 = .ok (.aload_n 0, 1) := by decide +kernel
theorem d_Pla_tell_8 : decode b_Pla_tell 8 = .ok (.getfield 15, 3) := by decide +kernel
theorem d_Pla_tell_11 : decode b_Pla_tell 11 = .ok (.iload_n 1, 1) := by decide +kernel
theorem d_Pla_tell_12 : decode b_Pla_tell 12 = .ok (.iload_n 3, 1) := by decide +kernel
theorem d_Pla_tell_13 : decode b_Pla_tell 13 = .ok (.iastore, 1) := by decide +kernel
theorem d_Pla_tell_14 : decode b_Pla_tell 14 = .ok (.return_, 1) := by decide +kernel
theorem d_CS_kernel_0 : decode b_CS_kernel 0 = .ok (.aload_n 0, 1) := by decide +kernel
theorem d_CS_kernel_1 : decode b_CS_kernel 1 = .ok (.iload_n 1, 1) := by decide +kernel
theorem d_CS_kernel_2 : decode b_CS_kernel 2 = .ok (.invokevirtual 86, 3) := by decide +kernel
theorem d_CS_kernel_5 : decode b_CS_kernel 5 = .ok (.ifCond .eq 17, 3) := by decide +kernel
theorem d_CS_kernel_8 : decode b_CS_kernel 8 = .ok (.iload_n 2, 1) := by decide +kernel
theorem d_CS_kernel_9 : decode b_CS_kernel 9 = .ok (.invokestatic 103, 3) := by decide +kernel
theorem d_CS_kernel_12 : decode b_CS_kernel 12 = .ok (.ifCond .eq 10, 3) := by decide +kernel
theorem d_CS_kernel_15 : decode b_CS_kernel 15 = .ok (.iload_n 3, 1) := by decide +kernel
theorem d_CS_kernel_16 : decode b_CS_kernel 16 = .ok (.invokestatic 103, 3) := by decide +kernel
theorem d_CS_kernel_19 : decode b_CS_kernel 19 = .ok (.ifCond .ne 5, 3) := by decide +kernel
theorem d_CS_kernel_22 : decode b_CS_kernel 22 = .ok (.iconst 0, 1) := by decide +kernel
theorem d_CS_kernel_23 : decode b_CS_kernel 23 = .ok (.ireturn, 1) := by decide +kernel
theorem d_CS_kernel_24 : decode b_CS_kernel 24 = .ok (.aload_n 0, 1) := by decide +kernel
theorem d_CS_kernel_25 : decode b_CS_kernel 25 = .ok (.getfield 34, 3) := by decide +kernel
theorem d_CS_kernel_28 : decode b_CS_kernel 28 = .ok (.iload_n 1, 1) := by decide +kernel
theorem d_CS_kernel_29 : decode b_CS_kernel 29 = .ok (.invokevirtual 106, 3) := by decide +kernel
theorem d_CS_kernel_32 : decode b_CS_kernel 32 = .ok (.ifCond .ne 15, 3) := by decide +kernel
theorem d_CS_kernel_35 : decode b_CS_kernel 35 = .ok (.aload_n 0, 1) := by decide +kernel
theorem d_CS_kernel_36 : decode b_CS_kernel 36 = .ok (.getfield 34, 3) := by decide +kernel
theorem d_CS_kernel_39 : decode b_CS_kernel 39 = .ok (.iload_n 2, 1) := by decide +kernel
theorem d_CS_kernel_40 : decode b_CS_kernel 40 = .ok (.iload_n 3, 1) := by decide +kernel
theorem d_CS_kernel_41 : decode b_CS_kernel 41 = .ok (.invokevirtual 109, 3) := by decide +kernel
theorem d_CS_kernel_44 : decode b_CS_kernel 44 = .ok (.ifCond .eq 5, 3) := by decide +kernel
theorem d_CS_kernel_47 : decode b_CS_kernel 47 = .ok (.iconst 0, 1) := by decide +kernel
theorem d_CS_kernel_48 : decode b_CS_kernel 48 = .ok (.ireturn, 1) := by decide +kernel
theorem d_CS_kernel_49 : decode b_CS_kernel 49 = .ok (.aload_n 0, 1) := by decide +kernel
theorem d_CS_kernel_50 : decode b_CS_kernel 50 = .ok (.getfield 34, 3) := by decide +kernel
theorem d_CS_kernel_53 : decode b_CS_kernel 53 = .ok (.iload_n 2, 1) := by decide +kernel
theorem d_CS_kernel_54 : decode b_CS_kernel 54 = .ok (.invokevirtual 112, 3) := by decide +kernel
theorem d_CS_kernel_57 : decode b_CS_kernel 57 = .ok (.istore 4, 2) := by decide +kernel
theorem d_CS_kernel_59 : decode b_CS_kernel 59 = .ok (.aload_n 0, 1) := by decide +kernel
theorem d_CS_kernel_60 : decode b_CS_kernel 60 = .ok (.getfield 27, 3) := by decide +kernel
theorem d_CS_kernel_63 : decode b_CS_kernel 63 = .ok (.iload 4, 2) := by decide +kernel
theorem d_CS_kernel_65 : decode b_CS_kernel 65 = .ok (.iconst 2, 1) := by decide +kernel
theorem d_CS_kernel_66 : decode b_CS_kernel 66 = .ok (.iload 4, 2) := by decide +kernel
theorem d_CS_kernel_68 : decode b_CS_kernel 68 = .ok (.imul, 1) := by decide +kernel
theorem d_CS_kernel_69 : decode b_CS_kernel 69 = .ok (.invokevirtual 74, 3) := by decide +kernel
theorem d_CS_kernel_72 : decode b_CS_kernel 72 = .ok (.ifCond .ne 5, 3) := by decide +kernel
theorem d_CS_kernel_75 : decode b_CS_kernel 75 = .ok (.iconst 0, 1) := by decide +kernel
theorem d_CS_kernel_76 : decode b_CS_kernel 76 = .ok (.ireturn, 1) := by decide +kernel
theorem d_CS_kernel_77 : decode b_CS_kernel 77 = .ok (.iconst 0, 1) := by decide +kernel
theorem d_CS_kernel_78 : decode b_CS_kernel 78 = .ok (.istore 5, 2) := by decide +kernel
theorem d_CS_kernel_80 : decode b_CS_kernel 80 = .ok (.iload 5, 2) := by decide +kernel
theorem d_CS_kernel_82 : decode b_CS_kernel 82 = .ok (.aload_n 0, 1) := by decide +kernel
theorem d_CS_kernel_83 : decode b_CS_kernel 83 = .ok (.getfield 18, 3) := by decide +kernel
theorem d_CS_kernel_86 : decode b_CS_kernel 86 = .ok (.if_icmp .ge 55, 3) := by decide +kernel
theorem d_CS_kernel_89 : decode b_CS_kernel 89 = .ok (.aload_n 0, 1) := by decide +kernel
theorem d_CS_kernel_90 : decode b_CS_kernel 90 = .ok (.getfield 34, 3) := by decide +kernel
theorem d_CS_kernel_93 : decode b_CS_kernel 93 = .ok (.iload 5, 2) := by decide +kernel
theorem d_CS_kernel_95 : decode b_CS_kernel 95 = .ok (.iload_n 2, 1) := by decide +kernel
theorem d_CS_kernel_96 : decode b_CS_kernel 96 = .ok (.invokevirtual 115, 3) := by decide +kernel
theorem d_CS_kernel_99 : decode b_CS_kernel 99 = .ok (.ifCond .eq 36, 3) := by decide +kernel
theorem d_CS_kernel_102 : decode b_CS_kernel 102 = .ok (.aload_n 0, 1) := by decide +kernel
theorem d_CS_kernel_103 : decode b_CS_kernel 103 = .ok (.getfield 27, 3) := by decide +kernel
theorem d_CS_kernel_106 : decode b_CS_kernel 106 = .ok (.invokevirtual 78, 3) := by decide +kernel
theorem d_CS_kernel_109 : decode b_CS_kernel 109 = .ok (.pop, 1) := by decide +kernel
theorem d_CS_kernel_110 : decode b_CS_kernel 110 = .ok (.aload_n 0, 1) := by decide +kernel
theorem d_CS_kernel_111 : decode b_CS_kernel 111 = .ok (.getfield 27, 3) := by decide +kernel
theorem d_CS_kernel_114 : decode b_CS_kernel 114 = .ok (.iload 5, 2) := by decide +kernel
theorem d_CS_kernel_116 : decode b_CS_kernel 116 = .ok (.iconst 0, 1) := by decide +kernel
theorem d_CS_kernel_117 : decode b_CS_kernel 117 = .ok (.invokestatic 89, 3) := by decide +kernel
theorem d_CS_kernel_120 : decode b_CS_kernel 120 = .ok (.invokevirtual 100, 3) := by decide +kernel
theorem d_CS_kernel_123 : decode b_CS_kernel 123 = .ok (.aload_n 0, 1) := by decide +kernel
theorem d_CS_kernel_124 : decode b_CS_kernel 124 = .ok (.getfield 27, 3) := by decide +kernel
theorem d_CS_kernel_127 : decode b_CS_kernel 127 = .ok (.iload_n 1, 1) := by decide +kernel
theorem d_CS_kernel_128 : decode b_CS_kernel 128 = .ok (.iconst 0, 1) := by decide +kernel
theorem d_CS_kernel_129 : decode b_CS_kernel 129 = .ok (.invokestatic 89, 3) := by decide +kernel
theorem d_CS_kernel_132 : decode b_CS_kernel 132 = .ok (.invokevirtual 100, 3) := by decide +kernel
theorem d_CS_kernel_135 : decode b_CS_kernel 135 = .ok (.iinc 5 1, 3) := by decide +kernel
theorem d_CS_kernel_138 : decode b_CS_kernel 138 = .ok (.goto (-58), 3) := by decide +kernel
theorem d_CS_kernel_141 : decode b_CS_kernel 141 = .ok (.aload_n 0, 1) := by decide +kernel
theorem d_CS_kernel_142 : decode b_CS_kernel 142 = .ok (.getfield 34, 3) := by decide +kernel
theorem d_CS_kernel_145 : decode b_CS_kernel 145 = .ok (.iload_n 1, 1) := by decide +kernel
theorem d_CS_kernel_146 : decode b_CS_kernel 146 = .ok (.iload_n 2, 1) := by decide +kernel
theorem d_CS_kernel_147 : decode b_CS_kernel 147 = .ok (.iload_n 3, 1) := by decide +kernel
theorem d_CS_kernel_148 : decode b_CS_kernel 148 = .ok (.invokevirtual 118, 3) := by decide +kernel
theorem d_CS_kernel_151 : decode b_CS_kernel 151 = .ok (.aload_n 0, 1) := by decide +kernel
theorem d_CS_kernel_152 : decode b_CS_kernel 152 = .ok (.iconst 1, 1) := by decide +kernel
theorem d_CS_kernel_153 : decode b_CS_kernel 153 = .ok (.putfield 71, 3) := by decide +kernel
theorem d_CS_kernel_156 : decode b_CS_kernel 156 = .ok (.iconst 1, 1) := by decide +kernel
theorem d_CS_kernel_157 : decode b_CS_kernel 157 = .ok (.ireturn, 1) := by decide +kernel
theorem d_Tal_makeRoom_0 : decode b_Tal_makeRoom 0 = .ok (.aload_n 0, 1) := by decide +kernel
theorem d_Tal_makeRoom_1 : decode b_Tal_makeRoom 1 = .ok (.aload_n 0, 1) := by decide +kernel
theorem d_Tal_makeRoom_2 : decode b_Tal_makeRoom 2 = .ok (.getfield 22, 3) := by decide +kernel
theorem d_Tal_makeRoom_5 : decode b_Tal_makeRoom 5 = .ok (.aload_n 0, 1) := by decide +kernel
theorem d_Tal_makeRoom_6 : decode b_Tal_makeRoom 6 = .ok (.getfield 9, 3) := by decide +kernel
theorem d_Tal_makeRoom_9 : decode b_Tal_makeRoom 9 = .ok (.getfield 32, 3) := by decide +kernel
theorem d_Tal_makeRoom_12 : decode b_Tal_makeRoom 12 = .ok (.sipush 1500, 3) := by decide +kernel
theorem d_Tal_makeRoom_15 : decode b_Tal_makeRoom 15 = .ok (.invokestatic 62, 3) := by decide +kernel
theorem d_Tal_makeRoom_18 : decode b_Tal_makeRoom 18 = .ok (.putfield 22, 3) := by decide +kernel
theorem d_Tal_makeRoom_21 : decode b_Tal_makeRoom 21 = .ok (.aload_n 0, 1) := by decide +kernel
theorem d_Tal_makeRoom_22 : decode b_Tal_makeRoom 22 = .ok (.aload_n 0, 1) := by decide +kernel
theorem d_Tal_makeRoom_23 : decode b_Tal_makeRoom 23 = .ok (.getfield 26, 3) := by decide +kernel
theorem d_Tal_makeRoom_26 : decode b_Tal_makeRoom 26 = .ok (.aload_n 0, 1) := by decide +kernel
theorem d_Tal_makeRoom_27 : decode b_Tal_makeRoom 27 = .ok (.getfield 9, 3) := by decide +kernel
theorem d_Tal_makeRoom_30 : decode b_Tal_makeRoom 30 = .ok (.getfield 32, 3) := by decide +kernel
theorem d_Tal_makeRoom_33 : decode b_Tal_makeRoom 33 = .ok (.sipush 1500, 3) := by decide +kernel
theorem d_Tal_makeRoom_36 : decode b_Tal_makeRoom 36 = .ok (.invokestatic 62, 3) := by decide +kernel
theorem d_Tal_makeRoom_39 : decode b_Tal_makeRoom 39 = .ok (.putfield 26, 3) := by decide +kernel
theorem d_Tal_makeRoom_42 : decode b_Tal_makeRoom 42 = .ok (.return_, 1) := by decide +kernel
theorem d_Tal_judge_0 : decode b_Tal_judge 0 = .ok (.aload_n 0, 1) := by decide +kernel
theorem d_Tal_judge_1 : decode b_Tal_judge 1 = .ok (.getfield 22, 3) := by decide +kernel
theorem d_Tal_judge_4 : decode b_Tal_judge 4 = .ok (.iload_n 1, 1) := by decide +kernel
theorem d_Tal_judge_5 : decode b_Tal_judge 5 = .ok (.iaload, 1) := by decide +kernel
theorem d_Tal_judge_6 : decode b_Tal_judge 6 = .ok (.ifCond .le 7, 3) := by decide +kernel
theorem d_Tal_judge_9 : decode b_Tal_judge 9 = .ok (.iconst 1, 1) := by decide +kernel
theorem d_Tal_judge_10 : decode b_Tal_judge 10 = .ok (.goto 4, 3) := by decide +kernel
theorem d_Tal_judge_13 : decode b_Tal_judge 13 = .ok (.iconst 0, 1) := by decide +kernel
theorem d_Tal_judge_14 : decode b_Tal_judge 14 = .ok (.istore_n 2, 1) := by decide +kernel
theorem d_Tal_judge_15 : decode b_Tal_judge 15 = .ok (.iload_n 1, 1) := by decide +kernel
theorem d_Tal_judge_16 : decode b_Tal_judge 16 = .ok (.bipush 6, 2) := by decide +kernel
theorem d_Tal_judge_18 : decode b_Tal_judge 18 = .ok (.ishr, 1) := by decide +kernel
theorem d_Tal_judge_19 : decode b_Tal_judge 19 = .ok (.istore_n 3, 1) := by decide +kernel
theorem d_Tal_judge_20 : decode b_Tal_judge 20 = .ok (.lconst 1, 1) := by decide +kernel
theorem d_Tal_judge_21 : decode b_Tal_judge 21 = .ok (.iload_n 1, 1) := by decide +kernel
theorem d_Tal_judge_22 : decode b_Tal_judge 22 = .ok (.bipush 63, 2) := by decide +kernel
theorem d_Tal_judge_24 : decode b_Tal_judge 24 = .ok (.iand, 1) := by decide +kernel
theorem d_Tal_judge_25 : decode b_Tal_judge 25 = .ok (.lshl, 1) := by decide +kernel
theorem d_Tal_judge_26 : decode b_Tal_judge 26 = .ok (.lstore 4, 2) := by decide +kernel
theorem d_Tal_judge_28 : decode b_Tal_judge 28 = .ok (.aload_n 0, 1) := by decide +kernel
theorem d_Tal_judge_29 : decode b_Tal_judge 29 = .ok (.getfield 15, 3) := by decide +kernel
theorem d_Tal_judge_32 : decode b_Tal_judge 32 = .ok (.iload_n 3, 1) := by decide +kernel
theorem d_Tal_judge_33 : decode b_Tal_judge 33 = .ok (.iload_n 2, 1) := by decide +kernel
theorem d_Tal_judge_34 : decode b_Tal_judge 34 = .ok (.ifCond .ne 24, 3) := by decide +kernel
theorem d_Tal_judge_37 : decode b_Tal_judge 37 = .ok (.aload_n 0, 1) := by decide +kernel
theorem d_Tal_judge_38 : decode b_Tal_judge 38 = .ok (.getfield 26, 3) := by decide +kernel
theorem d_Tal_judge_41 : decode b_Tal_judge 41 = .ok (.iload_n 1, 1) := by decide +kernel
theorem d_Tal_judge_42 : decode b_Tal_judge 42 = .ok (.iaload, 1) := by decide +kernel
theorem d_Tal_judge_43 : decode b_Tal_judge 43 = .ok (.ifCond .ne 15, 3) := by decide +kernel
theorem d_Tal_judge_46 : decode b_Tal_judge 46 = .ok (.aload_n 0, 1) := by decide +kernel
theorem d_Tal_judge_47 : decode b_Tal_judge 47 = .ok (.getfield 15, 3) := by decide +kernel
theorem d_Tal_judge_50 : decode b_Tal_judge 50 = .ok (.iload_n 3, 1) := by decide +kernel
theorem d_Tal_judge_51 : decode b_Tal_judge 51 = .ok (.laload, 1) := by decide +kernel
theorem d_Tal_judge_52 : decode b_Tal_judge 52 = .ok (.lload 4, 2) := by decide +kernel
theorem d_Tal_judge_54 : decode b_Tal_judge 54 = .ok (.lor, 1) := by decide +kernel
theorem d_Tal_judge_55 : decode b_Tal_judge 55 = .ok (.goto 16, 3) := by decide +kernel
theorem d_Tal_judge_58 : decode b_Tal_judge 58 = .ok (.aload_n 0, 1) := by decide +kernel
theorem d_Tal_judge_59 : decode b_Tal_judge 59 = .ok (.getfield 15, 3) := by decide +kernel
theorem d_Tal_judge_62 : decode b_Tal_judge 62 = .ok (.iload_n 3, 1) := by decide +kernel
theorem d_Tal_judge_63 : decode b_Tal_judge 63 = .ok (.laload, 1) := by decide +kernel
theorem d_Tal_judge_64 : decode b_Tal_judge 64 = .ok (.lload 4, 2) := by decide +kernel
theorem d_Tal_judge_66 : decode b_Tal_judge 66 = .ok (.ldc2_w 66, 3) := by decide +kernel
theorem d_Tal_judge_69 : decode b_Tal_judge 69 = .ok (.lxor, 1) := by decide +kernel
theorem d_Tal_judge_70 : decode b_Tal_judge 70 = .ok (.land, 1) := by decide +kernel
theorem d_Tal_judge_71 : decode b_Tal_judge 71 = .ok (.lastore, 1) := by decide +kernel
theorem d_Tal_judge_72 : decode b_Tal_judge 72 = .ok (.aload_n 0, 1) := by decide +kernel
theorem d_Tal_judge_73 : decode b_Tal_judge 73 = .ok (.getfield 19, 3) := by decide +kernel
theorem d_Tal_judge_76 : decode b_Tal_judge 76 = .ok (.iload_n 3, 1) := by decide +kernel
theorem d_Tal_judge_77 : decode b_Tal_judge 77 = .ok (.iload_n 2, 1) := by decide +kernel
theorem d_Tal_judge_78 : decode b_Tal_judge 78 = .ok (.ifCond .ne 25, 3) := by decide +kernel
theorem d_Tal_judge_81 : decode b_Tal_judge 81 = .ok (.aload_n 0, 1) := by decide +kernel
theorem d_Tal_judge_82 : decode b_Tal_judge 82 = .ok (.getfield 26, 3) := by decide +kernel
theorem d_Tal_judge_85 : decode b_Tal_judge 85 = .ok (.iload_n 1, 1) := by decide +kernel
theorem d_Tal_judge_86 : decode b_Tal_judge 86 = .ok (.iaload, 1) := by decide +kernel
theorem d_Tal_judge_87 : decode b_Tal_judge 87 = .ok (.iconst 1, 1) := by decide +kernel
theorem d_Tal_judge_88 : decode b_Tal_judge 88 = .ok (.if_icmp .ne 15, 3) := by decide +kernel
theorem d_Tal_judge_91 : decode b_Tal_judge 91 = .ok (.aload_n 0, 1) := by decide +kernel
theorem d_Tal_judge_92 : decode b_Tal_judge 92 = .ok (.getfield 19, 3) := by decide +kernel
theorem d_Tal_judge_95 : decode b_Tal_judge 95 = .ok (.iload_n 3, 1) := by decide +kernel
theorem d_Tal_judge_96 : decode b_Tal_judge 96 = .ok (.laload, 1) := by decide +kernel
theorem d_Tal_judge_97 : decode b_Tal_judge 97 = .ok (.lload 4, 2) := by decide +kernel
theorem d_Tal_judge_99 : decode b_Tal_judge 99 = .ok (.lor, 1) := by decide +kernel
theorem d_Tal_judge_100 : decode b_Tal_judge 100 = .ok (.goto 16, 3) := by decide +kernel
theorem d_Tal_judge_103 : decode b_Tal_judge 103 = .ok (.aload_n 0, 1) := by decide +kernel
theorem d_Tal_judge_104 : decode b_Tal_judge 104 = .ok (.getfield 19, 3) := by decide +kernel
theorem d_Tal_judge_107 : decode b_Tal_judge 107 = .ok (.iload_n 3, 1) := by decide +kernel
theorem d_Tal_judge_108 : decode b_Tal_judge 108 = .ok (.laload, 1) := by decide +kernel
theorem d_Tal_judge_109 : decode b_Tal_judge 109 = .ok (.lload 4, 2) := by decide +kernel
theorem d_Tal_judge_111 : decode b_Tal_judge 111 = .ok (.ldc2_w 66, 3) := by decide +kernel
theorem d_Tal_judge_114 : decode b_Tal_judge 114 = .ok (.lxor, 1) := by decide +kernel
theorem d_Tal_judge_115 : decode b_Tal_judge 115 = .ok (.land, 1) := by decide +kernel
theorem d_Tal_judge_116 : decode b_Tal_judge 116 = .ok (.lastore, 1) := by decide +kernel
theorem d_Tal_judge_117 : decode b_Tal_judge 117 = .ok (.return_, 1) := by decide +kernel
theorem d_Tal_restart_0 : decode b_Tal_restart 0 = .ok (.aload_n 0, 1) := by decide +kernel
theorem d_Tal_restart_1 : decode b_Tal_restart 1 = .ok (.invokevirtual 29, 3) := by decide +kernel
theorem d_Tal_restart_4 : decode b_Tal_restart 4 = .ok (.iconst 0, 1) := by decide +kernel
theorem d_Tal_restart_5 : decode b_Tal_restart 5 = .ok (.istore_n 1, 1) := by decide +kernel
theorem d_Tal_restart_6 : decode b_Tal_restart 6 = .ok (.iload_n 1, 1) := by decide +kernel
theorem d_Tal_restart_7 : decode b_Tal_restart 7 = .ok (.aload_n 0, 1) := by decide +kernel
theorem d_Tal_restart_8 : decode b_Tal_restart 8 = .ok (.getfield 9, 3) := by decide +kernel
theorem d_Tal_restart_11 : decode b_Tal_restart 11 = .ok (.getfield 32, 3) := by decide +kernel
theorem d_Tal_restart_14 : decode b_Tal_restart 14 = .ok (.if_icmp .ge 35, 3) := by decide +kernel
theorem d_Tal_restart_17 : decode b_Tal_restart 17 = .ok (.aload_n 0, 1) := by decide +kernel
theorem d_Tal_restart_18 : decode b_Tal_restart 18 = .ok (.getfield 22, 3) := by decide +kernel
theorem d_Tal_restart_21 : decode b_Tal_restart 21 = .ok (.iload_n 1, 1) := by decide +kernel
theorem d_Tal_restart_22 : decode b_Tal_restart 22 = .ok (.iconst 0, 1) := by decide +kernel
theorem d_Tal_restart_23 : decode b_Tal_restart 23 = .ok (.iastore, 1) := by decide +kernel
theorem d_Tal_restart_24 : decode b_Tal_restart 24 = .ok (.aload_n 0, 1) := by decide +kernel
theorem d_Tal_restart_25 : decode b_Tal_restart 25 = .ok (.getfield 26, 3) := by decide +kernel
theorem d_Tal_restart_28 : decode b_Tal_restart 28 = .ok (.iload_n 1, 1) := by decide +kernel
theorem d_Tal_restart_29 : decode b_Tal_restart 29 = .ok (.aload_n 0, 1) := by decide +kernel
theorem d_Tal_restart_30 : decode b_Tal_restart 30 = .ok (.getfield 9, 3) := by decide +kernel
theorem d_Tal_restart_33 : decode b_Tal_restart 33 = .ok (.iload_n 1, 1) := by decide +kernel
theorem d_Tal_restart_34 : decode b_Tal_restart 34 = .ok (.invokevirtual 38, 3) := by decide +kernel
theorem d_Tal_restart_37 : decode b_Tal_restart 37 = .ok (.iastore, 1) := by decide +kernel
theorem d_Tal_restart_38 : decode b_Tal_restart 38 = .ok (.aload_n 0, 1) := by decide +kernel
theorem d_Tal_restart_39 : decode b_Tal_restart 39 = .ok (.iload_n 1, 1) := by decide +kernel
theorem d_Tal_restart_40 : decode b_Tal_restart 40 = .ok (.invokevirtual 42, 3) := by decide +kernel
theorem d_Tal_restart_43 : decode b_Tal_restart 43 = .ok (.iinc 1 1, 3) := by decide +kernel
theorem d_Tal_restart_46 : decode b_Tal_restart 46 = .ok (.goto (-40), 3) := by decide +kernel
theorem d_Tal_restart_49 : decode b_Tal_restart 49 = .ok (.return_, 1) := by decide +kernel
theorem d_Tra_restart_0 : decode b_Tra_restart 0 = .ok (.aload_n 0, 1) := by decide +kernel
theorem d_Tra_restart_1 : decode b_Tra_restart 1 = .ok (.iconst 0, 1) := by decide +kernel
theorem d_Tra_restart_2 : decode b_Tra_restart 2 = .ok (.putfield 15, 3) := by decide +kernel
theorem d_Tra_restart_5 : decode b_Tra_restart 5 = .ok (.aload_n 0, 1) := by decide +kernel
theorem d_Tra_restart_6 : decode b_Tra_restart 6 = .ok (.iconst 0, 1) := by decide +kernel
theorem d_Tra_restart_7 : decode b_Tra_restart 7 = .ok (.putfield 19, 3) := by decide +kernel
theorem d_Tra_restart_10 : decode b_Tra_restart 10 = .ok (.aload_n 0, 1) := by decide +kernel
theorem d_Tra_restart_11 : decode b_Tra_restart 11 = .ok (.getfield 26, 3) := by decide +kernel
theorem d_Tra_restart_14 : decode b_Tra_restart 14 = .ok (.iconst (-1), 1) := by decide +kernel
theorem d_Tra_restart_15 : decode b_Tra_restart 15 = .ok (.invokestatic 35, 3) := by decide +kernel
theorem d_Tra_restart_18 : decode b_Tra_restart 18 = .ok (.aload_n 0, 1) := by decide +kernel
theorem d_Tra_restart_19 : decode b_Tra_restart 19 = .ok (.getfield 9, 3) := by decide +kernel
theorem d_Tra_restart_22 : decode b_Tra_restart 22 = .ok (.invokevirtual 41, 3) := by decide +kernel
theorem d_Tra_restart_25 : decode b_Tra_restart 25 = .ok (.return_, 1) := by decide +kernel
theorem d_Sea_begin_0 : decode b_Sea_begin 0 = .ok (.aload_n 0, 1) := by decide +kernel
theorem d_Sea_begin_1 : decode b_Sea_begin 1 = .ok (.getfield 19, 3) := by decide +kernel
theorem d_Sea_begin_4 : decode b_Sea_begin 4 = .ok (.invokevirtual 54, 3) := by decide +kernel
theorem d_Sea_begin_7 : decode b_Sea_begin 7 = .ok (.aload_n 0, 1) := by decide +kernel
theorem d_Sea_begin_8 : decode b_Sea_begin 8 = .ok (.iconst 0, 1) := by decide +kernel
theorem d_Sea_begin_9 : decode b_Sea_begin 9 = .ok (.putfield 38, 3) := by decide +kernel
theorem d_Sea_begin_12 : decode b_Sea_begin 12 = .ok (.aload_n 0, 1) := by decide +kernel
theorem d_Sea_begin_13 : decode b_Sea_begin 13 = .ok (.lconst 0, 1) := by decide +kernel
theorem d_Sea_begin_14 : decode b_Sea_begin 14 = .ok (.putfield 47, 3) := by decide +kernel
theorem d_Sea_begin_17 : decode b_Sea_begin 17 = .ok (.return_, 1) := by decide +kernel
theorem d_Lng_bitCount_0 : decode b_Lng_bitCount 0 = .ok (.lload_n 0, 1) := by decide +kernel
theorem d_Lng_bitCount_1 : decode b_Lng_bitCount 1 = .ok (.lload_n 0, 1) := by decide +kernel
theorem d_Lng_bitCount_2 : decode b_Lng_bitCount 2 = .ok (.iconst 1, 1) := by decide +kernel
theorem d_Lng_bitCount_3 : decode b_Lng_bitCount 3 = .ok (.lushr, 1) := by decide +kernel
theorem d_Lng_bitCount_4 : decode b_Lng_bitCount 4 = .ok (.ldc2_w 314, 3) := by decide +kernel
theorem d_Lng_bitCount_7 : decode b_Lng_bitCount 7 = .ok (.land, 1) := by decide +kernel
theorem d_Lng_bitCount_8 : decode b_Lng_bitCount 8 = .ok (.lsub, 1) := by decide +kernel
theorem d_Lng_bitCount_9 : decode b_Lng_bitCount 9 = .ok (.lstore_n 0, 1) := by decide +kernel
theorem d_Lng_bitCount_10 : decode b_Lng_bitCount 10 = .ok (.lload_n 0, 1) := by decide +kernel
theorem d_Lng_bitCount_11 : decode b_Lng_bitCount 11 = .ok (.ldc2_w 316, 3) := by decide +kernel
theorem d_Lng_bitCount_14 : decode b_Lng_bitCount 14 = .ok (.land, 1) := by decide +kernel
theorem d_Lng_bitCount_15 : decode b_Lng_bitCount 15 = .ok (.lload_n 0, 1) := by decide +kernel
theorem d_Lng_bitCount_16 : decode b_Lng_bitCount 16 = .ok (.iconst 2, 1) := by decide +kernel
theorem d_Lng_bitCount_17 : decode b_Lng_bitCount 17 = .ok (.lushr, 1) := by decide +kernel
theorem d_Lng_bitCount_18 : decode b_Lng_bitCount 18 = .ok (.ldc2_w 316, 3) := by decide +kernel
theorem d_Lng_bitCount_21 : decode b_Lng_bitCount 21 = .ok (.land, 1) := by decide +kernel
theorem d_Lng_bitCount_22 : decode b_Lng_bitCount 22 = .ok (.ladd, 1) := by decide +kernel
theorem d_Lng_bitCount_23 : decode b_Lng_bitCount 23 = .ok (.lstore_n 0, 1) := by decide +kernel
theorem d_Lng_bitCount_24 : decode b_Lng_bitCount 24 = .ok (.lload_n 0, 1) := by decide +kernel
theorem d_Lng_bitCount_25 : decode b_Lng_bitCount 25 = .ok (.lload_n 0, 1) := by decide +kernel
theorem d_Lng_bitCount_26 : decode b_Lng_bitCount 26 = .ok (.iconst 4, 1) := by decide +kernel
theorem d_Lng_bitCount_27 : decode b_Lng_bitCount 27 = .ok (.lushr, 1) := by decide +kernel
theorem d_Lng_bitCount_28 : decode b_Lng_bitCount 28 = .ok (.ladd, 1) := by decide +kernel
theorem d_Lng_bitCount_29 : decode b_Lng_bitCount 29 = .ok (.ldc2_w 318, 3) := by decide +kernel
theorem d_Lng_bitCount_32 : decode b_Lng_bitCount 32 = .ok (.land, 1) := by decide +kernel
theorem d_Lng_bitCount_33 : decode b_Lng_bitCount 33 = .ok (.lstore_n 0, 1) := by decide +kernel
theorem d_Lng_bitCount_34 : decode b_Lng_bitCount 34 = .ok (.lload_n 0, 1) := by decide +kernel
theorem d_Lng_bitCount_35 : decode b_Lng_bitCount 35 = .ok (.lload_n 0, 1) := by decide +kernel
theorem d_Lng_bitCount_36 : decode b_Lng_bitCount 36 = .ok (.bipush 8, 2) := by decide +kernel
theorem d_Lng_bitCount_38 : decode b_Lng_bitCount 38 = .ok (.lushr, 1) := by decide +kernel
theorem d_Lng_bitCount_39 : decode b_Lng_bitCount 39 = .ok (.ladd, 1) := by decide +kernel
theorem d_Lng_bitCount_40 : decode b_Lng_bitCount 40 = .ok (.lstore_n 0, 1) := by decide +kernel
theorem d_Lng_bitCount_41 : decode b_Lng_bitCount 41 = .ok (.lload_n 0, 1) := by decide +kernel
theorem d_Lng_bitCount_42 : decode b_Lng_bitCount 42 = .ok (.lload_n 0, 1) := by decide +kernel
theorem d_Lng_bitCount_43 : decode b_Lng_bitCount 43 = .ok (.bipush 16, 2) := by decide +kernel
theorem d_Lng_bitCount_45 : decode b_Lng_bitCount 45 = .ok (.lushr, 1) := by decide +kernel
theorem d_Lng_bitCount_46 : decode b_Lng_bitCount 46 = .ok (.ladd, 1) := by decide +kernel
theorem d_Lng_bitCount_47 : decode b_Lng_bitCount 47 = .ok (.lstore_n 0, 1) := by decide +kernel
theorem d_Lng_bitCount_48 : decode b_Lng_bitCount 48 = .ok (.lload_n 0, 1) := by decide +kernel
theorem d_Lng_bitCount_49 : decode b_Lng_bitCount 49 = .ok (.lload_n 0, 1) := by decide +kernel
theorem d_Lng_bitCount_50 : decode b_Lng_bitCount 50 = .ok (.bipush 32, 2) := by decide +kernel
theorem d_Lng_bitCount_52 : decode b_Lng_bitCount 52 = .ok (.lushr, 1) := by decide +kernel
theorem d_Lng_bitCount_53 : decode b_Lng_bitCount 53 = .ok (.ladd, 1) := by decide +kernel
theorem d_Lng_bitCount_54 : decode b_Lng_bitCount 54 = .ok (.lstore_n 0, 1) := by decide +kernel
theorem d_Lng_bitCount_55 : decode b_Lng_bitCount 55 = .ok (.lload_n 0, 1) := by decide +kernel
theorem d_Lng_bitCount_56 : decode b_Lng_bitCount 56 = .ok (.l2i, 1) := by decide +kernel
theorem d_Lng_bitCount_57 : decode b_Lng_bitCount 57 = .ok (.bipush 127, 2) := by decide +kernel
theorem d_Lng_bitCount_59 : decode b_Lng_bitCount 59 = .ok (.iand, 1) := by decide +kernel
theorem d_Lng_bitCount_60 : decode b_Lng_bitCount 60 = .ok (.ireturn, 1) := by decide +kernel
theorem d_Tal_least_0 : decode b_Tal_least 0 = .ok (.iconst 0, 1) := by decide +kernel
theorem d_Tal_least_1 : decode b_Tal_least 1 = .ok (.istore_n 1, 1) := by decide +kernel
theorem d_Tal_least_2 : decode b_Tal_least 2 = .ok (.iload_n 1, 1) := by decide +kernel
theorem d_Tal_least_3 : decode b_Tal_least 3 = .ok (.aload_n 0, 1) := by decide +kernel
theorem d_Tal_least_4 : decode b_Tal_least 4 = .ok (.arraylength, 1) := by decide +kernel
theorem d_Tal_least_5 : decode b_Tal_least 5 = .ok (.if_icmp .ge 38, 3) := by decide +kernel
theorem d_Tal_least_8 : decode b_Tal_least 8 = .ok (.aload_n 0, 1) := by decide +kernel
theorem d_Tal_least_9 : decode b_Tal_least 9 = .ok (.iload_n 1, 1) := by decide +kernel
theorem d_Tal_least_10 : decode b_Tal_least 10 = .ok (.laload, 1) := by decide +kernel
theorem d_Tal_least_11 : decode b_Tal_least 11 = .ok (.lconst 0, 1) := by decide +kernel
theorem d_Tal_least_12 : decode b_Tal_least 12 = .ok (.lcmp, 1) := by decide +kernel
theorem d_Tal_least_13 : decode b_Tal_least 13 = .ok (.ifCond .eq 24, 3) := by decide +kernel
theorem d_Tal_least_16 : decode b_Tal_least 16 = .ok (.aload_n 0, 1) := by decide +kernel
theorem d_Tal_least_17 : decode b_Tal_least 17 = .ok (.iload_n 1, 1) := by decide +kernel
theorem d_Tal_least_18 : decode b_Tal_least 18 = .ok (.laload, 1) := by decide +kernel
theorem d_Tal_least_19 : decode b_Tal_least 19 = .ok (.aload_n 0, 1) := by decide +kernel
theorem d_Tal_least_20 : decode b_Tal_least 20 = .ok (.iload_n 1, 1) := by decide +kernel
theorem d_Tal_least_21 : decode b_Tal_least 21 = .ok (.laload, 1) := by decide +kernel
theorem d_Tal_least_22 : decode b_Tal_least 22 = .ok (.lneg, 1) := by decide +kernel
theorem d_Tal_least_23 : decode b_Tal_least 23 = .ok (.land, 1) := by decide +kernel
theorem d_Tal_least_24 : decode b_Tal_least 24 = .ok (.lstore_n 2, 1) := by decide +kernel
theorem d_Tal_least_25 : decode b_Tal_least 25 = .ok (.bipush 64, 2) := by decide +kernel
theorem d_Tal_least_27 : decode b_Tal_least 27 = .ok (.iload_n 1, 1) := by decide +kernel
theorem d_Tal_least_28 : decode b_Tal_least 28 = .ok (.imul, 1) := by decide +kernel
theorem d_Tal_least_29 : decode b_Tal_least 29 = .ok (.lload_n 2, 1) := by decide +kernel
theorem d_Tal_least_30 : decode b_Tal_least 30 = .ok (.lconst 1, 1) := by decide +kernel
theorem d_Tal_least_31 : decode b_Tal_least 31 = .ok (.lsub, 1) := by decide +kernel
theorem d_Tal_least_32 : decode b_Tal_least 32 = .ok (.invokestatic 68, 3) := by decide +kernel
theorem d_Tal_least_35 : decode b_Tal_least 35 = .ok (.iadd, 1) := by decide +kernel
theorem d_Tal_least_36 : decode b_Tal_least 36 = .ok (.ireturn, 1) := by decide +kernel
theorem d_Tal_least_37 : decode b_Tal_least 37 = .ok (.iinc 1 1, 3) := by decide +kernel
theorem d_Tal_least_40 : decode b_Tal_least 40 = .ok (.goto (-38), 3) := by decide +kernel
theorem d_Tal_least_43 : decode b_Tal_least 43 = .ok (.iconst (-1), 1) := by decide +kernel
theorem d_Tal_least_44 : decode b_Tal_least 44 = .ok (.ireturn, 1) := by decide +kernel
theorem d_Tal_leastDead_0 : decode b_Tal_leastDead 0 = .ok (.aload_n 0, 1) := by decide +kernel
theorem d_Tal_leastDead_1 : decode b_Tal_leastDead 1 = .ok (.getfield 15, 3) := by decide +kernel
theorem d_Tal_leastDead_4 : decode b_Tal_leastDead 4 = .ok (.invokestatic 58, 3) := by decide +kernel
theorem d_Tal_leastDead_7 : decode b_Tal_leastDead 7 = .ok (.ireturn, 1) := by decide +kernel
theorem d_Tra_levelOf_0 : decode b_Tra_levelOf 0 = .ok (.aload_n 0, 1) := by decide +kernel
theorem d_Tra_levelOf_1 : decode b_Tra_levelOf 1 = .ok (.getfield 29, 3) := by decide +kernel
theorem d_Tra_levelOf_4 : decode b_Tra_levelOf 4 = .ok (.iload_n 1, 1) := by decide +kernel
theorem d_Tra_levelOf_5 : decode b_Tra_levelOf 5 = .ok (.iaload, 1) := by decide +kernel
theorem d_Tra_levelOf_6 : decode b_Tra_levelOf 6 = .ok (.ireturn, 1) := by decide +kernel
theorem d_Sea_markOthers_0 : decode b_Sea_markOthers 0 = .ok (.iconst 0, 1) := by decide +kernel
theorem d_Sea_markOthers_1 : decode b_Sea_markOthers 1 = .ok (.istore_n 3, 1) := by decide +kernel
theorem d_Sea_markOthers_2 : decode b_Sea_markOthers 2 = .ok (.aload_n 0, 1) := by decide +kernel
theorem d_Sea_markOthers_3 : decode b_Sea_markOthers 3 = .ok (.getfield 15, 3) := by decide +kernel
theorem d_Sea_markOthers_6 : decode b_Sea_markOthers 6 = .ok (.iload_n 1, 1) := by decide +kernel
theorem d_Sea_markOthers_7 : decode b_Sea_markOthers 7 = .ok (.invokevirtual 113, 3) := by decide +kernel
theorem d_Sea_markOthers_10 : decode b_Sea_markOthers 10 = .ok (.istore 4, 2) := by decide +kernel
theorem d_Sea_markOthers_12 : decode b_Sea_markOthers 12 = .ok (.aload_n 0, 1) := by decide +kernel
theorem d_Sea_markOthers_13 : decode b_Sea_markOthers 13 = .ok (.getfield 15, 3) := by decide +kernel
theorem d_Sea_markOthers_16 : decode b_Sea_markOthers 16 = .ok (.iload_n 1, 1) := by decide +kernel
theorem d_Sea_markOthers_17 : decode b_Sea_markOthers 17 = .ok (.invokevirtual 118, 3) := by decide +kernel
theorem d_Sea_markOthers_20 : decode b_Sea_markOthers 20 = .ok (.istore 5, 2) := by decide +kernel
theorem d_Sea_markOthers_22 : decode b_Sea_markOthers 22 = .ok (.iload 5, 2) := by decide +kernel
theorem d_Sea_markOthers_24 : decode b_Sea_markOthers 24 = .ok (.iload 4, 2) := by decide +kernel
theorem d_Sea_markOthers_26 : decode b_Sea_markOthers 26 = .ok (.if_icmp .ge 74, 3) := by decide +kernel
theorem d_Sea_markOthers_29 : decode b_Sea_markOthers 29 = .ok (.aload_n 0, 1) := by decide +kernel
theorem d_Sea_markOthers_30 : decode b_Sea_markOthers 30 = .ok (.getfield 15, 3) := by decide +kernel
theorem d_Sea_markOthers_33 : decode b_Sea_markOthers 33 = .ok (.getfield 121, 3) := by decide +kernel
theorem d_Sea_markOthers_36 : decode b_Sea_markOthers 36 = .ok (.iload 5, 2) := by decide +kernel
theorem d_Sea_markOthers_38 : decode b_Sea_markOthers 38 = .ok (.iaload, 1) := by decide +kernel
theorem d_Sea_markOthers_39 : decode b_Sea_markOthers 39 = .ok (.iconst 1, 1) := by decide +kernel
theorem d_Sea_markOthers_40 : decode b_Sea_markOthers 40 = .ok (.ishr, 1) := by decide +kernel
theorem d_Sea_markOthers_41 : decode b_Sea_markOthers 41 = .ok (.istore 6, 2) := by decide +kernel
theorem d_Sea_markOthers_43 : decode b_Sea_markOthers 43 = .ok (.iload 6, 2) := by decide +kernel
theorem d_Sea_markOthers_45 : decode b_Sea_markOthers 45 = .ok (.iload_n 2, 1) := by decide +kernel
theorem d_Sea_markOthers_46 : decode b_Sea_markOthers 46 = .ok (.if_icmp .eq 48, 3) := by decide +kernel
theorem d_Sea_markOthers_49 : decode b_Sea_markOthers 49 = .ok (.aload_n 0, 1) := by decide +kernel
theorem d_Sea_markOthers_50 : decode b_Sea_markOthers 50 = .ok (.getfield 31, 3) := by decide +kernel
theorem d_Sea_markOthers_53 : decode b_Sea_markOthers 53 = .ok (.iload 6, 2) := by decide +kernel
theorem d_Sea_markOthers_55 : decode b_Sea_markOthers 55 = .ok (.iaload, 1) := by decide +kernel
theorem d_Sea_markOthers_56 : decode b_Sea_markOthers 56 = .ok (.ifCond .ne 38, 3) := by decide +kernel
theorem d_Sea_markOthers_59 : decode b_Sea_markOthers 59 = .ok (.aload_n 0, 1) := by decide +kernel
theorem d_Sea_markOthers_60 : decode b_Sea_markOthers 60 = .ok (.getfield 31, 3) := by decide +kernel
theorem d_Sea_markOthers_63 : decode b_Sea_markOthers 63 = .ok (.iload 6, 2) := by decide +kernel
theorem d_Sea_markOthers_65 : decode b_Sea_markOthers 65 = .ok (.iconst 1, 1) := by decide +kernel
theorem d_Sea_markOthers_66 : decode b_Sea_markOthers 66 = .ok (.iastore, 1) := by decide +kernel
theorem d_Sea_markOthers_67 : decode b_Sea_markOthers 67 = .ok (.iload_n 3, 1) := by decide +kernel
theorem d_Sea_markOthers_68 : decode b_Sea_markOthers 68 = .ok (.aload_n 0, 1) := by decide +kernel
theorem d_Sea_markOthers_69 : decode b_Sea_markOthers 69 = .ok (.getfield 19, 3) := by decide +kernel
theorem d_Sea_markOthers_72 : decode b_Sea_markOthers 72 = .ok (.iload 6, 2) := by decide +kernel
theorem d_Sea_markOthers_74 : decode b_Sea_markOthers 74 = .ok (.invokevirtual 181, 3) := by decide +kernel
theorem d_Sea_markOthers_77 : decode b_Sea_markOthers 77 = .ok (.aload_n 0, 1) := by decide +kernel
theorem d_Sea_markOthers_78 : decode b_Sea_markOthers 78 = .ok (.getfield 19, 3) := by decide +kernel
theorem d_Sea_markOthers_81 : decode b_Sea_markOthers 81 = .ok (.getfield 75, 3) := by decide +kernel
theorem d_Sea_markOthers_84 : decode b_Sea_markOthers 84 = .ok (.if_icmp .ne 7, 3) := by decide +kernel
theorem d_Sea_markOthers_87 : decode b_Sea_markOthers 87 = .ok (.iconst 1, 1) := by decide +kernel
theorem d_Sea_markOthers_88 : decode b_Sea_markOthers 88 = .ok (.goto 4, 3) := by decide +kernel
theorem d_Sea_markOthers_91 : decode b_Sea_markOthers 91 = .ok (.iconst 0, 1) := by decide +kernel
theorem d_Sea_markOthers_92 : decode b_Sea_markOthers 92 = .ok (.iadd, 1) := by decide +kernel
theorem d_Sea_markOthers_93 : decode b_Sea_markOthers 93 = .ok (.istore_n 3, 1) := by decide +kernel
theorem d_Sea_markOthers_94 : decode b_Sea_markOthers 94 = .ok (.iinc 5 1, 3) := by decide +kernel
theorem d_Sea_markOthers_97 : decode b_Sea_markOthers 97 = .ok (.goto (-75), 3) := by decide +kernel
theorem d_Sea_markOthers_100 : decode b_Sea_markOthers 100 = .ok (.iload_n 3, 1) := by decide +kernel
theorem d_Sea_markOthers_101 : decode b_Sea_markOthers 101 = .ok (.ireturn, 1) := by decide +kernel
theorem d_Tra_causeOf_0 : decode b_Tra_causeOf 0 = .ok (.aload_n 0, 1) := by decide +kernel
theorem d_Tra_causeOf_1 : decode b_Tra_causeOf 1 = .ok (.getfield 32, 3) := by decide +kernel
theorem d_Tra_causeOf_4 : decode b_Tra_causeOf 4 = .ok (.iload_n 1, 1) := by decide +kernel
theorem d_Tra_causeOf_5 : decode b_Tra_causeOf 5 = .ok (.iaload, 1) := by decide +kernel
theorem d_Tra_causeOf_6 : decode b_Tra_causeOf 6 = .ok (.ireturn, 1) := by decide +kernel
theorem d_Sea_markRow_0 : decode b_Sea_markRow 0 = .ok (.aload_n 0, 1) := by decide +kernel
theorem d_Sea_markRow_1 : decode b_Sea_markRow 1 = .ok (.getfield 31, 3) := by decide +kernel
theorem d_Sea_markRow_4 : decode b_Sea_markRow 4 = .ok (.iconst 0, 1) := by decide +kernel
theorem d_Sea_markRow_5 : decode b_Sea_markRow 5 = .ok (.invokestatic 164, 3) := by decide +kernel
theorem d_Sea_markRow_8 : decode b_Sea_markRow 8 = .ok (.aload_n 0, 1) := by decide +kernel
theorem d_Sea_markRow_9 : decode b_Sea_markRow 9 = .ok (.iload_n 1, 1) := by decide +kernel
theorem d_Sea_markRow_10 : decode b_Sea_markRow 10 = .ok (.iconst (-1), 1) := by decide +kernel
theorem d_Sea_markRow_11 : decode b_Sea_markRow 11 = .ok (.invokevirtual 170, 3) := by decide +kernel
theorem d_Sea_markRow_14 : decode b_Sea_markRow 14 = .ok (.istore_n 2, 1) := by decide +kernel
theorem d_Sea_markRow_15 : decode b_Sea_markRow 15 = .ok (.aload_n 0, 1) := by decide +kernel
theorem d_Sea_markRow_16 : decode b_Sea_markRow 16 = .ok (.getfield 19, 3) := by decide +kernel
theorem d_Sea_markRow_19 : decode b_Sea_markRow 19 = .ok (.getfield 174, 3) := by decide +kernel
theorem d_Sea_markRow_22 : decode b_Sea_markRow 22 = .ok (.iconst 1, 1) := by decide +kernel
theorem d_Sea_markRow_23 : decode b_Sea_markRow 23 = .ok (.isub, 1) := by decide +kernel
theorem d_Sea_markRow_24 : decode b_Sea_markRow 24 = .ok (.istore_n 3, 1) := by decide +kernel
theorem d_Sea_markRow_25 : decode b_Sea_markRow 25 = .ok (.iload_n 3, 1) := by decide +kernel
theorem d_Sea_markRow_26 : decode b_Sea_markRow 26 = .ok (.ifCond .lt 75, 3) := by decide +kernel
theorem d_Sea_markRow_29 : decode b_Sea_markRow 29 = .ok (.iload_n 2, 1) := by decide +kernel
theorem d_Sea_markRow_30 : decode b_Sea_markRow 30 = .ok (.iconst 2, 1) := by decide +kernel
theorem d_Sea_markRow_31 : decode b_Sea_markRow 31 = .ok (.if_icmp .lt 70, 3) := by decide +kernel
theorem d_Sea_markRow_34 : decode b_Sea_markRow 34 = .ok (.aload_n 0, 1) := by decide +kernel
theorem d_Sea_markRow_35 : decode b_Sea_markRow 35 = .ok (.getfield 19, 3) := by decide +kernel
theorem d_Sea_markRow_38 : decode b_Sea_markRow 38 = .ok (.getfield 177, 3) := by decide +kernel
theorem d_Sea_markRow_41 : decode b_Sea_markRow 41 = .ok (.iload_n 3, 1) := by decide +kernel
theorem d_Sea_markRow_42 : decode b_Sea_markRow 42 = .ok (.iaload, 1) := by decide +kernel
theorem d_Sea_markRow_43 : decode b_Sea_markRow 43 = .ok (.iconst 1, 1) := by decide +kernel
theorem d_Sea_markRow_44 : decode b_Sea_markRow 44 = .ok (.ishr, 1) := by decide +kernel
theorem d_Sea_markRow_45 : decode b_Sea_markRow 45 = .ok (.istore 4, 2) := by decide +kernel
theorem d_Sea_markRow_47 : decode b_Sea_markRow 47 = .ok (.aload_n 0, 1) := by decide +kernel
theorem d_Sea_markRow_48 : decode b_Sea_markRow 48 = .ok (.getfield 19, 3) := by decide +kernel
theorem d_Sea_markRow_51 : decode b_Sea_markRow 51 = .ok (.iload 4, 2) := by decide +kernel
theorem d_Sea_markRow_53 : decode b_Sea_markRow 53 = .ok (.invokevirtual 178, 3) := by decide +kernel
theorem d_Sea_markRow_56 : decode b_Sea_markRow 56 = .ok (.istore 5, 2) := by decide +kernel
theorem d_Sea_markRow_58 : decode b_Sea_markRow 58 = .ok (.aload_n 0, 1) := by decide +kernel
theorem d_Sea_markRow_59 : decode b_Sea_markRow 59 = .ok (.getfield 31, 3) := by decide +kernel
theorem d_Sea_markRow_62 : decode b_Sea_markRow 62 = .ok (.iload 4, 2) := by decide +kernel
theorem d_Sea_markRow_64 : decode b_Sea_markRow 64 = .ok (.iaload, 1) := by decide +kernel
theorem d_Sea_markRow_65 : decode b_Sea_markRow 65 = .ok (.iconst 1, 1) := by decide +kernel
theorem d_Sea_markRow_66 : decode b_Sea_markRow 66 = .ok (.if_icmp .ne 29, 3) := by decide +kernel
theorem d_Sea_markRow_69 : decode b_Sea_markRow 69 = .ok (.iload 5, 2) := by decide +kernel
theorem d_Sea_markRow_71 : decode b_Sea_markRow 71 = .ok (.ifCond .lt 24, 3) := by decide +kernel
theorem d_Sea_markRow_74 : decode b_Sea_markRow 74 = .ok (.aload_n 0, 1) := by decide +kernel
theorem d_Sea_markRow_75 : decode b_Sea_markRow 75 = .ok (.getfield 31, 3) := by decide +kernel
theorem d_Sea_markRow_78 : decode b_Sea_markRow 78 = .ok (.iload 4, 2) := by decide +kernel
theorem d_Sea_markRow_80 : decode b_Sea_markRow 80 = .ok (.iconst 0, 1) := by decide +kernel
theorem d_Sea_markRow_81 : decode b_Sea_markRow 81 = .ok (.iastore, 1) := by decide +kernel
theorem d_Sea_markRow_82 : decode b_Sea_markRow 82 = .ok (.iload_n 2, 1) := by decide +kernel
theorem d_Sea_markRow_83 : decode b_Sea_markRow 83 = .ok (.aload_n 0, 1) := by decide +kernel
theorem d_Sea_markRow_84 : decode b_Sea_markRow 84 = .ok (.iload 5, 2) := by decide +kernel
theorem d_Sea_markRow_86 : decode b_Sea_markRow 86 = .ok (.iload 4, 2) := by decide +kernel
theorem d_Sea_markRow_88 : decode b_Sea_markRow 88 = .ok (.invokevirtual 170, 3) := by decide +kernel
theorem d_Sea_markRow_91 : decode b_Sea_markRow 91 = .ok (.iconst 1, 1) := by decide +kernel
theorem d_Sea_markRow_92 : decode b_Sea_markRow 92 = .ok (.isub, 1) := by decide +kernel
theorem d_Sea_markRow_93 : decode b_Sea_markRow 93 = .ok (.iadd, 1) := by decide +kernel
theorem d_Sea_markRow_94 : decode b_Sea_markRow 94 = .ok (.istore_n 2, 1) := by decide +kernel
theorem d_Sea_markRow_95 : decode b_Sea_markRow 95 = .ok (.iinc 3 (-1), 3) := by decide +kernel
theorem d_Sea_markRow_98 : decode b_Sea_markRow 98 = .ok (.goto (-73), 3) := by decide +kernel
theorem d_Sea_markRow_101 : decode b_Sea_markRow 101 = .ok (.return_, 1) := by decide +kernel
theorem d_Sea_countMarks_0 : decode b_Sea_countMarks 0 = .ok (.iconst 0, 1) := by decide +kernel
theorem d_Sea_countMarks_1 : decode b_Sea_countMarks 1 = .ok (.istore_n 1, 1) := by decide +kernel
theorem d_Sea_countMarks_2 : decode b_Sea_countMarks 2 = .ok (.iconst 0, 1) := by decide +kernel
theorem d_Sea_countMarks_3 : decode b_Sea_countMarks 3 = .ok (.istore_n 2, 1) := by decide +kernel
theorem d_Sea_countMarks_4 : decode b_Sea_countMarks 4 = .ok (.iload_n 2, 1) := by decide +kernel
theorem d_Sea_countMarks_5 : decode b_Sea_countMarks 5 = .ok (.aload_n 0, 1) := by decide +kernel
theorem d_Sea_countMarks_6 : decode b_Sea_countMarks 6 = .ok (.getfield 9, 3) := by decide +kernel
theorem d_Sea_countMarks_9 : decode b_Sea_countMarks 9 = .ok (.if_icmp .ge 18, 3) := by decide +kernel
theorem d_Sea_countMarks_12 : decode b_Sea_countMarks 12 = .ok (.iload_n 1, 1) := by decide +kernel
theorem d_Sea_countMarks_13 : decode b_Sea_countMarks 13 = .ok (.aload_n 0, 1) := by decide +kernel
theorem d_Sea_countMarks_14 : decode b_Sea_countMarks 14 = .ok (.getfield 31, 3) := by decide +kernel
theorem d_Sea_countMarks_17 : decode b_Sea_countMarks 17 = .ok (.iload_n 2, 1) := by decide +kernel
theorem d_Sea_countMarks_18 : decode b_Sea_countMarks 18 = .ok (.iaload, 1) := by decide +kernel
theorem d_Sea_countMarks_19 : decode b_Sea_countMarks 19 = .ok (.iadd, 1) := by decide +kernel
theorem d_Sea_countMarks_20 : decode b_Sea_countMarks 20 = .ok (.istore_n 1, 1) := by decide +kernel
theorem d_Sea_countMarks_21 : decode b_Sea_countMarks 21 = .ok (.iinc 2 1, 3) := by decide +kernel
theorem d_Sea_countMarks_24 : decode b_Sea_countMarks 24 = .ok (.goto (-20), 3) := by decide +kernel
theorem d_Sea_countMarks_27 : decode b_Sea_countMarks 27 = .ok (.iload_n 1, 1) := by decide +kernel
theorem d_Sea_countMarks_28 : decode b_Sea_countMarks 28 = .ok (.ireturn, 1) := by decide +kernel
theorem d_Sea_countStep_0 : decode b_Sea_countStep 0 = .ok (.aload_n 0, 1) := by decide +kernel
theorem d_Sea_countStep_1 : decode b_Sea_countStep 1 = .ok (.dup, 1) := by decide +kernel
theorem d_Sea_countStep_2 : decode b_Sea_countStep 2 = .ok (.getfield 51, 3) := by decide +kernel
theorem d_Sea_countStep_5 : decode b_Sea_countStep 5 = .ok (.lconst 1, 1) := by decide +kernel
theorem d_Sea_countStep_6 : decode b_Sea_countStep 6 = .ok (.lsub, 1) := by decide +kernel
theorem d_Sea_countStep_7 : decode b_Sea_countStep 7 = .ok (.putfield 51, 3) := by decide +kernel
theorem d_Sea_countStep_10 : decode b_Sea_countStep 10 = .ok (.aload_n 0, 1) := by decide +kernel
theorem d_Sea_countStep_11 : decode b_Sea_countStep 11 = .ok (.dup, 1) := by decide +kernel
theorem d_Sea_countStep_12 : decode b_Sea_countStep 12 = .ok (.getfield 47, 3) := by decide +kernel
theorem d_Sea_countStep_15 : decode b_Sea_countStep 15 = .ok (.lconst 1, 1) := by decide +kernel
theorem d_Sea_countStep_16 : decode b_Sea_countStep 16 = .ok (.ladd, 1) := by decide +kernel
theorem d_Sea_countStep_17 : decode b_Sea_countStep 17 = .ok (.putfield 47, 3) := by decide +kernel
theorem d_Sea_countStep_20 : decode b_Sea_countStep 20 = .ok (.return_, 1) := by decide +kernel
theorem d_Tra_refusedLiteralOf_0 : decode b_Tra_refusedLiteralOf 0 = .ok (.aload_n 0, 1) := by decide +kernel
theorem d_Tra_refusedLiteralOf_1 : decode b_Tra_refusedLiteralOf 1 = .ok (.getfield 26, 3) := by decide +kernel
theorem d_Tra_refusedLiteralOf_4 : decode b_Tra_refusedLiteralOf 4 = .ok (.iload_n 1, 1) := by decide +kernel
theorem d_Tra_refusedLiteralOf_5 : decode b_Tra_refusedLiteralOf 5 = .ok (.iaload, 1) := by decide +kernel
theorem d_Tra_refusedLiteralOf_6 : decode b_Tra_refusedLiteralOf 6 = .ok (.iconst 1, 1) := by decide +kernel
theorem d_Tra_refusedLiteralOf_7 : decode b_Tra_refusedLiteralOf 7 = .ok (.ixor, 1) := by decide +kernel
theorem d_Tra_refusedLiteralOf_8 : decode b_Tra_refusedLiteralOf 8 = .ok (.ireturn, 1) := by decide +kernel
