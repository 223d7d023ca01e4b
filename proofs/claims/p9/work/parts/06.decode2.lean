theorem d_Sea_storeRow_0 : decode b_Sea_storeRow 0 = .ok (.aload_n 0, 1) := by decide +kernel
theorem d_Sea_storeRow_1 : decode b_Sea_storeRow 1 = .ok (.aload_n 0, 1) := by decide +kernel
theorem d_Sea_storeRow_2 : decode b_Sea_storeRow 2 = .ok (.getfield 41, 3) := by decide +kernel
theorem d_Sea_storeRow_5 : decode b_Sea_storeRow 5 = .ok (.aload_n 0, 1) := by decide +kernel
theorem d_Sea_storeRow_6 : decode b_Sea_storeRow 6 = .ok (.getfield 44, 3) := by decide +kernel
theorem d_Sea_storeRow_9 : decode b_Sea_storeRow 9 = .ok (.iconst 1, 1) := by decide +kernel
theorem d_Sea_storeRow_10 : decode b_Sea_storeRow 10 = .ok (.iadd, 1) := by decide +kernel
theorem d_Sea_storeRow_11 : decode b_Sea_storeRow 11 = .ok (.sipush 1500, 3) := by decide +kernel
theorem d_Sea_storeRow_14 : decode b_Sea_storeRow 14 = .ok (.invokestatic 184, 3) := by decide +kernel
theorem d_Sea_storeRow_17 : decode b_Sea_storeRow 17 = .ok (.putfield 41, 3) := by decide +kernel
theorem d_Sea_storeRow_20 : decode b_Sea_storeRow 20 = .ok (.aload_n 0, 1) := by decide +kernel
theorem d_Sea_storeRow_21 : decode b_Sea_storeRow 21 = .ok (.getfield 41, 3) := by decide +kernel
theorem d_Sea_storeRow_24 : decode b_Sea_storeRow 24 = .ok (.aload_n 0, 1) := by decide +kernel
theorem d_Sea_storeRow_25 : decode b_Sea_storeRow 25 = .ok (.getfield 44, 3) := by decide +kernel
theorem d_Sea_storeRow_28 : decode b_Sea_storeRow 28 = .ok (.aload_n 0, 1) := by decide +kernel
theorem d_Sea_storeRow_29 : decode b_Sea_storeRow 29 = .ok (.getfield 15, 3) := by decide +kernel
theorem d_Sea_storeRow_32 : decode b_Sea_storeRow 32 = .ok (.invokevirtual 188, 3) := by decide +kernel
theorem d_Sea_storeRow_35 : decode b_Sea_storeRow 35 = .ok (.iastore, 1) := by decide +kernel
theorem d_Sea_storeRow_36 : decode b_Sea_storeRow 36 = .ok (.aload_n 0, 1) := by decide +kernel
theorem d_Sea_storeRow_37 : decode b_Sea_storeRow 37 = .ok (.dup, 1) := by decide +kernel
theorem d_Sea_storeRow_38 : decode b_Sea_storeRow 38 = .ok (.getfield 44, 3) := by decide +kernel
theorem d_Sea_storeRow_41 : decode b_Sea_storeRow 41 = .ok (.iconst 1, 1) := by decide +kernel
theorem d_Sea_storeRow_42 : decode b_Sea_storeRow 42 = .ok (.iadd, 1) := by decide +kernel
theorem d_Sea_storeRow_43 : decode b_Sea_storeRow 43 = .ok (.putfield 44, 3) := by decide +kernel
theorem d_Sea_storeRow_46 : decode b_Sea_storeRow 46 = .ok (.iconst (-1), 1) := by decide +kernel
theorem d_Sea_storeRow_47 : decode b_Sea_storeRow 47 = .ok (.istore_n 1, 1) := by decide +kernel
theorem d_Sea_storeRow_48 : decode b_Sea_storeRow 48 = .ok (.iconst 0, 1) := by decide +kernel
theorem d_Sea_storeRow_49 : decode b_Sea_storeRow 49 = .ok (.istore_n 2, 1) := by decide +kernel
theorem d_Sea_storeRow_50 : decode b_Sea_storeRow 50 = .ok (.iload_n 2, 1) := by decide +kernel
theorem d_Sea_storeRow_51 : decode b_Sea_storeRow 51 = .ok (.aload_n 0, 1) := by decide +kernel
theorem d_Sea_storeRow_52 : decode b_Sea_storeRow 52 = .ok (.getfield 9, 3) := by decide +kernel
theorem d_Sea_storeRow_55 : decode b_Sea_storeRow 55 = .ok (.if_icmp .ge 60, 3) := by decide +kernel
theorem d_Sea_storeRow_58 : decode b_Sea_storeRow 58 = .ok (.aload_n 0, 1) := by decide +kernel
theorem d_Sea_storeRow_59 : decode b_Sea_storeRow 59 = .ok (.getfield 31, 3) := by decide +kernel
theorem d_Sea_storeRow_62 : decode b_Sea_storeRow 62 = .ok (.iload_n 2, 1) := by decide +kernel
theorem d_Sea_storeRow_63 : decode b_Sea_storeRow 63 = .ok (.iaload, 1) := by decide +kernel
theorem d_Sea_storeRow_64 : decode b_Sea_storeRow 64 = .ok (.iconst 1, 1) := by decide +kernel
theorem d_Sea_storeRow_65 : decode b_Sea_storeRow 65 = .ok (.if_icmp .ne 44, 3) := by decide +kernel
theorem d_Sea_storeRow_68 : decode b_Sea_storeRow 68 = .ok (.aload_n 0, 1) := by decide +kernel
theorem d_Sea_storeRow_69 : decode b_Sea_storeRow 69 = .ok (.getfield 19, 3) := by decide +kernel
theorem d_Sea_storeRow_72 : decode b_Sea_storeRow 72 = .ok (.iload_n 2, 1) := by decide +kernel
theorem d_Sea_storeRow_73 : decode b_Sea_storeRow 73 = .ok (.invokevirtual 191, 3) := by decide +kernel
theorem d_Sea_storeRow_76 : decode b_Sea_storeRow 76 = .ok (.istore_n 3, 1) := by decide +kernel
theorem d_Sea_storeRow_77 : decode b_Sea_storeRow 77 = .ok (.aload_n 0, 1) := by decide +kernel
theorem d_Sea_storeRow_78 : decode b_Sea_storeRow 78 = .ok (.getfield 15, 3) := by decide +kernel
theorem d_Sea_storeRow_81 : decode b_Sea_storeRow 81 = .ok (.iload_n 3, 1) := by decide +kernel
theorem d_Sea_storeRow_82 : decode b_Sea_storeRow 82 = .ok (.invokevirtual 194, 3) := by decide +kernel
theorem d_Sea_storeRow_85 : decode b_Sea_storeRow 85 = .ok (.aload_n 0, 1) := by decide +kernel
theorem d_Sea_storeRow_86 : decode b_Sea_storeRow 86 = .ok (.getfield 19, 3) := by decide +kernel
theorem d_Sea_storeRow_89 : decode b_Sea_storeRow 89 = .ok (.iload_n 2, 1) := by decide +kernel
theorem d_Sea_storeRow_90 : decode b_Sea_storeRow 90 = .ok (.invokevirtual 181, 3) := by decide +kernel
theorem d_Sea_storeRow_93 : decode b_Sea_storeRow 93 = .ok (.aload_n 0, 1) := by decide +kernel
theorem d_Sea_storeRow_94 : decode b_Sea_storeRow 94 = .ok (.getfield 19, 3) := by decide +kernel
theorem d_Sea_storeRow_97 : decode b_Sea_storeRow 97 = .ok (.getfield 75, 3) := by decide +kernel
theorem d_Sea_storeRow_100 : decode b_Sea_storeRow 100 = .ok (.if_icmp .ne 7, 3) := by decide +kernel
theorem d_Sea_storeRow_103 : decode b_Sea_storeRow 103 = .ok (.iload_n 3, 1) := by decide +kernel
theorem d_Sea_storeRow_104 : decode b_Sea_storeRow 104 = .ok (.goto 4, 3) := by decide +kernel
theorem d_Sea_storeRow_107 : decode b_Sea_storeRow 107 = .ok (.iload_n 1, 1) := by decide +kernel
theorem d_Sea_storeRow_108 : decode b_Sea_storeRow 108 = .ok (.istore_n 1, 1) := by decide +kernel
theorem d_Sea_storeRow_109 : decode b_Sea_storeRow 109 = .ok (.iinc 2 1, 3) := by decide +kernel
theorem d_Sea_storeRow_112 : decode b_Sea_storeRow 112 = .ok (.goto (-62), 3) := by decide +kernel
theorem d_Sea_storeRow_115 : decode b_Sea_storeRow 115 = .ok (.iload_n 1, 1) := by decide +kernel
theorem d_Sea_storeRow_116 : decode b_Sea_storeRow 116 = .ok (.ireturn, 1) := by decide +kernel
theorem d_Tal_enterDead_0 : decode b_Tal_enterDead 0 = .ok (.aload_n 0, 1) := by decide +kernel
theorem d_Tal_enterDead_1 : decode b_Tal_enterDead 1 = .ok (.invokevirtual 29, 3) := by decide +kernel
theorem d_Tal_enterDead_4 : decode b_Tal_enterDead 4 = .ok (.aload_n 0, 1) := by decide +kernel
theorem d_Tal_enterDead_5 : decode b_Tal_enterDead 5 = .ok (.getfield 9, 3) := by decide +kernel
theorem d_Tal_enterDead_8 : decode b_Tal_enterDead 8 = .ok (.getfield 32, 3) := by decide +kernel
theorem d_Tal_enterDead_11 : decode b_Tal_enterDead 11 = .ok (.ifCond .le 46, 3) := by decide +kernel
theorem d_Tal_enterDead_14 : decode b_Tal_enterDead 14 = .ok (.aload_n 0, 1) := by decide +kernel
theorem d_Tal_enterDead_15 : decode b_Tal_enterDead 15 = .ok (.getfield 22, 3) := by decide +kernel
theorem d_Tal_enterDead_18 : decode b_Tal_enterDead 18 = .ok (.aload_n 0, 1) := by decide +kernel
theorem d_Tal_enterDead_19 : decode b_Tal_enterDead 19 = .ok (.getfield 9, 3) := by decide +kernel
theorem d_Tal_enterDead_22 : decode b_Tal_enterDead 22 = .ok (.getfield 32, 3) := by decide +kernel
theorem d_Tal_enterDead_25 : decode b_Tal_enterDead 25 = .ok (.iconst 1, 1) := by decide +kernel
theorem d_Tal_enterDead_26 : decode b_Tal_enterDead 26 = .ok (.isub, 1) := by decide +kernel
theorem d_Tal_enterDead_27 : decode b_Tal_enterDead 27 = .ok (.iconst 0, 1) := by decide +kernel
theorem d_Tal_enterDead_28 : decode b_Tal_enterDead 28 = .ok (.iastore, 1) := by decide +kernel
theorem d_Tal_enterDead_29 : decode b_Tal_enterDead 29 = .ok (.aload_n 0, 1) := by decide +kernel
theorem d_Tal_enterDead_30 : decode b_Tal_enterDead 30 = .ok (.getfield 26, 3) := by decide +kernel
theorem d_Tal_enterDead_33 : decode b_Tal_enterDead 33 = .ok (.aload_n 0, 1) := by decide +kernel
theorem d_Tal_enterDead_34 : decode b_Tal_enterDead 34 = .ok (.getfield 9, 3) := by decide +kernel
theorem d_Tal_enterDead_37 : decode b_Tal_enterDead 37 = .ok (.getfield 32, 3) := by decide +kernel
theorem d_Tal_enterDead_40 : decode b_Tal_enterDead 40 = .ok (.iconst 1, 1) := by decide +kernel
theorem d_Tal_enterDead_41 : decode b_Tal_enterDead 41 = .ok (.isub, 1) := by decide +kernel
theorem d_Tal_enterDead_42 : decode b_Tal_enterDead 42 = .ok (.iconst 0, 1) := by decide +kernel
theorem d_Tal_enterDead_43 : decode b_Tal_enterDead 43 = .ok (.iastore, 1) := by decide +kernel
theorem d_Tal_enterDead_44 : decode b_Tal_enterDead 44 = .ok (.aload_n 0, 1) := by decide +kernel
theorem d_Tal_enterDead_45 : decode b_Tal_enterDead 45 = .ok (.aload_n 0, 1) := by decide +kernel
theorem d_Tal_enterDead_46 : decode b_Tal_enterDead 46 = .ok (.getfield 9, 3) := by decide +kernel
theorem d_Tal_enterDead_49 : decode b_Tal_enterDead 49 = .ok (.getfield 32, 3) := by decide +kernel
theorem d_Tal_enterDead_52 : decode b_Tal_enterDead 52 = .ok (.iconst 1, 1) := by decide +kernel
theorem d_Tal_enterDead_53 : decode b_Tal_enterDead 53 = .ok (.isub, 1) := by decide +kernel
theorem d_Tal_enterDead_54 : decode b_Tal_enterDead 54 = .ok (.invokevirtual 42, 3) := by decide +kernel
theorem d_Tal_enterDead_57 : decode b_Tal_enterDead 57 = .ok (.return_, 1) := by decide +kernel
theorem d_Sea_greatestLevelBut_0 : decode b_Sea_greatestLevelBut 0 = .ok (.iconst 0, 1) := by decide +kernel
theorem d_Sea_greatestLevelBut_1 : decode b_Sea_greatestLevelBut 1 = .ok (.istore_n 2, 1) := by decide +kernel
theorem d_Sea_greatestLevelBut_2 : decode b_Sea_greatestLevelBut 2 = .ok (.iconst 0, 1) := by decide +kernel
theorem d_Sea_greatestLevelBut_3 : decode b_Sea_greatestLevelBut 3 = .ok (.istore_n 3, 1) := by decide +kernel
theorem d_Sea_greatestLevelBut_4 : decode b_Sea_greatestLevelBut 4 = .ok (.iload_n 3, 1) := by decide +kernel
theorem d_Sea_greatestLevelBut_5 : decode b_Sea_greatestLevelBut 5 = .ok (.aload_n 0, 1) := by decide +kernel
theorem d_Sea_greatestLevelBut_6 : decode b_Sea_greatestLevelBut 6 = .ok (.getfield 9, 3) := by decide +kernel
theorem d_Sea_greatestLevelBut_9 : decode b_Sea_greatestLevelBut 9 = .ok (.if_icmp .ge 37, 3) := by decide +kernel
theorem d_Sea_greatestLevelBut_12 : decode b_Sea_greatestLevelBut 12 = .ok (.aload_n 0, 1) := by decide +kernel
theorem d_Sea_greatestLevelBut_13 : decode b_Sea_greatestLevelBut 13 = .ok (.getfield 31, 3) := by decide +kernel
theorem d_Sea_greatestLevelBut_16 : decode b_Sea_greatestLevelBut 16 = .ok (.iload_n 3, 1) := by decide +kernel
theorem d_Sea_greatestLevelBut_17 : decode b_Sea_greatestLevelBut 17 = .ok (.iaload, 1) := by decide +kernel
theorem d_Sea_greatestLevelBut_18 : decode b_Sea_greatestLevelBut 18 = .ok (.iconst 1, 1) := by decide +kernel
theorem d_Sea_greatestLevelBut_19 : decode b_Sea_greatestLevelBut 19 = .ok (.if_icmp .ne 21, 3) := by decide +kernel
theorem d_Sea_greatestLevelBut_22 : decode b_Sea_greatestLevelBut 22 = .ok (.iload_n 3, 1) := by decide +kernel
theorem d_Sea_greatestLevelBut_23 : decode b_Sea_greatestLevelBut 23 = .ok (.iload_n 1, 1) := by decide +kernel
theorem d_Sea_greatestLevelBut_24 : decode b_Sea_greatestLevelBut 24 = .ok (.if_icmp .eq 16, 3) := by decide +kernel
theorem d_Sea_greatestLevelBut_27 : decode b_Sea_greatestLevelBut 27 = .ok (.iload_n 2, 1) := by decide +kernel
theorem d_Sea_greatestLevelBut_28 : decode b_Sea_greatestLevelBut 28 = .ok (.aload_n 0, 1) := by decide +kernel
theorem d_Sea_greatestLevelBut_29 : decode b_Sea_greatestLevelBut 29 = .ok (.getfield 19, 3) := by decide +kernel
theorem d_Sea_greatestLevelBut_32 : decode b_Sea_greatestLevelBut 32 = .ok (.iload_n 3, 1) := by decide +kernel
theorem d_Sea_greatestLevelBut_33 : decode b_Sea_greatestLevelBut 33 = .ok (.invokevirtual 181, 3) := by decide +kernel
theorem d_Sea_greatestLevelBut_36 : decode b_Sea_greatestLevelBut 36 = .ok (.invokestatic 197, 3) := by decide +kernel
theorem d_Sea_greatestLevelBut_39 : decode b_Sea_greatestLevelBut 39 = .ok (.istore_n 2, 1) := by decide +kernel
theorem d_Sea_greatestLevelBut_40 : decode b_Sea_greatestLevelBut 40 = .ok (.iinc 3 1, 3) := by decide +kernel
theorem d_Sea_greatestLevelBut_43 : decode b_Sea_greatestLevelBut 43 = .ok (.goto (-39), 3) := by decide +kernel
theorem d_Sea_greatestLevelBut_46 : decode b_Sea_greatestLevelBut 46 = .ok (.iload_n 2, 1) := by decide +kernel
theorem d_Sea_greatestLevelBut_47 : decode b_Sea_greatestLevelBut 47 = .ok (.ireturn, 1) := by decide +kernel
theorem d_Tal_move_0 : decode b_Tal_move 0 = .ok (.aload_n 0, 1) := by decide +kernel
theorem d_Tal_move_1 : decode b_Tal_move 1 = .ok (.getfield 9, 3) := by decide +kernel
theorem d_Tal_move_4 : decode b_Tal_move 4 = .ok (.getfield 46, 3) := by decide +kernel
theorem d_Tal_move_7 : decode b_Tal_move 7 = .ok (.iload_n 1, 1) := by decide +kernel
theorem d_Tal_move_8 : decode b_Tal_move 8 = .ok (.iaload, 1) := by decide +kernel
theorem d_Tal_move_9 : decode b_Tal_move 9 = .ok (.istore_n 3, 1) := by decide +kernel
theorem d_Tal_move_10 : decode b_Tal_move 10 = .ok (.iconst 0, 1) := by decide +kernel
theorem d_Tal_move_11 : decode b_Tal_move 11 = .ok (.istore 4, 2) := by decide +kernel
theorem d_Tal_move_13 : decode b_Tal_move 13 = .ok (.iload 4, 2) := by decide +kernel
theorem d_Tal_move_15 : decode b_Tal_move 15 = .ok (.aload_n 0, 1) := by decide +kernel
theorem d_Tal_move_16 : decode b_Tal_move 16 = .ok (.getfield 9, 3) := by decide +kernel
theorem d_Tal_move_19 : decode b_Tal_move 19 = .ok (.getfield 49, 3) := by decide +kernel
theorem d_Tal_move_22 : decode b_Tal_move 22 = .ok (.if_icmp .ge 51, 3) := by decide +kernel
theorem d_Tal_move_25 : decode b_Tal_move 25 = .ok (.iload_n 3, 1) := by decide +kernel
theorem d_Tal_move_26 : decode b_Tal_move 26 = .ok (.ifCond .lt 47, 3) := by decide +kernel
theorem d_Tal_move_29 : decode b_Tal_move 29 = .ok (.aload_n 0, 1) := by decide +kernel
theorem d_Tal_move_30 : decode b_Tal_move 30 = .ok (.getfield 9, 3) := by decide +kernel
theorem d_Tal_move_33 : decode b_Tal_move 33 = .ok (.getfield 52, 3) := by decide +kernel
theorem d_Tal_move_36 : decode b_Tal_move 36 = .ok (.iload_n 3, 1) := by decide +kernel
theorem d_Tal_move_37 : decode b_Tal_move 37 = .ok (.iaload, 1) := by decide +kernel
theorem d_Tal_move_38 : decode b_Tal_move 38 = .ok (.istore 5, 2) := by decide +kernel
theorem d_Tal_move_40 : decode b_Tal_move 40 = .ok (.aload_n 0, 1) := by decide +kernel
theorem d_Tal_move_41 : decode b_Tal_move 41 = .ok (.getfield 22, 3) := by decide +kernel
theorem d_Tal_move_44 : decode b_Tal_move 44 = .ok (.iload 5, 2) := by decide +kernel
theorem d_Tal_move_46 : decode b_Tal_move 46 = .ok (.dup2, 1) := by decide +kernel
theorem d_Tal_move_47 : decode b_Tal_move 47 = .ok (.iaload, 1) := by decide +kernel
theorem d_Tal_move_48 : decode b_Tal_move 48 = .ok (.iload_n 2, 1) := by decide +kernel
theorem d_Tal_move_49 : decode b_Tal_move 49 = .ok (.iadd, 1) := by decide +kernel
theorem d_Tal_move_50 : decode b_Tal_move 50 = .ok (.iastore, 1) := by decide +kernel
theorem d_Tal_move_51 : decode b_Tal_move 51 = .ok (.aload_n 0, 1) := by decide +kernel
theorem d_Tal_move_52 : decode b_Tal_move 52 = .ok (.iload 5, 2) := by decide +kernel
theorem d_Tal_move_54 : decode b_Tal_move 54 = .ok (.invokevirtual 42, 3) := by decide +kernel
theorem d_Tal_move_57 : decode b_Tal_move 57 = .ok (.aload_n 0, 1) := by decide +kernel
theorem d_Tal_move_58 : decode b_Tal_move 58 = .ok (.getfield 9, 3) := by decide +kernel
theorem d_Tal_move_61 : decode b_Tal_move 61 = .ok (.getfield 55, 3) := by decide +kernel
theorem d_Tal_move_64 : decode b_Tal_move 64 = .ok (.iload_n 3, 1) := by decide +kernel
theorem d_Tal_move_65 : decode b_Tal_move 65 = .ok (.iaload, 1) := by decide +kernel
theorem d_Tal_move_66 : decode b_Tal_move 66 = .ok (.istore_n 3, 1) := by decide +kernel
theorem d_Tal_move_67 : decode b_Tal_move 67 = .ok (.iinc 4 1, 3) := by decide +kernel
theorem d_Tal_move_70 : decode b_Tal_move 70 = .ok (.goto (-57), 3) := by decide +kernel
theorem d_Tal_move_73 : decode b_Tal_move 73 = .ok (.aload_n 0, 1) := by decide +kernel
theorem d_Tal_move_74 : decode b_Tal_move 74 = .ok (.getfield 9, 3) := by decide +kernel
theorem d_Tal_move_77 : decode b_Tal_move 77 = .ok (.getfield 46, 3) := by decide +kernel
theorem d_Tal_move_80 : decode b_Tal_move 80 = .ok (.iload_n 1, 1) := by decide +kernel
theorem d_Tal_move_81 : decode b_Tal_move 81 = .ok (.iconst 1, 1) := by decide +kernel
theorem d_Tal_move_82 : decode b_Tal_move 82 = .ok (.ixor, 1) := by decide +kernel
theorem d_Tal_move_83 : decode b_Tal_move 83 = .ok (.iaload, 1) := by decide +kernel
theorem d_Tal_move_84 : decode b_Tal_move 84 = .ok (.istore_n 3, 1) := by decide +kernel
theorem d_Tal_move_85 : decode b_Tal_move 85 = .ok (.iconst 0, 1) := by decide +kernel
theorem d_Tal_move_86 : decode b_Tal_move 86 = .ok (.istore 4, 2) := by decide +kernel
theorem d_Tal_move_88 : decode b_Tal_move 88 = .ok (.iload 4, 2) := by decide +kernel
theorem d_Tal_move_90 : decode b_Tal_move 90 = .ok (.aload_n 0, 1) := by decide +kernel
theorem d_Tal_move_91 : decode b_Tal_move 91 = .ok (.getfield 9, 3) := by decide +kernel
theorem d_Tal_move_94 : decode b_Tal_move 94 = .ok (.getfield 49, 3) := by decide +kernel
theorem d_Tal_move_97 : decode b_Tal_move 97 = .ok (.if_icmp .ge 51, 3) := by decide +kernel
theorem d_Tal_move_100 : decode b_Tal_move 100 = .ok (.iload_n 3, 1) := by decide +kernel
theorem d_Tal_move_101 : decode b_Tal_move 101 = .ok (.ifCond .lt 47, 3) := by decide +kernel
theorem d_Tal_move_104 : decode b_Tal_move 104 = .ok (.aload_n 0, 1) := by decide +kernel
theorem d_Tal_move_105 : decode b_Tal_move 105 = .ok (.getfield 9, 3) := by decide +kernel
theorem d_Tal_move_108 : decode b_Tal_move 108 = .ok (.getfield 52, 3) := by decide +kernel
theorem d_Tal_move_111 : decode b_Tal_move 111 = .ok (.iload_n 3, 1) := by decide +kernel
theorem d_Tal_move_112 : decode b_Tal_move 112 = .ok (.iaload, 1) := by decide +kernel
theorem d_Tal_move_113 : decode b_Tal_move 113 = .ok (.istore 5, 2) := by decide +kernel
theorem d_Tal_move_115 : decode b_Tal_move 115 = .ok (.aload_n 0, 1) := by decide +kernel
theorem d_Tal_move_116 : decode b_Tal_move 116 = .ok (.getfield 26, 3) := by decide +kernel
theorem d_Tal_move_119 : decode b_Tal_move 119 = .ok (.iload 5, 2) := by decide +kernel
theorem d_Tal_move_121 : decode b_Tal_move 121 = .ok (.dup2, 1) := by decide +kernel
theorem d_Tal_move_122 : decode b_Tal_move 122 = .ok (.iaload, 1) := by decide +kernel
theorem d_Tal_move_123 : decode b_Tal_move 123 = .ok (.iload_n 2, 1) := by decide +kernel
theorem d_Tal_move_124 : decode b_Tal_move 124 = .ok (.isub, 1) := by decide +kernel
theorem d_Tal_move_125 : decode b_Tal_move 125 = .ok (.iastore, 1) := by decide +kernel
theorem d_Tal_move_126 : decode b_Tal_move 126 = .ok (.aload_n 0, 1) := by decide +kernel
theorem d_Tal_move_127 : decode b_Tal_move 127 = .ok (.iload 5, 2) := by decide +kernel
theorem d_Tal_move_129 : decode b_Tal_move 129 = .ok (.invokevirtual 42, 3) := by decide +kernel
theorem d_Tal_move_132 : decode b_Tal_move 132 = .ok (.aload_n 0, 1) := by decide +kernel
theorem d_Tal_move_133 : decode b_Tal_move 133 = .ok (.getfield 9, 3) := by decide +kernel
theorem d_Tal_move_136 : decode b_Tal_move 136 = .ok (.getfield 55, 3) := by decide +kernel
theorem d_Tal_move_139 : decode b_Tal_move 139 = .ok (.iload_n 3, 1) := by decide +kernel
theorem d_Tal_move_140 : decode b_Tal_move 140 = .ok (.iaload, 1) := by decide +kernel
theorem d_Tal_move_141 : decode b_Tal_move 141 = .ok (.istore_n 3, 1) := by decide +kernel
theorem d_Tal_move_142 : decode b_Tal_move 142 = .ok (.iinc 4 1, 3) := by decide +kernel
theorem d_Tal_move_145 : decode b_Tal_move 145 = .ok (.goto (-57), 3) := by decide +kernel
theorem d_Tal_move_148 : decode b_Tal_move 148 = .ok (.return_, 1) := by decide +kernel
theorem d_Tra_cutAbove_0 : decode b_Tra_cutAbove 0 = .ok (.aload_n 0, 1) := by decide +kernel
theorem d_Tra_cutAbove_1 : decode b_Tra_cutAbove 1 = .ok (.getfield 15, 3) := by decide +kernel
theorem d_Tra_cutAbove_4 : decode b_Tra_cutAbove 4 = .ok (.iconst 1, 1) := by decide +kernel
theorem d_Tra_cutAbove_5 : decode b_Tra_cutAbove 5 = .ok (.isub, 1) := by decide +kernel
theorem d_Tra_cutAbove_6 : decode b_Tra_cutAbove 6 = .ok (.istore_n 2, 1) := by decide +kernel
theorem d_Tra_cutAbove_7 : decode b_Tra_cutAbove 7 = .ok (.iload_n 2, 1) := by decide +kernel
theorem d_Tra_cutAbove_8 : decode b_Tra_cutAbove 8 = .ok (.ifCond .lt 59, 3) := by decide +kernel
theorem d_Tra_cutAbove_11 : decode b_Tra_cutAbove 11 = .ok (.aload_n 0, 1) := by decide +kernel
theorem d_Tra_cutAbove_12 : decode b_Tra_cutAbove 12 = .ok (.getfield 29, 3) := by decide +kernel
theorem d_Tra_cutAbove_15 : decode b_Tra_cutAbove 15 = .ok (.aload_n 0, 1) := by decide +kernel
theorem d_Tra_cutAbove_16 : decode b_Tra_cutAbove 16 = .ok (.getfield 22, 3) := by decide +kernel
theorem d_Tra_cutAbove_19 : decode b_Tra_cutAbove 19 = .ok (.iload_n 2, 1) := by decide +kernel
theorem d_Tra_cutAbove_20 : decode b_Tra_cutAbove 20 = .ok (.iaload, 1) := by decide +kernel
theorem d_Tra_cutAbove_21 : decode b_Tra_cutAbove 21 = .ok (.iconst 1, 1) := by decide +kernel
theorem d_Tra_cutAbove_22 : decode b_Tra_cutAbove 22 = .ok (.ishr, 1) := by decide +kernel
theorem d_Tra_cutAbove_23 : decode b_Tra_cutAbove 23 = .ok (.iaload, 1) := by decide +kernel
theorem d_Tra_cutAbove_24 : decode b_Tra_cutAbove 24 = .ok (.iload_n 1, 1) := by decide +kernel
theorem d_Tra_cutAbove_25 : decode b_Tra_cutAbove 25 = .ok (.if_icmp .le 42, 3) := by decide +kernel
theorem d_Tra_cutAbove_28 : decode b_Tra_cutAbove 28 = .ok (.aload_n 0, 1) := by decide +kernel
theorem d_Tra_cutAbove_29 : decode b_Tra_cutAbove 29 = .ok (.getfield 26, 3) := by decide +kernel
theorem d_Tra_cutAbove_32 : decode b_Tra_cutAbove 32 = .ok (.aload_n 0, 1) := by decide +kernel
theorem d_Tra_cutAbove_33 : decode b_Tra_cutAbove 33 = .ok (.getfield 22, 3) := by decide +kernel
theorem d_Tra_cutAbove_36 : decode b_Tra_cutAbove 36 = .ok (.iload_n 2, 1) := by decide +kernel
theorem d_Tra_cutAbove_37 : decode b_Tra_cutAbove 37 = .ok (.iaload, 1) := by decide +kernel
theorem d_Tra_cutAbove_38 : decode b_Tra_cutAbove 38 = .ok (.iconst 1, 1) := by decide +kernel
theorem d_Tra_cutAbove_39 : decode b_Tra_cutAbove 39 = .ok (.ishr, 1) := by decide +kernel
theorem d_Tra_cutAbove_40 : decode b_Tra_cutAbove 40 = .ok (.iconst (-1), 1) := by decide +kernel
theorem d_Tra_cutAbove_41 : decode b_Tra_cutAbove 41 = .ok (.iastore, 1) := by decide +kernel
theorem d_Tra_cutAbove_42 : decode b_Tra_cutAbove 42 = .ok (.aload_n 0, 1) := by decide +kernel
theorem d_Tra_cutAbove_43 : decode b_Tra_cutAbove 43 = .ok (.getfield 9, 3) := by decide +kernel
theorem d_Tra_cutAbove_46 : decode b_Tra_cutAbove 46 = .ok (.aload_n 0, 1) := by decide +kernel
theorem d_Tra_cutAbove_47 : decode b_Tra_cutAbove 47 = .ok (.getfield 22, 3) := by decide +kernel
theorem d_Tra_cutAbove_50 : decode b_Tra_cutAbove 50 = .ok (.iload_n 2, 1) := by decide +kernel
theorem d_Tra_cutAbove_51 : decode b_Tra_cutAbove 51 = .ok (.iaload, 1) := by decide +kernel
theorem d_Tra_cutAbove_52 : decode b_Tra_cutAbove 52 = .ok (.iconst (-1), 1) := by decide +kernel
theorem d_Tra_cutAbove_53 : decode b_Tra_cutAbove 53 = .ok (.invokevirtual 46, 3) := by decide +kernel
theorem d_Tra_cutAbove_56 : decode b_Tra_cutAbove 56 = .ok (.aload_n 0, 1) := by decide +kernel
theorem d_Tra_cutAbove_57 : decode b_Tra_cutAbove 57 = .ok (.iload_n 2, 1) := by decide +kernel
theorem d_Tra_cutAbove_58 : decode b_Tra_cutAbove 58 = .ok (.putfield 15, 3) := by decide +kernel
theorem d_Tra_cutAbove_61 : decode b_Tra_cutAbove 61 = .ok (.iinc 2 (-1), 3) := by decide +kernel
theorem d_Tra_cutAbove_64 : decode b_Tra_cutAbove 64 = .ok (.goto (-57), 3) := by decide +kernel
theorem d_Tra_cutAbove_67 : decode b_Tra_cutAbove 67 = .ok (.aload_n 0, 1) := by decide +kernel
theorem d_Tra_cutAbove_68 : decode b_Tra_cutAbove 68 = .ok (.iload_n 1, 1) := by decide +kernel
theorem d_Tra_cutAbove_69 : decode b_Tra_cutAbove 69 = .ok (.putfield 19, 3) := by decide +kernel
theorem d_Tra_cutAbove_72 : decode b_Tra_cutAbove 72 = .ok (.return_, 1) := by decide +kernel
theorem d_Tra_put_0 : decode b_Tra_put 0 = .ok (.iload_n 1, 1) := by decide +kernel
theorem d_Tra_put_1 : decode b_Tra_put 1 = .ok (.iconst 1, 1) := by decide +kernel
theorem d_Tra_put_2 : decode b_Tra_put 2 = .ok (.ishr, 1) := by decide +kernel
theorem d_Tra_put_3 : decode b_Tra_put 3 = .ok (.istore_n 3, 1) := by decide +kernel
theorem d_Tra_put_4 : decode b_Tra_put 4 = .ok (.iload_n 3, 1) := by decide +kernel
theorem d_Tra_put_5 : decode b_Tra_put 5 = .ok (.ifCond .lt 24, 3) := by decide +kernel
theorem d_Tra_put_8 : decode b_Tra_put 8 = .ok (.iload_n 3, 1) := by decide +kernel
theorem d_Tra_put_9 : decode b_Tra_put 9 = .ok (.aload_n 0, 1) := by decide +kernel
theorem d_Tra_put_10 : decode b_Tra_put 10 = .ok (.getfield 26, 3) := by decide +kernel
theorem d_Tra_put_13 : decode b_Tra_put 13 = .ok (.arraylength, 1) := by decide +kernel
theorem d_Tra_put_14 : decode b_Tra_put 14 = .ok (.if_icmp .ge 15, 3) := by decide +kernel
theorem d_Tra_put_17 : decode b_Tra_put 17 = .ok (.aload_n 0, 1) := by decide +kernel
theorem d_Tra_put_18 : decode b_Tra_put 18 = .ok (.getfield 15, 3) := by decide +kernel
theorem d_Tra_put_21 : decode b_Tra_put 21 = .ok (.aload_n 0, 1) := by decide +kernel
theorem d_Tra_put_22 : decode b_Tra_put 22 = .ok (.getfield 22, 3) := by decide +kernel
theorem d_Tra_put_25 : decode b_Tra_put 25 = .ok (.arraylength, 1) := by decide +kernel
theorem d_Tra_put_26 : decode b_Tra_put 26 = .ok (.if_icmp .lt 4, 3) := by decide +kernel
theorem d_Tra_put_29 : decode b_Tra_put 29 = .ok (.return_, 1) := by decide +kernel
theorem d_Tra_put_30 : decode b_Tra_put 30 = .ok (.aload_n 0, 1) := by decide +kernel
theorem d_Tra_put_31 : decode b_Tra_put 31 = .ok (.getfield 22, 3) := by decide +kernel
theorem d_Tra_put_34 : decode b_Tra_put 34 = .ok (.aload_n 0, 1) := by decide +kernel
theorem d_Tra_put_35 : decode b_Tra_put 35 = .ok (.getfield 15, 3) := by decide +kernel
theorem d_Tra_put_38 : decode b_Tra_put 38 = .ok (.iload_n 1, 1) := by decide +kernel
theorem d_Tra_put_39 : decode b_Tra_put 39 = .ok (.iastore, 1) := by decide +kernel
theorem d_Tra_put_40 : decode b_Tra_put 40 = .ok (.aload_n 0, 1) := by decide +kernel
theorem d_Tra_put_41 : decode b_Tra_put 41 = .ok (.dup, 1) := by decide +kernel
theorem d_Tra_put_42 : decode b_Tra_put 42 = .ok (.getfield 15, 3) := by decide +kernel
theorem d_Tra_put_45 : decode b_Tra_put 45 = .ok (.iconst 1, 1) := by decide +kernel
theorem d_Tra_put_46 : decode b_Tra_put 46 = .ok (.iadd, 1) := by decide +kernel
theorem d_Tra_put_47 : decode b_Tra_put 47 = .ok (.putfield 15, 3) := by decide +kernel
theorem d_Tra_put_50 : decode b_Tra_put 50 = .ok (.aload_n 0, 1) := by decide +kernel
theorem d_Tra_put_51 : decode b_Tra_put 51 = .ok (.getfield 26, 3) := by decide +kernel
theorem d_Tra_put_54 : decode b_Tra_put 54 = .ok (.iload_n 3, 1) := by decide +kernel
theorem d_Tra_put_55 : decode b_Tra_put 55 = .ok (.iload_n 1, 1) := by decide +kernel
theorem d_Tra_put_56 : decode b_Tra_put 56 = .ok (.iastore, 1) := by decide +kernel
theorem d_Tra_put_57 : decode b_Tra_put 57 = .ok (.aload_n 0, 1) := by decide +kernel
theorem d_Tra_put_58 : decode b_Tra_put 58 = .ok (.getfield 29, 3) := by decide +kernel
theorem d_Tra_put_61 : decode b_Tra_put 61 = .ok (.iload_n 3, 1) := by decide +kernel
theorem d_Tra_put_62 : decode b_Tra_put 62 = .ok (.aload_n 0, 1) := by decide +kernel
theorem d_Tra_put_63 : decode b_Tra_put 63 = .ok (.getfield 19, 3) := by decide +kernel
theorem d_Tra_put_66 : decode b_Tra_put 66 = .ok (.iastore, 1) := by decide +kernel
theorem d_Tra_put_67 : decode b_Tra_put 67 = .ok (.aload_n 0, 1) := by decide +kernel
theorem d_Tra_put_68 : decode b_Tra_put 68 = .ok (.getfield 32, 3) := by decide +kernel
theorem d_Tra_put_71 : decode b_Tra_put 71 = .ok (.iload_n 3, 1) := by decide +kernel
theorem d_Tra_put_72 : decode b_Tra_put 72 = .ok (.iload_n 2, 1) := by decide +kernel
theorem d_Tra_put_73 : decode b_Tra_put 73 = .ok (.iastore, 1) := by decide +kernel
theorem d_Tra_put_74 : decode b_Tra_put 74 = .ok (.aload_n 0, 1) := by decide +kernel
theorem d_Tra_put_75 : decode b_Tra_put 75 = .ok (.getfield 9, 3) := by decide +kernel
theorem d_Tra_put_78 : decode b_Tra_put 78 = .ok (.iload_n 1, 1) := by decide +kernel
theorem d_Tra_put_79 : decode b_Tra_put 79 = .ok (.iconst 1, 1) := by decide +kernel
theorem d_Tra_put_80 : decode b_Tra_put 80 = .ok (.invokevirtual 46, 3) := by decide +kernel
theorem d_Tra_put_83 : decode b_Tra_put 83 = .ok (.return_, 1) := by decide +kernel
theorem d_Sea_learnFrom_0 : decode b_Sea_learnFrom 0 = .ok (.aload_n 0, 1) := by decide +kernel
theorem d_Sea_learnFrom_1 : decode b_Sea_learnFrom 1 = .ok (.getfield 51, 3) := by decide +kernel
theorem d_Sea_learnFrom_4 : decode b_Sea_learnFrom 4 = .ok (.lconst 0, 1) := by decide +kernel
theorem d_Sea_learnFrom_5 : decode b_Sea_learnFrom 5 = .ok (.lcmp, 1) := by decide +kernel
theorem d_Sea_learnFrom_6 : decode b_Sea_learnFrom 6 = .ok (.ifCond .gt 5, 3) := by decide +kernel
theorem d_Sea_learnFrom_9 : decode b_Sea_learnFrom 9 = .ok (.iconst 3, 1) := by decide +kernel
theorem d_Sea_learnFrom_10 : decode b_Sea_learnFrom 10 = .ok (.ireturn, 1) := by decide +kernel
theorem d_Sea_learnFrom_11 : decode b_Sea_learnFrom 11 = .ok (.aload_n 0, 1) := by decide +kernel
theorem d_Sea_learnFrom_12 : decode b_Sea_learnFrom 12 = .ok (.iload_n 1, 1) := by decide +kernel
theorem d_Sea_learnFrom_13 : decode b_Sea_learnFrom 13 = .ok (.invokevirtual 139, 3) := by decide +kernel
theorem d_Sea_learnFrom_16 : decode b_Sea_learnFrom 16 = .ok (.aload_n 0, 1) := by decide +kernel
theorem d_Sea_learnFrom_17 : decode b_Sea_learnFrom 17 = .ok (.getfield 15, 3) := by decide +kernel
theorem d_Sea_learnFrom_20 : decode b_Sea_learnFrom 20 = .ok (.iconst 1, 1) := by decide +kernel
theorem d_Sea_learnFrom_21 : decode b_Sea_learnFrom 21 = .ok (.aload_n 0, 1) := by decide +kernel
theorem d_Sea_learnFrom_22 : decode b_Sea_learnFrom 22 = .ok (.invokevirtual 142, 3) := by decide +kernel
theorem d_Sea_learnFrom_25 : decode b_Sea_learnFrom 25 = .ok (.invokevirtual 145, 3) := by decide +kernel
theorem d_Sea_learnFrom_28 : decode b_Sea_learnFrom 28 = .ok (.ifCond .ne 5, 3) := by decide +kernel
theorem d_Sea_learnFrom_31 : decode b_Sea_learnFrom 31 = .ok (.iconst 3, 1) := by decide +kernel
theorem d_Sea_learnFrom_32 : decode b_Sea_learnFrom 32 = .ok (.ireturn, 1) := by decide +kernel
theorem d_Sea_learnFrom_33 : decode b_Sea_learnFrom 33 = .ok (.aload_n 0, 1) := by decide +kernel
theorem d_Sea_learnFrom_34 : decode b_Sea_learnFrom 34 = .ok (.invokevirtual 136, 3) := by decide +kernel
theorem d_Sea_learnFrom_37 : decode b_Sea_learnFrom 37 = .ok (.aload_n 0, 1) := by decide +kernel
theorem d_Sea_learnFrom_38 : decode b_Sea_learnFrom 38 = .ok (.invokevirtual 149, 3) := by decide +kernel
theorem d_Sea_learnFrom_41 : decode b_Sea_learnFrom 41 = .ok (.istore_n 2, 1) := by decide +kernel
theorem d_Sea_learnFrom_42 : decode b_Sea_learnFrom 42 = .ok (.aload_n 0, 1) := by decide +kernel
theorem d_Sea_learnFrom_43 : decode b_Sea_learnFrom 43 = .ok (.getfield 23, 3) := by decide +kernel
theorem d_Sea_learnFrom_46 : decode b_Sea_learnFrom 46 = .ok (.invokevirtual 152, 3) := by decide +kernel
theorem d_Sea_learnFrom_49 : decode b_Sea_learnFrom 49 = .ok (.aload_n 0, 1) := by decide +kernel
theorem d_Sea_learnFrom_50 : decode b_Sea_learnFrom 50 = .ok (.getfield 19, 3) := by decide +kernel
theorem d_Sea_learnFrom_53 : decode b_Sea_learnFrom 53 = .ok (.aload_n 0, 1) := by decide +kernel
theorem d_Sea_learnFrom_54 : decode b_Sea_learnFrom 54 = .ok (.iload_n 2, 1) := by decide +kernel
theorem d_Sea_learnFrom_55 : decode b_Sea_learnFrom 55 = .ok (.iconst 1, 1) := by decide +kernel
theorem d_Sea_learnFrom_56 : decode b_Sea_learnFrom 56 = .ok (.ishr, 1) := by decide +kernel
theorem d_Sea_learnFrom_57 : decode b_Sea_learnFrom 57 = .ok (.invokevirtual 155, 3) := by decide +kernel
theorem d_Sea_learnFrom_60 : decode b_Sea_learnFrom 60 = .ok (.invokevirtual 158, 3) := by decide +kernel
theorem d_Sea_learnFrom_63 : decode b_Sea_learnFrom 63 = .ok (.aload_n 0, 1) := by decide +kernel
theorem d_Sea_learnFrom_64 : decode b_Sea_learnFrom 64 = .ok (.getfield 19, 3) := by decide +kernel
theorem d_Sea_learnFrom_67 : decode b_Sea_learnFrom 67 = .ok (.iload_n 2, 1) := by decide +kernel
theorem d_Sea_learnFrom_68 : decode b_Sea_learnFrom 68 = .ok (.aload_n 0, 1) := by decide +kernel
theorem d_Sea_learnFrom_69 : decode b_Sea_learnFrom 69 = .ok (.getfield 15, 3) := by decide +kernel
theorem d_Sea_learnFrom_72 : decode b_Sea_learnFrom 72 = .ok (.getfield 161, 3) := by decide +kernel
theorem d_Sea_learnFrom_75 : decode b_Sea_learnFrom 75 = .ok (.iconst 1, 1) := by decide +kernel
theorem d_Sea_learnFrom_76 : decode b_Sea_learnFrom 76 = .ok (.isub, 1) := by decide +kernel
theorem d_Sea_learnFrom_77 : decode b_Sea_learnFrom 77 = .ok (.invokevirtual 125, 3) := by decide +kernel
theorem d_Sea_learnFrom_80 : decode b_Sea_learnFrom 80 = .ok (.iconst 4, 1) := by decide +kernel
theorem d_Sea_learnFrom_81 : decode b_Sea_learnFrom 81 = .ok (.ireturn, 1) := by decide +kernel
theorem d_Tal_leastUnit_0 : decode b_Tal_leastUnit 0 = .ok (.aload_n 0, 1) := by decide +kernel
theorem d_Tal_leastUnit_1 : decode b_Tal_leastUnit 1 = .ok (.getfield 19, 3) := by decide +kernel
theorem d_Tal_leastUnit_4 : decode b_Tal_leastUnit 4 = .ok (.invokestatic 58, 3) := by decide +kernel
theorem d_Tal_leastUnit_7 : decode b_Tal_leastUnit 7 = .ok (.ireturn, 1) := by decide +kernel
theorem d_Tra_has_0 : decode b_Tra_has 0 = .ok (.aload_n 0, 1) := by decide +kernel
theorem d_Tra_has_1 : decode b_Tra_has 1 = .ok (.getfield 26, 3) := by decide +kernel
theorem d_Tra_has_4 : decode b_Tra_has 4 = .ok (.iload_n 1, 1) := by decide +kernel
theorem d_Tra_has_5 : decode b_Tra_has 5 = .ok (.iaload, 1) := by decide +kernel
theorem d_Tra_has_6 : decode b_Tra_has 6 = .ok (.iconst (-1), 1) := by decide +kernel
theorem d_Tra_has_7 : decode b_Tra_has 7 = .ok (.if_icmp .eq 7, 3) := by decide +kernel
theorem d_Tra_has_10 : decode b_Tra_has 10 = .ok (.iconst 1, 1) := by decide +kernel
theorem d_Tra_has_11 : decode b_Tra_has 11 = .ok (.goto 4, 3) := by decide +kernel
theorem d_Tra_has_14 : decode b_Tra_has 14 = .ok (.iconst 0, 1) := by decide +kernel
theorem d_Tra_has_15 : decode b_Tra_has 15 = .ok (.ireturn, 1) := by decide +kernel
theorem d_Sea_follow_0 : decode b_Sea_follow 0 = .ok (.aload_n 0, 1) := by decide +kernel
theorem d_Sea_follow_1 : decode b_Sea_follow 1 = .ok (.getfield 15, 3) := by decide +kernel
theorem d_Sea_follow_4 : decode b_Sea_follow 4 = .ok (.iload_n 1, 1) := by decide +kernel
theorem d_Sea_follow_5 : decode b_Sea_follow 5 = .ok (.invokevirtual 113, 3) := by decide +kernel
theorem d_Sea_follow_8 : decode b_Sea_follow 8 = .ok (.istore_n 2, 1) := by decide +kernel
theorem d_Sea_follow_9 : decode b_Sea_follow 9 = .ok (.aload_n 0, 1) := by decide +kernel
theorem d_Sea_follow_10 : decode b_Sea_follow 10 = .ok (.getfield 15, 3) := by decide +kernel
theorem d_Sea_follow_13 : decode b_Sea_follow 13 = .ok (.iload_n 1, 1) := by decide +kernel
theorem d_Sea_follow_14 : decode b_Sea_follow 14 = .ok (.invokevirtual 118, 3) := by decide +kernel
theorem d_Sea_follow_17 : decode b_Sea_follow 17 = .ok (.istore_n 3, 1) := by decide +kernel
theorem d_Sea_follow_18 : decode b_Sea_follow 18 = .ok (.iload_n 3, 1) := by decide +kernel
theorem d_Sea_follow_19 : decode b_Sea_follow 19 = .ok (.iload_n 2, 1) := by decide +kernel
theorem d_Sea_follow_20 : decode b_Sea_follow 20 = .ok (.if_icmp .ge 46, 3) := by decide +kernel
theorem d_Sea_follow_23 : decode b_Sea_follow 23 = .ok (.aload_n 0, 1) := by decide +kernel
theorem d_Sea_follow_24 : decode b_Sea_follow 24 = .ok (.getfield 15, 3) := by decide +kernel
theorem d_Sea_follow_27 : decode b_Sea_follow 27 = .ok (.getfield 121, 3) := by decide +kernel
theorem d_Sea_follow_30 : decode b_Sea_follow 30 = .ok (.iload_n 3, 1) := by decide +kernel
theorem d_Sea_follow_31 : decode b_Sea_follow 31 = .ok (.iaload, 1) := by decide +kernel
theorem d_Sea_follow_32 : decode b_Sea_follow 32 = .ok (.istore 4, 2) := by decide +kernel
theorem d_Sea_follow_34 : decode b_Sea_follow 34 = .ok (.aload_n 0, 1) := by decide +kernel
theorem d_Sea_follow_35 : decode b_Sea_follow 35 = .ok (.getfield 19, 3) := by decide +kernel
theorem d_Sea_follow_38 : decode b_Sea_follow 38 = .ok (.iload 4, 2) := by decide +kernel
theorem d_Sea_follow_40 : decode b_Sea_follow 40 = .ok (.iconst 1, 1) := by decide +kernel
theorem d_Sea_follow_41 : decode b_Sea_follow 41 = .ok (.ishr, 1) := by decide +kernel
theorem d_Sea_follow_42 : decode b_Sea_follow 42 = .ok (.invokevirtual 122, 3) := by decide +kernel
theorem d_Sea_follow_45 : decode b_Sea_follow 45 = .ok (.ifCond .ne 15, 3) := by decide +kernel
theorem d_Sea_follow_48 : decode b_Sea_follow 48 = .ok (.aload_n 0, 1) := by decide +kernel
theorem d_Sea_follow_49 : decode b_Sea_follow 49 = .ok (.getfield 19, 3) := by decide +kernel
theorem d_Sea_follow_52 : decode b_Sea_follow 52 = .ok (.iload 4, 2) := by decide +kernel
theorem d_Sea_follow_54 : decode b_Sea_follow 54 = .ok (.iload_n 1, 1) := by decide +kernel
theorem d_Sea_follow_55 : decode b_Sea_follow 55 = .ok (.invokevirtual 125, 3) := by decide +kernel
theorem d_Sea_follow_58 : decode b_Sea_follow 58 = .ok (.iconst 4, 1) := by decide +kernel
theorem d_Sea_follow_59 : decode b_Sea_follow 59 = .ok (.ireturn, 1) := by decide +kernel
theorem d_Sea_follow_60 : decode b_Sea_follow 60 = .ok (.iinc 3 1, 3) := by decide +kernel
theorem d_Sea_follow_63 : decode b_Sea_follow 63 = .ok (.goto (-45), 3) := by decide +kernel
theorem d_Sea_follow_66 : decode b_Sea_follow 66 = .ok (.iconst 4, 1) := by decide +kernel
theorem d_Sea_follow_67 : decode b_Sea_follow 67 = .ok (.ireturn, 1) := by decide +kernel
theorem d_Tra_holds_0 : decode b_Tra_holds 0 = .ok (.aload_n 0, 1) := by decide +kernel
theorem d_Tra_holds_1 : decode b_Tra_holds 1 = .ok (.getfield 26, 3) := by decide +kernel
theorem d_Tra_holds_4 : decode b_Tra_holds 4 = .ok (.iload_n 1, 1) := by decide +kernel
theorem d_Tra_holds_5 : decode b_Tra_holds 5 = .ok (.iconst 1, 1) := by decide +kernel
theorem d_Tra_holds_6 : decode b_Tra_holds 6 = .ok (.ishr, 1) := by decide +kernel
theorem d_Tra_holds_7 : decode b_Tra_holds 7 = .ok (.iaload, 1) := by decide +kernel
theorem d_Tra_holds_8 : decode b_Tra_holds 8 = .ok (.iload_n 1, 1) := by decide +kernel
theorem d_Tra_holds_9 : decode b_Tra_holds 9 = .ok (.if_icmp .ne 7, 3) := by decide +kernel
theorem d_Tra_holds_12 : decode b_Tra_holds 12 = .ok (.iconst 1, 1) := by decide +kernel
theorem d_Tra_holds_13 : decode b_Tra_holds 13 = .ok (.goto 4, 3) := by decide +kernel
theorem d_Tra_holds_16 : decode b_Tra_holds 16 = .ok (.iconst 0, 1) := by decide +kernel
theorem d_Tra_holds_17 : decode b_Tra_holds 17 = .ok (.ireturn, 1) := by decide +kernel
theorem d_Sea_firstPendingAssumption_0 : decode b_Sea_firstPendingAssumption 0 = .ok (.iconst 0, 1) := by decide +kernel
theorem d_Sea_firstPendingAssumption_1 : decode b_Sea_firstPendingAssumption 1 = .ok (.istore_n 1, 1) := by decide +kernel
theorem d_Sea_firstPendingAssumption_2 : decode b_Sea_firstPendingAssumption 2 = .ok (.iload_n 1, 1) := by decide +kernel
theorem d_Sea_firstPendingAssumption_3 : decode b_Sea_firstPendingAssumption 3 = .ok (.aload_n 0, 1) := by decide +kernel
theorem d_Sea_firstPendingAssumption_4 : decode b_Sea_firstPendingAssumption 4 = .ok (.getfield 27, 3) := by decide +kernel
theorem d_Sea_firstPendingAssumption_7 : decode b_Sea_firstPendingAssumption 7 = .ok (.getfield 129, 3) := by decide +kernel
theorem d_Sea_firstPendingAssumption_10 : decode b_Sea_firstPendingAssumption 10 = .ok (.if_icmp .ge 30, 3) := by decide +kernel
theorem d_Sea_firstPendingAssumption_13 : decode b_Sea_firstPendingAssumption 13 = .ok (.aload_n 0, 1) := by decide +kernel
theorem d_Sea_firstPendingAssumption_14 : decode b_Sea_firstPendingAssumption 14 = .ok (.getfield 19, 3) := by decide +kernel
theorem d_Sea_firstPendingAssumption_17 : decode b_Sea_firstPendingAssumption 17 = .ok (.aload_n 0, 1) := by decide +kernel
theorem d_Sea_firstPendingAssumption_18 : decode b_Sea_firstPendingAssumption 18 = .ok (.getfield 27, 3) := by decide +kernel
theorem d_Sea_firstPendingAssumption_21 : decode b_Sea_firstPendingAssumption 21 = .ok (.getfield 91, 3) := by decide +kernel
theorem d_Sea_firstPendingAssumption_24 : decode b_Sea_firstPendingAssumption 24 = .ok (.iload_n 1, 1) := by decide +kernel
theorem d_Sea_firstPendingAssumption_25 : decode b_Sea_firstPendingAssumption 25 = .ok (.iaload, 1) := by decide +kernel
theorem d_Sea_firstPendingAssumption_26 : decode b_Sea_firstPendingAssumption 26 = .ok (.invokevirtual 96, 3) := by decide +kernel
theorem d_Sea_firstPendingAssumption_29 : decode b_Sea_firstPendingAssumption 29 = .ok (.ifCond .ne 5, 3) := by decide +kernel
theorem d_Sea_firstPendingAssumption_32 : decode b_Sea_firstPendingAssumption 32 = .ok (.iload_n 1, 1) := by decide +kernel
theorem d_Sea_firstPendingAssumption_33 : decode b_Sea_firstPendingAssumption 33 = .ok (.ireturn, 1) := by decide +kernel
theorem d_Sea_firstPendingAssumption_34 : decode b_Sea_firstPendingAssumption 34 = .ok (.iinc 1 1, 3) := by decide +kernel
theorem d_Sea_firstPendingAssumption_37 : decode b_Sea_firstPendingAssumption 37 = .ok (.goto (-35), 3) := by decide +kernel
theorem d_Sea_firstPendingAssumption_40 : decode b_Sea_firstPendingAssumption 40 = .ok (.iconst (-1), 1) := by decide +kernel
theorem d_Sea_firstPendingAssumption_41 : decode b_Sea_firstPendingAssumption 41 = .ok (.ireturn, 1) := by decide +kernel
theorem d_Sea_findCore_0 : decode b_Sea_findCore 0 = .ok (.aload_n 0, 1) := by decide +kernel
theorem d_Sea_findCore_1 : decode b_Sea_findCore 1 = .ok (.getfield 31, 3) := by decide +kernel
theorem d_Sea_findCore_4 : decode b_Sea_findCore 4 = .ok (.iconst 0, 1) := by decide +kernel
theorem d_Sea_findCore_5 : decode b_Sea_findCore 5 = .ok (.invokestatic 164, 3) := by decide +kernel
theorem d_Sea_findCore_8 : decode b_Sea_findCore 8 = .ok (.aload_n 0, 1) := by decide +kernel
theorem d_Sea_findCore_9 : decode b_Sea_findCore 9 = .ok (.getfield 31, 3) := by decide +kernel
theorem d_Sea_findCore_12 : decode b_Sea_findCore 12 = .ok (.aload_n 0, 1) := by decide +kernel
theorem d_Sea_findCore_13 : decode b_Sea_findCore 13 = .ok (.getfield 27, 3) := by decide +kernel
theorem d_Sea_findCore_16 : decode b_Sea_findCore 16 = .ok (.getfield 91, 3) := by decide +kernel
theorem d_Sea_findCore_19 : decode b_Sea_findCore 19 = .ok (.iload_n 1, 1) := by decide +kernel
theorem d_Sea_findCore_20 : decode b_Sea_findCore 20 = .ok (.iaload, 1) := by decide +kernel
theorem d_Sea_findCore_21 : decode b_Sea_findCore 21 = .ok (.iconst 1, 1) := by decide +kernel
theorem d_Sea_findCore_22 : decode b_Sea_findCore 22 = .ok (.ishr, 1) := by decide +kernel
theorem d_Sea_findCore_23 : decode b_Sea_findCore 23 = .ok (.iconst 1, 1) := by decide +kernel
theorem d_Sea_findCore_24 : decode b_Sea_findCore 24 = .ok (.iastore, 1) := by decide +kernel
theorem d_Sea_findCore_25 : decode b_Sea_findCore 25 = .ok (.aload_n 0, 1) := by decide +kernel
theorem d_Sea_findCore_26 : decode b_Sea_findCore 26 = .ok (.getfield 19, 3) := by decide +kernel
theorem d_Sea_findCore_29 : decode b_Sea_findCore 29 = .ok (.getfield 174, 3) := by decide +kernel
theorem d_Sea_findCore_32 : decode b_Sea_findCore 32 = .ok (.iconst 1, 1) := by decide +kernel
theorem d_Sea_findCore_33 : decode b_Sea_findCore 33 = .ok (.isub, 1) := by decide +kernel
theorem d_Sea_findCore_34 : decode b_Sea_findCore 34 = .ok (.istore_n 2, 1) := by decide +kernel
theorem d_Sea_findCore_35 : decode b_Sea_findCore 35 = .ok (.iload_n 2, 1) := by decide +kernel
theorem d_Sea_findCore_36 : decode b_Sea_findCore 36 = .ok (.ifCond .lt 56, 3) := by decide +kernel
theorem d_Sea_findCore_39 : decode b_Sea_findCore 39 = .ok (.aload_n 0, 1) := by decide +kernel
theorem d_Sea_findCore_40 : decode b_Sea_findCore 40 = .ok (.getfield 19, 3) := by decide +kernel
theorem d_Sea_findCore_43 : decode b_Sea_findCore 43 = .ok (.getfield 177, 3) := by decide +kernel
theorem d_Sea_findCore_46 : decode b_Sea_findCore 46 = .ok (.iload_n 2, 1) := by decide +kernel
theorem d_Sea_findCore_47 : decode b_Sea_findCore 47 = .ok (.iaload, 1) := by decide +kernel
theorem d_Sea_findCore_48 : decode b_Sea_findCore 48 = .ok (.iconst 1, 1) := by decide +kernel
theorem d_Sea_findCore_49 : decode b_Sea_findCore 49 = .ok (.ishr, 1) := by decide +kernel
theorem d_Sea_findCore_50 : decode b_Sea_findCore 50 = .ok (.istore_n 3, 1) := by decide +kernel
theorem d_Sea_findCore_51 : decode b_Sea_findCore 51 = .ok (.aload_n 0, 1) := by decide +kernel
theorem d_Sea_findCore_52 : decode b_Sea_findCore 52 = .ok (.getfield 31, 3) := by decide +kernel
theorem d_Sea_findCore_55 : decode b_Sea_findCore 55 = .ok (.iload_n 3, 1) := by decide +kernel
theorem d_Sea_findCore_56 : decode b_Sea_findCore 56 = .ok (.iaload, 1) := by decide +kernel
theorem d_Sea_findCore_57 : decode b_Sea_findCore 57 = .ok (.iconst 1, 1) := by decide +kernel
theorem d_Sea_findCore_58 : decode b_Sea_findCore 58 = .ok (.if_icmp .ne 28, 3) := by decide +kernel
theorem d_Sea_findCore_61 : decode b_Sea_findCore 61 = .ok (.aload_n 0, 1) := by decide +kernel
theorem d_Sea_findCore_62 : decode b_Sea_findCore 62 = .ok (.getfield 19, 3) := by decide +kernel
theorem d_Sea_findCore_65 : decode b_Sea_findCore 65 = .ok (.iload_n 3, 1) := by decide +kernel
theorem d_Sea_findCore_66 : decode b_Sea_findCore 66 = .ok (.invokevirtual 178, 3) := by decide +kernel
theorem d_Sea_findCore_69 : decode b_Sea_findCore 69 = .ok (.ifCond .lt 17, 3) := by decide +kernel
theorem d_Sea_findCore_72 : decode b_Sea_findCore 72 = .ok (.aload_n 0, 1) := by decide +kernel
theorem d_Sea_findCore_73 : decode b_Sea_findCore 73 = .ok (.aload_n 0, 1) := by decide +kernel
theorem d_Sea_findCore_74 : decode b_Sea_findCore 74 = .ok (.getfield 19, 3) := by decide +kernel
theorem d_Sea_findCore_77 : decode b_Sea_findCore 77 = .ok (.iload_n 3, 1) := by decide +kernel
theorem d_Sea_findCore_78 : decode b_Sea_findCore 78 = .ok (.invokevirtual 178, 3) := by decide +kernel
theorem d_Sea_findCore_81 : decode b_Sea_findCore 81 = .ok (.iload_n 3, 1) := by decide +kernel
theorem d_Sea_findCore_82 : decode b_Sea_findCore 82 = .ok (.invokevirtual 170, 3) := by decide +kernel
theorem d_Sea_findCore_85 : decode b_Sea_findCore 85 = .ok (.pop, 1) := by decide +kernel
theorem d_Sea_findCore_86 : decode b_Sea_findCore 86 = .ok (.iinc 2 (-1), 3) := by decide +kernel
theorem d_Sea_findCore_89 : decode b_Sea_findCore 89 = .ok (.goto (-54), 3) := by decide +kernel
theorem d_Sea_findCore_92 : decode b_Sea_findCore 92 = .ok (.aload_n 0, 1) := by decide +kernel
theorem d_Sea_findCore_93 : decode b_Sea_findCore 93 = .ok (.iconst 0, 1) := by decide +kernel
theorem d_Sea_findCore_94 : decode b_Sea_findCore 94 = .ok (.putfield 38, 3) := by decide +kernel
theorem d_Sea_findCore_97 : decode b_Sea_findCore 97 = .ok (.iconst 0, 1) := by decide +kernel
theorem d_Sea_findCore_98 : decode b_Sea_findCore 98 = .ok (.istore_n 2, 1) := by decide +kernel
theorem d_Sea_findCore_99 : decode b_Sea_findCore 99 = .ok (.iload_n 2, 1) := by decide +kernel
theorem d_Sea_findCore_100 : decode b_Sea_findCore 100 = .ok (.aload_n 0, 1) := by decide +kernel
theorem d_Sea_findCore_101 : decode b_Sea_findCore 101 = .ok (.getfield 27, 3) := by decide +kernel
theorem d_Sea_findCore_104 : decode b_Sea_findCore 104 = .ok (.getfield 129, 3) := by decide +kernel
theorem d_Sea_findCore_107 : decode b_Sea_findCore 107 = .ok (.if_icmp .ge 75, 3) := by decide +kernel
theorem d_Sea_findCore_110 : decode b_Sea_findCore 110 = .ok (.aload_n 0, 1) := by decide +kernel
theorem d_Sea_findCore_111 : decode b_Sea_findCore 111 = .ok (.getfield 27, 3) := by decide +kernel
theorem d_Sea_findCore_114 : decode b_Sea_findCore 114 = .ok (.getfield 91, 3) := by decide +kernel
theorem d_Sea_findCore_117 : decode b_Sea_findCore 117 = .ok (.iload_n 2, 1) := by decide +kernel
theorem d_Sea_findCore_118 : decode b_Sea_findCore 118 = .ok (.iaload, 1) := by decide +kernel
theorem d_Sea_findCore_119 : decode b_Sea_findCore 119 = .ok (.iconst 1, 1) := by decide +kernel
theorem d_Sea_findCore_120 : decode b_Sea_findCore 120 = .ok (.ishr, 1) := by decide +kernel
theorem d_Sea_findCore_121 : decode b_Sea_findCore 121 = .ok (.istore_n 3, 1) := by decide +kernel
theorem d_Sea_findCore_122 : decode b_Sea_findCore 122 = .ok (.iload_n 2, 1) := by decide +kernel
theorem d_Sea_findCore_123 : decode b_Sea_findCore 123 = .ok (.iload_n 1, 1) := by decide +kernel
theorem d_Sea_findCore_124 : decode b_Sea_findCore 124 = .ok (.if_icmp .eq 24, 3) := by decide +kernel
theorem d_Sea_findCore_127 : decode b_Sea_findCore 127 = .ok (.aload_n 0, 1) := by decide +kernel
theorem d_Sea_findCore_128 : decode b_Sea_findCore 128 = .ok (.getfield 31, 3) := by decide +kernel
theorem d_Sea_findCore_131 : decode b_Sea_findCore 131 = .ok (.iload_n 3, 1) := by decide +kernel
theorem d_Sea_findCore_132 : decode b_Sea_findCore 132 = .ok (.iaload, 1) := by decide +kernel
theorem d_Sea_findCore_133 : decode b_Sea_findCore 133 = .ok (.iconst 1, 1) := by decide +kernel
theorem d_Sea_findCore_134 : decode b_Sea_findCore 134 = .ok (.if_icmp .ne 42, 3) := by decide +kernel
theorem d_Sea_findCore_137 : decode b_Sea_findCore 137 = .ok (.aload_n 0, 1) := by decide +kernel
theorem d_Sea_findCore_138 : decode b_Sea_findCore 138 = .ok (.getfield 19, 3) := by decide +kernel
theorem d_Sea_findCore_141 : decode b_Sea_findCore 141 = .ok (.iload_n 3, 1) := by decide +kernel
theorem d_Sea_findCore_142 : decode b_Sea_findCore 142 = .ok (.invokevirtual 178, 3) := by decide +kernel
theorem d_Sea_findCore_145 : decode b_Sea_findCore 145 = .ok (.ifCond .ge 31, 3) := by decide +kernel
theorem d_Sea_findCore_148 : decode b_Sea_findCore 148 = .ok (.aload_n 0, 1) := by decide +kernel
theorem d_Sea_findCore_149 : decode b_Sea_findCore 149 = .ok (.getfield 35, 3) := by decide +kernel
theorem d_Sea_findCore_152 : decode b_Sea_findCore 152 = .ok (.aload_n 0, 1) := by decide +kernel
theorem d_Sea_findCore_153 : decode b_Sea_findCore 153 = .ok (.getfield 38, 3) := by decide +kernel
theorem d_Sea_findCore_156 : decode b_Sea_findCore 156 = .ok (.aload_n 0, 1) := by decide +kernel
theorem d_Sea_findCore_157 : decode b_Sea_findCore 157 = .ok (.getfield 27, 3) := by decide +kernel
theorem d_Sea_findCore_160 : decode b_Sea_findCore 160 = .ok (.getfield 91, 3) := by decide +kernel
theorem d_Sea_findCore_163 : decode b_Sea_findCore 163 = .ok (.iload_n 2, 1) := by decide +kernel
theorem d_Sea_findCore_164 : decode b_Sea_findCore 164 = .ok (.iaload, 1) := by decide +kernel
theorem d_Sea_findCore_165 : decode b_Sea_findCore 165 = .ok (.iastore, 1) := by decide +kernel
theorem d_Sea_findCore_166 : decode b_Sea_findCore 166 = .ok (.aload_n 0, 1) := by decide +kernel
theorem d_Sea_findCore_167 : decode b_Sea_findCore 167 = .ok (.dup, 1) := by decide +kernel
theorem d_Sea_findCore_168 : decode b_Sea_findCore 168 = .ok (.getfield 38, 3) := by decide +kernel
theorem d_Sea_findCore_171 : decode b_Sea_findCore 171 = .ok (.iconst 1, 1) := by decide +kernel
theorem d_Sea_findCore_172 : decode b_Sea_findCore 172 = .ok (.iadd, 1) := by decide +kernel
theorem d_Sea_findCore_173 : decode b_Sea_findCore 173 = .ok (.putfield 38, 3) := by decide +kernel
theorem d_Sea_findCore_176 : decode b_Sea_findCore 176 = .ok (.iinc 2 1, 3) := by decide +kernel
theorem d_Sea_findCore_179 : decode b_Sea_findCore 179 = .ok (.goto (-80), 3) := by decide +kernel
theorem d_Sea_findCore_182 : decode b_Sea_findCore 182 = .ok (.return_, 1) := by decide +kernel
theorem d_Sea_failBy_0 : decode b_Sea_failBy 0 = .ok (.aload_n 0, 1) := by decide +kernel
theorem d_Sea_failBy_1 : decode b_Sea_failBy 1 = .ok (.iload_n 1, 1) := by decide +kernel
theorem d_Sea_failBy_2 : decode b_Sea_failBy 2 = .ok (.invokevirtual 132, 3) := by decide +kernel
theorem d_Sea_failBy_5 : decode b_Sea_failBy 5 = .ok (.iconst 2, 1) := by decide +kernel
theorem d_Sea_failBy_6 : decode b_Sea_failBy 6 = .ok (.ireturn, 1) := by decide +kernel
theorem d_Sea_decide_0 : decode b_Sea_decide 0 = .ok (.aload_n 0, 1) := by decide +kernel
theorem d_Sea_decide_1 : decode b_Sea_decide 1 = .ok (.getfield 51, 3) := by decide +kernel
theorem d_Sea_decide_4 : decode b_Sea_decide 4 = .ok (.lconst 0, 1) := by decide +kernel
theorem d_Sea_decide_5 : decode b_Sea_decide 5 = .ok (.lcmp, 1) := by decide +kernel
theorem d_Sea_decide_6 : decode b_Sea_decide 6 = .ok (.ifCond .gt 5, 3) := by decide +kernel
theorem d_Sea_decide_9 : decode b_Sea_decide 9 = .ok (.iconst 3, 1) := by decide +kernel
theorem d_Sea_decide_10 : decode b_Sea_decide 10 = .ok (.ireturn, 1) := by decide +kernel
theorem d_Sea_decide_11 : decode b_Sea_decide 11 = .ok (.aload_n 0, 1) := by decide +kernel
theorem d_Sea_decide_12 : decode b_Sea_decide 12 = .ok (.invokevirtual 136, 3) := by decide +kernel
theorem d_Sea_decide_15 : decode b_Sea_decide 15 = .ok (.aload_n 0, 1) := by decide +kernel
theorem d_Sea_decide_16 : decode b_Sea_decide 16 = .ok (.getfield 19, 3) := by decide +kernel
theorem d_Sea_decide_19 : decode b_Sea_decide 19 = .ok (.dup, 1) := by decide +kernel
theorem d_Sea_decide_20 : decode b_Sea_decide 20 = .ok (.getfield 75, 3) := by decide +kernel
theorem d_Sea_decide_23 : decode b_Sea_decide 23 = .ok (.iconst 1, 1) := by decide +kernel
theorem d_Sea_decide_24 : decode b_Sea_decide 24 = .ok (.iadd, 1) := by decide +kernel
theorem d_Sea_decide_25 : decode b_Sea_decide 25 = .ok (.putfield 75, 3) := by decide +kernel
theorem d_Sea_decide_28 : decode b_Sea_decide 28 = .ok (.aload_n 0, 1) := by decide +kernel
theorem d_Sea_decide_29 : decode b_Sea_decide 29 = .ok (.getfield 19, 3) := by decide +kernel
theorem d_Sea_decide_32 : decode b_Sea_decide 32 = .ok (.iload_n 1, 1) := by decide +kernel
theorem d_Sea_decide_33 : decode b_Sea_decide 33 = .ok (.iconst (-1), 1) := by decide +kernel
theorem d_Sea_decide_34 : decode b_Sea_decide 34 = .ok (.invokevirtual 125, 3) := by decide +kernel
theorem d_Sea_decide_37 : decode b_Sea_decide 37 = .ok (.iconst 4, 1) := by decide +kernel
theorem d_Sea_decide_38 : decode b_Sea_decide 38 = .ok (.ireturn, 1) := by decide +kernel
theorem d_Tra_leastAbsent_0 : decode b_Tra_leastAbsent 0 = .ok (.iconst 0, 1) := by decide +kernel
theorem d_Tra_leastAbsent_1 : decode b_Tra_leastAbsent 1 = .ok (.istore_n 1, 1) := by decide +kernel
theorem d_Tra_leastAbsent_2 : decode b_Tra_leastAbsent 2 = .ok (.iload_n 1, 1) := by decide +kernel
theorem d_Tra_leastAbsent_3 : decode b_Tra_leastAbsent 3 = .ok (.aload_n 0, 1) := by decide +kernel
theorem d_Tra_leastAbsent_4 : decode b_Tra_leastAbsent 4 = .ok (.getfield 26, 3) := by decide +kernel
theorem d_Tra_leastAbsent_7 : decode b_Tra_leastAbsent 7 = .ok (.arraylength, 1) := by decide +kernel
theorem d_Tra_leastAbsent_8 : decode b_Tra_leastAbsent 8 = .ok (.if_icmp .ge 21, 3) := by decide +kernel
theorem d_Tra_leastAbsent_11 : decode b_Tra_leastAbsent 11 = .ok (.aload_n 0, 1) := by decide +kernel
theorem d_Tra_leastAbsent_12 : decode b_Tra_leastAbsent 12 = .ok (.getfield 26, 3) := by decide +kernel
theorem d_Tra_leastAbsent_15 : decode b_Tra_leastAbsent 15 = .ok (.iload_n 1, 1) := by decide +kernel
theorem d_Tra_leastAbsent_16 : decode b_Tra_leastAbsent 16 = .ok (.iaload, 1) := by decide +kernel
theorem d_Tra_leastAbsent_17 : decode b_Tra_leastAbsent 17 = .ok (.iconst (-1), 1) := by decide +kernel
theorem d_Tra_leastAbsent_18 : decode b_Tra_leastAbsent 18 = .ok (.if_icmp .ne 5, 3) := by decide +kernel
theorem d_Tra_leastAbsent_21 : decode b_Tra_leastAbsent 21 = .ok (.iload_n 1, 1) := by decide +kernel
theorem d_Tra_leastAbsent_22 : decode b_Tra_leastAbsent 22 = .ok (.ireturn, 1) := by decide +kernel
theorem d_Tra_leastAbsent_23 : decode b_Tra_leastAbsent 23 = .ok (.iinc 1 1, 3) := by decide +kernel
theorem d_Tra_leastAbsent_26 : decode b_Tra_leastAbsent 26 = .ok (.goto (-24), 3) := by decide +kernel
theorem d_Tra_leastAbsent_29 : decode b_Tra_leastAbsent 29 = .ok (.iconst (-1), 1) := by decide +kernel
theorem d_Tra_leastAbsent_30 : decode b_Tra_leastAbsent 30 = .ok (.ireturn, 1) := by decide +kernel
theorem d_Sea_takeTurn_0 : decode b_Sea_takeTurn 0 = .ok (.aload_n 0, 1) := by decide +kernel
theorem d_Sea_takeTurn_1 : decode b_Sea_takeTurn 1 = .ok (.getfield 23, 3) := by decide +kernel
theorem d_Sea_takeTurn_4 : decode b_Sea_takeTurn 4 = .ok (.invokevirtual 70, 3) := by decide +kernel
theorem d_Sea_takeTurn_7 : decode b_Sea_takeTurn 7 = .ok (.istore_n 1, 1) := by decide +kernel
theorem d_Sea_takeTurn_8 : decode b_Sea_takeTurn 8 = .ok (.iload_n 1, 1) := by decide +kernel
theorem d_Sea_takeTurn_9 : decode b_Sea_takeTurn 9 = .ok (.ifCond .lt 23, 3) := by decide +kernel
theorem d_Sea_takeTurn_12 : decode b_Sea_takeTurn 12 = .ok (.aload_n 0, 1) := by decide +kernel
theorem d_Sea_takeTurn_13 : decode b_Sea_takeTurn 13 = .ok (.getfield 19, 3) := by decide +kernel
theorem d_Sea_takeTurn_16 : decode b_Sea_takeTurn 16 = .ok (.getfield 75, 3) := by decide +kernel
theorem d_Sea_takeTurn_19 : decode b_Sea_takeTurn 19 = .ok (.ifCond .ne 7, 3) := by decide +kernel
theorem d_Sea_takeTurn_22 : decode b_Sea_takeTurn 22 = .ok (.iconst 2, 1) := by decide +kernel
theorem d_Sea_takeTurn_23 : decode b_Sea_takeTurn 23 = .ok (.goto 8, 3) := by decide +kernel
theorem d_Sea_takeTurn_26 : decode b_Sea_takeTurn 26 = .ok (.aload_n 0, 1) := by decide +kernel
theorem d_Sea_takeTurn_27 : decode b_Sea_takeTurn 27 = .ok (.iload_n 1, 1) := by decide +kernel
theorem d_Sea_takeTurn_28 : decode b_Sea_takeTurn 28 = .ok (.invokevirtual 78, 3) := by decide +kernel
theorem d_Sea_takeTurn_31 : decode b_Sea_takeTurn 31 = .ok (.ireturn, 1) := by decide +kernel
theorem d_Sea_takeTurn_32 : decode b_Sea_takeTurn 32 = .ok (.aload_n 0, 1) := by decide +kernel
theorem d_Sea_takeTurn_33 : decode b_Sea_takeTurn 33 = .ok (.getfield 23, 3) := by decide +kernel
theorem d_Sea_takeTurn_36 : decode b_Sea_takeTurn 36 = .ok (.invokevirtual 82, 3) := by decide +kernel
theorem d_Sea_takeTurn_39 : decode b_Sea_takeTurn 39 = .ok (.istore_n 2, 1) := by decide +kernel
theorem d_Sea_takeTurn_40 : decode b_Sea_takeTurn 40 = .ok (.iload_n 2, 1) := by decide +kernel
theorem d_Sea_takeTurn_41 : decode b_Sea_takeTurn 41 = .ok (.ifCond .lt 9, 3) := by decide +kernel
theorem d_Sea_takeTurn_44 : decode b_Sea_takeTurn 44 = .ok (.aload_n 0, 1) := by decide +kernel
theorem d_Sea_takeTurn_45 : decode b_Sea_takeTurn 45 = .ok (.iload_n 2, 1) := by decide +kernel
theorem d_Sea_takeTurn_46 : decode b_Sea_takeTurn 46 = .ok (.invokevirtual 85, 3) := by decide +kernel
theorem d_Sea_takeTurn_49 : decode b_Sea_takeTurn 49 = .ok (.ireturn, 1) := by decide +kernel
theorem d_Sea_takeTurn_50 : decode b_Sea_takeTurn 50 = .ok (.aload_n 0, 1) := by decide +kernel
theorem d_Sea_takeTurn_51 : decode b_Sea_takeTurn 51 = .ok (.invokevirtual 88, 3) := by decide +kernel
theorem d_Sea_takeTurn_54 : decode b_Sea_takeTurn 54 = .ok (.istore_n 3, 1) := by decide +kernel
theorem d_Sea_takeTurn_55 : decode b_Sea_takeTurn 55 = .ok (.iload_n 3, 1) := by decide +kernel
theorem d_Sea_takeTurn_56 : decode b_Sea_takeTurn 56 = .ok (.ifCond .lt 43, 3) := by decide +kernel
theorem d_Sea_takeTurn_59 : decode b_Sea_takeTurn 59 = .ok (.aload_n 0, 1) := by decide +kernel
theorem d_Sea_takeTurn_60 : decode b_Sea_takeTurn 60 = .ok (.getfield 27, 3) := by decide +kernel
theorem d_Sea_takeTurn_63 : decode b_Sea_takeTurn 63 = .ok (.getfield 91, 3) := by decide +kernel
theorem d_Sea_takeTurn_66 : decode b_Sea_takeTurn 66 = .ok (.iload_n 3, 1) := by decide +kernel
theorem d_Sea_takeTurn_67 : decode b_Sea_takeTurn 67 = .ok (.iaload, 1) := by decide +kernel
theorem d_Sea_takeTurn_68 : decode b_Sea_takeTurn 68 = .ok (.istore 4, 2) := by decide +kernel
theorem d_Sea_takeTurn_70 : decode b_Sea_takeTurn 70 = .ok (.aload_n 0, 1) := by decide +kernel
theorem d_Sea_takeTurn_71 : decode b_Sea_takeTurn 71 = .ok (.getfield 19, 3) := by decide +kernel
theorem d_Sea_takeTurn_74 : decode b_Sea_takeTurn 74 = .ok (.iload 4, 2) := by decide +kernel
theorem d_Sea_takeTurn_76 : decode b_Sea_takeTurn 76 = .ok (.iconst 1, 1) := by decide +kernel
theorem d_Sea_takeTurn_77 : decode b_Sea_takeTurn 77 = .ok (.ixor, 1) := by decide +kernel
theorem d_Sea_takeTurn_78 : decode b_Sea_takeTurn 78 = .ok (.invokevirtual 96, 3) := by decide +kernel
theorem d_Sea_takeTurn_81 : decode b_Sea_takeTurn 81 = .ok (.ifCond .eq 11, 3) := by decide +kernel
theorem d_Sea_takeTurn_84 : decode b_Sea_takeTurn 84 = .ok (.aload_n 0, 1) := by decide +kernel
theorem d_Sea_takeTurn_85 : decode b_Sea_takeTurn 85 = .ok (.iload_n 3, 1) := by decide +kernel
theorem d_Sea_takeTurn_86 : decode b_Sea_takeTurn 86 = .ok (.invokevirtual 100, 3) := by decide +kernel
theorem d_Sea_takeTurn_89 : decode b_Sea_takeTurn 89 = .ok (.goto 9, 3) := by decide +kernel
theorem d_Sea_takeTurn_92 : decode b_Sea_takeTurn 92 = .ok (.aload_n 0, 1) := by decide +kernel
theorem d_Sea_takeTurn_93 : decode b_Sea_takeTurn 93 = .ok (.iload 4, 2) := by decide +kernel
theorem d_Sea_takeTurn_95 : decode b_Sea_takeTurn 95 = .ok (.invokevirtual 103, 3) := by decide +kernel
theorem d_Sea_takeTurn_98 : decode b_Sea_takeTurn 98 = .ok (.ireturn, 1) := by decide +kernel
theorem d_Sea_takeTurn_99 : decode b_Sea_takeTurn 99 = .ok (.aload_n 0, 1) := by decide +kernel
theorem d_Sea_takeTurn_100 : decode b_Sea_takeTurn 100 = .ok (.getfield 19, 3) := by decide +kernel
theorem d_Sea_takeTurn_103 : decode b_Sea_takeTurn 103 = .ok (.invokevirtual 106, 3) := by decide +kernel
theorem d_Sea_takeTurn_106 : decode b_Sea_takeTurn 106 = .ok (.istore 4, 2) := by decide +kernel
theorem d_Sea_takeTurn_108 : decode b_Sea_takeTurn 108 = .ok (.iload 4, 2) := by decide +kernel
theorem d_Sea_takeTurn_110 : decode b_Sea_takeTurn 110 = .ok (.ifCond .lt 16, 3) := by decide +kernel
theorem d_Sea_takeTurn_113 : decode b_Sea_takeTurn 113 = .ok (.aload_n 0, 1) := by decide +kernel
theorem d_Sea_takeTurn_114 : decode b_Sea_takeTurn 114 = .ok (.iload 4, 2) := by decide +kernel
theorem d_Sea_takeTurn_116 : decode b_Sea_takeTurn 116 = .ok (.iconst 0, 1) := by decide +kernel
theorem d_Sea_takeTurn_117 : decode b_Sea_takeTurn 117 = .ok (.invokestatic 109, 3) := by decide +kernel
theorem d_Sea_takeTurn_120 : decode b_Sea_takeTurn 120 = .ok (.invokevirtual 103, 3) := by decide +kernel
theorem d_Sea_takeTurn_123 : decode b_Sea_takeTurn 123 = .ok (.goto 4, 3) := by decide +kernel
theorem d_Sea_takeTurn_126 : decode b_Sea_takeTurn 126 = .ok (.iconst 0, 1) := by decide +kernel
theorem d_Sea_takeTurn_127 : decode b_Sea_takeTurn 127 = .ok (.ireturn, 1) := by decide +kernel
theorem d_Sea_advance_0 : decode b_Sea_advance 0 = .ok (.aload_n 0, 1) := by decide +kernel
theorem d_Sea_advance_1 : decode b_Sea_advance 1 = .ok (.lconst 0, 1) := by decide +kernel
theorem d_Sea_advance_2 : decode b_Sea_advance 2 = .ok (.lload_n 1, 1) := by decide +kernel
theorem d_Sea_advance_3 : decode b_Sea_advance 3 = .ok (.invokestatic 59, 3) := by decide +kernel
theorem d_Sea_advance_6 : decode b_Sea_advance 6 = .ok (.putfield 51, 3) := by decide +kernel
theorem d_Sea_advance_9 : decode b_Sea_advance 9 = .ok (.iconst 0, 1) := by decide +kernel
theorem d_Sea_advance_10 : decode b_Sea_advance 10 = .ok (.istore_n 3, 1) := by decide +kernel
theorem d_Sea_advance_11 : decode b_Sea_advance 11 = .ok (.iload_n 3, 1) := by decide +kernel
theorem d_Sea_advance_12 : decode b_Sea_advance 12 = .ok (.ldc 65, 2) := by decide +kernel
theorem d_Sea_advance_14 : decode b_Sea_advance 14 = .ok (.if_icmp .ge 24, 3) := by decide +kernel
theorem d_Sea_advance_17 : decode b_Sea_advance 17 = .ok (.aload_n 0, 1) := by decide +kernel
theorem d_Sea_advance_18 : decode b_Sea_advance 18 = .ok (.invokevirtual 66, 3) := by decide +kernel
theorem d_Sea_advance_21 : decode b_Sea_advance 21 = .ok (.istore 4, 2) := by decide +kernel
theorem d_Sea_advance_23 : decode b_Sea_advance 23 = .ok (.iload 4, 2) := by decide +kernel
theorem d_Sea_advance_25 : decode b_Sea_advance 25 = .ok (.iconst 4, 1) := by decide +kernel
theorem d_Sea_advance_26 : decode b_Sea_advance 26 = .ok (.if_icmp .eq 6, 3) := by decide +kernel
theorem d_Sea_advance_29 : decode b_Sea_advance 29 = .ok (.iload 4, 2) := by decide +kernel
theorem d_Sea_advance_31 : decode b_Sea_advance 31 = .ok (.ireturn, 1) := by decide +kernel
theorem d_Sea_advance_32 : decode b_Sea_advance 32 = .ok (.iinc 3 1, 3) := by decide +kernel
theorem d_Sea_advance_35 : decode b_Sea_advance 35 = .ok (.goto (-24), 3) := by decide +kernel
theorem d_Sea_advance_38 : decode b_Sea_advance 38 = .ok (.iconst 3, 1) := by decide +kernel
theorem d_Sea_advance_39 : decode b_Sea_advance 39 = .ok (.ireturn, 1) := by decide +kernel
theorem d_CS_run_0 : decode b_CS_run 0 = .ok (.aload_n 0, 1) := by decide +kernel
theorem d_CS_run_1 : decode b_CS_run 1 = .ok (.getfield 64, 3) := by decide +kernel
theorem d_CS_run_4 : decode b_CS_run 4 = .ok (.invokevirtual 122, 3) := by decide +kernel
theorem d_CS_run_7 : decode b_CS_run 7 = .ok (.aload_n 0, 1) := by decide +kernel
theorem d_CS_run_8 : decode b_CS_run 8 = .ok (.aload_n 0, 1) := by decide +kernel
theorem d_CS_run_9 : decode b_CS_run 9 = .ok (.getfield 64, 3) := by decide +kernel
theorem d_CS_run_12 : decode b_CS_run 12 = .ok (.lload_n 1, 1) := by decide +kernel
theorem d_CS_run_13 : decode b_CS_run 13 = .ok (.invokevirtual 125, 3) := by decide +kernel
theorem d_CS_run_16 : decode b_CS_run 16 = .ok (.putfield 71, 3) := by decide +kernel
theorem d_CS_run_19 : decode b_CS_run 19 = .ok (.aload_n 0, 1) := by decide +kernel
theorem d_CS_run_20 : decode b_CS_run 20 = .ok (.getfield 71, 3) := by decide +kernel
theorem d_CS_run_23 : decode b_CS_run 23 = .ok (.ireturn, 1) := by decide +kernel
theorem d_CS_goOn_0 : decode b_CS_goOn 0 = .ok (.aload_n 0, 1) := by decide +kernel
theorem d_CS_goOn_1 : decode b_CS_goOn 1 = .ok (.getfield 71, 3) := by decide +kernel
theorem d_CS_goOn_4 : decode b_CS_goOn 4 = .ok (.iconst 3, 1) := by decide +kernel
theorem d_CS_goOn_5 : decode b_CS_goOn 5 = .ok (.if_icmp .eq 5, 3) := by decide +kernel
theorem d_CS_goOn_8 : decode b_CS_goOn 8 = .ok (.iconst 0, 1) := by decide +kernel
theorem d_CS_goOn_9 : decode b_CS_goOn 9 = .ok (.ireturn, 1) := by decide +kernel
theorem d_CS_goOn_10 : decode b_CS_goOn 10 = .ok (.aload_n 0, 1) := by decide +kernel
theorem d_CS_goOn_11 : decode b_CS_goOn 11 = .ok (.aload_n 0, 1) := by decide +kernel
theorem d_CS_goOn_12 : decode b_CS_goOn 12 = .ok (.getfield 64, 3) := by decide +kernel
theorem d_CS_goOn_15 : decode b_CS_goOn 15 = .ok (.lload_n 1, 1) := by decide +kernel
theorem d_CS_goOn_16 : decode b_CS_goOn 16 = .ok (.invokevirtual 125, 3) := by decide +kernel
theorem d_CS_goOn_19 : decode b_CS_goOn 19 = .ok (.putfield 71, 3) := by decide +kernel
theorem d_CS_goOn_22 : decode b_CS_goOn 22 = .ok (.aload_n 0, 1) := by decide +kernel
theorem d_CS_goOn_23 : decode b_CS_goOn 23 = .ok (.getfield 71, 3) := by decide +kernel
theorem d_CS_goOn_26 : decode b_CS_goOn 26 = .ok (.iconst 3, 1) := by decide +kernel
theorem d_CS_goOn_27 : decode b_CS_goOn 27 = .ok (.if_icmp .eq 7, 3) := by decide +kernel
theorem d_CS_goOn_30 : decode b_CS_goOn 30 = .ok (.iconst 1, 1) := by decide +kernel
theorem d_CS_goOn_31 : decode b_CS_goOn 31 = .ok (.goto 4, 3) := by decide +kernel
theorem d_CS_goOn_34 : decode b_CS_goOn 34 = .ok (.iconst 0, 1) := by decide +kernel
theorem d_CS_goOn_35 : decode b_CS_goOn 35 = .ok (.ireturn, 1) := by decide +kernel
theorem d_CS_truth_0 : decode b_CS_truth 0 = .ok (.aload_n 0, 1) := by decide +kernel
theorem d_CS_truth_1 : decode b_CS_truth 1 = .ok (.getfield 71, 3) := by decide +kernel
theorem d_CS_truth_4 : decode b_CS_truth 4 = .ok (.ifCond .ne 30, 3) := by decide +kernel
theorem d_CS_truth_7 : decode b_CS_truth 7 = .ok (.aload_n 0, 1) := by decide +kernel
theorem d_CS_truth_8 : decode b_CS_truth 8 = .ok (.iload_n 1, 1) := by decide +kernel
theorem d_CS_truth_9 : decode b_CS_truth 9 = .ok (.invokevirtual 86, 3) := by decide +kernel
theorem d_CS_truth_12 : decode b_CS_truth 12 = .ok (.ifCond .eq 22, 3) := by decide +kernel
theorem d_CS_truth_15 : decode b_CS_truth 15 = .ok (.aload_n 0, 1) := by decide +kernel
theorem d_CS_truth_16 : decode b_CS_truth 16 = .ok (.getfield 55, 3) := by decide +kernel
theorem d_CS_truth_19 : decode b_CS_truth 19 = .ok (.iload_n 1, 1) := by decide +kernel
theorem d_CS_truth_20 : decode b_CS_truth 20 = .ok (.iconst 1, 1) := by decide +kernel
theorem d_CS_truth_21 : decode b_CS_truth 21 = .ok (.invokestatic 89, 3) := by decide +kernel
theorem d_CS_truth_24 : decode b_CS_truth 24 = .ok (.invokevirtual 129, 3) := by decide +kernel
theorem d_CS_truth_27 : decode b_CS_truth 27 = .ok (.ifCond .eq 7, 3) := by decide +kernel
theorem d_CS_truth_30 : decode b_CS_truth 30 = .ok (.iconst 1, 1) := by decide +kernel
theorem d_CS_truth_31 : decode b_CS_truth 31 = .ok (.goto 4, 3) := by decide +kernel
theorem d_CS_truth_34 : decode b_CS_truth 34 = .ok (.iconst 0, 1) := by decide +kernel
theorem d_CS_truth_35 : decode b_CS_truth 35 = .ok (.ireturn, 1) := by decide +kernel
theorem d_CS_block_0 : decode b_CS_block 0 = .ok (.aload_n 0, 1) := by decide +kernel
theorem d_CS_block_1 : decode b_CS_block 1 = .ok (.getfield 71, 3) := by decide +kernel
theorem d_CS_block_4 : decode b_CS_block 4 = .ok (.ifCond .ne 18, 3) := by decide +kernel
theorem d_CS_block_7 : decode b_CS_block 7 = .ok (.aload_n 0, 1) := by decide +kernel
theorem d_CS_block_8 : decode b_CS_block 8 = .ok (.getfield 27, 3) := by decide +kernel
theorem d_CS_block_11 : decode b_CS_block 11 = .ok (.iconst 1, 1) := by decide +kernel
theorem d_CS_block_12 : decode b_CS_block 12 = .ok (.aload_n 0, 1) := by decide +kernel
theorem d_CS_block_13 : decode b_CS_block 13 = .ok (.getfield 18, 3) := by decide +kernel
theorem d_CS_block_16 : decode b_CS_block 16 = .ok (.invokevirtual 74, 3) := by decide +kernel
theorem d_CS_block_19 : decode b_CS_block 19 = .ok (.ifCond .ne 5, 3) := by decide +kernel
theorem d_CS_block_22 : decode b_CS_block 22 = .ok (.iconst 0, 1) := by decide +kernel
theorem d_CS_block_23 : decode b_CS_block 23 = .ok (.ireturn, 1) := by decide +kernel
theorem d_CS_block_24 : decode b_CS_block 24 = .ok (.aload_n 0, 1) := by decide +kernel
theorem d_CS_block_25 : decode b_CS_block 25 = .ok (.getfield 27, 3) := by decide +kernel
theorem d_CS_block_28 : decode b_CS_block 28 = .ok (.invokevirtual 78, 3) := by decide +kernel
theorem d_CS_block_31 : decode b_CS_block 31 = .ok (.pop, 1) := by decide +kernel
theorem d_CS_block_32 : decode b_CS_block 32 = .ok (.iconst 0, 1) := by decide +kernel
theorem d_CS_block_33 : decode b_CS_block 33 = .ok (.istore_n 1, 1) := by decide +kernel
theorem d_CS_block_34 : decode b_CS_block 34 = .ok (.iload_n 1, 1) := by decide +kernel
theorem d_CS_block_35 : decode b_CS_block 35 = .ok (.aload_n 0, 1) := by decide +kernel
theorem d_CS_block_36 : decode b_CS_block 36 = .ok (.getfield 18, 3) := by decide +kernel
theorem d_CS_block_39 : decode b_CS_block 39 = .ok (.if_icmp .ge 24, 3) := by decide +kernel
theorem d_CS_block_42 : decode b_CS_block 42 = .ok (.aload_n 0, 1) := by decide +kernel
theorem d_CS_block_43 : decode b_CS_block 43 = .ok (.getfield 27, 3) := by decide +kernel
theorem d_CS_block_46 : decode b_CS_block 46 = .ok (.aload_n 0, 1) := by decide +kernel
theorem d_CS_block_47 : decode b_CS_block 47 = .ok (.getfield 55, 3) := by decide +kernel
theorem d_CS_block_50 : decode b_CS_block 50 = .ok (.iload_n 1, 1) := by decide +kernel
theorem d_CS_block_51 : decode b_CS_block 51 = .ok (.invokevirtual 131, 3) := by decide +kernel
theorem d_CS_block_54 : decode b_CS_block 54 = .ok (.invokevirtual 100, 3) := by decide +kernel
theorem d_CS_block_57 : decode b_CS_block 57 = .ok (.iinc 1 1, 3) := by decide +kernel
theorem d_CS_block_60 : decode b_CS_block 60 = .ok (.goto (-26), 3) := by decide +kernel
theorem d_CS_block_63 : decode b_CS_block 63 = .ok (.aload_n 0, 1) := by decide +kernel
theorem d_CS_block_64 : decode b_CS_block 64 = .ok (.iconst 1, 1) := by decide +kernel
theorem d_CS_block_65 : decode b_CS_block 65 = .ok (.putfield 71, 3) := by decide +kernel
theorem d_CS_block_68 : decode b_CS_block 68 = .ok (.iconst 1, 1) := by decide +kernel
theorem d_CS_block_69 : decode b_CS_block 69 = .ok (.ireturn, 1) := by decide +kernel
theorem d_Ass_isFull_0 : decode b_Ass_isFull 0 = .ok (.aload_n 0, 1) := by decide +kernel
theorem d_Ass_isFull_1 : decode b_Ass_isFull 1 = .ok (.getfield 9, 3) := by decide +kernel
theorem d_Ass_isFull_4 : decode b_Ass_isFull 4 = .ok (.bipush 40, 2) := by decide +kernel
theorem d_Ass_isFull_6 : decode b_Ass_isFull 6 = .ok (.if_icmp .lt 7, 3) := by decide +kernel
theorem d_Ass_isFull_9 : decode b_Ass_isFull 9 = .ok (.iconst 1, 1) := by decide +kernel
theorem d_Ass_isFull_10 : decode b_Ass_isFull 10 = .ok (.goto 4, 3) := by decide +kernel
theorem d_Ass_isFull_13 : decode b_Ass_isFull 13 = .ok (.iconst 0, 1) := by decide +kernel
theorem d_Ass_isFull_14 : decode b_Ass_isFull 14 = .ok (.ireturn, 1) := by decide +kernel
theorem d_Ass_concerns_0 : decode b_Ass_concerns 0 = .ok (.iconst 0, 1) := by decide +kernel
theorem d_Ass_concerns_1 : decode b_Ass_concerns 1 = .ok (.istore_n 2, 1) := by decide +kernel
theorem d_Ass_concerns_2 : decode b_Ass_concerns 2 = .ok (.iload_n 2, 1) := by decide +kernel
theorem d_Ass_concerns_3 : decode b_Ass_concerns 3 = .ok (.aload_n 0, 1) := by decide +kernel
theorem d_Ass_concerns_4 : decode b_Ass_concerns 4 = .ok (.getfield 9, 3) := by decide +kernel
theorem d_Ass_concerns_7 : decode b_Ass_concerns 7 = .ok (.if_icmp .ge 23, 3) := by decide +kernel
theorem d_Ass_concerns_10 : decode b_Ass_concerns 10 = .ok (.aload_n 0, 1) := by decide +kernel
theorem d_Ass_concerns_11 : decode b_Ass_concerns 11 = .ok (.getfield 15, 3) := by decide +kernel
theorem d_Ass_concerns_14 : decode b_Ass_concerns 14 = .ok (.iload_n 2, 1) := by decide +kernel
theorem d_Ass_concerns_15 : decode b_Ass_concerns 15 = .ok (.iaload, 1) := by decide +kernel
theorem d_Ass_concerns_16 : decode b_Ass_concerns 16 = .ok (.iconst 1, 1) := by decide +kernel
theorem d_Ass_concerns_17 : decode b_Ass_concerns 17 = .ok (.ishr, 1) := by decide +kernel
theorem d_Ass_concerns_18 : decode b_Ass_concerns 18 = .ok (.iload_n 1, 1) := by decide +kernel
theorem d_Ass_concerns_19 : decode b_Ass_concerns 19 = .ok (.if_icmp .ne 5, 3) := by decide +kernel
theorem d_Ass_concerns_22 : decode b_Ass_concerns 22 = .ok (.iconst 1, 1) := by decide +kernel
theorem d_Ass_concerns_23 : decode b_Ass_concerns 23 = .ok (.ireturn, 1) := by decide +kernel
theorem d_Ass_concerns_24 : decode b_Ass_concerns 24 = .ok (.iinc 2 1, 3) := by decide +kernel
theorem d_Ass_concerns_27 : decode b_Ass_concerns 27 = .ok (.goto (-25), 3) := by decide +kernel
theorem d_Ass_concerns_30 : decode b_Ass_concerns 30 = .ok (.iconst 0, 1) := by decide +kernel
theorem d_Ass_concerns_31 : decode b_Ass_concerns 31 = .ok (.ireturn, 1) := by decide +kernel
theorem d_Ass_append_0 : decode b_Ass_append 0 = .ok (.aload_n 0, 1) := by decide +kernel
theorem d_Ass_append_1 : decode b_Ass_append 1 = .ok (.invokevirtual 19, 3) := by decide +kernel
theorem d_Ass_append_4 : decode b_Ass_append 4 = .ok (.ifCond .eq 4, 3) := by decide +kernel
theorem d_Ass_append_7 : decode b_Ass_append 7 = .ok (.return_, 1) := by decide +kernel
theorem d_Ass_append_8 : decode b_Ass_append 8 = .ok (.aload_n 0, 1) := by decide +kernel
theorem d_Ass_append_9 : decode b_Ass_append 9 = .ok (.getfield 15, 3) := by decide +kernel
theorem d_Ass_append_12 : decode b_Ass_append 12 = .ok (.aload_n 0, 1) := by decide +kernel
theorem d_Ass_append_13 : decode b_Ass_append 13 = .ok (.getfield 9, 3) := by decide +kernel
theorem d_Ass_append_16 : decode b_Ass_append 16 = .ok (.iload_n 1, 1) := by decide +kernel
theorem d_Ass_append_17 : decode b_Ass_append 17 = .ok (.iastore, 1) := by decide +kernel
theorem d_Ass_append_18 : decode b_Ass_append 18 = .ok (.aload_n 0, 1) := by decide +kernel
theorem d_Ass_append_19 : decode b_Ass_append 19 = .ok (.dup, 1) := by decide +kernel
theorem d_Ass_append_20 : decode b_Ass_append 20 = .ok (.getfield 9, 3) := by decide +kernel
theorem d_Ass_append_23 : decode b_Ass_append 23 = .ok (.iconst 1, 1) := by decide +kernel
theorem d_Ass_append_24 : decode b_Ass_append 24 = .ok (.iadd, 1) := by decide +kernel
theorem d_Ass_append_25 : decode b_Ass_append 25 = .ok (.putfield 9, 3) := by decide +kernel
theorem d_Ass_append_28 : decode b_Ass_append 28 = .ok (.return_, 1) := by decide +kernel
theorem d_CS_assume_0 : decode b_CS_assume 0 = .ok (.aload_n 0, 1) := by decide +kernel
theorem d_CS_assume_1 : decode b_CS_assume 1 = .ok (.iload_n 1, 1) := by decide +kernel
theorem d_CS_assume_2 : decode b_CS_assume 2 = .ok (.invokevirtual 86, 3) := by decide +kernel
theorem d_CS_assume_5 : decode b_CS_assume 5 = .ok (.ifCond .eq 24, 3) := by decide +kernel
theorem d_CS_assume_8 : decode b_CS_assume 8 = .ok (.aload_n 0, 1) := by decide +kernel
theorem d_CS_assume_9 : decode b_CS_assume 9 = .ok (.getfield 41, 3) := by decide +kernel
theorem d_CS_assume_12 : decode b_CS_assume 12 = .ok (.invokevirtual 134, 3) := by decide +kernel
theorem d_CS_assume_15 : decode b_CS_assume 15 = .ok (.ifCond .ne 14, 3) := by decide +kernel
theorem d_CS_assume_18 : decode b_CS_assume 18 = .ok (.aload_n 0, 1) := by decide +kernel
theorem d_CS_assume_19 : decode b_CS_assume 19 = .ok (.getfield 41, 3) := by decide +kernel
theorem d_CS_assume_22 : decode b_CS_assume 22 = .ok (.iload_n 1, 1) := by decide +kernel
theorem d_CS_assume_23 : decode b_CS_assume 23 = .ok (.invokevirtual 138, 3) := by decide +kernel
theorem d_CS_assume_26 : decode b_CS_assume 26 = .ok (.ifCond .eq 5, 3) := by decide +kernel
theorem d_CS_assume_29 : decode b_CS_assume 29 = .ok (.iconst 0, 1) := by decide +kernel
theorem d_CS_assume_30 : decode b_CS_assume 30 = .ok (.ireturn, 1) := by decide +kernel
theorem d_CS_assume_31 : decode b_CS_assume 31 = .ok (.aload_n 0, 1) := by decide +kernel
theorem d_CS_assume_32 : decode b_CS_assume 32 = .ok (.getfield 41, 3) := by decide +kernel
theorem d_CS_assume_35 : decode b_CS_assume 35 = .ok (.iload_n 1, 1) := by decide +kernel
theorem d_CS_assume_36 : decode b_CS_assume 36 = .ok (.iload_n 2, 1) := by decide +kernel
theorem d_CS_assume_37 : decode b_CS_assume 37 = .ok (.invokestatic 89, 3) := by decide +kernel
theorem d_CS_assume_40 : decode b_CS_assume 40 = .ok (.invokevirtual 141, 3) := by decide +kernel
theorem d_CS_assume_43 : decode b_CS_assume 43 = .ok (.aload_n 0, 1) := by decide +kernel
theorem d_CS_assume_44 : decode b_CS_assume 44 = .ok (.iconst 1, 1) := by decide +kernel
theorem d_CS_assume_45 : decode b_CS_assume 45 = .ok (.putfield 71, 3) := by decide +kernel
theorem d_CS_assume_48 : decode b_CS_assume 48 = .ok (.iconst 1, 1) := by decide +kernel
theorem d_CS_assume_49 : decode b_CS_assume 49 = .ok (.ireturn, 1) := by decide +kernel
theorem d_Ass_clear_0 : decode b_Ass_clear 0 = .ok (.aload_n 0, 1) := by decide +kernel
theorem d_Ass_clear_1 : decode b_Ass_clear 1 = .ok (.iconst 0, 1) := by decide +kernel
theorem d_Ass_clear_2 : decode b_Ass_clear 2 = .ok (.putfield 9, 3) := by decide +kernel
theorem d_Ass_clear_5 : decode b_Ass_clear 5 = .ok (.return_, 1) := by decide +kernel
theorem d_CS_freely_0 : decode b_CS_freely 0 = .ok (.aload_n 0, 1) := by decide +kernel
theorem d_CS_freely_1 : decode b_CS_freely 1 = .ok (.getfield 41, 3) := by decide +kernel
theorem d_CS_freely_4 : decode b_CS_freely 4 = .ok (.invokevirtual 142, 3) := by decide +kernel
theorem d_CS_freely_7 : decode b_CS_freely 7 = .ok (.aload_n 0, 1) := by decide +kernel
theorem d_CS_freely_8 : decode b_CS_freely 8 = .ok (.iconst 1, 1) := by decide +kernel
theorem d_CS_freely_9 : decode b_CS_freely 9 = .ok (.putfield 71, 3) := by decide +kernel
theorem d_CS_freely_12 : decode b_CS_freely 12 = .ok (.return_, 1) := by decide +kernel
theorem d_Sea_coreLiteral_0 : decode b_Sea_coreLiteral 0 = .ok (.iload_n 1, 1) := by decide +kernel
theorem d_Sea_coreLiteral_1 : decode b_Sea_coreLiteral 1 = .ok (.ifCond .lt 20, 3) := by decide +kernel
theorem d_Sea_coreLiteral_4 : decode b_Sea_coreLiteral 4 = .ok (.iload_n 1, 1) := by decide +kernel
theorem d_Sea_coreLiteral_5 : decode b_Sea_coreLiteral 5 = .ok (.aload_n 0, 1) := by decide +kernel
theorem d_Sea_coreLiteral_6 : decode b_Sea_coreLiteral 6 = .ok (.getfield 38, 3) := by decide +kernel
theorem d_Sea_coreLiteral_9 : decode b_Sea_coreLiteral 9 = .ok (.if_icmp .ge 12, 3) := by decide +kernel
theorem d_Sea_coreLiteral_12 : decode b_Sea_coreLiteral 12 = .ok (.aload_n 0, 1) := by decide +kernel
theorem d_Sea_coreLiteral_13 : decode b_Sea_coreLiteral 13 = .ok (.getfield 35, 3) := by decide +kernel
theorem d_Sea_coreLiteral_16 : decode b_Sea_coreLiteral 16 = .ok (.iload_n 1, 1) := by decide +kernel
theorem d_Sea_coreLiteral_17 : decode b_Sea_coreLiteral 17 = .ok (.iaload, 1) := by decide +kernel
theorem d_Sea_coreLiteral_18 : decode b_Sea_coreLiteral 18 = .ok (.goto 4, 3) := by decide +kernel
theorem d_Sea_coreLiteral_21 : decode b_Sea_coreLiteral 21 = .ok (.iconst (-1), 1) := by decide +kernel
theorem d_Sea_coreLiteral_22 : decode b_Sea_coreLiteral 22 = .ok (.ireturn, 1) := by decide +kernel
theorem d_CS_core_0 : decode b_CS_core 0 = .ok (.aload_n 0, 1) := by decide +kernel
theorem d_CS_core_1 : decode b_CS_core 1 = .ok (.getfield 71, 3) := by decide +kernel
theorem d_CS_core_4 : decode b_CS_core 4 = .ok (.iconst 2, 1) := by decide +kernel
theorem d_CS_core_5 : decode b_CS_core 5 = .ok (.if_icmp .ne 14, 3) := by decide +kernel
theorem d_CS_core_8 : decode b_CS_core 8 = .ok (.aload_n 0, 1) := by decide +kernel
theorem d_CS_core_9 : decode b_CS_core 9 = .ok (.getfield 64, 3) := by decide +kernel
theorem d_CS_core_12 : decode b_CS_core 12 = .ok (.iload_n 1, 1) := by decide +kernel
theorem d_CS_core_13 : decode b_CS_core 13 = .ok (.invokevirtual 145, 3) := by decide +kernel
theorem d_CS_core_16 : decode b_CS_core 16 = .ok (.goto 4, 3) := by decide +kernel
theorem d_CS_core_19 : decode b_CS_core 19 = .ok (.iconst (-1), 1) := by decide +kernel
theorem d_CS_core_20 : decode b_CS_core 20 = .ok (.ireturn, 1) := by decide +kernel
theorem d_CS_rows_0 : decode b_CS_rows 0 = .ok (.aload_n 0, 1) := by decide +kernel
theorem d_CS_rows_1 : decode b_CS_rows 1 = .ok (.getfield 64, 3) := by decide +kernel
theorem d_CS_rows_4 : decode b_CS_rows 4 = .ok (.getfield 148, 3) := by decide +kernel
theorem d_CS_rows_7 : decode b_CS_rows 7 = .ok (.ireturn, 1) := by decide +kernel
theorem d_Sea_numberOfRow_0 : decode b_Sea_numberOfRow 0 = .ok (.iload_n 1, 1) := by decide +kernel
theorem d_Sea_numberOfRow_1 : decode b_Sea_numberOfRow 1 = .ok (.ifCond .lt 20, 3) := by decide +kernel
theorem d_Sea_numberOfRow_4 : decode b_Sea_numberOfRow 4 = .ok (.iload_n 1, 1) := by decide +kernel
theorem d_Sea_numberOfRow_5 : decode b_Sea_numberOfRow 5 = .ok (.aload_n 0, 1) := by decide +kernel
theorem d_Sea_numberOfRow_6 : decode b_Sea_numberOfRow 6 = .ok (.getfield 44, 3) := by decide +kernel
theorem d_Sea_numberOfRow_9 : decode b_Sea_numberOfRow 9 = .ok (.if_icmp .ge 12, 3) := by decide +kernel
theorem d_Sea_numberOfRow_12 : decode b_Sea_numberOfRow 12 = .ok (.aload_n 0, 1) := by decide +kernel
theorem d_Sea_numberOfRow_13 : decode b_Sea_numberOfRow 13 = .ok (.getfield 41, 3) := by decide +kernel
theorem d_Sea_numberOfRow_16 : decode b_Sea_numberOfRow 16 = .ok (.iload_n 1, 1) := by decide +kernel
theorem d_Sea_numberOfRow_17 : decode b_Sea_numberOfRow 17 = .ok (.iaload, 1) := by decide +kernel
theorem d_Sea_numberOfRow_18 : decode b_Sea_numberOfRow 18 = .ok (.goto 4, 3) := by decide +kernel
theorem d_Sea_numberOfRow_21 : decode b_Sea_numberOfRow 21 = .ok (.iconst (-1), 1) := by decide +kernel
theorem d_Sea_numberOfRow_22 : decode b_Sea_numberOfRow 22 = .ok (.ireturn, 1) := by decide +kernel
theorem d_CS_row_0 : decode b_CS_row 0 = .ok (.aload_n 0, 1) := by decide +kernel
theorem d_CS_row_1 : decode b_CS_row 1 = .ok (.getfield 64, 3) := by decide +kernel
theorem d_CS_row_4 : decode b_CS_row 4 = .ok (.iload_n 1, 1) := by decide +kernel
theorem d_CS_row_5 : decode b_CS_row 5 = .ok (.invokevirtual 151, 3) := by decide +kernel
theorem d_CS_row_8 : decode b_CS_row 8 = .ok (.istore_n 3, 1) := by decide +kernel
theorem d_CS_row_9 : decode b_CS_row 9 = .ok (.iload_n 3, 1) := by decide +kernel
theorem d_CS_row_10 : decode b_CS_row 10 = .ok (.ifCond .lt 19, 3) := by decide +kernel
theorem d_CS_row_13 : decode b_CS_row 13 = .ok (.iload_n 2, 1) := by decide +kernel
theorem d_CS_row_14 : decode b_CS_row 14 = .ok (.ifCond .lt 15, 3) := by decide +kernel
theorem d_CS_row_17 : decode b_CS_row 17 = .ok (.iload_n 2, 1) := by decide +kernel
theorem d_CS_row_18 : decode b_CS_row 18 = .ok (.aload_n 0, 1) := by decide +kernel
theorem d_CS_row_19 : decode b_CS_row 19 = .ok (.getfield 27, 3) := by decide +kernel
theorem d_CS_row_22 : decode b_CS_row 22 = .ok (.iload_n 3, 1) := by decide +kernel
theorem d_CS_row_23 : decode b_CS_row 23 = .ok (.invokevirtual 93, 3) := by decide +kernel
theorem d_CS_row_26 : decode b_CS_row 26 = .ok (.if_icmp .lt 5, 3) := by decide +kernel
theorem d_CS_row_29 : decode b_CS_row 29 = .ok (.iconst (-1), 1) := by decide +kernel
theorem d_CS_row_30 : decode b_CS_row 30 = .ok (.ireturn, 1) := by decide +kernel
theorem d_CS_row_31 : decode b_CS_row 31 = .ok (.aload_n 0, 1) := by decide +kernel
theorem d_CS_row_32 : decode b_CS_row 32 = .ok (.getfield 27, 3) := by decide +kernel
theorem d_CS_row_35 : decode b_CS_row 35 = .ok (.getfield 154, 3) := by decide +kernel
theorem d_CS_row_38 : decode b_CS_row 38 = .ok (.aload_n 0, 1) := by decide +kernel
theorem d_CS_row_39 : decode b_CS_row 39 = .ok (.getfield 27, 3) := by decide +kernel
theorem d_CS_row_42 : decode b_CS_row 42 = .ok (.iload_n 3, 1) := by decide +kernel
theorem d_CS_row_43 : decode b_CS_row 43 = .ok (.invokevirtual 158, 3) := by decide +kernel
theorem d_CS_row_46 : decode b_CS_row 46 = .ok (.iload_n 2, 1) := by decide +kernel
theorem d_CS_row_47 : decode b_CS_row 47 = .ok (.iadd, 1) := by decide +kernel
theorem d_CS_row_48 : decode b_CS_row 48 = .ok (.iaload, 1) := by decide +kernel
theorem d_CS_row_49 : decode b_CS_row 49 = .ok (.ireturn, 1) := by decide +kernel
theorem d_CS_numberOf_0 : decode b_CS_numberOf 0 = .ok (.aload_n 0, 1) := by decide +kernel
theorem d_CS_numberOf_1 : decode b_CS_numberOf 1 = .ok (.getfield 64, 3) := by decide +kernel
theorem d_CS_numberOf_4 : decode b_CS_numberOf 4 = .ok (.iload_n 1, 1) := by decide +kernel
theorem d_CS_numberOf_5 : decode b_CS_numberOf 5 = .ok (.invokevirtual 151, 3) := by decide +kernel
theorem d_CS_numberOf_8 : decode b_CS_numberOf 8 = .ok (.ireturn, 1) := by decide +kernel
theorem d_CS_used_0 : decode b_CS_used 0 = .ok (.aload_n 0, 1) := by decide +kernel
theorem d_CS_used_1 : decode b_CS_used 1 = .ok (.getfield 64, 3) := by decide +kernel
theorem d_CS_used_4 : decode b_CS_used 4 = .ok (.getfield 161, 3) := by decide +kernel
theorem d_CS_used_7 : decode b_CS_used 7 = .ok (.lreturn, 1) := by decide +kernel
theorem d_CS_state_0 : decode b_CS_state 0 = .ok (.aload_n 0, 1) := by decide +kernel
theorem d_CS_state_1 : decode b_CS_state 1 = .ok (.getfield 71, 3) := by decide +kernel
theorem d_CS_state_4 : decode b_CS_state 4 = .ok (.ireturn, 1) := by decide +kernel
theorem d_CS_clauses_0 : decode b_CS_clauses 0 = .ok (.aload_n 0, 1) := by decide +kernel
theorem d_CS_clauses_1 : decode b_CS_clauses 1 = .ok (.getfield 27, 3) := by decide +kernel
theorem d_CS_clauses_4 : decode b_CS_clauses 4 = .ok (.getfield 165, 3) := by decide +kernel
theorem d_CS_clauses_7 : decode b_CS_clauses 7 = .ok (.ireturn, 1) := by decide +kernel
theorem d_Mod_init_0 : decode b_Mod_init 0 = .ok (.aload_n 0, 1) := by decide +kernel
theorem d_Mod_init_1 : decode b_Mod_init 1 = .ok (.invokespecial 1, 3) := by decide +kernel
theorem d_Mod_init_4 : decode b_Mod_init 4 = .ok (.aload_n 0, 1) := by decide +kernel
theorem d_Mod_init_5 : decode b_Mod_init 5 = .ok (.iconst 0, 1) := by decide +kernel
theorem d_Mod_init_6 : decode b_Mod_init 6 = .ok (.putfield 7, 3) := by decide +kernel
theorem d_Mod_init_9 : decode b_Mod_init 9 = .ok (.aload_n 0, 1) := by decide +kernel
theorem d_Mod_init_10 : decode b_Mod_init 10 = .ok (.iconst 1, 1) := by decide +kernel
theorem d_Mod_init_11 : decode b_Mod_init 11 = .ok (.putfield 13, 3) := by decide +kernel
theorem d_Mod_init_14 : decode b_Mod_init 14 = .ok (.aload_n 0, 1) := by decide +kernel
theorem d_Mod_init_15 : decode b_Mod_init 15 = .ok (.sipush 20000, 3) := by decide +kernel
theorem d_Mod_init_18 : decode b_Mod_init 18 = .ok (.newarray .int, 2) := by decide +kernel
theorem d_Mod_init_20 : decode b_Mod_init 20 = .ok (.putfield 16, 3) := by decide +kernel
theorem d_Mod_init_23 : decode b_Mod_init 23 = .ok (.aload_n 0, 1) := by decide +kernel
theorem d_Mod_init_24 : decode b_Mod_init 24 = .ok (.sipush 1502, 3) := by decide +kernel
theorem d_Mod_init_27 : decode b_Mod_init 27 = .ok (.newarray .int, 2) := by decide +kernel
theorem d_Mod_init_29 : decode b_Mod_init 29 = .ok (.putfield 20, 3) := by decide +kernel
theorem d_Mod_init_32 : decode b_Mod_init 32 = .ok (.aload_n 0, 1) := by decide +kernel
theorem d_Mod_init_33 : decode b_Mod_init 33 = .ok (.sipush 1501, 3) := by decide +kernel
theorem d_Mod_init_36 : decode b_Mod_init 36 = .ok (.newarray .boolean, 2) := by decide +kernel
theorem d_Mod_init_38 : decode b_Mod_init 38 = .ok (.putfield 23, 3) := by decide +kernel
theorem d_Mod_init_41 : decode b_Mod_init 41 = .ok (.aload_n 0, 1) := by decide +kernel
theorem d_Mod_init_42 : decode b_Mod_init 42 = .ok (.iconst 0, 1) := by decide +kernel
theorem d_Mod_init_43 : decode b_Mod_init 43 = .ok (.putfield 27, 3) := by decide +kernel
theorem d_Mod_init_46 : decode b_Mod_init 46 = .ok (.aload_n 0, 1) := by decide +kernel
theorem d_Mod_init_47 : decode b_Mod_init 47 = .ok (.iconst 0, 1) := by decide +kernel
theorem d_Mod_init_48 : decode b_Mod_init 48 = .ok (.putfield 30, 3) := by decide +kernel
theorem d_Mod_init_51 : decode b_Mod_init 51 = .ok (.aload_n 0, 1) := by decide +kernel
theorem d_Mod_init_52 : decode b_Mod_init 52 = .ok (.sipush 1500, 3) := by decide +kernel
theorem d_Mod_init_55 : decode b_Mod_init 55 = .ok (.newarray .int, 2) := by decide +kernel
theorem d_Mod_init_57 : decode b_Mod_init 57 = .ok (.putfield 33, 3) := by decide +kernel
theorem d_Mod_init_60 : decode b_Mod_init 60 = .ok (.aload_n 0, 1) := by decide +kernel
theorem d_Mod_init_61 : decode b_Mod_init 61 = .ok (.iconst 0, 1) := by decide +kernel
theorem d_Mod_init_62 : decode b_Mod_init 62 = .ok (.putfield 36, 3) := by decide +kernel
theorem d_Mod_init_65 : decode b_Mod_init 65 = .ok (.aload_n 0, 1) := by decide +kernel
theorem d_Mod_init_66 : decode b_Mod_init 66 = .ok (.sipush 300, 3) := by decide +kernel
theorem d_Mod_init_69 : decode b_Mod_init 69 = .ok (.newarray .int, 2) := by decide +kernel
theorem d_Mod_init_71 : decode b_Mod_init 71 = .ok (.putfield 39, 3) := by decide +kernel
theorem d_Mod_init_74 : decode b_Mod_init 74 = .ok (.aload_n 0, 1) := by decide +kernel
theorem d_Mod_init_75 : decode b_Mod_init 75 = .ok (.sipush 300, 3) := by decide +kernel
theorem d_Mod_init_78 : decode b_Mod_init 78 = .ok (.newarray .int, 2) := by decide +kernel
theorem d_Mod_init_80 : decode b_Mod_init 80 = .ok (.putfield 42, 3) := by decide +kernel
theorem d_Mod_init_83 : decode b_Mod_init 83 = .ok (.aload_n 0, 1) := by decide +kernel
theorem d_Mod_init_84 : decode b_Mod_init 84 = .ok (.sipush 300, 3) := by decide +kernel
theorem d_Mod_init_87 : decode b_Mod_init 87 = .ok (.newarray .int, 2) := by decide +kernel
theorem d_Mod_init_89 : decode b_Mod_init 89 = .ok (.putfield 45, 3) := by decide +kernel
theorem d_Mod_init_92 : decode b_Mod_init 92 = .ok (.aload_n 0, 1) := by decide +kernel
theorem d_Mod_init_93 : decode b_Mod_init 93 = .ok (.iconst 0, 1) := by decide +kernel
theorem d_Mod_init_94 : decode b_Mod_init 94 = .ok (.putfield 48, 3) := by decide +kernel
theorem d_Mod_init_97 : decode b_Mod_init 97 = .ok (.aload_n 0, 1) := by decide +kernel
theorem d_Mod_init_98 : decode b_Mod_init 98 = .ok (.bipush 40, 2) := by decide +kernel
theorem d_Mod_init_100 : decode b_Mod_init 100 = .ok (.newarray .int, 2) := by decide +kernel
theorem d_Mod_init_102 : decode b_Mod_init 102 = .ok (.putfield 51, 3) := by decide +kernel
theorem d_Mod_init_105 : decode b_Mod_init 105 = .ok (.aload_n 0, 1) := by decide +kernel
theorem d_Mod_init_106 : decode b_Mod_init 106 = .ok (.iconst 0, 1) := by decide +kernel
theorem d_Mod_init_107 : decode b_Mod_init 107 = .ok (.putfield 54, 3) := by decide +kernel
theorem d_Mod_init_110 : decode b_Mod_init 110 = .ok (.aload_n 0, 1) := by decide +kernel
theorem d_Mod_init_111 : decode b_Mod_init 111 = .ok (.bipush 40, 2) := by decide +kernel
theorem d_Mod_init_113 : decode b_Mod_init 113 = .ok (.newarray .boolean, 2) := by decide +kernel
theorem d_Mod_init_115 : decode b_Mod_init 115 = .ok (.putfield 58, 3) := by decide +kernel
theorem d_Mod_init_118 : decode b_Mod_init 118 = .ok (.aload_n 0, 1) := by decide +kernel
theorem d_Mod_init_119 : decode b_Mod_init 119 = .ok (.iconst 0, 1) := by decide +kernel
theorem d_Mod_init_120 : decode b_Mod_init 120 = .ok (.putfield 61, 3) := by decide +kernel
theorem d_Mod_init_123 : decode b_Mod_init 123 = .ok (.aload_n 0, 1) := by decide +kernel
theorem d_Mod_init_124 : decode b_Mod_init 124 = .ok (.sipush 300, 3) := by decide +kernel
theorem d_Mod_init_127 : decode b_Mod_init 127 = .ok (.newarray .int, 2) := by decide +kernel
theorem d_Mod_init_129 : decode b_Mod_init 129 = .ok (.putfield 64, 3) := by decide +kernel
theorem d_Mod_init_132 : decode b_Mod_init 132 = .ok (.aload_n 0, 1) := by decide +kernel
theorem d_Mod_init_133 : decode b_Mod_init 133 = .ok (.sipush 300, 3) := by decide +kernel
theorem d_Mod_init_136 : decode b_Mod_init 136 = .ok (.newarray .int, 2) := by decide +kernel
theorem d_Mod_init_138 : decode b_Mod_init 138 = .ok (.putfield 67, 3) := by decide +kernel
theorem d_Mod_init_141 : decode b_Mod_init 141 = .ok (.aload_n 0, 1) := by decide +kernel
theorem d_Mod_init_142 : decode b_Mod_init 142 = .ok (.sipush 300, 3) := by decide +kernel
theorem d_Mod_init_145 : decode b_Mod_init 145 = .ok (.newarray .int, 2) := by decide +kernel
theorem d_Mod_init_147 : decode b_Mod_init 147 = .ok (.putfield 70, 3) := by decide +kernel
theorem d_Mod_init_150 : decode b_Mod_init 150 = .ok (.aload_n 0, 1) := by decide +kernel
theorem d_Mod_init_151 : decode b_Mod_init 151 = .ok (.sipush 300, 3) := by decide +kernel
theorem d_Mod_init_154 : decode b_Mod_init 154 = .ok (.newarray .int, 2) := by decide +kernel
theorem d_Mod_init_156 : decode b_Mod_init 156 = .ok (.putfield 73, 3) := by decide +kernel
theorem d_Mod_init_159 : decode b_Mod_init 159 = .ok (.aload_n 0, 1) := by decide +kernel
theorem d_Mod_init_160 : decode b_Mod_init 160 = .ok (.sipush 300, 3) := by decide +kernel
theorem d_Mod_init_163 : decode b_Mod_init 163 = .ok (.newarray .int, 2) := by decide +kernel
theorem d_Mod_init_165 : decode b_Mod_init 165 = .ok (.putfield 76, 3) := by decide +kernel
theorem d_Mod_init_168 : decode b_Mod_init 168 = .ok (.aload_n 0, 1) := by decide +kernel
theorem d_Mod_init_169 : decode b_Mod_init 169 = .ok (.iconst 0, 1) := by decide +kernel
theorem d_Mod_init_170 : decode b_Mod_init 170 = .ok (.putfield 79, 3) := by decide +kernel
theorem d_Mod_init_173 : decode b_Mod_init 173 = .ok (.aload_n 0, 1) := by decide +kernel
theorem d_Mod_init_174 : decode b_Mod_init 174 = .ok (.iconst 1, 1) := by decide +kernel
theorem d_Mod_init_175 : decode b_Mod_init 175 = .ok (.putfield 82, 3) := by decide +kernel
theorem d_Mod_init_178 : decode b_Mod_init 178 = .ok (.aload_n 0, 1) := by decide +kernel
theorem d_Mod_init_179 : decode b_Mod_init 179 = .ok (.lconst 0, 1) := by decide +kernel
theorem d_Mod_init_180 : decode b_Mod_init 180 = .ok (.putfield 85, 3) := by decide +kernel
theorem d_Mod_init_183 : decode b_Mod_init 183 = .ok (.aload_n 0, 1) := by decide +kernel
theorem d_Mod_init_184 : decode b_Mod_init 184 = .ok (.lconst 0, 1) := by decide +kernel
theorem d_Mod_init_185 : decode b_Mod_init 185 = .ok (.putfield 89, 3) := by decide +kernel
theorem d_Mod_init_188 : decode b_Mod_init 188 = .ok (.aload_n 0, 1) := by decide +kernel
theorem d_Mod_init_189 : decode b_Mod_init 189 = .ok (.sipush 600, 3) := by decide +kernel
theorem d_Mod_init_192 : decode b_Mod_init 192 = .ok (.newarray .boolean, 2) := by decide +kernel
theorem d_Mod_init_194 : decode b_Mod_init 194 = .ok (.putfield 92, 3) := by decide +kernel
theorem d_Mod_init_197 : decode b_Mod_init 197 = .ok (.aload_n 0, 1) := by decide +kernel
theorem d_Mod_init_198 : decode b_Mod_init 198 = .ok (.iload_n 1, 1) := by decide +kernel
theorem d_Mod_init_199 : decode b_Mod_init 199 = .ok (.iconst 1, 1) := by decide +kernel
theorem d_Mod_init_200 : decode b_Mod_init 200 = .ok (.if_icmp .ge 7, 3) := by decide +kernel
theorem d_Mod_init_203 : decode b_Mod_init 203 = .ok (.iconst 1, 1) := by decide +kernel
theorem d_Mod_init_204 : decode b_Mod_init 204 = .ok (.goto 17, 3) := by decide +kernel
theorem d_Mod_init_207 : decode b_Mod_init 207 = .ok (.iload_n 1, 1) := by decide +kernel
theorem d_Mod_init_208 : decode b_Mod_init 208 = .ok (.sipush 300, 3) := by decide +kernel
theorem d_Mod_init_211 : decode b_Mod_init 211 = .ok (.if_icmp .le 9, 3) := by decide +kernel
theorem d_Mod_init_214 : decode b_Mod_init 214 = .ok (.sipush 300, 3) := by decide +kernel
theorem d_Mod_init_217 : decode b_Mod_init 217 = .ok (.goto 4, 3) := by decide +kernel
theorem d_Mod_init_220 : decode b_Mod_init 220 = .ok (.iload_n 1, 1) := by decide +kernel
theorem d_Mod_init_221 : decode b_Mod_init 221 = .ok (.putfield 13, 3) := by decide +kernel
theorem d_Mod_init_224 : decode b_Mod_init 224 = .ok (.return_, 1) := by decide +kernel
theorem d_Mod_holds_0 : decode b_Mod_holds 0 = .ok (.aload_n 0, 1) := by decide +kernel
theorem d_Mod_holds_1 : decode b_Mod_holds 1 = .ok (.getfield 67, 3) := by decide +kernel
theorem d_Mod_holds_4 : decode b_Mod_holds 4 = .ok (.iload_n 1, 1) := by decide +kernel
theorem d_Mod_holds_5 : decode b_Mod_holds 5 = .ok (.iconst 2, 1) := by decide +kernel
theorem d_Mod_holds_6 : decode b_Mod_holds 6 = .ok (.idiv, 1) := by decide +kernel
theorem d_Mod_holds_7 : decode b_Mod_holds 7 = .ok (.iaload, 1) := by decide +kernel
theorem d_Mod_holds_8 : decode b_Mod_holds 8 = .ok (.iload_n 1, 1) := by decide +kernel
theorem d_Mod_holds_9 : decode b_Mod_holds 9 = .ok (.iconst 2, 1) := by decide +kernel
theorem d_Mod_holds_10 : decode b_Mod_holds 10 = .ok (.irem, 1) := by decide +kernel
theorem d_Mod_holds_11 : decode b_Mod_holds 11 = .ok (.iconst 1, 1) := by decide +kernel
theorem d_Mod_holds_12 : decode b_Mod_holds 12 = .ok (.iadd, 1) := by decide +kernel
theorem d_Mod_holds_13 : decode b_Mod_holds 13 = .ok (.if_icmp .ne 7, 3) := by decide +kernel
theorem d_Mod_holds_16 : decode b_Mod_holds 16 = .ok (.iconst 1, 1) := by decide +kernel
theorem d_Mod_holds_17 : decode b_Mod_holds 17 = .ok (.goto 4, 3) := by decide +kernel
theorem d_Mod_holds_20 : decode b_Mod_holds 20 = .ok (.iconst 0, 1) := by decide +kernel
theorem d_Mod_holds_21 : decode b_Mod_holds 21 = .ok (.ireturn, 1) := by decide +kernel
theorem d_Mod_against_0 : decode b_Mod_against 0 = .ok (.aload_n 0, 1) := by decide +kernel
theorem d_Mod_against_1 : decode b_Mod_against 1 = .ok (.getfield 67, 3) := by decide +kernel
theorem d_Mod_against_4 : decode b_Mod_against 4 = .ok (.iload_n 1, 1) := by decide +kernel
theorem d_Mod_against_5 : decode b_Mod_against 5 = .ok (.iconst 2, 1) := by decide +kernel
theorem d_Mod_against_6 : decode b_Mod_against 6 = .ok (.idiv, 1) := by decide +kernel
theorem d_Mod_against_7 : decode b_Mod_against 7 = .ok (.iaload, 1) := by decide +kernel
theorem d_Mod_against_8 : decode b_Mod_against 8 = .ok (.iconst 2, 1) := by decide +kernel
theorem d_Mod_against_9 : decode b_Mod_against 9 = .ok (.iload_n 1, 1) := by decide +kernel
theorem d_Mod_against_10 : decode b_Mod_against 10 = .ok (.iconst 2, 1) := by decide +kernel
theorem d_Mod_against_11 : decode b_Mod_against 11 = .ok (.irem, 1) := by decide +kernel
theorem d_Mod_against_12 : decode b_Mod_against 12 = .ok (.isub, 1) := by decide +kernel
theorem d_Mod_against_13 : decode b_Mod_against 13 = .ok (.if_icmp .ne 7, 3) := by decide +kernel
theorem d_Mod_against_16 : decode b_Mod_against 16 = .ok (.iconst 1, 1) := by decide +kernel
theorem d_Mod_against_17 : decode b_Mod_against 17 = .ok (.goto 4, 3) := by decide +kernel
theorem d_Mod_against_20 : decode b_Mod_against 20 = .ok (.iconst 0, 1) := by decide +kernel
theorem d_Mod_against_21 : decode b_Mod_against 21 = .ok (.ireturn, 1) := by decide +kernel
theorem d_Mod_room_0 : decode b_Mod_room 0 = .ok (.aload_n 0, 1) := by decide +kernel
theorem d_Mod_room_1 : decode b_Mod_room 1 = .ok (.getfield 27, 3) := by decide +kernel
theorem d_Mod_room_4 : decode b_Mod_room 4 = .ok (.iload_n 1, 1) := by decide +kernel
theorem d_Mod_room_5 : decode b_Mod_room 5 = .ok (.iadd, 1) := by decide +kernel
theorem d_Mod_room_6 : decode b_Mod_room 6 = .ok (.sipush 1500, 3) := by decide +kernel
theorem d_Mod_room_9 : decode b_Mod_room 9 = .ok (.if_icmp .gt 24, 3) := by decide +kernel
theorem d_Mod_room_12 : decode b_Mod_room 12 = .ok (.aload_n 0, 1) := by decide +kernel
theorem d_Mod_room_13 : decode b_Mod_room 13 = .ok (.getfield 20, 3) := by decide +kernel
theorem d_Mod_room_16 : decode b_Mod_room 16 = .ok (.aload_n 0, 1) := by decide +kernel
theorem d_Mod_room_17 : decode b_Mod_room 17 = .ok (.getfield 27, 3) := by decide +kernel
theorem d_Mod_room_20 : decode b_Mod_room 20 = .ok (.iaload, 1) := by decide +kernel
theorem d_Mod_room_21 : decode b_Mod_room 21 = .ok (.iload_n 2, 1) := by decide +kernel
theorem d_Mod_room_22 : decode b_Mod_room 22 = .ok (.iadd, 1) := by decide +kernel
theorem d_Mod_room_23 : decode b_Mod_room 23 = .ok (.sipush 20000, 3) := by decide +kernel
theorem d_Mod_room_26 : decode b_Mod_room 26 = .ok (.if_icmp .gt 7, 3) := by decide +kernel
theorem d_Mod_room_29 : decode b_Mod_room 29 = .ok (.iconst 1, 1) := by decide +kernel
theorem d_Mod_room_30 : decode b_Mod_room 30 = .ok (.goto 4, 3) := by decide +kernel
theorem d_Mod_room_33 : decode b_Mod_room 33 = .ok (.iconst 0, 1) := by decide +kernel
theorem d_Mod_room_34 : decode b_Mod_room 34 = .ok (.ireturn, 1) := by decide +kernel
theorem d_Mod_begin_0 : decode b_Mod_begin 0 = .ok (.aload_n 0, 1) := by decide +kernel
theorem d_Mod_begin_1 : decode b_Mod_begin 1 = .ok (.getfield 23, 3) := by decide +kernel
theorem d_Mod_begin_4 : decode b_Mod_begin 4 = .ok (.aload_n 0, 1) := by decide +kernel
theorem d_Mod_begin_5 : decode b_Mod_begin 5 = .ok (.getfield 27, 3) := by decide +kernel
theorem d_Mod_begin_8 : decode b_Mod_begin 8 = .ok (.iload_n 1, 1) := by decide +kernel
theorem d_Mod_begin_9 : decode b_Mod_begin 9 = .ok (.bastore, 1) := by decide +kernel
theorem d_Mod_begin_10 : decode b_Mod_begin 10 = .ok (.aload_n 0, 1) := by decide +kernel
theorem d_Mod_begin_11 : decode b_Mod_begin 11 = .ok (.dup, 1) := by decide +kernel
theorem d_Mod_begin_12 : decode b_Mod_begin 12 = .ok (.getfield 27, 3) := by decide +kernel
theorem d_Mod_begin_15 : decode b_Mod_begin 15 = .ok (.iconst 1, 1) := by decide +kernel
theorem d_Mod_begin_16 : decode b_Mod_begin 16 = .ok (.iadd, 1) := by decide +kernel
theorem d_Mod_begin_17 : decode b_Mod_begin 17 = .ok (.putfield 27, 3) := by decide +kernel
theorem d_Mod_begin_20 : decode b_Mod_begin 20 = .ok (.aload_n 0, 1) := by decide +kernel
theorem d_Mod_begin_21 : decode b_Mod_begin 21 = .ok (.getfield 20, 3) := by decide +kernel
theorem d_Mod_begin_24 : decode b_Mod_begin 24 = .ok (.aload_n 0, 1) := by decide +kernel
theorem d_Mod_begin_25 : decode b_Mod_begin 25 = .ok (.getfield 27, 3) := by decide +kernel
theorem d_Mod_begin_28 : decode b_Mod_begin 28 = .ok (.aload_n 0, 1) := by decide +kernel
theorem d_Mod_begin_29 : decode b_Mod_begin 29 = .ok (.getfield 20, 3) := by decide +kernel
theorem d_Mod_begin_32 : decode b_Mod_begin 32 = .ok (.aload_n 0, 1) := by decide +kernel
theorem d_Mod_begin_33 : decode b_Mod_begin 33 = .ok (.getfield 27, 3) := by decide +kernel
theorem d_Mod_begin_36 : decode b_Mod_begin 36 = .ok (.iconst 1, 1) := by decide +kernel
theorem d_Mod_begin_37 : decode b_Mod_begin 37 = .ok (.isub, 1) := by decide +kernel
theorem d_Mod_begin_38 : decode b_Mod_begin 38 = .ok (.iaload, 1) := by decide +kernel
theorem d_Mod_begin_39 : decode b_Mod_begin 39 = .ok (.iastore, 1) := by decide +kernel
theorem d_Mod_begin_40 : decode b_Mod_begin 40 = .ok (.return_, 1) := by decide +kernel
theorem d_Mod_put_0 : decode b_Mod_put 0 = .ok (.aload_n 0, 1) := by decide +kernel
theorem d_Mod_put_1 : decode b_Mod_put 1 = .ok (.getfield 16, 3) := by decide +kernel
theorem d_Mod_put_4 : decode b_Mod_put 4 = .ok (.aload_n 0, 1) := by decide +kernel
theorem d_Mod_put_5 : decode b_Mod_put 5 = .ok (.getfield 20, 3) := by decide +kernel
theorem d_Mod_put_8 : decode b_Mod_put 8 = .ok (.aload_n 0, 1) := by decide +kernel
theorem d_Mod_put_9 : decode b_Mod_put 9 = .ok (.getfield 27, 3) := by decide +kernel
theorem d_Mod_put_12 : decode b_Mod_put 12 = .ok (.iaload, 1) := by decide +kernel
theorem d_Mod_put_13 : decode b_Mod_put 13 = .ok (.iload_n 1, 1) := by decide +kernel
theorem d_Mod_put_14 : decode b_Mod_put 14 = .ok (.iastore, 1) := by decide +kernel
theorem d_Mod_put_15 : decode b_Mod_put 15 = .ok (.aload_n 0, 1) := by decide +kernel
theorem d_Mod_put_16 : decode b_Mod_put 16 = .ok (.getfield 20, 3) := by decide +kernel
theorem d_Mod_put_19 : decode b_Mod_put 19 = .ok (.aload_n 0, 1) := by decide +kernel
theorem d_Mod_put_20 : decode b_Mod_put 20 = .ok (.getfield 27, 3) := by decide +kernel
theorem d_Mod_put_23 : decode b_Mod_put 23 = .ok (.aload_n 0, 1) := by decide +kernel
theorem d_Mod_put_24 : decode b_Mod_put 24 = .ok (.getfield 20, 3) := by decide +kernel
theorem d_Mod_put_27 : decode b_Mod_put 27 = .ok (.aload_n 0, 1) := by decide +kernel
theorem d_Mod_put_28 : decode b_Mod_put 28 = .ok (.getfield 27, 3) := by decide +kernel
theorem d_Mod_put_31 : decode b_Mod_put 31 = .ok (.iaload, 1) := by decide +kernel
theorem d_Mod_put_32 : decode b_Mod_put 32 = .ok (.iconst 1, 1) := by decide +kernel
theorem d_Mod_put_33 : decode b_Mod_put 33 = .ok (.iadd, 1) := by decide +kernel
theorem d_Mod_put_34 : decode b_Mod_put 34 = .ok (.iastore, 1) := by decide +kernel
theorem d_Mod_put_35 : decode b_Mod_put 35 = .ok (.return_, 1) := by decide +kernel
theorem d_Mod_comes_0 : decode b_Mod_comes 0 = .ok (.iload_n 1, 1) := by decide +kernel
theorem d_Mod_comes_1 : decode b_Mod_comes 1 = .ok (.iconst 2, 1) := by decide +kernel
theorem d_Mod_comes_2 : decode b_Mod_comes 2 = .ok (.idiv, 1) := by decide +kernel
theorem d_Mod_comes_3 : decode b_Mod_comes 3 = .ok (.istore 4, 2) := by decide +kernel
theorem d_Mod_comes_5 : decode b_Mod_comes 5 = .ok (.aload_n 0, 1) := by decide +kernel
theorem d_Mod_comes_6 : decode b_Mod_comes 6 = .ok (.getfield 67, 3) := by decide +kernel
theorem d_Mod_comes_9 : decode b_Mod_comes 9 = .ok (.iload 4, 2) := by decide +kernel
theorem d_Mod_comes_11 : decode b_Mod_comes 11 = .ok (.iload_n 1, 1) := by decide +kernel
theorem d_Mod_comes_12 : decode b_Mod_comes 12 = .ok (.iconst 2, 1) := by decide +kernel
theorem d_Mod_comes_13 : decode b_Mod_comes 13 = .ok (.irem, 1) := by decide +kernel
theorem d_Mod_comes_14 : decode b_Mod_comes 14 = .ok (.iconst 1, 1) := by decide +kernel
theorem d_Mod_comes_15 : decode b_Mod_comes 15 = .ok (.iadd, 1) := by decide +kernel
theorem d_Mod_comes_16 : decode b_Mod_comes 16 = .ok (.iastore, 1) := by decide +kernel
theorem d_Mod_comes_17 : decode b_Mod_comes 17 = .ok (.aload_n 0, 1) := by decide +kernel
theorem d_Mod_comes_18 : decode b_Mod_comes 18 = .ok (.getfield 70, 3) := by decide +kernel
theorem d_Mod_comes_21 : decode b_Mod_comes 21 = .ok (.iload 4, 2) := by decide +kernel
theorem d_Mod_comes_23 : decode b_Mod_comes 23 = .ok (.iload_n 2, 1) := by decide +kernel
theorem d_Mod_comes_24 : decode b_Mod_comes 24 = .ok (.iastore, 1) := by decide +kernel
theorem d_Mod_comes_25 : decode b_Mod_comes 25 = .ok (.aload_n 0, 1) := by decide +kernel
theorem d_Mod_comes_26 : decode b_Mod_comes 26 = .ok (.getfield 73, 3) := by decide +kernel
theorem d_Mod_comes_29 : decode b_Mod_comes 29 = .ok (.iload 4, 2) := by decide +kernel
theorem d_Mod_comes_31 : decode b_Mod_comes 31 = .ok (.iload_n 3, 1) := by decide +kernel
theorem d_Mod_comes_32 : decode b_Mod_comes 32 = .ok (.iastore, 1) := by decide +kernel
theorem d_Mod_comes_33 : decode b_Mod_comes 33 = .ok (.aload_n 0, 1) := by decide +kernel
theorem d_Mod_comes_34 : decode b_Mod_comes 34 = .ok (.getfield 76, 3) := by decide +kernel
theorem d_Mod_comes_37 : decode b_Mod_comes 37 = .ok (.iload 4, 2) := by decide +kernel
theorem d_Mod_comes_39 : decode b_Mod_comes 39 = .ok (.aload_n 0, 1) := by decide +kernel
theorem d_Mod_comes_40 : decode b_Mod_comes 40 = .ok (.getfield 61, 3) := by decide +kernel
theorem d_Mod_comes_43 : decode b_Mod_comes 43 = .ok (.iastore, 1) := by decide +kernel
theorem d_Mod_comes_44 : decode b_Mod_comes 44 = .ok (.aload_n 0, 1) := by decide +kernel
theorem d_Mod_comes_45 : decode b_Mod_comes 45 = .ok (.getfield 64, 3) := by decide +kernel
theorem d_Mod_comes_48 : decode b_Mod_comes 48 = .ok (.aload_n 0, 1) := by decide +kernel
theorem d_Mod_comes_49 : decode b_Mod_comes 49 = .ok (.getfield 61, 3) := by decide +kernel
theorem d_Mod_comes_52 : decode b_Mod_comes 52 = .ok (.iload 4, 2) := by decide +kernel
theorem d_Mod_comes_54 : decode b_Mod_comes 54 = .ok (.iastore, 1) := by decide +kernel
theorem d_Mod_comes_55 : decode b_Mod_comes 55 = .ok (.aload_n 0, 1) := by decide +kernel
theorem d_Mod_comes_56 : decode b_Mod_comes 56 = .ok (.dup, 1) := by decide +kernel
theorem d_Mod_comes_57 : decode b_Mod_comes 57 = .ok (.getfield 61, 3) := by decide +kernel
theorem d_Mod_comes_60 : decode b_Mod_comes 60 = .ok (.iconst 1, 1) := by decide +kernel
theorem d_Mod_comes_61 : decode b_Mod_comes 61 = .ok (.iadd, 1) := by decide +kernel
theorem d_Mod_comes_62 : decode b_Mod_comes 62 = .ok (.putfield 61, 3) := by decide +kernel
theorem d_Mod_comes_65 : decode b_Mod_comes 65 = .ok (.return_, 1) := by decide +kernel
