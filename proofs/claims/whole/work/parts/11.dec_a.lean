theorem dX0_init_0 : decode (m_code mX0_init) 0 = .ok (.aload_n 0, 1) := by decide +kernel
theorem dX0_init_1 : decode (m_code mX0_init) 1 = .ok (.invokespecial 3, 3) := by decide +kernel
theorem dX0_init_4 : decode (m_code mX0_init) 4 = .ok (.aload_n 0, 1) := by decide +kernel
theorem dX0_init_5 : decode (m_code mX0_init) 5 = .ok (.iconst 5, 1) := by decide +kernel
theorem dX0_init_6 : decode (m_code mX0_init) 6 = .ok (.newarray .int, 2) := by decide +kernel
theorem dX0_init_8 : decode (m_code mX0_init) 8 = .ok (.putfield 9, 3) := by decide +kernel
theorem dX0_init_11 : decode (m_code mX0_init) 11 = .ok (.aload_n 0, 1) := by decide +kernel
theorem dX0_init_12 : decode (m_code mX0_init) 12 = .ok (.bipush 100, 2) := by decide +kernel
theorem dX0_init_14 : decode (m_code mX0_init) 14 = .ok (.newarray .int, 2) := by decide +kernel
theorem dX0_init_16 : decode (m_code mX0_init) 16 = .ok (.putfield 15, 3) := by decide +kernel
theorem dX0_init_19 : decode (m_code mX0_init) 19 = .ok (.return_, 1) := by decide +kernel
theorem dX0_behind_0 : decode (m_code mX0_behind) 0 = .ok (.iload_n 2, 1) := by decide +kernel
theorem dX0_behind_1 : decode (m_code mX0_behind) 1 = .ok (.istore 4, 2) := by decide +kernel
theorem dX0_behind_3 : decode (m_code mX0_behind) 3 = .ok (.aload_n 1, 1) := by decide +kernel
theorem dX0_behind_4 : decode (m_code mX0_behind) 4 = .ok (.getfield 18, 3) := by decide +kernel
theorem dX0_behind_7 : decode (m_code mX0_behind) 7 = .ok (.iload_n 2, 1) := by decide +kernel
theorem dX0_behind_8 : decode (m_code mX0_behind) 8 = .ok (.iaload, 1) := by decide +kernel
theorem dX0_behind_9 : decode (m_code mX0_behind) 9 = .ok (.istore 5, 2) := by decide +kernel
theorem dX0_behind_11 : decode (m_code mX0_behind) 11 = .ok (.iload 5, 2) := by decide +kernel
theorem dX0_behind_13 : decode (m_code mX0_behind) 13 = .ok (.ifCond .lt 36, 3) := by decide +kernel
theorem dX0_behind_16 : decode (m_code mX0_behind) 16 = .ok (.aload_n 0, 1) := by decide +kernel
theorem dX0_behind_17 : decode (m_code mX0_behind) 17 = .ok (.getfield 15, 3) := by decide +kernel
theorem dX0_behind_20 : decode (m_code mX0_behind) 20 = .ok (.iload 5, 2) := by decide +kernel
theorem dX0_behind_22 : decode (m_code mX0_behind) 22 = .ok (.iload 4, 2) := by decide +kernel
theorem dX0_behind_24 : decode (m_code mX0_behind) 24 = .ok (.iastore, 1) := by decide +kernel
theorem dX0_behind_25 : decode (m_code mX0_behind) 25 = .ok (.iload 5, 2) := by decide +kernel
theorem dX0_behind_27 : decode (m_code mX0_behind) 27 = .ok (.ifCond .le 13, 3) := by decide +kernel
theorem dX0_behind_30 : decode (m_code mX0_behind) 30 = .ok (.aload_n 1, 1) := by decide +kernel
theorem dX0_behind_31 : decode (m_code mX0_behind) 31 = .ok (.getfield 23, 3) := by decide +kernel
theorem dX0_behind_34 : decode (m_code mX0_behind) 34 = .ok (.iload 4, 2) := by decide +kernel
theorem dX0_behind_36 : decode (m_code mX0_behind) 36 = .ok (.iaload, 1) := by decide +kernel
theorem dX0_behind_37 : decode (m_code mX0_behind) 37 = .ok (.goto 4, 3) := by decide +kernel
theorem dX0_behind_40 : decode (m_code mX0_behind) 40 = .ok (.iconst 0, 1) := by decide +kernel
theorem dX0_behind_41 : decode (m_code mX0_behind) 41 = .ok (.istore 4, 2) := by decide +kernel
theorem dX0_behind_43 : decode (m_code mX0_behind) 43 = .ok (.iinc 5 (-1), 3) := by decide +kernel
theorem dX0_behind_46 : decode (m_code mX0_behind) 46 = .ok (.goto (-35), 3) := by decide +kernel
theorem dX0_behind_49 : decode (m_code mX0_behind) 49 = .ok (.aload_n 0, 1) := by decide +kernel
theorem dX0_behind_50 : decode (m_code mX0_behind) 50 = .ok (.getfield 9, 3) := by decide +kernel
theorem dX0_behind_53 : decode (m_code mX0_behind) 53 = .ok (.bipush 10, 2) := by decide +kernel
theorem dX0_behind_55 : decode (m_code mX0_behind) 55 = .ok (.invokestatic 26, 3) := by decide +kernel
theorem dX0_behind_58 : decode (m_code mX0_behind) 58 = .ok (.iconst 0, 1) := by decide +kernel
theorem dX0_behind_59 : decode (m_code mX0_behind) 59 = .ok (.istore 5, 2) := by decide +kernel
theorem dX0_behind_61 : decode (m_code mX0_behind) 61 = .ok (.iload 5, 2) := by decide +kernel
theorem dX0_behind_63 : decode (m_code mX0_behind) 63 = .ok (.aload_n 1, 1) := by decide +kernel
theorem dX0_behind_64 : decode (m_code mX0_behind) 64 = .ok (.getfield 18, 3) := by decide +kernel
theorem dX0_behind_67 : decode (m_code mX0_behind) 67 = .ok (.iload_n 2, 1) := by decide +kernel
theorem dX0_behind_68 : decode (m_code mX0_behind) 68 = .ok (.iaload, 1) := by decide +kernel
theorem dX0_behind_69 : decode (m_code mX0_behind) 69 = .ok (.if_icmp .gt 25, 3) := by decide +kernel
theorem dX0_behind_72 : decode (m_code mX0_behind) 72 = .ok (.aload_n 0, 1) := by decide +kernel
theorem dX0_behind_73 : decode (m_code mX0_behind) 73 = .ok (.aload_n 1, 1) := by decide +kernel
theorem dX0_behind_74 : decode (m_code mX0_behind) 74 = .ok (.getfield 32, 3) := by decide +kernel
theorem dX0_behind_77 : decode (m_code mX0_behind) 77 = .ok (.aload_n 0, 1) := by decide +kernel
theorem dX0_behind_78 : decode (m_code mX0_behind) 78 = .ok (.getfield 15, 3) := by decide +kernel
theorem dX0_behind_81 : decode (m_code mX0_behind) 81 = .ok (.iload 5, 2) := by decide +kernel
theorem dX0_behind_83 : decode (m_code mX0_behind) 83 = .ok (.iaload, 1) := by decide +kernel
theorem dX0_behind_84 : decode (m_code mX0_behind) 84 = .ok (.iaload, 1) := by decide +kernel
theorem dX0_behind_85 : decode (m_code mX0_behind) 85 = .ok (.invokevirtual 35, 3) := by decide +kernel
theorem dX0_behind_88 : decode (m_code mX0_behind) 88 = .ok (.iinc 5 1, 3) := by decide +kernel
theorem dX0_behind_91 : decode (m_code mX0_behind) 91 = .ok (.goto (-30), 3) := by decide +kernel
theorem dX0_behind_94 : decode (m_code mX0_behind) 94 = .ok (.aload_n 0, 1) := by decide +kernel
theorem dX0_behind_95 : decode (m_code mX0_behind) 95 = .ok (.getfield 9, 3) := by decide +kernel
theorem dX0_behind_98 : decode (m_code mX0_behind) 98 = .ok (.iload_n 3, 1) := by decide +kernel
theorem dX0_behind_99 : decode (m_code mX0_behind) 99 = .ok (.iaload, 1) := by decide +kernel
theorem dX0_behind_100 : decode (m_code mX0_behind) 100 = .ok (.ireturn, 1) := by decide +kernel
theorem dX0_apply_0 : decode (m_code mX0_apply) 0 = .ok (.iload_n 1, 1) := by decide +kernel
theorem dX0_apply_1 : decode (m_code mX0_apply) 1 = .ok (.bipush 50, 2) := by decide +kernel
theorem dX0_apply_3 : decode (m_code mX0_apply) 3 = .ok (.idiv, 1) := by decide +kernel
theorem dX0_apply_4 : decode (m_code mX0_apply) 4 = .ok (.iconst 5, 1) := by decide +kernel
theorem dX0_apply_5 : decode (m_code mX0_apply) 5 = .ok (.irem, 1) := by decide +kernel
theorem dX0_apply_6 : decode (m_code mX0_apply) 6 = .ok (.istore_n 2, 1) := by decide +kernel
theorem dX0_apply_7 : decode (m_code mX0_apply) 7 = .ok (.iload_n 2, 1) := by decide +kernel
theorem dX0_apply_8 : decode (m_code mX0_apply) 8 = .ok (.iconst 1, 1) := by decide +kernel
theorem dX0_apply_9 : decode (m_code mX0_apply) 9 = .ok (.iadd, 1) := by decide +kernel
theorem dX0_apply_10 : decode (m_code mX0_apply) 10 = .ok (.iconst 5, 1) := by decide +kernel
theorem dX0_apply_11 : decode (m_code mX0_apply) 11 = .ok (.irem, 1) := by decide +kernel
theorem dX0_apply_12 : decode (m_code mX0_apply) 12 = .ok (.istore_n 3, 1) := by decide +kernel
theorem dX0_apply_13 : decode (m_code mX0_apply) 13 = .ok (.iload_n 1, 1) := by decide +kernel
theorem dX0_apply_14 : decode (m_code mX0_apply) 14 = .ok (.bipush 50, 2) := by decide +kernel
theorem dX0_apply_16 : decode (m_code mX0_apply) 16 = .ok (.irem, 1) := by decide +kernel
theorem dX0_apply_17 : decode (m_code mX0_apply) 17 = .ok (.istore 4, 2) := by decide +kernel
theorem dX0_apply_19 : decode (m_code mX0_apply) 19 = .ok (.iload_n 1, 1) := by decide +kernel
theorem dX0_apply_20 : decode (m_code mX0_apply) 20 = .ok (.sipush 250, 3) := by decide +kernel
theorem dX0_apply_23 : decode (m_code mX0_apply) 23 = .ok (.idiv, 1) := by decide +kernel
theorem dX0_apply_24 : decode (m_code mX0_apply) 24 = .ok (.tableswitch 84 0 2 #[28, 42, 64], 28) := by decide +kernel
theorem dX0_apply_52 : decode (m_code mX0_apply) 52 = .ok (.aload_n 0, 1) := by decide +kernel
theorem dX0_apply_53 : decode (m_code mX0_apply) 53 = .ok (.getfield 9, 3) := by decide +kernel
theorem dX0_apply_56 : decode (m_code mX0_apply) 56 = .ok (.iload_n 2, 1) := by decide +kernel
theorem dX0_apply_57 : decode (m_code mX0_apply) 57 = .ok (.dup2, 1) := by decide +kernel
theorem dX0_apply_58 : decode (m_code mX0_apply) 58 = .ok (.iaload, 1) := by decide +kernel
theorem dX0_apply_59 : decode (m_code mX0_apply) 59 = .ok (.iload 4, 2) := by decide +kernel
theorem dX0_apply_61 : decode (m_code mX0_apply) 61 = .ok (.iadd, 1) := by decide +kernel
theorem dX0_apply_62 : decode (m_code mX0_apply) 62 = .ok (.iastore, 1) := by decide +kernel
theorem dX0_apply_63 : decode (m_code mX0_apply) 63 = .ok (.goto 57, 3) := by decide +kernel
theorem dX0_apply_66 : decode (m_code mX0_apply) 66 = .ok (.aload_n 0, 1) := by decide +kernel
theorem dX0_apply_67 : decode (m_code mX0_apply) 67 = .ok (.getfield 9, 3) := by decide +kernel
theorem dX0_apply_70 : decode (m_code mX0_apply) 70 = .ok (.iload_n 2, 1) := by decide +kernel
theorem dX0_apply_71 : decode (m_code mX0_apply) 71 = .ok (.iconst 0, 1) := by decide +kernel
theorem dX0_apply_72 : decode (m_code mX0_apply) 72 = .ok (.aload_n 0, 1) := by decide +kernel
theorem dX0_apply_73 : decode (m_code mX0_apply) 73 = .ok (.getfield 9, 3) := by decide +kernel
theorem dX0_apply_76 : decode (m_code mX0_apply) 76 = .ok (.iload_n 2, 1) := by decide +kernel
theorem dX0_apply_77 : decode (m_code mX0_apply) 77 = .ok (.iaload, 1) := by decide +kernel
theorem dX0_apply_78 : decode (m_code mX0_apply) 78 = .ok (.iload 4, 2) := by decide +kernel
theorem dX0_apply_80 : decode (m_code mX0_apply) 80 = .ok (.isub, 1) := by decide +kernel
theorem dX0_apply_81 : decode (m_code mX0_apply) 81 = .ok (.invokestatic 39, 3) := by decide +kernel
theorem dX0_apply_84 : decode (m_code mX0_apply) 84 = .ok (.iastore, 1) := by decide +kernel
theorem dX0_apply_85 : decode (m_code mX0_apply) 85 = .ok (.goto 35, 3) := by decide +kernel
theorem dX0_apply_88 : decode (m_code mX0_apply) 88 = .ok (.aload_n 0, 1) := by decide +kernel
theorem dX0_apply_89 : decode (m_code mX0_apply) 89 = .ok (.iload_n 2, 1) := by decide +kernel
theorem dX0_apply_90 : decode (m_code mX0_apply) 90 = .ok (.iload_n 3, 1) := by decide +kernel
theorem dX0_apply_91 : decode (m_code mX0_apply) 91 = .ok (.iload 4, 2) := by decide +kernel
theorem dX0_apply_93 : decode (m_code mX0_apply) 93 = .ok (.aload_n 0, 1) := by decide +kernel
theorem dX0_apply_94 : decode (m_code mX0_apply) 94 = .ok (.getfield 9, 3) := by decide +kernel
theorem dX0_apply_97 : decode (m_code mX0_apply) 97 = .ok (.iload_n 2, 1) := by decide +kernel
theorem dX0_apply_98 : decode (m_code mX0_apply) 98 = .ok (.iaload, 1) := by decide +kernel
theorem dX0_apply_99 : decode (m_code mX0_apply) 99 = .ok (.invokestatic 45, 3) := by decide +kernel
theorem dX0_apply_102 : decode (m_code mX0_apply) 102 = .ok (.invokevirtual 48, 3) := by decide +kernel
theorem dX0_apply_105 : decode (m_code mX0_apply) 105 = .ok (.goto 15, 3) := by decide +kernel
theorem dX0_apply_108 : decode (m_code mX0_apply) 108 = .ok (.aload_n 0, 1) := by decide +kernel
theorem dX0_apply_109 : decode (m_code mX0_apply) 109 = .ok (.iload_n 3, 1) := by decide +kernel
theorem dX0_apply_110 : decode (m_code mX0_apply) 110 = .ok (.iload_n 2, 1) := by decide +kernel
theorem dX0_apply_111 : decode (m_code mX0_apply) 111 = .ok (.aload_n 0, 1) := by decide +kernel
theorem dX0_apply_112 : decode (m_code mX0_apply) 112 = .ok (.getfield 9, 3) := by decide +kernel
theorem dX0_apply_115 : decode (m_code mX0_apply) 115 = .ok (.iload_n 3, 1) := by decide +kernel
theorem dX0_apply_116 : decode (m_code mX0_apply) 116 = .ok (.iaload, 1) := by decide +kernel
theorem dX0_apply_117 : decode (m_code mX0_apply) 117 = .ok (.invokevirtual 48, 3) := by decide +kernel
theorem dX0_apply_120 : decode (m_code mX0_apply) 120 = .ok (.return_, 1) := by decide +kernel
theorem dX0_move_0 : decode (m_code mX0_move) 0 = .ok (.aload_n 0, 1) := by decide +kernel
theorem dX0_move_1 : decode (m_code mX0_move) 1 = .ok (.getfield 9, 3) := by decide +kernel
theorem dX0_move_4 : decode (m_code mX0_move) 4 = .ok (.iload_n 1, 1) := by decide +kernel
theorem dX0_move_5 : decode (m_code mX0_move) 5 = .ok (.dup2, 1) := by decide +kernel
theorem dX0_move_6 : decode (m_code mX0_move) 6 = .ok (.iaload, 1) := by decide +kernel
theorem dX0_move_7 : decode (m_code mX0_move) 7 = .ok (.iload_n 3, 1) := by decide +kernel
theorem dX0_move_8 : decode (m_code mX0_move) 8 = .ok (.isub, 1) := by decide +kernel
theorem dX0_move_9 : decode (m_code mX0_move) 9 = .ok (.iastore, 1) := by decide +kernel
theorem dX0_move_10 : decode (m_code mX0_move) 10 = .ok (.aload_n 0, 1) := by decide +kernel
theorem dX0_move_11 : decode (m_code mX0_move) 11 = .ok (.getfield 9, 3) := by decide +kernel
theorem dX0_move_14 : decode (m_code mX0_move) 14 = .ok (.iload_n 2, 1) := by decide +kernel
theorem dX0_move_15 : decode (m_code mX0_move) 15 = .ok (.dup2, 1) := by decide +kernel
theorem dX0_move_16 : decode (m_code mX0_move) 16 = .ok (.iaload, 1) := by decide +kernel
theorem dX0_move_17 : decode (m_code mX0_move) 17 = .ok (.iload_n 3, 1) := by decide +kernel
theorem dX0_move_18 : decode (m_code mX0_move) 18 = .ok (.iadd, 1) := by decide +kernel
theorem dX0_move_19 : decode (m_code mX0_move) 19 = .ok (.iastore, 1) := by decide +kernel
theorem dX0_move_20 : decode (m_code mX0_move) 20 = .ok (.return_, 1) := by decide +kernel
theorem dX1_init_0 : decode (m_code mX1_init) 0 = .ok (.aload_n 0, 1) := by decide +kernel
theorem dX1_init_1 : decode (m_code mX1_init) 1 = .ok (.invokespecial 3, 3) := by decide +kernel
theorem dX1_init_4 : decode (m_code mX1_init) 4 = .ok (.aload_n 0, 1) := by decide +kernel
theorem dX1_init_5 : decode (m_code mX1_init) 5 = .ok (.bipush 100, 2) := by decide +kernel
theorem dX1_init_7 : decode (m_code mX1_init) 7 = .ok (.newarray .int, 2) := by decide +kernel
theorem dX1_init_9 : decode (m_code mX1_init) 9 = .ok (.putfield 9, 3) := by decide +kernel
theorem dX1_init_12 : decode (m_code mX1_init) 12 = .ok (.aload_n 0, 1) := by decide +kernel
theorem dX1_init_13 : decode (m_code mX1_init) 13 = .ok (.bipush 100, 2) := by decide +kernel
theorem dX1_init_15 : decode (m_code mX1_init) 15 = .ok (.newarray .int, 2) := by decide +kernel
theorem dX1_init_17 : decode (m_code mX1_init) 17 = .ok (.putfield 15, 3) := by decide +kernel
theorem dX1_init_20 : decode (m_code mX1_init) 20 = .ok (.aload_n 0, 1) := by decide +kernel
theorem dX1_init_21 : decode (m_code mX1_init) 21 = .ok (.bipush 100, 2) := by decide +kernel
theorem dX1_init_23 : decode (m_code mX1_init) 23 = .ok (.newarray .int, 2) := by decide +kernel
theorem dX1_init_25 : decode (m_code mX1_init) 25 = .ok (.putfield 18, 3) := by decide +kernel
theorem dX1_init_28 : decode (m_code mX1_init) 28 = .ok (.aload_n 0, 1) := by decide +kernel
theorem dX1_init_29 : decode (m_code mX1_init) 29 = .ok (.bipush 100, 2) := by decide +kernel
theorem dX1_init_31 : decode (m_code mX1_init) 31 = .ok (.newarray .int, 2) := by decide +kernel
theorem dX1_init_33 : decode (m_code mX1_init) 33 = .ok (.putfield 21, 3) := by decide +kernel
theorem dX1_init_36 : decode (m_code mX1_init) 36 = .ok (.aload_n 0, 1) := by decide +kernel
theorem dX1_init_37 : decode (m_code mX1_init) 37 = .ok (.bipush 100, 2) := by decide +kernel
theorem dX1_init_39 : decode (m_code mX1_init) 39 = .ok (.newarray .int, 2) := by decide +kernel
theorem dX1_init_41 : decode (m_code mX1_init) 41 = .ok (.putfield 24, 3) := by decide +kernel
theorem dX1_init_44 : decode (m_code mX1_init) 44 = .ok (.aload_n 0, 1) := by decide +kernel
theorem dX1_init_45 : decode (m_code mX1_init) 45 = .ok (.bipush 100, 2) := by decide +kernel
theorem dX1_init_47 : decode (m_code mX1_init) 47 = .ok (.newarray .int, 2) := by decide +kernel
theorem dX1_init_49 : decode (m_code mX1_init) 49 = .ok (.putfield 27, 3) := by decide +kernel
theorem dX1_init_52 : decode (m_code mX1_init) 52 = .ok (.aload_n 0, 1) := by decide +kernel
theorem dX1_init_53 : decode (m_code mX1_init) 53 = .ok (.bipush 100, 2) := by decide +kernel
theorem dX1_init_55 : decode (m_code mX1_init) 55 = .ok (.newarray .int, 2) := by decide +kernel
theorem dX1_init_57 : decode (m_code mX1_init) 57 = .ok (.putfield 30, 3) := by decide +kernel
theorem dX1_init_60 : decode (m_code mX1_init) 60 = .ok (.aload_n 0, 1) := by decide +kernel
theorem dX1_init_61 : decode (m_code mX1_init) 61 = .ok (.bipush 100, 2) := by decide +kernel
theorem dX1_init_63 : decode (m_code mX1_init) 63 = .ok (.newarray .int, 2) := by decide +kernel
theorem dX1_init_65 : decode (m_code mX1_init) 65 = .ok (.putfield 33, 3) := by decide +kernel
theorem dX1_init_68 : decode (m_code mX1_init) 68 = .ok (.aload_n 0, 1) := by decide +kernel
theorem dX1_init_69 : decode (m_code mX1_init) 69 = .ok (.iconst 1, 1) := by decide +kernel
theorem dX1_init_70 : decode (m_code mX1_init) 70 = .ok (.putfield 36, 3) := by decide +kernel
theorem dX1_init_73 : decode (m_code mX1_init) 73 = .ok (.aload_n 0, 1) := by decide +kernel
theorem dX1_init_74 : decode (m_code mX1_init) 74 = .ok (.getfield 15, 3) := by decide +kernel
theorem dX1_init_77 : decode (m_code mX1_init) 77 = .ok (.iconst 0, 1) := by decide +kernel
theorem dX1_init_78 : decode (m_code mX1_init) 78 = .ok (.iconst (-1), 1) := by decide +kernel
theorem dX1_init_79 : decode (m_code mX1_init) 79 = .ok (.iastore, 1) := by decide +kernel
theorem dX1_init_80 : decode (m_code mX1_init) 80 = .ok (.aload_n 0, 1) := by decide +kernel
theorem dX1_init_81 : decode (m_code mX1_init) 81 = .ok (.getfield 24, 3) := by decide +kernel
theorem dX1_init_84 : decode (m_code mX1_init) 84 = .ok (.iconst 0, 1) := by decide +kernel
theorem dX1_init_85 : decode (m_code mX1_init) 85 = .ok (.iconst (-1), 1) := by decide +kernel
theorem dX1_init_86 : decode (m_code mX1_init) 86 = .ok (.iastore, 1) := by decide +kernel
theorem dX1_init_87 : decode (m_code mX1_init) 87 = .ok (.aload_n 0, 1) := by decide +kernel
theorem dX1_init_88 : decode (m_code mX1_init) 88 = .ok (.getfield 33, 3) := by decide +kernel
theorem dX1_init_91 : decode (m_code mX1_init) 91 = .ok (.iconst 0, 1) := by decide +kernel
theorem dX1_init_92 : decode (m_code mX1_init) 92 = .ok (.iconst 1, 1) := by decide +kernel
theorem dX1_init_93 : decode (m_code mX1_init) 93 = .ok (.iastore, 1) := by decide +kernel
theorem dX1_init_94 : decode (m_code mX1_init) 94 = .ok (.return_, 1) := by decide +kernel
theorem dX1_copyFrom_0 : decode (m_code mX1_copyFrom) 0 = .ok (.aload_n 0, 1) := by decide +kernel
theorem dX1_copyFrom_1 : decode (m_code mX1_copyFrom) 1 = .ok (.aload_n 1, 1) := by decide +kernel
theorem dX1_copyFrom_2 : decode (m_code mX1_copyFrom) 2 = .ok (.getfield 36, 3) := by decide +kernel
theorem dX1_copyFrom_5 : decode (m_code mX1_copyFrom) 5 = .ok (.putfield 36, 3) := by decide +kernel
theorem dX1_copyFrom_8 : decode (m_code mX1_copyFrom) 8 = .ok (.aload_n 1, 1) := by decide +kernel
theorem dX1_copyFrom_9 : decode (m_code mX1_copyFrom) 9 = .ok (.getfield 9, 3) := by decide +kernel
theorem dX1_copyFrom_12 : decode (m_code mX1_copyFrom) 12 = .ok (.iconst 0, 1) := by decide +kernel
theorem dX1_copyFrom_13 : decode (m_code mX1_copyFrom) 13 = .ok (.aload_n 0, 1) := by decide +kernel
theorem dX1_copyFrom_14 : decode (m_code mX1_copyFrom) 14 = .ok (.getfield 9, 3) := by decide +kernel
theorem dX1_copyFrom_17 : decode (m_code mX1_copyFrom) 17 = .ok (.iconst 0, 1) := by decide +kernel
theorem dX1_copyFrom_18 : decode (m_code mX1_copyFrom) 18 = .ok (.bipush 100, 2) := by decide +kernel
theorem dX1_copyFrom_20 : decode (m_code mX1_copyFrom) 20 = .ok (.invokestatic 40, 3) := by decide +kernel
theorem dX1_copyFrom_23 : decode (m_code mX1_copyFrom) 23 = .ok (.aload_n 1, 1) := by decide +kernel
theorem dX1_copyFrom_24 : decode (m_code mX1_copyFrom) 24 = .ok (.getfield 15, 3) := by decide +kernel
theorem dX1_copyFrom_27 : decode (m_code mX1_copyFrom) 27 = .ok (.iconst 0, 1) := by decide +kernel
theorem dX1_copyFrom_28 : decode (m_code mX1_copyFrom) 28 = .ok (.aload_n 0, 1) := by decide +kernel
theorem dX1_copyFrom_29 : decode (m_code mX1_copyFrom) 29 = .ok (.getfield 15, 3) := by decide +kernel
theorem dX1_copyFrom_32 : decode (m_code mX1_copyFrom) 32 = .ok (.iconst 0, 1) := by decide +kernel
theorem dX1_copyFrom_33 : decode (m_code mX1_copyFrom) 33 = .ok (.bipush 100, 2) := by decide +kernel
theorem dX1_copyFrom_35 : decode (m_code mX1_copyFrom) 35 = .ok (.invokestatic 40, 3) := by decide +kernel
theorem dX1_copyFrom_38 : decode (m_code mX1_copyFrom) 38 = .ok (.aload_n 1, 1) := by decide +kernel
theorem dX1_copyFrom_39 : decode (m_code mX1_copyFrom) 39 = .ok (.getfield 18, 3) := by decide +kernel
theorem dX1_copyFrom_42 : decode (m_code mX1_copyFrom) 42 = .ok (.iconst 0, 1) := by decide +kernel
theorem dX1_copyFrom_43 : decode (m_code mX1_copyFrom) 43 = .ok (.aload_n 0, 1) := by decide +kernel
theorem dX1_copyFrom_44 : decode (m_code mX1_copyFrom) 44 = .ok (.getfield 18, 3) := by decide +kernel
theorem dX1_copyFrom_47 : decode (m_code mX1_copyFrom) 47 = .ok (.iconst 0, 1) := by decide +kernel
theorem dX1_copyFrom_48 : decode (m_code mX1_copyFrom) 48 = .ok (.bipush 100, 2) := by decide +kernel
theorem dX1_copyFrom_50 : decode (m_code mX1_copyFrom) 50 = .ok (.invokestatic 40, 3) := by decide +kernel
theorem dX1_copyFrom_53 : decode (m_code mX1_copyFrom) 53 = .ok (.aload_n 1, 1) := by decide +kernel
theorem dX1_copyFrom_54 : decode (m_code mX1_copyFrom) 54 = .ok (.getfield 21, 3) := by decide +kernel
theorem dX1_copyFrom_57 : decode (m_code mX1_copyFrom) 57 = .ok (.iconst 0, 1) := by decide +kernel
theorem dX1_copyFrom_58 : decode (m_code mX1_copyFrom) 58 = .ok (.aload_n 0, 1) := by decide +kernel
theorem dX1_copyFrom_59 : decode (m_code mX1_copyFrom) 59 = .ok (.getfield 21, 3) := by decide +kernel
theorem dX1_copyFrom_62 : decode (m_code mX1_copyFrom) 62 = .ok (.iconst 0, 1) := by decide +kernel
theorem dX1_copyFrom_63 : decode (m_code mX1_copyFrom) 63 = .ok (.bipush 100, 2) := by decide +kernel
theorem dX1_copyFrom_65 : decode (m_code mX1_copyFrom) 65 = .ok (.invokestatic 40, 3) := by decide +kernel
theorem dX1_copyFrom_68 : decode (m_code mX1_copyFrom) 68 = .ok (.aload_n 1, 1) := by decide +kernel
theorem dX1_copyFrom_69 : decode (m_code mX1_copyFrom) 69 = .ok (.getfield 24, 3) := by decide +kernel
theorem dX1_copyFrom_72 : decode (m_code mX1_copyFrom) 72 = .ok (.iconst 0, 1) := by decide +kernel
theorem dX1_copyFrom_73 : decode (m_code mX1_copyFrom) 73 = .ok (.aload_n 0, 1) := by decide +kernel
theorem dX1_copyFrom_74 : decode (m_code mX1_copyFrom) 74 = .ok (.getfield 24, 3) := by decide +kernel
theorem dX1_copyFrom_77 : decode (m_code mX1_copyFrom) 77 = .ok (.iconst 0, 1) := by decide +kernel
theorem dX1_copyFrom_78 : decode (m_code mX1_copyFrom) 78 = .ok (.bipush 100, 2) := by decide +kernel
theorem dX1_copyFrom_80 : decode (m_code mX1_copyFrom) 80 = .ok (.invokestatic 40, 3) := by decide +kernel
theorem dX1_copyFrom_83 : decode (m_code mX1_copyFrom) 83 = .ok (.aload_n 1, 1) := by decide +kernel
theorem dX1_copyFrom_84 : decode (m_code mX1_copyFrom) 84 = .ok (.getfield 27, 3) := by decide +kernel
theorem dX1_copyFrom_87 : decode (m_code mX1_copyFrom) 87 = .ok (.iconst 0, 1) := by decide +kernel
theorem dX1_copyFrom_88 : decode (m_code mX1_copyFrom) 88 = .ok (.aload_n 0, 1) := by decide +kernel
theorem dX1_copyFrom_89 : decode (m_code mX1_copyFrom) 89 = .ok (.getfield 27, 3) := by decide +kernel
theorem dX1_copyFrom_92 : decode (m_code mX1_copyFrom) 92 = .ok (.iconst 0, 1) := by decide +kernel
theorem dX1_copyFrom_93 : decode (m_code mX1_copyFrom) 93 = .ok (.bipush 100, 2) := by decide +kernel
theorem dX1_copyFrom_95 : decode (m_code mX1_copyFrom) 95 = .ok (.invokestatic 40, 3) := by decide +kernel
theorem dX1_copyFrom_98 : decode (m_code mX1_copyFrom) 98 = .ok (.aload_n 1, 1) := by decide +kernel
theorem dX1_copyFrom_99 : decode (m_code mX1_copyFrom) 99 = .ok (.getfield 30, 3) := by decide +kernel
theorem dX1_copyFrom_102 : decode (m_code mX1_copyFrom) 102 = .ok (.iconst 0, 1) := by decide +kernel
theorem dX1_copyFrom_103 : decode (m_code mX1_copyFrom) 103 = .ok (.aload_n 0, 1) := by decide +kernel
theorem dX1_copyFrom_104 : decode (m_code mX1_copyFrom) 104 = .ok (.getfield 30, 3) := by decide +kernel
theorem dX1_copyFrom_107 : decode (m_code mX1_copyFrom) 107 = .ok (.iconst 0, 1) := by decide +kernel
theorem dX1_copyFrom_108 : decode (m_code mX1_copyFrom) 108 = .ok (.bipush 100, 2) := by decide +kernel
theorem dX1_copyFrom_110 : decode (m_code mX1_copyFrom) 110 = .ok (.invokestatic 40, 3) := by decide +kernel
theorem dX1_copyFrom_113 : decode (m_code mX1_copyFrom) 113 = .ok (.aload_n 1, 1) := by decide +kernel
theorem dX1_copyFrom_114 : decode (m_code mX1_copyFrom) 114 = .ok (.getfield 33, 3) := by decide +kernel
theorem dX1_copyFrom_117 : decode (m_code mX1_copyFrom) 117 = .ok (.iconst 0, 1) := by decide +kernel
theorem dX1_copyFrom_118 : decode (m_code mX1_copyFrom) 118 = .ok (.aload_n 0, 1) := by decide +kernel
theorem dX1_copyFrom_119 : decode (m_code mX1_copyFrom) 119 = .ok (.getfield 33, 3) := by decide +kernel
theorem dX1_copyFrom_122 : decode (m_code mX1_copyFrom) 122 = .ok (.iconst 0, 1) := by decide +kernel
theorem dX1_copyFrom_123 : decode (m_code mX1_copyFrom) 123 = .ok (.bipush 100, 2) := by decide +kernel
theorem dX1_copyFrom_125 : decode (m_code mX1_copyFrom) 125 = .ok (.invokestatic 40, 3) := by decide +kernel
theorem dX1_copyFrom_128 : decode (m_code mX1_copyFrom) 128 = .ok (.return_, 1) := by decide +kernel
theorem dX1_has_0 : decode (m_code mX1_has) 0 = .ok (.iload_n 1, 1) := by decide +kernel
theorem dX1_has_1 : decode (m_code mX1_has) 1 = .ok (.ifCond .lt 15, 3) := by decide +kernel
theorem dX1_has_4 : decode (m_code mX1_has) 4 = .ok (.iload_n 1, 1) := by decide +kernel
theorem dX1_has_5 : decode (m_code mX1_has) 5 = .ok (.aload_n 0, 1) := by decide +kernel
theorem dX1_has_6 : decode (m_code mX1_has) 6 = .ok (.getfield 36, 3) := by decide +kernel
theorem dX1_has_9 : decode (m_code mX1_has) 9 = .ok (.if_icmp .ge 7, 3) := by decide +kernel
theorem dX1_has_12 : decode (m_code mX1_has) 12 = .ok (.iconst 1, 1) := by decide +kernel
theorem dX1_has_13 : decode (m_code mX1_has) 13 = .ok (.goto 4, 3) := by decide +kernel
theorem dX1_has_16 : decode (m_code mX1_has) 16 = .ok (.iconst 0, 1) := by decide +kernel
theorem dX1_has_17 : decode (m_code mX1_has) 17 = .ok (.ireturn, 1) := by decide +kernel
theorem dX1_isCertified_0 : decode (m_code mX1_isCertified) 0 = .ok (.aload_n 0, 1) := by decide +kernel
theorem dX1_isCertified_1 : decode (m_code mX1_isCertified) 1 = .ok (.iload_n 1, 1) := by decide +kernel
theorem dX1_isCertified_2 : decode (m_code mX1_isCertified) 2 = .ok (.invokevirtual 46, 3) := by decide +kernel
theorem dX1_isCertified_5 : decode (m_code mX1_isCertified) 5 = .ok (.ifCond .eq 17, 3) := by decide +kernel
theorem dX1_isCertified_8 : decode (m_code mX1_isCertified) 8 = .ok (.aload_n 0, 1) := by decide +kernel
theorem dX1_isCertified_9 : decode (m_code mX1_isCertified) 9 = .ok (.getfield 33, 3) := by decide +kernel
theorem dX1_isCertified_12 : decode (m_code mX1_isCertified) 12 = .ok (.iload_n 1, 1) := by decide +kernel
theorem dX1_isCertified_13 : decode (m_code mX1_isCertified) 13 = .ok (.iaload, 1) := by decide +kernel
theorem dX1_isCertified_14 : decode (m_code mX1_isCertified) 14 = .ok (.iconst 1, 1) := by decide +kernel
theorem dX1_isCertified_15 : decode (m_code mX1_isCertified) 15 = .ok (.if_icmp .ne 7, 3) := by decide +kernel
theorem dX1_isCertified_18 : decode (m_code mX1_isCertified) 18 = .ok (.iconst 1, 1) := by decide +kernel
theorem dX1_isCertified_19 : decode (m_code mX1_isCertified) 19 = .ok (.goto 4, 3) := by decide +kernel
theorem dX1_isCertified_22 : decode (m_code mX1_isCertified) 22 = .ok (.iconst 0, 1) := by decide +kernel
theorem dX1_isCertified_23 : decode (m_code mX1_isCertified) 23 = .ok (.ireturn, 1) := by decide +kernel
theorem dX1_add_0 : decode (m_code mX1_add) 0 = .ok (.aload_n 0, 1) := by decide +kernel
theorem dX1_add_1 : decode (m_code mX1_add) 1 = .ok (.getfield 36, 3) := by decide +kernel
theorem dX1_add_4 : decode (m_code mX1_add) 4 = .ok (.istore 7, 2) := by decide +kernel
theorem dX1_add_6 : decode (m_code mX1_add) 6 = .ok (.aload_n 0, 1) := by decide +kernel
theorem dX1_add_7 : decode (m_code mX1_add) 7 = .ok (.getfield 9, 3) := by decide +kernel
theorem dX1_add_10 : decode (m_code mX1_add) 10 = .ok (.iload 7, 2) := by decide +kernel
theorem dX1_add_12 : decode (m_code mX1_add) 12 = .ok (.iload_n 1, 1) := by decide +kernel
theorem dX1_add_13 : decode (m_code mX1_add) 13 = .ok (.iastore, 1) := by decide +kernel
theorem dX1_add_14 : decode (m_code mX1_add) 14 = .ok (.aload_n 0, 1) := by decide +kernel
theorem dX1_add_15 : decode (m_code mX1_add) 15 = .ok (.getfield 15, 3) := by decide +kernel
theorem dX1_add_18 : decode (m_code mX1_add) 18 = .ok (.iload 7, 2) := by decide +kernel
theorem dX1_add_20 : decode (m_code mX1_add) 20 = .ok (.iload_n 2, 1) := by decide +kernel
theorem dX1_add_21 : decode (m_code mX1_add) 21 = .ok (.iastore, 1) := by decide +kernel
theorem dX1_add_22 : decode (m_code mX1_add) 22 = .ok (.aload_n 0, 1) := by decide +kernel
theorem dX1_add_23 : decode (m_code mX1_add) 23 = .ok (.getfield 18, 3) := by decide +kernel
theorem dX1_add_26 : decode (m_code mX1_add) 26 = .ok (.iload 7, 2) := by decide +kernel
theorem dX1_add_28 : decode (m_code mX1_add) 28 = .ok (.iload_n 3, 1) := by decide +kernel
theorem dX1_add_29 : decode (m_code mX1_add) 29 = .ok (.iastore, 1) := by decide +kernel
theorem dX1_add_30 : decode (m_code mX1_add) 30 = .ok (.aload_n 0, 1) := by decide +kernel
theorem dX1_add_31 : decode (m_code mX1_add) 31 = .ok (.getfield 21, 3) := by decide +kernel
theorem dX1_add_34 : decode (m_code mX1_add) 34 = .ok (.iload 7, 2) := by decide +kernel
theorem dX1_add_36 : decode (m_code mX1_add) 36 = .ok (.iload 4, 2) := by decide +kernel
theorem dX1_add_38 : decode (m_code mX1_add) 38 = .ok (.iastore, 1) := by decide +kernel
theorem dX1_add_39 : decode (m_code mX1_add) 39 = .ok (.aload_n 0, 1) := by decide +kernel
theorem dX1_add_40 : decode (m_code mX1_add) 40 = .ok (.getfield 24, 3) := by decide +kernel
theorem dX1_add_43 : decode (m_code mX1_add) 43 = .ok (.iload 7, 2) := by decide +kernel
theorem dX1_add_45 : decode (m_code mX1_add) 45 = .ok (.iload 5, 2) := by decide +kernel
theorem dX1_add_47 : decode (m_code mX1_add) 47 = .ok (.iastore, 1) := by decide +kernel
theorem dX1_add_48 : decode (m_code mX1_add) 48 = .ok (.aload_n 0, 1) := by decide +kernel
theorem dX1_add_49 : decode (m_code mX1_add) 49 = .ok (.getfield 27, 3) := by decide +kernel
theorem dX1_add_52 : decode (m_code mX1_add) 52 = .ok (.iload 7, 2) := by decide +kernel
theorem dX1_add_54 : decode (m_code mX1_add) 54 = .ok (.aload_n 0, 1) := by decide +kernel
theorem dX1_add_55 : decode (m_code mX1_add) 55 = .ok (.getfield 27, 3) := by decide +kernel
theorem dX1_add_58 : decode (m_code mX1_add) 58 = .ok (.iload_n 2, 1) := by decide +kernel
theorem dX1_add_59 : decode (m_code mX1_add) 59 = .ok (.iaload, 1) := by decide +kernel
theorem dX1_add_60 : decode (m_code mX1_add) 60 = .ok (.iconst 1, 1) := by decide +kernel
theorem dX1_add_61 : decode (m_code mX1_add) 61 = .ok (.iadd, 1) := by decide +kernel
theorem dX1_add_62 : decode (m_code mX1_add) 62 = .ok (.iastore, 1) := by decide +kernel
theorem dX1_add_63 : decode (m_code mX1_add) 63 = .ok (.aload_n 0, 1) := by decide +kernel
theorem dX1_add_64 : decode (m_code mX1_add) 64 = .ok (.getfield 30, 3) := by decide +kernel
theorem dX1_add_67 : decode (m_code mX1_add) 67 = .ok (.iload 7, 2) := by decide +kernel
theorem dX1_add_69 : decode (m_code mX1_add) 69 = .ok (.iload 6, 2) := by decide +kernel
theorem dX1_add_71 : decode (m_code mX1_add) 71 = .ok (.iastore, 1) := by decide +kernel
theorem dX1_add_72 : decode (m_code mX1_add) 72 = .ok (.aload_n 0, 1) := by decide +kernel
theorem dX1_add_73 : decode (m_code mX1_add) 73 = .ok (.getfield 33, 3) := by decide +kernel
theorem dX1_add_76 : decode (m_code mX1_add) 76 = .ok (.iload 7, 2) := by decide +kernel
theorem dX1_add_78 : decode (m_code mX1_add) 78 = .ok (.iconst 0, 1) := by decide +kernel
theorem dX1_add_79 : decode (m_code mX1_add) 79 = .ok (.iastore, 1) := by decide +kernel
theorem dX1_add_80 : decode (m_code mX1_add) 80 = .ok (.aload_n 0, 1) := by decide +kernel
theorem dX1_add_81 : decode (m_code mX1_add) 81 = .ok (.iload 7, 2) := by decide +kernel
theorem dX1_add_83 : decode (m_code mX1_add) 83 = .ok (.iconst 1, 1) := by decide +kernel
theorem dX1_add_84 : decode (m_code mX1_add) 84 = .ok (.iadd, 1) := by decide +kernel
theorem dX1_add_85 : decode (m_code mX1_add) 85 = .ok (.putfield 36, 3) := by decide +kernel
theorem dX1_add_88 : decode (m_code mX1_add) 88 = .ok (.iload 7, 2) := by decide +kernel
theorem dX1_add_90 : decode (m_code mX1_add) 90 = .ok (.ireturn, 1) := by decide +kernel
theorem dX1_reaches_0 : decode (m_code mX1_reaches) 0 = .ok (.iload_n 1, 1) := by decide +kernel
theorem dX1_reaches_1 : decode (m_code mX1_reaches) 1 = .ok (.istore_n 3, 1) := by decide +kernel
theorem dX1_reaches_2 : decode (m_code mX1_reaches) 2 = .ok (.iconst 0, 1) := by decide +kernel
theorem dX1_reaches_3 : decode (m_code mX1_reaches) 3 = .ok (.istore 4, 2) := by decide +kernel
theorem dX1_reaches_5 : decode (m_code mX1_reaches) 5 = .ok (.iload 4, 2) := by decide +kernel
theorem dX1_reaches_7 : decode (m_code mX1_reaches) 7 = .ok (.bipush 100, 2) := by decide +kernel
theorem dX1_reaches_9 : decode (m_code mX1_reaches) 9 = .ok (.if_icmp .ge 21, 3) := by decide +kernel
theorem dX1_reaches_12 : decode (m_code mX1_reaches) 12 = .ok (.iload_n 3, 1) := by decide +kernel
theorem dX1_reaches_13 : decode (m_code mX1_reaches) 13 = .ok (.iload_n 2, 1) := by decide +kernel
theorem dX1_reaches_14 : decode (m_code mX1_reaches) 14 = .ok (.if_icmp .le 16, 3) := by decide +kernel
theorem dX1_reaches_17 : decode (m_code mX1_reaches) 17 = .ok (.aload_n 0, 1) := by decide +kernel
theorem dX1_reaches_18 : decode (m_code mX1_reaches) 18 = .ok (.getfield 15, 3) := by decide +kernel
theorem dX1_reaches_21 : decode (m_code mX1_reaches) 21 = .ok (.iload_n 3, 1) := by decide +kernel
theorem dX1_reaches_22 : decode (m_code mX1_reaches) 22 = .ok (.iaload, 1) := by decide +kernel
theorem dX1_reaches_23 : decode (m_code mX1_reaches) 23 = .ok (.istore_n 3, 1) := by decide +kernel
theorem dX1_reaches_24 : decode (m_code mX1_reaches) 24 = .ok (.iinc 4 1, 3) := by decide +kernel
theorem dX1_reaches_27 : decode (m_code mX1_reaches) 27 = .ok (.goto (-22), 3) := by decide +kernel
theorem dX1_reaches_30 : decode (m_code mX1_reaches) 30 = .ok (.iload_n 3, 1) := by decide +kernel
theorem dX1_reaches_31 : decode (m_code mX1_reaches) 31 = .ok (.iload_n 2, 1) := by decide +kernel
theorem dX1_reaches_32 : decode (m_code mX1_reaches) 32 = .ok (.if_icmp .ne 7, 3) := by decide +kernel
theorem dX1_reaches_35 : decode (m_code mX1_reaches) 35 = .ok (.iconst 1, 1) := by decide +kernel
theorem dX1_reaches_36 : decode (m_code mX1_reaches) 36 = .ok (.goto 4, 3) := by decide +kernel
theorem dX1_reaches_39 : decode (m_code mX1_reaches) 39 = .ok (.iconst 0, 1) := by decide +kernel
theorem dX1_reaches_40 : decode (m_code mX1_reaches) 40 = .ok (.ireturn, 1) := by decide +kernel
theorem dX1_ancestorOfHeight_0 : decode (m_code mX1_ancestorOfHeight) 0 = .ok (.iload_n 1, 1) := by decide +kernel
theorem dX1_ancestorOfHeight_1 : decode (m_code mX1_ancestorOfHeight) 1 = .ok (.istore_n 3, 1) := by decide +kernel
theorem dX1_ancestorOfHeight_2 : decode (m_code mX1_ancestorOfHeight) 2 = .ok (.iconst 0, 1) := by decide +kernel
theorem dX1_ancestorOfHeight_3 : decode (m_code mX1_ancestorOfHeight) 3 = .ok (.istore 4, 2) := by decide +kernel
theorem dX1_ancestorOfHeight_5 : decode (m_code mX1_ancestorOfHeight) 5 = .ok (.iload 4, 2) := by decide +kernel
theorem dX1_ancestorOfHeight_7 : decode (m_code mX1_ancestorOfHeight) 7 = .ok (.bipush 100, 2) := by decide +kernel
theorem dX1_ancestorOfHeight_9 : decode (m_code mX1_ancestorOfHeight) 9 = .ok (.if_icmp .ge 26, 3) := by decide +kernel
theorem dX1_ancestorOfHeight_12 : decode (m_code mX1_ancestorOfHeight) 12 = .ok (.aload_n 0, 1) := by decide +kernel
theorem dX1_ancestorOfHeight_13 : decode (m_code mX1_ancestorOfHeight) 13 = .ok (.getfield 27, 3) := by decide +kernel
theorem dX1_ancestorOfHeight_16 : decode (m_code mX1_ancestorOfHeight) 16 = .ok (.iload_n 3, 1) := by decide +kernel
theorem dX1_ancestorOfHeight_17 : decode (m_code mX1_ancestorOfHeight) 17 = .ok (.iaload, 1) := by decide +kernel
theorem dX1_ancestorOfHeight_18 : decode (m_code mX1_ancestorOfHeight) 18 = .ok (.iload_n 2, 1) := by decide +kernel
theorem dX1_ancestorOfHeight_19 : decode (m_code mX1_ancestorOfHeight) 19 = .ok (.if_icmp .le 16, 3) := by decide +kernel
theorem dX1_ancestorOfHeight_22 : decode (m_code mX1_ancestorOfHeight) 22 = .ok (.aload_n 0, 1) := by decide +kernel
theorem dX1_ancestorOfHeight_23 : decode (m_code mX1_ancestorOfHeight) 23 = .ok (.getfield 15, 3) := by decide +kernel
theorem dX1_ancestorOfHeight_26 : decode (m_code mX1_ancestorOfHeight) 26 = .ok (.iload_n 3, 1) := by decide +kernel
theorem dX1_ancestorOfHeight_27 : decode (m_code mX1_ancestorOfHeight) 27 = .ok (.iaload, 1) := by decide +kernel
theorem dX1_ancestorOfHeight_28 : decode (m_code mX1_ancestorOfHeight) 28 = .ok (.istore_n 3, 1) := by decide +kernel
theorem dX1_ancestorOfHeight_29 : decode (m_code mX1_ancestorOfHeight) 29 = .ok (.iinc 4 1, 3) := by decide +kernel
theorem dX1_ancestorOfHeight_32 : decode (m_code mX1_ancestorOfHeight) 32 = .ok (.goto (-27), 3) := by decide +kernel
theorem dX1_ancestorOfHeight_35 : decode (m_code mX1_ancestorOfHeight) 35 = .ok (.iload_n 3, 1) := by decide +kernel
theorem dX1_ancestorOfHeight_36 : decode (m_code mX1_ancestorOfHeight) 36 = .ok (.ireturn, 1) := by decide +kernel
theorem dX1_commonOf_0 : decode (m_code mX1_commonOf) 0 = .ok (.iload_n 1, 1) := by decide +kernel
theorem dX1_commonOf_1 : decode (m_code mX1_commonOf) 1 = .ok (.istore_n 3, 1) := by decide +kernel
theorem dX1_commonOf_2 : decode (m_code mX1_commonOf) 2 = .ok (.iload_n 2, 1) := by decide +kernel
theorem dX1_commonOf_3 : decode (m_code mX1_commonOf) 3 = .ok (.istore 4, 2) := by decide +kernel
theorem dX1_commonOf_5 : decode (m_code mX1_commonOf) 5 = .ok (.iconst 0, 1) := by decide +kernel
theorem dX1_commonOf_6 : decode (m_code mX1_commonOf) 6 = .ok (.istore 5, 2) := by decide +kernel
theorem dX1_commonOf_8 : decode (m_code mX1_commonOf) 8 = .ok (.iload 5, 2) := by decide +kernel
theorem dX1_commonOf_10 : decode (m_code mX1_commonOf) 10 = .ok (.sipush 200, 3) := by decide +kernel
theorem dX1_commonOf_13 : decode (m_code mX1_commonOf) 13 = .ok (.if_icmp .ge 40, 3) := by decide +kernel
theorem dX1_commonOf_16 : decode (m_code mX1_commonOf) 16 = .ok (.iload_n 3, 1) := by decide +kernel
theorem dX1_commonOf_17 : decode (m_code mX1_commonOf) 17 = .ok (.iload 4, 2) := by decide +kernel
theorem dX1_commonOf_19 : decode (m_code mX1_commonOf) 19 = .ok (.if_icmp .eq 34, 3) := by decide +kernel
theorem dX1_commonOf_22 : decode (m_code mX1_commonOf) 22 = .ok (.iload_n 3, 1) := by decide +kernel
theorem dX1_commonOf_23 : decode (m_code mX1_commonOf) 23 = .ok (.iload 4, 2) := by decide +kernel
theorem dX1_commonOf_25 : decode (m_code mX1_commonOf) 25 = .ok (.if_icmp .le 13, 3) := by decide +kernel
theorem dX1_commonOf_28 : decode (m_code mX1_commonOf) 28 = .ok (.aload_n 0, 1) := by decide +kernel
theorem dX1_commonOf_29 : decode (m_code mX1_commonOf) 29 = .ok (.getfield 15, 3) := by decide +kernel
theorem dX1_commonOf_32 : decode (m_code mX1_commonOf) 32 = .ok (.iload_n 3, 1) := by decide +kernel
theorem dX1_commonOf_33 : decode (m_code mX1_commonOf) 33 = .ok (.iaload, 1) := by decide +kernel
theorem dX1_commonOf_34 : decode (m_code mX1_commonOf) 34 = .ok (.istore_n 3, 1) := by decide +kernel
theorem dX1_commonOf_35 : decode (m_code mX1_commonOf) 35 = .ok (.goto 12, 3) := by decide +kernel
theorem dX1_commonOf_38 : decode (m_code mX1_commonOf) 38 = .ok (.aload_n 0, 1) := by decide +kernel
theorem dX1_commonOf_39 : decode (m_code mX1_commonOf) 39 = .ok (.getfield 15, 3) := by decide +kernel
theorem dX1_commonOf_42 : decode (m_code mX1_commonOf) 42 = .ok (.iload 4, 2) := by decide +kernel
theorem dX1_commonOf_44 : decode (m_code mX1_commonOf) 44 = .ok (.iaload, 1) := by decide +kernel
theorem dX1_commonOf_45 : decode (m_code mX1_commonOf) 45 = .ok (.istore 4, 2) := by decide +kernel
theorem dX1_commonOf_47 : decode (m_code mX1_commonOf) 47 = .ok (.iinc 5 1, 3) := by decide +kernel
theorem dX1_commonOf_50 : decode (m_code mX1_commonOf) 50 = .ok (.goto (-42), 3) := by decide +kernel
theorem dX1_commonOf_53 : decode (m_code mX1_commonOf) 53 = .ok (.iload_n 3, 1) := by decide +kernel
theorem dX1_commonOf_54 : decode (m_code mX1_commonOf) 54 = .ok (.ireturn, 1) := by decide +kernel
theorem dX1_viewsInARow_0 : decode (m_code mX1_viewsInARow) 0 = .ok (.iload_n 1, 1) := by decide +kernel
theorem dX1_viewsInARow_1 : decode (m_code mX1_viewsInARow) 1 = .ok (.istore_n 2, 1) := by decide +kernel
theorem dX1_viewsInARow_2 : decode (m_code mX1_viewsInARow) 2 = .ok (.iconst 1, 1) := by decide +kernel
theorem dX1_viewsInARow_3 : decode (m_code mX1_viewsInARow) 3 = .ok (.istore_n 3, 1) := by decide +kernel
theorem dX1_viewsInARow_4 : decode (m_code mX1_viewsInARow) 4 = .ok (.iconst 0, 1) := by decide +kernel
theorem dX1_viewsInARow_5 : decode (m_code mX1_viewsInARow) 5 = .ok (.istore 4, 2) := by decide +kernel
theorem dX1_viewsInARow_7 : decode (m_code mX1_viewsInARow) 7 = .ok (.iload 4, 2) := by decide +kernel
theorem dX1_viewsInARow_9 : decode (m_code mX1_viewsInARow) 9 = .ok (.bipush 100, 2) := by decide +kernel
theorem dX1_viewsInARow_11 : decode (m_code mX1_viewsInARow) 11 = .ok (.if_icmp .ge 45, 3) := by decide +kernel
theorem dX1_viewsInARow_14 : decode (m_code mX1_viewsInARow) 14 = .ok (.iload_n 2, 1) := by decide +kernel
theorem dX1_viewsInARow_15 : decode (m_code mX1_viewsInARow) 15 = .ok (.ifCond .le 41, 3) := by decide +kernel
theorem dX1_viewsInARow_18 : decode (m_code mX1_viewsInARow) 18 = .ok (.aload_n 0, 1) := by decide +kernel
theorem dX1_viewsInARow_19 : decode (m_code mX1_viewsInARow) 19 = .ok (.getfield 9, 3) := by decide +kernel
theorem dX1_viewsInARow_22 : decode (m_code mX1_viewsInARow) 22 = .ok (.iload_n 2, 1) := by decide +kernel
theorem dX1_viewsInARow_23 : decode (m_code mX1_viewsInARow) 23 = .ok (.iaload, 1) := by decide +kernel
theorem dX1_viewsInARow_24 : decode (m_code mX1_viewsInARow) 24 = .ok (.aload_n 0, 1) := by decide +kernel
theorem dX1_viewsInARow_25 : decode (m_code mX1_viewsInARow) 25 = .ok (.getfield 9, 3) := by decide +kernel
theorem dX1_viewsInARow_28 : decode (m_code mX1_viewsInARow) 28 = .ok (.aload_n 0, 1) := by decide +kernel
theorem dX1_viewsInARow_29 : decode (m_code mX1_viewsInARow) 29 = .ok (.getfield 15, 3) := by decide +kernel
theorem dX1_viewsInARow_32 : decode (m_code mX1_viewsInARow) 32 = .ok (.iload_n 2, 1) := by decide +kernel
theorem dX1_viewsInARow_33 : decode (m_code mX1_viewsInARow) 33 = .ok (.iaload, 1) := by decide +kernel
theorem dX1_viewsInARow_34 : decode (m_code mX1_viewsInARow) 34 = .ok (.iaload, 1) := by decide +kernel
theorem dX1_viewsInARow_35 : decode (m_code mX1_viewsInARow) 35 = .ok (.iconst 1, 1) := by decide +kernel
theorem dX1_viewsInARow_36 : decode (m_code mX1_viewsInARow) 36 = .ok (.iadd, 1) := by decide +kernel
theorem dX1_viewsInARow_37 : decode (m_code mX1_viewsInARow) 37 = .ok (.if_icmp .ne 19, 3) := by decide +kernel
theorem dX1_viewsInARow_40 : decode (m_code mX1_viewsInARow) 40 = .ok (.aload_n 0, 1) := by decide +kernel
theorem dX1_viewsInARow_41 : decode (m_code mX1_viewsInARow) 41 = .ok (.getfield 15, 3) := by decide +kernel
theorem dX1_viewsInARow_44 : decode (m_code mX1_viewsInARow) 44 = .ok (.iload_n 2, 1) := by decide +kernel
theorem dX1_viewsInARow_45 : decode (m_code mX1_viewsInARow) 45 = .ok (.iaload, 1) := by decide +kernel
theorem dX1_viewsInARow_46 : decode (m_code mX1_viewsInARow) 46 = .ok (.istore_n 2, 1) := by decide +kernel
theorem dX1_viewsInARow_47 : decode (m_code mX1_viewsInARow) 47 = .ok (.iinc 3 1, 3) := by decide +kernel
theorem dX1_viewsInARow_50 : decode (m_code mX1_viewsInARow) 50 = .ok (.iinc 4 1, 3) := by decide +kernel
theorem dX1_viewsInARow_53 : decode (m_code mX1_viewsInARow) 53 = .ok (.goto (-46), 3) := by decide +kernel
theorem dX1_viewsInARow_56 : decode (m_code mX1_viewsInARow) 56 = .ok (.iload_n 3, 1) := by decide +kernel
theorem dX1_viewsInARow_57 : decode (m_code mX1_viewsInARow) 57 = .ok (.ireturn, 1) := by decide +kernel
theorem dX1_committedBy_0 : decode (m_code mX1_committedBy) 0 = .ok (.aload_n 0, 1) := by decide +kernel
theorem dX1_committedBy_1 : decode (m_code mX1_committedBy) 1 = .ok (.getfield 18, 3) := by decide +kernel
theorem dX1_committedBy_4 : decode (m_code mX1_committedBy) 4 = .ok (.iload_n 1, 1) := by decide +kernel
theorem dX1_committedBy_5 : decode (m_code mX1_committedBy) 5 = .ok (.iaload, 1) := by decide +kernel
theorem dX1_committedBy_6 : decode (m_code mX1_committedBy) 6 = .ok (.istore_n 2, 1) := by decide +kernel
theorem dX1_committedBy_7 : decode (m_code mX1_committedBy) 7 = .ok (.aload_n 0, 1) := by decide +kernel
theorem dX1_committedBy_8 : decode (m_code mX1_committedBy) 8 = .ok (.getfield 18, 3) := by decide +kernel
theorem dX1_committedBy_11 : decode (m_code mX1_committedBy) 11 = .ok (.iload_n 2, 1) := by decide +kernel
theorem dX1_committedBy_12 : decode (m_code mX1_committedBy) 12 = .ok (.iaload, 1) := by decide +kernel
theorem dX1_committedBy_13 : decode (m_code mX1_committedBy) 13 = .ok (.istore_n 3, 1) := by decide +kernel
theorem dX1_committedBy_14 : decode (m_code mX1_committedBy) 14 = .ok (.aload_n 0, 1) := by decide +kernel
theorem dX1_committedBy_15 : decode (m_code mX1_committedBy) 15 = .ok (.getfield 15, 3) := by decide +kernel
theorem dX1_committedBy_18 : decode (m_code mX1_committedBy) 18 = .ok (.iload_n 1, 1) := by decide +kernel
theorem dX1_committedBy_19 : decode (m_code mX1_committedBy) 19 = .ok (.iaload, 1) := by decide +kernel
theorem dX1_committedBy_20 : decode (m_code mX1_committedBy) 20 = .ok (.iload_n 2, 1) := by decide +kernel
theorem dX1_committedBy_21 : decode (m_code mX1_committedBy) 21 = .ok (.if_icmp .ne 17, 3) := by decide +kernel
theorem dX1_committedBy_24 : decode (m_code mX1_committedBy) 24 = .ok (.aload_n 0, 1) := by decide +kernel
theorem dX1_committedBy_25 : decode (m_code mX1_committedBy) 25 = .ok (.getfield 15, 3) := by decide +kernel
theorem dX1_committedBy_28 : decode (m_code mX1_committedBy) 28 = .ok (.iload_n 2, 1) := by decide +kernel
theorem dX1_committedBy_29 : decode (m_code mX1_committedBy) 29 = .ok (.iaload, 1) := by decide +kernel
theorem dX1_committedBy_30 : decode (m_code mX1_committedBy) 30 = .ok (.iload_n 3, 1) := by decide +kernel
theorem dX1_committedBy_31 : decode (m_code mX1_committedBy) 31 = .ok (.if_icmp .ne 7, 3) := by decide +kernel
theorem dX1_committedBy_34 : decode (m_code mX1_committedBy) 34 = .ok (.iconst 1, 1) := by decide +kernel
theorem dX1_committedBy_35 : decode (m_code mX1_committedBy) 35 = .ok (.goto 4, 3) := by decide +kernel
theorem dX1_committedBy_38 : decode (m_code mX1_committedBy) 38 = .ok (.iconst 0, 1) := by decide +kernel
theorem dX1_committedBy_39 : decode (m_code mX1_committedBy) 39 = .ok (.istore 4, 2) := by decide +kernel
theorem dX1_committedBy_41 : decode (m_code mX1_committedBy) 41 = .ok (.aload_n 0, 1) := by decide +kernel
theorem dX1_committedBy_42 : decode (m_code mX1_committedBy) 42 = .ok (.getfield 9, 3) := by decide +kernel
theorem dX1_committedBy_45 : decode (m_code mX1_committedBy) 45 = .ok (.iload_n 1, 1) := by decide +kernel
theorem dX1_committedBy_46 : decode (m_code mX1_committedBy) 46 = .ok (.iaload, 1) := by decide +kernel
theorem dX1_committedBy_47 : decode (m_code mX1_committedBy) 47 = .ok (.aload_n 0, 1) := by decide +kernel
theorem dX1_committedBy_48 : decode (m_code mX1_committedBy) 48 = .ok (.getfield 9, 3) := by decide +kernel
theorem dX1_committedBy_51 : decode (m_code mX1_committedBy) 51 = .ok (.iload_n 2, 1) := by decide +kernel
theorem dX1_committedBy_52 : decode (m_code mX1_committedBy) 52 = .ok (.iaload, 1) := by decide +kernel
theorem dX1_committedBy_53 : decode (m_code mX1_committedBy) 53 = .ok (.iconst 1, 1) := by decide +kernel
theorem dX1_committedBy_54 : decode (m_code mX1_committedBy) 54 = .ok (.iadd, 1) := by decide +kernel
theorem dX1_committedBy_55 : decode (m_code mX1_committedBy) 55 = .ok (.if_icmp .ne 24, 3) := by decide +kernel
theorem dX1_committedBy_58 : decode (m_code mX1_committedBy) 58 = .ok (.aload_n 0, 1) := by decide +kernel
theorem dX1_committedBy_59 : decode (m_code mX1_committedBy) 59 = .ok (.getfield 9, 3) := by decide +kernel
theorem dX1_committedBy_62 : decode (m_code mX1_committedBy) 62 = .ok (.iload_n 2, 1) := by decide +kernel
theorem dX1_committedBy_63 : decode (m_code mX1_committedBy) 63 = .ok (.iaload, 1) := by decide +kernel
theorem dX1_committedBy_64 : decode (m_code mX1_committedBy) 64 = .ok (.aload_n 0, 1) := by decide +kernel
theorem dX1_committedBy_65 : decode (m_code mX1_committedBy) 65 = .ok (.getfield 9, 3) := by decide +kernel
theorem dX1_committedBy_68 : decode (m_code mX1_committedBy) 68 = .ok (.iload_n 3, 1) := by decide +kernel
theorem dX1_committedBy_69 : decode (m_code mX1_committedBy) 69 = .ok (.iaload, 1) := by decide +kernel
theorem dX1_committedBy_70 : decode (m_code mX1_committedBy) 70 = .ok (.iconst 1, 1) := by decide +kernel
theorem dX1_committedBy_71 : decode (m_code mX1_committedBy) 71 = .ok (.iadd, 1) := by decide +kernel
theorem dX1_committedBy_72 : decode (m_code mX1_committedBy) 72 = .ok (.if_icmp .ne 7, 3) := by decide +kernel
theorem dX1_committedBy_75 : decode (m_code mX1_committedBy) 75 = .ok (.iconst 1, 1) := by decide +kernel
theorem dX1_committedBy_76 : decode (m_code mX1_committedBy) 76 = .ok (.goto 4, 3) := by decide +kernel
theorem dX1_committedBy_79 : decode (m_code mX1_committedBy) 79 = .ok (.iconst 0, 1) := by decide +kernel
theorem dX1_committedBy_80 : decode (m_code mX1_committedBy) 80 = .ok (.istore 5, 2) := by decide +kernel
theorem dX1_committedBy_82 : decode (m_code mX1_committedBy) 82 = .ok (.iload 4, 2) := by decide +kernel
theorem dX1_committedBy_84 : decode (m_code mX1_committedBy) 84 = .ok (.ifCond .eq 12, 3) := by decide +kernel
theorem dX1_committedBy_87 : decode (m_code mX1_committedBy) 87 = .ok (.iload 5, 2) := by decide +kernel
theorem dX1_committedBy_89 : decode (m_code mX1_committedBy) 89 = .ok (.ifCond .eq 7, 3) := by decide +kernel
theorem dX1_committedBy_92 : decode (m_code mX1_committedBy) 92 = .ok (.iload_n 3, 1) := by decide +kernel
theorem dX1_committedBy_93 : decode (m_code mX1_committedBy) 93 = .ok (.goto 4, 3) := by decide +kernel
theorem dX1_committedBy_96 : decode (m_code mX1_committedBy) 96 = .ok (.iconst 0, 1) := by decide +kernel
theorem dX1_committedBy_97 : decode (m_code mX1_committedBy) 97 = .ok (.ireturn, 1) := by decide +kernel
theorem dX2_init_0 : decode (m_code mX2_init) 0 = .ok (.aload_n 0, 1) := by decide +kernel
theorem dX2_init_1 : decode (m_code mX2_init) 1 = .ok (.invokespecial 3, 3) := by decide +kernel
theorem dX2_init_4 : decode (m_code mX2_init) 4 = .ok (.aload_n 0, 1) := by decide +kernel
theorem dX2_init_5 : decode (m_code mX2_init) 5 = .ok (.iload_n 1, 1) := by decide +kernel
theorem dX2_init_6 : decode (m_code mX2_init) 6 = .ok (.putfield 9, 3) := by decide +kernel
theorem dX2_init_9 : decode (m_code mX2_init) 9 = .ok (.aload_n 0, 1) := by decide +kernel
theorem dX2_init_10 : decode (m_code mX2_init) 10 = .ok (.iconst 5, 1) := by decide +kernel
theorem dX2_init_11 : decode (m_code mX2_init) 11 = .ok (.iload_n 1, 1) := by decide +kernel
theorem dX2_init_12 : decode (m_code mX2_init) 12 = .ok (.imul, 1) := by decide +kernel
theorem dX2_init_13 : decode (m_code mX2_init) 13 = .ok (.newarray .int, 2) := by decide +kernel
theorem dX2_init_15 : decode (m_code mX2_init) 15 = .ok (.putfield 15, 3) := by decide +kernel
theorem dX2_init_18 : decode (m_code mX2_init) 18 = .ok (.return_, 1) := by decide +kernel
theorem dX2_copyFrom_0 : decode (m_code mX2_copyFrom) 0 = .ok (.aload_n 0, 1) := by decide +kernel
theorem dX2_copyFrom_1 : decode (m_code mX2_copyFrom) 1 = .ok (.aload_n 1, 1) := by decide +kernel
theorem dX2_copyFrom_2 : decode (m_code mX2_copyFrom) 2 = .ok (.getfield 19, 3) := by decide +kernel
theorem dX2_copyFrom_5 : decode (m_code mX2_copyFrom) 5 = .ok (.putfield 19, 3) := by decide +kernel
theorem dX2_copyFrom_8 : decode (m_code mX2_copyFrom) 8 = .ok (.aload_n 1, 1) := by decide +kernel
theorem dX2_copyFrom_9 : decode (m_code mX2_copyFrom) 9 = .ok (.getfield 15, 3) := by decide +kernel
theorem dX2_copyFrom_12 : decode (m_code mX2_copyFrom) 12 = .ok (.iconst 0, 1) := by decide +kernel
theorem dX2_copyFrom_13 : decode (m_code mX2_copyFrom) 13 = .ok (.aload_n 0, 1) := by decide +kernel
theorem dX2_copyFrom_14 : decode (m_code mX2_copyFrom) 14 = .ok (.getfield 15, 3) := by decide +kernel
theorem dX2_copyFrom_17 : decode (m_code mX2_copyFrom) 17 = .ok (.iconst 0, 1) := by decide +kernel
theorem dX2_copyFrom_18 : decode (m_code mX2_copyFrom) 18 = .ok (.aload_n 0, 1) := by decide +kernel
theorem dX2_copyFrom_19 : decode (m_code mX2_copyFrom) 19 = .ok (.getfield 15, 3) := by decide +kernel
theorem dX2_copyFrom_22 : decode (m_code mX2_copyFrom) 22 = .ok (.arraylength, 1) := by decide +kernel
theorem dX2_copyFrom_23 : decode (m_code mX2_copyFrom) 23 = .ok (.aload_n 1, 1) := by decide +kernel
theorem dX2_copyFrom_24 : decode (m_code mX2_copyFrom) 24 = .ok (.getfield 15, 3) := by decide +kernel
theorem dX2_copyFrom_27 : decode (m_code mX2_copyFrom) 27 = .ok (.arraylength, 1) := by decide +kernel
theorem dX2_copyFrom_28 : decode (m_code mX2_copyFrom) 28 = .ok (.invokestatic 22, 3) := by decide +kernel
theorem dX2_copyFrom_31 : decode (m_code mX2_copyFrom) 31 = .ok (.invokestatic 28, 3) := by decide +kernel
theorem dX2_copyFrom_34 : decode (m_code mX2_copyFrom) 34 = .ok (.return_, 1) := by decide +kernel
theorem dX2_add_0 : decode (m_code mX2_add) 0 = .ok (.aload_n 0, 1) := by decide +kernel
theorem dX2_add_1 : decode (m_code mX2_add) 1 = .ok (.getfield 19, 3) := by decide +kernel
theorem dX2_add_4 : decode (m_code mX2_add) 4 = .ok (.aload_n 0, 1) := by decide +kernel
theorem dX2_add_5 : decode (m_code mX2_add) 5 = .ok (.getfield 9, 3) := by decide +kernel
theorem dX2_add_8 : decode (m_code mX2_add) 8 = .ok (.if_icmp .lt 4, 3) := by decide +kernel
theorem dX2_add_11 : decode (m_code mX2_add) 11 = .ok (.return_, 1) := by decide +kernel
theorem dX2_add_12 : decode (m_code mX2_add) 12 = .ok (.iconst 5, 1) := by decide +kernel
theorem dX2_add_13 : decode (m_code mX2_add) 13 = .ok (.aload_n 0, 1) := by decide +kernel
theorem dX2_add_14 : decode (m_code mX2_add) 14 = .ok (.getfield 19, 3) := by decide +kernel
theorem dX2_add_17 : decode (m_code mX2_add) 17 = .ok (.imul, 1) := by decide +kernel
theorem dX2_add_18 : decode (m_code mX2_add) 18 = .ok (.istore 6, 2) := by decide +kernel
theorem dX2_add_20 : decode (m_code mX2_add) 20 = .ok (.aload_n 0, 1) := by decide +kernel
theorem dX2_add_21 : decode (m_code mX2_add) 21 = .ok (.getfield 15, 3) := by decide +kernel
theorem dX2_add_24 : decode (m_code mX2_add) 24 = .ok (.iload 6, 2) := by decide +kernel
theorem dX2_add_26 : decode (m_code mX2_add) 26 = .ok (.iload_n 1, 1) := by decide +kernel
theorem dX2_add_27 : decode (m_code mX2_add) 27 = .ok (.iastore, 1) := by decide +kernel
theorem dX2_add_28 : decode (m_code mX2_add) 28 = .ok (.aload_n 0, 1) := by decide +kernel
theorem dX2_add_29 : decode (m_code mX2_add) 29 = .ok (.getfield 15, 3) := by decide +kernel
theorem dX2_add_32 : decode (m_code mX2_add) 32 = .ok (.iload 6, 2) := by decide +kernel
theorem dX2_add_34 : decode (m_code mX2_add) 34 = .ok (.iconst 1, 1) := by decide +kernel
theorem dX2_add_35 : decode (m_code mX2_add) 35 = .ok (.iadd, 1) := by decide +kernel
theorem dX2_add_36 : decode (m_code mX2_add) 36 = .ok (.iload_n 2, 1) := by decide +kernel
theorem dX2_add_37 : decode (m_code mX2_add) 37 = .ok (.iastore, 1) := by decide +kernel
theorem dX2_add_38 : decode (m_code mX2_add) 38 = .ok (.aload_n 0, 1) := by decide +kernel
theorem dX2_add_39 : decode (m_code mX2_add) 39 = .ok (.getfield 15, 3) := by decide +kernel
theorem dX2_add_42 : decode (m_code mX2_add) 42 = .ok (.iload 6, 2) := by decide +kernel
theorem dX2_add_44 : decode (m_code mX2_add) 44 = .ok (.iconst 2, 1) := by decide +kernel
theorem dX2_add_45 : decode (m_code mX2_add) 45 = .ok (.iadd, 1) := by decide +kernel
theorem dX2_add_46 : decode (m_code mX2_add) 46 = .ok (.iload_n 3, 1) := by decide +kernel
theorem dX2_add_47 : decode (m_code mX2_add) 47 = .ok (.iastore, 1) := by decide +kernel
theorem dX2_add_48 : decode (m_code mX2_add) 48 = .ok (.aload_n 0, 1) := by decide +kernel
theorem dX2_add_49 : decode (m_code mX2_add) 49 = .ok (.getfield 15, 3) := by decide +kernel
theorem dX2_add_52 : decode (m_code mX2_add) 52 = .ok (.iload 6, 2) := by decide +kernel
theorem dX2_add_54 : decode (m_code mX2_add) 54 = .ok (.iconst 3, 1) := by decide +kernel
theorem dX2_add_55 : decode (m_code mX2_add) 55 = .ok (.iadd, 1) := by decide +kernel
theorem dX2_add_56 : decode (m_code mX2_add) 56 = .ok (.iload 4, 2) := by decide +kernel
theorem dX2_add_58 : decode (m_code mX2_add) 58 = .ok (.iastore, 1) := by decide +kernel
theorem dX2_add_59 : decode (m_code mX2_add) 59 = .ok (.aload_n 0, 1) := by decide +kernel
theorem dX2_add_60 : decode (m_code mX2_add) 60 = .ok (.getfield 15, 3) := by decide +kernel
theorem dX2_add_63 : decode (m_code mX2_add) 63 = .ok (.iload 6, 2) := by decide +kernel
theorem dX2_add_65 : decode (m_code mX2_add) 65 = .ok (.iconst 4, 1) := by decide +kernel
theorem dX2_add_66 : decode (m_code mX2_add) 66 = .ok (.iadd, 1) := by decide +kernel
theorem dX2_add_67 : decode (m_code mX2_add) 67 = .ok (.iload 5, 2) := by decide +kernel
theorem dX2_add_69 : decode (m_code mX2_add) 69 = .ok (.iastore, 1) := by decide +kernel
theorem dX2_add_70 : decode (m_code mX2_add) 70 = .ok (.aload_n 0, 1) := by decide +kernel
theorem dX2_add_71 : decode (m_code mX2_add) 71 = .ok (.dup, 1) := by decide +kernel
theorem dX2_add_72 : decode (m_code mX2_add) 72 = .ok (.getfield 19, 3) := by decide +kernel
theorem dX2_add_75 : decode (m_code mX2_add) 75 = .ok (.iconst 1, 1) := by decide +kernel
theorem dX2_add_76 : decode (m_code mX2_add) 76 = .ok (.iadd, 1) := by decide +kernel
theorem dX2_add_77 : decode (m_code mX2_add) 77 = .ok (.putfield 19, 3) := by decide +kernel
theorem dX2_add_80 : decode (m_code mX2_add) 80 = .ok (.return_, 1) := by decide +kernel
theorem dX2_has_0 : decode (m_code mX2_has) 0 = .ok (.iconst 0, 1) := by decide +kernel
theorem dX2_has_1 : decode (m_code mX2_has) 1 = .ok (.istore 6, 2) := by decide +kernel
theorem dX2_has_3 : decode (m_code mX2_has) 3 = .ok (.iload 6, 2) := by decide +kernel
theorem dX2_has_5 : decode (m_code mX2_has) 5 = .ok (.iconst 5, 1) := by decide +kernel
theorem dX2_has_6 : decode (m_code mX2_has) 6 = .ok (.aload_n 0, 1) := by decide +kernel
theorem dX2_has_7 : decode (m_code mX2_has) 7 = .ok (.getfield 19, 3) := by decide +kernel
theorem dX2_has_10 : decode (m_code mX2_has) 10 = .ok (.imul, 1) := by decide +kernel
theorem dX2_has_11 : decode (m_code mX2_has) 11 = .ok (.if_icmp .ge 88, 3) := by decide +kernel
theorem dX2_has_14 : decode (m_code mX2_has) 14 = .ok (.aload_n 0, 1) := by decide +kernel
theorem dX2_has_15 : decode (m_code mX2_has) 15 = .ok (.getfield 15, 3) := by decide +kernel
theorem dX2_has_18 : decode (m_code mX2_has) 18 = .ok (.iload 6, 2) := by decide +kernel
theorem dX2_has_20 : decode (m_code mX2_has) 20 = .ok (.iaload, 1) := by decide +kernel
theorem dX2_has_21 : decode (m_code mX2_has) 21 = .ok (.iload_n 1, 1) := by decide +kernel
theorem dX2_has_22 : decode (m_code mX2_has) 22 = .ok (.if_icmp .ne 33, 3) := by decide +kernel
theorem dX2_has_25 : decode (m_code mX2_has) 25 = .ok (.aload_n 0, 1) := by decide +kernel
theorem dX2_has_26 : decode (m_code mX2_has) 26 = .ok (.getfield 15, 3) := by decide +kernel
theorem dX2_has_29 : decode (m_code mX2_has) 29 = .ok (.iload 6, 2) := by decide +kernel
theorem dX2_has_31 : decode (m_code mX2_has) 31 = .ok (.iconst 1, 1) := by decide +kernel
theorem dX2_has_32 : decode (m_code mX2_has) 32 = .ok (.iadd, 1) := by decide +kernel
theorem dX2_has_33 : decode (m_code mX2_has) 33 = .ok (.iaload, 1) := by decide +kernel
theorem dX2_has_34 : decode (m_code mX2_has) 34 = .ok (.iload_n 2, 1) := by decide +kernel
theorem dX2_has_35 : decode (m_code mX2_has) 35 = .ok (.if_icmp .ne 20, 3) := by decide +kernel
theorem dX2_has_38 : decode (m_code mX2_has) 38 = .ok (.aload_n 0, 1) := by decide +kernel
theorem dX2_has_39 : decode (m_code mX2_has) 39 = .ok (.getfield 15, 3) := by decide +kernel
theorem dX2_has_42 : decode (m_code mX2_has) 42 = .ok (.iload 6, 2) := by decide +kernel
theorem dX2_has_44 : decode (m_code mX2_has) 44 = .ok (.iconst 2, 1) := by decide +kernel
theorem dX2_has_45 : decode (m_code mX2_has) 45 = .ok (.iadd, 1) := by decide +kernel
theorem dX2_has_46 : decode (m_code mX2_has) 46 = .ok (.iaload, 1) := by decide +kernel
theorem dX2_has_47 : decode (m_code mX2_has) 47 = .ok (.iload_n 3, 1) := by decide +kernel
theorem dX2_has_48 : decode (m_code mX2_has) 48 = .ok (.if_icmp .ne 7, 3) := by decide +kernel
theorem dX2_has_51 : decode (m_code mX2_has) 51 = .ok (.iconst 1, 1) := by decide +kernel
theorem dX2_has_52 : decode (m_code mX2_has) 52 = .ok (.goto 4, 3) := by decide +kernel
theorem dX2_has_55 : decode (m_code mX2_has) 55 = .ok (.iconst 0, 1) := by decide +kernel
theorem dX2_has_56 : decode (m_code mX2_has) 56 = .ok (.istore 7, 2) := by decide +kernel
theorem dX2_has_58 : decode (m_code mX2_has) 58 = .ok (.iload 7, 2) := by decide +kernel
theorem dX2_has_60 : decode (m_code mX2_has) 60 = .ok (.ifCond .eq 33, 3) := by decide +kernel
theorem dX2_has_63 : decode (m_code mX2_has) 63 = .ok (.aload_n 0, 1) := by decide +kernel
theorem dX2_has_64 : decode (m_code mX2_has) 64 = .ok (.getfield 15, 3) := by decide +kernel
theorem dX2_has_67 : decode (m_code mX2_has) 67 = .ok (.iload 6, 2) := by decide +kernel
theorem dX2_has_69 : decode (m_code mX2_has) 69 = .ok (.iconst 3, 1) := by decide +kernel
theorem dX2_has_70 : decode (m_code mX2_has) 70 = .ok (.iadd, 1) := by decide +kernel
theorem dX2_has_71 : decode (m_code mX2_has) 71 = .ok (.iaload, 1) := by decide +kernel
theorem dX2_has_72 : decode (m_code mX2_has) 72 = .ok (.iload 4, 2) := by decide +kernel
theorem dX2_has_74 : decode (m_code mX2_has) 74 = .ok (.if_icmp .ne 19, 3) := by decide +kernel
theorem dX2_has_77 : decode (m_code mX2_has) 77 = .ok (.aload_n 0, 1) := by decide +kernel
theorem dX2_has_78 : decode (m_code mX2_has) 78 = .ok (.getfield 15, 3) := by decide +kernel
theorem dX2_has_81 : decode (m_code mX2_has) 81 = .ok (.iload 6, 2) := by decide +kernel
theorem dX2_has_83 : decode (m_code mX2_has) 83 = .ok (.iconst 4, 1) := by decide +kernel
theorem dX2_has_84 : decode (m_code mX2_has) 84 = .ok (.iadd, 1) := by decide +kernel
theorem dX2_has_85 : decode (m_code mX2_has) 85 = .ok (.iaload, 1) := by decide +kernel
theorem dX2_has_86 : decode (m_code mX2_has) 86 = .ok (.iload 5, 2) := by decide +kernel
theorem dX2_has_88 : decode (m_code mX2_has) 88 = .ok (.if_icmp .ne 5, 3) := by decide +kernel
theorem dX2_has_91 : decode (m_code mX2_has) 91 = .ok (.iconst 1, 1) := by decide +kernel
theorem dX2_has_92 : decode (m_code mX2_has) 92 = .ok (.ireturn, 1) := by decide +kernel
theorem dX2_has_93 : decode (m_code mX2_has) 93 = .ok (.iinc 6 5, 3) := by decide +kernel
theorem dX2_has_96 : decode (m_code mX2_has) 96 = .ok (.goto (-93), 3) := by decide +kernel
theorem dX2_has_99 : decode (m_code mX2_has) 99 = .ok (.iconst 0, 1) := by decide +kernel
theorem dX2_has_100 : decode (m_code mX2_has) 100 = .ok (.ireturn, 1) := by decide +kernel
theorem dX2_at_0 : decode (m_code mX2_at) 0 = .ok (.iload_n 1, 1) := by decide +kernel
theorem dX2_at_1 : decode (m_code mX2_at) 1 = .ok (.ifCond .lt 20, 3) := by decide +kernel
theorem dX2_at_4 : decode (m_code mX2_at) 4 = .ok (.iload_n 1, 1) := by decide +kernel
theorem dX2_at_5 : decode (m_code mX2_at) 5 = .ok (.aload_n 0, 1) := by decide +kernel
theorem dX2_at_6 : decode (m_code mX2_at) 6 = .ok (.getfield 19, 3) := by decide +kernel
theorem dX2_at_9 : decode (m_code mX2_at) 9 = .ok (.if_icmp .ge 12, 3) := by decide +kernel
theorem dX2_at_12 : decode (m_code mX2_at) 12 = .ok (.iload_n 2, 1) := by decide +kernel
theorem dX2_at_13 : decode (m_code mX2_at) 13 = .ok (.ifCond .lt 8, 3) := by decide +kernel
theorem dX2_at_16 : decode (m_code mX2_at) 16 = .ok (.iload_n 2, 1) := by decide +kernel
theorem dX2_at_17 : decode (m_code mX2_at) 17 = .ok (.iload_n 3, 1) := by decide +kernel
theorem dX2_at_18 : decode (m_code mX2_at) 18 = .ok (.if_icmp .lt 5, 3) := by decide +kernel
theorem dX2_at_21 : decode (m_code mX2_at) 21 = .ok (.iconst (-1), 1) := by decide +kernel
theorem dX2_at_22 : decode (m_code mX2_at) 22 = .ok (.ireturn, 1) := by decide +kernel
theorem dX2_at_23 : decode (m_code mX2_at) 23 = .ok (.aload_n 0, 1) := by decide +kernel
theorem dX2_at_24 : decode (m_code mX2_at) 24 = .ok (.getfield 15, 3) := by decide +kernel
theorem dX2_at_27 : decode (m_code mX2_at) 27 = .ok (.iconst 5, 1) := by decide +kernel
theorem dX2_at_28 : decode (m_code mX2_at) 28 = .ok (.iload_n 1, 1) := by decide +kernel
theorem dX2_at_29 : decode (m_code mX2_at) 29 = .ok (.imul, 1) := by decide +kernel
theorem dX2_at_30 : decode (m_code mX2_at) 30 = .ok (.iload_n 2, 1) := by decide +kernel
theorem dX2_at_31 : decode (m_code mX2_at) 31 = .ok (.iadd, 1) := by decide +kernel
theorem dX2_at_32 : decode (m_code mX2_at) 32 = .ok (.iaload, 1) := by decide +kernel
theorem dX2_at_33 : decode (m_code mX2_at) 33 = .ok (.ireturn, 1) := by decide +kernel
theorem dX3_init_0 : decode (m_code mX3_init) 0 = .ok (.aload_n 0, 1) := by decide +kernel
theorem dX3_init_1 : decode (m_code mX3_init) 1 = .ok (.invokespecial 3, 3) := by decide +kernel
theorem dX3_init_4 : decode (m_code mX3_init) 4 = .ok (.aload_n 0, 1) := by decide +kernel
theorem dX3_init_5 : decode (m_code mX3_init) 5 = .ok (.bipush 100, 2) := by decide +kernel
theorem dX3_init_7 : decode (m_code mX3_init) 7 = .ok (.newarray .int, 2) := by decide +kernel
theorem dX3_init_9 : decode (m_code mX3_init) 9 = .ok (.putfield 9, 3) := by decide +kernel
theorem dX3_init_12 : decode (m_code mX3_init) 12 = .ok (.aload_n 0, 1) := by decide +kernel
theorem dX3_init_13 : decode (m_code mX3_init) 13 = .ok (.bipush 100, 2) := by decide +kernel
theorem dX3_init_15 : decode (m_code mX3_init) 15 = .ok (.newarray .int, 2) := by decide +kernel
theorem dX3_init_17 : decode (m_code mX3_init) 17 = .ok (.putfield 15, 3) := by decide +kernel
theorem dX3_init_20 : decode (m_code mX3_init) 20 = .ok (.aload_n 0, 1) := by decide +kernel
theorem dX3_init_21 : decode (m_code mX3_init) 21 = .ok (.bipush 100, 2) := by decide +kernel
theorem dX3_init_23 : decode (m_code mX3_init) 23 = .ok (.newarray .int, 2) := by decide +kernel
theorem dX3_init_25 : decode (m_code mX3_init) 25 = .ok (.putfield 18, 3) := by decide +kernel
theorem dX3_init_28 : decode (m_code mX3_init) 28 = .ok (.aload_n 0, 1) := by decide +kernel
theorem dX3_init_29 : decode (m_code mX3_init) 29 = .ok (.sipush 201, 3) := by decide +kernel
theorem dX3_init_32 : decode (m_code mX3_init) 32 = .ok (.newarray .int, 2) := by decide +kernel
theorem dX3_init_34 : decode (m_code mX3_init) 34 = .ok (.putfield 21, 3) := by decide +kernel
theorem dX3_init_37 : decode (m_code mX3_init) 37 = .ok (.aload_n 0, 1) := by decide +kernel
theorem dX3_init_38 : decode (m_code mX3_init) 38 = .ok (.iconst 1, 1) := by decide +kernel
theorem dX3_init_39 : decode (m_code mX3_init) 39 = .ok (.putfield 24, 3) := by decide +kernel
theorem dX3_init_42 : decode (m_code mX3_init) 42 = .ok (.aload_n 0, 1) := by decide +kernel
theorem dX3_init_43 : decode (m_code mX3_init) 43 = .ok (.iconst 1, 1) := by decide +kernel
theorem dX3_init_44 : decode (m_code mX3_init) 44 = .ok (.putfield 28, 3) := by decide +kernel
theorem dX3_init_47 : decode (m_code mX3_init) 47 = .ok (.return_, 1) := by decide +kernel
theorem dX3_reset_0 : decode (m_code mX3_reset) 0 = .ok (.aload_n 0, 1) := by decide +kernel
theorem dX3_reset_1 : decode (m_code mX3_reset) 1 = .ok (.iconst 0, 1) := by decide +kernel
theorem dX3_reset_2 : decode (m_code mX3_reset) 2 = .ok (.putfield 31, 3) := by decide +kernel
theorem dX3_reset_5 : decode (m_code mX3_reset) 5 = .ok (.aload_n 0, 1) := by decide +kernel
theorem dX3_reset_6 : decode (m_code mX3_reset) 6 = .ok (.iconst 1, 1) := by decide +kernel
theorem dX3_reset_7 : decode (m_code mX3_reset) 7 = .ok (.putfield 24, 3) := by decide +kernel
theorem dX3_reset_10 : decode (m_code mX3_reset) 10 = .ok (.aload_n 0, 1) := by decide +kernel
theorem dX3_reset_11 : decode (m_code mX3_reset) 11 = .ok (.iconst 0, 1) := by decide +kernel
theorem dX3_reset_12 : decode (m_code mX3_reset) 12 = .ok (.putfield 34, 3) := by decide +kernel
theorem dX3_reset_15 : decode (m_code mX3_reset) 15 = .ok (.aload_n 0, 1) := by decide +kernel
theorem dX3_reset_16 : decode (m_code mX3_reset) 16 = .ok (.iconst 0, 1) := by decide +kernel
theorem dX3_reset_17 : decode (m_code mX3_reset) 17 = .ok (.putfield 37, 3) := by decide +kernel
theorem dX3_reset_20 : decode (m_code mX3_reset) 20 = .ok (.aload_n 0, 1) := by decide +kernel
theorem dX3_reset_21 : decode (m_code mX3_reset) 21 = .ok (.iconst 0, 1) := by decide +kernel
theorem dX3_reset_22 : decode (m_code mX3_reset) 22 = .ok (.putfield 40, 3) := by decide +kernel
theorem dX3_reset_25 : decode (m_code mX3_reset) 25 = .ok (.aload_n 0, 1) := by decide +kernel
theorem dX3_reset_26 : decode (m_code mX3_reset) 26 = .ok (.iconst 0, 1) := by decide +kernel
theorem dX3_reset_27 : decode (m_code mX3_reset) 27 = .ok (.putfield 43, 3) := by decide +kernel
theorem dX3_reset_30 : decode (m_code mX3_reset) 30 = .ok (.aload_n 0, 1) := by decide +kernel
theorem dX3_reset_31 : decode (m_code mX3_reset) 31 = .ok (.iconst 0, 1) := by decide +kernel
theorem dX3_reset_32 : decode (m_code mX3_reset) 32 = .ok (.putfield 46, 3) := by decide +kernel
theorem dX3_reset_35 : decode (m_code mX3_reset) 35 = .ok (.aload_n 0, 1) := by decide +kernel
theorem dX3_reset_36 : decode (m_code mX3_reset) 36 = .ok (.iconst 0, 1) := by decide +kernel
theorem dX3_reset_37 : decode (m_code mX3_reset) 37 = .ok (.putfield 49, 3) := by decide +kernel
theorem dX3_reset_40 : decode (m_code mX3_reset) 40 = .ok (.aload_n 0, 1) := by decide +kernel
theorem dX3_reset_41 : decode (m_code mX3_reset) 41 = .ok (.iconst 0, 1) := by decide +kernel
theorem dX3_reset_42 : decode (m_code mX3_reset) 42 = .ok (.putfield 52, 3) := by decide +kernel
theorem dX3_reset_45 : decode (m_code mX3_reset) 45 = .ok (.aload_n 0, 1) := by decide +kernel
theorem dX3_reset_46 : decode (m_code mX3_reset) 46 = .ok (.iconst 1, 1) := by decide +kernel
theorem dX3_reset_47 : decode (m_code mX3_reset) 47 = .ok (.putfield 28, 3) := by decide +kernel
theorem dX3_reset_50 : decode (m_code mX3_reset) 50 = .ok (.aload_n 0, 1) := by decide +kernel
theorem dX3_reset_51 : decode (m_code mX3_reset) 51 = .ok (.iconst 0, 1) := by decide +kernel
theorem dX3_reset_52 : decode (m_code mX3_reset) 52 = .ok (.putfield 55, 3) := by decide +kernel
theorem dX3_reset_55 : decode (m_code mX3_reset) 55 = .ok (.aload_n 0, 1) := by decide +kernel
theorem dX3_reset_56 : decode (m_code mX3_reset) 56 = .ok (.getfield 9, 3) := by decide +kernel
theorem dX3_reset_59 : decode (m_code mX3_reset) 59 = .ok (.iconst 0, 1) := by decide +kernel
theorem dX3_reset_60 : decode (m_code mX3_reset) 60 = .ok (.invokestatic 58, 3) := by decide +kernel
theorem dX3_reset_63 : decode (m_code mX3_reset) 63 = .ok (.aload_n 0, 1) := by decide +kernel
theorem dX3_reset_64 : decode (m_code mX3_reset) 64 = .ok (.getfield 15, 3) := by decide +kernel
theorem dX3_reset_67 : decode (m_code mX3_reset) 67 = .ok (.iconst 0, 1) := by decide +kernel
theorem dX3_reset_68 : decode (m_code mX3_reset) 68 = .ok (.invokestatic 58, 3) := by decide +kernel
theorem dX3_reset_71 : decode (m_code mX3_reset) 71 = .ok (.aload_n 0, 1) := by decide +kernel
theorem dX3_reset_72 : decode (m_code mX3_reset) 72 = .ok (.getfield 18, 3) := by decide +kernel
theorem dX3_reset_75 : decode (m_code mX3_reset) 75 = .ok (.iconst 0, 1) := by decide +kernel
theorem dX3_reset_76 : decode (m_code mX3_reset) 76 = .ok (.invokestatic 58, 3) := by decide +kernel
theorem dX3_reset_79 : decode (m_code mX3_reset) 79 = .ok (.aload_n 0, 1) := by decide +kernel
theorem dX3_reset_80 : decode (m_code mX3_reset) 80 = .ok (.getfield 21, 3) := by decide +kernel
theorem dX3_reset_83 : decode (m_code mX3_reset) 83 = .ok (.iconst 0, 1) := by decide +kernel
theorem dX3_reset_84 : decode (m_code mX3_reset) 84 = .ok (.invokestatic 58, 3) := by decide +kernel
theorem dX3_reset_87 : decode (m_code mX3_reset) 87 = .ok (.return_, 1) := by decide +kernel
theorem dX3_copyFrom_0 : decode (m_code mX3_copyFrom) 0 = .ok (.aload_n 0, 1) := by decide +kernel
theorem dX3_copyFrom_1 : decode (m_code mX3_copyFrom) 1 = .ok (.aload_n 1, 1) := by decide +kernel
theorem dX3_copyFrom_2 : decode (m_code mX3_copyFrom) 2 = .ok (.getfield 31, 3) := by decide +kernel
theorem dX3_copyFrom_5 : decode (m_code mX3_copyFrom) 5 = .ok (.putfield 31, 3) := by decide +kernel
theorem dX3_copyFrom_8 : decode (m_code mX3_copyFrom) 8 = .ok (.aload_n 0, 1) := by decide +kernel
theorem dX3_copyFrom_9 : decode (m_code mX3_copyFrom) 9 = .ok (.aload_n 1, 1) := by decide +kernel
theorem dX3_copyFrom_10 : decode (m_code mX3_copyFrom) 10 = .ok (.getfield 24, 3) := by decide +kernel
theorem dX3_copyFrom_13 : decode (m_code mX3_copyFrom) 13 = .ok (.putfield 24, 3) := by decide +kernel
theorem dX3_copyFrom_16 : decode (m_code mX3_copyFrom) 16 = .ok (.aload_n 0, 1) := by decide +kernel
theorem dX3_copyFrom_17 : decode (m_code mX3_copyFrom) 17 = .ok (.aload_n 1, 1) := by decide +kernel
theorem dX3_copyFrom_18 : decode (m_code mX3_copyFrom) 18 = .ok (.getfield 34, 3) := by decide +kernel
theorem dX3_copyFrom_21 : decode (m_code mX3_copyFrom) 21 = .ok (.putfield 34, 3) := by decide +kernel
theorem dX3_copyFrom_24 : decode (m_code mX3_copyFrom) 24 = .ok (.aload_n 0, 1) := by decide +kernel
theorem dX3_copyFrom_25 : decode (m_code mX3_copyFrom) 25 = .ok (.aload_n 1, 1) := by decide +kernel
theorem dX3_copyFrom_26 : decode (m_code mX3_copyFrom) 26 = .ok (.getfield 37, 3) := by decide +kernel
theorem dX3_copyFrom_29 : decode (m_code mX3_copyFrom) 29 = .ok (.putfield 37, 3) := by decide +kernel
theorem dX3_copyFrom_32 : decode (m_code mX3_copyFrom) 32 = .ok (.aload_n 0, 1) := by decide +kernel
theorem dX3_copyFrom_33 : decode (m_code mX3_copyFrom) 33 = .ok (.aload_n 1, 1) := by decide +kernel
theorem dX3_copyFrom_34 : decode (m_code mX3_copyFrom) 34 = .ok (.getfield 40, 3) := by decide +kernel
theorem dX3_copyFrom_37 : decode (m_code mX3_copyFrom) 37 = .ok (.putfield 40, 3) := by decide +kernel
theorem dX3_copyFrom_40 : decode (m_code mX3_copyFrom) 40 = .ok (.aload_n 0, 1) := by decide +kernel
theorem dX3_copyFrom_41 : decode (m_code mX3_copyFrom) 41 = .ok (.aload_n 1, 1) := by decide +kernel
theorem dX3_copyFrom_42 : decode (m_code mX3_copyFrom) 42 = .ok (.getfield 43, 3) := by decide +kernel
theorem dX3_copyFrom_45 : decode (m_code mX3_copyFrom) 45 = .ok (.putfield 43, 3) := by decide +kernel
theorem dX3_copyFrom_48 : decode (m_code mX3_copyFrom) 48 = .ok (.aload_n 0, 1) := by decide +kernel
theorem dX3_copyFrom_49 : decode (m_code mX3_copyFrom) 49 = .ok (.aload_n 1, 1) := by decide +kernel
theorem dX3_copyFrom_50 : decode (m_code mX3_copyFrom) 50 = .ok (.getfield 46, 3) := by decide +kernel
theorem dX3_copyFrom_53 : decode (m_code mX3_copyFrom) 53 = .ok (.putfield 46, 3) := by decide +kernel
theorem dX3_copyFrom_56 : decode (m_code mX3_copyFrom) 56 = .ok (.aload_n 0, 1) := by decide +kernel
theorem dX3_copyFrom_57 : decode (m_code mX3_copyFrom) 57 = .ok (.aload_n 1, 1) := by decide +kernel
theorem dX3_copyFrom_58 : decode (m_code mX3_copyFrom) 58 = .ok (.getfield 49, 3) := by decide +kernel
theorem dX3_copyFrom_61 : decode (m_code mX3_copyFrom) 61 = .ok (.putfield 49, 3) := by decide +kernel
theorem dX3_copyFrom_64 : decode (m_code mX3_copyFrom) 64 = .ok (.aload_n 0, 1) := by decide +kernel
theorem dX3_copyFrom_65 : decode (m_code mX3_copyFrom) 65 = .ok (.aload_n 1, 1) := by decide +kernel
theorem dX3_copyFrom_66 : decode (m_code mX3_copyFrom) 66 = .ok (.getfield 52, 3) := by decide +kernel
theorem dX3_copyFrom_69 : decode (m_code mX3_copyFrom) 69 = .ok (.putfield 52, 3) := by decide +kernel
theorem dX3_copyFrom_72 : decode (m_code mX3_copyFrom) 72 = .ok (.aload_n 0, 1) := by decide +kernel
theorem dX3_copyFrom_73 : decode (m_code mX3_copyFrom) 73 = .ok (.aload_n 1, 1) := by decide +kernel
theorem dX3_copyFrom_74 : decode (m_code mX3_copyFrom) 74 = .ok (.getfield 28, 3) := by decide +kernel
theorem dX3_copyFrom_77 : decode (m_code mX3_copyFrom) 77 = .ok (.putfield 28, 3) := by decide +kernel
theorem dX3_copyFrom_80 : decode (m_code mX3_copyFrom) 80 = .ok (.aload_n 0, 1) := by decide +kernel
theorem dX3_copyFrom_81 : decode (m_code mX3_copyFrom) 81 = .ok (.aload_n 1, 1) := by decide +kernel
theorem dX3_copyFrom_82 : decode (m_code mX3_copyFrom) 82 = .ok (.getfield 55, 3) := by decide +kernel
theorem dX3_copyFrom_85 : decode (m_code mX3_copyFrom) 85 = .ok (.putfield 55, 3) := by decide +kernel
theorem dX3_copyFrom_88 : decode (m_code mX3_copyFrom) 88 = .ok (.aload_n 1, 1) := by decide +kernel
theorem dX3_copyFrom_89 : decode (m_code mX3_copyFrom) 89 = .ok (.getfield 9, 3) := by decide +kernel
theorem dX3_copyFrom_92 : decode (m_code mX3_copyFrom) 92 = .ok (.iconst 0, 1) := by decide +kernel
theorem dX3_copyFrom_93 : decode (m_code mX3_copyFrom) 93 = .ok (.aload_n 0, 1) := by decide +kernel
theorem dX3_copyFrom_94 : decode (m_code mX3_copyFrom) 94 = .ok (.getfield 9, 3) := by decide +kernel
theorem dX3_copyFrom_97 : decode (m_code mX3_copyFrom) 97 = .ok (.iconst 0, 1) := by decide +kernel
theorem dX3_copyFrom_98 : decode (m_code mX3_copyFrom) 98 = .ok (.bipush 100, 2) := by decide +kernel
theorem dX3_copyFrom_100 : decode (m_code mX3_copyFrom) 100 = .ok (.invokestatic 64, 3) := by decide +kernel
theorem dX3_copyFrom_103 : decode (m_code mX3_copyFrom) 103 = .ok (.aload_n 1, 1) := by decide +kernel
theorem dX3_copyFrom_104 : decode (m_code mX3_copyFrom) 104 = .ok (.getfield 15, 3) := by decide +kernel
theorem dX3_copyFrom_107 : decode (m_code mX3_copyFrom) 107 = .ok (.iconst 0, 1) := by decide +kernel
theorem dX3_copyFrom_108 : decode (m_code mX3_copyFrom) 108 = .ok (.aload_n 0, 1) := by decide +kernel
theorem dX3_copyFrom_109 : decode (m_code mX3_copyFrom) 109 = .ok (.getfield 15, 3) := by decide +kernel
theorem dX3_copyFrom_112 : decode (m_code mX3_copyFrom) 112 = .ok (.iconst 0, 1) := by decide +kernel
theorem dX3_copyFrom_113 : decode (m_code mX3_copyFrom) 113 = .ok (.bipush 100, 2) := by decide +kernel
theorem dX3_copyFrom_115 : decode (m_code mX3_copyFrom) 115 = .ok (.invokestatic 64, 3) := by decide +kernel
theorem dX3_copyFrom_118 : decode (m_code mX3_copyFrom) 118 = .ok (.aload_n 1, 1) := by decide +kernel
theorem dX3_copyFrom_119 : decode (m_code mX3_copyFrom) 119 = .ok (.getfield 18, 3) := by decide +kernel
theorem dX3_copyFrom_122 : decode (m_code mX3_copyFrom) 122 = .ok (.iconst 0, 1) := by decide +kernel
theorem dX3_copyFrom_123 : decode (m_code mX3_copyFrom) 123 = .ok (.aload_n 0, 1) := by decide +kernel
theorem dX3_copyFrom_124 : decode (m_code mX3_copyFrom) 124 = .ok (.getfield 18, 3) := by decide +kernel
theorem dX3_copyFrom_127 : decode (m_code mX3_copyFrom) 127 = .ok (.iconst 0, 1) := by decide +kernel
theorem dX3_copyFrom_128 : decode (m_code mX3_copyFrom) 128 = .ok (.bipush 100, 2) := by decide +kernel
theorem dX3_copyFrom_130 : decode (m_code mX3_copyFrom) 130 = .ok (.invokestatic 64, 3) := by decide +kernel
theorem dX3_copyFrom_133 : decode (m_code mX3_copyFrom) 133 = .ok (.aload_n 1, 1) := by decide +kernel
theorem dX3_copyFrom_134 : decode (m_code mX3_copyFrom) 134 = .ok (.getfield 21, 3) := by decide +kernel
theorem dX3_copyFrom_137 : decode (m_code mX3_copyFrom) 137 = .ok (.iconst 0, 1) := by decide +kernel
theorem dX3_copyFrom_138 : decode (m_code mX3_copyFrom) 138 = .ok (.aload_n 0, 1) := by decide +kernel
theorem dX3_copyFrom_139 : decode (m_code mX3_copyFrom) 139 = .ok (.getfield 21, 3) := by decide +kernel
theorem dX3_copyFrom_142 : decode (m_code mX3_copyFrom) 142 = .ok (.iconst 0, 1) := by decide +kernel
theorem dX3_copyFrom_143 : decode (m_code mX3_copyFrom) 143 = .ok (.sipush 201, 3) := by decide +kernel
theorem dX3_copyFrom_146 : decode (m_code mX3_copyFrom) 146 = .ok (.invokestatic 64, 3) := by decide +kernel
theorem dX3_copyFrom_149 : decode (m_code mX3_copyFrom) 149 = .ok (.return_, 1) := by decide +kernel
theorem dX3_lastLogged_0 : decode (m_code mX3_lastLogged) 0 = .ok (.aload_n 0, 1) := by decide +kernel
theorem dX3_lastLogged_1 : decode (m_code mX3_lastLogged) 1 = .ok (.getfield 9, 3) := by decide +kernel
theorem dX3_lastLogged_4 : decode (m_code mX3_lastLogged) 4 = .ok (.aload_n 0, 1) := by decide +kernel
theorem dX3_lastLogged_5 : decode (m_code mX3_lastLogged) 5 = .ok (.getfield 28, 3) := by decide +kernel
theorem dX3_lastLogged_8 : decode (m_code mX3_lastLogged) 8 = .ok (.iconst 1, 1) := by decide +kernel
theorem dX3_lastLogged_9 : decode (m_code mX3_lastLogged) 9 = .ok (.isub, 1) := by decide +kernel
theorem dX3_lastLogged_10 : decode (m_code mX3_lastLogged) 10 = .ok (.iaload, 1) := by decide +kernel
theorem dX3_lastLogged_11 : decode (m_code mX3_lastLogged) 11 = .ok (.ireturn, 1) := by decide +kernel
theorem dX3_hasLogged_0 : decode (m_code mX3_hasLogged) 0 = .ok (.aload_n 1, 1) := by decide +kernel
theorem dX3_hasLogged_1 : decode (m_code mX3_hasLogged) 1 = .ok (.getfield 70, 3) := by decide +kernel
theorem dX3_hasLogged_4 : decode (m_code mX3_hasLogged) 4 = .ok (.iload_n 2, 1) := by decide +kernel
theorem dX3_hasLogged_5 : decode (m_code mX3_hasLogged) 5 = .ok (.iaload, 1) := by decide +kernel
theorem dX3_hasLogged_6 : decode (m_code mX3_hasLogged) 6 = .ok (.istore_n 3, 1) := by decide +kernel
theorem dX3_hasLogged_7 : decode (m_code mX3_hasLogged) 7 = .ok (.iload_n 3, 1) := by decide +kernel
theorem dX3_hasLogged_8 : decode (m_code mX3_hasLogged) 8 = .ok (.aload_n 0, 1) := by decide +kernel
theorem dX3_hasLogged_9 : decode (m_code mX3_hasLogged) 9 = .ok (.getfield 28, 3) := by decide +kernel
theorem dX3_hasLogged_12 : decode (m_code mX3_hasLogged) 12 = .ok (.if_icmp .ge 17, 3) := by decide +kernel
theorem dX3_hasLogged_15 : decode (m_code mX3_hasLogged) 15 = .ok (.aload_n 0, 1) := by decide +kernel
theorem dX3_hasLogged_16 : decode (m_code mX3_hasLogged) 16 = .ok (.getfield 9, 3) := by decide +kernel
theorem dX3_hasLogged_19 : decode (m_code mX3_hasLogged) 19 = .ok (.iload_n 3, 1) := by decide +kernel
theorem dX3_hasLogged_20 : decode (m_code mX3_hasLogged) 20 = .ok (.iaload, 1) := by decide +kernel
theorem dX3_hasLogged_21 : decode (m_code mX3_hasLogged) 21 = .ok (.iload_n 2, 1) := by decide +kernel
theorem dX3_hasLogged_22 : decode (m_code mX3_hasLogged) 22 = .ok (.if_icmp .ne 7, 3) := by decide +kernel
theorem dX3_hasLogged_25 : decode (m_code mX3_hasLogged) 25 = .ok (.iconst 1, 1) := by decide +kernel
theorem dX3_hasLogged_26 : decode (m_code mX3_hasLogged) 26 = .ok (.goto 4, 3) := by decide +kernel
theorem dX3_hasLogged_29 : decode (m_code mX3_hasLogged) 29 = .ok (.iconst 0, 1) := by decide +kernel
theorem dX3_hasLogged_30 : decode (m_code mX3_hasLogged) 30 = .ok (.ireturn, 1) := by decide +kernel
theorem dX3_seenRival_0 : decode (m_code mX3_seenRival) 0 = .ok (.iconst 0, 1) := by decide +kernel
theorem dX3_seenRival_1 : decode (m_code mX3_seenRival) 1 = .ok (.istore_n 3, 1) := by decide +kernel
theorem dX3_seenRival_2 : decode (m_code mX3_seenRival) 2 = .ok (.iload_n 3, 1) := by decide +kernel
theorem dX3_seenRival_3 : decode (m_code mX3_seenRival) 3 = .ok (.aload_n 0, 1) := by decide +kernel
theorem dX3_seenRival_4 : decode (m_code mX3_seenRival) 4 = .ok (.getfield 55, 3) := by decide +kernel
theorem dX3_seenRival_7 : decode (m_code mX3_seenRival) 7 = .ok (.if_icmp .ge 46, 3) := by decide +kernel
theorem dX3_seenRival_10 : decode (m_code mX3_seenRival) 10 = .ok (.aload_n 0, 1) := by decide +kernel
theorem dX3_seenRival_11 : decode (m_code mX3_seenRival) 11 = .ok (.getfield 15, 3) := by decide +kernel
theorem dX3_seenRival_14 : decode (m_code mX3_seenRival) 14 = .ok (.iload_n 3, 1) := by decide +kernel
theorem dX3_seenRival_15 : decode (m_code mX3_seenRival) 15 = .ok (.iaload, 1) := by decide +kernel
theorem dX3_seenRival_16 : decode (m_code mX3_seenRival) 16 = .ok (.iload_n 2, 1) := by decide +kernel
theorem dX3_seenRival_17 : decode (m_code mX3_seenRival) 17 = .ok (.if_icmp .eq 30, 3) := by decide +kernel
theorem dX3_seenRival_20 : decode (m_code mX3_seenRival) 20 = .ok (.aload_n 1, 1) := by decide +kernel
theorem dX3_seenRival_21 : decode (m_code mX3_seenRival) 21 = .ok (.getfield 75, 3) := by decide +kernel
theorem dX3_seenRival_24 : decode (m_code mX3_seenRival) 24 = .ok (.aload_n 0, 1) := by decide +kernel
theorem dX3_seenRival_25 : decode (m_code mX3_seenRival) 25 = .ok (.getfield 15, 3) := by decide +kernel
theorem dX3_seenRival_28 : decode (m_code mX3_seenRival) 28 = .ok (.iload_n 3, 1) := by decide +kernel
theorem dX3_seenRival_29 : decode (m_code mX3_seenRival) 29 = .ok (.iaload, 1) := by decide +kernel
theorem dX3_seenRival_30 : decode (m_code mX3_seenRival) 30 = .ok (.iaload, 1) := by decide +kernel
theorem dX3_seenRival_31 : decode (m_code mX3_seenRival) 31 = .ok (.aload_n 1, 1) := by decide +kernel
theorem dX3_seenRival_32 : decode (m_code mX3_seenRival) 32 = .ok (.getfield 75, 3) := by decide +kernel
theorem dX3_seenRival_35 : decode (m_code mX3_seenRival) 35 = .ok (.iload_n 2, 1) := by decide +kernel
theorem dX3_seenRival_36 : decode (m_code mX3_seenRival) 36 = .ok (.iaload, 1) := by decide +kernel
theorem dX3_seenRival_37 : decode (m_code mX3_seenRival) 37 = .ok (.if_icmp .ne 10, 3) := by decide +kernel
theorem dX3_seenRival_40 : decode (m_code mX3_seenRival) 40 = .ok (.aload_n 0, 1) := by decide +kernel
theorem dX3_seenRival_41 : decode (m_code mX3_seenRival) 41 = .ok (.getfield 15, 3) := by decide +kernel
theorem dX3_seenRival_44 : decode (m_code mX3_seenRival) 44 = .ok (.iload_n 3, 1) := by decide +kernel
theorem dX3_seenRival_45 : decode (m_code mX3_seenRival) 45 = .ok (.iaload, 1) := by decide +kernel
theorem dX3_seenRival_46 : decode (m_code mX3_seenRival) 46 = .ok (.ireturn, 1) := by decide +kernel
theorem dX3_seenRival_47 : decode (m_code mX3_seenRival) 47 = .ok (.iinc 3 1, 3) := by decide +kernel
theorem dX3_seenRival_50 : decode (m_code mX3_seenRival) 50 = .ok (.goto (-48), 3) := by decide +kernel
theorem dX3_seenRival_53 : decode (m_code mX3_seenRival) 53 = .ok (.iconst (-1), 1) := by decide +kernel
theorem dX3_seenRival_54 : decode (m_code mX3_seenRival) 54 = .ok (.ireturn, 1) := by decide +kernel
theorem dX3_see_0 : decode (m_code mX3_see) 0 = .ok (.iconst 0, 1) := by decide +kernel
theorem dX3_see_1 : decode (m_code mX3_see) 1 = .ok (.istore_n 2, 1) := by decide +kernel
theorem dX3_see_2 : decode (m_code mX3_see) 2 = .ok (.iload_n 2, 1) := by decide +kernel
theorem dX3_see_3 : decode (m_code mX3_see) 3 = .ok (.aload_n 0, 1) := by decide +kernel
theorem dX3_see_4 : decode (m_code mX3_see) 4 = .ok (.getfield 55, 3) := by decide +kernel
theorem dX3_see_7 : decode (m_code mX3_see) 7 = .ok (.if_icmp .ge 20, 3) := by decide +kernel
theorem dX3_see_10 : decode (m_code mX3_see) 10 = .ok (.aload_n 0, 1) := by decide +kernel
theorem dX3_see_11 : decode (m_code mX3_see) 11 = .ok (.getfield 15, 3) := by decide +kernel
theorem dX3_see_14 : decode (m_code mX3_see) 14 = .ok (.iload_n 2, 1) := by decide +kernel
theorem dX3_see_15 : decode (m_code mX3_see) 15 = .ok (.iaload, 1) := by decide +kernel
theorem dX3_see_16 : decode (m_code mX3_see) 16 = .ok (.iload_n 1, 1) := by decide +kernel
theorem dX3_see_17 : decode (m_code mX3_see) 17 = .ok (.if_icmp .ne 4, 3) := by decide +kernel
theorem dX3_see_20 : decode (m_code mX3_see) 20 = .ok (.return_, 1) := by decide +kernel
theorem dX3_see_21 : decode (m_code mX3_see) 21 = .ok (.iinc 2 1, 3) := by decide +kernel
theorem dX3_see_24 : decode (m_code mX3_see) 24 = .ok (.goto (-22), 3) := by decide +kernel
theorem dX3_see_27 : decode (m_code mX3_see) 27 = .ok (.aload_n 0, 1) := by decide +kernel
theorem dX3_see_28 : decode (m_code mX3_see) 28 = .ok (.getfield 55, 3) := by decide +kernel
theorem dX3_see_31 : decode (m_code mX3_see) 31 = .ok (.bipush 100, 2) := by decide +kernel
theorem dX3_see_33 : decode (m_code mX3_see) 33 = .ok (.if_icmp .ge 23, 3) := by decide +kernel
theorem dX3_see_36 : decode (m_code mX3_see) 36 = .ok (.aload_n 0, 1) := by decide +kernel
theorem dX3_see_37 : decode (m_code mX3_see) 37 = .ok (.getfield 15, 3) := by decide +kernel
theorem dX3_see_40 : decode (m_code mX3_see) 40 = .ok (.aload_n 0, 1) := by decide +kernel
theorem dX3_see_41 : decode (m_code mX3_see) 41 = .ok (.getfield 55, 3) := by decide +kernel
theorem dX3_see_44 : decode (m_code mX3_see) 44 = .ok (.iload_n 1, 1) := by decide +kernel
theorem dX3_see_45 : decode (m_code mX3_see) 45 = .ok (.iastore, 1) := by decide +kernel
theorem dX3_see_46 : decode (m_code mX3_see) 46 = .ok (.aload_n 0, 1) := by decide +kernel
theorem dX3_see_47 : decode (m_code mX3_see) 47 = .ok (.dup, 1) := by decide +kernel
theorem dX3_see_48 : decode (m_code mX3_see) 48 = .ok (.getfield 55, 3) := by decide +kernel
theorem dX3_see_51 : decode (m_code mX3_see) 51 = .ok (.iconst 1, 1) := by decide +kernel
theorem dX3_see_52 : decode (m_code mX3_see) 52 = .ok (.iadd, 1) := by decide +kernel
theorem dX3_see_53 : decode (m_code mX3_see) 53 = .ok (.putfield 55, 3) := by decide +kernel
theorem dX3_see_56 : decode (m_code mX3_see) 56 = .ok (.return_, 1) := by decide +kernel
theorem dX3_markedRival_0 : decode (m_code mX3_markedRival) 0 = .ok (.iconst 1, 1) := by decide +kernel
theorem dX3_markedRival_1 : decode (m_code mX3_markedRival) 1 = .ok (.istore 4, 2) := by decide +kernel
theorem dX3_markedRival_3 : decode (m_code mX3_markedRival) 3 = .ok (.iload 4, 2) := by decide +kernel
theorem dX3_markedRival_5 : decode (m_code mX3_markedRival) 5 = .ok (.aload_n 1, 1) := by decide +kernel
theorem dX3_markedRival_6 : decode (m_code mX3_markedRival) 6 = .ok (.getfield 77, 3) := by decide +kernel
theorem dX3_markedRival_9 : decode (m_code mX3_markedRival) 9 = .ok (.if_icmp .ge 49, 3) := by decide +kernel
theorem dX3_markedRival_12 : decode (m_code mX3_markedRival) 12 = .ok (.iload 4, 2) := by decide +kernel
theorem dX3_markedRival_14 : decode (m_code mX3_markedRival) 14 = .ok (.iload_n 3, 1) := by decide +kernel
theorem dX3_markedRival_15 : decode (m_code mX3_markedRival) 15 = .ok (.if_icmp .eq 37, 3) := by decide +kernel
theorem dX3_markedRival_18 : decode (m_code mX3_markedRival) 18 = .ok (.aload_n 1, 1) := by decide +kernel
theorem dX3_markedRival_19 : decode (m_code mX3_markedRival) 19 = .ok (.getfield 75, 3) := by decide +kernel
theorem dX3_markedRival_22 : decode (m_code mX3_markedRival) 22 = .ok (.iload 4, 2) := by decide +kernel
theorem dX3_markedRival_24 : decode (m_code mX3_markedRival) 24 = .ok (.iaload, 1) := by decide +kernel
theorem dX3_markedRival_25 : decode (m_code mX3_markedRival) 25 = .ok (.aload_n 1, 1) := by decide +kernel
theorem dX3_markedRival_26 : decode (m_code mX3_markedRival) 26 = .ok (.getfield 75, 3) := by decide +kernel
theorem dX3_markedRival_29 : decode (m_code mX3_markedRival) 29 = .ok (.iload_n 3, 1) := by decide +kernel
theorem dX3_markedRival_30 : decode (m_code mX3_markedRival) 30 = .ok (.iaload, 1) := by decide +kernel
theorem dX3_markedRival_31 : decode (m_code mX3_markedRival) 31 = .ok (.if_icmp .ne 21, 3) := by decide +kernel
theorem dX3_markedRival_34 : decode (m_code mX3_markedRival) 34 = .ok (.aload_n 0, 1) := by decide +kernel
theorem dX3_markedRival_35 : decode (m_code mX3_markedRival) 35 = .ok (.getfield 18, 3) := by decide +kernel
theorem dX3_markedRival_38 : decode (m_code mX3_markedRival) 38 = .ok (.iload 4, 2) := by decide +kernel
theorem dX3_markedRival_40 : decode (m_code mX3_markedRival) 40 = .ok (.iaload, 1) := by decide +kernel
theorem dX3_markedRival_41 : decode (m_code mX3_markedRival) 41 = .ok (.iload_n 2, 1) := by decide +kernel
theorem dX3_markedRival_42 : decode (m_code mX3_markedRival) 42 = .ok (.ishr, 1) := by decide +kernel
theorem dX3_markedRival_43 : decode (m_code mX3_markedRival) 43 = .ok (.iconst 1, 1) := by decide +kernel
theorem dX3_markedRival_44 : decode (m_code mX3_markedRival) 44 = .ok (.iand, 1) := by decide +kernel
theorem dX3_markedRival_45 : decode (m_code mX3_markedRival) 45 = .ok (.iconst 1, 1) := by decide +kernel
theorem dX3_markedRival_46 : decode (m_code mX3_markedRival) 46 = .ok (.if_icmp .ne 6, 3) := by decide +kernel
theorem dX3_markedRival_49 : decode (m_code mX3_markedRival) 49 = .ok (.iload 4, 2) := by decide +kernel
theorem dX3_markedRival_51 : decode (m_code mX3_markedRival) 51 = .ok (.ireturn, 1) := by decide +kernel
theorem dX3_markedRival_52 : decode (m_code mX3_markedRival) 52 = .ok (.iinc 4 1, 3) := by decide +kernel
theorem dX3_markedRival_55 : decode (m_code mX3_markedRival) 55 = .ok (.goto (-52), 3) := by decide +kernel
theorem dX3_markedRival_58 : decode (m_code mX3_markedRival) 58 = .ok (.iconst (-1), 1) := by decide +kernel
theorem dX3_markedRival_59 : decode (m_code mX3_markedRival) 59 = .ok (.ireturn, 1) := by decide +kernel
theorem dX4_init_0 : decode (m_code mX4_init) 0 = .ok (.aload_n 0, 1) := by decide +kernel
theorem dX4_init_1 : decode (m_code mX4_init) 1 = .ok (.invokespecial 3, 3) := by decide +kernel
theorem dX4_init_4 : decode (m_code mX4_init) 4 = .ok (.aload_n 0, 1) := by decide +kernel
theorem dX4_init_5 : decode (m_code mX4_init) 5 = .ok (.sipush 200, 3) := by decide +kernel
theorem dX4_init_8 : decode (m_code mX4_init) 8 = .ok (.newarray .int, 2) := by decide +kernel
theorem dX4_init_10 : decode (m_code mX4_init) 10 = .ok (.putfield 9, 3) := by decide +kernel
theorem dX4_init_13 : decode (m_code mX4_init) 13 = .ok (.aload_n 0, 1) := by decide +kernel
theorem dX4_init_14 : decode (m_code mX4_init) 14 = .ok (.bipush 7, 2) := by decide +kernel
theorem dX4_init_16 : decode (m_code mX4_init) 16 = .ok (.newarray .int, 2) := by decide +kernel
theorem dX4_init_18 : decode (m_code mX4_init) 18 = .ok (.putfield 15, 3) := by decide +kernel
theorem dX4_init_21 : decode (m_code mX4_init) 21 = .ok (.return_, 1) := by decide +kernel
theorem dX4_copyFrom_0 : decode (m_code mX4_copyFrom) 0 = .ok (.aload_n 0, 1) := by decide +kernel
theorem dX4_copyFrom_1 : decode (m_code mX4_copyFrom) 1 = .ok (.aload_n 1, 1) := by decide +kernel
theorem dX4_copyFrom_2 : decode (m_code mX4_copyFrom) 2 = .ok (.getfield 18, 3) := by decide +kernel
theorem dX4_copyFrom_5 : decode (m_code mX4_copyFrom) 5 = .ok (.putfield 18, 3) := by decide +kernel
theorem dX4_copyFrom_8 : decode (m_code mX4_copyFrom) 8 = .ok (.aload_n 0, 1) := by decide +kernel
theorem dX4_copyFrom_9 : decode (m_code mX4_copyFrom) 9 = .ok (.aload_n 1, 1) := by decide +kernel
theorem dX4_copyFrom_10 : decode (m_code mX4_copyFrom) 10 = .ok (.getfield 22, 3) := by decide +kernel
theorem dX4_copyFrom_13 : decode (m_code mX4_copyFrom) 13 = .ok (.putfield 22, 3) := by decide +kernel
theorem dX4_copyFrom_16 : decode (m_code mX4_copyFrom) 16 = .ok (.aload_n 0, 1) := by decide +kernel
theorem dX4_copyFrom_17 : decode (m_code mX4_copyFrom) 17 = .ok (.aload_n 1, 1) := by decide +kernel
theorem dX4_copyFrom_18 : decode (m_code mX4_copyFrom) 18 = .ok (.getfield 25, 3) := by decide +kernel
theorem dX4_copyFrom_21 : decode (m_code mX4_copyFrom) 21 = .ok (.putfield 25, 3) := by decide +kernel
theorem dX4_copyFrom_24 : decode (m_code mX4_copyFrom) 24 = .ok (.aload_n 0, 1) := by decide +kernel
theorem dX4_copyFrom_25 : decode (m_code mX4_copyFrom) 25 = .ok (.aload_n 1, 1) := by decide +kernel
theorem dX4_copyFrom_26 : decode (m_code mX4_copyFrom) 26 = .ok (.getfield 28, 3) := by decide +kernel
theorem dX4_copyFrom_29 : decode (m_code mX4_copyFrom) 29 = .ok (.putfield 28, 3) := by decide +kernel
theorem dX4_copyFrom_32 : decode (m_code mX4_copyFrom) 32 = .ok (.aload_n 0, 1) := by decide +kernel
theorem dX4_copyFrom_33 : decode (m_code mX4_copyFrom) 33 = .ok (.aload_n 1, 1) := by decide +kernel
theorem dX4_copyFrom_34 : decode (m_code mX4_copyFrom) 34 = .ok (.getfield 31, 3) := by decide +kernel
theorem dX4_copyFrom_37 : decode (m_code mX4_copyFrom) 37 = .ok (.putfield 31, 3) := by decide +kernel
theorem dX4_copyFrom_40 : decode (m_code mX4_copyFrom) 40 = .ok (.aload_n 1, 1) := by decide +kernel
theorem dX4_copyFrom_41 : decode (m_code mX4_copyFrom) 41 = .ok (.getfield 9, 3) := by decide +kernel
theorem dX4_copyFrom_44 : decode (m_code mX4_copyFrom) 44 = .ok (.iconst 0, 1) := by decide +kernel
theorem dX4_copyFrom_45 : decode (m_code mX4_copyFrom) 45 = .ok (.aload_n 0, 1) := by decide +kernel
theorem dX4_copyFrom_46 : decode (m_code mX4_copyFrom) 46 = .ok (.getfield 9, 3) := by decide +kernel
theorem dX4_copyFrom_49 : decode (m_code mX4_copyFrom) 49 = .ok (.iconst 0, 1) := by decide +kernel
theorem dX4_copyFrom_50 : decode (m_code mX4_copyFrom) 50 = .ok (.sipush 200, 3) := by decide +kernel
theorem dX4_copyFrom_53 : decode (m_code mX4_copyFrom) 53 = .ok (.invokestatic 34, 3) := by decide +kernel
theorem dX4_copyFrom_56 : decode (m_code mX4_copyFrom) 56 = .ok (.aload_n 1, 1) := by decide +kernel
theorem dX4_copyFrom_57 : decode (m_code mX4_copyFrom) 57 = .ok (.getfield 15, 3) := by decide +kernel
theorem dX4_copyFrom_60 : decode (m_code mX4_copyFrom) 60 = .ok (.iconst 0, 1) := by decide +kernel
theorem dX4_copyFrom_61 : decode (m_code mX4_copyFrom) 61 = .ok (.aload_n 0, 1) := by decide +kernel
theorem dX4_copyFrom_62 : decode (m_code mX4_copyFrom) 62 = .ok (.getfield 15, 3) := by decide +kernel
theorem dX4_copyFrom_65 : decode (m_code mX4_copyFrom) 65 = .ok (.iconst 0, 1) := by decide +kernel
theorem dX4_copyFrom_66 : decode (m_code mX4_copyFrom) 66 = .ok (.bipush 7, 2) := by decide +kernel
theorem dX4_copyFrom_68 : decode (m_code mX4_copyFrom) 68 = .ok (.invokestatic 34, 3) := by decide +kernel
theorem dX4_copyFrom_71 : decode (m_code mX4_copyFrom) 71 = .ok (.return_, 1) := by decide +kernel
theorem dX4_senderOf_0 : decode (m_code mX4_senderOf) 0 = .ok (.iload_n 0, 1) := by decide +kernel
theorem dX4_senderOf_1 : decode (m_code mX4_senderOf) 1 = .ok (.bipush 20, 2) := by decide +kernel
theorem dX4_senderOf_3 : decode (m_code mX4_senderOf) 3 = .ok (.ishr, 1) := by decide +kernel
theorem dX4_senderOf_4 : decode (m_code mX4_senderOf) 4 = .ok (.bipush 7, 2) := by decide +kernel
theorem dX4_senderOf_6 : decode (m_code mX4_senderOf) 6 = .ok (.iand, 1) := by decide +kernel
theorem dX4_senderOf_7 : decode (m_code mX4_senderOf) 7 = .ok (.ireturn, 1) := by decide +kernel
theorem dX4_targetOf_0 : decode (m_code mX4_targetOf) 0 = .ok (.iload_n 0, 1) := by decide +kernel
theorem dX4_targetOf_1 : decode (m_code mX4_targetOf) 1 = .ok (.bipush 17, 2) := by decide +kernel
theorem dX4_targetOf_3 : decode (m_code mX4_targetOf) 3 = .ok (.ishr, 1) := by decide +kernel
theorem dX4_targetOf_4 : decode (m_code mX4_targetOf) 4 = .ok (.bipush 7, 2) := by decide +kernel
theorem dX4_targetOf_6 : decode (m_code mX4_targetOf) 6 = .ok (.iand, 1) := by decide +kernel
theorem dX4_targetOf_7 : decode (m_code mX4_targetOf) 7 = .ok (.ireturn, 1) := by decide +kernel
theorem dX4_kindOf_0 : decode (m_code mX4_kindOf) 0 = .ok (.iload_n 0, 1) := by decide +kernel
theorem dX4_kindOf_1 : decode (m_code mX4_kindOf) 1 = .ok (.bipush 15, 2) := by decide +kernel
theorem dX4_kindOf_3 : decode (m_code mX4_kindOf) 3 = .ok (.ishr, 1) := by decide +kernel
theorem dX4_kindOf_4 : decode (m_code mX4_kindOf) 4 = .ok (.iconst 3, 1) := by decide +kernel
theorem dX4_kindOf_5 : decode (m_code mX4_kindOf) 5 = .ok (.iand, 1) := by decide +kernel
theorem dX4_kindOf_6 : decode (m_code mX4_kindOf) 6 = .ok (.ireturn, 1) := by decide +kernel
theorem dX4_subjectOf_0 : decode (m_code mX4_subjectOf) 0 = .ok (.iload_n 0, 1) := by decide +kernel
theorem dX4_subjectOf_1 : decode (m_code mX4_subjectOf) 1 = .ok (.bipush 7, 2) := by decide +kernel
theorem dX4_subjectOf_3 : decode (m_code mX4_subjectOf) 3 = .ok (.ishr, 1) := by decide +kernel
theorem dX4_subjectOf_4 : decode (m_code mX4_subjectOf) 4 = .ok (.sipush 255, 3) := by decide +kernel
theorem dX4_subjectOf_7 : decode (m_code mX4_subjectOf) 7 = .ok (.iand, 1) := by decide +kernel
theorem dX4_subjectOf_8 : decode (m_code mX4_subjectOf) 8 = .ok (.ireturn, 1) := by decide +kernel
theorem dX4_highOf_0 : decode (m_code mX4_highOf) 0 = .ok (.iload_n 0, 1) := by decide +kernel
theorem dX4_highOf_1 : decode (m_code mX4_highOf) 1 = .ok (.bipush 127, 2) := by decide +kernel
theorem dX4_highOf_3 : decode (m_code mX4_highOf) 3 = .ok (.iand, 1) := by decide +kernel
theorem dX4_highOf_4 : decode (m_code mX4_highOf) 4 = .ok (.iconst 1, 1) := by decide +kernel
theorem dX4_highOf_5 : decode (m_code mX4_highOf) 5 = .ok (.isub, 1) := by decide +kernel
theorem dX4_highOf_6 : decode (m_code mX4_highOf) 6 = .ok (.ireturn, 1) := by decide +kernel
theorem dX4_has_0 : decode (m_code mX4_has) 0 = .ok (.iload_n 1, 1) := by decide +kernel
theorem dX4_has_1 : decode (m_code mX4_has) 1 = .ok (.ifCond .lt 15, 3) := by decide +kernel
theorem dX4_has_4 : decode (m_code mX4_has) 4 = .ok (.iload_n 1, 1) := by decide +kernel
theorem dX4_has_5 : decode (m_code mX4_has) 5 = .ok (.aload_n 0, 1) := by decide +kernel
theorem dX4_has_6 : decode (m_code mX4_has) 6 = .ok (.getfield 18, 3) := by decide +kernel
theorem dX4_has_9 : decode (m_code mX4_has) 9 = .ok (.if_icmp .ge 7, 3) := by decide +kernel
theorem dX4_has_12 : decode (m_code mX4_has) 12 = .ok (.iconst 1, 1) := by decide +kernel
theorem dX4_has_13 : decode (m_code mX4_has) 13 = .ok (.goto 4, 3) := by decide +kernel
theorem dX4_has_16 : decode (m_code mX4_has) 16 = .ok (.iconst 0, 1) := by decide +kernel
theorem dX4_has_17 : decode (m_code mX4_has) 17 = .ok (.ireturn, 1) := by decide +kernel
theorem dX4_at_0 : decode (m_code mX4_at) 0 = .ok (.aload_n 0, 1) := by decide +kernel
theorem dX4_at_1 : decode (m_code mX4_at) 1 = .ok (.getfield 9, 3) := by decide +kernel
theorem dX4_at_4 : decode (m_code mX4_at) 4 = .ok (.aload_n 0, 1) := by decide +kernel
theorem dX4_at_5 : decode (m_code mX4_at) 5 = .ok (.getfield 22, 3) := by decide +kernel
theorem dX4_at_8 : decode (m_code mX4_at) 8 = .ok (.iload_n 1, 1) := by decide +kernel
theorem dX4_at_9 : decode (m_code mX4_at) 9 = .ok (.iadd, 1) := by decide +kernel
theorem dX4_at_10 : decode (m_code mX4_at) 10 = .ok (.sipush 200, 3) := by decide +kernel
theorem dX4_at_13 : decode (m_code mX4_at) 13 = .ok (.irem, 1) := by decide +kernel
theorem dX4_at_14 : decode (m_code mX4_at) 14 = .ok (.iaload, 1) := by decide +kernel
theorem dX4_at_15 : decode (m_code mX4_at) 15 = .ok (.ireturn, 1) := by decide +kernel
theorem dX4_put_0 : decode (m_code mX4_put) 0 = .ok (.aload_n 0, 1) := by decide +kernel
theorem dX4_put_1 : decode (m_code mX4_put) 1 = .ok (.getfield 9, 3) := by decide +kernel
theorem dX4_put_4 : decode (m_code mX4_put) 4 = .ok (.aload_n 0, 1) := by decide +kernel
theorem dX4_put_5 : decode (m_code mX4_put) 5 = .ok (.getfield 22, 3) := by decide +kernel
theorem dX4_put_8 : decode (m_code mX4_put) 8 = .ok (.iload_n 1, 1) := by decide +kernel
theorem dX4_put_9 : decode (m_code mX4_put) 9 = .ok (.iadd, 1) := by decide +kernel
theorem dX4_put_10 : decode (m_code mX4_put) 10 = .ok (.sipush 200, 3) := by decide +kernel
theorem dX4_put_13 : decode (m_code mX4_put) 13 = .ok (.irem, 1) := by decide +kernel
theorem dX4_put_14 : decode (m_code mX4_put) 14 = .ok (.iload_n 2, 1) := by decide +kernel
theorem dX4_put_15 : decode (m_code mX4_put) 15 = .ok (.iastore, 1) := by decide +kernel
theorem dX4_put_16 : decode (m_code mX4_put) 16 = .ok (.return_, 1) := by decide +kernel
theorem dX4_isCut_0 : decode (m_code mX4_isCut) 0 = .ok (.aload_n 0, 1) := by decide +kernel
theorem dX4_isCut_1 : decode (m_code mX4_isCut) 1 = .ok (.getfield 15, 3) := by decide +kernel
theorem dX4_isCut_4 : decode (m_code mX4_isCut) 4 = .ok (.iload_n 1, 1) := by decide +kernel
theorem dX4_isCut_5 : decode (m_code mX4_isCut) 5 = .ok (.iaload, 1) := by decide +kernel
theorem dX4_isCut_6 : decode (m_code mX4_isCut) 6 = .ok (.iload_n 2, 1) := by decide +kernel
theorem dX4_isCut_7 : decode (m_code mX4_isCut) 7 = .ok (.ishr, 1) := by decide +kernel
theorem dX4_isCut_8 : decode (m_code mX4_isCut) 8 = .ok (.iconst 1, 1) := by decide +kernel
theorem dX4_isCut_9 : decode (m_code mX4_isCut) 9 = .ok (.iand, 1) := by decide +kernel
theorem dX4_isCut_10 : decode (m_code mX4_isCut) 10 = .ok (.iconst 1, 1) := by decide +kernel
theorem dX4_isCut_11 : decode (m_code mX4_isCut) 11 = .ok (.if_icmp .ne 7, 3) := by decide +kernel
theorem dX4_isCut_14 : decode (m_code mX4_isCut) 14 = .ok (.iconst 1, 1) := by decide +kernel
theorem dX4_isCut_15 : decode (m_code mX4_isCut) 15 = .ok (.goto 4, 3) := by decide +kernel
theorem dX4_isCut_18 : decode (m_code mX4_isCut) 18 = .ok (.iconst 0, 1) := by decide +kernel
theorem dX4_isCut_19 : decode (m_code mX4_isCut) 19 = .ok (.ireturn, 1) := by decide +kernel
theorem dX4_setCut_0 : decode (m_code mX4_setCut) 0 = .ok (.aload_n 0, 1) := by decide +kernel
theorem dX4_setCut_1 : decode (m_code mX4_setCut) 1 = .ok (.getfield 15, 3) := by decide +kernel
theorem dX4_setCut_4 : decode (m_code mX4_setCut) 4 = .ok (.iload_n 1, 1) := by decide +kernel
theorem dX4_setCut_5 : decode (m_code mX4_setCut) 5 = .ok (.iload_n 3, 1) := by decide +kernel
theorem dX4_setCut_6 : decode (m_code mX4_setCut) 6 = .ok (.ifCond .eq 16, 3) := by decide +kernel
theorem dX4_setCut_9 : decode (m_code mX4_setCut) 9 = .ok (.aload_n 0, 1) := by decide +kernel
theorem dX4_setCut_10 : decode (m_code mX4_setCut) 10 = .ok (.getfield 15, 3) := by decide +kernel
theorem dX4_setCut_13 : decode (m_code mX4_setCut) 13 = .ok (.iload_n 1, 1) := by decide +kernel
theorem dX4_setCut_14 : decode (m_code mX4_setCut) 14 = .ok (.iaload, 1) := by decide +kernel
theorem dX4_setCut_15 : decode (m_code mX4_setCut) 15 = .ok (.iconst 1, 1) := by decide +kernel
theorem dX4_setCut_16 : decode (m_code mX4_setCut) 16 = .ok (.iload_n 2, 1) := by decide +kernel
theorem dX4_setCut_17 : decode (m_code mX4_setCut) 17 = .ok (.ishl, 1) := by decide +kernel
theorem dX4_setCut_18 : decode (m_code mX4_setCut) 18 = .ok (.ior, 1) := by decide +kernel
theorem dX4_setCut_19 : decode (m_code mX4_setCut) 19 = .ok (.goto 15, 3) := by decide +kernel
theorem dX4_setCut_22 : decode (m_code mX4_setCut) 22 = .ok (.aload_n 0, 1) := by decide +kernel
theorem dX4_setCut_23 : decode (m_code mX4_setCut) 23 = .ok (.getfield 15, 3) := by decide +kernel
theorem dX4_setCut_26 : decode (m_code mX4_setCut) 26 = .ok (.iload_n 1, 1) := by decide +kernel
theorem dX4_setCut_27 : decode (m_code mX4_setCut) 27 = .ok (.iaload, 1) := by decide +kernel
theorem dX4_setCut_28 : decode (m_code mX4_setCut) 28 = .ok (.iconst 1, 1) := by decide +kernel
theorem dX4_setCut_29 : decode (m_code mX4_setCut) 29 = .ok (.iload_n 2, 1) := by decide +kernel
theorem dX4_setCut_30 : decode (m_code mX4_setCut) 30 = .ok (.ishl, 1) := by decide +kernel
theorem dX4_setCut_31 : decode (m_code mX4_setCut) 31 = .ok (.iconst (-1), 1) := by decide +kernel
theorem dX4_setCut_32 : decode (m_code mX4_setCut) 32 = .ok (.ixor, 1) := by decide +kernel
theorem dX4_setCut_33 : decode (m_code mX4_setCut) 33 = .ok (.iand, 1) := by decide +kernel
theorem dX4_setCut_34 : decode (m_code mX4_setCut) 34 = .ok (.iastore, 1) := by decide +kernel
theorem dX4_setCut_35 : decode (m_code mX4_setCut) 35 = .ok (.aload_n 0, 1) := by decide +kernel
theorem dX4_setCut_36 : decode (m_code mX4_setCut) 36 = .ok (.getfield 15, 3) := by decide +kernel
theorem dX4_setCut_39 : decode (m_code mX4_setCut) 39 = .ok (.iload_n 2, 1) := by decide +kernel
theorem dX4_setCut_40 : decode (m_code mX4_setCut) 40 = .ok (.iload_n 3, 1) := by decide +kernel
theorem dX4_setCut_41 : decode (m_code mX4_setCut) 41 = .ok (.ifCond .eq 16, 3) := by decide +kernel
theorem dX4_setCut_44 : decode (m_code mX4_setCut) 44 = .ok (.aload_n 0, 1) := by decide +kernel
theorem dX4_setCut_45 : decode (m_code mX4_setCut) 45 = .ok (.getfield 15, 3) := by decide +kernel
theorem dX4_setCut_48 : decode (m_code mX4_setCut) 48 = .ok (.iload_n 2, 1) := by decide +kernel
theorem dX4_setCut_49 : decode (m_code mX4_setCut) 49 = .ok (.iaload, 1) := by decide +kernel
theorem dX4_setCut_50 : decode (m_code mX4_setCut) 50 = .ok (.iconst 1, 1) := by decide +kernel
theorem dX4_setCut_51 : decode (m_code mX4_setCut) 51 = .ok (.iload_n 1, 1) := by decide +kernel
theorem dX4_setCut_52 : decode (m_code mX4_setCut) 52 = .ok (.ishl, 1) := by decide +kernel
theorem dX4_setCut_53 : decode (m_code mX4_setCut) 53 = .ok (.ior, 1) := by decide +kernel
theorem dX4_setCut_54 : decode (m_code mX4_setCut) 54 = .ok (.goto 15, 3) := by decide +kernel
theorem dX4_setCut_57 : decode (m_code mX4_setCut) 57 = .ok (.aload_n 0, 1) := by decide +kernel
theorem dX4_setCut_58 : decode (m_code mX4_setCut) 58 = .ok (.getfield 15, 3) := by decide +kernel
theorem dX4_setCut_61 : decode (m_code mX4_setCut) 61 = .ok (.iload_n 2, 1) := by decide +kernel
theorem dX4_setCut_62 : decode (m_code mX4_setCut) 62 = .ok (.iaload, 1) := by decide +kernel
theorem dX4_setCut_63 : decode (m_code mX4_setCut) 63 = .ok (.iconst 1, 1) := by decide +kernel
theorem dX4_setCut_64 : decode (m_code mX4_setCut) 64 = .ok (.iload_n 1, 1) := by decide +kernel
theorem dX4_setCut_65 : decode (m_code mX4_setCut) 65 = .ok (.ishl, 1) := by decide +kernel
theorem dX4_setCut_66 : decode (m_code mX4_setCut) 66 = .ok (.iconst (-1), 1) := by decide +kernel
theorem dX4_setCut_67 : decode (m_code mX4_setCut) 67 = .ok (.ixor, 1) := by decide +kernel
theorem dX4_setCut_68 : decode (m_code mX4_setCut) 68 = .ok (.iand, 1) := by decide +kernel
theorem dX4_setCut_69 : decode (m_code mX4_setCut) 69 = .ok (.iastore, 1) := by decide +kernel
theorem dX4_setCut_70 : decode (m_code mX4_setCut) 70 = .ok (.return_, 1) := by decide +kernel
theorem dX4_send_0 : decode (m_code mX4_send) 0 = .ok (.aload_n 0, 1) := by decide +kernel
theorem dX4_send_1 : decode (m_code mX4_send) 1 = .ok (.iload_n 1, 1) := by decide +kernel
theorem dX4_send_2 : decode (m_code mX4_send) 2 = .ok (.iload_n 2, 1) := by decide +kernel
theorem dX4_send_3 : decode (m_code mX4_send) 3 = .ok (.invokevirtual 40, 3) := by decide +kernel
theorem dX4_send_6 : decode (m_code mX4_send) 6 = .ok (.ifCond .eq 16, 3) := by decide +kernel
theorem dX4_send_9 : decode (m_code mX4_send) 9 = .ok (.aload_n 0, 1) := by decide +kernel
theorem dX4_send_10 : decode (m_code mX4_send) 10 = .ok (.dup, 1) := by decide +kernel
theorem dX4_send_11 : decode (m_code mX4_send) 11 = .ok (.getfield 28, 3) := by decide +kernel
theorem dX4_send_14 : decode (m_code mX4_send) 14 = .ok (.iconst 1, 1) := by decide +kernel
theorem dX4_send_15 : decode (m_code mX4_send) 15 = .ok (.iadd, 1) := by decide +kernel
theorem dX4_send_16 : decode (m_code mX4_send) 16 = .ok (.putfield 28, 3) := by decide +kernel
theorem dX4_send_19 : decode (m_code mX4_send) 19 = .ok (.goto 69, 3) := by decide +kernel
theorem dX4_send_22 : decode (m_code mX4_send) 22 = .ok (.aload_n 0, 1) := by decide +kernel
theorem dX4_send_23 : decode (m_code mX4_send) 23 = .ok (.getfield 18, 3) := by decide +kernel
theorem dX4_send_26 : decode (m_code mX4_send) 26 = .ok (.sipush 200, 3) := by decide +kernel
theorem dX4_send_29 : decode (m_code mX4_send) 29 = .ok (.if_icmp .lt 16, 3) := by decide +kernel
theorem dX4_send_32 : decode (m_code mX4_send) 32 = .ok (.aload_n 0, 1) := by decide +kernel
theorem dX4_send_33 : decode (m_code mX4_send) 33 = .ok (.dup, 1) := by decide +kernel
theorem dX4_send_34 : decode (m_code mX4_send) 34 = .ok (.getfield 25, 3) := by decide +kernel
theorem dX4_send_37 : decode (m_code mX4_send) 37 = .ok (.iconst 1, 1) := by decide +kernel
theorem dX4_send_38 : decode (m_code mX4_send) 38 = .ok (.iadd, 1) := by decide +kernel
theorem dX4_send_39 : decode (m_code mX4_send) 39 = .ok (.putfield 25, 3) := by decide +kernel
theorem dX4_send_42 : decode (m_code mX4_send) 42 = .ok (.goto 46, 3) := by decide +kernel
theorem dX4_send_45 : decode (m_code mX4_send) 45 = .ok (.aload_n 0, 1) := by decide +kernel
theorem dX4_send_46 : decode (m_code mX4_send) 46 = .ok (.aload_n 0, 1) := by decide +kernel
theorem dX4_send_47 : decode (m_code mX4_send) 47 = .ok (.getfield 18, 3) := by decide +kernel
theorem dX4_send_50 : decode (m_code mX4_send) 50 = .ok (.iload_n 1, 1) := by decide +kernel
theorem dX4_send_51 : decode (m_code mX4_send) 51 = .ok (.bipush 20, 2) := by decide +kernel
theorem dX4_send_53 : decode (m_code mX4_send) 53 = .ok (.ishl, 1) := by decide +kernel
theorem dX4_send_54 : decode (m_code mX4_send) 54 = .ok (.iload_n 2, 1) := by decide +kernel
theorem dX4_send_55 : decode (m_code mX4_send) 55 = .ok (.bipush 17, 2) := by decide +kernel
theorem dX4_send_57 : decode (m_code mX4_send) 57 = .ok (.ishl, 1) := by decide +kernel
theorem dX4_send_58 : decode (m_code mX4_send) 58 = .ok (.ior, 1) := by decide +kernel
theorem dX4_send_59 : decode (m_code mX4_send) 59 = .ok (.iload_n 3, 1) := by decide +kernel
theorem dX4_send_60 : decode (m_code mX4_send) 60 = .ok (.bipush 15, 2) := by decide +kernel
theorem dX4_send_62 : decode (m_code mX4_send) 62 = .ok (.ishl, 1) := by decide +kernel
theorem dX4_send_63 : decode (m_code mX4_send) 63 = .ok (.ior, 1) := by decide +kernel
theorem dX4_send_64 : decode (m_code mX4_send) 64 = .ok (.iload 4, 2) := by decide +kernel
theorem dX4_send_66 : decode (m_code mX4_send) 66 = .ok (.bipush 7, 2) := by decide +kernel
theorem dX4_send_68 : decode (m_code mX4_send) 68 = .ok (.ishl, 1) := by decide +kernel
theorem dX4_send_69 : decode (m_code mX4_send) 69 = .ok (.ior, 1) := by decide +kernel
theorem dX4_send_70 : decode (m_code mX4_send) 70 = .ok (.iload 5, 2) := by decide +kernel
theorem dX4_send_72 : decode (m_code mX4_send) 72 = .ok (.iconst 1, 1) := by decide +kernel
theorem dX4_send_73 : decode (m_code mX4_send) 73 = .ok (.iadd, 1) := by decide +kernel
theorem dX4_send_74 : decode (m_code mX4_send) 74 = .ok (.ior, 1) := by decide +kernel
theorem dX4_send_75 : decode (m_code mX4_send) 75 = .ok (.invokevirtual 44, 3) := by decide +kernel
theorem dX4_send_78 : decode (m_code mX4_send) 78 = .ok (.aload_n 0, 1) := by decide +kernel
theorem dX4_send_79 : decode (m_code mX4_send) 79 = .ok (.dup, 1) := by decide +kernel
theorem dX4_send_80 : decode (m_code mX4_send) 80 = .ok (.getfield 18, 3) := by decide +kernel
theorem dX4_send_83 : decode (m_code mX4_send) 83 = .ok (.iconst 1, 1) := by decide +kernel
theorem dX4_send_84 : decode (m_code mX4_send) 84 = .ok (.iadd, 1) := by decide +kernel
theorem dX4_send_85 : decode (m_code mX4_send) 85 = .ok (.putfield 18, 3) := by decide +kernel
theorem dX4_send_88 : decode (m_code mX4_send) 88 = .ok (.return_, 1) := by decide +kernel
theorem dX4_take_0 : decode (m_code mX4_take) 0 = .ok (.aload_n 0, 1) := by decide +kernel
theorem dX4_take_1 : decode (m_code mX4_take) 1 = .ok (.iload_n 1, 1) := by decide +kernel
theorem dX4_take_2 : decode (m_code mX4_take) 2 = .ok (.invokevirtual 48, 3) := by decide +kernel
theorem dX4_take_5 : decode (m_code mX4_take) 5 = .ok (.istore_n 2, 1) := by decide +kernel
theorem dX4_take_6 : decode (m_code mX4_take) 6 = .ok (.iload_n 1, 1) := by decide +kernel
theorem dX4_take_7 : decode (m_code mX4_take) 7 = .ok (.ifCond .ne 20, 3) := by decide +kernel
theorem dX4_take_10 : decode (m_code mX4_take) 10 = .ok (.aload_n 0, 1) := by decide +kernel
theorem dX4_take_11 : decode (m_code mX4_take) 11 = .ok (.aload_n 0, 1) := by decide +kernel
theorem dX4_take_12 : decode (m_code mX4_take) 12 = .ok (.getfield 22, 3) := by decide +kernel
theorem dX4_take_15 : decode (m_code mX4_take) 15 = .ok (.iconst 1, 1) := by decide +kernel
theorem dX4_take_16 : decode (m_code mX4_take) 16 = .ok (.iadd, 1) := by decide +kernel
theorem dX4_take_17 : decode (m_code mX4_take) 17 = .ok (.sipush 200, 3) := by decide +kernel
theorem dX4_take_20 : decode (m_code mX4_take) 20 = .ok (.irem, 1) := by decide +kernel
theorem dX4_take_21 : decode (m_code mX4_take) 21 = .ok (.putfield 22, 3) := by decide +kernel
theorem dX4_take_24 : decode (m_code mX4_take) 24 = .ok (.goto 33, 3) := by decide +kernel
theorem dX4_take_27 : decode (m_code mX4_take) 27 = .ok (.iload_n 1, 1) := by decide +kernel
theorem dX4_take_28 : decode (m_code mX4_take) 28 = .ok (.istore_n 3, 1) := by decide +kernel
theorem dX4_take_29 : decode (m_code mX4_take) 29 = .ok (.iload_n 3, 1) := by decide +kernel
theorem dX4_take_30 : decode (m_code mX4_take) 30 = .ok (.aload_n 0, 1) := by decide +kernel
theorem dX4_take_31 : decode (m_code mX4_take) 31 = .ok (.getfield 18, 3) := by decide +kernel
theorem dX4_take_34 : decode (m_code mX4_take) 34 = .ok (.iconst 1, 1) := by decide +kernel
theorem dX4_take_35 : decode (m_code mX4_take) 35 = .ok (.isub, 1) := by decide +kernel
theorem dX4_take_36 : decode (m_code mX4_take) 36 = .ok (.if_icmp .ge 21, 3) := by decide +kernel
theorem dX4_take_39 : decode (m_code mX4_take) 39 = .ok (.aload_n 0, 1) := by decide +kernel
theorem dX4_take_40 : decode (m_code mX4_take) 40 = .ok (.iload_n 3, 1) := by decide +kernel
theorem dX4_take_41 : decode (m_code mX4_take) 41 = .ok (.aload_n 0, 1) := by decide +kernel
theorem dX4_take_42 : decode (m_code mX4_take) 42 = .ok (.iload_n 3, 1) := by decide +kernel
theorem dX4_take_43 : decode (m_code mX4_take) 43 = .ok (.iconst 1, 1) := by decide +kernel
theorem dX4_take_44 : decode (m_code mX4_take) 44 = .ok (.iadd, 1) := by decide +kernel
theorem dX4_take_45 : decode (m_code mX4_take) 45 = .ok (.invokevirtual 48, 3) := by decide +kernel
theorem dX4_take_48 : decode (m_code mX4_take) 48 = .ok (.invokevirtual 44, 3) := by decide +kernel
theorem dX4_take_51 : decode (m_code mX4_take) 51 = .ok (.iinc 3 1, 3) := by decide +kernel
theorem dX4_take_54 : decode (m_code mX4_take) 54 = .ok (.goto (-25), 3) := by decide +kernel
theorem dX4_take_57 : decode (m_code mX4_take) 57 = .ok (.aload_n 0, 1) := by decide +kernel
theorem dX4_take_58 : decode (m_code mX4_take) 58 = .ok (.dup, 1) := by decide +kernel
theorem dX4_take_59 : decode (m_code mX4_take) 59 = .ok (.getfield 18, 3) := by decide +kernel
theorem dX4_take_62 : decode (m_code mX4_take) 62 = .ok (.iconst 1, 1) := by decide +kernel
theorem dX4_take_63 : decode (m_code mX4_take) 63 = .ok (.isub, 1) := by decide +kernel
theorem dX4_take_64 : decode (m_code mX4_take) 64 = .ok (.putfield 18, 3) := by decide +kernel
theorem dX4_take_67 : decode (m_code mX4_take) 67 = .ok (.iload_n 2, 1) := by decide +kernel
theorem dX4_take_68 : decode (m_code mX4_take) 68 = .ok (.ireturn, 1) := by decide +kernel
theorem dX4_takeFirst_0 : decode (m_code mX4_takeFirst) 0 = .ok (.iload_n 1, 1) := by decide +kernel
theorem dX4_takeFirst_1 : decode (m_code mX4_takeFirst) 1 = .ok (.aload_n 0, 1) := by decide +kernel
theorem dX4_takeFirst_2 : decode (m_code mX4_takeFirst) 2 = .ok (.getfield 18, 3) := by decide +kernel
theorem dX4_takeFirst_5 : decode (m_code mX4_takeFirst) 5 = .ok (.invokestatic 52, 3) := by decide +kernel
theorem dX4_takeFirst_8 : decode (m_code mX4_takeFirst) 8 = .ok (.istore_n 2, 1) := by decide +kernel
theorem dX4_takeFirst_9 : decode (m_code mX4_takeFirst) 9 = .ok (.aload_n 0, 1) := by decide +kernel
theorem dX4_takeFirst_10 : decode (m_code mX4_takeFirst) 10 = .ok (.aload_n 0, 1) := by decide +kernel
theorem dX4_takeFirst_11 : decode (m_code mX4_takeFirst) 11 = .ok (.getfield 22, 3) := by decide +kernel
theorem dX4_takeFirst_14 : decode (m_code mX4_takeFirst) 14 = .ok (.iload_n 2, 1) := by decide +kernel
theorem dX4_takeFirst_15 : decode (m_code mX4_takeFirst) 15 = .ok (.iadd, 1) := by decide +kernel
theorem dX4_takeFirst_16 : decode (m_code mX4_takeFirst) 16 = .ok (.sipush 200, 3) := by decide +kernel
theorem dX4_takeFirst_19 : decode (m_code mX4_takeFirst) 19 = .ok (.irem, 1) := by decide +kernel
theorem dX4_takeFirst_20 : decode (m_code mX4_takeFirst) 20 = .ok (.putfield 22, 3) := by decide +kernel
theorem dX4_takeFirst_23 : decode (m_code mX4_takeFirst) 23 = .ok (.aload_n 0, 1) := by decide +kernel
theorem dX4_takeFirst_24 : decode (m_code mX4_takeFirst) 24 = .ok (.dup, 1) := by decide +kernel
theorem dX4_takeFirst_25 : decode (m_code mX4_takeFirst) 25 = .ok (.getfield 18, 3) := by decide +kernel
theorem dX4_takeFirst_28 : decode (m_code mX4_takeFirst) 28 = .ok (.iload_n 2, 1) := by decide +kernel
theorem dX4_takeFirst_29 : decode (m_code mX4_takeFirst) 29 = .ok (.isub, 1) := by decide +kernel
theorem dX4_takeFirst_30 : decode (m_code mX4_takeFirst) 30 = .ok (.putfield 18, 3) := by decide +kernel
theorem dX4_takeFirst_33 : decode (m_code mX4_takeFirst) 33 = .ok (.iload_n 2, 1) := by decide +kernel
theorem dX4_takeFirst_34 : decode (m_code mX4_takeFirst) 34 = .ok (.ireturn, 1) := by decide +kernel
theorem dX4_takeAllTo_0 : decode (m_code mX4_takeAllTo) 0 = .ok (.iconst 0, 1) := by decide +kernel
theorem dX4_takeAllTo_1 : decode (m_code mX4_takeAllTo) 1 = .ok (.istore_n 2, 1) := by decide +kernel
theorem dX4_takeAllTo_2 : decode (m_code mX4_takeAllTo) 2 = .ok (.iconst 0, 1) := by decide +kernel
theorem dX4_takeAllTo_3 : decode (m_code mX4_takeAllTo) 3 = .ok (.istore_n 3, 1) := by decide +kernel
theorem dX4_takeAllTo_4 : decode (m_code mX4_takeAllTo) 4 = .ok (.iload_n 3, 1) := by decide +kernel
theorem dX4_takeAllTo_5 : decode (m_code mX4_takeAllTo) 5 = .ok (.aload_n 0, 1) := by decide +kernel
theorem dX4_takeAllTo_6 : decode (m_code mX4_takeAllTo) 6 = .ok (.getfield 18, 3) := by decide +kernel
theorem dX4_takeAllTo_9 : decode (m_code mX4_takeAllTo) 9 = .ok (.if_icmp .ge 35, 3) := by decide +kernel
theorem dX4_takeAllTo_12 : decode (m_code mX4_takeAllTo) 12 = .ok (.aload_n 0, 1) := by decide +kernel
theorem dX4_takeAllTo_13 : decode (m_code mX4_takeAllTo) 13 = .ok (.iload_n 3, 1) := by decide +kernel
theorem dX4_takeAllTo_14 : decode (m_code mX4_takeAllTo) 14 = .ok (.invokevirtual 48, 3) := by decide +kernel
theorem dX4_takeAllTo_17 : decode (m_code mX4_takeAllTo) 17 = .ok (.istore 4, 2) := by decide +kernel
theorem dX4_takeAllTo_19 : decode (m_code mX4_takeAllTo) 19 = .ok (.iload 4, 2) := by decide +kernel
theorem dX4_takeAllTo_21 : decode (m_code mX4_takeAllTo) 21 = .ok (.invokestatic 58, 3) := by decide +kernel
theorem dX4_takeAllTo_24 : decode (m_code mX4_takeAllTo) 24 = .ok (.iload_n 1, 1) := by decide +kernel
theorem dX4_takeAllTo_25 : decode (m_code mX4_takeAllTo) 25 = .ok (.if_icmp .eq 13, 3) := by decide +kernel
theorem dX4_takeAllTo_28 : decode (m_code mX4_takeAllTo) 28 = .ok (.aload_n 0, 1) := by decide +kernel
theorem dX4_takeAllTo_29 : decode (m_code mX4_takeAllTo) 29 = .ok (.iload_n 2, 1) := by decide +kernel
theorem dX4_takeAllTo_30 : decode (m_code mX4_takeAllTo) 30 = .ok (.iload 4, 2) := by decide +kernel
theorem dX4_takeAllTo_32 : decode (m_code mX4_takeAllTo) 32 = .ok (.invokevirtual 44, 3) := by decide +kernel
theorem dX4_takeAllTo_35 : decode (m_code mX4_takeAllTo) 35 = .ok (.iinc 2 1, 3) := by decide +kernel
theorem dX4_takeAllTo_38 : decode (m_code mX4_takeAllTo) 38 = .ok (.iinc 3 1, 3) := by decide +kernel
theorem dX4_takeAllTo_41 : decode (m_code mX4_takeAllTo) 41 = .ok (.goto (-37), 3) := by decide +kernel
theorem dX4_takeAllTo_44 : decode (m_code mX4_takeAllTo) 44 = .ok (.aload_n 0, 1) := by decide +kernel
theorem dX4_takeAllTo_45 : decode (m_code mX4_takeAllTo) 45 = .ok (.getfield 18, 3) := by decide +kernel
theorem dX4_takeAllTo_48 : decode (m_code mX4_takeAllTo) 48 = .ok (.iload_n 2, 1) := by decide +kernel
theorem dX4_takeAllTo_49 : decode (m_code mX4_takeAllTo) 49 = .ok (.isub, 1) := by decide +kernel
theorem dX4_takeAllTo_50 : decode (m_code mX4_takeAllTo) 50 = .ok (.istore_n 3, 1) := by decide +kernel
theorem dX4_takeAllTo_51 : decode (m_code mX4_takeAllTo) 51 = .ok (.aload_n 0, 1) := by decide +kernel
theorem dX4_takeAllTo_52 : decode (m_code mX4_takeAllTo) 52 = .ok (.iload_n 2, 1) := by decide +kernel
theorem dX4_takeAllTo_53 : decode (m_code mX4_takeAllTo) 53 = .ok (.putfield 18, 3) := by decide +kernel
theorem dX4_takeAllTo_56 : decode (m_code mX4_takeAllTo) 56 = .ok (.iload_n 3, 1) := by decide +kernel
theorem dX4_takeAllTo_57 : decode (m_code mX4_takeAllTo) 57 = .ok (.ireturn, 1) := by decide +kernel
theorem dX4_turnFirst_0 : decode (m_code mX4_turnFirst) 0 = .ok (.iload_n 1, 1) := by decide +kernel
theorem dX4_turnFirst_1 : decode (m_code mX4_turnFirst) 1 = .ok (.ifCond .lt 11, 3) := by decide +kernel
theorem dX4_turnFirst_4 : decode (m_code mX4_turnFirst) 4 = .ok (.iload_n 1, 1) := by decide +kernel
theorem dX4_turnFirst_5 : decode (m_code mX4_turnFirst) 5 = .ok (.aload_n 0, 1) := by decide +kernel
theorem dX4_turnFirst_6 : decode (m_code mX4_turnFirst) 6 = .ok (.getfield 18, 3) := by decide +kernel
theorem dX4_turnFirst_9 : decode (m_code mX4_turnFirst) 9 = .ok (.if_icmp .le 5, 3) := by decide +kernel
theorem dX4_turnFirst_12 : decode (m_code mX4_turnFirst) 12 = .ok (.iconst 0, 1) := by decide +kernel
theorem dX4_turnFirst_13 : decode (m_code mX4_turnFirst) 13 = .ok (.ireturn, 1) := by decide +kernel
theorem dX4_turnFirst_14 : decode (m_code mX4_turnFirst) 14 = .ok (.aload_n 0, 1) := by decide +kernel
theorem dX4_turnFirst_15 : decode (m_code mX4_turnFirst) 15 = .ok (.aload_n 0, 1) := by decide +kernel
theorem dX4_turnFirst_16 : decode (m_code mX4_turnFirst) 16 = .ok (.getfield 18, 3) := by decide +kernel
theorem dX4_turnFirst_19 : decode (m_code mX4_turnFirst) 19 = .ok (.invokevirtual 61, 3) := by decide +kernel
theorem dX4_turnFirst_22 : decode (m_code mX4_turnFirst) 22 = .ok (.aload_n 0, 1) := by decide +kernel
theorem dX4_turnFirst_23 : decode (m_code mX4_turnFirst) 23 = .ok (.aload_n 0, 1) := by decide +kernel
theorem dX4_turnFirst_24 : decode (m_code mX4_turnFirst) 24 = .ok (.getfield 18, 3) := by decide +kernel
theorem dX4_turnFirst_27 : decode (m_code mX4_turnFirst) 27 = .ok (.iload_n 1, 1) := by decide +kernel
theorem dX4_turnFirst_28 : decode (m_code mX4_turnFirst) 28 = .ok (.isub, 1) := by decide +kernel
theorem dX4_turnFirst_29 : decode (m_code mX4_turnFirst) 29 = .ok (.invokevirtual 61, 3) := by decide +kernel
theorem dX4_turnFirst_32 : decode (m_code mX4_turnFirst) 32 = .ok (.iconst 1, 1) := by decide +kernel
theorem dX4_turnFirst_33 : decode (m_code mX4_turnFirst) 33 = .ok (.ireturn, 1) := by decide +kernel
theorem dX4_reverseFirst_0 : decode (m_code mX4_reverseFirst) 0 = .ok (.iconst 0, 1) := by decide +kernel
theorem dX4_reverseFirst_1 : decode (m_code mX4_reverseFirst) 1 = .ok (.istore_n 2, 1) := by decide +kernel
theorem dX4_reverseFirst_2 : decode (m_code mX4_reverseFirst) 2 = .ok (.iload_n 2, 1) := by decide +kernel
theorem dX4_reverseFirst_3 : decode (m_code mX4_reverseFirst) 3 = .ok (.iload_n 1, 1) := by decide +kernel
theorem dX4_reverseFirst_4 : decode (m_code mX4_reverseFirst) 4 = .ok (.iconst 2, 1) := by decide +kernel
theorem dX4_reverseFirst_5 : decode (m_code mX4_reverseFirst) 5 = .ok (.idiv, 1) := by decide +kernel
theorem dX4_reverseFirst_6 : decode (m_code mX4_reverseFirst) 6 = .ok (.if_icmp .ge 39, 3) := by decide +kernel
theorem dX4_reverseFirst_9 : decode (m_code mX4_reverseFirst) 9 = .ok (.aload_n 0, 1) := by decide +kernel
theorem dX4_reverseFirst_10 : decode (m_code mX4_reverseFirst) 10 = .ok (.iload_n 2, 1) := by decide +kernel
theorem dX4_reverseFirst_11 : decode (m_code mX4_reverseFirst) 11 = .ok (.invokevirtual 48, 3) := by decide +kernel
theorem dX4_reverseFirst_14 : decode (m_code mX4_reverseFirst) 14 = .ok (.istore_n 3, 1) := by decide +kernel
theorem dX4_reverseFirst_15 : decode (m_code mX4_reverseFirst) 15 = .ok (.aload_n 0, 1) := by decide +kernel
theorem dX4_reverseFirst_16 : decode (m_code mX4_reverseFirst) 16 = .ok (.iload_n 2, 1) := by decide +kernel
theorem dX4_reverseFirst_17 : decode (m_code mX4_reverseFirst) 17 = .ok (.aload_n 0, 1) := by decide +kernel
theorem dX4_reverseFirst_18 : decode (m_code mX4_reverseFirst) 18 = .ok (.iload_n 1, 1) := by decide +kernel
theorem dX4_reverseFirst_19 : decode (m_code mX4_reverseFirst) 19 = .ok (.iconst 1, 1) := by decide +kernel
theorem dX4_reverseFirst_20 : decode (m_code mX4_reverseFirst) 20 = .ok (.isub, 1) := by decide +kernel
theorem dX4_reverseFirst_21 : decode (m_code mX4_reverseFirst) 21 = .ok (.iload_n 2, 1) := by decide +kernel
theorem dX4_reverseFirst_22 : decode (m_code mX4_reverseFirst) 22 = .ok (.isub, 1) := by decide +kernel
theorem dX4_reverseFirst_23 : decode (m_code mX4_reverseFirst) 23 = .ok (.invokevirtual 48, 3) := by decide +kernel
theorem dX4_reverseFirst_26 : decode (m_code mX4_reverseFirst) 26 = .ok (.invokevirtual 44, 3) := by decide +kernel
theorem dX4_reverseFirst_29 : decode (m_code mX4_reverseFirst) 29 = .ok (.aload_n 0, 1) := by decide +kernel
theorem dX4_reverseFirst_30 : decode (m_code mX4_reverseFirst) 30 = .ok (.iload_n 1, 1) := by decide +kernel
theorem dX4_reverseFirst_31 : decode (m_code mX4_reverseFirst) 31 = .ok (.iconst 1, 1) := by decide +kernel
theorem dX4_reverseFirst_32 : decode (m_code mX4_reverseFirst) 32 = .ok (.isub, 1) := by decide +kernel
theorem dX4_reverseFirst_33 : decode (m_code mX4_reverseFirst) 33 = .ok (.iload_n 2, 1) := by decide +kernel
theorem dX4_reverseFirst_34 : decode (m_code mX4_reverseFirst) 34 = .ok (.isub, 1) := by decide +kernel
theorem dX4_reverseFirst_35 : decode (m_code mX4_reverseFirst) 35 = .ok (.iload_n 3, 1) := by decide +kernel
theorem dX4_reverseFirst_36 : decode (m_code mX4_reverseFirst) 36 = .ok (.invokevirtual 44, 3) := by decide +kernel
theorem dX4_reverseFirst_39 : decode (m_code mX4_reverseFirst) 39 = .ok (.iinc 2 1, 3) := by decide +kernel
theorem dX4_reverseFirst_42 : decode (m_code mX4_reverseFirst) 42 = .ok (.goto (-40), 3) := by decide +kernel
theorem dX4_reverseFirst_45 : decode (m_code mX4_reverseFirst) 45 = .ok (.return_, 1) := by decide +kernel
theorem dX4_countTo_0 : decode (m_code mX4_countTo) 0 = .ok (.iconst 0, 1) := by decide +kernel
theorem dX4_countTo_1 : decode (m_code mX4_countTo) 1 = .ok (.istore_n 3, 1) := by decide +kernel
theorem dX4_countTo_2 : decode (m_code mX4_countTo) 2 = .ok (.iconst 0, 1) := by decide +kernel
theorem dX4_countTo_3 : decode (m_code mX4_countTo) 3 = .ok (.istore 4, 2) := by decide +kernel
theorem dX4_countTo_5 : decode (m_code mX4_countTo) 5 = .ok (.iload 4, 2) := by decide +kernel
theorem dX4_countTo_7 : decode (m_code mX4_countTo) 7 = .ok (.aload_n 0, 1) := by decide +kernel
theorem dX4_countTo_8 : decode (m_code mX4_countTo) 8 = .ok (.getfield 18, 3) := by decide +kernel
theorem dX4_countTo_11 : decode (m_code mX4_countTo) 11 = .ok (.if_icmp .ge 42, 3) := by decide +kernel
theorem dX4_countTo_14 : decode (m_code mX4_countTo) 14 = .ok (.aload_n 0, 1) := by decide +kernel
theorem dX4_countTo_15 : decode (m_code mX4_countTo) 15 = .ok (.iload 4, 2) := by decide +kernel
theorem dX4_countTo_17 : decode (m_code mX4_countTo) 17 = .ok (.invokevirtual 48, 3) := by decide +kernel
theorem dX4_countTo_20 : decode (m_code mX4_countTo) 20 = .ok (.istore 5, 2) := by decide +kernel
theorem dX4_countTo_22 : decode (m_code mX4_countTo) 22 = .ok (.iload 5, 2) := by decide +kernel
theorem dX4_countTo_24 : decode (m_code mX4_countTo) 24 = .ok (.invokestatic 58, 3) := by decide +kernel
theorem dX4_countTo_27 : decode (m_code mX4_countTo) 27 = .ok (.iload_n 1, 1) := by decide +kernel
theorem dX4_countTo_28 : decode (m_code mX4_countTo) 28 = .ok (.if_icmp .ne 19, 3) := by decide +kernel
theorem dX4_countTo_31 : decode (m_code mX4_countTo) 31 = .ok (.iload_n 2, 1) := by decide +kernel
theorem dX4_countTo_32 : decode (m_code mX4_countTo) 32 = .ok (.ifCond .eq 12, 3) := by decide +kernel
theorem dX4_countTo_35 : decode (m_code mX4_countTo) 35 = .ok (.iload 5, 2) := by decide +kernel
theorem dX4_countTo_37 : decode (m_code mX4_countTo) 37 = .ok (.invokestatic 65, 3) := by decide +kernel
theorem dX4_countTo_40 : decode (m_code mX4_countTo) 40 = .ok (.iload_n 2, 1) := by decide +kernel
theorem dX4_countTo_41 : decode (m_code mX4_countTo) 41 = .ok (.if_icmp .ne 6, 3) := by decide +kernel
theorem dX4_countTo_44 : decode (m_code mX4_countTo) 44 = .ok (.iinc 3 1, 3) := by decide +kernel
theorem dX4_countTo_47 : decode (m_code mX4_countTo) 47 = .ok (.iinc 4 1, 3) := by decide +kernel
theorem dX4_countTo_50 : decode (m_code mX4_countTo) 50 = .ok (.goto (-45), 3) := by decide +kernel
theorem dX4_countTo_53 : decode (m_code mX4_countTo) 53 = .ok (.iload_n 3, 1) := by decide +kernel
theorem dX4_countTo_54 : decode (m_code mX4_countTo) 54 = .ok (.ireturn, 1) := by decide +kernel
theorem dX5_init_0 : decode (m_code mX5_init) 0 = .ok (.aload_n 0, 1) := by decide +kernel
theorem dX5_init_1 : decode (m_code mX5_init) 1 = .ok (.invokespecial 3, 3) := by decide +kernel
theorem dX5_init_4 : decode (m_code mX5_init) 4 = .ok (.aload_n 0, 1) := by decide +kernel
theorem dX5_init_5 : decode (m_code mX5_init) 5 = .ok (.bipush 24, 2) := by decide +kernel
theorem dX5_init_7 : decode (m_code mX5_init) 7 = .ok (.newarray .int, 2) := by decide +kernel
theorem dX5_init_9 : decode (m_code mX5_init) 9 = .ok (.putfield 9, 3) := by decide +kernel
theorem dX5_init_12 : decode (m_code mX5_init) 12 = .ok (.aload_n 0, 1) := by decide +kernel
theorem dX5_init_13 : decode (m_code mX5_init) 13 = .ok (.bipush 24, 2) := by decide +kernel
theorem dX5_init_15 : decode (m_code mX5_init) 15 = .ok (.newarray .int, 2) := by decide +kernel
theorem dX5_init_17 : decode (m_code mX5_init) 17 = .ok (.putfield 15, 3) := by decide +kernel
theorem dX5_init_20 : decode (m_code mX5_init) 20 = .ok (.aload_n 0, 1) := by decide +kernel
theorem dX5_init_21 : decode (m_code mX5_init) 21 = .ok (.bipush 24, 2) := by decide +kernel
theorem dX5_init_23 : decode (m_code mX5_init) 23 = .ok (.newarray .int, 2) := by decide +kernel
theorem dX5_init_25 : decode (m_code mX5_init) 25 = .ok (.putfield 18, 3) := by decide +kernel
theorem dX5_init_28 : decode (m_code mX5_init) 28 = .ok (.aload_n 0, 1) := by decide +kernel
theorem dX5_init_29 : decode (m_code mX5_init) 29 = .ok (.bipush 24, 2) := by decide +kernel
theorem dX5_init_31 : decode (m_code mX5_init) 31 = .ok (.newarray .int, 2) := by decide +kernel
theorem dX5_init_33 : decode (m_code mX5_init) 33 = .ok (.putfield 21, 3) := by decide +kernel
theorem dX5_init_36 : decode (m_code mX5_init) 36 = .ok (.return_, 1) := by decide +kernel
theorem dX5_copyFrom_0 : decode (m_code mX5_copyFrom) 0 = .ok (.aload_n 0, 1) := by decide +kernel
theorem dX5_copyFrom_1 : decode (m_code mX5_copyFrom) 1 = .ok (.aload_n 1, 1) := by decide +kernel
theorem dX5_copyFrom_2 : decode (m_code mX5_copyFrom) 2 = .ok (.getfield 24, 3) := by decide +kernel
theorem dX5_copyFrom_5 : decode (m_code mX5_copyFrom) 5 = .ok (.putfield 24, 3) := by decide +kernel
theorem dX5_copyFrom_8 : decode (m_code mX5_copyFrom) 8 = .ok (.aload_n 0, 1) := by decide +kernel
theorem dX5_copyFrom_9 : decode (m_code mX5_copyFrom) 9 = .ok (.aload_n 1, 1) := by decide +kernel
theorem dX5_copyFrom_10 : decode (m_code mX5_copyFrom) 10 = .ok (.getfield 28, 3) := by decide +kernel
theorem dX5_copyFrom_13 : decode (m_code mX5_copyFrom) 13 = .ok (.putfield 28, 3) := by decide +kernel
theorem dX5_copyFrom_16 : decode (m_code mX5_copyFrom) 16 = .ok (.aload_n 1, 1) := by decide +kernel
theorem dX5_copyFrom_17 : decode (m_code mX5_copyFrom) 17 = .ok (.getfield 9, 3) := by decide +kernel
theorem dX5_copyFrom_20 : decode (m_code mX5_copyFrom) 20 = .ok (.iconst 0, 1) := by decide +kernel
theorem dX5_copyFrom_21 : decode (m_code mX5_copyFrom) 21 = .ok (.aload_n 0, 1) := by decide +kernel
theorem dX5_copyFrom_22 : decode (m_code mX5_copyFrom) 22 = .ok (.getfield 9, 3) := by decide +kernel
theorem dX5_copyFrom_25 : decode (m_code mX5_copyFrom) 25 = .ok (.iconst 0, 1) := by decide +kernel
theorem dX5_copyFrom_26 : decode (m_code mX5_copyFrom) 26 = .ok (.bipush 24, 2) := by decide +kernel
theorem dX5_copyFrom_28 : decode (m_code mX5_copyFrom) 28 = .ok (.invokestatic 31, 3) := by decide +kernel
theorem dX5_copyFrom_31 : decode (m_code mX5_copyFrom) 31 = .ok (.aload_n 1, 1) := by decide +kernel
theorem dX5_copyFrom_32 : decode (m_code mX5_copyFrom) 32 = .ok (.getfield 15, 3) := by decide +kernel
theorem dX5_copyFrom_35 : decode (m_code mX5_copyFrom) 35 = .ok (.iconst 0, 1) := by decide +kernel
theorem dX5_copyFrom_36 : decode (m_code mX5_copyFrom) 36 = .ok (.aload_n 0, 1) := by decide +kernel
theorem dX5_copyFrom_37 : decode (m_code mX5_copyFrom) 37 = .ok (.getfield 15, 3) := by decide +kernel
theorem dX5_copyFrom_40 : decode (m_code mX5_copyFrom) 40 = .ok (.iconst 0, 1) := by decide +kernel
theorem dX5_copyFrom_41 : decode (m_code mX5_copyFrom) 41 = .ok (.bipush 24, 2) := by decide +kernel
theorem dX5_copyFrom_43 : decode (m_code mX5_copyFrom) 43 = .ok (.invokestatic 31, 3) := by decide +kernel
theorem dX5_copyFrom_46 : decode (m_code mX5_copyFrom) 46 = .ok (.aload_n 1, 1) := by decide +kernel
theorem dX5_copyFrom_47 : decode (m_code mX5_copyFrom) 47 = .ok (.getfield 18, 3) := by decide +kernel
theorem dX5_copyFrom_50 : decode (m_code mX5_copyFrom) 50 = .ok (.iconst 0, 1) := by decide +kernel
theorem dX5_copyFrom_51 : decode (m_code mX5_copyFrom) 51 = .ok (.aload_n 0, 1) := by decide +kernel
theorem dX5_copyFrom_52 : decode (m_code mX5_copyFrom) 52 = .ok (.getfield 18, 3) := by decide +kernel
theorem dX5_copyFrom_55 : decode (m_code mX5_copyFrom) 55 = .ok (.iconst 0, 1) := by decide +kernel
theorem dX5_copyFrom_56 : decode (m_code mX5_copyFrom) 56 = .ok (.bipush 24, 2) := by decide +kernel
theorem dX5_copyFrom_58 : decode (m_code mX5_copyFrom) 58 = .ok (.invokestatic 31, 3) := by decide +kernel
theorem dX5_copyFrom_61 : decode (m_code mX5_copyFrom) 61 = .ok (.aload_n 1, 1) := by decide +kernel
theorem dX5_copyFrom_62 : decode (m_code mX5_copyFrom) 62 = .ok (.getfield 21, 3) := by decide +kernel
theorem dX5_copyFrom_65 : decode (m_code mX5_copyFrom) 65 = .ok (.iconst 0, 1) := by decide +kernel
theorem dX5_copyFrom_66 : decode (m_code mX5_copyFrom) 66 = .ok (.aload_n 0, 1) := by decide +kernel
theorem dX5_copyFrom_67 : decode (m_code mX5_copyFrom) 67 = .ok (.getfield 21, 3) := by decide +kernel
theorem dX5_copyFrom_70 : decode (m_code mX5_copyFrom) 70 = .ok (.iconst 0, 1) := by decide +kernel
theorem dX5_copyFrom_71 : decode (m_code mX5_copyFrom) 71 = .ok (.bipush 24, 2) := by decide +kernel
theorem dX5_copyFrom_73 : decode (m_code mX5_copyFrom) 73 = .ok (.invokestatic 31, 3) := by decide +kernel
theorem dX5_copyFrom_76 : decode (m_code mX5_copyFrom) 76 = .ok (.return_, 1) := by decide +kernel
theorem dX5_clear_0 : decode (m_code mX5_clear) 0 = .ok (.aload_n 0, 1) := by decide +kernel
theorem dX5_clear_1 : decode (m_code mX5_clear) 1 = .ok (.iconst 0, 1) := by decide +kernel
theorem dX5_clear_2 : decode (m_code mX5_clear) 2 = .ok (.putfield 24, 3) := by decide +kernel
theorem dX5_clear_5 : decode (m_code mX5_clear) 5 = .ok (.aload_n 0, 1) := by decide +kernel
theorem dX5_clear_6 : decode (m_code mX5_clear) 6 = .ok (.iconst 0, 1) := by decide +kernel
theorem dX5_clear_7 : decode (m_code mX5_clear) 7 = .ok (.putfield 28, 3) := by decide +kernel
theorem dX5_clear_10 : decode (m_code mX5_clear) 10 = .ok (.return_, 1) := by decide +kernel
theorem dX5_isFull_0 : decode (m_code mX5_isFull) 0 = .ok (.aload_n 0, 1) := by decide +kernel
theorem dX5_isFull_1 : decode (m_code mX5_isFull) 1 = .ok (.getfield 24, 3) := by decide +kernel
theorem dX5_isFull_4 : decode (m_code mX5_isFull) 4 = .ok (.bipush 24, 2) := by decide +kernel
theorem dX5_isFull_6 : decode (m_code mX5_isFull) 6 = .ok (.if_icmp .lt 7, 3) := by decide +kernel
theorem dX5_isFull_9 : decode (m_code mX5_isFull) 9 = .ok (.iconst 1, 1) := by decide +kernel
theorem dX5_isFull_10 : decode (m_code mX5_isFull) 10 = .ok (.goto 4, 3) := by decide +kernel
theorem dX5_isFull_13 : decode (m_code mX5_isFull) 13 = .ok (.iconst 0, 1) := by decide +kernel
theorem dX5_isFull_14 : decode (m_code mX5_isFull) 14 = .ok (.ireturn, 1) := by decide +kernel
theorem dX5_add_0 : decode (m_code mX5_add) 0 = .ok (.aload_n 0, 1) := by decide +kernel
theorem dX5_add_1 : decode (m_code mX5_add) 1 = .ok (.invokevirtual 37, 3) := by decide +kernel
theorem dX5_add_4 : decode (m_code mX5_add) 4 = .ok (.ifCond .eq 4, 3) := by decide +kernel
theorem dX5_add_7 : decode (m_code mX5_add) 7 = .ok (.return_, 1) := by decide +kernel
theorem dX5_add_8 : decode (m_code mX5_add) 8 = .ok (.aload_n 0, 1) := by decide +kernel
theorem dX5_add_9 : decode (m_code mX5_add) 9 = .ok (.getfield 9, 3) := by decide +kernel
theorem dX5_add_12 : decode (m_code mX5_add) 12 = .ok (.aload_n 0, 1) := by decide +kernel
theorem dX5_add_13 : decode (m_code mX5_add) 13 = .ok (.getfield 24, 3) := by decide +kernel
theorem dX5_add_16 : decode (m_code mX5_add) 16 = .ok (.iload_n 1, 1) := by decide +kernel
theorem dX5_add_17 : decode (m_code mX5_add) 17 = .ok (.iastore, 1) := by decide +kernel
theorem dX5_add_18 : decode (m_code mX5_add) 18 = .ok (.aload_n 0, 1) := by decide +kernel
theorem dX5_add_19 : decode (m_code mX5_add) 19 = .ok (.getfield 15, 3) := by decide +kernel
theorem dX5_add_22 : decode (m_code mX5_add) 22 = .ok (.aload_n 0, 1) := by decide +kernel
theorem dX5_add_23 : decode (m_code mX5_add) 23 = .ok (.getfield 24, 3) := by decide +kernel
theorem dX5_add_26 : decode (m_code mX5_add) 26 = .ok (.iload_n 2, 1) := by decide +kernel
theorem dX5_add_27 : decode (m_code mX5_add) 27 = .ok (.iastore, 1) := by decide +kernel
theorem dX5_add_28 : decode (m_code mX5_add) 28 = .ok (.aload_n 0, 1) := by decide +kernel
theorem dX5_add_29 : decode (m_code mX5_add) 29 = .ok (.getfield 18, 3) := by decide +kernel
theorem dX5_add_32 : decode (m_code mX5_add) 32 = .ok (.aload_n 0, 1) := by decide +kernel
theorem dX5_add_33 : decode (m_code mX5_add) 33 = .ok (.getfield 24, 3) := by decide +kernel
theorem dX5_add_36 : decode (m_code mX5_add) 36 = .ok (.iload_n 3, 1) := by decide +kernel
theorem dX5_add_37 : decode (m_code mX5_add) 37 = .ok (.iastore, 1) := by decide +kernel
theorem dX5_add_38 : decode (m_code mX5_add) 38 = .ok (.aload_n 0, 1) := by decide +kernel
theorem dX5_add_39 : decode (m_code mX5_add) 39 = .ok (.getfield 21, 3) := by decide +kernel
theorem dX5_add_42 : decode (m_code mX5_add) 42 = .ok (.aload_n 0, 1) := by decide +kernel
theorem dX5_add_43 : decode (m_code mX5_add) 43 = .ok (.getfield 24, 3) := by decide +kernel
theorem dX5_add_46 : decode (m_code mX5_add) 46 = .ok (.iload 4, 2) := by decide +kernel
theorem dX5_add_48 : decode (m_code mX5_add) 48 = .ok (.iastore, 1) := by decide +kernel
theorem dX5_add_49 : decode (m_code mX5_add) 49 = .ok (.aload_n 0, 1) := by decide +kernel
theorem dX5_add_50 : decode (m_code mX5_add) 50 = .ok (.dup, 1) := by decide +kernel
theorem dX5_add_51 : decode (m_code mX5_add) 51 = .ok (.getfield 24, 3) := by decide +kernel
theorem dX5_add_54 : decode (m_code mX5_add) 54 = .ok (.iconst 1, 1) := by decide +kernel
theorem dX5_add_55 : decode (m_code mX5_add) 55 = .ok (.iadd, 1) := by decide +kernel
theorem dX5_add_56 : decode (m_code mX5_add) 56 = .ok (.putfield 24, 3) := by decide +kernel
theorem dX5_add_59 : decode (m_code mX5_add) 59 = .ok (.return_, 1) := by decide +kernel
theorem dJ6_bitCount_0f7a4_0 : decode (m_code mJ6_bitCount_0f7a4) 0 = .ok (.iload_n 0, 1) := by decide +kernel
theorem dJ6_bitCount_0f7a4_1 : decode (m_code mJ6_bitCount_0f7a4) 1 = .ok (.iload_n 0, 1) := by decide +kernel
theorem dJ6_bitCount_0f7a4_2 : decode (m_code mJ6_bitCount_0f7a4) 2 = .ok (.iconst 1, 1) := by decide +kernel
theorem dJ6_bitCount_0f7a4_3 : decode (m_code mJ6_bitCount_0f7a4) 3 = .ok (.iushr, 1) := by decide +kernel
theorem dJ6_bitCount_0f7a4_4 : decode (m_code mJ6_bitCount_0f7a4) 4 = .ok (.ldc_w 265, 3) := by decide +kernel
theorem dJ6_bitCount_0f7a4_7 : decode (m_code mJ6_bitCount_0f7a4) 7 = .ok (.iand, 1) := by decide +kernel
theorem dJ6_bitCount_0f7a4_8 : decode (m_code mJ6_bitCount_0f7a4) 8 = .ok (.isub, 1) := by decide +kernel
theorem dJ6_bitCount_0f7a4_9 : decode (m_code mJ6_bitCount_0f7a4) 9 = .ok (.istore_n 0, 1) := by decide +kernel
theorem dJ6_bitCount_0f7a4_10 : decode (m_code mJ6_bitCount_0f7a4) 10 = .ok (.iload_n 0, 1) := by decide +kernel
theorem dJ6_bitCount_0f7a4_11 : decode (m_code mJ6_bitCount_0f7a4) 11 = .ok (.ldc_w 266, 3) := by decide +kernel
theorem dJ6_bitCount_0f7a4_14 : decode (m_code mJ6_bitCount_0f7a4) 14 = .ok (.iand, 1) := by decide +kernel
theorem dJ6_bitCount_0f7a4_15 : decode (m_code mJ6_bitCount_0f7a4) 15 = .ok (.iload_n 0, 1) := by decide +kernel
theorem dJ6_bitCount_0f7a4_16 : decode (m_code mJ6_bitCount_0f7a4) 16 = .ok (.iconst 2, 1) := by decide +kernel
theorem dJ6_bitCount_0f7a4_17 : decode (m_code mJ6_bitCount_0f7a4) 17 = .ok (.iushr, 1) := by decide +kernel
theorem dJ6_bitCount_0f7a4_18 : decode (m_code mJ6_bitCount_0f7a4) 18 = .ok (.ldc_w 266, 3) := by decide +kernel
theorem dJ6_bitCount_0f7a4_21 : decode (m_code mJ6_bitCount_0f7a4) 21 = .ok (.iand, 1) := by decide +kernel
theorem dJ6_bitCount_0f7a4_22 : decode (m_code mJ6_bitCount_0f7a4) 22 = .ok (.iadd, 1) := by decide +kernel
theorem dJ6_bitCount_0f7a4_23 : decode (m_code mJ6_bitCount_0f7a4) 23 = .ok (.istore_n 0, 1) := by decide +kernel
theorem dJ6_bitCount_0f7a4_24 : decode (m_code mJ6_bitCount_0f7a4) 24 = .ok (.iload_n 0, 1) := by decide +kernel
theorem dJ6_bitCount_0f7a4_25 : decode (m_code mJ6_bitCount_0f7a4) 25 = .ok (.iload_n 0, 1) := by decide +kernel
theorem dJ6_bitCount_0f7a4_26 : decode (m_code mJ6_bitCount_0f7a4) 26 = .ok (.iconst 4, 1) := by decide +kernel
theorem dJ6_bitCount_0f7a4_27 : decode (m_code mJ6_bitCount_0f7a4) 27 = .ok (.iushr, 1) := by decide +kernel
theorem dJ6_bitCount_0f7a4_28 : decode (m_code mJ6_bitCount_0f7a4) 28 = .ok (.iadd, 1) := by decide +kernel
theorem dJ6_bitCount_0f7a4_29 : decode (m_code mJ6_bitCount_0f7a4) 29 = .ok (.ldc_w 267, 3) := by decide +kernel
theorem dJ6_bitCount_0f7a4_32 : decode (m_code mJ6_bitCount_0f7a4) 32 = .ok (.iand, 1) := by decide +kernel
theorem dJ6_bitCount_0f7a4_33 : decode (m_code mJ6_bitCount_0f7a4) 33 = .ok (.istore_n 0, 1) := by decide +kernel
theorem dJ6_bitCount_0f7a4_34 : decode (m_code mJ6_bitCount_0f7a4) 34 = .ok (.iload_n 0, 1) := by decide +kernel
theorem dJ6_bitCount_0f7a4_35 : decode (m_code mJ6_bitCount_0f7a4) 35 = .ok (.iload_n 0, 1) := by decide +kernel
theorem dJ6_bitCount_0f7a4_36 : decode (m_code mJ6_bitCount_0f7a4) 36 = .ok (.bipush 8, 2) := by decide +kernel
theorem dJ6_bitCount_0f7a4_38 : decode (m_code mJ6_bitCount_0f7a4) 38 = .ok (.iushr, 1) := by decide +kernel
theorem dJ6_bitCount_0f7a4_39 : decode (m_code mJ6_bitCount_0f7a4) 39 = .ok (.iadd, 1) := by decide +kernel
theorem dJ6_bitCount_0f7a4_40 : decode (m_code mJ6_bitCount_0f7a4) 40 = .ok (.istore_n 0, 1) := by decide +kernel
theorem dJ6_bitCount_0f7a4_41 : decode (m_code mJ6_bitCount_0f7a4) 41 = .ok (.iload_n 0, 1) := by decide +kernel
theorem dJ6_bitCount_0f7a4_42 : decode (m_code mJ6_bitCount_0f7a4) 42 = .ok (.iload_n 0, 1) := by decide +kernel
theorem dJ6_bitCount_0f7a4_43 : decode (m_code mJ6_bitCount_0f7a4) 43 = .ok (.bipush 16, 2) := by decide +kernel
theorem dJ6_bitCount_0f7a4_45 : decode (m_code mJ6_bitCount_0f7a4) 45 = .ok (.iushr, 1) := by decide +kernel
theorem dJ6_bitCount_0f7a4_46 : decode (m_code mJ6_bitCount_0f7a4) 46 = .ok (.iadd, 1) := by decide +kernel
theorem dJ6_bitCount_0f7a4_47 : decode (m_code mJ6_bitCount_0f7a4) 47 = .ok (.istore_n 0, 1) := by decide +kernel
theorem dJ6_bitCount_0f7a4_48 : decode (m_code mJ6_bitCount_0f7a4) 48 = .ok (.iload_n 0, 1) := by decide +kernel
theorem dJ6_bitCount_0f7a4_49 : decode (m_code mJ6_bitCount_0f7a4) 49 = .ok (.bipush 63, 2) := by decide +kernel
theorem dJ6_bitCount_0f7a4_51 : decode (m_code mJ6_bitCount_0f7a4) 51 = .ok (.iand, 1) := by decide +kernel
theorem dJ6_bitCount_0f7a4_52 : decode (m_code mJ6_bitCount_0f7a4) 52 = .ok (.ireturn, 1) := by decide +kernel
theorem dJ7_fill_53178_0 : decode (m_code mJ7_fill_53178) 0 = .ok (.iconst 0, 1) := by decide +kernel
theorem dJ7_fill_53178_1 : decode (m_code mJ7_fill_53178) 1 = .ok (.istore_n 2, 1) := by decide +kernel
theorem dJ7_fill_53178_2 : decode (m_code mJ7_fill_53178) 2 = .ok (.aload_n 0, 1) := by decide +kernel
theorem dJ7_fill_53178_3 : decode (m_code mJ7_fill_53178) 3 = .ok (.arraylength, 1) := by decide +kernel
theorem dJ7_fill_53178_4 : decode (m_code mJ7_fill_53178) 4 = .ok (.istore_n 3, 1) := by decide +kernel
theorem dJ7_fill_53178_5 : decode (m_code mJ7_fill_53178) 5 = .ok (.iload_n 2, 1) := by decide +kernel
theorem dJ7_fill_53178_6 : decode (m_code mJ7_fill_53178) 6 = .ok (.iload_n 3, 1) := by decide +kernel
theorem dJ7_fill_53178_7 : decode (m_code mJ7_fill_53178) 7 = .ok (.if_icmp .ge 13, 3) := by decide +kernel
theorem dJ7_fill_53178_10 : decode (m_code mJ7_fill_53178) 10 = .ok (.aload_n 0, 1) := by decide +kernel
theorem dJ7_fill_53178_11 : decode (m_code mJ7_fill_53178) 11 = .ok (.iload_n 2, 1) := by decide +kernel
theorem dJ7_fill_53178_12 : decode (m_code mJ7_fill_53178) 12 = .ok (.iload_n 1, 1) := by decide +kernel
theorem dJ7_fill_53178_13 : decode (m_code mJ7_fill_53178) 13 = .ok (.iastore, 1) := by decide +kernel
theorem dJ7_fill_53178_14 : decode (m_code mJ7_fill_53178) 14 = .ok (.iinc 2 1, 3) := by decide +kernel
theorem dJ7_fill_53178_17 : decode (m_code mJ7_fill_53178) 17 = .ok (.goto (-12), 3) := by decide +kernel
theorem dJ7_fill_53178_20 : decode (m_code mJ7_fill_53178) 20 = .ok (.return_, 1) := by decide +kernel
