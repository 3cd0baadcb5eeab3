theorem dX10_deliver_0 : decode (m_code mX10_deliver) 0 = .ok (.aload_n 0, 1) := by decide +kernel
theorem dX10_deliver_1 : decode (m_code mX10_deliver) 1 = .ok (.iconst 0, 1) := by decide +kernel
theorem dX10_deliver_2 : decode (m_code mX10_deliver) 2 = .ok (.putfield 44, 3) := by decide +kernel
theorem dX10_deliver_5 : decode (m_code mX10_deliver) 5 = .ok (.aload_n 0, 1) := by decide +kernel
theorem dX10_deliver_6 : decode (m_code mX10_deliver) 6 = .ok (.iload_n 1, 1) := by decide +kernel
theorem dX10_deliver_7 : decode (m_code mX10_deliver) 7 = .ok (.invokevirtual 153, 3) := by decide +kernel
theorem dX10_deliver_10 : decode (m_code mX10_deliver) 10 = .ok (.ifCond .ne 5, 3) := by decide +kernel
theorem dX10_deliver_13 : decode (m_code mX10_deliver) 13 = .ok (.iconst (-1), 1) := by decide +kernel
theorem dX10_deliver_14 : decode (m_code mX10_deliver) 14 = .ok (.ireturn, 1) := by decide +kernel
theorem dX10_deliver_15 : decode (m_code mX10_deliver) 15 = .ok (.aload_n 0, 1) := by decide +kernel
theorem dX10_deliver_16 : decode (m_code mX10_deliver) 16 = .ok (.getfield 7, 3) := by decide +kernel
theorem dX10_deliver_19 : decode (m_code mX10_deliver) 19 = .ok (.sipush 816, 3) := by decide +kernel
theorem dX10_deliver_22 : decode (m_code mX10_deliver) 22 = .ok (.iconst 5, 1) := by decide +kernel
theorem dX10_deliver_23 : decode (m_code mX10_deliver) 23 = .ok (.iload_n 1, 1) := by decide +kernel
theorem dX10_deliver_24 : decode (m_code mX10_deliver) 24 = .ok (.imul, 1) := by decide +kernel
theorem dX10_deliver_25 : decode (m_code mX10_deliver) 25 = .ok (.iadd, 1) := by decide +kernel
theorem dX10_deliver_26 : decode (m_code mX10_deliver) 26 = .ok (.iconst 2, 1) := by decide +kernel
theorem dX10_deliver_27 : decode (m_code mX10_deliver) 27 = .ok (.iadd, 1) := by decide +kernel
theorem dX10_deliver_28 : decode (m_code mX10_deliver) 28 = .ok (.iaload, 1) := by decide +kernel
theorem dX10_deliver_29 : decode (m_code mX10_deliver) 29 = .ok (.istore_n 2, 1) := by decide +kernel
theorem dX10_deliver_30 : decode (m_code mX10_deliver) 30 = .ok (.aload_n 0, 1) := by decide +kernel
theorem dX10_deliver_31 : decode (m_code mX10_deliver) 31 = .ok (.iload_n 1, 1) := by decide +kernel
theorem dX10_deliver_32 : decode (m_code mX10_deliver) 32 = .ok (.invokevirtual 156, 3) := by decide +kernel
theorem dX10_deliver_35 : decode (m_code mX10_deliver) 35 = .ok (.aload_n 0, 1) := by decide +kernel
theorem dX10_deliver_36 : decode (m_code mX10_deliver) 36 = .ok (.invokevirtual 160, 3) := by decide +kernel
theorem dX10_deliver_39 : decode (m_code mX10_deliver) 39 = .ok (.iload_n 2, 1) := by decide +kernel
theorem dX10_deliver_40 : decode (m_code mX10_deliver) 40 = .ok (.ireturn, 1) := by decide +kernel
theorem dX10_drop_0 : decode (m_code mX10_drop) 0 = .ok (.aload_n 0, 1) := by decide +kernel
theorem dX10_drop_1 : decode (m_code mX10_drop) 1 = .ok (.iconst 0, 1) := by decide +kernel
theorem dX10_drop_2 : decode (m_code mX10_drop) 2 = .ok (.putfield 44, 3) := by decide +kernel
theorem dX10_drop_5 : decode (m_code mX10_drop) 5 = .ok (.aload_n 0, 1) := by decide +kernel
theorem dX10_drop_6 : decode (m_code mX10_drop) 6 = .ok (.iload_n 1, 1) := by decide +kernel
theorem dX10_drop_7 : decode (m_code mX10_drop) 7 = .ok (.invokevirtual 153, 3) := by decide +kernel
theorem dX10_drop_10 : decode (m_code mX10_drop) 10 = .ok (.ifCond .ne 5, 3) := by decide +kernel
theorem dX10_drop_13 : decode (m_code mX10_drop) 13 = .ok (.iconst (-1), 1) := by decide +kernel
theorem dX10_drop_14 : decode (m_code mX10_drop) 14 = .ok (.ireturn, 1) := by decide +kernel
theorem dX10_drop_15 : decode (m_code mX10_drop) 15 = .ok (.aload_n 0, 1) := by decide +kernel
theorem dX10_drop_16 : decode (m_code mX10_drop) 16 = .ok (.iload_n 1, 1) := by decide +kernel
theorem dX10_drop_17 : decode (m_code mX10_drop) 17 = .ok (.invokevirtual 156, 3) := by decide +kernel
theorem dX10_drop_20 : decode (m_code mX10_drop) 20 = .ok (.aload_n 0, 1) := by decide +kernel
theorem dX10_drop_21 : decode (m_code mX10_drop) 21 = .ok (.getfield 16, 3) := by decide +kernel
theorem dX10_drop_24 : decode (m_code mX10_drop) 24 = .ok (.iconst 2, 1) := by decide +kernel
theorem dX10_drop_25 : decode (m_code mX10_drop) 25 = .ok (.iaload, 1) := by decide +kernel
theorem dX10_drop_26 : decode (m_code mX10_drop) 26 = .ok (.ireturn, 1) := by decide +kernel
theorem dX10_lose_0 : decode (m_code mX10_lose) 0 = .ok (.aload_n 0, 1) := by decide +kernel
theorem dX10_lose_1 : decode (m_code mX10_lose) 1 = .ok (.iconst 0, 1) := by decide +kernel
theorem dX10_lose_2 : decode (m_code mX10_lose) 2 = .ok (.putfield 44, 3) := by decide +kernel
theorem dX10_lose_5 : decode (m_code mX10_lose) 5 = .ok (.aload_n 0, 1) := by decide +kernel
theorem dX10_lose_6 : decode (m_code mX10_lose) 6 = .ok (.iload_n 1, 1) := by decide +kernel
theorem dX10_lose_7 : decode (m_code mX10_lose) 7 = .ok (.invokevirtual 71, 3) := by decide +kernel
theorem dX10_lose_10 : decode (m_code mX10_lose) 10 = .ok (.ifCond .ne 5, 3) := by decide +kernel
theorem dX10_lose_13 : decode (m_code mX10_lose) 13 = .ok (.iconst (-1), 1) := by decide +kernel
theorem dX10_lose_14 : decode (m_code mX10_lose) 14 = .ok (.ireturn, 1) := by decide +kernel
theorem dX10_lose_15 : decode (m_code mX10_lose) 15 = .ok (.iconst 0, 1) := by decide +kernel
theorem dX10_lose_16 : decode (m_code mX10_lose) 16 = .ok (.istore_n 2, 1) := by decide +kernel
theorem dX10_lose_17 : decode (m_code mX10_lose) 17 = .ok (.aload_n 0, 1) := by decide +kernel
theorem dX10_lose_18 : decode (m_code mX10_lose) 18 = .ok (.getfield 7, 3) := by decide +kernel
theorem dX10_lose_21 : decode (m_code mX10_lose) 21 = .ok (.iconst 4, 1) := by decide +kernel
theorem dX10_lose_22 : decode (m_code mX10_lose) 22 = .ok (.iaload, 1) := by decide +kernel
theorem dX10_lose_23 : decode (m_code mX10_lose) 23 = .ok (.iconst 1, 1) := by decide +kernel
theorem dX10_lose_24 : decode (m_code mX10_lose) 24 = .ok (.isub, 1) := by decide +kernel
theorem dX10_lose_25 : decode (m_code mX10_lose) 25 = .ok (.istore_n 3, 1) := by decide +kernel
theorem dX10_lose_26 : decode (m_code mX10_lose) 26 = .ok (.iload_n 3, 1) := by decide +kernel
theorem dX10_lose_27 : decode (m_code mX10_lose) 27 = .ok (.ifCond .lt 39, 3) := by decide +kernel
theorem dX10_lose_30 : decode (m_code mX10_lose) 30 = .ok (.aload_n 0, 1) := by decide +kernel
theorem dX10_lose_31 : decode (m_code mX10_lose) 31 = .ok (.getfield 7, 3) := by decide +kernel
theorem dX10_lose_34 : decode (m_code mX10_lose) 34 = .ok (.sipush 816, 3) := by decide +kernel
theorem dX10_lose_37 : decode (m_code mX10_lose) 37 = .ok (.iconst 5, 1) := by decide +kernel
theorem dX10_lose_38 : decode (m_code mX10_lose) 38 = .ok (.iload_n 3, 1) := by decide +kernel
theorem dX10_lose_39 : decode (m_code mX10_lose) 39 = .ok (.imul, 1) := by decide +kernel
theorem dX10_lose_40 : decode (m_code mX10_lose) 40 = .ok (.iadd, 1) := by decide +kernel
theorem dX10_lose_41 : decode (m_code mX10_lose) 41 = .ok (.iconst 1, 1) := by decide +kernel
theorem dX10_lose_42 : decode (m_code mX10_lose) 42 = .ok (.iadd, 1) := by decide +kernel
theorem dX10_lose_43 : decode (m_code mX10_lose) 43 = .ok (.iaload, 1) := by decide +kernel
theorem dX10_lose_44 : decode (m_code mX10_lose) 44 = .ok (.iload_n 1, 1) := by decide +kernel
theorem dX10_lose_45 : decode (m_code mX10_lose) 45 = .ok (.if_icmp .eq 6, 3) := by decide +kernel
theorem dX10_lose_48 : decode (m_code mX10_lose) 48 = .ok (.goto 12, 3) := by decide +kernel
theorem dX10_lose_51 : decode (m_code mX10_lose) 51 = .ok (.aload_n 0, 1) := by decide +kernel
theorem dX10_lose_52 : decode (m_code mX10_lose) 52 = .ok (.iload_n 3, 1) := by decide +kernel
theorem dX10_lose_53 : decode (m_code mX10_lose) 53 = .ok (.invokevirtual 156, 3) := by decide +kernel
theorem dX10_lose_56 : decode (m_code mX10_lose) 56 = .ok (.iload_n 2, 1) := by decide +kernel
theorem dX10_lose_57 : decode (m_code mX10_lose) 57 = .ok (.iconst 1, 1) := by decide +kernel
theorem dX10_lose_58 : decode (m_code mX10_lose) 58 = .ok (.iadd, 1) := by decide +kernel
theorem dX10_lose_59 : decode (m_code mX10_lose) 59 = .ok (.istore_n 2, 1) := by decide +kernel
theorem dX10_lose_60 : decode (m_code mX10_lose) 60 = .ok (.iinc 3 (-1), 3) := by decide +kernel
theorem dX10_lose_63 : decode (m_code mX10_lose) 63 = .ok (.goto (-37), 3) := by decide +kernel
theorem dX10_lose_66 : decode (m_code mX10_lose) 66 = .ok (.iload_n 2, 1) := by decide +kernel
theorem dX10_lose_67 : decode (m_code mX10_lose) 67 = .ok (.ireturn, 1) := by decide +kernel
theorem dX10_turn_0 : decode (m_code mX10_turn) 0 = .ok (.aload_n 0, 1) := by decide +kernel
theorem dX10_turn_1 : decode (m_code mX10_turn) 1 = .ok (.iconst 0, 1) := by decide +kernel
theorem dX10_turn_2 : decode (m_code mX10_turn) 2 = .ok (.putfield 44, 3) := by decide +kernel
theorem dX10_turn_5 : decode (m_code mX10_turn) 5 = .ok (.aload_n 0, 1) := by decide +kernel
theorem dX10_turn_6 : decode (m_code mX10_turn) 6 = .ok (.iload_n 1, 1) := by decide +kernel
theorem dX10_turn_7 : decode (m_code mX10_turn) 7 = .ok (.iconst 0, 1) := by decide +kernel
theorem dX10_turn_8 : decode (m_code mX10_turn) 8 = .ok (.aload_n 0, 1) := by decide +kernel
theorem dX10_turn_9 : decode (m_code mX10_turn) 9 = .ok (.getfield 7, 3) := by decide +kernel
theorem dX10_turn_12 : decode (m_code mX10_turn) 12 = .ok (.iconst 4, 1) := by decide +kernel
theorem dX10_turn_13 : decode (m_code mX10_turn) 13 = .ok (.iaload, 1) := by decide +kernel
theorem dX10_turn_14 : decode (m_code mX10_turn) 14 = .ok (.invokevirtual 61, 3) := by decide +kernel
theorem dX10_turn_17 : decode (m_code mX10_turn) 17 = .ok (.ifCond .ne 5, 3) := by decide +kernel
theorem dX10_turn_20 : decode (m_code mX10_turn) 20 = .ok (.iconst 0, 1) := by decide +kernel
theorem dX10_turn_21 : decode (m_code mX10_turn) 21 = .ok (.ireturn, 1) := by decide +kernel
theorem dX10_turn_22 : decode (m_code mX10_turn) 22 = .ok (.aload_n 0, 1) := by decide +kernel
theorem dX10_turn_23 : decode (m_code mX10_turn) 23 = .ok (.getfield 7, 3) := by decide +kernel
theorem dX10_turn_26 : decode (m_code mX10_turn) 26 = .ok (.iconst 4, 1) := by decide +kernel
theorem dX10_turn_27 : decode (m_code mX10_turn) 27 = .ok (.iaload, 1) := by decide +kernel
theorem dX10_turn_28 : decode (m_code mX10_turn) 28 = .ok (.iload_n 1, 1) := by decide +kernel
theorem dX10_turn_29 : decode (m_code mX10_turn) 29 = .ok (.isub, 1) := by decide +kernel
theorem dX10_turn_30 : decode (m_code mX10_turn) 30 = .ok (.istore_n 2, 1) := by decide +kernel
theorem dX10_turn_31 : decode (m_code mX10_turn) 31 = .ok (.iconst 0, 1) := by decide +kernel
theorem dX10_turn_32 : decode (m_code mX10_turn) 32 = .ok (.istore_n 3, 1) := by decide +kernel
theorem dX10_turn_33 : decode (m_code mX10_turn) 33 = .ok (.iload_n 3, 1) := by decide +kernel
theorem dX10_turn_34 : decode (m_code mX10_turn) 34 = .ok (.aload_n 0, 1) := by decide +kernel
theorem dX10_turn_35 : decode (m_code mX10_turn) 35 = .ok (.getfield 7, 3) := by decide +kernel
theorem dX10_turn_38 : decode (m_code mX10_turn) 38 = .ok (.iconst 4, 1) := by decide +kernel
theorem dX10_turn_39 : decode (m_code mX10_turn) 39 = .ok (.iaload, 1) := by decide +kernel
theorem dX10_turn_40 : decode (m_code mX10_turn) 40 = .ok (.if_icmp .ge 74, 3) := by decide +kernel
theorem dX10_turn_43 : decode (m_code mX10_turn) 43 = .ok (.iload_n 3, 1) := by decide +kernel
theorem dX10_turn_44 : decode (m_code mX10_turn) 44 = .ok (.iload_n 1, 1) := by decide +kernel
theorem dX10_turn_45 : decode (m_code mX10_turn) 45 = .ok (.if_icmp .ge 16, 3) := by decide +kernel
theorem dX10_turn_48 : decode (m_code mX10_turn) 48 = .ok (.aload_n 0, 1) := by decide +kernel
theorem dX10_turn_49 : decode (m_code mX10_turn) 49 = .ok (.getfield 7, 3) := by decide +kernel
theorem dX10_turn_52 : decode (m_code mX10_turn) 52 = .ok (.iconst 4, 1) := by decide +kernel
theorem dX10_turn_53 : decode (m_code mX10_turn) 53 = .ok (.iaload, 1) := by decide +kernel
theorem dX10_turn_54 : decode (m_code mX10_turn) 54 = .ok (.iconst 1, 1) := by decide +kernel
theorem dX10_turn_55 : decode (m_code mX10_turn) 55 = .ok (.isub, 1) := by decide +kernel
theorem dX10_turn_56 : decode (m_code mX10_turn) 56 = .ok (.iload_n 3, 1) := by decide +kernel
theorem dX10_turn_57 : decode (m_code mX10_turn) 57 = .ok (.isub, 1) := by decide +kernel
theorem dX10_turn_58 : decode (m_code mX10_turn) 58 = .ok (.goto 6, 3) := by decide +kernel
theorem dX10_turn_61 : decode (m_code mX10_turn) 61 = .ok (.iload_n 3, 1) := by decide +kernel
theorem dX10_turn_62 : decode (m_code mX10_turn) 62 = .ok (.iload_n 1, 1) := by decide +kernel
theorem dX10_turn_63 : decode (m_code mX10_turn) 63 = .ok (.isub, 1) := by decide +kernel
theorem dX10_turn_64 : decode (m_code mX10_turn) 64 = .ok (.istore 4, 2) := by decide +kernel
theorem dX10_turn_66 : decode (m_code mX10_turn) 66 = .ok (.iconst 0, 1) := by decide +kernel
theorem dX10_turn_67 : decode (m_code mX10_turn) 67 = .ok (.istore 5, 2) := by decide +kernel
theorem dX10_turn_69 : decode (m_code mX10_turn) 69 = .ok (.iload 5, 2) := by decide +kernel
theorem dX10_turn_71 : decode (m_code mX10_turn) 71 = .ok (.iconst 5, 1) := by decide +kernel
theorem dX10_turn_72 : decode (m_code mX10_turn) 72 = .ok (.if_icmp .ge 36, 3) := by decide +kernel
theorem dX10_turn_75 : decode (m_code mX10_turn) 75 = .ok (.aload_n 0, 1) := by decide +kernel
theorem dX10_turn_76 : decode (m_code mX10_turn) 76 = .ok (.getfield 19, 3) := by decide +kernel
theorem dX10_turn_79 : decode (m_code mX10_turn) 79 = .ok (.iconst 5, 1) := by decide +kernel
theorem dX10_turn_80 : decode (m_code mX10_turn) 80 = .ok (.iload 4, 2) := by decide +kernel
theorem dX10_turn_82 : decode (m_code mX10_turn) 82 = .ok (.imul, 1) := by decide +kernel
theorem dX10_turn_83 : decode (m_code mX10_turn) 83 = .ok (.iload 5, 2) := by decide +kernel
theorem dX10_turn_85 : decode (m_code mX10_turn) 85 = .ok (.iadd, 1) := by decide +kernel
theorem dX10_turn_86 : decode (m_code mX10_turn) 86 = .ok (.aload_n 0, 1) := by decide +kernel
theorem dX10_turn_87 : decode (m_code mX10_turn) 87 = .ok (.getfield 7, 3) := by decide +kernel
theorem dX10_turn_90 : decode (m_code mX10_turn) 90 = .ok (.sipush 816, 3) := by decide +kernel
theorem dX10_turn_93 : decode (m_code mX10_turn) 93 = .ok (.iconst 5, 1) := by decide +kernel
theorem dX10_turn_94 : decode (m_code mX10_turn) 94 = .ok (.iload_n 3, 1) := by decide +kernel
theorem dX10_turn_95 : decode (m_code mX10_turn) 95 = .ok (.imul, 1) := by decide +kernel
theorem dX10_turn_96 : decode (m_code mX10_turn) 96 = .ok (.iadd, 1) := by decide +kernel
theorem dX10_turn_97 : decode (m_code mX10_turn) 97 = .ok (.iload 5, 2) := by decide +kernel
theorem dX10_turn_99 : decode (m_code mX10_turn) 99 = .ok (.iadd, 1) := by decide +kernel
theorem dX10_turn_100 : decode (m_code mX10_turn) 100 = .ok (.iaload, 1) := by decide +kernel
theorem dX10_turn_101 : decode (m_code mX10_turn) 101 = .ok (.iastore, 1) := by decide +kernel
theorem dX10_turn_102 : decode (m_code mX10_turn) 102 = .ok (.iinc 5 1, 3) := by decide +kernel
theorem dX10_turn_105 : decode (m_code mX10_turn) 105 = .ok (.goto (-36), 3) := by decide +kernel
theorem dX10_turn_108 : decode (m_code mX10_turn) 108 = .ok (.iinc 3 1, 3) := by decide +kernel
theorem dX10_turn_111 : decode (m_code mX10_turn) 111 = .ok (.goto (-78), 3) := by decide +kernel
theorem dX10_turn_114 : decode (m_code mX10_turn) 114 = .ok (.iconst 0, 1) := by decide +kernel
theorem dX10_turn_115 : decode (m_code mX10_turn) 115 = .ok (.istore_n 3, 1) := by decide +kernel
theorem dX10_turn_116 : decode (m_code mX10_turn) 116 = .ok (.iload_n 3, 1) := by decide +kernel
theorem dX10_turn_117 : decode (m_code mX10_turn) 117 = .ok (.iconst 5, 1) := by decide +kernel
theorem dX10_turn_118 : decode (m_code mX10_turn) 118 = .ok (.iload_n 2, 1) := by decide +kernel
theorem dX10_turn_119 : decode (m_code mX10_turn) 119 = .ok (.iload_n 1, 1) := by decide +kernel
theorem dX10_turn_120 : decode (m_code mX10_turn) 120 = .ok (.iadd, 1) := by decide +kernel
theorem dX10_turn_121 : decode (m_code mX10_turn) 121 = .ok (.imul, 1) := by decide +kernel
theorem dX10_turn_122 : decode (m_code mX10_turn) 122 = .ok (.if_icmp .ge 25, 3) := by decide +kernel
theorem dX10_turn_125 : decode (m_code mX10_turn) 125 = .ok (.aload_n 0, 1) := by decide +kernel
theorem dX10_turn_126 : decode (m_code mX10_turn) 126 = .ok (.getfield 7, 3) := by decide +kernel
theorem dX10_turn_129 : decode (m_code mX10_turn) 129 = .ok (.sipush 816, 3) := by decide +kernel
theorem dX10_turn_132 : decode (m_code mX10_turn) 132 = .ok (.iload_n 3, 1) := by decide +kernel
theorem dX10_turn_133 : decode (m_code mX10_turn) 133 = .ok (.iadd, 1) := by decide +kernel
theorem dX10_turn_134 : decode (m_code mX10_turn) 134 = .ok (.aload_n 0, 1) := by decide +kernel
theorem dX10_turn_135 : decode (m_code mX10_turn) 135 = .ok (.getfield 19, 3) := by decide +kernel
theorem dX10_turn_138 : decode (m_code mX10_turn) 138 = .ok (.iload_n 3, 1) := by decide +kernel
theorem dX10_turn_139 : decode (m_code mX10_turn) 139 = .ok (.iaload, 1) := by decide +kernel
theorem dX10_turn_140 : decode (m_code mX10_turn) 140 = .ok (.iastore, 1) := by decide +kernel
theorem dX10_turn_141 : decode (m_code mX10_turn) 141 = .ok (.iinc 3 1, 3) := by decide +kernel
theorem dX10_turn_144 : decode (m_code mX10_turn) 144 = .ok (.goto (-28), 3) := by decide +kernel
theorem dX10_turn_147 : decode (m_code mX10_turn) 147 = .ok (.iconst 1, 1) := by decide +kernel
theorem dX10_turn_148 : decode (m_code mX10_turn) 148 = .ok (.ireturn, 1) := by decide +kernel
theorem dX10_storm_0 : decode (m_code mX10_storm) 0 = .ok (.aload_n 0, 1) := by decide +kernel
theorem dX10_storm_1 : decode (m_code mX10_storm) 1 = .ok (.iconst 0, 1) := by decide +kernel
theorem dX10_storm_2 : decode (m_code mX10_storm) 2 = .ok (.putfield 44, 3) := by decide +kernel
theorem dX10_storm_5 : decode (m_code mX10_storm) 5 = .ok (.aload_n 0, 1) := by decide +kernel
theorem dX10_storm_6 : decode (m_code mX10_storm) 6 = .ok (.iload_n 1, 1) := by decide +kernel
theorem dX10_storm_7 : decode (m_code mX10_storm) 7 = .ok (.iconst 1, 1) := by decide +kernel
theorem dX10_storm_8 : decode (m_code mX10_storm) 8 = .ok (.bipush 40, 2) := by decide +kernel
theorem dX10_storm_10 : decode (m_code mX10_storm) 10 = .ok (.invokevirtual 61, 3) := by decide +kernel
theorem dX10_storm_13 : decode (m_code mX10_storm) 13 = .ok (.ifCond .eq 14, 3) := by decide +kernel
theorem dX10_storm_16 : decode (m_code mX10_storm) 16 = .ok (.aload_n 0, 1) := by decide +kernel
theorem dX10_storm_17 : decode (m_code mX10_storm) 17 = .ok (.iload_n 2, 1) := by decide +kernel
theorem dX10_storm_18 : decode (m_code mX10_storm) 18 = .ok (.iconst 0, 1) := by decide +kernel
theorem dX10_storm_19 : decode (m_code mX10_storm) 19 = .ok (.bipush 9, 2) := by decide +kernel
theorem dX10_storm_21 : decode (m_code mX10_storm) 21 = .ok (.invokevirtual 61, 3) := by decide +kernel
theorem dX10_storm_24 : decode (m_code mX10_storm) 24 = .ok (.ifCond .ne 5, 3) := by decide +kernel
theorem dX10_storm_27 : decode (m_code mX10_storm) 27 = .ok (.iconst (-1), 1) := by decide +kernel
theorem dX10_storm_28 : decode (m_code mX10_storm) 28 = .ok (.ireturn, 1) := by decide +kernel
theorem dX10_storm_29 : decode (m_code mX10_storm) 29 = .ok (.iconst 0, 1) := by decide +kernel
theorem dX10_storm_30 : decode (m_code mX10_storm) 30 = .ok (.istore_n 3, 1) := by decide +kernel
theorem dX10_storm_31 : decode (m_code mX10_storm) 31 = .ok (.iconst 0, 1) := by decide +kernel
theorem dX10_storm_32 : decode (m_code mX10_storm) 32 = .ok (.istore 4, 2) := by decide +kernel
theorem dX10_storm_34 : decode (m_code mX10_storm) 34 = .ok (.iload 4, 2) := by decide +kernel
theorem dX10_storm_36 : decode (m_code mX10_storm) 36 = .ok (.iload_n 1, 1) := by decide +kernel
theorem dX10_storm_37 : decode (m_code mX10_storm) 37 = .ok (.if_icmp .ge 53, 3) := by decide +kernel
theorem dX10_storm_40 : decode (m_code mX10_storm) 40 = .ok (.aload_n 0, 1) := by decide +kernel
theorem dX10_storm_41 : decode (m_code mX10_storm) 41 = .ok (.getfield 7, 3) := by decide +kernel
theorem dX10_storm_44 : decode (m_code mX10_storm) 44 = .ok (.iconst 4, 1) := by decide +kernel
theorem dX10_storm_45 : decode (m_code mX10_storm) 45 = .ok (.iaload, 1) := by decide +kernel
theorem dX10_storm_46 : decode (m_code mX10_storm) 46 = .ok (.ifCond .le 44, 3) := by decide +kernel
theorem dX10_storm_49 : decode (m_code mX10_storm) 49 = .ok (.aload_n 0, 1) := by decide +kernel
theorem dX10_storm_50 : decode (m_code mX10_storm) 50 = .ok (.aload_n 0, 1) := by decide +kernel
theorem dX10_storm_51 : decode (m_code mX10_storm) 51 = .ok (.aload_n 0, 1) := by decide +kernel
theorem dX10_storm_52 : decode (m_code mX10_storm) 52 = .ok (.getfield 7, 3) := by decide +kernel
theorem dX10_storm_55 : decode (m_code mX10_storm) 55 = .ok (.iconst 4, 1) := by decide +kernel
theorem dX10_storm_56 : decode (m_code mX10_storm) 56 = .ok (.iaload, 1) := by decide +kernel
theorem dX10_storm_57 : decode (m_code mX10_storm) 57 = .ok (.invokevirtual 163, 3) := by decide +kernel
theorem dX10_storm_60 : decode (m_code mX10_storm) 60 = .ok (.invokevirtual 156, 3) := by decide +kernel
theorem dX10_storm_63 : decode (m_code mX10_storm) 63 = .ok (.aload_n 0, 1) := by decide +kernel
theorem dX10_storm_64 : decode (m_code mX10_storm) 64 = .ok (.bipush 10, 2) := by decide +kernel
theorem dX10_storm_66 : decode (m_code mX10_storm) 66 = .ok (.invokevirtual 163, 3) := by decide +kernel
theorem dX10_storm_69 : decode (m_code mX10_storm) 69 = .ok (.iload_n 2, 1) := by decide +kernel
theorem dX10_storm_70 : decode (m_code mX10_storm) 70 = .ok (.if_icmp .ge 6, 3) := by decide +kernel
theorem dX10_storm_73 : decode (m_code mX10_storm) 73 = .ok (.goto 11, 3) := by decide +kernel
theorem dX10_storm_76 : decode (m_code mX10_storm) 76 = .ok (.aload_n 0, 1) := by decide +kernel
theorem dX10_storm_77 : decode (m_code mX10_storm) 77 = .ok (.invokevirtual 160, 3) := by decide +kernel
theorem dX10_storm_80 : decode (m_code mX10_storm) 80 = .ok (.iload_n 3, 1) := by decide +kernel
theorem dX10_storm_81 : decode (m_code mX10_storm) 81 = .ok (.iconst 1, 1) := by decide +kernel
theorem dX10_storm_82 : decode (m_code mX10_storm) 82 = .ok (.iadd, 1) := by decide +kernel
theorem dX10_storm_83 : decode (m_code mX10_storm) 83 = .ok (.istore_n 3, 1) := by decide +kernel
theorem dX10_storm_84 : decode (m_code mX10_storm) 84 = .ok (.iinc 4 1, 3) := by decide +kernel
theorem dX10_storm_87 : decode (m_code mX10_storm) 87 = .ok (.goto (-53), 3) := by decide +kernel
theorem dX10_storm_90 : decode (m_code mX10_storm) 90 = .ok (.iload_n 3, 1) := by decide +kernel
theorem dX10_storm_91 : decode (m_code mX10_storm) 91 = .ok (.ireturn, 1) := by decide +kernel
theorem dX10_canPropose_0 : decode (m_code mX10_canPropose) 0 = .ok (.aload_n 0, 1) := by decide +kernel
theorem dX10_canPropose_1 : decode (m_code mX10_canPropose) 1 = .ok (.iload_n 1, 1) := by decide +kernel
theorem dX10_canPropose_2 : decode (m_code mX10_canPropose) 2 = .ok (.invokevirtual 54, 3) := by decide +kernel
theorem dX10_canPropose_5 : decode (m_code mX10_canPropose) 5 = .ok (.istore_n 2, 1) := by decide +kernel
theorem dX10_canPropose_6 : decode (m_code mX10_canPropose) 6 = .ok (.aload_n 0, 1) := by decide +kernel
theorem dX10_canPropose_7 : decode (m_code mX10_canPropose) 7 = .ok (.iload_n 1, 1) := by decide +kernel
theorem dX10_canPropose_8 : decode (m_code mX10_canPropose) 8 = .ok (.invokevirtual 104, 3) := by decide +kernel
theorem dX10_canPropose_11 : decode (m_code mX10_canPropose) 11 = .ok (.istore_n 3, 1) := by decide +kernel
theorem dX10_canPropose_12 : decode (m_code mX10_canPropose) 12 = .ok (.aload_n 0, 1) := by decide +kernel
theorem dX10_canPropose_13 : decode (m_code mX10_canPropose) 13 = .ok (.iload_n 1, 1) := by decide +kernel
theorem dX10_canPropose_14 : decode (m_code mX10_canPropose) 14 = .ok (.invokevirtual 140, 3) := by decide +kernel
theorem dX10_canPropose_17 : decode (m_code mX10_canPropose) 17 = .ok (.ifCond .ne 40, 3) := by decide +kernel
theorem dX10_canPropose_20 : decode (m_code mX10_canPropose) 20 = .ok (.aload_n 0, 1) := by decide +kernel
theorem dX10_canPropose_21 : decode (m_code mX10_canPropose) 21 = .ok (.invokevirtual 51, 3) := by decide +kernel
theorem dX10_canPropose_24 : decode (m_code mX10_canPropose) 24 = .ok (.bipush 100, 2) := by decide +kernel
theorem dX10_canPropose_26 : decode (m_code mX10_canPropose) 26 = .ok (.if_icmp .eq 31, 3) := by decide +kernel
theorem dX10_canPropose_29 : decode (m_code mX10_canPropose) 29 = .ok (.iload_n 3, 1) := by decide +kernel
theorem dX10_canPropose_30 : decode (m_code mX10_canPropose) 30 = .ok (.sipush 200, 3) := by decide +kernel
theorem dX10_canPropose_33 : decode (m_code mX10_canPropose) 33 = .ok (.if_icmp .gt 24, 3) := by decide +kernel
theorem dX10_canPropose_36 : decode (m_code mX10_canPropose) 36 = .ok (.aload_n 0, 1) := by decide +kernel
theorem dX10_canPropose_37 : decode (m_code mX10_canPropose) 37 = .ok (.iload_n 3, 1) := by decide +kernel
theorem dX10_canPropose_38 : decode (m_code mX10_canPropose) 38 = .ok (.invokevirtual 128, 3) := by decide +kernel
theorem dX10_canPropose_41 : decode (m_code mX10_canPropose) 41 = .ok (.iload_n 1, 1) := by decide +kernel
theorem dX10_canPropose_42 : decode (m_code mX10_canPropose) 42 = .ok (.if_icmp .ne 15, 3) := by decide +kernel
theorem dX10_canPropose_45 : decode (m_code mX10_canPropose) 45 = .ok (.aload_n 0, 1) := by decide +kernel
theorem dX10_canPropose_46 : decode (m_code mX10_canPropose) 46 = .ok (.getfield 7, 3) := by decide +kernel
theorem dX10_canPropose_49 : decode (m_code mX10_canPropose) 49 = .ok (.iload_n 2, 1) := by decide +kernel
theorem dX10_canPropose_50 : decode (m_code mX10_canPropose) 50 = .ok (.iconst 3, 1) := by decide +kernel
theorem dX10_canPropose_51 : decode (m_code mX10_canPropose) 51 = .ok (.iadd, 1) := by decide +kernel
theorem dX10_canPropose_52 : decode (m_code mX10_canPropose) 52 = .ok (.iaload, 1) := by decide +kernel
theorem dX10_canPropose_53 : decode (m_code mX10_canPropose) 53 = .ok (.iload_n 3, 1) := by decide +kernel
theorem dX10_canPropose_54 : decode (m_code mX10_canPropose) 54 = .ok (.if_icmp .lt 5, 3) := by decide +kernel
theorem dX10_canPropose_57 : decode (m_code mX10_canPropose) 57 = .ok (.iconst 0, 1) := by decide +kernel
theorem dX10_canPropose_58 : decode (m_code mX10_canPropose) 58 = .ok (.ireturn, 1) := by decide +kernel
theorem dX10_canPropose_59 : decode (m_code mX10_canPropose) 59 = .ok (.iload_n 3, 1) := by decide +kernel
theorem dX10_canPropose_60 : decode (m_code mX10_canPropose) 60 = .ok (.iconst 1, 1) := by decide +kernel
theorem dX10_canPropose_61 : decode (m_code mX10_canPropose) 61 = .ok (.if_icmp .eq 40, 3) := by decide +kernel
theorem dX10_canPropose_64 : decode (m_code mX10_canPropose) 64 = .ok (.aload_n 0, 1) := by decide +kernel
theorem dX10_canPropose_65 : decode (m_code mX10_canPropose) 65 = .ok (.getfield 7, 3) := by decide +kernel
theorem dX10_canPropose_68 : decode (m_code mX10_canPropose) 68 = .ok (.bipush 16, 2) := by decide +kernel
theorem dX10_canPropose_70 : decode (m_code mX10_canPropose) 70 = .ok (.aload_n 0, 1) := by decide +kernel
theorem dX10_canPropose_71 : decode (m_code mX10_canPropose) 71 = .ok (.getfield 7, 3) := by decide +kernel
theorem dX10_canPropose_74 : decode (m_code mX10_canPropose) 74 = .ok (.iload_n 2, 1) := by decide +kernel
theorem dX10_canPropose_75 : decode (m_code mX10_canPropose) 75 = .ok (.iconst 5, 1) := by decide +kernel
theorem dX10_canPropose_76 : decode (m_code mX10_canPropose) 76 = .ok (.iadd, 1) := by decide +kernel
theorem dX10_canPropose_77 : decode (m_code mX10_canPropose) 77 = .ok (.iaload, 1) := by decide +kernel
theorem dX10_canPropose_78 : decode (m_code mX10_canPropose) 78 = .ok (.iadd, 1) := by decide +kernel
theorem dX10_canPropose_79 : decode (m_code mX10_canPropose) 79 = .ok (.iaload, 1) := by decide +kernel
theorem dX10_canPropose_80 : decode (m_code mX10_canPropose) 80 = .ok (.iload_n 3, 1) := by decide +kernel
theorem dX10_canPropose_81 : decode (m_code mX10_canPropose) 81 = .ok (.iconst 1, 1) := by decide +kernel
theorem dX10_canPropose_82 : decode (m_code mX10_canPropose) 82 = .ok (.isub, 1) := by decide +kernel
theorem dX10_canPropose_83 : decode (m_code mX10_canPropose) 83 = .ok (.if_icmp .eq 18, 3) := by decide +kernel
theorem dX10_canPropose_86 : decode (m_code mX10_canPropose) 86 = .ok (.aload_n 0, 1) := by decide +kernel
theorem dX10_canPropose_87 : decode (m_code mX10_canPropose) 87 = .ok (.getfield 7, 3) := by decide +kernel
theorem dX10_canPropose_90 : decode (m_code mX10_canPropose) 90 = .ok (.iload_n 2, 1) := by decide +kernel
theorem dX10_canPropose_91 : decode (m_code mX10_canPropose) 91 = .ok (.bipush 7, 2) := by decide +kernel
theorem dX10_canPropose_93 : decode (m_code mX10_canPropose) 93 = .ok (.iadd, 1) := by decide +kernel
theorem dX10_canPropose_94 : decode (m_code mX10_canPropose) 94 = .ok (.iaload, 1) := by decide +kernel
theorem dX10_canPropose_95 : decode (m_code mX10_canPropose) 95 = .ok (.iload_n 3, 1) := by decide +kernel
theorem dX10_canPropose_96 : decode (m_code mX10_canPropose) 96 = .ok (.iconst 1, 1) := by decide +kernel
theorem dX10_canPropose_97 : decode (m_code mX10_canPropose) 97 = .ok (.isub, 1) := by decide +kernel
theorem dX10_canPropose_98 : decode (m_code mX10_canPropose) 98 = .ok (.if_icmp .lt 7, 3) := by decide +kernel
theorem dX10_canPropose_101 : decode (m_code mX10_canPropose) 101 = .ok (.iconst 1, 1) := by decide +kernel
theorem dX10_canPropose_102 : decode (m_code mX10_canPropose) 102 = .ok (.goto 4, 3) := by decide +kernel
theorem dX10_canPropose_105 : decode (m_code mX10_canPropose) 105 = .ok (.iconst 0, 1) := by decide +kernel
theorem dX10_canPropose_106 : decode (m_code mX10_canPropose) 106 = .ok (.ireturn, 1) := by decide +kernel
theorem dX10_laysBlock_0 : decode (m_code mX10_laysBlock) 0 = .ok (.aload_n 0, 1) := by decide +kernel
theorem dX10_laysBlock_1 : decode (m_code mX10_laysBlock) 1 = .ok (.invokevirtual 51, 3) := by decide +kernel
theorem dX10_laysBlock_4 : decode (m_code mX10_laysBlock) 4 = .ok (.istore 7, 2) := by decide +kernel
theorem dX10_laysBlock_6 : decode (m_code mX10_laysBlock) 6 = .ok (.aload_n 0, 1) := by decide +kernel
theorem dX10_laysBlock_7 : decode (m_code mX10_laysBlock) 7 = .ok (.getfield 7, 3) := by decide +kernel
theorem dX10_laysBlock_10 : decode (m_code mX10_laysBlock) 10 = .ok (.bipush 16, 2) := by decide +kernel
theorem dX10_laysBlock_12 : decode (m_code mX10_laysBlock) 12 = .ok (.iload 7, 2) := by decide +kernel
theorem dX10_laysBlock_14 : decode (m_code mX10_laysBlock) 14 = .ok (.iadd, 1) := by decide +kernel
theorem dX10_laysBlock_15 : decode (m_code mX10_laysBlock) 15 = .ok (.iload_n 2, 1) := by decide +kernel
theorem dX10_laysBlock_16 : decode (m_code mX10_laysBlock) 16 = .ok (.iastore, 1) := by decide +kernel
theorem dX10_laysBlock_17 : decode (m_code mX10_laysBlock) 17 = .ok (.aload_n 0, 1) := by decide +kernel
theorem dX10_laysBlock_18 : decode (m_code mX10_laysBlock) 18 = .ok (.getfield 7, 3) := by decide +kernel
theorem dX10_laysBlock_21 : decode (m_code mX10_laysBlock) 21 = .ok (.bipush 116, 2) := by decide +kernel
theorem dX10_laysBlock_23 : decode (m_code mX10_laysBlock) 23 = .ok (.iload 7, 2) := by decide +kernel
theorem dX10_laysBlock_25 : decode (m_code mX10_laysBlock) 25 = .ok (.iadd, 1) := by decide +kernel
theorem dX10_laysBlock_26 : decode (m_code mX10_laysBlock) 26 = .ok (.iload_n 3, 1) := by decide +kernel
theorem dX10_laysBlock_27 : decode (m_code mX10_laysBlock) 27 = .ok (.iconst 1, 1) := by decide +kernel
theorem dX10_laysBlock_28 : decode (m_code mX10_laysBlock) 28 = .ok (.iadd, 1) := by decide +kernel
theorem dX10_laysBlock_29 : decode (m_code mX10_laysBlock) 29 = .ok (.iastore, 1) := by decide +kernel
theorem dX10_laysBlock_30 : decode (m_code mX10_laysBlock) 30 = .ok (.aload_n 0, 1) := by decide +kernel
theorem dX10_laysBlock_31 : decode (m_code mX10_laysBlock) 31 = .ok (.getfield 7, 3) := by decide +kernel
theorem dX10_laysBlock_34 : decode (m_code mX10_laysBlock) 34 = .ok (.sipush 216, 3) := by decide +kernel
theorem dX10_laysBlock_37 : decode (m_code mX10_laysBlock) 37 = .ok (.iload 7, 2) := by decide +kernel
theorem dX10_laysBlock_39 : decode (m_code mX10_laysBlock) 39 = .ok (.iadd, 1) := by decide +kernel
theorem dX10_laysBlock_40 : decode (m_code mX10_laysBlock) 40 = .ok (.iload 4, 2) := by decide +kernel
theorem dX10_laysBlock_42 : decode (m_code mX10_laysBlock) 42 = .ok (.iastore, 1) := by decide +kernel
theorem dX10_laysBlock_43 : decode (m_code mX10_laysBlock) 43 = .ok (.aload_n 0, 1) := by decide +kernel
theorem dX10_laysBlock_44 : decode (m_code mX10_laysBlock) 44 = .ok (.getfield 7, 3) := by decide +kernel
theorem dX10_laysBlock_47 : decode (m_code mX10_laysBlock) 47 = .ok (.sipush 316, 3) := by decide +kernel
theorem dX10_laysBlock_50 : decode (m_code mX10_laysBlock) 50 = .ok (.iload 7, 2) := by decide +kernel
theorem dX10_laysBlock_52 : decode (m_code mX10_laysBlock) 52 = .ok (.iadd, 1) := by decide +kernel
theorem dX10_laysBlock_53 : decode (m_code mX10_laysBlock) 53 = .ok (.iload 5, 2) := by decide +kernel
theorem dX10_laysBlock_55 : decode (m_code mX10_laysBlock) 55 = .ok (.iastore, 1) := by decide +kernel
theorem dX10_laysBlock_56 : decode (m_code mX10_laysBlock) 56 = .ok (.aload_n 0, 1) := by decide +kernel
theorem dX10_laysBlock_57 : decode (m_code mX10_laysBlock) 57 = .ok (.getfield 7, 3) := by decide +kernel
theorem dX10_laysBlock_60 : decode (m_code mX10_laysBlock) 60 = .ok (.sipush 416, 3) := by decide +kernel
theorem dX10_laysBlock_63 : decode (m_code mX10_laysBlock) 63 = .ok (.iload 7, 2) := by decide +kernel
theorem dX10_laysBlock_65 : decode (m_code mX10_laysBlock) 65 = .ok (.iadd, 1) := by decide +kernel
theorem dX10_laysBlock_66 : decode (m_code mX10_laysBlock) 66 = .ok (.iload_n 1, 1) := by decide +kernel
theorem dX10_laysBlock_67 : decode (m_code mX10_laysBlock) 67 = .ok (.iconst 1, 1) := by decide +kernel
theorem dX10_laysBlock_68 : decode (m_code mX10_laysBlock) 68 = .ok (.iadd, 1) := by decide +kernel
theorem dX10_laysBlock_69 : decode (m_code mX10_laysBlock) 69 = .ok (.iastore, 1) := by decide +kernel
theorem dX10_laysBlock_70 : decode (m_code mX10_laysBlock) 70 = .ok (.aload_n 0, 1) := by decide +kernel
theorem dX10_laysBlock_71 : decode (m_code mX10_laysBlock) 71 = .ok (.getfield 7, 3) := by decide +kernel
theorem dX10_laysBlock_74 : decode (m_code mX10_laysBlock) 74 = .ok (.sipush 516, 3) := by decide +kernel
theorem dX10_laysBlock_77 : decode (m_code mX10_laysBlock) 77 = .ok (.iload 7, 2) := by decide +kernel
theorem dX10_laysBlock_79 : decode (m_code mX10_laysBlock) 79 = .ok (.iadd, 1) := by decide +kernel
theorem dX10_laysBlock_80 : decode (m_code mX10_laysBlock) 80 = .ok (.aload_n 0, 1) := by decide +kernel
theorem dX10_laysBlock_81 : decode (m_code mX10_laysBlock) 81 = .ok (.getfield 7, 3) := by decide +kernel
theorem dX10_laysBlock_84 : decode (m_code mX10_laysBlock) 84 = .ok (.sipush 516, 3) := by decide +kernel
theorem dX10_laysBlock_87 : decode (m_code mX10_laysBlock) 87 = .ok (.iload_n 3, 1) := by decide +kernel
theorem dX10_laysBlock_88 : decode (m_code mX10_laysBlock) 88 = .ok (.iadd, 1) := by decide +kernel
theorem dX10_laysBlock_89 : decode (m_code mX10_laysBlock) 89 = .ok (.iaload, 1) := by decide +kernel
theorem dX10_laysBlock_90 : decode (m_code mX10_laysBlock) 90 = .ok (.iconst 1, 1) := by decide +kernel
theorem dX10_laysBlock_91 : decode (m_code mX10_laysBlock) 91 = .ok (.iadd, 1) := by decide +kernel
theorem dX10_laysBlock_92 : decode (m_code mX10_laysBlock) 92 = .ok (.iastore, 1) := by decide +kernel
theorem dX10_laysBlock_93 : decode (m_code mX10_laysBlock) 93 = .ok (.aload_n 0, 1) := by decide +kernel
theorem dX10_laysBlock_94 : decode (m_code mX10_laysBlock) 94 = .ok (.getfield 7, 3) := by decide +kernel
theorem dX10_laysBlock_97 : decode (m_code mX10_laysBlock) 97 = .ok (.sipush 616, 3) := by decide +kernel
theorem dX10_laysBlock_100 : decode (m_code mX10_laysBlock) 100 = .ok (.iload 7, 2) := by decide +kernel
theorem dX10_laysBlock_102 : decode (m_code mX10_laysBlock) 102 = .ok (.iadd, 1) := by decide +kernel
theorem dX10_laysBlock_103 : decode (m_code mX10_laysBlock) 103 = .ok (.iload 6, 2) := by decide +kernel
theorem dX10_laysBlock_105 : decode (m_code mX10_laysBlock) 105 = .ok (.ifCond .eq 7, 3) := by decide +kernel
theorem dX10_laysBlock_108 : decode (m_code mX10_laysBlock) 108 = .ok (.iconst 1, 1) := by decide +kernel
theorem dX10_laysBlock_109 : decode (m_code mX10_laysBlock) 109 = .ok (.goto 4, 3) := by decide +kernel
theorem dX10_laysBlock_112 : decode (m_code mX10_laysBlock) 112 = .ok (.iconst 0, 1) := by decide +kernel
theorem dX10_laysBlock_113 : decode (m_code mX10_laysBlock) 113 = .ok (.iastore, 1) := by decide +kernel
theorem dX10_laysBlock_114 : decode (m_code mX10_laysBlock) 114 = .ok (.aload_n 0, 1) := by decide +kernel
theorem dX10_laysBlock_115 : decode (m_code mX10_laysBlock) 115 = .ok (.getfield 7, 3) := by decide +kernel
theorem dX10_laysBlock_118 : decode (m_code mX10_laysBlock) 118 = .ok (.sipush 716, 3) := by decide +kernel
theorem dX10_laysBlock_121 : decode (m_code mX10_laysBlock) 121 = .ok (.iload 7, 2) := by decide +kernel
theorem dX10_laysBlock_123 : decode (m_code mX10_laysBlock) 123 = .ok (.iadd, 1) := by decide +kernel
theorem dX10_laysBlock_124 : decode (m_code mX10_laysBlock) 124 = .ok (.iconst 0, 1) := by decide +kernel
theorem dX10_laysBlock_125 : decode (m_code mX10_laysBlock) 125 = .ok (.iastore, 1) := by decide +kernel
theorem dX10_laysBlock_126 : decode (m_code mX10_laysBlock) 126 = .ok (.aload_n 0, 1) := by decide +kernel
theorem dX10_laysBlock_127 : decode (m_code mX10_laysBlock) 127 = .ok (.getfield 7, 3) := by decide +kernel
theorem dX10_laysBlock_130 : decode (m_code mX10_laysBlock) 130 = .ok (.iconst 3, 1) := by decide +kernel
theorem dX10_laysBlock_131 : decode (m_code mX10_laysBlock) 131 = .ok (.iload 7, 2) := by decide +kernel
theorem dX10_laysBlock_133 : decode (m_code mX10_laysBlock) 133 = .ok (.iastore, 1) := by decide +kernel
theorem dX10_laysBlock_134 : decode (m_code mX10_laysBlock) 134 = .ok (.aload_n 0, 1) := by decide +kernel
theorem dX10_laysBlock_135 : decode (m_code mX10_laysBlock) 135 = .ok (.iload_n 1, 1) := by decide +kernel
theorem dX10_laysBlock_136 : decode (m_code mX10_laysBlock) 136 = .ok (.iconst 1, 1) := by decide +kernel
theorem dX10_laysBlock_137 : decode (m_code mX10_laysBlock) 137 = .ok (.iload 7, 2) := by decide +kernel
theorem dX10_laysBlock_139 : decode (m_code mX10_laysBlock) 139 = .ok (.iconst (-1), 1) := by decide +kernel
theorem dX10_laysBlock_140 : decode (m_code mX10_laysBlock) 140 = .ok (.invokevirtual 166, 3) := by decide +kernel
theorem dX10_laysBlock_143 : decode (m_code mX10_laysBlock) 143 = .ok (.iload 7, 2) := by decide +kernel
theorem dX10_laysBlock_145 : decode (m_code mX10_laysBlock) 145 = .ok (.ireturn, 1) := by decide +kernel
theorem dX10_proposes_0 : decode (m_code mX10_proposes) 0 = .ok (.aload_n 0, 1) := by decide +kernel
theorem dX10_proposes_1 : decode (m_code mX10_proposes) 1 = .ok (.iload_n 1, 1) := by decide +kernel
theorem dX10_proposes_2 : decode (m_code mX10_proposes) 2 = .ok (.invokevirtual 54, 3) := by decide +kernel
theorem dX10_proposes_5 : decode (m_code mX10_proposes) 5 = .ok (.istore_n 3, 1) := by decide +kernel
theorem dX10_proposes_6 : decode (m_code mX10_proposes) 6 = .ok (.aload_n 0, 1) := by decide +kernel
theorem dX10_proposes_7 : decode (m_code mX10_proposes) 7 = .ok (.iload_n 1, 1) := by decide +kernel
theorem dX10_proposes_8 : decode (m_code mX10_proposes) 8 = .ok (.invokevirtual 104, 3) := by decide +kernel
theorem dX10_proposes_11 : decode (m_code mX10_proposes) 11 = .ok (.istore 4, 2) := by decide +kernel
theorem dX10_proposes_13 : decode (m_code mX10_proposes) 13 = .ok (.aload_n 0, 1) := by decide +kernel
theorem dX10_proposes_14 : decode (m_code mX10_proposes) 14 = .ok (.getfield 7, 3) := by decide +kernel
theorem dX10_proposes_17 : decode (m_code mX10_proposes) 17 = .ok (.iload_n 3, 1) := by decide +kernel
theorem dX10_proposes_18 : decode (m_code mX10_proposes) 18 = .ok (.iconst 3, 1) := by decide +kernel
theorem dX10_proposes_19 : decode (m_code mX10_proposes) 19 = .ok (.iadd, 1) := by decide +kernel
theorem dX10_proposes_20 : decode (m_code mX10_proposes) 20 = .ok (.iload 4, 2) := by decide +kernel
theorem dX10_proposes_22 : decode (m_code mX10_proposes) 22 = .ok (.iastore, 1) := by decide +kernel
theorem dX10_proposes_23 : decode (m_code mX10_proposes) 23 = .ok (.aload_n 0, 1) := by decide +kernel
theorem dX10_proposes_24 : decode (m_code mX10_proposes) 24 = .ok (.iload_n 1, 1) := by decide +kernel
theorem dX10_proposes_25 : decode (m_code mX10_proposes) 25 = .ok (.iload 4, 2) := by decide +kernel
theorem dX10_proposes_27 : decode (m_code mX10_proposes) 27 = .ok (.aload_n 0, 1) := by decide +kernel
theorem dX10_proposes_28 : decode (m_code mX10_proposes) 28 = .ok (.getfield 7, 3) := by decide +kernel
theorem dX10_proposes_31 : decode (m_code mX10_proposes) 31 = .ok (.iload_n 3, 1) := by decide +kernel
theorem dX10_proposes_32 : decode (m_code mX10_proposes) 32 = .ok (.iconst 5, 1) := by decide +kernel
theorem dX10_proposes_33 : decode (m_code mX10_proposes) 33 = .ok (.iadd, 1) := by decide +kernel
theorem dX10_proposes_34 : decode (m_code mX10_proposes) 34 = .ok (.iaload, 1) := by decide +kernel
theorem dX10_proposes_35 : decode (m_code mX10_proposes) 35 = .ok (.aload_n 0, 1) := by decide +kernel
theorem dX10_proposes_36 : decode (m_code mX10_proposes) 36 = .ok (.getfield 7, 3) := by decide +kernel
theorem dX10_proposes_39 : decode (m_code mX10_proposes) 39 = .ok (.iload_n 3, 1) := by decide +kernel
theorem dX10_proposes_40 : decode (m_code mX10_proposes) 40 = .ok (.iconst 5, 1) := by decide +kernel
theorem dX10_proposes_41 : decode (m_code mX10_proposes) 41 = .ok (.iadd, 1) := by decide +kernel
theorem dX10_proposes_42 : decode (m_code mX10_proposes) 42 = .ok (.iaload, 1) := by decide +kernel
theorem dX10_proposes_43 : decode (m_code mX10_proposes) 43 = .ok (.iload_n 2, 1) := by decide +kernel
theorem dX10_proposes_44 : decode (m_code mX10_proposes) 44 = .ok (.aload_n 0, 1) := by decide +kernel
theorem dX10_proposes_45 : decode (m_code mX10_proposes) 45 = .ok (.getfield 7, 3) := by decide +kernel
theorem dX10_proposes_48 : decode (m_code mX10_proposes) 48 = .ok (.iload_n 3, 1) := by decide +kernel
theorem dX10_proposes_49 : decode (m_code mX10_proposes) 49 = .ok (.bipush 7, 2) := by decide +kernel
theorem dX10_proposes_51 : decode (m_code mX10_proposes) 51 = .ok (.iadd, 1) := by decide +kernel
theorem dX10_proposes_52 : decode (m_code mX10_proposes) 52 = .ok (.iaload, 1) := by decide +kernel
theorem dX10_proposes_53 : decode (m_code mX10_proposes) 53 = .ok (.iload 4, 2) := by decide +kernel
theorem dX10_proposes_55 : decode (m_code mX10_proposes) 55 = .ok (.iconst 1, 1) := by decide +kernel
theorem dX10_proposes_56 : decode (m_code mX10_proposes) 56 = .ok (.isub, 1) := by decide +kernel
theorem dX10_proposes_57 : decode (m_code mX10_proposes) 57 = .ok (.if_icmp .lt 7, 3) := by decide +kernel
theorem dX10_proposes_60 : decode (m_code mX10_proposes) 60 = .ok (.iconst 1, 1) := by decide +kernel
theorem dX10_proposes_61 : decode (m_code mX10_proposes) 61 = .ok (.goto 4, 3) := by decide +kernel
theorem dX10_proposes_64 : decode (m_code mX10_proposes) 64 = .ok (.iconst 0, 1) := by decide +kernel
theorem dX10_proposes_65 : decode (m_code mX10_proposes) 65 = .ok (.invokevirtual 169, 3) := by decide +kernel
theorem dX10_proposes_68 : decode (m_code mX10_proposes) 68 = .ok (.ireturn, 1) := by decide +kernel
theorem dX10_propose_0 : decode (m_code mX10_propose) 0 = .ok (.aload_n 0, 1) := by decide +kernel
theorem dX10_propose_1 : decode (m_code mX10_propose) 1 = .ok (.iconst 0, 1) := by decide +kernel
theorem dX10_propose_2 : decode (m_code mX10_propose) 2 = .ok (.putfield 44, 3) := by decide +kernel
theorem dX10_propose_5 : decode (m_code mX10_propose) 5 = .ok (.aload_n 0, 1) := by decide +kernel
theorem dX10_propose_6 : decode (m_code mX10_propose) 6 = .ok (.iload_n 1, 1) := by decide +kernel
theorem dX10_propose_7 : decode (m_code mX10_propose) 7 = .ok (.invokevirtual 71, 3) := by decide +kernel
theorem dX10_propose_10 : decode (m_code mX10_propose) 10 = .ok (.ifCond .eq 32, 3) := by decide +kernel
theorem dX10_propose_13 : decode (m_code mX10_propose) 13 = .ok (.aload_n 0, 1) := by decide +kernel
theorem dX10_propose_14 : decode (m_code mX10_propose) 14 = .ok (.iload_n 2, 1) := by decide +kernel
theorem dX10_propose_15 : decode (m_code mX10_propose) 15 = .ok (.iconst 0, 1) := by decide +kernel
theorem dX10_propose_16 : decode (m_code mX10_propose) 16 = .ok (.sipush 999, 3) := by decide +kernel
theorem dX10_propose_19 : decode (m_code mX10_propose) 19 = .ok (.invokevirtual 61, 3) := by decide +kernel
theorem dX10_propose_22 : decode (m_code mX10_propose) 22 = .ok (.ifCond .eq 20, 3) := by decide +kernel
theorem dX10_propose_25 : decode (m_code mX10_propose) 25 = .ok (.aload_n 0, 1) := by decide +kernel
theorem dX10_propose_26 : decode (m_code mX10_propose) 26 = .ok (.iload_n 1, 1) := by decide +kernel
theorem dX10_propose_27 : decode (m_code mX10_propose) 27 = .ok (.invokevirtual 173, 3) := by decide +kernel
theorem dX10_propose_30 : decode (m_code mX10_propose) 30 = .ok (.ifCond .eq 12, 3) := by decide +kernel
theorem dX10_propose_33 : decode (m_code mX10_propose) 33 = .ok (.aload_n 0, 1) := by decide +kernel
theorem dX10_propose_34 : decode (m_code mX10_propose) 34 = .ok (.iload_n 1, 1) := by decide +kernel
theorem dX10_propose_35 : decode (m_code mX10_propose) 35 = .ok (.iload_n 2, 1) := by decide +kernel
theorem dX10_propose_36 : decode (m_code mX10_propose) 36 = .ok (.invokevirtual 176, 3) := by decide +kernel
theorem dX10_propose_39 : decode (m_code mX10_propose) 39 = .ok (.goto 4, 3) := by decide +kernel
theorem dX10_propose_42 : decode (m_code mX10_propose) 42 = .ok (.iconst (-1), 1) := by decide +kernel
theorem dX10_propose_43 : decode (m_code mX10_propose) 43 = .ok (.ireturn, 1) := by decide +kernel
theorem dX10_canTimeOut_0 : decode (m_code mX10_canTimeOut) 0 = .ok (.aload_n 0, 1) := by decide +kernel
theorem dX10_canTimeOut_1 : decode (m_code mX10_canTimeOut) 1 = .ok (.iload_n 1, 1) := by decide +kernel
theorem dX10_canTimeOut_2 : decode (m_code mX10_canTimeOut) 2 = .ok (.invokevirtual 140, 3) := by decide +kernel
theorem dX10_canTimeOut_5 : decode (m_code mX10_canTimeOut) 5 = .ok (.ifCond .ne 38, 3) := by decide +kernel
theorem dX10_canTimeOut_8 : decode (m_code mX10_canTimeOut) 8 = .ok (.aload_n 0, 1) := by decide +kernel
theorem dX10_canTimeOut_9 : decode (m_code mX10_canTimeOut) 9 = .ok (.iload_n 1, 1) := by decide +kernel
theorem dX10_canTimeOut_10 : decode (m_code mX10_canTimeOut) 10 = .ok (.invokevirtual 104, 3) := by decide +kernel
theorem dX10_canTimeOut_13 : decode (m_code mX10_canTimeOut) 13 = .ok (.sipush 200, 3) := by decide +kernel
theorem dX10_canTimeOut_16 : decode (m_code mX10_canTimeOut) 16 = .ok (.if_icmp .gt 27, 3) := by decide +kernel
theorem dX10_canTimeOut_19 : decode (m_code mX10_canTimeOut) 19 = .ok (.aload_n 0, 1) := by decide +kernel
theorem dX10_canTimeOut_20 : decode (m_code mX10_canTimeOut) 20 = .ok (.getfield 7, 3) := by decide +kernel
theorem dX10_canTimeOut_23 : decode (m_code mX10_canTimeOut) 23 = .ok (.aload_n 0, 1) := by decide +kernel
theorem dX10_canTimeOut_24 : decode (m_code mX10_canTimeOut) 24 = .ok (.iload_n 1, 1) := by decide +kernel
theorem dX10_canTimeOut_25 : decode (m_code mX10_canTimeOut) 25 = .ok (.invokevirtual 54, 3) := by decide +kernel
theorem dX10_canTimeOut_28 : decode (m_code mX10_canTimeOut) 28 = .ok (.iconst 4, 1) := by decide +kernel
theorem dX10_canTimeOut_29 : decode (m_code mX10_canTimeOut) 29 = .ok (.iadd, 1) := by decide +kernel
theorem dX10_canTimeOut_30 : decode (m_code mX10_canTimeOut) 30 = .ok (.iaload, 1) := by decide +kernel
theorem dX10_canTimeOut_31 : decode (m_code mX10_canTimeOut) 31 = .ok (.aload_n 0, 1) := by decide +kernel
theorem dX10_canTimeOut_32 : decode (m_code mX10_canTimeOut) 32 = .ok (.iload_n 1, 1) := by decide +kernel
theorem dX10_canTimeOut_33 : decode (m_code mX10_canTimeOut) 33 = .ok (.invokevirtual 104, 3) := by decide +kernel
theorem dX10_canTimeOut_36 : decode (m_code mX10_canTimeOut) 36 = .ok (.if_icmp .ge 7, 3) := by decide +kernel
theorem dX10_canTimeOut_39 : decode (m_code mX10_canTimeOut) 39 = .ok (.iconst 1, 1) := by decide +kernel
theorem dX10_canTimeOut_40 : decode (m_code mX10_canTimeOut) 40 = .ok (.goto 4, 3) := by decide +kernel
theorem dX10_canTimeOut_43 : decode (m_code mX10_canTimeOut) 43 = .ok (.iconst 0, 1) := by decide +kernel
theorem dX10_canTimeOut_44 : decode (m_code mX10_canTimeOut) 44 = .ok (.ireturn, 1) := by decide +kernel
theorem dX10_timesOut_0 : decode (m_code mX10_timesOut) 0 = .ok (.aload_n 0, 1) := by decide +kernel
theorem dX10_timesOut_1 : decode (m_code mX10_timesOut) 1 = .ok (.iload_n 1, 1) := by decide +kernel
theorem dX10_timesOut_2 : decode (m_code mX10_timesOut) 2 = .ok (.invokevirtual 54, 3) := by decide +kernel
theorem dX10_timesOut_5 : decode (m_code mX10_timesOut) 5 = .ok (.istore_n 2, 1) := by decide +kernel
theorem dX10_timesOut_6 : decode (m_code mX10_timesOut) 6 = .ok (.aload_n 0, 1) := by decide +kernel
theorem dX10_timesOut_7 : decode (m_code mX10_timesOut) 7 = .ok (.iload_n 1, 1) := by decide +kernel
theorem dX10_timesOut_8 : decode (m_code mX10_timesOut) 8 = .ok (.invokevirtual 104, 3) := by decide +kernel
theorem dX10_timesOut_11 : decode (m_code mX10_timesOut) 11 = .ok (.istore_n 3, 1) := by decide +kernel
theorem dX10_timesOut_12 : decode (m_code mX10_timesOut) 12 = .ok (.aload_n 0, 1) := by decide +kernel
theorem dX10_timesOut_13 : decode (m_code mX10_timesOut) 13 = .ok (.iload_n 1, 1) := by decide +kernel
theorem dX10_timesOut_14 : decode (m_code mX10_timesOut) 14 = .ok (.iconst 3, 1) := by decide +kernel
theorem dX10_timesOut_15 : decode (m_code mX10_timesOut) 15 = .ok (.iload_n 3, 1) := by decide +kernel
theorem dX10_timesOut_16 : decode (m_code mX10_timesOut) 16 = .ok (.aload_n 0, 1) := by decide +kernel
theorem dX10_timesOut_17 : decode (m_code mX10_timesOut) 17 = .ok (.getfield 7, 3) := by decide +kernel
theorem dX10_timesOut_20 : decode (m_code mX10_timesOut) 20 = .ok (.iload_n 2, 1) := by decide +kernel
theorem dX10_timesOut_21 : decode (m_code mX10_timesOut) 21 = .ok (.iconst 5, 1) := by decide +kernel
theorem dX10_timesOut_22 : decode (m_code mX10_timesOut) 22 = .ok (.iadd, 1) := by decide +kernel
theorem dX10_timesOut_23 : decode (m_code mX10_timesOut) 23 = .ok (.iaload, 1) := by decide +kernel
theorem dX10_timesOut_24 : decode (m_code mX10_timesOut) 24 = .ok (.invokevirtual 166, 3) := by decide +kernel
theorem dX10_timesOut_27 : decode (m_code mX10_timesOut) 27 = .ok (.aload_n 0, 1) := by decide +kernel
theorem dX10_timesOut_28 : decode (m_code mX10_timesOut) 28 = .ok (.getfield 7, 3) := by decide +kernel
theorem dX10_timesOut_31 : decode (m_code mX10_timesOut) 31 = .ok (.iload_n 2, 1) := by decide +kernel
theorem dX10_timesOut_32 : decode (m_code mX10_timesOut) 32 = .ok (.iconst 4, 1) := by decide +kernel
theorem dX10_timesOut_33 : decode (m_code mX10_timesOut) 33 = .ok (.iadd, 1) := by decide +kernel
theorem dX10_timesOut_34 : decode (m_code mX10_timesOut) 34 = .ok (.iload_n 3, 1) := by decide +kernel
theorem dX10_timesOut_35 : decode (m_code mX10_timesOut) 35 = .ok (.iastore, 1) := by decide +kernel
theorem dX10_timesOut_36 : decode (m_code mX10_timesOut) 36 = .ok (.aload_n 0, 1) := by decide +kernel
theorem dX10_timesOut_37 : decode (m_code mX10_timesOut) 37 = .ok (.getfield 7, 3) := by decide +kernel
theorem dX10_timesOut_40 : decode (m_code mX10_timesOut) 40 = .ok (.iload_n 2, 1) := by decide +kernel
theorem dX10_timesOut_41 : decode (m_code mX10_timesOut) 41 = .ok (.iconst 2, 1) := by decide +kernel
theorem dX10_timesOut_42 : decode (m_code mX10_timesOut) 42 = .ok (.iadd, 1) := by decide +kernel
theorem dX10_timesOut_43 : decode (m_code mX10_timesOut) 43 = .ok (.aload_n 0, 1) := by decide +kernel
theorem dX10_timesOut_44 : decode (m_code mX10_timesOut) 44 = .ok (.aload_n 0, 1) := by decide +kernel
theorem dX10_timesOut_45 : decode (m_code mX10_timesOut) 45 = .ok (.getfield 7, 3) := by decide +kernel
theorem dX10_timesOut_48 : decode (m_code mX10_timesOut) 48 = .ok (.iload_n 2, 1) := by decide +kernel
theorem dX10_timesOut_49 : decode (m_code mX10_timesOut) 49 = .ok (.iconst 2, 1) := by decide +kernel
theorem dX10_timesOut_50 : decode (m_code mX10_timesOut) 50 = .ok (.iadd, 1) := by decide +kernel
theorem dX10_timesOut_51 : decode (m_code mX10_timesOut) 51 = .ok (.iaload, 1) := by decide +kernel
theorem dX10_timesOut_52 : decode (m_code mX10_timesOut) 52 = .ok (.iload_n 3, 1) := by decide +kernel
theorem dX10_timesOut_53 : decode (m_code mX10_timesOut) 53 = .ok (.invokevirtual 180, 3) := by decide +kernel
theorem dX10_timesOut_56 : decode (m_code mX10_timesOut) 56 = .ok (.iastore, 1) := by decide +kernel
theorem dX10_timesOut_57 : decode (m_code mX10_timesOut) 57 = .ok (.return_, 1) := by decide +kernel
theorem dX10_timeout_0 : decode (m_code mX10_timeout) 0 = .ok (.aload_n 0, 1) := by decide +kernel
theorem dX10_timeout_1 : decode (m_code mX10_timeout) 1 = .ok (.iconst 0, 1) := by decide +kernel
theorem dX10_timeout_2 : decode (m_code mX10_timeout) 2 = .ok (.putfield 44, 3) := by decide +kernel
theorem dX10_timeout_5 : decode (m_code mX10_timeout) 5 = .ok (.aload_n 0, 1) := by decide +kernel
theorem dX10_timeout_6 : decode (m_code mX10_timeout) 6 = .ok (.iload_n 1, 1) := by decide +kernel
theorem dX10_timeout_7 : decode (m_code mX10_timeout) 7 = .ok (.invokevirtual 71, 3) := by decide +kernel
theorem dX10_timeout_10 : decode (m_code mX10_timeout) 10 = .ok (.ifCond .eq 11, 3) := by decide +kernel
theorem dX10_timeout_13 : decode (m_code mX10_timeout) 13 = .ok (.aload_n 0, 1) := by decide +kernel
theorem dX10_timeout_14 : decode (m_code mX10_timeout) 14 = .ok (.iload_n 1, 1) := by decide +kernel
theorem dX10_timeout_15 : decode (m_code mX10_timeout) 15 = .ok (.invokevirtual 183, 3) := by decide +kernel
theorem dX10_timeout_18 : decode (m_code mX10_timeout) 18 = .ok (.ifCond .ne 5, 3) := by decide +kernel
theorem dX10_timeout_21 : decode (m_code mX10_timeout) 21 = .ok (.iconst 0, 1) := by decide +kernel
theorem dX10_timeout_22 : decode (m_code mX10_timeout) 22 = .ok (.ireturn, 1) := by decide +kernel
theorem dX10_timeout_23 : decode (m_code mX10_timeout) 23 = .ok (.aload_n 0, 1) := by decide +kernel
theorem dX10_timeout_24 : decode (m_code mX10_timeout) 24 = .ok (.iload_n 1, 1) := by decide +kernel
theorem dX10_timeout_25 : decode (m_code mX10_timeout) 25 = .ok (.invokevirtual 186, 3) := by decide +kernel
theorem dX10_timeout_28 : decode (m_code mX10_timeout) 28 = .ok (.iconst 1, 1) := by decide +kernel
theorem dX10_timeout_29 : decode (m_code mX10_timeout) 29 = .ok (.ireturn, 1) := by decide +kernel
theorem dX10_liesBlock_0 : decode (m_code mX10_liesBlock) 0 = .ok (.aload_n 0, 1) := by decide +kernel
theorem dX10_liesBlock_1 : decode (m_code mX10_liesBlock) 1 = .ok (.iload 4, 2) := by decide +kernel
theorem dX10_liesBlock_3 : decode (m_code mX10_liesBlock) 3 = .ok (.aload_n 0, 1) := by decide +kernel
theorem dX10_liesBlock_4 : decode (m_code mX10_liesBlock) 4 = .ok (.getfield 7, 3) := by decide +kernel
theorem dX10_liesBlock_7 : decode (m_code mX10_liesBlock) 7 = .ok (.bipush 16, 2) := by decide +kernel
theorem dX10_liesBlock_9 : decode (m_code mX10_liesBlock) 9 = .ok (.iload_n 3, 1) := by decide +kernel
theorem dX10_liesBlock_10 : decode (m_code mX10_liesBlock) 10 = .ok (.iadd, 1) := by decide +kernel
theorem dX10_liesBlock_11 : decode (m_code mX10_liesBlock) 11 = .ok (.iaload, 1) := by decide +kernel
theorem dX10_liesBlock_12 : decode (m_code mX10_liesBlock) 12 = .ok (.iconst 1, 1) := by decide +kernel
theorem dX10_liesBlock_13 : decode (m_code mX10_liesBlock) 13 = .ok (.iadd, 1) := by decide +kernel
theorem dX10_liesBlock_14 : decode (m_code mX10_liesBlock) 14 = .ok (.sipush 200, 3) := by decide +kernel
theorem dX10_liesBlock_17 : decode (m_code mX10_liesBlock) 17 = .ok (.invokevirtual 61, 3) := by decide +kernel
theorem dX10_liesBlock_20 : decode (m_code mX10_liesBlock) 20 = .ok (.ifCond .eq 48, 3) := by decide +kernel
theorem dX10_liesBlock_23 : decode (m_code mX10_liesBlock) 23 = .ok (.aload_n 0, 1) := by decide +kernel
theorem dX10_liesBlock_24 : decode (m_code mX10_liesBlock) 24 = .ok (.iload 4, 2) := by decide +kernel
theorem dX10_liesBlock_26 : decode (m_code mX10_liesBlock) 26 = .ok (.invokevirtual 128, 3) := by decide +kernel
theorem dX10_liesBlock_29 : decode (m_code mX10_liesBlock) 29 = .ok (.iload_n 1, 1) := by decide +kernel
theorem dX10_liesBlock_30 : decode (m_code mX10_liesBlock) 30 = .ok (.if_icmp .ne 38, 3) := by decide +kernel
theorem dX10_liesBlock_33 : decode (m_code mX10_liesBlock) 33 = .ok (.aload_n 0, 1) := by decide +kernel
theorem dX10_liesBlock_34 : decode (m_code mX10_liesBlock) 34 = .ok (.iload 5, 2) := by decide +kernel
theorem dX10_liesBlock_36 : decode (m_code mX10_liesBlock) 36 = .ok (.iconst 0, 1) := by decide +kernel
theorem dX10_liesBlock_37 : decode (m_code mX10_liesBlock) 37 = .ok (.sipush 999, 3) := by decide +kernel
theorem dX10_liesBlock_40 : decode (m_code mX10_liesBlock) 40 = .ok (.invokevirtual 61, 3) := by decide +kernel
theorem dX10_liesBlock_43 : decode (m_code mX10_liesBlock) 43 = .ok (.ifCond .eq 25, 3) := by decide +kernel
theorem dX10_liesBlock_46 : decode (m_code mX10_liesBlock) 46 = .ok (.aload_n 0, 1) := by decide +kernel
theorem dX10_liesBlock_47 : decode (m_code mX10_liesBlock) 47 = .ok (.invokevirtual 51, 3) := by decide +kernel
theorem dX10_liesBlock_50 : decode (m_code mX10_liesBlock) 50 = .ok (.bipush 100, 2) := by decide +kernel
theorem dX10_liesBlock_52 : decode (m_code mX10_liesBlock) 52 = .ok (.if_icmp .eq 16, 3) := by decide +kernel
theorem dX10_liesBlock_55 : decode (m_code mX10_liesBlock) 55 = .ok (.iload_n 2, 1) := by decide +kernel
theorem dX10_liesBlock_56 : decode (m_code mX10_liesBlock) 56 = .ok (.iconst 1, 1) := by decide +kernel
theorem dX10_liesBlock_57 : decode (m_code mX10_liesBlock) 57 = .ok (.if_icmp .ne 13, 3) := by decide +kernel
theorem dX10_liesBlock_60 : decode (m_code mX10_liesBlock) 60 = .ok (.aload_n 0, 1) := by decide +kernel
theorem dX10_liesBlock_61 : decode (m_code mX10_liesBlock) 61 = .ok (.iload_n 3, 1) := by decide +kernel
theorem dX10_liesBlock_62 : decode (m_code mX10_liesBlock) 62 = .ok (.invokevirtual 189, 3) := by decide +kernel
theorem dX10_liesBlock_65 : decode (m_code mX10_liesBlock) 65 = .ok (.ifCond .ne 5, 3) := by decide +kernel
theorem dX10_liesBlock_68 : decode (m_code mX10_liesBlock) 68 = .ok (.iconst (-1), 1) := by decide +kernel
theorem dX10_liesBlock_69 : decode (m_code mX10_liesBlock) 69 = .ok (.ireturn, 1) := by decide +kernel
theorem dX10_liesBlock_70 : decode (m_code mX10_liesBlock) 70 = .ok (.aload_n 0, 1) := by decide +kernel
theorem dX10_liesBlock_71 : decode (m_code mX10_liesBlock) 71 = .ok (.iload_n 1, 1) := by decide +kernel
theorem dX10_liesBlock_72 : decode (m_code mX10_liesBlock) 72 = .ok (.iload 4, 2) := by decide +kernel
theorem dX10_liesBlock_74 : decode (m_code mX10_liesBlock) 74 = .ok (.iload_n 3, 1) := by decide +kernel
theorem dX10_liesBlock_75 : decode (m_code mX10_liesBlock) 75 = .ok (.iload_n 2, 1) := by decide +kernel
theorem dX10_liesBlock_76 : decode (m_code mX10_liesBlock) 76 = .ok (.iconst 1, 1) := by decide +kernel
theorem dX10_liesBlock_77 : decode (m_code mX10_liesBlock) 77 = .ok (.if_icmp .ne 7, 3) := by decide +kernel
theorem dX10_liesBlock_80 : decode (m_code mX10_liesBlock) 80 = .ok (.iload_n 3, 1) := by decide +kernel
theorem dX10_liesBlock_81 : decode (m_code mX10_liesBlock) 81 = .ok (.goto 4, 3) := by decide +kernel
theorem dX10_liesBlock_84 : decode (m_code mX10_liesBlock) 84 = .ok (.iconst 0, 1) := by decide +kernel
theorem dX10_liesBlock_85 : decode (m_code mX10_liesBlock) 85 = .ok (.iload 5, 2) := by decide +kernel
theorem dX10_liesBlock_87 : decode (m_code mX10_liesBlock) 87 = .ok (.iconst 0, 1) := by decide +kernel
theorem dX10_liesBlock_88 : decode (m_code mX10_liesBlock) 88 = .ok (.invokevirtual 169, 3) := by decide +kernel
theorem dX10_liesBlock_91 : decode (m_code mX10_liesBlock) 91 = .ok (.ireturn, 1) := by decide +kernel
theorem dX10_lie_0 : decode (m_code mX10_lie) 0 = .ok (.aload_n 0, 1) := by decide +kernel
theorem dX10_lie_1 : decode (m_code mX10_lie) 1 = .ok (.iconst 0, 1) := by decide +kernel
theorem dX10_lie_2 : decode (m_code mX10_lie) 2 = .ok (.putfield 44, 3) := by decide +kernel
theorem dX10_lie_5 : decode (m_code mX10_lie) 5 = .ok (.aload_n 0, 1) := by decide +kernel
theorem dX10_lie_6 : decode (m_code mX10_lie) 6 = .ok (.iload_n 1, 1) := by decide +kernel
theorem dX10_lie_7 : decode (m_code mX10_lie) 7 = .ok (.invokevirtual 71, 3) := by decide +kernel
theorem dX10_lie_10 : decode (m_code mX10_lie) 10 = .ok (.ifCond .eq 37, 3) := by decide +kernel
theorem dX10_lie_13 : decode (m_code mX10_lie) 13 = .ok (.aload_n 0, 1) := by decide +kernel
theorem dX10_lie_14 : decode (m_code mX10_lie) 14 = .ok (.getfield 7, 3) := by decide +kernel
theorem dX10_lie_17 : decode (m_code mX10_lie) 17 = .ok (.aload_n 0, 1) := by decide +kernel
theorem dX10_lie_18 : decode (m_code mX10_lie) 18 = .ok (.iload_n 1, 1) := by decide +kernel
theorem dX10_lie_19 : decode (m_code mX10_lie) 19 = .ok (.invokevirtual 54, 3) := by decide +kernel
theorem dX10_lie_22 : decode (m_code mX10_lie) 22 = .ok (.iconst 0, 1) := by decide +kernel
theorem dX10_lie_23 : decode (m_code mX10_lie) 23 = .ok (.iadd, 1) := by decide +kernel
theorem dX10_lie_24 : decode (m_code mX10_lie) 24 = .ok (.iaload, 1) := by decide +kernel
theorem dX10_lie_25 : decode (m_code mX10_lie) 25 = .ok (.iconst 2, 1) := by decide +kernel
theorem dX10_lie_26 : decode (m_code mX10_lie) 26 = .ok (.if_icmp .ne 21, 3) := by decide +kernel
theorem dX10_lie_29 : decode (m_code mX10_lie) 29 = .ok (.aload_n 0, 1) := by decide +kernel
theorem dX10_lie_30 : decode (m_code mX10_lie) 30 = .ok (.iload_n 2, 1) := by decide +kernel
theorem dX10_lie_31 : decode (m_code mX10_lie) 31 = .ok (.iconst 0, 1) := by decide +kernel
theorem dX10_lie_32 : decode (m_code mX10_lie) 32 = .ok (.iconst 3, 1) := by decide +kernel
theorem dX10_lie_33 : decode (m_code mX10_lie) 33 = .ok (.invokevirtual 61, 3) := by decide +kernel
theorem dX10_lie_36 : decode (m_code mX10_lie) 36 = .ok (.ifCond .eq 11, 3) := by decide +kernel
theorem dX10_lie_39 : decode (m_code mX10_lie) 39 = .ok (.aload_n 0, 1) := by decide +kernel
theorem dX10_lie_40 : decode (m_code mX10_lie) 40 = .ok (.iload_n 3, 1) := by decide +kernel
theorem dX10_lie_41 : decode (m_code mX10_lie) 41 = .ok (.invokevirtual 192, 3) := by decide +kernel
theorem dX10_lie_44 : decode (m_code mX10_lie) 44 = .ok (.ifCond .ne 5, 3) := by decide +kernel
theorem dX10_lie_47 : decode (m_code mX10_lie) 47 = .ok (.iconst (-1), 1) := by decide +kernel
theorem dX10_lie_48 : decode (m_code mX10_lie) 48 = .ok (.ireturn, 1) := by decide +kernel
theorem dX10_lie_49 : decode (m_code mX10_lie) 49 = .ok (.iload_n 2, 1) := by decide +kernel
theorem dX10_lie_50 : decode (m_code mX10_lie) 50 = .ok (.iconst 1, 1) := by decide +kernel
theorem dX10_lie_51 : decode (m_code mX10_lie) 51 = .ok (.if_icmp .eq 8, 3) := by decide +kernel
theorem dX10_lie_54 : decode (m_code mX10_lie) 54 = .ok (.iload_n 2, 1) := by decide +kernel
theorem dX10_lie_55 : decode (m_code mX10_lie) 55 = .ok (.iconst 3, 1) := by decide +kernel
theorem dX10_lie_56 : decode (m_code mX10_lie) 56 = .ok (.if_icmp .ne 15, 3) := by decide +kernel
theorem dX10_lie_59 : decode (m_code mX10_lie) 59 = .ok (.aload_n 0, 1) := by decide +kernel
theorem dX10_lie_60 : decode (m_code mX10_lie) 60 = .ok (.iload_n 1, 1) := by decide +kernel
theorem dX10_lie_61 : decode (m_code mX10_lie) 61 = .ok (.iload_n 2, 1) := by decide +kernel
theorem dX10_lie_62 : decode (m_code mX10_lie) 62 = .ok (.iload_n 3, 1) := by decide +kernel
theorem dX10_lie_63 : decode (m_code mX10_lie) 63 = .ok (.iload 4, 2) := by decide +kernel
theorem dX10_lie_65 : decode (m_code mX10_lie) 65 = .ok (.iload 5, 2) := by decide +kernel
theorem dX10_lie_67 : decode (m_code mX10_lie) 67 = .ok (.invokevirtual 195, 3) := by decide +kernel
theorem dX10_lie_70 : decode (m_code mX10_lie) 70 = .ok (.ireturn, 1) := by decide +kernel
theorem dX10_lie_71 : decode (m_code mX10_lie) 71 = .ok (.iload_n 2, 1) := by decide +kernel
theorem dX10_lie_72 : decode (m_code mX10_lie) 72 = .ok (.ifCond .ne 34, 3) := by decide +kernel
theorem dX10_lie_75 : decode (m_code mX10_lie) 75 = .ok (.iload_n 3, 1) := by decide +kernel
theorem dX10_lie_76 : decode (m_code mX10_lie) 76 = .ok (.ifCond .ne 5, 3) := by decide +kernel
theorem dX10_lie_79 : decode (m_code mX10_lie) 79 = .ok (.iconst (-1), 1) := by decide +kernel
theorem dX10_lie_80 : decode (m_code mX10_lie) 80 = .ok (.ireturn, 1) := by decide +kernel
theorem dX10_lie_81 : decode (m_code mX10_lie) 81 = .ok (.aload_n 0, 1) := by decide +kernel
theorem dX10_lie_82 : decode (m_code mX10_lie) 82 = .ok (.iload_n 1, 1) := by decide +kernel
theorem dX10_lie_83 : decode (m_code mX10_lie) 83 = .ok (.aload_n 0, 1) := by decide +kernel
theorem dX10_lie_84 : decode (m_code mX10_lie) 84 = .ok (.aload_n 0, 1) := by decide +kernel
theorem dX10_lie_85 : decode (m_code mX10_lie) 85 = .ok (.getfield 7, 3) := by decide +kernel
theorem dX10_lie_88 : decode (m_code mX10_lie) 88 = .ok (.bipush 16, 2) := by decide +kernel
theorem dX10_lie_90 : decode (m_code mX10_lie) 90 = .ok (.iload_n 3, 1) := by decide +kernel
theorem dX10_lie_91 : decode (m_code mX10_lie) 91 = .ok (.iadd, 1) := by decide +kernel
theorem dX10_lie_92 : decode (m_code mX10_lie) 92 = .ok (.iaload, 1) := by decide +kernel
theorem dX10_lie_93 : decode (m_code mX10_lie) 93 = .ok (.iconst 1, 1) := by decide +kernel
theorem dX10_lie_94 : decode (m_code mX10_lie) 94 = .ok (.iadd, 1) := by decide +kernel
theorem dX10_lie_95 : decode (m_code mX10_lie) 95 = .ok (.invokevirtual 128, 3) := by decide +kernel
theorem dX10_lie_98 : decode (m_code mX10_lie) 98 = .ok (.iconst 2, 1) := by decide +kernel
theorem dX10_lie_99 : decode (m_code mX10_lie) 99 = .ok (.iload_n 3, 1) := by decide +kernel
theorem dX10_lie_100 : decode (m_code mX10_lie) 100 = .ok (.iconst (-1), 1) := by decide +kernel
theorem dX10_lie_101 : decode (m_code mX10_lie) 101 = .ok (.invokevirtual 86, 3) := by decide +kernel
theorem dX10_lie_104 : decode (m_code mX10_lie) 104 = .ok (.iconst 0, 1) := by decide +kernel
theorem dX10_lie_105 : decode (m_code mX10_lie) 105 = .ok (.ireturn, 1) := by decide +kernel
theorem dX10_lie_106 : decode (m_code mX10_lie) 106 = .ok (.aload_n 0, 1) := by decide +kernel
theorem dX10_lie_107 : decode (m_code mX10_lie) 107 = .ok (.iload 4, 2) := by decide +kernel
theorem dX10_lie_109 : decode (m_code mX10_lie) 109 = .ok (.iconst 1, 1) := by decide +kernel
theorem dX10_lie_110 : decode (m_code mX10_lie) 110 = .ok (.sipush 200, 3) := by decide +kernel
theorem dX10_lie_113 : decode (m_code mX10_lie) 113 = .ok (.invokevirtual 61, 3) := by decide +kernel
theorem dX10_lie_116 : decode (m_code mX10_lie) 116 = .ok (.ifCond .eq 11, 3) := by decide +kernel
theorem dX10_lie_119 : decode (m_code mX10_lie) 119 = .ok (.aload_n 0, 1) := by decide +kernel
theorem dX10_lie_120 : decode (m_code mX10_lie) 120 = .ok (.iload_n 3, 1) := by decide +kernel
theorem dX10_lie_121 : decode (m_code mX10_lie) 121 = .ok (.invokevirtual 189, 3) := by decide +kernel
theorem dX10_lie_124 : decode (m_code mX10_lie) 124 = .ok (.ifCond .ne 5, 3) := by decide +kernel
theorem dX10_lie_127 : decode (m_code mX10_lie) 127 = .ok (.iconst (-1), 1) := by decide +kernel
theorem dX10_lie_128 : decode (m_code mX10_lie) 128 = .ok (.ireturn, 1) := by decide +kernel
theorem dX10_lie_129 : decode (m_code mX10_lie) 129 = .ok (.aload_n 0, 1) := by decide +kernel
theorem dX10_lie_130 : decode (m_code mX10_lie) 130 = .ok (.iload_n 1, 1) := by decide +kernel
theorem dX10_lie_131 : decode (m_code mX10_lie) 131 = .ok (.iconst 3, 1) := by decide +kernel
theorem dX10_lie_132 : decode (m_code mX10_lie) 132 = .ok (.iload 4, 2) := by decide +kernel
theorem dX10_lie_134 : decode (m_code mX10_lie) 134 = .ok (.iload_n 3, 1) := by decide +kernel
theorem dX10_lie_135 : decode (m_code mX10_lie) 135 = .ok (.invokevirtual 166, 3) := by decide +kernel
theorem dX10_lie_138 : decode (m_code mX10_lie) 138 = .ok (.iconst 0, 1) := by decide +kernel
theorem dX10_lie_139 : decode (m_code mX10_lie) 139 = .ok (.ireturn, 1) := by decide +kernel
theorem dX10_ask_0 : decode (m_code mX10_ask) 0 = .ok (.aload_n 0, 1) := by decide +kernel
theorem dX10_ask_1 : decode (m_code mX10_ask) 1 = .ok (.iconst 0, 1) := by decide +kernel
theorem dX10_ask_2 : decode (m_code mX10_ask) 2 = .ok (.putfield 44, 3) := by decide +kernel
theorem dX10_ask_5 : decode (m_code mX10_ask) 5 = .ok (.aload_n 0, 1) := by decide +kernel
theorem dX10_ask_6 : decode (m_code mX10_ask) 6 = .ok (.iload_n 1, 1) := by decide +kernel
theorem dX10_ask_7 : decode (m_code mX10_ask) 7 = .ok (.invokevirtual 71, 3) := by decide +kernel
theorem dX10_ask_10 : decode (m_code mX10_ask) 10 = .ok (.ifCond .eq 32, 3) := by decide +kernel
theorem dX10_ask_13 : decode (m_code mX10_ask) 13 = .ok (.aload_n 0, 1) := by decide +kernel
theorem dX10_ask_14 : decode (m_code mX10_ask) 14 = .ok (.iload_n 2, 1) := by decide +kernel
theorem dX10_ask_15 : decode (m_code mX10_ask) 15 = .ok (.invokevirtual 71, 3) := by decide +kernel
theorem dX10_ask_18 : decode (m_code mX10_ask) 18 = .ok (.ifCond .eq 24, 3) := by decide +kernel
theorem dX10_ask_21 : decode (m_code mX10_ask) 21 = .ok (.iload_n 1, 1) := by decide +kernel
theorem dX10_ask_22 : decode (m_code mX10_ask) 22 = .ok (.iload_n 2, 1) := by decide +kernel
theorem dX10_ask_23 : decode (m_code mX10_ask) 23 = .ok (.if_icmp .eq 19, 3) := by decide +kernel
theorem dX10_ask_26 : decode (m_code mX10_ask) 26 = .ok (.aload_n 0, 1) := by decide +kernel
theorem dX10_ask_27 : decode (m_code mX10_ask) 27 = .ok (.iload_n 1, 1) := by decide +kernel
theorem dX10_ask_28 : decode (m_code mX10_ask) 28 = .ok (.invokevirtual 140, 3) := by decide +kernel
theorem dX10_ask_31 : decode (m_code mX10_ask) 31 = .ok (.ifCond .ne 11, 3) := by decide +kernel
theorem dX10_ask_34 : decode (m_code mX10_ask) 34 = .ok (.aload_n 0, 1) := by decide +kernel
theorem dX10_ask_35 : decode (m_code mX10_ask) 35 = .ok (.iload_n 2, 1) := by decide +kernel
theorem dX10_ask_36 : decode (m_code mX10_ask) 36 = .ok (.invokevirtual 140, 3) := by decide +kernel
theorem dX10_ask_39 : decode (m_code mX10_ask) 39 = .ok (.ifCond .eq 5, 3) := by decide +kernel
theorem dX10_ask_42 : decode (m_code mX10_ask) 42 = .ok (.iconst 0, 1) := by decide +kernel
theorem dX10_ask_43 : decode (m_code mX10_ask) 43 = .ok (.ireturn, 1) := by decide +kernel
theorem dX10_ask_44 : decode (m_code mX10_ask) 44 = .ok (.aload_n 0, 1) := by decide +kernel
theorem dX10_ask_45 : decode (m_code mX10_ask) 45 = .ok (.iload_n 1, 1) := by decide +kernel
theorem dX10_ask_46 : decode (m_code mX10_ask) 46 = .ok (.invokevirtual 54, 3) := by decide +kernel
theorem dX10_ask_49 : decode (m_code mX10_ask) 49 = .ok (.istore_n 3, 1) := by decide +kernel
theorem dX10_ask_50 : decode (m_code mX10_ask) 50 = .ok (.aload_n 0, 1) := by decide +kernel
theorem dX10_ask_51 : decode (m_code mX10_ask) 51 = .ok (.iload_n 1, 1) := by decide +kernel
theorem dX10_ask_52 : decode (m_code mX10_ask) 52 = .ok (.aload_n 0, 1) := by decide +kernel
theorem dX10_ask_53 : decode (m_code mX10_ask) 53 = .ok (.getfield 7, 3) := by decide +kernel
theorem dX10_ask_56 : decode (m_code mX10_ask) 56 = .ok (.aload_n 0, 1) := by decide +kernel
theorem dX10_ask_57 : decode (m_code mX10_ask) 57 = .ok (.iload_n 2, 1) := by decide +kernel
theorem dX10_ask_58 : decode (m_code mX10_ask) 58 = .ok (.invokevirtual 54, 3) := by decide +kernel
theorem dX10_ask_61 : decode (m_code mX10_ask) 61 = .ok (.iconst 5, 1) := by decide +kernel
theorem dX10_ask_62 : decode (m_code mX10_ask) 62 = .ok (.iadd, 1) := by decide +kernel
theorem dX10_ask_63 : decode (m_code mX10_ask) 63 = .ok (.iaload, 1) := by decide +kernel
theorem dX10_ask_64 : decode (m_code mX10_ask) 64 = .ok (.invokevirtual 116, 3) := by decide +kernel
theorem dX10_ask_67 : decode (m_code mX10_ask) 67 = .ok (.aload_n 0, 1) := by decide +kernel
theorem dX10_ask_68 : decode (m_code mX10_ask) 68 = .ok (.getfield 7, 3) := by decide +kernel
theorem dX10_ask_71 : decode (m_code mX10_ask) 71 = .ok (.iload_n 3, 1) := by decide +kernel
theorem dX10_ask_72 : decode (m_code mX10_ask) 72 = .ok (.bipush 7, 2) := by decide +kernel
theorem dX10_ask_74 : decode (m_code mX10_ask) 74 = .ok (.iadd, 1) := by decide +kernel
theorem dX10_ask_75 : decode (m_code mX10_ask) 75 = .ok (.aload_n 0, 1) := by decide +kernel
theorem dX10_ask_76 : decode (m_code mX10_ask) 76 = .ok (.aload_n 0, 1) := by decide +kernel
theorem dX10_ask_77 : decode (m_code mX10_ask) 77 = .ok (.getfield 7, 3) := by decide +kernel
theorem dX10_ask_80 : decode (m_code mX10_ask) 80 = .ok (.iload_n 3, 1) := by decide +kernel
theorem dX10_ask_81 : decode (m_code mX10_ask) 81 = .ok (.bipush 7, 2) := by decide +kernel
theorem dX10_ask_83 : decode (m_code mX10_ask) 83 = .ok (.iadd, 1) := by decide +kernel
theorem dX10_ask_84 : decode (m_code mX10_ask) 84 = .ok (.iaload, 1) := by decide +kernel
theorem dX10_ask_85 : decode (m_code mX10_ask) 85 = .ok (.aload_n 0, 1) := by decide +kernel
theorem dX10_ask_86 : decode (m_code mX10_ask) 86 = .ok (.getfield 7, 3) := by decide +kernel
theorem dX10_ask_89 : decode (m_code mX10_ask) 89 = .ok (.aload_n 0, 1) := by decide +kernel
theorem dX10_ask_90 : decode (m_code mX10_ask) 90 = .ok (.iload_n 2, 1) := by decide +kernel
theorem dX10_ask_91 : decode (m_code mX10_ask) 91 = .ok (.invokevirtual 54, 3) := by decide +kernel
theorem dX10_ask_94 : decode (m_code mX10_ask) 94 = .ok (.bipush 7, 2) := by decide +kernel
theorem dX10_ask_96 : decode (m_code mX10_ask) 96 = .ok (.iadd, 1) := by decide +kernel
theorem dX10_ask_97 : decode (m_code mX10_ask) 97 = .ok (.iaload, 1) := by decide +kernel
theorem dX10_ask_98 : decode (m_code mX10_ask) 98 = .ok (.invokevirtual 180, 3) := by decide +kernel
theorem dX10_ask_101 : decode (m_code mX10_ask) 101 = .ok (.iastore, 1) := by decide +kernel
theorem dX10_ask_102 : decode (m_code mX10_ask) 102 = .ok (.aload_n 0, 1) := by decide +kernel
theorem dX10_ask_103 : decode (m_code mX10_ask) 103 = .ok (.iload_n 1, 1) := by decide +kernel
theorem dX10_ask_104 : decode (m_code mX10_ask) 104 = .ok (.aload_n 0, 1) := by decide +kernel
theorem dX10_ask_105 : decode (m_code mX10_ask) 105 = .ok (.aload_n 0, 1) := by decide +kernel
theorem dX10_ask_106 : decode (m_code mX10_ask) 106 = .ok (.iload_n 1, 1) := by decide +kernel
theorem dX10_ask_107 : decode (m_code mX10_ask) 107 = .ok (.invokevirtual 104, 3) := by decide +kernel
theorem dX10_ask_110 : decode (m_code mX10_ask) 110 = .ok (.aload_n 0, 1) := by decide +kernel
theorem dX10_ask_111 : decode (m_code mX10_ask) 111 = .ok (.aload_n 0, 1) := by decide +kernel
theorem dX10_ask_112 : decode (m_code mX10_ask) 112 = .ok (.getfield 7, 3) := by decide +kernel
theorem dX10_ask_115 : decode (m_code mX10_ask) 115 = .ok (.iload_n 3, 1) := by decide +kernel
theorem dX10_ask_116 : decode (m_code mX10_ask) 116 = .ok (.bipush 7, 2) := by decide +kernel
theorem dX10_ask_118 : decode (m_code mX10_ask) 118 = .ok (.iadd, 1) := by decide +kernel
theorem dX10_ask_119 : decode (m_code mX10_ask) 119 = .ok (.iaload, 1) := by decide +kernel
theorem dX10_ask_120 : decode (m_code mX10_ask) 120 = .ok (.iconst 1, 1) := by decide +kernel
theorem dX10_ask_121 : decode (m_code mX10_ask) 121 = .ok (.iadd, 1) := by decide +kernel
theorem dX10_ask_122 : decode (m_code mX10_ask) 122 = .ok (.aload_n 0, 1) := by decide +kernel
theorem dX10_ask_123 : decode (m_code mX10_ask) 123 = .ok (.getfield 7, 3) := by decide +kernel
theorem dX10_ask_126 : decode (m_code mX10_ask) 126 = .ok (.bipush 16, 2) := by decide +kernel
theorem dX10_ask_128 : decode (m_code mX10_ask) 128 = .ok (.aload_n 0, 1) := by decide +kernel
theorem dX10_ask_129 : decode (m_code mX10_ask) 129 = .ok (.getfield 7, 3) := by decide +kernel
theorem dX10_ask_132 : decode (m_code mX10_ask) 132 = .ok (.iload_n 3, 1) := by decide +kernel
theorem dX10_ask_133 : decode (m_code mX10_ask) 133 = .ok (.iconst 5, 1) := by decide +kernel
theorem dX10_ask_134 : decode (m_code mX10_ask) 134 = .ok (.iadd, 1) := by decide +kernel
theorem dX10_ask_135 : decode (m_code mX10_ask) 135 = .ok (.iaload, 1) := by decide +kernel
theorem dX10_ask_136 : decode (m_code mX10_ask) 136 = .ok (.iadd, 1) := by decide +kernel
theorem dX10_ask_137 : decode (m_code mX10_ask) 137 = .ok (.iaload, 1) := by decide +kernel
theorem dX10_ask_138 : decode (m_code mX10_ask) 138 = .ok (.iconst 1, 1) := by decide +kernel
theorem dX10_ask_139 : decode (m_code mX10_ask) 139 = .ok (.iadd, 1) := by decide +kernel
theorem dX10_ask_140 : decode (m_code mX10_ask) 140 = .ok (.invokevirtual 180, 3) := by decide +kernel
theorem dX10_ask_143 : decode (m_code mX10_ask) 143 = .ok (.invokevirtual 180, 3) := by decide +kernel
theorem dX10_ask_146 : decode (m_code mX10_ask) 146 = .ok (.invokevirtual 107, 3) := by decide +kernel
theorem dX10_ask_149 : decode (m_code mX10_ask) 149 = .ok (.iconst 1, 1) := by decide +kernel
theorem dX10_ask_150 : decode (m_code mX10_ask) 150 = .ok (.ireturn, 1) := by decide +kernel
theorem dX10_deliversAll_0 : decode (m_code mX10_deliversAll) 0 = .ok (.aload_n 0, 1) := by decide +kernel
theorem dX10_deliversAll_1 : decode (m_code mX10_deliversAll) 1 = .ok (.getfield 7, 3) := by decide +kernel
theorem dX10_deliversAll_4 : decode (m_code mX10_deliversAll) 4 = .ok (.iconst 4, 1) := by decide +kernel
theorem dX10_deliversAll_5 : decode (m_code mX10_deliversAll) 5 = .ok (.iaload, 1) := by decide +kernel
theorem dX10_deliversAll_6 : decode (m_code mX10_deliversAll) 6 = .ok (.ifCond .le 15, 3) := by decide +kernel
theorem dX10_deliversAll_9 : decode (m_code mX10_deliversAll) 9 = .ok (.aload_n 0, 1) := by decide +kernel
theorem dX10_deliversAll_10 : decode (m_code mX10_deliversAll) 10 = .ok (.iconst 0, 1) := by decide +kernel
theorem dX10_deliversAll_11 : decode (m_code mX10_deliversAll) 11 = .ok (.invokevirtual 156, 3) := by decide +kernel
theorem dX10_deliversAll_14 : decode (m_code mX10_deliversAll) 14 = .ok (.aload_n 0, 1) := by decide +kernel
theorem dX10_deliversAll_15 : decode (m_code mX10_deliversAll) 15 = .ok (.invokevirtual 160, 3) := by decide +kernel
theorem dX10_deliversAll_18 : decode (m_code mX10_deliversAll) 18 = .ok (.goto (-18), 3) := by decide +kernel
theorem dX10_deliversAll_21 : decode (m_code mX10_deliversAll) 21 = .ok (.return_, 1) := by decide +kernel
theorem dX10_goesRound_0 : decode (m_code mX10_goesRound) 0 = .ok (.aload_n 0, 1) := by decide +kernel
theorem dX10_goesRound_1 : decode (m_code mX10_goesRound) 1 = .ok (.invokevirtual 199, 3) := by decide +kernel
theorem dX10_goesRound_4 : decode (m_code mX10_goesRound) 4 = .ok (.iconst 0, 1) := by decide +kernel
theorem dX10_goesRound_5 : decode (m_code mX10_goesRound) 5 = .ok (.istore_n 2, 1) := by decide +kernel
theorem dX10_goesRound_6 : decode (m_code mX10_goesRound) 6 = .ok (.iconst 0, 1) := by decide +kernel
theorem dX10_goesRound_7 : decode (m_code mX10_goesRound) 7 = .ok (.istore_n 3, 1) := by decide +kernel
theorem dX10_goesRound_8 : decode (m_code mX10_goesRound) 8 = .ok (.iload_n 3, 1) := by decide +kernel
theorem dX10_goesRound_9 : decode (m_code mX10_goesRound) 9 = .ok (.aload_n 0, 1) := by decide +kernel
theorem dX10_goesRound_10 : decode (m_code mX10_goesRound) 10 = .ok (.invokevirtual 47, 3) := by decide +kernel
theorem dX10_goesRound_13 : decode (m_code mX10_goesRound) 13 = .ok (.if_icmp .ge 29, 3) := by decide +kernel
theorem dX10_goesRound_16 : decode (m_code mX10_goesRound) 16 = .ok (.aload_n 0, 1) := by decide +kernel
theorem dX10_goesRound_17 : decode (m_code mX10_goesRound) 17 = .ok (.iload_n 3, 1) := by decide +kernel
theorem dX10_goesRound_18 : decode (m_code mX10_goesRound) 18 = .ok (.invokevirtual 173, 3) := by decide +kernel
theorem dX10_goesRound_21 : decode (m_code mX10_goesRound) 21 = .ok (.ifCond .ne 6, 3) := by decide +kernel
theorem dX10_goesRound_24 : decode (m_code mX10_goesRound) 24 = .ok (.goto 12, 3) := by decide +kernel
theorem dX10_goesRound_27 : decode (m_code mX10_goesRound) 27 = .ok (.aload_n 0, 1) := by decide +kernel
theorem dX10_goesRound_28 : decode (m_code mX10_goesRound) 28 = .ok (.iload_n 3, 1) := by decide +kernel
theorem dX10_goesRound_29 : decode (m_code mX10_goesRound) 29 = .ok (.iload_n 1, 1) := by decide +kernel
theorem dX10_goesRound_30 : decode (m_code mX10_goesRound) 30 = .ok (.invokevirtual 176, 3) := by decide +kernel
theorem dX10_goesRound_33 : decode (m_code mX10_goesRound) 33 = .ok (.pop, 1) := by decide +kernel
theorem dX10_goesRound_34 : decode (m_code mX10_goesRound) 34 = .ok (.iconst 1, 1) := by decide +kernel
theorem dX10_goesRound_35 : decode (m_code mX10_goesRound) 35 = .ok (.istore_n 2, 1) := by decide +kernel
theorem dX10_goesRound_36 : decode (m_code mX10_goesRound) 36 = .ok (.iinc 3 1, 3) := by decide +kernel
theorem dX10_goesRound_39 : decode (m_code mX10_goesRound) 39 = .ok (.goto (-31), 3) := by decide +kernel
theorem dX10_goesRound_42 : decode (m_code mX10_goesRound) 42 = .ok (.iconst 0, 1) := by decide +kernel
theorem dX10_goesRound_43 : decode (m_code mX10_goesRound) 43 = .ok (.istore_n 3, 1) := by decide +kernel
theorem dX10_goesRound_44 : decode (m_code mX10_goesRound) 44 = .ok (.iload_n 3, 1) := by decide +kernel
theorem dX10_goesRound_45 : decode (m_code mX10_goesRound) 45 = .ok (.aload_n 0, 1) := by decide +kernel
theorem dX10_goesRound_46 : decode (m_code mX10_goesRound) 46 = .ok (.invokevirtual 47, 3) := by decide +kernel
theorem dX10_goesRound_49 : decode (m_code mX10_goesRound) 49 = .ok (.if_icmp .ge 26, 3) := by decide +kernel
theorem dX10_goesRound_52 : decode (m_code mX10_goesRound) 52 = .ok (.iload_n 2, 1) := by decide +kernel
theorem dX10_goesRound_53 : decode (m_code mX10_goesRound) 53 = .ok (.ifCond .ne 22, 3) := by decide +kernel
theorem dX10_goesRound_56 : decode (m_code mX10_goesRound) 56 = .ok (.aload_n 0, 1) := by decide +kernel
theorem dX10_goesRound_57 : decode (m_code mX10_goesRound) 57 = .ok (.iload_n 3, 1) := by decide +kernel
theorem dX10_goesRound_58 : decode (m_code mX10_goesRound) 58 = .ok (.invokevirtual 183, 3) := by decide +kernel
theorem dX10_goesRound_61 : decode (m_code mX10_goesRound) 61 = .ok (.ifCond .eq 8, 3) := by decide +kernel
theorem dX10_goesRound_64 : decode (m_code mX10_goesRound) 64 = .ok (.aload_n 0, 1) := by decide +kernel
theorem dX10_goesRound_65 : decode (m_code mX10_goesRound) 65 = .ok (.iload_n 3, 1) := by decide +kernel
theorem dX10_goesRound_66 : decode (m_code mX10_goesRound) 66 = .ok (.invokevirtual 186, 3) := by decide +kernel
theorem dX10_goesRound_69 : decode (m_code mX10_goesRound) 69 = .ok (.iinc 3 1, 3) := by decide +kernel
theorem dX10_goesRound_72 : decode (m_code mX10_goesRound) 72 = .ok (.goto (-28), 3) := by decide +kernel
theorem dX10_goesRound_75 : decode (m_code mX10_goesRound) 75 = .ok (.return_, 1) := by decide +kernel
theorem dX10_logsTogether_0 : decode (m_code mX10_logsTogether) 0 = .ok (.iconst 0, 1) := by decide +kernel
theorem dX10_logsTogether_1 : decode (m_code mX10_logsTogether) 1 = .ok (.istore_n 1, 1) := by decide +kernel
theorem dX10_logsTogether_2 : decode (m_code mX10_logsTogether) 2 = .ok (.iconst 0, 1) := by decide +kernel
theorem dX10_logsTogether_3 : decode (m_code mX10_logsTogether) 3 = .ok (.istore_n 2, 1) := by decide +kernel
theorem dX10_logsTogether_4 : decode (m_code mX10_logsTogether) 4 = .ok (.iload_n 2, 1) := by decide +kernel
theorem dX10_logsTogether_5 : decode (m_code mX10_logsTogether) 5 = .ok (.aload_n 0, 1) := by decide +kernel
theorem dX10_logsTogether_6 : decode (m_code mX10_logsTogether) 6 = .ok (.invokevirtual 47, 3) := by decide +kernel
theorem dX10_logsTogether_9 : decode (m_code mX10_logsTogether) 9 = .ok (.if_icmp .ge 17, 3) := by decide +kernel
theorem dX10_logsTogether_12 : decode (m_code mX10_logsTogether) 12 = .ok (.iload_n 1, 1) := by decide +kernel
theorem dX10_logsTogether_13 : decode (m_code mX10_logsTogether) 13 = .ok (.aload_n 0, 1) := by decide +kernel
theorem dX10_logsTogether_14 : decode (m_code mX10_logsTogether) 14 = .ok (.iload_n 2, 1) := by decide +kernel
theorem dX10_logsTogether_15 : decode (m_code mX10_logsTogether) 15 = .ok (.invokevirtual 202, 3) := by decide +kernel
theorem dX10_logsTogether_18 : decode (m_code mX10_logsTogether) 18 = .ok (.iadd, 1) := by decide +kernel
theorem dX10_logsTogether_19 : decode (m_code mX10_logsTogether) 19 = .ok (.istore_n 1, 1) := by decide +kernel
theorem dX10_logsTogether_20 : decode (m_code mX10_logsTogether) 20 = .ok (.iinc 2 1, 3) := by decide +kernel
theorem dX10_logsTogether_23 : decode (m_code mX10_logsTogether) 23 = .ok (.goto (-19), 3) := by decide +kernel
theorem dX10_logsTogether_26 : decode (m_code mX10_logsTogether) 26 = .ok (.iload_n 1, 1) := by decide +kernel
theorem dX10_logsTogether_27 : decode (m_code mX10_logsTogether) 27 = .ok (.ireturn, 1) := by decide +kernel
theorem dX10_calm_0 : decode (m_code mX10_calm) 0 = .ok (.aload_n 0, 1) := by decide +kernel
theorem dX10_calm_1 : decode (m_code mX10_calm) 1 = .ok (.iconst 0, 1) := by decide +kernel
theorem dX10_calm_2 : decode (m_code mX10_calm) 2 = .ok (.putfield 44, 3) := by decide +kernel
theorem dX10_calm_5 : decode (m_code mX10_calm) 5 = .ok (.aload_n 0, 1) := by decide +kernel
theorem dX10_calm_6 : decode (m_code mX10_calm) 6 = .ok (.iload_n 1, 1) := by decide +kernel
theorem dX10_calm_7 : decode (m_code mX10_calm) 7 = .ok (.iconst 1, 1) := by decide +kernel
theorem dX10_calm_8 : decode (m_code mX10_calm) 8 = .ok (.bipush 20, 2) := by decide +kernel
theorem dX10_calm_10 : decode (m_code mX10_calm) 10 = .ok (.invokevirtual 61, 3) := by decide +kernel
theorem dX10_calm_13 : decode (m_code mX10_calm) 13 = .ok (.ifCond .ne 5, 3) := by decide +kernel
theorem dX10_calm_16 : decode (m_code mX10_calm) 16 = .ok (.iconst (-1), 1) := by decide +kernel
theorem dX10_calm_17 : decode (m_code mX10_calm) 17 = .ok (.ireturn, 1) := by decide +kernel
theorem dX10_calm_18 : decode (m_code mX10_calm) 18 = .ok (.aload_n 0, 1) := by decide +kernel
theorem dX10_calm_19 : decode (m_code mX10_calm) 19 = .ok (.invokevirtual 205, 3) := by decide +kernel
theorem dX10_calm_22 : decode (m_code mX10_calm) 22 = .ok (.istore_n 2, 1) := by decide +kernel
theorem dX10_calm_23 : decode (m_code mX10_calm) 23 = .ok (.iconst 0, 1) := by decide +kernel
theorem dX10_calm_24 : decode (m_code mX10_calm) 24 = .ok (.istore_n 3, 1) := by decide +kernel
theorem dX10_calm_25 : decode (m_code mX10_calm) 25 = .ok (.iload_n 3, 1) := by decide +kernel
theorem dX10_calm_26 : decode (m_code mX10_calm) 26 = .ok (.iload_n 1, 1) := by decide +kernel
theorem dX10_calm_27 : decode (m_code mX10_calm) 27 = .ok (.if_icmp .ge 14, 3) := by decide +kernel
theorem dX10_calm_30 : decode (m_code mX10_calm) 30 = .ok (.aload_n 0, 1) := by decide +kernel
theorem dX10_calm_31 : decode (m_code mX10_calm) 31 = .ok (.iload_n 3, 1) := by decide +kernel
theorem dX10_calm_32 : decode (m_code mX10_calm) 32 = .ok (.invokevirtual 208, 3) := by decide +kernel
theorem dX10_calm_35 : decode (m_code mX10_calm) 35 = .ok (.iinc 3 1, 3) := by decide +kernel
theorem dX10_calm_38 : decode (m_code mX10_calm) 38 = .ok (.goto (-13), 3) := by decide +kernel
theorem dX10_calm_41 : decode (m_code mX10_calm) 41 = .ok (.aload_n 0, 1) := by decide +kernel
theorem dX10_calm_42 : decode (m_code mX10_calm) 42 = .ok (.invokevirtual 199, 3) := by decide +kernel
theorem dX10_calm_45 : decode (m_code mX10_calm) 45 = .ok (.aload_n 0, 1) := by decide +kernel
theorem dX10_calm_46 : decode (m_code mX10_calm) 46 = .ok (.invokevirtual 205, 3) := by decide +kernel
theorem dX10_calm_49 : decode (m_code mX10_calm) 49 = .ok (.iload_n 2, 1) := by decide +kernel
theorem dX10_calm_50 : decode (m_code mX10_calm) 50 = .ok (.isub, 1) := by decide +kernel
theorem dX10_calm_51 : decode (m_code mX10_calm) 51 = .ok (.ireturn, 1) := by decide +kernel
theorem dX10_isLonger_0 : decode (m_code mX10_isLonger) 0 = .ok (.iconst 0, 1) := by decide +kernel
theorem dX10_isLonger_1 : decode (m_code mX10_isLonger) 1 = .ok (.istore_n 1, 1) := by decide +kernel
theorem dX10_isLonger_2 : decode (m_code mX10_isLonger) 2 = .ok (.iload_n 1, 1) := by decide +kernel
theorem dX10_isLonger_3 : decode (m_code mX10_isLonger) 3 = .ok (.aload_n 0, 1) := by decide +kernel
theorem dX10_isLonger_4 : decode (m_code mX10_isLonger) 4 = .ok (.invokevirtual 47, 3) := by decide +kernel
theorem dX10_isLonger_7 : decode (m_code mX10_isLonger) 7 = .ok (.if_icmp .ge 40, 3) := by decide +kernel
theorem dX10_isLonger_10 : decode (m_code mX10_isLonger) 10 = .ok (.aload_n 0, 1) := by decide +kernel
theorem dX10_isLonger_11 : decode (m_code mX10_isLonger) 11 = .ok (.getfield 7, 3) := by decide +kernel
theorem dX10_isLonger_14 : decode (m_code mX10_isLonger) 14 = .ok (.aload_n 0, 1) := by decide +kernel
theorem dX10_isLonger_15 : decode (m_code mX10_isLonger) 15 = .ok (.iload_n 1, 1) := by decide +kernel
theorem dX10_isLonger_16 : decode (m_code mX10_isLonger) 16 = .ok (.invokevirtual 54, 3) := by decide +kernel
theorem dX10_isLonger_19 : decode (m_code mX10_isLonger) 19 = .ok (.iconst 0, 1) := by decide +kernel
theorem dX10_isLonger_20 : decode (m_code mX10_isLonger) 20 = .ok (.iadd, 1) := by decide +kernel
theorem dX10_isLonger_21 : decode (m_code mX10_isLonger) 21 = .ok (.iaload, 1) := by decide +kernel
theorem dX10_isLonger_22 : decode (m_code mX10_isLonger) 22 = .ok (.ifCond .ne 19, 3) := by decide +kernel
theorem dX10_isLonger_25 : decode (m_code mX10_isLonger) 25 = .ok (.aload_n 0, 1) := by decide +kernel
theorem dX10_isLonger_26 : decode (m_code mX10_isLonger) 26 = .ok (.iload_n 1, 1) := by decide +kernel
theorem dX10_isLonger_27 : decode (m_code mX10_isLonger) 27 = .ok (.invokevirtual 202, 3) := by decide +kernel
theorem dX10_isLonger_30 : decode (m_code mX10_isLonger) 30 = .ok (.aload_n 0, 1) := by decide +kernel
theorem dX10_isLonger_31 : decode (m_code mX10_isLonger) 31 = .ok (.getfield 22, 3) := by decide +kernel
theorem dX10_isLonger_34 : decode (m_code mX10_isLonger) 34 = .ok (.iload_n 1, 1) := by decide +kernel
theorem dX10_isLonger_35 : decode (m_code mX10_isLonger) 35 = .ok (.iaload, 1) := by decide +kernel
theorem dX10_isLonger_36 : decode (m_code mX10_isLonger) 36 = .ok (.if_icmp .le 5, 3) := by decide +kernel
theorem dX10_isLonger_39 : decode (m_code mX10_isLonger) 39 = .ok (.iconst 1, 1) := by decide +kernel
theorem dX10_isLonger_40 : decode (m_code mX10_isLonger) 40 = .ok (.ireturn, 1) := by decide +kernel
theorem dX10_isLonger_41 : decode (m_code mX10_isLonger) 41 = .ok (.iinc 1 1, 3) := by decide +kernel
theorem dX10_isLonger_44 : decode (m_code mX10_isLonger) 44 = .ok (.goto (-42), 3) := by decide +kernel
theorem dX10_isLonger_47 : decode (m_code mX10_isLonger) 47 = .ok (.iconst 0, 1) := by decide +kernel
theorem dX10_isLonger_48 : decode (m_code mX10_isLonger) 48 = .ok (.ireturn, 1) := by decide +kernel
theorem dX10_soonOf_0 : decode (m_code mX10_soonOf) 0 = .ok (.iconst 0, 1) := by decide +kernel
theorem dX10_soonOf_1 : decode (m_code mX10_soonOf) 1 = .ok (.istore_n 1, 1) := by decide +kernel
theorem dX10_soonOf_2 : decode (m_code mX10_soonOf) 2 = .ok (.iload_n 1, 1) := by decide +kernel
theorem dX10_soonOf_3 : decode (m_code mX10_soonOf) 3 = .ok (.aload_n 0, 1) := by decide +kernel
theorem dX10_soonOf_4 : decode (m_code mX10_soonOf) 4 = .ok (.invokevirtual 47, 3) := by decide +kernel
theorem dX10_soonOf_7 : decode (m_code mX10_soonOf) 7 = .ok (.if_icmp .ge 20, 3) := by decide +kernel
theorem dX10_soonOf_10 : decode (m_code mX10_soonOf) 10 = .ok (.aload_n 0, 1) := by decide +kernel
theorem dX10_soonOf_11 : decode (m_code mX10_soonOf) 11 = .ok (.getfield 22, 3) := by decide +kernel
theorem dX10_soonOf_14 : decode (m_code mX10_soonOf) 14 = .ok (.iload_n 1, 1) := by decide +kernel
theorem dX10_soonOf_15 : decode (m_code mX10_soonOf) 15 = .ok (.aload_n 0, 1) := by decide +kernel
theorem dX10_soonOf_16 : decode (m_code mX10_soonOf) 16 = .ok (.iload_n 1, 1) := by decide +kernel
theorem dX10_soonOf_17 : decode (m_code mX10_soonOf) 17 = .ok (.invokevirtual 202, 3) := by decide +kernel
theorem dX10_soonOf_20 : decode (m_code mX10_soonOf) 20 = .ok (.iastore, 1) := by decide +kernel
theorem dX10_soonOf_21 : decode (m_code mX10_soonOf) 21 = .ok (.iinc 1 1, 3) := by decide +kernel
theorem dX10_soonOf_24 : decode (m_code mX10_soonOf) 24 = .ok (.goto (-22), 3) := by decide +kernel
theorem dX10_soonOf_27 : decode (m_code mX10_soonOf) 27 = .ok (.iconst 0, 1) := by decide +kernel
theorem dX10_soonOf_28 : decode (m_code mX10_soonOf) 28 = .ok (.istore_n 1, 1) := by decide +kernel
theorem dX10_soonOf_29 : decode (m_code mX10_soonOf) 29 = .ok (.iload_n 1, 1) := by decide +kernel
theorem dX10_soonOf_30 : decode (m_code mX10_soonOf) 30 = .ok (.bipush 20, 2) := by decide +kernel
theorem dX10_soonOf_32 : decode (m_code mX10_soonOf) 32 = .ok (.if_icmp .ge 29, 3) := by decide +kernel
theorem dX10_soonOf_35 : decode (m_code mX10_soonOf) 35 = .ok (.aload_n 0, 1) := by decide +kernel
theorem dX10_soonOf_36 : decode (m_code mX10_soonOf) 36 = .ok (.iload_n 1, 1) := by decide +kernel
theorem dX10_soonOf_37 : decode (m_code mX10_soonOf) 37 = .ok (.invokevirtual 208, 3) := by decide +kernel
theorem dX10_soonOf_40 : decode (m_code mX10_soonOf) 40 = .ok (.aload_n 0, 1) := by decide +kernel
theorem dX10_soonOf_41 : decode (m_code mX10_soonOf) 41 = .ok (.invokevirtual 199, 3) := by decide +kernel
theorem dX10_soonOf_44 : decode (m_code mX10_soonOf) 44 = .ok (.aload_n 0, 1) := by decide +kernel
theorem dX10_soonOf_45 : decode (m_code mX10_soonOf) 45 = .ok (.invokevirtual 211, 3) := by decide +kernel
theorem dX10_soonOf_48 : decode (m_code mX10_soonOf) 48 = .ok (.ifCond .eq 7, 3) := by decide +kernel
theorem dX10_soonOf_51 : decode (m_code mX10_soonOf) 51 = .ok (.iload_n 1, 1) := by decide +kernel
theorem dX10_soonOf_52 : decode (m_code mX10_soonOf) 52 = .ok (.iconst 1, 1) := by decide +kernel
theorem dX10_soonOf_53 : decode (m_code mX10_soonOf) 53 = .ok (.iadd, 1) := by decide +kernel
theorem dX10_soonOf_54 : decode (m_code mX10_soonOf) 54 = .ok (.ireturn, 1) := by decide +kernel
theorem dX10_soonOf_55 : decode (m_code mX10_soonOf) 55 = .ok (.iinc 1 1, 3) := by decide +kernel
theorem dX10_soonOf_58 : decode (m_code mX10_soonOf) 58 = .ok (.goto (-29), 3) := by decide +kernel
theorem dX10_soonOf_61 : decode (m_code mX10_soonOf) 61 = .ok (.iconst (-1), 1) := by decide +kernel
theorem dX10_soonOf_62 : decode (m_code mX10_soonOf) 62 = .ok (.ireturn, 1) := by decide +kernel
theorem dX10_soon_0 : decode (m_code mX10_soon) 0 = .ok (.aload_n 0, 1) := by decide +kernel
theorem dX10_soon_1 : decode (m_code mX10_soon) 1 = .ok (.iconst 0, 1) := by decide +kernel
theorem dX10_soon_2 : decode (m_code mX10_soon) 2 = .ok (.putfield 44, 3) := by decide +kernel
theorem dX10_soon_5 : decode (m_code mX10_soon) 5 = .ok (.aload_n 0, 1) := by decide +kernel
theorem dX10_soon_6 : decode (m_code mX10_soon) 6 = .ok (.invokevirtual 214, 3) := by decide +kernel
theorem dX10_soon_9 : decode (m_code mX10_soon) 9 = .ok (.aload_n 0, 1) := by decide +kernel
theorem dX10_soon_10 : decode (m_code mX10_soon) 10 = .ok (.invokevirtual 217, 3) := by decide +kernel
theorem dX10_soon_13 : decode (m_code mX10_soon) 13 = .ok (.istore_n 1, 1) := by decide +kernel
theorem dX10_soon_14 : decode (m_code mX10_soon) 14 = .ok (.aload_n 0, 1) := by decide +kernel
theorem dX10_soon_15 : decode (m_code mX10_soon) 15 = .ok (.invokevirtual 220, 3) := by decide +kernel
theorem dX10_soon_18 : decode (m_code mX10_soon) 18 = .ok (.iload_n 1, 1) := by decide +kernel
theorem dX10_soon_19 : decode (m_code mX10_soon) 19 = .ok (.ireturn, 1) := by decide +kernel
theorem dX10_without_0 : decode (m_code mX10_without) 0 = .ok (.aload_n 0, 1) := by decide +kernel
theorem dX10_without_1 : decode (m_code mX10_without) 1 = .ok (.iconst 0, 1) := by decide +kernel
theorem dX10_without_2 : decode (m_code mX10_without) 2 = .ok (.putfield 44, 3) := by decide +kernel
theorem dX10_without_5 : decode (m_code mX10_without) 5 = .ok (.aload_n 0, 1) := by decide +kernel
theorem dX10_without_6 : decode (m_code mX10_without) 6 = .ok (.iload_n 1, 1) := by decide +kernel
theorem dX10_without_7 : decode (m_code mX10_without) 7 = .ok (.invokevirtual 71, 3) := by decide +kernel
theorem dX10_without_10 : decode (m_code mX10_without) 10 = .ok (.ifCond .ne 5, 3) := by decide +kernel
theorem dX10_without_13 : decode (m_code mX10_without) 13 = .ok (.iconst (-1), 1) := by decide +kernel
theorem dX10_without_14 : decode (m_code mX10_without) 14 = .ok (.ireturn, 1) := by decide +kernel
theorem dX10_without_15 : decode (m_code mX10_without) 15 = .ok (.aload_n 0, 1) := by decide +kernel
theorem dX10_without_16 : decode (m_code mX10_without) 16 = .ok (.invokevirtual 214, 3) := by decide +kernel
theorem dX10_without_19 : decode (m_code mX10_without) 19 = .ok (.aload_n 0, 1) := by decide +kernel
theorem dX10_without_20 : decode (m_code mX10_without) 20 = .ok (.getfield 7, 3) := by decide +kernel
theorem dX10_without_23 : decode (m_code mX10_without) 23 = .ok (.aload_n 0, 1) := by decide +kernel
theorem dX10_without_24 : decode (m_code mX10_without) 24 = .ok (.iload_n 1, 1) := by decide +kernel
theorem dX10_without_25 : decode (m_code mX10_without) 25 = .ok (.invokevirtual 54, 3) := by decide +kernel
theorem dX10_without_28 : decode (m_code mX10_without) 28 = .ok (.iconst 0, 1) := by decide +kernel
theorem dX10_without_29 : decode (m_code mX10_without) 29 = .ok (.iadd, 1) := by decide +kernel
theorem dX10_without_30 : decode (m_code mX10_without) 30 = .ok (.iconst 1, 1) := by decide +kernel
theorem dX10_without_31 : decode (m_code mX10_without) 31 = .ok (.iastore, 1) := by decide +kernel
theorem dX10_without_32 : decode (m_code mX10_without) 32 = .ok (.aload_n 0, 1) := by decide +kernel
theorem dX10_without_33 : decode (m_code mX10_without) 33 = .ok (.invokevirtual 217, 3) := by decide +kernel
theorem dX10_without_36 : decode (m_code mX10_without) 36 = .ok (.istore_n 2, 1) := by decide +kernel
theorem dX10_without_37 : decode (m_code mX10_without) 37 = .ok (.aload_n 0, 1) := by decide +kernel
theorem dX10_without_38 : decode (m_code mX10_without) 38 = .ok (.invokevirtual 220, 3) := by decide +kernel
theorem dX10_without_41 : decode (m_code mX10_without) 41 = .ok (.iload_n 2, 1) := by decide +kernel
theorem dX10_without_42 : decode (m_code mX10_without) 42 = .ok (.ireturn, 1) := by decide +kernel
theorem dX10_would_0 : decode (m_code mX10_would) 0 = .ok (.aload_n 0, 1) := by decide +kernel
theorem dX10_would_1 : decode (m_code mX10_would) 1 = .ok (.iconst 0, 1) := by decide +kernel
theorem dX10_would_2 : decode (m_code mX10_would) 2 = .ok (.putfield 44, 3) := by decide +kernel
theorem dX10_would_5 : decode (m_code mX10_would) 5 = .ok (.aload_n 0, 1) := by decide +kernel
theorem dX10_would_6 : decode (m_code mX10_would) 6 = .ok (.iload_n 1, 1) := by decide +kernel
theorem dX10_would_7 : decode (m_code mX10_would) 7 = .ok (.invokevirtual 71, 3) := by decide +kernel
theorem dX10_would_10 : decode (m_code mX10_would) 10 = .ok (.ifCond .eq 15, 3) := by decide +kernel
theorem dX10_would_13 : decode (m_code mX10_would) 13 = .ok (.iload_n 2, 1) := by decide +kernel
theorem dX10_would_14 : decode (m_code mX10_would) 14 = .ok (.ifCond .eq 11, 3) := by decide +kernel
theorem dX10_would_17 : decode (m_code mX10_would) 17 = .ok (.aload_n 0, 1) := by decide +kernel
theorem dX10_would_18 : decode (m_code mX10_would) 18 = .ok (.iload_n 2, 1) := by decide +kernel
theorem dX10_would_19 : decode (m_code mX10_would) 19 = .ok (.invokevirtual 192, 3) := by decide +kernel
theorem dX10_would_22 : decode (m_code mX10_would) 22 = .ok (.ifCond .ne 5, 3) := by decide +kernel
theorem dX10_would_25 : decode (m_code mX10_would) 25 = .ok (.iconst (-1), 1) := by decide +kernel
theorem dX10_would_26 : decode (m_code mX10_would) 26 = .ok (.ireturn, 1) := by decide +kernel
theorem dX10_would_27 : decode (m_code mX10_would) 27 = .ok (.aload_n 0, 1) := by decide +kernel
theorem dX10_would_28 : decode (m_code mX10_would) 28 = .ok (.iload_n 1, 1) := by decide +kernel
theorem dX10_would_29 : decode (m_code mX10_would) 29 = .ok (.invokevirtual 140, 3) := by decide +kernel
theorem dX10_would_32 : decode (m_code mX10_would) 32 = .ok (.ifCond .eq 5, 3) := by decide +kernel
theorem dX10_would_35 : decode (m_code mX10_would) 35 = .ok (.iconst 0, 1) := by decide +kernel
theorem dX10_would_36 : decode (m_code mX10_would) 36 = .ok (.ireturn, 1) := by decide +kernel
theorem dX10_would_37 : decode (m_code mX10_would) 37 = .ok (.aload_n 0, 1) := by decide +kernel
theorem dX10_would_38 : decode (m_code mX10_would) 38 = .ok (.invokevirtual 214, 3) := by decide +kernel
theorem dX10_would_41 : decode (m_code mX10_would) 41 = .ok (.aload_n 0, 1) := by decide +kernel
theorem dX10_would_42 : decode (m_code mX10_would) 42 = .ok (.iload_n 1, 1) := by decide +kernel
theorem dX10_would_43 : decode (m_code mX10_would) 43 = .ok (.aload_n 0, 1) := by decide +kernel
theorem dX10_would_44 : decode (m_code mX10_would) 44 = .ok (.getfield 7, 3) := by decide +kernel
theorem dX10_would_47 : decode (m_code mX10_would) 47 = .ok (.sipush 216, 3) := by decide +kernel
theorem dX10_would_50 : decode (m_code mX10_would) 50 = .ok (.iload_n 2, 1) := by decide +kernel
theorem dX10_would_51 : decode (m_code mX10_would) 51 = .ok (.iadd, 1) := by decide +kernel
theorem dX10_would_52 : decode (m_code mX10_would) 52 = .ok (.iaload, 1) := by decide +kernel
theorem dX10_would_53 : decode (m_code mX10_would) 53 = .ok (.invokevirtual 116, 3) := by decide +kernel
theorem dX10_would_56 : decode (m_code mX10_would) 56 = .ok (.aload_n 0, 1) := by decide +kernel
theorem dX10_would_57 : decode (m_code mX10_would) 57 = .ok (.iload_n 1, 1) := by decide +kernel
theorem dX10_would_58 : decode (m_code mX10_would) 58 = .ok (.iload_n 2, 1) := by decide +kernel
theorem dX10_would_59 : decode (m_code mX10_would) 59 = .ok (.invokevirtual 119, 3) := by decide +kernel
theorem dX10_would_62 : decode (m_code mX10_would) 62 = .ok (.aload_n 0, 1) := by decide +kernel
theorem dX10_would_63 : decode (m_code mX10_would) 63 = .ok (.iload_n 1, 1) := by decide +kernel
theorem dX10_would_64 : decode (m_code mX10_would) 64 = .ok (.iload_n 2, 1) := by decide +kernel
theorem dX10_would_65 : decode (m_code mX10_would) 65 = .ok (.invokevirtual 122, 3) := by decide +kernel
theorem dX10_would_68 : decode (m_code mX10_would) 68 = .ok (.ifCond .eq 16, 3) := by decide +kernel
theorem dX10_would_71 : decode (m_code mX10_would) 71 = .ok (.aload_n 0, 1) := by decide +kernel
theorem dX10_would_72 : decode (m_code mX10_would) 72 = .ok (.iload_n 1, 1) := by decide +kernel
theorem dX10_would_73 : decode (m_code mX10_would) 73 = .ok (.iload_n 2, 1) := by decide +kernel
theorem dX10_would_74 : decode (m_code mX10_would) 74 = .ok (.invokevirtual 125, 3) := by decide +kernel
theorem dX10_would_77 : decode (m_code mX10_would) 77 = .ok (.ifCond .eq 7, 3) := by decide +kernel
theorem dX10_would_80 : decode (m_code mX10_would) 80 = .ok (.iconst 1, 1) := by decide +kernel
theorem dX10_would_81 : decode (m_code mX10_would) 81 = .ok (.goto 4, 3) := by decide +kernel
theorem dX10_would_84 : decode (m_code mX10_would) 84 = .ok (.iconst 0, 1) := by decide +kernel
theorem dX10_would_85 : decode (m_code mX10_would) 85 = .ok (.istore_n 3, 1) := by decide +kernel
theorem dX10_would_86 : decode (m_code mX10_would) 86 = .ok (.aload_n 0, 1) := by decide +kernel
theorem dX10_would_87 : decode (m_code mX10_would) 87 = .ok (.invokevirtual 220, 3) := by decide +kernel
theorem dX10_would_90 : decode (m_code mX10_would) 90 = .ok (.iload_n 3, 1) := by decide +kernel
theorem dX10_would_91 : decode (m_code mX10_would) 91 = .ok (.ireturn, 1) := by decide +kernel
theorem dX10_means_0 : decode (m_code mX10_means) 0 = .ok (.iload_n 1, 1) := by decide +kernel
theorem dX10_means_1 : decode (m_code mX10_means) 1 = .ok (.sipush 250, 3) := by decide +kernel
theorem dX10_means_4 : decode (m_code mX10_means) 4 = .ok (.idiv, 1) := by decide +kernel
theorem dX10_means_5 : decode (m_code mX10_means) 5 = .ok (.istore_n 2, 1) := by decide +kernel
theorem dX10_means_6 : decode (m_code mX10_means) 6 = .ok (.iload_n 1, 1) := by decide +kernel
theorem dX10_means_7 : decode (m_code mX10_means) 7 = .ok (.bipush 50, 2) := by decide +kernel
theorem dX10_means_9 : decode (m_code mX10_means) 9 = .ok (.idiv, 1) := by decide +kernel
theorem dX10_means_10 : decode (m_code mX10_means) 10 = .ok (.iconst 5, 1) := by decide +kernel
theorem dX10_means_11 : decode (m_code mX10_means) 11 = .ok (.irem, 1) := by decide +kernel
theorem dX10_means_12 : decode (m_code mX10_means) 12 = .ok (.istore_n 3, 1) := by decide +kernel
theorem dX10_means_13 : decode (m_code mX10_means) 13 = .ok (.iload_n 3, 1) := by decide +kernel
theorem dX10_means_14 : decode (m_code mX10_means) 14 = .ok (.iconst 1, 1) := by decide +kernel
theorem dX10_means_15 : decode (m_code mX10_means) 15 = .ok (.iadd, 1) := by decide +kernel
theorem dX10_means_16 : decode (m_code mX10_means) 16 = .ok (.iconst 5, 1) := by decide +kernel
theorem dX10_means_17 : decode (m_code mX10_means) 17 = .ok (.irem, 1) := by decide +kernel
theorem dX10_means_18 : decode (m_code mX10_means) 18 = .ok (.istore 4, 2) := by decide +kernel
theorem dX10_means_20 : decode (m_code mX10_means) 20 = .ok (.iload_n 1, 1) := by decide +kernel
theorem dX10_means_21 : decode (m_code mX10_means) 21 = .ok (.bipush 50, 2) := by decide +kernel
theorem dX10_means_23 : decode (m_code mX10_means) 23 = .ok (.irem, 1) := by decide +kernel
theorem dX10_means_24 : decode (m_code mX10_means) 24 = .ok (.istore 5, 2) := by decide +kernel
theorem dX10_means_26 : decode (m_code mX10_means) 26 = .ok (.iload_n 2, 1) := by decide +kernel
theorem dX10_means_27 : decode (m_code mX10_means) 27 = .ok (.ifCond .ne 18, 3) := by decide +kernel
theorem dX10_means_30 : decode (m_code mX10_means) 30 = .ok (.aload_n 0, 1) := by decide +kernel
theorem dX10_means_31 : decode (m_code mX10_means) 31 = .ok (.getfield 25, 3) := by decide +kernel
theorem dX10_means_34 : decode (m_code mX10_means) 34 = .ok (.iload_n 3, 1) := by decide +kernel
theorem dX10_means_35 : decode (m_code mX10_means) 35 = .ok (.aload_n 0, 1) := by decide +kernel
theorem dX10_means_36 : decode (m_code mX10_means) 36 = .ok (.getfield 25, 3) := by decide +kernel
theorem dX10_means_39 : decode (m_code mX10_means) 39 = .ok (.iload_n 3, 1) := by decide +kernel
theorem dX10_means_40 : decode (m_code mX10_means) 40 = .ok (.iaload, 1) := by decide +kernel
theorem dX10_means_41 : decode (m_code mX10_means) 41 = .ok (.iload 5, 2) := by decide +kernel
theorem dX10_means_43 : decode (m_code mX10_means) 43 = .ok (.iadd, 1) := by decide +kernel
theorem dX10_means_44 : decode (m_code mX10_means) 44 = .ok (.iastore, 1) := by decide +kernel
theorem dX10_means_45 : decode (m_code mX10_means) 45 = .ok (.iload_n 2, 1) := by decide +kernel
theorem dX10_means_46 : decode (m_code mX10_means) 46 = .ok (.iconst 1, 1) := by decide +kernel
theorem dX10_means_47 : decode (m_code mX10_means) 47 = .ok (.if_icmp .ne 23, 3) := by decide +kernel
theorem dX10_means_50 : decode (m_code mX10_means) 50 = .ok (.aload_n 0, 1) := by decide +kernel
theorem dX10_means_51 : decode (m_code mX10_means) 51 = .ok (.getfield 25, 3) := by decide +kernel
theorem dX10_means_54 : decode (m_code mX10_means) 54 = .ok (.iload_n 3, 1) := by decide +kernel
theorem dX10_means_55 : decode (m_code mX10_means) 55 = .ok (.aload_n 0, 1) := by decide +kernel
theorem dX10_means_56 : decode (m_code mX10_means) 56 = .ok (.iconst 0, 1) := by decide +kernel
theorem dX10_means_57 : decode (m_code mX10_means) 57 = .ok (.aload_n 0, 1) := by decide +kernel
theorem dX10_means_58 : decode (m_code mX10_means) 58 = .ok (.getfield 25, 3) := by decide +kernel
theorem dX10_means_61 : decode (m_code mX10_means) 61 = .ok (.iload_n 3, 1) := by decide +kernel
theorem dX10_means_62 : decode (m_code mX10_means) 62 = .ok (.iaload, 1) := by decide +kernel
theorem dX10_means_63 : decode (m_code mX10_means) 63 = .ok (.iload 5, 2) := by decide +kernel
theorem dX10_means_65 : decode (m_code mX10_means) 65 = .ok (.isub, 1) := by decide +kernel
theorem dX10_means_66 : decode (m_code mX10_means) 66 = .ok (.invokevirtual 180, 3) := by decide +kernel
theorem dX10_means_69 : decode (m_code mX10_means) 69 = .ok (.iastore, 1) := by decide +kernel
theorem dX10_means_70 : decode (m_code mX10_means) 70 = .ok (.iload_n 2, 1) := by decide +kernel
theorem dX10_means_71 : decode (m_code mX10_means) 71 = .ok (.iconst 2, 1) := by decide +kernel
theorem dX10_means_72 : decode (m_code mX10_means) 72 = .ok (.if_icmp .ge 4, 3) := by decide +kernel
theorem dX10_means_75 : decode (m_code mX10_means) 75 = .ok (.return_, 1) := by decide +kernel
theorem dX10_means_76 : decode (m_code mX10_means) 76 = .ok (.iload_n 2, 1) := by decide +kernel
theorem dX10_means_77 : decode (m_code mX10_means) 77 = .ok (.iconst 2, 1) := by decide +kernel
theorem dX10_means_78 : decode (m_code mX10_means) 78 = .ok (.if_icmp .ne 7, 3) := by decide +kernel
theorem dX10_means_81 : decode (m_code mX10_means) 81 = .ok (.iload_n 3, 1) := by decide +kernel
theorem dX10_means_82 : decode (m_code mX10_means) 82 = .ok (.goto 5, 3) := by decide +kernel
theorem dX10_means_85 : decode (m_code mX10_means) 85 = .ok (.iload 4, 2) := by decide +kernel
theorem dX10_means_87 : decode (m_code mX10_means) 87 = .ok (.istore 6, 2) := by decide +kernel
theorem dX10_means_89 : decode (m_code mX10_means) 89 = .ok (.iload_n 2, 1) := by decide +kernel
theorem dX10_means_90 : decode (m_code mX10_means) 90 = .ok (.iconst 2, 1) := by decide +kernel
theorem dX10_means_91 : decode (m_code mX10_means) 91 = .ok (.if_icmp .ne 8, 3) := by decide +kernel
theorem dX10_means_94 : decode (m_code mX10_means) 94 = .ok (.iload 4, 2) := by decide +kernel
theorem dX10_means_96 : decode (m_code mX10_means) 96 = .ok (.goto 4, 3) := by decide +kernel
theorem dX10_means_99 : decode (m_code mX10_means) 99 = .ok (.iload_n 3, 1) := by decide +kernel
theorem dX10_means_100 : decode (m_code mX10_means) 100 = .ok (.istore 7, 2) := by decide +kernel
theorem dX10_means_102 : decode (m_code mX10_means) 102 = .ok (.iload_n 2, 1) := by decide +kernel
theorem dX10_means_103 : decode (m_code mX10_means) 103 = .ok (.iconst 2, 1) := by decide +kernel
theorem dX10_means_104 : decode (m_code mX10_means) 104 = .ok (.if_icmp .ne 19, 3) := by decide +kernel
theorem dX10_means_107 : decode (m_code mX10_means) 107 = .ok (.aload_n 0, 1) := by decide +kernel
theorem dX10_means_108 : decode (m_code mX10_means) 108 = .ok (.iload 5, 2) := by decide +kernel
theorem dX10_means_110 : decode (m_code mX10_means) 110 = .ok (.aload_n 0, 1) := by decide +kernel
theorem dX10_means_111 : decode (m_code mX10_means) 111 = .ok (.getfield 25, 3) := by decide +kernel
theorem dX10_means_114 : decode (m_code mX10_means) 114 = .ok (.iload 6, 2) := by decide +kernel
theorem dX10_means_116 : decode (m_code mX10_means) 116 = .ok (.iaload, 1) := by decide +kernel
theorem dX10_means_117 : decode (m_code mX10_means) 117 = .ok (.invokevirtual 223, 3) := by decide +kernel
theorem dX10_means_120 : decode (m_code mX10_means) 120 = .ok (.goto 10, 3) := by decide +kernel
theorem dX10_means_123 : decode (m_code mX10_means) 123 = .ok (.aload_n 0, 1) := by decide +kernel
theorem dX10_means_124 : decode (m_code mX10_means) 124 = .ok (.getfield 25, 3) := by decide +kernel
theorem dX10_means_127 : decode (m_code mX10_means) 127 = .ok (.iload 6, 2) := by decide +kernel
theorem dX10_means_129 : decode (m_code mX10_means) 129 = .ok (.iaload, 1) := by decide +kernel
theorem dX10_means_130 : decode (m_code mX10_means) 130 = .ok (.istore 8, 2) := by decide +kernel
theorem dX10_means_132 : decode (m_code mX10_means) 132 = .ok (.aload_n 0, 1) := by decide +kernel
theorem dX10_means_133 : decode (m_code mX10_means) 133 = .ok (.getfield 25, 3) := by decide +kernel
theorem dX10_means_136 : decode (m_code mX10_means) 136 = .ok (.iload 6, 2) := by decide +kernel
theorem dX10_means_138 : decode (m_code mX10_means) 138 = .ok (.aload_n 0, 1) := by decide +kernel
theorem dX10_means_139 : decode (m_code mX10_means) 139 = .ok (.getfield 25, 3) := by decide +kernel
theorem dX10_means_142 : decode (m_code mX10_means) 142 = .ok (.iload 6, 2) := by decide +kernel
theorem dX10_means_144 : decode (m_code mX10_means) 144 = .ok (.iaload, 1) := by decide +kernel
theorem dX10_means_145 : decode (m_code mX10_means) 145 = .ok (.iload 8, 2) := by decide +kernel
theorem dX10_means_147 : decode (m_code mX10_means) 147 = .ok (.isub, 1) := by decide +kernel
theorem dX10_means_148 : decode (m_code mX10_means) 148 = .ok (.iastore, 1) := by decide +kernel
theorem dX10_means_149 : decode (m_code mX10_means) 149 = .ok (.aload_n 0, 1) := by decide +kernel
theorem dX10_means_150 : decode (m_code mX10_means) 150 = .ok (.getfield 25, 3) := by decide +kernel
theorem dX10_means_153 : decode (m_code mX10_means) 153 = .ok (.iload 7, 2) := by decide +kernel
theorem dX10_means_155 : decode (m_code mX10_means) 155 = .ok (.aload_n 0, 1) := by decide +kernel
theorem dX10_means_156 : decode (m_code mX10_means) 156 = .ok (.getfield 25, 3) := by decide +kernel
theorem dX10_means_159 : decode (m_code mX10_means) 159 = .ok (.iload 7, 2) := by decide +kernel
theorem dX10_means_161 : decode (m_code mX10_means) 161 = .ok (.iaload, 1) := by decide +kernel
theorem dX10_means_162 : decode (m_code mX10_means) 162 = .ok (.iload 8, 2) := by decide +kernel
theorem dX10_means_164 : decode (m_code mX10_means) 164 = .ok (.iadd, 1) := by decide +kernel
theorem dX10_means_165 : decode (m_code mX10_means) 165 = .ok (.iastore, 1) := by decide +kernel
theorem dX10_means_166 : decode (m_code mX10_means) 166 = .ok (.return_, 1) := by decide +kernel
theorem dX10_atHeight_0 : decode (m_code mX10_atHeight) 0 = .ok (.iload_n 1, 1) := by decide +kernel
theorem dX10_atHeight_1 : decode (m_code mX10_atHeight) 1 = .ok (.istore_n 3, 1) := by decide +kernel
theorem dX10_atHeight_2 : decode (m_code mX10_atHeight) 2 = .ok (.aload_n 0, 1) := by decide +kernel
theorem dX10_atHeight_3 : decode (m_code mX10_atHeight) 3 = .ok (.getfield 7, 3) := by decide +kernel
theorem dX10_atHeight_6 : decode (m_code mX10_atHeight) 6 = .ok (.sipush 516, 3) := by decide +kernel
theorem dX10_atHeight_9 : decode (m_code mX10_atHeight) 9 = .ok (.iload_n 3, 1) := by decide +kernel
theorem dX10_atHeight_10 : decode (m_code mX10_atHeight) 10 = .ok (.iadd, 1) := by decide +kernel
theorem dX10_atHeight_11 : decode (m_code mX10_atHeight) 11 = .ok (.iaload, 1) := by decide +kernel
theorem dX10_atHeight_12 : decode (m_code mX10_atHeight) 12 = .ok (.iload_n 2, 1) := by decide +kernel
theorem dX10_atHeight_13 : decode (m_code mX10_atHeight) 13 = .ok (.if_icmp .le 12, 3) := by decide +kernel
theorem dX10_atHeight_16 : decode (m_code mX10_atHeight) 16 = .ok (.aload_n 0, 1) := by decide +kernel
theorem dX10_atHeight_17 : decode (m_code mX10_atHeight) 17 = .ok (.iload_n 3, 1) := by decide +kernel
theorem dX10_atHeight_18 : decode (m_code mX10_atHeight) 18 = .ok (.invokevirtual 58, 3) := by decide +kernel
theorem dX10_atHeight_21 : decode (m_code mX10_atHeight) 21 = .ok (.istore_n 3, 1) := by decide +kernel
theorem dX10_atHeight_22 : decode (m_code mX10_atHeight) 22 = .ok (.goto (-20), 3) := by decide +kernel
theorem dX10_atHeight_25 : decode (m_code mX10_atHeight) 25 = .ok (.iload_n 3, 1) := by decide +kernel
theorem dX10_atHeight_26 : decode (m_code mX10_atHeight) 26 = .ok (.ireturn, 1) := by decide +kernel
theorem dX10_ledger_0 : decode (m_code mX10_ledger) 0 = .ok (.aload_n 0, 1) := by decide +kernel
theorem dX10_ledger_1 : decode (m_code mX10_ledger) 1 = .ok (.iconst 0, 1) := by decide +kernel
theorem dX10_ledger_2 : decode (m_code mX10_ledger) 2 = .ok (.putfield 44, 3) := by decide +kernel
theorem dX10_ledger_5 : decode (m_code mX10_ledger) 5 = .ok (.aload_n 0, 1) := by decide +kernel
theorem dX10_ledger_6 : decode (m_code mX10_ledger) 6 = .ok (.iload_n 3, 1) := by decide +kernel
theorem dX10_ledger_7 : decode (m_code mX10_ledger) 7 = .ok (.iconst 0, 1) := by decide +kernel
theorem dX10_ledger_8 : decode (m_code mX10_ledger) 8 = .ok (.iconst 4, 1) := by decide +kernel
theorem dX10_ledger_9 : decode (m_code mX10_ledger) 9 = .ok (.invokevirtual 61, 3) := by decide +kernel
theorem dX10_ledger_12 : decode (m_code mX10_ledger) 12 = .ok (.ifCond .eq 26, 3) := by decide +kernel
theorem dX10_ledger_15 : decode (m_code mX10_ledger) 15 = .ok (.iload_n 2, 1) := by decide +kernel
theorem dX10_ledger_16 : decode (m_code mX10_ledger) 16 = .ok (.ifCond .eq 14, 3) := by decide +kernel
theorem dX10_ledger_19 : decode (m_code mX10_ledger) 19 = .ok (.aload_n 0, 1) := by decide +kernel
theorem dX10_ledger_20 : decode (m_code mX10_ledger) 20 = .ok (.iload_n 1, 1) := by decide +kernel
theorem dX10_ledger_21 : decode (m_code mX10_ledger) 21 = .ok (.invokevirtual 192, 3) := by decide +kernel
theorem dX10_ledger_24 : decode (m_code mX10_ledger) 24 = .ok (.ifCond .ne 16, 3) := by decide +kernel
theorem dX10_ledger_27 : decode (m_code mX10_ledger) 27 = .ok (.goto 11, 3) := by decide +kernel
theorem dX10_ledger_30 : decode (m_code mX10_ledger) 30 = .ok (.aload_n 0, 1) := by decide +kernel
theorem dX10_ledger_31 : decode (m_code mX10_ledger) 31 = .ok (.iload_n 1, 1) := by decide +kernel
theorem dX10_ledger_32 : decode (m_code mX10_ledger) 32 = .ok (.invokevirtual 71, 3) := by decide +kernel
theorem dX10_ledger_35 : decode (m_code mX10_ledger) 35 = .ok (.ifCond .ne 5, 3) := by decide +kernel
theorem dX10_ledger_38 : decode (m_code mX10_ledger) 38 = .ok (.iconst (-1), 1) := by decide +kernel
theorem dX10_ledger_39 : decode (m_code mX10_ledger) 39 = .ok (.ireturn, 1) := by decide +kernel
theorem dX10_ledger_40 : decode (m_code mX10_ledger) 40 = .ok (.iconst 0, 1) := by decide +kernel
theorem dX10_ledger_41 : decode (m_code mX10_ledger) 41 = .ok (.istore 4, 2) := by decide +kernel
theorem dX10_ledger_43 : decode (m_code mX10_ledger) 43 = .ok (.iload 4, 2) := by decide +kernel
theorem dX10_ledger_45 : decode (m_code mX10_ledger) 45 = .ok (.iconst 5, 1) := by decide +kernel
theorem dX10_ledger_46 : decode (m_code mX10_ledger) 46 = .ok (.if_icmp .ge 18, 3) := by decide +kernel
theorem dX10_ledger_49 : decode (m_code mX10_ledger) 49 = .ok (.aload_n 0, 1) := by decide +kernel
theorem dX10_ledger_50 : decode (m_code mX10_ledger) 50 = .ok (.getfield 25, 3) := by decide +kernel
theorem dX10_ledger_53 : decode (m_code mX10_ledger) 53 = .ok (.iload 4, 2) := by decide +kernel
theorem dX10_ledger_55 : decode (m_code mX10_ledger) 55 = .ok (.bipush 10, 2) := by decide +kernel
theorem dX10_ledger_57 : decode (m_code mX10_ledger) 57 = .ok (.iastore, 1) := by decide +kernel
theorem dX10_ledger_58 : decode (m_code mX10_ledger) 58 = .ok (.iinc 4 1, 3) := by decide +kernel
theorem dX10_ledger_61 : decode (m_code mX10_ledger) 61 = .ok (.goto (-18), 3) := by decide +kernel
theorem dX10_ledger_64 : decode (m_code mX10_ledger) 64 = .ok (.iload_n 2, 1) := by decide +kernel
theorem dX10_ledger_65 : decode (m_code mX10_ledger) 65 = .ok (.ifCond .eq 7, 3) := by decide +kernel
theorem dX10_ledger_68 : decode (m_code mX10_ledger) 68 = .ok (.iload_n 1, 1) := by decide +kernel
theorem dX10_ledger_69 : decode (m_code mX10_ledger) 69 = .ok (.goto 8, 3) := by decide +kernel
theorem dX10_ledger_72 : decode (m_code mX10_ledger) 72 = .ok (.aload_n 0, 1) := by decide +kernel
theorem dX10_ledger_73 : decode (m_code mX10_ledger) 73 = .ok (.iload_n 1, 1) := by decide +kernel
theorem dX10_ledger_74 : decode (m_code mX10_ledger) 74 = .ok (.invokevirtual 90, 3) := by decide +kernel
theorem dX10_ledger_77 : decode (m_code mX10_ledger) 77 = .ok (.istore 4, 2) := by decide +kernel
theorem dX10_ledger_79 : decode (m_code mX10_ledger) 79 = .ok (.iconst 0, 1) := by decide +kernel
theorem dX10_ledger_80 : decode (m_code mX10_ledger) 80 = .ok (.istore 5, 2) := by decide +kernel
theorem dX10_ledger_82 : decode (m_code mX10_ledger) 82 = .ok (.iload 5, 2) := by decide +kernel
theorem dX10_ledger_84 : decode (m_code mX10_ledger) 84 = .ok (.aload_n 0, 1) := by decide +kernel
theorem dX10_ledger_85 : decode (m_code mX10_ledger) 85 = .ok (.getfield 7, 3) := by decide +kernel
theorem dX10_ledger_88 : decode (m_code mX10_ledger) 88 = .ok (.sipush 516, 3) := by decide +kernel
theorem dX10_ledger_91 : decode (m_code mX10_ledger) 91 = .ok (.iload 4, 2) := by decide +kernel
theorem dX10_ledger_93 : decode (m_code mX10_ledger) 93 = .ok (.iadd, 1) := by decide +kernel
theorem dX10_ledger_94 : decode (m_code mX10_ledger) 94 = .ok (.iaload, 1) := by decide +kernel
theorem dX10_ledger_95 : decode (m_code mX10_ledger) 95 = .ok (.if_icmp .gt 30, 3) := by decide +kernel
theorem dX10_ledger_98 : decode (m_code mX10_ledger) 98 = .ok (.aload_n 0, 1) := by decide +kernel
theorem dX10_ledger_99 : decode (m_code mX10_ledger) 99 = .ok (.aload_n 0, 1) := by decide +kernel
theorem dX10_ledger_100 : decode (m_code mX10_ledger) 100 = .ok (.getfield 7, 3) := by decide +kernel
theorem dX10_ledger_103 : decode (m_code mX10_ledger) 103 = .ok (.sipush 316, 3) := by decide +kernel
theorem dX10_ledger_106 : decode (m_code mX10_ledger) 106 = .ok (.aload_n 0, 1) := by decide +kernel
theorem dX10_ledger_107 : decode (m_code mX10_ledger) 107 = .ok (.iload 4, 2) := by decide +kernel
theorem dX10_ledger_109 : decode (m_code mX10_ledger) 109 = .ok (.iload 5, 2) := by decide +kernel
theorem dX10_ledger_111 : decode (m_code mX10_ledger) 111 = .ok (.invokevirtual 226, 3) := by decide +kernel
theorem dX10_ledger_114 : decode (m_code mX10_ledger) 114 = .ok (.iadd, 1) := by decide +kernel
theorem dX10_ledger_115 : decode (m_code mX10_ledger) 115 = .ok (.iaload, 1) := by decide +kernel
theorem dX10_ledger_116 : decode (m_code mX10_ledger) 116 = .ok (.invokevirtual 229, 3) := by decide +kernel
theorem dX10_ledger_119 : decode (m_code mX10_ledger) 119 = .ok (.iinc 5 1, 3) := by decide +kernel
theorem dX10_ledger_122 : decode (m_code mX10_ledger) 122 = .ok (.goto (-40), 3) := by decide +kernel
theorem dX10_ledger_125 : decode (m_code mX10_ledger) 125 = .ok (.aload_n 0, 1) := by decide +kernel
theorem dX10_ledger_126 : decode (m_code mX10_ledger) 126 = .ok (.getfield 25, 3) := by decide +kernel
theorem dX10_ledger_129 : decode (m_code mX10_ledger) 129 = .ok (.iload_n 3, 1) := by decide +kernel
theorem dX10_ledger_130 : decode (m_code mX10_ledger) 130 = .ok (.iaload, 1) := by decide +kernel
theorem dX10_ledger_131 : decode (m_code mX10_ledger) 131 = .ok (.ireturn, 1) := by decide +kernel
theorem dX10_path_0 : decode (m_code mX10_path) 0 = .ok (.aload_n 0, 1) := by decide +kernel
theorem dX10_path_1 : decode (m_code mX10_path) 1 = .ok (.iconst 0, 1) := by decide +kernel
theorem dX10_path_2 : decode (m_code mX10_path) 2 = .ok (.putfield 44, 3) := by decide +kernel
theorem dX10_path_5 : decode (m_code mX10_path) 5 = .ok (.aload_n 0, 1) := by decide +kernel
theorem dX10_path_6 : decode (m_code mX10_path) 6 = .ok (.iload_n 1, 1) := by decide +kernel
theorem dX10_path_7 : decode (m_code mX10_path) 7 = .ok (.invokevirtual 192, 3) := by decide +kernel
theorem dX10_path_10 : decode (m_code mX10_path) 10 = .ok (.ifCond .eq 31, 3) := by decide +kernel
theorem dX10_path_13 : decode (m_code mX10_path) 13 = .ok (.aload_n 0, 1) := by decide +kernel
theorem dX10_path_14 : decode (m_code mX10_path) 14 = .ok (.iload_n 2, 1) := by decide +kernel
theorem dX10_path_15 : decode (m_code mX10_path) 15 = .ok (.iconst 0, 1) := by decide +kernel
theorem dX10_path_16 : decode (m_code mX10_path) 16 = .ok (.aload_n 0, 1) := by decide +kernel
theorem dX10_path_17 : decode (m_code mX10_path) 17 = .ok (.getfield 7, 3) := by decide +kernel
theorem dX10_path_20 : decode (m_code mX10_path) 20 = .ok (.sipush 516, 3) := by decide +kernel
theorem dX10_path_23 : decode (m_code mX10_path) 23 = .ok (.iload_n 1, 1) := by decide +kernel
theorem dX10_path_24 : decode (m_code mX10_path) 24 = .ok (.iadd, 1) := by decide +kernel
theorem dX10_path_25 : decode (m_code mX10_path) 25 = .ok (.iaload, 1) := by decide +kernel
theorem dX10_path_26 : decode (m_code mX10_path) 26 = .ok (.invokevirtual 61, 3) := by decide +kernel
theorem dX10_path_29 : decode (m_code mX10_path) 29 = .ok (.ifCond .eq 12, 3) := by decide +kernel
theorem dX10_path_32 : decode (m_code mX10_path) 32 = .ok (.aload_n 0, 1) := by decide +kernel
theorem dX10_path_33 : decode (m_code mX10_path) 33 = .ok (.iload_n 1, 1) := by decide +kernel
theorem dX10_path_34 : decode (m_code mX10_path) 34 = .ok (.iload_n 2, 1) := by decide +kernel
theorem dX10_path_35 : decode (m_code mX10_path) 35 = .ok (.invokevirtual 226, 3) := by decide +kernel
theorem dX10_path_38 : decode (m_code mX10_path) 38 = .ok (.goto 4, 3) := by decide +kernel
theorem dX10_path_41 : decode (m_code mX10_path) 41 = .ok (.iconst (-1), 1) := by decide +kernel
theorem dX10_path_42 : decode (m_code mX10_path) 42 = .ok (.ireturn, 1) := by decide +kernel
theorem dX10_isInLog_0 : decode (m_code mX10_isInLog) 0 = .ok (.aload_n 0, 1) := by decide +kernel
theorem dX10_isInLog_1 : decode (m_code mX10_isInLog) 1 = .ok (.aload_n 0, 1) := by decide +kernel
theorem dX10_isInLog_2 : decode (m_code mX10_isInLog) 2 = .ok (.iload_n 1, 1) := by decide +kernel
theorem dX10_isInLog_3 : decode (m_code mX10_isInLog) 3 = .ok (.invokevirtual 90, 3) := by decide +kernel
theorem dX10_isInLog_6 : decode (m_code mX10_isInLog) 6 = .ok (.iload_n 2, 1) := by decide +kernel
theorem dX10_isInLog_7 : decode (m_code mX10_isInLog) 7 = .ok (.invokevirtual 93, 3) := by decide +kernel
theorem dX10_isInLog_10 : decode (m_code mX10_isInLog) 10 = .ok (.ireturn, 1) := by decide +kernel
theorem dX10_inRow_0 : decode (m_code mX10_inRow) 0 = .ok (.iconst 1, 1) := by decide +kernel
theorem dX10_inRow_1 : decode (m_code mX10_inRow) 1 = .ok (.istore_n 2, 1) := by decide +kernel
theorem dX10_inRow_2 : decode (m_code mX10_inRow) 2 = .ok (.iload_n 1, 1) := by decide +kernel
theorem dX10_inRow_3 : decode (m_code mX10_inRow) 3 = .ok (.istore_n 3, 1) := by decide +kernel
theorem dX10_inRow_4 : decode (m_code mX10_inRow) 4 = .ok (.iload_n 3, 1) := by decide +kernel
theorem dX10_inRow_5 : decode (m_code mX10_inRow) 5 = .ok (.ifCond .eq 43, 3) := by decide +kernel
theorem dX10_inRow_8 : decode (m_code mX10_inRow) 8 = .ok (.aload_n 0, 1) := by decide +kernel
theorem dX10_inRow_9 : decode (m_code mX10_inRow) 9 = .ok (.getfield 7, 3) := by decide +kernel
theorem dX10_inRow_12 : decode (m_code mX10_inRow) 12 = .ok (.bipush 16, 2) := by decide +kernel
theorem dX10_inRow_14 : decode (m_code mX10_inRow) 14 = .ok (.aload_n 0, 1) := by decide +kernel
theorem dX10_inRow_15 : decode (m_code mX10_inRow) 15 = .ok (.iload_n 3, 1) := by decide +kernel
theorem dX10_inRow_16 : decode (m_code mX10_inRow) 16 = .ok (.invokevirtual 58, 3) := by decide +kernel
theorem dX10_inRow_19 : decode (m_code mX10_inRow) 19 = .ok (.iadd, 1) := by decide +kernel
theorem dX10_inRow_20 : decode (m_code mX10_inRow) 20 = .ok (.iaload, 1) := by decide +kernel
theorem dX10_inRow_21 : decode (m_code mX10_inRow) 21 = .ok (.aload_n 0, 1) := by decide +kernel
theorem dX10_inRow_22 : decode (m_code mX10_inRow) 22 = .ok (.getfield 7, 3) := by decide +kernel
theorem dX10_inRow_25 : decode (m_code mX10_inRow) 25 = .ok (.bipush 16, 2) := by decide +kernel
theorem dX10_inRow_27 : decode (m_code mX10_inRow) 27 = .ok (.iload_n 3, 1) := by decide +kernel
theorem dX10_inRow_28 : decode (m_code mX10_inRow) 28 = .ok (.iadd, 1) := by decide +kernel
theorem dX10_inRow_29 : decode (m_code mX10_inRow) 29 = .ok (.iaload, 1) := by decide +kernel
theorem dX10_inRow_30 : decode (m_code mX10_inRow) 30 = .ok (.iconst 1, 1) := by decide +kernel
theorem dX10_inRow_31 : decode (m_code mX10_inRow) 31 = .ok (.isub, 1) := by decide +kernel
theorem dX10_inRow_32 : decode (m_code mX10_inRow) 32 = .ok (.if_icmp .ne 16, 3) := by decide +kernel
theorem dX10_inRow_35 : decode (m_code mX10_inRow) 35 = .ok (.iload_n 2, 1) := by decide +kernel
theorem dX10_inRow_36 : decode (m_code mX10_inRow) 36 = .ok (.iconst 1, 1) := by decide +kernel
theorem dX10_inRow_37 : decode (m_code mX10_inRow) 37 = .ok (.iadd, 1) := by decide +kernel
theorem dX10_inRow_38 : decode (m_code mX10_inRow) 38 = .ok (.istore_n 2, 1) := by decide +kernel
theorem dX10_inRow_39 : decode (m_code mX10_inRow) 39 = .ok (.aload_n 0, 1) := by decide +kernel
theorem dX10_inRow_40 : decode (m_code mX10_inRow) 40 = .ok (.iload_n 3, 1) := by decide +kernel
theorem dX10_inRow_41 : decode (m_code mX10_inRow) 41 = .ok (.invokevirtual 58, 3) := by decide +kernel
theorem dX10_inRow_44 : decode (m_code mX10_inRow) 44 = .ok (.istore_n 3, 1) := by decide +kernel
theorem dX10_inRow_45 : decode (m_code mX10_inRow) 45 = .ok (.goto (-41), 3) := by decide +kernel
theorem dX10_inRow_48 : decode (m_code mX10_inRow) 48 = .ok (.iload_n 2, 1) := by decide +kernel
theorem dX10_inRow_49 : decode (m_code mX10_inRow) 49 = .ok (.ireturn, 1) := by decide +kernel
theorem dX10_payloads_0 : decode (m_code mX10_payloads) 0 = .ok (.iconst 0, 1) := by decide +kernel
theorem dX10_payloads_1 : decode (m_code mX10_payloads) 1 = .ok (.istore_n 2, 1) := by decide +kernel
theorem dX10_payloads_2 : decode (m_code mX10_payloads) 2 = .ok (.iload_n 1, 1) := by decide +kernel
theorem dX10_payloads_3 : decode (m_code mX10_payloads) 3 = .ok (.istore_n 3, 1) := by decide +kernel
theorem dX10_payloads_4 : decode (m_code mX10_payloads) 4 = .ok (.iload_n 3, 1) := by decide +kernel
theorem dX10_payloads_5 : decode (m_code mX10_payloads) 5 = .ok (.iconst (-1), 1) := by decide +kernel
theorem dX10_payloads_6 : decode (m_code mX10_payloads) 6 = .ok (.if_icmp .eq 25, 3) := by decide +kernel
theorem dX10_payloads_9 : decode (m_code mX10_payloads) 9 = .ok (.iload_n 2, 1) := by decide +kernel
theorem dX10_payloads_10 : decode (m_code mX10_payloads) 10 = .ok (.aload_n 0, 1) := by decide +kernel
theorem dX10_payloads_11 : decode (m_code mX10_payloads) 11 = .ok (.getfield 7, 3) := by decide +kernel
theorem dX10_payloads_14 : decode (m_code mX10_payloads) 14 = .ok (.sipush 316, 3) := by decide +kernel
theorem dX10_payloads_17 : decode (m_code mX10_payloads) 17 = .ok (.iload_n 3, 1) := by decide +kernel
theorem dX10_payloads_18 : decode (m_code mX10_payloads) 18 = .ok (.iadd, 1) := by decide +kernel
theorem dX10_payloads_19 : decode (m_code mX10_payloads) 19 = .ok (.iaload, 1) := by decide +kernel
theorem dX10_payloads_20 : decode (m_code mX10_payloads) 20 = .ok (.iadd, 1) := by decide +kernel
theorem dX10_payloads_21 : decode (m_code mX10_payloads) 21 = .ok (.istore_n 2, 1) := by decide +kernel
theorem dX10_payloads_22 : decode (m_code mX10_payloads) 22 = .ok (.aload_n 0, 1) := by decide +kernel
theorem dX10_payloads_23 : decode (m_code mX10_payloads) 23 = .ok (.iload_n 3, 1) := by decide +kernel
theorem dX10_payloads_24 : decode (m_code mX10_payloads) 24 = .ok (.invokevirtual 58, 3) := by decide +kernel
theorem dX10_payloads_27 : decode (m_code mX10_payloads) 27 = .ok (.istore_n 3, 1) := by decide +kernel
theorem dX10_payloads_28 : decode (m_code mX10_payloads) 28 = .ok (.goto (-24), 3) := by decide +kernel
theorem dX10_payloads_31 : decode (m_code mX10_payloads) 31 = .ok (.iload_n 2, 1) := by decide +kernel
theorem dX10_payloads_32 : decode (m_code mX10_payloads) 32 = .ok (.ireturn, 1) := by decide +kernel
theorem dX10_chain_0 : decode (m_code mX10_chain) 0 = .ok (.aload_n 0, 1) := by decide +kernel
theorem dX10_chain_1 : decode (m_code mX10_chain) 1 = .ok (.iconst 0, 1) := by decide +kernel
theorem dX10_chain_2 : decode (m_code mX10_chain) 2 = .ok (.putfield 44, 3) := by decide +kernel
theorem dX10_chain_5 : decode (m_code mX10_chain) 5 = .ok (.aload_n 0, 1) := by decide +kernel
theorem dX10_chain_6 : decode (m_code mX10_chain) 6 = .ok (.iload_n 1, 1) := by decide +kernel
theorem dX10_chain_7 : decode (m_code mX10_chain) 7 = .ok (.invokevirtual 192, 3) := by decide +kernel
theorem dX10_chain_10 : decode (m_code mX10_chain) 10 = .ok (.ifCond .eq 14, 3) := by decide +kernel
theorem dX10_chain_13 : decode (m_code mX10_chain) 13 = .ok (.aload_n 0, 1) := by decide +kernel
theorem dX10_chain_14 : decode (m_code mX10_chain) 14 = .ok (.iload_n 2, 1) := by decide +kernel
theorem dX10_chain_15 : decode (m_code mX10_chain) 15 = .ok (.iconst 0, 1) := by decide +kernel
theorem dX10_chain_16 : decode (m_code mX10_chain) 16 = .ok (.bipush 6, 2) := by decide +kernel
theorem dX10_chain_18 : decode (m_code mX10_chain) 18 = .ok (.invokevirtual 61, 3) := by decide +kernel
theorem dX10_chain_21 : decode (m_code mX10_chain) 21 = .ok (.ifCond .ne 5, 3) := by decide +kernel
theorem dX10_chain_24 : decode (m_code mX10_chain) 24 = .ok (.iconst (-1), 1) := by decide +kernel
theorem dX10_chain_25 : decode (m_code mX10_chain) 25 = .ok (.ireturn, 1) := by decide +kernel
theorem dX10_chain_26 : decode (m_code mX10_chain) 26 = .ok (.iload_n 2, 1) := by decide +kernel
theorem dX10_chain_27 : decode (m_code mX10_chain) 27 = .ok (.ifCond .ne 16, 3) := by decide +kernel
theorem dX10_chain_30 : decode (m_code mX10_chain) 30 = .ok (.aload_n 0, 1) := by decide +kernel
theorem dX10_chain_31 : decode (m_code mX10_chain) 31 = .ok (.getfield 7, 3) := by decide +kernel
theorem dX10_chain_34 : decode (m_code mX10_chain) 34 = .ok (.sipush 516, 3) := by decide +kernel
theorem dX10_chain_37 : decode (m_code mX10_chain) 37 = .ok (.iload_n 1, 1) := by decide +kernel
theorem dX10_chain_38 : decode (m_code mX10_chain) 38 = .ok (.iadd, 1) := by decide +kernel
theorem dX10_chain_39 : decode (m_code mX10_chain) 39 = .ok (.iaload, 1) := by decide +kernel
theorem dX10_chain_40 : decode (m_code mX10_chain) 40 = .ok (.iconst 1, 1) := by decide +kernel
theorem dX10_chain_41 : decode (m_code mX10_chain) 41 = .ok (.iadd, 1) := by decide +kernel
theorem dX10_chain_42 : decode (m_code mX10_chain) 42 = .ok (.ireturn, 1) := by decide +kernel
theorem dX10_chain_43 : decode (m_code mX10_chain) 43 = .ok (.iload_n 2, 1) := by decide +kernel
theorem dX10_chain_44 : decode (m_code mX10_chain) 44 = .ok (.iconst 1, 1) := by decide +kernel
theorem dX10_chain_45 : decode (m_code mX10_chain) 45 = .ok (.if_icmp .ne 9, 3) := by decide +kernel
theorem dX10_chain_48 : decode (m_code mX10_chain) 48 = .ok (.aload_n 0, 1) := by decide +kernel
theorem dX10_chain_49 : decode (m_code mX10_chain) 49 = .ok (.iload_n 1, 1) := by decide +kernel
theorem dX10_chain_50 : decode (m_code mX10_chain) 50 = .ok (.invokevirtual 232, 3) := by decide +kernel
theorem dX10_chain_53 : decode (m_code mX10_chain) 53 = .ok (.ireturn, 1) := by decide +kernel
theorem dX10_chain_54 : decode (m_code mX10_chain) 54 = .ok (.iload_n 2, 1) := by decide +kernel
theorem dX10_chain_55 : decode (m_code mX10_chain) 55 = .ok (.iconst 5, 1) := by decide +kernel
theorem dX10_chain_56 : decode (m_code mX10_chain) 56 = .ok (.if_icmp .ne 9, 3) := by decide +kernel
theorem dX10_chain_59 : decode (m_code mX10_chain) 59 = .ok (.aload_n 0, 1) := by decide +kernel
theorem dX10_chain_60 : decode (m_code mX10_chain) 60 = .ok (.iload_n 1, 1) := by decide +kernel
theorem dX10_chain_61 : decode (m_code mX10_chain) 61 = .ok (.invokevirtual 235, 3) := by decide +kernel
theorem dX10_chain_64 : decode (m_code mX10_chain) 64 = .ok (.ireturn, 1) := by decide +kernel
theorem dX10_chain_65 : decode (m_code mX10_chain) 65 = .ok (.iconst 0, 1) := by decide +kernel
theorem dX10_chain_66 : decode (m_code mX10_chain) 66 = .ok (.istore_n 3, 1) := by decide +kernel
theorem dX10_chain_67 : decode (m_code mX10_chain) 67 = .ok (.iconst 0, 1) := by decide +kernel
theorem dX10_chain_68 : decode (m_code mX10_chain) 68 = .ok (.istore 4, 2) := by decide +kernel
theorem dX10_chain_70 : decode (m_code mX10_chain) 70 = .ok (.iload_n 2, 1) := by decide +kernel
theorem dX10_chain_71 : decode (m_code mX10_chain) 71 = .ok (.iconst 2, 1) := by decide +kernel
theorem dX10_chain_72 : decode (m_code mX10_chain) 72 = .ok (.if_icmp .eq 8, 3) := by decide +kernel
theorem dX10_chain_75 : decode (m_code mX10_chain) 75 = .ok (.iload_n 2, 1) := by decide +kernel
theorem dX10_chain_76 : decode (m_code mX10_chain) 76 = .ok (.iconst 3, 1) := by decide +kernel
theorem dX10_chain_77 : decode (m_code mX10_chain) 77 = .ok (.if_icmp .ne 69, 3) := by decide +kernel
theorem dX10_chain_80 : decode (m_code mX10_chain) 80 = .ok (.iconst 0, 1) := by decide +kernel
theorem dX10_chain_81 : decode (m_code mX10_chain) 81 = .ok (.istore 5, 2) := by decide +kernel
theorem dX10_chain_83 : decode (m_code mX10_chain) 83 = .ok (.iload 5, 2) := by decide +kernel
theorem dX10_chain_85 : decode (m_code mX10_chain) 85 = .ok (.aload_n 0, 1) := by decide +kernel
theorem dX10_chain_86 : decode (m_code mX10_chain) 86 = .ok (.invokevirtual 51, 3) := by decide +kernel
theorem dX10_chain_89 : decode (m_code mX10_chain) 89 = .ok (.if_icmp .ge 45, 3) := by decide +kernel
theorem dX10_chain_92 : decode (m_code mX10_chain) 92 = .ok (.aload_n 0, 1) := by decide +kernel
theorem dX10_chain_93 : decode (m_code mX10_chain) 93 = .ok (.iload 5, 2) := by decide +kernel
theorem dX10_chain_95 : decode (m_code mX10_chain) 95 = .ok (.iload_n 1, 1) := by decide +kernel
theorem dX10_chain_96 : decode (m_code mX10_chain) 96 = .ok (.invokevirtual 93, 3) := by decide +kernel
theorem dX10_chain_99 : decode (m_code mX10_chain) 99 = .ok (.ifCond .ne 6, 3) := by decide +kernel
theorem dX10_chain_102 : decode (m_code mX10_chain) 102 = .ok (.goto 26, 3) := by decide +kernel
theorem dX10_chain_105 : decode (m_code mX10_chain) 105 = .ok (.iload_n 3, 1) := by decide +kernel
theorem dX10_chain_106 : decode (m_code mX10_chain) 106 = .ok (.iconst 1, 1) := by decide +kernel
theorem dX10_chain_107 : decode (m_code mX10_chain) 107 = .ok (.iadd, 1) := by decide +kernel
theorem dX10_chain_108 : decode (m_code mX10_chain) 108 = .ok (.istore_n 3, 1) := by decide +kernel
theorem dX10_chain_109 : decode (m_code mX10_chain) 109 = .ok (.aload_n 0, 1) := by decide +kernel
theorem dX10_chain_110 : decode (m_code mX10_chain) 110 = .ok (.iload 4, 2) := by decide +kernel
theorem dX10_chain_112 : decode (m_code mX10_chain) 112 = .ok (.aload_n 0, 1) := by decide +kernel
theorem dX10_chain_113 : decode (m_code mX10_chain) 113 = .ok (.getfield 7, 3) := by decide +kernel
theorem dX10_chain_116 : decode (m_code mX10_chain) 116 = .ok (.sipush 516, 3) := by decide +kernel
theorem dX10_chain_119 : decode (m_code mX10_chain) 119 = .ok (.iload 5, 2) := by decide +kernel
theorem dX10_chain_121 : decode (m_code mX10_chain) 121 = .ok (.iadd, 1) := by decide +kernel
theorem dX10_chain_122 : decode (m_code mX10_chain) 122 = .ok (.iaload, 1) := by decide +kernel
theorem dX10_chain_123 : decode (m_code mX10_chain) 123 = .ok (.invokevirtual 180, 3) := by decide +kernel
theorem dX10_chain_126 : decode (m_code mX10_chain) 126 = .ok (.istore 4, 2) := by decide +kernel
theorem dX10_chain_128 : decode (m_code mX10_chain) 128 = .ok (.iinc 5 1, 3) := by decide +kernel
theorem dX10_chain_131 : decode (m_code mX10_chain) 131 = .ok (.goto (-48), 3) := by decide +kernel
theorem dX10_chain_134 : decode (m_code mX10_chain) 134 = .ok (.iload_n 2, 1) := by decide +kernel
theorem dX10_chain_135 : decode (m_code mX10_chain) 135 = .ok (.iconst 2, 1) := by decide +kernel
theorem dX10_chain_136 : decode (m_code mX10_chain) 136 = .ok (.if_icmp .ne 7, 3) := by decide +kernel
theorem dX10_chain_139 : decode (m_code mX10_chain) 139 = .ok (.iload_n 3, 1) := by decide +kernel
theorem dX10_chain_140 : decode (m_code mX10_chain) 140 = .ok (.goto 5, 3) := by decide +kernel
theorem dX10_chain_143 : decode (m_code mX10_chain) 143 = .ok (.iload 4, 2) := by decide +kernel
theorem dX10_chain_145 : decode (m_code mX10_chain) 145 = .ok (.ireturn, 1) := by decide +kernel
theorem dX10_chain_146 : decode (m_code mX10_chain) 146 = .ok (.iconst 0, 1) := by decide +kernel
theorem dX10_chain_147 : decode (m_code mX10_chain) 147 = .ok (.istore 5, 2) := by decide +kernel
theorem dX10_chain_149 : decode (m_code mX10_chain) 149 = .ok (.iload 5, 2) := by decide +kernel
theorem dX10_chain_151 : decode (m_code mX10_chain) 151 = .ok (.aload_n 0, 1) := by decide +kernel
theorem dX10_chain_152 : decode (m_code mX10_chain) 152 = .ok (.invokevirtual 47, 3) := by decide +kernel
theorem dX10_chain_155 : decode (m_code mX10_chain) 155 = .ok (.if_icmp .ge 71, 3) := by decide +kernel
theorem dX10_chain_158 : decode (m_code mX10_chain) 158 = .ok (.iload_n 2, 1) := by decide +kernel
theorem dX10_chain_159 : decode (m_code mX10_chain) 159 = .ok (.iconst 4, 1) := by decide +kernel
theorem dX10_chain_160 : decode (m_code mX10_chain) 160 = .ok (.if_icmp .ne 13, 3) := by decide +kernel
theorem dX10_chain_163 : decode (m_code mX10_chain) 163 = .ok (.aload_n 0, 1) := by decide +kernel
theorem dX10_chain_164 : decode (m_code mX10_chain) 164 = .ok (.iload 5, 2) := by decide +kernel
theorem dX10_chain_166 : decode (m_code mX10_chain) 166 = .ok (.iload_n 1, 1) := by decide +kernel
theorem dX10_chain_167 : decode (m_code mX10_chain) 167 = .ok (.invokevirtual 238, 3) := by decide +kernel
theorem dX10_chain_170 : decode (m_code mX10_chain) 170 = .ok (.goto 39, 3) := by decide +kernel
theorem dX10_chain_173 : decode (m_code mX10_chain) 173 = .ok (.aload_n 0, 1) := by decide +kernel
theorem dX10_chain_174 : decode (m_code mX10_chain) 174 = .ok (.iload 5, 2) := by decide +kernel
theorem dX10_chain_176 : decode (m_code mX10_chain) 176 = .ok (.invokevirtual 140, 3) := by decide +kernel
theorem dX10_chain_179 : decode (m_code mX10_chain) 179 = .ok (.ifCond .ne 29, 3) := by decide +kernel
theorem dX10_chain_182 : decode (m_code mX10_chain) 182 = .ok (.aload_n 0, 1) := by decide +kernel
theorem dX10_chain_183 : decode (m_code mX10_chain) 183 = .ok (.aload_n 0, 1) := by decide +kernel
theorem dX10_chain_184 : decode (m_code mX10_chain) 184 = .ok (.getfield 7, 3) := by decide +kernel
theorem dX10_chain_187 : decode (m_code mX10_chain) 187 = .ok (.aload_n 0, 1) := by decide +kernel
theorem dX10_chain_188 : decode (m_code mX10_chain) 188 = .ok (.iload 5, 2) := by decide +kernel
theorem dX10_chain_190 : decode (m_code mX10_chain) 190 = .ok (.invokevirtual 54, 3) := by decide +kernel
theorem dX10_chain_193 : decode (m_code mX10_chain) 193 = .ok (.bipush 6, 2) := by decide +kernel
theorem dX10_chain_195 : decode (m_code mX10_chain) 195 = .ok (.iadd, 1) := by decide +kernel
theorem dX10_chain_196 : decode (m_code mX10_chain) 196 = .ok (.iaload, 1) := by decide +kernel
theorem dX10_chain_197 : decode (m_code mX10_chain) 197 = .ok (.iload_n 1, 1) := by decide +kernel
theorem dX10_chain_198 : decode (m_code mX10_chain) 198 = .ok (.invokevirtual 93, 3) := by decide +kernel
theorem dX10_chain_201 : decode (m_code mX10_chain) 201 = .ok (.ifCond .eq 7, 3) := by decide +kernel
theorem dX10_chain_204 : decode (m_code mX10_chain) 204 = .ok (.iconst 1, 1) := by decide +kernel
theorem dX10_chain_205 : decode (m_code mX10_chain) 205 = .ok (.goto 4, 3) := by decide +kernel
theorem dX10_chain_208 : decode (m_code mX10_chain) 208 = .ok (.iconst 0, 1) := by decide +kernel
theorem dX10_chain_209 : decode (m_code mX10_chain) 209 = .ok (.istore 6, 2) := by decide +kernel
theorem dX10_chain_211 : decode (m_code mX10_chain) 211 = .ok (.iload 6, 2) := by decide +kernel
theorem dX10_chain_213 : decode (m_code mX10_chain) 213 = .ok (.ifCond .eq 7, 3) := by decide +kernel
theorem dX10_chain_216 : decode (m_code mX10_chain) 216 = .ok (.iload_n 3, 1) := by decide +kernel
theorem dX10_chain_217 : decode (m_code mX10_chain) 217 = .ok (.iconst 1, 1) := by decide +kernel
theorem dX10_chain_218 : decode (m_code mX10_chain) 218 = .ok (.iadd, 1) := by decide +kernel
theorem dX10_chain_219 : decode (m_code mX10_chain) 219 = .ok (.istore_n 3, 1) := by decide +kernel
theorem dX10_chain_220 : decode (m_code mX10_chain) 220 = .ok (.iinc 5 1, 3) := by decide +kernel
theorem dX10_chain_223 : decode (m_code mX10_chain) 223 = .ok (.goto (-74), 3) := by decide +kernel
theorem dX10_chain_226 : decode (m_code mX10_chain) 226 = .ok (.iload_n 3, 1) := by decide +kernel
theorem dX10_chain_227 : decode (m_code mX10_chain) 227 = .ok (.ireturn, 1) := by decide +kernel
theorem dX10_two_0 : decode (m_code mX10_two) 0 = .ok (.aload_n 0, 1) := by decide +kernel
theorem dX10_two_1 : decode (m_code mX10_two) 1 = .ok (.iconst 0, 1) := by decide +kernel
theorem dX10_two_2 : decode (m_code mX10_two) 2 = .ok (.putfield 44, 3) := by decide +kernel
theorem dX10_two_5 : decode (m_code mX10_two) 5 = .ok (.aload_n 0, 1) := by decide +kernel
theorem dX10_two_6 : decode (m_code mX10_two) 6 = .ok (.iload_n 1, 1) := by decide +kernel
theorem dX10_two_7 : decode (m_code mX10_two) 7 = .ok (.invokevirtual 192, 3) := by decide +kernel
theorem dX10_two_10 : decode (m_code mX10_two) 10 = .ok (.ifCond .eq 21, 3) := by decide +kernel
theorem dX10_two_13 : decode (m_code mX10_two) 13 = .ok (.aload_n 0, 1) := by decide +kernel
theorem dX10_two_14 : decode (m_code mX10_two) 14 = .ok (.iload_n 2, 1) := by decide +kernel
theorem dX10_two_15 : decode (m_code mX10_two) 15 = .ok (.invokevirtual 192, 3) := by decide +kernel
theorem dX10_two_18 : decode (m_code mX10_two) 18 = .ok (.ifCond .eq 13, 3) := by decide +kernel
theorem dX10_two_21 : decode (m_code mX10_two) 21 = .ok (.aload_n 0, 1) := by decide +kernel
theorem dX10_two_22 : decode (m_code mX10_two) 22 = .ok (.iload_n 3, 1) := by decide +kernel
theorem dX10_two_23 : decode (m_code mX10_two) 23 = .ok (.iconst 0, 1) := by decide +kernel
theorem dX10_two_24 : decode (m_code mX10_two) 24 = .ok (.iconst 1, 1) := by decide +kernel
theorem dX10_two_25 : decode (m_code mX10_two) 25 = .ok (.invokevirtual 61, 3) := by decide +kernel
theorem dX10_two_28 : decode (m_code mX10_two) 28 = .ok (.ifCond .ne 5, 3) := by decide +kernel
theorem dX10_two_31 : decode (m_code mX10_two) 31 = .ok (.iconst (-1), 1) := by decide +kernel
theorem dX10_two_32 : decode (m_code mX10_two) 32 = .ok (.ireturn, 1) := by decide +kernel
theorem dX10_two_33 : decode (m_code mX10_two) 33 = .ok (.iload_n 3, 1) := by decide +kernel
theorem dX10_two_34 : decode (m_code mX10_two) 34 = .ok (.ifCond .ne 18, 3) := by decide +kernel
theorem dX10_two_37 : decode (m_code mX10_two) 37 = .ok (.aload_n 0, 1) := by decide +kernel
theorem dX10_two_38 : decode (m_code mX10_two) 38 = .ok (.iload_n 1, 1) := by decide +kernel
theorem dX10_two_39 : decode (m_code mX10_two) 39 = .ok (.iload_n 2, 1) := by decide +kernel
theorem dX10_two_40 : decode (m_code mX10_two) 40 = .ok (.invokevirtual 93, 3) := by decide +kernel
theorem dX10_two_43 : decode (m_code mX10_two) 43 = .ok (.ifCond .eq 7, 3) := by decide +kernel
theorem dX10_two_46 : decode (m_code mX10_two) 46 = .ok (.iconst 1, 1) := by decide +kernel
theorem dX10_two_47 : decode (m_code mX10_two) 47 = .ok (.goto 4, 3) := by decide +kernel
theorem dX10_two_50 : decode (m_code mX10_two) 50 = .ok (.iconst 0, 1) := by decide +kernel
theorem dX10_two_51 : decode (m_code mX10_two) 51 = .ok (.ireturn, 1) := by decide +kernel
theorem dX10_two_52 : decode (m_code mX10_two) 52 = .ok (.iload_n 1, 1) := by decide +kernel
theorem dX10_two_53 : decode (m_code mX10_two) 53 = .ok (.istore 4, 2) := by decide +kernel
theorem dX10_two_55 : decode (m_code mX10_two) 55 = .ok (.aload_n 0, 1) := by decide +kernel
theorem dX10_two_56 : decode (m_code mX10_two) 56 = .ok (.iload_n 2, 1) := by decide +kernel
theorem dX10_two_57 : decode (m_code mX10_two) 57 = .ok (.iload 4, 2) := by decide +kernel
theorem dX10_two_59 : decode (m_code mX10_two) 59 = .ok (.invokevirtual 93, 3) := by decide +kernel
theorem dX10_two_62 : decode (m_code mX10_two) 62 = .ok (.ifCond .ne 14, 3) := by decide +kernel
theorem dX10_two_65 : decode (m_code mX10_two) 65 = .ok (.aload_n 0, 1) := by decide +kernel
theorem dX10_two_66 : decode (m_code mX10_two) 66 = .ok (.iload 4, 2) := by decide +kernel
theorem dX10_two_68 : decode (m_code mX10_two) 68 = .ok (.invokevirtual 58, 3) := by decide +kernel
theorem dX10_two_71 : decode (m_code mX10_two) 71 = .ok (.istore 4, 2) := by decide +kernel
theorem dX10_two_73 : decode (m_code mX10_two) 73 = .ok (.goto (-18), 3) := by decide +kernel
theorem dX10_two_76 : decode (m_code mX10_two) 76 = .ok (.iload 4, 2) := by decide +kernel
theorem dX10_two_78 : decode (m_code mX10_two) 78 = .ok (.ireturn, 1) := by decide +kernel
theorem dX10_unlikeLogs_0 : decode (m_code mX10_unlikeLogs) 0 = .ok (.iconst 0, 1) := by decide +kernel
theorem dX10_unlikeLogs_1 : decode (m_code mX10_unlikeLogs) 1 = .ok (.istore_n 1, 1) := by decide +kernel
theorem dX10_unlikeLogs_2 : decode (m_code mX10_unlikeLogs) 2 = .ok (.iload_n 1, 1) := by decide +kernel
theorem dX10_unlikeLogs_3 : decode (m_code mX10_unlikeLogs) 3 = .ok (.aload_n 0, 1) := by decide +kernel
theorem dX10_unlikeLogs_4 : decode (m_code mX10_unlikeLogs) 4 = .ok (.invokevirtual 47, 3) := by decide +kernel
theorem dX10_unlikeLogs_7 : decode (m_code mX10_unlikeLogs) 7 = .ok (.if_icmp .ge 77, 3) := by decide +kernel
theorem dX10_unlikeLogs_10 : decode (m_code mX10_unlikeLogs) 10 = .ok (.iconst 0, 1) := by decide +kernel
theorem dX10_unlikeLogs_11 : decode (m_code mX10_unlikeLogs) 11 = .ok (.istore_n 2, 1) := by decide +kernel
theorem dX10_unlikeLogs_12 : decode (m_code mX10_unlikeLogs) 12 = .ok (.iload_n 2, 1) := by decide +kernel
theorem dX10_unlikeLogs_13 : decode (m_code mX10_unlikeLogs) 13 = .ok (.iload_n 1, 1) := by decide +kernel
theorem dX10_unlikeLogs_14 : decode (m_code mX10_unlikeLogs) 14 = .ok (.if_icmp .ge 64, 3) := by decide +kernel
theorem dX10_unlikeLogs_17 : decode (m_code mX10_unlikeLogs) 17 = .ok (.aload_n 0, 1) := by decide +kernel
theorem dX10_unlikeLogs_18 : decode (m_code mX10_unlikeLogs) 18 = .ok (.iload_n 1, 1) := by decide +kernel
theorem dX10_unlikeLogs_19 : decode (m_code mX10_unlikeLogs) 19 = .ok (.invokevirtual 140, 3) := by decide +kernel
theorem dX10_unlikeLogs_22 : decode (m_code mX10_unlikeLogs) 22 = .ok (.ifCond .ne 50, 3) := by decide +kernel
theorem dX10_unlikeLogs_25 : decode (m_code mX10_unlikeLogs) 25 = .ok (.aload_n 0, 1) := by decide +kernel
theorem dX10_unlikeLogs_26 : decode (m_code mX10_unlikeLogs) 26 = .ok (.iload_n 2, 1) := by decide +kernel
theorem dX10_unlikeLogs_27 : decode (m_code mX10_unlikeLogs) 27 = .ok (.invokevirtual 140, 3) := by decide +kernel
theorem dX10_unlikeLogs_30 : decode (m_code mX10_unlikeLogs) 30 = .ok (.ifCond .eq 6, 3) := by decide +kernel
theorem dX10_unlikeLogs_33 : decode (m_code mX10_unlikeLogs) 33 = .ok (.goto 39, 3) := by decide +kernel
theorem dX10_unlikeLogs_36 : decode (m_code mX10_unlikeLogs) 36 = .ok (.aload_n 0, 1) := by decide +kernel
theorem dX10_unlikeLogs_37 : decode (m_code mX10_unlikeLogs) 37 = .ok (.aload_n 0, 1) := by decide +kernel
theorem dX10_unlikeLogs_38 : decode (m_code mX10_unlikeLogs) 38 = .ok (.iload_n 1, 1) := by decide +kernel
theorem dX10_unlikeLogs_39 : decode (m_code mX10_unlikeLogs) 39 = .ok (.invokevirtual 90, 3) := by decide +kernel
theorem dX10_unlikeLogs_42 : decode (m_code mX10_unlikeLogs) 42 = .ok (.aload_n 0, 1) := by decide +kernel
theorem dX10_unlikeLogs_43 : decode (m_code mX10_unlikeLogs) 43 = .ok (.iload_n 2, 1) := by decide +kernel
theorem dX10_unlikeLogs_44 : decode (m_code mX10_unlikeLogs) 44 = .ok (.invokevirtual 90, 3) := by decide +kernel
theorem dX10_unlikeLogs_47 : decode (m_code mX10_unlikeLogs) 47 = .ok (.invokevirtual 93, 3) := by decide +kernel
theorem dX10_unlikeLogs_50 : decode (m_code mX10_unlikeLogs) 50 = .ok (.ifCond .ne 22, 3) := by decide +kernel
theorem dX10_unlikeLogs_53 : decode (m_code mX10_unlikeLogs) 53 = .ok (.aload_n 0, 1) := by decide +kernel
theorem dX10_unlikeLogs_54 : decode (m_code mX10_unlikeLogs) 54 = .ok (.aload_n 0, 1) := by decide +kernel
theorem dX10_unlikeLogs_55 : decode (m_code mX10_unlikeLogs) 55 = .ok (.iload_n 2, 1) := by decide +kernel
theorem dX10_unlikeLogs_56 : decode (m_code mX10_unlikeLogs) 56 = .ok (.invokevirtual 90, 3) := by decide +kernel
theorem dX10_unlikeLogs_59 : decode (m_code mX10_unlikeLogs) 59 = .ok (.aload_n 0, 1) := by decide +kernel
theorem dX10_unlikeLogs_60 : decode (m_code mX10_unlikeLogs) 60 = .ok (.iload_n 1, 1) := by decide +kernel
theorem dX10_unlikeLogs_61 : decode (m_code mX10_unlikeLogs) 61 = .ok (.invokevirtual 90, 3) := by decide +kernel
theorem dX10_unlikeLogs_64 : decode (m_code mX10_unlikeLogs) 64 = .ok (.invokevirtual 93, 3) := by decide +kernel
theorem dX10_unlikeLogs_67 : decode (m_code mX10_unlikeLogs) 67 = .ok (.ifCond .ne 5, 3) := by decide +kernel
theorem dX10_unlikeLogs_70 : decode (m_code mX10_unlikeLogs) 70 = .ok (.iconst 1, 1) := by decide +kernel
theorem dX10_unlikeLogs_71 : decode (m_code mX10_unlikeLogs) 71 = .ok (.ireturn, 1) := by decide +kernel
theorem dX10_unlikeLogs_72 : decode (m_code mX10_unlikeLogs) 72 = .ok (.iinc 2 1, 3) := by decide +kernel
theorem dX10_unlikeLogs_75 : decode (m_code mX10_unlikeLogs) 75 = .ok (.goto (-63), 3) := by decide +kernel
theorem dX10_unlikeLogs_78 : decode (m_code mX10_unlikeLogs) 78 = .ok (.iinc 1 1, 3) := by decide +kernel
theorem dX10_unlikeLogs_81 : decode (m_code mX10_unlikeLogs) 81 = .ok (.goto (-79), 3) := by decide +kernel
theorem dX10_unlikeLogs_84 : decode (m_code mX10_unlikeLogs) 84 = .ok (.iconst 0, 1) := by decide +kernel
theorem dX10_unlikeLogs_85 : decode (m_code mX10_unlikeLogs) 85 = .ok (.ireturn, 1) := by decide +kernel
theorem dX10_twins_0 : decode (m_code mX10_twins) 0 = .ok (.iconst 0, 1) := by decide +kernel
theorem dX10_twins_1 : decode (m_code mX10_twins) 1 = .ok (.istore_n 1, 1) := by decide +kernel
theorem dX10_twins_2 : decode (m_code mX10_twins) 2 = .ok (.iconst 0, 1) := by decide +kernel
theorem dX10_twins_3 : decode (m_code mX10_twins) 3 = .ok (.istore_n 2, 1) := by decide +kernel
theorem dX10_twins_4 : decode (m_code mX10_twins) 4 = .ok (.iload_n 2, 1) := by decide +kernel
theorem dX10_twins_5 : decode (m_code mX10_twins) 5 = .ok (.aload_n 0, 1) := by decide +kernel
theorem dX10_twins_6 : decode (m_code mX10_twins) 6 = .ok (.invokevirtual 51, 3) := by decide +kernel
theorem dX10_twins_9 : decode (m_code mX10_twins) 9 = .ok (.if_icmp .ge 63, 3) := by decide +kernel
theorem dX10_twins_12 : decode (m_code mX10_twins) 12 = .ok (.iconst 0, 1) := by decide +kernel
theorem dX10_twins_13 : decode (m_code mX10_twins) 13 = .ok (.istore_n 3, 1) := by decide +kernel
theorem dX10_twins_14 : decode (m_code mX10_twins) 14 = .ok (.iload_n 3, 1) := by decide +kernel
theorem dX10_twins_15 : decode (m_code mX10_twins) 15 = .ok (.iload_n 2, 1) := by decide +kernel
theorem dX10_twins_16 : decode (m_code mX10_twins) 16 = .ok (.if_icmp .ge 50, 3) := by decide +kernel
theorem dX10_twins_19 : decode (m_code mX10_twins) 19 = .ok (.aload_n 0, 1) := by decide +kernel
theorem dX10_twins_20 : decode (m_code mX10_twins) 20 = .ok (.iload_n 2, 1) := by decide +kernel
theorem dX10_twins_21 : decode (m_code mX10_twins) 21 = .ok (.invokevirtual 189, 3) := by decide +kernel
theorem dX10_twins_24 : decode (m_code mX10_twins) 24 = .ok (.ifCond .eq 36, 3) := by decide +kernel
theorem dX10_twins_27 : decode (m_code mX10_twins) 27 = .ok (.aload_n 0, 1) := by decide +kernel
theorem dX10_twins_28 : decode (m_code mX10_twins) 28 = .ok (.iload_n 3, 1) := by decide +kernel
theorem dX10_twins_29 : decode (m_code mX10_twins) 29 = .ok (.invokevirtual 189, 3) := by decide +kernel
theorem dX10_twins_32 : decode (m_code mX10_twins) 32 = .ok (.ifCond .eq 28, 3) := by decide +kernel
theorem dX10_twins_35 : decode (m_code mX10_twins) 35 = .ok (.aload_n 0, 1) := by decide +kernel
theorem dX10_twins_36 : decode (m_code mX10_twins) 36 = .ok (.getfield 7, 3) := by decide +kernel
theorem dX10_twins_39 : decode (m_code mX10_twins) 39 = .ok (.bipush 16, 2) := by decide +kernel
theorem dX10_twins_41 : decode (m_code mX10_twins) 41 = .ok (.iload_n 2, 1) := by decide +kernel
theorem dX10_twins_42 : decode (m_code mX10_twins) 42 = .ok (.iadd, 1) := by decide +kernel
theorem dX10_twins_43 : decode (m_code mX10_twins) 43 = .ok (.iaload, 1) := by decide +kernel
theorem dX10_twins_44 : decode (m_code mX10_twins) 44 = .ok (.aload_n 0, 1) := by decide +kernel
theorem dX10_twins_45 : decode (m_code mX10_twins) 45 = .ok (.getfield 7, 3) := by decide +kernel
theorem dX10_twins_48 : decode (m_code mX10_twins) 48 = .ok (.bipush 16, 2) := by decide +kernel
theorem dX10_twins_50 : decode (m_code mX10_twins) 50 = .ok (.iload_n 3, 1) := by decide +kernel
theorem dX10_twins_51 : decode (m_code mX10_twins) 51 = .ok (.iadd, 1) := by decide +kernel
theorem dX10_twins_52 : decode (m_code mX10_twins) 52 = .ok (.iaload, 1) := by decide +kernel
theorem dX10_twins_53 : decode (m_code mX10_twins) 53 = .ok (.if_icmp .ne 7, 3) := by decide +kernel
theorem dX10_twins_56 : decode (m_code mX10_twins) 56 = .ok (.iload_n 1, 1) := by decide +kernel
theorem dX10_twins_57 : decode (m_code mX10_twins) 57 = .ok (.iconst 1, 1) := by decide +kernel
theorem dX10_twins_58 : decode (m_code mX10_twins) 58 = .ok (.iadd, 1) := by decide +kernel
theorem dX10_twins_59 : decode (m_code mX10_twins) 59 = .ok (.istore_n 1, 1) := by decide +kernel
theorem dX10_twins_60 : decode (m_code mX10_twins) 60 = .ok (.iinc 3 1, 3) := by decide +kernel
theorem dX10_twins_63 : decode (m_code mX10_twins) 63 = .ok (.goto (-49), 3) := by decide +kernel
theorem dX10_twins_66 : decode (m_code mX10_twins) 66 = .ok (.iinc 2 1, 3) := by decide +kernel
theorem dX10_twins_69 : decode (m_code mX10_twins) 69 = .ok (.goto (-65), 3) := by decide +kernel
theorem dX10_twins_72 : decode (m_code mX10_twins) 72 = .ok (.iload_n 1, 1) := by decide +kernel
theorem dX10_twins_73 : decode (m_code mX10_twins) 73 = .ok (.ireturn, 1) := by decide +kernel
theorem dX10_accused_0 : decode (m_code mX10_accused) 0 = .ok (.iconst 0, 1) := by decide +kernel
theorem dX10_accused_1 : decode (m_code mX10_accused) 1 = .ok (.istore_n 1, 1) := by decide +kernel
theorem dX10_accused_2 : decode (m_code mX10_accused) 2 = .ok (.iconst 0, 1) := by decide +kernel
theorem dX10_accused_3 : decode (m_code mX10_accused) 3 = .ok (.istore_n 2, 1) := by decide +kernel
theorem dX10_accused_4 : decode (m_code mX10_accused) 4 = .ok (.iload_n 2, 1) := by decide +kernel
theorem dX10_accused_5 : decode (m_code mX10_accused) 5 = .ok (.aload_n 0, 1) := by decide +kernel
theorem dX10_accused_6 : decode (m_code mX10_accused) 6 = .ok (.getfield 7, 3) := by decide +kernel
theorem dX10_accused_9 : decode (m_code mX10_accused) 9 = .ok (.bipush 7, 2) := by decide +kernel
theorem dX10_accused_11 : decode (m_code mX10_accused) 11 = .ok (.iaload, 1) := by decide +kernel
theorem dX10_accused_12 : decode (m_code mX10_accused) 12 = .ok (.if_icmp .ge 28, 3) := by decide +kernel
theorem dX10_accused_15 : decode (m_code mX10_accused) 15 = .ok (.iload_n 1, 1) := by decide +kernel
theorem dX10_accused_16 : decode (m_code mX10_accused) 16 = .ok (.iconst 1, 1) := by decide +kernel
theorem dX10_accused_17 : decode (m_code mX10_accused) 17 = .ok (.aload_n 0, 1) := by decide +kernel
theorem dX10_accused_18 : decode (m_code mX10_accused) 18 = .ok (.getfield 7, 3) := by decide +kernel
theorem dX10_accused_21 : decode (m_code mX10_accused) 21 = .ok (.sipush 1816, 3) := by decide +kernel
theorem dX10_accused_24 : decode (m_code mX10_accused) 24 = .ok (.iconst 5, 1) := by decide +kernel
theorem dX10_accused_25 : decode (m_code mX10_accused) 25 = .ok (.iload_n 2, 1) := by decide +kernel
theorem dX10_accused_26 : decode (m_code mX10_accused) 26 = .ok (.imul, 1) := by decide +kernel
theorem dX10_accused_27 : decode (m_code mX10_accused) 27 = .ok (.iadd, 1) := by decide +kernel
theorem dX10_accused_28 : decode (m_code mX10_accused) 28 = .ok (.iconst 1, 1) := by decide +kernel
theorem dX10_accused_29 : decode (m_code mX10_accused) 29 = .ok (.iadd, 1) := by decide +kernel
theorem dX10_accused_30 : decode (m_code mX10_accused) 30 = .ok (.iaload, 1) := by decide +kernel
theorem dX10_accused_31 : decode (m_code mX10_accused) 31 = .ok (.ishl, 1) := by decide +kernel
theorem dX10_accused_32 : decode (m_code mX10_accused) 32 = .ok (.ior, 1) := by decide +kernel
theorem dX10_accused_33 : decode (m_code mX10_accused) 33 = .ok (.istore_n 1, 1) := by decide +kernel
theorem dX10_accused_34 : decode (m_code mX10_accused) 34 = .ok (.iinc 2 1, 3) := by decide +kernel
theorem dX10_accused_37 : decode (m_code mX10_accused) 37 = .ok (.goto (-33), 3) := by decide +kernel
theorem dX10_accused_40 : decode (m_code mX10_accused) 40 = .ok (.aload_n 0, 1) := by decide +kernel
theorem dX10_accused_41 : decode (m_code mX10_accused) 41 = .ok (.iload_n 1, 1) := by decide +kernel
theorem dX10_accused_42 : decode (m_code mX10_accused) 42 = .ok (.invokevirtual 131, 3) := by decide +kernel
theorem dX10_accused_45 : decode (m_code mX10_accused) 45 = .ok (.ireturn, 1) := by decide +kernel
theorem dX10_inCommon_0 : decode (m_code mX10_inCommon) 0 = .ok (.iconst (-1), 1) := by decide +kernel
theorem dX10_inCommon_1 : decode (m_code mX10_inCommon) 1 = .ok (.istore_n 1, 1) := by decide +kernel
theorem dX10_inCommon_2 : decode (m_code mX10_inCommon) 2 = .ok (.iconst 0, 1) := by decide +kernel
theorem dX10_inCommon_3 : decode (m_code mX10_inCommon) 3 = .ok (.istore_n 2, 1) := by decide +kernel
theorem dX10_inCommon_4 : decode (m_code mX10_inCommon) 4 = .ok (.iload_n 2, 1) := by decide +kernel
theorem dX10_inCommon_5 : decode (m_code mX10_inCommon) 5 = .ok (.aload_n 0, 1) := by decide +kernel
theorem dX10_inCommon_6 : decode (m_code mX10_inCommon) 6 = .ok (.invokevirtual 47, 3) := by decide +kernel
theorem dX10_inCommon_9 : decode (m_code mX10_inCommon) 9 = .ok (.if_icmp .ge 49, 3) := by decide +kernel
theorem dX10_inCommon_12 : decode (m_code mX10_inCommon) 12 = .ok (.aload_n 0, 1) := by decide +kernel
theorem dX10_inCommon_13 : decode (m_code mX10_inCommon) 13 = .ok (.iload_n 2, 1) := by decide +kernel
theorem dX10_inCommon_14 : decode (m_code mX10_inCommon) 14 = .ok (.invokevirtual 140, 3) := by decide +kernel
theorem dX10_inCommon_17 : decode (m_code mX10_inCommon) 17 = .ok (.ifCond .eq 6, 3) := by decide +kernel
theorem dX10_inCommon_20 : decode (m_code mX10_inCommon) 20 = .ok (.goto 32, 3) := by decide +kernel
theorem dX10_inCommon_23 : decode (m_code mX10_inCommon) 23 = .ok (.iload_n 1, 1) := by decide +kernel
theorem dX10_inCommon_24 : decode (m_code mX10_inCommon) 24 = .ok (.iconst (-1), 1) := by decide +kernel
theorem dX10_inCommon_25 : decode (m_code mX10_inCommon) 25 = .ok (.if_icmp .ne 9, 3) := by decide +kernel
theorem dX10_inCommon_28 : decode (m_code mX10_inCommon) 28 = .ok (.aload_n 0, 1) := by decide +kernel
theorem dX10_inCommon_29 : decode (m_code mX10_inCommon) 29 = .ok (.iload_n 2, 1) := by decide +kernel
theorem dX10_inCommon_30 : decode (m_code mX10_inCommon) 30 = .ok (.invokevirtual 90, 3) := by decide +kernel
theorem dX10_inCommon_33 : decode (m_code mX10_inCommon) 33 = .ok (.istore_n 1, 1) := by decide +kernel
theorem dX10_inCommon_34 : decode (m_code mX10_inCommon) 34 = .ok (.aload_n 0, 1) := by decide +kernel
theorem dX10_inCommon_35 : decode (m_code mX10_inCommon) 35 = .ok (.iload_n 2, 1) := by decide +kernel
theorem dX10_inCommon_36 : decode (m_code mX10_inCommon) 36 = .ok (.iload_n 1, 1) := by decide +kernel
theorem dX10_inCommon_37 : decode (m_code mX10_inCommon) 37 = .ok (.invokevirtual 238, 3) := by decide +kernel
theorem dX10_inCommon_40 : decode (m_code mX10_inCommon) 40 = .ok (.ifCond .ne 12, 3) := by decide +kernel
theorem dX10_inCommon_43 : decode (m_code mX10_inCommon) 43 = .ok (.aload_n 0, 1) := by decide +kernel
theorem dX10_inCommon_44 : decode (m_code mX10_inCommon) 44 = .ok (.iload_n 1, 1) := by decide +kernel
theorem dX10_inCommon_45 : decode (m_code mX10_inCommon) 45 = .ok (.invokevirtual 58, 3) := by decide +kernel
theorem dX10_inCommon_48 : decode (m_code mX10_inCommon) 48 = .ok (.istore_n 1, 1) := by decide +kernel
theorem dX10_inCommon_49 : decode (m_code mX10_inCommon) 49 = .ok (.goto (-15), 3) := by decide +kernel
theorem dX10_inCommon_52 : decode (m_code mX10_inCommon) 52 = .ok (.iinc 2 1, 3) := by decide +kernel
theorem dX10_inCommon_55 : decode (m_code mX10_inCommon) 55 = .ok (.goto (-51), 3) := by decide +kernel
theorem dX10_inCommon_58 : decode (m_code mX10_inCommon) 58 = .ok (.iload_n 1, 1) := by decide +kernel
theorem dX10_inCommon_59 : decode (m_code mX10_inCommon) 59 = .ok (.iconst (-1), 1) := by decide +kernel
theorem dX10_inCommon_60 : decode (m_code mX10_inCommon) 60 = .ok (.if_icmp .ne 7, 3) := by decide +kernel
theorem dX10_inCommon_63 : decode (m_code mX10_inCommon) 63 = .ok (.iconst 0, 1) := by decide +kernel
theorem dX10_inCommon_64 : decode (m_code mX10_inCommon) 64 = .ok (.goto 15, 3) := by decide +kernel
theorem dX10_inCommon_67 : decode (m_code mX10_inCommon) 67 = .ok (.aload_n 0, 1) := by decide +kernel
theorem dX10_inCommon_68 : decode (m_code mX10_inCommon) 68 = .ok (.getfield 7, 3) := by decide +kernel
theorem dX10_inCommon_71 : decode (m_code mX10_inCommon) 71 = .ok (.sipush 516, 3) := by decide +kernel
theorem dX10_inCommon_74 : decode (m_code mX10_inCommon) 74 = .ok (.iload_n 1, 1) := by decide +kernel
theorem dX10_inCommon_75 : decode (m_code mX10_inCommon) 75 = .ok (.iadd, 1) := by decide +kernel
theorem dX10_inCommon_76 : decode (m_code mX10_inCommon) 76 = .ok (.iaload, 1) := by decide +kernel
theorem dX10_inCommon_77 : decode (m_code mX10_inCommon) 77 = .ok (.iconst 1, 1) := by decide +kernel
theorem dX10_inCommon_78 : decode (m_code mX10_inCommon) 78 = .ok (.iadd, 1) := by decide +kernel
theorem dX10_inCommon_79 : decode (m_code mX10_inCommon) 79 = .ok (.ireturn, 1) := by decide +kernel
theorem dX10_longest_0 : decode (m_code mX10_longest) 0 = .ok (.iconst 0, 1) := by decide +kernel
theorem dX10_longest_1 : decode (m_code mX10_longest) 1 = .ok (.istore_n 1, 1) := by decide +kernel
theorem dX10_longest_2 : decode (m_code mX10_longest) 2 = .ok (.iconst 0, 1) := by decide +kernel
theorem dX10_longest_3 : decode (m_code mX10_longest) 3 = .ok (.istore_n 2, 1) := by decide +kernel
theorem dX10_longest_4 : decode (m_code mX10_longest) 4 = .ok (.iload_n 2, 1) := by decide +kernel
theorem dX10_longest_5 : decode (m_code mX10_longest) 5 = .ok (.aload_n 0, 1) := by decide +kernel
theorem dX10_longest_6 : decode (m_code mX10_longest) 6 = .ok (.invokevirtual 47, 3) := by decide +kernel
theorem dX10_longest_9 : decode (m_code mX10_longest) 9 = .ok (.if_icmp .ge 20, 3) := by decide +kernel
theorem dX10_longest_12 : decode (m_code mX10_longest) 12 = .ok (.aload_n 0, 1) := by decide +kernel
theorem dX10_longest_13 : decode (m_code mX10_longest) 13 = .ok (.iload_n 1, 1) := by decide +kernel
theorem dX10_longest_14 : decode (m_code mX10_longest) 14 = .ok (.aload_n 0, 1) := by decide +kernel
theorem dX10_longest_15 : decode (m_code mX10_longest) 15 = .ok (.iload_n 2, 1) := by decide +kernel
theorem dX10_longest_16 : decode (m_code mX10_longest) 16 = .ok (.invokevirtual 202, 3) := by decide +kernel
theorem dX10_longest_19 : decode (m_code mX10_longest) 19 = .ok (.invokevirtual 180, 3) := by decide +kernel
theorem dX10_longest_22 : decode (m_code mX10_longest) 22 = .ok (.istore_n 1, 1) := by decide +kernel
theorem dX10_longest_23 : decode (m_code mX10_longest) 23 = .ok (.iinc 2 1, 3) := by decide +kernel
theorem dX10_longest_26 : decode (m_code mX10_longest) 26 = .ok (.goto (-22), 3) := by decide +kernel
theorem dX10_longest_29 : decode (m_code mX10_longest) 29 = .ok (.iload_n 1, 1) := by decide +kernel
theorem dX10_longest_30 : decode (m_code mX10_longest) 30 = .ok (.ireturn, 1) := by decide +kernel
theorem dX10_strays_0 : decode (m_code mX10_strays) 0 = .ok (.iconst 0, 1) := by decide +kernel
theorem dX10_strays_1 : decode (m_code mX10_strays) 1 = .ok (.istore_n 1, 1) := by decide +kernel
theorem dX10_strays_2 : decode (m_code mX10_strays) 2 = .ok (.iconst 0, 1) := by decide +kernel
theorem dX10_strays_3 : decode (m_code mX10_strays) 3 = .ok (.istore_n 2, 1) := by decide +kernel
theorem dX10_strays_4 : decode (m_code mX10_strays) 4 = .ok (.iload_n 2, 1) := by decide +kernel
theorem dX10_strays_5 : decode (m_code mX10_strays) 5 = .ok (.aload_n 0, 1) := by decide +kernel
theorem dX10_strays_6 : decode (m_code mX10_strays) 6 = .ok (.invokevirtual 51, 3) := by decide +kernel
theorem dX10_strays_9 : decode (m_code mX10_strays) 9 = .ok (.if_icmp .ge 63, 3) := by decide +kernel
theorem dX10_strays_12 : decode (m_code mX10_strays) 12 = .ok (.iconst 1, 1) := by decide +kernel
theorem dX10_strays_13 : decode (m_code mX10_strays) 13 = .ok (.istore_n 3, 1) := by decide +kernel
theorem dX10_strays_14 : decode (m_code mX10_strays) 14 = .ok (.iconst 0, 1) := by decide +kernel
theorem dX10_strays_15 : decode (m_code mX10_strays) 15 = .ok (.istore 4, 2) := by decide +kernel
theorem dX10_strays_17 : decode (m_code mX10_strays) 17 = .ok (.iload 4, 2) := by decide +kernel
theorem dX10_strays_19 : decode (m_code mX10_strays) 19 = .ok (.aload_n 0, 1) := by decide +kernel
theorem dX10_strays_20 : decode (m_code mX10_strays) 20 = .ok (.invokevirtual 47, 3) := by decide +kernel
theorem dX10_strays_23 : decode (m_code mX10_strays) 23 = .ok (.if_icmp .ge 35, 3) := by decide +kernel
theorem dX10_strays_26 : decode (m_code mX10_strays) 26 = .ok (.aload_n 0, 1) := by decide +kernel
theorem dX10_strays_27 : decode (m_code mX10_strays) 27 = .ok (.iload 4, 2) := by decide +kernel
theorem dX10_strays_29 : decode (m_code mX10_strays) 29 = .ok (.iload_n 2, 1) := by decide +kernel
theorem dX10_strays_30 : decode (m_code mX10_strays) 30 = .ok (.invokevirtual 238, 3) := by decide +kernel
theorem dX10_strays_33 : decode (m_code mX10_strays) 33 = .ok (.ifCond .ne 17, 3) := by decide +kernel
theorem dX10_strays_36 : decode (m_code mX10_strays) 36 = .ok (.aload_n 0, 1) := by decide +kernel
theorem dX10_strays_37 : decode (m_code mX10_strays) 37 = .ok (.iload_n 2, 1) := by decide +kernel
theorem dX10_strays_38 : decode (m_code mX10_strays) 38 = .ok (.aload_n 0, 1) := by decide +kernel
theorem dX10_strays_39 : decode (m_code mX10_strays) 39 = .ok (.iload 4, 2) := by decide +kernel
theorem dX10_strays_41 : decode (m_code mX10_strays) 41 = .ok (.invokevirtual 90, 3) := by decide +kernel
theorem dX10_strays_44 : decode (m_code mX10_strays) 44 = .ok (.invokevirtual 93, 3) := by decide +kernel
theorem dX10_strays_47 : decode (m_code mX10_strays) 47 = .ok (.ifCond .eq 5, 3) := by decide +kernel
theorem dX10_strays_50 : decode (m_code mX10_strays) 50 = .ok (.iconst 0, 1) := by decide +kernel
theorem dX10_strays_51 : decode (m_code mX10_strays) 51 = .ok (.istore_n 3, 1) := by decide +kernel
theorem dX10_strays_52 : decode (m_code mX10_strays) 52 = .ok (.iinc 4 1, 3) := by decide +kernel
theorem dX10_strays_55 : decode (m_code mX10_strays) 55 = .ok (.goto (-38), 3) := by decide +kernel
theorem dX10_strays_58 : decode (m_code mX10_strays) 58 = .ok (.iload_n 3, 1) := by decide +kernel
theorem dX10_strays_59 : decode (m_code mX10_strays) 59 = .ok (.ifCond .eq 7, 3) := by decide +kernel
theorem dX10_strays_62 : decode (m_code mX10_strays) 62 = .ok (.iload_n 1, 1) := by decide +kernel
theorem dX10_strays_63 : decode (m_code mX10_strays) 63 = .ok (.iconst 1, 1) := by decide +kernel
theorem dX10_strays_64 : decode (m_code mX10_strays) 64 = .ok (.iadd, 1) := by decide +kernel
theorem dX10_strays_65 : decode (m_code mX10_strays) 65 = .ok (.istore_n 1, 1) := by decide +kernel
theorem dX10_strays_66 : decode (m_code mX10_strays) 66 = .ok (.iinc 2 1, 3) := by decide +kernel
theorem dX10_strays_69 : decode (m_code mX10_strays) 69 = .ok (.goto (-65), 3) := by decide +kernel
theorem dX10_strays_72 : decode (m_code mX10_strays) 72 = .ok (.iload_n 1, 1) := by decide +kernel
theorem dX10_strays_73 : decode (m_code mX10_strays) 73 = .ok (.ireturn, 1) := by decide +kernel
theorem dX10_audit_0 : decode (m_code mX10_audit) 0 = .ok (.aload_n 0, 1) := by decide +kernel
theorem dX10_audit_1 : decode (m_code mX10_audit) 1 = .ok (.iconst 0, 1) := by decide +kernel
theorem dX10_audit_2 : decode (m_code mX10_audit) 2 = .ok (.putfield 44, 3) := by decide +kernel
theorem dX10_audit_5 : decode (m_code mX10_audit) 5 = .ok (.iload_n 1, 1) := by decide +kernel
theorem dX10_audit_6 : decode (m_code mX10_audit) 6 = .ok (.ifCond .ne 8, 3) := by decide +kernel
theorem dX10_audit_9 : decode (m_code mX10_audit) 9 = .ok (.aload_n 0, 1) := by decide +kernel
theorem dX10_audit_10 : decode (m_code mX10_audit) 10 = .ok (.invokevirtual 241, 3) := by decide +kernel
theorem dX10_audit_13 : decode (m_code mX10_audit) 13 = .ok (.ireturn, 1) := by decide +kernel
theorem dX10_audit_14 : decode (m_code mX10_audit) 14 = .ok (.iload_n 1, 1) := by decide +kernel
theorem dX10_audit_15 : decode (m_code mX10_audit) 15 = .ok (.iconst 1, 1) := by decide +kernel
theorem dX10_audit_16 : decode (m_code mX10_audit) 16 = .ok (.if_icmp .ne 8, 3) := by decide +kernel
theorem dX10_audit_19 : decode (m_code mX10_audit) 19 = .ok (.aload_n 0, 1) := by decide +kernel
theorem dX10_audit_20 : decode (m_code mX10_audit) 20 = .ok (.invokevirtual 244, 3) := by decide +kernel
theorem dX10_audit_23 : decode (m_code mX10_audit) 23 = .ok (.ireturn, 1) := by decide +kernel
theorem dX10_audit_24 : decode (m_code mX10_audit) 24 = .ok (.iload_n 1, 1) := by decide +kernel
theorem dX10_audit_25 : decode (m_code mX10_audit) 25 = .ok (.iconst 2, 1) := by decide +kernel
theorem dX10_audit_26 : decode (m_code mX10_audit) 26 = .ok (.if_icmp .ne 8, 3) := by decide +kernel
theorem dX10_audit_29 : decode (m_code mX10_audit) 29 = .ok (.aload_n 0, 1) := by decide +kernel
theorem dX10_audit_30 : decode (m_code mX10_audit) 30 = .ok (.invokevirtual 247, 3) := by decide +kernel
theorem dX10_audit_33 : decode (m_code mX10_audit) 33 = .ok (.ireturn, 1) := by decide +kernel
theorem dX10_audit_34 : decode (m_code mX10_audit) 34 = .ok (.iload_n 1, 1) := by decide +kernel
theorem dX10_audit_35 : decode (m_code mX10_audit) 35 = .ok (.iconst 3, 1) := by decide +kernel
theorem dX10_audit_36 : decode (m_code mX10_audit) 36 = .ok (.if_icmp .ne 10, 3) := by decide +kernel
theorem dX10_audit_39 : decode (m_code mX10_audit) 39 = .ok (.aload_n 0, 1) := by decide +kernel
theorem dX10_audit_40 : decode (m_code mX10_audit) 40 = .ok (.invokevirtual 250, 3) := by decide +kernel
theorem dX10_audit_43 : decode (m_code mX10_audit) 43 = .ok (.goto 16, 3) := by decide +kernel
theorem dX10_audit_46 : decode (m_code mX10_audit) 46 = .ok (.iload_n 1, 1) := by decide +kernel
theorem dX10_audit_47 : decode (m_code mX10_audit) 47 = .ok (.iconst 4, 1) := by decide +kernel
theorem dX10_audit_48 : decode (m_code mX10_audit) 48 = .ok (.if_icmp .ne 10, 3) := by decide +kernel
theorem dX10_audit_51 : decode (m_code mX10_audit) 51 = .ok (.aload_n 0, 1) := by decide +kernel
theorem dX10_audit_52 : decode (m_code mX10_audit) 52 = .ok (.invokevirtual 253, 3) := by decide +kernel
theorem dX10_audit_55 : decode (m_code mX10_audit) 55 = .ok (.goto 4, 3) := by decide +kernel
theorem dX10_audit_58 : decode (m_code mX10_audit) 58 = .ok (.iconst (-1), 1) := by decide +kernel
theorem dX10_audit_59 : decode (m_code mX10_audit) 59 = .ok (.ireturn, 1) := by decide +kernel
theorem dX10_ofNode_0 : decode (m_code mX10_ofNode) 0 = .ok (.iload_n 2, 1) := by decide +kernel
theorem dX10_ofNode_1 : decode (m_code mX10_ofNode) 1 = .ok (.iconst 1, 1) := by decide +kernel
theorem dX10_ofNode_2 : decode (m_code mX10_ofNode) 2 = .ok (.if_icmp .ne 19, 3) := by decide +kernel
theorem dX10_ofNode_5 : decode (m_code mX10_ofNode) 5 = .ok (.aload_n 0, 1) := by decide +kernel
theorem dX10_ofNode_6 : decode (m_code mX10_ofNode) 6 = .ok (.getfield 7, 3) := by decide +kernel
theorem dX10_ofNode_9 : decode (m_code mX10_ofNode) 9 = .ok (.aload_n 0, 1) := by decide +kernel
theorem dX10_ofNode_10 : decode (m_code mX10_ofNode) 10 = .ok (.iload_n 1, 1) := by decide +kernel
theorem dX10_ofNode_11 : decode (m_code mX10_ofNode) 11 = .ok (.invokevirtual 54, 3) := by decide +kernel
theorem dX10_ofNode_14 : decode (m_code mX10_ofNode) 14 = .ok (.bipush 6, 2) := by decide +kernel
theorem dX10_ofNode_16 : decode (m_code mX10_ofNode) 16 = .ok (.iadd, 1) := by decide +kernel
theorem dX10_ofNode_17 : decode (m_code mX10_ofNode) 17 = .ok (.iaload, 1) := by decide +kernel
theorem dX10_ofNode_18 : decode (m_code mX10_ofNode) 18 = .ok (.goto 28, 3) := by decide +kernel
theorem dX10_ofNode_21 : decode (m_code mX10_ofNode) 21 = .ok (.iload_n 2, 1) := by decide +kernel
theorem dX10_ofNode_22 : decode (m_code mX10_ofNode) 22 = .ok (.iconst 2, 1) := by decide +kernel
theorem dX10_ofNode_23 : decode (m_code mX10_ofNode) 23 = .ok (.if_icmp .ne 18, 3) := by decide +kernel
theorem dX10_ofNode_26 : decode (m_code mX10_ofNode) 26 = .ok (.aload_n 0, 1) := by decide +kernel
theorem dX10_ofNode_27 : decode (m_code mX10_ofNode) 27 = .ok (.getfield 7, 3) := by decide +kernel
theorem dX10_ofNode_30 : decode (m_code mX10_ofNode) 30 = .ok (.aload_n 0, 1) := by decide +kernel
theorem dX10_ofNode_31 : decode (m_code mX10_ofNode) 31 = .ok (.iload_n 1, 1) := by decide +kernel
theorem dX10_ofNode_32 : decode (m_code mX10_ofNode) 32 = .ok (.invokevirtual 54, 3) := by decide +kernel
theorem dX10_ofNode_35 : decode (m_code mX10_ofNode) 35 = .ok (.iconst 5, 1) := by decide +kernel
theorem dX10_ofNode_36 : decode (m_code mX10_ofNode) 36 = .ok (.iadd, 1) := by decide +kernel
theorem dX10_ofNode_37 : decode (m_code mX10_ofNode) 37 = .ok (.iaload, 1) := by decide +kernel
theorem dX10_ofNode_38 : decode (m_code mX10_ofNode) 38 = .ok (.goto 8, 3) := by decide +kernel
theorem dX10_ofNode_41 : decode (m_code mX10_ofNode) 41 = .ok (.aload_n 0, 1) := by decide +kernel
theorem dX10_ofNode_42 : decode (m_code mX10_ofNode) 42 = .ok (.iload_n 1, 1) := by decide +kernel
theorem dX10_ofNode_43 : decode (m_code mX10_ofNode) 43 = .ok (.invokevirtual 90, 3) := by decide +kernel
theorem dX10_ofNode_46 : decode (m_code mX10_ofNode) 46 = .ok (.ireturn, 1) := by decide +kernel
theorem dX10_rankOf_0 : decode (m_code mX10_rankOf) 0 = .ok (.iload_n 2, 1) := by decide +kernel
theorem dX10_rankOf_1 : decode (m_code mX10_rankOf) 1 = .ok (.iconst 2, 1) := by decide +kernel
theorem dX10_rankOf_2 : decode (m_code mX10_rankOf) 2 = .ok (.if_icmp .ne 16, 3) := by decide +kernel
theorem dX10_rankOf_5 : decode (m_code mX10_rankOf) 5 = .ok (.aload_n 0, 1) := by decide +kernel
theorem dX10_rankOf_6 : decode (m_code mX10_rankOf) 6 = .ok (.getfield 7, 3) := by decide +kernel
theorem dX10_rankOf_9 : decode (m_code mX10_rankOf) 9 = .ok (.bipush 16, 2) := by decide +kernel
theorem dX10_rankOf_11 : decode (m_code mX10_rankOf) 11 = .ok (.iload_n 1, 1) := by decide +kernel
theorem dX10_rankOf_12 : decode (m_code mX10_rankOf) 12 = .ok (.iadd, 1) := by decide +kernel
theorem dX10_rankOf_13 : decode (m_code mX10_rankOf) 13 = .ok (.iaload, 1) := by decide +kernel
theorem dX10_rankOf_14 : decode (m_code mX10_rankOf) 14 = .ok (.ineg, 1) := by decide +kernel
theorem dX10_rankOf_15 : decode (m_code mX10_rankOf) 15 = .ok (.goto 30, 3) := by decide +kernel
theorem dX10_rankOf_18 : decode (m_code mX10_rankOf) 18 = .ok (.iload_n 2, 1) := by decide +kernel
theorem dX10_rankOf_19 : decode (m_code mX10_rankOf) 19 = .ok (.iconst 3, 1) := by decide +kernel
theorem dX10_rankOf_20 : decode (m_code mX10_rankOf) 20 = .ok (.if_icmp .ne 16, 3) := by decide +kernel
theorem dX10_rankOf_23 : decode (m_code mX10_rankOf) 23 = .ok (.aload_n 0, 1) := by decide +kernel
theorem dX10_rankOf_24 : decode (m_code mX10_rankOf) 24 = .ok (.getfield 7, 3) := by decide +kernel
theorem dX10_rankOf_27 : decode (m_code mX10_rankOf) 27 = .ok (.sipush 516, 3) := by decide +kernel
theorem dX10_rankOf_30 : decode (m_code mX10_rankOf) 30 = .ok (.iload_n 1, 1) := by decide +kernel
theorem dX10_rankOf_31 : decode (m_code mX10_rankOf) 31 = .ok (.iadd, 1) := by decide +kernel
theorem dX10_rankOf_32 : decode (m_code mX10_rankOf) 32 = .ok (.iaload, 1) := by decide +kernel
theorem dX10_rankOf_33 : decode (m_code mX10_rankOf) 33 = .ok (.goto 12, 3) := by decide +kernel
theorem dX10_rankOf_36 : decode (m_code mX10_rankOf) 36 = .ok (.aload_n 0, 1) := by decide +kernel
theorem dX10_rankOf_37 : decode (m_code mX10_rankOf) 37 = .ok (.getfield 7, 3) := by decide +kernel
theorem dX10_rankOf_40 : decode (m_code mX10_rankOf) 40 = .ok (.bipush 16, 2) := by decide +kernel
theorem dX10_rankOf_42 : decode (m_code mX10_rankOf) 42 = .ok (.iload_n 1, 1) := by decide +kernel
theorem dX10_rankOf_43 : decode (m_code mX10_rankOf) 43 = .ok (.iadd, 1) := by decide +kernel
theorem dX10_rankOf_44 : decode (m_code mX10_rankOf) 44 = .ok (.iaload, 1) := by decide +kernel
theorem dX10_rankOf_45 : decode (m_code mX10_rankOf) 45 = .ok (.ireturn, 1) := by decide +kernel
theorem dX10_best_0 : decode (m_code mX10_best) 0 = .ok (.aload_n 0, 1) := by decide +kernel
theorem dX10_best_1 : decode (m_code mX10_best) 1 = .ok (.iconst 0, 1) := by decide +kernel
theorem dX10_best_2 : decode (m_code mX10_best) 2 = .ok (.putfield 44, 3) := by decide +kernel
theorem dX10_best_5 : decode (m_code mX10_best) 5 = .ok (.aload_n 0, 1) := by decide +kernel
theorem dX10_best_6 : decode (m_code mX10_best) 6 = .ok (.iload_n 1, 1) := by decide +kernel
theorem dX10_best_7 : decode (m_code mX10_best) 7 = .ok (.iconst 0, 1) := by decide +kernel
theorem dX10_best_8 : decode (m_code mX10_best) 8 = .ok (.iconst 3, 1) := by decide +kernel
theorem dX10_best_9 : decode (m_code mX10_best) 9 = .ok (.invokevirtual 61, 3) := by decide +kernel
theorem dX10_best_12 : decode (m_code mX10_best) 12 = .ok (.ifCond .ne 5, 3) := by decide +kernel
theorem dX10_best_15 : decode (m_code mX10_best) 15 = .ok (.iconst (-1), 1) := by decide +kernel
theorem dX10_best_16 : decode (m_code mX10_best) 16 = .ok (.ireturn, 1) := by decide +kernel
theorem dX10_best_17 : decode (m_code mX10_best) 17 = .ok (.iconst (-1), 1) := by decide +kernel
theorem dX10_best_18 : decode (m_code mX10_best) 18 = .ok (.istore_n 2, 1) := by decide +kernel
theorem dX10_best_19 : decode (m_code mX10_best) 19 = .ok (.iconst 0, 1) := by decide +kernel
theorem dX10_best_20 : decode (m_code mX10_best) 20 = .ok (.istore_n 3, 1) := by decide +kernel
theorem dX10_best_21 : decode (m_code mX10_best) 21 = .ok (.iload_n 3, 1) := by decide +kernel
theorem dX10_best_22 : decode (m_code mX10_best) 22 = .ok (.iload_n 1, 1) := by decide +kernel
theorem dX10_best_23 : decode (m_code mX10_best) 23 = .ok (.ifCond .ne 10, 3) := by decide +kernel
theorem dX10_best_26 : decode (m_code mX10_best) 26 = .ok (.aload_n 0, 1) := by decide +kernel
theorem dX10_best_27 : decode (m_code mX10_best) 27 = .ok (.invokevirtual 51, 3) := by decide +kernel
theorem dX10_best_30 : decode (m_code mX10_best) 30 = .ok (.goto 7, 3) := by decide +kernel
theorem dX10_best_33 : decode (m_code mX10_best) 33 = .ok (.aload_n 0, 1) := by decide +kernel
theorem dX10_best_34 : decode (m_code mX10_best) 34 = .ok (.invokevirtual 47, 3) := by decide +kernel
theorem dX10_best_37 : decode (m_code mX10_best) 37 = .ok (.if_icmp .ge 97, 3) := by decide +kernel
theorem dX10_best_40 : decode (m_code mX10_best) 40 = .ok (.iload_n 1, 1) := by decide +kernel
theorem dX10_best_41 : decode (m_code mX10_best) 41 = .ok (.ifCond .ne 14, 3) := by decide +kernel
theorem dX10_best_44 : decode (m_code mX10_best) 44 = .ok (.aload_n 0, 1) := by decide +kernel
theorem dX10_best_45 : decode (m_code mX10_best) 45 = .ok (.iload_n 3, 1) := by decide +kernel
theorem dX10_best_46 : decode (m_code mX10_best) 46 = .ok (.invokevirtual 189, 3) := by decide +kernel
theorem dX10_best_49 : decode (m_code mX10_best) 49 = .ok (.ifCond .ne 17, 3) := by decide +kernel
theorem dX10_best_52 : decode (m_code mX10_best) 52 = .ok (.goto 76, 3) := by decide +kernel
theorem dX10_best_55 : decode (m_code mX10_best) 55 = .ok (.aload_n 0, 1) := by decide +kernel
theorem dX10_best_56 : decode (m_code mX10_best) 56 = .ok (.iload_n 3, 1) := by decide +kernel
theorem dX10_best_57 : decode (m_code mX10_best) 57 = .ok (.invokevirtual 140, 3) := by decide +kernel
theorem dX10_best_60 : decode (m_code mX10_best) 60 = .ok (.ifCond .eq 6, 3) := by decide +kernel
theorem dX10_best_63 : decode (m_code mX10_best) 63 = .ok (.goto 65, 3) := by decide +kernel
theorem dX10_best_66 : decode (m_code mX10_best) 66 = .ok (.iload_n 1, 1) := by decide +kernel
theorem dX10_best_67 : decode (m_code mX10_best) 67 = .ok (.ifCond .ne 7, 3) := by decide +kernel
theorem dX10_best_70 : decode (m_code mX10_best) 70 = .ok (.iload_n 3, 1) := by decide +kernel
theorem dX10_best_71 : decode (m_code mX10_best) 71 = .ok (.goto 9, 3) := by decide +kernel
theorem dX10_best_74 : decode (m_code mX10_best) 74 = .ok (.aload_n 0, 1) := by decide +kernel
theorem dX10_best_75 : decode (m_code mX10_best) 75 = .ok (.iload_n 3, 1) := by decide +kernel
theorem dX10_best_76 : decode (m_code mX10_best) 76 = .ok (.iload_n 1, 1) := by decide +kernel
theorem dX10_best_77 : decode (m_code mX10_best) 77 = .ok (.invokevirtual 256, 3) := by decide +kernel
theorem dX10_best_80 : decode (m_code mX10_best) 80 = .ok (.istore 4, 2) := by decide +kernel
theorem dX10_best_82 : decode (m_code mX10_best) 82 = .ok (.iload_n 2, 1) := by decide +kernel
theorem dX10_best_83 : decode (m_code mX10_best) 83 = .ok (.iconst (-1), 1) := by decide +kernel
theorem dX10_best_84 : decode (m_code mX10_best) 84 = .ok (.if_icmp .eq 41, 3) := by decide +kernel
theorem dX10_best_87 : decode (m_code mX10_best) 87 = .ok (.aload_n 0, 1) := by decide +kernel
theorem dX10_best_88 : decode (m_code mX10_best) 88 = .ok (.iload 4, 2) := by decide +kernel
theorem dX10_best_90 : decode (m_code mX10_best) 90 = .ok (.iload_n 1, 1) := by decide +kernel
theorem dX10_best_91 : decode (m_code mX10_best) 91 = .ok (.invokevirtual 259, 3) := by decide +kernel
theorem dX10_best_94 : decode (m_code mX10_best) 94 = .ok (.aload_n 0, 1) := by decide +kernel
theorem dX10_best_95 : decode (m_code mX10_best) 95 = .ok (.iload_n 2, 1) := by decide +kernel
theorem dX10_best_96 : decode (m_code mX10_best) 96 = .ok (.iload_n 1, 1) := by decide +kernel
theorem dX10_best_97 : decode (m_code mX10_best) 97 = .ok (.invokevirtual 259, 3) := by decide +kernel
theorem dX10_best_100 : decode (m_code mX10_best) 100 = .ok (.if_icmp .gt 25, 3) := by decide +kernel
theorem dX10_best_103 : decode (m_code mX10_best) 103 = .ok (.aload_n 0, 1) := by decide +kernel
theorem dX10_best_104 : decode (m_code mX10_best) 104 = .ok (.iload 4, 2) := by decide +kernel
theorem dX10_best_106 : decode (m_code mX10_best) 106 = .ok (.iload_n 1, 1) := by decide +kernel
theorem dX10_best_107 : decode (m_code mX10_best) 107 = .ok (.invokevirtual 259, 3) := by decide +kernel
theorem dX10_best_110 : decode (m_code mX10_best) 110 = .ok (.aload_n 0, 1) := by decide +kernel
theorem dX10_best_111 : decode (m_code mX10_best) 111 = .ok (.iload_n 2, 1) := by decide +kernel
theorem dX10_best_112 : decode (m_code mX10_best) 112 = .ok (.iload_n 1, 1) := by decide +kernel
theorem dX10_best_113 : decode (m_code mX10_best) 113 = .ok (.invokevirtual 259, 3) := by decide +kernel
theorem dX10_best_116 : decode (m_code mX10_best) 116 = .ok (.if_icmp .ne 12, 3) := by decide +kernel
theorem dX10_best_119 : decode (m_code mX10_best) 119 = .ok (.iload 4, 2) := by decide +kernel
theorem dX10_best_121 : decode (m_code mX10_best) 121 = .ok (.iload_n 2, 1) := by decide +kernel
theorem dX10_best_122 : decode (m_code mX10_best) 122 = .ok (.if_icmp .ge 6, 3) := by decide +kernel
theorem dX10_best_125 : decode (m_code mX10_best) 125 = .ok (.iload 4, 2) := by decide +kernel
theorem dX10_best_127 : decode (m_code mX10_best) 127 = .ok (.istore_n 2, 1) := by decide +kernel
theorem dX10_best_128 : decode (m_code mX10_best) 128 = .ok (.iinc 3 1, 3) := by decide +kernel
theorem dX10_best_131 : decode (m_code mX10_best) 131 = .ok (.goto (-110), 3) := by decide +kernel
theorem dX10_best_134 : decode (m_code mX10_best) 134 = .ok (.iload_n 2, 1) := by decide +kernel
theorem dX10_best_135 : decode (m_code mX10_best) 135 = .ok (.ireturn, 1) := by decide +kernel
theorem dX10_node_0 : decode (m_code mX10_node) 0 = .ok (.aload_n 0, 1) := by decide +kernel
theorem dX10_node_1 : decode (m_code mX10_node) 1 = .ok (.iconst 0, 1) := by decide +kernel
theorem dX10_node_2 : decode (m_code mX10_node) 2 = .ok (.putfield 44, 3) := by decide +kernel
theorem dX10_node_5 : decode (m_code mX10_node) 5 = .ok (.aload_n 0, 1) := by decide +kernel
theorem dX10_node_6 : decode (m_code mX10_node) 6 = .ok (.iload_n 1, 1) := by decide +kernel
theorem dX10_node_7 : decode (m_code mX10_node) 7 = .ok (.invokevirtual 71, 3) := by decide +kernel
theorem dX10_node_10 : decode (m_code mX10_node) 10 = .ok (.ifCond .eq 14, 3) := by decide +kernel
theorem dX10_node_13 : decode (m_code mX10_node) 13 = .ok (.aload_n 0, 1) := by decide +kernel
theorem dX10_node_14 : decode (m_code mX10_node) 14 = .ok (.iload_n 2, 1) := by decide +kernel
theorem dX10_node_15 : decode (m_code mX10_node) 15 = .ok (.iconst 0, 1) := by decide +kernel
theorem dX10_node_16 : decode (m_code mX10_node) 16 = .ok (.bipush 12, 2) := by decide +kernel
theorem dX10_node_18 : decode (m_code mX10_node) 18 = .ok (.invokevirtual 61, 3) := by decide +kernel
theorem dX10_node_21 : decode (m_code mX10_node) 21 = .ok (.ifCond .ne 5, 3) := by decide +kernel
theorem dX10_node_24 : decode (m_code mX10_node) 24 = .ok (.iconst (-1), 1) := by decide +kernel
theorem dX10_node_25 : decode (m_code mX10_node) 25 = .ok (.ireturn, 1) := by decide +kernel
theorem dX10_node_26 : decode (m_code mX10_node) 26 = .ok (.aload_n 0, 1) := by decide +kernel
theorem dX10_node_27 : decode (m_code mX10_node) 27 = .ok (.iload_n 1, 1) := by decide +kernel
theorem dX10_node_28 : decode (m_code mX10_node) 28 = .ok (.invokevirtual 54, 3) := by decide +kernel
theorem dX10_node_31 : decode (m_code mX10_node) 31 = .ok (.istore_n 3, 1) := by decide +kernel
theorem dX10_node_32 : decode (m_code mX10_node) 32 = .ok (.iload_n 2, 1) := by decide +kernel
theorem dX10_node_33 : decode (m_code mX10_node) 33 = .ok (.iconst 1, 1) := by decide +kernel
theorem dX10_node_34 : decode (m_code mX10_node) 34 = .ok (.if_icmp .ne 9, 3) := by decide +kernel
theorem dX10_node_37 : decode (m_code mX10_node) 37 = .ok (.aload_n 0, 1) := by decide +kernel
theorem dX10_node_38 : decode (m_code mX10_node) 38 = .ok (.iload_n 1, 1) := by decide +kernel
theorem dX10_node_39 : decode (m_code mX10_node) 39 = .ok (.invokevirtual 104, 3) := by decide +kernel
theorem dX10_node_42 : decode (m_code mX10_node) 42 = .ok (.ireturn, 1) := by decide +kernel
theorem dX10_node_43 : decode (m_code mX10_node) 43 = .ok (.iload_n 2, 1) := by decide +kernel
theorem dX10_node_44 : decode (m_code mX10_node) 44 = .ok (.bipush 8, 2) := by decide +kernel
theorem dX10_node_46 : decode (m_code mX10_node) 46 = .ok (.if_icmp .ne 9, 3) := by decide +kernel
theorem dX10_node_49 : decode (m_code mX10_node) 49 = .ok (.aload_n 0, 1) := by decide +kernel
theorem dX10_node_50 : decode (m_code mX10_node) 50 = .ok (.iload_n 1, 1) := by decide +kernel
theorem dX10_node_51 : decode (m_code mX10_node) 51 = .ok (.invokevirtual 202, 3) := by decide +kernel
theorem dX10_node_54 : decode (m_code mX10_node) 54 = .ok (.ireturn, 1) := by decide +kernel
theorem dX10_node_55 : decode (m_code mX10_node) 55 = .ok (.iload_n 2, 1) := by decide +kernel
theorem dX10_node_56 : decode (m_code mX10_node) 56 = .ok (.bipush 9, 2) := by decide +kernel
theorem dX10_node_58 : decode (m_code mX10_node) 58 = .ok (.if_icmp .ne 9, 3) := by decide +kernel
theorem dX10_node_61 : decode (m_code mX10_node) 61 = .ok (.aload_n 0, 1) := by decide +kernel
theorem dX10_node_62 : decode (m_code mX10_node) 62 = .ok (.iload_n 1, 1) := by decide +kernel
theorem dX10_node_63 : decode (m_code mX10_node) 63 = .ok (.invokevirtual 90, 3) := by decide +kernel
theorem dX10_node_66 : decode (m_code mX10_node) 66 = .ok (.ireturn, 1) := by decide +kernel
theorem dX10_node_67 : decode (m_code mX10_node) 67 = .ok (.iload_n 2, 1) := by decide +kernel
theorem dX10_node_68 : decode (m_code mX10_node) 68 = .ok (.bipush 10, 2) := by decide +kernel
theorem dX10_node_70 : decode (m_code mX10_node) 70 = .ok (.if_icmp .ne 13, 3) := by decide +kernel
theorem dX10_node_73 : decode (m_code mX10_node) 73 = .ok (.aload_n 0, 1) := by decide +kernel
theorem dX10_node_74 : decode (m_code mX10_node) 74 = .ok (.getfield 7, 3) := by decide +kernel
theorem dX10_node_77 : decode (m_code mX10_node) 77 = .ok (.iload_n 3, 1) := by decide +kernel
theorem dX10_node_78 : decode (m_code mX10_node) 78 = .ok (.bipush 9, 2) := by decide +kernel
theorem dX10_node_80 : decode (m_code mX10_node) 80 = .ok (.iadd, 1) := by decide +kernel
theorem dX10_node_81 : decode (m_code mX10_node) 81 = .ok (.iaload, 1) := by decide +kernel
theorem dX10_node_82 : decode (m_code mX10_node) 82 = .ok (.ireturn, 1) := by decide +kernel
theorem dX10_node_83 : decode (m_code mX10_node) 83 = .ok (.iload_n 2, 1) := by decide +kernel
theorem dX10_node_84 : decode (m_code mX10_node) 84 = .ok (.bipush 11, 2) := by decide +kernel
theorem dX10_node_86 : decode (m_code mX10_node) 86 = .ok (.if_icmp .ne 17, 3) := by decide +kernel
theorem dX10_node_89 : decode (m_code mX10_node) 89 = .ok (.aload_n 0, 1) := by decide +kernel
theorem dX10_node_90 : decode (m_code mX10_node) 90 = .ok (.iload_n 1, 1) := by decide +kernel
theorem dX10_node_91 : decode (m_code mX10_node) 91 = .ok (.invokevirtual 173, 3) := by decide +kernel
theorem dX10_node_94 : decode (m_code mX10_node) 94 = .ok (.ifCond .eq 7, 3) := by decide +kernel
theorem dX10_node_97 : decode (m_code mX10_node) 97 = .ok (.iconst 1, 1) := by decide +kernel
theorem dX10_node_98 : decode (m_code mX10_node) 98 = .ok (.goto 4, 3) := by decide +kernel
theorem dX10_node_101 : decode (m_code mX10_node) 101 = .ok (.iconst 0, 1) := by decide +kernel
theorem dX10_node_102 : decode (m_code mX10_node) 102 = .ok (.ireturn, 1) := by decide +kernel
theorem dX10_node_103 : decode (m_code mX10_node) 103 = .ok (.iload_n 2, 1) := by decide +kernel
theorem dX10_node_104 : decode (m_code mX10_node) 104 = .ok (.bipush 12, 2) := by decide +kernel
theorem dX10_node_106 : decode (m_code mX10_node) 106 = .ok (.if_icmp .ne 19, 3) := by decide +kernel
theorem dX10_node_109 : decode (m_code mX10_node) 109 = .ok (.aload_n 0, 1) := by decide +kernel
theorem dX10_node_110 : decode (m_code mX10_node) 110 = .ok (.iload_n 1, 1) := by decide +kernel
theorem dX10_node_111 : decode (m_code mX10_node) 111 = .ok (.invokevirtual 183, 3) := by decide +kernel
theorem dX10_node_114 : decode (m_code mX10_node) 114 = .ok (.ifCond .eq 7, 3) := by decide +kernel
theorem dX10_node_117 : decode (m_code mX10_node) 117 = .ok (.iconst 1, 1) := by decide +kernel
theorem dX10_node_118 : decode (m_code mX10_node) 118 = .ok (.goto 15, 3) := by decide +kernel
theorem dX10_node_121 : decode (m_code mX10_node) 121 = .ok (.iconst 0, 1) := by decide +kernel
theorem dX10_node_122 : decode (m_code mX10_node) 122 = .ok (.goto 11, 3) := by decide +kernel
theorem dX10_node_125 : decode (m_code mX10_node) 125 = .ok (.aload_n 0, 1) := by decide +kernel
theorem dX10_node_126 : decode (m_code mX10_node) 126 = .ok (.getfield 7, 3) := by decide +kernel
theorem dX10_node_129 : decode (m_code mX10_node) 129 = .ok (.iload_n 3, 1) := by decide +kernel
theorem dX10_node_130 : decode (m_code mX10_node) 130 = .ok (.iload_n 2, 1) := by decide +kernel
theorem dX10_node_131 : decode (m_code mX10_node) 131 = .ok (.iadd, 1) := by decide +kernel
theorem dX10_node_132 : decode (m_code mX10_node) 132 = .ok (.iaload, 1) := by decide +kernel
theorem dX10_node_133 : decode (m_code mX10_node) 133 = .ok (.ireturn, 1) := by decide +kernel
theorem dX10_notEmpty_0 : decode (m_code mX10_notEmpty) 0 = .ok (.iconst 0, 1) := by decide +kernel
theorem dX10_notEmpty_1 : decode (m_code mX10_notEmpty) 1 = .ok (.istore_n 3, 1) := by decide +kernel
theorem dX10_notEmpty_2 : decode (m_code mX10_notEmpty) 2 = .ok (.iconst 0, 1) := by decide +kernel
theorem dX10_notEmpty_3 : decode (m_code mX10_notEmpty) 3 = .ok (.istore 4, 2) := by decide +kernel
theorem dX10_notEmpty_5 : decode (m_code mX10_notEmpty) 5 = .ok (.iload 4, 2) := by decide +kernel
theorem dX10_notEmpty_7 : decode (m_code mX10_notEmpty) 7 = .ok (.iload_n 2, 1) := by decide +kernel
theorem dX10_notEmpty_8 : decode (m_code mX10_notEmpty) 8 = .ok (.if_icmp .ge 25, 3) := by decide +kernel
theorem dX10_notEmpty_11 : decode (m_code mX10_notEmpty) 11 = .ok (.aload_n 0, 1) := by decide +kernel
theorem dX10_notEmpty_12 : decode (m_code mX10_notEmpty) 12 = .ok (.getfield 7, 3) := by decide +kernel
theorem dX10_notEmpty_15 : decode (m_code mX10_notEmpty) 15 = .ok (.iload_n 1, 1) := by decide +kernel
theorem dX10_notEmpty_16 : decode (m_code mX10_notEmpty) 16 = .ok (.iload 4, 2) := by decide +kernel
theorem dX10_notEmpty_18 : decode (m_code mX10_notEmpty) 18 = .ok (.iadd, 1) := by decide +kernel
theorem dX10_notEmpty_19 : decode (m_code mX10_notEmpty) 19 = .ok (.iaload, 1) := by decide +kernel
theorem dX10_notEmpty_20 : decode (m_code mX10_notEmpty) 20 = .ok (.ifCond .eq 7, 3) := by decide +kernel
theorem dX10_notEmpty_23 : decode (m_code mX10_notEmpty) 23 = .ok (.iload_n 3, 1) := by decide +kernel
theorem dX10_notEmpty_24 : decode (m_code mX10_notEmpty) 24 = .ok (.iconst 1, 1) := by decide +kernel
theorem dX10_notEmpty_25 : decode (m_code mX10_notEmpty) 25 = .ok (.iadd, 1) := by decide +kernel
theorem dX10_notEmpty_26 : decode (m_code mX10_notEmpty) 26 = .ok (.istore_n 3, 1) := by decide +kernel
theorem dX10_notEmpty_27 : decode (m_code mX10_notEmpty) 27 = .ok (.iinc 4 1, 3) := by decide +kernel
theorem dX10_notEmpty_30 : decode (m_code mX10_notEmpty) 30 = .ok (.goto (-25), 3) := by decide +kernel
theorem dX10_notEmpty_33 : decode (m_code mX10_notEmpty) 33 = .ok (.iload_n 3, 1) := by decide +kernel
theorem dX10_notEmpty_34 : decode (m_code mX10_notEmpty) 34 = .ok (.ireturn, 1) := by decide +kernel
theorem dX10_since_0 : decode (m_code mX10_since) 0 = .ok (.aload_n 0, 1) := by decide +kernel
theorem dX10_since_1 : decode (m_code mX10_since) 1 = .ok (.iconst 0, 1) := by decide +kernel
theorem dX10_since_2 : decode (m_code mX10_since) 2 = .ok (.putfield 44, 3) := by decide +kernel
theorem dX10_since_5 : decode (m_code mX10_since) 5 = .ok (.aload_n 0, 1) := by decide +kernel
theorem dX10_since_6 : decode (m_code mX10_since) 6 = .ok (.iload_n 1, 1) := by decide +kernel
theorem dX10_since_7 : decode (m_code mX10_since) 7 = .ok (.invokevirtual 71, 3) := by decide +kernel
theorem dX10_since_10 : decode (m_code mX10_since) 10 = .ok (.ifCond .eq 14, 3) := by decide +kernel
theorem dX10_since_13 : decode (m_code mX10_since) 13 = .ok (.aload_n 0, 1) := by decide +kernel
theorem dX10_since_14 : decode (m_code mX10_since) 14 = .ok (.iload_n 2, 1) := by decide +kernel
theorem dX10_since_15 : decode (m_code mX10_since) 15 = .ok (.iconst 0, 1) := by decide +kernel
theorem dX10_since_16 : decode (m_code mX10_since) 16 = .ok (.bipush 6, 2) := by decide +kernel
theorem dX10_since_18 : decode (m_code mX10_since) 18 = .ok (.invokevirtual 61, 3) := by decide +kernel
theorem dX10_since_21 : decode (m_code mX10_since) 21 = .ok (.ifCond .ne 7, 3) := by decide +kernel
theorem dX10_since_24 : decode (m_code mX10_since) 24 = .ok (.ldc_w 262, 3) := by decide +kernel
theorem dX10_since_27 : decode (m_code mX10_since) 27 = .ok (.ireturn, 1) := by decide +kernel
theorem dX10_since_28 : decode (m_code mX10_since) 28 = .ok (.aload_n 0, 1) := by decide +kernel
theorem dX10_since_29 : decode (m_code mX10_since) 29 = .ok (.iload_n 1, 1) := by decide +kernel
theorem dX10_since_30 : decode (m_code mX10_since) 30 = .ok (.invokevirtual 54, 3) := by decide +kernel
theorem dX10_since_33 : decode (m_code mX10_since) 33 = .ok (.istore_n 3, 1) := by decide +kernel
theorem dX10_since_34 : decode (m_code mX10_since) 34 = .ok (.aload_n 0, 1) := by decide +kernel
theorem dX10_since_35 : decode (m_code mX10_since) 35 = .ok (.iload_n 1, 1) := by decide +kernel
theorem dX10_since_36 : decode (m_code mX10_since) 36 = .ok (.invokevirtual 90, 3) := by decide +kernel
theorem dX10_since_39 : decode (m_code mX10_since) 39 = .ok (.istore 4, 2) := by decide +kernel
theorem dX10_since_41 : decode (m_code mX10_since) 41 = .ok (.iload_n 2, 1) := by decide +kernel
theorem dX10_since_42 : decode (m_code mX10_since) 42 = .ok (.ifCond .ne 20, 3) := by decide +kernel
theorem dX10_since_45 : decode (m_code mX10_since) 45 = .ok (.aload_n 0, 1) := by decide +kernel
theorem dX10_since_46 : decode (m_code mX10_since) 46 = .ok (.iload_n 1, 1) := by decide +kernel
theorem dX10_since_47 : decode (m_code mX10_since) 47 = .ok (.invokevirtual 104, 3) := by decide +kernel
theorem dX10_since_50 : decode (m_code mX10_since) 50 = .ok (.aload_n 0, 1) := by decide +kernel
theorem dX10_since_51 : decode (m_code mX10_since) 51 = .ok (.getfield 7, 3) := by decide +kernel
theorem dX10_since_54 : decode (m_code mX10_since) 54 = .ok (.bipush 16, 2) := by decide +kernel
theorem dX10_since_56 : decode (m_code mX10_since) 56 = .ok (.iload 4, 2) := by decide +kernel
theorem dX10_since_58 : decode (m_code mX10_since) 58 = .ok (.iadd, 1) := by decide +kernel
theorem dX10_since_59 : decode (m_code mX10_since) 59 = .ok (.iaload, 1) := by decide +kernel
theorem dX10_since_60 : decode (m_code mX10_since) 60 = .ok (.isub, 1) := by decide +kernel
theorem dX10_since_61 : decode (m_code mX10_since) 61 = .ok (.ireturn, 1) := by decide +kernel
theorem dX10_since_62 : decode (m_code mX10_since) 62 = .ok (.iload_n 2, 1) := by decide +kernel
theorem dX10_since_63 : decode (m_code mX10_since) 63 = .ok (.iconst 1, 1) := by decide +kernel
theorem dX10_since_64 : decode (m_code mX10_since) 64 = .ok (.if_icmp .ne 33, 3) := by decide +kernel
theorem dX10_since_67 : decode (m_code mX10_since) 67 = .ok (.aload_n 0, 1) := by decide +kernel
theorem dX10_since_68 : decode (m_code mX10_since) 68 = .ok (.getfield 7, 3) := by decide +kernel
theorem dX10_since_71 : decode (m_code mX10_since) 71 = .ok (.sipush 516, 3) := by decide +kernel
theorem dX10_since_74 : decode (m_code mX10_since) 74 = .ok (.aload_n 0, 1) := by decide +kernel
theorem dX10_since_75 : decode (m_code mX10_since) 75 = .ok (.getfield 7, 3) := by decide +kernel
theorem dX10_since_78 : decode (m_code mX10_since) 78 = .ok (.iload_n 3, 1) := by decide +kernel
theorem dX10_since_79 : decode (m_code mX10_since) 79 = .ok (.iconst 5, 1) := by decide +kernel
theorem dX10_since_80 : decode (m_code mX10_since) 80 = .ok (.iadd, 1) := by decide +kernel
theorem dX10_since_81 : decode (m_code mX10_since) 81 = .ok (.iaload, 1) := by decide +kernel
theorem dX10_since_82 : decode (m_code mX10_since) 82 = .ok (.iadd, 1) := by decide +kernel
theorem dX10_since_83 : decode (m_code mX10_since) 83 = .ok (.iaload, 1) := by decide +kernel
theorem dX10_since_84 : decode (m_code mX10_since) 84 = .ok (.aload_n 0, 1) := by decide +kernel
theorem dX10_since_85 : decode (m_code mX10_since) 85 = .ok (.getfield 7, 3) := by decide +kernel
theorem dX10_since_88 : decode (m_code mX10_since) 88 = .ok (.sipush 516, 3) := by decide +kernel
theorem dX10_since_91 : decode (m_code mX10_since) 91 = .ok (.iload 4, 2) := by decide +kernel
theorem dX10_since_93 : decode (m_code mX10_since) 93 = .ok (.iadd, 1) := by decide +kernel
theorem dX10_since_94 : decode (m_code mX10_since) 94 = .ok (.iaload, 1) := by decide +kernel
theorem dX10_since_95 : decode (m_code mX10_since) 95 = .ok (.isub, 1) := by decide +kernel
theorem dX10_since_96 : decode (m_code mX10_since) 96 = .ok (.ireturn, 1) := by decide +kernel
theorem dX10_since_97 : decode (m_code mX10_since) 97 = .ok (.iload_n 2, 1) := by decide +kernel
theorem dX10_since_98 : decode (m_code mX10_since) 98 = .ok (.iconst 2, 1) := by decide +kernel
theorem dX10_since_99 : decode (m_code mX10_since) 99 = .ok (.if_icmp .ne 33, 3) := by decide +kernel
theorem dX10_since_102 : decode (m_code mX10_since) 102 = .ok (.aload_n 0, 1) := by decide +kernel
theorem dX10_since_103 : decode (m_code mX10_since) 103 = .ok (.aload_n 0, 1) := by decide +kernel
theorem dX10_since_104 : decode (m_code mX10_since) 104 = .ok (.getfield 7, 3) := by decide +kernel
theorem dX10_since_107 : decode (m_code mX10_since) 107 = .ok (.iload_n 3, 1) := by decide +kernel
theorem dX10_since_108 : decode (m_code mX10_since) 108 = .ok (.iconst 5, 1) := by decide +kernel
theorem dX10_since_109 : decode (m_code mX10_since) 109 = .ok (.iadd, 1) := by decide +kernel
theorem dX10_since_110 : decode (m_code mX10_since) 110 = .ok (.iaload, 1) := by decide +kernel
theorem dX10_since_111 : decode (m_code mX10_since) 111 = .ok (.aload_n 0, 1) := by decide +kernel
theorem dX10_since_112 : decode (m_code mX10_since) 112 = .ok (.getfield 7, 3) := by decide +kernel
theorem dX10_since_115 : decode (m_code mX10_since) 115 = .ok (.iload_n 3, 1) := by decide +kernel
theorem dX10_since_116 : decode (m_code mX10_since) 116 = .ok (.bipush 6, 2) := by decide +kernel
theorem dX10_since_118 : decode (m_code mX10_since) 118 = .ok (.iadd, 1) := by decide +kernel
theorem dX10_since_119 : decode (m_code mX10_since) 119 = .ok (.iaload, 1) := by decide +kernel
theorem dX10_since_120 : decode (m_code mX10_since) 120 = .ok (.invokevirtual 93, 3) := by decide +kernel
theorem dX10_since_123 : decode (m_code mX10_since) 123 = .ok (.ifCond .eq 7, 3) := by decide +kernel
theorem dX10_since_126 : decode (m_code mX10_since) 126 = .ok (.iconst 1, 1) := by decide +kernel
theorem dX10_since_127 : decode (m_code mX10_since) 127 = .ok (.goto 4, 3) := by decide +kernel
theorem dX10_since_130 : decode (m_code mX10_since) 130 = .ok (.iconst 0, 1) := by decide +kernel
theorem dX10_since_131 : decode (m_code mX10_since) 131 = .ok (.ireturn, 1) := by decide +kernel
theorem dX10_since_132 : decode (m_code mX10_since) 132 = .ok (.iload_n 2, 1) := by decide +kernel
theorem dX10_since_133 : decode (m_code mX10_since) 133 = .ok (.iconst 3, 1) := by decide +kernel
theorem dX10_since_134 : decode (m_code mX10_since) 134 = .ok (.if_icmp .ne 27, 3) := by decide +kernel
theorem dX10_since_137 : decode (m_code mX10_since) 137 = .ok (.aload_n 0, 1) := by decide +kernel
theorem dX10_since_138 : decode (m_code mX10_since) 138 = .ok (.aload_n 0, 1) := by decide +kernel
theorem dX10_since_139 : decode (m_code mX10_since) 139 = .ok (.getfield 7, 3) := by decide +kernel
theorem dX10_since_142 : decode (m_code mX10_since) 142 = .ok (.iload_n 3, 1) := by decide +kernel
theorem dX10_since_143 : decode (m_code mX10_since) 143 = .ok (.bipush 6, 2) := by decide +kernel
theorem dX10_since_145 : decode (m_code mX10_since) 145 = .ok (.iadd, 1) := by decide +kernel
theorem dX10_since_146 : decode (m_code mX10_since) 146 = .ok (.iaload, 1) := by decide +kernel
theorem dX10_since_147 : decode (m_code mX10_since) 147 = .ok (.iload 4, 2) := by decide +kernel
theorem dX10_since_149 : decode (m_code mX10_since) 149 = .ok (.invokevirtual 93, 3) := by decide +kernel
theorem dX10_since_152 : decode (m_code mX10_since) 152 = .ok (.ifCond .eq 7, 3) := by decide +kernel
theorem dX10_since_155 : decode (m_code mX10_since) 155 = .ok (.iconst 1, 1) := by decide +kernel
theorem dX10_since_156 : decode (m_code mX10_since) 156 = .ok (.goto 4, 3) := by decide +kernel
theorem dX10_since_159 : decode (m_code mX10_since) 159 = .ok (.iconst 0, 1) := by decide +kernel
theorem dX10_since_160 : decode (m_code mX10_since) 160 = .ok (.ireturn, 1) := by decide +kernel
theorem dX10_since_161 : decode (m_code mX10_since) 161 = .ok (.iload_n 2, 1) := by decide +kernel
theorem dX10_since_162 : decode (m_code mX10_since) 162 = .ok (.iconst 4, 1) := by decide +kernel
theorem dX10_since_163 : decode (m_code mX10_since) 163 = .ok (.if_icmp .ne 13, 3) := by decide +kernel
theorem dX10_since_166 : decode (m_code mX10_since) 166 = .ok (.aload_n 0, 1) := by decide +kernel
theorem dX10_since_167 : decode (m_code mX10_since) 167 = .ok (.getfield 7, 3) := by decide +kernel
theorem dX10_since_170 : decode (m_code mX10_since) 170 = .ok (.iload_n 3, 1) := by decide +kernel
theorem dX10_since_171 : decode (m_code mX10_since) 171 = .ok (.bipush 10, 2) := by decide +kernel
theorem dX10_since_173 : decode (m_code mX10_since) 173 = .ok (.iadd, 1) := by decide +kernel
theorem dX10_since_174 : decode (m_code mX10_since) 174 = .ok (.iaload, 1) := by decide +kernel
theorem dX10_since_175 : decode (m_code mX10_since) 175 = .ok (.ireturn, 1) := by decide +kernel
theorem dX10_since_176 : decode (m_code mX10_since) 176 = .ok (.iload_n 2, 1) := by decide +kernel
theorem dX10_since_177 : decode (m_code mX10_since) 177 = .ok (.iconst 5, 1) := by decide +kernel
theorem dX10_since_178 : decode (m_code mX10_since) 178 = .ok (.if_icmp .ne 18, 3) := by decide +kernel
theorem dX10_since_181 : decode (m_code mX10_since) 181 = .ok (.aload_n 0, 1) := by decide +kernel
theorem dX10_since_182 : decode (m_code mX10_since) 182 = .ok (.iload_n 3, 1) := by decide +kernel
theorem dX10_since_183 : decode (m_code mX10_since) 183 = .ok (.sipush 312, 3) := by decide +kernel
theorem dX10_since_186 : decode (m_code mX10_since) 186 = .ok (.iadd, 1) := by decide +kernel
theorem dX10_since_187 : decode (m_code mX10_since) 187 = .ok (.sipush 201, 3) := by decide +kernel
theorem dX10_since_190 : decode (m_code mX10_since) 190 = .ok (.invokevirtual 263, 3) := by decide +kernel
theorem dX10_since_193 : decode (m_code mX10_since) 193 = .ok (.goto 14, 3) := by decide +kernel
theorem dX10_since_196 : decode (m_code mX10_since) 196 = .ok (.aload_n 0, 1) := by decide +kernel
theorem dX10_since_197 : decode (m_code mX10_since) 197 = .ok (.iload_n 3, 1) := by decide +kernel
theorem dX10_since_198 : decode (m_code mX10_since) 198 = .ok (.sipush 212, 3) := by decide +kernel
theorem dX10_since_201 : decode (m_code mX10_since) 201 = .ok (.iadd, 1) := by decide +kernel
theorem dX10_since_202 : decode (m_code mX10_since) 202 = .ok (.bipush 100, 2) := by decide +kernel
theorem dX10_since_204 : decode (m_code mX10_since) 204 = .ok (.invokevirtual 263, 3) := by decide +kernel
theorem dX10_since_207 : decode (m_code mX10_since) 207 = .ok (.ireturn, 1) := by decide +kernel
