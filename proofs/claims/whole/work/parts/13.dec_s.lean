theorem dX6_flag_0 : decode (m_code mX6_flag) 0 = .ok (.iload_n 0, 1) := by decide +kernel
theorem dX6_flag_1 : decode (m_code mX6_flag) 1 = .ok (.ifCond .eq 7, 3) := by decide +kernel
theorem dX6_flag_4 : decode (m_code mX6_flag) 4 = .ok (.iconst 1, 1) := by decide +kernel
theorem dX6_flag_5 : decode (m_code mX6_flag) 5 = .ok (.goto 4, 3) := by decide +kernel
theorem dX6_flag_8 : decode (m_code mX6_flag) 8 = .ok (.iconst 0, 1) := by decide +kernel
theorem dX6_flag_9 : decode (m_code mX6_flag) 9 = .ok (.ireturn, 1) := by decide +kernel
theorem dX6_ofNode_0 : decode (m_code mX6_ofNode) 0 = .ok (.aload_n 0, 1) := by decide +kernel
theorem dX6_ofNode_1 : decode (m_code mX6_ofNode) 1 = .ok (.getfield 9, 3) := by decide +kernel
theorem dX6_ofNode_4 : decode (m_code mX6_ofNode) 4 = .ok (.iload_n 1, 1) := by decide +kernel
theorem dX6_ofNode_5 : decode (m_code mX6_ofNode) 5 = .ok (.aaload, 1) := by decide +kernel
theorem dX6_ofNode_6 : decode (m_code mX6_ofNode) 6 = .ok (.astore_n 3, 1) := by decide +kernel
theorem dX6_ofNode_7 : decode (m_code mX6_ofNode) 7 = .ok (.iload_n 2, 1) := by decide +kernel
theorem dX6_ofNode_8 : decode (m_code mX6_ofNode) 8 = .ok (.tableswitch 141 0 12 #[68, 73, 78, 83, 88, 93, 98, 103, 108, 113, 118, 123, 132], 68) := by decide +kernel
theorem dX6_ofNode_76 : decode (m_code mX6_ofNode) 76 = .ok (.aload_n 3, 1) := by decide +kernel
theorem dX6_ofNode_77 : decode (m_code mX6_ofNode) 77 = .ok (.getfield 15, 3) := by decide +kernel
theorem dX6_ofNode_80 : decode (m_code mX6_ofNode) 80 = .ok (.ireturn, 1) := by decide +kernel
theorem dX6_ofNode_81 : decode (m_code mX6_ofNode) 81 = .ok (.aload_n 3, 1) := by decide +kernel
theorem dX6_ofNode_82 : decode (m_code mX6_ofNode) 82 = .ok (.getfield 21, 3) := by decide +kernel
theorem dX6_ofNode_85 : decode (m_code mX6_ofNode) 85 = .ok (.ireturn, 1) := by decide +kernel
theorem dX6_ofNode_86 : decode (m_code mX6_ofNode) 86 = .ok (.aload_n 3, 1) := by decide +kernel
theorem dX6_ofNode_87 : decode (m_code mX6_ofNode) 87 = .ok (.getfield 24, 3) := by decide +kernel
theorem dX6_ofNode_90 : decode (m_code mX6_ofNode) 90 = .ok (.ireturn, 1) := by decide +kernel
theorem dX6_ofNode_91 : decode (m_code mX6_ofNode) 91 = .ok (.aload_n 3, 1) := by decide +kernel
theorem dX6_ofNode_92 : decode (m_code mX6_ofNode) 92 = .ok (.getfield 27, 3) := by decide +kernel
theorem dX6_ofNode_95 : decode (m_code mX6_ofNode) 95 = .ok (.ireturn, 1) := by decide +kernel
theorem dX6_ofNode_96 : decode (m_code mX6_ofNode) 96 = .ok (.aload_n 3, 1) := by decide +kernel
theorem dX6_ofNode_97 : decode (m_code mX6_ofNode) 97 = .ok (.getfield 30, 3) := by decide +kernel
theorem dX6_ofNode_100 : decode (m_code mX6_ofNode) 100 = .ok (.ireturn, 1) := by decide +kernel
theorem dX6_ofNode_101 : decode (m_code mX6_ofNode) 101 = .ok (.aload_n 3, 1) := by decide +kernel
theorem dX6_ofNode_102 : decode (m_code mX6_ofNode) 102 = .ok (.getfield 33, 3) := by decide +kernel
theorem dX6_ofNode_105 : decode (m_code mX6_ofNode) 105 = .ok (.ireturn, 1) := by decide +kernel
theorem dX6_ofNode_106 : decode (m_code mX6_ofNode) 106 = .ok (.aload_n 3, 1) := by decide +kernel
theorem dX6_ofNode_107 : decode (m_code mX6_ofNode) 107 = .ok (.getfield 36, 3) := by decide +kernel
theorem dX6_ofNode_110 : decode (m_code mX6_ofNode) 110 = .ok (.ireturn, 1) := by decide +kernel
theorem dX6_ofNode_111 : decode (m_code mX6_ofNode) 111 = .ok (.aload_n 3, 1) := by decide +kernel
theorem dX6_ofNode_112 : decode (m_code mX6_ofNode) 112 = .ok (.getfield 39, 3) := by decide +kernel
theorem dX6_ofNode_115 : decode (m_code mX6_ofNode) 115 = .ok (.ireturn, 1) := by decide +kernel
theorem dX6_ofNode_116 : decode (m_code mX6_ofNode) 116 = .ok (.aload_n 3, 1) := by decide +kernel
theorem dX6_ofNode_117 : decode (m_code mX6_ofNode) 117 = .ok (.getfield 42, 3) := by decide +kernel
theorem dX6_ofNode_120 : decode (m_code mX6_ofNode) 120 = .ok (.ireturn, 1) := by decide +kernel
theorem dX6_ofNode_121 : decode (m_code mX6_ofNode) 121 = .ok (.aload_n 3, 1) := by decide +kernel
theorem dX6_ofNode_122 : decode (m_code mX6_ofNode) 122 = .ok (.invokevirtual 45, 3) := by decide +kernel
theorem dX6_ofNode_125 : decode (m_code mX6_ofNode) 125 = .ok (.ireturn, 1) := by decide +kernel
theorem dX6_ofNode_126 : decode (m_code mX6_ofNode) 126 = .ok (.aload_n 3, 1) := by decide +kernel
theorem dX6_ofNode_127 : decode (m_code mX6_ofNode) 127 = .ok (.getfield 49, 3) := by decide +kernel
theorem dX6_ofNode_130 : decode (m_code mX6_ofNode) 130 = .ok (.ireturn, 1) := by decide +kernel
theorem dX6_ofNode_131 : decode (m_code mX6_ofNode) 131 = .ok (.aload_n 0, 1) := by decide +kernel
theorem dX6_ofNode_132 : decode (m_code mX6_ofNode) 132 = .ok (.iload_n 1, 1) := by decide +kernel
theorem dX6_ofNode_133 : decode (m_code mX6_ofNode) 133 = .ok (.invokevirtual 52, 3) := by decide +kernel
theorem dX6_ofNode_136 : decode (m_code mX6_ofNode) 136 = .ok (.invokestatic 56, 3) := by decide +kernel
theorem dX6_ofNode_139 : decode (m_code mX6_ofNode) 139 = .ok (.ireturn, 1) := by decide +kernel
theorem dX6_ofNode_140 : decode (m_code mX6_ofNode) 140 = .ok (.aload_n 0, 1) := by decide +kernel
theorem dX6_ofNode_141 : decode (m_code mX6_ofNode) 141 = .ok (.iload_n 1, 1) := by decide +kernel
theorem dX6_ofNode_142 : decode (m_code mX6_ofNode) 142 = .ok (.invokevirtual 62, 3) := by decide +kernel
theorem dX6_ofNode_145 : decode (m_code mX6_ofNode) 145 = .ok (.invokestatic 56, 3) := by decide +kernel
theorem dX6_ofNode_148 : decode (m_code mX6_ofNode) 148 = .ok (.ireturn, 1) := by decide +kernel
theorem dX6_ofNode_149 : decode (m_code mX6_ofNode) 149 = .ok (.iconst (-1), 1) := by decide +kernel
theorem dX6_ofNode_150 : decode (m_code mX6_ofNode) 150 = .ok (.ireturn, 1) := by decide +kernel
theorem dX6_ofBlock_0 : decode (m_code mX6_ofBlock) 0 = .ok (.iload_n 2, 1) := by decide +kernel
theorem dX6_ofBlock_1 : decode (m_code mX6_ofBlock) 1 = .ok (.tableswitch 103 0 7 #[47, 54, 61, 68, 75, 82, 89, 96], 47) := by decide +kernel
theorem dX6_ofBlock_48 : decode (m_code mX6_ofBlock) 48 = .ok (.aload_n 0, 1) := by decide +kernel
theorem dX6_ofBlock_49 : decode (m_code mX6_ofBlock) 49 = .ok (.getfield 65, 3) := by decide +kernel
theorem dX6_ofBlock_52 : decode (m_code mX6_ofBlock) 52 = .ok (.iload_n 1, 1) := by decide +kernel
theorem dX6_ofBlock_53 : decode (m_code mX6_ofBlock) 53 = .ok (.iaload, 1) := by decide +kernel
theorem dX6_ofBlock_54 : decode (m_code mX6_ofBlock) 54 = .ok (.ireturn, 1) := by decide +kernel
theorem dX6_ofBlock_55 : decode (m_code mX6_ofBlock) 55 = .ok (.aload_n 0, 1) := by decide +kernel
theorem dX6_ofBlock_56 : decode (m_code mX6_ofBlock) 56 = .ok (.getfield 70, 3) := by decide +kernel
theorem dX6_ofBlock_59 : decode (m_code mX6_ofBlock) 59 = .ok (.iload_n 1, 1) := by decide +kernel
theorem dX6_ofBlock_60 : decode (m_code mX6_ofBlock) 60 = .ok (.iaload, 1) := by decide +kernel
theorem dX6_ofBlock_61 : decode (m_code mX6_ofBlock) 61 = .ok (.ireturn, 1) := by decide +kernel
theorem dX6_ofBlock_62 : decode (m_code mX6_ofBlock) 62 = .ok (.aload_n 0, 1) := by decide +kernel
theorem dX6_ofBlock_63 : decode (m_code mX6_ofBlock) 63 = .ok (.getfield 73, 3) := by decide +kernel
theorem dX6_ofBlock_66 : decode (m_code mX6_ofBlock) 66 = .ok (.iload_n 1, 1) := by decide +kernel
theorem dX6_ofBlock_67 : decode (m_code mX6_ofBlock) 67 = .ok (.iaload, 1) := by decide +kernel
theorem dX6_ofBlock_68 : decode (m_code mX6_ofBlock) 68 = .ok (.ireturn, 1) := by decide +kernel
theorem dX6_ofBlock_69 : decode (m_code mX6_ofBlock) 69 = .ok (.aload_n 0, 1) := by decide +kernel
theorem dX6_ofBlock_70 : decode (m_code mX6_ofBlock) 70 = .ok (.getfield 76, 3) := by decide +kernel
theorem dX6_ofBlock_73 : decode (m_code mX6_ofBlock) 73 = .ok (.iload_n 1, 1) := by decide +kernel
theorem dX6_ofBlock_74 : decode (m_code mX6_ofBlock) 74 = .ok (.iaload, 1) := by decide +kernel
theorem dX6_ofBlock_75 : decode (m_code mX6_ofBlock) 75 = .ok (.ireturn, 1) := by decide +kernel
theorem dX6_ofBlock_76 : decode (m_code mX6_ofBlock) 76 = .ok (.aload_n 0, 1) := by decide +kernel
theorem dX6_ofBlock_77 : decode (m_code mX6_ofBlock) 77 = .ok (.getfield 79, 3) := by decide +kernel
theorem dX6_ofBlock_80 : decode (m_code mX6_ofBlock) 80 = .ok (.iload_n 1, 1) := by decide +kernel
theorem dX6_ofBlock_81 : decode (m_code mX6_ofBlock) 81 = .ok (.iaload, 1) := by decide +kernel
theorem dX6_ofBlock_82 : decode (m_code mX6_ofBlock) 82 = .ok (.ireturn, 1) := by decide +kernel
theorem dX6_ofBlock_83 : decode (m_code mX6_ofBlock) 83 = .ok (.aload_n 0, 1) := by decide +kernel
theorem dX6_ofBlock_84 : decode (m_code mX6_ofBlock) 84 = .ok (.getfield 82, 3) := by decide +kernel
theorem dX6_ofBlock_87 : decode (m_code mX6_ofBlock) 87 = .ok (.iload_n 1, 1) := by decide +kernel
theorem dX6_ofBlock_88 : decode (m_code mX6_ofBlock) 88 = .ok (.iaload, 1) := by decide +kernel
theorem dX6_ofBlock_89 : decode (m_code mX6_ofBlock) 89 = .ok (.ireturn, 1) := by decide +kernel
theorem dX6_ofBlock_90 : decode (m_code mX6_ofBlock) 90 = .ok (.aload_n 0, 1) := by decide +kernel
theorem dX6_ofBlock_91 : decode (m_code mX6_ofBlock) 91 = .ok (.getfield 85, 3) := by decide +kernel
theorem dX6_ofBlock_94 : decode (m_code mX6_ofBlock) 94 = .ok (.iload_n 1, 1) := by decide +kernel
theorem dX6_ofBlock_95 : decode (m_code mX6_ofBlock) 95 = .ok (.iaload, 1) := by decide +kernel
theorem dX6_ofBlock_96 : decode (m_code mX6_ofBlock) 96 = .ok (.ireturn, 1) := by decide +kernel
theorem dX6_ofBlock_97 : decode (m_code mX6_ofBlock) 97 = .ok (.aload_n 0, 1) := by decide +kernel
theorem dX6_ofBlock_98 : decode (m_code mX6_ofBlock) 98 = .ok (.getfield 88, 3) := by decide +kernel
theorem dX6_ofBlock_101 : decode (m_code mX6_ofBlock) 101 = .ok (.iload_n 1, 1) := by decide +kernel
theorem dX6_ofBlock_102 : decode (m_code mX6_ofBlock) 102 = .ok (.iaload, 1) := by decide +kernel
theorem dX6_ofBlock_103 : decode (m_code mX6_ofBlock) 103 = .ok (.ireturn, 1) := by decide +kernel
theorem dX6_ofBlock_104 : decode (m_code mX6_ofBlock) 104 = .ok (.iconst (-1), 1) := by decide +kernel
theorem dX6_ofBlock_105 : decode (m_code mX6_ofBlock) 105 = .ok (.ireturn, 1) := by decide +kernel
theorem dX6_ofMessage_0 : decode (m_code mX6_ofMessage) 0 = .ok (.iload_n 1, 1) := by decide +kernel
theorem dX6_ofMessage_1 : decode (m_code mX6_ofMessage) 1 = .ok (.tableswitch 60 0 4 #[35, 40, 45, 50, 55], 35) := by decide +kernel
theorem dX6_ofMessage_36 : decode (m_code mX6_ofMessage) 36 = .ok (.iload_n 0, 1) := by decide +kernel
theorem dX6_ofMessage_37 : decode (m_code mX6_ofMessage) 37 = .ok (.invokestatic 91, 3) := by decide +kernel
theorem dX6_ofMessage_40 : decode (m_code mX6_ofMessage) 40 = .ok (.ireturn, 1) := by decide +kernel
theorem dX6_ofMessage_41 : decode (m_code mX6_ofMessage) 41 = .ok (.iload_n 0, 1) := by decide +kernel
theorem dX6_ofMessage_42 : decode (m_code mX6_ofMessage) 42 = .ok (.invokestatic 97, 3) := by decide +kernel
theorem dX6_ofMessage_45 : decode (m_code mX6_ofMessage) 45 = .ok (.ireturn, 1) := by decide +kernel
theorem dX6_ofMessage_46 : decode (m_code mX6_ofMessage) 46 = .ok (.iload_n 0, 1) := by decide +kernel
theorem dX6_ofMessage_47 : decode (m_code mX6_ofMessage) 47 = .ok (.invokestatic 100, 3) := by decide +kernel
theorem dX6_ofMessage_50 : decode (m_code mX6_ofMessage) 50 = .ok (.ireturn, 1) := by decide +kernel
theorem dX6_ofMessage_51 : decode (m_code mX6_ofMessage) 51 = .ok (.iload_n 0, 1) := by decide +kernel
theorem dX6_ofMessage_52 : decode (m_code mX6_ofMessage) 52 = .ok (.invokestatic 103, 3) := by decide +kernel
theorem dX6_ofMessage_55 : decode (m_code mX6_ofMessage) 55 = .ok (.ireturn, 1) := by decide +kernel
theorem dX6_ofMessage_56 : decode (m_code mX6_ofMessage) 56 = .ok (.iload_n 0, 1) := by decide +kernel
theorem dX6_ofMessage_57 : decode (m_code mX6_ofMessage) 57 = .ok (.invokestatic 106, 3) := by decide +kernel
theorem dX6_ofMessage_60 : decode (m_code mX6_ofMessage) 60 = .ok (.ireturn, 1) := by decide +kernel
theorem dX6_ofMessage_61 : decode (m_code mX6_ofMessage) 61 = .ok (.bipush (-2), 2) := by decide +kernel
theorem dX6_ofMessage_63 : decode (m_code mX6_ofMessage) 63 = .ok (.ireturn, 1) := by decide +kernel
theorem dX6_distance_0 : decode (m_code mX6_distance) 0 = .ok (.aload_n 0, 1) := by decide +kernel
theorem dX6_distance_1 : decode (m_code mX6_distance) 1 = .ok (.getfield 109, 3) := by decide +kernel
theorem dX6_distance_4 : decode (m_code mX6_distance) 4 = .ok (.astore_n 3, 1) := by decide +kernel
theorem dX6_distance_5 : decode (m_code mX6_distance) 5 = .ok (.aload_n 1, 1) := by decide +kernel
theorem dX6_distance_6 : decode (m_code mX6_distance) 6 = .ok (.invokevirtual 45, 3) := by decide +kernel
theorem dX6_distance_9 : decode (m_code mX6_distance) 9 = .ok (.istore 4, 2) := by decide +kernel
theorem dX6_distance_11 : decode (m_code mX6_distance) 11 = .ok (.iload_n 2, 1) := by decide +kernel
theorem dX6_distance_12 : decode (m_code mX6_distance) 12 = .ok (.tableswitch 133 0 6 #[44, 57, 75, 91, 105, 110, 121], 44) := by decide +kernel
theorem dX6_distance_56 : decode (m_code mX6_distance) 56 = .ok (.aload_n 1, 1) := by decide +kernel
theorem dX6_distance_57 : decode (m_code mX6_distance) 57 = .ok (.getfield 21, 3) := by decide +kernel
theorem dX6_distance_60 : decode (m_code mX6_distance) 60 = .ok (.aload_n 3, 1) := by decide +kernel
theorem dX6_distance_61 : decode (m_code mX6_distance) 61 = .ok (.getfield 65, 3) := by decide +kernel
theorem dX6_distance_64 : decode (m_code mX6_distance) 64 = .ok (.iload 4, 2) := by decide +kernel
theorem dX6_distance_66 : decode (m_code mX6_distance) 66 = .ok (.iaload, 1) := by decide +kernel
theorem dX6_distance_67 : decode (m_code mX6_distance) 67 = .ok (.isub, 1) := by decide +kernel
theorem dX6_distance_68 : decode (m_code mX6_distance) 68 = .ok (.ireturn, 1) := by decide +kernel
theorem dX6_distance_69 : decode (m_code mX6_distance) 69 = .ok (.aload_n 3, 1) := by decide +kernel
theorem dX6_distance_70 : decode (m_code mX6_distance) 70 = .ok (.getfield 82, 3) := by decide +kernel
theorem dX6_distance_73 : decode (m_code mX6_distance) 73 = .ok (.aload_n 1, 1) := by decide +kernel
theorem dX6_distance_74 : decode (m_code mX6_distance) 74 = .ok (.getfield 33, 3) := by decide +kernel
theorem dX6_distance_77 : decode (m_code mX6_distance) 77 = .ok (.iaload, 1) := by decide +kernel
theorem dX6_distance_78 : decode (m_code mX6_distance) 78 = .ok (.aload_n 3, 1) := by decide +kernel
theorem dX6_distance_79 : decode (m_code mX6_distance) 79 = .ok (.getfield 82, 3) := by decide +kernel
theorem dX6_distance_82 : decode (m_code mX6_distance) 82 = .ok (.iload 4, 2) := by decide +kernel
theorem dX6_distance_84 : decode (m_code mX6_distance) 84 = .ok (.iaload, 1) := by decide +kernel
theorem dX6_distance_85 : decode (m_code mX6_distance) 85 = .ok (.isub, 1) := by decide +kernel
theorem dX6_distance_86 : decode (m_code mX6_distance) 86 = .ok (.ireturn, 1) := by decide +kernel
theorem dX6_distance_87 : decode (m_code mX6_distance) 87 = .ok (.aload_n 3, 1) := by decide +kernel
theorem dX6_distance_88 : decode (m_code mX6_distance) 88 = .ok (.aload_n 1, 1) := by decide +kernel
theorem dX6_distance_89 : decode (m_code mX6_distance) 89 = .ok (.getfield 33, 3) := by decide +kernel
theorem dX6_distance_92 : decode (m_code mX6_distance) 92 = .ok (.aload_n 1, 1) := by decide +kernel
theorem dX6_distance_93 : decode (m_code mX6_distance) 93 = .ok (.getfield 36, 3) := by decide +kernel
theorem dX6_distance_96 : decode (m_code mX6_distance) 96 = .ok (.invokevirtual 113, 3) := by decide +kernel
theorem dX6_distance_99 : decode (m_code mX6_distance) 99 = .ok (.invokestatic 56, 3) := by decide +kernel
theorem dX6_distance_102 : decode (m_code mX6_distance) 102 = .ok (.ireturn, 1) := by decide +kernel
theorem dX6_distance_103 : decode (m_code mX6_distance) 103 = .ok (.aload_n 3, 1) := by decide +kernel
theorem dX6_distance_104 : decode (m_code mX6_distance) 104 = .ok (.aload_n 1, 1) := by decide +kernel
theorem dX6_distance_105 : decode (m_code mX6_distance) 105 = .ok (.getfield 36, 3) := by decide +kernel
theorem dX6_distance_108 : decode (m_code mX6_distance) 108 = .ok (.iload 4, 2) := by decide +kernel
theorem dX6_distance_110 : decode (m_code mX6_distance) 110 = .ok (.invokevirtual 113, 3) := by decide +kernel
theorem dX6_distance_113 : decode (m_code mX6_distance) 113 = .ok (.invokestatic 56, 3) := by decide +kernel
theorem dX6_distance_116 : decode (m_code mX6_distance) 116 = .ok (.ireturn, 1) := by decide +kernel
theorem dX6_distance_117 : decode (m_code mX6_distance) 117 = .ok (.aload_n 1, 1) := by decide +kernel
theorem dX6_distance_118 : decode (m_code mX6_distance) 118 = .ok (.getfield 117, 3) := by decide +kernel
theorem dX6_distance_121 : decode (m_code mX6_distance) 121 = .ok (.ireturn, 1) := by decide +kernel
theorem dX6_distance_122 : decode (m_code mX6_distance) 122 = .ok (.aload_n 1, 1) := by decide +kernel
theorem dX6_distance_123 : decode (m_code mX6_distance) 123 = .ok (.getfield 120, 3) := by decide +kernel
theorem dX6_distance_126 : decode (m_code mX6_distance) 126 = .ok (.sipush 201, 3) := by decide +kernel
theorem dX6_distance_129 : decode (m_code mX6_distance) 129 = .ok (.invokestatic 123, 3) := by decide +kernel
theorem dX6_distance_132 : decode (m_code mX6_distance) 132 = .ok (.ireturn, 1) := by decide +kernel
theorem dX6_distance_133 : decode (m_code mX6_distance) 133 = .ok (.aload_n 1, 1) := by decide +kernel
theorem dX6_distance_134 : decode (m_code mX6_distance) 134 = .ok (.getfield 127, 3) := by decide +kernel
theorem dX6_distance_137 : decode (m_code mX6_distance) 137 = .ok (.aload_n 3, 1) := by decide +kernel
theorem dX6_distance_138 : decode (m_code mX6_distance) 138 = .ok (.getfield 130, 3) := by decide +kernel
theorem dX6_distance_141 : decode (m_code mX6_distance) 141 = .ok (.invokestatic 123, 3) := by decide +kernel
theorem dX6_distance_144 : decode (m_code mX6_distance) 144 = .ok (.ireturn, 1) := by decide +kernel
theorem dX6_distance_145 : decode (m_code mX6_distance) 145 = .ok (.ldc 133, 2) := by decide +kernel
theorem dX6_distance_147 : decode (m_code mX6_distance) 147 = .ok (.ireturn, 1) := by decide +kernel
theorem dX6_countFilled_0 : decode (m_code mX6_countFilled) 0 = .ok (.iconst 0, 1) := by decide +kernel
theorem dX6_countFilled_1 : decode (m_code mX6_countFilled) 1 = .ok (.istore_n 2, 1) := by decide +kernel
theorem dX6_countFilled_2 : decode (m_code mX6_countFilled) 2 = .ok (.iconst 0, 1) := by decide +kernel
theorem dX6_countFilled_3 : decode (m_code mX6_countFilled) 3 = .ok (.istore_n 3, 1) := by decide +kernel
theorem dX6_countFilled_4 : decode (m_code mX6_countFilled) 4 = .ok (.iload_n 3, 1) := by decide +kernel
theorem dX6_countFilled_5 : decode (m_code mX6_countFilled) 5 = .ok (.iload_n 1, 1) := by decide +kernel
theorem dX6_countFilled_6 : decode (m_code mX6_countFilled) 6 = .ok (.if_icmp .ge 32, 3) := by decide +kernel
theorem dX6_countFilled_9 : decode (m_code mX6_countFilled) 9 = .ok (.iload_n 3, 1) := by decide +kernel
theorem dX6_countFilled_10 : decode (m_code mX6_countFilled) 10 = .ok (.aload_n 0, 1) := by decide +kernel
theorem dX6_countFilled_11 : decode (m_code mX6_countFilled) 11 = .ok (.arraylength, 1) := by decide +kernel
theorem dX6_countFilled_12 : decode (m_code mX6_countFilled) 12 = .ok (.if_icmp .ge 26, 3) := by decide +kernel
theorem dX6_countFilled_15 : decode (m_code mX6_countFilled) 15 = .ok (.iload_n 2, 1) := by decide +kernel
theorem dX6_countFilled_16 : decode (m_code mX6_countFilled) 16 = .ok (.aload_n 0, 1) := by decide +kernel
theorem dX6_countFilled_17 : decode (m_code mX6_countFilled) 17 = .ok (.iload_n 3, 1) := by decide +kernel
theorem dX6_countFilled_18 : decode (m_code mX6_countFilled) 18 = .ok (.iaload, 1) := by decide +kernel
theorem dX6_countFilled_19 : decode (m_code mX6_countFilled) 19 = .ok (.ifCond .eq 7, 3) := by decide +kernel
theorem dX6_countFilled_22 : decode (m_code mX6_countFilled) 22 = .ok (.iconst 1, 1) := by decide +kernel
theorem dX6_countFilled_23 : decode (m_code mX6_countFilled) 23 = .ok (.goto 4, 3) := by decide +kernel
theorem dX6_countFilled_26 : decode (m_code mX6_countFilled) 26 = .ok (.iconst 0, 1) := by decide +kernel
theorem dX6_countFilled_27 : decode (m_code mX6_countFilled) 27 = .ok (.invokestatic 56, 3) := by decide +kernel
theorem dX6_countFilled_30 : decode (m_code mX6_countFilled) 30 = .ok (.iadd, 1) := by decide +kernel
theorem dX6_countFilled_31 : decode (m_code mX6_countFilled) 31 = .ok (.istore_n 2, 1) := by decide +kernel
theorem dX6_countFilled_32 : decode (m_code mX6_countFilled) 32 = .ok (.iinc 3 1, 3) := by decide +kernel
theorem dX6_countFilled_35 : decode (m_code mX6_countFilled) 35 = .ok (.goto (-31), 3) := by decide +kernel
theorem dX6_countFilled_38 : decode (m_code mX6_countFilled) 38 = .ok (.iload_n 2, 1) := by decide +kernel
theorem dX6_countFilled_39 : decode (m_code mX6_countFilled) 39 = .ok (.ireturn, 1) := by decide +kernel
theorem dX6_ofChain_0 : decode (m_code mX6_ofChain) 0 = .ok (.iload_n 2, 1) := by decide +kernel
theorem dX6_ofChain_1 : decode (m_code mX6_ofChain) 1 = .ok (.tableswitch 105 0 6 #[43, 55, 64, 74, 84, 90, 99], 43) := by decide +kernel
theorem dX6_ofChain_44 : decode (m_code mX6_ofChain) 44 = .ok (.aload_n 0, 1) := by decide +kernel
theorem dX6_ofChain_45 : decode (m_code mX6_ofChain) 45 = .ok (.getfield 109, 3) := by decide +kernel
theorem dX6_ofChain_48 : decode (m_code mX6_ofChain) 48 = .ok (.getfield 82, 3) := by decide +kernel
theorem dX6_ofChain_51 : decode (m_code mX6_ofChain) 51 = .ok (.iload_n 1, 1) := by decide +kernel
theorem dX6_ofChain_52 : decode (m_code mX6_ofChain) 52 = .ok (.iaload, 1) := by decide +kernel
theorem dX6_ofChain_53 : decode (m_code mX6_ofChain) 53 = .ok (.iconst 1, 1) := by decide +kernel
theorem dX6_ofChain_54 : decode (m_code mX6_ofChain) 54 = .ok (.iadd, 1) := by decide +kernel
theorem dX6_ofChain_55 : decode (m_code mX6_ofChain) 55 = .ok (.ireturn, 1) := by decide +kernel
theorem dX6_ofChain_56 : decode (m_code mX6_ofChain) 56 = .ok (.aload_n 0, 1) := by decide +kernel
theorem dX6_ofChain_57 : decode (m_code mX6_ofChain) 57 = .ok (.getfield 109, 3) := by decide +kernel
theorem dX6_ofChain_60 : decode (m_code mX6_ofChain) 60 = .ok (.iload_n 1, 1) := by decide +kernel
theorem dX6_ofChain_61 : decode (m_code mX6_ofChain) 61 = .ok (.invokestatic 134, 3) := by decide +kernel
theorem dX6_ofChain_64 : decode (m_code mX6_ofChain) 64 = .ok (.ireturn, 1) := by decide +kernel
theorem dX6_ofChain_65 : decode (m_code mX6_ofChain) 65 = .ok (.aload_n 0, 1) := by decide +kernel
theorem dX6_ofChain_66 : decode (m_code mX6_ofChain) 66 = .ok (.getfield 109, 3) := by decide +kernel
theorem dX6_ofChain_69 : decode (m_code mX6_ofChain) 69 = .ok (.iload_n 1, 1) := by decide +kernel
theorem dX6_ofChain_70 : decode (m_code mX6_ofChain) 70 = .ok (.iconst 0, 1) := by decide +kernel
theorem dX6_ofChain_71 : decode (m_code mX6_ofChain) 71 = .ok (.invokestatic 138, 3) := by decide +kernel
theorem dX6_ofChain_74 : decode (m_code mX6_ofChain) 74 = .ok (.ireturn, 1) := by decide +kernel
theorem dX6_ofChain_75 : decode (m_code mX6_ofChain) 75 = .ok (.aload_n 0, 1) := by decide +kernel
theorem dX6_ofChain_76 : decode (m_code mX6_ofChain) 76 = .ok (.getfield 109, 3) := by decide +kernel
theorem dX6_ofChain_79 : decode (m_code mX6_ofChain) 79 = .ok (.iload_n 1, 1) := by decide +kernel
theorem dX6_ofChain_80 : decode (m_code mX6_ofChain) 80 = .ok (.iconst 1, 1) := by decide +kernel
theorem dX6_ofChain_81 : decode (m_code mX6_ofChain) 81 = .ok (.invokestatic 138, 3) := by decide +kernel
theorem dX6_ofChain_84 : decode (m_code mX6_ofChain) 84 = .ok (.ireturn, 1) := by decide +kernel
theorem dX6_ofChain_85 : decode (m_code mX6_ofChain) 85 = .ok (.aload_n 0, 1) := by decide +kernel
theorem dX6_ofChain_86 : decode (m_code mX6_ofChain) 86 = .ok (.iload_n 1, 1) := by decide +kernel
theorem dX6_ofChain_87 : decode (m_code mX6_ofChain) 87 = .ok (.invokestatic 142, 3) := by decide +kernel
theorem dX6_ofChain_90 : decode (m_code mX6_ofChain) 90 = .ok (.ireturn, 1) := by decide +kernel
theorem dX6_ofChain_91 : decode (m_code mX6_ofChain) 91 = .ok (.aload_n 0, 1) := by decide +kernel
theorem dX6_ofChain_92 : decode (m_code mX6_ofChain) 92 = .ok (.getfield 109, 3) := by decide +kernel
theorem dX6_ofChain_95 : decode (m_code mX6_ofChain) 95 = .ok (.iload_n 1, 1) := by decide +kernel
theorem dX6_ofChain_96 : decode (m_code mX6_ofChain) 96 = .ok (.invokevirtual 146, 3) := by decide +kernel
theorem dX6_ofChain_99 : decode (m_code mX6_ofChain) 99 = .ok (.ireturn, 1) := by decide +kernel
theorem dX6_ofChain_100 : decode (m_code mX6_ofChain) 100 = .ok (.aload_n 0, 1) := by decide +kernel
theorem dX6_ofChain_101 : decode (m_code mX6_ofChain) 101 = .ok (.iload_n 1, 1) := by decide +kernel
theorem dX6_ofChain_102 : decode (m_code mX6_ofChain) 102 = .ok (.invokestatic 149, 3) := by decide +kernel
theorem dX6_ofChain_105 : decode (m_code mX6_ofChain) 105 = .ok (.ireturn, 1) := by decide +kernel
theorem dX6_ofChain_106 : decode (m_code mX6_ofChain) 106 = .ok (.iconst (-1), 1) := by decide +kernel
theorem dX6_ofChain_107 : decode (m_code mX6_ofChain) 107 = .ok (.ireturn, 1) := by decide +kernel
theorem dX6_payloadsOf_0 : decode (m_code mX6_payloadsOf) 0 = .ok (.aload_n 0, 1) := by decide +kernel
theorem dX6_payloadsOf_1 : decode (m_code mX6_payloadsOf) 1 = .ok (.getfield 76, 3) := by decide +kernel
theorem dX6_payloadsOf_4 : decode (m_code mX6_payloadsOf) 4 = .ok (.iload_n 1, 1) := by decide +kernel
theorem dX6_payloadsOf_5 : decode (m_code mX6_payloadsOf) 5 = .ok (.iaload, 1) := by decide +kernel
theorem dX6_payloadsOf_6 : decode (m_code mX6_payloadsOf) 6 = .ok (.istore_n 2, 1) := by decide +kernel
theorem dX6_payloadsOf_7 : decode (m_code mX6_payloadsOf) 7 = .ok (.iload_n 1, 1) := by decide +kernel
theorem dX6_payloadsOf_8 : decode (m_code mX6_payloadsOf) 8 = .ok (.istore_n 3, 1) := by decide +kernel
theorem dX6_payloadsOf_9 : decode (m_code mX6_payloadsOf) 9 = .ok (.iconst 0, 1) := by decide +kernel
theorem dX6_payloadsOf_10 : decode (m_code mX6_payloadsOf) 10 = .ok (.istore 4, 2) := by decide +kernel
theorem dX6_payloadsOf_12 : decode (m_code mX6_payloadsOf) 12 = .ok (.iload 4, 2) := by decide +kernel
theorem dX6_payloadsOf_14 : decode (m_code mX6_payloadsOf) 14 = .ok (.bipush 100, 2) := by decide +kernel
theorem dX6_payloadsOf_16 : decode (m_code mX6_payloadsOf) 16 = .ok (.if_icmp .ge 29, 3) := by decide +kernel
theorem dX6_payloadsOf_19 : decode (m_code mX6_payloadsOf) 19 = .ok (.iload_n 3, 1) := by decide +kernel
theorem dX6_payloadsOf_20 : decode (m_code mX6_payloadsOf) 20 = .ok (.ifCond .le 25, 3) := by decide +kernel
theorem dX6_payloadsOf_23 : decode (m_code mX6_payloadsOf) 23 = .ok (.aload_n 0, 1) := by decide +kernel
theorem dX6_payloadsOf_24 : decode (m_code mX6_payloadsOf) 24 = .ok (.getfield 70, 3) := by decide +kernel
theorem dX6_payloadsOf_27 : decode (m_code mX6_payloadsOf) 27 = .ok (.iload_n 3, 1) := by decide +kernel
theorem dX6_payloadsOf_28 : decode (m_code mX6_payloadsOf) 28 = .ok (.iaload, 1) := by decide +kernel
theorem dX6_payloadsOf_29 : decode (m_code mX6_payloadsOf) 29 = .ok (.istore_n 3, 1) := by decide +kernel
theorem dX6_payloadsOf_30 : decode (m_code mX6_payloadsOf) 30 = .ok (.iload_n 2, 1) := by decide +kernel
theorem dX6_payloadsOf_31 : decode (m_code mX6_payloadsOf) 31 = .ok (.aload_n 0, 1) := by decide +kernel
theorem dX6_payloadsOf_32 : decode (m_code mX6_payloadsOf) 32 = .ok (.getfield 76, 3) := by decide +kernel
theorem dX6_payloadsOf_35 : decode (m_code mX6_payloadsOf) 35 = .ok (.iload_n 3, 1) := by decide +kernel
theorem dX6_payloadsOf_36 : decode (m_code mX6_payloadsOf) 36 = .ok (.iaload, 1) := by decide +kernel
theorem dX6_payloadsOf_37 : decode (m_code mX6_payloadsOf) 37 = .ok (.iadd, 1) := by decide +kernel
theorem dX6_payloadsOf_38 : decode (m_code mX6_payloadsOf) 38 = .ok (.istore_n 2, 1) := by decide +kernel
theorem dX6_payloadsOf_39 : decode (m_code mX6_payloadsOf) 39 = .ok (.iinc 4 1, 3) := by decide +kernel
theorem dX6_payloadsOf_42 : decode (m_code mX6_payloadsOf) 42 = .ok (.goto (-30), 3) := by decide +kernel
theorem dX6_payloadsOf_45 : decode (m_code mX6_payloadsOf) 45 = .ok (.iload_n 2, 1) := by decide +kernel
theorem dX6_payloadsOf_46 : decode (m_code mX6_payloadsOf) 46 = .ok (.ireturn, 1) := by decide +kernel
theorem dX6_childrenOf_0 : decode (m_code mX6_childrenOf) 0 = .ok (.iconst 0, 1) := by decide +kernel
theorem dX6_childrenOf_1 : decode (m_code mX6_childrenOf) 1 = .ok (.istore_n 3, 1) := by decide +kernel
theorem dX6_childrenOf_2 : decode (m_code mX6_childrenOf) 2 = .ok (.iconst 0, 1) := by decide +kernel
theorem dX6_childrenOf_3 : decode (m_code mX6_childrenOf) 3 = .ok (.istore 4, 2) := by decide +kernel
theorem dX6_childrenOf_5 : decode (m_code mX6_childrenOf) 5 = .ok (.iload_n 1, 1) := by decide +kernel
theorem dX6_childrenOf_6 : decode (m_code mX6_childrenOf) 6 = .ok (.istore 5, 2) := by decide +kernel
theorem dX6_childrenOf_8 : decode (m_code mX6_childrenOf) 8 = .ok (.iload 5, 2) := by decide +kernel
theorem dX6_childrenOf_10 : decode (m_code mX6_childrenOf) 10 = .ok (.aload_n 0, 1) := by decide +kernel
theorem dX6_childrenOf_11 : decode (m_code mX6_childrenOf) 11 = .ok (.getfield 130, 3) := by decide +kernel
theorem dX6_childrenOf_14 : decode (m_code mX6_childrenOf) 14 = .ok (.if_icmp .ge 36, 3) := by decide +kernel
theorem dX6_childrenOf_17 : decode (m_code mX6_childrenOf) 17 = .ok (.aload_n 0, 1) := by decide +kernel
theorem dX6_childrenOf_18 : decode (m_code mX6_childrenOf) 18 = .ok (.iload 5, 2) := by decide +kernel
theorem dX6_childrenOf_20 : decode (m_code mX6_childrenOf) 20 = .ok (.iload_n 1, 1) := by decide +kernel
theorem dX6_childrenOf_21 : decode (m_code mX6_childrenOf) 21 = .ok (.invokevirtual 113, 3) := by decide +kernel
theorem dX6_childrenOf_24 : decode (m_code mX6_childrenOf) 24 = .ok (.ifCond .eq 20, 3) := by decide +kernel
theorem dX6_childrenOf_27 : decode (m_code mX6_childrenOf) 27 = .ok (.iinc 3 1, 3) := by decide +kernel
theorem dX6_childrenOf_30 : decode (m_code mX6_childrenOf) 30 = .ok (.iload 4, 2) := by decide +kernel
theorem dX6_childrenOf_32 : decode (m_code mX6_childrenOf) 32 = .ok (.aload_n 0, 1) := by decide +kernel
theorem dX6_childrenOf_33 : decode (m_code mX6_childrenOf) 33 = .ok (.getfield 82, 3) := by decide +kernel
theorem dX6_childrenOf_36 : decode (m_code mX6_childrenOf) 36 = .ok (.iload 5, 2) := by decide +kernel
theorem dX6_childrenOf_38 : decode (m_code mX6_childrenOf) 38 = .ok (.iaload, 1) := by decide +kernel
theorem dX6_childrenOf_39 : decode (m_code mX6_childrenOf) 39 = .ok (.invokestatic 152, 3) := by decide +kernel
theorem dX6_childrenOf_42 : decode (m_code mX6_childrenOf) 42 = .ok (.istore 4, 2) := by decide +kernel
theorem dX6_childrenOf_44 : decode (m_code mX6_childrenOf) 44 = .ok (.iinc 5 1, 3) := by decide +kernel
theorem dX6_childrenOf_47 : decode (m_code mX6_childrenOf) 47 = .ok (.goto (-39), 3) := by decide +kernel
theorem dX6_childrenOf_50 : decode (m_code mX6_childrenOf) 50 = .ok (.iload_n 2, 1) := by decide +kernel
theorem dX6_childrenOf_51 : decode (m_code mX6_childrenOf) 51 = .ok (.ifCond .eq 8, 3) := by decide +kernel
theorem dX6_childrenOf_54 : decode (m_code mX6_childrenOf) 54 = .ok (.iload 4, 2) := by decide +kernel
theorem dX6_childrenOf_56 : decode (m_code mX6_childrenOf) 56 = .ok (.goto 4, 3) := by decide +kernel
theorem dX6_childrenOf_59 : decode (m_code mX6_childrenOf) 59 = .ok (.iload_n 3, 1) := by decide +kernel
theorem dX6_childrenOf_60 : decode (m_code mX6_childrenOf) 60 = .ok (.ireturn, 1) := by decide +kernel
theorem dX6_committersOf_0 : decode (m_code mX6_committersOf) 0 = .ok (.iconst 0, 1) := by decide +kernel
theorem dX6_committersOf_1 : decode (m_code mX6_committersOf) 1 = .ok (.istore_n 2, 1) := by decide +kernel
theorem dX6_committersOf_2 : decode (m_code mX6_committersOf) 2 = .ok (.iconst 0, 1) := by decide +kernel
theorem dX6_committersOf_3 : decode (m_code mX6_committersOf) 3 = .ok (.istore_n 3, 1) := by decide +kernel
theorem dX6_committersOf_4 : decode (m_code mX6_committersOf) 4 = .ok (.iload_n 3, 1) := by decide +kernel
theorem dX6_committersOf_5 : decode (m_code mX6_committersOf) 5 = .ok (.aload_n 0, 1) := by decide +kernel
theorem dX6_committersOf_6 : decode (m_code mX6_committersOf) 6 = .ok (.getfield 158, 3) := by decide +kernel
theorem dX6_committersOf_9 : decode (m_code mX6_committersOf) 9 = .ok (.if_icmp .ge 29, 3) := by decide +kernel
theorem dX6_committersOf_12 : decode (m_code mX6_committersOf) 12 = .ok (.iload_n 2, 1) := by decide +kernel
theorem dX6_committersOf_13 : decode (m_code mX6_committersOf) 13 = .ok (.aload_n 0, 1) := by decide +kernel
theorem dX6_committersOf_14 : decode (m_code mX6_committersOf) 14 = .ok (.getfield 9, 3) := by decide +kernel
theorem dX6_committersOf_17 : decode (m_code mX6_committersOf) 17 = .ok (.iload_n 3, 1) := by decide +kernel
theorem dX6_committersOf_18 : decode (m_code mX6_committersOf) 18 = .ok (.aaload, 1) := by decide +kernel
theorem dX6_committersOf_19 : decode (m_code mX6_committersOf) 19 = .ok (.aload_n 0, 1) := by decide +kernel
theorem dX6_committersOf_20 : decode (m_code mX6_committersOf) 20 = .ok (.getfield 109, 3) := by decide +kernel
theorem dX6_committersOf_23 : decode (m_code mX6_committersOf) 23 = .ok (.iload_n 1, 1) := by decide +kernel
theorem dX6_committersOf_24 : decode (m_code mX6_committersOf) 24 = .ok (.invokevirtual 161, 3) := by decide +kernel
theorem dX6_committersOf_27 : decode (m_code mX6_committersOf) 27 = .ok (.invokestatic 56, 3) := by decide +kernel
theorem dX6_committersOf_30 : decode (m_code mX6_committersOf) 30 = .ok (.iadd, 1) := by decide +kernel
theorem dX6_committersOf_31 : decode (m_code mX6_committersOf) 31 = .ok (.istore_n 2, 1) := by decide +kernel
theorem dX6_committersOf_32 : decode (m_code mX6_committersOf) 32 = .ok (.iinc 3 1, 3) := by decide +kernel
theorem dX6_committersOf_35 : decode (m_code mX6_committersOf) 35 = .ok (.goto (-31), 3) := by decide +kernel
theorem dX6_committersOf_38 : decode (m_code mX6_committersOf) 38 = .ok (.iload_n 2, 1) := by decide +kernel
theorem dX6_committersOf_39 : decode (m_code mX6_committersOf) 39 = .ok (.ireturn, 1) := by decide +kernel
theorem dX6_holdersOf_0 : decode (m_code mX6_holdersOf) 0 = .ok (.iconst 0, 1) := by decide +kernel
theorem dX6_holdersOf_1 : decode (m_code mX6_holdersOf) 1 = .ok (.istore_n 2, 1) := by decide +kernel
theorem dX6_holdersOf_2 : decode (m_code mX6_holdersOf) 2 = .ok (.iconst 0, 1) := by decide +kernel
theorem dX6_holdersOf_3 : decode (m_code mX6_holdersOf) 3 = .ok (.istore_n 3, 1) := by decide +kernel
theorem dX6_holdersOf_4 : decode (m_code mX6_holdersOf) 4 = .ok (.iload_n 3, 1) := by decide +kernel
theorem dX6_holdersOf_5 : decode (m_code mX6_holdersOf) 5 = .ok (.aload_n 0, 1) := by decide +kernel
theorem dX6_holdersOf_6 : decode (m_code mX6_holdersOf) 6 = .ok (.getfield 158, 3) := by decide +kernel
theorem dX6_holdersOf_9 : decode (m_code mX6_holdersOf) 9 = .ok (.if_icmp .ge 48, 3) := by decide +kernel
theorem dX6_holdersOf_12 : decode (m_code mX6_holdersOf) 12 = .ok (.iload_n 2, 1) := by decide +kernel
theorem dX6_holdersOf_13 : decode (m_code mX6_holdersOf) 13 = .ok (.aload_n 0, 1) := by decide +kernel
theorem dX6_holdersOf_14 : decode (m_code mX6_holdersOf) 14 = .ok (.iload_n 3, 1) := by decide +kernel
theorem dX6_holdersOf_15 : decode (m_code mX6_holdersOf) 15 = .ok (.invokevirtual 165, 3) := by decide +kernel
theorem dX6_holdersOf_18 : decode (m_code mX6_holdersOf) 18 = .ok (.ifCond .eq 27, 3) := by decide +kernel
theorem dX6_holdersOf_21 : decode (m_code mX6_holdersOf) 21 = .ok (.aload_n 0, 1) := by decide +kernel
theorem dX6_holdersOf_22 : decode (m_code mX6_holdersOf) 22 = .ok (.getfield 109, 3) := by decide +kernel
theorem dX6_holdersOf_25 : decode (m_code mX6_holdersOf) 25 = .ok (.aload_n 0, 1) := by decide +kernel
theorem dX6_holdersOf_26 : decode (m_code mX6_holdersOf) 26 = .ok (.getfield 9, 3) := by decide +kernel
theorem dX6_holdersOf_29 : decode (m_code mX6_holdersOf) 29 = .ok (.iload_n 3, 1) := by decide +kernel
theorem dX6_holdersOf_30 : decode (m_code mX6_holdersOf) 30 = .ok (.aaload, 1) := by decide +kernel
theorem dX6_holdersOf_31 : decode (m_code mX6_holdersOf) 31 = .ok (.getfield 36, 3) := by decide +kernel
theorem dX6_holdersOf_34 : decode (m_code mX6_holdersOf) 34 = .ok (.iload_n 1, 1) := by decide +kernel
theorem dX6_holdersOf_35 : decode (m_code mX6_holdersOf) 35 = .ok (.invokevirtual 113, 3) := by decide +kernel
theorem dX6_holdersOf_38 : decode (m_code mX6_holdersOf) 38 = .ok (.ifCond .eq 7, 3) := by decide +kernel
theorem dX6_holdersOf_41 : decode (m_code mX6_holdersOf) 41 = .ok (.iconst 1, 1) := by decide +kernel
theorem dX6_holdersOf_42 : decode (m_code mX6_holdersOf) 42 = .ok (.goto 4, 3) := by decide +kernel
theorem dX6_holdersOf_45 : decode (m_code mX6_holdersOf) 45 = .ok (.iconst 0, 1) := by decide +kernel
theorem dX6_holdersOf_46 : decode (m_code mX6_holdersOf) 46 = .ok (.invokestatic 56, 3) := by decide +kernel
theorem dX6_holdersOf_49 : decode (m_code mX6_holdersOf) 49 = .ok (.iadd, 1) := by decide +kernel
theorem dX6_holdersOf_50 : decode (m_code mX6_holdersOf) 50 = .ok (.istore_n 2, 1) := by decide +kernel
theorem dX6_holdersOf_51 : decode (m_code mX6_holdersOf) 51 = .ok (.iinc 3 1, 3) := by decide +kernel
theorem dX6_holdersOf_54 : decode (m_code mX6_holdersOf) 54 = .ok (.goto (-50), 3) := by decide +kernel
theorem dX6_holdersOf_57 : decode (m_code mX6_holdersOf) 57 = .ok (.iload_n 2, 1) := by decide +kernel
theorem dX6_holdersOf_58 : decode (m_code mX6_holdersOf) 58 = .ok (.ireturn, 1) := by decide +kernel
theorem dX6_rivalCertificates_0 : decode (m_code mX6_rivalCertificates) 0 = .ok (.iconst 0, 1) := by decide +kernel
theorem dX6_rivalCertificates_1 : decode (m_code mX6_rivalCertificates) 1 = .ok (.istore_n 1, 1) := by decide +kernel
theorem dX6_rivalCertificates_2 : decode (m_code mX6_rivalCertificates) 2 = .ok (.iconst 0, 1) := by decide +kernel
theorem dX6_rivalCertificates_3 : decode (m_code mX6_rivalCertificates) 3 = .ok (.istore_n 2, 1) := by decide +kernel
theorem dX6_rivalCertificates_4 : decode (m_code mX6_rivalCertificates) 4 = .ok (.iload_n 2, 1) := by decide +kernel
theorem dX6_rivalCertificates_5 : decode (m_code mX6_rivalCertificates) 5 = .ok (.aload_n 0, 1) := by decide +kernel
theorem dX6_rivalCertificates_6 : decode (m_code mX6_rivalCertificates) 6 = .ok (.getfield 130, 3) := by decide +kernel
theorem dX6_rivalCertificates_9 : decode (m_code mX6_rivalCertificates) 9 = .ok (.if_icmp .ge 73, 3) := by decide +kernel
theorem dX6_rivalCertificates_12 : decode (m_code mX6_rivalCertificates) 12 = .ok (.iload_n 2, 1) := by decide +kernel
theorem dX6_rivalCertificates_13 : decode (m_code mX6_rivalCertificates) 13 = .ok (.iconst 1, 1) := by decide +kernel
theorem dX6_rivalCertificates_14 : decode (m_code mX6_rivalCertificates) 14 = .ok (.iadd, 1) := by decide +kernel
theorem dX6_rivalCertificates_15 : decode (m_code mX6_rivalCertificates) 15 = .ok (.istore_n 3, 1) := by decide +kernel
theorem dX6_rivalCertificates_16 : decode (m_code mX6_rivalCertificates) 16 = .ok (.iload_n 3, 1) := by decide +kernel
theorem dX6_rivalCertificates_17 : decode (m_code mX6_rivalCertificates) 17 = .ok (.aload_n 0, 1) := by decide +kernel
theorem dX6_rivalCertificates_18 : decode (m_code mX6_rivalCertificates) 18 = .ok (.getfield 130, 3) := by decide +kernel
theorem dX6_rivalCertificates_21 : decode (m_code mX6_rivalCertificates) 21 = .ok (.if_icmp .ge 55, 3) := by decide +kernel
theorem dX6_rivalCertificates_24 : decode (m_code mX6_rivalCertificates) 24 = .ok (.aload_n 0, 1) := by decide +kernel
theorem dX6_rivalCertificates_25 : decode (m_code mX6_rivalCertificates) 25 = .ok (.getfield 88, 3) := by decide +kernel
theorem dX6_rivalCertificates_28 : decode (m_code mX6_rivalCertificates) 28 = .ok (.iload_n 2, 1) := by decide +kernel
theorem dX6_rivalCertificates_29 : decode (m_code mX6_rivalCertificates) 29 = .ok (.iaload, 1) := by decide +kernel
theorem dX6_rivalCertificates_30 : decode (m_code mX6_rivalCertificates) 30 = .ok (.iconst 1, 1) := by decide +kernel
theorem dX6_rivalCertificates_31 : decode (m_code mX6_rivalCertificates) 31 = .ok (.if_icmp .ne 45, 3) := by decide +kernel
theorem dX6_rivalCertificates_34 : decode (m_code mX6_rivalCertificates) 34 = .ok (.iload_n 1, 1) := by decide +kernel
theorem dX6_rivalCertificates_35 : decode (m_code mX6_rivalCertificates) 35 = .ok (.aload_n 0, 1) := by decide +kernel
theorem dX6_rivalCertificates_36 : decode (m_code mX6_rivalCertificates) 36 = .ok (.getfield 88, 3) := by decide +kernel
theorem dX6_rivalCertificates_39 : decode (m_code mX6_rivalCertificates) 39 = .ok (.iload_n 3, 1) := by decide +kernel
theorem dX6_rivalCertificates_40 : decode (m_code mX6_rivalCertificates) 40 = .ok (.iaload, 1) := by decide +kernel
theorem dX6_rivalCertificates_41 : decode (m_code mX6_rivalCertificates) 41 = .ok (.iconst 1, 1) := by decide +kernel
theorem dX6_rivalCertificates_42 : decode (m_code mX6_rivalCertificates) 42 = .ok (.if_icmp .ne 22, 3) := by decide +kernel
theorem dX6_rivalCertificates_45 : decode (m_code mX6_rivalCertificates) 45 = .ok (.aload_n 0, 1) := by decide +kernel
theorem dX6_rivalCertificates_46 : decode (m_code mX6_rivalCertificates) 46 = .ok (.getfield 65, 3) := by decide +kernel
theorem dX6_rivalCertificates_49 : decode (m_code mX6_rivalCertificates) 49 = .ok (.iload_n 2, 1) := by decide +kernel
theorem dX6_rivalCertificates_50 : decode (m_code mX6_rivalCertificates) 50 = .ok (.iaload, 1) := by decide +kernel
theorem dX6_rivalCertificates_51 : decode (m_code mX6_rivalCertificates) 51 = .ok (.aload_n 0, 1) := by decide +kernel
theorem dX6_rivalCertificates_52 : decode (m_code mX6_rivalCertificates) 52 = .ok (.getfield 65, 3) := by decide +kernel
theorem dX6_rivalCertificates_55 : decode (m_code mX6_rivalCertificates) 55 = .ok (.iload_n 3, 1) := by decide +kernel
theorem dX6_rivalCertificates_56 : decode (m_code mX6_rivalCertificates) 56 = .ok (.iaload, 1) := by decide +kernel
theorem dX6_rivalCertificates_57 : decode (m_code mX6_rivalCertificates) 57 = .ok (.if_icmp .ne 7, 3) := by decide +kernel
theorem dX6_rivalCertificates_60 : decode (m_code mX6_rivalCertificates) 60 = .ok (.iconst 1, 1) := by decide +kernel
theorem dX6_rivalCertificates_61 : decode (m_code mX6_rivalCertificates) 61 = .ok (.goto 4, 3) := by decide +kernel
theorem dX6_rivalCertificates_64 : decode (m_code mX6_rivalCertificates) 64 = .ok (.iconst 0, 1) := by decide +kernel
theorem dX6_rivalCertificates_65 : decode (m_code mX6_rivalCertificates) 65 = .ok (.invokestatic 56, 3) := by decide +kernel
theorem dX6_rivalCertificates_68 : decode (m_code mX6_rivalCertificates) 68 = .ok (.iadd, 1) := by decide +kernel
theorem dX6_rivalCertificates_69 : decode (m_code mX6_rivalCertificates) 69 = .ok (.istore_n 1, 1) := by decide +kernel
theorem dX6_rivalCertificates_70 : decode (m_code mX6_rivalCertificates) 70 = .ok (.iinc 3 1, 3) := by decide +kernel
theorem dX6_rivalCertificates_73 : decode (m_code mX6_rivalCertificates) 73 = .ok (.goto (-57), 3) := by decide +kernel
theorem dX6_rivalCertificates_76 : decode (m_code mX6_rivalCertificates) 76 = .ok (.iinc 2 1, 3) := by decide +kernel
theorem dX6_rivalCertificates_79 : decode (m_code mX6_rivalCertificates) 79 = .ok (.goto (-75), 3) := by decide +kernel
theorem dX6_rivalCertificates_82 : decode (m_code mX6_rivalCertificates) 82 = .ok (.iload_n 1, 1) := by decide +kernel
theorem dX6_rivalCertificates_83 : decode (m_code mX6_rivalCertificates) 83 = .ok (.ireturn, 1) := by decide +kernel
theorem dX6_accusedNodes_0 : decode (m_code mX6_accusedNodes) 0 = .ok (.iconst 0, 1) := by decide +kernel
theorem dX6_accusedNodes_1 : decode (m_code mX6_accusedNodes) 1 = .ok (.istore_n 1, 1) := by decide +kernel
theorem dX6_accusedNodes_2 : decode (m_code mX6_accusedNodes) 2 = .ok (.iconst 0, 1) := by decide +kernel
theorem dX6_accusedNodes_3 : decode (m_code mX6_accusedNodes) 3 = .ok (.istore_n 2, 1) := by decide +kernel
theorem dX6_accusedNodes_4 : decode (m_code mX6_accusedNodes) 4 = .ok (.iload_n 2, 1) := by decide +kernel
theorem dX6_accusedNodes_5 : decode (m_code mX6_accusedNodes) 5 = .ok (.aload_n 0, 1) := by decide +kernel
theorem dX6_accusedNodes_6 : decode (m_code mX6_accusedNodes) 6 = .ok (.getfield 168, 3) := by decide +kernel
theorem dX6_accusedNodes_9 : decode (m_code mX6_accusedNodes) 9 = .ok (.getfield 172, 3) := by decide +kernel
theorem dX6_accusedNodes_12 : decode (m_code mX6_accusedNodes) 12 = .ok (.if_icmp .ge 24, 3) := by decide +kernel
theorem dX6_accusedNodes_15 : decode (m_code mX6_accusedNodes) 15 = .ok (.iload_n 1, 1) := by decide +kernel
theorem dX6_accusedNodes_16 : decode (m_code mX6_accusedNodes) 16 = .ok (.iconst 1, 1) := by decide +kernel
theorem dX6_accusedNodes_17 : decode (m_code mX6_accusedNodes) 17 = .ok (.aload_n 0, 1) := by decide +kernel
theorem dX6_accusedNodes_18 : decode (m_code mX6_accusedNodes) 18 = .ok (.getfield 168, 3) := by decide +kernel
theorem dX6_accusedNodes_21 : decode (m_code mX6_accusedNodes) 21 = .ok (.iload_n 2, 1) := by decide +kernel
theorem dX6_accusedNodes_22 : decode (m_code mX6_accusedNodes) 22 = .ok (.iconst 1, 1) := by decide +kernel
theorem dX6_accusedNodes_23 : decode (m_code mX6_accusedNodes) 23 = .ok (.iconst 5, 1) := by decide +kernel
theorem dX6_accusedNodes_24 : decode (m_code mX6_accusedNodes) 24 = .ok (.invokevirtual 175, 3) := by decide +kernel
theorem dX6_accusedNodes_27 : decode (m_code mX6_accusedNodes) 27 = .ok (.ishl, 1) := by decide +kernel
theorem dX6_accusedNodes_28 : decode (m_code mX6_accusedNodes) 28 = .ok (.ior, 1) := by decide +kernel
theorem dX6_accusedNodes_29 : decode (m_code mX6_accusedNodes) 29 = .ok (.istore_n 1, 1) := by decide +kernel
theorem dX6_accusedNodes_30 : decode (m_code mX6_accusedNodes) 30 = .ok (.iinc 2 1, 3) := by decide +kernel
theorem dX6_accusedNodes_33 : decode (m_code mX6_accusedNodes) 33 = .ok (.goto (-29), 3) := by decide +kernel
theorem dX6_accusedNodes_36 : decode (m_code mX6_accusedNodes) 36 = .ok (.iload_n 1, 1) := by decide +kernel
theorem dX6_accusedNodes_37 : decode (m_code mX6_accusedNodes) 37 = .ok (.invokestatic 179, 3) := by decide +kernel
theorem dX6_accusedNodes_40 : decode (m_code mX6_accusedNodes) 40 = .ok (.ireturn, 1) := by decide +kernel
theorem dX6_commonLog_0 : decode (m_code mX6_commonLog) 0 = .ok (.iconst (-1), 1) := by decide +kernel
theorem dX6_commonLog_1 : decode (m_code mX6_commonLog) 1 = .ok (.istore_n 1, 1) := by decide +kernel
theorem dX6_commonLog_2 : decode (m_code mX6_commonLog) 2 = .ok (.iconst 0, 1) := by decide +kernel
theorem dX6_commonLog_3 : decode (m_code mX6_commonLog) 3 = .ok (.istore_n 2, 1) := by decide +kernel
theorem dX6_commonLog_4 : decode (m_code mX6_commonLog) 4 = .ok (.iconst 0, 1) := by decide +kernel
theorem dX6_commonLog_5 : decode (m_code mX6_commonLog) 5 = .ok (.istore_n 3, 1) := by decide +kernel
theorem dX6_commonLog_6 : decode (m_code mX6_commonLog) 6 = .ok (.iload_n 3, 1) := by decide +kernel
theorem dX6_commonLog_7 : decode (m_code mX6_commonLog) 7 = .ok (.aload_n 0, 1) := by decide +kernel
theorem dX6_commonLog_8 : decode (m_code mX6_commonLog) 8 = .ok (.getfield 158, 3) := by decide +kernel
theorem dX6_commonLog_11 : decode (m_code mX6_commonLog) 11 = .ok (.if_icmp .ge 53, 3) := by decide +kernel
theorem dX6_commonLog_14 : decode (m_code mX6_commonLog) 14 = .ok (.aload_n 0, 1) := by decide +kernel
theorem dX6_commonLog_15 : decode (m_code mX6_commonLog) 15 = .ok (.iload_n 3, 1) := by decide +kernel
theorem dX6_commonLog_16 : decode (m_code mX6_commonLog) 16 = .ok (.invokevirtual 165, 3) := by decide +kernel
theorem dX6_commonLog_19 : decode (m_code mX6_commonLog) 19 = .ok (.ifCond .eq 39, 3) := by decide +kernel
theorem dX6_commonLog_22 : decode (m_code mX6_commonLog) 22 = .ok (.iload_n 1, 1) := by decide +kernel
theorem dX6_commonLog_23 : decode (m_code mX6_commonLog) 23 = .ok (.iconst (-1), 1) := by decide +kernel
theorem dX6_commonLog_24 : decode (m_code mX6_commonLog) 24 = .ok (.if_icmp .ne 15, 3) := by decide +kernel
theorem dX6_commonLog_27 : decode (m_code mX6_commonLog) 27 = .ok (.aload_n 0, 1) := by decide +kernel
theorem dX6_commonLog_28 : decode (m_code mX6_commonLog) 28 = .ok (.getfield 9, 3) := by decide +kernel
theorem dX6_commonLog_31 : decode (m_code mX6_commonLog) 31 = .ok (.iload_n 3, 1) := by decide +kernel
theorem dX6_commonLog_32 : decode (m_code mX6_commonLog) 32 = .ok (.aaload, 1) := by decide +kernel
theorem dX6_commonLog_33 : decode (m_code mX6_commonLog) 33 = .ok (.getfield 42, 3) := by decide +kernel
theorem dX6_commonLog_36 : decode (m_code mX6_commonLog) 36 = .ok (.goto 19, 3) := by decide +kernel
theorem dX6_commonLog_39 : decode (m_code mX6_commonLog) 39 = .ok (.aload_n 0, 1) := by decide +kernel
theorem dX6_commonLog_40 : decode (m_code mX6_commonLog) 40 = .ok (.getfield 9, 3) := by decide +kernel
theorem dX6_commonLog_43 : decode (m_code mX6_commonLog) 43 = .ok (.iload_n 1, 1) := by decide +kernel
theorem dX6_commonLog_44 : decode (m_code mX6_commonLog) 44 = .ok (.aaload, 1) := by decide +kernel
theorem dX6_commonLog_45 : decode (m_code mX6_commonLog) 45 = .ok (.aload_n 0, 1) := by decide +kernel
theorem dX6_commonLog_46 : decode (m_code mX6_commonLog) 46 = .ok (.getfield 9, 3) := by decide +kernel
theorem dX6_commonLog_49 : decode (m_code mX6_commonLog) 49 = .ok (.iload_n 3, 1) := by decide +kernel
theorem dX6_commonLog_50 : decode (m_code mX6_commonLog) 50 = .ok (.aaload, 1) := by decide +kernel
theorem dX6_commonLog_51 : decode (m_code mX6_commonLog) 51 = .ok (.iload_n 2, 1) := by decide +kernel
theorem dX6_commonLog_52 : decode (m_code mX6_commonLog) 52 = .ok (.invokestatic 184, 3) := by decide +kernel
theorem dX6_commonLog_55 : decode (m_code mX6_commonLog) 55 = .ok (.istore_n 2, 1) := by decide +kernel
theorem dX6_commonLog_56 : decode (m_code mX6_commonLog) 56 = .ok (.iload_n 3, 1) := by decide +kernel
theorem dX6_commonLog_57 : decode (m_code mX6_commonLog) 57 = .ok (.istore_n 1, 1) := by decide +kernel
theorem dX6_commonLog_58 : decode (m_code mX6_commonLog) 58 = .ok (.iinc 3 1, 3) := by decide +kernel
theorem dX6_commonLog_61 : decode (m_code mX6_commonLog) 61 = .ok (.goto (-55), 3) := by decide +kernel
theorem dX6_commonLog_64 : decode (m_code mX6_commonLog) 64 = .ok (.iload_n 2, 1) := by decide +kernel
theorem dX6_commonLog_65 : decode (m_code mX6_commonLog) 65 = .ok (.ireturn, 1) := by decide +kernel
theorem dX6_sharedLog_0 : decode (m_code mX6_sharedLog) 0 = .ok (.iload_n 2, 1) := by decide +kernel
theorem dX6_sharedLog_1 : decode (m_code mX6_sharedLog) 1 = .ok (.aload_n 0, 1) := by decide +kernel
theorem dX6_sharedLog_2 : decode (m_code mX6_sharedLog) 2 = .ok (.getfield 42, 3) := by decide +kernel
theorem dX6_sharedLog_5 : decode (m_code mX6_sharedLog) 5 = .ok (.aload_n 1, 1) := by decide +kernel
theorem dX6_sharedLog_6 : decode (m_code mX6_sharedLog) 6 = .ok (.getfield 42, 3) := by decide +kernel
theorem dX6_sharedLog_9 : decode (m_code mX6_sharedLog) 9 = .ok (.invokestatic 188, 3) := by decide +kernel
theorem dX6_sharedLog_12 : decode (m_code mX6_sharedLog) 12 = .ok (.invokestatic 188, 3) := by decide +kernel
theorem dX6_sharedLog_15 : decode (m_code mX6_sharedLog) 15 = .ok (.istore_n 3, 1) := by decide +kernel
theorem dX6_sharedLog_16 : decode (m_code mX6_sharedLog) 16 = .ok (.iconst 0, 1) := by decide +kernel
theorem dX6_sharedLog_17 : decode (m_code mX6_sharedLog) 17 = .ok (.istore 4, 2) := by decide +kernel
theorem dX6_sharedLog_19 : decode (m_code mX6_sharedLog) 19 = .ok (.iload 4, 2) := by decide +kernel
theorem dX6_sharedLog_21 : decode (m_code mX6_sharedLog) 21 = .ok (.iload_n 3, 1) := by decide +kernel
theorem dX6_sharedLog_22 : decode (m_code mX6_sharedLog) 22 = .ok (.if_icmp .ge 29, 3) := by decide +kernel
theorem dX6_sharedLog_25 : decode (m_code mX6_sharedLog) 25 = .ok (.aload_n 0, 1) := by decide +kernel
theorem dX6_sharedLog_26 : decode (m_code mX6_sharedLog) 26 = .ok (.getfield 191, 3) := by decide +kernel
theorem dX6_sharedLog_29 : decode (m_code mX6_sharedLog) 29 = .ok (.iload 4, 2) := by decide +kernel
theorem dX6_sharedLog_31 : decode (m_code mX6_sharedLog) 31 = .ok (.iaload, 1) := by decide +kernel
theorem dX6_sharedLog_32 : decode (m_code mX6_sharedLog) 32 = .ok (.aload_n 1, 1) := by decide +kernel
theorem dX6_sharedLog_33 : decode (m_code mX6_sharedLog) 33 = .ok (.getfield 191, 3) := by decide +kernel
theorem dX6_sharedLog_36 : decode (m_code mX6_sharedLog) 36 = .ok (.iload 4, 2) := by decide +kernel
theorem dX6_sharedLog_38 : decode (m_code mX6_sharedLog) 38 = .ok (.iaload, 1) := by decide +kernel
theorem dX6_sharedLog_39 : decode (m_code mX6_sharedLog) 39 = .ok (.if_icmp .eq 6, 3) := by decide +kernel
theorem dX6_sharedLog_42 : decode (m_code mX6_sharedLog) 42 = .ok (.iload 4, 2) := by decide +kernel
theorem dX6_sharedLog_44 : decode (m_code mX6_sharedLog) 44 = .ok (.ireturn, 1) := by decide +kernel
theorem dX6_sharedLog_45 : decode (m_code mX6_sharedLog) 45 = .ok (.iinc 4 1, 3) := by decide +kernel
theorem dX6_sharedLog_48 : decode (m_code mX6_sharedLog) 48 = .ok (.goto (-29), 3) := by decide +kernel
theorem dX6_sharedLog_51 : decode (m_code mX6_sharedLog) 51 = .ok (.iload_n 3, 1) := by decide +kernel
theorem dX6_sharedLog_52 : decode (m_code mX6_sharedLog) 52 = .ok (.ireturn, 1) := by decide +kernel
theorem dX6_longestLog_0 : decode (m_code mX6_longestLog) 0 = .ok (.iconst 0, 1) := by decide +kernel
theorem dX6_longestLog_1 : decode (m_code mX6_longestLog) 1 = .ok (.istore_n 1, 1) := by decide +kernel
theorem dX6_longestLog_2 : decode (m_code mX6_longestLog) 2 = .ok (.iconst 0, 1) := by decide +kernel
theorem dX6_longestLog_3 : decode (m_code mX6_longestLog) 3 = .ok (.istore_n 2, 1) := by decide +kernel
theorem dX6_longestLog_4 : decode (m_code mX6_longestLog) 4 = .ok (.iload_n 2, 1) := by decide +kernel
theorem dX6_longestLog_5 : decode (m_code mX6_longestLog) 5 = .ok (.aload_n 0, 1) := by decide +kernel
theorem dX6_longestLog_6 : decode (m_code mX6_longestLog) 6 = .ok (.getfield 158, 3) := by decide +kernel
theorem dX6_longestLog_9 : decode (m_code mX6_longestLog) 9 = .ok (.if_icmp .ge 23, 3) := by decide +kernel
theorem dX6_longestLog_12 : decode (m_code mX6_longestLog) 12 = .ok (.iload_n 1, 1) := by decide +kernel
theorem dX6_longestLog_13 : decode (m_code mX6_longestLog) 13 = .ok (.aload_n 0, 1) := by decide +kernel
theorem dX6_longestLog_14 : decode (m_code mX6_longestLog) 14 = .ok (.getfield 9, 3) := by decide +kernel
theorem dX6_longestLog_17 : decode (m_code mX6_longestLog) 17 = .ok (.iload_n 2, 1) := by decide +kernel
theorem dX6_longestLog_18 : decode (m_code mX6_longestLog) 18 = .ok (.aaload, 1) := by decide +kernel
theorem dX6_longestLog_19 : decode (m_code mX6_longestLog) 19 = .ok (.getfield 42, 3) := by decide +kernel
theorem dX6_longestLog_22 : decode (m_code mX6_longestLog) 22 = .ok (.invokestatic 152, 3) := by decide +kernel
theorem dX6_longestLog_25 : decode (m_code mX6_longestLog) 25 = .ok (.istore_n 1, 1) := by decide +kernel
theorem dX6_longestLog_26 : decode (m_code mX6_longestLog) 26 = .ok (.iinc 2 1, 3) := by decide +kernel
theorem dX6_longestLog_29 : decode (m_code mX6_longestLog) 29 = .ok (.goto (-25), 3) := by decide +kernel
theorem dX6_longestLog_32 : decode (m_code mX6_longestLog) 32 = .ok (.iload_n 1, 1) := by decide +kernel
theorem dX6_longestLog_33 : decode (m_code mX6_longestLog) 33 = .ok (.ireturn, 1) := by decide +kernel
theorem dX6_strayBlocks_0 : decode (m_code mX6_strayBlocks) 0 = .ok (.iconst 0, 1) := by decide +kernel
theorem dX6_strayBlocks_1 : decode (m_code mX6_strayBlocks) 1 = .ok (.istore_n 1, 1) := by decide +kernel
theorem dX6_strayBlocks_2 : decode (m_code mX6_strayBlocks) 2 = .ok (.iconst 0, 1) := by decide +kernel
theorem dX6_strayBlocks_3 : decode (m_code mX6_strayBlocks) 3 = .ok (.istore_n 2, 1) := by decide +kernel
theorem dX6_strayBlocks_4 : decode (m_code mX6_strayBlocks) 4 = .ok (.iload_n 2, 1) := by decide +kernel
theorem dX6_strayBlocks_5 : decode (m_code mX6_strayBlocks) 5 = .ok (.aload_n 0, 1) := by decide +kernel
theorem dX6_strayBlocks_6 : decode (m_code mX6_strayBlocks) 6 = .ok (.getfield 109, 3) := by decide +kernel
theorem dX6_strayBlocks_9 : decode (m_code mX6_strayBlocks) 9 = .ok (.getfield 130, 3) := by decide +kernel
theorem dX6_strayBlocks_12 : decode (m_code mX6_strayBlocks) 12 = .ok (.if_icmp .ge 20, 3) := by decide +kernel
theorem dX6_strayBlocks_15 : decode (m_code mX6_strayBlocks) 15 = .ok (.iload_n 1, 1) := by decide +kernel
theorem dX6_strayBlocks_16 : decode (m_code mX6_strayBlocks) 16 = .ok (.aload_n 0, 1) := by decide +kernel
theorem dX6_strayBlocks_17 : decode (m_code mX6_strayBlocks) 17 = .ok (.iload_n 2, 1) := by decide +kernel
theorem dX6_strayBlocks_18 : decode (m_code mX6_strayBlocks) 18 = .ok (.invokestatic 194, 3) := by decide +kernel
theorem dX6_strayBlocks_21 : decode (m_code mX6_strayBlocks) 21 = .ok (.invokestatic 56, 3) := by decide +kernel
theorem dX6_strayBlocks_24 : decode (m_code mX6_strayBlocks) 24 = .ok (.iadd, 1) := by decide +kernel
theorem dX6_strayBlocks_25 : decode (m_code mX6_strayBlocks) 25 = .ok (.istore_n 1, 1) := by decide +kernel
theorem dX6_strayBlocks_26 : decode (m_code mX6_strayBlocks) 26 = .ok (.iinc 2 1, 3) := by decide +kernel
theorem dX6_strayBlocks_29 : decode (m_code mX6_strayBlocks) 29 = .ok (.goto (-25), 3) := by decide +kernel
theorem dX6_strayBlocks_32 : decode (m_code mX6_strayBlocks) 32 = .ok (.iload_n 1, 1) := by decide +kernel
theorem dX6_strayBlocks_33 : decode (m_code mX6_strayBlocks) 33 = .ok (.ireturn, 1) := by decide +kernel
theorem dX6_isStray_0 : decode (m_code mX6_isStray) 0 = .ok (.iconst 0, 1) := by decide +kernel
theorem dX6_isStray_1 : decode (m_code mX6_isStray) 1 = .ok (.istore_n 2, 1) := by decide +kernel
theorem dX6_isStray_2 : decode (m_code mX6_isStray) 2 = .ok (.iload_n 2, 1) := by decide +kernel
theorem dX6_isStray_3 : decode (m_code mX6_isStray) 3 = .ok (.aload_n 0, 1) := by decide +kernel
theorem dX6_isStray_4 : decode (m_code mX6_isStray) 4 = .ok (.getfield 158, 3) := by decide +kernel
theorem dX6_isStray_7 : decode (m_code mX6_isStray) 7 = .ok (.if_icmp .ge 45, 3) := by decide +kernel
theorem dX6_isStray_10 : decode (m_code mX6_isStray) 10 = .ok (.aload_n 0, 1) := by decide +kernel
theorem dX6_isStray_11 : decode (m_code mX6_isStray) 11 = .ok (.getfield 9, 3) := by decide +kernel
theorem dX6_isStray_14 : decode (m_code mX6_isStray) 14 = .ok (.iload_n 2, 1) := by decide +kernel
theorem dX6_isStray_15 : decode (m_code mX6_isStray) 15 = .ok (.aaload, 1) := by decide +kernel
theorem dX6_isStray_16 : decode (m_code mX6_isStray) 16 = .ok (.astore_n 3, 1) := by decide +kernel
theorem dX6_isStray_17 : decode (m_code mX6_isStray) 17 = .ok (.aload_n 3, 1) := by decide +kernel
theorem dX6_isStray_18 : decode (m_code mX6_isStray) 18 = .ok (.aload_n 0, 1) := by decide +kernel
theorem dX6_isStray_19 : decode (m_code mX6_isStray) 19 = .ok (.getfield 109, 3) := by decide +kernel
theorem dX6_isStray_22 : decode (m_code mX6_isStray) 22 = .ok (.iload_n 1, 1) := by decide +kernel
theorem dX6_isStray_23 : decode (m_code mX6_isStray) 23 = .ok (.invokevirtual 161, 3) := by decide +kernel
theorem dX6_isStray_26 : decode (m_code mX6_isStray) 26 = .ok (.ifCond .ne 18, 3) := by decide +kernel
theorem dX6_isStray_29 : decode (m_code mX6_isStray) 29 = .ok (.aload_n 0, 1) := by decide +kernel
theorem dX6_isStray_30 : decode (m_code mX6_isStray) 30 = .ok (.getfield 109, 3) := by decide +kernel
theorem dX6_isStray_33 : decode (m_code mX6_isStray) 33 = .ok (.iload_n 1, 1) := by decide +kernel
theorem dX6_isStray_34 : decode (m_code mX6_isStray) 34 = .ok (.aload_n 3, 1) := by decide +kernel
theorem dX6_isStray_35 : decode (m_code mX6_isStray) 35 = .ok (.invokevirtual 45, 3) := by decide +kernel
theorem dX6_isStray_38 : decode (m_code mX6_isStray) 38 = .ok (.invokevirtual 113, 3) := by decide +kernel
theorem dX6_isStray_41 : decode (m_code mX6_isStray) 41 = .ok (.ifCond .eq 5, 3) := by decide +kernel
theorem dX6_isStray_44 : decode (m_code mX6_isStray) 44 = .ok (.iconst 0, 1) := by decide +kernel
theorem dX6_isStray_45 : decode (m_code mX6_isStray) 45 = .ok (.ireturn, 1) := by decide +kernel
theorem dX6_isStray_46 : decode (m_code mX6_isStray) 46 = .ok (.iinc 2 1, 3) := by decide +kernel
theorem dX6_isStray_49 : decode (m_code mX6_isStray) 49 = .ok (.goto (-47), 3) := by decide +kernel
theorem dX6_isStray_52 : decode (m_code mX6_isStray) 52 = .ok (.iconst 1, 1) := by decide +kernel
theorem dX6_isStray_53 : decode (m_code mX6_isStray) 53 = .ok (.ireturn, 1) := by decide +kernel
theorem dX6_highestCertified_0 : decode (m_code mX6_highestCertified) 0 = .ok (.iconst 0, 1) := by decide +kernel
theorem dX6_highestCertified_1 : decode (m_code mX6_highestCertified) 1 = .ok (.istore_n 1, 1) := by decide +kernel
theorem dX6_highestCertified_2 : decode (m_code mX6_highestCertified) 2 = .ok (.iconst 1, 1) := by decide +kernel
theorem dX6_highestCertified_3 : decode (m_code mX6_highestCertified) 3 = .ok (.istore_n 2, 1) := by decide +kernel
theorem dX6_highestCertified_4 : decode (m_code mX6_highestCertified) 4 = .ok (.iload_n 2, 1) := by decide +kernel
theorem dX6_highestCertified_5 : decode (m_code mX6_highestCertified) 5 = .ok (.aload_n 0, 1) := by decide +kernel
theorem dX6_highestCertified_6 : decode (m_code mX6_highestCertified) 6 = .ok (.getfield 130, 3) := by decide +kernel
theorem dX6_highestCertified_9 : decode (m_code mX6_highestCertified) 9 = .ok (.if_icmp .ge 34, 3) := by decide +kernel
theorem dX6_highestCertified_12 : decode (m_code mX6_highestCertified) 12 = .ok (.aload_n 0, 1) := by decide +kernel
theorem dX6_highestCertified_13 : decode (m_code mX6_highestCertified) 13 = .ok (.iload_n 2, 1) := by decide +kernel
theorem dX6_highestCertified_14 : decode (m_code mX6_highestCertified) 14 = .ok (.invokevirtual 198, 3) := by decide +kernel
theorem dX6_highestCertified_17 : decode (m_code mX6_highestCertified) 17 = .ok (.ifCond .eq 20, 3) := by decide +kernel
theorem dX6_highestCertified_20 : decode (m_code mX6_highestCertified) 20 = .ok (.aload_n 0, 1) := by decide +kernel
theorem dX6_highestCertified_21 : decode (m_code mX6_highestCertified) 21 = .ok (.getfield 65, 3) := by decide +kernel
theorem dX6_highestCertified_24 : decode (m_code mX6_highestCertified) 24 = .ok (.iload_n 2, 1) := by decide +kernel
theorem dX6_highestCertified_25 : decode (m_code mX6_highestCertified) 25 = .ok (.iaload, 1) := by decide +kernel
theorem dX6_highestCertified_26 : decode (m_code mX6_highestCertified) 26 = .ok (.aload_n 0, 1) := by decide +kernel
theorem dX6_highestCertified_27 : decode (m_code mX6_highestCertified) 27 = .ok (.getfield 65, 3) := by decide +kernel
theorem dX6_highestCertified_30 : decode (m_code mX6_highestCertified) 30 = .ok (.iload_n 1, 1) := by decide +kernel
theorem dX6_highestCertified_31 : decode (m_code mX6_highestCertified) 31 = .ok (.iaload, 1) := by decide +kernel
theorem dX6_highestCertified_32 : decode (m_code mX6_highestCertified) 32 = .ok (.if_icmp .le 5, 3) := by decide +kernel
theorem dX6_highestCertified_35 : decode (m_code mX6_highestCertified) 35 = .ok (.iload_n 2, 1) := by decide +kernel
theorem dX6_highestCertified_36 : decode (m_code mX6_highestCertified) 36 = .ok (.istore_n 1, 1) := by decide +kernel
theorem dX6_highestCertified_37 : decode (m_code mX6_highestCertified) 37 = .ok (.iinc 2 1, 3) := by decide +kernel
theorem dX6_highestCertified_40 : decode (m_code mX6_highestCertified) 40 = .ok (.goto (-36), 3) := by decide +kernel
theorem dX6_highestCertified_43 : decode (m_code mX6_highestCertified) 43 = .ok (.iload_n 1, 1) := by decide +kernel
theorem dX6_highestCertified_44 : decode (m_code mX6_highestCertified) 44 = .ok (.ireturn, 1) := by decide +kernel
theorem dX6_highestLock_0 : decode (m_code mX6_highestLock) 0 = .ok (.iconst (-1), 1) := by decide +kernel
theorem dX6_highestLock_1 : decode (m_code mX6_highestLock) 1 = .ok (.istore_n 1, 1) := by decide +kernel
theorem dX6_highestLock_2 : decode (m_code mX6_highestLock) 2 = .ok (.iconst 0, 1) := by decide +kernel
theorem dX6_highestLock_3 : decode (m_code mX6_highestLock) 3 = .ok (.istore_n 2, 1) := by decide +kernel
theorem dX6_highestLock_4 : decode (m_code mX6_highestLock) 4 = .ok (.iload_n 2, 1) := by decide +kernel
theorem dX6_highestLock_5 : decode (m_code mX6_highestLock) 5 = .ok (.aload_n 0, 1) := by decide +kernel
theorem dX6_highestLock_6 : decode (m_code mX6_highestLock) 6 = .ok (.getfield 158, 3) := by decide +kernel
theorem dX6_highestLock_9 : decode (m_code mX6_highestLock) 9 = .ok (.if_icmp .ge 39, 3) := by decide +kernel
theorem dX6_highestLock_12 : decode (m_code mX6_highestLock) 12 = .ok (.aload_n 0, 1) := by decide +kernel
theorem dX6_highestLock_13 : decode (m_code mX6_highestLock) 13 = .ok (.iload_n 2, 1) := by decide +kernel
theorem dX6_highestLock_14 : decode (m_code mX6_highestLock) 14 = .ok (.invokevirtual 165, 3) := by decide +kernel
theorem dX6_highestLock_17 : decode (m_code mX6_highestLock) 17 = .ok (.ifCond .eq 25, 3) := by decide +kernel
theorem dX6_highestLock_20 : decode (m_code mX6_highestLock) 20 = .ok (.aload_n 0, 1) := by decide +kernel
theorem dX6_highestLock_21 : decode (m_code mX6_highestLock) 21 = .ok (.getfield 109, 3) := by decide +kernel
theorem dX6_highestLock_24 : decode (m_code mX6_highestLock) 24 = .ok (.getfield 65, 3) := by decide +kernel
theorem dX6_highestLock_27 : decode (m_code mX6_highestLock) 27 = .ok (.iload_n 1, 1) := by decide +kernel
theorem dX6_highestLock_28 : decode (m_code mX6_highestLock) 28 = .ok (.aload_n 0, 1) := by decide +kernel
theorem dX6_highestLock_29 : decode (m_code mX6_highestLock) 29 = .ok (.getfield 9, 3) := by decide +kernel
theorem dX6_highestLock_32 : decode (m_code mX6_highestLock) 32 = .ok (.iload_n 2, 1) := by decide +kernel
theorem dX6_highestLock_33 : decode (m_code mX6_highestLock) 33 = .ok (.aaload, 1) := by decide +kernel
theorem dX6_highestLock_34 : decode (m_code mX6_highestLock) 34 = .ok (.getfield 36, 3) := by decide +kernel
theorem dX6_highestLock_37 : decode (m_code mX6_highestLock) 37 = .ok (.iconst 1, 1) := by decide +kernel
theorem dX6_highestLock_38 : decode (m_code mX6_highestLock) 38 = .ok (.invokestatic 201, 3) := by decide +kernel
theorem dX6_highestLock_41 : decode (m_code mX6_highestLock) 41 = .ok (.istore_n 1, 1) := by decide +kernel
theorem dX6_highestLock_42 : decode (m_code mX6_highestLock) 42 = .ok (.iinc 2 1, 3) := by decide +kernel
theorem dX6_highestLock_45 : decode (m_code mX6_highestLock) 45 = .ok (.goto (-41), 3) := by decide +kernel
theorem dX6_highestLock_48 : decode (m_code mX6_highestLock) 48 = .ok (.iload_n 1, 1) := by decide +kernel
theorem dX6_highestLock_49 : decode (m_code mX6_highestLock) 49 = .ok (.ireturn, 1) := by decide +kernel
theorem dX6_lowestHigh_0 : decode (m_code mX6_lowestHigh) 0 = .ok (.iconst (-1), 1) := by decide +kernel
theorem dX6_lowestHigh_1 : decode (m_code mX6_lowestHigh) 1 = .ok (.istore_n 1, 1) := by decide +kernel
theorem dX6_lowestHigh_2 : decode (m_code mX6_lowestHigh) 2 = .ok (.iconst 0, 1) := by decide +kernel
theorem dX6_lowestHigh_3 : decode (m_code mX6_lowestHigh) 3 = .ok (.istore_n 2, 1) := by decide +kernel
theorem dX6_lowestHigh_4 : decode (m_code mX6_lowestHigh) 4 = .ok (.iload_n 2, 1) := by decide +kernel
theorem dX6_lowestHigh_5 : decode (m_code mX6_lowestHigh) 5 = .ok (.aload_n 0, 1) := by decide +kernel
theorem dX6_lowestHigh_6 : decode (m_code mX6_lowestHigh) 6 = .ok (.getfield 158, 3) := by decide +kernel
theorem dX6_lowestHigh_9 : decode (m_code mX6_lowestHigh) 9 = .ok (.if_icmp .ge 39, 3) := by decide +kernel
theorem dX6_lowestHigh_12 : decode (m_code mX6_lowestHigh) 12 = .ok (.aload_n 0, 1) := by decide +kernel
theorem dX6_lowestHigh_13 : decode (m_code mX6_lowestHigh) 13 = .ok (.iload_n 2, 1) := by decide +kernel
theorem dX6_lowestHigh_14 : decode (m_code mX6_lowestHigh) 14 = .ok (.invokevirtual 165, 3) := by decide +kernel
theorem dX6_lowestHigh_17 : decode (m_code mX6_lowestHigh) 17 = .ok (.ifCond .eq 25, 3) := by decide +kernel
theorem dX6_lowestHigh_20 : decode (m_code mX6_lowestHigh) 20 = .ok (.aload_n 0, 1) := by decide +kernel
theorem dX6_lowestHigh_21 : decode (m_code mX6_lowestHigh) 21 = .ok (.getfield 109, 3) := by decide +kernel
theorem dX6_lowestHigh_24 : decode (m_code mX6_lowestHigh) 24 = .ok (.getfield 65, 3) := by decide +kernel
theorem dX6_lowestHigh_27 : decode (m_code mX6_lowestHigh) 27 = .ok (.iload_n 1, 1) := by decide +kernel
theorem dX6_lowestHigh_28 : decode (m_code mX6_lowestHigh) 28 = .ok (.aload_n 0, 1) := by decide +kernel
theorem dX6_lowestHigh_29 : decode (m_code mX6_lowestHigh) 29 = .ok (.getfield 9, 3) := by decide +kernel
theorem dX6_lowestHigh_32 : decode (m_code mX6_lowestHigh) 32 = .ok (.iload_n 2, 1) := by decide +kernel
theorem dX6_lowestHigh_33 : decode (m_code mX6_lowestHigh) 33 = .ok (.aaload, 1) := by decide +kernel
theorem dX6_lowestHigh_34 : decode (m_code mX6_lowestHigh) 34 = .ok (.getfield 33, 3) := by decide +kernel
theorem dX6_lowestHigh_37 : decode (m_code mX6_lowestHigh) 37 = .ok (.iconst (-1), 1) := by decide +kernel
theorem dX6_lowestHigh_38 : decode (m_code mX6_lowestHigh) 38 = .ok (.invokestatic 201, 3) := by decide +kernel
theorem dX6_lowestHigh_41 : decode (m_code mX6_lowestHigh) 41 = .ok (.istore_n 1, 1) := by decide +kernel
theorem dX6_lowestHigh_42 : decode (m_code mX6_lowestHigh) 42 = .ok (.iinc 2 1, 3) := by decide +kernel
theorem dX6_lowestHigh_45 : decode (m_code mX6_lowestHigh) 45 = .ok (.goto (-41), 3) := by decide +kernel
theorem dX6_lowestHigh_48 : decode (m_code mX6_lowestHigh) 48 = .ok (.iload_n 1, 1) := by decide +kernel
theorem dX6_lowestHigh_49 : decode (m_code mX6_lowestHigh) 49 = .ok (.ireturn, 1) := by decide +kernel
theorem dX6_highestLogged_0 : decode (m_code mX6_highestLogged) 0 = .ok (.iconst (-1), 1) := by decide +kernel
theorem dX6_highestLogged_1 : decode (m_code mX6_highestLogged) 1 = .ok (.istore_n 1, 1) := by decide +kernel
theorem dX6_highestLogged_2 : decode (m_code mX6_highestLogged) 2 = .ok (.iconst 0, 1) := by decide +kernel
theorem dX6_highestLogged_3 : decode (m_code mX6_highestLogged) 3 = .ok (.istore_n 2, 1) := by decide +kernel
theorem dX6_highestLogged_4 : decode (m_code mX6_highestLogged) 4 = .ok (.iload_n 2, 1) := by decide +kernel
theorem dX6_highestLogged_5 : decode (m_code mX6_highestLogged) 5 = .ok (.aload_n 0, 1) := by decide +kernel
theorem dX6_highestLogged_6 : decode (m_code mX6_highestLogged) 6 = .ok (.getfield 158, 3) := by decide +kernel
theorem dX6_highestLogged_9 : decode (m_code mX6_highestLogged) 9 = .ok (.if_icmp .ge 39, 3) := by decide +kernel
theorem dX6_highestLogged_12 : decode (m_code mX6_highestLogged) 12 = .ok (.aload_n 0, 1) := by decide +kernel
theorem dX6_highestLogged_13 : decode (m_code mX6_highestLogged) 13 = .ok (.iload_n 2, 1) := by decide +kernel
theorem dX6_highestLogged_14 : decode (m_code mX6_highestLogged) 14 = .ok (.invokevirtual 165, 3) := by decide +kernel
theorem dX6_highestLogged_17 : decode (m_code mX6_highestLogged) 17 = .ok (.ifCond .eq 25, 3) := by decide +kernel
theorem dX6_highestLogged_20 : decode (m_code mX6_highestLogged) 20 = .ok (.aload_n 0, 1) := by decide +kernel
theorem dX6_highestLogged_21 : decode (m_code mX6_highestLogged) 21 = .ok (.getfield 109, 3) := by decide +kernel
theorem dX6_highestLogged_24 : decode (m_code mX6_highestLogged) 24 = .ok (.getfield 82, 3) := by decide +kernel
theorem dX6_highestLogged_27 : decode (m_code mX6_highestLogged) 27 = .ok (.iload_n 1, 1) := by decide +kernel
theorem dX6_highestLogged_28 : decode (m_code mX6_highestLogged) 28 = .ok (.aload_n 0, 1) := by decide +kernel
theorem dX6_highestLogged_29 : decode (m_code mX6_highestLogged) 29 = .ok (.getfield 9, 3) := by decide +kernel
theorem dX6_highestLogged_32 : decode (m_code mX6_highestLogged) 32 = .ok (.iload_n 2, 1) := by decide +kernel
theorem dX6_highestLogged_33 : decode (m_code mX6_highestLogged) 33 = .ok (.aaload, 1) := by decide +kernel
theorem dX6_highestLogged_34 : decode (m_code mX6_highestLogged) 34 = .ok (.invokevirtual 45, 3) := by decide +kernel
theorem dX6_highestLogged_37 : decode (m_code mX6_highestLogged) 37 = .ok (.iconst 1, 1) := by decide +kernel
theorem dX6_highestLogged_38 : decode (m_code mX6_highestLogged) 38 = .ok (.invokestatic 201, 3) := by decide +kernel
theorem dX6_highestLogged_41 : decode (m_code mX6_highestLogged) 41 = .ok (.istore_n 1, 1) := by decide +kernel
theorem dX6_highestLogged_42 : decode (m_code mX6_highestLogged) 42 = .ok (.iinc 2 1, 3) := by decide +kernel
theorem dX6_highestLogged_45 : decode (m_code mX6_highestLogged) 45 = .ok (.goto (-41), 3) := by decide +kernel
theorem dX6_highestLogged_48 : decode (m_code mX6_highestLogged) 48 = .ok (.iload_n 1, 1) := by decide +kernel
theorem dX6_highestLogged_49 : decode (m_code mX6_highestLogged) 49 = .ok (.ireturn, 1) := by decide +kernel
theorem dX6_better_0 : decode (m_code mX6_better) 0 = .ok (.iload_n 1, 1) := by decide +kernel
theorem dX6_better_1 : decode (m_code mX6_better) 1 = .ok (.iconst (-1), 1) := by decide +kernel
theorem dX6_better_2 : decode (m_code mX6_better) 2 = .ok (.if_icmp .ne 5, 3) := by decide +kernel
theorem dX6_better_5 : decode (m_code mX6_better) 5 = .ok (.iload_n 2, 1) := by decide +kernel
theorem dX6_better_6 : decode (m_code mX6_better) 6 = .ok (.ireturn, 1) := by decide +kernel
theorem dX6_better_7 : decode (m_code mX6_better) 7 = .ok (.iload_n 3, 1) := by decide +kernel
theorem dX6_better_8 : decode (m_code mX6_better) 8 = .ok (.aload_n 0, 1) := by decide +kernel
theorem dX6_better_9 : decode (m_code mX6_better) 9 = .ok (.iload_n 2, 1) := by decide +kernel
theorem dX6_better_10 : decode (m_code mX6_better) 10 = .ok (.iaload, 1) := by decide +kernel
theorem dX6_better_11 : decode (m_code mX6_better) 11 = .ok (.aload_n 0, 1) := by decide +kernel
theorem dX6_better_12 : decode (m_code mX6_better) 12 = .ok (.iload_n 1, 1) := by decide +kernel
theorem dX6_better_13 : decode (m_code mX6_better) 13 = .ok (.iaload, 1) := by decide +kernel
theorem dX6_better_14 : decode (m_code mX6_better) 14 = .ok (.isub, 1) := by decide +kernel
theorem dX6_better_15 : decode (m_code mX6_better) 15 = .ok (.imul, 1) := by decide +kernel
theorem dX6_better_16 : decode (m_code mX6_better) 16 = .ok (.istore 4, 2) := by decide +kernel
theorem dX6_better_18 : decode (m_code mX6_better) 18 = .ok (.iload 4, 2) := by decide +kernel
theorem dX6_better_20 : decode (m_code mX6_better) 20 = .ok (.ifCond .gt 13, 3) := by decide +kernel
theorem dX6_better_23 : decode (m_code mX6_better) 23 = .ok (.iload 4, 2) := by decide +kernel
theorem dX6_better_25 : decode (m_code mX6_better) 25 = .ok (.ifCond .ne 12, 3) := by decide +kernel
theorem dX6_better_28 : decode (m_code mX6_better) 28 = .ok (.iload_n 2, 1) := by decide +kernel
theorem dX6_better_29 : decode (m_code mX6_better) 29 = .ok (.iload_n 1, 1) := by decide +kernel
theorem dX6_better_30 : decode (m_code mX6_better) 30 = .ok (.if_icmp .ge 7, 3) := by decide +kernel
theorem dX6_better_33 : decode (m_code mX6_better) 33 = .ok (.iload_n 2, 1) := by decide +kernel
theorem dX6_better_34 : decode (m_code mX6_better) 34 = .ok (.goto 4, 3) := by decide +kernel
theorem dX6_better_37 : decode (m_code mX6_better) 37 = .ok (.iload_n 1, 1) := by decide +kernel
theorem dX6_better_38 : decode (m_code mX6_better) 38 = .ok (.ireturn, 1) := by decide +kernel
theorem dX6_ofWorld_0 : decode (m_code mX6_ofWorld) 0 = .ok (.iload_n 1, 1) := by decide +kernel
theorem dX6_ofWorld_1 : decode (m_code mX6_ofWorld) 1 = .ok (.tableswitch 239 0 20 #[99, 104, 109, 114, 122, 130, 138, 146, 154, 159, 167, 175, 183, 188, 196, 201, 209, 214, 220, 226, 234], 99) := by decide +kernel
theorem dX6_ofWorld_100 : decode (m_code mX6_ofWorld) 100 = .ok (.aload_n 0, 1) := by decide +kernel
theorem dX6_ofWorld_101 : decode (m_code mX6_ofWorld) 101 = .ok (.getfield 158, 3) := by decide +kernel
theorem dX6_ofWorld_104 : decode (m_code mX6_ofWorld) 104 = .ok (.ireturn, 1) := by decide +kernel
theorem dX6_ofWorld_105 : decode (m_code mX6_ofWorld) 105 = .ok (.aload_n 0, 1) := by decide +kernel
theorem dX6_ofWorld_106 : decode (m_code mX6_ofWorld) 106 = .ok (.invokevirtual 205, 3) := by decide +kernel
theorem dX6_ofWorld_109 : decode (m_code mX6_ofWorld) 109 = .ok (.ireturn, 1) := by decide +kernel
theorem dX6_ofWorld_110 : decode (m_code mX6_ofWorld) 110 = .ok (.aload_n 0, 1) := by decide +kernel
theorem dX6_ofWorld_111 : decode (m_code mX6_ofWorld) 111 = .ok (.invokevirtual 208, 3) := by decide +kernel
theorem dX6_ofWorld_114 : decode (m_code mX6_ofWorld) 114 = .ok (.ireturn, 1) := by decide +kernel
theorem dX6_ofWorld_115 : decode (m_code mX6_ofWorld) 115 = .ok (.aload_n 0, 1) := by decide +kernel
theorem dX6_ofWorld_116 : decode (m_code mX6_ofWorld) 116 = .ok (.getfield 109, 3) := by decide +kernel
theorem dX6_ofWorld_119 : decode (m_code mX6_ofWorld) 119 = .ok (.getfield 130, 3) := by decide +kernel
theorem dX6_ofWorld_122 : decode (m_code mX6_ofWorld) 122 = .ok (.ireturn, 1) := by decide +kernel
theorem dX6_ofWorld_123 : decode (m_code mX6_ofWorld) 123 = .ok (.aload_n 0, 1) := by decide +kernel
theorem dX6_ofWorld_124 : decode (m_code mX6_ofWorld) 124 = .ok (.getfield 211, 3) := by decide +kernel
theorem dX6_ofWorld_127 : decode (m_code mX6_ofWorld) 127 = .ok (.getfield 215, 3) := by decide +kernel
theorem dX6_ofWorld_130 : decode (m_code mX6_ofWorld) 130 = .ok (.ireturn, 1) := by decide +kernel
theorem dX6_ofWorld_131 : decode (m_code mX6_ofWorld) 131 = .ok (.aload_n 0, 1) := by decide +kernel
theorem dX6_ofWorld_132 : decode (m_code mX6_ofWorld) 132 = .ok (.getfield 211, 3) := by decide +kernel
theorem dX6_ofWorld_135 : decode (m_code mX6_ofWorld) 135 = .ok (.getfield 216, 3) := by decide +kernel
theorem dX6_ofWorld_138 : decode (m_code mX6_ofWorld) 138 = .ok (.ireturn, 1) := by decide +kernel
theorem dX6_ofWorld_139 : decode (m_code mX6_ofWorld) 139 = .ok (.aload_n 0, 1) := by decide +kernel
theorem dX6_ofWorld_140 : decode (m_code mX6_ofWorld) 140 = .ok (.getfield 168, 3) := by decide +kernel
theorem dX6_ofWorld_143 : decode (m_code mX6_ofWorld) 143 = .ok (.getfield 172, 3) := by decide +kernel
theorem dX6_ofWorld_146 : decode (m_code mX6_ofWorld) 146 = .ok (.ireturn, 1) := by decide +kernel
theorem dX6_ofWorld_147 : decode (m_code mX6_ofWorld) 147 = .ok (.aload_n 0, 1) := by decide +kernel
theorem dX6_ofWorld_148 : decode (m_code mX6_ofWorld) 148 = .ok (.invokestatic 219, 3) := by decide +kernel
theorem dX6_ofWorld_151 : decode (m_code mX6_ofWorld) 151 = .ok (.invokestatic 56, 3) := by decide +kernel
theorem dX6_ofWorld_154 : decode (m_code mX6_ofWorld) 154 = .ok (.ireturn, 1) := by decide +kernel
theorem dX6_ofWorld_155 : decode (m_code mX6_ofWorld) 155 = .ok (.aload_n 0, 1) := by decide +kernel
theorem dX6_ofWorld_156 : decode (m_code mX6_ofWorld) 156 = .ok (.invokestatic 223, 3) := by decide +kernel
theorem dX6_ofWorld_159 : decode (m_code mX6_ofWorld) 159 = .ok (.ireturn, 1) := by decide +kernel
theorem dX6_ofWorld_160 : decode (m_code mX6_ofWorld) 160 = .ok (.aload_n 0, 1) := by decide +kernel
theorem dX6_ofWorld_161 : decode (m_code mX6_ofWorld) 161 = .ok (.getfield 227, 3) := by decide +kernel
theorem dX6_ofWorld_164 : decode (m_code mX6_ofWorld) 164 = .ok (.getfield 231, 3) := by decide +kernel
theorem dX6_ofWorld_167 : decode (m_code mX6_ofWorld) 167 = .ok (.ireturn, 1) := by decide +kernel
theorem dX6_ofWorld_168 : decode (m_code mX6_ofWorld) 168 = .ok (.aload_n 0, 1) := by decide +kernel
theorem dX6_ofWorld_169 : decode (m_code mX6_ofWorld) 169 = .ok (.getfield 227, 3) := by decide +kernel
theorem dX6_ofWorld_172 : decode (m_code mX6_ofWorld) 172 = .ok (.getfield 236, 3) := by decide +kernel
theorem dX6_ofWorld_175 : decode (m_code mX6_ofWorld) 175 = .ok (.ireturn, 1) := by decide +kernel
theorem dX6_ofWorld_176 : decode (m_code mX6_ofWorld) 176 = .ok (.aload_n 0, 1) := by decide +kernel
theorem dX6_ofWorld_177 : decode (m_code mX6_ofWorld) 177 = .ok (.getfield 211, 3) := by decide +kernel
theorem dX6_ofWorld_180 : decode (m_code mX6_ofWorld) 180 = .ok (.getfield 239, 3) := by decide +kernel
theorem dX6_ofWorld_183 : decode (m_code mX6_ofWorld) 183 = .ok (.ireturn, 1) := by decide +kernel
theorem dX6_ofWorld_184 : decode (m_code mX6_ofWorld) 184 = .ok (.aload_n 0, 1) := by decide +kernel
theorem dX6_ofWorld_185 : decode (m_code mX6_ofWorld) 185 = .ok (.invokestatic 242, 3) := by decide +kernel
theorem dX6_ofWorld_188 : decode (m_code mX6_ofWorld) 188 = .ok (.ireturn, 1) := by decide +kernel
theorem dX6_ofWorld_189 : decode (m_code mX6_ofWorld) 189 = .ok (.aload_n 0, 1) := by decide +kernel
theorem dX6_ofWorld_190 : decode (m_code mX6_ofWorld) 190 = .ok (.getfield 109, 3) := by decide +kernel
theorem dX6_ofWorld_193 : decode (m_code mX6_ofWorld) 193 = .ok (.invokestatic 245, 3) := by decide +kernel
theorem dX6_ofWorld_196 : decode (m_code mX6_ofWorld) 196 = .ok (.ireturn, 1) := by decide +kernel
theorem dX6_ofWorld_197 : decode (m_code mX6_ofWorld) 197 = .ok (.aload_n 0, 1) := by decide +kernel
theorem dX6_ofWorld_198 : decode (m_code mX6_ofWorld) 198 = .ok (.getfield 249, 3) := by decide +kernel
theorem dX6_ofWorld_201 : decode (m_code mX6_ofWorld) 201 = .ok (.ireturn, 1) := by decide +kernel
theorem dX6_ofWorld_202 : decode (m_code mX6_ofWorld) 202 = .ok (.aload_n 0, 1) := by decide +kernel
theorem dX6_ofWorld_203 : decode (m_code mX6_ofWorld) 203 = .ok (.getfield 252, 3) := by decide +kernel
theorem dX6_ofWorld_206 : decode (m_code mX6_ofWorld) 206 = .ok (.getfield 172, 3) := by decide +kernel
theorem dX6_ofWorld_209 : decode (m_code mX6_ofWorld) 209 = .ok (.ireturn, 1) := by decide +kernel
theorem dX6_ofWorld_210 : decode (m_code mX6_ofWorld) 210 = .ok (.aload_n 0, 1) := by decide +kernel
theorem dX6_ofWorld_211 : decode (m_code mX6_ofWorld) 211 = .ok (.getfield 255, 3) := by decide +kernel
theorem dX6_ofWorld_214 : decode (m_code mX6_ofWorld) 214 = .ok (.ireturn, 1) := by decide +kernel
theorem dX6_ofWorld_215 : decode (m_code mX6_ofWorld) 215 = .ok (.aload_n 0, 1) := by decide +kernel
theorem dX6_ofWorld_216 : decode (m_code mX6_ofWorld) 216 = .ok (.iconst 1, 1) := by decide +kernel
theorem dX6_ofWorld_217 : decode (m_code mX6_ofWorld) 217 = .ok (.invokestatic 258, 3) := by decide +kernel
theorem dX6_ofWorld_220 : decode (m_code mX6_ofWorld) 220 = .ok (.ireturn, 1) := by decide +kernel
theorem dX6_ofWorld_221 : decode (m_code mX6_ofWorld) 221 = .ok (.aload_n 0, 1) := by decide +kernel
theorem dX6_ofWorld_222 : decode (m_code mX6_ofWorld) 222 = .ok (.iconst 2, 1) := by decide +kernel
theorem dX6_ofWorld_223 : decode (m_code mX6_ofWorld) 223 = .ok (.invokestatic 258, 3) := by decide +kernel
theorem dX6_ofWorld_226 : decode (m_code mX6_ofWorld) 226 = .ok (.ireturn, 1) := by decide +kernel
theorem dX6_ofWorld_227 : decode (m_code mX6_ofWorld) 227 = .ok (.aload_n 0, 1) := by decide +kernel
theorem dX6_ofWorld_228 : decode (m_code mX6_ofWorld) 228 = .ok (.getfield 211, 3) := by decide +kernel
theorem dX6_ofWorld_231 : decode (m_code mX6_ofWorld) 231 = .ok (.getfield 261, 3) := by decide +kernel
theorem dX6_ofWorld_234 : decode (m_code mX6_ofWorld) 234 = .ok (.ireturn, 1) := by decide +kernel
theorem dX6_ofWorld_235 : decode (m_code mX6_ofWorld) 235 = .ok (.aload_n 0, 1) := by decide +kernel
theorem dX6_ofWorld_236 : decode (m_code mX6_ofWorld) 236 = .ok (.invokestatic 264, 3) := by decide +kernel
theorem dX6_ofWorld_239 : decode (m_code mX6_ofWorld) 239 = .ok (.ireturn, 1) := by decide +kernel
theorem dX6_ofWorld_240 : decode (m_code mX6_ofWorld) 240 = .ok (.ldc 133, 2) := by decide +kernel
theorem dX6_ofWorld_242 : decode (m_code mX6_ofWorld) 242 = .ok (.ireturn, 1) := by decide +kernel
theorem dX6_hasUnlikeLogs_0 : decode (m_code mX6_hasUnlikeLogs) 0 = .ok (.iconst 0, 1) := by decide +kernel
theorem dX6_hasUnlikeLogs_1 : decode (m_code mX6_hasUnlikeLogs) 1 = .ok (.istore_n 1, 1) := by decide +kernel
theorem dX6_hasUnlikeLogs_2 : decode (m_code mX6_hasUnlikeLogs) 2 = .ok (.iload_n 1, 1) := by decide +kernel
theorem dX6_hasUnlikeLogs_3 : decode (m_code mX6_hasUnlikeLogs) 3 = .ok (.aload_n 0, 1) := by decide +kernel
theorem dX6_hasUnlikeLogs_4 : decode (m_code mX6_hasUnlikeLogs) 4 = .ok (.getfield 158, 3) := by decide +kernel
theorem dX6_hasUnlikeLogs_7 : decode (m_code mX6_hasUnlikeLogs) 7 = .ok (.if_icmp .ge 54, 3) := by decide +kernel
theorem dX6_hasUnlikeLogs_10 : decode (m_code mX6_hasUnlikeLogs) 10 = .ok (.iload_n 1, 1) := by decide +kernel
theorem dX6_hasUnlikeLogs_11 : decode (m_code mX6_hasUnlikeLogs) 11 = .ok (.iconst 1, 1) := by decide +kernel
theorem dX6_hasUnlikeLogs_12 : decode (m_code mX6_hasUnlikeLogs) 12 = .ok (.iadd, 1) := by decide +kernel
theorem dX6_hasUnlikeLogs_13 : decode (m_code mX6_hasUnlikeLogs) 13 = .ok (.istore_n 2, 1) := by decide +kernel
theorem dX6_hasUnlikeLogs_14 : decode (m_code mX6_hasUnlikeLogs) 14 = .ok (.iload_n 2, 1) := by decide +kernel
theorem dX6_hasUnlikeLogs_15 : decode (m_code mX6_hasUnlikeLogs) 15 = .ok (.aload_n 0, 1) := by decide +kernel
theorem dX6_hasUnlikeLogs_16 : decode (m_code mX6_hasUnlikeLogs) 16 = .ok (.getfield 158, 3) := by decide +kernel
theorem dX6_hasUnlikeLogs_19 : decode (m_code mX6_hasUnlikeLogs) 19 = .ok (.if_icmp .ge 36, 3) := by decide +kernel
theorem dX6_hasUnlikeLogs_22 : decode (m_code mX6_hasUnlikeLogs) 22 = .ok (.aload_n 0, 1) := by decide +kernel
theorem dX6_hasUnlikeLogs_23 : decode (m_code mX6_hasUnlikeLogs) 23 = .ok (.iload_n 1, 1) := by decide +kernel
theorem dX6_hasUnlikeLogs_24 : decode (m_code mX6_hasUnlikeLogs) 24 = .ok (.invokevirtual 165, 3) := by decide +kernel
theorem dX6_hasUnlikeLogs_27 : decode (m_code mX6_hasUnlikeLogs) 27 = .ok (.ifCond .eq 22, 3) := by decide +kernel
theorem dX6_hasUnlikeLogs_30 : decode (m_code mX6_hasUnlikeLogs) 30 = .ok (.aload_n 0, 1) := by decide +kernel
theorem dX6_hasUnlikeLogs_31 : decode (m_code mX6_hasUnlikeLogs) 31 = .ok (.iload_n 2, 1) := by decide +kernel
theorem dX6_hasUnlikeLogs_32 : decode (m_code mX6_hasUnlikeLogs) 32 = .ok (.invokevirtual 165, 3) := by decide +kernel
theorem dX6_hasUnlikeLogs_35 : decode (m_code mX6_hasUnlikeLogs) 35 = .ok (.ifCond .eq 14, 3) := by decide +kernel
theorem dX6_hasUnlikeLogs_38 : decode (m_code mX6_hasUnlikeLogs) 38 = .ok (.aload_n 0, 1) := by decide +kernel
theorem dX6_hasUnlikeLogs_39 : decode (m_code mX6_hasUnlikeLogs) 39 = .ok (.iload_n 1, 1) := by decide +kernel
theorem dX6_hasUnlikeLogs_40 : decode (m_code mX6_hasUnlikeLogs) 40 = .ok (.iload_n 2, 1) := by decide +kernel
theorem dX6_hasUnlikeLogs_41 : decode (m_code mX6_hasUnlikeLogs) 41 = .ok (.invokestatic 267, 3) := by decide +kernel
theorem dX6_hasUnlikeLogs_44 : decode (m_code mX6_hasUnlikeLogs) 44 = .ok (.ifCond .eq 5, 3) := by decide +kernel
theorem dX6_hasUnlikeLogs_47 : decode (m_code mX6_hasUnlikeLogs) 47 = .ok (.iconst 1, 1) := by decide +kernel
theorem dX6_hasUnlikeLogs_48 : decode (m_code mX6_hasUnlikeLogs) 48 = .ok (.ireturn, 1) := by decide +kernel
theorem dX6_hasUnlikeLogs_49 : decode (m_code mX6_hasUnlikeLogs) 49 = .ok (.iinc 2 1, 3) := by decide +kernel
theorem dX6_hasUnlikeLogs_52 : decode (m_code mX6_hasUnlikeLogs) 52 = .ok (.goto (-38), 3) := by decide +kernel
theorem dX6_hasUnlikeLogs_55 : decode (m_code mX6_hasUnlikeLogs) 55 = .ok (.iinc 1 1, 3) := by decide +kernel
theorem dX6_hasUnlikeLogs_58 : decode (m_code mX6_hasUnlikeLogs) 58 = .ok (.goto (-56), 3) := by decide +kernel
theorem dX6_hasUnlikeLogs_61 : decode (m_code mX6_hasUnlikeLogs) 61 = .ok (.iconst 0, 1) := by decide +kernel
theorem dX6_hasUnlikeLogs_62 : decode (m_code mX6_hasUnlikeLogs) 62 = .ok (.ireturn, 1) := by decide +kernel
theorem dX6_areUnlike_0 : decode (m_code mX6_areUnlike) 0 = .ok (.aload_n 0, 1) := by decide +kernel
theorem dX6_areUnlike_1 : decode (m_code mX6_areUnlike) 1 = .ok (.getfield 9, 3) := by decide +kernel
theorem dX6_areUnlike_4 : decode (m_code mX6_areUnlike) 4 = .ok (.iload_n 1, 1) := by decide +kernel
theorem dX6_areUnlike_5 : decode (m_code mX6_areUnlike) 5 = .ok (.aaload, 1) := by decide +kernel
theorem dX6_areUnlike_6 : decode (m_code mX6_areUnlike) 6 = .ok (.invokevirtual 45, 3) := by decide +kernel
theorem dX6_areUnlike_9 : decode (m_code mX6_areUnlike) 9 = .ok (.istore_n 3, 1) := by decide +kernel
theorem dX6_areUnlike_10 : decode (m_code mX6_areUnlike) 10 = .ok (.aload_n 0, 1) := by decide +kernel
theorem dX6_areUnlike_11 : decode (m_code mX6_areUnlike) 11 = .ok (.getfield 9, 3) := by decide +kernel
theorem dX6_areUnlike_14 : decode (m_code mX6_areUnlike) 14 = .ok (.iload_n 2, 1) := by decide +kernel
theorem dX6_areUnlike_15 : decode (m_code mX6_areUnlike) 15 = .ok (.aaload, 1) := by decide +kernel
theorem dX6_areUnlike_16 : decode (m_code mX6_areUnlike) 16 = .ok (.invokevirtual 45, 3) := by decide +kernel
theorem dX6_areUnlike_19 : decode (m_code mX6_areUnlike) 19 = .ok (.istore 4, 2) := by decide +kernel
theorem dX6_areUnlike_21 : decode (m_code mX6_areUnlike) 21 = .ok (.aload_n 0, 1) := by decide +kernel
theorem dX6_areUnlike_22 : decode (m_code mX6_areUnlike) 22 = .ok (.getfield 109, 3) := by decide +kernel
theorem dX6_areUnlike_25 : decode (m_code mX6_areUnlike) 25 = .ok (.iload_n 3, 1) := by decide +kernel
theorem dX6_areUnlike_26 : decode (m_code mX6_areUnlike) 26 = .ok (.iload 4, 2) := by decide +kernel
theorem dX6_areUnlike_28 : decode (m_code mX6_areUnlike) 28 = .ok (.invokevirtual 113, 3) := by decide +kernel
theorem dX6_areUnlike_31 : decode (m_code mX6_areUnlike) 31 = .ok (.ifCond .ne 20, 3) := by decide +kernel
theorem dX6_areUnlike_34 : decode (m_code mX6_areUnlike) 34 = .ok (.aload_n 0, 1) := by decide +kernel
theorem dX6_areUnlike_35 : decode (m_code mX6_areUnlike) 35 = .ok (.getfield 109, 3) := by decide +kernel
theorem dX6_areUnlike_38 : decode (m_code mX6_areUnlike) 38 = .ok (.iload 4, 2) := by decide +kernel
theorem dX6_areUnlike_40 : decode (m_code mX6_areUnlike) 40 = .ok (.iload_n 3, 1) := by decide +kernel
theorem dX6_areUnlike_41 : decode (m_code mX6_areUnlike) 41 = .ok (.invokevirtual 113, 3) := by decide +kernel
theorem dX6_areUnlike_44 : decode (m_code mX6_areUnlike) 44 = .ok (.ifCond .ne 7, 3) := by decide +kernel
theorem dX6_areUnlike_47 : decode (m_code mX6_areUnlike) 47 = .ok (.iconst 1, 1) := by decide +kernel
theorem dX6_areUnlike_48 : decode (m_code mX6_areUnlike) 48 = .ok (.goto 4, 3) := by decide +kernel
theorem dX6_areUnlike_51 : decode (m_code mX6_areUnlike) 51 = .ok (.iconst 0, 1) := by decide +kernel
theorem dX6_areUnlike_52 : decode (m_code mX6_areUnlike) 52 = .ok (.ireturn, 1) := by decide +kernel
theorem dX6_forksOfAll_0 : decode (m_code mX6_forksOfAll) 0 = .ok (.iconst 0, 1) := by decide +kernel
theorem dX6_forksOfAll_1 : decode (m_code mX6_forksOfAll) 1 = .ok (.istore_n 1, 1) := by decide +kernel
theorem dX6_forksOfAll_2 : decode (m_code mX6_forksOfAll) 2 = .ok (.iconst 0, 1) := by decide +kernel
theorem dX6_forksOfAll_3 : decode (m_code mX6_forksOfAll) 3 = .ok (.istore_n 2, 1) := by decide +kernel
theorem dX6_forksOfAll_4 : decode (m_code mX6_forksOfAll) 4 = .ok (.iload_n 2, 1) := by decide +kernel
theorem dX6_forksOfAll_5 : decode (m_code mX6_forksOfAll) 5 = .ok (.aload_n 0, 1) := by decide +kernel
theorem dX6_forksOfAll_6 : decode (m_code mX6_forksOfAll) 6 = .ok (.getfield 158, 3) := by decide +kernel
theorem dX6_forksOfAll_9 : decode (m_code mX6_forksOfAll) 9 = .ok (.if_icmp .ge 21, 3) := by decide +kernel
theorem dX6_forksOfAll_12 : decode (m_code mX6_forksOfAll) 12 = .ok (.iload_n 1, 1) := by decide +kernel
theorem dX6_forksOfAll_13 : decode (m_code mX6_forksOfAll) 13 = .ok (.aload_n 0, 1) := by decide +kernel
theorem dX6_forksOfAll_14 : decode (m_code mX6_forksOfAll) 14 = .ok (.getfield 9, 3) := by decide +kernel
theorem dX6_forksOfAll_17 : decode (m_code mX6_forksOfAll) 17 = .ok (.iload_n 2, 1) := by decide +kernel
theorem dX6_forksOfAll_18 : decode (m_code mX6_forksOfAll) 18 = .ok (.aaload, 1) := by decide +kernel
theorem dX6_forksOfAll_19 : decode (m_code mX6_forksOfAll) 19 = .ok (.getfield 49, 3) := by decide +kernel
theorem dX6_forksOfAll_22 : decode (m_code mX6_forksOfAll) 22 = .ok (.iadd, 1) := by decide +kernel
theorem dX6_forksOfAll_23 : decode (m_code mX6_forksOfAll) 23 = .ok (.istore_n 1, 1) := by decide +kernel
theorem dX6_forksOfAll_24 : decode (m_code mX6_forksOfAll) 24 = .ok (.iinc 2 1, 3) := by decide +kernel
theorem dX6_forksOfAll_27 : decode (m_code mX6_forksOfAll) 27 = .ok (.goto (-23), 3) := by decide +kernel
theorem dX6_forksOfAll_30 : decode (m_code mX6_forksOfAll) 30 = .ok (.iload_n 1, 1) := by decide +kernel
theorem dX6_forksOfAll_31 : decode (m_code mX6_forksOfAll) 31 = .ok (.ireturn, 1) := by decide +kernel
theorem dX6_greatestView_0 : decode (m_code mX6_greatestView) 0 = .ok (.iconst 0, 1) := by decide +kernel
theorem dX6_greatestView_1 : decode (m_code mX6_greatestView) 1 = .ok (.istore_n 1, 1) := by decide +kernel
theorem dX6_greatestView_2 : decode (m_code mX6_greatestView) 2 = .ok (.iconst 0, 1) := by decide +kernel
theorem dX6_greatestView_3 : decode (m_code mX6_greatestView) 3 = .ok (.istore_n 2, 1) := by decide +kernel
theorem dX6_greatestView_4 : decode (m_code mX6_greatestView) 4 = .ok (.iload_n 2, 1) := by decide +kernel
theorem dX6_greatestView_5 : decode (m_code mX6_greatestView) 5 = .ok (.aload_n 0, 1) := by decide +kernel
theorem dX6_greatestView_6 : decode (m_code mX6_greatestView) 6 = .ok (.getfield 158, 3) := by decide +kernel
theorem dX6_greatestView_9 : decode (m_code mX6_greatestView) 9 = .ok (.if_icmp .ge 31, 3) := by decide +kernel
theorem dX6_greatestView_12 : decode (m_code mX6_greatestView) 12 = .ok (.aload_n 0, 1) := by decide +kernel
theorem dX6_greatestView_13 : decode (m_code mX6_greatestView) 13 = .ok (.iload_n 2, 1) := by decide +kernel
theorem dX6_greatestView_14 : decode (m_code mX6_greatestView) 14 = .ok (.invokevirtual 165, 3) := by decide +kernel
theorem dX6_greatestView_17 : decode (m_code mX6_greatestView) 17 = .ok (.ifCond .eq 17, 3) := by decide +kernel
theorem dX6_greatestView_20 : decode (m_code mX6_greatestView) 20 = .ok (.iload_n 1, 1) := by decide +kernel
theorem dX6_greatestView_21 : decode (m_code mX6_greatestView) 21 = .ok (.aload_n 0, 1) := by decide +kernel
theorem dX6_greatestView_22 : decode (m_code mX6_greatestView) 22 = .ok (.getfield 9, 3) := by decide +kernel
theorem dX6_greatestView_25 : decode (m_code mX6_greatestView) 25 = .ok (.iload_n 2, 1) := by decide +kernel
theorem dX6_greatestView_26 : decode (m_code mX6_greatestView) 26 = .ok (.aaload, 1) := by decide +kernel
theorem dX6_greatestView_27 : decode (m_code mX6_greatestView) 27 = .ok (.getfield 21, 3) := by decide +kernel
theorem dX6_greatestView_30 : decode (m_code mX6_greatestView) 30 = .ok (.invokestatic 152, 3) := by decide +kernel
theorem dX6_greatestView_33 : decode (m_code mX6_greatestView) 33 = .ok (.istore_n 1, 1) := by decide +kernel
theorem dX6_greatestView_34 : decode (m_code mX6_greatestView) 34 = .ok (.iinc 2 1, 3) := by decide +kernel
theorem dX6_greatestView_37 : decode (m_code mX6_greatestView) 37 = .ok (.goto (-33), 3) := by decide +kernel
theorem dX6_greatestView_40 : decode (m_code mX6_greatestView) 40 = .ok (.iload_n 1, 1) := by decide +kernel
theorem dX6_greatestView_41 : decode (m_code mX6_greatestView) 41 = .ok (.ireturn, 1) := by decide +kernel
theorem dX6_certifiedBlocks_0 : decode (m_code mX6_certifiedBlocks) 0 = .ok (.iconst 0, 1) := by decide +kernel
theorem dX6_certifiedBlocks_1 : decode (m_code mX6_certifiedBlocks) 1 = .ok (.istore_n 1, 1) := by decide +kernel
theorem dX6_certifiedBlocks_2 : decode (m_code mX6_certifiedBlocks) 2 = .ok (.iconst 0, 1) := by decide +kernel
theorem dX6_certifiedBlocks_3 : decode (m_code mX6_certifiedBlocks) 3 = .ok (.istore_n 2, 1) := by decide +kernel
theorem dX6_certifiedBlocks_4 : decode (m_code mX6_certifiedBlocks) 4 = .ok (.iload_n 2, 1) := by decide +kernel
theorem dX6_certifiedBlocks_5 : decode (m_code mX6_certifiedBlocks) 5 = .ok (.aload_n 0, 1) := by decide +kernel
theorem dX6_certifiedBlocks_6 : decode (m_code mX6_certifiedBlocks) 6 = .ok (.getfield 130, 3) := by decide +kernel
theorem dX6_certifiedBlocks_9 : decode (m_code mX6_certifiedBlocks) 9 = .ok (.if_icmp .ge 18, 3) := by decide +kernel
theorem dX6_certifiedBlocks_12 : decode (m_code mX6_certifiedBlocks) 12 = .ok (.iload_n 1, 1) := by decide +kernel
theorem dX6_certifiedBlocks_13 : decode (m_code mX6_certifiedBlocks) 13 = .ok (.aload_n 0, 1) := by decide +kernel
theorem dX6_certifiedBlocks_14 : decode (m_code mX6_certifiedBlocks) 14 = .ok (.getfield 88, 3) := by decide +kernel
theorem dX6_certifiedBlocks_17 : decode (m_code mX6_certifiedBlocks) 17 = .ok (.iload_n 2, 1) := by decide +kernel
theorem dX6_certifiedBlocks_18 : decode (m_code mX6_certifiedBlocks) 18 = .ok (.iaload, 1) := by decide +kernel
theorem dX6_certifiedBlocks_19 : decode (m_code mX6_certifiedBlocks) 19 = .ok (.iadd, 1) := by decide +kernel
theorem dX6_certifiedBlocks_20 : decode (m_code mX6_certifiedBlocks) 20 = .ok (.istore_n 1, 1) := by decide +kernel
theorem dX6_certifiedBlocks_21 : decode (m_code mX6_certifiedBlocks) 21 = .ok (.iinc 2 1, 3) := by decide +kernel
theorem dX6_certifiedBlocks_24 : decode (m_code mX6_certifiedBlocks) 24 = .ok (.goto (-20), 3) := by decide +kernel
theorem dX6_certifiedBlocks_27 : decode (m_code mX6_certifiedBlocks) 27 = .ok (.iload_n 1, 1) := by decide +kernel
theorem dX6_certifiedBlocks_28 : decode (m_code mX6_certifiedBlocks) 28 = .ok (.ireturn, 1) := by decide +kernel
theorem dX6_nodesOfMode_0 : decode (m_code mX6_nodesOfMode) 0 = .ok (.iconst 0, 1) := by decide +kernel
theorem dX6_nodesOfMode_1 : decode (m_code mX6_nodesOfMode) 1 = .ok (.istore_n 2, 1) := by decide +kernel
theorem dX6_nodesOfMode_2 : decode (m_code mX6_nodesOfMode) 2 = .ok (.iconst 0, 1) := by decide +kernel
theorem dX6_nodesOfMode_3 : decode (m_code mX6_nodesOfMode) 3 = .ok (.istore_n 3, 1) := by decide +kernel
theorem dX6_nodesOfMode_4 : decode (m_code mX6_nodesOfMode) 4 = .ok (.iload_n 3, 1) := by decide +kernel
theorem dX6_nodesOfMode_5 : decode (m_code mX6_nodesOfMode) 5 = .ok (.aload_n 0, 1) := by decide +kernel
theorem dX6_nodesOfMode_6 : decode (m_code mX6_nodesOfMode) 6 = .ok (.getfield 158, 3) := by decide +kernel
theorem dX6_nodesOfMode_9 : decode (m_code mX6_nodesOfMode) 9 = .ok (.if_icmp .ge 35, 3) := by decide +kernel
theorem dX6_nodesOfMode_12 : decode (m_code mX6_nodesOfMode) 12 = .ok (.iload_n 2, 1) := by decide +kernel
theorem dX6_nodesOfMode_13 : decode (m_code mX6_nodesOfMode) 13 = .ok (.aload_n 0, 1) := by decide +kernel
theorem dX6_nodesOfMode_14 : decode (m_code mX6_nodesOfMode) 14 = .ok (.getfield 9, 3) := by decide +kernel
theorem dX6_nodesOfMode_17 : decode (m_code mX6_nodesOfMode) 17 = .ok (.iload_n 3, 1) := by decide +kernel
theorem dX6_nodesOfMode_18 : decode (m_code mX6_nodesOfMode) 18 = .ok (.aaload, 1) := by decide +kernel
theorem dX6_nodesOfMode_19 : decode (m_code mX6_nodesOfMode) 19 = .ok (.getfield 15, 3) := by decide +kernel
theorem dX6_nodesOfMode_22 : decode (m_code mX6_nodesOfMode) 22 = .ok (.iload_n 1, 1) := by decide +kernel
theorem dX6_nodesOfMode_23 : decode (m_code mX6_nodesOfMode) 23 = .ok (.if_icmp .ne 7, 3) := by decide +kernel
theorem dX6_nodesOfMode_26 : decode (m_code mX6_nodesOfMode) 26 = .ok (.iconst 1, 1) := by decide +kernel
theorem dX6_nodesOfMode_27 : decode (m_code mX6_nodesOfMode) 27 = .ok (.goto 4, 3) := by decide +kernel
theorem dX6_nodesOfMode_30 : decode (m_code mX6_nodesOfMode) 30 = .ok (.iconst 0, 1) := by decide +kernel
theorem dX6_nodesOfMode_31 : decode (m_code mX6_nodesOfMode) 31 = .ok (.invokestatic 56, 3) := by decide +kernel
theorem dX6_nodesOfMode_34 : decode (m_code mX6_nodesOfMode) 34 = .ok (.iload_n 3, 1) := by decide +kernel
theorem dX6_nodesOfMode_35 : decode (m_code mX6_nodesOfMode) 35 = .ok (.ishl, 1) := by decide +kernel
theorem dX6_nodesOfMode_36 : decode (m_code mX6_nodesOfMode) 36 = .ok (.ior, 1) := by decide +kernel
theorem dX6_nodesOfMode_37 : decode (m_code mX6_nodesOfMode) 37 = .ok (.istore_n 2, 1) := by decide +kernel
theorem dX6_nodesOfMode_38 : decode (m_code mX6_nodesOfMode) 38 = .ok (.iinc 3 1, 3) := by decide +kernel
theorem dX6_nodesOfMode_41 : decode (m_code mX6_nodesOfMode) 41 = .ok (.goto (-37), 3) := by decide +kernel
theorem dX6_nodesOfMode_44 : decode (m_code mX6_nodesOfMode) 44 = .ok (.iload_n 2, 1) := by decide +kernel
theorem dX6_nodesOfMode_45 : decode (m_code mX6_nodesOfMode) 45 = .ok (.ireturn, 1) := by decide +kernel
theorem dX6_cutCouples_0 : decode (m_code mX6_cutCouples) 0 = .ok (.iconst 0, 1) := by decide +kernel
theorem dX6_cutCouples_1 : decode (m_code mX6_cutCouples) 1 = .ok (.istore_n 1, 1) := by decide +kernel
theorem dX6_cutCouples_2 : decode (m_code mX6_cutCouples) 2 = .ok (.iconst 0, 1) := by decide +kernel
theorem dX6_cutCouples_3 : decode (m_code mX6_cutCouples) 3 = .ok (.istore_n 2, 1) := by decide +kernel
theorem dX6_cutCouples_4 : decode (m_code mX6_cutCouples) 4 = .ok (.iload_n 2, 1) := by decide +kernel
theorem dX6_cutCouples_5 : decode (m_code mX6_cutCouples) 5 = .ok (.aload_n 0, 1) := by decide +kernel
theorem dX6_cutCouples_6 : decode (m_code mX6_cutCouples) 6 = .ok (.getfield 158, 3) := by decide +kernel
theorem dX6_cutCouples_9 : decode (m_code mX6_cutCouples) 9 = .ok (.if_icmp .ge 24, 3) := by decide +kernel
theorem dX6_cutCouples_12 : decode (m_code mX6_cutCouples) 12 = .ok (.iload_n 1, 1) := by decide +kernel
theorem dX6_cutCouples_13 : decode (m_code mX6_cutCouples) 13 = .ok (.aload_n 0, 1) := by decide +kernel
theorem dX6_cutCouples_14 : decode (m_code mX6_cutCouples) 14 = .ok (.getfield 211, 3) := by decide +kernel
theorem dX6_cutCouples_17 : decode (m_code mX6_cutCouples) 17 = .ok (.getfield 271, 3) := by decide +kernel
theorem dX6_cutCouples_20 : decode (m_code mX6_cutCouples) 20 = .ok (.iload_n 2, 1) := by decide +kernel
theorem dX6_cutCouples_21 : decode (m_code mX6_cutCouples) 21 = .ok (.iaload, 1) := by decide +kernel
theorem dX6_cutCouples_22 : decode (m_code mX6_cutCouples) 22 = .ok (.invokestatic 179, 3) := by decide +kernel
theorem dX6_cutCouples_25 : decode (m_code mX6_cutCouples) 25 = .ok (.iadd, 1) := by decide +kernel
theorem dX6_cutCouples_26 : decode (m_code mX6_cutCouples) 26 = .ok (.istore_n 1, 1) := by decide +kernel
theorem dX6_cutCouples_27 : decode (m_code mX6_cutCouples) 27 = .ok (.iinc 2 1, 3) := by decide +kernel
theorem dX6_cutCouples_30 : decode (m_code mX6_cutCouples) 30 = .ok (.goto (-26), 3) := by decide +kernel
theorem dX6_cutCouples_33 : decode (m_code mX6_cutCouples) 33 = .ok (.iload_n 1, 1) := by decide +kernel
theorem dX6_cutCouples_34 : decode (m_code mX6_cutCouples) 34 = .ok (.iconst 2, 1) := by decide +kernel
theorem dX6_cutCouples_35 : decode (m_code mX6_cutCouples) 35 = .ok (.idiv, 1) := by decide +kernel
theorem dX6_cutCouples_36 : decode (m_code mX6_cutCouples) 36 = .ok (.ireturn, 1) := by decide +kernel
theorem dX7_init_0 : decode (m_code mX7_init) 0 = .ok (.aload_n 0, 1) := by decide +kernel
theorem dX7_init_1 : decode (m_code mX7_init) 1 = .ok (.invokespecial 3, 3) := by decide +kernel
theorem dX7_init_4 : decode (m_code mX7_init) 4 = .ok (.aload_n 0, 1) := by decide +kernel
theorem dX7_init_5 : decode (m_code mX7_init) 5 = .ok (.sipush 400, 3) := by decide +kernel
theorem dX7_init_8 : decode (m_code mX7_init) 8 = .ok (.newarray .byte, 2) := by decide +kernel
theorem dX7_init_10 : decode (m_code mX7_init) 10 = .ok (.putfield 9, 3) := by decide +kernel
theorem dX7_init_13 : decode (m_code mX7_init) 13 = .ok (.aload_n 0, 1) := by decide +kernel
theorem dX7_init_14 : decode (m_code mX7_init) 14 = .ok (.new 15, 3) := by decide +kernel
theorem dX7_init_17 : decode (m_code mX7_init) 17 = .ok (.dup, 1) := by decide +kernel
theorem dX7_init_18 : decode (m_code mX7_init) 18 = .ok (.invokespecial 17, 3) := by decide +kernel
theorem dX7_init_21 : decode (m_code mX7_init) 21 = .ok (.putfield 18, 3) := by decide +kernel
theorem dX7_init_24 : decode (m_code mX7_init) 24 = .ok (.aload_n 0, 1) := by decide +kernel
theorem dX7_init_25 : decode (m_code mX7_init) 25 = .ok (.iconst (-1), 1) := by decide +kernel
theorem dX7_init_26 : decode (m_code mX7_init) 26 = .ok (.putfield 22, 3) := by decide +kernel
theorem dX7_init_29 : decode (m_code mX7_init) 29 = .ok (.return_, 1) := by decide +kernel
theorem dX7_write_0 : decode (m_code mX7_write) 0 = .ok (.bipush 24, 2) := by decide +kernel
theorem dX7_write_2 : decode (m_code mX7_write) 2 = .ok (.istore_n 2, 1) := by decide +kernel
theorem dX7_write_3 : decode (m_code mX7_write) 3 = .ok (.iload_n 2, 1) := by decide +kernel
theorem dX7_write_4 : decode (m_code mX7_write) 4 = .ok (.ifCond .lt 42, 3) := by decide +kernel
theorem dX7_write_7 : decode (m_code mX7_write) 7 = .ok (.aload_n 0, 1) := by decide +kernel
theorem dX7_write_8 : decode (m_code mX7_write) 8 = .ok (.getfield 26, 3) := by decide +kernel
theorem dX7_write_11 : decode (m_code mX7_write) 11 = .ok (.sipush 400, 3) := by decide +kernel
theorem dX7_write_14 : decode (m_code mX7_write) 14 = .ok (.if_icmp .ge 32, 3) := by decide +kernel
theorem dX7_write_17 : decode (m_code mX7_write) 17 = .ok (.aload_n 0, 1) := by decide +kernel
theorem dX7_write_18 : decode (m_code mX7_write) 18 = .ok (.getfield 9, 3) := by decide +kernel
theorem dX7_write_21 : decode (m_code mX7_write) 21 = .ok (.aload_n 0, 1) := by decide +kernel
theorem dX7_write_22 : decode (m_code mX7_write) 22 = .ok (.getfield 26, 3) := by decide +kernel
theorem dX7_write_25 : decode (m_code mX7_write) 25 = .ok (.iload_n 1, 1) := by decide +kernel
theorem dX7_write_26 : decode (m_code mX7_write) 26 = .ok (.iload_n 2, 1) := by decide +kernel
theorem dX7_write_27 : decode (m_code mX7_write) 27 = .ok (.ishr, 1) := by decide +kernel
theorem dX7_write_28 : decode (m_code mX7_write) 28 = .ok (.i2b, 1) := by decide +kernel
theorem dX7_write_29 : decode (m_code mX7_write) 29 = .ok (.bastore, 1) := by decide +kernel
theorem dX7_write_30 : decode (m_code mX7_write) 30 = .ok (.aload_n 0, 1) := by decide +kernel
theorem dX7_write_31 : decode (m_code mX7_write) 31 = .ok (.dup, 1) := by decide +kernel
theorem dX7_write_32 : decode (m_code mX7_write) 32 = .ok (.getfield 26, 3) := by decide +kernel
theorem dX7_write_35 : decode (m_code mX7_write) 35 = .ok (.iconst 1, 1) := by decide +kernel
theorem dX7_write_36 : decode (m_code mX7_write) 36 = .ok (.iadd, 1) := by decide +kernel
theorem dX7_write_37 : decode (m_code mX7_write) 37 = .ok (.putfield 26, 3) := by decide +kernel
theorem dX7_write_40 : decode (m_code mX7_write) 40 = .ok (.iinc 2 (-8), 3) := by decide +kernel
theorem dX7_write_43 : decode (m_code mX7_write) 43 = .ok (.goto (-40), 3) := by decide +kernel
theorem dX7_write_46 : decode (m_code mX7_write) 46 = .ok (.return_, 1) := by decide +kernel
theorem dX7_read_0 : decode (m_code mX7_read) 0 = .ok (.aload_n 0, 1) := by decide +kernel
theorem dX7_read_1 : decode (m_code mX7_read) 1 = .ok (.iconst 0, 1) := by decide +kernel
theorem dX7_read_2 : decode (m_code mX7_read) 2 = .ok (.putfield 29, 3) := by decide +kernel
theorem dX7_read_5 : decode (m_code mX7_read) 5 = .ok (.aload_n 0, 1) := by decide +kernel
theorem dX7_read_6 : decode (m_code mX7_read) 6 = .ok (.iconst (-1), 1) := by decide +kernel
theorem dX7_read_7 : decode (m_code mX7_read) 7 = .ok (.putfield 22, 3) := by decide +kernel
theorem dX7_read_10 : decode (m_code mX7_read) 10 = .ok (.aload_n 0, 1) := by decide +kernel
theorem dX7_read_11 : decode (m_code mX7_read) 11 = .ok (.iconst 0, 1) := by decide +kernel
theorem dX7_read_12 : decode (m_code mX7_read) 12 = .ok (.putfield 32, 3) := by decide +kernel
theorem dX7_read_15 : decode (m_code mX7_read) 15 = .ok (.aload_n 0, 1) := by decide +kernel
theorem dX7_read_16 : decode (m_code mX7_read) 16 = .ok (.getfield 18, 3) := by decide +kernel
theorem dX7_read_19 : decode (m_code mX7_read) 19 = .ok (.invokevirtual 35, 3) := by decide +kernel
theorem dX7_read_22 : decode (m_code mX7_read) 22 = .ok (.aload_n 0, 1) := by decide +kernel
theorem dX7_read_23 : decode (m_code mX7_read) 23 = .ok (.invokevirtual 38, 3) := by decide +kernel
theorem dX7_read_26 : decode (m_code mX7_read) 26 = .ok (.iconst 0, 1) := by decide +kernel
theorem dX7_read_27 : decode (m_code mX7_read) 27 = .ok (.istore_n 1, 1) := by decide +kernel
theorem dX7_read_28 : decode (m_code mX7_read) 28 = .ok (.iload_n 1, 1) := by decide +kernel
theorem dX7_read_29 : decode (m_code mX7_read) 29 = .ok (.bipush 24, 2) := by decide +kernel
theorem dX7_read_31 : decode (m_code mX7_read) 31 = .ok (.if_icmp .gt 27, 3) := by decide +kernel
theorem dX7_read_34 : decode (m_code mX7_read) 34 = .ok (.aload_n 0, 1) := by decide +kernel
theorem dX7_read_35 : decode (m_code mX7_read) 35 = .ok (.getfield 29, 3) := by decide +kernel
theorem dX7_read_38 : decode (m_code mX7_read) 38 = .ok (.ifCond .ne 20, 3) := by decide +kernel
theorem dX7_read_41 : decode (m_code mX7_read) 41 = .ok (.aload_n 0, 1) := by decide +kernel
theorem dX7_read_42 : decode (m_code mX7_read) 42 = .ok (.getfield 41, 3) := by decide +kernel
theorem dX7_read_45 : decode (m_code mX7_read) 45 = .ok (.ifCond .eq 13, 3) := by decide +kernel
theorem dX7_read_48 : decode (m_code mX7_read) 48 = .ok (.aload_n 0, 1) := by decide +kernel
theorem dX7_read_49 : decode (m_code mX7_read) 49 = .ok (.invokevirtual 44, 3) := by decide +kernel
theorem dX7_read_52 : decode (m_code mX7_read) 52 = .ok (.iinc 1 1, 3) := by decide +kernel
theorem dX7_read_55 : decode (m_code mX7_read) 55 = .ok (.goto (-27), 3) := by decide +kernel
theorem dX7_read_58 : decode (m_code mX7_read) 58 = .ok (.aload_n 0, 1) := by decide +kernel
theorem dX7_read_59 : decode (m_code mX7_read) 59 = .ok (.iconst 0, 1) := by decide +kernel
theorem dX7_read_60 : decode (m_code mX7_read) 60 = .ok (.putfield 26, 3) := by decide +kernel
theorem dX7_read_63 : decode (m_code mX7_read) 63 = .ok (.aload_n 0, 1) := by decide +kernel
theorem dX7_read_64 : decode (m_code mX7_read) 64 = .ok (.getfield 29, 3) := by decide +kernel
theorem dX7_read_67 : decode (m_code mX7_read) 67 = .ok (.ifCond .ne 7, 3) := by decide +kernel
theorem dX7_read_70 : decode (m_code mX7_read) 70 = .ok (.iconst 1, 1) := by decide +kernel
theorem dX7_read_71 : decode (m_code mX7_read) 71 = .ok (.goto 4, 3) := by decide +kernel
theorem dX7_read_74 : decode (m_code mX7_read) 74 = .ok (.iconst 0, 1) := by decide +kernel
theorem dX7_read_75 : decode (m_code mX7_read) 75 = .ok (.ireturn, 1) := by decide +kernel
theorem dX7_readLine_0 : decode (m_code mX7_readLine) 0 = .ok (.aload_n 0, 1) := by decide +kernel
theorem dX7_readLine_1 : decode (m_code mX7_readLine) 1 = .ok (.iconst 1, 1) := by decide +kernel
theorem dX7_readLine_2 : decode (m_code mX7_readLine) 2 = .ok (.bipush 8, 2) := by decide +kernel
theorem dX7_readLine_4 : decode (m_code mX7_readLine) 4 = .ok (.invokevirtual 47, 3) := by decide +kernel
theorem dX7_readLine_7 : decode (m_code mX7_readLine) 7 = .ok (.istore_n 1, 1) := by decide +kernel
theorem dX7_readLine_8 : decode (m_code mX7_readLine) 8 = .ok (.iload_n 1, 1) := by decide +kernel
theorem dX7_readLine_9 : decode (m_code mX7_readLine) 9 = .ok (.ifCond .ne 9, 3) := by decide +kernel
theorem dX7_readLine_12 : decode (m_code mX7_readLine) 12 = .ok (.aload_n 0, 1) := by decide +kernel
theorem dX7_readLine_13 : decode (m_code mX7_readLine) 13 = .ok (.iconst 1, 1) := by decide +kernel
theorem dX7_readLine_14 : decode (m_code mX7_readLine) 14 = .ok (.invokevirtual 51, 3) := by decide +kernel
theorem dX7_readLine_17 : decode (m_code mX7_readLine) 17 = .ok (.return_, 1) := by decide +kernel
theorem dX7_readLine_18 : decode (m_code mX7_readLine) 18 = .ok (.aload_n 0, 1) := by decide +kernel
theorem dX7_readLine_19 : decode (m_code mX7_readLine) 19 = .ok (.getfield 18, 3) := by decide +kernel
theorem dX7_readLine_22 : decode (m_code mX7_readLine) 22 = .ok (.invokevirtual 55, 3) := by decide +kernel
theorem dX7_readLine_25 : decode (m_code mX7_readLine) 25 = .ok (.ifCond .eq 9, 3) := by decide +kernel
theorem dX7_readLine_28 : decode (m_code mX7_readLine) 28 = .ok (.aload_n 0, 1) := by decide +kernel
theorem dX7_readLine_29 : decode (m_code mX7_readLine) 29 = .ok (.iconst 3, 1) := by decide +kernel
theorem dX7_readLine_30 : decode (m_code mX7_readLine) 30 = .ok (.invokevirtual 51, 3) := by decide +kernel
theorem dX7_readLine_33 : decode (m_code mX7_readLine) 33 = .ok (.return_, 1) := by decide +kernel
theorem dX7_readLine_34 : decode (m_code mX7_readLine) 34 = .ok (.aload_n 0, 1) := by decide +kernel
theorem dX7_readLine_35 : decode (m_code mX7_readLine) 35 = .ok (.invokevirtual 38, 3) := by decide +kernel
theorem dX7_readLine_38 : decode (m_code mX7_readLine) 38 = .ok (.aload_n 0, 1) := by decide +kernel
theorem dX7_readLine_39 : decode (m_code mX7_readLine) 39 = .ok (.iload_n 1, 1) := by decide +kernel
theorem dX7_readLine_40 : decode (m_code mX7_readLine) 40 = .ok (.iconst 0, 1) := by decide +kernel
theorem dX7_readLine_41 : decode (m_code mX7_readLine) 41 = .ok (.invokevirtual 59, 3) := by decide +kernel
theorem dX7_readLine_44 : decode (m_code mX7_readLine) 44 = .ok (.istore_n 2, 1) := by decide +kernel
theorem dX7_readLine_45 : decode (m_code mX7_readLine) 45 = .ok (.iload_n 1, 1) := by decide +kernel
theorem dX7_readLine_46 : decode (m_code mX7_readLine) 46 = .ok (.bipush 8, 2) := by decide +kernel
theorem dX7_readLine_48 : decode (m_code mX7_readLine) 48 = .ok (.if_icmp .ne 15, 3) := by decide +kernel
theorem dX7_readLine_51 : decode (m_code mX7_readLine) 51 = .ok (.aload_n 0, 1) := by decide +kernel
theorem dX7_readLine_52 : decode (m_code mX7_readLine) 52 = .ok (.getfield 29, 3) := by decide +kernel
theorem dX7_readLine_55 : decode (m_code mX7_readLine) 55 = .ok (.ifCond .ne 8, 3) := by decide +kernel
theorem dX7_readLine_58 : decode (m_code mX7_readLine) 58 = .ok (.aload_n 0, 1) := by decide +kernel
theorem dX7_readLine_59 : decode (m_code mX7_readLine) 59 = .ok (.invokevirtual 62, 3) := by decide +kernel
theorem dX7_readLine_62 : decode (m_code mX7_readLine) 62 = .ok (.istore_n 1, 1) := by decide +kernel
theorem dX7_readLine_63 : decode (m_code mX7_readLine) 63 = .ok (.aload_n 0, 1) := by decide +kernel
theorem dX7_readLine_64 : decode (m_code mX7_readLine) 64 = .ok (.iload_n 1, 1) := by decide +kernel
theorem dX7_readLine_65 : decode (m_code mX7_readLine) 65 = .ok (.iconst 1, 1) := by decide +kernel
theorem dX7_readLine_66 : decode (m_code mX7_readLine) 66 = .ok (.invokevirtual 59, 3) := by decide +kernel
theorem dX7_readLine_69 : decode (m_code mX7_readLine) 69 = .ok (.istore_n 3, 1) := by decide +kernel
theorem dX7_readLine_70 : decode (m_code mX7_readLine) 70 = .ok (.aload_n 0, 1) := by decide +kernel
theorem dX7_readLine_71 : decode (m_code mX7_readLine) 71 = .ok (.iload_n 1, 1) := by decide +kernel
theorem dX7_readLine_72 : decode (m_code mX7_readLine) 72 = .ok (.iconst 2, 1) := by decide +kernel
theorem dX7_readLine_73 : decode (m_code mX7_readLine) 73 = .ok (.invokevirtual 59, 3) := by decide +kernel
theorem dX7_readLine_76 : decode (m_code mX7_readLine) 76 = .ok (.istore 4, 2) := by decide +kernel
theorem dX7_readLine_78 : decode (m_code mX7_readLine) 78 = .ok (.aload_n 0, 1) := by decide +kernel
theorem dX7_readLine_79 : decode (m_code mX7_readLine) 79 = .ok (.invokevirtual 66, 3) := by decide +kernel
theorem dX7_readLine_82 : decode (m_code mX7_readLine) 82 = .ok (.aload_n 0, 1) := by decide +kernel
theorem dX7_readLine_83 : decode (m_code mX7_readLine) 83 = .ok (.getfield 29, 3) := by decide +kernel
theorem dX7_readLine_86 : decode (m_code mX7_readLine) 86 = .ok (.ifCond .ne 15, 3) := by decide +kernel
theorem dX7_readLine_89 : decode (m_code mX7_readLine) 89 = .ok (.aload_n 0, 1) := by decide +kernel
theorem dX7_readLine_90 : decode (m_code mX7_readLine) 90 = .ok (.getfield 18, 3) := by decide +kernel
theorem dX7_readLine_93 : decode (m_code mX7_readLine) 93 = .ok (.iload_n 1, 1) := by decide +kernel
theorem dX7_readLine_94 : decode (m_code mX7_readLine) 94 = .ok (.iload_n 2, 1) := by decide +kernel
theorem dX7_readLine_95 : decode (m_code mX7_readLine) 95 = .ok (.iload_n 3, 1) := by decide +kernel
theorem dX7_readLine_96 : decode (m_code mX7_readLine) 96 = .ok (.iload 4, 2) := by decide +kernel
theorem dX7_readLine_98 : decode (m_code mX7_readLine) 98 = .ok (.invokevirtual 69, 3) := by decide +kernel
theorem dX7_readLine_101 : decode (m_code mX7_readLine) 101 = .ok (.return_, 1) := by decide +kernel
theorem dX7_readLie_0 : decode (m_code mX7_readLie) 0 = .ok (.aload_n 0, 1) := by decide +kernel
theorem dX7_readLie_1 : decode (m_code mX7_readLie) 1 = .ok (.bipush 9, 2) := by decide +kernel
theorem dX7_readLie_3 : decode (m_code mX7_readLie) 3 = .ok (.bipush 11, 2) := by decide +kernel
theorem dX7_readLie_5 : decode (m_code mX7_readLie) 5 = .ok (.invokevirtual 47, 3) := by decide +kernel
theorem dX7_readLie_8 : decode (m_code mX7_readLie) 8 = .ok (.istore_n 1, 1) := by decide +kernel
theorem dX7_readLie_9 : decode (m_code mX7_readLie) 9 = .ok (.iload_n 1, 1) := by decide +kernel
theorem dX7_readLie_10 : decode (m_code mX7_readLie) 10 = .ok (.ifCond .ne 11, 3) := by decide +kernel
theorem dX7_readLie_13 : decode (m_code mX7_readLie) 13 = .ok (.aload_n 0, 1) := by decide +kernel
theorem dX7_readLie_14 : decode (m_code mX7_readLie) 14 = .ok (.iconst 1, 1) := by decide +kernel
theorem dX7_readLie_15 : decode (m_code mX7_readLie) 15 = .ok (.invokevirtual 51, 3) := by decide +kernel
theorem dX7_readLie_18 : decode (m_code mX7_readLie) 18 = .ok (.bipush 8, 2) := by decide +kernel
theorem dX7_readLie_20 : decode (m_code mX7_readLie) 20 = .ok (.ireturn, 1) := by decide +kernel
theorem dX7_readLie_21 : decode (m_code mX7_readLie) 21 = .ok (.aload_n 0, 1) := by decide +kernel
theorem dX7_readLie_22 : decode (m_code mX7_readLie) 22 = .ok (.invokevirtual 38, 3) := by decide +kernel
theorem dX7_readLie_25 : decode (m_code mX7_readLie) 25 = .ok (.iload_n 1, 1) := by decide +kernel
theorem dX7_readLie_26 : decode (m_code mX7_readLie) 26 = .ok (.ireturn, 1) := by decide +kernel
theorem dX7_readNumber_0 : decode (m_code mX7_readNumber) 0 = .ok (.iload_n 1, 1) := by decide +kernel
theorem dX7_readNumber_1 : decode (m_code mX7_readNumber) 1 = .ok (.invokestatic 73, 3) := by decide +kernel
theorem dX7_readNumber_4 : decode (m_code mX7_readNumber) 4 = .ok (.astore_n 3, 1) := by decide +kernel
theorem dX7_readNumber_5 : decode (m_code mX7_readNumber) 5 = .ok (.aload_n 0, 1) := by decide +kernel
theorem dX7_readNumber_6 : decode (m_code mX7_readNumber) 6 = .ok (.getfield 29, 3) := by decide +kernel
theorem dX7_readNumber_9 : decode (m_code mX7_readNumber) 9 = .ok (.ifCond .ne 11, 3) := by decide +kernel
theorem dX7_readNumber_12 : decode (m_code mX7_readNumber) 12 = .ok (.iload_n 2, 1) := by decide +kernel
theorem dX7_readNumber_13 : decode (m_code mX7_readNumber) 13 = .ok (.aload_n 3, 1) := by decide +kernel
theorem dX7_readNumber_14 : decode (m_code mX7_readNumber) 14 = .ok (.invokevirtual 77, 3) := by decide +kernel
theorem dX7_readNumber_17 : decode (m_code mX7_readNumber) 17 = .ok (.if_icmp .lt 5, 3) := by decide +kernel
theorem dX7_readNumber_20 : decode (m_code mX7_readNumber) 20 = .ok (.iconst 0, 1) := by decide +kernel
theorem dX7_readNumber_21 : decode (m_code mX7_readNumber) 21 = .ok (.ireturn, 1) := by decide +kernel
theorem dX7_readNumber_22 : decode (m_code mX7_readNumber) 22 = .ok (.aload_n 0, 1) := by decide +kernel
theorem dX7_readNumber_23 : decode (m_code mX7_readNumber) 23 = .ok (.getfield 41, 3) := by decide +kernel
theorem dX7_readNumber_26 : decode (m_code mX7_readNumber) 26 = .ok (.iconst 2, 1) := by decide +kernel
theorem dX7_readNumber_27 : decode (m_code mX7_readNumber) 27 = .ok (.if_icmp .eq 10, 3) := by decide +kernel
theorem dX7_readNumber_30 : decode (m_code mX7_readNumber) 30 = .ok (.aload_n 0, 1) := by decide +kernel
theorem dX7_readNumber_31 : decode (m_code mX7_readNumber) 31 = .ok (.iconst 1, 1) := by decide +kernel
theorem dX7_readNumber_32 : decode (m_code mX7_readNumber) 32 = .ok (.invokevirtual 51, 3) := by decide +kernel
theorem dX7_readNumber_35 : decode (m_code mX7_readNumber) 35 = .ok (.iconst 0, 1) := by decide +kernel
theorem dX7_readNumber_36 : decode (m_code mX7_readNumber) 36 = .ok (.ireturn, 1) := by decide +kernel
theorem dX7_readNumber_37 : decode (m_code mX7_readNumber) 37 = .ok (.aload_n 0, 1) := by decide +kernel
theorem dX7_readNumber_38 : decode (m_code mX7_readNumber) 38 = .ok (.invokevirtual 81, 3) := by decide +kernel
theorem dX7_readNumber_41 : decode (m_code mX7_readNumber) 41 = .ok (.istore 4, 2) := by decide +kernel
theorem dX7_readNumber_43 : decode (m_code mX7_readNumber) 43 = .ok (.iload 4, 2) := by decide +kernel
theorem dX7_readNumber_45 : decode (m_code mX7_readNumber) 45 = .ok (.aload_n 3, 1) := by decide +kernel
theorem dX7_readNumber_46 : decode (m_code mX7_readNumber) 46 = .ok (.iload_n 2, 1) := by decide +kernel
theorem dX7_readNumber_47 : decode (m_code mX7_readNumber) 47 = .ok (.invokevirtual 84, 3) := by decide +kernel
theorem dX7_readNumber_50 : decode (m_code mX7_readNumber) 50 = .ok (.invokestatic 88, 3) := by decide +kernel
theorem dX7_readNumber_53 : decode (m_code mX7_readNumber) 53 = .ok (.if_icmp .lt 16, 3) := by decide +kernel
theorem dX7_readNumber_56 : decode (m_code mX7_readNumber) 56 = .ok (.iload 4, 2) := by decide +kernel
theorem dX7_readNumber_58 : decode (m_code mX7_readNumber) 58 = .ok (.aload_n 3, 1) := by decide +kernel
theorem dX7_readNumber_59 : decode (m_code mX7_readNumber) 59 = .ok (.iload_n 2, 1) := by decide +kernel
theorem dX7_readNumber_60 : decode (m_code mX7_readNumber) 60 = .ok (.invokevirtual 84, 3) := by decide +kernel
theorem dX7_readNumber_63 : decode (m_code mX7_readNumber) 63 = .ok (.invokestatic 92, 3) := by decide +kernel
theorem dX7_readNumber_66 : decode (m_code mX7_readNumber) 66 = .ok (.if_icmp .le 10, 3) := by decide +kernel
theorem dX7_readNumber_69 : decode (m_code mX7_readNumber) 69 = .ok (.aload_n 0, 1) := by decide +kernel
theorem dX7_readNumber_70 : decode (m_code mX7_readNumber) 70 = .ok (.iconst 2, 1) := by decide +kernel
theorem dX7_readNumber_71 : decode (m_code mX7_readNumber) 71 = .ok (.invokevirtual 51, 3) := by decide +kernel
theorem dX7_readNumber_74 : decode (m_code mX7_readNumber) 74 = .ok (.iconst 0, 1) := by decide +kernel
theorem dX7_readNumber_75 : decode (m_code mX7_readNumber) 75 = .ok (.ireturn, 1) := by decide +kernel
theorem dX7_readNumber_76 : decode (m_code mX7_readNumber) 76 = .ok (.aload_n 0, 1) := by decide +kernel
theorem dX7_readNumber_77 : decode (m_code mX7_readNumber) 77 = .ok (.invokevirtual 38, 3) := by decide +kernel
theorem dX7_readNumber_80 : decode (m_code mX7_readNumber) 80 = .ok (.iload 4, 2) := by decide +kernel
theorem dX7_readNumber_82 : decode (m_code mX7_readNumber) 82 = .ok (.ireturn, 1) := by decide +kernel
theorem dX7_readSemicolon_0 : decode (m_code mX7_readSemicolon) 0 = .ok (.aload_n 0, 1) := by decide +kernel
theorem dX7_readSemicolon_1 : decode (m_code mX7_readSemicolon) 1 = .ok (.getfield 29, 3) := by decide +kernel
theorem dX7_readSemicolon_4 : decode (m_code mX7_readSemicolon) 4 = .ok (.ifCond .eq 4, 3) := by decide +kernel
theorem dX7_readSemicolon_7 : decode (m_code mX7_readSemicolon) 7 = .ok (.return_, 1) := by decide +kernel
theorem dX7_readSemicolon_8 : decode (m_code mX7_readSemicolon) 8 = .ok (.aload_n 0, 1) := by decide +kernel
theorem dX7_readSemicolon_9 : decode (m_code mX7_readSemicolon) 9 = .ok (.getfield 41, 3) := by decide +kernel
theorem dX7_readSemicolon_12 : decode (m_code mX7_readSemicolon) 12 = .ok (.iconst 3, 1) := by decide +kernel
theorem dX7_readSemicolon_13 : decode (m_code mX7_readSemicolon) 13 = .ok (.if_icmp .eq 9, 3) := by decide +kernel
theorem dX7_readSemicolon_16 : decode (m_code mX7_readSemicolon) 16 = .ok (.aload_n 0, 1) := by decide +kernel
theorem dX7_readSemicolon_17 : decode (m_code mX7_readSemicolon) 17 = .ok (.iconst 1, 1) := by decide +kernel
theorem dX7_readSemicolon_18 : decode (m_code mX7_readSemicolon) 18 = .ok (.invokevirtual 51, 3) := by decide +kernel
theorem dX7_readSemicolon_21 : decode (m_code mX7_readSemicolon) 21 = .ok (.return_, 1) := by decide +kernel
theorem dX7_readSemicolon_22 : decode (m_code mX7_readSemicolon) 22 = .ok (.aload_n 0, 1) := by decide +kernel
theorem dX7_readSemicolon_23 : decode (m_code mX7_readSemicolon) 23 = .ok (.invokevirtual 38, 3) := by decide +kernel
theorem dX7_readSemicolon_26 : decode (m_code mX7_readSemicolon) 26 = .ok (.return_, 1) := by decide +kernel
theorem dX7_fail_0 : decode (m_code mX7_fail) 0 = .ok (.aload_n 0, 1) := by decide +kernel
theorem dX7_fail_1 : decode (m_code mX7_fail) 1 = .ok (.iload_n 1, 1) := by decide +kernel
theorem dX7_fail_2 : decode (m_code mX7_fail) 2 = .ok (.putfield 29, 3) := by decide +kernel
theorem dX7_fail_5 : decode (m_code mX7_fail) 5 = .ok (.aload_n 0, 1) := by decide +kernel
theorem dX7_fail_6 : decode (m_code mX7_fail) 6 = .ok (.aload_n 0, 1) := by decide +kernel
theorem dX7_fail_7 : decode (m_code mX7_fail) 7 = .ok (.getfield 95, 3) := by decide +kernel
theorem dX7_fail_10 : decode (m_code mX7_fail) 10 = .ok (.putfield 22, 3) := by decide +kernel
theorem dX7_fail_13 : decode (m_code mX7_fail) 13 = .ok (.return_, 1) := by decide +kernel
theorem dX7_step_0 : decode (m_code mX7_step) 0 = .ok (.aload_n 0, 1) := by decide +kernel
theorem dX7_step_1 : decode (m_code mX7_step) 1 = .ok (.aload_n 0, 1) := by decide +kernel
theorem dX7_step_2 : decode (m_code mX7_step) 2 = .ok (.getfield 32, 3) := by decide +kernel
theorem dX7_step_5 : decode (m_code mX7_step) 5 = .ok (.putfield 95, 3) := by decide +kernel
theorem dX7_step_8 : decode (m_code mX7_step) 8 = .ok (.aload_n 0, 1) := by decide +kernel
theorem dX7_step_9 : decode (m_code mX7_step) 9 = .ok (.getfield 95, 3) := by decide +kernel
theorem dX7_step_12 : decode (m_code mX7_step) 12 = .ok (.aload_n 0, 1) := by decide +kernel
theorem dX7_step_13 : decode (m_code mX7_step) 13 = .ok (.getfield 26, 3) := by decide +kernel
theorem dX7_step_16 : decode (m_code mX7_step) 16 = .ok (.if_icmp .ge 31, 3) := by decide +kernel
theorem dX7_step_19 : decode (m_code mX7_step) 19 = .ok (.aload_n 0, 1) := by decide +kernel
theorem dX7_step_20 : decode (m_code mX7_step) 20 = .ok (.getfield 9, 3) := by decide +kernel
theorem dX7_step_23 : decode (m_code mX7_step) 23 = .ok (.aload_n 0, 1) := by decide +kernel
theorem dX7_step_24 : decode (m_code mX7_step) 24 = .ok (.getfield 95, 3) := by decide +kernel
theorem dX7_step_27 : decode (m_code mX7_step) 27 = .ok (.baload, 1) := by decide +kernel
theorem dX7_step_28 : decode (m_code mX7_step) 28 = .ok (.invokestatic 98, 3) := by decide +kernel
theorem dX7_step_31 : decode (m_code mX7_step) 31 = .ok (.ifCond .eq 16, 3) := by decide +kernel
theorem dX7_step_34 : decode (m_code mX7_step) 34 = .ok (.aload_n 0, 1) := by decide +kernel
theorem dX7_step_35 : decode (m_code mX7_step) 35 = .ok (.dup, 1) := by decide +kernel
theorem dX7_step_36 : decode (m_code mX7_step) 36 = .ok (.getfield 95, 3) := by decide +kernel
theorem dX7_step_39 : decode (m_code mX7_step) 39 = .ok (.iconst 1, 1) := by decide +kernel
theorem dX7_step_40 : decode (m_code mX7_step) 40 = .ok (.iadd, 1) := by decide +kernel
theorem dX7_step_41 : decode (m_code mX7_step) 41 = .ok (.putfield 95, 3) := by decide +kernel
theorem dX7_step_44 : decode (m_code mX7_step) 44 = .ok (.goto (-36), 3) := by decide +kernel
theorem dX7_step_47 : decode (m_code mX7_step) 47 = .ok (.aload_n 0, 1) := by decide +kernel
theorem dX7_step_48 : decode (m_code mX7_step) 48 = .ok (.aload_n 0, 1) := by decide +kernel
theorem dX7_step_49 : decode (m_code mX7_step) 49 = .ok (.getfield 95, 3) := by decide +kernel
theorem dX7_step_52 : decode (m_code mX7_step) 52 = .ok (.putfield 32, 3) := by decide +kernel
theorem dX7_step_55 : decode (m_code mX7_step) 55 = .ok (.aload_n 0, 1) := by decide +kernel
theorem dX7_step_56 : decode (m_code mX7_step) 56 = .ok (.getfield 95, 3) := by decide +kernel
theorem dX7_step_59 : decode (m_code mX7_step) 59 = .ok (.aload_n 0, 1) := by decide +kernel
theorem dX7_step_60 : decode (m_code mX7_step) 60 = .ok (.getfield 26, 3) := by decide +kernel
theorem dX7_step_63 : decode (m_code mX7_step) 63 = .ok (.if_icmp .lt 11, 3) := by decide +kernel
theorem dX7_step_66 : decode (m_code mX7_step) 66 = .ok (.aload_n 0, 1) := by decide +kernel
theorem dX7_step_67 : decode (m_code mX7_step) 67 = .ok (.iconst 0, 1) := by decide +kernel
theorem dX7_step_68 : decode (m_code mX7_step) 68 = .ok (.putfield 41, 3) := by decide +kernel
theorem dX7_step_71 : decode (m_code mX7_step) 71 = .ok (.goto 177, 3) := by decide +kernel
theorem dX7_step_74 : decode (m_code mX7_step) 74 = .ok (.aload_n 0, 1) := by decide +kernel
theorem dX7_step_75 : decode (m_code mX7_step) 75 = .ok (.getfield 9, 3) := by decide +kernel
theorem dX7_step_78 : decode (m_code mX7_step) 78 = .ok (.aload_n 0, 1) := by decide +kernel
theorem dX7_step_79 : decode (m_code mX7_step) 79 = .ok (.getfield 95, 3) := by decide +kernel
theorem dX7_step_82 : decode (m_code mX7_step) 82 = .ok (.baload, 1) := by decide +kernel
theorem dX7_step_83 : decode (m_code mX7_step) 83 = .ok (.invokestatic 102, 3) := by decide +kernel
theorem dX7_step_86 : decode (m_code mX7_step) 86 = .ok (.ifCond .eq 50, 3) := by decide +kernel
theorem dX7_step_89 : decode (m_code mX7_step) 89 = .ok (.aload_n 0, 1) := by decide +kernel
theorem dX7_step_90 : decode (m_code mX7_step) 90 = .ok (.getfield 32, 3) := by decide +kernel
theorem dX7_step_93 : decode (m_code mX7_step) 93 = .ok (.aload_n 0, 1) := by decide +kernel
theorem dX7_step_94 : decode (m_code mX7_step) 94 = .ok (.getfield 26, 3) := by decide +kernel
theorem dX7_step_97 : decode (m_code mX7_step) 97 = .ok (.if_icmp .ge 31, 3) := by decide +kernel
theorem dX7_step_100 : decode (m_code mX7_step) 100 = .ok (.aload_n 0, 1) := by decide +kernel
theorem dX7_step_101 : decode (m_code mX7_step) 101 = .ok (.getfield 9, 3) := by decide +kernel
theorem dX7_step_104 : decode (m_code mX7_step) 104 = .ok (.aload_n 0, 1) := by decide +kernel
theorem dX7_step_105 : decode (m_code mX7_step) 105 = .ok (.getfield 32, 3) := by decide +kernel
theorem dX7_step_108 : decode (m_code mX7_step) 108 = .ok (.baload, 1) := by decide +kernel
theorem dX7_step_109 : decode (m_code mX7_step) 109 = .ok (.invokestatic 102, 3) := by decide +kernel
theorem dX7_step_112 : decode (m_code mX7_step) 112 = .ok (.ifCond .eq 16, 3) := by decide +kernel
theorem dX7_step_115 : decode (m_code mX7_step) 115 = .ok (.aload_n 0, 1) := by decide +kernel
theorem dX7_step_116 : decode (m_code mX7_step) 116 = .ok (.dup, 1) := by decide +kernel
theorem dX7_step_117 : decode (m_code mX7_step) 117 = .ok (.getfield 32, 3) := by decide +kernel
theorem dX7_step_120 : decode (m_code mX7_step) 120 = .ok (.iconst 1, 1) := by decide +kernel
theorem dX7_step_121 : decode (m_code mX7_step) 121 = .ok (.iadd, 1) := by decide +kernel
theorem dX7_step_122 : decode (m_code mX7_step) 122 = .ok (.putfield 32, 3) := by decide +kernel
theorem dX7_step_125 : decode (m_code mX7_step) 125 = .ok (.goto (-36), 3) := by decide +kernel
theorem dX7_step_128 : decode (m_code mX7_step) 128 = .ok (.aload_n 0, 1) := by decide +kernel
theorem dX7_step_129 : decode (m_code mX7_step) 129 = .ok (.iconst 1, 1) := by decide +kernel
theorem dX7_step_130 : decode (m_code mX7_step) 130 = .ok (.putfield 41, 3) := by decide +kernel
theorem dX7_step_133 : decode (m_code mX7_step) 133 = .ok (.goto 115, 3) := by decide +kernel
theorem dX7_step_136 : decode (m_code mX7_step) 136 = .ok (.aload_n 0, 1) := by decide +kernel
theorem dX7_step_137 : decode (m_code mX7_step) 137 = .ok (.getfield 9, 3) := by decide +kernel
theorem dX7_step_140 : decode (m_code mX7_step) 140 = .ok (.aload_n 0, 1) := by decide +kernel
theorem dX7_step_141 : decode (m_code mX7_step) 141 = .ok (.getfield 95, 3) := by decide +kernel
theorem dX7_step_144 : decode (m_code mX7_step) 144 = .ok (.baload, 1) := by decide +kernel
theorem dX7_step_145 : decode (m_code mX7_step) 145 = .ok (.invokestatic 105, 3) := by decide +kernel
theorem dX7_step_148 : decode (m_code mX7_step) 148 = .ok (.ifCond .eq 67, 3) := by decide +kernel
theorem dX7_step_151 : decode (m_code mX7_step) 151 = .ok (.aload_n 0, 1) := by decide +kernel
theorem dX7_step_152 : decode (m_code mX7_step) 152 = .ok (.getfield 32, 3) := by decide +kernel
theorem dX7_step_155 : decode (m_code mX7_step) 155 = .ok (.aload_n 0, 1) := by decide +kernel
theorem dX7_step_156 : decode (m_code mX7_step) 156 = .ok (.getfield 26, 3) := by decide +kernel
theorem dX7_step_159 : decode (m_code mX7_step) 159 = .ok (.if_icmp .ge 31, 3) := by decide +kernel
theorem dX7_step_162 : decode (m_code mX7_step) 162 = .ok (.aload_n 0, 1) := by decide +kernel
theorem dX7_step_163 : decode (m_code mX7_step) 163 = .ok (.getfield 9, 3) := by decide +kernel
theorem dX7_step_166 : decode (m_code mX7_step) 166 = .ok (.aload_n 0, 1) := by decide +kernel
theorem dX7_step_167 : decode (m_code mX7_step) 167 = .ok (.getfield 32, 3) := by decide +kernel
theorem dX7_step_170 : decode (m_code mX7_step) 170 = .ok (.baload, 1) := by decide +kernel
theorem dX7_step_171 : decode (m_code mX7_step) 171 = .ok (.invokestatic 105, 3) := by decide +kernel
theorem dX7_step_174 : decode (m_code mX7_step) 174 = .ok (.ifCond .eq 16, 3) := by decide +kernel
theorem dX7_step_177 : decode (m_code mX7_step) 177 = .ok (.aload_n 0, 1) := by decide +kernel
theorem dX7_step_178 : decode (m_code mX7_step) 178 = .ok (.dup, 1) := by decide +kernel
theorem dX7_step_179 : decode (m_code mX7_step) 179 = .ok (.getfield 32, 3) := by decide +kernel
theorem dX7_step_182 : decode (m_code mX7_step) 182 = .ok (.iconst 1, 1) := by decide +kernel
theorem dX7_step_183 : decode (m_code mX7_step) 183 = .ok (.iadd, 1) := by decide +kernel
theorem dX7_step_184 : decode (m_code mX7_step) 184 = .ok (.putfield 32, 3) := by decide +kernel
theorem dX7_step_187 : decode (m_code mX7_step) 187 = .ok (.goto (-36), 3) := by decide +kernel
theorem dX7_step_190 : decode (m_code mX7_step) 190 = .ok (.aload_n 0, 1) := by decide +kernel
theorem dX7_step_191 : decode (m_code mX7_step) 191 = .ok (.aload_n 0, 1) := by decide +kernel
theorem dX7_step_192 : decode (m_code mX7_step) 192 = .ok (.getfield 32, 3) := by decide +kernel
theorem dX7_step_195 : decode (m_code mX7_step) 195 = .ok (.aload_n 0, 1) := by decide +kernel
theorem dX7_step_196 : decode (m_code mX7_step) 196 = .ok (.getfield 95, 3) := by decide +kernel
theorem dX7_step_199 : decode (m_code mX7_step) 199 = .ok (.isub, 1) := by decide +kernel
theorem dX7_step_200 : decode (m_code mX7_step) 200 = .ok (.iconst 4, 1) := by decide +kernel
theorem dX7_step_201 : decode (m_code mX7_step) 201 = .ok (.if_icmp .gt 7, 3) := by decide +kernel
theorem dX7_step_204 : decode (m_code mX7_step) 204 = .ok (.iconst 2, 1) := by decide +kernel
theorem dX7_step_205 : decode (m_code mX7_step) 205 = .ok (.goto 4, 3) := by decide +kernel
theorem dX7_step_208 : decode (m_code mX7_step) 208 = .ok (.iconst 4, 1) := by decide +kernel
theorem dX7_step_209 : decode (m_code mX7_step) 209 = .ok (.putfield 41, 3) := by decide +kernel
theorem dX7_step_212 : decode (m_code mX7_step) 212 = .ok (.goto 36, 3) := by decide +kernel
theorem dX7_step_215 : decode (m_code mX7_step) 215 = .ok (.aload_n 0, 1) := by decide +kernel
theorem dX7_step_216 : decode (m_code mX7_step) 216 = .ok (.aload_n 0, 1) := by decide +kernel
theorem dX7_step_217 : decode (m_code mX7_step) 217 = .ok (.getfield 95, 3) := by decide +kernel
theorem dX7_step_220 : decode (m_code mX7_step) 220 = .ok (.iconst 1, 1) := by decide +kernel
theorem dX7_step_221 : decode (m_code mX7_step) 221 = .ok (.iadd, 1) := by decide +kernel
theorem dX7_step_222 : decode (m_code mX7_step) 222 = .ok (.putfield 32, 3) := by decide +kernel
theorem dX7_step_225 : decode (m_code mX7_step) 225 = .ok (.aload_n 0, 1) := by decide +kernel
theorem dX7_step_226 : decode (m_code mX7_step) 226 = .ok (.aload_n 0, 1) := by decide +kernel
theorem dX7_step_227 : decode (m_code mX7_step) 227 = .ok (.getfield 9, 3) := by decide +kernel
theorem dX7_step_230 : decode (m_code mX7_step) 230 = .ok (.aload_n 0, 1) := by decide +kernel
theorem dX7_step_231 : decode (m_code mX7_step) 231 = .ok (.getfield 95, 3) := by decide +kernel
theorem dX7_step_234 : decode (m_code mX7_step) 234 = .ok (.baload, 1) := by decide +kernel
theorem dX7_step_235 : decode (m_code mX7_step) 235 = .ok (.bipush 59, 2) := by decide +kernel
theorem dX7_step_237 : decode (m_code mX7_step) 237 = .ok (.if_icmp .ne 7, 3) := by decide +kernel
theorem dX7_step_240 : decode (m_code mX7_step) 240 = .ok (.iconst 3, 1) := by decide +kernel
theorem dX7_step_241 : decode (m_code mX7_step) 241 = .ok (.goto 4, 3) := by decide +kernel
theorem dX7_step_244 : decode (m_code mX7_step) 244 = .ok (.iconst 4, 1) := by decide +kernel
theorem dX7_step_245 : decode (m_code mX7_step) 245 = .ok (.putfield 41, 3) := by decide +kernel
theorem dX7_step_248 : decode (m_code mX7_step) 248 = .ok (.return_, 1) := by decide +kernel
theorem dX7_isBlank_0 : decode (m_code mX7_isBlank) 0 = .ok (.iload_n 0, 1) := by decide +kernel
theorem dX7_isBlank_1 : decode (m_code mX7_isBlank) 1 = .ok (.bipush 32, 2) := by decide +kernel
theorem dX7_isBlank_3 : decode (m_code mX7_isBlank) 3 = .ok (.if_icmp .eq 9, 3) := by decide +kernel
theorem dX7_isBlank_6 : decode (m_code mX7_isBlank) 6 = .ok (.iload_n 0, 1) := by decide +kernel
theorem dX7_isBlank_7 : decode (m_code mX7_isBlank) 7 = .ok (.bipush 10, 2) := by decide +kernel
theorem dX7_isBlank_9 : decode (m_code mX7_isBlank) 9 = .ok (.if_icmp .ne 7, 3) := by decide +kernel
theorem dX7_isBlank_12 : decode (m_code mX7_isBlank) 12 = .ok (.iconst 1, 1) := by decide +kernel
theorem dX7_isBlank_13 : decode (m_code mX7_isBlank) 13 = .ok (.goto 4, 3) := by decide +kernel
theorem dX7_isBlank_16 : decode (m_code mX7_isBlank) 16 = .ok (.iconst 0, 1) := by decide +kernel
theorem dX7_isBlank_17 : decode (m_code mX7_isBlank) 17 = .ok (.ireturn, 1) := by decide +kernel
theorem dX7_isLetter_0 : decode (m_code mX7_isLetter) 0 = .ok (.iload_n 0, 1) := by decide +kernel
theorem dX7_isLetter_1 : decode (m_code mX7_isLetter) 1 = .ok (.bipush 97, 2) := by decide +kernel
theorem dX7_isLetter_3 : decode (m_code mX7_isLetter) 3 = .ok (.if_icmp .lt 9, 3) := by decide +kernel
theorem dX7_isLetter_6 : decode (m_code mX7_isLetter) 6 = .ok (.iload_n 0, 1) := by decide +kernel
theorem dX7_isLetter_7 : decode (m_code mX7_isLetter) 7 = .ok (.bipush 122, 2) := by decide +kernel
theorem dX7_isLetter_9 : decode (m_code mX7_isLetter) 9 = .ok (.if_icmp .le 15, 3) := by decide +kernel
theorem dX7_isLetter_12 : decode (m_code mX7_isLetter) 12 = .ok (.iload_n 0, 1) := by decide +kernel
theorem dX7_isLetter_13 : decode (m_code mX7_isLetter) 13 = .ok (.bipush 65, 2) := by decide +kernel
theorem dX7_isLetter_15 : decode (m_code mX7_isLetter) 15 = .ok (.if_icmp .lt 13, 3) := by decide +kernel
theorem dX7_isLetter_18 : decode (m_code mX7_isLetter) 18 = .ok (.iload_n 0, 1) := by decide +kernel
theorem dX7_isLetter_19 : decode (m_code mX7_isLetter) 19 = .ok (.bipush 90, 2) := by decide +kernel
theorem dX7_isLetter_21 : decode (m_code mX7_isLetter) 21 = .ok (.if_icmp .gt 7, 3) := by decide +kernel
theorem dX7_isLetter_24 : decode (m_code mX7_isLetter) 24 = .ok (.iconst 1, 1) := by decide +kernel
theorem dX7_isLetter_25 : decode (m_code mX7_isLetter) 25 = .ok (.goto 4, 3) := by decide +kernel
theorem dX7_isLetter_28 : decode (m_code mX7_isLetter) 28 = .ok (.iconst 0, 1) := by decide +kernel
theorem dX7_isLetter_29 : decode (m_code mX7_isLetter) 29 = .ok (.ireturn, 1) := by decide +kernel
theorem dX7_isDigit_0 : decode (m_code mX7_isDigit) 0 = .ok (.iload_n 0, 1) := by decide +kernel
theorem dX7_isDigit_1 : decode (m_code mX7_isDigit) 1 = .ok (.bipush 48, 2) := by decide +kernel
theorem dX7_isDigit_3 : decode (m_code mX7_isDigit) 3 = .ok (.if_icmp .lt 13, 3) := by decide +kernel
theorem dX7_isDigit_6 : decode (m_code mX7_isDigit) 6 = .ok (.iload_n 0, 1) := by decide +kernel
theorem dX7_isDigit_7 : decode (m_code mX7_isDigit) 7 = .ok (.bipush 57, 2) := by decide +kernel
theorem dX7_isDigit_9 : decode (m_code mX7_isDigit) 9 = .ok (.if_icmp .gt 7, 3) := by decide +kernel
theorem dX7_isDigit_12 : decode (m_code mX7_isDigit) 12 = .ok (.iconst 1, 1) := by decide +kernel
theorem dX7_isDigit_13 : decode (m_code mX7_isDigit) 13 = .ok (.goto 4, 3) := by decide +kernel
theorem dX7_isDigit_16 : decode (m_code mX7_isDigit) 16 = .ok (.iconst 0, 1) := by decide +kernel
theorem dX7_isDigit_17 : decode (m_code mX7_isDigit) 17 = .ok (.ireturn, 1) := by decide +kernel
theorem dX7_numberHere_0 : decode (m_code mX7_numberHere) 0 = .ok (.iconst 0, 1) := by decide +kernel
theorem dX7_numberHere_1 : decode (m_code mX7_numberHere) 1 = .ok (.istore_n 1, 1) := by decide +kernel
theorem dX7_numberHere_2 : decode (m_code mX7_numberHere) 2 = .ok (.aload_n 0, 1) := by decide +kernel
theorem dX7_numberHere_3 : decode (m_code mX7_numberHere) 3 = .ok (.getfield 95, 3) := by decide +kernel
theorem dX7_numberHere_6 : decode (m_code mX7_numberHere) 6 = .ok (.istore_n 2, 1) := by decide +kernel
theorem dX7_numberHere_7 : decode (m_code mX7_numberHere) 7 = .ok (.iload_n 2, 1) := by decide +kernel
theorem dX7_numberHere_8 : decode (m_code mX7_numberHere) 8 = .ok (.aload_n 0, 1) := by decide +kernel
theorem dX7_numberHere_9 : decode (m_code mX7_numberHere) 9 = .ok (.getfield 32, 3) := by decide +kernel
theorem dX7_numberHere_12 : decode (m_code mX7_numberHere) 12 = .ok (.if_icmp .ge 24, 3) := by decide +kernel
theorem dX7_numberHere_15 : decode (m_code mX7_numberHere) 15 = .ok (.bipush 10, 2) := by decide +kernel
theorem dX7_numberHere_17 : decode (m_code mX7_numberHere) 17 = .ok (.iload_n 1, 1) := by decide +kernel
theorem dX7_numberHere_18 : decode (m_code mX7_numberHere) 18 = .ok (.imul, 1) := by decide +kernel
theorem dX7_numberHere_19 : decode (m_code mX7_numberHere) 19 = .ok (.aload_n 0, 1) := by decide +kernel
theorem dX7_numberHere_20 : decode (m_code mX7_numberHere) 20 = .ok (.getfield 9, 3) := by decide +kernel
theorem dX7_numberHere_23 : decode (m_code mX7_numberHere) 23 = .ok (.iload_n 2, 1) := by decide +kernel
theorem dX7_numberHere_24 : decode (m_code mX7_numberHere) 24 = .ok (.baload, 1) := by decide +kernel
theorem dX7_numberHere_25 : decode (m_code mX7_numberHere) 25 = .ok (.iadd, 1) := by decide +kernel
theorem dX7_numberHere_26 : decode (m_code mX7_numberHere) 26 = .ok (.bipush 48, 2) := by decide +kernel
theorem dX7_numberHere_28 : decode (m_code mX7_numberHere) 28 = .ok (.isub, 1) := by decide +kernel
theorem dX7_numberHere_29 : decode (m_code mX7_numberHere) 29 = .ok (.istore_n 1, 1) := by decide +kernel
theorem dX7_numberHere_30 : decode (m_code mX7_numberHere) 30 = .ok (.iinc 2 1, 3) := by decide +kernel
theorem dX7_numberHere_33 : decode (m_code mX7_numberHere) 33 = .ok (.goto (-26), 3) := by decide +kernel
theorem dX7_numberHere_36 : decode (m_code mX7_numberHere) 36 = .ok (.iload_n 1, 1) := by decide +kernel
theorem dX7_numberHere_37 : decode (m_code mX7_numberHere) 37 = .ok (.ireturn, 1) := by decide +kernel
theorem dX7_wordAmong_0 : decode (m_code mX7_wordAmong) 0 = .ok (.iload_n 1, 1) := by decide +kernel
theorem dX7_wordAmong_1 : decode (m_code mX7_wordAmong) 1 = .ok (.istore_n 3, 1) := by decide +kernel
theorem dX7_wordAmong_2 : decode (m_code mX7_wordAmong) 2 = .ok (.iload_n 3, 1) := by decide +kernel
theorem dX7_wordAmong_3 : decode (m_code mX7_wordAmong) 3 = .ok (.iload_n 2, 1) := by decide +kernel
theorem dX7_wordAmong_4 : decode (m_code mX7_wordAmong) 4 = .ok (.if_icmp .gt 30, 3) := by decide +kernel
theorem dX7_wordAmong_7 : decode (m_code mX7_wordAmong) 7 = .ok (.aload_n 0, 1) := by decide +kernel
theorem dX7_wordAmong_8 : decode (m_code mX7_wordAmong) 8 = .ok (.getfield 41, 3) := by decide +kernel
theorem dX7_wordAmong_11 : decode (m_code mX7_wordAmong) 11 = .ok (.iconst 1, 1) := by decide +kernel
theorem dX7_wordAmong_12 : decode (m_code mX7_wordAmong) 12 = .ok (.if_icmp .ne 16, 3) := by decide +kernel
theorem dX7_wordAmong_15 : decode (m_code mX7_wordAmong) 15 = .ok (.aload_n 0, 1) := by decide +kernel
theorem dX7_wordAmong_16 : decode (m_code mX7_wordAmong) 16 = .ok (.iload_n 3, 1) := by decide +kernel
theorem dX7_wordAmong_17 : decode (m_code mX7_wordAmong) 17 = .ok (.invokestatic 108, 3) := by decide +kernel
theorem dX7_wordAmong_20 : decode (m_code mX7_wordAmong) 20 = .ok (.invokevirtual 111, 3) := by decide +kernel
theorem dX7_wordAmong_23 : decode (m_code mX7_wordAmong) 23 = .ok (.ifCond .eq 5, 3) := by decide +kernel
theorem dX7_wordAmong_26 : decode (m_code mX7_wordAmong) 26 = .ok (.iload_n 3, 1) := by decide +kernel
theorem dX7_wordAmong_27 : decode (m_code mX7_wordAmong) 27 = .ok (.ireturn, 1) := by decide +kernel
theorem dX7_wordAmong_28 : decode (m_code mX7_wordAmong) 28 = .ok (.iinc 3 1, 3) := by decide +kernel
theorem dX7_wordAmong_31 : decode (m_code mX7_wordAmong) 31 = .ok (.goto (-29), 3) := by decide +kernel
theorem dX7_wordAmong_34 : decode (m_code mX7_wordAmong) 34 = .ok (.iconst 0, 1) := by decide +kernel
theorem dX7_wordAmong_35 : decode (m_code mX7_wordAmong) 35 = .ok (.ireturn, 1) := by decide +kernel
theorem dX7_isHere_0 : decode (m_code mX7_isHere) 0 = .ok (.aload_n 1, 1) := by decide +kernel
theorem dX7_isHere_1 : decode (m_code mX7_isHere) 1 = .ok (.invokevirtual 77, 3) := by decide +kernel
theorem dX7_isHere_4 : decode (m_code mX7_isHere) 4 = .ok (.aload_n 0, 1) := by decide +kernel
theorem dX7_isHere_5 : decode (m_code mX7_isHere) 5 = .ok (.getfield 32, 3) := by decide +kernel
theorem dX7_isHere_8 : decode (m_code mX7_isHere) 8 = .ok (.aload_n 0, 1) := by decide +kernel
theorem dX7_isHere_9 : decode (m_code mX7_isHere) 9 = .ok (.getfield 95, 3) := by decide +kernel
theorem dX7_isHere_12 : decode (m_code mX7_isHere) 12 = .ok (.isub, 1) := by decide +kernel
theorem dX7_isHere_13 : decode (m_code mX7_isHere) 13 = .ok (.if_icmp .eq 5, 3) := by decide +kernel
theorem dX7_isHere_16 : decode (m_code mX7_isHere) 16 = .ok (.iconst 0, 1) := by decide +kernel
theorem dX7_isHere_17 : decode (m_code mX7_isHere) 17 = .ok (.ireturn, 1) := by decide +kernel
theorem dX7_isHere_18 : decode (m_code mX7_isHere) 18 = .ok (.iconst 0, 1) := by decide +kernel
theorem dX7_isHere_19 : decode (m_code mX7_isHere) 19 = .ok (.istore_n 2, 1) := by decide +kernel
theorem dX7_isHere_20 : decode (m_code mX7_isHere) 20 = .ok (.iload_n 2, 1) := by decide +kernel
theorem dX7_isHere_21 : decode (m_code mX7_isHere) 21 = .ok (.aload_n 1, 1) := by decide +kernel
theorem dX7_isHere_22 : decode (m_code mX7_isHere) 22 = .ok (.invokevirtual 77, 3) := by decide +kernel
theorem dX7_isHere_25 : decode (m_code mX7_isHere) 25 = .ok (.if_icmp .ge 30, 3) := by decide +kernel
theorem dX7_isHere_28 : decode (m_code mX7_isHere) 28 = .ok (.aload_n 0, 1) := by decide +kernel
theorem dX7_isHere_29 : decode (m_code mX7_isHere) 29 = .ok (.getfield 9, 3) := by decide +kernel
theorem dX7_isHere_32 : decode (m_code mX7_isHere) 32 = .ok (.aload_n 0, 1) := by decide +kernel
theorem dX7_isHere_33 : decode (m_code mX7_isHere) 33 = .ok (.getfield 95, 3) := by decide +kernel
theorem dX7_isHere_36 : decode (m_code mX7_isHere) 36 = .ok (.iload_n 2, 1) := by decide +kernel
theorem dX7_isHere_37 : decode (m_code mX7_isHere) 37 = .ok (.iadd, 1) := by decide +kernel
theorem dX7_isHere_38 : decode (m_code mX7_isHere) 38 = .ok (.baload, 1) := by decide +kernel
theorem dX7_isHere_39 : decode (m_code mX7_isHere) 39 = .ok (.aload_n 1, 1) := by decide +kernel
theorem dX7_isHere_40 : decode (m_code mX7_isHere) 40 = .ok (.iload_n 2, 1) := by decide +kernel
theorem dX7_isHere_41 : decode (m_code mX7_isHere) 41 = .ok (.invokevirtual 84, 3) := by decide +kernel
theorem dX7_isHere_44 : decode (m_code mX7_isHere) 44 = .ok (.if_icmp .eq 5, 3) := by decide +kernel
theorem dX7_isHere_47 : decode (m_code mX7_isHere) 47 = .ok (.iconst 0, 1) := by decide +kernel
theorem dX7_isHere_48 : decode (m_code mX7_isHere) 48 = .ok (.ireturn, 1) := by decide +kernel
theorem dX7_isHere_49 : decode (m_code mX7_isHere) 49 = .ok (.iinc 2 1, 3) := by decide +kernel
theorem dX7_isHere_52 : decode (m_code mX7_isHere) 52 = .ok (.goto (-32), 3) := by decide +kernel
theorem dX7_isHere_55 : decode (m_code mX7_isHere) 55 = .ok (.iconst 1, 1) := by decide +kernel
theorem dX7_isHere_56 : decode (m_code mX7_isHere) 56 = .ok (.ireturn, 1) := by decide +kernel
theorem dX7_wordOf_0 : decode (m_code mX7_wordOf) 0 = .ok (.iload_n 0, 1) := by decide +kernel
theorem dX7_wordOf_1 : decode (m_code mX7_wordOf) 1 = .ok (.tableswitch 92 1 11 #[59, 62, 65, 68, 71, 74, 77, 80, 83, 86, 89], 59) := by decide +kernel
theorem dX7_wordOf_60 : decode (m_code mX7_wordOf) 60 = .ok (.ldc 115, 2) := by decide +kernel
theorem dX7_wordOf_62 : decode (m_code mX7_wordOf) 62 = .ok (.areturn, 1) := by decide +kernel
theorem dX7_wordOf_63 : decode (m_code mX7_wordOf) 63 = .ok (.ldc 117, 2) := by decide +kernel
theorem dX7_wordOf_65 : decode (m_code mX7_wordOf) 65 = .ok (.areturn, 1) := by decide +kernel
theorem dX7_wordOf_66 : decode (m_code mX7_wordOf) 66 = .ok (.ldc 119, 2) := by decide +kernel
theorem dX7_wordOf_68 : decode (m_code mX7_wordOf) 68 = .ok (.areturn, 1) := by decide +kernel
theorem dX7_wordOf_69 : decode (m_code mX7_wordOf) 69 = .ok (.ldc 121, 2) := by decide +kernel
theorem dX7_wordOf_71 : decode (m_code mX7_wordOf) 71 = .ok (.areturn, 1) := by decide +kernel
theorem dX7_wordOf_72 : decode (m_code mX7_wordOf) 72 = .ok (.ldc 123, 2) := by decide +kernel
theorem dX7_wordOf_74 : decode (m_code mX7_wordOf) 74 = .ok (.areturn, 1) := by decide +kernel
theorem dX7_wordOf_75 : decode (m_code mX7_wordOf) 75 = .ok (.ldc 125, 2) := by decide +kernel
theorem dX7_wordOf_77 : decode (m_code mX7_wordOf) 77 = .ok (.areturn, 1) := by decide +kernel
theorem dX7_wordOf_78 : decode (m_code mX7_wordOf) 78 = .ok (.ldc 127, 2) := by decide +kernel
theorem dX7_wordOf_80 : decode (m_code mX7_wordOf) 80 = .ok (.areturn, 1) := by decide +kernel
theorem dX7_wordOf_81 : decode (m_code mX7_wordOf) 81 = .ok (.ldc 129, 2) := by decide +kernel
theorem dX7_wordOf_83 : decode (m_code mX7_wordOf) 83 = .ok (.areturn, 1) := by decide +kernel
theorem dX7_wordOf_84 : decode (m_code mX7_wordOf) 84 = .ok (.ldc 131, 2) := by decide +kernel
theorem dX7_wordOf_86 : decode (m_code mX7_wordOf) 86 = .ok (.areturn, 1) := by decide +kernel
theorem dX7_wordOf_87 : decode (m_code mX7_wordOf) 87 = .ok (.ldc 133, 2) := by decide +kernel
theorem dX7_wordOf_89 : decode (m_code mX7_wordOf) 89 = .ok (.areturn, 1) := by decide +kernel
theorem dX7_wordOf_90 : decode (m_code mX7_wordOf) 90 = .ok (.ldc 125, 2) := by decide +kernel
theorem dX7_wordOf_92 : decode (m_code mX7_wordOf) 92 = .ok (.areturn, 1) := by decide +kernel
theorem dX7_wordOf_93 : decode (m_code mX7_wordOf) 93 = .ok (.ldc 135, 2) := by decide +kernel
theorem dX7_wordOf_95 : decode (m_code mX7_wordOf) 95 = .ok (.areturn, 1) := by decide +kernel
theorem dX7_numbersOf_0 : decode (m_code mX7_numbersOf) 0 = .ok (.iload_n 0, 1) := by decide +kernel
theorem dX7_numbersOf_1 : decode (m_code mX7_numbersOf) 1 = .ok (.tableswitch 92 1 11 #[59, 62, 65, 68, 71, 74, 77, 80, 83, 86, 89], 59) := by decide +kernel
theorem dX7_numbersOf_60 : decode (m_code mX7_numbersOf) 60 = .ok (.ldc 137, 2) := by decide +kernel
theorem dX7_numbersOf_62 : decode (m_code mX7_numbersOf) 62 = .ok (.areturn, 1) := by decide +kernel
theorem dX7_numbersOf_63 : decode (m_code mX7_numbersOf) 63 = .ok (.ldc 139, 2) := by decide +kernel
theorem dX7_numbersOf_65 : decode (m_code mX7_numbersOf) 65 = .ok (.areturn, 1) := by decide +kernel
theorem dX7_numbersOf_66 : decode (m_code mX7_numbersOf) 66 = .ok (.ldc 139, 2) := by decide +kernel
theorem dX7_numbersOf_68 : decode (m_code mX7_numbersOf) 68 = .ok (.areturn, 1) := by decide +kernel
theorem dX7_numbersOf_69 : decode (m_code mX7_numbersOf) 69 = .ok (.ldc 141, 2) := by decide +kernel
theorem dX7_numbersOf_71 : decode (m_code mX7_numbersOf) 71 = .ok (.areturn, 1) := by decide +kernel
theorem dX7_numbersOf_72 : decode (m_code mX7_numbersOf) 72 = .ok (.ldc 143, 2) := by decide +kernel
theorem dX7_numbersOf_74 : decode (m_code mX7_numbersOf) 74 = .ok (.areturn, 1) := by decide +kernel
theorem dX7_numbersOf_75 : decode (m_code mX7_numbersOf) 75 = .ok (.ldc 141, 2) := by decide +kernel
theorem dX7_numbersOf_77 : decode (m_code mX7_numbersOf) 77 = .ok (.areturn, 1) := by decide +kernel
theorem dX7_numbersOf_78 : decode (m_code mX7_numbersOf) 78 = .ok (.ldc 145, 2) := by decide +kernel
theorem dX7_numbersOf_80 : decode (m_code mX7_numbersOf) 80 = .ok (.areturn, 1) := by decide +kernel
theorem dX7_numbersOf_81 : decode (m_code mX7_numbersOf) 81 = .ok (.ldc 141, 2) := by decide +kernel
theorem dX7_numbersOf_83 : decode (m_code mX7_numbersOf) 83 = .ok (.areturn, 1) := by decide +kernel
theorem dX7_numbersOf_84 : decode (m_code mX7_numbersOf) 84 = .ok (.ldc 147, 2) := by decide +kernel
theorem dX7_numbersOf_86 : decode (m_code mX7_numbersOf) 86 = .ok (.areturn, 1) := by decide +kernel
theorem dX7_numbersOf_87 : decode (m_code mX7_numbersOf) 87 = .ok (.ldc 149, 2) := by decide +kernel
theorem dX7_numbersOf_89 : decode (m_code mX7_numbersOf) 89 = .ok (.areturn, 1) := by decide +kernel
theorem dX7_numbersOf_90 : decode (m_code mX7_numbersOf) 90 = .ok (.ldc 151, 2) := by decide +kernel
theorem dX7_numbersOf_92 : decode (m_code mX7_numbersOf) 92 = .ok (.areturn, 1) := by decide +kernel
theorem dX7_numbersOf_93 : decode (m_code mX7_numbersOf) 93 = .ok (.ldc 135, 2) := by decide +kernel
theorem dX7_numbersOf_95 : decode (m_code mX7_numbersOf) 95 = .ok (.areturn, 1) := by decide +kernel
theorem dX7_leastOf_0 : decode (m_code mX7_leastOf) 0 = .ok (.iload_n 0, 1) := by decide +kernel
theorem dX7_leastOf_1 : decode (m_code mX7_leastOf) 1 = .ok (.bipush 75, 2) := by decide +kernel
theorem dX7_leastOf_3 : decode (m_code mX7_leastOf) 3 = .ok (.if_icmp .eq 15, 3) := by decide +kernel
theorem dX7_leastOf_6 : decode (m_code mX7_leastOf) 6 = .ok (.iload_n 0, 1) := by decide +kernel
theorem dX7_leastOf_7 : decode (m_code mX7_leastOf) 7 = .ok (.bipush 86, 2) := by decide +kernel
theorem dX7_leastOf_9 : decode (m_code mX7_leastOf) 9 = .ok (.if_icmp .eq 9, 3) := by decide +kernel
theorem dX7_leastOf_12 : decode (m_code mX7_leastOf) 12 = .ok (.iload_n 0, 1) := by decide +kernel
theorem dX7_leastOf_13 : decode (m_code mX7_leastOf) 13 = .ok (.bipush 82, 2) := by decide +kernel
theorem dX7_leastOf_15 : decode (m_code mX7_leastOf) 15 = .ok (.if_icmp .ne 7, 3) := by decide +kernel
theorem dX7_leastOf_18 : decode (m_code mX7_leastOf) 18 = .ok (.iconst 1, 1) := by decide +kernel
theorem dX7_leastOf_19 : decode (m_code mX7_leastOf) 19 = .ok (.goto 4, 3) := by decide +kernel
theorem dX7_leastOf_22 : decode (m_code mX7_leastOf) 22 = .ok (.iconst 0, 1) := by decide +kernel
theorem dX7_leastOf_23 : decode (m_code mX7_leastOf) 23 = .ok (.ireturn, 1) := by decide +kernel
theorem dX7_mostOf_0 : decode (m_code mX7_mostOf) 0 = .ok (.iload_n 0, 1) := by decide +kernel
theorem dX7_mostOf_1 : decode (m_code mX7_mostOf) 1 = .ok (.lookupswitch 68 #[(66, 58), (78, 51), (80, 54), (82, 65), (86, 61)], 51) := by decide +kernel
theorem dX7_mostOf_52 : decode (m_code mX7_mostOf) 52 = .ok (.bipush 6, 2) := by decide +kernel
theorem dX7_mostOf_54 : decode (m_code mX7_mostOf) 54 = .ok (.ireturn, 1) := by decide +kernel
theorem dX7_mostOf_55 : decode (m_code mX7_mostOf) 55 = .ok (.sipush 999, 3) := by decide +kernel
theorem dX7_mostOf_58 : decode (m_code mX7_mostOf) 58 = .ok (.ireturn, 1) := by decide +kernel
theorem dX7_mostOf_59 : decode (m_code mX7_mostOf) 59 = .ok (.bipush 99, 2) := by decide +kernel
theorem dX7_mostOf_61 : decode (m_code mX7_mostOf) 61 = .ok (.ireturn, 1) := by decide +kernel
theorem dX7_mostOf_62 : decode (m_code mX7_mostOf) 62 = .ok (.sipush 200, 3) := by decide +kernel
theorem dX7_mostOf_65 : decode (m_code mX7_mostOf) 65 = .ok (.ireturn, 1) := by decide +kernel
theorem dX7_mostOf_66 : decode (m_code mX7_mostOf) 66 = .ok (.bipush 20, 2) := by decide +kernel
theorem dX7_mostOf_68 : decode (m_code mX7_mostOf) 68 = .ok (.ireturn, 1) := by decide +kernel
theorem dX7_mostOf_69 : decode (m_code mX7_mostOf) 69 = .ok (.bipush 50, 2) := by decide +kernel
theorem dX7_mostOf_71 : decode (m_code mX7_mostOf) 71 = .ok (.ireturn, 1) := by decide +kernel
theorem dJ0_length_8abf5_0 : decode (m_code mJ0_length_8abf5) 0 = .ok (.aload_n 0, 1) := by decide +kernel
theorem dJ0_length_8abf5_1 : decode (m_code mJ0_length_8abf5) 1 = .ok (.getfield 9, 3) := by decide +kernel
theorem dJ0_length_8abf5_4 : decode (m_code mJ0_length_8abf5) 4 = .ok (.arraylength, 1) := by decide +kernel
theorem dJ0_length_8abf5_5 : decode (m_code mJ0_length_8abf5) 5 = .ok (.aload_n 0, 1) := by decide +kernel
theorem dJ0_length_8abf5_6 : decode (m_code mJ0_length_8abf5) 6 = .ok (.invokevirtual 335, 3) := by decide +kernel
theorem dJ0_length_8abf5_9 : decode (m_code mJ0_length_8abf5) 9 = .ok (.ishr, 1) := by decide +kernel
theorem dJ0_length_8abf5_10 : decode (m_code mJ0_length_8abf5) 10 = .ok (.ireturn, 1) := by decide +kernel
theorem dJ0_charAt_5068e_0 : decode (m_code mJ0_charAt_5068e) 0 = .ok (.aload_n 0, 1) := by decide +kernel
theorem dJ0_charAt_5068e_1 : decode (m_code mJ0_charAt_5068e) 1 = .ok (.invokevirtual 492, 3) := by decide +kernel
theorem dJ0_charAt_5068e_4 : decode (m_code mJ0_charAt_5068e) 4 = .ok (.ifCond .eq 12, 3) := by decide +kernel
theorem dJ0_charAt_5068e_7 : decode (m_code mJ0_charAt_5068e) 7 = .ok (.aload_n 0, 1) := by decide +kernel
theorem dJ0_charAt_5068e_8 : decode (m_code mJ0_charAt_5068e) 8 = .ok (.getfield 9, 3) := by decide +kernel
theorem dJ0_charAt_5068e_11 : decode (m_code mJ0_charAt_5068e) 11 = .ok (.iload_n 1, 1) := by decide +kernel
theorem dJ0_charAt_5068e_12 : decode (m_code mJ0_charAt_5068e) 12 = .ok (.invokestatic 495, 3) := by decide +kernel
theorem dJ0_charAt_5068e_15 : decode (m_code mJ0_charAt_5068e) 15 = .ok (.ireturn, 1) := by decide +kernel
theorem dJ0_charAt_5068e_16 : decode (m_code mJ0_charAt_5068e) 16 = .ok (.aload_n 0, 1) := by decide +kernel
theorem dJ0_charAt_5068e_17 : decode (m_code mJ0_charAt_5068e) 17 = .ok (.getfield 9, 3) := by decide +kernel
theorem dJ0_charAt_5068e_20 : decode (m_code mJ0_charAt_5068e) 20 = .ok (.iload_n 1, 1) := by decide +kernel
theorem dJ0_charAt_5068e_21 : decode (m_code mJ0_charAt_5068e) 21 = .ok (.invokestatic 498, 3) := by decide +kernel
theorem dJ0_charAt_5068e_24 : decode (m_code mJ0_charAt_5068e) 24 = .ok (.ireturn, 1) := by decide +kernel
theorem dJ0_coder_7d493_0 : decode (m_code mJ0_coder_7d493) 0 = .ok (.getstatic 38, 3) := by decide +kernel
theorem dJ0_coder_7d493_3 : decode (m_code mJ0_coder_7d493) 3 = .ok (.ifCond .eq 10, 3) := by decide +kernel
theorem dJ0_coder_7d493_6 : decode (m_code mJ0_coder_7d493) 6 = .ok (.aload_n 0, 1) := by decide +kernel
theorem dJ0_coder_7d493_7 : decode (m_code mJ0_coder_7d493) 7 = .ok (.getfield 15, 3) := by decide +kernel
theorem dJ0_coder_7d493_10 : decode (m_code mJ0_coder_7d493) 10 = .ok (.goto 4, 3) := by decide +kernel
theorem dJ0_coder_7d493_13 : decode (m_code mJ0_coder_7d493) 13 = .ok (.iconst 1, 1) := by decide +kernel
theorem dJ0_coder_7d493_14 : decode (m_code mJ0_coder_7d493) 14 = .ok (.ireturn, 1) := by decide +kernel
theorem dJ0_isLatin1_aae02_0 : decode (m_code mJ0_isLatin1_aae02) 0 = .ok (.getstatic 38, 3) := by decide +kernel
theorem dJ0_isLatin1_aae02_3 : decode (m_code mJ0_isLatin1_aae02) 3 = .ok (.ifCond .eq 14, 3) := by decide +kernel
theorem dJ0_isLatin1_aae02_6 : decode (m_code mJ0_isLatin1_aae02) 6 = .ok (.aload_n 0, 1) := by decide +kernel
theorem dJ0_isLatin1_aae02_7 : decode (m_code mJ0_isLatin1_aae02) 7 = .ok (.getfield 15, 3) := by decide +kernel
theorem dJ0_isLatin1_aae02_10 : decode (m_code mJ0_isLatin1_aae02) 10 = .ok (.ifCond .ne 7, 3) := by decide +kernel
theorem dJ0_isLatin1_aae02_13 : decode (m_code mJ0_isLatin1_aae02) 13 = .ok (.iconst 1, 1) := by decide +kernel
theorem dJ0_isLatin1_aae02_14 : decode (m_code mJ0_isLatin1_aae02) 14 = .ok (.goto 4, 3) := by decide +kernel
theorem dJ0_isLatin1_aae02_17 : decode (m_code mJ0_isLatin1_aae02) 17 = .ok (.iconst 0, 1) := by decide +kernel
theorem dJ0_isLatin1_aae02_18 : decode (m_code mJ0_isLatin1_aae02) 18 = .ok (.ireturn, 1) := by decide +kernel
theorem dJ0_checkIndex_df160_0 : decode (m_code mJ0_checkIndex_df160) 0 = .ok (.iload_n 0, 1) := by decide +kernel
theorem dJ0_checkIndex_df160_1 : decode (m_code mJ0_checkIndex_df160) 1 = .ok (.iload_n 1, 1) := by decide +kernel
theorem dJ0_checkIndex_df160_2 : decode (m_code mJ0_checkIndex_df160) 2 = .ok (.getstatic 1053, 3) := by decide +kernel
theorem dJ0_checkIndex_df160_5 : decode (m_code mJ0_checkIndex_df160) 5 = .ok (.invokestatic 1059, 3) := by decide +kernel
theorem dJ0_checkIndex_df160_8 : decode (m_code mJ0_checkIndex_df160) 8 = .ok (.pop, 1) := by decide +kernel
theorem dJ0_checkIndex_df160_9 : decode (m_code mJ0_checkIndex_df160) 9 = .ok (.return_, 1) := by decide +kernel
theorem dJ1_charAt_3b067_0 : decode (m_code mJ1_charAt_3b067) 0 = .ok (.iload_n 1, 1) := by decide +kernel
theorem dJ1_charAt_3b067_1 : decode (m_code mJ1_charAt_3b067) 1 = .ok (.aload_n 0, 1) := by decide +kernel
theorem dJ1_charAt_3b067_2 : decode (m_code mJ1_charAt_3b067) 2 = .ok (.arraylength, 1) := by decide +kernel
theorem dJ1_charAt_3b067_3 : decode (m_code mJ1_charAt_3b067) 3 = .ok (.invokestatic 9, 3) := by decide +kernel
theorem dJ1_charAt_3b067_6 : decode (m_code mJ1_charAt_3b067) 6 = .ok (.aload_n 0, 1) := by decide +kernel
theorem dJ1_charAt_3b067_7 : decode (m_code mJ1_charAt_3b067) 7 = .ok (.iload_n 1, 1) := by decide +kernel
theorem dJ1_charAt_3b067_8 : decode (m_code mJ1_charAt_3b067) 8 = .ok (.baload, 1) := by decide +kernel
theorem dJ1_charAt_3b067_9 : decode (m_code mJ1_charAt_3b067) 9 = .ok (.sipush 255, 3) := by decide +kernel
theorem dJ1_charAt_3b067_12 : decode (m_code mJ1_charAt_3b067) 12 = .ok (.iand, 1) := by decide +kernel
theorem dJ1_charAt_3b067_13 : decode (m_code mJ1_charAt_3b067) 13 = .ok (.i2c, 1) := by decide +kernel
theorem dJ1_charAt_3b067_14 : decode (m_code mJ1_charAt_3b067) 14 = .ok (.ireturn, 1) := by decide +kernel
theorem dJ3_checkIndex_8e157_0 : decode (m_code mJ3_checkIndex_8e157) 0 = .ok (.iload_n 0, 1) := by decide +kernel
theorem dJ3_checkIndex_8e157_1 : decode (m_code mJ3_checkIndex_8e157) 1 = .ok (.ifCond .lt 8, 3) := by decide +kernel
theorem dJ3_checkIndex_8e157_4 : decode (m_code mJ3_checkIndex_8e157) 4 = .ok (.iload_n 0, 1) := by decide +kernel
theorem dJ3_checkIndex_8e157_5 : decode (m_code mJ3_checkIndex_8e157) 5 = .ok (.iload_n 1, 1) := by decide +kernel
theorem dJ3_checkIndex_8e157_6 : decode (m_code mJ3_checkIndex_8e157) 6 = .ok (.if_icmp .lt 10, 3) := by decide +kernel
theorem dJ3_checkIndex_8e157_9 : decode (m_code mJ3_checkIndex_8e157) 9 = .ok (.aload_n 2, 1) := by decide +kernel
theorem dJ3_checkIndex_8e157_10 : decode (m_code mJ3_checkIndex_8e157) 10 = .ok (.iload_n 0, 1) := by decide +kernel
theorem dJ3_checkIndex_8e157_11 : decode (m_code mJ3_checkIndex_8e157) 11 = .ok (.iload_n 1, 1) := by decide +kernel
theorem dJ3_checkIndex_8e157_12 : decode (m_code mJ3_checkIndex_8e157) 12 = .ok (.invokestatic 95, 3) := by decide +kernel
theorem dJ3_checkIndex_8e157_15 : decode (m_code mJ3_checkIndex_8e157) 15 = .ok (.athrow, 1) := by decide +kernel
theorem dJ3_checkIndex_8e157_16 : decode (m_code mJ3_checkIndex_8e157) 16 = .ok (.iload_n 0, 1) := by decide +kernel
theorem dJ3_checkIndex_8e157_17 : decode (m_code mJ3_checkIndex_8e157) 17 = .ok (.ireturn, 1) := by decide +kernel
