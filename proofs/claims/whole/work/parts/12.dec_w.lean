theorem dX8_init_0 : decode (m_code mX8_init) 0 = .ok (.aload_n 0, 1) := by decide +kernel
theorem dX8_init_1 : decode (m_code mX8_init) 1 = .ok (.invokespecial 3, 3) := by decide +kernel
theorem dX8_init_4 : decode (m_code mX8_init) 4 = .ok (.aload_n 0, 1) := by decide +kernel
theorem dX8_init_5 : decode (m_code mX8_init) 5 = .ok (.new 9, 3) := by decide +kernel
theorem dX8_init_8 : decode (m_code mX8_init) 8 = .ok (.dup, 1) := by decide +kernel
theorem dX8_init_9 : decode (m_code mX8_init) 9 = .ok (.invokespecial 11, 3) := by decide +kernel
theorem dX8_init_12 : decode (m_code mX8_init) 12 = .ok (.putfield 12, 3) := by decide +kernel
theorem dX8_init_15 : decode (m_code mX8_init) 15 = .ok (.aload_n 0, 1) := by decide +kernel
theorem dX8_init_16 : decode (m_code mX8_init) 16 = .ok (.bipush 7, 2) := by decide +kernel
theorem dX8_init_18 : decode (m_code mX8_init) 18 = .ok (.anewarray 18, 3) := by decide +kernel
theorem dX8_init_21 : decode (m_code mX8_init) 21 = .ok (.putfield 20, 3) := by decide +kernel
theorem dX8_init_24 : decode (m_code mX8_init) 24 = .ok (.aload_n 0, 1) := by decide +kernel
theorem dX8_init_25 : decode (m_code mX8_init) 25 = .ok (.new 24, 3) := by decide +kernel
theorem dX8_init_28 : decode (m_code mX8_init) 28 = .ok (.dup, 1) := by decide +kernel
theorem dX8_init_29 : decode (m_code mX8_init) 29 = .ok (.invokespecial 26, 3) := by decide +kernel
theorem dX8_init_32 : decode (m_code mX8_init) 32 = .ok (.putfield 27, 3) := by decide +kernel
theorem dX8_init_35 : decode (m_code mX8_init) 35 = .ok (.aload_n 0, 1) := by decide +kernel
theorem dX8_init_36 : decode (m_code mX8_init) 36 = .ok (.new 31, 3) := by decide +kernel
theorem dX8_init_39 : decode (m_code mX8_init) 39 = .ok (.dup, 1) := by decide +kernel
theorem dX8_init_40 : decode (m_code mX8_init) 40 = .ok (.bipush 60, 2) := by decide +kernel
theorem dX8_init_42 : decode (m_code mX8_init) 42 = .ok (.invokespecial 33, 3) := by decide +kernel
theorem dX8_init_45 : decode (m_code mX8_init) 45 = .ok (.putfield 36, 3) := by decide +kernel
theorem dX8_init_48 : decode (m_code mX8_init) 48 = .ok (.aload_n 0, 1) := by decide +kernel
theorem dX8_init_49 : decode (m_code mX8_init) 49 = .ok (.new 31, 3) := by decide +kernel
theorem dX8_init_52 : decode (m_code mX8_init) 52 = .ok (.dup, 1) := by decide +kernel
theorem dX8_init_53 : decode (m_code mX8_init) 53 = .ok (.bipush 100, 2) := by decide +kernel
theorem dX8_init_55 : decode (m_code mX8_init) 55 = .ok (.invokespecial 33, 3) := by decide +kernel
theorem dX8_init_58 : decode (m_code mX8_init) 58 = .ok (.putfield 40, 3) := by decide +kernel
theorem dX8_init_61 : decode (m_code mX8_init) 61 = .ok (.aload_n 0, 1) := by decide +kernel
theorem dX8_init_62 : decode (m_code mX8_init) 62 = .ok (.new 43, 3) := by decide +kernel
theorem dX8_init_65 : decode (m_code mX8_init) 65 = .ok (.dup, 1) := by decide +kernel
theorem dX8_init_66 : decode (m_code mX8_init) 66 = .ok (.invokespecial 45, 3) := by decide +kernel
theorem dX8_init_69 : decode (m_code mX8_init) 69 = .ok (.putfield 46, 3) := by decide +kernel
theorem dX8_init_72 : decode (m_code mX8_init) 72 = .ok (.aload_n 0, 1) := by decide +kernel
theorem dX8_init_73 : decode (m_code mX8_init) 73 = .ok (.iconst 4, 1) := by decide +kernel
theorem dX8_init_74 : decode (m_code mX8_init) 74 = .ok (.putfield 50, 3) := by decide +kernel
theorem dX8_init_77 : decode (m_code mX8_init) 77 = .ok (.iconst 0, 1) := by decide +kernel
theorem dX8_init_78 : decode (m_code mX8_init) 78 = .ok (.istore_n 1, 1) := by decide +kernel
theorem dX8_init_79 : decode (m_code mX8_init) 79 = .ok (.iload_n 1, 1) := by decide +kernel
theorem dX8_init_80 : decode (m_code mX8_init) 80 = .ok (.bipush 7, 2) := by decide +kernel
theorem dX8_init_82 : decode (m_code mX8_init) 82 = .ok (.if_icmp .ge 22, 3) := by decide +kernel
theorem dX8_init_85 : decode (m_code mX8_init) 85 = .ok (.aload_n 0, 1) := by decide +kernel
theorem dX8_init_86 : decode (m_code mX8_init) 86 = .ok (.getfield 20, 3) := by decide +kernel
theorem dX8_init_89 : decode (m_code mX8_init) 89 = .ok (.iload_n 1, 1) := by decide +kernel
theorem dX8_init_90 : decode (m_code mX8_init) 90 = .ok (.new 18, 3) := by decide +kernel
theorem dX8_init_93 : decode (m_code mX8_init) 93 = .ok (.dup, 1) := by decide +kernel
theorem dX8_init_94 : decode (m_code mX8_init) 94 = .ok (.invokespecial 54, 3) := by decide +kernel
theorem dX8_init_97 : decode (m_code mX8_init) 97 = .ok (.aastore, 1) := by decide +kernel
theorem dX8_init_98 : decode (m_code mX8_init) 98 = .ok (.iinc 1 1, 3) := by decide +kernel
theorem dX8_init_101 : decode (m_code mX8_init) 101 = .ok (.goto (-22), 3) := by decide +kernel
theorem dX8_init_104 : decode (m_code mX8_init) 104 = .ok (.return_, 1) := by decide +kernel
theorem dX8_copyFrom_0 : decode (m_code mX8_copyFrom) 0 = .ok (.aload_n 0, 1) := by decide +kernel
theorem dX8_copyFrom_1 : decode (m_code mX8_copyFrom) 1 = .ok (.aload_n 1, 1) := by decide +kernel
theorem dX8_copyFrom_2 : decode (m_code mX8_copyFrom) 2 = .ok (.getfield 50, 3) := by decide +kernel
theorem dX8_copyFrom_5 : decode (m_code mX8_copyFrom) 5 = .ok (.putfield 50, 3) := by decide +kernel
theorem dX8_copyFrom_8 : decode (m_code mX8_copyFrom) 8 = .ok (.aload_n 0, 1) := by decide +kernel
theorem dX8_copyFrom_9 : decode (m_code mX8_copyFrom) 9 = .ok (.aload_n 1, 1) := by decide +kernel
theorem dX8_copyFrom_10 : decode (m_code mX8_copyFrom) 10 = .ok (.getfield 55, 3) := by decide +kernel
theorem dX8_copyFrom_13 : decode (m_code mX8_copyFrom) 13 = .ok (.putfield 55, 3) := by decide +kernel
theorem dX8_copyFrom_16 : decode (m_code mX8_copyFrom) 16 = .ok (.aload_n 0, 1) := by decide +kernel
theorem dX8_copyFrom_17 : decode (m_code mX8_copyFrom) 17 = .ok (.aload_n 1, 1) := by decide +kernel
theorem dX8_copyFrom_18 : decode (m_code mX8_copyFrom) 18 = .ok (.getfield 58, 3) := by decide +kernel
theorem dX8_copyFrom_21 : decode (m_code mX8_copyFrom) 21 = .ok (.putfield 58, 3) := by decide +kernel
theorem dX8_copyFrom_24 : decode (m_code mX8_copyFrom) 24 = .ok (.aload_n 0, 1) := by decide +kernel
theorem dX8_copyFrom_25 : decode (m_code mX8_copyFrom) 25 = .ok (.getfield 12, 3) := by decide +kernel
theorem dX8_copyFrom_28 : decode (m_code mX8_copyFrom) 28 = .ok (.aload_n 1, 1) := by decide +kernel
theorem dX8_copyFrom_29 : decode (m_code mX8_copyFrom) 29 = .ok (.getfield 12, 3) := by decide +kernel
theorem dX8_copyFrom_32 : decode (m_code mX8_copyFrom) 32 = .ok (.invokevirtual 61, 3) := by decide +kernel
theorem dX8_copyFrom_35 : decode (m_code mX8_copyFrom) 35 = .ok (.iconst 0, 1) := by decide +kernel
theorem dX8_copyFrom_36 : decode (m_code mX8_copyFrom) 36 = .ok (.istore_n 2, 1) := by decide +kernel
theorem dX8_copyFrom_37 : decode (m_code mX8_copyFrom) 37 = .ok (.iload_n 2, 1) := by decide +kernel
theorem dX8_copyFrom_38 : decode (m_code mX8_copyFrom) 38 = .ok (.bipush 7, 2) := by decide +kernel
theorem dX8_copyFrom_40 : decode (m_code mX8_copyFrom) 40 = .ok (.if_icmp .ge 24, 3) := by decide +kernel
theorem dX8_copyFrom_43 : decode (m_code mX8_copyFrom) 43 = .ok (.aload_n 0, 1) := by decide +kernel
theorem dX8_copyFrom_44 : decode (m_code mX8_copyFrom) 44 = .ok (.getfield 20, 3) := by decide +kernel
theorem dX8_copyFrom_47 : decode (m_code mX8_copyFrom) 47 = .ok (.iload_n 2, 1) := by decide +kernel
theorem dX8_copyFrom_48 : decode (m_code mX8_copyFrom) 48 = .ok (.aaload, 1) := by decide +kernel
theorem dX8_copyFrom_49 : decode (m_code mX8_copyFrom) 49 = .ok (.aload_n 1, 1) := by decide +kernel
theorem dX8_copyFrom_50 : decode (m_code mX8_copyFrom) 50 = .ok (.getfield 20, 3) := by decide +kernel
theorem dX8_copyFrom_53 : decode (m_code mX8_copyFrom) 53 = .ok (.iload_n 2, 1) := by decide +kernel
theorem dX8_copyFrom_54 : decode (m_code mX8_copyFrom) 54 = .ok (.aaload, 1) := by decide +kernel
theorem dX8_copyFrom_55 : decode (m_code mX8_copyFrom) 55 = .ok (.invokevirtual 65, 3) := by decide +kernel
theorem dX8_copyFrom_58 : decode (m_code mX8_copyFrom) 58 = .ok (.iinc 2 1, 3) := by decide +kernel
theorem dX8_copyFrom_61 : decode (m_code mX8_copyFrom) 61 = .ok (.goto (-24), 3) := by decide +kernel
theorem dX8_copyFrom_64 : decode (m_code mX8_copyFrom) 64 = .ok (.aload_n 0, 1) := by decide +kernel
theorem dX8_copyFrom_65 : decode (m_code mX8_copyFrom) 65 = .ok (.getfield 27, 3) := by decide +kernel
theorem dX8_copyFrom_68 : decode (m_code mX8_copyFrom) 68 = .ok (.aload_n 1, 1) := by decide +kernel
theorem dX8_copyFrom_69 : decode (m_code mX8_copyFrom) 69 = .ok (.getfield 27, 3) := by decide +kernel
theorem dX8_copyFrom_72 : decode (m_code mX8_copyFrom) 72 = .ok (.invokevirtual 68, 3) := by decide +kernel
theorem dX8_copyFrom_75 : decode (m_code mX8_copyFrom) 75 = .ok (.aload_n 0, 1) := by decide +kernel
theorem dX8_copyFrom_76 : decode (m_code mX8_copyFrom) 76 = .ok (.getfield 36, 3) := by decide +kernel
theorem dX8_copyFrom_79 : decode (m_code mX8_copyFrom) 79 = .ok (.aload_n 1, 1) := by decide +kernel
theorem dX8_copyFrom_80 : decode (m_code mX8_copyFrom) 80 = .ok (.getfield 36, 3) := by decide +kernel
theorem dX8_copyFrom_83 : decode (m_code mX8_copyFrom) 83 = .ok (.invokevirtual 71, 3) := by decide +kernel
theorem dX8_copyFrom_86 : decode (m_code mX8_copyFrom) 86 = .ok (.aload_n 0, 1) := by decide +kernel
theorem dX8_copyFrom_87 : decode (m_code mX8_copyFrom) 87 = .ok (.getfield 40, 3) := by decide +kernel
theorem dX8_copyFrom_90 : decode (m_code mX8_copyFrom) 90 = .ok (.aload_n 1, 1) := by decide +kernel
theorem dX8_copyFrom_91 : decode (m_code mX8_copyFrom) 91 = .ok (.getfield 40, 3) := by decide +kernel
theorem dX8_copyFrom_94 : decode (m_code mX8_copyFrom) 94 = .ok (.invokevirtual 71, 3) := by decide +kernel
theorem dX8_copyFrom_97 : decode (m_code mX8_copyFrom) 97 = .ok (.aload_n 0, 1) := by decide +kernel
theorem dX8_copyFrom_98 : decode (m_code mX8_copyFrom) 98 = .ok (.getfield 46, 3) := by decide +kernel
theorem dX8_copyFrom_101 : decode (m_code mX8_copyFrom) 101 = .ok (.aload_n 1, 1) := by decide +kernel
theorem dX8_copyFrom_102 : decode (m_code mX8_copyFrom) 102 = .ok (.getfield 46, 3) := by decide +kernel
theorem dX8_copyFrom_105 : decode (m_code mX8_copyFrom) 105 = .ok (.invokevirtual 74, 3) := by decide +kernel
theorem dX8_copyFrom_108 : decode (m_code mX8_copyFrom) 108 = .ok (.return_, 1) := by decide +kernel
theorem dX8_isUntouched_0 : decode (m_code mX8_isUntouched) 0 = .ok (.aload_n 0, 1) := by decide +kernel
theorem dX8_isUntouched_1 : decode (m_code mX8_isUntouched) 1 = .ok (.getfield 27, 3) := by decide +kernel
theorem dX8_isUntouched_4 : decode (m_code mX8_isUntouched) 4 = .ok (.getfield 77, 3) := by decide +kernel
theorem dX8_isUntouched_7 : decode (m_code mX8_isUntouched) 7 = .ok (.ifCond .ne 18, 3) := by decide +kernel
theorem dX8_isUntouched_10 : decode (m_code mX8_isUntouched) 10 = .ok (.aload_n 0, 1) := by decide +kernel
theorem dX8_isUntouched_11 : decode (m_code mX8_isUntouched) 11 = .ok (.getfield 12, 3) := by decide +kernel
theorem dX8_isUntouched_14 : decode (m_code mX8_isUntouched) 14 = .ok (.getfield 80, 3) := by decide +kernel
theorem dX8_isUntouched_17 : decode (m_code mX8_isUntouched) 17 = .ok (.iconst 1, 1) := by decide +kernel
theorem dX8_isUntouched_18 : decode (m_code mX8_isUntouched) 18 = .ok (.if_icmp .ne 7, 3) := by decide +kernel
theorem dX8_isUntouched_21 : decode (m_code mX8_isUntouched) 21 = .ok (.iconst 1, 1) := by decide +kernel
theorem dX8_isUntouched_22 : decode (m_code mX8_isUntouched) 22 = .ok (.goto 4, 3) := by decide +kernel
theorem dX8_isUntouched_25 : decode (m_code mX8_isUntouched) 25 = .ok (.iconst 0, 1) := by decide +kernel
theorem dX8_isUntouched_26 : decode (m_code mX8_isUntouched) 26 = .ok (.ireturn, 1) := by decide +kernel
theorem dX8_beginWith_0 : decode (m_code mX8_beginWith) 0 = .ok (.aload_n 0, 1) := by decide +kernel
theorem dX8_beginWith_1 : decode (m_code mX8_beginWith) 1 = .ok (.iload_n 1, 1) := by decide +kernel
theorem dX8_beginWith_2 : decode (m_code mX8_beginWith) 2 = .ok (.putfield 50, 3) := by decide +kernel
theorem dX8_beginWith_5 : decode (m_code mX8_beginWith) 5 = .ok (.iconst 0, 1) := by decide +kernel
theorem dX8_beginWith_6 : decode (m_code mX8_beginWith) 6 = .ok (.istore_n 2, 1) := by decide +kernel
theorem dX8_beginWith_7 : decode (m_code mX8_beginWith) 7 = .ok (.iload_n 2, 1) := by decide +kernel
theorem dX8_beginWith_8 : decode (m_code mX8_beginWith) 8 = .ok (.bipush 7, 2) := by decide +kernel
theorem dX8_beginWith_10 : decode (m_code mX8_beginWith) 10 = .ok (.if_icmp .ge 28, 3) := by decide +kernel
theorem dX8_beginWith_13 : decode (m_code mX8_beginWith) 13 = .ok (.aload_n 0, 1) := by decide +kernel
theorem dX8_beginWith_14 : decode (m_code mX8_beginWith) 14 = .ok (.getfield 20, 3) := by decide +kernel
theorem dX8_beginWith_17 : decode (m_code mX8_beginWith) 17 = .ok (.iload_n 2, 1) := by decide +kernel
theorem dX8_beginWith_18 : decode (m_code mX8_beginWith) 18 = .ok (.aaload, 1) := by decide +kernel
theorem dX8_beginWith_19 : decode (m_code mX8_beginWith) 19 = .ok (.invokevirtual 81, 3) := by decide +kernel
theorem dX8_beginWith_22 : decode (m_code mX8_beginWith) 22 = .ok (.aload_n 0, 1) := by decide +kernel
theorem dX8_beginWith_23 : decode (m_code mX8_beginWith) 23 = .ok (.getfield 27, 3) := by decide +kernel
theorem dX8_beginWith_26 : decode (m_code mX8_beginWith) 26 = .ok (.getfield 84, 3) := by decide +kernel
theorem dX8_beginWith_29 : decode (m_code mX8_beginWith) 29 = .ok (.iload_n 2, 1) := by decide +kernel
theorem dX8_beginWith_30 : decode (m_code mX8_beginWith) 30 = .ok (.iconst 0, 1) := by decide +kernel
theorem dX8_beginWith_31 : decode (m_code mX8_beginWith) 31 = .ok (.iastore, 1) := by decide +kernel
theorem dX8_beginWith_32 : decode (m_code mX8_beginWith) 32 = .ok (.iinc 2 1, 3) := by decide +kernel
theorem dX8_beginWith_35 : decode (m_code mX8_beginWith) 35 = .ok (.goto (-28), 3) := by decide +kernel
theorem dX8_beginWith_38 : decode (m_code mX8_beginWith) 38 = .ok (.return_, 1) := by decide +kernel
theorem dX8_hasNode_0 : decode (m_code mX8_hasNode) 0 = .ok (.iload_n 1, 1) := by decide +kernel
theorem dX8_hasNode_1 : decode (m_code mX8_hasNode) 1 = .ok (.ifCond .lt 15, 3) := by decide +kernel
theorem dX8_hasNode_4 : decode (m_code mX8_hasNode) 4 = .ok (.iload_n 1, 1) := by decide +kernel
theorem dX8_hasNode_5 : decode (m_code mX8_hasNode) 5 = .ok (.aload_n 0, 1) := by decide +kernel
theorem dX8_hasNode_6 : decode (m_code mX8_hasNode) 6 = .ok (.getfield 50, 3) := by decide +kernel
theorem dX8_hasNode_9 : decode (m_code mX8_hasNode) 9 = .ok (.if_icmp .ge 7, 3) := by decide +kernel
theorem dX8_hasNode_12 : decode (m_code mX8_hasNode) 12 = .ok (.iconst 1, 1) := by decide +kernel
theorem dX8_hasNode_13 : decode (m_code mX8_hasNode) 13 = .ok (.goto 4, 3) := by decide +kernel
theorem dX8_hasNode_16 : decode (m_code mX8_hasNode) 16 = .ok (.iconst 0, 1) := by decide +kernel
theorem dX8_hasNode_17 : decode (m_code mX8_hasNode) 17 = .ok (.ireturn, 1) := by decide +kernel
theorem dX8_isAwake_0 : decode (m_code mX8_isAwake) 0 = .ok (.aload_n 0, 1) := by decide +kernel
theorem dX8_isAwake_1 : decode (m_code mX8_isAwake) 1 = .ok (.iload_n 1, 1) := by decide +kernel
theorem dX8_isAwake_2 : decode (m_code mX8_isAwake) 2 = .ok (.invokevirtual 88, 3) := by decide +kernel
theorem dX8_isAwake_5 : decode (m_code mX8_isAwake) 5 = .ok (.ifCond .eq 20, 3) := by decide +kernel
theorem dX8_isAwake_8 : decode (m_code mX8_isAwake) 8 = .ok (.aload_n 0, 1) := by decide +kernel
theorem dX8_isAwake_9 : decode (m_code mX8_isAwake) 9 = .ok (.getfield 20, 3) := by decide +kernel
theorem dX8_isAwake_12 : decode (m_code mX8_isAwake) 12 = .ok (.iload_n 1, 1) := by decide +kernel
theorem dX8_isAwake_13 : decode (m_code mX8_isAwake) 13 = .ok (.aaload, 1) := by decide +kernel
theorem dX8_isAwake_14 : decode (m_code mX8_isAwake) 14 = .ok (.getfield 92, 3) := by decide +kernel
theorem dX8_isAwake_17 : decode (m_code mX8_isAwake) 17 = .ok (.iconst 1, 1) := by decide +kernel
theorem dX8_isAwake_18 : decode (m_code mX8_isAwake) 18 = .ok (.if_icmp .eq 7, 3) := by decide +kernel
theorem dX8_isAwake_21 : decode (m_code mX8_isAwake) 21 = .ok (.iconst 1, 1) := by decide +kernel
theorem dX8_isAwake_22 : decode (m_code mX8_isAwake) 22 = .ok (.goto 4, 3) := by decide +kernel
theorem dX8_isAwake_25 : decode (m_code mX8_isAwake) 25 = .ok (.iconst 0, 1) := by decide +kernel
theorem dX8_isAwake_26 : decode (m_code mX8_isAwake) 26 = .ok (.ireturn, 1) := by decide +kernel
theorem dX8_everybody_0 : decode (m_code mX8_everybody) 0 = .ok (.iconst 1, 1) := by decide +kernel
theorem dX8_everybody_1 : decode (m_code mX8_everybody) 1 = .ok (.aload_n 0, 1) := by decide +kernel
theorem dX8_everybody_2 : decode (m_code mX8_everybody) 2 = .ok (.getfield 50, 3) := by decide +kernel
theorem dX8_everybody_5 : decode (m_code mX8_everybody) 5 = .ok (.ishl, 1) := by decide +kernel
theorem dX8_everybody_6 : decode (m_code mX8_everybody) 6 = .ok (.iconst 1, 1) := by decide +kernel
theorem dX8_everybody_7 : decode (m_code mX8_everybody) 7 = .ok (.isub, 1) := by decide +kernel
theorem dX8_everybody_8 : decode (m_code mX8_everybody) 8 = .ok (.ireturn, 1) := by decide +kernel
theorem dX8_faults_0 : decode (m_code mX8_faults) 0 = .ok (.aload_n 0, 1) := by decide +kernel
theorem dX8_faults_1 : decode (m_code mX8_faults) 1 = .ok (.getfield 50, 3) := by decide +kernel
theorem dX8_faults_4 : decode (m_code mX8_faults) 4 = .ok (.iconst 1, 1) := by decide +kernel
theorem dX8_faults_5 : decode (m_code mX8_faults) 5 = .ok (.isub, 1) := by decide +kernel
theorem dX8_faults_6 : decode (m_code mX8_faults) 6 = .ok (.iconst 3, 1) := by decide +kernel
theorem dX8_faults_7 : decode (m_code mX8_faults) 7 = .ok (.idiv, 1) := by decide +kernel
theorem dX8_faults_8 : decode (m_code mX8_faults) 8 = .ok (.ireturn, 1) := by decide +kernel
theorem dX8_quorum_0 : decode (m_code mX8_quorum) 0 = .ok (.aload_n 0, 1) := by decide +kernel
theorem dX8_quorum_1 : decode (m_code mX8_quorum) 1 = .ok (.getfield 50, 3) := by decide +kernel
theorem dX8_quorum_4 : decode (m_code mX8_quorum) 4 = .ok (.aload_n 0, 1) := by decide +kernel
theorem dX8_quorum_5 : decode (m_code mX8_quorum) 5 = .ok (.invokevirtual 95, 3) := by decide +kernel
theorem dX8_quorum_8 : decode (m_code mX8_quorum) 8 = .ok (.isub, 1) := by decide +kernel
theorem dX8_quorum_9 : decode (m_code mX8_quorum) 9 = .ok (.ireturn, 1) := by decide +kernel
theorem dX8_leaderOf_0 : decode (m_code mX8_leaderOf) 0 = .ok (.aload_n 0, 1) := by decide +kernel
theorem dX8_leaderOf_1 : decode (m_code mX8_leaderOf) 1 = .ok (.getfield 55, 3) := by decide +kernel
theorem dX8_leaderOf_4 : decode (m_code mX8_leaderOf) 4 = .ok (.lookupswitch 46 #[(1, 28), (2, 37)], 28) := by decide +kernel
theorem dX8_leaderOf_32 : decode (m_code mX8_leaderOf) 32 = .ok (.iload_n 1, 1) := by decide +kernel
theorem dX8_leaderOf_33 : decode (m_code mX8_leaderOf) 33 = .ok (.iconst 2, 1) := by decide +kernel
theorem dX8_leaderOf_34 : decode (m_code mX8_leaderOf) 34 = .ok (.idiv, 1) := by decide +kernel
theorem dX8_leaderOf_35 : decode (m_code mX8_leaderOf) 35 = .ok (.aload_n 0, 1) := by decide +kernel
theorem dX8_leaderOf_36 : decode (m_code mX8_leaderOf) 36 = .ok (.getfield 50, 3) := by decide +kernel
theorem dX8_leaderOf_39 : decode (m_code mX8_leaderOf) 39 = .ok (.irem, 1) := by decide +kernel
theorem dX8_leaderOf_40 : decode (m_code mX8_leaderOf) 40 = .ok (.ireturn, 1) := by decide +kernel
theorem dX8_leaderOf_41 : decode (m_code mX8_leaderOf) 41 = .ok (.iload_n 1, 1) := by decide +kernel
theorem dX8_leaderOf_42 : decode (m_code mX8_leaderOf) 42 = .ok (.iload_n 1, 1) := by decide +kernel
theorem dX8_leaderOf_43 : decode (m_code mX8_leaderOf) 43 = .ok (.imul, 1) := by decide +kernel
theorem dX8_leaderOf_44 : decode (m_code mX8_leaderOf) 44 = .ok (.aload_n 0, 1) := by decide +kernel
theorem dX8_leaderOf_45 : decode (m_code mX8_leaderOf) 45 = .ok (.getfield 50, 3) := by decide +kernel
theorem dX8_leaderOf_48 : decode (m_code mX8_leaderOf) 48 = .ok (.irem, 1) := by decide +kernel
theorem dX8_leaderOf_49 : decode (m_code mX8_leaderOf) 49 = .ok (.ireturn, 1) := by decide +kernel
theorem dX8_leaderOf_50 : decode (m_code mX8_leaderOf) 50 = .ok (.iload_n 1, 1) := by decide +kernel
theorem dX8_leaderOf_51 : decode (m_code mX8_leaderOf) 51 = .ok (.aload_n 0, 1) := by decide +kernel
theorem dX8_leaderOf_52 : decode (m_code mX8_leaderOf) 52 = .ok (.getfield 50, 3) := by decide +kernel
theorem dX8_leaderOf_55 : decode (m_code mX8_leaderOf) 55 = .ok (.irem, 1) := by decide +kernel
theorem dX8_leaderOf_56 : decode (m_code mX8_leaderOf) 56 = .ok (.ireturn, 1) := by decide +kernel
theorem dX8_draw_0 : decode (m_code mX8_draw) 0 = .ok (.aload_n 0, 1) := by decide +kernel
theorem dX8_draw_1 : decode (m_code mX8_draw) 1 = .ok (.ldc 99, 2) := by decide +kernel
theorem dX8_draw_3 : decode (m_code mX8_draw) 3 = .ok (.aload_n 0, 1) := by decide +kernel
theorem dX8_draw_4 : decode (m_code mX8_draw) 4 = .ok (.getfield 58, 3) := by decide +kernel
theorem dX8_draw_7 : decode (m_code mX8_draw) 7 = .ok (.imul, 1) := by decide +kernel
theorem dX8_draw_8 : decode (m_code mX8_draw) 8 = .ok (.ldc 100, 2) := by decide +kernel
theorem dX8_draw_10 : decode (m_code mX8_draw) 10 = .ok (.iadd, 1) := by decide +kernel
theorem dX8_draw_11 : decode (m_code mX8_draw) 11 = .ok (.putfield 58, 3) := by decide +kernel
theorem dX8_draw_14 : decode (m_code mX8_draw) 14 = .ok (.iload_n 1, 1) := by decide +kernel
theorem dX8_draw_15 : decode (m_code mX8_draw) 15 = .ok (.ifCond .le 15, 3) := by decide +kernel
theorem dX8_draw_18 : decode (m_code mX8_draw) 18 = .ok (.aload_n 0, 1) := by decide +kernel
theorem dX8_draw_19 : decode (m_code mX8_draw) 19 = .ok (.getfield 58, 3) := by decide +kernel
theorem dX8_draw_22 : decode (m_code mX8_draw) 22 = .ok (.bipush 8, 2) := by decide +kernel
theorem dX8_draw_24 : decode (m_code mX8_draw) 24 = .ok (.iushr, 1) := by decide +kernel
theorem dX8_draw_25 : decode (m_code mX8_draw) 25 = .ok (.iload_n 1, 1) := by decide +kernel
theorem dX8_draw_26 : decode (m_code mX8_draw) 26 = .ok (.irem, 1) := by decide +kernel
theorem dX8_draw_27 : decode (m_code mX8_draw) 27 = .ok (.goto 4, 3) := by decide +kernel
theorem dX8_draw_30 : decode (m_code mX8_draw) 30 = .ok (.iconst 0, 1) := by decide +kernel
theorem dX8_draw_31 : decode (m_code mX8_draw) 31 = .ok (.ireturn, 1) := by decide +kernel
theorem dX8_sendToAll_0 : decode (m_code mX8_sendToAll) 0 = .ok (.iconst 0, 1) := by decide +kernel
theorem dX8_sendToAll_1 : decode (m_code mX8_sendToAll) 1 = .ok (.istore 5, 2) := by decide +kernel
theorem dX8_sendToAll_3 : decode (m_code mX8_sendToAll) 3 = .ok (.iload 5, 2) := by decide +kernel
theorem dX8_sendToAll_5 : decode (m_code mX8_sendToAll) 5 = .ok (.aload_n 0, 1) := by decide +kernel
theorem dX8_sendToAll_6 : decode (m_code mX8_sendToAll) 6 = .ok (.getfield 50, 3) := by decide +kernel
theorem dX8_sendToAll_9 : decode (m_code mX8_sendToAll) 9 = .ok (.if_icmp .ge 23, 3) := by decide +kernel
theorem dX8_sendToAll_12 : decode (m_code mX8_sendToAll) 12 = .ok (.aload_n 0, 1) := by decide +kernel
theorem dX8_sendToAll_13 : decode (m_code mX8_sendToAll) 13 = .ok (.getfield 27, 3) := by decide +kernel
theorem dX8_sendToAll_16 : decode (m_code mX8_sendToAll) 16 = .ok (.iload_n 1, 1) := by decide +kernel
theorem dX8_sendToAll_17 : decode (m_code mX8_sendToAll) 17 = .ok (.iload 5, 2) := by decide +kernel
theorem dX8_sendToAll_19 : decode (m_code mX8_sendToAll) 19 = .ok (.iload_n 2, 1) := by decide +kernel
theorem dX8_sendToAll_20 : decode (m_code mX8_sendToAll) 20 = .ok (.iload_n 3, 1) := by decide +kernel
theorem dX8_sendToAll_21 : decode (m_code mX8_sendToAll) 21 = .ok (.iload 4, 2) := by decide +kernel
theorem dX8_sendToAll_23 : decode (m_code mX8_sendToAll) 23 = .ok (.invokevirtual 101, 3) := by decide +kernel
theorem dX8_sendToAll_26 : decode (m_code mX8_sendToAll) 26 = .ok (.iinc 5 1, 3) := by decide +kernel
theorem dX8_sendToAll_29 : decode (m_code mX8_sendToAll) 29 = .ok (.goto (-26), 3) := by decide +kernel
theorem dX8_sendToAll_32 : decode (m_code mX8_sendToAll) 32 = .ok (.return_, 1) := by decide +kernel
theorem dX8_sendMark_0 : decode (m_code mX8_sendMark) 0 = .ok (.aload_n 0, 1) := by decide +kernel
theorem dX8_sendMark_1 : decode (m_code mX8_sendMark) 1 = .ok (.getfield 27, 3) := by decide +kernel
theorem dX8_sendMark_4 : decode (m_code mX8_sendMark) 4 = .ok (.iload_n 1, 1) := by decide +kernel
theorem dX8_sendMark_5 : decode (m_code mX8_sendMark) 5 = .ok (.aload_n 0, 1) := by decide +kernel
theorem dX8_sendMark_6 : decode (m_code mX8_sendMark) 6 = .ok (.aload_n 0, 1) := by decide +kernel
theorem dX8_sendMark_7 : decode (m_code mX8_sendMark) 7 = .ok (.getfield 12, 3) := by decide +kernel
theorem dX8_sendMark_10 : decode (m_code mX8_sendMark) 10 = .ok (.getfield 105, 3) := by decide +kernel
theorem dX8_sendMark_13 : decode (m_code mX8_sendMark) 13 = .ok (.iload_n 2, 1) := by decide +kernel
theorem dX8_sendMark_14 : decode (m_code mX8_sendMark) 14 = .ok (.iaload, 1) := by decide +kernel
theorem dX8_sendMark_15 : decode (m_code mX8_sendMark) 15 = .ok (.iconst 1, 1) := by decide +kernel
theorem dX8_sendMark_16 : decode (m_code mX8_sendMark) 16 = .ok (.iadd, 1) := by decide +kernel
theorem dX8_sendMark_17 : decode (m_code mX8_sendMark) 17 = .ok (.invokevirtual 108, 3) := by decide +kernel
theorem dX8_sendMark_20 : decode (m_code mX8_sendMark) 20 = .ok (.iconst 2, 1) := by decide +kernel
theorem dX8_sendMark_21 : decode (m_code mX8_sendMark) 21 = .ok (.iload_n 2, 1) := by decide +kernel
theorem dX8_sendMark_22 : decode (m_code mX8_sendMark) 22 = .ok (.iconst (-1), 1) := by decide +kernel
theorem dX8_sendMark_23 : decode (m_code mX8_sendMark) 23 = .ok (.invokevirtual 101, 3) := by decide +kernel
theorem dX8_sendMark_26 : decode (m_code mX8_sendMark) 26 = .ok (.return_, 1) := by decide +kernel
theorem dX8_canPropose_0 : decode (m_code mX8_canPropose) 0 = .ok (.aload_n 0, 1) := by decide +kernel
theorem dX8_canPropose_1 : decode (m_code mX8_canPropose) 1 = .ok (.iload_n 1, 1) := by decide +kernel
theorem dX8_canPropose_2 : decode (m_code mX8_canPropose) 2 = .ok (.invokevirtual 112, 3) := by decide +kernel
theorem dX8_canPropose_5 : decode (m_code mX8_canPropose) 5 = .ok (.ifCond .eq 15, 3) := by decide +kernel
theorem dX8_canPropose_8 : decode (m_code mX8_canPropose) 8 = .ok (.aload_n 0, 1) := by decide +kernel
theorem dX8_canPropose_9 : decode (m_code mX8_canPropose) 9 = .ok (.getfield 12, 3) := by decide +kernel
theorem dX8_canPropose_12 : decode (m_code mX8_canPropose) 12 = .ok (.getfield 80, 3) := by decide +kernel
theorem dX8_canPropose_15 : decode (m_code mX8_canPropose) 15 = .ok (.bipush 100, 2) := by decide +kernel
theorem dX8_canPropose_17 : decode (m_code mX8_canPropose) 17 = .ok (.if_icmp .lt 5, 3) := by decide +kernel
theorem dX8_canPropose_20 : decode (m_code mX8_canPropose) 20 = .ok (.iconst 0, 1) := by decide +kernel
theorem dX8_canPropose_21 : decode (m_code mX8_canPropose) 21 = .ok (.ireturn, 1) := by decide +kernel
theorem dX8_canPropose_22 : decode (m_code mX8_canPropose) 22 = .ok (.aload_n 0, 1) := by decide +kernel
theorem dX8_canPropose_23 : decode (m_code mX8_canPropose) 23 = .ok (.getfield 20, 3) := by decide +kernel
theorem dX8_canPropose_26 : decode (m_code mX8_canPropose) 26 = .ok (.iload_n 1, 1) := by decide +kernel
theorem dX8_canPropose_27 : decode (m_code mX8_canPropose) 27 = .ok (.aaload, 1) := by decide +kernel
theorem dX8_canPropose_28 : decode (m_code mX8_canPropose) 28 = .ok (.astore_n 2, 1) := by decide +kernel
theorem dX8_canPropose_29 : decode (m_code mX8_canPropose) 29 = .ok (.aload_n 2, 1) := by decide +kernel
theorem dX8_canPropose_30 : decode (m_code mX8_canPropose) 30 = .ok (.getfield 115, 3) := by decide +kernel
theorem dX8_canPropose_33 : decode (m_code mX8_canPropose) 33 = .ok (.sipush 200, 3) := by decide +kernel
theorem dX8_canPropose_36 : decode (m_code mX8_canPropose) 36 = .ok (.if_icmp .gt 30, 3) := by decide +kernel
theorem dX8_canPropose_39 : decode (m_code mX8_canPropose) 39 = .ok (.aload_n 0, 1) := by decide +kernel
theorem dX8_canPropose_40 : decode (m_code mX8_canPropose) 40 = .ok (.aload_n 2, 1) := by decide +kernel
theorem dX8_canPropose_41 : decode (m_code mX8_canPropose) 41 = .ok (.getfield 115, 3) := by decide +kernel
theorem dX8_canPropose_44 : decode (m_code mX8_canPropose) 44 = .ok (.invokevirtual 108, 3) := by decide +kernel
theorem dX8_canPropose_47 : decode (m_code mX8_canPropose) 47 = .ok (.iload_n 1, 1) := by decide +kernel
theorem dX8_canPropose_48 : decode (m_code mX8_canPropose) 48 = .ok (.if_icmp .ne 18, 3) := by decide +kernel
theorem dX8_canPropose_51 : decode (m_code mX8_canPropose) 51 = .ok (.aload_n 2, 1) := by decide +kernel
theorem dX8_canPropose_52 : decode (m_code mX8_canPropose) 52 = .ok (.getfield 117, 3) := by decide +kernel
theorem dX8_canPropose_55 : decode (m_code mX8_canPropose) 55 = .ok (.aload_n 2, 1) := by decide +kernel
theorem dX8_canPropose_56 : decode (m_code mX8_canPropose) 56 = .ok (.getfield 115, 3) := by decide +kernel
theorem dX8_canPropose_59 : decode (m_code mX8_canPropose) 59 = .ok (.if_icmp .ge 7, 3) := by decide +kernel
theorem dX8_canPropose_62 : decode (m_code mX8_canPropose) 62 = .ok (.iconst 1, 1) := by decide +kernel
theorem dX8_canPropose_63 : decode (m_code mX8_canPropose) 63 = .ok (.goto 4, 3) := by decide +kernel
theorem dX8_canPropose_66 : decode (m_code mX8_canPropose) 66 = .ok (.iconst 0, 1) := by decide +kernel
theorem dX8_canPropose_67 : decode (m_code mX8_canPropose) 67 = .ok (.istore_n 3, 1) := by decide +kernel
theorem dX8_canPropose_68 : decode (m_code mX8_canPropose) 68 = .ok (.aload_n 2, 1) := by decide +kernel
theorem dX8_canPropose_69 : decode (m_code mX8_canPropose) 69 = .ok (.getfield 115, 3) := by decide +kernel
theorem dX8_canPropose_72 : decode (m_code mX8_canPropose) 72 = .ok (.iconst 1, 1) := by decide +kernel
theorem dX8_canPropose_73 : decode (m_code mX8_canPropose) 73 = .ok (.if_icmp .eq 37, 3) := by decide +kernel
theorem dX8_canPropose_76 : decode (m_code mX8_canPropose) 76 = .ok (.aload_n 0, 1) := by decide +kernel
theorem dX8_canPropose_77 : decode (m_code mX8_canPropose) 77 = .ok (.getfield 12, 3) := by decide +kernel
theorem dX8_canPropose_80 : decode (m_code mX8_canPropose) 80 = .ok (.getfield 105, 3) := by decide +kernel
theorem dX8_canPropose_83 : decode (m_code mX8_canPropose) 83 = .ok (.aload_n 2, 1) := by decide +kernel
theorem dX8_canPropose_84 : decode (m_code mX8_canPropose) 84 = .ok (.getfield 120, 3) := by decide +kernel
theorem dX8_canPropose_87 : decode (m_code mX8_canPropose) 87 = .ok (.iaload, 1) := by decide +kernel
theorem dX8_canPropose_88 : decode (m_code mX8_canPropose) 88 = .ok (.aload_n 2, 1) := by decide +kernel
theorem dX8_canPropose_89 : decode (m_code mX8_canPropose) 89 = .ok (.getfield 115, 3) := by decide +kernel
theorem dX8_canPropose_92 : decode (m_code mX8_canPropose) 92 = .ok (.iconst 1, 1) := by decide +kernel
theorem dX8_canPropose_93 : decode (m_code mX8_canPropose) 93 = .ok (.isub, 1) := by decide +kernel
theorem dX8_canPropose_94 : decode (m_code mX8_canPropose) 94 = .ok (.if_icmp .eq 16, 3) := by decide +kernel
theorem dX8_canPropose_97 : decode (m_code mX8_canPropose) 97 = .ok (.aload_n 2, 1) := by decide +kernel
theorem dX8_canPropose_98 : decode (m_code mX8_canPropose) 98 = .ok (.getfield 123, 3) := by decide +kernel
theorem dX8_canPropose_101 : decode (m_code mX8_canPropose) 101 = .ok (.aload_n 2, 1) := by decide +kernel
theorem dX8_canPropose_102 : decode (m_code mX8_canPropose) 102 = .ok (.getfield 115, 3) := by decide +kernel
theorem dX8_canPropose_105 : decode (m_code mX8_canPropose) 105 = .ok (.iconst 1, 1) := by decide +kernel
theorem dX8_canPropose_106 : decode (m_code mX8_canPropose) 106 = .ok (.isub, 1) := by decide +kernel
theorem dX8_canPropose_107 : decode (m_code mX8_canPropose) 107 = .ok (.if_icmp .lt 7, 3) := by decide +kernel
theorem dX8_canPropose_110 : decode (m_code mX8_canPropose) 110 = .ok (.iconst 1, 1) := by decide +kernel
theorem dX8_canPropose_111 : decode (m_code mX8_canPropose) 111 = .ok (.goto 4, 3) := by decide +kernel
theorem dX8_canPropose_114 : decode (m_code mX8_canPropose) 114 = .ok (.iconst 0, 1) := by decide +kernel
theorem dX8_canPropose_115 : decode (m_code mX8_canPropose) 115 = .ok (.istore 4, 2) := by decide +kernel
theorem dX8_canPropose_117 : decode (m_code mX8_canPropose) 117 = .ok (.iload_n 3, 1) := by decide +kernel
theorem dX8_canPropose_118 : decode (m_code mX8_canPropose) 118 = .ok (.ifCond .eq 12, 3) := by decide +kernel
theorem dX8_canPropose_121 : decode (m_code mX8_canPropose) 121 = .ok (.iload 4, 2) := by decide +kernel
theorem dX8_canPropose_123 : decode (m_code mX8_canPropose) 123 = .ok (.ifCond .eq 7, 3) := by decide +kernel
theorem dX8_canPropose_126 : decode (m_code mX8_canPropose) 126 = .ok (.iconst 1, 1) := by decide +kernel
theorem dX8_canPropose_127 : decode (m_code mX8_canPropose) 127 = .ok (.goto 4, 3) := by decide +kernel
theorem dX8_canPropose_130 : decode (m_code mX8_canPropose) 130 = .ok (.iconst 0, 1) := by decide +kernel
theorem dX8_canPropose_131 : decode (m_code mX8_canPropose) 131 = .ok (.ireturn, 1) := by decide +kernel
theorem dX8_proposeBy_0 : decode (m_code mX8_proposeBy) 0 = .ok (.iload_n 2, 1) := by decide +kernel
theorem dX8_proposeBy_1 : decode (m_code mX8_proposeBy) 1 = .ok (.ifCond .lt 18, 3) := by decide +kernel
theorem dX8_proposeBy_4 : decode (m_code mX8_proposeBy) 4 = .ok (.iload_n 2, 1) := by decide +kernel
theorem dX8_proposeBy_5 : decode (m_code mX8_proposeBy) 5 = .ok (.sipush 999, 3) := by decide +kernel
theorem dX8_proposeBy_8 : decode (m_code mX8_proposeBy) 8 = .ok (.if_icmp .gt 11, 3) := by decide +kernel
theorem dX8_proposeBy_11 : decode (m_code mX8_proposeBy) 11 = .ok (.aload_n 0, 1) := by decide +kernel
theorem dX8_proposeBy_12 : decode (m_code mX8_proposeBy) 12 = .ok (.iload_n 1, 1) := by decide +kernel
theorem dX8_proposeBy_13 : decode (m_code mX8_proposeBy) 13 = .ok (.invokevirtual 126, 3) := by decide +kernel
theorem dX8_proposeBy_16 : decode (m_code mX8_proposeBy) 16 = .ok (.ifCond .ne 5, 3) := by decide +kernel
theorem dX8_proposeBy_19 : decode (m_code mX8_proposeBy) 19 = .ok (.iconst (-1), 1) := by decide +kernel
theorem dX8_proposeBy_20 : decode (m_code mX8_proposeBy) 20 = .ok (.ireturn, 1) := by decide +kernel
theorem dX8_proposeBy_21 : decode (m_code mX8_proposeBy) 21 = .ok (.aload_n 0, 1) := by decide +kernel
theorem dX8_proposeBy_22 : decode (m_code mX8_proposeBy) 22 = .ok (.getfield 20, 3) := by decide +kernel
theorem dX8_proposeBy_25 : decode (m_code mX8_proposeBy) 25 = .ok (.iload_n 1, 1) := by decide +kernel
theorem dX8_proposeBy_26 : decode (m_code mX8_proposeBy) 26 = .ok (.aaload, 1) := by decide +kernel
theorem dX8_proposeBy_27 : decode (m_code mX8_proposeBy) 27 = .ok (.astore_n 3, 1) := by decide +kernel
theorem dX8_proposeBy_28 : decode (m_code mX8_proposeBy) 28 = .ok (.aload_n 3, 1) := by decide +kernel
theorem dX8_proposeBy_29 : decode (m_code mX8_proposeBy) 29 = .ok (.getfield 123, 3) := by decide +kernel
theorem dX8_proposeBy_32 : decode (m_code mX8_proposeBy) 32 = .ok (.aload_n 3, 1) := by decide +kernel
theorem dX8_proposeBy_33 : decode (m_code mX8_proposeBy) 33 = .ok (.getfield 115, 3) := by decide +kernel
theorem dX8_proposeBy_36 : decode (m_code mX8_proposeBy) 36 = .ok (.iconst 1, 1) := by decide +kernel
theorem dX8_proposeBy_37 : decode (m_code mX8_proposeBy) 37 = .ok (.isub, 1) := by decide +kernel
theorem dX8_proposeBy_38 : decode (m_code mX8_proposeBy) 38 = .ok (.if_icmp .lt 7, 3) := by decide +kernel
theorem dX8_proposeBy_41 : decode (m_code mX8_proposeBy) 41 = .ok (.iconst 1, 1) := by decide +kernel
theorem dX8_proposeBy_42 : decode (m_code mX8_proposeBy) 42 = .ok (.goto 4, 3) := by decide +kernel
theorem dX8_proposeBy_45 : decode (m_code mX8_proposeBy) 45 = .ok (.iconst 0, 1) := by decide +kernel
theorem dX8_proposeBy_46 : decode (m_code mX8_proposeBy) 46 = .ok (.istore 4, 2) := by decide +kernel
theorem dX8_proposeBy_48 : decode (m_code mX8_proposeBy) 48 = .ok (.aload_n 0, 1) := by decide +kernel
theorem dX8_proposeBy_49 : decode (m_code mX8_proposeBy) 49 = .ok (.getfield 12, 3) := by decide +kernel
theorem dX8_proposeBy_52 : decode (m_code mX8_proposeBy) 52 = .ok (.aload_n 3, 1) := by decide +kernel
theorem dX8_proposeBy_53 : decode (m_code mX8_proposeBy) 53 = .ok (.getfield 115, 3) := by decide +kernel
theorem dX8_proposeBy_56 : decode (m_code mX8_proposeBy) 56 = .ok (.aload_n 3, 1) := by decide +kernel
theorem dX8_proposeBy_57 : decode (m_code mX8_proposeBy) 57 = .ok (.getfield 120, 3) := by decide +kernel
theorem dX8_proposeBy_60 : decode (m_code mX8_proposeBy) 60 = .ok (.aload_n 3, 1) := by decide +kernel
theorem dX8_proposeBy_61 : decode (m_code mX8_proposeBy) 61 = .ok (.getfield 120, 3) := by decide +kernel
theorem dX8_proposeBy_64 : decode (m_code mX8_proposeBy) 64 = .ok (.iload_n 2, 1) := by decide +kernel
theorem dX8_proposeBy_65 : decode (m_code mX8_proposeBy) 65 = .ok (.iload_n 1, 1) := by decide +kernel
theorem dX8_proposeBy_66 : decode (m_code mX8_proposeBy) 66 = .ok (.iload 4, 2) := by decide +kernel
theorem dX8_proposeBy_68 : decode (m_code mX8_proposeBy) 68 = .ok (.invokevirtual 129, 3) := by decide +kernel
theorem dX8_proposeBy_71 : decode (m_code mX8_proposeBy) 71 = .ok (.istore 5, 2) := by decide +kernel
theorem dX8_proposeBy_73 : decode (m_code mX8_proposeBy) 73 = .ok (.aload_n 3, 1) := by decide +kernel
theorem dX8_proposeBy_74 : decode (m_code mX8_proposeBy) 74 = .ok (.aload_n 3, 1) := by decide +kernel
theorem dX8_proposeBy_75 : decode (m_code mX8_proposeBy) 75 = .ok (.getfield 115, 3) := by decide +kernel
theorem dX8_proposeBy_78 : decode (m_code mX8_proposeBy) 78 = .ok (.putfield 117, 3) := by decide +kernel
theorem dX8_proposeBy_81 : decode (m_code mX8_proposeBy) 81 = .ok (.aload_n 0, 1) := by decide +kernel
theorem dX8_proposeBy_82 : decode (m_code mX8_proposeBy) 82 = .ok (.iload_n 1, 1) := by decide +kernel
theorem dX8_proposeBy_83 : decode (m_code mX8_proposeBy) 83 = .ok (.iconst 1, 1) := by decide +kernel
theorem dX8_proposeBy_84 : decode (m_code mX8_proposeBy) 84 = .ok (.iload 5, 2) := by decide +kernel
theorem dX8_proposeBy_86 : decode (m_code mX8_proposeBy) 86 = .ok (.iconst (-1), 1) := by decide +kernel
theorem dX8_proposeBy_87 : decode (m_code mX8_proposeBy) 87 = .ok (.invokevirtual 133, 3) := by decide +kernel
theorem dX8_proposeBy_90 : decode (m_code mX8_proposeBy) 90 = .ok (.iload 5, 2) := by decide +kernel
theorem dX8_proposeBy_92 : decode (m_code mX8_proposeBy) 92 = .ok (.ireturn, 1) := by decide +kernel
theorem dX8_canTimeOut_0 : decode (m_code mX8_canTimeOut) 0 = .ok (.aload_n 0, 1) := by decide +kernel
theorem dX8_canTimeOut_1 : decode (m_code mX8_canTimeOut) 1 = .ok (.iload_n 1, 1) := by decide +kernel
theorem dX8_canTimeOut_2 : decode (m_code mX8_canTimeOut) 2 = .ok (.invokevirtual 112, 3) := by decide +kernel
theorem dX8_canTimeOut_5 : decode (m_code mX8_canTimeOut) 5 = .ok (.ifCond .eq 43, 3) := by decide +kernel
theorem dX8_canTimeOut_8 : decode (m_code mX8_canTimeOut) 8 = .ok (.aload_n 0, 1) := by decide +kernel
theorem dX8_canTimeOut_9 : decode (m_code mX8_canTimeOut) 9 = .ok (.getfield 20, 3) := by decide +kernel
theorem dX8_canTimeOut_12 : decode (m_code mX8_canTimeOut) 12 = .ok (.iload_n 1, 1) := by decide +kernel
theorem dX8_canTimeOut_13 : decode (m_code mX8_canTimeOut) 13 = .ok (.aaload, 1) := by decide +kernel
theorem dX8_canTimeOut_14 : decode (m_code mX8_canTimeOut) 14 = .ok (.getfield 115, 3) := by decide +kernel
theorem dX8_canTimeOut_17 : decode (m_code mX8_canTimeOut) 17 = .ok (.sipush 200, 3) := by decide +kernel
theorem dX8_canTimeOut_20 : decode (m_code mX8_canTimeOut) 20 = .ok (.if_icmp .gt 28, 3) := by decide +kernel
theorem dX8_canTimeOut_23 : decode (m_code mX8_canTimeOut) 23 = .ok (.aload_n 0, 1) := by decide +kernel
theorem dX8_canTimeOut_24 : decode (m_code mX8_canTimeOut) 24 = .ok (.getfield 20, 3) := by decide +kernel
theorem dX8_canTimeOut_27 : decode (m_code mX8_canTimeOut) 27 = .ok (.iload_n 1, 1) := by decide +kernel
theorem dX8_canTimeOut_28 : decode (m_code mX8_canTimeOut) 28 = .ok (.aaload, 1) := by decide +kernel
theorem dX8_canTimeOut_29 : decode (m_code mX8_canTimeOut) 29 = .ok (.getfield 137, 3) := by decide +kernel
theorem dX8_canTimeOut_32 : decode (m_code mX8_canTimeOut) 32 = .ok (.aload_n 0, 1) := by decide +kernel
theorem dX8_canTimeOut_33 : decode (m_code mX8_canTimeOut) 33 = .ok (.getfield 20, 3) := by decide +kernel
theorem dX8_canTimeOut_36 : decode (m_code mX8_canTimeOut) 36 = .ok (.iload_n 1, 1) := by decide +kernel
theorem dX8_canTimeOut_37 : decode (m_code mX8_canTimeOut) 37 = .ok (.aaload, 1) := by decide +kernel
theorem dX8_canTimeOut_38 : decode (m_code mX8_canTimeOut) 38 = .ok (.getfield 115, 3) := by decide +kernel
theorem dX8_canTimeOut_41 : decode (m_code mX8_canTimeOut) 41 = .ok (.if_icmp .ge 7, 3) := by decide +kernel
theorem dX8_canTimeOut_44 : decode (m_code mX8_canTimeOut) 44 = .ok (.iconst 1, 1) := by decide +kernel
theorem dX8_canTimeOut_45 : decode (m_code mX8_canTimeOut) 45 = .ok (.goto 4, 3) := by decide +kernel
theorem dX8_canTimeOut_48 : decode (m_code mX8_canTimeOut) 48 = .ok (.iconst 0, 1) := by decide +kernel
theorem dX8_canTimeOut_49 : decode (m_code mX8_canTimeOut) 49 = .ok (.ireturn, 1) := by decide +kernel
theorem dX8_timeOutBy_0 : decode (m_code mX8_timeOutBy) 0 = .ok (.aload_n 0, 1) := by decide +kernel
theorem dX8_timeOutBy_1 : decode (m_code mX8_timeOutBy) 1 = .ok (.iload_n 1, 1) := by decide +kernel
theorem dX8_timeOutBy_2 : decode (m_code mX8_timeOutBy) 2 = .ok (.invokevirtual 140, 3) := by decide +kernel
theorem dX8_timeOutBy_5 : decode (m_code mX8_timeOutBy) 5 = .ok (.ifCond .ne 5, 3) := by decide +kernel
theorem dX8_timeOutBy_8 : decode (m_code mX8_timeOutBy) 8 = .ok (.iconst 0, 1) := by decide +kernel
theorem dX8_timeOutBy_9 : decode (m_code mX8_timeOutBy) 9 = .ok (.ireturn, 1) := by decide +kernel
theorem dX8_timeOutBy_10 : decode (m_code mX8_timeOutBy) 10 = .ok (.aload_n 0, 1) := by decide +kernel
theorem dX8_timeOutBy_11 : decode (m_code mX8_timeOutBy) 11 = .ok (.getfield 20, 3) := by decide +kernel
theorem dX8_timeOutBy_14 : decode (m_code mX8_timeOutBy) 14 = .ok (.iload_n 1, 1) := by decide +kernel
theorem dX8_timeOutBy_15 : decode (m_code mX8_timeOutBy) 15 = .ok (.aaload, 1) := by decide +kernel
theorem dX8_timeOutBy_16 : decode (m_code mX8_timeOutBy) 16 = .ok (.astore_n 2, 1) := by decide +kernel
theorem dX8_timeOutBy_17 : decode (m_code mX8_timeOutBy) 17 = .ok (.aload_n 0, 1) := by decide +kernel
theorem dX8_timeOutBy_18 : decode (m_code mX8_timeOutBy) 18 = .ok (.iload_n 1, 1) := by decide +kernel
theorem dX8_timeOutBy_19 : decode (m_code mX8_timeOutBy) 19 = .ok (.iconst 3, 1) := by decide +kernel
theorem dX8_timeOutBy_20 : decode (m_code mX8_timeOutBy) 20 = .ok (.aload_n 2, 1) := by decide +kernel
theorem dX8_timeOutBy_21 : decode (m_code mX8_timeOutBy) 21 = .ok (.getfield 115, 3) := by decide +kernel
theorem dX8_timeOutBy_24 : decode (m_code mX8_timeOutBy) 24 = .ok (.aload_n 2, 1) := by decide +kernel
theorem dX8_timeOutBy_25 : decode (m_code mX8_timeOutBy) 25 = .ok (.getfield 120, 3) := by decide +kernel
theorem dX8_timeOutBy_28 : decode (m_code mX8_timeOutBy) 28 = .ok (.invokevirtual 133, 3) := by decide +kernel
theorem dX8_timeOutBy_31 : decode (m_code mX8_timeOutBy) 31 = .ok (.aload_n 2, 1) := by decide +kernel
theorem dX8_timeOutBy_32 : decode (m_code mX8_timeOutBy) 32 = .ok (.aload_n 2, 1) := by decide +kernel
theorem dX8_timeOutBy_33 : decode (m_code mX8_timeOutBy) 33 = .ok (.getfield 115, 3) := by decide +kernel
theorem dX8_timeOutBy_36 : decode (m_code mX8_timeOutBy) 36 = .ok (.putfield 137, 3) := by decide +kernel
theorem dX8_timeOutBy_39 : decode (m_code mX8_timeOutBy) 39 = .ok (.aload_n 2, 1) := by decide +kernel
theorem dX8_timeOutBy_40 : decode (m_code mX8_timeOutBy) 40 = .ok (.aload_n 2, 1) := by decide +kernel
theorem dX8_timeOutBy_41 : decode (m_code mX8_timeOutBy) 41 = .ok (.getfield 143, 3) := by decide +kernel
theorem dX8_timeOutBy_44 : decode (m_code mX8_timeOutBy) 44 = .ok (.aload_n 2, 1) := by decide +kernel
theorem dX8_timeOutBy_45 : decode (m_code mX8_timeOutBy) 45 = .ok (.getfield 115, 3) := by decide +kernel
theorem dX8_timeOutBy_48 : decode (m_code mX8_timeOutBy) 48 = .ok (.invokestatic 146, 3) := by decide +kernel
theorem dX8_timeOutBy_51 : decode (m_code mX8_timeOutBy) 51 = .ok (.putfield 143, 3) := by decide +kernel
theorem dX8_timeOutBy_54 : decode (m_code mX8_timeOutBy) 54 = .ok (.iconst 1, 1) := by decide +kernel
theorem dX8_timeOutBy_55 : decode (m_code mX8_timeOutBy) 55 = .ok (.ireturn, 1) := by decide +kernel
theorem dX8_lieBy_0 : decode (m_code mX8_lieBy) 0 = .ok (.aload_n 0, 1) := by decide +kernel
theorem dX8_lieBy_1 : decode (m_code mX8_lieBy) 1 = .ok (.iload_n 1, 1) := by decide +kernel
theorem dX8_lieBy_2 : decode (m_code mX8_lieBy) 2 = .ok (.invokevirtual 88, 3) := by decide +kernel
theorem dX8_lieBy_5 : decode (m_code mX8_lieBy) 5 = .ok (.ifCond .eq 27, 3) := by decide +kernel
theorem dX8_lieBy_8 : decode (m_code mX8_lieBy) 8 = .ok (.aload_n 0, 1) := by decide +kernel
theorem dX8_lieBy_9 : decode (m_code mX8_lieBy) 9 = .ok (.getfield 20, 3) := by decide +kernel
theorem dX8_lieBy_12 : decode (m_code mX8_lieBy) 12 = .ok (.iload_n 1, 1) := by decide +kernel
theorem dX8_lieBy_13 : decode (m_code mX8_lieBy) 13 = .ok (.aaload, 1) := by decide +kernel
theorem dX8_lieBy_14 : decode (m_code mX8_lieBy) 14 = .ok (.getfield 92, 3) := by decide +kernel
theorem dX8_lieBy_17 : decode (m_code mX8_lieBy) 17 = .ok (.iconst 2, 1) := by decide +kernel
theorem dX8_lieBy_18 : decode (m_code mX8_lieBy) 18 = .ok (.if_icmp .ne 14, 3) := by decide +kernel
theorem dX8_lieBy_21 : decode (m_code mX8_lieBy) 21 = .ok (.aload_n 0, 1) := by decide +kernel
theorem dX8_lieBy_22 : decode (m_code mX8_lieBy) 22 = .ok (.getfield 12, 3) := by decide +kernel
theorem dX8_lieBy_25 : decode (m_code mX8_lieBy) 25 = .ok (.iload_n 3, 1) := by decide +kernel
theorem dX8_lieBy_26 : decode (m_code mX8_lieBy) 26 = .ok (.invokevirtual 152, 3) := by decide +kernel
theorem dX8_lieBy_29 : decode (m_code mX8_lieBy) 29 = .ok (.ifCond .ne 5, 3) := by decide +kernel
theorem dX8_lieBy_32 : decode (m_code mX8_lieBy) 32 = .ok (.iconst (-1), 1) := by decide +kernel
theorem dX8_lieBy_33 : decode (m_code mX8_lieBy) 33 = .ok (.ireturn, 1) := by decide +kernel
theorem dX8_lieBy_34 : decode (m_code mX8_lieBy) 34 = .ok (.iload_n 2, 1) := by decide +kernel
theorem dX8_lieBy_35 : decode (m_code mX8_lieBy) 35 = .ok (.tableswitch 84 0 3 #[29, 36, 63, 72], 29) := by decide +kernel
theorem dX8_lieBy_64 : decode (m_code mX8_lieBy) 64 = .ok (.aload_n 0, 1) := by decide +kernel
theorem dX8_lieBy_65 : decode (m_code mX8_lieBy) 65 = .ok (.iload_n 1, 1) := by decide +kernel
theorem dX8_lieBy_66 : decode (m_code mX8_lieBy) 66 = .ok (.iload_n 3, 1) := by decide +kernel
theorem dX8_lieBy_67 : decode (m_code mX8_lieBy) 67 = .ok (.invokevirtual 155, 3) := by decide +kernel
theorem dX8_lieBy_70 : decode (m_code mX8_lieBy) 70 = .ok (.ireturn, 1) := by decide +kernel
theorem dX8_lieBy_71 : decode (m_code mX8_lieBy) 71 = .ok (.aload_n 0, 1) := by decide +kernel
theorem dX8_lieBy_72 : decode (m_code mX8_lieBy) 72 = .ok (.getfield 12, 3) := by decide +kernel
theorem dX8_lieBy_75 : decode (m_code mX8_lieBy) 75 = .ok (.iload_n 3, 1) := by decide +kernel
theorem dX8_lieBy_76 : decode (m_code mX8_lieBy) 76 = .ok (.invokevirtual 158, 3) := by decide +kernel
theorem dX8_lieBy_79 : decode (m_code mX8_lieBy) 79 = .ok (.ifCond .eq 17, 3) := by decide +kernel
theorem dX8_lieBy_82 : decode (m_code mX8_lieBy) 82 = .ok (.aload_n 0, 1) := by decide +kernel
theorem dX8_lieBy_83 : decode (m_code mX8_lieBy) 83 = .ok (.iload_n 1, 1) := by decide +kernel
theorem dX8_lieBy_84 : decode (m_code mX8_lieBy) 84 = .ok (.iload_n 3, 1) := by decide +kernel
theorem dX8_lieBy_85 : decode (m_code mX8_lieBy) 85 = .ok (.iload_n 3, 1) := by decide +kernel
theorem dX8_lieBy_86 : decode (m_code mX8_lieBy) 86 = .ok (.iload 4, 2) := by decide +kernel
theorem dX8_lieBy_88 : decode (m_code mX8_lieBy) 88 = .ok (.iload 5, 2) := by decide +kernel
theorem dX8_lieBy_90 : decode (m_code mX8_lieBy) 90 = .ok (.invokevirtual 161, 3) := by decide +kernel
theorem dX8_lieBy_93 : decode (m_code mX8_lieBy) 93 = .ok (.goto 4, 3) := by decide +kernel
theorem dX8_lieBy_96 : decode (m_code mX8_lieBy) 96 = .ok (.iconst (-1), 1) := by decide +kernel
theorem dX8_lieBy_97 : decode (m_code mX8_lieBy) 97 = .ok (.ireturn, 1) := by decide +kernel
theorem dX8_lieBy_98 : decode (m_code mX8_lieBy) 98 = .ok (.aload_n 0, 1) := by decide +kernel
theorem dX8_lieBy_99 : decode (m_code mX8_lieBy) 99 = .ok (.iload_n 1, 1) := by decide +kernel
theorem dX8_lieBy_100 : decode (m_code mX8_lieBy) 100 = .ok (.iload_n 3, 1) := by decide +kernel
theorem dX8_lieBy_101 : decode (m_code mX8_lieBy) 101 = .ok (.iload 4, 2) := by decide +kernel
theorem dX8_lieBy_103 : decode (m_code mX8_lieBy) 103 = .ok (.invokevirtual 165, 3) := by decide +kernel
theorem dX8_lieBy_106 : decode (m_code mX8_lieBy) 106 = .ok (.ireturn, 1) := by decide +kernel
theorem dX8_lieBy_107 : decode (m_code mX8_lieBy) 107 = .ok (.aload_n 0, 1) := by decide +kernel
theorem dX8_lieBy_108 : decode (m_code mX8_lieBy) 108 = .ok (.iload_n 1, 1) := by decide +kernel
theorem dX8_lieBy_109 : decode (m_code mX8_lieBy) 109 = .ok (.iload_n 3, 1) := by decide +kernel
theorem dX8_lieBy_110 : decode (m_code mX8_lieBy) 110 = .ok (.iconst 0, 1) := by decide +kernel
theorem dX8_lieBy_111 : decode (m_code mX8_lieBy) 111 = .ok (.iload 4, 2) := by decide +kernel
theorem dX8_lieBy_113 : decode (m_code mX8_lieBy) 113 = .ok (.iload 5, 2) := by decide +kernel
theorem dX8_lieBy_115 : decode (m_code mX8_lieBy) 115 = .ok (.invokevirtual 161, 3) := by decide +kernel
theorem dX8_lieBy_118 : decode (m_code mX8_lieBy) 118 = .ok (.ireturn, 1) := by decide +kernel
theorem dX8_lieBy_119 : decode (m_code mX8_lieBy) 119 = .ok (.iconst (-1), 1) := by decide +kernel
theorem dX8_lieBy_120 : decode (m_code mX8_lieBy) 120 = .ok (.ireturn, 1) := by decide +kernel
theorem dX8_lieMark_0 : decode (m_code mX8_lieMark) 0 = .ok (.iload_n 2, 1) := by decide +kernel
theorem dX8_lieMark_1 : decode (m_code mX8_lieMark) 1 = .ok (.ifCond .ne 5, 3) := by decide +kernel
theorem dX8_lieMark_4 : decode (m_code mX8_lieMark) 4 = .ok (.iconst (-1), 1) := by decide +kernel
theorem dX8_lieMark_5 : decode (m_code mX8_lieMark) 5 = .ok (.ireturn, 1) := by decide +kernel
theorem dX8_lieMark_6 : decode (m_code mX8_lieMark) 6 = .ok (.aload_n 0, 1) := by decide +kernel
theorem dX8_lieMark_7 : decode (m_code mX8_lieMark) 7 = .ok (.iload_n 1, 1) := by decide +kernel
theorem dX8_lieMark_8 : decode (m_code mX8_lieMark) 8 = .ok (.iload_n 2, 1) := by decide +kernel
theorem dX8_lieMark_9 : decode (m_code mX8_lieMark) 9 = .ok (.invokevirtual 169, 3) := by decide +kernel
theorem dX8_lieMark_12 : decode (m_code mX8_lieMark) 12 = .ok (.iconst 0, 1) := by decide +kernel
theorem dX8_lieMark_13 : decode (m_code mX8_lieMark) 13 = .ok (.ireturn, 1) := by decide +kernel
theorem dX8_lieBlock_0 : decode (m_code mX8_lieBlock) 0 = .ok (.iload 4, 2) := by decide +kernel
theorem dX8_lieBlock_2 : decode (m_code mX8_lieBlock) 2 = .ok (.aload_n 0, 1) := by decide +kernel
theorem dX8_lieBlock_3 : decode (m_code mX8_lieBlock) 3 = .ok (.getfield 12, 3) := by decide +kernel
theorem dX8_lieBlock_6 : decode (m_code mX8_lieBlock) 6 = .ok (.getfield 105, 3) := by decide +kernel
theorem dX8_lieBlock_9 : decode (m_code mX8_lieBlock) 9 = .ok (.iload_n 2, 1) := by decide +kernel
theorem dX8_lieBlock_10 : decode (m_code mX8_lieBlock) 10 = .ok (.iaload, 1) := by decide +kernel
theorem dX8_lieBlock_11 : decode (m_code mX8_lieBlock) 11 = .ok (.if_icmp .le 21, 3) := by decide +kernel
theorem dX8_lieBlock_14 : decode (m_code mX8_lieBlock) 14 = .ok (.iload 4, 2) := by decide +kernel
theorem dX8_lieBlock_16 : decode (m_code mX8_lieBlock) 16 = .ok (.sipush 200, 3) := by decide +kernel
theorem dX8_lieBlock_19 : decode (m_code mX8_lieBlock) 19 = .ok (.if_icmp .gt 13, 3) := by decide +kernel
theorem dX8_lieBlock_22 : decode (m_code mX8_lieBlock) 22 = .ok (.aload_n 0, 1) := by decide +kernel
theorem dX8_lieBlock_23 : decode (m_code mX8_lieBlock) 23 = .ok (.iload 4, 2) := by decide +kernel
theorem dX8_lieBlock_25 : decode (m_code mX8_lieBlock) 25 = .ok (.invokevirtual 108, 3) := by decide +kernel
theorem dX8_lieBlock_28 : decode (m_code mX8_lieBlock) 28 = .ok (.iload_n 1, 1) := by decide +kernel
theorem dX8_lieBlock_29 : decode (m_code mX8_lieBlock) 29 = .ok (.if_icmp .eq 5, 3) := by decide +kernel
theorem dX8_lieBlock_32 : decode (m_code mX8_lieBlock) 32 = .ok (.iconst (-1), 1) := by decide +kernel
theorem dX8_lieBlock_33 : decode (m_code mX8_lieBlock) 33 = .ok (.ireturn, 1) := by decide +kernel
theorem dX8_lieBlock_34 : decode (m_code mX8_lieBlock) 34 = .ok (.iload 5, 2) := by decide +kernel
theorem dX8_lieBlock_36 : decode (m_code mX8_lieBlock) 36 = .ok (.ifCond .lt 23, 3) := by decide +kernel
theorem dX8_lieBlock_39 : decode (m_code mX8_lieBlock) 39 = .ok (.iload 5, 2) := by decide +kernel
theorem dX8_lieBlock_41 : decode (m_code mX8_lieBlock) 41 = .ok (.sipush 999, 3) := by decide +kernel
theorem dX8_lieBlock_44 : decode (m_code mX8_lieBlock) 44 = .ok (.if_icmp .gt 15, 3) := by decide +kernel
theorem dX8_lieBlock_47 : decode (m_code mX8_lieBlock) 47 = .ok (.aload_n 0, 1) := by decide +kernel
theorem dX8_lieBlock_48 : decode (m_code mX8_lieBlock) 48 = .ok (.getfield 12, 3) := by decide +kernel
theorem dX8_lieBlock_51 : decode (m_code mX8_lieBlock) 51 = .ok (.getfield 80, 3) := by decide +kernel
theorem dX8_lieBlock_54 : decode (m_code mX8_lieBlock) 54 = .ok (.bipush 100, 2) := by decide +kernel
theorem dX8_lieBlock_56 : decode (m_code mX8_lieBlock) 56 = .ok (.if_icmp .lt 5, 3) := by decide +kernel
theorem dX8_lieBlock_59 : decode (m_code mX8_lieBlock) 59 = .ok (.iconst (-1), 1) := by decide +kernel
theorem dX8_lieBlock_60 : decode (m_code mX8_lieBlock) 60 = .ok (.ireturn, 1) := by decide +kernel
theorem dX8_lieBlock_61 : decode (m_code mX8_lieBlock) 61 = .ok (.aload_n 0, 1) := by decide +kernel
theorem dX8_lieBlock_62 : decode (m_code mX8_lieBlock) 62 = .ok (.getfield 12, 3) := by decide +kernel
theorem dX8_lieBlock_65 : decode (m_code mX8_lieBlock) 65 = .ok (.iload 4, 2) := by decide +kernel
theorem dX8_lieBlock_67 : decode (m_code mX8_lieBlock) 67 = .ok (.iload_n 2, 1) := by decide +kernel
theorem dX8_lieBlock_68 : decode (m_code mX8_lieBlock) 68 = .ok (.iload_n 3, 1) := by decide +kernel
theorem dX8_lieBlock_69 : decode (m_code mX8_lieBlock) 69 = .ok (.iload 5, 2) := by decide +kernel
theorem dX8_lieBlock_71 : decode (m_code mX8_lieBlock) 71 = .ok (.iload_n 1, 1) := by decide +kernel
theorem dX8_lieBlock_72 : decode (m_code mX8_lieBlock) 72 = .ok (.iconst 0, 1) := by decide +kernel
theorem dX8_lieBlock_73 : decode (m_code mX8_lieBlock) 73 = .ok (.invokevirtual 129, 3) := by decide +kernel
theorem dX8_lieBlock_76 : decode (m_code mX8_lieBlock) 76 = .ok (.istore 6, 2) := by decide +kernel
theorem dX8_lieBlock_78 : decode (m_code mX8_lieBlock) 78 = .ok (.aload_n 0, 1) := by decide +kernel
theorem dX8_lieBlock_79 : decode (m_code mX8_lieBlock) 79 = .ok (.iload_n 1, 1) := by decide +kernel
theorem dX8_lieBlock_80 : decode (m_code mX8_lieBlock) 80 = .ok (.iconst 1, 1) := by decide +kernel
theorem dX8_lieBlock_81 : decode (m_code mX8_lieBlock) 81 = .ok (.iload 6, 2) := by decide +kernel
theorem dX8_lieBlock_83 : decode (m_code mX8_lieBlock) 83 = .ok (.iconst (-1), 1) := by decide +kernel
theorem dX8_lieBlock_84 : decode (m_code mX8_lieBlock) 84 = .ok (.invokevirtual 133, 3) := by decide +kernel
theorem dX8_lieBlock_87 : decode (m_code mX8_lieBlock) 87 = .ok (.iload 6, 2) := by decide +kernel
theorem dX8_lieBlock_89 : decode (m_code mX8_lieBlock) 89 = .ok (.ireturn, 1) := by decide +kernel
theorem dX8_lieTimeout_0 : decode (m_code mX8_lieTimeout) 0 = .ok (.iload_n 3, 1) := by decide +kernel
theorem dX8_lieTimeout_1 : decode (m_code mX8_lieTimeout) 1 = .ok (.iconst 1, 1) := by decide +kernel
theorem dX8_lieTimeout_2 : decode (m_code mX8_lieTimeout) 2 = .ok (.if_icmp .lt 21, 3) := by decide +kernel
theorem dX8_lieTimeout_5 : decode (m_code mX8_lieTimeout) 5 = .ok (.iload_n 3, 1) := by decide +kernel
theorem dX8_lieTimeout_6 : decode (m_code mX8_lieTimeout) 6 = .ok (.sipush 200, 3) := by decide +kernel
theorem dX8_lieTimeout_9 : decode (m_code mX8_lieTimeout) 9 = .ok (.if_icmp .gt 14, 3) := by decide +kernel
theorem dX8_lieTimeout_12 : decode (m_code mX8_lieTimeout) 12 = .ok (.aload_n 0, 1) := by decide +kernel
theorem dX8_lieTimeout_13 : decode (m_code mX8_lieTimeout) 13 = .ok (.getfield 12, 3) := by decide +kernel
theorem dX8_lieTimeout_16 : decode (m_code mX8_lieTimeout) 16 = .ok (.iload_n 2, 1) := by decide +kernel
theorem dX8_lieTimeout_17 : decode (m_code mX8_lieTimeout) 17 = .ok (.invokevirtual 158, 3) := by decide +kernel
theorem dX8_lieTimeout_20 : decode (m_code mX8_lieTimeout) 20 = .ok (.ifCond .ne 5, 3) := by decide +kernel
theorem dX8_lieTimeout_23 : decode (m_code mX8_lieTimeout) 23 = .ok (.iconst (-1), 1) := by decide +kernel
theorem dX8_lieTimeout_24 : decode (m_code mX8_lieTimeout) 24 = .ok (.ireturn, 1) := by decide +kernel
theorem dX8_lieTimeout_25 : decode (m_code mX8_lieTimeout) 25 = .ok (.aload_n 0, 1) := by decide +kernel
theorem dX8_lieTimeout_26 : decode (m_code mX8_lieTimeout) 26 = .ok (.iload_n 1, 1) := by decide +kernel
theorem dX8_lieTimeout_27 : decode (m_code mX8_lieTimeout) 27 = .ok (.iconst 3, 1) := by decide +kernel
theorem dX8_lieTimeout_28 : decode (m_code mX8_lieTimeout) 28 = .ok (.iload_n 3, 1) := by decide +kernel
theorem dX8_lieTimeout_29 : decode (m_code mX8_lieTimeout) 29 = .ok (.iload_n 2, 1) := by decide +kernel
theorem dX8_lieTimeout_30 : decode (m_code mX8_lieTimeout) 30 = .ok (.invokevirtual 133, 3) := by decide +kernel
theorem dX8_lieTimeout_33 : decode (m_code mX8_lieTimeout) 33 = .ok (.iconst 0, 1) := by decide +kernel
theorem dX8_lieTimeout_34 : decode (m_code mX8_lieTimeout) 34 = .ok (.ireturn, 1) := by decide +kernel
theorem dX8_askAnother_0 : decode (m_code mX8_askAnother) 0 = .ok (.aload_n 0, 1) := by decide +kernel
theorem dX8_askAnother_1 : decode (m_code mX8_askAnother) 1 = .ok (.getfield 20, 3) := by decide +kernel
theorem dX8_askAnother_4 : decode (m_code mX8_askAnother) 4 = .ok (.iload_n 1, 1) := by decide +kernel
theorem dX8_askAnother_5 : decode (m_code mX8_askAnother) 5 = .ok (.aaload, 1) := by decide +kernel
theorem dX8_askAnother_6 : decode (m_code mX8_askAnother) 6 = .ok (.astore_n 3, 1) := by decide +kernel
theorem dX8_askAnother_7 : decode (m_code mX8_askAnother) 7 = .ok (.aload_n 0, 1) := by decide +kernel
theorem dX8_askAnother_8 : decode (m_code mX8_askAnother) 8 = .ok (.iload_n 1, 1) := by decide +kernel
theorem dX8_askAnother_9 : decode (m_code mX8_askAnother) 9 = .ok (.aload_n 0, 1) := by decide +kernel
theorem dX8_askAnother_10 : decode (m_code mX8_askAnother) 10 = .ok (.getfield 20, 3) := by decide +kernel
theorem dX8_askAnother_13 : decode (m_code mX8_askAnother) 13 = .ok (.iload_n 2, 1) := by decide +kernel
theorem dX8_askAnother_14 : decode (m_code mX8_askAnother) 14 = .ok (.aaload, 1) := by decide +kernel
theorem dX8_askAnother_15 : decode (m_code mX8_askAnother) 15 = .ok (.getfield 120, 3) := by decide +kernel
theorem dX8_askAnother_18 : decode (m_code mX8_askAnother) 18 = .ok (.invokevirtual 173, 3) := by decide +kernel
theorem dX8_askAnother_21 : decode (m_code mX8_askAnother) 21 = .ok (.aload_n 3, 1) := by decide +kernel
theorem dX8_askAnother_22 : decode (m_code mX8_askAnother) 22 = .ok (.aload_n 3, 1) := by decide +kernel
theorem dX8_askAnother_23 : decode (m_code mX8_askAnother) 23 = .ok (.getfield 123, 3) := by decide +kernel
theorem dX8_askAnother_26 : decode (m_code mX8_askAnother) 26 = .ok (.aload_n 0, 1) := by decide +kernel
theorem dX8_askAnother_27 : decode (m_code mX8_askAnother) 27 = .ok (.getfield 20, 3) := by decide +kernel
theorem dX8_askAnother_30 : decode (m_code mX8_askAnother) 30 = .ok (.iload_n 2, 1) := by decide +kernel
theorem dX8_askAnother_31 : decode (m_code mX8_askAnother) 31 = .ok (.aaload, 1) := by decide +kernel
theorem dX8_askAnother_32 : decode (m_code mX8_askAnother) 32 = .ok (.getfield 123, 3) := by decide +kernel
theorem dX8_askAnother_35 : decode (m_code mX8_askAnother) 35 = .ok (.invokestatic 146, 3) := by decide +kernel
theorem dX8_askAnother_38 : decode (m_code mX8_askAnother) 38 = .ok (.putfield 123, 3) := by decide +kernel
theorem dX8_askAnother_41 : decode (m_code mX8_askAnother) 41 = .ok (.aload_n 3, 1) := by decide +kernel
theorem dX8_askAnother_42 : decode (m_code mX8_askAnother) 42 = .ok (.aload_n 3, 1) := by decide +kernel
theorem dX8_askAnother_43 : decode (m_code mX8_askAnother) 43 = .ok (.getfield 115, 3) := by decide +kernel
theorem dX8_askAnother_46 : decode (m_code mX8_askAnother) 46 = .ok (.aload_n 3, 1) := by decide +kernel
theorem dX8_askAnother_47 : decode (m_code mX8_askAnother) 47 = .ok (.getfield 123, 3) := by decide +kernel
theorem dX8_askAnother_50 : decode (m_code mX8_askAnother) 50 = .ok (.aload_n 0, 1) := by decide +kernel
theorem dX8_askAnother_51 : decode (m_code mX8_askAnother) 51 = .ok (.getfield 12, 3) := by decide +kernel
theorem dX8_askAnother_54 : decode (m_code mX8_askAnother) 54 = .ok (.getfield 105, 3) := by decide +kernel
theorem dX8_askAnother_57 : decode (m_code mX8_askAnother) 57 = .ok (.aload_n 3, 1) := by decide +kernel
theorem dX8_askAnother_58 : decode (m_code mX8_askAnother) 58 = .ok (.getfield 120, 3) := by decide +kernel
theorem dX8_askAnother_61 : decode (m_code mX8_askAnother) 61 = .ok (.iaload, 1) := by decide +kernel
theorem dX8_askAnother_62 : decode (m_code mX8_askAnother) 62 = .ok (.invokestatic 146, 3) := by decide +kernel
theorem dX8_askAnother_65 : decode (m_code mX8_askAnother) 65 = .ok (.iconst 1, 1) := by decide +kernel
theorem dX8_askAnother_66 : decode (m_code mX8_askAnother) 66 = .ok (.iadd, 1) := by decide +kernel
theorem dX8_askAnother_67 : decode (m_code mX8_askAnother) 67 = .ok (.invokestatic 146, 3) := by decide +kernel
theorem dX8_askAnother_70 : decode (m_code mX8_askAnother) 70 = .ok (.putfield 115, 3) := by decide +kernel
theorem dX8_askAnother_73 : decode (m_code mX8_askAnother) 73 = .ok (.return_, 1) := by decide +kernel
theorem dX8_deliverSome_0 : decode (m_code mX8_deliverSome) 0 = .ok (.iconst 0, 1) := by decide +kernel
theorem dX8_deliverSome_1 : decode (m_code mX8_deliverSome) 1 = .ok (.istore_n 3, 1) := by decide +kernel
theorem dX8_deliverSome_2 : decode (m_code mX8_deliverSome) 2 = .ok (.iconst 0, 1) := by decide +kernel
theorem dX8_deliverSome_3 : decode (m_code mX8_deliverSome) 3 = .ok (.istore 4, 2) := by decide +kernel
theorem dX8_deliverSome_5 : decode (m_code mX8_deliverSome) 5 = .ok (.iload 4, 2) := by decide +kernel
theorem dX8_deliverSome_7 : decode (m_code mX8_deliverSome) 7 = .ok (.iload_n 2, 1) := by decide +kernel
theorem dX8_deliverSome_8 : decode (m_code mX8_deliverSome) 8 = .ok (.if_icmp .ge 147, 3) := by decide +kernel
theorem dX8_deliverSome_11 : decode (m_code mX8_deliverSome) 11 = .ok (.aload_n 0, 1) := by decide +kernel
theorem dX8_deliverSome_12 : decode (m_code mX8_deliverSome) 12 = .ok (.getfield 27, 3) := by decide +kernel
theorem dX8_deliverSome_15 : decode (m_code mX8_deliverSome) 15 = .ok (.iload_n 1, 1) := by decide +kernel
theorem dX8_deliverSome_16 : decode (m_code mX8_deliverSome) 16 = .ok (.invokevirtual 176, 3) := by decide +kernel
theorem dX8_deliverSome_19 : decode (m_code mX8_deliverSome) 19 = .ok (.ifCond .eq 136, 3) := by decide +kernel
theorem dX8_deliverSome_22 : decode (m_code mX8_deliverSome) 22 = .ok (.aload_n 0, 1) := by decide +kernel
theorem dX8_deliverSome_23 : decode (m_code mX8_deliverSome) 23 = .ok (.getfield 27, 3) := by decide +kernel
theorem dX8_deliverSome_26 : decode (m_code mX8_deliverSome) 26 = .ok (.iload_n 1, 1) := by decide +kernel
theorem dX8_deliverSome_27 : decode (m_code mX8_deliverSome) 27 = .ok (.invokevirtual 177, 3) := by decide +kernel
theorem dX8_deliverSome_30 : decode (m_code mX8_deliverSome) 30 = .ok (.istore 5, 2) := by decide +kernel
theorem dX8_deliverSome_32 : decode (m_code mX8_deliverSome) 32 = .ok (.iload 5, 2) := by decide +kernel
theorem dX8_deliverSome_34 : decode (m_code mX8_deliverSome) 34 = .ok (.invokestatic 180, 3) := by decide +kernel
theorem dX8_deliverSome_37 : decode (m_code mX8_deliverSome) 37 = .ok (.istore 6, 2) := by decide +kernel
theorem dX8_deliverSome_39 : decode (m_code mX8_deliverSome) 39 = .ok (.iload 5, 2) := by decide +kernel
theorem dX8_deliverSome_41 : decode (m_code mX8_deliverSome) 41 = .ok (.invokestatic 183, 3) := by decide +kernel
theorem dX8_deliverSome_44 : decode (m_code mX8_deliverSome) 44 = .ok (.istore 7, 2) := by decide +kernel
theorem dX8_deliverSome_46 : decode (m_code mX8_deliverSome) 46 = .ok (.aload_n 0, 1) := by decide +kernel
theorem dX8_deliverSome_47 : decode (m_code mX8_deliverSome) 47 = .ok (.getfield 27, 3) := by decide +kernel
theorem dX8_deliverSome_50 : decode (m_code mX8_deliverSome) 50 = .ok (.dup, 1) := by decide +kernel
theorem dX8_deliverSome_51 : decode (m_code mX8_deliverSome) 51 = .ok (.getfield 186, 3) := by decide +kernel
theorem dX8_deliverSome_54 : decode (m_code mX8_deliverSome) 54 = .ok (.iconst 1, 1) := by decide +kernel
theorem dX8_deliverSome_55 : decode (m_code mX8_deliverSome) 55 = .ok (.iadd, 1) := by decide +kernel
theorem dX8_deliverSome_56 : decode (m_code mX8_deliverSome) 56 = .ok (.putfield 186, 3) := by decide +kernel
theorem dX8_deliverSome_59 : decode (m_code mX8_deliverSome) 59 = .ok (.iinc 3 1, 3) := by decide +kernel
theorem dX8_deliverSome_62 : decode (m_code mX8_deliverSome) 62 = .ok (.aload_n 0, 1) := by decide +kernel
theorem dX8_deliverSome_63 : decode (m_code mX8_deliverSome) 63 = .ok (.iload 6, 2) := by decide +kernel
theorem dX8_deliverSome_65 : decode (m_code mX8_deliverSome) 65 = .ok (.invokevirtual 112, 3) := by decide +kernel
theorem dX8_deliverSome_68 : decode (m_code mX8_deliverSome) 68 = .ok (.ifCond .ne 6, 3) := by decide +kernel
theorem dX8_deliverSome_71 : decode (m_code mX8_deliverSome) 71 = .ok (.goto 78, 3) := by decide +kernel
theorem dX8_deliverSome_74 : decode (m_code mX8_deliverSome) 74 = .ok (.iload 5, 2) := by decide +kernel
theorem dX8_deliverSome_76 : decode (m_code mX8_deliverSome) 76 = .ok (.invokestatic 189, 3) := by decide +kernel
theorem dX8_deliverSome_79 : decode (m_code mX8_deliverSome) 79 = .ok (.lookupswitch 52 #[(1, 25), (2, 36)], 25) := by decide +kernel
theorem dX8_deliverSome_104 : decode (m_code mX8_deliverSome) 104 = .ok (.aload_n 0, 1) := by decide +kernel
theorem dX8_deliverSome_105 : decode (m_code mX8_deliverSome) 105 = .ok (.iload 6, 2) := by decide +kernel
theorem dX8_deliverSome_107 : decode (m_code mX8_deliverSome) 107 = .ok (.iload 7, 2) := by decide +kernel
theorem dX8_deliverSome_109 : decode (m_code mX8_deliverSome) 109 = .ok (.invokevirtual 192, 3) := by decide +kernel
theorem dX8_deliverSome_112 : decode (m_code mX8_deliverSome) 112 = .ok (.goto 37, 3) := by decide +kernel
theorem dX8_deliverSome_115 : decode (m_code mX8_deliverSome) 115 = .ok (.aload_n 0, 1) := by decide +kernel
theorem dX8_deliverSome_116 : decode (m_code mX8_deliverSome) 116 = .ok (.iload 6, 2) := by decide +kernel
theorem dX8_deliverSome_118 : decode (m_code mX8_deliverSome) 118 = .ok (.iload 5, 2) := by decide +kernel
theorem dX8_deliverSome_120 : decode (m_code mX8_deliverSome) 120 = .ok (.invokestatic 195, 3) := by decide +kernel
theorem dX8_deliverSome_123 : decode (m_code mX8_deliverSome) 123 = .ok (.iload 7, 2) := by decide +kernel
theorem dX8_deliverSome_125 : decode (m_code mX8_deliverSome) 125 = .ok (.invokevirtual 198, 3) := by decide +kernel
theorem dX8_deliverSome_128 : decode (m_code mX8_deliverSome) 128 = .ok (.goto 21, 3) := by decide +kernel
theorem dX8_deliverSome_131 : decode (m_code mX8_deliverSome) 131 = .ok (.aload_n 0, 1) := by decide +kernel
theorem dX8_deliverSome_132 : decode (m_code mX8_deliverSome) 132 = .ok (.iload 6, 2) := by decide +kernel
theorem dX8_deliverSome_134 : decode (m_code mX8_deliverSome) 134 = .ok (.iload 5, 2) := by decide +kernel
theorem dX8_deliverSome_136 : decode (m_code mX8_deliverSome) 136 = .ok (.invokestatic 195, 3) := by decide +kernel
theorem dX8_deliverSome_139 : decode (m_code mX8_deliverSome) 139 = .ok (.iload 7, 2) := by decide +kernel
theorem dX8_deliverSome_141 : decode (m_code mX8_deliverSome) 141 = .ok (.iload 5, 2) := by decide +kernel
theorem dX8_deliverSome_143 : decode (m_code mX8_deliverSome) 143 = .ok (.invokestatic 202, 3) := by decide +kernel
theorem dX8_deliverSome_146 : decode (m_code mX8_deliverSome) 146 = .ok (.invokevirtual 205, 3) := by decide +kernel
theorem dX8_deliverSome_149 : decode (m_code mX8_deliverSome) 149 = .ok (.iinc 4 1, 3) := by decide +kernel
theorem dX8_deliverSome_152 : decode (m_code mX8_deliverSome) 152 = .ok (.goto (-147), 3) := by decide +kernel
theorem dX8_deliverSome_155 : decode (m_code mX8_deliverSome) 155 = .ok (.iload_n 3, 1) := by decide +kernel
theorem dX8_deliverSome_156 : decode (m_code mX8_deliverSome) 156 = .ok (.ireturn, 1) := by decide +kernel
theorem dX8_takeBlock_0 : decode (m_code mX8_takeBlock) 0 = .ok (.aload_n 0, 1) := by decide +kernel
theorem dX8_takeBlock_1 : decode (m_code mX8_takeBlock) 1 = .ok (.getfield 20, 3) := by decide +kernel
theorem dX8_takeBlock_4 : decode (m_code mX8_takeBlock) 4 = .ok (.iload_n 1, 1) := by decide +kernel
theorem dX8_takeBlock_5 : decode (m_code mX8_takeBlock) 5 = .ok (.aaload, 1) := by decide +kernel
theorem dX8_takeBlock_6 : decode (m_code mX8_takeBlock) 6 = .ok (.astore_n 3, 1) := by decide +kernel
theorem dX8_takeBlock_7 : decode (m_code mX8_takeBlock) 7 = .ok (.aload_n 0, 1) := by decide +kernel
theorem dX8_takeBlock_8 : decode (m_code mX8_takeBlock) 8 = .ok (.iconst 1, 1) := by decide +kernel
theorem dX8_takeBlock_9 : decode (m_code mX8_takeBlock) 9 = .ok (.aload_n 0, 1) := by decide +kernel
theorem dX8_takeBlock_10 : decode (m_code mX8_takeBlock) 10 = .ok (.getfield 12, 3) := by decide +kernel
theorem dX8_takeBlock_13 : decode (m_code mX8_takeBlock) 13 = .ok (.getfield 208, 3) := by decide +kernel
theorem dX8_takeBlock_16 : decode (m_code mX8_takeBlock) 16 = .ok (.iload_n 2, 1) := by decide +kernel
theorem dX8_takeBlock_17 : decode (m_code mX8_takeBlock) 17 = .ok (.iaload, 1) := by decide +kernel
theorem dX8_takeBlock_18 : decode (m_code mX8_takeBlock) 18 = .ok (.iload_n 1, 1) := by decide +kernel
theorem dX8_takeBlock_19 : decode (m_code mX8_takeBlock) 19 = .ok (.aload_n 3, 1) := by decide +kernel
theorem dX8_takeBlock_20 : decode (m_code mX8_takeBlock) 20 = .ok (.aload_n 0, 1) := by decide +kernel
theorem dX8_takeBlock_21 : decode (m_code mX8_takeBlock) 21 = .ok (.getfield 12, 3) := by decide +kernel
theorem dX8_takeBlock_24 : decode (m_code mX8_takeBlock) 24 = .ok (.iload_n 2, 1) := by decide +kernel
theorem dX8_takeBlock_25 : decode (m_code mX8_takeBlock) 25 = .ok (.invokevirtual 211, 3) := by decide +kernel
theorem dX8_takeBlock_28 : decode (m_code mX8_takeBlock) 28 = .ok (.iload_n 2, 1) := by decide +kernel
theorem dX8_takeBlock_29 : decode (m_code mX8_takeBlock) 29 = .ok (.invokevirtual 215, 3) := by decide +kernel
theorem dX8_takeBlock_32 : decode (m_code mX8_takeBlock) 32 = .ok (.aload_n 3, 1) := by decide +kernel
theorem dX8_takeBlock_33 : decode (m_code mX8_takeBlock) 33 = .ok (.iload_n 2, 1) := by decide +kernel
theorem dX8_takeBlock_34 : decode (m_code mX8_takeBlock) 34 = .ok (.invokevirtual 218, 3) := by decide +kernel
theorem dX8_takeBlock_37 : decode (m_code mX8_takeBlock) 37 = .ok (.aload_n 0, 1) := by decide +kernel
theorem dX8_takeBlock_38 : decode (m_code mX8_takeBlock) 38 = .ok (.iload_n 1, 1) := by decide +kernel
theorem dX8_takeBlock_39 : decode (m_code mX8_takeBlock) 39 = .ok (.aload_n 0, 1) := by decide +kernel
theorem dX8_takeBlock_40 : decode (m_code mX8_takeBlock) 40 = .ok (.getfield 12, 3) := by decide +kernel
theorem dX8_takeBlock_43 : decode (m_code mX8_takeBlock) 43 = .ok (.getfield 221, 3) := by decide +kernel
theorem dX8_takeBlock_46 : decode (m_code mX8_takeBlock) 46 = .ok (.iload_n 2, 1) := by decide +kernel
theorem dX8_takeBlock_47 : decode (m_code mX8_takeBlock) 47 = .ok (.iaload, 1) := by decide +kernel
theorem dX8_takeBlock_48 : decode (m_code mX8_takeBlock) 48 = .ok (.invokevirtual 173, 3) := by decide +kernel
theorem dX8_takeBlock_51 : decode (m_code mX8_takeBlock) 51 = .ok (.aload_n 3, 1) := by decide +kernel
theorem dX8_takeBlock_52 : decode (m_code mX8_takeBlock) 52 = .ok (.aload_n 0, 1) := by decide +kernel
theorem dX8_takeBlock_53 : decode (m_code mX8_takeBlock) 53 = .ok (.aload_n 3, 1) := by decide +kernel
theorem dX8_takeBlock_54 : decode (m_code mX8_takeBlock) 54 = .ok (.iload_n 2, 1) := by decide +kernel
theorem dX8_takeBlock_55 : decode (m_code mX8_takeBlock) 55 = .ok (.invokevirtual 224, 3) := by decide +kernel
theorem dX8_takeBlock_58 : decode (m_code mX8_takeBlock) 58 = .ok (.putfield 115, 3) := by decide +kernel
theorem dX8_takeBlock_61 : decode (m_code mX8_takeBlock) 61 = .ok (.aload_n 0, 1) := by decide +kernel
theorem dX8_takeBlock_62 : decode (m_code mX8_takeBlock) 62 = .ok (.aload_n 3, 1) := by decide +kernel
theorem dX8_takeBlock_63 : decode (m_code mX8_takeBlock) 63 = .ok (.iload_n 2, 1) := by decide +kernel
theorem dX8_takeBlock_64 : decode (m_code mX8_takeBlock) 64 = .ok (.aload_n 3, 1) := by decide +kernel
theorem dX8_takeBlock_65 : decode (m_code mX8_takeBlock) 65 = .ok (.getfield 115, 3) := by decide +kernel
theorem dX8_takeBlock_68 : decode (m_code mX8_takeBlock) 68 = .ok (.invokevirtual 228, 3) := by decide +kernel
theorem dX8_takeBlock_71 : decode (m_code mX8_takeBlock) 71 = .ok (.ifCond .ne 4, 3) := by decide +kernel
theorem dX8_takeBlock_74 : decode (m_code mX8_takeBlock) 74 = .ok (.return_, 1) := by decide +kernel
theorem dX8_takeBlock_75 : decode (m_code mX8_takeBlock) 75 = .ok (.aload_n 0, 1) := by decide +kernel
theorem dX8_takeBlock_76 : decode (m_code mX8_takeBlock) 76 = .ok (.iload_n 2, 1) := by decide +kernel
theorem dX8_takeBlock_77 : decode (m_code mX8_takeBlock) 77 = .ok (.aload_n 3, 1) := by decide +kernel
theorem dX8_takeBlock_78 : decode (m_code mX8_takeBlock) 78 = .ok (.getfield 232, 3) := by decide +kernel
theorem dX8_takeBlock_81 : decode (m_code mX8_takeBlock) 81 = .ok (.invokevirtual 235, 3) := by decide +kernel
theorem dX8_takeBlock_84 : decode (m_code mX8_takeBlock) 84 = .ok (.ifCond .ne 16, 3) := by decide +kernel
theorem dX8_takeBlock_87 : decode (m_code mX8_takeBlock) 87 = .ok (.aload_n 0, 1) := by decide +kernel
theorem dX8_takeBlock_88 : decode (m_code mX8_takeBlock) 88 = .ok (.getfield 40, 3) := by decide +kernel
theorem dX8_takeBlock_91 : decode (m_code mX8_takeBlock) 91 = .ok (.iconst 1, 1) := by decide +kernel
theorem dX8_takeBlock_92 : decode (m_code mX8_takeBlock) 92 = .ok (.iload_n 1, 1) := by decide +kernel
theorem dX8_takeBlock_93 : decode (m_code mX8_takeBlock) 93 = .ok (.iload_n 2, 1) := by decide +kernel
theorem dX8_takeBlock_94 : decode (m_code mX8_takeBlock) 94 = .ok (.iconst (-1), 1) := by decide +kernel
theorem dX8_takeBlock_95 : decode (m_code mX8_takeBlock) 95 = .ok (.iconst (-1), 1) := by decide +kernel
theorem dX8_takeBlock_96 : decode (m_code mX8_takeBlock) 96 = .ok (.invokevirtual 239, 3) := by decide +kernel
theorem dX8_takeBlock_99 : decode (m_code mX8_takeBlock) 99 = .ok (.return_, 1) := by decide +kernel
theorem dX8_takeBlock_100 : decode (m_code mX8_takeBlock) 100 = .ok (.aload_n 3, 1) := by decide +kernel
theorem dX8_takeBlock_101 : decode (m_code mX8_takeBlock) 101 = .ok (.aload_n 3, 1) := by decide +kernel
theorem dX8_takeBlock_102 : decode (m_code mX8_takeBlock) 102 = .ok (.getfield 115, 3) := by decide +kernel
theorem dX8_takeBlock_105 : decode (m_code mX8_takeBlock) 105 = .ok (.putfield 143, 3) := by decide +kernel
theorem dX8_takeBlock_108 : decode (m_code mX8_takeBlock) 108 = .ok (.aload_n 0, 1) := by decide +kernel
theorem dX8_takeBlock_109 : decode (m_code mX8_takeBlock) 109 = .ok (.getfield 40, 3) := by decide +kernel
theorem dX8_takeBlock_112 : decode (m_code mX8_takeBlock) 112 = .ok (.iconst 0, 1) := by decide +kernel
theorem dX8_takeBlock_113 : decode (m_code mX8_takeBlock) 113 = .ok (.iload_n 1, 1) := by decide +kernel
theorem dX8_takeBlock_114 : decode (m_code mX8_takeBlock) 114 = .ok (.iload_n 2, 1) := by decide +kernel
theorem dX8_takeBlock_115 : decode (m_code mX8_takeBlock) 115 = .ok (.iconst (-1), 1) := by decide +kernel
theorem dX8_takeBlock_116 : decode (m_code mX8_takeBlock) 116 = .ok (.iconst (-1), 1) := by decide +kernel
theorem dX8_takeBlock_117 : decode (m_code mX8_takeBlock) 117 = .ok (.invokevirtual 239, 3) := by decide +kernel
theorem dX8_takeBlock_120 : decode (m_code mX8_takeBlock) 120 = .ok (.aload_n 0, 1) := by decide +kernel
theorem dX8_takeBlock_121 : decode (m_code mX8_takeBlock) 121 = .ok (.iload_n 1, 1) := by decide +kernel
theorem dX8_takeBlock_122 : decode (m_code mX8_takeBlock) 122 = .ok (.iload_n 2, 1) := by decide +kernel
theorem dX8_takeBlock_123 : decode (m_code mX8_takeBlock) 123 = .ok (.invokevirtual 169, 3) := by decide +kernel
theorem dX8_takeBlock_126 : decode (m_code mX8_takeBlock) 126 = .ok (.return_, 1) := by decide +kernel
theorem dX8_takeMark_0 : decode (m_code mX8_takeMark) 0 = .ok (.aload_n 0, 1) := by decide +kernel
theorem dX8_takeMark_1 : decode (m_code mX8_takeMark) 1 = .ok (.getfield 20, 3) := by decide +kernel
theorem dX8_takeMark_4 : decode (m_code mX8_takeMark) 4 = .ok (.iload_n 1, 1) := by decide +kernel
theorem dX8_takeMark_5 : decode (m_code mX8_takeMark) 5 = .ok (.aaload, 1) := by decide +kernel
theorem dX8_takeMark_6 : decode (m_code mX8_takeMark) 6 = .ok (.astore 4, 2) := by decide +kernel
theorem dX8_takeMark_8 : decode (m_code mX8_takeMark) 8 = .ok (.aload_n 0, 1) := by decide +kernel
theorem dX8_takeMark_9 : decode (m_code mX8_takeMark) 9 = .ok (.getfield 12, 3) := by decide +kernel
theorem dX8_takeMark_12 : decode (m_code mX8_takeMark) 12 = .ok (.getfield 105, 3) := by decide +kernel
theorem dX8_takeMark_15 : decode (m_code mX8_takeMark) 15 = .ok (.iload_n 3, 1) := by decide +kernel
theorem dX8_takeMark_16 : decode (m_code mX8_takeMark) 16 = .ok (.iaload, 1) := by decide +kernel
theorem dX8_takeMark_17 : decode (m_code mX8_takeMark) 17 = .ok (.istore 5, 2) := by decide +kernel
theorem dX8_takeMark_19 : decode (m_code mX8_takeMark) 19 = .ok (.aload 4, 2) := by decide +kernel
theorem dX8_takeMark_21 : decode (m_code mX8_takeMark) 21 = .ok (.getfield 241, 3) := by decide +kernel
theorem dX8_takeMark_24 : decode (m_code mX8_takeMark) 24 = .ok (.iload_n 3, 1) := by decide +kernel
theorem dX8_takeMark_25 : decode (m_code mX8_takeMark) 25 = .ok (.iaload, 1) := by decide +kernel
theorem dX8_takeMark_26 : decode (m_code mX8_takeMark) 26 = .ok (.iload_n 2, 1) := by decide +kernel
theorem dX8_takeMark_27 : decode (m_code mX8_takeMark) 27 = .ok (.ishr, 1) := by decide +kernel
theorem dX8_takeMark_28 : decode (m_code mX8_takeMark) 28 = .ok (.iconst 1, 1) := by decide +kernel
theorem dX8_takeMark_29 : decode (m_code mX8_takeMark) 29 = .ok (.iand, 1) := by decide +kernel
theorem dX8_takeMark_30 : decode (m_code mX8_takeMark) 30 = .ok (.iconst 1, 1) := by decide +kernel
theorem dX8_takeMark_31 : decode (m_code mX8_takeMark) 31 = .ok (.if_icmp .ne 7, 3) := by decide +kernel
theorem dX8_takeMark_34 : decode (m_code mX8_takeMark) 34 = .ok (.iconst 1, 1) := by decide +kernel
theorem dX8_takeMark_35 : decode (m_code mX8_takeMark) 35 = .ok (.goto 4, 3) := by decide +kernel
theorem dX8_takeMark_38 : decode (m_code mX8_takeMark) 38 = .ok (.iconst 0, 1) := by decide +kernel
theorem dX8_takeMark_39 : decode (m_code mX8_takeMark) 39 = .ok (.istore 6, 2) := by decide +kernel
theorem dX8_takeMark_41 : decode (m_code mX8_takeMark) 41 = .ok (.iload 6, 2) := by decide +kernel
theorem dX8_takeMark_43 : decode (m_code mX8_takeMark) 43 = .ok (.ifCond .ne 15, 3) := by decide +kernel
theorem dX8_takeMark_46 : decode (m_code mX8_takeMark) 46 = .ok (.aload_n 0, 1) := by decide +kernel
theorem dX8_takeMark_47 : decode (m_code mX8_takeMark) 47 = .ok (.iload 5, 2) := by decide +kernel
theorem dX8_takeMark_49 : decode (m_code mX8_takeMark) 49 = .ok (.iconst 1, 1) := by decide +kernel
theorem dX8_takeMark_50 : decode (m_code mX8_takeMark) 50 = .ok (.iadd, 1) := by decide +kernel
theorem dX8_takeMark_51 : decode (m_code mX8_takeMark) 51 = .ok (.invokevirtual 108, 3) := by decide +kernel
theorem dX8_takeMark_54 : decode (m_code mX8_takeMark) 54 = .ok (.iload_n 1, 1) := by decide +kernel
theorem dX8_takeMark_55 : decode (m_code mX8_takeMark) 55 = .ok (.if_icmp .eq 4, 3) := by decide +kernel
theorem dX8_takeMark_58 : decode (m_code mX8_takeMark) 58 = .ok (.return_, 1) := by decide +kernel
theorem dX8_takeMark_59 : decode (m_code mX8_takeMark) 59 = .ok (.aload_n 0, 1) := by decide +kernel
theorem dX8_takeMark_60 : decode (m_code mX8_takeMark) 60 = .ok (.iconst 2, 1) := by decide +kernel
theorem dX8_takeMark_61 : decode (m_code mX8_takeMark) 61 = .ok (.iload_n 2, 1) := by decide +kernel
theorem dX8_takeMark_62 : decode (m_code mX8_takeMark) 62 = .ok (.iload_n 1, 1) := by decide +kernel
theorem dX8_takeMark_63 : decode (m_code mX8_takeMark) 63 = .ok (.aload 4, 2) := by decide +kernel
theorem dX8_takeMark_65 : decode (m_code mX8_takeMark) 65 = .ok (.aload_n 0, 1) := by decide +kernel
theorem dX8_takeMark_66 : decode (m_code mX8_takeMark) 66 = .ok (.getfield 12, 3) := by decide +kernel
theorem dX8_takeMark_69 : decode (m_code mX8_takeMark) 69 = .ok (.iload_n 2, 1) := by decide +kernel
theorem dX8_takeMark_70 : decode (m_code mX8_takeMark) 70 = .ok (.iload_n 3, 1) := by decide +kernel
theorem dX8_takeMark_71 : decode (m_code mX8_takeMark) 71 = .ok (.invokevirtual 244, 3) := by decide +kernel
theorem dX8_takeMark_74 : decode (m_code mX8_takeMark) 74 = .ok (.iload_n 3, 1) := by decide +kernel
theorem dX8_takeMark_75 : decode (m_code mX8_takeMark) 75 = .ok (.invokevirtual 215, 3) := by decide +kernel
theorem dX8_takeMark_78 : decode (m_code mX8_takeMark) 78 = .ok (.aload 4, 2) := by decide +kernel
theorem dX8_takeMark_80 : decode (m_code mX8_takeMark) 80 = .ok (.getfield 241, 3) := by decide +kernel
theorem dX8_takeMark_83 : decode (m_code mX8_takeMark) 83 = .ok (.iload_n 3, 1) := by decide +kernel
theorem dX8_takeMark_84 : decode (m_code mX8_takeMark) 84 = .ok (.dup2, 1) := by decide +kernel
theorem dX8_takeMark_85 : decode (m_code mX8_takeMark) 85 = .ok (.iaload, 1) := by decide +kernel
theorem dX8_takeMark_86 : decode (m_code mX8_takeMark) 86 = .ok (.iconst 1, 1) := by decide +kernel
theorem dX8_takeMark_87 : decode (m_code mX8_takeMark) 87 = .ok (.iload_n 2, 1) := by decide +kernel
theorem dX8_takeMark_88 : decode (m_code mX8_takeMark) 88 = .ok (.ishl, 1) := by decide +kernel
theorem dX8_takeMark_89 : decode (m_code mX8_takeMark) 89 = .ok (.ior, 1) := by decide +kernel
theorem dX8_takeMark_90 : decode (m_code mX8_takeMark) 90 = .ok (.iastore, 1) := by decide +kernel
theorem dX8_takeMark_91 : decode (m_code mX8_takeMark) 91 = .ok (.aload 4, 2) := by decide +kernel
theorem dX8_takeMark_93 : decode (m_code mX8_takeMark) 93 = .ok (.getfield 241, 3) := by decide +kernel
theorem dX8_takeMark_96 : decode (m_code mX8_takeMark) 96 = .ok (.iload_n 3, 1) := by decide +kernel
theorem dX8_takeMark_97 : decode (m_code mX8_takeMark) 97 = .ok (.iaload, 1) := by decide +kernel
theorem dX8_takeMark_98 : decode (m_code mX8_takeMark) 98 = .ok (.invokestatic 248, 3) := by decide +kernel
theorem dX8_takeMark_101 : decode (m_code mX8_takeMark) 101 = .ok (.aload_n 0, 1) := by decide +kernel
theorem dX8_takeMark_102 : decode (m_code mX8_takeMark) 102 = .ok (.invokevirtual 253, 3) := by decide +kernel
theorem dX8_takeMark_105 : decode (m_code mX8_takeMark) 105 = .ok (.if_icmp .eq 4, 3) := by decide +kernel
theorem dX8_takeMark_108 : decode (m_code mX8_takeMark) 108 = .ok (.return_, 1) := by decide +kernel
theorem dX8_takeMark_109 : decode (m_code mX8_takeMark) 109 = .ok (.aload_n 0, 1) := by decide +kernel
theorem dX8_takeMark_110 : decode (m_code mX8_takeMark) 110 = .ok (.getfield 12, 3) := by decide +kernel
theorem dX8_takeMark_113 : decode (m_code mX8_takeMark) 113 = .ok (.getfield 256, 3) := by decide +kernel
theorem dX8_takeMark_116 : decode (m_code mX8_takeMark) 116 = .ok (.iload_n 3, 1) := by decide +kernel
theorem dX8_takeMark_117 : decode (m_code mX8_takeMark) 117 = .ok (.iconst 1, 1) := by decide +kernel
theorem dX8_takeMark_118 : decode (m_code mX8_takeMark) 118 = .ok (.iastore, 1) := by decide +kernel
theorem dX8_takeMark_119 : decode (m_code mX8_takeMark) 119 = .ok (.aload_n 0, 1) := by decide +kernel
theorem dX8_takeMark_120 : decode (m_code mX8_takeMark) 120 = .ok (.getfield 40, 3) := by decide +kernel
theorem dX8_takeMark_123 : decode (m_code mX8_takeMark) 123 = .ok (.iconst 2, 1) := by decide +kernel
theorem dX8_takeMark_124 : decode (m_code mX8_takeMark) 124 = .ok (.iload_n 1, 1) := by decide +kernel
theorem dX8_takeMark_125 : decode (m_code mX8_takeMark) 125 = .ok (.iload_n 3, 1) := by decide +kernel
theorem dX8_takeMark_126 : decode (m_code mX8_takeMark) 126 = .ok (.iconst (-1), 1) := by decide +kernel
theorem dX8_takeMark_127 : decode (m_code mX8_takeMark) 127 = .ok (.iconst (-1), 1) := by decide +kernel
theorem dX8_takeMark_128 : decode (m_code mX8_takeMark) 128 = .ok (.invokevirtual 239, 3) := by decide +kernel
theorem dX8_takeMark_131 : decode (m_code mX8_takeMark) 131 = .ok (.aload_n 0, 1) := by decide +kernel
theorem dX8_takeMark_132 : decode (m_code mX8_takeMark) 132 = .ok (.iload_n 1, 1) := by decide +kernel
theorem dX8_takeMark_133 : decode (m_code mX8_takeMark) 133 = .ok (.iload_n 3, 1) := by decide +kernel
theorem dX8_takeMark_134 : decode (m_code mX8_takeMark) 134 = .ok (.invokevirtual 173, 3) := by decide +kernel
theorem dX8_takeMark_137 : decode (m_code mX8_takeMark) 137 = .ok (.aload 4, 2) := by decide +kernel
theorem dX8_takeMark_139 : decode (m_code mX8_takeMark) 139 = .ok (.aload 4, 2) := by decide +kernel
theorem dX8_takeMark_141 : decode (m_code mX8_takeMark) 141 = .ok (.getfield 115, 3) := by decide +kernel
theorem dX8_takeMark_144 : decode (m_code mX8_takeMark) 144 = .ok (.iload 5, 2) := by decide +kernel
theorem dX8_takeMark_146 : decode (m_code mX8_takeMark) 146 = .ok (.iconst 1, 1) := by decide +kernel
theorem dX8_takeMark_147 : decode (m_code mX8_takeMark) 147 = .ok (.iadd, 1) := by decide +kernel
theorem dX8_takeMark_148 : decode (m_code mX8_takeMark) 148 = .ok (.invokestatic 146, 3) := by decide +kernel
theorem dX8_takeMark_151 : decode (m_code mX8_takeMark) 151 = .ok (.putfield 115, 3) := by decide +kernel
theorem dX8_takeMark_154 : decode (m_code mX8_takeMark) 154 = .ok (.return_, 1) := by decide +kernel
theorem dX8_takeTimeout_0 : decode (m_code mX8_takeTimeout) 0 = .ok (.aload_n 0, 1) := by decide +kernel
theorem dX8_takeTimeout_1 : decode (m_code mX8_takeTimeout) 1 = .ok (.getfield 20, 3) := by decide +kernel
theorem dX8_takeTimeout_4 : decode (m_code mX8_takeTimeout) 4 = .ok (.iload_n 1, 1) := by decide +kernel
theorem dX8_takeTimeout_5 : decode (m_code mX8_takeTimeout) 5 = .ok (.aaload, 1) := by decide +kernel
theorem dX8_takeTimeout_6 : decode (m_code mX8_takeTimeout) 6 = .ok (.astore 5, 2) := by decide +kernel
theorem dX8_takeTimeout_8 : decode (m_code mX8_takeTimeout) 8 = .ok (.aload_n 0, 1) := by decide +kernel
theorem dX8_takeTimeout_9 : decode (m_code mX8_takeTimeout) 9 = .ok (.iload_n 1, 1) := by decide +kernel
theorem dX8_takeTimeout_10 : decode (m_code mX8_takeTimeout) 10 = .ok (.iload 4, 2) := by decide +kernel
theorem dX8_takeTimeout_12 : decode (m_code mX8_takeTimeout) 12 = .ok (.invokevirtual 173, 3) := by decide +kernel
theorem dX8_takeTimeout_15 : decode (m_code mX8_takeTimeout) 15 = .ok (.aload 5, 2) := by decide +kernel
theorem dX8_takeTimeout_17 : decode (m_code mX8_takeTimeout) 17 = .ok (.getfield 259, 3) := by decide +kernel
theorem dX8_takeTimeout_20 : decode (m_code mX8_takeTimeout) 20 = .ok (.iload_n 3, 1) := by decide +kernel
theorem dX8_takeTimeout_21 : decode (m_code mX8_takeTimeout) 21 = .ok (.iaload, 1) := by decide +kernel
theorem dX8_takeTimeout_22 : decode (m_code mX8_takeTimeout) 22 = .ok (.iload_n 2, 1) := by decide +kernel
theorem dX8_takeTimeout_23 : decode (m_code mX8_takeTimeout) 23 = .ok (.ishr, 1) := by decide +kernel
theorem dX8_takeTimeout_24 : decode (m_code mX8_takeTimeout) 24 = .ok (.iconst 1, 1) := by decide +kernel
theorem dX8_takeTimeout_25 : decode (m_code mX8_takeTimeout) 25 = .ok (.iand, 1) := by decide +kernel
theorem dX8_takeTimeout_26 : decode (m_code mX8_takeTimeout) 26 = .ok (.iconst 1, 1) := by decide +kernel
theorem dX8_takeTimeout_27 : decode (m_code mX8_takeTimeout) 27 = .ok (.if_icmp .ne 4, 3) := by decide +kernel
theorem dX8_takeTimeout_30 : decode (m_code mX8_takeTimeout) 30 = .ok (.return_, 1) := by decide +kernel
theorem dX8_takeTimeout_31 : decode (m_code mX8_takeTimeout) 31 = .ok (.aload 5, 2) := by decide +kernel
theorem dX8_takeTimeout_33 : decode (m_code mX8_takeTimeout) 33 = .ok (.getfield 259, 3) := by decide +kernel
theorem dX8_takeTimeout_36 : decode (m_code mX8_takeTimeout) 36 = .ok (.iload_n 3, 1) := by decide +kernel
theorem dX8_takeTimeout_37 : decode (m_code mX8_takeTimeout) 37 = .ok (.dup2, 1) := by decide +kernel
theorem dX8_takeTimeout_38 : decode (m_code mX8_takeTimeout) 38 = .ok (.iaload, 1) := by decide +kernel
theorem dX8_takeTimeout_39 : decode (m_code mX8_takeTimeout) 39 = .ok (.iconst 1, 1) := by decide +kernel
theorem dX8_takeTimeout_40 : decode (m_code mX8_takeTimeout) 40 = .ok (.iload_n 2, 1) := by decide +kernel
theorem dX8_takeTimeout_41 : decode (m_code mX8_takeTimeout) 41 = .ok (.ishl, 1) := by decide +kernel
theorem dX8_takeTimeout_42 : decode (m_code mX8_takeTimeout) 42 = .ok (.ior, 1) := by decide +kernel
theorem dX8_takeTimeout_43 : decode (m_code mX8_takeTimeout) 43 = .ok (.iastore, 1) := by decide +kernel
theorem dX8_takeTimeout_44 : decode (m_code mX8_takeTimeout) 44 = .ok (.aload 5, 2) := by decide +kernel
theorem dX8_takeTimeout_46 : decode (m_code mX8_takeTimeout) 46 = .ok (.getfield 259, 3) := by decide +kernel
theorem dX8_takeTimeout_49 : decode (m_code mX8_takeTimeout) 49 = .ok (.iload_n 3, 1) := by decide +kernel
theorem dX8_takeTimeout_50 : decode (m_code mX8_takeTimeout) 50 = .ok (.iaload, 1) := by decide +kernel
theorem dX8_takeTimeout_51 : decode (m_code mX8_takeTimeout) 51 = .ok (.invokestatic 248, 3) := by decide +kernel
theorem dX8_takeTimeout_54 : decode (m_code mX8_takeTimeout) 54 = .ok (.aload_n 0, 1) := by decide +kernel
theorem dX8_takeTimeout_55 : decode (m_code mX8_takeTimeout) 55 = .ok (.invokevirtual 253, 3) := by decide +kernel
theorem dX8_takeTimeout_58 : decode (m_code mX8_takeTimeout) 58 = .ok (.if_icmp .eq 4, 3) := by decide +kernel
theorem dX8_takeTimeout_61 : decode (m_code mX8_takeTimeout) 61 = .ok (.return_, 1) := by decide +kernel
theorem dX8_takeTimeout_62 : decode (m_code mX8_takeTimeout) 62 = .ok (.iload_n 3, 1) := by decide +kernel
theorem dX8_takeTimeout_63 : decode (m_code mX8_takeTimeout) 63 = .ok (.aload 5, 2) := by decide +kernel
theorem dX8_takeTimeout_65 : decode (m_code mX8_takeTimeout) 65 = .ok (.getfield 123, 3) := by decide +kernel
theorem dX8_takeTimeout_68 : decode (m_code mX8_takeTimeout) 68 = .ok (.if_icmp .le 21, 3) := by decide +kernel
theorem dX8_takeTimeout_71 : decode (m_code mX8_takeTimeout) 71 = .ok (.aload 5, 2) := by decide +kernel
theorem dX8_takeTimeout_73 : decode (m_code mX8_takeTimeout) 73 = .ok (.iload_n 3, 1) := by decide +kernel
theorem dX8_takeTimeout_74 : decode (m_code mX8_takeTimeout) 74 = .ok (.putfield 123, 3) := by decide +kernel
theorem dX8_takeTimeout_77 : decode (m_code mX8_takeTimeout) 77 = .ok (.aload_n 0, 1) := by decide +kernel
theorem dX8_takeTimeout_78 : decode (m_code mX8_takeTimeout) 78 = .ok (.getfield 40, 3) := by decide +kernel
theorem dX8_takeTimeout_81 : decode (m_code mX8_takeTimeout) 81 = .ok (.iconst 5, 1) := by decide +kernel
theorem dX8_takeTimeout_82 : decode (m_code mX8_takeTimeout) 82 = .ok (.iload_n 1, 1) := by decide +kernel
theorem dX8_takeTimeout_83 : decode (m_code mX8_takeTimeout) 83 = .ok (.iload_n 3, 1) := by decide +kernel
theorem dX8_takeTimeout_84 : decode (m_code mX8_takeTimeout) 84 = .ok (.iconst (-1), 1) := by decide +kernel
theorem dX8_takeTimeout_85 : decode (m_code mX8_takeTimeout) 85 = .ok (.iconst (-1), 1) := by decide +kernel
theorem dX8_takeTimeout_86 : decode (m_code mX8_takeTimeout) 86 = .ok (.invokevirtual 239, 3) := by decide +kernel
theorem dX8_takeTimeout_89 : decode (m_code mX8_takeTimeout) 89 = .ok (.aload 5, 2) := by decide +kernel
theorem dX8_takeTimeout_91 : decode (m_code mX8_takeTimeout) 91 = .ok (.aload 5, 2) := by decide +kernel
theorem dX8_takeTimeout_93 : decode (m_code mX8_takeTimeout) 93 = .ok (.getfield 115, 3) := by decide +kernel
theorem dX8_takeTimeout_96 : decode (m_code mX8_takeTimeout) 96 = .ok (.iload_n 3, 1) := by decide +kernel
theorem dX8_takeTimeout_97 : decode (m_code mX8_takeTimeout) 97 = .ok (.iconst 1, 1) := by decide +kernel
theorem dX8_takeTimeout_98 : decode (m_code mX8_takeTimeout) 98 = .ok (.iadd, 1) := by decide +kernel
theorem dX8_takeTimeout_99 : decode (m_code mX8_takeTimeout) 99 = .ok (.invokestatic 146, 3) := by decide +kernel
theorem dX8_takeTimeout_102 : decode (m_code mX8_takeTimeout) 102 = .ok (.putfield 115, 3) := by decide +kernel
theorem dX8_takeTimeout_105 : decode (m_code mX8_takeTimeout) 105 = .ok (.return_, 1) := by decide +kernel
theorem dX8_learn_0 : decode (m_code mX8_learn) 0 = .ok (.aload_n 0, 1) := by decide +kernel
theorem dX8_learn_1 : decode (m_code mX8_learn) 1 = .ok (.getfield 20, 3) := by decide +kernel
theorem dX8_learn_4 : decode (m_code mX8_learn) 4 = .ok (.iload_n 1, 1) := by decide +kernel
theorem dX8_learn_5 : decode (m_code mX8_learn) 5 = .ok (.aaload, 1) := by decide +kernel
theorem dX8_learn_6 : decode (m_code mX8_learn) 6 = .ok (.astore_n 3, 1) := by decide +kernel
theorem dX8_learn_7 : decode (m_code mX8_learn) 7 = .ok (.aload_n 0, 1) := by decide +kernel
theorem dX8_learn_8 : decode (m_code mX8_learn) 8 = .ok (.getfield 12, 3) := by decide +kernel
theorem dX8_learn_11 : decode (m_code mX8_learn) 11 = .ok (.getfield 105, 3) := by decide +kernel
theorem dX8_learn_14 : decode (m_code mX8_learn) 14 = .ok (.iload_n 2, 1) := by decide +kernel
theorem dX8_learn_15 : decode (m_code mX8_learn) 15 = .ok (.iaload, 1) := by decide +kernel
theorem dX8_learn_16 : decode (m_code mX8_learn) 16 = .ok (.aload_n 0, 1) := by decide +kernel
theorem dX8_learn_17 : decode (m_code mX8_learn) 17 = .ok (.getfield 12, 3) := by decide +kernel
theorem dX8_learn_20 : decode (m_code mX8_learn) 20 = .ok (.getfield 105, 3) := by decide +kernel
theorem dX8_learn_23 : decode (m_code mX8_learn) 23 = .ok (.aload_n 3, 1) := by decide +kernel
theorem dX8_learn_24 : decode (m_code mX8_learn) 24 = .ok (.getfield 120, 3) := by decide +kernel
theorem dX8_learn_27 : decode (m_code mX8_learn) 27 = .ok (.iaload, 1) := by decide +kernel
theorem dX8_learn_28 : decode (m_code mX8_learn) 28 = .ok (.if_icmp .le 8, 3) := by decide +kernel
theorem dX8_learn_31 : decode (m_code mX8_learn) 31 = .ok (.aload_n 3, 1) := by decide +kernel
theorem dX8_learn_32 : decode (m_code mX8_learn) 32 = .ok (.iload_n 2, 1) := by decide +kernel
theorem dX8_learn_33 : decode (m_code mX8_learn) 33 = .ok (.putfield 120, 3) := by decide +kernel
theorem dX8_learn_36 : decode (m_code mX8_learn) 36 = .ok (.aload_n 3, 1) := by decide +kernel
theorem dX8_learn_37 : decode (m_code mX8_learn) 37 = .ok (.aload_n 0, 1) := by decide +kernel
theorem dX8_learn_38 : decode (m_code mX8_learn) 38 = .ok (.aload_n 3, 1) := by decide +kernel
theorem dX8_learn_39 : decode (m_code mX8_learn) 39 = .ok (.iload_n 2, 1) := by decide +kernel
theorem dX8_learn_40 : decode (m_code mX8_learn) 40 = .ok (.invokevirtual 262, 3) := by decide +kernel
theorem dX8_learn_43 : decode (m_code mX8_learn) 43 = .ok (.putfield 232, 3) := by decide +kernel
theorem dX8_learn_46 : decode (m_code mX8_learn) 46 = .ok (.aload_n 0, 1) := by decide +kernel
theorem dX8_learn_47 : decode (m_code mX8_learn) 47 = .ok (.getfield 12, 3) := by decide +kernel
theorem dX8_learn_50 : decode (m_code mX8_learn) 50 = .ok (.iload_n 2, 1) := by decide +kernel
theorem dX8_learn_51 : decode (m_code mX8_learn) 51 = .ok (.invokevirtual 265, 3) := by decide +kernel
theorem dX8_learn_54 : decode (m_code mX8_learn) 54 = .ok (.istore 4, 2) := by decide +kernel
theorem dX8_learn_56 : decode (m_code mX8_learn) 56 = .ok (.iload 4, 2) := by decide +kernel
theorem dX8_learn_58 : decode (m_code mX8_learn) 58 = .ok (.ifCond .eq 10, 3) := by decide +kernel
theorem dX8_learn_61 : decode (m_code mX8_learn) 61 = .ok (.aload_n 0, 1) := by decide +kernel
theorem dX8_learn_62 : decode (m_code mX8_learn) 62 = .ok (.iload_n 1, 1) := by decide +kernel
theorem dX8_learn_63 : decode (m_code mX8_learn) 63 = .ok (.iload 4, 2) := by decide +kernel
theorem dX8_learn_65 : decode (m_code mX8_learn) 65 = .ok (.invokevirtual 268, 3) := by decide +kernel
theorem dX8_learn_68 : decode (m_code mX8_learn) 68 = .ok (.return_, 1) := by decide +kernel
theorem dX8_commit_0 : decode (m_code mX8_commit) 0 = .ok (.aload_n 0, 1) := by decide +kernel
theorem dX8_commit_1 : decode (m_code mX8_commit) 1 = .ok (.getfield 20, 3) := by decide +kernel
theorem dX8_commit_4 : decode (m_code mX8_commit) 4 = .ok (.iload_n 1, 1) := by decide +kernel
theorem dX8_commit_5 : decode (m_code mX8_commit) 5 = .ok (.aaload, 1) := by decide +kernel
theorem dX8_commit_6 : decode (m_code mX8_commit) 6 = .ok (.astore_n 3, 1) := by decide +kernel
theorem dX8_commit_7 : decode (m_code mX8_commit) 7 = .ok (.aload_n 3, 1) := by decide +kernel
theorem dX8_commit_8 : decode (m_code mX8_commit) 8 = .ok (.invokevirtual 271, 3) := by decide +kernel
theorem dX8_commit_11 : decode (m_code mX8_commit) 11 = .ok (.istore 4, 2) := by decide +kernel
theorem dX8_commit_13 : decode (m_code mX8_commit) 13 = .ok (.aload_n 0, 1) := by decide +kernel
theorem dX8_commit_14 : decode (m_code mX8_commit) 14 = .ok (.getfield 12, 3) := by decide +kernel
theorem dX8_commit_17 : decode (m_code mX8_commit) 17 = .ok (.iload_n 2, 1) := by decide +kernel
theorem dX8_commit_18 : decode (m_code mX8_commit) 18 = .ok (.iload 4, 2) := by decide +kernel
theorem dX8_commit_20 : decode (m_code mX8_commit) 20 = .ok (.invokevirtual 274, 3) := by decide +kernel
theorem dX8_commit_23 : decode (m_code mX8_commit) 23 = .ok (.ifCond .ne 39, 3) := by decide +kernel
theorem dX8_commit_26 : decode (m_code mX8_commit) 26 = .ok (.aload_n 0, 1) := by decide +kernel
theorem dX8_commit_27 : decode (m_code mX8_commit) 27 = .ok (.getfield 12, 3) := by decide +kernel
theorem dX8_commit_30 : decode (m_code mX8_commit) 30 = .ok (.iload 4, 2) := by decide +kernel
theorem dX8_commit_32 : decode (m_code mX8_commit) 32 = .ok (.iload_n 2, 1) := by decide +kernel
theorem dX8_commit_33 : decode (m_code mX8_commit) 33 = .ok (.invokevirtual 274, 3) := by decide +kernel
theorem dX8_commit_36 : decode (m_code mX8_commit) 36 = .ok (.ifCond .ne 25, 3) := by decide +kernel
theorem dX8_commit_39 : decode (m_code mX8_commit) 39 = .ok (.aload_n 3, 1) := by decide +kernel
theorem dX8_commit_40 : decode (m_code mX8_commit) 40 = .ok (.dup, 1) := by decide +kernel
theorem dX8_commit_41 : decode (m_code mX8_commit) 41 = .ok (.getfield 277, 3) := by decide +kernel
theorem dX8_commit_44 : decode (m_code mX8_commit) 44 = .ok (.iconst 1, 1) := by decide +kernel
theorem dX8_commit_45 : decode (m_code mX8_commit) 45 = .ok (.iadd, 1) := by decide +kernel
theorem dX8_commit_46 : decode (m_code mX8_commit) 46 = .ok (.putfield 277, 3) := by decide +kernel
theorem dX8_commit_49 : decode (m_code mX8_commit) 49 = .ok (.aload_n 0, 1) := by decide +kernel
theorem dX8_commit_50 : decode (m_code mX8_commit) 50 = .ok (.getfield 40, 3) := by decide +kernel
theorem dX8_commit_53 : decode (m_code mX8_commit) 53 = .ok (.iconst 4, 1) := by decide +kernel
theorem dX8_commit_54 : decode (m_code mX8_commit) 54 = .ok (.iload_n 1, 1) := by decide +kernel
theorem dX8_commit_55 : decode (m_code mX8_commit) 55 = .ok (.iload_n 2, 1) := by decide +kernel
theorem dX8_commit_56 : decode (m_code mX8_commit) 56 = .ok (.iconst (-1), 1) := by decide +kernel
theorem dX8_commit_57 : decode (m_code mX8_commit) 57 = .ok (.iconst (-1), 1) := by decide +kernel
theorem dX8_commit_58 : decode (m_code mX8_commit) 58 = .ok (.invokevirtual 239, 3) := by decide +kernel
theorem dX8_commit_61 : decode (m_code mX8_commit) 61 = .ok (.return_, 1) := by decide +kernel
theorem dX8_commit_62 : decode (m_code mX8_commit) 62 = .ok (.aload_n 3, 1) := by decide +kernel
theorem dX8_commit_63 : decode (m_code mX8_commit) 63 = .ok (.getfield 280, 3) := by decide +kernel
theorem dX8_commit_66 : decode (m_code mX8_commit) 66 = .ok (.istore 5, 2) := by decide +kernel
theorem dX8_commit_68 : decode (m_code mX8_commit) 68 = .ok (.iload_n 2, 1) := by decide +kernel
theorem dX8_commit_69 : decode (m_code mX8_commit) 69 = .ok (.istore 6, 2) := by decide +kernel
theorem dX8_commit_71 : decode (m_code mX8_commit) 71 = .ok (.iconst 0, 1) := by decide +kernel
theorem dX8_commit_72 : decode (m_code mX8_commit) 72 = .ok (.istore 7, 2) := by decide +kernel
theorem dX8_commit_74 : decode (m_code mX8_commit) 74 = .ok (.iload 7, 2) := by decide +kernel
theorem dX8_commit_76 : decode (m_code mX8_commit) 76 = .ok (.bipush 100, 2) := by decide +kernel
theorem dX8_commit_78 : decode (m_code mX8_commit) 78 = .ok (.if_icmp .ge 45, 3) := by decide +kernel
theorem dX8_commit_81 : decode (m_code mX8_commit) 81 = .ok (.iload 6, 2) := by decide +kernel
theorem dX8_commit_83 : decode (m_code mX8_commit) 83 = .ok (.iload 4, 2) := by decide +kernel
theorem dX8_commit_85 : decode (m_code mX8_commit) 85 = .ok (.if_icmp .eq 38, 3) := by decide +kernel
theorem dX8_commit_88 : decode (m_code mX8_commit) 88 = .ok (.aload_n 3, 1) := by decide +kernel
theorem dX8_commit_89 : decode (m_code mX8_commit) 89 = .ok (.getfield 283, 3) := by decide +kernel
theorem dX8_commit_92 : decode (m_code mX8_commit) 92 = .ok (.aload_n 0, 1) := by decide +kernel
theorem dX8_commit_93 : decode (m_code mX8_commit) 93 = .ok (.getfield 12, 3) := by decide +kernel
theorem dX8_commit_96 : decode (m_code mX8_commit) 96 = .ok (.getfield 286, 3) := by decide +kernel
theorem dX8_commit_99 : decode (m_code mX8_commit) 99 = .ok (.iload 6, 2) := by decide +kernel
theorem dX8_commit_101 : decode (m_code mX8_commit) 101 = .ok (.iaload, 1) := by decide +kernel
theorem dX8_commit_102 : decode (m_code mX8_commit) 102 = .ok (.iload 6, 2) := by decide +kernel
theorem dX8_commit_104 : decode (m_code mX8_commit) 104 = .ok (.iastore, 1) := by decide +kernel
theorem dX8_commit_105 : decode (m_code mX8_commit) 105 = .ok (.aload_n 0, 1) := by decide +kernel
theorem dX8_commit_106 : decode (m_code mX8_commit) 106 = .ok (.getfield 12, 3) := by decide +kernel
theorem dX8_commit_109 : decode (m_code mX8_commit) 109 = .ok (.getfield 289, 3) := by decide +kernel
theorem dX8_commit_112 : decode (m_code mX8_commit) 112 = .ok (.iload 6, 2) := by decide +kernel
theorem dX8_commit_114 : decode (m_code mX8_commit) 114 = .ok (.iaload, 1) := by decide +kernel
theorem dX8_commit_115 : decode (m_code mX8_commit) 115 = .ok (.istore 6, 2) := by decide +kernel
theorem dX8_commit_117 : decode (m_code mX8_commit) 117 = .ok (.iinc 7 1, 3) := by decide +kernel
theorem dX8_commit_120 : decode (m_code mX8_commit) 120 = .ok (.goto (-46), 3) := by decide +kernel
theorem dX8_commit_123 : decode (m_code mX8_commit) 123 = .ok (.aload_n 3, 1) := by decide +kernel
theorem dX8_commit_124 : decode (m_code mX8_commit) 124 = .ok (.aload_n 0, 1) := by decide +kernel
theorem dX8_commit_125 : decode (m_code mX8_commit) 125 = .ok (.getfield 12, 3) := by decide +kernel
theorem dX8_commit_128 : decode (m_code mX8_commit) 128 = .ok (.getfield 286, 3) := by decide +kernel
theorem dX8_commit_131 : decode (m_code mX8_commit) 131 = .ok (.iload_n 2, 1) := by decide +kernel
theorem dX8_commit_132 : decode (m_code mX8_commit) 132 = .ok (.iaload, 1) := by decide +kernel
theorem dX8_commit_133 : decode (m_code mX8_commit) 133 = .ok (.iconst 1, 1) := by decide +kernel
theorem dX8_commit_134 : decode (m_code mX8_commit) 134 = .ok (.iadd, 1) := by decide +kernel
theorem dX8_commit_135 : decode (m_code mX8_commit) 135 = .ok (.putfield 280, 3) := by decide +kernel
theorem dX8_commit_138 : decode (m_code mX8_commit) 138 = .ok (.iload 5, 2) := by decide +kernel
theorem dX8_commit_140 : decode (m_code mX8_commit) 140 = .ok (.istore 7, 2) := by decide +kernel
theorem dX8_commit_142 : decode (m_code mX8_commit) 142 = .ok (.iload 7, 2) := by decide +kernel
theorem dX8_commit_144 : decode (m_code mX8_commit) 144 = .ok (.aload_n 3, 1) := by decide +kernel
theorem dX8_commit_145 : decode (m_code mX8_commit) 145 = .ok (.getfield 280, 3) := by decide +kernel
theorem dX8_commit_148 : decode (m_code mX8_commit) 148 = .ok (.if_icmp .ge 27, 3) := by decide +kernel
theorem dX8_commit_151 : decode (m_code mX8_commit) 151 = .ok (.aload_n 0, 1) := by decide +kernel
theorem dX8_commit_152 : decode (m_code mX8_commit) 152 = .ok (.getfield 40, 3) := by decide +kernel
theorem dX8_commit_155 : decode (m_code mX8_commit) 155 = .ok (.iconst 3, 1) := by decide +kernel
theorem dX8_commit_156 : decode (m_code mX8_commit) 156 = .ok (.iload_n 1, 1) := by decide +kernel
theorem dX8_commit_157 : decode (m_code mX8_commit) 157 = .ok (.aload_n 3, 1) := by decide +kernel
theorem dX8_commit_158 : decode (m_code mX8_commit) 158 = .ok (.getfield 283, 3) := by decide +kernel
theorem dX8_commit_161 : decode (m_code mX8_commit) 161 = .ok (.iload 7, 2) := by decide +kernel
theorem dX8_commit_163 : decode (m_code mX8_commit) 163 = .ok (.iaload, 1) := by decide +kernel
theorem dX8_commit_164 : decode (m_code mX8_commit) 164 = .ok (.iconst (-1), 1) := by decide +kernel
theorem dX8_commit_165 : decode (m_code mX8_commit) 165 = .ok (.iconst (-1), 1) := by decide +kernel
theorem dX8_commit_166 : decode (m_code mX8_commit) 166 = .ok (.invokevirtual 239, 3) := by decide +kernel
theorem dX8_commit_169 : decode (m_code mX8_commit) 169 = .ok (.iinc 7 1, 3) := by decide +kernel
theorem dX8_commit_172 : decode (m_code mX8_commit) 172 = .ok (.goto (-30), 3) := by decide +kernel
theorem dX8_commit_175 : decode (m_code mX8_commit) 175 = .ok (.return_, 1) := by decide +kernel
theorem dX8_accuse_0 : decode (m_code mX8_accuse) 0 = .ok (.iload 4, 2) := by decide +kernel
theorem dX8_accuse_2 : decode (m_code mX8_accuse) 2 = .ok (.iconst (-1), 1) := by decide +kernel
theorem dX8_accuse_3 : decode (m_code mX8_accuse) 3 = .ok (.if_icmp .eq 34, 3) := by decide +kernel
theorem dX8_accuse_6 : decode (m_code mX8_accuse) 6 = .ok (.aload_n 0, 1) := by decide +kernel
theorem dX8_accuse_7 : decode (m_code mX8_accuse) 7 = .ok (.getfield 36, 3) := by decide +kernel
theorem dX8_accuse_10 : decode (m_code mX8_accuse) 10 = .ok (.iload_n 1, 1) := by decide +kernel
theorem dX8_accuse_11 : decode (m_code mX8_accuse) 11 = .ok (.iload_n 2, 1) := by decide +kernel
theorem dX8_accuse_12 : decode (m_code mX8_accuse) 12 = .ok (.iload_n 3, 1) := by decide +kernel
theorem dX8_accuse_13 : decode (m_code mX8_accuse) 13 = .ok (.iload 4, 2) := by decide +kernel
theorem dX8_accuse_15 : decode (m_code mX8_accuse) 15 = .ok (.iload 5, 2) := by decide +kernel
theorem dX8_accuse_17 : decode (m_code mX8_accuse) 17 = .ok (.invokevirtual 292, 3) := by decide +kernel
theorem dX8_accuse_20 : decode (m_code mX8_accuse) 20 = .ok (.ifCond .ne 17, 3) := by decide +kernel
theorem dX8_accuse_23 : decode (m_code mX8_accuse) 23 = .ok (.aload_n 0, 1) := by decide +kernel
theorem dX8_accuse_24 : decode (m_code mX8_accuse) 24 = .ok (.getfield 36, 3) := by decide +kernel
theorem dX8_accuse_27 : decode (m_code mX8_accuse) 27 = .ok (.iload_n 1, 1) := by decide +kernel
theorem dX8_accuse_28 : decode (m_code mX8_accuse) 28 = .ok (.iload_n 2, 1) := by decide +kernel
theorem dX8_accuse_29 : decode (m_code mX8_accuse) 29 = .ok (.iload_n 3, 1) := by decide +kernel
theorem dX8_accuse_30 : decode (m_code mX8_accuse) 30 = .ok (.iload 4, 2) := by decide +kernel
theorem dX8_accuse_32 : decode (m_code mX8_accuse) 32 = .ok (.iload 5, 2) := by decide +kernel
theorem dX8_accuse_34 : decode (m_code mX8_accuse) 34 = .ok (.invokevirtual 239, 3) := by decide +kernel
theorem dX8_accuse_37 : decode (m_code mX8_accuse) 37 = .ok (.return_, 1) := by decide +kernel
theorem dX8_lockAfter_0 : decode (m_code mX8_lockAfter) 0 = .ok (.aload_n 0, 1) := by decide +kernel
theorem dX8_lockAfter_1 : decode (m_code mX8_lockAfter) 1 = .ok (.getfield 12, 3) := by decide +kernel
theorem dX8_lockAfter_4 : decode (m_code mX8_lockAfter) 4 = .ok (.getfield 221, 3) := by decide +kernel
theorem dX8_lockAfter_7 : decode (m_code mX8_lockAfter) 7 = .ok (.iload_n 2, 1) := by decide +kernel
theorem dX8_lockAfter_8 : decode (m_code mX8_lockAfter) 8 = .ok (.iaload, 1) := by decide +kernel
theorem dX8_lockAfter_9 : decode (m_code mX8_lockAfter) 9 = .ok (.istore_n 3, 1) := by decide +kernel
theorem dX8_lockAfter_10 : decode (m_code mX8_lockAfter) 10 = .ok (.aload_n 0, 1) := by decide +kernel
theorem dX8_lockAfter_11 : decode (m_code mX8_lockAfter) 11 = .ok (.getfield 12, 3) := by decide +kernel
theorem dX8_lockAfter_14 : decode (m_code mX8_lockAfter) 14 = .ok (.getfield 105, 3) := by decide +kernel
theorem dX8_lockAfter_17 : decode (m_code mX8_lockAfter) 17 = .ok (.iload_n 3, 1) := by decide +kernel
theorem dX8_lockAfter_18 : decode (m_code mX8_lockAfter) 18 = .ok (.iaload, 1) := by decide +kernel
theorem dX8_lockAfter_19 : decode (m_code mX8_lockAfter) 19 = .ok (.aload_n 0, 1) := by decide +kernel
theorem dX8_lockAfter_20 : decode (m_code mX8_lockAfter) 20 = .ok (.getfield 12, 3) := by decide +kernel
theorem dX8_lockAfter_23 : decode (m_code mX8_lockAfter) 23 = .ok (.getfield 105, 3) := by decide +kernel
theorem dX8_lockAfter_26 : decode (m_code mX8_lockAfter) 26 = .ok (.aload_n 1, 1) := by decide +kernel
theorem dX8_lockAfter_27 : decode (m_code mX8_lockAfter) 27 = .ok (.getfield 232, 3) := by decide +kernel
theorem dX8_lockAfter_30 : decode (m_code mX8_lockAfter) 30 = .ok (.iaload, 1) := by decide +kernel
theorem dX8_lockAfter_31 : decode (m_code mX8_lockAfter) 31 = .ok (.if_icmp .le 7, 3) := by decide +kernel
theorem dX8_lockAfter_34 : decode (m_code mX8_lockAfter) 34 = .ok (.iload_n 3, 1) := by decide +kernel
theorem dX8_lockAfter_35 : decode (m_code mX8_lockAfter) 35 = .ok (.goto 7, 3) := by decide +kernel
theorem dX8_lockAfter_38 : decode (m_code mX8_lockAfter) 38 = .ok (.aload_n 1, 1) := by decide +kernel
theorem dX8_lockAfter_39 : decode (m_code mX8_lockAfter) 39 = .ok (.getfield 232, 3) := by decide +kernel
theorem dX8_lockAfter_42 : decode (m_code mX8_lockAfter) 42 = .ok (.ireturn, 1) := by decide +kernel
theorem dX8_viewAfter_0 : decode (m_code mX8_viewAfter) 0 = .ok (.aload_n 0, 1) := by decide +kernel
theorem dX8_viewAfter_1 : decode (m_code mX8_viewAfter) 1 = .ok (.getfield 12, 3) := by decide +kernel
theorem dX8_viewAfter_4 : decode (m_code mX8_viewAfter) 4 = .ok (.getfield 105, 3) := by decide +kernel
theorem dX8_viewAfter_7 : decode (m_code mX8_viewAfter) 7 = .ok (.iload_n 2, 1) := by decide +kernel
theorem dX8_viewAfter_8 : decode (m_code mX8_viewAfter) 8 = .ok (.iaload, 1) := by decide +kernel
theorem dX8_viewAfter_9 : decode (m_code mX8_viewAfter) 9 = .ok (.istore_n 3, 1) := by decide +kernel
theorem dX8_viewAfter_10 : decode (m_code mX8_viewAfter) 10 = .ok (.aload_n 0, 1) := by decide +kernel
theorem dX8_viewAfter_11 : decode (m_code mX8_viewAfter) 11 = .ok (.getfield 12, 3) := by decide +kernel
theorem dX8_viewAfter_14 : decode (m_code mX8_viewAfter) 14 = .ok (.getfield 105, 3) := by decide +kernel
theorem dX8_viewAfter_17 : decode (m_code mX8_viewAfter) 17 = .ok (.aload_n 0, 1) := by decide +kernel
theorem dX8_viewAfter_18 : decode (m_code mX8_viewAfter) 18 = .ok (.getfield 12, 3) := by decide +kernel
theorem dX8_viewAfter_21 : decode (m_code mX8_viewAfter) 21 = .ok (.getfield 221, 3) := by decide +kernel
theorem dX8_viewAfter_24 : decode (m_code mX8_viewAfter) 24 = .ok (.iload_n 2, 1) := by decide +kernel
theorem dX8_viewAfter_25 : decode (m_code mX8_viewAfter) 25 = .ok (.iaload, 1) := by decide +kernel
theorem dX8_viewAfter_26 : decode (m_code mX8_viewAfter) 26 = .ok (.iaload, 1) := by decide +kernel
theorem dX8_viewAfter_27 : decode (m_code mX8_viewAfter) 27 = .ok (.iload_n 3, 1) := by decide +kernel
theorem dX8_viewAfter_28 : decode (m_code mX8_viewAfter) 28 = .ok (.iconst 1, 1) := by decide +kernel
theorem dX8_viewAfter_29 : decode (m_code mX8_viewAfter) 29 = .ok (.isub, 1) := by decide +kernel
theorem dX8_viewAfter_30 : decode (m_code mX8_viewAfter) 30 = .ok (.if_icmp .eq 26, 3) := by decide +kernel
theorem dX8_viewAfter_33 : decode (m_code mX8_viewAfter) 33 = .ok (.aload_n 0, 1) := by decide +kernel
theorem dX8_viewAfter_34 : decode (m_code mX8_viewAfter) 34 = .ok (.getfield 12, 3) := by decide +kernel
theorem dX8_viewAfter_37 : decode (m_code mX8_viewAfter) 37 = .ok (.getfield 295, 3) := by decide +kernel
theorem dX8_viewAfter_40 : decode (m_code mX8_viewAfter) 40 = .ok (.iload_n 2, 1) := by decide +kernel
theorem dX8_viewAfter_41 : decode (m_code mX8_viewAfter) 41 = .ok (.iaload, 1) := by decide +kernel
theorem dX8_viewAfter_42 : decode (m_code mX8_viewAfter) 42 = .ok (.iconst 1, 1) := by decide +kernel
theorem dX8_viewAfter_43 : decode (m_code mX8_viewAfter) 43 = .ok (.if_icmp .eq 13, 3) := by decide +kernel
theorem dX8_viewAfter_46 : decode (m_code mX8_viewAfter) 46 = .ok (.aload_n 1, 1) := by decide +kernel
theorem dX8_viewAfter_47 : decode (m_code mX8_viewAfter) 47 = .ok (.getfield 123, 3) := by decide +kernel
theorem dX8_viewAfter_50 : decode (m_code mX8_viewAfter) 50 = .ok (.iload_n 3, 1) := by decide +kernel
theorem dX8_viewAfter_51 : decode (m_code mX8_viewAfter) 51 = .ok (.iconst 1, 1) := by decide +kernel
theorem dX8_viewAfter_52 : decode (m_code mX8_viewAfter) 52 = .ok (.isub, 1) := by decide +kernel
theorem dX8_viewAfter_53 : decode (m_code mX8_viewAfter) 53 = .ok (.if_icmp .lt 7, 3) := by decide +kernel
theorem dX8_viewAfter_56 : decode (m_code mX8_viewAfter) 56 = .ok (.iconst 1, 1) := by decide +kernel
theorem dX8_viewAfter_57 : decode (m_code mX8_viewAfter) 57 = .ok (.goto 4, 3) := by decide +kernel
theorem dX8_viewAfter_60 : decode (m_code mX8_viewAfter) 60 = .ok (.iconst 0, 1) := by decide +kernel
theorem dX8_viewAfter_61 : decode (m_code mX8_viewAfter) 61 = .ok (.istore 4, 2) := by decide +kernel
theorem dX8_viewAfter_63 : decode (m_code mX8_viewAfter) 63 = .ok (.iload_n 3, 1) := by decide +kernel
theorem dX8_viewAfter_64 : decode (m_code mX8_viewAfter) 64 = .ok (.aload_n 1, 1) := by decide +kernel
theorem dX8_viewAfter_65 : decode (m_code mX8_viewAfter) 65 = .ok (.getfield 115, 3) := by decide +kernel
theorem dX8_viewAfter_68 : decode (m_code mX8_viewAfter) 68 = .ok (.if_icmp .le 12, 3) := by decide +kernel
theorem dX8_viewAfter_71 : decode (m_code mX8_viewAfter) 71 = .ok (.iload 4, 2) := by decide +kernel
theorem dX8_viewAfter_73 : decode (m_code mX8_viewAfter) 73 = .ok (.ifCond .eq 7, 3) := by decide +kernel
theorem dX8_viewAfter_76 : decode (m_code mX8_viewAfter) 76 = .ok (.iload_n 3, 1) := by decide +kernel
theorem dX8_viewAfter_77 : decode (m_code mX8_viewAfter) 77 = .ok (.goto 7, 3) := by decide +kernel
theorem dX8_viewAfter_80 : decode (m_code mX8_viewAfter) 80 = .ok (.aload_n 1, 1) := by decide +kernel
theorem dX8_viewAfter_81 : decode (m_code mX8_viewAfter) 81 = .ok (.getfield 115, 3) := by decide +kernel
theorem dX8_viewAfter_84 : decode (m_code mX8_viewAfter) 84 = .ok (.ireturn, 1) := by decide +kernel
theorem dX8_isDue_0 : decode (m_code mX8_isDue) 0 = .ok (.aload_n 0, 1) := by decide +kernel
theorem dX8_isDue_1 : decode (m_code mX8_isDue) 1 = .ok (.getfield 12, 3) := by decide +kernel
theorem dX8_isDue_4 : decode (m_code mX8_isDue) 4 = .ok (.getfield 105, 3) := by decide +kernel
theorem dX8_isDue_7 : decode (m_code mX8_isDue) 7 = .ok (.iload_n 2, 1) := by decide +kernel
theorem dX8_isDue_8 : decode (m_code mX8_isDue) 8 = .ok (.iaload, 1) := by decide +kernel
theorem dX8_isDue_9 : decode (m_code mX8_isDue) 9 = .ok (.iload_n 3, 1) := by decide +kernel
theorem dX8_isDue_10 : decode (m_code mX8_isDue) 10 = .ok (.if_icmp .ne 36, 3) := by decide +kernel
theorem dX8_isDue_13 : decode (m_code mX8_isDue) 13 = .ok (.iload_n 3, 1) := by decide +kernel
theorem dX8_isDue_14 : decode (m_code mX8_isDue) 14 = .ok (.aload_n 1, 1) := by decide +kernel
theorem dX8_isDue_15 : decode (m_code mX8_isDue) 15 = .ok (.getfield 143, 3) := by decide +kernel
theorem dX8_isDue_18 : decode (m_code mX8_isDue) 18 = .ok (.if_icmp .le 28, 3) := by decide +kernel
theorem dX8_isDue_21 : decode (m_code mX8_isDue) 21 = .ok (.aload_n 0, 1) := by decide +kernel
theorem dX8_isDue_22 : decode (m_code mX8_isDue) 22 = .ok (.getfield 12, 3) := by decide +kernel
theorem dX8_isDue_25 : decode (m_code mX8_isDue) 25 = .ok (.getfield 289, 3) := by decide +kernel
theorem dX8_isDue_28 : decode (m_code mX8_isDue) 28 = .ok (.iload_n 2, 1) := by decide +kernel
theorem dX8_isDue_29 : decode (m_code mX8_isDue) 29 = .ok (.iaload, 1) := by decide +kernel
theorem dX8_isDue_30 : decode (m_code mX8_isDue) 30 = .ok (.aload_n 0, 1) := by decide +kernel
theorem dX8_isDue_31 : decode (m_code mX8_isDue) 31 = .ok (.getfield 12, 3) := by decide +kernel
theorem dX8_isDue_34 : decode (m_code mX8_isDue) 34 = .ok (.getfield 221, 3) := by decide +kernel
theorem dX8_isDue_37 : decode (m_code mX8_isDue) 37 = .ok (.iload_n 2, 1) := by decide +kernel
theorem dX8_isDue_38 : decode (m_code mX8_isDue) 38 = .ok (.iaload, 1) := by decide +kernel
theorem dX8_isDue_39 : decode (m_code mX8_isDue) 39 = .ok (.if_icmp .ne 7, 3) := by decide +kernel
theorem dX8_isDue_42 : decode (m_code mX8_isDue) 42 = .ok (.iconst 1, 1) := by decide +kernel
theorem dX8_isDue_43 : decode (m_code mX8_isDue) 43 = .ok (.goto 4, 3) := by decide +kernel
theorem dX8_isDue_46 : decode (m_code mX8_isDue) 46 = .ok (.iconst 0, 1) := by decide +kernel
theorem dX8_isDue_47 : decode (m_code mX8_isDue) 47 = .ok (.ireturn, 1) := by decide +kernel
theorem dX8_isSafe_0 : decode (m_code mX8_isSafe) 0 = .ok (.aload_n 0, 1) := by decide +kernel
theorem dX8_isSafe_1 : decode (m_code mX8_isSafe) 1 = .ok (.getfield 12, 3) := by decide +kernel
theorem dX8_isSafe_4 : decode (m_code mX8_isSafe) 4 = .ok (.iload_n 1, 1) := by decide +kernel
theorem dX8_isSafe_5 : decode (m_code mX8_isSafe) 5 = .ok (.iload_n 2, 1) := by decide +kernel
theorem dX8_isSafe_6 : decode (m_code mX8_isSafe) 6 = .ok (.invokevirtual 274, 3) := by decide +kernel
theorem dX8_isSafe_9 : decode (m_code mX8_isSafe) 9 = .ok (.ifCond .ne 32, 3) := by decide +kernel
theorem dX8_isSafe_12 : decode (m_code mX8_isSafe) 12 = .ok (.aload_n 0, 1) := by decide +kernel
theorem dX8_isSafe_13 : decode (m_code mX8_isSafe) 13 = .ok (.getfield 12, 3) := by decide +kernel
theorem dX8_isSafe_16 : decode (m_code mX8_isSafe) 16 = .ok (.getfield 105, 3) := by decide +kernel
theorem dX8_isSafe_19 : decode (m_code mX8_isSafe) 19 = .ok (.aload_n 0, 1) := by decide +kernel
theorem dX8_isSafe_20 : decode (m_code mX8_isSafe) 20 = .ok (.getfield 12, 3) := by decide +kernel
theorem dX8_isSafe_23 : decode (m_code mX8_isSafe) 23 = .ok (.getfield 221, 3) := by decide +kernel
theorem dX8_isSafe_26 : decode (m_code mX8_isSafe) 26 = .ok (.iload_n 1, 1) := by decide +kernel
theorem dX8_isSafe_27 : decode (m_code mX8_isSafe) 27 = .ok (.iaload, 1) := by decide +kernel
theorem dX8_isSafe_28 : decode (m_code mX8_isSafe) 28 = .ok (.iaload, 1) := by decide +kernel
theorem dX8_isSafe_29 : decode (m_code mX8_isSafe) 29 = .ok (.aload_n 0, 1) := by decide +kernel
theorem dX8_isSafe_30 : decode (m_code mX8_isSafe) 30 = .ok (.getfield 12, 3) := by decide +kernel
theorem dX8_isSafe_33 : decode (m_code mX8_isSafe) 33 = .ok (.getfield 105, 3) := by decide +kernel
theorem dX8_isSafe_36 : decode (m_code mX8_isSafe) 36 = .ok (.iload_n 2, 1) := by decide +kernel
theorem dX8_isSafe_37 : decode (m_code mX8_isSafe) 37 = .ok (.iaload, 1) := by decide +kernel
theorem dX8_isSafe_38 : decode (m_code mX8_isSafe) 38 = .ok (.if_icmp .le 7, 3) := by decide +kernel
theorem dX8_isSafe_41 : decode (m_code mX8_isSafe) 41 = .ok (.iconst 1, 1) := by decide +kernel
theorem dX8_isSafe_42 : decode (m_code mX8_isSafe) 42 = .ok (.goto 4, 3) := by decide +kernel
theorem dX8_isSafe_45 : decode (m_code mX8_isSafe) 45 = .ok (.iconst 0, 1) := by decide +kernel
theorem dX8_isSafe_46 : decode (m_code mX8_isSafe) 46 = .ok (.ireturn, 1) := by decide +kernel
theorem dX8_wouldVote_0 : decode (m_code mX8_wouldVote) 0 = .ok (.aload_n 0, 1) := by decide +kernel
theorem dX8_wouldVote_1 : decode (m_code mX8_wouldVote) 1 = .ok (.aload_n 1, 1) := by decide +kernel
theorem dX8_wouldVote_2 : decode (m_code mX8_wouldVote) 2 = .ok (.aload_n 0, 1) := by decide +kernel
theorem dX8_wouldVote_3 : decode (m_code mX8_wouldVote) 3 = .ok (.getfield 12, 3) := by decide +kernel
theorem dX8_wouldVote_6 : decode (m_code mX8_wouldVote) 6 = .ok (.getfield 221, 3) := by decide +kernel
theorem dX8_wouldVote_9 : decode (m_code mX8_wouldVote) 9 = .ok (.iload_n 2, 1) := by decide +kernel
theorem dX8_wouldVote_10 : decode (m_code mX8_wouldVote) 10 = .ok (.iaload, 1) := by decide +kernel
theorem dX8_wouldVote_11 : decode (m_code mX8_wouldVote) 11 = .ok (.invokevirtual 262, 3) := by decide +kernel
theorem dX8_wouldVote_14 : decode (m_code mX8_wouldVote) 14 = .ok (.istore_n 3, 1) := by decide +kernel
theorem dX8_wouldVote_15 : decode (m_code mX8_wouldVote) 15 = .ok (.aload_n 1, 1) := by decide +kernel
theorem dX8_wouldVote_16 : decode (m_code mX8_wouldVote) 16 = .ok (.getfield 92, 3) := by decide +kernel
theorem dX8_wouldVote_19 : decode (m_code mX8_wouldVote) 19 = .ok (.iconst 1, 1) := by decide +kernel
theorem dX8_wouldVote_20 : decode (m_code mX8_wouldVote) 20 = .ok (.if_icmp .eq 31, 3) := by decide +kernel
theorem dX8_wouldVote_23 : decode (m_code mX8_wouldVote) 23 = .ok (.aload_n 0, 1) := by decide +kernel
theorem dX8_wouldVote_24 : decode (m_code mX8_wouldVote) 24 = .ok (.aload_n 1, 1) := by decide +kernel
theorem dX8_wouldVote_25 : decode (m_code mX8_wouldVote) 25 = .ok (.iload_n 2, 1) := by decide +kernel
theorem dX8_wouldVote_26 : decode (m_code mX8_wouldVote) 26 = .ok (.aload_n 0, 1) := by decide +kernel
theorem dX8_wouldVote_27 : decode (m_code mX8_wouldVote) 27 = .ok (.aload_n 1, 1) := by decide +kernel
theorem dX8_wouldVote_28 : decode (m_code mX8_wouldVote) 28 = .ok (.iload_n 2, 1) := by decide +kernel
theorem dX8_wouldVote_29 : decode (m_code mX8_wouldVote) 29 = .ok (.invokevirtual 224, 3) := by decide +kernel
theorem dX8_wouldVote_32 : decode (m_code mX8_wouldVote) 32 = .ok (.invokevirtual 228, 3) := by decide +kernel
theorem dX8_wouldVote_35 : decode (m_code mX8_wouldVote) 35 = .ok (.ifCond .eq 16, 3) := by decide +kernel
theorem dX8_wouldVote_38 : decode (m_code mX8_wouldVote) 38 = .ok (.aload_n 0, 1) := by decide +kernel
theorem dX8_wouldVote_39 : decode (m_code mX8_wouldVote) 39 = .ok (.iload_n 2, 1) := by decide +kernel
theorem dX8_wouldVote_40 : decode (m_code mX8_wouldVote) 40 = .ok (.iload_n 3, 1) := by decide +kernel
theorem dX8_wouldVote_41 : decode (m_code mX8_wouldVote) 41 = .ok (.invokevirtual 235, 3) := by decide +kernel
theorem dX8_wouldVote_44 : decode (m_code mX8_wouldVote) 44 = .ok (.ifCond .eq 7, 3) := by decide +kernel
theorem dX8_wouldVote_47 : decode (m_code mX8_wouldVote) 47 = .ok (.iconst 1, 1) := by decide +kernel
theorem dX8_wouldVote_48 : decode (m_code mX8_wouldVote) 48 = .ok (.goto 4, 3) := by decide +kernel
theorem dX8_wouldVote_51 : decode (m_code mX8_wouldVote) 51 = .ok (.iconst 0, 1) := by decide +kernel
theorem dX8_wouldVote_52 : decode (m_code mX8_wouldVote) 52 = .ok (.ireturn, 1) := by decide +kernel
theorem dX8_stormOf_0 : decode (m_code mX8_stormOf) 0 = .ok (.iconst 0, 1) := by decide +kernel
theorem dX8_stormOf_1 : decode (m_code mX8_stormOf) 1 = .ok (.istore_n 3, 1) := by decide +kernel
theorem dX8_stormOf_2 : decode (m_code mX8_stormOf) 2 = .ok (.iconst 0, 1) := by decide +kernel
theorem dX8_stormOf_3 : decode (m_code mX8_stormOf) 3 = .ok (.istore 4, 2) := by decide +kernel
theorem dX8_stormOf_5 : decode (m_code mX8_stormOf) 5 = .ok (.iload 4, 2) := by decide +kernel
theorem dX8_stormOf_7 : decode (m_code mX8_stormOf) 7 = .ok (.iload_n 1, 1) := by decide +kernel
theorem dX8_stormOf_8 : decode (m_code mX8_stormOf) 8 = .ok (.if_icmp .ge 65, 3) := by decide +kernel
theorem dX8_stormOf_11 : decode (m_code mX8_stormOf) 11 = .ok (.aload_n 0, 1) := by decide +kernel
theorem dX8_stormOf_12 : decode (m_code mX8_stormOf) 12 = .ok (.getfield 27, 3) := by decide +kernel
theorem dX8_stormOf_15 : decode (m_code mX8_stormOf) 15 = .ok (.getfield 77, 3) := by decide +kernel
theorem dX8_stormOf_18 : decode (m_code mX8_stormOf) 18 = .ok (.ifCond .le 55, 3) := by decide +kernel
theorem dX8_stormOf_21 : decode (m_code mX8_stormOf) 21 = .ok (.aload_n 0, 1) := by decide +kernel
theorem dX8_stormOf_22 : decode (m_code mX8_stormOf) 22 = .ok (.aload_n 0, 1) := by decide +kernel
theorem dX8_stormOf_23 : decode (m_code mX8_stormOf) 23 = .ok (.getfield 27, 3) := by decide +kernel
theorem dX8_stormOf_26 : decode (m_code mX8_stormOf) 26 = .ok (.getfield 77, 3) := by decide +kernel
theorem dX8_stormOf_29 : decode (m_code mX8_stormOf) 29 = .ok (.invokevirtual 298, 3) := by decide +kernel
theorem dX8_stormOf_32 : decode (m_code mX8_stormOf) 32 = .ok (.istore 5, 2) := by decide +kernel
theorem dX8_stormOf_34 : decode (m_code mX8_stormOf) 34 = .ok (.aload_n 0, 1) := by decide +kernel
theorem dX8_stormOf_35 : decode (m_code mX8_stormOf) 35 = .ok (.bipush 10, 2) := by decide +kernel
theorem dX8_stormOf_37 : decode (m_code mX8_stormOf) 37 = .ok (.invokevirtual 298, 3) := by decide +kernel
theorem dX8_stormOf_40 : decode (m_code mX8_stormOf) 40 = .ok (.iload_n 2, 1) := by decide +kernel
theorem dX8_stormOf_41 : decode (m_code mX8_stormOf) 41 = .ok (.if_icmp .ge 16, 3) := by decide +kernel
theorem dX8_stormOf_44 : decode (m_code mX8_stormOf) 44 = .ok (.aload_n 0, 1) := by decide +kernel
theorem dX8_stormOf_45 : decode (m_code mX8_stormOf) 45 = .ok (.getfield 27, 3) := by decide +kernel
theorem dX8_stormOf_48 : decode (m_code mX8_stormOf) 48 = .ok (.iload 5, 2) := by decide +kernel
theorem dX8_stormOf_50 : decode (m_code mX8_stormOf) 50 = .ok (.invokevirtual 177, 3) := by decide +kernel
theorem dX8_stormOf_53 : decode (m_code mX8_stormOf) 53 = .ok (.pop, 1) := by decide +kernel
theorem dX8_stormOf_54 : decode (m_code mX8_stormOf) 54 = .ok (.goto 13, 3) := by decide +kernel
theorem dX8_stormOf_57 : decode (m_code mX8_stormOf) 57 = .ok (.iload_n 3, 1) := by decide +kernel
theorem dX8_stormOf_58 : decode (m_code mX8_stormOf) 58 = .ok (.aload_n 0, 1) := by decide +kernel
theorem dX8_stormOf_59 : decode (m_code mX8_stormOf) 59 = .ok (.iload 5, 2) := by decide +kernel
theorem dX8_stormOf_61 : decode (m_code mX8_stormOf) 61 = .ok (.iconst 1, 1) := by decide +kernel
theorem dX8_stormOf_62 : decode (m_code mX8_stormOf) 62 = .ok (.invokevirtual 301, 3) := by decide +kernel
theorem dX8_stormOf_65 : decode (m_code mX8_stormOf) 65 = .ok (.iadd, 1) := by decide +kernel
theorem dX8_stormOf_66 : decode (m_code mX8_stormOf) 66 = .ok (.istore_n 3, 1) := by decide +kernel
theorem dX8_stormOf_67 : decode (m_code mX8_stormOf) 67 = .ok (.iinc 4 1, 3) := by decide +kernel
theorem dX8_stormOf_70 : decode (m_code mX8_stormOf) 70 = .ok (.goto (-65), 3) := by decide +kernel
theorem dX8_stormOf_73 : decode (m_code mX8_stormOf) 73 = .ok (.iload_n 3, 1) := by decide +kernel
theorem dX8_stormOf_74 : decode (m_code mX8_stormOf) 74 = .ok (.ireturn, 1) := by decide +kernel
theorem dX8_calmRounds_0 : decode (m_code mX8_calmRounds) 0 = .ok (.aload_n 0, 1) := by decide +kernel
theorem dX8_calmRounds_1 : decode (m_code mX8_calmRounds) 1 = .ok (.invokevirtual 304, 3) := by decide +kernel
theorem dX8_calmRounds_4 : decode (m_code mX8_calmRounds) 4 = .ok (.istore_n 2, 1) := by decide +kernel
theorem dX8_calmRounds_5 : decode (m_code mX8_calmRounds) 5 = .ok (.iconst 0, 1) := by decide +kernel
theorem dX8_calmRounds_6 : decode (m_code mX8_calmRounds) 6 = .ok (.istore_n 3, 1) := by decide +kernel
theorem dX8_calmRounds_7 : decode (m_code mX8_calmRounds) 7 = .ok (.iload_n 3, 1) := by decide +kernel
theorem dX8_calmRounds_8 : decode (m_code mX8_calmRounds) 8 = .ok (.iload_n 1, 1) := by decide +kernel
theorem dX8_calmRounds_9 : decode (m_code mX8_calmRounds) 9 = .ok (.if_icmp .ge 23, 3) := by decide +kernel
theorem dX8_calmRounds_12 : decode (m_code mX8_calmRounds) 12 = .ok (.aload_n 0, 1) := by decide +kernel
theorem dX8_calmRounds_13 : decode (m_code mX8_calmRounds) 13 = .ok (.iconst 0, 1) := by decide +kernel
theorem dX8_calmRounds_14 : decode (m_code mX8_calmRounds) 14 = .ok (.ldc_w 307, 3) := by decide +kernel
theorem dX8_calmRounds_17 : decode (m_code mX8_calmRounds) 17 = .ok (.invokevirtual 301, 3) := by decide +kernel
theorem dX8_calmRounds_20 : decode (m_code mX8_calmRounds) 20 = .ok (.pop, 1) := by decide +kernel
theorem dX8_calmRounds_21 : decode (m_code mX8_calmRounds) 21 = .ok (.aload_n 0, 1) := by decide +kernel
theorem dX8_calmRounds_22 : decode (m_code mX8_calmRounds) 22 = .ok (.iload_n 3, 1) := by decide +kernel
theorem dX8_calmRounds_23 : decode (m_code mX8_calmRounds) 23 = .ok (.invokevirtual 308, 3) := by decide +kernel
theorem dX8_calmRounds_26 : decode (m_code mX8_calmRounds) 26 = .ok (.iinc 3 1, 3) := by decide +kernel
theorem dX8_calmRounds_29 : decode (m_code mX8_calmRounds) 29 = .ok (.goto (-22), 3) := by decide +kernel
theorem dX8_calmRounds_32 : decode (m_code mX8_calmRounds) 32 = .ok (.aload_n 0, 1) := by decide +kernel
theorem dX8_calmRounds_33 : decode (m_code mX8_calmRounds) 33 = .ok (.iconst 0, 1) := by decide +kernel
theorem dX8_calmRounds_34 : decode (m_code mX8_calmRounds) 34 = .ok (.ldc_w 307, 3) := by decide +kernel
theorem dX8_calmRounds_37 : decode (m_code mX8_calmRounds) 37 = .ok (.invokevirtual 301, 3) := by decide +kernel
theorem dX8_calmRounds_40 : decode (m_code mX8_calmRounds) 40 = .ok (.pop, 1) := by decide +kernel
theorem dX8_calmRounds_41 : decode (m_code mX8_calmRounds) 41 = .ok (.aload_n 0, 1) := by decide +kernel
theorem dX8_calmRounds_42 : decode (m_code mX8_calmRounds) 42 = .ok (.invokevirtual 304, 3) := by decide +kernel
theorem dX8_calmRounds_45 : decode (m_code mX8_calmRounds) 45 = .ok (.iload_n 2, 1) := by decide +kernel
theorem dX8_calmRounds_46 : decode (m_code mX8_calmRounds) 46 = .ok (.isub, 1) := by decide +kernel
theorem dX8_calmRounds_47 : decode (m_code mX8_calmRounds) 47 = .ok (.ireturn, 1) := by decide +kernel
theorem dX8_goOn_0 : decode (m_code mX8_goOn) 0 = .ok (.iconst 0, 1) := by decide +kernel
theorem dX8_goOn_1 : decode (m_code mX8_goOn) 1 = .ok (.istore_n 2, 1) := by decide +kernel
theorem dX8_goOn_2 : decode (m_code mX8_goOn) 2 = .ok (.iconst 0, 1) := by decide +kernel
theorem dX8_goOn_3 : decode (m_code mX8_goOn) 3 = .ok (.istore_n 3, 1) := by decide +kernel
theorem dX8_goOn_4 : decode (m_code mX8_goOn) 4 = .ok (.iload_n 3, 1) := by decide +kernel
theorem dX8_goOn_5 : decode (m_code mX8_goOn) 5 = .ok (.aload_n 0, 1) := by decide +kernel
theorem dX8_goOn_6 : decode (m_code mX8_goOn) 6 = .ok (.getfield 50, 3) := by decide +kernel
theorem dX8_goOn_9 : decode (m_code mX8_goOn) 9 = .ok (.if_icmp .ge 27, 3) := by decide +kernel
theorem dX8_goOn_12 : decode (m_code mX8_goOn) 12 = .ok (.iload_n 2, 1) := by decide +kernel
theorem dX8_goOn_13 : decode (m_code mX8_goOn) 13 = .ok (.aload_n 0, 1) := by decide +kernel
theorem dX8_goOn_14 : decode (m_code mX8_goOn) 14 = .ok (.iload_n 3, 1) := by decide +kernel
theorem dX8_goOn_15 : decode (m_code mX8_goOn) 15 = .ok (.iload_n 1, 1) := by decide +kernel
theorem dX8_goOn_16 : decode (m_code mX8_goOn) 16 = .ok (.invokevirtual 311, 3) := by decide +kernel
theorem dX8_goOn_19 : decode (m_code mX8_goOn) 19 = .ok (.iconst (-1), 1) := by decide +kernel
theorem dX8_goOn_20 : decode (m_code mX8_goOn) 20 = .ok (.if_icmp .eq 7, 3) := by decide +kernel
theorem dX8_goOn_23 : decode (m_code mX8_goOn) 23 = .ok (.iconst 1, 1) := by decide +kernel
theorem dX8_goOn_24 : decode (m_code mX8_goOn) 24 = .ok (.goto 4, 3) := by decide +kernel
theorem dX8_goOn_27 : decode (m_code mX8_goOn) 27 = .ok (.iconst 0, 1) := by decide +kernel
theorem dX8_goOn_28 : decode (m_code mX8_goOn) 28 = .ok (.ior, 1) := by decide +kernel
theorem dX8_goOn_29 : decode (m_code mX8_goOn) 29 = .ok (.istore_n 2, 1) := by decide +kernel
theorem dX8_goOn_30 : decode (m_code mX8_goOn) 30 = .ok (.iinc 3 1, 3) := by decide +kernel
theorem dX8_goOn_33 : decode (m_code mX8_goOn) 33 = .ok (.goto (-29), 3) := by decide +kernel
theorem dX8_goOn_36 : decode (m_code mX8_goOn) 36 = .ok (.iconst 0, 1) := by decide +kernel
theorem dX8_goOn_37 : decode (m_code mX8_goOn) 37 = .ok (.istore_n 3, 1) := by decide +kernel
theorem dX8_goOn_38 : decode (m_code mX8_goOn) 38 = .ok (.iload_n 3, 1) := by decide +kernel
theorem dX8_goOn_39 : decode (m_code mX8_goOn) 39 = .ok (.aload_n 0, 1) := by decide +kernel
theorem dX8_goOn_40 : decode (m_code mX8_goOn) 40 = .ok (.getfield 50, 3) := by decide +kernel
theorem dX8_goOn_43 : decode (m_code mX8_goOn) 43 = .ok (.if_icmp .ge 19, 3) := by decide +kernel
theorem dX8_goOn_46 : decode (m_code mX8_goOn) 46 = .ok (.iload_n 2, 1) := by decide +kernel
theorem dX8_goOn_47 : decode (m_code mX8_goOn) 47 = .ok (.ifCond .ne 15, 3) := by decide +kernel
theorem dX8_goOn_50 : decode (m_code mX8_goOn) 50 = .ok (.aload_n 0, 1) := by decide +kernel
theorem dX8_goOn_51 : decode (m_code mX8_goOn) 51 = .ok (.iload_n 3, 1) := by decide +kernel
theorem dX8_goOn_52 : decode (m_code mX8_goOn) 52 = .ok (.invokevirtual 314, 3) := by decide +kernel
theorem dX8_goOn_55 : decode (m_code mX8_goOn) 55 = .ok (.pop, 1) := by decide +kernel
theorem dX8_goOn_56 : decode (m_code mX8_goOn) 56 = .ok (.iinc 3 1, 3) := by decide +kernel
theorem dX8_goOn_59 : decode (m_code mX8_goOn) 59 = .ok (.goto (-21), 3) := by decide +kernel
theorem dX8_goOn_62 : decode (m_code mX8_goOn) 62 = .ok (.return_, 1) := by decide +kernel
theorem dX8_roundsTillMore_0 : decode (m_code mX8_roundsTillMore) 0 = .ok (.aload_n 0, 1) := by decide +kernel
theorem dX8_roundsTillMore_1 : decode (m_code mX8_roundsTillMore) 1 = .ok (.invokevirtual 317, 3) := by decide +kernel
theorem dX8_roundsTillMore_4 : decode (m_code mX8_roundsTillMore) 4 = .ok (.istore_n 1, 1) := by decide +kernel
theorem dX8_roundsTillMore_5 : decode (m_code mX8_roundsTillMore) 5 = .ok (.aload_n 0, 1) := by decide +kernel
theorem dX8_roundsTillMore_6 : decode (m_code mX8_roundsTillMore) 6 = .ok (.iconst 0, 1) := by decide +kernel
theorem dX8_roundsTillMore_7 : decode (m_code mX8_roundsTillMore) 7 = .ok (.ldc_w 307, 3) := by decide +kernel
theorem dX8_roundsTillMore_10 : decode (m_code mX8_roundsTillMore) 10 = .ok (.invokevirtual 301, 3) := by decide +kernel
theorem dX8_roundsTillMore_13 : decode (m_code mX8_roundsTillMore) 13 = .ok (.pop, 1) := by decide +kernel
theorem dX8_roundsTillMore_14 : decode (m_code mX8_roundsTillMore) 14 = .ok (.iconst 0, 1) := by decide +kernel
theorem dX8_roundsTillMore_15 : decode (m_code mX8_roundsTillMore) 15 = .ok (.istore_n 2, 1) := by decide +kernel
theorem dX8_roundsTillMore_16 : decode (m_code mX8_roundsTillMore) 16 = .ok (.iload_n 2, 1) := by decide +kernel
theorem dX8_roundsTillMore_17 : decode (m_code mX8_roundsTillMore) 17 = .ok (.bipush 20, 2) := by decide +kernel
theorem dX8_roundsTillMore_19 : decode (m_code mX8_roundsTillMore) 19 = .ok (.if_icmp .ge 35, 3) := by decide +kernel
theorem dX8_roundsTillMore_22 : decode (m_code mX8_roundsTillMore) 22 = .ok (.aload_n 0, 1) := by decide +kernel
theorem dX8_roundsTillMore_23 : decode (m_code mX8_roundsTillMore) 23 = .ok (.iload_n 2, 1) := by decide +kernel
theorem dX8_roundsTillMore_24 : decode (m_code mX8_roundsTillMore) 24 = .ok (.invokevirtual 308, 3) := by decide +kernel
theorem dX8_roundsTillMore_27 : decode (m_code mX8_roundsTillMore) 27 = .ok (.aload_n 0, 1) := by decide +kernel
theorem dX8_roundsTillMore_28 : decode (m_code mX8_roundsTillMore) 28 = .ok (.iconst 0, 1) := by decide +kernel
theorem dX8_roundsTillMore_29 : decode (m_code mX8_roundsTillMore) 29 = .ok (.ldc_w 307, 3) := by decide +kernel
theorem dX8_roundsTillMore_32 : decode (m_code mX8_roundsTillMore) 32 = .ok (.invokevirtual 301, 3) := by decide +kernel
theorem dX8_roundsTillMore_35 : decode (m_code mX8_roundsTillMore) 35 = .ok (.pop, 1) := by decide +kernel
theorem dX8_roundsTillMore_36 : decode (m_code mX8_roundsTillMore) 36 = .ok (.aload_n 0, 1) := by decide +kernel
theorem dX8_roundsTillMore_37 : decode (m_code mX8_roundsTillMore) 37 = .ok (.invokevirtual 317, 3) := by decide +kernel
theorem dX8_roundsTillMore_40 : decode (m_code mX8_roundsTillMore) 40 = .ok (.iload_n 1, 1) := by decide +kernel
theorem dX8_roundsTillMore_41 : decode (m_code mX8_roundsTillMore) 41 = .ok (.if_icmp .le 7, 3) := by decide +kernel
theorem dX8_roundsTillMore_44 : decode (m_code mX8_roundsTillMore) 44 = .ok (.iload_n 2, 1) := by decide +kernel
theorem dX8_roundsTillMore_45 : decode (m_code mX8_roundsTillMore) 45 = .ok (.iconst 1, 1) := by decide +kernel
theorem dX8_roundsTillMore_46 : decode (m_code mX8_roundsTillMore) 46 = .ok (.iadd, 1) := by decide +kernel
theorem dX8_roundsTillMore_47 : decode (m_code mX8_roundsTillMore) 47 = .ok (.ireturn, 1) := by decide +kernel
theorem dX8_roundsTillMore_48 : decode (m_code mX8_roundsTillMore) 48 = .ok (.iinc 2 1, 3) := by decide +kernel
theorem dX8_roundsTillMore_51 : decode (m_code mX8_roundsTillMore) 51 = .ok (.goto (-35), 3) := by decide +kernel
theorem dX8_roundsTillMore_54 : decode (m_code mX8_roundsTillMore) 54 = .ok (.iconst (-1), 1) := by decide +kernel
theorem dX8_roundsTillMore_55 : decode (m_code mX8_roundsTillMore) 55 = .ok (.ireturn, 1) := by decide +kernel
theorem dX8_loggedByAll_0 : decode (m_code mX8_loggedByAll) 0 = .ok (.iconst 0, 1) := by decide +kernel
theorem dX8_loggedByAll_1 : decode (m_code mX8_loggedByAll) 1 = .ok (.istore_n 1, 1) := by decide +kernel
theorem dX8_loggedByAll_2 : decode (m_code mX8_loggedByAll) 2 = .ok (.iconst 0, 1) := by decide +kernel
theorem dX8_loggedByAll_3 : decode (m_code mX8_loggedByAll) 3 = .ok (.istore_n 2, 1) := by decide +kernel
theorem dX8_loggedByAll_4 : decode (m_code mX8_loggedByAll) 4 = .ok (.iload_n 2, 1) := by decide +kernel
theorem dX8_loggedByAll_5 : decode (m_code mX8_loggedByAll) 5 = .ok (.aload_n 0, 1) := by decide +kernel
theorem dX8_loggedByAll_6 : decode (m_code mX8_loggedByAll) 6 = .ok (.getfield 50, 3) := by decide +kernel
theorem dX8_loggedByAll_9 : decode (m_code mX8_loggedByAll) 9 = .ok (.if_icmp .ge 21, 3) := by decide +kernel
theorem dX8_loggedByAll_12 : decode (m_code mX8_loggedByAll) 12 = .ok (.iload_n 1, 1) := by decide +kernel
theorem dX8_loggedByAll_13 : decode (m_code mX8_loggedByAll) 13 = .ok (.aload_n 0, 1) := by decide +kernel
theorem dX8_loggedByAll_14 : decode (m_code mX8_loggedByAll) 14 = .ok (.getfield 20, 3) := by decide +kernel
theorem dX8_loggedByAll_17 : decode (m_code mX8_loggedByAll) 17 = .ok (.iload_n 2, 1) := by decide +kernel
theorem dX8_loggedByAll_18 : decode (m_code mX8_loggedByAll) 18 = .ok (.aaload, 1) := by decide +kernel
theorem dX8_loggedByAll_19 : decode (m_code mX8_loggedByAll) 19 = .ok (.getfield 280, 3) := by decide +kernel
theorem dX8_loggedByAll_22 : decode (m_code mX8_loggedByAll) 22 = .ok (.iadd, 1) := by decide +kernel
theorem dX8_loggedByAll_23 : decode (m_code mX8_loggedByAll) 23 = .ok (.istore_n 1, 1) := by decide +kernel
theorem dX8_loggedByAll_24 : decode (m_code mX8_loggedByAll) 24 = .ok (.iinc 2 1, 3) := by decide +kernel
theorem dX8_loggedByAll_27 : decode (m_code mX8_loggedByAll) 27 = .ok (.goto (-23), 3) := by decide +kernel
theorem dX8_loggedByAll_30 : decode (m_code mX8_loggedByAll) 30 = .ok (.iload_n 1, 1) := by decide +kernel
theorem dX8_loggedByAll_31 : decode (m_code mX8_loggedByAll) 31 = .ok (.ireturn, 1) := by decide +kernel
theorem dX8_loggedByHonest_0 : decode (m_code mX8_loggedByHonest) 0 = .ok (.iconst 0, 1) := by decide +kernel
theorem dX8_loggedByHonest_1 : decode (m_code mX8_loggedByHonest) 1 = .ok (.istore_n 1, 1) := by decide +kernel
theorem dX8_loggedByHonest_2 : decode (m_code mX8_loggedByHonest) 2 = .ok (.iconst 0, 1) := by decide +kernel
theorem dX8_loggedByHonest_3 : decode (m_code mX8_loggedByHonest) 3 = .ok (.istore_n 2, 1) := by decide +kernel
theorem dX8_loggedByHonest_4 : decode (m_code mX8_loggedByHonest) 4 = .ok (.iload_n 2, 1) := by decide +kernel
theorem dX8_loggedByHonest_5 : decode (m_code mX8_loggedByHonest) 5 = .ok (.aload_n 0, 1) := by decide +kernel
theorem dX8_loggedByHonest_6 : decode (m_code mX8_loggedByHonest) 6 = .ok (.getfield 50, 3) := by decide +kernel
theorem dX8_loggedByHonest_9 : decode (m_code mX8_loggedByHonest) 9 = .ok (.if_icmp .ge 37, 3) := by decide +kernel
theorem dX8_loggedByHonest_12 : decode (m_code mX8_loggedByHonest) 12 = .ok (.iload_n 1, 1) := by decide +kernel
theorem dX8_loggedByHonest_13 : decode (m_code mX8_loggedByHonest) 13 = .ok (.aload_n 0, 1) := by decide +kernel
theorem dX8_loggedByHonest_14 : decode (m_code mX8_loggedByHonest) 14 = .ok (.getfield 20, 3) := by decide +kernel
theorem dX8_loggedByHonest_17 : decode (m_code mX8_loggedByHonest) 17 = .ok (.iload_n 2, 1) := by decide +kernel
theorem dX8_loggedByHonest_18 : decode (m_code mX8_loggedByHonest) 18 = .ok (.aaload, 1) := by decide +kernel
theorem dX8_loggedByHonest_19 : decode (m_code mX8_loggedByHonest) 19 = .ok (.getfield 92, 3) := by decide +kernel
theorem dX8_loggedByHonest_22 : decode (m_code mX8_loggedByHonest) 22 = .ok (.ifCond .ne 15, 3) := by decide +kernel
theorem dX8_loggedByHonest_25 : decode (m_code mX8_loggedByHonest) 25 = .ok (.aload_n 0, 1) := by decide +kernel
theorem dX8_loggedByHonest_26 : decode (m_code mX8_loggedByHonest) 26 = .ok (.getfield 20, 3) := by decide +kernel
theorem dX8_loggedByHonest_29 : decode (m_code mX8_loggedByHonest) 29 = .ok (.iload_n 2, 1) := by decide +kernel
theorem dX8_loggedByHonest_30 : decode (m_code mX8_loggedByHonest) 30 = .ok (.aaload, 1) := by decide +kernel
theorem dX8_loggedByHonest_31 : decode (m_code mX8_loggedByHonest) 31 = .ok (.getfield 280, 3) := by decide +kernel
theorem dX8_loggedByHonest_34 : decode (m_code mX8_loggedByHonest) 34 = .ok (.goto 4, 3) := by decide +kernel
theorem dX8_loggedByHonest_37 : decode (m_code mX8_loggedByHonest) 37 = .ok (.iconst 0, 1) := by decide +kernel
theorem dX8_loggedByHonest_38 : decode (m_code mX8_loggedByHonest) 38 = .ok (.iadd, 1) := by decide +kernel
theorem dX8_loggedByHonest_39 : decode (m_code mX8_loggedByHonest) 39 = .ok (.istore_n 1, 1) := by decide +kernel
theorem dX8_loggedByHonest_40 : decode (m_code mX8_loggedByHonest) 40 = .ok (.iinc 2 1, 3) := by decide +kernel
theorem dX8_loggedByHonest_43 : decode (m_code mX8_loggedByHonest) 43 = .ok (.goto (-39), 3) := by decide +kernel
theorem dX8_loggedByHonest_46 : decode (m_code mX8_loggedByHonest) 46 = .ok (.iload_n 1, 1) := by decide +kernel
theorem dX8_loggedByHonest_47 : decode (m_code mX8_loggedByHonest) 47 = .ok (.ireturn, 1) := by decide +kernel
theorem dX8_runLine_0 : decode (m_code mX8_runLine) 0 = .ok (.aload_n 0, 1) := by decide +kernel
theorem dX8_runLine_1 : decode (m_code mX8_runLine) 1 = .ok (.getfield 46, 3) := by decide +kernel
theorem dX8_runLine_4 : decode (m_code mX8_runLine) 4 = .ok (.getfield 320, 3) := by decide +kernel
theorem dX8_runLine_7 : decode (m_code mX8_runLine) 7 = .ok (.iload_n 1, 1) := by decide +kernel
theorem dX8_runLine_8 : decode (m_code mX8_runLine) 8 = .ok (.iaload, 1) := by decide +kernel
theorem dX8_runLine_9 : decode (m_code mX8_runLine) 9 = .ok (.istore_n 2, 1) := by decide +kernel
theorem dX8_runLine_10 : decode (m_code mX8_runLine) 10 = .ok (.aload_n 0, 1) := by decide +kernel
theorem dX8_runLine_11 : decode (m_code mX8_runLine) 11 = .ok (.getfield 46, 3) := by decide +kernel
theorem dX8_runLine_14 : decode (m_code mX8_runLine) 14 = .ok (.getfield 323, 3) := by decide +kernel
theorem dX8_runLine_17 : decode (m_code mX8_runLine) 17 = .ok (.iload_n 1, 1) := by decide +kernel
theorem dX8_runLine_18 : decode (m_code mX8_runLine) 18 = .ok (.iaload, 1) := by decide +kernel
theorem dX8_runLine_19 : decode (m_code mX8_runLine) 19 = .ok (.istore_n 3, 1) := by decide +kernel
theorem dX8_runLine_20 : decode (m_code mX8_runLine) 20 = .ok (.aload_n 0, 1) := by decide +kernel
theorem dX8_runLine_21 : decode (m_code mX8_runLine) 21 = .ok (.getfield 46, 3) := by decide +kernel
theorem dX8_runLine_24 : decode (m_code mX8_runLine) 24 = .ok (.getfield 326, 3) := by decide +kernel
theorem dX8_runLine_27 : decode (m_code mX8_runLine) 27 = .ok (.iload_n 1, 1) := by decide +kernel
theorem dX8_runLine_28 : decode (m_code mX8_runLine) 28 = .ok (.iaload, 1) := by decide +kernel
theorem dX8_runLine_29 : decode (m_code mX8_runLine) 29 = .ok (.tableswitch 226 1 11 #[59, 75, 90, 107, 132, 141, 147, 226, 161, 180, 207], 59) := by decide +kernel
theorem dX8_runLine_88 : decode (m_code mX8_runLine) 88 = .ok (.aload_n 0, 1) := by decide +kernel
theorem dX8_runLine_89 : decode (m_code mX8_runLine) 89 = .ok (.iload_n 2, 1) := by decide +kernel
theorem dX8_runLine_90 : decode (m_code mX8_runLine) 90 = .ok (.iload_n 3, 1) := by decide +kernel
theorem dX8_runLine_91 : decode (m_code mX8_runLine) 91 = .ok (.invokevirtual 311, 3) := by decide +kernel
theorem dX8_runLine_94 : decode (m_code mX8_runLine) 94 = .ok (.iconst (-1), 1) := by decide +kernel
theorem dX8_runLine_95 : decode (m_code mX8_runLine) 95 = .ok (.if_icmp .eq 7, 3) := by decide +kernel
theorem dX8_runLine_98 : decode (m_code mX8_runLine) 98 = .ok (.iconst 1, 1) := by decide +kernel
theorem dX8_runLine_99 : decode (m_code mX8_runLine) 99 = .ok (.goto 4, 3) := by decide +kernel
theorem dX8_runLine_102 : decode (m_code mX8_runLine) 102 = .ok (.iconst 0, 1) := by decide +kernel
theorem dX8_runLine_103 : decode (m_code mX8_runLine) 103 = .ok (.ireturn, 1) := by decide +kernel
theorem dX8_runLine_104 : decode (m_code mX8_runLine) 104 = .ok (.aload_n 0, 1) := by decide +kernel
theorem dX8_runLine_105 : decode (m_code mX8_runLine) 105 = .ok (.iconst 0, 1) := by decide +kernel
theorem dX8_runLine_106 : decode (m_code mX8_runLine) 106 = .ok (.iload_n 2, 1) := by decide +kernel
theorem dX8_runLine_107 : decode (m_code mX8_runLine) 107 = .ok (.invokevirtual 301, 3) := by decide +kernel
theorem dX8_runLine_110 : decode (m_code mX8_runLine) 110 = .ok (.ifCond .le 7, 3) := by decide +kernel
theorem dX8_runLine_113 : decode (m_code mX8_runLine) 113 = .ok (.iconst 1, 1) := by decide +kernel
theorem dX8_runLine_114 : decode (m_code mX8_runLine) 114 = .ok (.goto 4, 3) := by decide +kernel
theorem dX8_runLine_117 : decode (m_code mX8_runLine) 117 = .ok (.iconst 0, 1) := by decide +kernel
theorem dX8_runLine_118 : decode (m_code mX8_runLine) 118 = .ok (.ireturn, 1) := by decide +kernel
theorem dX8_runLine_119 : decode (m_code mX8_runLine) 119 = .ok (.aload_n 0, 1) := by decide +kernel
theorem dX8_runLine_120 : decode (m_code mX8_runLine) 120 = .ok (.getfield 27, 3) := by decide +kernel
theorem dX8_runLine_123 : decode (m_code mX8_runLine) 123 = .ok (.iload_n 2, 1) := by decide +kernel
theorem dX8_runLine_124 : decode (m_code mX8_runLine) 124 = .ok (.invokevirtual 329, 3) := by decide +kernel
theorem dX8_runLine_127 : decode (m_code mX8_runLine) 127 = .ok (.ifCond .le 7, 3) := by decide +kernel
theorem dX8_runLine_130 : decode (m_code mX8_runLine) 130 = .ok (.iconst 1, 1) := by decide +kernel
theorem dX8_runLine_131 : decode (m_code mX8_runLine) 131 = .ok (.goto 4, 3) := by decide +kernel
theorem dX8_runLine_134 : decode (m_code mX8_runLine) 134 = .ok (.iconst 0, 1) := by decide +kernel
theorem dX8_runLine_135 : decode (m_code mX8_runLine) 135 = .ok (.ireturn, 1) := by decide +kernel
theorem dX8_runLine_136 : decode (m_code mX8_runLine) 136 = .ok (.aload_n 0, 1) := by decide +kernel
theorem dX8_runLine_137 : decode (m_code mX8_runLine) 137 = .ok (.iload_n 2, 1) := by decide +kernel
theorem dX8_runLine_138 : decode (m_code mX8_runLine) 138 = .ok (.invokevirtual 88, 3) := by decide +kernel
theorem dX8_runLine_141 : decode (m_code mX8_runLine) 141 = .ok (.ifCond .eq 18, 3) := by decide +kernel
theorem dX8_runLine_144 : decode (m_code mX8_runLine) 144 = .ok (.aload_n 0, 1) := by decide +kernel
theorem dX8_runLine_145 : decode (m_code mX8_runLine) 145 = .ok (.getfield 27, 3) := by decide +kernel
theorem dX8_runLine_148 : decode (m_code mX8_runLine) 148 = .ok (.iload_n 2, 1) := by decide +kernel
theorem dX8_runLine_149 : decode (m_code mX8_runLine) 149 = .ok (.invokevirtual 332, 3) := by decide +kernel
theorem dX8_runLine_152 : decode (m_code mX8_runLine) 152 = .ok (.ifCond .lt 7, 3) := by decide +kernel
theorem dX8_runLine_155 : decode (m_code mX8_runLine) 155 = .ok (.iconst 1, 1) := by decide +kernel
theorem dX8_runLine_156 : decode (m_code mX8_runLine) 156 = .ok (.goto 4, 3) := by decide +kernel
theorem dX8_runLine_159 : decode (m_code mX8_runLine) 159 = .ok (.iconst 0, 1) := by decide +kernel
theorem dX8_runLine_160 : decode (m_code mX8_runLine) 160 = .ok (.ireturn, 1) := by decide +kernel
theorem dX8_runLine_161 : decode (m_code mX8_runLine) 161 = .ok (.aload_n 0, 1) := by decide +kernel
theorem dX8_runLine_162 : decode (m_code mX8_runLine) 162 = .ok (.getfield 27, 3) := by decide +kernel
theorem dX8_runLine_165 : decode (m_code mX8_runLine) 165 = .ok (.iload_n 2, 1) := by decide +kernel
theorem dX8_runLine_166 : decode (m_code mX8_runLine) 166 = .ok (.invokevirtual 335, 3) := by decide +kernel
theorem dX8_runLine_169 : decode (m_code mX8_runLine) 169 = .ok (.ireturn, 1) := by decide +kernel
theorem dX8_runLine_170 : decode (m_code mX8_runLine) 170 = .ok (.aload_n 0, 1) := by decide +kernel
theorem dX8_runLine_171 : decode (m_code mX8_runLine) 171 = .ok (.iload_n 2, 1) := by decide +kernel
theorem dX8_runLine_172 : decode (m_code mX8_runLine) 172 = .ok (.invokevirtual 314, 3) := by decide +kernel
theorem dX8_runLine_175 : decode (m_code mX8_runLine) 175 = .ok (.ireturn, 1) := by decide +kernel
theorem dX8_runLine_176 : decode (m_code mX8_runLine) 176 = .ok (.aload_n 0, 1) := by decide +kernel
theorem dX8_runLine_177 : decode (m_code mX8_runLine) 177 = .ok (.iload_n 2, 1) := by decide +kernel
theorem dX8_runLine_178 : decode (m_code mX8_runLine) 178 = .ok (.invokevirtual 338, 3) := by decide +kernel
theorem dX8_runLine_181 : decode (m_code mX8_runLine) 181 = .ok (.ifCond .lt 7, 3) := by decide +kernel
theorem dX8_runLine_184 : decode (m_code mX8_runLine) 184 = .ok (.iconst 1, 1) := by decide +kernel
theorem dX8_runLine_185 : decode (m_code mX8_runLine) 185 = .ok (.goto 4, 3) := by decide +kernel
theorem dX8_runLine_188 : decode (m_code mX8_runLine) 188 = .ok (.iconst 0, 1) := by decide +kernel
theorem dX8_runLine_189 : decode (m_code mX8_runLine) 189 = .ok (.ireturn, 1) := by decide +kernel
theorem dX8_runLine_190 : decode (m_code mX8_runLine) 190 = .ok (.aload_n 0, 1) := by decide +kernel
theorem dX8_runLine_191 : decode (m_code mX8_runLine) 191 = .ok (.iload_n 2, 1) := by decide +kernel
theorem dX8_runLine_192 : decode (m_code mX8_runLine) 192 = .ok (.iconst 0, 1) := by decide +kernel
theorem dX8_runLine_193 : decode (m_code mX8_runLine) 193 = .ok (.iload_n 3, 1) := by decide +kernel
theorem dX8_runLine_194 : decode (m_code mX8_runLine) 194 = .ok (.iconst 0, 1) := by decide +kernel
theorem dX8_runLine_195 : decode (m_code mX8_runLine) 195 = .ok (.iconst 0, 1) := by decide +kernel
theorem dX8_runLine_196 : decode (m_code mX8_runLine) 196 = .ok (.invokevirtual 341, 3) := by decide +kernel
theorem dX8_runLine_199 : decode (m_code mX8_runLine) 199 = .ok (.iconst (-1), 1) := by decide +kernel
theorem dX8_runLine_200 : decode (m_code mX8_runLine) 200 = .ok (.if_icmp .eq 7, 3) := by decide +kernel
theorem dX8_runLine_203 : decode (m_code mX8_runLine) 203 = .ok (.iconst 1, 1) := by decide +kernel
theorem dX8_runLine_204 : decode (m_code mX8_runLine) 204 = .ok (.goto 4, 3) := by decide +kernel
theorem dX8_runLine_207 : decode (m_code mX8_runLine) 207 = .ok (.iconst 0, 1) := by decide +kernel
theorem dX8_runLine_208 : decode (m_code mX8_runLine) 208 = .ok (.ireturn, 1) := by decide +kernel
theorem dX8_runLine_209 : decode (m_code mX8_runLine) 209 = .ok (.aload_n 0, 1) := by decide +kernel
theorem dX8_runLine_210 : decode (m_code mX8_runLine) 210 = .ok (.iload_n 2, 1) := by decide +kernel
theorem dX8_runLine_211 : decode (m_code mX8_runLine) 211 = .ok (.iconst 1, 1) := by decide +kernel
theorem dX8_runLine_212 : decode (m_code mX8_runLine) 212 = .ok (.iload_n 3, 1) := by decide +kernel
theorem dX8_runLine_213 : decode (m_code mX8_runLine) 213 = .ok (.aload_n 0, 1) := by decide +kernel
theorem dX8_runLine_214 : decode (m_code mX8_runLine) 214 = .ok (.getfield 46, 3) := by decide +kernel
theorem dX8_runLine_217 : decode (m_code mX8_runLine) 217 = .ok (.getfield 344, 3) := by decide +kernel
theorem dX8_runLine_220 : decode (m_code mX8_runLine) 220 = .ok (.iload_n 1, 1) := by decide +kernel
theorem dX8_runLine_221 : decode (m_code mX8_runLine) 221 = .ok (.iaload, 1) := by decide +kernel
theorem dX8_runLine_222 : decode (m_code mX8_runLine) 222 = .ok (.iconst 0, 1) := by decide +kernel
theorem dX8_runLine_223 : decode (m_code mX8_runLine) 223 = .ok (.invokevirtual 341, 3) := by decide +kernel
theorem dX8_runLine_226 : decode (m_code mX8_runLine) 226 = .ok (.iconst (-1), 1) := by decide +kernel
theorem dX8_runLine_227 : decode (m_code mX8_runLine) 227 = .ok (.if_icmp .eq 7, 3) := by decide +kernel
theorem dX8_runLine_230 : decode (m_code mX8_runLine) 230 = .ok (.iconst 1, 1) := by decide +kernel
theorem dX8_runLine_231 : decode (m_code mX8_runLine) 231 = .ok (.goto 4, 3) := by decide +kernel
theorem dX8_runLine_234 : decode (m_code mX8_runLine) 234 = .ok (.iconst 0, 1) := by decide +kernel
theorem dX8_runLine_235 : decode (m_code mX8_runLine) 235 = .ok (.ireturn, 1) := by decide +kernel
theorem dX8_runLine_236 : decode (m_code mX8_runLine) 236 = .ok (.aload_n 0, 1) := by decide +kernel
theorem dX8_runLine_237 : decode (m_code mX8_runLine) 237 = .ok (.iload_n 2, 1) := by decide +kernel
theorem dX8_runLine_238 : decode (m_code mX8_runLine) 238 = .ok (.iconst 2, 1) := by decide +kernel
theorem dX8_runLine_239 : decode (m_code mX8_runLine) 239 = .ok (.iconst 0, 1) := by decide +kernel
theorem dX8_runLine_240 : decode (m_code mX8_runLine) 240 = .ok (.iload_n 3, 1) := by decide +kernel
theorem dX8_runLine_241 : decode (m_code mX8_runLine) 241 = .ok (.iconst 0, 1) := by decide +kernel
theorem dX8_runLine_242 : decode (m_code mX8_runLine) 242 = .ok (.invokevirtual 341, 3) := by decide +kernel
theorem dX8_runLine_245 : decode (m_code mX8_runLine) 245 = .ok (.iconst (-1), 1) := by decide +kernel
theorem dX8_runLine_246 : decode (m_code mX8_runLine) 246 = .ok (.if_icmp .eq 7, 3) := by decide +kernel
theorem dX8_runLine_249 : decode (m_code mX8_runLine) 249 = .ok (.iconst 1, 1) := by decide +kernel
theorem dX8_runLine_250 : decode (m_code mX8_runLine) 250 = .ok (.goto 4, 3) := by decide +kernel
theorem dX8_runLine_253 : decode (m_code mX8_runLine) 253 = .ok (.iconst 0, 1) := by decide +kernel
theorem dX8_runLine_254 : decode (m_code mX8_runLine) 254 = .ok (.ireturn, 1) := by decide +kernel
theorem dX8_runLine_255 : decode (m_code mX8_runLine) 255 = .ok (.iconst 0, 1) := by decide +kernel
theorem dX8_runLine_256 : decode (m_code mX8_runLine) 256 = .ok (.ireturn, 1) := by decide +kernel
