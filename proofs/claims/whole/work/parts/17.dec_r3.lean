theorem dX10_couplesCut_0 : decode (m_code mX10_couplesCut) 0 = .ok (.iconst 0, 1) := by decide +kernel
theorem dX10_couplesCut_1 : decode (m_code mX10_couplesCut) 1 = .ok (.istore_n 1, 1) := by decide +kernel
theorem dX10_couplesCut_2 : decode (m_code mX10_couplesCut) 2 = .ok (.iconst 0, 1) := by decide +kernel
theorem dX10_couplesCut_3 : decode (m_code mX10_couplesCut) 3 = .ok (.istore_n 2, 1) := by decide +kernel
theorem dX10_couplesCut_4 : decode (m_code mX10_couplesCut) 4 = .ok (.iload_n 2, 1) := by decide +kernel
theorem dX10_couplesCut_5 : decode (m_code mX10_couplesCut) 5 = .ok (.aload_n 0, 1) := by decide +kernel
theorem dX10_couplesCut_6 : decode (m_code mX10_couplesCut) 6 = .ok (.invokevirtual 47, 3) := by decide +kernel
theorem dX10_couplesCut_9 : decode (m_code mX10_couplesCut) 9 = .ok (.if_icmp .ge 29, 3) := by decide +kernel
theorem dX10_couplesCut_12 : decode (m_code mX10_couplesCut) 12 = .ok (.iload_n 1, 1) := by decide +kernel
theorem dX10_couplesCut_13 : decode (m_code mX10_couplesCut) 13 = .ok (.aload_n 0, 1) := by decide +kernel
theorem dX10_couplesCut_14 : decode (m_code mX10_couplesCut) 14 = .ok (.aload_n 0, 1) := by decide +kernel
theorem dX10_couplesCut_15 : decode (m_code mX10_couplesCut) 15 = .ok (.getfield 7, 3) := by decide +kernel
theorem dX10_couplesCut_18 : decode (m_code mX10_couplesCut) 18 = .ok (.aload_n 0, 1) := by decide +kernel
theorem dX10_couplesCut_19 : decode (m_code mX10_couplesCut) 19 = .ok (.iload_n 2, 1) := by decide +kernel
theorem dX10_couplesCut_20 : decode (m_code mX10_couplesCut) 20 = .ok (.invokevirtual 54, 3) := by decide +kernel
theorem dX10_couplesCut_23 : decode (m_code mX10_couplesCut) 23 = .ok (.bipush 11, 2) := by decide +kernel
theorem dX10_couplesCut_25 : decode (m_code mX10_couplesCut) 25 = .ok (.iadd, 1) := by decide +kernel
theorem dX10_couplesCut_26 : decode (m_code mX10_couplesCut) 26 = .ok (.iaload, 1) := by decide +kernel
theorem dX10_couplesCut_27 : decode (m_code mX10_couplesCut) 27 = .ok (.invokevirtual 131, 3) := by decide +kernel
theorem dX10_couplesCut_30 : decode (m_code mX10_couplesCut) 30 = .ok (.iadd, 1) := by decide +kernel
theorem dX10_couplesCut_31 : decode (m_code mX10_couplesCut) 31 = .ok (.istore_n 1, 1) := by decide +kernel
theorem dX10_couplesCut_32 : decode (m_code mX10_couplesCut) 32 = .ok (.iinc 2 1, 3) := by decide +kernel
theorem dX10_couplesCut_35 : decode (m_code mX10_couplesCut) 35 = .ok (.goto (-31), 3) := by decide +kernel
theorem dX10_couplesCut_38 : decode (m_code mX10_couplesCut) 38 = .ok (.iload_n 1, 1) := by decide +kernel
theorem dX10_couplesCut_39 : decode (m_code mX10_couplesCut) 39 = .ok (.iconst 2, 1) := by decide +kernel
theorem dX10_couplesCut_40 : decode (m_code mX10_couplesCut) 40 = .ok (.idiv, 1) := by decide +kernel
theorem dX10_couplesCut_41 : decode (m_code mX10_couplesCut) 41 = .ok (.ireturn, 1) := by decide +kernel
theorem dX10_log_0 : decode (m_code mX10_log) 0 = .ok (.aload_n 0, 1) := by decide +kernel
theorem dX10_log_1 : decode (m_code mX10_log) 1 = .ok (.iconst 0, 1) := by decide +kernel
theorem dX10_log_2 : decode (m_code mX10_log) 2 = .ok (.putfield 44, 3) := by decide +kernel
theorem dX10_log_5 : decode (m_code mX10_log) 5 = .ok (.aload_n 0, 1) := by decide +kernel
theorem dX10_log_6 : decode (m_code mX10_log) 6 = .ok (.iload_n 1, 1) := by decide +kernel
theorem dX10_log_7 : decode (m_code mX10_log) 7 = .ok (.invokevirtual 71, 3) := by decide +kernel
theorem dX10_log_10 : decode (m_code mX10_log) 10 = .ok (.ifCond .eq 37, 3) := by decide +kernel
theorem dX10_log_13 : decode (m_code mX10_log) 13 = .ok (.aload_n 0, 1) := by decide +kernel
theorem dX10_log_14 : decode (m_code mX10_log) 14 = .ok (.iload_n 2, 1) := by decide +kernel
theorem dX10_log_15 : decode (m_code mX10_log) 15 = .ok (.iconst 0, 1) := by decide +kernel
theorem dX10_log_16 : decode (m_code mX10_log) 16 = .ok (.aload_n 0, 1) := by decide +kernel
theorem dX10_log_17 : decode (m_code mX10_log) 17 = .ok (.iload_n 1, 1) := by decide +kernel
theorem dX10_log_18 : decode (m_code mX10_log) 18 = .ok (.invokevirtual 202, 3) := by decide +kernel
theorem dX10_log_21 : decode (m_code mX10_log) 21 = .ok (.iconst 1, 1) := by decide +kernel
theorem dX10_log_22 : decode (m_code mX10_log) 22 = .ok (.isub, 1) := by decide +kernel
theorem dX10_log_23 : decode (m_code mX10_log) 23 = .ok (.invokevirtual 61, 3) := by decide +kernel
theorem dX10_log_26 : decode (m_code mX10_log) 26 = .ok (.ifCond .eq 21, 3) := by decide +kernel
theorem dX10_log_29 : decode (m_code mX10_log) 29 = .ok (.aload_n 0, 1) := by decide +kernel
theorem dX10_log_30 : decode (m_code mX10_log) 30 = .ok (.getfield 7, 3) := by decide +kernel
theorem dX10_log_33 : decode (m_code mX10_log) 33 = .ok (.aload_n 0, 1) := by decide +kernel
theorem dX10_log_34 : decode (m_code mX10_log) 34 = .ok (.iload_n 1, 1) := by decide +kernel
theorem dX10_log_35 : decode (m_code mX10_log) 35 = .ok (.invokevirtual 54, 3) := by decide +kernel
theorem dX10_log_38 : decode (m_code mX10_log) 38 = .ok (.bipush 12, 2) := by decide +kernel
theorem dX10_log_40 : decode (m_code mX10_log) 40 = .ok (.iadd, 1) := by decide +kernel
theorem dX10_log_41 : decode (m_code mX10_log) 41 = .ok (.iload_n 2, 1) := by decide +kernel
theorem dX10_log_42 : decode (m_code mX10_log) 42 = .ok (.iadd, 1) := by decide +kernel
theorem dX10_log_43 : decode (m_code mX10_log) 43 = .ok (.iaload, 1) := by decide +kernel
theorem dX10_log_44 : decode (m_code mX10_log) 44 = .ok (.goto 4, 3) := by decide +kernel
theorem dX10_log_47 : decode (m_code mX10_log) 47 = .ok (.iconst (-1), 1) := by decide +kernel
theorem dX10_log_48 : decode (m_code mX10_log) 48 = .ok (.ireturn, 1) := by decide +kernel
theorem dX10_block_0 : decode (m_code mX10_block) 0 = .ok (.aload_n 0, 1) := by decide +kernel
theorem dX10_block_1 : decode (m_code mX10_block) 1 = .ok (.iconst 0, 1) := by decide +kernel
theorem dX10_block_2 : decode (m_code mX10_block) 2 = .ok (.putfield 44, 3) := by decide +kernel
theorem dX10_block_5 : decode (m_code mX10_block) 5 = .ok (.aload_n 0, 1) := by decide +kernel
theorem dX10_block_6 : decode (m_code mX10_block) 6 = .ok (.iload_n 1, 1) := by decide +kernel
theorem dX10_block_7 : decode (m_code mX10_block) 7 = .ok (.invokevirtual 192, 3) := by decide +kernel
theorem dX10_block_10 : decode (m_code mX10_block) 10 = .ok (.ifCond .eq 14, 3) := by decide +kernel
theorem dX10_block_13 : decode (m_code mX10_block) 13 = .ok (.aload_n 0, 1) := by decide +kernel
theorem dX10_block_14 : decode (m_code mX10_block) 14 = .ok (.iload_n 2, 1) := by decide +kernel
theorem dX10_block_15 : decode (m_code mX10_block) 15 = .ok (.iconst 0, 1) := by decide +kernel
theorem dX10_block_16 : decode (m_code mX10_block) 16 = .ok (.bipush 7, 2) := by decide +kernel
theorem dX10_block_18 : decode (m_code mX10_block) 18 = .ok (.invokevirtual 61, 3) := by decide +kernel
theorem dX10_block_21 : decode (m_code mX10_block) 21 = .ok (.ifCond .ne 5, 3) := by decide +kernel
theorem dX10_block_24 : decode (m_code mX10_block) 24 = .ok (.iconst (-1), 1) := by decide +kernel
theorem dX10_block_25 : decode (m_code mX10_block) 25 = .ok (.ireturn, 1) := by decide +kernel
theorem dX10_block_26 : decode (m_code mX10_block) 26 = .ok (.iload_n 2, 1) := by decide +kernel
theorem dX10_block_27 : decode (m_code mX10_block) 27 = .ok (.bipush 7, 2) := by decide +kernel
theorem dX10_block_29 : decode (m_code mX10_block) 29 = .ok (.if_icmp .ne 17, 3) := by decide +kernel
theorem dX10_block_32 : decode (m_code mX10_block) 32 = .ok (.aload_n 0, 1) := by decide +kernel
theorem dX10_block_33 : decode (m_code mX10_block) 33 = .ok (.iload_n 1, 1) := by decide +kernel
theorem dX10_block_34 : decode (m_code mX10_block) 34 = .ok (.invokevirtual 189, 3) := by decide +kernel
theorem dX10_block_37 : decode (m_code mX10_block) 37 = .ok (.ifCond .eq 7, 3) := by decide +kernel
theorem dX10_block_40 : decode (m_code mX10_block) 40 = .ok (.iconst 1, 1) := by decide +kernel
theorem dX10_block_41 : decode (m_code mX10_block) 41 = .ok (.goto 4, 3) := by decide +kernel
theorem dX10_block_44 : decode (m_code mX10_block) 44 = .ok (.iconst 0, 1) := by decide +kernel
theorem dX10_block_45 : decode (m_code mX10_block) 45 = .ok (.ireturn, 1) := by decide +kernel
theorem dX10_block_46 : decode (m_code mX10_block) 46 = .ok (.aload_n 0, 1) := by decide +kernel
theorem dX10_block_47 : decode (m_code mX10_block) 47 = .ok (.getfield 7, 3) := by decide +kernel
theorem dX10_block_50 : decode (m_code mX10_block) 50 = .ok (.bipush 16, 2) := by decide +kernel
theorem dX10_block_52 : decode (m_code mX10_block) 52 = .ok (.bipush 100, 2) := by decide +kernel
theorem dX10_block_54 : decode (m_code mX10_block) 54 = .ok (.iload_n 2, 1) := by decide +kernel
theorem dX10_block_55 : decode (m_code mX10_block) 55 = .ok (.imul, 1) := by decide +kernel
theorem dX10_block_56 : decode (m_code mX10_block) 56 = .ok (.iadd, 1) := by decide +kernel
theorem dX10_block_57 : decode (m_code mX10_block) 57 = .ok (.iload_n 1, 1) := by decide +kernel
theorem dX10_block_58 : decode (m_code mX10_block) 58 = .ok (.iadd, 1) := by decide +kernel
theorem dX10_block_59 : decode (m_code mX10_block) 59 = .ok (.iaload, 1) := by decide +kernel
theorem dX10_block_60 : decode (m_code mX10_block) 60 = .ok (.istore_n 3, 1) := by decide +kernel
theorem dX10_block_61 : decode (m_code mX10_block) 61 = .ok (.iload_n 2, 1) := by decide +kernel
theorem dX10_block_62 : decode (m_code mX10_block) 62 = .ok (.iconst 1, 1) := by decide +kernel
theorem dX10_block_63 : decode (m_code mX10_block) 63 = .ok (.if_icmp .eq 8, 3) := by decide +kernel
theorem dX10_block_66 : decode (m_code mX10_block) 66 = .ok (.iload_n 2, 1) := by decide +kernel
theorem dX10_block_67 : decode (m_code mX10_block) 67 = .ok (.iconst 4, 1) := by decide +kernel
theorem dX10_block_68 : decode (m_code mX10_block) 68 = .ok (.if_icmp .ne 9, 3) := by decide +kernel
theorem dX10_block_71 : decode (m_code mX10_block) 71 = .ok (.iload_n 3, 1) := by decide +kernel
theorem dX10_block_72 : decode (m_code mX10_block) 72 = .ok (.iconst 1, 1) := by decide +kernel
theorem dX10_block_73 : decode (m_code mX10_block) 73 = .ok (.isub, 1) := by decide +kernel
theorem dX10_block_74 : decode (m_code mX10_block) 74 = .ok (.goto 4, 3) := by decide +kernel
theorem dX10_block_77 : decode (m_code mX10_block) 77 = .ok (.iload_n 3, 1) := by decide +kernel
theorem dX10_block_78 : decode (m_code mX10_block) 78 = .ok (.ireturn, 1) := by decide +kernel
theorem dX10_marks_0 : decode (m_code mX10_marks) 0 = .ok (.aload_n 0, 1) := by decide +kernel
theorem dX10_marks_1 : decode (m_code mX10_marks) 1 = .ok (.iconst 0, 1) := by decide +kernel
theorem dX10_marks_2 : decode (m_code mX10_marks) 2 = .ok (.putfield 44, 3) := by decide +kernel
theorem dX10_marks_5 : decode (m_code mX10_marks) 5 = .ok (.aload_n 0, 1) := by decide +kernel
theorem dX10_marks_6 : decode (m_code mX10_marks) 6 = .ok (.iload_n 1, 1) := by decide +kernel
theorem dX10_marks_7 : decode (m_code mX10_marks) 7 = .ok (.invokevirtual 71, 3) := by decide +kernel
theorem dX10_marks_10 : decode (m_code mX10_marks) 10 = .ok (.ifCond .eq 34, 3) := by decide +kernel
theorem dX10_marks_13 : decode (m_code mX10_marks) 13 = .ok (.aload_n 0, 1) := by decide +kernel
theorem dX10_marks_14 : decode (m_code mX10_marks) 14 = .ok (.iload_n 2, 1) := by decide +kernel
theorem dX10_marks_15 : decode (m_code mX10_marks) 15 = .ok (.invokevirtual 192, 3) := by decide +kernel
theorem dX10_marks_18 : decode (m_code mX10_marks) 18 = .ok (.ifCond .eq 26, 3) := by decide +kernel
theorem dX10_marks_21 : decode (m_code mX10_marks) 21 = .ok (.aload_n 0, 1) := by decide +kernel
theorem dX10_marks_22 : decode (m_code mX10_marks) 22 = .ok (.aload_n 0, 1) := by decide +kernel
theorem dX10_marks_23 : decode (m_code mX10_marks) 23 = .ok (.getfield 7, 3) := by decide +kernel
theorem dX10_marks_26 : decode (m_code mX10_marks) 26 = .ok (.aload_n 0, 1) := by decide +kernel
theorem dX10_marks_27 : decode (m_code mX10_marks) 27 = .ok (.iload_n 1, 1) := by decide +kernel
theorem dX10_marks_28 : decode (m_code mX10_marks) 28 = .ok (.invokevirtual 54, 3) := by decide +kernel
theorem dX10_marks_31 : decode (m_code mX10_marks) 31 = .ok (.sipush 212, 3) := by decide +kernel
theorem dX10_marks_34 : decode (m_code mX10_marks) 34 = .ok (.iadd, 1) := by decide +kernel
theorem dX10_marks_35 : decode (m_code mX10_marks) 35 = .ok (.iload_n 2, 1) := by decide +kernel
theorem dX10_marks_36 : decode (m_code mX10_marks) 36 = .ok (.iadd, 1) := by decide +kernel
theorem dX10_marks_37 : decode (m_code mX10_marks) 37 = .ok (.iaload, 1) := by decide +kernel
theorem dX10_marks_38 : decode (m_code mX10_marks) 38 = .ok (.invokevirtual 131, 3) := by decide +kernel
theorem dX10_marks_41 : decode (m_code mX10_marks) 41 = .ok (.goto 4, 3) := by decide +kernel
theorem dX10_marks_44 : decode (m_code mX10_marks) 44 = .ok (.iconst (-1), 1) := by decide +kernel
theorem dX10_marks_45 : decode (m_code mX10_marks) 45 = .ok (.ireturn, 1) := by decide +kernel
theorem dX10_markers_0 : decode (m_code mX10_markers) 0 = .ok (.aload_n 0, 1) := by decide +kernel
theorem dX10_markers_1 : decode (m_code mX10_markers) 1 = .ok (.iconst 0, 1) := by decide +kernel
theorem dX10_markers_2 : decode (m_code mX10_markers) 2 = .ok (.putfield 44, 3) := by decide +kernel
theorem dX10_markers_5 : decode (m_code mX10_markers) 5 = .ok (.aload_n 0, 1) := by decide +kernel
theorem dX10_markers_6 : decode (m_code mX10_markers) 6 = .ok (.iload_n 1, 1) := by decide +kernel
theorem dX10_markers_7 : decode (m_code mX10_markers) 7 = .ok (.invokevirtual 71, 3) := by decide +kernel
theorem dX10_markers_10 : decode (m_code mX10_markers) 10 = .ok (.ifCond .eq 30, 3) := by decide +kernel
theorem dX10_markers_13 : decode (m_code mX10_markers) 13 = .ok (.aload_n 0, 1) := by decide +kernel
theorem dX10_markers_14 : decode (m_code mX10_markers) 14 = .ok (.iload_n 2, 1) := by decide +kernel
theorem dX10_markers_15 : decode (m_code mX10_markers) 15 = .ok (.invokevirtual 192, 3) := by decide +kernel
theorem dX10_markers_18 : decode (m_code mX10_markers) 18 = .ok (.ifCond .eq 22, 3) := by decide +kernel
theorem dX10_markers_21 : decode (m_code mX10_markers) 21 = .ok (.aload_n 0, 1) := by decide +kernel
theorem dX10_markers_22 : decode (m_code mX10_markers) 22 = .ok (.getfield 7, 3) := by decide +kernel
theorem dX10_markers_25 : decode (m_code mX10_markers) 25 = .ok (.aload_n 0, 1) := by decide +kernel
theorem dX10_markers_26 : decode (m_code mX10_markers) 26 = .ok (.iload_n 1, 1) := by decide +kernel
theorem dX10_markers_27 : decode (m_code mX10_markers) 27 = .ok (.invokevirtual 54, 3) := by decide +kernel
theorem dX10_markers_30 : decode (m_code mX10_markers) 30 = .ok (.sipush 212, 3) := by decide +kernel
theorem dX10_markers_33 : decode (m_code mX10_markers) 33 = .ok (.iadd, 1) := by decide +kernel
theorem dX10_markers_34 : decode (m_code mX10_markers) 34 = .ok (.iload_n 2, 1) := by decide +kernel
theorem dX10_markers_35 : decode (m_code mX10_markers) 35 = .ok (.iadd, 1) := by decide +kernel
theorem dX10_markers_36 : decode (m_code mX10_markers) 36 = .ok (.iaload, 1) := by decide +kernel
theorem dX10_markers_37 : decode (m_code mX10_markers) 37 = .ok (.goto 4, 3) := by decide +kernel
theorem dX10_markers_40 : decode (m_code mX10_markers) 40 = .ok (.iconst (-1), 1) := by decide +kernel
theorem dX10_markers_41 : decode (m_code mX10_markers) 41 = .ok (.ireturn, 1) := by decide +kernel
theorem dX10_timeouts_0 : decode (m_code mX10_timeouts) 0 = .ok (.aload_n 0, 1) := by decide +kernel
theorem dX10_timeouts_1 : decode (m_code mX10_timeouts) 1 = .ok (.iconst 0, 1) := by decide +kernel
theorem dX10_timeouts_2 : decode (m_code mX10_timeouts) 2 = .ok (.putfield 44, 3) := by decide +kernel
theorem dX10_timeouts_5 : decode (m_code mX10_timeouts) 5 = .ok (.aload_n 0, 1) := by decide +kernel
theorem dX10_timeouts_6 : decode (m_code mX10_timeouts) 6 = .ok (.iload_n 1, 1) := by decide +kernel
theorem dX10_timeouts_7 : decode (m_code mX10_timeouts) 7 = .ok (.invokevirtual 71, 3) := by decide +kernel
theorem dX10_timeouts_10 : decode (m_code mX10_timeouts) 10 = .ok (.ifCond .eq 38, 3) := by decide +kernel
theorem dX10_timeouts_13 : decode (m_code mX10_timeouts) 13 = .ok (.aload_n 0, 1) := by decide +kernel
theorem dX10_timeouts_14 : decode (m_code mX10_timeouts) 14 = .ok (.iload_n 2, 1) := by decide +kernel
theorem dX10_timeouts_15 : decode (m_code mX10_timeouts) 15 = .ok (.iconst 1, 1) := by decide +kernel
theorem dX10_timeouts_16 : decode (m_code mX10_timeouts) 16 = .ok (.sipush 200, 3) := by decide +kernel
theorem dX10_timeouts_19 : decode (m_code mX10_timeouts) 19 = .ok (.invokevirtual 61, 3) := by decide +kernel
theorem dX10_timeouts_22 : decode (m_code mX10_timeouts) 22 = .ok (.ifCond .eq 26, 3) := by decide +kernel
theorem dX10_timeouts_25 : decode (m_code mX10_timeouts) 25 = .ok (.aload_n 0, 1) := by decide +kernel
theorem dX10_timeouts_26 : decode (m_code mX10_timeouts) 26 = .ok (.aload_n 0, 1) := by decide +kernel
theorem dX10_timeouts_27 : decode (m_code mX10_timeouts) 27 = .ok (.getfield 7, 3) := by decide +kernel
theorem dX10_timeouts_30 : decode (m_code mX10_timeouts) 30 = .ok (.aload_n 0, 1) := by decide +kernel
theorem dX10_timeouts_31 : decode (m_code mX10_timeouts) 31 = .ok (.iload_n 1, 1) := by decide +kernel
theorem dX10_timeouts_32 : decode (m_code mX10_timeouts) 32 = .ok (.invokevirtual 54, 3) := by decide +kernel
theorem dX10_timeouts_35 : decode (m_code mX10_timeouts) 35 = .ok (.sipush 312, 3) := by decide +kernel
theorem dX10_timeouts_38 : decode (m_code mX10_timeouts) 38 = .ok (.iadd, 1) := by decide +kernel
theorem dX10_timeouts_39 : decode (m_code mX10_timeouts) 39 = .ok (.iload_n 2, 1) := by decide +kernel
theorem dX10_timeouts_40 : decode (m_code mX10_timeouts) 40 = .ok (.iadd, 1) := by decide +kernel
theorem dX10_timeouts_41 : decode (m_code mX10_timeouts) 41 = .ok (.iaload, 1) := by decide +kernel
theorem dX10_timeouts_42 : decode (m_code mX10_timeouts) 42 = .ok (.invokevirtual 131, 3) := by decide +kernel
theorem dX10_timeouts_45 : decode (m_code mX10_timeouts) 45 = .ok (.goto 4, 3) := by decide +kernel
theorem dX10_timeouts_48 : decode (m_code mX10_timeouts) 48 = .ok (.iconst (-1), 1) := by decide +kernel
theorem dX10_timeouts_49 : decode (m_code mX10_timeouts) 49 = .ok (.ireturn, 1) := by decide +kernel
theorem dX10_message_0 : decode (m_code mX10_message) 0 = .ok (.aload_n 0, 1) := by decide +kernel
theorem dX10_message_1 : decode (m_code mX10_message) 1 = .ok (.iconst 0, 1) := by decide +kernel
theorem dX10_message_2 : decode (m_code mX10_message) 2 = .ok (.putfield 44, 3) := by decide +kernel
theorem dX10_message_5 : decode (m_code mX10_message) 5 = .ok (.aload_n 0, 1) := by decide +kernel
theorem dX10_message_6 : decode (m_code mX10_message) 6 = .ok (.iload_n 1, 1) := by decide +kernel
theorem dX10_message_7 : decode (m_code mX10_message) 7 = .ok (.invokevirtual 153, 3) := by decide +kernel
theorem dX10_message_10 : decode (m_code mX10_message) 10 = .ok (.ifCond .eq 13, 3) := by decide +kernel
theorem dX10_message_13 : decode (m_code mX10_message) 13 = .ok (.aload_n 0, 1) := by decide +kernel
theorem dX10_message_14 : decode (m_code mX10_message) 14 = .ok (.iload_n 2, 1) := by decide +kernel
theorem dX10_message_15 : decode (m_code mX10_message) 15 = .ok (.iconst 0, 1) := by decide +kernel
theorem dX10_message_16 : decode (m_code mX10_message) 16 = .ok (.iconst 4, 1) := by decide +kernel
theorem dX10_message_17 : decode (m_code mX10_message) 17 = .ok (.invokevirtual 61, 3) := by decide +kernel
theorem dX10_message_20 : decode (m_code mX10_message) 20 = .ok (.ifCond .ne 6, 3) := by decide +kernel
theorem dX10_message_23 : decode (m_code mX10_message) 23 = .ok (.bipush (-2), 2) := by decide +kernel
theorem dX10_message_25 : decode (m_code mX10_message) 25 = .ok (.ireturn, 1) := by decide +kernel
theorem dX10_message_26 : decode (m_code mX10_message) 26 = .ok (.aload_n 0, 1) := by decide +kernel
theorem dX10_message_27 : decode (m_code mX10_message) 27 = .ok (.getfield 7, 3) := by decide +kernel
theorem dX10_message_30 : decode (m_code mX10_message) 30 = .ok (.sipush 816, 3) := by decide +kernel
theorem dX10_message_33 : decode (m_code mX10_message) 33 = .ok (.iconst 5, 1) := by decide +kernel
theorem dX10_message_34 : decode (m_code mX10_message) 34 = .ok (.iload_n 1, 1) := by decide +kernel
theorem dX10_message_35 : decode (m_code mX10_message) 35 = .ok (.imul, 1) := by decide +kernel
theorem dX10_message_36 : decode (m_code mX10_message) 36 = .ok (.iadd, 1) := by decide +kernel
theorem dX10_message_37 : decode (m_code mX10_message) 37 = .ok (.iload_n 2, 1) := by decide +kernel
theorem dX10_message_38 : decode (m_code mX10_message) 38 = .ok (.iadd, 1) := by decide +kernel
theorem dX10_message_39 : decode (m_code mX10_message) 39 = .ok (.iaload, 1) := by decide +kernel
theorem dX10_message_40 : decode (m_code mX10_message) 40 = .ok (.istore_n 3, 1) := by decide +kernel
theorem dX10_message_41 : decode (m_code mX10_message) 41 = .ok (.iload_n 2, 1) := by decide +kernel
theorem dX10_message_42 : decode (m_code mX10_message) 42 = .ok (.iconst 4, 1) := by decide +kernel
theorem dX10_message_43 : decode (m_code mX10_message) 43 = .ok (.if_icmp .ne 9, 3) := by decide +kernel
theorem dX10_message_46 : decode (m_code mX10_message) 46 = .ok (.iload_n 3, 1) := by decide +kernel
theorem dX10_message_47 : decode (m_code mX10_message) 47 = .ok (.iconst 1, 1) := by decide +kernel
theorem dX10_message_48 : decode (m_code mX10_message) 48 = .ok (.isub, 1) := by decide +kernel
theorem dX10_message_49 : decode (m_code mX10_message) 49 = .ok (.goto 4, 3) := by decide +kernel
theorem dX10_message_52 : decode (m_code mX10_message) 52 = .ok (.iload_n 3, 1) := by decide +kernel
theorem dX10_message_53 : decode (m_code mX10_message) 53 = .ok (.ireturn, 1) := by decide +kernel
theorem dX10_evidence_0 : decode (m_code mX10_evidence) 0 = .ok (.aload_n 0, 1) := by decide +kernel
theorem dX10_evidence_1 : decode (m_code mX10_evidence) 1 = .ok (.iconst 0, 1) := by decide +kernel
theorem dX10_evidence_2 : decode (m_code mX10_evidence) 2 = .ok (.putfield 44, 3) := by decide +kernel
theorem dX10_evidence_5 : decode (m_code mX10_evidence) 5 = .ok (.aload_n 0, 1) := by decide +kernel
theorem dX10_evidence_6 : decode (m_code mX10_evidence) 6 = .ok (.iload_n 1, 1) := by decide +kernel
theorem dX10_evidence_7 : decode (m_code mX10_evidence) 7 = .ok (.iconst 0, 1) := by decide +kernel
theorem dX10_evidence_8 : decode (m_code mX10_evidence) 8 = .ok (.aload_n 0, 1) := by decide +kernel
theorem dX10_evidence_9 : decode (m_code mX10_evidence) 9 = .ok (.getfield 7, 3) := by decide +kernel
theorem dX10_evidence_12 : decode (m_code mX10_evidence) 12 = .ok (.bipush 7, 2) := by decide +kernel
theorem dX10_evidence_14 : decode (m_code mX10_evidence) 14 = .ok (.iaload, 1) := by decide +kernel
theorem dX10_evidence_15 : decode (m_code mX10_evidence) 15 = .ok (.iconst 1, 1) := by decide +kernel
theorem dX10_evidence_16 : decode (m_code mX10_evidence) 16 = .ok (.isub, 1) := by decide +kernel
theorem dX10_evidence_17 : decode (m_code mX10_evidence) 17 = .ok (.invokevirtual 61, 3) := by decide +kernel
theorem dX10_evidence_20 : decode (m_code mX10_evidence) 20 = .ok (.ifCond .eq 30, 3) := by decide +kernel
theorem dX10_evidence_23 : decode (m_code mX10_evidence) 23 = .ok (.aload_n 0, 1) := by decide +kernel
theorem dX10_evidence_24 : decode (m_code mX10_evidence) 24 = .ok (.iload_n 2, 1) := by decide +kernel
theorem dX10_evidence_25 : decode (m_code mX10_evidence) 25 = .ok (.iconst 0, 1) := by decide +kernel
theorem dX10_evidence_26 : decode (m_code mX10_evidence) 26 = .ok (.iconst 4, 1) := by decide +kernel
theorem dX10_evidence_27 : decode (m_code mX10_evidence) 27 = .ok (.invokevirtual 61, 3) := by decide +kernel
theorem dX10_evidence_30 : decode (m_code mX10_evidence) 30 = .ok (.ifCond .eq 20, 3) := by decide +kernel
theorem dX10_evidence_33 : decode (m_code mX10_evidence) 33 = .ok (.aload_n 0, 1) := by decide +kernel
theorem dX10_evidence_34 : decode (m_code mX10_evidence) 34 = .ok (.getfield 7, 3) := by decide +kernel
theorem dX10_evidence_37 : decode (m_code mX10_evidence) 37 = .ok (.sipush 1816, 3) := by decide +kernel
theorem dX10_evidence_40 : decode (m_code mX10_evidence) 40 = .ok (.iconst 5, 1) := by decide +kernel
theorem dX10_evidence_41 : decode (m_code mX10_evidence) 41 = .ok (.iload_n 1, 1) := by decide +kernel
theorem dX10_evidence_42 : decode (m_code mX10_evidence) 42 = .ok (.imul, 1) := by decide +kernel
theorem dX10_evidence_43 : decode (m_code mX10_evidence) 43 = .ok (.iadd, 1) := by decide +kernel
theorem dX10_evidence_44 : decode (m_code mX10_evidence) 44 = .ok (.iload_n 2, 1) := by decide +kernel
theorem dX10_evidence_45 : decode (m_code mX10_evidence) 45 = .ok (.iadd, 1) := by decide +kernel
theorem dX10_evidence_46 : decode (m_code mX10_evidence) 46 = .ok (.iaload, 1) := by decide +kernel
theorem dX10_evidence_47 : decode (m_code mX10_evidence) 47 = .ok (.goto 4, 3) := by decide +kernel
theorem dX10_evidence_50 : decode (m_code mX10_evidence) 50 = .ok (.iconst (-1), 1) := by decide +kernel
theorem dX10_evidence_51 : decode (m_code mX10_evidence) 51 = .ok (.ireturn, 1) := by decide +kernel
theorem dX10_event_0 : decode (m_code mX10_event) 0 = .ok (.aload_n 0, 1) := by decide +kernel
theorem dX10_event_1 : decode (m_code mX10_event) 1 = .ok (.iconst 0, 1) := by decide +kernel
theorem dX10_event_2 : decode (m_code mX10_event) 2 = .ok (.putfield 44, 3) := by decide +kernel
theorem dX10_event_5 : decode (m_code mX10_event) 5 = .ok (.aload_n 0, 1) := by decide +kernel
theorem dX10_event_6 : decode (m_code mX10_event) 6 = .ok (.iload_n 1, 1) := by decide +kernel
theorem dX10_event_7 : decode (m_code mX10_event) 7 = .ok (.iconst 0, 1) := by decide +kernel
theorem dX10_event_8 : decode (m_code mX10_event) 8 = .ok (.aload_n 0, 1) := by decide +kernel
theorem dX10_event_9 : decode (m_code mX10_event) 9 = .ok (.getfield 7, 3) := by decide +kernel
theorem dX10_event_12 : decode (m_code mX10_event) 12 = .ok (.bipush 8, 2) := by decide +kernel
theorem dX10_event_14 : decode (m_code mX10_event) 14 = .ok (.iaload, 1) := by decide +kernel
theorem dX10_event_15 : decode (m_code mX10_event) 15 = .ok (.iconst 1, 1) := by decide +kernel
theorem dX10_event_16 : decode (m_code mX10_event) 16 = .ok (.isub, 1) := by decide +kernel
theorem dX10_event_17 : decode (m_code mX10_event) 17 = .ok (.invokevirtual 61, 3) := by decide +kernel
theorem dX10_event_20 : decode (m_code mX10_event) 20 = .ok (.ifCond .eq 30, 3) := by decide +kernel
theorem dX10_event_23 : decode (m_code mX10_event) 23 = .ok (.aload_n 0, 1) := by decide +kernel
theorem dX10_event_24 : decode (m_code mX10_event) 24 = .ok (.iload_n 2, 1) := by decide +kernel
theorem dX10_event_25 : decode (m_code mX10_event) 25 = .ok (.iconst 0, 1) := by decide +kernel
theorem dX10_event_26 : decode (m_code mX10_event) 26 = .ok (.iconst 2, 1) := by decide +kernel
theorem dX10_event_27 : decode (m_code mX10_event) 27 = .ok (.invokevirtual 61, 3) := by decide +kernel
theorem dX10_event_30 : decode (m_code mX10_event) 30 = .ok (.ifCond .eq 20, 3) := by decide +kernel
theorem dX10_event_33 : decode (m_code mX10_event) 33 = .ok (.aload_n 0, 1) := by decide +kernel
theorem dX10_event_34 : decode (m_code mX10_event) 34 = .ok (.getfield 7, 3) := by decide +kernel
theorem dX10_event_37 : decode (m_code mX10_event) 37 = .ok (.sipush 2116, 3) := by decide +kernel
theorem dX10_event_40 : decode (m_code mX10_event) 40 = .ok (.iconst 3, 1) := by decide +kernel
theorem dX10_event_41 : decode (m_code mX10_event) 41 = .ok (.iload_n 1, 1) := by decide +kernel
theorem dX10_event_42 : decode (m_code mX10_event) 42 = .ok (.imul, 1) := by decide +kernel
theorem dX10_event_43 : decode (m_code mX10_event) 43 = .ok (.iadd, 1) := by decide +kernel
theorem dX10_event_44 : decode (m_code mX10_event) 44 = .ok (.iload_n 2, 1) := by decide +kernel
theorem dX10_event_45 : decode (m_code mX10_event) 45 = .ok (.iadd, 1) := by decide +kernel
theorem dX10_event_46 : decode (m_code mX10_event) 46 = .ok (.iaload, 1) := by decide +kernel
theorem dX10_event_47 : decode (m_code mX10_event) 47 = .ok (.goto 4, 3) := by decide +kernel
theorem dX10_event_50 : decode (m_code mX10_event) 50 = .ok (.iconst (-1), 1) := by decide +kernel
theorem dX10_event_51 : decode (m_code mX10_event) 51 = .ok (.ireturn, 1) := by decide +kernel
theorem dX10_pending_0 : decode (m_code mX10_pending) 0 = .ok (.aload_n 0, 1) := by decide +kernel
theorem dX10_pending_1 : decode (m_code mX10_pending) 1 = .ok (.iconst 0, 1) := by decide +kernel
theorem dX10_pending_2 : decode (m_code mX10_pending) 2 = .ok (.putfield 44, 3) := by decide +kernel
theorem dX10_pending_5 : decode (m_code mX10_pending) 5 = .ok (.aload_n 0, 1) := by decide +kernel
theorem dX10_pending_6 : decode (m_code mX10_pending) 6 = .ok (.iload_n 1, 1) := by decide +kernel
theorem dX10_pending_7 : decode (m_code mX10_pending) 7 = .ok (.invokevirtual 71, 3) := by decide +kernel
theorem dX10_pending_10 : decode (m_code mX10_pending) 10 = .ok (.ifCond .eq 13, 3) := by decide +kernel
theorem dX10_pending_13 : decode (m_code mX10_pending) 13 = .ok (.aload_n 0, 1) := by decide +kernel
theorem dX10_pending_14 : decode (m_code mX10_pending) 14 = .ok (.iload_n 2, 1) := by decide +kernel
theorem dX10_pending_15 : decode (m_code mX10_pending) 15 = .ok (.iconst 0, 1) := by decide +kernel
theorem dX10_pending_16 : decode (m_code mX10_pending) 16 = .ok (.iconst 3, 1) := by decide +kernel
theorem dX10_pending_17 : decode (m_code mX10_pending) 17 = .ok (.invokevirtual 61, 3) := by decide +kernel
theorem dX10_pending_20 : decode (m_code mX10_pending) 20 = .ok (.ifCond .ne 5, 3) := by decide +kernel
theorem dX10_pending_23 : decode (m_code mX10_pending) 23 = .ok (.iconst (-1), 1) := by decide +kernel
theorem dX10_pending_24 : decode (m_code mX10_pending) 24 = .ok (.ireturn, 1) := by decide +kernel
theorem dX10_pending_25 : decode (m_code mX10_pending) 25 = .ok (.iconst 0, 1) := by decide +kernel
theorem dX10_pending_26 : decode (m_code mX10_pending) 26 = .ok (.istore_n 3, 1) := by decide +kernel
theorem dX10_pending_27 : decode (m_code mX10_pending) 27 = .ok (.iconst 0, 1) := by decide +kernel
theorem dX10_pending_28 : decode (m_code mX10_pending) 28 = .ok (.istore 4, 2) := by decide +kernel
theorem dX10_pending_30 : decode (m_code mX10_pending) 30 = .ok (.iload 4, 2) := by decide +kernel
theorem dX10_pending_32 : decode (m_code mX10_pending) 32 = .ok (.aload_n 0, 1) := by decide +kernel
theorem dX10_pending_33 : decode (m_code mX10_pending) 33 = .ok (.getfield 7, 3) := by decide +kernel
theorem dX10_pending_36 : decode (m_code mX10_pending) 36 = .ok (.iconst 4, 1) := by decide +kernel
theorem dX10_pending_37 : decode (m_code mX10_pending) 37 = .ok (.iaload, 1) := by decide +kernel
theorem dX10_pending_38 : decode (m_code mX10_pending) 38 = .ok (.if_icmp .ge 53, 3) := by decide +kernel
theorem dX10_pending_41 : decode (m_code mX10_pending) 41 = .ok (.sipush 816, 3) := by decide +kernel
theorem dX10_pending_44 : decode (m_code mX10_pending) 44 = .ok (.iconst 5, 1) := by decide +kernel
theorem dX10_pending_45 : decode (m_code mX10_pending) 45 = .ok (.iload 4, 2) := by decide +kernel
theorem dX10_pending_47 : decode (m_code mX10_pending) 47 = .ok (.imul, 1) := by decide +kernel
theorem dX10_pending_48 : decode (m_code mX10_pending) 48 = .ok (.iadd, 1) := by decide +kernel
theorem dX10_pending_49 : decode (m_code mX10_pending) 49 = .ok (.istore 5, 2) := by decide +kernel
theorem dX10_pending_51 : decode (m_code mX10_pending) 51 = .ok (.aload_n 0, 1) := by decide +kernel
theorem dX10_pending_52 : decode (m_code mX10_pending) 52 = .ok (.getfield 7, 3) := by decide +kernel
theorem dX10_pending_55 : decode (m_code mX10_pending) 55 = .ok (.iload 5, 2) := by decide +kernel
theorem dX10_pending_57 : decode (m_code mX10_pending) 57 = .ok (.iconst 1, 1) := by decide +kernel
theorem dX10_pending_58 : decode (m_code mX10_pending) 58 = .ok (.iadd, 1) := by decide +kernel
theorem dX10_pending_59 : decode (m_code mX10_pending) 59 = .ok (.iaload, 1) := by decide +kernel
theorem dX10_pending_60 : decode (m_code mX10_pending) 60 = .ok (.iload_n 1, 1) := by decide +kernel
theorem dX10_pending_61 : decode (m_code mX10_pending) 61 = .ok (.if_icmp .ne 24, 3) := by decide +kernel
theorem dX10_pending_64 : decode (m_code mX10_pending) 64 = .ok (.iload_n 2, 1) := by decide +kernel
theorem dX10_pending_65 : decode (m_code mX10_pending) 65 = .ok (.ifCond .eq 16, 3) := by decide +kernel
theorem dX10_pending_68 : decode (m_code mX10_pending) 68 = .ok (.aload_n 0, 1) := by decide +kernel
theorem dX10_pending_69 : decode (m_code mX10_pending) 69 = .ok (.getfield 7, 3) := by decide +kernel
theorem dX10_pending_72 : decode (m_code mX10_pending) 72 = .ok (.iload 5, 2) := by decide +kernel
theorem dX10_pending_74 : decode (m_code mX10_pending) 74 = .ok (.iconst 2, 1) := by decide +kernel
theorem dX10_pending_75 : decode (m_code mX10_pending) 75 = .ok (.iadd, 1) := by decide +kernel
theorem dX10_pending_76 : decode (m_code mX10_pending) 76 = .ok (.iaload, 1) := by decide +kernel
theorem dX10_pending_77 : decode (m_code mX10_pending) 77 = .ok (.iload_n 2, 1) := by decide +kernel
theorem dX10_pending_78 : decode (m_code mX10_pending) 78 = .ok (.if_icmp .ne 7, 3) := by decide +kernel
theorem dX10_pending_81 : decode (m_code mX10_pending) 81 = .ok (.iload_n 3, 1) := by decide +kernel
theorem dX10_pending_82 : decode (m_code mX10_pending) 82 = .ok (.iconst 1, 1) := by decide +kernel
theorem dX10_pending_83 : decode (m_code mX10_pending) 83 = .ok (.iadd, 1) := by decide +kernel
theorem dX10_pending_84 : decode (m_code mX10_pending) 84 = .ok (.istore_n 3, 1) := by decide +kernel
theorem dX10_pending_85 : decode (m_code mX10_pending) 85 = .ok (.iinc 4 1, 3) := by decide +kernel
theorem dX10_pending_88 : decode (m_code mX10_pending) 88 = .ok (.goto (-58), 3) := by decide +kernel
theorem dX10_pending_91 : decode (m_code mX10_pending) 91 = .ok (.iload_n 3, 1) := by decide +kernel
theorem dX10_pending_92 : decode (m_code mX10_pending) 92 = .ok (.ireturn, 1) := by decide +kernel
theorem dX10_modes_0 : decode (m_code mX10_modes) 0 = .ok (.iconst 0, 1) := by decide +kernel
theorem dX10_modes_1 : decode (m_code mX10_modes) 1 = .ok (.istore_n 2, 1) := by decide +kernel
theorem dX10_modes_2 : decode (m_code mX10_modes) 2 = .ok (.iconst 0, 1) := by decide +kernel
theorem dX10_modes_3 : decode (m_code mX10_modes) 3 = .ok (.istore_n 3, 1) := by decide +kernel
theorem dX10_modes_4 : decode (m_code mX10_modes) 4 = .ok (.iload_n 3, 1) := by decide +kernel
theorem dX10_modes_5 : decode (m_code mX10_modes) 5 = .ok (.aload_n 0, 1) := by decide +kernel
theorem dX10_modes_6 : decode (m_code mX10_modes) 6 = .ok (.invokevirtual 47, 3) := by decide +kernel
theorem dX10_modes_9 : decode (m_code mX10_modes) 9 = .ok (.if_icmp .ge 31, 3) := by decide +kernel
theorem dX10_modes_12 : decode (m_code mX10_modes) 12 = .ok (.aload_n 0, 1) := by decide +kernel
theorem dX10_modes_13 : decode (m_code mX10_modes) 13 = .ok (.getfield 7, 3) := by decide +kernel
theorem dX10_modes_16 : decode (m_code mX10_modes) 16 = .ok (.aload_n 0, 1) := by decide +kernel
theorem dX10_modes_17 : decode (m_code mX10_modes) 17 = .ok (.iload_n 3, 1) := by decide +kernel
theorem dX10_modes_18 : decode (m_code mX10_modes) 18 = .ok (.invokevirtual 54, 3) := by decide +kernel
theorem dX10_modes_21 : decode (m_code mX10_modes) 21 = .ok (.iconst 0, 1) := by decide +kernel
theorem dX10_modes_22 : decode (m_code mX10_modes) 22 = .ok (.iadd, 1) := by decide +kernel
theorem dX10_modes_23 : decode (m_code mX10_modes) 23 = .ok (.iaload, 1) := by decide +kernel
theorem dX10_modes_24 : decode (m_code mX10_modes) 24 = .ok (.iload_n 1, 1) := by decide +kernel
theorem dX10_modes_25 : decode (m_code mX10_modes) 25 = .ok (.if_icmp .ne 9, 3) := by decide +kernel
theorem dX10_modes_28 : decode (m_code mX10_modes) 28 = .ok (.iload_n 2, 1) := by decide +kernel
theorem dX10_modes_29 : decode (m_code mX10_modes) 29 = .ok (.iconst 1, 1) := by decide +kernel
theorem dX10_modes_30 : decode (m_code mX10_modes) 30 = .ok (.iload_n 3, 1) := by decide +kernel
theorem dX10_modes_31 : decode (m_code mX10_modes) 31 = .ok (.ishl, 1) := by decide +kernel
theorem dX10_modes_32 : decode (m_code mX10_modes) 32 = .ok (.ior, 1) := by decide +kernel
theorem dX10_modes_33 : decode (m_code mX10_modes) 33 = .ok (.istore_n 2, 1) := by decide +kernel
theorem dX10_modes_34 : decode (m_code mX10_modes) 34 = .ok (.iinc 3 1, 3) := by decide +kernel
theorem dX10_modes_37 : decode (m_code mX10_modes) 37 = .ok (.goto (-33), 3) := by decide +kernel
theorem dX10_modes_40 : decode (m_code mX10_modes) 40 = .ok (.iload_n 2, 1) := by decide +kernel
theorem dX10_modes_41 : decode (m_code mX10_modes) 41 = .ok (.ireturn, 1) := by decide +kernel
theorem dX10_forks_0 : decode (m_code mX10_forks) 0 = .ok (.iconst 0, 1) := by decide +kernel
theorem dX10_forks_1 : decode (m_code mX10_forks) 1 = .ok (.istore_n 1, 1) := by decide +kernel
theorem dX10_forks_2 : decode (m_code mX10_forks) 2 = .ok (.iconst 0, 1) := by decide +kernel
theorem dX10_forks_3 : decode (m_code mX10_forks) 3 = .ok (.istore_n 2, 1) := by decide +kernel
theorem dX10_forks_4 : decode (m_code mX10_forks) 4 = .ok (.iload_n 2, 1) := by decide +kernel
theorem dX10_forks_5 : decode (m_code mX10_forks) 5 = .ok (.aload_n 0, 1) := by decide +kernel
theorem dX10_forks_6 : decode (m_code mX10_forks) 6 = .ok (.invokevirtual 47, 3) := by decide +kernel
theorem dX10_forks_9 : decode (m_code mX10_forks) 9 = .ok (.if_icmp .ge 25, 3) := by decide +kernel
theorem dX10_forks_12 : decode (m_code mX10_forks) 12 = .ok (.iload_n 1, 1) := by decide +kernel
theorem dX10_forks_13 : decode (m_code mX10_forks) 13 = .ok (.aload_n 0, 1) := by decide +kernel
theorem dX10_forks_14 : decode (m_code mX10_forks) 14 = .ok (.getfield 7, 3) := by decide +kernel
theorem dX10_forks_17 : decode (m_code mX10_forks) 17 = .ok (.aload_n 0, 1) := by decide +kernel
theorem dX10_forks_18 : decode (m_code mX10_forks) 18 = .ok (.iload_n 2, 1) := by decide +kernel
theorem dX10_forks_19 : decode (m_code mX10_forks) 19 = .ok (.invokevirtual 54, 3) := by decide +kernel
theorem dX10_forks_22 : decode (m_code mX10_forks) 22 = .ok (.bipush 9, 2) := by decide +kernel
theorem dX10_forks_24 : decode (m_code mX10_forks) 24 = .ok (.iadd, 1) := by decide +kernel
theorem dX10_forks_25 : decode (m_code mX10_forks) 25 = .ok (.iaload, 1) := by decide +kernel
theorem dX10_forks_26 : decode (m_code mX10_forks) 26 = .ok (.iadd, 1) := by decide +kernel
theorem dX10_forks_27 : decode (m_code mX10_forks) 27 = .ok (.istore_n 1, 1) := by decide +kernel
theorem dX10_forks_28 : decode (m_code mX10_forks) 28 = .ok (.iinc 2 1, 3) := by decide +kernel
theorem dX10_forks_31 : decode (m_code mX10_forks) 31 = .ok (.goto (-27), 3) := by decide +kernel
theorem dX10_forks_34 : decode (m_code mX10_forks) 34 = .ok (.iload_n 1, 1) := by decide +kernel
theorem dX10_forks_35 : decode (m_code mX10_forks) 35 = .ok (.ireturn, 1) := by decide +kernel
theorem dX10_furthestView_0 : decode (m_code mX10_furthestView) 0 = .ok (.iconst 0, 1) := by decide +kernel
theorem dX10_furthestView_1 : decode (m_code mX10_furthestView) 1 = .ok (.istore_n 1, 1) := by decide +kernel
theorem dX10_furthestView_2 : decode (m_code mX10_furthestView) 2 = .ok (.iconst 0, 1) := by decide +kernel
theorem dX10_furthestView_3 : decode (m_code mX10_furthestView) 3 = .ok (.istore_n 2, 1) := by decide +kernel
theorem dX10_furthestView_4 : decode (m_code mX10_furthestView) 4 = .ok (.iload_n 2, 1) := by decide +kernel
theorem dX10_furthestView_5 : decode (m_code mX10_furthestView) 5 = .ok (.aload_n 0, 1) := by decide +kernel
theorem dX10_furthestView_6 : decode (m_code mX10_furthestView) 6 = .ok (.invokevirtual 47, 3) := by decide +kernel
theorem dX10_furthestView_9 : decode (m_code mX10_furthestView) 9 = .ok (.if_icmp .ge 28, 3) := by decide +kernel
theorem dX10_furthestView_12 : decode (m_code mX10_furthestView) 12 = .ok (.aload_n 0, 1) := by decide +kernel
theorem dX10_furthestView_13 : decode (m_code mX10_furthestView) 13 = .ok (.iload_n 2, 1) := by decide +kernel
theorem dX10_furthestView_14 : decode (m_code mX10_furthestView) 14 = .ok (.invokevirtual 140, 3) := by decide +kernel
theorem dX10_furthestView_17 : decode (m_code mX10_furthestView) 17 = .ok (.ifCond .ne 14, 3) := by decide +kernel
theorem dX10_furthestView_20 : decode (m_code mX10_furthestView) 20 = .ok (.aload_n 0, 1) := by decide +kernel
theorem dX10_furthestView_21 : decode (m_code mX10_furthestView) 21 = .ok (.iload_n 1, 1) := by decide +kernel
theorem dX10_furthestView_22 : decode (m_code mX10_furthestView) 22 = .ok (.aload_n 0, 1) := by decide +kernel
theorem dX10_furthestView_23 : decode (m_code mX10_furthestView) 23 = .ok (.iload_n 2, 1) := by decide +kernel
theorem dX10_furthestView_24 : decode (m_code mX10_furthestView) 24 = .ok (.invokevirtual 104, 3) := by decide +kernel
theorem dX10_furthestView_27 : decode (m_code mX10_furthestView) 27 = .ok (.invokevirtual 180, 3) := by decide +kernel
theorem dX10_furthestView_30 : decode (m_code mX10_furthestView) 30 = .ok (.istore_n 1, 1) := by decide +kernel
theorem dX10_furthestView_31 : decode (m_code mX10_furthestView) 31 = .ok (.iinc 2 1, 3) := by decide +kernel
theorem dX10_furthestView_34 : decode (m_code mX10_furthestView) 34 = .ok (.goto (-30), 3) := by decide +kernel
theorem dX10_furthestView_37 : decode (m_code mX10_furthestView) 37 = .ok (.iload_n 1, 1) := by decide +kernel
theorem dX10_furthestView_38 : decode (m_code mX10_furthestView) 38 = .ok (.ireturn, 1) := by decide +kernel
theorem dX10_certifiedMany_0 : decode (m_code mX10_certifiedMany) 0 = .ok (.iconst 0, 1) := by decide +kernel
theorem dX10_certifiedMany_1 : decode (m_code mX10_certifiedMany) 1 = .ok (.istore_n 1, 1) := by decide +kernel
theorem dX10_certifiedMany_2 : decode (m_code mX10_certifiedMany) 2 = .ok (.iconst 0, 1) := by decide +kernel
theorem dX10_certifiedMany_3 : decode (m_code mX10_certifiedMany) 3 = .ok (.istore_n 2, 1) := by decide +kernel
theorem dX10_certifiedMany_4 : decode (m_code mX10_certifiedMany) 4 = .ok (.iload_n 2, 1) := by decide +kernel
theorem dX10_certifiedMany_5 : decode (m_code mX10_certifiedMany) 5 = .ok (.aload_n 0, 1) := by decide +kernel
theorem dX10_certifiedMany_6 : decode (m_code mX10_certifiedMany) 6 = .ok (.invokevirtual 51, 3) := by decide +kernel
theorem dX10_certifiedMany_9 : decode (m_code mX10_certifiedMany) 9 = .ok (.if_icmp .ge 21, 3) := by decide +kernel
theorem dX10_certifiedMany_12 : decode (m_code mX10_certifiedMany) 12 = .ok (.aload_n 0, 1) := by decide +kernel
theorem dX10_certifiedMany_13 : decode (m_code mX10_certifiedMany) 13 = .ok (.iload_n 2, 1) := by decide +kernel
theorem dX10_certifiedMany_14 : decode (m_code mX10_certifiedMany) 14 = .ok (.invokevirtual 189, 3) := by decide +kernel
theorem dX10_certifiedMany_17 : decode (m_code mX10_certifiedMany) 17 = .ok (.ifCond .eq 7, 3) := by decide +kernel
theorem dX10_certifiedMany_20 : decode (m_code mX10_certifiedMany) 20 = .ok (.iload_n 1, 1) := by decide +kernel
theorem dX10_certifiedMany_21 : decode (m_code mX10_certifiedMany) 21 = .ok (.iconst 1, 1) := by decide +kernel
theorem dX10_certifiedMany_22 : decode (m_code mX10_certifiedMany) 22 = .ok (.iadd, 1) := by decide +kernel
theorem dX10_certifiedMany_23 : decode (m_code mX10_certifiedMany) 23 = .ok (.istore_n 1, 1) := by decide +kernel
theorem dX10_certifiedMany_24 : decode (m_code mX10_certifiedMany) 24 = .ok (.iinc 2 1, 3) := by decide +kernel
theorem dX10_certifiedMany_27 : decode (m_code mX10_certifiedMany) 27 = .ok (.goto (-23), 3) := by decide +kernel
theorem dX10_certifiedMany_30 : decode (m_code mX10_certifiedMany) 30 = .ok (.iload_n 1, 1) := by decide +kernel
theorem dX10_certifiedMany_31 : decode (m_code mX10_certifiedMany) 31 = .ok (.ireturn, 1) := by decide +kernel
theorem dX10_look_0 : decode (m_code mX10_look) 0 = .ok (.aload_n 0, 1) := by decide +kernel
theorem dX10_look_1 : decode (m_code mX10_look) 1 = .ok (.iconst 0, 1) := by decide +kernel
theorem dX10_look_2 : decode (m_code mX10_look) 2 = .ok (.putfield 44, 3) := by decide +kernel
theorem dX10_look_5 : decode (m_code mX10_look) 5 = .ok (.iload_n 1, 1) := by decide +kernel
theorem dX10_look_6 : decode (m_code mX10_look) 6 = .ok (.ifCond .ne 8, 3) := by decide +kernel
theorem dX10_look_9 : decode (m_code mX10_look) 9 = .ok (.aload_n 0, 1) := by decide +kernel
theorem dX10_look_10 : decode (m_code mX10_look) 10 = .ok (.invokevirtual 47, 3) := by decide +kernel
theorem dX10_look_13 : decode (m_code mX10_look) 13 = .ok (.ireturn, 1) := by decide +kernel
theorem dX10_look_14 : decode (m_code mX10_look) 14 = .ok (.iload_n 1, 1) := by decide +kernel
theorem dX10_look_15 : decode (m_code mX10_look) 15 = .ok (.iconst 1, 1) := by decide +kernel
theorem dX10_look_16 : decode (m_code mX10_look) 16 = .ok (.if_icmp .ne 12, 3) := by decide +kernel
theorem dX10_look_19 : decode (m_code mX10_look) 19 = .ok (.aload_n 0, 1) := by decide +kernel
theorem dX10_look_20 : decode (m_code mX10_look) 20 = .ok (.invokevirtual 47, 3) := by decide +kernel
theorem dX10_look_23 : decode (m_code mX10_look) 23 = .ok (.iconst 1, 1) := by decide +kernel
theorem dX10_look_24 : decode (m_code mX10_look) 24 = .ok (.isub, 1) := by decide +kernel
theorem dX10_look_25 : decode (m_code mX10_look) 25 = .ok (.iconst 3, 1) := by decide +kernel
theorem dX10_look_26 : decode (m_code mX10_look) 26 = .ok (.idiv, 1) := by decide +kernel
theorem dX10_look_27 : decode (m_code mX10_look) 27 = .ok (.ireturn, 1) := by decide +kernel
theorem dX10_look_28 : decode (m_code mX10_look) 28 = .ok (.iload_n 1, 1) := by decide +kernel
theorem dX10_look_29 : decode (m_code mX10_look) 29 = .ok (.iconst 2, 1) := by decide +kernel
theorem dX10_look_30 : decode (m_code mX10_look) 30 = .ok (.if_icmp .ne 8, 3) := by decide +kernel
theorem dX10_look_33 : decode (m_code mX10_look) 33 = .ok (.aload_n 0, 1) := by decide +kernel
theorem dX10_look_34 : decode (m_code mX10_look) 34 = .ok (.invokevirtual 134, 3) := by decide +kernel
theorem dX10_look_37 : decode (m_code mX10_look) 37 = .ok (.ireturn, 1) := by decide +kernel
theorem dX10_look_38 : decode (m_code mX10_look) 38 = .ok (.iload_n 1, 1) := by decide +kernel
theorem dX10_look_39 : decode (m_code mX10_look) 39 = .ok (.iconst 3, 1) := by decide +kernel
theorem dX10_look_40 : decode (m_code mX10_look) 40 = .ok (.if_icmp .ne 8, 3) := by decide +kernel
theorem dX10_look_43 : decode (m_code mX10_look) 43 = .ok (.aload_n 0, 1) := by decide +kernel
theorem dX10_look_44 : decode (m_code mX10_look) 44 = .ok (.invokevirtual 51, 3) := by decide +kernel
theorem dX10_look_47 : decode (m_code mX10_look) 47 = .ok (.ireturn, 1) := by decide +kernel
theorem dX10_look_48 : decode (m_code mX10_look) 48 = .ok (.iload_n 1, 1) := by decide +kernel
theorem dX10_look_49 : decode (m_code mX10_look) 49 = .ok (.iconst 4, 1) := by decide +kernel
theorem dX10_look_50 : decode (m_code mX10_look) 50 = .ok (.if_icmp .ne 10, 3) := by decide +kernel
theorem dX10_look_53 : decode (m_code mX10_look) 53 = .ok (.aload_n 0, 1) := by decide +kernel
theorem dX10_look_54 : decode (m_code mX10_look) 54 = .ok (.getfield 7, 3) := by decide +kernel
theorem dX10_look_57 : decode (m_code mX10_look) 57 = .ok (.iconst 4, 1) := by decide +kernel
theorem dX10_look_58 : decode (m_code mX10_look) 58 = .ok (.iaload, 1) := by decide +kernel
theorem dX10_look_59 : decode (m_code mX10_look) 59 = .ok (.ireturn, 1) := by decide +kernel
theorem dX10_look_60 : decode (m_code mX10_look) 60 = .ok (.iload_n 1, 1) := by decide +kernel
theorem dX10_look_61 : decode (m_code mX10_look) 61 = .ok (.iconst 5, 1) := by decide +kernel
theorem dX10_look_62 : decode (m_code mX10_look) 62 = .ok (.if_icmp .ne 10, 3) := by decide +kernel
theorem dX10_look_65 : decode (m_code mX10_look) 65 = .ok (.aload_n 0, 1) := by decide +kernel
theorem dX10_look_66 : decode (m_code mX10_look) 66 = .ok (.getfield 7, 3) := by decide +kernel
theorem dX10_look_69 : decode (m_code mX10_look) 69 = .ok (.iconst 5, 1) := by decide +kernel
theorem dX10_look_70 : decode (m_code mX10_look) 70 = .ok (.iaload, 1) := by decide +kernel
theorem dX10_look_71 : decode (m_code mX10_look) 71 = .ok (.ireturn, 1) := by decide +kernel
theorem dX10_look_72 : decode (m_code mX10_look) 72 = .ok (.iload_n 1, 1) := by decide +kernel
theorem dX10_look_73 : decode (m_code mX10_look) 73 = .ok (.bipush 6, 2) := by decide +kernel
theorem dX10_look_75 : decode (m_code mX10_look) 75 = .ok (.if_icmp .ne 11, 3) := by decide +kernel
theorem dX10_look_78 : decode (m_code mX10_look) 78 = .ok (.aload_n 0, 1) := by decide +kernel
theorem dX10_look_79 : decode (m_code mX10_look) 79 = .ok (.getfield 7, 3) := by decide +kernel
theorem dX10_look_82 : decode (m_code mX10_look) 82 = .ok (.bipush 7, 2) := by decide +kernel
theorem dX10_look_84 : decode (m_code mX10_look) 84 = .ok (.iaload, 1) := by decide +kernel
theorem dX10_look_85 : decode (m_code mX10_look) 85 = .ok (.ireturn, 1) := by decide +kernel
theorem dX10_look_86 : decode (m_code mX10_look) 86 = .ok (.iload_n 1, 1) := by decide +kernel
theorem dX10_look_87 : decode (m_code mX10_look) 87 = .ok (.bipush 7, 2) := by decide +kernel
theorem dX10_look_89 : decode (m_code mX10_look) 89 = .ok (.if_icmp .ne 8, 3) := by decide +kernel
theorem dX10_look_92 : decode (m_code mX10_look) 92 = .ok (.aload_n 0, 1) := by decide +kernel
theorem dX10_look_93 : decode (m_code mX10_look) 93 = .ok (.invokevirtual 266, 3) := by decide +kernel
theorem dX10_look_96 : decode (m_code mX10_look) 96 = .ok (.ireturn, 1) := by decide +kernel
theorem dX10_look_97 : decode (m_code mX10_look) 97 = .ok (.iload_n 1, 1) := by decide +kernel
theorem dX10_look_98 : decode (m_code mX10_look) 98 = .ok (.bipush 8, 2) := by decide +kernel
theorem dX10_look_100 : decode (m_code mX10_look) 100 = .ok (.if_icmp .ne 8, 3) := by decide +kernel
theorem dX10_look_103 : decode (m_code mX10_look) 103 = .ok (.aload_n 0, 1) := by decide +kernel
theorem dX10_look_104 : decode (m_code mX10_look) 104 = .ok (.invokevirtual 269, 3) := by decide +kernel
theorem dX10_look_107 : decode (m_code mX10_look) 107 = .ok (.ireturn, 1) := by decide +kernel
theorem dX10_look_108 : decode (m_code mX10_look) 108 = .ok (.iload_n 1, 1) := by decide +kernel
theorem dX10_look_109 : decode (m_code mX10_look) 109 = .ok (.bipush 9, 2) := by decide +kernel
theorem dX10_look_111 : decode (m_code mX10_look) 111 = .ok (.if_icmp .ne 8, 3) := by decide +kernel
theorem dX10_look_114 : decode (m_code mX10_look) 114 = .ok (.aload_n 0, 1) := by decide +kernel
theorem dX10_look_115 : decode (m_code mX10_look) 115 = .ok (.getfield 272, 3) := by decide +kernel
theorem dX10_look_118 : decode (m_code mX10_look) 118 = .ok (.ireturn, 1) := by decide +kernel
theorem dX10_look_119 : decode (m_code mX10_look) 119 = .ok (.iload_n 1, 1) := by decide +kernel
theorem dX10_look_120 : decode (m_code mX10_look) 120 = .ok (.bipush 10, 2) := by decide +kernel
theorem dX10_look_122 : decode (m_code mX10_look) 122 = .ok (.if_icmp .ne 11, 3) := by decide +kernel
theorem dX10_look_125 : decode (m_code mX10_look) 125 = .ok (.aload_n 0, 1) := by decide +kernel
theorem dX10_look_126 : decode (m_code mX10_look) 126 = .ok (.getfield 7, 3) := by decide +kernel
theorem dX10_look_129 : decode (m_code mX10_look) 129 = .ok (.bipush 9, 2) := by decide +kernel
theorem dX10_look_131 : decode (m_code mX10_look) 131 = .ok (.iaload, 1) := by decide +kernel
theorem dX10_look_132 : decode (m_code mX10_look) 132 = .ok (.ireturn, 1) := by decide +kernel
theorem dX10_look_133 : decode (m_code mX10_look) 133 = .ok (.iload_n 1, 1) := by decide +kernel
theorem dX10_look_134 : decode (m_code mX10_look) 134 = .ok (.bipush 11, 2) := by decide +kernel
theorem dX10_look_136 : decode (m_code mX10_look) 136 = .ok (.if_icmp .ne 11, 3) := by decide +kernel
theorem dX10_look_139 : decode (m_code mX10_look) 139 = .ok (.aload_n 0, 1) := by decide +kernel
theorem dX10_look_140 : decode (m_code mX10_look) 140 = .ok (.getfield 7, 3) := by decide +kernel
theorem dX10_look_143 : decode (m_code mX10_look) 143 = .ok (.bipush 6, 2) := by decide +kernel
theorem dX10_look_145 : decode (m_code mX10_look) 145 = .ok (.iaload, 1) := by decide +kernel
theorem dX10_look_146 : decode (m_code mX10_look) 146 = .ok (.ireturn, 1) := by decide +kernel
theorem dX10_look_147 : decode (m_code mX10_look) 147 = .ok (.iload_n 1, 1) := by decide +kernel
theorem dX10_look_148 : decode (m_code mX10_look) 148 = .ok (.bipush 12, 2) := by decide +kernel
theorem dX10_look_150 : decode (m_code mX10_look) 150 = .ok (.if_icmp .ne 8, 3) := by decide +kernel
theorem dX10_look_153 : decode (m_code mX10_look) 153 = .ok (.aload_n 0, 1) := by decide +kernel
theorem dX10_look_154 : decode (m_code mX10_look) 154 = .ok (.invokevirtual 275, 3) := by decide +kernel
theorem dX10_look_157 : decode (m_code mX10_look) 157 = .ok (.ireturn, 1) := by decide +kernel
theorem dX10_look_158 : decode (m_code mX10_look) 158 = .ok (.iload_n 1, 1) := by decide +kernel
theorem dX10_look_159 : decode (m_code mX10_look) 159 = .ok (.bipush 13, 2) := by decide +kernel
theorem dX10_look_161 : decode (m_code mX10_look) 161 = .ok (.if_icmp .ne 8, 3) := by decide +kernel
theorem dX10_look_164 : decode (m_code mX10_look) 164 = .ok (.aload_n 0, 1) := by decide +kernel
theorem dX10_look_165 : decode (m_code mX10_look) 165 = .ok (.invokevirtual 278, 3) := by decide +kernel
theorem dX10_look_168 : decode (m_code mX10_look) 168 = .ok (.ireturn, 1) := by decide +kernel
theorem dX10_look_169 : decode (m_code mX10_look) 169 = .ok (.iload_n 1, 1) := by decide +kernel
theorem dX10_look_170 : decode (m_code mX10_look) 170 = .ok (.bipush 14, 2) := by decide +kernel
theorem dX10_look_172 : decode (m_code mX10_look) 172 = .ok (.if_icmp .ne 10, 3) := by decide +kernel
theorem dX10_look_175 : decode (m_code mX10_look) 175 = .ok (.aload_n 0, 1) := by decide +kernel
theorem dX10_look_176 : decode (m_code mX10_look) 176 = .ok (.getfield 7, 3) := by decide +kernel
theorem dX10_look_179 : decode (m_code mX10_look) 179 = .ok (.iconst 2, 1) := by decide +kernel
theorem dX10_look_180 : decode (m_code mX10_look) 180 = .ok (.iaload, 1) := by decide +kernel
theorem dX10_look_181 : decode (m_code mX10_look) 181 = .ok (.ireturn, 1) := by decide +kernel
theorem dX10_look_182 : decode (m_code mX10_look) 182 = .ok (.iload_n 1, 1) := by decide +kernel
theorem dX10_look_183 : decode (m_code mX10_look) 183 = .ok (.bipush 15, 2) := by decide +kernel
theorem dX10_look_185 : decode (m_code mX10_look) 185 = .ok (.if_icmp .ne 11, 3) := by decide +kernel
theorem dX10_look_188 : decode (m_code mX10_look) 188 = .ok (.aload_n 0, 1) := by decide +kernel
theorem dX10_look_189 : decode (m_code mX10_look) 189 = .ok (.getfield 7, 3) := by decide +kernel
theorem dX10_look_192 : decode (m_code mX10_look) 192 = .ok (.bipush 8, 2) := by decide +kernel
theorem dX10_look_194 : decode (m_code mX10_look) 194 = .ok (.iaload, 1) := by decide +kernel
theorem dX10_look_195 : decode (m_code mX10_look) 195 = .ok (.ireturn, 1) := by decide +kernel
theorem dX10_look_196 : decode (m_code mX10_look) 196 = .ok (.iload_n 1, 1) := by decide +kernel
theorem dX10_look_197 : decode (m_code mX10_look) 197 = .ok (.bipush 16, 2) := by decide +kernel
theorem dX10_look_199 : decode (m_code mX10_look) 199 = .ok (.if_icmp .ne 10, 3) := by decide +kernel
theorem dX10_look_202 : decode (m_code mX10_look) 202 = .ok (.aload_n 0, 1) := by decide +kernel
theorem dX10_look_203 : decode (m_code mX10_look) 203 = .ok (.getfield 7, 3) := by decide +kernel
theorem dX10_look_206 : decode (m_code mX10_look) 206 = .ok (.iconst 1, 1) := by decide +kernel
theorem dX10_look_207 : decode (m_code mX10_look) 207 = .ok (.iaload, 1) := by decide +kernel
theorem dX10_look_208 : decode (m_code mX10_look) 208 = .ok (.ireturn, 1) := by decide +kernel
theorem dX10_look_209 : decode (m_code mX10_look) 209 = .ok (.iload_n 1, 1) := by decide +kernel
theorem dX10_look_210 : decode (m_code mX10_look) 210 = .ok (.bipush 17, 2) := by decide +kernel
theorem dX10_look_212 : decode (m_code mX10_look) 212 = .ok (.if_icmp .ne 9, 3) := by decide +kernel
theorem dX10_look_215 : decode (m_code mX10_look) 215 = .ok (.aload_n 0, 1) := by decide +kernel
theorem dX10_look_216 : decode (m_code mX10_look) 216 = .ok (.iconst 1, 1) := by decide +kernel
theorem dX10_look_217 : decode (m_code mX10_look) 217 = .ok (.invokevirtual 281, 3) := by decide +kernel
theorem dX10_look_220 : decode (m_code mX10_look) 220 = .ok (.ireturn, 1) := by decide +kernel
theorem dX10_look_221 : decode (m_code mX10_look) 221 = .ok (.iload_n 1, 1) := by decide +kernel
theorem dX10_look_222 : decode (m_code mX10_look) 222 = .ok (.bipush 18, 2) := by decide +kernel
theorem dX10_look_224 : decode (m_code mX10_look) 224 = .ok (.if_icmp .ne 9, 3) := by decide +kernel
theorem dX10_look_227 : decode (m_code mX10_look) 227 = .ok (.aload_n 0, 1) := by decide +kernel
theorem dX10_look_228 : decode (m_code mX10_look) 228 = .ok (.iconst 2, 1) := by decide +kernel
theorem dX10_look_229 : decode (m_code mX10_look) 229 = .ok (.invokevirtual 281, 3) := by decide +kernel
theorem dX10_look_232 : decode (m_code mX10_look) 232 = .ok (.ireturn, 1) := by decide +kernel
theorem dX10_look_233 : decode (m_code mX10_look) 233 = .ok (.iload_n 1, 1) := by decide +kernel
theorem dX10_look_234 : decode (m_code mX10_look) 234 = .ok (.bipush 19, 2) := by decide +kernel
theorem dX10_look_236 : decode (m_code mX10_look) 236 = .ok (.if_icmp .ne 13, 3) := by decide +kernel
theorem dX10_look_239 : decode (m_code mX10_look) 239 = .ok (.aload_n 0, 1) := by decide +kernel
theorem dX10_look_240 : decode (m_code mX10_look) 240 = .ok (.getfield 7, 3) := by decide +kernel
theorem dX10_look_243 : decode (m_code mX10_look) 243 = .ok (.bipush 10, 2) := by decide +kernel
theorem dX10_look_245 : decode (m_code mX10_look) 245 = .ok (.iaload, 1) := by decide +kernel
theorem dX10_look_246 : decode (m_code mX10_look) 246 = .ok (.goto 19, 3) := by decide +kernel
theorem dX10_look_249 : decode (m_code mX10_look) 249 = .ok (.iload_n 1, 1) := by decide +kernel
theorem dX10_look_250 : decode (m_code mX10_look) 250 = .ok (.bipush 20, 2) := by decide +kernel
theorem dX10_look_252 : decode (m_code mX10_look) 252 = .ok (.if_icmp .ne 10, 3) := by decide +kernel
theorem dX10_look_255 : decode (m_code mX10_look) 255 = .ok (.aload_n 0, 1) := by decide +kernel
theorem dX10_look_256 : decode (m_code mX10_look) 256 = .ok (.invokevirtual 284, 3) := by decide +kernel
theorem dX10_look_259 : decode (m_code mX10_look) 259 = .ok (.goto 6, 3) := by decide +kernel
theorem dX10_look_262 : decode (m_code mX10_look) 262 = .ok (.ldc_w 262, 3) := by decide +kernel
theorem dX10_look_265 : decode (m_code mX10_look) 265 = .ok (.ireturn, 1) := by decide +kernel
theorem dX10_types_0 : decode (m_code mX10_types) 0 = .ok (.bipush 24, 2) := by decide +kernel
theorem dX10_types_2 : decode (m_code mX10_types) 2 = .ok (.istore_n 2, 1) := by decide +kernel
theorem dX10_types_3 : decode (m_code mX10_types) 3 = .ok (.iload_n 2, 1) := by decide +kernel
theorem dX10_types_4 : decode (m_code mX10_types) 4 = .ok (.ifCond .lt 35, 3) := by decide +kernel
theorem dX10_types_7 : decode (m_code mX10_types) 7 = .ok (.aload_n 0, 1) := by decide +kernel
theorem dX10_types_8 : decode (m_code mX10_types) 8 = .ok (.getfield 28, 3) := by decide +kernel
theorem dX10_types_11 : decode (m_code mX10_types) 11 = .ok (.aload_n 0, 1) := by decide +kernel
theorem dX10_types_12 : decode (m_code mX10_types) 12 = .ok (.getfield 287, 3) := by decide +kernel
theorem dX10_types_15 : decode (m_code mX10_types) 15 = .ok (.iload_n 1, 1) := by decide +kernel
theorem dX10_types_16 : decode (m_code mX10_types) 16 = .ok (.iload_n 2, 1) := by decide +kernel
theorem dX10_types_17 : decode (m_code mX10_types) 17 = .ok (.ishr, 1) := by decide +kernel
theorem dX10_types_18 : decode (m_code mX10_types) 18 = .ok (.sipush 255, 3) := by decide +kernel
theorem dX10_types_21 : decode (m_code mX10_types) 21 = .ok (.iand, 1) := by decide +kernel
theorem dX10_types_22 : decode (m_code mX10_types) 22 = .ok (.iastore, 1) := by decide +kernel
theorem dX10_types_23 : decode (m_code mX10_types) 23 = .ok (.aload_n 0, 1) := by decide +kernel
theorem dX10_types_24 : decode (m_code mX10_types) 24 = .ok (.aload_n 0, 1) := by decide +kernel
theorem dX10_types_25 : decode (m_code mX10_types) 25 = .ok (.getfield 287, 3) := by decide +kernel
theorem dX10_types_28 : decode (m_code mX10_types) 28 = .ok (.iconst 1, 1) := by decide +kernel
theorem dX10_types_29 : decode (m_code mX10_types) 29 = .ok (.iadd, 1) := by decide +kernel
theorem dX10_types_30 : decode (m_code mX10_types) 30 = .ok (.putfield 287, 3) := by decide +kernel
theorem dX10_types_33 : decode (m_code mX10_types) 33 = .ok (.iinc 2 (-8), 3) := by decide +kernel
theorem dX10_types_36 : decode (m_code mX10_types) 36 = .ok (.goto (-33), 3) := by decide +kernel
theorem dX10_types_39 : decode (m_code mX10_types) 39 = .ok (.return_, 1) := by decide +kernel
theorem dX10_feed_0 : decode (m_code mX10_feed) 0 = .ok (.aload_n 0, 1) := by decide +kernel
theorem dX10_feed_1 : decode (m_code mX10_feed) 1 = .ok (.iconst 0, 1) := by decide +kernel
theorem dX10_feed_2 : decode (m_code mX10_feed) 2 = .ok (.putfield 44, 3) := by decide +kernel
theorem dX10_feed_5 : decode (m_code mX10_feed) 5 = .ok (.aload_n 0, 1) := by decide +kernel
theorem dX10_feed_6 : decode (m_code mX10_feed) 6 = .ok (.getfield 287, 3) := by decide +kernel
theorem dX10_feed_9 : decode (m_code mX10_feed) 9 = .ok (.sipush 380, 3) := by decide +kernel
theorem dX10_feed_12 : decode (m_code mX10_feed) 12 = .ok (.if_icmp .le 5, 3) := by decide +kernel
theorem dX10_feed_15 : decode (m_code mX10_feed) 15 = .ok (.iconst (-1), 1) := by decide +kernel
theorem dX10_feed_16 : decode (m_code mX10_feed) 16 = .ok (.ireturn, 1) := by decide +kernel
theorem dX10_feed_17 : decode (m_code mX10_feed) 17 = .ok (.aload_n 0, 1) := by decide +kernel
theorem dX10_feed_18 : decode (m_code mX10_feed) 18 = .ok (.iload_n 1, 1) := by decide +kernel
theorem dX10_feed_19 : decode (m_code mX10_feed) 19 = .ok (.invokevirtual 290, 3) := by decide +kernel
theorem dX10_feed_22 : decode (m_code mX10_feed) 22 = .ok (.aload_n 0, 1) := by decide +kernel
theorem dX10_feed_23 : decode (m_code mX10_feed) 23 = .ok (.iload_n 2, 1) := by decide +kernel
theorem dX10_feed_24 : decode (m_code mX10_feed) 24 = .ok (.invokevirtual 290, 3) := by decide +kernel
theorem dX10_feed_27 : decode (m_code mX10_feed) 27 = .ok (.aload_n 0, 1) := by decide +kernel
theorem dX10_feed_28 : decode (m_code mX10_feed) 28 = .ok (.iload_n 3, 1) := by decide +kernel
theorem dX10_feed_29 : decode (m_code mX10_feed) 29 = .ok (.invokevirtual 290, 3) := by decide +kernel
theorem dX10_feed_32 : decode (m_code mX10_feed) 32 = .ok (.aload_n 0, 1) := by decide +kernel
theorem dX10_feed_33 : decode (m_code mX10_feed) 33 = .ok (.iload 4, 2) := by decide +kernel
theorem dX10_feed_35 : decode (m_code mX10_feed) 35 = .ok (.invokevirtual 290, 3) := by decide +kernel
theorem dX10_feed_38 : decode (m_code mX10_feed) 38 = .ok (.aload_n 0, 1) := by decide +kernel
theorem dX10_feed_39 : decode (m_code mX10_feed) 39 = .ok (.iload 5, 2) := by decide +kernel
theorem dX10_feed_41 : decode (m_code mX10_feed) 41 = .ok (.invokevirtual 290, 3) := by decide +kernel
theorem dX10_feed_44 : decode (m_code mX10_feed) 44 = .ok (.aload_n 0, 1) := by decide +kernel
theorem dX10_feed_45 : decode (m_code mX10_feed) 45 = .ok (.getfield 287, 3) := by decide +kernel
theorem dX10_feed_48 : decode (m_code mX10_feed) 48 = .ok (.ireturn, 1) := by decide +kernel
theorem dX10_end_0 : decode (m_code mX10_end) 0 = .ok (.aload_n 0, 1) := by decide +kernel
theorem dX10_end_1 : decode (m_code mX10_end) 1 = .ok (.iconst 0, 1) := by decide +kernel
theorem dX10_end_2 : decode (m_code mX10_end) 2 = .ok (.putfield 44, 3) := by decide +kernel
theorem dX10_end_5 : decode (m_code mX10_end) 5 = .ok (.aload_n 0, 1) := by decide +kernel
theorem dX10_end_6 : decode (m_code mX10_end) 6 = .ok (.iload_n 1, 1) := by decide +kernel
theorem dX10_end_7 : decode (m_code mX10_end) 7 = .ok (.iconst 0, 1) := by decide +kernel
theorem dX10_end_8 : decode (m_code mX10_end) 8 = .ok (.aload_n 0, 1) := by decide +kernel
theorem dX10_end_9 : decode (m_code mX10_end) 9 = .ok (.getfield 287, 3) := by decide +kernel
theorem dX10_end_12 : decode (m_code mX10_end) 12 = .ok (.invokevirtual 61, 3) := by decide +kernel
theorem dX10_end_15 : decode (m_code mX10_end) 15 = .ok (.ifCond .ne 5, 3) := by decide +kernel
theorem dX10_end_18 : decode (m_code mX10_end) 18 = .ok (.iconst 0, 1) := by decide +kernel
theorem dX10_end_19 : decode (m_code mX10_end) 19 = .ok (.ireturn, 1) := by decide +kernel
theorem dX10_end_20 : decode (m_code mX10_end) 20 = .ok (.aload_n 0, 1) := by decide +kernel
theorem dX10_end_21 : decode (m_code mX10_end) 21 = .ok (.iload_n 1, 1) := by decide +kernel
theorem dX10_end_22 : decode (m_code mX10_end) 22 = .ok (.putfield 287, 3) := by decide +kernel
theorem dX10_end_25 : decode (m_code mX10_end) 25 = .ok (.iconst 1, 1) := by decide +kernel
theorem dX10_end_26 : decode (m_code mX10_end) 26 = .ok (.ireturn, 1) := by decide +kernel
theorem dX10_raw_0 : decode (m_code mX10_raw) 0 = .ok (.iload_n 1, 1) := by decide +kernel
theorem dX10_raw_1 : decode (m_code mX10_raw) 1 = .ok (.aload_n 0, 1) := by decide +kernel
theorem dX10_raw_2 : decode (m_code mX10_raw) 2 = .ok (.getfield 287, 3) := by decide +kernel
theorem dX10_raw_5 : decode (m_code mX10_raw) 5 = .ok (.if_icmp .ge 12, 3) := by decide +kernel
theorem dX10_raw_8 : decode (m_code mX10_raw) 8 = .ok (.aload_n 0, 1) := by decide +kernel
theorem dX10_raw_9 : decode (m_code mX10_raw) 9 = .ok (.getfield 28, 3) := by decide +kernel
theorem dX10_raw_12 : decode (m_code mX10_raw) 12 = .ok (.iload_n 1, 1) := by decide +kernel
theorem dX10_raw_13 : decode (m_code mX10_raw) 13 = .ok (.iaload, 1) := by decide +kernel
theorem dX10_raw_14 : decode (m_code mX10_raw) 14 = .ok (.goto 4, 3) := by decide +kernel
theorem dX10_raw_17 : decode (m_code mX10_raw) 17 = .ok (.iconst (-1), 1) := by decide +kernel
theorem dX10_raw_18 : decode (m_code mX10_raw) 18 = .ok (.ireturn, 1) := by decide +kernel
theorem dX10_isLetter_0 : decode (m_code mX10_isLetter) 0 = .ok (.aload_n 0, 1) := by decide +kernel
theorem dX10_isLetter_1 : decode (m_code mX10_isLetter) 1 = .ok (.iload_n 1, 1) := by decide +kernel
theorem dX10_isLetter_2 : decode (m_code mX10_isLetter) 2 = .ok (.bipush 97, 2) := by decide +kernel
theorem dX10_isLetter_4 : decode (m_code mX10_isLetter) 4 = .ok (.bipush 122, 2) := by decide +kernel
theorem dX10_isLetter_6 : decode (m_code mX10_isLetter) 6 = .ok (.invokevirtual 61, 3) := by decide +kernel
theorem dX10_isLetter_9 : decode (m_code mX10_isLetter) 9 = .ok (.ifCond .ne 15, 3) := by decide +kernel
theorem dX10_isLetter_12 : decode (m_code mX10_isLetter) 12 = .ok (.aload_n 0, 1) := by decide +kernel
theorem dX10_isLetter_13 : decode (m_code mX10_isLetter) 13 = .ok (.iload_n 1, 1) := by decide +kernel
theorem dX10_isLetter_14 : decode (m_code mX10_isLetter) 14 = .ok (.bipush 65, 2) := by decide +kernel
theorem dX10_isLetter_16 : decode (m_code mX10_isLetter) 16 = .ok (.bipush 90, 2) := by decide +kernel
theorem dX10_isLetter_18 : decode (m_code mX10_isLetter) 18 = .ok (.invokevirtual 61, 3) := by decide +kernel
theorem dX10_isLetter_21 : decode (m_code mX10_isLetter) 21 = .ok (.ifCond .eq 7, 3) := by decide +kernel
theorem dX10_isLetter_24 : decode (m_code mX10_isLetter) 24 = .ok (.iconst 1, 1) := by decide +kernel
theorem dX10_isLetter_25 : decode (m_code mX10_isLetter) 25 = .ok (.goto 4, 3) := by decide +kernel
theorem dX10_isLetter_28 : decode (m_code mX10_isLetter) 28 = .ok (.iconst 0, 1) := by decide +kernel
theorem dX10_isLetter_29 : decode (m_code mX10_isLetter) 29 = .ok (.ireturn, 1) := by decide +kernel
theorem dX10_isDigit_0 : decode (m_code mX10_isDigit) 0 = .ok (.aload_n 0, 1) := by decide +kernel
theorem dX10_isDigit_1 : decode (m_code mX10_isDigit) 1 = .ok (.iload_n 1, 1) := by decide +kernel
theorem dX10_isDigit_2 : decode (m_code mX10_isDigit) 2 = .ok (.bipush 48, 2) := by decide +kernel
theorem dX10_isDigit_4 : decode (m_code mX10_isDigit) 4 = .ok (.bipush 57, 2) := by decide +kernel
theorem dX10_isDigit_6 : decode (m_code mX10_isDigit) 6 = .ok (.invokevirtual 61, 3) := by decide +kernel
theorem dX10_isDigit_9 : decode (m_code mX10_isDigit) 9 = .ok (.ireturn, 1) := by decide +kernel
theorem dX10_wordAt_0 : decode (m_code mX10_wordAt) 0 = .ok (.iconst (-1), 1) := by decide +kernel
theorem dX10_wordAt_1 : decode (m_code mX10_wordAt) 1 = .ok (.istore_n 3, 1) := by decide +kernel
theorem dX10_wordAt_2 : decode (m_code mX10_wordAt) 2 = .ok (.iconst 0, 1) := by decide +kernel
theorem dX10_wordAt_3 : decode (m_code mX10_wordAt) 3 = .ok (.istore 4, 2) := by decide +kernel
theorem dX10_wordAt_5 : decode (m_code mX10_wordAt) 5 = .ok (.iload 4, 2) := by decide +kernel
theorem dX10_wordAt_7 : decode (m_code mX10_wordAt) 7 = .ok (.bipush 59, 2) := by decide +kernel
theorem dX10_wordAt_9 : decode (m_code mX10_wordAt) 9 = .ok (.if_icmp .ge 108, 3) := by decide +kernel
theorem dX10_wordAt_12 : decode (m_code mX10_wordAt) 12 = .ok (.iconst 0, 1) := by decide +kernel
theorem dX10_wordAt_13 : decode (m_code mX10_wordAt) 13 = .ok (.istore 5, 2) := by decide +kernel
theorem dX10_wordAt_15 : decode (m_code mX10_wordAt) 15 = .ok (.iload_n 3, 1) := by decide +kernel
theorem dX10_wordAt_16 : decode (m_code mX10_wordAt) 16 = .ok (.iconst 1, 1) := by decide +kernel
theorem dX10_wordAt_17 : decode (m_code mX10_wordAt) 17 = .ok (.iadd, 1) := by decide +kernel
theorem dX10_wordAt_18 : decode (m_code mX10_wordAt) 18 = .ok (.istore_n 3, 1) := by decide +kernel
theorem dX10_wordAt_19 : decode (m_code mX10_wordAt) 19 = .ok (.iload_n 1, 1) := by decide +kernel
theorem dX10_wordAt_20 : decode (m_code mX10_wordAt) 20 = .ok (.iload 5, 2) := by decide +kernel
theorem dX10_wordAt_22 : decode (m_code mX10_wordAt) 22 = .ok (.iadd, 1) := by decide +kernel
theorem dX10_wordAt_23 : decode (m_code mX10_wordAt) 23 = .ok (.iload_n 2, 1) := by decide +kernel
theorem dX10_wordAt_24 : decode (m_code mX10_wordAt) 24 = .ok (.if_icmp .ge 36, 3) := by decide +kernel
theorem dX10_wordAt_27 : decode (m_code mX10_wordAt) 27 = .ok (.aload_n 0, 1) := by decide +kernel
theorem dX10_wordAt_28 : decode (m_code mX10_wordAt) 28 = .ok (.getfield 31, 3) := by decide +kernel
theorem dX10_wordAt_31 : decode (m_code mX10_wordAt) 31 = .ok (.iload 4, 2) := by decide +kernel
theorem dX10_wordAt_33 : decode (m_code mX10_wordAt) 33 = .ok (.iconst 1, 1) := by decide +kernel
theorem dX10_wordAt_34 : decode (m_code mX10_wordAt) 34 = .ok (.iadd, 1) := by decide +kernel
theorem dX10_wordAt_35 : decode (m_code mX10_wordAt) 35 = .ok (.iload 5, 2) := by decide +kernel
theorem dX10_wordAt_37 : decode (m_code mX10_wordAt) 37 = .ok (.iadd, 1) := by decide +kernel
theorem dX10_wordAt_38 : decode (m_code mX10_wordAt) 38 = .ok (.iaload, 1) := by decide +kernel
theorem dX10_wordAt_39 : decode (m_code mX10_wordAt) 39 = .ok (.aload_n 0, 1) := by decide +kernel
theorem dX10_wordAt_40 : decode (m_code mX10_wordAt) 40 = .ok (.getfield 28, 3) := by decide +kernel
theorem dX10_wordAt_43 : decode (m_code mX10_wordAt) 43 = .ok (.iload_n 1, 1) := by decide +kernel
theorem dX10_wordAt_44 : decode (m_code mX10_wordAt) 44 = .ok (.iload 5, 2) := by decide +kernel
theorem dX10_wordAt_46 : decode (m_code mX10_wordAt) 46 = .ok (.iadd, 1) := by decide +kernel
theorem dX10_wordAt_47 : decode (m_code mX10_wordAt) 47 = .ok (.iaload, 1) := by decide +kernel
theorem dX10_wordAt_48 : decode (m_code mX10_wordAt) 48 = .ok (.if_icmp .ne 12, 3) := by decide +kernel
theorem dX10_wordAt_51 : decode (m_code mX10_wordAt) 51 = .ok (.iload 5, 2) := by decide +kernel
theorem dX10_wordAt_53 : decode (m_code mX10_wordAt) 53 = .ok (.iconst 1, 1) := by decide +kernel
theorem dX10_wordAt_54 : decode (m_code mX10_wordAt) 54 = .ok (.iadd, 1) := by decide +kernel
theorem dX10_wordAt_55 : decode (m_code mX10_wordAt) 55 = .ok (.istore 5, 2) := by decide +kernel
theorem dX10_wordAt_57 : decode (m_code mX10_wordAt) 57 = .ok (.goto (-38), 3) := by decide +kernel
theorem dX10_wordAt_60 : decode (m_code mX10_wordAt) 60 = .ok (.iload_n 1, 1) := by decide +kernel
theorem dX10_wordAt_61 : decode (m_code mX10_wordAt) 61 = .ok (.iload 5, 2) := by decide +kernel
theorem dX10_wordAt_63 : decode (m_code mX10_wordAt) 63 = .ok (.iadd, 1) := by decide +kernel
theorem dX10_wordAt_64 : decode (m_code mX10_wordAt) 64 = .ok (.iload_n 2, 1) := by decide +kernel
theorem dX10_wordAt_65 : decode (m_code mX10_wordAt) 65 = .ok (.if_icmp .ne 22, 3) := by decide +kernel
theorem dX10_wordAt_68 : decode (m_code mX10_wordAt) 68 = .ok (.aload_n 0, 1) := by decide +kernel
theorem dX10_wordAt_69 : decode (m_code mX10_wordAt) 69 = .ok (.getfield 31, 3) := by decide +kernel
theorem dX10_wordAt_72 : decode (m_code mX10_wordAt) 72 = .ok (.iload 4, 2) := by decide +kernel
theorem dX10_wordAt_74 : decode (m_code mX10_wordAt) 74 = .ok (.iconst 1, 1) := by decide +kernel
theorem dX10_wordAt_75 : decode (m_code mX10_wordAt) 75 = .ok (.iadd, 1) := by decide +kernel
theorem dX10_wordAt_76 : decode (m_code mX10_wordAt) 76 = .ok (.iload 5, 2) := by decide +kernel
theorem dX10_wordAt_78 : decode (m_code mX10_wordAt) 78 = .ok (.iadd, 1) := by decide +kernel
theorem dX10_wordAt_79 : decode (m_code mX10_wordAt) 79 = .ok (.iaload, 1) := by decide +kernel
theorem dX10_wordAt_80 : decode (m_code mX10_wordAt) 80 = .ok (.bipush 32, 2) := by decide +kernel
theorem dX10_wordAt_82 : decode (m_code mX10_wordAt) 82 = .ok (.if_icmp .ne 5, 3) := by decide +kernel
theorem dX10_wordAt_85 : decode (m_code mX10_wordAt) 85 = .ok (.iload_n 3, 1) := by decide +kernel
theorem dX10_wordAt_86 : decode (m_code mX10_wordAt) 86 = .ok (.ireturn, 1) := by decide +kernel
theorem dX10_wordAt_87 : decode (m_code mX10_wordAt) 87 = .ok (.iload 4, 2) := by decide +kernel
theorem dX10_wordAt_89 : decode (m_code mX10_wordAt) 89 = .ok (.iconst 1, 1) := by decide +kernel
theorem dX10_wordAt_90 : decode (m_code mX10_wordAt) 90 = .ok (.iadd, 1) := by decide +kernel
theorem dX10_wordAt_91 : decode (m_code mX10_wordAt) 91 = .ok (.istore 4, 2) := by decide +kernel
theorem dX10_wordAt_93 : decode (m_code mX10_wordAt) 93 = .ok (.aload_n 0, 1) := by decide +kernel
theorem dX10_wordAt_94 : decode (m_code mX10_wordAt) 94 = .ok (.getfield 31, 3) := by decide +kernel
theorem dX10_wordAt_97 : decode (m_code mX10_wordAt) 97 = .ok (.iload 4, 2) := by decide +kernel
theorem dX10_wordAt_99 : decode (m_code mX10_wordAt) 99 = .ok (.iaload, 1) := by decide +kernel
theorem dX10_wordAt_100 : decode (m_code mX10_wordAt) 100 = .ok (.bipush 32, 2) := by decide +kernel
theorem dX10_wordAt_102 : decode (m_code mX10_wordAt) 102 = .ok (.if_icmp .eq 12, 3) := by decide +kernel
theorem dX10_wordAt_105 : decode (m_code mX10_wordAt) 105 = .ok (.iload 4, 2) := by decide +kernel
theorem dX10_wordAt_107 : decode (m_code mX10_wordAt) 107 = .ok (.iconst 1, 1) := by decide +kernel
theorem dX10_wordAt_108 : decode (m_code mX10_wordAt) 108 = .ok (.iadd, 1) := by decide +kernel
theorem dX10_wordAt_109 : decode (m_code mX10_wordAt) 109 = .ok (.istore 4, 2) := by decide +kernel
theorem dX10_wordAt_111 : decode (m_code mX10_wordAt) 111 = .ok (.goto (-18), 3) := by decide +kernel
theorem dX10_wordAt_114 : decode (m_code mX10_wordAt) 114 = .ok (.goto (-109), 3) := by decide +kernel
theorem dX10_wordAt_117 : decode (m_code mX10_wordAt) 117 = .ok (.iconst (-1), 1) := by decide +kernel
theorem dX10_wordAt_118 : decode (m_code mX10_wordAt) 118 = .ok (.ireturn, 1) := by decide +kernel
theorem dX10_reads_0 : decode (m_code mX10_reads) 0 = .ok (.aload_n 0, 1) := by decide +kernel
theorem dX10_reads_1 : decode (m_code mX10_reads) 1 = .ok (.aload_n 0, 1) := by decide +kernel
theorem dX10_reads_2 : decode (m_code mX10_reads) 2 = .ok (.getfield 293, 3) := by decide +kernel
theorem dX10_reads_5 : decode (m_code mX10_reads) 5 = .ok (.invokevirtual 296, 3) := by decide +kernel
theorem dX10_reads_8 : decode (m_code mX10_reads) 8 = .ok (.bipush 32, 2) := by decide +kernel
theorem dX10_reads_10 : decode (m_code mX10_reads) 10 = .ok (.if_icmp .eq 16, 3) := by decide +kernel
theorem dX10_reads_13 : decode (m_code mX10_reads) 13 = .ok (.aload_n 0, 1) := by decide +kernel
theorem dX10_reads_14 : decode (m_code mX10_reads) 14 = .ok (.aload_n 0, 1) := by decide +kernel
theorem dX10_reads_15 : decode (m_code mX10_reads) 15 = .ok (.getfield 293, 3) := by decide +kernel
theorem dX10_reads_18 : decode (m_code mX10_reads) 18 = .ok (.invokevirtual 296, 3) := by decide +kernel
theorem dX10_reads_21 : decode (m_code mX10_reads) 21 = .ok (.bipush 10, 2) := by decide +kernel
theorem dX10_reads_23 : decode (m_code mX10_reads) 23 = .ok (.if_icmp .ne 16, 3) := by decide +kernel
theorem dX10_reads_26 : decode (m_code mX10_reads) 26 = .ok (.aload_n 0, 1) := by decide +kernel
theorem dX10_reads_27 : decode (m_code mX10_reads) 27 = .ok (.aload_n 0, 1) := by decide +kernel
theorem dX10_reads_28 : decode (m_code mX10_reads) 28 = .ok (.getfield 293, 3) := by decide +kernel
theorem dX10_reads_31 : decode (m_code mX10_reads) 31 = .ok (.iconst 1, 1) := by decide +kernel
theorem dX10_reads_32 : decode (m_code mX10_reads) 32 = .ok (.iadd, 1) := by decide +kernel
theorem dX10_reads_33 : decode (m_code mX10_reads) 33 = .ok (.putfield 293, 3) := by decide +kernel
theorem dX10_reads_36 : decode (m_code mX10_reads) 36 = .ok (.goto (-36), 3) := by decide +kernel
theorem dX10_reads_39 : decode (m_code mX10_reads) 39 = .ok (.aload_n 0, 1) := by decide +kernel
theorem dX10_reads_40 : decode (m_code mX10_reads) 40 = .ok (.aload_n 0, 1) := by decide +kernel
theorem dX10_reads_41 : decode (m_code mX10_reads) 41 = .ok (.getfield 293, 3) := by decide +kernel
theorem dX10_reads_44 : decode (m_code mX10_reads) 44 = .ok (.putfield 299, 3) := by decide +kernel
theorem dX10_reads_47 : decode (m_code mX10_reads) 47 = .ok (.aload_n 0, 1) := by decide +kernel
theorem dX10_reads_48 : decode (m_code mX10_reads) 48 = .ok (.iconst 1, 1) := by decide +kernel
theorem dX10_reads_49 : decode (m_code mX10_reads) 49 = .ok (.putfield 302, 3) := by decide +kernel
theorem dX10_reads_52 : decode (m_code mX10_reads) 52 = .ok (.aload_n 0, 1) := by decide +kernel
theorem dX10_reads_53 : decode (m_code mX10_reads) 53 = .ok (.aload_n 0, 1) := by decide +kernel
theorem dX10_reads_54 : decode (m_code mX10_reads) 54 = .ok (.getfield 293, 3) := by decide +kernel
theorem dX10_reads_57 : decode (m_code mX10_reads) 57 = .ok (.invokevirtual 296, 3) := by decide +kernel
theorem dX10_reads_60 : decode (m_code mX10_reads) 60 = .ok (.istore_n 1, 1) := by decide +kernel
theorem dX10_reads_61 : decode (m_code mX10_reads) 61 = .ok (.iload_n 1, 1) := by decide +kernel
theorem dX10_reads_62 : decode (m_code mX10_reads) 62 = .ok (.iconst (-1), 1) := by decide +kernel
theorem dX10_reads_63 : decode (m_code mX10_reads) 63 = .ok (.if_icmp .ne 9, 3) := by decide +kernel
theorem dX10_reads_66 : decode (m_code mX10_reads) 66 = .ok (.aload_n 0, 1) := by decide +kernel
theorem dX10_reads_67 : decode (m_code mX10_reads) 67 = .ok (.iconst 0, 1) := by decide +kernel
theorem dX10_reads_68 : decode (m_code mX10_reads) 68 = .ok (.putfield 302, 3) := by decide +kernel
theorem dX10_reads_71 : decode (m_code mX10_reads) 71 = .ok (.return_, 1) := by decide +kernel
theorem dX10_reads_72 : decode (m_code mX10_reads) 72 = .ok (.aload_n 0, 1) := by decide +kernel
theorem dX10_reads_73 : decode (m_code mX10_reads) 73 = .ok (.aload_n 0, 1) := by decide +kernel
theorem dX10_reads_74 : decode (m_code mX10_reads) 74 = .ok (.getfield 293, 3) := by decide +kernel
theorem dX10_reads_77 : decode (m_code mX10_reads) 77 = .ok (.iconst 1, 1) := by decide +kernel
theorem dX10_reads_78 : decode (m_code mX10_reads) 78 = .ok (.iadd, 1) := by decide +kernel
theorem dX10_reads_79 : decode (m_code mX10_reads) 79 = .ok (.putfield 293, 3) := by decide +kernel
theorem dX10_reads_82 : decode (m_code mX10_reads) 82 = .ok (.aload_n 0, 1) := by decide +kernel
theorem dX10_reads_83 : decode (m_code mX10_reads) 83 = .ok (.iload_n 1, 1) := by decide +kernel
theorem dX10_reads_84 : decode (m_code mX10_reads) 84 = .ok (.putfield 305, 3) := by decide +kernel
theorem dX10_reads_87 : decode (m_code mX10_reads) 87 = .ok (.aload_n 0, 1) := by decide +kernel
theorem dX10_reads_88 : decode (m_code mX10_reads) 88 = .ok (.iload_n 1, 1) := by decide +kernel
theorem dX10_reads_89 : decode (m_code mX10_reads) 89 = .ok (.invokevirtual 308, 3) := by decide +kernel
theorem dX10_reads_92 : decode (m_code mX10_reads) 92 = .ok (.ifCond .eq 63, 3) := by decide +kernel
theorem dX10_reads_95 : decode (m_code mX10_reads) 95 = .ok (.aload_n 0, 1) := by decide +kernel
theorem dX10_reads_96 : decode (m_code mX10_reads) 96 = .ok (.aload_n 0, 1) := by decide +kernel
theorem dX10_reads_97 : decode (m_code mX10_reads) 97 = .ok (.aload_n 0, 1) := by decide +kernel
theorem dX10_reads_98 : decode (m_code mX10_reads) 98 = .ok (.getfield 293, 3) := by decide +kernel
theorem dX10_reads_101 : decode (m_code mX10_reads) 101 = .ok (.invokevirtual 296, 3) := by decide +kernel
theorem dX10_reads_104 : decode (m_code mX10_reads) 104 = .ok (.invokevirtual 308, 3) := by decide +kernel
theorem dX10_reads_107 : decode (m_code mX10_reads) 107 = .ok (.ifCond .eq 16, 3) := by decide +kernel
theorem dX10_reads_110 : decode (m_code mX10_reads) 110 = .ok (.aload_n 0, 1) := by decide +kernel
theorem dX10_reads_111 : decode (m_code mX10_reads) 111 = .ok (.aload_n 0, 1) := by decide +kernel
theorem dX10_reads_112 : decode (m_code mX10_reads) 112 = .ok (.getfield 293, 3) := by decide +kernel
theorem dX10_reads_115 : decode (m_code mX10_reads) 115 = .ok (.iconst 1, 1) := by decide +kernel
theorem dX10_reads_116 : decode (m_code mX10_reads) 116 = .ok (.iadd, 1) := by decide +kernel
theorem dX10_reads_117 : decode (m_code mX10_reads) 117 = .ok (.putfield 293, 3) := by decide +kernel
theorem dX10_reads_120 : decode (m_code mX10_reads) 120 = .ok (.goto (-25), 3) := by decide +kernel
theorem dX10_reads_123 : decode (m_code mX10_reads) 123 = .ok (.aload_n 0, 1) := by decide +kernel
theorem dX10_reads_124 : decode (m_code mX10_reads) 124 = .ok (.aload_n 0, 1) := by decide +kernel
theorem dX10_reads_125 : decode (m_code mX10_reads) 125 = .ok (.aload_n 0, 1) := by decide +kernel
theorem dX10_reads_126 : decode (m_code mX10_reads) 126 = .ok (.getfield 299, 3) := by decide +kernel
theorem dX10_reads_129 : decode (m_code mX10_reads) 129 = .ok (.aload_n 0, 1) := by decide +kernel
theorem dX10_reads_130 : decode (m_code mX10_reads) 130 = .ok (.getfield 293, 3) := by decide +kernel
theorem dX10_reads_133 : decode (m_code mX10_reads) 133 = .ok (.invokevirtual 311, 3) := by decide +kernel
theorem dX10_reads_136 : decode (m_code mX10_reads) 136 = .ok (.putfield 305, 3) := by decide +kernel
theorem dX10_reads_139 : decode (m_code mX10_reads) 139 = .ok (.aload_n 0, 1) := by decide +kernel
theorem dX10_reads_140 : decode (m_code mX10_reads) 140 = .ok (.getfield 305, 3) := by decide +kernel
theorem dX10_reads_143 : decode (m_code mX10_reads) 143 = .ok (.iconst (-1), 1) := by decide +kernel
theorem dX10_reads_144 : decode (m_code mX10_reads) 144 = .ok (.if_icmp .eq 127, 3) := by decide +kernel
theorem dX10_reads_147 : decode (m_code mX10_reads) 147 = .ok (.aload_n 0, 1) := by decide +kernel
theorem dX10_reads_148 : decode (m_code mX10_reads) 148 = .ok (.iconst 2, 1) := by decide +kernel
theorem dX10_reads_149 : decode (m_code mX10_reads) 149 = .ok (.putfield 302, 3) := by decide +kernel
theorem dX10_reads_152 : decode (m_code mX10_reads) 152 = .ok (.goto 119, 3) := by decide +kernel
theorem dX10_reads_155 : decode (m_code mX10_reads) 155 = .ok (.aload_n 0, 1) := by decide +kernel
theorem dX10_reads_156 : decode (m_code mX10_reads) 156 = .ok (.iload_n 1, 1) := by decide +kernel
theorem dX10_reads_157 : decode (m_code mX10_reads) 157 = .ok (.invokevirtual 314, 3) := by decide +kernel
theorem dX10_reads_160 : decode (m_code mX10_reads) 160 = .ok (.ifCond .eq 100, 3) := by decide +kernel
theorem dX10_reads_163 : decode (m_code mX10_reads) 163 = .ok (.aload_n 0, 1) := by decide +kernel
theorem dX10_reads_164 : decode (m_code mX10_reads) 164 = .ok (.iload_n 1, 1) := by decide +kernel
theorem dX10_reads_165 : decode (m_code mX10_reads) 165 = .ok (.bipush 48, 2) := by decide +kernel
theorem dX10_reads_167 : decode (m_code mX10_reads) 167 = .ok (.isub, 1) := by decide +kernel
theorem dX10_reads_168 : decode (m_code mX10_reads) 168 = .ok (.putfield 305, 3) := by decide +kernel
theorem dX10_reads_171 : decode (m_code mX10_reads) 171 = .ok (.aload_n 0, 1) := by decide +kernel
theorem dX10_reads_172 : decode (m_code mX10_reads) 172 = .ok (.aload_n 0, 1) := by decide +kernel
theorem dX10_reads_173 : decode (m_code mX10_reads) 173 = .ok (.aload_n 0, 1) := by decide +kernel
theorem dX10_reads_174 : decode (m_code mX10_reads) 174 = .ok (.getfield 293, 3) := by decide +kernel
theorem dX10_reads_177 : decode (m_code mX10_reads) 177 = .ok (.invokevirtual 296, 3) := by decide +kernel
theorem dX10_reads_180 : decode (m_code mX10_reads) 180 = .ok (.invokevirtual 314, 3) := by decide +kernel
theorem dX10_reads_183 : decode (m_code mX10_reads) 183 = .ok (.ifCond .eq 56, 3) := by decide +kernel
theorem dX10_reads_186 : decode (m_code mX10_reads) 186 = .ok (.aload_n 0, 1) := by decide +kernel
theorem dX10_reads_187 : decode (m_code mX10_reads) 187 = .ok (.aload_n 0, 1) := by decide +kernel
theorem dX10_reads_188 : decode (m_code mX10_reads) 188 = .ok (.getfield 305, 3) := by decide +kernel
theorem dX10_reads_191 : decode (m_code mX10_reads) 191 = .ok (.sipush 10000, 3) := by decide +kernel
theorem dX10_reads_194 : decode (m_code mX10_reads) 194 = .ok (.if_icmp .ge 25, 3) := by decide +kernel
theorem dX10_reads_197 : decode (m_code mX10_reads) 197 = .ok (.bipush 10, 2) := by decide +kernel
theorem dX10_reads_199 : decode (m_code mX10_reads) 199 = .ok (.aload_n 0, 1) := by decide +kernel
theorem dX10_reads_200 : decode (m_code mX10_reads) 200 = .ok (.getfield 305, 3) := by decide +kernel
theorem dX10_reads_203 : decode (m_code mX10_reads) 203 = .ok (.imul, 1) := by decide +kernel
theorem dX10_reads_204 : decode (m_code mX10_reads) 204 = .ok (.aload_n 0, 1) := by decide +kernel
theorem dX10_reads_205 : decode (m_code mX10_reads) 205 = .ok (.aload_n 0, 1) := by decide +kernel
theorem dX10_reads_206 : decode (m_code mX10_reads) 206 = .ok (.getfield 293, 3) := by decide +kernel
theorem dX10_reads_209 : decode (m_code mX10_reads) 209 = .ok (.invokevirtual 296, 3) := by decide +kernel
theorem dX10_reads_212 : decode (m_code mX10_reads) 212 = .ok (.iadd, 1) := by decide +kernel
theorem dX10_reads_213 : decode (m_code mX10_reads) 213 = .ok (.bipush 48, 2) := by decide +kernel
theorem dX10_reads_215 : decode (m_code mX10_reads) 215 = .ok (.isub, 1) := by decide +kernel
theorem dX10_reads_216 : decode (m_code mX10_reads) 216 = .ok (.goto 7, 3) := by decide +kernel
theorem dX10_reads_219 : decode (m_code mX10_reads) 219 = .ok (.aload_n 0, 1) := by decide +kernel
theorem dX10_reads_220 : decode (m_code mX10_reads) 220 = .ok (.getfield 305, 3) := by decide +kernel
theorem dX10_reads_223 : decode (m_code mX10_reads) 223 = .ok (.putfield 305, 3) := by decide +kernel
theorem dX10_reads_226 : decode (m_code mX10_reads) 226 = .ok (.aload_n 0, 1) := by decide +kernel
theorem dX10_reads_227 : decode (m_code mX10_reads) 227 = .ok (.aload_n 0, 1) := by decide +kernel
theorem dX10_reads_228 : decode (m_code mX10_reads) 228 = .ok (.getfield 293, 3) := by decide +kernel
theorem dX10_reads_231 : decode (m_code mX10_reads) 231 = .ok (.iconst 1, 1) := by decide +kernel
theorem dX10_reads_232 : decode (m_code mX10_reads) 232 = .ok (.iadd, 1) := by decide +kernel
theorem dX10_reads_233 : decode (m_code mX10_reads) 233 = .ok (.putfield 293, 3) := by decide +kernel
theorem dX10_reads_236 : decode (m_code mX10_reads) 236 = .ok (.goto (-65), 3) := by decide +kernel
theorem dX10_reads_239 : decode (m_code mX10_reads) 239 = .ok (.aload_n 0, 1) := by decide +kernel
theorem dX10_reads_240 : decode (m_code mX10_reads) 240 = .ok (.getfield 293, 3) := by decide +kernel
theorem dX10_reads_243 : decode (m_code mX10_reads) 243 = .ok (.aload_n 0, 1) := by decide +kernel
theorem dX10_reads_244 : decode (m_code mX10_reads) 244 = .ok (.getfield 299, 3) := by decide +kernel
theorem dX10_reads_247 : decode (m_code mX10_reads) 247 = .ok (.isub, 1) := by decide +kernel
theorem dX10_reads_248 : decode (m_code mX10_reads) 248 = .ok (.iconst 5, 1) := by decide +kernel
theorem dX10_reads_249 : decode (m_code mX10_reads) 249 = .ok (.if_icmp .ge 22, 3) := by decide +kernel
theorem dX10_reads_252 : decode (m_code mX10_reads) 252 = .ok (.aload_n 0, 1) := by decide +kernel
theorem dX10_reads_253 : decode (m_code mX10_reads) 253 = .ok (.iconst 3, 1) := by decide +kernel
theorem dX10_reads_254 : decode (m_code mX10_reads) 254 = .ok (.putfield 302, 3) := by decide +kernel
theorem dX10_reads_257 : decode (m_code mX10_reads) 257 = .ok (.goto 14, 3) := by decide +kernel
theorem dX10_reads_260 : decode (m_code mX10_reads) 260 = .ok (.iload_n 1, 1) := by decide +kernel
theorem dX10_reads_261 : decode (m_code mX10_reads) 261 = .ok (.bipush 59, 2) := by decide +kernel
theorem dX10_reads_263 : decode (m_code mX10_reads) 263 = .ok (.if_icmp .ne 8, 3) := by decide +kernel
theorem dX10_reads_266 : decode (m_code mX10_reads) 266 = .ok (.aload_n 0, 1) := by decide +kernel
theorem dX10_reads_267 : decode (m_code mX10_reads) 267 = .ok (.iconst 4, 1) := by decide +kernel
theorem dX10_reads_268 : decode (m_code mX10_reads) 268 = .ok (.putfield 302, 3) := by decide +kernel
theorem dX10_reads_271 : decode (m_code mX10_reads) 271 = .ok (.return_, 1) := by decide +kernel
theorem dX10_errs_0 : decode (m_code mX10_errs) 0 = .ok (.aload_n 0, 1) := by decide +kernel
theorem dX10_errs_1 : decode (m_code mX10_errs) 1 = .ok (.iload_n 1, 1) := by decide +kernel
theorem dX10_errs_2 : decode (m_code mX10_errs) 2 = .ok (.putfield 317, 3) := by decide +kernel
theorem dX10_errs_5 : decode (m_code mX10_errs) 5 = .ok (.aload_n 0, 1) := by decide +kernel
theorem dX10_errs_6 : decode (m_code mX10_errs) 6 = .ok (.aload_n 0, 1) := by decide +kernel
theorem dX10_errs_7 : decode (m_code mX10_errs) 7 = .ok (.getfield 299, 3) := by decide +kernel
theorem dX10_errs_10 : decode (m_code mX10_errs) 10 = .ok (.putfield 320, 3) := by decide +kernel
theorem dX10_errs_13 : decode (m_code mX10_errs) 13 = .ok (.iconst (-1), 1) := by decide +kernel
theorem dX10_errs_14 : decode (m_code mX10_errs) 14 = .ok (.ireturn, 1) := by decide +kernel
theorem dX10_readNumber_0 : decode (m_code mX10_readNumber) 0 = .ok (.aload_n 0, 1) := by decide +kernel
theorem dX10_readNumber_1 : decode (m_code mX10_readNumber) 1 = .ok (.getfield 302, 3) := by decide +kernel
theorem dX10_readNumber_4 : decode (m_code mX10_readNumber) 4 = .ok (.iconst 3, 1) := by decide +kernel
theorem dX10_readNumber_5 : decode (m_code mX10_readNumber) 5 = .ok (.if_icmp .eq 9, 3) := by decide +kernel
theorem dX10_readNumber_8 : decode (m_code mX10_readNumber) 8 = .ok (.aload_n 0, 1) := by decide +kernel
theorem dX10_readNumber_9 : decode (m_code mX10_readNumber) 9 = .ok (.iconst 1, 1) := by decide +kernel
theorem dX10_readNumber_10 : decode (m_code mX10_readNumber) 10 = .ok (.invokevirtual 323, 3) := by decide +kernel
theorem dX10_readNumber_13 : decode (m_code mX10_readNumber) 13 = .ok (.ireturn, 1) := by decide +kernel
theorem dX10_readNumber_14 : decode (m_code mX10_readNumber) 14 = .ok (.aload_n 0, 1) := by decide +kernel
theorem dX10_readNumber_15 : decode (m_code mX10_readNumber) 15 = .ok (.aload_n 0, 1) := by decide +kernel
theorem dX10_readNumber_16 : decode (m_code mX10_readNumber) 16 = .ok (.getfield 305, 3) := by decide +kernel
theorem dX10_readNumber_19 : decode (m_code mX10_readNumber) 19 = .ok (.iload_n 1, 1) := by decide +kernel
theorem dX10_readNumber_20 : decode (m_code mX10_readNumber) 20 = .ok (.iload_n 2, 1) := by decide +kernel
theorem dX10_readNumber_21 : decode (m_code mX10_readNumber) 21 = .ok (.invokevirtual 61, 3) := by decide +kernel
theorem dX10_readNumber_24 : decode (m_code mX10_readNumber) 24 = .ok (.ifCond .ne 9, 3) := by decide +kernel
theorem dX10_readNumber_27 : decode (m_code mX10_readNumber) 27 = .ok (.aload_n 0, 1) := by decide +kernel
theorem dX10_readNumber_28 : decode (m_code mX10_readNumber) 28 = .ok (.iconst 2, 1) := by decide +kernel
theorem dX10_readNumber_29 : decode (m_code mX10_readNumber) 29 = .ok (.invokevirtual 323, 3) := by decide +kernel
theorem dX10_readNumber_32 : decode (m_code mX10_readNumber) 32 = .ok (.ireturn, 1) := by decide +kernel
theorem dX10_readNumber_33 : decode (m_code mX10_readNumber) 33 = .ok (.aload_n 0, 1) := by decide +kernel
theorem dX10_readNumber_34 : decode (m_code mX10_readNumber) 34 = .ok (.getfield 305, 3) := by decide +kernel
theorem dX10_readNumber_37 : decode (m_code mX10_readNumber) 37 = .ok (.istore_n 3, 1) := by decide +kernel
theorem dX10_readNumber_38 : decode (m_code mX10_readNumber) 38 = .ok (.aload_n 0, 1) := by decide +kernel
theorem dX10_readNumber_39 : decode (m_code mX10_readNumber) 39 = .ok (.invokevirtual 326, 3) := by decide +kernel
theorem dX10_readNumber_42 : decode (m_code mX10_readNumber) 42 = .ok (.iload_n 3, 1) := by decide +kernel
theorem dX10_readNumber_43 : decode (m_code mX10_readNumber) 43 = .ok (.ireturn, 1) := by decide +kernel
theorem dX10_readLie_0 : decode (m_code mX10_readLie) 0 = .ok (.aload_n 0, 1) := by decide +kernel
theorem dX10_readLie_1 : decode (m_code mX10_readLie) 1 = .ok (.getfield 38, 3) := by decide +kernel
theorem dX10_readLie_4 : decode (m_code mX10_readLie) 4 = .ok (.iload_n 1, 1) := by decide +kernel
theorem dX10_readLie_5 : decode (m_code mX10_readLie) 5 = .ok (.iconst 2, 1) := by decide +kernel
theorem dX10_readLie_6 : decode (m_code mX10_readLie) 6 = .ok (.iadd, 1) := by decide +kernel
theorem dX10_readLie_7 : decode (m_code mX10_readLie) 7 = .ok (.aload_n 0, 1) := by decide +kernel
theorem dX10_readLie_8 : decode (m_code mX10_readLie) 8 = .ok (.iconst 0, 1) := by decide +kernel
theorem dX10_readLie_9 : decode (m_code mX10_readLie) 9 = .ok (.bipush 6, 2) := by decide +kernel
theorem dX10_readLie_11 : decode (m_code mX10_readLie) 11 = .ok (.invokevirtual 329, 3) := by decide +kernel
theorem dX10_readLie_14 : decode (m_code mX10_readLie) 14 = .ok (.iastore, 1) := by decide +kernel
theorem dX10_readLie_15 : decode (m_code mX10_readLie) 15 = .ok (.aload_n 0, 1) := by decide +kernel
theorem dX10_readLie_16 : decode (m_code mX10_readLie) 16 = .ok (.getfield 38, 3) := by decide +kernel
theorem dX10_readLie_19 : decode (m_code mX10_readLie) 19 = .ok (.iload_n 1, 1) := by decide +kernel
theorem dX10_readLie_20 : decode (m_code mX10_readLie) 20 = .ok (.iconst 2, 1) := by decide +kernel
theorem dX10_readLie_21 : decode (m_code mX10_readLie) 21 = .ok (.iadd, 1) := by decide +kernel
theorem dX10_readLie_22 : decode (m_code mX10_readLie) 22 = .ok (.iaload, 1) := by decide +kernel
theorem dX10_readLie_23 : decode (m_code mX10_readLie) 23 = .ok (.iconst (-1), 1) := by decide +kernel
theorem dX10_readLie_24 : decode (m_code mX10_readLie) 24 = .ok (.if_icmp .ne 5, 3) := by decide +kernel
theorem dX10_readLie_27 : decode (m_code mX10_readLie) 27 = .ok (.iconst (-1), 1) := by decide +kernel
theorem dX10_readLie_28 : decode (m_code mX10_readLie) 28 = .ok (.ireturn, 1) := by decide +kernel
theorem dX10_readLie_29 : decode (m_code mX10_readLie) 29 = .ok (.aload_n 0, 1) := by decide +kernel
theorem dX10_readLie_30 : decode (m_code mX10_readLie) 30 = .ok (.getfield 302, 3) := by decide +kernel
theorem dX10_readLie_33 : decode (m_code mX10_readLie) 33 = .ok (.iconst 2, 1) := by decide +kernel
theorem dX10_readLie_34 : decode (m_code mX10_readLie) 34 = .ok (.if_icmp .ne 33, 3) := by decide +kernel
theorem dX10_readLie_37 : decode (m_code mX10_readLie) 37 = .ok (.aload_n 0, 1) := by decide +kernel
theorem dX10_readLie_38 : decode (m_code mX10_readLie) 38 = .ok (.getfield 305, 3) := by decide +kernel
theorem dX10_readLie_41 : decode (m_code mX10_readLie) 41 = .ok (.bipush 7, 2) := by decide +kernel
theorem dX10_readLie_43 : decode (m_code mX10_readLie) 43 = .ok (.if_icmp .eq 20, 3) := by decide +kernel
theorem dX10_readLie_46 : decode (m_code mX10_readLie) 46 = .ok (.aload_n 0, 1) := by decide +kernel
theorem dX10_readLie_47 : decode (m_code mX10_readLie) 47 = .ok (.getfield 305, 3) := by decide +kernel
theorem dX10_readLie_50 : decode (m_code mX10_readLie) 50 = .ok (.bipush 8, 2) := by decide +kernel
theorem dX10_readLie_52 : decode (m_code mX10_readLie) 52 = .ok (.if_icmp .eq 11, 3) := by decide +kernel
theorem dX10_readLie_55 : decode (m_code mX10_readLie) 55 = .ok (.aload_n 0, 1) := by decide +kernel
theorem dX10_readLie_56 : decode (m_code mX10_readLie) 56 = .ok (.getfield 305, 3) := by decide +kernel
theorem dX10_readLie_59 : decode (m_code mX10_readLie) 59 = .ok (.iconst 5, 1) := by decide +kernel
theorem dX10_readLie_60 : decode (m_code mX10_readLie) 60 = .ok (.if_icmp .ne 7, 3) := by decide +kernel
theorem dX10_readLie_63 : decode (m_code mX10_readLie) 63 = .ok (.iconst 1, 1) := by decide +kernel
theorem dX10_readLie_64 : decode (m_code mX10_readLie) 64 = .ok (.goto 4, 3) := by decide +kernel
theorem dX10_readLie_67 : decode (m_code mX10_readLie) 67 = .ok (.iconst 0, 1) := by decide +kernel
theorem dX10_readLie_68 : decode (m_code mX10_readLie) 68 = .ok (.istore_n 2, 1) := by decide +kernel
theorem dX10_readLie_69 : decode (m_code mX10_readLie) 69 = .ok (.iload_n 2, 1) := by decide +kernel
theorem dX10_readLie_70 : decode (m_code mX10_readLie) 70 = .ok (.ifCond .ne 9, 3) := by decide +kernel
theorem dX10_readLie_73 : decode (m_code mX10_readLie) 73 = .ok (.aload_n 0, 1) := by decide +kernel
theorem dX10_readLie_74 : decode (m_code mX10_readLie) 74 = .ok (.iconst 1, 1) := by decide +kernel
theorem dX10_readLie_75 : decode (m_code mX10_readLie) 75 = .ok (.invokevirtual 323, 3) := by decide +kernel
theorem dX10_readLie_78 : decode (m_code mX10_readLie) 78 = .ok (.ireturn, 1) := by decide +kernel
theorem dX10_readLie_79 : decode (m_code mX10_readLie) 79 = .ok (.aload_n 0, 1) := by decide +kernel
theorem dX10_readLie_80 : decode (m_code mX10_readLie) 80 = .ok (.getfield 305, 3) := by decide +kernel
theorem dX10_readLie_83 : decode (m_code mX10_readLie) 83 = .ok (.istore_n 3, 1) := by decide +kernel
theorem dX10_readLie_84 : decode (m_code mX10_readLie) 84 = .ok (.aload_n 0, 1) := by decide +kernel
theorem dX10_readLie_85 : decode (m_code mX10_readLie) 85 = .ok (.getfield 38, 3) := by decide +kernel
theorem dX10_readLie_88 : decode (m_code mX10_readLie) 88 = .ok (.iload_n 1, 1) := by decide +kernel
theorem dX10_readLie_89 : decode (m_code mX10_readLie) 89 = .ok (.iconst 1, 1) := by decide +kernel
theorem dX10_readLie_90 : decode (m_code mX10_readLie) 90 = .ok (.iadd, 1) := by decide +kernel
theorem dX10_readLie_91 : decode (m_code mX10_readLie) 91 = .ok (.iload_n 3, 1) := by decide +kernel
theorem dX10_readLie_92 : decode (m_code mX10_readLie) 92 = .ok (.bipush 7, 2) := by decide +kernel
theorem dX10_readLie_94 : decode (m_code mX10_readLie) 94 = .ok (.if_icmp .ne 7, 3) := by decide +kernel
theorem dX10_readLie_97 : decode (m_code mX10_readLie) 97 = .ok (.iconst 0, 1) := by decide +kernel
theorem dX10_readLie_98 : decode (m_code mX10_readLie) 98 = .ok (.goto 14, 3) := by decide +kernel
theorem dX10_readLie_101 : decode (m_code mX10_readLie) 101 = .ok (.iload_n 3, 1) := by decide +kernel
theorem dX10_readLie_102 : decode (m_code mX10_readLie) 102 = .ok (.bipush 8, 2) := by decide +kernel
theorem dX10_readLie_104 : decode (m_code mX10_readLie) 104 = .ok (.if_icmp .ne 7, 3) := by decide +kernel
theorem dX10_readLie_107 : decode (m_code mX10_readLie) 107 = .ok (.iconst 1, 1) := by decide +kernel
theorem dX10_readLie_108 : decode (m_code mX10_readLie) 108 = .ok (.goto 4, 3) := by decide +kernel
theorem dX10_readLie_111 : decode (m_code mX10_readLie) 111 = .ok (.iconst 2, 1) := by decide +kernel
theorem dX10_readLie_112 : decode (m_code mX10_readLie) 112 = .ok (.iastore, 1) := by decide +kernel
theorem dX10_readLie_113 : decode (m_code mX10_readLie) 113 = .ok (.aload_n 0, 1) := by decide +kernel
theorem dX10_readLie_114 : decode (m_code mX10_readLie) 114 = .ok (.invokevirtual 326, 3) := by decide +kernel
theorem dX10_readLie_117 : decode (m_code mX10_readLie) 117 = .ok (.aload_n 0, 1) := by decide +kernel
theorem dX10_readLie_118 : decode (m_code mX10_readLie) 118 = .ok (.getfield 38, 3) := by decide +kernel
theorem dX10_readLie_121 : decode (m_code mX10_readLie) 121 = .ok (.iload_n 1, 1) := by decide +kernel
theorem dX10_readLie_122 : decode (m_code mX10_readLie) 122 = .ok (.iconst 3, 1) := by decide +kernel
theorem dX10_readLie_123 : decode (m_code mX10_readLie) 123 = .ok (.iadd, 1) := by decide +kernel
theorem dX10_readLie_124 : decode (m_code mX10_readLie) 124 = .ok (.iload_n 3, 1) := by decide +kernel
theorem dX10_readLie_125 : decode (m_code mX10_readLie) 125 = .ok (.iconst 5, 1) := by decide +kernel
theorem dX10_readLie_126 : decode (m_code mX10_readLie) 126 = .ok (.if_icmp .ne 7, 3) := by decide +kernel
theorem dX10_readLie_129 : decode (m_code mX10_readLie) 129 = .ok (.iconst 0, 1) := by decide +kernel
theorem dX10_readLie_130 : decode (m_code mX10_readLie) 130 = .ok (.goto 10, 3) := by decide +kernel
theorem dX10_readLie_133 : decode (m_code mX10_readLie) 133 = .ok (.aload_n 0, 1) := by decide +kernel
theorem dX10_readLie_134 : decode (m_code mX10_readLie) 134 = .ok (.iconst 0, 1) := by decide +kernel
theorem dX10_readLie_135 : decode (m_code mX10_readLie) 135 = .ok (.bipush 99, 2) := by decide +kernel
theorem dX10_readLie_137 : decode (m_code mX10_readLie) 137 = .ok (.invokevirtual 329, 3) := by decide +kernel
theorem dX10_readLie_140 : decode (m_code mX10_readLie) 140 = .ok (.iastore, 1) := by decide +kernel
theorem dX10_readLie_141 : decode (m_code mX10_readLie) 141 = .ok (.aload_n 0, 1) := by decide +kernel
theorem dX10_readLie_142 : decode (m_code mX10_readLie) 142 = .ok (.getfield 38, 3) := by decide +kernel
theorem dX10_readLie_145 : decode (m_code mX10_readLie) 145 = .ok (.iload_n 1, 1) := by decide +kernel
theorem dX10_readLie_146 : decode (m_code mX10_readLie) 146 = .ok (.iconst 3, 1) := by decide +kernel
theorem dX10_readLie_147 : decode (m_code mX10_readLie) 147 = .ok (.iadd, 1) := by decide +kernel
theorem dX10_readLie_148 : decode (m_code mX10_readLie) 148 = .ok (.iaload, 1) := by decide +kernel
theorem dX10_readLie_149 : decode (m_code mX10_readLie) 149 = .ok (.iconst (-1), 1) := by decide +kernel
theorem dX10_readLie_150 : decode (m_code mX10_readLie) 150 = .ok (.if_icmp .ne 5, 3) := by decide +kernel
theorem dX10_readLie_153 : decode (m_code mX10_readLie) 153 = .ok (.iconst (-1), 1) := by decide +kernel
theorem dX10_readLie_154 : decode (m_code mX10_readLie) 154 = .ok (.ireturn, 1) := by decide +kernel
theorem dX10_readLie_155 : decode (m_code mX10_readLie) 155 = .ok (.aload_n 0, 1) := by decide +kernel
theorem dX10_readLie_156 : decode (m_code mX10_readLie) 156 = .ok (.getfield 38, 3) := by decide +kernel
theorem dX10_readLie_159 : decode (m_code mX10_readLie) 159 = .ok (.iload_n 1, 1) := by decide +kernel
theorem dX10_readLie_160 : decode (m_code mX10_readLie) 160 = .ok (.iconst 4, 1) := by decide +kernel
theorem dX10_readLie_161 : decode (m_code mX10_readLie) 161 = .ok (.iadd, 1) := by decide +kernel
theorem dX10_readLie_162 : decode (m_code mX10_readLie) 162 = .ok (.iload_n 3, 1) := by decide +kernel
theorem dX10_readLie_163 : decode (m_code mX10_readLie) 163 = .ok (.bipush 7, 2) := by decide +kernel
theorem dX10_readLie_165 : decode (m_code mX10_readLie) 165 = .ok (.if_icmp .ne 7, 3) := by decide +kernel
theorem dX10_readLie_168 : decode (m_code mX10_readLie) 168 = .ok (.iconst 0, 1) := by decide +kernel
theorem dX10_readLie_169 : decode (m_code mX10_readLie) 169 = .ok (.goto 11, 3) := by decide +kernel
theorem dX10_readLie_172 : decode (m_code mX10_readLie) 172 = .ok (.aload_n 0, 1) := by decide +kernel
theorem dX10_readLie_173 : decode (m_code mX10_readLie) 173 = .ok (.iconst 1, 1) := by decide +kernel
theorem dX10_readLie_174 : decode (m_code mX10_readLie) 174 = .ok (.sipush 200, 3) := by decide +kernel
theorem dX10_readLie_177 : decode (m_code mX10_readLie) 177 = .ok (.invokevirtual 329, 3) := by decide +kernel
theorem dX10_readLie_180 : decode (m_code mX10_readLie) 180 = .ok (.iastore, 1) := by decide +kernel
theorem dX10_readLie_181 : decode (m_code mX10_readLie) 181 = .ok (.aload_n 0, 1) := by decide +kernel
theorem dX10_readLie_182 : decode (m_code mX10_readLie) 182 = .ok (.getfield 38, 3) := by decide +kernel
theorem dX10_readLie_185 : decode (m_code mX10_readLie) 185 = .ok (.iload_n 1, 1) := by decide +kernel
theorem dX10_readLie_186 : decode (m_code mX10_readLie) 186 = .ok (.iconst 4, 1) := by decide +kernel
theorem dX10_readLie_187 : decode (m_code mX10_readLie) 187 = .ok (.iadd, 1) := by decide +kernel
theorem dX10_readLie_188 : decode (m_code mX10_readLie) 188 = .ok (.iaload, 1) := by decide +kernel
theorem dX10_readLie_189 : decode (m_code mX10_readLie) 189 = .ok (.ireturn, 1) := by decide +kernel
theorem dX10_readNumbers_0 : decode (m_code mX10_readNumbers) 0 = .ok (.iload_n 2, 1) := by decide +kernel
theorem dX10_readNumbers_1 : decode (m_code mX10_readNumbers) 1 = .ok (.bipush 6, 2) := by decide +kernel
theorem dX10_readNumbers_3 : decode (m_code mX10_readNumbers) 3 = .ok (.if_icmp .ne 9, 3) := by decide +kernel
theorem dX10_readNumbers_6 : decode (m_code mX10_readNumbers) 6 = .ok (.aload_n 0, 1) := by decide +kernel
theorem dX10_readNumbers_7 : decode (m_code mX10_readNumbers) 7 = .ok (.iload_n 1, 1) := by decide +kernel
theorem dX10_readNumbers_8 : decode (m_code mX10_readNumbers) 8 = .ok (.invokevirtual 332, 3) := by decide +kernel
theorem dX10_readNumbers_11 : decode (m_code mX10_readNumbers) 11 = .ok (.ireturn, 1) := by decide +kernel
theorem dX10_readNumbers_12 : decode (m_code mX10_readNumbers) 12 = .ok (.iload_n 2, 1) := by decide +kernel
theorem dX10_readNumbers_13 : decode (m_code mX10_readNumbers) 13 = .ok (.iconst 1, 1) := by decide +kernel
theorem dX10_readNumbers_14 : decode (m_code mX10_readNumbers) 14 = .ok (.if_icmp .eq 14, 3) := by decide +kernel
theorem dX10_readNumbers_17 : decode (m_code mX10_readNumbers) 17 = .ok (.iload_n 2, 1) := by decide +kernel
theorem dX10_readNumbers_18 : decode (m_code mX10_readNumbers) 18 = .ok (.iconst 2, 1) := by decide +kernel
theorem dX10_readNumbers_19 : decode (m_code mX10_readNumbers) 19 = .ok (.if_icmp .eq 9, 3) := by decide +kernel
theorem dX10_readNumbers_22 : decode (m_code mX10_readNumbers) 22 = .ok (.iload_n 2, 1) := by decide +kernel
theorem dX10_readNumbers_23 : decode (m_code mX10_readNumbers) 23 = .ok (.bipush 9, 2) := by decide +kernel
theorem dX10_readNumbers_25 : decode (m_code mX10_readNumbers) 25 = .ok (.if_icmp .ne 7, 3) := by decide +kernel
theorem dX10_readNumbers_28 : decode (m_code mX10_readNumbers) 28 = .ok (.iconst 1, 1) := by decide +kernel
theorem dX10_readNumbers_29 : decode (m_code mX10_readNumbers) 29 = .ok (.goto 4, 3) := by decide +kernel
theorem dX10_readNumbers_32 : decode (m_code mX10_readNumbers) 32 = .ok (.iconst 0, 1) := by decide +kernel
theorem dX10_readNumbers_33 : decode (m_code mX10_readNumbers) 33 = .ok (.istore_n 3, 1) := by decide +kernel
theorem dX10_readNumbers_34 : decode (m_code mX10_readNumbers) 34 = .ok (.iload_n 2, 1) := by decide +kernel
theorem dX10_readNumbers_35 : decode (m_code mX10_readNumbers) 35 = .ok (.bipush 9, 2) := by decide +kernel
theorem dX10_readNumbers_37 : decode (m_code mX10_readNumbers) 37 = .ok (.if_icmp .ne 8, 3) := by decide +kernel
theorem dX10_readNumbers_40 : decode (m_code mX10_readNumbers) 40 = .ok (.bipush 20, 2) := by decide +kernel
theorem dX10_readNumbers_42 : decode (m_code mX10_readNumbers) 42 = .ok (.goto 25, 3) := by decide +kernel
theorem dX10_readNumbers_45 : decode (m_code mX10_readNumbers) 45 = .ok (.iload_n 2, 1) := by decide +kernel
theorem dX10_readNumbers_46 : decode (m_code mX10_readNumbers) 46 = .ok (.iconst 1, 1) := by decide +kernel
theorem dX10_readNumbers_47 : decode (m_code mX10_readNumbers) 47 = .ok (.if_icmp .eq 13, 3) := by decide +kernel
theorem dX10_readNumbers_50 : decode (m_code mX10_readNumbers) 50 = .ok (.iload_n 2, 1) := by decide +kernel
theorem dX10_readNumbers_51 : decode (m_code mX10_readNumbers) 51 = .ok (.iconst 2, 1) := by decide +kernel
theorem dX10_readNumbers_52 : decode (m_code mX10_readNumbers) 52 = .ok (.if_icmp .eq 8, 3) := by decide +kernel
theorem dX10_readNumbers_55 : decode (m_code mX10_readNumbers) 55 = .ok (.iload_n 2, 1) := by decide +kernel
theorem dX10_readNumbers_56 : decode (m_code mX10_readNumbers) 56 = .ok (.iconst 4, 1) := by decide +kernel
theorem dX10_readNumbers_57 : decode (m_code mX10_readNumbers) 57 = .ok (.if_icmp .ne 8, 3) := by decide +kernel
theorem dX10_readNumbers_60 : decode (m_code mX10_readNumbers) 60 = .ok (.bipush 50, 2) := by decide +kernel
theorem dX10_readNumbers_62 : decode (m_code mX10_readNumbers) 62 = .ok (.goto 5, 3) := by decide +kernel
theorem dX10_readNumbers_65 : decode (m_code mX10_readNumbers) 65 = .ok (.bipush 6, 2) := by decide +kernel
theorem dX10_readNumbers_67 : decode (m_code mX10_readNumbers) 67 = .ok (.istore 4, 2) := by decide +kernel
theorem dX10_readNumbers_69 : decode (m_code mX10_readNumbers) 69 = .ok (.aload_n 0, 1) := by decide +kernel
theorem dX10_readNumbers_70 : decode (m_code mX10_readNumbers) 70 = .ok (.getfield 38, 3) := by decide +kernel
theorem dX10_readNumbers_73 : decode (m_code mX10_readNumbers) 73 = .ok (.iload_n 1, 1) := by decide +kernel
theorem dX10_readNumbers_74 : decode (m_code mX10_readNumbers) 74 = .ok (.iconst 2, 1) := by decide +kernel
theorem dX10_readNumbers_75 : decode (m_code mX10_readNumbers) 75 = .ok (.iadd, 1) := by decide +kernel
theorem dX10_readNumbers_76 : decode (m_code mX10_readNumbers) 76 = .ok (.aload_n 0, 1) := by decide +kernel
theorem dX10_readNumbers_77 : decode (m_code mX10_readNumbers) 77 = .ok (.iload_n 3, 1) := by decide +kernel
theorem dX10_readNumbers_78 : decode (m_code mX10_readNumbers) 78 = .ok (.iload 4, 2) := by decide +kernel
theorem dX10_readNumbers_80 : decode (m_code mX10_readNumbers) 80 = .ok (.invokevirtual 329, 3) := by decide +kernel
theorem dX10_readNumbers_83 : decode (m_code mX10_readNumbers) 83 = .ok (.iastore, 1) := by decide +kernel
theorem dX10_readNumbers_84 : decode (m_code mX10_readNumbers) 84 = .ok (.aload_n 0, 1) := by decide +kernel
theorem dX10_readNumbers_85 : decode (m_code mX10_readNumbers) 85 = .ok (.getfield 38, 3) := by decide +kernel
theorem dX10_readNumbers_88 : decode (m_code mX10_readNumbers) 88 = .ok (.iload_n 1, 1) := by decide +kernel
theorem dX10_readNumbers_89 : decode (m_code mX10_readNumbers) 89 = .ok (.iconst 2, 1) := by decide +kernel
theorem dX10_readNumbers_90 : decode (m_code mX10_readNumbers) 90 = .ok (.iadd, 1) := by decide +kernel
theorem dX10_readNumbers_91 : decode (m_code mX10_readNumbers) 91 = .ok (.iaload, 1) := by decide +kernel
theorem dX10_readNumbers_92 : decode (m_code mX10_readNumbers) 92 = .ok (.iconst (-1), 1) := by decide +kernel
theorem dX10_readNumbers_93 : decode (m_code mX10_readNumbers) 93 = .ok (.if_icmp .ne 5, 3) := by decide +kernel
theorem dX10_readNumbers_96 : decode (m_code mX10_readNumbers) 96 = .ok (.iconst (-1), 1) := by decide +kernel
theorem dX10_readNumbers_97 : decode (m_code mX10_readNumbers) 97 = .ok (.ireturn, 1) := by decide +kernel
theorem dX10_readNumbers_98 : decode (m_code mX10_readNumbers) 98 = .ok (.aload_n 0, 1) := by decide +kernel
theorem dX10_readNumbers_99 : decode (m_code mX10_readNumbers) 99 = .ok (.getfield 38, 3) := by decide +kernel
theorem dX10_readNumbers_102 : decode (m_code mX10_readNumbers) 102 = .ok (.iload_n 1, 1) := by decide +kernel
theorem dX10_readNumbers_103 : decode (m_code mX10_readNumbers) 103 = .ok (.iconst 3, 1) := by decide +kernel
theorem dX10_readNumbers_104 : decode (m_code mX10_readNumbers) 104 = .ok (.iadd, 1) := by decide +kernel
theorem dX10_readNumbers_105 : decode (m_code mX10_readNumbers) 105 = .ok (.iload_n 2, 1) := by decide +kernel
theorem dX10_readNumbers_106 : decode (m_code mX10_readNumbers) 106 = .ok (.ifCond .ne 14, 3) := by decide +kernel
theorem dX10_readNumbers_109 : decode (m_code mX10_readNumbers) 109 = .ok (.aload_n 0, 1) := by decide +kernel
theorem dX10_readNumbers_110 : decode (m_code mX10_readNumbers) 110 = .ok (.iconst 0, 1) := by decide +kernel
theorem dX10_readNumbers_111 : decode (m_code mX10_readNumbers) 111 = .ok (.sipush 999, 3) := by decide +kernel
theorem dX10_readNumbers_114 : decode (m_code mX10_readNumbers) 114 = .ok (.invokevirtual 329, 3) := by decide +kernel
theorem dX10_readNumbers_117 : decode (m_code mX10_readNumbers) 117 = .ok (.goto 4, 3) := by decide +kernel
theorem dX10_readNumbers_120 : decode (m_code mX10_readNumbers) 120 = .ok (.iconst 0, 1) := by decide +kernel
theorem dX10_readNumbers_121 : decode (m_code mX10_readNumbers) 121 = .ok (.iastore, 1) := by decide +kernel
theorem dX10_readNumbers_122 : decode (m_code mX10_readNumbers) 122 = .ok (.aload_n 0, 1) := by decide +kernel
theorem dX10_readNumbers_123 : decode (m_code mX10_readNumbers) 123 = .ok (.getfield 38, 3) := by decide +kernel
theorem dX10_readNumbers_126 : decode (m_code mX10_readNumbers) 126 = .ok (.iload_n 1, 1) := by decide +kernel
theorem dX10_readNumbers_127 : decode (m_code mX10_readNumbers) 127 = .ok (.iconst 3, 1) := by decide +kernel
theorem dX10_readNumbers_128 : decode (m_code mX10_readNumbers) 128 = .ok (.iadd, 1) := by decide +kernel
theorem dX10_readNumbers_129 : decode (m_code mX10_readNumbers) 129 = .ok (.iaload, 1) := by decide +kernel
theorem dX10_readNumbers_130 : decode (m_code mX10_readNumbers) 130 = .ok (.ireturn, 1) := by decide +kernel
theorem dX10_readLine_0 : decode (m_code mX10_readLine) 0 = .ok (.aload_n 0, 1) := by decide +kernel
theorem dX10_readLine_1 : decode (m_code mX10_readLine) 1 = .ok (.getfield 302, 3) := by decide +kernel
theorem dX10_readLine_4 : decode (m_code mX10_readLine) 4 = .ok (.iconst 2, 1) := by decide +kernel
theorem dX10_readLine_5 : decode (m_code mX10_readLine) 5 = .ok (.if_icmp .ne 21, 3) := by decide +kernel
theorem dX10_readLine_8 : decode (m_code mX10_readLine) 8 = .ok (.aload_n 0, 1) := by decide +kernel
theorem dX10_readLine_9 : decode (m_code mX10_readLine) 9 = .ok (.getfield 305, 3) := by decide +kernel
theorem dX10_readLine_12 : decode (m_code mX10_readLine) 12 = .ok (.bipush 7, 2) := by decide +kernel
theorem dX10_readLine_14 : decode (m_code mX10_readLine) 14 = .ok (.if_icmp .eq 12, 3) := by decide +kernel
theorem dX10_readLine_17 : decode (m_code mX10_readLine) 17 = .ok (.aload_n 0, 1) := by decide +kernel
theorem dX10_readLine_18 : decode (m_code mX10_readLine) 18 = .ok (.getfield 305, 3) := by decide +kernel
theorem dX10_readLine_21 : decode (m_code mX10_readLine) 21 = .ok (.bipush 8, 2) := by decide +kernel
theorem dX10_readLine_23 : decode (m_code mX10_readLine) 23 = .ok (.if_icmp .ne 9, 3) := by decide +kernel
theorem dX10_readLine_26 : decode (m_code mX10_readLine) 26 = .ok (.aload_n 0, 1) := by decide +kernel
theorem dX10_readLine_27 : decode (m_code mX10_readLine) 27 = .ok (.iconst 1, 1) := by decide +kernel
theorem dX10_readLine_28 : decode (m_code mX10_readLine) 28 = .ok (.invokevirtual 323, 3) := by decide +kernel
theorem dX10_readLine_31 : decode (m_code mX10_readLine) 31 = .ok (.ireturn, 1) := by decide +kernel
theorem dX10_readLine_32 : decode (m_code mX10_readLine) 32 = .ok (.iload_n 1, 1) := by decide +kernel
theorem dX10_readLine_33 : decode (m_code mX10_readLine) 33 = .ok (.bipush 24, 2) := by decide +kernel
theorem dX10_readLine_35 : decode (m_code mX10_readLine) 35 = .ok (.if_icmp .ne 9, 3) := by decide +kernel
theorem dX10_readLine_38 : decode (m_code mX10_readLine) 38 = .ok (.aload_n 0, 1) := by decide +kernel
theorem dX10_readLine_39 : decode (m_code mX10_readLine) 39 = .ok (.iconst 3, 1) := by decide +kernel
theorem dX10_readLine_40 : decode (m_code mX10_readLine) 40 = .ok (.invokevirtual 323, 3) := by decide +kernel
theorem dX10_readLine_43 : decode (m_code mX10_readLine) 43 = .ok (.ireturn, 1) := by decide +kernel
theorem dX10_readLine_44 : decode (m_code mX10_readLine) 44 = .ok (.bipush 120, 2) := by decide +kernel
theorem dX10_readLine_46 : decode (m_code mX10_readLine) 46 = .ok (.iconst 5, 1) := by decide +kernel
theorem dX10_readLine_47 : decode (m_code mX10_readLine) 47 = .ok (.iload_n 1, 1) := by decide +kernel
theorem dX10_readLine_48 : decode (m_code mX10_readLine) 48 = .ok (.imul, 1) := by decide +kernel
theorem dX10_readLine_49 : decode (m_code mX10_readLine) 49 = .ok (.iadd, 1) := by decide +kernel
theorem dX10_readLine_50 : decode (m_code mX10_readLine) 50 = .ok (.istore_n 2, 1) := by decide +kernel
theorem dX10_readLine_51 : decode (m_code mX10_readLine) 51 = .ok (.aload_n 0, 1) := by decide +kernel
theorem dX10_readLine_52 : decode (m_code mX10_readLine) 52 = .ok (.getfield 305, 3) := by decide +kernel
theorem dX10_readLine_55 : decode (m_code mX10_readLine) 55 = .ok (.istore_n 3, 1) := by decide +kernel
theorem dX10_readLine_56 : decode (m_code mX10_readLine) 56 = .ok (.aload_n 0, 1) := by decide +kernel
theorem dX10_readLine_57 : decode (m_code mX10_readLine) 57 = .ok (.getfield 38, 3) := by decide +kernel
theorem dX10_readLine_60 : decode (m_code mX10_readLine) 60 = .ok (.iload_n 2, 1) := by decide +kernel
theorem dX10_readLine_61 : decode (m_code mX10_readLine) 61 = .ok (.iload_n 3, 1) := by decide +kernel
theorem dX10_readLine_62 : decode (m_code mX10_readLine) 62 = .ok (.iastore, 1) := by decide +kernel
theorem dX10_readLine_63 : decode (m_code mX10_readLine) 63 = .ok (.aload_n 0, 1) := by decide +kernel
theorem dX10_readLine_64 : decode (m_code mX10_readLine) 64 = .ok (.invokevirtual 326, 3) := by decide +kernel
theorem dX10_readLine_67 : decode (m_code mX10_readLine) 67 = .ok (.aload_n 0, 1) := by decide +kernel
theorem dX10_readLine_68 : decode (m_code mX10_readLine) 68 = .ok (.iload_n 2, 1) := by decide +kernel
theorem dX10_readLine_69 : decode (m_code mX10_readLine) 69 = .ok (.iload_n 3, 1) := by decide +kernel
theorem dX10_readLine_70 : decode (m_code mX10_readLine) 70 = .ok (.invokevirtual 335, 3) := by decide +kernel
theorem dX10_readLine_73 : decode (m_code mX10_readLine) 73 = .ok (.iconst (-1), 1) := by decide +kernel
theorem dX10_readLine_74 : decode (m_code mX10_readLine) 74 = .ok (.if_icmp .ne 5, 3) := by decide +kernel
theorem dX10_readLine_77 : decode (m_code mX10_readLine) 77 = .ok (.iconst (-1), 1) := by decide +kernel
theorem dX10_readLine_78 : decode (m_code mX10_readLine) 78 = .ok (.ireturn, 1) := by decide +kernel
theorem dX10_readLine_79 : decode (m_code mX10_readLine) 79 = .ok (.aload_n 0, 1) := by decide +kernel
theorem dX10_readLine_80 : decode (m_code mX10_readLine) 80 = .ok (.getfield 302, 3) := by decide +kernel
theorem dX10_readLine_83 : decode (m_code mX10_readLine) 83 = .ok (.iconst 4, 1) := by decide +kernel
theorem dX10_readLine_84 : decode (m_code mX10_readLine) 84 = .ok (.if_icmp .eq 9, 3) := by decide +kernel
theorem dX10_readLine_87 : decode (m_code mX10_readLine) 87 = .ok (.aload_n 0, 1) := by decide +kernel
theorem dX10_readLine_88 : decode (m_code mX10_readLine) 88 = .ok (.iconst 1, 1) := by decide +kernel
theorem dX10_readLine_89 : decode (m_code mX10_readLine) 89 = .ok (.invokevirtual 323, 3) := by decide +kernel
theorem dX10_readLine_92 : decode (m_code mX10_readLine) 92 = .ok (.ireturn, 1) := by decide +kernel
theorem dX10_readLine_93 : decode (m_code mX10_readLine) 93 = .ok (.aload_n 0, 1) := by decide +kernel
theorem dX10_readLine_94 : decode (m_code mX10_readLine) 94 = .ok (.invokevirtual 326, 3) := by decide +kernel
theorem dX10_readLine_97 : decode (m_code mX10_readLine) 97 = .ok (.iconst 0, 1) := by decide +kernel
theorem dX10_readLine_98 : decode (m_code mX10_readLine) 98 = .ok (.ireturn, 1) := by decide +kernel
theorem dX10_readPlan_0 : decode (m_code mX10_readPlan) 0 = .ok (.iconst 0, 1) := by decide +kernel
theorem dX10_readPlan_1 : decode (m_code mX10_readPlan) 1 = .ok (.istore_n 1, 1) := by decide +kernel
theorem dX10_readPlan_2 : decode (m_code mX10_readPlan) 2 = .ok (.aload_n 0, 1) := by decide +kernel
theorem dX10_readPlan_3 : decode (m_code mX10_readPlan) 3 = .ok (.iconst 0, 1) := by decide +kernel
theorem dX10_readPlan_4 : decode (m_code mX10_readPlan) 4 = .ok (.putfield 293, 3) := by decide +kernel
theorem dX10_readPlan_7 : decode (m_code mX10_readPlan) 7 = .ok (.aload_n 0, 1) := by decide +kernel
theorem dX10_readPlan_8 : decode (m_code mX10_readPlan) 8 = .ok (.invokevirtual 326, 3) := by decide +kernel
theorem dX10_readPlan_11 : decode (m_code mX10_readPlan) 11 = .ok (.aload_n 0, 1) := by decide +kernel
theorem dX10_readPlan_12 : decode (m_code mX10_readPlan) 12 = .ok (.getfield 302, 3) := by decide +kernel
theorem dX10_readPlan_15 : decode (m_code mX10_readPlan) 15 = .ok (.ifCond .eq 21, 3) := by decide +kernel
theorem dX10_readPlan_18 : decode (m_code mX10_readPlan) 18 = .ok (.aload_n 0, 1) := by decide +kernel
theorem dX10_readPlan_19 : decode (m_code mX10_readPlan) 19 = .ok (.iload_n 1, 1) := by decide +kernel
theorem dX10_readPlan_20 : decode (m_code mX10_readPlan) 20 = .ok (.invokevirtual 338, 3) := by decide +kernel
theorem dX10_readPlan_23 : decode (m_code mX10_readPlan) 23 = .ok (.iconst (-1), 1) := by decide +kernel
theorem dX10_readPlan_24 : decode (m_code mX10_readPlan) 24 = .ok (.if_icmp .ne 5, 3) := by decide +kernel
theorem dX10_readPlan_27 : decode (m_code mX10_readPlan) 27 = .ok (.iconst (-1), 1) := by decide +kernel
theorem dX10_readPlan_28 : decode (m_code mX10_readPlan) 28 = .ok (.ireturn, 1) := by decide +kernel
theorem dX10_readPlan_29 : decode (m_code mX10_readPlan) 29 = .ok (.iload_n 1, 1) := by decide +kernel
theorem dX10_readPlan_30 : decode (m_code mX10_readPlan) 30 = .ok (.iconst 1, 1) := by decide +kernel
theorem dX10_readPlan_31 : decode (m_code mX10_readPlan) 31 = .ok (.iadd, 1) := by decide +kernel
theorem dX10_readPlan_32 : decode (m_code mX10_readPlan) 32 = .ok (.istore_n 1, 1) := by decide +kernel
theorem dX10_readPlan_33 : decode (m_code mX10_readPlan) 33 = .ok (.goto (-22), 3) := by decide +kernel
theorem dX10_readPlan_36 : decode (m_code mX10_readPlan) 36 = .ok (.iload_n 1, 1) := by decide +kernel
theorem dX10_readPlan_37 : decode (m_code mX10_readPlan) 37 = .ok (.ireturn, 1) := by decide +kernel
theorem dX10_plan_0 : decode (m_code mX10_plan) 0 = .ok (.aload_n 0, 1) := by decide +kernel
theorem dX10_plan_1 : decode (m_code mX10_plan) 1 = .ok (.iconst 0, 1) := by decide +kernel
theorem dX10_plan_2 : decode (m_code mX10_plan) 2 = .ok (.putfield 44, 3) := by decide +kernel
theorem dX10_plan_5 : decode (m_code mX10_plan) 5 = .ok (.aload_n 0, 1) := by decide +kernel
theorem dX10_plan_6 : decode (m_code mX10_plan) 6 = .ok (.iconst 0, 1) := by decide +kernel
theorem dX10_plan_7 : decode (m_code mX10_plan) 7 = .ok (.putfield 341, 3) := by decide +kernel
theorem dX10_plan_10 : decode (m_code mX10_plan) 10 = .ok (.aload_n 0, 1) := by decide +kernel
theorem dX10_plan_11 : decode (m_code mX10_plan) 11 = .ok (.iconst (-1), 1) := by decide +kernel
theorem dX10_plan_12 : decode (m_code mX10_plan) 12 = .ok (.putfield 34, 3) := by decide +kernel
theorem dX10_plan_15 : decode (m_code mX10_plan) 15 = .ok (.aload_n 0, 1) := by decide +kernel
theorem dX10_plan_16 : decode (m_code mX10_plan) 16 = .ok (.invokevirtual 344, 3) := by decide +kernel
theorem dX10_plan_19 : decode (m_code mX10_plan) 19 = .ok (.istore_n 1, 1) := by decide +kernel
theorem dX10_plan_20 : decode (m_code mX10_plan) 20 = .ok (.iload_n 1, 1) := by decide +kernel
theorem dX10_plan_21 : decode (m_code mX10_plan) 21 = .ok (.iconst (-1), 1) := by decide +kernel
theorem dX10_plan_22 : decode (m_code mX10_plan) 22 = .ok (.if_icmp .ne 19, 3) := by decide +kernel
theorem dX10_plan_25 : decode (m_code mX10_plan) 25 = .ok (.aload_n 0, 1) := by decide +kernel
theorem dX10_plan_26 : decode (m_code mX10_plan) 26 = .ok (.aload_n 0, 1) := by decide +kernel
theorem dX10_plan_27 : decode (m_code mX10_plan) 27 = .ok (.getfield 317, 3) := by decide +kernel
theorem dX10_plan_30 : decode (m_code mX10_plan) 30 = .ok (.putfield 341, 3) := by decide +kernel
theorem dX10_plan_33 : decode (m_code mX10_plan) 33 = .ok (.aload_n 0, 1) := by decide +kernel
theorem dX10_plan_34 : decode (m_code mX10_plan) 34 = .ok (.aload_n 0, 1) := by decide +kernel
theorem dX10_plan_35 : decode (m_code mX10_plan) 35 = .ok (.getfield 320, 3) := by decide +kernel
theorem dX10_plan_38 : decode (m_code mX10_plan) 38 = .ok (.putfield 34, 3) := by decide +kernel
theorem dX10_plan_41 : decode (m_code mX10_plan) 41 = .ok (.aload_n 0, 1) := by decide +kernel
theorem dX10_plan_42 : decode (m_code mX10_plan) 42 = .ok (.iconst 0, 1) := by decide +kernel
theorem dX10_plan_43 : decode (m_code mX10_plan) 43 = .ok (.putfield 287, 3) := by decide +kernel
theorem dX10_plan_46 : decode (m_code mX10_plan) 46 = .ok (.iload_n 1, 1) := by decide +kernel
theorem dX10_plan_47 : decode (m_code mX10_plan) 47 = .ok (.iconst (-1), 1) := by decide +kernel
theorem dX10_plan_48 : decode (m_code mX10_plan) 48 = .ok (.if_icmp .ne 5, 3) := by decide +kernel
theorem dX10_plan_51 : decode (m_code mX10_plan) 51 = .ok (.iconst (-1), 1) := by decide +kernel
theorem dX10_plan_52 : decode (m_code mX10_plan) 52 = .ok (.ireturn, 1) := by decide +kernel
theorem dX10_plan_53 : decode (m_code mX10_plan) 53 = .ok (.iconst 0, 1) := by decide +kernel
theorem dX10_plan_54 : decode (m_code mX10_plan) 54 = .ok (.istore_n 2, 1) := by decide +kernel
theorem dX10_plan_55 : decode (m_code mX10_plan) 55 = .ok (.iload_n 2, 1) := by decide +kernel
theorem dX10_plan_56 : decode (m_code mX10_plan) 56 = .ok (.iconst 5, 1) := by decide +kernel
theorem dX10_plan_57 : decode (m_code mX10_plan) 57 = .ok (.iload_n 1, 1) := by decide +kernel
theorem dX10_plan_58 : decode (m_code mX10_plan) 58 = .ok (.imul, 1) := by decide +kernel
theorem dX10_plan_59 : decode (m_code mX10_plan) 59 = .ok (.if_icmp .ge 24, 3) := by decide +kernel
theorem dX10_plan_62 : decode (m_code mX10_plan) 62 = .ok (.aload_n 0, 1) := by decide +kernel
theorem dX10_plan_63 : decode (m_code mX10_plan) 63 = .ok (.getfield 38, 3) := by decide +kernel
theorem dX10_plan_66 : decode (m_code mX10_plan) 66 = .ok (.iload_n 2, 1) := by decide +kernel
theorem dX10_plan_67 : decode (m_code mX10_plan) 67 = .ok (.aload_n 0, 1) := by decide +kernel
theorem dX10_plan_68 : decode (m_code mX10_plan) 68 = .ok (.getfield 38, 3) := by decide +kernel
theorem dX10_plan_71 : decode (m_code mX10_plan) 71 = .ok (.bipush 120, 2) := by decide +kernel
theorem dX10_plan_73 : decode (m_code mX10_plan) 73 = .ok (.iload_n 2, 1) := by decide +kernel
theorem dX10_plan_74 : decode (m_code mX10_plan) 74 = .ok (.iadd, 1) := by decide +kernel
theorem dX10_plan_75 : decode (m_code mX10_plan) 75 = .ok (.iaload, 1) := by decide +kernel
theorem dX10_plan_76 : decode (m_code mX10_plan) 76 = .ok (.iastore, 1) := by decide +kernel
theorem dX10_plan_77 : decode (m_code mX10_plan) 77 = .ok (.iinc 2 1, 3) := by decide +kernel
theorem dX10_plan_80 : decode (m_code mX10_plan) 80 = .ok (.goto (-25), 3) := by decide +kernel
theorem dX10_plan_83 : decode (m_code mX10_plan) 83 = .ok (.aload_n 0, 1) := by decide +kernel
theorem dX10_plan_84 : decode (m_code mX10_plan) 84 = .ok (.iload_n 1, 1) := by decide +kernel
theorem dX10_plan_85 : decode (m_code mX10_plan) 85 = .ok (.putfield 272, 3) := by decide +kernel
theorem dX10_plan_88 : decode (m_code mX10_plan) 88 = .ok (.aload_n 0, 1) := by decide +kernel
theorem dX10_plan_89 : decode (m_code mX10_plan) 89 = .ok (.getfield 7, 3) := by decide +kernel
theorem dX10_plan_92 : decode (m_code mX10_plan) 92 = .ok (.bipush 9, 2) := by decide +kernel
theorem dX10_plan_94 : decode (m_code mX10_plan) 94 = .ok (.iconst 0, 1) := by decide +kernel
theorem dX10_plan_95 : decode (m_code mX10_plan) 95 = .ok (.iastore, 1) := by decide +kernel
theorem dX10_plan_96 : decode (m_code mX10_plan) 96 = .ok (.iload_n 1, 1) := by decide +kernel
theorem dX10_plan_97 : decode (m_code mX10_plan) 97 = .ok (.ireturn, 1) := by decide +kernel
theorem dX10_fault_0 : decode (m_code mX10_fault) 0 = .ok (.aload_n 0, 1) := by decide +kernel
theorem dX10_fault_1 : decode (m_code mX10_fault) 1 = .ok (.iconst 0, 1) := by decide +kernel
theorem dX10_fault_2 : decode (m_code mX10_fault) 2 = .ok (.putfield 44, 3) := by decide +kernel
theorem dX10_fault_5 : decode (m_code mX10_fault) 5 = .ok (.iload_n 1, 1) := by decide +kernel
theorem dX10_fault_6 : decode (m_code mX10_fault) 6 = .ok (.ifCond .ne 10, 3) := by decide +kernel
theorem dX10_fault_9 : decode (m_code mX10_fault) 9 = .ok (.aload_n 0, 1) := by decide +kernel
theorem dX10_fault_10 : decode (m_code mX10_fault) 10 = .ok (.getfield 341, 3) := by decide +kernel
theorem dX10_fault_13 : decode (m_code mX10_fault) 13 = .ok (.goto 16, 3) := by decide +kernel
theorem dX10_fault_16 : decode (m_code mX10_fault) 16 = .ok (.iload_n 1, 1) := by decide +kernel
theorem dX10_fault_17 : decode (m_code mX10_fault) 17 = .ok (.iconst 1, 1) := by decide +kernel
theorem dX10_fault_18 : decode (m_code mX10_fault) 18 = .ok (.if_icmp .ne 10, 3) := by decide +kernel
theorem dX10_fault_21 : decode (m_code mX10_fault) 21 = .ok (.aload_n 0, 1) := by decide +kernel
theorem dX10_fault_22 : decode (m_code mX10_fault) 22 = .ok (.getfield 34, 3) := by decide +kernel
theorem dX10_fault_25 : decode (m_code mX10_fault) 25 = .ok (.goto 4, 3) := by decide +kernel
theorem dX10_fault_28 : decode (m_code mX10_fault) 28 = .ok (.iconst (-1), 1) := by decide +kernel
theorem dX10_fault_29 : decode (m_code mX10_fault) 29 = .ok (.ireturn, 1) := by decide +kernel
theorem dX10_handles_0 : decode (m_code mX10_handles) 0 = .ok (.aload_n 0, 1) := by decide +kernel
theorem dX10_handles_1 : decode (m_code mX10_handles) 1 = .ok (.getfield 7, 3) := by decide +kernel
theorem dX10_handles_4 : decode (m_code mX10_handles) 4 = .ok (.iconst 4, 1) := by decide +kernel
theorem dX10_handles_5 : decode (m_code mX10_handles) 5 = .ok (.iaload, 1) := by decide +kernel
theorem dX10_handles_6 : decode (m_code mX10_handles) 6 = .ok (.ifCond .le 7, 3) := by decide +kernel
theorem dX10_handles_9 : decode (m_code mX10_handles) 9 = .ok (.iconst 1, 1) := by decide +kernel
theorem dX10_handles_10 : decode (m_code mX10_handles) 10 = .ok (.goto 4, 3) := by decide +kernel
theorem dX10_handles_13 : decode (m_code mX10_handles) 13 = .ok (.iconst 0, 1) := by decide +kernel
theorem dX10_handles_14 : decode (m_code mX10_handles) 14 = .ok (.istore_n 3, 1) := by decide +kernel
theorem dX10_handles_15 : decode (m_code mX10_handles) 15 = .ok (.iconst 0, 1) := by decide +kernel
theorem dX10_handles_16 : decode (m_code mX10_handles) 16 = .ok (.istore 4, 2) := by decide +kernel
theorem dX10_handles_18 : decode (m_code mX10_handles) 18 = .ok (.iload 4, 2) := by decide +kernel
theorem dX10_handles_20 : decode (m_code mX10_handles) 20 = .ok (.iload_n 1, 1) := by decide +kernel
theorem dX10_handles_21 : decode (m_code mX10_handles) 21 = .ok (.if_icmp .ge 31, 3) := by decide +kernel
theorem dX10_handles_24 : decode (m_code mX10_handles) 24 = .ok (.aload_n 0, 1) := by decide +kernel
theorem dX10_handles_25 : decode (m_code mX10_handles) 25 = .ok (.getfield 7, 3) := by decide +kernel
theorem dX10_handles_28 : decode (m_code mX10_handles) 28 = .ok (.iconst 4, 1) := by decide +kernel
theorem dX10_handles_29 : decode (m_code mX10_handles) 29 = .ok (.iaload, 1) := by decide +kernel
theorem dX10_handles_30 : decode (m_code mX10_handles) 30 = .ok (.ifCond .le 22, 3) := by decide +kernel
theorem dX10_handles_33 : decode (m_code mX10_handles) 33 = .ok (.aload_n 0, 1) := by decide +kernel
theorem dX10_handles_34 : decode (m_code mX10_handles) 34 = .ok (.iconst 0, 1) := by decide +kernel
theorem dX10_handles_35 : decode (m_code mX10_handles) 35 = .ok (.invokevirtual 156, 3) := by decide +kernel
theorem dX10_handles_38 : decode (m_code mX10_handles) 38 = .ok (.iload_n 2, 1) := by decide +kernel
theorem dX10_handles_39 : decode (m_code mX10_handles) 39 = .ok (.ifCond .ne 7, 3) := by decide +kernel
theorem dX10_handles_42 : decode (m_code mX10_handles) 42 = .ok (.aload_n 0, 1) := by decide +kernel
theorem dX10_handles_43 : decode (m_code mX10_handles) 43 = .ok (.invokevirtual 160, 3) := by decide +kernel
theorem dX10_handles_46 : decode (m_code mX10_handles) 46 = .ok (.iinc 4 1, 3) := by decide +kernel
theorem dX10_handles_49 : decode (m_code mX10_handles) 49 = .ok (.goto (-31), 3) := by decide +kernel
theorem dX10_handles_52 : decode (m_code mX10_handles) 52 = .ok (.iload_n 3, 1) := by decide +kernel
theorem dX10_handles_53 : decode (m_code mX10_handles) 53 = .ok (.ireturn, 1) := by decide +kernel
theorem dX10_runsLine_0 : decode (m_code mX10_runsLine) 0 = .ok (.aload_n 0, 1) := by decide +kernel
theorem dX10_runsLine_1 : decode (m_code mX10_runsLine) 1 = .ok (.getfield 38, 3) := by decide +kernel
theorem dX10_runsLine_4 : decode (m_code mX10_runsLine) 4 = .ok (.iload_n 1, 1) := by decide +kernel
theorem dX10_runsLine_5 : decode (m_code mX10_runsLine) 5 = .ok (.iaload, 1) := by decide +kernel
theorem dX10_runsLine_6 : decode (m_code mX10_runsLine) 6 = .ok (.istore_n 2, 1) := by decide +kernel
theorem dX10_runsLine_7 : decode (m_code mX10_runsLine) 7 = .ok (.aload_n 0, 1) := by decide +kernel
theorem dX10_runsLine_8 : decode (m_code mX10_runsLine) 8 = .ok (.getfield 38, 3) := by decide +kernel
theorem dX10_runsLine_11 : decode (m_code mX10_runsLine) 11 = .ok (.iload_n 1, 1) := by decide +kernel
theorem dX10_runsLine_12 : decode (m_code mX10_runsLine) 12 = .ok (.iconst 2, 1) := by decide +kernel
theorem dX10_runsLine_13 : decode (m_code mX10_runsLine) 13 = .ok (.iadd, 1) := by decide +kernel
theorem dX10_runsLine_14 : decode (m_code mX10_runsLine) 14 = .ok (.iaload, 1) := by decide +kernel
theorem dX10_runsLine_15 : decode (m_code mX10_runsLine) 15 = .ok (.istore_n 3, 1) := by decide +kernel
theorem dX10_runsLine_16 : decode (m_code mX10_runsLine) 16 = .ok (.iload_n 2, 1) := by decide +kernel
theorem dX10_runsLine_17 : decode (m_code mX10_runsLine) 17 = .ok (.ifCond .ne 26, 3) := by decide +kernel
theorem dX10_runsLine_20 : decode (m_code mX10_runsLine) 20 = .ok (.aload_n 0, 1) := by decide +kernel
theorem dX10_runsLine_21 : decode (m_code mX10_runsLine) 21 = .ok (.iload_n 3, 1) := by decide +kernel
theorem dX10_runsLine_22 : decode (m_code mX10_runsLine) 22 = .ok (.aload_n 0, 1) := by decide +kernel
theorem dX10_runsLine_23 : decode (m_code mX10_runsLine) 23 = .ok (.getfield 38, 3) := by decide +kernel
theorem dX10_runsLine_26 : decode (m_code mX10_runsLine) 26 = .ok (.iload_n 1, 1) := by decide +kernel
theorem dX10_runsLine_27 : decode (m_code mX10_runsLine) 27 = .ok (.iconst 3, 1) := by decide +kernel
theorem dX10_runsLine_28 : decode (m_code mX10_runsLine) 28 = .ok (.iadd, 1) := by decide +kernel
theorem dX10_runsLine_29 : decode (m_code mX10_runsLine) 29 = .ok (.iaload, 1) := by decide +kernel
theorem dX10_runsLine_30 : decode (m_code mX10_runsLine) 30 = .ok (.invokevirtual 347, 3) := by decide +kernel
theorem dX10_runsLine_33 : decode (m_code mX10_runsLine) 33 = .ok (.iconst (-1), 1) := by decide +kernel
theorem dX10_runsLine_34 : decode (m_code mX10_runsLine) 34 = .ok (.if_icmp .eq 7, 3) := by decide +kernel
theorem dX10_runsLine_37 : decode (m_code mX10_runsLine) 37 = .ok (.iconst 1, 1) := by decide +kernel
theorem dX10_runsLine_38 : decode (m_code mX10_runsLine) 38 = .ok (.goto 4, 3) := by decide +kernel
theorem dX10_runsLine_41 : decode (m_code mX10_runsLine) 41 = .ok (.iconst 0, 1) := by decide +kernel
theorem dX10_runsLine_42 : decode (m_code mX10_runsLine) 42 = .ok (.ireturn, 1) := by decide +kernel
theorem dX10_runsLine_43 : decode (m_code mX10_runsLine) 43 = .ok (.iload_n 2, 1) := by decide +kernel
theorem dX10_runsLine_44 : decode (m_code mX10_runsLine) 44 = .ok (.iconst 1, 1) := by decide +kernel
theorem dX10_runsLine_45 : decode (m_code mX10_runsLine) 45 = .ok (.if_icmp .eq 8, 3) := by decide +kernel
theorem dX10_runsLine_48 : decode (m_code mX10_runsLine) 48 = .ok (.iload_n 2, 1) := by decide +kernel
theorem dX10_runsLine_49 : decode (m_code mX10_runsLine) 49 = .ok (.iconst 2, 1) := by decide +kernel
theorem dX10_runsLine_50 : decode (m_code mX10_runsLine) 50 = .ok (.if_icmp .ne 19, 3) := by decide +kernel
theorem dX10_runsLine_53 : decode (m_code mX10_runsLine) 53 = .ok (.aload_n 0, 1) := by decide +kernel
theorem dX10_runsLine_54 : decode (m_code mX10_runsLine) 54 = .ok (.iload_n 3, 1) := by decide +kernel
theorem dX10_runsLine_55 : decode (m_code mX10_runsLine) 55 = .ok (.iload_n 2, 1) := by decide +kernel
theorem dX10_runsLine_56 : decode (m_code mX10_runsLine) 56 = .ok (.iconst 2, 1) := by decide +kernel
theorem dX10_runsLine_57 : decode (m_code mX10_runsLine) 57 = .ok (.if_icmp .ne 7, 3) := by decide +kernel
theorem dX10_runsLine_60 : decode (m_code mX10_runsLine) 60 = .ok (.iconst 1, 1) := by decide +kernel
theorem dX10_runsLine_61 : decode (m_code mX10_runsLine) 61 = .ok (.goto 4, 3) := by decide +kernel
theorem dX10_runsLine_64 : decode (m_code mX10_runsLine) 64 = .ok (.iconst 0, 1) := by decide +kernel
theorem dX10_runsLine_65 : decode (m_code mX10_runsLine) 65 = .ok (.invokevirtual 350, 3) := by decide +kernel
theorem dX10_runsLine_68 : decode (m_code mX10_runsLine) 68 = .ok (.ireturn, 1) := by decide +kernel
theorem dX10_runsLine_69 : decode (m_code mX10_runsLine) 69 = .ok (.iload_n 2, 1) := by decide +kernel
theorem dX10_runsLine_70 : decode (m_code mX10_runsLine) 70 = .ok (.iconst 3, 1) := by decide +kernel
theorem dX10_runsLine_71 : decode (m_code mX10_runsLine) 71 = .ok (.if_icmp .ne 18, 3) := by decide +kernel
theorem dX10_runsLine_74 : decode (m_code mX10_runsLine) 74 = .ok (.aload_n 0, 1) := by decide +kernel
theorem dX10_runsLine_75 : decode (m_code mX10_runsLine) 75 = .ok (.iload_n 3, 1) := by decide +kernel
theorem dX10_runsLine_76 : decode (m_code mX10_runsLine) 76 = .ok (.invokevirtual 354, 3) := by decide +kernel
theorem dX10_runsLine_79 : decode (m_code mX10_runsLine) 79 = .ok (.iconst (-1), 1) := by decide +kernel
theorem dX10_runsLine_80 : decode (m_code mX10_runsLine) 80 = .ok (.if_icmp .eq 7, 3) := by decide +kernel
theorem dX10_runsLine_83 : decode (m_code mX10_runsLine) 83 = .ok (.iconst 1, 1) := by decide +kernel
theorem dX10_runsLine_84 : decode (m_code mX10_runsLine) 84 = .ok (.goto 4, 3) := by decide +kernel
theorem dX10_runsLine_87 : decode (m_code mX10_runsLine) 87 = .ok (.iconst 0, 1) := by decide +kernel
theorem dX10_runsLine_88 : decode (m_code mX10_runsLine) 88 = .ok (.ireturn, 1) := by decide +kernel
theorem dX10_runsLine_89 : decode (m_code mX10_runsLine) 89 = .ok (.iload_n 2, 1) := by decide +kernel
theorem dX10_runsLine_90 : decode (m_code mX10_runsLine) 90 = .ok (.iconst 4, 1) := by decide +kernel
theorem dX10_runsLine_91 : decode (m_code mX10_runsLine) 91 = .ok (.if_icmp .ne 9, 3) := by decide +kernel
theorem dX10_runsLine_94 : decode (m_code mX10_runsLine) 94 = .ok (.aload_n 0, 1) := by decide +kernel
theorem dX10_runsLine_95 : decode (m_code mX10_runsLine) 95 = .ok (.iload_n 3, 1) := by decide +kernel
theorem dX10_runsLine_96 : decode (m_code mX10_runsLine) 96 = .ok (.invokevirtual 357, 3) := by decide +kernel
theorem dX10_runsLine_99 : decode (m_code mX10_runsLine) 99 = .ok (.ireturn, 1) := by decide +kernel
theorem dX10_runsLine_100 : decode (m_code mX10_runsLine) 100 = .ok (.iload_n 2, 1) := by decide +kernel
theorem dX10_runsLine_101 : decode (m_code mX10_runsLine) 101 = .ok (.iconst 5, 1) := by decide +kernel
theorem dX10_runsLine_102 : decode (m_code mX10_runsLine) 102 = .ok (.if_icmp .ne 9, 3) := by decide +kernel
theorem dX10_runsLine_105 : decode (m_code mX10_runsLine) 105 = .ok (.aload_n 0, 1) := by decide +kernel
theorem dX10_runsLine_106 : decode (m_code mX10_runsLine) 106 = .ok (.iload_n 3, 1) := by decide +kernel
theorem dX10_runsLine_107 : decode (m_code mX10_runsLine) 107 = .ok (.invokevirtual 360, 3) := by decide +kernel
theorem dX10_runsLine_110 : decode (m_code mX10_runsLine) 110 = .ok (.ireturn, 1) := by decide +kernel
theorem dX10_runsLine_111 : decode (m_code mX10_runsLine) 111 = .ok (.iload_n 2, 1) := by decide +kernel
theorem dX10_runsLine_112 : decode (m_code mX10_runsLine) 112 = .ok (.bipush 6, 2) := by decide +kernel
theorem dX10_runsLine_114 : decode (m_code mX10_runsLine) 114 = .ok (.if_icmp .ne 43, 3) := by decide +kernel
theorem dX10_runsLine_117 : decode (m_code mX10_runsLine) 117 = .ok (.aload_n 0, 1) := by decide +kernel
theorem dX10_runsLine_118 : decode (m_code mX10_runsLine) 118 = .ok (.iload_n 3, 1) := by decide +kernel
theorem dX10_runsLine_119 : decode (m_code mX10_runsLine) 119 = .ok (.aload_n 0, 1) := by decide +kernel
theorem dX10_runsLine_120 : decode (m_code mX10_runsLine) 120 = .ok (.getfield 38, 3) := by decide +kernel
theorem dX10_runsLine_123 : decode (m_code mX10_runsLine) 123 = .ok (.iload_n 1, 1) := by decide +kernel
theorem dX10_runsLine_124 : decode (m_code mX10_runsLine) 124 = .ok (.iconst 1, 1) := by decide +kernel
theorem dX10_runsLine_125 : decode (m_code mX10_runsLine) 125 = .ok (.iadd, 1) := by decide +kernel
theorem dX10_runsLine_126 : decode (m_code mX10_runsLine) 126 = .ok (.iaload, 1) := by decide +kernel
theorem dX10_runsLine_127 : decode (m_code mX10_runsLine) 127 = .ok (.aload_n 0, 1) := by decide +kernel
theorem dX10_runsLine_128 : decode (m_code mX10_runsLine) 128 = .ok (.getfield 38, 3) := by decide +kernel
theorem dX10_runsLine_131 : decode (m_code mX10_runsLine) 131 = .ok (.iload_n 1, 1) := by decide +kernel
theorem dX10_runsLine_132 : decode (m_code mX10_runsLine) 132 = .ok (.iconst 3, 1) := by decide +kernel
theorem dX10_runsLine_133 : decode (m_code mX10_runsLine) 133 = .ok (.iadd, 1) := by decide +kernel
theorem dX10_runsLine_134 : decode (m_code mX10_runsLine) 134 = .ok (.iaload, 1) := by decide +kernel
theorem dX10_runsLine_135 : decode (m_code mX10_runsLine) 135 = .ok (.aload_n 0, 1) := by decide +kernel
theorem dX10_runsLine_136 : decode (m_code mX10_runsLine) 136 = .ok (.getfield 38, 3) := by decide +kernel
theorem dX10_runsLine_139 : decode (m_code mX10_runsLine) 139 = .ok (.iload_n 1, 1) := by decide +kernel
theorem dX10_runsLine_140 : decode (m_code mX10_runsLine) 140 = .ok (.iconst 4, 1) := by decide +kernel
theorem dX10_runsLine_141 : decode (m_code mX10_runsLine) 141 = .ok (.iadd, 1) := by decide +kernel
theorem dX10_runsLine_142 : decode (m_code mX10_runsLine) 142 = .ok (.iaload, 1) := by decide +kernel
theorem dX10_runsLine_143 : decode (m_code mX10_runsLine) 143 = .ok (.iconst 0, 1) := by decide +kernel
theorem dX10_runsLine_144 : decode (m_code mX10_runsLine) 144 = .ok (.invokevirtual 363, 3) := by decide +kernel
theorem dX10_runsLine_147 : decode (m_code mX10_runsLine) 147 = .ok (.iconst (-1), 1) := by decide +kernel
theorem dX10_runsLine_148 : decode (m_code mX10_runsLine) 148 = .ok (.if_icmp .eq 7, 3) := by decide +kernel
theorem dX10_runsLine_151 : decode (m_code mX10_runsLine) 151 = .ok (.iconst 1, 1) := by decide +kernel
theorem dX10_runsLine_152 : decode (m_code mX10_runsLine) 152 = .ok (.goto 4, 3) := by decide +kernel
theorem dX10_runsLine_155 : decode (m_code mX10_runsLine) 155 = .ok (.iconst 0, 1) := by decide +kernel
theorem dX10_runsLine_156 : decode (m_code mX10_runsLine) 156 = .ok (.ireturn, 1) := by decide +kernel
theorem dX10_runsLine_157 : decode (m_code mX10_runsLine) 157 = .ok (.aload_n 0, 1) := by decide +kernel
theorem dX10_runsLine_158 : decode (m_code mX10_runsLine) 158 = .ok (.iload_n 3, 1) := by decide +kernel
theorem dX10_runsLine_159 : decode (m_code mX10_runsLine) 159 = .ok (.invokevirtual 366, 3) := by decide +kernel
theorem dX10_runsLine_162 : decode (m_code mX10_runsLine) 162 = .ok (.iconst (-1), 1) := by decide +kernel
theorem dX10_runsLine_163 : decode (m_code mX10_runsLine) 163 = .ok (.if_icmp .eq 7, 3) := by decide +kernel
theorem dX10_runsLine_166 : decode (m_code mX10_runsLine) 166 = .ok (.iconst 1, 1) := by decide +kernel
theorem dX10_runsLine_167 : decode (m_code mX10_runsLine) 167 = .ok (.goto 4, 3) := by decide +kernel
theorem dX10_runsLine_170 : decode (m_code mX10_runsLine) 170 = .ok (.iconst 0, 1) := by decide +kernel
theorem dX10_runsLine_171 : decode (m_code mX10_runsLine) 171 = .ok (.ireturn, 1) := by decide +kernel
theorem dX10_run_0 : decode (m_code mX10_run) 0 = .ok (.aload_n 0, 1) := by decide +kernel
theorem dX10_run_1 : decode (m_code mX10_run) 1 = .ok (.iconst 0, 1) := by decide +kernel
theorem dX10_run_2 : decode (m_code mX10_run) 2 = .ok (.putfield 44, 3) := by decide +kernel
theorem dX10_run_5 : decode (m_code mX10_run) 5 = .ok (.aload_n 0, 1) := by decide +kernel
theorem dX10_run_6 : decode (m_code mX10_run) 6 = .ok (.iload_n 1, 1) := by decide +kernel
theorem dX10_run_7 : decode (m_code mX10_run) 7 = .ok (.iconst 1, 1) := by decide +kernel
theorem dX10_run_8 : decode (m_code mX10_run) 8 = .ok (.bipush 24, 2) := by decide +kernel
theorem dX10_run_10 : decode (m_code mX10_run) 10 = .ok (.invokevirtual 61, 3) := by decide +kernel
theorem dX10_run_13 : decode (m_code mX10_run) 13 = .ok (.ifCond .ne 5, 3) := by decide +kernel
theorem dX10_run_16 : decode (m_code mX10_run) 16 = .ok (.iconst (-1), 1) := by decide +kernel
theorem dX10_run_17 : decode (m_code mX10_run) 17 = .ok (.ireturn, 1) := by decide +kernel
theorem dX10_run_18 : decode (m_code mX10_run) 18 = .ok (.iconst 0, 1) := by decide +kernel
theorem dX10_run_19 : decode (m_code mX10_run) 19 = .ok (.istore_n 2, 1) := by decide +kernel
theorem dX10_run_20 : decode (m_code mX10_run) 20 = .ok (.iconst 0, 1) := by decide +kernel
theorem dX10_run_21 : decode (m_code mX10_run) 21 = .ok (.istore_n 3, 1) := by decide +kernel
theorem dX10_run_22 : decode (m_code mX10_run) 22 = .ok (.iload_n 3, 1) := by decide +kernel
theorem dX10_run_23 : decode (m_code mX10_run) 23 = .ok (.iload_n 1, 1) := by decide +kernel
theorem dX10_run_24 : decode (m_code mX10_run) 24 = .ok (.if_icmp .ge 59, 3) := by decide +kernel
theorem dX10_run_27 : decode (m_code mX10_run) 27 = .ok (.aload_n 0, 1) := by decide +kernel
theorem dX10_run_28 : decode (m_code mX10_run) 28 = .ok (.getfield 7, 3) := by decide +kernel
theorem dX10_run_31 : decode (m_code mX10_run) 31 = .ok (.bipush 9, 2) := by decide +kernel
theorem dX10_run_33 : decode (m_code mX10_run) 33 = .ok (.iaload, 1) := by decide +kernel
theorem dX10_run_34 : decode (m_code mX10_run) 34 = .ok (.aload_n 0, 1) := by decide +kernel
theorem dX10_run_35 : decode (m_code mX10_run) 35 = .ok (.getfield 272, 3) := by decide +kernel
theorem dX10_run_38 : decode (m_code mX10_run) 38 = .ok (.if_icmp .ge 45, 3) := by decide +kernel
theorem dX10_run_41 : decode (m_code mX10_run) 41 = .ok (.aload_n 0, 1) := by decide +kernel
theorem dX10_run_42 : decode (m_code mX10_run) 42 = .ok (.iconst 5, 1) := by decide +kernel
theorem dX10_run_43 : decode (m_code mX10_run) 43 = .ok (.aload_n 0, 1) := by decide +kernel
theorem dX10_run_44 : decode (m_code mX10_run) 44 = .ok (.getfield 7, 3) := by decide +kernel
theorem dX10_run_47 : decode (m_code mX10_run) 47 = .ok (.bipush 9, 2) := by decide +kernel
theorem dX10_run_49 : decode (m_code mX10_run) 49 = .ok (.iaload, 1) := by decide +kernel
theorem dX10_run_50 : decode (m_code mX10_run) 50 = .ok (.imul, 1) := by decide +kernel
theorem dX10_run_51 : decode (m_code mX10_run) 51 = .ok (.invokevirtual 369, 3) := by decide +kernel
theorem dX10_run_54 : decode (m_code mX10_run) 54 = .ok (.ifCond .eq 7, 3) := by decide +kernel
theorem dX10_run_57 : decode (m_code mX10_run) 57 = .ok (.iload_n 2, 1) := by decide +kernel
theorem dX10_run_58 : decode (m_code mX10_run) 58 = .ok (.iconst 1, 1) := by decide +kernel
theorem dX10_run_59 : decode (m_code mX10_run) 59 = .ok (.iadd, 1) := by decide +kernel
theorem dX10_run_60 : decode (m_code mX10_run) 60 = .ok (.istore_n 2, 1) := by decide +kernel
theorem dX10_run_61 : decode (m_code mX10_run) 61 = .ok (.aload_n 0, 1) := by decide +kernel
theorem dX10_run_62 : decode (m_code mX10_run) 62 = .ok (.getfield 7, 3) := by decide +kernel
theorem dX10_run_65 : decode (m_code mX10_run) 65 = .ok (.bipush 9, 2) := by decide +kernel
theorem dX10_run_67 : decode (m_code mX10_run) 67 = .ok (.aload_n 0, 1) := by decide +kernel
theorem dX10_run_68 : decode (m_code mX10_run) 68 = .ok (.getfield 7, 3) := by decide +kernel
theorem dX10_run_71 : decode (m_code mX10_run) 71 = .ok (.bipush 9, 2) := by decide +kernel
theorem dX10_run_73 : decode (m_code mX10_run) 73 = .ok (.iaload, 1) := by decide +kernel
theorem dX10_run_74 : decode (m_code mX10_run) 74 = .ok (.iconst 1, 1) := by decide +kernel
theorem dX10_run_75 : decode (m_code mX10_run) 75 = .ok (.iadd, 1) := by decide +kernel
theorem dX10_run_76 : decode (m_code mX10_run) 76 = .ok (.iastore, 1) := by decide +kernel
theorem dX10_run_77 : decode (m_code mX10_run) 77 = .ok (.iinc 3 1, 3) := by decide +kernel
theorem dX10_run_80 : decode (m_code mX10_run) 80 = .ok (.goto (-58), 3) := by decide +kernel
theorem dX10_run_83 : decode (m_code mX10_run) 83 = .ok (.iload_n 2, 1) := by decide +kernel
theorem dX10_run_84 : decode (m_code mX10_run) 84 = .ok (.ireturn, 1) := by decide +kernel
theorem dX10_image_0 : decode (m_code mX10_image) 0 = .ok (.aload_n 0, 1) := by decide +kernel
theorem dX10_image_1 : decode (m_code mX10_image) 1 = .ok (.iconst 0, 1) := by decide +kernel
theorem dX10_image_2 : decode (m_code mX10_image) 2 = .ok (.putfield 44, 3) := by decide +kernel
theorem dX10_image_5 : decode (m_code mX10_image) 5 = .ok (.iload_n 1, 1) := by decide +kernel
theorem dX10_image_6 : decode (m_code mX10_image) 6 = .ok (.ifCond .ne 12, 3) := by decide +kernel
theorem dX10_image_9 : decode (m_code mX10_image) 9 = .ok (.aload_n 0, 1) := by decide +kernel
theorem dX10_image_10 : decode (m_code mX10_image) 10 = .ok (.getfield 372, 3) := by decide +kernel
theorem dX10_image_13 : decode (m_code mX10_image) 13 = .ok (.ifCond .ne 5, 3) := by decide +kernel
theorem dX10_image_16 : decode (m_code mX10_image) 16 = .ok (.iconst 0, 1) := by decide +kernel
theorem dX10_image_17 : decode (m_code mX10_image) 17 = .ok (.ireturn, 1) := by decide +kernel
theorem dX10_image_18 : decode (m_code mX10_image) 18 = .ok (.aload_n 0, 1) := by decide +kernel
theorem dX10_image_19 : decode (m_code mX10_image) 19 = .ok (.iconst 1, 1) := by decide +kernel
theorem dX10_image_20 : decode (m_code mX10_image) 20 = .ok (.putfield 372, 3) := by decide +kernel
theorem dX10_image_23 : decode (m_code mX10_image) 23 = .ok (.iconst 0, 1) := by decide +kernel
theorem dX10_image_24 : decode (m_code mX10_image) 24 = .ok (.istore_n 2, 1) := by decide +kernel
theorem dX10_image_25 : decode (m_code mX10_image) 25 = .ok (.iload_n 2, 1) := by decide +kernel
theorem dX10_image_26 : decode (m_code mX10_image) 26 = .ok (.sipush 6010, 3) := by decide +kernel
theorem dX10_image_29 : decode (m_code mX10_image) 29 = .ok (.if_icmp .ge 40, 3) := by decide +kernel
theorem dX10_image_32 : decode (m_code mX10_image) 32 = .ok (.iload_n 1, 1) := by decide +kernel
theorem dX10_image_33 : decode (m_code mX10_image) 33 = .ok (.ifCond .eq 18, 3) := by decide +kernel
theorem dX10_image_36 : decode (m_code mX10_image) 36 = .ok (.aload_n 0, 1) := by decide +kernel
theorem dX10_image_37 : decode (m_code mX10_image) 37 = .ok (.getfield 41, 3) := by decide +kernel
theorem dX10_image_40 : decode (m_code mX10_image) 40 = .ok (.iload_n 2, 1) := by decide +kernel
theorem dX10_image_41 : decode (m_code mX10_image) 41 = .ok (.aload_n 0, 1) := by decide +kernel
theorem dX10_image_42 : decode (m_code mX10_image) 42 = .ok (.getfield 7, 3) := by decide +kernel
theorem dX10_image_45 : decode (m_code mX10_image) 45 = .ok (.iload_n 2, 1) := by decide +kernel
theorem dX10_image_46 : decode (m_code mX10_image) 46 = .ok (.iaload, 1) := by decide +kernel
theorem dX10_image_47 : decode (m_code mX10_image) 47 = .ok (.iastore, 1) := by decide +kernel
theorem dX10_image_48 : decode (m_code mX10_image) 48 = .ok (.goto 15, 3) := by decide +kernel
theorem dX10_image_51 : decode (m_code mX10_image) 51 = .ok (.aload_n 0, 1) := by decide +kernel
theorem dX10_image_52 : decode (m_code mX10_image) 52 = .ok (.getfield 7, 3) := by decide +kernel
theorem dX10_image_55 : decode (m_code mX10_image) 55 = .ok (.iload_n 2, 1) := by decide +kernel
theorem dX10_image_56 : decode (m_code mX10_image) 56 = .ok (.aload_n 0, 1) := by decide +kernel
theorem dX10_image_57 : decode (m_code mX10_image) 57 = .ok (.getfield 41, 3) := by decide +kernel
theorem dX10_image_60 : decode (m_code mX10_image) 60 = .ok (.iload_n 2, 1) := by decide +kernel
theorem dX10_image_61 : decode (m_code mX10_image) 61 = .ok (.iaload, 1) := by decide +kernel
theorem dX10_image_62 : decode (m_code mX10_image) 62 = .ok (.iastore, 1) := by decide +kernel
theorem dX10_image_63 : decode (m_code mX10_image) 63 = .ok (.iinc 2 1, 3) := by decide +kernel
theorem dX10_image_66 : decode (m_code mX10_image) 66 = .ok (.goto (-41), 3) := by decide +kernel
theorem dX10_image_69 : decode (m_code mX10_image) 69 = .ok (.iconst 0, 1) := by decide +kernel
theorem dX10_image_70 : decode (m_code mX10_image) 70 = .ok (.istore_n 2, 1) := by decide +kernel
theorem dX10_image_71 : decode (m_code mX10_image) 71 = .ok (.iload_n 2, 1) := by decide +kernel
theorem dX10_image_72 : decode (m_code mX10_image) 72 = .ok (.bipush 120, 2) := by decide +kernel
theorem dX10_image_74 : decode (m_code mX10_image) 74 = .ok (.if_icmp .ge 48, 3) := by decide +kernel
theorem dX10_image_77 : decode (m_code mX10_image) 77 = .ok (.iload_n 1, 1) := by decide +kernel
theorem dX10_image_78 : decode (m_code mX10_image) 78 = .ok (.ifCond .eq 22, 3) := by decide +kernel
theorem dX10_image_81 : decode (m_code mX10_image) 81 = .ok (.aload_n 0, 1) := by decide +kernel
theorem dX10_image_82 : decode (m_code mX10_image) 82 = .ok (.getfield 41, 3) := by decide +kernel
theorem dX10_image_85 : decode (m_code mX10_image) 85 = .ok (.sipush 6010, 3) := by decide +kernel
theorem dX10_image_88 : decode (m_code mX10_image) 88 = .ok (.iload_n 2, 1) := by decide +kernel
theorem dX10_image_89 : decode (m_code mX10_image) 89 = .ok (.iadd, 1) := by decide +kernel
theorem dX10_image_90 : decode (m_code mX10_image) 90 = .ok (.aload_n 0, 1) := by decide +kernel
theorem dX10_image_91 : decode (m_code mX10_image) 91 = .ok (.getfield 38, 3) := by decide +kernel
theorem dX10_image_94 : decode (m_code mX10_image) 94 = .ok (.iload_n 2, 1) := by decide +kernel
theorem dX10_image_95 : decode (m_code mX10_image) 95 = .ok (.iaload, 1) := by decide +kernel
theorem dX10_image_96 : decode (m_code mX10_image) 96 = .ok (.iastore, 1) := by decide +kernel
theorem dX10_image_97 : decode (m_code mX10_image) 97 = .ok (.goto 19, 3) := by decide +kernel
theorem dX10_image_100 : decode (m_code mX10_image) 100 = .ok (.aload_n 0, 1) := by decide +kernel
theorem dX10_image_101 : decode (m_code mX10_image) 101 = .ok (.getfield 38, 3) := by decide +kernel
theorem dX10_image_104 : decode (m_code mX10_image) 104 = .ok (.iload_n 2, 1) := by decide +kernel
theorem dX10_image_105 : decode (m_code mX10_image) 105 = .ok (.aload_n 0, 1) := by decide +kernel
theorem dX10_image_106 : decode (m_code mX10_image) 106 = .ok (.getfield 41, 3) := by decide +kernel
theorem dX10_image_109 : decode (m_code mX10_image) 109 = .ok (.sipush 6010, 3) := by decide +kernel
theorem dX10_image_112 : decode (m_code mX10_image) 112 = .ok (.iload_n 2, 1) := by decide +kernel
theorem dX10_image_113 : decode (m_code mX10_image) 113 = .ok (.iadd, 1) := by decide +kernel
theorem dX10_image_114 : decode (m_code mX10_image) 114 = .ok (.iaload, 1) := by decide +kernel
theorem dX10_image_115 : decode (m_code mX10_image) 115 = .ok (.iastore, 1) := by decide +kernel
theorem dX10_image_116 : decode (m_code mX10_image) 116 = .ok (.iinc 2 1, 3) := by decide +kernel
theorem dX10_image_119 : decode (m_code mX10_image) 119 = .ok (.goto (-48), 3) := by decide +kernel
theorem dX10_image_122 : decode (m_code mX10_image) 122 = .ok (.iload_n 1, 1) := by decide +kernel
theorem dX10_image_123 : decode (m_code mX10_image) 123 = .ok (.ifCond .eq 18, 3) := by decide +kernel
theorem dX10_image_126 : decode (m_code mX10_image) 126 = .ok (.aload_n 0, 1) := by decide +kernel
theorem dX10_image_127 : decode (m_code mX10_image) 127 = .ok (.getfield 41, 3) := by decide +kernel
theorem dX10_image_130 : decode (m_code mX10_image) 130 = .ok (.sipush 6130, 3) := by decide +kernel
theorem dX10_image_133 : decode (m_code mX10_image) 133 = .ok (.aload_n 0, 1) := by decide +kernel
theorem dX10_image_134 : decode (m_code mX10_image) 134 = .ok (.getfield 272, 3) := by decide +kernel
theorem dX10_image_137 : decode (m_code mX10_image) 137 = .ok (.iastore, 1) := by decide +kernel
theorem dX10_image_138 : decode (m_code mX10_image) 138 = .ok (.goto 15, 3) := by decide +kernel
theorem dX10_image_141 : decode (m_code mX10_image) 141 = .ok (.aload_n 0, 1) := by decide +kernel
theorem dX10_image_142 : decode (m_code mX10_image) 142 = .ok (.aload_n 0, 1) := by decide +kernel
theorem dX10_image_143 : decode (m_code mX10_image) 143 = .ok (.getfield 41, 3) := by decide +kernel
theorem dX10_image_146 : decode (m_code mX10_image) 146 = .ok (.sipush 6130, 3) := by decide +kernel
theorem dX10_image_149 : decode (m_code mX10_image) 149 = .ok (.iaload, 1) := by decide +kernel
theorem dX10_image_150 : decode (m_code mX10_image) 150 = .ok (.putfield 272, 3) := by decide +kernel
theorem dX10_image_153 : decode (m_code mX10_image) 153 = .ok (.iconst 1, 1) := by decide +kernel
theorem dX10_image_154 : decode (m_code mX10_image) 154 = .ok (.ireturn, 1) := by decide +kernel
