theorem dX9_init_0 : decode (m_code mX9_init) 0 = .ok (.aload_n 0, 1) := by decide +kernel
theorem dX9_init_1 : decode (m_code mX9_init) 1 = .ok (.invokespecial 3, 3) := by decide +kernel
theorem dX9_init_4 : decode (m_code mX9_init) 4 = .ok (.aload_n 0, 1) := by decide +kernel
theorem dX9_init_5 : decode (m_code mX9_init) 5 = .ok (.new 9, 3) := by decide +kernel
theorem dX9_init_8 : decode (m_code mX9_init) 8 = .ok (.dup, 1) := by decide +kernel
theorem dX9_init_9 : decode (m_code mX9_init) 9 = .ok (.invokespecial 11, 3) := by decide +kernel
theorem dX9_init_12 : decode (m_code mX9_init) 12 = .ok (.putfield 12, 3) := by decide +kernel
theorem dX9_init_15 : decode (m_code mX9_init) 15 = .ok (.aload_n 0, 1) := by decide +kernel
theorem dX9_init_16 : decode (m_code mX9_init) 16 = .ok (.new 16, 3) := by decide +kernel
theorem dX9_init_19 : decode (m_code mX9_init) 19 = .ok (.dup, 1) := by decide +kernel
theorem dX9_init_20 : decode (m_code mX9_init) 20 = .ok (.invokespecial 18, 3) := by decide +kernel
theorem dX9_init_23 : decode (m_code mX9_init) 23 = .ok (.putfield 19, 3) := by decide +kernel
theorem dX9_init_26 : decode (m_code mX9_init) 26 = .ok (.aload_n 0, 1) := by decide +kernel
theorem dX9_init_27 : decode (m_code mX9_init) 27 = .ok (.new 23, 3) := by decide +kernel
theorem dX9_init_30 : decode (m_code mX9_init) 30 = .ok (.dup, 1) := by decide +kernel
theorem dX9_init_31 : decode (m_code mX9_init) 31 = .ok (.invokespecial 25, 3) := by decide +kernel
theorem dX9_init_34 : decode (m_code mX9_init) 34 = .ok (.putfield 26, 3) := by decide +kernel
theorem dX9_init_37 : decode (m_code mX9_init) 37 = .ok (.aload_n 0, 1) := by decide +kernel
theorem dX9_init_38 : decode (m_code mX9_init) 38 = .ok (.aconst_null, 1) := by decide +kernel
theorem dX9_init_39 : decode (m_code mX9_init) 39 = .ok (.putfield 30, 3) := by decide +kernel
theorem dX9_init_42 : decode (m_code mX9_init) 42 = .ok (.aload_n 0, 1) := by decide +kernel
theorem dX9_init_43 : decode (m_code mX9_init) 43 = .ok (.aconst_null, 1) := by decide +kernel
theorem dX9_init_44 : decode (m_code mX9_init) 44 = .ok (.putfield 33, 3) := by decide +kernel
theorem dX9_init_47 : decode (m_code mX9_init) 47 = .ok (.return_, 1) := by decide +kernel
theorem dX9_nodes_0 : decode (m_code mX9_nodes) 0 = .ok (.iload_n 1, 1) := by decide +kernel
theorem dX9_nodes_1 : decode (m_code mX9_nodes) 1 = .ok (.iconst 4, 1) := by decide +kernel
theorem dX9_nodes_2 : decode (m_code mX9_nodes) 2 = .ok (.if_icmp .lt 19, 3) := by decide +kernel
theorem dX9_nodes_5 : decode (m_code mX9_nodes) 5 = .ok (.iload_n 1, 1) := by decide +kernel
theorem dX9_nodes_6 : decode (m_code mX9_nodes) 6 = .ok (.bipush 7, 2) := by decide +kernel
theorem dX9_nodes_8 : decode (m_code mX9_nodes) 8 = .ok (.if_icmp .gt 13, 3) := by decide +kernel
theorem dX9_nodes_11 : decode (m_code mX9_nodes) 11 = .ok (.aload_n 0, 1) := by decide +kernel
theorem dX9_nodes_12 : decode (m_code mX9_nodes) 12 = .ok (.getfield 12, 3) := by decide +kernel
theorem dX9_nodes_15 : decode (m_code mX9_nodes) 15 = .ok (.invokevirtual 36, 3) := by decide +kernel
theorem dX9_nodes_18 : decode (m_code mX9_nodes) 18 = .ok (.ifCond .ne 5, 3) := by decide +kernel
theorem dX9_nodes_21 : decode (m_code mX9_nodes) 21 = .ok (.iconst 0, 1) := by decide +kernel
theorem dX9_nodes_22 : decode (m_code mX9_nodes) 22 = .ok (.ireturn, 1) := by decide +kernel
theorem dX9_nodes_23 : decode (m_code mX9_nodes) 23 = .ok (.aload_n 0, 1) := by decide +kernel
theorem dX9_nodes_24 : decode (m_code mX9_nodes) 24 = .ok (.getfield 12, 3) := by decide +kernel
theorem dX9_nodes_27 : decode (m_code mX9_nodes) 27 = .ok (.iload_n 1, 1) := by decide +kernel
theorem dX9_nodes_28 : decode (m_code mX9_nodes) 28 = .ok (.invokevirtual 40, 3) := by decide +kernel
theorem dX9_nodes_31 : decode (m_code mX9_nodes) 31 = .ok (.iconst 1, 1) := by decide +kernel
theorem dX9_nodes_32 : decode (m_code mX9_nodes) 32 = .ok (.ireturn, 1) := by decide +kernel
theorem dX9_mode_0 : decode (m_code mX9_mode) 0 = .ok (.aload_n 0, 1) := by decide +kernel
theorem dX9_mode_1 : decode (m_code mX9_mode) 1 = .ok (.getfield 12, 3) := by decide +kernel
theorem dX9_mode_4 : decode (m_code mX9_mode) 4 = .ok (.iload_n 1, 1) := by decide +kernel
theorem dX9_mode_5 : decode (m_code mX9_mode) 5 = .ok (.invokevirtual 44, 3) := by decide +kernel
theorem dX9_mode_8 : decode (m_code mX9_mode) 8 = .ok (.ifCond .eq 12, 3) := by decide +kernel
theorem dX9_mode_11 : decode (m_code mX9_mode) 11 = .ok (.iload_n 2, 1) := by decide +kernel
theorem dX9_mode_12 : decode (m_code mX9_mode) 12 = .ok (.ifCond .lt 8, 3) := by decide +kernel
theorem dX9_mode_15 : decode (m_code mX9_mode) 15 = .ok (.iload_n 2, 1) := by decide +kernel
theorem dX9_mode_16 : decode (m_code mX9_mode) 16 = .ok (.iconst 2, 1) := by decide +kernel
theorem dX9_mode_17 : decode (m_code mX9_mode) 17 = .ok (.if_icmp .le 5, 3) := by decide +kernel
theorem dX9_mode_20 : decode (m_code mX9_mode) 20 = .ok (.iconst 0, 1) := by decide +kernel
theorem dX9_mode_21 : decode (m_code mX9_mode) 21 = .ok (.ireturn, 1) := by decide +kernel
theorem dX9_mode_22 : decode (m_code mX9_mode) 22 = .ok (.aload_n 0, 1) := by decide +kernel
theorem dX9_mode_23 : decode (m_code mX9_mode) 23 = .ok (.getfield 12, 3) := by decide +kernel
theorem dX9_mode_26 : decode (m_code mX9_mode) 26 = .ok (.getfield 48, 3) := by decide +kernel
theorem dX9_mode_29 : decode (m_code mX9_mode) 29 = .ok (.iload_n 1, 1) := by decide +kernel
theorem dX9_mode_30 : decode (m_code mX9_mode) 30 = .ok (.aaload, 1) := by decide +kernel
theorem dX9_mode_31 : decode (m_code mX9_mode) 31 = .ok (.iload_n 2, 1) := by decide +kernel
theorem dX9_mode_32 : decode (m_code mX9_mode) 32 = .ok (.putfield 52, 3) := by decide +kernel
theorem dX9_mode_35 : decode (m_code mX9_mode) 35 = .ok (.iconst 1, 1) := by decide +kernel
theorem dX9_mode_36 : decode (m_code mX9_mode) 36 = .ok (.ireturn, 1) := by decide +kernel
theorem dX9_propose_0 : decode (m_code mX9_propose) 0 = .ok (.aload_n 0, 1) := by decide +kernel
theorem dX9_propose_1 : decode (m_code mX9_propose) 1 = .ok (.getfield 12, 3) := by decide +kernel
theorem dX9_propose_4 : decode (m_code mX9_propose) 4 = .ok (.iload_n 1, 1) := by decide +kernel
theorem dX9_propose_5 : decode (m_code mX9_propose) 5 = .ok (.iload_n 2, 1) := by decide +kernel
theorem dX9_propose_6 : decode (m_code mX9_propose) 6 = .ok (.invokevirtual 58, 3) := by decide +kernel
theorem dX9_propose_9 : decode (m_code mX9_propose) 9 = .ok (.ireturn, 1) := by decide +kernel
theorem dX9_timeout_0 : decode (m_code mX9_timeout) 0 = .ok (.aload_n 0, 1) := by decide +kernel
theorem dX9_timeout_1 : decode (m_code mX9_timeout) 1 = .ok (.getfield 12, 3) := by decide +kernel
theorem dX9_timeout_4 : decode (m_code mX9_timeout) 4 = .ok (.iload_n 1, 1) := by decide +kernel
theorem dX9_timeout_5 : decode (m_code mX9_timeout) 5 = .ok (.invokevirtual 62, 3) := by decide +kernel
theorem dX9_timeout_8 : decode (m_code mX9_timeout) 8 = .ok (.ireturn, 1) := by decide +kernel
theorem dX9_lie_0 : decode (m_code mX9_lie) 0 = .ok (.aload_n 0, 1) := by decide +kernel
theorem dX9_lie_1 : decode (m_code mX9_lie) 1 = .ok (.getfield 12, 3) := by decide +kernel
theorem dX9_lie_4 : decode (m_code mX9_lie) 4 = .ok (.iload_n 1, 1) := by decide +kernel
theorem dX9_lie_5 : decode (m_code mX9_lie) 5 = .ok (.iload_n 2, 1) := by decide +kernel
theorem dX9_lie_6 : decode (m_code mX9_lie) 6 = .ok (.iload_n 3, 1) := by decide +kernel
theorem dX9_lie_7 : decode (m_code mX9_lie) 7 = .ok (.iload 4, 2) := by decide +kernel
theorem dX9_lie_9 : decode (m_code mX9_lie) 9 = .ok (.iload 5, 2) := by decide +kernel
theorem dX9_lie_11 : decode (m_code mX9_lie) 11 = .ok (.invokevirtual 65, 3) := by decide +kernel
theorem dX9_lie_14 : decode (m_code mX9_lie) 14 = .ok (.ireturn, 1) := by decide +kernel
theorem dX9_deliver_0 : decode (m_code mX9_deliver) 0 = .ok (.aload_n 0, 1) := by decide +kernel
theorem dX9_deliver_1 : decode (m_code mX9_deliver) 1 = .ok (.getfield 12, 3) := by decide +kernel
theorem dX9_deliver_4 : decode (m_code mX9_deliver) 4 = .ok (.getfield 69, 3) := by decide +kernel
theorem dX9_deliver_7 : decode (m_code mX9_deliver) 7 = .ok (.iload_n 1, 1) := by decide +kernel
theorem dX9_deliver_8 : decode (m_code mX9_deliver) 8 = .ok (.invokevirtual 73, 3) := by decide +kernel
theorem dX9_deliver_11 : decode (m_code mX9_deliver) 11 = .ok (.ifCond .ne 5, 3) := by decide +kernel
theorem dX9_deliver_14 : decode (m_code mX9_deliver) 14 = .ok (.iconst (-1), 1) := by decide +kernel
theorem dX9_deliver_15 : decode (m_code mX9_deliver) 15 = .ok (.ireturn, 1) := by decide +kernel
theorem dX9_deliver_16 : decode (m_code mX9_deliver) 16 = .ok (.aload_n 0, 1) := by decide +kernel
theorem dX9_deliver_17 : decode (m_code mX9_deliver) 17 = .ok (.getfield 12, 3) := by decide +kernel
theorem dX9_deliver_20 : decode (m_code mX9_deliver) 20 = .ok (.getfield 69, 3) := by decide +kernel
theorem dX9_deliver_23 : decode (m_code mX9_deliver) 23 = .ok (.iload_n 1, 1) := by decide +kernel
theorem dX9_deliver_24 : decode (m_code mX9_deliver) 24 = .ok (.invokevirtual 78, 3) := by decide +kernel
theorem dX9_deliver_27 : decode (m_code mX9_deliver) 27 = .ok (.invokestatic 82, 3) := by decide +kernel
theorem dX9_deliver_30 : decode (m_code mX9_deliver) 30 = .ok (.istore_n 2, 1) := by decide +kernel
theorem dX9_deliver_31 : decode (m_code mX9_deliver) 31 = .ok (.aload_n 0, 1) := by decide +kernel
theorem dX9_deliver_32 : decode (m_code mX9_deliver) 32 = .ok (.getfield 12, 3) := by decide +kernel
theorem dX9_deliver_35 : decode (m_code mX9_deliver) 35 = .ok (.iload_n 1, 1) := by decide +kernel
theorem dX9_deliver_36 : decode (m_code mX9_deliver) 36 = .ok (.iconst 1, 1) := by decide +kernel
theorem dX9_deliver_37 : decode (m_code mX9_deliver) 37 = .ok (.invokevirtual 85, 3) := by decide +kernel
theorem dX9_deliver_40 : decode (m_code mX9_deliver) 40 = .ok (.pop, 1) := by decide +kernel
theorem dX9_deliver_41 : decode (m_code mX9_deliver) 41 = .ok (.iload_n 2, 1) := by decide +kernel
theorem dX9_deliver_42 : decode (m_code mX9_deliver) 42 = .ok (.ireturn, 1) := by decide +kernel
theorem dX9_drop_0 : decode (m_code mX9_drop) 0 = .ok (.aload_n 0, 1) := by decide +kernel
theorem dX9_drop_1 : decode (m_code mX9_drop) 1 = .ok (.getfield 12, 3) := by decide +kernel
theorem dX9_drop_4 : decode (m_code mX9_drop) 4 = .ok (.getfield 69, 3) := by decide +kernel
theorem dX9_drop_7 : decode (m_code mX9_drop) 7 = .ok (.iload_n 1, 1) := by decide +kernel
theorem dX9_drop_8 : decode (m_code mX9_drop) 8 = .ok (.invokevirtual 73, 3) := by decide +kernel
theorem dX9_drop_11 : decode (m_code mX9_drop) 11 = .ok (.ifCond .eq 20, 3) := by decide +kernel
theorem dX9_drop_14 : decode (m_code mX9_drop) 14 = .ok (.aload_n 0, 1) := by decide +kernel
theorem dX9_drop_15 : decode (m_code mX9_drop) 15 = .ok (.getfield 12, 3) := by decide +kernel
theorem dX9_drop_18 : decode (m_code mX9_drop) 18 = .ok (.getfield 69, 3) := by decide +kernel
theorem dX9_drop_21 : decode (m_code mX9_drop) 21 = .ok (.iload_n 1, 1) := by decide +kernel
theorem dX9_drop_22 : decode (m_code mX9_drop) 22 = .ok (.invokevirtual 88, 3) := by decide +kernel
theorem dX9_drop_25 : decode (m_code mX9_drop) 25 = .ok (.invokestatic 82, 3) := by decide +kernel
theorem dX9_drop_28 : decode (m_code mX9_drop) 28 = .ok (.goto 4, 3) := by decide +kernel
theorem dX9_drop_31 : decode (m_code mX9_drop) 31 = .ok (.iconst (-1), 1) := by decide +kernel
theorem dX9_drop_32 : decode (m_code mX9_drop) 32 = .ok (.ireturn, 1) := by decide +kernel
theorem dX9_lose_0 : decode (m_code mX9_lose) 0 = .ok (.aload_n 0, 1) := by decide +kernel
theorem dX9_lose_1 : decode (m_code mX9_lose) 1 = .ok (.getfield 12, 3) := by decide +kernel
theorem dX9_lose_4 : decode (m_code mX9_lose) 4 = .ok (.iload_n 1, 1) := by decide +kernel
theorem dX9_lose_5 : decode (m_code mX9_lose) 5 = .ok (.invokevirtual 44, 3) := by decide +kernel
theorem dX9_lose_8 : decode (m_code mX9_lose) 8 = .ok (.ifCond .eq 17, 3) := by decide +kernel
theorem dX9_lose_11 : decode (m_code mX9_lose) 11 = .ok (.aload_n 0, 1) := by decide +kernel
theorem dX9_lose_12 : decode (m_code mX9_lose) 12 = .ok (.getfield 12, 3) := by decide +kernel
theorem dX9_lose_15 : decode (m_code mX9_lose) 15 = .ok (.getfield 69, 3) := by decide +kernel
theorem dX9_lose_18 : decode (m_code mX9_lose) 18 = .ok (.iload_n 1, 1) := by decide +kernel
theorem dX9_lose_19 : decode (m_code mX9_lose) 19 = .ok (.invokevirtual 91, 3) := by decide +kernel
theorem dX9_lose_22 : decode (m_code mX9_lose) 22 = .ok (.goto 4, 3) := by decide +kernel
theorem dX9_lose_25 : decode (m_code mX9_lose) 25 = .ok (.iconst (-1), 1) := by decide +kernel
theorem dX9_lose_26 : decode (m_code mX9_lose) 26 = .ok (.ireturn, 1) := by decide +kernel
theorem dX9_leaders_0 : decode (m_code mX9_leaders) 0 = .ok (.iload_n 1, 1) := by decide +kernel
theorem dX9_leaders_1 : decode (m_code mX9_leaders) 1 = .ok (.ifCond .lt 18, 3) := by decide +kernel
theorem dX9_leaders_4 : decode (m_code mX9_leaders) 4 = .ok (.iload_n 1, 1) := by decide +kernel
theorem dX9_leaders_5 : decode (m_code mX9_leaders) 5 = .ok (.iconst 2, 1) := by decide +kernel
theorem dX9_leaders_6 : decode (m_code mX9_leaders) 6 = .ok (.if_icmp .gt 13, 3) := by decide +kernel
theorem dX9_leaders_9 : decode (m_code mX9_leaders) 9 = .ok (.aload_n 0, 1) := by decide +kernel
theorem dX9_leaders_10 : decode (m_code mX9_leaders) 10 = .ok (.getfield 12, 3) := by decide +kernel
theorem dX9_leaders_13 : decode (m_code mX9_leaders) 13 = .ok (.invokevirtual 36, 3) := by decide +kernel
theorem dX9_leaders_16 : decode (m_code mX9_leaders) 16 = .ok (.ifCond .ne 5, 3) := by decide +kernel
theorem dX9_leaders_19 : decode (m_code mX9_leaders) 19 = .ok (.iconst (-1), 1) := by decide +kernel
theorem dX9_leaders_20 : decode (m_code mX9_leaders) 20 = .ok (.ireturn, 1) := by decide +kernel
theorem dX9_leaders_21 : decode (m_code mX9_leaders) 21 = .ok (.aload_n 0, 1) := by decide +kernel
theorem dX9_leaders_22 : decode (m_code mX9_leaders) 22 = .ok (.getfield 12, 3) := by decide +kernel
theorem dX9_leaders_25 : decode (m_code mX9_leaders) 25 = .ok (.getfield 94, 3) := by decide +kernel
theorem dX9_leaders_28 : decode (m_code mX9_leaders) 28 = .ok (.istore_n 2, 1) := by decide +kernel
theorem dX9_leaders_29 : decode (m_code mX9_leaders) 29 = .ok (.aload_n 0, 1) := by decide +kernel
theorem dX9_leaders_30 : decode (m_code mX9_leaders) 30 = .ok (.getfield 12, 3) := by decide +kernel
theorem dX9_leaders_33 : decode (m_code mX9_leaders) 33 = .ok (.iload_n 1, 1) := by decide +kernel
theorem dX9_leaders_34 : decode (m_code mX9_leaders) 34 = .ok (.putfield 94, 3) := by decide +kernel
theorem dX9_leaders_37 : decode (m_code mX9_leaders) 37 = .ok (.iload_n 2, 1) := by decide +kernel
theorem dX9_leaders_38 : decode (m_code mX9_leaders) 38 = .ok (.ireturn, 1) := by decide +kernel
theorem dX9_cut_0 : decode (m_code mX9_cut) 0 = .ok (.aload_n 0, 1) := by decide +kernel
theorem dX9_cut_1 : decode (m_code mX9_cut) 1 = .ok (.getfield 12, 3) := by decide +kernel
theorem dX9_cut_4 : decode (m_code mX9_cut) 4 = .ok (.iload_n 1, 1) := by decide +kernel
theorem dX9_cut_5 : decode (m_code mX9_cut) 5 = .ok (.invokevirtual 44, 3) := by decide +kernel
theorem dX9_cut_8 : decode (m_code mX9_cut) 8 = .ok (.ifCond .eq 19, 3) := by decide +kernel
theorem dX9_cut_11 : decode (m_code mX9_cut) 11 = .ok (.aload_n 0, 1) := by decide +kernel
theorem dX9_cut_12 : decode (m_code mX9_cut) 12 = .ok (.getfield 12, 3) := by decide +kernel
theorem dX9_cut_15 : decode (m_code mX9_cut) 15 = .ok (.iload_n 2, 1) := by decide +kernel
theorem dX9_cut_16 : decode (m_code mX9_cut) 16 = .ok (.invokevirtual 44, 3) := by decide +kernel
theorem dX9_cut_19 : decode (m_code mX9_cut) 19 = .ok (.ifCond .eq 8, 3) := by decide +kernel
theorem dX9_cut_22 : decode (m_code mX9_cut) 22 = .ok (.iload_n 1, 1) := by decide +kernel
theorem dX9_cut_23 : decode (m_code mX9_cut) 23 = .ok (.iload_n 2, 1) := by decide +kernel
theorem dX9_cut_24 : decode (m_code mX9_cut) 24 = .ok (.if_icmp .ne 5, 3) := by decide +kernel
theorem dX9_cut_27 : decode (m_code mX9_cut) 27 = .ok (.iconst 0, 1) := by decide +kernel
theorem dX9_cut_28 : decode (m_code mX9_cut) 28 = .ok (.ireturn, 1) := by decide +kernel
theorem dX9_cut_29 : decode (m_code mX9_cut) 29 = .ok (.aload_n 0, 1) := by decide +kernel
theorem dX9_cut_30 : decode (m_code mX9_cut) 30 = .ok (.getfield 12, 3) := by decide +kernel
theorem dX9_cut_33 : decode (m_code mX9_cut) 33 = .ok (.getfield 69, 3) := by decide +kernel
theorem dX9_cut_36 : decode (m_code mX9_cut) 36 = .ok (.iload_n 1, 1) := by decide +kernel
theorem dX9_cut_37 : decode (m_code mX9_cut) 37 = .ok (.iload_n 2, 1) := by decide +kernel
theorem dX9_cut_38 : decode (m_code mX9_cut) 38 = .ok (.iload_n 3, 1) := by decide +kernel
theorem dX9_cut_39 : decode (m_code mX9_cut) 39 = .ok (.invokevirtual 97, 3) := by decide +kernel
theorem dX9_cut_42 : decode (m_code mX9_cut) 42 = .ok (.iconst 1, 1) := by decide +kernel
theorem dX9_cut_43 : decode (m_code mX9_cut) 43 = .ok (.ireturn, 1) := by decide +kernel
theorem dX9_reach_0 : decode (m_code mX9_reach) 0 = .ok (.aload_n 0, 1) := by decide +kernel
theorem dX9_reach_1 : decode (m_code mX9_reach) 1 = .ok (.getfield 12, 3) := by decide +kernel
theorem dX9_reach_4 : decode (m_code mX9_reach) 4 = .ok (.iload_n 1, 1) := by decide +kernel
theorem dX9_reach_5 : decode (m_code mX9_reach) 5 = .ok (.invokevirtual 44, 3) := by decide +kernel
theorem dX9_reach_8 : decode (m_code mX9_reach) 8 = .ok (.ifCond .eq 28, 3) := by decide +kernel
theorem dX9_reach_11 : decode (m_code mX9_reach) 11 = .ok (.aload_n 0, 1) := by decide +kernel
theorem dX9_reach_12 : decode (m_code mX9_reach) 12 = .ok (.getfield 12, 3) := by decide +kernel
theorem dX9_reach_15 : decode (m_code mX9_reach) 15 = .ok (.invokevirtual 101, 3) := by decide +kernel
theorem dX9_reach_18 : decode (m_code mX9_reach) 18 = .ok (.aload_n 0, 1) := by decide +kernel
theorem dX9_reach_19 : decode (m_code mX9_reach) 19 = .ok (.getfield 12, 3) := by decide +kernel
theorem dX9_reach_22 : decode (m_code mX9_reach) 22 = .ok (.getfield 69, 3) := by decide +kernel
theorem dX9_reach_25 : decode (m_code mX9_reach) 25 = .ok (.getfield 105, 3) := by decide +kernel
theorem dX9_reach_28 : decode (m_code mX9_reach) 28 = .ok (.iload_n 1, 1) := by decide +kernel
theorem dX9_reach_29 : decode (m_code mX9_reach) 29 = .ok (.iaload, 1) := by decide +kernel
theorem dX9_reach_30 : decode (m_code mX9_reach) 30 = .ok (.iconst (-1), 1) := by decide +kernel
theorem dX9_reach_31 : decode (m_code mX9_reach) 31 = .ok (.ixor, 1) := by decide +kernel
theorem dX9_reach_32 : decode (m_code mX9_reach) 32 = .ok (.iand, 1) := by decide +kernel
theorem dX9_reach_33 : decode (m_code mX9_reach) 33 = .ok (.goto 4, 3) := by decide +kernel
theorem dX9_reach_36 : decode (m_code mX9_reach) 36 = .ok (.iconst (-1), 1) := by decide +kernel
theorem dX9_reach_37 : decode (m_code mX9_reach) 37 = .ok (.ireturn, 1) := by decide +kernel
theorem dX9_since_0 : decode (m_code mX9_since) 0 = .ok (.aload_n 0, 1) := by decide +kernel
theorem dX9_since_1 : decode (m_code mX9_since) 1 = .ok (.getfield 12, 3) := by decide +kernel
theorem dX9_since_4 : decode (m_code mX9_since) 4 = .ok (.iload_n 1, 1) := by decide +kernel
theorem dX9_since_5 : decode (m_code mX9_since) 5 = .ok (.invokevirtual 44, 3) := by decide +kernel
theorem dX9_since_8 : decode (m_code mX9_since) 8 = .ok (.ifCond .eq 23, 3) := by decide +kernel
theorem dX9_since_11 : decode (m_code mX9_since) 11 = .ok (.aload_n 0, 1) := by decide +kernel
theorem dX9_since_12 : decode (m_code mX9_since) 12 = .ok (.getfield 12, 3) := by decide +kernel
theorem dX9_since_15 : decode (m_code mX9_since) 15 = .ok (.aload_n 0, 1) := by decide +kernel
theorem dX9_since_16 : decode (m_code mX9_since) 16 = .ok (.getfield 12, 3) := by decide +kernel
theorem dX9_since_19 : decode (m_code mX9_since) 19 = .ok (.getfield 48, 3) := by decide +kernel
theorem dX9_since_22 : decode (m_code mX9_since) 22 = .ok (.iload_n 1, 1) := by decide +kernel
theorem dX9_since_23 : decode (m_code mX9_since) 23 = .ok (.aaload, 1) := by decide +kernel
theorem dX9_since_24 : decode (m_code mX9_since) 24 = .ok (.iload_n 2, 1) := by decide +kernel
theorem dX9_since_25 : decode (m_code mX9_since) 25 = .ok (.invokestatic 109, 3) := by decide +kernel
theorem dX9_since_28 : decode (m_code mX9_since) 28 = .ok (.goto 5, 3) := by decide +kernel
theorem dX9_since_31 : decode (m_code mX9_since) 31 = .ok (.ldc 115, 2) := by decide +kernel
theorem dX9_since_33 : decode (m_code mX9_since) 33 = .ok (.ireturn, 1) := by decide +kernel
theorem dX9_state_0 : decode (m_code mX9_state) 0 = .ok (.aload_n 0, 1) := by decide +kernel
theorem dX9_state_1 : decode (m_code mX9_state) 1 = .ok (.getfield 12, 3) := by decide +kernel
theorem dX9_state_4 : decode (m_code mX9_state) 4 = .ok (.getfield 116, 3) := by decide +kernel
theorem dX9_state_7 : decode (m_code mX9_state) 7 = .ok (.istore_n 2, 1) := by decide +kernel
theorem dX9_state_8 : decode (m_code mX9_state) 8 = .ok (.aload_n 0, 1) := by decide +kernel
theorem dX9_state_9 : decode (m_code mX9_state) 9 = .ok (.getfield 12, 3) := by decide +kernel
theorem dX9_state_12 : decode (m_code mX9_state) 12 = .ok (.iload_n 1, 1) := by decide +kernel
theorem dX9_state_13 : decode (m_code mX9_state) 13 = .ok (.putfield 116, 3) := by decide +kernel
theorem dX9_state_16 : decode (m_code mX9_state) 16 = .ok (.iload_n 2, 1) := by decide +kernel
theorem dX9_state_17 : decode (m_code mX9_state) 17 = .ok (.ireturn, 1) := by decide +kernel
theorem dX9_ask_0 : decode (m_code mX9_ask) 0 = .ok (.aload_n 0, 1) := by decide +kernel
theorem dX9_ask_1 : decode (m_code mX9_ask) 1 = .ok (.getfield 12, 3) := by decide +kernel
theorem dX9_ask_4 : decode (m_code mX9_ask) 4 = .ok (.iload_n 1, 1) := by decide +kernel
theorem dX9_ask_5 : decode (m_code mX9_ask) 5 = .ok (.invokevirtual 119, 3) := by decide +kernel
theorem dX9_ask_8 : decode (m_code mX9_ask) 8 = .ok (.ifCond .eq 19, 3) := by decide +kernel
theorem dX9_ask_11 : decode (m_code mX9_ask) 11 = .ok (.aload_n 0, 1) := by decide +kernel
theorem dX9_ask_12 : decode (m_code mX9_ask) 12 = .ok (.getfield 12, 3) := by decide +kernel
theorem dX9_ask_15 : decode (m_code mX9_ask) 15 = .ok (.iload_n 2, 1) := by decide +kernel
theorem dX9_ask_16 : decode (m_code mX9_ask) 16 = .ok (.invokevirtual 119, 3) := by decide +kernel
theorem dX9_ask_19 : decode (m_code mX9_ask) 19 = .ok (.ifCond .eq 8, 3) := by decide +kernel
theorem dX9_ask_22 : decode (m_code mX9_ask) 22 = .ok (.iload_n 1, 1) := by decide +kernel
theorem dX9_ask_23 : decode (m_code mX9_ask) 23 = .ok (.iload_n 2, 1) := by decide +kernel
theorem dX9_ask_24 : decode (m_code mX9_ask) 24 = .ok (.if_icmp .ne 5, 3) := by decide +kernel
theorem dX9_ask_27 : decode (m_code mX9_ask) 27 = .ok (.iconst 0, 1) := by decide +kernel
theorem dX9_ask_28 : decode (m_code mX9_ask) 28 = .ok (.ireturn, 1) := by decide +kernel
theorem dX9_ask_29 : decode (m_code mX9_ask) 29 = .ok (.aload_n 0, 1) := by decide +kernel
theorem dX9_ask_30 : decode (m_code mX9_ask) 30 = .ok (.getfield 12, 3) := by decide +kernel
theorem dX9_ask_33 : decode (m_code mX9_ask) 33 = .ok (.iload_n 1, 1) := by decide +kernel
theorem dX9_ask_34 : decode (m_code mX9_ask) 34 = .ok (.iload_n 2, 1) := by decide +kernel
theorem dX9_ask_35 : decode (m_code mX9_ask) 35 = .ok (.invokevirtual 122, 3) := by decide +kernel
theorem dX9_ask_38 : decode (m_code mX9_ask) 38 = .ok (.iconst 1, 1) := by decide +kernel
theorem dX9_ask_39 : decode (m_code mX9_ask) 39 = .ok (.ireturn, 1) := by decide +kernel
theorem dX9_storm_0 : decode (m_code mX9_storm) 0 = .ok (.iload_n 1, 1) := by decide +kernel
theorem dX9_storm_1 : decode (m_code mX9_storm) 1 = .ok (.iconst 1, 1) := by decide +kernel
theorem dX9_storm_2 : decode (m_code mX9_storm) 2 = .ok (.if_icmp .lt 19, 3) := by decide +kernel
theorem dX9_storm_5 : decode (m_code mX9_storm) 5 = .ok (.iload_n 1, 1) := by decide +kernel
theorem dX9_storm_6 : decode (m_code mX9_storm) 6 = .ok (.bipush 40, 2) := by decide +kernel
theorem dX9_storm_8 : decode (m_code mX9_storm) 8 = .ok (.if_icmp .gt 13, 3) := by decide +kernel
theorem dX9_storm_11 : decode (m_code mX9_storm) 11 = .ok (.iload_n 2, 1) := by decide +kernel
theorem dX9_storm_12 : decode (m_code mX9_storm) 12 = .ok (.ifCond .lt 9, 3) := by decide +kernel
theorem dX9_storm_15 : decode (m_code mX9_storm) 15 = .ok (.iload_n 2, 1) := by decide +kernel
theorem dX9_storm_16 : decode (m_code mX9_storm) 16 = .ok (.bipush 9, 2) := by decide +kernel
theorem dX9_storm_18 : decode (m_code mX9_storm) 18 = .ok (.if_icmp .le 5, 3) := by decide +kernel
theorem dX9_storm_21 : decode (m_code mX9_storm) 21 = .ok (.iconst (-1), 1) := by decide +kernel
theorem dX9_storm_22 : decode (m_code mX9_storm) 22 = .ok (.ireturn, 1) := by decide +kernel
theorem dX9_storm_23 : decode (m_code mX9_storm) 23 = .ok (.aload_n 0, 1) := by decide +kernel
theorem dX9_storm_24 : decode (m_code mX9_storm) 24 = .ok (.getfield 12, 3) := by decide +kernel
theorem dX9_storm_27 : decode (m_code mX9_storm) 27 = .ok (.iload_n 1, 1) := by decide +kernel
theorem dX9_storm_28 : decode (m_code mX9_storm) 28 = .ok (.iload_n 2, 1) := by decide +kernel
theorem dX9_storm_29 : decode (m_code mX9_storm) 29 = .ok (.invokevirtual 126, 3) := by decide +kernel
theorem dX9_storm_32 : decode (m_code mX9_storm) 32 = .ok (.ireturn, 1) := by decide +kernel
theorem dX9_turn_0 : decode (m_code mX9_turn) 0 = .ok (.aload_n 0, 1) := by decide +kernel
theorem dX9_turn_1 : decode (m_code mX9_turn) 1 = .ok (.getfield 12, 3) := by decide +kernel
theorem dX9_turn_4 : decode (m_code mX9_turn) 4 = .ok (.getfield 69, 3) := by decide +kernel
theorem dX9_turn_7 : decode (m_code mX9_turn) 7 = .ok (.iload_n 1, 1) := by decide +kernel
theorem dX9_turn_8 : decode (m_code mX9_turn) 8 = .ok (.invokevirtual 129, 3) := by decide +kernel
theorem dX9_turn_11 : decode (m_code mX9_turn) 11 = .ok (.ireturn, 1) := by decide +kernel
theorem dX9_calm_0 : decode (m_code mX9_calm) 0 = .ok (.iload_n 1, 1) := by decide +kernel
theorem dX9_calm_1 : decode (m_code mX9_calm) 1 = .ok (.iconst 1, 1) := by decide +kernel
theorem dX9_calm_2 : decode (m_code mX9_calm) 2 = .ok (.if_icmp .lt 9, 3) := by decide +kernel
theorem dX9_calm_5 : decode (m_code mX9_calm) 5 = .ok (.iload_n 1, 1) := by decide +kernel
theorem dX9_calm_6 : decode (m_code mX9_calm) 6 = .ok (.bipush 20, 2) := by decide +kernel
theorem dX9_calm_8 : decode (m_code mX9_calm) 8 = .ok (.if_icmp .le 7, 3) := by decide +kernel
theorem dX9_calm_11 : decode (m_code mX9_calm) 11 = .ok (.iconst (-1), 1) := by decide +kernel
theorem dX9_calm_12 : decode (m_code mX9_calm) 12 = .ok (.goto 11, 3) := by decide +kernel
theorem dX9_calm_15 : decode (m_code mX9_calm) 15 = .ok (.aload_n 0, 1) := by decide +kernel
theorem dX9_calm_16 : decode (m_code mX9_calm) 16 = .ok (.getfield 12, 3) := by decide +kernel
theorem dX9_calm_19 : decode (m_code mX9_calm) 19 = .ok (.iload_n 1, 1) := by decide +kernel
theorem dX9_calm_20 : decode (m_code mX9_calm) 20 = .ok (.invokevirtual 132, 3) := by decide +kernel
theorem dX9_calm_23 : decode (m_code mX9_calm) 23 = .ok (.ireturn, 1) := by decide +kernel
theorem dX9_feed_0 : decode (m_code mX9_feed) 0 = .ok (.aload_n 0, 1) := by decide +kernel
theorem dX9_feed_1 : decode (m_code mX9_feed) 1 = .ok (.getfield 19, 3) := by decide +kernel
theorem dX9_feed_4 : decode (m_code mX9_feed) 4 = .ok (.getfield 135, 3) := by decide +kernel
theorem dX9_feed_7 : decode (m_code mX9_feed) 7 = .ok (.bipush 20, 2) := by decide +kernel
theorem dX9_feed_9 : decode (m_code mX9_feed) 9 = .ok (.iadd, 1) := by decide +kernel
theorem dX9_feed_10 : decode (m_code mX9_feed) 10 = .ok (.sipush 400, 3) := by decide +kernel
theorem dX9_feed_13 : decode (m_code mX9_feed) 13 = .ok (.if_icmp .le 5, 3) := by decide +kernel
theorem dX9_feed_16 : decode (m_code mX9_feed) 16 = .ok (.iconst (-1), 1) := by decide +kernel
theorem dX9_feed_17 : decode (m_code mX9_feed) 17 = .ok (.ireturn, 1) := by decide +kernel
theorem dX9_feed_18 : decode (m_code mX9_feed) 18 = .ok (.aload_n 0, 1) := by decide +kernel
theorem dX9_feed_19 : decode (m_code mX9_feed) 19 = .ok (.getfield 19, 3) := by decide +kernel
theorem dX9_feed_22 : decode (m_code mX9_feed) 22 = .ok (.iload_n 1, 1) := by decide +kernel
theorem dX9_feed_23 : decode (m_code mX9_feed) 23 = .ok (.invokevirtual 138, 3) := by decide +kernel
theorem dX9_feed_26 : decode (m_code mX9_feed) 26 = .ok (.aload_n 0, 1) := by decide +kernel
theorem dX9_feed_27 : decode (m_code mX9_feed) 27 = .ok (.getfield 19, 3) := by decide +kernel
theorem dX9_feed_30 : decode (m_code mX9_feed) 30 = .ok (.iload_n 2, 1) := by decide +kernel
theorem dX9_feed_31 : decode (m_code mX9_feed) 31 = .ok (.invokevirtual 138, 3) := by decide +kernel
theorem dX9_feed_34 : decode (m_code mX9_feed) 34 = .ok (.aload_n 0, 1) := by decide +kernel
theorem dX9_feed_35 : decode (m_code mX9_feed) 35 = .ok (.getfield 19, 3) := by decide +kernel
theorem dX9_feed_38 : decode (m_code mX9_feed) 38 = .ok (.iload_n 3, 1) := by decide +kernel
theorem dX9_feed_39 : decode (m_code mX9_feed) 39 = .ok (.invokevirtual 138, 3) := by decide +kernel
theorem dX9_feed_42 : decode (m_code mX9_feed) 42 = .ok (.aload_n 0, 1) := by decide +kernel
theorem dX9_feed_43 : decode (m_code mX9_feed) 43 = .ok (.getfield 19, 3) := by decide +kernel
theorem dX9_feed_46 : decode (m_code mX9_feed) 46 = .ok (.iload 4, 2) := by decide +kernel
theorem dX9_feed_48 : decode (m_code mX9_feed) 48 = .ok (.invokevirtual 138, 3) := by decide +kernel
theorem dX9_feed_51 : decode (m_code mX9_feed) 51 = .ok (.aload_n 0, 1) := by decide +kernel
theorem dX9_feed_52 : decode (m_code mX9_feed) 52 = .ok (.getfield 19, 3) := by decide +kernel
theorem dX9_feed_55 : decode (m_code mX9_feed) 55 = .ok (.iload 5, 2) := by decide +kernel
theorem dX9_feed_57 : decode (m_code mX9_feed) 57 = .ok (.invokevirtual 138, 3) := by decide +kernel
theorem dX9_feed_60 : decode (m_code mX9_feed) 60 = .ok (.aload_n 0, 1) := by decide +kernel
theorem dX9_feed_61 : decode (m_code mX9_feed) 61 = .ok (.getfield 19, 3) := by decide +kernel
theorem dX9_feed_64 : decode (m_code mX9_feed) 64 = .ok (.getfield 135, 3) := by decide +kernel
theorem dX9_feed_67 : decode (m_code mX9_feed) 67 = .ok (.ireturn, 1) := by decide +kernel
theorem dX9_end_0 : decode (m_code mX9_end) 0 = .ok (.iload_n 1, 1) := by decide +kernel
theorem dX9_end_1 : decode (m_code mX9_end) 1 = .ok (.ifCond .lt 14, 3) := by decide +kernel
theorem dX9_end_4 : decode (m_code mX9_end) 4 = .ok (.iload_n 1, 1) := by decide +kernel
theorem dX9_end_5 : decode (m_code mX9_end) 5 = .ok (.aload_n 0, 1) := by decide +kernel
theorem dX9_end_6 : decode (m_code mX9_end) 6 = .ok (.getfield 19, 3) := by decide +kernel
theorem dX9_end_9 : decode (m_code mX9_end) 9 = .ok (.getfield 135, 3) := by decide +kernel
theorem dX9_end_12 : decode (m_code mX9_end) 12 = .ok (.if_icmp .le 5, 3) := by decide +kernel
theorem dX9_end_15 : decode (m_code mX9_end) 15 = .ok (.iconst 0, 1) := by decide +kernel
theorem dX9_end_16 : decode (m_code mX9_end) 16 = .ok (.ireturn, 1) := by decide +kernel
theorem dX9_end_17 : decode (m_code mX9_end) 17 = .ok (.aload_n 0, 1) := by decide +kernel
theorem dX9_end_18 : decode (m_code mX9_end) 18 = .ok (.getfield 19, 3) := by decide +kernel
theorem dX9_end_21 : decode (m_code mX9_end) 21 = .ok (.iload_n 1, 1) := by decide +kernel
theorem dX9_end_22 : decode (m_code mX9_end) 22 = .ok (.putfield 135, 3) := by decide +kernel
theorem dX9_end_25 : decode (m_code mX9_end) 25 = .ok (.iconst 1, 1) := by decide +kernel
theorem dX9_end_26 : decode (m_code mX9_end) 26 = .ok (.ireturn, 1) := by decide +kernel
theorem dX9_plan_0 : decode (m_code mX9_plan) 0 = .ok (.aload_n 0, 1) := by decide +kernel
theorem dX9_plan_1 : decode (m_code mX9_plan) 1 = .ok (.getfield 19, 3) := by decide +kernel
theorem dX9_plan_4 : decode (m_code mX9_plan) 4 = .ok (.invokevirtual 141, 3) := by decide +kernel
theorem dX9_plan_7 : decode (m_code mX9_plan) 7 = .ok (.ifCond .ne 5, 3) := by decide +kernel
theorem dX9_plan_10 : decode (m_code mX9_plan) 10 = .ok (.iconst (-1), 1) := by decide +kernel
theorem dX9_plan_11 : decode (m_code mX9_plan) 11 = .ok (.ireturn, 1) := by decide +kernel
theorem dX9_plan_12 : decode (m_code mX9_plan) 12 = .ok (.aload_n 0, 1) := by decide +kernel
theorem dX9_plan_13 : decode (m_code mX9_plan) 13 = .ok (.getfield 12, 3) := by decide +kernel
theorem dX9_plan_16 : decode (m_code mX9_plan) 16 = .ok (.getfield 144, 3) := by decide +kernel
theorem dX9_plan_19 : decode (m_code mX9_plan) 19 = .ok (.aload_n 0, 1) := by decide +kernel
theorem dX9_plan_20 : decode (m_code mX9_plan) 20 = .ok (.getfield 19, 3) := by decide +kernel
theorem dX9_plan_23 : decode (m_code mX9_plan) 23 = .ok (.getfield 148, 3) := by decide +kernel
theorem dX9_plan_26 : decode (m_code mX9_plan) 26 = .ok (.invokevirtual 151, 3) := by decide +kernel
theorem dX9_plan_29 : decode (m_code mX9_plan) 29 = .ok (.aload_n 0, 1) := by decide +kernel
theorem dX9_plan_30 : decode (m_code mX9_plan) 30 = .ok (.getfield 12, 3) := by decide +kernel
theorem dX9_plan_33 : decode (m_code mX9_plan) 33 = .ok (.getfield 144, 3) := by decide +kernel
theorem dX9_plan_36 : decode (m_code mX9_plan) 36 = .ok (.getfield 157, 3) := by decide +kernel
theorem dX9_plan_39 : decode (m_code mX9_plan) 39 = .ok (.ireturn, 1) := by decide +kernel
theorem dX9_fault_0 : decode (m_code mX9_fault) 0 = .ok (.iload_n 1, 1) := by decide +kernel
theorem dX9_fault_1 : decode (m_code mX9_fault) 1 = .ok (.lookupswitch 43 #[(0, 27), (1, 35)], 27) := by decide +kernel
theorem dX9_fault_28 : decode (m_code mX9_fault) 28 = .ok (.aload_n 0, 1) := by decide +kernel
theorem dX9_fault_29 : decode (m_code mX9_fault) 29 = .ok (.getfield 19, 3) := by decide +kernel
theorem dX9_fault_32 : decode (m_code mX9_fault) 32 = .ok (.getfield 160, 3) := by decide +kernel
theorem dX9_fault_35 : decode (m_code mX9_fault) 35 = .ok (.ireturn, 1) := by decide +kernel
theorem dX9_fault_36 : decode (m_code mX9_fault) 36 = .ok (.aload_n 0, 1) := by decide +kernel
theorem dX9_fault_37 : decode (m_code mX9_fault) 37 = .ok (.getfield 19, 3) := by decide +kernel
theorem dX9_fault_40 : decode (m_code mX9_fault) 40 = .ok (.getfield 163, 3) := by decide +kernel
theorem dX9_fault_43 : decode (m_code mX9_fault) 43 = .ok (.ireturn, 1) := by decide +kernel
theorem dX9_fault_44 : decode (m_code mX9_fault) 44 = .ok (.iconst (-1), 1) := by decide +kernel
theorem dX9_fault_45 : decode (m_code mX9_fault) 45 = .ok (.ireturn, 1) := by decide +kernel
theorem dX9_run_0 : decode (m_code mX9_run) 0 = .ok (.iload_n 1, 1) := by decide +kernel
theorem dX9_run_1 : decode (m_code mX9_run) 1 = .ok (.iconst 1, 1) := by decide +kernel
theorem dX9_run_2 : decode (m_code mX9_run) 2 = .ok (.if_icmp .lt 9, 3) := by decide +kernel
theorem dX9_run_5 : decode (m_code mX9_run) 5 = .ok (.iload_n 1, 1) := by decide +kernel
theorem dX9_run_6 : decode (m_code mX9_run) 6 = .ok (.bipush 24, 2) := by decide +kernel
theorem dX9_run_8 : decode (m_code mX9_run) 8 = .ok (.if_icmp .le 5, 3) := by decide +kernel
theorem dX9_run_11 : decode (m_code mX9_run) 11 = .ok (.iconst (-1), 1) := by decide +kernel
theorem dX9_run_12 : decode (m_code mX9_run) 12 = .ok (.ireturn, 1) := by decide +kernel
theorem dX9_run_13 : decode (m_code mX9_run) 13 = .ok (.iconst 0, 1) := by decide +kernel
theorem dX9_run_14 : decode (m_code mX9_run) 14 = .ok (.istore_n 2, 1) := by decide +kernel
theorem dX9_run_15 : decode (m_code mX9_run) 15 = .ok (.iconst 0, 1) := by decide +kernel
theorem dX9_run_16 : decode (m_code mX9_run) 16 = .ok (.istore_n 3, 1) := by decide +kernel
theorem dX9_run_17 : decode (m_code mX9_run) 17 = .ok (.iload_n 3, 1) := by decide +kernel
theorem dX9_run_18 : decode (m_code mX9_run) 18 = .ok (.iload_n 1, 1) := by decide +kernel
theorem dX9_run_19 : decode (m_code mX9_run) 19 = .ok (.if_icmp .ge 73, 3) := by decide +kernel
theorem dX9_run_22 : decode (m_code mX9_run) 22 = .ok (.aload_n 0, 1) := by decide +kernel
theorem dX9_run_23 : decode (m_code mX9_run) 23 = .ok (.getfield 12, 3) := by decide +kernel
theorem dX9_run_26 : decode (m_code mX9_run) 26 = .ok (.getfield 144, 3) := by decide +kernel
theorem dX9_run_29 : decode (m_code mX9_run) 29 = .ok (.getfield 166, 3) := by decide +kernel
theorem dX9_run_32 : decode (m_code mX9_run) 32 = .ok (.aload_n 0, 1) := by decide +kernel
theorem dX9_run_33 : decode (m_code mX9_run) 33 = .ok (.getfield 12, 3) := by decide +kernel
theorem dX9_run_36 : decode (m_code mX9_run) 36 = .ok (.getfield 144, 3) := by decide +kernel
theorem dX9_run_39 : decode (m_code mX9_run) 39 = .ok (.getfield 157, 3) := by decide +kernel
theorem dX9_run_42 : decode (m_code mX9_run) 42 = .ok (.if_icmp .ge 50, 3) := by decide +kernel
theorem dX9_run_45 : decode (m_code mX9_run) 45 = .ok (.aload_n 0, 1) := by decide +kernel
theorem dX9_run_46 : decode (m_code mX9_run) 46 = .ok (.getfield 12, 3) := by decide +kernel
theorem dX9_run_49 : decode (m_code mX9_run) 49 = .ok (.getfield 144, 3) := by decide +kernel
theorem dX9_run_52 : decode (m_code mX9_run) 52 = .ok (.getfield 166, 3) := by decide +kernel
theorem dX9_run_55 : decode (m_code mX9_run) 55 = .ok (.istore 4, 2) := by decide +kernel
theorem dX9_run_57 : decode (m_code mX9_run) 57 = .ok (.aload_n 0, 1) := by decide +kernel
theorem dX9_run_58 : decode (m_code mX9_run) 58 = .ok (.getfield 12, 3) := by decide +kernel
theorem dX9_run_61 : decode (m_code mX9_run) 61 = .ok (.getfield 144, 3) := by decide +kernel
theorem dX9_run_64 : decode (m_code mX9_run) 64 = .ok (.iload 4, 2) := by decide +kernel
theorem dX9_run_66 : decode (m_code mX9_run) 66 = .ok (.iconst 1, 1) := by decide +kernel
theorem dX9_run_67 : decode (m_code mX9_run) 67 = .ok (.iadd, 1) := by decide +kernel
theorem dX9_run_68 : decode (m_code mX9_run) 68 = .ok (.putfield 166, 3) := by decide +kernel
theorem dX9_run_71 : decode (m_code mX9_run) 71 = .ok (.aload_n 0, 1) := by decide +kernel
theorem dX9_run_72 : decode (m_code mX9_run) 72 = .ok (.getfield 12, 3) := by decide +kernel
theorem dX9_run_75 : decode (m_code mX9_run) 75 = .ok (.iload 4, 2) := by decide +kernel
theorem dX9_run_77 : decode (m_code mX9_run) 77 = .ok (.invokevirtual 169, 3) := by decide +kernel
theorem dX9_run_80 : decode (m_code mX9_run) 80 = .ok (.ifCond .eq 6, 3) := by decide +kernel
theorem dX9_run_83 : decode (m_code mX9_run) 83 = .ok (.iinc 2 1, 3) := by decide +kernel
theorem dX9_run_86 : decode (m_code mX9_run) 86 = .ok (.iinc 3 1, 3) := by decide +kernel
theorem dX9_run_89 : decode (m_code mX9_run) 89 = .ok (.goto (-72), 3) := by decide +kernel
theorem dX9_run_92 : decode (m_code mX9_run) 92 = .ok (.iload_n 2, 1) := by decide +kernel
theorem dX9_run_93 : decode (m_code mX9_run) 93 = .ok (.ireturn, 1) := by decide +kernel
theorem dX9_node_0 : decode (m_code mX9_node) 0 = .ok (.aload_n 0, 1) := by decide +kernel
theorem dX9_node_1 : decode (m_code mX9_node) 1 = .ok (.getfield 12, 3) := by decide +kernel
theorem dX9_node_4 : decode (m_code mX9_node) 4 = .ok (.iload_n 1, 1) := by decide +kernel
theorem dX9_node_5 : decode (m_code mX9_node) 5 = .ok (.invokevirtual 44, 3) := by decide +kernel
theorem dX9_node_8 : decode (m_code mX9_node) 8 = .ok (.ifCond .eq 15, 3) := by decide +kernel
theorem dX9_node_11 : decode (m_code mX9_node) 11 = .ok (.aload_n 0, 1) := by decide +kernel
theorem dX9_node_12 : decode (m_code mX9_node) 12 = .ok (.getfield 12, 3) := by decide +kernel
theorem dX9_node_15 : decode (m_code mX9_node) 15 = .ok (.iload_n 1, 1) := by decide +kernel
theorem dX9_node_16 : decode (m_code mX9_node) 16 = .ok (.iload_n 2, 1) := by decide +kernel
theorem dX9_node_17 : decode (m_code mX9_node) 17 = .ok (.invokestatic 172, 3) := by decide +kernel
theorem dX9_node_20 : decode (m_code mX9_node) 20 = .ok (.goto 4, 3) := by decide +kernel
theorem dX9_node_23 : decode (m_code mX9_node) 23 = .ok (.iconst (-1), 1) := by decide +kernel
theorem dX9_node_24 : decode (m_code mX9_node) 24 = .ok (.ireturn, 1) := by decide +kernel
theorem dX9_log_0 : decode (m_code mX9_log) 0 = .ok (.aload_n 0, 1) := by decide +kernel
theorem dX9_log_1 : decode (m_code mX9_log) 1 = .ok (.getfield 12, 3) := by decide +kernel
theorem dX9_log_4 : decode (m_code mX9_log) 4 = .ok (.iload_n 1, 1) := by decide +kernel
theorem dX9_log_5 : decode (m_code mX9_log) 5 = .ok (.invokevirtual 44, 3) := by decide +kernel
theorem dX9_log_8 : decode (m_code mX9_log) 8 = .ok (.ifCond .eq 23, 3) := by decide +kernel
theorem dX9_log_11 : decode (m_code mX9_log) 11 = .ok (.iload_n 2, 1) := by decide +kernel
theorem dX9_log_12 : decode (m_code mX9_log) 12 = .ok (.ifCond .lt 19, 3) := by decide +kernel
theorem dX9_log_15 : decode (m_code mX9_log) 15 = .ok (.iload_n 2, 1) := by decide +kernel
theorem dX9_log_16 : decode (m_code mX9_log) 16 = .ok (.aload_n 0, 1) := by decide +kernel
theorem dX9_log_17 : decode (m_code mX9_log) 17 = .ok (.getfield 12, 3) := by decide +kernel
theorem dX9_log_20 : decode (m_code mX9_log) 20 = .ok (.getfield 48, 3) := by decide +kernel
theorem dX9_log_23 : decode (m_code mX9_log) 23 = .ok (.iload_n 1, 1) := by decide +kernel
theorem dX9_log_24 : decode (m_code mX9_log) 24 = .ok (.aaload, 1) := by decide +kernel
theorem dX9_log_25 : decode (m_code mX9_log) 25 = .ok (.getfield 176, 3) := by decide +kernel
theorem dX9_log_28 : decode (m_code mX9_log) 28 = .ok (.if_icmp .lt 5, 3) := by decide +kernel
theorem dX9_log_31 : decode (m_code mX9_log) 31 = .ok (.iconst (-1), 1) := by decide +kernel
theorem dX9_log_32 : decode (m_code mX9_log) 32 = .ok (.ireturn, 1) := by decide +kernel
theorem dX9_log_33 : decode (m_code mX9_log) 33 = .ok (.aload_n 0, 1) := by decide +kernel
theorem dX9_log_34 : decode (m_code mX9_log) 34 = .ok (.getfield 12, 3) := by decide +kernel
theorem dX9_log_37 : decode (m_code mX9_log) 37 = .ok (.getfield 48, 3) := by decide +kernel
theorem dX9_log_40 : decode (m_code mX9_log) 40 = .ok (.iload_n 1, 1) := by decide +kernel
theorem dX9_log_41 : decode (m_code mX9_log) 41 = .ok (.aaload, 1) := by decide +kernel
theorem dX9_log_42 : decode (m_code mX9_log) 42 = .ok (.getfield 179, 3) := by decide +kernel
theorem dX9_log_45 : decode (m_code mX9_log) 45 = .ok (.iload_n 2, 1) := by decide +kernel
theorem dX9_log_46 : decode (m_code mX9_log) 46 = .ok (.iaload, 1) := by decide +kernel
theorem dX9_log_47 : decode (m_code mX9_log) 47 = .ok (.ireturn, 1) := by decide +kernel
theorem dX9_block_0 : decode (m_code mX9_block) 0 = .ok (.aload_n 0, 1) := by decide +kernel
theorem dX9_block_1 : decode (m_code mX9_block) 1 = .ok (.getfield 12, 3) := by decide +kernel
theorem dX9_block_4 : decode (m_code mX9_block) 4 = .ok (.getfield 182, 3) := by decide +kernel
theorem dX9_block_7 : decode (m_code mX9_block) 7 = .ok (.iload_n 1, 1) := by decide +kernel
theorem dX9_block_8 : decode (m_code mX9_block) 8 = .ok (.invokevirtual 186, 3) := by decide +kernel
theorem dX9_block_11 : decode (m_code mX9_block) 11 = .ok (.ifCond .eq 18, 3) := by decide +kernel
theorem dX9_block_14 : decode (m_code mX9_block) 14 = .ok (.aload_n 0, 1) := by decide +kernel
theorem dX9_block_15 : decode (m_code mX9_block) 15 = .ok (.getfield 12, 3) := by decide +kernel
theorem dX9_block_18 : decode (m_code mX9_block) 18 = .ok (.getfield 182, 3) := by decide +kernel
theorem dX9_block_21 : decode (m_code mX9_block) 21 = .ok (.iload_n 1, 1) := by decide +kernel
theorem dX9_block_22 : decode (m_code mX9_block) 22 = .ok (.iload_n 2, 1) := by decide +kernel
theorem dX9_block_23 : decode (m_code mX9_block) 23 = .ok (.invokestatic 189, 3) := by decide +kernel
theorem dX9_block_26 : decode (m_code mX9_block) 26 = .ok (.goto 4, 3) := by decide +kernel
theorem dX9_block_29 : decode (m_code mX9_block) 29 = .ok (.iconst (-1), 1) := by decide +kernel
theorem dX9_block_30 : decode (m_code mX9_block) 30 = .ok (.ireturn, 1) := by decide +kernel
theorem dX9_marks_0 : decode (m_code mX9_marks) 0 = .ok (.aload_n 0, 1) := by decide +kernel
theorem dX9_marks_1 : decode (m_code mX9_marks) 1 = .ok (.iload_n 1, 1) := by decide +kernel
theorem dX9_marks_2 : decode (m_code mX9_marks) 2 = .ok (.iload_n 2, 1) := by decide +kernel
theorem dX9_marks_3 : decode (m_code mX9_marks) 3 = .ok (.invokevirtual 193, 3) := by decide +kernel
theorem dX9_marks_6 : decode (m_code mX9_marks) 6 = .ok (.ifCond .eq 23, 3) := by decide +kernel
theorem dX9_marks_9 : decode (m_code mX9_marks) 9 = .ok (.aload_n 0, 1) := by decide +kernel
theorem dX9_marks_10 : decode (m_code mX9_marks) 10 = .ok (.getfield 12, 3) := by decide +kernel
theorem dX9_marks_13 : decode (m_code mX9_marks) 13 = .ok (.getfield 48, 3) := by decide +kernel
theorem dX9_marks_16 : decode (m_code mX9_marks) 16 = .ok (.iload_n 1, 1) := by decide +kernel
theorem dX9_marks_17 : decode (m_code mX9_marks) 17 = .ok (.aaload, 1) := by decide +kernel
theorem dX9_marks_18 : decode (m_code mX9_marks) 18 = .ok (.getfield 197, 3) := by decide +kernel
theorem dX9_marks_21 : decode (m_code mX9_marks) 21 = .ok (.iload_n 2, 1) := by decide +kernel
theorem dX9_marks_22 : decode (m_code mX9_marks) 22 = .ok (.iaload, 1) := by decide +kernel
theorem dX9_marks_23 : decode (m_code mX9_marks) 23 = .ok (.invokestatic 200, 3) := by decide +kernel
theorem dX9_marks_26 : decode (m_code mX9_marks) 26 = .ok (.goto 4, 3) := by decide +kernel
theorem dX9_marks_29 : decode (m_code mX9_marks) 29 = .ok (.iconst (-1), 1) := by decide +kernel
theorem dX9_marks_30 : decode (m_code mX9_marks) 30 = .ok (.ireturn, 1) := by decide +kernel
theorem dX9_timeouts_0 : decode (m_code mX9_timeouts) 0 = .ok (.aload_n 0, 1) := by decide +kernel
theorem dX9_timeouts_1 : decode (m_code mX9_timeouts) 1 = .ok (.getfield 12, 3) := by decide +kernel
theorem dX9_timeouts_4 : decode (m_code mX9_timeouts) 4 = .ok (.iload_n 1, 1) := by decide +kernel
theorem dX9_timeouts_5 : decode (m_code mX9_timeouts) 5 = .ok (.invokevirtual 44, 3) := by decide +kernel
theorem dX9_timeouts_8 : decode (m_code mX9_timeouts) 8 = .ok (.ifCond .eq 15, 3) := by decide +kernel
theorem dX9_timeouts_11 : decode (m_code mX9_timeouts) 11 = .ok (.iload_n 2, 1) := by decide +kernel
theorem dX9_timeouts_12 : decode (m_code mX9_timeouts) 12 = .ok (.iconst 1, 1) := by decide +kernel
theorem dX9_timeouts_13 : decode (m_code mX9_timeouts) 13 = .ok (.if_icmp .lt 10, 3) := by decide +kernel
theorem dX9_timeouts_16 : decode (m_code mX9_timeouts) 16 = .ok (.iload_n 2, 1) := by decide +kernel
theorem dX9_timeouts_17 : decode (m_code mX9_timeouts) 17 = .ok (.sipush 200, 3) := by decide +kernel
theorem dX9_timeouts_20 : decode (m_code mX9_timeouts) 20 = .ok (.if_icmp .le 5, 3) := by decide +kernel
theorem dX9_timeouts_23 : decode (m_code mX9_timeouts) 23 = .ok (.iconst (-1), 1) := by decide +kernel
theorem dX9_timeouts_24 : decode (m_code mX9_timeouts) 24 = .ok (.ireturn, 1) := by decide +kernel
theorem dX9_timeouts_25 : decode (m_code mX9_timeouts) 25 = .ok (.aload_n 0, 1) := by decide +kernel
theorem dX9_timeouts_26 : decode (m_code mX9_timeouts) 26 = .ok (.getfield 12, 3) := by decide +kernel
theorem dX9_timeouts_29 : decode (m_code mX9_timeouts) 29 = .ok (.getfield 48, 3) := by decide +kernel
theorem dX9_timeouts_32 : decode (m_code mX9_timeouts) 32 = .ok (.iload_n 1, 1) := by decide +kernel
theorem dX9_timeouts_33 : decode (m_code mX9_timeouts) 33 = .ok (.aaload, 1) := by decide +kernel
theorem dX9_timeouts_34 : decode (m_code mX9_timeouts) 34 = .ok (.getfield 205, 3) := by decide +kernel
theorem dX9_timeouts_37 : decode (m_code mX9_timeouts) 37 = .ok (.iload_n 2, 1) := by decide +kernel
theorem dX9_timeouts_38 : decode (m_code mX9_timeouts) 38 = .ok (.iaload, 1) := by decide +kernel
theorem dX9_timeouts_39 : decode (m_code mX9_timeouts) 39 = .ok (.invokestatic 200, 3) := by decide +kernel
theorem dX9_timeouts_42 : decode (m_code mX9_timeouts) 42 = .ok (.ireturn, 1) := by decide +kernel
theorem dX9_message_0 : decode (m_code mX9_message) 0 = .ok (.aload_n 0, 1) := by decide +kernel
theorem dX9_message_1 : decode (m_code mX9_message) 1 = .ok (.getfield 12, 3) := by decide +kernel
theorem dX9_message_4 : decode (m_code mX9_message) 4 = .ok (.getfield 69, 3) := by decide +kernel
theorem dX9_message_7 : decode (m_code mX9_message) 7 = .ok (.iload_n 1, 1) := by decide +kernel
theorem dX9_message_8 : decode (m_code mX9_message) 8 = .ok (.invokevirtual 73, 3) := by decide +kernel
theorem dX9_message_11 : decode (m_code mX9_message) 11 = .ok (.ifCond .eq 21, 3) := by decide +kernel
theorem dX9_message_14 : decode (m_code mX9_message) 14 = .ok (.aload_n 0, 1) := by decide +kernel
theorem dX9_message_15 : decode (m_code mX9_message) 15 = .ok (.getfield 12, 3) := by decide +kernel
theorem dX9_message_18 : decode (m_code mX9_message) 18 = .ok (.getfield 69, 3) := by decide +kernel
theorem dX9_message_21 : decode (m_code mX9_message) 21 = .ok (.iload_n 1, 1) := by decide +kernel
theorem dX9_message_22 : decode (m_code mX9_message) 22 = .ok (.invokevirtual 78, 3) := by decide +kernel
theorem dX9_message_25 : decode (m_code mX9_message) 25 = .ok (.iload_n 2, 1) := by decide +kernel
theorem dX9_message_26 : decode (m_code mX9_message) 26 = .ok (.invokestatic 208, 3) := by decide +kernel
theorem dX9_message_29 : decode (m_code mX9_message) 29 = .ok (.goto 5, 3) := by decide +kernel
theorem dX9_message_32 : decode (m_code mX9_message) 32 = .ok (.bipush (-2), 2) := by decide +kernel
theorem dX9_message_34 : decode (m_code mX9_message) 34 = .ok (.ireturn, 1) := by decide +kernel
theorem dX9_evidence_0 : decode (m_code mX9_evidence) 0 = .ok (.aload_n 0, 1) := by decide +kernel
theorem dX9_evidence_1 : decode (m_code mX9_evidence) 1 = .ok (.getfield 12, 3) := by decide +kernel
theorem dX9_evidence_4 : decode (m_code mX9_evidence) 4 = .ok (.getfield 211, 3) := by decide +kernel
theorem dX9_evidence_7 : decode (m_code mX9_evidence) 7 = .ok (.iload_n 1, 1) := by decide +kernel
theorem dX9_evidence_8 : decode (m_code mX9_evidence) 8 = .ok (.iload_n 2, 1) := by decide +kernel
theorem dX9_evidence_9 : decode (m_code mX9_evidence) 9 = .ok (.iconst 5, 1) := by decide +kernel
theorem dX9_evidence_10 : decode (m_code mX9_evidence) 10 = .ok (.invokevirtual 215, 3) := by decide +kernel
theorem dX9_evidence_13 : decode (m_code mX9_evidence) 13 = .ok (.ireturn, 1) := by decide +kernel
theorem dX9_event_0 : decode (m_code mX9_event) 0 = .ok (.aload_n 0, 1) := by decide +kernel
theorem dX9_event_1 : decode (m_code mX9_event) 1 = .ok (.getfield 12, 3) := by decide +kernel
theorem dX9_event_4 : decode (m_code mX9_event) 4 = .ok (.getfield 220, 3) := by decide +kernel
theorem dX9_event_7 : decode (m_code mX9_event) 7 = .ok (.iload_n 1, 1) := by decide +kernel
theorem dX9_event_8 : decode (m_code mX9_event) 8 = .ok (.iload_n 2, 1) := by decide +kernel
theorem dX9_event_9 : decode (m_code mX9_event) 9 = .ok (.iconst 3, 1) := by decide +kernel
theorem dX9_event_10 : decode (m_code mX9_event) 10 = .ok (.invokevirtual 215, 3) := by decide +kernel
theorem dX9_event_13 : decode (m_code mX9_event) 13 = .ok (.ireturn, 1) := by decide +kernel
theorem dX9_ledger_0 : decode (m_code mX9_ledger) 0 = .ok (.iload_n 3, 1) := by decide +kernel
theorem dX9_ledger_1 : decode (m_code mX9_ledger) 1 = .ok (.ifCond .lt 8, 3) := by decide +kernel
theorem dX9_ledger_4 : decode (m_code mX9_ledger) 4 = .ok (.iload_n 3, 1) := by decide +kernel
theorem dX9_ledger_5 : decode (m_code mX9_ledger) 5 = .ok (.iconst 5, 1) := by decide +kernel
theorem dX9_ledger_6 : decode (m_code mX9_ledger) 6 = .ok (.if_icmp .lt 5, 3) := by decide +kernel
theorem dX9_ledger_9 : decode (m_code mX9_ledger) 9 = .ok (.iconst (-1), 1) := by decide +kernel
theorem dX9_ledger_10 : decode (m_code mX9_ledger) 10 = .ok (.ireturn, 1) := by decide +kernel
theorem dX9_ledger_11 : decode (m_code mX9_ledger) 11 = .ok (.iload_n 2, 1) := by decide +kernel
theorem dX9_ledger_12 : decode (m_code mX9_ledger) 12 = .ok (.ifCond .eq 38, 3) := by decide +kernel
theorem dX9_ledger_15 : decode (m_code mX9_ledger) 15 = .ok (.aload_n 0, 1) := by decide +kernel
theorem dX9_ledger_16 : decode (m_code mX9_ledger) 16 = .ok (.getfield 12, 3) := by decide +kernel
theorem dX9_ledger_19 : decode (m_code mX9_ledger) 19 = .ok (.getfield 182, 3) := by decide +kernel
theorem dX9_ledger_22 : decode (m_code mX9_ledger) 22 = .ok (.iload_n 1, 1) := by decide +kernel
theorem dX9_ledger_23 : decode (m_code mX9_ledger) 23 = .ok (.invokevirtual 186, 3) := by decide +kernel
theorem dX9_ledger_26 : decode (m_code mX9_ledger) 26 = .ok (.ifCond .eq 22, 3) := by decide +kernel
theorem dX9_ledger_29 : decode (m_code mX9_ledger) 29 = .ok (.aload_n 0, 1) := by decide +kernel
theorem dX9_ledger_30 : decode (m_code mX9_ledger) 30 = .ok (.getfield 26, 3) := by decide +kernel
theorem dX9_ledger_33 : decode (m_code mX9_ledger) 33 = .ok (.aload_n 0, 1) := by decide +kernel
theorem dX9_ledger_34 : decode (m_code mX9_ledger) 34 = .ok (.getfield 12, 3) := by decide +kernel
theorem dX9_ledger_37 : decode (m_code mX9_ledger) 37 = .ok (.getfield 182, 3) := by decide +kernel
theorem dX9_ledger_40 : decode (m_code mX9_ledger) 40 = .ok (.iload_n 1, 1) := by decide +kernel
theorem dX9_ledger_41 : decode (m_code mX9_ledger) 41 = .ok (.iload_n 3, 1) := by decide +kernel
theorem dX9_ledger_42 : decode (m_code mX9_ledger) 42 = .ok (.invokevirtual 223, 3) := by decide +kernel
theorem dX9_ledger_45 : decode (m_code mX9_ledger) 45 = .ok (.goto 4, 3) := by decide +kernel
theorem dX9_ledger_48 : decode (m_code mX9_ledger) 48 = .ok (.iconst (-1), 1) := by decide +kernel
theorem dX9_ledger_49 : decode (m_code mX9_ledger) 49 = .ok (.ireturn, 1) := by decide +kernel
theorem dX9_ledger_50 : decode (m_code mX9_ledger) 50 = .ok (.aload_n 0, 1) := by decide +kernel
theorem dX9_ledger_51 : decode (m_code mX9_ledger) 51 = .ok (.getfield 12, 3) := by decide +kernel
theorem dX9_ledger_54 : decode (m_code mX9_ledger) 54 = .ok (.iload_n 1, 1) := by decide +kernel
theorem dX9_ledger_55 : decode (m_code mX9_ledger) 55 = .ok (.invokevirtual 44, 3) := by decide +kernel
theorem dX9_ledger_58 : decode (m_code mX9_ledger) 58 = .ok (.ifCond .eq 33, 3) := by decide +kernel
theorem dX9_ledger_61 : decode (m_code mX9_ledger) 61 = .ok (.aload_n 0, 1) := by decide +kernel
theorem dX9_ledger_62 : decode (m_code mX9_ledger) 62 = .ok (.getfield 26, 3) := by decide +kernel
theorem dX9_ledger_65 : decode (m_code mX9_ledger) 65 = .ok (.aload_n 0, 1) := by decide +kernel
theorem dX9_ledger_66 : decode (m_code mX9_ledger) 66 = .ok (.getfield 12, 3) := by decide +kernel
theorem dX9_ledger_69 : decode (m_code mX9_ledger) 69 = .ok (.getfield 182, 3) := by decide +kernel
theorem dX9_ledger_72 : decode (m_code mX9_ledger) 72 = .ok (.aload_n 0, 1) := by decide +kernel
theorem dX9_ledger_73 : decode (m_code mX9_ledger) 73 = .ok (.getfield 12, 3) := by decide +kernel
theorem dX9_ledger_76 : decode (m_code mX9_ledger) 76 = .ok (.getfield 48, 3) := by decide +kernel
theorem dX9_ledger_79 : decode (m_code mX9_ledger) 79 = .ok (.iload_n 1, 1) := by decide +kernel
theorem dX9_ledger_80 : decode (m_code mX9_ledger) 80 = .ok (.aaload, 1) := by decide +kernel
theorem dX9_ledger_81 : decode (m_code mX9_ledger) 81 = .ok (.invokevirtual 226, 3) := by decide +kernel
theorem dX9_ledger_84 : decode (m_code mX9_ledger) 84 = .ok (.iload_n 3, 1) := by decide +kernel
theorem dX9_ledger_85 : decode (m_code mX9_ledger) 85 = .ok (.invokevirtual 223, 3) := by decide +kernel
theorem dX9_ledger_88 : decode (m_code mX9_ledger) 88 = .ok (.goto 4, 3) := by decide +kernel
theorem dX9_ledger_91 : decode (m_code mX9_ledger) 91 = .ok (.iconst (-1), 1) := by decide +kernel
theorem dX9_ledger_92 : decode (m_code mX9_ledger) 92 = .ok (.ireturn, 1) := by decide +kernel
theorem dX9_without_0 : decode (m_code mX9_without) 0 = .ok (.aload_n 0, 1) := by decide +kernel
theorem dX9_without_1 : decode (m_code mX9_without) 1 = .ok (.getfield 12, 3) := by decide +kernel
theorem dX9_without_4 : decode (m_code mX9_without) 4 = .ok (.iload_n 1, 1) := by decide +kernel
theorem dX9_without_5 : decode (m_code mX9_without) 5 = .ok (.invokevirtual 44, 3) := by decide +kernel
theorem dX9_without_8 : decode (m_code mX9_without) 8 = .ok (.ifCond .ne 5, 3) := by decide +kernel
theorem dX9_without_11 : decode (m_code mX9_without) 11 = .ok (.iconst (-1), 1) := by decide +kernel
theorem dX9_without_12 : decode (m_code mX9_without) 12 = .ok (.ireturn, 1) := by decide +kernel
theorem dX9_without_13 : decode (m_code mX9_without) 13 = .ok (.aload_n 0, 1) := by decide +kernel
theorem dX9_without_14 : decode (m_code mX9_without) 14 = .ok (.invokevirtual 229, 3) := by decide +kernel
theorem dX9_without_17 : decode (m_code mX9_without) 17 = .ok (.astore_n 2, 1) := by decide +kernel
theorem dX9_without_18 : decode (m_code mX9_without) 18 = .ok (.aload_n 2, 1) := by decide +kernel
theorem dX9_without_19 : decode (m_code mX9_without) 19 = .ok (.getfield 48, 3) := by decide +kernel
theorem dX9_without_22 : decode (m_code mX9_without) 22 = .ok (.iload_n 1, 1) := by decide +kernel
theorem dX9_without_23 : decode (m_code mX9_without) 23 = .ok (.aaload, 1) := by decide +kernel
theorem dX9_without_24 : decode (m_code mX9_without) 24 = .ok (.iconst 1, 1) := by decide +kernel
theorem dX9_without_25 : decode (m_code mX9_without) 25 = .ok (.putfield 52, 3) := by decide +kernel
theorem dX9_without_28 : decode (m_code mX9_without) 28 = .ok (.aload_n 2, 1) := by decide +kernel
theorem dX9_without_29 : decode (m_code mX9_without) 29 = .ok (.invokevirtual 233, 3) := by decide +kernel
theorem dX9_without_32 : decode (m_code mX9_without) 32 = .ok (.ireturn, 1) := by decide +kernel
theorem dX9_audit_0 : decode (m_code mX9_audit) 0 = .ok (.iload_n 1, 1) := by decide +kernel
theorem dX9_audit_1 : decode (m_code mX9_audit) 1 = .ok (.tableswitch 78 0 4 #[35, 46, 54, 62, 70], 35) := by decide +kernel
theorem dX9_audit_36 : decode (m_code mX9_audit) 36 = .ok (.aload_n 0, 1) := by decide +kernel
theorem dX9_audit_37 : decode (m_code mX9_audit) 37 = .ok (.getfield 12, 3) := by decide +kernel
theorem dX9_audit_40 : decode (m_code mX9_audit) 40 = .ok (.getfield 182, 3) := by decide +kernel
theorem dX9_audit_43 : decode (m_code mX9_audit) 43 = .ok (.invokestatic 236, 3) := by decide +kernel
theorem dX9_audit_46 : decode (m_code mX9_audit) 46 = .ok (.ireturn, 1) := by decide +kernel
theorem dX9_audit_47 : decode (m_code mX9_audit) 47 = .ok (.aload_n 0, 1) := by decide +kernel
theorem dX9_audit_48 : decode (m_code mX9_audit) 48 = .ok (.getfield 12, 3) := by decide +kernel
theorem dX9_audit_51 : decode (m_code mX9_audit) 51 = .ok (.invokestatic 240, 3) := by decide +kernel
theorem dX9_audit_54 : decode (m_code mX9_audit) 54 = .ok (.ireturn, 1) := by decide +kernel
theorem dX9_audit_55 : decode (m_code mX9_audit) 55 = .ok (.aload_n 0, 1) := by decide +kernel
theorem dX9_audit_56 : decode (m_code mX9_audit) 56 = .ok (.getfield 12, 3) := by decide +kernel
theorem dX9_audit_59 : decode (m_code mX9_audit) 59 = .ok (.invokestatic 244, 3) := by decide +kernel
theorem dX9_audit_62 : decode (m_code mX9_audit) 62 = .ok (.ireturn, 1) := by decide +kernel
theorem dX9_audit_63 : decode (m_code mX9_audit) 63 = .ok (.aload_n 0, 1) := by decide +kernel
theorem dX9_audit_64 : decode (m_code mX9_audit) 64 = .ok (.getfield 12, 3) := by decide +kernel
theorem dX9_audit_67 : decode (m_code mX9_audit) 67 = .ok (.invokestatic 247, 3) := by decide +kernel
theorem dX9_audit_70 : decode (m_code mX9_audit) 70 = .ok (.ireturn, 1) := by decide +kernel
theorem dX9_audit_71 : decode (m_code mX9_audit) 71 = .ok (.aload_n 0, 1) := by decide +kernel
theorem dX9_audit_72 : decode (m_code mX9_audit) 72 = .ok (.getfield 12, 3) := by decide +kernel
theorem dX9_audit_75 : decode (m_code mX9_audit) 75 = .ok (.invokestatic 250, 3) := by decide +kernel
theorem dX9_audit_78 : decode (m_code mX9_audit) 78 = .ok (.ireturn, 1) := by decide +kernel
theorem dX9_audit_79 : decode (m_code mX9_audit) 79 = .ok (.iconst (-1), 1) := by decide +kernel
theorem dX9_audit_80 : decode (m_code mX9_audit) 80 = .ok (.ireturn, 1) := by decide +kernel
theorem dX9_pending_0 : decode (m_code mX9_pending) 0 = .ok (.aload_n 0, 1) := by decide +kernel
theorem dX9_pending_1 : decode (m_code mX9_pending) 1 = .ok (.getfield 12, 3) := by decide +kernel
theorem dX9_pending_4 : decode (m_code mX9_pending) 4 = .ok (.iload_n 1, 1) := by decide +kernel
theorem dX9_pending_5 : decode (m_code mX9_pending) 5 = .ok (.invokevirtual 44, 3) := by decide +kernel
theorem dX9_pending_8 : decode (m_code mX9_pending) 8 = .ok (.ifCond .eq 12, 3) := by decide +kernel
theorem dX9_pending_11 : decode (m_code mX9_pending) 11 = .ok (.iload_n 2, 1) := by decide +kernel
theorem dX9_pending_12 : decode (m_code mX9_pending) 12 = .ok (.ifCond .lt 8, 3) := by decide +kernel
theorem dX9_pending_15 : decode (m_code mX9_pending) 15 = .ok (.iload_n 2, 1) := by decide +kernel
theorem dX9_pending_16 : decode (m_code mX9_pending) 16 = .ok (.iconst 3, 1) := by decide +kernel
theorem dX9_pending_17 : decode (m_code mX9_pending) 17 = .ok (.if_icmp .le 5, 3) := by decide +kernel
theorem dX9_pending_20 : decode (m_code mX9_pending) 20 = .ok (.iconst (-1), 1) := by decide +kernel
theorem dX9_pending_21 : decode (m_code mX9_pending) 21 = .ok (.ireturn, 1) := by decide +kernel
theorem dX9_pending_22 : decode (m_code mX9_pending) 22 = .ok (.aload_n 0, 1) := by decide +kernel
theorem dX9_pending_23 : decode (m_code mX9_pending) 23 = .ok (.getfield 12, 3) := by decide +kernel
theorem dX9_pending_26 : decode (m_code mX9_pending) 26 = .ok (.getfield 69, 3) := by decide +kernel
theorem dX9_pending_29 : decode (m_code mX9_pending) 29 = .ok (.iload_n 1, 1) := by decide +kernel
theorem dX9_pending_30 : decode (m_code mX9_pending) 30 = .ok (.iload_n 2, 1) := by decide +kernel
theorem dX9_pending_31 : decode (m_code mX9_pending) 31 = .ok (.invokevirtual 253, 3) := by decide +kernel
theorem dX9_pending_34 : decode (m_code mX9_pending) 34 = .ok (.ireturn, 1) := by decide +kernel
theorem dX9_path_0 : decode (m_code mX9_path) 0 = .ok (.aload_n 0, 1) := by decide +kernel
theorem dX9_path_1 : decode (m_code mX9_path) 1 = .ok (.getfield 12, 3) := by decide +kernel
theorem dX9_path_4 : decode (m_code mX9_path) 4 = .ok (.getfield 182, 3) := by decide +kernel
theorem dX9_path_7 : decode (m_code mX9_path) 7 = .ok (.iload_n 1, 1) := by decide +kernel
theorem dX9_path_8 : decode (m_code mX9_path) 8 = .ok (.invokevirtual 186, 3) := by decide +kernel
theorem dX9_path_11 : decode (m_code mX9_path) 11 = .ok (.ifCond .eq 23, 3) := by decide +kernel
theorem dX9_path_14 : decode (m_code mX9_path) 14 = .ok (.iload_n 2, 1) := by decide +kernel
theorem dX9_path_15 : decode (m_code mX9_path) 15 = .ok (.ifCond .lt 19, 3) := by decide +kernel
theorem dX9_path_18 : decode (m_code mX9_path) 18 = .ok (.iload_n 2, 1) := by decide +kernel
theorem dX9_path_19 : decode (m_code mX9_path) 19 = .ok (.aload_n 0, 1) := by decide +kernel
theorem dX9_path_20 : decode (m_code mX9_path) 20 = .ok (.getfield 12, 3) := by decide +kernel
theorem dX9_path_23 : decode (m_code mX9_path) 23 = .ok (.getfield 182, 3) := by decide +kernel
theorem dX9_path_26 : decode (m_code mX9_path) 26 = .ok (.getfield 256, 3) := by decide +kernel
theorem dX9_path_29 : decode (m_code mX9_path) 29 = .ok (.iload_n 1, 1) := by decide +kernel
theorem dX9_path_30 : decode (m_code mX9_path) 30 = .ok (.iaload, 1) := by decide +kernel
theorem dX9_path_31 : decode (m_code mX9_path) 31 = .ok (.if_icmp .le 5, 3) := by decide +kernel
theorem dX9_path_34 : decode (m_code mX9_path) 34 = .ok (.iconst (-1), 1) := by decide +kernel
theorem dX9_path_35 : decode (m_code mX9_path) 35 = .ok (.ireturn, 1) := by decide +kernel
theorem dX9_path_36 : decode (m_code mX9_path) 36 = .ok (.aload_n 0, 1) := by decide +kernel
theorem dX9_path_37 : decode (m_code mX9_path) 37 = .ok (.getfield 12, 3) := by decide +kernel
theorem dX9_path_40 : decode (m_code mX9_path) 40 = .ok (.getfield 182, 3) := by decide +kernel
theorem dX9_path_43 : decode (m_code mX9_path) 43 = .ok (.iload_n 1, 1) := by decide +kernel
theorem dX9_path_44 : decode (m_code mX9_path) 44 = .ok (.iload_n 2, 1) := by decide +kernel
theorem dX9_path_45 : decode (m_code mX9_path) 45 = .ok (.invokevirtual 259, 3) := by decide +kernel
theorem dX9_path_48 : decode (m_code mX9_path) 48 = .ok (.ireturn, 1) := by decide +kernel
theorem dX9_markers_0 : decode (m_code mX9_markers) 0 = .ok (.aload_n 0, 1) := by decide +kernel
theorem dX9_markers_1 : decode (m_code mX9_markers) 1 = .ok (.iload_n 1, 1) := by decide +kernel
theorem dX9_markers_2 : decode (m_code mX9_markers) 2 = .ok (.iload_n 2, 1) := by decide +kernel
theorem dX9_markers_3 : decode (m_code mX9_markers) 3 = .ok (.invokevirtual 193, 3) := by decide +kernel
theorem dX9_markers_6 : decode (m_code mX9_markers) 6 = .ok (.ifCond .eq 20, 3) := by decide +kernel
theorem dX9_markers_9 : decode (m_code mX9_markers) 9 = .ok (.aload_n 0, 1) := by decide +kernel
theorem dX9_markers_10 : decode (m_code mX9_markers) 10 = .ok (.getfield 12, 3) := by decide +kernel
theorem dX9_markers_13 : decode (m_code mX9_markers) 13 = .ok (.getfield 48, 3) := by decide +kernel
theorem dX9_markers_16 : decode (m_code mX9_markers) 16 = .ok (.iload_n 1, 1) := by decide +kernel
theorem dX9_markers_17 : decode (m_code mX9_markers) 17 = .ok (.aaload, 1) := by decide +kernel
theorem dX9_markers_18 : decode (m_code mX9_markers) 18 = .ok (.getfield 197, 3) := by decide +kernel
theorem dX9_markers_21 : decode (m_code mX9_markers) 21 = .ok (.iload_n 2, 1) := by decide +kernel
theorem dX9_markers_22 : decode (m_code mX9_markers) 22 = .ok (.iaload, 1) := by decide +kernel
theorem dX9_markers_23 : decode (m_code mX9_markers) 23 = .ok (.goto 4, 3) := by decide +kernel
theorem dX9_markers_26 : decode (m_code mX9_markers) 26 = .ok (.iconst (-1), 1) := by decide +kernel
theorem dX9_markers_27 : decode (m_code mX9_markers) 27 = .ok (.ireturn, 1) := by decide +kernel
theorem dX9_best_0 : decode (m_code mX9_best) 0 = .ok (.iload_n 1, 1) := by decide +kernel
theorem dX9_best_1 : decode (m_code mX9_best) 1 = .ok (.tableswitch 66 0 3 #[31, 42, 50, 58], 31) := by decide +kernel
theorem dX9_best_32 : decode (m_code mX9_best) 32 = .ok (.aload_n 0, 1) := by decide +kernel
theorem dX9_best_33 : decode (m_code mX9_best) 33 = .ok (.getfield 12, 3) := by decide +kernel
theorem dX9_best_36 : decode (m_code mX9_best) 36 = .ok (.getfield 182, 3) := by decide +kernel
theorem dX9_best_39 : decode (m_code mX9_best) 39 = .ok (.invokestatic 262, 3) := by decide +kernel
theorem dX9_best_42 : decode (m_code mX9_best) 42 = .ok (.ireturn, 1) := by decide +kernel
theorem dX9_best_43 : decode (m_code mX9_best) 43 = .ok (.aload_n 0, 1) := by decide +kernel
theorem dX9_best_44 : decode (m_code mX9_best) 44 = .ok (.getfield 12, 3) := by decide +kernel
theorem dX9_best_47 : decode (m_code mX9_best) 47 = .ok (.invokestatic 265, 3) := by decide +kernel
theorem dX9_best_50 : decode (m_code mX9_best) 50 = .ok (.ireturn, 1) := by decide +kernel
theorem dX9_best_51 : decode (m_code mX9_best) 51 = .ok (.aload_n 0, 1) := by decide +kernel
theorem dX9_best_52 : decode (m_code mX9_best) 52 = .ok (.getfield 12, 3) := by decide +kernel
theorem dX9_best_55 : decode (m_code mX9_best) 55 = .ok (.invokestatic 268, 3) := by decide +kernel
theorem dX9_best_58 : decode (m_code mX9_best) 58 = .ok (.ireturn, 1) := by decide +kernel
theorem dX9_best_59 : decode (m_code mX9_best) 59 = .ok (.aload_n 0, 1) := by decide +kernel
theorem dX9_best_60 : decode (m_code mX9_best) 60 = .ok (.getfield 12, 3) := by decide +kernel
theorem dX9_best_63 : decode (m_code mX9_best) 63 = .ok (.invokestatic 271, 3) := by decide +kernel
theorem dX9_best_66 : decode (m_code mX9_best) 66 = .ok (.ireturn, 1) := by decide +kernel
theorem dX9_best_67 : decode (m_code mX9_best) 67 = .ok (.iconst (-1), 1) := by decide +kernel
theorem dX9_best_68 : decode (m_code mX9_best) 68 = .ok (.ireturn, 1) := by decide +kernel
theorem dX9_soon_0 : decode (m_code mX9_soon) 0 = .ok (.aload_n 0, 1) := by decide +kernel
theorem dX9_soon_1 : decode (m_code mX9_soon) 1 = .ok (.invokevirtual 229, 3) := by decide +kernel
theorem dX9_soon_4 : decode (m_code mX9_soon) 4 = .ok (.invokevirtual 233, 3) := by decide +kernel
theorem dX9_soon_7 : decode (m_code mX9_soon) 7 = .ok (.ireturn, 1) := by decide +kernel
theorem dX9_two_0 : decode (m_code mX9_two) 0 = .ok (.aload_n 0, 1) := by decide +kernel
theorem dX9_two_1 : decode (m_code mX9_two) 1 = .ok (.getfield 12, 3) := by decide +kernel
theorem dX9_two_4 : decode (m_code mX9_two) 4 = .ok (.getfield 182, 3) := by decide +kernel
theorem dX9_two_7 : decode (m_code mX9_two) 7 = .ok (.iload_n 1, 1) := by decide +kernel
theorem dX9_two_8 : decode (m_code mX9_two) 8 = .ok (.invokevirtual 186, 3) := by decide +kernel
theorem dX9_two_11 : decode (m_code mX9_two) 11 = .ok (.ifCond .eq 17, 3) := by decide +kernel
theorem dX9_two_14 : decode (m_code mX9_two) 14 = .ok (.aload_n 0, 1) := by decide +kernel
theorem dX9_two_15 : decode (m_code mX9_two) 15 = .ok (.getfield 12, 3) := by decide +kernel
theorem dX9_two_18 : decode (m_code mX9_two) 18 = .ok (.getfield 182, 3) := by decide +kernel
theorem dX9_two_21 : decode (m_code mX9_two) 21 = .ok (.iload_n 2, 1) := by decide +kernel
theorem dX9_two_22 : decode (m_code mX9_two) 22 = .ok (.invokevirtual 186, 3) := by decide +kernel
theorem dX9_two_25 : decode (m_code mX9_two) 25 = .ok (.ifCond .ne 5, 3) := by decide +kernel
theorem dX9_two_28 : decode (m_code mX9_two) 28 = .ok (.iconst (-1), 1) := by decide +kernel
theorem dX9_two_29 : decode (m_code mX9_two) 29 = .ok (.ireturn, 1) := by decide +kernel
theorem dX9_two_30 : decode (m_code mX9_two) 30 = .ok (.iload_n 3, 1) := by decide +kernel
theorem dX9_two_31 : decode (m_code mX9_two) 31 = .ok (.lookupswitch 54 #[(0, 25), (1, 41)], 25) := by decide +kernel
theorem dX9_two_56 : decode (m_code mX9_two) 56 = .ok (.aload_n 0, 1) := by decide +kernel
theorem dX9_two_57 : decode (m_code mX9_two) 57 = .ok (.getfield 12, 3) := by decide +kernel
theorem dX9_two_60 : decode (m_code mX9_two) 60 = .ok (.getfield 182, 3) := by decide +kernel
theorem dX9_two_63 : decode (m_code mX9_two) 63 = .ok (.iload_n 1, 1) := by decide +kernel
theorem dX9_two_64 : decode (m_code mX9_two) 64 = .ok (.iload_n 2, 1) := by decide +kernel
theorem dX9_two_65 : decode (m_code mX9_two) 65 = .ok (.invokevirtual 274, 3) := by decide +kernel
theorem dX9_two_68 : decode (m_code mX9_two) 68 = .ok (.invokestatic 277, 3) := by decide +kernel
theorem dX9_two_71 : decode (m_code mX9_two) 71 = .ok (.ireturn, 1) := by decide +kernel
theorem dX9_two_72 : decode (m_code mX9_two) 72 = .ok (.aload_n 0, 1) := by decide +kernel
theorem dX9_two_73 : decode (m_code mX9_two) 73 = .ok (.getfield 12, 3) := by decide +kernel
theorem dX9_two_76 : decode (m_code mX9_two) 76 = .ok (.getfield 182, 3) := by decide +kernel
theorem dX9_two_79 : decode (m_code mX9_two) 79 = .ok (.iload_n 1, 1) := by decide +kernel
theorem dX9_two_80 : decode (m_code mX9_two) 80 = .ok (.iload_n 2, 1) := by decide +kernel
theorem dX9_two_81 : decode (m_code mX9_two) 81 = .ok (.invokevirtual 281, 3) := by decide +kernel
theorem dX9_two_84 : decode (m_code mX9_two) 84 = .ok (.ireturn, 1) := by decide +kernel
theorem dX9_two_85 : decode (m_code mX9_two) 85 = .ok (.iconst (-1), 1) := by decide +kernel
theorem dX9_two_86 : decode (m_code mX9_two) 86 = .ok (.ireturn, 1) := by decide +kernel
theorem dX9_would_0 : decode (m_code mX9_would) 0 = .ok (.aload_n 0, 1) := by decide +kernel
theorem dX9_would_1 : decode (m_code mX9_would) 1 = .ok (.iload_n 1, 1) := by decide +kernel
theorem dX9_would_2 : decode (m_code mX9_would) 2 = .ok (.iload_n 2, 1) := by decide +kernel
theorem dX9_would_3 : decode (m_code mX9_would) 3 = .ok (.invokevirtual 193, 3) := by decide +kernel
theorem dX9_would_6 : decode (m_code mX9_would) 6 = .ok (.ifCond .eq 7, 3) := by decide +kernel
theorem dX9_would_9 : decode (m_code mX9_would) 9 = .ok (.iload_n 2, 1) := by decide +kernel
theorem dX9_would_10 : decode (m_code mX9_would) 10 = .ok (.ifCond .ne 5, 3) := by decide +kernel
theorem dX9_would_13 : decode (m_code mX9_would) 13 = .ok (.iconst (-1), 1) := by decide +kernel
theorem dX9_would_14 : decode (m_code mX9_would) 14 = .ok (.ireturn, 1) := by decide +kernel
theorem dX9_would_15 : decode (m_code mX9_would) 15 = .ok (.aload_n 0, 1) := by decide +kernel
theorem dX9_would_16 : decode (m_code mX9_would) 16 = .ok (.getfield 12, 3) := by decide +kernel
theorem dX9_would_19 : decode (m_code mX9_would) 19 = .ok (.aload_n 0, 1) := by decide +kernel
theorem dX9_would_20 : decode (m_code mX9_would) 20 = .ok (.getfield 12, 3) := by decide +kernel
theorem dX9_would_23 : decode (m_code mX9_would) 23 = .ok (.getfield 48, 3) := by decide +kernel
theorem dX9_would_26 : decode (m_code mX9_would) 26 = .ok (.iload_n 1, 1) := by decide +kernel
theorem dX9_would_27 : decode (m_code mX9_would) 27 = .ok (.aaload, 1) := by decide +kernel
theorem dX9_would_28 : decode (m_code mX9_would) 28 = .ok (.iload_n 2, 1) := by decide +kernel
theorem dX9_would_29 : decode (m_code mX9_would) 29 = .ok (.invokevirtual 284, 3) := by decide +kernel
theorem dX9_would_32 : decode (m_code mX9_would) 32 = .ok (.invokestatic 277, 3) := by decide +kernel
theorem dX9_would_35 : decode (m_code mX9_would) 35 = .ok (.ireturn, 1) := by decide +kernel
theorem dX9_chain_0 : decode (m_code mX9_chain) 0 = .ok (.aload_n 0, 1) := by decide +kernel
theorem dX9_chain_1 : decode (m_code mX9_chain) 1 = .ok (.getfield 12, 3) := by decide +kernel
theorem dX9_chain_4 : decode (m_code mX9_chain) 4 = .ok (.getfield 182, 3) := by decide +kernel
theorem dX9_chain_7 : decode (m_code mX9_chain) 7 = .ok (.iload_n 1, 1) := by decide +kernel
theorem dX9_chain_8 : decode (m_code mX9_chain) 8 = .ok (.invokevirtual 186, 3) := by decide +kernel
theorem dX9_chain_11 : decode (m_code mX9_chain) 11 = .ok (.ifCond .eq 15, 3) := by decide +kernel
theorem dX9_chain_14 : decode (m_code mX9_chain) 14 = .ok (.aload_n 0, 1) := by decide +kernel
theorem dX9_chain_15 : decode (m_code mX9_chain) 15 = .ok (.getfield 12, 3) := by decide +kernel
theorem dX9_chain_18 : decode (m_code mX9_chain) 18 = .ok (.iload_n 1, 1) := by decide +kernel
theorem dX9_chain_19 : decode (m_code mX9_chain) 19 = .ok (.iload_n 2, 1) := by decide +kernel
theorem dX9_chain_20 : decode (m_code mX9_chain) 20 = .ok (.invokestatic 288, 3) := by decide +kernel
theorem dX9_chain_23 : decode (m_code mX9_chain) 23 = .ok (.goto 4, 3) := by decide +kernel
theorem dX9_chain_26 : decode (m_code mX9_chain) 26 = .ok (.iconst (-1), 1) := by decide +kernel
theorem dX9_chain_27 : decode (m_code mX9_chain) 27 = .ok (.ireturn, 1) := by decide +kernel
theorem dX9_image_0 : decode (m_code mX9_image) 0 = .ok (.iload_n 1, 1) := by decide +kernel
theorem dX9_image_1 : decode (m_code mX9_image) 1 = .ok (.ifCond .eq 34, 3) := by decide +kernel
theorem dX9_image_4 : decode (m_code mX9_image) 4 = .ok (.aload_n 0, 1) := by decide +kernel
theorem dX9_image_5 : decode (m_code mX9_image) 5 = .ok (.getfield 30, 3) := by decide +kernel
theorem dX9_image_8 : decode (m_code mX9_image) 8 = .ok (.ifnonnull 14, 3) := by decide +kernel
theorem dX9_image_11 : decode (m_code mX9_image) 11 = .ok (.aload_n 0, 1) := by decide +kernel
theorem dX9_image_12 : decode (m_code mX9_image) 12 = .ok (.new 9, 3) := by decide +kernel
theorem dX9_image_15 : decode (m_code mX9_image) 15 = .ok (.dup, 1) := by decide +kernel
theorem dX9_image_16 : decode (m_code mX9_image) 16 = .ok (.invokespecial 11, 3) := by decide +kernel
theorem dX9_image_19 : decode (m_code mX9_image) 19 = .ok (.putfield 30, 3) := by decide +kernel
theorem dX9_image_22 : decode (m_code mX9_image) 22 = .ok (.aload_n 0, 1) := by decide +kernel
theorem dX9_image_23 : decode (m_code mX9_image) 23 = .ok (.getfield 30, 3) := by decide +kernel
theorem dX9_image_26 : decode (m_code mX9_image) 26 = .ok (.aload_n 0, 1) := by decide +kernel
theorem dX9_image_27 : decode (m_code mX9_image) 27 = .ok (.getfield 12, 3) := by decide +kernel
theorem dX9_image_30 : decode (m_code mX9_image) 30 = .ok (.invokevirtual 291, 3) := by decide +kernel
theorem dX9_image_33 : decode (m_code mX9_image) 33 = .ok (.iconst 1, 1) := by decide +kernel
theorem dX9_image_34 : decode (m_code mX9_image) 34 = .ok (.ireturn, 1) := by decide +kernel
theorem dX9_image_35 : decode (m_code mX9_image) 35 = .ok (.aload_n 0, 1) := by decide +kernel
theorem dX9_image_36 : decode (m_code mX9_image) 36 = .ok (.getfield 30, 3) := by decide +kernel
theorem dX9_image_39 : decode (m_code mX9_image) 39 = .ok (.ifnonnull 5, 3) := by decide +kernel
theorem dX9_image_42 : decode (m_code mX9_image) 42 = .ok (.iconst 0, 1) := by decide +kernel
theorem dX9_image_43 : decode (m_code mX9_image) 43 = .ok (.ireturn, 1) := by decide +kernel
theorem dX9_image_44 : decode (m_code mX9_image) 44 = .ok (.aload_n 0, 1) := by decide +kernel
theorem dX9_image_45 : decode (m_code mX9_image) 45 = .ok (.getfield 12, 3) := by decide +kernel
theorem dX9_image_48 : decode (m_code mX9_image) 48 = .ok (.aload_n 0, 1) := by decide +kernel
theorem dX9_image_49 : decode (m_code mX9_image) 49 = .ok (.getfield 30, 3) := by decide +kernel
theorem dX9_image_52 : decode (m_code mX9_image) 52 = .ok (.invokevirtual 291, 3) := by decide +kernel
theorem dX9_image_55 : decode (m_code mX9_image) 55 = .ok (.iconst 1, 1) := by decide +kernel
theorem dX9_image_56 : decode (m_code mX9_image) 56 = .ok (.ireturn, 1) := by decide +kernel
theorem dX9_look_0 : decode (m_code mX9_look) 0 = .ok (.aload_n 0, 1) := by decide +kernel
theorem dX9_look_1 : decode (m_code mX9_look) 1 = .ok (.getfield 12, 3) := by decide +kernel
theorem dX9_look_4 : decode (m_code mX9_look) 4 = .ok (.iload_n 1, 1) := by decide +kernel
theorem dX9_look_5 : decode (m_code mX9_look) 5 = .ok (.invokestatic 294, 3) := by decide +kernel
theorem dX9_look_8 : decode (m_code mX9_look) 8 = .ok (.ireturn, 1) := by decide +kernel
theorem dX9_hasBoth_0 : decode (m_code mX9_hasBoth) 0 = .ok (.aload_n 0, 1) := by decide +kernel
theorem dX9_hasBoth_1 : decode (m_code mX9_hasBoth) 1 = .ok (.getfield 12, 3) := by decide +kernel
theorem dX9_hasBoth_4 : decode (m_code mX9_hasBoth) 4 = .ok (.iload_n 1, 1) := by decide +kernel
theorem dX9_hasBoth_5 : decode (m_code mX9_hasBoth) 5 = .ok (.invokevirtual 44, 3) := by decide +kernel
theorem dX9_hasBoth_8 : decode (m_code mX9_hasBoth) 8 = .ok (.ifCond .eq 21, 3) := by decide +kernel
theorem dX9_hasBoth_11 : decode (m_code mX9_hasBoth) 11 = .ok (.aload_n 0, 1) := by decide +kernel
theorem dX9_hasBoth_12 : decode (m_code mX9_hasBoth) 12 = .ok (.getfield 12, 3) := by decide +kernel
theorem dX9_hasBoth_15 : decode (m_code mX9_hasBoth) 15 = .ok (.getfield 182, 3) := by decide +kernel
theorem dX9_hasBoth_18 : decode (m_code mX9_hasBoth) 18 = .ok (.iload_n 2, 1) := by decide +kernel
theorem dX9_hasBoth_19 : decode (m_code mX9_hasBoth) 19 = .ok (.invokevirtual 186, 3) := by decide +kernel
theorem dX9_hasBoth_22 : decode (m_code mX9_hasBoth) 22 = .ok (.ifCond .eq 7, 3) := by decide +kernel
theorem dX9_hasBoth_25 : decode (m_code mX9_hasBoth) 25 = .ok (.iconst 1, 1) := by decide +kernel
theorem dX9_hasBoth_26 : decode (m_code mX9_hasBoth) 26 = .ok (.goto 4, 3) := by decide +kernel
theorem dX9_hasBoth_29 : decode (m_code mX9_hasBoth) 29 = .ok (.iconst 0, 1) := by decide +kernel
theorem dX9_hasBoth_30 : decode (m_code mX9_hasBoth) 30 = .ok (.ireturn, 1) := by decide +kernel
theorem dX9_imagine_0 : decode (m_code mX9_imagine) 0 = .ok (.aload_n 0, 1) := by decide +kernel
theorem dX9_imagine_1 : decode (m_code mX9_imagine) 1 = .ok (.getfield 33, 3) := by decide +kernel
theorem dX9_imagine_4 : decode (m_code mX9_imagine) 4 = .ok (.ifnonnull 14, 3) := by decide +kernel
theorem dX9_imagine_7 : decode (m_code mX9_imagine) 7 = .ok (.aload_n 0, 1) := by decide +kernel
theorem dX9_imagine_8 : decode (m_code mX9_imagine) 8 = .ok (.new 9, 3) := by decide +kernel
theorem dX9_imagine_11 : decode (m_code mX9_imagine) 11 = .ok (.dup, 1) := by decide +kernel
theorem dX9_imagine_12 : decode (m_code mX9_imagine) 12 = .ok (.invokespecial 11, 3) := by decide +kernel
theorem dX9_imagine_15 : decode (m_code mX9_imagine) 15 = .ok (.putfield 33, 3) := by decide +kernel
theorem dX9_imagine_18 : decode (m_code mX9_imagine) 18 = .ok (.aload_n 0, 1) := by decide +kernel
theorem dX9_imagine_19 : decode (m_code mX9_imagine) 19 = .ok (.getfield 33, 3) := by decide +kernel
theorem dX9_imagine_22 : decode (m_code mX9_imagine) 22 = .ok (.aload_n 0, 1) := by decide +kernel
theorem dX9_imagine_23 : decode (m_code mX9_imagine) 23 = .ok (.getfield 12, 3) := by decide +kernel
theorem dX9_imagine_26 : decode (m_code mX9_imagine) 26 = .ok (.invokevirtual 291, 3) := by decide +kernel
theorem dX9_imagine_29 : decode (m_code mX9_imagine) 29 = .ok (.aload_n 0, 1) := by decide +kernel
theorem dX9_imagine_30 : decode (m_code mX9_imagine) 30 = .ok (.getfield 33, 3) := by decide +kernel
theorem dX9_imagine_33 : decode (m_code mX9_imagine) 33 = .ok (.areturn, 1) := by decide +kernel
