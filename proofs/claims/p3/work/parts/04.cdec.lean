theorem d_B_size_0 : decode prog_2_method_2_code 0 = .ok (.aload_n 0, 1) := by decide +kernel
theorem d_B_size_1 : decode prog_2_method_2_code 1 = .ok (.getfield 15, 3) := by decide +kernel
theorem d_B_size_4 : decode prog_2_method_2_code 4 = .ok (.ireturn, 1) := by decide +kernel
theorem d_B_clear_0 : decode prog_2_method_3_code 0 = .ok (.aload_n 0, 1) := by decide +kernel
theorem d_B_clear_1 : decode prog_2_method_3_code 1 = .ok (.iconst 0, 1) := by decide +kernel
theorem d_B_clear_2 : decode prog_2_method_3_code 2 = .ok (.putfield 15, 3) := by decide +kernel
theorem d_B_clear_5 : decode prog_2_method_3_code 5 = .ok (.return_, 1) := by decide +kernel
theorem d_B_add_0 : decode prog_2_method_4_code 0 = .ok (.aload_n 0, 1) := by decide +kernel
theorem d_B_add_1 : decode prog_2_method_4_code 1 = .ok (.getfield 15, 3) := by decide +kernel
theorem d_B_add_4 : decode prog_2_method_4_code 4 = .ok (.ifCond .lt 36, 3) := by decide +kernel
theorem d_B_add_7 : decode prog_2_method_4_code 7 = .ok (.aload_n 0, 1) := by decide +kernel
theorem d_B_add_8 : decode prog_2_method_4_code 8 = .ok (.getfield 15, 3) := by decide +kernel
theorem d_B_add_11 : decode prog_2_method_4_code 11 = .ok (.aload_n 0, 1) := by decide +kernel
theorem d_B_add_12 : decode prog_2_method_4_code 12 = .ok (.getfield 9, 3) := by decide +kernel
theorem d_B_add_15 : decode prog_2_method_4_code 15 = .ok (.arraylength, 1) := by decide +kernel
theorem d_B_add_16 : decode prog_2_method_4_code 16 = .ok (.if_icmp .ge 24, 3) := by decide +kernel
theorem d_B_add_19 : decode prog_2_method_4_code 19 = .ok (.aload_n 0, 1) := by decide +kernel
theorem d_B_add_20 : decode prog_2_method_4_code 20 = .ok (.getfield 9, 3) := by decide +kernel
theorem d_B_add_23 : decode prog_2_method_4_code 23 = .ok (.aload_n 0, 1) := by decide +kernel
theorem d_B_add_24 : decode prog_2_method_4_code 24 = .ok (.getfield 15, 3) := by decide +kernel
theorem d_B_add_27 : decode prog_2_method_4_code 27 = .ok (.iload_n 1, 1) := by decide +kernel
theorem d_B_add_28 : decode prog_2_method_4_code 28 = .ok (.i2b, 1) := by decide +kernel
theorem d_B_add_29 : decode prog_2_method_4_code 29 = .ok (.bastore, 1) := by decide +kernel
theorem d_B_add_30 : decode prog_2_method_4_code 30 = .ok (.aload_n 0, 1) := by decide +kernel
theorem d_B_add_31 : decode prog_2_method_4_code 31 = .ok (.dup, 1) := by decide +kernel
theorem d_B_add_32 : decode prog_2_method_4_code 32 = .ok (.getfield 15, 3) := by decide +kernel
theorem d_B_add_35 : decode prog_2_method_4_code 35 = .ok (.iconst 1, 1) := by decide +kernel
theorem d_B_add_36 : decode prog_2_method_4_code 36 = .ok (.iadd, 1) := by decide +kernel
theorem d_B_add_37 : decode prog_2_method_4_code 37 = .ok (.putfield 15, 3) := by decide +kernel
theorem d_B_add_40 : decode prog_2_method_4_code 40 = .ok (.return_, 1) := by decide +kernel
theorem d_B_at_0 : decode prog_2_method_5_code 0 = .ok (.iload_n 1, 1) := by decide +kernel
theorem d_B_at_1 : decode prog_2_method_5_code 1 = .ok (.ifCond .lt 33, 3) := by decide +kernel
theorem d_B_at_4 : decode prog_2_method_5_code 4 = .ok (.iload_n 1, 1) := by decide +kernel
theorem d_B_at_5 : decode prog_2_method_5_code 5 = .ok (.aload_n 0, 1) := by decide +kernel
theorem d_B_at_6 : decode prog_2_method_5_code 6 = .ok (.getfield 15, 3) := by decide +kernel
theorem d_B_at_9 : decode prog_2_method_5_code 9 = .ok (.if_icmp .ge 25, 3) := by decide +kernel
theorem d_B_at_12 : decode prog_2_method_5_code 12 = .ok (.iload_n 1, 1) := by decide +kernel
theorem d_B_at_13 : decode prog_2_method_5_code 13 = .ok (.aload_n 0, 1) := by decide +kernel
theorem d_B_at_14 : decode prog_2_method_5_code 14 = .ok (.getfield 9, 3) := by decide +kernel
theorem d_B_at_17 : decode prog_2_method_5_code 17 = .ok (.arraylength, 1) := by decide +kernel
theorem d_B_at_18 : decode prog_2_method_5_code 18 = .ok (.if_icmp .ge 16, 3) := by decide +kernel
theorem d_B_at_21 : decode prog_2_method_5_code 21 = .ok (.aload_n 0, 1) := by decide +kernel
theorem d_B_at_22 : decode prog_2_method_5_code 22 = .ok (.getfield 9, 3) := by decide +kernel
theorem d_B_at_25 : decode prog_2_method_5_code 25 = .ok (.iload_n 1, 1) := by decide +kernel
theorem d_B_at_26 : decode prog_2_method_5_code 26 = .ok (.baload, 1) := by decide +kernel
theorem d_B_at_27 : decode prog_2_method_5_code 27 = .ok (.sipush 255, 3) := by decide +kernel
theorem d_B_at_30 : decode prog_2_method_5_code 30 = .ok (.iand, 1) := by decide +kernel
theorem d_B_at_31 : decode prog_2_method_5_code 31 = .ok (.goto 4, 3) := by decide +kernel
theorem d_B_at_34 : decode prog_2_method_5_code 34 = .ok (.iconst (-1), 1) := by decide +kernel
theorem d_B_at_35 : decode prog_2_method_5_code 35 = .ok (.ireturn, 1) := by decide +kernel
theorem d_D_most_0 : decode prog_3_method_2_code 0 = .ok (.aload_n 0, 1) := by decide +kernel
theorem d_D_most_1 : decode prog_3_method_2_code 1 = .ok (.getfield 26, 3) := by decide +kernel
theorem d_D_most_4 : decode prog_3_method_2_code 4 = .ok (.ireturn, 1) := by decide +kernel
theorem d_D_setMost_0 : decode prog_3_method_3_code 0 = .ok (.aload_n 0, 1) := by decide +kernel
theorem d_D_setMost_1 : decode prog_3_method_3_code 1 = .ok (.iload_n 1, 1) := by decide +kernel
theorem d_D_setMost_2 : decode prog_3_method_3_code 2 = .ok (.putfield 26, 3) := by decide +kernel
theorem d_D_setMost_5 : decode prog_3_method_3_code 5 = .ok (.return_, 1) := by decide +kernel
theorem d_D_latchBits_0 : decode prog_3_method_4_code 0 = .ok (.aload_n 0, 1) := by decide +kernel
theorem d_D_latchBits_1 : decode prog_3_method_4_code 1 = .ok (.getfield 30, 3) := by decide +kernel
theorem d_D_latchBits_4 : decode prog_3_method_4_code 4 = .ok (.ireturn, 1) := by decide +kernel
theorem d_D_many_0 : decode prog_3_method_5_code 0 = .ok (.iload_n 1, 1) := by decide +kernel
theorem d_D_many_1 : decode prog_3_method_5_code 1 = .ok (.tableswitch 75 0 7 #[47, 54, 61, 68, 54, 54, 68, 68], 47) := by decide +kernel
theorem d_D_many_48 : decode prog_3_method_5_code 48 = .ok (.aload_n 0, 1) := by decide +kernel
theorem d_D_many_49 : decode prog_3_method_5_code 49 = .ok (.getfield 16, 3) := by decide +kernel
theorem d_D_many_52 : decode prog_3_method_5_code 52 = .ok (.iconst 0, 1) := by decide +kernel
theorem d_D_many_53 : decode prog_3_method_5_code 53 = .ok (.iaload, 1) := by decide +kernel
theorem d_D_many_54 : decode prog_3_method_5_code 54 = .ok (.ireturn, 1) := by decide +kernel
theorem d_D_many_55 : decode prog_3_method_5_code 55 = .ok (.aload_n 0, 1) := by decide +kernel
theorem d_D_many_56 : decode prog_3_method_5_code 56 = .ok (.getfield 16, 3) := by decide +kernel
theorem d_D_many_59 : decode prog_3_method_5_code 59 = .ok (.iconst 1, 1) := by decide +kernel
theorem d_D_many_60 : decode prog_3_method_5_code 60 = .ok (.iaload, 1) := by decide +kernel
theorem d_D_many_61 : decode prog_3_method_5_code 61 = .ok (.ireturn, 1) := by decide +kernel
theorem d_D_many_62 : decode prog_3_method_5_code 62 = .ok (.aload_n 0, 1) := by decide +kernel
theorem d_D_many_63 : decode prog_3_method_5_code 63 = .ok (.getfield 16, 3) := by decide +kernel
theorem d_D_many_66 : decode prog_3_method_5_code 66 = .ok (.iconst 2, 1) := by decide +kernel
theorem d_D_many_67 : decode prog_3_method_5_code 67 = .ok (.iaload, 1) := by decide +kernel
theorem d_D_many_68 : decode prog_3_method_5_code 68 = .ok (.ireturn, 1) := by decide +kernel
theorem d_D_many_69 : decode prog_3_method_5_code 69 = .ok (.aload_n 0, 1) := by decide +kernel
theorem d_D_many_70 : decode prog_3_method_5_code 70 = .ok (.getfield 16, 3) := by decide +kernel
theorem d_D_many_73 : decode prog_3_method_5_code 73 = .ok (.iconst 3, 1) := by decide +kernel
theorem d_D_many_74 : decode prog_3_method_5_code 74 = .ok (.iaload, 1) := by decide +kernel
theorem d_D_many_75 : decode prog_3_method_5_code 75 = .ok (.ireturn, 1) := by decide +kernel
theorem d_D_many_76 : decode prog_3_method_5_code 76 = .ok (.iconst 0, 1) := by decide +kernel
theorem d_D_many_77 : decode prog_3_method_5_code 77 = .ok (.ireturn, 1) := by decide +kernel
theorem d_D_setMany_0 : decode prog_3_method_6_code 0 = .ok (.iload_n 1, 1) := by decide +kernel
theorem d_D_setMany_1 : decode prog_3_method_6_code 1 = .ok (.ifCond .lt 28, 3) := by decide +kernel
theorem d_D_setMany_4 : decode prog_3_method_6_code 4 = .ok (.iload_n 1, 1) := by decide +kernel
theorem d_D_setMany_5 : decode prog_3_method_6_code 5 = .ok (.aload_n 0, 1) := by decide +kernel
theorem d_D_setMany_6 : decode prog_3_method_6_code 6 = .ok (.getfield 16, 3) := by decide +kernel
theorem d_D_setMany_9 : decode prog_3_method_6_code 9 = .ok (.arraylength, 1) := by decide +kernel
theorem d_D_setMany_10 : decode prog_3_method_6_code 10 = .ok (.if_icmp .ge 19, 3) := by decide +kernel
theorem d_D_setMany_13 : decode prog_3_method_6_code 13 = .ok (.aload_n 0, 1) := by decide +kernel
theorem d_D_setMany_14 : decode prog_3_method_6_code 14 = .ok (.getfield 16, 3) := by decide +kernel
theorem d_D_setMany_17 : decode prog_3_method_6_code 17 = .ok (.iload_n 1, 1) := by decide +kernel
theorem d_D_setMany_18 : decode prog_3_method_6_code 18 = .ok (.iconst 0, 1) := by decide +kernel
theorem d_D_setMany_19 : decode prog_3_method_6_code 19 = .ok (.iload_n 2, 1) := by decide +kernel
theorem d_D_setMany_20 : decode prog_3_method_6_code 20 = .ok (.bipush 60, 2) := by decide +kernel
theorem d_D_setMany_22 : decode prog_3_method_6_code 22 = .ok (.invokestatic 33, 3) := by decide +kernel
theorem d_D_setMany_25 : decode prog_3_method_6_code 25 = .ok (.invokestatic 39, 3) := by decide +kernel
theorem d_D_setMany_28 : decode prog_3_method_6_code 28 = .ok (.iastore, 1) := by decide +kernel
theorem d_D_setMany_29 : decode prog_3_method_6_code 29 = .ok (.return_, 1) := by decide +kernel
theorem d_D_holds_0 : decode prog_3_method_7_code 0 = .ok (.iload_n 2, 1) := by decide +kernel
theorem d_D_holds_1 : decode prog_3_method_7_code 1 = .ok (.ifCond .lt 16, 3) := by decide +kernel
theorem d_D_holds_4 : decode prog_3_method_7_code 4 = .ok (.iload_n 2, 1) := by decide +kernel
theorem d_D_holds_5 : decode prog_3_method_7_code 5 = .ok (.aload_n 0, 1) := by decide +kernel
theorem d_D_holds_6 : decode prog_3_method_7_code 6 = .ok (.iload_n 1, 1) := by decide +kernel
theorem d_D_holds_7 : decode prog_3_method_7_code 7 = .ok (.invokevirtual 42, 3) := by decide +kernel
theorem d_D_holds_10 : decode prog_3_method_7_code 10 = .ok (.if_icmp .ge 7, 3) := by decide +kernel
theorem d_D_holds_13 : decode prog_3_method_7_code 13 = .ok (.iconst 1, 1) := by decide +kernel
theorem d_D_holds_14 : decode prog_3_method_7_code 14 = .ok (.goto 4, 3) := by decide +kernel
theorem d_D_holds_17 : decode prog_3_method_7_code 17 = .ok (.iconst 0, 1) := by decide +kernel
theorem d_D_holds_18 : decode prog_3_method_7_code 18 = .ok (.ireturn, 1) := by decide +kernel
theorem d_D_get_0 : decode prog_3_method_8_code 0 = .ok (.iload_n 1, 1) := by decide +kernel
theorem d_D_get_1 : decode prog_3_method_8_code 1 = .ok (.ifCond .lt 19, 3) := by decide +kernel
theorem d_D_get_4 : decode prog_3_method_8_code 4 = .ok (.iload_n 1, 1) := by decide +kernel
theorem d_D_get_5 : decode prog_3_method_8_code 5 = .ok (.bipush 8, 2) := by decide +kernel
theorem d_D_get_7 : decode prog_3_method_8_code 7 = .ok (.if_icmp .ge 13, 3) := by decide +kernel
theorem d_D_get_10 : decode prog_3_method_8_code 10 = .ok (.iload_n 2, 1) := by decide +kernel
theorem d_D_get_11 : decode prog_3_method_8_code 11 = .ok (.ifCond .lt 9, 3) := by decide +kernel
theorem d_D_get_14 : decode prog_3_method_8_code 14 = .ok (.iload_n 2, 1) := by decide +kernel
theorem d_D_get_15 : decode prog_3_method_8_code 15 = .ok (.bipush 60, 2) := by decide +kernel
theorem d_D_get_17 : decode prog_3_method_8_code 17 = .ok (.if_icmp .lt 5, 3) := by decide +kernel
theorem d_D_get_20 : decode prog_3_method_8_code 20 = .ok (.iconst 0, 1) := by decide +kernel
theorem d_D_get_21 : decode prog_3_method_8_code 21 = .ok (.ireturn, 1) := by decide +kernel
theorem d_D_get_22 : decode prog_3_method_8_code 22 = .ok (.aload_n 0, 1) := by decide +kernel
theorem d_D_get_23 : decode prog_3_method_8_code 23 = .ok (.getfield 11, 3) := by decide +kernel
theorem d_D_get_26 : decode prog_3_method_8_code 26 = .ok (.iload_n 1, 1) := by decide +kernel
theorem d_D_get_27 : decode prog_3_method_8_code 27 = .ok (.aaload, 1) := by decide +kernel
theorem d_D_get_28 : decode prog_3_method_8_code 28 = .ok (.iload_n 2, 1) := by decide +kernel
theorem d_D_get_29 : decode prog_3_method_8_code 29 = .ok (.iaload, 1) := by decide +kernel
theorem d_D_get_30 : decode prog_3_method_8_code 30 = .ok (.ireturn, 1) := by decide +kernel
theorem d_D_set_0 : decode prog_3_method_9_code 0 = .ok (.iload_n 1, 1) := by decide +kernel
theorem d_D_set_1 : decode prog_3_method_9_code 1 = .ok (.ifCond .lt 28, 3) := by decide +kernel
theorem d_D_set_4 : decode prog_3_method_9_code 4 = .ok (.iload_n 1, 1) := by decide +kernel
theorem d_D_set_5 : decode prog_3_method_9_code 5 = .ok (.bipush 8, 2) := by decide +kernel
theorem d_D_set_7 : decode prog_3_method_9_code 7 = .ok (.if_icmp .ge 22, 3) := by decide +kernel
theorem d_D_set_10 : decode prog_3_method_9_code 10 = .ok (.iload_n 2, 1) := by decide +kernel
theorem d_D_set_11 : decode prog_3_method_9_code 11 = .ok (.ifCond .lt 18, 3) := by decide +kernel
theorem d_D_set_14 : decode prog_3_method_9_code 14 = .ok (.iload_n 2, 1) := by decide +kernel
theorem d_D_set_15 : decode prog_3_method_9_code 15 = .ok (.bipush 60, 2) := by decide +kernel
theorem d_D_set_17 : decode prog_3_method_9_code 17 = .ok (.if_icmp .ge 12, 3) := by decide +kernel
theorem d_D_set_20 : decode prog_3_method_9_code 20 = .ok (.aload_n 0, 1) := by decide +kernel
theorem d_D_set_21 : decode prog_3_method_9_code 21 = .ok (.getfield 11, 3) := by decide +kernel
theorem d_D_set_24 : decode prog_3_method_9_code 24 = .ok (.iload_n 1, 1) := by decide +kernel
theorem d_D_set_25 : decode prog_3_method_9_code 25 = .ok (.aaload, 1) := by decide +kernel
theorem d_D_set_26 : decode prog_3_method_9_code 26 = .ok (.iload_n 2, 1) := by decide +kernel
theorem d_D_set_27 : decode prog_3_method_9_code 27 = .ok (.iload_n 3, 1) := by decide +kernel
theorem d_D_set_28 : decode prog_3_method_9_code 28 = .ok (.iastore, 1) := by decide +kernel
theorem d_D_set_29 : decode prog_3_method_9_code 29 = .ok (.return_, 1) := by decide +kernel
theorem d_D_restart_0 : decode prog_3_method_10_code 0 = .ok (.iconst 0, 1) := by decide +kernel
theorem d_D_restart_1 : decode prog_3_method_10_code 1 = .ok (.istore_n 1, 1) := by decide +kernel
theorem d_D_restart_2 : decode prog_3_method_10_code 2 = .ok (.iconst 0, 1) := by decide +kernel
theorem d_D_restart_3 : decode prog_3_method_10_code 3 = .ok (.istore_n 2, 1) := by decide +kernel
theorem d_D_restart_4 : decode prog_3_method_10_code 4 = .ok (.iload_n 2, 1) := by decide +kernel
theorem d_D_restart_5 : decode prog_3_method_10_code 5 = .ok (.aload_n 0, 1) := by decide +kernel
theorem d_D_restart_6 : decode prog_3_method_10_code 6 = .ok (.iconst 1, 1) := by decide +kernel
theorem d_D_restart_7 : decode prog_3_method_10_code 7 = .ok (.invokevirtual 42, 3) := by decide +kernel
theorem d_D_restart_10 : decode prog_3_method_10_code 10 = .ok (.if_icmp .ge 20, 3) := by decide +kernel
theorem d_D_restart_13 : decode prog_3_method_10_code 13 = .ok (.iload_n 1, 1) := by decide +kernel
theorem d_D_restart_14 : decode prog_3_method_10_code 14 = .ok (.aload_n 0, 1) := by decide +kernel
theorem d_D_restart_15 : decode prog_3_method_10_code 15 = .ok (.iconst 5, 1) := by decide +kernel
theorem d_D_restart_16 : decode prog_3_method_10_code 16 = .ok (.iload_n 2, 1) := by decide +kernel
theorem d_D_restart_17 : decode prog_3_method_10_code 17 = .ok (.invokevirtual 46, 3) := by decide +kernel
theorem d_D_restart_20 : decode prog_3_method_10_code 20 = .ok (.iload_n 2, 1) := by decide +kernel
theorem d_D_restart_21 : decode prog_3_method_10_code 21 = .ok (.ishl, 1) := by decide +kernel
theorem d_D_restart_22 : decode prog_3_method_10_code 22 = .ok (.ior, 1) := by decide +kernel
theorem d_D_restart_23 : decode prog_3_method_10_code 23 = .ok (.istore_n 1, 1) := by decide +kernel
theorem d_D_restart_24 : decode prog_3_method_10_code 24 = .ok (.iinc 2 1, 3) := by decide +kernel
theorem d_D_restart_27 : decode prog_3_method_10_code 27 = .ok (.goto (-23), 3) := by decide +kernel
theorem d_D_restart_30 : decode prog_3_method_10_code 30 = .ok (.aload_n 0, 1) := by decide +kernel
theorem d_D_restart_31 : decode prog_3_method_10_code 31 = .ok (.iload_n 1, 1) := by decide +kernel
theorem d_D_restart_32 : decode prog_3_method_10_code 32 = .ok (.putfield 30, 3) := by decide +kernel
theorem d_D_restart_35 : decode prog_3_method_10_code 35 = .ok (.return_, 1) := by decide +kernel
theorem d_D_inOrder_0 : decode prog_3_method_11_code 0 = .ok (.aload_n 0, 1) := by decide +kernel
theorem d_D_inOrder_1 : decode prog_3_method_11_code 1 = .ok (.iconst 0, 1) := by decide +kernel
theorem d_D_inOrder_2 : decode prog_3_method_11_code 2 = .ok (.invokevirtual 42, 3) := by decide +kernel
theorem d_D_inOrder_5 : decode prog_3_method_11_code 5 = .ok (.istore_n 1, 1) := by decide +kernel
theorem d_D_inOrder_6 : decode prog_3_method_11_code 6 = .ok (.iload_n 1, 1) := by decide +kernel
theorem d_D_inOrder_7 : decode prog_3_method_11_code 7 = .ok (.aload_n 0, 1) := by decide +kernel
theorem d_D_inOrder_8 : decode prog_3_method_11_code 8 = .ok (.iconst 1, 1) := by decide +kernel
theorem d_D_inOrder_9 : decode prog_3_method_11_code 9 = .ok (.invokevirtual 42, 3) := by decide +kernel
theorem d_D_inOrder_12 : decode prog_3_method_11_code 12 = .ok (.iadd, 1) := by decide +kernel
theorem d_D_inOrder_13 : decode prog_3_method_11_code 13 = .ok (.istore_n 2, 1) := by decide +kernel
theorem d_D_inOrder_14 : decode prog_3_method_11_code 14 = .ok (.aload_n 0, 1) := by decide +kernel
theorem d_D_inOrder_15 : decode prog_3_method_11_code 15 = .ok (.getfield 26, 3) := by decide +kernel
theorem d_D_inOrder_18 : decode prog_3_method_11_code 18 = .ok (.iload_n 2, 1) := by decide +kernel
theorem d_D_inOrder_19 : decode prog_3_method_11_code 19 = .ok (.aload_n 0, 1) := by decide +kernel
theorem d_D_inOrder_20 : decode prog_3_method_11_code 20 = .ok (.iconst 3, 1) := by decide +kernel
theorem d_D_inOrder_21 : decode prog_3_method_11_code 21 = .ok (.invokevirtual 42, 3) := by decide +kernel
theorem d_D_inOrder_24 : decode prog_3_method_11_code 24 = .ok (.iadd, 1) := by decide +kernel
theorem d_D_inOrder_25 : decode prog_3_method_11_code 25 = .ok (.if_icmp .ne 41, 3) := by decide +kernel
theorem d_D_inOrder_28 : decode prog_3_method_11_code 28 = .ok (.aload_n 0, 1) := by decide +kernel
theorem d_D_inOrder_29 : decode prog_3_method_11_code 29 = .ok (.iconst 0, 1) := by decide +kernel
theorem d_D_inOrder_30 : decode prog_3_method_11_code 30 = .ok (.iconst 0, 1) := by decide +kernel
theorem d_D_inOrder_31 : decode prog_3_method_11_code 31 = .ok (.invokevirtual 49, 3) := by decide +kernel
theorem d_D_inOrder_34 : decode prog_3_method_11_code 34 = .ok (.ifCond .eq 32, 3) := by decide +kernel
theorem d_D_inOrder_37 : decode prog_3_method_11_code 37 = .ok (.aload_n 0, 1) := by decide +kernel
theorem d_D_inOrder_38 : decode prog_3_method_11_code 38 = .ok (.iconst 1, 1) := by decide +kernel
theorem d_D_inOrder_39 : decode prog_3_method_11_code 39 = .ok (.iload_n 1, 1) := by decide +kernel
theorem d_D_inOrder_40 : decode prog_3_method_11_code 40 = .ok (.invokevirtual 49, 3) := by decide +kernel
theorem d_D_inOrder_43 : decode prog_3_method_11_code 43 = .ok (.ifCond .eq 23, 3) := by decide +kernel
theorem d_D_inOrder_46 : decode prog_3_method_11_code 46 = .ok (.aload_n 0, 1) := by decide +kernel
theorem d_D_inOrder_47 : decode prog_3_method_11_code 47 = .ok (.iconst 3, 1) := by decide +kernel
theorem d_D_inOrder_48 : decode prog_3_method_11_code 48 = .ok (.iload_n 2, 1) := by decide +kernel
theorem d_D_inOrder_49 : decode prog_3_method_11_code 49 = .ok (.invokevirtual 49, 3) := by decide +kernel
theorem d_D_inOrder_52 : decode prog_3_method_11_code 52 = .ok (.ifCond .eq 14, 3) := by decide +kernel
theorem d_D_inOrder_55 : decode prog_3_method_11_code 55 = .ok (.aload_n 0, 1) := by decide +kernel
theorem d_D_inOrder_56 : decode prog_3_method_11_code 56 = .ok (.invokevirtual 53, 3) := by decide +kernel
theorem d_D_inOrder_59 : decode prog_3_method_11_code 59 = .ok (.ifCond .eq 7, 3) := by decide +kernel
theorem d_D_inOrder_62 : decode prog_3_method_11_code 62 = .ok (.iconst 1, 1) := by decide +kernel
theorem d_D_inOrder_63 : decode prog_3_method_11_code 63 = .ok (.goto 4, 3) := by decide +kernel
theorem d_D_inOrder_66 : decode prog_3_method_11_code 66 = .ok (.iconst 0, 1) := by decide +kernel
theorem d_D_inOrder_67 : decode prog_3_method_11_code 67 = .ok (.ireturn, 1) := by decide +kernel
theorem d_D_countsUp_0 : decode prog_3_method_12_code 0 = .ok (.iconst 0, 1) := by decide +kernel
theorem d_D_countsUp_1 : decode prog_3_method_12_code 1 = .ok (.istore_n 3, 1) := by decide +kernel
theorem d_D_countsUp_2 : decode prog_3_method_12_code 2 = .ok (.iload_n 3, 1) := by decide +kernel
theorem d_D_countsUp_3 : decode prog_3_method_12_code 3 = .ok (.aload_n 0, 1) := by decide +kernel
theorem d_D_countsUp_4 : decode prog_3_method_12_code 4 = .ok (.iload_n 1, 1) := by decide +kernel
theorem d_D_countsUp_5 : decode prog_3_method_12_code 5 = .ok (.invokevirtual 42, 3) := by decide +kernel
theorem d_D_countsUp_8 : decode prog_3_method_12_code 8 = .ok (.if_icmp .ge 27, 3) := by decide +kernel
theorem d_D_countsUp_11 : decode prog_3_method_12_code 11 = .ok (.aload_n 0, 1) := by decide +kernel
theorem d_D_countsUp_12 : decode prog_3_method_12_code 12 = .ok (.iload_n 1, 1) := by decide +kernel
theorem d_D_countsUp_13 : decode prog_3_method_12_code 13 = .ok (.iload_n 3, 1) := by decide +kernel
theorem d_D_countsUp_14 : decode prog_3_method_12_code 14 = .ok (.invokevirtual 46, 3) := by decide +kernel
theorem d_D_countsUp_17 : decode prog_3_method_12_code 17 = .ok (.iconst 2, 1) := by decide +kernel
theorem d_D_countsUp_18 : decode prog_3_method_12_code 18 = .ok (.iload_n 2, 1) := by decide +kernel
theorem d_D_countsUp_19 : decode prog_3_method_12_code 19 = .ok (.iload_n 3, 1) := by decide +kernel
theorem d_D_countsUp_20 : decode prog_3_method_12_code 20 = .ok (.iadd, 1) := by decide +kernel
theorem d_D_countsUp_21 : decode prog_3_method_12_code 21 = .ok (.iconst 1, 1) := by decide +kernel
theorem d_D_countsUp_22 : decode prog_3_method_12_code 22 = .ok (.iadd, 1) := by decide +kernel
theorem d_D_countsUp_23 : decode prog_3_method_12_code 23 = .ok (.imul, 1) := by decide +kernel
theorem d_D_countsUp_24 : decode prog_3_method_12_code 24 = .ok (.if_icmp .eq 5, 3) := by decide +kernel
theorem d_D_countsUp_27 : decode prog_3_method_12_code 27 = .ok (.iconst 0, 1) := by decide +kernel
theorem d_D_countsUp_28 : decode prog_3_method_12_code 28 = .ok (.ireturn, 1) := by decide +kernel
theorem d_D_countsUp_29 : decode prog_3_method_12_code 29 = .ok (.iinc 3 1, 3) := by decide +kernel
theorem d_D_countsUp_32 : decode prog_3_method_12_code 32 = .ok (.goto (-30), 3) := by decide +kernel
theorem d_D_countsUp_35 : decode prog_3_method_12_code 35 = .ok (.iconst 1, 1) := by decide +kernel
theorem d_D_countsUp_36 : decode prog_3_method_12_code 36 = .ok (.ireturn, 1) := by decide +kernel
theorem d_D_gatesLookBack_0 : decode prog_3_method_13_code 0 = .ok (.iconst 0, 1) := by decide +kernel
theorem d_D_gatesLookBack_1 : decode prog_3_method_13_code 1 = .ok (.istore_n 1, 1) := by decide +kernel
theorem d_D_gatesLookBack_2 : decode prog_3_method_13_code 2 = .ok (.iload_n 1, 1) := by decide +kernel
theorem d_D_gatesLookBack_3 : decode prog_3_method_13_code 3 = .ok (.aload_n 0, 1) := by decide +kernel
theorem d_D_gatesLookBack_4 : decode prog_3_method_13_code 4 = .ok (.iconst 3, 1) := by decide +kernel
theorem d_D_gatesLookBack_5 : decode prog_3_method_13_code 5 = .ok (.invokevirtual 42, 3) := by decide +kernel
theorem d_D_gatesLookBack_8 : decode prog_3_method_13_code 8 = .ok (.if_icmp .ge 40, 3) := by decide +kernel
theorem d_D_gatesLookBack_11 : decode prog_3_method_13_code 11 = .ok (.aload_n 0, 1) := by decide +kernel
theorem d_D_gatesLookBack_12 : decode prog_3_method_13_code 12 = .ok (.bipush 6, 2) := by decide +kernel
theorem d_D_gatesLookBack_14 : decode prog_3_method_13_code 14 = .ok (.iload_n 1, 1) := by decide +kernel
theorem d_D_gatesLookBack_15 : decode prog_3_method_13_code 15 = .ok (.invokevirtual 46, 3) := by decide +kernel
theorem d_D_gatesLookBack_18 : decode prog_3_method_13_code 18 = .ok (.istore_n 2, 1) := by decide +kernel
theorem d_D_gatesLookBack_19 : decode prog_3_method_13_code 19 = .ok (.iload_n 2, 1) := by decide +kernel
theorem d_D_gatesLookBack_20 : decode prog_3_method_13_code 20 = .ok (.aload_n 0, 1) := by decide +kernel
theorem d_D_gatesLookBack_21 : decode prog_3_method_13_code 21 = .ok (.iconst 3, 1) := by decide +kernel
theorem d_D_gatesLookBack_22 : decode prog_3_method_13_code 22 = .ok (.iload_n 1, 1) := by decide +kernel
theorem d_D_gatesLookBack_23 : decode prog_3_method_13_code 23 = .ok (.invokevirtual 46, 3) := by decide +kernel
theorem d_D_gatesLookBack_26 : decode prog_3_method_13_code 26 = .ok (.if_icmp .ge 14, 3) := by decide +kernel
theorem d_D_gatesLookBack_29 : decode prog_3_method_13_code 29 = .ok (.iload_n 2, 1) := by decide +kernel
theorem d_D_gatesLookBack_30 : decode prog_3_method_13_code 30 = .ok (.aload_n 0, 1) := by decide +kernel
theorem d_D_gatesLookBack_31 : decode prog_3_method_13_code 31 = .ok (.bipush 7, 2) := by decide +kernel
theorem d_D_gatesLookBack_33 : decode prog_3_method_13_code 33 = .ok (.iload_n 1, 1) := by decide +kernel
theorem d_D_gatesLookBack_34 : decode prog_3_method_13_code 34 = .ok (.invokevirtual 46, 3) := by decide +kernel
theorem d_D_gatesLookBack_37 : decode prog_3_method_13_code 37 = .ok (.if_icmp .ge 5, 3) := by decide +kernel
theorem d_D_gatesLookBack_40 : decode prog_3_method_13_code 40 = .ok (.iconst 0, 1) := by decide +kernel
theorem d_D_gatesLookBack_41 : decode prog_3_method_13_code 41 = .ok (.ireturn, 1) := by decide +kernel
theorem d_D_gatesLookBack_42 : decode prog_3_method_13_code 42 = .ok (.iinc 1 1, 3) := by decide +kernel
theorem d_D_gatesLookBack_45 : decode prog_3_method_13_code 45 = .ok (.goto (-43), 3) := by decide +kernel
theorem d_D_gatesLookBack_48 : decode prog_3_method_13_code 48 = .ok (.iconst 1, 1) := by decide +kernel
theorem d_D_gatesLookBack_49 : decode prog_3_method_13_code 49 = .ok (.ireturn, 1) := by decide +kernel
theorem d_D_step_0 : decode prog_3_method_14_code 0 = .ok (.aload_n 0, 1) := by decide +kernel
theorem d_D_step_1 : decode prog_3_method_14_code 1 = .ok (.iconst 0, 1) := by decide +kernel
theorem d_D_step_2 : decode prog_3_method_14_code 2 = .ok (.iconst 0, 1) := by decide +kernel
theorem d_D_step_3 : decode prog_3_method_14_code 3 = .ok (.invokevirtual 57, 3) := by decide +kernel
theorem d_D_step_6 : decode prog_3_method_14_code 6 = .ok (.iconst 0, 1) := by decide +kernel
theorem d_D_step_7 : decode prog_3_method_14_code 7 = .ok (.istore_n 2, 1) := by decide +kernel
theorem d_D_step_8 : decode prog_3_method_14_code 8 = .ok (.iload_n 2, 1) := by decide +kernel
theorem d_D_step_9 : decode prog_3_method_14_code 9 = .ok (.aload_n 0, 1) := by decide +kernel
theorem d_D_step_10 : decode prog_3_method_14_code 10 = .ok (.iconst 0, 1) := by decide +kernel
theorem d_D_step_11 : decode prog_3_method_14_code 11 = .ok (.invokevirtual 42, 3) := by decide +kernel
theorem d_D_step_14 : decode prog_3_method_14_code 14 = .ok (.if_icmp .ge 24, 3) := by decide +kernel
theorem d_D_step_17 : decode prog_3_method_14_code 17 = .ok (.aload_n 0, 1) := by decide +kernel
theorem d_D_step_18 : decode prog_3_method_14_code 18 = .ok (.aload_n 0, 1) := by decide +kernel
theorem d_D_step_19 : decode prog_3_method_14_code 19 = .ok (.iconst 0, 1) := by decide +kernel
theorem d_D_step_20 : decode prog_3_method_14_code 20 = .ok (.iload_n 2, 1) := by decide +kernel
theorem d_D_step_21 : decode prog_3_method_14_code 21 = .ok (.invokevirtual 46, 3) := by decide +kernel
theorem d_D_step_24 : decode prog_3_method_14_code 24 = .ok (.iload_n 1, 1) := by decide +kernel
theorem d_D_step_25 : decode prog_3_method_14_code 25 = .ok (.iload_n 2, 1) := by decide +kernel
theorem d_D_step_26 : decode prog_3_method_14_code 26 = .ok (.iushr, 1) := by decide +kernel
theorem d_D_step_27 : decode prog_3_method_14_code 27 = .ok (.iconst 1, 1) := by decide +kernel
theorem d_D_step_28 : decode prog_3_method_14_code 28 = .ok (.iand, 1) := by decide +kernel
theorem d_D_step_29 : decode prog_3_method_14_code 29 = .ok (.invokevirtual 57, 3) := by decide +kernel
theorem d_D_step_32 : decode prog_3_method_14_code 32 = .ok (.iinc 2 1, 3) := by decide +kernel
theorem d_D_step_35 : decode prog_3_method_14_code 35 = .ok (.goto (-27), 3) := by decide +kernel
theorem d_D_step_38 : decode prog_3_method_14_code 38 = .ok (.iconst 0, 1) := by decide +kernel
theorem d_D_step_39 : decode prog_3_method_14_code 39 = .ok (.istore_n 2, 1) := by decide +kernel
theorem d_D_step_40 : decode prog_3_method_14_code 40 = .ok (.iload_n 2, 1) := by decide +kernel
theorem d_D_step_41 : decode prog_3_method_14_code 41 = .ok (.aload_n 0, 1) := by decide +kernel
theorem d_D_step_42 : decode prog_3_method_14_code 42 = .ok (.iconst 1, 1) := by decide +kernel
theorem d_D_step_43 : decode prog_3_method_14_code 43 = .ok (.invokevirtual 42, 3) := by decide +kernel
theorem d_D_step_46 : decode prog_3_method_14_code 46 = .ok (.if_icmp .ge 27, 3) := by decide +kernel
theorem d_D_step_49 : decode prog_3_method_14_code 49 = .ok (.aload_n 0, 1) := by decide +kernel
theorem d_D_step_50 : decode prog_3_method_14_code 50 = .ok (.aload_n 0, 1) := by decide +kernel
theorem d_D_step_51 : decode prog_3_method_14_code 51 = .ok (.iconst 1, 1) := by decide +kernel
theorem d_D_step_52 : decode prog_3_method_14_code 52 = .ok (.iload_n 2, 1) := by decide +kernel
theorem d_D_step_53 : decode prog_3_method_14_code 53 = .ok (.invokevirtual 46, 3) := by decide +kernel
theorem d_D_step_56 : decode prog_3_method_14_code 56 = .ok (.aload_n 0, 1) := by decide +kernel
theorem d_D_step_57 : decode prog_3_method_14_code 57 = .ok (.getfield 30, 3) := by decide +kernel
theorem d_D_step_60 : decode prog_3_method_14_code 60 = .ok (.iload_n 2, 1) := by decide +kernel
theorem d_D_step_61 : decode prog_3_method_14_code 61 = .ok (.iushr, 1) := by decide +kernel
theorem d_D_step_62 : decode prog_3_method_14_code 62 = .ok (.iconst 1, 1) := by decide +kernel
theorem d_D_step_63 : decode prog_3_method_14_code 63 = .ok (.iand, 1) := by decide +kernel
theorem d_D_step_64 : decode prog_3_method_14_code 64 = .ok (.invokevirtual 57, 3) := by decide +kernel
theorem d_D_step_67 : decode prog_3_method_14_code 67 = .ok (.iinc 2 1, 3) := by decide +kernel
theorem d_D_step_70 : decode prog_3_method_14_code 70 = .ok (.goto (-30), 3) := by decide +kernel
theorem d_D_step_73 : decode prog_3_method_14_code 73 = .ok (.iconst 0, 1) := by decide +kernel
theorem d_D_step_74 : decode prog_3_method_14_code 74 = .ok (.istore_n 2, 1) := by decide +kernel
theorem d_D_step_75 : decode prog_3_method_14_code 75 = .ok (.iload_n 2, 1) := by decide +kernel
theorem d_D_step_76 : decode prog_3_method_14_code 76 = .ok (.aload_n 0, 1) := by decide +kernel
theorem d_D_step_77 : decode prog_3_method_14_code 77 = .ok (.iconst 3, 1) := by decide +kernel
theorem d_D_step_78 : decode prog_3_method_14_code 78 = .ok (.invokevirtual 42, 3) := by decide +kernel
theorem d_D_step_81 : decode prog_3_method_14_code 81 = .ok (.if_icmp .ge 48, 3) := by decide +kernel
theorem d_D_step_84 : decode prog_3_method_14_code 84 = .ok (.aload_n 0, 1) := by decide +kernel
theorem d_D_step_85 : decode prog_3_method_14_code 85 = .ok (.iload_n 2, 1) := by decide +kernel
theorem d_D_step_86 : decode prog_3_method_14_code 86 = .ok (.invokevirtual 61, 3) := by decide +kernel
theorem d_D_step_89 : decode prog_3_method_14_code 89 = .ok (.istore_n 3, 1) := by decide +kernel
theorem d_D_step_90 : decode prog_3_method_14_code 90 = .ok (.aload_n 0, 1) := by decide +kernel
theorem d_D_step_91 : decode prog_3_method_14_code 91 = .ok (.aload_n 0, 1) := by decide +kernel
theorem d_D_step_92 : decode prog_3_method_14_code 92 = .ok (.iconst 3, 1) := by decide +kernel
theorem d_D_step_93 : decode prog_3_method_14_code 93 = .ok (.iload_n 3, 1) := by decide +kernel
theorem d_D_step_94 : decode prog_3_method_14_code 94 = .ok (.invokevirtual 46, 3) := by decide +kernel
theorem d_D_step_97 : decode prog_3_method_14_code 97 = .ok (.aload_n 0, 1) := by decide +kernel
theorem d_D_step_98 : decode prog_3_method_14_code 98 = .ok (.aload_n 0, 1) := by decide +kernel
theorem d_D_step_99 : decode prog_3_method_14_code 99 = .ok (.bipush 6, 2) := by decide +kernel
theorem d_D_step_101 : decode prog_3_method_14_code 101 = .ok (.iload_n 3, 1) := by decide +kernel
theorem d_D_step_102 : decode prog_3_method_14_code 102 = .ok (.invokevirtual 46, 3) := by decide +kernel
theorem d_D_step_105 : decode prog_3_method_14_code 105 = .ok (.invokevirtual 64, 3) := by decide +kernel
theorem d_D_step_108 : decode prog_3_method_14_code 108 = .ok (.aload_n 0, 1) := by decide +kernel
theorem d_D_step_109 : decode prog_3_method_14_code 109 = .ok (.aload_n 0, 1) := by decide +kernel
theorem d_D_step_110 : decode prog_3_method_14_code 110 = .ok (.bipush 7, 2) := by decide +kernel
theorem d_D_step_112 : decode prog_3_method_14_code 112 = .ok (.iload_n 3, 1) := by decide +kernel
theorem d_D_step_113 : decode prog_3_method_14_code 113 = .ok (.invokevirtual 46, 3) := by decide +kernel
theorem d_D_step_116 : decode prog_3_method_14_code 116 = .ok (.invokevirtual 64, 3) := by decide +kernel
theorem d_D_step_119 : decode prog_3_method_14_code 119 = .ok (.iand, 1) := by decide +kernel
theorem d_D_step_120 : decode prog_3_method_14_code 120 = .ok (.invokevirtual 57, 3) := by decide +kernel
theorem d_D_step_123 : decode prog_3_method_14_code 123 = .ok (.iinc 2 1, 3) := by decide +kernel
theorem d_D_step_126 : decode prog_3_method_14_code 126 = .ok (.goto (-51), 3) := by decide +kernel
theorem d_D_step_129 : decode prog_3_method_14_code 129 = .ok (.aload_n 0, 1) := by decide +kernel
theorem d_D_step_130 : decode prog_3_method_14_code 130 = .ok (.aload_n 0, 1) := by decide +kernel
theorem d_D_step_131 : decode prog_3_method_14_code 131 = .ok (.iconst 4, 1) := by decide +kernel
theorem d_D_step_132 : decode prog_3_method_14_code 132 = .ok (.invokevirtual 67, 3) := by decide +kernel
theorem d_D_step_135 : decode prog_3_method_14_code 135 = .ok (.putfield 30, 3) := by decide +kernel
theorem d_D_step_138 : decode prog_3_method_14_code 138 = .ok (.aload_n 0, 1) := by decide +kernel
theorem d_D_step_139 : decode prog_3_method_14_code 139 = .ok (.iconst 2, 1) := by decide +kernel
theorem d_D_step_140 : decode prog_3_method_14_code 140 = .ok (.invokevirtual 67, 3) := by decide +kernel
theorem d_D_step_143 : decode prog_3_method_14_code 143 = .ok (.ireturn, 1) := by decide +kernel
theorem d_D_truths_0 : decode prog_3_method_15_code 0 = .ok (.iconst 0, 1) := by decide +kernel
theorem d_D_truths_1 : decode prog_3_method_15_code 1 = .ok (.istore_n 2, 1) := by decide +kernel
theorem d_D_truths_2 : decode prog_3_method_15_code 2 = .ok (.iconst 0, 1) := by decide +kernel
theorem d_D_truths_3 : decode prog_3_method_15_code 3 = .ok (.istore_n 3, 1) := by decide +kernel
theorem d_D_truths_4 : decode prog_3_method_15_code 4 = .ok (.iload_n 3, 1) := by decide +kernel
theorem d_D_truths_5 : decode prog_3_method_15_code 5 = .ok (.aload_n 0, 1) := by decide +kernel
theorem d_D_truths_6 : decode prog_3_method_15_code 6 = .ok (.iload_n 1, 1) := by decide +kernel
theorem d_D_truths_7 : decode prog_3_method_15_code 7 = .ok (.invokevirtual 42, 3) := by decide +kernel
theorem d_D_truths_10 : decode prog_3_method_15_code 10 = .ok (.if_icmp .ge 24, 3) := by decide +kernel
theorem d_D_truths_13 : decode prog_3_method_15_code 13 = .ok (.iload_n 2, 1) := by decide +kernel
theorem d_D_truths_14 : decode prog_3_method_15_code 14 = .ok (.aload_n 0, 1) := by decide +kernel
theorem d_D_truths_15 : decode prog_3_method_15_code 15 = .ok (.aload_n 0, 1) := by decide +kernel
theorem d_D_truths_16 : decode prog_3_method_15_code 16 = .ok (.iload_n 1, 1) := by decide +kernel
theorem d_D_truths_17 : decode prog_3_method_15_code 17 = .ok (.iload_n 3, 1) := by decide +kernel
theorem d_D_truths_18 : decode prog_3_method_15_code 18 = .ok (.invokevirtual 46, 3) := by decide +kernel
theorem d_D_truths_21 : decode prog_3_method_15_code 21 = .ok (.invokevirtual 64, 3) := by decide +kernel
theorem d_D_truths_24 : decode prog_3_method_15_code 24 = .ok (.iload_n 3, 1) := by decide +kernel
theorem d_D_truths_25 : decode prog_3_method_15_code 25 = .ok (.ishl, 1) := by decide +kernel
theorem d_D_truths_26 : decode prog_3_method_15_code 26 = .ok (.ior, 1) := by decide +kernel
theorem d_D_truths_27 : decode prog_3_method_15_code 27 = .ok (.istore_n 2, 1) := by decide +kernel
theorem d_D_truths_28 : decode prog_3_method_15_code 28 = .ok (.iinc 3 1, 3) := by decide +kernel
theorem d_D_truths_31 : decode prog_3_method_15_code 31 = .ok (.goto (-27), 3) := by decide +kernel
theorem d_D_truths_34 : decode prog_3_method_15_code 34 = .ok (.iload_n 2, 1) := by decide +kernel
theorem d_D_truths_35 : decode prog_3_method_15_code 35 = .ok (.ireturn, 1) := by decide +kernel
theorem d_D_truth_0 : decode prog_3_method_16_code 0 = .ok (.aload_n 0, 1) := by decide +kernel
theorem d_D_truth_1 : decode prog_3_method_16_code 1 = .ok (.iload_n 1, 1) := by decide +kernel
theorem d_D_truth_2 : decode prog_3_method_16_code 2 = .ok (.invokevirtual 70, 3) := by decide +kernel
theorem d_D_truth_5 : decode prog_3_method_16_code 5 = .ok (.iload_n 1, 1) := by decide +kernel
theorem d_D_truth_6 : decode prog_3_method_16_code 6 = .ok (.iconst 1, 1) := by decide +kernel
theorem d_D_truth_7 : decode prog_3_method_16_code 7 = .ok (.iand, 1) := by decide +kernel
theorem d_D_truth_8 : decode prog_3_method_16_code 8 = .ok (.ixor, 1) := by decide +kernel
theorem d_D_truth_9 : decode prog_3_method_16_code 9 = .ok (.ireturn, 1) := by decide +kernel
theorem d_D_arrange_0 : decode prog_3_method_17_code 0 = .ok (.aload_n 0, 1) := by decide +kernel
theorem d_D_arrange_1 : decode prog_3_method_17_code 1 = .ok (.invokevirtual 73, 3) := by decide +kernel
theorem d_D_arrange_4 : decode prog_3_method_17_code 4 = .ok (.aload_n 0, 1) := by decide +kernel
theorem d_D_arrange_5 : decode prog_3_method_17_code 5 = .ok (.iconst 0, 1) := by decide +kernel
theorem d_D_arrange_6 : decode prog_3_method_17_code 6 = .ok (.iconst 1, 1) := by decide +kernel
theorem d_D_arrange_7 : decode prog_3_method_17_code 7 = .ok (.invokevirtual 57, 3) := by decide +kernel
theorem d_D_arrange_10 : decode prog_3_method_17_code 10 = .ok (.aload_n 0, 1) := by decide +kernel
theorem d_D_arrange_11 : decode prog_3_method_17_code 11 = .ok (.iconst 0, 1) := by decide +kernel
theorem d_D_arrange_12 : decode prog_3_method_17_code 12 = .ok (.invokevirtual 76, 3) := by decide +kernel
theorem d_D_arrange_15 : decode prog_3_method_17_code 15 = .ok (.aload_n 0, 1) := by decide +kernel
theorem d_D_arrange_16 : decode prog_3_method_17_code 16 = .ok (.iconst 1, 1) := by decide +kernel
theorem d_D_arrange_17 : decode prog_3_method_17_code 17 = .ok (.invokevirtual 76, 3) := by decide +kernel
theorem d_D_arrange_20 : decode prog_3_method_17_code 20 = .ok (.iconst 0, 1) := by decide +kernel
theorem d_D_arrange_21 : decode prog_3_method_17_code 21 = .ok (.istore_n 1, 1) := by decide +kernel
theorem d_D_arrange_22 : decode prog_3_method_17_code 22 = .ok (.iload_n 1, 1) := by decide +kernel
theorem d_D_arrange_23 : decode prog_3_method_17_code 23 = .ok (.aload_n 0, 1) := by decide +kernel
theorem d_D_arrange_24 : decode prog_3_method_17_code 24 = .ok (.iconst 3, 1) := by decide +kernel
theorem d_D_arrange_25 : decode prog_3_method_17_code 25 = .ok (.invokevirtual 42, 3) := by decide +kernel
theorem d_D_arrange_28 : decode prog_3_method_17_code 28 = .ok (.if_icmp .ge 41, 3) := by decide +kernel
theorem d_D_arrange_31 : decode prog_3_method_17_code 31 = .ok (.aload_n 0, 1) := by decide +kernel
theorem d_D_arrange_32 : decode prog_3_method_17_code 32 = .ok (.invokevirtual 80, 3) := by decide +kernel
theorem d_D_arrange_35 : decode prog_3_method_17_code 35 = .ok (.istore_n 2, 1) := by decide +kernel
theorem d_D_arrange_36 : decode prog_3_method_17_code 36 = .ok (.iload_n 1, 1) := by decide +kernel
theorem d_D_arrange_37 : decode prog_3_method_17_code 37 = .ok (.aload_n 0, 1) := by decide +kernel
theorem d_D_arrange_38 : decode prog_3_method_17_code 38 = .ok (.getfield 20, 3) := by decide +kernel
theorem d_D_arrange_41 : decode prog_3_method_17_code 41 = .ok (.arraylength, 1) := by decide +kernel
theorem d_D_arrange_42 : decode prog_3_method_17_code 42 = .ok (.if_icmp .ge 10, 3) := by decide +kernel
theorem d_D_arrange_45 : decode prog_3_method_17_code 45 = .ok (.aload_n 0, 1) := by decide +kernel
theorem d_D_arrange_46 : decode prog_3_method_17_code 46 = .ok (.getfield 20, 3) := by decide +kernel
theorem d_D_arrange_49 : decode prog_3_method_17_code 49 = .ok (.iload_n 1, 1) := by decide +kernel
theorem d_D_arrange_50 : decode prog_3_method_17_code 50 = .ok (.iload_n 2, 1) := by decide +kernel
theorem d_D_arrange_51 : decode prog_3_method_17_code 51 = .ok (.iastore, 1) := by decide +kernel
theorem d_D_arrange_52 : decode prog_3_method_17_code 52 = .ok (.aload_n 0, 1) := by decide +kernel
theorem d_D_arrange_53 : decode prog_3_method_17_code 53 = .ok (.aload_n 0, 1) := by decide +kernel
theorem d_D_arrange_54 : decode prog_3_method_17_code 54 = .ok (.iconst 3, 1) := by decide +kernel
theorem d_D_arrange_55 : decode prog_3_method_17_code 55 = .ok (.iload_n 2, 1) := by decide +kernel
theorem d_D_arrange_56 : decode prog_3_method_17_code 56 = .ok (.invokevirtual 46, 3) := by decide +kernel
theorem d_D_arrange_59 : decode prog_3_method_17_code 59 = .ok (.iconst 1, 1) := by decide +kernel
theorem d_D_arrange_60 : decode prog_3_method_17_code 60 = .ok (.invokevirtual 57, 3) := by decide +kernel
theorem d_D_arrange_63 : decode prog_3_method_17_code 63 = .ok (.iinc 1 1, 3) := by decide +kernel
theorem d_D_arrange_66 : decode prog_3_method_17_code 66 = .ok (.goto (-44), 3) := by decide +kernel
theorem d_D_arrange_69 : decode prog_3_method_17_code 69 = .ok (.return_, 1) := by decide +kernel
theorem d_D_forget_0 : decode prog_3_method_18_code 0 = .ok (.iconst 0, 1) := by decide +kernel
theorem d_D_forget_1 : decode prog_3_method_18_code 1 = .ok (.istore_n 1, 1) := by decide +kernel
theorem d_D_forget_2 : decode prog_3_method_18_code 2 = .ok (.iload_n 1, 1) := by decide +kernel
theorem d_D_forget_3 : decode prog_3_method_18_code 3 = .ok (.aload_n 0, 1) := by decide +kernel
theorem d_D_forget_4 : decode prog_3_method_18_code 4 = .ok (.getfield 23, 3) := by decide +kernel
theorem d_D_forget_7 : decode prog_3_method_18_code 7 = .ok (.arraylength, 1) := by decide +kernel
theorem d_D_forget_8 : decode prog_3_method_18_code 8 = .ok (.if_icmp .ge 16, 3) := by decide +kernel
theorem d_D_forget_11 : decode prog_3_method_18_code 11 = .ok (.aload_n 0, 1) := by decide +kernel
theorem d_D_forget_12 : decode prog_3_method_18_code 12 = .ok (.getfield 23, 3) := by decide +kernel
theorem d_D_forget_15 : decode prog_3_method_18_code 15 = .ok (.iload_n 1, 1) := by decide +kernel
theorem d_D_forget_16 : decode prog_3_method_18_code 16 = .ok (.iconst 0, 1) := by decide +kernel
theorem d_D_forget_17 : decode prog_3_method_18_code 17 = .ok (.iastore, 1) := by decide +kernel
theorem d_D_forget_18 : decode prog_3_method_18_code 18 = .ok (.iinc 1 1, 3) := by decide +kernel
theorem d_D_forget_21 : decode prog_3_method_18_code 21 = .ok (.goto (-19), 3) := by decide +kernel
theorem d_D_forget_24 : decode prog_3_method_18_code 24 = .ok (.return_, 1) := by decide +kernel
theorem d_D_markAll_0 : decode prog_3_method_19_code 0 = .ok (.iconst 0, 1) := by decide +kernel
theorem d_D_markAll_1 : decode prog_3_method_19_code 1 = .ok (.istore_n 2, 1) := by decide +kernel
theorem d_D_markAll_2 : decode prog_3_method_19_code 2 = .ok (.iload_n 2, 1) := by decide +kernel
theorem d_D_markAll_3 : decode prog_3_method_19_code 3 = .ok (.aload_n 0, 1) := by decide +kernel
theorem d_D_markAll_4 : decode prog_3_method_19_code 4 = .ok (.iload_n 1, 1) := by decide +kernel
theorem d_D_markAll_5 : decode prog_3_method_19_code 5 = .ok (.invokevirtual 42, 3) := by decide +kernel
theorem d_D_markAll_8 : decode prog_3_method_19_code 8 = .ok (.if_icmp .ge 20, 3) := by decide +kernel
theorem d_D_markAll_11 : decode prog_3_method_19_code 11 = .ok (.aload_n 0, 1) := by decide +kernel
theorem d_D_markAll_12 : decode prog_3_method_19_code 12 = .ok (.aload_n 0, 1) := by decide +kernel
theorem d_D_markAll_13 : decode prog_3_method_19_code 13 = .ok (.iload_n 1, 1) := by decide +kernel
theorem d_D_markAll_14 : decode prog_3_method_19_code 14 = .ok (.iload_n 2, 1) := by decide +kernel
theorem d_D_markAll_15 : decode prog_3_method_19_code 15 = .ok (.invokevirtual 46, 3) := by decide +kernel
theorem d_D_markAll_18 : decode prog_3_method_19_code 18 = .ok (.iconst 1, 1) := by decide +kernel
theorem d_D_markAll_19 : decode prog_3_method_19_code 19 = .ok (.invokevirtual 57, 3) := by decide +kernel
theorem d_D_markAll_22 : decode prog_3_method_19_code 22 = .ok (.iinc 2 1, 3) := by decide +kernel
theorem d_D_markAll_25 : decode prog_3_method_19_code 25 = .ok (.goto (-23), 3) := by decide +kernel
theorem d_D_markAll_28 : decode prog_3_method_19_code 28 = .ok (.return_, 1) := by decide +kernel
theorem d_D_firstReady_0 : decode prog_3_method_20_code 0 = .ok (.iconst 0, 1) := by decide +kernel
theorem d_D_firstReady_1 : decode prog_3_method_20_code 1 = .ok (.istore_n 1, 1) := by decide +kernel
theorem d_D_firstReady_2 : decode prog_3_method_20_code 2 = .ok (.iload_n 1, 1) := by decide +kernel
theorem d_D_firstReady_3 : decode prog_3_method_20_code 3 = .ok (.aload_n 0, 1) := by decide +kernel
theorem d_D_firstReady_4 : decode prog_3_method_20_code 4 = .ok (.iconst 3, 1) := by decide +kernel
theorem d_D_firstReady_5 : decode prog_3_method_20_code 5 = .ok (.invokevirtual 42, 3) := by decide +kernel
theorem d_D_firstReady_8 : decode prog_3_method_20_code 8 = .ok (.if_icmp .ge 52, 3) := by decide +kernel
theorem d_D_firstReady_11 : decode prog_3_method_20_code 11 = .ok (.aload_n 0, 1) := by decide +kernel
theorem d_D_firstReady_12 : decode prog_3_method_20_code 12 = .ok (.aload_n 0, 1) := by decide +kernel
theorem d_D_firstReady_13 : decode prog_3_method_20_code 13 = .ok (.iconst 3, 1) := by decide +kernel
theorem d_D_firstReady_14 : decode prog_3_method_20_code 14 = .ok (.iload_n 1, 1) := by decide +kernel
theorem d_D_firstReady_15 : decode prog_3_method_20_code 15 = .ok (.invokevirtual 46, 3) := by decide +kernel
theorem d_D_firstReady_18 : decode prog_3_method_20_code 18 = .ok (.invokevirtual 70, 3) := by decide +kernel
theorem d_D_firstReady_21 : decode prog_3_method_20_code 21 = .ok (.ifCond .ne 33, 3) := by decide +kernel
theorem d_D_firstReady_24 : decode prog_3_method_20_code 24 = .ok (.aload_n 0, 1) := by decide +kernel
theorem d_D_firstReady_25 : decode prog_3_method_20_code 25 = .ok (.aload_n 0, 1) := by decide +kernel
theorem d_D_firstReady_26 : decode prog_3_method_20_code 26 = .ok (.bipush 6, 2) := by decide +kernel
theorem d_D_firstReady_28 : decode prog_3_method_20_code 28 = .ok (.iload_n 1, 1) := by decide +kernel
theorem d_D_firstReady_29 : decode prog_3_method_20_code 29 = .ok (.invokevirtual 46, 3) := by decide +kernel
theorem d_D_firstReady_32 : decode prog_3_method_20_code 32 = .ok (.invokevirtual 70, 3) := by decide +kernel
theorem d_D_firstReady_35 : decode prog_3_method_20_code 35 = .ok (.ifCond .eq 19, 3) := by decide +kernel
theorem d_D_firstReady_38 : decode prog_3_method_20_code 38 = .ok (.aload_n 0, 1) := by decide +kernel
theorem d_D_firstReady_39 : decode prog_3_method_20_code 39 = .ok (.aload_n 0, 1) := by decide +kernel
theorem d_D_firstReady_40 : decode prog_3_method_20_code 40 = .ok (.bipush 7, 2) := by decide +kernel
theorem d_D_firstReady_42 : decode prog_3_method_20_code 42 = .ok (.iload_n 1, 1) := by decide +kernel
theorem d_D_firstReady_43 : decode prog_3_method_20_code 43 = .ok (.invokevirtual 46, 3) := by decide +kernel
theorem d_D_firstReady_46 : decode prog_3_method_20_code 46 = .ok (.invokevirtual 70, 3) := by decide +kernel
theorem d_D_firstReady_49 : decode prog_3_method_20_code 49 = .ok (.ifCond .eq 5, 3) := by decide +kernel
theorem d_D_firstReady_52 : decode prog_3_method_20_code 52 = .ok (.iload_n 1, 1) := by decide +kernel
theorem d_D_firstReady_53 : decode prog_3_method_20_code 53 = .ok (.ireturn, 1) := by decide +kernel
theorem d_D_firstReady_54 : decode prog_3_method_20_code 54 = .ok (.iinc 1 1, 3) := by decide +kernel
theorem d_D_firstReady_57 : decode prog_3_method_20_code 57 = .ok (.goto (-55), 3) := by decide +kernel
theorem d_D_firstReady_60 : decode prog_3_method_20_code 60 = .ok (.iconst 0, 1) := by decide +kernel
theorem d_D_firstReady_61 : decode prog_3_method_20_code 61 = .ok (.ireturn, 1) := by decide +kernel
theorem d_D_inSequence_0 : decode prog_3_method_21_code 0 = .ok (.iload_n 1, 1) := by decide +kernel
theorem d_D_inSequence_1 : decode prog_3_method_21_code 1 = .ok (.ifCond .lt 21, 3) := by decide +kernel
theorem d_D_inSequence_4 : decode prog_3_method_21_code 4 = .ok (.iload_n 1, 1) := by decide +kernel
theorem d_D_inSequence_5 : decode prog_3_method_21_code 5 = .ok (.aload_n 0, 1) := by decide +kernel
theorem d_D_inSequence_6 : decode prog_3_method_21_code 6 = .ok (.getfield 20, 3) := by decide +kernel
theorem d_D_inSequence_9 : decode prog_3_method_21_code 9 = .ok (.arraylength, 1) := by decide +kernel
theorem d_D_inSequence_10 : decode prog_3_method_21_code 10 = .ok (.if_icmp .ge 12, 3) := by decide +kernel
theorem d_D_inSequence_13 : decode prog_3_method_21_code 13 = .ok (.aload_n 0, 1) := by decide +kernel
theorem d_D_inSequence_14 : decode prog_3_method_21_code 14 = .ok (.getfield 20, 3) := by decide +kernel
theorem d_D_inSequence_17 : decode prog_3_method_21_code 17 = .ok (.iload_n 1, 1) := by decide +kernel
theorem d_D_inSequence_18 : decode prog_3_method_21_code 18 = .ok (.iaload, 1) := by decide +kernel
theorem d_D_inSequence_19 : decode prog_3_method_21_code 19 = .ok (.goto 4, 3) := by decide +kernel
theorem d_D_inSequence_22 : decode prog_3_method_21_code 22 = .ok (.iconst 0, 1) := by decide +kernel
theorem d_D_inSequence_23 : decode prog_3_method_21_code 23 = .ok (.ireturn, 1) := by decide +kernel
theorem d_D_orderFrom_0 : decode prog_3_method_22_code 0 = .ok (.aload_n 0, 1) := by decide +kernel
theorem d_D_orderFrom_1 : decode prog_3_method_22_code 1 = .ok (.aload_n 1, 1) := by decide +kernel
theorem d_D_orderFrom_2 : decode prog_3_method_22_code 2 = .ok (.invokevirtual 84, 3) := by decide +kernel
theorem d_D_orderFrom_5 : decode prog_3_method_22_code 5 = .ok (.aload_n 0, 1) := by decide +kernel
theorem d_D_orderFrom_6 : decode prog_3_method_22_code 6 = .ok (.aload_n 1, 1) := by decide +kernel
theorem d_D_orderFrom_7 : decode prog_3_method_22_code 7 = .ok (.invokevirtual 88, 3) := by decide +kernel
theorem d_D_orderFrom_10 : decode prog_3_method_22_code 10 = .ok (.aload_n 0, 1) := by decide +kernel
theorem d_D_orderFrom_11 : decode prog_3_method_22_code 11 = .ok (.aload_n 1, 1) := by decide +kernel
theorem d_D_orderFrom_12 : decode prog_3_method_22_code 12 = .ok (.invokevirtual 91, 3) := by decide +kernel
theorem d_D_orderFrom_15 : decode prog_3_method_22_code 15 = .ok (.aload_n 0, 1) := by decide +kernel
theorem d_D_orderFrom_16 : decode prog_3_method_22_code 16 = .ok (.aload_n 1, 1) := by decide +kernel
theorem d_D_orderFrom_17 : decode prog_3_method_22_code 17 = .ok (.invokevirtual 94, 3) := by decide +kernel
theorem d_D_orderFrom_20 : decode prog_3_method_22_code 20 = .ok (.aload_n 0, 1) := by decide +kernel
theorem d_D_orderFrom_21 : decode prog_3_method_22_code 21 = .ok (.aload_n 1, 1) := by decide +kernel
theorem d_D_orderFrom_22 : decode prog_3_method_22_code 22 = .ok (.getfield 30, 3) := by decide +kernel
theorem d_D_orderFrom_25 : decode prog_3_method_22_code 25 = .ok (.putfield 30, 3) := by decide +kernel
theorem d_D_orderFrom_28 : decode prog_3_method_22_code 28 = .ok (.aload_n 0, 1) := by decide +kernel
theorem d_D_orderFrom_29 : decode prog_3_method_22_code 29 = .ok (.invokevirtual 97, 3) := by decide +kernel
theorem d_D_orderFrom_32 : decode prog_3_method_22_code 32 = .ok (.return_, 1) := by decide +kernel
theorem d_D_numberAnew_0 : decode prog_3_method_23_code 0 = .ok (.aload_n 0, 1) := by decide +kernel
theorem d_D_numberAnew_1 : decode prog_3_method_23_code 1 = .ok (.iconst 0, 1) := by decide +kernel
theorem d_D_numberAnew_2 : decode prog_3_method_23_code 2 = .ok (.iconst 0, 1) := by decide +kernel
theorem d_D_numberAnew_3 : decode prog_3_method_23_code 3 = .ok (.invokevirtual 57, 3) := by decide +kernel
theorem d_D_numberAnew_6 : decode prog_3_method_23_code 6 = .ok (.iconst 0, 1) := by decide +kernel
theorem d_D_numberAnew_7 : decode prog_3_method_23_code 7 = .ok (.istore_n 2, 1) := by decide +kernel
theorem d_D_numberAnew_8 : decode prog_3_method_23_code 8 = .ok (.iconst 0, 1) := by decide +kernel
theorem d_D_numberAnew_9 : decode prog_3_method_23_code 9 = .ok (.istore_n 3, 1) := by decide +kernel
theorem d_D_numberAnew_10 : decode prog_3_method_23_code 10 = .ok (.iload_n 3, 1) := by decide +kernel
theorem d_D_numberAnew_11 : decode prog_3_method_23_code 11 = .ok (.aload_n 1, 1) := by decide +kernel
theorem d_D_numberAnew_12 : decode prog_3_method_23_code 12 = .ok (.iconst 0, 1) := by decide +kernel
theorem d_D_numberAnew_13 : decode prog_3_method_23_code 13 = .ok (.invokevirtual 42, 3) := by decide +kernel
theorem d_D_numberAnew_16 : decode prog_3_method_23_code 16 = .ok (.if_icmp .ge 23, 3) := by decide +kernel
theorem d_D_numberAnew_19 : decode prog_3_method_23_code 19 = .ok (.iinc 2 1, 3) := by decide +kernel
theorem d_D_numberAnew_22 : decode prog_3_method_23_code 22 = .ok (.aload_n 0, 1) := by decide +kernel
theorem d_D_numberAnew_23 : decode prog_3_method_23_code 23 = .ok (.aload_n 1, 1) := by decide +kernel
theorem d_D_numberAnew_24 : decode prog_3_method_23_code 24 = .ok (.iconst 0, 1) := by decide +kernel
theorem d_D_numberAnew_25 : decode prog_3_method_23_code 25 = .ok (.iload_n 3, 1) := by decide +kernel
theorem d_D_numberAnew_26 : decode prog_3_method_23_code 26 = .ok (.invokevirtual 46, 3) := by decide +kernel
theorem d_D_numberAnew_29 : decode prog_3_method_23_code 29 = .ok (.iload_n 2, 1) := by decide +kernel
theorem d_D_numberAnew_30 : decode prog_3_method_23_code 30 = .ok (.invokevirtual 57, 3) := by decide +kernel
theorem d_D_numberAnew_33 : decode prog_3_method_23_code 33 = .ok (.iinc 3 1, 3) := by decide +kernel
theorem d_D_numberAnew_36 : decode prog_3_method_23_code 36 = .ok (.goto (-26), 3) := by decide +kernel
theorem d_D_numberAnew_39 : decode prog_3_method_23_code 39 = .ok (.iconst 0, 1) := by decide +kernel
theorem d_D_numberAnew_40 : decode prog_3_method_23_code 40 = .ok (.istore_n 3, 1) := by decide +kernel
theorem d_D_numberAnew_41 : decode prog_3_method_23_code 41 = .ok (.iload_n 3, 1) := by decide +kernel
theorem d_D_numberAnew_42 : decode prog_3_method_23_code 42 = .ok (.aload_n 1, 1) := by decide +kernel
theorem d_D_numberAnew_43 : decode prog_3_method_23_code 43 = .ok (.iconst 1, 1) := by decide +kernel
theorem d_D_numberAnew_44 : decode prog_3_method_23_code 44 = .ok (.invokevirtual 42, 3) := by decide +kernel
theorem d_D_numberAnew_47 : decode prog_3_method_23_code 47 = .ok (.if_icmp .ge 23, 3) := by decide +kernel
theorem d_D_numberAnew_50 : decode prog_3_method_23_code 50 = .ok (.iinc 2 1, 3) := by decide +kernel
theorem d_D_numberAnew_53 : decode prog_3_method_23_code 53 = .ok (.aload_n 0, 1) := by decide +kernel
theorem d_D_numberAnew_54 : decode prog_3_method_23_code 54 = .ok (.aload_n 1, 1) := by decide +kernel
theorem d_D_numberAnew_55 : decode prog_3_method_23_code 55 = .ok (.iconst 1, 1) := by decide +kernel
theorem d_D_numberAnew_56 : decode prog_3_method_23_code 56 = .ok (.iload_n 3, 1) := by decide +kernel
theorem d_D_numberAnew_57 : decode prog_3_method_23_code 57 = .ok (.invokevirtual 46, 3) := by decide +kernel
theorem d_D_numberAnew_60 : decode prog_3_method_23_code 60 = .ok (.iload_n 2, 1) := by decide +kernel
theorem d_D_numberAnew_61 : decode prog_3_method_23_code 61 = .ok (.invokevirtual 57, 3) := by decide +kernel
theorem d_D_numberAnew_64 : decode prog_3_method_23_code 64 = .ok (.iinc 3 1, 3) := by decide +kernel
theorem d_D_numberAnew_67 : decode prog_3_method_23_code 67 = .ok (.goto (-26), 3) := by decide +kernel
theorem d_D_numberAnew_70 : decode prog_3_method_23_code 70 = .ok (.iconst 0, 1) := by decide +kernel
theorem d_D_numberAnew_71 : decode prog_3_method_23_code 71 = .ok (.istore_n 3, 1) := by decide +kernel
theorem d_D_numberAnew_72 : decode prog_3_method_23_code 72 = .ok (.iload_n 3, 1) := by decide +kernel
theorem d_D_numberAnew_73 : decode prog_3_method_23_code 73 = .ok (.aload_n 1, 1) := by decide +kernel
theorem d_D_numberAnew_74 : decode prog_3_method_23_code 74 = .ok (.iconst 3, 1) := by decide +kernel
theorem d_D_numberAnew_75 : decode prog_3_method_23_code 75 = .ok (.invokevirtual 42, 3) := by decide +kernel
theorem d_D_numberAnew_78 : decode prog_3_method_23_code 78 = .ok (.if_icmp .ge 27, 3) := by decide +kernel
theorem d_D_numberAnew_81 : decode prog_3_method_23_code 81 = .ok (.iinc 2 1, 3) := by decide +kernel
theorem d_D_numberAnew_84 : decode prog_3_method_23_code 84 = .ok (.aload_n 0, 1) := by decide +kernel
theorem d_D_numberAnew_85 : decode prog_3_method_23_code 85 = .ok (.aload_n 1, 1) := by decide +kernel
theorem d_D_numberAnew_86 : decode prog_3_method_23_code 86 = .ok (.iconst 3, 1) := by decide +kernel
theorem d_D_numberAnew_87 : decode prog_3_method_23_code 87 = .ok (.aload_n 1, 1) := by decide +kernel
theorem d_D_numberAnew_88 : decode prog_3_method_23_code 88 = .ok (.iload_n 3, 1) := by decide +kernel
theorem d_D_numberAnew_89 : decode prog_3_method_23_code 89 = .ok (.invokevirtual 61, 3) := by decide +kernel
theorem d_D_numberAnew_92 : decode prog_3_method_23_code 92 = .ok (.invokevirtual 46, 3) := by decide +kernel
theorem d_D_numberAnew_95 : decode prog_3_method_23_code 95 = .ok (.iload_n 2, 1) := by decide +kernel
theorem d_D_numberAnew_96 : decode prog_3_method_23_code 96 = .ok (.invokevirtual 57, 3) := by decide +kernel
theorem d_D_numberAnew_99 : decode prog_3_method_23_code 99 = .ok (.iinc 3 1, 3) := by decide +kernel
theorem d_D_numberAnew_102 : decode prog_3_method_23_code 102 = .ok (.goto (-30), 3) := by decide +kernel
theorem d_D_numberAnew_105 : decode prog_3_method_23_code 105 = .ok (.aload_n 0, 1) := by decide +kernel
theorem d_D_numberAnew_106 : decode prog_3_method_23_code 106 = .ok (.iload_n 2, 1) := by decide +kernel
theorem d_D_numberAnew_107 : decode prog_3_method_23_code 107 = .ok (.putfield 26, 3) := by decide +kernel
theorem d_D_numberAnew_110 : decode prog_3_method_23_code 110 = .ok (.return_, 1) := by decide +kernel
theorem d_D_copyInputsAndOutputs_0 : decode prog_3_method_24_code 0 = .ok (.aload_n 0, 1) := by decide +kernel
theorem d_D_copyInputsAndOutputs_1 : decode prog_3_method_24_code 1 = .ok (.iconst 0, 1) := by decide +kernel
theorem d_D_copyInputsAndOutputs_2 : decode prog_3_method_24_code 2 = .ok (.aload_n 1, 1) := by decide +kernel
theorem d_D_copyInputsAndOutputs_3 : decode prog_3_method_24_code 3 = .ok (.iconst 0, 1) := by decide +kernel
theorem d_D_copyInputsAndOutputs_4 : decode prog_3_method_24_code 4 = .ok (.invokevirtual 42, 3) := by decide +kernel
theorem d_D_copyInputsAndOutputs_7 : decode prog_3_method_24_code 7 = .ok (.invokevirtual 100, 3) := by decide +kernel
theorem d_D_copyInputsAndOutputs_10 : decode prog_3_method_24_code 10 = .ok (.iconst 0, 1) := by decide +kernel
theorem d_D_copyInputsAndOutputs_11 : decode prog_3_method_24_code 11 = .ok (.istore_n 2, 1) := by decide +kernel
theorem d_D_copyInputsAndOutputs_12 : decode prog_3_method_24_code 12 = .ok (.iload_n 2, 1) := by decide +kernel
theorem d_D_copyInputsAndOutputs_13 : decode prog_3_method_24_code 13 = .ok (.aload_n 0, 1) := by decide +kernel
theorem d_D_copyInputsAndOutputs_14 : decode prog_3_method_24_code 14 = .ok (.iconst 0, 1) := by decide +kernel
theorem d_D_copyInputsAndOutputs_15 : decode prog_3_method_24_code 15 = .ok (.invokevirtual 42, 3) := by decide +kernel
theorem d_D_copyInputsAndOutputs_18 : decode prog_3_method_24_code 18 = .ok (.if_icmp .ge 25, 3) := by decide +kernel
theorem d_D_copyInputsAndOutputs_21 : decode prog_3_method_24_code 21 = .ok (.aload_n 0, 1) := by decide +kernel
theorem d_D_copyInputsAndOutputs_22 : decode prog_3_method_24_code 22 = .ok (.iconst 0, 1) := by decide +kernel
theorem d_D_copyInputsAndOutputs_23 : decode prog_3_method_24_code 23 = .ok (.iload_n 2, 1) := by decide +kernel
theorem d_D_copyInputsAndOutputs_24 : decode prog_3_method_24_code 24 = .ok (.aload_n 0, 1) := by decide +kernel
theorem d_D_copyInputsAndOutputs_25 : decode prog_3_method_24_code 25 = .ok (.aload_n 1, 1) := by decide +kernel
theorem d_D_copyInputsAndOutputs_26 : decode prog_3_method_24_code 26 = .ok (.iconst 0, 1) := by decide +kernel
theorem d_D_copyInputsAndOutputs_27 : decode prog_3_method_24_code 27 = .ok (.iload_n 2, 1) := by decide +kernel
theorem d_D_copyInputsAndOutputs_28 : decode prog_3_method_24_code 28 = .ok (.invokevirtual 46, 3) := by decide +kernel
theorem d_D_copyInputsAndOutputs_31 : decode prog_3_method_24_code 31 = .ok (.invokevirtual 103, 3) := by decide +kernel
theorem d_D_copyInputsAndOutputs_34 : decode prog_3_method_24_code 34 = .ok (.invokevirtual 106, 3) := by decide +kernel
theorem d_D_copyInputsAndOutputs_37 : decode prog_3_method_24_code 37 = .ok (.iinc 2 1, 3) := by decide +kernel
theorem d_D_copyInputsAndOutputs_40 : decode prog_3_method_24_code 40 = .ok (.goto (-28), 3) := by decide +kernel
theorem d_D_copyInputsAndOutputs_43 : decode prog_3_method_24_code 43 = .ok (.aload_n 0, 1) := by decide +kernel
theorem d_D_copyInputsAndOutputs_44 : decode prog_3_method_24_code 44 = .ok (.iconst 2, 1) := by decide +kernel
theorem d_D_copyInputsAndOutputs_45 : decode prog_3_method_24_code 45 = .ok (.aload_n 1, 1) := by decide +kernel
theorem d_D_copyInputsAndOutputs_46 : decode prog_3_method_24_code 46 = .ok (.iconst 2, 1) := by decide +kernel
theorem d_D_copyInputsAndOutputs_47 : decode prog_3_method_24_code 47 = .ok (.invokevirtual 42, 3) := by decide +kernel
theorem d_D_copyInputsAndOutputs_50 : decode prog_3_method_24_code 50 = .ok (.invokevirtual 100, 3) := by decide +kernel
theorem d_D_copyInputsAndOutputs_53 : decode prog_3_method_24_code 53 = .ok (.iconst 0, 1) := by decide +kernel
theorem d_D_copyInputsAndOutputs_54 : decode prog_3_method_24_code 54 = .ok (.istore_n 2, 1) := by decide +kernel
theorem d_D_copyInputsAndOutputs_55 : decode prog_3_method_24_code 55 = .ok (.iload_n 2, 1) := by decide +kernel
theorem d_D_copyInputsAndOutputs_56 : decode prog_3_method_24_code 56 = .ok (.aload_n 0, 1) := by decide +kernel
theorem d_D_copyInputsAndOutputs_57 : decode prog_3_method_24_code 57 = .ok (.iconst 2, 1) := by decide +kernel
theorem d_D_copyInputsAndOutputs_58 : decode prog_3_method_24_code 58 = .ok (.invokevirtual 42, 3) := by decide +kernel
theorem d_D_copyInputsAndOutputs_61 : decode prog_3_method_24_code 61 = .ok (.if_icmp .ge 25, 3) := by decide +kernel
theorem d_D_copyInputsAndOutputs_64 : decode prog_3_method_24_code 64 = .ok (.aload_n 0, 1) := by decide +kernel
theorem d_D_copyInputsAndOutputs_65 : decode prog_3_method_24_code 65 = .ok (.iconst 2, 1) := by decide +kernel
theorem d_D_copyInputsAndOutputs_66 : decode prog_3_method_24_code 66 = .ok (.iload_n 2, 1) := by decide +kernel
theorem d_D_copyInputsAndOutputs_67 : decode prog_3_method_24_code 67 = .ok (.aload_n 0, 1) := by decide +kernel
theorem d_D_copyInputsAndOutputs_68 : decode prog_3_method_24_code 68 = .ok (.aload_n 1, 1) := by decide +kernel
theorem d_D_copyInputsAndOutputs_69 : decode prog_3_method_24_code 69 = .ok (.iconst 2, 1) := by decide +kernel
theorem d_D_copyInputsAndOutputs_70 : decode prog_3_method_24_code 70 = .ok (.iload_n 2, 1) := by decide +kernel
theorem d_D_copyInputsAndOutputs_71 : decode prog_3_method_24_code 71 = .ok (.invokevirtual 46, 3) := by decide +kernel
theorem d_D_copyInputsAndOutputs_74 : decode prog_3_method_24_code 74 = .ok (.invokevirtual 103, 3) := by decide +kernel
theorem d_D_copyInputsAndOutputs_77 : decode prog_3_method_24_code 77 = .ok (.invokevirtual 106, 3) := by decide +kernel
theorem d_D_copyInputsAndOutputs_80 : decode prog_3_method_24_code 80 = .ok (.iinc 2 1, 3) := by decide +kernel
theorem d_D_copyInputsAndOutputs_83 : decode prog_3_method_24_code 83 = .ok (.goto (-28), 3) := by decide +kernel
theorem d_D_copyInputsAndOutputs_86 : decode prog_3_method_24_code 86 = .ok (.return_, 1) := by decide +kernel
theorem d_D_copyLatches_0 : decode prog_3_method_25_code 0 = .ok (.aload_n 0, 1) := by decide +kernel
theorem d_D_copyLatches_1 : decode prog_3_method_25_code 1 = .ok (.iconst 1, 1) := by decide +kernel
theorem d_D_copyLatches_2 : decode prog_3_method_25_code 2 = .ok (.aload_n 1, 1) := by decide +kernel
theorem d_D_copyLatches_3 : decode prog_3_method_25_code 3 = .ok (.iconst 1, 1) := by decide +kernel
theorem d_D_copyLatches_4 : decode prog_3_method_25_code 4 = .ok (.invokevirtual 42, 3) := by decide +kernel
theorem d_D_copyLatches_7 : decode prog_3_method_25_code 7 = .ok (.invokevirtual 100, 3) := by decide +kernel
theorem d_D_copyLatches_10 : decode prog_3_method_25_code 10 = .ok (.iconst 0, 1) := by decide +kernel
theorem d_D_copyLatches_11 : decode prog_3_method_25_code 11 = .ok (.istore_n 2, 1) := by decide +kernel
theorem d_D_copyLatches_12 : decode prog_3_method_25_code 12 = .ok (.iload_n 2, 1) := by decide +kernel
theorem d_D_copyLatches_13 : decode prog_3_method_25_code 13 = .ok (.aload_n 0, 1) := by decide +kernel
theorem d_D_copyLatches_14 : decode prog_3_method_25_code 14 = .ok (.iconst 1, 1) := by decide +kernel
theorem d_D_copyLatches_15 : decode prog_3_method_25_code 15 = .ok (.invokevirtual 42, 3) := by decide +kernel
theorem d_D_copyLatches_18 : decode prog_3_method_25_code 18 = .ok (.if_icmp .ge 53, 3) := by decide +kernel
theorem d_D_copyLatches_21 : decode prog_3_method_25_code 21 = .ok (.aload_n 0, 1) := by decide +kernel
theorem d_D_copyLatches_22 : decode prog_3_method_25_code 22 = .ok (.iconst 1, 1) := by decide +kernel
theorem d_D_copyLatches_23 : decode prog_3_method_25_code 23 = .ok (.iload_n 2, 1) := by decide +kernel
theorem d_D_copyLatches_24 : decode prog_3_method_25_code 24 = .ok (.aload_n 0, 1) := by decide +kernel
theorem d_D_copyLatches_25 : decode prog_3_method_25_code 25 = .ok (.aload_n 1, 1) := by decide +kernel
theorem d_D_copyLatches_26 : decode prog_3_method_25_code 26 = .ok (.iconst 1, 1) := by decide +kernel
theorem d_D_copyLatches_27 : decode prog_3_method_25_code 27 = .ok (.iload_n 2, 1) := by decide +kernel
theorem d_D_copyLatches_28 : decode prog_3_method_25_code 28 = .ok (.invokevirtual 46, 3) := by decide +kernel
theorem d_D_copyLatches_31 : decode prog_3_method_25_code 31 = .ok (.invokevirtual 103, 3) := by decide +kernel
theorem d_D_copyLatches_34 : decode prog_3_method_25_code 34 = .ok (.invokevirtual 106, 3) := by decide +kernel
theorem d_D_copyLatches_37 : decode prog_3_method_25_code 37 = .ok (.aload_n 0, 1) := by decide +kernel
theorem d_D_copyLatches_38 : decode prog_3_method_25_code 38 = .ok (.iconst 4, 1) := by decide +kernel
theorem d_D_copyLatches_39 : decode prog_3_method_25_code 39 = .ok (.iload_n 2, 1) := by decide +kernel
theorem d_D_copyLatches_40 : decode prog_3_method_25_code 40 = .ok (.aload_n 0, 1) := by decide +kernel
theorem d_D_copyLatches_41 : decode prog_3_method_25_code 41 = .ok (.aload_n 1, 1) := by decide +kernel
theorem d_D_copyLatches_42 : decode prog_3_method_25_code 42 = .ok (.iconst 4, 1) := by decide +kernel
theorem d_D_copyLatches_43 : decode prog_3_method_25_code 43 = .ok (.iload_n 2, 1) := by decide +kernel
theorem d_D_copyLatches_44 : decode prog_3_method_25_code 44 = .ok (.invokevirtual 46, 3) := by decide +kernel
theorem d_D_copyLatches_47 : decode prog_3_method_25_code 47 = .ok (.invokevirtual 103, 3) := by decide +kernel
theorem d_D_copyLatches_50 : decode prog_3_method_25_code 50 = .ok (.invokevirtual 106, 3) := by decide +kernel
theorem d_D_copyLatches_53 : decode prog_3_method_25_code 53 = .ok (.aload_n 0, 1) := by decide +kernel
theorem d_D_copyLatches_54 : decode prog_3_method_25_code 54 = .ok (.iconst 5, 1) := by decide +kernel
theorem d_D_copyLatches_55 : decode prog_3_method_25_code 55 = .ok (.iload_n 2, 1) := by decide +kernel
theorem d_D_copyLatches_56 : decode prog_3_method_25_code 56 = .ok (.aload_n 1, 1) := by decide +kernel
theorem d_D_copyLatches_57 : decode prog_3_method_25_code 57 = .ok (.iconst 5, 1) := by decide +kernel
theorem d_D_copyLatches_58 : decode prog_3_method_25_code 58 = .ok (.iload_n 2, 1) := by decide +kernel
theorem d_D_copyLatches_59 : decode prog_3_method_25_code 59 = .ok (.invokevirtual 46, 3) := by decide +kernel
theorem d_D_copyLatches_62 : decode prog_3_method_25_code 62 = .ok (.invokevirtual 106, 3) := by decide +kernel
theorem d_D_copyLatches_65 : decode prog_3_method_25_code 65 = .ok (.iinc 2 1, 3) := by decide +kernel
theorem d_D_copyLatches_68 : decode prog_3_method_25_code 68 = .ok (.goto (-56), 3) := by decide +kernel
theorem d_D_copyLatches_71 : decode prog_3_method_25_code 71 = .ok (.return_, 1) := by decide +kernel
theorem d_D_copyGates_0 : decode prog_3_method_26_code 0 = .ok (.aload_n 0, 1) := by decide +kernel
theorem d_D_copyGates_1 : decode prog_3_method_26_code 1 = .ok (.iconst 3, 1) := by decide +kernel
theorem d_D_copyGates_2 : decode prog_3_method_26_code 2 = .ok (.aload_n 1, 1) := by decide +kernel
theorem d_D_copyGates_3 : decode prog_3_method_26_code 3 = .ok (.iconst 3, 1) := by decide +kernel
theorem d_D_copyGates_4 : decode prog_3_method_26_code 4 = .ok (.invokevirtual 42, 3) := by decide +kernel
theorem d_D_copyGates_7 : decode prog_3_method_26_code 7 = .ok (.invokevirtual 100, 3) := by decide +kernel
theorem d_D_copyGates_10 : decode prog_3_method_26_code 10 = .ok (.iconst 0, 1) := by decide +kernel
theorem d_D_copyGates_11 : decode prog_3_method_26_code 11 = .ok (.istore_n 2, 1) := by decide +kernel
theorem d_D_copyGates_12 : decode prog_3_method_26_code 12 = .ok (.iload_n 2, 1) := by decide +kernel
theorem d_D_copyGates_13 : decode prog_3_method_26_code 13 = .ok (.aload_n 0, 1) := by decide +kernel
theorem d_D_copyGates_14 : decode prog_3_method_26_code 14 = .ok (.iconst 3, 1) := by decide +kernel
theorem d_D_copyGates_15 : decode prog_3_method_26_code 15 = .ok (.invokevirtual 42, 3) := by decide +kernel
theorem d_D_copyGates_18 : decode prog_3_method_26_code 18 = .ok (.if_icmp .ge 85, 3) := by decide +kernel
theorem d_D_copyGates_21 : decode prog_3_method_26_code 21 = .ok (.aload_n 1, 1) := by decide +kernel
theorem d_D_copyGates_22 : decode prog_3_method_26_code 22 = .ok (.iload_n 2, 1) := by decide +kernel
theorem d_D_copyGates_23 : decode prog_3_method_26_code 23 = .ok (.invokevirtual 61, 3) := by decide +kernel
theorem d_D_copyGates_26 : decode prog_3_method_26_code 26 = .ok (.istore_n 3, 1) := by decide +kernel
theorem d_D_copyGates_27 : decode prog_3_method_26_code 27 = .ok (.aload_n 0, 1) := by decide +kernel
theorem d_D_copyGates_28 : decode prog_3_method_26_code 28 = .ok (.aload_n 1, 1) := by decide +kernel
theorem d_D_copyGates_29 : decode prog_3_method_26_code 29 = .ok (.bipush 6, 2) := by decide +kernel
theorem d_D_copyGates_31 : decode prog_3_method_26_code 31 = .ok (.iload_n 3, 1) := by decide +kernel
theorem d_D_copyGates_32 : decode prog_3_method_26_code 32 = .ok (.invokevirtual 46, 3) := by decide +kernel
theorem d_D_copyGates_35 : decode prog_3_method_26_code 35 = .ok (.invokevirtual 103, 3) := by decide +kernel
theorem d_D_copyGates_38 : decode prog_3_method_26_code 38 = .ok (.istore 4, 2) := by decide +kernel
theorem d_D_copyGates_40 : decode prog_3_method_26_code 40 = .ok (.aload_n 0, 1) := by decide +kernel
theorem d_D_copyGates_41 : decode prog_3_method_26_code 41 = .ok (.aload_n 1, 1) := by decide +kernel
theorem d_D_copyGates_42 : decode prog_3_method_26_code 42 = .ok (.bipush 7, 2) := by decide +kernel
theorem d_D_copyGates_44 : decode prog_3_method_26_code 44 = .ok (.iload_n 3, 1) := by decide +kernel
theorem d_D_copyGates_45 : decode prog_3_method_26_code 45 = .ok (.invokevirtual 46, 3) := by decide +kernel
theorem d_D_copyGates_48 : decode prog_3_method_26_code 48 = .ok (.invokevirtual 103, 3) := by decide +kernel
theorem d_D_copyGates_51 : decode prog_3_method_26_code 51 = .ok (.istore 5, 2) := by decide +kernel
theorem d_D_copyGates_53 : decode prog_3_method_26_code 53 = .ok (.aload_n 0, 1) := by decide +kernel
theorem d_D_copyGates_54 : decode prog_3_method_26_code 54 = .ok (.iconst 3, 1) := by decide +kernel
theorem d_D_copyGates_55 : decode prog_3_method_26_code 55 = .ok (.iload_n 2, 1) := by decide +kernel
theorem d_D_copyGates_56 : decode prog_3_method_26_code 56 = .ok (.aload_n 0, 1) := by decide +kernel
theorem d_D_copyGates_57 : decode prog_3_method_26_code 57 = .ok (.aload_n 1, 1) := by decide +kernel
theorem d_D_copyGates_58 : decode prog_3_method_26_code 58 = .ok (.iconst 3, 1) := by decide +kernel
theorem d_D_copyGates_59 : decode prog_3_method_26_code 59 = .ok (.iload_n 3, 1) := by decide +kernel
theorem d_D_copyGates_60 : decode prog_3_method_26_code 60 = .ok (.invokevirtual 46, 3) := by decide +kernel
theorem d_D_copyGates_63 : decode prog_3_method_26_code 63 = .ok (.invokevirtual 103, 3) := by decide +kernel
theorem d_D_copyGates_66 : decode prog_3_method_26_code 66 = .ok (.invokevirtual 106, 3) := by decide +kernel
theorem d_D_copyGates_69 : decode prog_3_method_26_code 69 = .ok (.aload_n 0, 1) := by decide +kernel
theorem d_D_copyGates_70 : decode prog_3_method_26_code 70 = .ok (.bipush 6, 2) := by decide +kernel
theorem d_D_copyGates_72 : decode prog_3_method_26_code 72 = .ok (.iload_n 2, 1) := by decide +kernel
theorem d_D_copyGates_73 : decode prog_3_method_26_code 73 = .ok (.iload 4, 2) := by decide +kernel
theorem d_D_copyGates_75 : decode prog_3_method_26_code 75 = .ok (.iload 5, 2) := by decide +kernel
theorem d_D_copyGates_77 : decode prog_3_method_26_code 77 = .ok (.invokestatic 39, 3) := by decide +kernel
theorem d_D_copyGates_80 : decode prog_3_method_26_code 80 = .ok (.invokevirtual 106, 3) := by decide +kernel
theorem d_D_copyGates_83 : decode prog_3_method_26_code 83 = .ok (.aload_n 0, 1) := by decide +kernel
theorem d_D_copyGates_84 : decode prog_3_method_26_code 84 = .ok (.bipush 7, 2) := by decide +kernel
theorem d_D_copyGates_86 : decode prog_3_method_26_code 86 = .ok (.iload_n 2, 1) := by decide +kernel
theorem d_D_copyGates_87 : decode prog_3_method_26_code 87 = .ok (.iload 4, 2) := by decide +kernel
theorem d_D_copyGates_89 : decode prog_3_method_26_code 89 = .ok (.iload 5, 2) := by decide +kernel
theorem d_D_copyGates_91 : decode prog_3_method_26_code 91 = .ok (.invokestatic 33, 3) := by decide +kernel
theorem d_D_copyGates_94 : decode prog_3_method_26_code 94 = .ok (.invokevirtual 106, 3) := by decide +kernel
theorem d_D_copyGates_97 : decode prog_3_method_26_code 97 = .ok (.iinc 2 1, 3) := by decide +kernel
theorem d_D_copyGates_100 : decode prog_3_method_26_code 100 = .ok (.goto (-88), 3) := by decide +kernel
theorem d_D_copyGates_103 : decode prog_3_method_26_code 103 = .ok (.return_, 1) := by decide +kernel
theorem d_D_renumbered_0 : decode prog_3_method_27_code 0 = .ok (.iconst 2, 1) := by decide +kernel
theorem d_D_renumbered_1 : decode prog_3_method_27_code 1 = .ok (.aload_n 0, 1) := by decide +kernel
theorem d_D_renumbered_2 : decode prog_3_method_27_code 2 = .ok (.iload_n 1, 1) := by decide +kernel
theorem d_D_renumbered_3 : decode prog_3_method_27_code 3 = .ok (.invokevirtual 70, 3) := by decide +kernel
theorem d_D_renumbered_6 : decode prog_3_method_27_code 6 = .ok (.imul, 1) := by decide +kernel
theorem d_D_renumbered_7 : decode prog_3_method_27_code 7 = .ok (.iload_n 1, 1) := by decide +kernel
theorem d_D_renumbered_8 : decode prog_3_method_27_code 8 = .ok (.iconst 1, 1) := by decide +kernel
theorem d_D_renumbered_9 : decode prog_3_method_27_code 9 = .ok (.iand, 1) := by decide +kernel
theorem d_D_renumbered_10 : decode prog_3_method_27_code 10 = .ok (.iadd, 1) := by decide +kernel
theorem d_D_renumbered_11 : decode prog_3_method_27_code 11 = .ok (.ireturn, 1) := by decide +kernel
theorem d_D_mark_0 : decode prog_3_method_28_code 0 = .ok (.iload_n 1, 1) := by decide +kernel
theorem d_D_mark_1 : decode prog_3_method_28_code 1 = .ok (.iconst 1, 1) := by decide +kernel
theorem d_D_mark_2 : decode prog_3_method_28_code 2 = .ok (.ishr, 1) := by decide +kernel
theorem d_D_mark_3 : decode prog_3_method_28_code 3 = .ok (.istore_n 3, 1) := by decide +kernel
theorem d_D_mark_4 : decode prog_3_method_28_code 4 = .ok (.iload_n 3, 1) := by decide +kernel
theorem d_D_mark_5 : decode prog_3_method_28_code 5 = .ok (.ifCond .lt 19, 3) := by decide +kernel
theorem d_D_mark_8 : decode prog_3_method_28_code 8 = .ok (.iload_n 3, 1) := by decide +kernel
theorem d_D_mark_9 : decode prog_3_method_28_code 9 = .ok (.aload_n 0, 1) := by decide +kernel
theorem d_D_mark_10 : decode prog_3_method_28_code 10 = .ok (.getfield 23, 3) := by decide +kernel
theorem d_D_mark_13 : decode prog_3_method_28_code 13 = .ok (.arraylength, 1) := by decide +kernel
theorem d_D_mark_14 : decode prog_3_method_28_code 14 = .ok (.if_icmp .ge 10, 3) := by decide +kernel
theorem d_D_mark_17 : decode prog_3_method_28_code 17 = .ok (.aload_n 0, 1) := by decide +kernel
theorem d_D_mark_18 : decode prog_3_method_28_code 18 = .ok (.getfield 23, 3) := by decide +kernel
theorem d_D_mark_21 : decode prog_3_method_28_code 21 = .ok (.iload_n 3, 1) := by decide +kernel
theorem d_D_mark_22 : decode prog_3_method_28_code 22 = .ok (.iload_n 2, 1) := by decide +kernel
theorem d_D_mark_23 : decode prog_3_method_28_code 23 = .ok (.iastore, 1) := by decide +kernel
theorem d_D_mark_24 : decode prog_3_method_28_code 24 = .ok (.return_, 1) := by decide +kernel
theorem d_D_markOf_0 : decode prog_3_method_29_code 0 = .ok (.iload_n 1, 1) := by decide +kernel
theorem d_D_markOf_1 : decode prog_3_method_29_code 1 = .ok (.iconst 1, 1) := by decide +kernel
theorem d_D_markOf_2 : decode prog_3_method_29_code 2 = .ok (.ishr, 1) := by decide +kernel
theorem d_D_markOf_3 : decode prog_3_method_29_code 3 = .ok (.istore_n 2, 1) := by decide +kernel
theorem d_D_markOf_4 : decode prog_3_method_29_code 4 = .ok (.iload_n 2, 1) := by decide +kernel
theorem d_D_markOf_5 : decode prog_3_method_29_code 5 = .ok (.ifCond .lt 21, 3) := by decide +kernel
theorem d_D_markOf_8 : decode prog_3_method_29_code 8 = .ok (.iload_n 2, 1) := by decide +kernel
theorem d_D_markOf_9 : decode prog_3_method_29_code 9 = .ok (.aload_n 0, 1) := by decide +kernel
theorem d_D_markOf_10 : decode prog_3_method_29_code 10 = .ok (.getfield 23, 3) := by decide +kernel
theorem d_D_markOf_13 : decode prog_3_method_29_code 13 = .ok (.arraylength, 1) := by decide +kernel
theorem d_D_markOf_14 : decode prog_3_method_29_code 14 = .ok (.if_icmp .ge 12, 3) := by decide +kernel
theorem d_D_markOf_17 : decode prog_3_method_29_code 17 = .ok (.aload_n 0, 1) := by decide +kernel
theorem d_D_markOf_18 : decode prog_3_method_29_code 18 = .ok (.getfield 23, 3) := by decide +kernel
theorem d_D_markOf_21 : decode prog_3_method_29_code 21 = .ok (.iload_n 2, 1) := by decide +kernel
theorem d_D_markOf_22 : decode prog_3_method_29_code 22 = .ok (.iaload, 1) := by decide +kernel
theorem d_D_markOf_23 : decode prog_3_method_29_code 23 = .ok (.goto 4, 3) := by decide +kernel
theorem d_D_markOf_26 : decode prog_3_method_29_code 26 = .ok (.iconst 0, 1) := by decide +kernel
theorem d_D_markOf_27 : decode prog_3_method_29_code 27 = .ok (.ireturn, 1) := by decide +kernel
theorem d_W_plain_0 : decode prog_4_method_2_code 0 = .ok (.aload_n 0, 1) := by decide +kernel
theorem d_W_plain_1 : decode prog_4_method_2_code 1 = .ok (.aload_n 1, 1) := by decide +kernel
theorem d_W_plain_2 : decode prog_4_method_2_code 2 = .ok (.bipush 97, 2) := by decide +kernel
theorem d_W_plain_4 : decode prog_4_method_2_code 4 = .ok (.invokevirtual 15, 3) := by decide +kernel
theorem d_W_plain_7 : decode prog_4_method_2_code 7 = .ok (.iconst 0, 1) := by decide +kernel
theorem d_W_plain_8 : decode prog_4_method_2_code 8 = .ok (.istore_n 2, 1) := by decide +kernel
theorem d_W_plain_9 : decode prog_4_method_2_code 9 = .ok (.iload_n 2, 1) := by decide +kernel
theorem d_W_plain_10 : decode prog_4_method_2_code 10 = .ok (.aload_n 1, 1) := by decide +kernel
theorem d_W_plain_11 : decode prog_4_method_2_code 11 = .ok (.iconst 0, 1) := by decide +kernel
theorem d_W_plain_12 : decode prog_4_method_2_code 12 = .ok (.invokevirtual 19, 3) := by decide +kernel
theorem d_W_plain_15 : decode prog_4_method_2_code 15 = .ok (.if_icmp .ge 19, 3) := by decide +kernel
theorem d_W_plain_18 : decode prog_4_method_2_code 18 = .ok (.aload_n 0, 1) := by decide +kernel
theorem d_W_plain_19 : decode prog_4_method_2_code 19 = .ok (.aload_n 1, 1) := by decide +kernel
theorem d_W_plain_20 : decode prog_4_method_2_code 20 = .ok (.iconst 0, 1) := by decide +kernel
theorem d_W_plain_21 : decode prog_4_method_2_code 21 = .ok (.iload_n 2, 1) := by decide +kernel
theorem d_W_plain_22 : decode prog_4_method_2_code 22 = .ok (.invokevirtual 25, 3) := by decide +kernel
theorem d_W_plain_25 : decode prog_4_method_2_code 25 = .ok (.invokevirtual 29, 3) := by decide +kernel
theorem d_W_plain_28 : decode prog_4_method_2_code 28 = .ok (.iinc 2 1, 3) := by decide +kernel
theorem d_W_plain_31 : decode prog_4_method_2_code 31 = .ok (.goto (-22), 3) := by decide +kernel
theorem d_W_plain_34 : decode prog_4_method_2_code 34 = .ok (.iconst 0, 1) := by decide +kernel
theorem d_W_plain_35 : decode prog_4_method_2_code 35 = .ok (.istore_n 2, 1) := by decide +kernel
theorem d_W_plain_36 : decode prog_4_method_2_code 36 = .ok (.iload_n 2, 1) := by decide +kernel
theorem d_W_plain_37 : decode prog_4_method_2_code 37 = .ok (.aload_n 1, 1) := by decide +kernel
theorem d_W_plain_38 : decode prog_4_method_2_code 38 = .ok (.iconst 1, 1) := by decide +kernel
theorem d_W_plain_39 : decode prog_4_method_2_code 39 = .ok (.invokevirtual 19, 3) := by decide +kernel
theorem d_W_plain_42 : decode prog_4_method_2_code 42 = .ok (.if_icmp .ge 25, 3) := by decide +kernel
theorem d_W_plain_45 : decode prog_4_method_2_code 45 = .ok (.aload_n 0, 1) := by decide +kernel
theorem d_W_plain_46 : decode prog_4_method_2_code 46 = .ok (.aload_n 1, 1) := by decide +kernel
theorem d_W_plain_47 : decode prog_4_method_2_code 47 = .ok (.iconst 1, 1) := by decide +kernel
theorem d_W_plain_48 : decode prog_4_method_2_code 48 = .ok (.iload_n 2, 1) := by decide +kernel
theorem d_W_plain_49 : decode prog_4_method_2_code 49 = .ok (.invokevirtual 25, 3) := by decide +kernel
theorem d_W_plain_52 : decode prog_4_method_2_code 52 = .ok (.invokevirtual 33, 3) := by decide +kernel
theorem d_W_plain_55 : decode prog_4_method_2_code 55 = .ok (.aload_n 0, 1) := by decide +kernel
theorem d_W_plain_56 : decode prog_4_method_2_code 56 = .ok (.aload_n 1, 1) := by decide +kernel
theorem d_W_plain_57 : decode prog_4_method_2_code 57 = .ok (.iload_n 2, 1) := by decide +kernel
theorem d_W_plain_58 : decode prog_4_method_2_code 58 = .ok (.invokevirtual 36, 3) := by decide +kernel
theorem d_W_plain_61 : decode prog_4_method_2_code 61 = .ok (.iinc 2 1, 3) := by decide +kernel
theorem d_W_plain_64 : decode prog_4_method_2_code 64 = .ok (.goto (-28), 3) := by decide +kernel
theorem d_W_plain_67 : decode prog_4_method_2_code 67 = .ok (.aload_n 0, 1) := by decide +kernel
theorem d_W_plain_68 : decode prog_4_method_2_code 68 = .ok (.aload_n 1, 1) := by decide +kernel
theorem d_W_plain_69 : decode prog_4_method_2_code 69 = .ok (.invokevirtual 39, 3) := by decide +kernel
theorem d_W_plain_72 : decode prog_4_method_2_code 72 = .ok (.iconst 0, 1) := by decide +kernel
theorem d_W_plain_73 : decode prog_4_method_2_code 73 = .ok (.istore_n 2, 1) := by decide +kernel
theorem d_W_plain_74 : decode prog_4_method_2_code 74 = .ok (.iload_n 2, 1) := by decide +kernel
theorem d_W_plain_75 : decode prog_4_method_2_code 75 = .ok (.aload_n 1, 1) := by decide +kernel
theorem d_W_plain_76 : decode prog_4_method_2_code 76 = .ok (.iconst 3, 1) := by decide +kernel
theorem d_W_plain_77 : decode prog_4_method_2_code 77 = .ok (.invokevirtual 19, 3) := by decide +kernel
theorem d_W_plain_80 : decode prog_4_method_2_code 80 = .ok (.if_icmp .ge 41, 3) := by decide +kernel
theorem d_W_plain_83 : decode prog_4_method_2_code 83 = .ok (.aload_n 0, 1) := by decide +kernel
theorem d_W_plain_84 : decode prog_4_method_2_code 84 = .ok (.aload_n 1, 1) := by decide +kernel
theorem d_W_plain_85 : decode prog_4_method_2_code 85 = .ok (.iconst 3, 1) := by decide +kernel
theorem d_W_plain_86 : decode prog_4_method_2_code 86 = .ok (.iload_n 2, 1) := by decide +kernel
theorem d_W_plain_87 : decode prog_4_method_2_code 87 = .ok (.invokevirtual 25, 3) := by decide +kernel
theorem d_W_plain_90 : decode prog_4_method_2_code 90 = .ok (.invokevirtual 33, 3) := by decide +kernel
theorem d_W_plain_93 : decode prog_4_method_2_code 93 = .ok (.aload_n 0, 1) := by decide +kernel
theorem d_W_plain_94 : decode prog_4_method_2_code 94 = .ok (.aload_n 1, 1) := by decide +kernel
theorem d_W_plain_95 : decode prog_4_method_2_code 95 = .ok (.bipush 6, 2) := by decide +kernel
theorem d_W_plain_97 : decode prog_4_method_2_code 97 = .ok (.iload_n 2, 1) := by decide +kernel
theorem d_W_plain_98 : decode prog_4_method_2_code 98 = .ok (.invokevirtual 25, 3) := by decide +kernel
theorem d_W_plain_101 : decode prog_4_method_2_code 101 = .ok (.invokevirtual 33, 3) := by decide +kernel
theorem d_W_plain_104 : decode prog_4_method_2_code 104 = .ok (.aload_n 0, 1) := by decide +kernel
theorem d_W_plain_105 : decode prog_4_method_2_code 105 = .ok (.aload_n 1, 1) := by decide +kernel
theorem d_W_plain_106 : decode prog_4_method_2_code 106 = .ok (.bipush 7, 2) := by decide +kernel
theorem d_W_plain_108 : decode prog_4_method_2_code 108 = .ok (.iload_n 2, 1) := by decide +kernel
theorem d_W_plain_109 : decode prog_4_method_2_code 109 = .ok (.invokevirtual 25, 3) := by decide +kernel
theorem d_W_plain_112 : decode prog_4_method_2_code 112 = .ok (.invokevirtual 29, 3) := by decide +kernel
theorem d_W_plain_115 : decode prog_4_method_2_code 115 = .ok (.iinc 2 1, 3) := by decide +kernel
theorem d_W_plain_118 : decode prog_4_method_2_code 118 = .ok (.goto (-44), 3) := by decide +kernel
theorem d_W_plain_121 : decode prog_4_method_2_code 121 = .ok (.return_, 1) := by decide +kernel
theorem d_W_packed_0 : decode prog_4_method_3_code 0 = .ok (.aload_n 0, 1) := by decide +kernel
theorem d_W_packed_1 : decode prog_4_method_3_code 1 = .ok (.aload_n 1, 1) := by decide +kernel
theorem d_W_packed_2 : decode prog_4_method_3_code 2 = .ok (.bipush 105, 2) := by decide +kernel
theorem d_W_packed_4 : decode prog_4_method_3_code 4 = .ok (.invokevirtual 15, 3) := by decide +kernel
theorem d_W_packed_7 : decode prog_4_method_3_code 7 = .ok (.iconst 0, 1) := by decide +kernel
theorem d_W_packed_8 : decode prog_4_method_3_code 8 = .ok (.istore_n 2, 1) := by decide +kernel
theorem d_W_packed_9 : decode prog_4_method_3_code 9 = .ok (.iload_n 2, 1) := by decide +kernel
theorem d_W_packed_10 : decode prog_4_method_3_code 10 = .ok (.aload_n 1, 1) := by decide +kernel
theorem d_W_packed_11 : decode prog_4_method_3_code 11 = .ok (.iconst 1, 1) := by decide +kernel
theorem d_W_packed_12 : decode prog_4_method_3_code 12 = .ok (.invokevirtual 19, 3) := by decide +kernel
theorem d_W_packed_15 : decode prog_4_method_3_code 15 = .ok (.if_icmp .ge 15, 3) := by decide +kernel
theorem d_W_packed_18 : decode prog_4_method_3_code 18 = .ok (.aload_n 0, 1) := by decide +kernel
theorem d_W_packed_19 : decode prog_4_method_3_code 19 = .ok (.aload_n 1, 1) := by decide +kernel
theorem d_W_packed_20 : decode prog_4_method_3_code 20 = .ok (.iload_n 2, 1) := by decide +kernel
theorem d_W_packed_21 : decode prog_4_method_3_code 21 = .ok (.invokevirtual 36, 3) := by decide +kernel
theorem d_W_packed_24 : decode prog_4_method_3_code 24 = .ok (.iinc 2 1, 3) := by decide +kernel
theorem d_W_packed_27 : decode prog_4_method_3_code 27 = .ok (.goto (-18), 3) := by decide +kernel
theorem d_W_packed_30 : decode prog_4_method_3_code 30 = .ok (.aload_n 0, 1) := by decide +kernel
theorem d_W_packed_31 : decode prog_4_method_3_code 31 = .ok (.aload_n 1, 1) := by decide +kernel
theorem d_W_packed_32 : decode prog_4_method_3_code 32 = .ok (.invokevirtual 39, 3) := by decide +kernel
theorem d_W_packed_35 : decode prog_4_method_3_code 35 = .ok (.iconst 0, 1) := by decide +kernel
theorem d_W_packed_36 : decode prog_4_method_3_code 36 = .ok (.istore_n 2, 1) := by decide +kernel
theorem d_W_packed_37 : decode prog_4_method_3_code 37 = .ok (.iload_n 2, 1) := by decide +kernel
theorem d_W_packed_38 : decode prog_4_method_3_code 38 = .ok (.aload_n 1, 1) := by decide +kernel
theorem d_W_packed_39 : decode prog_4_method_3_code 39 = .ok (.iconst 3, 1) := by decide +kernel
theorem d_W_packed_40 : decode prog_4_method_3_code 40 = .ok (.invokevirtual 19, 3) := by decide +kernel
theorem d_W_packed_43 : decode prog_4_method_3_code 43 = .ok (.if_icmp .ge 42, 3) := by decide +kernel
theorem d_W_packed_46 : decode prog_4_method_3_code 46 = .ok (.aload_n 1, 1) := by decide +kernel
theorem d_W_packed_47 : decode prog_4_method_3_code 47 = .ok (.bipush 6, 2) := by decide +kernel
theorem d_W_packed_49 : decode prog_4_method_3_code 49 = .ok (.iload_n 2, 1) := by decide +kernel
theorem d_W_packed_50 : decode prog_4_method_3_code 50 = .ok (.invokevirtual 25, 3) := by decide +kernel
theorem d_W_packed_53 : decode prog_4_method_3_code 53 = .ok (.istore_n 3, 1) := by decide +kernel
theorem d_W_packed_54 : decode prog_4_method_3_code 54 = .ok (.aload_n 0, 1) := by decide +kernel
theorem d_W_packed_55 : decode prog_4_method_3_code 55 = .ok (.aload_n 1, 1) := by decide +kernel
theorem d_W_packed_56 : decode prog_4_method_3_code 56 = .ok (.iconst 3, 1) := by decide +kernel
theorem d_W_packed_57 : decode prog_4_method_3_code 57 = .ok (.iload_n 2, 1) := by decide +kernel
theorem d_W_packed_58 : decode prog_4_method_3_code 58 = .ok (.invokevirtual 25, 3) := by decide +kernel
theorem d_W_packed_61 : decode prog_4_method_3_code 61 = .ok (.iload_n 3, 1) := by decide +kernel
theorem d_W_packed_62 : decode prog_4_method_3_code 62 = .ok (.isub, 1) := by decide +kernel
theorem d_W_packed_63 : decode prog_4_method_3_code 63 = .ok (.invokevirtual 43, 3) := by decide +kernel
theorem d_W_packed_66 : decode prog_4_method_3_code 66 = .ok (.aload_n 0, 1) := by decide +kernel
theorem d_W_packed_67 : decode prog_4_method_3_code 67 = .ok (.iload_n 3, 1) := by decide +kernel
theorem d_W_packed_68 : decode prog_4_method_3_code 68 = .ok (.aload_n 1, 1) := by decide +kernel
theorem d_W_packed_69 : decode prog_4_method_3_code 69 = .ok (.bipush 7, 2) := by decide +kernel
theorem d_W_packed_71 : decode prog_4_method_3_code 71 = .ok (.iload_n 2, 1) := by decide +kernel
theorem d_W_packed_72 : decode prog_4_method_3_code 72 = .ok (.invokevirtual 25, 3) := by decide +kernel
theorem d_W_packed_75 : decode prog_4_method_3_code 75 = .ok (.isub, 1) := by decide +kernel
theorem d_W_packed_76 : decode prog_4_method_3_code 76 = .ok (.invokevirtual 43, 3) := by decide +kernel
theorem d_W_packed_79 : decode prog_4_method_3_code 79 = .ok (.iinc 2 1, 3) := by decide +kernel
theorem d_W_packed_82 : decode prog_4_method_3_code 82 = .ok (.goto (-45), 3) := by decide +kernel
theorem d_W_packed_85 : decode prog_4_method_3_code 85 = .ok (.return_, 1) := by decide +kernel
theorem d_W_header_0 : decode prog_4_method_4_code 0 = .ok (.aload_n 0, 1) := by decide +kernel
theorem d_W_header_1 : decode prog_4_method_4_code 1 = .ok (.getfield 9, 3) := by decide +kernel
theorem d_W_header_4 : decode prog_4_method_4_code 4 = .ok (.bipush 97, 2) := by decide +kernel
theorem d_W_header_6 : decode prog_4_method_4_code 6 = .ok (.invokevirtual 46, 3) := by decide +kernel
theorem d_W_header_9 : decode prog_4_method_4_code 9 = .ok (.aload_n 0, 1) := by decide +kernel
theorem d_W_header_10 : decode prog_4_method_4_code 10 = .ok (.getfield 9, 3) := by decide +kernel
theorem d_W_header_13 : decode prog_4_method_4_code 13 = .ok (.iload_n 2, 1) := by decide +kernel
theorem d_W_header_14 : decode prog_4_method_4_code 14 = .ok (.invokevirtual 46, 3) := by decide +kernel
theorem d_W_header_17 : decode prog_4_method_4_code 17 = .ok (.aload_n 0, 1) := by decide +kernel
theorem d_W_header_18 : decode prog_4_method_4_code 18 = .ok (.getfield 9, 3) := by decide +kernel
theorem d_W_header_21 : decode prog_4_method_4_code 21 = .ok (.bipush 103, 2) := by decide +kernel
theorem d_W_header_23 : decode prog_4_method_4_code 23 = .ok (.invokevirtual 46, 3) := by decide +kernel
theorem d_W_header_26 : decode prog_4_method_4_code 26 = .ok (.aload_n 0, 1) := by decide +kernel
theorem d_W_header_27 : decode prog_4_method_4_code 27 = .ok (.getfield 9, 3) := by decide +kernel
theorem d_W_header_30 : decode prog_4_method_4_code 30 = .ok (.bipush 32, 2) := by decide +kernel
theorem d_W_header_32 : decode prog_4_method_4_code 32 = .ok (.invokevirtual 46, 3) := by decide +kernel
theorem d_W_header_35 : decode prog_4_method_4_code 35 = .ok (.aload_n 0, 1) := by decide +kernel
theorem d_W_header_36 : decode prog_4_method_4_code 36 = .ok (.aload_n 1, 1) := by decide +kernel
theorem d_W_header_37 : decode prog_4_method_4_code 37 = .ok (.invokevirtual 51, 3) := by decide +kernel
theorem d_W_header_40 : decode prog_4_method_4_code 40 = .ok (.invokevirtual 33, 3) := by decide +kernel
theorem d_W_header_43 : decode prog_4_method_4_code 43 = .ok (.aload_n 0, 1) := by decide +kernel
theorem d_W_header_44 : decode prog_4_method_4_code 44 = .ok (.aload_n 1, 1) := by decide +kernel
theorem d_W_header_45 : decode prog_4_method_4_code 45 = .ok (.iconst 0, 1) := by decide +kernel
theorem d_W_header_46 : decode prog_4_method_4_code 46 = .ok (.invokevirtual 19, 3) := by decide +kernel
theorem d_W_header_49 : decode prog_4_method_4_code 49 = .ok (.invokevirtual 33, 3) := by decide +kernel
theorem d_W_header_52 : decode prog_4_method_4_code 52 = .ok (.aload_n 0, 1) := by decide +kernel
theorem d_W_header_53 : decode prog_4_method_4_code 53 = .ok (.aload_n 1, 1) := by decide +kernel
theorem d_W_header_54 : decode prog_4_method_4_code 54 = .ok (.iconst 1, 1) := by decide +kernel
theorem d_W_header_55 : decode prog_4_method_4_code 55 = .ok (.invokevirtual 19, 3) := by decide +kernel
theorem d_W_header_58 : decode prog_4_method_4_code 58 = .ok (.invokevirtual 33, 3) := by decide +kernel
theorem d_W_header_61 : decode prog_4_method_4_code 61 = .ok (.aload_n 0, 1) := by decide +kernel
theorem d_W_header_62 : decode prog_4_method_4_code 62 = .ok (.aload_n 1, 1) := by decide +kernel
theorem d_W_header_63 : decode prog_4_method_4_code 63 = .ok (.iconst 2, 1) := by decide +kernel
theorem d_W_header_64 : decode prog_4_method_4_code 64 = .ok (.invokevirtual 19, 3) := by decide +kernel
theorem d_W_header_67 : decode prog_4_method_4_code 67 = .ok (.invokevirtual 33, 3) := by decide +kernel
theorem d_W_header_70 : decode prog_4_method_4_code 70 = .ok (.aload_n 0, 1) := by decide +kernel
theorem d_W_header_71 : decode prog_4_method_4_code 71 = .ok (.aload_n 1, 1) := by decide +kernel
theorem d_W_header_72 : decode prog_4_method_4_code 72 = .ok (.iconst 3, 1) := by decide +kernel
theorem d_W_header_73 : decode prog_4_method_4_code 73 = .ok (.invokevirtual 19, 3) := by decide +kernel
theorem d_W_header_76 : decode prog_4_method_4_code 76 = .ok (.invokevirtual 29, 3) := by decide +kernel
theorem d_W_header_79 : decode prog_4_method_4_code 79 = .ok (.return_, 1) := by decide +kernel
theorem d_W_nextAndFirst_0 : decode prog_4_method_5_code 0 = .ok (.aload_n 1, 1) := by decide +kernel
theorem d_W_nextAndFirst_1 : decode prog_4_method_5_code 1 = .ok (.iconst 5, 1) := by decide +kernel
theorem d_W_nextAndFirst_2 : decode prog_4_method_5_code 2 = .ok (.iload_n 2, 1) := by decide +kernel
theorem d_W_nextAndFirst_3 : decode prog_4_method_5_code 3 = .ok (.invokevirtual 25, 3) := by decide +kernel
theorem d_W_nextAndFirst_6 : decode prog_4_method_5_code 6 = .ok (.iconst 1, 1) := by decide +kernel
theorem d_W_nextAndFirst_7 : decode prog_4_method_5_code 7 = .ok (.if_icmp .ne 21, 3) := by decide +kernel
theorem d_W_nextAndFirst_10 : decode prog_4_method_5_code 10 = .ok (.aload_n 0, 1) := by decide +kernel
theorem d_W_nextAndFirst_11 : decode prog_4_method_5_code 11 = .ok (.aload_n 1, 1) := by decide +kernel
theorem d_W_nextAndFirst_12 : decode prog_4_method_5_code 12 = .ok (.iconst 4, 1) := by decide +kernel
theorem d_W_nextAndFirst_13 : decode prog_4_method_5_code 13 = .ok (.iload_n 2, 1) := by decide +kernel
theorem d_W_nextAndFirst_14 : decode prog_4_method_5_code 14 = .ok (.invokevirtual 25, 3) := by decide +kernel
theorem d_W_nextAndFirst_17 : decode prog_4_method_5_code 17 = .ok (.invokevirtual 33, 3) := by decide +kernel
theorem d_W_nextAndFirst_20 : decode prog_4_method_5_code 20 = .ok (.aload_n 0, 1) := by decide +kernel
theorem d_W_nextAndFirst_21 : decode prog_4_method_5_code 21 = .ok (.iconst 1, 1) := by decide +kernel
theorem d_W_nextAndFirst_22 : decode prog_4_method_5_code 22 = .ok (.invokevirtual 29, 3) := by decide +kernel
theorem d_W_nextAndFirst_25 : decode prog_4_method_5_code 25 = .ok (.goto 13, 3) := by decide +kernel
theorem d_W_nextAndFirst_28 : decode prog_4_method_5_code 28 = .ok (.aload_n 0, 1) := by decide +kernel
theorem d_W_nextAndFirst_29 : decode prog_4_method_5_code 29 = .ok (.aload_n 1, 1) := by decide +kernel
theorem d_W_nextAndFirst_30 : decode prog_4_method_5_code 30 = .ok (.iconst 4, 1) := by decide +kernel
theorem d_W_nextAndFirst_31 : decode prog_4_method_5_code 31 = .ok (.iload_n 2, 1) := by decide +kernel
theorem d_W_nextAndFirst_32 : decode prog_4_method_5_code 32 = .ok (.invokevirtual 25, 3) := by decide +kernel
theorem d_W_nextAndFirst_35 : decode prog_4_method_5_code 35 = .ok (.invokevirtual 29, 3) := by decide +kernel
theorem d_W_nextAndFirst_38 : decode prog_4_method_5_code 38 = .ok (.return_, 1) := by decide +kernel
theorem d_W_outputs_0 : decode prog_4_method_6_code 0 = .ok (.iconst 0, 1) := by decide +kernel
theorem d_W_outputs_1 : decode prog_4_method_6_code 1 = .ok (.istore_n 2, 1) := by decide +kernel
theorem d_W_outputs_2 : decode prog_4_method_6_code 2 = .ok (.iload_n 2, 1) := by decide +kernel
theorem d_W_outputs_3 : decode prog_4_method_6_code 3 = .ok (.aload_n 1, 1) := by decide +kernel
theorem d_W_outputs_4 : decode prog_4_method_6_code 4 = .ok (.iconst 2, 1) := by decide +kernel
theorem d_W_outputs_5 : decode prog_4_method_6_code 5 = .ok (.invokevirtual 19, 3) := by decide +kernel
theorem d_W_outputs_8 : decode prog_4_method_6_code 8 = .ok (.if_icmp .ge 19, 3) := by decide +kernel
theorem d_W_outputs_11 : decode prog_4_method_6_code 11 = .ok (.aload_n 0, 1) := by decide +kernel
theorem d_W_outputs_12 : decode prog_4_method_6_code 12 = .ok (.aload_n 1, 1) := by decide +kernel
theorem d_W_outputs_13 : decode prog_4_method_6_code 13 = .ok (.iconst 2, 1) := by decide +kernel
theorem d_W_outputs_14 : decode prog_4_method_6_code 14 = .ok (.iload_n 2, 1) := by decide +kernel
theorem d_W_outputs_15 : decode prog_4_method_6_code 15 = .ok (.invokevirtual 25, 3) := by decide +kernel
theorem d_W_outputs_18 : decode prog_4_method_6_code 18 = .ok (.invokevirtual 29, 3) := by decide +kernel
theorem d_W_outputs_21 : decode prog_4_method_6_code 21 = .ok (.iinc 2 1, 3) := by decide +kernel
theorem d_W_outputs_24 : decode prog_4_method_6_code 24 = .ok (.goto (-22), 3) := by decide +kernel
theorem d_W_outputs_27 : decode prog_4_method_6_code 27 = .ok (.return_, 1) := by decide +kernel
theorem d_W_numberAndBlank_0 : decode prog_4_method_7_code 0 = .ok (.aload_n 0, 1) := by decide +kernel
theorem d_W_numberAndBlank_1 : decode prog_4_method_7_code 1 = .ok (.iload_n 1, 1) := by decide +kernel
theorem d_W_numberAndBlank_2 : decode prog_4_method_7_code 2 = .ok (.invokevirtual 55, 3) := by decide +kernel
theorem d_W_numberAndBlank_5 : decode prog_4_method_7_code 5 = .ok (.aload_n 0, 1) := by decide +kernel
theorem d_W_numberAndBlank_6 : decode prog_4_method_7_code 6 = .ok (.getfield 9, 3) := by decide +kernel
theorem d_W_numberAndBlank_9 : decode prog_4_method_7_code 9 = .ok (.bipush 32, 2) := by decide +kernel
theorem d_W_numberAndBlank_11 : decode prog_4_method_7_code 11 = .ok (.invokevirtual 46, 3) := by decide +kernel
theorem d_W_numberAndBlank_14 : decode prog_4_method_7_code 14 = .ok (.return_, 1) := by decide +kernel
theorem d_W_lastNumber_0 : decode prog_4_method_8_code 0 = .ok (.aload_n 0, 1) := by decide +kernel
theorem d_W_lastNumber_1 : decode prog_4_method_8_code 1 = .ok (.iload_n 1, 1) := by decide +kernel
theorem d_W_lastNumber_2 : decode prog_4_method_8_code 2 = .ok (.invokevirtual 55, 3) := by decide +kernel
theorem d_W_lastNumber_5 : decode prog_4_method_8_code 5 = .ok (.aload_n 0, 1) := by decide +kernel
theorem d_W_lastNumber_6 : decode prog_4_method_8_code 6 = .ok (.getfield 9, 3) := by decide +kernel
theorem d_W_lastNumber_9 : decode prog_4_method_8_code 9 = .ok (.bipush 10, 2) := by decide +kernel
theorem d_W_lastNumber_11 : decode prog_4_method_8_code 11 = .ok (.invokevirtual 46, 3) := by decide +kernel
theorem d_W_lastNumber_14 : decode prog_4_method_8_code 14 = .ok (.return_, 1) := by decide +kernel
theorem d_W_digits_0 : decode prog_4_method_9_code 0 = .ok (.iload_n 1, 1) := by decide +kernel
theorem d_W_digits_1 : decode prog_4_method_9_code 1 = .ok (.bipush 100, 2) := by decide +kernel
theorem d_W_digits_3 : decode prog_4_method_9_code 3 = .ok (.if_icmp .lt 20, 3) := by decide +kernel
theorem d_W_digits_6 : decode prog_4_method_9_code 6 = .ok (.aload_n 0, 1) := by decide +kernel
theorem d_W_digits_7 : decode prog_4_method_9_code 7 = .ok (.getfield 9, 3) := by decide +kernel
theorem d_W_digits_10 : decode prog_4_method_9_code 10 = .ok (.bipush 48, 2) := by decide +kernel
theorem d_W_digits_12 : decode prog_4_method_9_code 12 = .ok (.iload_n 1, 1) := by decide +kernel
theorem d_W_digits_13 : decode prog_4_method_9_code 13 = .ok (.bipush 100, 2) := by decide +kernel
theorem d_W_digits_15 : decode prog_4_method_9_code 15 = .ok (.idiv, 1) := by decide +kernel
theorem d_W_digits_16 : decode prog_4_method_9_code 16 = .ok (.bipush 10, 2) := by decide +kernel
theorem d_W_digits_18 : decode prog_4_method_9_code 18 = .ok (.irem, 1) := by decide +kernel
theorem d_W_digits_19 : decode prog_4_method_9_code 19 = .ok (.iadd, 1) := by decide +kernel
theorem d_W_digits_20 : decode prog_4_method_9_code 20 = .ok (.invokevirtual 46, 3) := by decide +kernel
theorem d_W_digits_23 : decode prog_4_method_9_code 23 = .ok (.iload_n 1, 1) := by decide +kernel
theorem d_W_digits_24 : decode prog_4_method_9_code 24 = .ok (.bipush 10, 2) := by decide +kernel
theorem d_W_digits_26 : decode prog_4_method_9_code 26 = .ok (.if_icmp .lt 20, 3) := by decide +kernel
theorem d_W_digits_29 : decode prog_4_method_9_code 29 = .ok (.aload_n 0, 1) := by decide +kernel
theorem d_W_digits_30 : decode prog_4_method_9_code 30 = .ok (.getfield 9, 3) := by decide +kernel
theorem d_W_digits_33 : decode prog_4_method_9_code 33 = .ok (.bipush 48, 2) := by decide +kernel
theorem d_W_digits_35 : decode prog_4_method_9_code 35 = .ok (.iload_n 1, 1) := by decide +kernel
theorem d_W_digits_36 : decode prog_4_method_9_code 36 = .ok (.bipush 10, 2) := by decide +kernel
theorem d_W_digits_38 : decode prog_4_method_9_code 38 = .ok (.idiv, 1) := by decide +kernel
theorem d_W_digits_39 : decode prog_4_method_9_code 39 = .ok (.bipush 10, 2) := by decide +kernel
theorem d_W_digits_41 : decode prog_4_method_9_code 41 = .ok (.irem, 1) := by decide +kernel
theorem d_W_digits_42 : decode prog_4_method_9_code 42 = .ok (.iadd, 1) := by decide +kernel
theorem d_W_digits_43 : decode prog_4_method_9_code 43 = .ok (.invokevirtual 46, 3) := by decide +kernel
theorem d_W_digits_46 : decode prog_4_method_9_code 46 = .ok (.aload_n 0, 1) := by decide +kernel
theorem d_W_digits_47 : decode prog_4_method_9_code 47 = .ok (.getfield 9, 3) := by decide +kernel
theorem d_W_digits_50 : decode prog_4_method_9_code 50 = .ok (.bipush 48, 2) := by decide +kernel
theorem d_W_digits_52 : decode prog_4_method_9_code 52 = .ok (.iload_n 1, 1) := by decide +kernel
theorem d_W_digits_53 : decode prog_4_method_9_code 53 = .ok (.bipush 10, 2) := by decide +kernel
theorem d_W_digits_55 : decode prog_4_method_9_code 55 = .ok (.irem, 1) := by decide +kernel
theorem d_W_digits_56 : decode prog_4_method_9_code 56 = .ok (.iadd, 1) := by decide +kernel
theorem d_W_digits_57 : decode prog_4_method_9_code 57 = .ok (.invokevirtual 46, 3) := by decide +kernel
theorem d_W_digits_60 : decode prog_4_method_9_code 60 = .ok (.return_, 1) := by decide +kernel
theorem d_W_difference_0 : decode prog_4_method_10_code 0 = .ok (.iload_n 1, 1) := by decide +kernel
theorem d_W_difference_1 : decode prog_4_method_10_code 1 = .ok (.sipush 128, 3) := by decide +kernel
theorem d_W_difference_4 : decode prog_4_method_10_code 4 = .ok (.if_icmp .lt 34, 3) := by decide +kernel
theorem d_W_difference_7 : decode prog_4_method_10_code 7 = .ok (.aload_n 0, 1) := by decide +kernel
theorem d_W_difference_8 : decode prog_4_method_10_code 8 = .ok (.getfield 9, 3) := by decide +kernel
theorem d_W_difference_11 : decode prog_4_method_10_code 11 = .ok (.iload_n 1, 1) := by decide +kernel
theorem d_W_difference_12 : decode prog_4_method_10_code 12 = .ok (.sipush 128, 3) := by decide +kernel
theorem d_W_difference_15 : decode prog_4_method_10_code 15 = .ok (.irem, 1) := by decide +kernel
theorem d_W_difference_16 : decode prog_4_method_10_code 16 = .ok (.sipush 128, 3) := by decide +kernel
theorem d_W_difference_19 : decode prog_4_method_10_code 19 = .ok (.iadd, 1) := by decide +kernel
theorem d_W_difference_20 : decode prog_4_method_10_code 20 = .ok (.invokevirtual 46, 3) := by decide +kernel
theorem d_W_difference_23 : decode prog_4_method_10_code 23 = .ok (.aload_n 0, 1) := by decide +kernel
theorem d_W_difference_24 : decode prog_4_method_10_code 24 = .ok (.getfield 9, 3) := by decide +kernel
theorem d_W_difference_27 : decode prog_4_method_10_code 27 = .ok (.iload_n 1, 1) := by decide +kernel
theorem d_W_difference_28 : decode prog_4_method_10_code 28 = .ok (.sipush 128, 3) := by decide +kernel
theorem d_W_difference_31 : decode prog_4_method_10_code 31 = .ok (.idiv, 1) := by decide +kernel
theorem d_W_difference_32 : decode prog_4_method_10_code 32 = .ok (.invokevirtual 46, 3) := by decide +kernel
theorem d_W_difference_35 : decode prog_4_method_10_code 35 = .ok (.goto 11, 3) := by decide +kernel
theorem d_W_difference_38 : decode prog_4_method_10_code 38 = .ok (.aload_n 0, 1) := by decide +kernel
theorem d_W_difference_39 : decode prog_4_method_10_code 39 = .ok (.getfield 9, 3) := by decide +kernel
theorem d_W_difference_42 : decode prog_4_method_10_code 42 = .ok (.iload_n 1, 1) := by decide +kernel
theorem d_W_difference_43 : decode prog_4_method_10_code 43 = .ok (.invokevirtual 46, 3) := by decide +kernel
theorem d_W_difference_46 : decode prog_4_method_10_code 46 = .ok (.return_, 1) := by decide +kernel
theorem d_R_fill_0 : decode prog_5_method_2_code 0 = .ok (.aload_n 0, 1) := by decide +kernel
theorem d_R_fill_1 : decode prog_5_method_2_code 1 = .ok (.iconst 0, 1) := by decide +kernel
theorem d_R_fill_2 : decode prog_5_method_2_code 2 = .ok (.putfield 36, 3) := by decide +kernel
theorem d_R_fill_5 : decode prog_5_method_2_code 5 = .ok (.aload_n 0, 1) := by decide +kernel
theorem d_R_fill_6 : decode prog_5_method_2_code 6 = .ok (.iconst (-1), 1) := by decide +kernel
theorem d_R_fill_7 : decode prog_5_method_2_code 7 = .ok (.putfield 40, 3) := by decide +kernel
theorem d_R_fill_10 : decode prog_5_method_2_code 10 = .ok (.aload_n 0, 1) := by decide +kernel
theorem d_R_fill_11 : decode prog_5_method_2_code 11 = .ok (.getfield 32, 3) := by decide +kernel
theorem d_R_fill_14 : decode prog_5_method_2_code 14 = .ok (.iconst 1, 1) := by decide +kernel
theorem d_R_fill_15 : decode prog_5_method_2_code 15 = .ok (.invokevirtual 43, 3) := by decide +kernel
theorem d_R_fill_18 : decode prog_5_method_2_code 18 = .ok (.bipush 105, 2) := by decide +kernel
theorem d_R_fill_20 : decode prog_5_method_2_code 20 = .ok (.if_icmp .ne 20, 3) := by decide +kernel
theorem d_R_fill_23 : decode prog_5_method_2_code 23 = .ok (.aload_n 0, 1) := by decide +kernel
theorem d_R_fill_24 : decode prog_5_method_2_code 24 = .ok (.getfield 32, 3) := by decide +kernel
theorem d_R_fill_27 : decode prog_5_method_2_code 27 = .ok (.iconst 2, 1) := by decide +kernel
theorem d_R_fill_28 : decode prog_5_method_2_code 28 = .ok (.invokevirtual 43, 3) := by decide +kernel
theorem d_R_fill_31 : decode prog_5_method_2_code 31 = .ok (.bipush 103, 2) := by decide +kernel
theorem d_R_fill_33 : decode prog_5_method_2_code 33 = .ok (.if_icmp .ne 7, 3) := by decide +kernel
theorem d_R_fill_36 : decode prog_5_method_2_code 36 = .ok (.iconst 1, 1) := by decide +kernel
theorem d_R_fill_37 : decode prog_5_method_2_code 37 = .ok (.goto 4, 3) := by decide +kernel
theorem d_R_fill_40 : decode prog_5_method_2_code 40 = .ok (.iconst 0, 1) := by decide +kernel
theorem d_R_fill_41 : decode prog_5_method_2_code 41 = .ok (.istore_n 2, 1) := by decide +kernel
theorem d_R_fill_42 : decode prog_5_method_2_code 42 = .ok (.aload_n 0, 1) := by decide +kernel
theorem d_R_fill_43 : decode prog_5_method_2_code 43 = .ok (.aload_n 1, 1) := by decide +kernel
theorem d_R_fill_44 : decode prog_5_method_2_code 44 = .ok (.iload_n 2, 1) := by decide +kernel
theorem d_R_fill_45 : decode prog_5_method_2_code 45 = .ok (.invokevirtual 49, 3) := by decide +kernel
theorem d_R_fill_48 : decode prog_5_method_2_code 48 = .ok (.aload_n 0, 1) := by decide +kernel
theorem d_R_fill_49 : decode prog_5_method_2_code 49 = .ok (.getfield 40, 3) := by decide +kernel
theorem d_R_fill_52 : decode prog_5_method_2_code 52 = .ok (.iconst (-1), 1) := by decide +kernel
theorem d_R_fill_53 : decode prog_5_method_2_code 53 = .ok (.if_icmp .ne 20, 3) := by decide +kernel
theorem d_R_fill_56 : decode prog_5_method_2_code 56 = .ok (.iload_n 2, 1) := by decide +kernel
theorem d_R_fill_57 : decode prog_5_method_2_code 57 = .ok (.ifCond .eq 16, 3) := by decide +kernel
theorem d_R_fill_60 : decode prog_5_method_2_code 60 = .ok (.aload_n 0, 1) := by decide +kernel
theorem d_R_fill_61 : decode prog_5_method_2_code 61 = .ok (.aload_n 1, 1) := by decide +kernel
theorem d_R_fill_62 : decode prog_5_method_2_code 62 = .ok (.invokevirtual 53, 3) := by decide +kernel
theorem d_R_fill_65 : decode prog_5_method_2_code 65 = .ok (.aload_n 0, 1) := by decide +kernel
theorem d_R_fill_66 : decode prog_5_method_2_code 66 = .ok (.aload_n 1, 1) := by decide +kernel
theorem d_R_fill_67 : decode prog_5_method_2_code 67 = .ok (.invokevirtual 57, 3) := by decide +kernel
theorem d_R_fill_70 : decode prog_5_method_2_code 70 = .ok (.goto 21, 3) := by decide +kernel
theorem d_R_fill_73 : decode prog_5_method_2_code 73 = .ok (.aload_n 0, 1) := by decide +kernel
theorem d_R_fill_74 : decode prog_5_method_2_code 74 = .ok (.getfield 40, 3) := by decide +kernel
theorem d_R_fill_77 : decode prog_5_method_2_code 77 = .ok (.iconst (-1), 1) := by decide +kernel
theorem d_R_fill_78 : decode prog_5_method_2_code 78 = .ok (.if_icmp .ne 13, 3) := by decide +kernel
theorem d_R_fill_81 : decode prog_5_method_2_code 81 = .ok (.aload_n 0, 1) := by decide +kernel
theorem d_R_fill_82 : decode prog_5_method_2_code 82 = .ok (.aload_n 1, 1) := by decide +kernel
theorem d_R_fill_83 : decode prog_5_method_2_code 83 = .ok (.invokevirtual 60, 3) := by decide +kernel
theorem d_R_fill_86 : decode prog_5_method_2_code 86 = .ok (.aload_n 0, 1) := by decide +kernel
theorem d_R_fill_87 : decode prog_5_method_2_code 87 = .ok (.aload_n 1, 1) := by decide +kernel
theorem d_R_fill_88 : decode prog_5_method_2_code 88 = .ok (.invokevirtual 63, 3) := by decide +kernel
theorem d_R_fill_91 : decode prog_5_method_2_code 91 = .ok (.aload_n 0, 1) := by decide +kernel
theorem d_R_fill_92 : decode prog_5_method_2_code 92 = .ok (.invokevirtual 66, 3) := by decide +kernel
theorem d_R_fill_95 : decode prog_5_method_2_code 95 = .ok (.aload_n 0, 1) := by decide +kernel
theorem d_R_fill_96 : decode prog_5_method_2_code 96 = .ok (.getfield 40, 3) := by decide +kernel
theorem d_R_fill_99 : decode prog_5_method_2_code 99 = .ok (.iconst (-1), 1) := by decide +kernel
theorem d_R_fill_100 : decode prog_5_method_2_code 100 = .ok (.if_icmp .ne 16, 3) := by decide +kernel
theorem d_R_fill_103 : decode prog_5_method_2_code 103 = .ok (.iload_n 2, 1) := by decide +kernel
theorem d_R_fill_104 : decode prog_5_method_2_code 104 = .ok (.ifCond .ne 12, 3) := by decide +kernel
theorem d_R_fill_107 : decode prog_5_method_2_code 107 = .ok (.aload_n 0, 1) := by decide +kernel
theorem d_R_fill_108 : decode prog_5_method_2_code 108 = .ok (.invokevirtual 69, 3) := by decide +kernel
theorem d_R_fill_111 : decode prog_5_method_2_code 111 = .ok (.aload_n 0, 1) := by decide +kernel
theorem d_R_fill_112 : decode prog_5_method_2_code 112 = .ok (.aload_n 1, 1) := by decide +kernel
theorem d_R_fill_113 : decode prog_5_method_2_code 113 = .ok (.invokevirtual 72, 3) := by decide +kernel
theorem d_R_fill_116 : decode prog_5_method_2_code 116 = .ok (.aload_n 0, 1) := by decide +kernel
theorem d_R_fill_117 : decode prog_5_method_2_code 117 = .ok (.getfield 40, 3) := by decide +kernel
theorem d_R_fill_120 : decode prog_5_method_2_code 120 = .ok (.iconst (-1), 1) := by decide +kernel
theorem d_R_fill_121 : decode prog_5_method_2_code 121 = .ok (.if_icmp .ne 7, 3) := by decide +kernel
theorem d_R_fill_124 : decode prog_5_method_2_code 124 = .ok (.aload_n 1, 1) := by decide +kernel
theorem d_R_fill_125 : decode prog_5_method_2_code 125 = .ok (.invokevirtual 75, 3) := by decide +kernel
theorem d_R_fill_128 : decode prog_5_method_2_code 128 = .ok (.aload_n 0, 1) := by decide +kernel
theorem d_R_fill_129 : decode prog_5_method_2_code 129 = .ok (.getfield 40, 3) := by decide +kernel
theorem d_R_fill_132 : decode prog_5_method_2_code 132 = .ok (.ireturn, 1) := by decide +kernel
theorem d_R_header_0 : decode prog_5_method_3_code 0 = .ok (.aload_n 0, 1) := by decide +kernel
theorem d_R_header_1 : decode prog_5_method_3_code 1 = .ok (.bipush 97, 2) := by decide +kernel
theorem d_R_header_3 : decode prog_5_method_3_code 3 = .ok (.invokevirtual 80, 3) := by decide +kernel
theorem d_R_header_6 : decode prog_5_method_3_code 6 = .ok (.aload_n 0, 1) := by decide +kernel
theorem d_R_header_7 : decode prog_5_method_3_code 7 = .ok (.iload_n 2, 1) := by decide +kernel
theorem d_R_header_8 : decode prog_5_method_3_code 8 = .ok (.ifCond .eq 8, 3) := by decide +kernel
theorem d_R_header_11 : decode prog_5_method_3_code 11 = .ok (.bipush 105, 2) := by decide +kernel
theorem d_R_header_13 : decode prog_5_method_3_code 13 = .ok (.goto 5, 3) := by decide +kernel
theorem d_R_header_16 : decode prog_5_method_3_code 16 = .ok (.bipush 97, 2) := by decide +kernel
theorem d_R_header_18 : decode prog_5_method_3_code 18 = .ok (.invokevirtual 80, 3) := by decide +kernel
theorem d_R_header_21 : decode prog_5_method_3_code 21 = .ok (.aload_n 0, 1) := by decide +kernel
theorem d_R_header_22 : decode prog_5_method_3_code 22 = .ok (.bipush 103, 2) := by decide +kernel
theorem d_R_header_24 : decode prog_5_method_3_code 24 = .ok (.invokevirtual 80, 3) := by decide +kernel
theorem d_R_header_27 : decode prog_5_method_3_code 27 = .ok (.aload_n 1, 1) := by decide +kernel
theorem d_R_header_28 : decode prog_5_method_3_code 28 = .ok (.aload_n 0, 1) := by decide +kernel
theorem d_R_header_29 : decode prog_5_method_3_code 29 = .ok (.bipush 99, 2) := by decide +kernel
theorem d_R_header_31 : decode prog_5_method_3_code 31 = .ok (.invokevirtual 84, 3) := by decide +kernel
theorem d_R_header_34 : decode prog_5_method_3_code 34 = .ok (.invokevirtual 87, 3) := by decide +kernel
theorem d_R_header_37 : decode prog_5_method_3_code 37 = .ok (.aload_n 1, 1) := by decide +kernel
theorem d_R_header_38 : decode prog_5_method_3_code 38 = .ok (.iconst 0, 1) := by decide +kernel
theorem d_R_header_39 : decode prog_5_method_3_code 39 = .ok (.aload_n 0, 1) := by decide +kernel
theorem d_R_header_40 : decode prog_5_method_3_code 40 = .ok (.bipush 8, 2) := by decide +kernel
theorem d_R_header_42 : decode prog_5_method_3_code 42 = .ok (.invokevirtual 84, 3) := by decide +kernel
theorem d_R_header_45 : decode prog_5_method_3_code 45 = .ok (.invokevirtual 90, 3) := by decide +kernel
theorem d_R_header_48 : decode prog_5_method_3_code 48 = .ok (.aload_n 1, 1) := by decide +kernel
theorem d_R_header_49 : decode prog_5_method_3_code 49 = .ok (.iconst 1, 1) := by decide +kernel
theorem d_R_header_50 : decode prog_5_method_3_code 50 = .ok (.aload_n 0, 1) := by decide +kernel
theorem d_R_header_51 : decode prog_5_method_3_code 51 = .ok (.bipush 8, 2) := by decide +kernel
theorem d_R_header_53 : decode prog_5_method_3_code 53 = .ok (.invokevirtual 84, 3) := by decide +kernel
theorem d_R_header_56 : decode prog_5_method_3_code 56 = .ok (.invokevirtual 90, 3) := by decide +kernel
theorem d_R_header_59 : decode prog_5_method_3_code 59 = .ok (.aload_n 1, 1) := by decide +kernel
theorem d_R_header_60 : decode prog_5_method_3_code 60 = .ok (.iconst 2, 1) := by decide +kernel
theorem d_R_header_61 : decode prog_5_method_3_code 61 = .ok (.aload_n 0, 1) := by decide +kernel
theorem d_R_header_62 : decode prog_5_method_3_code 62 = .ok (.bipush 8, 2) := by decide +kernel
theorem d_R_header_64 : decode prog_5_method_3_code 64 = .ok (.invokevirtual 84, 3) := by decide +kernel
theorem d_R_header_67 : decode prog_5_method_3_code 67 = .ok (.invokevirtual 90, 3) := by decide +kernel
theorem d_R_header_70 : decode prog_5_method_3_code 70 = .ok (.aload_n 1, 1) := by decide +kernel
theorem d_R_header_71 : decode prog_5_method_3_code 71 = .ok (.invokevirtual 94, 3) := by decide +kernel
theorem d_R_header_74 : decode prog_5_method_3_code 74 = .ok (.aload_n 1, 1) := by decide +kernel
theorem d_R_header_75 : decode prog_5_method_3_code 75 = .ok (.iconst 0, 1) := by decide +kernel
theorem d_R_header_76 : decode prog_5_method_3_code 76 = .ok (.invokevirtual 98, 3) := by decide +kernel
theorem d_R_header_79 : decode prog_5_method_3_code 79 = .ok (.isub, 1) := by decide +kernel
theorem d_R_header_80 : decode prog_5_method_3_code 80 = .ok (.aload_n 1, 1) := by decide +kernel
theorem d_R_header_81 : decode prog_5_method_3_code 81 = .ok (.iconst 1, 1) := by decide +kernel
theorem d_R_header_82 : decode prog_5_method_3_code 82 = .ok (.invokevirtual 98, 3) := by decide +kernel
theorem d_R_header_85 : decode prog_5_method_3_code 85 = .ok (.isub, 1) := by decide +kernel
theorem d_R_header_86 : decode prog_5_method_3_code 86 = .ok (.istore_n 3, 1) := by decide +kernel
theorem d_R_header_87 : decode prog_5_method_3_code 87 = .ok (.aload_n 0, 1) := by decide +kernel
theorem d_R_header_88 : decode prog_5_method_3_code 88 = .ok (.bipush 32, 2) := by decide +kernel
theorem d_R_header_90 : decode prog_5_method_3_code 90 = .ok (.invokevirtual 80, 3) := by decide +kernel
theorem d_R_header_93 : decode prog_5_method_3_code 93 = .ok (.aload_n 0, 1) := by decide +kernel
theorem d_R_header_94 : decode prog_5_method_3_code 94 = .ok (.getfield 36, 3) := by decide +kernel
theorem d_R_header_97 : decode prog_5_method_3_code 97 = .ok (.istore 4, 2) := by decide +kernel
theorem d_R_header_99 : decode prog_5_method_3_code 99 = .ok (.aload_n 0, 1) := by decide +kernel
theorem d_R_header_100 : decode prog_5_method_3_code 100 = .ok (.bipush 60, 2) := by decide +kernel
theorem d_R_header_102 : decode prog_5_method_3_code 102 = .ok (.invokevirtual 101, 3) := by decide +kernel
theorem d_R_header_105 : decode prog_5_method_3_code 105 = .ok (.istore 5, 2) := by decide +kernel
theorem d_R_header_107 : decode prog_5_method_3_code 107 = .ok (.iload 5, 2) := by decide +kernel
theorem d_R_header_109 : decode prog_5_method_3_code 109 = .ok (.iload_n 3, 1) := by decide +kernel
theorem d_R_header_110 : decode prog_5_method_3_code 110 = .ok (.if_icmp .gt 13, 3) := by decide +kernel
theorem d_R_header_113 : decode prog_5_method_3_code 113 = .ok (.iload_n 2, 1) := by decide +kernel
theorem d_R_header_114 : decode prog_5_method_3_code 114 = .ok (.ifCond .eq 15, 3) := by decide +kernel
theorem d_R_header_117 : decode prog_5_method_3_code 117 = .ok (.iload 5, 2) := by decide +kernel
theorem d_R_header_119 : decode prog_5_method_3_code 119 = .ok (.iload_n 3, 1) := by decide +kernel
theorem d_R_header_120 : decode prog_5_method_3_code 120 = .ok (.if_icmp .eq 9, 3) := by decide +kernel
theorem d_R_header_123 : decode prog_5_method_3_code 123 = .ok (.aload_n 0, 1) := by decide +kernel
theorem d_R_header_124 : decode prog_5_method_3_code 124 = .ok (.iload 4, 2) := by decide +kernel
theorem d_R_header_126 : decode prog_5_method_3_code 126 = .ok (.invokevirtual 104, 3) := by decide +kernel
theorem d_R_header_129 : decode prog_5_method_3_code 129 = .ok (.aload_n 1, 1) := by decide +kernel
theorem d_R_header_130 : decode prog_5_method_3_code 130 = .ok (.iconst 3, 1) := by decide +kernel
theorem d_R_header_131 : decode prog_5_method_3_code 131 = .ok (.iload 5, 2) := by decide +kernel
theorem d_R_header_133 : decode prog_5_method_3_code 133 = .ok (.invokevirtual 90, 3) := by decide +kernel
theorem d_R_header_136 : decode prog_5_method_3_code 136 = .ok (.aload_n 0, 1) := by decide +kernel
theorem d_R_header_137 : decode prog_5_method_3_code 137 = .ok (.bipush 10, 2) := by decide +kernel
theorem d_R_header_139 : decode prog_5_method_3_code 139 = .ok (.invokevirtual 80, 3) := by decide +kernel
theorem d_R_header_142 : decode prog_5_method_3_code 142 = .ok (.return_, 1) := by decide +kernel
theorem d_R_plainLines_0 : decode prog_5_method_4_code 0 = .ok (.aload_n 0, 1) := by decide +kernel
theorem d_R_plainLines_1 : decode prog_5_method_4_code 1 = .ok (.iconst 0, 1) := by decide +kernel
theorem d_R_plainLines_2 : decode prog_5_method_4_code 2 = .ok (.putfield 107, 3) := by decide +kernel
theorem d_R_plainLines_5 : decode prog_5_method_4_code 5 = .ok (.iconst 0, 1) := by decide +kernel
theorem d_R_plainLines_6 : decode prog_5_method_4_code 6 = .ok (.istore_n 2, 1) := by decide +kernel
theorem d_R_plainLines_7 : decode prog_5_method_4_code 7 = .ok (.iload_n 2, 1) := by decide +kernel
theorem d_R_plainLines_8 : decode prog_5_method_4_code 8 = .ok (.aload_n 0, 1) := by decide +kernel
theorem d_R_plainLines_9 : decode prog_5_method_4_code 9 = .ok (.getfield 9, 3) := by decide +kernel
theorem d_R_plainLines_12 : decode prog_5_method_4_code 12 = .ok (.arraylength, 1) := by decide +kernel
theorem d_R_plainLines_13 : decode prog_5_method_4_code 13 = .ok (.if_icmp .ge 16, 3) := by decide +kernel
theorem d_R_plainLines_16 : decode prog_5_method_4_code 16 = .ok (.aload_n 0, 1) := by decide +kernel
theorem d_R_plainLines_17 : decode prog_5_method_4_code 17 = .ok (.getfield 9, 3) := by decide +kernel
theorem d_R_plainLines_20 : decode prog_5_method_4_code 20 = .ok (.iload_n 2, 1) := by decide +kernel
theorem d_R_plainLines_21 : decode prog_5_method_4_code 21 = .ok (.iconst 0, 1) := by decide +kernel
theorem d_R_plainLines_22 : decode prog_5_method_4_code 22 = .ok (.bastore, 1) := by decide +kernel
theorem d_R_plainLines_23 : decode prog_5_method_4_code 23 = .ok (.iinc 2 1, 3) := by decide +kernel
theorem d_R_plainLines_26 : decode prog_5_method_4_code 26 = .ok (.goto (-19), 3) := by decide +kernel
theorem d_R_plainLines_29 : decode prog_5_method_4_code 29 = .ok (.iconst 2, 1) := by decide +kernel
theorem d_R_plainLines_30 : decode prog_5_method_4_code 30 = .ok (.aload_n 1, 1) := by decide +kernel
theorem d_R_plainLines_31 : decode prog_5_method_4_code 31 = .ok (.invokevirtual 94, 3) := by decide +kernel
theorem d_R_plainLines_34 : decode prog_5_method_4_code 34 = .ok (.imul, 1) := by decide +kernel
theorem d_R_plainLines_35 : decode prog_5_method_4_code 35 = .ok (.iconst 1, 1) := by decide +kernel
theorem d_R_plainLines_36 : decode prog_5_method_4_code 36 = .ok (.iadd, 1) := by decide +kernel
theorem d_R_plainLines_37 : decode prog_5_method_4_code 37 = .ok (.istore_n 2, 1) := by decide +kernel
theorem d_R_plainLines_38 : decode prog_5_method_4_code 38 = .ok (.iconst 0, 1) := by decide +kernel
theorem d_R_plainLines_39 : decode prog_5_method_4_code 39 = .ok (.istore_n 3, 1) := by decide +kernel
theorem d_R_plainLines_40 : decode prog_5_method_4_code 40 = .ok (.iload_n 3, 1) := by decide +kernel
theorem d_R_plainLines_41 : decode prog_5_method_4_code 41 = .ok (.aload_n 1, 1) := by decide +kernel
theorem d_R_plainLines_42 : decode prog_5_method_4_code 42 = .ok (.iconst 0, 1) := by decide +kernel
theorem d_R_plainLines_43 : decode prog_5_method_4_code 43 = .ok (.invokevirtual 98, 3) := by decide +kernel
theorem d_R_plainLines_46 : decode prog_5_method_4_code 46 = .ok (.if_icmp .ge 34, 3) := by decide +kernel
theorem d_R_plainLines_49 : decode prog_5_method_4_code 49 = .ok (.aload_n 0, 1) := by decide +kernel
theorem d_R_plainLines_50 : decode prog_5_method_4_code 50 = .ok (.getfield 40, 3) := by decide +kernel
theorem d_R_plainLines_53 : decode prog_5_method_4_code 53 = .ok (.iconst (-1), 1) := by decide +kernel
theorem d_R_plainLines_54 : decode prog_5_method_4_code 54 = .ok (.if_icmp .ne 26, 3) := by decide +kernel
theorem d_R_plainLines_57 : decode prog_5_method_4_code 57 = .ok (.aload_n 1, 1) := by decide +kernel
theorem d_R_plainLines_58 : decode prog_5_method_4_code 58 = .ok (.iconst 0, 1) := by decide +kernel
theorem d_R_plainLines_59 : decode prog_5_method_4_code 59 = .ok (.iload_n 3, 1) := by decide +kernel
theorem d_R_plainLines_60 : decode prog_5_method_4_code 60 = .ok (.aload_n 0, 1) := by decide +kernel
theorem d_R_plainLines_61 : decode prog_5_method_4_code 61 = .ok (.iload_n 2, 1) := by decide +kernel
theorem d_R_plainLines_62 : decode prog_5_method_4_code 62 = .ok (.invokevirtual 110, 3) := by decide +kernel
theorem d_R_plainLines_65 : decode prog_5_method_4_code 65 = .ok (.invokevirtual 113, 3) := by decide +kernel
theorem d_R_plainLines_68 : decode prog_5_method_4_code 68 = .ok (.aload_n 0, 1) := by decide +kernel
theorem d_R_plainLines_69 : decode prog_5_method_4_code 69 = .ok (.bipush 10, 2) := by decide +kernel
theorem d_R_plainLines_71 : decode prog_5_method_4_code 71 = .ok (.invokevirtual 80, 3) := by decide +kernel
theorem d_R_plainLines_74 : decode prog_5_method_4_code 74 = .ok (.iinc 3 1, 3) := by decide +kernel
theorem d_R_plainLines_77 : decode prog_5_method_4_code 77 = .ok (.goto (-37), 3) := by decide +kernel
theorem d_R_plainLines_80 : decode prog_5_method_4_code 80 = .ok (.iconst 0, 1) := by decide +kernel
theorem d_R_plainLines_81 : decode prog_5_method_4_code 81 = .ok (.istore_n 3, 1) := by decide +kernel
theorem d_R_plainLines_82 : decode prog_5_method_4_code 82 = .ok (.iload_n 3, 1) := by decide +kernel
theorem d_R_plainLines_83 : decode prog_5_method_4_code 83 = .ok (.aload_n 1, 1) := by decide +kernel
theorem d_R_plainLines_84 : decode prog_5_method_4_code 84 = .ok (.iconst 1, 1) := by decide +kernel
theorem d_R_plainLines_85 : decode prog_5_method_4_code 85 = .ok (.invokevirtual 98, 3) := by decide +kernel
theorem d_R_plainLines_88 : decode prog_5_method_4_code 88 = .ok (.if_icmp .ge 61, 3) := by decide +kernel
theorem d_R_plainLines_91 : decode prog_5_method_4_code 91 = .ok (.aload_n 0, 1) := by decide +kernel
theorem d_R_plainLines_92 : decode prog_5_method_4_code 92 = .ok (.getfield 40, 3) := by decide +kernel
theorem d_R_plainLines_95 : decode prog_5_method_4_code 95 = .ok (.iconst (-1), 1) := by decide +kernel
theorem d_R_plainLines_96 : decode prog_5_method_4_code 96 = .ok (.if_icmp .ne 53, 3) := by decide +kernel
theorem d_R_plainLines_99 : decode prog_5_method_4_code 99 = .ok (.aload_n 1, 1) := by decide +kernel
theorem d_R_plainLines_100 : decode prog_5_method_4_code 100 = .ok (.iconst 1, 1) := by decide +kernel
theorem d_R_plainLines_101 : decode prog_5_method_4_code 101 = .ok (.iload_n 3, 1) := by decide +kernel
theorem d_R_plainLines_102 : decode prog_5_method_4_code 102 = .ok (.aload_n 0, 1) := by decide +kernel
theorem d_R_plainLines_103 : decode prog_5_method_4_code 103 = .ok (.iload_n 2, 1) := by decide +kernel
theorem d_R_plainLines_104 : decode prog_5_method_4_code 104 = .ok (.invokevirtual 110, 3) := by decide +kernel
theorem d_R_plainLines_107 : decode prog_5_method_4_code 107 = .ok (.invokevirtual 113, 3) := by decide +kernel
theorem d_R_plainLines_110 : decode prog_5_method_4_code 110 = .ok (.aload_n 0, 1) := by decide +kernel
theorem d_R_plainLines_111 : decode prog_5_method_4_code 111 = .ok (.bipush 32, 2) := by decide +kernel
theorem d_R_plainLines_113 : decode prog_5_method_4_code 113 = .ok (.invokevirtual 80, 3) := by decide +kernel
theorem d_R_plainLines_116 : decode prog_5_method_4_code 116 = .ok (.aload_n 1, 1) := by decide +kernel
theorem d_R_plainLines_117 : decode prog_5_method_4_code 117 = .ok (.iconst 4, 1) := by decide +kernel
theorem d_R_plainLines_118 : decode prog_5_method_4_code 118 = .ok (.iload_n 3, 1) := by decide +kernel
theorem d_R_plainLines_119 : decode prog_5_method_4_code 119 = .ok (.aload_n 0, 1) := by decide +kernel
theorem d_R_plainLines_120 : decode prog_5_method_4_code 120 = .ok (.iload_n 2, 1) := by decide +kernel
theorem d_R_plainLines_121 : decode prog_5_method_4_code 121 = .ok (.invokevirtual 117, 3) := by decide +kernel
theorem d_R_plainLines_124 : decode prog_5_method_4_code 124 = .ok (.invokevirtual 113, 3) := by decide +kernel
theorem d_R_plainLines_127 : decode prog_5_method_4_code 127 = .ok (.aload_n 1, 1) := by decide +kernel
theorem d_R_plainLines_128 : decode prog_5_method_4_code 128 = .ok (.iconst 5, 1) := by decide +kernel
theorem d_R_plainLines_129 : decode prog_5_method_4_code 129 = .ok (.iload_n 3, 1) := by decide +kernel
theorem d_R_plainLines_130 : decode prog_5_method_4_code 130 = .ok (.aload_n 0, 1) := by decide +kernel
theorem d_R_plainLines_131 : decode prog_5_method_4_code 131 = .ok (.invokevirtual 120, 3) := by decide +kernel
theorem d_R_plainLines_134 : decode prog_5_method_4_code 134 = .ok (.invokevirtual 113, 3) := by decide +kernel
theorem d_R_plainLines_137 : decode prog_5_method_4_code 137 = .ok (.aload_n 0, 1) := by decide +kernel
theorem d_R_plainLines_138 : decode prog_5_method_4_code 138 = .ok (.bipush 10, 2) := by decide +kernel
theorem d_R_plainLines_140 : decode prog_5_method_4_code 140 = .ok (.invokevirtual 80, 3) := by decide +kernel
theorem d_R_plainLines_143 : decode prog_5_method_4_code 143 = .ok (.iinc 3 1, 3) := by decide +kernel
theorem d_R_plainLines_146 : decode prog_5_method_4_code 146 = .ok (.goto (-64), 3) := by decide +kernel
theorem d_R_plainLines_149 : decode prog_5_method_4_code 149 = .ok (.iconst 0, 1) := by decide +kernel
theorem d_R_plainLines_150 : decode prog_5_method_4_code 150 = .ok (.istore_n 3, 1) := by decide +kernel
theorem d_R_plainLines_151 : decode prog_5_method_4_code 151 = .ok (.iload_n 3, 1) := by decide +kernel
theorem d_R_plainLines_152 : decode prog_5_method_4_code 152 = .ok (.aload_n 1, 1) := by decide +kernel
theorem d_R_plainLines_153 : decode prog_5_method_4_code 153 = .ok (.iconst 2, 1) := by decide +kernel
theorem d_R_plainLines_154 : decode prog_5_method_4_code 154 = .ok (.invokevirtual 98, 3) := by decide +kernel
theorem d_R_plainLines_157 : decode prog_5_method_4_code 157 = .ok (.if_icmp .ge 34, 3) := by decide +kernel
theorem d_R_plainLines_160 : decode prog_5_method_4_code 160 = .ok (.aload_n 0, 1) := by decide +kernel
theorem d_R_plainLines_161 : decode prog_5_method_4_code 161 = .ok (.getfield 40, 3) := by decide +kernel
theorem d_R_plainLines_164 : decode prog_5_method_4_code 164 = .ok (.iconst (-1), 1) := by decide +kernel
theorem d_R_plainLines_165 : decode prog_5_method_4_code 165 = .ok (.if_icmp .ne 26, 3) := by decide +kernel
theorem d_R_plainLines_168 : decode prog_5_method_4_code 168 = .ok (.aload_n 1, 1) := by decide +kernel
theorem d_R_plainLines_169 : decode prog_5_method_4_code 169 = .ok (.iconst 2, 1) := by decide +kernel
theorem d_R_plainLines_170 : decode prog_5_method_4_code 170 = .ok (.iload_n 3, 1) := by decide +kernel
theorem d_R_plainLines_171 : decode prog_5_method_4_code 171 = .ok (.aload_n 0, 1) := by decide +kernel
theorem d_R_plainLines_172 : decode prog_5_method_4_code 172 = .ok (.iload_n 2, 1) := by decide +kernel
theorem d_R_plainLines_173 : decode prog_5_method_4_code 173 = .ok (.invokevirtual 117, 3) := by decide +kernel
theorem d_R_plainLines_176 : decode prog_5_method_4_code 176 = .ok (.invokevirtual 113, 3) := by decide +kernel
theorem d_R_plainLines_179 : decode prog_5_method_4_code 179 = .ok (.aload_n 0, 1) := by decide +kernel
theorem d_R_plainLines_180 : decode prog_5_method_4_code 180 = .ok (.bipush 10, 2) := by decide +kernel
theorem d_R_plainLines_182 : decode prog_5_method_4_code 182 = .ok (.invokevirtual 80, 3) := by decide +kernel
theorem d_R_plainLines_185 : decode prog_5_method_4_code 185 = .ok (.iinc 3 1, 3) := by decide +kernel
theorem d_R_plainLines_188 : decode prog_5_method_4_code 188 = .ok (.goto (-37), 3) := by decide +kernel
theorem d_R_plainLines_191 : decode prog_5_method_4_code 191 = .ok (.return_, 1) := by decide +kernel
theorem d_R_plainGates_0 : decode prog_5_method_5_code 0 = .ok (.iconst 2, 1) := by decide +kernel
theorem d_R_plainGates_1 : decode prog_5_method_5_code 1 = .ok (.aload_n 1, 1) := by decide +kernel
theorem d_R_plainGates_2 : decode prog_5_method_5_code 2 = .ok (.invokevirtual 94, 3) := by decide +kernel
theorem d_R_plainGates_5 : decode prog_5_method_5_code 5 = .ok (.imul, 1) := by decide +kernel
theorem d_R_plainGates_6 : decode prog_5_method_5_code 6 = .ok (.iconst 1, 1) := by decide +kernel
theorem d_R_plainGates_7 : decode prog_5_method_5_code 7 = .ok (.iadd, 1) := by decide +kernel
theorem d_R_plainGates_8 : decode prog_5_method_5_code 8 = .ok (.istore_n 2, 1) := by decide +kernel
theorem d_R_plainGates_9 : decode prog_5_method_5_code 9 = .ok (.iconst 0, 1) := by decide +kernel
theorem d_R_plainGates_10 : decode prog_5_method_5_code 10 = .ok (.istore_n 3, 1) := by decide +kernel
theorem d_R_plainGates_11 : decode prog_5_method_5_code 11 = .ok (.iload_n 3, 1) := by decide +kernel
theorem d_R_plainGates_12 : decode prog_5_method_5_code 12 = .ok (.aload_n 1, 1) := by decide +kernel
theorem d_R_plainGates_13 : decode prog_5_method_5_code 13 = .ok (.iconst 3, 1) := by decide +kernel
theorem d_R_plainGates_14 : decode prog_5_method_5_code 14 = .ok (.invokevirtual 98, 3) := by decide +kernel
theorem d_R_plainGates_17 : decode prog_5_method_5_code 17 = .ok (.if_icmp .ge 89, 3) := by decide +kernel
theorem d_R_plainGates_20 : decode prog_5_method_5_code 20 = .ok (.aload_n 0, 1) := by decide +kernel
theorem d_R_plainGates_21 : decode prog_5_method_5_code 21 = .ok (.getfield 40, 3) := by decide +kernel
theorem d_R_plainGates_24 : decode prog_5_method_5_code 24 = .ok (.iconst (-1), 1) := by decide +kernel
theorem d_R_plainGates_25 : decode prog_5_method_5_code 25 = .ok (.if_icmp .ne 81, 3) := by decide +kernel
theorem d_R_plainGates_28 : decode prog_5_method_5_code 28 = .ok (.iload_n 3, 1) := by decide +kernel
theorem d_R_plainGates_29 : decode prog_5_method_5_code 29 = .ok (.aload_n 0, 1) := by decide +kernel
theorem d_R_plainGates_30 : decode prog_5_method_5_code 30 = .ok (.getfield 22, 3) := by decide +kernel
theorem d_R_plainGates_33 : decode prog_5_method_5_code 33 = .ok (.arraylength, 1) := by decide +kernel
theorem d_R_plainGates_34 : decode prog_5_method_5_code 34 = .ok (.if_icmp .ge 13, 3) := by decide +kernel
theorem d_R_plainGates_37 : decode prog_5_method_5_code 37 = .ok (.aload_n 0, 1) := by decide +kernel
theorem d_R_plainGates_38 : decode prog_5_method_5_code 38 = .ok (.getfield 22, 3) := by decide +kernel
theorem d_R_plainGates_41 : decode prog_5_method_5_code 41 = .ok (.iload_n 3, 1) := by decide +kernel
theorem d_R_plainGates_42 : decode prog_5_method_5_code 42 = .ok (.aload_n 0, 1) := by decide +kernel
theorem d_R_plainGates_43 : decode prog_5_method_5_code 43 = .ok (.getfield 36, 3) := by decide +kernel
theorem d_R_plainGates_46 : decode prog_5_method_5_code 46 = .ok (.iastore, 1) := by decide +kernel
theorem d_R_plainGates_47 : decode prog_5_method_5_code 47 = .ok (.aload_n 1, 1) := by decide +kernel
theorem d_R_plainGates_48 : decode prog_5_method_5_code 48 = .ok (.iconst 3, 1) := by decide +kernel
theorem d_R_plainGates_49 : decode prog_5_method_5_code 49 = .ok (.iload_n 3, 1) := by decide +kernel
theorem d_R_plainGates_50 : decode prog_5_method_5_code 50 = .ok (.aload_n 0, 1) := by decide +kernel
theorem d_R_plainGates_51 : decode prog_5_method_5_code 51 = .ok (.iload_n 2, 1) := by decide +kernel
theorem d_R_plainGates_52 : decode prog_5_method_5_code 52 = .ok (.invokevirtual 110, 3) := by decide +kernel
theorem d_R_plainGates_55 : decode prog_5_method_5_code 55 = .ok (.invokevirtual 113, 3) := by decide +kernel
theorem d_R_plainGates_58 : decode prog_5_method_5_code 58 = .ok (.aload_n 0, 1) := by decide +kernel
theorem d_R_plainGates_59 : decode prog_5_method_5_code 59 = .ok (.bipush 32, 2) := by decide +kernel
theorem d_R_plainGates_61 : decode prog_5_method_5_code 61 = .ok (.invokevirtual 80, 3) := by decide +kernel
theorem d_R_plainGates_64 : decode prog_5_method_5_code 64 = .ok (.aload_n 1, 1) := by decide +kernel
theorem d_R_plainGates_65 : decode prog_5_method_5_code 65 = .ok (.bipush 6, 2) := by decide +kernel
theorem d_R_plainGates_67 : decode prog_5_method_5_code 67 = .ok (.iload_n 3, 1) := by decide +kernel
theorem d_R_plainGates_68 : decode prog_5_method_5_code 68 = .ok (.aload_n 0, 1) := by decide +kernel
theorem d_R_plainGates_69 : decode prog_5_method_5_code 69 = .ok (.iload_n 2, 1) := by decide +kernel
theorem d_R_plainGates_70 : decode prog_5_method_5_code 70 = .ok (.invokevirtual 117, 3) := by decide +kernel
theorem d_R_plainGates_73 : decode prog_5_method_5_code 73 = .ok (.invokevirtual 113, 3) := by decide +kernel
theorem d_R_plainGates_76 : decode prog_5_method_5_code 76 = .ok (.aload_n 0, 1) := by decide +kernel
theorem d_R_plainGates_77 : decode prog_5_method_5_code 77 = .ok (.bipush 32, 2) := by decide +kernel
theorem d_R_plainGates_79 : decode prog_5_method_5_code 79 = .ok (.invokevirtual 80, 3) := by decide +kernel
theorem d_R_plainGates_82 : decode prog_5_method_5_code 82 = .ok (.aload_n 1, 1) := by decide +kernel
theorem d_R_plainGates_83 : decode prog_5_method_5_code 83 = .ok (.bipush 7, 2) := by decide +kernel
theorem d_R_plainGates_85 : decode prog_5_method_5_code 85 = .ok (.iload_n 3, 1) := by decide +kernel
theorem d_R_plainGates_86 : decode prog_5_method_5_code 86 = .ok (.aload_n 0, 1) := by decide +kernel
theorem d_R_plainGates_87 : decode prog_5_method_5_code 87 = .ok (.iload_n 2, 1) := by decide +kernel
theorem d_R_plainGates_88 : decode prog_5_method_5_code 88 = .ok (.invokevirtual 117, 3) := by decide +kernel
theorem d_R_plainGates_91 : decode prog_5_method_5_code 91 = .ok (.invokevirtual 113, 3) := by decide +kernel
theorem d_R_plainGates_94 : decode prog_5_method_5_code 94 = .ok (.aload_n 0, 1) := by decide +kernel
theorem d_R_plainGates_95 : decode prog_5_method_5_code 95 = .ok (.bipush 10, 2) := by decide +kernel
theorem d_R_plainGates_97 : decode prog_5_method_5_code 97 = .ok (.invokevirtual 80, 3) := by decide +kernel
theorem d_R_plainGates_100 : decode prog_5_method_5_code 100 = .ok (.iinc 3 1, 3) := by decide +kernel
theorem d_R_plainGates_103 : decode prog_5_method_5_code 103 = .ok (.goto (-92), 3) := by decide +kernel
theorem d_R_plainGates_106 : decode prog_5_method_5_code 106 = .ok (.return_, 1) := by decide +kernel
theorem d_R_packedLines_0 : decode prog_5_method_6_code 0 = .ok (.iconst 2, 1) := by decide +kernel
theorem d_R_packedLines_1 : decode prog_5_method_6_code 1 = .ok (.aload_n 1, 1) := by decide +kernel
theorem d_R_packedLines_2 : decode prog_5_method_6_code 2 = .ok (.invokevirtual 94, 3) := by decide +kernel
theorem d_R_packedLines_5 : decode prog_5_method_6_code 5 = .ok (.imul, 1) := by decide +kernel
theorem d_R_packedLines_6 : decode prog_5_method_6_code 6 = .ok (.iconst 1, 1) := by decide +kernel
theorem d_R_packedLines_7 : decode prog_5_method_6_code 7 = .ok (.iadd, 1) := by decide +kernel
theorem d_R_packedLines_8 : decode prog_5_method_6_code 8 = .ok (.istore_n 2, 1) := by decide +kernel
theorem d_R_packedLines_9 : decode prog_5_method_6_code 9 = .ok (.iconst 0, 1) := by decide +kernel
theorem d_R_packedLines_10 : decode prog_5_method_6_code 10 = .ok (.istore_n 3, 1) := by decide +kernel
theorem d_R_packedLines_11 : decode prog_5_method_6_code 11 = .ok (.iconst 0, 1) := by decide +kernel
theorem d_R_packedLines_12 : decode prog_5_method_6_code 12 = .ok (.istore 4, 2) := by decide +kernel
theorem d_R_packedLines_14 : decode prog_5_method_6_code 14 = .ok (.iload 4, 2) := by decide +kernel
theorem d_R_packedLines_16 : decode prog_5_method_6_code 16 = .ok (.aload_n 1, 1) := by decide +kernel
theorem d_R_packedLines_17 : decode prog_5_method_6_code 17 = .ok (.iconst 0, 1) := by decide +kernel
theorem d_R_packedLines_18 : decode prog_5_method_6_code 18 = .ok (.invokevirtual 98, 3) := by decide +kernel
theorem d_R_packedLines_21 : decode prog_5_method_6_code 21 = .ok (.if_icmp .ge 20, 3) := by decide +kernel
theorem d_R_packedLines_24 : decode prog_5_method_6_code 24 = .ok (.iinc 3 2, 3) := by decide +kernel
theorem d_R_packedLines_27 : decode prog_5_method_6_code 27 = .ok (.aload_n 1, 1) := by decide +kernel
theorem d_R_packedLines_28 : decode prog_5_method_6_code 28 = .ok (.iconst 0, 1) := by decide +kernel
theorem d_R_packedLines_29 : decode prog_5_method_6_code 29 = .ok (.iload 4, 2) := by decide +kernel
theorem d_R_packedLines_31 : decode prog_5_method_6_code 31 = .ok (.iload_n 3, 1) := by decide +kernel
theorem d_R_packedLines_32 : decode prog_5_method_6_code 32 = .ok (.invokevirtual 113, 3) := by decide +kernel
theorem d_R_packedLines_35 : decode prog_5_method_6_code 35 = .ok (.iinc 4 1, 3) := by decide +kernel
theorem d_R_packedLines_38 : decode prog_5_method_6_code 38 = .ok (.goto (-24), 3) := by decide +kernel
theorem d_R_packedLines_41 : decode prog_5_method_6_code 41 = .ok (.iconst 0, 1) := by decide +kernel
theorem d_R_packedLines_42 : decode prog_5_method_6_code 42 = .ok (.istore 4, 2) := by decide +kernel
theorem d_R_packedLines_44 : decode prog_5_method_6_code 44 = .ok (.iload 4, 2) := by decide +kernel
theorem d_R_packedLines_46 : decode prog_5_method_6_code 46 = .ok (.aload_n 1, 1) := by decide +kernel
theorem d_R_packedLines_47 : decode prog_5_method_6_code 47 = .ok (.iconst 1, 1) := by decide +kernel
theorem d_R_packedLines_48 : decode prog_5_method_6_code 48 = .ok (.invokevirtual 98, 3) := by decide +kernel
theorem d_R_packedLines_51 : decode prog_5_method_6_code 51 = .ok (.if_icmp .ge 57, 3) := by decide +kernel
theorem d_R_packedLines_54 : decode prog_5_method_6_code 54 = .ok (.aload_n 0, 1) := by decide +kernel
theorem d_R_packedLines_55 : decode prog_5_method_6_code 55 = .ok (.getfield 40, 3) := by decide +kernel
theorem d_R_packedLines_58 : decode prog_5_method_6_code 58 = .ok (.iconst (-1), 1) := by decide +kernel
theorem d_R_packedLines_59 : decode prog_5_method_6_code 59 = .ok (.if_icmp .ne 49, 3) := by decide +kernel
theorem d_R_packedLines_62 : decode prog_5_method_6_code 62 = .ok (.iinc 3 2, 3) := by decide +kernel
theorem d_R_packedLines_65 : decode prog_5_method_6_code 65 = .ok (.aload_n 1, 1) := by decide +kernel
theorem d_R_packedLines_66 : decode prog_5_method_6_code 66 = .ok (.iconst 1, 1) := by decide +kernel
theorem d_R_packedLines_67 : decode prog_5_method_6_code 67 = .ok (.iload 4, 2) := by decide +kernel
theorem d_R_packedLines_69 : decode prog_5_method_6_code 69 = .ok (.iload_n 3, 1) := by decide +kernel
theorem d_R_packedLines_70 : decode prog_5_method_6_code 70 = .ok (.invokevirtual 113, 3) := by decide +kernel
theorem d_R_packedLines_73 : decode prog_5_method_6_code 73 = .ok (.aload_n 1, 1) := by decide +kernel
theorem d_R_packedLines_74 : decode prog_5_method_6_code 74 = .ok (.iconst 4, 1) := by decide +kernel
theorem d_R_packedLines_75 : decode prog_5_method_6_code 75 = .ok (.iload 4, 2) := by decide +kernel
theorem d_R_packedLines_77 : decode prog_5_method_6_code 77 = .ok (.aload_n 0, 1) := by decide +kernel
theorem d_R_packedLines_78 : decode prog_5_method_6_code 78 = .ok (.iload_n 2, 1) := by decide +kernel
theorem d_R_packedLines_79 : decode prog_5_method_6_code 79 = .ok (.invokevirtual 101, 3) := by decide +kernel
theorem d_R_packedLines_82 : decode prog_5_method_6_code 82 = .ok (.invokevirtual 113, 3) := by decide +kernel
theorem d_R_packedLines_85 : decode prog_5_method_6_code 85 = .ok (.aload_n 1, 1) := by decide +kernel
theorem d_R_packedLines_86 : decode prog_5_method_6_code 86 = .ok (.iconst 5, 1) := by decide +kernel
theorem d_R_packedLines_87 : decode prog_5_method_6_code 87 = .ok (.iload 4, 2) := by decide +kernel
theorem d_R_packedLines_89 : decode prog_5_method_6_code 89 = .ok (.aload_n 0, 1) := by decide +kernel
theorem d_R_packedLines_90 : decode prog_5_method_6_code 90 = .ok (.invokevirtual 120, 3) := by decide +kernel
theorem d_R_packedLines_93 : decode prog_5_method_6_code 93 = .ok (.invokevirtual 113, 3) := by decide +kernel
theorem d_R_packedLines_96 : decode prog_5_method_6_code 96 = .ok (.aload_n 0, 1) := by decide +kernel
theorem d_R_packedLines_97 : decode prog_5_method_6_code 97 = .ok (.bipush 10, 2) := by decide +kernel
theorem d_R_packedLines_99 : decode prog_5_method_6_code 99 = .ok (.invokevirtual 80, 3) := by decide +kernel
theorem d_R_packedLines_102 : decode prog_5_method_6_code 102 = .ok (.iinc 4 1, 3) := by decide +kernel
theorem d_R_packedLines_105 : decode prog_5_method_6_code 105 = .ok (.goto (-61), 3) := by decide +kernel
theorem d_R_packedLines_108 : decode prog_5_method_6_code 108 = .ok (.iconst 0, 1) := by decide +kernel
theorem d_R_packedLines_109 : decode prog_5_method_6_code 109 = .ok (.istore 4, 2) := by decide +kernel
theorem d_R_packedLines_111 : decode prog_5_method_6_code 111 = .ok (.iload 4, 2) := by decide +kernel
theorem d_R_packedLines_113 : decode prog_5_method_6_code 113 = .ok (.aload_n 1, 1) := by decide +kernel
theorem d_R_packedLines_114 : decode prog_5_method_6_code 114 = .ok (.iconst 2, 1) := by decide +kernel
theorem d_R_packedLines_115 : decode prog_5_method_6_code 115 = .ok (.invokevirtual 98, 3) := by decide +kernel
theorem d_R_packedLines_118 : decode prog_5_method_6_code 118 = .ok (.if_icmp .ge 35, 3) := by decide +kernel
theorem d_R_packedLines_121 : decode prog_5_method_6_code 121 = .ok (.aload_n 0, 1) := by decide +kernel
theorem d_R_packedLines_122 : decode prog_5_method_6_code 122 = .ok (.getfield 40, 3) := by decide +kernel
theorem d_R_packedLines_125 : decode prog_5_method_6_code 125 = .ok (.iconst (-1), 1) := by decide +kernel
theorem d_R_packedLines_126 : decode prog_5_method_6_code 126 = .ok (.if_icmp .ne 27, 3) := by decide +kernel
theorem d_R_packedLines_129 : decode prog_5_method_6_code 129 = .ok (.aload_n 1, 1) := by decide +kernel
theorem d_R_packedLines_130 : decode prog_5_method_6_code 130 = .ok (.iconst 2, 1) := by decide +kernel
theorem d_R_packedLines_131 : decode prog_5_method_6_code 131 = .ok (.iload 4, 2) := by decide +kernel
theorem d_R_packedLines_133 : decode prog_5_method_6_code 133 = .ok (.aload_n 0, 1) := by decide +kernel
theorem d_R_packedLines_134 : decode prog_5_method_6_code 134 = .ok (.iload_n 2, 1) := by decide +kernel
theorem d_R_packedLines_135 : decode prog_5_method_6_code 135 = .ok (.invokevirtual 101, 3) := by decide +kernel
theorem d_R_packedLines_138 : decode prog_5_method_6_code 138 = .ok (.invokevirtual 113, 3) := by decide +kernel
theorem d_R_packedLines_141 : decode prog_5_method_6_code 141 = .ok (.aload_n 0, 1) := by decide +kernel
theorem d_R_packedLines_142 : decode prog_5_method_6_code 142 = .ok (.bipush 10, 2) := by decide +kernel
theorem d_R_packedLines_144 : decode prog_5_method_6_code 144 = .ok (.invokevirtual 80, 3) := by decide +kernel
theorem d_R_packedLines_147 : decode prog_5_method_6_code 147 = .ok (.iinc 4 1, 3) := by decide +kernel
theorem d_R_packedLines_150 : decode prog_5_method_6_code 150 = .ok (.goto (-39), 3) := by decide +kernel
theorem d_R_packedLines_153 : decode prog_5_method_6_code 153 = .ok (.return_, 1) := by decide +kernel
theorem d_R_packedGates_0 : decode prog_5_method_7_code 0 = .ok (.iconst 2, 1) := by decide +kernel
theorem d_R_packedGates_1 : decode prog_5_method_7_code 1 = .ok (.aload_n 1, 1) := by decide +kernel
theorem d_R_packedGates_2 : decode prog_5_method_7_code 2 = .ok (.iconst 0, 1) := by decide +kernel
theorem d_R_packedGates_3 : decode prog_5_method_7_code 3 = .ok (.invokevirtual 98, 3) := by decide +kernel
theorem d_R_packedGates_6 : decode prog_5_method_7_code 6 = .ok (.aload_n 1, 1) := by decide +kernel
theorem d_R_packedGates_7 : decode prog_5_method_7_code 7 = .ok (.iconst 1, 1) := by decide +kernel
theorem d_R_packedGates_8 : decode prog_5_method_7_code 8 = .ok (.invokevirtual 98, 3) := by decide +kernel
theorem d_R_packedGates_11 : decode prog_5_method_7_code 11 = .ok (.iadd, 1) := by decide +kernel
theorem d_R_packedGates_12 : decode prog_5_method_7_code 12 = .ok (.imul, 1) := by decide +kernel
theorem d_R_packedGates_13 : decode prog_5_method_7_code 13 = .ok (.istore_n 2, 1) := by decide +kernel
theorem d_R_packedGates_14 : decode prog_5_method_7_code 14 = .ok (.iconst 0, 1) := by decide +kernel
theorem d_R_packedGates_15 : decode prog_5_method_7_code 15 = .ok (.istore_n 3, 1) := by decide +kernel
theorem d_R_packedGates_16 : decode prog_5_method_7_code 16 = .ok (.iload_n 3, 1) := by decide +kernel
theorem d_R_packedGates_17 : decode prog_5_method_7_code 17 = .ok (.aload_n 1, 1) := by decide +kernel
theorem d_R_packedGates_18 : decode prog_5_method_7_code 18 = .ok (.iconst 3, 1) := by decide +kernel
theorem d_R_packedGates_19 : decode prog_5_method_7_code 19 = .ok (.invokevirtual 98, 3) := by decide +kernel
theorem d_R_packedGates_22 : decode prog_5_method_7_code 22 = .ok (.if_icmp .ge 67, 3) := by decide +kernel
theorem d_R_packedGates_25 : decode prog_5_method_7_code 25 = .ok (.aload_n 0, 1) := by decide +kernel
theorem d_R_packedGates_26 : decode prog_5_method_7_code 26 = .ok (.getfield 40, 3) := by decide +kernel
theorem d_R_packedGates_29 : decode prog_5_method_7_code 29 = .ok (.iconst (-1), 1) := by decide +kernel
theorem d_R_packedGates_30 : decode prog_5_method_7_code 30 = .ok (.if_icmp .ne 59, 3) := by decide +kernel
theorem d_R_packedGates_33 : decode prog_5_method_7_code 33 = .ok (.iinc 2 2, 3) := by decide +kernel
theorem d_R_packedGates_36 : decode prog_5_method_7_code 36 = .ok (.iload_n 2, 1) := by decide +kernel
theorem d_R_packedGates_37 : decode prog_5_method_7_code 37 = .ok (.aload_n 0, 1) := by decide +kernel
theorem d_R_packedGates_38 : decode prog_5_method_7_code 38 = .ok (.iconst 1, 1) := by decide +kernel
theorem d_R_packedGates_39 : decode prog_5_method_7_code 39 = .ok (.iload_n 2, 1) := by decide +kernel
theorem d_R_packedGates_40 : decode prog_5_method_7_code 40 = .ok (.invokevirtual 123, 3) := by decide +kernel
theorem d_R_packedGates_43 : decode prog_5_method_7_code 43 = .ok (.isub, 1) := by decide +kernel
theorem d_R_packedGates_44 : decode prog_5_method_7_code 44 = .ok (.istore 4, 2) := by decide +kernel
theorem d_R_packedGates_46 : decode prog_5_method_7_code 46 = .ok (.iload 4, 2) := by decide +kernel
theorem d_R_packedGates_48 : decode prog_5_method_7_code 48 = .ok (.aload_n 0, 1) := by decide +kernel
theorem d_R_packedGates_49 : decode prog_5_method_7_code 49 = .ok (.iconst 0, 1) := by decide +kernel
theorem d_R_packedGates_50 : decode prog_5_method_7_code 50 = .ok (.iload 4, 2) := by decide +kernel
theorem d_R_packedGates_52 : decode prog_5_method_7_code 52 = .ok (.invokevirtual 123, 3) := by decide +kernel
theorem d_R_packedGates_55 : decode prog_5_method_7_code 55 = .ok (.isub, 1) := by decide +kernel
theorem d_R_packedGates_56 : decode prog_5_method_7_code 56 = .ok (.istore 5, 2) := by decide +kernel
theorem d_R_packedGates_58 : decode prog_5_method_7_code 58 = .ok (.aload_n 1, 1) := by decide +kernel
theorem d_R_packedGates_59 : decode prog_5_method_7_code 59 = .ok (.iconst 3, 1) := by decide +kernel
theorem d_R_packedGates_60 : decode prog_5_method_7_code 60 = .ok (.iload_n 3, 1) := by decide +kernel
theorem d_R_packedGates_61 : decode prog_5_method_7_code 61 = .ok (.iload_n 2, 1) := by decide +kernel
theorem d_R_packedGates_62 : decode prog_5_method_7_code 62 = .ok (.invokevirtual 113, 3) := by decide +kernel
theorem d_R_packedGates_65 : decode prog_5_method_7_code 65 = .ok (.aload_n 1, 1) := by decide +kernel
theorem d_R_packedGates_66 : decode prog_5_method_7_code 66 = .ok (.bipush 6, 2) := by decide +kernel
theorem d_R_packedGates_68 : decode prog_5_method_7_code 68 = .ok (.iload_n 3, 1) := by decide +kernel
theorem d_R_packedGates_69 : decode prog_5_method_7_code 69 = .ok (.iload 4, 2) := by decide +kernel
theorem d_R_packedGates_71 : decode prog_5_method_7_code 71 = .ok (.invokevirtual 113, 3) := by decide +kernel
theorem d_R_packedGates_74 : decode prog_5_method_7_code 74 = .ok (.aload_n 1, 1) := by decide +kernel
theorem d_R_packedGates_75 : decode prog_5_method_7_code 75 = .ok (.bipush 7, 2) := by decide +kernel
theorem d_R_packedGates_77 : decode prog_5_method_7_code 77 = .ok (.iload_n 3, 1) := by decide +kernel
theorem d_R_packedGates_78 : decode prog_5_method_7_code 78 = .ok (.iload 5, 2) := by decide +kernel
theorem d_R_packedGates_80 : decode prog_5_method_7_code 80 = .ok (.invokevirtual 113, 3) := by decide +kernel
theorem d_R_packedGates_83 : decode prog_5_method_7_code 83 = .ok (.iinc 3 1, 3) := by decide +kernel
theorem d_R_packedGates_86 : decode prog_5_method_7_code 86 = .ok (.goto (-70), 3) := by decide +kernel
theorem d_R_packedGates_89 : decode prog_5_method_7_code 89 = .ok (.return_, 1) := by decide +kernel
theorem d_R_closing_0 : decode prog_5_method_8_code 0 = .ok (.aload_n 0, 1) := by decide +kernel
theorem d_R_closing_1 : decode prog_5_method_8_code 1 = .ok (.getfield 32, 3) := by decide +kernel
theorem d_R_closing_4 : decode prog_5_method_8_code 4 = .ok (.aload_n 0, 1) := by decide +kernel
theorem d_R_closing_5 : decode prog_5_method_8_code 5 = .ok (.getfield 36, 3) := by decide +kernel
theorem d_R_closing_8 : decode prog_5_method_8_code 8 = .ok (.invokevirtual 43, 3) := by decide +kernel
theorem d_R_closing_11 : decode prog_5_method_8_code 11 = .ok (.istore_n 1, 1) := by decide +kernel
theorem d_R_closing_12 : decode prog_5_method_8_code 12 = .ok (.iload_n 1, 1) := by decide +kernel
theorem d_R_closing_13 : decode prog_5_method_8_code 13 = .ok (.iconst (-1), 1) := by decide +kernel
theorem d_R_closing_14 : decode prog_5_method_8_code 14 = .ok (.if_icmp .eq 17, 3) := by decide +kernel
theorem d_R_closing_17 : decode prog_5_method_8_code 17 = .ok (.iload_n 1, 1) := by decide +kernel
theorem d_R_closing_18 : decode prog_5_method_8_code 18 = .ok (.bipush 99, 2) := by decide +kernel
theorem d_R_closing_20 : decode prog_5_method_8_code 20 = .ok (.if_icmp .eq 11, 3) := by decide +kernel
theorem d_R_closing_23 : decode prog_5_method_8_code 23 = .ok (.aload_n 0, 1) := by decide +kernel
theorem d_R_closing_24 : decode prog_5_method_8_code 24 = .ok (.aload_n 0, 1) := by decide +kernel
theorem d_R_closing_25 : decode prog_5_method_8_code 25 = .ok (.getfield 36, 3) := by decide +kernel
theorem d_R_closing_28 : decode prog_5_method_8_code 28 = .ok (.invokevirtual 104, 3) := by decide +kernel
theorem d_R_closing_31 : decode prog_5_method_8_code 31 = .ok (.return_, 1) := by decide +kernel
theorem d_R_findUndefined_0 : decode prog_5_method_9_code 0 = .ok (.iconst 0, 1) := by decide +kernel
theorem d_R_findUndefined_1 : decode prog_5_method_9_code 1 = .ok (.istore_n 1, 1) := by decide +kernel
theorem d_R_findUndefined_2 : decode prog_5_method_9_code 2 = .ok (.iload_n 1, 1) := by decide +kernel
theorem d_R_findUndefined_3 : decode prog_5_method_9_code 3 = .ok (.aload_n 0, 1) := by decide +kernel
theorem d_R_findUndefined_4 : decode prog_5_method_9_code 4 = .ok (.getfield 107, 3) := by decide +kernel
theorem d_R_findUndefined_7 : decode prog_5_method_9_code 7 = .ok (.if_icmp .ge 68, 3) := by decide +kernel
theorem d_R_findUndefined_10 : decode prog_5_method_9_code 10 = .ok (.iload_n 1, 1) := by decide +kernel
theorem d_R_findUndefined_11 : decode prog_5_method_9_code 11 = .ok (.aload_n 0, 1) := by decide +kernel
theorem d_R_findUndefined_12 : decode prog_5_method_9_code 12 = .ok (.getfield 15, 3) := by decide +kernel
theorem d_R_findUndefined_15 : decode prog_5_method_9_code 15 = .ok (.arraylength, 1) := by decide +kernel
theorem d_R_findUndefined_16 : decode prog_5_method_9_code 16 = .ok (.if_icmp .ge 59, 3) := by decide +kernel
theorem d_R_findUndefined_19 : decode prog_5_method_9_code 19 = .ok (.iload_n 1, 1) := by decide +kernel
theorem d_R_findUndefined_20 : decode prog_5_method_9_code 20 = .ok (.aload_n 0, 1) := by decide +kernel
theorem d_R_findUndefined_21 : decode prog_5_method_9_code 21 = .ok (.getfield 19, 3) := by decide +kernel
theorem d_R_findUndefined_24 : decode prog_5_method_9_code 24 = .ok (.arraylength, 1) := by decide +kernel
theorem d_R_findUndefined_25 : decode prog_5_method_9_code 25 = .ok (.if_icmp .ge 50, 3) := by decide +kernel
theorem d_R_findUndefined_28 : decode prog_5_method_9_code 28 = .ok (.aload_n 0, 1) := by decide +kernel
theorem d_R_findUndefined_29 : decode prog_5_method_9_code 29 = .ok (.getfield 15, 3) := by decide +kernel
theorem d_R_findUndefined_32 : decode prog_5_method_9_code 32 = .ok (.iload_n 1, 1) := by decide +kernel
theorem d_R_findUndefined_33 : decode prog_5_method_9_code 33 = .ok (.iaload, 1) := by decide +kernel
theorem d_R_findUndefined_34 : decode prog_5_method_9_code 34 = .ok (.iconst 1, 1) := by decide +kernel
theorem d_R_findUndefined_35 : decode prog_5_method_9_code 35 = .ok (.ishr, 1) := by decide +kernel
theorem d_R_findUndefined_36 : decode prog_5_method_9_code 36 = .ok (.istore_n 2, 1) := by decide +kernel
theorem d_R_findUndefined_37 : decode prog_5_method_9_code 37 = .ok (.iload_n 2, 1) := by decide +kernel
theorem d_R_findUndefined_38 : decode prog_5_method_9_code 38 = .ok (.ifCond .le 31, 3) := by decide +kernel
theorem d_R_findUndefined_41 : decode prog_5_method_9_code 41 = .ok (.iload_n 2, 1) := by decide +kernel
theorem d_R_findUndefined_42 : decode prog_5_method_9_code 42 = .ok (.aload_n 0, 1) := by decide +kernel
theorem d_R_findUndefined_43 : decode prog_5_method_9_code 43 = .ok (.getfield 9, 3) := by decide +kernel
theorem d_R_findUndefined_46 : decode prog_5_method_9_code 46 = .ok (.arraylength, 1) := by decide +kernel
theorem d_R_findUndefined_47 : decode prog_5_method_9_code 47 = .ok (.if_icmp .ge 22, 3) := by decide +kernel
theorem d_R_findUndefined_50 : decode prog_5_method_9_code 50 = .ok (.aload_n 0, 1) := by decide +kernel
theorem d_R_findUndefined_51 : decode prog_5_method_9_code 51 = .ok (.getfield 9, 3) := by decide +kernel
theorem d_R_findUndefined_54 : decode prog_5_method_9_code 54 = .ok (.iload_n 2, 1) := by decide +kernel
theorem d_R_findUndefined_55 : decode prog_5_method_9_code 55 = .ok (.baload, 1) := by decide +kernel
theorem d_R_findUndefined_56 : decode prog_5_method_9_code 56 = .ok (.ifCond .ne 13, 3) := by decide +kernel
theorem d_R_findUndefined_59 : decode prog_5_method_9_code 59 = .ok (.aload_n 0, 1) := by decide +kernel
theorem d_R_findUndefined_60 : decode prog_5_method_9_code 60 = .ok (.aload_n 0, 1) := by decide +kernel
theorem d_R_findUndefined_61 : decode prog_5_method_9_code 61 = .ok (.getfield 19, 3) := by decide +kernel
theorem d_R_findUndefined_64 : decode prog_5_method_9_code 64 = .ok (.iload_n 1, 1) := by decide +kernel
theorem d_R_findUndefined_65 : decode prog_5_method_9_code 65 = .ok (.iaload, 1) := by decide +kernel
theorem d_R_findUndefined_66 : decode prog_5_method_9_code 66 = .ok (.invokevirtual 104, 3) := by decide +kernel
theorem d_R_findUndefined_69 : decode prog_5_method_9_code 69 = .ok (.iinc 1 1, 3) := by decide +kernel
theorem d_R_findUndefined_72 : decode prog_5_method_9_code 72 = .ok (.goto (-70), 3) := by decide +kernel
theorem d_R_findUndefined_75 : decode prog_5_method_9_code 75 = .ok (.return_, 1) := by decide +kernel
theorem d_R_findRound_0 : decode prog_5_method_10_code 0 = .ok (.aload_n 1, 1) := by decide +kernel
theorem d_R_findRound_1 : decode prog_5_method_10_code 1 = .ok (.iconst 3, 1) := by decide +kernel
theorem d_R_findRound_2 : decode prog_5_method_10_code 2 = .ok (.invokevirtual 98, 3) := by decide +kernel
theorem d_R_findRound_5 : decode prog_5_method_10_code 5 = .ok (.aload_n 0, 1) := by decide +kernel
theorem d_R_findRound_6 : decode prog_5_method_10_code 6 = .ok (.getfield 29, 3) := by decide +kernel
theorem d_R_findRound_9 : decode prog_5_method_10_code 9 = .ok (.arraylength, 1) := by decide +kernel
theorem d_R_findRound_10 : decode prog_5_method_10_code 10 = .ok (.invokestatic 127, 3) := by decide +kernel
theorem d_R_findRound_13 : decode prog_5_method_10_code 13 = .ok (.istore_n 2, 1) := by decide +kernel
theorem d_R_findRound_14 : decode prog_5_method_10_code 14 = .ok (.aload_n 0, 1) := by decide +kernel
theorem d_R_findRound_15 : decode prog_5_method_10_code 15 = .ok (.aload_n 1, 1) := by decide +kernel
theorem d_R_findRound_16 : decode prog_5_method_10_code 16 = .ok (.iload_n 2, 1) := by decide +kernel
theorem d_R_findRound_17 : decode prog_5_method_10_code 17 = .ok (.invokevirtual 132, 3) := by decide +kernel
theorem d_R_findRound_20 : decode prog_5_method_10_code 20 = .ok (.iconst 0, 1) := by decide +kernel
theorem d_R_findRound_21 : decode prog_5_method_10_code 21 = .ok (.istore_n 3, 1) := by decide +kernel
theorem d_R_findRound_22 : decode prog_5_method_10_code 22 = .ok (.iload_n 3, 1) := by decide +kernel
theorem d_R_findRound_23 : decode prog_5_method_10_code 23 = .ok (.iload_n 2, 1) := by decide +kernel
theorem d_R_findRound_24 : decode prog_5_method_10_code 24 = .ok (.if_icmp .ge 56, 3) := by decide +kernel
theorem d_R_findRound_27 : decode prog_5_method_10_code 27 = .ok (.iconst 0, 1) := by decide +kernel
theorem d_R_findRound_28 : decode prog_5_method_10_code 28 = .ok (.istore 4, 2) := by decide +kernel
theorem d_R_findRound_30 : decode prog_5_method_10_code 30 = .ok (.iload 4, 2) := by decide +kernel
theorem d_R_findRound_32 : decode prog_5_method_10_code 32 = .ok (.iload_n 2, 1) := by decide +kernel
theorem d_R_findRound_33 : decode prog_5_method_10_code 33 = .ok (.if_icmp .ge 41, 3) := by decide +kernel
theorem d_R_findRound_36 : decode prog_5_method_10_code 36 = .ok (.aload_n 0, 1) := by decide +kernel
theorem d_R_findRound_37 : decode prog_5_method_10_code 37 = .ok (.getfield 29, 3) := by decide +kernel
theorem d_R_findRound_40 : decode prog_5_method_10_code 40 = .ok (.iload 4, 2) := by decide +kernel
theorem d_R_findRound_42 : decode prog_5_method_10_code 42 = .ok (.laload, 1) := by decide +kernel
theorem d_R_findRound_43 : decode prog_5_method_10_code 43 = .ok (.iload_n 3, 1) := by decide +kernel
theorem d_R_findRound_44 : decode prog_5_method_10_code 44 = .ok (.lushr, 1) := by decide +kernel
theorem d_R_findRound_45 : decode prog_5_method_10_code 45 = .ok (.lconst 1, 1) := by decide +kernel
theorem d_R_findRound_46 : decode prog_5_method_10_code 46 = .ok (.land, 1) := by decide +kernel
theorem d_R_findRound_47 : decode prog_5_method_10_code 47 = .ok (.lconst 0, 1) := by decide +kernel
theorem d_R_findRound_48 : decode prog_5_method_10_code 48 = .ok (.lcmp, 1) := by decide +kernel
theorem d_R_findRound_49 : decode prog_5_method_10_code 49 = .ok (.ifCond .eq 19, 3) := by decide +kernel
theorem d_R_findRound_52 : decode prog_5_method_10_code 52 = .ok (.aload_n 0, 1) := by decide +kernel
theorem d_R_findRound_53 : decode prog_5_method_10_code 53 = .ok (.getfield 29, 3) := by decide +kernel
theorem d_R_findRound_56 : decode prog_5_method_10_code 56 = .ok (.iload 4, 2) := by decide +kernel
theorem d_R_findRound_58 : decode prog_5_method_10_code 58 = .ok (.dup2, 1) := by decide +kernel
theorem d_R_findRound_59 : decode prog_5_method_10_code 59 = .ok (.laload, 1) := by decide +kernel
theorem d_R_findRound_60 : decode prog_5_method_10_code 60 = .ok (.aload_n 0, 1) := by decide +kernel
theorem d_R_findRound_61 : decode prog_5_method_10_code 61 = .ok (.getfield 29, 3) := by decide +kernel
theorem d_R_findRound_64 : decode prog_5_method_10_code 64 = .ok (.iload_n 3, 1) := by decide +kernel
theorem d_R_findRound_65 : decode prog_5_method_10_code 65 = .ok (.laload, 1) := by decide +kernel
theorem d_R_findRound_66 : decode prog_5_method_10_code 66 = .ok (.lor, 1) := by decide +kernel
theorem d_R_findRound_67 : decode prog_5_method_10_code 67 = .ok (.lastore, 1) := by decide +kernel
theorem d_R_findRound_68 : decode prog_5_method_10_code 68 = .ok (.iinc 4 1, 3) := by decide +kernel
theorem d_R_findRound_71 : decode prog_5_method_10_code 71 = .ok (.goto (-41), 3) := by decide +kernel
theorem d_R_findRound_74 : decode prog_5_method_10_code 74 = .ok (.iinc 3 1, 3) := by decide +kernel
theorem d_R_findRound_77 : decode prog_5_method_10_code 77 = .ok (.goto (-55), 3) := by decide +kernel
theorem d_R_findRound_80 : decode prog_5_method_10_code 80 = .ok (.iconst 0, 1) := by decide +kernel
theorem d_R_findRound_81 : decode prog_5_method_10_code 81 = .ok (.istore_n 3, 1) := by decide +kernel
theorem d_R_findRound_82 : decode prog_5_method_10_code 82 = .ok (.iload_n 3, 1) := by decide +kernel
theorem d_R_findRound_83 : decode prog_5_method_10_code 83 = .ok (.iload_n 2, 1) := by decide +kernel
theorem d_R_findRound_84 : decode prog_5_method_10_code 84 = .ok (.if_icmp .ge 43, 3) := by decide +kernel
theorem d_R_findRound_87 : decode prog_5_method_10_code 87 = .ok (.iload_n 3, 1) := by decide +kernel
theorem d_R_findRound_88 : decode prog_5_method_10_code 88 = .ok (.aload_n 0, 1) := by decide +kernel
theorem d_R_findRound_89 : decode prog_5_method_10_code 89 = .ok (.getfield 22, 3) := by decide +kernel
theorem d_R_findRound_92 : decode prog_5_method_10_code 92 = .ok (.arraylength, 1) := by decide +kernel
theorem d_R_findRound_93 : decode prog_5_method_10_code 93 = .ok (.if_icmp .ge 34, 3) := by decide +kernel
theorem d_R_findRound_96 : decode prog_5_method_10_code 96 = .ok (.aload_n 0, 1) := by decide +kernel
theorem d_R_findRound_97 : decode prog_5_method_10_code 97 = .ok (.getfield 29, 3) := by decide +kernel
theorem d_R_findRound_100 : decode prog_5_method_10_code 100 = .ok (.iload_n 3, 1) := by decide +kernel
theorem d_R_findRound_101 : decode prog_5_method_10_code 101 = .ok (.laload, 1) := by decide +kernel
theorem d_R_findRound_102 : decode prog_5_method_10_code 102 = .ok (.iload_n 3, 1) := by decide +kernel
theorem d_R_findRound_103 : decode prog_5_method_10_code 103 = .ok (.lushr, 1) := by decide +kernel
theorem d_R_findRound_104 : decode prog_5_method_10_code 104 = .ok (.lconst 1, 1) := by decide +kernel
theorem d_R_findRound_105 : decode prog_5_method_10_code 105 = .ok (.land, 1) := by decide +kernel
theorem d_R_findRound_106 : decode prog_5_method_10_code 106 = .ok (.lconst 0, 1) := by decide +kernel
theorem d_R_findRound_107 : decode prog_5_method_10_code 107 = .ok (.lcmp, 1) := by decide +kernel
theorem d_R_findRound_108 : decode prog_5_method_10_code 108 = .ok (.ifCond .eq 13, 3) := by decide +kernel
theorem d_R_findRound_111 : decode prog_5_method_10_code 111 = .ok (.aload_n 0, 1) := by decide +kernel
theorem d_R_findRound_112 : decode prog_5_method_10_code 112 = .ok (.aload_n 0, 1) := by decide +kernel
theorem d_R_findRound_113 : decode prog_5_method_10_code 113 = .ok (.getfield 22, 3) := by decide +kernel
theorem d_R_findRound_116 : decode prog_5_method_10_code 116 = .ok (.iload_n 3, 1) := by decide +kernel
theorem d_R_findRound_117 : decode prog_5_method_10_code 117 = .ok (.iaload, 1) := by decide +kernel
theorem d_R_findRound_118 : decode prog_5_method_10_code 118 = .ok (.invokevirtual 104, 3) := by decide +kernel
theorem d_R_findRound_121 : decode prog_5_method_10_code 121 = .ok (.iinc 3 1, 3) := by decide +kernel
theorem d_R_findRound_124 : decode prog_5_method_10_code 124 = .ok (.goto (-42), 3) := by decide +kernel
theorem d_R_findRound_127 : decode prog_5_method_10_code 127 = .ok (.return_, 1) := by decide +kernel
theorem d_R_noteWhatGatesRestOn_0 : decode prog_5_method_11_code 0 = .ok (.iconst 0, 1) := by decide +kernel
theorem d_R_noteWhatGatesRestOn_1 : decode prog_5_method_11_code 1 = .ok (.istore_n 3, 1) := by decide +kernel
theorem d_R_noteWhatGatesRestOn_2 : decode prog_5_method_11_code 2 = .ok (.iload_n 3, 1) := by decide +kernel
theorem d_R_noteWhatGatesRestOn_3 : decode prog_5_method_11_code 3 = .ok (.aload_n 0, 1) := by decide +kernel
theorem d_R_noteWhatGatesRestOn_4 : decode prog_5_method_11_code 4 = .ok (.getfield 25, 3) := by decide +kernel
theorem d_R_noteWhatGatesRestOn_7 : decode prog_5_method_11_code 7 = .ok (.arraylength, 1) := by decide +kernel
theorem d_R_noteWhatGatesRestOn_8 : decode prog_5_method_11_code 8 = .ok (.if_icmp .ge 16, 3) := by decide +kernel
theorem d_R_noteWhatGatesRestOn_11 : decode prog_5_method_11_code 11 = .ok (.aload_n 0, 1) := by decide +kernel
theorem d_R_noteWhatGatesRestOn_12 : decode prog_5_method_11_code 12 = .ok (.getfield 25, 3) := by decide +kernel
theorem d_R_noteWhatGatesRestOn_15 : decode prog_5_method_11_code 15 = .ok (.iload_n 3, 1) := by decide +kernel
theorem d_R_noteWhatGatesRestOn_16 : decode prog_5_method_11_code 16 = .ok (.lconst 0, 1) := by decide +kernel
theorem d_R_noteWhatGatesRestOn_17 : decode prog_5_method_11_code 17 = .ok (.lastore, 1) := by decide +kernel
theorem d_R_noteWhatGatesRestOn_18 : decode prog_5_method_11_code 18 = .ok (.iinc 3 1, 3) := by decide +kernel
theorem d_R_noteWhatGatesRestOn_21 : decode prog_5_method_11_code 21 = .ok (.goto (-19), 3) := by decide +kernel
theorem d_R_noteWhatGatesRestOn_24 : decode prog_5_method_11_code 24 = .ok (.iconst 0, 1) := by decide +kernel
theorem d_R_noteWhatGatesRestOn_25 : decode prog_5_method_11_code 25 = .ok (.istore_n 3, 1) := by decide +kernel
theorem d_R_noteWhatGatesRestOn_26 : decode prog_5_method_11_code 26 = .ok (.iload_n 3, 1) := by decide +kernel
theorem d_R_noteWhatGatesRestOn_27 : decode prog_5_method_11_code 27 = .ok (.iload_n 2, 1) := by decide +kernel
theorem d_R_noteWhatGatesRestOn_28 : decode prog_5_method_11_code 28 = .ok (.if_icmp .ge 44, 3) := by decide +kernel
theorem d_R_noteWhatGatesRestOn_31 : decode prog_5_method_11_code 31 = .ok (.aload_n 1, 1) := by decide +kernel
theorem d_R_noteWhatGatesRestOn_32 : decode prog_5_method_11_code 32 = .ok (.iconst 3, 1) := by decide +kernel
theorem d_R_noteWhatGatesRestOn_33 : decode prog_5_method_11_code 33 = .ok (.iload_n 3, 1) := by decide +kernel
theorem d_R_noteWhatGatesRestOn_34 : decode prog_5_method_11_code 34 = .ok (.invokevirtual 136, 3) := by decide +kernel
theorem d_R_noteWhatGatesRestOn_37 : decode prog_5_method_11_code 37 = .ok (.iconst 1, 1) := by decide +kernel
theorem d_R_noteWhatGatesRestOn_38 : decode prog_5_method_11_code 38 = .ok (.ishr, 1) := by decide +kernel
theorem d_R_noteWhatGatesRestOn_39 : decode prog_5_method_11_code 39 = .ok (.istore 4, 2) := by decide +kernel
theorem d_R_noteWhatGatesRestOn_41 : decode prog_5_method_11_code 41 = .ok (.iload 4, 2) := by decide +kernel
theorem d_R_noteWhatGatesRestOn_43 : decode prog_5_method_11_code 43 = .ok (.ifCond .lt 23, 3) := by decide +kernel
theorem d_R_noteWhatGatesRestOn_46 : decode prog_5_method_11_code 46 = .ok (.iload 4, 2) := by decide +kernel
theorem d_R_noteWhatGatesRestOn_48 : decode prog_5_method_11_code 48 = .ok (.aload_n 0, 1) := by decide +kernel
theorem d_R_noteWhatGatesRestOn_49 : decode prog_5_method_11_code 49 = .ok (.getfield 25, 3) := by decide +kernel
theorem d_R_noteWhatGatesRestOn_52 : decode prog_5_method_11_code 52 = .ok (.arraylength, 1) := by decide +kernel
theorem d_R_noteWhatGatesRestOn_53 : decode prog_5_method_11_code 53 = .ok (.if_icmp .ge 13, 3) := by decide +kernel
theorem d_R_noteWhatGatesRestOn_56 : decode prog_5_method_11_code 56 = .ok (.aload_n 0, 1) := by decide +kernel
theorem d_R_noteWhatGatesRestOn_57 : decode prog_5_method_11_code 57 = .ok (.getfield 25, 3) := by decide +kernel
theorem d_R_noteWhatGatesRestOn_60 : decode prog_5_method_11_code 60 = .ok (.iload 4, 2) := by decide +kernel
theorem d_R_noteWhatGatesRestOn_62 : decode prog_5_method_11_code 62 = .ok (.lconst 1, 1) := by decide +kernel
theorem d_R_noteWhatGatesRestOn_63 : decode prog_5_method_11_code 63 = .ok (.iload_n 3, 1) := by decide +kernel
theorem d_R_noteWhatGatesRestOn_64 : decode prog_5_method_11_code 64 = .ok (.lshl, 1) := by decide +kernel
theorem d_R_noteWhatGatesRestOn_65 : decode prog_5_method_11_code 65 = .ok (.lastore, 1) := by decide +kernel
theorem d_R_noteWhatGatesRestOn_66 : decode prog_5_method_11_code 66 = .ok (.iinc 3 1, 3) := by decide +kernel
theorem d_R_noteWhatGatesRestOn_69 : decode prog_5_method_11_code 69 = .ok (.goto (-43), 3) := by decide +kernel
theorem d_R_noteWhatGatesRestOn_72 : decode prog_5_method_11_code 72 = .ok (.iconst 0, 1) := by decide +kernel
theorem d_R_noteWhatGatesRestOn_73 : decode prog_5_method_11_code 73 = .ok (.istore_n 3, 1) := by decide +kernel
theorem d_R_noteWhatGatesRestOn_74 : decode prog_5_method_11_code 74 = .ok (.iload_n 3, 1) := by decide +kernel
theorem d_R_noteWhatGatesRestOn_75 : decode prog_5_method_11_code 75 = .ok (.iload_n 2, 1) := by decide +kernel
theorem d_R_noteWhatGatesRestOn_76 : decode prog_5_method_11_code 76 = .ok (.if_icmp .ge 47, 3) := by decide +kernel
theorem d_R_noteWhatGatesRestOn_79 : decode prog_5_method_11_code 79 = .ok (.iload_n 3, 1) := by decide +kernel
theorem d_R_noteWhatGatesRestOn_80 : decode prog_5_method_11_code 80 = .ok (.aload_n 0, 1) := by decide +kernel
theorem d_R_noteWhatGatesRestOn_81 : decode prog_5_method_11_code 81 = .ok (.getfield 29, 3) := by decide +kernel
theorem d_R_noteWhatGatesRestOn_84 : decode prog_5_method_11_code 84 = .ok (.arraylength, 1) := by decide +kernel
theorem d_R_noteWhatGatesRestOn_85 : decode prog_5_method_11_code 85 = .ok (.if_icmp .ge 38, 3) := by decide +kernel
theorem d_R_noteWhatGatesRestOn_88 : decode prog_5_method_11_code 88 = .ok (.aload_n 0, 1) := by decide +kernel
theorem d_R_noteWhatGatesRestOn_89 : decode prog_5_method_11_code 89 = .ok (.getfield 29, 3) := by decide +kernel
theorem d_R_noteWhatGatesRestOn_92 : decode prog_5_method_11_code 92 = .ok (.iload_n 3, 1) := by decide +kernel
theorem d_R_noteWhatGatesRestOn_93 : decode prog_5_method_11_code 93 = .ok (.aload_n 0, 1) := by decide +kernel
theorem d_R_noteWhatGatesRestOn_94 : decode prog_5_method_11_code 94 = .ok (.aload_n 1, 1) := by decide +kernel
theorem d_R_noteWhatGatesRestOn_95 : decode prog_5_method_11_code 95 = .ok (.bipush 6, 2) := by decide +kernel
theorem d_R_noteWhatGatesRestOn_97 : decode prog_5_method_11_code 97 = .ok (.iload_n 3, 1) := by decide +kernel
theorem d_R_noteWhatGatesRestOn_98 : decode prog_5_method_11_code 98 = .ok (.invokevirtual 136, 3) := by decide +kernel
theorem d_R_noteWhatGatesRestOn_101 : decode prog_5_method_11_code 101 = .ok (.invokevirtual 139, 3) := by decide +kernel
theorem d_R_noteWhatGatesRestOn_104 : decode prog_5_method_11_code 104 = .ok (.aload_n 0, 1) := by decide +kernel
theorem d_R_noteWhatGatesRestOn_105 : decode prog_5_method_11_code 105 = .ok (.aload_n 1, 1) := by decide +kernel
theorem d_R_noteWhatGatesRestOn_106 : decode prog_5_method_11_code 106 = .ok (.bipush 7, 2) := by decide +kernel
theorem d_R_noteWhatGatesRestOn_108 : decode prog_5_method_11_code 108 = .ok (.iload_n 3, 1) := by decide +kernel
theorem d_R_noteWhatGatesRestOn_109 : decode prog_5_method_11_code 109 = .ok (.invokevirtual 136, 3) := by decide +kernel
theorem d_R_noteWhatGatesRestOn_112 : decode prog_5_method_11_code 112 = .ok (.invokevirtual 139, 3) := by decide +kernel
theorem d_R_noteWhatGatesRestOn_115 : decode prog_5_method_11_code 115 = .ok (.lor, 1) := by decide +kernel
theorem d_R_noteWhatGatesRestOn_116 : decode prog_5_method_11_code 116 = .ok (.lastore, 1) := by decide +kernel
theorem d_R_noteWhatGatesRestOn_117 : decode prog_5_method_11_code 117 = .ok (.iinc 3 1, 3) := by decide +kernel
theorem d_R_noteWhatGatesRestOn_120 : decode prog_5_method_11_code 120 = .ok (.goto (-46), 3) := by decide +kernel
theorem d_R_noteWhatGatesRestOn_123 : decode prog_5_method_11_code 123 = .ok (.return_, 1) := by decide +kernel
theorem d_R_gateBit_0 : decode prog_5_method_12_code 0 = .ok (.iload_n 1, 1) := by decide +kernel
theorem d_R_gateBit_1 : decode prog_5_method_12_code 1 = .ok (.iconst 1, 1) := by decide +kernel
theorem d_R_gateBit_2 : decode prog_5_method_12_code 2 = .ok (.ishr, 1) := by decide +kernel
theorem d_R_gateBit_3 : decode prog_5_method_12_code 3 = .ok (.istore_n 2, 1) := by decide +kernel
theorem d_R_gateBit_4 : decode prog_5_method_12_code 4 = .ok (.iload_n 2, 1) := by decide +kernel
theorem d_R_gateBit_5 : decode prog_5_method_12_code 5 = .ok (.ifCond .lt 21, 3) := by decide +kernel
theorem d_R_gateBit_8 : decode prog_5_method_12_code 8 = .ok (.iload_n 2, 1) := by decide +kernel
theorem d_R_gateBit_9 : decode prog_5_method_12_code 9 = .ok (.aload_n 0, 1) := by decide +kernel
theorem d_R_gateBit_10 : decode prog_5_method_12_code 10 = .ok (.getfield 25, 3) := by decide +kernel
theorem d_R_gateBit_13 : decode prog_5_method_12_code 13 = .ok (.arraylength, 1) := by decide +kernel
theorem d_R_gateBit_14 : decode prog_5_method_12_code 14 = .ok (.if_icmp .ge 12, 3) := by decide +kernel
theorem d_R_gateBit_17 : decode prog_5_method_12_code 17 = .ok (.aload_n 0, 1) := by decide +kernel
theorem d_R_gateBit_18 : decode prog_5_method_12_code 18 = .ok (.getfield 25, 3) := by decide +kernel
theorem d_R_gateBit_21 : decode prog_5_method_12_code 21 = .ok (.iload_n 2, 1) := by decide +kernel
theorem d_R_gateBit_22 : decode prog_5_method_12_code 22 = .ok (.laload, 1) := by decide +kernel
theorem d_R_gateBit_23 : decode prog_5_method_12_code 23 = .ok (.goto 4, 3) := by decide +kernel
theorem d_R_gateBit_26 : decode prog_5_method_12_code 26 = .ok (.lconst 0, 1) := by decide +kernel
theorem d_R_gateBit_27 : decode prog_5_method_12_code 27 = .ok (.lreturn, 1) := by decide +kernel
theorem d_R_definition_0 : decode prog_5_method_13_code 0 = .ok (.aload_n 0, 1) := by decide +kernel
theorem d_R_definition_1 : decode prog_5_method_13_code 1 = .ok (.getfield 36, 3) := by decide +kernel
theorem d_R_definition_4 : decode prog_5_method_13_code 4 = .ok (.istore_n 2, 1) := by decide +kernel
theorem d_R_definition_5 : decode prog_5_method_13_code 5 = .ok (.aload_n 0, 1) := by decide +kernel
theorem d_R_definition_6 : decode prog_5_method_13_code 6 = .ok (.iload_n 1, 1) := by decide +kernel
theorem d_R_definition_7 : decode prog_5_method_13_code 7 = .ok (.invokevirtual 101, 3) := by decide +kernel
theorem d_R_definition_10 : decode prog_5_method_13_code 10 = .ok (.istore_n 3, 1) := by decide +kernel
theorem d_R_definition_11 : decode prog_5_method_13_code 11 = .ok (.iload_n 3, 1) := by decide +kernel
theorem d_R_definition_12 : decode prog_5_method_13_code 12 = .ok (.iconst 1, 1) := by decide +kernel
theorem d_R_definition_13 : decode prog_5_method_13_code 13 = .ok (.ishr, 1) := by decide +kernel
theorem d_R_definition_14 : decode prog_5_method_13_code 14 = .ok (.istore 4, 2) := by decide +kernel
theorem d_R_definition_16 : decode prog_5_method_13_code 16 = .ok (.iload 4, 2) := by decide +kernel
theorem d_R_definition_18 : decode prog_5_method_13_code 18 = .ok (.ifCond .le 29, 3) := by decide +kernel
theorem d_R_definition_21 : decode prog_5_method_13_code 21 = .ok (.iload 4, 2) := by decide +kernel
theorem d_R_definition_23 : decode prog_5_method_13_code 23 = .ok (.aload_n 0, 1) := by decide +kernel
theorem d_R_definition_24 : decode prog_5_method_13_code 24 = .ok (.getfield 9, 3) := by decide +kernel
theorem d_R_definition_27 : decode prog_5_method_13_code 27 = .ok (.arraylength, 1) := by decide +kernel
theorem d_R_definition_28 : decode prog_5_method_13_code 28 = .ok (.if_icmp .ge 19, 3) := by decide +kernel
theorem d_R_definition_31 : decode prog_5_method_13_code 31 = .ok (.iload_n 3, 1) := by decide +kernel
theorem d_R_definition_32 : decode prog_5_method_13_code 32 = .ok (.iconst 1, 1) := by decide +kernel
theorem d_R_definition_33 : decode prog_5_method_13_code 33 = .ok (.iand, 1) := by decide +kernel
theorem d_R_definition_34 : decode prog_5_method_13_code 34 = .ok (.ifCond .ne 13, 3) := by decide +kernel
theorem d_R_definition_37 : decode prog_5_method_13_code 37 = .ok (.aload_n 0, 1) := by decide +kernel
theorem d_R_definition_38 : decode prog_5_method_13_code 38 = .ok (.getfield 9, 3) := by decide +kernel
theorem d_R_definition_41 : decode prog_5_method_13_code 41 = .ok (.iload 4, 2) := by decide +kernel
theorem d_R_definition_43 : decode prog_5_method_13_code 43 = .ok (.baload, 1) := by decide +kernel
theorem d_R_definition_44 : decode prog_5_method_13_code 44 = .ok (.ifCond .eq 10, 3) := by decide +kernel
theorem d_R_definition_47 : decode prog_5_method_13_code 47 = .ok (.aload_n 0, 1) := by decide +kernel
theorem d_R_definition_48 : decode prog_5_method_13_code 48 = .ok (.iload_n 2, 1) := by decide +kernel
theorem d_R_definition_49 : decode prog_5_method_13_code 49 = .ok (.invokevirtual 104, 3) := by decide +kernel
theorem d_R_definition_52 : decode prog_5_method_13_code 52 = .ok (.iconst 0, 1) := by decide +kernel
theorem d_R_definition_53 : decode prog_5_method_13_code 53 = .ok (.ireturn, 1) := by decide +kernel
theorem d_R_definition_54 : decode prog_5_method_13_code 54 = .ok (.aload_n 0, 1) := by decide +kernel
theorem d_R_definition_55 : decode prog_5_method_13_code 55 = .ok (.getfield 9, 3) := by decide +kernel
theorem d_R_definition_58 : decode prog_5_method_13_code 58 = .ok (.iload 4, 2) := by decide +kernel
theorem d_R_definition_60 : decode prog_5_method_13_code 60 = .ok (.iconst 1, 1) := by decide +kernel
theorem d_R_definition_61 : decode prog_5_method_13_code 61 = .ok (.bastore, 1) := by decide +kernel
theorem d_R_definition_62 : decode prog_5_method_13_code 62 = .ok (.iload_n 3, 1) := by decide +kernel
theorem d_R_definition_63 : decode prog_5_method_13_code 63 = .ok (.ireturn, 1) := by decide +kernel
theorem d_R_use_0 : decode prog_5_method_14_code 0 = .ok (.aload_n 0, 1) := by decide +kernel
theorem d_R_use_1 : decode prog_5_method_14_code 1 = .ok (.getfield 36, 3) := by decide +kernel
theorem d_R_use_4 : decode prog_5_method_14_code 4 = .ok (.istore_n 2, 1) := by decide +kernel
theorem d_R_use_5 : decode prog_5_method_14_code 5 = .ok (.aload_n 0, 1) := by decide +kernel
theorem d_R_use_6 : decode prog_5_method_14_code 6 = .ok (.iload_n 1, 1) := by decide +kernel
theorem d_R_use_7 : decode prog_5_method_14_code 7 = .ok (.invokevirtual 101, 3) := by decide +kernel
theorem d_R_use_10 : decode prog_5_method_14_code 10 = .ok (.istore_n 3, 1) := by decide +kernel
theorem d_R_use_11 : decode prog_5_method_14_code 11 = .ok (.aload_n 0, 1) := by decide +kernel
theorem d_R_use_12 : decode prog_5_method_14_code 12 = .ok (.getfield 107, 3) := by decide +kernel
theorem d_R_use_15 : decode prog_5_method_14_code 15 = .ok (.ifCond .lt 57, 3) := by decide +kernel
theorem d_R_use_18 : decode prog_5_method_14_code 18 = .ok (.aload_n 0, 1) := by decide +kernel
theorem d_R_use_19 : decode prog_5_method_14_code 19 = .ok (.getfield 107, 3) := by decide +kernel
theorem d_R_use_22 : decode prog_5_method_14_code 22 = .ok (.aload_n 0, 1) := by decide +kernel
theorem d_R_use_23 : decode prog_5_method_14_code 23 = .ok (.getfield 15, 3) := by decide +kernel
theorem d_R_use_26 : decode prog_5_method_14_code 26 = .ok (.arraylength, 1) := by decide +kernel
theorem d_R_use_27 : decode prog_5_method_14_code 27 = .ok (.if_icmp .ge 45, 3) := by decide +kernel
theorem d_R_use_30 : decode prog_5_method_14_code 30 = .ok (.aload_n 0, 1) := by decide +kernel
theorem d_R_use_31 : decode prog_5_method_14_code 31 = .ok (.getfield 107, 3) := by decide +kernel
theorem d_R_use_34 : decode prog_5_method_14_code 34 = .ok (.aload_n 0, 1) := by decide +kernel
theorem d_R_use_35 : decode prog_5_method_14_code 35 = .ok (.getfield 19, 3) := by decide +kernel
theorem d_R_use_38 : decode prog_5_method_14_code 38 = .ok (.arraylength, 1) := by decide +kernel
theorem d_R_use_39 : decode prog_5_method_14_code 39 = .ok (.if_icmp .ge 33, 3) := by decide +kernel
theorem d_R_use_42 : decode prog_5_method_14_code 42 = .ok (.aload_n 0, 1) := by decide +kernel
theorem d_R_use_43 : decode prog_5_method_14_code 43 = .ok (.getfield 15, 3) := by decide +kernel
theorem d_R_use_46 : decode prog_5_method_14_code 46 = .ok (.aload_n 0, 1) := by decide +kernel
theorem d_R_use_47 : decode prog_5_method_14_code 47 = .ok (.getfield 107, 3) := by decide +kernel
theorem d_R_use_50 : decode prog_5_method_14_code 50 = .ok (.iload_n 3, 1) := by decide +kernel
theorem d_R_use_51 : decode prog_5_method_14_code 51 = .ok (.iastore, 1) := by decide +kernel
theorem d_R_use_52 : decode prog_5_method_14_code 52 = .ok (.aload_n 0, 1) := by decide +kernel
theorem d_R_use_53 : decode prog_5_method_14_code 53 = .ok (.getfield 19, 3) := by decide +kernel
theorem d_R_use_56 : decode prog_5_method_14_code 56 = .ok (.aload_n 0, 1) := by decide +kernel
theorem d_R_use_57 : decode prog_5_method_14_code 57 = .ok (.getfield 107, 3) := by decide +kernel
theorem d_R_use_60 : decode prog_5_method_14_code 60 = .ok (.iload_n 2, 1) := by decide +kernel
theorem d_R_use_61 : decode prog_5_method_14_code 61 = .ok (.iastore, 1) := by decide +kernel
theorem d_R_use_62 : decode prog_5_method_14_code 62 = .ok (.aload_n 0, 1) := by decide +kernel
theorem d_R_use_63 : decode prog_5_method_14_code 63 = .ok (.dup, 1) := by decide +kernel
theorem d_R_use_64 : decode prog_5_method_14_code 64 = .ok (.getfield 107, 3) := by decide +kernel
theorem d_R_use_67 : decode prog_5_method_14_code 67 = .ok (.iconst 1, 1) := by decide +kernel
theorem d_R_use_68 : decode prog_5_method_14_code 68 = .ok (.iadd, 1) := by decide +kernel
theorem d_R_use_69 : decode prog_5_method_14_code 69 = .ok (.putfield 107, 3) := by decide +kernel
theorem d_R_use_72 : decode prog_5_method_14_code 72 = .ok (.iload_n 3, 1) := by decide +kernel
theorem d_R_use_73 : decode prog_5_method_14_code 73 = .ok (.ireturn, 1) := by decide +kernel
theorem d_R_perhapsFirst_0 : decode prog_5_method_15_code 0 = .ok (.aload_n 0, 1) := by decide +kernel
theorem d_R_perhapsFirst_1 : decode prog_5_method_15_code 1 = .ok (.getfield 32, 3) := by decide +kernel
theorem d_R_perhapsFirst_4 : decode prog_5_method_15_code 4 = .ok (.aload_n 0, 1) := by decide +kernel
theorem d_R_perhapsFirst_5 : decode prog_5_method_15_code 5 = .ok (.getfield 36, 3) := by decide +kernel
theorem d_R_perhapsFirst_8 : decode prog_5_method_15_code 8 = .ok (.invokevirtual 43, 3) := by decide +kernel
theorem d_R_perhapsFirst_11 : decode prog_5_method_15_code 11 = .ok (.bipush 32, 2) := by decide +kernel
theorem d_R_perhapsFirst_13 : decode prog_5_method_15_code 13 = .ok (.if_icmp .ne 11, 3) := by decide +kernel
theorem d_R_perhapsFirst_16 : decode prog_5_method_15_code 16 = .ok (.aload_n 0, 1) := by decide +kernel
theorem d_R_perhapsFirst_17 : decode prog_5_method_15_code 17 = .ok (.iconst 1, 1) := by decide +kernel
theorem d_R_perhapsFirst_18 : decode prog_5_method_15_code 18 = .ok (.invokevirtual 84, 3) := by decide +kernel
theorem d_R_perhapsFirst_21 : decode prog_5_method_15_code 21 = .ok (.goto 4, 3) := by decide +kernel
theorem d_R_perhapsFirst_24 : decode prog_5_method_15_code 24 = .ok (.iconst 0, 1) := by decide +kernel
theorem d_R_perhapsFirst_25 : decode prog_5_method_15_code 25 = .ok (.ireturn, 1) := by decide +kernel
theorem d_R_blankAndNumber_0 : decode prog_5_method_16_code 0 = .ok (.aload_n 0, 1) := by decide +kernel
theorem d_R_blankAndNumber_1 : decode prog_5_method_16_code 1 = .ok (.bipush 32, 2) := by decide +kernel
theorem d_R_blankAndNumber_3 : decode prog_5_method_16_code 3 = .ok (.invokevirtual 80, 3) := by decide +kernel
theorem d_R_blankAndNumber_6 : decode prog_5_method_16_code 6 = .ok (.aload_n 0, 1) := by decide +kernel
theorem d_R_blankAndNumber_7 : decode prog_5_method_16_code 7 = .ok (.iload_n 1, 1) := by decide +kernel
theorem d_R_blankAndNumber_8 : decode prog_5_method_16_code 8 = .ok (.invokevirtual 101, 3) := by decide +kernel
theorem d_R_blankAndNumber_11 : decode prog_5_method_16_code 11 = .ok (.ireturn, 1) := by decide +kernel
theorem d_R_number_0 : decode prog_5_method_17_code 0 = .ok (.aload_n 0, 1) := by decide +kernel
theorem d_R_number_1 : decode prog_5_method_17_code 1 = .ok (.getfield 36, 3) := by decide +kernel
theorem d_R_number_4 : decode prog_5_method_17_code 4 = .ok (.istore_n 2, 1) := by decide +kernel
theorem d_R_number_5 : decode prog_5_method_17_code 5 = .ok (.iconst 0, 1) := by decide +kernel
theorem d_R_number_6 : decode prog_5_method_17_code 6 = .ok (.istore_n 3, 1) := by decide +kernel
theorem d_R_number_7 : decode prog_5_method_17_code 7 = .ok (.iconst 0, 1) := by decide +kernel
theorem d_R_number_8 : decode prog_5_method_17_code 8 = .ok (.istore 4, 2) := by decide +kernel
theorem d_R_number_10 : decode prog_5_method_17_code 10 = .ok (.iload 4, 2) := by decide +kernel
theorem d_R_number_12 : decode prog_5_method_17_code 12 = .ok (.iconst 4, 1) := by decide +kernel
theorem d_R_number_13 : decode prog_5_method_17_code 13 = .ok (.if_icmp .gt 81, 3) := by decide +kernel
theorem d_R_number_16 : decode prog_5_method_17_code 16 = .ok (.aload_n 0, 1) := by decide +kernel
theorem d_R_number_17 : decode prog_5_method_17_code 17 = .ok (.getfield 32, 3) := by decide +kernel
theorem d_R_number_20 : decode prog_5_method_17_code 20 = .ok (.aload_n 0, 1) := by decide +kernel
theorem d_R_number_21 : decode prog_5_method_17_code 21 = .ok (.getfield 36, 3) := by decide +kernel
theorem d_R_number_24 : decode prog_5_method_17_code 24 = .ok (.invokevirtual 43, 3) := by decide +kernel
theorem d_R_number_27 : decode prog_5_method_17_code 27 = .ok (.invokestatic 143, 3) := by decide +kernel
theorem d_R_number_30 : decode prog_5_method_17_code 30 = .ok (.ifCond .eq 64, 3) := by decide +kernel
theorem d_R_number_33 : decode prog_5_method_17_code 33 = .ok (.iload 4, 2) := by decide +kernel
theorem d_R_number_35 : decode prog_5_method_17_code 35 = .ok (.iconst 4, 1) := by decide +kernel
theorem d_R_number_36 : decode prog_5_method_17_code 36 = .ok (.if_icmp .eq 12, 3) := by decide +kernel
theorem d_R_number_39 : decode prog_5_method_17_code 39 = .ok (.iload 4, 2) := by decide +kernel
theorem d_R_number_41 : decode prog_5_method_17_code 41 = .ok (.ifCond .le 17, 3) := by decide +kernel
theorem d_R_number_44 : decode prog_5_method_17_code 44 = .ok (.iload_n 3, 1) := by decide +kernel
theorem d_R_number_45 : decode prog_5_method_17_code 45 = .ok (.ifCond .ne 13, 3) := by decide +kernel
theorem d_R_number_48 : decode prog_5_method_17_code 48 = .ok (.aload_n 0, 1) := by decide +kernel
theorem d_R_number_49 : decode prog_5_method_17_code 49 = .ok (.aload_n 0, 1) := by decide +kernel
theorem d_R_number_50 : decode prog_5_method_17_code 50 = .ok (.getfield 36, 3) := by decide +kernel
theorem d_R_number_53 : decode prog_5_method_17_code 53 = .ok (.invokevirtual 104, 3) := by decide +kernel
theorem d_R_number_56 : decode prog_5_method_17_code 56 = .ok (.iconst 0, 1) := by decide +kernel
theorem d_R_number_57 : decode prog_5_method_17_code 57 = .ok (.ireturn, 1) := by decide +kernel
theorem d_R_number_58 : decode prog_5_method_17_code 58 = .ok (.bipush 10, 2) := by decide +kernel
theorem d_R_number_60 : decode prog_5_method_17_code 60 = .ok (.iload_n 3, 1) := by decide +kernel
theorem d_R_number_61 : decode prog_5_method_17_code 61 = .ok (.imul, 1) := by decide +kernel
theorem d_R_number_62 : decode prog_5_method_17_code 62 = .ok (.aload_n 0, 1) := by decide +kernel
theorem d_R_number_63 : decode prog_5_method_17_code 63 = .ok (.getfield 32, 3) := by decide +kernel
theorem d_R_number_66 : decode prog_5_method_17_code 66 = .ok (.aload_n 0, 1) := by decide +kernel
theorem d_R_number_67 : decode prog_5_method_17_code 67 = .ok (.getfield 36, 3) := by decide +kernel
theorem d_R_number_70 : decode prog_5_method_17_code 70 = .ok (.invokevirtual 43, 3) := by decide +kernel
theorem d_R_number_73 : decode prog_5_method_17_code 73 = .ok (.iadd, 1) := by decide +kernel
theorem d_R_number_74 : decode prog_5_method_17_code 74 = .ok (.bipush 48, 2) := by decide +kernel
theorem d_R_number_76 : decode prog_5_method_17_code 76 = .ok (.isub, 1) := by decide +kernel
theorem d_R_number_77 : decode prog_5_method_17_code 77 = .ok (.istore_n 3, 1) := by decide +kernel
theorem d_R_number_78 : decode prog_5_method_17_code 78 = .ok (.aload_n 0, 1) := by decide +kernel
theorem d_R_number_79 : decode prog_5_method_17_code 79 = .ok (.dup, 1) := by decide +kernel
theorem d_R_number_80 : decode prog_5_method_17_code 80 = .ok (.getfield 36, 3) := by decide +kernel
theorem d_R_number_83 : decode prog_5_method_17_code 83 = .ok (.iconst 1, 1) := by decide +kernel
theorem d_R_number_84 : decode prog_5_method_17_code 84 = .ok (.iadd, 1) := by decide +kernel
theorem d_R_number_85 : decode prog_5_method_17_code 85 = .ok (.putfield 36, 3) := by decide +kernel
theorem d_R_number_88 : decode prog_5_method_17_code 88 = .ok (.iinc 4 1, 3) := by decide +kernel
theorem d_R_number_91 : decode prog_5_method_17_code 91 = .ok (.goto (-81), 3) := by decide +kernel
theorem d_R_number_94 : decode prog_5_method_17_code 94 = .ok (.aload_n 0, 1) := by decide +kernel
theorem d_R_number_95 : decode prog_5_method_17_code 95 = .ok (.getfield 36, 3) := by decide +kernel
theorem d_R_number_98 : decode prog_5_method_17_code 98 = .ok (.iload_n 2, 1) := by decide +kernel
theorem d_R_number_99 : decode prog_5_method_17_code 99 = .ok (.if_icmp .eq 8, 3) := by decide +kernel
theorem d_R_number_102 : decode prog_5_method_17_code 102 = .ok (.iload_n 3, 1) := by decide +kernel
theorem d_R_number_103 : decode prog_5_method_17_code 103 = .ok (.iload_n 1, 1) := by decide +kernel
theorem d_R_number_104 : decode prog_5_method_17_code 104 = .ok (.if_icmp .le 10, 3) := by decide +kernel
theorem d_R_number_107 : decode prog_5_method_17_code 107 = .ok (.aload_n 0, 1) := by decide +kernel
theorem d_R_number_108 : decode prog_5_method_17_code 108 = .ok (.iload_n 2, 1) := by decide +kernel
theorem d_R_number_109 : decode prog_5_method_17_code 109 = .ok (.invokevirtual 104, 3) := by decide +kernel
theorem d_R_number_112 : decode prog_5_method_17_code 112 = .ok (.iconst 0, 1) := by decide +kernel
theorem d_R_number_113 : decode prog_5_method_17_code 113 = .ok (.ireturn, 1) := by decide +kernel
theorem d_R_number_114 : decode prog_5_method_17_code 114 = .ok (.iload_n 3, 1) := by decide +kernel
theorem d_R_number_115 : decode prog_5_method_17_code 115 = .ok (.ireturn, 1) := by decide +kernel
theorem d_R_isDigit_0 : decode prog_5_method_18_code 0 = .ok (.iload_n 0, 1) := by decide +kernel
theorem d_R_isDigit_1 : decode prog_5_method_18_code 1 = .ok (.bipush 48, 2) := by decide +kernel
theorem d_R_isDigit_3 : decode prog_5_method_18_code 3 = .ok (.if_icmp .lt 13, 3) := by decide +kernel
theorem d_R_isDigit_6 : decode prog_5_method_18_code 6 = .ok (.iload_n 0, 1) := by decide +kernel
theorem d_R_isDigit_7 : decode prog_5_method_18_code 7 = .ok (.bipush 57, 2) := by decide +kernel
theorem d_R_isDigit_9 : decode prog_5_method_18_code 9 = .ok (.if_icmp .gt 7, 3) := by decide +kernel
theorem d_R_isDigit_12 : decode prog_5_method_18_code 12 = .ok (.iconst 1, 1) := by decide +kernel
theorem d_R_isDigit_13 : decode prog_5_method_18_code 13 = .ok (.goto 4, 3) := by decide +kernel
theorem d_R_isDigit_16 : decode prog_5_method_18_code 16 = .ok (.iconst 0, 1) := by decide +kernel
theorem d_R_isDigit_17 : decode prog_5_method_18_code 17 = .ok (.ireturn, 1) := by decide +kernel
theorem d_R_difference_0 : decode prog_5_method_19_code 0 = .ok (.aload_n 0, 1) := by decide +kernel
theorem d_R_difference_1 : decode prog_5_method_19_code 1 = .ok (.getfield 36, 3) := by decide +kernel
theorem d_R_difference_4 : decode prog_5_method_19_code 4 = .ok (.istore_n 3, 1) := by decide +kernel
theorem d_R_difference_5 : decode prog_5_method_19_code 5 = .ok (.aload_n 0, 1) := by decide +kernel
theorem d_R_difference_6 : decode prog_5_method_19_code 6 = .ok (.getfield 32, 3) := by decide +kernel
theorem d_R_difference_9 : decode prog_5_method_19_code 9 = .ok (.aload_n 0, 1) := by decide +kernel
theorem d_R_difference_10 : decode prog_5_method_19_code 10 = .ok (.getfield 36, 3) := by decide +kernel
theorem d_R_difference_13 : decode prog_5_method_19_code 13 = .ok (.invokevirtual 43, 3) := by decide +kernel
theorem d_R_difference_16 : decode prog_5_method_19_code 16 = .ok (.istore 4, 2) := by decide +kernel
theorem d_R_difference_18 : decode prog_5_method_19_code 18 = .ok (.iload 4, 2) := by decide +kernel
theorem d_R_difference_20 : decode prog_5_method_19_code 20 = .ok (.iconst (-1), 1) := by decide +kernel
theorem d_R_difference_21 : decode prog_5_method_19_code 21 = .ok (.if_icmp .ne 13, 3) := by decide +kernel
theorem d_R_difference_24 : decode prog_5_method_19_code 24 = .ok (.aload_n 0, 1) := by decide +kernel
theorem d_R_difference_25 : decode prog_5_method_19_code 25 = .ok (.aload_n 0, 1) := by decide +kernel
theorem d_R_difference_26 : decode prog_5_method_19_code 26 = .ok (.getfield 36, 3) := by decide +kernel
theorem d_R_difference_29 : decode prog_5_method_19_code 29 = .ok (.invokevirtual 104, 3) := by decide +kernel
theorem d_R_difference_32 : decode prog_5_method_19_code 32 = .ok (.iload_n 1, 1) := by decide +kernel
theorem d_R_difference_33 : decode prog_5_method_19_code 33 = .ok (.ireturn, 1) := by decide +kernel
theorem d_R_difference_34 : decode prog_5_method_19_code 34 = .ok (.aload_n 0, 1) := by decide +kernel
theorem d_R_difference_35 : decode prog_5_method_19_code 35 = .ok (.dup, 1) := by decide +kernel
theorem d_R_difference_36 : decode prog_5_method_19_code 36 = .ok (.getfield 36, 3) := by decide +kernel
theorem d_R_difference_39 : decode prog_5_method_19_code 39 = .ok (.iconst 1, 1) := by decide +kernel
theorem d_R_difference_40 : decode prog_5_method_19_code 40 = .ok (.iadd, 1) := by decide +kernel
theorem d_R_difference_41 : decode prog_5_method_19_code 41 = .ok (.putfield 36, 3) := by decide +kernel
theorem d_R_difference_44 : decode prog_5_method_19_code 44 = .ok (.iload 4, 2) := by decide +kernel
theorem d_R_difference_46 : decode prog_5_method_19_code 46 = .ok (.sipush 128, 3) := by decide +kernel
theorem d_R_difference_49 : decode prog_5_method_19_code 49 = .ok (.if_icmp .lt 63, 3) := by decide +kernel
theorem d_R_difference_52 : decode prog_5_method_19_code 52 = .ok (.aload_n 0, 1) := by decide +kernel
theorem d_R_difference_53 : decode prog_5_method_19_code 53 = .ok (.getfield 32, 3) := by decide +kernel
theorem d_R_difference_56 : decode prog_5_method_19_code 56 = .ok (.aload_n 0, 1) := by decide +kernel
theorem d_R_difference_57 : decode prog_5_method_19_code 57 = .ok (.getfield 36, 3) := by decide +kernel
theorem d_R_difference_60 : decode prog_5_method_19_code 60 = .ok (.invokevirtual 43, 3) := by decide +kernel
theorem d_R_difference_63 : decode prog_5_method_19_code 63 = .ok (.istore 5, 2) := by decide +kernel
theorem d_R_difference_65 : decode prog_5_method_19_code 65 = .ok (.iload 5, 2) := by decide +kernel
theorem d_R_difference_67 : decode prog_5_method_19_code 67 = .ok (.iconst 1, 1) := by decide +kernel
theorem d_R_difference_68 : decode prog_5_method_19_code 68 = .ok (.if_icmp .lt 11, 3) := by decide +kernel
theorem d_R_difference_71 : decode prog_5_method_19_code 71 = .ok (.iload 5, 2) := by decide +kernel
theorem d_R_difference_73 : decode prog_5_method_19_code 73 = .ok (.sipush 128, 3) := by decide +kernel
theorem d_R_difference_76 : decode prog_5_method_19_code 76 = .ok (.if_icmp .lt 13, 3) := by decide +kernel
theorem d_R_difference_79 : decode prog_5_method_19_code 79 = .ok (.aload_n 0, 1) := by decide +kernel
theorem d_R_difference_80 : decode prog_5_method_19_code 80 = .ok (.aload_n 0, 1) := by decide +kernel
theorem d_R_difference_81 : decode prog_5_method_19_code 81 = .ok (.getfield 36, 3) := by decide +kernel
theorem d_R_difference_84 : decode prog_5_method_19_code 84 = .ok (.invokevirtual 104, 3) := by decide +kernel
theorem d_R_difference_87 : decode prog_5_method_19_code 87 = .ok (.iload_n 1, 1) := by decide +kernel
theorem d_R_difference_88 : decode prog_5_method_19_code 88 = .ok (.ireturn, 1) := by decide +kernel
theorem d_R_difference_89 : decode prog_5_method_19_code 89 = .ok (.aload_n 0, 1) := by decide +kernel
theorem d_R_difference_90 : decode prog_5_method_19_code 90 = .ok (.dup, 1) := by decide +kernel
theorem d_R_difference_91 : decode prog_5_method_19_code 91 = .ok (.getfield 36, 3) := by decide +kernel
theorem d_R_difference_94 : decode prog_5_method_19_code 94 = .ok (.iconst 1, 1) := by decide +kernel
theorem d_R_difference_95 : decode prog_5_method_19_code 95 = .ok (.iadd, 1) := by decide +kernel
theorem d_R_difference_96 : decode prog_5_method_19_code 96 = .ok (.putfield 36, 3) := by decide +kernel
theorem d_R_difference_99 : decode prog_5_method_19_code 99 = .ok (.iload 4, 2) := by decide +kernel
theorem d_R_difference_101 : decode prog_5_method_19_code 101 = .ok (.sipush 128, 3) := by decide +kernel
theorem d_R_difference_104 : decode prog_5_method_19_code 104 = .ok (.iload 5, 2) := by decide +kernel
theorem d_R_difference_106 : decode prog_5_method_19_code 106 = .ok (.iconst 1, 1) := by decide +kernel
theorem d_R_difference_107 : decode prog_5_method_19_code 107 = .ok (.isub, 1) := by decide +kernel
theorem d_R_difference_108 : decode prog_5_method_19_code 108 = .ok (.imul, 1) := by decide +kernel
theorem d_R_difference_109 : decode prog_5_method_19_code 109 = .ok (.iadd, 1) := by decide +kernel
theorem d_R_difference_110 : decode prog_5_method_19_code 110 = .ok (.istore 4, 2) := by decide +kernel
theorem d_R_difference_112 : decode prog_5_method_19_code 112 = .ok (.iload 4, 2) := by decide +kernel
theorem d_R_difference_114 : decode prog_5_method_19_code 114 = .ok (.iload_n 1, 1) := by decide +kernel
theorem d_R_difference_115 : decode prog_5_method_19_code 115 = .ok (.if_icmp .lt 9, 3) := by decide +kernel
theorem d_R_difference_118 : decode prog_5_method_19_code 118 = .ok (.iload 4, 2) := by decide +kernel
theorem d_R_difference_120 : decode prog_5_method_19_code 120 = .ok (.iload_n 2, 1) := by decide +kernel
theorem d_R_difference_121 : decode prog_5_method_19_code 121 = .ok (.if_icmp .le 10, 3) := by decide +kernel
theorem d_R_difference_124 : decode prog_5_method_19_code 124 = .ok (.aload_n 0, 1) := by decide +kernel
theorem d_R_difference_125 : decode prog_5_method_19_code 125 = .ok (.iload_n 3, 1) := by decide +kernel
theorem d_R_difference_126 : decode prog_5_method_19_code 126 = .ok (.invokevirtual 104, 3) := by decide +kernel
theorem d_R_difference_129 : decode prog_5_method_19_code 129 = .ok (.iload_n 1, 1) := by decide +kernel
theorem d_R_difference_130 : decode prog_5_method_19_code 130 = .ok (.ireturn, 1) := by decide +kernel
theorem d_R_difference_131 : decode prog_5_method_19_code 131 = .ok (.iload 4, 2) := by decide +kernel
theorem d_R_difference_133 : decode prog_5_method_19_code 133 = .ok (.ireturn, 1) := by decide +kernel
theorem d_R_expect_0 : decode prog_5_method_20_code 0 = .ok (.aload_n 0, 1) := by decide +kernel
theorem d_R_expect_1 : decode prog_5_method_20_code 1 = .ok (.getfield 32, 3) := by decide +kernel
theorem d_R_expect_4 : decode prog_5_method_20_code 4 = .ok (.aload_n 0, 1) := by decide +kernel
theorem d_R_expect_5 : decode prog_5_method_20_code 5 = .ok (.getfield 36, 3) := by decide +kernel
theorem d_R_expect_8 : decode prog_5_method_20_code 8 = .ok (.invokevirtual 43, 3) := by decide +kernel
theorem d_R_expect_11 : decode prog_5_method_20_code 11 = .ok (.iload_n 1, 1) := by decide +kernel
theorem d_R_expect_12 : decode prog_5_method_20_code 12 = .ok (.if_icmp .ne 16, 3) := by decide +kernel
theorem d_R_expect_15 : decode prog_5_method_20_code 15 = .ok (.aload_n 0, 1) := by decide +kernel
theorem d_R_expect_16 : decode prog_5_method_20_code 16 = .ok (.dup, 1) := by decide +kernel
theorem d_R_expect_17 : decode prog_5_method_20_code 17 = .ok (.getfield 36, 3) := by decide +kernel
theorem d_R_expect_20 : decode prog_5_method_20_code 20 = .ok (.iconst 1, 1) := by decide +kernel
theorem d_R_expect_21 : decode prog_5_method_20_code 21 = .ok (.iadd, 1) := by decide +kernel
theorem d_R_expect_22 : decode prog_5_method_20_code 22 = .ok (.putfield 36, 3) := by decide +kernel
theorem d_R_expect_25 : decode prog_5_method_20_code 25 = .ok (.goto 11, 3) := by decide +kernel
theorem d_R_expect_28 : decode prog_5_method_20_code 28 = .ok (.aload_n 0, 1) := by decide +kernel
theorem d_R_expect_29 : decode prog_5_method_20_code 29 = .ok (.aload_n 0, 1) := by decide +kernel
theorem d_R_expect_30 : decode prog_5_method_20_code 30 = .ok (.getfield 36, 3) := by decide +kernel
theorem d_R_expect_33 : decode prog_5_method_20_code 33 = .ok (.invokevirtual 104, 3) := by decide +kernel
theorem d_R_expect_36 : decode prog_5_method_20_code 36 = .ok (.return_, 1) := by decide +kernel
theorem d_R_fail_0 : decode prog_5_method_21_code 0 = .ok (.aload_n 0, 1) := by decide +kernel
theorem d_R_fail_1 : decode prog_5_method_21_code 1 = .ok (.getfield 40, 3) := by decide +kernel
theorem d_R_fail_4 : decode prog_5_method_21_code 4 = .ok (.iconst (-1), 1) := by decide +kernel
theorem d_R_fail_5 : decode prog_5_method_21_code 5 = .ok (.if_icmp .ne 8, 3) := by decide +kernel
theorem d_R_fail_8 : decode prog_5_method_21_code 8 = .ok (.aload_n 0, 1) := by decide +kernel
theorem d_R_fail_9 : decode prog_5_method_21_code 9 = .ok (.iload_n 1, 1) := by decide +kernel
theorem d_R_fail_10 : decode prog_5_method_21_code 10 = .ok (.putfield 40, 3) := by decide +kernel
theorem d_R_fail_13 : decode prog_5_method_21_code 13 = .ok (.return_, 1) := by decide +kernel
theorem d_T_read_0 : decode prog_1_method_3_code 0 = .ok (.aload_n 0, 1) := by decide +kernel
theorem d_T_read_1 : decode prog_1_method_3_code 1 = .ok (.getfield 24, 3) := by decide +kernel
theorem d_T_read_4 : decode prog_1_method_3_code 4 = .ok (.aload_n 0, 1) := by decide +kernel
theorem d_T_read_5 : decode prog_1_method_3_code 5 = .ok (.getfield 42, 3) := by decide +kernel
theorem d_T_read_8 : decode prog_1_method_3_code 8 = .ok (.invokevirtual 65, 3) := by decide +kernel
theorem d_T_read_11 : decode prog_1_method_3_code 11 = .ok (.istore_n 1, 1) := by decide +kernel
theorem d_T_read_12 : decode prog_1_method_3_code 12 = .ok (.aload_n 0, 1) := by decide +kernel
theorem d_T_read_13 : decode prog_1_method_3_code 13 = .ok (.getfield 10, 3) := by decide +kernel
theorem d_T_read_16 : decode prog_1_method_3_code 16 = .ok (.invokevirtual 69, 3) := by decide +kernel
theorem d_T_read_19 : decode prog_1_method_3_code 19 = .ok (.iload_n 1, 1) := by decide +kernel
theorem d_T_read_20 : decode prog_1_method_3_code 20 = .ok (.iconst (-1), 1) := by decide +kernel
theorem d_T_read_21 : decode prog_1_method_3_code 21 = .ok (.if_icmp .ne 14, 3) := by decide +kernel
theorem d_T_read_24 : decode prog_1_method_3_code 24 = .ok (.aload_n 0, 1) := by decide +kernel
theorem d_T_read_25 : decode prog_1_method_3_code 25 = .ok (.getfield 42, 3) := by decide +kernel
theorem d_T_read_28 : decode prog_1_method_3_code 28 = .ok (.invokevirtual 72, 3) := by decide +kernel
theorem d_T_read_31 : decode prog_1_method_3_code 31 = .ok (.aload_n 0, 1) := by decide +kernel
theorem d_T_read_32 : decode prog_1_method_3_code 32 = .ok (.invokevirtual 75, 3) := by decide +kernel
theorem d_T_read_35 : decode prog_1_method_3_code 35 = .ok (.iload_n 1, 1) := by decide +kernel
theorem d_T_read_36 : decode prog_1_method_3_code 36 = .ok (.ireturn, 1) := by decide +kernel
theorem d_T_about_0 : decode prog_1_method_4_code 0 = .ok (.iload_n 1, 1) := by decide +kernel
theorem d_T_about_1 : decode prog_1_method_4_code 1 = .ok (.tableswitch 111 0 6 #[43, 51, 60, 69, 78, 87, 95], 43) := by decide +kernel
theorem d_T_about_44 : decode prog_1_method_4_code 44 = .ok (.aload_n 0, 1) := by decide +kernel
theorem d_T_about_45 : decode prog_1_method_4_code 45 = .ok (.getfield 38, 3) := by decide +kernel
theorem d_T_about_48 : decode prog_1_method_4_code 48 = .ok (.invokevirtual 78, 3) := by decide +kernel
theorem d_T_about_51 : decode prog_1_method_4_code 51 = .ok (.ireturn, 1) := by decide +kernel
theorem d_T_about_52 : decode prog_1_method_4_code 52 = .ok (.aload_n 0, 1) := by decide +kernel
theorem d_T_about_53 : decode prog_1_method_4_code 53 = .ok (.getfield 38, 3) := by decide +kernel
theorem d_T_about_56 : decode prog_1_method_4_code 56 = .ok (.iconst 0, 1) := by decide +kernel
theorem d_T_about_57 : decode prog_1_method_4_code 57 = .ok (.invokevirtual 81, 3) := by decide +kernel
theorem d_T_about_60 : decode prog_1_method_4_code 60 = .ok (.ireturn, 1) := by decide +kernel
theorem d_T_about_61 : decode prog_1_method_4_code 61 = .ok (.aload_n 0, 1) := by decide +kernel
theorem d_T_about_62 : decode prog_1_method_4_code 62 = .ok (.getfield 38, 3) := by decide +kernel
theorem d_T_about_65 : decode prog_1_method_4_code 65 = .ok (.iconst 1, 1) := by decide +kernel
theorem d_T_about_66 : decode prog_1_method_4_code 66 = .ok (.invokevirtual 81, 3) := by decide +kernel
theorem d_T_about_69 : decode prog_1_method_4_code 69 = .ok (.ireturn, 1) := by decide +kernel
theorem d_T_about_70 : decode prog_1_method_4_code 70 = .ok (.aload_n 0, 1) := by decide +kernel
theorem d_T_about_71 : decode prog_1_method_4_code 71 = .ok (.getfield 38, 3) := by decide +kernel
theorem d_T_about_74 : decode prog_1_method_4_code 74 = .ok (.iconst 2, 1) := by decide +kernel
theorem d_T_about_75 : decode prog_1_method_4_code 75 = .ok (.invokevirtual 81, 3) := by decide +kernel
theorem d_T_about_78 : decode prog_1_method_4_code 78 = .ok (.ireturn, 1) := by decide +kernel
theorem d_T_about_79 : decode prog_1_method_4_code 79 = .ok (.aload_n 0, 1) := by decide +kernel
theorem d_T_about_80 : decode prog_1_method_4_code 80 = .ok (.getfield 38, 3) := by decide +kernel
theorem d_T_about_83 : decode prog_1_method_4_code 83 = .ok (.iconst 3, 1) := by decide +kernel
theorem d_T_about_84 : decode prog_1_method_4_code 84 = .ok (.invokevirtual 81, 3) := by decide +kernel
theorem d_T_about_87 : decode prog_1_method_4_code 87 = .ok (.ireturn, 1) := by decide +kernel
theorem d_T_about_88 : decode prog_1_method_4_code 88 = .ok (.aload_n 0, 1) := by decide +kernel
theorem d_T_about_89 : decode prog_1_method_4_code 89 = .ok (.getfield 10, 3) := by decide +kernel
theorem d_T_about_92 : decode prog_1_method_4_code 92 = .ok (.invokevirtual 52, 3) := by decide +kernel
theorem d_T_about_95 : decode prog_1_method_4_code 95 = .ok (.ireturn, 1) := by decide +kernel
theorem d_T_about_96 : decode prog_1_method_4_code 96 = .ok (.aload_n 0, 1) := by decide +kernel
theorem d_T_about_97 : decode prog_1_method_4_code 97 = .ok (.getfield 38, 3) := by decide +kernel
theorem d_T_about_100 : decode prog_1_method_4_code 100 = .ok (.invokevirtual 85, 3) := by decide +kernel
theorem d_T_about_103 : decode prog_1_method_4_code 103 = .ok (.ifCond .eq 7, 3) := by decide +kernel
theorem d_T_about_106 : decode prog_1_method_4_code 106 = .ok (.iconst 1, 1) := by decide +kernel
theorem d_T_about_107 : decode prog_1_method_4_code 107 = .ok (.goto 4, 3) := by decide +kernel
theorem d_T_about_110 : decode prog_1_method_4_code 110 = .ok (.iconst 0, 1) := by decide +kernel
theorem d_T_about_111 : decode prog_1_method_4_code 111 = .ok (.ireturn, 1) := by decide +kernel
theorem d_T_about_112 : decode prog_1_method_4_code 112 = .ok (.iconst (-1), 1) := by decide +kernel
theorem d_T_about_113 : decode prog_1_method_4_code 113 = .ok (.ireturn, 1) := by decide +kernel
theorem d_T_order_0 : decode prog_1_method_6_code 0 = .ok (.aload_n 0, 1) := by decide +kernel
theorem d_T_order_1 : decode prog_1_method_6_code 1 = .ok (.getfield 42, 3) := by decide +kernel
theorem d_T_order_4 : decode prog_1_method_6_code 4 = .ok (.aload_n 0, 1) := by decide +kernel
theorem d_T_order_5 : decode prog_1_method_6_code 5 = .ok (.getfield 38, 3) := by decide +kernel
theorem d_T_order_8 : decode prog_1_method_6_code 8 = .ok (.invokevirtual 104, 3) := by decide +kernel
theorem d_T_order_11 : decode prog_1_method_6_code 11 = .ok (.aload_n 0, 1) := by decide +kernel
theorem d_T_order_12 : decode prog_1_method_6_code 12 = .ok (.invokevirtual 75, 3) := by decide +kernel
theorem d_T_order_15 : decode prog_1_method_6_code 15 = .ok (.return_, 1) := by decide +kernel
theorem d_T_reset_0 : decode prog_1_method_9_code 0 = .ok (.aload_n 0, 1) := by decide +kernel
theorem d_T_reset_1 : decode prog_1_method_9_code 1 = .ok (.getfield 38, 3) := by decide +kernel
theorem d_T_reset_4 : decode prog_1_method_9_code 4 = .ok (.invokevirtual 72, 3) := by decide +kernel
theorem d_T_reset_7 : decode prog_1_method_9_code 7 = .ok (.return_, 1) := by decide +kernel
theorem d_T_cycle_0 : decode prog_1_method_10_code 0 = .ok (.aload_n 0, 1) := by decide +kernel
theorem d_T_cycle_1 : decode prog_1_method_10_code 1 = .ok (.getfield 38, 3) := by decide +kernel
theorem d_T_cycle_4 : decode prog_1_method_10_code 4 = .ok (.iload_n 1, 1) := by decide +kernel
theorem d_T_cycle_5 : decode prog_1_method_10_code 5 = .ok (.invokevirtual 127, 3) := by decide +kernel
theorem d_T_cycle_8 : decode prog_1_method_10_code 8 = .ok (.ireturn, 1) := by decide +kernel
theorem d_T_latches_0 : decode prog_1_method_11_code 0 = .ok (.aload_n 0, 1) := by decide +kernel
theorem d_T_latches_1 : decode prog_1_method_11_code 1 = .ok (.getfield 38, 3) := by decide +kernel
theorem d_T_latches_4 : decode prog_1_method_11_code 4 = .ok (.invokevirtual 130, 3) := by decide +kernel
theorem d_T_latches_7 : decode prog_1_method_11_code 7 = .ok (.ireturn, 1) := by decide +kernel
theorem d_T_exchange_0 : decode prog_1_method_12_code 0 = .ok (.aload_n 0, 1) := by decide +kernel
theorem d_T_exchange_1 : decode prog_1_method_12_code 1 = .ok (.getfield 38, 3) := by decide +kernel
theorem d_T_exchange_4 : decode prog_1_method_12_code 4 = .ok (.astore_n 1, 1) := by decide +kernel
theorem d_T_exchange_5 : decode prog_1_method_12_code 5 = .ok (.aload_n 0, 1) := by decide +kernel
theorem d_T_exchange_6 : decode prog_1_method_12_code 6 = .ok (.aload_n 0, 1) := by decide +kernel
theorem d_T_exchange_7 : decode prog_1_method_12_code 7 = .ok (.getfield 42, 3) := by decide +kernel
theorem d_T_exchange_10 : decode prog_1_method_12_code 10 = .ok (.putfield 38, 3) := by decide +kernel
theorem d_T_exchange_13 : decode prog_1_method_12_code 13 = .ok (.aload_n 0, 1) := by decide +kernel
theorem d_T_exchange_14 : decode prog_1_method_12_code 14 = .ok (.aload_n 1, 1) := by decide +kernel
theorem d_T_exchange_15 : decode prog_1_method_12_code 15 = .ok (.putfield 42, 3) := by decide +kernel
theorem d_T_exchange_18 : decode prog_1_method_12_code 18 = .ok (.return_, 1) := by decide +kernel
theorem d_T_put_0 : decode prog_1_method_2_code 0 = .ok (.iload_n 1, 1) := by decide +kernel
theorem d_T_put_1 : decode prog_1_method_2_code 1 = .ok (.iconst 1, 1) := by decide +kernel
theorem d_T_put_2 : decode prog_1_method_2_code 2 = .ok (.if_icmp .lt 8, 3) := by decide +kernel
theorem d_T_put_5 : decode prog_1_method_2_code 5 = .ok (.iload_n 1, 1) := by decide +kernel
theorem d_T_put_6 : decode prog_1_method_2_code 6 = .ok (.iconst 4, 1) := by decide +kernel
theorem d_T_put_7 : decode prog_1_method_2_code 7 = .ok (.if_icmp .le 13, 3) := by decide +kernel
theorem d_T_put_10 : decode prog_1_method_2_code 10 = .ok (.new 45, 3) := by decide +kernel
theorem d_T_put_13 : decode prog_1_method_2_code 13 = .ok (.dup, 1) := by decide +kernel
theorem d_T_put_14 : decode prog_1_method_2_code 14 = .ok (.ldc 47, 2) := by decide +kernel
theorem d_T_put_16 : decode prog_1_method_2_code 16 = .ok (.invokespecial 49, 3) := by decide +kernel
theorem d_T_put_19 : decode prog_1_method_2_code 19 = .ok (.athrow, 1) := by decide +kernel
theorem d_T_put_20 : decode prog_1_method_2_code 20 = .ok (.aload_n 0, 1) := by decide +kernel
theorem d_T_put_21 : decode prog_1_method_2_code 21 = .ok (.getfield 10, 3) := by decide +kernel
theorem d_T_put_24 : decode prog_1_method_2_code 24 = .ok (.invokevirtual 52, 3) := by decide +kernel
theorem d_T_put_27 : decode prog_1_method_2_code 27 = .ok (.iload_n 1, 1) := by decide +kernel
theorem d_T_put_28 : decode prog_1_method_2_code 28 = .ok (.iadd, 1) := by decide +kernel
theorem d_T_put_29 : decode prog_1_method_2_code 29 = .ok (.sipush 1500, 3) := by decide +kernel
theorem d_T_put_32 : decode prog_1_method_2_code 32 = .ok (.if_icmp .le 13, 3) := by decide +kernel
theorem d_T_put_35 : decode prog_1_method_2_code 35 = .ok (.new 56, 3) := by decide +kernel
theorem d_T_put_38 : decode prog_1_method_2_code 38 = .ok (.dup, 1) := by decide +kernel
theorem d_T_put_39 : decode prog_1_method_2_code 39 = .ok (.ldc 58, 2) := by decide +kernel
theorem d_T_put_41 : decode prog_1_method_2_code 41 = .ok (.invokespecial 60, 3) := by decide +kernel
theorem d_T_put_44 : decode prog_1_method_2_code 44 = .ok (.athrow, 1) := by decide +kernel
theorem d_T_put_45 : decode prog_1_method_2_code 45 = .ok (.iconst 0, 1) := by decide +kernel
theorem d_T_put_46 : decode prog_1_method_2_code 46 = .ok (.istore_n 3, 1) := by decide +kernel
theorem d_T_put_47 : decode prog_1_method_2_code 47 = .ok (.iload_n 3, 1) := by decide +kernel
theorem d_T_put_48 : decode prog_1_method_2_code 48 = .ok (.iload_n 1, 1) := by decide +kernel
theorem d_T_put_49 : decode prog_1_method_2_code 49 = .ok (.if_icmp .ge 22, 3) := by decide +kernel
theorem d_T_put_52 : decode prog_1_method_2_code 52 = .ok (.aload_n 0, 1) := by decide +kernel
theorem d_T_put_53 : decode prog_1_method_2_code 53 = .ok (.getfield 10, 3) := by decide +kernel
theorem d_T_put_56 : decode prog_1_method_2_code 56 = .ok (.iload_n 2, 1) := by decide +kernel
theorem d_T_put_57 : decode prog_1_method_2_code 57 = .ok (.bipush 8, 2) := by decide +kernel
theorem d_T_put_59 : decode prog_1_method_2_code 59 = .ok (.iload_n 3, 1) := by decide +kernel
theorem d_T_put_60 : decode prog_1_method_2_code 60 = .ok (.imul, 1) := by decide +kernel
theorem d_T_put_61 : decode prog_1_method_2_code 61 = .ok (.iushr, 1) := by decide +kernel
theorem d_T_put_62 : decode prog_1_method_2_code 62 = .ok (.invokevirtual 61, 3) := by decide +kernel
theorem d_T_put_65 : decode prog_1_method_2_code 65 = .ok (.iinc 3 1, 3) := by decide +kernel
theorem d_T_put_68 : decode prog_1_method_2_code 68 = .ok (.goto (-21), 3) := by decide +kernel
theorem d_T_put_71 : decode prog_1_method_2_code 71 = .ok (.aload_n 0, 1) := by decide +kernel
theorem d_T_put_72 : decode prog_1_method_2_code 72 = .ok (.getfield 10, 3) := by decide +kernel
theorem d_T_put_75 : decode prog_1_method_2_code 75 = .ok (.invokevirtual 52, 3) := by decide +kernel
theorem d_T_put_78 : decode prog_1_method_2_code 78 = .ok (.ireturn, 1) := by decide +kernel
theorem d_T_has_0 : decode prog_1_method_5_code 0 = .ok (.iload_n 1, 1) := by decide +kernel
theorem d_T_has_1 : decode prog_1_method_5_code 1 = .ok (.ifCond .lt 9, 3) := by decide +kernel
theorem d_T_has_4 : decode prog_1_method_5_code 4 = .ok (.iload_n 1, 1) := by decide +kernel
theorem d_T_has_5 : decode prog_1_method_5_code 5 = .ok (.bipush 8, 2) := by decide +kernel
theorem d_T_has_7 : decode prog_1_method_5_code 7 = .ok (.if_icmp .lt 13, 3) := by decide +kernel
theorem d_T_has_10 : decode prog_1_method_5_code 10 = .ok (.new 45, 3) := by decide +kernel
theorem d_T_has_13 : decode prog_1_method_5_code 13 = .ok (.dup, 1) := by decide +kernel
theorem d_T_has_14 : decode prog_1_method_5_code 14 = .ok (.ldc 89, 2) := by decide +kernel
theorem d_T_has_16 : decode prog_1_method_5_code 16 = .ok (.invokespecial 49, 3) := by decide +kernel
theorem d_T_has_19 : decode prog_1_method_5_code 19 = .ok (.athrow, 1) := by decide +kernel
theorem d_T_has_20 : decode prog_1_method_5_code 20 = .ok (.aload_n 0, 1) := by decide +kernel
theorem d_T_has_21 : decode prog_1_method_5_code 21 = .ok (.getfield 38, 3) := by decide +kernel
theorem d_T_has_24 : decode prog_1_method_5_code 24 = .ok (.iload_n 1, 1) := by decide +kernel
theorem d_T_has_25 : decode prog_1_method_5_code 25 = .ok (.iload_n 2, 1) := by decide +kernel
theorem d_T_has_26 : decode prog_1_method_5_code 26 = .ok (.invokevirtual 91, 3) := by decide +kernel
theorem d_T_has_29 : decode prog_1_method_5_code 29 = .ok (.ifCond .ne 13, 3) := by decide +kernel
theorem d_T_has_32 : decode prog_1_method_5_code 32 = .ok (.new 95, 3) := by decide +kernel
theorem d_T_has_35 : decode prog_1_method_5_code 35 = .ok (.dup, 1) := by decide +kernel
theorem d_T_has_36 : decode prog_1_method_5_code 36 = .ok (.ldc 97, 2) := by decide +kernel
theorem d_T_has_38 : decode prog_1_method_5_code 38 = .ok (.invokespecial 99, 3) := by decide +kernel
theorem d_T_has_41 : decode prog_1_method_5_code 41 = .ok (.athrow, 1) := by decide +kernel
theorem d_T_has_42 : decode prog_1_method_5_code 42 = .ok (.aload_n 0, 1) := by decide +kernel
theorem d_T_has_43 : decode prog_1_method_5_code 43 = .ok (.getfield 38, 3) := by decide +kernel
theorem d_T_has_46 : decode prog_1_method_5_code 46 = .ok (.iload_n 1, 1) := by decide +kernel
theorem d_T_has_47 : decode prog_1_method_5_code 47 = .ok (.iload_n 2, 1) := by decide +kernel
theorem d_T_has_48 : decode prog_1_method_5_code 48 = .ok (.invokevirtual 100, 3) := by decide +kernel
theorem d_T_has_51 : decode prog_1_method_5_code 51 = .ok (.ireturn, 1) := by decide +kernel
theorem d_T_write_0 : decode prog_1_method_7_code 0 = .ok (.iload_n 1, 1) := by decide +kernel
theorem d_T_write_1 : decode prog_1_method_7_code 1 = .ok (.ifCond .eq 18, 3) := by decide +kernel
theorem d_T_write_4 : decode prog_1_method_7_code 4 = .ok (.iload_n 1, 1) := by decide +kernel
theorem d_T_write_5 : decode prog_1_method_7_code 5 = .ok (.iconst 1, 1) := by decide +kernel
theorem d_T_write_6 : decode prog_1_method_7_code 6 = .ok (.if_icmp .eq 13, 3) := by decide +kernel
theorem d_T_write_9 : decode prog_1_method_7_code 9 = .ok (.new 45, 3) := by decide +kernel
theorem d_T_write_12 : decode prog_1_method_7_code 12 = .ok (.dup, 1) := by decide +kernel
theorem d_T_write_13 : decode prog_1_method_7_code 13 = .ok (.ldc 89, 2) := by decide +kernel
theorem d_T_write_15 : decode prog_1_method_7_code 15 = .ok (.invokespecial 49, 3) := by decide +kernel
theorem d_T_write_18 : decode prog_1_method_7_code 18 = .ok (.athrow, 1) := by decide +kernel
theorem d_T_write_19 : decode prog_1_method_7_code 19 = .ok (.iload_n 1, 1) := by decide +kernel
theorem d_T_write_20 : decode prog_1_method_7_code 20 = .ok (.iconst 1, 1) := by decide +kernel
theorem d_T_write_21 : decode prog_1_method_7_code 21 = .ok (.if_icmp .ne 23, 3) := by decide +kernel
theorem d_T_write_24 : decode prog_1_method_7_code 24 = .ok (.aload_n 0, 1) := by decide +kernel
theorem d_T_write_25 : decode prog_1_method_7_code 25 = .ok (.getfield 38, 3) := by decide +kernel
theorem d_T_write_28 : decode prog_1_method_7_code 28 = .ok (.invokevirtual 85, 3) := by decide +kernel
theorem d_T_write_31 : decode prog_1_method_7_code 31 = .ok (.ifCond .ne 13, 3) := by decide +kernel
theorem d_T_write_34 : decode prog_1_method_7_code 34 = .ok (.new 108, 3) := by decide +kernel
theorem d_T_write_37 : decode prog_1_method_7_code 37 = .ok (.dup, 1) := by decide +kernel
theorem d_T_write_38 : decode prog_1_method_7_code 38 = .ok (.ldc 110, 2) := by decide +kernel
theorem d_T_write_40 : decode prog_1_method_7_code 40 = .ok (.invokespecial 112, 3) := by decide +kernel
theorem d_T_write_43 : decode prog_1_method_7_code 43 = .ok (.athrow, 1) := by decide +kernel
theorem d_T_write_44 : decode prog_1_method_7_code 44 = .ok (.aload_n 0, 1) := by decide +kernel
theorem d_T_write_45 : decode prog_1_method_7_code 45 = .ok (.getfield 16, 3) := by decide +kernel
theorem d_T_write_48 : decode prog_1_method_7_code 48 = .ok (.invokevirtual 69, 3) := by decide +kernel
theorem d_T_write_51 : decode prog_1_method_7_code 51 = .ok (.iload_n 1, 1) := by decide +kernel
theorem d_T_write_52 : decode prog_1_method_7_code 52 = .ok (.ifCond .ne 17, 3) := by decide +kernel
theorem d_T_write_55 : decode prog_1_method_7_code 55 = .ok (.aload_n 0, 1) := by decide +kernel
theorem d_T_write_56 : decode prog_1_method_7_code 56 = .ok (.getfield 31, 3) := by decide +kernel
theorem d_T_write_59 : decode prog_1_method_7_code 59 = .ok (.aload_n 0, 1) := by decide +kernel
theorem d_T_write_60 : decode prog_1_method_7_code 60 = .ok (.getfield 38, 3) := by decide +kernel
theorem d_T_write_63 : decode prog_1_method_7_code 63 = .ok (.invokevirtual 113, 3) := by decide +kernel
theorem d_T_write_66 : decode prog_1_method_7_code 66 = .ok (.goto 14, 3) := by decide +kernel
theorem d_T_write_69 : decode prog_1_method_7_code 69 = .ok (.aload_n 0, 1) := by decide +kernel
theorem d_T_write_70 : decode prog_1_method_7_code 70 = .ok (.getfield 31, 3) := by decide +kernel
theorem d_T_write_73 : decode prog_1_method_7_code 73 = .ok (.aload_n 0, 1) := by decide +kernel
theorem d_T_write_74 : decode prog_1_method_7_code 74 = .ok (.getfield 38, 3) := by decide +kernel
theorem d_T_write_77 : decode prog_1_method_7_code 77 = .ok (.invokevirtual 116, 3) := by decide +kernel
theorem d_T_write_80 : decode prog_1_method_7_code 80 = .ok (.aload_n 0, 1) := by decide +kernel
theorem d_T_write_81 : decode prog_1_method_7_code 81 = .ok (.getfield 16, 3) := by decide +kernel
theorem d_T_write_84 : decode prog_1_method_7_code 84 = .ok (.invokevirtual 52, 3) := by decide +kernel
theorem d_T_write_87 : decode prog_1_method_7_code 87 = .ok (.ireturn, 1) := by decide +kernel
theorem d_T_written_0 : decode prog_1_method_8_code 0 = .ok (.iload_n 1, 1) := by decide +kernel
theorem d_T_written_1 : decode prog_1_method_8_code 1 = .ok (.ifCond .ge 13, 3) := by decide +kernel
theorem d_T_written_4 : decode prog_1_method_8_code 4 = .ok (.new 119, 3) := by decide +kernel
theorem d_T_written_7 : decode prog_1_method_8_code 7 = .ok (.dup, 1) := by decide +kernel
theorem d_T_written_8 : decode prog_1_method_8_code 8 = .ok (.ldc 121, 2) := by decide +kernel
theorem d_T_written_10 : decode prog_1_method_8_code 10 = .ok (.invokespecial 123, 3) := by decide +kernel
theorem d_T_written_13 : decode prog_1_method_8_code 13 = .ok (.athrow, 1) := by decide +kernel
theorem d_T_written_14 : decode prog_1_method_8_code 14 = .ok (.aload_n 0, 1) := by decide +kernel
theorem d_T_written_15 : decode prog_1_method_8_code 15 = .ok (.getfield 16, 3) := by decide +kernel
theorem d_T_written_18 : decode prog_1_method_8_code 18 = .ok (.iload_n 1, 1) := by decide +kernel
theorem d_T_written_19 : decode prog_1_method_8_code 19 = .ok (.invokevirtual 124, 3) := by decide +kernel
theorem d_T_written_22 : decode prog_1_method_8_code 22 = .ok (.ireturn, 1) := by decide +kernel
