theorem d_M_put_0 : decode prog_7_method_3_code 0 = .ok (.aload_n 0, 1) := by decide +kernel
theorem d_M_put_1 : decode prog_7_method_3_code 1 = .ok (.iload_n 1, 1) := by decide +kernel
theorem d_M_put_2 : decode prog_7_method_3_code 2 = .ok (.iconst 1, 1) := by decide +kernel
theorem d_M_put_3 : decode prog_7_method_3_code 3 = .ok (.if_icmp .lt 8, 3) := by decide +kernel
theorem d_M_put_6 : decode prog_7_method_3_code 6 = .ok (.iload_n 1, 1) := by decide +kernel
theorem d_M_put_7 : decode prog_7_method_3_code 7 = .ok (.iconst 4, 1) := by decide +kernel
theorem d_M_put_8 : decode prog_7_method_3_code 8 = .ok (.if_icmp .le 7, 3) := by decide +kernel
theorem d_M_put_11 : decode prog_7_method_3_code 11 = .ok (.iconst 1, 1) := by decide +kernel
theorem d_M_put_12 : decode prog_7_method_3_code 12 = .ok (.goto 20, 3) := by decide +kernel
theorem d_M_put_15 : decode prog_7_method_3_code 15 = .ok (.aload_n 0, 1) := by decide +kernel
theorem d_M_put_16 : decode prog_7_method_3_code 16 = .ok (.getfield 102, 3) := by decide +kernel
theorem d_M_put_19 : decode prog_7_method_3_code 19 = .ok (.iload_n 1, 1) := by decide +kernel
theorem d_M_put_20 : decode prog_7_method_3_code 20 = .ok (.iadd, 1) := by decide +kernel
theorem d_M_put_21 : decode prog_7_method_3_code 21 = .ok (.sipush 1500, 3) := by decide +kernel
theorem d_M_put_24 : decode prog_7_method_3_code 24 = .ok (.if_icmp .le 7, 3) := by decide +kernel
theorem d_M_put_27 : decode prog_7_method_3_code 27 = .ok (.iconst 2, 1) := by decide +kernel
theorem d_M_put_28 : decode prog_7_method_3_code 28 = .ok (.goto 4, 3) := by decide +kernel
theorem d_M_put_31 : decode prog_7_method_3_code 31 = .ok (.iconst 0, 1) := by decide +kernel
theorem d_M_put_32 : decode prog_7_method_3_code 32 = .ok (.putfield 98, 3) := by decide +kernel
theorem d_M_put_35 : decode prog_7_method_3_code 35 = .ok (.aload_n 0, 1) := by decide +kernel
theorem d_M_put_36 : decode prog_7_method_3_code 36 = .ok (.getfield 98, 3) := by decide +kernel
theorem d_M_put_39 : decode prog_7_method_3_code 39 = .ok (.ifCond .le 5, 3) := by decide +kernel
theorem d_M_put_42 : decode prog_7_method_3_code 42 = .ok (.iconst 0, 1) := by decide +kernel
theorem d_M_put_43 : decode prog_7_method_3_code 43 = .ok (.ireturn, 1) := by decide +kernel
theorem d_M_put_44 : decode prog_7_method_3_code 44 = .ok (.iconst 0, 1) := by decide +kernel
theorem d_M_put_45 : decode prog_7_method_3_code 45 = .ok (.istore_n 3, 1) := by decide +kernel
theorem d_M_put_46 : decode prog_7_method_3_code 46 = .ok (.iload_n 3, 1) := by decide +kernel
theorem d_M_put_47 : decode prog_7_method_3_code 47 = .ok (.iload_n 1, 1) := by decide +kernel
theorem d_M_put_48 : decode prog_7_method_3_code 48 = .ok (.if_icmp .ge 38, 3) := by decide +kernel
theorem d_M_put_51 : decode prog_7_method_3_code 51 = .ok (.aload_n 0, 1) := by decide +kernel
theorem d_M_put_52 : decode prog_7_method_3_code 52 = .ok (.getfield 7, 3) := by decide +kernel
theorem d_M_put_55 : decode prog_7_method_3_code 55 = .ok (.aload_n 0, 1) := by decide +kernel
theorem d_M_put_56 : decode prog_7_method_3_code 56 = .ok (.getfield 102, 3) := by decide +kernel
theorem d_M_put_59 : decode prog_7_method_3_code 59 = .ok (.iload_n 2, 1) := by decide +kernel
theorem d_M_put_60 : decode prog_7_method_3_code 60 = .ok (.bipush 8, 2) := by decide +kernel
theorem d_M_put_62 : decode prog_7_method_3_code 62 = .ok (.iload_n 3, 1) := by decide +kernel
theorem d_M_put_63 : decode prog_7_method_3_code 63 = .ok (.imul, 1) := by decide +kernel
theorem d_M_put_64 : decode prog_7_method_3_code 64 = .ok (.ishr, 1) := by decide +kernel
theorem d_M_put_65 : decode prog_7_method_3_code 65 = .ok (.sipush 255, 3) := by decide +kernel
theorem d_M_put_68 : decode prog_7_method_3_code 68 = .ok (.iand, 1) := by decide +kernel
theorem d_M_put_69 : decode prog_7_method_3_code 69 = .ok (.iastore, 1) := by decide +kernel
theorem d_M_put_70 : decode prog_7_method_3_code 70 = .ok (.aload_n 0, 1) := by decide +kernel
theorem d_M_put_71 : decode prog_7_method_3_code 71 = .ok (.dup, 1) := by decide +kernel
theorem d_M_put_72 : decode prog_7_method_3_code 72 = .ok (.getfield 102, 3) := by decide +kernel
theorem d_M_put_75 : decode prog_7_method_3_code 75 = .ok (.iconst 1, 1) := by decide +kernel
theorem d_M_put_76 : decode prog_7_method_3_code 76 = .ok (.iadd, 1) := by decide +kernel
theorem d_M_put_77 : decode prog_7_method_3_code 77 = .ok (.putfield 102, 3) := by decide +kernel
theorem d_M_put_80 : decode prog_7_method_3_code 80 = .ok (.iinc 3 1, 3) := by decide +kernel
theorem d_M_put_83 : decode prog_7_method_3_code 83 = .ok (.goto (-37), 3) := by decide +kernel
theorem d_M_put_86 : decode prog_7_method_3_code 86 = .ok (.aload_n 0, 1) := by decide +kernel
theorem d_M_put_87 : decode prog_7_method_3_code 87 = .ok (.getfield 102, 3) := by decide +kernel
theorem d_M_put_90 : decode prog_7_method_3_code 90 = .ok (.ireturn, 1) := by decide +kernel
theorem d_M_byteAt_0 : decode prog_7_method_4_code 0 = .ok (.iload_n 1, 1) := by decide +kernel
theorem d_M_byteAt_1 : decode prog_7_method_4_code 1 = .ok (.aload_n 0, 1) := by decide +kernel
theorem d_M_byteAt_2 : decode prog_7_method_4_code 2 = .ok (.getfield 102, 3) := by decide +kernel
theorem d_M_byteAt_5 : decode prog_7_method_4_code 5 = .ok (.if_icmp .ge 12, 3) := by decide +kernel
theorem d_M_byteAt_8 : decode prog_7_method_4_code 8 = .ok (.aload_n 0, 1) := by decide +kernel
theorem d_M_byteAt_9 : decode prog_7_method_4_code 9 = .ok (.getfield 7, 3) := by decide +kernel
theorem d_M_byteAt_12 : decode prog_7_method_4_code 12 = .ok (.iload_n 1, 1) := by decide +kernel
theorem d_M_byteAt_13 : decode prog_7_method_4_code 13 = .ok (.iaload, 1) := by decide +kernel
theorem d_M_byteAt_14 : decode prog_7_method_4_code 14 = .ok (.goto 4, 3) := by decide +kernel
theorem d_M_byteAt_17 : decode prog_7_method_4_code 17 = .ok (.iconst (-1), 1) := by decide +kernel
theorem d_M_byteAt_18 : decode prog_7_method_4_code 18 = .ok (.ireturn, 1) := by decide +kernel
theorem d_M_bad_0 : decode prog_7_method_5_code 0 = .ok (.aload_n 0, 1) := by decide +kernel
theorem d_M_bad_1 : decode prog_7_method_5_code 1 = .ok (.getfield 105, 3) := by decide +kernel
theorem d_M_bad_4 : decode prog_7_method_5_code 4 = .ok (.iconst (-1), 1) := by decide +kernel
theorem d_M_bad_5 : decode prog_7_method_5_code 5 = .ok (.if_icmp .ne 8, 3) := by decide +kernel
theorem d_M_bad_8 : decode prog_7_method_5_code 8 = .ok (.aload_n 0, 1) := by decide +kernel
theorem d_M_bad_9 : decode prog_7_method_5_code 9 = .ok (.iload_n 1, 1) := by decide +kernel
theorem d_M_bad_10 : decode prog_7_method_5_code 10 = .ok (.putfield 105, 3) := by decide +kernel
theorem d_M_bad_13 : decode prog_7_method_5_code 13 = .ok (.return_, 1) := by decide +kernel
theorem d_M_take_0 : decode prog_7_method_6_code 0 = .ok (.aload_n 0, 1) := by decide +kernel
theorem d_M_take_1 : decode prog_7_method_6_code 1 = .ok (.getfield 105, 3) := by decide +kernel
theorem d_M_take_4 : decode prog_7_method_6_code 4 = .ok (.iconst (-1), 1) := by decide +kernel
theorem d_M_take_5 : decode prog_7_method_6_code 5 = .ok (.if_icmp .eq 4, 3) := by decide +kernel
theorem d_M_take_8 : decode prog_7_method_6_code 8 = .ok (.return_, 1) := by decide +kernel
theorem d_M_take_9 : decode prog_7_method_6_code 9 = .ok (.aload_n 0, 1) := by decide +kernel
theorem d_M_take_10 : decode prog_7_method_6_code 10 = .ok (.aload_n 0, 1) := by decide +kernel
theorem d_M_take_11 : decode prog_7_method_6_code 11 = .ok (.getfield 108, 3) := by decide +kernel
theorem d_M_take_14 : decode prog_7_method_6_code 14 = .ok (.invokevirtual 111, 3) := by decide +kernel
theorem d_M_take_17 : decode prog_7_method_6_code 17 = .ok (.iload_n 1, 1) := by decide +kernel
theorem d_M_take_18 : decode prog_7_method_6_code 18 = .ok (.if_icmp .eq 12, 3) := by decide +kernel
theorem d_M_take_21 : decode prog_7_method_6_code 21 = .ok (.aload_n 0, 1) := by decide +kernel
theorem d_M_take_22 : decode prog_7_method_6_code 22 = .ok (.aload_n 0, 1) := by decide +kernel
theorem d_M_take_23 : decode prog_7_method_6_code 23 = .ok (.getfield 108, 3) := by decide +kernel
theorem d_M_take_26 : decode prog_7_method_6_code 26 = .ok (.invokevirtual 115, 3) := by decide +kernel
theorem d_M_take_29 : decode prog_7_method_6_code 29 = .ok (.return_, 1) := by decide +kernel
theorem d_M_take_30 : decode prog_7_method_6_code 30 = .ok (.aload_n 0, 1) := by decide +kernel
theorem d_M_take_31 : decode prog_7_method_6_code 31 = .ok (.dup, 1) := by decide +kernel
theorem d_M_take_32 : decode prog_7_method_6_code 32 = .ok (.getfield 108, 3) := by decide +kernel
theorem d_M_take_35 : decode prog_7_method_6_code 35 = .ok (.iconst 1, 1) := by decide +kernel
theorem d_M_take_36 : decode prog_7_method_6_code 36 = .ok (.iadd, 1) := by decide +kernel
theorem d_M_take_37 : decode prog_7_method_6_code 37 = .ok (.putfield 108, 3) := by decide +kernel
theorem d_M_take_40 : decode prog_7_method_6_code 40 = .ok (.return_, 1) := by decide +kernel
theorem d_M_isDigit_0 : decode prog_7_method_7_code 0 = .ok (.aload_n 0, 1) := by decide +kernel
theorem d_M_isDigit_1 : decode prog_7_method_7_code 1 = .ok (.iload_n 1, 1) := by decide +kernel
theorem d_M_isDigit_2 : decode prog_7_method_7_code 2 = .ok (.invokevirtual 111, 3) := by decide +kernel
theorem d_M_isDigit_5 : decode prog_7_method_7_code 5 = .ok (.bipush 48, 2) := by decide +kernel
theorem d_M_isDigit_7 : decode prog_7_method_7_code 7 = .ok (.if_icmp .lt 17, 3) := by decide +kernel
theorem d_M_isDigit_10 : decode prog_7_method_7_code 10 = .ok (.aload_n 0, 1) := by decide +kernel
theorem d_M_isDigit_11 : decode prog_7_method_7_code 11 = .ok (.iload_n 1, 1) := by decide +kernel
theorem d_M_isDigit_12 : decode prog_7_method_7_code 12 = .ok (.invokevirtual 111, 3) := by decide +kernel
theorem d_M_isDigit_15 : decode prog_7_method_7_code 15 = .ok (.bipush 57, 2) := by decide +kernel
theorem d_M_isDigit_17 : decode prog_7_method_7_code 17 = .ok (.if_icmp .gt 7, 3) := by decide +kernel
theorem d_M_isDigit_20 : decode prog_7_method_7_code 20 = .ok (.iconst 1, 1) := by decide +kernel
theorem d_M_isDigit_21 : decode prog_7_method_7_code 21 = .ok (.goto 4, 3) := by decide +kernel
theorem d_M_isDigit_24 : decode prog_7_method_7_code 24 = .ok (.iconst 0, 1) := by decide +kernel
theorem d_M_isDigit_25 : decode prog_7_method_7_code 25 = .ok (.ireturn, 1) := by decide +kernel
theorem d_M_number_0 : decode prog_7_method_8_code 0 = .ok (.aload_n 0, 1) := by decide +kernel
theorem d_M_number_1 : decode prog_7_method_8_code 1 = .ok (.getfield 105, 3) := by decide +kernel
theorem d_M_number_4 : decode prog_7_method_8_code 4 = .ok (.iconst (-1), 1) := by decide +kernel
theorem d_M_number_5 : decode prog_7_method_8_code 5 = .ok (.if_icmp .eq 5, 3) := by decide +kernel
theorem d_M_number_8 : decode prog_7_method_8_code 8 = .ok (.iconst 0, 1) := by decide +kernel
theorem d_M_number_9 : decode prog_7_method_8_code 9 = .ok (.ireturn, 1) := by decide +kernel
theorem d_M_number_10 : decode prog_7_method_8_code 10 = .ok (.aload_n 0, 1) := by decide +kernel
theorem d_M_number_11 : decode prog_7_method_8_code 11 = .ok (.aload_n 0, 1) := by decide +kernel
theorem d_M_number_12 : decode prog_7_method_8_code 12 = .ok (.getfield 108, 3) := by decide +kernel
theorem d_M_number_15 : decode prog_7_method_8_code 15 = .ok (.putfield 119, 3) := by decide +kernel
theorem d_M_number_18 : decode prog_7_method_8_code 18 = .ok (.aload_n 0, 1) := by decide +kernel
theorem d_M_number_19 : decode prog_7_method_8_code 19 = .ok (.aload_n 0, 1) := by decide +kernel
theorem d_M_number_20 : decode prog_7_method_8_code 20 = .ok (.getfield 108, 3) := by decide +kernel
theorem d_M_number_23 : decode prog_7_method_8_code 23 = .ok (.invokevirtual 122, 3) := by decide +kernel
theorem d_M_number_26 : decode prog_7_method_8_code 26 = .ok (.ifCond .ne 13, 3) := by decide +kernel
theorem d_M_number_29 : decode prog_7_method_8_code 29 = .ok (.aload_n 0, 1) := by decide +kernel
theorem d_M_number_30 : decode prog_7_method_8_code 30 = .ok (.aload_n 0, 1) := by decide +kernel
theorem d_M_number_31 : decode prog_7_method_8_code 31 = .ok (.getfield 108, 3) := by decide +kernel
theorem d_M_number_34 : decode prog_7_method_8_code 34 = .ok (.invokevirtual 115, 3) := by decide +kernel
theorem d_M_number_37 : decode prog_7_method_8_code 37 = .ok (.iconst 0, 1) := by decide +kernel
theorem d_M_number_38 : decode prog_7_method_8_code 38 = .ok (.ireturn, 1) := by decide +kernel
theorem d_M_number_39 : decode prog_7_method_8_code 39 = .ok (.iconst 0, 1) := by decide +kernel
theorem d_M_number_40 : decode prog_7_method_8_code 40 = .ok (.istore_n 2, 1) := by decide +kernel
theorem d_M_number_41 : decode prog_7_method_8_code 41 = .ok (.aload_n 0, 1) := by decide +kernel
theorem d_M_number_42 : decode prog_7_method_8_code 42 = .ok (.aload_n 0, 1) := by decide +kernel
theorem d_M_number_43 : decode prog_7_method_8_code 43 = .ok (.getfield 108, 3) := by decide +kernel
theorem d_M_number_46 : decode prog_7_method_8_code 46 = .ok (.invokevirtual 122, 3) := by decide +kernel
theorem d_M_number_49 : decode prog_7_method_8_code 49 = .ok (.ifCond .eq 82, 3) := by decide +kernel
theorem d_M_number_52 : decode prog_7_method_8_code 52 = .ok (.aload_n 0, 1) := by decide +kernel
theorem d_M_number_53 : decode prog_7_method_8_code 53 = .ok (.getfield 108, 3) := by decide +kernel
theorem d_M_number_56 : decode prog_7_method_8_code 56 = .ok (.aload_n 0, 1) := by decide +kernel
theorem d_M_number_57 : decode prog_7_method_8_code 57 = .ok (.getfield 119, 3) := by decide +kernel
theorem d_M_number_60 : decode prog_7_method_8_code 60 = .ok (.if_icmp .eq 17, 3) := by decide +kernel
theorem d_M_number_63 : decode prog_7_method_8_code 63 = .ok (.aload_n 0, 1) := by decide +kernel
theorem d_M_number_64 : decode prog_7_method_8_code 64 = .ok (.getfield 7, 3) := by decide +kernel
theorem d_M_number_67 : decode prog_7_method_8_code 67 = .ok (.aload_n 0, 1) := by decide +kernel
theorem d_M_number_68 : decode prog_7_method_8_code 68 = .ok (.getfield 119, 3) := by decide +kernel
theorem d_M_number_71 : decode prog_7_method_8_code 71 = .ok (.iaload, 1) := by decide +kernel
theorem d_M_number_72 : decode prog_7_method_8_code 72 = .ok (.bipush 48, 2) := by decide +kernel
theorem d_M_number_74 : decode prog_7_method_8_code 74 = .ok (.if_icmp .eq 57, 3) := by decide +kernel
theorem d_M_number_77 : decode prog_7_method_8_code 77 = .ok (.aload_n 0, 1) := by decide +kernel
theorem d_M_number_78 : decode prog_7_method_8_code 78 = .ok (.getfield 108, 3) := by decide +kernel
theorem d_M_number_81 : decode prog_7_method_8_code 81 = .ok (.aload_n 0, 1) := by decide +kernel
theorem d_M_number_82 : decode prog_7_method_8_code 82 = .ok (.getfield 119, 3) := by decide +kernel
theorem d_M_number_85 : decode prog_7_method_8_code 85 = .ok (.isub, 1) := by decide +kernel
theorem d_M_number_86 : decode prog_7_method_8_code 86 = .ok (.iconst 4, 1) := by decide +kernel
theorem d_M_number_87 : decode prog_7_method_8_code 87 = .ok (.if_icmp .ne 13, 3) := by decide +kernel
theorem d_M_number_90 : decode prog_7_method_8_code 90 = .ok (.aload_n 0, 1) := by decide +kernel
theorem d_M_number_91 : decode prog_7_method_8_code 91 = .ok (.aload_n 0, 1) := by decide +kernel
theorem d_M_number_92 : decode prog_7_method_8_code 92 = .ok (.getfield 108, 3) := by decide +kernel
theorem d_M_number_95 : decode prog_7_method_8_code 95 = .ok (.invokevirtual 115, 3) := by decide +kernel
theorem d_M_number_98 : decode prog_7_method_8_code 98 = .ok (.iconst 0, 1) := by decide +kernel
theorem d_M_number_99 : decode prog_7_method_8_code 99 = .ok (.ireturn, 1) := by decide +kernel
theorem d_M_number_100 : decode prog_7_method_8_code 100 = .ok (.bipush 10, 2) := by decide +kernel
theorem d_M_number_102 : decode prog_7_method_8_code 102 = .ok (.iload_n 2, 1) := by decide +kernel
theorem d_M_number_103 : decode prog_7_method_8_code 103 = .ok (.imul, 1) := by decide +kernel
theorem d_M_number_104 : decode prog_7_method_8_code 104 = .ok (.aload_n 0, 1) := by decide +kernel
theorem d_M_number_105 : decode prog_7_method_8_code 105 = .ok (.getfield 7, 3) := by decide +kernel
theorem d_M_number_108 : decode prog_7_method_8_code 108 = .ok (.aload_n 0, 1) := by decide +kernel
theorem d_M_number_109 : decode prog_7_method_8_code 109 = .ok (.getfield 108, 3) := by decide +kernel
theorem d_M_number_112 : decode prog_7_method_8_code 112 = .ok (.iaload, 1) := by decide +kernel
theorem d_M_number_113 : decode prog_7_method_8_code 113 = .ok (.iadd, 1) := by decide +kernel
theorem d_M_number_114 : decode prog_7_method_8_code 114 = .ok (.bipush 48, 2) := by decide +kernel
theorem d_M_number_116 : decode prog_7_method_8_code 116 = .ok (.isub, 1) := by decide +kernel
theorem d_M_number_117 : decode prog_7_method_8_code 117 = .ok (.istore_n 2, 1) := by decide +kernel
theorem d_M_number_118 : decode prog_7_method_8_code 118 = .ok (.aload_n 0, 1) := by decide +kernel
theorem d_M_number_119 : decode prog_7_method_8_code 119 = .ok (.dup, 1) := by decide +kernel
theorem d_M_number_120 : decode prog_7_method_8_code 120 = .ok (.getfield 108, 3) := by decide +kernel
theorem d_M_number_123 : decode prog_7_method_8_code 123 = .ok (.iconst 1, 1) := by decide +kernel
theorem d_M_number_124 : decode prog_7_method_8_code 124 = .ok (.iadd, 1) := by decide +kernel
theorem d_M_number_125 : decode prog_7_method_8_code 125 = .ok (.putfield 108, 3) := by decide +kernel
theorem d_M_number_128 : decode prog_7_method_8_code 128 = .ok (.goto (-87), 3) := by decide +kernel
theorem d_M_number_131 : decode prog_7_method_8_code 131 = .ok (.iload_n 2, 1) := by decide +kernel
theorem d_M_number_132 : decode prog_7_method_8_code 132 = .ok (.iload_n 1, 1) := by decide +kernel
theorem d_M_number_133 : decode prog_7_method_8_code 133 = .ok (.if_icmp .le 11, 3) := by decide +kernel
theorem d_M_number_136 : decode prog_7_method_8_code 136 = .ok (.aload_n 0, 1) := by decide +kernel
theorem d_M_number_137 : decode prog_7_method_8_code 137 = .ok (.aload_n 0, 1) := by decide +kernel
theorem d_M_number_138 : decode prog_7_method_8_code 138 = .ok (.getfield 119, 3) := by decide +kernel
theorem d_M_number_141 : decode prog_7_method_8_code 141 = .ok (.invokevirtual 115, 3) := by decide +kernel
theorem d_M_number_144 : decode prog_7_method_8_code 144 = .ok (.iload_n 2, 1) := by decide +kernel
theorem d_M_number_145 : decode prog_7_method_8_code 145 = .ok (.ireturn, 1) := by decide +kernel
theorem d_M_literal_0 : decode prog_7_method_9_code 0 = .ok (.aload_n 0, 1) := by decide +kernel
theorem d_M_literal_1 : decode prog_7_method_9_code 1 = .ok (.iconst 2, 1) := by decide +kernel
theorem d_M_literal_2 : decode prog_7_method_9_code 2 = .ok (.aload_n 0, 1) := by decide +kernel
theorem d_M_literal_3 : decode prog_7_method_9_code 3 = .ok (.getfield 126, 3) := by decide +kernel
theorem d_M_literal_6 : decode prog_7_method_9_code 6 = .ok (.imul, 1) := by decide +kernel
theorem d_M_literal_7 : decode prog_7_method_9_code 7 = .ok (.iconst 1, 1) := by decide +kernel
theorem d_M_literal_8 : decode prog_7_method_9_code 8 = .ok (.iadd, 1) := by decide +kernel
theorem d_M_literal_9 : decode prog_7_method_9_code 9 = .ok (.invokevirtual 129, 3) := by decide +kernel
theorem d_M_literal_12 : decode prog_7_method_9_code 12 = .ok (.istore_n 2, 1) := by decide +kernel
theorem d_M_literal_13 : decode prog_7_method_9_code 13 = .ok (.aload_n 0, 1) := by decide +kernel
theorem d_M_literal_14 : decode prog_7_method_9_code 14 = .ok (.getfield 105, 3) := by decide +kernel
theorem d_M_literal_17 : decode prog_7_method_9_code 17 = .ok (.iconst (-1), 1) := by decide +kernel
theorem d_M_literal_18 : decode prog_7_method_9_code 18 = .ok (.if_icmp .ne 40, 3) := by decide +kernel
theorem d_M_literal_21 : decode prog_7_method_9_code 21 = .ok (.iload_n 1, 1) := by decide +kernel
theorem d_M_literal_22 : decode prog_7_method_9_code 22 = .ok (.ifCond .eq 36, 3) := by decide +kernel
theorem d_M_literal_25 : decode prog_7_method_9_code 25 = .ok (.aload_n 0, 1) := by decide +kernel
theorem d_M_literal_26 : decode prog_7_method_9_code 26 = .ok (.getfield 80, 3) := by decide +kernel
theorem d_M_literal_29 : decode prog_7_method_9_code 29 = .ok (.aload_n 0, 1) := by decide +kernel
theorem d_M_literal_30 : decode prog_7_method_9_code 30 = .ok (.getfield 132, 3) := by decide +kernel
theorem d_M_literal_33 : decode prog_7_method_9_code 33 = .ok (.iload_n 2, 1) := by decide +kernel
theorem d_M_literal_34 : decode prog_7_method_9_code 34 = .ok (.iastore, 1) := by decide +kernel
theorem d_M_literal_35 : decode prog_7_method_9_code 35 = .ok (.aload_n 0, 1) := by decide +kernel
theorem d_M_literal_36 : decode prog_7_method_9_code 36 = .ok (.getfield 83, 3) := by decide +kernel
theorem d_M_literal_39 : decode prog_7_method_9_code 39 = .ok (.aload_n 0, 1) := by decide +kernel
theorem d_M_literal_40 : decode prog_7_method_9_code 40 = .ok (.getfield 132, 3) := by decide +kernel
theorem d_M_literal_43 : decode prog_7_method_9_code 43 = .ok (.aload_n 0, 1) := by decide +kernel
theorem d_M_literal_44 : decode prog_7_method_9_code 44 = .ok (.getfield 119, 3) := by decide +kernel
theorem d_M_literal_47 : decode prog_7_method_9_code 47 = .ok (.iastore, 1) := by decide +kernel
theorem d_M_literal_48 : decode prog_7_method_9_code 48 = .ok (.aload_n 0, 1) := by decide +kernel
theorem d_M_literal_49 : decode prog_7_method_9_code 49 = .ok (.dup, 1) := by decide +kernel
theorem d_M_literal_50 : decode prog_7_method_9_code 50 = .ok (.getfield 132, 3) := by decide +kernel
theorem d_M_literal_53 : decode prog_7_method_9_code 53 = .ok (.iconst 1, 1) := by decide +kernel
theorem d_M_literal_54 : decode prog_7_method_9_code 54 = .ok (.iadd, 1) := by decide +kernel
theorem d_M_literal_55 : decode prog_7_method_9_code 55 = .ok (.putfield 132, 3) := by decide +kernel
theorem d_M_literal_58 : decode prog_7_method_9_code 58 = .ok (.iload_n 2, 1) := by decide +kernel
theorem d_M_literal_59 : decode prog_7_method_9_code 59 = .ok (.ireturn, 1) := by decide +kernel
theorem d_M_define_0 : decode prog_7_method_10_code 0 = .ok (.aload_n 0, 1) := by decide +kernel
theorem d_M_define_1 : decode prog_7_method_10_code 1 = .ok (.iconst 0, 1) := by decide +kernel
theorem d_M_define_2 : decode prog_7_method_10_code 2 = .ok (.invokevirtual 135, 3) := by decide +kernel
theorem d_M_define_5 : decode prog_7_method_10_code 5 = .ok (.istore_n 1, 1) := by decide +kernel
theorem d_M_define_6 : decode prog_7_method_10_code 6 = .ok (.aload_n 0, 1) := by decide +kernel
theorem d_M_define_7 : decode prog_7_method_10_code 7 = .ok (.getfield 105, 3) := by decide +kernel
theorem d_M_define_10 : decode prog_7_method_10_code 10 = .ok (.iconst (-1), 1) := by decide +kernel
theorem d_M_define_11 : decode prog_7_method_10_code 11 = .ok (.if_icmp .eq 5, 3) := by decide +kernel
theorem d_M_define_14 : decode prog_7_method_10_code 14 = .ok (.iconst 0, 1) := by decide +kernel
theorem d_M_define_15 : decode prog_7_method_10_code 15 = .ok (.ireturn, 1) := by decide +kernel
theorem d_M_define_16 : decode prog_7_method_10_code 16 = .ok (.iload_n 1, 1) := by decide +kernel
theorem d_M_define_17 : decode prog_7_method_10_code 17 = .ok (.iconst 2, 1) := by decide +kernel
theorem d_M_define_18 : decode prog_7_method_10_code 18 = .ok (.irem, 1) := by decide +kernel
theorem d_M_define_19 : decode prog_7_method_10_code 19 = .ok (.iconst 1, 1) := by decide +kernel
theorem d_M_define_20 : decode prog_7_method_10_code 20 = .ok (.if_icmp .eq 18, 3) := by decide +kernel
theorem d_M_define_23 : decode prog_7_method_10_code 23 = .ok (.iload_n 1, 1) := by decide +kernel
theorem d_M_define_24 : decode prog_7_method_10_code 24 = .ok (.ifCond .eq 14, 3) := by decide +kernel
theorem d_M_define_27 : decode prog_7_method_10_code 27 = .ok (.aload_n 0, 1) := by decide +kernel
theorem d_M_define_28 : decode prog_7_method_10_code 28 = .ok (.getfield 76, 3) := by decide +kernel
theorem d_M_define_31 : decode prog_7_method_10_code 31 = .ok (.iload_n 1, 1) := by decide +kernel
theorem d_M_define_32 : decode prog_7_method_10_code 32 = .ok (.iconst 2, 1) := by decide +kernel
theorem d_M_define_33 : decode prog_7_method_10_code 33 = .ok (.idiv, 1) := by decide +kernel
theorem d_M_define_34 : decode prog_7_method_10_code 34 = .ok (.baload, 1) := by decide +kernel
theorem d_M_define_35 : decode prog_7_method_10_code 35 = .ok (.ifCond .eq 13, 3) := by decide +kernel
theorem d_M_define_38 : decode prog_7_method_10_code 38 = .ok (.aload_n 0, 1) := by decide +kernel
theorem d_M_define_39 : decode prog_7_method_10_code 39 = .ok (.aload_n 0, 1) := by decide +kernel
theorem d_M_define_40 : decode prog_7_method_10_code 40 = .ok (.getfield 119, 3) := by decide +kernel
theorem d_M_define_43 : decode prog_7_method_10_code 43 = .ok (.invokevirtual 115, 3) := by decide +kernel
theorem d_M_define_46 : decode prog_7_method_10_code 46 = .ok (.iconst 0, 1) := by decide +kernel
theorem d_M_define_47 : decode prog_7_method_10_code 47 = .ok (.ireturn, 1) := by decide +kernel
theorem d_M_define_48 : decode prog_7_method_10_code 48 = .ok (.aload_n 0, 1) := by decide +kernel
theorem d_M_define_49 : decode prog_7_method_10_code 49 = .ok (.getfield 76, 3) := by decide +kernel
theorem d_M_define_52 : decode prog_7_method_10_code 52 = .ok (.iload_n 1, 1) := by decide +kernel
theorem d_M_define_53 : decode prog_7_method_10_code 53 = .ok (.iconst 2, 1) := by decide +kernel
theorem d_M_define_54 : decode prog_7_method_10_code 54 = .ok (.idiv, 1) := by decide +kernel
theorem d_M_define_55 : decode prog_7_method_10_code 55 = .ok (.iconst 1, 1) := by decide +kernel
theorem d_M_define_56 : decode prog_7_method_10_code 56 = .ok (.bastore, 1) := by decide +kernel
theorem d_M_define_57 : decode prog_7_method_10_code 57 = .ok (.iload_n 1, 1) := by decide +kernel
theorem d_M_define_58 : decode prog_7_method_10_code 58 = .ok (.ireturn, 1) := by decide +kernel
theorem d_M_header_0 : decode prog_7_method_11_code 0 = .ok (.aload_n 0, 1) := by decide +kernel
theorem d_M_header_1 : decode prog_7_method_11_code 1 = .ok (.bipush 97, 2) := by decide +kernel
theorem d_M_header_3 : decode prog_7_method_11_code 3 = .ok (.invokevirtual 139, 3) := by decide +kernel
theorem d_M_header_6 : decode prog_7_method_11_code 6 = .ok (.aload_n 0, 1) := by decide +kernel
theorem d_M_header_7 : decode prog_7_method_11_code 7 = .ok (.iload_n 1, 1) := by decide +kernel
theorem d_M_header_8 : decode prog_7_method_11_code 8 = .ok (.ifCond .eq 8, 3) := by decide +kernel
theorem d_M_header_11 : decode prog_7_method_11_code 11 = .ok (.bipush 105, 2) := by decide +kernel
theorem d_M_header_13 : decode prog_7_method_11_code 13 = .ok (.goto 5, 3) := by decide +kernel
theorem d_M_header_16 : decode prog_7_method_11_code 16 = .ok (.bipush 97, 2) := by decide +kernel
theorem d_M_header_18 : decode prog_7_method_11_code 18 = .ok (.invokevirtual 139, 3) := by decide +kernel
theorem d_M_header_21 : decode prog_7_method_11_code 21 = .ok (.aload_n 0, 1) := by decide +kernel
theorem d_M_header_22 : decode prog_7_method_11_code 22 = .ok (.bipush 103, 2) := by decide +kernel
theorem d_M_header_24 : decode prog_7_method_11_code 24 = .ok (.invokevirtual 139, 3) := by decide +kernel
theorem d_M_header_27 : decode prog_7_method_11_code 27 = .ok (.aload_n 0, 1) := by decide +kernel
theorem d_M_header_28 : decode prog_7_method_11_code 28 = .ok (.bipush 32, 2) := by decide +kernel
theorem d_M_header_30 : decode prog_7_method_11_code 30 = .ok (.invokevirtual 139, 3) := by decide +kernel
theorem d_M_header_33 : decode prog_7_method_11_code 33 = .ok (.aload_n 0, 1) := by decide +kernel
theorem d_M_header_34 : decode prog_7_method_11_code 34 = .ok (.aload_n 0, 1) := by decide +kernel
theorem d_M_header_35 : decode prog_7_method_11_code 35 = .ok (.bipush 99, 2) := by decide +kernel
theorem d_M_header_37 : decode prog_7_method_11_code 37 = .ok (.invokevirtual 129, 3) := by decide +kernel
theorem d_M_header_40 : decode prog_7_method_11_code 40 = .ok (.putfield 126, 3) := by decide +kernel
theorem d_M_header_43 : decode prog_7_method_11_code 43 = .ok (.iconst 0, 1) := by decide +kernel
theorem d_M_header_44 : decode prog_7_method_11_code 44 = .ok (.istore_n 2, 1) := by decide +kernel
theorem d_M_header_45 : decode prog_7_method_11_code 45 = .ok (.iload_n 2, 1) := by decide +kernel
theorem d_M_header_46 : decode prog_7_method_11_code 46 = .ok (.iconst 4, 1) := by decide +kernel
theorem d_M_header_47 : decode prog_7_method_11_code 47 = .ok (.if_icmp .ge 37, 3) := by decide +kernel
theorem d_M_header_50 : decode prog_7_method_11_code 50 = .ok (.aload_n 0, 1) := by decide +kernel
theorem d_M_header_51 : decode prog_7_method_11_code 51 = .ok (.bipush 32, 2) := by decide +kernel
theorem d_M_header_53 : decode prog_7_method_11_code 53 = .ok (.invokevirtual 139, 3) := by decide +kernel
theorem d_M_header_56 : decode prog_7_method_11_code 56 = .ok (.aload_n 0, 1) := by decide +kernel
theorem d_M_header_57 : decode prog_7_method_11_code 57 = .ok (.getfield 46, 3) := by decide +kernel
theorem d_M_header_60 : decode prog_7_method_11_code 60 = .ok (.iload_n 2, 1) := by decide +kernel
theorem d_M_header_61 : decode prog_7_method_11_code 61 = .ok (.aload_n 0, 1) := by decide +kernel
theorem d_M_header_62 : decode prog_7_method_11_code 62 = .ok (.iload_n 2, 1) := by decide +kernel
theorem d_M_header_63 : decode prog_7_method_11_code 63 = .ok (.iconst 3, 1) := by decide +kernel
theorem d_M_header_64 : decode prog_7_method_11_code 64 = .ok (.if_icmp .ge 8, 3) := by decide +kernel
theorem d_M_header_67 : decode prog_7_method_11_code 67 = .ok (.bipush 8, 2) := by decide +kernel
theorem d_M_header_69 : decode prog_7_method_11_code 69 = .ok (.goto 5, 3) := by decide +kernel
theorem d_M_header_72 : decode prog_7_method_11_code 72 = .ok (.bipush 60, 2) := by decide +kernel
theorem d_M_header_74 : decode prog_7_method_11_code 74 = .ok (.invokevirtual 129, 3) := by decide +kernel
theorem d_M_header_77 : decode prog_7_method_11_code 77 = .ok (.iastore, 1) := by decide +kernel
theorem d_M_header_78 : decode prog_7_method_11_code 78 = .ok (.iinc 2 1, 3) := by decide +kernel
theorem d_M_header_81 : decode prog_7_method_11_code 81 = .ok (.goto (-36), 3) := by decide +kernel
theorem d_M_header_84 : decode prog_7_method_11_code 84 = .ok (.aload_n 0, 1) := by decide +kernel
theorem d_M_header_85 : decode prog_7_method_11_code 85 = .ok (.getfield 46, 3) := by decide +kernel
theorem d_M_header_88 : decode prog_7_method_11_code 88 = .ok (.iconst 0, 1) := by decide +kernel
theorem d_M_header_89 : decode prog_7_method_11_code 89 = .ok (.iaload, 1) := by decide +kernel
theorem d_M_header_90 : decode prog_7_method_11_code 90 = .ok (.aload_n 0, 1) := by decide +kernel
theorem d_M_header_91 : decode prog_7_method_11_code 91 = .ok (.getfield 46, 3) := by decide +kernel
theorem d_M_header_94 : decode prog_7_method_11_code 94 = .ok (.iconst 1, 1) := by decide +kernel
theorem d_M_header_95 : decode prog_7_method_11_code 95 = .ok (.iaload, 1) := by decide +kernel
theorem d_M_header_96 : decode prog_7_method_11_code 96 = .ok (.iadd, 1) := by decide +kernel
theorem d_M_header_97 : decode prog_7_method_11_code 97 = .ok (.aload_n 0, 1) := by decide +kernel
theorem d_M_header_98 : decode prog_7_method_11_code 98 = .ok (.getfield 46, 3) := by decide +kernel
theorem d_M_header_101 : decode prog_7_method_11_code 101 = .ok (.iconst 3, 1) := by decide +kernel
theorem d_M_header_102 : decode prog_7_method_11_code 102 = .ok (.iaload, 1) := by decide +kernel
theorem d_M_header_103 : decode prog_7_method_11_code 103 = .ok (.iadd, 1) := by decide +kernel
theorem d_M_header_104 : decode prog_7_method_11_code 104 = .ok (.istore_n 2, 1) := by decide +kernel
theorem d_M_header_105 : decode prog_7_method_11_code 105 = .ok (.aload_n 0, 1) := by decide +kernel
theorem d_M_header_106 : decode prog_7_method_11_code 106 = .ok (.getfield 105, 3) := by decide +kernel
theorem d_M_header_109 : decode prog_7_method_11_code 109 = .ok (.iconst (-1), 1) := by decide +kernel
theorem d_M_header_110 : decode prog_7_method_11_code 110 = .ok (.if_icmp .ne 34, 3) := by decide +kernel
theorem d_M_header_113 : decode prog_7_method_11_code 113 = .ok (.iload_n 1, 1) := by decide +kernel
theorem d_M_header_114 : decode prog_7_method_11_code 114 = .ok (.ifCond .eq 14, 3) := by decide +kernel
theorem d_M_header_117 : decode prog_7_method_11_code 117 = .ok (.iload_n 2, 1) := by decide +kernel
theorem d_M_header_118 : decode prog_7_method_11_code 118 = .ok (.aload_n 0, 1) := by decide +kernel
theorem d_M_header_119 : decode prog_7_method_11_code 119 = .ok (.getfield 126, 3) := by decide +kernel
theorem d_M_header_122 : decode prog_7_method_11_code 122 = .ok (.if_icmp .eq 22, 3) := by decide +kernel
theorem d_M_header_125 : decode prog_7_method_11_code 125 = .ok (.goto 11, 3) := by decide +kernel
theorem d_M_header_128 : decode prog_7_method_11_code 128 = .ok (.iload_n 2, 1) := by decide +kernel
theorem d_M_header_129 : decode prog_7_method_11_code 129 = .ok (.aload_n 0, 1) := by decide +kernel
theorem d_M_header_130 : decode prog_7_method_11_code 130 = .ok (.getfield 126, 3) := by decide +kernel
theorem d_M_header_133 : decode prog_7_method_11_code 133 = .ok (.if_icmp .le 11, 3) := by decide +kernel
theorem d_M_header_136 : decode prog_7_method_11_code 136 = .ok (.aload_n 0, 1) := by decide +kernel
theorem d_M_header_137 : decode prog_7_method_11_code 137 = .ok (.aload_n 0, 1) := by decide +kernel
theorem d_M_header_138 : decode prog_7_method_11_code 138 = .ok (.getfield 119, 3) := by decide +kernel
theorem d_M_header_141 : decode prog_7_method_11_code 141 = .ok (.invokevirtual 115, 3) := by decide +kernel
theorem d_M_header_144 : decode prog_7_method_11_code 144 = .ok (.aload_n 0, 1) := by decide +kernel
theorem d_M_header_145 : decode prog_7_method_11_code 145 = .ok (.bipush 10, 2) := by decide +kernel
theorem d_M_header_147 : decode prog_7_method_11_code 147 = .ok (.invokevirtual 139, 3) := by decide +kernel
theorem d_M_header_150 : decode prog_7_method_11_code 150 = .ok (.return_, 1) := by decide +kernel
theorem d_M_latchRest_0 : decode prog_7_method_12_code 0 = .ok (.aload_n 0, 1) := by decide +kernel
theorem d_M_latchRest_1 : decode prog_7_method_12_code 1 = .ok (.getfield 55, 3) := by decide +kernel
theorem d_M_latchRest_4 : decode prog_7_method_12_code 4 = .ok (.iload_n 1, 1) := by decide +kernel
theorem d_M_latchRest_5 : decode prog_7_method_12_code 5 = .ok (.aload_n 0, 1) := by decide +kernel
theorem d_M_latchRest_6 : decode prog_7_method_12_code 6 = .ok (.iconst 1, 1) := by decide +kernel
theorem d_M_latchRest_7 : decode prog_7_method_12_code 7 = .ok (.invokevirtual 135, 3) := by decide +kernel
theorem d_M_latchRest_10 : decode prog_7_method_12_code 10 = .ok (.iastore, 1) := by decide +kernel
theorem d_M_latchRest_11 : decode prog_7_method_12_code 11 = .ok (.aload_n 0, 1) := by decide +kernel
theorem d_M_latchRest_12 : decode prog_7_method_12_code 12 = .ok (.getfield 58, 3) := by decide +kernel
theorem d_M_latchRest_15 : decode prog_7_method_12_code 15 = .ok (.iload_n 1, 1) := by decide +kernel
theorem d_M_latchRest_16 : decode prog_7_method_12_code 16 = .ok (.iconst 0, 1) := by decide +kernel
theorem d_M_latchRest_17 : decode prog_7_method_12_code 17 = .ok (.iastore, 1) := by decide +kernel
theorem d_M_latchRest_18 : decode prog_7_method_12_code 18 = .ok (.aload_n 0, 1) := by decide +kernel
theorem d_M_latchRest_19 : decode prog_7_method_12_code 19 = .ok (.getfield 105, 3) := by decide +kernel
theorem d_M_latchRest_22 : decode prog_7_method_12_code 22 = .ok (.iconst (-1), 1) := by decide +kernel
theorem d_M_latchRest_23 : decode prog_7_method_12_code 23 = .ok (.if_icmp .ne 37, 3) := by decide +kernel
theorem d_M_latchRest_26 : decode prog_7_method_12_code 26 = .ok (.aload_n 0, 1) := by decide +kernel
theorem d_M_latchRest_27 : decode prog_7_method_12_code 27 = .ok (.aload_n 0, 1) := by decide +kernel
theorem d_M_latchRest_28 : decode prog_7_method_12_code 28 = .ok (.getfield 108, 3) := by decide +kernel
theorem d_M_latchRest_31 : decode prog_7_method_12_code 31 = .ok (.invokevirtual 111, 3) := by decide +kernel
theorem d_M_latchRest_34 : decode prog_7_method_12_code 34 = .ok (.bipush 32, 2) := by decide +kernel
theorem d_M_latchRest_36 : decode prog_7_method_12_code 36 = .ok (.if_icmp .ne 24, 3) := by decide +kernel
theorem d_M_latchRest_39 : decode prog_7_method_12_code 39 = .ok (.aload_n 0, 1) := by decide +kernel
theorem d_M_latchRest_40 : decode prog_7_method_12_code 40 = .ok (.dup, 1) := by decide +kernel
theorem d_M_latchRest_41 : decode prog_7_method_12_code 41 = .ok (.getfield 108, 3) := by decide +kernel
theorem d_M_latchRest_44 : decode prog_7_method_12_code 44 = .ok (.iconst 1, 1) := by decide +kernel
theorem d_M_latchRest_45 : decode prog_7_method_12_code 45 = .ok (.iadd, 1) := by decide +kernel
theorem d_M_latchRest_46 : decode prog_7_method_12_code 46 = .ok (.putfield 108, 3) := by decide +kernel
theorem d_M_latchRest_49 : decode prog_7_method_12_code 49 = .ok (.aload_n 0, 1) := by decide +kernel
theorem d_M_latchRest_50 : decode prog_7_method_12_code 50 = .ok (.getfield 58, 3) := by decide +kernel
theorem d_M_latchRest_53 : decode prog_7_method_12_code 53 = .ok (.iload_n 1, 1) := by decide +kernel
theorem d_M_latchRest_54 : decode prog_7_method_12_code 54 = .ok (.aload_n 0, 1) := by decide +kernel
theorem d_M_latchRest_55 : decode prog_7_method_12_code 55 = .ok (.iconst 1, 1) := by decide +kernel
theorem d_M_latchRest_56 : decode prog_7_method_12_code 56 = .ok (.invokevirtual 129, 3) := by decide +kernel
theorem d_M_latchRest_59 : decode prog_7_method_12_code 59 = .ok (.iastore, 1) := by decide +kernel
theorem d_M_latchRest_60 : decode prog_7_method_12_code 60 = .ok (.aload_n 0, 1) := by decide +kernel
theorem d_M_latchRest_61 : decode prog_7_method_12_code 61 = .ok (.bipush 10, 2) := by decide +kernel
theorem d_M_latchRest_63 : decode prog_7_method_12_code 63 = .ok (.invokevirtual 139, 3) := by decide +kernel
theorem d_M_latchRest_66 : decode prog_7_method_12_code 66 = .ok (.return_, 1) := by decide +kernel
theorem d_M_plainBody_0 : decode prog_7_method_13_code 0 = .ok (.iconst 0, 1) := by decide +kernel
theorem d_M_plainBody_1 : decode prog_7_method_13_code 1 = .ok (.istore_n 1, 1) := by decide +kernel
theorem d_M_plainBody_2 : decode prog_7_method_13_code 2 = .ok (.iload_n 1, 1) := by decide +kernel
theorem d_M_plainBody_3 : decode prog_7_method_13_code 3 = .ok (.aload_n 0, 1) := by decide +kernel
theorem d_M_plainBody_4 : decode prog_7_method_13_code 4 = .ok (.getfield 46, 3) := by decide +kernel
theorem d_M_plainBody_7 : decode prog_7_method_13_code 7 = .ok (.iconst 0, 1) := by decide +kernel
theorem d_M_plainBody_8 : decode prog_7_method_13_code 8 = .ok (.iaload, 1) := by decide +kernel
theorem d_M_plainBody_9 : decode prog_7_method_13_code 9 = .ok (.if_icmp .ge 33, 3) := by decide +kernel
theorem d_M_plainBody_12 : decode prog_7_method_13_code 12 = .ok (.aload_n 0, 1) := by decide +kernel
theorem d_M_plainBody_13 : decode prog_7_method_13_code 13 = .ok (.getfield 105, 3) := by decide +kernel
theorem d_M_plainBody_16 : decode prog_7_method_13_code 16 = .ok (.iconst (-1), 1) := by decide +kernel
theorem d_M_plainBody_17 : decode prog_7_method_13_code 17 = .ok (.if_icmp .ne 25, 3) := by decide +kernel
theorem d_M_plainBody_20 : decode prog_7_method_13_code 20 = .ok (.aload_n 0, 1) := by decide +kernel
theorem d_M_plainBody_21 : decode prog_7_method_13_code 21 = .ok (.getfield 49, 3) := by decide +kernel
theorem d_M_plainBody_24 : decode prog_7_method_13_code 24 = .ok (.iload_n 1, 1) := by decide +kernel
theorem d_M_plainBody_25 : decode prog_7_method_13_code 25 = .ok (.aload_n 0, 1) := by decide +kernel
theorem d_M_plainBody_26 : decode prog_7_method_13_code 26 = .ok (.invokevirtual 142, 3) := by decide +kernel
theorem d_M_plainBody_29 : decode prog_7_method_13_code 29 = .ok (.iastore, 1) := by decide +kernel
theorem d_M_plainBody_30 : decode prog_7_method_13_code 30 = .ok (.aload_n 0, 1) := by decide +kernel
theorem d_M_plainBody_31 : decode prog_7_method_13_code 31 = .ok (.bipush 10, 2) := by decide +kernel
theorem d_M_plainBody_33 : decode prog_7_method_13_code 33 = .ok (.invokevirtual 139, 3) := by decide +kernel
theorem d_M_plainBody_36 : decode prog_7_method_13_code 36 = .ok (.iinc 1 1, 3) := by decide +kernel
theorem d_M_plainBody_39 : decode prog_7_method_13_code 39 = .ok (.goto (-37), 3) := by decide +kernel
theorem d_M_plainBody_42 : decode prog_7_method_13_code 42 = .ok (.iconst 0, 1) := by decide +kernel
theorem d_M_plainBody_43 : decode prog_7_method_13_code 43 = .ok (.istore_n 1, 1) := by decide +kernel
theorem d_M_plainBody_44 : decode prog_7_method_13_code 44 = .ok (.iload_n 1, 1) := by decide +kernel
theorem d_M_plainBody_45 : decode prog_7_method_13_code 45 = .ok (.aload_n 0, 1) := by decide +kernel
theorem d_M_plainBody_46 : decode prog_7_method_13_code 46 = .ok (.getfield 46, 3) := by decide +kernel
theorem d_M_plainBody_49 : decode prog_7_method_13_code 49 = .ok (.iconst 1, 1) := by decide +kernel
theorem d_M_plainBody_50 : decode prog_7_method_13_code 50 = .ok (.iaload, 1) := by decide +kernel
theorem d_M_plainBody_51 : decode prog_7_method_13_code 51 = .ok (.if_icmp .ge 38, 3) := by decide +kernel
theorem d_M_plainBody_54 : decode prog_7_method_13_code 54 = .ok (.aload_n 0, 1) := by decide +kernel
theorem d_M_plainBody_55 : decode prog_7_method_13_code 55 = .ok (.getfield 105, 3) := by decide +kernel
theorem d_M_plainBody_58 : decode prog_7_method_13_code 58 = .ok (.iconst (-1), 1) := by decide +kernel
theorem d_M_plainBody_59 : decode prog_7_method_13_code 59 = .ok (.if_icmp .ne 30, 3) := by decide +kernel
theorem d_M_plainBody_62 : decode prog_7_method_13_code 62 = .ok (.aload_n 0, 1) := by decide +kernel
theorem d_M_plainBody_63 : decode prog_7_method_13_code 63 = .ok (.getfield 52, 3) := by decide +kernel
theorem d_M_plainBody_66 : decode prog_7_method_13_code 66 = .ok (.iload_n 1, 1) := by decide +kernel
theorem d_M_plainBody_67 : decode prog_7_method_13_code 67 = .ok (.aload_n 0, 1) := by decide +kernel
theorem d_M_plainBody_68 : decode prog_7_method_13_code 68 = .ok (.invokevirtual 142, 3) := by decide +kernel
theorem d_M_plainBody_71 : decode prog_7_method_13_code 71 = .ok (.iastore, 1) := by decide +kernel
theorem d_M_plainBody_72 : decode prog_7_method_13_code 72 = .ok (.aload_n 0, 1) := by decide +kernel
theorem d_M_plainBody_73 : decode prog_7_method_13_code 73 = .ok (.bipush 32, 2) := by decide +kernel
theorem d_M_plainBody_75 : decode prog_7_method_13_code 75 = .ok (.invokevirtual 139, 3) := by decide +kernel
theorem d_M_plainBody_78 : decode prog_7_method_13_code 78 = .ok (.aload_n 0, 1) := by decide +kernel
theorem d_M_plainBody_79 : decode prog_7_method_13_code 79 = .ok (.iload_n 1, 1) := by decide +kernel
theorem d_M_plainBody_80 : decode prog_7_method_13_code 80 = .ok (.invokevirtual 146, 3) := by decide +kernel
theorem d_M_plainBody_83 : decode prog_7_method_13_code 83 = .ok (.iinc 1 1, 3) := by decide +kernel
theorem d_M_plainBody_86 : decode prog_7_method_13_code 86 = .ok (.goto (-42), 3) := by decide +kernel
theorem d_M_plainBody_89 : decode prog_7_method_13_code 89 = .ok (.iconst 0, 1) := by decide +kernel
theorem d_M_plainBody_90 : decode prog_7_method_13_code 90 = .ok (.istore_n 1, 1) := by decide +kernel
theorem d_M_plainBody_91 : decode prog_7_method_13_code 91 = .ok (.iload_n 1, 1) := by decide +kernel
theorem d_M_plainBody_92 : decode prog_7_method_13_code 92 = .ok (.aload_n 0, 1) := by decide +kernel
theorem d_M_plainBody_93 : decode prog_7_method_13_code 93 = .ok (.getfield 46, 3) := by decide +kernel
theorem d_M_plainBody_96 : decode prog_7_method_13_code 96 = .ok (.iconst 2, 1) := by decide +kernel
theorem d_M_plainBody_97 : decode prog_7_method_13_code 97 = .ok (.iaload, 1) := by decide +kernel
theorem d_M_plainBody_98 : decode prog_7_method_13_code 98 = .ok (.if_icmp .ge 34, 3) := by decide +kernel
theorem d_M_plainBody_101 : decode prog_7_method_13_code 101 = .ok (.aload_n 0, 1) := by decide +kernel
theorem d_M_plainBody_102 : decode prog_7_method_13_code 102 = .ok (.getfield 105, 3) := by decide +kernel
theorem d_M_plainBody_105 : decode prog_7_method_13_code 105 = .ok (.iconst (-1), 1) := by decide +kernel
theorem d_M_plainBody_106 : decode prog_7_method_13_code 106 = .ok (.if_icmp .ne 26, 3) := by decide +kernel
theorem d_M_plainBody_109 : decode prog_7_method_13_code 109 = .ok (.aload_n 0, 1) := by decide +kernel
theorem d_M_plainBody_110 : decode prog_7_method_13_code 110 = .ok (.getfield 61, 3) := by decide +kernel
theorem d_M_plainBody_113 : decode prog_7_method_13_code 113 = .ok (.iload_n 1, 1) := by decide +kernel
theorem d_M_plainBody_114 : decode prog_7_method_13_code 114 = .ok (.aload_n 0, 1) := by decide +kernel
theorem d_M_plainBody_115 : decode prog_7_method_13_code 115 = .ok (.iconst 1, 1) := by decide +kernel
theorem d_M_plainBody_116 : decode prog_7_method_13_code 116 = .ok (.invokevirtual 135, 3) := by decide +kernel
theorem d_M_plainBody_119 : decode prog_7_method_13_code 119 = .ok (.iastore, 1) := by decide +kernel
theorem d_M_plainBody_120 : decode prog_7_method_13_code 120 = .ok (.aload_n 0, 1) := by decide +kernel
theorem d_M_plainBody_121 : decode prog_7_method_13_code 121 = .ok (.bipush 10, 2) := by decide +kernel
theorem d_M_plainBody_123 : decode prog_7_method_13_code 123 = .ok (.invokevirtual 139, 3) := by decide +kernel
theorem d_M_plainBody_126 : decode prog_7_method_13_code 126 = .ok (.iinc 1 1, 3) := by decide +kernel
theorem d_M_plainBody_129 : decode prog_7_method_13_code 129 = .ok (.goto (-38), 3) := by decide +kernel
theorem d_M_plainBody_132 : decode prog_7_method_13_code 132 = .ok (.iconst 0, 1) := by decide +kernel
theorem d_M_plainBody_133 : decode prog_7_method_13_code 133 = .ok (.istore_n 1, 1) := by decide +kernel
theorem d_M_plainBody_134 : decode prog_7_method_13_code 134 = .ok (.iload_n 1, 1) := by decide +kernel
theorem d_M_plainBody_135 : decode prog_7_method_13_code 135 = .ok (.aload_n 0, 1) := by decide +kernel
theorem d_M_plainBody_136 : decode prog_7_method_13_code 136 = .ok (.getfield 46, 3) := by decide +kernel
theorem d_M_plainBody_139 : decode prog_7_method_13_code 139 = .ok (.iconst 3, 1) := by decide +kernel
theorem d_M_plainBody_140 : decode prog_7_method_13_code 140 = .ok (.iaload, 1) := by decide +kernel
theorem d_M_plainBody_141 : decode prog_7_method_13_code 141 = .ok (.if_icmp .ge 77, 3) := by decide +kernel
theorem d_M_plainBody_144 : decode prog_7_method_13_code 144 = .ok (.aload_n 0, 1) := by decide +kernel
theorem d_M_plainBody_145 : decode prog_7_method_13_code 145 = .ok (.getfield 105, 3) := by decide +kernel
theorem d_M_plainBody_148 : decode prog_7_method_13_code 148 = .ok (.iconst (-1), 1) := by decide +kernel
theorem d_M_plainBody_149 : decode prog_7_method_13_code 149 = .ok (.if_icmp .ne 69, 3) := by decide +kernel
theorem d_M_plainBody_152 : decode prog_7_method_13_code 152 = .ok (.aload_n 0, 1) := by decide +kernel
theorem d_M_plainBody_153 : decode prog_7_method_13_code 153 = .ok (.getfield 64, 3) := by decide +kernel
theorem d_M_plainBody_156 : decode prog_7_method_13_code 156 = .ok (.iload_n 1, 1) := by decide +kernel
theorem d_M_plainBody_157 : decode prog_7_method_13_code 157 = .ok (.aload_n 0, 1) := by decide +kernel
theorem d_M_plainBody_158 : decode prog_7_method_13_code 158 = .ok (.invokevirtual 142, 3) := by decide +kernel
theorem d_M_plainBody_161 : decode prog_7_method_13_code 161 = .ok (.iastore, 1) := by decide +kernel
theorem d_M_plainBody_162 : decode prog_7_method_13_code 162 = .ok (.aload_n 0, 1) := by decide +kernel
theorem d_M_plainBody_163 : decode prog_7_method_13_code 163 = .ok (.getfield 73, 3) := by decide +kernel
theorem d_M_plainBody_166 : decode prog_7_method_13_code 166 = .ok (.iload_n 1, 1) := by decide +kernel
theorem d_M_plainBody_167 : decode prog_7_method_13_code 167 = .ok (.aload_n 0, 1) := by decide +kernel
theorem d_M_plainBody_168 : decode prog_7_method_13_code 168 = .ok (.getfield 119, 3) := by decide +kernel
theorem d_M_plainBody_171 : decode prog_7_method_13_code 171 = .ok (.iastore, 1) := by decide +kernel
theorem d_M_plainBody_172 : decode prog_7_method_13_code 172 = .ok (.aload_n 0, 1) := by decide +kernel
theorem d_M_plainBody_173 : decode prog_7_method_13_code 173 = .ok (.bipush 32, 2) := by decide +kernel
theorem d_M_plainBody_175 : decode prog_7_method_13_code 175 = .ok (.invokevirtual 139, 3) := by decide +kernel
theorem d_M_plainBody_178 : decode prog_7_method_13_code 178 = .ok (.aload_n 0, 1) := by decide +kernel
theorem d_M_plainBody_179 : decode prog_7_method_13_code 179 = .ok (.getfield 67, 3) := by decide +kernel
theorem d_M_plainBody_182 : decode prog_7_method_13_code 182 = .ok (.iload_n 1, 1) := by decide +kernel
theorem d_M_plainBody_183 : decode prog_7_method_13_code 183 = .ok (.aload_n 0, 1) := by decide +kernel
theorem d_M_plainBody_184 : decode prog_7_method_13_code 184 = .ok (.iconst 1, 1) := by decide +kernel
theorem d_M_plainBody_185 : decode prog_7_method_13_code 185 = .ok (.invokevirtual 135, 3) := by decide +kernel
theorem d_M_plainBody_188 : decode prog_7_method_13_code 188 = .ok (.iastore, 1) := by decide +kernel
theorem d_M_plainBody_189 : decode prog_7_method_13_code 189 = .ok (.aload_n 0, 1) := by decide +kernel
theorem d_M_plainBody_190 : decode prog_7_method_13_code 190 = .ok (.bipush 32, 2) := by decide +kernel
theorem d_M_plainBody_192 : decode prog_7_method_13_code 192 = .ok (.invokevirtual 139, 3) := by decide +kernel
theorem d_M_plainBody_195 : decode prog_7_method_13_code 195 = .ok (.aload_n 0, 1) := by decide +kernel
theorem d_M_plainBody_196 : decode prog_7_method_13_code 196 = .ok (.getfield 70, 3) := by decide +kernel
theorem d_M_plainBody_199 : decode prog_7_method_13_code 199 = .ok (.iload_n 1, 1) := by decide +kernel
theorem d_M_plainBody_200 : decode prog_7_method_13_code 200 = .ok (.aload_n 0, 1) := by decide +kernel
theorem d_M_plainBody_201 : decode prog_7_method_13_code 201 = .ok (.iconst 1, 1) := by decide +kernel
theorem d_M_plainBody_202 : decode prog_7_method_13_code 202 = .ok (.invokevirtual 135, 3) := by decide +kernel
theorem d_M_plainBody_205 : decode prog_7_method_13_code 205 = .ok (.iastore, 1) := by decide +kernel
theorem d_M_plainBody_206 : decode prog_7_method_13_code 206 = .ok (.aload_n 0, 1) := by decide +kernel
theorem d_M_plainBody_207 : decode prog_7_method_13_code 207 = .ok (.bipush 10, 2) := by decide +kernel
theorem d_M_plainBody_209 : decode prog_7_method_13_code 209 = .ok (.invokevirtual 139, 3) := by decide +kernel
theorem d_M_plainBody_212 : decode prog_7_method_13_code 212 = .ok (.iinc 1 1, 3) := by decide +kernel
theorem d_M_plainBody_215 : decode prog_7_method_13_code 215 = .ok (.goto (-81), 3) := by decide +kernel
theorem d_M_plainBody_218 : decode prog_7_method_13_code 218 = .ok (.return_, 1) := by decide +kernel
theorem d_M_difference_0 : decode prog_7_method_14_code 0 = .ok (.aload_n 0, 1) := by decide +kernel
theorem d_M_difference_1 : decode prog_7_method_14_code 1 = .ok (.getfield 105, 3) := by decide +kernel
theorem d_M_difference_4 : decode prog_7_method_14_code 4 = .ok (.iconst (-1), 1) := by decide +kernel
theorem d_M_difference_5 : decode prog_7_method_14_code 5 = .ok (.if_icmp .eq 5, 3) := by decide +kernel
theorem d_M_difference_8 : decode prog_7_method_14_code 8 = .ok (.iconst 0, 1) := by decide +kernel
theorem d_M_difference_9 : decode prog_7_method_14_code 9 = .ok (.ireturn, 1) := by decide +kernel
theorem d_M_difference_10 : decode prog_7_method_14_code 10 = .ok (.aload_n 0, 1) := by decide +kernel
theorem d_M_difference_11 : decode prog_7_method_14_code 11 = .ok (.getfield 108, 3) := by decide +kernel
theorem d_M_difference_14 : decode prog_7_method_14_code 14 = .ok (.istore_n 3, 1) := by decide +kernel
theorem d_M_difference_15 : decode prog_7_method_14_code 15 = .ok (.aload_n 0, 1) := by decide +kernel
theorem d_M_difference_16 : decode prog_7_method_14_code 16 = .ok (.aload_n 0, 1) := by decide +kernel
theorem d_M_difference_17 : decode prog_7_method_14_code 17 = .ok (.getfield 108, 3) := by decide +kernel
theorem d_M_difference_20 : decode prog_7_method_14_code 20 = .ok (.invokevirtual 111, 3) := by decide +kernel
theorem d_M_difference_23 : decode prog_7_method_14_code 23 = .ok (.istore 4, 2) := by decide +kernel
theorem d_M_difference_25 : decode prog_7_method_14_code 25 = .ok (.iload 4, 2) := by decide +kernel
theorem d_M_difference_27 : decode prog_7_method_14_code 27 = .ok (.iconst (-1), 1) := by decide +kernel
theorem d_M_difference_28 : decode prog_7_method_14_code 28 = .ok (.if_icmp .ne 13, 3) := by decide +kernel
theorem d_M_difference_31 : decode prog_7_method_14_code 31 = .ok (.aload_n 0, 1) := by decide +kernel
theorem d_M_difference_32 : decode prog_7_method_14_code 32 = .ok (.aload_n 0, 1) := by decide +kernel
theorem d_M_difference_33 : decode prog_7_method_14_code 33 = .ok (.getfield 108, 3) := by decide +kernel
theorem d_M_difference_36 : decode prog_7_method_14_code 36 = .ok (.invokevirtual 115, 3) := by decide +kernel
theorem d_M_difference_39 : decode prog_7_method_14_code 39 = .ok (.iconst 0, 1) := by decide +kernel
theorem d_M_difference_40 : decode prog_7_method_14_code 40 = .ok (.ireturn, 1) := by decide +kernel
theorem d_M_difference_41 : decode prog_7_method_14_code 41 = .ok (.aload_n 0, 1) := by decide +kernel
theorem d_M_difference_42 : decode prog_7_method_14_code 42 = .ok (.dup, 1) := by decide +kernel
theorem d_M_difference_43 : decode prog_7_method_14_code 43 = .ok (.getfield 108, 3) := by decide +kernel
theorem d_M_difference_46 : decode prog_7_method_14_code 46 = .ok (.iconst 1, 1) := by decide +kernel
theorem d_M_difference_47 : decode prog_7_method_14_code 47 = .ok (.iadd, 1) := by decide +kernel
theorem d_M_difference_48 : decode prog_7_method_14_code 48 = .ok (.putfield 108, 3) := by decide +kernel
theorem d_M_difference_51 : decode prog_7_method_14_code 51 = .ok (.iload 4, 2) := by decide +kernel
theorem d_M_difference_53 : decode prog_7_method_14_code 53 = .ok (.bipush 127, 2) := by decide +kernel
theorem d_M_difference_55 : decode prog_7_method_14_code 55 = .ok (.iand, 1) := by decide +kernel
theorem d_M_difference_56 : decode prog_7_method_14_code 56 = .ok (.istore 5, 2) := by decide +kernel
theorem d_M_difference_58 : decode prog_7_method_14_code 58 = .ok (.iload 4, 2) := by decide +kernel
theorem d_M_difference_60 : decode prog_7_method_14_code 60 = .ok (.bipush 127, 2) := by decide +kernel
theorem d_M_difference_62 : decode prog_7_method_14_code 62 = .ok (.if_icmp .le 57, 3) := by decide +kernel
theorem d_M_difference_65 : decode prog_7_method_14_code 65 = .ok (.aload_n 0, 1) := by decide +kernel
theorem d_M_difference_66 : decode prog_7_method_14_code 66 = .ok (.aload_n 0, 1) := by decide +kernel
theorem d_M_difference_67 : decode prog_7_method_14_code 67 = .ok (.getfield 108, 3) := by decide +kernel
theorem d_M_difference_70 : decode prog_7_method_14_code 70 = .ok (.invokevirtual 111, 3) := by decide +kernel
theorem d_M_difference_73 : decode prog_7_method_14_code 73 = .ok (.istore 6, 2) := by decide +kernel
theorem d_M_difference_75 : decode prog_7_method_14_code 75 = .ok (.iload 6, 2) := by decide +kernel
theorem d_M_difference_77 : decode prog_7_method_14_code 77 = .ok (.iconst 1, 1) := by decide +kernel
theorem d_M_difference_78 : decode prog_7_method_14_code 78 = .ok (.if_icmp .lt 10, 3) := by decide +kernel
theorem d_M_difference_81 : decode prog_7_method_14_code 81 = .ok (.iload 6, 2) := by decide +kernel
theorem d_M_difference_83 : decode prog_7_method_14_code 83 = .ok (.bipush 127, 2) := by decide +kernel
theorem d_M_difference_85 : decode prog_7_method_14_code 85 = .ok (.if_icmp .le 13, 3) := by decide +kernel
theorem d_M_difference_88 : decode prog_7_method_14_code 88 = .ok (.aload_n 0, 1) := by decide +kernel
theorem d_M_difference_89 : decode prog_7_method_14_code 89 = .ok (.aload_n 0, 1) := by decide +kernel
theorem d_M_difference_90 : decode prog_7_method_14_code 90 = .ok (.getfield 108, 3) := by decide +kernel
theorem d_M_difference_93 : decode prog_7_method_14_code 93 = .ok (.invokevirtual 115, 3) := by decide +kernel
theorem d_M_difference_96 : decode prog_7_method_14_code 96 = .ok (.iconst 0, 1) := by decide +kernel
theorem d_M_difference_97 : decode prog_7_method_14_code 97 = .ok (.ireturn, 1) := by decide +kernel
theorem d_M_difference_98 : decode prog_7_method_14_code 98 = .ok (.iload 5, 2) := by decide +kernel
theorem d_M_difference_100 : decode prog_7_method_14_code 100 = .ok (.sipush 128, 3) := by decide +kernel
theorem d_M_difference_103 : decode prog_7_method_14_code 103 = .ok (.iload 6, 2) := by decide +kernel
theorem d_M_difference_105 : decode prog_7_method_14_code 105 = .ok (.imul, 1) := by decide +kernel
theorem d_M_difference_106 : decode prog_7_method_14_code 106 = .ok (.iadd, 1) := by decide +kernel
theorem d_M_difference_107 : decode prog_7_method_14_code 107 = .ok (.istore 5, 2) := by decide +kernel
theorem d_M_difference_109 : decode prog_7_method_14_code 109 = .ok (.aload_n 0, 1) := by decide +kernel
theorem d_M_difference_110 : decode prog_7_method_14_code 110 = .ok (.dup, 1) := by decide +kernel
theorem d_M_difference_111 : decode prog_7_method_14_code 111 = .ok (.getfield 108, 3) := by decide +kernel
theorem d_M_difference_114 : decode prog_7_method_14_code 114 = .ok (.iconst 1, 1) := by decide +kernel
theorem d_M_difference_115 : decode prog_7_method_14_code 115 = .ok (.iadd, 1) := by decide +kernel
theorem d_M_difference_116 : decode prog_7_method_14_code 116 = .ok (.putfield 108, 3) := by decide +kernel
theorem d_M_difference_119 : decode prog_7_method_14_code 119 = .ok (.iload 5, 2) := by decide +kernel
theorem d_M_difference_121 : decode prog_7_method_14_code 121 = .ok (.iload_n 1, 1) := by decide +kernel
theorem d_M_difference_122 : decode prog_7_method_14_code 122 = .ok (.if_icmp .lt 9, 3) := by decide +kernel
theorem d_M_difference_125 : decode prog_7_method_14_code 125 = .ok (.iload 5, 2) := by decide +kernel
theorem d_M_difference_127 : decode prog_7_method_14_code 127 = .ok (.iload_n 2, 1) := by decide +kernel
theorem d_M_difference_128 : decode prog_7_method_14_code 128 = .ok (.if_icmp .le 8, 3) := by decide +kernel
theorem d_M_difference_131 : decode prog_7_method_14_code 131 = .ok (.aload_n 0, 1) := by decide +kernel
theorem d_M_difference_132 : decode prog_7_method_14_code 132 = .ok (.iload_n 3, 1) := by decide +kernel
theorem d_M_difference_133 : decode prog_7_method_14_code 133 = .ok (.invokevirtual 115, 3) := by decide +kernel
theorem d_M_difference_136 : decode prog_7_method_14_code 136 = .ok (.iload 5, 2) := by decide +kernel
theorem d_M_difference_138 : decode prog_7_method_14_code 138 = .ok (.ireturn, 1) := by decide +kernel
theorem d_M_packedBody_0 : decode prog_7_method_15_code 0 = .ok (.iconst 2, 1) := by decide +kernel
theorem d_M_packedBody_1 : decode prog_7_method_15_code 1 = .ok (.istore_n 1, 1) := by decide +kernel
theorem d_M_packedBody_2 : decode prog_7_method_15_code 2 = .ok (.iconst 0, 1) := by decide +kernel
theorem d_M_packedBody_3 : decode prog_7_method_15_code 3 = .ok (.istore_n 2, 1) := by decide +kernel
theorem d_M_packedBody_4 : decode prog_7_method_15_code 4 = .ok (.iload_n 2, 1) := by decide +kernel
theorem d_M_packedBody_5 : decode prog_7_method_15_code 5 = .ok (.aload_n 0, 1) := by decide +kernel
theorem d_M_packedBody_6 : decode prog_7_method_15_code 6 = .ok (.getfield 46, 3) := by decide +kernel
theorem d_M_packedBody_9 : decode prog_7_method_15_code 9 = .ok (.iconst 0, 1) := by decide +kernel
theorem d_M_packedBody_10 : decode prog_7_method_15_code 10 = .ok (.iaload, 1) := by decide +kernel
theorem d_M_packedBody_11 : decode prog_7_method_15_code 11 = .ok (.if_icmp .ge 19, 3) := by decide +kernel
theorem d_M_packedBody_14 : decode prog_7_method_15_code 14 = .ok (.aload_n 0, 1) := by decide +kernel
theorem d_M_packedBody_15 : decode prog_7_method_15_code 15 = .ok (.getfield 49, 3) := by decide +kernel
theorem d_M_packedBody_18 : decode prog_7_method_15_code 18 = .ok (.iload_n 2, 1) := by decide +kernel
theorem d_M_packedBody_19 : decode prog_7_method_15_code 19 = .ok (.iload_n 1, 1) := by decide +kernel
theorem d_M_packedBody_20 : decode prog_7_method_15_code 20 = .ok (.iastore, 1) := by decide +kernel
theorem d_M_packedBody_21 : decode prog_7_method_15_code 21 = .ok (.iinc 1 2, 3) := by decide +kernel
theorem d_M_packedBody_24 : decode prog_7_method_15_code 24 = .ok (.iinc 2 1, 3) := by decide +kernel
theorem d_M_packedBody_27 : decode prog_7_method_15_code 27 = .ok (.goto (-23), 3) := by decide +kernel
theorem d_M_packedBody_30 : decode prog_7_method_15_code 30 = .ok (.iconst 0, 1) := by decide +kernel
theorem d_M_packedBody_31 : decode prog_7_method_15_code 31 = .ok (.istore_n 2, 1) := by decide +kernel
theorem d_M_packedBody_32 : decode prog_7_method_15_code 32 = .ok (.iload_n 2, 1) := by decide +kernel
theorem d_M_packedBody_33 : decode prog_7_method_15_code 33 = .ok (.aload_n 0, 1) := by decide +kernel
theorem d_M_packedBody_34 : decode prog_7_method_15_code 34 = .ok (.getfield 46, 3) := by decide +kernel
theorem d_M_packedBody_37 : decode prog_7_method_15_code 37 = .ok (.iconst 1, 1) := by decide +kernel
theorem d_M_packedBody_38 : decode prog_7_method_15_code 38 = .ok (.iaload, 1) := by decide +kernel
theorem d_M_packedBody_39 : decode prog_7_method_15_code 39 = .ok (.if_icmp .ge 32, 3) := by decide +kernel
theorem d_M_packedBody_42 : decode prog_7_method_15_code 42 = .ok (.aload_n 0, 1) := by decide +kernel
theorem d_M_packedBody_43 : decode prog_7_method_15_code 43 = .ok (.getfield 105, 3) := by decide +kernel
theorem d_M_packedBody_46 : decode prog_7_method_15_code 46 = .ok (.iconst (-1), 1) := by decide +kernel
theorem d_M_packedBody_47 : decode prog_7_method_15_code 47 = .ok (.if_icmp .ne 24, 3) := by decide +kernel
theorem d_M_packedBody_50 : decode prog_7_method_15_code 50 = .ok (.aload_n 0, 1) := by decide +kernel
theorem d_M_packedBody_51 : decode prog_7_method_15_code 51 = .ok (.getfield 52, 3) := by decide +kernel
theorem d_M_packedBody_54 : decode prog_7_method_15_code 54 = .ok (.iload_n 2, 1) := by decide +kernel
theorem d_M_packedBody_55 : decode prog_7_method_15_code 55 = .ok (.iload_n 1, 1) := by decide +kernel
theorem d_M_packedBody_56 : decode prog_7_method_15_code 56 = .ok (.iastore, 1) := by decide +kernel
theorem d_M_packedBody_57 : decode prog_7_method_15_code 57 = .ok (.iinc 1 2, 3) := by decide +kernel
theorem d_M_packedBody_60 : decode prog_7_method_15_code 60 = .ok (.aload_n 0, 1) := by decide +kernel
theorem d_M_packedBody_61 : decode prog_7_method_15_code 61 = .ok (.iload_n 2, 1) := by decide +kernel
theorem d_M_packedBody_62 : decode prog_7_method_15_code 62 = .ok (.invokevirtual 146, 3) := by decide +kernel
theorem d_M_packedBody_65 : decode prog_7_method_15_code 65 = .ok (.iinc 2 1, 3) := by decide +kernel
theorem d_M_packedBody_68 : decode prog_7_method_15_code 68 = .ok (.goto (-36), 3) := by decide +kernel
theorem d_M_packedBody_71 : decode prog_7_method_15_code 71 = .ok (.iconst 0, 1) := by decide +kernel
theorem d_M_packedBody_72 : decode prog_7_method_15_code 72 = .ok (.istore_n 2, 1) := by decide +kernel
theorem d_M_packedBody_73 : decode prog_7_method_15_code 73 = .ok (.iload_n 2, 1) := by decide +kernel
theorem d_M_packedBody_74 : decode prog_7_method_15_code 74 = .ok (.aload_n 0, 1) := by decide +kernel
theorem d_M_packedBody_75 : decode prog_7_method_15_code 75 = .ok (.getfield 46, 3) := by decide +kernel
theorem d_M_packedBody_78 : decode prog_7_method_15_code 78 = .ok (.iconst 2, 1) := by decide +kernel
theorem d_M_packedBody_79 : decode prog_7_method_15_code 79 = .ok (.iaload, 1) := by decide +kernel
theorem d_M_packedBody_80 : decode prog_7_method_15_code 80 = .ok (.if_icmp .ge 34, 3) := by decide +kernel
theorem d_M_packedBody_83 : decode prog_7_method_15_code 83 = .ok (.aload_n 0, 1) := by decide +kernel
theorem d_M_packedBody_84 : decode prog_7_method_15_code 84 = .ok (.getfield 105, 3) := by decide +kernel
theorem d_M_packedBody_87 : decode prog_7_method_15_code 87 = .ok (.iconst (-1), 1) := by decide +kernel
theorem d_M_packedBody_88 : decode prog_7_method_15_code 88 = .ok (.if_icmp .ne 26, 3) := by decide +kernel
theorem d_M_packedBody_91 : decode prog_7_method_15_code 91 = .ok (.aload_n 0, 1) := by decide +kernel
theorem d_M_packedBody_92 : decode prog_7_method_15_code 92 = .ok (.getfield 61, 3) := by decide +kernel
theorem d_M_packedBody_95 : decode prog_7_method_15_code 95 = .ok (.iload_n 2, 1) := by decide +kernel
theorem d_M_packedBody_96 : decode prog_7_method_15_code 96 = .ok (.aload_n 0, 1) := by decide +kernel
theorem d_M_packedBody_97 : decode prog_7_method_15_code 97 = .ok (.iconst 1, 1) := by decide +kernel
theorem d_M_packedBody_98 : decode prog_7_method_15_code 98 = .ok (.invokevirtual 135, 3) := by decide +kernel
theorem d_M_packedBody_101 : decode prog_7_method_15_code 101 = .ok (.iastore, 1) := by decide +kernel
theorem d_M_packedBody_102 : decode prog_7_method_15_code 102 = .ok (.aload_n 0, 1) := by decide +kernel
theorem d_M_packedBody_103 : decode prog_7_method_15_code 103 = .ok (.bipush 10, 2) := by decide +kernel
theorem d_M_packedBody_105 : decode prog_7_method_15_code 105 = .ok (.invokevirtual 139, 3) := by decide +kernel
theorem d_M_packedBody_108 : decode prog_7_method_15_code 108 = .ok (.iinc 2 1, 3) := by decide +kernel
theorem d_M_packedBody_111 : decode prog_7_method_15_code 111 = .ok (.goto (-38), 3) := by decide +kernel
theorem d_M_packedBody_114 : decode prog_7_method_15_code 114 = .ok (.iconst 0, 1) := by decide +kernel
theorem d_M_packedBody_115 : decode prog_7_method_15_code 115 = .ok (.istore_n 2, 1) := by decide +kernel
theorem d_M_packedBody_116 : decode prog_7_method_15_code 116 = .ok (.iload_n 2, 1) := by decide +kernel
theorem d_M_packedBody_117 : decode prog_7_method_15_code 117 = .ok (.aload_n 0, 1) := by decide +kernel
theorem d_M_packedBody_118 : decode prog_7_method_15_code 118 = .ok (.getfield 46, 3) := by decide +kernel
theorem d_M_packedBody_121 : decode prog_7_method_15_code 121 = .ok (.iconst 3, 1) := by decide +kernel
theorem d_M_packedBody_122 : decode prog_7_method_15_code 122 = .ok (.iaload, 1) := by decide +kernel
theorem d_M_packedBody_123 : decode prog_7_method_15_code 123 = .ok (.if_icmp .ge 65, 3) := by decide +kernel
theorem d_M_packedBody_126 : decode prog_7_method_15_code 126 = .ok (.aload_n 0, 1) := by decide +kernel
theorem d_M_packedBody_127 : decode prog_7_method_15_code 127 = .ok (.getfield 105, 3) := by decide +kernel
theorem d_M_packedBody_130 : decode prog_7_method_15_code 130 = .ok (.iconst (-1), 1) := by decide +kernel
theorem d_M_packedBody_131 : decode prog_7_method_15_code 131 = .ok (.if_icmp .ne 57, 3) := by decide +kernel
theorem d_M_packedBody_134 : decode prog_7_method_15_code 134 = .ok (.aload_n 0, 1) := by decide +kernel
theorem d_M_packedBody_135 : decode prog_7_method_15_code 135 = .ok (.getfield 64, 3) := by decide +kernel
theorem d_M_packedBody_138 : decode prog_7_method_15_code 138 = .ok (.iload_n 2, 1) := by decide +kernel
theorem d_M_packedBody_139 : decode prog_7_method_15_code 139 = .ok (.iload_n 1, 1) := by decide +kernel
theorem d_M_packedBody_140 : decode prog_7_method_15_code 140 = .ok (.iastore, 1) := by decide +kernel
theorem d_M_packedBody_141 : decode prog_7_method_15_code 141 = .ok (.aload_n 0, 1) := by decide +kernel
theorem d_M_packedBody_142 : decode prog_7_method_15_code 142 = .ok (.getfield 67, 3) := by decide +kernel
theorem d_M_packedBody_145 : decode prog_7_method_15_code 145 = .ok (.iload_n 2, 1) := by decide +kernel
theorem d_M_packedBody_146 : decode prog_7_method_15_code 146 = .ok (.iload_n 1, 1) := by decide +kernel
theorem d_M_packedBody_147 : decode prog_7_method_15_code 147 = .ok (.aload_n 0, 1) := by decide +kernel
theorem d_M_packedBody_148 : decode prog_7_method_15_code 148 = .ok (.iconst 1, 1) := by decide +kernel
theorem d_M_packedBody_149 : decode prog_7_method_15_code 149 = .ok (.iload_n 1, 1) := by decide +kernel
theorem d_M_packedBody_150 : decode prog_7_method_15_code 150 = .ok (.invokevirtual 149, 3) := by decide +kernel
theorem d_M_packedBody_153 : decode prog_7_method_15_code 153 = .ok (.isub, 1) := by decide +kernel
theorem d_M_packedBody_154 : decode prog_7_method_15_code 154 = .ok (.iastore, 1) := by decide +kernel
theorem d_M_packedBody_155 : decode prog_7_method_15_code 155 = .ok (.aload_n 0, 1) := by decide +kernel
theorem d_M_packedBody_156 : decode prog_7_method_15_code 156 = .ok (.getfield 70, 3) := by decide +kernel
theorem d_M_packedBody_159 : decode prog_7_method_15_code 159 = .ok (.iload_n 2, 1) := by decide +kernel
theorem d_M_packedBody_160 : decode prog_7_method_15_code 160 = .ok (.aload_n 0, 1) := by decide +kernel
theorem d_M_packedBody_161 : decode prog_7_method_15_code 161 = .ok (.getfield 67, 3) := by decide +kernel
theorem d_M_packedBody_164 : decode prog_7_method_15_code 164 = .ok (.iload_n 2, 1) := by decide +kernel
theorem d_M_packedBody_165 : decode prog_7_method_15_code 165 = .ok (.iaload, 1) := by decide +kernel
theorem d_M_packedBody_166 : decode prog_7_method_15_code 166 = .ok (.aload_n 0, 1) := by decide +kernel
theorem d_M_packedBody_167 : decode prog_7_method_15_code 167 = .ok (.iconst 0, 1) := by decide +kernel
theorem d_M_packedBody_168 : decode prog_7_method_15_code 168 = .ok (.aload_n 0, 1) := by decide +kernel
theorem d_M_packedBody_169 : decode prog_7_method_15_code 169 = .ok (.getfield 67, 3) := by decide +kernel
theorem d_M_packedBody_172 : decode prog_7_method_15_code 172 = .ok (.iload_n 2, 1) := by decide +kernel
theorem d_M_packedBody_173 : decode prog_7_method_15_code 173 = .ok (.iaload, 1) := by decide +kernel
theorem d_M_packedBody_174 : decode prog_7_method_15_code 174 = .ok (.invokevirtual 149, 3) := by decide +kernel
theorem d_M_packedBody_177 : decode prog_7_method_15_code 177 = .ok (.isub, 1) := by decide +kernel
theorem d_M_packedBody_178 : decode prog_7_method_15_code 178 = .ok (.iastore, 1) := by decide +kernel
theorem d_M_packedBody_179 : decode prog_7_method_15_code 179 = .ok (.iinc 1 2, 3) := by decide +kernel
theorem d_M_packedBody_182 : decode prog_7_method_15_code 182 = .ok (.iinc 2 1, 3) := by decide +kernel
theorem d_M_packedBody_185 : decode prog_7_method_15_code 185 = .ok (.goto (-69), 3) := by decide +kernel
theorem d_M_packedBody_188 : decode prog_7_method_15_code 188 = .ok (.return_, 1) := by decide +kernel
theorem d_M_gateOf_0 : decode prog_7_method_16_code 0 = .ok (.iconst 0, 1) := by decide +kernel
theorem d_M_gateOf_1 : decode prog_7_method_16_code 1 = .ok (.istore_n 2, 1) := by decide +kernel
theorem d_M_gateOf_2 : decode prog_7_method_16_code 2 = .ok (.iload_n 2, 1) := by decide +kernel
theorem d_M_gateOf_3 : decode prog_7_method_16_code 3 = .ok (.aload_n 0, 1) := by decide +kernel
theorem d_M_gateOf_4 : decode prog_7_method_16_code 4 = .ok (.getfield 46, 3) := by decide +kernel
theorem d_M_gateOf_7 : decode prog_7_method_16_code 7 = .ok (.iconst 3, 1) := by decide +kernel
theorem d_M_gateOf_8 : decode prog_7_method_16_code 8 = .ok (.iaload, 1) := by decide +kernel
theorem d_M_gateOf_9 : decode prog_7_method_16_code 9 = .ok (.if_icmp .ge 23, 3) := by decide +kernel
theorem d_M_gateOf_12 : decode prog_7_method_16_code 12 = .ok (.aload_n 0, 1) := by decide +kernel
theorem d_M_gateOf_13 : decode prog_7_method_16_code 13 = .ok (.getfield 64, 3) := by decide +kernel
theorem d_M_gateOf_16 : decode prog_7_method_16_code 16 = .ok (.iload_n 2, 1) := by decide +kernel
theorem d_M_gateOf_17 : decode prog_7_method_16_code 17 = .ok (.iaload, 1) := by decide +kernel
theorem d_M_gateOf_18 : decode prog_7_method_16_code 18 = .ok (.iconst 2, 1) := by decide +kernel
theorem d_M_gateOf_19 : decode prog_7_method_16_code 19 = .ok (.idiv, 1) := by decide +kernel
theorem d_M_gateOf_20 : decode prog_7_method_16_code 20 = .ok (.iload_n 1, 1) := by decide +kernel
theorem d_M_gateOf_21 : decode prog_7_method_16_code 21 = .ok (.if_icmp .ne 5, 3) := by decide +kernel
theorem d_M_gateOf_24 : decode prog_7_method_16_code 24 = .ok (.iload_n 2, 1) := by decide +kernel
theorem d_M_gateOf_25 : decode prog_7_method_16_code 25 = .ok (.ireturn, 1) := by decide +kernel
theorem d_M_gateOf_26 : decode prog_7_method_16_code 26 = .ok (.iinc 2 1, 3) := by decide +kernel
theorem d_M_gateOf_29 : decode prog_7_method_16_code 29 = .ok (.goto (-27), 3) := by decide +kernel
theorem d_M_gateOf_32 : decode prog_7_method_16_code 32 = .ok (.iconst (-1), 1) := by decide +kernel
theorem d_M_gateOf_33 : decode prog_7_method_16_code 33 = .ok (.ireturn, 1) := by decide +kernel
theorem d_M_findUndefined_0 : decode prog_7_method_17_code 0 = .ok (.iconst 0, 1) := by decide +kernel
theorem d_M_findUndefined_1 : decode prog_7_method_17_code 1 = .ok (.istore_n 1, 1) := by decide +kernel
theorem d_M_findUndefined_2 : decode prog_7_method_17_code 2 = .ok (.iload_n 1, 1) := by decide +kernel
theorem d_M_findUndefined_3 : decode prog_7_method_17_code 3 = .ok (.aload_n 0, 1) := by decide +kernel
theorem d_M_findUndefined_4 : decode prog_7_method_17_code 4 = .ok (.getfield 132, 3) := by decide +kernel
theorem d_M_findUndefined_7 : decode prog_7_method_17_code 7 = .ok (.if_icmp .ge 45, 3) := by decide +kernel
theorem d_M_findUndefined_10 : decode prog_7_method_17_code 10 = .ok (.aload_n 0, 1) := by decide +kernel
theorem d_M_findUndefined_11 : decode prog_7_method_17_code 11 = .ok (.getfield 80, 3) := by decide +kernel
theorem d_M_findUndefined_14 : decode prog_7_method_17_code 14 = .ok (.iload_n 1, 1) := by decide +kernel
theorem d_M_findUndefined_15 : decode prog_7_method_17_code 15 = .ok (.iaload, 1) := by decide +kernel
theorem d_M_findUndefined_16 : decode prog_7_method_17_code 16 = .ok (.iconst 1, 1) := by decide +kernel
theorem d_M_findUndefined_17 : decode prog_7_method_17_code 17 = .ok (.if_icmp .le 29, 3) := by decide +kernel
theorem d_M_findUndefined_20 : decode prog_7_method_17_code 20 = .ok (.aload_n 0, 1) := by decide +kernel
theorem d_M_findUndefined_21 : decode prog_7_method_17_code 21 = .ok (.getfield 76, 3) := by decide +kernel
theorem d_M_findUndefined_24 : decode prog_7_method_17_code 24 = .ok (.aload_n 0, 1) := by decide +kernel
theorem d_M_findUndefined_25 : decode prog_7_method_17_code 25 = .ok (.getfield 80, 3) := by decide +kernel
theorem d_M_findUndefined_28 : decode prog_7_method_17_code 28 = .ok (.iload_n 1, 1) := by decide +kernel
theorem d_M_findUndefined_29 : decode prog_7_method_17_code 29 = .ok (.iaload, 1) := by decide +kernel
theorem d_M_findUndefined_30 : decode prog_7_method_17_code 30 = .ok (.iconst 2, 1) := by decide +kernel
theorem d_M_findUndefined_31 : decode prog_7_method_17_code 31 = .ok (.idiv, 1) := by decide +kernel
theorem d_M_findUndefined_32 : decode prog_7_method_17_code 32 = .ok (.baload, 1) := by decide +kernel
theorem d_M_findUndefined_33 : decode prog_7_method_17_code 33 = .ok (.ifCond .ne 13, 3) := by decide +kernel
theorem d_M_findUndefined_36 : decode prog_7_method_17_code 36 = .ok (.aload_n 0, 1) := by decide +kernel
theorem d_M_findUndefined_37 : decode prog_7_method_17_code 37 = .ok (.aload_n 0, 1) := by decide +kernel
theorem d_M_findUndefined_38 : decode prog_7_method_17_code 38 = .ok (.getfield 83, 3) := by decide +kernel
theorem d_M_findUndefined_41 : decode prog_7_method_17_code 41 = .ok (.iload_n 1, 1) := by decide +kernel
theorem d_M_findUndefined_42 : decode prog_7_method_17_code 42 = .ok (.iaload, 1) := by decide +kernel
theorem d_M_findUndefined_43 : decode prog_7_method_17_code 43 = .ok (.invokevirtual 115, 3) := by decide +kernel
theorem d_M_findUndefined_46 : decode prog_7_method_17_code 46 = .ok (.iinc 1 1, 3) := by decide +kernel
theorem d_M_findUndefined_49 : decode prog_7_method_17_code 49 = .ok (.goto (-47), 3) := by decide +kernel
theorem d_M_findUndefined_52 : decode prog_7_method_17_code 52 = .ok (.return_, 1) := by decide +kernel
theorem d_M_findResting_0 : decode prog_7_method_18_code 0 = .ok (.aload_n 0, 1) := by decide +kernel
theorem d_M_findResting_1 : decode prog_7_method_18_code 1 = .ok (.getfield 46, 3) := by decide +kernel
theorem d_M_findResting_4 : decode prog_7_method_18_code 4 = .ok (.iconst 3, 1) := by decide +kernel
theorem d_M_findResting_5 : decode prog_7_method_18_code 5 = .ok (.iaload, 1) := by decide +kernel
theorem d_M_findResting_6 : decode prog_7_method_18_code 6 = .ok (.istore_n 1, 1) := by decide +kernel
theorem d_M_findResting_7 : decode prog_7_method_18_code 7 = .ok (.iconst 0, 1) := by decide +kernel
theorem d_M_findResting_8 : decode prog_7_method_18_code 8 = .ok (.istore_n 2, 1) := by decide +kernel
theorem d_M_findResting_9 : decode prog_7_method_18_code 9 = .ok (.iload_n 2, 1) := by decide +kernel
theorem d_M_findResting_10 : decode prog_7_method_18_code 10 = .ok (.sipush 3600, 3) := by decide +kernel
theorem d_M_findResting_13 : decode prog_7_method_18_code 13 = .ok (.if_icmp .ge 16, 3) := by decide +kernel
theorem d_M_findResting_16 : decode prog_7_method_18_code 16 = .ok (.aload_n 0, 1) := by decide +kernel
theorem d_M_findResting_17 : decode prog_7_method_18_code 17 = .ok (.getfield 86, 3) := by decide +kernel
theorem d_M_findResting_20 : decode prog_7_method_18_code 20 = .ok (.iload_n 2, 1) := by decide +kernel
theorem d_M_findResting_21 : decode prog_7_method_18_code 21 = .ok (.iconst 0, 1) := by decide +kernel
theorem d_M_findResting_22 : decode prog_7_method_18_code 22 = .ok (.bastore, 1) := by decide +kernel
theorem d_M_findResting_23 : decode prog_7_method_18_code 23 = .ok (.iinc 2 1, 3) := by decide +kernel
theorem d_M_findResting_26 : decode prog_7_method_18_code 26 = .ok (.goto (-17), 3) := by decide +kernel
theorem d_M_findResting_29 : decode prog_7_method_18_code 29 = .ok (.iconst 0, 1) := by decide +kernel
theorem d_M_findResting_30 : decode prog_7_method_18_code 30 = .ok (.istore_n 2, 1) := by decide +kernel
theorem d_M_findResting_31 : decode prog_7_method_18_code 31 = .ok (.iload_n 2, 1) := by decide +kernel
theorem d_M_findResting_32 : decode prog_7_method_18_code 32 = .ok (.iload_n 1, 1) := by decide +kernel
theorem d_M_findResting_33 : decode prog_7_method_18_code 33 = .ok (.if_icmp .ge 72, 3) := by decide +kernel
theorem d_M_findResting_36 : decode prog_7_method_18_code 36 = .ok (.aload_n 0, 1) := by decide +kernel
theorem d_M_findResting_37 : decode prog_7_method_18_code 37 = .ok (.aload_n 0, 1) := by decide +kernel
theorem d_M_findResting_38 : decode prog_7_method_18_code 38 = .ok (.getfield 67, 3) := by decide +kernel
theorem d_M_findResting_41 : decode prog_7_method_18_code 41 = .ok (.iload_n 2, 1) := by decide +kernel
theorem d_M_findResting_42 : decode prog_7_method_18_code 42 = .ok (.iaload, 1) := by decide +kernel
theorem d_M_findResting_43 : decode prog_7_method_18_code 43 = .ok (.iconst 2, 1) := by decide +kernel
theorem d_M_findResting_44 : decode prog_7_method_18_code 44 = .ok (.idiv, 1) := by decide +kernel
theorem d_M_findResting_45 : decode prog_7_method_18_code 45 = .ok (.invokevirtual 153, 3) := by decide +kernel
theorem d_M_findResting_48 : decode prog_7_method_18_code 48 = .ok (.istore_n 3, 1) := by decide +kernel
theorem d_M_findResting_49 : decode prog_7_method_18_code 49 = .ok (.aload_n 0, 1) := by decide +kernel
theorem d_M_findResting_50 : decode prog_7_method_18_code 50 = .ok (.aload_n 0, 1) := by decide +kernel
theorem d_M_findResting_51 : decode prog_7_method_18_code 51 = .ok (.getfield 70, 3) := by decide +kernel
theorem d_M_findResting_54 : decode prog_7_method_18_code 54 = .ok (.iload_n 2, 1) := by decide +kernel
theorem d_M_findResting_55 : decode prog_7_method_18_code 55 = .ok (.iaload, 1) := by decide +kernel
theorem d_M_findResting_56 : decode prog_7_method_18_code 56 = .ok (.iconst 2, 1) := by decide +kernel
theorem d_M_findResting_57 : decode prog_7_method_18_code 57 = .ok (.idiv, 1) := by decide +kernel
theorem d_M_findResting_58 : decode prog_7_method_18_code 58 = .ok (.invokevirtual 153, 3) := by decide +kernel
theorem d_M_findResting_61 : decode prog_7_method_18_code 61 = .ok (.istore 4, 2) := by decide +kernel
theorem d_M_findResting_63 : decode prog_7_method_18_code 63 = .ok (.iload_n 3, 1) := by decide +kernel
theorem d_M_findResting_64 : decode prog_7_method_18_code 64 = .ok (.iconst (-1), 1) := by decide +kernel
theorem d_M_findResting_65 : decode prog_7_method_18_code 65 = .ok (.if_icmp .eq 15, 3) := by decide +kernel
theorem d_M_findResting_68 : decode prog_7_method_18_code 68 = .ok (.aload_n 0, 1) := by decide +kernel
theorem d_M_findResting_69 : decode prog_7_method_18_code 69 = .ok (.getfield 86, 3) := by decide +kernel
theorem d_M_findResting_72 : decode prog_7_method_18_code 72 = .ok (.bipush 60, 2) := by decide +kernel
theorem d_M_findResting_74 : decode prog_7_method_18_code 74 = .ok (.iload_n 2, 1) := by decide +kernel
theorem d_M_findResting_75 : decode prog_7_method_18_code 75 = .ok (.imul, 1) := by decide +kernel
theorem d_M_findResting_76 : decode prog_7_method_18_code 76 = .ok (.iload_n 3, 1) := by decide +kernel
theorem d_M_findResting_77 : decode prog_7_method_18_code 77 = .ok (.iadd, 1) := by decide +kernel
theorem d_M_findResting_78 : decode prog_7_method_18_code 78 = .ok (.iconst 1, 1) := by decide +kernel
theorem d_M_findResting_79 : decode prog_7_method_18_code 79 = .ok (.bastore, 1) := by decide +kernel
theorem d_M_findResting_80 : decode prog_7_method_18_code 80 = .ok (.iload 4, 2) := by decide +kernel
theorem d_M_findResting_82 : decode prog_7_method_18_code 82 = .ok (.iconst (-1), 1) := by decide +kernel
theorem d_M_findResting_83 : decode prog_7_method_18_code 83 = .ok (.if_icmp .eq 16, 3) := by decide +kernel
theorem d_M_findResting_86 : decode prog_7_method_18_code 86 = .ok (.aload_n 0, 1) := by decide +kernel
theorem d_M_findResting_87 : decode prog_7_method_18_code 87 = .ok (.getfield 86, 3) := by decide +kernel
theorem d_M_findResting_90 : decode prog_7_method_18_code 90 = .ok (.bipush 60, 2) := by decide +kernel
theorem d_M_findResting_92 : decode prog_7_method_18_code 92 = .ok (.iload_n 2, 1) := by decide +kernel
theorem d_M_findResting_93 : decode prog_7_method_18_code 93 = .ok (.imul, 1) := by decide +kernel
theorem d_M_findResting_94 : decode prog_7_method_18_code 94 = .ok (.iload 4, 2) := by decide +kernel
theorem d_M_findResting_96 : decode prog_7_method_18_code 96 = .ok (.iadd, 1) := by decide +kernel
theorem d_M_findResting_97 : decode prog_7_method_18_code 97 = .ok (.iconst 1, 1) := by decide +kernel
theorem d_M_findResting_98 : decode prog_7_method_18_code 98 = .ok (.bastore, 1) := by decide +kernel
theorem d_M_findResting_99 : decode prog_7_method_18_code 99 = .ok (.iinc 2 1, 3) := by decide +kernel
theorem d_M_findResting_102 : decode prog_7_method_18_code 102 = .ok (.goto (-71), 3) := by decide +kernel
theorem d_M_findResting_105 : decode prog_7_method_18_code 105 = .ok (.iconst 0, 1) := by decide +kernel
theorem d_M_findResting_106 : decode prog_7_method_18_code 106 = .ok (.istore_n 2, 1) := by decide +kernel
theorem d_M_findResting_107 : decode prog_7_method_18_code 107 = .ok (.iload_n 2, 1) := by decide +kernel
theorem d_M_findResting_108 : decode prog_7_method_18_code 108 = .ok (.iload_n 1, 1) := by decide +kernel
theorem d_M_findResting_109 : decode prog_7_method_18_code 109 = .ok (.if_icmp .ge 98, 3) := by decide +kernel
theorem d_M_findResting_112 : decode prog_7_method_18_code 112 = .ok (.iconst 0, 1) := by decide +kernel
theorem d_M_findResting_113 : decode prog_7_method_18_code 113 = .ok (.istore_n 3, 1) := by decide +kernel
theorem d_M_findResting_114 : decode prog_7_method_18_code 114 = .ok (.iload_n 3, 1) := by decide +kernel
theorem d_M_findResting_115 : decode prog_7_method_18_code 115 = .ok (.iload_n 1, 1) := by decide +kernel
theorem d_M_findResting_116 : decode prog_7_method_18_code 116 = .ok (.if_icmp .ge 85, 3) := by decide +kernel
theorem d_M_findResting_119 : decode prog_7_method_18_code 119 = .ok (.iconst 0, 1) := by decide +kernel
theorem d_M_findResting_120 : decode prog_7_method_18_code 120 = .ok (.istore 4, 2) := by decide +kernel
theorem d_M_findResting_122 : decode prog_7_method_18_code 122 = .ok (.iload 4, 2) := by decide +kernel
theorem d_M_findResting_124 : decode prog_7_method_18_code 124 = .ok (.iload_n 1, 1) := by decide +kernel
theorem d_M_findResting_125 : decode prog_7_method_18_code 125 = .ok (.if_icmp .ge 70, 3) := by decide +kernel
theorem d_M_findResting_128 : decode prog_7_method_18_code 128 = .ok (.aload_n 0, 1) := by decide +kernel
theorem d_M_findResting_129 : decode prog_7_method_18_code 129 = .ok (.getfield 86, 3) := by decide +kernel
theorem d_M_findResting_132 : decode prog_7_method_18_code 132 = .ok (.bipush 60, 2) := by decide +kernel
theorem d_M_findResting_134 : decode prog_7_method_18_code 134 = .ok (.iload_n 3, 1) := by decide +kernel
theorem d_M_findResting_135 : decode prog_7_method_18_code 135 = .ok (.imul, 1) := by decide +kernel
theorem d_M_findResting_136 : decode prog_7_method_18_code 136 = .ok (.iload 4, 2) := by decide +kernel
theorem d_M_findResting_138 : decode prog_7_method_18_code 138 = .ok (.iadd, 1) := by decide +kernel
theorem d_M_findResting_139 : decode prog_7_method_18_code 139 = .ok (.aload_n 0, 1) := by decide +kernel
theorem d_M_findResting_140 : decode prog_7_method_18_code 140 = .ok (.getfield 86, 3) := by decide +kernel
theorem d_M_findResting_143 : decode prog_7_method_18_code 143 = .ok (.bipush 60, 2) := by decide +kernel
theorem d_M_findResting_145 : decode prog_7_method_18_code 145 = .ok (.iload_n 3, 1) := by decide +kernel
theorem d_M_findResting_146 : decode prog_7_method_18_code 146 = .ok (.imul, 1) := by decide +kernel
theorem d_M_findResting_147 : decode prog_7_method_18_code 147 = .ok (.iload 4, 2) := by decide +kernel
theorem d_M_findResting_149 : decode prog_7_method_18_code 149 = .ok (.iadd, 1) := by decide +kernel
theorem d_M_findResting_150 : decode prog_7_method_18_code 150 = .ok (.baload, 1) := by decide +kernel
theorem d_M_findResting_151 : decode prog_7_method_18_code 151 = .ok (.ifCond .ne 32, 3) := by decide +kernel
theorem d_M_findResting_154 : decode prog_7_method_18_code 154 = .ok (.aload_n 0, 1) := by decide +kernel
theorem d_M_findResting_155 : decode prog_7_method_18_code 155 = .ok (.getfield 86, 3) := by decide +kernel
theorem d_M_findResting_158 : decode prog_7_method_18_code 158 = .ok (.bipush 60, 2) := by decide +kernel
theorem d_M_findResting_160 : decode prog_7_method_18_code 160 = .ok (.iload_n 3, 1) := by decide +kernel
theorem d_M_findResting_161 : decode prog_7_method_18_code 161 = .ok (.imul, 1) := by decide +kernel
theorem d_M_findResting_162 : decode prog_7_method_18_code 162 = .ok (.iload_n 2, 1) := by decide +kernel
theorem d_M_findResting_163 : decode prog_7_method_18_code 163 = .ok (.iadd, 1) := by decide +kernel
theorem d_M_findResting_164 : decode prog_7_method_18_code 164 = .ok (.baload, 1) := by decide +kernel
theorem d_M_findResting_165 : decode prog_7_method_18_code 165 = .ok (.ifCond .eq 22, 3) := by decide +kernel
theorem d_M_findResting_168 : decode prog_7_method_18_code 168 = .ok (.aload_n 0, 1) := by decide +kernel
theorem d_M_findResting_169 : decode prog_7_method_18_code 169 = .ok (.getfield 86, 3) := by decide +kernel
theorem d_M_findResting_172 : decode prog_7_method_18_code 172 = .ok (.bipush 60, 2) := by decide +kernel
theorem d_M_findResting_174 : decode prog_7_method_18_code 174 = .ok (.iload_n 2, 1) := by decide +kernel
theorem d_M_findResting_175 : decode prog_7_method_18_code 175 = .ok (.imul, 1) := by decide +kernel
theorem d_M_findResting_176 : decode prog_7_method_18_code 176 = .ok (.iload 4, 2) := by decide +kernel
theorem d_M_findResting_178 : decode prog_7_method_18_code 178 = .ok (.iadd, 1) := by decide +kernel
theorem d_M_findResting_179 : decode prog_7_method_18_code 179 = .ok (.baload, 1) := by decide +kernel
theorem d_M_findResting_180 : decode prog_7_method_18_code 180 = .ok (.ifCond .eq 7, 3) := by decide +kernel
theorem d_M_findResting_183 : decode prog_7_method_18_code 183 = .ok (.iconst 1, 1) := by decide +kernel
theorem d_M_findResting_184 : decode prog_7_method_18_code 184 = .ok (.goto 4, 3) := by decide +kernel
theorem d_M_findResting_187 : decode prog_7_method_18_code 187 = .ok (.iconst 0, 1) := by decide +kernel
theorem d_M_findResting_188 : decode prog_7_method_18_code 188 = .ok (.bastore, 1) := by decide +kernel
theorem d_M_findResting_189 : decode prog_7_method_18_code 189 = .ok (.iinc 4 1, 3) := by decide +kernel
theorem d_M_findResting_192 : decode prog_7_method_18_code 192 = .ok (.goto (-70), 3) := by decide +kernel
theorem d_M_findResting_195 : decode prog_7_method_18_code 195 = .ok (.iinc 3 1, 3) := by decide +kernel
theorem d_M_findResting_198 : decode prog_7_method_18_code 198 = .ok (.goto (-84), 3) := by decide +kernel
theorem d_M_findResting_201 : decode prog_7_method_18_code 201 = .ok (.iinc 2 1, 3) := by decide +kernel
theorem d_M_findResting_204 : decode prog_7_method_18_code 204 = .ok (.goto (-97), 3) := by decide +kernel
theorem d_M_findResting_207 : decode prog_7_method_18_code 207 = .ok (.iconst 0, 1) := by decide +kernel
theorem d_M_findResting_208 : decode prog_7_method_18_code 208 = .ok (.istore_n 2, 1) := by decide +kernel
theorem d_M_findResting_209 : decode prog_7_method_18_code 209 = .ok (.iload_n 2, 1) := by decide +kernel
theorem d_M_findResting_210 : decode prog_7_method_18_code 210 = .ok (.iload_n 1, 1) := by decide +kernel
theorem d_M_findResting_211 : decode prog_7_method_18_code 211 = .ok (.if_icmp .ge 33, 3) := by decide +kernel
theorem d_M_findResting_214 : decode prog_7_method_18_code 214 = .ok (.aload_n 0, 1) := by decide +kernel
theorem d_M_findResting_215 : decode prog_7_method_18_code 215 = .ok (.getfield 86, 3) := by decide +kernel
theorem d_M_findResting_218 : decode prog_7_method_18_code 218 = .ok (.bipush 60, 2) := by decide +kernel
theorem d_M_findResting_220 : decode prog_7_method_18_code 220 = .ok (.iload_n 2, 1) := by decide +kernel
theorem d_M_findResting_221 : decode prog_7_method_18_code 221 = .ok (.imul, 1) := by decide +kernel
theorem d_M_findResting_222 : decode prog_7_method_18_code 222 = .ok (.iload_n 2, 1) := by decide +kernel
theorem d_M_findResting_223 : decode prog_7_method_18_code 223 = .ok (.iadd, 1) := by decide +kernel
theorem d_M_findResting_224 : decode prog_7_method_18_code 224 = .ok (.baload, 1) := by decide +kernel
theorem d_M_findResting_225 : decode prog_7_method_18_code 225 = .ok (.ifCond .eq 13, 3) := by decide +kernel
theorem d_M_findResting_228 : decode prog_7_method_18_code 228 = .ok (.aload_n 0, 1) := by decide +kernel
theorem d_M_findResting_229 : decode prog_7_method_18_code 229 = .ok (.aload_n 0, 1) := by decide +kernel
theorem d_M_findResting_230 : decode prog_7_method_18_code 230 = .ok (.getfield 73, 3) := by decide +kernel
theorem d_M_findResting_233 : decode prog_7_method_18_code 233 = .ok (.iload_n 2, 1) := by decide +kernel
theorem d_M_findResting_234 : decode prog_7_method_18_code 234 = .ok (.iaload, 1) := by decide +kernel
theorem d_M_findResting_235 : decode prog_7_method_18_code 235 = .ok (.invokevirtual 115, 3) := by decide +kernel
theorem d_M_findResting_238 : decode prog_7_method_18_code 238 = .ok (.iinc 2 1, 3) := by decide +kernel
theorem d_M_findResting_241 : decode prog_7_method_18_code 241 = .ok (.goto (-32), 3) := by decide +kernel
theorem d_M_findResting_244 : decode prog_7_method_18_code 244 = .ok (.return_, 1) := by decide +kernel
theorem d_M_read_0 : decode prog_7_method_19_code 0 = .ok (.aload_n 0, 1) := by decide +kernel
theorem d_M_read_1 : decode prog_7_method_19_code 1 = .ok (.iconst 0, 1) := by decide +kernel
theorem d_M_read_2 : decode prog_7_method_19_code 2 = .ok (.putfield 98, 3) := by decide +kernel
theorem d_M_read_5 : decode prog_7_method_19_code 5 = .ok (.aload_n 0, 1) := by decide +kernel
theorem d_M_read_6 : decode prog_7_method_19_code 6 = .ok (.iconst 1, 1) := by decide +kernel
theorem d_M_read_7 : decode prog_7_method_19_code 7 = .ok (.invokevirtual 111, 3) := by decide +kernel
theorem d_M_read_10 : decode prog_7_method_19_code 10 = .ok (.bipush 105, 2) := by decide +kernel
theorem d_M_read_12 : decode prog_7_method_19_code 12 = .ok (.if_icmp .ne 17, 3) := by decide +kernel
theorem d_M_read_15 : decode prog_7_method_19_code 15 = .ok (.aload_n 0, 1) := by decide +kernel
theorem d_M_read_16 : decode prog_7_method_19_code 16 = .ok (.iconst 2, 1) := by decide +kernel
theorem d_M_read_17 : decode prog_7_method_19_code 17 = .ok (.invokevirtual 111, 3) := by decide +kernel
theorem d_M_read_20 : decode prog_7_method_19_code 20 = .ok (.bipush 103, 2) := by decide +kernel
theorem d_M_read_22 : decode prog_7_method_19_code 22 = .ok (.if_icmp .ne 7, 3) := by decide +kernel
theorem d_M_read_25 : decode prog_7_method_19_code 25 = .ok (.iconst 1, 1) := by decide +kernel
theorem d_M_read_26 : decode prog_7_method_19_code 26 = .ok (.goto 4, 3) := by decide +kernel
theorem d_M_read_29 : decode prog_7_method_19_code 29 = .ok (.iconst 0, 1) := by decide +kernel
theorem d_M_read_30 : decode prog_7_method_19_code 30 = .ok (.istore_n 1, 1) := by decide +kernel
theorem d_M_read_31 : decode prog_7_method_19_code 31 = .ok (.aload_n 0, 1) := by decide +kernel
theorem d_M_read_32 : decode prog_7_method_19_code 32 = .ok (.iconst 0, 1) := by decide +kernel
theorem d_M_read_33 : decode prog_7_method_19_code 33 = .ok (.putfield 108, 3) := by decide +kernel
theorem d_M_read_36 : decode prog_7_method_19_code 36 = .ok (.aload_n 0, 1) := by decide +kernel
theorem d_M_read_37 : decode prog_7_method_19_code 37 = .ok (.iconst (-1), 1) := by decide +kernel
theorem d_M_read_38 : decode prog_7_method_19_code 38 = .ok (.putfield 105, 3) := by decide +kernel
theorem d_M_read_41 : decode prog_7_method_19_code 41 = .ok (.aload_n 0, 1) := by decide +kernel
theorem d_M_read_42 : decode prog_7_method_19_code 42 = .ok (.iconst 0, 1) := by decide +kernel
theorem d_M_read_43 : decode prog_7_method_19_code 43 = .ok (.putfield 132, 3) := by decide +kernel
theorem d_M_read_46 : decode prog_7_method_19_code 46 = .ok (.iconst 0, 1) := by decide +kernel
theorem d_M_read_47 : decode prog_7_method_19_code 47 = .ok (.istore_n 2, 1) := by decide +kernel
theorem d_M_read_48 : decode prog_7_method_19_code 48 = .ok (.iload_n 2, 1) := by decide +kernel
theorem d_M_read_49 : decode prog_7_method_19_code 49 = .ok (.bipush 100, 2) := by decide +kernel
theorem d_M_read_51 : decode prog_7_method_19_code 51 = .ok (.if_icmp .ge 16, 3) := by decide +kernel
theorem d_M_read_54 : decode prog_7_method_19_code 54 = .ok (.aload_n 0, 1) := by decide +kernel
theorem d_M_read_55 : decode prog_7_method_19_code 55 = .ok (.getfield 76, 3) := by decide +kernel
theorem d_M_read_58 : decode prog_7_method_19_code 58 = .ok (.iload_n 2, 1) := by decide +kernel
theorem d_M_read_59 : decode prog_7_method_19_code 59 = .ok (.iconst 0, 1) := by decide +kernel
theorem d_M_read_60 : decode prog_7_method_19_code 60 = .ok (.bastore, 1) := by decide +kernel
theorem d_M_read_61 : decode prog_7_method_19_code 61 = .ok (.iinc 2 1, 3) := by decide +kernel
theorem d_M_read_64 : decode prog_7_method_19_code 64 = .ok (.goto (-16), 3) := by decide +kernel
theorem d_M_read_67 : decode prog_7_method_19_code 67 = .ok (.aload_n 0, 1) := by decide +kernel
theorem d_M_read_68 : decode prog_7_method_19_code 68 = .ok (.iload_n 1, 1) := by decide +kernel
theorem d_M_read_69 : decode prog_7_method_19_code 69 = .ok (.invokevirtual 156, 3) := by decide +kernel
theorem d_M_read_72 : decode prog_7_method_19_code 72 = .ok (.aload_n 0, 1) := by decide +kernel
theorem d_M_read_73 : decode prog_7_method_19_code 73 = .ok (.getfield 105, 3) := by decide +kernel
theorem d_M_read_76 : decode prog_7_method_19_code 76 = .ok (.iconst (-1), 1) := by decide +kernel
theorem d_M_read_77 : decode prog_7_method_19_code 77 = .ok (.if_icmp .ne 14, 3) := by decide +kernel
theorem d_M_read_80 : decode prog_7_method_19_code 80 = .ok (.iload_n 1, 1) := by decide +kernel
theorem d_M_read_81 : decode prog_7_method_19_code 81 = .ok (.ifCond .eq 10, 3) := by decide +kernel
theorem d_M_read_84 : decode prog_7_method_19_code 84 = .ok (.aload_n 0, 1) := by decide +kernel
theorem d_M_read_85 : decode prog_7_method_19_code 85 = .ok (.invokevirtual 160, 3) := by decide +kernel
theorem d_M_read_88 : decode prog_7_method_19_code 88 = .ok (.goto 15, 3) := by decide +kernel
theorem d_M_read_91 : decode prog_7_method_19_code 91 = .ok (.aload_n 0, 1) := by decide +kernel
theorem d_M_read_92 : decode prog_7_method_19_code 92 = .ok (.getfield 105, 3) := by decide +kernel
theorem d_M_read_95 : decode prog_7_method_19_code 95 = .ok (.iconst (-1), 1) := by decide +kernel
theorem d_M_read_96 : decode prog_7_method_19_code 96 = .ok (.if_icmp .ne 7, 3) := by decide +kernel
theorem d_M_read_99 : decode prog_7_method_19_code 99 = .ok (.aload_n 0, 1) := by decide +kernel
theorem d_M_read_100 : decode prog_7_method_19_code 100 = .ok (.invokevirtual 163, 3) := by decide +kernel
theorem d_M_read_103 : decode prog_7_method_19_code 103 = .ok (.aload_n 0, 1) := by decide +kernel
theorem d_M_read_104 : decode prog_7_method_19_code 104 = .ok (.getfield 105, 3) := by decide +kernel
theorem d_M_read_107 : decode prog_7_method_19_code 107 = .ok (.iconst (-1), 1) := by decide +kernel
theorem d_M_read_108 : decode prog_7_method_19_code 108 = .ok (.if_icmp .ne 36, 3) := by decide +kernel
theorem d_M_read_111 : decode prog_7_method_19_code 111 = .ok (.aload_n 0, 1) := by decide +kernel
theorem d_M_read_112 : decode prog_7_method_19_code 112 = .ok (.getfield 108, 3) := by decide +kernel
theorem d_M_read_115 : decode prog_7_method_19_code 115 = .ok (.aload_n 0, 1) := by decide +kernel
theorem d_M_read_116 : decode prog_7_method_19_code 116 = .ok (.getfield 102, 3) := by decide +kernel
theorem d_M_read_119 : decode prog_7_method_19_code 119 = .ok (.if_icmp .ge 25, 3) := by decide +kernel
theorem d_M_read_122 : decode prog_7_method_19_code 122 = .ok (.aload_n 0, 1) := by decide +kernel
theorem d_M_read_123 : decode prog_7_method_19_code 123 = .ok (.getfield 7, 3) := by decide +kernel
theorem d_M_read_126 : decode prog_7_method_19_code 126 = .ok (.aload_n 0, 1) := by decide +kernel
theorem d_M_read_127 : decode prog_7_method_19_code 127 = .ok (.getfield 108, 3) := by decide +kernel
theorem d_M_read_130 : decode prog_7_method_19_code 130 = .ok (.iaload, 1) := by decide +kernel
theorem d_M_read_131 : decode prog_7_method_19_code 131 = .ok (.bipush 99, 2) := by decide +kernel
theorem d_M_read_133 : decode prog_7_method_19_code 133 = .ok (.if_icmp .eq 11, 3) := by decide +kernel
theorem d_M_read_136 : decode prog_7_method_19_code 136 = .ok (.aload_n 0, 1) := by decide +kernel
theorem d_M_read_137 : decode prog_7_method_19_code 137 = .ok (.aload_n 0, 1) := by decide +kernel
theorem d_M_read_138 : decode prog_7_method_19_code 138 = .ok (.getfield 108, 3) := by decide +kernel
theorem d_M_read_141 : decode prog_7_method_19_code 141 = .ok (.invokevirtual 115, 3) := by decide +kernel
theorem d_M_read_144 : decode prog_7_method_19_code 144 = .ok (.aload_n 0, 1) := by decide +kernel
theorem d_M_read_145 : decode prog_7_method_19_code 145 = .ok (.getfield 105, 3) := by decide +kernel
theorem d_M_read_148 : decode prog_7_method_19_code 148 = .ok (.iconst (-1), 1) := by decide +kernel
theorem d_M_read_149 : decode prog_7_method_19_code 149 = .ok (.if_icmp .ne 11, 3) := by decide +kernel
theorem d_M_read_152 : decode prog_7_method_19_code 152 = .ok (.iload_n 1, 1) := by decide +kernel
theorem d_M_read_153 : decode prog_7_method_19_code 153 = .ok (.ifCond .ne 7, 3) := by decide +kernel
theorem d_M_read_156 : decode prog_7_method_19_code 156 = .ok (.aload_n 0, 1) := by decide +kernel
theorem d_M_read_157 : decode prog_7_method_19_code 157 = .ok (.invokevirtual 166, 3) := by decide +kernel
theorem d_M_read_160 : decode prog_7_method_19_code 160 = .ok (.aload_n 0, 1) := by decide +kernel
theorem d_M_read_161 : decode prog_7_method_19_code 161 = .ok (.getfield 105, 3) := by decide +kernel
theorem d_M_read_164 : decode prog_7_method_19_code 164 = .ok (.iconst (-1), 1) := by decide +kernel
theorem d_M_read_165 : decode prog_7_method_19_code 165 = .ok (.if_icmp .ne 11, 3) := by decide +kernel
theorem d_M_read_168 : decode prog_7_method_19_code 168 = .ok (.iload_n 1, 1) := by decide +kernel
theorem d_M_read_169 : decode prog_7_method_19_code 169 = .ok (.ifCond .ne 7, 3) := by decide +kernel
theorem d_M_read_172 : decode prog_7_method_19_code 172 = .ok (.aload_n 0, 1) := by decide +kernel
theorem d_M_read_173 : decode prog_7_method_19_code 173 = .ok (.invokevirtual 169, 3) := by decide +kernel
theorem d_M_read_176 : decode prog_7_method_19_code 176 = .ok (.aload_n 0, 1) := by decide +kernel
theorem d_M_read_177 : decode prog_7_method_19_code 177 = .ok (.iconst 0, 1) := by decide +kernel
theorem d_M_read_178 : decode prog_7_method_19_code 178 = .ok (.putfield 102, 3) := by decide +kernel
theorem d_M_read_181 : decode prog_7_method_19_code 181 = .ok (.aload_n 0, 1) := by decide +kernel
theorem d_M_read_182 : decode prog_7_method_19_code 182 = .ok (.getfield 105, 3) := by decide +kernel
theorem d_M_read_185 : decode prog_7_method_19_code 185 = .ok (.iconst (-1), 1) := by decide +kernel
theorem d_M_read_186 : decode prog_7_method_19_code 186 = .ok (.if_icmp .ne 7, 3) := by decide +kernel
theorem d_M_read_189 : decode prog_7_method_19_code 189 = .ok (.aload_n 0, 1) := by decide +kernel
theorem d_M_read_190 : decode prog_7_method_19_code 190 = .ok (.invokevirtual 172, 3) := by decide +kernel
theorem d_M_read_193 : decode prog_7_method_19_code 193 = .ok (.aload_n 0, 1) := by decide +kernel
theorem d_M_read_194 : decode prog_7_method_19_code 194 = .ok (.getfield 105, 3) := by decide +kernel
theorem d_M_read_197 : decode prog_7_method_19_code 197 = .ok (.ireturn, 1) := by decide +kernel
theorem d_M_takeOver_0 : decode prog_7_method_20_code 0 = .ok (.aload_n 0, 1) := by decide +kernel
theorem d_M_takeOver_1 : decode prog_7_method_20_code 1 = .ok (.aload_n 0, 1) := by decide +kernel
theorem d_M_takeOver_2 : decode prog_7_method_20_code 2 = .ok (.getfield 126, 3) := by decide +kernel
theorem d_M_takeOver_5 : decode prog_7_method_20_code 5 = .ok (.putfield 175, 3) := by decide +kernel
theorem d_M_takeOver_8 : decode prog_7_method_20_code 8 = .ok (.iconst 0, 1) := by decide +kernel
theorem d_M_takeOver_9 : decode prog_7_method_20_code 9 = .ok (.istore_n 1, 1) := by decide +kernel
theorem d_M_takeOver_10 : decode prog_7_method_20_code 10 = .ok (.iload_n 1, 1) := by decide +kernel
theorem d_M_takeOver_11 : decode prog_7_method_20_code 11 = .ok (.iconst 4, 1) := by decide +kernel
theorem d_M_takeOver_12 : decode prog_7_method_20_code 12 = .ok (.if_icmp .ge 21, 3) := by decide +kernel
theorem d_M_takeOver_15 : decode prog_7_method_20_code 15 = .ok (.aload_n 0, 1) := by decide +kernel
theorem d_M_takeOver_16 : decode prog_7_method_20_code 16 = .ok (.getfield 13, 3) := by decide +kernel
theorem d_M_takeOver_19 : decode prog_7_method_20_code 19 = .ok (.iload_n 1, 1) := by decide +kernel
theorem d_M_takeOver_20 : decode prog_7_method_20_code 20 = .ok (.aload_n 0, 1) := by decide +kernel
theorem d_M_takeOver_21 : decode prog_7_method_20_code 21 = .ok (.getfield 46, 3) := by decide +kernel
theorem d_M_takeOver_24 : decode prog_7_method_20_code 24 = .ok (.iload_n 1, 1) := by decide +kernel
theorem d_M_takeOver_25 : decode prog_7_method_20_code 25 = .ok (.iaload, 1) := by decide +kernel
theorem d_M_takeOver_26 : decode prog_7_method_20_code 26 = .ok (.iastore, 1) := by decide +kernel
theorem d_M_takeOver_27 : decode prog_7_method_20_code 27 = .ok (.iinc 1 1, 3) := by decide +kernel
theorem d_M_takeOver_30 : decode prog_7_method_20_code 30 = .ok (.goto (-20), 3) := by decide +kernel
theorem d_M_takeOver_33 : decode prog_7_method_20_code 33 = .ok (.iconst 0, 1) := by decide +kernel
theorem d_M_takeOver_34 : decode prog_7_method_20_code 34 = .ok (.istore_n 1, 1) := by decide +kernel
theorem d_M_takeOver_35 : decode prog_7_method_20_code 35 = .ok (.iload_n 1, 1) := by decide +kernel
theorem d_M_takeOver_36 : decode prog_7_method_20_code 36 = .ok (.bipush 8, 2) := by decide +kernel
theorem d_M_takeOver_38 : decode prog_7_method_20_code 38 = .ok (.if_icmp .ge 69, 3) := by decide +kernel
theorem d_M_takeOver_41 : decode prog_7_method_20_code 41 = .ok (.aload_n 0, 1) := by decide +kernel
theorem d_M_takeOver_42 : decode prog_7_method_20_code 42 = .ok (.getfield 16, 3) := by decide +kernel
theorem d_M_takeOver_45 : decode prog_7_method_20_code 45 = .ok (.iload_n 1, 1) := by decide +kernel
theorem d_M_takeOver_46 : decode prog_7_method_20_code 46 = .ok (.aload_n 0, 1) := by decide +kernel
theorem d_M_takeOver_47 : decode prog_7_method_20_code 47 = .ok (.getfield 49, 3) := by decide +kernel
theorem d_M_takeOver_50 : decode prog_7_method_20_code 50 = .ok (.iload_n 1, 1) := by decide +kernel
theorem d_M_takeOver_51 : decode prog_7_method_20_code 51 = .ok (.iaload, 1) := by decide +kernel
theorem d_M_takeOver_52 : decode prog_7_method_20_code 52 = .ok (.iastore, 1) := by decide +kernel
theorem d_M_takeOver_53 : decode prog_7_method_20_code 53 = .ok (.aload_n 0, 1) := by decide +kernel
theorem d_M_takeOver_54 : decode prog_7_method_20_code 54 = .ok (.getfield 19, 3) := by decide +kernel
theorem d_M_takeOver_57 : decode prog_7_method_20_code 57 = .ok (.iload_n 1, 1) := by decide +kernel
theorem d_M_takeOver_58 : decode prog_7_method_20_code 58 = .ok (.aload_n 0, 1) := by decide +kernel
theorem d_M_takeOver_59 : decode prog_7_method_20_code 59 = .ok (.getfield 52, 3) := by decide +kernel
theorem d_M_takeOver_62 : decode prog_7_method_20_code 62 = .ok (.iload_n 1, 1) := by decide +kernel
theorem d_M_takeOver_63 : decode prog_7_method_20_code 63 = .ok (.iaload, 1) := by decide +kernel
theorem d_M_takeOver_64 : decode prog_7_method_20_code 64 = .ok (.iastore, 1) := by decide +kernel
theorem d_M_takeOver_65 : decode prog_7_method_20_code 65 = .ok (.aload_n 0, 1) := by decide +kernel
theorem d_M_takeOver_66 : decode prog_7_method_20_code 66 = .ok (.getfield 22, 3) := by decide +kernel
theorem d_M_takeOver_69 : decode prog_7_method_20_code 69 = .ok (.iload_n 1, 1) := by decide +kernel
theorem d_M_takeOver_70 : decode prog_7_method_20_code 70 = .ok (.aload_n 0, 1) := by decide +kernel
theorem d_M_takeOver_71 : decode prog_7_method_20_code 71 = .ok (.getfield 55, 3) := by decide +kernel
theorem d_M_takeOver_74 : decode prog_7_method_20_code 74 = .ok (.iload_n 1, 1) := by decide +kernel
theorem d_M_takeOver_75 : decode prog_7_method_20_code 75 = .ok (.iaload, 1) := by decide +kernel
theorem d_M_takeOver_76 : decode prog_7_method_20_code 76 = .ok (.iastore, 1) := by decide +kernel
theorem d_M_takeOver_77 : decode prog_7_method_20_code 77 = .ok (.aload_n 0, 1) := by decide +kernel
theorem d_M_takeOver_78 : decode prog_7_method_20_code 78 = .ok (.getfield 25, 3) := by decide +kernel
theorem d_M_takeOver_81 : decode prog_7_method_20_code 81 = .ok (.iload_n 1, 1) := by decide +kernel
theorem d_M_takeOver_82 : decode prog_7_method_20_code 82 = .ok (.aload_n 0, 1) := by decide +kernel
theorem d_M_takeOver_83 : decode prog_7_method_20_code 83 = .ok (.getfield 58, 3) := by decide +kernel
theorem d_M_takeOver_86 : decode prog_7_method_20_code 86 = .ok (.iload_n 1, 1) := by decide +kernel
theorem d_M_takeOver_87 : decode prog_7_method_20_code 87 = .ok (.iaload, 1) := by decide +kernel
theorem d_M_takeOver_88 : decode prog_7_method_20_code 88 = .ok (.iastore, 1) := by decide +kernel
theorem d_M_takeOver_89 : decode prog_7_method_20_code 89 = .ok (.aload_n 0, 1) := by decide +kernel
theorem d_M_takeOver_90 : decode prog_7_method_20_code 90 = .ok (.getfield 28, 3) := by decide +kernel
theorem d_M_takeOver_93 : decode prog_7_method_20_code 93 = .ok (.iload_n 1, 1) := by decide +kernel
theorem d_M_takeOver_94 : decode prog_7_method_20_code 94 = .ok (.aload_n 0, 1) := by decide +kernel
theorem d_M_takeOver_95 : decode prog_7_method_20_code 95 = .ok (.getfield 61, 3) := by decide +kernel
theorem d_M_takeOver_98 : decode prog_7_method_20_code 98 = .ok (.iload_n 1, 1) := by decide +kernel
theorem d_M_takeOver_99 : decode prog_7_method_20_code 99 = .ok (.iaload, 1) := by decide +kernel
theorem d_M_takeOver_100 : decode prog_7_method_20_code 100 = .ok (.iastore, 1) := by decide +kernel
theorem d_M_takeOver_101 : decode prog_7_method_20_code 101 = .ok (.iinc 1 1, 3) := by decide +kernel
theorem d_M_takeOver_104 : decode prog_7_method_20_code 104 = .ok (.goto (-69), 3) := by decide +kernel
theorem d_M_takeOver_107 : decode prog_7_method_20_code 107 = .ok (.iconst 0, 1) := by decide +kernel
theorem d_M_takeOver_108 : decode prog_7_method_20_code 108 = .ok (.istore_n 1, 1) := by decide +kernel
theorem d_M_takeOver_109 : decode prog_7_method_20_code 109 = .ok (.iload_n 1, 1) := by decide +kernel
theorem d_M_takeOver_110 : decode prog_7_method_20_code 110 = .ok (.bipush 60, 2) := by decide +kernel
theorem d_M_takeOver_112 : decode prog_7_method_20_code 112 = .ok (.if_icmp .ge 45, 3) := by decide +kernel
theorem d_M_takeOver_115 : decode prog_7_method_20_code 115 = .ok (.aload_n 0, 1) := by decide +kernel
theorem d_M_takeOver_116 : decode prog_7_method_20_code 116 = .ok (.getfield 31, 3) := by decide +kernel
theorem d_M_takeOver_119 : decode prog_7_method_20_code 119 = .ok (.iload_n 1, 1) := by decide +kernel
theorem d_M_takeOver_120 : decode prog_7_method_20_code 120 = .ok (.aload_n 0, 1) := by decide +kernel
theorem d_M_takeOver_121 : decode prog_7_method_20_code 121 = .ok (.getfield 64, 3) := by decide +kernel
theorem d_M_takeOver_124 : decode prog_7_method_20_code 124 = .ok (.iload_n 1, 1) := by decide +kernel
theorem d_M_takeOver_125 : decode prog_7_method_20_code 125 = .ok (.iaload, 1) := by decide +kernel
theorem d_M_takeOver_126 : decode prog_7_method_20_code 126 = .ok (.iastore, 1) := by decide +kernel
theorem d_M_takeOver_127 : decode prog_7_method_20_code 127 = .ok (.aload_n 0, 1) := by decide +kernel
theorem d_M_takeOver_128 : decode prog_7_method_20_code 128 = .ok (.getfield 34, 3) := by decide +kernel
theorem d_M_takeOver_131 : decode prog_7_method_20_code 131 = .ok (.iload_n 1, 1) := by decide +kernel
theorem d_M_takeOver_132 : decode prog_7_method_20_code 132 = .ok (.aload_n 0, 1) := by decide +kernel
theorem d_M_takeOver_133 : decode prog_7_method_20_code 133 = .ok (.getfield 67, 3) := by decide +kernel
theorem d_M_takeOver_136 : decode prog_7_method_20_code 136 = .ok (.iload_n 1, 1) := by decide +kernel
theorem d_M_takeOver_137 : decode prog_7_method_20_code 137 = .ok (.iaload, 1) := by decide +kernel
theorem d_M_takeOver_138 : decode prog_7_method_20_code 138 = .ok (.iastore, 1) := by decide +kernel
theorem d_M_takeOver_139 : decode prog_7_method_20_code 139 = .ok (.aload_n 0, 1) := by decide +kernel
theorem d_M_takeOver_140 : decode prog_7_method_20_code 140 = .ok (.getfield 37, 3) := by decide +kernel
theorem d_M_takeOver_143 : decode prog_7_method_20_code 143 = .ok (.iload_n 1, 1) := by decide +kernel
theorem d_M_takeOver_144 : decode prog_7_method_20_code 144 = .ok (.aload_n 0, 1) := by decide +kernel
theorem d_M_takeOver_145 : decode prog_7_method_20_code 145 = .ok (.getfield 70, 3) := by decide +kernel
theorem d_M_takeOver_148 : decode prog_7_method_20_code 148 = .ok (.iload_n 1, 1) := by decide +kernel
theorem d_M_takeOver_149 : decode prog_7_method_20_code 149 = .ok (.iaload, 1) := by decide +kernel
theorem d_M_takeOver_150 : decode prog_7_method_20_code 150 = .ok (.iastore, 1) := by decide +kernel
theorem d_M_takeOver_151 : decode prog_7_method_20_code 151 = .ok (.iinc 1 1, 3) := by decide +kernel
theorem d_M_takeOver_154 : decode prog_7_method_20_code 154 = .ok (.goto (-45), 3) := by decide +kernel
theorem d_M_takeOver_157 : decode prog_7_method_20_code 157 = .ok (.aload_n 0, 1) := by decide +kernel
theorem d_M_takeOver_158 : decode prog_7_method_20_code 158 = .ok (.invokevirtual 178, 3) := by decide +kernel
theorem d_M_takeOver_161 : decode prog_7_method_20_code 161 = .ok (.return_, 1) := by decide +kernel
theorem d_M_isOrdered_0 : decode prog_7_method_21_code 0 = .ok (.iconst 0, 1) := by decide +kernel
theorem d_M_isOrdered_1 : decode prog_7_method_21_code 1 = .ok (.istore_n 1, 1) := by decide +kernel
theorem d_M_isOrdered_2 : decode prog_7_method_21_code 2 = .ok (.iconst 1, 1) := by decide +kernel
theorem d_M_isOrdered_3 : decode prog_7_method_21_code 3 = .ok (.istore_n 2, 1) := by decide +kernel
theorem d_M_isOrdered_4 : decode prog_7_method_21_code 4 = .ok (.iconst 0, 1) := by decide +kernel
theorem d_M_isOrdered_5 : decode prog_7_method_21_code 5 = .ok (.istore_n 3, 1) := by decide +kernel
theorem d_M_isOrdered_6 : decode prog_7_method_21_code 6 = .ok (.iload_n 3, 1) := by decide +kernel
theorem d_M_isOrdered_7 : decode prog_7_method_21_code 7 = .ok (.aload_n 0, 1) := by decide +kernel
theorem d_M_isOrdered_8 : decode prog_7_method_21_code 8 = .ok (.getfield 13, 3) := by decide +kernel
theorem d_M_isOrdered_11 : decode prog_7_method_21_code 11 = .ok (.iconst 0, 1) := by decide +kernel
theorem d_M_isOrdered_12 : decode prog_7_method_21_code 12 = .ok (.iaload, 1) := by decide +kernel
theorem d_M_isOrdered_13 : decode prog_7_method_21_code 13 = .ok (.if_icmp .ge 32, 3) := by decide +kernel
theorem d_M_isOrdered_16 : decode prog_7_method_21_code 16 = .ok (.iinc 1 2, 3) := by decide +kernel
theorem d_M_isOrdered_19 : decode prog_7_method_21_code 19 = .ok (.iload_n 2, 1) := by decide +kernel
theorem d_M_isOrdered_20 : decode prog_7_method_21_code 20 = .ok (.ifCond .eq 17, 3) := by decide +kernel
theorem d_M_isOrdered_23 : decode prog_7_method_21_code 23 = .ok (.aload_n 0, 1) := by decide +kernel
theorem d_M_isOrdered_24 : decode prog_7_method_21_code 24 = .ok (.getfield 16, 3) := by decide +kernel
theorem d_M_isOrdered_27 : decode prog_7_method_21_code 27 = .ok (.iload_n 3, 1) := by decide +kernel
theorem d_M_isOrdered_28 : decode prog_7_method_21_code 28 = .ok (.iaload, 1) := by decide +kernel
theorem d_M_isOrdered_29 : decode prog_7_method_21_code 29 = .ok (.iload_n 1, 1) := by decide +kernel
theorem d_M_isOrdered_30 : decode prog_7_method_21_code 30 = .ok (.if_icmp .ne 7, 3) := by decide +kernel
theorem d_M_isOrdered_33 : decode prog_7_method_21_code 33 = .ok (.iconst 1, 1) := by decide +kernel
theorem d_M_isOrdered_34 : decode prog_7_method_21_code 34 = .ok (.goto 4, 3) := by decide +kernel
theorem d_M_isOrdered_37 : decode prog_7_method_21_code 37 = .ok (.iconst 0, 1) := by decide +kernel
theorem d_M_isOrdered_38 : decode prog_7_method_21_code 38 = .ok (.istore_n 2, 1) := by decide +kernel
theorem d_M_isOrdered_39 : decode prog_7_method_21_code 39 = .ok (.iinc 3 1, 3) := by decide +kernel
theorem d_M_isOrdered_42 : decode prog_7_method_21_code 42 = .ok (.goto (-36), 3) := by decide +kernel
theorem d_M_isOrdered_45 : decode prog_7_method_21_code 45 = .ok (.iconst 0, 1) := by decide +kernel
theorem d_M_isOrdered_46 : decode prog_7_method_21_code 46 = .ok (.istore_n 3, 1) := by decide +kernel
theorem d_M_isOrdered_47 : decode prog_7_method_21_code 47 = .ok (.iload_n 3, 1) := by decide +kernel
theorem d_M_isOrdered_48 : decode prog_7_method_21_code 48 = .ok (.aload_n 0, 1) := by decide +kernel
theorem d_M_isOrdered_49 : decode prog_7_method_21_code 49 = .ok (.getfield 13, 3) := by decide +kernel
theorem d_M_isOrdered_52 : decode prog_7_method_21_code 52 = .ok (.iconst 1, 1) := by decide +kernel
theorem d_M_isOrdered_53 : decode prog_7_method_21_code 53 = .ok (.iaload, 1) := by decide +kernel
theorem d_M_isOrdered_54 : decode prog_7_method_21_code 54 = .ok (.if_icmp .ge 32, 3) := by decide +kernel
theorem d_M_isOrdered_57 : decode prog_7_method_21_code 57 = .ok (.iinc 1 2, 3) := by decide +kernel
theorem d_M_isOrdered_60 : decode prog_7_method_21_code 60 = .ok (.iload_n 2, 1) := by decide +kernel
theorem d_M_isOrdered_61 : decode prog_7_method_21_code 61 = .ok (.ifCond .eq 17, 3) := by decide +kernel
theorem d_M_isOrdered_64 : decode prog_7_method_21_code 64 = .ok (.aload_n 0, 1) := by decide +kernel
theorem d_M_isOrdered_65 : decode prog_7_method_21_code 65 = .ok (.getfield 19, 3) := by decide +kernel
theorem d_M_isOrdered_68 : decode prog_7_method_21_code 68 = .ok (.iload_n 3, 1) := by decide +kernel
theorem d_M_isOrdered_69 : decode prog_7_method_21_code 69 = .ok (.iaload, 1) := by decide +kernel
theorem d_M_isOrdered_70 : decode prog_7_method_21_code 70 = .ok (.iload_n 1, 1) := by decide +kernel
theorem d_M_isOrdered_71 : decode prog_7_method_21_code 71 = .ok (.if_icmp .ne 7, 3) := by decide +kernel
theorem d_M_isOrdered_74 : decode prog_7_method_21_code 74 = .ok (.iconst 1, 1) := by decide +kernel
theorem d_M_isOrdered_75 : decode prog_7_method_21_code 75 = .ok (.goto 4, 3) := by decide +kernel
theorem d_M_isOrdered_78 : decode prog_7_method_21_code 78 = .ok (.iconst 0, 1) := by decide +kernel
theorem d_M_isOrdered_79 : decode prog_7_method_21_code 79 = .ok (.istore_n 2, 1) := by decide +kernel
theorem d_M_isOrdered_80 : decode prog_7_method_21_code 80 = .ok (.iinc 3 1, 3) := by decide +kernel
theorem d_M_isOrdered_83 : decode prog_7_method_21_code 83 = .ok (.goto (-36), 3) := by decide +kernel
theorem d_M_isOrdered_86 : decode prog_7_method_21_code 86 = .ok (.iconst 0, 1) := by decide +kernel
theorem d_M_isOrdered_87 : decode prog_7_method_21_code 87 = .ok (.istore_n 3, 1) := by decide +kernel
theorem d_M_isOrdered_88 : decode prog_7_method_21_code 88 = .ok (.iload_n 3, 1) := by decide +kernel
theorem d_M_isOrdered_89 : decode prog_7_method_21_code 89 = .ok (.aload_n 0, 1) := by decide +kernel
theorem d_M_isOrdered_90 : decode prog_7_method_21_code 90 = .ok (.getfield 13, 3) := by decide +kernel
theorem d_M_isOrdered_93 : decode prog_7_method_21_code 93 = .ok (.iconst 3, 1) := by decide +kernel
theorem d_M_isOrdered_94 : decode prog_7_method_21_code 94 = .ok (.iaload, 1) := by decide +kernel
theorem d_M_isOrdered_95 : decode prog_7_method_21_code 95 = .ok (.if_icmp .ge 57, 3) := by decide +kernel
theorem d_M_isOrdered_98 : decode prog_7_method_21_code 98 = .ok (.iinc 1 2, 3) := by decide +kernel
theorem d_M_isOrdered_101 : decode prog_7_method_21_code 101 = .ok (.iload_n 2, 1) := by decide +kernel
theorem d_M_isOrdered_102 : decode prog_7_method_21_code 102 = .ok (.ifCond .eq 42, 3) := by decide +kernel
theorem d_M_isOrdered_105 : decode prog_7_method_21_code 105 = .ok (.aload_n 0, 1) := by decide +kernel
theorem d_M_isOrdered_106 : decode prog_7_method_21_code 106 = .ok (.getfield 31, 3) := by decide +kernel
theorem d_M_isOrdered_109 : decode prog_7_method_21_code 109 = .ok (.iload_n 3, 1) := by decide +kernel
theorem d_M_isOrdered_110 : decode prog_7_method_21_code 110 = .ok (.iaload, 1) := by decide +kernel
theorem d_M_isOrdered_111 : decode prog_7_method_21_code 111 = .ok (.iload_n 1, 1) := by decide +kernel
theorem d_M_isOrdered_112 : decode prog_7_method_21_code 112 = .ok (.if_icmp .ne 32, 3) := by decide +kernel
theorem d_M_isOrdered_115 : decode prog_7_method_21_code 115 = .ok (.aload_n 0, 1) := by decide +kernel
theorem d_M_isOrdered_116 : decode prog_7_method_21_code 116 = .ok (.getfield 34, 3) := by decide +kernel
theorem d_M_isOrdered_119 : decode prog_7_method_21_code 119 = .ok (.iload_n 3, 1) := by decide +kernel
theorem d_M_isOrdered_120 : decode prog_7_method_21_code 120 = .ok (.iaload, 1) := by decide +kernel
theorem d_M_isOrdered_121 : decode prog_7_method_21_code 121 = .ok (.iload_n 1, 1) := by decide +kernel
theorem d_M_isOrdered_122 : decode prog_7_method_21_code 122 = .ok (.if_icmp .ge 22, 3) := by decide +kernel
theorem d_M_isOrdered_125 : decode prog_7_method_21_code 125 = .ok (.aload_n 0, 1) := by decide +kernel
theorem d_M_isOrdered_126 : decode prog_7_method_21_code 126 = .ok (.getfield 34, 3) := by decide +kernel
theorem d_M_isOrdered_129 : decode prog_7_method_21_code 129 = .ok (.iload_n 3, 1) := by decide +kernel
theorem d_M_isOrdered_130 : decode prog_7_method_21_code 130 = .ok (.iaload, 1) := by decide +kernel
theorem d_M_isOrdered_131 : decode prog_7_method_21_code 131 = .ok (.aload_n 0, 1) := by decide +kernel
theorem d_M_isOrdered_132 : decode prog_7_method_21_code 132 = .ok (.getfield 37, 3) := by decide +kernel
theorem d_M_isOrdered_135 : decode prog_7_method_21_code 135 = .ok (.iload_n 3, 1) := by decide +kernel
theorem d_M_isOrdered_136 : decode prog_7_method_21_code 136 = .ok (.iaload, 1) := by decide +kernel
theorem d_M_isOrdered_137 : decode prog_7_method_21_code 137 = .ok (.if_icmp .lt 7, 3) := by decide +kernel
theorem d_M_isOrdered_140 : decode prog_7_method_21_code 140 = .ok (.iconst 1, 1) := by decide +kernel
theorem d_M_isOrdered_141 : decode prog_7_method_21_code 141 = .ok (.goto 4, 3) := by decide +kernel
theorem d_M_isOrdered_144 : decode prog_7_method_21_code 144 = .ok (.iconst 0, 1) := by decide +kernel
theorem d_M_isOrdered_145 : decode prog_7_method_21_code 145 = .ok (.istore_n 2, 1) := by decide +kernel
theorem d_M_isOrdered_146 : decode prog_7_method_21_code 146 = .ok (.iinc 3 1, 3) := by decide +kernel
theorem d_M_isOrdered_149 : decode prog_7_method_21_code 149 = .ok (.goto (-61), 3) := by decide +kernel
theorem d_M_isOrdered_152 : decode prog_7_method_21_code 152 = .ok (.iload_n 2, 1) := by decide +kernel
theorem d_M_isOrdered_153 : decode prog_7_method_21_code 153 = .ok (.ifCond .eq 17, 3) := by decide +kernel
theorem d_M_isOrdered_156 : decode prog_7_method_21_code 156 = .ok (.iload_n 1, 1) := by decide +kernel
theorem d_M_isOrdered_157 : decode prog_7_method_21_code 157 = .ok (.iconst 2, 1) := by decide +kernel
theorem d_M_isOrdered_158 : decode prog_7_method_21_code 158 = .ok (.aload_n 0, 1) := by decide +kernel
theorem d_M_isOrdered_159 : decode prog_7_method_21_code 159 = .ok (.getfield 175, 3) := by decide +kernel
theorem d_M_isOrdered_162 : decode prog_7_method_21_code 162 = .ok (.imul, 1) := by decide +kernel
theorem d_M_isOrdered_163 : decode prog_7_method_21_code 163 = .ok (.if_icmp .ne 7, 3) := by decide +kernel
theorem d_M_isOrdered_166 : decode prog_7_method_21_code 166 = .ok (.iconst 1, 1) := by decide +kernel
theorem d_M_isOrdered_167 : decode prog_7_method_21_code 167 = .ok (.goto 4, 3) := by decide +kernel
theorem d_M_isOrdered_170 : decode prog_7_method_21_code 170 = .ok (.iconst 0, 1) := by decide +kernel
theorem d_M_isOrdered_171 : decode prog_7_method_21_code 171 = .ok (.ireturn, 1) := by decide +kernel
theorem d_M_about_0 : decode prog_7_method_22_code 0 = .ok (.aload_n 0, 1) := by decide +kernel
theorem d_M_about_1 : decode prog_7_method_22_code 1 = .ok (.iconst 0, 1) := by decide +kernel
theorem d_M_about_2 : decode prog_7_method_22_code 2 = .ok (.putfield 98, 3) := by decide +kernel
theorem d_M_about_5 : decode prog_7_method_22_code 5 = .ok (.iload_n 1, 1) := by decide +kernel
theorem d_M_about_6 : decode prog_7_method_22_code 6 = .ok (.tableswitch 74 0 6 #[42, 47, 47, 47, 47, 56, 61], 42) := by decide +kernel
theorem d_M_about_48 : decode prog_7_method_22_code 48 = .ok (.aload_n 0, 1) := by decide +kernel
theorem d_M_about_49 : decode prog_7_method_22_code 49 = .ok (.getfield 175, 3) := by decide +kernel
theorem d_M_about_52 : decode prog_7_method_22_code 52 = .ok (.ireturn, 1) := by decide +kernel
theorem d_M_about_53 : decode prog_7_method_22_code 53 = .ok (.aload_n 0, 1) := by decide +kernel
theorem d_M_about_54 : decode prog_7_method_22_code 54 = .ok (.getfield 13, 3) := by decide +kernel
theorem d_M_about_57 : decode prog_7_method_22_code 57 = .ok (.iload_n 1, 1) := by decide +kernel
theorem d_M_about_58 : decode prog_7_method_22_code 58 = .ok (.iconst 1, 1) := by decide +kernel
theorem d_M_about_59 : decode prog_7_method_22_code 59 = .ok (.isub, 1) := by decide +kernel
theorem d_M_about_60 : decode prog_7_method_22_code 60 = .ok (.iaload, 1) := by decide +kernel
theorem d_M_about_61 : decode prog_7_method_22_code 61 = .ok (.ireturn, 1) := by decide +kernel
theorem d_M_about_62 : decode prog_7_method_22_code 62 = .ok (.aload_n 0, 1) := by decide +kernel
theorem d_M_about_63 : decode prog_7_method_22_code 63 = .ok (.getfield 102, 3) := by decide +kernel
theorem d_M_about_66 : decode prog_7_method_22_code 66 = .ok (.ireturn, 1) := by decide +kernel
theorem d_M_about_67 : decode prog_7_method_22_code 67 = .ok (.aload_n 0, 1) := by decide +kernel
theorem d_M_about_68 : decode prog_7_method_22_code 68 = .ok (.invokevirtual 181, 3) := by decide +kernel
theorem d_M_about_71 : decode prog_7_method_22_code 71 = .ok (.ifCond .eq 7, 3) := by decide +kernel
theorem d_M_about_74 : decode prog_7_method_22_code 74 = .ok (.iconst 1, 1) := by decide +kernel
theorem d_M_about_75 : decode prog_7_method_22_code 75 = .ok (.goto 4, 3) := by decide +kernel
theorem d_M_about_78 : decode prog_7_method_22_code 78 = .ok (.iconst 0, 1) := by decide +kernel
theorem d_M_about_79 : decode prog_7_method_22_code 79 = .ok (.ireturn, 1) := by decide +kernel
theorem d_M_about_80 : decode prog_7_method_22_code 80 = .ok (.iconst (-1), 1) := by decide +kernel
theorem d_M_about_81 : decode prog_7_method_22_code 81 = .ok (.ireturn, 1) := by decide +kernel
theorem d_M_has_0 : decode prog_7_method_23_code 0 = .ok (.aload_n 0, 1) := by decide +kernel
theorem d_M_has_1 : decode prog_7_method_23_code 1 = .ok (.iload_n 1, 1) := by decide +kernel
theorem d_M_has_2 : decode prog_7_method_23_code 2 = .ok (.ifCond .lt 9, 3) := by decide +kernel
theorem d_M_has_5 : decode prog_7_method_23_code 5 = .ok (.iload_n 1, 1) := by decide +kernel
theorem d_M_has_6 : decode prog_7_method_23_code 6 = .ok (.bipush 7, 2) := by decide +kernel
theorem d_M_has_8 : decode prog_7_method_23_code 8 = .ok (.if_icmp .le 7, 3) := by decide +kernel
theorem d_M_has_11 : decode prog_7_method_23_code 11 = .ok (.iconst 1, 1) := by decide +kernel
theorem d_M_has_12 : decode prog_7_method_23_code 12 = .ok (.goto 4, 3) := by decide +kernel
theorem d_M_has_15 : decode prog_7_method_23_code 15 = .ok (.iconst 0, 1) := by decide +kernel
theorem d_M_has_16 : decode prog_7_method_23_code 16 = .ok (.putfield 98, 3) := by decide +kernel
theorem d_M_has_19 : decode prog_7_method_23_code 19 = .ok (.aload_n 0, 1) := by decide +kernel
theorem d_M_has_20 : decode prog_7_method_23_code 20 = .ok (.getfield 98, 3) := by decide +kernel
theorem d_M_has_23 : decode prog_7_method_23_code 23 = .ok (.ifCond .le 5, 3) := by decide +kernel
theorem d_M_has_26 : decode prog_7_method_23_code 26 = .ok (.iconst 0, 1) := by decide +kernel
theorem d_M_has_27 : decode prog_7_method_23_code 27 = .ok (.ireturn, 1) := by decide +kernel
theorem d_M_has_28 : decode prog_7_method_23_code 28 = .ok (.aload_n 0, 1) := by decide +kernel
theorem d_M_has_29 : decode prog_7_method_23_code 29 = .ok (.getfield 13, 3) := by decide +kernel
theorem d_M_has_32 : decode prog_7_method_23_code 32 = .ok (.iload_n 1, 1) := by decide +kernel
theorem d_M_has_33 : decode prog_7_method_23_code 33 = .ok (.iconst 4, 1) := by decide +kernel
theorem d_M_has_34 : decode prog_7_method_23_code 34 = .ok (.if_icmp .ge 7, 3) := by decide +kernel
theorem d_M_has_37 : decode prog_7_method_23_code 37 = .ok (.iload_n 1, 1) := by decide +kernel
theorem d_M_has_38 : decode prog_7_method_23_code 38 = .ok (.goto 14, 3) := by decide +kernel
theorem d_M_has_41 : decode prog_7_method_23_code 41 = .ok (.iload_n 1, 1) := by decide +kernel
theorem d_M_has_42 : decode prog_7_method_23_code 42 = .ok (.bipush 6, 2) := by decide +kernel
theorem d_M_has_44 : decode prog_7_method_23_code 44 = .ok (.if_icmp .ge 7, 3) := by decide +kernel
theorem d_M_has_47 : decode prog_7_method_23_code 47 = .ok (.iconst 1, 1) := by decide +kernel
theorem d_M_has_48 : decode prog_7_method_23_code 48 = .ok (.goto 4, 3) := by decide +kernel
theorem d_M_has_51 : decode prog_7_method_23_code 51 = .ok (.iconst 3, 1) := by decide +kernel
theorem d_M_has_52 : decode prog_7_method_23_code 52 = .ok (.iaload, 1) := by decide +kernel
theorem d_M_has_53 : decode prog_7_method_23_code 53 = .ok (.istore_n 3, 1) := by decide +kernel
theorem d_M_has_54 : decode prog_7_method_23_code 54 = .ok (.aload_n 0, 1) := by decide +kernel
theorem d_M_has_55 : decode prog_7_method_23_code 55 = .ok (.iload_n 2, 1) := by decide +kernel
theorem d_M_has_56 : decode prog_7_method_23_code 56 = .ok (.ifCond .lt 8, 3) := by decide +kernel
theorem d_M_has_59 : decode prog_7_method_23_code 59 = .ok (.iload_n 2, 1) := by decide +kernel
theorem d_M_has_60 : decode prog_7_method_23_code 60 = .ok (.iload_n 3, 1) := by decide +kernel
theorem d_M_has_61 : decode prog_7_method_23_code 61 = .ok (.if_icmp .lt 7, 3) := by decide +kernel
theorem d_M_has_64 : decode prog_7_method_23_code 64 = .ok (.iconst 2, 1) := by decide +kernel
theorem d_M_has_65 : decode prog_7_method_23_code 65 = .ok (.goto 4, 3) := by decide +kernel
theorem d_M_has_68 : decode prog_7_method_23_code 68 = .ok (.iconst 0, 1) := by decide +kernel
theorem d_M_has_69 : decode prog_7_method_23_code 69 = .ok (.putfield 98, 3) := by decide +kernel
theorem d_M_has_72 : decode prog_7_method_23_code 72 = .ok (.aload_n 0, 1) := by decide +kernel
theorem d_M_has_73 : decode prog_7_method_23_code 73 = .ok (.getfield 98, 3) := by decide +kernel
theorem d_M_has_76 : decode prog_7_method_23_code 76 = .ok (.ifCond .le 5, 3) := by decide +kernel
theorem d_M_has_79 : decode prog_7_method_23_code 79 = .ok (.iconst 0, 1) := by decide +kernel
theorem d_M_has_80 : decode prog_7_method_23_code 80 = .ok (.ireturn, 1) := by decide +kernel
theorem d_M_has_81 : decode prog_7_method_23_code 81 = .ok (.iload_n 1, 1) := by decide +kernel
theorem d_M_has_82 : decode prog_7_method_23_code 82 = .ok (.tableswitch 91 0 6 #[42, 49, 56, 63, 70, 77, 84], 42) := by decide +kernel
theorem d_M_has_124 : decode prog_7_method_23_code 124 = .ok (.aload_n 0, 1) := by decide +kernel
theorem d_M_has_125 : decode prog_7_method_23_code 125 = .ok (.getfield 16, 3) := by decide +kernel
theorem d_M_has_128 : decode prog_7_method_23_code 128 = .ok (.iload_n 2, 1) := by decide +kernel
theorem d_M_has_129 : decode prog_7_method_23_code 129 = .ok (.iaload, 1) := by decide +kernel
theorem d_M_has_130 : decode prog_7_method_23_code 130 = .ok (.ireturn, 1) := by decide +kernel
theorem d_M_has_131 : decode prog_7_method_23_code 131 = .ok (.aload_n 0, 1) := by decide +kernel
theorem d_M_has_132 : decode prog_7_method_23_code 132 = .ok (.getfield 19, 3) := by decide +kernel
theorem d_M_has_135 : decode prog_7_method_23_code 135 = .ok (.iload_n 2, 1) := by decide +kernel
theorem d_M_has_136 : decode prog_7_method_23_code 136 = .ok (.iaload, 1) := by decide +kernel
theorem d_M_has_137 : decode prog_7_method_23_code 137 = .ok (.ireturn, 1) := by decide +kernel
theorem d_M_has_138 : decode prog_7_method_23_code 138 = .ok (.aload_n 0, 1) := by decide +kernel
theorem d_M_has_139 : decode prog_7_method_23_code 139 = .ok (.getfield 28, 3) := by decide +kernel
theorem d_M_has_142 : decode prog_7_method_23_code 142 = .ok (.iload_n 2, 1) := by decide +kernel
theorem d_M_has_143 : decode prog_7_method_23_code 143 = .ok (.iaload, 1) := by decide +kernel
theorem d_M_has_144 : decode prog_7_method_23_code 144 = .ok (.ireturn, 1) := by decide +kernel
theorem d_M_has_145 : decode prog_7_method_23_code 145 = .ok (.aload_n 0, 1) := by decide +kernel
theorem d_M_has_146 : decode prog_7_method_23_code 146 = .ok (.getfield 31, 3) := by decide +kernel
theorem d_M_has_149 : decode prog_7_method_23_code 149 = .ok (.iload_n 2, 1) := by decide +kernel
theorem d_M_has_150 : decode prog_7_method_23_code 150 = .ok (.iaload, 1) := by decide +kernel
theorem d_M_has_151 : decode prog_7_method_23_code 151 = .ok (.ireturn, 1) := by decide +kernel
theorem d_M_has_152 : decode prog_7_method_23_code 152 = .ok (.aload_n 0, 1) := by decide +kernel
theorem d_M_has_153 : decode prog_7_method_23_code 153 = .ok (.getfield 22, 3) := by decide +kernel
theorem d_M_has_156 : decode prog_7_method_23_code 156 = .ok (.iload_n 2, 1) := by decide +kernel
theorem d_M_has_157 : decode prog_7_method_23_code 157 = .ok (.iaload, 1) := by decide +kernel
theorem d_M_has_158 : decode prog_7_method_23_code 158 = .ok (.ireturn, 1) := by decide +kernel
theorem d_M_has_159 : decode prog_7_method_23_code 159 = .ok (.aload_n 0, 1) := by decide +kernel
theorem d_M_has_160 : decode prog_7_method_23_code 160 = .ok (.getfield 25, 3) := by decide +kernel
theorem d_M_has_163 : decode prog_7_method_23_code 163 = .ok (.iload_n 2, 1) := by decide +kernel
theorem d_M_has_164 : decode prog_7_method_23_code 164 = .ok (.iaload, 1) := by decide +kernel
theorem d_M_has_165 : decode prog_7_method_23_code 165 = .ok (.ireturn, 1) := by decide +kernel
theorem d_M_has_166 : decode prog_7_method_23_code 166 = .ok (.aload_n 0, 1) := by decide +kernel
theorem d_M_has_167 : decode prog_7_method_23_code 167 = .ok (.getfield 34, 3) := by decide +kernel
theorem d_M_has_170 : decode prog_7_method_23_code 170 = .ok (.iload_n 2, 1) := by decide +kernel
theorem d_M_has_171 : decode prog_7_method_23_code 171 = .ok (.iaload, 1) := by decide +kernel
theorem d_M_has_172 : decode prog_7_method_23_code 172 = .ok (.ireturn, 1) := by decide +kernel
theorem d_M_has_173 : decode prog_7_method_23_code 173 = .ok (.aload_n 0, 1) := by decide +kernel
theorem d_M_has_174 : decode prog_7_method_23_code 174 = .ok (.getfield 37, 3) := by decide +kernel
theorem d_M_has_177 : decode prog_7_method_23_code 177 = .ok (.iload_n 2, 1) := by decide +kernel
theorem d_M_has_178 : decode prog_7_method_23_code 178 = .ok (.iaload, 1) := by decide +kernel
theorem d_M_has_179 : decode prog_7_method_23_code 179 = .ok (.ireturn, 1) := by decide +kernel
theorem d_M_anew_0 : decode prog_7_method_24_code 0 = .ok (.iconst 2, 1) := by decide +kernel
theorem d_M_anew_1 : decode prog_7_method_24_code 1 = .ok (.aload_n 0, 1) := by decide +kernel
theorem d_M_anew_2 : decode prog_7_method_24_code 2 = .ok (.getfield 92, 3) := by decide +kernel
theorem d_M_anew_5 : decode prog_7_method_24_code 5 = .ok (.iload_n 1, 1) := by decide +kernel
theorem d_M_anew_6 : decode prog_7_method_24_code 6 = .ok (.iconst 2, 1) := by decide +kernel
theorem d_M_anew_7 : decode prog_7_method_24_code 7 = .ok (.idiv, 1) := by decide +kernel
theorem d_M_anew_8 : decode prog_7_method_24_code 8 = .ok (.iaload, 1) := by decide +kernel
theorem d_M_anew_9 : decode prog_7_method_24_code 9 = .ok (.imul, 1) := by decide +kernel
theorem d_M_anew_10 : decode prog_7_method_24_code 10 = .ok (.iload_n 1, 1) := by decide +kernel
theorem d_M_anew_11 : decode prog_7_method_24_code 11 = .ok (.iconst 2, 1) := by decide +kernel
theorem d_M_anew_12 : decode prog_7_method_24_code 12 = .ok (.irem, 1) := by decide +kernel
theorem d_M_anew_13 : decode prog_7_method_24_code 13 = .ok (.iadd, 1) := by decide +kernel
theorem d_M_anew_14 : decode prog_7_method_24_code 14 = .ok (.ireturn, 1) := by decide +kernel
theorem d_M_ready_0 : decode prog_7_method_25_code 0 = .ok (.iconst 0, 1) := by decide +kernel
theorem d_M_ready_1 : decode prog_7_method_25_code 1 = .ok (.istore_n 1, 1) := by decide +kernel
theorem d_M_ready_2 : decode prog_7_method_25_code 2 = .ok (.iload_n 1, 1) := by decide +kernel
theorem d_M_ready_3 : decode prog_7_method_25_code 3 = .ok (.aload_n 0, 1) := by decide +kernel
theorem d_M_ready_4 : decode prog_7_method_25_code 4 = .ok (.getfield 13, 3) := by decide +kernel
theorem d_M_ready_7 : decode prog_7_method_25_code 7 = .ok (.iconst 3, 1) := by decide +kernel
theorem d_M_ready_8 : decode prog_7_method_25_code 8 = .ok (.iaload, 1) := by decide +kernel
theorem d_M_ready_9 : decode prog_7_method_25_code 9 = .ok (.if_icmp .ge 62, 3) := by decide +kernel
theorem d_M_ready_12 : decode prog_7_method_25_code 12 = .ok (.aload_n 0, 1) := by decide +kernel
theorem d_M_ready_13 : decode prog_7_method_25_code 13 = .ok (.getfield 92, 3) := by decide +kernel
theorem d_M_ready_16 : decode prog_7_method_25_code 16 = .ok (.aload_n 0, 1) := by decide +kernel
theorem d_M_ready_17 : decode prog_7_method_25_code 17 = .ok (.getfield 31, 3) := by decide +kernel
theorem d_M_ready_20 : decode prog_7_method_25_code 20 = .ok (.iload_n 1, 1) := by decide +kernel
theorem d_M_ready_21 : decode prog_7_method_25_code 21 = .ok (.iaload, 1) := by decide +kernel
theorem d_M_ready_22 : decode prog_7_method_25_code 22 = .ok (.iconst 2, 1) := by decide +kernel
theorem d_M_ready_23 : decode prog_7_method_25_code 23 = .ok (.idiv, 1) := by decide +kernel
theorem d_M_ready_24 : decode prog_7_method_25_code 24 = .ok (.iaload, 1) := by decide +kernel
theorem d_M_ready_25 : decode prog_7_method_25_code 25 = .ok (.iconst (-1), 1) := by decide +kernel
theorem d_M_ready_26 : decode prog_7_method_25_code 26 = .ok (.if_icmp .ne 39, 3) := by decide +kernel
theorem d_M_ready_29 : decode prog_7_method_25_code 29 = .ok (.aload_n 0, 1) := by decide +kernel
theorem d_M_ready_30 : decode prog_7_method_25_code 30 = .ok (.getfield 92, 3) := by decide +kernel
theorem d_M_ready_33 : decode prog_7_method_25_code 33 = .ok (.aload_n 0, 1) := by decide +kernel
theorem d_M_ready_34 : decode prog_7_method_25_code 34 = .ok (.getfield 34, 3) := by decide +kernel
theorem d_M_ready_37 : decode prog_7_method_25_code 37 = .ok (.iload_n 1, 1) := by decide +kernel
theorem d_M_ready_38 : decode prog_7_method_25_code 38 = .ok (.iaload, 1) := by decide +kernel
theorem d_M_ready_39 : decode prog_7_method_25_code 39 = .ok (.iconst 2, 1) := by decide +kernel
theorem d_M_ready_40 : decode prog_7_method_25_code 40 = .ok (.idiv, 1) := by decide +kernel
theorem d_M_ready_41 : decode prog_7_method_25_code 41 = .ok (.iaload, 1) := by decide +kernel
theorem d_M_ready_42 : decode prog_7_method_25_code 42 = .ok (.iconst (-1), 1) := by decide +kernel
theorem d_M_ready_43 : decode prog_7_method_25_code 43 = .ok (.if_icmp .eq 22, 3) := by decide +kernel
theorem d_M_ready_46 : decode prog_7_method_25_code 46 = .ok (.aload_n 0, 1) := by decide +kernel
theorem d_M_ready_47 : decode prog_7_method_25_code 47 = .ok (.getfield 92, 3) := by decide +kernel
theorem d_M_ready_50 : decode prog_7_method_25_code 50 = .ok (.aload_n 0, 1) := by decide +kernel
theorem d_M_ready_51 : decode prog_7_method_25_code 51 = .ok (.getfield 37, 3) := by decide +kernel
theorem d_M_ready_54 : decode prog_7_method_25_code 54 = .ok (.iload_n 1, 1) := by decide +kernel
theorem d_M_ready_55 : decode prog_7_method_25_code 55 = .ok (.iaload, 1) := by decide +kernel
theorem d_M_ready_56 : decode prog_7_method_25_code 56 = .ok (.iconst 2, 1) := by decide +kernel
theorem d_M_ready_57 : decode prog_7_method_25_code 57 = .ok (.idiv, 1) := by decide +kernel
theorem d_M_ready_58 : decode prog_7_method_25_code 58 = .ok (.iaload, 1) := by decide +kernel
theorem d_M_ready_59 : decode prog_7_method_25_code 59 = .ok (.iconst (-1), 1) := by decide +kernel
theorem d_M_ready_60 : decode prog_7_method_25_code 60 = .ok (.if_icmp .eq 5, 3) := by decide +kernel
theorem d_M_ready_63 : decode prog_7_method_25_code 63 = .ok (.iload_n 1, 1) := by decide +kernel
theorem d_M_ready_64 : decode prog_7_method_25_code 64 = .ok (.ireturn, 1) := by decide +kernel
theorem d_M_ready_65 : decode prog_7_method_25_code 65 = .ok (.iinc 1 1, 3) := by decide +kernel
theorem d_M_ready_68 : decode prog_7_method_25_code 68 = .ok (.goto (-66), 3) := by decide +kernel
theorem d_M_ready_71 : decode prog_7_method_25_code 71 = .ok (.iconst (-1), 1) := by decide +kernel
theorem d_M_ready_72 : decode prog_7_method_25_code 72 = .ok (.ireturn, 1) := by decide +kernel
theorem d_M_order_0 : decode prog_7_method_26_code 0 = .ok (.aload_n 0, 1) := by decide +kernel
theorem d_M_order_1 : decode prog_7_method_26_code 1 = .ok (.iconst 0, 1) := by decide +kernel
theorem d_M_order_2 : decode prog_7_method_26_code 2 = .ok (.putfield 98, 3) := by decide +kernel
theorem d_M_order_5 : decode prog_7_method_26_code 5 = .ok (.iconst 0, 1) := by decide +kernel
theorem d_M_order_6 : decode prog_7_method_26_code 6 = .ok (.istore_n 1, 1) := by decide +kernel
theorem d_M_order_7 : decode prog_7_method_26_code 7 = .ok (.iload_n 1, 1) := by decide +kernel
theorem d_M_order_8 : decode prog_7_method_26_code 8 = .ok (.bipush 100, 2) := by decide +kernel
theorem d_M_order_10 : decode prog_7_method_26_code 10 = .ok (.if_icmp .ge 24, 3) := by decide +kernel
theorem d_M_order_13 : decode prog_7_method_26_code 13 = .ok (.aload_n 0, 1) := by decide +kernel
theorem d_M_order_14 : decode prog_7_method_26_code 14 = .ok (.getfield 92, 3) := by decide +kernel
theorem d_M_order_17 : decode prog_7_method_26_code 17 = .ok (.iload_n 1, 1) := by decide +kernel
theorem d_M_order_18 : decode prog_7_method_26_code 18 = .ok (.iload_n 1, 1) := by decide +kernel
theorem d_M_order_19 : decode prog_7_method_26_code 19 = .ok (.ifCond .ne 7, 3) := by decide +kernel
theorem d_M_order_22 : decode prog_7_method_26_code 22 = .ok (.iconst 0, 1) := by decide +kernel
theorem d_M_order_23 : decode prog_7_method_26_code 23 = .ok (.goto 4, 3) := by decide +kernel
theorem d_M_order_26 : decode prog_7_method_26_code 26 = .ok (.iconst (-1), 1) := by decide +kernel
theorem d_M_order_27 : decode prog_7_method_26_code 27 = .ok (.iastore, 1) := by decide +kernel
theorem d_M_order_28 : decode prog_7_method_26_code 28 = .ok (.iinc 1 1, 3) := by decide +kernel
theorem d_M_order_31 : decode prog_7_method_26_code 31 = .ok (.goto (-24), 3) := by decide +kernel
theorem d_M_order_34 : decode prog_7_method_26_code 34 = .ok (.iconst 0, 1) := by decide +kernel
theorem d_M_order_35 : decode prog_7_method_26_code 35 = .ok (.istore_n 1, 1) := by decide +kernel
theorem d_M_order_36 : decode prog_7_method_26_code 36 = .ok (.iconst 0, 1) := by decide +kernel
theorem d_M_order_37 : decode prog_7_method_26_code 37 = .ok (.istore_n 2, 1) := by decide +kernel
theorem d_M_order_38 : decode prog_7_method_26_code 38 = .ok (.iload_n 2, 1) := by decide +kernel
theorem d_M_order_39 : decode prog_7_method_26_code 39 = .ok (.aload_n 0, 1) := by decide +kernel
theorem d_M_order_40 : decode prog_7_method_26_code 40 = .ok (.getfield 13, 3) := by decide +kernel
theorem d_M_order_43 : decode prog_7_method_26_code 43 = .ok (.iconst 0, 1) := by decide +kernel
theorem d_M_order_44 : decode prog_7_method_26_code 44 = .ok (.iaload, 1) := by decide +kernel
theorem d_M_order_45 : decode prog_7_method_26_code 45 = .ok (.if_icmp .ge 26, 3) := by decide +kernel
theorem d_M_order_48 : decode prog_7_method_26_code 48 = .ok (.iinc 1 1, 3) := by decide +kernel
theorem d_M_order_51 : decode prog_7_method_26_code 51 = .ok (.aload_n 0, 1) := by decide +kernel
theorem d_M_order_52 : decode prog_7_method_26_code 52 = .ok (.getfield 92, 3) := by decide +kernel
theorem d_M_order_55 : decode prog_7_method_26_code 55 = .ok (.aload_n 0, 1) := by decide +kernel
theorem d_M_order_56 : decode prog_7_method_26_code 56 = .ok (.getfield 16, 3) := by decide +kernel
theorem d_M_order_59 : decode prog_7_method_26_code 59 = .ok (.iload_n 2, 1) := by decide +kernel
theorem d_M_order_60 : decode prog_7_method_26_code 60 = .ok (.iaload, 1) := by decide +kernel
theorem d_M_order_61 : decode prog_7_method_26_code 61 = .ok (.iconst 2, 1) := by decide +kernel
theorem d_M_order_62 : decode prog_7_method_26_code 62 = .ok (.idiv, 1) := by decide +kernel
theorem d_M_order_63 : decode prog_7_method_26_code 63 = .ok (.iload_n 1, 1) := by decide +kernel
theorem d_M_order_64 : decode prog_7_method_26_code 64 = .ok (.iastore, 1) := by decide +kernel
theorem d_M_order_65 : decode prog_7_method_26_code 65 = .ok (.iinc 2 1, 3) := by decide +kernel
theorem d_M_order_68 : decode prog_7_method_26_code 68 = .ok (.goto (-30), 3) := by decide +kernel
theorem d_M_order_71 : decode prog_7_method_26_code 71 = .ok (.iconst 0, 1) := by decide +kernel
theorem d_M_order_72 : decode prog_7_method_26_code 72 = .ok (.istore_n 2, 1) := by decide +kernel
theorem d_M_order_73 : decode prog_7_method_26_code 73 = .ok (.iload_n 2, 1) := by decide +kernel
theorem d_M_order_74 : decode prog_7_method_26_code 74 = .ok (.aload_n 0, 1) := by decide +kernel
theorem d_M_order_75 : decode prog_7_method_26_code 75 = .ok (.getfield 13, 3) := by decide +kernel
theorem d_M_order_78 : decode prog_7_method_26_code 78 = .ok (.iconst 1, 1) := by decide +kernel
theorem d_M_order_79 : decode prog_7_method_26_code 79 = .ok (.iaload, 1) := by decide +kernel
theorem d_M_order_80 : decode prog_7_method_26_code 80 = .ok (.if_icmp .ge 26, 3) := by decide +kernel
theorem d_M_order_83 : decode prog_7_method_26_code 83 = .ok (.iinc 1 1, 3) := by decide +kernel
theorem d_M_order_86 : decode prog_7_method_26_code 86 = .ok (.aload_n 0, 1) := by decide +kernel
theorem d_M_order_87 : decode prog_7_method_26_code 87 = .ok (.getfield 92, 3) := by decide +kernel
theorem d_M_order_90 : decode prog_7_method_26_code 90 = .ok (.aload_n 0, 1) := by decide +kernel
theorem d_M_order_91 : decode prog_7_method_26_code 91 = .ok (.getfield 19, 3) := by decide +kernel
theorem d_M_order_94 : decode prog_7_method_26_code 94 = .ok (.iload_n 2, 1) := by decide +kernel
theorem d_M_order_95 : decode prog_7_method_26_code 95 = .ok (.iaload, 1) := by decide +kernel
theorem d_M_order_96 : decode prog_7_method_26_code 96 = .ok (.iconst 2, 1) := by decide +kernel
theorem d_M_order_97 : decode prog_7_method_26_code 97 = .ok (.idiv, 1) := by decide +kernel
theorem d_M_order_98 : decode prog_7_method_26_code 98 = .ok (.iload_n 1, 1) := by decide +kernel
theorem d_M_order_99 : decode prog_7_method_26_code 99 = .ok (.iastore, 1) := by decide +kernel
theorem d_M_order_100 : decode prog_7_method_26_code 100 = .ok (.iinc 2 1, 3) := by decide +kernel
theorem d_M_order_103 : decode prog_7_method_26_code 103 = .ok (.goto (-30), 3) := by decide +kernel
theorem d_M_order_106 : decode prog_7_method_26_code 106 = .ok (.iload_n 1, 1) := by decide +kernel
theorem d_M_order_107 : decode prog_7_method_26_code 107 = .ok (.iconst 1, 1) := by decide +kernel
theorem d_M_order_108 : decode prog_7_method_26_code 108 = .ok (.iadd, 1) := by decide +kernel
theorem d_M_order_109 : decode prog_7_method_26_code 109 = .ok (.istore_n 2, 1) := by decide +kernel
theorem d_M_order_110 : decode prog_7_method_26_code 110 = .ok (.iconst 0, 1) := by decide +kernel
theorem d_M_order_111 : decode prog_7_method_26_code 111 = .ok (.istore_n 3, 1) := by decide +kernel
theorem d_M_order_112 : decode prog_7_method_26_code 112 = .ok (.iload_n 3, 1) := by decide +kernel
theorem d_M_order_113 : decode prog_7_method_26_code 113 = .ok (.aload_n 0, 1) := by decide +kernel
theorem d_M_order_114 : decode prog_7_method_26_code 114 = .ok (.getfield 13, 3) := by decide +kernel
theorem d_M_order_117 : decode prog_7_method_26_code 117 = .ok (.iconst 3, 1) := by decide +kernel
theorem d_M_order_118 : decode prog_7_method_26_code 118 = .ok (.iaload, 1) := by decide +kernel
theorem d_M_order_119 : decode prog_7_method_26_code 119 = .ok (.if_icmp .ge 41, 3) := by decide +kernel
theorem d_M_order_122 : decode prog_7_method_26_code 122 = .ok (.aload_n 0, 1) := by decide +kernel
theorem d_M_order_123 : decode prog_7_method_26_code 123 = .ok (.getfield 95, 3) := by decide +kernel
theorem d_M_order_126 : decode prog_7_method_26_code 126 = .ok (.iload_n 3, 1) := by decide +kernel
theorem d_M_order_127 : decode prog_7_method_26_code 127 = .ok (.aload_n 0, 1) := by decide +kernel
theorem d_M_order_128 : decode prog_7_method_26_code 128 = .ok (.invokevirtual 185, 3) := by decide +kernel
theorem d_M_order_131 : decode prog_7_method_26_code 131 = .ok (.iastore, 1) := by decide +kernel
theorem d_M_order_132 : decode prog_7_method_26_code 132 = .ok (.iinc 1 1, 3) := by decide +kernel
theorem d_M_order_135 : decode prog_7_method_26_code 135 = .ok (.aload_n 0, 1) := by decide +kernel
theorem d_M_order_136 : decode prog_7_method_26_code 136 = .ok (.getfield 92, 3) := by decide +kernel
theorem d_M_order_139 : decode prog_7_method_26_code 139 = .ok (.aload_n 0, 1) := by decide +kernel
theorem d_M_order_140 : decode prog_7_method_26_code 140 = .ok (.getfield 31, 3) := by decide +kernel
theorem d_M_order_143 : decode prog_7_method_26_code 143 = .ok (.aload_n 0, 1) := by decide +kernel
theorem d_M_order_144 : decode prog_7_method_26_code 144 = .ok (.getfield 95, 3) := by decide +kernel
theorem d_M_order_147 : decode prog_7_method_26_code 147 = .ok (.iload_n 3, 1) := by decide +kernel
theorem d_M_order_148 : decode prog_7_method_26_code 148 = .ok (.iaload, 1) := by decide +kernel
theorem d_M_order_149 : decode prog_7_method_26_code 149 = .ok (.iaload, 1) := by decide +kernel
theorem d_M_order_150 : decode prog_7_method_26_code 150 = .ok (.iconst 2, 1) := by decide +kernel
theorem d_M_order_151 : decode prog_7_method_26_code 151 = .ok (.idiv, 1) := by decide +kernel
theorem d_M_order_152 : decode prog_7_method_26_code 152 = .ok (.iload_n 1, 1) := by decide +kernel
theorem d_M_order_153 : decode prog_7_method_26_code 153 = .ok (.iastore, 1) := by decide +kernel
theorem d_M_order_154 : decode prog_7_method_26_code 154 = .ok (.iinc 3 1, 3) := by decide +kernel
theorem d_M_order_157 : decode prog_7_method_26_code 157 = .ok (.goto (-45), 3) := by decide +kernel
theorem d_M_order_160 : decode prog_7_method_26_code 160 = .ok (.iconst 0, 1) := by decide +kernel
theorem d_M_order_161 : decode prog_7_method_26_code 161 = .ok (.istore_n 3, 1) := by decide +kernel
theorem d_M_order_162 : decode prog_7_method_26_code 162 = .ok (.iload_n 3, 1) := by decide +kernel
theorem d_M_order_163 : decode prog_7_method_26_code 163 = .ok (.aload_n 0, 1) := by decide +kernel
theorem d_M_order_164 : decode prog_7_method_26_code 164 = .ok (.getfield 13, 3) := by decide +kernel
theorem d_M_order_167 : decode prog_7_method_26_code 167 = .ok (.iconst 3, 1) := by decide +kernel
theorem d_M_order_168 : decode prog_7_method_26_code 168 = .ok (.iaload, 1) := by decide +kernel
theorem d_M_order_169 : decode prog_7_method_26_code 169 = .ok (.if_icmp .ge 94, 3) := by decide +kernel
theorem d_M_order_172 : decode prog_7_method_26_code 172 = .ok (.aload_n 0, 1) := by decide +kernel
theorem d_M_order_173 : decode prog_7_method_26_code 173 = .ok (.aload_n 0, 1) := by decide +kernel
theorem d_M_order_174 : decode prog_7_method_26_code 174 = .ok (.getfield 34, 3) := by decide +kernel
theorem d_M_order_177 : decode prog_7_method_26_code 177 = .ok (.aload_n 0, 1) := by decide +kernel
theorem d_M_order_178 : decode prog_7_method_26_code 178 = .ok (.getfield 95, 3) := by decide +kernel
theorem d_M_order_181 : decode prog_7_method_26_code 181 = .ok (.iload_n 3, 1) := by decide +kernel
theorem d_M_order_182 : decode prog_7_method_26_code 182 = .ok (.iaload, 1) := by decide +kernel
theorem d_M_order_183 : decode prog_7_method_26_code 183 = .ok (.iaload, 1) := by decide +kernel
theorem d_M_order_184 : decode prog_7_method_26_code 184 = .ok (.invokevirtual 188, 3) := by decide +kernel
theorem d_M_order_187 : decode prog_7_method_26_code 187 = .ok (.istore 4, 2) := by decide +kernel
theorem d_M_order_189 : decode prog_7_method_26_code 189 = .ok (.aload_n 0, 1) := by decide +kernel
theorem d_M_order_190 : decode prog_7_method_26_code 190 = .ok (.aload_n 0, 1) := by decide +kernel
theorem d_M_order_191 : decode prog_7_method_26_code 191 = .ok (.getfield 37, 3) := by decide +kernel
theorem d_M_order_194 : decode prog_7_method_26_code 194 = .ok (.aload_n 0, 1) := by decide +kernel
theorem d_M_order_195 : decode prog_7_method_26_code 195 = .ok (.getfield 95, 3) := by decide +kernel
theorem d_M_order_198 : decode prog_7_method_26_code 198 = .ok (.iload_n 3, 1) := by decide +kernel
theorem d_M_order_199 : decode prog_7_method_26_code 199 = .ok (.iaload, 1) := by decide +kernel
theorem d_M_order_200 : decode prog_7_method_26_code 200 = .ok (.iaload, 1) := by decide +kernel
theorem d_M_order_201 : decode prog_7_method_26_code 201 = .ok (.invokevirtual 188, 3) := by decide +kernel
theorem d_M_order_204 : decode prog_7_method_26_code 204 = .ok (.istore 5, 2) := by decide +kernel
theorem d_M_order_206 : decode prog_7_method_26_code 206 = .ok (.aload_n 0, 1) := by decide +kernel
theorem d_M_order_207 : decode prog_7_method_26_code 207 = .ok (.getfield 64, 3) := by decide +kernel
theorem d_M_order_210 : decode prog_7_method_26_code 210 = .ok (.iload_n 3, 1) := by decide +kernel
theorem d_M_order_211 : decode prog_7_method_26_code 211 = .ok (.iconst 2, 1) := by decide +kernel
theorem d_M_order_212 : decode prog_7_method_26_code 212 = .ok (.iload_n 2, 1) := by decide +kernel
theorem d_M_order_213 : decode prog_7_method_26_code 213 = .ok (.iload_n 3, 1) := by decide +kernel
theorem d_M_order_214 : decode prog_7_method_26_code 214 = .ok (.iadd, 1) := by decide +kernel
theorem d_M_order_215 : decode prog_7_method_26_code 215 = .ok (.imul, 1) := by decide +kernel
theorem d_M_order_216 : decode prog_7_method_26_code 216 = .ok (.iastore, 1) := by decide +kernel
theorem d_M_order_217 : decode prog_7_method_26_code 217 = .ok (.aload_n 0, 1) := by decide +kernel
theorem d_M_order_218 : decode prog_7_method_26_code 218 = .ok (.getfield 67, 3) := by decide +kernel
theorem d_M_order_221 : decode prog_7_method_26_code 221 = .ok (.iload_n 3, 1) := by decide +kernel
theorem d_M_order_222 : decode prog_7_method_26_code 222 = .ok (.iload 4, 2) := by decide +kernel
theorem d_M_order_224 : decode prog_7_method_26_code 224 = .ok (.iload 5, 2) := by decide +kernel
theorem d_M_order_226 : decode prog_7_method_26_code 226 = .ok (.if_icmp .le 8, 3) := by decide +kernel
theorem d_M_order_229 : decode prog_7_method_26_code 229 = .ok (.iload 4, 2) := by decide +kernel
theorem d_M_order_231 : decode prog_7_method_26_code 231 = .ok (.goto 5, 3) := by decide +kernel
theorem d_M_order_234 : decode prog_7_method_26_code 234 = .ok (.iload 5, 2) := by decide +kernel
theorem d_M_order_236 : decode prog_7_method_26_code 236 = .ok (.iastore, 1) := by decide +kernel
theorem d_M_order_237 : decode prog_7_method_26_code 237 = .ok (.aload_n 0, 1) := by decide +kernel
theorem d_M_order_238 : decode prog_7_method_26_code 238 = .ok (.getfield 70, 3) := by decide +kernel
theorem d_M_order_241 : decode prog_7_method_26_code 241 = .ok (.iload_n 3, 1) := by decide +kernel
theorem d_M_order_242 : decode prog_7_method_26_code 242 = .ok (.iload 4, 2) := by decide +kernel
theorem d_M_order_244 : decode prog_7_method_26_code 244 = .ok (.iload 5, 2) := by decide +kernel
theorem d_M_order_246 : decode prog_7_method_26_code 246 = .ok (.if_icmp .le 8, 3) := by decide +kernel
theorem d_M_order_249 : decode prog_7_method_26_code 249 = .ok (.iload 5, 2) := by decide +kernel
theorem d_M_order_251 : decode prog_7_method_26_code 251 = .ok (.goto 5, 3) := by decide +kernel
theorem d_M_order_254 : decode prog_7_method_26_code 254 = .ok (.iload 4, 2) := by decide +kernel
theorem d_M_order_256 : decode prog_7_method_26_code 256 = .ok (.iastore, 1) := by decide +kernel
theorem d_M_order_257 : decode prog_7_method_26_code 257 = .ok (.iinc 3 1, 3) := by decide +kernel
theorem d_M_order_260 : decode prog_7_method_26_code 260 = .ok (.goto (-98), 3) := by decide +kernel
theorem d_M_order_263 : decode prog_7_method_26_code 263 = .ok (.iconst 0, 1) := by decide +kernel
theorem d_M_order_264 : decode prog_7_method_26_code 264 = .ok (.istore_n 3, 1) := by decide +kernel
theorem d_M_order_265 : decode prog_7_method_26_code 265 = .ok (.iload_n 3, 1) := by decide +kernel
theorem d_M_order_266 : decode prog_7_method_26_code 266 = .ok (.aload_n 0, 1) := by decide +kernel
theorem d_M_order_267 : decode prog_7_method_26_code 267 = .ok (.getfield 13, 3) := by decide +kernel
theorem d_M_order_270 : decode prog_7_method_26_code 270 = .ok (.iconst 3, 1) := by decide +kernel
theorem d_M_order_271 : decode prog_7_method_26_code 271 = .ok (.iaload, 1) := by decide +kernel
theorem d_M_order_272 : decode prog_7_method_26_code 272 = .ok (.if_icmp .ge 45, 3) := by decide +kernel
theorem d_M_order_275 : decode prog_7_method_26_code 275 = .ok (.aload_n 0, 1) := by decide +kernel
theorem d_M_order_276 : decode prog_7_method_26_code 276 = .ok (.getfield 31, 3) := by decide +kernel
theorem d_M_order_279 : decode prog_7_method_26_code 279 = .ok (.iload_n 3, 1) := by decide +kernel
theorem d_M_order_280 : decode prog_7_method_26_code 280 = .ok (.aload_n 0, 1) := by decide +kernel
theorem d_M_order_281 : decode prog_7_method_26_code 281 = .ok (.getfield 64, 3) := by decide +kernel
theorem d_M_order_284 : decode prog_7_method_26_code 284 = .ok (.iload_n 3, 1) := by decide +kernel
theorem d_M_order_285 : decode prog_7_method_26_code 285 = .ok (.iaload, 1) := by decide +kernel
theorem d_M_order_286 : decode prog_7_method_26_code 286 = .ok (.iastore, 1) := by decide +kernel
theorem d_M_order_287 : decode prog_7_method_26_code 287 = .ok (.aload_n 0, 1) := by decide +kernel
theorem d_M_order_288 : decode prog_7_method_26_code 288 = .ok (.getfield 34, 3) := by decide +kernel
theorem d_M_order_291 : decode prog_7_method_26_code 291 = .ok (.iload_n 3, 1) := by decide +kernel
theorem d_M_order_292 : decode prog_7_method_26_code 292 = .ok (.aload_n 0, 1) := by decide +kernel
theorem d_M_order_293 : decode prog_7_method_26_code 293 = .ok (.getfield 67, 3) := by decide +kernel
theorem d_M_order_296 : decode prog_7_method_26_code 296 = .ok (.iload_n 3, 1) := by decide +kernel
theorem d_M_order_297 : decode prog_7_method_26_code 297 = .ok (.iaload, 1) := by decide +kernel
theorem d_M_order_298 : decode prog_7_method_26_code 298 = .ok (.iastore, 1) := by decide +kernel
theorem d_M_order_299 : decode prog_7_method_26_code 299 = .ok (.aload_n 0, 1) := by decide +kernel
theorem d_M_order_300 : decode prog_7_method_26_code 300 = .ok (.getfield 37, 3) := by decide +kernel
theorem d_M_order_303 : decode prog_7_method_26_code 303 = .ok (.iload_n 3, 1) := by decide +kernel
theorem d_M_order_304 : decode prog_7_method_26_code 304 = .ok (.aload_n 0, 1) := by decide +kernel
theorem d_M_order_305 : decode prog_7_method_26_code 305 = .ok (.getfield 70, 3) := by decide +kernel
theorem d_M_order_308 : decode prog_7_method_26_code 308 = .ok (.iload_n 3, 1) := by decide +kernel
theorem d_M_order_309 : decode prog_7_method_26_code 309 = .ok (.iaload, 1) := by decide +kernel
theorem d_M_order_310 : decode prog_7_method_26_code 310 = .ok (.iastore, 1) := by decide +kernel
theorem d_M_order_311 : decode prog_7_method_26_code 311 = .ok (.iinc 3 1, 3) := by decide +kernel
theorem d_M_order_314 : decode prog_7_method_26_code 314 = .ok (.goto (-49), 3) := by decide +kernel
theorem d_M_order_317 : decode prog_7_method_26_code 317 = .ok (.iconst 0, 1) := by decide +kernel
theorem d_M_order_318 : decode prog_7_method_26_code 318 = .ok (.istore_n 3, 1) := by decide +kernel
theorem d_M_order_319 : decode prog_7_method_26_code 319 = .ok (.iload_n 3, 1) := by decide +kernel
theorem d_M_order_320 : decode prog_7_method_26_code 320 = .ok (.aload_n 0, 1) := by decide +kernel
theorem d_M_order_321 : decode prog_7_method_26_code 321 = .ok (.getfield 13, 3) := by decide +kernel
theorem d_M_order_324 : decode prog_7_method_26_code 324 = .ok (.iconst 2, 1) := by decide +kernel
theorem d_M_order_325 : decode prog_7_method_26_code 325 = .ok (.iaload, 1) := by decide +kernel
theorem d_M_order_326 : decode prog_7_method_26_code 326 = .ok (.if_icmp .ge 25, 3) := by decide +kernel
theorem d_M_order_329 : decode prog_7_method_26_code 329 = .ok (.aload_n 0, 1) := by decide +kernel
theorem d_M_order_330 : decode prog_7_method_26_code 330 = .ok (.getfield 28, 3) := by decide +kernel
theorem d_M_order_333 : decode prog_7_method_26_code 333 = .ok (.iload_n 3, 1) := by decide +kernel
theorem d_M_order_334 : decode prog_7_method_26_code 334 = .ok (.aload_n 0, 1) := by decide +kernel
theorem d_M_order_335 : decode prog_7_method_26_code 335 = .ok (.aload_n 0, 1) := by decide +kernel
theorem d_M_order_336 : decode prog_7_method_26_code 336 = .ok (.getfield 28, 3) := by decide +kernel
theorem d_M_order_339 : decode prog_7_method_26_code 339 = .ok (.iload_n 3, 1) := by decide +kernel
theorem d_M_order_340 : decode prog_7_method_26_code 340 = .ok (.iaload, 1) := by decide +kernel
theorem d_M_order_341 : decode prog_7_method_26_code 341 = .ok (.invokevirtual 188, 3) := by decide +kernel
theorem d_M_order_344 : decode prog_7_method_26_code 344 = .ok (.iastore, 1) := by decide +kernel
theorem d_M_order_345 : decode prog_7_method_26_code 345 = .ok (.iinc 3 1, 3) := by decide +kernel
theorem d_M_order_348 : decode prog_7_method_26_code 348 = .ok (.goto (-29), 3) := by decide +kernel
theorem d_M_order_351 : decode prog_7_method_26_code 351 = .ok (.iconst 0, 1) := by decide +kernel
theorem d_M_order_352 : decode prog_7_method_26_code 352 = .ok (.istore_n 3, 1) := by decide +kernel
theorem d_M_order_353 : decode prog_7_method_26_code 353 = .ok (.iload_n 3, 1) := by decide +kernel
theorem d_M_order_354 : decode prog_7_method_26_code 354 = .ok (.aload_n 0, 1) := by decide +kernel
theorem d_M_order_355 : decode prog_7_method_26_code 355 = .ok (.getfield 13, 3) := by decide +kernel
theorem d_M_order_358 : decode prog_7_method_26_code 358 = .ok (.iconst 1, 1) := by decide +kernel
theorem d_M_order_359 : decode prog_7_method_26_code 359 = .ok (.iaload, 1) := by decide +kernel
theorem d_M_order_360 : decode prog_7_method_26_code 360 = .ok (.if_icmp .ge 41, 3) := by decide +kernel
theorem d_M_order_363 : decode prog_7_method_26_code 363 = .ok (.aload_n 0, 1) := by decide +kernel
theorem d_M_order_364 : decode prog_7_method_26_code 364 = .ok (.getfield 22, 3) := by decide +kernel
theorem d_M_order_367 : decode prog_7_method_26_code 367 = .ok (.iload_n 3, 1) := by decide +kernel
theorem d_M_order_368 : decode prog_7_method_26_code 368 = .ok (.aload_n 0, 1) := by decide +kernel
theorem d_M_order_369 : decode prog_7_method_26_code 369 = .ok (.aload_n 0, 1) := by decide +kernel
theorem d_M_order_370 : decode prog_7_method_26_code 370 = .ok (.getfield 22, 3) := by decide +kernel
theorem d_M_order_373 : decode prog_7_method_26_code 373 = .ok (.iload_n 3, 1) := by decide +kernel
theorem d_M_order_374 : decode prog_7_method_26_code 374 = .ok (.iaload, 1) := by decide +kernel
theorem d_M_order_375 : decode prog_7_method_26_code 375 = .ok (.invokevirtual 188, 3) := by decide +kernel
theorem d_M_order_378 : decode prog_7_method_26_code 378 = .ok (.iastore, 1) := by decide +kernel
theorem d_M_order_379 : decode prog_7_method_26_code 379 = .ok (.aload_n 0, 1) := by decide +kernel
theorem d_M_order_380 : decode prog_7_method_26_code 380 = .ok (.getfield 19, 3) := by decide +kernel
theorem d_M_order_383 : decode prog_7_method_26_code 383 = .ok (.iload_n 3, 1) := by decide +kernel
theorem d_M_order_384 : decode prog_7_method_26_code 384 = .ok (.aload_n 0, 1) := by decide +kernel
theorem d_M_order_385 : decode prog_7_method_26_code 385 = .ok (.aload_n 0, 1) := by decide +kernel
theorem d_M_order_386 : decode prog_7_method_26_code 386 = .ok (.getfield 19, 3) := by decide +kernel
theorem d_M_order_389 : decode prog_7_method_26_code 389 = .ok (.iload_n 3, 1) := by decide +kernel
theorem d_M_order_390 : decode prog_7_method_26_code 390 = .ok (.iaload, 1) := by decide +kernel
theorem d_M_order_391 : decode prog_7_method_26_code 391 = .ok (.invokevirtual 188, 3) := by decide +kernel
theorem d_M_order_394 : decode prog_7_method_26_code 394 = .ok (.iastore, 1) := by decide +kernel
theorem d_M_order_395 : decode prog_7_method_26_code 395 = .ok (.iinc 3 1, 3) := by decide +kernel
theorem d_M_order_398 : decode prog_7_method_26_code 398 = .ok (.goto (-45), 3) := by decide +kernel
theorem d_M_order_401 : decode prog_7_method_26_code 401 = .ok (.iconst 0, 1) := by decide +kernel
theorem d_M_order_402 : decode prog_7_method_26_code 402 = .ok (.istore_n 3, 1) := by decide +kernel
theorem d_M_order_403 : decode prog_7_method_26_code 403 = .ok (.iload_n 3, 1) := by decide +kernel
theorem d_M_order_404 : decode prog_7_method_26_code 404 = .ok (.aload_n 0, 1) := by decide +kernel
theorem d_M_order_405 : decode prog_7_method_26_code 405 = .ok (.getfield 13, 3) := by decide +kernel
theorem d_M_order_408 : decode prog_7_method_26_code 408 = .ok (.iconst 0, 1) := by decide +kernel
theorem d_M_order_409 : decode prog_7_method_26_code 409 = .ok (.iaload, 1) := by decide +kernel
theorem d_M_order_410 : decode prog_7_method_26_code 410 = .ok (.if_icmp .ge 25, 3) := by decide +kernel
theorem d_M_order_413 : decode prog_7_method_26_code 413 = .ok (.aload_n 0, 1) := by decide +kernel
theorem d_M_order_414 : decode prog_7_method_26_code 414 = .ok (.getfield 16, 3) := by decide +kernel
theorem d_M_order_417 : decode prog_7_method_26_code 417 = .ok (.iload_n 3, 1) := by decide +kernel
theorem d_M_order_418 : decode prog_7_method_26_code 418 = .ok (.aload_n 0, 1) := by decide +kernel
theorem d_M_order_419 : decode prog_7_method_26_code 419 = .ok (.aload_n 0, 1) := by decide +kernel
theorem d_M_order_420 : decode prog_7_method_26_code 420 = .ok (.getfield 16, 3) := by decide +kernel
theorem d_M_order_423 : decode prog_7_method_26_code 423 = .ok (.iload_n 3, 1) := by decide +kernel
theorem d_M_order_424 : decode prog_7_method_26_code 424 = .ok (.iaload, 1) := by decide +kernel
theorem d_M_order_425 : decode prog_7_method_26_code 425 = .ok (.invokevirtual 188, 3) := by decide +kernel
theorem d_M_order_428 : decode prog_7_method_26_code 428 = .ok (.iastore, 1) := by decide +kernel
theorem d_M_order_429 : decode prog_7_method_26_code 429 = .ok (.iinc 3 1, 3) := by decide +kernel
theorem d_M_order_432 : decode prog_7_method_26_code 432 = .ok (.goto (-29), 3) := by decide +kernel
theorem d_M_order_435 : decode prog_7_method_26_code 435 = .ok (.aload_n 0, 1) := by decide +kernel
theorem d_M_order_436 : decode prog_7_method_26_code 436 = .ok (.iload_n 1, 1) := by decide +kernel
theorem d_M_order_437 : decode prog_7_method_26_code 437 = .ok (.putfield 175, 3) := by decide +kernel
theorem d_M_order_440 : decode prog_7_method_26_code 440 = .ok (.return_, 1) := by decide +kernel
theorem d_M_add_0 : decode prog_7_method_27_code 0 = .ok (.aload_n 0, 1) := by decide +kernel
theorem d_M_add_1 : decode prog_7_method_27_code 1 = .ok (.getfield 43, 3) := by decide +kernel
theorem d_M_add_4 : decode prog_7_method_27_code 4 = .ok (.aload_n 0, 1) := by decide +kernel
theorem d_M_add_5 : decode prog_7_method_27_code 5 = .ok (.getfield 191, 3) := by decide +kernel
theorem d_M_add_8 : decode prog_7_method_27_code 8 = .ok (.iload_n 1, 1) := by decide +kernel
theorem d_M_add_9 : decode prog_7_method_27_code 9 = .ok (.iastore, 1) := by decide +kernel
theorem d_M_add_10 : decode prog_7_method_27_code 10 = .ok (.aload_n 0, 1) := by decide +kernel
theorem d_M_add_11 : decode prog_7_method_27_code 11 = .ok (.dup, 1) := by decide +kernel
theorem d_M_add_12 : decode prog_7_method_27_code 12 = .ok (.getfield 191, 3) := by decide +kernel
theorem d_M_add_15 : decode prog_7_method_27_code 15 = .ok (.iconst 1, 1) := by decide +kernel
theorem d_M_add_16 : decode prog_7_method_27_code 16 = .ok (.iadd, 1) := by decide +kernel
theorem d_M_add_17 : decode prog_7_method_27_code 17 = .ok (.putfield 191, 3) := by decide +kernel
theorem d_M_add_20 : decode prog_7_method_27_code 20 = .ok (.return_, 1) := by decide +kernel
theorem d_M_addNumber_0 : decode prog_7_method_28_code 0 = .ok (.iload_n 1, 1) := by decide +kernel
theorem d_M_addNumber_1 : decode prog_7_method_28_code 1 = .ok (.sipush 999, 3) := by decide +kernel
theorem d_M_addNumber_4 : decode prog_7_method_28_code 4 = .ok (.if_icmp .le 9, 3) := by decide +kernel
theorem d_M_addNumber_7 : decode prog_7_method_28_code 7 = .ok (.sipush 1000, 3) := by decide +kernel
theorem d_M_addNumber_10 : decode prog_7_method_28_code 10 = .ok (.goto 26, 3) := by decide +kernel
theorem d_M_addNumber_13 : decode prog_7_method_28_code 13 = .ok (.iload_n 1, 1) := by decide +kernel
theorem d_M_addNumber_14 : decode prog_7_method_28_code 14 = .ok (.bipush 99, 2) := by decide +kernel
theorem d_M_addNumber_16 : decode prog_7_method_28_code 16 = .ok (.if_icmp .le 8, 3) := by decide +kernel
theorem d_M_addNumber_19 : decode prog_7_method_28_code 19 = .ok (.bipush 100, 2) := by decide +kernel
theorem d_M_addNumber_21 : decode prog_7_method_28_code 21 = .ok (.goto 15, 3) := by decide +kernel
theorem d_M_addNumber_24 : decode prog_7_method_28_code 24 = .ok (.iload_n 1, 1) := by decide +kernel
theorem d_M_addNumber_25 : decode prog_7_method_28_code 25 = .ok (.bipush 9, 2) := by decide +kernel
theorem d_M_addNumber_27 : decode prog_7_method_28_code 27 = .ok (.if_icmp .le 8, 3) := by decide +kernel
theorem d_M_addNumber_30 : decode prog_7_method_28_code 30 = .ok (.bipush 10, 2) := by decide +kernel
theorem d_M_addNumber_32 : decode prog_7_method_28_code 32 = .ok (.goto 4, 3) := by decide +kernel
theorem d_M_addNumber_35 : decode prog_7_method_28_code 35 = .ok (.iconst 1, 1) := by decide +kernel
theorem d_M_addNumber_36 : decode prog_7_method_28_code 36 = .ok (.istore_n 2, 1) := by decide +kernel
theorem d_M_addNumber_37 : decode prog_7_method_28_code 37 = .ok (.iload_n 2, 1) := by decide +kernel
theorem d_M_addNumber_38 : decode prog_7_method_28_code 38 = .ok (.ifCond .le 24, 3) := by decide +kernel
theorem d_M_addNumber_41 : decode prog_7_method_28_code 41 = .ok (.aload_n 0, 1) := by decide +kernel
theorem d_M_addNumber_42 : decode prog_7_method_28_code 42 = .ok (.bipush 48, 2) := by decide +kernel
theorem d_M_addNumber_44 : decode prog_7_method_28_code 44 = .ok (.iload_n 1, 1) := by decide +kernel
theorem d_M_addNumber_45 : decode prog_7_method_28_code 45 = .ok (.iload_n 2, 1) := by decide +kernel
theorem d_M_addNumber_46 : decode prog_7_method_28_code 46 = .ok (.idiv, 1) := by decide +kernel
theorem d_M_addNumber_47 : decode prog_7_method_28_code 47 = .ok (.bipush 10, 2) := by decide +kernel
theorem d_M_addNumber_49 : decode prog_7_method_28_code 49 = .ok (.irem, 1) := by decide +kernel
theorem d_M_addNumber_50 : decode prog_7_method_28_code 50 = .ok (.iadd, 1) := by decide +kernel
theorem d_M_addNumber_51 : decode prog_7_method_28_code 51 = .ok (.invokevirtual 194, 3) := by decide +kernel
theorem d_M_addNumber_54 : decode prog_7_method_28_code 54 = .ok (.iload_n 2, 1) := by decide +kernel
theorem d_M_addNumber_55 : decode prog_7_method_28_code 55 = .ok (.bipush 10, 2) := by decide +kernel
theorem d_M_addNumber_57 : decode prog_7_method_28_code 57 = .ok (.idiv, 1) := by decide +kernel
theorem d_M_addNumber_58 : decode prog_7_method_28_code 58 = .ok (.istore_n 2, 1) := by decide +kernel
theorem d_M_addNumber_59 : decode prog_7_method_28_code 59 = .ok (.goto (-22), 3) := by decide +kernel
theorem d_M_addNumber_62 : decode prog_7_method_28_code 62 = .ok (.return_, 1) := by decide +kernel
theorem d_M_addNext_0 : decode prog_7_method_29_code 0 = .ok (.aload_n 0, 1) := by decide +kernel
theorem d_M_addNext_1 : decode prog_7_method_29_code 1 = .ok (.aload_n 0, 1) := by decide +kernel
theorem d_M_addNext_2 : decode prog_7_method_29_code 2 = .ok (.getfield 22, 3) := by decide +kernel
theorem d_M_addNext_5 : decode prog_7_method_29_code 5 = .ok (.iload_n 1, 1) := by decide +kernel
theorem d_M_addNext_6 : decode prog_7_method_29_code 6 = .ok (.iaload, 1) := by decide +kernel
theorem d_M_addNext_7 : decode prog_7_method_29_code 7 = .ok (.invokevirtual 197, 3) := by decide +kernel
theorem d_M_addNext_10 : decode prog_7_method_29_code 10 = .ok (.aload_n 0, 1) := by decide +kernel
theorem d_M_addNext_11 : decode prog_7_method_29_code 11 = .ok (.getfield 25, 3) := by decide +kernel
theorem d_M_addNext_14 : decode prog_7_method_29_code 14 = .ok (.iload_n 1, 1) := by decide +kernel
theorem d_M_addNext_15 : decode prog_7_method_29_code 15 = .ok (.iaload, 1) := by decide +kernel
theorem d_M_addNext_16 : decode prog_7_method_29_code 16 = .ok (.iconst 1, 1) := by decide +kernel
theorem d_M_addNext_17 : decode prog_7_method_29_code 17 = .ok (.if_icmp .ne 15, 3) := by decide +kernel
theorem d_M_addNext_20 : decode prog_7_method_29_code 20 = .ok (.aload_n 0, 1) := by decide +kernel
theorem d_M_addNext_21 : decode prog_7_method_29_code 21 = .ok (.bipush 32, 2) := by decide +kernel
theorem d_M_addNext_23 : decode prog_7_method_29_code 23 = .ok (.invokevirtual 194, 3) := by decide +kernel
theorem d_M_addNext_26 : decode prog_7_method_29_code 26 = .ok (.aload_n 0, 1) := by decide +kernel
theorem d_M_addNext_27 : decode prog_7_method_29_code 27 = .ok (.bipush 49, 2) := by decide +kernel
theorem d_M_addNext_29 : decode prog_7_method_29_code 29 = .ok (.invokevirtual 194, 3) := by decide +kernel
theorem d_M_addNext_32 : decode prog_7_method_29_code 32 = .ok (.aload_n 0, 1) := by decide +kernel
theorem d_M_addNext_33 : decode prog_7_method_29_code 33 = .ok (.bipush 10, 2) := by decide +kernel
theorem d_M_addNext_35 : decode prog_7_method_29_code 35 = .ok (.invokevirtual 194, 3) := by decide +kernel
theorem d_M_addNext_38 : decode prog_7_method_29_code 38 = .ok (.return_, 1) := by decide +kernel
theorem d_M_addDifference_0 : decode prog_7_method_30_code 0 = .ok (.iload_n 1, 1) := by decide +kernel
theorem d_M_addDifference_1 : decode prog_7_method_30_code 1 = .ok (.bipush 127, 2) := by decide +kernel
theorem d_M_addDifference_3 : decode prog_7_method_30_code 3 = .ok (.if_icmp .le 28, 3) := by decide +kernel
theorem d_M_addDifference_6 : decode prog_7_method_30_code 6 = .ok (.aload_n 0, 1) := by decide +kernel
theorem d_M_addDifference_7 : decode prog_7_method_30_code 7 = .ok (.iload_n 1, 1) := by decide +kernel
theorem d_M_addDifference_8 : decode prog_7_method_30_code 8 = .ok (.sipush 128, 3) := by decide +kernel
theorem d_M_addDifference_11 : decode prog_7_method_30_code 11 = .ok (.irem, 1) := by decide +kernel
theorem d_M_addDifference_12 : decode prog_7_method_30_code 12 = .ok (.sipush 128, 3) := by decide +kernel
theorem d_M_addDifference_15 : decode prog_7_method_30_code 15 = .ok (.iadd, 1) := by decide +kernel
theorem d_M_addDifference_16 : decode prog_7_method_30_code 16 = .ok (.invokevirtual 194, 3) := by decide +kernel
theorem d_M_addDifference_19 : decode prog_7_method_30_code 19 = .ok (.aload_n 0, 1) := by decide +kernel
theorem d_M_addDifference_20 : decode prog_7_method_30_code 20 = .ok (.iload_n 1, 1) := by decide +kernel
theorem d_M_addDifference_21 : decode prog_7_method_30_code 21 = .ok (.sipush 128, 3) := by decide +kernel
theorem d_M_addDifference_24 : decode prog_7_method_30_code 24 = .ok (.idiv, 1) := by decide +kernel
theorem d_M_addDifference_25 : decode prog_7_method_30_code 25 = .ok (.invokevirtual 194, 3) := by decide +kernel
theorem d_M_addDifference_28 : decode prog_7_method_30_code 28 = .ok (.goto 8, 3) := by decide +kernel
theorem d_M_addDifference_31 : decode prog_7_method_30_code 31 = .ok (.aload_n 0, 1) := by decide +kernel
theorem d_M_addDifference_32 : decode prog_7_method_30_code 32 = .ok (.iload_n 1, 1) := by decide +kernel
theorem d_M_addDifference_33 : decode prog_7_method_30_code 33 = .ok (.invokevirtual 194, 3) := by decide +kernel
theorem d_M_addDifference_36 : decode prog_7_method_30_code 36 = .ok (.return_, 1) := by decide +kernel
theorem d_M_write_0 : decode prog_7_method_31_code 0 = .ok (.aload_n 0, 1) := by decide +kernel
theorem d_M_write_1 : decode prog_7_method_31_code 1 = .ok (.iload_n 1, 1) := by decide +kernel
theorem d_M_write_2 : decode prog_7_method_31_code 2 = .ok (.ifCond .lt 8, 3) := by decide +kernel
theorem d_M_write_5 : decode prog_7_method_31_code 5 = .ok (.iload_n 1, 1) := by decide +kernel
theorem d_M_write_6 : decode prog_7_method_31_code 6 = .ok (.iconst 1, 1) := by decide +kernel
theorem d_M_write_7 : decode prog_7_method_31_code 7 = .ok (.if_icmp .le 7, 3) := by decide +kernel
theorem d_M_write_10 : decode prog_7_method_31_code 10 = .ok (.iconst 1, 1) := by decide +kernel
theorem d_M_write_11 : decode prog_7_method_31_code 11 = .ok (.goto 20, 3) := by decide +kernel
theorem d_M_write_14 : decode prog_7_method_31_code 14 = .ok (.iload_n 1, 1) := by decide +kernel
theorem d_M_write_15 : decode prog_7_method_31_code 15 = .ok (.iconst 1, 1) := by decide +kernel
theorem d_M_write_16 : decode prog_7_method_31_code 16 = .ok (.if_icmp .ne 14, 3) := by decide +kernel
theorem d_M_write_19 : decode prog_7_method_31_code 19 = .ok (.aload_n 0, 1) := by decide +kernel
theorem d_M_write_20 : decode prog_7_method_31_code 20 = .ok (.invokevirtual 181, 3) := by decide +kernel
theorem d_M_write_23 : decode prog_7_method_31_code 23 = .ok (.ifCond .ne 7, 3) := by decide +kernel
theorem d_M_write_26 : decode prog_7_method_31_code 26 = .ok (.iconst 2, 1) := by decide +kernel
theorem d_M_write_27 : decode prog_7_method_31_code 27 = .ok (.goto 4, 3) := by decide +kernel
theorem d_M_write_30 : decode prog_7_method_31_code 30 = .ok (.iconst 0, 1) := by decide +kernel
theorem d_M_write_31 : decode prog_7_method_31_code 31 = .ok (.putfield 98, 3) := by decide +kernel
theorem d_M_write_34 : decode prog_7_method_31_code 34 = .ok (.aload_n 0, 1) := by decide +kernel
theorem d_M_write_35 : decode prog_7_method_31_code 35 = .ok (.getfield 98, 3) := by decide +kernel
theorem d_M_write_38 : decode prog_7_method_31_code 38 = .ok (.ifCond .le 5, 3) := by decide +kernel
theorem d_M_write_41 : decode prog_7_method_31_code 41 = .ok (.iconst 0, 1) := by decide +kernel
theorem d_M_write_42 : decode prog_7_method_31_code 42 = .ok (.ireturn, 1) := by decide +kernel
theorem d_M_write_43 : decode prog_7_method_31_code 43 = .ok (.aload_n 0, 1) := by decide +kernel
theorem d_M_write_44 : decode prog_7_method_31_code 44 = .ok (.iconst 0, 1) := by decide +kernel
theorem d_M_write_45 : decode prog_7_method_31_code 45 = .ok (.putfield 191, 3) := by decide +kernel
theorem d_M_write_48 : decode prog_7_method_31_code 48 = .ok (.aload_n 0, 1) := by decide +kernel
theorem d_M_write_49 : decode prog_7_method_31_code 49 = .ok (.bipush 97, 2) := by decide +kernel
theorem d_M_write_51 : decode prog_7_method_31_code 51 = .ok (.invokevirtual 194, 3) := by decide +kernel
theorem d_M_write_54 : decode prog_7_method_31_code 54 = .ok (.aload_n 0, 1) := by decide +kernel
theorem d_M_write_55 : decode prog_7_method_31_code 55 = .ok (.iload_n 1, 1) := by decide +kernel
theorem d_M_write_56 : decode prog_7_method_31_code 56 = .ok (.ifCond .ne 8, 3) := by decide +kernel
theorem d_M_write_59 : decode prog_7_method_31_code 59 = .ok (.bipush 97, 2) := by decide +kernel
theorem d_M_write_61 : decode prog_7_method_31_code 61 = .ok (.goto 5, 3) := by decide +kernel
theorem d_M_write_64 : decode prog_7_method_31_code 64 = .ok (.bipush 105, 2) := by decide +kernel
theorem d_M_write_66 : decode prog_7_method_31_code 66 = .ok (.invokevirtual 194, 3) := by decide +kernel
theorem d_M_write_69 : decode prog_7_method_31_code 69 = .ok (.aload_n 0, 1) := by decide +kernel
theorem d_M_write_70 : decode prog_7_method_31_code 70 = .ok (.bipush 103, 2) := by decide +kernel
theorem d_M_write_72 : decode prog_7_method_31_code 72 = .ok (.invokevirtual 194, 3) := by decide +kernel
theorem d_M_write_75 : decode prog_7_method_31_code 75 = .ok (.aload_n 0, 1) := by decide +kernel
theorem d_M_write_76 : decode prog_7_method_31_code 76 = .ok (.bipush 32, 2) := by decide +kernel
theorem d_M_write_78 : decode prog_7_method_31_code 78 = .ok (.invokevirtual 194, 3) := by decide +kernel
theorem d_M_write_81 : decode prog_7_method_31_code 81 = .ok (.aload_n 0, 1) := by decide +kernel
theorem d_M_write_82 : decode prog_7_method_31_code 82 = .ok (.aload_n 0, 1) := by decide +kernel
theorem d_M_write_83 : decode prog_7_method_31_code 83 = .ok (.getfield 175, 3) := by decide +kernel
theorem d_M_write_86 : decode prog_7_method_31_code 86 = .ok (.invokevirtual 197, 3) := by decide +kernel
theorem d_M_write_89 : decode prog_7_method_31_code 89 = .ok (.iconst 0, 1) := by decide +kernel
theorem d_M_write_90 : decode prog_7_method_31_code 90 = .ok (.istore_n 2, 1) := by decide +kernel
theorem d_M_write_91 : decode prog_7_method_31_code 91 = .ok (.iload_n 2, 1) := by decide +kernel
theorem d_M_write_92 : decode prog_7_method_31_code 92 = .ok (.iconst 4, 1) := by decide +kernel
theorem d_M_write_93 : decode prog_7_method_31_code 93 = .ok (.if_icmp .ge 25, 3) := by decide +kernel
theorem d_M_write_96 : decode prog_7_method_31_code 96 = .ok (.aload_n 0, 1) := by decide +kernel
theorem d_M_write_97 : decode prog_7_method_31_code 97 = .ok (.bipush 32, 2) := by decide +kernel
theorem d_M_write_99 : decode prog_7_method_31_code 99 = .ok (.invokevirtual 194, 3) := by decide +kernel
theorem d_M_write_102 : decode prog_7_method_31_code 102 = .ok (.aload_n 0, 1) := by decide +kernel
theorem d_M_write_103 : decode prog_7_method_31_code 103 = .ok (.aload_n 0, 1) := by decide +kernel
theorem d_M_write_104 : decode prog_7_method_31_code 104 = .ok (.getfield 13, 3) := by decide +kernel
theorem d_M_write_107 : decode prog_7_method_31_code 107 = .ok (.iload_n 2, 1) := by decide +kernel
theorem d_M_write_108 : decode prog_7_method_31_code 108 = .ok (.iaload, 1) := by decide +kernel
theorem d_M_write_109 : decode prog_7_method_31_code 109 = .ok (.invokevirtual 197, 3) := by decide +kernel
theorem d_M_write_112 : decode prog_7_method_31_code 112 = .ok (.iinc 2 1, 3) := by decide +kernel
theorem d_M_write_115 : decode prog_7_method_31_code 115 = .ok (.goto (-24), 3) := by decide +kernel
theorem d_M_write_118 : decode prog_7_method_31_code 118 = .ok (.aload_n 0, 1) := by decide +kernel
theorem d_M_write_119 : decode prog_7_method_31_code 119 = .ok (.bipush 10, 2) := by decide +kernel
theorem d_M_write_121 : decode prog_7_method_31_code 121 = .ok (.invokevirtual 194, 3) := by decide +kernel
theorem d_M_write_124 : decode prog_7_method_31_code 124 = .ok (.iconst 0, 1) := by decide +kernel
theorem d_M_write_125 : decode prog_7_method_31_code 125 = .ok (.istore_n 2, 1) := by decide +kernel
theorem d_M_write_126 : decode prog_7_method_31_code 126 = .ok (.iload_n 2, 1) := by decide +kernel
theorem d_M_write_127 : decode prog_7_method_31_code 127 = .ok (.aload_n 0, 1) := by decide +kernel
theorem d_M_write_128 : decode prog_7_method_31_code 128 = .ok (.getfield 13, 3) := by decide +kernel
theorem d_M_write_131 : decode prog_7_method_31_code 131 = .ok (.iconst 0, 1) := by decide +kernel
theorem d_M_write_132 : decode prog_7_method_31_code 132 = .ok (.iaload, 1) := by decide +kernel
theorem d_M_write_133 : decode prog_7_method_31_code 133 = .ok (.if_icmp .ge 29, 3) := by decide +kernel
theorem d_M_write_136 : decode prog_7_method_31_code 136 = .ok (.iload_n 1, 1) := by decide +kernel
theorem d_M_write_137 : decode prog_7_method_31_code 137 = .ok (.ifCond .ne 25, 3) := by decide +kernel
theorem d_M_write_140 : decode prog_7_method_31_code 140 = .ok (.aload_n 0, 1) := by decide +kernel
theorem d_M_write_141 : decode prog_7_method_31_code 141 = .ok (.aload_n 0, 1) := by decide +kernel
theorem d_M_write_142 : decode prog_7_method_31_code 142 = .ok (.getfield 16, 3) := by decide +kernel
theorem d_M_write_145 : decode prog_7_method_31_code 145 = .ok (.iload_n 2, 1) := by decide +kernel
theorem d_M_write_146 : decode prog_7_method_31_code 146 = .ok (.iaload, 1) := by decide +kernel
theorem d_M_write_147 : decode prog_7_method_31_code 147 = .ok (.invokevirtual 197, 3) := by decide +kernel
theorem d_M_write_150 : decode prog_7_method_31_code 150 = .ok (.aload_n 0, 1) := by decide +kernel
theorem d_M_write_151 : decode prog_7_method_31_code 151 = .ok (.bipush 10, 2) := by decide +kernel
theorem d_M_write_153 : decode prog_7_method_31_code 153 = .ok (.invokevirtual 194, 3) := by decide +kernel
theorem d_M_write_156 : decode prog_7_method_31_code 156 = .ok (.iinc 2 1, 3) := by decide +kernel
theorem d_M_write_159 : decode prog_7_method_31_code 159 = .ok (.goto (-33), 3) := by decide +kernel
theorem d_M_write_162 : decode prog_7_method_31_code 162 = .ok (.iconst 0, 1) := by decide +kernel
theorem d_M_write_163 : decode prog_7_method_31_code 163 = .ok (.istore_n 2, 1) := by decide +kernel
theorem d_M_write_164 : decode prog_7_method_31_code 164 = .ok (.iload_n 2, 1) := by decide +kernel
theorem d_M_write_165 : decode prog_7_method_31_code 165 = .ok (.aload_n 0, 1) := by decide +kernel
theorem d_M_write_166 : decode prog_7_method_31_code 166 = .ok (.getfield 13, 3) := by decide +kernel
theorem d_M_write_169 : decode prog_7_method_31_code 169 = .ok (.iconst 1, 1) := by decide +kernel
theorem d_M_write_170 : decode prog_7_method_31_code 170 = .ok (.iaload, 1) := by decide +kernel
theorem d_M_write_171 : decode prog_7_method_31_code 171 = .ok (.if_icmp .ge 34, 3) := by decide +kernel
theorem d_M_write_174 : decode prog_7_method_31_code 174 = .ok (.iload_n 1, 1) := by decide +kernel
theorem d_M_write_175 : decode prog_7_method_31_code 175 = .ok (.ifCond .ne 19, 3) := by decide +kernel
theorem d_M_write_178 : decode prog_7_method_31_code 178 = .ok (.aload_n 0, 1) := by decide +kernel
theorem d_M_write_179 : decode prog_7_method_31_code 179 = .ok (.aload_n 0, 1) := by decide +kernel
theorem d_M_write_180 : decode prog_7_method_31_code 180 = .ok (.getfield 19, 3) := by decide +kernel
theorem d_M_write_183 : decode prog_7_method_31_code 183 = .ok (.iload_n 2, 1) := by decide +kernel
theorem d_M_write_184 : decode prog_7_method_31_code 184 = .ok (.iaload, 1) := by decide +kernel
theorem d_M_write_185 : decode prog_7_method_31_code 185 = .ok (.invokevirtual 197, 3) := by decide +kernel
theorem d_M_write_188 : decode prog_7_method_31_code 188 = .ok (.aload_n 0, 1) := by decide +kernel
theorem d_M_write_189 : decode prog_7_method_31_code 189 = .ok (.bipush 32, 2) := by decide +kernel
theorem d_M_write_191 : decode prog_7_method_31_code 191 = .ok (.invokevirtual 194, 3) := by decide +kernel
theorem d_M_write_194 : decode prog_7_method_31_code 194 = .ok (.aload_n 0, 1) := by decide +kernel
theorem d_M_write_195 : decode prog_7_method_31_code 195 = .ok (.iload_n 2, 1) := by decide +kernel
theorem d_M_write_196 : decode prog_7_method_31_code 196 = .ok (.invokevirtual 200, 3) := by decide +kernel
theorem d_M_write_199 : decode prog_7_method_31_code 199 = .ok (.iinc 2 1, 3) := by decide +kernel
theorem d_M_write_202 : decode prog_7_method_31_code 202 = .ok (.goto (-38), 3) := by decide +kernel
theorem d_M_write_205 : decode prog_7_method_31_code 205 = .ok (.iconst 0, 1) := by decide +kernel
theorem d_M_write_206 : decode prog_7_method_31_code 206 = .ok (.istore_n 2, 1) := by decide +kernel
theorem d_M_write_207 : decode prog_7_method_31_code 207 = .ok (.iload_n 2, 1) := by decide +kernel
theorem d_M_write_208 : decode prog_7_method_31_code 208 = .ok (.aload_n 0, 1) := by decide +kernel
theorem d_M_write_209 : decode prog_7_method_31_code 209 = .ok (.getfield 13, 3) := by decide +kernel
theorem d_M_write_212 : decode prog_7_method_31_code 212 = .ok (.iconst 2, 1) := by decide +kernel
theorem d_M_write_213 : decode prog_7_method_31_code 213 = .ok (.iaload, 1) := by decide +kernel
theorem d_M_write_214 : decode prog_7_method_31_code 214 = .ok (.if_icmp .ge 25, 3) := by decide +kernel
theorem d_M_write_217 : decode prog_7_method_31_code 217 = .ok (.aload_n 0, 1) := by decide +kernel
theorem d_M_write_218 : decode prog_7_method_31_code 218 = .ok (.aload_n 0, 1) := by decide +kernel
theorem d_M_write_219 : decode prog_7_method_31_code 219 = .ok (.getfield 28, 3) := by decide +kernel
theorem d_M_write_222 : decode prog_7_method_31_code 222 = .ok (.iload_n 2, 1) := by decide +kernel
theorem d_M_write_223 : decode prog_7_method_31_code 223 = .ok (.iaload, 1) := by decide +kernel
theorem d_M_write_224 : decode prog_7_method_31_code 224 = .ok (.invokevirtual 197, 3) := by decide +kernel
theorem d_M_write_227 : decode prog_7_method_31_code 227 = .ok (.aload_n 0, 1) := by decide +kernel
theorem d_M_write_228 : decode prog_7_method_31_code 228 = .ok (.bipush 10, 2) := by decide +kernel
theorem d_M_write_230 : decode prog_7_method_31_code 230 = .ok (.invokevirtual 194, 3) := by decide +kernel
theorem d_M_write_233 : decode prog_7_method_31_code 233 = .ok (.iinc 2 1, 3) := by decide +kernel
theorem d_M_write_236 : decode prog_7_method_31_code 236 = .ok (.goto (-29), 3) := by decide +kernel
theorem d_M_write_239 : decode prog_7_method_31_code 239 = .ok (.iconst 0, 1) := by decide +kernel
theorem d_M_write_240 : decode prog_7_method_31_code 240 = .ok (.istore_n 2, 1) := by decide +kernel
theorem d_M_write_241 : decode prog_7_method_31_code 241 = .ok (.iload_n 2, 1) := by decide +kernel
theorem d_M_write_242 : decode prog_7_method_31_code 242 = .ok (.aload_n 0, 1) := by decide +kernel
theorem d_M_write_243 : decode prog_7_method_31_code 243 = .ok (.getfield 13, 3) := by decide +kernel
theorem d_M_write_246 : decode prog_7_method_31_code 246 = .ok (.iconst 3, 1) := by decide +kernel
theorem d_M_write_247 : decode prog_7_method_31_code 247 = .ok (.iaload, 1) := by decide +kernel
theorem d_M_write_248 : decode prog_7_method_31_code 248 = .ok (.if_icmp .ge 99, 3) := by decide +kernel
theorem d_M_write_251 : decode prog_7_method_31_code 251 = .ok (.iload_n 1, 1) := by decide +kernel
theorem d_M_write_252 : decode prog_7_method_31_code 252 = .ok (.iconst 1, 1) := by decide +kernel
theorem d_M_write_253 : decode prog_7_method_31_code 253 = .ok (.if_icmp .ne 40, 3) := by decide +kernel
theorem d_M_write_256 : decode prog_7_method_31_code 256 = .ok (.aload_n 0, 1) := by decide +kernel
theorem d_M_write_257 : decode prog_7_method_31_code 257 = .ok (.aload_n 0, 1) := by decide +kernel
theorem d_M_write_258 : decode prog_7_method_31_code 258 = .ok (.getfield 31, 3) := by decide +kernel
theorem d_M_write_261 : decode prog_7_method_31_code 261 = .ok (.iload_n 2, 1) := by decide +kernel
theorem d_M_write_262 : decode prog_7_method_31_code 262 = .ok (.iaload, 1) := by decide +kernel
theorem d_M_write_263 : decode prog_7_method_31_code 263 = .ok (.aload_n 0, 1) := by decide +kernel
theorem d_M_write_264 : decode prog_7_method_31_code 264 = .ok (.getfield 34, 3) := by decide +kernel
theorem d_M_write_267 : decode prog_7_method_31_code 267 = .ok (.iload_n 2, 1) := by decide +kernel
theorem d_M_write_268 : decode prog_7_method_31_code 268 = .ok (.iaload, 1) := by decide +kernel
theorem d_M_write_269 : decode prog_7_method_31_code 269 = .ok (.isub, 1) := by decide +kernel
theorem d_M_write_270 : decode prog_7_method_31_code 270 = .ok (.invokevirtual 203, 3) := by decide +kernel
theorem d_M_write_273 : decode prog_7_method_31_code 273 = .ok (.aload_n 0, 1) := by decide +kernel
theorem d_M_write_274 : decode prog_7_method_31_code 274 = .ok (.aload_n 0, 1) := by decide +kernel
theorem d_M_write_275 : decode prog_7_method_31_code 275 = .ok (.getfield 34, 3) := by decide +kernel
theorem d_M_write_278 : decode prog_7_method_31_code 278 = .ok (.iload_n 2, 1) := by decide +kernel
theorem d_M_write_279 : decode prog_7_method_31_code 279 = .ok (.iaload, 1) := by decide +kernel
theorem d_M_write_280 : decode prog_7_method_31_code 280 = .ok (.aload_n 0, 1) := by decide +kernel
theorem d_M_write_281 : decode prog_7_method_31_code 281 = .ok (.getfield 37, 3) := by decide +kernel
theorem d_M_write_284 : decode prog_7_method_31_code 284 = .ok (.iload_n 2, 1) := by decide +kernel
theorem d_M_write_285 : decode prog_7_method_31_code 285 = .ok (.iaload, 1) := by decide +kernel
theorem d_M_write_286 : decode prog_7_method_31_code 286 = .ok (.isub, 1) := by decide +kernel
theorem d_M_write_287 : decode prog_7_method_31_code 287 = .ok (.invokevirtual 203, 3) := by decide +kernel
theorem d_M_write_290 : decode prog_7_method_31_code 290 = .ok (.goto 51, 3) := by decide +kernel
theorem d_M_write_293 : decode prog_7_method_31_code 293 = .ok (.aload_n 0, 1) := by decide +kernel
theorem d_M_write_294 : decode prog_7_method_31_code 294 = .ok (.aload_n 0, 1) := by decide +kernel
theorem d_M_write_295 : decode prog_7_method_31_code 295 = .ok (.getfield 31, 3) := by decide +kernel
theorem d_M_write_298 : decode prog_7_method_31_code 298 = .ok (.iload_n 2, 1) := by decide +kernel
theorem d_M_write_299 : decode prog_7_method_31_code 299 = .ok (.iaload, 1) := by decide +kernel
theorem d_M_write_300 : decode prog_7_method_31_code 300 = .ok (.invokevirtual 197, 3) := by decide +kernel
theorem d_M_write_303 : decode prog_7_method_31_code 303 = .ok (.aload_n 0, 1) := by decide +kernel
theorem d_M_write_304 : decode prog_7_method_31_code 304 = .ok (.bipush 32, 2) := by decide +kernel
theorem d_M_write_306 : decode prog_7_method_31_code 306 = .ok (.invokevirtual 194, 3) := by decide +kernel
theorem d_M_write_309 : decode prog_7_method_31_code 309 = .ok (.aload_n 0, 1) := by decide +kernel
theorem d_M_write_310 : decode prog_7_method_31_code 310 = .ok (.aload_n 0, 1) := by decide +kernel
theorem d_M_write_311 : decode prog_7_method_31_code 311 = .ok (.getfield 34, 3) := by decide +kernel
theorem d_M_write_314 : decode prog_7_method_31_code 314 = .ok (.iload_n 2, 1) := by decide +kernel
theorem d_M_write_315 : decode prog_7_method_31_code 315 = .ok (.iaload, 1) := by decide +kernel
theorem d_M_write_316 : decode prog_7_method_31_code 316 = .ok (.invokevirtual 197, 3) := by decide +kernel
theorem d_M_write_319 : decode prog_7_method_31_code 319 = .ok (.aload_n 0, 1) := by decide +kernel
theorem d_M_write_320 : decode prog_7_method_31_code 320 = .ok (.bipush 32, 2) := by decide +kernel
theorem d_M_write_322 : decode prog_7_method_31_code 322 = .ok (.invokevirtual 194, 3) := by decide +kernel
theorem d_M_write_325 : decode prog_7_method_31_code 325 = .ok (.aload_n 0, 1) := by decide +kernel
theorem d_M_write_326 : decode prog_7_method_31_code 326 = .ok (.aload_n 0, 1) := by decide +kernel
theorem d_M_write_327 : decode prog_7_method_31_code 327 = .ok (.getfield 37, 3) := by decide +kernel
theorem d_M_write_330 : decode prog_7_method_31_code 330 = .ok (.iload_n 2, 1) := by decide +kernel
theorem d_M_write_331 : decode prog_7_method_31_code 331 = .ok (.iaload, 1) := by decide +kernel
theorem d_M_write_332 : decode prog_7_method_31_code 332 = .ok (.invokevirtual 197, 3) := by decide +kernel
theorem d_M_write_335 : decode prog_7_method_31_code 335 = .ok (.aload_n 0, 1) := by decide +kernel
theorem d_M_write_336 : decode prog_7_method_31_code 336 = .ok (.bipush 10, 2) := by decide +kernel
theorem d_M_write_338 : decode prog_7_method_31_code 338 = .ok (.invokevirtual 194, 3) := by decide +kernel
theorem d_M_write_341 : decode prog_7_method_31_code 341 = .ok (.iinc 2 1, 3) := by decide +kernel
theorem d_M_write_344 : decode prog_7_method_31_code 344 = .ok (.goto (-103), 3) := by decide +kernel
theorem d_M_write_347 : decode prog_7_method_31_code 347 = .ok (.aload_n 0, 1) := by decide +kernel
theorem d_M_write_348 : decode prog_7_method_31_code 348 = .ok (.getfield 191, 3) := by decide +kernel
theorem d_M_write_351 : decode prog_7_method_31_code 351 = .ok (.ireturn, 1) := by decide +kernel
theorem d_M_written_0 : decode prog_7_method_32_code 0 = .ok (.aload_n 0, 1) := by decide +kernel
theorem d_M_written_1 : decode prog_7_method_32_code 1 = .ok (.iload_n 1, 1) := by decide +kernel
theorem d_M_written_2 : decode prog_7_method_32_code 2 = .ok (.ifCond .ge 7, 3) := by decide +kernel
theorem d_M_written_5 : decode prog_7_method_32_code 5 = .ok (.iconst 1, 1) := by decide +kernel
theorem d_M_written_6 : decode prog_7_method_32_code 6 = .ok (.goto 4, 3) := by decide +kernel
theorem d_M_written_9 : decode prog_7_method_32_code 9 = .ok (.iconst 0, 1) := by decide +kernel
theorem d_M_written_10 : decode prog_7_method_32_code 10 = .ok (.putfield 98, 3) := by decide +kernel
theorem d_M_written_13 : decode prog_7_method_32_code 13 = .ok (.aload_n 0, 1) := by decide +kernel
theorem d_M_written_14 : decode prog_7_method_32_code 14 = .ok (.getfield 98, 3) := by decide +kernel
theorem d_M_written_17 : decode prog_7_method_32_code 17 = .ok (.ifCond .le 7, 3) := by decide +kernel
theorem d_M_written_20 : decode prog_7_method_32_code 20 = .ok (.iconst 0, 1) := by decide +kernel
theorem d_M_written_21 : decode prog_7_method_32_code 21 = .ok (.goto 21, 3) := by decide +kernel
theorem d_M_written_24 : decode prog_7_method_32_code 24 = .ok (.iload_n 1, 1) := by decide +kernel
theorem d_M_written_25 : decode prog_7_method_32_code 25 = .ok (.aload_n 0, 1) := by decide +kernel
theorem d_M_written_26 : decode prog_7_method_32_code 26 = .ok (.getfield 191, 3) := by decide +kernel
theorem d_M_written_29 : decode prog_7_method_32_code 29 = .ok (.if_icmp .ge 12, 3) := by decide +kernel
theorem d_M_written_32 : decode prog_7_method_32_code 32 = .ok (.aload_n 0, 1) := by decide +kernel
theorem d_M_written_33 : decode prog_7_method_32_code 33 = .ok (.getfield 43, 3) := by decide +kernel
theorem d_M_written_36 : decode prog_7_method_32_code 36 = .ok (.iload_n 1, 1) := by decide +kernel
theorem d_M_written_37 : decode prog_7_method_32_code 37 = .ok (.iaload, 1) := by decide +kernel
theorem d_M_written_38 : decode prog_7_method_32_code 38 = .ok (.goto 4, 3) := by decide +kernel
theorem d_M_written_41 : decode prog_7_method_32_code 41 = .ok (.iconst (-1), 1) := by decide +kernel
theorem d_M_written_42 : decode prog_7_method_32_code 42 = .ok (.ireturn, 1) := by decide +kernel
theorem d_M_reset_0 : decode prog_7_method_33_code 0 = .ok (.aload_n 0, 1) := by decide +kernel
theorem d_M_reset_1 : decode prog_7_method_33_code 1 = .ok (.iconst 0, 1) := by decide +kernel
theorem d_M_reset_2 : decode prog_7_method_33_code 2 = .ok (.putfield 98, 3) := by decide +kernel
theorem d_M_reset_5 : decode prog_7_method_33_code 5 = .ok (.iconst 0, 1) := by decide +kernel
theorem d_M_reset_6 : decode prog_7_method_33_code 6 = .ok (.istore_n 1, 1) := by decide +kernel
theorem d_M_reset_7 : decode prog_7_method_33_code 7 = .ok (.iload_n 1, 1) := by decide +kernel
theorem d_M_reset_8 : decode prog_7_method_33_code 8 = .ok (.bipush 8, 2) := by decide +kernel
theorem d_M_reset_10 : decode prog_7_method_33_code 10 = .ok (.if_icmp .ge 21, 3) := by decide +kernel
theorem d_M_reset_13 : decode prog_7_method_33_code 13 = .ok (.aload_n 0, 1) := by decide +kernel
theorem d_M_reset_14 : decode prog_7_method_33_code 14 = .ok (.getfield 40, 3) := by decide +kernel
theorem d_M_reset_17 : decode prog_7_method_33_code 17 = .ok (.iload_n 1, 1) := by decide +kernel
theorem d_M_reset_18 : decode prog_7_method_33_code 18 = .ok (.aload_n 0, 1) := by decide +kernel
theorem d_M_reset_19 : decode prog_7_method_33_code 19 = .ok (.getfield 25, 3) := by decide +kernel
theorem d_M_reset_22 : decode prog_7_method_33_code 22 = .ok (.iload_n 1, 1) := by decide +kernel
theorem d_M_reset_23 : decode prog_7_method_33_code 23 = .ok (.iaload, 1) := by decide +kernel
theorem d_M_reset_24 : decode prog_7_method_33_code 24 = .ok (.iastore, 1) := by decide +kernel
theorem d_M_reset_25 : decode prog_7_method_33_code 25 = .ok (.iinc 1 1, 3) := by decide +kernel
theorem d_M_reset_28 : decode prog_7_method_33_code 28 = .ok (.goto (-21), 3) := by decide +kernel
theorem d_M_reset_31 : decode prog_7_method_33_code 31 = .ok (.return_, 1) := by decide +kernel
theorem d_M_valueOf_0 : decode prog_7_method_34_code 0 = .ok (.aload_n 0, 1) := by decide +kernel
theorem d_M_valueOf_1 : decode prog_7_method_34_code 1 = .ok (.getfield 89, 3) := by decide +kernel
theorem d_M_valueOf_4 : decode prog_7_method_34_code 4 = .ok (.iload_n 1, 1) := by decide +kernel
theorem d_M_valueOf_5 : decode prog_7_method_34_code 5 = .ok (.iconst 2, 1) := by decide +kernel
theorem d_M_valueOf_6 : decode prog_7_method_34_code 6 = .ok (.idiv, 1) := by decide +kernel
theorem d_M_valueOf_7 : decode prog_7_method_34_code 7 = .ok (.iaload, 1) := by decide +kernel
theorem d_M_valueOf_8 : decode prog_7_method_34_code 8 = .ok (.istore_n 2, 1) := by decide +kernel
theorem d_M_valueOf_9 : decode prog_7_method_34_code 9 = .ok (.iload_n 2, 1) := by decide +kernel
theorem d_M_valueOf_10 : decode prog_7_method_34_code 10 = .ok (.iconst (-1), 1) := by decide +kernel
theorem d_M_valueOf_11 : decode prog_7_method_34_code 11 = .ok (.if_icmp .ne 7, 3) := by decide +kernel
theorem d_M_valueOf_14 : decode prog_7_method_34_code 14 = .ok (.iconst (-1), 1) := by decide +kernel
theorem d_M_valueOf_15 : decode prog_7_method_34_code 15 = .ok (.goto 8, 3) := by decide +kernel
theorem d_M_valueOf_18 : decode prog_7_method_34_code 18 = .ok (.iload_n 2, 1) := by decide +kernel
theorem d_M_valueOf_19 : decode prog_7_method_34_code 19 = .ok (.iload_n 1, 1) := by decide +kernel
theorem d_M_valueOf_20 : decode prog_7_method_34_code 20 = .ok (.iconst 2, 1) := by decide +kernel
theorem d_M_valueOf_21 : decode prog_7_method_34_code 21 = .ok (.irem, 1) := by decide +kernel
theorem d_M_valueOf_22 : decode prog_7_method_34_code 22 = .ok (.ixor, 1) := by decide +kernel
theorem d_M_valueOf_23 : decode prog_7_method_34_code 23 = .ok (.ireturn, 1) := by decide +kernel
theorem d_M_cycle_0 : decode prog_7_method_35_code 0 = .ok (.aload_n 0, 1) := by decide +kernel
theorem d_M_cycle_1 : decode prog_7_method_35_code 1 = .ok (.iconst 0, 1) := by decide +kernel
theorem d_M_cycle_2 : decode prog_7_method_35_code 2 = .ok (.putfield 98, 3) := by decide +kernel
theorem d_M_cycle_5 : decode prog_7_method_35_code 5 = .ok (.iconst 0, 1) := by decide +kernel
theorem d_M_cycle_6 : decode prog_7_method_35_code 6 = .ok (.istore_n 2, 1) := by decide +kernel
theorem d_M_cycle_7 : decode prog_7_method_35_code 7 = .ok (.iload_n 2, 1) := by decide +kernel
theorem d_M_cycle_8 : decode prog_7_method_35_code 8 = .ok (.bipush 100, 2) := by decide +kernel
theorem d_M_cycle_10 : decode prog_7_method_35_code 10 = .ok (.if_icmp .ge 24, 3) := by decide +kernel
theorem d_M_cycle_13 : decode prog_7_method_35_code 13 = .ok (.aload_n 0, 1) := by decide +kernel
theorem d_M_cycle_14 : decode prog_7_method_35_code 14 = .ok (.getfield 89, 3) := by decide +kernel
theorem d_M_cycle_17 : decode prog_7_method_35_code 17 = .ok (.iload_n 2, 1) := by decide +kernel
theorem d_M_cycle_18 : decode prog_7_method_35_code 18 = .ok (.iload_n 2, 1) := by decide +kernel
theorem d_M_cycle_19 : decode prog_7_method_35_code 19 = .ok (.ifCond .ne 7, 3) := by decide +kernel
theorem d_M_cycle_22 : decode prog_7_method_35_code 22 = .ok (.iconst 0, 1) := by decide +kernel
theorem d_M_cycle_23 : decode prog_7_method_35_code 23 = .ok (.goto 4, 3) := by decide +kernel
theorem d_M_cycle_26 : decode prog_7_method_35_code 26 = .ok (.iconst (-1), 1) := by decide +kernel
theorem d_M_cycle_27 : decode prog_7_method_35_code 27 = .ok (.iastore, 1) := by decide +kernel
theorem d_M_cycle_28 : decode prog_7_method_35_code 28 = .ok (.iinc 2 1, 3) := by decide +kernel
theorem d_M_cycle_31 : decode prog_7_method_35_code 31 = .ok (.goto (-24), 3) := by decide +kernel
theorem d_M_cycle_34 : decode prog_7_method_35_code 34 = .ok (.iconst 0, 1) := by decide +kernel
theorem d_M_cycle_35 : decode prog_7_method_35_code 35 = .ok (.istore_n 2, 1) := by decide +kernel
theorem d_M_cycle_36 : decode prog_7_method_35_code 36 = .ok (.iload_n 2, 1) := by decide +kernel
theorem d_M_cycle_37 : decode prog_7_method_35_code 37 = .ok (.aload_n 0, 1) := by decide +kernel
theorem d_M_cycle_38 : decode prog_7_method_35_code 38 = .ok (.getfield 13, 3) := by decide +kernel
theorem d_M_cycle_41 : decode prog_7_method_35_code 41 = .ok (.iconst 0, 1) := by decide +kernel
theorem d_M_cycle_42 : decode prog_7_method_35_code 42 = .ok (.iaload, 1) := by decide +kernel
theorem d_M_cycle_43 : decode prog_7_method_35_code 43 = .ok (.if_icmp .ge 27, 3) := by decide +kernel
theorem d_M_cycle_46 : decode prog_7_method_35_code 46 = .ok (.aload_n 0, 1) := by decide +kernel
theorem d_M_cycle_47 : decode prog_7_method_35_code 47 = .ok (.getfield 89, 3) := by decide +kernel
theorem d_M_cycle_50 : decode prog_7_method_35_code 50 = .ok (.aload_n 0, 1) := by decide +kernel
theorem d_M_cycle_51 : decode prog_7_method_35_code 51 = .ok (.getfield 16, 3) := by decide +kernel
theorem d_M_cycle_54 : decode prog_7_method_35_code 54 = .ok (.iload_n 2, 1) := by decide +kernel
theorem d_M_cycle_55 : decode prog_7_method_35_code 55 = .ok (.iaload, 1) := by decide +kernel
theorem d_M_cycle_56 : decode prog_7_method_35_code 56 = .ok (.iconst 2, 1) := by decide +kernel
theorem d_M_cycle_57 : decode prog_7_method_35_code 57 = .ok (.idiv, 1) := by decide +kernel
theorem d_M_cycle_58 : decode prog_7_method_35_code 58 = .ok (.iload_n 1, 1) := by decide +kernel
theorem d_M_cycle_59 : decode prog_7_method_35_code 59 = .ok (.iload_n 2, 1) := by decide +kernel
theorem d_M_cycle_60 : decode prog_7_method_35_code 60 = .ok (.ishr, 1) := by decide +kernel
theorem d_M_cycle_61 : decode prog_7_method_35_code 61 = .ok (.iconst 1, 1) := by decide +kernel
theorem d_M_cycle_62 : decode prog_7_method_35_code 62 = .ok (.iand, 1) := by decide +kernel
theorem d_M_cycle_63 : decode prog_7_method_35_code 63 = .ok (.iastore, 1) := by decide +kernel
theorem d_M_cycle_64 : decode prog_7_method_35_code 64 = .ok (.iinc 2 1, 3) := by decide +kernel
theorem d_M_cycle_67 : decode prog_7_method_35_code 67 = .ok (.goto (-31), 3) := by decide +kernel
theorem d_M_cycle_70 : decode prog_7_method_35_code 70 = .ok (.iconst 0, 1) := by decide +kernel
theorem d_M_cycle_71 : decode prog_7_method_35_code 71 = .ok (.istore_n 2, 1) := by decide +kernel
theorem d_M_cycle_72 : decode prog_7_method_35_code 72 = .ok (.iload_n 2, 1) := by decide +kernel
theorem d_M_cycle_73 : decode prog_7_method_35_code 73 = .ok (.aload_n 0, 1) := by decide +kernel
theorem d_M_cycle_74 : decode prog_7_method_35_code 74 = .ok (.getfield 13, 3) := by decide +kernel
theorem d_M_cycle_77 : decode prog_7_method_35_code 77 = .ok (.iconst 1, 1) := by decide +kernel
theorem d_M_cycle_78 : decode prog_7_method_35_code 78 = .ok (.iaload, 1) := by decide +kernel
theorem d_M_cycle_79 : decode prog_7_method_35_code 79 = .ok (.if_icmp .ge 28, 3) := by decide +kernel
theorem d_M_cycle_82 : decode prog_7_method_35_code 82 = .ok (.aload_n 0, 1) := by decide +kernel
theorem d_M_cycle_83 : decode prog_7_method_35_code 83 = .ok (.getfield 89, 3) := by decide +kernel
theorem d_M_cycle_86 : decode prog_7_method_35_code 86 = .ok (.aload_n 0, 1) := by decide +kernel
theorem d_M_cycle_87 : decode prog_7_method_35_code 87 = .ok (.getfield 19, 3) := by decide +kernel
theorem d_M_cycle_90 : decode prog_7_method_35_code 90 = .ok (.iload_n 2, 1) := by decide +kernel
theorem d_M_cycle_91 : decode prog_7_method_35_code 91 = .ok (.iaload, 1) := by decide +kernel
theorem d_M_cycle_92 : decode prog_7_method_35_code 92 = .ok (.iconst 2, 1) := by decide +kernel
theorem d_M_cycle_93 : decode prog_7_method_35_code 93 = .ok (.idiv, 1) := by decide +kernel
theorem d_M_cycle_94 : decode prog_7_method_35_code 94 = .ok (.aload_n 0, 1) := by decide +kernel
theorem d_M_cycle_95 : decode prog_7_method_35_code 95 = .ok (.getfield 40, 3) := by decide +kernel
theorem d_M_cycle_98 : decode prog_7_method_35_code 98 = .ok (.iload_n 2, 1) := by decide +kernel
theorem d_M_cycle_99 : decode prog_7_method_35_code 99 = .ok (.iaload, 1) := by decide +kernel
theorem d_M_cycle_100 : decode prog_7_method_35_code 100 = .ok (.iastore, 1) := by decide +kernel
theorem d_M_cycle_101 : decode prog_7_method_35_code 101 = .ok (.iinc 2 1, 3) := by decide +kernel
theorem d_M_cycle_104 : decode prog_7_method_35_code 104 = .ok (.goto (-32), 3) := by decide +kernel
theorem d_M_cycle_107 : decode prog_7_method_35_code 107 = .ok (.iconst 1, 1) := by decide +kernel
theorem d_M_cycle_108 : decode prog_7_method_35_code 108 = .ok (.istore_n 2, 1) := by decide +kernel
theorem d_M_cycle_109 : decode prog_7_method_35_code 109 = .ok (.iload_n 2, 1) := by decide +kernel
theorem d_M_cycle_110 : decode prog_7_method_35_code 110 = .ok (.ifCond .eq 99, 3) := by decide +kernel
theorem d_M_cycle_113 : decode prog_7_method_35_code 113 = .ok (.iconst 0, 1) := by decide +kernel
theorem d_M_cycle_114 : decode prog_7_method_35_code 114 = .ok (.istore_n 2, 1) := by decide +kernel
theorem d_M_cycle_115 : decode prog_7_method_35_code 115 = .ok (.iconst 0, 1) := by decide +kernel
theorem d_M_cycle_116 : decode prog_7_method_35_code 116 = .ok (.istore_n 3, 1) := by decide +kernel
theorem d_M_cycle_117 : decode prog_7_method_35_code 117 = .ok (.iload_n 3, 1) := by decide +kernel
theorem d_M_cycle_118 : decode prog_7_method_35_code 118 = .ok (.aload_n 0, 1) := by decide +kernel
theorem d_M_cycle_119 : decode prog_7_method_35_code 119 = .ok (.getfield 13, 3) := by decide +kernel
theorem d_M_cycle_122 : decode prog_7_method_35_code 122 = .ok (.iconst 3, 1) := by decide +kernel
theorem d_M_cycle_123 : decode prog_7_method_35_code 123 = .ok (.iaload, 1) := by decide +kernel
theorem d_M_cycle_124 : decode prog_7_method_35_code 124 = .ok (.if_icmp .ge 82, 3) := by decide +kernel
theorem d_M_cycle_127 : decode prog_7_method_35_code 127 = .ok (.aload_n 0, 1) := by decide +kernel
theorem d_M_cycle_128 : decode prog_7_method_35_code 128 = .ok (.aload_n 0, 1) := by decide +kernel
theorem d_M_cycle_129 : decode prog_7_method_35_code 129 = .ok (.getfield 34, 3) := by decide +kernel
theorem d_M_cycle_132 : decode prog_7_method_35_code 132 = .ok (.iload_n 3, 1) := by decide +kernel
theorem d_M_cycle_133 : decode prog_7_method_35_code 133 = .ok (.iaload, 1) := by decide +kernel
theorem d_M_cycle_134 : decode prog_7_method_35_code 134 = .ok (.invokevirtual 206, 3) := by decide +kernel
theorem d_M_cycle_137 : decode prog_7_method_35_code 137 = .ok (.istore 4, 2) := by decide +kernel
theorem d_M_cycle_139 : decode prog_7_method_35_code 139 = .ok (.aload_n 0, 1) := by decide +kernel
theorem d_M_cycle_140 : decode prog_7_method_35_code 140 = .ok (.aload_n 0, 1) := by decide +kernel
theorem d_M_cycle_141 : decode prog_7_method_35_code 141 = .ok (.getfield 37, 3) := by decide +kernel
theorem d_M_cycle_144 : decode prog_7_method_35_code 144 = .ok (.iload_n 3, 1) := by decide +kernel
theorem d_M_cycle_145 : decode prog_7_method_35_code 145 = .ok (.iaload, 1) := by decide +kernel
theorem d_M_cycle_146 : decode prog_7_method_35_code 146 = .ok (.invokevirtual 206, 3) := by decide +kernel
theorem d_M_cycle_149 : decode prog_7_method_35_code 149 = .ok (.istore 5, 2) := by decide +kernel
theorem d_M_cycle_151 : decode prog_7_method_35_code 151 = .ok (.aload_n 0, 1) := by decide +kernel
theorem d_M_cycle_152 : decode prog_7_method_35_code 152 = .ok (.getfield 89, 3) := by decide +kernel
theorem d_M_cycle_155 : decode prog_7_method_35_code 155 = .ok (.aload_n 0, 1) := by decide +kernel
theorem d_M_cycle_156 : decode prog_7_method_35_code 156 = .ok (.getfield 31, 3) := by decide +kernel
theorem d_M_cycle_159 : decode prog_7_method_35_code 159 = .ok (.iload_n 3, 1) := by decide +kernel
theorem d_M_cycle_160 : decode prog_7_method_35_code 160 = .ok (.iaload, 1) := by decide +kernel
theorem d_M_cycle_161 : decode prog_7_method_35_code 161 = .ok (.iconst 2, 1) := by decide +kernel
theorem d_M_cycle_162 : decode prog_7_method_35_code 162 = .ok (.idiv, 1) := by decide +kernel
theorem d_M_cycle_163 : decode prog_7_method_35_code 163 = .ok (.iaload, 1) := by decide +kernel
theorem d_M_cycle_164 : decode prog_7_method_35_code 164 = .ok (.iconst (-1), 1) := by decide +kernel
theorem d_M_cycle_165 : decode prog_7_method_35_code 165 = .ok (.if_icmp .ne 35, 3) := by decide +kernel
theorem d_M_cycle_168 : decode prog_7_method_35_code 168 = .ok (.iload 4, 2) := by decide +kernel
theorem d_M_cycle_170 : decode prog_7_method_35_code 170 = .ok (.iconst (-1), 1) := by decide +kernel
theorem d_M_cycle_171 : decode prog_7_method_35_code 171 = .ok (.if_icmp .eq 29, 3) := by decide +kernel
theorem d_M_cycle_174 : decode prog_7_method_35_code 174 = .ok (.iload 5, 2) := by decide +kernel
theorem d_M_cycle_176 : decode prog_7_method_35_code 176 = .ok (.iconst (-1), 1) := by decide +kernel
theorem d_M_cycle_177 : decode prog_7_method_35_code 177 = .ok (.if_icmp .eq 23, 3) := by decide +kernel
theorem d_M_cycle_180 : decode prog_7_method_35_code 180 = .ok (.aload_n 0, 1) := by decide +kernel
theorem d_M_cycle_181 : decode prog_7_method_35_code 181 = .ok (.getfield 89, 3) := by decide +kernel
theorem d_M_cycle_184 : decode prog_7_method_35_code 184 = .ok (.aload_n 0, 1) := by decide +kernel
theorem d_M_cycle_185 : decode prog_7_method_35_code 185 = .ok (.getfield 31, 3) := by decide +kernel
theorem d_M_cycle_188 : decode prog_7_method_35_code 188 = .ok (.iload_n 3, 1) := by decide +kernel
theorem d_M_cycle_189 : decode prog_7_method_35_code 189 = .ok (.iaload, 1) := by decide +kernel
theorem d_M_cycle_190 : decode prog_7_method_35_code 190 = .ok (.iconst 2, 1) := by decide +kernel
theorem d_M_cycle_191 : decode prog_7_method_35_code 191 = .ok (.idiv, 1) := by decide +kernel
theorem d_M_cycle_192 : decode prog_7_method_35_code 192 = .ok (.iload 4, 2) := by decide +kernel
theorem d_M_cycle_194 : decode prog_7_method_35_code 194 = .ok (.iload 5, 2) := by decide +kernel
theorem d_M_cycle_196 : decode prog_7_method_35_code 196 = .ok (.iand, 1) := by decide +kernel
theorem d_M_cycle_197 : decode prog_7_method_35_code 197 = .ok (.iastore, 1) := by decide +kernel
theorem d_M_cycle_198 : decode prog_7_method_35_code 198 = .ok (.iconst 1, 1) := by decide +kernel
theorem d_M_cycle_199 : decode prog_7_method_35_code 199 = .ok (.istore_n 2, 1) := by decide +kernel
theorem d_M_cycle_200 : decode prog_7_method_35_code 200 = .ok (.iinc 3 1, 3) := by decide +kernel
theorem d_M_cycle_203 : decode prog_7_method_35_code 203 = .ok (.goto (-86), 3) := by decide +kernel
theorem d_M_cycle_206 : decode prog_7_method_35_code 206 = .ok (.goto (-97), 3) := by decide +kernel
theorem d_M_cycle_209 : decode prog_7_method_35_code 209 = .ok (.iconst 0, 1) := by decide +kernel
theorem d_M_cycle_210 : decode prog_7_method_35_code 210 = .ok (.istore_n 3, 1) := by decide +kernel
theorem d_M_cycle_211 : decode prog_7_method_35_code 211 = .ok (.iconst 0, 1) := by decide +kernel
theorem d_M_cycle_212 : decode prog_7_method_35_code 212 = .ok (.istore 4, 2) := by decide +kernel
theorem d_M_cycle_214 : decode prog_7_method_35_code 214 = .ok (.iload 4, 2) := by decide +kernel
theorem d_M_cycle_216 : decode prog_7_method_35_code 216 = .ok (.aload_n 0, 1) := by decide +kernel
theorem d_M_cycle_217 : decode prog_7_method_35_code 217 = .ok (.getfield 13, 3) := by decide +kernel
theorem d_M_cycle_220 : decode prog_7_method_35_code 220 = .ok (.iconst 2, 1) := by decide +kernel
theorem d_M_cycle_221 : decode prog_7_method_35_code 221 = .ok (.iaload, 1) := by decide +kernel
theorem d_M_cycle_222 : decode prog_7_method_35_code 222 = .ok (.if_icmp .ge 26, 3) := by decide +kernel
theorem d_M_cycle_225 : decode prog_7_method_35_code 225 = .ok (.iload_n 3, 1) := by decide +kernel
theorem d_M_cycle_226 : decode prog_7_method_35_code 226 = .ok (.aload_n 0, 1) := by decide +kernel
theorem d_M_cycle_227 : decode prog_7_method_35_code 227 = .ok (.aload_n 0, 1) := by decide +kernel
theorem d_M_cycle_228 : decode prog_7_method_35_code 228 = .ok (.getfield 28, 3) := by decide +kernel
theorem d_M_cycle_231 : decode prog_7_method_35_code 231 = .ok (.iload 4, 2) := by decide +kernel
theorem d_M_cycle_233 : decode prog_7_method_35_code 233 = .ok (.iaload, 1) := by decide +kernel
theorem d_M_cycle_234 : decode prog_7_method_35_code 234 = .ok (.invokevirtual 206, 3) := by decide +kernel
theorem d_M_cycle_237 : decode prog_7_method_35_code 237 = .ok (.iload 4, 2) := by decide +kernel
theorem d_M_cycle_239 : decode prog_7_method_35_code 239 = .ok (.ishl, 1) := by decide +kernel
theorem d_M_cycle_240 : decode prog_7_method_35_code 240 = .ok (.ior, 1) := by decide +kernel
theorem d_M_cycle_241 : decode prog_7_method_35_code 241 = .ok (.istore_n 3, 1) := by decide +kernel
theorem d_M_cycle_242 : decode prog_7_method_35_code 242 = .ok (.iinc 4 1, 3) := by decide +kernel
theorem d_M_cycle_245 : decode prog_7_method_35_code 245 = .ok (.goto (-31), 3) := by decide +kernel
theorem d_M_cycle_248 : decode prog_7_method_35_code 248 = .ok (.iconst 0, 1) := by decide +kernel
theorem d_M_cycle_249 : decode prog_7_method_35_code 249 = .ok (.istore 4, 2) := by decide +kernel
theorem d_M_cycle_251 : decode prog_7_method_35_code 251 = .ok (.iload 4, 2) := by decide +kernel
theorem d_M_cycle_253 : decode prog_7_method_35_code 253 = .ok (.aload_n 0, 1) := by decide +kernel
theorem d_M_cycle_254 : decode prog_7_method_35_code 254 = .ok (.getfield 13, 3) := by decide +kernel
theorem d_M_cycle_257 : decode prog_7_method_35_code 257 = .ok (.iconst 1, 1) := by decide +kernel
theorem d_M_cycle_258 : decode prog_7_method_35_code 258 = .ok (.iaload, 1) := by decide +kernel
theorem d_M_cycle_259 : decode prog_7_method_35_code 259 = .ok (.if_icmp .ge 27, 3) := by decide +kernel
theorem d_M_cycle_262 : decode prog_7_method_35_code 262 = .ok (.aload_n 0, 1) := by decide +kernel
theorem d_M_cycle_263 : decode prog_7_method_35_code 263 = .ok (.getfield 40, 3) := by decide +kernel
theorem d_M_cycle_266 : decode prog_7_method_35_code 266 = .ok (.iload 4, 2) := by decide +kernel
theorem d_M_cycle_268 : decode prog_7_method_35_code 268 = .ok (.aload_n 0, 1) := by decide +kernel
theorem d_M_cycle_269 : decode prog_7_method_35_code 269 = .ok (.aload_n 0, 1) := by decide +kernel
theorem d_M_cycle_270 : decode prog_7_method_35_code 270 = .ok (.getfield 22, 3) := by decide +kernel
theorem d_M_cycle_273 : decode prog_7_method_35_code 273 = .ok (.iload 4, 2) := by decide +kernel
theorem d_M_cycle_275 : decode prog_7_method_35_code 275 = .ok (.iaload, 1) := by decide +kernel
theorem d_M_cycle_276 : decode prog_7_method_35_code 276 = .ok (.invokevirtual 206, 3) := by decide +kernel
theorem d_M_cycle_279 : decode prog_7_method_35_code 279 = .ok (.iastore, 1) := by decide +kernel
theorem d_M_cycle_280 : decode prog_7_method_35_code 280 = .ok (.iinc 4 1, 3) := by decide +kernel
theorem d_M_cycle_283 : decode prog_7_method_35_code 283 = .ok (.goto (-32), 3) := by decide +kernel
theorem d_M_cycle_286 : decode prog_7_method_35_code 286 = .ok (.iload_n 3, 1) := by decide +kernel
theorem d_M_cycle_287 : decode prog_7_method_35_code 287 = .ok (.ireturn, 1) := by decide +kernel
theorem d_M_latches_0 : decode prog_7_method_36_code 0 = .ok (.aload_n 0, 1) := by decide +kernel
theorem d_M_latches_1 : decode prog_7_method_36_code 1 = .ok (.iconst 0, 1) := by decide +kernel
theorem d_M_latches_2 : decode prog_7_method_36_code 2 = .ok (.putfield 98, 3) := by decide +kernel
theorem d_M_latches_5 : decode prog_7_method_36_code 5 = .ok (.iconst 0, 1) := by decide +kernel
theorem d_M_latches_6 : decode prog_7_method_36_code 6 = .ok (.istore_n 1, 1) := by decide +kernel
theorem d_M_latches_7 : decode prog_7_method_36_code 7 = .ok (.iconst 0, 1) := by decide +kernel
theorem d_M_latches_8 : decode prog_7_method_36_code 8 = .ok (.istore_n 2, 1) := by decide +kernel
theorem d_M_latches_9 : decode prog_7_method_36_code 9 = .ok (.iload_n 2, 1) := by decide +kernel
theorem d_M_latches_10 : decode prog_7_method_36_code 10 = .ok (.aload_n 0, 1) := by decide +kernel
theorem d_M_latches_11 : decode prog_7_method_36_code 11 = .ok (.getfield 13, 3) := by decide +kernel
theorem d_M_latches_14 : decode prog_7_method_36_code 14 = .ok (.iconst 1, 1) := by decide +kernel
theorem d_M_latches_15 : decode prog_7_method_36_code 15 = .ok (.iaload, 1) := by decide +kernel
theorem d_M_latches_16 : decode prog_7_method_36_code 16 = .ok (.if_icmp .ge 20, 3) := by decide +kernel
theorem d_M_latches_19 : decode prog_7_method_36_code 19 = .ok (.iload_n 1, 1) := by decide +kernel
theorem d_M_latches_20 : decode prog_7_method_36_code 20 = .ok (.aload_n 0, 1) := by decide +kernel
theorem d_M_latches_21 : decode prog_7_method_36_code 21 = .ok (.getfield 40, 3) := by decide +kernel
theorem d_M_latches_24 : decode prog_7_method_36_code 24 = .ok (.iload_n 2, 1) := by decide +kernel
theorem d_M_latches_25 : decode prog_7_method_36_code 25 = .ok (.iaload, 1) := by decide +kernel
theorem d_M_latches_26 : decode prog_7_method_36_code 26 = .ok (.iload_n 2, 1) := by decide +kernel
theorem d_M_latches_27 : decode prog_7_method_36_code 27 = .ok (.ishl, 1) := by decide +kernel
theorem d_M_latches_28 : decode prog_7_method_36_code 28 = .ok (.ior, 1) := by decide +kernel
theorem d_M_latches_29 : decode prog_7_method_36_code 29 = .ok (.istore_n 1, 1) := by decide +kernel
theorem d_M_latches_30 : decode prog_7_method_36_code 30 = .ok (.iinc 2 1, 3) := by decide +kernel
theorem d_M_latches_33 : decode prog_7_method_36_code 33 = .ok (.goto (-24), 3) := by decide +kernel
theorem d_M_latches_36 : decode prog_7_method_36_code 36 = .ok (.iload_n 1, 1) := by decide +kernel
theorem d_M_latches_37 : decode prog_7_method_36_code 37 = .ok (.ireturn, 1) := by decide +kernel
