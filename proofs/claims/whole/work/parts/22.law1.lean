theorem wt_505 : (.methodLink "DesignTextsLaw" 37 ⟨"DesignTextsLaw", "put", "(LDesignTexts;II[J)I"⟩ : Cond) ∈ am_WT := am_inWT (i := 441) (by decide +kernel) (by decide +kernel)
theorem wt_506 : (.static ⟨"DesignTextsLaw", "put", "(LDesignTexts;II[J)I"⟩ : Cond) ∈ am_WT := am_inWT (i := 442) (by decide +kernel) (by decide +kernel)
theorem wt_507 : (.initialized "DesignTextsLaw" : Cond) ∈ am_WT := am_inWT (i := 66) (by decide +kernel) (by decide +kernel)
theorem wt_508 : (.methodLink "DesignTextsLaw" 42 ⟨"DesignTextsModel", "put", "(II)I"⟩ : Cond) ∈ am_WT := am_inWT (i := 783) (by decide +kernel) (by decide +kernel)
theorem wt_509 : (.instanceMethod ⟨"DesignTextsModel", "put", "(II)I"⟩ : Cond) ∈ am_WT := am_inWT (i := 784) (by decide +kernel) (by decide +kernel)
theorem wt_510 : (.selects "DesignTextsModel" ⟨"DesignTextsModel", "put", "(II)I"⟩ ⟨"DesignTextsModel", "put", "(II)I"⟩ : Cond) ∈ am_WT := am_inWT (i := 785) (by decide +kernel) (by decide +kernel)
theorem wt_511 : (.methodLink "DesignTextsLaw" 43 ⟨"DesignTextsModel", "thrown", "()I"⟩ : Cond) ∈ am_WT := am_inWT (i := 779) (by decide +kernel) (by decide +kernel)
theorem wt_512 : (.instanceMethod ⟨"DesignTextsModel", "thrown", "()I"⟩ : Cond) ∈ am_WT := am_inWT (i := 780) (by decide +kernel) (by decide +kernel)
theorem wt_513 : (.selects "DesignTextsModel" ⟨"DesignTextsModel", "thrown", "()I"⟩ ⟨"DesignTextsModel", "thrown", "()I"⟩ : Cond) ∈ am_WT := am_inWT (i := 781) (by decide +kernel) (by decide +kernel)
theorem wt_514 : (.methodLink "DesignTextsLaw" 47 ⟨"DesignTexts", "read", "()I"⟩ : Cond) ∈ am_WT := am_inWT (i := 200) (by decide +kernel) (by decide +kernel)
theorem wt_515 : (.instanceMethod ⟨"DesignTexts", "read", "()I"⟩ : Cond) ∈ am_WT := am_inWT (i := 201) (by decide +kernel) (by decide +kernel)
theorem wt_516 : (.selects "DesignTexts" ⟨"DesignTexts", "read", "()I"⟩ ⟨"DesignTexts", "read", "()I"⟩ : Cond) ∈ am_WT := am_inWT (i := 202) (by decide +kernel) (by decide +kernel)
theorem wt_517 : (.methodLink "DesignTextsLaw" 50 ⟨"DesignTextsModel", "read", "()I"⟩ : Cond) ∈ am_WT := am_inWT (i := 787) (by decide +kernel) (by decide +kernel)
theorem wt_518 : (.instanceMethod ⟨"DesignTextsModel", "read", "()I"⟩ : Cond) ∈ am_WT := am_inWT (i := 788) (by decide +kernel) (by decide +kernel)
theorem wt_519 : (.selects "DesignTextsModel" ⟨"DesignTextsModel", "read", "()I"⟩ ⟨"DesignTextsModel", "read", "()I"⟩ : Cond) ∈ am_WT := am_inWT (i := 789) (by decide +kernel) (by decide +kernel)
theorem wt_520 : (.methodLink "DesignTextsLaw" 51 ⟨"DesignTexts", "about", "(I)I"⟩ : Cond) ∈ am_WT := am_inWT (i := 356) (by decide +kernel) (by decide +kernel)
theorem wt_521 : (.instanceMethod ⟨"DesignTexts", "about", "(I)I"⟩ : Cond) ∈ am_WT := am_inWT (i := 357) (by decide +kernel) (by decide +kernel)
theorem wt_522 : (.selects "DesignTexts" ⟨"DesignTexts", "about", "(I)I"⟩ ⟨"DesignTexts", "about", "(I)I"⟩ : Cond) ∈ am_WT := am_inWT (i := 358) (by decide +kernel) (by decide +kernel)
theorem wt_523 : (.methodLink "DesignTextsLaw" 54 ⟨"DesignTextsModel", "about", "(I)I"⟩ : Cond) ∈ am_WT := am_inWT (i := 859) (by decide +kernel) (by decide +kernel)
theorem wt_524 : (.instanceMethod ⟨"DesignTextsModel", "about", "(I)I"⟩ : Cond) ∈ am_WT := am_inWT (i := 860) (by decide +kernel) (by decide +kernel)
theorem wt_525 : (.selects "DesignTextsModel" ⟨"DesignTextsModel", "about", "(I)I"⟩ ⟨"DesignTextsModel", "about", "(I)I"⟩ : Cond) ∈ am_WT := am_inWT (i := 861) (by decide +kernel) (by decide +kernel)
theorem wt_526 : (.methodLink "DesignTextsLaw" 55 ⟨"DesignTextsLaw", "has", "(LDesignTexts;II[J)I"⟩ : Cond) ∈ am_WT := am_inWT (i := 539) (by decide +kernel) (by decide +kernel)
theorem wt_527 : (.static ⟨"DesignTextsLaw", "has", "(LDesignTexts;II[J)I"⟩ : Cond) ∈ am_WT := am_inWT (i := 540) (by decide +kernel) (by decide +kernel)
theorem wt_528 : (.methodLink "DesignTextsLaw" 57 ⟨"DesignTextsModel", "has", "(II)I"⟩ : Cond) ∈ am_WT := am_inWT (i := 867) (by decide +kernel) (by decide +kernel)
theorem wt_529 : (.instanceMethod ⟨"DesignTextsModel", "has", "(II)I"⟩ : Cond) ∈ am_WT := am_inWT (i := 868) (by decide +kernel) (by decide +kernel)
theorem wt_530 : (.selects "DesignTextsModel" ⟨"DesignTextsModel", "has", "(II)I"⟩ ⟨"DesignTextsModel", "has", "(II)I"⟩ : Cond) ∈ am_WT := am_inWT (i := 869) (by decide +kernel) (by decide +kernel)
theorem wt_531 : (.methodLink "DesignTextsLaw" 58 ⟨"DesignTexts", "order", "()V"⟩ : Cond) ∈ am_WT := am_inWT (i := 378) (by decide +kernel) (by decide +kernel)
theorem wt_532 : (.instanceMethod ⟨"DesignTexts", "order", "()V"⟩ : Cond) ∈ am_WT := am_inWT (i := 379) (by decide +kernel) (by decide +kernel)
theorem wt_533 : (.selects "DesignTexts" ⟨"DesignTexts", "order", "()V"⟩ ⟨"DesignTexts", "order", "()V"⟩ : Cond) ∈ am_WT := am_inWT (i := 380) (by decide +kernel) (by decide +kernel)
theorem wt_534 : (.methodLink "DesignTextsLaw" 61 ⟨"DesignTextsModel", "order", "()V"⟩ : Cond) ∈ am_WT := am_inWT (i := 871) (by decide +kernel) (by decide +kernel)
theorem wt_535 : (.instanceMethod ⟨"DesignTextsModel", "order", "()V"⟩ : Cond) ∈ am_WT := am_inWT (i := 872) (by decide +kernel) (by decide +kernel)
theorem wt_536 : (.selects "DesignTextsModel" ⟨"DesignTextsModel", "order", "()V"⟩ ⟨"DesignTextsModel", "order", "()V"⟩ : Cond) ∈ am_WT := am_inWT (i := 873) (by decide +kernel) (by decide +kernel)
theorem wt_537 : (.methodLink "DesignTextsLaw" 62 ⟨"DesignTextsLaw", "write", "(LDesignTexts;I[J)I"⟩ : Cond) ∈ am_WT := am_inWT (i := 569) (by decide +kernel) (by decide +kernel)
theorem wt_538 : (.static ⟨"DesignTextsLaw", "write", "(LDesignTexts;I[J)I"⟩ : Cond) ∈ am_WT := am_inWT (i := 570) (by decide +kernel) (by decide +kernel)
theorem wt_539 : (.methodLink "DesignTextsLaw" 65 ⟨"DesignTextsModel", "write", "(I)I"⟩ : Cond) ∈ am_WT := am_inWT (i := 883) (by decide +kernel) (by decide +kernel)
theorem wt_540 : (.instanceMethod ⟨"DesignTextsModel", "write", "(I)I"⟩ : Cond) ∈ am_WT := am_inWT (i := 884) (by decide +kernel) (by decide +kernel)
theorem wt_541 : (.selects "DesignTextsModel" ⟨"DesignTextsModel", "write", "(I)I"⟩ ⟨"DesignTextsModel", "write", "(I)I"⟩ : Cond) ∈ am_WT := am_inWT (i := 885) (by decide +kernel) (by decide +kernel)
theorem wt_542 : (.methodLink "DesignTextsLaw" 66 ⟨"DesignTextsLaw", "written", "(LDesignTexts;I[J)I"⟩ : Cond) ∈ am_WT := am_inWT (i := 633) (by decide +kernel) (by decide +kernel)
theorem wt_543 : (.static ⟨"DesignTextsLaw", "written", "(LDesignTexts;I[J)I"⟩ : Cond) ∈ am_WT := am_inWT (i := 634) (by decide +kernel) (by decide +kernel)
theorem wt_544 : (.methodLink "DesignTextsLaw" 68 ⟨"DesignTextsModel", "written", "(I)I"⟩ : Cond) ∈ am_WT := am_inWT (i := 903) (by decide +kernel) (by decide +kernel)
theorem wt_545 : (.instanceMethod ⟨"DesignTextsModel", "written", "(I)I"⟩ : Cond) ∈ am_WT := am_inWT (i := 904) (by decide +kernel) (by decide +kernel)
theorem wt_546 : (.selects "DesignTextsModel" ⟨"DesignTextsModel", "written", "(I)I"⟩ ⟨"DesignTextsModel", "written", "(I)I"⟩ : Cond) ∈ am_WT := am_inWT (i := 905) (by decide +kernel) (by decide +kernel)
theorem wt_547 : (.methodLink "DesignTextsLaw" 69 ⟨"DesignTexts", "reset", "()V"⟩ : Cond) ∈ am_WT := am_inWT (i := 413) (by decide +kernel) (by decide +kernel)
theorem wt_548 : (.instanceMethod ⟨"DesignTexts", "reset", "()V"⟩ : Cond) ∈ am_WT := am_inWT (i := 414) (by decide +kernel) (by decide +kernel)
theorem wt_549 : (.selects "DesignTexts" ⟨"DesignTexts", "reset", "()V"⟩ ⟨"DesignTexts", "reset", "()V"⟩ : Cond) ∈ am_WT := am_inWT (i := 415) (by decide +kernel) (by decide +kernel)
theorem wt_550 : (.methodLink "DesignTextsLaw" 72 ⟨"DesignTextsModel", "reset", "()V"⟩ : Cond) ∈ am_WT := am_inWT (i := 907) (by decide +kernel) (by decide +kernel)
theorem wt_551 : (.methodLink "DesignTextsLaw" 73 ⟨"DesignTexts", "cycle", "(I)I"⟩ : Cond) ∈ am_WT := am_inWT (i := 417) (by decide +kernel) (by decide +kernel)
theorem wt_552 : (.instanceMethod ⟨"DesignTexts", "cycle", "(I)I"⟩ : Cond) ∈ am_WT := am_inWT (i := 418) (by decide +kernel) (by decide +kernel)
theorem wt_553 : (.selects "DesignTexts" ⟨"DesignTexts", "cycle", "(I)I"⟩ ⟨"DesignTexts", "cycle", "(I)I"⟩ : Cond) ∈ am_WT := am_inWT (i := 419) (by decide +kernel) (by decide +kernel)
theorem wt_554 : (.methodLink "DesignTextsLaw" 76 ⟨"DesignTextsModel", "cycle", "(I)I"⟩ : Cond) ∈ am_WT := am_inWT (i := 908) (by decide +kernel) (by decide +kernel)
theorem wt_555 : (.instanceMethod ⟨"DesignTextsModel", "cycle", "(I)I"⟩ : Cond) ∈ am_WT := am_inWT (i := 909) (by decide +kernel) (by decide +kernel)
theorem wt_556 : (.selects "DesignTextsModel" ⟨"DesignTextsModel", "cycle", "(I)I"⟩ ⟨"DesignTextsModel", "cycle", "(I)I"⟩ : Cond) ∈ am_WT := am_inWT (i := 910) (by decide +kernel) (by decide +kernel)
theorem wt_557 : (.methodLink "DesignTextsLaw" 77 ⟨"DesignTexts", "latches", "()I"⟩ : Cond) ∈ am_WT := am_inWT (i := 433) (by decide +kernel) (by decide +kernel)
theorem wt_558 : (.instanceMethod ⟨"DesignTexts", "latches", "()I"⟩ : Cond) ∈ am_WT := am_inWT (i := 434) (by decide +kernel) (by decide +kernel)
theorem wt_559 : (.selects "DesignTexts" ⟨"DesignTexts", "latches", "()I"⟩ ⟨"DesignTexts", "latches", "()I"⟩ : Cond) ∈ am_WT := am_inWT (i := 435) (by decide +kernel) (by decide +kernel)
theorem wt_560 : (.methodLink "DesignTextsLaw" 80 ⟨"DesignTextsModel", "latches", "()I"⟩ : Cond) ∈ am_WT := am_inWT (i := 916) (by decide +kernel) (by decide +kernel)
theorem wt_561 : (.instanceMethod ⟨"DesignTextsModel", "latches", "()I"⟩ : Cond) ∈ am_WT := am_inWT (i := 917) (by decide +kernel) (by decide +kernel)
theorem wt_562 : (.selects "DesignTextsModel" ⟨"DesignTextsModel", "latches", "()I"⟩ ⟨"DesignTextsModel", "latches", "()I"⟩ : Cond) ∈ am_WT := am_inWT (i := 918) (by decide +kernel) (by decide +kernel)
theorem d_law_0 : decode code 0 = .ok (.new 8, 3) := by decide +kernel
theorem d_law_3 : decode code 3 = .ok (.dup, 1) := by decide +kernel
theorem d_law_4 : decode code 4 = .ok (.invokespecial 33, 3) := by decide +kernel
theorem d_law_7 : decode code 7 = .ok (.astore_n 1, 1) := by decide +kernel
theorem d_law_8 : decode code 8 = .ok (.new 34, 3) := by decide +kernel
theorem d_law_11 : decode code 11 = .ok (.dup, 1) := by decide +kernel
theorem d_law_12 : decode code 12 = .ok (.invokespecial 36, 3) := by decide +kernel
theorem d_law_15 : decode code 15 = .ok (.astore_n 2, 1) := by decide +kernel
theorem d_law_16 : decode code 16 = .ok (.iconst 1, 1) := by decide +kernel
theorem d_law_17 : decode code 17 = .ok (.newarray .long, 2) := by decide +kernel
theorem d_law_19 : decode code 19 = .ok (.astore_n 3, 1) := by decide +kernel
theorem d_law_20 : decode code 20 = .ok (.iconst 0, 1) := by decide +kernel
theorem d_law_21 : decode code 21 = .ok (.istore 4, 2) := by decide +kernel
theorem d_law_23 : decode code 23 = .ok (.iload 4, 2) := by decide +kernel
theorem d_law_25 : decode code 25 = .ok (.aload_n 0, 1) := by decide +kernel
theorem d_law_26 : decode code 26 = .ok (.arraylength, 1) := by decide +kernel
theorem d_law_27 : decode code 27 = .ok (.iconst 3, 1) := by decide +kernel
theorem d_law_28 : decode code 28 = .ok (.isub, 1) := by decide +kernel
theorem d_law_29 : decode code 29 = .ok (.if_icmp .gt 415, 3) := by decide +kernel
theorem d_law_32 : decode code 32 = .ok (.aload_n 0, 1) := by decide +kernel
theorem d_law_33 : decode code 33 = .ok (.iload 4, 2) := by decide +kernel
theorem d_law_35 : decode code 35 = .ok (.iaload, 1) := by decide +kernel
theorem d_law_36 : decode code 36 = .ok (.bipush 15, 2) := by decide +kernel
theorem d_law_38 : decode code 38 = .ok (.iand, 1) := by decide +kernel
theorem d_law_39 : decode code 39 = .ok (.tableswitch 399 0 9 #[53, 121, 134, 159, 227, 238, 294, 350, 361, 386], 53) := by decide +kernel
theorem d_law_92 : decode code 92 = .ok (.aload_n 1, 1) := by decide +kernel
theorem d_law_93 : decode code 93 = .ok (.aload_n 0, 1) := by decide +kernel
theorem d_law_94 : decode code 94 = .ok (.iload 4, 2) := by decide +kernel
theorem d_law_96 : decode code 96 = .ok (.iconst 1, 1) := by decide +kernel
theorem d_law_97 : decode code 97 = .ok (.iadd, 1) := by decide +kernel
theorem d_law_98 : decode code 98 = .ok (.iaload, 1) := by decide +kernel
theorem d_law_99 : decode code 99 = .ok (.aload_n 0, 1) := by decide +kernel
theorem d_law_100 : decode code 100 = .ok (.iload 4, 2) := by decide +kernel
theorem d_law_102 : decode code 102 = .ok (.iconst 2, 1) := by decide +kernel
theorem d_law_103 : decode code 103 = .ok (.iadd, 1) := by decide +kernel
theorem d_law_104 : decode code 104 = .ok (.iaload, 1) := by decide +kernel
theorem d_law_105 : decode code 105 = .ok (.aload_n 3, 1) := by decide +kernel
theorem d_law_106 : decode code 106 = .ok (.invokestatic 37, 3) := by decide +kernel
theorem d_law_109 : decode code 109 = .ok (.istore 5, 2) := by decide +kernel
theorem d_law_111 : decode code 111 = .ok (.aload_n 2, 1) := by decide +kernel
theorem d_law_112 : decode code 112 = .ok (.aload_n 0, 1) := by decide +kernel
theorem d_law_113 : decode code 113 = .ok (.iload 4, 2) := by decide +kernel
theorem d_law_115 : decode code 115 = .ok (.iconst 1, 1) := by decide +kernel
theorem d_law_116 : decode code 116 = .ok (.iadd, 1) := by decide +kernel
theorem d_law_117 : decode code 117 = .ok (.iaload, 1) := by decide +kernel
theorem d_law_118 : decode code 118 = .ok (.aload_n 0, 1) := by decide +kernel
theorem d_law_119 : decode code 119 = .ok (.iload 4, 2) := by decide +kernel
theorem d_law_121 : decode code 121 = .ok (.iconst 2, 1) := by decide +kernel
theorem d_law_122 : decode code 122 = .ok (.iadd, 1) := by decide +kernel
theorem d_law_123 : decode code 123 = .ok (.iaload, 1) := by decide +kernel
theorem d_law_124 : decode code 124 = .ok (.invokevirtual 42, 3) := by decide +kernel
theorem d_law_127 : decode code 127 = .ok (.istore 6, 2) := by decide +kernel
theorem d_law_129 : decode code 129 = .ok (.aload_n 2, 1) := by decide +kernel
theorem d_law_130 : decode code 130 = .ok (.invokevirtual 43, 3) := by decide +kernel
theorem d_law_133 : decode code 133 = .ok (.iload 5, 2) := by decide +kernel
theorem d_law_135 : decode code 135 = .ok (.if_icmp .eq 5, 3) := by decide +kernel
theorem d_law_138 : decode code 138 = .ok (.iconst 0, 1) := by decide +kernel
theorem d_law_139 : decode code 139 = .ok (.ireturn, 1) := by decide +kernel
theorem d_law_140 : decode code 140 = .ok (.iload 5, 2) := by decide +kernel
theorem d_law_142 : decode code 142 = .ok (.ifCond .ne 15, 3) := by decide +kernel
theorem d_law_145 : decode code 145 = .ok (.aload_n 3, 1) := by decide +kernel
theorem d_law_146 : decode code 146 = .ok (.iconst 0, 1) := by decide +kernel
theorem d_law_147 : decode code 147 = .ok (.laload, 1) := by decide +kernel
theorem d_law_148 : decode code 148 = .ok (.iload 6, 2) := by decide +kernel
theorem d_law_150 : decode code 150 = .ok (.i2l, 1) := by decide +kernel
theorem d_law_151 : decode code 151 = .ok (.lcmp, 1) := by decide +kernel
theorem d_law_152 : decode code 152 = .ok (.ifCond .eq 5, 3) := by decide +kernel
theorem d_law_155 : decode code 155 = .ok (.iconst 0, 1) := by decide +kernel
theorem d_law_156 : decode code 156 = .ok (.ireturn, 1) := by decide +kernel
theorem d_law_157 : decode code 157 = .ok (.goto 281, 3) := by decide +kernel
theorem d_law_160 : decode code 160 = .ok (.aload_n 1, 1) := by decide +kernel
theorem d_law_161 : decode code 161 = .ok (.invokevirtual 47, 3) := by decide +kernel
theorem d_law_164 : decode code 164 = .ok (.aload_n 2, 1) := by decide +kernel
theorem d_law_165 : decode code 165 = .ok (.invokevirtual 50, 3) := by decide +kernel
theorem d_law_168 : decode code 168 = .ok (.if_icmp .eq 270, 3) := by decide +kernel
theorem d_law_171 : decode code 171 = .ok (.iconst 0, 1) := by decide +kernel
theorem d_law_172 : decode code 172 = .ok (.ireturn, 1) := by decide +kernel
theorem d_law_173 : decode code 173 = .ok (.aload_n 1, 1) := by decide +kernel
theorem d_law_174 : decode code 174 = .ok (.aload_n 0, 1) := by decide +kernel
theorem d_law_175 : decode code 175 = .ok (.iload 4, 2) := by decide +kernel
theorem d_law_177 : decode code 177 = .ok (.iconst 1, 1) := by decide +kernel
theorem d_law_178 : decode code 178 = .ok (.iadd, 1) := by decide +kernel
theorem d_law_179 : decode code 179 = .ok (.iaload, 1) := by decide +kernel
theorem d_law_180 : decode code 180 = .ok (.invokevirtual 51, 3) := by decide +kernel
theorem d_law_183 : decode code 183 = .ok (.aload_n 2, 1) := by decide +kernel
theorem d_law_184 : decode code 184 = .ok (.aload_n 0, 1) := by decide +kernel
theorem d_law_185 : decode code 185 = .ok (.iload 4, 2) := by decide +kernel
theorem d_law_187 : decode code 187 = .ok (.iconst 1, 1) := by decide +kernel
theorem d_law_188 : decode code 188 = .ok (.iadd, 1) := by decide +kernel
theorem d_law_189 : decode code 189 = .ok (.iaload, 1) := by decide +kernel
theorem d_law_190 : decode code 190 = .ok (.invokevirtual 54, 3) := by decide +kernel
theorem d_law_193 : decode code 193 = .ok (.if_icmp .eq 245, 3) := by decide +kernel
theorem d_law_196 : decode code 196 = .ok (.iconst 0, 1) := by decide +kernel
theorem d_law_197 : decode code 197 = .ok (.ireturn, 1) := by decide +kernel
theorem d_law_198 : decode code 198 = .ok (.aload_n 1, 1) := by decide +kernel
theorem d_law_199 : decode code 199 = .ok (.aload_n 0, 1) := by decide +kernel
theorem d_law_200 : decode code 200 = .ok (.iload 4, 2) := by decide +kernel
theorem d_law_202 : decode code 202 = .ok (.iconst 1, 1) := by decide +kernel
theorem d_law_203 : decode code 203 = .ok (.iadd, 1) := by decide +kernel
theorem d_law_204 : decode code 204 = .ok (.iaload, 1) := by decide +kernel
theorem d_law_205 : decode code 205 = .ok (.aload_n 0, 1) := by decide +kernel
theorem d_law_206 : decode code 206 = .ok (.iload 4, 2) := by decide +kernel
theorem d_law_208 : decode code 208 = .ok (.iconst 2, 1) := by decide +kernel
theorem d_law_209 : decode code 209 = .ok (.iadd, 1) := by decide +kernel
theorem d_law_210 : decode code 210 = .ok (.iaload, 1) := by decide +kernel
theorem d_law_211 : decode code 211 = .ok (.aload_n 3, 1) := by decide +kernel
theorem d_law_212 : decode code 212 = .ok (.invokestatic 55, 3) := by decide +kernel
theorem d_law_215 : decode code 215 = .ok (.istore 5, 2) := by decide +kernel
theorem d_law_217 : decode code 217 = .ok (.aload_n 2, 1) := by decide +kernel
theorem d_law_218 : decode code 218 = .ok (.aload_n 0, 1) := by decide +kernel
theorem d_law_219 : decode code 219 = .ok (.iload 4, 2) := by decide +kernel
theorem d_law_221 : decode code 221 = .ok (.iconst 1, 1) := by decide +kernel
theorem d_law_222 : decode code 222 = .ok (.iadd, 1) := by decide +kernel
theorem d_law_223 : decode code 223 = .ok (.iaload, 1) := by decide +kernel
theorem d_law_224 : decode code 224 = .ok (.aload_n 0, 1) := by decide +kernel
theorem d_law_225 : decode code 225 = .ok (.iload 4, 2) := by decide +kernel
theorem d_law_227 : decode code 227 = .ok (.iconst 2, 1) := by decide +kernel
theorem d_law_228 : decode code 228 = .ok (.iadd, 1) := by decide +kernel
theorem d_law_229 : decode code 229 = .ok (.iaload, 1) := by decide +kernel
theorem d_law_230 : decode code 230 = .ok (.invokevirtual 57, 3) := by decide +kernel
theorem d_law_233 : decode code 233 = .ok (.istore 6, 2) := by decide +kernel
theorem d_law_235 : decode code 235 = .ok (.aload_n 2, 1) := by decide +kernel
theorem d_law_236 : decode code 236 = .ok (.invokevirtual 43, 3) := by decide +kernel
theorem d_law_239 : decode code 239 = .ok (.iload 5, 2) := by decide +kernel
theorem d_law_241 : decode code 241 = .ok (.if_icmp .eq 5, 3) := by decide +kernel
theorem d_law_244 : decode code 244 = .ok (.iconst 0, 1) := by decide +kernel
theorem d_law_245 : decode code 245 = .ok (.ireturn, 1) := by decide +kernel
theorem d_law_246 : decode code 246 = .ok (.iload 5, 2) := by decide +kernel
theorem d_law_248 : decode code 248 = .ok (.ifCond .ne 15, 3) := by decide +kernel
theorem d_law_251 : decode code 251 = .ok (.aload_n 3, 1) := by decide +kernel
theorem d_law_252 : decode code 252 = .ok (.iconst 0, 1) := by decide +kernel
theorem d_law_253 : decode code 253 = .ok (.laload, 1) := by decide +kernel
theorem d_law_254 : decode code 254 = .ok (.iload 6, 2) := by decide +kernel
theorem d_law_256 : decode code 256 = .ok (.i2l, 1) := by decide +kernel
theorem d_law_257 : decode code 257 = .ok (.lcmp, 1) := by decide +kernel
theorem d_law_258 : decode code 258 = .ok (.ifCond .eq 5, 3) := by decide +kernel
theorem d_law_261 : decode code 261 = .ok (.iconst 0, 1) := by decide +kernel
theorem d_law_262 : decode code 262 = .ok (.ireturn, 1) := by decide +kernel
theorem d_law_263 : decode code 263 = .ok (.goto 175, 3) := by decide +kernel
theorem d_law_266 : decode code 266 = .ok (.aload_n 1, 1) := by decide +kernel
theorem d_law_267 : decode code 267 = .ok (.invokevirtual 58, 3) := by decide +kernel
theorem d_law_270 : decode code 270 = .ok (.aload_n 2, 1) := by decide +kernel
theorem d_law_271 : decode code 271 = .ok (.invokevirtual 61, 3) := by decide +kernel
theorem d_law_274 : decode code 274 = .ok (.goto 164, 3) := by decide +kernel
theorem d_law_277 : decode code 277 = .ok (.aload_n 1, 1) := by decide +kernel
theorem d_law_278 : decode code 278 = .ok (.aload_n 0, 1) := by decide +kernel
theorem d_law_279 : decode code 279 = .ok (.iload 4, 2) := by decide +kernel
theorem d_law_281 : decode code 281 = .ok (.iconst 1, 1) := by decide +kernel
theorem d_law_282 : decode code 282 = .ok (.iadd, 1) := by decide +kernel
theorem d_law_283 : decode code 283 = .ok (.iaload, 1) := by decide +kernel
theorem d_law_284 : decode code 284 = .ok (.aload_n 3, 1) := by decide +kernel
theorem d_law_285 : decode code 285 = .ok (.invokestatic 62, 3) := by decide +kernel
theorem d_law_288 : decode code 288 = .ok (.istore 5, 2) := by decide +kernel
theorem d_law_290 : decode code 290 = .ok (.aload_n 2, 1) := by decide +kernel
theorem d_law_291 : decode code 291 = .ok (.aload_n 0, 1) := by decide +kernel
theorem d_law_292 : decode code 292 = .ok (.iload 4, 2) := by decide +kernel
theorem d_law_294 : decode code 294 = .ok (.iconst 1, 1) := by decide +kernel
theorem d_law_295 : decode code 295 = .ok (.iadd, 1) := by decide +kernel
theorem d_law_296 : decode code 296 = .ok (.iaload, 1) := by decide +kernel
theorem d_law_297 : decode code 297 = .ok (.invokevirtual 65, 3) := by decide +kernel
theorem d_law_300 : decode code 300 = .ok (.istore 6, 2) := by decide +kernel
theorem d_law_302 : decode code 302 = .ok (.aload_n 2, 1) := by decide +kernel
theorem d_law_303 : decode code 303 = .ok (.invokevirtual 43, 3) := by decide +kernel
theorem d_law_306 : decode code 306 = .ok (.iload 5, 2) := by decide +kernel
theorem d_law_308 : decode code 308 = .ok (.if_icmp .eq 5, 3) := by decide +kernel
theorem d_law_311 : decode code 311 = .ok (.iconst 0, 1) := by decide +kernel
theorem d_law_312 : decode code 312 = .ok (.ireturn, 1) := by decide +kernel
theorem d_law_313 : decode code 313 = .ok (.iload 5, 2) := by decide +kernel
theorem d_law_315 : decode code 315 = .ok (.ifCond .ne 15, 3) := by decide +kernel
theorem d_law_318 : decode code 318 = .ok (.aload_n 3, 1) := by decide +kernel
theorem d_law_319 : decode code 319 = .ok (.iconst 0, 1) := by decide +kernel
theorem d_law_320 : decode code 320 = .ok (.laload, 1) := by decide +kernel
theorem d_law_321 : decode code 321 = .ok (.iload 6, 2) := by decide +kernel
theorem d_law_323 : decode code 323 = .ok (.i2l, 1) := by decide +kernel
theorem d_law_324 : decode code 324 = .ok (.lcmp, 1) := by decide +kernel
theorem d_law_325 : decode code 325 = .ok (.ifCond .eq 5, 3) := by decide +kernel
theorem d_law_328 : decode code 328 = .ok (.iconst 0, 1) := by decide +kernel
theorem d_law_329 : decode code 329 = .ok (.ireturn, 1) := by decide +kernel
theorem d_law_330 : decode code 330 = .ok (.goto 108, 3) := by decide +kernel
theorem d_law_333 : decode code 333 = .ok (.aload_n 1, 1) := by decide +kernel
theorem d_law_334 : decode code 334 = .ok (.aload_n 0, 1) := by decide +kernel
theorem d_law_335 : decode code 335 = .ok (.iload 4, 2) := by decide +kernel
theorem d_law_337 : decode code 337 = .ok (.iconst 1, 1) := by decide +kernel
theorem d_law_338 : decode code 338 = .ok (.iadd, 1) := by decide +kernel
theorem d_law_339 : decode code 339 = .ok (.iaload, 1) := by decide +kernel
theorem d_law_340 : decode code 340 = .ok (.aload_n 3, 1) := by decide +kernel
theorem d_law_341 : decode code 341 = .ok (.invokestatic 66, 3) := by decide +kernel
theorem d_law_344 : decode code 344 = .ok (.istore 5, 2) := by decide +kernel
theorem d_law_346 : decode code 346 = .ok (.aload_n 2, 1) := by decide +kernel
theorem d_law_347 : decode code 347 = .ok (.aload_n 0, 1) := by decide +kernel
theorem d_law_348 : decode code 348 = .ok (.iload 4, 2) := by decide +kernel
theorem d_law_350 : decode code 350 = .ok (.iconst 1, 1) := by decide +kernel
theorem d_law_351 : decode code 351 = .ok (.iadd, 1) := by decide +kernel
theorem d_law_352 : decode code 352 = .ok (.iaload, 1) := by decide +kernel
theorem d_law_353 : decode code 353 = .ok (.invokevirtual 68, 3) := by decide +kernel
theorem d_law_356 : decode code 356 = .ok (.istore 6, 2) := by decide +kernel
theorem d_law_358 : decode code 358 = .ok (.aload_n 2, 1) := by decide +kernel
theorem d_law_359 : decode code 359 = .ok (.invokevirtual 43, 3) := by decide +kernel
theorem d_law_362 : decode code 362 = .ok (.iload 5, 2) := by decide +kernel
theorem d_law_364 : decode code 364 = .ok (.if_icmp .eq 5, 3) := by decide +kernel
theorem d_law_367 : decode code 367 = .ok (.iconst 0, 1) := by decide +kernel
theorem d_law_368 : decode code 368 = .ok (.ireturn, 1) := by decide +kernel
theorem d_law_369 : decode code 369 = .ok (.iload 5, 2) := by decide +kernel
theorem d_law_371 : decode code 371 = .ok (.ifCond .ne 15, 3) := by decide +kernel
theorem d_law_374 : decode code 374 = .ok (.aload_n 3, 1) := by decide +kernel
theorem d_law_375 : decode code 375 = .ok (.iconst 0, 1) := by decide +kernel
theorem d_law_376 : decode code 376 = .ok (.laload, 1) := by decide +kernel
theorem d_law_377 : decode code 377 = .ok (.iload 6, 2) := by decide +kernel
theorem d_law_379 : decode code 379 = .ok (.i2l, 1) := by decide +kernel
theorem d_law_380 : decode code 380 = .ok (.lcmp, 1) := by decide +kernel
theorem d_law_381 : decode code 381 = .ok (.ifCond .eq 5, 3) := by decide +kernel
theorem d_law_384 : decode code 384 = .ok (.iconst 0, 1) := by decide +kernel
theorem d_law_385 : decode code 385 = .ok (.ireturn, 1) := by decide +kernel
theorem d_law_386 : decode code 386 = .ok (.goto 52, 3) := by decide +kernel
theorem d_law_389 : decode code 389 = .ok (.aload_n 1, 1) := by decide +kernel
theorem d_law_390 : decode code 390 = .ok (.invokevirtual 69, 3) := by decide +kernel
theorem d_law_393 : decode code 393 = .ok (.aload_n 2, 1) := by decide +kernel
theorem d_law_394 : decode code 394 = .ok (.invokevirtual 72, 3) := by decide +kernel
theorem d_law_397 : decode code 397 = .ok (.goto 41, 3) := by decide +kernel
theorem d_law_400 : decode code 400 = .ok (.aload_n 1, 1) := by decide +kernel
theorem d_law_401 : decode code 401 = .ok (.aload_n 0, 1) := by decide +kernel
theorem d_law_402 : decode code 402 = .ok (.iload 4, 2) := by decide +kernel
theorem d_law_404 : decode code 404 = .ok (.iconst 1, 1) := by decide +kernel
theorem d_law_405 : decode code 405 = .ok (.iadd, 1) := by decide +kernel
theorem d_law_406 : decode code 406 = .ok (.iaload, 1) := by decide +kernel
theorem d_law_407 : decode code 407 = .ok (.invokevirtual 73, 3) := by decide +kernel
theorem d_law_410 : decode code 410 = .ok (.aload_n 2, 1) := by decide +kernel
theorem d_law_411 : decode code 411 = .ok (.aload_n 0, 1) := by decide +kernel
theorem d_law_412 : decode code 412 = .ok (.iload 4, 2) := by decide +kernel
theorem d_law_414 : decode code 414 = .ok (.iconst 1, 1) := by decide +kernel
theorem d_law_415 : decode code 415 = .ok (.iadd, 1) := by decide +kernel
theorem d_law_416 : decode code 416 = .ok (.iaload, 1) := by decide +kernel
theorem d_law_417 : decode code 417 = .ok (.invokevirtual 76, 3) := by decide +kernel
theorem d_law_420 : decode code 420 = .ok (.if_icmp .eq 18, 3) := by decide +kernel
theorem d_law_423 : decode code 423 = .ok (.iconst 0, 1) := by decide +kernel
theorem d_law_424 : decode code 424 = .ok (.ireturn, 1) := by decide +kernel
theorem d_law_425 : decode code 425 = .ok (.aload_n 1, 1) := by decide +kernel
theorem d_law_426 : decode code 426 = .ok (.invokevirtual 77, 3) := by decide +kernel
theorem d_law_429 : decode code 429 = .ok (.aload_n 2, 1) := by decide +kernel
theorem d_law_430 : decode code 430 = .ok (.invokevirtual 80, 3) := by decide +kernel
theorem d_law_433 : decode code 433 = .ok (.if_icmp .eq 5, 3) := by decide +kernel
theorem d_law_436 : decode code 436 = .ok (.iconst 0, 1) := by decide +kernel
theorem d_law_437 : decode code 437 = .ok (.ireturn, 1) := by decide +kernel
theorem d_law_438 : decode code 438 = .ok (.iinc 4 3, 3) := by decide +kernel
theorem d_law_441 : decode code 441 = .ok (.goto (-418), 3) := by decide +kernel
theorem d_law_444 : decode code 444 = .ok (.iconst 1, 1) := by decide +kernel
theorem d_law_445 : decode code 445 = .ok (.ireturn, 1) := by decide +kernel
/-! WHAT THE LAW NEEDS OF THE TWO: a relation of the worlds that every pair of calls keeps -/
def lo_shape (Rl : am_H → am_H → Prop) : Prop := ∀ hC hR, Rl hC hR → (∃ fs, hC[0]? = some (.inr (0, fs))) ∧ ∃ fs, hR[0]? = some (.inr (5, fs))
def lo_int (Rl Rl' : am_H → am_H → Prop) (cmp : Bool) (idC idR : Nat) (av : List Value) : Prop := ∀ hC hR, Rl hC hR → ∃ (v w : Int32) (hC' hR' : am_H), am_run cPT cML 7 idC (.ref 0 :: av) hC = some (some (.int v), hC') ∧ am_run rPT rML 7 idR (.ref 0 :: av) hR = some (some (.int w), hR') ∧ (cmp = true → v = w) ∧ Rl' hC' hR'
def lo_void (Rl Rl' : am_H → am_H → Prop) (idC idR : Nat) (av : List Value) : Prop := ∀ hC hR, Rl hC hR → ∃ (hC' hR' : am_H), am_run cPT cML 7 idC (.ref 0 :: av) hC = some (none, hC') ∧ am_run rPT rML 7 idR (.ref 0 :: av) hR = some (none, hR') ∧ Rl' hC' hR'
def lo_x (Rl Rl' : am_H → am_H → Prop) (tb : am_C → am_T) (K : Option Value → Prop) (idR : Nat) (av : List Value) : Prop := ∀ hC hR, Rl hC hR → ∃ (r : am_R) (w : Int32) (hR' : am_H), am_Ev (tb (am_run cPT cML 6)) (0, lv_args 0 (.ref 0 :: av), [], hC) r ∧ K r.1 ∧ am_run rPT rML 7 idR (.ref 0 :: av) hR = some (some (.int w), hR') ∧ Rl' r.2 hR'
def lo_xc (Rl Rl' : am_H → am_H → Prop) (tb : am_C → am_T) (K : Option Value → Prop) (cd : Nat → Int32) (idR idT : Nat) (av : List Value) : Prop := ∀ hC hR, Rl hC hR → ∃ (r : am_R) (w th : Int32) (hR' : am_H), am_Ev (tb (am_run cPT cML 6)) (0, lv_args 0 (.ref 0 :: av), [], hC) r ∧ K r.1 ∧ am_run rPT rML 7 idR (.ref 0 :: av) hR = some (some (.int w), hR') ∧ am_run rPT rML 7 idT [.ref 0] hR' = some (some (.int th), hR') ∧ ((r.1 = some (.int w) ∧ th = 0) ∨ ∃ k, r.1 = some (.retAddr k) ∧ th = cd k ∧ ¬ cd k = 0) ∧ Rl' r.2 hR'
theorem lw_agree {f f' : Nat → Int64} {co w th : Int32} {cd : Nat → Int32} {r : Option Value} (h : (∃ v, r = some (.int v) ∧ co = 0 ∧ f' = vp_updL f 0 v.toInt64) ∨ (∃ k, r = some (.retAddr k) ∧ co = cd k ∧ f' = f)) (h2 : (r = some (.int w) ∧ th = 0) ∨ ∃ k, r = some (.retAddr k) ∧ th = cd k ∧ ¬ cd k = 0) : th = co ∧ (co = 0 → f' 0 = w.toInt64) := by
  rcases h with ⟨v, rfl, rfl, rfl⟩ | ⟨k, rfl, rfl, rfl⟩
  · rcases h2 with ⟨h3, rfl⟩ | ⟨k, h3, -⟩
    · cases h3
      exact ⟨rfl, fun _ => by simp [vp_updL]⟩
    · cases h3
  · rcases h2 with ⟨h3, -⟩ | ⟨k2, h3, rfl, h4⟩
    · cases h3
    · cases h3
      exact ⟨rfl, fun h => absurd h h4⟩
theorem lw_op (o : Int32) : (o = 0 ∨ o = 1 ∨ o = 2 ∨ o = 3 ∨ o = 4 ∨ o = 5 ∨ o = 6 ∨ o = 7 ∨ o = 8 ∨ o = 9) ∨ (o.toInt < 0 ∨ 9 < o.toInt) := by
  have e : ∀ k : Int32, o.toInt = k.toInt → o = k := fun k h => Int32.toInt_inj.mp h
  by_cases h : o.toInt < 0 ∨ 9 < o.toInt
  · exact Or.inr h
  · left
    have h9 : o.toInt = 0 ∨ o.toInt = 1 ∨ o.toInt = 2 ∨ o.toInt = 3 ∨ o.toInt = 4 ∨ o.toInt = 5 ∨ o.toInt = 6 ∨ o.toInt = 7 ∨ o.toInt = 8 ∨ o.toInt = 9 := by omega
    rcases h9 with h | h | h | h | h | h | h | h | h | h
    · exact Or.inl (e 0 (h.trans (by decide)))
    · exact Or.inr (Or.inl (e 1 (h.trans (by decide))))
    · exact Or.inr (Or.inr (Or.inl (e 2 (h.trans (by decide)))))
    · exact Or.inr (Or.inr (Or.inr (Or.inl (e 3 (h.trans (by decide))))))
    · exact Or.inr (Or.inr (Or.inr (Or.inr (Or.inl (e 4 (h.trans (by decide)))))))
    · exact Or.inr (Or.inr (Or.inr (Or.inr (Or.inr (Or.inl (e 5 (h.trans (by decide))))))))
    · exact Or.inr (Or.inr (Or.inr (Or.inr (Or.inr (Or.inr (Or.inl (e 6 (h.trans (by decide)))))))))
    · exact Or.inr (Or.inr (Or.inr (Or.inr (Or.inr (Or.inr (Or.inr (Or.inl (e 7 (h.trans (by decide))))))))))
    · exact Or.inr (Or.inr (Or.inr (Or.inr (Or.inr (Or.inr (Or.inr (Or.inr (Or.inl (e 8 (h.trans (by decide)))))))))))
    · exact Or.inr (Or.inr (Or.inr (Or.inr (Or.inr (Or.inr (Or.inr (Or.inr (Or.inr (e 9 (h.trans (by decide)))))))))))
theorem lw_cond {i L : Nat} (hL : L ≤ 1536) (hi : i ≤ L) (h : ¬ (Int32.ofNat L - 3 < nI i)) : i + 3 ≤ L := by
  rcases Nat.lt_or_ge L (i + 3) with h1 | h1
  · refine absurd ?_ h
    rw [Int32.lt_iff_toInt_lt, Int32.toInt_sub, show (Int32.ofNat L).toInt = (L : Int) from nI_toInt (by omega), show (3 : Int32).toInt = 3 by decide, nI_toInt (by omega)]
    unfold Int.bmod
    dsimp only
    split <;> omega
  · exact h1
theorem lw_in1 {i L : Nat} (hL : L ≤ 1536) (hi : i + 3 ≤ L) : vp_in (nI i + 1) L := by
  rw [nI_1]
  exact vp_in_nI (by omega) (by omega)
theorem lw_in2 {i L : Nat} (hL : L ≤ 1536) (hi : i + 3 ≤ L) : vp_in (nI i + 2) L := by
  rw [show nI i + 2 = nI (i + 2) from nI_add i 2]
  exact vp_in_nI (by omega) (by omega)
theorem lw_cmp {x y : Int64} (h : x = y) : lg_cmp x y = 0 := by
  subst h
  simp [lg_cmp]
section LWO
variable {p : Program} {l : Launch} {e : Env} {s : State} {m : MethodId} {below : List Frame} {meth : Method} {c : Code} {H : Heap} {locs : List Loc} {cells slots : Nat} {Q : State → Prop}
variable {D : va_G} {kc : Nat → ClassId} {pc : Nat} {ls : Array Slot} {rest : List Value} {b L : Nat} {xs : Nat → Int32} {ρC ρR : Nat → Nat} {oa : Nat} {hC hR : am_H} {f : Nat → Int64}
theorem lw_lald0 (X : lw_X p l s m meth c D kc b L xs) (I : lw_I s D kc ρC ρR oa hC hR f H locs) (hd : decode code pc = .ok (.laload, 1)) (kk : W p l e room_1 s m #[Value.ref b] below meth c H locs cells slots Q (F0 m (pc + 1) ls (.long (f 0) :: rest))) :
    W p l e room_1 s m #[Value.ref b] below meth c H locs cells slots Q (F0 m pc ls (.int 0 :: .ref oa :: rest)) := by
  obtain ⟨⟨hx, hb, hr, hml, hown, hts, hX, hbl, hlocks, hgv⟩, hK, hOk, hN, hZ, hst⟩ := X
  have hP : va_P D aCl [(oa, .inl (kc 3, 1, .inr (.inl f)))] H := fun k q hq => by
    match k, hq with
    | 0, hq => cases hq; exact I.2.2.2.2.1
    | k + 1, hq => simp at hq
  exact va_lald hx hb hK hP 0 3 rfl rfl (by unfold vp_in; decide) hd kk
end LWO

def lw_St (Rl : Nat → am_H → am_H → Prop) (L : Nat) : Prop := (∀ i, lo_shape (Rl i)) ∧ (∀ i hC hR, Rl i hC hR → Rl (i + 3) hC hR) ∧ ∀ i, i + 3 ≤ L → (∀ p0 p1 : Int32, lo_xc (Rl i) (Rl (i + 3)) tb_T_put (fun o => (∃ v, o = some (.int v)) ∨ o = some (.retAddr 0) ∨ o = some (.retAddr 1)) (fun k => if k = 0 then 1 else if k = 1 then 2 else 0) 1 0 [.int p0, .int p1]) ∧ (lo_int (Rl i) (Rl (i + 3)) true 61 17 []) ∧ (∀ p0 : Int32, lo_int (Rl i) (Rl (i + 3)) true 62 20 [.int p0]) ∧ (∀ p0 p1 : Int32, lo_xc (Rl i) (Rl (i + 3)) tb_T_has (fun o => (∃ v, o = some (.int v)) ∨ o = some (.retAddr 0) ∨ o = some (.retAddr 2)) (fun k => if k = 0 then 1 else if k = 2 then 2 else 0) 21 0 [.int p0, .int p1]) ∧ (lo_void (Rl i) (Rl (i + 3)) 63 24 []) ∧ (∀ p0 : Int32, lo_xc (Rl i) (Rl (i + 3)) tb_T_write (fun o => (∃ v, o = some (.int v)) ∨ o = some (.retAddr 0) ∨ o = some (.retAddr 3)) (fun k => if k = 0 then 1 else if k = 3 then 2 else 0) 29 0 [.int p0]) ∧ (∀ p0 : Int32, lo_xc (Rl i) (Rl (i + 3)) tb_T_written (fun o => (∃ v, o = some (.int v)) ∨ o = some (.retAddr 4)) (fun k => if k = 4 then 1 else 0) 30 0 [.int p0]) ∧ (lo_void (Rl i) (Rl (i + 3)) 64 31 []) ∧ (∀ p0 : Int32, lo_int (Rl i) (Rl (i + 3)) true 65 33 [.int p0]) ∧ (lo_int (Rl i) (Rl (i + 3)) true 66 34 [])
set_option maxHeartbeats 4000000 in
set_option maxRecDepth 100000 in
theorem lw_c_put {p : Program} {l : Launch} {e : Env} {s : State} {m : MethodId} {below : List Frame} {meth : Method} {c : Code} {D : va_G} {kc : Nat → ClassId} {b L : Nat} {xs : Nat → Int32} {ρC ρR : Nat → Nat} {oa : Nat} {Rl : Nat → am_H → am_H → Prop} {i : Nat} {cells slots : Nat} (St : lw_St Rl L) (X : lw_X p l s m meth c D kc b L xs) (Fx : lw_Fx s ρC ρR oa) (hL : L ≤ 1536) (hi : i + 3 ≤ L) (hcs : cells + 1 ≤ 601024 ∧ slots + 6 ≤ 7293033) {hC hR : am_H} {f : Nat → Int64} {H : Heap} {locs : List Loc} {ls : Array Slot} (hRl : Rl i hC hR) (I : lw_I s D kc ρC ρR oa hC hR f H locs) (hl : lv_has ls 7 [(0, .ref b), (1, .ref (ρC 0)), (2, .ref (ρR 0)), (3, .ref oa), (4, .int (nI i))])
    (kk : ∀ (hC' hR' : am_H) (f' : Nat → Int64) (H1 : Heap) (locs1 : List Loc) (ls1 : Array Slot), Rl (i + 3) hC' hR' → lw_I s D kc ρC ρR oa hC' hR' f' H1 locs1 → lv_has ls1 7 [(0, .ref b), (1, .ref (ρC 0)), (2, .ref (ρR 0)), (3, .ref oa), (4, .int (nI i))] → W p l e room_1 s m #[Value.ref b] below meth c H1 locs1 (cells + 1) (slots + 6) (lw_Z below #[Value.ref b] s) (F0 m 438 ls1 [])) :
    W p l e room_1 s m #[Value.ref b] below meth c H locs cells slots (lw_Z below #[Value.ref b] s) (F0 m 92 ls []) := by
  obtain ⟨⟨fsC, h0C⟩, fsR, h0R⟩ := St.1 i hC hR hRl
  obtain ⟨⟨hx, hb, hr, hml, hown, hts, hX, hbl, hlocks, hgv⟩, hK, hOk, hN, hZ, hst⟩ := id X
  have hbA : ¬ lw_A s b := Nat.not_le.mpr hbl
  refine lv_aload_n hx hb d_law_92 rfl (lv_at hl 1 rfl) ?_
  refine lv_aload_n hx hb d_law_93 rfl (lv_at hl 0 rfl) ?_
  refine lv_iload hx hb d_law_94 (lv_at hl 4 rfl) ?_
  refine lv_iconst (v := 1) hx hb d_law_96 (by decide) ?_
  refine lv_iadd hx hb d_law_97 ?_
  refine va_sld hx hb hX hbl hbA I.2.2.2.2.2 (lw_in1 hL hi) d_law_98 ?_
  refine lv_aload_n hx hb d_law_99 rfl (lv_at hl 0 rfl) ?_
  refine lv_iload hx hb d_law_100 (lv_at hl 4 rfl) ?_
  refine lv_iconst (v := 2) hx hb d_law_102 (by decide) ?_
  refine lv_iadd hx hb d_law_103 ?_
  refine va_sld hx hb hX hbl hbA I.2.2.2.2.2 (lw_in2 hL hi) d_law_104 ?_
  refine lv_aload_n hx hb d_law_105 rfl (lv_at hl 3 rfl) ?_
  obtain ⟨r, w, th, hR1, hEv, hk, hrR, hrT, hag, hRl1⟩ := (St.2.2 i hi).1 (xs ((nI i) + 1).toNatClampNeg) (xs ((nI i) + 2).toNatClampNeg) hC hR hRl
  refine lw_callX (n := 4) (ia := [.int (xs ((nI i) + 1).toNatClampNeg), .int (xs ((nI i) + 2).toNatClampNeg)]) (rest := []) X Fx I (lx_put I.1 h0C Fx.2.2.2.1 (fun sz => cx_T_put hst Fx.1 (Nat.le_of_ble_eq_true rfl) hEv I.1 sz) hk) wt_505 wt_506 wt_507 wl_put (by decide +kernel) (by decide) rfl (Nat.le_of_ble_eq_true rfl) hl.1 d_law_106 hcs (fun co f1 H locs hcase I => ?_)
  refine W.eq (g2 := F0 m 109 ls [.int co]) rfl ?_
  obtain ⟨hth, hout⟩ := lw_agree hcase hag
  refine lv_istore (lv' := [(5, .int co), (0, .ref b), (1, .ref (ρC 0)), (2, .ref (ρR 0)), (3, .ref oa), (4, .int (nI i))]) hx hb d_law_109 hl (by decide) rfl (fun ls hl => ?_)
  refine lv_aload_n hx hb d_law_111 rfl (lv_at hl 3 rfl) ?_
  refine lv_aload_n hx hb d_law_112 rfl (lv_at hl 1 rfl) ?_
  refine lv_iload hx hb d_law_113 (lv_at hl 5 rfl) ?_
  refine lv_iconst (v := 1) hx hb d_law_115 (by decide) ?_
  refine lv_iadd hx hb d_law_116 ?_
  refine va_sld hx hb hX hbl hbA I.2.2.2.2.2 (lw_in1 hL hi) d_law_117 ?_
  refine lv_aload_n hx hb d_law_118 rfl (lv_at hl 1 rfl) ?_
  refine lv_iload hx hb d_law_119 (lv_at hl 5 rfl) ?_
  refine lv_iconst (v := 2) hx hb d_law_121 (by decide) ?_
  refine lv_iadd hx hb d_law_122 ?_
  refine va_sld hx hb hX hbl hbA I.2.2.2.2.2 (lw_in2 hL hi) d_law_123 ?_
  refine lw_callR (n := 2) (av := [.int (xs ((nI i) + 1).toNatClampNeg), .int (xs ((nI i) + 2).toNatClampNeg)]) (rest := []) X Fx I (id := 1) rfl hrR h0R wt_508 wt_509 wt_510 wt_351 wt_309 (by decide +kernel) (by decide) rfl rfl (Nat.le_of_ble_eq_true rfl) hl.1 d_law_124 hcs (fun H locs I => ?_)
  refine W.eq (g2 := F0 m 127 ls [.int w]) rfl ?_
  refine lv_istore (lv' := [(6, .int w), (5, .int co), (0, .ref b), (1, .ref (ρC 0)), (2, .ref (ρR 0)), (3, .ref oa), (4, .int (nI i))]) hx hb d_law_127 hl (by decide) rfl (fun ls hl => ?_)
  refine lv_aload_n hx hb d_law_129 rfl (lv_at hl 4 rfl) ?_
  obtain ⟨-, fsR1, h0R1⟩ := St.1 _ _ _ hRl1
  refine lw_callR (n := 0) (av := []) (rest := []) X Fx I (id := 0) rfl hrT h0R1 wt_511 wt_512 wt_513 wt_351 wt_308 (by decide +kernel) (by decide) rfl rfl (Nat.le_of_ble_eq_true rfl) hl.1 d_law_130 hcs (fun H locs I => ?_)
  refine W.eq (g2 := F0 m 133 ls [.int th]) rfl ?_
  refine lv_iload hx hb d_law_133 (lv_at hl 1 rfl) ?_
  refine lv_icmp_eq (tgt := 140) hx hb d_law_135 (by decide) (fun c9 => ?_) (fun c9 => absurd hth c9)
  refine lv_iload hx hb d_law_140 (lv_at hl 1 rfl) ?_
  refine lv_if_ne (tgt := 157) hx hb d_law_142 (by decide) (fun c9 => ?_) (fun c9 => ?_)
  · refine lv_goto (tgt := 438) hx hb d_law_157 (by decide) ?_
    exact kk _ _ _ _ _ _ hRl1 I (lv_sub hl [2, 3, 4, 5, 6] rfl)
  · refine lv_aload_n hx hb d_law_145 rfl (lv_at hl 5 rfl) ?_
    refine lv_iconst (v := 0) hx hb d_law_146 (by decide) ?_
    refine lw_lald0 X I d_law_147 ?_
    refine lv_iload hx hb d_law_148 (lv_at hl 0 rfl) ?_
    refine lv_i2l hx hb d_law_150 rfl ?_
    refine W.lcmp hx hb d_law_151 ?_
    refine lv_if_eq (tgt := 157) hx hb d_law_152 (by decide) (fun c8 => ?_) (fun c8 => absurd (lw_cmp (hout c9)) c8)
    refine lv_goto (tgt := 438) hx hb d_law_157 (by decide) ?_
    exact kk _ _ _ _ _ _ hRl1 I (lv_sub hl [2, 3, 4, 5, 6] rfl)
set_option maxHeartbeats 4000000 in
set_option maxRecDepth 100000 in
theorem lw_c_read {p : Program} {l : Launch} {e : Env} {s : State} {m : MethodId} {below : List Frame} {meth : Method} {c : Code} {D : va_G} {kc : Nat → ClassId} {b L : Nat} {xs : Nat → Int32} {ρC ρR : Nat → Nat} {oa : Nat} {Rl : Nat → am_H → am_H → Prop} {i : Nat} {cells slots : Nat} (St : lw_St Rl L) (X : lw_X p l s m meth c D kc b L xs) (Fx : lw_Fx s ρC ρR oa) (hL : L ≤ 1536) (hi : i + 3 ≤ L) (hcs : cells + 1 ≤ 601024 ∧ slots + 6 ≤ 7293033) {hC hR : am_H} {f : Nat → Int64} {H : Heap} {locs : List Loc} {ls : Array Slot} (hRl : Rl i hC hR) (I : lw_I s D kc ρC ρR oa hC hR f H locs) (hl : lv_has ls 7 [(0, .ref b), (1, .ref (ρC 0)), (2, .ref (ρR 0)), (3, .ref oa), (4, .int (nI i))])
    (kk : ∀ (hC' hR' : am_H) (f' : Nat → Int64) (H1 : Heap) (locs1 : List Loc) (ls1 : Array Slot), Rl (i + 3) hC' hR' → lw_I s D kc ρC ρR oa hC' hR' f' H1 locs1 → lv_has ls1 7 [(0, .ref b), (1, .ref (ρC 0)), (2, .ref (ρR 0)), (3, .ref oa), (4, .int (nI i))] → W p l e room_1 s m #[Value.ref b] below meth c H1 locs1 (cells + 1) (slots + 6) (lw_Z below #[Value.ref b] s) (F0 m 438 ls1 [])) :
    W p l e room_1 s m #[Value.ref b] below meth c H locs cells slots (lw_Z below #[Value.ref b] s) (F0 m 160 ls []) := by
  obtain ⟨⟨fsC, h0C⟩, fsR, h0R⟩ := St.1 i hC hR hRl
  obtain ⟨⟨hx, hb, hr, hml, hown, hts, hX, hbl, hlocks, hgv⟩, hK, hOk, hN, hZ, hst⟩ := id X
  have hbA : ¬ lw_A s b := Nat.not_le.mpr hbl
  refine lv_aload_n hx hb d_law_160 rfl (lv_at hl 1 rfl) ?_
  obtain ⟨v, w, hC1, hR1, hrC, hrR, hvw, hRl1⟩ := (St.2.2 i hi).2.1  hC hR hRl
  refine lw_callC (n := 0) (av := []) (rest := []) X Fx I (id := 61) rfl hrC h0C wt_514 wt_515 wt_516 wt_275 wt_61 (by decide +kernel) (by decide) rfl rfl (Nat.le_of_ble_eq_true rfl) hl.1 d_law_161 ⟨Nat.le_of_succ_le hcs.1, Nat.le_trans (Nat.le_add_right _ 6) hcs.2⟩ (fun H locs I => ?_)
  refine W.eq (g2 := F0 m 164 ls [.int v]) rfl ?_
  refine lv_aload_n hx hb d_law_164 rfl (lv_at hl 2 rfl) ?_
  refine lw_callR (n := 0) (av := []) (rest := [.int v]) X Fx I (id := 17) rfl hrR h0R wt_517 wt_518 wt_519 wt_351 wt_325 (by decide +kernel) (by decide) rfl rfl (Nat.le_of_ble_eq_true rfl) hl.1 d_law_165 ⟨Nat.le_of_succ_le hcs.1, Nat.le_trans (Nat.le_add_right _ 6) hcs.2⟩ (fun H locs I => ?_)
  refine W.eq (g2 := F0 m 168 ls [.int w, .int v]) rfl ?_
  refine lv_icmp_eq (tgt := 438) hx hb d_law_168 (by decide) (fun c9 => ?_) (fun c9 => absurd (hvw rfl) c9)
  refine W.widen (k := cells + 1) (n := slots + 6) (by omega) (by omega) ?_
  exact kk _ _ _ _ _ _ hRl1 I (lv_sub hl [0, 1, 2, 3, 4] rfl)
set_option maxHeartbeats 4000000 in
set_option maxRecDepth 100000 in
theorem lw_c_about {p : Program} {l : Launch} {e : Env} {s : State} {m : MethodId} {below : List Frame} {meth : Method} {c : Code} {D : va_G} {kc : Nat → ClassId} {b L : Nat} {xs : Nat → Int32} {ρC ρR : Nat → Nat} {oa : Nat} {Rl : Nat → am_H → am_H → Prop} {i : Nat} {cells slots : Nat} (St : lw_St Rl L) (X : lw_X p l s m meth c D kc b L xs) (Fx : lw_Fx s ρC ρR oa) (hL : L ≤ 1536) (hi : i + 3 ≤ L) (hcs : cells + 1 ≤ 601024 ∧ slots + 6 ≤ 7293033) {hC hR : am_H} {f : Nat → Int64} {H : Heap} {locs : List Loc} {ls : Array Slot} (hRl : Rl i hC hR) (I : lw_I s D kc ρC ρR oa hC hR f H locs) (hl : lv_has ls 7 [(0, .ref b), (1, .ref (ρC 0)), (2, .ref (ρR 0)), (3, .ref oa), (4, .int (nI i))])
    (kk : ∀ (hC' hR' : am_H) (f' : Nat → Int64) (H1 : Heap) (locs1 : List Loc) (ls1 : Array Slot), Rl (i + 3) hC' hR' → lw_I s D kc ρC ρR oa hC' hR' f' H1 locs1 → lv_has ls1 7 [(0, .ref b), (1, .ref (ρC 0)), (2, .ref (ρR 0)), (3, .ref oa), (4, .int (nI i))] → W p l e room_1 s m #[Value.ref b] below meth c H1 locs1 (cells + 1) (slots + 6) (lw_Z below #[Value.ref b] s) (F0 m 438 ls1 [])) :
    W p l e room_1 s m #[Value.ref b] below meth c H locs cells slots (lw_Z below #[Value.ref b] s) (F0 m 173 ls []) := by
  obtain ⟨⟨fsC, h0C⟩, fsR, h0R⟩ := St.1 i hC hR hRl
  obtain ⟨⟨hx, hb, hr, hml, hown, hts, hX, hbl, hlocks, hgv⟩, hK, hOk, hN, hZ, hst⟩ := id X
  have hbA : ¬ lw_A s b := Nat.not_le.mpr hbl
  refine lv_aload_n hx hb d_law_173 rfl (lv_at hl 1 rfl) ?_
  refine lv_aload_n hx hb d_law_174 rfl (lv_at hl 0 rfl) ?_
  refine lv_iload hx hb d_law_175 (lv_at hl 4 rfl) ?_
  refine lv_iconst (v := 1) hx hb d_law_177 (by decide) ?_
  refine lv_iadd hx hb d_law_178 ?_
  refine va_sld hx hb hX hbl hbA I.2.2.2.2.2 (lw_in1 hL hi) d_law_179 ?_
  obtain ⟨v, w, hC1, hR1, hrC, hrR, hvw, hRl1⟩ := (St.2.2 i hi).2.2.1 (xs ((nI i) + 1).toNatClampNeg) hC hR hRl
  refine lw_callC (n := 1) (av := [.int (xs ((nI i) + 1).toNatClampNeg)]) (rest := []) X Fx I (id := 62) rfl hrC h0C wt_520 wt_521 wt_522 wt_275 wt_62 (by decide +kernel) (by decide) rfl rfl (Nat.le_of_ble_eq_true rfl) hl.1 d_law_180 ⟨Nat.le_of_succ_le hcs.1, Nat.le_trans (Nat.le_add_right _ 6) hcs.2⟩ (fun H locs I => ?_)
  refine W.eq (g2 := F0 m 183 ls [.int v]) rfl ?_
  refine lv_aload_n hx hb d_law_183 rfl (lv_at hl 2 rfl) ?_
  refine lv_aload_n hx hb d_law_184 rfl (lv_at hl 0 rfl) ?_
  refine lv_iload hx hb d_law_185 (lv_at hl 4 rfl) ?_
  refine lv_iconst (v := 1) hx hb d_law_187 (by decide) ?_
  refine lv_iadd hx hb d_law_188 ?_
  refine va_sld hx hb hX hbl hbA I.2.2.2.2.2 (lw_in1 hL hi) d_law_189 ?_
  refine lw_callR (n := 1) (av := [.int (xs ((nI i) + 1).toNatClampNeg)]) (rest := [.int v]) X Fx I (id := 20) rfl hrR h0R wt_523 wt_524 wt_525 wt_351 wt_328 (by decide +kernel) (by decide) rfl rfl (Nat.le_of_ble_eq_true rfl) hl.1 d_law_190 ⟨Nat.le_of_succ_le hcs.1, Nat.le_trans (Nat.le_add_right _ 6) hcs.2⟩ (fun H locs I => ?_)
  refine W.eq (g2 := F0 m 193 ls [.int w, .int v]) rfl ?_
  refine lv_icmp_eq (tgt := 438) hx hb d_law_193 (by decide) (fun c9 => ?_) (fun c9 => absurd (hvw rfl) c9)
  refine W.widen (k := cells + 1) (n := slots + 6) (by omega) (by omega) ?_
  exact kk _ _ _ _ _ _ hRl1 I (lv_sub hl [0, 1, 2, 3, 4] rfl)
set_option maxHeartbeats 4000000 in
set_option maxRecDepth 100000 in
theorem lw_c_has {p : Program} {l : Launch} {e : Env} {s : State} {m : MethodId} {below : List Frame} {meth : Method} {c : Code} {D : va_G} {kc : Nat → ClassId} {b L : Nat} {xs : Nat → Int32} {ρC ρR : Nat → Nat} {oa : Nat} {Rl : Nat → am_H → am_H → Prop} {i : Nat} {cells slots : Nat} (St : lw_St Rl L) (X : lw_X p l s m meth c D kc b L xs) (Fx : lw_Fx s ρC ρR oa) (hL : L ≤ 1536) (hi : i + 3 ≤ L) (hcs : cells + 1 ≤ 601024 ∧ slots + 6 ≤ 7293033) {hC hR : am_H} {f : Nat → Int64} {H : Heap} {locs : List Loc} {ls : Array Slot} (hRl : Rl i hC hR) (I : lw_I s D kc ρC ρR oa hC hR f H locs) (hl : lv_has ls 7 [(0, .ref b), (1, .ref (ρC 0)), (2, .ref (ρR 0)), (3, .ref oa), (4, .int (nI i))])
    (kk : ∀ (hC' hR' : am_H) (f' : Nat → Int64) (H1 : Heap) (locs1 : List Loc) (ls1 : Array Slot), Rl (i + 3) hC' hR' → lw_I s D kc ρC ρR oa hC' hR' f' H1 locs1 → lv_has ls1 7 [(0, .ref b), (1, .ref (ρC 0)), (2, .ref (ρR 0)), (3, .ref oa), (4, .int (nI i))] → W p l e room_1 s m #[Value.ref b] below meth c H1 locs1 (cells + 1) (slots + 6) (lw_Z below #[Value.ref b] s) (F0 m 438 ls1 [])) :
    W p l e room_1 s m #[Value.ref b] below meth c H locs cells slots (lw_Z below #[Value.ref b] s) (F0 m 198 ls []) := by
  obtain ⟨⟨fsC, h0C⟩, fsR, h0R⟩ := St.1 i hC hR hRl
  obtain ⟨⟨hx, hb, hr, hml, hown, hts, hX, hbl, hlocks, hgv⟩, hK, hOk, hN, hZ, hst⟩ := id X
  have hbA : ¬ lw_A s b := Nat.not_le.mpr hbl
  refine lv_aload_n hx hb d_law_198 rfl (lv_at hl 1 rfl) ?_
  refine lv_aload_n hx hb d_law_199 rfl (lv_at hl 0 rfl) ?_
  refine lv_iload hx hb d_law_200 (lv_at hl 4 rfl) ?_
  refine lv_iconst (v := 1) hx hb d_law_202 (by decide) ?_
  refine lv_iadd hx hb d_law_203 ?_
  refine va_sld hx hb hX hbl hbA I.2.2.2.2.2 (lw_in1 hL hi) d_law_204 ?_
  refine lv_aload_n hx hb d_law_205 rfl (lv_at hl 0 rfl) ?_
  refine lv_iload hx hb d_law_206 (lv_at hl 4 rfl) ?_
  refine lv_iconst (v := 2) hx hb d_law_208 (by decide) ?_
  refine lv_iadd hx hb d_law_209 ?_
  refine va_sld hx hb hX hbl hbA I.2.2.2.2.2 (lw_in2 hL hi) d_law_210 ?_
  refine lv_aload_n hx hb d_law_211 rfl (lv_at hl 3 rfl) ?_
  obtain ⟨r, w, th, hR1, hEv, hk, hrR, hrT, hag, hRl1⟩ := (St.2.2 i hi).2.2.2.1 (xs ((nI i) + 1).toNatClampNeg) (xs ((nI i) + 2).toNatClampNeg) hC hR hRl
  refine lw_callX (n := 4) (ia := [.int (xs ((nI i) + 1).toNatClampNeg), .int (xs ((nI i) + 2).toNatClampNeg)]) (rest := []) X Fx I (lx_has I.1 h0C Fx.2.2.2.1 (fun sz => cx_T_has hst Fx.1 (Nat.le_of_ble_eq_true rfl) hEv I.1 sz) hk) wt_526 wt_527 wt_507 wl_has (by decide +kernel) (by decide) rfl (Nat.le_of_ble_eq_true rfl) hl.1 d_law_212 hcs (fun co f1 H locs hcase I => ?_)
  refine W.eq (g2 := F0 m 215 ls [.int co]) rfl ?_
  obtain ⟨hth, hout⟩ := lw_agree hcase hag
  refine lv_istore (lv' := [(5, .int co), (0, .ref b), (1, .ref (ρC 0)), (2, .ref (ρR 0)), (3, .ref oa), (4, .int (nI i))]) hx hb d_law_215 hl (by decide) rfl (fun ls hl => ?_)
  refine lv_aload_n hx hb d_law_217 rfl (lv_at hl 3 rfl) ?_
  refine lv_aload_n hx hb d_law_218 rfl (lv_at hl 1 rfl) ?_
  refine lv_iload hx hb d_law_219 (lv_at hl 5 rfl) ?_
  refine lv_iconst (v := 1) hx hb d_law_221 (by decide) ?_
  refine lv_iadd hx hb d_law_222 ?_
  refine va_sld hx hb hX hbl hbA I.2.2.2.2.2 (lw_in1 hL hi) d_law_223 ?_
  refine lv_aload_n hx hb d_law_224 rfl (lv_at hl 1 rfl) ?_
  refine lv_iload hx hb d_law_225 (lv_at hl 5 rfl) ?_
  refine lv_iconst (v := 2) hx hb d_law_227 (by decide) ?_
  refine lv_iadd hx hb d_law_228 ?_
  refine va_sld hx hb hX hbl hbA I.2.2.2.2.2 (lw_in2 hL hi) d_law_229 ?_
  refine lw_callR (n := 2) (av := [.int (xs ((nI i) + 1).toNatClampNeg), .int (xs ((nI i) + 2).toNatClampNeg)]) (rest := []) X Fx I (id := 21) rfl hrR h0R wt_528 wt_529 wt_530 wt_351 wt_329 (by decide +kernel) (by decide) rfl rfl (Nat.le_of_ble_eq_true rfl) hl.1 d_law_230 hcs (fun H locs I => ?_)
  refine W.eq (g2 := F0 m 233 ls [.int w]) rfl ?_
  refine lv_istore (lv' := [(6, .int w), (5, .int co), (0, .ref b), (1, .ref (ρC 0)), (2, .ref (ρR 0)), (3, .ref oa), (4, .int (nI i))]) hx hb d_law_233 hl (by decide) rfl (fun ls hl => ?_)
  refine lv_aload_n hx hb d_law_235 rfl (lv_at hl 4 rfl) ?_
  obtain ⟨-, fsR1, h0R1⟩ := St.1 _ _ _ hRl1
  refine lw_callR (n := 0) (av := []) (rest := []) X Fx I (id := 0) rfl hrT h0R1 wt_511 wt_512 wt_513 wt_351 wt_308 (by decide +kernel) (by decide) rfl rfl (Nat.le_of_ble_eq_true rfl) hl.1 d_law_236 hcs (fun H locs I => ?_)
  refine W.eq (g2 := F0 m 239 ls [.int th]) rfl ?_
  refine lv_iload hx hb d_law_239 (lv_at hl 1 rfl) ?_
  refine lv_icmp_eq (tgt := 246) hx hb d_law_241 (by decide) (fun c9 => ?_) (fun c9 => absurd hth c9)
  refine lv_iload hx hb d_law_246 (lv_at hl 1 rfl) ?_
  refine lv_if_ne (tgt := 263) hx hb d_law_248 (by decide) (fun c9 => ?_) (fun c9 => ?_)
  · refine lv_goto (tgt := 438) hx hb d_law_263 (by decide) ?_
    exact kk _ _ _ _ _ _ hRl1 I (lv_sub hl [2, 3, 4, 5, 6] rfl)
  · refine lv_aload_n hx hb d_law_251 rfl (lv_at hl 5 rfl) ?_
    refine lv_iconst (v := 0) hx hb d_law_252 (by decide) ?_
    refine lw_lald0 X I d_law_253 ?_
    refine lv_iload hx hb d_law_254 (lv_at hl 0 rfl) ?_
    refine lv_i2l hx hb d_law_256 rfl ?_
    refine W.lcmp hx hb d_law_257 ?_
    refine lv_if_eq (tgt := 263) hx hb d_law_258 (by decide) (fun c8 => ?_) (fun c8 => absurd (lw_cmp (hout c9)) c8)
    refine lv_goto (tgt := 438) hx hb d_law_263 (by decide) ?_
    exact kk _ _ _ _ _ _ hRl1 I (lv_sub hl [2, 3, 4, 5, 6] rfl)
set_option maxHeartbeats 4000000 in
set_option maxRecDepth 100000 in
theorem lw_c_order {p : Program} {l : Launch} {e : Env} {s : State} {m : MethodId} {below : List Frame} {meth : Method} {c : Code} {D : va_G} {kc : Nat → ClassId} {b L : Nat} {xs : Nat → Int32} {ρC ρR : Nat → Nat} {oa : Nat} {Rl : Nat → am_H → am_H → Prop} {i : Nat} {cells slots : Nat} (St : lw_St Rl L) (X : lw_X p l s m meth c D kc b L xs) (Fx : lw_Fx s ρC ρR oa) (hL : L ≤ 1536) (hi : i + 3 ≤ L) (hcs : cells + 1 ≤ 601024 ∧ slots + 6 ≤ 7293033) {hC hR : am_H} {f : Nat → Int64} {H : Heap} {locs : List Loc} {ls : Array Slot} (hRl : Rl i hC hR) (I : lw_I s D kc ρC ρR oa hC hR f H locs) (hl : lv_has ls 7 [(0, .ref b), (1, .ref (ρC 0)), (2, .ref (ρR 0)), (3, .ref oa), (4, .int (nI i))])
    (kk : ∀ (hC' hR' : am_H) (f' : Nat → Int64) (H1 : Heap) (locs1 : List Loc) (ls1 : Array Slot), Rl (i + 3) hC' hR' → lw_I s D kc ρC ρR oa hC' hR' f' H1 locs1 → lv_has ls1 7 [(0, .ref b), (1, .ref (ρC 0)), (2, .ref (ρR 0)), (3, .ref oa), (4, .int (nI i))] → W p l e room_1 s m #[Value.ref b] below meth c H1 locs1 (cells + 1) (slots + 6) (lw_Z below #[Value.ref b] s) (F0 m 438 ls1 [])) :
    W p l e room_1 s m #[Value.ref b] below meth c H locs cells slots (lw_Z below #[Value.ref b] s) (F0 m 266 ls []) := by
  obtain ⟨⟨fsC, h0C⟩, fsR, h0R⟩ := St.1 i hC hR hRl
  obtain ⟨⟨hx, hb, hr, hml, hown, hts, hX, hbl, hlocks, hgv⟩, hK, hOk, hN, hZ, hst⟩ := id X
  have hbA : ¬ lw_A s b := Nat.not_le.mpr hbl
  refine lv_aload_n hx hb d_law_266 rfl (lv_at hl 1 rfl) ?_
  obtain ⟨hC1, hR1, hrC, hrR, hRl1⟩ := (St.2.2 i hi).2.2.2.2.1  hC hR hRl
  refine lw_callC (n := 0) (av := []) (rest := []) X Fx I (id := 63) rfl hrC h0C wt_531 wt_532 wt_533 wt_275 wt_63 (by decide +kernel) (by decide) rfl rfl (Nat.le_of_ble_eq_true rfl) hl.1 d_law_267 ⟨Nat.le_of_succ_le hcs.1, Nat.le_trans (Nat.le_add_right _ 6) hcs.2⟩ (fun H locs I => ?_)
  refine W.eq (g2 := F0 m 270 ls []) rfl ?_
  refine lv_aload_n hx hb d_law_270 rfl (lv_at hl 2 rfl) ?_
  refine lw_callR (n := 0) (av := []) (rest := []) X Fx I (id := 24) rfl hrR h0R wt_534 wt_535 wt_536 wt_351 wt_332 (by decide +kernel) (by decide) rfl rfl (Nat.le_of_ble_eq_true rfl) hl.1 d_law_271 ⟨Nat.le_of_succ_le hcs.1, Nat.le_trans (Nat.le_add_right _ 6) hcs.2⟩ (fun H locs I => ?_)
  refine W.eq (g2 := F0 m 274 ls []) rfl ?_
  refine lv_goto (tgt := 438) hx hb d_law_274 (by decide) ?_
  refine W.widen (k := cells + 1) (n := slots + 6) (by omega) (by omega) ?_
  exact kk _ _ _ _ _ _ hRl1 I (lv_sub hl [0, 1, 2, 3, 4] rfl)
set_option maxHeartbeats 4000000 in
set_option maxRecDepth 100000 in
theorem lw_c_write {p : Program} {l : Launch} {e : Env} {s : State} {m : MethodId} {below : List Frame} {meth : Method} {c : Code} {D : va_G} {kc : Nat → ClassId} {b L : Nat} {xs : Nat → Int32} {ρC ρR : Nat → Nat} {oa : Nat} {Rl : Nat → am_H → am_H → Prop} {i : Nat} {cells slots : Nat} (St : lw_St Rl L) (X : lw_X p l s m meth c D kc b L xs) (Fx : lw_Fx s ρC ρR oa) (hL : L ≤ 1536) (hi : i + 3 ≤ L) (hcs : cells + 1 ≤ 601024 ∧ slots + 6 ≤ 7293033) {hC hR : am_H} {f : Nat → Int64} {H : Heap} {locs : List Loc} {ls : Array Slot} (hRl : Rl i hC hR) (I : lw_I s D kc ρC ρR oa hC hR f H locs) (hl : lv_has ls 7 [(0, .ref b), (1, .ref (ρC 0)), (2, .ref (ρR 0)), (3, .ref oa), (4, .int (nI i))])
    (kk : ∀ (hC' hR' : am_H) (f' : Nat → Int64) (H1 : Heap) (locs1 : List Loc) (ls1 : Array Slot), Rl (i + 3) hC' hR' → lw_I s D kc ρC ρR oa hC' hR' f' H1 locs1 → lv_has ls1 7 [(0, .ref b), (1, .ref (ρC 0)), (2, .ref (ρR 0)), (3, .ref oa), (4, .int (nI i))] → W p l e room_1 s m #[Value.ref b] below meth c H1 locs1 (cells + 1) (slots + 6) (lw_Z below #[Value.ref b] s) (F0 m 438 ls1 [])) :
    W p l e room_1 s m #[Value.ref b] below meth c H locs cells slots (lw_Z below #[Value.ref b] s) (F0 m 277 ls []) := by
  obtain ⟨⟨fsC, h0C⟩, fsR, h0R⟩ := St.1 i hC hR hRl
  obtain ⟨⟨hx, hb, hr, hml, hown, hts, hX, hbl, hlocks, hgv⟩, hK, hOk, hN, hZ, hst⟩ := id X
  have hbA : ¬ lw_A s b := Nat.not_le.mpr hbl
  refine lv_aload_n hx hb d_law_277 rfl (lv_at hl 1 rfl) ?_
  refine lv_aload_n hx hb d_law_278 rfl (lv_at hl 0 rfl) ?_
  refine lv_iload hx hb d_law_279 (lv_at hl 4 rfl) ?_
  refine lv_iconst (v := 1) hx hb d_law_281 (by decide) ?_
  refine lv_iadd hx hb d_law_282 ?_
  refine va_sld hx hb hX hbl hbA I.2.2.2.2.2 (lw_in1 hL hi) d_law_283 ?_
  refine lv_aload_n hx hb d_law_284 rfl (lv_at hl 3 rfl) ?_
  obtain ⟨r, w, th, hR1, hEv, hk, hrR, hrT, hag, hRl1⟩ := (St.2.2 i hi).2.2.2.2.2.1 (xs ((nI i) + 1).toNatClampNeg) hC hR hRl
  refine lw_callX (n := 3) (ia := [.int (xs ((nI i) + 1).toNatClampNeg)]) (rest := []) X Fx I (lx_write I.1 h0C Fx.2.2.2.1 (fun sz => cx_T_write hst Fx.1 (Nat.le_of_ble_eq_true rfl) hEv I.1 sz) hk) wt_537 wt_538 wt_507 wl_write (by decide +kernel) (by decide) rfl (Nat.le_of_ble_eq_true rfl) hl.1 d_law_285 hcs (fun co f1 H locs hcase I => ?_)
  refine W.eq (g2 := F0 m 288 ls [.int co]) rfl ?_
  obtain ⟨hth, hout⟩ := lw_agree hcase hag
  refine lv_istore (lv' := [(5, .int co), (0, .ref b), (1, .ref (ρC 0)), (2, .ref (ρR 0)), (3, .ref oa), (4, .int (nI i))]) hx hb d_law_288 hl (by decide) rfl (fun ls hl => ?_)
  refine lv_aload_n hx hb d_law_290 rfl (lv_at hl 3 rfl) ?_
  refine lv_aload_n hx hb d_law_291 rfl (lv_at hl 1 rfl) ?_
  refine lv_iload hx hb d_law_292 (lv_at hl 5 rfl) ?_
  refine lv_iconst (v := 1) hx hb d_law_294 (by decide) ?_
  refine lv_iadd hx hb d_law_295 ?_
  refine va_sld hx hb hX hbl hbA I.2.2.2.2.2 (lw_in1 hL hi) d_law_296 ?_
  refine lw_callR (n := 1) (av := [.int (xs ((nI i) + 1).toNatClampNeg)]) (rest := []) X Fx I (id := 29) rfl hrR h0R wt_539 wt_540 wt_541 wt_351 wt_337 (by decide +kernel) (by decide) rfl rfl (Nat.le_of_ble_eq_true rfl) hl.1 d_law_297 hcs (fun H locs I => ?_)
  refine W.eq (g2 := F0 m 300 ls [.int w]) rfl ?_
  refine lv_istore (lv' := [(6, .int w), (5, .int co), (0, .ref b), (1, .ref (ρC 0)), (2, .ref (ρR 0)), (3, .ref oa), (4, .int (nI i))]) hx hb d_law_300 hl (by decide) rfl (fun ls hl => ?_)
  refine lv_aload_n hx hb d_law_302 rfl (lv_at hl 4 rfl) ?_
  obtain ⟨-, fsR1, h0R1⟩ := St.1 _ _ _ hRl1
  refine lw_callR (n := 0) (av := []) (rest := []) X Fx I (id := 0) rfl hrT h0R1 wt_511 wt_512 wt_513 wt_351 wt_308 (by decide +kernel) (by decide) rfl rfl (Nat.le_of_ble_eq_true rfl) hl.1 d_law_303 hcs (fun H locs I => ?_)
  refine W.eq (g2 := F0 m 306 ls [.int th]) rfl ?_
  refine lv_iload hx hb d_law_306 (lv_at hl 1 rfl) ?_
  refine lv_icmp_eq (tgt := 313) hx hb d_law_308 (by decide) (fun c9 => ?_) (fun c9 => absurd hth c9)
  refine lv_iload hx hb d_law_313 (lv_at hl 1 rfl) ?_
  refine lv_if_ne (tgt := 330) hx hb d_law_315 (by decide) (fun c9 => ?_) (fun c9 => ?_)
  · refine lv_goto (tgt := 438) hx hb d_law_330 (by decide) ?_
    exact kk _ _ _ _ _ _ hRl1 I (lv_sub hl [2, 3, 4, 5, 6] rfl)
  · refine lv_aload_n hx hb d_law_318 rfl (lv_at hl 5 rfl) ?_
    refine lv_iconst (v := 0) hx hb d_law_319 (by decide) ?_
    refine lw_lald0 X I d_law_320 ?_
    refine lv_iload hx hb d_law_321 (lv_at hl 0 rfl) ?_
    refine lv_i2l hx hb d_law_323 rfl ?_
    refine W.lcmp hx hb d_law_324 ?_
    refine lv_if_eq (tgt := 330) hx hb d_law_325 (by decide) (fun c8 => ?_) (fun c8 => absurd (lw_cmp (hout c9)) c8)
    refine lv_goto (tgt := 438) hx hb d_law_330 (by decide) ?_
    exact kk _ _ _ _ _ _ hRl1 I (lv_sub hl [2, 3, 4, 5, 6] rfl)
set_option maxHeartbeats 4000000 in
set_option maxRecDepth 100000 in
theorem lw_c_written {p : Program} {l : Launch} {e : Env} {s : State} {m : MethodId} {below : List Frame} {meth : Method} {c : Code} {D : va_G} {kc : Nat → ClassId} {b L : Nat} {xs : Nat → Int32} {ρC ρR : Nat → Nat} {oa : Nat} {Rl : Nat → am_H → am_H → Prop} {i : Nat} {cells slots : Nat} (St : lw_St Rl L) (X : lw_X p l s m meth c D kc b L xs) (Fx : lw_Fx s ρC ρR oa) (hL : L ≤ 1536) (hi : i + 3 ≤ L) (hcs : cells + 1 ≤ 601024 ∧ slots + 6 ≤ 7293033) {hC hR : am_H} {f : Nat → Int64} {H : Heap} {locs : List Loc} {ls : Array Slot} (hRl : Rl i hC hR) (I : lw_I s D kc ρC ρR oa hC hR f H locs) (hl : lv_has ls 7 [(0, .ref b), (1, .ref (ρC 0)), (2, .ref (ρR 0)), (3, .ref oa), (4, .int (nI i))])
    (kk : ∀ (hC' hR' : am_H) (f' : Nat → Int64) (H1 : Heap) (locs1 : List Loc) (ls1 : Array Slot), Rl (i + 3) hC' hR' → lw_I s D kc ρC ρR oa hC' hR' f' H1 locs1 → lv_has ls1 7 [(0, .ref b), (1, .ref (ρC 0)), (2, .ref (ρR 0)), (3, .ref oa), (4, .int (nI i))] → W p l e room_1 s m #[Value.ref b] below meth c H1 locs1 (cells + 1) (slots + 6) (lw_Z below #[Value.ref b] s) (F0 m 438 ls1 [])) :
    W p l e room_1 s m #[Value.ref b] below meth c H locs cells slots (lw_Z below #[Value.ref b] s) (F0 m 333 ls []) := by
  obtain ⟨⟨fsC, h0C⟩, fsR, h0R⟩ := St.1 i hC hR hRl
  obtain ⟨⟨hx, hb, hr, hml, hown, hts, hX, hbl, hlocks, hgv⟩, hK, hOk, hN, hZ, hst⟩ := id X
  have hbA : ¬ lw_A s b := Nat.not_le.mpr hbl
  refine lv_aload_n hx hb d_law_333 rfl (lv_at hl 1 rfl) ?_
  refine lv_aload_n hx hb d_law_334 rfl (lv_at hl 0 rfl) ?_
  refine lv_iload hx hb d_law_335 (lv_at hl 4 rfl) ?_
  refine lv_iconst (v := 1) hx hb d_law_337 (by decide) ?_
  refine lv_iadd hx hb d_law_338 ?_
  refine va_sld hx hb hX hbl hbA I.2.2.2.2.2 (lw_in1 hL hi) d_law_339 ?_
  refine lv_aload_n hx hb d_law_340 rfl (lv_at hl 3 rfl) ?_
  obtain ⟨r, w, th, hR1, hEv, hk, hrR, hrT, hag, hRl1⟩ := (St.2.2 i hi).2.2.2.2.2.2.1 (xs ((nI i) + 1).toNatClampNeg) hC hR hRl
  refine lw_callX (n := 3) (ia := [.int (xs ((nI i) + 1).toNatClampNeg)]) (rest := []) X Fx I (lx_written I.1 h0C Fx.2.2.2.1 (fun sz => cx_T_written hst Fx.1 (Nat.le_of_ble_eq_true rfl) hEv I.1 sz) hk) wt_542 wt_543 wt_507 wl_written (by decide +kernel) (by decide) rfl (Nat.le_of_ble_eq_true rfl) hl.1 d_law_341 hcs (fun co f1 H locs hcase I => ?_)
  refine W.eq (g2 := F0 m 344 ls [.int co]) rfl ?_
  obtain ⟨hth, hout⟩ := lw_agree hcase hag
  refine lv_istore (lv' := [(5, .int co), (0, .ref b), (1, .ref (ρC 0)), (2, .ref (ρR 0)), (3, .ref oa), (4, .int (nI i))]) hx hb d_law_344 hl (by decide) rfl (fun ls hl => ?_)
  refine lv_aload_n hx hb d_law_346 rfl (lv_at hl 3 rfl) ?_
  refine lv_aload_n hx hb d_law_347 rfl (lv_at hl 1 rfl) ?_
  refine lv_iload hx hb d_law_348 (lv_at hl 5 rfl) ?_
  refine lv_iconst (v := 1) hx hb d_law_350 (by decide) ?_
  refine lv_iadd hx hb d_law_351 ?_
  refine va_sld hx hb hX hbl hbA I.2.2.2.2.2 (lw_in1 hL hi) d_law_352 ?_
  refine lw_callR (n := 1) (av := [.int (xs ((nI i) + 1).toNatClampNeg)]) (rest := []) X Fx I (id := 30) rfl hrR h0R wt_544 wt_545 wt_546 wt_351 wt_338 (by decide +kernel) (by decide) rfl rfl (Nat.le_of_ble_eq_true rfl) hl.1 d_law_353 hcs (fun H locs I => ?_)
  refine W.eq (g2 := F0 m 356 ls [.int w]) rfl ?_
  refine lv_istore (lv' := [(6, .int w), (5, .int co), (0, .ref b), (1, .ref (ρC 0)), (2, .ref (ρR 0)), (3, .ref oa), (4, .int (nI i))]) hx hb d_law_356 hl (by decide) rfl (fun ls hl => ?_)
  refine lv_aload_n hx hb d_law_358 rfl (lv_at hl 4 rfl) ?_
  obtain ⟨-, fsR1, h0R1⟩ := St.1 _ _ _ hRl1
  refine lw_callR (n := 0) (av := []) (rest := []) X Fx I (id := 0) rfl hrT h0R1 wt_511 wt_512 wt_513 wt_351 wt_308 (by decide +kernel) (by decide) rfl rfl (Nat.le_of_ble_eq_true rfl) hl.1 d_law_359 hcs (fun H locs I => ?_)
  refine W.eq (g2 := F0 m 362 ls [.int th]) rfl ?_
  refine lv_iload hx hb d_law_362 (lv_at hl 1 rfl) ?_
  refine lv_icmp_eq (tgt := 369) hx hb d_law_364 (by decide) (fun c9 => ?_) (fun c9 => absurd hth c9)
  refine lv_iload hx hb d_law_369 (lv_at hl 1 rfl) ?_
  refine lv_if_ne (tgt := 386) hx hb d_law_371 (by decide) (fun c9 => ?_) (fun c9 => ?_)
  · refine lv_goto (tgt := 438) hx hb d_law_386 (by decide) ?_
    exact kk _ _ _ _ _ _ hRl1 I (lv_sub hl [2, 3, 4, 5, 6] rfl)
  · refine lv_aload_n hx hb d_law_374 rfl (lv_at hl 5 rfl) ?_
    refine lv_iconst (v := 0) hx hb d_law_375 (by decide) ?_
    refine lw_lald0 X I d_law_376 ?_
    refine lv_iload hx hb d_law_377 (lv_at hl 0 rfl) ?_
    refine lv_i2l hx hb d_law_379 rfl ?_
    refine W.lcmp hx hb d_law_380 ?_
    refine lv_if_eq (tgt := 386) hx hb d_law_381 (by decide) (fun c8 => ?_) (fun c8 => absurd (lw_cmp (hout c9)) c8)
    refine lv_goto (tgt := 438) hx hb d_law_386 (by decide) ?_
    exact kk _ _ _ _ _ _ hRl1 I (lv_sub hl [2, 3, 4, 5, 6] rfl)
set_option maxHeartbeats 4000000 in
set_option maxRecDepth 100000 in
theorem lw_c_reset {p : Program} {l : Launch} {e : Env} {s : State} {m : MethodId} {below : List Frame} {meth : Method} {c : Code} {D : va_G} {kc : Nat → ClassId} {b L : Nat} {xs : Nat → Int32} {ρC ρR : Nat → Nat} {oa : Nat} {Rl : Nat → am_H → am_H → Prop} {i : Nat} {cells slots : Nat} (St : lw_St Rl L) (X : lw_X p l s m meth c D kc b L xs) (Fx : lw_Fx s ρC ρR oa) (hL : L ≤ 1536) (hi : i + 3 ≤ L) (hcs : cells + 1 ≤ 601024 ∧ slots + 6 ≤ 7293033) {hC hR : am_H} {f : Nat → Int64} {H : Heap} {locs : List Loc} {ls : Array Slot} (hRl : Rl i hC hR) (I : lw_I s D kc ρC ρR oa hC hR f H locs) (hl : lv_has ls 7 [(0, .ref b), (1, .ref (ρC 0)), (2, .ref (ρR 0)), (3, .ref oa), (4, .int (nI i))])
    (kk : ∀ (hC' hR' : am_H) (f' : Nat → Int64) (H1 : Heap) (locs1 : List Loc) (ls1 : Array Slot), Rl (i + 3) hC' hR' → lw_I s D kc ρC ρR oa hC' hR' f' H1 locs1 → lv_has ls1 7 [(0, .ref b), (1, .ref (ρC 0)), (2, .ref (ρR 0)), (3, .ref oa), (4, .int (nI i))] → W p l e room_1 s m #[Value.ref b] below meth c H1 locs1 (cells + 1) (slots + 6) (lw_Z below #[Value.ref b] s) (F0 m 438 ls1 [])) :
    W p l e room_1 s m #[Value.ref b] below meth c H locs cells slots (lw_Z below #[Value.ref b] s) (F0 m 389 ls []) := by
  obtain ⟨⟨fsC, h0C⟩, fsR, h0R⟩ := St.1 i hC hR hRl
  obtain ⟨⟨hx, hb, hr, hml, hown, hts, hX, hbl, hlocks, hgv⟩, hK, hOk, hN, hZ, hst⟩ := id X
  have hbA : ¬ lw_A s b := Nat.not_le.mpr hbl
  refine lv_aload_n hx hb d_law_389 rfl (lv_at hl 1 rfl) ?_
  obtain ⟨hC1, hR1, hrC, hrR, hRl1⟩ := (St.2.2 i hi).2.2.2.2.2.2.2.1  hC hR hRl
  refine lw_callC (n := 0) (av := []) (rest := []) X Fx I (id := 64) rfl hrC h0C wt_547 wt_548 wt_549 wt_275 wt_64 (by decide +kernel) (by decide) rfl rfl (Nat.le_of_ble_eq_true rfl) hl.1 d_law_390 ⟨Nat.le_of_succ_le hcs.1, Nat.le_trans (Nat.le_add_right _ 6) hcs.2⟩ (fun H locs I => ?_)
  refine W.eq (g2 := F0 m 393 ls []) rfl ?_
  refine lv_aload_n hx hb d_law_393 rfl (lv_at hl 2 rfl) ?_
  refine lw_callR (n := 0) (av := []) (rest := []) X Fx I (id := 31) rfl hrR h0R wt_550 wt_425 wt_426 wt_351 wt_339 (by decide +kernel) (by decide) rfl rfl (Nat.le_of_ble_eq_true rfl) hl.1 d_law_394 ⟨Nat.le_of_succ_le hcs.1, Nat.le_trans (Nat.le_add_right _ 6) hcs.2⟩ (fun H locs I => ?_)
  refine W.eq (g2 := F0 m 397 ls []) rfl ?_
  refine lv_goto (tgt := 438) hx hb d_law_397 (by decide) ?_
  refine W.widen (k := cells + 1) (n := slots + 6) (by omega) (by omega) ?_
  exact kk _ _ _ _ _ _ hRl1 I (lv_sub hl [0, 1, 2, 3, 4] rfl)
set_option maxHeartbeats 4000000 in
set_option maxRecDepth 100000 in
theorem lw_c_cycle {p : Program} {l : Launch} {e : Env} {s : State} {m : MethodId} {below : List Frame} {meth : Method} {c : Code} {D : va_G} {kc : Nat → ClassId} {b L : Nat} {xs : Nat → Int32} {ρC ρR : Nat → Nat} {oa : Nat} {Rl : Nat → am_H → am_H → Prop} {i : Nat} {cells slots : Nat} (St : lw_St Rl L) (X : lw_X p l s m meth c D kc b L xs) (Fx : lw_Fx s ρC ρR oa) (hL : L ≤ 1536) (hi : i + 3 ≤ L) (hcs : cells + 1 ≤ 601024 ∧ slots + 6 ≤ 7293033) {hC hR : am_H} {f : Nat → Int64} {H : Heap} {locs : List Loc} {ls : Array Slot} (hRl : Rl i hC hR) (I : lw_I s D kc ρC ρR oa hC hR f H locs) (hl : lv_has ls 7 [(0, .ref b), (1, .ref (ρC 0)), (2, .ref (ρR 0)), (3, .ref oa), (4, .int (nI i))])
    (kk : ∀ (hC' hR' : am_H) (f' : Nat → Int64) (H1 : Heap) (locs1 : List Loc) (ls1 : Array Slot), Rl (i + 3) hC' hR' → lw_I s D kc ρC ρR oa hC' hR' f' H1 locs1 → lv_has ls1 7 [(0, .ref b), (1, .ref (ρC 0)), (2, .ref (ρR 0)), (3, .ref oa), (4, .int (nI i))] → W p l e room_1 s m #[Value.ref b] below meth c H1 locs1 (cells + 1) (slots + 6) (lw_Z below #[Value.ref b] s) (F0 m 438 ls1 [])) :
    W p l e room_1 s m #[Value.ref b] below meth c H locs cells slots (lw_Z below #[Value.ref b] s) (F0 m 400 ls []) := by
  obtain ⟨⟨fsC, h0C⟩, fsR, h0R⟩ := St.1 i hC hR hRl
  obtain ⟨⟨hx, hb, hr, hml, hown, hts, hX, hbl, hlocks, hgv⟩, hK, hOk, hN, hZ, hst⟩ := id X
  have hbA : ¬ lw_A s b := Nat.not_le.mpr hbl
  refine lv_aload_n hx hb d_law_400 rfl (lv_at hl 1 rfl) ?_
  refine lv_aload_n hx hb d_law_401 rfl (lv_at hl 0 rfl) ?_
  refine lv_iload hx hb d_law_402 (lv_at hl 4 rfl) ?_
  refine lv_iconst (v := 1) hx hb d_law_404 (by decide) ?_
  refine lv_iadd hx hb d_law_405 ?_
  refine va_sld hx hb hX hbl hbA I.2.2.2.2.2 (lw_in1 hL hi) d_law_406 ?_
  obtain ⟨v, w, hC1, hR1, hrC, hrR, hvw, hRl1⟩ := (St.2.2 i hi).2.2.2.2.2.2.2.2.1 (xs ((nI i) + 1).toNatClampNeg) hC hR hRl
  refine lw_callC (n := 1) (av := [.int (xs ((nI i) + 1).toNatClampNeg)]) (rest := []) X Fx I (id := 65) rfl hrC h0C wt_551 wt_552 wt_553 wt_275 wt_65 (by decide +kernel) (by decide) rfl rfl (Nat.le_of_ble_eq_true rfl) hl.1 d_law_407 ⟨Nat.le_of_succ_le hcs.1, Nat.le_trans (Nat.le_add_right _ 6) hcs.2⟩ (fun H locs I => ?_)
  refine W.eq (g2 := F0 m 410 ls [.int v]) rfl ?_
  refine lv_aload_n hx hb d_law_410 rfl (lv_at hl 2 rfl) ?_
  refine lv_aload_n hx hb d_law_411 rfl (lv_at hl 0 rfl) ?_
  refine lv_iload hx hb d_law_412 (lv_at hl 4 rfl) ?_
  refine lv_iconst (v := 1) hx hb d_law_414 (by decide) ?_
  refine lv_iadd hx hb d_law_415 ?_
  refine va_sld hx hb hX hbl hbA I.2.2.2.2.2 (lw_in1 hL hi) d_law_416 ?_
  refine lw_callR (n := 1) (av := [.int (xs ((nI i) + 1).toNatClampNeg)]) (rest := [.int v]) X Fx I (id := 33) rfl hrR h0R wt_554 wt_555 wt_556 wt_351 wt_341 (by decide +kernel) (by decide) rfl rfl (Nat.le_of_ble_eq_true rfl) hl.1 d_law_417 ⟨Nat.le_of_succ_le hcs.1, Nat.le_trans (Nat.le_add_right _ 6) hcs.2⟩ (fun H locs I => ?_)
  refine W.eq (g2 := F0 m 420 ls [.int w, .int v]) rfl ?_
  refine lv_icmp_eq (tgt := 438) hx hb d_law_420 (by decide) (fun c9 => ?_) (fun c9 => absurd (hvw rfl) c9)
  refine W.widen (k := cells + 1) (n := slots + 6) (by omega) (by omega) ?_
  exact kk _ _ _ _ _ _ hRl1 I (lv_sub hl [0, 1, 2, 3, 4] rfl)
set_option maxHeartbeats 4000000 in
set_option maxRecDepth 100000 in
theorem lw_c_latches {p : Program} {l : Launch} {e : Env} {s : State} {m : MethodId} {below : List Frame} {meth : Method} {c : Code} {D : va_G} {kc : Nat → ClassId} {b L : Nat} {xs : Nat → Int32} {ρC ρR : Nat → Nat} {oa : Nat} {Rl : Nat → am_H → am_H → Prop} {i : Nat} {cells slots : Nat} (St : lw_St Rl L) (X : lw_X p l s m meth c D kc b L xs) (Fx : lw_Fx s ρC ρR oa) (hL : L ≤ 1536) (hi : i + 3 ≤ L) (hcs : cells + 1 ≤ 601024 ∧ slots + 6 ≤ 7293033) {hC hR : am_H} {f : Nat → Int64} {H : Heap} {locs : List Loc} {ls : Array Slot} (hRl : Rl i hC hR) (I : lw_I s D kc ρC ρR oa hC hR f H locs) (hl : lv_has ls 7 [(0, .ref b), (1, .ref (ρC 0)), (2, .ref (ρR 0)), (3, .ref oa), (4, .int (nI i))])
    (kk : ∀ (hC' hR' : am_H) (f' : Nat → Int64) (H1 : Heap) (locs1 : List Loc) (ls1 : Array Slot), Rl (i + 3) hC' hR' → lw_I s D kc ρC ρR oa hC' hR' f' H1 locs1 → lv_has ls1 7 [(0, .ref b), (1, .ref (ρC 0)), (2, .ref (ρR 0)), (3, .ref oa), (4, .int (nI i))] → W p l e room_1 s m #[Value.ref b] below meth c H1 locs1 (cells + 1) (slots + 6) (lw_Z below #[Value.ref b] s) (F0 m 438 ls1 [])) :
    W p l e room_1 s m #[Value.ref b] below meth c H locs cells slots (lw_Z below #[Value.ref b] s) (F0 m 425 ls []) := by
  obtain ⟨⟨fsC, h0C⟩, fsR, h0R⟩ := St.1 i hC hR hRl
  obtain ⟨⟨hx, hb, hr, hml, hown, hts, hX, hbl, hlocks, hgv⟩, hK, hOk, hN, hZ, hst⟩ := id X
  have hbA : ¬ lw_A s b := Nat.not_le.mpr hbl
  refine lv_aload_n hx hb d_law_425 rfl (lv_at hl 1 rfl) ?_
  obtain ⟨v, w, hC1, hR1, hrC, hrR, hvw, hRl1⟩ := (St.2.2 i hi).2.2.2.2.2.2.2.2.2  hC hR hRl
  refine lw_callC (n := 0) (av := []) (rest := []) X Fx I (id := 66) rfl hrC h0C wt_557 wt_558 wt_559 wt_275 wt_66 (by decide +kernel) (by decide) rfl rfl (Nat.le_of_ble_eq_true rfl) hl.1 d_law_426 ⟨Nat.le_of_succ_le hcs.1, Nat.le_trans (Nat.le_add_right _ 6) hcs.2⟩ (fun H locs I => ?_)
  refine W.eq (g2 := F0 m 429 ls [.int v]) rfl ?_
  refine lv_aload_n hx hb d_law_429 rfl (lv_at hl 2 rfl) ?_
  refine lw_callR (n := 0) (av := []) (rest := [.int v]) X Fx I (id := 34) rfl hrR h0R wt_560 wt_561 wt_562 wt_351 wt_342 (by decide +kernel) (by decide) rfl rfl (Nat.le_of_ble_eq_true rfl) hl.1 d_law_430 ⟨Nat.le_of_succ_le hcs.1, Nat.le_trans (Nat.le_add_right _ 6) hcs.2⟩ (fun H locs I => ?_)
  refine W.eq (g2 := F0 m 433 ls [.int w, .int v]) rfl ?_
  refine lv_icmp_eq (tgt := 438) hx hb d_law_433 (by decide) (fun c9 => ?_) (fun c9 => absurd (hvw rfl) c9)
  refine W.widen (k := cells + 1) (n := slots + 6) (by omega) (by omega) ?_
  exact kk _ _ _ _ _ _ hRl1 I (lv_sub hl [0, 1, 2, 3, 4] rfl)
