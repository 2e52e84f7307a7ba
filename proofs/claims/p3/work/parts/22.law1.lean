theorem wt_504 : (.methodLink "DesignTextsLaw" 37 ⟨"DesignTextsLaw", "put", "(LDesignTexts;II[J)I"⟩ : Cond) ∈ am_WT := am_inWT (i := 441) (by decide +kernel) (by decide +kernel)
theorem wt_505 : (.static ⟨"DesignTextsLaw", "put", "(LDesignTexts;II[J)I"⟩ : Cond) ∈ am_WT := am_inWT (i := 442) (by decide +kernel) (by decide +kernel)
theorem wt_506 : (.initialized "DesignTextsLaw" : Cond) ∈ am_WT := am_inWT (i := 66) (by decide +kernel) (by decide +kernel)
theorem wt_507 : (.methodLink "DesignTextsLaw" 42 ⟨"DesignTextsModel", "put", "(II)I"⟩ : Cond) ∈ am_WT := am_inWT (i := 779) (by decide +kernel) (by decide +kernel)
theorem wt_508 : (.instanceMethod ⟨"DesignTextsModel", "put", "(II)I"⟩ : Cond) ∈ am_WT := am_inWT (i := 780) (by decide +kernel) (by decide +kernel)
theorem wt_509 : (.selects "DesignTextsModel" ⟨"DesignTextsModel", "put", "(II)I"⟩ ⟨"DesignTextsModel", "put", "(II)I"⟩ : Cond) ∈ am_WT := am_inWT (i := 781) (by decide +kernel) (by decide +kernel)
theorem wt_510 : (.methodLink "DesignTextsLaw" 43 ⟨"DesignTexts", "read", "()I"⟩ : Cond) ∈ am_WT := am_inWT (i := 200) (by decide +kernel) (by decide +kernel)
theorem wt_511 : (.instanceMethod ⟨"DesignTexts", "read", "()I"⟩ : Cond) ∈ am_WT := am_inWT (i := 201) (by decide +kernel) (by decide +kernel)
theorem wt_512 : (.selects "DesignTexts" ⟨"DesignTexts", "read", "()I"⟩ ⟨"DesignTexts", "read", "()I"⟩ : Cond) ∈ am_WT := am_inWT (i := 202) (by decide +kernel) (by decide +kernel)
theorem wt_513 : (.methodLink "DesignTextsLaw" 47 ⟨"DesignTextsModel", "read", "()I"⟩ : Cond) ∈ am_WT := am_inWT (i := 783) (by decide +kernel) (by decide +kernel)
theorem wt_514 : (.instanceMethod ⟨"DesignTextsModel", "read", "()I"⟩ : Cond) ∈ am_WT := am_inWT (i := 784) (by decide +kernel) (by decide +kernel)
theorem wt_515 : (.selects "DesignTextsModel" ⟨"DesignTextsModel", "read", "()I"⟩ ⟨"DesignTextsModel", "read", "()I"⟩ : Cond) ∈ am_WT := am_inWT (i := 785) (by decide +kernel) (by decide +kernel)
theorem wt_516 : (.methodLink "DesignTextsLaw" 48 ⟨"DesignTexts", "about", "(I)I"⟩ : Cond) ∈ am_WT := am_inWT (i := 356) (by decide +kernel) (by decide +kernel)
theorem wt_517 : (.instanceMethod ⟨"DesignTexts", "about", "(I)I"⟩ : Cond) ∈ am_WT := am_inWT (i := 357) (by decide +kernel) (by decide +kernel)
theorem wt_518 : (.selects "DesignTexts" ⟨"DesignTexts", "about", "(I)I"⟩ ⟨"DesignTexts", "about", "(I)I"⟩ : Cond) ∈ am_WT := am_inWT (i := 358) (by decide +kernel) (by decide +kernel)
theorem wt_519 : (.methodLink "DesignTextsLaw" 51 ⟨"DesignTextsModel", "about", "(I)I"⟩ : Cond) ∈ am_WT := am_inWT (i := 855) (by decide +kernel) (by decide +kernel)
theorem wt_520 : (.instanceMethod ⟨"DesignTextsModel", "about", "(I)I"⟩ : Cond) ∈ am_WT := am_inWT (i := 856) (by decide +kernel) (by decide +kernel)
theorem wt_521 : (.selects "DesignTextsModel" ⟨"DesignTextsModel", "about", "(I)I"⟩ ⟨"DesignTextsModel", "about", "(I)I"⟩ : Cond) ∈ am_WT := am_inWT (i := 857) (by decide +kernel) (by decide +kernel)
theorem wt_522 : (.methodLink "DesignTextsLaw" 52 ⟨"DesignTextsLaw", "has", "(LDesignTexts;II[J)I"⟩ : Cond) ∈ am_WT := am_inWT (i := 539) (by decide +kernel) (by decide +kernel)
theorem wt_523 : (.static ⟨"DesignTextsLaw", "has", "(LDesignTexts;II[J)I"⟩ : Cond) ∈ am_WT := am_inWT (i := 540) (by decide +kernel) (by decide +kernel)
theorem wt_524 : (.methodLink "DesignTextsLaw" 54 ⟨"DesignTextsModel", "has", "(II)I"⟩ : Cond) ∈ am_WT := am_inWT (i := 863) (by decide +kernel) (by decide +kernel)
theorem wt_525 : (.instanceMethod ⟨"DesignTextsModel", "has", "(II)I"⟩ : Cond) ∈ am_WT := am_inWT (i := 864) (by decide +kernel) (by decide +kernel)
theorem wt_526 : (.selects "DesignTextsModel" ⟨"DesignTextsModel", "has", "(II)I"⟩ ⟨"DesignTextsModel", "has", "(II)I"⟩ : Cond) ∈ am_WT := am_inWT (i := 865) (by decide +kernel) (by decide +kernel)
theorem wt_527 : (.methodLink "DesignTextsLaw" 55 ⟨"DesignTexts", "order", "()V"⟩ : Cond) ∈ am_WT := am_inWT (i := 378) (by decide +kernel) (by decide +kernel)
theorem wt_528 : (.instanceMethod ⟨"DesignTexts", "order", "()V"⟩ : Cond) ∈ am_WT := am_inWT (i := 379) (by decide +kernel) (by decide +kernel)
theorem wt_529 : (.selects "DesignTexts" ⟨"DesignTexts", "order", "()V"⟩ ⟨"DesignTexts", "order", "()V"⟩ : Cond) ∈ am_WT := am_inWT (i := 380) (by decide +kernel) (by decide +kernel)
theorem wt_530 : (.methodLink "DesignTextsLaw" 58 ⟨"DesignTextsModel", "order", "()V"⟩ : Cond) ∈ am_WT := am_inWT (i := 867) (by decide +kernel) (by decide +kernel)
theorem wt_531 : (.instanceMethod ⟨"DesignTextsModel", "order", "()V"⟩ : Cond) ∈ am_WT := am_inWT (i := 868) (by decide +kernel) (by decide +kernel)
theorem wt_532 : (.selects "DesignTextsModel" ⟨"DesignTextsModel", "order", "()V"⟩ ⟨"DesignTextsModel", "order", "()V"⟩ : Cond) ∈ am_WT := am_inWT (i := 869) (by decide +kernel) (by decide +kernel)
theorem wt_533 : (.methodLink "DesignTextsLaw" 59 ⟨"DesignTextsLaw", "write", "(LDesignTexts;I[J)I"⟩ : Cond) ∈ am_WT := am_inWT (i := 569) (by decide +kernel) (by decide +kernel)
theorem wt_534 : (.static ⟨"DesignTextsLaw", "write", "(LDesignTexts;I[J)I"⟩ : Cond) ∈ am_WT := am_inWT (i := 570) (by decide +kernel) (by decide +kernel)
theorem wt_535 : (.methodLink "DesignTextsLaw" 62 ⟨"DesignTextsModel", "write", "(I)I"⟩ : Cond) ∈ am_WT := am_inWT (i := 879) (by decide +kernel) (by decide +kernel)
theorem wt_536 : (.instanceMethod ⟨"DesignTextsModel", "write", "(I)I"⟩ : Cond) ∈ am_WT := am_inWT (i := 880) (by decide +kernel) (by decide +kernel)
theorem wt_537 : (.selects "DesignTextsModel" ⟨"DesignTextsModel", "write", "(I)I"⟩ ⟨"DesignTextsModel", "write", "(I)I"⟩ : Cond) ∈ am_WT := am_inWT (i := 881) (by decide +kernel) (by decide +kernel)
theorem wt_538 : (.methodLink "DesignTextsLaw" 63 ⟨"DesignTextsLaw", "written", "(LDesignTexts;I[J)I"⟩ : Cond) ∈ am_WT := am_inWT (i := 633) (by decide +kernel) (by decide +kernel)
theorem wt_539 : (.static ⟨"DesignTextsLaw", "written", "(LDesignTexts;I[J)I"⟩ : Cond) ∈ am_WT := am_inWT (i := 634) (by decide +kernel) (by decide +kernel)
theorem wt_540 : (.methodLink "DesignTextsLaw" 65 ⟨"DesignTextsModel", "written", "(I)I"⟩ : Cond) ∈ am_WT := am_inWT (i := 899) (by decide +kernel) (by decide +kernel)
theorem wt_541 : (.instanceMethod ⟨"DesignTextsModel", "written", "(I)I"⟩ : Cond) ∈ am_WT := am_inWT (i := 900) (by decide +kernel) (by decide +kernel)
theorem wt_542 : (.selects "DesignTextsModel" ⟨"DesignTextsModel", "written", "(I)I"⟩ ⟨"DesignTextsModel", "written", "(I)I"⟩ : Cond) ∈ am_WT := am_inWT (i := 901) (by decide +kernel) (by decide +kernel)
theorem wt_543 : (.methodLink "DesignTextsLaw" 66 ⟨"DesignTexts", "reset", "()V"⟩ : Cond) ∈ am_WT := am_inWT (i := 413) (by decide +kernel) (by decide +kernel)
theorem wt_544 : (.instanceMethod ⟨"DesignTexts", "reset", "()V"⟩ : Cond) ∈ am_WT := am_inWT (i := 414) (by decide +kernel) (by decide +kernel)
theorem wt_545 : (.selects "DesignTexts" ⟨"DesignTexts", "reset", "()V"⟩ ⟨"DesignTexts", "reset", "()V"⟩ : Cond) ∈ am_WT := am_inWT (i := 415) (by decide +kernel) (by decide +kernel)
theorem wt_546 : (.methodLink "DesignTextsLaw" 69 ⟨"DesignTextsModel", "reset", "()V"⟩ : Cond) ∈ am_WT := am_inWT (i := 903) (by decide +kernel) (by decide +kernel)
theorem wt_547 : (.methodLink "DesignTextsLaw" 70 ⟨"DesignTexts", "cycle", "(I)I"⟩ : Cond) ∈ am_WT := am_inWT (i := 417) (by decide +kernel) (by decide +kernel)
theorem wt_548 : (.instanceMethod ⟨"DesignTexts", "cycle", "(I)I"⟩ : Cond) ∈ am_WT := am_inWT (i := 418) (by decide +kernel) (by decide +kernel)
theorem wt_549 : (.selects "DesignTexts" ⟨"DesignTexts", "cycle", "(I)I"⟩ ⟨"DesignTexts", "cycle", "(I)I"⟩ : Cond) ∈ am_WT := am_inWT (i := 419) (by decide +kernel) (by decide +kernel)
theorem wt_550 : (.methodLink "DesignTextsLaw" 73 ⟨"DesignTextsModel", "cycle", "(I)I"⟩ : Cond) ∈ am_WT := am_inWT (i := 904) (by decide +kernel) (by decide +kernel)
theorem wt_551 : (.instanceMethod ⟨"DesignTextsModel", "cycle", "(I)I"⟩ : Cond) ∈ am_WT := am_inWT (i := 905) (by decide +kernel) (by decide +kernel)
theorem wt_552 : (.selects "DesignTextsModel" ⟨"DesignTextsModel", "cycle", "(I)I"⟩ ⟨"DesignTextsModel", "cycle", "(I)I"⟩ : Cond) ∈ am_WT := am_inWT (i := 906) (by decide +kernel) (by decide +kernel)
theorem wt_553 : (.methodLink "DesignTextsLaw" 74 ⟨"DesignTexts", "latches", "()I"⟩ : Cond) ∈ am_WT := am_inWT (i := 433) (by decide +kernel) (by decide +kernel)
theorem wt_554 : (.instanceMethod ⟨"DesignTexts", "latches", "()I"⟩ : Cond) ∈ am_WT := am_inWT (i := 434) (by decide +kernel) (by decide +kernel)
theorem wt_555 : (.selects "DesignTexts" ⟨"DesignTexts", "latches", "()I"⟩ ⟨"DesignTexts", "latches", "()I"⟩ : Cond) ∈ am_WT := am_inWT (i := 435) (by decide +kernel) (by decide +kernel)
theorem wt_556 : (.methodLink "DesignTextsLaw" 77 ⟨"DesignTextsModel", "latches", "()I"⟩ : Cond) ∈ am_WT := am_inWT (i := 912) (by decide +kernel) (by decide +kernel)
theorem wt_557 : (.instanceMethod ⟨"DesignTextsModel", "latches", "()I"⟩ : Cond) ∈ am_WT := am_inWT (i := 913) (by decide +kernel) (by decide +kernel)
theorem wt_558 : (.selects "DesignTextsModel" ⟨"DesignTextsModel", "latches", "()I"⟩ ⟨"DesignTextsModel", "latches", "()I"⟩ : Cond) ∈ am_WT := am_inWT (i := 914) (by decide +kernel) (by decide +kernel)
theorem d_law_0 : decode code 0 = .ok (.new 8, 3) := by decide +kernel
theorem d_law_3 : decode code 3 = .ok (.dup, 1) := by decide +kernel
theorem d_law_4 : decode code 4 = .ok (.invokespecial 33, 3) := by decide +kernel
theorem d_law_7 : decode code 7 = .ok (.astore_n 1, 1) := by decide +kernel
theorem d_law_8 : decode code 8 = .ok (.new 34, 3) := by decide +kernel
theorem d_law_11 : decode code 11 = .ok (.dup, 1) := by decide +kernel
theorem d_law_12 : decode code 12 = .ok (.invokespecial 36, 3) := by decide +kernel
theorem d_law_15 : decode code 15 = .ok (.astore_n 2, 1) := by decide +kernel
theorem d_law_16 : decode code 16 = .ok (.iconst 1, 1) := by decide +kernel
theorem d_law_17 : decode code 17 = .ok (.newarray .long, 2) := by decide +kernel
theorem d_law_19 : decode code 19 = .ok (.astore_n 3, 1) := by decide +kernel
theorem d_law_20 : decode code 20 = .ok (.iconst 0, 1) := by decide +kernel
theorem d_law_21 : decode code 21 = .ok (.istore 4, 2) := by decide +kernel
theorem d_law_23 : decode code 23 = .ok (.iload 4, 2) := by decide +kernel
theorem d_law_25 : decode code 25 = .ok (.aload_n 0, 1) := by decide +kernel
theorem d_law_26 : decode code 26 = .ok (.arraylength, 1) := by decide +kernel
theorem d_law_27 : decode code 27 = .ok (.iconst 3, 1) := by decide +kernel
theorem d_law_28 : decode code 28 = .ok (.isub, 1) := by decide +kernel
theorem d_law_29 : decode code 29 = .ok (.if_icmp .gt 303, 3) := by decide +kernel
theorem d_law_32 : decode code 32 = .ok (.aload_n 0, 1) := by decide +kernel
theorem d_law_33 : decode code 33 = .ok (.iload 4, 2) := by decide +kernel
theorem d_law_35 : decode code 35 = .ok (.iaload, 1) := by decide +kernel
theorem d_law_36 : decode code 36 = .ok (.bipush 15, 2) := by decide +kernel
theorem d_law_38 : decode code 38 = .ok (.iand, 1) := by decide +kernel
theorem d_law_39 : decode code 39 = .ok (.tableswitch 287 0 9 #[53, 93, 106, 131, 171, 182, 210, 238, 249, 274], 53) := by decide +kernel
theorem d_law_92 : decode code 92 = .ok (.aload_n 1, 1) := by decide +kernel
theorem d_law_93 : decode code 93 = .ok (.aload_n 0, 1) := by decide +kernel
theorem d_law_94 : decode code 94 = .ok (.iload 4, 2) := by decide +kernel
theorem d_law_96 : decode code 96 = .ok (.iconst 1, 1) := by decide +kernel
theorem d_law_97 : decode code 97 = .ok (.iadd, 1) := by decide +kernel
theorem d_law_98 : decode code 98 = .ok (.iaload, 1) := by decide +kernel
theorem d_law_99 : decode code 99 = .ok (.aload_n 0, 1) := by decide +kernel
theorem d_law_100 : decode code 100 = .ok (.iload 4, 2) := by decide +kernel
theorem d_law_102 : decode code 102 = .ok (.iconst 2, 1) := by decide +kernel
theorem d_law_103 : decode code 103 = .ok (.iadd, 1) := by decide +kernel
theorem d_law_104 : decode code 104 = .ok (.iaload, 1) := by decide +kernel
theorem d_law_105 : decode code 105 = .ok (.aload_n 3, 1) := by decide +kernel
theorem d_law_106 : decode code 106 = .ok (.invokestatic 37, 3) := by decide +kernel
theorem d_law_109 : decode code 109 = .ok (.istore 5, 2) := by decide +kernel
theorem d_law_111 : decode code 111 = .ok (.aload_n 2, 1) := by decide +kernel
theorem d_law_112 : decode code 112 = .ok (.aload_n 0, 1) := by decide +kernel
theorem d_law_113 : decode code 113 = .ok (.iload 4, 2) := by decide +kernel
theorem d_law_115 : decode code 115 = .ok (.iconst 1, 1) := by decide +kernel
theorem d_law_116 : decode code 116 = .ok (.iadd, 1) := by decide +kernel
theorem d_law_117 : decode code 117 = .ok (.iaload, 1) := by decide +kernel
theorem d_law_118 : decode code 118 = .ok (.aload_n 0, 1) := by decide +kernel
theorem d_law_119 : decode code 119 = .ok (.iload 4, 2) := by decide +kernel
theorem d_law_121 : decode code 121 = .ok (.iconst 2, 1) := by decide +kernel
theorem d_law_122 : decode code 122 = .ok (.iadd, 1) := by decide +kernel
theorem d_law_123 : decode code 123 = .ok (.iaload, 1) := by decide +kernel
theorem d_law_124 : decode code 124 = .ok (.invokevirtual 42, 3) := by decide +kernel
theorem d_law_127 : decode code 127 = .ok (.istore 6, 2) := by decide +kernel
theorem d_law_129 : decode code 129 = .ok (.goto 197, 3) := by decide +kernel
theorem d_law_132 : decode code 132 = .ok (.aload_n 1, 1) := by decide +kernel
theorem d_law_133 : decode code 133 = .ok (.invokevirtual 43, 3) := by decide +kernel
theorem d_law_136 : decode code 136 = .ok (.aload_n 2, 1) := by decide +kernel
theorem d_law_137 : decode code 137 = .ok (.invokevirtual 47, 3) := by decide +kernel
theorem d_law_140 : decode code 140 = .ok (.if_icmp .eq 186, 3) := by decide +kernel
theorem d_law_143 : decode code 143 = .ok (.iconst 0, 1) := by decide +kernel
theorem d_law_144 : decode code 144 = .ok (.ireturn, 1) := by decide +kernel
theorem d_law_145 : decode code 145 = .ok (.aload_n 1, 1) := by decide +kernel
theorem d_law_146 : decode code 146 = .ok (.aload_n 0, 1) := by decide +kernel
theorem d_law_147 : decode code 147 = .ok (.iload 4, 2) := by decide +kernel
theorem d_law_149 : decode code 149 = .ok (.iconst 1, 1) := by decide +kernel
theorem d_law_150 : decode code 150 = .ok (.iadd, 1) := by decide +kernel
theorem d_law_151 : decode code 151 = .ok (.iaload, 1) := by decide +kernel
theorem d_law_152 : decode code 152 = .ok (.invokevirtual 48, 3) := by decide +kernel
theorem d_law_155 : decode code 155 = .ok (.pop, 1) := by decide +kernel
theorem d_law_156 : decode code 156 = .ok (.aload_n 2, 1) := by decide +kernel
theorem d_law_157 : decode code 157 = .ok (.aload_n 0, 1) := by decide +kernel
theorem d_law_158 : decode code 158 = .ok (.iload 4, 2) := by decide +kernel
theorem d_law_160 : decode code 160 = .ok (.iconst 1, 1) := by decide +kernel
theorem d_law_161 : decode code 161 = .ok (.iadd, 1) := by decide +kernel
theorem d_law_162 : decode code 162 = .ok (.iaload, 1) := by decide +kernel
theorem d_law_163 : decode code 163 = .ok (.invokevirtual 51, 3) := by decide +kernel
theorem d_law_166 : decode code 166 = .ok (.pop, 1) := by decide +kernel
theorem d_law_167 : decode code 167 = .ok (.goto 159, 3) := by decide +kernel
theorem d_law_170 : decode code 170 = .ok (.aload_n 1, 1) := by decide +kernel
theorem d_law_171 : decode code 171 = .ok (.aload_n 0, 1) := by decide +kernel
theorem d_law_172 : decode code 172 = .ok (.iload 4, 2) := by decide +kernel
theorem d_law_174 : decode code 174 = .ok (.iconst 1, 1) := by decide +kernel
theorem d_law_175 : decode code 175 = .ok (.iadd, 1) := by decide +kernel
theorem d_law_176 : decode code 176 = .ok (.iaload, 1) := by decide +kernel
theorem d_law_177 : decode code 177 = .ok (.aload_n 0, 1) := by decide +kernel
theorem d_law_178 : decode code 178 = .ok (.iload 4, 2) := by decide +kernel
theorem d_law_180 : decode code 180 = .ok (.iconst 2, 1) := by decide +kernel
theorem d_law_181 : decode code 181 = .ok (.iadd, 1) := by decide +kernel
theorem d_law_182 : decode code 182 = .ok (.iaload, 1) := by decide +kernel
theorem d_law_183 : decode code 183 = .ok (.aload_n 3, 1) := by decide +kernel
theorem d_law_184 : decode code 184 = .ok (.invokestatic 52, 3) := by decide +kernel
theorem d_law_187 : decode code 187 = .ok (.istore 5, 2) := by decide +kernel
theorem d_law_189 : decode code 189 = .ok (.aload_n 2, 1) := by decide +kernel
theorem d_law_190 : decode code 190 = .ok (.aload_n 0, 1) := by decide +kernel
theorem d_law_191 : decode code 191 = .ok (.iload 4, 2) := by decide +kernel
theorem d_law_193 : decode code 193 = .ok (.iconst 1, 1) := by decide +kernel
theorem d_law_194 : decode code 194 = .ok (.iadd, 1) := by decide +kernel
theorem d_law_195 : decode code 195 = .ok (.iaload, 1) := by decide +kernel
theorem d_law_196 : decode code 196 = .ok (.aload_n 0, 1) := by decide +kernel
theorem d_law_197 : decode code 197 = .ok (.iload 4, 2) := by decide +kernel
theorem d_law_199 : decode code 199 = .ok (.iconst 2, 1) := by decide +kernel
theorem d_law_200 : decode code 200 = .ok (.iadd, 1) := by decide +kernel
theorem d_law_201 : decode code 201 = .ok (.iaload, 1) := by decide +kernel
theorem d_law_202 : decode code 202 = .ok (.invokevirtual 54, 3) := by decide +kernel
theorem d_law_205 : decode code 205 = .ok (.istore 6, 2) := by decide +kernel
theorem d_law_207 : decode code 207 = .ok (.goto 119, 3) := by decide +kernel
theorem d_law_210 : decode code 210 = .ok (.aload_n 1, 1) := by decide +kernel
theorem d_law_211 : decode code 211 = .ok (.invokevirtual 55, 3) := by decide +kernel
theorem d_law_214 : decode code 214 = .ok (.aload_n 2, 1) := by decide +kernel
theorem d_law_215 : decode code 215 = .ok (.invokevirtual 58, 3) := by decide +kernel
theorem d_law_218 : decode code 218 = .ok (.goto 108, 3) := by decide +kernel
theorem d_law_221 : decode code 221 = .ok (.aload_n 1, 1) := by decide +kernel
theorem d_law_222 : decode code 222 = .ok (.aload_n 0, 1) := by decide +kernel
theorem d_law_223 : decode code 223 = .ok (.iload 4, 2) := by decide +kernel
theorem d_law_225 : decode code 225 = .ok (.iconst 1, 1) := by decide +kernel
theorem d_law_226 : decode code 226 = .ok (.iadd, 1) := by decide +kernel
theorem d_law_227 : decode code 227 = .ok (.iaload, 1) := by decide +kernel
theorem d_law_228 : decode code 228 = .ok (.aload_n 3, 1) := by decide +kernel
theorem d_law_229 : decode code 229 = .ok (.invokestatic 59, 3) := by decide +kernel
theorem d_law_232 : decode code 232 = .ok (.istore 5, 2) := by decide +kernel
theorem d_law_234 : decode code 234 = .ok (.aload_n 2, 1) := by decide +kernel
theorem d_law_235 : decode code 235 = .ok (.aload_n 0, 1) := by decide +kernel
theorem d_law_236 : decode code 236 = .ok (.iload 4, 2) := by decide +kernel
theorem d_law_238 : decode code 238 = .ok (.iconst 1, 1) := by decide +kernel
theorem d_law_239 : decode code 239 = .ok (.iadd, 1) := by decide +kernel
theorem d_law_240 : decode code 240 = .ok (.iaload, 1) := by decide +kernel
theorem d_law_241 : decode code 241 = .ok (.invokevirtual 62, 3) := by decide +kernel
theorem d_law_244 : decode code 244 = .ok (.istore 6, 2) := by decide +kernel
theorem d_law_246 : decode code 246 = .ok (.goto 80, 3) := by decide +kernel
theorem d_law_249 : decode code 249 = .ok (.aload_n 1, 1) := by decide +kernel
theorem d_law_250 : decode code 250 = .ok (.aload_n 0, 1) := by decide +kernel
theorem d_law_251 : decode code 251 = .ok (.iload 4, 2) := by decide +kernel
theorem d_law_253 : decode code 253 = .ok (.iconst 1, 1) := by decide +kernel
theorem d_law_254 : decode code 254 = .ok (.iadd, 1) := by decide +kernel
theorem d_law_255 : decode code 255 = .ok (.iaload, 1) := by decide +kernel
theorem d_law_256 : decode code 256 = .ok (.aload_n 3, 1) := by decide +kernel
theorem d_law_257 : decode code 257 = .ok (.invokestatic 63, 3) := by decide +kernel
theorem d_law_260 : decode code 260 = .ok (.istore 5, 2) := by decide +kernel
theorem d_law_262 : decode code 262 = .ok (.aload_n 2, 1) := by decide +kernel
theorem d_law_263 : decode code 263 = .ok (.aload_n 0, 1) := by decide +kernel
theorem d_law_264 : decode code 264 = .ok (.iload 4, 2) := by decide +kernel
theorem d_law_266 : decode code 266 = .ok (.iconst 1, 1) := by decide +kernel
theorem d_law_267 : decode code 267 = .ok (.iadd, 1) := by decide +kernel
theorem d_law_268 : decode code 268 = .ok (.iaload, 1) := by decide +kernel
theorem d_law_269 : decode code 269 = .ok (.invokevirtual 65, 3) := by decide +kernel
theorem d_law_272 : decode code 272 = .ok (.istore 6, 2) := by decide +kernel
theorem d_law_274 : decode code 274 = .ok (.goto 52, 3) := by decide +kernel
theorem d_law_277 : decode code 277 = .ok (.aload_n 1, 1) := by decide +kernel
theorem d_law_278 : decode code 278 = .ok (.invokevirtual 66, 3) := by decide +kernel
theorem d_law_281 : decode code 281 = .ok (.aload_n 2, 1) := by decide +kernel
theorem d_law_282 : decode code 282 = .ok (.invokevirtual 69, 3) := by decide +kernel
theorem d_law_285 : decode code 285 = .ok (.goto 41, 3) := by decide +kernel
theorem d_law_288 : decode code 288 = .ok (.aload_n 1, 1) := by decide +kernel
theorem d_law_289 : decode code 289 = .ok (.aload_n 0, 1) := by decide +kernel
theorem d_law_290 : decode code 290 = .ok (.iload 4, 2) := by decide +kernel
theorem d_law_292 : decode code 292 = .ok (.iconst 1, 1) := by decide +kernel
theorem d_law_293 : decode code 293 = .ok (.iadd, 1) := by decide +kernel
theorem d_law_294 : decode code 294 = .ok (.iaload, 1) := by decide +kernel
theorem d_law_295 : decode code 295 = .ok (.invokevirtual 70, 3) := by decide +kernel
theorem d_law_298 : decode code 298 = .ok (.pop, 1) := by decide +kernel
theorem d_law_299 : decode code 299 = .ok (.aload_n 2, 1) := by decide +kernel
theorem d_law_300 : decode code 300 = .ok (.aload_n 0, 1) := by decide +kernel
theorem d_law_301 : decode code 301 = .ok (.iload 4, 2) := by decide +kernel
theorem d_law_303 : decode code 303 = .ok (.iconst 1, 1) := by decide +kernel
theorem d_law_304 : decode code 304 = .ok (.iadd, 1) := by decide +kernel
theorem d_law_305 : decode code 305 = .ok (.iaload, 1) := by decide +kernel
theorem d_law_306 : decode code 306 = .ok (.invokevirtual 73, 3) := by decide +kernel
theorem d_law_309 : decode code 309 = .ok (.pop, 1) := by decide +kernel
theorem d_law_310 : decode code 310 = .ok (.goto 16, 3) := by decide +kernel
theorem d_law_313 : decode code 313 = .ok (.aload_n 1, 1) := by decide +kernel
theorem d_law_314 : decode code 314 = .ok (.invokevirtual 74, 3) := by decide +kernel
theorem d_law_317 : decode code 317 = .ok (.pop, 1) := by decide +kernel
theorem d_law_318 : decode code 318 = .ok (.aload_n 2, 1) := by decide +kernel
theorem d_law_319 : decode code 319 = .ok (.invokevirtual 77, 3) := by decide +kernel
theorem d_law_322 : decode code 322 = .ok (.pop, 1) := by decide +kernel
theorem d_law_323 : decode code 323 = .ok (.goto 3, 3) := by decide +kernel
theorem d_law_326 : decode code 326 = .ok (.iinc 4 3, 3) := by decide +kernel
theorem d_law_329 : decode code 329 = .ok (.goto (-306), 3) := by decide +kernel
theorem d_law_332 : decode code 332 = .ok (.iconst 1, 1) := by decide +kernel
theorem d_law_333 : decode code 333 = .ok (.ireturn, 1) := by decide +kernel
/-! WHAT THE LAW NEEDS OF THE TWO: a relation of the worlds that every pair of calls keeps -/
def lo_shape (Rl : am_H → am_H → Prop) : Prop := ∀ hC hR, Rl hC hR → (∃ fs, hC[0]? = some (.inr (0, fs))) ∧ ∃ fs, hR[0]? = some (.inr (5, fs))
def lo_int (Rl Rl' : am_H → am_H → Prop) (cmp : Bool) (idC idR : Nat) (av : List Value) : Prop := ∀ hC hR, Rl hC hR → ∃ (v w : Int32) (hC' hR' : am_H), am_run cPT cML 7 idC (.ref 0 :: av) hC = some (some (.int v), hC') ∧ am_run rPT rML 7 idR (.ref 0 :: av) hR = some (some (.int w), hR') ∧ (cmp = true → v = w) ∧ Rl' hC' hR'
def lo_void (Rl Rl' : am_H → am_H → Prop) (idC idR : Nat) (av : List Value) : Prop := ∀ hC hR, Rl hC hR → ∃ (hC' hR' : am_H), am_run cPT cML 7 idC (.ref 0 :: av) hC = some (none, hC') ∧ am_run rPT rML 7 idR (.ref 0 :: av) hR = some (none, hR') ∧ Rl' hC' hR'
def lo_x (Rl Rl' : am_H → am_H → Prop) (tb : am_C → am_T) (K : Option Value → Prop) (idR : Nat) (av : List Value) : Prop := ∀ hC hR, Rl hC hR → ∃ (r : am_R) (w : Int32) (hR' : am_H), am_Ev (tb (am_run cPT cML 6)) (0, lv_args 0 (.ref 0 :: av), [], hC) r ∧ K r.1 ∧ am_run rPT rML 7 idR (.ref 0 :: av) hR = some (some (.int w), hR') ∧ Rl' r.2 hR'
def lo_xc (Rl Rl' : am_H → am_H → Prop) (tb : am_C → am_T) (K : Option Value → Prop) (cd : Nat → Int32) (idR idT : Nat) (av : List Value) : Prop := ∀ hC hR, Rl hC hR → ∃ (r : am_R) (w th : Int32) (hR' : am_H), am_Ev (tb (am_run cPT cML 6)) (0, lv_args 0 (.ref 0 :: av), [], hC) r ∧ K r.1 ∧ am_run rPT rML 7 idR (.ref 0 :: av) hR = some (some (.int w), hR') ∧ am_run rPT rML 7 idT [.ref 0] hR' = some (some (.int th), hR') ∧ ((r.1 = some (.int w) ∧ th = 0) ∨ ∃ k, r.1 = some (.retAddr k) ∧ th = cd k ∧ ¬ cd k = 0) ∧ Rl' r.2 hR'
theorem lw_agree {f f' : Nat → Int64} {co w th : Int32} {cd : Nat → Int32} {r : Option Value} (h : (∃ v, r = some (.int v) ∧ co = 0 ∧ f' = vp_updL f 0 v.toInt64) ∨ (∃ k, r = some (.retAddr k) ∧ co = cd k ∧ f' = f)) (h2 : (r = some (.int w) ∧ th = 0) ∨ ∃ k, r = some (.retAddr k) ∧ th = cd k ∧ ¬ cd k = 0) : th = co ∧ (co = 0 → f' 0 = w.toInt64) := by
  rcases h with ⟨v, rfl, rfl, rfl⟩ | ⟨k, rfl, rfl, rfl⟩
  · rcases h2 with ⟨h3, rfl⟩ | ⟨k, h3, -⟩
    · cases h3
      exact ⟨rfl, fun _ => by simp [vp_updL]⟩
    · cases h3
  · rcases h2 with ⟨h3, -⟩ | ⟨k2, h3, rfl, h4⟩
    · cases h3
    · cases h3
      exact ⟨rfl, fun h => absurd h h4⟩
theorem lw_op (o : Int32) : (o = 0 ∨ o = 1 ∨ o = 2 ∨ o = 3 ∨ o = 4 ∨ o = 5 ∨ o = 6 ∨ o = 7 ∨ o = 8 ∨ o = 9) ∨ (o.toInt < 0 ∨ 9 < o.toInt) := by
  have e : ∀ k : Int32, o.toInt = k.toInt → o = k := fun k h => Int32.toInt_inj.mp h
  by_cases h : o.toInt < 0 ∨ 9 < o.toInt
  · exact Or.inr h
  · left
    have h9 : o.toInt = 0 ∨ o.toInt = 1 ∨ o.toInt = 2 ∨ o.toInt = 3 ∨ o.toInt = 4 ∨ o.toInt = 5 ∨ o.toInt = 6 ∨ o.toInt = 7 ∨ o.toInt = 8 ∨ o.toInt = 9 := by omega
    rcases h9 with h | h | h | h | h | h | h | h | h | h
    · exact Or.inl (e 0 (h.trans (by decide)))
    · exact Or.inr (Or.inl (e 1 (h.trans (by decide))))
    · exact Or.inr (Or.inr (Or.inl (e 2 (h.trans (by decide)))))
    · exact Or.inr (Or.inr (Or.inr (Or.inl (e 3 (h.trans (by decide))))))
    · exact Or.inr (Or.inr (Or.inr (Or.inr (Or.inl (e 4 (h.trans (by decide)))))))
    · exact Or.inr (Or.inr (Or.inr (Or.inr (Or.inr (Or.inl (e 5 (h.trans (by decide))))))))
    · exact Or.inr (Or.inr (Or.inr (Or.inr (Or.inr (Or.inr (Or.inl (e 6 (h.trans (by decide)))))))))
    · exact Or.inr (Or.inr (Or.inr (Or.inr (Or.inr (Or.inr (Or.inr (Or.inl (e 7 (h.trans (by decide))))))))))
    · exact Or.inr (Or.inr (Or.inr (Or.inr (Or.inr (Or.inr (Or.inr (Or.inr (Or.inl (e 8 (h.trans (by decide)))))))))))
    · exact Or.inr (Or.inr (Or.inr (Or.inr (Or.inr (Or.inr (Or.inr (Or.inr (Or.inr (e 9 (h.trans (by decide)))))))))))
theorem lw_cond {i L : Nat} (hL : L ≤ 1536) (hi : i ≤ L) (h : ¬ (Int32.ofNat L - 3 < nI i)) : i + 3 ≤ L := by
  rcases Nat.lt_or_ge L (i + 3) with h1 | h1
  · refine absurd ?_ h
    rw [Int32.lt_iff_toInt_lt, Int32.toInt_sub, show (Int32.ofNat L).toInt = (L : Int) from nI_toInt (by omega), show (3 : Int32).toInt = 3 by decide, nI_toInt (by omega)]
    unfold Int.bmod
    dsimp only
    split <;> omega
  · exact h1
theorem lw_in1 {i L : Nat} (hL : L ≤ 1536) (hi : i + 3 ≤ L) : vp_in (nI i + 1) L := by
  rw [nI_1]
  exact vp_in_nI (by omega) (by omega)
theorem lw_in2 {i L : Nat} (hL : L ≤ 1536) (hi : i + 3 ≤ L) : vp_in (nI i + 2) L := by
  rw [show nI i + 2 = nI (i + 2) from nI_add i 2]
  exact vp_in_nI (by omega) (by omega)
theorem lw_cmp {x y : Int64} (h : x = y) : lg_cmp x y = 0 := by
  subst h
  simp [lg_cmp]
section LWO
variable {p : Program} {l : Launch} {e : Env} {s : State} {m : MethodId} {below : List Frame} {meth : Method} {c : Code} {H : Heap} {locs : List Loc} {cells slots : Nat} {Q : State → Prop}
variable {D : va_G} {kc : Nat → ClassId} {pc : Nat} {ls : Array Slot} {rest : List Value} {b L : Nat} {xs : Nat → Int32} {ρC ρR : Nat → Nat} {oa : Nat} {hC hR : am_H} {f : Nat → Int64}
theorem lw_lald0 (X : lw_X p l s m meth c D kc b L xs) (I : lw_I s D kc ρC ρR oa hC hR f H locs) (hd : decode code pc = .ok (.laload, 1)) (kk : W p l e room_1 s m #[Value.ref b] below meth c H locs cells slots Q (F0 m (pc + 1) ls (.long (f 0) :: rest))) :
    W p l e room_1 s m #[Value.ref b] below meth c H locs cells slots Q (F0 m pc ls (.int 0 :: .ref oa :: rest)) := by
  obtain ⟨⟨hx, hb, hr, hml, hown, hts, hX, hbl, hlocks, hgv⟩, hK, hOk, hN, hZ, hst⟩ := X
  have hP : va_P D aCl [(oa, .inl (kc 3, 1, .inr (.inl f)))] H := fun k q hq => by
    match k, hq with
    | 0, hq => cases hq; exact I.2.2.2.2.1
    | k + 1, hq => simp at hq
  exact va_lald hx hb hK hP 0 3 rfl rfl (by unfold vp_in; decide) hd kk
end LWO

def lw_St (Rl : Nat → am_H → am_H → Prop) (L : Nat) : Prop := (∀ i, lo_shape (Rl i)) ∧ (∀ i hC hR, Rl i hC hR → Rl (i + 3) hC hR) ∧ ∀ i, i + 3 ≤ L → (∀ p0 p1 : Int32, lo_x (Rl i) (Rl (i + 3)) tb_T_put (fun o => (∃ v, o = some (.int v)) ∨ o = some (.retAddr 0) ∨ o = some (.retAddr 1)) 0 [.int p0, .int p1]) ∧ (lo_int (Rl i) (Rl (i + 3)) true 61 16 []) ∧ (∀ p0 : Int32, lo_int (Rl i) (Rl (i + 3)) false 62 19 [.int p0]) ∧ (∀ p0 p1 : Int32, lo_x (Rl i) (Rl (i + 3)) tb_T_has (fun o => (∃ v, o = some (.int v)) ∨ o = some (.retAddr 0) ∨ o = some (.retAddr 2)) 20 [.int p0, .int p1]) ∧ (lo_void (Rl i) (Rl (i + 3)) 63 23 []) ∧ (∀ p0 : Int32, lo_x (Rl i) (Rl (i + 3)) tb_T_write (fun o => (∃ v, o = some (.int v)) ∨ o = some (.retAddr 0) ∨ o = some (.retAddr 3)) 28 [.int p0]) ∧ (∀ p0 : Int32, lo_x (Rl i) (Rl (i + 3)) tb_T_written (fun o => (∃ v, o = some (.int v)) ∨ o = some (.retAddr 4)) 29 [.int p0]) ∧ (lo_void (Rl i) (Rl (i + 3)) 64 30 []) ∧ (∀ p0 : Int32, lo_int (Rl i) (Rl (i + 3)) false 65 32 [.int p0]) ∧ (lo_int (Rl i) (Rl (i + 3)) false 66 33 [])
set_option maxHeartbeats 4000000 in
set_option maxRecDepth 100000 in
theorem lw_c_put {p : Program} {l : Launch} {e : Env} {s : State} {m : MethodId} {below : List Frame} {meth : Method} {c : Code} {D : va_G} {kc : Nat → ClassId} {b L : Nat} {xs : Nat → Int32} {ρC ρR : Nat → Nat} {oa : Nat} {Rl : Nat → am_H → am_H → Prop} {i : Nat} {cells slots : Nat} (St : lw_St Rl L) (X : lw_X p l s m meth c D kc b L xs) (Fx : lw_Fx s ρC ρR oa) (hL : L ≤ 1536) (hi : i + 3 ≤ L) (hcs : cells + 1 ≤ 601024 ∧ slots + 6 ≤ 7293034) {hC hR : am_H} {f : Nat → Int64} {H : Heap} {locs : List Loc} {ls : Array Slot} (hRl : Rl i hC hR) (I : lw_I s D kc ρC ρR oa hC hR f H locs) (hl : lv_has ls 7 [(0, .ref b), (1, .ref (ρC 0)), (2, .ref (ρR 0)), (3, .ref oa), (4, .int (nI i))])
    (kk : ∀ (hC' hR' : am_H) (f' : Nat → Int64) (H1 : Heap) (locs1 : List Loc) (ls1 : Array Slot), Rl (i + 3) hC' hR' → lw_I s D kc ρC ρR oa hC' hR' f' H1 locs1 → lv_has ls1 7 [(0, .ref b), (1, .ref (ρC 0)), (2, .ref (ρR 0)), (3, .ref oa), (4, .int (nI i))] → W p l e room_1 s m #[Value.ref b] below meth c H1 locs1 (cells + 1) (slots + 6) (lw_Z below #[Value.ref b] s) (F0 m 326 ls1 [])) :
    W p l e room_1 s m #[Value.ref b] below meth c H locs cells slots (lw_Z below #[Value.ref b] s) (F0 m 92 ls []) := by
  obtain ⟨⟨fsC, h0C⟩, fsR, h0R⟩ := St.1 i hC hR hRl
  obtain ⟨⟨hx, hb, hr, hml, hown, hts, hX, hbl, hlocks, hgv⟩, hK, hOk, hN, hZ, hst⟩ := id X
  have hbA : ¬ lw_A s b := Nat.not_le.mpr hbl
  refine lv_aload_n hx hb d_law_92 rfl (lv_at hl 1 rfl) ?_
  refine lv_aload_n hx hb d_law_93 rfl (lv_at hl 0 rfl) ?_
  refine lv_iload hx hb d_law_94 (lv_at hl 4 rfl) ?_
  refine lv_iconst (v := 1) hx hb d_law_96 (by decide) ?_
  refine lv_iadd hx hb d_law_97 ?_
  refine va_sld hx hb hX hbl hbA I.2.2.2.2.2 (lw_in1 hL hi) d_law_98 ?_
  refine lv_aload_n hx hb d_law_99 rfl (lv_at hl 0 rfl) ?_
  refine lv_iload hx hb d_law_100 (lv_at hl 4 rfl) ?_
  refine lv_iconst (v := 2) hx hb d_law_102 (by decide) ?_
  refine lv_iadd hx hb d_law_103 ?_
  refine va_sld hx hb hX hbl hbA I.2.2.2.2.2 (lw_in2 hL hi) d_law_104 ?_
  refine lv_aload_n hx hb d_law_105 rfl (lv_at hl 3 rfl) ?_
  obtain ⟨r, w, hR1, hEv, hk, hrR, hRl1⟩ := (St.2.2 i hi).1 (xs ((nI i) + 1).toNatClampNeg) (xs ((nI i) + 2).toNatClampNeg) hC hR hRl
  refine lw_callX (n := 4) (ia := [.int (xs ((nI i) + 1).toNatClampNeg), .int (xs ((nI i) + 2).toNatClampNeg)]) (rest := []) X Fx I (lx_put I.1 h0C Fx.2.2.2.1 (fun sz => cx_T_put hst Fx.1 (Nat.le_of_ble_eq_true rfl) hEv I.1 sz) hk) wt_504 wt_505 wt_506 wl_put (by decide +kernel) (by decide) rfl (Nat.le_of_ble_eq_true rfl) hl.1 d_law_106 hcs (fun co f1 H locs hcase I => ?_)
  refine W.eq (g2 := F0 m 109 ls [.int co]) rfl ?_
  refine lv_istore (lv' := [(5, .int co), (0, .ref b), (1, .ref (ρC 0)), (2, .ref (ρR 0)), (3, .ref oa), (4, .int (nI i))]) hx hb d_law_109 hl (by decide) rfl (fun ls hl => ?_)
  refine lv_aload_n hx hb d_law_111 rfl (lv_at hl 3 rfl) ?_
  refine lv_aload_n hx hb d_law_112 rfl (lv_at hl 1 rfl) ?_
  refine lv_iload hx hb d_law_113 (lv_at hl 5 rfl) ?_
  refine lv_iconst (v := 1) hx hb d_law_115 (by decide) ?_
  refine lv_iadd hx hb d_law_116 ?_
  refine va_sld hx hb hX hbl hbA I.2.2.2.2.2 (lw_in1 hL hi) d_law_117 ?_
  refine lv_aload_n hx hb d_law_118 rfl (lv_at hl 1 rfl) ?_
  refine lv_iload hx hb d_law_119 (lv_at hl 5 rfl) ?_
  refine lv_iconst (v := 2) hx hb d_law_121 (by decide) ?_
  refine lv_iadd hx hb d_law_122 ?_
  refine va_sld hx hb hX hbl hbA I.2.2.2.2.2 (lw_in2 hL hi) d_law_123 ?_
  refine lw_callR (n := 2) (av := [.int (xs ((nI i) + 1).toNatClampNeg), .int (xs ((nI i) + 2).toNatClampNeg)]) (rest := []) X Fx I (id := 0) rfl hrR h0R wt_507 wt_508 wt_509 wt_350 wt_308 (by decide +kernel) (by decide) rfl rfl (Nat.le_of_ble_eq_true rfl) hl.1 d_law_124 hcs (fun H locs I => ?_)
  refine W.eq (g2 := F0 m 127 ls [.int w]) rfl ?_
  refine lv_istore (lv' := [(6, .int w), (5, .int co), (0, .ref b), (1, .ref (ρC 0)), (2, .ref (ρR 0)), (3, .ref oa), (4, .int (nI i))]) hx hb d_law_127 hl (by decide) rfl (fun ls hl => ?_)
  refine lv_goto (tgt := 326) hx hb d_law_129 (by decide) ?_
  exact kk _ _ _ _ _ _ hRl1 I (lv_sub hl [2, 3, 4, 5, 6] rfl)
set_option maxHeartbeats 4000000 in
set_option maxRecDepth 100000 in
theorem lw_c_read {p : Program} {l : Launch} {e : Env} {s : State} {m : MethodId} {below : List Frame} {meth : Method} {c : Code} {D : va_G} {kc : Nat → ClassId} {b L : Nat} {xs : Nat → Int32} {ρC ρR : Nat → Nat} {oa : Nat} {Rl : Nat → am_H → am_H → Prop} {i : Nat} {cells slots : Nat} (St : lw_St Rl L) (X : lw_X p l s m meth c D kc b L xs) (Fx : lw_Fx s ρC ρR oa) (hL : L ≤ 1536) (hi : i + 3 ≤ L) (hcs : cells + 1 ≤ 601024 ∧ slots + 6 ≤ 7293034) {hC hR : am_H} {f : Nat → Int64} {H : Heap} {locs : List Loc} {ls : Array Slot} (hRl : Rl i hC hR) (I : lw_I s D kc ρC ρR oa hC hR f H locs) (hl : lv_has ls 7 [(0, .ref b), (1, .ref (ρC 0)), (2, .ref (ρR 0)), (3, .ref oa), (4, .int (nI i))])
    (kk : ∀ (hC' hR' : am_H) (f' : Nat → Int64) (H1 : Heap) (locs1 : List Loc) (ls1 : Array Slot), Rl (i + 3) hC' hR' → lw_I s D kc ρC ρR oa hC' hR' f' H1 locs1 → lv_has ls1 7 [(0, .ref b), (1, .ref (ρC 0)), (2, .ref (ρR 0)), (3, .ref oa), (4, .int (nI i))] → W p l e room_1 s m #[Value.ref b] below meth c H1 locs1 (cells + 1) (slots + 6) (lw_Z below #[Value.ref b] s) (F0 m 326 ls1 [])) :
    W p l e room_1 s m #[Value.ref b] below meth c H locs cells slots (lw_Z below #[Value.ref b] s) (F0 m 132 ls []) := by
  obtain ⟨⟨fsC, h0C⟩, fsR, h0R⟩ := St.1 i hC hR hRl
  obtain ⟨⟨hx, hb, hr, hml, hown, hts, hX, hbl, hlocks, hgv⟩, hK, hOk, hN, hZ, hst⟩ := id X
  have hbA : ¬ lw_A s b := Nat.not_le.mpr hbl
  refine lv_aload_n hx hb d_law_132 rfl (lv_at hl 1 rfl) ?_
  obtain ⟨v, w, hC1, hR1, hrC, hrR, hvw, hRl1⟩ := (St.2.2 i hi).2.1  hC hR hRl
  refine lw_callC (n := 0) (av := []) (rest := []) X Fx I (id := 61) rfl hrC h0C wt_510 wt_511 wt_512 wt_275 wt_61 (by decide +kernel) (by decide) rfl rfl (Nat.le_of_ble_eq_true rfl) hl.1 d_law_133 ⟨Nat.le_of_succ_le hcs.1, Nat.le_trans (Nat.le_add_right _ 6) hcs.2⟩ (fun H locs I => ?_)
  refine W.eq (g2 := F0 m 136 ls [.int v]) rfl ?_
  refine lv_aload_n hx hb d_law_136 rfl (lv_at hl 2 rfl) ?_
  refine lw_callR (n := 0) (av := []) (rest := [.int v]) X Fx I (id := 16) rfl hrR h0R wt_513 wt_514 wt_515 wt_350 wt_324 (by decide +kernel) (by decide) rfl rfl (Nat.le_of_ble_eq_true rfl) hl.1 d_law_137 ⟨Nat.le_of_succ_le hcs.1, Nat.le_trans (Nat.le_add_right _ 6) hcs.2⟩ (fun H locs I => ?_)
  refine W.eq (g2 := F0 m 140 ls [.int w, .int v]) rfl ?_
  refine lv_icmp_eq (tgt := 326) hx hb d_law_140 (by decide) (fun c9 => ?_) (fun c9 => absurd (hvw rfl) c9)
  refine W.widen (k := cells + 1) (n := slots + 6) (by omega) (by omega) ?_
  exact kk _ _ _ _ _ _ hRl1 I (lv_sub hl [0, 1, 2, 3, 4] rfl)
set_option maxHeartbeats 4000000 in
set_option maxRecDepth 100000 in
theorem lw_c_about {p : Program} {l : Launch} {e : Env} {s : State} {m : MethodId} {below : List Frame} {meth : Method} {c : Code} {D : va_G} {kc : Nat → ClassId} {b L : Nat} {xs : Nat → Int32} {ρC ρR : Nat → Nat} {oa : Nat} {Rl : Nat → am_H → am_H → Prop} {i : Nat} {cells slots : Nat} (St : lw_St Rl L) (X : lw_X p l s m meth c D kc b L xs) (Fx : lw_Fx s ρC ρR oa) (hL : L ≤ 1536) (hi : i + 3 ≤ L) (hcs : cells + 1 ≤ 601024 ∧ slots + 6 ≤ 7293034) {hC hR : am_H} {f : Nat → Int64} {H : Heap} {locs : List Loc} {ls : Array Slot} (hRl : Rl i hC hR) (I : lw_I s D kc ρC ρR oa hC hR f H locs) (hl : lv_has ls 7 [(0, .ref b), (1, .ref (ρC 0)), (2, .ref (ρR 0)), (3, .ref oa), (4, .int (nI i))])
    (kk : ∀ (hC' hR' : am_H) (f' : Nat → Int64) (H1 : Heap) (locs1 : List Loc) (ls1 : Array Slot), Rl (i + 3) hC' hR' → lw_I s D kc ρC ρR oa hC' hR' f' H1 locs1 → lv_has ls1 7 [(0, .ref b), (1, .ref (ρC 0)), (2, .ref (ρR 0)), (3, .ref oa), (4, .int (nI i))] → W p l e room_1 s m #[Value.ref b] below meth c H1 locs1 (cells + 1) (slots + 6) (lw_Z below #[Value.ref b] s) (F0 m 326 ls1 [])) :
    W p l e room_1 s m #[Value.ref b] below meth c H locs cells slots (lw_Z below #[Value.ref b] s) (F0 m 145 ls []) := by
  obtain ⟨⟨fsC, h0C⟩, fsR, h0R⟩ := St.1 i hC hR hRl
  obtain ⟨⟨hx, hb, hr, hml, hown, hts, hX, hbl, hlocks, hgv⟩, hK, hOk, hN, hZ, hst⟩ := id X
  have hbA : ¬ lw_A s b := Nat.not_le.mpr hbl
  refine lv_aload_n hx hb d_law_145 rfl (lv_at hl 1 rfl) ?_
  refine lv_aload_n hx hb d_law_146 rfl (lv_at hl 0 rfl) ?_
  refine lv_iload hx hb d_law_147 (lv_at hl 4 rfl) ?_
  refine lv_iconst (v := 1) hx hb d_law_149 (by decide) ?_
  refine lv_iadd hx hb d_law_150 ?_
  refine va_sld hx hb hX hbl hbA I.2.2.2.2.2 (lw_in1 hL hi) d_law_151 ?_
  obtain ⟨v, w, hC1, hR1, hrC, hrR, hvw, hRl1⟩ := (St.2.2 i hi).2.2.1 (xs ((nI i) + 1).toNatClampNeg) hC hR hRl
  refine lw_callC (n := 1) (av := [.int (xs ((nI i) + 1).toNatClampNeg)]) (rest := []) X Fx I (id := 62) rfl hrC h0C wt_516 wt_517 wt_518 wt_275 wt_62 (by decide +kernel) (by decide) rfl rfl (Nat.le_of_ble_eq_true rfl) hl.1 d_law_152 ⟨Nat.le_of_succ_le hcs.1, Nat.le_trans (Nat.le_add_right _ 6) hcs.2⟩ (fun H locs I => ?_)
  refine W.eq (g2 := F0 m 155 ls [.int v]) rfl ?_
  refine lv_pop hx hb d_law_155 rfl ?_
  refine lv_aload_n hx hb d_law_156 rfl (lv_at hl 2 rfl) ?_
  refine lv_aload_n hx hb d_law_157 rfl (lv_at hl 0 rfl) ?_
  refine lv_iload hx hb d_law_158 (lv_at hl 4 rfl) ?_
  refine lv_iconst (v := 1) hx hb d_law_160 (by decide) ?_
  refine lv_iadd hx hb d_law_161 ?_
  refine va_sld hx hb hX hbl hbA I.2.2.2.2.2 (lw_in1 hL hi) d_law_162 ?_
  refine lw_callR (n := 1) (av := [.int (xs ((nI i) + 1).toNatClampNeg)]) (rest := []) X Fx I (id := 19) rfl hrR h0R wt_519 wt_520 wt_521 wt_350 wt_327 (by decide +kernel) (by decide) rfl rfl (Nat.le_of_ble_eq_true rfl) hl.1 d_law_163 ⟨Nat.le_of_succ_le hcs.1, Nat.le_trans (Nat.le_add_right _ 6) hcs.2⟩ (fun H locs I => ?_)
  refine W.eq (g2 := F0 m 166 ls [.int w]) rfl ?_
  refine lv_pop hx hb d_law_166 rfl ?_
  refine lv_goto (tgt := 326) hx hb d_law_167 (by decide) ?_
  refine W.widen (k := cells + 1) (n := slots + 6) (by omega) (by omega) ?_
  exact kk _ _ _ _ _ _ hRl1 I (lv_sub hl [0, 1, 2, 3, 4] rfl)
set_option maxHeartbeats 4000000 in
set_option maxRecDepth 100000 in
theorem lw_c_has {p : Program} {l : Launch} {e : Env} {s : State} {m : MethodId} {below : List Frame} {meth : Method} {c : Code} {D : va_G} {kc : Nat → ClassId} {b L : Nat} {xs : Nat → Int32} {ρC ρR : Nat → Nat} {oa : Nat} {Rl : Nat → am_H → am_H → Prop} {i : Nat} {cells slots : Nat} (St : lw_St Rl L) (X : lw_X p l s m meth c D kc b L xs) (Fx : lw_Fx s ρC ρR oa) (hL : L ≤ 1536) (hi : i + 3 ≤ L) (hcs : cells + 1 ≤ 601024 ∧ slots + 6 ≤ 7293034) {hC hR : am_H} {f : Nat → Int64} {H : Heap} {locs : List Loc} {ls : Array Slot} (hRl : Rl i hC hR) (I : lw_I s D kc ρC ρR oa hC hR f H locs) (hl : lv_has ls 7 [(0, .ref b), (1, .ref (ρC 0)), (2, .ref (ρR 0)), (3, .ref oa), (4, .int (nI i))])
    (kk : ∀ (hC' hR' : am_H) (f' : Nat → Int64) (H1 : Heap) (locs1 : List Loc) (ls1 : Array Slot), Rl (i + 3) hC' hR' → lw_I s D kc ρC ρR oa hC' hR' f' H1 locs1 → lv_has ls1 7 [(0, .ref b), (1, .ref (ρC 0)), (2, .ref (ρR 0)), (3, .ref oa), (4, .int (nI i))] → W p l e room_1 s m #[Value.ref b] below meth c H1 locs1 (cells + 1) (slots + 6) (lw_Z below #[Value.ref b] s) (F0 m 326 ls1 [])) :
    W p l e room_1 s m #[Value.ref b] below meth c H locs cells slots (lw_Z below #[Value.ref b] s) (F0 m 170 ls []) := by
  obtain ⟨⟨fsC, h0C⟩, fsR, h0R⟩ := St.1 i hC hR hRl
  obtain ⟨⟨hx, hb, hr, hml, hown, hts, hX, hbl, hlocks, hgv⟩, hK, hOk, hN, hZ, hst⟩ := id X
  have hbA : ¬ lw_A s b := Nat.not_le.mpr hbl
  refine lv_aload_n hx hb d_law_170 rfl (lv_at hl 1 rfl) ?_
  refine lv_aload_n hx hb d_law_171 rfl (lv_at hl 0 rfl) ?_
  refine lv_iload hx hb d_law_172 (lv_at hl 4 rfl) ?_
  refine lv_iconst (v := 1) hx hb d_law_174 (by decide) ?_
  refine lv_iadd hx hb d_law_175 ?_
  refine va_sld hx hb hX hbl hbA I.2.2.2.2.2 (lw_in1 hL hi) d_law_176 ?_
  refine lv_aload_n hx hb d_law_177 rfl (lv_at hl 0 rfl) ?_
  refine lv_iload hx hb d_law_178 (lv_at hl 4 rfl) ?_
  refine lv_iconst (v := 2) hx hb d_law_180 (by decide) ?_
  refine lv_iadd hx hb d_law_181 ?_
  refine va_sld hx hb hX hbl hbA I.2.2.2.2.2 (lw_in2 hL hi) d_law_182 ?_
  refine lv_aload_n hx hb d_law_183 rfl (lv_at hl 3 rfl) ?_
  obtain ⟨r, w, hR1, hEv, hk, hrR, hRl1⟩ := (St.2.2 i hi).2.2.2.1 (xs ((nI i) + 1).toNatClampNeg) (xs ((nI i) + 2).toNatClampNeg) hC hR hRl
  refine lw_callX (n := 4) (ia := [.int (xs ((nI i) + 1).toNatClampNeg), .int (xs ((nI i) + 2).toNatClampNeg)]) (rest := []) X Fx I (lx_has I.1 h0C Fx.2.2.2.1 (fun sz => cx_T_has hst Fx.1 (Nat.le_of_ble_eq_true rfl) hEv I.1 sz) hk) wt_522 wt_523 wt_506 wl_has (by decide +kernel) (by decide) rfl (Nat.le_of_ble_eq_true rfl) hl.1 d_law_184 hcs (fun co f1 H locs hcase I => ?_)
  refine W.eq (g2 := F0 m 187 ls [.int co]) rfl ?_
  refine lv_istore (lv' := [(5, .int co), (0, .ref b), (1, .ref (ρC 0)), (2, .ref (ρR 0)), (3, .ref oa), (4, .int (nI i))]) hx hb d_law_187 hl (by decide) rfl (fun ls hl => ?_)
  refine lv_aload_n hx hb d_law_189 rfl (lv_at hl 3 rfl) ?_
  refine lv_aload_n hx hb d_law_190 rfl (lv_at hl 1 rfl) ?_
  refine lv_iload hx hb d_law_191 (lv_at hl 5 rfl) ?_
  refine lv_iconst (v := 1) hx hb d_law_193 (by decide) ?_
  refine lv_iadd hx hb d_law_194 ?_
  refine va_sld hx hb hX hbl hbA I.2.2.2.2.2 (lw_in1 hL hi) d_law_195 ?_
  refine lv_aload_n hx hb d_law_196 rfl (lv_at hl 1 rfl) ?_
  refine lv_iload hx hb d_law_197 (lv_at hl 5 rfl) ?_
  refine lv_iconst (v := 2) hx hb d_law_199 (by decide) ?_
  refine lv_iadd hx hb d_law_200 ?_
  refine va_sld hx hb hX hbl hbA I.2.2.2.2.2 (lw_in2 hL hi) d_law_201 ?_
  refine lw_callR (n := 2) (av := [.int (xs ((nI i) + 1).toNatClampNeg), .int (xs ((nI i) + 2).toNatClampNeg)]) (rest := []) X Fx I (id := 20) rfl hrR h0R wt_524 wt_525 wt_526 wt_350 wt_328 (by decide +kernel) (by decide) rfl rfl (Nat.le_of_ble_eq_true rfl) hl.1 d_law_202 hcs (fun H locs I => ?_)
  refine W.eq (g2 := F0 m 205 ls [.int w]) rfl ?_
  refine lv_istore (lv' := [(6, .int w), (5, .int co), (0, .ref b), (1, .ref (ρC 0)), (2, .ref (ρR 0)), (3, .ref oa), (4, .int (nI i))]) hx hb d_law_205 hl (by decide) rfl (fun ls hl => ?_)
  refine lv_goto (tgt := 326) hx hb d_law_207 (by decide) ?_
  exact kk _ _ _ _ _ _ hRl1 I (lv_sub hl [2, 3, 4, 5, 6] rfl)
set_option maxHeartbeats 4000000 in
set_option maxRecDepth 100000 in
theorem lw_c_order {p : Program} {l : Launch} {e : Env} {s : State} {m : MethodId} {below : List Frame} {meth : Method} {c : Code} {D : va_G} {kc : Nat → ClassId} {b L : Nat} {xs : Nat → Int32} {ρC ρR : Nat → Nat} {oa : Nat} {Rl : Nat → am_H → am_H → Prop} {i : Nat} {cells slots : Nat} (St : lw_St Rl L) (X : lw_X p l s m meth c D kc b L xs) (Fx : lw_Fx s ρC ρR oa) (hL : L ≤ 1536) (hi : i + 3 ≤ L) (hcs : cells + 1 ≤ 601024 ∧ slots + 6 ≤ 7293034) {hC hR : am_H} {f : Nat → Int64} {H : Heap} {locs : List Loc} {ls : Array Slot} (hRl : Rl i hC hR) (I : lw_I s D kc ρC ρR oa hC hR f H locs) (hl : lv_has ls 7 [(0, .ref b), (1, .ref (ρC 0)), (2, .ref (ρR 0)), (3, .ref oa), (4, .int (nI i))])
    (kk : ∀ (hC' hR' : am_H) (f' : Nat → Int64) (H1 : Heap) (locs1 : List Loc) (ls1 : Array Slot), Rl (i + 3) hC' hR' → lw_I s D kc ρC ρR oa hC' hR' f' H1 locs1 → lv_has ls1 7 [(0, .ref b), (1, .ref (ρC 0)), (2, .ref (ρR 0)), (3, .ref oa), (4, .int (nI i))] → W p l e room_1 s m #[Value.ref b] below meth c H1 locs1 (cells + 1) (slots + 6) (lw_Z below #[Value.ref b] s) (F0 m 326 ls1 [])) :
    W p l e room_1 s m #[Value.ref b] below meth c H locs cells slots (lw_Z below #[Value.ref b] s) (F0 m 210 ls []) := by
  obtain ⟨⟨fsC, h0C⟩, fsR, h0R⟩ := St.1 i hC hR hRl
  obtain ⟨⟨hx, hb, hr, hml, hown, hts, hX, hbl, hlocks, hgv⟩, hK, hOk, hN, hZ, hst⟩ := id X
  have hbA : ¬ lw_A s b := Nat.not_le.mpr hbl
  refine lv_aload_n hx hb d_law_210 rfl (lv_at hl 1 rfl) ?_
  obtain ⟨hC1, hR1, hrC, hrR, hRl1⟩ := (St.2.2 i hi).2.2.2.2.1  hC hR hRl
  refine lw_callC (n := 0) (av := []) (rest := []) X Fx I (id := 63) rfl hrC h0C wt_527 wt_528 wt_529 wt_275 wt_63 (by decide +kernel) (by decide) rfl rfl (Nat.le_of_ble_eq_true rfl) hl.1 d_law_211 ⟨Nat.le_of_succ_le hcs.1, Nat.le_trans (Nat.le_add_right _ 6) hcs.2⟩ (fun H locs I => ?_)
  refine W.eq (g2 := F0 m 214 ls []) rfl ?_
  refine lv_aload_n hx hb d_law_214 rfl (lv_at hl 2 rfl) ?_
  refine lw_callR (n := 0) (av := []) (rest := []) X Fx I (id := 23) rfl hrR h0R wt_530 wt_531 wt_532 wt_350 wt_331 (by decide +kernel) (by decide) rfl rfl (Nat.le_of_ble_eq_true rfl) hl.1 d_law_215 ⟨Nat.le_of_succ_le hcs.1, Nat.le_trans (Nat.le_add_right _ 6) hcs.2⟩ (fun H locs I => ?_)
  refine W.eq (g2 := F0 m 218 ls []) rfl ?_
  refine lv_goto (tgt := 326) hx hb d_law_218 (by decide) ?_
  refine W.widen (k := cells + 1) (n := slots + 6) (by omega) (by omega) ?_
  exact kk _ _ _ _ _ _ hRl1 I (lv_sub hl [0, 1, 2, 3, 4] rfl)
set_option maxHeartbeats 4000000 in
set_option maxRecDepth 100000 in
theorem lw_c_write {p : Program} {l : Launch} {e : Env} {s : State} {m : MethodId} {below : List Frame} {meth : Method} {c : Code} {D : va_G} {kc : Nat → ClassId} {b L : Nat} {xs : Nat → Int32} {ρC ρR : Nat → Nat} {oa : Nat} {Rl : Nat → am_H → am_H → Prop} {i : Nat} {cells slots : Nat} (St : lw_St Rl L) (X : lw_X p l s m meth c D kc b L xs) (Fx : lw_Fx s ρC ρR oa) (hL : L ≤ 1536) (hi : i + 3 ≤ L) (hcs : cells + 1 ≤ 601024 ∧ slots + 6 ≤ 7293034) {hC hR : am_H} {f : Nat → Int64} {H : Heap} {locs : List Loc} {ls : Array Slot} (hRl : Rl i hC hR) (I : lw_I s D kc ρC ρR oa hC hR f H locs) (hl : lv_has ls 7 [(0, .ref b), (1, .ref (ρC 0)), (2, .ref (ρR 0)), (3, .ref oa), (4, .int (nI i))])
    (kk : ∀ (hC' hR' : am_H) (f' : Nat → Int64) (H1 : Heap) (locs1 : List Loc) (ls1 : Array Slot), Rl (i + 3) hC' hR' → lw_I s D kc ρC ρR oa hC' hR' f' H1 locs1 → lv_has ls1 7 [(0, .ref b), (1, .ref (ρC 0)), (2, .ref (ρR 0)), (3, .ref oa), (4, .int (nI i))] → W p l e room_1 s m #[Value.ref b] below meth c H1 locs1 (cells + 1) (slots + 6) (lw_Z below #[Value.ref b] s) (F0 m 326 ls1 [])) :
    W p l e room_1 s m #[Value.ref b] below meth c H locs cells slots (lw_Z below #[Value.ref b] s) (F0 m 221 ls []) := by
  obtain ⟨⟨fsC, h0C⟩, fsR, h0R⟩ := St.1 i hC hR hRl
  obtain ⟨⟨hx, hb, hr, hml, hown, hts, hX, hbl, hlocks, hgv⟩, hK, hOk, hN, hZ, hst⟩ := id X
  have hbA : ¬ lw_A s b := Nat.not_le.mpr hbl
  refine lv_aload_n hx hb d_law_221 rfl (lv_at hl 1 rfl) ?_
  refine lv_aload_n hx hb d_law_222 rfl (lv_at hl 0 rfl) ?_
  refine lv_iload hx hb d_law_223 (lv_at hl 4 rfl) ?_
  refine lv_iconst (v := 1) hx hb d_law_225 (by decide) ?_
  refine lv_iadd hx hb d_law_226 ?_
  refine va_sld hx hb hX hbl hbA I.2.2.2.2.2 (lw_in1 hL hi) d_law_227 ?_
  refine lv_aload_n hx hb d_law_228 rfl (lv_at hl 3 rfl) ?_
  obtain ⟨r, w, hR1, hEv, hk, hrR, hRl1⟩ := (St.2.2 i hi).2.2.2.2.2.1 (xs ((nI i) + 1).toNatClampNeg) hC hR hRl
  refine lw_callX (n := 3) (ia := [.int (xs ((nI i) + 1).toNatClampNeg)]) (rest := []) X Fx I (lx_write I.1 h0C Fx.2.2.2.1 (fun sz => cx_T_write hst Fx.1 (Nat.le_of_ble_eq_true rfl) hEv I.1 sz) hk) wt_533 wt_534 wt_506 wl_write (by decide +kernel) (by decide) rfl (Nat.le_of_ble_eq_true rfl) hl.1 d_law_229 hcs (fun co f1 H locs hcase I => ?_)
  refine W.eq (g2 := F0 m 232 ls [.int co]) rfl ?_
  refine lv_istore (lv' := [(5, .int co), (0, .ref b), (1, .ref (ρC 0)), (2, .ref (ρR 0)), (3, .ref oa), (4, .int (nI i))]) hx hb d_law_232 hl (by decide) rfl (fun ls hl => ?_)
  refine lv_aload_n hx hb d_law_234 rfl (lv_at hl 3 rfl) ?_
  refine lv_aload_n hx hb d_law_235 rfl (lv_at hl 1 rfl) ?_
  refine lv_iload hx hb d_law_236 (lv_at hl 5 rfl) ?_
  refine lv_iconst (v := 1) hx hb d_law_238 (by decide) ?_
  refine lv_iadd hx hb d_law_239 ?_
  refine va_sld hx hb hX hbl hbA I.2.2.2.2.2 (lw_in1 hL hi) d_law_240 ?_
  refine lw_callR (n := 1) (av := [.int (xs ((nI i) + 1).toNatClampNeg)]) (rest := []) X Fx I (id := 28) rfl hrR h0R wt_535 wt_536 wt_537 wt_350 wt_336 (by decide +kernel) (by decide) rfl rfl (Nat.le_of_ble_eq_true rfl) hl.1 d_law_241 hcs (fun H locs I => ?_)
  refine W.eq (g2 := F0 m 244 ls [.int w]) rfl ?_
  refine lv_istore (lv' := [(6, .int w), (5, .int co), (0, .ref b), (1, .ref (ρC 0)), (2, .ref (ρR 0)), (3, .ref oa), (4, .int (nI i))]) hx hb d_law_244 hl (by decide) rfl (fun ls hl => ?_)
  refine lv_goto (tgt := 326) hx hb d_law_246 (by decide) ?_
  exact kk _ _ _ _ _ _ hRl1 I (lv_sub hl [2, 3, 4, 5, 6] rfl)
set_option maxHeartbeats 4000000 in
set_option maxRecDepth 100000 in
theorem lw_c_written {p : Program} {l : Launch} {e : Env} {s : State} {m : MethodId} {below : List Frame} {meth : Method} {c : Code} {D : va_G} {kc : Nat → ClassId} {b L : Nat} {xs : Nat → Int32} {ρC ρR : Nat → Nat} {oa : Nat} {Rl : Nat → am_H → am_H → Prop} {i : Nat} {cells slots : Nat} (St : lw_St Rl L) (X : lw_X p l s m meth c D kc b L xs) (Fx : lw_Fx s ρC ρR oa) (hL : L ≤ 1536) (hi : i + 3 ≤ L) (hcs : cells + 1 ≤ 601024 ∧ slots + 6 ≤ 7293034) {hC hR : am_H} {f : Nat → Int64} {H : Heap} {locs : List Loc} {ls : Array Slot} (hRl : Rl i hC hR) (I : lw_I s D kc ρC ρR oa hC hR f H locs) (hl : lv_has ls 7 [(0, .ref b), (1, .ref (ρC 0)), (2, .ref (ρR 0)), (3, .ref oa), (4, .int (nI i))])
    (kk : ∀ (hC' hR' : am_H) (f' : Nat → Int64) (H1 : Heap) (locs1 : List Loc) (ls1 : Array Slot), Rl (i + 3) hC' hR' → lw_I s D kc ρC ρR oa hC' hR' f' H1 locs1 → lv_has ls1 7 [(0, .ref b), (1, .ref (ρC 0)), (2, .ref (ρR 0)), (3, .ref oa), (4, .int (nI i))] → W p l e room_1 s m #[Value.ref b] below meth c H1 locs1 (cells + 1) (slots + 6) (lw_Z below #[Value.ref b] s) (F0 m 326 ls1 [])) :
    W p l e room_1 s m #[Value.ref b] below meth c H locs cells slots (lw_Z below #[Value.ref b] s) (F0 m 249 ls []) := by
  obtain ⟨⟨fsC, h0C⟩, fsR, h0R⟩ := St.1 i hC hR hRl
  obtain ⟨⟨hx, hb, hr, hml, hown, hts, hX, hbl, hlocks, hgv⟩, hK, hOk, hN, hZ, hst⟩ := id X
  have hbA : ¬ lw_A s b := Nat.not_le.mpr hbl
  refine lv_aload_n hx hb d_law_249 rfl (lv_at hl 1 rfl) ?_
  refine lv_aload_n hx hb d_law_250 rfl (lv_at hl 0 rfl) ?_
  refine lv_iload hx hb d_law_251 (lv_at hl 4 rfl) ?_
  refine lv_iconst (v := 1) hx hb d_law_253 (by decide) ?_
  refine lv_iadd hx hb d_law_254 ?_
  refine va_sld hx hb hX hbl hbA I.2.2.2.2.2 (lw_in1 hL hi) d_law_255 ?_
  refine lv_aload_n hx hb d_law_256 rfl (lv_at hl 3 rfl) ?_
  obtain ⟨r, w, hR1, hEv, hk, hrR, hRl1⟩ := (St.2.2 i hi).2.2.2.2.2.2.1 (xs ((nI i) + 1).toNatClampNeg) hC hR hRl
  refine lw_callX (n := 3) (ia := [.int (xs ((nI i) + 1).toNatClampNeg)]) (rest := []) X Fx I (lx_written I.1 h0C Fx.2.2.2.1 (fun sz => cx_T_written hst Fx.1 (Nat.le_of_ble_eq_true rfl) hEv I.1 sz) hk) wt_538 wt_539 wt_506 wl_written (by decide +kernel) (by decide) rfl (Nat.le_of_ble_eq_true rfl) hl.1 d_law_257 hcs (fun co f1 H locs hcase I => ?_)
  refine W.eq (g2 := F0 m 260 ls [.int co]) rfl ?_
  refine lv_istore (lv' := [(5, .int co), (0, .ref b), (1, .ref (ρC 0)), (2, .ref (ρR 0)), (3, .ref oa), (4, .int (nI i))]) hx hb d_law_260 hl (by decide) rfl (fun ls hl => ?_)
  refine lv_aload_n hx hb d_law_262 rfl (lv_at hl 3 rfl) ?_
  refine lv_aload_n hx hb d_law_263 rfl (lv_at hl 1 rfl) ?_
  refine lv_iload hx hb d_law_264 (lv_at hl 5 rfl) ?_
  refine lv_iconst (v := 1) hx hb d_law_266 (by decide) ?_
  refine lv_iadd hx hb d_law_267 ?_
  refine va_sld hx hb hX hbl hbA I.2.2.2.2.2 (lw_in1 hL hi) d_law_268 ?_
  refine lw_callR (n := 1) (av := [.int (xs ((nI i) + 1).toNatClampNeg)]) (rest := []) X Fx I (id := 29) rfl hrR h0R wt_540 wt_541 wt_542 wt_350 wt_337 (by decide +kernel) (by decide) rfl rfl (Nat.le_of_ble_eq_true rfl) hl.1 d_law_269 hcs (fun H locs I => ?_)
  refine W.eq (g2 := F0 m 272 ls [.int w]) rfl ?_
  refine lv_istore (lv' := [(6, .int w), (5, .int co), (0, .ref b), (1, .ref (ρC 0)), (2, .ref (ρR 0)), (3, .ref oa), (4, .int (nI i))]) hx hb d_law_272 hl (by decide) rfl (fun ls hl => ?_)
  refine lv_goto (tgt := 326) hx hb d_law_274 (by decide) ?_
  exact kk _ _ _ _ _ _ hRl1 I (lv_sub hl [2, 3, 4, 5, 6] rfl)
set_option maxHeartbeats 4000000 in
set_option maxRecDepth 100000 in
theorem lw_c_reset {p : Program} {l : Launch} {e : Env} {s : State} {m : MethodId} {below : List Frame} {meth : Method} {c : Code} {D : va_G} {kc : Nat → ClassId} {b L : Nat} {xs : Nat → Int32} {ρC ρR : Nat → Nat} {oa : Nat} {Rl : Nat → am_H → am_H → Prop} {i : Nat} {cells slots : Nat} (St : lw_St Rl L) (X : lw_X p l s m meth c D kc b L xs) (Fx : lw_Fx s ρC ρR oa) (hL : L ≤ 1536) (hi : i + 3 ≤ L) (hcs : cells + 1 ≤ 601024 ∧ slots + 6 ≤ 7293034) {hC hR : am_H} {f : Nat → Int64} {H : Heap} {locs : List Loc} {ls : Array Slot} (hRl : Rl i hC hR) (I : lw_I s D kc ρC ρR oa hC hR f H locs) (hl : lv_has ls 7 [(0, .ref b), (1, .ref (ρC 0)), (2, .ref (ρR 0)), (3, .ref oa), (4, .int (nI i))])
    (kk : ∀ (hC' hR' : am_H) (f' : Nat → Int64) (H1 : Heap) (locs1 : List Loc) (ls1 : Array Slot), Rl (i + 3) hC' hR' → lw_I s D kc ρC ρR oa hC' hR' f' H1 locs1 → lv_has ls1 7 [(0, .ref b), (1, .ref (ρC 0)), (2, .ref (ρR 0)), (3, .ref oa), (4, .int (nI i))] → W p l e room_1 s m #[Value.ref b] below meth c H1 locs1 (cells + 1) (slots + 6) (lw_Z below #[Value.ref b] s) (F0 m 326 ls1 [])) :
    W p l e room_1 s m #[Value.ref b] below meth c H locs cells slots (lw_Z below #[Value.ref b] s) (F0 m 277 ls []) := by
  obtain ⟨⟨fsC, h0C⟩, fsR, h0R⟩ := St.1 i hC hR hRl
  obtain ⟨⟨hx, hb, hr, hml, hown, hts, hX, hbl, hlocks, hgv⟩, hK, hOk, hN, hZ, hst⟩ := id X
  have hbA : ¬ lw_A s b := Nat.not_le.mpr hbl
  refine lv_aload_n hx hb d_law_277 rfl (lv_at hl 1 rfl) ?_
  obtain ⟨hC1, hR1, hrC, hrR, hRl1⟩ := (St.2.2 i hi).2.2.2.2.2.2.2.1  hC hR hRl
  refine lw_callC (n := 0) (av := []) (rest := []) X Fx I (id := 64) rfl hrC h0C wt_543 wt_544 wt_545 wt_275 wt_64 (by decide +kernel) (by decide) rfl rfl (Nat.le_of_ble_eq_true rfl) hl.1 d_law_278 ⟨Nat.le_of_succ_le hcs.1, Nat.le_trans (Nat.le_add_right _ 6) hcs.2⟩ (fun H locs I => ?_)
  refine W.eq (g2 := F0 m 281 ls []) rfl ?_
  refine lv_aload_n hx hb d_law_281 rfl (lv_at hl 2 rfl) ?_
  refine lw_callR (n := 0) (av := []) (rest := []) X Fx I (id := 30) rfl hrR h0R wt_546 wt_424 wt_425 wt_350 wt_338 (by decide +kernel) (by decide) rfl rfl (Nat.le_of_ble_eq_true rfl) hl.1 d_law_282 ⟨Nat.le_of_succ_le hcs.1, Nat.le_trans (Nat.le_add_right _ 6) hcs.2⟩ (fun H locs I => ?_)
  refine W.eq (g2 := F0 m 285 ls []) rfl ?_
  refine lv_goto (tgt := 326) hx hb d_law_285 (by decide) ?_
  refine W.widen (k := cells + 1) (n := slots + 6) (by omega) (by omega) ?_
  exact kk _ _ _ _ _ _ hRl1 I (lv_sub hl [0, 1, 2, 3, 4] rfl)
set_option maxHeartbeats 4000000 in
set_option maxRecDepth 100000 in
theorem lw_c_cycle {p : Program} {l : Launch} {e : Env} {s : State} {m : MethodId} {below : List Frame} {meth : Method} {c : Code} {D : va_G} {kc : Nat → ClassId} {b L : Nat} {xs : Nat → Int32} {ρC ρR : Nat → Nat} {oa : Nat} {Rl : Nat → am_H → am_H → Prop} {i : Nat} {cells slots : Nat} (St : lw_St Rl L) (X : lw_X p l s m meth c D kc b L xs) (Fx : lw_Fx s ρC ρR oa) (hL : L ≤ 1536) (hi : i + 3 ≤ L) (hcs : cells + 1 ≤ 601024 ∧ slots + 6 ≤ 7293034) {hC hR : am_H} {f : Nat → Int64} {H : Heap} {locs : List Loc} {ls : Array Slot} (hRl : Rl i hC hR) (I : lw_I s D kc ρC ρR oa hC hR f H locs) (hl : lv_has ls 7 [(0, .ref b), (1, .ref (ρC 0)), (2, .ref (ρR 0)), (3, .ref oa), (4, .int (nI i))])
    (kk : ∀ (hC' hR' : am_H) (f' : Nat → Int64) (H1 : Heap) (locs1 : List Loc) (ls1 : Array Slot), Rl (i + 3) hC' hR' → lw_I s D kc ρC ρR oa hC' hR' f' H1 locs1 → lv_has ls1 7 [(0, .ref b), (1, .ref (ρC 0)), (2, .ref (ρR 0)), (3, .ref oa), (4, .int (nI i))] → W p l e room_1 s m #[Value.ref b] below meth c H1 locs1 (cells + 1) (slots + 6) (lw_Z below #[Value.ref b] s) (F0 m 326 ls1 [])) :
    W p l e room_1 s m #[Value.ref b] below meth c H locs cells slots (lw_Z below #[Value.ref b] s) (F0 m 288 ls []) := by
  obtain ⟨⟨fsC, h0C⟩, fsR, h0R⟩ := St.1 i hC hR hRl
  obtain ⟨⟨hx, hb, hr, hml, hown, hts, hX, hbl, hlocks, hgv⟩, hK, hOk, hN, hZ, hst⟩ := id X
  have hbA : ¬ lw_A s b := Nat.not_le.mpr hbl
  refine lv_aload_n hx hb d_law_288 rfl (lv_at hl 1 rfl) ?_
  refine lv_aload_n hx hb d_law_289 rfl (lv_at hl 0 rfl) ?_
  refine lv_iload hx hb d_law_290 (lv_at hl 4 rfl) ?_
  refine lv_iconst (v := 1) hx hb d_law_292 (by decide) ?_
  refine lv_iadd hx hb d_law_293 ?_
  refine va_sld hx hb hX hbl hbA I.2.2.2.2.2 (lw_in1 hL hi) d_law_294 ?_
  obtain ⟨v, w, hC1, hR1, hrC, hrR, hvw, hRl1⟩ := (St.2.2 i hi).2.2.2.2.2.2.2.2.1 (xs ((nI i) + 1).toNatClampNeg) hC hR hRl
  refine lw_callC (n := 1) (av := [.int (xs ((nI i) + 1).toNatClampNeg)]) (rest := []) X Fx I (id := 65) rfl hrC h0C wt_547 wt_548 wt_549 wt_275 wt_65 (by decide +kernel) (by decide) rfl rfl (Nat.le_of_ble_eq_true rfl) hl.1 d_law_295 ⟨Nat.le_of_succ_le hcs.1, Nat.le_trans (Nat.le_add_right _ 6) hcs.2⟩ (fun H locs I => ?_)
  refine W.eq (g2 := F0 m 298 ls [.int v]) rfl ?_
  refine lv_pop hx hb d_law_298 rfl ?_
  refine lv_aload_n hx hb d_law_299 rfl (lv_at hl 2 rfl) ?_
  refine lv_aload_n hx hb d_law_300 rfl (lv_at hl 0 rfl) ?_
  refine lv_iload hx hb d_law_301 (lv_at hl 4 rfl) ?_
  refine lv_iconst (v := 1) hx hb d_law_303 (by decide) ?_
  refine lv_iadd hx hb d_law_304 ?_
  refine va_sld hx hb hX hbl hbA I.2.2.2.2.2 (lw_in1 hL hi) d_law_305 ?_
  refine lw_callR (n := 1) (av := [.int (xs ((nI i) + 1).toNatClampNeg)]) (rest := []) X Fx I (id := 32) rfl hrR h0R wt_550 wt_551 wt_552 wt_350 wt_340 (by decide +kernel) (by decide) rfl rfl (Nat.le_of_ble_eq_true rfl) hl.1 d_law_306 ⟨Nat.le_of_succ_le hcs.1, Nat.le_trans (Nat.le_add_right _ 6) hcs.2⟩ (fun H locs I => ?_)
  refine W.eq (g2 := F0 m 309 ls [.int w]) rfl ?_
  refine lv_pop hx hb d_law_309 rfl ?_
  refine lv_goto (tgt := 326) hx hb d_law_310 (by decide) ?_
  refine W.widen (k := cells + 1) (n := slots + 6) (by omega) (by omega) ?_
  exact kk _ _ _ _ _ _ hRl1 I (lv_sub hl [0, 1, 2, 3, 4] rfl)
set_option maxHeartbeats 4000000 in
set_option maxRecDepth 100000 in
theorem lw_c_latches {p : Program} {l : Launch} {e : Env} {s : State} {m : MethodId} {below : List Frame} {meth : Method} {c : Code} {D : va_G} {kc : Nat → ClassId} {b L : Nat} {xs : Nat → Int32} {ρC ρR : Nat → Nat} {oa : Nat} {Rl : Nat → am_H → am_H → Prop} {i : Nat} {cells slots : Nat} (St : lw_St Rl L) (X : lw_X p l s m meth c D kc b L xs) (Fx : lw_Fx s ρC ρR oa) (hL : L ≤ 1536) (hi : i + 3 ≤ L) (hcs : cells + 1 ≤ 601024 ∧ slots + 6 ≤ 7293034) {hC hR : am_H} {f : Nat → Int64} {H : Heap} {locs : List Loc} {ls : Array Slot} (hRl : Rl i hC hR) (I : lw_I s D kc ρC ρR oa hC hR f H locs) (hl : lv_has ls 7 [(0, .ref b), (1, .ref (ρC 0)), (2, .ref (ρR 0)), (3, .ref oa), (4, .int (nI i))])
    (kk : ∀ (hC' hR' : am_H) (f' : Nat → Int64) (H1 : Heap) (locs1 : List Loc) (ls1 : Array Slot), Rl (i + 3) hC' hR' → lw_I s D kc ρC ρR oa hC' hR' f' H1 locs1 → lv_has ls1 7 [(0, .ref b), (1, .ref (ρC 0)), (2, .ref (ρR 0)), (3, .ref oa), (4, .int (nI i))] → W p l e room_1 s m #[Value.ref b] below meth c H1 locs1 (cells + 1) (slots + 6) (lw_Z below #[Value.ref b] s) (F0 m 326 ls1 [])) :
    W p l e room_1 s m #[Value.ref b] below meth c H locs cells slots (lw_Z below #[Value.ref b] s) (F0 m 313 ls []) := by
  obtain ⟨⟨fsC, h0C⟩, fsR, h0R⟩ := St.1 i hC hR hRl
  obtain ⟨⟨hx, hb, hr, hml, hown, hts, hX, hbl, hlocks, hgv⟩, hK, hOk, hN, hZ, hst⟩ := id X
  have hbA : ¬ lw_A s b := Nat.not_le.mpr hbl
  refine lv_aload_n hx hb d_law_313 rfl (lv_at hl 1 rfl) ?_
  obtain ⟨v, w, hC1, hR1, hrC, hrR, hvw, hRl1⟩ := (St.2.2 i hi).2.2.2.2.2.2.2.2.2  hC hR hRl
  refine lw_callC (n := 0) (av := []) (rest := []) X Fx I (id := 66) rfl hrC h0C wt_553 wt_554 wt_555 wt_275 wt_66 (by decide +kernel) (by decide) rfl rfl (Nat.le_of_ble_eq_true rfl) hl.1 d_law_314 ⟨Nat.le_of_succ_le hcs.1, Nat.le_trans (Nat.le_add_right _ 6) hcs.2⟩ (fun H locs I => ?_)
  refine W.eq (g2 := F0 m 317 ls [.int v]) rfl ?_
  refine lv_pop hx hb d_law_317 rfl ?_
  refine lv_aload_n hx hb d_law_318 rfl (lv_at hl 2 rfl) ?_
  refine lw_callR (n := 0) (av := []) (rest := []) X Fx I (id := 33) rfl hrR h0R wt_556 wt_557 wt_558 wt_350 wt_341 (by decide +kernel) (by decide) rfl rfl (Nat.le_of_ble_eq_true rfl) hl.1 d_law_319 ⟨Nat.le_of_succ_le hcs.1, Nat.le_trans (Nat.le_add_right _ 6) hcs.2⟩ (fun H locs I => ?_)
  refine W.eq (g2 := F0 m 322 ls [.int w]) rfl ?_
  refine lv_pop hx hb d_law_322 rfl ?_
  refine lv_goto (tgt := 326) hx hb d_law_323 (by decide) ?_
  refine W.widen (k := cells + 1) (n := slots + 6) (by omega) (by omega) ?_
  exact kk _ _ _ _ _ _ hRl1 I (lv_sub hl [0, 1, 2, 3, 4] rfl)
