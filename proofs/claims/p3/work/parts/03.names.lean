/-! the tables' words that calls may hand on -/
def am_WT : List Cond := lw_tbl.filter goodWord
theorem am_inWT {w : Cond} {i : Nat} (h : lw_tbl[i]? = some w) (hg : goodWord w = true) : w ∈ am_WT := List.mem_filter.mpr ⟨List.mem_of_getElem? h, hg⟩
theorem am_WT_good {w : Cond} (h : w ∈ am_WT) : goodWord w = true := (List.mem_filter.mp h).2
theorem am_gv {c0 cd : Cond} {own C : String} {idx : Nat} {y : MethodName} (h1 : .methodLink own idx y ∈ am_WT) (h2 : .instanceMethod y ∈ am_WT) (h3 : .selects C y y ∈ am_WT) (h4 : .initialized C ∈ am_WT) (h5 : cd ∈ am_WT) : GoodIn (c0 :: am_WT) (wsV own idx C y (cd :: am_WT)) := by
  intro w hw
  have hm : w ∈ am_WT := by
    simp only [wsV, List.cons_append, List.nil_append, List.mem_cons] at hw
    rcases hw with rfl | rfl | rfl | rfl | rfl | hw
    · exact h1
    · exact h2
    · exact h3
    · exact h4
    · exact h5
    · exact hw
  exact ⟨List.mem_cons_of_mem _ hm, good_of_word (am_WT_good hm)⟩
theorem am_gs {c0 cd : Cond} {own : String} {idx : Nat} {y : MethodName} (h1 : .methodLink own idx y ∈ am_WT) (h2 : .static y ∈ am_WT) (h4 : .initialized own ∈ am_WT) (h5 : cd ∈ am_WT) : GoodIn (c0 :: am_WT) (wsS own idx y (cd :: am_WT)) := by
  intro w hw
  have hm : w ∈ am_WT := by
    simp only [wsS, List.cons_append, List.nil_append, List.mem_cons] at hw
    rcases hw with rfl | rfl | rfl | rfl | hw
    · exact h1
    · exact h2
    · exact h4
    · exact h5
    · exact hw
  exact ⟨List.mem_cons_of_mem _ hm, good_of_word (am_WT_good hm)⟩
theorem am_mc {c0 w : Cond} (h : w ∈ am_WT) : w ∈ c0 :: am_WT := List.mem_cons_of_mem _ h
theorem am_uc {c0 : Cond} {ws : List Cond} (h : ∀ w ∈ ws, w ∈ am_WT) : ∀ w ∈ ws, w ∈ c0 :: am_WT := fun w hw => List.mem_cons_of_mem _ (h w hw)
def am_NF : Nat := 4096

def ft_T : u_T := fun k => match k with
  | 0 => ("DesignTexts", "text", "LDesignTexts$Bytes;", true)
  | 1 => ("DesignTexts", "page", "LDesignTexts$Bytes;", true)
  | 2 => ("DesignTexts", "reader", "LDesignTexts$TextReader;", true)
  | 3 => ("DesignTexts", "writer", "LDesignTexts$PageWriter;", true)
  | 4 => ("DesignTexts", "design", "LDesignTexts$Design;", false)
  | _ => ("DesignTexts", "spare", "LDesignTexts$Design;", false)
def ft_Tt : Nat → FieldType := fun k => match k with
  | 0 => .object "DesignTexts$Bytes"
  | 1 => .object "DesignTexts$Bytes"
  | 2 => .object "DesignTexts$TextReader"
  | 3 => .object "DesignTexts$PageWriter"
  | 4 => .object "DesignTexts$Design"
  | _ => .object "DesignTexts$Design"
theorem ft_Tn : ∀ a, a < 6 → ∀ b, b < 6 → a ≠ b → (ft_T a).2.1 ≠ (ft_T b).2.1 := by decide +kernel
theorem ft_To : ∀ k, k < 6 → parseFieldDescriptor (ft_T k).2.2.1 = some (ft_Tt k) := by decide +kernel
theorem ft_Tu : ∀ w ∈ u_ws "DesignTexts" ft_T 6, w ∈ am_WT := by decide +kernel
def ft_B : u_T := fun k => match k with
  | 0 => ("DesignTexts$Bytes", "row", "[B", true)
  | _ => ("DesignTexts$Bytes", "size", "I", false)
def ft_Bt : Nat → FieldType := fun k => match k with
  | 0 => .array .byte
  | _ => .int
theorem ft_Bn : ∀ a, a < 2 → ∀ b, b < 2 → a ≠ b → (ft_B a).2.1 ≠ (ft_B b).2.1 := by decide +kernel
theorem ft_Bo : ∀ k, k < 2 → parseFieldDescriptor (ft_B k).2.2.1 = some (ft_Bt k) := by decide +kernel
theorem ft_Bu : ∀ w ∈ u_ws "DesignTexts$Bytes" ft_B 2, w ∈ am_WT := by decide +kernel
def ft_D : u_T := fun k => match k with
  | 0 => ("DesignTexts$Design", "rows", "[[I", true)
  | 1 => ("DesignTexts$Design", "counts", "[I", true)
  | 2 => ("DesignTexts$Design", "sequence", "[I", true)
  | 3 => ("DesignTexts$Design", "marks", "[I", true)
  | 4 => ("DesignTexts$Design", "most", "I", false)
  | _ => ("DesignTexts$Design", "latchBits", "I", false)
def ft_Dt : Nat → FieldType := fun k => match k with
  | 0 => .array (.array .int)
  | 1 => .array .int
  | 2 => .array .int
  | 3 => .array .int
  | 4 => .int
  | _ => .int
theorem ft_Dn : ∀ a, a < 6 → ∀ b, b < 6 → a ≠ b → (ft_D a).2.1 ≠ (ft_D b).2.1 := by decide +kernel
theorem ft_Do : ∀ k, k < 6 → parseFieldDescriptor (ft_D k).2.2.1 = some (ft_Dt k) := by decide +kernel
theorem ft_Du : ∀ w ∈ u_ws "DesignTexts$Design" ft_D 6, w ∈ am_WT := by decide +kernel
def ft_W : u_T := fun k => match k with
  | _ => ("DesignTexts$PageWriter", "page", "LDesignTexts$Bytes;", true)
def ft_Wt : Nat → FieldType := fun k => match k with
  | _ => .object "DesignTexts$Bytes"
theorem ft_Wn : ∀ a, a < 1 → ∀ b, b < 1 → a ≠ b → (ft_W a).2.1 ≠ (ft_W b).2.1 := by decide +kernel
theorem ft_Wo : ∀ k, k < 1 → parseFieldDescriptor (ft_W k).2.2.1 = some (ft_Wt k) := by decide +kernel
theorem ft_Wu : ∀ w ∈ u_ws "DesignTexts$PageWriter" ft_W 1, w ∈ am_WT := by decide +kernel
def ft_R : u_T := fun k => match k with
  | 0 => ("DesignTexts$TextReader", "text", "LDesignTexts$Bytes;", true)
  | 1 => ("DesignTexts$TextReader", "defined", "[Z", true)
  | 2 => ("DesignTexts$TextReader", "useLiterals", "[I", true)
  | 3 => ("DesignTexts$TextReader", "usePlaces", "[I", true)
  | 4 => ("DesignTexts$TextReader", "gatePlaces", "[I", true)
  | 5 => ("DesignTexts$TextReader", "gateBits", "[J", true)
  | 6 => ("DesignTexts$TextReader", "rests", "[J", true)
  | 7 => ("DesignTexts$TextReader", "uses", "I", false)
  | 8 => ("DesignTexts$TextReader", "place", "I", false)
  | _ => ("DesignTexts$TextReader", "fault", "I", false)
def ft_Rt : Nat → FieldType := fun k => match k with
  | 0 => .object "DesignTexts$Bytes"
  | 1 => .array .boolean
  | 2 => .array .int
  | 3 => .array .int
  | 4 => .array .int
  | 5 => .array .long
  | 6 => .array .long
  | 7 => .int
  | 8 => .int
  | _ => .int
theorem ft_Rn : ∀ a, a < 10 → ∀ b, b < 10 → a ≠ b → (ft_R a).2.1 ≠ (ft_R b).2.1 := by decide +kernel
theorem ft_Ro : ∀ k, k < 10 → parseFieldDescriptor (ft_R k).2.2.1 = some (ft_Rt k) := by decide +kernel
theorem ft_Ru : ∀ w ∈ u_ws "DesignTexts$TextReader" ft_R 10, w ∈ am_WT := by decide +kernel
def ft_M : u_T := fun k => match k with
  | 0 => ("DesignTextsModel", "thrown", "I", false)
  | 1 => ("DesignTextsModel", "text", "[I", true)
  | 2 => ("DesignTextsModel", "size", "I", false)
  | 3 => ("DesignTextsModel", "most", "I", false)
  | 4 => ("DesignTextsModel", "counts", "[I", true)
  | 5 => ("DesignTextsModel", "inputs", "[I", true)
  | 6 => ("DesignTextsModel", "latches", "[I", true)
  | 7 => ("DesignTextsModel", "nexts", "[I", true)
  | 8 => ("DesignTextsModel", "begins", "[I", true)
  | 9 => ("DesignTextsModel", "outputs", "[I", true)
  | 10 => ("DesignTextsModel", "gates", "[I", true)
  | 11 => ("DesignTextsModel", "lefts", "[I", true)
  | 12 => ("DesignTextsModel", "rights", "[I", true)
  | 13 => ("DesignTextsModel", "now", "[I", true)
  | 14 => ("DesignTextsModel", "out", "[I", true)
  | 15 => ("DesignTextsModel", "outSize", "I", false)
  | 16 => ("DesignTextsModel", "at", "I", false)
  | 17 => ("DesignTextsModel", "fault", "I", false)
  | 18 => ("DesignTextsModel", "numberPlace", "I", false)
  | 19 => ("DesignTextsModel", "newMost", "I", false)
  | 20 => ("DesignTextsModel", "newCounts", "[I", true)
  | 21 => ("DesignTextsModel", "newInputs", "[I", true)
  | 22 => ("DesignTextsModel", "newLatches", "[I", true)
  | 23 => ("DesignTextsModel", "newNexts", "[I", true)
  | 24 => ("DesignTextsModel", "newBegins", "[I", true)
  | 25 => ("DesignTextsModel", "newOutputs", "[I", true)
  | 26 => ("DesignTextsModel", "newGates", "[I", true)
  | 27 => ("DesignTextsModel", "newLefts", "[I", true)
  | 28 => ("DesignTextsModel", "newRights", "[I", true)
  | 29 => ("DesignTextsModel", "gatePlaces", "[I", true)
  | 30 => ("DesignTextsModel", "defined", "[Z", true)
  | 31 => ("DesignTextsModel", "used", "[I", true)
  | 32 => ("DesignTextsModel", "usedPlaces", "[I", true)
  | 33 => ("DesignTextsModel", "usedCount", "I", false)
  | 34 => ("DesignTextsModel", "rests", "[Z", true)
  | 35 => ("DesignTextsModel", "values", "[I", true)
  | 36 => ("DesignTextsModel", "numbers", "[I", true)
  | _ => ("DesignTextsModel", "turn", "[I", true)
def ft_Mt : Nat → FieldType := fun k => match k with
  | 0 => .int
  | 1 => .array .int
  | 2 => .int
  | 3 => .int
  | 4 => .array .int
  | 5 => .array .int
  | 6 => .array .int
  | 7 => .array .int
  | 8 => .array .int
  | 9 => .array .int
  | 10 => .array .int
  | 11 => .array .int
  | 12 => .array .int
  | 13 => .array .int
  | 14 => .array .int
  | 15 => .int
  | 16 => .int
  | 17 => .int
  | 18 => .int
  | 19 => .int
  | 20 => .array .int
  | 21 => .array .int
  | 22 => .array .int
  | 23 => .array .int
  | 24 => .array .int
  | 25 => .array .int
  | 26 => .array .int
  | 27 => .array .int
  | 28 => .array .int
  | 29 => .array .int
  | 30 => .array .boolean
  | 31 => .array .int
  | 32 => .array .int
  | 33 => .int
  | 34 => .array .boolean
  | 35 => .array .int
  | 36 => .array .int
  | _ => .array .int
theorem ft_Mn : ∀ a, a < 38 → ∀ b, b < 38 → a ≠ b → (ft_M a).2.1 ≠ (ft_M b).2.1 := by decide +kernel
theorem ft_Mo : ∀ k, k < 38 → parseFieldDescriptor (ft_M k).2.2.1 = some (ft_Mt k) := by decide +kernel
theorem ft_Mu : ∀ w ∈ u_ws "DesignTextsModel" ft_M 38, w ∈ am_WT := by decide +kernel
abbrev aCl : List vw_C := [("DesignTexts", ft_T, 6), ("DesignTexts$Bytes", ft_B, 2), ("DesignTexts$Design", ft_D, 6), ("DesignTexts$PageWriter", ft_W, 1), ("DesignTexts$TextReader", ft_R, 10), ("DesignTextsModel", ft_M, 38)]
abbrev am_fts : List FieldType := [.byte, .int, .boolean, .long, .array .int]
set_option maxRecDepth 100000 in
theorem wt_0 : (.code ⟨"DesignTexts$Bytes", "size", "()I"⟩ prog_2_method_2_code 1 (some .int) : Cond) ∈ am_WT := am_inWT (i := 365) (by rfl) (by rfl)
set_option maxRecDepth 100000 in
theorem wt_1 : (.code ⟨"DesignTexts$Bytes", "clear", "()V"⟩ prog_2_method_3_code 1 none : Cond) ∈ am_WT := am_inWT (i := 347) (by rfl) (by rfl)
set_option maxRecDepth 100000 in
theorem wt_2 : (.code ⟨"DesignTexts$Bytes", "add", "(I)V"⟩ prog_2_method_4_code 2 none : Cond) ∈ am_WT := am_inWT (i := 538) (by rfl) (by rfl)
set_option maxRecDepth 100000 in
theorem wt_3 : (.code ⟨"DesignTexts$Bytes", "at", "(I)I"⟩ prog_2_method_5_code 2 (some .int) : Cond) ∈ am_WT := am_inWT (i := 211) (by rfl) (by rfl)
set_option maxRecDepth 100000 in
theorem wt_4 : (.code ⟨"DesignTexts$Design", "most", "()I"⟩ prog_3_method_2_code 1 (some .int) : Cond) ∈ am_WT := am_inWT (i := 252) (by rfl) (by rfl)
set_option maxRecDepth 100000 in
theorem wt_5 : (.code ⟨"DesignTexts$Design", "setMost", "(I)V"⟩ prog_3_method_3_code 2 none : Cond) ∈ am_WT := am_inWT (i := 238) (by rfl) (by rfl)
set_option maxRecDepth 100000 in
theorem wt_6 : (.code ⟨"DesignTexts$Design", "latchBits", "()I"⟩ prog_3_method_4_code 1 (some .int) : Cond) ∈ am_WT := am_inWT (i := 440) (by rfl) (by rfl)
set_option maxRecDepth 100000 in
theorem wt_7 : (.code ⟨"DesignTexts$Design", "many", "(I)I"⟩ prog_3_method_5_code 2 (some .int) : Cond) ∈ am_WT := am_inWT (i := 256) (by rfl) (by rfl)
set_option maxRecDepth 100000 in
theorem wt_8 : (.code ⟨"DesignTexts$Design", "setMany", "(II)V"⟩ prog_3_method_6_code 3 none : Cond) ∈ am_WT := am_inWT (i := 242) (by rfl) (by rfl)
set_option maxRecDepth 100000 in
theorem wt_9 : (.code ⟨"DesignTexts$Design", "holds", "(II)Z"⟩ prog_3_method_7_code 3 (some .boolean) : Cond) ∈ am_WT := am_inWT (i := 551) (by rfl) (by rfl)
set_option maxRecDepth 100000 in
theorem wt_10 : (.code ⟨"DesignTexts$Design", "get", "(II)I"⟩ prog_3_method_8_code 3 (some .int) : Cond) ∈ am_WT := am_inWT (i := 313) (by rfl) (by rfl)
set_option maxRecDepth 100000 in
theorem wt_11 : (.code ⟨"DesignTexts$Design", "set", "(III)V"⟩ prog_3_method_9_code 4 none : Cond) ∈ am_WT := am_inWT (i := 264) (by rfl) (by rfl)
set_option maxRecDepth 100000 in
theorem wt_12 : (.code ⟨"DesignTexts$Design", "restart", "()V"⟩ prog_3_method_10_code 3 none : Cond) ∈ am_WT := am_inWT (i := 351) (by rfl) (by rfl)
set_option maxRecDepth 100000 in
theorem wt_13 : (.code ⟨"DesignTexts$Design", "inOrder", "()Z"⟩ prog_3_method_11_code 3 (some .boolean) : Cond) ∈ am_WT := am_inWT (i := 369) (by rfl) (by rfl)
set_option maxRecDepth 100000 in
theorem wt_14 : (.code ⟨"DesignTexts$Design", "countsUp", "(II)Z"⟩ prog_3_method_12_code 4 (some .boolean) : Cond) ∈ am_WT := am_inWT (i := 373) (by rfl) (by rfl)
set_option maxRecDepth 100000 in
theorem wt_15 : (.code ⟨"DesignTexts$Design", "gatesLookBack", "()Z"⟩ prog_3_method_13_code 3 (some .boolean) : Cond) ∈ am_WT := am_inWT (i := 377) (by rfl) (by rfl)
set_option maxRecDepth 100000 in
theorem wt_16 : (.code ⟨"DesignTexts$Design", "step", "(I)I"⟩ prog_3_method_14_code 4 (some .int) : Cond) ∈ am_WT := am_inWT (i := 424) (by rfl) (by rfl)
set_option maxRecDepth 100000 in
theorem wt_17 : (.code ⟨"DesignTexts$Design", "truths", "(I)I"⟩ prog_3_method_15_code 4 (some .int) : Cond) ∈ am_WT := am_inWT (i := 432) (by rfl) (by rfl)
set_option maxRecDepth 100000 in
theorem wt_18 : (.code ⟨"DesignTexts$Design", "truth", "(I)I"⟩ prog_3_method_16_code 2 (some .int) : Cond) ∈ am_WT := am_inWT (i := 428) (by rfl) (by rfl)
set_option maxRecDepth 100000 in
theorem wt_19 : (.code ⟨"DesignTexts$Design", "arrange", "()V"⟩ prog_3_method_17_code 3 none : Cond) ∈ am_WT := am_inWT (i := 321) (by rfl) (by rfl)
set_option maxRecDepth 100000 in
theorem wt_20 : (.code ⟨"DesignTexts$Design", "forget", "()V"⟩ prog_3_method_18_code 2 none : Cond) ∈ am_WT := am_inWT (i := 325) (by rfl) (by rfl)
set_option maxRecDepth 100000 in
theorem wt_21 : (.code ⟨"DesignTexts$Design", "markAll", "(I)V"⟩ prog_3_method_19_code 3 none : Cond) ∈ am_WT := am_inWT (i := 333) (by rfl) (by rfl)
set_option maxRecDepth 100000 in
theorem wt_22 : (.code ⟨"DesignTexts$Design", "firstReady", "()I"⟩ prog_3_method_20_code 2 (some .int) : Cond) ∈ am_WT := am_inWT (i := 339) (by rfl) (by rfl)
set_option maxRecDepth 100000 in
theorem wt_23 : (.code ⟨"DesignTexts$Design", "inSequence", "(I)I"⟩ prog_3_method_21_code 2 (some .int) : Cond) ∈ am_WT := am_inWT (i := 393) (by rfl) (by rfl)
set_option maxRecDepth 100000 in
theorem wt_24 : (.code ⟨"DesignTexts$Design", "orderFrom", "(LDesignTexts$Design;)V"⟩ prog_3_method_22_code 2 none : Cond) ∈ am_WT := am_inWT (i := 385) (by rfl) (by rfl)
set_option maxRecDepth 100000 in
theorem wt_25 : (.code ⟨"DesignTexts$Design", "numberAnew", "(LDesignTexts$Design;)V"⟩ prog_3_method_23_code 4 none : Cond) ∈ am_WT := am_inWT (i := 389) (by rfl) (by rfl)
set_option maxRecDepth 100000 in
theorem wt_26 : (.code ⟨"DesignTexts$Design", "copyInputsAndOutputs", "(LDesignTexts$Design;)V"⟩ prog_3_method_24_code 3 none : Cond) ∈ am_WT := am_inWT (i := 397) (by rfl) (by rfl)
set_option maxRecDepth 100000 in
theorem wt_27 : (.code ⟨"DesignTexts$Design", "copyLatches", "(LDesignTexts$Design;)V"⟩ prog_3_method_25_code 3 none : Cond) ∈ am_WT := am_inWT (i := 407) (by rfl) (by rfl)
set_option maxRecDepth 100000 in
theorem wt_28 : (.code ⟨"DesignTexts$Design", "copyGates", "(LDesignTexts$Design;)V"⟩ prog_3_method_26_code 6 none : Cond) ∈ am_WT := am_inWT (i := 411) (by rfl) (by rfl)
set_option maxRecDepth 100000 in
theorem wt_29 : (.code ⟨"DesignTexts$Design", "renumbered", "(I)I"⟩ prog_3_method_27_code 2 (some .int) : Cond) ∈ am_WT := am_inWT (i := 402) (by rfl) (by rfl)
set_option maxRecDepth 100000 in
theorem wt_30 : (.code ⟨"DesignTexts$Design", "mark", "(II)V"⟩ prog_3_method_28_code 4 none : Cond) ∈ am_WT := am_inWT (i := 329) (by rfl) (by rfl)
set_option maxRecDepth 100000 in
theorem wt_31 : (.code ⟨"DesignTexts$Design", "markOf", "(I)I"⟩ prog_3_method_29_code 3 (some .int) : Cond) ∈ am_WT := am_inWT (i := 343) (by rfl) (by rfl)
set_option maxRecDepth 100000 in
theorem wt_32 : (.code ⟨"DesignTexts$PageWriter", "plain", "(LDesignTexts$Design;)V"⟩ prog_4_method_2_code 3 none : Cond) ∈ am_WT := am_inWT (i := 596) (by rfl) (by rfl)
set_option maxRecDepth 100000 in
theorem wt_33 : (.code ⟨"DesignTexts$PageWriter", "packed", "(LDesignTexts$Design;)V"⟩ prog_4_method_3_code 4 none : Cond) ∈ am_WT := am_inWT (i := 628) (by rfl) (by rfl)
set_option maxRecDepth 100000 in
theorem wt_34 : (.code ⟨"DesignTexts$PageWriter", "header", "(LDesignTexts$Design;I)V"⟩ prog_4_method_4_code 3 none : Cond) ∈ am_WT := am_inWT (i := 600) (by rfl) (by rfl)
set_option maxRecDepth 100000 in
theorem wt_35 : (.code ⟨"DesignTexts$PageWriter", "nextAndFirst", "(LDesignTexts$Design;I)V"⟩ prog_4_method_5_code 3 none : Cond) ∈ am_WT := am_inWT (i := 620) (by rfl) (by rfl)
set_option maxRecDepth 100000 in
theorem wt_36 : (.code ⟨"DesignTexts$PageWriter", "outputs", "(LDesignTexts$Design;)V"⟩ prog_4_method_6_code 3 none : Cond) ∈ am_WT := am_inWT (i := 624) (by rfl) (by rfl)
set_option maxRecDepth 100000 in
theorem wt_37 : (.code ⟨"DesignTexts$PageWriter", "numberAndBlank", "(I)V"⟩ prog_4_method_7_code 2 none : Cond) ∈ am_WT := am_inWT (i := 606) (by rfl) (by rfl)
set_option maxRecDepth 100000 in
theorem wt_38 : (.code ⟨"DesignTexts$PageWriter", "lastNumber", "(I)V"⟩ prog_4_method_8_code 2 none : Cond) ∈ am_WT := am_inWT (i := 615) (by rfl) (by rfl)
set_option maxRecDepth 100000 in
theorem wt_39 : (.code ⟨"DesignTexts$PageWriter", "digits", "(I)V"⟩ prog_4_method_9_code 2 none : Cond) ∈ am_WT := am_inWT (i := 610) (by rfl) (by rfl)
set_option maxRecDepth 100000 in
theorem wt_40 : (.code ⟨"DesignTexts$PageWriter", "difference", "(I)V"⟩ prog_4_method_10_code 2 none : Cond) ∈ am_WT := am_inWT (i := 632) (by rfl) (by rfl)
set_option maxRecDepth 100000 in
theorem wt_41 : (.code ⟨"DesignTexts$TextReader", "fill", "(LDesignTexts$Design;)I"⟩ prog_5_method_2_code 3 (some .int) : Cond) ∈ am_WT := am_inWT (i := 207) (by rfl) (by rfl)
set_option maxRecDepth 100000 in
theorem wt_42 : (.code ⟨"DesignTexts$TextReader", "header", "(LDesignTexts$Design;Z)V"⟩ prog_5_method_3_code 6 none : Cond) ∈ am_WT := am_inWT (i := 215) (by rfl) (by rfl)
set_option maxRecDepth 100000 in
theorem wt_43 : (.code ⟨"DesignTexts$TextReader", "plainLines", "(LDesignTexts$Design;)V"⟩ prog_5_method_4_code 4 none : Cond) ∈ am_WT := am_inWT (i := 280) (by rfl) (by rfl)
set_option maxRecDepth 100000 in
theorem wt_44 : (.code ⟨"DesignTexts$TextReader", "plainGates", "(LDesignTexts$Design;)V"⟩ prog_5_method_5_code 4 none : Cond) ∈ am_WT := am_inWT (i := 292) (by rfl) (by rfl)
set_option maxRecDepth 100000 in
theorem wt_45 : (.code ⟨"DesignTexts$TextReader", "packedLines", "(LDesignTexts$Design;)V"⟩ prog_5_method_6_code 5 none : Cond) ∈ am_WT := am_inWT (i := 260) (by rfl) (by rfl)
set_option maxRecDepth 100000 in
theorem wt_46 : (.code ⟨"DesignTexts$TextReader", "packedGates", "(LDesignTexts$Design;)V"⟩ prog_5_method_7_code 6 none : Cond) ∈ am_WT := am_inWT (i := 272) (by rfl) (by rfl)
set_option maxRecDepth 100000 in
theorem wt_47 : (.code ⟨"DesignTexts$TextReader", "closing", "()V"⟩ prog_5_method_8_code 2 none : Cond) ∈ am_WT := am_inWT (i := 296) (by rfl) (by rfl)
set_option maxRecDepth 100000 in
theorem wt_48 : (.code ⟨"DesignTexts$TextReader", "findUndefined", "()V"⟩ prog_5_method_9_code 3 none : Cond) ∈ am_WT := am_inWT (i := 300) (by rfl) (by rfl)
set_option maxRecDepth 100000 in
theorem wt_49 : (.code ⟨"DesignTexts$TextReader", "findRound", "(LDesignTexts$Design;)V"⟩ prog_5_method_10_code 5 none : Cond) ∈ am_WT := am_inWT (i := 304) (by rfl) (by rfl)
set_option maxRecDepth 100000 in
theorem wt_50 : (.code ⟨"DesignTexts$TextReader", "noteWhatGatesRestOn", "(LDesignTexts$Design;I)V"⟩ prog_5_method_11_code 5 none : Cond) ∈ am_WT := am_inWT (i := 309) (by rfl) (by rfl)
set_option maxRecDepth 100000 in
theorem wt_51 : (.code ⟨"DesignTexts$TextReader", "gateBit", "(I)J"⟩ prog_5_method_12_code 3 (some .long) : Cond) ∈ am_WT := am_inWT (i := 317) (by rfl) (by rfl)
set_option maxRecDepth 100000 in
theorem wt_52 : (.code ⟨"DesignTexts$TextReader", "definition", "(I)I"⟩ prog_5_method_13_code 5 (some .int) : Cond) ∈ am_WT := am_inWT (i := 284) (by rfl) (by rfl)
set_option maxRecDepth 100000 in
theorem wt_53 : (.code ⟨"DesignTexts$TextReader", "use", "(I)I"⟩ prog_5_method_14_code 4 (some .int) : Cond) ∈ am_WT := am_inWT (i := 288) (by rfl) (by rfl)
set_option maxRecDepth 100000 in
theorem wt_54 : (.code ⟨"DesignTexts$TextReader", "perhapsFirst", "()I"⟩ prog_5_method_15_code 1 (some .int) : Cond) ∈ am_WT := am_inWT (i := 268) (by rfl) (by rfl)
set_option maxRecDepth 100000 in
theorem wt_55 : (.code ⟨"DesignTexts$TextReader", "blankAndNumber", "(I)I"⟩ prog_5_method_16_code 2 (some .int) : Cond) ∈ am_WT := am_inWT (i := 227) (by rfl) (by rfl)
set_option maxRecDepth 100000 in
theorem wt_56 : (.code ⟨"DesignTexts$TextReader", "number", "(I)I"⟩ prog_5_method_17_code 5 (some .int) : Cond) ∈ am_WT := am_inWT (i := 231) (by rfl) (by rfl)
set_option maxRecDepth 100000 in
theorem wt_57 : (.code ⟨"DesignTexts$TextReader", "isDigit", "(I)Z"⟩ prog_5_method_18_code 1 (some .boolean) : Cond) ∈ am_WT := am_inWT (i := 234) (by rfl) (by rfl)
set_option maxRecDepth 100000 in
theorem wt_58 : (.code ⟨"DesignTexts$TextReader", "difference", "(II)I"⟩ prog_5_method_19_code 6 (some .int) : Cond) ∈ am_WT := am_inWT (i := 276) (by rfl) (by rfl)
set_option maxRecDepth 100000 in
theorem wt_59 : (.code ⟨"DesignTexts$TextReader", "expect", "(I)V"⟩ prog_5_method_20_code 2 none : Cond) ∈ am_WT := am_inWT (i := 219) (by rfl) (by rfl)
set_option maxRecDepth 100000 in
theorem wt_60 : (.code ⟨"DesignTexts$TextReader", "fail", "(I)V"⟩ prog_5_method_21_code 2 none : Cond) ∈ am_WT := am_inWT (i := 223) (by rfl) (by rfl)
set_option maxRecDepth 100000 in
theorem wt_61 : (.code ⟨"DesignTexts", "read", "()I"⟩ prog_1_method_3_code 2 (some .int) : Cond) ∈ am_WT := am_inWT (i := 203) (by rfl) (by rfl)
set_option maxRecDepth 100000 in
theorem wt_62 : (.code ⟨"DesignTexts", "about", "(I)I"⟩ prog_1_method_4_code 2 (some .int) : Cond) ∈ am_WT := am_inWT (i := 359) (by rfl) (by rfl)
set_option maxRecDepth 100000 in
theorem wt_63 : (.code ⟨"DesignTexts", "order", "()V"⟩ prog_1_method_6_code 1 none : Cond) ∈ am_WT := am_inWT (i := 381) (by rfl) (by rfl)
set_option maxRecDepth 100000 in
theorem wt_64 : (.code ⟨"DesignTexts", "reset", "()V"⟩ prog_1_method_9_code 1 none : Cond) ∈ am_WT := am_inWT (i := 416) (by rfl) (by rfl)
set_option maxRecDepth 100000 in
theorem wt_65 : (.code ⟨"DesignTexts", "cycle", "(I)I"⟩ prog_1_method_10_code 2 (some .int) : Cond) ∈ am_WT := am_inWT (i := 420) (by rfl) (by rfl)
set_option maxRecDepth 100000 in
theorem wt_66 : (.code ⟨"DesignTexts", "latches", "()I"⟩ prog_1_method_11_code 1 (some .int) : Cond) ∈ am_WT := am_inWT (i := 436) (by rfl) (by rfl)
set_option maxRecDepth 100000 in
theorem wt_67 : (.code ⟨"DesignTexts", "exchange", "()V"⟩ prog_1_method_12_code 2 none : Cond) ∈ am_WT := am_inWT (i := 355) (by rfl) (by rfl)
set_option maxRecDepth 100000 in
theorem wt_68 : (.code ⟨"DesignTexts", "put", "(II)I"⟩ prog_1_method_2_code 4 (some .int) : Cond) ∈ am_WT := am_inWT (i := 449) (by rfl) (by rfl)
set_option maxRecDepth 100000 in
theorem wt_69 : (.code ⟨"DesignTexts", "has", "(II)I"⟩ prog_1_method_5_code 3 (some .int) : Cond) ∈ am_WT := am_inWT (i := 546) (by rfl) (by rfl)
set_option maxRecDepth 100000 in
theorem wt_70 : (.code ⟨"DesignTexts", "write", "(I)I"⟩ prog_1_method_7_code 2 (some .int) : Cond) ∈ am_WT := am_inWT (i := 576) (by rfl) (by rfl)
set_option maxRecDepth 100000 in
theorem wt_71 : (.code ⟨"DesignTexts", "written", "(I)I"⟩ prog_1_method_8_code 2 (some .int) : Cond) ∈ am_WT := am_inWT (i := 640) (by rfl) (by rfl)
theorem wt_72 : (.fieldLink "DesignTexts$Bytes" 15 "DesignTexts$Bytes" "size" "I" : Cond) ∈ am_WT := am_inWT (i := 97) (by decide +kernel) (by decide +kernel)
theorem wt_73 : (.fieldLink "DesignTexts$Bytes" 9 "DesignTexts$Bytes" "row" "[B" : Cond) ∈ am_WT := am_inWT (i := 96) (by decide +kernel) (by decide +kernel)
theorem wt_74 : (.fieldLink "DesignTexts$Design" 26 "DesignTexts$Design" "most" "I" : Cond) ∈ am_WT := am_inWT (i := 166) (by decide +kernel) (by decide +kernel)
theorem wt_75 : (.fieldLink "DesignTexts$Design" 30 "DesignTexts$Design" "latchBits" "I" : Cond) ∈ am_WT := am_inWT (i := 167) (by decide +kernel) (by decide +kernel)
theorem wt_76 : (.fieldLink "DesignTexts$Design" 16 "DesignTexts$Design" "counts" "[I" : Cond) ∈ am_WT := am_inWT (i := 163) (by decide +kernel) (by decide +kernel)
theorem wt_77 : (.methodLink "DesignTexts$Design" 33 Lib.Math.min.name : Cond) ∈ am_WT := am_inWT (i := 243) (by decide +kernel) (by decide +kernel)
theorem wt_78 : (.static Lib.Math.min.name : Cond) ∈ am_WT := am_inWT (i := 244) (by decide +kernel) (by decide +kernel)
theorem wt_79 : (.initialized "java/lang/Math" : Cond) ∈ am_WT := am_inWT (i := 78) (by decide +kernel) (by decide +kernel)
set_option maxRecDepth 100000 in
theorem wt_80 : (.code Lib.Math.min.name Lib.Math.min.code 2 (some .int) : Cond) ∈ am_WT := am_inWT (i := 245) (by rfl) (by rfl)
theorem wt_81 : (.methodLink "DesignTexts$Design" 39 Lib.Math.max.name : Cond) ∈ am_WT := am_inWT (i := 246) (by decide +kernel) (by decide +kernel)
theorem wt_82 : (.static Lib.Math.max.name : Cond) ∈ am_WT := am_inWT (i := 247) (by decide +kernel) (by decide +kernel)
set_option maxRecDepth 100000 in
theorem wt_83 : (.code Lib.Math.max.name Lib.Math.max.code 2 (some .int) : Cond) ∈ am_WT := am_inWT (i := 248) (by rfl) (by rfl)
theorem wt_84 : (.methodLink "DesignTexts$Design" 42 ⟨"DesignTexts$Design", "many", "(I)I"⟩ : Cond) ∈ am_WT := am_inWT (i := 334) (by decide +kernel) (by decide +kernel)
theorem wt_85 : (.instanceMethod ⟨"DesignTexts$Design", "many", "(I)I"⟩ : Cond) ∈ am_WT := am_inWT (i := 254) (by decide +kernel) (by decide +kernel)
theorem wt_86 : (.selects "DesignTexts$Design" ⟨"DesignTexts$Design", "many", "(I)I"⟩ ⟨"DesignTexts$Design", "many", "(I)I"⟩ : Cond) ∈ am_WT := am_inWT (i := 255) (by decide +kernel) (by decide +kernel)
theorem wt_87 : (.initialized "DesignTexts$Design" : Cond) ∈ am_WT := am_inWT (i := 71) (by decide +kernel) (by decide +kernel)
theorem wt_88 : (.fieldLink "DesignTexts$Design" 11 "DesignTexts$Design" "rows" "[[I" : Cond) ∈ am_WT := am_inWT (i := 162) (by decide +kernel) (by decide +kernel)
theorem wt_89 : (.methodLink "DesignTexts$Design" 46 ⟨"DesignTexts$Design", "get", "(II)I"⟩ : Cond) ∈ am_WT := am_inWT (i := 335) (by decide +kernel) (by decide +kernel)
theorem wt_90 : (.instanceMethod ⟨"DesignTexts$Design", "get", "(II)I"⟩ : Cond) ∈ am_WT := am_inWT (i := 311) (by decide +kernel) (by decide +kernel)
theorem wt_91 : (.selects "DesignTexts$Design" ⟨"DesignTexts$Design", "get", "(II)I"⟩ ⟨"DesignTexts$Design", "get", "(II)I"⟩ : Cond) ∈ am_WT := am_inWT (i := 312) (by decide +kernel) (by decide +kernel)
theorem wt_92 : (.methodLink "DesignTexts$Design" 49 ⟨"DesignTexts$Design", "countsUp", "(II)Z"⟩ : Cond) ∈ am_WT := am_inWT (i := 370) (by decide +kernel) (by decide +kernel)
theorem wt_93 : (.instanceMethod ⟨"DesignTexts$Design", "countsUp", "(II)Z"⟩ : Cond) ∈ am_WT := am_inWT (i := 372) (by decide +kernel) (by decide +kernel)
theorem wt_94 : (.selects "DesignTexts$Design" ⟨"DesignTexts$Design", "countsUp", "(II)Z"⟩ ⟨"DesignTexts$Design", "countsUp", "(II)Z"⟩ : Cond) ∈ am_WT := am_inWT (i := 24) (by decide +kernel) (by decide +kernel)
theorem wt_95 : (.methodLink "DesignTexts$Design" 53 ⟨"DesignTexts$Design", "gatesLookBack", "()Z"⟩ : Cond) ∈ am_WT := am_inWT (i := 374) (by decide +kernel) (by decide +kernel)
theorem wt_96 : (.instanceMethod ⟨"DesignTexts$Design", "gatesLookBack", "()Z"⟩ : Cond) ∈ am_WT := am_inWT (i := 376) (by decide +kernel) (by decide +kernel)
theorem wt_97 : (.selects "DesignTexts$Design" ⟨"DesignTexts$Design", "gatesLookBack", "()Z"⟩ ⟨"DesignTexts$Design", "gatesLookBack", "()Z"⟩ : Cond) ∈ am_WT := am_inWT (i := 25) (by decide +kernel) (by decide +kernel)
theorem wt_98 : (.methodLink "DesignTexts$Design" 57 ⟨"DesignTexts$Design", "mark", "(II)V"⟩ : Cond) ∈ am_WT := am_inWT (i := 326) (by decide +kernel) (by decide +kernel)
theorem wt_99 : (.instanceMethod ⟨"DesignTexts$Design", "mark", "(II)V"⟩ : Cond) ∈ am_WT := am_inWT (i := 328) (by decide +kernel) (by decide +kernel)
theorem wt_100 : (.selects "DesignTexts$Design" ⟨"DesignTexts$Design", "mark", "(II)V"⟩ ⟨"DesignTexts$Design", "mark", "(II)V"⟩ : Cond) ∈ am_WT := am_inWT (i := 19) (by decide +kernel) (by decide +kernel)
theorem wt_101 : (.methodLink "DesignTexts$Design" 61 ⟨"DesignTexts$Design", "inSequence", "(I)I"⟩ : Cond) ∈ am_WT := am_inWT (i := 390) (by decide +kernel) (by decide +kernel)
theorem wt_102 : (.instanceMethod ⟨"DesignTexts$Design", "inSequence", "(I)I"⟩ : Cond) ∈ am_WT := am_inWT (i := 392) (by decide +kernel) (by decide +kernel)
theorem wt_103 : (.selects "DesignTexts$Design" ⟨"DesignTexts$Design", "inSequence", "(I)I"⟩ ⟨"DesignTexts$Design", "inSequence", "(I)I"⟩ : Cond) ∈ am_WT := am_inWT (i := 27) (by decide +kernel) (by decide +kernel)
theorem wt_104 : (.methodLink "DesignTexts$Design" 64 ⟨"DesignTexts$Design", "truth", "(I)I"⟩ : Cond) ∈ am_WT := am_inWT (i := 425) (by decide +kernel) (by decide +kernel)
theorem wt_105 : (.instanceMethod ⟨"DesignTexts$Design", "truth", "(I)I"⟩ : Cond) ∈ am_WT := am_inWT (i := 427) (by decide +kernel) (by decide +kernel)
theorem wt_106 : (.selects "DesignTexts$Design" ⟨"DesignTexts$Design", "truth", "(I)I"⟩ ⟨"DesignTexts$Design", "truth", "(I)I"⟩ : Cond) ∈ am_WT := am_inWT (i := 32) (by decide +kernel) (by decide +kernel)
theorem wt_107 : (.methodLink "DesignTexts$Design" 67 ⟨"DesignTexts$Design", "truths", "(I)I"⟩ : Cond) ∈ am_WT := am_inWT (i := 429) (by decide +kernel) (by decide +kernel)
theorem wt_108 : (.instanceMethod ⟨"DesignTexts$Design", "truths", "(I)I"⟩ : Cond) ∈ am_WT := am_inWT (i := 431) (by decide +kernel) (by decide +kernel)
theorem wt_109 : (.selects "DesignTexts$Design" ⟨"DesignTexts$Design", "truths", "(I)I"⟩ ⟨"DesignTexts$Design", "truths", "(I)I"⟩ : Cond) ∈ am_WT := am_inWT (i := 33) (by decide +kernel) (by decide +kernel)
theorem wt_110 : (.methodLink "DesignTexts$Design" 70 ⟨"DesignTexts$Design", "markOf", "(I)I"⟩ : Cond) ∈ am_WT := am_inWT (i := 340) (by decide +kernel) (by decide +kernel)
theorem wt_111 : (.instanceMethod ⟨"DesignTexts$Design", "markOf", "(I)I"⟩ : Cond) ∈ am_WT := am_inWT (i := 342) (by decide +kernel) (by decide +kernel)
theorem wt_112 : (.selects "DesignTexts$Design" ⟨"DesignTexts$Design", "markOf", "(I)I"⟩ ⟨"DesignTexts$Design", "markOf", "(I)I"⟩ : Cond) ∈ am_WT := am_inWT (i := 22) (by decide +kernel) (by decide +kernel)
theorem wt_113 : (.methodLink "DesignTexts$Design" 73 ⟨"DesignTexts$Design", "forget", "()V"⟩ : Cond) ∈ am_WT := am_inWT (i := 322) (by decide +kernel) (by decide +kernel)
theorem wt_114 : (.instanceMethod ⟨"DesignTexts$Design", "forget", "()V"⟩ : Cond) ∈ am_WT := am_inWT (i := 324) (by decide +kernel) (by decide +kernel)
theorem wt_115 : (.selects "DesignTexts$Design" ⟨"DesignTexts$Design", "forget", "()V"⟩ ⟨"DesignTexts$Design", "forget", "()V"⟩ : Cond) ∈ am_WT := am_inWT (i := 18) (by decide +kernel) (by decide +kernel)
theorem wt_116 : (.methodLink "DesignTexts$Design" 76 ⟨"DesignTexts$Design", "markAll", "(I)V"⟩ : Cond) ∈ am_WT := am_inWT (i := 330) (by decide +kernel) (by decide +kernel)
theorem wt_117 : (.instanceMethod ⟨"DesignTexts$Design", "markAll", "(I)V"⟩ : Cond) ∈ am_WT := am_inWT (i := 332) (by decide +kernel) (by decide +kernel)
theorem wt_118 : (.selects "DesignTexts$Design" ⟨"DesignTexts$Design", "markAll", "(I)V"⟩ ⟨"DesignTexts$Design", "markAll", "(I)V"⟩ : Cond) ∈ am_WT := am_inWT (i := 20) (by decide +kernel) (by decide +kernel)
theorem wt_119 : (.methodLink "DesignTexts$Design" 80 ⟨"DesignTexts$Design", "firstReady", "()I"⟩ : Cond) ∈ am_WT := am_inWT (i := 336) (by decide +kernel) (by decide +kernel)
theorem wt_120 : (.instanceMethod ⟨"DesignTexts$Design", "firstReady", "()I"⟩ : Cond) ∈ am_WT := am_inWT (i := 338) (by decide +kernel) (by decide +kernel)
theorem wt_121 : (.selects "DesignTexts$Design" ⟨"DesignTexts$Design", "firstReady", "()I"⟩ ⟨"DesignTexts$Design", "firstReady", "()I"⟩ : Cond) ∈ am_WT := am_inWT (i := 21) (by decide +kernel) (by decide +kernel)
theorem wt_122 : (.fieldLink "DesignTexts$Design" 20 "DesignTexts$Design" "sequence" "[I" : Cond) ∈ am_WT := am_inWT (i := 164) (by decide +kernel) (by decide +kernel)
theorem wt_123 : (.fieldLink "DesignTexts$Design" 23 "DesignTexts$Design" "marks" "[I" : Cond) ∈ am_WT := am_inWT (i := 165) (by decide +kernel) (by decide +kernel)
theorem wt_124 : (.methodLink "DesignTexts$Design" 84 ⟨"DesignTexts$Design", "numberAnew", "(LDesignTexts$Design;)V"⟩ : Cond) ∈ am_WT := am_inWT (i := 386) (by decide +kernel) (by decide +kernel)
theorem wt_125 : (.instanceMethod ⟨"DesignTexts$Design", "numberAnew", "(LDesignTexts$Design;)V"⟩ : Cond) ∈ am_WT := am_inWT (i := 388) (by decide +kernel) (by decide +kernel)
theorem wt_126 : (.selects "DesignTexts$Design" ⟨"DesignTexts$Design", "numberAnew", "(LDesignTexts$Design;)V"⟩ ⟨"DesignTexts$Design", "numberAnew", "(LDesignTexts$Design;)V"⟩ : Cond) ∈ am_WT := am_inWT (i := 26) (by decide +kernel) (by decide +kernel)
theorem wt_127 : (.methodLink "DesignTexts$Design" 88 ⟨"DesignTexts$Design", "copyInputsAndOutputs", "(LDesignTexts$Design;)V"⟩ : Cond) ∈ am_WT := am_inWT (i := 394) (by decide +kernel) (by decide +kernel)
theorem wt_128 : (.instanceMethod ⟨"DesignTexts$Design", "copyInputsAndOutputs", "(LDesignTexts$Design;)V"⟩ : Cond) ∈ am_WT := am_inWT (i := 396) (by decide +kernel) (by decide +kernel)
theorem wt_129 : (.selects "DesignTexts$Design" ⟨"DesignTexts$Design", "copyInputsAndOutputs", "(LDesignTexts$Design;)V"⟩ ⟨"DesignTexts$Design", "copyInputsAndOutputs", "(LDesignTexts$Design;)V"⟩ : Cond) ∈ am_WT := am_inWT (i := 28) (by decide +kernel) (by decide +kernel)
theorem wt_130 : (.methodLink "DesignTexts$Design" 91 ⟨"DesignTexts$Design", "copyLatches", "(LDesignTexts$Design;)V"⟩ : Cond) ∈ am_WT := am_inWT (i := 404) (by decide +kernel) (by decide +kernel)
theorem wt_131 : (.instanceMethod ⟨"DesignTexts$Design", "copyLatches", "(LDesignTexts$Design;)V"⟩ : Cond) ∈ am_WT := am_inWT (i := 406) (by decide +kernel) (by decide +kernel)
theorem wt_132 : (.selects "DesignTexts$Design" ⟨"DesignTexts$Design", "copyLatches", "(LDesignTexts$Design;)V"⟩ ⟨"DesignTexts$Design", "copyLatches", "(LDesignTexts$Design;)V"⟩ : Cond) ∈ am_WT := am_inWT (i := 30) (by decide +kernel) (by decide +kernel)
theorem wt_133 : (.methodLink "DesignTexts$Design" 94 ⟨"DesignTexts$Design", "copyGates", "(LDesignTexts$Design;)V"⟩ : Cond) ∈ am_WT := am_inWT (i := 408) (by decide +kernel) (by decide +kernel)
theorem wt_134 : (.instanceMethod ⟨"DesignTexts$Design", "copyGates", "(LDesignTexts$Design;)V"⟩ : Cond) ∈ am_WT := am_inWT (i := 410) (by decide +kernel) (by decide +kernel)
theorem wt_135 : (.selects "DesignTexts$Design" ⟨"DesignTexts$Design", "copyGates", "(LDesignTexts$Design;)V"⟩ ⟨"DesignTexts$Design", "copyGates", "(LDesignTexts$Design;)V"⟩ : Cond) ∈ am_WT := am_inWT (i := 31) (by decide +kernel) (by decide +kernel)
theorem wt_136 : (.methodLink "DesignTexts$Design" 97 ⟨"DesignTexts$Design", "arrange", "()V"⟩ : Cond) ∈ am_WT := am_inWT (i := 412) (by decide +kernel) (by decide +kernel)
theorem wt_137 : (.instanceMethod ⟨"DesignTexts$Design", "arrange", "()V"⟩ : Cond) ∈ am_WT := am_inWT (i := 319) (by decide +kernel) (by decide +kernel)
theorem wt_138 : (.selects "DesignTexts$Design" ⟨"DesignTexts$Design", "arrange", "()V"⟩ ⟨"DesignTexts$Design", "arrange", "()V"⟩ : Cond) ∈ am_WT := am_inWT (i := 320) (by decide +kernel) (by decide +kernel)
theorem wt_139 : (.methodLink "DesignTexts$Design" 100 ⟨"DesignTexts$Design", "setMany", "(II)V"⟩ : Cond) ∈ am_WT := am_inWT (i := 398) (by decide +kernel) (by decide +kernel)
theorem wt_140 : (.instanceMethod ⟨"DesignTexts$Design", "setMany", "(II)V"⟩ : Cond) ∈ am_WT := am_inWT (i := 240) (by decide +kernel) (by decide +kernel)
theorem wt_141 : (.selects "DesignTexts$Design" ⟨"DesignTexts$Design", "setMany", "(II)V"⟩ ⟨"DesignTexts$Design", "setMany", "(II)V"⟩ : Cond) ∈ am_WT := am_inWT (i := 241) (by decide +kernel) (by decide +kernel)
theorem wt_142 : (.methodLink "DesignTexts$Design" 103 ⟨"DesignTexts$Design", "renumbered", "(I)I"⟩ : Cond) ∈ am_WT := am_inWT (i := 399) (by decide +kernel) (by decide +kernel)
theorem wt_143 : (.instanceMethod ⟨"DesignTexts$Design", "renumbered", "(I)I"⟩ : Cond) ∈ am_WT := am_inWT (i := 401) (by decide +kernel) (by decide +kernel)
theorem wt_144 : (.selects "DesignTexts$Design" ⟨"DesignTexts$Design", "renumbered", "(I)I"⟩ ⟨"DesignTexts$Design", "renumbered", "(I)I"⟩ : Cond) ∈ am_WT := am_inWT (i := 29) (by decide +kernel) (by decide +kernel)
theorem wt_145 : (.methodLink "DesignTexts$Design" 106 ⟨"DesignTexts$Design", "set", "(III)V"⟩ : Cond) ∈ am_WT := am_inWT (i := 403) (by decide +kernel) (by decide +kernel)
theorem wt_146 : (.instanceMethod ⟨"DesignTexts$Design", "set", "(III)V"⟩ : Cond) ∈ am_WT := am_inWT (i := 262) (by decide +kernel) (by decide +kernel)
theorem wt_147 : (.selects "DesignTexts$Design" ⟨"DesignTexts$Design", "set", "(III)V"⟩ ⟨"DesignTexts$Design", "set", "(III)V"⟩ : Cond) ∈ am_WT := am_inWT (i := 263) (by decide +kernel) (by decide +kernel)
theorem wt_148 : (.methodLink "DesignTexts$PageWriter" 15 ⟨"DesignTexts$PageWriter", "header", "(LDesignTexts$Design;I)V"⟩ : Cond) ∈ am_WT := am_inWT (i := 597) (by decide +kernel) (by decide +kernel)
theorem wt_149 : (.instanceMethod ⟨"DesignTexts$PageWriter", "header", "(LDesignTexts$Design;I)V"⟩ : Cond) ∈ am_WT := am_inWT (i := 599) (by decide +kernel) (by decide +kernel)
theorem wt_150 : (.selects "DesignTexts$PageWriter" ⟨"DesignTexts$PageWriter", "header", "(LDesignTexts$Design;I)V"⟩ ⟨"DesignTexts$PageWriter", "header", "(LDesignTexts$Design;I)V"⟩ : Cond) ∈ am_WT := am_inWT (i := 35) (by decide +kernel) (by decide +kernel)
theorem wt_151 : (.initialized "DesignTexts$PageWriter" : Cond) ∈ am_WT := am_inWT (i := 70) (by decide +kernel) (by decide +kernel)
theorem wt_152 : (.methodLink "DesignTexts$PageWriter" 19 ⟨"DesignTexts$Design", "many", "(I)I"⟩ : Cond) ∈ am_WT := am_inWT (i := 611) (by decide +kernel) (by decide +kernel)
theorem wt_153 : (.methodLink "DesignTexts$PageWriter" 25 ⟨"DesignTexts$Design", "get", "(II)I"⟩ : Cond) ∈ am_WT := am_inWT (i := 616) (by decide +kernel) (by decide +kernel)
theorem wt_154 : (.methodLink "DesignTexts$PageWriter" 29 ⟨"DesignTexts$PageWriter", "lastNumber", "(I)V"⟩ : Cond) ∈ am_WT := am_inWT (i := 612) (by decide +kernel) (by decide +kernel)
theorem wt_155 : (.instanceMethod ⟨"DesignTexts$PageWriter", "lastNumber", "(I)V"⟩ : Cond) ∈ am_WT := am_inWT (i := 614) (by decide +kernel) (by decide +kernel)
theorem wt_156 : (.selects "DesignTexts$PageWriter" ⟨"DesignTexts$PageWriter", "lastNumber", "(I)V"⟩ ⟨"DesignTexts$PageWriter", "lastNumber", "(I)V"⟩ : Cond) ∈ am_WT := am_inWT (i := 38) (by decide +kernel) (by decide +kernel)
theorem wt_157 : (.methodLink "DesignTexts$PageWriter" 33 ⟨"DesignTexts$PageWriter", "numberAndBlank", "(I)V"⟩ : Cond) ∈ am_WT := am_inWT (i := 603) (by decide +kernel) (by decide +kernel)
theorem wt_158 : (.instanceMethod ⟨"DesignTexts$PageWriter", "numberAndBlank", "(I)V"⟩ : Cond) ∈ am_WT := am_inWT (i := 605) (by decide +kernel) (by decide +kernel)
theorem wt_159 : (.selects "DesignTexts$PageWriter" ⟨"DesignTexts$PageWriter", "numberAndBlank", "(I)V"⟩ ⟨"DesignTexts$PageWriter", "numberAndBlank", "(I)V"⟩ : Cond) ∈ am_WT := am_inWT (i := 36) (by decide +kernel) (by decide +kernel)
theorem wt_160 : (.methodLink "DesignTexts$PageWriter" 36 ⟨"DesignTexts$PageWriter", "nextAndFirst", "(LDesignTexts$Design;I)V"⟩ : Cond) ∈ am_WT := am_inWT (i := 617) (by decide +kernel) (by decide +kernel)
theorem wt_161 : (.instanceMethod ⟨"DesignTexts$PageWriter", "nextAndFirst", "(LDesignTexts$Design;I)V"⟩ : Cond) ∈ am_WT := am_inWT (i := 619) (by decide +kernel) (by decide +kernel)
theorem wt_162 : (.selects "DesignTexts$PageWriter" ⟨"DesignTexts$PageWriter", "nextAndFirst", "(LDesignTexts$Design;I)V"⟩ ⟨"DesignTexts$PageWriter", "nextAndFirst", "(LDesignTexts$Design;I)V"⟩ : Cond) ∈ am_WT := am_inWT (i := 39) (by decide +kernel) (by decide +kernel)
theorem wt_163 : (.methodLink "DesignTexts$PageWriter" 39 ⟨"DesignTexts$PageWriter", "outputs", "(LDesignTexts$Design;)V"⟩ : Cond) ∈ am_WT := am_inWT (i := 621) (by decide +kernel) (by decide +kernel)
theorem wt_164 : (.instanceMethod ⟨"DesignTexts$PageWriter", "outputs", "(LDesignTexts$Design;)V"⟩ : Cond) ∈ am_WT := am_inWT (i := 623) (by decide +kernel) (by decide +kernel)
theorem wt_165 : (.selects "DesignTexts$PageWriter" ⟨"DesignTexts$PageWriter", "outputs", "(LDesignTexts$Design;)V"⟩ ⟨"DesignTexts$PageWriter", "outputs", "(LDesignTexts$Design;)V"⟩ : Cond) ∈ am_WT := am_inWT (i := 40) (by decide +kernel) (by decide +kernel)
theorem wt_166 : (.methodLink "DesignTexts$PageWriter" 43 ⟨"DesignTexts$PageWriter", "difference", "(I)V"⟩ : Cond) ∈ am_WT := am_inWT (i := 629) (by decide +kernel) (by decide +kernel)
theorem wt_167 : (.instanceMethod ⟨"DesignTexts$PageWriter", "difference", "(I)V"⟩ : Cond) ∈ am_WT := am_inWT (i := 631) (by decide +kernel) (by decide +kernel)
theorem wt_168 : (.selects "DesignTexts$PageWriter" ⟨"DesignTexts$PageWriter", "difference", "(I)V"⟩ ⟨"DesignTexts$PageWriter", "difference", "(I)V"⟩ : Cond) ∈ am_WT := am_inWT (i := 41) (by decide +kernel) (by decide +kernel)
theorem wt_169 : (.fieldLink "DesignTexts$PageWriter" 9 "DesignTexts$PageWriter" "page" "LDesignTexts$Bytes;" : Cond) ∈ am_WT := am_inWT (i := 150) (by decide +kernel) (by decide +kernel)
theorem wt_170 : (.methodLink "DesignTexts$PageWriter" 46 ⟨"DesignTexts$Bytes", "add", "(I)V"⟩ : Cond) ∈ am_WT := am_inWT (i := 601) (by decide +kernel) (by decide +kernel)
theorem wt_171 : (.instanceMethod ⟨"DesignTexts$Bytes", "add", "(I)V"⟩ : Cond) ∈ am_WT := am_inWT (i := 536) (by decide +kernel) (by decide +kernel)
theorem wt_172 : (.selects "DesignTexts$Bytes" ⟨"DesignTexts$Bytes", "add", "(I)V"⟩ ⟨"DesignTexts$Bytes", "add", "(I)V"⟩ : Cond) ∈ am_WT := am_inWT (i := 537) (by decide +kernel) (by decide +kernel)
theorem wt_173 : (.initialized "DesignTexts$Bytes" : Cond) ∈ am_WT := am_inWT (i := 68) (by decide +kernel) (by decide +kernel)
theorem wt_174 : (.methodLink "DesignTexts$PageWriter" 51 ⟨"DesignTexts$Design", "most", "()I"⟩ : Cond) ∈ am_WT := am_inWT (i := 602) (by decide +kernel) (by decide +kernel)
theorem wt_175 : (.instanceMethod ⟨"DesignTexts$Design", "most", "()I"⟩ : Cond) ∈ am_WT := am_inWT (i := 250) (by decide +kernel) (by decide +kernel)
theorem wt_176 : (.selects "DesignTexts$Design" ⟨"DesignTexts$Design", "most", "()I"⟩ ⟨"DesignTexts$Design", "most", "()I"⟩ : Cond) ∈ am_WT := am_inWT (i := 251) (by decide +kernel) (by decide +kernel)
theorem wt_177 : (.methodLink "DesignTexts$PageWriter" 55 ⟨"DesignTexts$PageWriter", "digits", "(I)V"⟩ : Cond) ∈ am_WT := am_inWT (i := 607) (by decide +kernel) (by decide +kernel)
theorem wt_178 : (.instanceMethod ⟨"DesignTexts$PageWriter", "digits", "(I)V"⟩ : Cond) ∈ am_WT := am_inWT (i := 609) (by decide +kernel) (by decide +kernel)
theorem wt_179 : (.selects "DesignTexts$PageWriter" ⟨"DesignTexts$PageWriter", "digits", "(I)V"⟩ ⟨"DesignTexts$PageWriter", "digits", "(I)V"⟩ : Cond) ∈ am_WT := am_inWT (i := 37) (by decide +kernel) (by decide +kernel)
theorem wt_180 : (.fieldLink "DesignTexts$TextReader" 36 "DesignTexts$TextReader" "place" "I" : Cond) ∈ am_WT := am_inWT (i := 118) (by decide +kernel) (by decide +kernel)
theorem wt_181 : (.fieldLink "DesignTexts$TextReader" 40 "DesignTexts$TextReader" "fault" "I" : Cond) ∈ am_WT := am_inWT (i := 119) (by decide +kernel) (by decide +kernel)
theorem wt_182 : (.fieldLink "DesignTexts$TextReader" 32 "DesignTexts$TextReader" "text" "LDesignTexts$Bytes;" : Cond) ∈ am_WT := am_inWT (i := 110) (by decide +kernel) (by decide +kernel)
theorem wt_183 : (.methodLink "DesignTexts$TextReader" 43 ⟨"DesignTexts$Bytes", "at", "(I)I"⟩ : Cond) ∈ am_WT := am_inWT (i := 208) (by decide +kernel) (by decide +kernel)
theorem wt_184 : (.instanceMethod ⟨"DesignTexts$Bytes", "at", "(I)I"⟩ : Cond) ∈ am_WT := am_inWT (i := 209) (by decide +kernel) (by decide +kernel)
theorem wt_185 : (.selects "DesignTexts$Bytes" ⟨"DesignTexts$Bytes", "at", "(I)I"⟩ ⟨"DesignTexts$Bytes", "at", "(I)I"⟩ : Cond) ∈ am_WT := am_inWT (i := 210) (by decide +kernel) (by decide +kernel)
theorem wt_186 : (.methodLink "DesignTexts$TextReader" 49 ⟨"DesignTexts$TextReader", "header", "(LDesignTexts$Design;Z)V"⟩ : Cond) ∈ am_WT := am_inWT (i := 212) (by decide +kernel) (by decide +kernel)
theorem wt_187 : (.instanceMethod ⟨"DesignTexts$TextReader", "header", "(LDesignTexts$Design;Z)V"⟩ : Cond) ∈ am_WT := am_inWT (i := 214) (by decide +kernel) (by decide +kernel)
theorem wt_188 : (.selects "DesignTexts$TextReader" ⟨"DesignTexts$TextReader", "header", "(LDesignTexts$Design;Z)V"⟩ ⟨"DesignTexts$TextReader", "header", "(LDesignTexts$Design;Z)V"⟩ : Cond) ∈ am_WT := am_inWT (i := 0) (by decide +kernel) (by decide +kernel)
theorem wt_189 : (.initialized "DesignTexts$TextReader" : Cond) ∈ am_WT := am_inWT (i := 69) (by decide +kernel) (by decide +kernel)
theorem wt_190 : (.methodLink "DesignTexts$TextReader" 53 ⟨"DesignTexts$TextReader", "packedLines", "(LDesignTexts$Design;)V"⟩ : Cond) ∈ am_WT := am_inWT (i := 257) (by decide +kernel) (by decide +kernel)
theorem wt_191 : (.instanceMethod ⟨"DesignTexts$TextReader", "packedLines", "(LDesignTexts$Design;)V"⟩ : Cond) ∈ am_WT := am_inWT (i := 259) (by decide +kernel) (by decide +kernel)
theorem wt_192 : (.selects "DesignTexts$TextReader" ⟨"DesignTexts$TextReader", "packedLines", "(LDesignTexts$Design;)V"⟩ ⟨"DesignTexts$TextReader", "packedLines", "(LDesignTexts$Design;)V"⟩ : Cond) ∈ am_WT := am_inWT (i := 5) (by decide +kernel) (by decide +kernel)
theorem wt_193 : (.methodLink "DesignTexts$TextReader" 57 ⟨"DesignTexts$TextReader", "packedGates", "(LDesignTexts$Design;)V"⟩ : Cond) ∈ am_WT := am_inWT (i := 269) (by decide +kernel) (by decide +kernel)
theorem wt_194 : (.instanceMethod ⟨"DesignTexts$TextReader", "packedGates", "(LDesignTexts$Design;)V"⟩ : Cond) ∈ am_WT := am_inWT (i := 271) (by decide +kernel) (by decide +kernel)
theorem wt_195 : (.selects "DesignTexts$TextReader" ⟨"DesignTexts$TextReader", "packedGates", "(LDesignTexts$Design;)V"⟩ ⟨"DesignTexts$TextReader", "packedGates", "(LDesignTexts$Design;)V"⟩ : Cond) ∈ am_WT := am_inWT (i := 7) (by decide +kernel) (by decide +kernel)
theorem wt_196 : (.methodLink "DesignTexts$TextReader" 60 ⟨"DesignTexts$TextReader", "plainLines", "(LDesignTexts$Design;)V"⟩ : Cond) ∈ am_WT := am_inWT (i := 277) (by decide +kernel) (by decide +kernel)
theorem wt_197 : (.instanceMethod ⟨"DesignTexts$TextReader", "plainLines", "(LDesignTexts$Design;)V"⟩ : Cond) ∈ am_WT := am_inWT (i := 279) (by decide +kernel) (by decide +kernel)
theorem wt_198 : (.selects "DesignTexts$TextReader" ⟨"DesignTexts$TextReader", "plainLines", "(LDesignTexts$Design;)V"⟩ ⟨"DesignTexts$TextReader", "plainLines", "(LDesignTexts$Design;)V"⟩ : Cond) ∈ am_WT := am_inWT (i := 9) (by decide +kernel) (by decide +kernel)
theorem wt_199 : (.methodLink "DesignTexts$TextReader" 63 ⟨"DesignTexts$TextReader", "plainGates", "(LDesignTexts$Design;)V"⟩ : Cond) ∈ am_WT := am_inWT (i := 289) (by decide +kernel) (by decide +kernel)
theorem wt_200 : (.instanceMethod ⟨"DesignTexts$TextReader", "plainGates", "(LDesignTexts$Design;)V"⟩ : Cond) ∈ am_WT := am_inWT (i := 291) (by decide +kernel) (by decide +kernel)
theorem wt_201 : (.selects "DesignTexts$TextReader" ⟨"DesignTexts$TextReader", "plainGates", "(LDesignTexts$Design;)V"⟩ ⟨"DesignTexts$TextReader", "plainGates", "(LDesignTexts$Design;)V"⟩ : Cond) ∈ am_WT := am_inWT (i := 12) (by decide +kernel) (by decide +kernel)
theorem wt_202 : (.methodLink "DesignTexts$TextReader" 66 ⟨"DesignTexts$TextReader", "closing", "()V"⟩ : Cond) ∈ am_WT := am_inWT (i := 293) (by decide +kernel) (by decide +kernel)
theorem wt_203 : (.instanceMethod ⟨"DesignTexts$TextReader", "closing", "()V"⟩ : Cond) ∈ am_WT := am_inWT (i := 295) (by decide +kernel) (by decide +kernel)
theorem wt_204 : (.selects "DesignTexts$TextReader" ⟨"DesignTexts$TextReader", "closing", "()V"⟩ ⟨"DesignTexts$TextReader", "closing", "()V"⟩ : Cond) ∈ am_WT := am_inWT (i := 13) (by decide +kernel) (by decide +kernel)
theorem wt_205 : (.methodLink "DesignTexts$TextReader" 69 ⟨"DesignTexts$TextReader", "findUndefined", "()V"⟩ : Cond) ∈ am_WT := am_inWT (i := 297) (by decide +kernel) (by decide +kernel)
theorem wt_206 : (.instanceMethod ⟨"DesignTexts$TextReader", "findUndefined", "()V"⟩ : Cond) ∈ am_WT := am_inWT (i := 299) (by decide +kernel) (by decide +kernel)
theorem wt_207 : (.selects "DesignTexts$TextReader" ⟨"DesignTexts$TextReader", "findUndefined", "()V"⟩ ⟨"DesignTexts$TextReader", "findUndefined", "()V"⟩ : Cond) ∈ am_WT := am_inWT (i := 14) (by decide +kernel) (by decide +kernel)
theorem wt_208 : (.methodLink "DesignTexts$TextReader" 72 ⟨"DesignTexts$TextReader", "findRound", "(LDesignTexts$Design;)V"⟩ : Cond) ∈ am_WT := am_inWT (i := 301) (by decide +kernel) (by decide +kernel)
theorem wt_209 : (.instanceMethod ⟨"DesignTexts$TextReader", "findRound", "(LDesignTexts$Design;)V"⟩ : Cond) ∈ am_WT := am_inWT (i := 303) (by decide +kernel) (by decide +kernel)
theorem wt_210 : (.selects "DesignTexts$TextReader" ⟨"DesignTexts$TextReader", "findRound", "(LDesignTexts$Design;)V"⟩ ⟨"DesignTexts$TextReader", "findRound", "(LDesignTexts$Design;)V"⟩ : Cond) ∈ am_WT := am_inWT (i := 15) (by decide +kernel) (by decide +kernel)
theorem wt_211 : (.methodLink "DesignTexts$TextReader" 75 ⟨"DesignTexts$Design", "arrange", "()V"⟩ : Cond) ∈ am_WT := am_inWT (i := 318) (by decide +kernel) (by decide +kernel)
theorem wt_212 : (.methodLink "DesignTexts$TextReader" 80 ⟨"DesignTexts$TextReader", "expect", "(I)V"⟩ : Cond) ∈ am_WT := am_inWT (i := 216) (by decide +kernel) (by decide +kernel)
theorem wt_213 : (.instanceMethod ⟨"DesignTexts$TextReader", "expect", "(I)V"⟩ : Cond) ∈ am_WT := am_inWT (i := 218) (by decide +kernel) (by decide +kernel)
theorem wt_214 : (.selects "DesignTexts$TextReader" ⟨"DesignTexts$TextReader", "expect", "(I)V"⟩ ⟨"DesignTexts$TextReader", "expect", "(I)V"⟩ : Cond) ∈ am_WT := am_inWT (i := 1) (by decide +kernel) (by decide +kernel)
theorem wt_215 : (.methodLink "DesignTexts$TextReader" 84 ⟨"DesignTexts$TextReader", "blankAndNumber", "(I)I"⟩ : Cond) ∈ am_WT := am_inWT (i := 224) (by decide +kernel) (by decide +kernel)
theorem wt_216 : (.instanceMethod ⟨"DesignTexts$TextReader", "blankAndNumber", "(I)I"⟩ : Cond) ∈ am_WT := am_inWT (i := 226) (by decide +kernel) (by decide +kernel)
theorem wt_217 : (.selects "DesignTexts$TextReader" ⟨"DesignTexts$TextReader", "blankAndNumber", "(I)I"⟩ ⟨"DesignTexts$TextReader", "blankAndNumber", "(I)I"⟩ : Cond) ∈ am_WT := am_inWT (i := 3) (by decide +kernel) (by decide +kernel)
theorem wt_218 : (.methodLink "DesignTexts$TextReader" 87 ⟨"DesignTexts$Design", "setMost", "(I)V"⟩ : Cond) ∈ am_WT := am_inWT (i := 235) (by decide +kernel) (by decide +kernel)
theorem wt_219 : (.instanceMethod ⟨"DesignTexts$Design", "setMost", "(I)V"⟩ : Cond) ∈ am_WT := am_inWT (i := 236) (by decide +kernel) (by decide +kernel)
theorem wt_220 : (.selects "DesignTexts$Design" ⟨"DesignTexts$Design", "setMost", "(I)V"⟩ ⟨"DesignTexts$Design", "setMost", "(I)V"⟩ : Cond) ∈ am_WT := am_inWT (i := 237) (by decide +kernel) (by decide +kernel)
theorem wt_221 : (.methodLink "DesignTexts$TextReader" 90 ⟨"DesignTexts$Design", "setMany", "(II)V"⟩ : Cond) ∈ am_WT := am_inWT (i := 239) (by decide +kernel) (by decide +kernel)
theorem wt_222 : (.methodLink "DesignTexts$TextReader" 94 ⟨"DesignTexts$Design", "most", "()I"⟩ : Cond) ∈ am_WT := am_inWT (i := 249) (by decide +kernel) (by decide +kernel)
theorem wt_223 : (.methodLink "DesignTexts$TextReader" 98 ⟨"DesignTexts$Design", "many", "(I)I"⟩ : Cond) ∈ am_WT := am_inWT (i := 253) (by decide +kernel) (by decide +kernel)
theorem wt_224 : (.methodLink "DesignTexts$TextReader" 101 ⟨"DesignTexts$TextReader", "number", "(I)I"⟩ : Cond) ∈ am_WT := am_inWT (i := 228) (by decide +kernel) (by decide +kernel)
theorem wt_225 : (.instanceMethod ⟨"DesignTexts$TextReader", "number", "(I)I"⟩ : Cond) ∈ am_WT := am_inWT (i := 230) (by decide +kernel) (by decide +kernel)
theorem wt_226 : (.selects "DesignTexts$TextReader" ⟨"DesignTexts$TextReader", "number", "(I)I"⟩ ⟨"DesignTexts$TextReader", "number", "(I)I"⟩ : Cond) ∈ am_WT := am_inWT (i := 4) (by decide +kernel) (by decide +kernel)
theorem wt_227 : (.methodLink "DesignTexts$TextReader" 104 ⟨"DesignTexts$TextReader", "fail", "(I)V"⟩ : Cond) ∈ am_WT := am_inWT (i := 220) (by decide +kernel) (by decide +kernel)
theorem wt_228 : (.instanceMethod ⟨"DesignTexts$TextReader", "fail", "(I)V"⟩ : Cond) ∈ am_WT := am_inWT (i := 222) (by decide +kernel) (by decide +kernel)
theorem wt_229 : (.selects "DesignTexts$TextReader" ⟨"DesignTexts$TextReader", "fail", "(I)V"⟩ ⟨"DesignTexts$TextReader", "fail", "(I)V"⟩ : Cond) ∈ am_WT := am_inWT (i := 2) (by decide +kernel) (by decide +kernel)
theorem wt_230 : (.fieldLink "DesignTexts$TextReader" 107 "DesignTexts$TextReader" "uses" "I" : Cond) ∈ am_WT := am_inWT (i := 117) (by decide +kernel) (by decide +kernel)
theorem wt_231 : (.fieldLink "DesignTexts$TextReader" 9 "DesignTexts$TextReader" "defined" "[Z" : Cond) ∈ am_WT := am_inWT (i := 111) (by decide +kernel) (by decide +kernel)
theorem wt_232 : (.methodLink "DesignTexts$TextReader" 110 ⟨"DesignTexts$TextReader", "definition", "(I)I"⟩ : Cond) ∈ am_WT := am_inWT (i := 281) (by decide +kernel) (by decide +kernel)
theorem wt_233 : (.instanceMethod ⟨"DesignTexts$TextReader", "definition", "(I)I"⟩ : Cond) ∈ am_WT := am_inWT (i := 283) (by decide +kernel) (by decide +kernel)
theorem wt_234 : (.selects "DesignTexts$TextReader" ⟨"DesignTexts$TextReader", "definition", "(I)I"⟩ ⟨"DesignTexts$TextReader", "definition", "(I)I"⟩ : Cond) ∈ am_WT := am_inWT (i := 10) (by decide +kernel) (by decide +kernel)
theorem wt_235 : (.methodLink "DesignTexts$TextReader" 113 ⟨"DesignTexts$Design", "set", "(III)V"⟩ : Cond) ∈ am_WT := am_inWT (i := 261) (by decide +kernel) (by decide +kernel)
theorem wt_236 : (.methodLink "DesignTexts$TextReader" 117 ⟨"DesignTexts$TextReader", "use", "(I)I"⟩ : Cond) ∈ am_WT := am_inWT (i := 285) (by decide +kernel) (by decide +kernel)
theorem wt_237 : (.instanceMethod ⟨"DesignTexts$TextReader", "use", "(I)I"⟩ : Cond) ∈ am_WT := am_inWT (i := 287) (by decide +kernel) (by decide +kernel)
theorem wt_238 : (.selects "DesignTexts$TextReader" ⟨"DesignTexts$TextReader", "use", "(I)I"⟩ ⟨"DesignTexts$TextReader", "use", "(I)I"⟩ : Cond) ∈ am_WT := am_inWT (i := 11) (by decide +kernel) (by decide +kernel)
theorem wt_239 : (.methodLink "DesignTexts$TextReader" 120 ⟨"DesignTexts$TextReader", "perhapsFirst", "()I"⟩ : Cond) ∈ am_WT := am_inWT (i := 265) (by decide +kernel) (by decide +kernel)
theorem wt_240 : (.instanceMethod ⟨"DesignTexts$TextReader", "perhapsFirst", "()I"⟩ : Cond) ∈ am_WT := am_inWT (i := 267) (by decide +kernel) (by decide +kernel)
theorem wt_241 : (.selects "DesignTexts$TextReader" ⟨"DesignTexts$TextReader", "perhapsFirst", "()I"⟩ ⟨"DesignTexts$TextReader", "perhapsFirst", "()I"⟩ : Cond) ∈ am_WT := am_inWT (i := 6) (by decide +kernel) (by decide +kernel)
theorem wt_242 : (.fieldLink "DesignTexts$TextReader" 22 "DesignTexts$TextReader" "gatePlaces" "[I" : Cond) ∈ am_WT := am_inWT (i := 114) (by decide +kernel) (by decide +kernel)
theorem wt_243 : (.methodLink "DesignTexts$TextReader" 123 ⟨"DesignTexts$TextReader", "difference", "(II)I"⟩ : Cond) ∈ am_WT := am_inWT (i := 273) (by decide +kernel) (by decide +kernel)
theorem wt_244 : (.instanceMethod ⟨"DesignTexts$TextReader", "difference", "(II)I"⟩ : Cond) ∈ am_WT := am_inWT (i := 275) (by decide +kernel) (by decide +kernel)
theorem wt_245 : (.selects "DesignTexts$TextReader" ⟨"DesignTexts$TextReader", "difference", "(II)I"⟩ ⟨"DesignTexts$TextReader", "difference", "(II)I"⟩ : Cond) ∈ am_WT := am_inWT (i := 8) (by decide +kernel) (by decide +kernel)
theorem wt_246 : (.fieldLink "DesignTexts$TextReader" 15 "DesignTexts$TextReader" "useLiterals" "[I" : Cond) ∈ am_WT := am_inWT (i := 112) (by decide +kernel) (by decide +kernel)
theorem wt_247 : (.fieldLink "DesignTexts$TextReader" 19 "DesignTexts$TextReader" "usePlaces" "[I" : Cond) ∈ am_WT := am_inWT (i := 113) (by decide +kernel) (by decide +kernel)
theorem wt_248 : (.fieldLink "DesignTexts$TextReader" 29 "DesignTexts$TextReader" "rests" "[J" : Cond) ∈ am_WT := am_inWT (i := 116) (by decide +kernel) (by decide +kernel)
theorem wt_249 : (.methodLink "DesignTexts$TextReader" 127 Lib.Math.min.name : Cond) ∈ am_WT := am_inWT (i := 305) (by decide +kernel) (by decide +kernel)
theorem wt_250 : (.methodLink "DesignTexts$TextReader" 132 ⟨"DesignTexts$TextReader", "noteWhatGatesRestOn", "(LDesignTexts$Design;I)V"⟩ : Cond) ∈ am_WT := am_inWT (i := 306) (by decide +kernel) (by decide +kernel)
theorem wt_251 : (.instanceMethod ⟨"DesignTexts$TextReader", "noteWhatGatesRestOn", "(LDesignTexts$Design;I)V"⟩ : Cond) ∈ am_WT := am_inWT (i := 308) (by decide +kernel) (by decide +kernel)
theorem wt_252 : (.selects "DesignTexts$TextReader" ⟨"DesignTexts$TextReader", "noteWhatGatesRestOn", "(LDesignTexts$Design;I)V"⟩ ⟨"DesignTexts$TextReader", "noteWhatGatesRestOn", "(LDesignTexts$Design;I)V"⟩ : Cond) ∈ am_WT := am_inWT (i := 16) (by decide +kernel) (by decide +kernel)
theorem wt_253 : (.fieldLink "DesignTexts$TextReader" 25 "DesignTexts$TextReader" "gateBits" "[J" : Cond) ∈ am_WT := am_inWT (i := 115) (by decide +kernel) (by decide +kernel)
theorem wt_254 : (.methodLink "DesignTexts$TextReader" 136 ⟨"DesignTexts$Design", "get", "(II)I"⟩ : Cond) ∈ am_WT := am_inWT (i := 310) (by decide +kernel) (by decide +kernel)
theorem wt_255 : (.methodLink "DesignTexts$TextReader" 139 ⟨"DesignTexts$TextReader", "gateBit", "(I)J"⟩ : Cond) ∈ am_WT := am_inWT (i := 314) (by decide +kernel) (by decide +kernel)
theorem wt_256 : (.instanceMethod ⟨"DesignTexts$TextReader", "gateBit", "(I)J"⟩ : Cond) ∈ am_WT := am_inWT (i := 316) (by decide +kernel) (by decide +kernel)
theorem wt_257 : (.selects "DesignTexts$TextReader" ⟨"DesignTexts$TextReader", "gateBit", "(I)J"⟩ ⟨"DesignTexts$TextReader", "gateBit", "(I)J"⟩ : Cond) ∈ am_WT := am_inWT (i := 17) (by decide +kernel) (by decide +kernel)
theorem wt_258 : (.methodLink "DesignTexts$TextReader" 143 ⟨"DesignTexts$TextReader", "isDigit", "(I)Z"⟩ : Cond) ∈ am_WT := am_inWT (i := 232) (by decide +kernel) (by decide +kernel)
theorem wt_259 : (.static ⟨"DesignTexts$TextReader", "isDigit", "(I)Z"⟩ : Cond) ∈ am_WT := am_inWT (i := 233) (by decide +kernel) (by decide +kernel)
theorem wt_260 : (.fieldLink "DesignTexts" 24 "DesignTexts" "reader" "LDesignTexts$TextReader;" : Cond) ∈ am_WT := am_inWT (i := 183) (by decide +kernel) (by decide +kernel)
theorem wt_261 : (.fieldLink "DesignTexts" 42 "DesignTexts" "spare" "LDesignTexts$Design;" : Cond) ∈ am_WT := am_inWT (i := 186) (by decide +kernel) (by decide +kernel)
theorem wt_262 : (.methodLink "DesignTexts" 65 ⟨"DesignTexts$TextReader", "fill", "(LDesignTexts$Design;)I"⟩ : Cond) ∈ am_WT := am_inWT (i := 204) (by decide +kernel) (by decide +kernel)
theorem wt_263 : (.instanceMethod ⟨"DesignTexts$TextReader", "fill", "(LDesignTexts$Design;)I"⟩ : Cond) ∈ am_WT := am_inWT (i := 205) (by decide +kernel) (by decide +kernel)
theorem wt_264 : (.selects "DesignTexts$TextReader" ⟨"DesignTexts$TextReader", "fill", "(LDesignTexts$Design;)I"⟩ ⟨"DesignTexts$TextReader", "fill", "(LDesignTexts$Design;)I"⟩ : Cond) ∈ am_WT := am_inWT (i := 206) (by decide +kernel) (by decide +kernel)
theorem wt_265 : (.fieldLink "DesignTexts" 10 "DesignTexts" "text" "LDesignTexts$Bytes;" : Cond) ∈ am_WT := am_inWT (i := 181) (by decide +kernel) (by decide +kernel)
theorem wt_266 : (.methodLink "DesignTexts" 69 ⟨"DesignTexts$Bytes", "clear", "()V"⟩ : Cond) ∈ am_WT := am_inWT (i := 344) (by decide +kernel) (by decide +kernel)
theorem wt_267 : (.instanceMethod ⟨"DesignTexts$Bytes", "clear", "()V"⟩ : Cond) ∈ am_WT := am_inWT (i := 345) (by decide +kernel) (by decide +kernel)
theorem wt_268 : (.selects "DesignTexts$Bytes" ⟨"DesignTexts$Bytes", "clear", "()V"⟩ ⟨"DesignTexts$Bytes", "clear", "()V"⟩ : Cond) ∈ am_WT := am_inWT (i := 346) (by decide +kernel) (by decide +kernel)
theorem wt_269 : (.methodLink "DesignTexts" 72 ⟨"DesignTexts$Design", "restart", "()V"⟩ : Cond) ∈ am_WT := am_inWT (i := 348) (by decide +kernel) (by decide +kernel)
theorem wt_270 : (.instanceMethod ⟨"DesignTexts$Design", "restart", "()V"⟩ : Cond) ∈ am_WT := am_inWT (i := 349) (by decide +kernel) (by decide +kernel)
theorem wt_271 : (.selects "DesignTexts$Design" ⟨"DesignTexts$Design", "restart", "()V"⟩ ⟨"DesignTexts$Design", "restart", "()V"⟩ : Cond) ∈ am_WT := am_inWT (i := 350) (by decide +kernel) (by decide +kernel)
theorem wt_272 : (.methodLink "DesignTexts" 75 ⟨"DesignTexts", "exchange", "()V"⟩ : Cond) ∈ am_WT := am_inWT (i := 352) (by decide +kernel) (by decide +kernel)
theorem wt_273 : (.instanceMethod ⟨"DesignTexts", "exchange", "()V"⟩ : Cond) ∈ am_WT := am_inWT (i := 354) (by decide +kernel) (by decide +kernel)
theorem wt_274 : (.selects "DesignTexts" ⟨"DesignTexts", "exchange", "()V"⟩ ⟨"DesignTexts", "exchange", "()V"⟩ : Cond) ∈ am_WT := am_inWT (i := 23) (by decide +kernel) (by decide +kernel)
theorem wt_275 : (.initialized "DesignTexts" : Cond) ∈ am_WT := am_inWT (i := 67) (by decide +kernel) (by decide +kernel)
theorem wt_276 : (.fieldLink "DesignTexts" 38 "DesignTexts" "design" "LDesignTexts$Design;" : Cond) ∈ am_WT := am_inWT (i := 185) (by decide +kernel) (by decide +kernel)
theorem wt_277 : (.methodLink "DesignTexts" 78 ⟨"DesignTexts$Design", "most", "()I"⟩ : Cond) ∈ am_WT := am_inWT (i := 360) (by decide +kernel) (by decide +kernel)
theorem wt_278 : (.methodLink "DesignTexts" 81 ⟨"DesignTexts$Design", "many", "(I)I"⟩ : Cond) ∈ am_WT := am_inWT (i := 361) (by decide +kernel) (by decide +kernel)
theorem wt_279 : (.methodLink "DesignTexts" 52 ⟨"DesignTexts$Bytes", "size", "()I"⟩ : Cond) ∈ am_WT := am_inWT (i := 362) (by decide +kernel) (by decide +kernel)
theorem wt_280 : (.instanceMethod ⟨"DesignTexts$Bytes", "size", "()I"⟩ : Cond) ∈ am_WT := am_inWT (i := 363) (by decide +kernel) (by decide +kernel)
theorem wt_281 : (.selects "DesignTexts$Bytes" ⟨"DesignTexts$Bytes", "size", "()I"⟩ ⟨"DesignTexts$Bytes", "size", "()I"⟩ : Cond) ∈ am_WT := am_inWT (i := 364) (by decide +kernel) (by decide +kernel)
theorem wt_282 : (.methodLink "DesignTexts" 85 ⟨"DesignTexts$Design", "inOrder", "()Z"⟩ : Cond) ∈ am_WT := am_inWT (i := 366) (by decide +kernel) (by decide +kernel)
theorem wt_283 : (.instanceMethod ⟨"DesignTexts$Design", "inOrder", "()Z"⟩ : Cond) ∈ am_WT := am_inWT (i := 367) (by decide +kernel) (by decide +kernel)
theorem wt_284 : (.selects "DesignTexts$Design" ⟨"DesignTexts$Design", "inOrder", "()Z"⟩ ⟨"DesignTexts$Design", "inOrder", "()Z"⟩ : Cond) ∈ am_WT := am_inWT (i := 368) (by decide +kernel) (by decide +kernel)
theorem wt_285 : (.methodLink "DesignTexts" 104 ⟨"DesignTexts$Design", "orderFrom", "(LDesignTexts$Design;)V"⟩ : Cond) ∈ am_WT := am_inWT (i := 382) (by decide +kernel) (by decide +kernel)
theorem wt_286 : (.instanceMethod ⟨"DesignTexts$Design", "orderFrom", "(LDesignTexts$Design;)V"⟩ : Cond) ∈ am_WT := am_inWT (i := 383) (by decide +kernel) (by decide +kernel)
theorem wt_287 : (.selects "DesignTexts$Design" ⟨"DesignTexts$Design", "orderFrom", "(LDesignTexts$Design;)V"⟩ ⟨"DesignTexts$Design", "orderFrom", "(LDesignTexts$Design;)V"⟩ : Cond) ∈ am_WT := am_inWT (i := 384) (by decide +kernel) (by decide +kernel)
theorem wt_288 : (.methodLink "DesignTexts" 127 ⟨"DesignTexts$Design", "step", "(I)I"⟩ : Cond) ∈ am_WT := am_inWT (i := 421) (by decide +kernel) (by decide +kernel)
theorem wt_289 : (.instanceMethod ⟨"DesignTexts$Design", "step", "(I)I"⟩ : Cond) ∈ am_WT := am_inWT (i := 422) (by decide +kernel) (by decide +kernel)
theorem wt_290 : (.selects "DesignTexts$Design" ⟨"DesignTexts$Design", "step", "(I)I"⟩ ⟨"DesignTexts$Design", "step", "(I)I"⟩ : Cond) ∈ am_WT := am_inWT (i := 423) (by decide +kernel) (by decide +kernel)
theorem wt_291 : (.methodLink "DesignTexts" 130 ⟨"DesignTexts$Design", "latchBits", "()I"⟩ : Cond) ∈ am_WT := am_inWT (i := 437) (by decide +kernel) (by decide +kernel)
theorem wt_292 : (.instanceMethod ⟨"DesignTexts$Design", "latchBits", "()I"⟩ : Cond) ∈ am_WT := am_inWT (i := 438) (by decide +kernel) (by decide +kernel)
theorem wt_293 : (.selects "DesignTexts$Design" ⟨"DesignTexts$Design", "latchBits", "()I"⟩ ⟨"DesignTexts$Design", "latchBits", "()I"⟩ : Cond) ∈ am_WT := am_inWT (i := 439) (by decide +kernel) (by decide +kernel)
theorem wt_294 : (.methodLink "DesignTexts" 61 ⟨"DesignTexts$Bytes", "add", "(I)V"⟩ : Cond) ∈ am_WT := am_inWT (i := 535) (by decide +kernel) (by decide +kernel)
theorem wt_295 : (.methodLink "DesignTexts" 91 ⟨"DesignTexts$Design", "holds", "(II)Z"⟩ : Cond) ∈ am_WT := am_inWT (i := 548) (by decide +kernel) (by decide +kernel)
theorem wt_296 : (.instanceMethod ⟨"DesignTexts$Design", "holds", "(II)Z"⟩ : Cond) ∈ am_WT := am_inWT (i := 549) (by decide +kernel) (by decide +kernel)
theorem wt_297 : (.selects "DesignTexts$Design" ⟨"DesignTexts$Design", "holds", "(II)Z"⟩ ⟨"DesignTexts$Design", "holds", "(II)Z"⟩ : Cond) ∈ am_WT := am_inWT (i := 550) (by decide +kernel) (by decide +kernel)
theorem wt_298 : (.methodLink "DesignTexts" 100 ⟨"DesignTexts$Design", "get", "(II)I"⟩ : Cond) ∈ am_WT := am_inWT (i := 568) (by decide +kernel) (by decide +kernel)
theorem wt_299 : (.fieldLink "DesignTexts" 16 "DesignTexts" "page" "LDesignTexts$Bytes;" : Cond) ∈ am_WT := am_inWT (i := 182) (by decide +kernel) (by decide +kernel)
theorem wt_300 : (.fieldLink "DesignTexts" 31 "DesignTexts" "writer" "LDesignTexts$PageWriter;" : Cond) ∈ am_WT := am_inWT (i := 184) (by decide +kernel) (by decide +kernel)
theorem wt_301 : (.methodLink "DesignTexts" 113 ⟨"DesignTexts$PageWriter", "plain", "(LDesignTexts$Design;)V"⟩ : Cond) ∈ am_WT := am_inWT (i := 593) (by decide +kernel) (by decide +kernel)
theorem wt_302 : (.instanceMethod ⟨"DesignTexts$PageWriter", "plain", "(LDesignTexts$Design;)V"⟩ : Cond) ∈ am_WT := am_inWT (i := 594) (by decide +kernel) (by decide +kernel)
theorem wt_303 : (.selects "DesignTexts$PageWriter" ⟨"DesignTexts$PageWriter", "plain", "(LDesignTexts$Design;)V"⟩ ⟨"DesignTexts$PageWriter", "plain", "(LDesignTexts$Design;)V"⟩ : Cond) ∈ am_WT := am_inWT (i := 595) (by decide +kernel) (by decide +kernel)
theorem wt_304 : (.methodLink "DesignTexts" 116 ⟨"DesignTexts$PageWriter", "packed", "(LDesignTexts$Design;)V"⟩ : Cond) ∈ am_WT := am_inWT (i := 625) (by decide +kernel) (by decide +kernel)
theorem wt_305 : (.instanceMethod ⟨"DesignTexts$PageWriter", "packed", "(LDesignTexts$Design;)V"⟩ : Cond) ∈ am_WT := am_inWT (i := 626) (by decide +kernel) (by decide +kernel)
theorem wt_306 : (.selects "DesignTexts$PageWriter" ⟨"DesignTexts$PageWriter", "packed", "(LDesignTexts$Design;)V"⟩ ⟨"DesignTexts$PageWriter", "packed", "(LDesignTexts$Design;)V"⟩ : Cond) ∈ am_WT := am_inWT (i := 627) (by decide +kernel) (by decide +kernel)
theorem wt_307 : (.methodLink "DesignTexts" 124 ⟨"DesignTexts$Bytes", "at", "(I)I"⟩ : Cond) ∈ am_WT := am_inWT (i := 657) (by decide +kernel) (by decide +kernel)
set_option maxRecDepth 100000 in
theorem wt_308 : (.code ⟨"DesignTextsModel", "put", "(II)I"⟩ prog_7_method_3_code 4 (some .int) : Cond) ∈ am_WT := am_inWT (i := 782) (by rfl) (by rfl)
set_option maxRecDepth 100000 in
theorem wt_309 : (.code ⟨"DesignTextsModel", "byteAt", "(I)I"⟩ prog_7_method_4_code 2 (some .int) : Cond) ∈ am_WT := am_inWT (i := 790) (by rfl) (by rfl)
set_option maxRecDepth 100000 in
theorem wt_310 : (.code ⟨"DesignTextsModel", "bad", "(I)V"⟩ prog_7_method_5_code 2 none : Cond) ∈ am_WT := am_inWT (i := 802) (by rfl) (by rfl)
set_option maxRecDepth 100000 in
theorem wt_311 : (.code ⟨"DesignTextsModel", "take", "(I)V"⟩ prog_7_method_6_code 2 none : Cond) ∈ am_WT := am_inWT (i := 798) (by rfl) (by rfl)
set_option maxRecDepth 100000 in
theorem wt_312 : (.code ⟨"DesignTextsModel", "isDigit", "(I)Z"⟩ prog_7_method_7_code 2 (some .boolean) : Cond) ∈ am_WT := am_inWT (i := 810) (by rfl) (by rfl)
set_option maxRecDepth 100000 in
theorem wt_313 : (.code ⟨"DesignTextsModel", "number", "(I)I"⟩ prog_7_method_8_code 3 (some .int) : Cond) ∈ am_WT := am_inWT (i := 806) (by rfl) (by rfl)
set_option maxRecDepth 100000 in
theorem wt_314 : (.code ⟨"DesignTextsModel", "literal", "(Z)I"⟩ prog_7_method_9_code 3 (some .int) : Cond) ∈ am_WT := am_inWT (i := 822) (by rfl) (by rfl)
set_option maxRecDepth 100000 in
theorem wt_315 : (.code ⟨"DesignTextsModel", "define", "()I"⟩ prog_7_method_10_code 2 (some .int) : Cond) ∈ am_WT := am_inWT (i := 834) (by rfl) (by rfl)
set_option maxRecDepth 100000 in
theorem wt_316 : (.code ⟨"DesignTextsModel", "header", "(Z)V"⟩ prog_7_method_11_code 3 none : Cond) ∈ am_WT := am_inWT (i := 794) (by rfl) (by rfl)
set_option maxRecDepth 100000 in
theorem wt_317 : (.code ⟨"DesignTextsModel", "latchRest", "(I)V"⟩ prog_7_method_12_code 2 none : Cond) ∈ am_WT := am_inWT (i := 818) (by rfl) (by rfl)
set_option maxRecDepth 100000 in
theorem wt_318 : (.code ⟨"DesignTextsModel", "plainBody", "()V"⟩ prog_7_method_13_code 2 none : Cond) ∈ am_WT := am_inWT (i := 830) (by rfl) (by rfl)
set_option maxRecDepth 100000 in
theorem wt_319 : (.code ⟨"DesignTextsModel", "difference", "(II)I"⟩ prog_7_method_14_code 7 (some .int) : Cond) ∈ am_WT := am_inWT (i := 826) (by rfl) (by rfl)
set_option maxRecDepth 100000 in
theorem wt_320 : (.code ⟨"DesignTextsModel", "packedBody", "()V"⟩ prog_7_method_15_code 3 none : Cond) ∈ am_WT := am_inWT (i := 814) (by rfl) (by rfl)
set_option maxRecDepth 100000 in
theorem wt_321 : (.code ⟨"DesignTextsModel", "gateOf", "(I)I"⟩ prog_7_method_16_code 3 (some .int) : Cond) ∈ am_WT := am_inWT (i := 846) (by rfl) (by rfl)
set_option maxRecDepth 100000 in
theorem wt_322 : (.code ⟨"DesignTextsModel", "findUndefined", "()V"⟩ prog_7_method_17_code 2 none : Cond) ∈ am_WT := am_inWT (i := 838) (by rfl) (by rfl)
set_option maxRecDepth 100000 in
theorem wt_323 : (.code ⟨"DesignTextsModel", "findResting", "()V"⟩ prog_7_method_18_code 5 none : Cond) ∈ am_WT := am_inWT (i := 842) (by rfl) (by rfl)
set_option maxRecDepth 100000 in
theorem wt_324 : (.code ⟨"DesignTextsModel", "read", "()I"⟩ prog_7_method_19_code 3 (some .int) : Cond) ∈ am_WT := am_inWT (i := 786) (by rfl) (by rfl)
set_option maxRecDepth 100000 in
theorem wt_325 : (.code ⟨"DesignTextsModel", "takeOver", "()V"⟩ prog_7_method_20_code 2 none : Cond) ∈ am_WT := am_inWT (i := 850) (by rfl) (by rfl)
set_option maxRecDepth 100000 in
theorem wt_326 : (.code ⟨"DesignTextsModel", "isOrdered", "()Z"⟩ prog_7_method_21_code 4 (some .boolean) : Cond) ∈ am_WT := am_inWT (i := 862) (by rfl) (by rfl)
set_option maxRecDepth 100000 in
theorem wt_327 : (.code ⟨"DesignTextsModel", "about", "(I)I"⟩ prog_7_method_22_code 2 (some .int) : Cond) ∈ am_WT := am_inWT (i := 858) (by rfl) (by rfl)
set_option maxRecDepth 100000 in
theorem wt_328 : (.code ⟨"DesignTextsModel", "has", "(II)I"⟩ prog_7_method_23_code 4 (some .int) : Cond) ∈ am_WT := am_inWT (i := 866) (by rfl) (by rfl)
set_option maxRecDepth 100000 in
theorem wt_329 : (.code ⟨"DesignTextsModel", "anew", "(I)I"⟩ prog_7_method_24_code 2 (some .int) : Cond) ∈ am_WT := am_inWT (i := 878) (by rfl) (by rfl)
set_option maxRecDepth 100000 in
theorem wt_330 : (.code ⟨"DesignTextsModel", "ready", "()I"⟩ prog_7_method_25_code 2 (some .int) : Cond) ∈ am_WT := am_inWT (i := 874) (by rfl) (by rfl)
set_option maxRecDepth 100000 in
theorem wt_331 : (.code ⟨"DesignTextsModel", "order", "()V"⟩ prog_7_method_26_code 6 none : Cond) ∈ am_WT := am_inWT (i := 870) (by rfl) (by rfl)
set_option maxRecDepth 100000 in
theorem wt_332 : (.code ⟨"DesignTextsModel", "add", "(I)V"⟩ prog_7_method_27_code 2 none : Cond) ∈ am_WT := am_inWT (i := 886) (by rfl) (by rfl)
set_option maxRecDepth 100000 in
theorem wt_333 : (.code ⟨"DesignTextsModel", "addNumber", "(I)V"⟩ prog_7_method_28_code 3 none : Cond) ∈ am_WT := am_inWT (i := 890) (by rfl) (by rfl)
set_option maxRecDepth 100000 in
theorem wt_334 : (.code ⟨"DesignTextsModel", "addNext", "(I)V"⟩ prog_7_method_29_code 2 none : Cond) ∈ am_WT := am_inWT (i := 894) (by rfl) (by rfl)
set_option maxRecDepth 100000 in
theorem wt_335 : (.code ⟨"DesignTextsModel", "addDifference", "(I)V"⟩ prog_7_method_30_code 2 none : Cond) ∈ am_WT := am_inWT (i := 898) (by rfl) (by rfl)
set_option maxRecDepth 100000 in
theorem wt_336 : (.code ⟨"DesignTextsModel", "write", "(I)I"⟩ prog_7_method_31_code 3 (some .int) : Cond) ∈ am_WT := am_inWT (i := 882) (by rfl) (by rfl)
set_option maxRecDepth 100000 in
theorem wt_337 : (.code ⟨"DesignTextsModel", "written", "(I)I"⟩ prog_7_method_32_code 2 (some .int) : Cond) ∈ am_WT := am_inWT (i := 902) (by rfl) (by rfl)
set_option maxRecDepth 100000 in
theorem wt_338 : (.code ⟨"DesignTextsModel", "reset", "()V"⟩ prog_7_method_33_code 2 none : Cond) ∈ am_WT := am_inWT (i := 854) (by rfl) (by rfl)
set_option maxRecDepth 100000 in
theorem wt_339 : (.code ⟨"DesignTextsModel", "valueOf", "(I)I"⟩ prog_7_method_34_code 3 (some .int) : Cond) ∈ am_WT := am_inWT (i := 911) (by rfl) (by rfl)
set_option maxRecDepth 100000 in
theorem wt_340 : (.code ⟨"DesignTextsModel", "cycle", "(I)I"⟩ prog_7_method_35_code 6 (some .int) : Cond) ∈ am_WT := am_inWT (i := 907) (by rfl) (by rfl)
set_option maxRecDepth 100000 in
theorem wt_341 : (.code ⟨"DesignTextsModel", "latches", "()I"⟩ prog_7_method_36_code 3 (some .int) : Cond) ∈ am_WT := am_inWT (i := 915) (by rfl) (by rfl)
theorem wt_342 : (.fieldLink "DesignTextsModel" 102 "DesignTextsModel" "size" "I" : Cond) ∈ am_WT := am_inWT (i := 666) (by decide +kernel) (by decide +kernel)
theorem wt_343 : (.fieldLink "DesignTextsModel" 98 "DesignTextsModel" "thrown" "I" : Cond) ∈ am_WT := am_inWT (i := 664) (by decide +kernel) (by decide +kernel)
theorem wt_344 : (.fieldLink "DesignTextsModel" 7 "DesignTextsModel" "text" "[I" : Cond) ∈ am_WT := am_inWT (i := 665) (by decide +kernel) (by decide +kernel)
theorem wt_345 : (.fieldLink "DesignTextsModel" 105 "DesignTextsModel" "fault" "I" : Cond) ∈ am_WT := am_inWT (i := 681) (by decide +kernel) (by decide +kernel)
theorem wt_346 : (.fieldLink "DesignTextsModel" 108 "DesignTextsModel" "at" "I" : Cond) ∈ am_WT := am_inWT (i := 680) (by decide +kernel) (by decide +kernel)
theorem wt_347 : (.methodLink "DesignTextsModel" 111 ⟨"DesignTextsModel", "byteAt", "(I)I"⟩ : Cond) ∈ am_WT := am_inWT (i := 787) (by decide +kernel) (by decide +kernel)
theorem wt_348 : (.instanceMethod ⟨"DesignTextsModel", "byteAt", "(I)I"⟩ : Cond) ∈ am_WT := am_inWT (i := 789) (by decide +kernel) (by decide +kernel)
theorem wt_349 : (.selects "DesignTextsModel" ⟨"DesignTextsModel", "byteAt", "(I)I"⟩ ⟨"DesignTextsModel", "byteAt", "(I)I"⟩ : Cond) ∈ am_WT := am_inWT (i := 42) (by decide +kernel) (by decide +kernel)
theorem wt_350 : (.initialized "DesignTextsModel" : Cond) ∈ am_WT := am_inWT (i := 72) (by decide +kernel) (by decide +kernel)
theorem wt_351 : (.methodLink "DesignTextsModel" 115 ⟨"DesignTextsModel", "bad", "(I)V"⟩ : Cond) ∈ am_WT := am_inWT (i := 799) (by decide +kernel) (by decide +kernel)
theorem wt_352 : (.instanceMethod ⟨"DesignTextsModel", "bad", "(I)V"⟩ : Cond) ∈ am_WT := am_inWT (i := 801) (by decide +kernel) (by decide +kernel)
theorem wt_353 : (.selects "DesignTextsModel" ⟨"DesignTextsModel", "bad", "(I)V"⟩ ⟨"DesignTextsModel", "bad", "(I)V"⟩ : Cond) ∈ am_WT := am_inWT (i := 45) (by decide +kernel) (by decide +kernel)
theorem wt_354 : (.fieldLink "DesignTextsModel" 119 "DesignTextsModel" "numberPlace" "I" : Cond) ∈ am_WT := am_inWT (i := 682) (by decide +kernel) (by decide +kernel)
theorem wt_355 : (.methodLink "DesignTextsModel" 122 ⟨"DesignTextsModel", "isDigit", "(I)Z"⟩ : Cond) ∈ am_WT := am_inWT (i := 807) (by decide +kernel) (by decide +kernel)
theorem wt_356 : (.instanceMethod ⟨"DesignTextsModel", "isDigit", "(I)Z"⟩ : Cond) ∈ am_WT := am_inWT (i := 809) (by decide +kernel) (by decide +kernel)
theorem wt_357 : (.selects "DesignTextsModel" ⟨"DesignTextsModel", "isDigit", "(I)Z"⟩ ⟨"DesignTextsModel", "isDigit", "(I)Z"⟩ : Cond) ∈ am_WT := am_inWT (i := 47) (by decide +kernel) (by decide +kernel)
theorem wt_358 : (.fieldLink "DesignTextsModel" 126 "DesignTextsModel" "newMost" "I" : Cond) ∈ am_WT := am_inWT (i := 683) (by decide +kernel) (by decide +kernel)
theorem wt_359 : (.methodLink "DesignTextsModel" 129 ⟨"DesignTextsModel", "number", "(I)I"⟩ : Cond) ∈ am_WT := am_inWT (i := 803) (by decide +kernel) (by decide +kernel)
theorem wt_360 : (.instanceMethod ⟨"DesignTextsModel", "number", "(I)I"⟩ : Cond) ∈ am_WT := am_inWT (i := 805) (by decide +kernel) (by decide +kernel)
theorem wt_361 : (.selects "DesignTextsModel" ⟨"DesignTextsModel", "number", "(I)I"⟩ ⟨"DesignTextsModel", "number", "(I)I"⟩ : Cond) ∈ am_WT := am_inWT (i := 46) (by decide +kernel) (by decide +kernel)
theorem wt_362 : (.fieldLink "DesignTextsModel" 80 "DesignTextsModel" "used" "[I" : Cond) ∈ am_WT := am_inWT (i := 695) (by decide +kernel) (by decide +kernel)
theorem wt_363 : (.fieldLink "DesignTextsModel" 132 "DesignTextsModel" "usedCount" "I" : Cond) ∈ am_WT := am_inWT (i := 697) (by decide +kernel) (by decide +kernel)
theorem wt_364 : (.fieldLink "DesignTextsModel" 83 "DesignTextsModel" "usedPlaces" "[I" : Cond) ∈ am_WT := am_inWT (i := 696) (by decide +kernel) (by decide +kernel)
theorem wt_365 : (.methodLink "DesignTextsModel" 135 ⟨"DesignTextsModel", "literal", "(Z)I"⟩ : Cond) ∈ am_WT := am_inWT (i := 819) (by decide +kernel) (by decide +kernel)
theorem wt_366 : (.instanceMethod ⟨"DesignTextsModel", "literal", "(Z)I"⟩ : Cond) ∈ am_WT := am_inWT (i := 821) (by decide +kernel) (by decide +kernel)
theorem wt_367 : (.selects "DesignTextsModel" ⟨"DesignTextsModel", "literal", "(Z)I"⟩ ⟨"DesignTextsModel", "literal", "(Z)I"⟩ : Cond) ∈ am_WT := am_inWT (i := 50) (by decide +kernel) (by decide +kernel)
theorem wt_368 : (.fieldLink "DesignTextsModel" 76 "DesignTextsModel" "defined" "[Z" : Cond) ∈ am_WT := am_inWT (i := 694) (by decide +kernel) (by decide +kernel)
theorem wt_369 : (.methodLink "DesignTextsModel" 139 ⟨"DesignTextsModel", "take", "(I)V"⟩ : Cond) ∈ am_WT := am_inWT (i := 795) (by decide +kernel) (by decide +kernel)
theorem wt_370 : (.instanceMethod ⟨"DesignTextsModel", "take", "(I)V"⟩ : Cond) ∈ am_WT := am_inWT (i := 797) (by decide +kernel) (by decide +kernel)
theorem wt_371 : (.selects "DesignTextsModel" ⟨"DesignTextsModel", "take", "(I)V"⟩ ⟨"DesignTextsModel", "take", "(I)V"⟩ : Cond) ∈ am_WT := am_inWT (i := 44) (by decide +kernel) (by decide +kernel)
theorem wt_372 : (.fieldLink "DesignTextsModel" 46 "DesignTextsModel" "newCounts" "[I" : Cond) ∈ am_WT := am_inWT (i := 684) (by decide +kernel) (by decide +kernel)
theorem wt_373 : (.fieldLink "DesignTextsModel" 55 "DesignTextsModel" "newNexts" "[I" : Cond) ∈ am_WT := am_inWT (i := 687) (by decide +kernel) (by decide +kernel)
theorem wt_374 : (.fieldLink "DesignTextsModel" 58 "DesignTextsModel" "newBegins" "[I" : Cond) ∈ am_WT := am_inWT (i := 688) (by decide +kernel) (by decide +kernel)
theorem wt_375 : (.fieldLink "DesignTextsModel" 49 "DesignTextsModel" "newInputs" "[I" : Cond) ∈ am_WT := am_inWT (i := 685) (by decide +kernel) (by decide +kernel)
theorem wt_376 : (.methodLink "DesignTextsModel" 142 ⟨"DesignTextsModel", "define", "()I"⟩ : Cond) ∈ am_WT := am_inWT (i := 831) (by decide +kernel) (by decide +kernel)
theorem wt_377 : (.instanceMethod ⟨"DesignTextsModel", "define", "()I"⟩ : Cond) ∈ am_WT := am_inWT (i := 833) (by decide +kernel) (by decide +kernel)
theorem wt_378 : (.selects "DesignTextsModel" ⟨"DesignTextsModel", "define", "()I"⟩ ⟨"DesignTextsModel", "define", "()I"⟩ : Cond) ∈ am_WT := am_inWT (i := 53) (by decide +kernel) (by decide +kernel)
theorem wt_379 : (.fieldLink "DesignTextsModel" 52 "DesignTextsModel" "newLatches" "[I" : Cond) ∈ am_WT := am_inWT (i := 686) (by decide +kernel) (by decide +kernel)
theorem wt_380 : (.methodLink "DesignTextsModel" 146 ⟨"DesignTextsModel", "latchRest", "(I)V"⟩ : Cond) ∈ am_WT := am_inWT (i := 815) (by decide +kernel) (by decide +kernel)
theorem wt_381 : (.instanceMethod ⟨"DesignTextsModel", "latchRest", "(I)V"⟩ : Cond) ∈ am_WT := am_inWT (i := 817) (by decide +kernel) (by decide +kernel)
theorem wt_382 : (.selects "DesignTextsModel" ⟨"DesignTextsModel", "latchRest", "(I)V"⟩ ⟨"DesignTextsModel", "latchRest", "(I)V"⟩ : Cond) ∈ am_WT := am_inWT (i := 49) (by decide +kernel) (by decide +kernel)
theorem wt_383 : (.fieldLink "DesignTextsModel" 61 "DesignTextsModel" "newOutputs" "[I" : Cond) ∈ am_WT := am_inWT (i := 689) (by decide +kernel) (by decide +kernel)
theorem wt_384 : (.fieldLink "DesignTextsModel" 64 "DesignTextsModel" "newGates" "[I" : Cond) ∈ am_WT := am_inWT (i := 690) (by decide +kernel) (by decide +kernel)
theorem wt_385 : (.fieldLink "DesignTextsModel" 73 "DesignTextsModel" "gatePlaces" "[I" : Cond) ∈ am_WT := am_inWT (i := 693) (by decide +kernel) (by decide +kernel)
theorem wt_386 : (.fieldLink "DesignTextsModel" 67 "DesignTextsModel" "newLefts" "[I" : Cond) ∈ am_WT := am_inWT (i := 691) (by decide +kernel) (by decide +kernel)
theorem wt_387 : (.fieldLink "DesignTextsModel" 70 "DesignTextsModel" "newRights" "[I" : Cond) ∈ am_WT := am_inWT (i := 692) (by decide +kernel) (by decide +kernel)
theorem wt_388 : (.methodLink "DesignTextsModel" 149 ⟨"DesignTextsModel", "difference", "(II)I"⟩ : Cond) ∈ am_WT := am_inWT (i := 823) (by decide +kernel) (by decide +kernel)
theorem wt_389 : (.instanceMethod ⟨"DesignTextsModel", "difference", "(II)I"⟩ : Cond) ∈ am_WT := am_inWT (i := 825) (by decide +kernel) (by decide +kernel)
theorem wt_390 : (.selects "DesignTextsModel" ⟨"DesignTextsModel", "difference", "(II)I"⟩ ⟨"DesignTextsModel", "difference", "(II)I"⟩ : Cond) ∈ am_WT := am_inWT (i := 51) (by decide +kernel) (by decide +kernel)
theorem wt_391 : (.fieldLink "DesignTextsModel" 86 "DesignTextsModel" "rests" "[Z" : Cond) ∈ am_WT := am_inWT (i := 698) (by decide +kernel) (by decide +kernel)
theorem wt_392 : (.methodLink "DesignTextsModel" 153 ⟨"DesignTextsModel", "gateOf", "(I)I"⟩ : Cond) ∈ am_WT := am_inWT (i := 843) (by decide +kernel) (by decide +kernel)
theorem wt_393 : (.instanceMethod ⟨"DesignTextsModel", "gateOf", "(I)I"⟩ : Cond) ∈ am_WT := am_inWT (i := 845) (by decide +kernel) (by decide +kernel)
theorem wt_394 : (.selects "DesignTextsModel" ⟨"DesignTextsModel", "gateOf", "(I)I"⟩ ⟨"DesignTextsModel", "gateOf", "(I)I"⟩ : Cond) ∈ am_WT := am_inWT (i := 56) (by decide +kernel) (by decide +kernel)
theorem wt_395 : (.methodLink "DesignTextsModel" 156 ⟨"DesignTextsModel", "header", "(Z)V"⟩ : Cond) ∈ am_WT := am_inWT (i := 791) (by decide +kernel) (by decide +kernel)
theorem wt_396 : (.instanceMethod ⟨"DesignTextsModel", "header", "(Z)V"⟩ : Cond) ∈ am_WT := am_inWT (i := 793) (by decide +kernel) (by decide +kernel)
theorem wt_397 : (.selects "DesignTextsModel" ⟨"DesignTextsModel", "header", "(Z)V"⟩ ⟨"DesignTextsModel", "header", "(Z)V"⟩ : Cond) ∈ am_WT := am_inWT (i := 43) (by decide +kernel) (by decide +kernel)
theorem wt_398 : (.methodLink "DesignTextsModel" 160 ⟨"DesignTextsModel", "packedBody", "()V"⟩ : Cond) ∈ am_WT := am_inWT (i := 811) (by decide +kernel) (by decide +kernel)
theorem wt_399 : (.instanceMethod ⟨"DesignTextsModel", "packedBody", "()V"⟩ : Cond) ∈ am_WT := am_inWT (i := 813) (by decide +kernel) (by decide +kernel)
theorem wt_400 : (.selects "DesignTextsModel" ⟨"DesignTextsModel", "packedBody", "()V"⟩ ⟨"DesignTextsModel", "packedBody", "()V"⟩ : Cond) ∈ am_WT := am_inWT (i := 48) (by decide +kernel) (by decide +kernel)
theorem wt_401 : (.methodLink "DesignTextsModel" 163 ⟨"DesignTextsModel", "plainBody", "()V"⟩ : Cond) ∈ am_WT := am_inWT (i := 827) (by decide +kernel) (by decide +kernel)
theorem wt_402 : (.instanceMethod ⟨"DesignTextsModel", "plainBody", "()V"⟩ : Cond) ∈ am_WT := am_inWT (i := 829) (by decide +kernel) (by decide +kernel)
theorem wt_403 : (.selects "DesignTextsModel" ⟨"DesignTextsModel", "plainBody", "()V"⟩ ⟨"DesignTextsModel", "plainBody", "()V"⟩ : Cond) ∈ am_WT := am_inWT (i := 52) (by decide +kernel) (by decide +kernel)
theorem wt_404 : (.methodLink "DesignTextsModel" 166 ⟨"DesignTextsModel", "findUndefined", "()V"⟩ : Cond) ∈ am_WT := am_inWT (i := 835) (by decide +kernel) (by decide +kernel)
theorem wt_405 : (.instanceMethod ⟨"DesignTextsModel", "findUndefined", "()V"⟩ : Cond) ∈ am_WT := am_inWT (i := 837) (by decide +kernel) (by decide +kernel)
theorem wt_406 : (.selects "DesignTextsModel" ⟨"DesignTextsModel", "findUndefined", "()V"⟩ ⟨"DesignTextsModel", "findUndefined", "()V"⟩ : Cond) ∈ am_WT := am_inWT (i := 54) (by decide +kernel) (by decide +kernel)
theorem wt_407 : (.methodLink "DesignTextsModel" 169 ⟨"DesignTextsModel", "findResting", "()V"⟩ : Cond) ∈ am_WT := am_inWT (i := 839) (by decide +kernel) (by decide +kernel)
theorem wt_408 : (.instanceMethod ⟨"DesignTextsModel", "findResting", "()V"⟩ : Cond) ∈ am_WT := am_inWT (i := 841) (by decide +kernel) (by decide +kernel)
theorem wt_409 : (.selects "DesignTextsModel" ⟨"DesignTextsModel", "findResting", "()V"⟩ ⟨"DesignTextsModel", "findResting", "()V"⟩ : Cond) ∈ am_WT := am_inWT (i := 55) (by decide +kernel) (by decide +kernel)
theorem wt_410 : (.methodLink "DesignTextsModel" 172 ⟨"DesignTextsModel", "takeOver", "()V"⟩ : Cond) ∈ am_WT := am_inWT (i := 847) (by decide +kernel) (by decide +kernel)
theorem wt_411 : (.instanceMethod ⟨"DesignTextsModel", "takeOver", "()V"⟩ : Cond) ∈ am_WT := am_inWT (i := 849) (by decide +kernel) (by decide +kernel)
theorem wt_412 : (.selects "DesignTextsModel" ⟨"DesignTextsModel", "takeOver", "()V"⟩ ⟨"DesignTextsModel", "takeOver", "()V"⟩ : Cond) ∈ am_WT := am_inWT (i := 57) (by decide +kernel) (by decide +kernel)
theorem wt_413 : (.fieldLink "DesignTextsModel" 175 "DesignTextsModel" "most" "I" : Cond) ∈ am_WT := am_inWT (i := 667) (by decide +kernel) (by decide +kernel)
theorem wt_414 : (.fieldLink "DesignTextsModel" 13 "DesignTextsModel" "counts" "[I" : Cond) ∈ am_WT := am_inWT (i := 668) (by decide +kernel) (by decide +kernel)
theorem wt_415 : (.fieldLink "DesignTextsModel" 16 "DesignTextsModel" "inputs" "[I" : Cond) ∈ am_WT := am_inWT (i := 669) (by decide +kernel) (by decide +kernel)
theorem wt_416 : (.fieldLink "DesignTextsModel" 19 "DesignTextsModel" "latches" "[I" : Cond) ∈ am_WT := am_inWT (i := 670) (by decide +kernel) (by decide +kernel)
theorem wt_417 : (.fieldLink "DesignTextsModel" 22 "DesignTextsModel" "nexts" "[I" : Cond) ∈ am_WT := am_inWT (i := 671) (by decide +kernel) (by decide +kernel)
theorem wt_418 : (.fieldLink "DesignTextsModel" 25 "DesignTextsModel" "begins" "[I" : Cond) ∈ am_WT := am_inWT (i := 672) (by decide +kernel) (by decide +kernel)
theorem wt_419 : (.fieldLink "DesignTextsModel" 28 "DesignTextsModel" "outputs" "[I" : Cond) ∈ am_WT := am_inWT (i := 673) (by decide +kernel) (by decide +kernel)
theorem wt_420 : (.fieldLink "DesignTextsModel" 31 "DesignTextsModel" "gates" "[I" : Cond) ∈ am_WT := am_inWT (i := 674) (by decide +kernel) (by decide +kernel)
theorem wt_421 : (.fieldLink "DesignTextsModel" 34 "DesignTextsModel" "lefts" "[I" : Cond) ∈ am_WT := am_inWT (i := 675) (by decide +kernel) (by decide +kernel)
theorem wt_422 : (.fieldLink "DesignTextsModel" 37 "DesignTextsModel" "rights" "[I" : Cond) ∈ am_WT := am_inWT (i := 676) (by decide +kernel) (by decide +kernel)
theorem wt_423 : (.methodLink "DesignTextsModel" 178 ⟨"DesignTextsModel", "reset", "()V"⟩ : Cond) ∈ am_WT := am_inWT (i := 851) (by decide +kernel) (by decide +kernel)
theorem wt_424 : (.instanceMethod ⟨"DesignTextsModel", "reset", "()V"⟩ : Cond) ∈ am_WT := am_inWT (i := 852) (by decide +kernel) (by decide +kernel)
theorem wt_425 : (.selects "DesignTextsModel" ⟨"DesignTextsModel", "reset", "()V"⟩ ⟨"DesignTextsModel", "reset", "()V"⟩ : Cond) ∈ am_WT := am_inWT (i := 853) (by decide +kernel) (by decide +kernel)
theorem wt_426 : (.methodLink "DesignTextsModel" 181 ⟨"DesignTextsModel", "isOrdered", "()Z"⟩ : Cond) ∈ am_WT := am_inWT (i := 859) (by decide +kernel) (by decide +kernel)
theorem wt_427 : (.instanceMethod ⟨"DesignTextsModel", "isOrdered", "()Z"⟩ : Cond) ∈ am_WT := am_inWT (i := 861) (by decide +kernel) (by decide +kernel)
theorem wt_428 : (.selects "DesignTextsModel" ⟨"DesignTextsModel", "isOrdered", "()Z"⟩ ⟨"DesignTextsModel", "isOrdered", "()Z"⟩ : Cond) ∈ am_WT := am_inWT (i := 58) (by decide +kernel) (by decide +kernel)
theorem wt_429 : (.fieldLink "DesignTextsModel" 92 "DesignTextsModel" "numbers" "[I" : Cond) ∈ am_WT := am_inWT (i := 700) (by decide +kernel) (by decide +kernel)
theorem wt_430 : (.fieldLink "DesignTextsModel" 95 "DesignTextsModel" "turn" "[I" : Cond) ∈ am_WT := am_inWT (i := 701) (by decide +kernel) (by decide +kernel)
theorem wt_431 : (.methodLink "DesignTextsModel" 185 ⟨"DesignTextsModel", "ready", "()I"⟩ : Cond) ∈ am_WT := am_inWT (i := 871) (by decide +kernel) (by decide +kernel)
theorem wt_432 : (.instanceMethod ⟨"DesignTextsModel", "ready", "()I"⟩ : Cond) ∈ am_WT := am_inWT (i := 873) (by decide +kernel) (by decide +kernel)
theorem wt_433 : (.selects "DesignTextsModel" ⟨"DesignTextsModel", "ready", "()I"⟩ ⟨"DesignTextsModel", "ready", "()I"⟩ : Cond) ∈ am_WT := am_inWT (i := 59) (by decide +kernel) (by decide +kernel)
theorem wt_434 : (.methodLink "DesignTextsModel" 188 ⟨"DesignTextsModel", "anew", "(I)I"⟩ : Cond) ∈ am_WT := am_inWT (i := 875) (by decide +kernel) (by decide +kernel)
theorem wt_435 : (.instanceMethod ⟨"DesignTextsModel", "anew", "(I)I"⟩ : Cond) ∈ am_WT := am_inWT (i := 877) (by decide +kernel) (by decide +kernel)
theorem wt_436 : (.selects "DesignTextsModel" ⟨"DesignTextsModel", "anew", "(I)I"⟩ ⟨"DesignTextsModel", "anew", "(I)I"⟩ : Cond) ∈ am_WT := am_inWT (i := 60) (by decide +kernel) (by decide +kernel)
theorem wt_437 : (.fieldLink "DesignTextsModel" 43 "DesignTextsModel" "out" "[I" : Cond) ∈ am_WT := am_inWT (i := 678) (by decide +kernel) (by decide +kernel)
theorem wt_438 : (.fieldLink "DesignTextsModel" 191 "DesignTextsModel" "outSize" "I" : Cond) ∈ am_WT := am_inWT (i := 679) (by decide +kernel) (by decide +kernel)
theorem wt_439 : (.methodLink "DesignTextsModel" 194 ⟨"DesignTextsModel", "add", "(I)V"⟩ : Cond) ∈ am_WT := am_inWT (i := 883) (by decide +kernel) (by decide +kernel)
theorem wt_440 : (.instanceMethod ⟨"DesignTextsModel", "add", "(I)V"⟩ : Cond) ∈ am_WT := am_inWT (i := 885) (by decide +kernel) (by decide +kernel)
theorem wt_441 : (.selects "DesignTextsModel" ⟨"DesignTextsModel", "add", "(I)V"⟩ ⟨"DesignTextsModel", "add", "(I)V"⟩ : Cond) ∈ am_WT := am_inWT (i := 61) (by decide +kernel) (by decide +kernel)
theorem wt_442 : (.methodLink "DesignTextsModel" 197 ⟨"DesignTextsModel", "addNumber", "(I)V"⟩ : Cond) ∈ am_WT := am_inWT (i := 887) (by decide +kernel) (by decide +kernel)
theorem wt_443 : (.instanceMethod ⟨"DesignTextsModel", "addNumber", "(I)V"⟩ : Cond) ∈ am_WT := am_inWT (i := 889) (by decide +kernel) (by decide +kernel)
theorem wt_444 : (.selects "DesignTextsModel" ⟨"DesignTextsModel", "addNumber", "(I)V"⟩ ⟨"DesignTextsModel", "addNumber", "(I)V"⟩ : Cond) ∈ am_WT := am_inWT (i := 62) (by decide +kernel) (by decide +kernel)
theorem wt_445 : (.methodLink "DesignTextsModel" 200 ⟨"DesignTextsModel", "addNext", "(I)V"⟩ : Cond) ∈ am_WT := am_inWT (i := 891) (by decide +kernel) (by decide +kernel)
theorem wt_446 : (.instanceMethod ⟨"DesignTextsModel", "addNext", "(I)V"⟩ : Cond) ∈ am_WT := am_inWT (i := 893) (by decide +kernel) (by decide +kernel)
theorem wt_447 : (.selects "DesignTextsModel" ⟨"DesignTextsModel", "addNext", "(I)V"⟩ ⟨"DesignTextsModel", "addNext", "(I)V"⟩ : Cond) ∈ am_WT := am_inWT (i := 63) (by decide +kernel) (by decide +kernel)
theorem wt_448 : (.methodLink "DesignTextsModel" 203 ⟨"DesignTextsModel", "addDifference", "(I)V"⟩ : Cond) ∈ am_WT := am_inWT (i := 895) (by decide +kernel) (by decide +kernel)
theorem wt_449 : (.instanceMethod ⟨"DesignTextsModel", "addDifference", "(I)V"⟩ : Cond) ∈ am_WT := am_inWT (i := 897) (by decide +kernel) (by decide +kernel)
theorem wt_450 : (.selects "DesignTextsModel" ⟨"DesignTextsModel", "addDifference", "(I)V"⟩ ⟨"DesignTextsModel", "addDifference", "(I)V"⟩ : Cond) ∈ am_WT := am_inWT (i := 64) (by decide +kernel) (by decide +kernel)
theorem wt_451 : (.fieldLink "DesignTextsModel" 40 "DesignTextsModel" "now" "[I" : Cond) ∈ am_WT := am_inWT (i := 677) (by decide +kernel) (by decide +kernel)
theorem wt_452 : (.fieldLink "DesignTextsModel" 89 "DesignTextsModel" "values" "[I" : Cond) ∈ am_WT := am_inWT (i := 699) (by decide +kernel) (by decide +kernel)
theorem wt_453 : (.methodLink "DesignTextsModel" 206 ⟨"DesignTextsModel", "valueOf", "(I)I"⟩ : Cond) ∈ am_WT := am_inWT (i := 908) (by decide +kernel) (by decide +kernel)
theorem wt_454 : (.instanceMethod ⟨"DesignTextsModel", "valueOf", "(I)I"⟩ : Cond) ∈ am_WT := am_inWT (i := 910) (by decide +kernel) (by decide +kernel)
theorem wt_455 : (.selects "DesignTextsModel" ⟨"DesignTextsModel", "valueOf", "(I)I"⟩ ⟨"DesignTextsModel", "valueOf", "(I)I"⟩ : Cond) ∈ am_WT := am_inWT (i := 65) (by decide +kernel) (by decide +kernel)
theorem wt_456 : (.methodLink "DesignTextsLaw" 7 ⟨"DesignTexts", "put", "(II)I"⟩ : Cond) ∈ am_WT := am_inWT (i := 446) (by decide +kernel) (by decide +kernel)
theorem wt_457 : (.instanceMethod ⟨"DesignTexts", "put", "(II)I"⟩ : Cond) ∈ am_WT := am_inWT (i := 447) (by decide +kernel) (by decide +kernel)
theorem wt_458 : (.selects "DesignTexts" ⟨"DesignTexts", "put", "(II)I"⟩ ⟨"DesignTexts", "put", "(II)I"⟩ : Cond) ∈ am_WT := am_inWT (i := 448) (by decide +kernel) (by decide +kernel)
theorem wt_459 : (.classLink "DesignTextsLaw" 13 "java/lang/IllegalArgumentException" : Cond) ∈ am_WT := am_inWT (i := 444) (by decide +kernel) (by decide +kernel)
theorem wt_460 : (.classLink "DesignTextsLaw" 15 "java/lang/UnsupportedOperationException" : Cond) ∈ am_WT := am_inWT (i := 445) (by decide +kernel) (by decide +kernel)
theorem wt_461 : (.methodLink "DesignTextsLaw" 17 ⟨"DesignTexts", "has", "(II)I"⟩ : Cond) ∈ am_WT := am_inWT (i := 543) (by decide +kernel) (by decide +kernel)
theorem wt_462 : (.instanceMethod ⟨"DesignTexts", "has", "(II)I"⟩ : Cond) ∈ am_WT := am_inWT (i := 544) (by decide +kernel) (by decide +kernel)
theorem wt_463 : (.selects "DesignTexts" ⟨"DesignTexts", "has", "(II)I"⟩ ⟨"DesignTexts", "has", "(II)I"⟩ : Cond) ∈ am_WT := am_inWT (i := 545) (by decide +kernel) (by decide +kernel)
theorem wt_464 : (.classLink "DesignTextsLaw" 20 "java/util/NoSuchElementException" : Cond) ∈ am_WT := am_inWT (i := 542) (by decide +kernel) (by decide +kernel)
theorem wt_465 : (.methodLink "DesignTextsLaw" 22 ⟨"DesignTexts", "write", "(I)I"⟩ : Cond) ∈ am_WT := am_inWT (i := 573) (by decide +kernel) (by decide +kernel)
theorem wt_466 : (.instanceMethod ⟨"DesignTexts", "write", "(I)I"⟩ : Cond) ∈ am_WT := am_inWT (i := 574) (by decide +kernel) (by decide +kernel)
theorem wt_467 : (.selects "DesignTexts" ⟨"DesignTexts", "write", "(I)I"⟩ ⟨"DesignTexts", "write", "(I)I"⟩ : Cond) ∈ am_WT := am_inWT (i := 575) (by decide +kernel) (by decide +kernel)
theorem wt_468 : (.classLink "DesignTextsLaw" 26 "java/lang/IllegalStateException" : Cond) ∈ am_WT := am_inWT (i := 572) (by decide +kernel) (by decide +kernel)
theorem wt_469 : (.methodLink "DesignTextsLaw" 28 ⟨"DesignTexts", "written", "(I)I"⟩ : Cond) ∈ am_WT := am_inWT (i := 637) (by decide +kernel) (by decide +kernel)
theorem wt_470 : (.instanceMethod ⟨"DesignTexts", "written", "(I)I"⟩ : Cond) ∈ am_WT := am_inWT (i := 638) (by decide +kernel) (by decide +kernel)
theorem wt_471 : (.selects "DesignTexts" ⟨"DesignTexts", "written", "(I)I"⟩ ⟨"DesignTexts", "written", "(I)I"⟩ : Cond) ∈ am_WT := am_inWT (i := 639) (by decide +kernel) (by decide +kernel)
theorem wt_472 : (.classLink "DesignTextsLaw" 31 "java/lang/IndexOutOfBoundsException" : Cond) ∈ am_WT := am_inWT (i := 636) (by decide +kernel) (by decide +kernel)
