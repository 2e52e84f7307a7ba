theorem am_hR (d : Nat) {k : Nat} (hk : k ≤ 21) : (am_rm d).frames + 1 ≤ (am_rm (d + 1)).frames ∧ 8 + (k + 11) + (am_rm d).locals ≤ (am_rm (d + 1)).locals := by
  simp only [am_rm]
  omega
theorem am_hR1 (d : Nat) : 1 ≤ (am_rm (d + 1)).frames ∧ 21 ≤ (am_rm (d + 1)).locals := by
  simp only [am_rm]
  omega
theorem cc_B_size {l : Launch} {D : va_G} {ρ : Nat → Nat} {kc : Nat → ClassId} {len d : Nat} (hinj : am_inj ρ len) (ih : ∀ (id : Nat) (y : MethodName) (ws : List Cond), cPI[id]? = some (y, ws) → am_Ce l (am_run cPT cML d) (am_rm d) D aCl ρ kc am_fts len id y ws) : am_Ce l (am_run cPT cML (d + 1)) (am_rm (d + 1)) D aCl ρ kc am_fts len 0 ⟨"DesignTexts$Bytes", "size", "()I"⟩ cw_B_size := by
  intro av h r sz hrun hlen
  obtain ⟨hb, he⟩ := am_run_some hrun
  exact am_met (cc := prog_2_method_2_code) (maxL := 1) (ret := (some .int)) (by decide) rfl hinj (am_hR1 d) (Nat.le_of_ble_eq_true hb) (fun p e s m args below meth c Qc C hr => sd_B_size C hr ih ⟨rfl, rfl⟩ (fun hk => am_hR d hk)) he hlen
theorem cc_B_clear {l : Launch} {D : va_G} {ρ : Nat → Nat} {kc : Nat → ClassId} {len d : Nat} (hinj : am_inj ρ len) (ih : ∀ (id : Nat) (y : MethodName) (ws : List Cond), cPI[id]? = some (y, ws) → am_Ce l (am_run cPT cML d) (am_rm d) D aCl ρ kc am_fts len id y ws) : am_Ce l (am_run cPT cML (d + 1)) (am_rm (d + 1)) D aCl ρ kc am_fts len 1 ⟨"DesignTexts$Bytes", "clear", "()V"⟩ cw_B_clear := by
  intro av h r sz hrun hlen
  obtain ⟨hb, he⟩ := am_run_some hrun
  exact am_met (cc := prog_2_method_3_code) (maxL := 1) (ret := none) (by decide) rfl hinj (am_hR1 d) (Nat.le_of_ble_eq_true hb) (fun p e s m args below meth c Qc C hr => sd_B_clear C hr ih ⟨rfl, rfl⟩ (fun hk => am_hR d hk)) he hlen
theorem cc_B_add {l : Launch} {D : va_G} {ρ : Nat → Nat} {kc : Nat → ClassId} {len d : Nat} (hinj : am_inj ρ len) (ih : ∀ (id : Nat) (y : MethodName) (ws : List Cond), cPI[id]? = some (y, ws) → am_Ce l (am_run cPT cML d) (am_rm d) D aCl ρ kc am_fts len id y ws) : am_Ce l (am_run cPT cML (d + 1)) (am_rm (d + 1)) D aCl ρ kc am_fts len 2 ⟨"DesignTexts$Bytes", "add", "(I)V"⟩ cw_B_add := by
  intro av h r sz hrun hlen
  obtain ⟨hb, he⟩ := am_run_some hrun
  exact am_met (cc := prog_2_method_4_code) (maxL := 2) (ret := none) (by decide) rfl hinj (am_hR1 d) (Nat.le_of_ble_eq_true hb) (fun p e s m args below meth c Qc C hr => sd_B_add C hr ih ⟨rfl, rfl⟩ (fun hk => am_hR d hk)) he hlen
theorem cc_B_at {l : Launch} {D : va_G} {ρ : Nat → Nat} {kc : Nat → ClassId} {len d : Nat} (hinj : am_inj ρ len) (ih : ∀ (id : Nat) (y : MethodName) (ws : List Cond), cPI[id]? = some (y, ws) → am_Ce l (am_run cPT cML d) (am_rm d) D aCl ρ kc am_fts len id y ws) : am_Ce l (am_run cPT cML (d + 1)) (am_rm (d + 1)) D aCl ρ kc am_fts len 3 ⟨"DesignTexts$Bytes", "at", "(I)I"⟩ cw_B_at := by
  intro av h r sz hrun hlen
  obtain ⟨hb, he⟩ := am_run_some hrun
  exact am_met (cc := prog_2_method_5_code) (maxL := 2) (ret := (some .int)) (by decide) rfl hinj (am_hR1 d) (Nat.le_of_ble_eq_true hb) (fun p e s m args below meth c Qc C hr => sd_B_at C hr ih ⟨rfl, rfl⟩ (fun hk => am_hR d hk)) he hlen
theorem cc_D_most {l : Launch} {D : va_G} {ρ : Nat → Nat} {kc : Nat → ClassId} {len d : Nat} (hinj : am_inj ρ len) (ih : ∀ (id : Nat) (y : MethodName) (ws : List Cond), cPI[id]? = some (y, ws) → am_Ce l (am_run cPT cML d) (am_rm d) D aCl ρ kc am_fts len id y ws) : am_Ce l (am_run cPT cML (d + 1)) (am_rm (d + 1)) D aCl ρ kc am_fts len 4 ⟨"DesignTexts$Design", "most", "()I"⟩ cw_D_most := by
  intro av h r sz hrun hlen
  obtain ⟨hb, he⟩ := am_run_some hrun
  exact am_met (cc := prog_3_method_2_code) (maxL := 1) (ret := (some .int)) (by decide) rfl hinj (am_hR1 d) (Nat.le_of_ble_eq_true hb) (fun p e s m args below meth c Qc C hr => sd_D_most C hr ih ⟨rfl, rfl⟩ (fun hk => am_hR d hk)) he hlen
theorem cc_D_setMost {l : Launch} {D : va_G} {ρ : Nat → Nat} {kc : Nat → ClassId} {len d : Nat} (hinj : am_inj ρ len) (ih : ∀ (id : Nat) (y : MethodName) (ws : List Cond), cPI[id]? = some (y, ws) → am_Ce l (am_run cPT cML d) (am_rm d) D aCl ρ kc am_fts len id y ws) : am_Ce l (am_run cPT cML (d + 1)) (am_rm (d + 1)) D aCl ρ kc am_fts len 5 ⟨"DesignTexts$Design", "setMost", "(I)V"⟩ cw_D_setMost := by
  intro av h r sz hrun hlen
  obtain ⟨hb, he⟩ := am_run_some hrun
  exact am_met (cc := prog_3_method_3_code) (maxL := 2) (ret := none) (by decide) rfl hinj (am_hR1 d) (Nat.le_of_ble_eq_true hb) (fun p e s m args below meth c Qc C hr => sd_D_setMost C hr ih ⟨rfl, rfl⟩ (fun hk => am_hR d hk)) he hlen
theorem cc_D_latchBits {l : Launch} {D : va_G} {ρ : Nat → Nat} {kc : Nat → ClassId} {len d : Nat} (hinj : am_inj ρ len) (ih : ∀ (id : Nat) (y : MethodName) (ws : List Cond), cPI[id]? = some (y, ws) → am_Ce l (am_run cPT cML d) (am_rm d) D aCl ρ kc am_fts len id y ws) : am_Ce l (am_run cPT cML (d + 1)) (am_rm (d + 1)) D aCl ρ kc am_fts len 6 ⟨"DesignTexts$Design", "latchBits", "()I"⟩ cw_D_latchBits := by
  intro av h r sz hrun hlen
  obtain ⟨hb, he⟩ := am_run_some hrun
  exact am_met (cc := prog_3_method_4_code) (maxL := 1) (ret := (some .int)) (by decide) rfl hinj (am_hR1 d) (Nat.le_of_ble_eq_true hb) (fun p e s m args below meth c Qc C hr => sd_D_latchBits C hr ih ⟨rfl, rfl⟩ (fun hk => am_hR d hk)) he hlen
theorem cc_D_many {l : Launch} {D : va_G} {ρ : Nat → Nat} {kc : Nat → ClassId} {len d : Nat} (hinj : am_inj ρ len) (ih : ∀ (id : Nat) (y : MethodName) (ws : List Cond), cPI[id]? = some (y, ws) → am_Ce l (am_run cPT cML d) (am_rm d) D aCl ρ kc am_fts len id y ws) : am_Ce l (am_run cPT cML (d + 1)) (am_rm (d + 1)) D aCl ρ kc am_fts len 7 ⟨"DesignTexts$Design", "many", "(I)I"⟩ cw_D_many := by
  intro av h r sz hrun hlen
  obtain ⟨hb, he⟩ := am_run_some hrun
  exact am_met (cc := prog_3_method_5_code) (maxL := 2) (ret := (some .int)) (by decide) rfl hinj (am_hR1 d) (Nat.le_of_ble_eq_true hb) (fun p e s m args below meth c Qc C hr => sd_D_many C hr ih ⟨rfl, rfl⟩ (fun hk => am_hR d hk)) he hlen
theorem cc_D_setMany {l : Launch} {D : va_G} {ρ : Nat → Nat} {kc : Nat → ClassId} {len d : Nat} (hinj : am_inj ρ len) (ih : ∀ (id : Nat) (y : MethodName) (ws : List Cond), cPI[id]? = some (y, ws) → am_Ce l (am_run cPT cML d) (am_rm d) D aCl ρ kc am_fts len id y ws) : am_Ce l (am_run cPT cML (d + 1)) (am_rm (d + 1)) D aCl ρ kc am_fts len 8 ⟨"DesignTexts$Design", "setMany", "(II)V"⟩ cw_D_setMany := by
  intro av h r sz hrun hlen
  obtain ⟨hb, he⟩ := am_run_some hrun
  exact am_met (cc := prog_3_method_6_code) (maxL := 3) (ret := none) (by decide) rfl hinj (am_hR1 d) (Nat.le_of_ble_eq_true hb) (fun p e s m args below meth c Qc C hr => sd_D_setMany C hr ih ⟨rfl, rfl⟩ (fun hk => am_hR d hk)) he hlen
theorem cc_D_holds {l : Launch} {D : va_G} {ρ : Nat → Nat} {kc : Nat → ClassId} {len d : Nat} (hinj : am_inj ρ len) (ih : ∀ (id : Nat) (y : MethodName) (ws : List Cond), cPI[id]? = some (y, ws) → am_Ce l (am_run cPT cML d) (am_rm d) D aCl ρ kc am_fts len id y ws) : am_Ce l (am_run cPT cML (d + 1)) (am_rm (d + 1)) D aCl ρ kc am_fts len 9 ⟨"DesignTexts$Design", "holds", "(II)Z"⟩ cw_D_holds := by
  intro av h r sz hrun hlen
  obtain ⟨hb, he⟩ := am_run_some hrun
  exact am_met (cc := prog_3_method_7_code) (maxL := 3) (ret := (some .boolean)) (by decide) rfl hinj (am_hR1 d) (Nat.le_of_ble_eq_true hb) (fun p e s m args below meth c Qc C hr => sd_D_holds C hr ih ⟨rfl, rfl⟩ (fun hk => am_hR d hk)) he hlen
theorem cc_D_get {l : Launch} {D : va_G} {ρ : Nat → Nat} {kc : Nat → ClassId} {len d : Nat} (hinj : am_inj ρ len) (ih : ∀ (id : Nat) (y : MethodName) (ws : List Cond), cPI[id]? = some (y, ws) → am_Ce l (am_run cPT cML d) (am_rm d) D aCl ρ kc am_fts len id y ws) : am_Ce l (am_run cPT cML (d + 1)) (am_rm (d + 1)) D aCl ρ kc am_fts len 10 ⟨"DesignTexts$Design", "get", "(II)I"⟩ cw_D_get := by
  intro av h r sz hrun hlen
  obtain ⟨hb, he⟩ := am_run_some hrun
  exact am_met (cc := prog_3_method_8_code) (maxL := 3) (ret := (some .int)) (by decide) rfl hinj (am_hR1 d) (Nat.le_of_ble_eq_true hb) (fun p e s m args below meth c Qc C hr => sd_D_get C hr ih ⟨rfl, rfl⟩ (fun hk => am_hR d hk)) he hlen
theorem cc_D_set {l : Launch} {D : va_G} {ρ : Nat → Nat} {kc : Nat → ClassId} {len d : Nat} (hinj : am_inj ρ len) (ih : ∀ (id : Nat) (y : MethodName) (ws : List Cond), cPI[id]? = some (y, ws) → am_Ce l (am_run cPT cML d) (am_rm d) D aCl ρ kc am_fts len id y ws) : am_Ce l (am_run cPT cML (d + 1)) (am_rm (d + 1)) D aCl ρ kc am_fts len 11 ⟨"DesignTexts$Design", "set", "(III)V"⟩ cw_D_set := by
  intro av h r sz hrun hlen
  obtain ⟨hb, he⟩ := am_run_some hrun
  exact am_met (cc := prog_3_method_9_code) (maxL := 4) (ret := none) (by decide) rfl hinj (am_hR1 d) (Nat.le_of_ble_eq_true hb) (fun p e s m args below meth c Qc C hr => sd_D_set C hr ih ⟨rfl, rfl⟩ (fun hk => am_hR d hk)) he hlen
theorem cc_D_restart {l : Launch} {D : va_G} {ρ : Nat → Nat} {kc : Nat → ClassId} {len d : Nat} (hinj : am_inj ρ len) (ih : ∀ (id : Nat) (y : MethodName) (ws : List Cond), cPI[id]? = some (y, ws) → am_Ce l (am_run cPT cML d) (am_rm d) D aCl ρ kc am_fts len id y ws) : am_Ce l (am_run cPT cML (d + 1)) (am_rm (d + 1)) D aCl ρ kc am_fts len 12 ⟨"DesignTexts$Design", "restart", "()V"⟩ cw_D_restart := by
  intro av h r sz hrun hlen
  obtain ⟨hb, he⟩ := am_run_some hrun
  exact am_met (cc := prog_3_method_10_code) (maxL := 3) (ret := none) (by decide) rfl hinj (am_hR1 d) (Nat.le_of_ble_eq_true hb) (fun p e s m args below meth c Qc C hr => sd_D_restart C hr ih ⟨rfl, rfl⟩ (fun hk => am_hR d hk)) he hlen
theorem cc_D_inOrder {l : Launch} {D : va_G} {ρ : Nat → Nat} {kc : Nat → ClassId} {len d : Nat} (hinj : am_inj ρ len) (ih : ∀ (id : Nat) (y : MethodName) (ws : List Cond), cPI[id]? = some (y, ws) → am_Ce l (am_run cPT cML d) (am_rm d) D aCl ρ kc am_fts len id y ws) : am_Ce l (am_run cPT cML (d + 1)) (am_rm (d + 1)) D aCl ρ kc am_fts len 13 ⟨"DesignTexts$Design", "inOrder", "()Z"⟩ cw_D_inOrder := by
  intro av h r sz hrun hlen
  obtain ⟨hb, he⟩ := am_run_some hrun
  exact am_met (cc := prog_3_method_11_code) (maxL := 3) (ret := (some .boolean)) (by decide) rfl hinj (am_hR1 d) (Nat.le_of_ble_eq_true hb) (fun p e s m args below meth c Qc C hr => sd_D_inOrder C hr ih ⟨rfl, rfl⟩ (fun hk => am_hR d hk)) he hlen
theorem cc_D_countsUp {l : Launch} {D : va_G} {ρ : Nat → Nat} {kc : Nat → ClassId} {len d : Nat} (hinj : am_inj ρ len) (ih : ∀ (id : Nat) (y : MethodName) (ws : List Cond), cPI[id]? = some (y, ws) → am_Ce l (am_run cPT cML d) (am_rm d) D aCl ρ kc am_fts len id y ws) : am_Ce l (am_run cPT cML (d + 1)) (am_rm (d + 1)) D aCl ρ kc am_fts len 14 ⟨"DesignTexts$Design", "countsUp", "(II)Z"⟩ cw_D_countsUp := by
  intro av h r sz hrun hlen
  obtain ⟨hb, he⟩ := am_run_some hrun
  exact am_met (cc := prog_3_method_12_code) (maxL := 4) (ret := (some .boolean)) (by decide) rfl hinj (am_hR1 d) (Nat.le_of_ble_eq_true hb) (fun p e s m args below meth c Qc C hr => sd_D_countsUp C hr ih ⟨rfl, rfl⟩ (fun hk => am_hR d hk)) he hlen
theorem cc_D_gatesLookBack {l : Launch} {D : va_G} {ρ : Nat → Nat} {kc : Nat → ClassId} {len d : Nat} (hinj : am_inj ρ len) (ih : ∀ (id : Nat) (y : MethodName) (ws : List Cond), cPI[id]? = some (y, ws) → am_Ce l (am_run cPT cML d) (am_rm d) D aCl ρ kc am_fts len id y ws) : am_Ce l (am_run cPT cML (d + 1)) (am_rm (d + 1)) D aCl ρ kc am_fts len 15 ⟨"DesignTexts$Design", "gatesLookBack", "()Z"⟩ cw_D_gatesLookBack := by
  intro av h r sz hrun hlen
  obtain ⟨hb, he⟩ := am_run_some hrun
  exact am_met (cc := prog_3_method_13_code) (maxL := 3) (ret := (some .boolean)) (by decide) rfl hinj (am_hR1 d) (Nat.le_of_ble_eq_true hb) (fun p e s m args below meth c Qc C hr => sd_D_gatesLookBack C hr ih ⟨rfl, rfl⟩ (fun hk => am_hR d hk)) he hlen
theorem cc_D_step {l : Launch} {D : va_G} {ρ : Nat → Nat} {kc : Nat → ClassId} {len d : Nat} (hinj : am_inj ρ len) (ih : ∀ (id : Nat) (y : MethodName) (ws : List Cond), cPI[id]? = some (y, ws) → am_Ce l (am_run cPT cML d) (am_rm d) D aCl ρ kc am_fts len id y ws) : am_Ce l (am_run cPT cML (d + 1)) (am_rm (d + 1)) D aCl ρ kc am_fts len 16 ⟨"DesignTexts$Design", "step", "(I)I"⟩ cw_D_step := by
  intro av h r sz hrun hlen
  obtain ⟨hb, he⟩ := am_run_some hrun
  exact am_met (cc := prog_3_method_14_code) (maxL := 4) (ret := (some .int)) (by decide) rfl hinj (am_hR1 d) (Nat.le_of_ble_eq_true hb) (fun p e s m args below meth c Qc C hr => sd_D_step C hr ih ⟨rfl, rfl⟩ (fun hk => am_hR d hk)) he hlen
theorem cc_D_truths {l : Launch} {D : va_G} {ρ : Nat → Nat} {kc : Nat → ClassId} {len d : Nat} (hinj : am_inj ρ len) (ih : ∀ (id : Nat) (y : MethodName) (ws : List Cond), cPI[id]? = some (y, ws) → am_Ce l (am_run cPT cML d) (am_rm d) D aCl ρ kc am_fts len id y ws) : am_Ce l (am_run cPT cML (d + 1)) (am_rm (d + 1)) D aCl ρ kc am_fts len 17 ⟨"DesignTexts$Design", "truths", "(I)I"⟩ cw_D_truths := by
  intro av h r sz hrun hlen
  obtain ⟨hb, he⟩ := am_run_some hrun
  exact am_met (cc := prog_3_method_15_code) (maxL := 4) (ret := (some .int)) (by decide) rfl hinj (am_hR1 d) (Nat.le_of_ble_eq_true hb) (fun p e s m args below meth c Qc C hr => sd_D_truths C hr ih ⟨rfl, rfl⟩ (fun hk => am_hR d hk)) he hlen
theorem cc_D_truth {l : Launch} {D : va_G} {ρ : Nat → Nat} {kc : Nat → ClassId} {len d : Nat} (hinj : am_inj ρ len) (ih : ∀ (id : Nat) (y : MethodName) (ws : List Cond), cPI[id]? = some (y, ws) → am_Ce l (am_run cPT cML d) (am_rm d) D aCl ρ kc am_fts len id y ws) : am_Ce l (am_run cPT cML (d + 1)) (am_rm (d + 1)) D aCl ρ kc am_fts len 18 ⟨"DesignTexts$Design", "truth", "(I)I"⟩ cw_D_truth := by
  intro av h r sz hrun hlen
  obtain ⟨hb, he⟩ := am_run_some hrun
  exact am_met (cc := prog_3_method_16_code) (maxL := 2) (ret := (some .int)) (by decide) rfl hinj (am_hR1 d) (Nat.le_of_ble_eq_true hb) (fun p e s m args below meth c Qc C hr => sd_D_truth C hr ih ⟨rfl, rfl⟩ (fun hk => am_hR d hk)) he hlen
theorem cc_D_arrange {l : Launch} {D : va_G} {ρ : Nat → Nat} {kc : Nat → ClassId} {len d : Nat} (hinj : am_inj ρ len) (ih : ∀ (id : Nat) (y : MethodName) (ws : List Cond), cPI[id]? = some (y, ws) → am_Ce l (am_run cPT cML d) (am_rm d) D aCl ρ kc am_fts len id y ws) : am_Ce l (am_run cPT cML (d + 1)) (am_rm (d + 1)) D aCl ρ kc am_fts len 19 ⟨"DesignTexts$Design", "arrange", "()V"⟩ cw_D_arrange := by
  intro av h r sz hrun hlen
  obtain ⟨hb, he⟩ := am_run_some hrun
  exact am_met (cc := prog_3_method_17_code) (maxL := 3) (ret := none) (by decide) rfl hinj (am_hR1 d) (Nat.le_of_ble_eq_true hb) (fun p e s m args below meth c Qc C hr => sd_D_arrange C hr ih ⟨rfl, rfl⟩ (fun hk => am_hR d hk)) he hlen
theorem cc_D_forget {l : Launch} {D : va_G} {ρ : Nat → Nat} {kc : Nat → ClassId} {len d : Nat} (hinj : am_inj ρ len) (ih : ∀ (id : Nat) (y : MethodName) (ws : List Cond), cPI[id]? = some (y, ws) → am_Ce l (am_run cPT cML d) (am_rm d) D aCl ρ kc am_fts len id y ws) : am_Ce l (am_run cPT cML (d + 1)) (am_rm (d + 1)) D aCl ρ kc am_fts len 20 ⟨"DesignTexts$Design", "forget", "()V"⟩ cw_D_forget := by
  intro av h r sz hrun hlen
  obtain ⟨hb, he⟩ := am_run_some hrun
  exact am_met (cc := prog_3_method_18_code) (maxL := 2) (ret := none) (by decide) rfl hinj (am_hR1 d) (Nat.le_of_ble_eq_true hb) (fun p e s m args below meth c Qc C hr => sd_D_forget C hr ih ⟨rfl, rfl⟩ (fun hk => am_hR d hk)) he hlen
theorem cc_D_markAll {l : Launch} {D : va_G} {ρ : Nat → Nat} {kc : Nat → ClassId} {len d : Nat} (hinj : am_inj ρ len) (ih : ∀ (id : Nat) (y : MethodName) (ws : List Cond), cPI[id]? = some (y, ws) → am_Ce l (am_run cPT cML d) (am_rm d) D aCl ρ kc am_fts len id y ws) : am_Ce l (am_run cPT cML (d + 1)) (am_rm (d + 1)) D aCl ρ kc am_fts len 21 ⟨"DesignTexts$Design", "markAll", "(I)V"⟩ cw_D_markAll := by
  intro av h r sz hrun hlen
  obtain ⟨hb, he⟩ := am_run_some hrun
  exact am_met (cc := prog_3_method_19_code) (maxL := 3) (ret := none) (by decide) rfl hinj (am_hR1 d) (Nat.le_of_ble_eq_true hb) (fun p e s m args below meth c Qc C hr => sd_D_markAll C hr ih ⟨rfl, rfl⟩ (fun hk => am_hR d hk)) he hlen
theorem cc_D_firstReady {l : Launch} {D : va_G} {ρ : Nat → Nat} {kc : Nat → ClassId} {len d : Nat} (hinj : am_inj ρ len) (ih : ∀ (id : Nat) (y : MethodName) (ws : List Cond), cPI[id]? = some (y, ws) → am_Ce l (am_run cPT cML d) (am_rm d) D aCl ρ kc am_fts len id y ws) : am_Ce l (am_run cPT cML (d + 1)) (am_rm (d + 1)) D aCl ρ kc am_fts len 22 ⟨"DesignTexts$Design", "firstReady", "()I"⟩ cw_D_firstReady := by
  intro av h r sz hrun hlen
  obtain ⟨hb, he⟩ := am_run_some hrun
  exact am_met (cc := prog_3_method_20_code) (maxL := 2) (ret := (some .int)) (by decide) rfl hinj (am_hR1 d) (Nat.le_of_ble_eq_true hb) (fun p e s m args below meth c Qc C hr => sd_D_firstReady C hr ih ⟨rfl, rfl⟩ (fun hk => am_hR d hk)) he hlen
theorem cc_D_inSequence {l : Launch} {D : va_G} {ρ : Nat → Nat} {kc : Nat → ClassId} {len d : Nat} (hinj : am_inj ρ len) (ih : ∀ (id : Nat) (y : MethodName) (ws : List Cond), cPI[id]? = some (y, ws) → am_Ce l (am_run cPT cML d) (am_rm d) D aCl ρ kc am_fts len id y ws) : am_Ce l (am_run cPT cML (d + 1)) (am_rm (d + 1)) D aCl ρ kc am_fts len 23 ⟨"DesignTexts$Design", "inSequence", "(I)I"⟩ cw_D_inSequence := by
  intro av h r sz hrun hlen
  obtain ⟨hb, he⟩ := am_run_some hrun
  exact am_met (cc := prog_3_method_21_code) (maxL := 2) (ret := (some .int)) (by decide) rfl hinj (am_hR1 d) (Nat.le_of_ble_eq_true hb) (fun p e s m args below meth c Qc C hr => sd_D_inSequence C hr ih ⟨rfl, rfl⟩ (fun hk => am_hR d hk)) he hlen
theorem cc_D_orderFrom {l : Launch} {D : va_G} {ρ : Nat → Nat} {kc : Nat → ClassId} {len d : Nat} (hinj : am_inj ρ len) (ih : ∀ (id : Nat) (y : MethodName) (ws : List Cond), cPI[id]? = some (y, ws) → am_Ce l (am_run cPT cML d) (am_rm d) D aCl ρ kc am_fts len id y ws) : am_Ce l (am_run cPT cML (d + 1)) (am_rm (d + 1)) D aCl ρ kc am_fts len 24 ⟨"DesignTexts$Design", "orderFrom", "(LDesignTexts$Design;)V"⟩ cw_D_orderFrom := by
  intro av h r sz hrun hlen
  obtain ⟨hb, he⟩ := am_run_some hrun
  exact am_met (cc := prog_3_method_22_code) (maxL := 2) (ret := none) (by decide) rfl hinj (am_hR1 d) (Nat.le_of_ble_eq_true hb) (fun p e s m args below meth c Qc C hr => sd_D_orderFrom C hr ih ⟨rfl, rfl⟩ (fun hk => am_hR d hk)) he hlen
theorem cc_D_numberAnew {l : Launch} {D : va_G} {ρ : Nat → Nat} {kc : Nat → ClassId} {len d : Nat} (hinj : am_inj ρ len) (ih : ∀ (id : Nat) (y : MethodName) (ws : List Cond), cPI[id]? = some (y, ws) → am_Ce l (am_run cPT cML d) (am_rm d) D aCl ρ kc am_fts len id y ws) : am_Ce l (am_run cPT cML (d + 1)) (am_rm (d + 1)) D aCl ρ kc am_fts len 25 ⟨"DesignTexts$Design", "numberAnew", "(LDesignTexts$Design;)V"⟩ cw_D_numberAnew := by
  intro av h r sz hrun hlen
  obtain ⟨hb, he⟩ := am_run_some hrun
  exact am_met (cc := prog_3_method_23_code) (maxL := 4) (ret := none) (by decide) rfl hinj (am_hR1 d) (Nat.le_of_ble_eq_true hb) (fun p e s m args below meth c Qc C hr => sd_D_numberAnew C hr ih ⟨rfl, rfl⟩ (fun hk => am_hR d hk)) he hlen
theorem cc_D_copyInputsAndOutputs {l : Launch} {D : va_G} {ρ : Nat → Nat} {kc : Nat → ClassId} {len d : Nat} (hinj : am_inj ρ len) (ih : ∀ (id : Nat) (y : MethodName) (ws : List Cond), cPI[id]? = some (y, ws) → am_Ce l (am_run cPT cML d) (am_rm d) D aCl ρ kc am_fts len id y ws) : am_Ce l (am_run cPT cML (d + 1)) (am_rm (d + 1)) D aCl ρ kc am_fts len 26 ⟨"DesignTexts$Design", "copyInputsAndOutputs", "(LDesignTexts$Design;)V"⟩ cw_D_copyInputsAndOutputs := by
  intro av h r sz hrun hlen
  obtain ⟨hb, he⟩ := am_run_some hrun
  exact am_met (cc := prog_3_method_24_code) (maxL := 3) (ret := none) (by decide) rfl hinj (am_hR1 d) (Nat.le_of_ble_eq_true hb) (fun p e s m args below meth c Qc C hr => sd_D_copyInputsAndOutputs C hr ih ⟨rfl, rfl⟩ (fun hk => am_hR d hk)) he hlen
theorem cc_D_copyLatches {l : Launch} {D : va_G} {ρ : Nat → Nat} {kc : Nat → ClassId} {len d : Nat} (hinj : am_inj ρ len) (ih : ∀ (id : Nat) (y : MethodName) (ws : List Cond), cPI[id]? = some (y, ws) → am_Ce l (am_run cPT cML d) (am_rm d) D aCl ρ kc am_fts len id y ws) : am_Ce l (am_run cPT cML (d + 1)) (am_rm (d + 1)) D aCl ρ kc am_fts len 27 ⟨"DesignTexts$Design", "copyLatches", "(LDesignTexts$Design;)V"⟩ cw_D_copyLatches := by
  intro av h r sz hrun hlen
  obtain ⟨hb, he⟩ := am_run_some hrun
  exact am_met (cc := prog_3_method_25_code) (maxL := 3) (ret := none) (by decide) rfl hinj (am_hR1 d) (Nat.le_of_ble_eq_true hb) (fun p e s m args below meth c Qc C hr => sd_D_copyLatches C hr ih ⟨rfl, rfl⟩ (fun hk => am_hR d hk)) he hlen
theorem cc_D_copyGates {l : Launch} {D : va_G} {ρ : Nat → Nat} {kc : Nat → ClassId} {len d : Nat} (hinj : am_inj ρ len) (ih : ∀ (id : Nat) (y : MethodName) (ws : List Cond), cPI[id]? = some (y, ws) → am_Ce l (am_run cPT cML d) (am_rm d) D aCl ρ kc am_fts len id y ws) : am_Ce l (am_run cPT cML (d + 1)) (am_rm (d + 1)) D aCl ρ kc am_fts len 28 ⟨"DesignTexts$Design", "copyGates", "(LDesignTexts$Design;)V"⟩ cw_D_copyGates := by
  intro av h r sz hrun hlen
  obtain ⟨hb, he⟩ := am_run_some hrun
  exact am_met (cc := prog_3_method_26_code) (maxL := 6) (ret := none) (by decide) rfl hinj (am_hR1 d) (Nat.le_of_ble_eq_true hb) (fun p e s m args below meth c Qc C hr => sd_D_copyGates C hr ih ⟨rfl, rfl⟩ (fun hk => am_hR d hk)) he hlen
theorem cc_D_renumbered {l : Launch} {D : va_G} {ρ : Nat → Nat} {kc : Nat → ClassId} {len d : Nat} (hinj : am_inj ρ len) (ih : ∀ (id : Nat) (y : MethodName) (ws : List Cond), cPI[id]? = some (y, ws) → am_Ce l (am_run cPT cML d) (am_rm d) D aCl ρ kc am_fts len id y ws) : am_Ce l (am_run cPT cML (d + 1)) (am_rm (d + 1)) D aCl ρ kc am_fts len 29 ⟨"DesignTexts$Design", "renumbered", "(I)I"⟩ cw_D_renumbered := by
  intro av h r sz hrun hlen
  obtain ⟨hb, he⟩ := am_run_some hrun
  exact am_met (cc := prog_3_method_27_code) (maxL := 2) (ret := (some .int)) (by decide) rfl hinj (am_hR1 d) (Nat.le_of_ble_eq_true hb) (fun p e s m args below meth c Qc C hr => sd_D_renumbered C hr ih ⟨rfl, rfl⟩ (fun hk => am_hR d hk)) he hlen
theorem cc_D_mark {l : Launch} {D : va_G} {ρ : Nat → Nat} {kc : Nat → ClassId} {len d : Nat} (hinj : am_inj ρ len) (ih : ∀ (id : Nat) (y : MethodName) (ws : List Cond), cPI[id]? = some (y, ws) → am_Ce l (am_run cPT cML d) (am_rm d) D aCl ρ kc am_fts len id y ws) : am_Ce l (am_run cPT cML (d + 1)) (am_rm (d + 1)) D aCl ρ kc am_fts len 30 ⟨"DesignTexts$Design", "mark", "(II)V"⟩ cw_D_mark := by
  intro av h r sz hrun hlen
  obtain ⟨hb, he⟩ := am_run_some hrun
  exact am_met (cc := prog_3_method_28_code) (maxL := 4) (ret := none) (by decide) rfl hinj (am_hR1 d) (Nat.le_of_ble_eq_true hb) (fun p e s m args below meth c Qc C hr => sd_D_mark C hr ih ⟨rfl, rfl⟩ (fun hk => am_hR d hk)) he hlen
theorem cc_D_markOf {l : Launch} {D : va_G} {ρ : Nat → Nat} {kc : Nat → ClassId} {len d : Nat} (hinj : am_inj ρ len) (ih : ∀ (id : Nat) (y : MethodName) (ws : List Cond), cPI[id]? = some (y, ws) → am_Ce l (am_run cPT cML d) (am_rm d) D aCl ρ kc am_fts len id y ws) : am_Ce l (am_run cPT cML (d + 1)) (am_rm (d + 1)) D aCl ρ kc am_fts len 31 ⟨"DesignTexts$Design", "markOf", "(I)I"⟩ cw_D_markOf := by
  intro av h r sz hrun hlen
  obtain ⟨hb, he⟩ := am_run_some hrun
  exact am_met (cc := prog_3_method_29_code) (maxL := 3) (ret := (some .int)) (by decide) rfl hinj (am_hR1 d) (Nat.le_of_ble_eq_true hb) (fun p e s m args below meth c Qc C hr => sd_D_markOf C hr ih ⟨rfl, rfl⟩ (fun hk => am_hR d hk)) he hlen
theorem cc_W_plain {l : Launch} {D : va_G} {ρ : Nat → Nat} {kc : Nat → ClassId} {len d : Nat} (hinj : am_inj ρ len) (ih : ∀ (id : Nat) (y : MethodName) (ws : List Cond), cPI[id]? = some (y, ws) → am_Ce l (am_run cPT cML d) (am_rm d) D aCl ρ kc am_fts len id y ws) : am_Ce l (am_run cPT cML (d + 1)) (am_rm (d + 1)) D aCl ρ kc am_fts len 32 ⟨"DesignTexts$PageWriter", "plain", "(LDesignTexts$Design;)V"⟩ cw_W_plain := by
  intro av h r sz hrun hlen
  obtain ⟨hb, he⟩ := am_run_some hrun
  exact am_met (cc := prog_4_method_2_code) (maxL := 3) (ret := none) (by decide) rfl hinj (am_hR1 d) (Nat.le_of_ble_eq_true hb) (fun p e s m args below meth c Qc C hr => sd_W_plain C hr ih ⟨rfl, rfl⟩ (fun hk => am_hR d hk)) he hlen
theorem cc_W_packed {l : Launch} {D : va_G} {ρ : Nat → Nat} {kc : Nat → ClassId} {len d : Nat} (hinj : am_inj ρ len) (ih : ∀ (id : Nat) (y : MethodName) (ws : List Cond), cPI[id]? = some (y, ws) → am_Ce l (am_run cPT cML d) (am_rm d) D aCl ρ kc am_fts len id y ws) : am_Ce l (am_run cPT cML (d + 1)) (am_rm (d + 1)) D aCl ρ kc am_fts len 33 ⟨"DesignTexts$PageWriter", "packed", "(LDesignTexts$Design;)V"⟩ cw_W_packed := by
  intro av h r sz hrun hlen
  obtain ⟨hb, he⟩ := am_run_some hrun
  exact am_met (cc := prog_4_method_3_code) (maxL := 4) (ret := none) (by decide) rfl hinj (am_hR1 d) (Nat.le_of_ble_eq_true hb) (fun p e s m args below meth c Qc C hr => sd_W_packed C hr ih ⟨rfl, rfl⟩ (fun hk => am_hR d hk)) he hlen
theorem cc_W_header {l : Launch} {D : va_G} {ρ : Nat → Nat} {kc : Nat → ClassId} {len d : Nat} (hinj : am_inj ρ len) (ih : ∀ (id : Nat) (y : MethodName) (ws : List Cond), cPI[id]? = some (y, ws) → am_Ce l (am_run cPT cML d) (am_rm d) D aCl ρ kc am_fts len id y ws) : am_Ce l (am_run cPT cML (d + 1)) (am_rm (d + 1)) D aCl ρ kc am_fts len 34 ⟨"DesignTexts$PageWriter", "header", "(LDesignTexts$Design;I)V"⟩ cw_W_header := by
  intro av h r sz hrun hlen
  obtain ⟨hb, he⟩ := am_run_some hrun
  exact am_met (cc := prog_4_method_4_code) (maxL := 3) (ret := none) (by decide) rfl hinj (am_hR1 d) (Nat.le_of_ble_eq_true hb) (fun p e s m args below meth c Qc C hr => sd_W_header C hr ih ⟨rfl, rfl⟩ (fun hk => am_hR d hk)) he hlen
theorem cc_W_nextAndFirst {l : Launch} {D : va_G} {ρ : Nat → Nat} {kc : Nat → ClassId} {len d : Nat} (hinj : am_inj ρ len) (ih : ∀ (id : Nat) (y : MethodName) (ws : List Cond), cPI[id]? = some (y, ws) → am_Ce l (am_run cPT cML d) (am_rm d) D aCl ρ kc am_fts len id y ws) : am_Ce l (am_run cPT cML (d + 1)) (am_rm (d + 1)) D aCl ρ kc am_fts len 35 ⟨"DesignTexts$PageWriter", "nextAndFirst", "(LDesignTexts$Design;I)V"⟩ cw_W_nextAndFirst := by
  intro av h r sz hrun hlen
  obtain ⟨hb, he⟩ := am_run_some hrun
  exact am_met (cc := prog_4_method_5_code) (maxL := 3) (ret := none) (by decide) rfl hinj (am_hR1 d) (Nat.le_of_ble_eq_true hb) (fun p e s m args below meth c Qc C hr => sd_W_nextAndFirst C hr ih ⟨rfl, rfl⟩ (fun hk => am_hR d hk)) he hlen
theorem cc_W_outputs {l : Launch} {D : va_G} {ρ : Nat → Nat} {kc : Nat → ClassId} {len d : Nat} (hinj : am_inj ρ len) (ih : ∀ (id : Nat) (y : MethodName) (ws : List Cond), cPI[id]? = some (y, ws) → am_Ce l (am_run cPT cML d) (am_rm d) D aCl ρ kc am_fts len id y ws) : am_Ce l (am_run cPT cML (d + 1)) (am_rm (d + 1)) D aCl ρ kc am_fts len 36 ⟨"DesignTexts$PageWriter", "outputs", "(LDesignTexts$Design;)V"⟩ cw_W_outputs := by
  intro av h r sz hrun hlen
  obtain ⟨hb, he⟩ := am_run_some hrun
  exact am_met (cc := prog_4_method_6_code) (maxL := 3) (ret := none) (by decide) rfl hinj (am_hR1 d) (Nat.le_of_ble_eq_true hb) (fun p e s m args below meth c Qc C hr => sd_W_outputs C hr ih ⟨rfl, rfl⟩ (fun hk => am_hR d hk)) he hlen
theorem cc_W_numberAndBlank {l : Launch} {D : va_G} {ρ : Nat → Nat} {kc : Nat → ClassId} {len d : Nat} (hinj : am_inj ρ len) (ih : ∀ (id : Nat) (y : MethodName) (ws : List Cond), cPI[id]? = some (y, ws) → am_Ce l (am_run cPT cML d) (am_rm d) D aCl ρ kc am_fts len id y ws) : am_Ce l (am_run cPT cML (d + 1)) (am_rm (d + 1)) D aCl ρ kc am_fts len 37 ⟨"DesignTexts$PageWriter", "numberAndBlank", "(I)V"⟩ cw_W_numberAndBlank := by
  intro av h r sz hrun hlen
  obtain ⟨hb, he⟩ := am_run_some hrun
  exact am_met (cc := prog_4_method_7_code) (maxL := 2) (ret := none) (by decide) rfl hinj (am_hR1 d) (Nat.le_of_ble_eq_true hb) (fun p e s m args below meth c Qc C hr => sd_W_numberAndBlank C hr ih ⟨rfl, rfl⟩ (fun hk => am_hR d hk)) he hlen
theorem cc_W_lastNumber {l : Launch} {D : va_G} {ρ : Nat → Nat} {kc : Nat → ClassId} {len d : Nat} (hinj : am_inj ρ len) (ih : ∀ (id : Nat) (y : MethodName) (ws : List Cond), cPI[id]? = some (y, ws) → am_Ce l (am_run cPT cML d) (am_rm d) D aCl ρ kc am_fts len id y ws) : am_Ce l (am_run cPT cML (d + 1)) (am_rm (d + 1)) D aCl ρ kc am_fts len 38 ⟨"DesignTexts$PageWriter", "lastNumber", "(I)V"⟩ cw_W_lastNumber := by
  intro av h r sz hrun hlen
  obtain ⟨hb, he⟩ := am_run_some hrun
  exact am_met (cc := prog_4_method_8_code) (maxL := 2) (ret := none) (by decide) rfl hinj (am_hR1 d) (Nat.le_of_ble_eq_true hb) (fun p e s m args below meth c Qc C hr => sd_W_lastNumber C hr ih ⟨rfl, rfl⟩ (fun hk => am_hR d hk)) he hlen
theorem cc_W_digits {l : Launch} {D : va_G} {ρ : Nat → Nat} {kc : Nat → ClassId} {len d : Nat} (hinj : am_inj ρ len) (ih : ∀ (id : Nat) (y : MethodName) (ws : List Cond), cPI[id]? = some (y, ws) → am_Ce l (am_run cPT cML d) (am_rm d) D aCl ρ kc am_fts len id y ws) : am_Ce l (am_run cPT cML (d + 1)) (am_rm (d + 1)) D aCl ρ kc am_fts len 39 ⟨"DesignTexts$PageWriter", "digits", "(I)V"⟩ cw_W_digits := by
  intro av h r sz hrun hlen
  obtain ⟨hb, he⟩ := am_run_some hrun
  exact am_met (cc := prog_4_method_9_code) (maxL := 2) (ret := none) (by decide) rfl hinj (am_hR1 d) (Nat.le_of_ble_eq_true hb) (fun p e s m args below meth c Qc C hr => sd_W_digits C hr ih ⟨rfl, rfl⟩ (fun hk => am_hR d hk)) he hlen
theorem cc_W_difference {l : Launch} {D : va_G} {ρ : Nat → Nat} {kc : Nat → ClassId} {len d : Nat} (hinj : am_inj ρ len) (ih : ∀ (id : Nat) (y : MethodName) (ws : List Cond), cPI[id]? = some (y, ws) → am_Ce l (am_run cPT cML d) (am_rm d) D aCl ρ kc am_fts len id y ws) : am_Ce l (am_run cPT cML (d + 1)) (am_rm (d + 1)) D aCl ρ kc am_fts len 40 ⟨"DesignTexts$PageWriter", "difference", "(I)V"⟩ cw_W_difference := by
  intro av h r sz hrun hlen
  obtain ⟨hb, he⟩ := am_run_some hrun
  exact am_met (cc := prog_4_method_10_code) (maxL := 2) (ret := none) (by decide) rfl hinj (am_hR1 d) (Nat.le_of_ble_eq_true hb) (fun p e s m args below meth c Qc C hr => sd_W_difference C hr ih ⟨rfl, rfl⟩ (fun hk => am_hR d hk)) he hlen
theorem cc_R_fill {l : Launch} {D : va_G} {ρ : Nat → Nat} {kc : Nat → ClassId} {len d : Nat} (hinj : am_inj ρ len) (ih : ∀ (id : Nat) (y : MethodName) (ws : List Cond), cPI[id]? = some (y, ws) → am_Ce l (am_run cPT cML d) (am_rm d) D aCl ρ kc am_fts len id y ws) : am_Ce l (am_run cPT cML (d + 1)) (am_rm (d + 1)) D aCl ρ kc am_fts len 41 ⟨"DesignTexts$TextReader", "fill", "(LDesignTexts$Design;)I"⟩ cw_R_fill := by
  intro av h r sz hrun hlen
  obtain ⟨hb, he⟩ := am_run_some hrun
  exact am_met (cc := prog_5_method_2_code) (maxL := 3) (ret := (some .int)) (by decide) rfl hinj (am_hR1 d) (Nat.le_of_ble_eq_true hb) (fun p e s m args below meth c Qc C hr => sd_R_fill C hr ih ⟨rfl, rfl⟩ (fun hk => am_hR d hk)) he hlen
theorem cc_R_header {l : Launch} {D : va_G} {ρ : Nat → Nat} {kc : Nat → ClassId} {len d : Nat} (hinj : am_inj ρ len) (ih : ∀ (id : Nat) (y : MethodName) (ws : List Cond), cPI[id]? = some (y, ws) → am_Ce l (am_run cPT cML d) (am_rm d) D aCl ρ kc am_fts len id y ws) : am_Ce l (am_run cPT cML (d + 1)) (am_rm (d + 1)) D aCl ρ kc am_fts len 42 ⟨"DesignTexts$TextReader", "header", "(LDesignTexts$Design;Z)V"⟩ cw_R_header := by
  intro av h r sz hrun hlen
  obtain ⟨hb, he⟩ := am_run_some hrun
  exact am_met (cc := prog_5_method_3_code) (maxL := 6) (ret := none) (by decide) rfl hinj (am_hR1 d) (Nat.le_of_ble_eq_true hb) (fun p e s m args below meth c Qc C hr => sd_R_header C hr ih ⟨rfl, rfl⟩ (fun hk => am_hR d hk)) he hlen
theorem cc_R_plainLines {l : Launch} {D : va_G} {ρ : Nat → Nat} {kc : Nat → ClassId} {len d : Nat} (hinj : am_inj ρ len) (ih : ∀ (id : Nat) (y : MethodName) (ws : List Cond), cPI[id]? = some (y, ws) → am_Ce l (am_run cPT cML d) (am_rm d) D aCl ρ kc am_fts len id y ws) : am_Ce l (am_run cPT cML (d + 1)) (am_rm (d + 1)) D aCl ρ kc am_fts len 43 ⟨"DesignTexts$TextReader", "plainLines", "(LDesignTexts$Design;)V"⟩ cw_R_plainLines := by
  intro av h r sz hrun hlen
  obtain ⟨hb, he⟩ := am_run_some hrun
  exact am_met (cc := prog_5_method_4_code) (maxL := 4) (ret := none) (by decide) rfl hinj (am_hR1 d) (Nat.le_of_ble_eq_true hb) (fun p e s m args below meth c Qc C hr => sd_R_plainLines C hr ih ⟨rfl, rfl⟩ (fun hk => am_hR d hk)) he hlen
theorem cc_R_plainGates {l : Launch} {D : va_G} {ρ : Nat → Nat} {kc : Nat → ClassId} {len d : Nat} (hinj : am_inj ρ len) (ih : ∀ (id : Nat) (y : MethodName) (ws : List Cond), cPI[id]? = some (y, ws) → am_Ce l (am_run cPT cML d) (am_rm d) D aCl ρ kc am_fts len id y ws) : am_Ce l (am_run cPT cML (d + 1)) (am_rm (d + 1)) D aCl ρ kc am_fts len 44 ⟨"DesignTexts$TextReader", "plainGates", "(LDesignTexts$Design;)V"⟩ cw_R_plainGates := by
  intro av h r sz hrun hlen
  obtain ⟨hb, he⟩ := am_run_some hrun
  exact am_met (cc := prog_5_method_5_code) (maxL := 4) (ret := none) (by decide) rfl hinj (am_hR1 d) (Nat.le_of_ble_eq_true hb) (fun p e s m args below meth c Qc C hr => sd_R_plainGates C hr ih ⟨rfl, rfl⟩ (fun hk => am_hR d hk)) he hlen
theorem cc_R_packedLines {l : Launch} {D : va_G} {ρ : Nat → Nat} {kc : Nat → ClassId} {len d : Nat} (hinj : am_inj ρ len) (ih : ∀ (id : Nat) (y : MethodName) (ws : List Cond), cPI[id]? = some (y, ws) → am_Ce l (am_run cPT cML d) (am_rm d) D aCl ρ kc am_fts len id y ws) : am_Ce l (am_run cPT cML (d + 1)) (am_rm (d + 1)) D aCl ρ kc am_fts len 45 ⟨"DesignTexts$TextReader", "packedLines", "(LDesignTexts$Design;)V"⟩ cw_R_packedLines := by
  intro av h r sz hrun hlen
  obtain ⟨hb, he⟩ := am_run_some hrun
  exact am_met (cc := prog_5_method_6_code) (maxL := 5) (ret := none) (by decide) rfl hinj (am_hR1 d) (Nat.le_of_ble_eq_true hb) (fun p e s m args below meth c Qc C hr => sd_R_packedLines C hr ih ⟨rfl, rfl⟩ (fun hk => am_hR d hk)) he hlen
theorem cc_R_packedGates {l : Launch} {D : va_G} {ρ : Nat → Nat} {kc : Nat → ClassId} {len d : Nat} (hinj : am_inj ρ len) (ih : ∀ (id : Nat) (y : MethodName) (ws : List Cond), cPI[id]? = some (y, ws) → am_Ce l (am_run cPT cML d) (am_rm d) D aCl ρ kc am_fts len id y ws) : am_Ce l (am_run cPT cML (d + 1)) (am_rm (d + 1)) D aCl ρ kc am_fts len 46 ⟨"DesignTexts$TextReader", "packedGates", "(LDesignTexts$Design;)V"⟩ cw_R_packedGates := by
  intro av h r sz hrun hlen
  obtain ⟨hb, he⟩ := am_run_some hrun
  exact am_met (cc := prog_5_method_7_code) (maxL := 6) (ret := none) (by decide) rfl hinj (am_hR1 d) (Nat.le_of_ble_eq_true hb) (fun p e s m args below meth c Qc C hr => sd_R_packedGates C hr ih ⟨rfl, rfl⟩ (fun hk => am_hR d hk)) he hlen
theorem cc_R_closing {l : Launch} {D : va_G} {ρ : Nat → Nat} {kc : Nat → ClassId} {len d : Nat} (hinj : am_inj ρ len) (ih : ∀ (id : Nat) (y : MethodName) (ws : List Cond), cPI[id]? = some (y, ws) → am_Ce l (am_run cPT cML d) (am_rm d) D aCl ρ kc am_fts len id y ws) : am_Ce l (am_run cPT cML (d + 1)) (am_rm (d + 1)) D aCl ρ kc am_fts len 47 ⟨"DesignTexts$TextReader", "closing", "()V"⟩ cw_R_closing := by
  intro av h r sz hrun hlen
  obtain ⟨hb, he⟩ := am_run_some hrun
  exact am_met (cc := prog_5_method_8_code) (maxL := 2) (ret := none) (by decide) rfl hinj (am_hR1 d) (Nat.le_of_ble_eq_true hb) (fun p e s m args below meth c Qc C hr => sd_R_closing C hr ih ⟨rfl, rfl⟩ (fun hk => am_hR d hk)) he hlen
theorem cc_R_findUndefined {l : Launch} {D : va_G} {ρ : Nat → Nat} {kc : Nat → ClassId} {len d : Nat} (hinj : am_inj ρ len) (ih : ∀ (id : Nat) (y : MethodName) (ws : List Cond), cPI[id]? = some (y, ws) → am_Ce l (am_run cPT cML d) (am_rm d) D aCl ρ kc am_fts len id y ws) : am_Ce l (am_run cPT cML (d + 1)) (am_rm (d + 1)) D aCl ρ kc am_fts len 48 ⟨"DesignTexts$TextReader", "findUndefined", "()V"⟩ cw_R_findUndefined := by
  intro av h r sz hrun hlen
  obtain ⟨hb, he⟩ := am_run_some hrun
  exact am_met (cc := prog_5_method_9_code) (maxL := 3) (ret := none) (by decide) rfl hinj (am_hR1 d) (Nat.le_of_ble_eq_true hb) (fun p e s m args below meth c Qc C hr => sd_R_findUndefined C hr ih ⟨rfl, rfl⟩ (fun hk => am_hR d hk)) he hlen
theorem cc_R_findRound {l : Launch} {D : va_G} {ρ : Nat → Nat} {kc : Nat → ClassId} {len d : Nat} (hinj : am_inj ρ len) (ih : ∀ (id : Nat) (y : MethodName) (ws : List Cond), cPI[id]? = some (y, ws) → am_Ce l (am_run cPT cML d) (am_rm d) D aCl ρ kc am_fts len id y ws) : am_Ce l (am_run cPT cML (d + 1)) (am_rm (d + 1)) D aCl ρ kc am_fts len 49 ⟨"DesignTexts$TextReader", "findRound", "(LDesignTexts$Design;)V"⟩ cw_R_findRound := by
  intro av h r sz hrun hlen
  obtain ⟨hb, he⟩ := am_run_some hrun
  exact am_met (cc := prog_5_method_10_code) (maxL := 5) (ret := none) (by decide) rfl hinj (am_hR1 d) (Nat.le_of_ble_eq_true hb) (fun p e s m args below meth c Qc C hr => sd_R_findRound C hr ih ⟨rfl, rfl⟩ (fun hk => am_hR d hk)) he hlen
theorem cc_R_noteWhatGatesRestOn {l : Launch} {D : va_G} {ρ : Nat → Nat} {kc : Nat → ClassId} {len d : Nat} (hinj : am_inj ρ len) (ih : ∀ (id : Nat) (y : MethodName) (ws : List Cond), cPI[id]? = some (y, ws) → am_Ce l (am_run cPT cML d) (am_rm d) D aCl ρ kc am_fts len id y ws) : am_Ce l (am_run cPT cML (d + 1)) (am_rm (d + 1)) D aCl ρ kc am_fts len 50 ⟨"DesignTexts$TextReader", "noteWhatGatesRestOn", "(LDesignTexts$Design;I)V"⟩ cw_R_noteWhatGatesRestOn := by
  intro av h r sz hrun hlen
  obtain ⟨hb, he⟩ := am_run_some hrun
  exact am_met (cc := prog_5_method_11_code) (maxL := 5) (ret := none) (by decide) rfl hinj (am_hR1 d) (Nat.le_of_ble_eq_true hb) (fun p e s m args below meth c Qc C hr => sd_R_noteWhatGatesRestOn C hr ih ⟨rfl, rfl⟩ (fun hk => am_hR d hk)) he hlen
theorem cc_R_gateBit {l : Launch} {D : va_G} {ρ : Nat → Nat} {kc : Nat → ClassId} {len d : Nat} (hinj : am_inj ρ len) (ih : ∀ (id : Nat) (y : MethodName) (ws : List Cond), cPI[id]? = some (y, ws) → am_Ce l (am_run cPT cML d) (am_rm d) D aCl ρ kc am_fts len id y ws) : am_Ce l (am_run cPT cML (d + 1)) (am_rm (d + 1)) D aCl ρ kc am_fts len 51 ⟨"DesignTexts$TextReader", "gateBit", "(I)J"⟩ cw_R_gateBit := by
  intro av h r sz hrun hlen
  obtain ⟨hb, he⟩ := am_run_some hrun
  exact am_met (cc := prog_5_method_12_code) (maxL := 3) (ret := (some .long)) (by decide) rfl hinj (am_hR1 d) (Nat.le_of_ble_eq_true hb) (fun p e s m args below meth c Qc C hr => sd_R_gateBit C hr ih ⟨rfl, rfl⟩ (fun hk => am_hR d hk)) he hlen
theorem cc_R_definition {l : Launch} {D : va_G} {ρ : Nat → Nat} {kc : Nat → ClassId} {len d : Nat} (hinj : am_inj ρ len) (ih : ∀ (id : Nat) (y : MethodName) (ws : List Cond), cPI[id]? = some (y, ws) → am_Ce l (am_run cPT cML d) (am_rm d) D aCl ρ kc am_fts len id y ws) : am_Ce l (am_run cPT cML (d + 1)) (am_rm (d + 1)) D aCl ρ kc am_fts len 52 ⟨"DesignTexts$TextReader", "definition", "(I)I"⟩ cw_R_definition := by
  intro av h r sz hrun hlen
  obtain ⟨hb, he⟩ := am_run_some hrun
  exact am_met (cc := prog_5_method_13_code) (maxL := 5) (ret := (some .int)) (by decide) rfl hinj (am_hR1 d) (Nat.le_of_ble_eq_true hb) (fun p e s m args below meth c Qc C hr => sd_R_definition C hr ih ⟨rfl, rfl⟩ (fun hk => am_hR d hk)) he hlen
theorem cc_R_use {l : Launch} {D : va_G} {ρ : Nat → Nat} {kc : Nat → ClassId} {len d : Nat} (hinj : am_inj ρ len) (ih : ∀ (id : Nat) (y : MethodName) (ws : List Cond), cPI[id]? = some (y, ws) → am_Ce l (am_run cPT cML d) (am_rm d) D aCl ρ kc am_fts len id y ws) : am_Ce l (am_run cPT cML (d + 1)) (am_rm (d + 1)) D aCl ρ kc am_fts len 53 ⟨"DesignTexts$TextReader", "use", "(I)I"⟩ cw_R_use := by
  intro av h r sz hrun hlen
  obtain ⟨hb, he⟩ := am_run_some hrun
  exact am_met (cc := prog_5_method_14_code) (maxL := 4) (ret := (some .int)) (by decide) rfl hinj (am_hR1 d) (Nat.le_of_ble_eq_true hb) (fun p e s m args below meth c Qc C hr => sd_R_use C hr ih ⟨rfl, rfl⟩ (fun hk => am_hR d hk)) he hlen
theorem cc_R_perhapsFirst {l : Launch} {D : va_G} {ρ : Nat → Nat} {kc : Nat → ClassId} {len d : Nat} (hinj : am_inj ρ len) (ih : ∀ (id : Nat) (y : MethodName) (ws : List Cond), cPI[id]? = some (y, ws) → am_Ce l (am_run cPT cML d) (am_rm d) D aCl ρ kc am_fts len id y ws) : am_Ce l (am_run cPT cML (d + 1)) (am_rm (d + 1)) D aCl ρ kc am_fts len 54 ⟨"DesignTexts$TextReader", "perhapsFirst", "()I"⟩ cw_R_perhapsFirst := by
  intro av h r sz hrun hlen
  obtain ⟨hb, he⟩ := am_run_some hrun
  exact am_met (cc := prog_5_method_15_code) (maxL := 1) (ret := (some .int)) (by decide) rfl hinj (am_hR1 d) (Nat.le_of_ble_eq_true hb) (fun p e s m args below meth c Qc C hr => sd_R_perhapsFirst C hr ih ⟨rfl, rfl⟩ (fun hk => am_hR d hk)) he hlen
theorem cc_R_blankAndNumber {l : Launch} {D : va_G} {ρ : Nat → Nat} {kc : Nat → ClassId} {len d : Nat} (hinj : am_inj ρ len) (ih : ∀ (id : Nat) (y : MethodName) (ws : List Cond), cPI[id]? = some (y, ws) → am_Ce l (am_run cPT cML d) (am_rm d) D aCl ρ kc am_fts len id y ws) : am_Ce l (am_run cPT cML (d + 1)) (am_rm (d + 1)) D aCl ρ kc am_fts len 55 ⟨"DesignTexts$TextReader", "blankAndNumber", "(I)I"⟩ cw_R_blankAndNumber := by
  intro av h r sz hrun hlen
  obtain ⟨hb, he⟩ := am_run_some hrun
  exact am_met (cc := prog_5_method_16_code) (maxL := 2) (ret := (some .int)) (by decide) rfl hinj (am_hR1 d) (Nat.le_of_ble_eq_true hb) (fun p e s m args below meth c Qc C hr => sd_R_blankAndNumber C hr ih ⟨rfl, rfl⟩ (fun hk => am_hR d hk)) he hlen
theorem cc_R_number {l : Launch} {D : va_G} {ρ : Nat → Nat} {kc : Nat → ClassId} {len d : Nat} (hinj : am_inj ρ len) (ih : ∀ (id : Nat) (y : MethodName) (ws : List Cond), cPI[id]? = some (y, ws) → am_Ce l (am_run cPT cML d) (am_rm d) D aCl ρ kc am_fts len id y ws) : am_Ce l (am_run cPT cML (d + 1)) (am_rm (d + 1)) D aCl ρ kc am_fts len 56 ⟨"DesignTexts$TextReader", "number", "(I)I"⟩ cw_R_number := by
  intro av h r sz hrun hlen
  obtain ⟨hb, he⟩ := am_run_some hrun
  exact am_met (cc := prog_5_method_17_code) (maxL := 5) (ret := (some .int)) (by decide) rfl hinj (am_hR1 d) (Nat.le_of_ble_eq_true hb) (fun p e s m args below meth c Qc C hr => sd_R_number C hr ih ⟨rfl, rfl⟩ (fun hk => am_hR d hk)) he hlen
theorem cc_R_isDigit {l : Launch} {D : va_G} {ρ : Nat → Nat} {kc : Nat → ClassId} {len d : Nat} (hinj : am_inj ρ len) (ih : ∀ (id : Nat) (y : MethodName) (ws : List Cond), cPI[id]? = some (y, ws) → am_Ce l (am_run cPT cML d) (am_rm d) D aCl ρ kc am_fts len id y ws) : am_Ce l (am_run cPT cML (d + 1)) (am_rm (d + 1)) D aCl ρ kc am_fts len 57 ⟨"DesignTexts$TextReader", "isDigit", "(I)Z"⟩ cw_R_isDigit := by
  intro av h r sz hrun hlen
  obtain ⟨hb, he⟩ := am_run_some hrun
  exact am_met (cc := prog_5_method_18_code) (maxL := 1) (ret := (some .boolean)) (by decide) rfl hinj (am_hR1 d) (Nat.le_of_ble_eq_true hb) (fun p e s m args below meth c Qc C hr => sd_R_isDigit C hr ih ⟨rfl, rfl⟩ (fun hk => am_hR d hk)) he hlen
theorem cc_R_difference {l : Launch} {D : va_G} {ρ : Nat → Nat} {kc : Nat → ClassId} {len d : Nat} (hinj : am_inj ρ len) (ih : ∀ (id : Nat) (y : MethodName) (ws : List Cond), cPI[id]? = some (y, ws) → am_Ce l (am_run cPT cML d) (am_rm d) D aCl ρ kc am_fts len id y ws) : am_Ce l (am_run cPT cML (d + 1)) (am_rm (d + 1)) D aCl ρ kc am_fts len 58 ⟨"DesignTexts$TextReader", "difference", "(II)I"⟩ cw_R_difference := by
  intro av h r sz hrun hlen
  obtain ⟨hb, he⟩ := am_run_some hrun
  exact am_met (cc := prog_5_method_19_code) (maxL := 6) (ret := (some .int)) (by decide) rfl hinj (am_hR1 d) (Nat.le_of_ble_eq_true hb) (fun p e s m args below meth c Qc C hr => sd_R_difference C hr ih ⟨rfl, rfl⟩ (fun hk => am_hR d hk)) he hlen
theorem cc_R_expect {l : Launch} {D : va_G} {ρ : Nat → Nat} {kc : Nat → ClassId} {len d : Nat} (hinj : am_inj ρ len) (ih : ∀ (id : Nat) (y : MethodName) (ws : List Cond), cPI[id]? = some (y, ws) → am_Ce l (am_run cPT cML d) (am_rm d) D aCl ρ kc am_fts len id y ws) : am_Ce l (am_run cPT cML (d + 1)) (am_rm (d + 1)) D aCl ρ kc am_fts len 59 ⟨"DesignTexts$TextReader", "expect", "(I)V"⟩ cw_R_expect := by
  intro av h r sz hrun hlen
  obtain ⟨hb, he⟩ := am_run_some hrun
  exact am_met (cc := prog_5_method_20_code) (maxL := 2) (ret := none) (by decide) rfl hinj (am_hR1 d) (Nat.le_of_ble_eq_true hb) (fun p e s m args below meth c Qc C hr => sd_R_expect C hr ih ⟨rfl, rfl⟩ (fun hk => am_hR d hk)) he hlen
theorem cc_R_fail {l : Launch} {D : va_G} {ρ : Nat → Nat} {kc : Nat → ClassId} {len d : Nat} (hinj : am_inj ρ len) (ih : ∀ (id : Nat) (y : MethodName) (ws : List Cond), cPI[id]? = some (y, ws) → am_Ce l (am_run cPT cML d) (am_rm d) D aCl ρ kc am_fts len id y ws) : am_Ce l (am_run cPT cML (d + 1)) (am_rm (d + 1)) D aCl ρ kc am_fts len 60 ⟨"DesignTexts$TextReader", "fail", "(I)V"⟩ cw_R_fail := by
  intro av h r sz hrun hlen
  obtain ⟨hb, he⟩ := am_run_some hrun
  exact am_met (cc := prog_5_method_21_code) (maxL := 2) (ret := none) (by decide) rfl hinj (am_hR1 d) (Nat.le_of_ble_eq_true hb) (fun p e s m args below meth c Qc C hr => sd_R_fail C hr ih ⟨rfl, rfl⟩ (fun hk => am_hR d hk)) he hlen
theorem cc_T_read {l : Launch} {D : va_G} {ρ : Nat → Nat} {kc : Nat → ClassId} {len d : Nat} (hinj : am_inj ρ len) (ih : ∀ (id : Nat) (y : MethodName) (ws : List Cond), cPI[id]? = some (y, ws) → am_Ce l (am_run cPT cML d) (am_rm d) D aCl ρ kc am_fts len id y ws) : am_Ce l (am_run cPT cML (d + 1)) (am_rm (d + 1)) D aCl ρ kc am_fts len 61 ⟨"DesignTexts", "read", "()I"⟩ cw_T_read := by
  intro av h r sz hrun hlen
  obtain ⟨hb, he⟩ := am_run_some hrun
  exact am_met (cc := prog_1_method_3_code) (maxL := 2) (ret := (some .int)) (by decide) rfl hinj (am_hR1 d) (Nat.le_of_ble_eq_true hb) (fun p e s m args below meth c Qc C hr => sd_T_read C hr ih ⟨rfl, rfl⟩ (fun hk => am_hR d hk)) he hlen
theorem cc_T_about {l : Launch} {D : va_G} {ρ : Nat → Nat} {kc : Nat → ClassId} {len d : Nat} (hinj : am_inj ρ len) (ih : ∀ (id : Nat) (y : MethodName) (ws : List Cond), cPI[id]? = some (y, ws) → am_Ce l (am_run cPT cML d) (am_rm d) D aCl ρ kc am_fts len id y ws) : am_Ce l (am_run cPT cML (d + 1)) (am_rm (d + 1)) D aCl ρ kc am_fts len 62 ⟨"DesignTexts", "about", "(I)I"⟩ cw_T_about := by
  intro av h r sz hrun hlen
  obtain ⟨hb, he⟩ := am_run_some hrun
  exact am_met (cc := prog_1_method_4_code) (maxL := 2) (ret := (some .int)) (by decide) rfl hinj (am_hR1 d) (Nat.le_of_ble_eq_true hb) (fun p e s m args below meth c Qc C hr => sd_T_about C hr ih ⟨rfl, rfl⟩ (fun hk => am_hR d hk)) he hlen
theorem cc_T_order {l : Launch} {D : va_G} {ρ : Nat → Nat} {kc : Nat → ClassId} {len d : Nat} (hinj : am_inj ρ len) (ih : ∀ (id : Nat) (y : MethodName) (ws : List Cond), cPI[id]? = some (y, ws) → am_Ce l (am_run cPT cML d) (am_rm d) D aCl ρ kc am_fts len id y ws) : am_Ce l (am_run cPT cML (d + 1)) (am_rm (d + 1)) D aCl ρ kc am_fts len 63 ⟨"DesignTexts", "order", "()V"⟩ cw_T_order := by
  intro av h r sz hrun hlen
  obtain ⟨hb, he⟩ := am_run_some hrun
  exact am_met (cc := prog_1_method_6_code) (maxL := 1) (ret := none) (by decide) rfl hinj (am_hR1 d) (Nat.le_of_ble_eq_true hb) (fun p e s m args below meth c Qc C hr => sd_T_order C hr ih ⟨rfl, rfl⟩ (fun hk => am_hR d hk)) he hlen
theorem cc_T_reset {l : Launch} {D : va_G} {ρ : Nat → Nat} {kc : Nat → ClassId} {len d : Nat} (hinj : am_inj ρ len) (ih : ∀ (id : Nat) (y : MethodName) (ws : List Cond), cPI[id]? = some (y, ws) → am_Ce l (am_run cPT cML d) (am_rm d) D aCl ρ kc am_fts len id y ws) : am_Ce l (am_run cPT cML (d + 1)) (am_rm (d + 1)) D aCl ρ kc am_fts len 64 ⟨"DesignTexts", "reset", "()V"⟩ cw_T_reset := by
  intro av h r sz hrun hlen
  obtain ⟨hb, he⟩ := am_run_some hrun
  exact am_met (cc := prog_1_method_9_code) (maxL := 1) (ret := none) (by decide) rfl hinj (am_hR1 d) (Nat.le_of_ble_eq_true hb) (fun p e s m args below meth c Qc C hr => sd_T_reset C hr ih ⟨rfl, rfl⟩ (fun hk => am_hR d hk)) he hlen
theorem cc_T_cycle {l : Launch} {D : va_G} {ρ : Nat → Nat} {kc : Nat → ClassId} {len d : Nat} (hinj : am_inj ρ len) (ih : ∀ (id : Nat) (y : MethodName) (ws : List Cond), cPI[id]? = some (y, ws) → am_Ce l (am_run cPT cML d) (am_rm d) D aCl ρ kc am_fts len id y ws) : am_Ce l (am_run cPT cML (d + 1)) (am_rm (d + 1)) D aCl ρ kc am_fts len 65 ⟨"DesignTexts", "cycle", "(I)I"⟩ cw_T_cycle := by
  intro av h r sz hrun hlen
  obtain ⟨hb, he⟩ := am_run_some hrun
  exact am_met (cc := prog_1_method_10_code) (maxL := 2) (ret := (some .int)) (by decide) rfl hinj (am_hR1 d) (Nat.le_of_ble_eq_true hb) (fun p e s m args below meth c Qc C hr => sd_T_cycle C hr ih ⟨rfl, rfl⟩ (fun hk => am_hR d hk)) he hlen
theorem cc_T_latches {l : Launch} {D : va_G} {ρ : Nat → Nat} {kc : Nat → ClassId} {len d : Nat} (hinj : am_inj ρ len) (ih : ∀ (id : Nat) (y : MethodName) (ws : List Cond), cPI[id]? = some (y, ws) → am_Ce l (am_run cPT cML d) (am_rm d) D aCl ρ kc am_fts len id y ws) : am_Ce l (am_run cPT cML (d + 1)) (am_rm (d + 1)) D aCl ρ kc am_fts len 66 ⟨"DesignTexts", "latches", "()I"⟩ cw_T_latches := by
  intro av h r sz hrun hlen
  obtain ⟨hb, he⟩ := am_run_some hrun
  exact am_met (cc := prog_1_method_11_code) (maxL := 1) (ret := (some .int)) (by decide) rfl hinj (am_hR1 d) (Nat.le_of_ble_eq_true hb) (fun p e s m args below meth c Qc C hr => sd_T_latches C hr ih ⟨rfl, rfl⟩ (fun hk => am_hR d hk)) he hlen
theorem cc_T_exchange {l : Launch} {D : va_G} {ρ : Nat → Nat} {kc : Nat → ClassId} {len d : Nat} (hinj : am_inj ρ len) (ih : ∀ (id : Nat) (y : MethodName) (ws : List Cond), cPI[id]? = some (y, ws) → am_Ce l (am_run cPT cML d) (am_rm d) D aCl ρ kc am_fts len id y ws) : am_Ce l (am_run cPT cML (d + 1)) (am_rm (d + 1)) D aCl ρ kc am_fts len 67 ⟨"DesignTexts", "exchange", "()V"⟩ cw_T_exchange := by
  intro av h r sz hrun hlen
  obtain ⟨hb, he⟩ := am_run_some hrun
  exact am_met (cc := prog_1_method_12_code) (maxL := 2) (ret := none) (by decide) rfl hinj (am_hR1 d) (Nat.le_of_ble_eq_true hb) (fun p e s m args below meth c Qc C hr => sd_T_exchange C hr ih ⟨rfl, rfl⟩ (fun hk => am_hR d hk)) he hlen
theorem ca_ce {l : Launch} {D : va_G} {ρ : Nat → Nat} {kc : Nat → ClassId} {len : Nat} (hinj : am_inj ρ len) : ∀ (d id : Nat) (y : MethodName) (ws : List Cond), cPI[id]? = some (y, ws) → am_Ce l (am_run cPT cML d) (am_rm d) D aCl ρ kc am_fts len id y ws := by
  intro d
  induction d with
  | zero =>
    intro id y ws _ av h r sz hrun
    cases hrun
  | succ d ih =>
    intro id y ws hid
    match id, hid with
    | 0, hid =>
      obtain ⟨rfl, rfl⟩ : ⟨"DesignTexts$Bytes", "size", "()I"⟩ = y ∧ cw_B_size = ws := Prod.mk.inj (Option.some.inj hid)
      exact cc_B_size hinj ih
    | 1, hid =>
      obtain ⟨rfl, rfl⟩ : ⟨"DesignTexts$Bytes", "clear", "()V"⟩ = y ∧ cw_B_clear = ws := Prod.mk.inj (Option.some.inj hid)
      exact cc_B_clear hinj ih
    | 2, hid =>
      obtain ⟨rfl, rfl⟩ : ⟨"DesignTexts$Bytes", "add", "(I)V"⟩ = y ∧ cw_B_add = ws := Prod.mk.inj (Option.some.inj hid)
      exact cc_B_add hinj ih
    | 3, hid =>
      obtain ⟨rfl, rfl⟩ : ⟨"DesignTexts$Bytes", "at", "(I)I"⟩ = y ∧ cw_B_at = ws := Prod.mk.inj (Option.some.inj hid)
      exact cc_B_at hinj ih
    | 4, hid =>
      obtain ⟨rfl, rfl⟩ : ⟨"DesignTexts$Design", "most", "()I"⟩ = y ∧ cw_D_most = ws := Prod.mk.inj (Option.some.inj hid)
      exact cc_D_most hinj ih
    | 5, hid =>
      obtain ⟨rfl, rfl⟩ : ⟨"DesignTexts$Design", "setMost", "(I)V"⟩ = y ∧ cw_D_setMost = ws := Prod.mk.inj (Option.some.inj hid)
      exact cc_D_setMost hinj ih
    | 6, hid =>
      obtain ⟨rfl, rfl⟩ : ⟨"DesignTexts$Design", "latchBits", "()I"⟩ = y ∧ cw_D_latchBits = ws := Prod.mk.inj (Option.some.inj hid)
      exact cc_D_latchBits hinj ih
    | 7, hid =>
      obtain ⟨rfl, rfl⟩ : ⟨"DesignTexts$Design", "many", "(I)I"⟩ = y ∧ cw_D_many = ws := Prod.mk.inj (Option.some.inj hid)
      exact cc_D_many hinj ih
    | 8, hid =>
      obtain ⟨rfl, rfl⟩ : ⟨"DesignTexts$Design", "setMany", "(II)V"⟩ = y ∧ cw_D_setMany = ws := Prod.mk.inj (Option.some.inj hid)
      exact cc_D_setMany hinj ih
    | 9, hid =>
      obtain ⟨rfl, rfl⟩ : ⟨"DesignTexts$Design", "holds", "(II)Z"⟩ = y ∧ cw_D_holds = ws := Prod.mk.inj (Option.some.inj hid)
      exact cc_D_holds hinj ih
    | 10, hid =>
      obtain ⟨rfl, rfl⟩ : ⟨"DesignTexts$Design", "get", "(II)I"⟩ = y ∧ cw_D_get = ws := Prod.mk.inj (Option.some.inj hid)
      exact cc_D_get hinj ih
    | 11, hid =>
      obtain ⟨rfl, rfl⟩ : ⟨"DesignTexts$Design", "set", "(III)V"⟩ = y ∧ cw_D_set = ws := Prod.mk.inj (Option.some.inj hid)
      exact cc_D_set hinj ih
    | 12, hid =>
      obtain ⟨rfl, rfl⟩ : ⟨"DesignTexts$Design", "restart", "()V"⟩ = y ∧ cw_D_restart = ws := Prod.mk.inj (Option.some.inj hid)
      exact cc_D_restart hinj ih
    | 13, hid =>
      obtain ⟨rfl, rfl⟩ : ⟨"DesignTexts$Design", "inOrder", "()Z"⟩ = y ∧ cw_D_inOrder = ws := Prod.mk.inj (Option.some.inj hid)
      exact cc_D_inOrder hinj ih
    | 14, hid =>
      obtain ⟨rfl, rfl⟩ : ⟨"DesignTexts$Design", "countsUp", "(II)Z"⟩ = y ∧ cw_D_countsUp = ws := Prod.mk.inj (Option.some.inj hid)
      exact cc_D_countsUp hinj ih
    | 15, hid =>
      obtain ⟨rfl, rfl⟩ : ⟨"DesignTexts$Design", "gatesLookBack", "()Z"⟩ = y ∧ cw_D_gatesLookBack = ws := Prod.mk.inj (Option.some.inj hid)
      exact cc_D_gatesLookBack hinj ih
    | 16, hid =>
      obtain ⟨rfl, rfl⟩ : ⟨"DesignTexts$Design", "step", "(I)I"⟩ = y ∧ cw_D_step = ws := Prod.mk.inj (Option.some.inj hid)
      exact cc_D_step hinj ih
    | 17, hid =>
      obtain ⟨rfl, rfl⟩ : ⟨"DesignTexts$Design", "truths", "(I)I"⟩ = y ∧ cw_D_truths = ws := Prod.mk.inj (Option.some.inj hid)
      exact cc_D_truths hinj ih
    | 18, hid =>
      obtain ⟨rfl, rfl⟩ : ⟨"DesignTexts$Design", "truth", "(I)I"⟩ = y ∧ cw_D_truth = ws := Prod.mk.inj (Option.some.inj hid)
      exact cc_D_truth hinj ih
    | 19, hid =>
      obtain ⟨rfl, rfl⟩ : ⟨"DesignTexts$Design", "arrange", "()V"⟩ = y ∧ cw_D_arrange = ws := Prod.mk.inj (Option.some.inj hid)
      exact cc_D_arrange hinj ih
    | 20, hid =>
      obtain ⟨rfl, rfl⟩ : ⟨"DesignTexts$Design", "forget", "()V"⟩ = y ∧ cw_D_forget = ws := Prod.mk.inj (Option.some.inj hid)
      exact cc_D_forget hinj ih
    | 21, hid =>
      obtain ⟨rfl, rfl⟩ : ⟨"DesignTexts$Design", "markAll", "(I)V"⟩ = y ∧ cw_D_markAll = ws := Prod.mk.inj (Option.some.inj hid)
      exact cc_D_markAll hinj ih
    | 22, hid =>
      obtain ⟨rfl, rfl⟩ : ⟨"DesignTexts$Design", "firstReady", "()I"⟩ = y ∧ cw_D_firstReady = ws := Prod.mk.inj (Option.some.inj hid)
      exact cc_D_firstReady hinj ih
    | 23, hid =>
      obtain ⟨rfl, rfl⟩ : ⟨"DesignTexts$Design", "inSequence", "(I)I"⟩ = y ∧ cw_D_inSequence = ws := Prod.mk.inj (Option.some.inj hid)
      exact cc_D_inSequence hinj ih
    | 24, hid =>
      obtain ⟨rfl, rfl⟩ : ⟨"DesignTexts$Design", "orderFrom", "(LDesignTexts$Design;)V"⟩ = y ∧ cw_D_orderFrom = ws := Prod.mk.inj (Option.some.inj hid)
      exact cc_D_orderFrom hinj ih
    | 25, hid =>
      obtain ⟨rfl, rfl⟩ : ⟨"DesignTexts$Design", "numberAnew", "(LDesignTexts$Design;)V"⟩ = y ∧ cw_D_numberAnew = ws := Prod.mk.inj (Option.some.inj hid)
      exact cc_D_numberAnew hinj ih
    | 26, hid =>
      obtain ⟨rfl, rfl⟩ : ⟨"DesignTexts$Design", "copyInputsAndOutputs", "(LDesignTexts$Design;)V"⟩ = y ∧ cw_D_copyInputsAndOutputs = ws := Prod.mk.inj (Option.some.inj hid)
      exact cc_D_copyInputsAndOutputs hinj ih
    | 27, hid =>
      obtain ⟨rfl, rfl⟩ : ⟨"DesignTexts$Design", "copyLatches", "(LDesignTexts$Design;)V"⟩ = y ∧ cw_D_copyLatches = ws := Prod.mk.inj (Option.some.inj hid)
      exact cc_D_copyLatches hinj ih
    | 28, hid =>
      obtain ⟨rfl, rfl⟩ : ⟨"DesignTexts$Design", "copyGates", "(LDesignTexts$Design;)V"⟩ = y ∧ cw_D_copyGates = ws := Prod.mk.inj (Option.some.inj hid)
      exact cc_D_copyGates hinj ih
    | 29, hid =>
      obtain ⟨rfl, rfl⟩ : ⟨"DesignTexts$Design", "renumbered", "(I)I"⟩ = y ∧ cw_D_renumbered = ws := Prod.mk.inj (Option.some.inj hid)
      exact cc_D_renumbered hinj ih
    | 30, hid =>
      obtain ⟨rfl, rfl⟩ : ⟨"DesignTexts$Design", "mark", "(II)V"⟩ = y ∧ cw_D_mark = ws := Prod.mk.inj (Option.some.inj hid)
      exact cc_D_mark hinj ih
    | 31, hid =>
      obtain ⟨rfl, rfl⟩ : ⟨"DesignTexts$Design", "markOf", "(I)I"⟩ = y ∧ cw_D_markOf = ws := Prod.mk.inj (Option.some.inj hid)
      exact cc_D_markOf hinj ih
    | 32, hid =>
      obtain ⟨rfl, rfl⟩ : ⟨"DesignTexts$PageWriter", "plain", "(LDesignTexts$Design;)V"⟩ = y ∧ cw_W_plain = ws := Prod.mk.inj (Option.some.inj hid)
      exact cc_W_plain hinj ih
    | 33, hid =>
      obtain ⟨rfl, rfl⟩ : ⟨"DesignTexts$PageWriter", "packed", "(LDesignTexts$Design;)V"⟩ = y ∧ cw_W_packed = ws := Prod.mk.inj (Option.some.inj hid)
      exact cc_W_packed hinj ih
    | 34, hid =>
      obtain ⟨rfl, rfl⟩ : ⟨"DesignTexts$PageWriter", "header", "(LDesignTexts$Design;I)V"⟩ = y ∧ cw_W_header = ws := Prod.mk.inj (Option.some.inj hid)
      exact cc_W_header hinj ih
    | 35, hid =>
      obtain ⟨rfl, rfl⟩ : ⟨"DesignTexts$PageWriter", "nextAndFirst", "(LDesignTexts$Design;I)V"⟩ = y ∧ cw_W_nextAndFirst = ws := Prod.mk.inj (Option.some.inj hid)
      exact cc_W_nextAndFirst hinj ih
    | 36, hid =>
      obtain ⟨rfl, rfl⟩ : ⟨"DesignTexts$PageWriter", "outputs", "(LDesignTexts$Design;)V"⟩ = y ∧ cw_W_outputs = ws := Prod.mk.inj (Option.some.inj hid)
      exact cc_W_outputs hinj ih
    | 37, hid =>
      obtain ⟨rfl, rfl⟩ : ⟨"DesignTexts$PageWriter", "numberAndBlank", "(I)V"⟩ = y ∧ cw_W_numberAndBlank = ws := Prod.mk.inj (Option.some.inj hid)
      exact cc_W_numberAndBlank hinj ih
    | 38, hid =>
      obtain ⟨rfl, rfl⟩ : ⟨"DesignTexts$PageWriter", "lastNumber", "(I)V"⟩ = y ∧ cw_W_lastNumber = ws := Prod.mk.inj (Option.some.inj hid)
      exact cc_W_lastNumber hinj ih
    | 39, hid =>
      obtain ⟨rfl, rfl⟩ : ⟨"DesignTexts$PageWriter", "digits", "(I)V"⟩ = y ∧ cw_W_digits = ws := Prod.mk.inj (Option.some.inj hid)
      exact cc_W_digits hinj ih
    | 40, hid =>
      obtain ⟨rfl, rfl⟩ : ⟨"DesignTexts$PageWriter", "difference", "(I)V"⟩ = y ∧ cw_W_difference = ws := Prod.mk.inj (Option.some.inj hid)
      exact cc_W_difference hinj ih
    | 41, hid =>
      obtain ⟨rfl, rfl⟩ : ⟨"DesignTexts$TextReader", "fill", "(LDesignTexts$Design;)I"⟩ = y ∧ cw_R_fill = ws := Prod.mk.inj (Option.some.inj hid)
      exact cc_R_fill hinj ih
    | 42, hid =>
      obtain ⟨rfl, rfl⟩ : ⟨"DesignTexts$TextReader", "header", "(LDesignTexts$Design;Z)V"⟩ = y ∧ cw_R_header = ws := Prod.mk.inj (Option.some.inj hid)
      exact cc_R_header hinj ih
    | 43, hid =>
      obtain ⟨rfl, rfl⟩ : ⟨"DesignTexts$TextReader", "plainLines", "(LDesignTexts$Design;)V"⟩ = y ∧ cw_R_plainLines = ws := Prod.mk.inj (Option.some.inj hid)
      exact cc_R_plainLines hinj ih
    | 44, hid =>
      obtain ⟨rfl, rfl⟩ : ⟨"DesignTexts$TextReader", "plainGates", "(LDesignTexts$Design;)V"⟩ = y ∧ cw_R_plainGates = ws := Prod.mk.inj (Option.some.inj hid)
      exact cc_R_plainGates hinj ih
    | 45, hid =>
      obtain ⟨rfl, rfl⟩ : ⟨"DesignTexts$TextReader", "packedLines", "(LDesignTexts$Design;)V"⟩ = y ∧ cw_R_packedLines = ws := Prod.mk.inj (Option.some.inj hid)
      exact cc_R_packedLines hinj ih
    | 46, hid =>
      obtain ⟨rfl, rfl⟩ : ⟨"DesignTexts$TextReader", "packedGates", "(LDesignTexts$Design;)V"⟩ = y ∧ cw_R_packedGates = ws := Prod.mk.inj (Option.some.inj hid)
      exact cc_R_packedGates hinj ih
    | 47, hid =>
      obtain ⟨rfl, rfl⟩ : ⟨"DesignTexts$TextReader", "closing", "()V"⟩ = y ∧ cw_R_closing = ws := Prod.mk.inj (Option.some.inj hid)
      exact cc_R_closing hinj ih
    | 48, hid =>
      obtain ⟨rfl, rfl⟩ : ⟨"DesignTexts$TextReader", "findUndefined", "()V"⟩ = y ∧ cw_R_findUndefined = ws := Prod.mk.inj (Option.some.inj hid)
      exact cc_R_findUndefined hinj ih
    | 49, hid =>
      obtain ⟨rfl, rfl⟩ : ⟨"DesignTexts$TextReader", "findRound", "(LDesignTexts$Design;)V"⟩ = y ∧ cw_R_findRound = ws := Prod.mk.inj (Option.some.inj hid)
      exact cc_R_findRound hinj ih
    | 50, hid =>
      obtain ⟨rfl, rfl⟩ : ⟨"DesignTexts$TextReader", "noteWhatGatesRestOn", "(LDesignTexts$Design;I)V"⟩ = y ∧ cw_R_noteWhatGatesRestOn = ws := Prod.mk.inj (Option.some.inj hid)
      exact cc_R_noteWhatGatesRestOn hinj ih
    | 51, hid =>
      obtain ⟨rfl, rfl⟩ : ⟨"DesignTexts$TextReader", "gateBit", "(I)J"⟩ = y ∧ cw_R_gateBit = ws := Prod.mk.inj (Option.some.inj hid)
      exact cc_R_gateBit hinj ih
    | 52, hid =>
      obtain ⟨rfl, rfl⟩ : ⟨"DesignTexts$TextReader", "definition", "(I)I"⟩ = y ∧ cw_R_definition = ws := Prod.mk.inj (Option.some.inj hid)
      exact cc_R_definition hinj ih
    | 53, hid =>
      obtain ⟨rfl, rfl⟩ : ⟨"DesignTexts$TextReader", "use", "(I)I"⟩ = y ∧ cw_R_use = ws := Prod.mk.inj (Option.some.inj hid)
      exact cc_R_use hinj ih
    | 54, hid =>
      obtain ⟨rfl, rfl⟩ : ⟨"DesignTexts$TextReader", "perhapsFirst", "()I"⟩ = y ∧ cw_R_perhapsFirst = ws := Prod.mk.inj (Option.some.inj hid)
      exact cc_R_perhapsFirst hinj ih
    | 55, hid =>
      obtain ⟨rfl, rfl⟩ : ⟨"DesignTexts$TextReader", "blankAndNumber", "(I)I"⟩ = y ∧ cw_R_blankAndNumber = ws := Prod.mk.inj (Option.some.inj hid)
      exact cc_R_blankAndNumber hinj ih
    | 56, hid =>
      obtain ⟨rfl, rfl⟩ : ⟨"DesignTexts$TextReader", "number", "(I)I"⟩ = y ∧ cw_R_number = ws := Prod.mk.inj (Option.some.inj hid)
      exact cc_R_number hinj ih
    | 57, hid =>
      obtain ⟨rfl, rfl⟩ : ⟨"DesignTexts$TextReader", "isDigit", "(I)Z"⟩ = y ∧ cw_R_isDigit = ws := Prod.mk.inj (Option.some.inj hid)
      exact cc_R_isDigit hinj ih
    | 58, hid =>
      obtain ⟨rfl, rfl⟩ : ⟨"DesignTexts$TextReader", "difference", "(II)I"⟩ = y ∧ cw_R_difference = ws := Prod.mk.inj (Option.some.inj hid)
      exact cc_R_difference hinj ih
    | 59, hid =>
      obtain ⟨rfl, rfl⟩ : ⟨"DesignTexts$TextReader", "expect", "(I)V"⟩ = y ∧ cw_R_expect = ws := Prod.mk.inj (Option.some.inj hid)
      exact cc_R_expect hinj ih
    | 60, hid =>
      obtain ⟨rfl, rfl⟩ : ⟨"DesignTexts$TextReader", "fail", "(I)V"⟩ = y ∧ cw_R_fail = ws := Prod.mk.inj (Option.some.inj hid)
      exact cc_R_fail hinj ih
    | 61, hid =>
      obtain ⟨rfl, rfl⟩ : ⟨"DesignTexts", "read", "()I"⟩ = y ∧ cw_T_read = ws := Prod.mk.inj (Option.some.inj hid)
      exact cc_T_read hinj ih
    | 62, hid =>
      obtain ⟨rfl, rfl⟩ : ⟨"DesignTexts", "about", "(I)I"⟩ = y ∧ cw_T_about = ws := Prod.mk.inj (Option.some.inj hid)
      exact cc_T_about hinj ih
    | 63, hid =>
      obtain ⟨rfl, rfl⟩ : ⟨"DesignTexts", "order", "()V"⟩ = y ∧ cw_T_order = ws := Prod.mk.inj (Option.some.inj hid)
      exact cc_T_order hinj ih
    | 64, hid =>
      obtain ⟨rfl, rfl⟩ : ⟨"DesignTexts", "reset", "()V"⟩ = y ∧ cw_T_reset = ws := Prod.mk.inj (Option.some.inj hid)
      exact cc_T_reset hinj ih
    | 65, hid =>
      obtain ⟨rfl, rfl⟩ : ⟨"DesignTexts", "cycle", "(I)I"⟩ = y ∧ cw_T_cycle = ws := Prod.mk.inj (Option.some.inj hid)
      exact cc_T_cycle hinj ih
    | 66, hid =>
      obtain ⟨rfl, rfl⟩ : ⟨"DesignTexts", "latches", "()I"⟩ = y ∧ cw_T_latches = ws := Prod.mk.inj (Option.some.inj hid)
      exact cc_T_latches hinj ih
    | 67, hid =>
      obtain ⟨rfl, rfl⟩ : ⟨"DesignTexts", "exchange", "()V"⟩ = y ∧ cw_T_exchange = ws := Prod.mk.inj (Option.some.inj hid)
      exact cc_T_exchange hinj ih
    | k + 68, hid => exact absurd (List.getElem?_eq_some_iff.mp hid).1 (by show ¬ k + 68 < 68; omega)
theorem rc_M_put {l : Launch} {D : va_G} {ρ : Nat → Nat} {kc : Nat → ClassId} {len d : Nat} (hinj : am_inj ρ len) (ih : ∀ (id : Nat) (y : MethodName) (ws : List Cond), rPI[id]? = some (y, ws) → am_Ce l (am_run rPT rML d) (am_rm d) D aCl ρ kc am_fts len id y ws) : am_Ce l (am_run rPT rML (d + 1)) (am_rm (d + 1)) D aCl ρ kc am_fts len 0 ⟨"DesignTextsModel", "put", "(II)I"⟩ rw_M_put := by
  intro av h r sz hrun hlen
  obtain ⟨hb, he⟩ := am_run_some hrun
  exact am_met (cc := prog_7_method_3_code) (maxL := 4) (ret := (some .int)) (by decide) rfl hinj (am_hR1 d) (Nat.le_of_ble_eq_true hb) (fun p e s m args below meth c Qc C hr => sd_M_put C hr ih ⟨rfl, rfl⟩ (fun hk => am_hR d hk)) he hlen
theorem rc_M_byteAt {l : Launch} {D : va_G} {ρ : Nat → Nat} {kc : Nat → ClassId} {len d : Nat} (hinj : am_inj ρ len) (ih : ∀ (id : Nat) (y : MethodName) (ws : List Cond), rPI[id]? = some (y, ws) → am_Ce l (am_run rPT rML d) (am_rm d) D aCl ρ kc am_fts len id y ws) : am_Ce l (am_run rPT rML (d + 1)) (am_rm (d + 1)) D aCl ρ kc am_fts len 1 ⟨"DesignTextsModel", "byteAt", "(I)I"⟩ rw_M_byteAt := by
  intro av h r sz hrun hlen
  obtain ⟨hb, he⟩ := am_run_some hrun
  exact am_met (cc := prog_7_method_4_code) (maxL := 2) (ret := (some .int)) (by decide) rfl hinj (am_hR1 d) (Nat.le_of_ble_eq_true hb) (fun p e s m args below meth c Qc C hr => sd_M_byteAt C hr ih ⟨rfl, rfl⟩ (fun hk => am_hR d hk)) he hlen
theorem rc_M_bad {l : Launch} {D : va_G} {ρ : Nat → Nat} {kc : Nat → ClassId} {len d : Nat} (hinj : am_inj ρ len) (ih : ∀ (id : Nat) (y : MethodName) (ws : List Cond), rPI[id]? = some (y, ws) → am_Ce l (am_run rPT rML d) (am_rm d) D aCl ρ kc am_fts len id y ws) : am_Ce l (am_run rPT rML (d + 1)) (am_rm (d + 1)) D aCl ρ kc am_fts len 2 ⟨"DesignTextsModel", "bad", "(I)V"⟩ rw_M_bad := by
  intro av h r sz hrun hlen
  obtain ⟨hb, he⟩ := am_run_some hrun
  exact am_met (cc := prog_7_method_5_code) (maxL := 2) (ret := none) (by decide) rfl hinj (am_hR1 d) (Nat.le_of_ble_eq_true hb) (fun p e s m args below meth c Qc C hr => sd_M_bad C hr ih ⟨rfl, rfl⟩ (fun hk => am_hR d hk)) he hlen
theorem rc_M_take {l : Launch} {D : va_G} {ρ : Nat → Nat} {kc : Nat → ClassId} {len d : Nat} (hinj : am_inj ρ len) (ih : ∀ (id : Nat) (y : MethodName) (ws : List Cond), rPI[id]? = some (y, ws) → am_Ce l (am_run rPT rML d) (am_rm d) D aCl ρ kc am_fts len id y ws) : am_Ce l (am_run rPT rML (d + 1)) (am_rm (d + 1)) D aCl ρ kc am_fts len 3 ⟨"DesignTextsModel", "take", "(I)V"⟩ rw_M_take := by
  intro av h r sz hrun hlen
  obtain ⟨hb, he⟩ := am_run_some hrun
  exact am_met (cc := prog_7_method_6_code) (maxL := 2) (ret := none) (by decide) rfl hinj (am_hR1 d) (Nat.le_of_ble_eq_true hb) (fun p e s m args below meth c Qc C hr => sd_M_take C hr ih ⟨rfl, rfl⟩ (fun hk => am_hR d hk)) he hlen
theorem rc_M_isDigit {l : Launch} {D : va_G} {ρ : Nat → Nat} {kc : Nat → ClassId} {len d : Nat} (hinj : am_inj ρ len) (ih : ∀ (id : Nat) (y : MethodName) (ws : List Cond), rPI[id]? = some (y, ws) → am_Ce l (am_run rPT rML d) (am_rm d) D aCl ρ kc am_fts len id y ws) : am_Ce l (am_run rPT rML (d + 1)) (am_rm (d + 1)) D aCl ρ kc am_fts len 4 ⟨"DesignTextsModel", "isDigit", "(I)Z"⟩ rw_M_isDigit := by
  intro av h r sz hrun hlen
  obtain ⟨hb, he⟩ := am_run_some hrun
  exact am_met (cc := prog_7_method_7_code) (maxL := 2) (ret := (some .boolean)) (by decide) rfl hinj (am_hR1 d) (Nat.le_of_ble_eq_true hb) (fun p e s m args below meth c Qc C hr => sd_M_isDigit C hr ih ⟨rfl, rfl⟩ (fun hk => am_hR d hk)) he hlen
theorem rc_M_number {l : Launch} {D : va_G} {ρ : Nat → Nat} {kc : Nat → ClassId} {len d : Nat} (hinj : am_inj ρ len) (ih : ∀ (id : Nat) (y : MethodName) (ws : List Cond), rPI[id]? = some (y, ws) → am_Ce l (am_run rPT rML d) (am_rm d) D aCl ρ kc am_fts len id y ws) : am_Ce l (am_run rPT rML (d + 1)) (am_rm (d + 1)) D aCl ρ kc am_fts len 5 ⟨"DesignTextsModel", "number", "(I)I"⟩ rw_M_number := by
  intro av h r sz hrun hlen
  obtain ⟨hb, he⟩ := am_run_some hrun
  exact am_met (cc := prog_7_method_8_code) (maxL := 3) (ret := (some .int)) (by decide) rfl hinj (am_hR1 d) (Nat.le_of_ble_eq_true hb) (fun p e s m args below meth c Qc C hr => sd_M_number C hr ih ⟨rfl, rfl⟩ (fun hk => am_hR d hk)) he hlen
theorem rc_M_literal {l : Launch} {D : va_G} {ρ : Nat → Nat} {kc : Nat → ClassId} {len d : Nat} (hinj : am_inj ρ len) (ih : ∀ (id : Nat) (y : MethodName) (ws : List Cond), rPI[id]? = some (y, ws) → am_Ce l (am_run rPT rML d) (am_rm d) D aCl ρ kc am_fts len id y ws) : am_Ce l (am_run rPT rML (d + 1)) (am_rm (d + 1)) D aCl ρ kc am_fts len 6 ⟨"DesignTextsModel", "literal", "(Z)I"⟩ rw_M_literal := by
  intro av h r sz hrun hlen
  obtain ⟨hb, he⟩ := am_run_some hrun
  exact am_met (cc := prog_7_method_9_code) (maxL := 3) (ret := (some .int)) (by decide) rfl hinj (am_hR1 d) (Nat.le_of_ble_eq_true hb) (fun p e s m args below meth c Qc C hr => sd_M_literal C hr ih ⟨rfl, rfl⟩ (fun hk => am_hR d hk)) he hlen
theorem rc_M_define {l : Launch} {D : va_G} {ρ : Nat → Nat} {kc : Nat → ClassId} {len d : Nat} (hinj : am_inj ρ len) (ih : ∀ (id : Nat) (y : MethodName) (ws : List Cond), rPI[id]? = some (y, ws) → am_Ce l (am_run rPT rML d) (am_rm d) D aCl ρ kc am_fts len id y ws) : am_Ce l (am_run rPT rML (d + 1)) (am_rm (d + 1)) D aCl ρ kc am_fts len 7 ⟨"DesignTextsModel", "define", "()I"⟩ rw_M_define := by
  intro av h r sz hrun hlen
  obtain ⟨hb, he⟩ := am_run_some hrun
  exact am_met (cc := prog_7_method_10_code) (maxL := 2) (ret := (some .int)) (by decide) rfl hinj (am_hR1 d) (Nat.le_of_ble_eq_true hb) (fun p e s m args below meth c Qc C hr => sd_M_define C hr ih ⟨rfl, rfl⟩ (fun hk => am_hR d hk)) he hlen
theorem rc_M_header {l : Launch} {D : va_G} {ρ : Nat → Nat} {kc : Nat → ClassId} {len d : Nat} (hinj : am_inj ρ len) (ih : ∀ (id : Nat) (y : MethodName) (ws : List Cond), rPI[id]? = some (y, ws) → am_Ce l (am_run rPT rML d) (am_rm d) D aCl ρ kc am_fts len id y ws) : am_Ce l (am_run rPT rML (d + 1)) (am_rm (d + 1)) D aCl ρ kc am_fts len 8 ⟨"DesignTextsModel", "header", "(Z)V"⟩ rw_M_header := by
  intro av h r sz hrun hlen
  obtain ⟨hb, he⟩ := am_run_some hrun
  exact am_met (cc := prog_7_method_11_code) (maxL := 3) (ret := none) (by decide) rfl hinj (am_hR1 d) (Nat.le_of_ble_eq_true hb) (fun p e s m args below meth c Qc C hr => sd_M_header C hr ih ⟨rfl, rfl⟩ (fun hk => am_hR d hk)) he hlen
theorem rc_M_latchRest {l : Launch} {D : va_G} {ρ : Nat → Nat} {kc : Nat → ClassId} {len d : Nat} (hinj : am_inj ρ len) (ih : ∀ (id : Nat) (y : MethodName) (ws : List Cond), rPI[id]? = some (y, ws) → am_Ce l (am_run rPT rML d) (am_rm d) D aCl ρ kc am_fts len id y ws) : am_Ce l (am_run rPT rML (d + 1)) (am_rm (d + 1)) D aCl ρ kc am_fts len 9 ⟨"DesignTextsModel", "latchRest", "(I)V"⟩ rw_M_latchRest := by
  intro av h r sz hrun hlen
  obtain ⟨hb, he⟩ := am_run_some hrun
  exact am_met (cc := prog_7_method_12_code) (maxL := 2) (ret := none) (by decide) rfl hinj (am_hR1 d) (Nat.le_of_ble_eq_true hb) (fun p e s m args below meth c Qc C hr => sd_M_latchRest C hr ih ⟨rfl, rfl⟩ (fun hk => am_hR d hk)) he hlen
theorem rc_M_plainBody {l : Launch} {D : va_G} {ρ : Nat → Nat} {kc : Nat → ClassId} {len d : Nat} (hinj : am_inj ρ len) (ih : ∀ (id : Nat) (y : MethodName) (ws : List Cond), rPI[id]? = some (y, ws) → am_Ce l (am_run rPT rML d) (am_rm d) D aCl ρ kc am_fts len id y ws) : am_Ce l (am_run rPT rML (d + 1)) (am_rm (d + 1)) D aCl ρ kc am_fts len 10 ⟨"DesignTextsModel", "plainBody", "()V"⟩ rw_M_plainBody := by
  intro av h r sz hrun hlen
  obtain ⟨hb, he⟩ := am_run_some hrun
  exact am_met (cc := prog_7_method_13_code) (maxL := 2) (ret := none) (by decide) rfl hinj (am_hR1 d) (Nat.le_of_ble_eq_true hb) (fun p e s m args below meth c Qc C hr => sd_M_plainBody C hr ih ⟨rfl, rfl⟩ (fun hk => am_hR d hk)) he hlen
theorem rc_M_difference {l : Launch} {D : va_G} {ρ : Nat → Nat} {kc : Nat → ClassId} {len d : Nat} (hinj : am_inj ρ len) (ih : ∀ (id : Nat) (y : MethodName) (ws : List Cond), rPI[id]? = some (y, ws) → am_Ce l (am_run rPT rML d) (am_rm d) D aCl ρ kc am_fts len id y ws) : am_Ce l (am_run rPT rML (d + 1)) (am_rm (d + 1)) D aCl ρ kc am_fts len 11 ⟨"DesignTextsModel", "difference", "(II)I"⟩ rw_M_difference := by
  intro av h r sz hrun hlen
  obtain ⟨hb, he⟩ := am_run_some hrun
  exact am_met (cc := prog_7_method_14_code) (maxL := 7) (ret := (some .int)) (by decide) rfl hinj (am_hR1 d) (Nat.le_of_ble_eq_true hb) (fun p e s m args below meth c Qc C hr => sd_M_difference C hr ih ⟨rfl, rfl⟩ (fun hk => am_hR d hk)) he hlen
theorem rc_M_packedBody {l : Launch} {D : va_G} {ρ : Nat → Nat} {kc : Nat → ClassId} {len d : Nat} (hinj : am_inj ρ len) (ih : ∀ (id : Nat) (y : MethodName) (ws : List Cond), rPI[id]? = some (y, ws) → am_Ce l (am_run rPT rML d) (am_rm d) D aCl ρ kc am_fts len id y ws) : am_Ce l (am_run rPT rML (d + 1)) (am_rm (d + 1)) D aCl ρ kc am_fts len 12 ⟨"DesignTextsModel", "packedBody", "()V"⟩ rw_M_packedBody := by
  intro av h r sz hrun hlen
  obtain ⟨hb, he⟩ := am_run_some hrun
  exact am_met (cc := prog_7_method_15_code) (maxL := 3) (ret := none) (by decide) rfl hinj (am_hR1 d) (Nat.le_of_ble_eq_true hb) (fun p e s m args below meth c Qc C hr => sd_M_packedBody C hr ih ⟨rfl, rfl⟩ (fun hk => am_hR d hk)) he hlen
theorem rc_M_gateOf {l : Launch} {D : va_G} {ρ : Nat → Nat} {kc : Nat → ClassId} {len d : Nat} (hinj : am_inj ρ len) (ih : ∀ (id : Nat) (y : MethodName) (ws : List Cond), rPI[id]? = some (y, ws) → am_Ce l (am_run rPT rML d) (am_rm d) D aCl ρ kc am_fts len id y ws) : am_Ce l (am_run rPT rML (d + 1)) (am_rm (d + 1)) D aCl ρ kc am_fts len 13 ⟨"DesignTextsModel", "gateOf", "(I)I"⟩ rw_M_gateOf := by
  intro av h r sz hrun hlen
  obtain ⟨hb, he⟩ := am_run_some hrun
  exact am_met (cc := prog_7_method_16_code) (maxL := 3) (ret := (some .int)) (by decide) rfl hinj (am_hR1 d) (Nat.le_of_ble_eq_true hb) (fun p e s m args below meth c Qc C hr => sd_M_gateOf C hr ih ⟨rfl, rfl⟩ (fun hk => am_hR d hk)) he hlen
theorem rc_M_findUndefined {l : Launch} {D : va_G} {ρ : Nat → Nat} {kc : Nat → ClassId} {len d : Nat} (hinj : am_inj ρ len) (ih : ∀ (id : Nat) (y : MethodName) (ws : List Cond), rPI[id]? = some (y, ws) → am_Ce l (am_run rPT rML d) (am_rm d) D aCl ρ kc am_fts len id y ws) : am_Ce l (am_run rPT rML (d + 1)) (am_rm (d + 1)) D aCl ρ kc am_fts len 14 ⟨"DesignTextsModel", "findUndefined", "()V"⟩ rw_M_findUndefined := by
  intro av h r sz hrun hlen
  obtain ⟨hb, he⟩ := am_run_some hrun
  exact am_met (cc := prog_7_method_17_code) (maxL := 2) (ret := none) (by decide) rfl hinj (am_hR1 d) (Nat.le_of_ble_eq_true hb) (fun p e s m args below meth c Qc C hr => sd_M_findUndefined C hr ih ⟨rfl, rfl⟩ (fun hk => am_hR d hk)) he hlen
theorem rc_M_findResting {l : Launch} {D : va_G} {ρ : Nat → Nat} {kc : Nat → ClassId} {len d : Nat} (hinj : am_inj ρ len) (ih : ∀ (id : Nat) (y : MethodName) (ws : List Cond), rPI[id]? = some (y, ws) → am_Ce l (am_run rPT rML d) (am_rm d) D aCl ρ kc am_fts len id y ws) : am_Ce l (am_run rPT rML (d + 1)) (am_rm (d + 1)) D aCl ρ kc am_fts len 15 ⟨"DesignTextsModel", "findResting", "()V"⟩ rw_M_findResting := by
  intro av h r sz hrun hlen
  obtain ⟨hb, he⟩ := am_run_some hrun
  exact am_met (cc := prog_7_method_18_code) (maxL := 5) (ret := none) (by decide) rfl hinj (am_hR1 d) (Nat.le_of_ble_eq_true hb) (fun p e s m args below meth c Qc C hr => sd_M_findResting C hr ih ⟨rfl, rfl⟩ (fun hk => am_hR d hk)) he hlen
theorem rc_M_read {l : Launch} {D : va_G} {ρ : Nat → Nat} {kc : Nat → ClassId} {len d : Nat} (hinj : am_inj ρ len) (ih : ∀ (id : Nat) (y : MethodName) (ws : List Cond), rPI[id]? = some (y, ws) → am_Ce l (am_run rPT rML d) (am_rm d) D aCl ρ kc am_fts len id y ws) : am_Ce l (am_run rPT rML (d + 1)) (am_rm (d + 1)) D aCl ρ kc am_fts len 16 ⟨"DesignTextsModel", "read", "()I"⟩ rw_M_read := by
  intro av h r sz hrun hlen
  obtain ⟨hb, he⟩ := am_run_some hrun
  exact am_met (cc := prog_7_method_19_code) (maxL := 3) (ret := (some .int)) (by decide) rfl hinj (am_hR1 d) (Nat.le_of_ble_eq_true hb) (fun p e s m args below meth c Qc C hr => sd_M_read C hr ih ⟨rfl, rfl⟩ (fun hk => am_hR d hk)) he hlen
theorem rc_M_takeOver {l : Launch} {D : va_G} {ρ : Nat → Nat} {kc : Nat → ClassId} {len d : Nat} (hinj : am_inj ρ len) (ih : ∀ (id : Nat) (y : MethodName) (ws : List Cond), rPI[id]? = some (y, ws) → am_Ce l (am_run rPT rML d) (am_rm d) D aCl ρ kc am_fts len id y ws) : am_Ce l (am_run rPT rML (d + 1)) (am_rm (d + 1)) D aCl ρ kc am_fts len 17 ⟨"DesignTextsModel", "takeOver", "()V"⟩ rw_M_takeOver := by
  intro av h r sz hrun hlen
  obtain ⟨hb, he⟩ := am_run_some hrun
  exact am_met (cc := prog_7_method_20_code) (maxL := 2) (ret := none) (by decide) rfl hinj (am_hR1 d) (Nat.le_of_ble_eq_true hb) (fun p e s m args below meth c Qc C hr => sd_M_takeOver C hr ih ⟨rfl, rfl⟩ (fun hk => am_hR d hk)) he hlen
theorem rc_M_isOrdered {l : Launch} {D : va_G} {ρ : Nat → Nat} {kc : Nat → ClassId} {len d : Nat} (hinj : am_inj ρ len) (ih : ∀ (id : Nat) (y : MethodName) (ws : List Cond), rPI[id]? = some (y, ws) → am_Ce l (am_run rPT rML d) (am_rm d) D aCl ρ kc am_fts len id y ws) : am_Ce l (am_run rPT rML (d + 1)) (am_rm (d + 1)) D aCl ρ kc am_fts len 18 ⟨"DesignTextsModel", "isOrdered", "()Z"⟩ rw_M_isOrdered := by
  intro av h r sz hrun hlen
  obtain ⟨hb, he⟩ := am_run_some hrun
  exact am_met (cc := prog_7_method_21_code) (maxL := 4) (ret := (some .boolean)) (by decide) rfl hinj (am_hR1 d) (Nat.le_of_ble_eq_true hb) (fun p e s m args below meth c Qc C hr => sd_M_isOrdered C hr ih ⟨rfl, rfl⟩ (fun hk => am_hR d hk)) he hlen
theorem rc_M_about {l : Launch} {D : va_G} {ρ : Nat → Nat} {kc : Nat → ClassId} {len d : Nat} (hinj : am_inj ρ len) (ih : ∀ (id : Nat) (y : MethodName) (ws : List Cond), rPI[id]? = some (y, ws) → am_Ce l (am_run rPT rML d) (am_rm d) D aCl ρ kc am_fts len id y ws) : am_Ce l (am_run rPT rML (d + 1)) (am_rm (d + 1)) D aCl ρ kc am_fts len 19 ⟨"DesignTextsModel", "about", "(I)I"⟩ rw_M_about := by
  intro av h r sz hrun hlen
  obtain ⟨hb, he⟩ := am_run_some hrun
  exact am_met (cc := prog_7_method_22_code) (maxL := 2) (ret := (some .int)) (by decide) rfl hinj (am_hR1 d) (Nat.le_of_ble_eq_true hb) (fun p e s m args below meth c Qc C hr => sd_M_about C hr ih ⟨rfl, rfl⟩ (fun hk => am_hR d hk)) he hlen
theorem rc_M_has {l : Launch} {D : va_G} {ρ : Nat → Nat} {kc : Nat → ClassId} {len d : Nat} (hinj : am_inj ρ len) (ih : ∀ (id : Nat) (y : MethodName) (ws : List Cond), rPI[id]? = some (y, ws) → am_Ce l (am_run rPT rML d) (am_rm d) D aCl ρ kc am_fts len id y ws) : am_Ce l (am_run rPT rML (d + 1)) (am_rm (d + 1)) D aCl ρ kc am_fts len 20 ⟨"DesignTextsModel", "has", "(II)I"⟩ rw_M_has := by
  intro av h r sz hrun hlen
  obtain ⟨hb, he⟩ := am_run_some hrun
  exact am_met (cc := prog_7_method_23_code) (maxL := 4) (ret := (some .int)) (by decide) rfl hinj (am_hR1 d) (Nat.le_of_ble_eq_true hb) (fun p e s m args below meth c Qc C hr => sd_M_has C hr ih ⟨rfl, rfl⟩ (fun hk => am_hR d hk)) he hlen
theorem rc_M_anew {l : Launch} {D : va_G} {ρ : Nat → Nat} {kc : Nat → ClassId} {len d : Nat} (hinj : am_inj ρ len) (ih : ∀ (id : Nat) (y : MethodName) (ws : List Cond), rPI[id]? = some (y, ws) → am_Ce l (am_run rPT rML d) (am_rm d) D aCl ρ kc am_fts len id y ws) : am_Ce l (am_run rPT rML (d + 1)) (am_rm (d + 1)) D aCl ρ kc am_fts len 21 ⟨"DesignTextsModel", "anew", "(I)I"⟩ rw_M_anew := by
  intro av h r sz hrun hlen
  obtain ⟨hb, he⟩ := am_run_some hrun
  exact am_met (cc := prog_7_method_24_code) (maxL := 2) (ret := (some .int)) (by decide) rfl hinj (am_hR1 d) (Nat.le_of_ble_eq_true hb) (fun p e s m args below meth c Qc C hr => sd_M_anew C hr ih ⟨rfl, rfl⟩ (fun hk => am_hR d hk)) he hlen
theorem rc_M_ready {l : Launch} {D : va_G} {ρ : Nat → Nat} {kc : Nat → ClassId} {len d : Nat} (hinj : am_inj ρ len) (ih : ∀ (id : Nat) (y : MethodName) (ws : List Cond), rPI[id]? = some (y, ws) → am_Ce l (am_run rPT rML d) (am_rm d) D aCl ρ kc am_fts len id y ws) : am_Ce l (am_run rPT rML (d + 1)) (am_rm (d + 1)) D aCl ρ kc am_fts len 22 ⟨"DesignTextsModel", "ready", "()I"⟩ rw_M_ready := by
  intro av h r sz hrun hlen
  obtain ⟨hb, he⟩ := am_run_some hrun
  exact am_met (cc := prog_7_method_25_code) (maxL := 2) (ret := (some .int)) (by decide) rfl hinj (am_hR1 d) (Nat.le_of_ble_eq_true hb) (fun p e s m args below meth c Qc C hr => sd_M_ready C hr ih ⟨rfl, rfl⟩ (fun hk => am_hR d hk)) he hlen
theorem rc_M_order {l : Launch} {D : va_G} {ρ : Nat → Nat} {kc : Nat → ClassId} {len d : Nat} (hinj : am_inj ρ len) (ih : ∀ (id : Nat) (y : MethodName) (ws : List Cond), rPI[id]? = some (y, ws) → am_Ce l (am_run rPT rML d) (am_rm d) D aCl ρ kc am_fts len id y ws) : am_Ce l (am_run rPT rML (d + 1)) (am_rm (d + 1)) D aCl ρ kc am_fts len 23 ⟨"DesignTextsModel", "order", "()V"⟩ rw_M_order := by
  intro av h r sz hrun hlen
  obtain ⟨hb, he⟩ := am_run_some hrun
  exact am_met (cc := prog_7_method_26_code) (maxL := 6) (ret := none) (by decide) rfl hinj (am_hR1 d) (Nat.le_of_ble_eq_true hb) (fun p e s m args below meth c Qc C hr => sd_M_order C hr ih ⟨rfl, rfl⟩ (fun hk => am_hR d hk)) he hlen
theorem rc_M_add {l : Launch} {D : va_G} {ρ : Nat → Nat} {kc : Nat → ClassId} {len d : Nat} (hinj : am_inj ρ len) (ih : ∀ (id : Nat) (y : MethodName) (ws : List Cond), rPI[id]? = some (y, ws) → am_Ce l (am_run rPT rML d) (am_rm d) D aCl ρ kc am_fts len id y ws) : am_Ce l (am_run rPT rML (d + 1)) (am_rm (d + 1)) D aCl ρ kc am_fts len 24 ⟨"DesignTextsModel", "add", "(I)V"⟩ rw_M_add := by
  intro av h r sz hrun hlen
  obtain ⟨hb, he⟩ := am_run_some hrun
  exact am_met (cc := prog_7_method_27_code) (maxL := 2) (ret := none) (by decide) rfl hinj (am_hR1 d) (Nat.le_of_ble_eq_true hb) (fun p e s m args below meth c Qc C hr => sd_M_add C hr ih ⟨rfl, rfl⟩ (fun hk => am_hR d hk)) he hlen
theorem rc_M_addNumber {l : Launch} {D : va_G} {ρ : Nat → Nat} {kc : Nat → ClassId} {len d : Nat} (hinj : am_inj ρ len) (ih : ∀ (id : Nat) (y : MethodName) (ws : List Cond), rPI[id]? = some (y, ws) → am_Ce l (am_run rPT rML d) (am_rm d) D aCl ρ kc am_fts len id y ws) : am_Ce l (am_run rPT rML (d + 1)) (am_rm (d + 1)) D aCl ρ kc am_fts len 25 ⟨"DesignTextsModel", "addNumber", "(I)V"⟩ rw_M_addNumber := by
  intro av h r sz hrun hlen
  obtain ⟨hb, he⟩ := am_run_some hrun
  exact am_met (cc := prog_7_method_28_code) (maxL := 3) (ret := none) (by decide) rfl hinj (am_hR1 d) (Nat.le_of_ble_eq_true hb) (fun p e s m args below meth c Qc C hr => sd_M_addNumber C hr ih ⟨rfl, rfl⟩ (fun hk => am_hR d hk)) he hlen
theorem rc_M_addNext {l : Launch} {D : va_G} {ρ : Nat → Nat} {kc : Nat → ClassId} {len d : Nat} (hinj : am_inj ρ len) (ih : ∀ (id : Nat) (y : MethodName) (ws : List Cond), rPI[id]? = some (y, ws) → am_Ce l (am_run rPT rML d) (am_rm d) D aCl ρ kc am_fts len id y ws) : am_Ce l (am_run rPT rML (d + 1)) (am_rm (d + 1)) D aCl ρ kc am_fts len 26 ⟨"DesignTextsModel", "addNext", "(I)V"⟩ rw_M_addNext := by
  intro av h r sz hrun hlen
  obtain ⟨hb, he⟩ := am_run_some hrun
  exact am_met (cc := prog_7_method_29_code) (maxL := 2) (ret := none) (by decide) rfl hinj (am_hR1 d) (Nat.le_of_ble_eq_true hb) (fun p e s m args below meth c Qc C hr => sd_M_addNext C hr ih ⟨rfl, rfl⟩ (fun hk => am_hR d hk)) he hlen
theorem rc_M_addDifference {l : Launch} {D : va_G} {ρ : Nat → Nat} {kc : Nat → ClassId} {len d : Nat} (hinj : am_inj ρ len) (ih : ∀ (id : Nat) (y : MethodName) (ws : List Cond), rPI[id]? = some (y, ws) → am_Ce l (am_run rPT rML d) (am_rm d) D aCl ρ kc am_fts len id y ws) : am_Ce l (am_run rPT rML (d + 1)) (am_rm (d + 1)) D aCl ρ kc am_fts len 27 ⟨"DesignTextsModel", "addDifference", "(I)V"⟩ rw_M_addDifference := by
  intro av h r sz hrun hlen
  obtain ⟨hb, he⟩ := am_run_some hrun
  exact am_met (cc := prog_7_method_30_code) (maxL := 2) (ret := none) (by decide) rfl hinj (am_hR1 d) (Nat.le_of_ble_eq_true hb) (fun p e s m args below meth c Qc C hr => sd_M_addDifference C hr ih ⟨rfl, rfl⟩ (fun hk => am_hR d hk)) he hlen
theorem rc_M_write {l : Launch} {D : va_G} {ρ : Nat → Nat} {kc : Nat → ClassId} {len d : Nat} (hinj : am_inj ρ len) (ih : ∀ (id : Nat) (y : MethodName) (ws : List Cond), rPI[id]? = some (y, ws) → am_Ce l (am_run rPT rML d) (am_rm d) D aCl ρ kc am_fts len id y ws) : am_Ce l (am_run rPT rML (d + 1)) (am_rm (d + 1)) D aCl ρ kc am_fts len 28 ⟨"DesignTextsModel", "write", "(I)I"⟩ rw_M_write := by
  intro av h r sz hrun hlen
  obtain ⟨hb, he⟩ := am_run_some hrun
  exact am_met (cc := prog_7_method_31_code) (maxL := 3) (ret := (some .int)) (by decide) rfl hinj (am_hR1 d) (Nat.le_of_ble_eq_true hb) (fun p e s m args below meth c Qc C hr => sd_M_write C hr ih ⟨rfl, rfl⟩ (fun hk => am_hR d hk)) he hlen
theorem rc_M_written {l : Launch} {D : va_G} {ρ : Nat → Nat} {kc : Nat → ClassId} {len d : Nat} (hinj : am_inj ρ len) (ih : ∀ (id : Nat) (y : MethodName) (ws : List Cond), rPI[id]? = some (y, ws) → am_Ce l (am_run rPT rML d) (am_rm d) D aCl ρ kc am_fts len id y ws) : am_Ce l (am_run rPT rML (d + 1)) (am_rm (d + 1)) D aCl ρ kc am_fts len 29 ⟨"DesignTextsModel", "written", "(I)I"⟩ rw_M_written := by
  intro av h r sz hrun hlen
  obtain ⟨hb, he⟩ := am_run_some hrun
  exact am_met (cc := prog_7_method_32_code) (maxL := 2) (ret := (some .int)) (by decide) rfl hinj (am_hR1 d) (Nat.le_of_ble_eq_true hb) (fun p e s m args below meth c Qc C hr => sd_M_written C hr ih ⟨rfl, rfl⟩ (fun hk => am_hR d hk)) he hlen
theorem rc_M_reset {l : Launch} {D : va_G} {ρ : Nat → Nat} {kc : Nat → ClassId} {len d : Nat} (hinj : am_inj ρ len) (ih : ∀ (id : Nat) (y : MethodName) (ws : List Cond), rPI[id]? = some (y, ws) → am_Ce l (am_run rPT rML d) (am_rm d) D aCl ρ kc am_fts len id y ws) : am_Ce l (am_run rPT rML (d + 1)) (am_rm (d + 1)) D aCl ρ kc am_fts len 30 ⟨"DesignTextsModel", "reset", "()V"⟩ rw_M_reset := by
  intro av h r sz hrun hlen
  obtain ⟨hb, he⟩ := am_run_some hrun
  exact am_met (cc := prog_7_method_33_code) (maxL := 2) (ret := none) (by decide) rfl hinj (am_hR1 d) (Nat.le_of_ble_eq_true hb) (fun p e s m args below meth c Qc C hr => sd_M_reset C hr ih ⟨rfl, rfl⟩ (fun hk => am_hR d hk)) he hlen
theorem rc_M_valueOf {l : Launch} {D : va_G} {ρ : Nat → Nat} {kc : Nat → ClassId} {len d : Nat} (hinj : am_inj ρ len) (ih : ∀ (id : Nat) (y : MethodName) (ws : List Cond), rPI[id]? = some (y, ws) → am_Ce l (am_run rPT rML d) (am_rm d) D aCl ρ kc am_fts len id y ws) : am_Ce l (am_run rPT rML (d + 1)) (am_rm (d + 1)) D aCl ρ kc am_fts len 31 ⟨"DesignTextsModel", "valueOf", "(I)I"⟩ rw_M_valueOf := by
  intro av h r sz hrun hlen
  obtain ⟨hb, he⟩ := am_run_some hrun
  exact am_met (cc := prog_7_method_34_code) (maxL := 3) (ret := (some .int)) (by decide) rfl hinj (am_hR1 d) (Nat.le_of_ble_eq_true hb) (fun p e s m args below meth c Qc C hr => sd_M_valueOf C hr ih ⟨rfl, rfl⟩ (fun hk => am_hR d hk)) he hlen
theorem rc_M_cycle {l : Launch} {D : va_G} {ρ : Nat → Nat} {kc : Nat → ClassId} {len d : Nat} (hinj : am_inj ρ len) (ih : ∀ (id : Nat) (y : MethodName) (ws : List Cond), rPI[id]? = some (y, ws) → am_Ce l (am_run rPT rML d) (am_rm d) D aCl ρ kc am_fts len id y ws) : am_Ce l (am_run rPT rML (d + 1)) (am_rm (d + 1)) D aCl ρ kc am_fts len 32 ⟨"DesignTextsModel", "cycle", "(I)I"⟩ rw_M_cycle := by
  intro av h r sz hrun hlen
  obtain ⟨hb, he⟩ := am_run_some hrun
  exact am_met (cc := prog_7_method_35_code) (maxL := 6) (ret := (some .int)) (by decide) rfl hinj (am_hR1 d) (Nat.le_of_ble_eq_true hb) (fun p e s m args below meth c Qc C hr => sd_M_cycle C hr ih ⟨rfl, rfl⟩ (fun hk => am_hR d hk)) he hlen
theorem rc_M_latches {l : Launch} {D : va_G} {ρ : Nat → Nat} {kc : Nat → ClassId} {len d : Nat} (hinj : am_inj ρ len) (ih : ∀ (id : Nat) (y : MethodName) (ws : List Cond), rPI[id]? = some (y, ws) → am_Ce l (am_run rPT rML d) (am_rm d) D aCl ρ kc am_fts len id y ws) : am_Ce l (am_run rPT rML (d + 1)) (am_rm (d + 1)) D aCl ρ kc am_fts len 33 ⟨"DesignTextsModel", "latches", "()I"⟩ rw_M_latches := by
  intro av h r sz hrun hlen
  obtain ⟨hb, he⟩ := am_run_some hrun
  exact am_met (cc := prog_7_method_36_code) (maxL := 3) (ret := (some .int)) (by decide) rfl hinj (am_hR1 d) (Nat.le_of_ble_eq_true hb) (fun p e s m args below meth c Qc C hr => sd_M_latches C hr ih ⟨rfl, rfl⟩ (fun hk => am_hR d hk)) he hlen
theorem ra_ce {l : Launch} {D : va_G} {ρ : Nat → Nat} {kc : Nat → ClassId} {len : Nat} (hinj : am_inj ρ len) : ∀ (d id : Nat) (y : MethodName) (ws : List Cond), rPI[id]? = some (y, ws) → am_Ce l (am_run rPT rML d) (am_rm d) D aCl ρ kc am_fts len id y ws := by
  intro d
  induction d with
  | zero =>
    intro id y ws _ av h r sz hrun
    cases hrun
  | succ d ih =>
    intro id y ws hid
    match id, hid with
    | 0, hid =>
      obtain ⟨rfl, rfl⟩ : ⟨"DesignTextsModel", "put", "(II)I"⟩ = y ∧ rw_M_put = ws := Prod.mk.inj (Option.some.inj hid)
      exact rc_M_put hinj ih
    | 1, hid =>
      obtain ⟨rfl, rfl⟩ : ⟨"DesignTextsModel", "byteAt", "(I)I"⟩ = y ∧ rw_M_byteAt = ws := Prod.mk.inj (Option.some.inj hid)
      exact rc_M_byteAt hinj ih
    | 2, hid =>
      obtain ⟨rfl, rfl⟩ : ⟨"DesignTextsModel", "bad", "(I)V"⟩ = y ∧ rw_M_bad = ws := Prod.mk.inj (Option.some.inj hid)
      exact rc_M_bad hinj ih
    | 3, hid =>
      obtain ⟨rfl, rfl⟩ : ⟨"DesignTextsModel", "take", "(I)V"⟩ = y ∧ rw_M_take = ws := Prod.mk.inj (Option.some.inj hid)
      exact rc_M_take hinj ih
    | 4, hid =>
      obtain ⟨rfl, rfl⟩ : ⟨"DesignTextsModel", "isDigit", "(I)Z"⟩ = y ∧ rw_M_isDigit = ws := Prod.mk.inj (Option.some.inj hid)
      exact rc_M_isDigit hinj ih
    | 5, hid =>
      obtain ⟨rfl, rfl⟩ : ⟨"DesignTextsModel", "number", "(I)I"⟩ = y ∧ rw_M_number = ws := Prod.mk.inj (Option.some.inj hid)
      exact rc_M_number hinj ih
    | 6, hid =>
      obtain ⟨rfl, rfl⟩ : ⟨"DesignTextsModel", "literal", "(Z)I"⟩ = y ∧ rw_M_literal = ws := Prod.mk.inj (Option.some.inj hid)
      exact rc_M_literal hinj ih
    | 7, hid =>
      obtain ⟨rfl, rfl⟩ : ⟨"DesignTextsModel", "define", "()I"⟩ = y ∧ rw_M_define = ws := Prod.mk.inj (Option.some.inj hid)
      exact rc_M_define hinj ih
    | 8, hid =>
      obtain ⟨rfl, rfl⟩ : ⟨"DesignTextsModel", "header", "(Z)V"⟩ = y ∧ rw_M_header = ws := Prod.mk.inj (Option.some.inj hid)
      exact rc_M_header hinj ih
    | 9, hid =>
      obtain ⟨rfl, rfl⟩ : ⟨"DesignTextsModel", "latchRest", "(I)V"⟩ = y ∧ rw_M_latchRest = ws := Prod.mk.inj (Option.some.inj hid)
      exact rc_M_latchRest hinj ih
    | 10, hid =>
      obtain ⟨rfl, rfl⟩ : ⟨"DesignTextsModel", "plainBody", "()V"⟩ = y ∧ rw_M_plainBody = ws := Prod.mk.inj (Option.some.inj hid)
      exact rc_M_plainBody hinj ih
    | 11, hid =>
      obtain ⟨rfl, rfl⟩ : ⟨"DesignTextsModel", "difference", "(II)I"⟩ = y ∧ rw_M_difference = ws := Prod.mk.inj (Option.some.inj hid)
      exact rc_M_difference hinj ih
    | 12, hid =>
      obtain ⟨rfl, rfl⟩ : ⟨"DesignTextsModel", "packedBody", "()V"⟩ = y ∧ rw_M_packedBody = ws := Prod.mk.inj (Option.some.inj hid)
      exact rc_M_packedBody hinj ih
    | 13, hid =>
      obtain ⟨rfl, rfl⟩ : ⟨"DesignTextsModel", "gateOf", "(I)I"⟩ = y ∧ rw_M_gateOf = ws := Prod.mk.inj (Option.some.inj hid)
      exact rc_M_gateOf hinj ih
    | 14, hid =>
      obtain ⟨rfl, rfl⟩ : ⟨"DesignTextsModel", "findUndefined", "()V"⟩ = y ∧ rw_M_findUndefined = ws := Prod.mk.inj (Option.some.inj hid)
      exact rc_M_findUndefined hinj ih
    | 15, hid =>
      obtain ⟨rfl, rfl⟩ : ⟨"DesignTextsModel", "findResting", "()V"⟩ = y ∧ rw_M_findResting = ws := Prod.mk.inj (Option.some.inj hid)
      exact rc_M_findResting hinj ih
    | 16, hid =>
      obtain ⟨rfl, rfl⟩ : ⟨"DesignTextsModel", "read", "()I"⟩ = y ∧ rw_M_read = ws := Prod.mk.inj (Option.some.inj hid)
      exact rc_M_read hinj ih
    | 17, hid =>
      obtain ⟨rfl, rfl⟩ : ⟨"DesignTextsModel", "takeOver", "()V"⟩ = y ∧ rw_M_takeOver = ws := Prod.mk.inj (Option.some.inj hid)
      exact rc_M_takeOver hinj ih
    | 18, hid =>
      obtain ⟨rfl, rfl⟩ : ⟨"DesignTextsModel", "isOrdered", "()Z"⟩ = y ∧ rw_M_isOrdered = ws := Prod.mk.inj (Option.some.inj hid)
      exact rc_M_isOrdered hinj ih
    | 19, hid =>
      obtain ⟨rfl, rfl⟩ : ⟨"DesignTextsModel", "about", "(I)I"⟩ = y ∧ rw_M_about = ws := Prod.mk.inj (Option.some.inj hid)
      exact rc_M_about hinj ih
    | 20, hid =>
      obtain ⟨rfl, rfl⟩ : ⟨"DesignTextsModel", "has", "(II)I"⟩ = y ∧ rw_M_has = ws := Prod.mk.inj (Option.some.inj hid)
      exact rc_M_has hinj ih
    | 21, hid =>
      obtain ⟨rfl, rfl⟩ : ⟨"DesignTextsModel", "anew", "(I)I"⟩ = y ∧ rw_M_anew = ws := Prod.mk.inj (Option.some.inj hid)
      exact rc_M_anew hinj ih
    | 22, hid =>
      obtain ⟨rfl, rfl⟩ : ⟨"DesignTextsModel", "ready", "()I"⟩ = y ∧ rw_M_ready = ws := Prod.mk.inj (Option.some.inj hid)
      exact rc_M_ready hinj ih
    | 23, hid =>
      obtain ⟨rfl, rfl⟩ : ⟨"DesignTextsModel", "order", "()V"⟩ = y ∧ rw_M_order = ws := Prod.mk.inj (Option.some.inj hid)
      exact rc_M_order hinj ih
    | 24, hid =>
      obtain ⟨rfl, rfl⟩ : ⟨"DesignTextsModel", "add", "(I)V"⟩ = y ∧ rw_M_add = ws := Prod.mk.inj (Option.some.inj hid)
      exact rc_M_add hinj ih
    | 25, hid =>
      obtain ⟨rfl, rfl⟩ : ⟨"DesignTextsModel", "addNumber", "(I)V"⟩ = y ∧ rw_M_addNumber = ws := Prod.mk.inj (Option.some.inj hid)
      exact rc_M_addNumber hinj ih
    | 26, hid =>
      obtain ⟨rfl, rfl⟩ : ⟨"DesignTextsModel", "addNext", "(I)V"⟩ = y ∧ rw_M_addNext = ws := Prod.mk.inj (Option.some.inj hid)
      exact rc_M_addNext hinj ih
    | 27, hid =>
      obtain ⟨rfl, rfl⟩ : ⟨"DesignTextsModel", "addDifference", "(I)V"⟩ = y ∧ rw_M_addDifference = ws := Prod.mk.inj (Option.some.inj hid)
      exact rc_M_addDifference hinj ih
    | 28, hid =>
      obtain ⟨rfl, rfl⟩ : ⟨"DesignTextsModel", "write", "(I)I"⟩ = y ∧ rw_M_write = ws := Prod.mk.inj (Option.some.inj hid)
      exact rc_M_write hinj ih
    | 29, hid =>
      obtain ⟨rfl, rfl⟩ : ⟨"DesignTextsModel", "written", "(I)I"⟩ = y ∧ rw_M_written = ws := Prod.mk.inj (Option.some.inj hid)
      exact rc_M_written hinj ih
    | 30, hid =>
      obtain ⟨rfl, rfl⟩ : ⟨"DesignTextsModel", "reset", "()V"⟩ = y ∧ rw_M_reset = ws := Prod.mk.inj (Option.some.inj hid)
      exact rc_M_reset hinj ih
    | 31, hid =>
      obtain ⟨rfl, rfl⟩ : ⟨"DesignTextsModel", "valueOf", "(I)I"⟩ = y ∧ rw_M_valueOf = ws := Prod.mk.inj (Option.some.inj hid)
      exact rc_M_valueOf hinj ih
    | 32, hid =>
      obtain ⟨rfl, rfl⟩ : ⟨"DesignTextsModel", "cycle", "(I)I"⟩ = y ∧ rw_M_cycle = ws := Prod.mk.inj (Option.some.inj hid)
      exact rc_M_cycle hinj ih
    | 33, hid =>
      obtain ⟨rfl, rfl⟩ : ⟨"DesignTextsModel", "latches", "()I"⟩ = y ∧ rw_M_latches = ws := Prod.mk.inj (Option.some.inj hid)
      exact rc_M_latches hinj ih
    | k + 34, hid => exact absurd (List.getElem?_eq_some_iff.mp hid).1 (by show ¬ k + 34 < 34; omega)
