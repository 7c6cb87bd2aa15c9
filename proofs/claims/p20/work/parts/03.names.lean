/-! ===== BEGIN printed: names, fields, word lists, decode rows ===== -/
def RX0 : String := "LodgeProofs"
def TX0 : u_T := fun k => match k with
  | 0 => ("LodgeProofs", "taken", "[Z", true)
  | 1 => ("LodgeProofs", "lemmas", "I", false)
  | 2 => ("LodgeProofs", "proofs", "[I", true)
  | 3 => ("LodgeProofs", "steps", "[I", true)
  | 4 => ("LodgeProofs", "kinds", "[I", true)
  | 5 => ("LodgeProofs", "cited", "[I", true)
  | 6 => ("LodgeProofs", "open", "[I", true)
  | 7 => ("LodgeProofs", "withdrawn", "[Z", true)
  | 8 => ("LodgeProofs", "proved", "I", false)
  | 9 => ("LodgeProofs", "stages", "[I", true)
  | 10 => ("LodgeProofs", "lengths", "[I", true)
  | 11 => ("LodgeProofs", "prices", "[I", true)
  | 12 => ("LodgeProofs", "leads", "[I", true)
  | 13 => ("LodgeProofs", "circles", "[I", true)
  | _ => ("LodgeProofs", "trial", "[I", true)
def tyX0 : Nat → FieldType := fun k => match k with
  | 0 => .array .boolean
  | 1 => .int
  | 2 => .array .int
  | 3 => .array .int
  | 4 => .array .int
  | 5 => .array .int
  | 6 => .array .int
  | 7 => .array .boolean
  | 8 => .int
  | 9 => .array .int
  | 10 => .array .int
  | 11 => .array .int
  | 12 => .array .int
  | 13 => .array .int
  | _ => .array .int
abbrev wsX00 : List Cond := u_ws RX0 TX0 15
theorem nmX0 : ∀ a, a < 15 → ∀ b, b < 15 → a ≠ b → (TX0 a).2.1 ≠ (TX0 b).2.1 := by decide +kernel
theorem tyX0_ok : ∀ k, k < 15 → parseFieldDescriptor (TX0 k).2.2.1 = some (tyX0 k) := by decide +kernel
abbrev cX0_init : ByteArray := prog_1_method_1_code
def yX0_init : MethodName := ⟨RX0, "<init>", "()V"⟩
abbrev cX0_take : ByteArray := prog_1_method_2_code
def yX0_take : MethodName := ⟨RX0, "take", "(IZ)Z"⟩
abbrev cX0_lemma : ByteArray := prog_1_method_3_code
def yX0_lemma : MethodName := ⟨RX0, "lemma", "()I"⟩
abbrev cX0_proof : ByteArray := prog_1_method_4_code
def yX0_proof : MethodName := ⟨RX0, "proof", "(I)I"⟩
abbrev cX0_cite : ByteArray := prog_1_method_5_code
def yX0_cite : MethodName := ⟨RX0, "cite", "(IIII)I"⟩
abbrev cX0_patch : ByteArray := prog_1_method_6_code
def yX0_patch : MethodName := ⟨RX0, "patch", "(IIII)I"⟩
abbrev cX0_withdraw : ByteArray := prog_1_method_7_code
def yX0_withdraw : MethodName := ⟨RX0, "withdraw", "(III)Z"⟩
abbrev cX0_strike : ByteArray := prog_1_method_8_code
def yX0_strike : MethodName := ⟨RX0, "strike", "(II)I"⟩
abbrev cX0_told : ByteArray := prog_1_method_9_code
def yX0_told : MethodName := ⟨RX0, "told", "(II)I"⟩
abbrev cX0_step : ByteArray := prog_1_method_10_code
def yX0_step : MethodName := ⟨RX0, "step", "(IIII)I"⟩
abbrev cX0_about : ByteArray := prog_1_method_11_code
def yX0_about : MethodName := ⟨RX0, "about", "(III)I"⟩
abbrev cX0_count : ByteArray := prog_1_method_12_code
def yX0_count : MethodName := ⟨RX0, "count", "(I)I"⟩
abbrev cX0_best : ByteArray := prog_1_method_13_code
def yX0_best : MethodName := ⟨RX0, "best", "(I)I"⟩
abbrev cX0_without : ByteArray := prog_1_method_14_code
def yX0_without : MethodName := ⟨RX0, "without", "(I)I"⟩
abbrev cX0_needs : ByteArray := prog_1_method_15_code
def yX0_needs : MethodName := ⟨RX0, "needs", "(II)Z"⟩
abbrev cX0_advise : ByteArray := prog_1_method_16_code
def yX0_advise : MethodName := ⟨RX0, "advise", "()I"⟩
abbrev cX0_mean : ByteArray := prog_1_method_17_code
def yX0_mean : MethodName := ⟨RX0, "mean", "()D"⟩
abbrev cX0_digest : ByteArray := prog_1_method_18_code
def yX0_digest : MethodName := ⟨RX0, "digest", "()J"⟩
abbrev cX0_isAxiom : ByteArray := prog_1_method_19_code
def yX0_isAxiom : MethodName := ⟨RX0, "isAxiom", "(I)Z"⟩
abbrev cX0_isLemma : ByteArray := prog_1_method_20_code
def yX0_isLemma : MethodName := ⟨RX0, "isLemma", "(I)Z"⟩
abbrev cX0_requireAxiom : ByteArray := prog_1_method_21_code
def yX0_requireAxiom : MethodName := ⟨RX0, "requireAxiom", "(I)V"⟩
abbrev cX0_requireLemma : ByteArray := prog_1_method_22_code
def yX0_requireLemma : MethodName := ⟨RX0, "requireLemma", "(I)V"⟩
abbrev cX0_requireProof : ByteArray := prog_1_method_23_code
def yX0_requireProof : MethodName := ⟨RX0, "requireProof", "(II)V"⟩
abbrev cX0_requireStep : ByteArray := prog_1_method_24_code
def yX0_requireStep : MethodName := ⟨RX0, "requireStep", "(III)V"⟩
abbrev cX0_requireCitable : ByteArray := prog_1_method_25_code
def yX0_requireCitable : MethodName := ⟨RX0, "requireCitable", "(II)V"⟩
abbrev cX0_requireAsk : ByteArray := prog_1_method_26_code
def yX0_requireAsk : MethodName := ⟨RX0, "requireAsk", "(II)V"⟩
abbrev cX0_slotOf : ByteArray := prog_1_method_27_code
def yX0_slotOf : MethodName := ⟨RX0, "slotOf", "(II)I"⟩
abbrev cX0_firstStepOf : ByteArray := prog_1_method_28_code
def yX0_firstStepOf : MethodName := ⟨RX0, "firstStepOf", "(I)I"⟩
abbrev cX0_endOfSteps : ByteArray := prog_1_method_29_code
def yX0_endOfSteps : MethodName := ⟨RX0, "endOfSteps", "(I)I"⟩
abbrev cX0_stepAt : ByteArray := prog_1_method_30_code
def yX0_stepAt : MethodName := ⟨RX0, "stepAt", "(III)I"⟩
abbrev cX0_moveUp : ByteArray := prog_1_method_31_code
def yX0_moveUp : MethodName := ⟨RX0, "moveUp", "(I)V"⟩
abbrev cX0_settle : ByteArray := prog_1_method_32_code
def yX0_settle : MethodName := ⟨RX0, "settle", "()V"⟩
abbrev cX0_prove : ByteArray := prog_1_method_33_code
def yX0_prove : MethodName := ⟨RX0, "prove", "([II)I"⟩
abbrev cX0_hasProofAt : ByteArray := prog_1_method_34_code
def yX0_hasProofAt : MethodName := ⟨RX0, "hasProofAt", "(I[II)Z"⟩
abbrev cX0_holds : ByteArray := prog_1_method_35_code
def yX0_holds : MethodName := ⟨RX0, "holds", "(I[II)Z"⟩
abbrev cX0_isWhole : ByteArray := prog_1_method_36_code
def yX0_isWhole : MethodName := ⟨RX0, "isWhole", "(I)Z"⟩
abbrev cX0_stepHolds : ByteArray := prog_1_method_37_code
def yX0_stepHolds : MethodName := ⟨RX0, "stepHolds", "(I[II)Z"⟩
abbrev cX0_reckon : ByteArray := prog_1_method_38_code
def yX0_reckon : MethodName := ⟨RX0, "reckon", "([IZ)V"⟩
abbrev cX0_reckonRound : ByteArray := prog_1_method_39_code
def yX0_reckonRound : MethodName := ⟨RX0, "reckonRound", "([IZ)Z"⟩
abbrev cX0_costOfProof : ByteArray := prog_1_method_40_code
def yX0_costOfProof : MethodName := ⟨RX0, "costOfProof", "(I[IZ)I"⟩
abbrev cX0_costOfStep : ByteArray := prog_1_method_41_code
def yX0_costOfStep : MethodName := ⟨RX0, "costOfStep", "(I[IZ)I"⟩
abbrev cX0_orNone : ByteArray := prog_1_method_42_code
def yX0_orNone : MethodName := ⟨RX0, "orNone", "(I)I"⟩
abbrev cX0_lemmasCitedBy : ByteArray := prog_1_method_43_code
def yX0_lemmasCitedBy : MethodName := ⟨RX0, "lemmasCitedBy", "(I)I"⟩
abbrev cX0_lemmasCitedByAll : ByteArray := prog_1_method_44_code
def yX0_lemmasCitedByAll : MethodName := ⟨RX0, "lemmasCitedByAll", "(I)I"⟩
abbrev cX0_isIn : ByteArray := prog_1_method_45_code
def yX0_isIn : MethodName := ⟨RX0, "isIn", "(II)Z"⟩
abbrev cX0_citesToItself : ByteArray := prog_1_method_46_code
def yX0_citesToItself : MethodName := ⟨RX0, "citesToItself", "(I)I"⟩
abbrev cX0_lemmaTells : ByteArray := prog_1_method_47_code
def yX0_lemmaTells : MethodName := ⟨RX0, "lemmaTells", "(II)I"⟩
abbrev cX0_stepsOf : ByteArray := prog_1_method_48_code
def yX0_stepsOf : MethodName := ⟨RX0, "stepsOf", "(I)I"⟩
abbrev cX0_openOf : ByteArray := prog_1_method_49_code
def yX0_openOf : MethodName := ⟨RX0, "openOf", "(I)I"⟩
abbrev cX0_stepTells : ByteArray := prog_1_method_50_code
def yX0_stepTells : MethodName := ⟨RX0, "stepTells", "(II)I"⟩
abbrev cX0_countOf : ByteArray := prog_1_method_51_code
def yX0_countOf : MethodName := ⟨RX0, "countOf", "(I)I"⟩
abbrev cX0_axiomsTaken : ByteArray := prog_1_method_52_code
def yX0_axiomsTaken : MethodName := ⟨RX0, "axiomsTaken", "()I"⟩
abbrev cX0_overLemmas : ByteArray := prog_1_method_53_code
def yX0_overLemmas : MethodName := ⟨RX0, "overLemmas", "(I)I"⟩
abbrev cX0_lemmasInCircles : ByteArray := prog_1_method_54_code
def yX0_lemmasInCircles : MethodName := ⟨RX0, "lemmasInCircles", "()I"⟩
abbrev cX0_provedIfClosed : ByteArray := prog_1_method_55_code
def yX0_provedIfClosed : MethodName := ⟨RX0, "provedIfClosed", "(I)I"⟩
abbrev cX0_digestLemma : ByteArray := prog_1_method_56_code
def yX0_digestLemma : MethodName := ⟨RX0, "digestLemma", "(JI)J"⟩
abbrev cX0_digestProof : ByteArray := prog_1_method_57_code
def yX0_digestProof : MethodName := ⟨RX0, "digestProof", "(JI)J"⟩
def RX1 : String := "LodgeProofsLaw$Sim"
def TX1 : u_T := fun k => match k with
  | 0 => ("LodgeProofsLaw$Sim", "taken", "[Z", false)
  | _ => ("LodgeProofsLaw$Sim", "all", "[[[[I", false)
def tyX1 : Nat → FieldType := fun k => match k with
  | 0 => .array .boolean
  | _ => .array (.array (.array (.array .int)))
abbrev wsX10 : List Cond := u_ws RX1 TX1 2
theorem nmX1 : ∀ a, a < 2 → ∀ b, b < 2 → a ≠ b → (TX1 a).2.1 ≠ (TX1 b).2.1 := by decide +kernel
theorem tyX1_ok : ∀ k, k < 2 → parseFieldDescriptor (TX1 k).2.2.1 = some (tyX1 k) := by decide +kernel
abbrev cX1_init : ByteArray := prog_3_method_1_code
def yX1_init : MethodName := ⟨RX1, "<init>", "()V"⟩
abbrev cX1_more : ByteArray := prog_3_method_2_code
def yX1_more : MethodName := ⟨RX1, "more", "([[I[I)[[I"⟩
abbrev cX1_lemma : ByteArray := prog_3_method_3_code
def yX1_lemma : MethodName := ⟨RX1, "lemma", "()V"⟩
abbrev cX1_proof : ByteArray := prog_3_method_4_code
def yX1_proof : MethodName := ⟨RX1, "proof", "(I)V"⟩
abbrev cX1_strike : ByteArray := prog_3_method_5_code
def yX1_strike : MethodName := ⟨RX1, "strike", "(II)V"⟩
abbrev cX1_isWhole : ByteArray := prog_3_method_6_code
def yX1_isWhole : MethodName := ⟨RX1, "isWhole", "([[I)Z"⟩
abbrev cX1_holds : ByteArray := prog_3_method_7_code
def yX1_holds : MethodName := ⟨RX1, "holds", "([[I[I)Z"⟩
abbrev cX1_stages : ByteArray := prog_3_method_8_code
def yX1_stages : MethodName := ⟨RX1, "stages", "(I)[I"⟩
abbrev cX1_measure : ByteArray := prog_3_method_10_code
def yX1_measure : MethodName := ⟨RX1, "measure", "([[I[II)I"⟩
abbrev cX1_measures : ByteArray := prog_3_method_11_code
def yX1_measures : MethodName := ⟨RX1, "measures", "(I)[I"⟩
abbrev cX1_on : ByteArray := prog_3_method_12_code
def yX1_on : MethodName := ⟨RX1, "on", "([Z)[Z"⟩
abbrev cX1_circle : ByteArray := prog_3_method_13_code
def yX1_circle : MethodName := ⟨RX1, "circle", "(I)I"⟩
abbrev cX1_isSame : ByteArray := prog_3_method_14_code
def yX1_isSame : MethodName := ⟨RX1, "isSame", "(LLodgeProofs;)Z"⟩
def RX2 : String := "LodgeProofsModel"
def TX2 : u_T := fun k => match k with
  | _ => ("", "", "", false)
def tyX2 : Nat → FieldType := fun k => match k with
  | _ => .int
abbrev wsX20 : List Cond := u_ws RX2 TX2 0
theorem nmX2 : ∀ a, a < 0 → ∀ b, b < 0 → a ≠ b → (TX2 a).2.1 ≠ (TX2 b).2.1 := by decide +kernel
theorem tyX2_ok : ∀ k, k < 0 → parseFieldDescriptor (TX2 k).2.2.1 = some (tyX2 k) := by decide +kernel
def RJx145de : String := "java/io/Serializable"
def TJx145de : u_T := fun k => match k with
  | _ => ("", "", "", false)
def tyJx145de : Nat → FieldType := fun k => match k with
  | _ => .int
abbrev wsJx145de0 : List Cond := u_ws RJx145de TJx145de 0
theorem nmJx145de : ∀ a, a < 0 → ∀ b, b < 0 → a ≠ b → (TJx145de a).2.1 ≠ (TJx145de b).2.1 := by decide +kernel
theorem tyJx145de_ok : ∀ k, k < 0 → parseFieldDescriptor (TJx145de k).2.2.1 = some (tyJx145de k) := by decide +kernel
def RJx8e188 : String := "java/lang/Cloneable"
def TJx8e188 : u_T := fun k => match k with
  | _ => ("", "", "", false)
def tyJx8e188 : Nat → FieldType := fun k => match k with
  | _ => .int
abbrev wsJx8e1880 : List Cond := u_ws RJx8e188 TJx8e188 0
theorem nmJx8e188 : ∀ a, a < 0 → ∀ b, b < 0 → a ≠ b → (TJx8e188 a).2.1 ≠ (TJx8e188 b).2.1 := by decide +kernel
theorem tyJx8e188_ok : ∀ k, k < 0 → parseFieldDescriptor (TJx8e188 k).2.2.1 = some (tyJx8e188 k) := by decide +kernel
def RJ9 : String := "java/lang/Math"
def TJ9 : u_T := fun k => match k with
  | _ => ("", "", "", false)
def tyJ9 : Nat → FieldType := fun k => match k with
  | _ => .int
abbrev wsJ90 : List Cond := u_ws RJ9 TJ9 0
theorem nmJ9 : ∀ a, a < 0 → ∀ b, b < 0 → a ≠ b → (TJ9 a).2.1 ≠ (TJ9 b).2.1 := by decide +kernel
theorem tyJ9_ok : ∀ k, k < 0 → parseFieldDescriptor (TJ9 k).2.2.1 = some (tyJ9 k) := by decide +kernel
abbrev cJ9_max_7cf53 : ByteArray := prog_10_method_65_code
def yJ9_max_7cf53 : MethodName := ⟨RJ9, "max", "(II)I"⟩
abbrev cJ9_min_7cf53 : ByteArray := prog_10_method_69_code
def yJ9_min_7cf53 : MethodName := ⟨RJ9, "min", "(II)I"⟩
def RJ0 : String := "java/lang/String"
def TJ0 : u_T := fun k => match k with
  | _ => ("", "", "", false)
def tyJ0 : Nat → FieldType := fun k => match k with
  | _ => .int
abbrev wsJ00 : List Cond := u_ws RJ0 TJ0 0
theorem nmJ0 : ∀ a, a < 0 → ∀ b, b < 0 → a ≠ b → (TJ0 a).2.1 ≠ (TJ0 b).2.1 := by decide +kernel
theorem tyJ0_ok : ∀ k, k < 0 → parseFieldDescriptor (TJ0 k).2.2.1 = some (tyJ0 k) := by decide +kernel
def RJ7 : String := "java/util/Arrays"
def TJ7 : u_T := fun k => match k with
  | _ => ("", "", "", false)
def tyJ7 : Nat → FieldType := fun k => match k with
  | _ => .int
abbrev wsJ70 : List Cond := u_ws RJ7 TJ7 0
theorem nmJ7 : ∀ a, a < 0 → ∀ b, b < 0 → a ≠ b → (TJ7 a).2.1 ≠ (TJ7 b).2.1 := by decide +kernel
theorem tyJ7_ok : ∀ k, k < 0 → parseFieldDescriptor (TJ7 k).2.2.1 = some (tyJ7 k) := by decide +kernel
abbrev cJ7_fill_53178 : ByteArray := prog_14_method_103_code
def yJ7_fill_53178 : MethodName := ⟨RJ7, "fill", "([II)V"⟩
def RL : String := "LodgeProofsLaw"
abbrev cL_below : ByteArray := method_2_code
def yL_below : MethodName := ⟨RL, "below", "(II)I"⟩
abbrev cL_cell : ByteArray := method_3_code
def yL_cell : MethodName := ⟨RL, "cell", "([II)I"⟩
abbrev cL_act : ByteArray := method_4_code
def yL_act : MethodName := ⟨RL, "act", "(LLodgeProofs;LLodgeProofsLaw$Sim;I)Z"⟩
abbrev cL_build : ByteArray := method_5_code
def yL_build : MethodName := ⟨RL, "build", "(LLodgeProofs;[I)LLodgeProofsLaw$Sim;"⟩
abbrev cL_law : ByteArray := code
def yL_law : MethodName := ⟨RL, "law", "([I)Z"⟩
abbrev vwCl : List vw_C := [(RX0, TX0, 15), (RX1, TX1, 2)]
