/-! the good words of the law's table: ONE list for every contract; where each word stands in it -/
def WW : List Cond := lw_tbl.filter goodWord
theorem WW_in : ∀ w ∈ WW, w ∈ lw_tbl := fun _ h => (List.mem_filter.mp h).1
theorem WW_good : ∀ w ∈ WW, (w.onTables && w.keeps) = true ∨ ∃ ty, w = .arrayClass ty := fun _ h => good_of_word (List.mem_filter.mp h).2
theorem WW_of {w : Cond} (h : w ∈ lw_tbl) (g : goodWord w = true) : w ∈ WW := List.mem_filter.mpr ⟨h, g⟩
theorem WW_flt {L : List Cond} (h : ∀ w ∈ L.filter goodWord, w ∈ lw_tbl) : ∀ w ∈ L.filter goodWord, w ∈ WW := fun w hw => List.mem_filter.mpr ⟨h w hw, (List.mem_filter.mp hw).2⟩
set_option maxRecDepth 20000 in
theorem inWX0 : ∀ w ∈ wsX00, w ∈ WW := fun w h => WW_of ((by decide +kernel : ∀ w ∈ wsX00, w ∈ lw_tbl) w h) (List.all_eq_true.mp (by decide +kernel : wsX00.all goodWord = true) w h)
set_option maxRecDepth 20000 in
theorem inWX1 : ∀ w ∈ wsX10, w ∈ WW := fun w h => WW_of ((by decide +kernel : ∀ w ∈ wsX10, w ∈ lw_tbl) w h) (List.all_eq_true.mp (by decide +kernel : wsX10.all goodWord = true) w h)
set_option maxRecDepth 20000 in
theorem inWX2 : ∀ w ∈ wsX20, w ∈ WW := fun w h => WW_of ((by decide +kernel : ∀ w ∈ wsX20, w ∈ lw_tbl) w h) (List.all_eq_true.mp (by decide +kernel : wsX20.all goodWord = true) w h)
theorem qS_X0_settle : Cond.selects RX0 yX0_settle yX0_settle ∈ WW := List.mem_filter.mpr ⟨List.mem_append_left _ (List.mem_of_getElem? (i := 1) rfl), rfl⟩
theorem qS_X0_prove : Cond.selects RX0 yX0_prove yX0_prove ∈ WW := List.mem_filter.mpr ⟨List.mem_append_left _ (List.mem_of_getElem? (i := 2) rfl), rfl⟩
theorem qS_X0_hasProofAt : Cond.selects RX0 yX0_hasProofAt yX0_hasProofAt ∈ WW := List.mem_filter.mpr ⟨List.mem_append_left _ (List.mem_of_getElem? (i := 3) rfl), rfl⟩
theorem qS_X0_holds : Cond.selects RX0 yX0_holds yX0_holds ∈ WW := List.mem_filter.mpr ⟨List.mem_append_left _ (List.mem_of_getElem? (i := 4) rfl), rfl⟩
theorem qS_X0_isWhole : Cond.selects RX0 yX0_isWhole yX0_isWhole ∈ WW := List.mem_filter.mpr ⟨List.mem_append_left _ (List.mem_of_getElem? (i := 5) rfl), rfl⟩
theorem qS_X0_endOfSteps : Cond.selects RX0 yX0_endOfSteps yX0_endOfSteps ∈ WW := List.mem_filter.mpr ⟨List.mem_append_left _ (List.mem_of_getElem? (i := 6) rfl), rfl⟩
theorem qS_X0_stepHolds : Cond.selects RX0 yX0_stepHolds yX0_stepHolds ∈ WW := List.mem_filter.mpr ⟨List.mem_append_left _ (List.mem_of_getElem? (i := 7) rfl), rfl⟩
theorem qS_X0_isLemma : Cond.selects RX0 yX0_isLemma yX0_isLemma ∈ WW := List.mem_filter.mpr ⟨List.mem_append_left _ (List.mem_of_getElem? (i := 8) rfl), rfl⟩
theorem qS_X0_reckon : Cond.selects RX0 yX0_reckon yX0_reckon ∈ WW := List.mem_filter.mpr ⟨List.mem_append_left _ (List.mem_of_getElem? (i := 9) rfl), rfl⟩
theorem qS_X0_reckonRound : Cond.selects RX0 yX0_reckonRound yX0_reckonRound ∈ WW := List.mem_filter.mpr ⟨List.mem_append_left _ (List.mem_of_getElem? (i := 10) rfl), rfl⟩
theorem qS_X0_costOfProof : Cond.selects RX0 yX0_costOfProof yX0_costOfProof ∈ WW := List.mem_filter.mpr ⟨List.mem_append_left _ (List.mem_of_getElem? (i := 11) rfl), rfl⟩
theorem qS_X0_costOfStep : Cond.selects RX0 yX0_costOfStep yX0_costOfStep ∈ WW := List.mem_filter.mpr ⟨List.mem_append_left _ (List.mem_of_getElem? (i := 12) rfl), rfl⟩
theorem qS_X0_lemmasCitedBy : Cond.selects RX0 yX0_lemmasCitedBy yX0_lemmasCitedBy ∈ WW := List.mem_filter.mpr ⟨List.mem_append_left _ (List.mem_of_getElem? (i := 13) rfl), rfl⟩
theorem qS_X0_citesToItself : Cond.selects RX0 yX0_citesToItself yX0_citesToItself ∈ WW := List.mem_filter.mpr ⟨List.mem_append_left _ (List.mem_of_getElem? (i := 14) rfl), rfl⟩
theorem qS_X0_lemmasCitedByAll : Cond.selects RX0 yX0_lemmasCitedByAll yX0_lemmasCitedByAll ∈ WW := List.mem_filter.mpr ⟨List.mem_append_left _ (List.mem_of_getElem? (i := 15) rfl), rfl⟩
theorem qS_X0_requireStep : Cond.selects RX0 yX0_requireStep yX0_requireStep ∈ WW := List.mem_filter.mpr ⟨List.mem_append_left _ (List.mem_of_getElem? (i := 16) rfl), rfl⟩
theorem qS_X0_requireProof : Cond.selects RX0 yX0_requireProof yX0_requireProof ∈ WW := List.mem_filter.mpr ⟨List.mem_append_left _ (List.mem_of_getElem? (i := 17) rfl), rfl⟩
theorem qS_X0_requireLemma : Cond.selects RX0 yX0_requireLemma yX0_requireLemma ∈ WW := List.mem_filter.mpr ⟨List.mem_append_left _ (List.mem_of_getElem? (i := 18) rfl), rfl⟩
theorem qS_X0_lemmaTells : Cond.selects RX0 yX0_lemmaTells yX0_lemmaTells ∈ WW := List.mem_filter.mpr ⟨List.mem_append_left _ (List.mem_of_getElem? (i := 19) rfl), rfl⟩
theorem qS_X0_stepsOf : Cond.selects RX0 yX0_stepsOf yX0_stepsOf ∈ WW := List.mem_filter.mpr ⟨List.mem_append_left _ (List.mem_of_getElem? (i := 20) rfl), rfl⟩
theorem qS_X0_openOf : Cond.selects RX0 yX0_openOf yX0_openOf ∈ WW := List.mem_filter.mpr ⟨List.mem_append_left _ (List.mem_of_getElem? (i := 21) rfl), rfl⟩
theorem qS_X0_stepTells : Cond.selects RX0 yX0_stepTells yX0_stepTells ∈ WW := List.mem_filter.mpr ⟨List.mem_append_left _ (List.mem_of_getElem? (i := 22) rfl), rfl⟩
theorem qS_X0_countOf : Cond.selects RX0 yX0_countOf yX0_countOf ∈ WW := List.mem_filter.mpr ⟨List.mem_append_left _ (List.mem_of_getElem? (i := 23) rfl), rfl⟩
theorem qS_X0_axiomsTaken : Cond.selects RX0 yX0_axiomsTaken yX0_axiomsTaken ∈ WW := List.mem_filter.mpr ⟨List.mem_append_left _ (List.mem_of_getElem? (i := 24) rfl), rfl⟩
theorem qS_X0_overLemmas : Cond.selects RX0 yX0_overLemmas yX0_overLemmas ∈ WW := List.mem_filter.mpr ⟨List.mem_append_left _ (List.mem_of_getElem? (i := 25) rfl), rfl⟩
theorem qS_X0_lemmasInCircles : Cond.selects RX0 yX0_lemmasInCircles yX0_lemmasInCircles ∈ WW := List.mem_filter.mpr ⟨List.mem_append_left _ (List.mem_of_getElem? (i := 26) rfl), rfl⟩
theorem qS_X0_provedIfClosed : Cond.selects RX0 yX0_provedIfClosed yX0_provedIfClosed ∈ WW := List.mem_filter.mpr ⟨List.mem_append_left _ (List.mem_of_getElem? (i := 27) rfl), rfl⟩
theorem qS_X0_digestLemma : Cond.selects RX0 yX0_digestLemma yX0_digestLemma ∈ WW := List.mem_filter.mpr ⟨List.mem_append_left _ (List.mem_of_getElem? (i := 28) rfl), rfl⟩
theorem qS_X0_digestProof : Cond.selects RX0 yX0_digestProof yX0_digestProof ∈ WW := List.mem_filter.mpr ⟨List.mem_append_left _ (List.mem_of_getElem? (i := 29) rfl), rfl⟩
theorem qS_X0_moveUp : Cond.selects RX0 yX0_moveUp yX0_moveUp ∈ WW := List.mem_filter.mpr ⟨List.mem_append_left _ (List.mem_of_getElem? (i := 30) rfl), rfl⟩
theorem qS_X0_requireCitable : Cond.selects RX0 yX0_requireCitable yX0_requireCitable ∈ WW := List.mem_filter.mpr ⟨List.mem_append_left _ (List.mem_of_getElem? (i := 31) rfl), rfl⟩
theorem qN_L : Cond.initialized RL ∈ WW := List.mem_filter.mpr ⟨List.mem_append_right _ (List.mem_append_left _ (List.mem_of_getElem? (i := 0) rfl)), rfl⟩
theorem qN_X0 : Cond.initialized RX0 ∈ WW := List.mem_filter.mpr ⟨List.mem_append_right _ (List.mem_append_left _ (List.mem_of_getElem? (i := 1) rfl)), rfl⟩
theorem qN_X1 : Cond.initialized RX1 ∈ WW := List.mem_filter.mpr ⟨List.mem_append_right _ (List.mem_append_left _ (List.mem_of_getElem? (i := 2) rfl)), rfl⟩
theorem qN_Throwable : Cond.initialized "java/lang/Throwable" ∈ WW := List.mem_filter.mpr ⟨List.mem_append_right _ (List.mem_append_left _ (List.mem_of_getElem? (i := 3) rfl)), rfl⟩
theorem qN_Exception : Cond.initialized "java/lang/Exception" ∈ WW := List.mem_filter.mpr ⟨List.mem_append_right _ (List.mem_append_left _ (List.mem_of_getElem? (i := 4) rfl)), rfl⟩
theorem qN_RuntimeException : Cond.initialized "java/lang/RuntimeException" ∈ WW := List.mem_filter.mpr ⟨List.mem_append_right _ (List.mem_append_left _ (List.mem_of_getElem? (i := 5) rfl)), rfl⟩
theorem qN_IllegalStateException : Cond.initialized "java/lang/IllegalStateException" ∈ WW := List.mem_filter.mpr ⟨List.mem_append_right _ (List.mem_append_left _ (List.mem_of_getElem? (i := 6) rfl)), rfl⟩
theorem qN_J7 : Cond.initialized RJ7 ∈ WW := List.mem_filter.mpr ⟨List.mem_append_right _ (List.mem_append_left _ (List.mem_of_getElem? (i := 7) rfl)), rfl⟩
theorem qN_J9 : Cond.initialized RJ9 ∈ WW := List.mem_filter.mpr ⟨List.mem_append_right _ (List.mem_append_left _ (List.mem_of_getElem? (i := 8) rfl)), rfl⟩
theorem qN_IndexOutOfBoundsException : Cond.initialized "java/lang/IndexOutOfBoundsException" ∈ WW := List.mem_filter.mpr ⟨List.mem_append_right _ (List.mem_append_left _ (List.mem_of_getElem? (i := 9) rfl)), rfl⟩
theorem qN_IllegalArgumentException : Cond.initialized "java/lang/IllegalArgumentException" ∈ WW := List.mem_filter.mpr ⟨List.mem_append_right _ (List.mem_append_left _ (List.mem_of_getElem? (i := 10) rfl)), rfl⟩
theorem qK_L_26 : Cond.classLink RL 26 RX0 ∈ WW := List.mem_filter.mpr ⟨List.mem_append_right _ (List.mem_append_left _ (List.mem_of_getElem? (i := 11) rfl)), rfl⟩
theorem qB_X0 : Cond.instantiable RX0 15 ∈ WW := List.mem_filter.mpr ⟨List.mem_append_right _ (List.mem_append_left _ (List.mem_of_getElem? (i := 12) rfl)), rfl⟩
theorem qM_L_77 : Cond.methodLink RL 77 yX0_init ∈ WW := List.mem_filter.mpr ⟨List.mem_append_right _ (List.mem_append_left _ (List.mem_of_getElem? (i := 13) rfl)), rfl⟩
theorem qI_X0_init : Cond.instanceMethod yX0_init ∈ WW := List.mem_filter.mpr ⟨List.mem_append_right _ (List.mem_append_left _ (List.mem_of_getElem? (i := 14) rfl)), rfl⟩
theorem qC_X0_init : Cond.code yX0_init cX0_init 2 none ∈ WW := List.mem_filter.mpr ⟨List.mem_append_right _ (List.mem_append_left _ (List.mem_of_getElem? (i := 15) rfl)), rfl⟩
theorem qM_X0_1 : Cond.methodLink RX0 1 objectInit ∈ WW := List.mem_filter.mpr ⟨List.mem_append_right _ (List.mem_append_left _ (List.mem_of_getElem? (i := 16) rfl)), rfl⟩
theorem qI_objinit : Cond.instanceMethod objectInit ∈ WW := List.mem_filter.mpr ⟨List.mem_append_right _ (List.mem_append_left _ (List.mem_of_getElem? (i := 17) rfl)), rfl⟩
theorem qC_objinit : Cond.code objectInit ⟨#[0xb1]⟩ 1 none ∈ WW := List.mem_filter.mpr ⟨List.mem_append_right _ (List.mem_append_left _ (List.mem_of_getElem? (i := 18) rfl)), rfl⟩
theorem qF_X0_9 : Cond.fieldLink RX0 9 "LodgeProofs" "taken" "[Z" ∈ WW := List.mem_filter.mpr ⟨List.mem_append_right _ (List.mem_append_left _ (List.mem_of_getElem? (i := 19) rfl)), rfl⟩
theorem qF_X0_57 : Cond.fieldLink RX0 57 "LodgeProofs" "lemmas" "I" ∈ WW := List.mem_filter.mpr ⟨List.mem_append_right _ (List.mem_append_left _ (List.mem_of_getElem? (i := 20) rfl)), rfl⟩
theorem qF_X0_13 : Cond.fieldLink RX0 13 "LodgeProofs" "proofs" "[I" ∈ WW := List.mem_filter.mpr ⟨List.mem_append_right _ (List.mem_append_left _ (List.mem_of_getElem? (i := 21) rfl)), rfl⟩
theorem qF_X0_17 : Cond.fieldLink RX0 17 "LodgeProofs" "steps" "[I" ∈ WW := List.mem_filter.mpr ⟨List.mem_append_right _ (List.mem_append_left _ (List.mem_of_getElem? (i := 22) rfl)), rfl⟩
theorem qF_X0_20 : Cond.fieldLink RX0 20 "LodgeProofs" "kinds" "[I" ∈ WW := List.mem_filter.mpr ⟨List.mem_append_right _ (List.mem_append_left _ (List.mem_of_getElem? (i := 23) rfl)), rfl⟩
theorem qF_X0_23 : Cond.fieldLink RX0 23 "LodgeProofs" "cited" "[I" ∈ WW := List.mem_filter.mpr ⟨List.mem_append_right _ (List.mem_append_left _ (List.mem_of_getElem? (i := 24) rfl)), rfl⟩
theorem qF_X0_26 : Cond.fieldLink RX0 26 "LodgeProofs" "open" "[I" ∈ WW := List.mem_filter.mpr ⟨List.mem_append_right _ (List.mem_append_left _ (List.mem_of_getElem? (i := 25) rfl)), rfl⟩
theorem qF_X0_29 : Cond.fieldLink RX0 29 "LodgeProofs" "withdrawn" "[Z" ∈ WW := List.mem_filter.mpr ⟨List.mem_append_right _ (List.mem_append_left _ (List.mem_of_getElem? (i := 26) rfl)), rfl⟩
theorem qF_X0_140 : Cond.fieldLink RX0 140 "LodgeProofs" "proved" "I" ∈ WW := List.mem_filter.mpr ⟨List.mem_append_right _ (List.mem_append_left _ (List.mem_of_getElem? (i := 27) rfl)), rfl⟩
theorem qF_X0_32 : Cond.fieldLink RX0 32 "LodgeProofs" "stages" "[I" ∈ WW := List.mem_filter.mpr ⟨List.mem_append_right _ (List.mem_append_left _ (List.mem_of_getElem? (i := 28) rfl)), rfl⟩
theorem qF_X0_35 : Cond.fieldLink RX0 35 "LodgeProofs" "lengths" "[I" ∈ WW := List.mem_filter.mpr ⟨List.mem_append_right _ (List.mem_append_left _ (List.mem_of_getElem? (i := 29) rfl)), rfl⟩
theorem qF_X0_38 : Cond.fieldLink RX0 38 "LodgeProofs" "prices" "[I" ∈ WW := List.mem_filter.mpr ⟨List.mem_append_right _ (List.mem_append_left _ (List.mem_of_getElem? (i := 30) rfl)), rfl⟩
theorem qF_X0_41 : Cond.fieldLink RX0 41 "LodgeProofs" "leads" "[I" ∈ WW := List.mem_filter.mpr ⟨List.mem_append_right _ (List.mem_append_left _ (List.mem_of_getElem? (i := 31) rfl)), rfl⟩
theorem qF_X0_44 : Cond.fieldLink RX0 44 "LodgeProofs" "circles" "[I" ∈ WW := List.mem_filter.mpr ⟨List.mem_append_right _ (List.mem_append_left _ (List.mem_of_getElem? (i := 32) rfl)), rfl⟩
theorem qF_X0_47 : Cond.fieldLink RX0 47 "LodgeProofs" "trial" "[I" ∈ WW := List.mem_filter.mpr ⟨List.mem_append_right _ (List.mem_append_left _ (List.mem_of_getElem? (i := 33) rfl)), rfl⟩
theorem qA_boolean : Cond.arrayClass .boolean ∈ WW := List.mem_filter.mpr ⟨List.mem_append_right _ (List.mem_append_left _ (List.mem_of_getElem? (i := 65) rfl)), rfl⟩
theorem qA_int : Cond.arrayClass .int ∈ WW := List.mem_filter.mpr ⟨List.mem_append_right _ (List.mem_append_left _ (List.mem_of_getElem? (i := 66) rfl)), rfl⟩
theorem qM_L_25 : Cond.methodLink RL 25 yX0_take ∈ WW := List.mem_filter.mpr ⟨List.mem_append_right _ (List.mem_append_left _ (List.mem_of_getElem? (i := 67) rfl)), rfl⟩
theorem qI_X0_take : Cond.instanceMethod yX0_take ∈ WW := List.mem_filter.mpr ⟨List.mem_append_right _ (List.mem_append_left _ (List.mem_of_getElem? (i := 68) rfl)), rfl⟩
theorem qS_X0_take : Cond.selects RX0 yX0_take yX0_take ∈ WW := List.mem_filter.mpr ⟨List.mem_append_right _ (List.mem_append_left _ (List.mem_of_getElem? (i := 69) rfl)), rfl⟩
theorem qC_X0_take : Cond.code yX0_take cX0_take 4 (some .boolean) ∈ WW := List.mem_filter.mpr ⟨List.mem_append_right _ (List.mem_append_left _ (List.mem_of_getElem? (i := 70) rfl)), rfl⟩
theorem qM_X0_50 : Cond.methodLink RX0 50 yX0_requireAxiom ∈ WW := List.mem_filter.mpr ⟨List.mem_append_right _ (List.mem_append_left _ (List.mem_of_getElem? (i := 71) rfl)), rfl⟩
theorem qT_X0_requireAxiom : Cond.static yX0_requireAxiom ∈ WW := List.mem_filter.mpr ⟨List.mem_append_right _ (List.mem_append_left _ (List.mem_of_getElem? (i := 72) rfl)), rfl⟩
theorem qC_X0_requireAxiom : Cond.code yX0_requireAxiom cX0_requireAxiom 1 none ∈ WW := List.mem_filter.mpr ⟨List.mem_append_right _ (List.mem_append_left _ (List.mem_of_getElem? (i := 73) rfl)), rfl⟩
theorem qM_X0_157 : Cond.methodLink RX0 157 yX0_isAxiom ∈ WW := List.mem_filter.mpr ⟨List.mem_append_right _ (List.mem_append_left _ (List.mem_of_getElem? (i := 74) rfl)), rfl⟩
theorem qT_X0_isAxiom : Cond.static yX0_isAxiom ∈ WW := List.mem_filter.mpr ⟨List.mem_append_right _ (List.mem_append_left _ (List.mem_of_getElem? (i := 75) rfl)), rfl⟩
theorem qC_X0_isAxiom : Cond.code yX0_isAxiom cX0_isAxiom 1 (some .boolean) ∈ WW := List.mem_filter.mpr ⟨List.mem_append_right _ (List.mem_append_left _ (List.mem_of_getElem? (i := 76) rfl)), rfl⟩
theorem qK_X0_161 : Cond.classLink RX0 161 "java/lang/IndexOutOfBoundsException" ∈ WW := List.mem_filter.mpr ⟨List.mem_append_right _ (List.mem_append_left _ (List.mem_of_getElem? (i := 77) rfl)), rfl⟩
theorem qX_IndexOutOfBoundsException : Cond.castable "java/lang/IndexOutOfBoundsException" "java/lang/IndexOutOfBoundsException" ∈ lw_tbl := List.mem_append_right _ (List.mem_append_left _ (List.mem_of_getElem? (i := 79) rfl))
theorem qA_byte : Cond.arrayClass .byte ∈ WW := List.mem_filter.mpr ⟨List.mem_append_right _ (List.mem_append_left _ (List.mem_of_getElem? (i := 144) rfl)), rfl⟩
theorem qM_X0_54 : Cond.methodLink RX0 54 yX0_settle ∈ WW := List.mem_filter.mpr ⟨List.mem_append_right _ (List.mem_append_left _ (List.mem_of_getElem? (i := 145) rfl)), rfl⟩
theorem qI_X0_settle : Cond.instanceMethod yX0_settle ∈ WW := List.mem_filter.mpr ⟨List.mem_append_right _ (List.mem_append_left _ (List.mem_of_getElem? (i := 147) rfl)), rfl⟩
theorem qC_X0_settle : Cond.code yX0_settle cX0_settle 2 none ∈ WW := List.mem_filter.mpr ⟨List.mem_append_right _ (List.mem_append_left _ (List.mem_of_getElem? (i := 148) rfl)), rfl⟩
theorem qM_X0_136 : Cond.methodLink RX0 136 yX0_prove ∈ WW := List.mem_filter.mpr ⟨List.mem_append_right _ (List.mem_append_left _ (List.mem_of_getElem? (i := 149) rfl)), rfl⟩
theorem qI_X0_prove : Cond.instanceMethod yX0_prove ∈ WW := List.mem_filter.mpr ⟨List.mem_append_right _ (List.mem_append_left _ (List.mem_of_getElem? (i := 151) rfl)), rfl⟩
theorem qC_X0_prove : Cond.code yX0_prove cX0_prove 7 (some .int) ∈ WW := List.mem_filter.mpr ⟨List.mem_append_right _ (List.mem_append_left _ (List.mem_of_getElem? (i := 152) rfl)), rfl⟩
theorem qM_X0_194 : Cond.methodLink RX0 194 yJ7_fill_53178 ∈ WW := List.mem_filter.mpr ⟨List.mem_append_right _ (List.mem_append_left _ (List.mem_of_getElem? (i := 153) rfl)), rfl⟩
theorem qT_J7_fill_53178 : Cond.static yJ7_fill_53178 ∈ WW := List.mem_filter.mpr ⟨List.mem_append_right _ (List.mem_append_left _ (List.mem_of_getElem? (i := 154) rfl)), rfl⟩
theorem qC_J7_fill_53178 : Cond.code yJ7_fill_53178 cJ7_fill_53178 4 none ∈ WW := List.mem_filter.mpr ⟨List.mem_append_right _ (List.mem_append_left _ (List.mem_of_getElem? (i := 155) rfl)), rfl⟩
theorem qM_X0_200 : Cond.methodLink RX0 200 yX0_hasProofAt ∈ WW := List.mem_filter.mpr ⟨List.mem_append_right _ (List.mem_append_left _ (List.mem_of_getElem? (i := 156) rfl)), rfl⟩
theorem qI_X0_hasProofAt : Cond.instanceMethod yX0_hasProofAt ∈ WW := List.mem_filter.mpr ⟨List.mem_append_right _ (List.mem_append_left _ (List.mem_of_getElem? (i := 158) rfl)), rfl⟩
theorem qC_X0_hasProofAt : Cond.code yX0_hasProofAt cX0_hasProofAt 5 (some .boolean) ∈ WW := List.mem_filter.mpr ⟨List.mem_append_right _ (List.mem_append_left _ (List.mem_of_getElem? (i := 159) rfl)), rfl⟩
theorem qM_X0_73 : Cond.methodLink RX0 73 yX0_slotOf ∈ WW := List.mem_filter.mpr ⟨List.mem_append_right _ (List.mem_append_left _ (List.mem_of_getElem? (i := 160) rfl)), rfl⟩
theorem qT_X0_slotOf : Cond.static yX0_slotOf ∈ WW := List.mem_filter.mpr ⟨List.mem_append_right _ (List.mem_append_left _ (List.mem_of_getElem? (i := 161) rfl)), rfl⟩
theorem qC_X0_slotOf : Cond.code yX0_slotOf cX0_slotOf 2 (some .int) ∈ WW := List.mem_filter.mpr ⟨List.mem_append_right _ (List.mem_append_left _ (List.mem_of_getElem? (i := 162) rfl)), rfl⟩
theorem qM_X0_122 : Cond.methodLink RX0 122 yX0_holds ∈ WW := List.mem_filter.mpr ⟨List.mem_append_right _ (List.mem_append_left _ (List.mem_of_getElem? (i := 163) rfl)), rfl⟩
theorem qI_X0_holds : Cond.instanceMethod yX0_holds ∈ WW := List.mem_filter.mpr ⟨List.mem_append_right _ (List.mem_append_left _ (List.mem_of_getElem? (i := 165) rfl)), rfl⟩
theorem qC_X0_holds : Cond.code yX0_holds cX0_holds 5 (some .boolean) ∈ WW := List.mem_filter.mpr ⟨List.mem_append_right _ (List.mem_append_left _ (List.mem_of_getElem? (i := 166) rfl)), rfl⟩
theorem qM_X0_203 : Cond.methodLink RX0 203 yX0_isWhole ∈ WW := List.mem_filter.mpr ⟨List.mem_append_right _ (List.mem_append_left _ (List.mem_of_getElem? (i := 167) rfl)), rfl⟩
theorem qI_X0_isWhole : Cond.instanceMethod yX0_isWhole ∈ WW := List.mem_filter.mpr ⟨List.mem_append_right _ (List.mem_append_left _ (List.mem_of_getElem? (i := 169) rfl)), rfl⟩
theorem qC_X0_isWhole : Cond.code yX0_isWhole cX0_isWhole 3 (some .boolean) ∈ WW := List.mem_filter.mpr ⟨List.mem_append_right _ (List.mem_append_left _ (List.mem_of_getElem? (i := 170) rfl)), rfl⟩
theorem qM_X0_181 : Cond.methodLink RX0 181 yX0_firstStepOf ∈ WW := List.mem_filter.mpr ⟨List.mem_append_right _ (List.mem_append_left _ (List.mem_of_getElem? (i := 171) rfl)), rfl⟩
theorem qT_X0_firstStepOf : Cond.static yX0_firstStepOf ∈ WW := List.mem_filter.mpr ⟨List.mem_append_right _ (List.mem_append_left _ (List.mem_of_getElem? (i := 172) rfl)), rfl⟩
theorem qC_X0_firstStepOf : Cond.code yX0_firstStepOf cX0_firstStepOf 1 (some .int) ∈ WW := List.mem_filter.mpr ⟨List.mem_append_right _ (List.mem_append_left _ (List.mem_of_getElem? (i := 173) rfl)), rfl⟩
theorem qM_X0_86 : Cond.methodLink RX0 86 yX0_endOfSteps ∈ WW := List.mem_filter.mpr ⟨List.mem_append_right _ (List.mem_append_left _ (List.mem_of_getElem? (i := 174) rfl)), rfl⟩
theorem qI_X0_endOfSteps : Cond.instanceMethod yX0_endOfSteps ∈ WW := List.mem_filter.mpr ⟨List.mem_append_right _ (List.mem_append_left _ (List.mem_of_getElem? (i := 176) rfl)), rfl⟩
theorem qC_X0_endOfSteps : Cond.code yX0_endOfSteps cX0_endOfSteps 2 (some .int) ∈ WW := List.mem_filter.mpr ⟨List.mem_append_right _ (List.mem_append_left _ (List.mem_of_getElem? (i := 177) rfl)), rfl⟩
theorem qM_X0_206 : Cond.methodLink RX0 206 yX0_stepHolds ∈ WW := List.mem_filter.mpr ⟨List.mem_append_right _ (List.mem_append_left _ (List.mem_of_getElem? (i := 178) rfl)), rfl⟩
theorem qI_X0_stepHolds : Cond.instanceMethod yX0_stepHolds ∈ WW := List.mem_filter.mpr ⟨List.mem_append_right _ (List.mem_append_left _ (List.mem_of_getElem? (i := 180) rfl)), rfl⟩
theorem qC_X0_stepHolds : Cond.code yX0_stepHolds cX0_stepHolds 5 (some .boolean) ∈ WW := List.mem_filter.mpr ⟨List.mem_append_right _ (List.mem_append_left _ (List.mem_of_getElem? (i := 181) rfl)), rfl⟩
theorem qM_X0_166 : Cond.methodLink RX0 166 yX0_isLemma ∈ WW := List.mem_filter.mpr ⟨List.mem_append_right _ (List.mem_append_left _ (List.mem_of_getElem? (i := 182) rfl)), rfl⟩
theorem qI_X0_isLemma : Cond.instanceMethod yX0_isLemma ∈ WW := List.mem_filter.mpr ⟨List.mem_append_right _ (List.mem_append_left _ (List.mem_of_getElem? (i := 184) rfl)), rfl⟩
theorem qC_X0_isLemma : Cond.code yX0_isLemma cX0_isLemma 2 (some .boolean) ∈ WW := List.mem_filter.mpr ⟨List.mem_append_right _ (List.mem_append_left _ (List.mem_of_getElem? (i := 185) rfl)), rfl⟩
theorem qM_X0_184 : Cond.methodLink RX0 184 yX0_reckon ∈ WW := List.mem_filter.mpr ⟨List.mem_append_right _ (List.mem_append_left _ (List.mem_of_getElem? (i := 186) rfl)), rfl⟩
theorem qI_X0_reckon : Cond.instanceMethod yX0_reckon ∈ WW := List.mem_filter.mpr ⟨List.mem_append_right _ (List.mem_append_left _ (List.mem_of_getElem? (i := 188) rfl)), rfl⟩
theorem qC_X0_reckon : Cond.code yX0_reckon cX0_reckon 4 none ∈ WW := List.mem_filter.mpr ⟨List.mem_append_right _ (List.mem_append_left _ (List.mem_of_getElem? (i := 189) rfl)), rfl⟩
theorem qM_X0_209 : Cond.methodLink RX0 209 yX0_reckonRound ∈ WW := List.mem_filter.mpr ⟨List.mem_append_right _ (List.mem_append_left _ (List.mem_of_getElem? (i := 190) rfl)), rfl⟩
theorem qI_X0_reckonRound : Cond.instanceMethod yX0_reckonRound ∈ WW := List.mem_filter.mpr ⟨List.mem_append_right _ (List.mem_append_left _ (List.mem_of_getElem? (i := 192) rfl)), rfl⟩
theorem qC_X0_reckonRound : Cond.code yX0_reckonRound cX0_reckonRound 7 (some .boolean) ∈ WW := List.mem_filter.mpr ⟨List.mem_append_right _ (List.mem_append_left _ (List.mem_of_getElem? (i := 193) rfl)), rfl⟩
theorem qM_X0_126 : Cond.methodLink RX0 126 yX0_costOfProof ∈ WW := List.mem_filter.mpr ⟨List.mem_append_right _ (List.mem_append_left _ (List.mem_of_getElem? (i := 194) rfl)), rfl⟩
theorem qI_X0_costOfProof : Cond.instanceMethod yX0_costOfProof ∈ WW := List.mem_filter.mpr ⟨List.mem_append_right _ (List.mem_append_left _ (List.mem_of_getElem? (i := 196) rfl)), rfl⟩
theorem qC_X0_costOfProof : Cond.code yX0_costOfProof cX0_costOfProof 6 (some .int) ∈ WW := List.mem_filter.mpr ⟨List.mem_append_right _ (List.mem_append_left _ (List.mem_of_getElem? (i := 197) rfl)), rfl⟩
theorem qM_X0_213 : Cond.methodLink RX0 213 yX0_costOfStep ∈ WW := List.mem_filter.mpr ⟨List.mem_append_right _ (List.mem_append_left _ (List.mem_of_getElem? (i := 198) rfl)), rfl⟩
theorem qI_X0_costOfStep : Cond.instanceMethod yX0_costOfStep ∈ WW := List.mem_filter.mpr ⟨List.mem_append_right _ (List.mem_append_left _ (List.mem_of_getElem? (i := 200) rfl)), rfl⟩
theorem qC_X0_costOfStep : Cond.code yX0_costOfStep cX0_costOfStep 5 (some .int) ∈ WW := List.mem_filter.mpr ⟨List.mem_append_right _ (List.mem_append_left _ (List.mem_of_getElem? (i := 201) rfl)), rfl⟩
theorem qM_X0_216 : Cond.methodLink RX0 216 Lib.Math.min.name ∈ WW := List.mem_filter.mpr ⟨List.mem_append_right _ (List.mem_append_left _ (List.mem_of_getElem? (i := 202) rfl)), rfl⟩
theorem qT_mmin : Cond.static Lib.Math.min.name ∈ WW := List.mem_filter.mpr ⟨List.mem_append_right _ (List.mem_append_left _ (List.mem_of_getElem? (i := 203) rfl)), rfl⟩
theorem qC_mmin : Cond.code Lib.Math.min.name Lib.Math.min.code 2 (some .int) ∈ WW := List.mem_filter.mpr ⟨List.mem_append_right _ (List.mem_append_left _ (List.mem_of_getElem? (i := 204) rfl)), rfl⟩
theorem qM_X0_188 : Cond.methodLink RX0 188 yX0_lemmasCitedBy ∈ WW := List.mem_filter.mpr ⟨List.mem_append_right _ (List.mem_append_left _ (List.mem_of_getElem? (i := 205) rfl)), rfl⟩
theorem qI_X0_lemmasCitedBy : Cond.instanceMethod yX0_lemmasCitedBy ∈ WW := List.mem_filter.mpr ⟨List.mem_append_right _ (List.mem_append_left _ (List.mem_of_getElem? (i := 207) rfl)), rfl⟩
theorem qC_X0_lemmasCitedBy : Cond.code yX0_lemmasCitedBy cX0_lemmasCitedBy 6 (some .int) ∈ WW := List.mem_filter.mpr ⟨List.mem_append_right _ (List.mem_append_left _ (List.mem_of_getElem? (i := 208) rfl)), rfl⟩
theorem qM_X0_191 : Cond.methodLink RX0 191 yX0_citesToItself ∈ WW := List.mem_filter.mpr ⟨List.mem_append_right _ (List.mem_append_left _ (List.mem_of_getElem? (i := 209) rfl)), rfl⟩
theorem qI_X0_citesToItself : Cond.instanceMethod yX0_citesToItself ∈ WW := List.mem_filter.mpr ⟨List.mem_append_right _ (List.mem_append_left _ (List.mem_of_getElem? (i := 211) rfl)), rfl⟩
theorem qC_X0_citesToItself : Cond.code yX0_citesToItself cX0_citesToItself 4 (some .int) ∈ WW := List.mem_filter.mpr ⟨List.mem_append_right _ (List.mem_append_left _ (List.mem_of_getElem? (i := 212) rfl)), rfl⟩
theorem qM_X0_219 : Cond.methodLink RX0 219 yX0_isIn ∈ WW := List.mem_filter.mpr ⟨List.mem_append_right _ (List.mem_append_left _ (List.mem_of_getElem? (i := 213) rfl)), rfl⟩
theorem qT_X0_isIn : Cond.static yX0_isIn ∈ WW := List.mem_filter.mpr ⟨List.mem_append_right _ (List.mem_append_left _ (List.mem_of_getElem? (i := 214) rfl)), rfl⟩
theorem qC_X0_isIn : Cond.code yX0_isIn cX0_isIn 2 (some .boolean) ∈ WW := List.mem_filter.mpr ⟨List.mem_append_right _ (List.mem_append_left _ (List.mem_of_getElem? (i := 215) rfl)), rfl⟩
theorem qM_X0_223 : Cond.methodLink RX0 223 yX0_lemmasCitedByAll ∈ WW := List.mem_filter.mpr ⟨List.mem_append_right _ (List.mem_append_left _ (List.mem_of_getElem? (i := 216) rfl)), rfl⟩
theorem qI_X0_lemmasCitedByAll : Cond.instanceMethod yX0_lemmasCitedByAll ∈ WW := List.mem_filter.mpr ⟨List.mem_append_right _ (List.mem_append_left _ (List.mem_of_getElem? (i := 218) rfl)), rfl⟩
theorem qC_X0_lemmasCitedByAll : Cond.code yX0_lemmasCitedByAll cX0_lemmasCitedByAll 4 (some .int) ∈ WW := List.mem_filter.mpr ⟨List.mem_append_right _ (List.mem_append_left _ (List.mem_of_getElem? (i := 219) rfl)), rfl⟩
theorem qM_L_61 : Cond.methodLink RL 61 yX0_patch ∈ WW := List.mem_filter.mpr ⟨List.mem_append_right _ (List.mem_append_left _ (List.mem_of_getElem? (i := 220) rfl)), rfl⟩
theorem qI_X0_patch : Cond.instanceMethod yX0_patch ∈ WW := List.mem_filter.mpr ⟨List.mem_append_right _ (List.mem_append_left _ (List.mem_of_getElem? (i := 221) rfl)), rfl⟩
theorem qS_X0_patch : Cond.selects RX0 yX0_patch yX0_patch ∈ WW := List.mem_filter.mpr ⟨List.mem_append_right _ (List.mem_append_left _ (List.mem_of_getElem? (i := 222) rfl)), rfl⟩
theorem qC_X0_patch : Cond.code yX0_patch cX0_patch 6 (some .int) ∈ WW := List.mem_filter.mpr ⟨List.mem_append_right _ (List.mem_append_left _ (List.mem_of_getElem? (i := 223) rfl)), rfl⟩
theorem qM_X0_90 : Cond.methodLink RX0 90 yX0_requireStep ∈ WW := List.mem_filter.mpr ⟨List.mem_append_right _ (List.mem_append_left _ (List.mem_of_getElem? (i := 224) rfl)), rfl⟩
theorem qI_X0_requireStep : Cond.instanceMethod yX0_requireStep ∈ WW := List.mem_filter.mpr ⟨List.mem_append_right _ (List.mem_append_left _ (List.mem_of_getElem? (i := 226) rfl)), rfl⟩
theorem qC_X0_requireStep : Cond.code yX0_requireStep cX0_requireStep 4 none ∈ WW := List.mem_filter.mpr ⟨List.mem_append_right _ (List.mem_append_left _ (List.mem_of_getElem? (i := 227) rfl)), rfl⟩
theorem qM_X0_77 : Cond.methodLink RX0 77 yX0_requireProof ∈ WW := List.mem_filter.mpr ⟨List.mem_append_right _ (List.mem_append_left _ (List.mem_of_getElem? (i := 228) rfl)), rfl⟩
theorem qI_X0_requireProof : Cond.instanceMethod yX0_requireProof ∈ WW := List.mem_filter.mpr ⟨List.mem_append_right _ (List.mem_append_left _ (List.mem_of_getElem? (i := 230) rfl)), rfl⟩
theorem qC_X0_requireProof : Cond.code yX0_requireProof cX0_requireProof 3 none ∈ WW := List.mem_filter.mpr ⟨List.mem_append_right _ (List.mem_append_left _ (List.mem_of_getElem? (i := 231) rfl)), rfl⟩
theorem qM_X0_68 : Cond.methodLink RX0 68 yX0_requireLemma ∈ WW := List.mem_filter.mpr ⟨List.mem_append_right _ (List.mem_append_left _ (List.mem_of_getElem? (i := 232) rfl)), rfl⟩
theorem qI_X0_requireLemma : Cond.instanceMethod yX0_requireLemma ∈ WW := List.mem_filter.mpr ⟨List.mem_append_right _ (List.mem_append_left _ (List.mem_of_getElem? (i := 234) rfl)), rfl⟩
theorem qC_X0_requireLemma : Cond.code yX0_requireLemma cX0_requireLemma 2 none ∈ WW := List.mem_filter.mpr ⟨List.mem_append_right _ (List.mem_append_left _ (List.mem_of_getElem? (i := 235) rfl)), rfl⟩
theorem qK_X0_94 : Cond.classLink RX0 94 "java/lang/IllegalArgumentException" ∈ WW := List.mem_filter.mpr ⟨List.mem_append_right _ (List.mem_append_left _ (List.mem_of_getElem? (i := 239) rfl)), rfl⟩
theorem qX_IllegalArgumentException : Cond.castable "java/lang/IllegalArgumentException" "java/lang/IllegalArgumentException" ∈ lw_tbl := List.mem_append_right _ (List.mem_append_right _ (List.mem_append_left _ (List.mem_of_getElem? (i := 1) rfl)))
theorem qM_X0_99 : Cond.methodLink RX0 99 yX0_stepAt ∈ WW := List.mem_filter.mpr ⟨List.mem_append_right _ (List.mem_append_right _ (List.mem_append_left _ (List.mem_of_getElem? (i := 15) rfl))), rfl⟩
theorem qT_X0_stepAt : Cond.static yX0_stepAt ∈ WW := List.mem_filter.mpr ⟨List.mem_append_right _ (List.mem_append_right _ (List.mem_append_left _ (List.mem_of_getElem? (i := 16) rfl))), rfl⟩
theorem qC_X0_stepAt : Cond.code yX0_stepAt cX0_stepAt 3 (some .int) ∈ WW := List.mem_filter.mpr ⟨List.mem_append_right _ (List.mem_append_right _ (List.mem_append_left _ (List.mem_of_getElem? (i := 17) rfl))), rfl⟩
theorem qK_X0_61 : Cond.classLink RX0 61 "java/lang/IllegalStateException" ∈ WW := List.mem_filter.mpr ⟨List.mem_append_right _ (List.mem_append_right _ (List.mem_append_left _ (List.mem_of_getElem? (i := 18) rfl))), rfl⟩
theorem qX_IllegalStateException : Cond.castable "java/lang/IllegalStateException" "java/lang/IllegalStateException" ∈ lw_tbl := List.mem_append_right _ (List.mem_append_right _ (List.mem_append_left _ (List.mem_of_getElem? (i := 20) rfl)))
theorem qM_X0_105 : Cond.methodLink RX0 105 Lib.Math.max.name ∈ WW := List.mem_filter.mpr ⟨List.mem_append_right _ (List.mem_append_right _ (List.mem_append_left _ (List.mem_of_getElem? (i := 34) rfl))), rfl⟩
theorem qT_mmax : Cond.static Lib.Math.max.name ∈ WW := List.mem_filter.mpr ⟨List.mem_append_right _ (List.mem_append_right _ (List.mem_append_left _ (List.mem_of_getElem? (i := 35) rfl))), rfl⟩
theorem qC_mmax : Cond.code Lib.Math.max.name Lib.Math.max.code 2 (some .int) ∈ WW := List.mem_filter.mpr ⟨List.mem_append_right _ (List.mem_append_right _ (List.mem_append_left _ (List.mem_of_getElem? (i := 36) rfl))), rfl⟩
theorem qM_L_52 : Cond.methodLink RL 52 yX0_withdraw ∈ WW := List.mem_filter.mpr ⟨List.mem_append_right _ (List.mem_append_right _ (List.mem_append_left _ (List.mem_of_getElem? (i := 37) rfl))), rfl⟩
theorem qI_X0_withdraw : Cond.instanceMethod yX0_withdraw ∈ WW := List.mem_filter.mpr ⟨List.mem_append_right _ (List.mem_append_right _ (List.mem_append_left _ (List.mem_of_getElem? (i := 38) rfl))), rfl⟩
theorem qS_X0_withdraw : Cond.selects RX0 yX0_withdraw yX0_withdraw ∈ WW := List.mem_filter.mpr ⟨List.mem_append_right _ (List.mem_append_right _ (List.mem_append_left _ (List.mem_of_getElem? (i := 39) rfl))), rfl⟩
theorem qC_X0_withdraw : Cond.code yX0_withdraw cX0_withdraw 5 (some .boolean) ∈ WW := List.mem_filter.mpr ⟨List.mem_append_right _ (List.mem_append_right _ (List.mem_append_left _ (List.mem_of_getElem? (i := 40) rfl))), rfl⟩
theorem qM_L_93 : Cond.methodLink RL 93 yX0_told ∈ WW := List.mem_filter.mpr ⟨List.mem_append_right _ (List.mem_append_right _ (List.mem_append_left _ (List.mem_of_getElem? (i := 41) rfl))), rfl⟩
theorem qI_X0_told : Cond.instanceMethod yX0_told ∈ WW := List.mem_filter.mpr ⟨List.mem_append_right _ (List.mem_append_right _ (List.mem_append_left _ (List.mem_of_getElem? (i := 42) rfl))), rfl⟩
theorem qS_X0_told : Cond.selects RX0 yX0_told yX0_told ∈ WW := List.mem_filter.mpr ⟨List.mem_append_right _ (List.mem_append_right _ (List.mem_append_left _ (List.mem_of_getElem? (i := 43) rfl))), rfl⟩
theorem qC_X0_told : Cond.code yX0_told cX0_told 3 (some .int) ∈ WW := List.mem_filter.mpr ⟨List.mem_append_right _ (List.mem_append_right _ (List.mem_append_left _ (List.mem_of_getElem? (i := 44) rfl))), rfl⟩
theorem qM_X0_113 : Cond.methodLink RX0 113 yX0_requireAsk ∈ WW := List.mem_filter.mpr ⟨List.mem_append_right _ (List.mem_append_right _ (List.mem_append_left _ (List.mem_of_getElem? (i := 45) rfl))), rfl⟩
theorem qT_X0_requireAsk : Cond.static yX0_requireAsk ∈ WW := List.mem_filter.mpr ⟨List.mem_append_right _ (List.mem_append_right _ (List.mem_append_left _ (List.mem_of_getElem? (i := 46) rfl))), rfl⟩
theorem qC_X0_requireAsk : Cond.code yX0_requireAsk cX0_requireAsk 2 none ∈ WW := List.mem_filter.mpr ⟨List.mem_append_right _ (List.mem_append_right _ (List.mem_append_left _ (List.mem_of_getElem? (i := 47) rfl))), rfl⟩
theorem qM_X0_116 : Cond.methodLink RX0 116 yX0_lemmaTells ∈ WW := List.mem_filter.mpr ⟨List.mem_append_right _ (List.mem_append_right _ (List.mem_append_left _ (List.mem_of_getElem? (i := 49) rfl))), rfl⟩
theorem qI_X0_lemmaTells : Cond.instanceMethod yX0_lemmaTells ∈ WW := List.mem_filter.mpr ⟨List.mem_append_right _ (List.mem_append_right _ (List.mem_append_left _ (List.mem_of_getElem? (i := 51) rfl))), rfl⟩
theorem qC_X0_lemmaTells : Cond.code yX0_lemmaTells cX0_lemmaTells 3 (some .int) ∈ WW := List.mem_filter.mpr ⟨List.mem_append_right _ (List.mem_append_right _ (List.mem_append_left _ (List.mem_of_getElem? (i := 52) rfl))), rfl⟩
theorem qM_X0_226 : Cond.methodLink RX0 226 yX0_stepsOf ∈ WW := List.mem_filter.mpr ⟨List.mem_append_right _ (List.mem_append_right _ (List.mem_append_left _ (List.mem_of_getElem? (i := 53) rfl))), rfl⟩
theorem qI_X0_stepsOf : Cond.instanceMethod yX0_stepsOf ∈ WW := List.mem_filter.mpr ⟨List.mem_append_right _ (List.mem_append_right _ (List.mem_append_left _ (List.mem_of_getElem? (i := 55) rfl))), rfl⟩
theorem qC_X0_stepsOf : Cond.code yX0_stepsOf cX0_stepsOf 4 (some .int) ∈ WW := List.mem_filter.mpr ⟨List.mem_append_right _ (List.mem_append_right _ (List.mem_append_left _ (List.mem_of_getElem? (i := 56) rfl))), rfl⟩
theorem qM_X0_130 : Cond.methodLink RX0 130 yX0_orNone ∈ WW := List.mem_filter.mpr ⟨List.mem_append_right _ (List.mem_append_right _ (List.mem_append_left _ (List.mem_of_getElem? (i := 57) rfl))), rfl⟩
theorem qT_X0_orNone : Cond.static yX0_orNone ∈ WW := List.mem_filter.mpr ⟨List.mem_append_right _ (List.mem_append_right _ (List.mem_append_left _ (List.mem_of_getElem? (i := 58) rfl))), rfl⟩
theorem qC_X0_orNone : Cond.code yX0_orNone cX0_orNone 1 (some .int) ∈ WW := List.mem_filter.mpr ⟨List.mem_append_right _ (List.mem_append_right _ (List.mem_append_left _ (List.mem_of_getElem? (i := 59) rfl))), rfl⟩
theorem qM_X0_229 : Cond.methodLink RX0 229 yX0_openOf ∈ WW := List.mem_filter.mpr ⟨List.mem_append_right _ (List.mem_append_right _ (List.mem_append_left _ (List.mem_of_getElem? (i := 60) rfl))), rfl⟩
theorem qI_X0_openOf : Cond.instanceMethod yX0_openOf ∈ WW := List.mem_filter.mpr ⟨List.mem_append_right _ (List.mem_append_right _ (List.mem_append_left _ (List.mem_of_getElem? (i := 62) rfl))), rfl⟩
theorem qC_X0_openOf : Cond.code yX0_openOf cX0_openOf 6 (some .int) ∈ WW := List.mem_filter.mpr ⟨List.mem_append_right _ (List.mem_append_right _ (List.mem_append_left _ (List.mem_of_getElem? (i := 63) rfl))), rfl⟩
theorem qM_L_103 : Cond.methodLink RL 103 yX0_step ∈ WW := List.mem_filter.mpr ⟨List.mem_append_right _ (List.mem_append_right _ (List.mem_append_left _ (List.mem_of_getElem? (i := 64) rfl))), rfl⟩
theorem qI_X0_step : Cond.instanceMethod yX0_step ∈ WW := List.mem_filter.mpr ⟨List.mem_append_right _ (List.mem_append_right _ (List.mem_append_left _ (List.mem_of_getElem? (i := 65) rfl))), rfl⟩
theorem qS_X0_step : Cond.selects RX0 yX0_step yX0_step ∈ WW := List.mem_filter.mpr ⟨List.mem_append_right _ (List.mem_append_right _ (List.mem_append_left _ (List.mem_of_getElem? (i := 66) rfl))), rfl⟩
theorem qC_X0_step : Cond.code yX0_step cX0_step 5 (some .int) ∈ WW := List.mem_filter.mpr ⟨List.mem_append_right _ (List.mem_append_right _ (List.mem_append_left _ (List.mem_of_getElem? (i := 67) rfl))), rfl⟩
theorem qM_X0_119 : Cond.methodLink RX0 119 yX0_stepTells ∈ WW := List.mem_filter.mpr ⟨List.mem_append_right _ (List.mem_append_right _ (List.mem_append_left _ (List.mem_of_getElem? (i := 68) rfl))), rfl⟩
theorem qI_X0_stepTells : Cond.instanceMethod yX0_stepTells ∈ WW := List.mem_filter.mpr ⟨List.mem_append_right _ (List.mem_append_right _ (List.mem_append_left _ (List.mem_of_getElem? (i := 70) rfl))), rfl⟩
theorem qC_X0_stepTells : Cond.code yX0_stepTells cX0_stepTells 3 (some .int) ∈ WW := List.mem_filter.mpr ⟨List.mem_append_right _ (List.mem_append_right _ (List.mem_append_left _ (List.mem_of_getElem? (i := 71) rfl))), rfl⟩
theorem qM_L_99 : Cond.methodLink RL 99 yX0_about ∈ WW := List.mem_filter.mpr ⟨List.mem_append_right _ (List.mem_append_right _ (List.mem_append_left _ (List.mem_of_getElem? (i := 72) rfl))), rfl⟩
theorem qI_X0_about : Cond.instanceMethod yX0_about ∈ WW := List.mem_filter.mpr ⟨List.mem_append_right _ (List.mem_append_right _ (List.mem_append_left _ (List.mem_of_getElem? (i := 73) rfl))), rfl⟩
theorem qS_X0_about : Cond.selects RX0 yX0_about yX0_about ∈ WW := List.mem_filter.mpr ⟨List.mem_append_right _ (List.mem_append_right _ (List.mem_append_left _ (List.mem_of_getElem? (i := 74) rfl))), rfl⟩
theorem qC_X0_about : Cond.code yX0_about cX0_about 5 (some .int) ∈ WW := List.mem_filter.mpr ⟨List.mem_append_right _ (List.mem_append_right _ (List.mem_append_left _ (List.mem_of_getElem? (i := 75) rfl))), rfl⟩
theorem qM_L_90 : Cond.methodLink RL 90 yX0_count ∈ WW := List.mem_filter.mpr ⟨List.mem_append_right _ (List.mem_append_right _ (List.mem_append_left _ (List.mem_of_getElem? (i := 76) rfl))), rfl⟩
theorem qI_X0_count : Cond.instanceMethod yX0_count ∈ WW := List.mem_filter.mpr ⟨List.mem_append_right _ (List.mem_append_right _ (List.mem_append_left _ (List.mem_of_getElem? (i := 77) rfl))), rfl⟩
theorem qS_X0_count : Cond.selects RX0 yX0_count yX0_count ∈ WW := List.mem_filter.mpr ⟨List.mem_append_right _ (List.mem_append_right _ (List.mem_append_left _ (List.mem_of_getElem? (i := 78) rfl))), rfl⟩
theorem qC_X0_count : Cond.code yX0_count cX0_count 2 (some .int) ∈ WW := List.mem_filter.mpr ⟨List.mem_append_right _ (List.mem_append_right _ (List.mem_append_left _ (List.mem_of_getElem? (i := 79) rfl))), rfl⟩
theorem qM_X0_133 : Cond.methodLink RX0 133 yX0_countOf ∈ WW := List.mem_filter.mpr ⟨List.mem_append_right _ (List.mem_append_right _ (List.mem_append_left _ (List.mem_of_getElem? (i := 80) rfl))), rfl⟩
theorem qI_X0_countOf : Cond.instanceMethod yX0_countOf ∈ WW := List.mem_filter.mpr ⟨List.mem_append_right _ (List.mem_append_right _ (List.mem_append_left _ (List.mem_of_getElem? (i := 82) rfl))), rfl⟩
theorem qC_X0_countOf : Cond.code yX0_countOf cX0_countOf 2 (some .int) ∈ WW := List.mem_filter.mpr ⟨List.mem_append_right _ (List.mem_append_right _ (List.mem_append_left _ (List.mem_of_getElem? (i := 83) rfl))), rfl⟩
theorem qM_X0_232 : Cond.methodLink RX0 232 yX0_axiomsTaken ∈ WW := List.mem_filter.mpr ⟨List.mem_append_right _ (List.mem_append_right _ (List.mem_append_left _ (List.mem_of_getElem? (i := 84) rfl))), rfl⟩
theorem qI_X0_axiomsTaken : Cond.instanceMethod yX0_axiomsTaken ∈ WW := List.mem_filter.mpr ⟨List.mem_append_right _ (List.mem_append_right _ (List.mem_append_left _ (List.mem_of_getElem? (i := 86) rfl))), rfl⟩
theorem qC_X0_axiomsTaken : Cond.code yX0_axiomsTaken cX0_axiomsTaken 3 (some .int) ∈ WW := List.mem_filter.mpr ⟨List.mem_append_right _ (List.mem_append_right _ (List.mem_append_left _ (List.mem_of_getElem? (i := 87) rfl))), rfl⟩
theorem qM_X0_146 : Cond.methodLink RX0 146 yX0_overLemmas ∈ WW := List.mem_filter.mpr ⟨List.mem_append_right _ (List.mem_append_right _ (List.mem_append_left _ (List.mem_of_getElem? (i := 88) rfl))), rfl⟩
theorem qI_X0_overLemmas : Cond.instanceMethod yX0_overLemmas ∈ WW := List.mem_filter.mpr ⟨List.mem_append_right _ (List.mem_append_right _ (List.mem_append_left _ (List.mem_of_getElem? (i := 90) rfl))), rfl⟩
theorem qC_X0_overLemmas : Cond.code yX0_overLemmas cX0_overLemmas 4 (some .int) ∈ WW := List.mem_filter.mpr ⟨List.mem_append_right _ (List.mem_append_right _ (List.mem_append_left _ (List.mem_of_getElem? (i := 91) rfl))), rfl⟩
theorem qM_X0_236 : Cond.methodLink RX0 236 yX0_lemmasInCircles ∈ WW := List.mem_filter.mpr ⟨List.mem_append_right _ (List.mem_append_right _ (List.mem_append_left _ (List.mem_of_getElem? (i := 92) rfl))), rfl⟩
theorem qI_X0_lemmasInCircles : Cond.instanceMethod yX0_lemmasInCircles ∈ WW := List.mem_filter.mpr ⟨List.mem_append_right _ (List.mem_append_right _ (List.mem_append_left _ (List.mem_of_getElem? (i := 94) rfl))), rfl⟩
theorem qC_X0_lemmasInCircles : Cond.code yX0_lemmasInCircles cX0_lemmasInCircles 3 (some .int) ∈ WW := List.mem_filter.mpr ⟨List.mem_append_right _ (List.mem_append_right _ (List.mem_append_left _ (List.mem_of_getElem? (i := 95) rfl))), rfl⟩
theorem qM_L_96 : Cond.methodLink RL 96 yX0_best ∈ WW := List.mem_filter.mpr ⟨List.mem_append_right _ (List.mem_append_right _ (List.mem_append_left _ (List.mem_of_getElem? (i := 96) rfl))), rfl⟩
theorem qI_X0_best : Cond.instanceMethod yX0_best ∈ WW := List.mem_filter.mpr ⟨List.mem_append_right _ (List.mem_append_right _ (List.mem_append_left _ (List.mem_of_getElem? (i := 97) rfl))), rfl⟩
theorem qS_X0_best : Cond.selects RX0 yX0_best yX0_best ∈ WW := List.mem_filter.mpr ⟨List.mem_append_right _ (List.mem_append_right _ (List.mem_append_left _ (List.mem_of_getElem? (i := 98) rfl))), rfl⟩
theorem qC_X0_best : Cond.code yX0_best cX0_best 6 (some .int) ∈ WW := List.mem_filter.mpr ⟨List.mem_append_right _ (List.mem_append_right _ (List.mem_append_left _ (List.mem_of_getElem? (i := 99) rfl))), rfl⟩
theorem qM_L_106 : Cond.methodLink RL 106 yX0_without ∈ WW := List.mem_filter.mpr ⟨List.mem_append_right _ (List.mem_append_right _ (List.mem_append_left _ (List.mem_of_getElem? (i := 100) rfl))), rfl⟩
theorem qI_X0_without : Cond.instanceMethod yX0_without ∈ WW := List.mem_filter.mpr ⟨List.mem_append_right _ (List.mem_append_right _ (List.mem_append_left _ (List.mem_of_getElem? (i := 101) rfl))), rfl⟩
theorem qS_X0_without : Cond.selects RX0 yX0_without yX0_without ∈ WW := List.mem_filter.mpr ⟨List.mem_append_right _ (List.mem_append_right _ (List.mem_append_left _ (List.mem_of_getElem? (i := 102) rfl))), rfl⟩
theorem qC_X0_without : Cond.code yX0_without cX0_without 2 (some .int) ∈ WW := List.mem_filter.mpr ⟨List.mem_append_right _ (List.mem_append_right _ (List.mem_append_left _ (List.mem_of_getElem? (i := 103) rfl))), rfl⟩
theorem qM_L_109 : Cond.methodLink RL 109 yX0_needs ∈ WW := List.mem_filter.mpr ⟨List.mem_append_right _ (List.mem_append_right _ (List.mem_append_left _ (List.mem_of_getElem? (i := 104) rfl))), rfl⟩
theorem qI_X0_needs : Cond.instanceMethod yX0_needs ∈ WW := List.mem_filter.mpr ⟨List.mem_append_right _ (List.mem_append_right _ (List.mem_append_left _ (List.mem_of_getElem? (i := 105) rfl))), rfl⟩
theorem qS_X0_needs : Cond.selects RX0 yX0_needs yX0_needs ∈ WW := List.mem_filter.mpr ⟨List.mem_append_right _ (List.mem_append_right _ (List.mem_append_left _ (List.mem_of_getElem? (i := 106) rfl))), rfl⟩
theorem qC_X0_needs : Cond.code yX0_needs cX0_needs 4 (some .boolean) ∈ WW := List.mem_filter.mpr ⟨List.mem_append_right _ (List.mem_append_right _ (List.mem_append_left _ (List.mem_of_getElem? (i := 107) rfl))), rfl⟩
theorem qM_L_113 : Cond.methodLink RL 113 yX0_advise ∈ WW := List.mem_filter.mpr ⟨List.mem_append_right _ (List.mem_append_right _ (List.mem_append_left _ (List.mem_of_getElem? (i := 108) rfl))), rfl⟩
theorem qI_X0_advise : Cond.instanceMethod yX0_advise ∈ WW := List.mem_filter.mpr ⟨List.mem_append_right _ (List.mem_append_right _ (List.mem_append_left _ (List.mem_of_getElem? (i := 109) rfl))), rfl⟩
theorem qS_X0_advise : Cond.selects RX0 yX0_advise yX0_advise ∈ WW := List.mem_filter.mpr ⟨List.mem_append_right _ (List.mem_append_right _ (List.mem_append_left _ (List.mem_of_getElem? (i := 110) rfl))), rfl⟩
theorem qC_X0_advise : Cond.code yX0_advise cX0_advise 7 (some .int) ∈ WW := List.mem_filter.mpr ⟨List.mem_append_right _ (List.mem_append_right _ (List.mem_append_left _ (List.mem_of_getElem? (i := 111) rfl))), rfl⟩
theorem qM_X0_143 : Cond.methodLink RX0 143 yX0_provedIfClosed ∈ WW := List.mem_filter.mpr ⟨List.mem_append_right _ (List.mem_append_right _ (List.mem_append_left _ (List.mem_of_getElem? (i := 112) rfl))), rfl⟩
theorem qI_X0_provedIfClosed : Cond.instanceMethod yX0_provedIfClosed ∈ WW := List.mem_filter.mpr ⟨List.mem_append_right _ (List.mem_append_right _ (List.mem_append_left _ (List.mem_of_getElem? (i := 114) rfl))), rfl⟩
theorem qC_X0_provedIfClosed : Cond.code yX0_provedIfClosed cX0_provedIfClosed 4 (some .int) ∈ WW := List.mem_filter.mpr ⟨List.mem_append_right _ (List.mem_append_right _ (List.mem_append_left _ (List.mem_of_getElem? (i := 115) rfl))), rfl⟩
theorem qM_L_86 : Cond.methodLink RL 86 yX0_digest ∈ WW := List.mem_filter.mpr ⟨List.mem_append_right _ (List.mem_append_right _ (List.mem_append_left _ (List.mem_of_getElem? (i := 116) rfl))), rfl⟩
theorem qI_X0_digest : Cond.instanceMethod yX0_digest ∈ WW := List.mem_filter.mpr ⟨List.mem_append_right _ (List.mem_append_right _ (List.mem_append_left _ (List.mem_of_getElem? (i := 117) rfl))), rfl⟩
theorem qS_X0_digest : Cond.selects RX0 yX0_digest yX0_digest ∈ WW := List.mem_filter.mpr ⟨List.mem_append_right _ (List.mem_append_right _ (List.mem_append_left _ (List.mem_of_getElem? (i := 118) rfl))), rfl⟩
theorem qC_X0_digest : Cond.code yX0_digest cX0_digest 4 (some .long) ∈ WW := List.mem_filter.mpr ⟨List.mem_append_right _ (List.mem_append_right _ (List.mem_append_left _ (List.mem_of_getElem? (i := 119) rfl))), rfl⟩
theorem qL_X0_149 : Cond.constantLong RX0 149 (1847) ∈ WW := List.mem_filter.mpr ⟨List.mem_append_right _ (List.mem_append_right _ (List.mem_append_left _ (List.mem_of_getElem? (i := 120) rfl))), rfl⟩
theorem qL_X0_151 : Cond.constantLong RX0 151 (31) ∈ WW := List.mem_filter.mpr ⟨List.mem_append_right _ (List.mem_append_right _ (List.mem_append_left _ (List.mem_of_getElem? (i := 121) rfl))), rfl⟩
theorem qM_X0_153 : Cond.methodLink RX0 153 yX0_digestLemma ∈ WW := List.mem_filter.mpr ⟨List.mem_append_right _ (List.mem_append_right _ (List.mem_append_left _ (List.mem_of_getElem? (i := 122) rfl))), rfl⟩
theorem qI_X0_digestLemma : Cond.instanceMethod yX0_digestLemma ∈ WW := List.mem_filter.mpr ⟨List.mem_append_right _ (List.mem_append_right _ (List.mem_append_left _ (List.mem_of_getElem? (i := 124) rfl))), rfl⟩
theorem qC_X0_digestLemma : Cond.code yX0_digestLemma cX0_digestLemma 7 (some .long) ∈ WW := List.mem_filter.mpr ⟨List.mem_append_right _ (List.mem_append_right _ (List.mem_append_left _ (List.mem_of_getElem? (i := 125) rfl))), rfl⟩
theorem qM_X0_239 : Cond.methodLink RX0 239 yX0_digestProof ∈ WW := List.mem_filter.mpr ⟨List.mem_append_right _ (List.mem_append_right _ (List.mem_append_left _ (List.mem_of_getElem? (i := 126) rfl))), rfl⟩
theorem qI_X0_digestProof : Cond.instanceMethod yX0_digestProof ∈ WW := List.mem_filter.mpr ⟨List.mem_append_right _ (List.mem_append_right _ (List.mem_append_left _ (List.mem_of_getElem? (i := 128) rfl))), rfl⟩
theorem qC_X0_digestProof : Cond.code yX0_digestProof cX0_digestProof 8 (some .long) ∈ WW := List.mem_filter.mpr ⟨List.mem_append_right _ (List.mem_append_right _ (List.mem_append_left _ (List.mem_of_getElem? (i := 129) rfl))), rfl⟩
theorem qM_L_116 : Cond.methodLink RL 116 yX1_isSame ∈ WW := List.mem_filter.mpr ⟨List.mem_append_right _ (List.mem_append_right _ (List.mem_append_left _ (List.mem_of_getElem? (i := 130) rfl))), rfl⟩
theorem qI_X1_isSame : Cond.instanceMethod yX1_isSame ∈ WW := List.mem_filter.mpr ⟨List.mem_append_right _ (List.mem_append_right _ (List.mem_append_left _ (List.mem_of_getElem? (i := 131) rfl))), rfl⟩
theorem qS_X1_isSame : Cond.selects RX1 yX1_isSame yX1_isSame ∈ WW := List.mem_filter.mpr ⟨List.mem_append_right _ (List.mem_append_right _ (List.mem_append_left _ (List.mem_of_getElem? (i := 132) rfl))), rfl⟩
theorem qC_X1_isSame : Cond.code yX1_isSame cX1_isSame 16 (some .boolean) ∈ WW := List.mem_filter.mpr ⟨List.mem_append_right _ (List.mem_append_right _ (List.mem_append_left _ (List.mem_of_getElem? (i := 133) rfl))), rfl⟩
theorem qM_X1_35 : Cond.methodLink RX1 35 yX1_stages ∈ WW := List.mem_filter.mpr ⟨List.mem_append_right _ (List.mem_append_right _ (List.mem_append_left _ (List.mem_of_getElem? (i := 134) rfl))), rfl⟩
theorem qI_X1_stages : Cond.instanceMethod yX1_stages ∈ WW := List.mem_filter.mpr ⟨List.mem_append_right _ (List.mem_append_right _ (List.mem_append_left _ (List.mem_of_getElem? (i := 135) rfl))), rfl⟩
theorem qS_X1_stages : Cond.selects RX1 yX1_stages yX1_stages ∈ WW := List.mem_filter.mpr ⟨List.mem_append_right _ (List.mem_append_right _ (List.mem_append_left _ (List.mem_of_getElem? (i := 136) rfl))), rfl⟩
theorem qC_X1_stages : Cond.code yX1_stages cX1_stages 10 (some (.array .int)) ∈ WW := List.mem_filter.mpr ⟨List.mem_append_right _ (List.mem_append_right _ (List.mem_append_left _ (List.mem_of_getElem? (i := 137) rfl))), rfl⟩
theorem qX_arrI : Cond.castable "[I" "java/lang/Cloneable" ∈ lw_tbl := List.mem_append_right _ (List.mem_append_right _ (List.mem_append_left _ (List.mem_of_getElem? (i := 143) rfl)))
theorem qK_X1_19 : Cond.classLink RX1 19 "[I" ∈ WW := List.mem_filter.mpr ⟨List.mem_append_right _ (List.mem_append_right _ (List.mem_append_left _ (List.mem_of_getElem? (i := 144) rfl))), rfl⟩
theorem qM_X1_31 : Cond.methodLink RX1 31 yX1_holds ∈ WW := List.mem_filter.mpr ⟨List.mem_append_right _ (List.mem_append_right _ (List.mem_append_left _ (List.mem_of_getElem? (i := 145) rfl))), rfl⟩
theorem qI_X1_holds : Cond.instanceMethod yX1_holds ∈ WW := List.mem_filter.mpr ⟨List.mem_append_right _ (List.mem_append_right _ (List.mem_append_left _ (List.mem_of_getElem? (i := 146) rfl))), rfl⟩
theorem qS_X1_holds : Cond.selects RX1 yX1_holds yX1_holds ∈ WW := List.mem_filter.mpr ⟨List.mem_append_right _ (List.mem_append_right _ (List.mem_append_left _ (List.mem_of_getElem? (i := 147) rfl))), rfl⟩
theorem qC_X1_holds : Cond.code yX1_holds cX1_holds 8 (some .boolean) ∈ WW := List.mem_filter.mpr ⟨List.mem_append_right _ (List.mem_append_right _ (List.mem_append_left _ (List.mem_of_getElem? (i := 148) rfl))), rfl⟩
theorem qM_X1_23 : Cond.methodLink RX1 23 yX1_isWhole ∈ WW := List.mem_filter.mpr ⟨List.mem_append_right _ (List.mem_append_right _ (List.mem_append_left _ (List.mem_of_getElem? (i := 149) rfl))), rfl⟩
theorem qT_X1_isWhole : Cond.static yX1_isWhole ∈ WW := List.mem_filter.mpr ⟨List.mem_append_right _ (List.mem_append_right _ (List.mem_append_left _ (List.mem_of_getElem? (i := 150) rfl))), rfl⟩
theorem qC_X1_isWhole : Cond.code yX1_isWhole cX1_isWhole 6 (some .boolean) ∈ WW := List.mem_filter.mpr ⟨List.mem_append_right _ (List.mem_append_right _ (List.mem_append_left _ (List.mem_of_getElem? (i := 151) rfl))), rfl⟩
theorem qM_X1_54 : Cond.methodLink RX1 54 yX1_measures ∈ WW := List.mem_filter.mpr ⟨List.mem_append_right _ (List.mem_append_right _ (List.mem_append_left _ (List.mem_of_getElem? (i := 152) rfl))), rfl⟩
theorem qI_X1_measures : Cond.instanceMethod yX1_measures ∈ WW := List.mem_filter.mpr ⟨List.mem_append_right _ (List.mem_append_right _ (List.mem_append_left _ (List.mem_of_getElem? (i := 153) rfl))), rfl⟩
theorem qS_X1_measures : Cond.selects RX1 yX1_measures yX1_measures ∈ WW := List.mem_filter.mpr ⟨List.mem_append_right _ (List.mem_append_right _ (List.mem_append_left _ (List.mem_of_getElem? (i := 154) rfl))), rfl⟩
theorem qC_X1_measures : Cond.code yX1_measures cX1_measures 10 (some (.array .int)) ∈ WW := List.mem_filter.mpr ⟨List.mem_append_right _ (List.mem_append_right _ (List.mem_append_left _ (List.mem_of_getElem? (i := 155) rfl))), rfl⟩
theorem qM_X1_40 : Cond.methodLink RX1 40 yX1_measure ∈ WW := List.mem_filter.mpr ⟨List.mem_append_right _ (List.mem_append_right _ (List.mem_append_left _ (List.mem_of_getElem? (i := 157) rfl))), rfl⟩
theorem qI_X1_measure : Cond.instanceMethod yX1_measure ∈ WW := List.mem_filter.mpr ⟨List.mem_append_right _ (List.mem_append_right _ (List.mem_append_left _ (List.mem_of_getElem? (i := 158) rfl))), rfl⟩
theorem qS_X1_measure : Cond.selects RX1 yX1_measure yX1_measure ∈ WW := List.mem_filter.mpr ⟨List.mem_append_right _ (List.mem_append_right _ (List.mem_append_left _ (List.mem_of_getElem? (i := 159) rfl))), rfl⟩
theorem qC_X1_measure : Cond.code yX1_measure cX1_measure 9 (some .int) ∈ WW := List.mem_filter.mpr ⟨List.mem_append_right _ (List.mem_append_right _ (List.mem_append_left _ (List.mem_of_getElem? (i := 160) rfl))), rfl⟩
theorem qM_X1_44 : Cond.methodLink RX1 44 Lib.Math.min.name ∈ WW := List.mem_filter.mpr ⟨List.mem_append_right _ (List.mem_append_right _ (List.mem_append_left _ (List.mem_of_getElem? (i := 161) rfl))), rfl⟩
theorem qM_X1_57 : Cond.methodLink RX1 57 yX1_circle ∈ WW := List.mem_filter.mpr ⟨List.mem_append_right _ (List.mem_append_right _ (List.mem_append_left _ (List.mem_of_getElem? (i := 162) rfl))), rfl⟩
theorem qI_X1_circle : Cond.instanceMethod yX1_circle ∈ WW := List.mem_filter.mpr ⟨List.mem_append_right _ (List.mem_append_right _ (List.mem_append_left _ (List.mem_of_getElem? (i := 163) rfl))), rfl⟩
theorem qS_X1_circle : Cond.selects RX1 yX1_circle yX1_circle ∈ WW := List.mem_filter.mpr ⟨List.mem_append_right _ (List.mem_append_right _ (List.mem_append_left _ (List.mem_of_getElem? (i := 164) rfl))), rfl⟩
theorem qC_X1_circle : Cond.code yX1_circle cX1_circle 4 (some .int) ∈ WW := List.mem_filter.mpr ⟨List.mem_append_right _ (List.mem_append_right _ (List.mem_append_left _ (List.mem_of_getElem? (i := 165) rfl))), rfl⟩
theorem qM_X1_50 : Cond.methodLink RX1 50 yX1_on ∈ WW := List.mem_filter.mpr ⟨List.mem_append_right _ (List.mem_append_right _ (List.mem_append_left _ (List.mem_of_getElem? (i := 166) rfl))), rfl⟩
theorem qI_X1_on : Cond.instanceMethod yX1_on ∈ WW := List.mem_filter.mpr ⟨List.mem_append_right _ (List.mem_append_right _ (List.mem_append_left _ (List.mem_of_getElem? (i := 167) rfl))), rfl⟩
theorem qS_X1_on : Cond.selects RX1 yX1_on yX1_on ∈ WW := List.mem_filter.mpr ⟨List.mem_append_right _ (List.mem_append_right _ (List.mem_append_left _ (List.mem_of_getElem? (i := 168) rfl))), rfl⟩
theorem qC_X1_on : Cond.code yX1_on cX1_on 12 (some (.array .boolean)) ∈ WW := List.mem_filter.mpr ⟨List.mem_append_right _ (List.mem_append_right _ (List.mem_append_left _ (List.mem_of_getElem? (i := 169) rfl))), rfl⟩
theorem qM_X1_61 : Cond.methodLink RX1 61 yX0_about ∈ WW := List.mem_filter.mpr ⟨List.mem_append_right _ (List.mem_append_right _ (List.mem_append_left _ (List.mem_of_getElem? (i := 170) rfl))), rfl⟩
theorem qM_X1_67 : Cond.methodLink RX1 67 yX0_step ∈ WW := List.mem_filter.mpr ⟨List.mem_append_right _ (List.mem_append_right _ (List.mem_append_left _ (List.mem_of_getElem? (i := 171) rfl))), rfl⟩
theorem qM_X1_71 : Cond.methodLink RX1 71 yX0_told ∈ WW := List.mem_filter.mpr ⟨List.mem_append_right _ (List.mem_append_right _ (List.mem_append_left _ (List.mem_of_getElem? (i := 172) rfl))), rfl⟩
theorem qM_X1_74 : Cond.methodLink RX1 74 yX0_best ∈ WW := List.mem_filter.mpr ⟨List.mem_append_right _ (List.mem_append_right _ (List.mem_append_left _ (List.mem_of_getElem? (i := 173) rfl))), rfl⟩
theorem qM_X1_77 : Cond.methodLink RX1 77 yX0_count ∈ WW := List.mem_filter.mpr ⟨List.mem_append_right _ (List.mem_append_right _ (List.mem_append_left _ (List.mem_of_getElem? (i := 174) rfl))), rfl⟩
theorem qM_X1_80 : Cond.methodLink RX1 80 yX0_mean ∈ WW := List.mem_filter.mpr ⟨List.mem_append_right _ (List.mem_append_right _ (List.mem_append_left _ (List.mem_of_getElem? (i := 175) rfl))), rfl⟩
theorem qI_X0_mean : Cond.instanceMethod yX0_mean ∈ WW := List.mem_filter.mpr ⟨List.mem_append_right _ (List.mem_append_right _ (List.mem_append_left _ (List.mem_of_getElem? (i := 176) rfl))), rfl⟩
theorem qS_X0_mean : Cond.selects RX0 yX0_mean yX0_mean ∈ WW := List.mem_filter.mpr ⟨List.mem_append_right _ (List.mem_append_right _ (List.mem_append_left _ (List.mem_of_getElem? (i := 177) rfl))), rfl⟩
theorem qC_X0_mean : Cond.code yX0_mean cX0_mean 1 (some .double) ∈ WW := List.mem_filter.mpr ⟨List.mem_append_right _ (List.mem_append_right _ (List.mem_append_left _ (List.mem_of_getElem? (i := 178) rfl))), rfl⟩
theorem qM_L_15 : Cond.methodLink RL 15 yL_below ∈ WW := List.mem_filter.mpr ⟨List.mem_append_right _ (List.mem_append_right _ (List.mem_append_left _ (List.mem_of_getElem? (i := 179) rfl))), rfl⟩
theorem qT_L_below : Cond.static yL_below ∈ WW := List.mem_filter.mpr ⟨List.mem_append_right _ (List.mem_append_right _ (List.mem_append_left _ (List.mem_of_getElem? (i := 180) rfl))), rfl⟩
theorem qC_L_below : Cond.code yL_below cL_below 2 (some .int) ∈ WW := List.mem_filter.mpr ⟨List.mem_append_right _ (List.mem_append_right _ (List.mem_append_left _ (List.mem_of_getElem? (i := 181) rfl))), rfl⟩
theorem qM_L_73 : Cond.methodLink RL 73 yL_cell ∈ WW := List.mem_filter.mpr ⟨List.mem_append_right _ (List.mem_append_right _ (List.mem_append_left _ (List.mem_of_getElem? (i := 183) rfl))), rfl⟩
theorem qT_L_cell : Cond.static yL_cell ∈ WW := List.mem_filter.mpr ⟨List.mem_append_right _ (List.mem_append_right _ (List.mem_append_left _ (List.mem_of_getElem? (i := 184) rfl))), rfl⟩
theorem qC_L_cell : Cond.code yL_cell cL_cell 2 (some .int) ∈ WW := List.mem_filter.mpr ⟨List.mem_append_right _ (List.mem_append_right _ (List.mem_append_left _ (List.mem_of_getElem? (i := 185) rfl))), rfl⟩
theorem qM_L_82 : Cond.methodLink RL 82 yL_act ∈ WW := List.mem_filter.mpr ⟨List.mem_append_right _ (List.mem_append_right _ (List.mem_append_left _ (List.mem_of_getElem? (i := 187) rfl))), rfl⟩
theorem qT_L_act : Cond.static yL_act ∈ WW := List.mem_filter.mpr ⟨List.mem_append_right _ (List.mem_append_right _ (List.mem_append_left _ (List.mem_of_getElem? (i := 188) rfl))), rfl⟩
theorem qCW_L_act : Cond.codeWith yL_act cL_act 13 (some .boolean) [((162), (168), (171), (37)), ((214), (222), (225), (37)), ((521), (535), (538), (37)), ((741), (755), (758), (37))] ∈ WW := List.mem_filter.mpr ⟨List.mem_append_right _ (List.mem_append_right _ (List.mem_append_left _ (List.mem_of_getElem? (i := 189) rfl))), rfl⟩
theorem qK_L_37 : Cond.classLink RL 37 "java/lang/IllegalStateException" ∈ WW := List.mem_filter.mpr ⟨List.mem_append_right _ (List.mem_append_right _ (List.mem_append_left _ (List.mem_of_getElem? (i := 190) rfl))), rfl⟩
theorem qM_L_31 : Cond.methodLink RL 31 yX1_lemma ∈ WW := List.mem_filter.mpr ⟨List.mem_append_right _ (List.mem_append_right _ (List.mem_append_left _ (List.mem_of_getElem? (i := 191) rfl))), rfl⟩
theorem qI_X1_lemma : Cond.instanceMethod yX1_lemma ∈ WW := List.mem_filter.mpr ⟨List.mem_append_right _ (List.mem_append_right _ (List.mem_append_left _ (List.mem_of_getElem? (i := 192) rfl))), rfl⟩
theorem qS_X1_lemma : Cond.selects RX1 yX1_lemma yX1_lemma ∈ WW := List.mem_filter.mpr ⟨List.mem_append_right _ (List.mem_append_right _ (List.mem_append_left _ (List.mem_of_getElem? (i := 193) rfl))), rfl⟩
theorem qC_X1_lemma : Cond.code yX1_lemma cX1_lemma 3 none ∈ WW := List.mem_filter.mpr ⟨List.mem_append_right _ (List.mem_append_right _ (List.mem_append_left _ (List.mem_of_getElem? (i := 194) rfl))), rfl⟩
theorem qK_X1_13 : Cond.classLink RX1 13 "[[[I" ∈ WW := List.mem_filter.mpr ⟨List.mem_append_right _ (List.mem_append_right _ (List.mem_append_left _ (List.mem_of_getElem? (i := 195) rfl))), rfl⟩
theorem qK_X1_21 : Cond.classLink RX1 21 "[[I" ∈ WW := List.mem_filter.mpr ⟨List.mem_append_right _ (List.mem_append_right _ (List.mem_append_left _ (List.mem_of_getElem? (i := 197) rfl))), rfl⟩
theorem qM_L_34 : Cond.methodLink RL 34 yX0_lemma ∈ WW := List.mem_filter.mpr ⟨List.mem_append_right _ (List.mem_append_right _ (List.mem_append_left _ (List.mem_of_getElem? (i := 199) rfl))), rfl⟩
theorem qI_X0_lemma : Cond.instanceMethod yX0_lemma ∈ WW := List.mem_filter.mpr ⟨List.mem_append_right _ (List.mem_append_right _ (List.mem_append_left _ (List.mem_of_getElem? (i := 200) rfl))), rfl⟩
theorem qS_X0_lemma : Cond.selects RX0 yX0_lemma yX0_lemma ∈ WW := List.mem_filter.mpr ⟨List.mem_append_right _ (List.mem_append_right _ (List.mem_append_left _ (List.mem_of_getElem? (i := 201) rfl))), rfl⟩
theorem qC_X0_lemma : Cond.code yX0_lemma cX0_lemma 1 (some .int) ∈ WW := List.mem_filter.mpr ⟨List.mem_append_right _ (List.mem_append_right _ (List.mem_append_left _ (List.mem_of_getElem? (i := 202) rfl))), rfl⟩
theorem qM_L_39 : Cond.methodLink RL 39 yX1_proof ∈ WW := List.mem_filter.mpr ⟨List.mem_append_right _ (List.mem_append_right _ (List.mem_append_left _ (List.mem_of_getElem? (i := 204) rfl))), rfl⟩
theorem qI_X1_proof : Cond.instanceMethod yX1_proof ∈ WW := List.mem_filter.mpr ⟨List.mem_append_right _ (List.mem_append_right _ (List.mem_append_left _ (List.mem_of_getElem? (i := 205) rfl))), rfl⟩
theorem qS_X1_proof : Cond.selects RX1 yX1_proof yX1_proof ∈ WW := List.mem_filter.mpr ⟨List.mem_append_right _ (List.mem_append_right _ (List.mem_append_left _ (List.mem_of_getElem? (i := 206) rfl))), rfl⟩
theorem qC_X1_proof : Cond.code yX1_proof cX1_proof 4 none ∈ WW := List.mem_filter.mpr ⟨List.mem_append_right _ (List.mem_append_right _ (List.mem_append_left _ (List.mem_of_getElem? (i := 207) rfl))), rfl⟩
theorem qM_L_43 : Cond.methodLink RL 43 yX0_proof ∈ WW := List.mem_filter.mpr ⟨List.mem_append_right _ (List.mem_append_right _ (List.mem_append_left _ (List.mem_of_getElem? (i := 209) rfl))), rfl⟩
theorem qI_X0_proof : Cond.instanceMethod yX0_proof ∈ WW := List.mem_filter.mpr ⟨List.mem_append_right _ (List.mem_append_right _ (List.mem_append_left _ (List.mem_of_getElem? (i := 210) rfl))), rfl⟩
theorem qS_X0_proof : Cond.selects RX0 yX0_proof yX0_proof ∈ WW := List.mem_filter.mpr ⟨List.mem_append_right _ (List.mem_append_right _ (List.mem_append_left _ (List.mem_of_getElem? (i := 211) rfl))), rfl⟩
theorem qC_X0_proof : Cond.code yX0_proof cX0_proof 3 (some .int) ∈ WW := List.mem_filter.mpr ⟨List.mem_append_right _ (List.mem_append_right _ (List.mem_append_left _ (List.mem_of_getElem? (i := 212) rfl))), rfl⟩
theorem qM_L_46 : Cond.methodLink RL 46 yX1_strike ∈ WW := List.mem_filter.mpr ⟨List.mem_append_right _ (List.mem_append_right _ (List.mem_append_left _ (List.mem_of_getElem? (i := 214) rfl))), rfl⟩
theorem qI_X1_strike : Cond.instanceMethod yX1_strike ∈ WW := List.mem_filter.mpr ⟨List.mem_append_right _ (List.mem_append_right _ (List.mem_append_left _ (List.mem_of_getElem? (i := 215) rfl))), rfl⟩
theorem qS_X1_strike : Cond.selects RX1 yX1_strike yX1_strike ∈ WW := List.mem_filter.mpr ⟨List.mem_append_right _ (List.mem_append_right _ (List.mem_append_left _ (List.mem_of_getElem? (i := 216) rfl))), rfl⟩
theorem qC_X1_strike : Cond.code yX1_strike cX1_strike 5 none ∈ WW := List.mem_filter.mpr ⟨List.mem_append_right _ (List.mem_append_right _ (List.mem_append_left _ (List.mem_of_getElem? (i := 217) rfl))), rfl⟩
theorem qM_L_50 : Cond.methodLink RL 50 yX0_strike ∈ WW := List.mem_filter.mpr ⟨List.mem_append_right _ (List.mem_append_right _ (List.mem_append_left _ (List.mem_of_getElem? (i := 218) rfl))), rfl⟩
theorem qI_X0_strike : Cond.instanceMethod yX0_strike ∈ WW := List.mem_filter.mpr ⟨List.mem_append_right _ (List.mem_append_right _ (List.mem_append_left _ (List.mem_of_getElem? (i := 219) rfl))), rfl⟩
theorem qS_X0_strike : Cond.selects RX0 yX0_strike yX0_strike ∈ WW := List.mem_filter.mpr ⟨List.mem_append_right _ (List.mem_append_right _ (List.mem_append_left _ (List.mem_of_getElem? (i := 220) rfl))), rfl⟩
theorem qC_X0_strike : Cond.code yX0_strike cX0_strike 4 (some .int) ∈ WW := List.mem_filter.mpr ⟨List.mem_append_right _ (List.mem_append_right _ (List.mem_append_left _ (List.mem_of_getElem? (i := 221) rfl))), rfl⟩
theorem qM_X0_110 : Cond.methodLink RX0 110 yX0_moveUp ∈ WW := List.mem_filter.mpr ⟨List.mem_append_right _ (List.mem_append_right _ (List.mem_append_left _ (List.mem_of_getElem? (i := 222) rfl))), rfl⟩
theorem qI_X0_moveUp : Cond.instanceMethod yX0_moveUp ∈ WW := List.mem_filter.mpr ⟨List.mem_append_right _ (List.mem_append_right _ (List.mem_append_left _ (List.mem_of_getElem? (i := 224) rfl))), rfl⟩
theorem qC_X0_moveUp : Cond.code yX0_moveUp cX0_moveUp 5 none ∈ WW := List.mem_filter.mpr ⟨List.mem_append_right _ (List.mem_append_right _ (List.mem_append_left _ (List.mem_of_getElem? (i := 225) rfl))), rfl⟩
theorem qM_L_56 : Cond.methodLink RL 56 Lib.Math.max.name ∈ WW := List.mem_filter.mpr ⟨List.mem_append_right _ (List.mem_append_right _ (List.mem_append_left _ (List.mem_of_getElem? (i := 226) rfl))), rfl⟩
theorem qM_L_65 : Cond.methodLink RL 65 yX1_more ∈ WW := List.mem_filter.mpr ⟨List.mem_append_right _ (List.mem_append_right _ (List.mem_append_left _ (List.mem_of_getElem? (i := 227) rfl))), rfl⟩
theorem qT_X1_more : Cond.static yX1_more ∈ WW := List.mem_filter.mpr ⟨List.mem_append_right _ (List.mem_append_right _ (List.mem_append_left _ (List.mem_of_getElem? (i := 228) rfl))), rfl⟩
theorem qC_X1_more : Cond.code yX1_more cX1_more 4 (some (.array (.array .int))) ∈ WW := List.mem_filter.mpr ⟨List.mem_append_right _ (List.mem_append_right _ (List.mem_append_left _ (List.mem_of_getElem? (i := 229) rfl))), rfl⟩
theorem qM_L_69 : Cond.methodLink RL 69 yX0_cite ∈ WW := List.mem_filter.mpr ⟨List.mem_append_right _ (List.mem_append_right _ (List.mem_append_left _ (List.mem_of_getElem? (i := 230) rfl))), rfl⟩
theorem qI_X0_cite : Cond.instanceMethod yX0_cite ∈ WW := List.mem_filter.mpr ⟨List.mem_append_right _ (List.mem_append_right _ (List.mem_append_left _ (List.mem_of_getElem? (i := 231) rfl))), rfl⟩
theorem qS_X0_cite : Cond.selects RX0 yX0_cite yX0_cite ∈ WW := List.mem_filter.mpr ⟨List.mem_append_right _ (List.mem_append_right _ (List.mem_append_left _ (List.mem_of_getElem? (i := 232) rfl))), rfl⟩
theorem qC_X0_cite : Cond.code yX0_cite cX0_cite 7 (some .int) ∈ WW := List.mem_filter.mpr ⟨List.mem_append_right _ (List.mem_append_right _ (List.mem_append_left _ (List.mem_of_getElem? (i := 233) rfl))), rfl⟩
theorem qM_X0_81 : Cond.methodLink RX0 81 yX0_requireCitable ∈ WW := List.mem_filter.mpr ⟨List.mem_append_right _ (List.mem_append_right _ (List.mem_append_left _ (List.mem_of_getElem? (i := 234) rfl))), rfl⟩
theorem qI_X0_requireCitable : Cond.instanceMethod yX0_requireCitable ∈ WW := List.mem_filter.mpr ⟨List.mem_append_right _ (List.mem_append_right _ (List.mem_append_left _ (List.mem_of_getElem? (i := 236) rfl))), rfl⟩
theorem qC_X0_requireCitable : Cond.code yX0_requireCitable cX0_requireCitable 3 none ∈ WW := List.mem_filter.mpr ⟨List.mem_append_right _ (List.mem_append_right _ (List.mem_append_left _ (List.mem_of_getElem? (i := 237) rfl))), rfl⟩
theorem qM_L_78 : Cond.methodLink RL 78 yL_build ∈ WW := List.mem_filter.mpr ⟨List.mem_append_right _ (List.mem_append_right _ (List.mem_append_right _ (List.mem_of_getElem? (i := 1) rfl))), rfl⟩
theorem qT_L_build : Cond.static yL_build ∈ WW := List.mem_filter.mpr ⟨List.mem_append_right _ (List.mem_append_right _ (List.mem_append_right _ (List.mem_of_getElem? (i := 2) rfl))), rfl⟩
theorem qC_L_build : Cond.code yL_build cL_build 11 (some (.object "LodgeProofsLaw$Sim")) ∈ WW := List.mem_filter.mpr ⟨List.mem_append_right _ (List.mem_append_right _ (List.mem_append_right _ (List.mem_of_getElem? (i := 3) rfl))), rfl⟩
theorem qK_L_10 : Cond.classLink RL 10 RX1 ∈ WW := List.mem_filter.mpr ⟨List.mem_append_right _ (List.mem_append_right _ (List.mem_append_right _ (List.mem_of_getElem? (i := 4) rfl))), rfl⟩
theorem qB_X1 : Cond.instantiable RX1 2 ∈ WW := List.mem_filter.mpr ⟨List.mem_append_right _ (List.mem_append_right _ (List.mem_append_right _ (List.mem_of_getElem? (i := 5) rfl))), rfl⟩
theorem qI_X1_init : Cond.instanceMethod yX1_init ∈ WW := List.mem_filter.mpr ⟨List.mem_append_right _ (List.mem_append_right _ (List.mem_append_right _ (List.mem_of_getElem? (i := 7) rfl))), rfl⟩
theorem qC_X1_init : Cond.code yX1_init cX1_init 1 none ∈ WW := List.mem_filter.mpr ⟨List.mem_append_right _ (List.mem_append_right _ (List.mem_append_right _ (List.mem_of_getElem? (i := 8) rfl))), rfl⟩
theorem qM_X1_1 : Cond.methodLink RX1 1 objectInit ∈ WW := List.mem_filter.mpr ⟨List.mem_append_right _ (List.mem_append_right _ (List.mem_append_right _ (List.mem_of_getElem? (i := 9) rfl))), rfl⟩
theorem qF_X1_7 : Cond.fieldLink RX1 7 "LodgeProofsLaw$Sim" "taken" "[Z" ∈ WW := List.mem_filter.mpr ⟨List.mem_append_right _ (List.mem_append_right _ (List.mem_append_right _ (List.mem_of_getElem? (i := 10) rfl))), rfl⟩
theorem qF_L_21 : Cond.fieldLink RL 21 "LodgeProofsLaw$Sim" "taken" "[Z" ∈ WW := List.mem_filter.mpr ⟨List.mem_append_right _ (List.mem_append_right _ (List.mem_append_right _ (List.mem_of_getElem? (i := 11) rfl))), rfl⟩
theorem qF_X1_15 : Cond.fieldLink RX1 15 "LodgeProofsLaw$Sim" "all" "[[[[I" ∈ WW := List.mem_filter.mpr ⟨List.mem_append_right _ (List.mem_append_right _ (List.mem_append_right _ (List.mem_of_getElem? (i := 12) rfl))), rfl⟩
theorem qF_L_9 : Cond.fieldLink RL 9 "LodgeProofsLaw$Sim" "all" "[[[[I" ∈ WW := List.mem_filter.mpr ⟨List.mem_append_right _ (List.mem_append_right _ (List.mem_append_right _ (List.mem_of_getElem? (i := 13) rfl))), rfl⟩
