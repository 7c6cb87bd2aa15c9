section METX0
theorem cb_X0_50 {R : Room} {s : State} {args : Array Value} (h : ∀ w ∈ WW, w.before args s = true) (hR : 6 + 1 ≤ R.frames ∧ 8 + (1 + 11) + 90 ≤ R.locals) : CallB R s args RX0 50 yX0_requireAxiom cX0_requireAxiom 1 none (Cond.code yX0_requireAxiom cX0_requireAxiom 1 none :: WW) ({ frames := 6, cells := 1, slots := 6, locals := 90 }) 1 6 1 ∧ (Cond.static yX0_requireAxiom).before args s = true := va_cwS 1 h (gdS qM_X0_50 qT_X0_requireAxiom qN_X0 qC_X0_requireAxiom) rfl rfl rfl (by decide +kernel) hR
theorem cb_X0_54 {R : Room} {s : State} {args : Array Value} (h : ∀ w ∈ WW, w.before args s = true) (hR : 5 + 1 ≤ R.frames ∧ 8 + (2 + 11) + 119 ≤ R.locals) : CallW R s args RX0 RX0 54 yX0_settle cX0_settle 2 none (Cond.code yX0_settle cX0_settle 2 none :: WW) ({ frames := 5, cells := 0, slots := 0, locals := 119 }) 0 0 0 := cwV 0 h (gdV qM_X0_54 qI_X0_settle qS_X0_settle qN_X0 qC_X0_settle) rfl rfl rfl (by decide +kernel) hR
theorem cb_X0_68 {R : Room} {s : State} {args : Array Value} (h : ∀ w ∈ WW, w.before args s = true) (hR : 6 + 1 ≤ R.frames ∧ 8 + (2 + 11) + 90 ≤ R.locals) : CallW R s args RX0 RX0 68 yX0_requireLemma cX0_requireLemma 2 none (Cond.code yX0_requireLemma cX0_requireLemma 2 none :: WW) ({ frames := 6, cells := 1, slots := 6, locals := 90 }) 1 6 1 := cwV 1 h (gdV qM_X0_68 qI_X0_requireLemma qS_X0_requireLemma qN_X0 qC_X0_requireLemma) rfl rfl rfl (by decide +kernel) hR
theorem cb_X0_73 {R : Room} {s : State} {args : Array Value} (h : ∀ w ∈ WW, w.before args s = true) (hR : 0 + 1 ≤ R.frames ∧ 8 + (2 + 11) + 0 ≤ R.locals) : CallB R s args RX0 73 yX0_slotOf cX0_slotOf 2 (some .int) (Cond.code yX0_slotOf cX0_slotOf 2 (some .int) :: WW) ({ frames := 0, cells := 0, slots := 0, locals := 0 }) 0 0 2 ∧ (Cond.static yX0_slotOf).before args s = true := va_cwS 2 h (gdS qM_X0_73 qT_X0_slotOf qN_X0 qC_X0_slotOf) rfl rfl rfl (by decide +kernel) hR
theorem cb_X0_77 {R : Room} {s : State} {args : Array Value} (h : ∀ w ∈ WW, w.before args s = true) (hR : 7 + 1 ≤ R.frames ∧ 8 + (3 + 11) + 111 ≤ R.locals) : CallW R s args RX0 RX0 77 yX0_requireProof cX0_requireProof 3 none (Cond.code yX0_requireProof cX0_requireProof 3 none :: WW) ({ frames := 7, cells := 1, slots := 6, locals := 111 }) 1 6 2 := cwV 2 h (gdV qM_X0_77 qI_X0_requireProof qS_X0_requireProof qN_X0 qC_X0_requireProof) rfl rfl rfl (by decide +kernel) hR
theorem cb_X0_81 {R : Room} {s : State} {args : Array Value} (h : ∀ w ∈ WW, w.before args s = true) (hR : 7 + 1 ≤ R.frames ∧ 8 + (3 + 11) + 111 ≤ R.locals) : CallW R s args RX0 RX0 81 yX0_requireCitable cX0_requireCitable 3 none (Cond.code yX0_requireCitable cX0_requireCitable 3 none :: WW) ({ frames := 7, cells := 1, slots := 6, locals := 111 }) 1 6 2 := cwV 2 h (gdV qM_X0_81 qI_X0_requireCitable qS_X0_requireCitable qN_X0 qC_X0_requireCitable) rfl rfl rfl (by decide +kernel) hR
theorem cb_X0_86 {R : Room} {s : State} {args : Array Value} (h : ∀ w ∈ WW, w.before args s = true) (hR : 0 + 1 ≤ R.frames ∧ 8 + (2 + 11) + 0 ≤ R.locals) : CallW R s args RX0 RX0 86 yX0_endOfSteps cX0_endOfSteps 2 (some .int) (Cond.code yX0_endOfSteps cX0_endOfSteps 2 (some .int) :: WW) ({ frames := 0, cells := 0, slots := 0, locals := 0 }) 0 0 1 := cwV 1 h (gdV qM_X0_86 qI_X0_endOfSteps qS_X0_endOfSteps qN_X0 qC_X0_endOfSteps) rfl rfl rfl (by decide +kernel) hR
theorem cb_X0_90 {R : Room} {s : State} {args : Array Value} (h : ∀ w ∈ WW, w.before args s = true) (hR : 8 + 1 ≤ R.frames ∧ 8 + (4 + 11) + 133 ≤ R.locals) : CallW R s args RX0 RX0 90 yX0_requireStep cX0_requireStep 4 none (Cond.code yX0_requireStep cX0_requireStep 4 none :: WW) ({ frames := 8, cells := 1, slots := 6, locals := 133 }) 1 6 3 := cwV 3 h (gdV qM_X0_90 qI_X0_requireStep qS_X0_requireStep qN_X0 qC_X0_requireStep) rfl rfl rfl (by decide +kernel) hR
theorem cb_X0_99 {R : Room} {s : State} {args : Array Value} (h : ∀ w ∈ WW, w.before args s = true) (hR : 1 + 1 ≤ R.frames ∧ 8 + (3 + 11) + 21 ≤ R.locals) : CallB R s args RX0 99 yX0_stepAt cX0_stepAt 3 (some .int) (Cond.code yX0_stepAt cX0_stepAt 3 (some .int) :: WW) ({ frames := 1, cells := 0, slots := 0, locals := 21 }) 0 0 3 ∧ (Cond.static yX0_stepAt).before args s = true := va_cwS 3 h (gdS qM_X0_99 qT_X0_stepAt qN_X0 qC_X0_stepAt) rfl rfl rfl (by decide +kernel) hR
theorem cb_X0_110 {R : Room} {s : State} {args : Array Value} (h : ∀ w ∈ WW, w.before args s = true) (hR : 1 + 1 ≤ R.frames ∧ 8 + (5 + 11) + 21 ≤ R.locals) : CallW R s args RX0 RX0 110 yX0_moveUp cX0_moveUp 5 none (Cond.code yX0_moveUp cX0_moveUp 5 none :: WW) ({ frames := 1, cells := 0, slots := 0, locals := 21 }) 0 0 1 := cwV 1 h (gdV qM_X0_110 qI_X0_moveUp qS_X0_moveUp qN_X0 qC_X0_moveUp) rfl rfl rfl (by decide +kernel) hR
theorem cb_X0_113 {R : Room} {s : State} {args : Array Value} (h : ∀ w ∈ WW, w.before args s = true) (hR : 6 + 1 ≤ R.frames ∧ 8 + (2 + 11) + 90 ≤ R.locals) : CallB R s args RX0 113 yX0_requireAsk cX0_requireAsk 2 none (Cond.code yX0_requireAsk cX0_requireAsk 2 none :: WW) ({ frames := 6, cells := 1, slots := 6, locals := 90 }) 1 6 2 ∧ (Cond.static yX0_requireAsk).before args s = true := va_cwS 2 h (gdS qM_X0_113 qT_X0_requireAsk qN_X0 qC_X0_requireAsk) rfl rfl rfl (by decide +kernel) hR
theorem cb_X0_116 {R : Room} {s : State} {args : Array Value} (h : ∀ w ∈ WW, w.before args s = true) (hR : 2 + 1 ≤ R.frames ∧ 8 + (3 + 11) + 46 ≤ R.locals) : CallW R s args RX0 RX0 116 yX0_lemmaTells cX0_lemmaTells 3 (some .int) (Cond.code yX0_lemmaTells cX0_lemmaTells 3 (some .int) :: WW) ({ frames := 2, cells := 0, slots := 0, locals := 46 }) 0 0 2 := cwV 2 h (gdV qM_X0_116 qI_X0_lemmaTells qS_X0_lemmaTells qN_X0 qC_X0_lemmaTells) rfl rfl rfl (by decide +kernel) hR
theorem cb_X0_119 {R : Room} {s : State} {args : Array Value} (h : ∀ w ∈ WW, w.before args s = true) (hR : 0 + 1 ≤ R.frames ∧ 8 + (3 + 11) + 0 ≤ R.locals) : CallW R s args RX0 RX0 119 yX0_stepTells cX0_stepTells 3 (some .int) (Cond.code yX0_stepTells cX0_stepTells 3 (some .int) :: WW) ({ frames := 0, cells := 0, slots := 0, locals := 0 }) 0 0 2 := cwV 2 h (gdV qM_X0_119 qI_X0_stepTells qS_X0_stepTells qN_X0 qC_X0_stepTells) rfl rfl rfl (by decide +kernel) hR
theorem cb_X0_122 {R : Room} {s : State} {args : Array Value} (h : ∀ w ∈ WW, w.before args s = true) (hR : 2 + 1 ≤ R.frames ∧ 8 + (5 + 11) + 45 ≤ R.locals) : CallW R s args RX0 RX0 122 yX0_holds cX0_holds 5 (some .boolean) (Cond.code yX0_holds cX0_holds 5 (some .boolean) :: WW) ({ frames := 2, cells := 0, slots := 0, locals := 45 }) 0 0 3 := cwV 3 h (gdV qM_X0_122 qI_X0_holds qS_X0_holds qN_X0 qC_X0_holds) rfl rfl rfl (by decide +kernel) hR
theorem cb_X0_126 {R : Room} {s : State} {args : Array Value} (h : ∀ w ∈ WW, w.before args s = true) (hR : 2 + 1 ≤ R.frames ∧ 8 + (6 + 11) + 45 ≤ R.locals) : CallW R s args RX0 RX0 126 yX0_costOfProof cX0_costOfProof 6 (some .int) (Cond.code yX0_costOfProof cX0_costOfProof 6 (some .int) :: WW) ({ frames := 2, cells := 0, slots := 0, locals := 45 }) 0 0 3 := cwV 3 h (gdV qM_X0_126 qI_X0_costOfProof qS_X0_costOfProof qN_X0 qC_X0_costOfProof) rfl rfl rfl (by decide +kernel) hR
theorem cb_X0_130 {R : Room} {s : State} {args : Array Value} (h : ∀ w ∈ WW, w.before args s = true) (hR : 0 + 1 ≤ R.frames ∧ 8 + (1 + 11) + 0 ≤ R.locals) : CallB R s args RX0 130 yX0_orNone cX0_orNone 1 (some .int) (Cond.code yX0_orNone cX0_orNone 1 (some .int) :: WW) ({ frames := 0, cells := 0, slots := 0, locals := 0 }) 0 0 1 ∧ (Cond.static yX0_orNone).before args s = true := va_cwS 1 h (gdS qM_X0_130 qT_X0_orNone qN_X0 qC_X0_orNone) rfl rfl rfl (by decide +kernel) hR
theorem cb_X0_133 {R : Room} {s : State} {args : Array Value} (h : ∀ w ∈ WW, w.before args s = true) (hR : 4 + 1 ≤ R.frames ∧ 8 + (2 + 11) + 91 ≤ R.locals) : CallW R s args RX0 RX0 133 yX0_countOf cX0_countOf 2 (some .int) (Cond.code yX0_countOf cX0_countOf 2 (some .int) :: WW) ({ frames := 4, cells := 0, slots := 0, locals := 91 }) 0 0 1 := cwV 1 h (gdV qM_X0_133 qI_X0_countOf qS_X0_countOf qN_X0 qC_X0_countOf) rfl rfl rfl (by decide +kernel) hR
theorem cb_X0_136 {R : Room} {s : State} {args : Array Value} (h : ∀ w ∈ WW, w.before args s = true) (hR : 4 + 1 ≤ R.frames ∧ 8 + (7 + 11) + 93 ≤ R.locals) : CallW R s args RX0 RX0 136 yX0_prove cX0_prove 7 (some .int) (Cond.code yX0_prove cX0_prove 7 (some .int) :: WW) ({ frames := 4, cells := 0, slots := 0, locals := 93 }) 0 0 2 := cwV 2 h (gdV qM_X0_136 qI_X0_prove qS_X0_prove qN_X0 qC_X0_prove) rfl rfl rfl (by decide +kernel) hR
theorem cb_X0_143 {R : Room} {s : State} {args : Array Value} (h : ∀ w ∈ WW, w.before args s = true) (hR : 5 + 1 ≤ R.frames ∧ 8 + (4 + 11) + 119 ≤ R.locals) : CallW R s args RX0 RX0 143 yX0_provedIfClosed cX0_provedIfClosed 4 (some .int) (Cond.code yX0_provedIfClosed cX0_provedIfClosed 4 (some .int) :: WW) ({ frames := 5, cells := 0, slots := 0, locals := 119 }) 0 0 1 := cwV 1 h (gdV qM_X0_143 qI_X0_provedIfClosed qS_X0_provedIfClosed qN_X0 qC_X0_provedIfClosed) rfl rfl rfl (by decide +kernel) hR
theorem cb_X0_146 {R : Room} {s : State} {args : Array Value} (h : ∀ w ∈ WW, w.before args s = true) (hR : 3 + 1 ≤ R.frames ∧ 8 + (4 + 11) + 68 ≤ R.locals) : CallW R s args RX0 RX0 146 yX0_overLemmas cX0_overLemmas 4 (some .int) (Cond.code yX0_overLemmas cX0_overLemmas 4 (some .int) :: WW) ({ frames := 3, cells := 0, slots := 0, locals := 68 }) 0 0 1 := cwV 1 h (gdV qM_X0_146 qI_X0_overLemmas qS_X0_overLemmas qN_X0 qC_X0_overLemmas) rfl rfl rfl (by decide +kernel) hR
theorem cb_X0_153 {R : Room} {s : State} {args : Array Value} (h : ∀ w ∈ WW, w.before args s = true) (hR : 3 + 1 ≤ R.frames ∧ 8 + (7 + 11) + 68 ≤ R.locals) : CallW R s args RX0 RX0 153 yX0_digestLemma cX0_digestLemma 7 (some .long) (Cond.code yX0_digestLemma cX0_digestLemma 7 (some .long) :: WW) ({ frames := 3, cells := 0, slots := 0, locals := 68 }) 0 0 2 := cwV 2 h (gdV qM_X0_153 qI_X0_digestLemma qS_X0_digestLemma qN_X0 qC_X0_digestLemma) rfl rfl rfl (by decide +kernel) hR
theorem cb_X0_157 {R : Room} {s : State} {args : Array Value} (h : ∀ w ∈ WW, w.before args s = true) (hR : 0 + 1 ≤ R.frames ∧ 8 + (1 + 11) + 0 ≤ R.locals) : CallB R s args RX0 157 yX0_isAxiom cX0_isAxiom 1 (some .boolean) (Cond.code yX0_isAxiom cX0_isAxiom 1 (some .boolean) :: WW) ({ frames := 0, cells := 0, slots := 0, locals := 0 }) 0 0 1 ∧ (Cond.static yX0_isAxiom).before args s = true := va_cwS 1 h (gdS qM_X0_157 qT_X0_isAxiom qN_X0 qC_X0_isAxiom) rfl rfl rfl (by decide +kernel) hR
theorem cb_X0_166 {R : Room} {s : State} {args : Array Value} (h : ∀ w ∈ WW, w.before args s = true) (hR : 0 + 1 ≤ R.frames ∧ 8 + (2 + 11) + 0 ≤ R.locals) : CallW R s args RX0 RX0 166 yX0_isLemma cX0_isLemma 2 (some .boolean) (Cond.code yX0_isLemma cX0_isLemma 2 (some .boolean) :: WW) ({ frames := 0, cells := 0, slots := 0, locals := 0 }) 0 0 1 := cwV 1 h (gdV qM_X0_166 qI_X0_isLemma qS_X0_isLemma qN_X0 qC_X0_isLemma) rfl rfl rfl (by decide +kernel) hR
theorem cb_X0_181 {R : Room} {s : State} {args : Array Value} (h : ∀ w ∈ WW, w.before args s = true) (hR : 0 + 1 ≤ R.frames ∧ 8 + (1 + 11) + 0 ≤ R.locals) : CallB R s args RX0 181 yX0_firstStepOf cX0_firstStepOf 1 (some .int) (Cond.code yX0_firstStepOf cX0_firstStepOf 1 (some .int) :: WW) ({ frames := 0, cells := 0, slots := 0, locals := 0 }) 0 0 1 ∧ (Cond.static yX0_firstStepOf).before args s = true := va_cwS 1 h (gdS qM_X0_181 qT_X0_firstStepOf qN_X0 qC_X0_firstStepOf) rfl rfl rfl (by decide +kernel) hR
theorem cb_X0_184 {R : Room} {s : State} {args : Array Value} (h : ∀ w ∈ WW, w.before args s = true) (hR : 4 + 1 ≤ R.frames ∧ 8 + (4 + 11) + 96 ≤ R.locals) : CallW R s args RX0 RX0 184 yX0_reckon cX0_reckon 4 none (Cond.code yX0_reckon cX0_reckon 4 none :: WW) ({ frames := 4, cells := 0, slots := 0, locals := 96 }) 0 0 2 := cwV 2 h (gdV qM_X0_184 qI_X0_reckon qS_X0_reckon qN_X0 qC_X0_reckon) rfl rfl rfl (by decide +kernel) hR
theorem cb_X0_188 {R : Room} {s : State} {args : Array Value} (h : ∀ w ∈ WW, w.before args s = true) (hR : 1 + 1 ≤ R.frames ∧ 8 + (6 + 11) + 21 ≤ R.locals) : CallW R s args RX0 RX0 188 yX0_lemmasCitedBy cX0_lemmasCitedBy 6 (some .int) (Cond.code yX0_lemmasCitedBy cX0_lemmasCitedBy 6 (some .int) :: WW) ({ frames := 1, cells := 0, slots := 0, locals := 21 }) 0 0 1 := cwV 1 h (gdV qM_X0_188 qI_X0_lemmasCitedBy qS_X0_lemmasCitedBy qN_X0 qC_X0_lemmasCitedBy) rfl rfl rfl (by decide +kernel) hR
theorem cb_X0_191 {R : Room} {s : State} {args : Array Value} (h : ∀ w ∈ WW, w.before args s = true) (hR : 2 + 1 ≤ R.frames ∧ 8 + (4 + 11) + 44 ≤ R.locals) : CallW R s args RX0 RX0 191 yX0_citesToItself cX0_citesToItself 4 (some .int) (Cond.code yX0_citesToItself cX0_citesToItself 4 (some .int) :: WW) ({ frames := 2, cells := 0, slots := 0, locals := 44 }) 0 0 1 := cwV 1 h (gdV qM_X0_191 qI_X0_citesToItself qS_X0_citesToItself qN_X0 qC_X0_citesToItself) rfl rfl rfl (by decide +kernel) hR
theorem cb_X0_194 {R : Room} {s : State} {args : Array Value} (h : ∀ w ∈ WW, w.before args s = true) (hR : 0 + 1 ≤ R.frames ∧ 8 + (4 + 11) + 0 ≤ R.locals) : CallB R s args RX0 194 yJ7_fill_53178 cJ7_fill_53178 4 none (Cond.code yJ7_fill_53178 cJ7_fill_53178 4 none :: WW) ({ frames := 0, cells := 0, slots := 0, locals := 0 }) 0 0 2 ∧ (Cond.static yJ7_fill_53178).before args s = true := va_cwS 2 h (gdS qM_X0_194 qT_J7_fill_53178 qN_J7 qC_J7_fill_53178) rfl rfl rfl (by decide +kernel) hR
theorem cb_X0_200 {R : Room} {s : State} {args : Array Value} (h : ∀ w ∈ WW, w.before args s = true) (hR : 3 + 1 ≤ R.frames ∧ 8 + (5 + 11) + 69 ≤ R.locals) : CallW R s args RX0 RX0 200 yX0_hasProofAt cX0_hasProofAt 5 (some .boolean) (Cond.code yX0_hasProofAt cX0_hasProofAt 5 (some .boolean) :: WW) ({ frames := 3, cells := 0, slots := 0, locals := 69 }) 0 0 3 := cwV 3 h (gdV qM_X0_200 qI_X0_hasProofAt qS_X0_hasProofAt qN_X0 qC_X0_hasProofAt) rfl rfl rfl (by decide +kernel) hR
theorem cb_X0_203 {R : Room} {s : State} {args : Array Value} (h : ∀ w ∈ WW, w.before args s = true) (hR : 1 + 1 ≤ R.frames ∧ 8 + (3 + 11) + 21 ≤ R.locals) : CallW R s args RX0 RX0 203 yX0_isWhole cX0_isWhole 3 (some .boolean) (Cond.code yX0_isWhole cX0_isWhole 3 (some .boolean) :: WW) ({ frames := 1, cells := 0, slots := 0, locals := 21 }) 0 0 1 := cwV 1 h (gdV qM_X0_203 qI_X0_isWhole qS_X0_isWhole qN_X0 qC_X0_isWhole) rfl rfl rfl (by decide +kernel) hR
theorem cb_X0_206 {R : Room} {s : State} {args : Array Value} (h : ∀ w ∈ WW, w.before args s = true) (hR : 1 + 1 ≤ R.frames ∧ 8 + (5 + 11) + 21 ≤ R.locals) : CallW R s args RX0 RX0 206 yX0_stepHolds cX0_stepHolds 5 (some .boolean) (Cond.code yX0_stepHolds cX0_stepHolds 5 (some .boolean) :: WW) ({ frames := 1, cells := 0, slots := 0, locals := 21 }) 0 0 3 := cwV 3 h (gdV qM_X0_206 qI_X0_stepHolds qS_X0_stepHolds qN_X0 qC_X0_stepHolds) rfl rfl rfl (by decide +kernel) hR
theorem cb_X0_209 {R : Room} {s : State} {args : Array Value} (h : ∀ w ∈ WW, w.before args s = true) (hR : 3 + 1 ≤ R.frames ∧ 8 + (7 + 11) + 70 ≤ R.locals) : CallW R s args RX0 RX0 209 yX0_reckonRound cX0_reckonRound 7 (some .boolean) (Cond.code yX0_reckonRound cX0_reckonRound 7 (some .boolean) :: WW) ({ frames := 3, cells := 0, slots := 0, locals := 70 }) 0 0 2 := cwV 2 h (gdV qM_X0_209 qI_X0_reckonRound qS_X0_reckonRound qN_X0 qC_X0_reckonRound) rfl rfl rfl (by decide +kernel) hR
theorem cb_X0_213 {R : Room} {s : State} {args : Array Value} (h : ∀ w ∈ WW, w.before args s = true) (hR : 1 + 1 ≤ R.frames ∧ 8 + (5 + 11) + 21 ≤ R.locals) : CallW R s args RX0 RX0 213 yX0_costOfStep cX0_costOfStep 5 (some .int) (Cond.code yX0_costOfStep cX0_costOfStep 5 (some .int) :: WW) ({ frames := 1, cells := 0, slots := 0, locals := 21 }) 0 0 3 := cwV 3 h (gdV qM_X0_213 qI_X0_costOfStep qS_X0_costOfStep qN_X0 qC_X0_costOfStep) rfl rfl rfl (by decide +kernel) hR
theorem cb_X0_219 {R : Room} {s : State} {args : Array Value} (h : ∀ w ∈ WW, w.before args s = true) (hR : 0 + 1 ≤ R.frames ∧ 8 + (2 + 11) + 0 ≤ R.locals) : CallB R s args RX0 219 yX0_isIn cX0_isIn 2 (some .boolean) (Cond.code yX0_isIn cX0_isIn 2 (some .boolean) :: WW) ({ frames := 0, cells := 0, slots := 0, locals := 0 }) 0 0 2 ∧ (Cond.static yX0_isIn).before args s = true := va_cwS 2 h (gdS qM_X0_219 qT_X0_isIn qN_X0 qC_X0_isIn) rfl rfl rfl (by decide +kernel) hR
theorem cb_X0_223 {R : Room} {s : State} {args : Array Value} (h : ∀ w ∈ WW, w.before args s = true) (hR : 1 + 1 ≤ R.frames ∧ 8 + (4 + 11) + 21 ≤ R.locals) : CallW R s args RX0 RX0 223 yX0_lemmasCitedByAll cX0_lemmasCitedByAll 4 (some .int) (Cond.code yX0_lemmasCitedByAll cX0_lemmasCitedByAll 4 (some .int) :: WW) ({ frames := 1, cells := 0, slots := 0, locals := 21 }) 0 0 1 := cwV 1 h (gdV qM_X0_223 qI_X0_lemmasCitedByAll qS_X0_lemmasCitedByAll qN_X0 qC_X0_lemmasCitedByAll) rfl rfl rfl (by decide +kernel) hR
theorem cb_X0_226 {R : Room} {s : State} {args : Array Value} (h : ∀ w ∈ WW, w.before args s = true) (hR : 1 + 1 ≤ R.frames ∧ 8 + (4 + 11) + 21 ≤ R.locals) : CallW R s args RX0 RX0 226 yX0_stepsOf cX0_stepsOf 4 (some .int) (Cond.code yX0_stepsOf cX0_stepsOf 4 (some .int) :: WW) ({ frames := 1, cells := 0, slots := 0, locals := 21 }) 0 0 1 := cwV 1 h (gdV qM_X0_226 qI_X0_stepsOf qS_X0_stepsOf qN_X0 qC_X0_stepsOf) rfl rfl rfl (by decide +kernel) hR
theorem cb_X0_229 {R : Room} {s : State} {args : Array Value} (h : ∀ w ∈ WW, w.before args s = true) (hR : 1 + 1 ≤ R.frames ∧ 8 + (6 + 11) + 21 ≤ R.locals) : CallW R s args RX0 RX0 229 yX0_openOf cX0_openOf 6 (some .int) (Cond.code yX0_openOf cX0_openOf 6 (some .int) :: WW) ({ frames := 1, cells := 0, slots := 0, locals := 21 }) 0 0 1 := cwV 1 h (gdV qM_X0_229 qI_X0_openOf qS_X0_openOf qN_X0 qC_X0_openOf) rfl rfl rfl (by decide +kernel) hR
theorem cb_X0_232 {R : Room} {s : State} {args : Array Value} (h : ∀ w ∈ WW, w.before args s = true) (hR : 0 + 1 ≤ R.frames ∧ 8 + (3 + 11) + 0 ≤ R.locals) : CallW R s args RX0 RX0 232 yX0_axiomsTaken cX0_axiomsTaken 3 (some .int) (Cond.code yX0_axiomsTaken cX0_axiomsTaken 3 (some .int) :: WW) ({ frames := 0, cells := 0, slots := 0, locals := 0 }) 0 0 0 := cwV 0 h (gdV qM_X0_232 qI_X0_axiomsTaken qS_X0_axiomsTaken qN_X0 qC_X0_axiomsTaken) rfl rfl rfl (by decide +kernel) hR
theorem cb_X0_236 {R : Room} {s : State} {args : Array Value} (h : ∀ w ∈ WW, w.before args s = true) (hR : 0 + 1 ≤ R.frames ∧ 8 + (3 + 11) + 0 ≤ R.locals) : CallW R s args RX0 RX0 236 yX0_lemmasInCircles cX0_lemmasInCircles 3 (some .int) (Cond.code yX0_lemmasInCircles cX0_lemmasInCircles 3 (some .int) :: WW) ({ frames := 0, cells := 0, slots := 0, locals := 0 }) 0 0 0 := cwV 0 h (gdV qM_X0_236 qI_X0_lemmasInCircles qS_X0_lemmasInCircles qN_X0 qC_X0_lemmasInCircles) rfl rfl rfl (by decide +kernel) hR
theorem cb_X0_239 {R : Room} {s : State} {args : Array Value} (h : ∀ w ∈ WW, w.before args s = true) (hR : 1 + 1 ≤ R.frames ∧ 8 + (8 + 11) + 22 ≤ R.locals) : CallW R s args RX0 RX0 239 yX0_digestProof cX0_digestProof 8 (some .long) (Cond.code yX0_digestProof cX0_digestProof 8 (some .long) :: WW) ({ frames := 1, cells := 0, slots := 0, locals := 22 }) 0 0 2 := cwV 2 h (gdV qM_X0_239 qI_X0_digestProof qS_X0_digestProof qN_X0 qC_X0_digestProof) rfl rfl rfl (by decide +kernel) hR
set_option maxHeartbeats 4000000 in
set_option maxRecDepth 100000 in
theorem tX0_isAxiom {l : Launch} {v0 : Int32} {z : Int32} (h : mX_isAxiom v0 = some z) : Met l yX0_isAxiom (Cond.code yX0_isAxiom cX0_isAxiom 1 (some .boolean) :: WW) ({ frames := 0, cells := 0, slots := 0, locals := 0 }) (va_Pc [.int v0] (fun _ => True)) (vp_Si (fun r => r = z)) 0 0 (fun _ => False) := by
  refine RS_of (own := RX0) (by decide) rfl (Nat.le_of_ble_eq_true rfl) ?_
  intro p e s m args below meth c ha C hr hlk ls hl
  have hl : lv_has ls 1 [(0, .int v0)] := hl
  unfold mX_isAxiom at h
  refine lv_iload_n C.1 C.2.1 dX0_isAxiom_0 rfl (lv_at hl 0 rfl) ?_
  refine k_if_lt (tgt := 13) C dX0_isAxiom_1 (by decide) h (fun c1 h => ?_) (fun c1 h => ?_)
  · refine lv_iconst (v := 0) C.1 C.2.1 dX0_isAxiom_13 (by decide) ?_
    exact k_zret C hr hlk h dX0_isAxiom_14
  · refine lv_iload_n C.1 C.2.1 dX0_isAxiom_4 rfl (lv_at hl 0 rfl) ?_
    refine lv_iconst (v := 5) C.1 C.2.1 dX0_isAxiom_5 (by decide) ?_
    refine k_icmp_ge (tgt := 13) C dX0_isAxiom_6 (by decide) h (fun c6 h => ?_) (fun c6 h => ?_)
    · refine lv_iconst (v := 0) C.1 C.2.1 dX0_isAxiom_13 (by decide) ?_
      exact k_zret C hr hlk h dX0_isAxiom_14
    · refine lv_iconst (v := 1) C.1 C.2.1 dX0_isAxiom_9 (by decide) ?_
      refine lv_goto (tgt := 14) C.1 C.2.1 dX0_isAxiom_10 (by decide) ?_
      exact k_zret C hr hlk h dX0_isAxiom_14
set_option maxHeartbeats 4000000 in
set_option maxRecDepth 100000 in
theorem tX0_requireAxiom {l : Launch} {v0 : Int32} {z : (Int32 ⊕ Nat)} (hfl : l.stackTraces = false) (h : mX_requireAxiom v0 = some z) : tx_Met l yX0_requireAxiom (Cond.code yX0_requireAxiom cX0_requireAxiom 1 none :: WW) ({ frames := 6, cells := 1, slots := 6, locals := 90 }) (va_Pc [.int v0] excU) (tqv z) (txX z) 1 6 (fun _ => False) := by
  refine TX_of (own := RX0) (by decide) rfl (Nat.le_of_ble_eq_true rfl) ?_
  intro p e s m args below meth c ha C hr hlk hout hE ls hl
  have hl : lv_has ls 1 [(0, .int v0)] := hl
  unfold mX_requireAxiom at h
  refine lv_iload_n C.1 C.2.1 dX0_requireAxiom_0 rfl (lv_at hl 0 rfl) ?_
  refine k_prS C [.int v0] h (fun v e => tX0_isAxiom e) (cb_X0_157 C.2.2.2.2 ⟨Nat.le_of_ble_eq_true rfl, Nat.le_of_ble_eq_true rfl⟩) rfl hl.1 (Nat.le_of_ble_eq_true rfl) ⟨Nat.le_of_ble_eq_true rfl, Nat.le_of_ble_eq_true rfl⟩ dX0_requireAxiom_1 rfl (fun x1 e1 h => ?_)
  refine k_if_ne (tgt := 17) C dX0_requireAxiom_4 (by decide) h (fun c4 h => ?_) (fun c4 h => ?_)
  · exact k_vretT C hr hlk (v := 0) h dX0_requireAxiom_17
  · exact k_throw1 C hfl hE hlk hout h (List.mem_of_getElem? (i := 0) rfl) hl.1 (Nat.le_of_ble_eq_true rfl) (Nat.le_of_ble_eq_true rfl) (Nat.le_of_ble_eq_true rfl) (Nat.le_of_ble_eq_true rfl) dX0_requireAxiom_7 dX0_requireAxiom_10 dX0_requireAxiom_11 dX0_requireAxiom_13 dX0_requireAxiom_16
set_option maxHeartbeats 4000000 in
set_option maxRecDepth 100000 in
theorem tX0_slotOf {l : Launch} {v0 : Int32} {v1 : Int32} {z : Int32} (h : mX_slotOf v0 v1 = some z) : Met l yX0_slotOf (Cond.code yX0_slotOf cX0_slotOf 2 (some .int) :: WW) ({ frames := 0, cells := 0, slots := 0, locals := 0 }) (va_Pc [.int v0, .int v1] (fun _ => True)) (vp_Si (fun r => r = z)) 0 0 (fun _ => False) := by
  refine RS_of (own := RX0) (by decide) rfl (Nat.le_of_ble_eq_true rfl) ?_
  intro p e s m args below meth c ha C hr hlk ls hl
  have hl : lv_has ls 2 [(0, .int v0), (1, .int v1)] := hl
  unfold mX_slotOf at h
  refine lv_iload_n C.1 C.2.1 dX0_slotOf_0 rfl (lv_at hl 0 rfl) ?_
  refine lv_iconst (v := 3) C.1 C.2.1 dX0_slotOf_1 (by decide) ?_
  refine lv_imul C.1 C.2.1 dX0_slotOf_2 ?_
  refine lv_iload_n C.1 C.2.1 dX0_slotOf_3 rfl (lv_at hl 1 rfl) ?_
  refine lv_iadd C.1 C.2.1 dX0_slotOf_4 ?_
  exact k_iret C hr hlk h dX0_slotOf_5
set_option maxHeartbeats 4000000 in
set_option maxRecDepth 100000 in
theorem tX0_firstStepOf {l : Launch} {v0 : Int32} {z : Int32} (h : mX_firstStepOf v0 = some z) : Met l yX0_firstStepOf (Cond.code yX0_firstStepOf cX0_firstStepOf 1 (some .int) :: WW) ({ frames := 0, cells := 0, slots := 0, locals := 0 }) (va_Pc [.int v0] (fun _ => True)) (vp_Si (fun r => r = z)) 0 0 (fun _ => False) := by
  refine RS_of (own := RX0) (by decide) rfl (Nat.le_of_ble_eq_true rfl) ?_
  intro p e s m args below meth c ha C hr hlk ls hl
  have hl : lv_has ls 1 [(0, .int v0)] := hl
  unfold mX_firstStepOf at h
  refine lv_iload_n C.1 C.2.1 dX0_firstStepOf_0 rfl (lv_at hl 0 rfl) ?_
  refine lv_iconst (v := 5) C.1 C.2.1 dX0_firstStepOf_1 (by decide) ?_
  refine lv_imul C.1 C.2.1 dX0_firstStepOf_2 ?_
  exact k_iret C hr hlk h dX0_firstStepOf_3
set_option maxHeartbeats 4000000 in
set_option maxRecDepth 100000 in
theorem tX0_endOfSteps {l : Launch} {D : va_G} {cI cZ : ClassId} {a : Nat → Nat} {S : XS} {v1 : Int32} {z : Int32} (h : mX_endOfSteps S v1 = some z) : Met l yX0_endOfSteps (Cond.code yX0_endOfSteps cX0_endOfSteps 2 (some .int) :: WW) ({ frames := 0, cells := 0, slots := 0, locals := 0 }) (va_Pc [.ref (a 0), .int v1] (roP D (wX cI cZ a S) (tyIZ cI cZ))) (vp_Si (fun r => r = z)) 0 0 (fun _ => False) := by
  refine RO_of (own := RX0) (by decide) rfl (Nat.le_of_ble_eq_true rfl) ?_
  intro p e s m args below meth c ha C hr hlk hP hK ls hl
  have hl : lv_has ls 2 [(0, .ref (a 0)), (1, .int v1)] := hl
  unfold mX_endOfSteps at h
  refine lv_iload_n C.1 C.2.1 dX0_endOfSteps_0 rfl (lv_at hl 1 rfl) ?_
  refine lv_iconst (v := 5) C.1 C.2.1 dX0_endOfSteps_1 (by decide) ?_
  refine lv_imul C.1 C.2.1 dX0_endOfSteps_2 ?_
  refine lv_aload_n C.1 C.2.1 dX0_endOfSteps_3 rfl (lv_at hl 0 rfl) ?_
  refine gX0_steps C hK hP dX0_endOfSteps_4 ?_
  refine lv_iload_n C.1 C.2.1 dX0_endOfSteps_7 rfl (lv_at hl 1 rfl) ?_
  refine lX0_steps C hK hP h dX0_endOfSteps_8 (fun h => ?_)
  refine lv_iadd C.1 C.2.1 dX0_endOfSteps_9 ?_
  exact k_iret C hr hlk h dX0_endOfSteps_10
set_option maxHeartbeats 4000000 in
set_option maxRecDepth 100000 in
theorem tX0_isWhole {l : Launch} {D : va_G} {cI cZ : ClassId} {a : Nat → Nat} {S : XS} {v1 : Int32} {z : Int32} (h : mX_isWhole S v1 = some z) : Met l yX0_isWhole (Cond.code yX0_isWhole cX0_isWhole 3 (some .boolean) :: WW) ({ frames := 1, cells := 0, slots := 0, locals := 21 }) (va_Pc [.ref (a 0), .int v1] (roP D (wX cI cZ a S) (tyIZ cI cZ))) (vp_Si (fun r => r = z)) 0 0 (fun _ => False) := by
  refine RO_of (own := RX0) (by decide) rfl (Nat.le_of_ble_eq_true rfl) ?_
  intro p e s m args below meth c ha C hr hlk hP hK ls hl
  have hl : lv_has ls 3 [(0, .ref (a 0)), (1, .int v1)] := hl
  have L5 : ∀ (v1 : Int32) (n : Nat) (v2 : Int32), itr1 (mX_isWhole_F5 S v1) n v2 = some z → ∀ ls : Array Slot, lv_has ls 3 [(0, .ref (a 0)), (1, .int v1), (2, .int v2)] → W p l e { frames := 1, cells := 0, slots := 0, locals := 21 } s m args below meth c s.heap [] 0 0 (MQ below (vp_Si (fun r => r = z)) args s 0 0 (fun _ => False)) (F0 m 5 ls []) := by
    intro v1 n
    refine itr1_ind (fun (v2 : Int32) => ∀ ls : Array Slot, lv_has ls 3 [(0, .ref (a 0)), (1, .int v1), (2, .int v2)] → W p l e { frames := 1, cells := 0, slots := 0, locals := 21 } s m args below meth c s.heap [] 0 0 (MQ below (vp_Si (fun r => r = z)) args s 0 0 (fun _ => False)) (F0 m 5 ls [])) ?_ n
    intro ih hih v2 h ls hl
    unfold mX_isWhole_F5 at h
    refine lv_iload_n C.1 C.2.1 dX0_isWhole_5 rfl (lv_at hl 2 rfl) ?_
    refine lv_aload_n C.1 C.2.1 dX0_isWhole_6 rfl (lv_at hl 0 rfl) ?_
    refine lv_iload_n C.1 C.2.1 dX0_isWhole_7 rfl (lv_at hl 1 rfl) ?_
    refine k_roVi C hK hP [.int v1] (wX_rv hK hP) h (fun v e => tX0_endOfSteps e) (cb_X0_86 C.2.2.2.2 ⟨Nat.le_of_ble_eq_true rfl, Nat.le_of_ble_eq_true rfl⟩) rfl hl.1 (Nat.le_of_ble_eq_true rfl) ⟨Nat.le_of_ble_eq_true rfl, Nat.le_of_ble_eq_true rfl⟩ dX0_isWhole_8 rfl (fun x8 e8 h => ?_)
    refine k_icmp_ge (tgt := 31) C dX0_isWhole_11 (by decide) h (fun c11 h => ?_) (fun c11 h => ?_)
    · refine lv_aload_n C.1 C.2.1 dX0_isWhole_31 rfl (lv_at hl 0 rfl) ?_
      refine gX0_steps C hK hP dX0_isWhole_32 ?_
      refine lv_iload_n C.1 C.2.1 dX0_isWhole_35 rfl (lv_at hl 1 rfl) ?_
      refine lX0_steps C hK hP h dX0_isWhole_36 (fun h => ?_)
      refine k_if_le (tgt := 44) C dX0_isWhole_37 (by decide) h (fun c37 h => ?_) (fun c37 h => ?_)
      · refine lv_iconst (v := 0) C.1 C.2.1 dX0_isWhole_44 (by decide) ?_
        exact k_zret C hr hlk h dX0_isWhole_45
      · refine lv_iconst (v := 1) C.1 C.2.1 dX0_isWhole_40 (by decide) ?_
        refine lv_goto (tgt := 45) C.1 C.2.1 dX0_isWhole_41 (by decide) ?_
        exact k_zret C hr hlk h dX0_isWhole_45
    · refine lv_aload_n C.1 C.2.1 dX0_isWhole_14 rfl (lv_at hl 0 rfl) ?_
      refine gX0_withdrawn C hK hP dX0_isWhole_15 ?_
      refine lv_iload_n C.1 C.2.1 dX0_isWhole_18 rfl (lv_at hl 2 rfl) ?_
      refine lX0_withdrawn C hK hP h dX0_isWhole_19 (fun h => ?_)
      refine k_if_eq (tgt := 25) C dX0_isWhole_20 (by decide) h (fun c20 h => ?_) (fun c20 h => ?_)
      · refine lv_iinc (v := (v2 + 1)) (lv' := [(2, .int (v2 + 1)), (0, .ref (a 0)), (1, .int v1)]) C.1 C.2.1 dX0_isWhole_25 hl (k := 2) rfl rfl (by decide) rfl (fun ls hl => ?_)
        refine lv_goto (tgt := 5) C.1 C.2.1 dX0_isWhole_28 (by decide) ?_
        exact hih (v2 + 1) h ls (lv_sub hl [1, 2, 0] rfl)
      · refine lv_iconst (v := 0) C.1 C.2.1 dX0_isWhole_23 (by decide) ?_
        exact k_zret C hr hlk h dX0_isWhole_24
  unfold mX_isWhole at h
  refine lv_iload_n C.1 C.2.1 dX0_isWhole_0 rfl (lv_at hl 1 rfl) ?_
  refine k_prS C [.int v1] h (fun v e => tX0_firstStepOf e) (cb_X0_181 C.2.2.2.2 ⟨Nat.le_of_ble_eq_true rfl, Nat.le_of_ble_eq_true rfl⟩) rfl hl.1 (Nat.le_of_ble_eq_true rfl) ⟨Nat.le_of_ble_eq_true rfl, Nat.le_of_ble_eq_true rfl⟩ dX0_isWhole_1 rfl (fun x1 e1 h => ?_)
  refine lv_istore_n (lv' := [(2, .int x1), (0, .ref (a 0)), (1, .int v1)]) C.1 C.2.1 dX0_isWhole_4 rfl hl (by decide) rfl (fun ls hl => ?_)
  exact L5 v1 _ x1 h ls (lv_sub hl [1, 2, 0] rfl)
set_option maxHeartbeats 4000000 in
set_option maxRecDepth 100000 in
theorem tX0_isLemma {l : Launch} {D : va_G} {cI cZ : ClassId} {a : Nat → Nat} {S : XS} {v1 : Int32} {z : Int32} (h : mX_isLemma S v1 = some z) : Met l yX0_isLemma (Cond.code yX0_isLemma cX0_isLemma 2 (some .boolean) :: WW) ({ frames := 0, cells := 0, slots := 0, locals := 0 }) (va_Pc [.ref (a 0), .int v1] (roP D (wX cI cZ a S) (tyIZ cI cZ))) (vp_Si (fun r => r = z)) 0 0 (fun _ => False) := by
  refine RO_of (own := RX0) (by decide) rfl (Nat.le_of_ble_eq_true rfl) ?_
  intro p e s m args below meth c ha C hr hlk hP hK ls hl
  have hl : lv_has ls 2 [(0, .ref (a 0)), (1, .int v1)] := hl
  unfold mX_isLemma at h
  refine lv_iload_n C.1 C.2.1 dX0_isLemma_0 rfl (lv_at hl 1 rfl) ?_
  refine k_if_lt (tgt := 16) C dX0_isLemma_1 (by decide) h (fun c1 h => ?_) (fun c1 h => ?_)
  · refine lv_iconst (v := 0) C.1 C.2.1 dX0_isLemma_16 (by decide) ?_
    exact k_zret C hr hlk h dX0_isLemma_17
  · refine lv_iload_n C.1 C.2.1 dX0_isLemma_4 rfl (lv_at hl 1 rfl) ?_
    refine lv_aload_n C.1 C.2.1 dX0_isLemma_5 rfl (lv_at hl 0 rfl) ?_
    refine gX0_lemmas C hK hP dX0_isLemma_6 ?_
    refine k_icmp_ge (tgt := 16) C dX0_isLemma_9 (by decide) h (fun c9 h => ?_) (fun c9 h => ?_)
    · refine lv_iconst (v := 0) C.1 C.2.1 dX0_isLemma_16 (by decide) ?_
      exact k_zret C hr hlk h dX0_isLemma_17
    · refine lv_iconst (v := 1) C.1 C.2.1 dX0_isLemma_12 (by decide) ?_
      refine lv_goto (tgt := 17) C.1 C.2.1 dX0_isLemma_13 (by decide) ?_
      exact k_zret C hr hlk h dX0_isLemma_17
set_option maxHeartbeats 4000000 in
set_option maxRecDepth 100000 in
theorem tX0_stepHolds {l : Launch} {D : va_G} {cI cZ : ClassId} {a : Nat → Nat} {S : XS} {v1 : Int32} {r2 : Nat} {v3 : Int32} {z : Int32} (hr_r2 : 8 ≤ r2 ∧ r2 ≤ 13) (h : mX_stepHolds S v1 r2 v3 = some z) : Met l yX0_stepHolds (Cond.code yX0_stepHolds cX0_stepHolds 5 (some .boolean) :: WW) ({ frames := 1, cells := 0, slots := 0, locals := 21 }) (va_Pc [.ref (a 0), .int v1, .ref (a r2), .int v3] (roP D (wX cI cZ a S) (tyIZ cI cZ))) (vp_Si (fun r => r = z)) 0 0 (fun _ => False) := by
  refine RO_of (own := RX0) (by decide) rfl (Nat.le_of_ble_eq_true rfl) ?_
  intro p e s m args below meth c ha C hr hlk hP hK ls hl
  have hl : lv_has ls 5 [(0, .ref (a 0)), (1, .int v1), (2, .ref (a r2)), (3, .int v3)] := hl
  unfold mX_stepHolds at h
  refine lv_aload_n C.1 C.2.1 dX0_stepHolds_0 rfl (lv_at hl 0 rfl) ?_
  refine gX0_cited C hK hP dX0_stepHolds_1 ?_
  refine lv_iload_n C.1 C.2.1 dX0_stepHolds_4 rfl (lv_at hl 1 rfl) ?_
  refine lX0_cited C hK hP h dX0_stepHolds_5 (fun h => ?_)
  refine lv_istore (lv' := [(4, .int (S 5 (v1 : Int32).toNatClampNeg)), (0, .ref (a 0)), (1, .int v1), (2, .ref (a r2)), (3, .int v3)]) C.1 C.2.1 dX0_stepHolds_6 hl (by decide) rfl (fun ls hl => ?_)
  refine lv_aload_n C.1 C.2.1 dX0_stepHolds_8 rfl (lv_at hl 1 rfl) ?_
  refine gX0_kinds C hK hP dX0_stepHolds_9 ?_
  refine lv_iload_n C.1 C.2.1 dX0_stepHolds_12 rfl (lv_at hl 2 rfl) ?_
  refine lX0_kinds C hK hP h dX0_stepHolds_13 (fun h => ?_)
  refine k_if_ne (tgt := 41) C dX0_stepHolds_14 (by decide) h (fun c14 h => ?_) (fun c14 h => ?_)
  · refine lv_aload_n C.1 C.2.1 dX0_stepHolds_41 rfl (lv_at hl 1 rfl) ?_
    refine gX0_kinds C hK hP dX0_stepHolds_42 ?_
    refine lv_iload_n C.1 C.2.1 dX0_stepHolds_45 rfl (lv_at hl 2 rfl) ?_
    refine lX0_kinds C hK hP h dX0_stepHolds_46 (fun h => ?_)
    refine lv_iconst (v := 1) C.1 C.2.1 dX0_stepHolds_47 (by decide) ?_
    refine k_icmp_ne (tgt := 81) C dX0_stepHolds_48 (by decide) h (fun c48 h => ?_) (fun c48 h => ?_)
    · refine lv_aload_n C.1 C.2.1 dX0_stepHolds_81 rfl (lv_at hl 1 rfl) ?_
      refine gX0_open C hK hP dX0_stepHolds_82 ?_
      refine lv_iload_n C.1 C.2.1 dX0_stepHolds_85 rfl (lv_at hl 2 rfl) ?_
      refine lX0_open C hK hP h dX0_stepHolds_86 (fun h => ?_)
      refine k_if_ne (tgt := 94) C dX0_stepHolds_87 (by decide) h (fun c87 h => ?_) (fun c87 h => ?_)
      · refine lv_iconst (v := 0) C.1 C.2.1 dX0_stepHolds_94 (by decide) ?_
        exact k_zret C hr hlk h dX0_stepHolds_95
      · refine lv_iconst (v := 1) C.1 C.2.1 dX0_stepHolds_90 (by decide) ?_
        refine lv_goto (tgt := 95) C.1 C.2.1 dX0_stepHolds_91 (by decide) ?_
        exact k_zret C hr hlk h dX0_stepHolds_95
    · refine lv_aload_n C.1 C.2.1 dX0_stepHolds_51 rfl (lv_at hl 1 rfl) ?_
      refine lv_iload C.1 C.2.1 dX0_stepHolds_52 (lv_at hl 0 rfl) ?_
      refine k_roVi C hK hP [.int (S 5 (v1 : Int32).toNatClampNeg)] (wX_rv hK hP) h (fun v e => tX0_isLemma e) (cb_X0_166 C.2.2.2.2 ⟨Nat.le_of_ble_eq_true rfl, Nat.le_of_ble_eq_true rfl⟩) rfl hl.1 (Nat.le_of_ble_eq_true rfl) ⟨Nat.le_of_ble_eq_true rfl, Nat.le_of_ble_eq_true rfl⟩ dX0_stepHolds_54 rfl (fun x54 e54 h => ?_)
      refine k_if_eq (tgt := 79) C dX0_stepHolds_57 (by decide) h (fun c57 h => ?_) (fun c57 h => ?_)
      · refine lv_iconst (v := 0) C.1 C.2.1 dX0_stepHolds_79 (by decide) ?_
        exact k_zret C hr hlk h dX0_stepHolds_80
      · refine lv_aload_n C.1 C.2.1 dX0_stepHolds_60 rfl (lv_at hl 3 rfl) ?_
        refine lv_iload C.1 C.2.1 dX0_stepHolds_61 (lv_at hl 0 rfl) ?_
        refine lX0_row C hK hP hr_r2 h dX0_stepHolds_63 (fun h => ?_)
        refine k_if_le (tgt := 79) C dX0_stepHolds_64 (by decide) h (fun c64 h => ?_) (fun c64 h => ?_)
        · refine lv_iconst (v := 0) C.1 C.2.1 dX0_stepHolds_79 (by decide) ?_
          exact k_zret C hr hlk h dX0_stepHolds_80
        · refine lv_aload_n C.1 C.2.1 dX0_stepHolds_67 rfl (lv_at hl 3 rfl) ?_
          refine lv_iload C.1 C.2.1 dX0_stepHolds_68 (lv_at hl 0 rfl) ?_
          refine lX0_row C hK hP hr_r2 h dX0_stepHolds_70 (fun h => ?_)
          refine lv_iload_n C.1 C.2.1 dX0_stepHolds_71 rfl (lv_at hl 4 rfl) ?_
          refine k_icmp_ge (tgt := 79) C dX0_stepHolds_72 (by decide) h (fun c72 h => ?_) (fun c72 h => ?_)
          · refine lv_iconst (v := 0) C.1 C.2.1 dX0_stepHolds_79 (by decide) ?_
            exact k_zret C hr hlk h dX0_stepHolds_80
          · refine lv_iconst (v := 1) C.1 C.2.1 dX0_stepHolds_75 (by decide) ?_
            refine lv_goto (tgt := 80) C.1 C.2.1 dX0_stepHolds_76 (by decide) ?_
            exact k_zret C hr hlk h dX0_stepHolds_80
  · refine lv_iload C.1 C.2.1 dX0_stepHolds_17 (lv_at hl 0 rfl) ?_
    refine k_prS C [.int (S 5 (v1 : Int32).toNatClampNeg)] h (fun v e => tX0_isAxiom e) (cb_X0_157 C.2.2.2.2 ⟨Nat.le_of_ble_eq_true rfl, Nat.le_of_ble_eq_true rfl⟩) rfl hl.1 (Nat.le_of_ble_eq_true rfl) ⟨Nat.le_of_ble_eq_true rfl, Nat.le_of_ble_eq_true rfl⟩ dX0_stepHolds_19 rfl (fun x19 e19 h => ?_)
    refine k_if_eq (tgt := 39) C dX0_stepHolds_22 (by decide) h (fun c22 h => ?_) (fun c22 h => ?_)
    · refine lv_iconst (v := 0) C.1 C.2.1 dX0_stepHolds_39 (by decide) ?_
      exact k_zret C hr hlk h dX0_stepHolds_40
    · refine lv_aload_n C.1 C.2.1 dX0_stepHolds_25 rfl (lv_at hl 1 rfl) ?_
      refine gX0_taken C hK hP dX0_stepHolds_26 ?_
      refine lv_iload C.1 C.2.1 dX0_stepHolds_29 (lv_at hl 0 rfl) ?_
      refine lX0_taken C hK hP h dX0_stepHolds_31 (fun h => ?_)
      refine k_if_eq (tgt := 39) C dX0_stepHolds_32 (by decide) h (fun c32 h => ?_) (fun c32 h => ?_)
      · refine lv_iconst (v := 0) C.1 C.2.1 dX0_stepHolds_39 (by decide) ?_
        exact k_zret C hr hlk h dX0_stepHolds_40
      · refine lv_iconst (v := 1) C.1 C.2.1 dX0_stepHolds_35 (by decide) ?_
        refine lv_goto (tgt := 40) C.1 C.2.1 dX0_stepHolds_36 (by decide) ?_
        exact k_zret C hr hlk h dX0_stepHolds_40
set_option maxHeartbeats 4000000 in
set_option maxRecDepth 100000 in
theorem tX0_holds {l : Launch} {D : va_G} {cI cZ : ClassId} {a : Nat → Nat} {S : XS} {v1 : Int32} {r2 : Nat} {v3 : Int32} {z : Int32} (hr_r2 : 8 ≤ r2 ∧ r2 ≤ 13) (h : mX_holds S v1 r2 v3 = some z) : Met l yX0_holds (Cond.code yX0_holds cX0_holds 5 (some .boolean) :: WW) ({ frames := 2, cells := 0, slots := 0, locals := 45 }) (va_Pc [.ref (a 0), .int v1, .ref (a r2), .int v3] (roP D (wX cI cZ a S) (tyIZ cI cZ))) (vp_Si (fun r => r = z)) 0 0 (fun _ => False) := by
  refine RO_of (own := RX0) (by decide) rfl (Nat.le_of_ble_eq_true rfl) ?_
  intro p e s m args below meth c ha C hr hlk hP hK ls hl
  have hl : lv_has ls 5 [(0, .ref (a 0)), (1, .int v1), (2, .ref (a r2)), (3, .int v3)] := hl
  have L16 : ∀ (v1 : Int32) (v3 : Int32) (n : Nat) (v4 : Int32), itr1 (mX_holds_F16 S r2 v1 v3) n v4 = some z → ∀ ls : Array Slot, lv_has ls 5 [(0, .ref (a 0)), (1, .int v1), (2, .ref (a r2)), (3, .int v3), (4, .int v4)] → W p l e { frames := 2, cells := 0, slots := 0, locals := 45 } s m args below meth c s.heap [] 0 0 (MQ below (vp_Si (fun r => r = z)) args s 0 0 (fun _ => False)) (F0 m 16 ls []) := by
    intro v1 v3 n
    refine itr1_ind (fun (v4 : Int32) => ∀ ls : Array Slot, lv_has ls 5 [(0, .ref (a 0)), (1, .int v1), (2, .ref (a r2)), (3, .int v3), (4, .int v4)] → W p l e { frames := 2, cells := 0, slots := 0, locals := 45 } s m args below meth c s.heap [] 0 0 (MQ below (vp_Si (fun r => r = z)) args s 0 0 (fun _ => False)) (F0 m 16 ls [])) ?_ n
    intro ih hih v4 h ls hl
    unfold mX_holds_F16 at h
    refine lv_iload C.1 C.2.1 dX0_holds_16 (lv_at hl 4 rfl) ?_
    refine lv_aload_n C.1 C.2.1 dX0_holds_18 rfl (lv_at hl 0 rfl) ?_
    refine lv_iload_n C.1 C.2.1 dX0_holds_19 rfl (lv_at hl 1 rfl) ?_
    refine k_roVi C hK hP [.int v1] (wX_rv hK hP) h (fun v e => tX0_endOfSteps e) (cb_X0_86 C.2.2.2.2 ⟨Nat.le_of_ble_eq_true rfl, Nat.le_of_ble_eq_true rfl⟩) rfl hl.1 (Nat.le_of_ble_eq_true rfl) ⟨Nat.le_of_ble_eq_true rfl, Nat.le_of_ble_eq_true rfl⟩ dX0_holds_20 rfl (fun x20 e20 h => ?_)
    refine k_icmp_ge (tgt := 45) C dX0_holds_23 (by decide) h (fun c23 h => ?_) (fun c23 h => ?_)
    · refine lv_iconst (v := 1) C.1 C.2.1 dX0_holds_45 (by decide) ?_
      exact k_zret C hr hlk h dX0_holds_46
    · refine lv_aload_n C.1 C.2.1 dX0_holds_26 rfl (lv_at hl 0 rfl) ?_
      refine lv_iload C.1 C.2.1 dX0_holds_27 (lv_at hl 4 rfl) ?_
      refine lv_aload_n C.1 C.2.1 dX0_holds_29 rfl (lv_at hl 2 rfl) ?_
      refine lv_iload_n C.1 C.2.1 dX0_holds_30 rfl (lv_at hl 3 rfl) ?_
      refine k_roVi C hK hP [.int v4, .ref (a r2), .int v3] (wX_rv hK hP) h (fun v e => tX0_stepHolds hr_r2 e) (cb_X0_206 C.2.2.2.2 ⟨Nat.le_of_ble_eq_true rfl, Nat.le_of_ble_eq_true rfl⟩) rfl hl.1 (Nat.le_of_ble_eq_true rfl) ⟨Nat.le_of_ble_eq_true rfl, Nat.le_of_ble_eq_true rfl⟩ dX0_holds_31 rfl (fun x31 e31 h => ?_)
      refine k_if_ne (tgt := 39) C dX0_holds_34 (by decide) h (fun c34 h => ?_) (fun c34 h => ?_)
      · refine lv_iinc (v := (v4 + 1)) (lv' := [(4, .int (v4 + 1)), (0, .ref (a 0)), (1, .int v1), (2, .ref (a r2)), (3, .int v3)]) C.1 C.2.1 dX0_holds_39 hl (k := 4) rfl rfl (by decide) rfl (fun ls hl => ?_)
        refine lv_goto (tgt := 16) C.1 C.2.1 dX0_holds_42 (by decide) ?_
        exact hih (v4 + 1) h ls (lv_sub hl [1, 2, 3, 4, 0] rfl)
      · refine lv_iconst (v := 0) C.1 C.2.1 dX0_holds_37 (by decide) ?_
        exact k_zret C hr hlk h dX0_holds_38
  unfold mX_holds at h
  refine lv_aload_n C.1 C.2.1 dX0_holds_0 rfl (lv_at hl 0 rfl) ?_
  refine lv_iload_n C.1 C.2.1 dX0_holds_1 rfl (lv_at hl 1 rfl) ?_
  refine k_roVi C hK hP [.int v1] (wX_rv hK hP) h (fun v e => tX0_isWhole e) (cb_X0_203 C.2.2.2.2 ⟨Nat.le_of_ble_eq_true rfl, Nat.le_of_ble_eq_true rfl⟩) rfl hl.1 (Nat.le_of_ble_eq_true rfl) ⟨Nat.le_of_ble_eq_true rfl, Nat.le_of_ble_eq_true rfl⟩ dX0_holds_2 rfl (fun x2 e2 h => ?_)
  refine k_if_ne (tgt := 10) C dX0_holds_5 (by decide) h (fun c5 h => ?_) (fun c5 h => ?_)
  · refine lv_iload_n C.1 C.2.1 dX0_holds_10 rfl (lv_at hl 1 rfl) ?_
    refine k_prS C [.int v1] h (fun v e => tX0_firstStepOf e) (cb_X0_181 C.2.2.2.2 ⟨Nat.le_of_ble_eq_true rfl, Nat.le_of_ble_eq_true rfl⟩) rfl hl.1 (Nat.le_of_ble_eq_true rfl) ⟨Nat.le_of_ble_eq_true rfl, Nat.le_of_ble_eq_true rfl⟩ dX0_holds_11 rfl (fun x11 e11 h => ?_)
    refine lv_istore (lv' := [(4, .int x11), (0, .ref (a 0)), (1, .int v1), (2, .ref (a r2)), (3, .int v3)]) C.1 C.2.1 dX0_holds_14 hl (by decide) rfl (fun ls hl => ?_)
    exact L16 v1 v3 _ x11 h ls (lv_sub hl [1, 2, 3, 4, 0] rfl)
  · refine lv_iconst (v := 0) C.1 C.2.1 dX0_holds_8 (by decide) ?_
    exact k_zret C hr hlk h dX0_holds_9
set_option maxHeartbeats 4000000 in
set_option maxRecDepth 100000 in
theorem tX0_hasProofAt {l : Launch} {D : va_G} {cI cZ : ClassId} {a : Nat → Nat} {S : XS} {v1 : Int32} {r2 : Nat} {v3 : Int32} {z : Int32} (hr_r2 : 8 ≤ r2 ∧ r2 ≤ 13) (h : mX_hasProofAt S v1 r2 v3 = some z) : Met l yX0_hasProofAt (Cond.code yX0_hasProofAt cX0_hasProofAt 5 (some .boolean) :: WW) ({ frames := 3, cells := 0, slots := 0, locals := 69 }) (va_Pc [.ref (a 0), .int v1, .ref (a r2), .int v3] (roP D (wX cI cZ a S) (tyIZ cI cZ))) (vp_Si (fun r => r = z)) 0 0 (fun _ => False) := by
  refine RO_of (own := RX0) (by decide) rfl (Nat.le_of_ble_eq_true rfl) ?_
  intro p e s m args below meth c ha C hr hlk hP hK ls hl
  have hl : lv_has ls 5 [(0, .ref (a 0)), (1, .int v1), (2, .ref (a r2)), (3, .int v3)] := hl
  have L3 : ∀ (v1 : Int32) (v3 : Int32) (n : Nat) (v4 : Int32), itr1 (mX_hasProofAt_F3 S r2 v1 v3) n v4 = some z → ∀ ls : Array Slot, lv_has ls 5 [(0, .ref (a 0)), (1, .int v1), (2, .ref (a r2)), (3, .int v3), (4, .int v4)] → W p l e { frames := 3, cells := 0, slots := 0, locals := 69 } s m args below meth c s.heap [] 0 0 (MQ below (vp_Si (fun r => r = z)) args s 0 0 (fun _ => False)) (F0 m 3 ls []) := by
    intro v1 v3 n
    refine itr1_ind (fun (v4 : Int32) => ∀ ls : Array Slot, lv_has ls 5 [(0, .ref (a 0)), (1, .int v1), (2, .ref (a r2)), (3, .int v3), (4, .int v4)] → W p l e { frames := 3, cells := 0, slots := 0, locals := 69 } s m args below meth c s.heap [] 0 0 (MQ below (vp_Si (fun r => r = z)) args s 0 0 (fun _ => False)) (F0 m 3 ls [])) ?_ n
    intro ih hih v4 h ls hl
    unfold mX_hasProofAt_F3 at h
    refine lv_iload C.1 C.2.1 dX0_hasProofAt_3 (lv_at hl 4 rfl) ?_
    refine lv_aload_n C.1 C.2.1 dX0_hasProofAt_5 rfl (lv_at hl 0 rfl) ?_
    refine gX0_proofs C hK hP dX0_hasProofAt_6 ?_
    refine lv_iload_n C.1 C.2.1 dX0_hasProofAt_9 rfl (lv_at hl 1 rfl) ?_
    refine lX0_proofs C hK hP h dX0_hasProofAt_10 (fun h => ?_)
    refine k_icmp_ge (tgt := 37) C dX0_hasProofAt_11 (by decide) h (fun c11 h => ?_) (fun c11 h => ?_)
    · refine lv_iconst (v := 0) C.1 C.2.1 dX0_hasProofAt_37 (by decide) ?_
      exact k_zret C hr hlk h dX0_hasProofAt_38
    · refine lv_aload_n C.1 C.2.1 dX0_hasProofAt_14 rfl (lv_at hl 0 rfl) ?_
      refine lv_iload_n C.1 C.2.1 dX0_hasProofAt_15 rfl (lv_at hl 1 rfl) ?_
      refine lv_iload C.1 C.2.1 dX0_hasProofAt_16 (lv_at hl 4 rfl) ?_
      refine k_prS C [.int v1, .int v4] h (fun v e => tX0_slotOf e) (cb_X0_73 C.2.2.2.2 ⟨Nat.le_of_ble_eq_true rfl, Nat.le_of_ble_eq_true rfl⟩) rfl hl.1 (Nat.le_of_ble_eq_true rfl) ⟨Nat.le_of_ble_eq_true rfl, Nat.le_of_ble_eq_true rfl⟩ dX0_hasProofAt_18 rfl (fun x18 e18 h => ?_)
      refine lv_aload_n C.1 C.2.1 dX0_hasProofAt_21 rfl (lv_at hl 2 rfl) ?_
      refine lv_iload_n C.1 C.2.1 dX0_hasProofAt_22 rfl (lv_at hl 3 rfl) ?_
      refine k_roVi C hK hP [.int x18, .ref (a r2), .int v3] (wX_rv hK hP) h (fun v e => tX0_holds hr_r2 e) (cb_X0_122 C.2.2.2.2 ⟨Nat.le_of_ble_eq_true rfl, Nat.le_of_ble_eq_true rfl⟩) rfl hl.1 (Nat.le_of_ble_eq_true rfl) ⟨Nat.le_of_ble_eq_true rfl, Nat.le_of_ble_eq_true rfl⟩ dX0_hasProofAt_23 rfl (fun x23 e23 h => ?_)
      refine k_if_eq (tgt := 31) C dX0_hasProofAt_26 (by decide) h (fun c26 h => ?_) (fun c26 h => ?_)
      · refine lv_iinc (v := (v4 + 1)) (lv' := [(4, .int (v4 + 1)), (0, .ref (a 0)), (1, .int v1), (2, .ref (a r2)), (3, .int v3)]) C.1 C.2.1 dX0_hasProofAt_31 hl (k := 4) rfl rfl (by decide) rfl (fun ls hl => ?_)
        refine lv_goto (tgt := 3) C.1 C.2.1 dX0_hasProofAt_34 (by decide) ?_
        exact hih (v4 + 1) h ls (lv_sub hl [1, 2, 3, 4, 0] rfl)
      · refine lv_iconst (v := 1) C.1 C.2.1 dX0_hasProofAt_29 (by decide) ?_
        exact k_zret C hr hlk h dX0_hasProofAt_30
  unfold mX_hasProofAt at h
  refine lv_iconst (v := 0) C.1 C.2.1 dX0_hasProofAt_0 (by decide) ?_
  refine lv_istore (lv' := [(4, .int 0), (0, .ref (a 0)), (1, .int v1), (2, .ref (a r2)), (3, .int v3)]) C.1 C.2.1 dX0_hasProofAt_1 hl (by decide) rfl (fun ls hl => ?_)
  exact L3 v1 v3 _ 0 h ls (lv_sub hl [1, 2, 3, 4, 0] rfl)
set_option maxHeartbeats 4000000 in
set_option maxRecDepth 100000 in
theorem tX0_prove {l : Launch} {D : va_G} {cI cZ : ClassId} {a : Nat → Nat} {S : XS} {sz : Nat} {r1 : Nat} {v2 : Int32} {z : (Int32 × XS)} (hr_r1 : 8 ≤ r1 ∧ r1 ≤ 13) (h : mX_prove S r1 v2 = some z) : Met l yX0_prove (Cond.code yX0_prove cX0_prove 7 (some .int) :: WW) ({ frames := 4, cells := 0, slots := 0, locals := 93 }) (va_Pc [.ref (a 0), .ref (a r1), .int v2] (rwP D (wX cI cZ a S) (tyIZ cI cZ) sz)) (rwQi D (wX cI cZ a z.2) z.1 (va_A (wX cI cZ a S) sz)) 0 0 (va_A (wX cI cZ a S) sz) := by
  refine RW_of (own := RX0) (Qc := fun A => rwQi D (wX cI cZ a z.2) z.1 A) (by decide) rfl (Nat.le_of_ble_eq_true rfl) ?_
  intro p e s m args below meth c A ha C hr hlk hP hK hD hA ls hl
  have hS : va_S A s.heap s.heap [] := va_S.rf
  have hl : lv_has ls 7 [(0, .ref (a 0)), (1, .ref (a r1)), (2, .int v2)] := hl
  have L25 : ∀ (v2 : Int32) (v4 : Int32) (v5 : Int32) (k : XS → Int32 → Int32 → Option (Int32 × XS)) (hk : ∀ (S : XS) (v3 : Int32) (v4 : Int32), k S v3 v4 = some z → ∀ (H : Heap) (locs : List Loc) (hP : va_P D vwCl (wX cI cZ a S) H) (hD : va_D A (wX cI cZ a S)) (hS : va_S A s.heap H locs) (ls : Array Slot), lv_has ls 7 [(0, .ref (a 0)), (1, .ref (a r1)), (2, .int v2), (3, .int v3), (4, .int v4)] → W p l e { frames := 4, cells := 0, slots := 0, locals := 93 } s m args below meth c H locs 0 0 (MQ below (rwQi D (wX cI cZ a z.2) z.1 A) args s 0 0 A) (F0 m 10 ls [])) (n : Nat) (S : XS) (v3 : Int32) (v6 : Int32), itr3 (mX_prove_F25 r1 k v2 v4 v5) n S v3 v6 = some z → ∀ (H : Heap) (locs : List Loc) (hP : va_P D vwCl (wX cI cZ a S) H) (hD : va_D A (wX cI cZ a S)) (hS : va_S A s.heap H locs) (ls : Array Slot), lv_has ls 7 [(0, .ref (a 0)), (1, .ref (a r1)), (2, .int v2), (3, .int v3), (4, .int v4), (5, .int v5), (6, .int v6)] → W p l e { frames := 4, cells := 0, slots := 0, locals := 93 } s m args below meth c H locs 0 0 (MQ below (rwQi D (wX cI cZ a z.2) z.1 A) args s 0 0 A) (F0 m 25 ls []) := by
    intro v2 v4 v5 k hk n
    refine itr3_ind (fun (S : XS) (v3 : Int32) (v6 : Int32) => ∀ (H : Heap) (locs : List Loc) (hP : va_P D vwCl (wX cI cZ a S) H) (hD : va_D A (wX cI cZ a S)) (hS : va_S A s.heap H locs) (ls : Array Slot), lv_has ls 7 [(0, .ref (a 0)), (1, .ref (a r1)), (2, .int v2), (3, .int v3), (4, .int v4), (5, .int v5), (6, .int v6)] → W p l e { frames := 4, cells := 0, slots := 0, locals := 93 } s m args below meth c H locs 0 0 (MQ below (rwQi D (wX cI cZ a z.2) z.1 A) args s 0 0 A) (F0 m 25 ls [])) ?_ n
    intro ih hih S v3 v6 h H locs hP hD hS ls hl
    unfold mX_prove_F25 at h
    refine lv_iload C.1 C.2.1 dX0_prove_25 (lv_at hl 6 rfl) ?_
    refine lv_aload_n C.1 C.2.1 dX0_prove_27 rfl (lv_at hl 0 rfl) ?_
    refine gX0_lemmas C hK hP dX0_prove_28 ?_
    refine k_icmp_ge (tgt := 74) C dX0_prove_31 (by decide) h (fun c31 h => ?_) (fun c31 h => ?_)
    · refine lv_iload_n C.1 C.2.1 dX0_prove_74 rfl (lv_at hl 3 rfl) ?_
      refine lv_iload C.1 C.2.1 dX0_prove_75 (lv_at hl 5 rfl) ?_
      refine k_icmp_ne (tgt := 83) C dX0_prove_77 (by decide) h (fun c77 h => ?_) (fun c77 h => ?_)
      · refine lv_iinc (v := (v4 + 1)) (lv' := [(4, .int (v4 + 1)), (0, .ref (a 0)), (1, .ref (a r1)), (2, .int v2), (3, .int v3), (5, .int v5), (6, .int v6)]) C.1 C.2.1 dX0_prove_83 hl (k := 4) rfl rfl (by decide) rfl (fun ls hl => ?_)
        refine lv_goto (tgt := 10) C.1 C.2.1 dX0_prove_86 (by decide) ?_
        exact hk S v3 (v4 + 1) h _ _ hP hD hS ls (lv_sub hl [1, 2, 3, 4, 0] rfl)
      · refine lv_goto (tgt := 89) C.1 C.2.1 dX0_prove_80 (by decide) ?_
        refine lv_iload_n C.1 C.2.1 dX0_prove_89 rfl (lv_at hl 3 rfl) ?_
        exact k_iretW (w := wX cI cZ a) C hr hlk h hP hS dX0_prove_90
    · refine lv_iload C.1 C.2.1 dX0_prove_34 (lv_at hl 6 rfl) ?_
      refine lv_iload_n C.1 C.2.1 dX0_prove_36 rfl (lv_at hl 2 rfl) ?_
      refine k_icmp_eq (tgt := 68) C dX0_prove_37 (by decide) h (fun c37 h => ?_) (fun c37 h => ?_)
      · refine lv_iinc (v := (v6 + 1)) (lv' := [(6, .int (v6 + 1)), (0, .ref (a 0)), (1, .ref (a r1)), (2, .int v2), (3, .int v3), (4, .int v4), (5, .int v5)]) C.1 C.2.1 dX0_prove_68 hl (k := 6) rfl rfl (by decide) rfl (fun ls hl => ?_)
        refine lv_goto (tgt := 25) C.1 C.2.1 dX0_prove_71 (by decide) ?_
        exact hih S v3 (v6 + 1) h _ _ hP hD hS ls (lv_sub hl [1, 2, 3, 4, 5, 6, 0] rfl)
      · refine lv_aload_n C.1 C.2.1 dX0_prove_40 rfl (lv_at hl 1 rfl) ?_
        refine lv_iload C.1 C.2.1 dX0_prove_41 (lv_at hl 6 rfl) ?_
        refine lX0_row C hK hP hr_r1 h dX0_prove_43 (fun h => ?_)
        refine k_if_ne (tgt := 68) C dX0_prove_44 (by decide) h (fun c44 h => ?_) (fun c44 h => ?_)
        · refine lv_iinc (v := (v6 + 1)) (lv' := [(6, .int (v6 + 1)), (0, .ref (a 0)), (1, .ref (a r1)), (2, .int v2), (3, .int v3), (4, .int v4), (5, .int v5)]) C.1 C.2.1 dX0_prove_68 hl (k := 6) rfl rfl (by decide) rfl (fun ls hl => ?_)
          refine lv_goto (tgt := 25) C.1 C.2.1 dX0_prove_71 (by decide) ?_
          exact hih S v3 (v6 + 1) h _ _ hP hD hS ls (lv_sub hl [1, 2, 3, 4, 5, 6, 0] rfl)
        · refine lv_aload_n C.1 C.2.1 dX0_prove_47 rfl (lv_at hl 0 rfl) ?_
          refine lv_iload C.1 C.2.1 dX0_prove_48 (lv_at hl 6 rfl) ?_
          refine lv_aload_n C.1 C.2.1 dX0_prove_50 rfl (lv_at hl 1 rfl) ?_
          refine lv_iload C.1 C.2.1 dX0_prove_51 (lv_at hl 4 rfl) ?_
          refine k_roVi C hK hP [.int v6, .ref (a r1), .int v4] (wX_rv hK hP) h (fun v e => tX0_hasProofAt hr_r1 e) (cb_X0_200 C.2.2.2.2 ⟨Nat.le_of_ble_eq_true rfl, Nat.le_of_ble_eq_true rfl⟩) rfl hl.1 (Nat.le_of_ble_eq_true rfl) ⟨Nat.le_of_ble_eq_true rfl, Nat.le_of_ble_eq_true rfl⟩ dX0_prove_53 rfl (fun x53 e53 h => ?_)
          refine k_if_eq (tgt := 68) C dX0_prove_56 (by decide) h (fun c56 h => ?_) (fun c56 h => ?_)
          · refine lv_iinc (v := (v6 + 1)) (lv' := [(6, .int (v6 + 1)), (0, .ref (a 0)), (1, .ref (a r1)), (2, .int v2), (3, .int v3), (4, .int v4), (5, .int v5)]) C.1 C.2.1 dX0_prove_68 hl (k := 6) rfl rfl (by decide) rfl (fun ls hl => ?_)
            refine lv_goto (tgt := 25) C.1 C.2.1 dX0_prove_71 (by decide) ?_
            exact hih S v3 (v6 + 1) h _ _ hP hD hS ls (lv_sub hl [1, 2, 3, 4, 5, 6, 0] rfl)
          · refine lv_aload_n C.1 C.2.1 dX0_prove_59 rfl (lv_at hl 1 rfl) ?_
            refine lv_iload C.1 C.2.1 dX0_prove_60 (lv_at hl 6 rfl) ?_
            refine lv_iload C.1 C.2.1 dX0_prove_62 (lv_at hl 4 rfl) ?_
            refine sX0_row C hK hP hD hS hr_r1 h dX0_prove_64 (fun S64 H locs h hP hD hS => ?_)
            refine lv_iinc (v := (v3 + 1)) (lv' := [(3, .int (v3 + 1)), (0, .ref (a 0)), (1, .ref (a r1)), (2, .int v2), (4, .int v4), (5, .int v5), (6, .int v6)]) C.1 C.2.1 dX0_prove_65 hl (k := 3) rfl rfl (by decide) rfl (fun ls hl => ?_)
            refine lv_iinc (v := (v6 + 1)) (lv' := [(6, .int (v6 + 1)), (3, .int (v3 + 1)), (0, .ref (a 0)), (1, .ref (a r1)), (2, .int v2), (4, .int v4), (5, .int v5)]) C.1 C.2.1 dX0_prove_68 hl (k := 6) rfl rfl (by decide) rfl (fun ls hl => ?_)
            refine lv_goto (tgt := 25) C.1 C.2.1 dX0_prove_71 (by decide) ?_
            exact hih S64 (v3 + 1) (v6 + 1) h _ _ hP hD hS ls (lv_sub hl [2, 3, 4, 1, 5, 6, 0] rfl)
  have L10 : ∀ (v2 : Int32) (n : Nat) (S : XS) (v3 : Int32) (v4 : Int32), itr3 (mX_prove_F10 r1 v2) n S v3 v4 = some z → ∀ (H : Heap) (locs : List Loc) (hP : va_P D vwCl (wX cI cZ a S) H) (hD : va_D A (wX cI cZ a S)) (hS : va_S A s.heap H locs) (ls : Array Slot), lv_has ls 7 [(0, .ref (a 0)), (1, .ref (a r1)), (2, .int v2), (3, .int v3), (4, .int v4)] → W p l e { frames := 4, cells := 0, slots := 0, locals := 93 } s m args below meth c H locs 0 0 (MQ below (rwQi D (wX cI cZ a z.2) z.1 A) args s 0 0 A) (F0 m 10 ls []) := by
    intro v2 n
    refine itr3_ind (fun (S : XS) (v3 : Int32) (v4 : Int32) => ∀ (H : Heap) (locs : List Loc) (hP : va_P D vwCl (wX cI cZ a S) H) (hD : va_D A (wX cI cZ a S)) (hS : va_S A s.heap H locs) (ls : Array Slot), lv_has ls 7 [(0, .ref (a 0)), (1, .ref (a r1)), (2, .int v2), (3, .int v3), (4, .int v4)] → W p l e { frames := 4, cells := 0, slots := 0, locals := 93 } s m args below meth c H locs 0 0 (MQ below (rwQi D (wX cI cZ a z.2) z.1 A) args s 0 0 A) (F0 m 10 ls [])) ?_ n
    intro ih hih S v3 v4 h H locs hP hD hS ls hl
    unfold mX_prove_F10 at h
    refine lv_iload C.1 C.2.1 dX0_prove_10 (lv_at hl 4 rfl) ?_
    refine lv_aload_n C.1 C.2.1 dX0_prove_12 rfl (lv_at hl 0 rfl) ?_
    refine gX0_lemmas C hK hP dX0_prove_13 ?_
    refine k_icmp_gt (tgt := 89) C dX0_prove_16 (by decide) h (fun c16 h => ?_) (fun c16 h => ?_)
    · refine lv_iload_n C.1 C.2.1 dX0_prove_89 rfl (lv_at hl 3 rfl) ?_
      exact k_iretW (w := wX cI cZ a) C hr hlk h hP hS dX0_prove_90
    · refine lv_iload_n C.1 C.2.1 dX0_prove_19 rfl (lv_at hl 3 rfl) ?_
      refine lv_istore (lv' := [(5, .int v3), (0, .ref (a 0)), (1, .ref (a r1)), (2, .int v2), (3, .int v3), (4, .int v4)]) C.1 C.2.1 dX0_prove_20 hl (by decide) rfl (fun ls hl => ?_)
      refine lv_iconst (v := 0) C.1 C.2.1 dX0_prove_22 (by decide) ?_
      refine lv_istore (lv' := [(6, .int 0), (5, .int v3), (0, .ref (a 0)), (1, .ref (a r1)), (2, .int v2), (3, .int v3), (4, .int v4)]) C.1 C.2.1 dX0_prove_23 hl (by decide) rfl (fun ls hl => ?_)
      exact L25 v2 v4 v3 ih hih _ S v3 0 h _ _ hP hD hS ls (lv_sub hl [2, 3, 4, 5, 6, 1, 0] rfl)
  unfold mX_prove at h
  refine lv_aload_n C.1 C.2.1 dX0_prove_0 rfl (lv_at hl 1 rfl) ?_
  refine lv_iconst (v := 0) C.1 C.2.1 dX0_prove_1 (by decide) ?_
  refine k_fillX0 C hK hP hD hS hA hr_r1 h (cb_X0_194 C.2.2.2.2 ⟨Nat.le_of_ble_eq_true rfl, Nat.le_of_ble_eq_true rfl⟩) hl.1 (Nat.le_of_ble_eq_true rfl) ⟨Nat.le_of_ble_eq_true rfl, Nat.le_of_ble_eq_true rfl⟩ dX0_prove_2 (fun S2 H locs h hP hD hS => ?_)
  refine lv_iconst (v := 0) C.1 C.2.1 dX0_prove_5 (by decide) ?_
  refine lv_istore_n (lv' := [(3, .int 0), (0, .ref (a 0)), (1, .ref (a r1)), (2, .int v2)]) C.1 C.2.1 dX0_prove_6 rfl hl (by decide) rfl (fun ls hl => ?_)
  refine lv_iconst (v := 1) C.1 C.2.1 dX0_prove_7 (by decide) ?_
  refine lv_istore (lv' := [(4, .int 1), (3, .int 0), (0, .ref (a 0)), (1, .ref (a r1)), (2, .int v2)]) C.1 C.2.1 dX0_prove_8 hl (by decide) rfl (fun ls hl => ?_)
  exact L10 v2 _ S2 0 1 h _ _ hP hD hS ls (lv_sub hl [2, 3, 4, 1, 0] rfl)
set_option maxHeartbeats 4000000 in
set_option maxRecDepth 100000 in
theorem tX0_costOfStep {l : Launch} {D : va_G} {cI cZ : ClassId} {a : Nat → Nat} {S : XS} {v1 : Int32} {r2 : Nat} {v3 : Int32} {z : Int32} (hr_r2 : 8 ≤ r2 ∧ r2 ≤ 13) (h : mX_costOfStep S v1 r2 v3 = some z) : Met l yX0_costOfStep (Cond.code yX0_costOfStep cX0_costOfStep 5 (some .int) :: WW) ({ frames := 1, cells := 0, slots := 0, locals := 21 }) (va_Pc [.ref (a 0), .int v1, .ref (a r2), .int v3] (roP D (wX cI cZ a S) (tyIZ cI cZ))) (vp_Si (fun r => r = z)) 0 0 (fun _ => False) := by
  refine RO_of (own := RX0) (by decide) rfl (Nat.le_of_ble_eq_true rfl) ?_
  intro p e s m args below meth c ha C hr hlk hP hK ls hl
  have hl : lv_has ls 5 [(0, .ref (a 0)), (1, .int v1), (2, .ref (a r2)), (3, .int v3)] := hl
  unfold mX_costOfStep at h
  refine lv_aload_n C.1 C.2.1 dX0_costOfStep_0 rfl (lv_at hl 0 rfl) ?_
  refine gX0_cited C hK hP dX0_costOfStep_1 ?_
  refine lv_iload_n C.1 C.2.1 dX0_costOfStep_4 rfl (lv_at hl 1 rfl) ?_
  refine lX0_cited C hK hP h dX0_costOfStep_5 (fun h => ?_)
  refine lv_istore (lv' := [(4, .int (S 5 (v1 : Int32).toNatClampNeg)), (0, .ref (a 0)), (1, .int v1), (2, .ref (a r2)), (3, .int v3)]) C.1 C.2.1 dX0_costOfStep_6 hl (by decide) rfl (fun ls hl => ?_)
  refine lv_aload_n C.1 C.2.1 dX0_costOfStep_8 rfl (lv_at hl 1 rfl) ?_
  refine gX0_kinds C hK hP dX0_costOfStep_9 ?_
  refine lv_iload_n C.1 C.2.1 dX0_costOfStep_12 rfl (lv_at hl 2 rfl) ?_
  refine lX0_kinds C hK hP h dX0_costOfStep_13 (fun h => ?_)
  refine k_if_ne (tgt := 43) C dX0_costOfStep_14 (by decide) h (fun c14 h => ?_) (fun c14 h => ?_)
  · refine lv_aload_n C.1 C.2.1 dX0_costOfStep_43 rfl (lv_at hl 1 rfl) ?_
    refine gX0_kinds C hK hP dX0_costOfStep_44 ?_
    refine lv_iload_n C.1 C.2.1 dX0_costOfStep_47 rfl (lv_at hl 2 rfl) ?_
    refine lX0_kinds C hK hP h dX0_costOfStep_48 (fun h => ?_)
    refine lv_iconst (v := 1) C.1 C.2.1 dX0_costOfStep_49 (by decide) ?_
    refine k_icmp_ne (tgt := 73) C dX0_costOfStep_50 (by decide) h (fun c50 h => ?_) (fun c50 h => ?_)
    · refine lv_iload_n C.1 C.2.1 dX0_costOfStep_73 rfl (lv_at hl 4 rfl) ?_
      refine k_if_eq (tgt := 84) C dX0_costOfStep_74 (by decide) h (fun c74 h => ?_) (fun c74 h => ?_)
      · refine lv_aload_n C.1 C.2.1 dX0_costOfStep_84 rfl (lv_at hl 1 rfl) ?_
        refine gX0_open C hK hP dX0_costOfStep_85 ?_
        refine lv_iload_n C.1 C.2.1 dX0_costOfStep_88 rfl (lv_at hl 2 rfl) ?_
        refine lX0_open C hK hP h dX0_costOfStep_89 (fun h => ?_)
        refine k_if_ne (tgt := 97) C dX0_costOfStep_90 (by decide) h (fun c90 h => ?_) (fun c90 h => ?_)
        · refine lv_sipush (v := 9999) C.1 C.2.1 dX0_costOfStep_97 (by decide) ?_
          exact k_iret C hr hlk h dX0_costOfStep_100
        · refine lv_iconst (v := 0) C.1 C.2.1 dX0_costOfStep_93 (by decide) ?_
          refine lv_goto (tgt := 100) C.1 C.2.1 dX0_costOfStep_94 (by decide) ?_
          exact k_iret C hr hlk h dX0_costOfStep_100
      · refine lv_aload_n C.1 C.2.1 dX0_costOfStep_77 rfl (lv_at hl 1 rfl) ?_
        refine gX0_open C hK hP dX0_costOfStep_78 ?_
        refine lv_iload_n C.1 C.2.1 dX0_costOfStep_81 rfl (lv_at hl 2 rfl) ?_
        refine lX0_open C hK hP h dX0_costOfStep_82 (fun h => ?_)
        exact k_iret C hr hlk h dX0_costOfStep_83
    · refine lv_aload_n C.1 C.2.1 dX0_costOfStep_53 rfl (lv_at hl 1 rfl) ?_
      refine lv_iload C.1 C.2.1 dX0_costOfStep_54 (lv_at hl 0 rfl) ?_
      refine k_roVi C hK hP [.int (S 5 (v1 : Int32).toNatClampNeg)] (wX_rv hK hP) h (fun v e => tX0_isLemma e) (cb_X0_166 C.2.2.2.2 ⟨Nat.le_of_ble_eq_true rfl, Nat.le_of_ble_eq_true rfl⟩) rfl hl.1 (Nat.le_of_ble_eq_true rfl) ⟨Nat.le_of_ble_eq_true rfl, Nat.le_of_ble_eq_true rfl⟩ dX0_costOfStep_56 rfl (fun x56 e56 h => ?_)
      refine k_if_eq (tgt := 69) C dX0_costOfStep_59 (by decide) h (fun c59 h => ?_) (fun c59 h => ?_)
      · refine lv_sipush (v := 9999) C.1 C.2.1 dX0_costOfStep_69 (by decide) ?_
        exact k_iret C hr hlk h dX0_costOfStep_72
      · refine lv_aload_n C.1 C.2.1 dX0_costOfStep_62 rfl (lv_at hl 3 rfl) ?_
        refine lv_iload C.1 C.2.1 dX0_costOfStep_63 (lv_at hl 0 rfl) ?_
        refine lX0_row C hK hP hr_r2 h dX0_costOfStep_65 (fun h => ?_)
        refine lv_goto (tgt := 72) C.1 C.2.1 dX0_costOfStep_66 (by decide) ?_
        exact k_iret C hr hlk h dX0_costOfStep_72
  · refine lv_iload C.1 C.2.1 dX0_costOfStep_17 (lv_at hl 0 rfl) ?_
    refine k_prS C [.int (S 5 (v1 : Int32).toNatClampNeg)] h (fun v e => tX0_isAxiom e) (cb_X0_157 C.2.2.2.2 ⟨Nat.le_of_ble_eq_true rfl, Nat.le_of_ble_eq_true rfl⟩) rfl hl.1 (Nat.le_of_ble_eq_true rfl) ⟨Nat.le_of_ble_eq_true rfl, Nat.le_of_ble_eq_true rfl⟩ dX0_costOfStep_19 rfl (fun x19 e19 h => ?_)
    refine k_if_eq (tgt := 39) C dX0_costOfStep_22 (by decide) h (fun c22 h => ?_) (fun c22 h => ?_)
    · refine lv_sipush (v := 9999) C.1 C.2.1 dX0_costOfStep_39 (by decide) ?_
      exact k_iret C hr hlk h dX0_costOfStep_42
    · refine lv_aload_n C.1 C.2.1 dX0_costOfStep_25 rfl (lv_at hl 1 rfl) ?_
      refine gX0_taken C hK hP dX0_costOfStep_26 ?_
      refine lv_iload C.1 C.2.1 dX0_costOfStep_29 (lv_at hl 0 rfl) ?_
      refine lX0_taken C hK hP h dX0_costOfStep_31 (fun h => ?_)
      refine k_if_eq (tgt := 39) C dX0_costOfStep_32 (by decide) h (fun c32 h => ?_) (fun c32 h => ?_)
      · refine lv_sipush (v := 9999) C.1 C.2.1 dX0_costOfStep_39 (by decide) ?_
        exact k_iret C hr hlk h dX0_costOfStep_42
      · refine lv_iconst (v := 0) C.1 C.2.1 dX0_costOfStep_35 (by decide) ?_
        refine lv_goto (tgt := 42) C.1 C.2.1 dX0_costOfStep_36 (by decide) ?_
        exact k_iret C hr hlk h dX0_costOfStep_42
set_option maxHeartbeats 4000000 in
set_option maxRecDepth 100000 in
theorem tX0_costOfProof {l : Launch} {D : va_G} {cI cZ : ClassId} {a : Nat → Nat} {S : XS} {v1 : Int32} {r2 : Nat} {v3 : Int32} {z : Int32} (hr_r2 : 8 ≤ r2 ∧ r2 ≤ 13) (h : mX_costOfProof S v1 r2 v3 = some z) : Met l yX0_costOfProof (Cond.code yX0_costOfProof cX0_costOfProof 6 (some .int) :: WW) ({ frames := 2, cells := 0, slots := 0, locals := 45 }) (va_Pc [.ref (a 0), .int v1, .ref (a r2), .int v3] (roP D (wX cI cZ a S) (tyIZ cI cZ))) (vp_Si (fun r => r = z)) 0 0 (fun _ => False) := by
  refine RO_of (own := RX0) (by decide) rfl (Nat.le_of_ble_eq_true rfl) ?_
  intro p e s m args below meth c ha C hr hlk hP hK ls hl
  have hl : lv_has ls 6 [(0, .ref (a 0)), (1, .int v1), (2, .ref (a r2)), (3, .int v3)] := hl
  have L34 : ∀ (v1 : Int32) (v3 : Int32) (n : Nat) (v4 : Int32) (v5 : Int32), itr2 (mX_costOfProof_F34 S r2 v1 v3) n v4 v5 = some z → ∀ ls : Array Slot, lv_has ls 6 [(0, .ref (a 0)), (1, .int v1), (2, .ref (a r2)), (3, .int v3), (4, .int v4), (5, .int v5)] → W p l e { frames := 2, cells := 0, slots := 0, locals := 45 } s m args below meth c s.heap [] 0 0 (MQ below (vp_Si (fun r => r = z)) args s 0 0 (fun _ => False)) (F0 m 34 ls []) := by
    intro v1 v3 n
    refine itr2_ind (fun (v4 : Int32) (v5 : Int32) => ∀ ls : Array Slot, lv_has ls 6 [(0, .ref (a 0)), (1, .int v1), (2, .ref (a r2)), (3, .int v3), (4, .int v4), (5, .int v5)] → W p l e { frames := 2, cells := 0, slots := 0, locals := 45 } s m args below meth c s.heap [] 0 0 (MQ below (vp_Si (fun r => r = z)) args s 0 0 (fun _ => False)) (F0 m 34 ls [])) ?_ n
    intro ih hih v4 v5 h ls hl
    unfold mX_costOfProof_F34 at h
    refine lv_iload C.1 C.2.1 dX0_costOfProof_34 (lv_at hl 5 rfl) ?_
    refine lv_aload_n C.1 C.2.1 dX0_costOfProof_36 rfl (lv_at hl 0 rfl) ?_
    refine lv_iload_n C.1 C.2.1 dX0_costOfProof_37 rfl (lv_at hl 1 rfl) ?_
    refine k_roVi C hK hP [.int v1] (wX_rv hK hP) h (fun v e => tX0_endOfSteps e) (cb_X0_86 C.2.2.2.2 ⟨Nat.le_of_ble_eq_true rfl, Nat.le_of_ble_eq_true rfl⟩) rfl hl.1 (Nat.le_of_ble_eq_true rfl) ⟨Nat.le_of_ble_eq_true rfl, Nat.le_of_ble_eq_true rfl⟩ dX0_costOfProof_38 rfl (fun x38 e38 h => ?_)
    refine k_icmp_ge (tgt := 63) C dX0_costOfProof_41 (by decide) h (fun c41 h => ?_) (fun c41 h => ?_)
    · refine lv_iload C.1 C.2.1 dX0_costOfProof_63 (lv_at hl 4 rfl) ?_
      refine lv_sipush (v := 9999) C.1 C.2.1 dX0_costOfProof_65 (by decide) ?_
      refine k_mmin C hl.1 (C.2.2.2.2 _ qM_X0_216) (Nat.le_of_ble_eq_true rfl) (Nat.le_of_ble_eq_true rfl) (Nat.le_of_ble_eq_true rfl) (Nat.le_of_ble_eq_true rfl) dX0_costOfProof_68 ?_
      exact k_iret C hr hlk h dX0_costOfProof_71
    · refine lv_iload C.1 C.2.1 dX0_costOfProof_44 (lv_at hl 4 rfl) ?_
      refine lv_aload_n C.1 C.2.1 dX0_costOfProof_46 rfl (lv_at hl 0 rfl) ?_
      refine lv_iload C.1 C.2.1 dX0_costOfProof_47 (lv_at hl 5 rfl) ?_
      refine lv_aload_n C.1 C.2.1 dX0_costOfProof_49 rfl (lv_at hl 2 rfl) ?_
      refine lv_iload_n C.1 C.2.1 dX0_costOfProof_50 rfl (lv_at hl 3 rfl) ?_
      refine k_roVi C hK hP [.int v5, .ref (a r2), .int v3] (wX_rv hK hP) h (fun v e => tX0_costOfStep hr_r2 e) (cb_X0_213 C.2.2.2.2 ⟨Nat.le_of_ble_eq_true rfl, Nat.le_of_ble_eq_true rfl⟩) rfl hl.1 (Nat.le_of_ble_eq_true rfl) ⟨Nat.le_of_ble_eq_true rfl, Nat.le_of_ble_eq_true rfl⟩ dX0_costOfProof_51 rfl (fun x51 e51 h => ?_)
      refine lv_iadd C.1 C.2.1 dX0_costOfProof_54 ?_
      refine lv_istore (lv' := [(4, .int (v4 + x51)), (0, .ref (a 0)), (1, .int v1), (2, .ref (a r2)), (3, .int v3), (5, .int v5)]) C.1 C.2.1 dX0_costOfProof_55 hl (by decide) rfl (fun ls hl => ?_)
      refine lv_iinc (v := (v5 + 1)) (lv' := [(5, .int (v5 + 1)), (4, .int (v4 + x51)), (0, .ref (a 0)), (1, .int v1), (2, .ref (a r2)), (3, .int v3)]) C.1 C.2.1 dX0_costOfProof_57 hl (k := 5) rfl rfl (by decide) rfl (fun ls hl => ?_)
      refine lv_goto (tgt := 34) C.1 C.2.1 dX0_costOfProof_60 (by decide) ?_
      exact hih (v4 + x51) (v5 + 1) h ls (lv_sub hl [2, 3, 4, 5, 1, 0] rfl)
  unfold mX_costOfProof at h
  refine lv_aload_n C.1 C.2.1 dX0_costOfProof_0 rfl (lv_at hl 0 rfl) ?_
  refine lv_iload_n C.1 C.2.1 dX0_costOfProof_1 rfl (lv_at hl 1 rfl) ?_
  refine k_roVi C hK hP [.int v1] (wX_rv hK hP) h (fun v e => tX0_isWhole e) (cb_X0_203 C.2.2.2.2 ⟨Nat.le_of_ble_eq_true rfl, Nat.le_of_ble_eq_true rfl⟩) rfl hl.1 (Nat.le_of_ble_eq_true rfl) ⟨Nat.le_of_ble_eq_true rfl, Nat.le_of_ble_eq_true rfl⟩ dX0_costOfProof_2 rfl (fun x2 e2 h => ?_)
  refine k_if_ne (tgt := 12) C dX0_costOfProof_5 (by decide) h (fun c5 h => ?_) (fun c5 h => ?_)
  · refine lv_iload_n C.1 C.2.1 dX0_costOfProof_12 rfl (lv_at hl 3 rfl) ?_
    refine k_if_eq (tgt := 20) C dX0_costOfProof_13 (by decide) h (fun c13 h => ?_) (fun c13 h => ?_)
    · refine lv_aload_n C.1 C.2.1 dX0_costOfProof_20 rfl (lv_at hl 0 rfl) ?_
      refine gX0_steps C hK hP dX0_costOfProof_21 ?_
      refine lv_iload_n C.1 C.2.1 dX0_costOfProof_24 rfl (lv_at hl 1 rfl) ?_
      refine lX0_steps C hK hP h dX0_costOfProof_25 (fun h => ?_)
      refine lv_istore (lv' := [(4, .int (S 3 (v1 : Int32).toNatClampNeg)), (0, .ref (a 0)), (1, .int v1), (2, .ref (a r2)), (3, .int v3)]) C.1 C.2.1 dX0_costOfProof_26 hl (by decide) rfl (fun ls hl => ?_)
      refine lv_iload_n C.1 C.2.1 dX0_costOfProof_28 rfl (lv_at hl 2 rfl) ?_
      refine k_prS C [.int v1] h (fun v e => tX0_firstStepOf e) (cb_X0_181 C.2.2.2.2 ⟨Nat.le_of_ble_eq_true rfl, Nat.le_of_ble_eq_true rfl⟩) rfl hl.1 (Nat.le_of_ble_eq_true rfl) ⟨Nat.le_of_ble_eq_true rfl, Nat.le_of_ble_eq_true rfl⟩ dX0_costOfProof_29 rfl (fun x29 e29 h => ?_)
      refine lv_istore (lv' := [(5, .int x29), (4, .int (S 3 (v1 : Int32).toNatClampNeg)), (0, .ref (a 0)), (1, .int v1), (2, .ref (a r2)), (3, .int v3)]) C.1 C.2.1 dX0_costOfProof_32 hl (by decide) rfl (fun ls hl => ?_)
      exact L34 v1 v3 _ (S 3 (v1 : Int32).toNatClampNeg) x29 h ls (lv_sub hl [2, 3, 4, 5, 1, 0] rfl)
    · refine lv_iconst (v := 0) C.1 C.2.1 dX0_costOfProof_16 (by decide) ?_
      refine lv_goto (tgt := 26) C.1 C.2.1 dX0_costOfProof_17 (by decide) ?_
      refine lv_istore (lv' := [(4, .int 0), (0, .ref (a 0)), (1, .int v1), (2, .ref (a r2)), (3, .int v3)]) C.1 C.2.1 dX0_costOfProof_26 hl (by decide) rfl (fun ls hl => ?_)
      refine lv_iload_n C.1 C.2.1 dX0_costOfProof_28 rfl (lv_at hl 2 rfl) ?_
      refine k_prS C [.int v1] h (fun v e => tX0_firstStepOf e) (cb_X0_181 C.2.2.2.2 ⟨Nat.le_of_ble_eq_true rfl, Nat.le_of_ble_eq_true rfl⟩) rfl hl.1 (Nat.le_of_ble_eq_true rfl) ⟨Nat.le_of_ble_eq_true rfl, Nat.le_of_ble_eq_true rfl⟩ dX0_costOfProof_29 rfl (fun x29 e29 h => ?_)
      refine lv_istore (lv' := [(5, .int x29), (4, .int 0), (0, .ref (a 0)), (1, .int v1), (2, .ref (a r2)), (3, .int v3)]) C.1 C.2.1 dX0_costOfProof_32 hl (by decide) rfl (fun ls hl => ?_)
      exact L34 v1 v3 _ 0 x29 h ls (lv_sub hl [2, 3, 4, 5, 1, 0] rfl)
  · refine lv_sipush (v := 9999) C.1 C.2.1 dX0_costOfProof_8 (by decide) ?_
    exact k_iret C hr hlk h dX0_costOfProof_11
set_option maxHeartbeats 4000000 in
set_option maxRecDepth 100000 in
theorem tX0_reckonRound {l : Launch} {D : va_G} {cI cZ : ClassId} {a : Nat → Nat} {S : XS} {sz : Nat} {r1 : Nat} {v2 : Int32} {z : (Int32 × XS)} (hr_r1 : 8 ≤ r1 ∧ r1 ≤ 13) (h : mX_reckonRound S r1 v2 = some z) : Met l yX0_reckonRound (Cond.code yX0_reckonRound cX0_reckonRound 7 (some .boolean) :: WW) ({ frames := 3, cells := 0, slots := 0, locals := 70 }) (va_Pc [.ref (a 0), .ref (a r1), .int v2] (rwP D (wX cI cZ a S) (tyIZ cI cZ) sz)) (rwQi D (wX cI cZ a z.2) z.1 (va_A (wX cI cZ a S) sz)) 0 0 (va_A (wX cI cZ a S) sz) := by
  refine RW_of (own := RX0) (Qc := fun A => rwQi D (wX cI cZ a z.2) z.1 A) (by decide) rfl (Nat.le_of_ble_eq_true rfl) ?_
  intro p e s m args below meth c A ha C hr hlk hP hK hD hA ls hl
  have hS : va_S A s.heap s.heap [] := va_S.rf
  have hl : lv_has ls 7 [(0, .ref (a 0)), (1, .ref (a r1)), (2, .int v2)] := hl
  have L17 : ∀ (v2 : Int32) (v4 : Int32) (k : XS → Int32 → Int32 → Option (Int32 × XS)) (hk : ∀ (S : XS) (v3 : Int32) (v4 : Int32), k S v3 v4 = some z → ∀ (H : Heap) (locs : List Loc) (hP : va_P D vwCl (wX cI cZ a S) H) (hD : va_D A (wX cI cZ a S)) (hS : va_S A s.heap H locs) (ls : Array Slot), lv_has ls 7 [(0, .ref (a 0)), (1, .ref (a r1)), (2, .int v2), (3, .int v3), (4, .int v4)] → W p l e { frames := 3, cells := 0, slots := 0, locals := 70 } s m args below meth c H locs 0 0 (MQ below (rwQi D (wX cI cZ a z.2) z.1 A) args s 0 0 A) (F0 m 5 ls [])) (n : Nat) (S : XS) (v3 : Int32) (v5 : Int32), itr3 (mX_reckonRound_F17 r1 k v2 v4) n S v3 v5 = some z → ∀ (H : Heap) (locs : List Loc) (hP : va_P D vwCl (wX cI cZ a S) H) (hD : va_D A (wX cI cZ a S)) (hS : va_S A s.heap H locs) (ls : Array Slot), lv_has ls 7 [(0, .ref (a 0)), (1, .ref (a r1)), (2, .int v2), (3, .int v3), (4, .int v4), (5, .int v5)] → W p l e { frames := 3, cells := 0, slots := 0, locals := 70 } s m args below meth c H locs 0 0 (MQ below (rwQi D (wX cI cZ a z.2) z.1 A) args s 0 0 A) (F0 m 17 ls []) := by
    intro v2 v4 k hk n
    refine itr3_ind (fun (S : XS) (v3 : Int32) (v5 : Int32) => ∀ (H : Heap) (locs : List Loc) (hP : va_P D vwCl (wX cI cZ a S) H) (hD : va_D A (wX cI cZ a S)) (hS : va_S A s.heap H locs) (ls : Array Slot), lv_has ls 7 [(0, .ref (a 0)), (1, .ref (a r1)), (2, .int v2), (3, .int v3), (4, .int v4), (5, .int v5)] → W p l e { frames := 3, cells := 0, slots := 0, locals := 70 } s m args below meth c H locs 0 0 (MQ below (rwQi D (wX cI cZ a z.2) z.1 A) args s 0 0 A) (F0 m 17 ls [])) ?_ n
    intro ih hih S v3 v5 h H locs hP hD hS ls hl
    unfold mX_reckonRound_F17 at h
    refine lv_iload C.1 C.2.1 dX0_reckonRound_17 (lv_at hl 5 rfl) ?_
    refine lv_aload_n C.1 C.2.1 dX0_reckonRound_19 rfl (lv_at hl 0 rfl) ?_
    refine gX0_proofs C hK hP dX0_reckonRound_20 ?_
    refine lv_iload C.1 C.2.1 dX0_reckonRound_23 (lv_at hl 4 rfl) ?_
    refine lX0_proofs C hK hP h dX0_reckonRound_25 (fun h => ?_)
    refine k_icmp_ge (tgt := 67) C dX0_reckonRound_26 (by decide) h (fun c26 h => ?_) (fun c26 h => ?_)
    · refine lv_iinc (v := (v4 + 1)) (lv' := [(4, .int (v4 + 1)), (0, .ref (a 0)), (1, .ref (a r1)), (2, .int v2), (3, .int v3), (5, .int v5)]) C.1 C.2.1 dX0_reckonRound_67 hl (k := 4) rfl rfl (by decide) rfl (fun ls hl => ?_)
      refine lv_goto (tgt := 5) C.1 C.2.1 dX0_reckonRound_70 (by decide) ?_
      exact hk S v3 (v4 + 1) h _ _ hP hD hS ls (lv_sub hl [1, 2, 3, 4, 0] rfl)
    · refine lv_aload_n C.1 C.2.1 dX0_reckonRound_29 rfl (lv_at hl 0 rfl) ?_
      refine lv_iload C.1 C.2.1 dX0_reckonRound_30 (lv_at hl 4 rfl) ?_
      refine lv_iload C.1 C.2.1 dX0_reckonRound_32 (lv_at hl 5 rfl) ?_
      refine k_prS C [.int v4, .int v5] h (fun v e => tX0_slotOf e) (cb_X0_73 C.2.2.2.2 ⟨Nat.le_of_ble_eq_true rfl, Nat.le_of_ble_eq_true rfl⟩) rfl hl.1 (Nat.le_of_ble_eq_true rfl) ⟨Nat.le_of_ble_eq_true rfl, Nat.le_of_ble_eq_true rfl⟩ dX0_reckonRound_34 rfl (fun x34 e34 h => ?_)
      refine lv_aload_n C.1 C.2.1 dX0_reckonRound_37 rfl (lv_at hl 1 rfl) ?_
      refine lv_iload_n C.1 C.2.1 dX0_reckonRound_38 rfl (lv_at hl 2 rfl) ?_
      refine k_roVi C hK hP [.int x34, .ref (a r1), .int v2] (wX_rv hK hP) h (fun v e => tX0_costOfProof hr_r1 e) (cb_X0_126 C.2.2.2.2 ⟨Nat.le_of_ble_eq_true rfl, Nat.le_of_ble_eq_true rfl⟩) rfl hl.1 (Nat.le_of_ble_eq_true rfl) ⟨Nat.le_of_ble_eq_true rfl, Nat.le_of_ble_eq_true rfl⟩ dX0_reckonRound_39 rfl (fun x39 e39 h => ?_)
      refine lv_istore (lv' := [(6, .int x39), (0, .ref (a 0)), (1, .ref (a r1)), (2, .int v2), (3, .int v3), (4, .int v4), (5, .int v5)]) C.1 C.2.1 dX0_reckonRound_42 hl (by decide) rfl (fun ls hl => ?_)
      refine lv_iload C.1 C.2.1 dX0_reckonRound_44 (lv_at hl 0 rfl) ?_
      refine lv_aload_n C.1 C.2.1 dX0_reckonRound_46 rfl (lv_at hl 2 rfl) ?_
      refine lv_iload C.1 C.2.1 dX0_reckonRound_47 (lv_at hl 5 rfl) ?_
      refine lX0_row C hK hP hr_r1 h dX0_reckonRound_49 (fun h => ?_)
      refine k_icmp_ge (tgt := 61) C dX0_reckonRound_50 (by decide) h (fun c50 h => ?_) (fun c50 h => ?_)
      · refine lv_iinc (v := (v5 + 1)) (lv' := [(5, .int (v5 + 1)), (6, .int x39), (0, .ref (a 0)), (1, .ref (a r1)), (2, .int v2), (3, .int v3), (4, .int v4)]) C.1 C.2.1 dX0_reckonRound_61 hl (k := 6) rfl rfl (by decide) rfl (fun ls hl => ?_)
        refine lv_goto (tgt := 17) C.1 C.2.1 dX0_reckonRound_64 (by decide) ?_
        exact hih S v3 (v5 + 1) h _ _ hP hD hS ls (lv_sub hl [2, 3, 4, 5, 6, 0] rfl)
      · refine lv_aload_n C.1 C.2.1 dX0_reckonRound_53 rfl (lv_at hl 2 rfl) ?_
        refine lv_iload C.1 C.2.1 dX0_reckonRound_54 (lv_at hl 5 rfl) ?_
        refine lv_iload C.1 C.2.1 dX0_reckonRound_56 (lv_at hl 0 rfl) ?_
        refine sX0_row C hK hP hD hS hr_r1 h dX0_reckonRound_58 (fun S58 H locs h hP hD hS => ?_)
        refine lv_iconst (v := 1) C.1 C.2.1 dX0_reckonRound_59 (by decide) ?_
        refine lv_istore_n (lv' := [(3, .int 1), (6, .int x39), (0, .ref (a 0)), (1, .ref (a r1)), (2, .int v2), (4, .int v4), (5, .int v5)]) C.1 C.2.1 dX0_reckonRound_60 rfl hl (by decide) rfl (fun ls hl => ?_)
        refine lv_iinc (v := (v5 + 1)) (lv' := [(5, .int (v5 + 1)), (3, .int 1), (6, .int x39), (0, .ref (a 0)), (1, .ref (a r1)), (2, .int v2), (4, .int v4)]) C.1 C.2.1 dX0_reckonRound_61 hl (k := 6) rfl rfl (by decide) rfl (fun ls hl => ?_)
        refine lv_goto (tgt := 17) C.1 C.2.1 dX0_reckonRound_64 (by decide) ?_
        exact hih S58 1 (v5 + 1) h _ _ hP hD hS ls (lv_sub hl [3, 4, 5, 1, 6, 0] rfl)
  have L5 : ∀ (v2 : Int32) (n : Nat) (S : XS) (v3 : Int32) (v4 : Int32), itr3 (mX_reckonRound_F5 r1 v2) n S v3 v4 = some z → ∀ (H : Heap) (locs : List Loc) (hP : va_P D vwCl (wX cI cZ a S) H) (hD : va_D A (wX cI cZ a S)) (hS : va_S A s.heap H locs) (ls : Array Slot), lv_has ls 7 [(0, .ref (a 0)), (1, .ref (a r1)), (2, .int v2), (3, .int v3), (4, .int v4)] → W p l e { frames := 3, cells := 0, slots := 0, locals := 70 } s m args below meth c H locs 0 0 (MQ below (rwQi D (wX cI cZ a z.2) z.1 A) args s 0 0 A) (F0 m 5 ls []) := by
    intro v2 n
    refine itr3_ind (fun (S : XS) (v3 : Int32) (v4 : Int32) => ∀ (H : Heap) (locs : List Loc) (hP : va_P D vwCl (wX cI cZ a S) H) (hD : va_D A (wX cI cZ a S)) (hS : va_S A s.heap H locs) (ls : Array Slot), lv_has ls 7 [(0, .ref (a 0)), (1, .ref (a r1)), (2, .int v2), (3, .int v3), (4, .int v4)] → W p l e { frames := 3, cells := 0, slots := 0, locals := 70 } s m args below meth c H locs 0 0 (MQ below (rwQi D (wX cI cZ a z.2) z.1 A) args s 0 0 A) (F0 m 5 ls [])) ?_ n
    intro ih hih S v3 v4 h H locs hP hD hS ls hl
    unfold mX_reckonRound_F5 at h
    refine lv_iload C.1 C.2.1 dX0_reckonRound_5 (lv_at hl 4 rfl) ?_
    refine lv_aload_n C.1 C.2.1 dX0_reckonRound_7 rfl (lv_at hl 0 rfl) ?_
    refine gX0_lemmas C hK hP dX0_reckonRound_8 ?_
    refine k_icmp_ge (tgt := 73) C dX0_reckonRound_11 (by decide) h (fun c11 h => ?_) (fun c11 h => ?_)
    · refine lv_iload_n C.1 C.2.1 dX0_reckonRound_73 rfl (lv_at hl 3 rfl) ?_
      exact k_zretW (w := wX cI cZ a) C hr hlk h hP hS dX0_reckonRound_74
    · refine lv_iconst (v := 0) C.1 C.2.1 dX0_reckonRound_14 (by decide) ?_
      refine lv_istore (lv' := [(5, .int 0), (0, .ref (a 0)), (1, .ref (a r1)), (2, .int v2), (3, .int v3), (4, .int v4)]) C.1 C.2.1 dX0_reckonRound_15 hl (by decide) rfl (fun ls hl => ?_)
      exact L17 v2 v4 ih hih _ S v3 0 h _ _ hP hD hS ls (lv_sub hl [1, 2, 3, 4, 5, 0] rfl)
  unfold mX_reckonRound at h
  refine lv_iconst (v := 0) C.1 C.2.1 dX0_reckonRound_0 (by decide) ?_
  refine lv_istore_n (lv' := [(3, .int 0), (0, .ref (a 0)), (1, .ref (a r1)), (2, .int v2)]) C.1 C.2.1 dX0_reckonRound_1 rfl hl (by decide) rfl (fun ls hl => ?_)
  refine lv_iconst (v := 0) C.1 C.2.1 dX0_reckonRound_2 (by decide) ?_
  refine lv_istore (lv' := [(4, .int 0), (3, .int 0), (0, .ref (a 0)), (1, .ref (a r1)), (2, .int v2)]) C.1 C.2.1 dX0_reckonRound_3 hl (by decide) rfl (fun ls hl => ?_)
  exact L5 v2 _ S 0 0 h _ _ hP hD hS ls (lv_sub hl [2, 3, 4, 1, 0] rfl)
set_option maxHeartbeats 4000000 in
set_option maxRecDepth 100000 in
theorem tX0_reckon {l : Launch} {D : va_G} {cI cZ : ClassId} {a : Nat → Nat} {S : XS} {sz : Nat} {r1 : Nat} {v2 : Int32} {z : (Int32 × XS)} (hr_r1 : 8 ≤ r1 ∧ r1 ≤ 13) (h : mX_reckon S r1 v2 = some z) : Met l yX0_reckon (Cond.code yX0_reckon cX0_reckon 4 none :: WW) ({ frames := 4, cells := 0, slots := 0, locals := 96 }) (va_Pc [.ref (a 0), .ref (a r1), .int v2] (rwP D (wX cI cZ a S) (tyIZ cI cZ) sz)) (rwQv D (wX cI cZ a z.2) (va_A (wX cI cZ a S) sz)) 0 0 (va_A (wX cI cZ a S) sz) := by
  refine RW_of (own := RX0) (Qc := fun A => rwQv D (wX cI cZ a z.2) A) (by decide) rfl (Nat.le_of_ble_eq_true rfl) ?_
  intro p e s m args below meth c A ha C hr hlk hP hK hD hA ls hl
  have hS : va_S A s.heap s.heap [] := va_S.rf
  have hl : lv_has ls 4 [(0, .ref (a 0)), (1, .ref (a r1)), (2, .int v2)] := hl
  have L9 : ∀ (v2 : Int32) (n : Nat) (S : XS) (v3 : Int32), itr2 (mX_reckon_F9 r1 v2) n S v3 = some z → ∀ (H : Heap) (locs : List Loc) (hP : va_P D vwCl (wX cI cZ a S) H) (hD : va_D A (wX cI cZ a S)) (hS : va_S A s.heap H locs) (ls : Array Slot), lv_has ls 4 [(0, .ref (a 0)), (1, .ref (a r1)), (2, .int v2), (3, .int v3)] → W p l e { frames := 4, cells := 0, slots := 0, locals := 96 } s m args below meth c H locs 0 0 (MQ below (rwQv D (wX cI cZ a z.2) A) args s 0 0 A) (F0 m 9 ls []) := by
    intro v2 n
    refine itr2_ind (fun (S : XS) (v3 : Int32) => ∀ (H : Heap) (locs : List Loc) (hP : va_P D vwCl (wX cI cZ a S) H) (hD : va_D A (wX cI cZ a S)) (hS : va_S A s.heap H locs) (ls : Array Slot), lv_has ls 4 [(0, .ref (a 0)), (1, .ref (a r1)), (2, .int v2), (3, .int v3)] → W p l e { frames := 4, cells := 0, slots := 0, locals := 96 } s m args below meth c H locs 0 0 (MQ below (rwQv D (wX cI cZ a z.2) A) args s 0 0 A) (F0 m 9 ls [])) ?_ n
    intro ih hih S v3 h H locs hP hD hS ls hl
    unfold mX_reckon_F9 at h
    refine lv_iload_n C.1 C.2.1 dX0_reckon_9 rfl (lv_at hl 3 rfl) ?_
    refine lv_aload_n C.1 C.2.1 dX0_reckon_10 rfl (lv_at hl 0 rfl) ?_
    refine gX0_lemmas C hK hP dX0_reckon_11 ?_
    refine k_icmp_ge (tgt := 35) C dX0_reckon_14 (by decide) h (fun c14 h => ?_) (fun c14 h => ?_)
    · exact k_vretW (w := wX cI cZ a) C hr hlk (v := 0) h hP hS dX0_reckon_35
    · refine lv_aload_n C.1 C.2.1 dX0_reckon_17 rfl (lv_at hl 0 rfl) ?_
      refine lv_aload_n C.1 C.2.1 dX0_reckon_18 rfl (lv_at hl 1 rfl) ?_
      refine lv_iload_n C.1 C.2.1 dX0_reckon_19 rfl (lv_at hl 2 rfl) ?_
      refine k_rwVi C (wX_ad _) hK hP hD hS hA [.ref (a r1), .int v2] (wX_rv hK hP) h (fun v S2 e => tX0_reckonRound hr_r1 e) (cb_X0_209 C.2.2.2.2 ⟨Nat.le_of_ble_eq_true rfl, Nat.le_of_ble_eq_true rfl⟩) rfl hl.1 (Nat.le_of_ble_eq_true rfl) ⟨Nat.le_of_ble_eq_true rfl, Nat.le_of_ble_eq_true rfl⟩ dX0_reckon_20 rfl (fun x20 S20 H locs e20 h hP hD hS => ?_)
      refine k_if_ne (tgt := 29) C dX0_reckon_23 (by decide) h (fun c23 h => ?_) (fun c23 h => ?_)
      · refine lv_iinc (v := (v3 + 1)) (lv' := [(3, .int (v3 + 1)), (0, .ref (a 0)), (1, .ref (a r1)), (2, .int v2)]) C.1 C.2.1 dX0_reckon_29 hl (k := 3) rfl rfl (by decide) rfl (fun ls hl => ?_)
        refine lv_goto (tgt := 9) C.1 C.2.1 dX0_reckon_32 (by decide) ?_
        exact hih S20 (v3 + 1) h _ _ hP hD hS ls (lv_sub hl [1, 2, 3, 0] rfl)
      · refine lv_goto (tgt := 35) C.1 C.2.1 dX0_reckon_26 (by decide) ?_
        exact k_vretW (w := wX cI cZ a) C hr hlk (v := 0) h hP hS dX0_reckon_35
  unfold mX_reckon at h
  refine lv_aload_n C.1 C.2.1 dX0_reckon_0 rfl (lv_at hl 1 rfl) ?_
  refine lv_sipush (v := 9999) C.1 C.2.1 dX0_reckon_1 (by decide) ?_
  refine k_fillX0 C hK hP hD hS hA hr_r1 h (cb_X0_194 C.2.2.2.2 ⟨Nat.le_of_ble_eq_true rfl, Nat.le_of_ble_eq_true rfl⟩) hl.1 (Nat.le_of_ble_eq_true rfl) ⟨Nat.le_of_ble_eq_true rfl, Nat.le_of_ble_eq_true rfl⟩ dX0_reckon_4 (fun S4 H locs h hP hD hS => ?_)
  refine lv_iconst (v := 0) C.1 C.2.1 dX0_reckon_7 (by decide) ?_
  refine lv_istore_n (lv' := [(3, .int 0), (0, .ref (a 0)), (1, .ref (a r1)), (2, .int v2)]) C.1 C.2.1 dX0_reckon_8 rfl hl (by decide) rfl (fun ls hl => ?_)
  exact L9 v2 _ S4 0 h _ _ hP hD hS ls (lv_sub hl [1, 2, 3, 0] rfl)
set_option maxHeartbeats 4000000 in
set_option maxRecDepth 100000 in
theorem tX0_lemmasCitedBy {l : Launch} {D : va_G} {cI cZ : ClassId} {a : Nat → Nat} {S : XS} {v1 : Int32} {z : Int32} (h : mX_lemmasCitedBy S v1 = some z) : Met l yX0_lemmasCitedBy (Cond.code yX0_lemmasCitedBy cX0_lemmasCitedBy 6 (some .int) :: WW) ({ frames := 1, cells := 0, slots := 0, locals := 21 }) (va_Pc [.ref (a 0), .int v1] (roP D (wX cI cZ a S) (tyIZ cI cZ))) (vp_Si (fun r => r = z)) 0 0 (fun _ => False) := by
  refine RO_of (own := RX0) (by decide) rfl (Nat.le_of_ble_eq_true rfl) ?_
  intro p e s m args below meth c ha C hr hlk hP hK ls hl
  have hl : lv_has ls 6 [(0, .ref (a 0)), (1, .int v1)] := hl
  have L28 : ∀ (v1 : Int32) (v3 : Int32) (v4 : Int32) (k : Int32 → Int32 → Option Int32) (hk : ∀ (v2 : Int32) (v3 : Int32), k v2 v3 = some z → ∀ ls : Array Slot, lv_has ls 6 [(0, .ref (a 0)), (1, .int v1), (2, .int v2), (3, .int v3)] → W p l e { frames := 1, cells := 0, slots := 0, locals := 21 } s m args below meth c s.heap [] 0 0 (MQ below (vp_Si (fun r => r = z)) args s 0 0 (fun _ => False)) (F0 m 4 ls [])) (n : Nat) (v2 : Int32) (v5 : Int32), itr2 (mX_lemmasCitedBy_F28 S k v1 v3 v4) n v2 v5 = some z → ∀ ls : Array Slot, lv_has ls 6 [(0, .ref (a 0)), (1, .int v1), (2, .int v2), (3, .int v3), (4, .int v4), (5, .int v5)] → W p l e { frames := 1, cells := 0, slots := 0, locals := 21 } s m args below meth c s.heap [] 0 0 (MQ below (vp_Si (fun r => r = z)) args s 0 0 (fun _ => False)) (F0 m 28 ls []) := by
    intro v1 v3 v4 k hk n
    refine itr2_ind (fun (v2 : Int32) (v5 : Int32) => ∀ ls : Array Slot, lv_has ls 6 [(0, .ref (a 0)), (1, .int v1), (2, .int v2), (3, .int v3), (4, .int v4), (5, .int v5)] → W p l e { frames := 1, cells := 0, slots := 0, locals := 21 } s m args below meth c s.heap [] 0 0 (MQ below (vp_Si (fun r => r = z)) args s 0 0 (fun _ => False)) (F0 m 28 ls [])) ?_ n
    intro ih hih v2 v5 h ls hl
    unfold mX_lemmasCitedBy_F28 at h
    refine lv_iload C.1 C.2.1 dX0_lemmasCitedBy_28 (lv_at hl 5 rfl) ?_
    refine lv_aload_n C.1 C.2.1 dX0_lemmasCitedBy_30 rfl (lv_at hl 0 rfl) ?_
    refine lv_iload C.1 C.2.1 dX0_lemmasCitedBy_31 (lv_at hl 4 rfl) ?_
    refine k_roVi C hK hP [.int v4] (wX_rv hK hP) h (fun v e => tX0_endOfSteps e) (cb_X0_86 C.2.2.2.2 ⟨Nat.le_of_ble_eq_true rfl, Nat.le_of_ble_eq_true rfl⟩) rfl hl.1 (Nat.le_of_ble_eq_true rfl) ⟨Nat.le_of_ble_eq_true rfl, Nat.le_of_ble_eq_true rfl⟩ dX0_lemmasCitedBy_33 rfl (fun x33 e33 h => ?_)
    refine k_icmp_ge (tgt := 68) C dX0_lemmasCitedBy_36 (by decide) h (fun c36 h => ?_) (fun c36 h => ?_)
    · refine lv_iinc (v := (v3 + 1)) (lv' := [(3, .int (v3 + 1)), (0, .ref (a 0)), (1, .int v1), (2, .int v2), (4, .int v4), (5, .int v5)]) C.1 C.2.1 dX0_lemmasCitedBy_68 hl (k := 3) rfl rfl (by decide) rfl (fun ls hl => ?_)
      refine lv_goto (tgt := 4) C.1 C.2.1 dX0_lemmasCitedBy_71 (by decide) ?_
      exact hk v2 (v3 + 1) h ls (lv_sub hl [1, 2, 3, 0] rfl)
    · refine lv_aload_n C.1 C.2.1 dX0_lemmasCitedBy_39 rfl (lv_at hl 0 rfl) ?_
      refine gX0_kinds C hK hP dX0_lemmasCitedBy_40 ?_
      refine lv_iload C.1 C.2.1 dX0_lemmasCitedBy_43 (lv_at hl 5 rfl) ?_
      refine lX0_kinds C hK hP h dX0_lemmasCitedBy_45 (fun h => ?_)
      refine lv_iconst (v := 1) C.1 C.2.1 dX0_lemmasCitedBy_46 (by decide) ?_
      refine k_icmp_ne (tgt := 62) C dX0_lemmasCitedBy_47 (by decide) h (fun c47 h => ?_) (fun c47 h => ?_)
      · refine lv_iinc (v := (v5 + 1)) (lv' := [(5, .int (v5 + 1)), (0, .ref (a 0)), (1, .int v1), (2, .int v2), (3, .int v3), (4, .int v4)]) C.1 C.2.1 dX0_lemmasCitedBy_62 hl (k := 5) rfl rfl (by decide) rfl (fun ls hl => ?_)
        refine lv_goto (tgt := 28) C.1 C.2.1 dX0_lemmasCitedBy_65 (by decide) ?_
        exact hih v2 (v5 + 1) h ls (lv_sub hl [1, 2, 3, 4, 5, 0] rfl)
      · refine lv_iload_n C.1 C.2.1 dX0_lemmasCitedBy_50 rfl (lv_at hl 2 rfl) ?_
        refine lv_iconst (v := 1) C.1 C.2.1 dX0_lemmasCitedBy_51 (by decide) ?_
        refine lv_aload_n C.1 C.2.1 dX0_lemmasCitedBy_52 rfl (lv_at hl 0 rfl) ?_
        refine gX0_cited C hK hP dX0_lemmasCitedBy_53 ?_
        refine lv_iload C.1 C.2.1 dX0_lemmasCitedBy_56 (lv_at hl 5 rfl) ?_
        refine lX0_cited C hK hP h dX0_lemmasCitedBy_58 (fun h => ?_)
        refine lv_ishl C.1 C.2.1 dX0_lemmasCitedBy_59 ?_
        refine lv_ior C.1 C.2.1 dX0_lemmasCitedBy_60 ?_
        refine lv_istore_n (lv' := [(2, .int (v2 ||| (1 <<< ((S 5 (v5 : Int32).toNatClampNeg) &&& 31)))), (0, .ref (a 0)), (1, .int v1), (3, .int v3), (4, .int v4), (5, .int v5)]) C.1 C.2.1 dX0_lemmasCitedBy_61 rfl hl (by decide) rfl (fun ls hl => ?_)
        refine lv_iinc (v := (v5 + 1)) (lv' := [(5, .int (v5 + 1)), (2, .int (v2 ||| (1 <<< ((S 5 (v5 : Int32).toNatClampNeg) &&& 31)))), (0, .ref (a 0)), (1, .int v1), (3, .int v3), (4, .int v4)]) C.1 C.2.1 dX0_lemmasCitedBy_62 hl (k := 5) rfl rfl (by decide) rfl (fun ls hl => ?_)
        refine lv_goto (tgt := 28) C.1 C.2.1 dX0_lemmasCitedBy_65 (by decide) ?_
        exact hih (v2 ||| (1 <<< ((S 5 (v5 : Int32).toNatClampNeg) &&& 31))) (v5 + 1) h ls (lv_sub hl [2, 3, 1, 4, 5, 0] rfl)
  have L4 : ∀ (v1 : Int32) (n : Nat) (v2 : Int32) (v3 : Int32), itr2 (mX_lemmasCitedBy_F4 S v1) n v2 v3 = some z → ∀ ls : Array Slot, lv_has ls 6 [(0, .ref (a 0)), (1, .int v1), (2, .int v2), (3, .int v3)] → W p l e { frames := 1, cells := 0, slots := 0, locals := 21 } s m args below meth c s.heap [] 0 0 (MQ below (vp_Si (fun r => r = z)) args s 0 0 (fun _ => False)) (F0 m 4 ls []) := by
    intro v1 n
    refine itr2_ind (fun (v2 : Int32) (v3 : Int32) => ∀ ls : Array Slot, lv_has ls 6 [(0, .ref (a 0)), (1, .int v1), (2, .int v2), (3, .int v3)] → W p l e { frames := 1, cells := 0, slots := 0, locals := 21 } s m args below meth c s.heap [] 0 0 (MQ below (vp_Si (fun r => r = z)) args s 0 0 (fun _ => False)) (F0 m 4 ls [])) ?_ n
    intro ih hih v2 v3 h ls hl
    unfold mX_lemmasCitedBy_F4 at h
    refine lv_iload_n C.1 C.2.1 dX0_lemmasCitedBy_4 rfl (lv_at hl 3 rfl) ?_
    refine lv_aload_n C.1 C.2.1 dX0_lemmasCitedBy_5 rfl (lv_at hl 0 rfl) ?_
    refine gX0_proofs C hK hP dX0_lemmasCitedBy_6 ?_
    refine lv_iload_n C.1 C.2.1 dX0_lemmasCitedBy_9 rfl (lv_at hl 1 rfl) ?_
    refine lX0_proofs C hK hP h dX0_lemmasCitedBy_10 (fun h => ?_)
    refine k_icmp_ge (tgt := 74) C dX0_lemmasCitedBy_11 (by decide) h (fun c11 h => ?_) (fun c11 h => ?_)
    · refine lv_iload_n C.1 C.2.1 dX0_lemmasCitedBy_74 rfl (lv_at hl 2 rfl) ?_
      exact k_iret C hr hlk h dX0_lemmasCitedBy_75
    · refine lv_iload_n C.1 C.2.1 dX0_lemmasCitedBy_14 rfl (lv_at hl 1 rfl) ?_
      refine lv_iload_n C.1 C.2.1 dX0_lemmasCitedBy_15 rfl (lv_at hl 3 rfl) ?_
      refine k_prS C [.int v1, .int v3] h (fun v e => tX0_slotOf e) (cb_X0_73 C.2.2.2.2 ⟨Nat.le_of_ble_eq_true rfl, Nat.le_of_ble_eq_true rfl⟩) rfl hl.1 (Nat.le_of_ble_eq_true rfl) ⟨Nat.le_of_ble_eq_true rfl, Nat.le_of_ble_eq_true rfl⟩ dX0_lemmasCitedBy_16 rfl (fun x16 e16 h => ?_)
      refine lv_istore (lv' := [(4, .int x16), (0, .ref (a 0)), (1, .int v1), (2, .int v2), (3, .int v3)]) C.1 C.2.1 dX0_lemmasCitedBy_19 hl (by decide) rfl (fun ls hl => ?_)
      refine lv_iload C.1 C.2.1 dX0_lemmasCitedBy_21 (lv_at hl 0 rfl) ?_
      refine k_prS C [.int x16] h (fun v e => tX0_firstStepOf e) (cb_X0_181 C.2.2.2.2 ⟨Nat.le_of_ble_eq_true rfl, Nat.le_of_ble_eq_true rfl⟩) rfl hl.1 (Nat.le_of_ble_eq_true rfl) ⟨Nat.le_of_ble_eq_true rfl, Nat.le_of_ble_eq_true rfl⟩ dX0_lemmasCitedBy_23 rfl (fun x23 e23 h => ?_)
      refine lv_istore (lv' := [(5, .int x23), (4, .int x16), (0, .ref (a 0)), (1, .int v1), (2, .int v2), (3, .int v3)]) C.1 C.2.1 dX0_lemmasCitedBy_26 hl (by decide) rfl (fun ls hl => ?_)
      exact L28 v1 v3 x16 ih hih _ v2 x23 h ls (lv_sub hl [2, 3, 4, 5, 1, 0] rfl)
  unfold mX_lemmasCitedBy at h
  refine lv_iconst (v := 0) C.1 C.2.1 dX0_lemmasCitedBy_0 (by decide) ?_
  refine lv_istore_n (lv' := [(2, .int 0), (0, .ref (a 0)), (1, .int v1)]) C.1 C.2.1 dX0_lemmasCitedBy_1 rfl hl (by decide) rfl (fun ls hl => ?_)
  refine lv_iconst (v := 0) C.1 C.2.1 dX0_lemmasCitedBy_2 (by decide) ?_
  refine lv_istore_n (lv' := [(3, .int 0), (2, .int 0), (0, .ref (a 0)), (1, .int v1)]) C.1 C.2.1 dX0_lemmasCitedBy_3 rfl hl (by decide) rfl (fun ls hl => ?_)
  exact L4 v1 _ 0 0 h ls (lv_sub hl [2, 3, 1, 0] rfl)
set_option maxHeartbeats 4000000 in
set_option maxRecDepth 100000 in
theorem tX0_isIn {l : Launch} {v0 : Int32} {v1 : Int32} {z : Int32} (h : mX_isIn v0 v1 = some z) : Met l yX0_isIn (Cond.code yX0_isIn cX0_isIn 2 (some .boolean) :: WW) ({ frames := 0, cells := 0, slots := 0, locals := 0 }) (va_Pc [.int v0, .int v1] (fun _ => True)) (vp_Si (fun r => r = z)) 0 0 (fun _ => False) := by
  refine RS_of (own := RX0) (by decide) rfl (Nat.le_of_ble_eq_true rfl) ?_
  intro p e s m args below meth c ha C hr hlk ls hl
  have hl : lv_has ls 2 [(0, .int v0), (1, .int v1)] := hl
  unfold mX_isIn at h
  refine lv_iload_n C.1 C.2.1 dX0_isIn_0 rfl (lv_at hl 1 rfl) ?_
  refine lv_iconst (v := 1) C.1 C.2.1 dX0_isIn_1 (by decide) ?_
  refine lv_iload_n C.1 C.2.1 dX0_isIn_2 rfl (lv_at hl 0 rfl) ?_
  refine lv_ishl C.1 C.2.1 dX0_isIn_3 ?_
  refine lv_iand C.1 C.2.1 dX0_isIn_4 ?_
  refine k_if_eq (tgt := 12) C dX0_isIn_5 (by decide) h (fun c5 h => ?_) (fun c5 h => ?_)
  · refine lv_iconst (v := 0) C.1 C.2.1 dX0_isIn_12 (by decide) ?_
    exact k_zret C hr hlk h dX0_isIn_13
  · refine lv_iconst (v := 1) C.1 C.2.1 dX0_isIn_8 (by decide) ?_
    refine lv_goto (tgt := 13) C.1 C.2.1 dX0_isIn_9 (by decide) ?_
    exact k_zret C hr hlk h dX0_isIn_13
set_option maxHeartbeats 4000000 in
set_option maxRecDepth 100000 in
theorem tX0_lemmasCitedByAll {l : Launch} {D : va_G} {cI cZ : ClassId} {a : Nat → Nat} {S : XS} {v1 : Int32} {z : Int32} (h : mX_lemmasCitedByAll S v1 = some z) : Met l yX0_lemmasCitedByAll (Cond.code yX0_lemmasCitedByAll cX0_lemmasCitedByAll 4 (some .int) :: WW) ({ frames := 1, cells := 0, slots := 0, locals := 21 }) (va_Pc [.ref (a 0), .int v1] (roP D (wX cI cZ a S) (tyIZ cI cZ))) (vp_Si (fun r => r = z)) 0 0 (fun _ => False) := by
  refine RO_of (own := RX0) (by decide) rfl (Nat.le_of_ble_eq_true rfl) ?_
  intro p e s m args below meth c ha C hr hlk hP hK ls hl
  have hl : lv_has ls 4 [(0, .ref (a 0)), (1, .int v1)] := hl
  have L4 : ∀ (v1 : Int32) (n : Nat) (v2 : Int32) (v3 : Int32), itr2 (mX_lemmasCitedByAll_F4 S v1) n v2 v3 = some z → ∀ ls : Array Slot, lv_has ls 4 [(0, .ref (a 0)), (1, .int v1), (2, .int v2), (3, .int v3)] → W p l e { frames := 1, cells := 0, slots := 0, locals := 21 } s m args below meth c s.heap [] 0 0 (MQ below (vp_Si (fun r => r = z)) args s 0 0 (fun _ => False)) (F0 m 4 ls []) := by
    intro v1 n
    refine itr2_ind (fun (v2 : Int32) (v3 : Int32) => ∀ ls : Array Slot, lv_has ls 4 [(0, .ref (a 0)), (1, .int v1), (2, .int v2), (3, .int v3)] → W p l e { frames := 1, cells := 0, slots := 0, locals := 21 } s m args below meth c s.heap [] 0 0 (MQ below (vp_Si (fun r => r = z)) args s 0 0 (fun _ => False)) (F0 m 4 ls [])) ?_ n
    intro ih hih v2 v3 h ls hl
    unfold mX_lemmasCitedByAll_F4 at h
    refine lv_iload_n C.1 C.2.1 dX0_lemmasCitedByAll_4 rfl (lv_at hl 3 rfl) ?_
    refine lv_aload_n C.1 C.2.1 dX0_lemmasCitedByAll_5 rfl (lv_at hl 0 rfl) ?_
    refine gX0_lemmas C hK hP dX0_lemmasCitedByAll_6 ?_
    refine k_icmp_ge (tgt := 35) C dX0_lemmasCitedByAll_9 (by decide) h (fun c9 h => ?_) (fun c9 h => ?_)
    · refine lv_iload_n C.1 C.2.1 dX0_lemmasCitedByAll_35 rfl (lv_at hl 2 rfl) ?_
      exact k_iret C hr hlk h dX0_lemmasCitedByAll_36
    · refine lv_iload_n C.1 C.2.1 dX0_lemmasCitedByAll_12 rfl (lv_at hl 3 rfl) ?_
      refine lv_iload_n C.1 C.2.1 dX0_lemmasCitedByAll_13 rfl (lv_at hl 1 rfl) ?_
      refine k_prS C [.int v3, .int v1] h (fun v e => tX0_isIn e) (cb_X0_219 C.2.2.2.2 ⟨Nat.le_of_ble_eq_true rfl, Nat.le_of_ble_eq_true rfl⟩) rfl hl.1 (Nat.le_of_ble_eq_true rfl) ⟨Nat.le_of_ble_eq_true rfl, Nat.le_of_ble_eq_true rfl⟩ dX0_lemmasCitedByAll_14 rfl (fun x14 e14 h => ?_)
      refine k_if_eq (tgt := 29) C dX0_lemmasCitedByAll_17 (by decide) h (fun c17 h => ?_) (fun c17 h => ?_)
      · refine lv_iinc (v := (v3 + 1)) (lv' := [(3, .int (v3 + 1)), (0, .ref (a 0)), (1, .int v1), (2, .int v2)]) C.1 C.2.1 dX0_lemmasCitedByAll_29 hl (k := 3) rfl rfl (by decide) rfl (fun ls hl => ?_)
        refine lv_goto (tgt := 4) C.1 C.2.1 dX0_lemmasCitedByAll_32 (by decide) ?_
        exact hih v2 (v3 + 1) h ls (lv_sub hl [1, 2, 3, 0] rfl)
      · refine lv_iload_n C.1 C.2.1 dX0_lemmasCitedByAll_20 rfl (lv_at hl 2 rfl) ?_
        refine lv_aload_n C.1 C.2.1 dX0_lemmasCitedByAll_21 rfl (lv_at hl 0 rfl) ?_
        refine gX0_leads C hK hP dX0_lemmasCitedByAll_22 ?_
        refine lv_iload_n C.1 C.2.1 dX0_lemmasCitedByAll_25 rfl (lv_at hl 3 rfl) ?_
        refine lX0_leads C hK hP h dX0_lemmasCitedByAll_26 (fun h => ?_)
        refine lv_ior C.1 C.2.1 dX0_lemmasCitedByAll_27 ?_
        refine lv_istore_n (lv' := [(2, .int (v2 ||| (S 11 (v3 : Int32).toNatClampNeg))), (0, .ref (a 0)), (1, .int v1), (3, .int v3)]) C.1 C.2.1 dX0_lemmasCitedByAll_28 rfl hl (by decide) rfl (fun ls hl => ?_)
        refine lv_iinc (v := (v3 + 1)) (lv' := [(3, .int (v3 + 1)), (2, .int (v2 ||| (S 11 (v3 : Int32).toNatClampNeg))), (0, .ref (a 0)), (1, .int v1)]) C.1 C.2.1 dX0_lemmasCitedByAll_29 hl (k := 3) rfl rfl (by decide) rfl (fun ls hl => ?_)
        refine lv_goto (tgt := 4) C.1 C.2.1 dX0_lemmasCitedByAll_32 (by decide) ?_
        exact hih (v2 ||| (S 11 (v3 : Int32).toNatClampNeg)) (v3 + 1) h ls (lv_sub hl [2, 3, 1, 0] rfl)
  unfold mX_lemmasCitedByAll at h
  refine lv_iconst (v := 0) C.1 C.2.1 dX0_lemmasCitedByAll_0 (by decide) ?_
  refine lv_istore_n (lv' := [(2, .int 0), (0, .ref (a 0)), (1, .int v1)]) C.1 C.2.1 dX0_lemmasCitedByAll_1 rfl hl (by decide) rfl (fun ls hl => ?_)
  refine lv_iconst (v := 0) C.1 C.2.1 dX0_lemmasCitedByAll_2 (by decide) ?_
  refine lv_istore_n (lv' := [(3, .int 0), (2, .int 0), (0, .ref (a 0)), (1, .int v1)]) C.1 C.2.1 dX0_lemmasCitedByAll_3 rfl hl (by decide) rfl (fun ls hl => ?_)
  exact L4 v1 _ 0 0 h ls (lv_sub hl [2, 3, 1, 0] rfl)
set_option maxHeartbeats 4000000 in
set_option maxRecDepth 100000 in
theorem tX0_citesToItself {l : Launch} {D : va_G} {cI cZ : ClassId} {a : Nat → Nat} {S : XS} {v1 : Int32} {z : Int32} (h : mX_citesToItself S v1 = some z) : Met l yX0_citesToItself (Cond.code yX0_citesToItself cX0_citesToItself 4 (some .int) :: WW) ({ frames := 2, cells := 0, slots := 0, locals := 44 }) (va_Pc [.ref (a 0), .int v1] (roP D (wX cI cZ a S) (tyIZ cI cZ))) (vp_Si (fun r => r = z)) 0 0 (fun _ => False) := by
  refine RO_of (own := RX0) (by decide) rfl (Nat.le_of_ble_eq_true rfl) ?_
  intro p e s m args below meth c ha C hr hlk hP hK ls hl
  have hl : lv_has ls 4 [(0, .ref (a 0)), (1, .int v1)] := hl
  have L9 : ∀ (v1 : Int32) (n : Nat) (v2 : Int32) (v3 : Int32), itr2 (mX_citesToItself_F9 S v1) n v2 v3 = some z → ∀ ls : Array Slot, lv_has ls 4 [(0, .ref (a 0)), (1, .int v1), (2, .int v2), (3, .int v3)] → W p l e { frames := 2, cells := 0, slots := 0, locals := 44 } s m args below meth c s.heap [] 0 0 (MQ below (vp_Si (fun r => r = z)) args s 0 0 (fun _ => False)) (F0 m 9 ls []) := by
    intro v1 n
    refine itr2_ind (fun (v2 : Int32) (v3 : Int32) => ∀ ls : Array Slot, lv_has ls 4 [(0, .ref (a 0)), (1, .int v1), (2, .int v2), (3, .int v3)] → W p l e { frames := 2, cells := 0, slots := 0, locals := 44 } s m args below meth c s.heap [] 0 0 (MQ below (vp_Si (fun r => r = z)) args s 0 0 (fun _ => False)) (F0 m 9 ls [])) ?_ n
    intro ih hih v2 v3 h ls hl
    unfold mX_citesToItself_F9 at h
    refine lv_iload_n C.1 C.2.1 dX0_citesToItself_9 rfl (lv_at hl 3 rfl) ?_
    refine lv_aload_n C.1 C.2.1 dX0_citesToItself_10 rfl (lv_at hl 0 rfl) ?_
    refine gX0_lemmas C hK hP dX0_citesToItself_11 ?_
    refine k_icmp_gt (tgt := 39) C dX0_citesToItself_14 (by decide) h (fun c14 h => ?_) (fun c14 h => ?_)
    · refine lv_iconst (v := 0) C.1 C.2.1 dX0_citesToItself_39 (by decide) ?_
      exact k_iret C hr hlk h dX0_citesToItself_40
    · refine lv_iload_n C.1 C.2.1 dX0_citesToItself_17 rfl (lv_at hl 1 rfl) ?_
      refine lv_iload_n C.1 C.2.1 dX0_citesToItself_18 rfl (lv_at hl 2 rfl) ?_
      refine k_prS C [.int v1, .int v2] h (fun v e => tX0_isIn e) (cb_X0_219 C.2.2.2.2 ⟨Nat.le_of_ble_eq_true rfl, Nat.le_of_ble_eq_true rfl⟩) rfl hl.1 (Nat.le_of_ble_eq_true rfl) ⟨Nat.le_of_ble_eq_true rfl, Nat.le_of_ble_eq_true rfl⟩ dX0_citesToItself_19 rfl (fun x19 e19 h => ?_)
      refine k_if_eq (tgt := 27) C dX0_citesToItself_22 (by decide) h (fun c22 h => ?_) (fun c22 h => ?_)
      · refine lv_aload_n C.1 C.2.1 dX0_citesToItself_27 rfl (lv_at hl 0 rfl) ?_
        refine lv_iload_n C.1 C.2.1 dX0_citesToItself_28 rfl (lv_at hl 2 rfl) ?_
        refine k_roVi C hK hP [.int v2] (wX_rv hK hP) h (fun v e => tX0_lemmasCitedByAll e) (cb_X0_223 C.2.2.2.2 ⟨Nat.le_of_ble_eq_true rfl, Nat.le_of_ble_eq_true rfl⟩) rfl hl.1 (Nat.le_of_ble_eq_true rfl) ⟨Nat.le_of_ble_eq_true rfl, Nat.le_of_ble_eq_true rfl⟩ dX0_citesToItself_29 rfl (fun x29 e29 h => ?_)
        refine lv_istore_n (lv' := [(2, .int x29), (0, .ref (a 0)), (1, .int v1), (3, .int v3)]) C.1 C.2.1 dX0_citesToItself_32 rfl hl (by decide) rfl (fun ls hl => ?_)
        refine lv_iinc (v := (v3 + 1)) (lv' := [(3, .int (v3 + 1)), (2, .int x29), (0, .ref (a 0)), (1, .int v1)]) C.1 C.2.1 dX0_citesToItself_33 hl (k := 3) rfl rfl (by decide) rfl (fun ls hl => ?_)
        refine lv_goto (tgt := 9) C.1 C.2.1 dX0_citesToItself_36 (by decide) ?_
        exact hih x29 (v3 + 1) h ls (lv_sub hl [2, 3, 1, 0] rfl)
      · refine lv_iload_n C.1 C.2.1 dX0_citesToItself_25 rfl (lv_at hl 3 rfl) ?_
        exact k_iret C hr hlk h dX0_citesToItself_26
  unfold mX_citesToItself at h
  refine lv_aload_n C.1 C.2.1 dX0_citesToItself_0 rfl (lv_at hl 0 rfl) ?_
  refine gX0_leads C hK hP dX0_citesToItself_1 ?_
  refine lv_iload_n C.1 C.2.1 dX0_citesToItself_4 rfl (lv_at hl 1 rfl) ?_
  refine lX0_leads C hK hP h dX0_citesToItself_5 (fun h => ?_)
  refine lv_istore_n (lv' := [(2, .int (S 11 (v1 : Int32).toNatClampNeg)), (0, .ref (a 0)), (1, .int v1)]) C.1 C.2.1 dX0_citesToItself_6 rfl hl (by decide) rfl (fun ls hl => ?_)
  refine lv_iconst (v := 1) C.1 C.2.1 dX0_citesToItself_7 (by decide) ?_
  refine lv_istore_n (lv' := [(3, .int 1), (2, .int (S 11 (v1 : Int32).toNatClampNeg)), (0, .ref (a 0)), (1, .int v1)]) C.1 C.2.1 dX0_citesToItself_8 rfl hl (by decide) rfl (fun ls hl => ?_)
  exact L9 v1 _ (S 11 (v1 : Int32).toNatClampNeg) 1 h ls (lv_sub hl [2, 3, 1, 0] rfl)
set_option maxHeartbeats 4000000 in
set_option maxRecDepth 100000 in
theorem tX0_settle {l : Launch} {D : va_G} {cI cZ : ClassId} {a : Nat → Nat} {S : XS} {sz : Nat} {z : (Int32 × XS)} (h : mX_settle S = some z) : Met l yX0_settle (Cond.code yX0_settle cX0_settle 2 none :: WW) ({ frames := 5, cells := 0, slots := 0, locals := 119 }) (va_Pc [.ref (a 0)] (rwP D (wX cI cZ a S) (tyIZ cI cZ) sz)) (rwQv D (wX cI cZ a z.2) (va_A (wX cI cZ a S) sz)) 0 0 (va_A (wX cI cZ a S) sz) := by
  refine RW_of (own := RX0) (Qc := fun A => rwQv D (wX cI cZ a z.2) A) (by decide) rfl (Nat.le_of_ble_eq_true rfl) ?_
  intro p e s m args below meth c A ha C hr hlk hP hK hD hA ls hl
  have hS : va_S A s.heap s.heap [] := va_S.rf
  have hl : lv_has ls 2 [(0, .ref (a 0))] := hl
  have L60 : ∀  (n : Nat) (S : XS) (v1 : Int32), itr2 (mX_settle_F60) n S v1 = some z → ∀ (H : Heap) (locs : List Loc) (hP : va_P D vwCl (wX cI cZ a S) H) (hD : va_D A (wX cI cZ a S)) (hS : va_S A s.heap H locs) (ls : Array Slot), lv_has ls 2 [(0, .ref (a 0)), (1, .int v1)] → W p l e { frames := 5, cells := 0, slots := 0, locals := 119 } s m args below meth c H locs 0 0 (MQ below (rwQv D (wX cI cZ a z.2) A) args s 0 0 A) (F0 m 60 ls []) := by
    intro n
    refine itr2_ind (fun (S : XS) (v1 : Int32) => ∀ (H : Heap) (locs : List Loc) (hP : va_P D vwCl (wX cI cZ a S) H) (hD : va_D A (wX cI cZ a S)) (hS : va_S A s.heap H locs) (ls : Array Slot), lv_has ls 2 [(0, .ref (a 0)), (1, .int v1)] → W p l e { frames := 5, cells := 0, slots := 0, locals := 119 } s m args below meth c H locs 0 0 (MQ below (rwQv D (wX cI cZ a z.2) A) args s 0 0 A) (F0 m 60 ls [])) ?_ n
    intro ih hih S v1 h H locs hP hD hS ls hl
    unfold mX_settle_F60 at h
    refine lv_iload_n C.1 C.2.1 dX0_settle_60 rfl (lv_at hl 1 rfl) ?_
    refine lv_aload_n C.1 C.2.1 dX0_settle_61 rfl (lv_at hl 0 rfl) ?_
    refine gX0_lemmas C hK hP dX0_settle_62 ?_
    refine k_icmp_ge (tgt := 85) C dX0_settle_65 (by decide) h (fun c65 h => ?_) (fun c65 h => ?_)
    · exact k_vretW (w := wX cI cZ a) C hr hlk (v := 0) h hP hS dX0_settle_85
    · refine lv_aload_n C.1 C.2.1 dX0_settle_68 rfl (lv_at hl 0 rfl) ?_
      refine gX0_circles C hK hP dX0_settle_69 ?_
      refine lv_iload_n C.1 C.2.1 dX0_settle_72 rfl (lv_at hl 1 rfl) ?_
      refine lv_aload_n C.1 C.2.1 dX0_settle_73 rfl (lv_at hl 0 rfl) ?_
      refine lv_iload_n C.1 C.2.1 dX0_settle_74 rfl (lv_at hl 1 rfl) ?_
      refine k_roVi C hK hP [.int v1] (wX_rv hK hP) h (fun v e => tX0_citesToItself e) (cb_X0_191 C.2.2.2.2 ⟨Nat.le_of_ble_eq_true rfl, Nat.le_of_ble_eq_true rfl⟩) rfl hl.1 (Nat.le_of_ble_eq_true rfl) ⟨Nat.le_of_ble_eq_true rfl, Nat.le_of_ble_eq_true rfl⟩ dX0_settle_75 rfl (fun x75 e75 h => ?_)
      refine sX0_circles C hK hP hD hS h dX0_settle_78 (fun S78 H locs h hP hD hS => ?_)
      refine lv_iinc (v := (v1 + 1)) (lv' := [(1, .int (v1 + 1)), (0, .ref (a 0))]) C.1 C.2.1 dX0_settle_79 hl (k := 1) rfl rfl (by decide) rfl (fun ls hl => ?_)
      refine lv_goto (tgt := 60) C.1 C.2.1 dX0_settle_82 (by decide) ?_
      exact hih S78 (v1 + 1) h _ _ hP hD hS ls (lv_sub hl [1, 0] rfl)
  have L33 : ∀  (n : Nat) (S : XS) (v1 : Int32), itr2 (mX_settle_F33) n S v1 = some z → ∀ (H : Heap) (locs : List Loc) (hP : va_P D vwCl (wX cI cZ a S) H) (hD : va_D A (wX cI cZ a S)) (hS : va_S A s.heap H locs) (ls : Array Slot), lv_has ls 2 [(0, .ref (a 0)), (1, .int v1)] → W p l e { frames := 5, cells := 0, slots := 0, locals := 119 } s m args below meth c H locs 0 0 (MQ below (rwQv D (wX cI cZ a z.2) A) args s 0 0 A) (F0 m 33 ls []) := by
    intro n
    refine itr2_ind (fun (S : XS) (v1 : Int32) => ∀ (H : Heap) (locs : List Loc) (hP : va_P D vwCl (wX cI cZ a S) H) (hD : va_D A (wX cI cZ a S)) (hS : va_S A s.heap H locs) (ls : Array Slot), lv_has ls 2 [(0, .ref (a 0)), (1, .int v1)] → W p l e { frames := 5, cells := 0, slots := 0, locals := 119 } s m args below meth c H locs 0 0 (MQ below (rwQv D (wX cI cZ a z.2) A) args s 0 0 A) (F0 m 33 ls [])) ?_ n
    intro ih hih S v1 h H locs hP hD hS ls hl
    unfold mX_settle_F33 at h
    refine lv_iload_n C.1 C.2.1 dX0_settle_33 rfl (lv_at hl 1 rfl) ?_
    refine lv_aload_n C.1 C.2.1 dX0_settle_34 rfl (lv_at hl 0 rfl) ?_
    refine gX0_lemmas C hK hP dX0_settle_35 ?_
    refine k_icmp_ge (tgt := 58) C dX0_settle_38 (by decide) h (fun c38 h => ?_) (fun c38 h => ?_)
    · refine lv_iconst (v := 0) C.1 C.2.1 dX0_settle_58 (by decide) ?_
      refine lv_istore_n (lv' := [(1, .int 0), (0, .ref (a 0))]) C.1 C.2.1 dX0_settle_59 rfl hl (by decide) rfl (fun ls hl => ?_)
      exact L60 _ S 0 h _ _ hP hD hS ls (lv_sub hl [1, 0] rfl)
    · refine lv_aload_n C.1 C.2.1 dX0_settle_41 rfl (lv_at hl 0 rfl) ?_
      refine gX0_leads C hK hP dX0_settle_42 ?_
      refine lv_iload_n C.1 C.2.1 dX0_settle_45 rfl (lv_at hl 1 rfl) ?_
      refine lv_aload_n C.1 C.2.1 dX0_settle_46 rfl (lv_at hl 0 rfl) ?_
      refine lv_iload_n C.1 C.2.1 dX0_settle_47 rfl (lv_at hl 1 rfl) ?_
      refine k_roVi C hK hP [.int v1] (wX_rv hK hP) h (fun v e => tX0_lemmasCitedBy e) (cb_X0_188 C.2.2.2.2 ⟨Nat.le_of_ble_eq_true rfl, Nat.le_of_ble_eq_true rfl⟩) rfl hl.1 (Nat.le_of_ble_eq_true rfl) ⟨Nat.le_of_ble_eq_true rfl, Nat.le_of_ble_eq_true rfl⟩ dX0_settle_48 rfl (fun x48 e48 h => ?_)
      refine sX0_leads C hK hP hD hS h dX0_settle_51 (fun S51 H locs h hP hD hS => ?_)
      refine lv_iinc (v := (v1 + 1)) (lv' := [(1, .int (v1 + 1)), (0, .ref (a 0))]) C.1 C.2.1 dX0_settle_52 hl (k := 1) rfl rfl (by decide) rfl (fun ls hl => ?_)
      refine lv_goto (tgt := 33) C.1 C.2.1 dX0_settle_55 (by decide) ?_
      exact hih S51 (v1 + 1) h _ _ hP hD hS ls (lv_sub hl [1, 0] rfl)
  unfold mX_settle at h
  refine lv_aload_n C.1 C.2.1 dX0_settle_0 rfl (lv_at hl 0 rfl) ?_
  refine lv_aload_n C.1 C.2.1 dX0_settle_1 rfl (lv_at hl 0 rfl) ?_
  refine lv_aload_n C.1 C.2.1 dX0_settle_2 rfl (lv_at hl 0 rfl) ?_
  refine gX0_stages C hK hP dX0_settle_3 ?_
  refine lv_iconst (v := (-1)) C.1 C.2.1 dX0_settle_6 (by decide) ?_
  refine k_rwVi C (wX_ad _) hK hP hD hS hA [.ref (a 8), .int (-1)] (wX_rv hK hP) h (fun v S2 e => tX0_prove ⟨by decide, by decide⟩ e) (cb_X0_136 C.2.2.2.2 ⟨Nat.le_of_ble_eq_true rfl, Nat.le_of_ble_eq_true rfl⟩) rfl hl.1 (Nat.le_of_ble_eq_true rfl) ⟨Nat.le_of_ble_eq_true rfl, Nat.le_of_ble_eq_true rfl⟩ dX0_settle_7 rfl (fun x7 S7 H locs e7 h hP hD hS => ?_)
  refine pX0_proved C hK hP hD hS h dX0_settle_10 (fun S10 H locs h hP hD hS => ?_)
  refine lv_aload_n C.1 C.2.1 dX0_settle_13 rfl (lv_at hl 0 rfl) ?_
  refine lv_aload_n C.1 C.2.1 dX0_settle_14 rfl (lv_at hl 0 rfl) ?_
  refine gX0_lengths C hK hP dX0_settle_15 ?_
  refine lv_iconst (v := 0) C.1 C.2.1 dX0_settle_18 (by decide) ?_
  refine k_rwVv C (wX_ad _) hK hP hD hS hA [.ref (a 9), .int 0] (wX_rv hK hP) h (fun v S2 e => tX0_reckon ⟨by decide, by decide⟩ e) (cb_X0_184 C.2.2.2.2 ⟨Nat.le_of_ble_eq_true rfl, Nat.le_of_ble_eq_true rfl⟩) rfl hl.1 (Nat.le_of_ble_eq_true rfl) ⟨Nat.le_of_ble_eq_true rfl, Nat.le_of_ble_eq_true rfl⟩ dX0_settle_19 rfl (fun x19 S19 H locs e19 h hP hD hS => ?_)
  refine lv_aload_n C.1 C.2.1 dX0_settle_22 rfl (lv_at hl 0 rfl) ?_
  refine lv_aload_n C.1 C.2.1 dX0_settle_23 rfl (lv_at hl 0 rfl) ?_
  refine gX0_prices C hK hP dX0_settle_24 ?_
  refine lv_iconst (v := 1) C.1 C.2.1 dX0_settle_27 (by decide) ?_
  refine k_rwVv C (wX_ad _) hK hP hD hS hA [.ref (a 10), .int 1] (wX_rv hK hP) h (fun v S2 e => tX0_reckon ⟨by decide, by decide⟩ e) (cb_X0_184 C.2.2.2.2 ⟨Nat.le_of_ble_eq_true rfl, Nat.le_of_ble_eq_true rfl⟩) rfl hl.1 (Nat.le_of_ble_eq_true rfl) ⟨Nat.le_of_ble_eq_true rfl, Nat.le_of_ble_eq_true rfl⟩ dX0_settle_28 rfl (fun x28 S28 H locs e28 h hP hD hS => ?_)
  refine lv_iconst (v := 0) C.1 C.2.1 dX0_settle_31 (by decide) ?_
  refine lv_istore_n (lv' := [(1, .int 0), (0, .ref (a 0))]) C.1 C.2.1 dX0_settle_32 rfl hl (by decide) rfl (fun ls hl => ?_)
  exact L33 _ S28 0 h _ _ hP hD hS ls (lv_sub hl [1, 0] rfl)
set_option maxHeartbeats 4000000 in
set_option maxRecDepth 100000 in
theorem tX0_take {l : Launch} {D : va_G} {cI cZ : ClassId} {a : Nat → Nat} {S : XS} {sz : Nat} {v1 : Int32} {v2 : Int32} {z : ((Int32 × XS) ⊕ Nat)} (hfl : l.stackTraces = false) (h : mX_take S v1 v2 = some z) : tx_Met l yX0_take (Cond.code yX0_take cX0_take 4 (some .boolean) :: WW) ({ frames := 7, cells := 1, slots := 6, locals := 140 }) (va_Pc [.ref (a 0), .int v1, .int v2] (fun U => rwP D (wX cI cZ a S) (tyIZ cI cZ) sz U ∧ excU U)) (tqiW D (wX cI cZ a) (va_A (wX cI cZ a S) sz) z) (txX z) 1 6 (va_A (wX cI cZ a S) sz) := by
  refine TXW_of (own := RX0) (QF := fun A => tqiW D (wX cI cZ a) A z) (by decide) rfl (Nat.le_of_ble_eq_true rfl) ?_
  intro p e s m args below meth c A ha C hr hlk hout hP hK hD hA hE ls hl
  have hS : va_S A s.heap s.heap [] := va_S.rf
  have hl : lv_has ls 4 [(0, .ref (a 0)), (1, .int v1), (2, .int v2)] := hl
  unfold mX_take at h
  refine lv_iload_n C.1 C.2.1 dX0_take_0 rfl (lv_at hl 1 rfl) ?_
  refine k_txS C hE hlk hout [.int v1] h (fun o e => tX0_requireAxiom hfl e) (cb_X0_50 C.2.2.2.2 ⟨Nat.le_of_ble_eq_true rfl, Nat.le_of_ble_eq_true rfl⟩) rfl hl.1 (Nat.le_of_ble_eq_true rfl) ⟨Nat.le_of_ble_eq_true rfl, Nat.le_of_ble_eq_true rfl⟩ dX0_take_1 rfl (fun x1 e1 h => ?_)
  refine lv_aload_n C.1 C.2.1 dX0_take_4 rfl (lv_at hl 0 rfl) ?_
  refine gX0_taken C hK hP dX0_take_5 ?_
  refine lv_iload_n C.1 C.2.1 dX0_take_8 rfl (lv_at hl 1 rfl) ?_
  refine lX0_taken C hK hP h dX0_take_9 (fun h => ?_)
  refine lv_istore_n (lv' := [(3, .int (S 1 (v1 : Int32).toNatClampNeg)), (0, .ref (a 0)), (1, .int v1), (2, .int v2)]) C.1 C.2.1 dX0_take_10 rfl hl (by decide) rfl (fun ls hl => ?_)
  refine lv_aload_n C.1 C.2.1 dX0_take_11 rfl (lv_at hl 1 rfl) ?_
  refine gX0_taken C hK hP dX0_take_12 ?_
  refine lv_iload_n C.1 C.2.1 dX0_take_15 rfl (lv_at hl 2 rfl) ?_
  refine lv_iload_n C.1 C.2.1 dX0_take_16 rfl (lv_at hl 3 rfl) ?_
  refine sX0_taken C hK hP hD hS h dX0_take_17 (fun S17 H locs h hP hD hS => ?_)
  refine lv_aload_n C.1 C.2.1 dX0_take_18 rfl (lv_at hl 1 rfl) ?_
  refine k_rwVv C (wX_ad _) hK hP hD hS hA [] (wX_rv hK hP) h (fun v S2 e => tX0_settle e) (cb_X0_54 C.2.2.2.2 ⟨Nat.le_of_ble_eq_true rfl, Nat.le_of_ble_eq_true rfl⟩) rfl hl.1 (Nat.le_of_ble_eq_true rfl) ⟨Nat.le_of_ble_eq_true rfl, Nat.le_of_ble_eq_true rfl⟩ dX0_take_19 rfl (fun x19 S19 H locs e19 h hP hD hS => ?_)
  refine lv_iload_n C.1 C.2.1 dX0_take_22 rfl (lv_at hl 0 rfl) ?_
  exact k_zretTW (w := wX cI cZ a) C hr hlk h hP hS dX0_take_23
set_option maxHeartbeats 4000000 in
set_option maxRecDepth 100000 in
theorem tX0_requireLemma {l : Launch} {D : va_G} {cI cZ : ClassId} {a : Nat → Nat} {S : XS} {v1 : Int32} {z : (Int32 ⊕ Nat)} (hfl : l.stackTraces = false) (h : mX_requireLemma S v1 = some z) : tx_Met l yX0_requireLemma (Cond.code yX0_requireLemma cX0_requireLemma 2 none :: WW) ({ frames := 6, cells := 1, slots := 6, locals := 90 }) (va_Pc [.ref (a 0), .int v1] (fun U => roP D (wX cI cZ a S) (tyIZ cI cZ) U ∧ excU U)) (tqv z) (txX z) 1 6 (fun _ => False) := by
  refine TX_of (own := RX0) (by decide) rfl (Nat.le_of_ble_eq_true rfl) ?_
  intro p e s m args below meth c ha C hr hlk hout hpre ls hl
  obtain ⟨⟨hP, hK⟩, hE⟩ := hpre
  have hl : lv_has ls 2 [(0, .ref (a 0)), (1, .int v1)] := hl
  unfold mX_requireLemma at h
  refine lv_aload_n C.1 C.2.1 dX0_requireLemma_0 rfl (lv_at hl 0 rfl) ?_
  refine lv_iload_n C.1 C.2.1 dX0_requireLemma_1 rfl (lv_at hl 1 rfl) ?_
  refine k_roVi C hK hP [.int v1] (wX_rv hK hP) h (fun v e => tX0_isLemma e) (cb_X0_166 C.2.2.2.2 ⟨Nat.le_of_ble_eq_true rfl, Nat.le_of_ble_eq_true rfl⟩) rfl hl.1 (Nat.le_of_ble_eq_true rfl) ⟨Nat.le_of_ble_eq_true rfl, Nat.le_of_ble_eq_true rfl⟩ dX0_requireLemma_2 rfl (fun x2 e2 h => ?_)
  refine k_if_ne (tgt := 18) C dX0_requireLemma_5 (by decide) h (fun c5 h => ?_) (fun c5 h => ?_)
  · exact k_vretT C hr hlk (v := 0) h dX0_requireLemma_18
  · exact k_throw1 C hfl hE hlk hout h (List.mem_of_getElem? (i := 1) rfl) hl.1 (Nat.le_of_ble_eq_true rfl) (Nat.le_of_ble_eq_true rfl) (Nat.le_of_ble_eq_true rfl) (Nat.le_of_ble_eq_true rfl) dX0_requireLemma_8 dX0_requireLemma_11 dX0_requireLemma_12 dX0_requireLemma_14 dX0_requireLemma_17
set_option maxHeartbeats 4000000 in
set_option maxRecDepth 100000 in
theorem tX0_requireProof {l : Launch} {D : va_G} {cI cZ : ClassId} {a : Nat → Nat} {S : XS} {v1 : Int32} {v2 : Int32} {z : (Int32 ⊕ Nat)} (hfl : l.stackTraces = false) (h : mX_requireProof S v1 v2 = some z) : tx_Met l yX0_requireProof (Cond.code yX0_requireProof cX0_requireProof 3 none :: WW) ({ frames := 7, cells := 1, slots := 6, locals := 111 }) (va_Pc [.ref (a 0), .int v1, .int v2] (fun U => roP D (wX cI cZ a S) (tyIZ cI cZ) U ∧ excU U)) (tqv z) (txX z) 1 6 (fun _ => False) := by
  refine TX_of (own := RX0) (by decide) rfl (Nat.le_of_ble_eq_true rfl) ?_
  intro p e s m args below meth c ha C hr hlk hout hpre ls hl
  obtain ⟨⟨hP, hK⟩, hE⟩ := hpre
  have hl : lv_has ls 3 [(0, .ref (a 0)), (1, .int v1), (2, .int v2)] := hl
  unfold mX_requireProof at h
  refine lv_aload_n C.1 C.2.1 dX0_requireProof_0 rfl (lv_at hl 0 rfl) ?_
  refine lv_iload_n C.1 C.2.1 dX0_requireProof_1 rfl (lv_at hl 1 rfl) ?_
  refine k_txV C hE hlk hout hK hP (wX_rv hK hP) [.int v1] h (fun o e => tX0_requireLemma hfl e) (cb_X0_68 C.2.2.2.2 ⟨Nat.le_of_ble_eq_true rfl, Nat.le_of_ble_eq_true rfl⟩) rfl hl.1 (Nat.le_of_ble_eq_true rfl) ⟨Nat.le_of_ble_eq_true rfl, Nat.le_of_ble_eq_true rfl⟩ dX0_requireProof_2 rfl (fun x2 e2 h => ?_)
  refine lv_iload_n C.1 C.2.1 dX0_requireProof_5 rfl (lv_at hl 2 rfl) ?_
  refine k_if_lt (tgt := 19) C dX0_requireProof_6 (by decide) h (fun c6 h => ?_) (fun c6 h => ?_)
  · exact k_throw1 C hfl hE hlk hout h (List.mem_of_getElem? (i := 2) rfl) hl.1 (Nat.le_of_ble_eq_true rfl) (Nat.le_of_ble_eq_true rfl) (Nat.le_of_ble_eq_true rfl) (Nat.le_of_ble_eq_true rfl) dX0_requireProof_19 dX0_requireProof_22 dX0_requireProof_23 dX0_requireProof_25 dX0_requireProof_28
  · refine lv_iload_n C.1 C.2.1 dX0_requireProof_9 rfl (lv_at hl 2 rfl) ?_
    refine lv_aload_n C.1 C.2.1 dX0_requireProof_10 rfl (lv_at hl 0 rfl) ?_
    refine gX0_proofs C hK hP dX0_requireProof_11 ?_
    refine lv_iload_n C.1 C.2.1 dX0_requireProof_14 rfl (lv_at hl 1 rfl) ?_
    refine lX0_proofs C hK hP h dX0_requireProof_15 (fun h => ?_)
    refine k_icmp_lt (tgt := 29) C dX0_requireProof_16 (by decide) h (fun c16 h => ?_) (fun c16 h => ?_)
    · exact k_vretT C hr hlk (v := 0) h dX0_requireProof_29
    · exact k_throw1 C hfl hE hlk hout h (List.mem_of_getElem? (i := 2) rfl) hl.1 (Nat.le_of_ble_eq_true rfl) (Nat.le_of_ble_eq_true rfl) (Nat.le_of_ble_eq_true rfl) (Nat.le_of_ble_eq_true rfl) dX0_requireProof_19 dX0_requireProof_22 dX0_requireProof_23 dX0_requireProof_25 dX0_requireProof_28
set_option maxHeartbeats 4000000 in
set_option maxRecDepth 100000 in
theorem tX0_requireStep {l : Launch} {D : va_G} {cI cZ : ClassId} {a : Nat → Nat} {S : XS} {v1 : Int32} {v2 : Int32} {v3 : Int32} {z : (Int32 ⊕ Nat)} (hfl : l.stackTraces = false) (h : mX_requireStep S v1 v2 v3 = some z) : tx_Met l yX0_requireStep (Cond.code yX0_requireStep cX0_requireStep 4 none :: WW) ({ frames := 8, cells := 1, slots := 6, locals := 133 }) (va_Pc [.ref (a 0), .int v1, .int v2, .int v3] (fun U => roP D (wX cI cZ a S) (tyIZ cI cZ) U ∧ excU U)) (tqv z) (txX z) 1 6 (fun _ => False) := by
  refine TX_of (own := RX0) (by decide) rfl (Nat.le_of_ble_eq_true rfl) ?_
  intro p e s m args below meth c ha C hr hlk hout hpre ls hl
  obtain ⟨⟨hP, hK⟩, hE⟩ := hpre
  have hl : lv_has ls 4 [(0, .ref (a 0)), (1, .int v1), (2, .int v2), (3, .int v3)] := hl
  unfold mX_requireStep at h
  refine lv_aload_n C.1 C.2.1 dX0_requireStep_0 rfl (lv_at hl 0 rfl) ?_
  refine lv_iload_n C.1 C.2.1 dX0_requireStep_1 rfl (lv_at hl 1 rfl) ?_
  refine lv_iload_n C.1 C.2.1 dX0_requireStep_2 rfl (lv_at hl 2 rfl) ?_
  refine k_txV C hE hlk hout hK hP (wX_rv hK hP) [.int v1, .int v2] h (fun o e => tX0_requireProof hfl e) (cb_X0_77 C.2.2.2.2 ⟨Nat.le_of_ble_eq_true rfl, Nat.le_of_ble_eq_true rfl⟩) rfl hl.1 (Nat.le_of_ble_eq_true rfl) ⟨Nat.le_of_ble_eq_true rfl, Nat.le_of_ble_eq_true rfl⟩ dX0_requireStep_3 rfl (fun x3 e3 h => ?_)
  refine lv_iload_n C.1 C.2.1 dX0_requireStep_6 rfl (lv_at hl 3 rfl) ?_
  refine k_if_lt (tgt := 24) C dX0_requireStep_7 (by decide) h (fun c7 h => ?_) (fun c7 h => ?_)
  · exact k_throw1 C hfl hE hlk hout h (List.mem_of_getElem? (i := 3) rfl) hl.1 (Nat.le_of_ble_eq_true rfl) (Nat.le_of_ble_eq_true rfl) (Nat.le_of_ble_eq_true rfl) (Nat.le_of_ble_eq_true rfl) dX0_requireStep_24 dX0_requireStep_27 dX0_requireStep_28 dX0_requireStep_30 dX0_requireStep_33
  · refine lv_iload_n C.1 C.2.1 dX0_requireStep_10 rfl (lv_at hl 3 rfl) ?_
    refine lv_aload_n C.1 C.2.1 dX0_requireStep_11 rfl (lv_at hl 0 rfl) ?_
    refine gX0_steps C hK hP dX0_requireStep_12 ?_
    refine lv_iload_n C.1 C.2.1 dX0_requireStep_15 rfl (lv_at hl 1 rfl) ?_
    refine lv_iload_n C.1 C.2.1 dX0_requireStep_16 rfl (lv_at hl 2 rfl) ?_
    refine k_prS C [.int v1, .int v2] h (fun v e => tX0_slotOf e) (cb_X0_73 C.2.2.2.2 ⟨Nat.le_of_ble_eq_true rfl, Nat.le_of_ble_eq_true rfl⟩) rfl hl.1 (Nat.le_of_ble_eq_true rfl) ⟨Nat.le_of_ble_eq_true rfl, Nat.le_of_ble_eq_true rfl⟩ dX0_requireStep_17 rfl (fun x17 e17 h => ?_)
    refine lX0_steps C hK hP h dX0_requireStep_20 (fun h => ?_)
    refine k_icmp_lt (tgt := 34) C dX0_requireStep_21 (by decide) h (fun c21 h => ?_) (fun c21 h => ?_)
    · exact k_vretT C hr hlk (v := 0) h dX0_requireStep_34
    · exact k_throw1 C hfl hE hlk hout h (List.mem_of_getElem? (i := 3) rfl) hl.1 (Nat.le_of_ble_eq_true rfl) (Nat.le_of_ble_eq_true rfl) (Nat.le_of_ble_eq_true rfl) (Nat.le_of_ble_eq_true rfl) dX0_requireStep_24 dX0_requireStep_27 dX0_requireStep_28 dX0_requireStep_30 dX0_requireStep_33
set_option maxHeartbeats 4000000 in
set_option maxRecDepth 100000 in
theorem tX0_stepAt {l : Launch} {v0 : Int32} {v1 : Int32} {v2 : Int32} {z : Int32} (h : mX_stepAt v0 v1 v2 = some z) : Met l yX0_stepAt (Cond.code yX0_stepAt cX0_stepAt 3 (some .int) :: WW) ({ frames := 1, cells := 0, slots := 0, locals := 21 }) (va_Pc [.int v0, .int v1, .int v2] (fun _ => True)) (vp_Si (fun r => r = z)) 0 0 (fun _ => False) := by
  refine RS_of (own := RX0) (by decide) rfl (Nat.le_of_ble_eq_true rfl) ?_
  intro p e s m args below meth c ha C hr hlk ls hl
  have hl : lv_has ls 3 [(0, .int v0), (1, .int v1), (2, .int v2)] := hl
  unfold mX_stepAt at h
  refine lv_iload_n C.1 C.2.1 dX0_stepAt_0 rfl (lv_at hl 0 rfl) ?_
  refine lv_iload_n C.1 C.2.1 dX0_stepAt_1 rfl (lv_at hl 1 rfl) ?_
  refine k_prS C [.int v0, .int v1] h (fun v e => tX0_slotOf e) (cb_X0_73 C.2.2.2.2 ⟨Nat.le_of_ble_eq_true rfl, Nat.le_of_ble_eq_true rfl⟩) rfl hl.1 (Nat.le_of_ble_eq_true rfl) ⟨Nat.le_of_ble_eq_true rfl, Nat.le_of_ble_eq_true rfl⟩ dX0_stepAt_2 rfl (fun x2 e2 h => ?_)
  refine k_prS C [.int x2] h (fun v e => tX0_firstStepOf e) (cb_X0_181 C.2.2.2.2 ⟨Nat.le_of_ble_eq_true rfl, Nat.le_of_ble_eq_true rfl⟩) rfl hl.1 (Nat.le_of_ble_eq_true rfl) ⟨Nat.le_of_ble_eq_true rfl, Nat.le_of_ble_eq_true rfl⟩ dX0_stepAt_5 rfl (fun x5 e5 h => ?_)
  refine lv_iload_n C.1 C.2.1 dX0_stepAt_8 rfl (lv_at hl 2 rfl) ?_
  refine lv_iadd C.1 C.2.1 dX0_stepAt_9 ?_
  exact k_iret C hr hlk h dX0_stepAt_10
set_option maxHeartbeats 4000000 in
set_option maxRecDepth 100000 in
theorem tX0_patch {l : Launch} {D : va_G} {cI cZ : ClassId} {a : Nat → Nat} {S : XS} {sz : Nat} {v1 : Int32} {v2 : Int32} {v3 : Int32} {v4 : Int32} {z : ((Int32 × XS) ⊕ Nat)} (hfl : l.stackTraces = false) (h : mX_patch S v1 v2 v3 v4 = some z) : tx_Met l yX0_patch (Cond.code yX0_patch cX0_patch 6 (some .int) :: WW) ({ frames := 9, cells := 1, slots := 6, locals := 156 }) (va_Pc [.ref (a 0), .int v1, .int v2, .int v3, .int v4] (fun U => rwP D (wX cI cZ a S) (tyIZ cI cZ) sz U ∧ excU U)) (tqiW D (wX cI cZ a) (va_A (wX cI cZ a S) sz) z) (txX z) 1 6 (va_A (wX cI cZ a S) sz) := by
  refine TXW_of (own := RX0) (QF := fun A => tqiW D (wX cI cZ a) A z) (by decide) rfl (Nat.le_of_ble_eq_true rfl) ?_
  intro p e s m args below meth c A ha C hr hlk hout hP hK hD hA hE ls hl
  have hS : va_S A s.heap s.heap [] := va_S.rf
  have hl : lv_has ls 6 [(0, .ref (a 0)), (1, .int v1), (2, .int v2), (3, .int v3), (4, .int v4)] := hl
  unfold mX_patch at h
  refine lv_aload_n C.1 C.2.1 dX0_patch_0 rfl (lv_at hl 0 rfl) ?_
  refine lv_iload_n C.1 C.2.1 dX0_patch_1 rfl (lv_at hl 1 rfl) ?_
  refine lv_iload_n C.1 C.2.1 dX0_patch_2 rfl (lv_at hl 2 rfl) ?_
  refine lv_iload_n C.1 C.2.1 dX0_patch_3 rfl (lv_at hl 3 rfl) ?_
  refine k_txV C hE hlk hout hK hP (wX_rv hK hP) [.int v1, .int v2, .int v3] h (fun o e => tX0_requireStep hfl e) (cb_X0_90 C.2.2.2.2 ⟨Nat.le_of_ble_eq_true rfl, Nat.le_of_ble_eq_true rfl⟩) rfl hl.1 (Nat.le_of_ble_eq_true rfl) ⟨Nat.le_of_ble_eq_true rfl, Nat.le_of_ble_eq_true rfl⟩ dX0_patch_4 rfl (fun x4 e4 h => ?_)
  refine lv_iload C.1 C.2.1 dX0_patch_7 (lv_at hl 4 rfl) ?_
  refine lv_iconst (v := 1) C.1 C.2.1 dX0_patch_9 (by decide) ?_
  refine k_icmp_lt (tgt := 20) C dX0_patch_10 (by decide) h (fun c10 h => ?_) (fun c10 h => ?_)
  · exact k_throw3 C hfl hE hlk hout h (List.mem_of_getElem? (i := 4) rfl) hl.1 (Nat.le_of_ble_eq_true rfl) (Nat.le_of_ble_eq_true rfl) (Nat.le_of_ble_eq_true rfl) (Nat.le_of_ble_eq_true rfl) dX0_patch_20 dX0_patch_23 dX0_patch_24 dX0_patch_26 dX0_patch_29
  · refine lv_iload C.1 C.2.1 dX0_patch_13 (lv_at hl 4 rfl) ?_
    refine lv_bipush (v := 9) C.1 C.2.1 dX0_patch_15 (by decide) ?_
    refine k_icmp_le (tgt := 30) C dX0_patch_17 (by decide) h (fun c17 h => ?_) (fun c17 h => ?_)
    · refine lv_iload_n C.1 C.2.1 dX0_patch_30 rfl (lv_at hl 1 rfl) ?_
      refine lv_iload_n C.1 C.2.1 dX0_patch_31 rfl (lv_at hl 2 rfl) ?_
      refine lv_iload_n C.1 C.2.1 dX0_patch_32 rfl (lv_at hl 3 rfl) ?_
      refine k_prS C [.int v1, .int v2, .int v3] h (fun v e => tX0_stepAt e) (cb_X0_99 C.2.2.2.2 ⟨Nat.le_of_ble_eq_true rfl, Nat.le_of_ble_eq_true rfl⟩) rfl hl.1 (Nat.le_of_ble_eq_true rfl) ⟨Nat.le_of_ble_eq_true rfl, Nat.le_of_ble_eq_true rfl⟩ dX0_patch_33 rfl (fun x33 e33 h => ?_)
      refine lv_istore (lv' := [(5, .int x33), (0, .ref (a 0)), (1, .int v1), (2, .int v2), (3, .int v3), (4, .int v4)]) C.1 C.2.1 dX0_patch_36 hl (by decide) rfl (fun ls hl => ?_)
      refine lv_aload_n C.1 C.2.1 dX0_patch_38 rfl (lv_at hl 1 rfl) ?_
      refine gX0_open C hK hP dX0_patch_39 ?_
      refine lv_iload C.1 C.2.1 dX0_patch_42 (lv_at hl 0 rfl) ?_
      refine lX0_open C hK hP h dX0_patch_44 (fun h => ?_)
      refine k_if_ne (tgt := 58) C dX0_patch_45 (by decide) h (fun c45 h => ?_) (fun c45 h => ?_)
      · refine lv_aload_n C.1 C.2.1 dX0_patch_58 rfl (lv_at hl 1 rfl) ?_
        refine gX0_open C hK hP dX0_patch_59 ?_
        refine lv_iload C.1 C.2.1 dX0_patch_62 (lv_at hl 0 rfl) ?_
        refine lv_aload_n C.1 C.2.1 dX0_patch_64 rfl (lv_at hl 1 rfl) ?_
        refine gX0_open C hK hP dX0_patch_65 ?_
        refine lv_iload C.1 C.2.1 dX0_patch_68 (lv_at hl 0 rfl) ?_
        refine lX0_open C hK hP h dX0_patch_70 (fun h => ?_)
        refine lv_iload C.1 C.2.1 dX0_patch_71 (lv_at hl 5 rfl) ?_
        refine lv_isub C.1 C.2.1 dX0_patch_73 ?_
        refine lv_iconst (v := 0) C.1 C.2.1 dX0_patch_74 (by decide) ?_
        refine k_mmax C hl.1 (C.2.2.2.2 _ qM_X0_105) (Nat.le_of_ble_eq_true rfl) (Nat.le_of_ble_eq_true rfl) (Nat.le_of_ble_eq_true rfl) (Nat.le_of_ble_eq_true rfl) dX0_patch_75 ?_
        refine sX0_open C hK hP hD hS h dX0_patch_78 (fun S78 H locs h hP hD hS => ?_)
        refine lv_aload_n C.1 C.2.1 dX0_patch_79 rfl (lv_at hl 1 rfl) ?_
        refine k_rwVv C (wX_ad _) hK hP hD hS hA [] (wX_rv hK hP) h (fun v S2 e => tX0_settle e) (cb_X0_54 C.2.2.2.2 ⟨Nat.le_of_ble_eq_true rfl, Nat.le_of_ble_eq_true rfl⟩) rfl hl.1 (Nat.le_of_ble_eq_true rfl) ⟨Nat.le_of_ble_eq_true rfl, Nat.le_of_ble_eq_true rfl⟩ dX0_patch_80 rfl (fun x80 S80 H locs e80 h hP hD hS => ?_)
        refine lv_aload_n C.1 C.2.1 dX0_patch_83 rfl (lv_at hl 1 rfl) ?_
        refine gX0_open C hK hP dX0_patch_84 ?_
        refine lv_iload C.1 C.2.1 dX0_patch_87 (lv_at hl 0 rfl) ?_
        refine lX0_open C hK hP h dX0_patch_89 (fun h => ?_)
        exact k_iretTW (w := wX cI cZ a) C hr hlk h hP hS dX0_patch_90
      · exact k_throw2 C hfl hE hlk hout h (List.mem_of_getElem? (i := 5) rfl) hl.1 (Nat.le_of_ble_eq_true rfl) (Nat.le_of_ble_eq_true rfl) (Nat.le_of_ble_eq_true rfl) (Nat.le_of_ble_eq_true rfl) dX0_patch_48 dX0_patch_51 dX0_patch_52 dX0_patch_54 dX0_patch_57
    · exact k_throw3 C hfl hE hlk hout h (List.mem_of_getElem? (i := 4) rfl) hl.1 (Nat.le_of_ble_eq_true rfl) (Nat.le_of_ble_eq_true rfl) (Nat.le_of_ble_eq_true rfl) (Nat.le_of_ble_eq_true rfl) dX0_patch_20 dX0_patch_23 dX0_patch_24 dX0_patch_26 dX0_patch_29
set_option maxHeartbeats 4000000 in
set_option maxRecDepth 100000 in
theorem tX0_withdraw {l : Launch} {D : va_G} {cI cZ : ClassId} {a : Nat → Nat} {S : XS} {sz : Nat} {v1 : Int32} {v2 : Int32} {v3 : Int32} {z : ((Int32 × XS) ⊕ Nat)} (hfl : l.stackTraces = false) (h : mX_withdraw S v1 v2 v3 = some z) : tx_Met l yX0_withdraw (Cond.code yX0_withdraw cX0_withdraw 5 (some .boolean) :: WW) ({ frames := 9, cells := 1, slots := 6, locals := 156 }) (va_Pc [.ref (a 0), .int v1, .int v2, .int v3] (fun U => rwP D (wX cI cZ a S) (tyIZ cI cZ) sz U ∧ excU U)) (tqiW D (wX cI cZ a) (va_A (wX cI cZ a S) sz) z) (txX z) 1 6 (va_A (wX cI cZ a S) sz) := by
  refine TXW_of (own := RX0) (QF := fun A => tqiW D (wX cI cZ a) A z) (by decide) rfl (Nat.le_of_ble_eq_true rfl) ?_
  intro p e s m args below meth c A ha C hr hlk hout hP hK hD hA hE ls hl
  have hS : va_S A s.heap s.heap [] := va_S.rf
  have hl : lv_has ls 5 [(0, .ref (a 0)), (1, .int v1), (2, .int v2), (3, .int v3)] := hl
  unfold mX_withdraw at h
  refine lv_aload_n C.1 C.2.1 dX0_withdraw_0 rfl (lv_at hl 0 rfl) ?_
  refine lv_iload_n C.1 C.2.1 dX0_withdraw_1 rfl (lv_at hl 1 rfl) ?_
  refine lv_iload_n C.1 C.2.1 dX0_withdraw_2 rfl (lv_at hl 2 rfl) ?_
  refine lv_iload_n C.1 C.2.1 dX0_withdraw_3 rfl (lv_at hl 3 rfl) ?_
  refine k_txV C hE hlk hout hK hP (wX_rv hK hP) [.int v1, .int v2, .int v3] h (fun o e => tX0_requireStep hfl e) (cb_X0_90 C.2.2.2.2 ⟨Nat.le_of_ble_eq_true rfl, Nat.le_of_ble_eq_true rfl⟩) rfl hl.1 (Nat.le_of_ble_eq_true rfl) ⟨Nat.le_of_ble_eq_true rfl, Nat.le_of_ble_eq_true rfl⟩ dX0_withdraw_4 rfl (fun x4 e4 h => ?_)
  refine lv_iload_n C.1 C.2.1 dX0_withdraw_7 rfl (lv_at hl 1 rfl) ?_
  refine lv_iload_n C.1 C.2.1 dX0_withdraw_8 rfl (lv_at hl 2 rfl) ?_
  refine lv_iload_n C.1 C.2.1 dX0_withdraw_9 rfl (lv_at hl 3 rfl) ?_
  refine k_prS C [.int v1, .int v2, .int v3] h (fun v e => tX0_stepAt e) (cb_X0_99 C.2.2.2.2 ⟨Nat.le_of_ble_eq_true rfl, Nat.le_of_ble_eq_true rfl⟩) rfl hl.1 (Nat.le_of_ble_eq_true rfl) ⟨Nat.le_of_ble_eq_true rfl, Nat.le_of_ble_eq_true rfl⟩ dX0_withdraw_10 rfl (fun x10 e10 h => ?_)
  refine lv_istore (lv' := [(4, .int x10), (0, .ref (a 0)), (1, .int v1), (2, .int v2), (3, .int v3)]) C.1 C.2.1 dX0_withdraw_13 hl (by decide) rfl (fun ls hl => ?_)
  refine lv_aload_n C.1 C.2.1 dX0_withdraw_15 rfl (lv_at hl 1 rfl) ?_
  refine gX0_withdrawn C hK hP dX0_withdraw_16 ?_
  refine lv_iload C.1 C.2.1 dX0_withdraw_19 (lv_at hl 0 rfl) ?_
  refine lv_aload_n C.1 C.2.1 dX0_withdraw_21 rfl (lv_at hl 1 rfl) ?_
  refine gX0_withdrawn C hK hP dX0_withdraw_22 ?_
  refine lv_iload C.1 C.2.1 dX0_withdraw_25 (lv_at hl 0 rfl) ?_
  refine lX0_withdrawn C hK hP h dX0_withdraw_27 (fun h => ?_)
  refine k_if_ne (tgt := 35) C dX0_withdraw_28 (by decide) h (fun c28 h => ?_) (fun c28 h => ?_)
  · refine lv_iconst (v := 0) C.1 C.2.1 dX0_withdraw_35 (by decide) ?_
    refine sX0_withdrawn C hK hP hD hS h dX0_withdraw_36 (fun S36 H locs h hP hD hS => ?_)
    refine lv_aload_n C.1 C.2.1 dX0_withdraw_37 rfl (lv_at hl 1 rfl) ?_
    refine k_rwVv C (wX_ad _) hK hP hD hS hA [] (wX_rv hK hP) h (fun v S2 e => tX0_settle e) (cb_X0_54 C.2.2.2.2 ⟨Nat.le_of_ble_eq_true rfl, Nat.le_of_ble_eq_true rfl⟩) rfl hl.1 (Nat.le_of_ble_eq_true rfl) ⟨Nat.le_of_ble_eq_true rfl, Nat.le_of_ble_eq_true rfl⟩ dX0_withdraw_38 rfl (fun x38 S38 H locs e38 h hP hD hS => ?_)
    refine lv_aload_n C.1 C.2.1 dX0_withdraw_41 rfl (lv_at hl 1 rfl) ?_
    refine gX0_withdrawn C hK hP dX0_withdraw_42 ?_
    refine lv_iload C.1 C.2.1 dX0_withdraw_45 (lv_at hl 0 rfl) ?_
    refine lX0_withdrawn C hK hP h dX0_withdraw_47 (fun h => ?_)
    exact k_zretTW (w := wX cI cZ a) C hr hlk h hP hS dX0_withdraw_48
  · refine lv_iconst (v := 1) C.1 C.2.1 dX0_withdraw_31 (by decide) ?_
    refine lv_goto (tgt := 36) C.1 C.2.1 dX0_withdraw_32 (by decide) ?_
    refine sX0_withdrawn C hK hP hD hS h dX0_withdraw_36 (fun S36 H locs h hP hD hS => ?_)
    refine lv_aload_n C.1 C.2.1 dX0_withdraw_37 rfl (lv_at hl 1 rfl) ?_
    refine k_rwVv C (wX_ad _) hK hP hD hS hA [] (wX_rv hK hP) h (fun v S2 e => tX0_settle e) (cb_X0_54 C.2.2.2.2 ⟨Nat.le_of_ble_eq_true rfl, Nat.le_of_ble_eq_true rfl⟩) rfl hl.1 (Nat.le_of_ble_eq_true rfl) ⟨Nat.le_of_ble_eq_true rfl, Nat.le_of_ble_eq_true rfl⟩ dX0_withdraw_38 rfl (fun x38 S38 H locs e38 h hP hD hS => ?_)
    refine lv_aload_n C.1 C.2.1 dX0_withdraw_41 rfl (lv_at hl 1 rfl) ?_
    refine gX0_withdrawn C hK hP dX0_withdraw_42 ?_
    refine lv_iload C.1 C.2.1 dX0_withdraw_45 (lv_at hl 0 rfl) ?_
    refine lX0_withdrawn C hK hP h dX0_withdraw_47 (fun h => ?_)
    exact k_zretTW (w := wX cI cZ a) C hr hlk h hP hS dX0_withdraw_48
set_option maxHeartbeats 4000000 in
set_option maxRecDepth 100000 in
theorem tX0_requireAsk {l : Launch} {v0 : Int32} {v1 : Int32} {z : (Int32 ⊕ Nat)} (hfl : l.stackTraces = false) (h : mX_requireAsk v0 v1 = some z) : tx_Met l yX0_requireAsk (Cond.code yX0_requireAsk cX0_requireAsk 2 none :: WW) ({ frames := 6, cells := 1, slots := 6, locals := 90 }) (va_Pc [.int v0, .int v1] excU) (tqv z) (txX z) 1 6 (fun _ => False) := by
  refine TX_of (own := RX0) (by decide) rfl (Nat.le_of_ble_eq_true rfl) ?_
  intro p e s m args below meth c ha C hr hlk hout hE ls hl
  have hl : lv_has ls 2 [(0, .int v0), (1, .int v1)] := hl
  unfold mX_requireAsk at h
  refine lv_iload_n C.1 C.2.1 dX0_requireAsk_0 rfl (lv_at hl 0 rfl) ?_
  refine k_if_lt (tgt := 9) C dX0_requireAsk_1 (by decide) h (fun c1 h => ?_) (fun c1 h => ?_)
  · exact k_throw1 C hfl hE hlk hout h (List.mem_of_getElem? (i := 6) rfl) hl.1 (Nat.le_of_ble_eq_true rfl) (Nat.le_of_ble_eq_true rfl) (Nat.le_of_ble_eq_true rfl) (Nat.le_of_ble_eq_true rfl) dX0_requireAsk_9 dX0_requireAsk_12 dX0_requireAsk_13 dX0_requireAsk_15 dX0_requireAsk_18
  · refine lv_iload_n C.1 C.2.1 dX0_requireAsk_4 rfl (lv_at hl 0 rfl) ?_
    refine lv_iload_n C.1 C.2.1 dX0_requireAsk_5 rfl (lv_at hl 1 rfl) ?_
    refine k_icmp_lt (tgt := 19) C dX0_requireAsk_6 (by decide) h (fun c6 h => ?_) (fun c6 h => ?_)
    · exact k_vretT C hr hlk (v := 0) h dX0_requireAsk_19
    · exact k_throw1 C hfl hE hlk hout h (List.mem_of_getElem? (i := 6) rfl) hl.1 (Nat.le_of_ble_eq_true rfl) (Nat.le_of_ble_eq_true rfl) (Nat.le_of_ble_eq_true rfl) (Nat.le_of_ble_eq_true rfl) dX0_requireAsk_9 dX0_requireAsk_12 dX0_requireAsk_13 dX0_requireAsk_15 dX0_requireAsk_18
set_option maxHeartbeats 4000000 in
set_option maxRecDepth 100000 in
theorem tX0_stepsOf {l : Launch} {D : va_G} {cI cZ : ClassId} {a : Nat → Nat} {S : XS} {v1 : Int32} {z : Int32} (h : mX_stepsOf S v1 = some z) : Met l yX0_stepsOf (Cond.code yX0_stepsOf cX0_stepsOf 4 (some .int) :: WW) ({ frames := 1, cells := 0, slots := 0, locals := 21 }) (va_Pc [.ref (a 0), .int v1] (roP D (wX cI cZ a S) (tyIZ cI cZ))) (vp_Si (fun r => r = z)) 0 0 (fun _ => False) := by
  refine RO_of (own := RX0) (by decide) rfl (Nat.le_of_ble_eq_true rfl) ?_
  intro p e s m args below meth c ha C hr hlk hP hK ls hl
  have hl : lv_has ls 4 [(0, .ref (a 0)), (1, .int v1)] := hl
  have L4 : ∀ (v1 : Int32) (n : Nat) (v2 : Int32) (v3 : Int32), itr2 (mX_stepsOf_F4 S v1) n v2 v3 = some z → ∀ ls : Array Slot, lv_has ls 4 [(0, .ref (a 0)), (1, .int v1), (2, .int v2), (3, .int v3)] → W p l e { frames := 1, cells := 0, slots := 0, locals := 21 } s m args below meth c s.heap [] 0 0 (MQ below (vp_Si (fun r => r = z)) args s 0 0 (fun _ => False)) (F0 m 4 ls []) := by
    intro v1 n
    refine itr2_ind (fun (v2 : Int32) (v3 : Int32) => ∀ ls : Array Slot, lv_has ls 4 [(0, .ref (a 0)), (1, .int v1), (2, .int v2), (3, .int v3)] → W p l e { frames := 1, cells := 0, slots := 0, locals := 21 } s m args below meth c s.heap [] 0 0 (MQ below (vp_Si (fun r => r = z)) args s 0 0 (fun _ => False)) (F0 m 4 ls [])) ?_ n
    intro ih hih v2 v3 h ls hl
    unfold mX_stepsOf_F4 at h
    refine lv_iload_n C.1 C.2.1 dX0_stepsOf_4 rfl (lv_at hl 3 rfl) ?_
    refine lv_aload_n C.1 C.2.1 dX0_stepsOf_5 rfl (lv_at hl 0 rfl) ?_
    refine gX0_proofs C hK hP dX0_stepsOf_6 ?_
    refine lv_iload_n C.1 C.2.1 dX0_stepsOf_9 rfl (lv_at hl 1 rfl) ?_
    refine lX0_proofs C hK hP h dX0_stepsOf_10 (fun h => ?_)
    refine k_icmp_ge (tgt := 33) C dX0_stepsOf_11 (by decide) h (fun c11 h => ?_) (fun c11 h => ?_)
    · refine lv_iload_n C.1 C.2.1 dX0_stepsOf_33 rfl (lv_at hl 2 rfl) ?_
      exact k_iret C hr hlk h dX0_stepsOf_34
    · refine lv_iload_n C.1 C.2.1 dX0_stepsOf_14 rfl (lv_at hl 2 rfl) ?_
      refine lv_aload_n C.1 C.2.1 dX0_stepsOf_15 rfl (lv_at hl 0 rfl) ?_
      refine gX0_steps C hK hP dX0_stepsOf_16 ?_
      refine lv_iload_n C.1 C.2.1 dX0_stepsOf_19 rfl (lv_at hl 1 rfl) ?_
      refine lv_iload_n C.1 C.2.1 dX0_stepsOf_20 rfl (lv_at hl 3 rfl) ?_
      refine k_prS C [.int v1, .int v3] h (fun v e => tX0_slotOf e) (cb_X0_73 C.2.2.2.2 ⟨Nat.le_of_ble_eq_true rfl, Nat.le_of_ble_eq_true rfl⟩) rfl hl.1 (Nat.le_of_ble_eq_true rfl) ⟨Nat.le_of_ble_eq_true rfl, Nat.le_of_ble_eq_true rfl⟩ dX0_stepsOf_21 rfl (fun x21 e21 h => ?_)
      refine lX0_steps C hK hP h dX0_stepsOf_24 (fun h => ?_)
      refine lv_iadd C.1 C.2.1 dX0_stepsOf_25 ?_
      refine lv_istore_n (lv' := [(2, .int (v2 + (S 3 (x21 : Int32).toNatClampNeg))), (0, .ref (a 0)), (1, .int v1), (3, .int v3)]) C.1 C.2.1 dX0_stepsOf_26 rfl hl (by decide) rfl (fun ls hl => ?_)
      refine lv_iinc (v := (v3 + 1)) (lv' := [(3, .int (v3 + 1)), (2, .int (v2 + (S 3 (x21 : Int32).toNatClampNeg))), (0, .ref (a 0)), (1, .int v1)]) C.1 C.2.1 dX0_stepsOf_27 hl (k := 3) rfl rfl (by decide) rfl (fun ls hl => ?_)
      refine lv_goto (tgt := 4) C.1 C.2.1 dX0_stepsOf_30 (by decide) ?_
      exact hih (v2 + (S 3 (x21 : Int32).toNatClampNeg)) (v3 + 1) h ls (lv_sub hl [2, 3, 1, 0] rfl)
  unfold mX_stepsOf at h
  refine lv_iconst (v := 0) C.1 C.2.1 dX0_stepsOf_0 (by decide) ?_
  refine lv_istore_n (lv' := [(2, .int 0), (0, .ref (a 0)), (1, .int v1)]) C.1 C.2.1 dX0_stepsOf_1 rfl hl (by decide) rfl (fun ls hl => ?_)
  refine lv_iconst (v := 0) C.1 C.2.1 dX0_stepsOf_2 (by decide) ?_
  refine lv_istore_n (lv' := [(3, .int 0), (2, .int 0), (0, .ref (a 0)), (1, .int v1)]) C.1 C.2.1 dX0_stepsOf_3 rfl hl (by decide) rfl (fun ls hl => ?_)
  exact L4 v1 _ 0 0 h ls (lv_sub hl [2, 3, 1, 0] rfl)
set_option maxHeartbeats 4000000 in
set_option maxRecDepth 100000 in
theorem tX0_orNone {l : Launch} {v0 : Int32} {z : Int32} (h : mX_orNone v0 = some z) : Met l yX0_orNone (Cond.code yX0_orNone cX0_orNone 1 (some .int) :: WW) ({ frames := 0, cells := 0, slots := 0, locals := 0 }) (va_Pc [.int v0] (fun _ => True)) (vp_Si (fun r => r = z)) 0 0 (fun _ => False) := by
  refine RS_of (own := RX0) (by decide) rfl (Nat.le_of_ble_eq_true rfl) ?_
  intro p e s m args below meth c ha C hr hlk ls hl
  have hl : lv_has ls 1 [(0, .int v0)] := hl
  unfold mX_orNone at h
  refine lv_iload_n C.1 C.2.1 dX0_orNone_0 rfl (lv_at hl 0 rfl) ?_
  refine lv_sipush (v := 9999) C.1 C.2.1 dX0_orNone_1 (by decide) ?_
  refine k_icmp_lt (tgt := 11) C dX0_orNone_4 (by decide) h (fun c4 h => ?_) (fun c4 h => ?_)
  · refine lv_iload_n C.1 C.2.1 dX0_orNone_11 rfl (lv_at hl 0 rfl) ?_
    exact k_iret C hr hlk h dX0_orNone_12
  · refine lv_iconst (v := (-1)) C.1 C.2.1 dX0_orNone_7 (by decide) ?_
    refine lv_goto (tgt := 12) C.1 C.2.1 dX0_orNone_8 (by decide) ?_
    exact k_iret C hr hlk h dX0_orNone_12
set_option maxHeartbeats 4000000 in
set_option maxRecDepth 100000 in
theorem tX0_openOf {l : Launch} {D : va_G} {cI cZ : ClassId} {a : Nat → Nat} {S : XS} {v1 : Int32} {z : Int32} (h : mX_openOf S v1 = some z) : Met l yX0_openOf (Cond.code yX0_openOf cX0_openOf 6 (some .int) :: WW) ({ frames := 1, cells := 0, slots := 0, locals := 21 }) (va_Pc [.ref (a 0), .int v1] (roP D (wX cI cZ a S) (tyIZ cI cZ))) (vp_Si (fun r => r = z)) 0 0 (fun _ => False) := by
  refine RO_of (own := RX0) (by decide) rfl (Nat.le_of_ble_eq_true rfl) ?_
  intro p e s m args below meth c ha C hr hlk hP hK ls hl
  have hl : lv_has ls 6 [(0, .ref (a 0)), (1, .int v1)] := hl
  have L28 : ∀ (v1 : Int32) (v3 : Int32) (v4 : Int32) (k : Int32 → Int32 → Option Int32) (hk : ∀ (v2 : Int32) (v3 : Int32), k v2 v3 = some z → ∀ ls : Array Slot, lv_has ls 6 [(0, .ref (a 0)), (1, .int v1), (2, .int v2), (3, .int v3)] → W p l e { frames := 1, cells := 0, slots := 0, locals := 21 } s m args below meth c s.heap [] 0 0 (MQ below (vp_Si (fun r => r = z)) args s 0 0 (fun _ => False)) (F0 m 4 ls [])) (n : Nat) (v2 : Int32) (v5 : Int32), itr2 (mX_openOf_F28 S k v1 v3 v4) n v2 v5 = some z → ∀ ls : Array Slot, lv_has ls 6 [(0, .ref (a 0)), (1, .int v1), (2, .int v2), (3, .int v3), (4, .int v4), (5, .int v5)] → W p l e { frames := 1, cells := 0, slots := 0, locals := 21 } s m args below meth c s.heap [] 0 0 (MQ below (vp_Si (fun r => r = z)) args s 0 0 (fun _ => False)) (F0 m 28 ls []) := by
    intro v1 v3 v4 k hk n
    refine itr2_ind (fun (v2 : Int32) (v5 : Int32) => ∀ ls : Array Slot, lv_has ls 6 [(0, .ref (a 0)), (1, .int v1), (2, .int v2), (3, .int v3), (4, .int v4), (5, .int v5)] → W p l e { frames := 1, cells := 0, slots := 0, locals := 21 } s m args below meth c s.heap [] 0 0 (MQ below (vp_Si (fun r => r = z)) args s 0 0 (fun _ => False)) (F0 m 28 ls [])) ?_ n
    intro ih hih v2 v5 h ls hl
    unfold mX_openOf_F28 at h
    refine lv_iload C.1 C.2.1 dX0_openOf_28 (lv_at hl 5 rfl) ?_
    refine lv_aload_n C.1 C.2.1 dX0_openOf_30 rfl (lv_at hl 0 rfl) ?_
    refine lv_iload C.1 C.2.1 dX0_openOf_31 (lv_at hl 4 rfl) ?_
    refine k_roVi C hK hP [.int v4] (wX_rv hK hP) h (fun v e => tX0_endOfSteps e) (cb_X0_86 C.2.2.2.2 ⟨Nat.le_of_ble_eq_true rfl, Nat.le_of_ble_eq_true rfl⟩) rfl hl.1 (Nat.le_of_ble_eq_true rfl) ⟨Nat.le_of_ble_eq_true rfl, Nat.le_of_ble_eq_true rfl⟩ dX0_openOf_33 rfl (fun x33 e33 h => ?_)
    refine k_icmp_ge (tgt := 55) C dX0_openOf_36 (by decide) h (fun c36 h => ?_) (fun c36 h => ?_)
    · refine lv_iinc (v := (v3 + 1)) (lv' := [(3, .int (v3 + 1)), (0, .ref (a 0)), (1, .int v1), (2, .int v2), (4, .int v4), (5, .int v5)]) C.1 C.2.1 dX0_openOf_55 hl (k := 3) rfl rfl (by decide) rfl (fun ls hl => ?_)
      refine lv_goto (tgt := 4) C.1 C.2.1 dX0_openOf_58 (by decide) ?_
      exact hk v2 (v3 + 1) h ls (lv_sub hl [1, 2, 3, 0] rfl)
    · refine lv_iload_n C.1 C.2.1 dX0_openOf_39 rfl (lv_at hl 2 rfl) ?_
      refine lv_aload_n C.1 C.2.1 dX0_openOf_40 rfl (lv_at hl 0 rfl) ?_
      refine gX0_open C hK hP dX0_openOf_41 ?_
      refine lv_iload C.1 C.2.1 dX0_openOf_44 (lv_at hl 5 rfl) ?_
      refine lX0_open C hK hP h dX0_openOf_46 (fun h => ?_)
      refine lv_iadd C.1 C.2.1 dX0_openOf_47 ?_
      refine lv_istore_n (lv' := [(2, .int (v2 + (S 6 (v5 : Int32).toNatClampNeg))), (0, .ref (a 0)), (1, .int v1), (3, .int v3), (4, .int v4), (5, .int v5)]) C.1 C.2.1 dX0_openOf_48 rfl hl (by decide) rfl (fun ls hl => ?_)
      refine lv_iinc (v := (v5 + 1)) (lv' := [(5, .int (v5 + 1)), (2, .int (v2 + (S 6 (v5 : Int32).toNatClampNeg))), (0, .ref (a 0)), (1, .int v1), (3, .int v3), (4, .int v4)]) C.1 C.2.1 dX0_openOf_49 hl (k := 5) rfl rfl (by decide) rfl (fun ls hl => ?_)
      refine lv_goto (tgt := 28) C.1 C.2.1 dX0_openOf_52 (by decide) ?_
      exact hih (v2 + (S 6 (v5 : Int32).toNatClampNeg)) (v5 + 1) h ls (lv_sub hl [2, 3, 1, 4, 5, 0] rfl)
  have L4 : ∀ (v1 : Int32) (n : Nat) (v2 : Int32) (v3 : Int32), itr2 (mX_openOf_F4 S v1) n v2 v3 = some z → ∀ ls : Array Slot, lv_has ls 6 [(0, .ref (a 0)), (1, .int v1), (2, .int v2), (3, .int v3)] → W p l e { frames := 1, cells := 0, slots := 0, locals := 21 } s m args below meth c s.heap [] 0 0 (MQ below (vp_Si (fun r => r = z)) args s 0 0 (fun _ => False)) (F0 m 4 ls []) := by
    intro v1 n
    refine itr2_ind (fun (v2 : Int32) (v3 : Int32) => ∀ ls : Array Slot, lv_has ls 6 [(0, .ref (a 0)), (1, .int v1), (2, .int v2), (3, .int v3)] → W p l e { frames := 1, cells := 0, slots := 0, locals := 21 } s m args below meth c s.heap [] 0 0 (MQ below (vp_Si (fun r => r = z)) args s 0 0 (fun _ => False)) (F0 m 4 ls [])) ?_ n
    intro ih hih v2 v3 h ls hl
    unfold mX_openOf_F4 at h
    refine lv_iload_n C.1 C.2.1 dX0_openOf_4 rfl (lv_at hl 3 rfl) ?_
    refine lv_aload_n C.1 C.2.1 dX0_openOf_5 rfl (lv_at hl 0 rfl) ?_
    refine gX0_proofs C hK hP dX0_openOf_6 ?_
    refine lv_iload_n C.1 C.2.1 dX0_openOf_9 rfl (lv_at hl 1 rfl) ?_
    refine lX0_proofs C hK hP h dX0_openOf_10 (fun h => ?_)
    refine k_icmp_ge (tgt := 61) C dX0_openOf_11 (by decide) h (fun c11 h => ?_) (fun c11 h => ?_)
    · refine lv_iload_n C.1 C.2.1 dX0_openOf_61 rfl (lv_at hl 2 rfl) ?_
      exact k_iret C hr hlk h dX0_openOf_62
    · refine lv_iload_n C.1 C.2.1 dX0_openOf_14 rfl (lv_at hl 1 rfl) ?_
      refine lv_iload_n C.1 C.2.1 dX0_openOf_15 rfl (lv_at hl 3 rfl) ?_
      refine k_prS C [.int v1, .int v3] h (fun v e => tX0_slotOf e) (cb_X0_73 C.2.2.2.2 ⟨Nat.le_of_ble_eq_true rfl, Nat.le_of_ble_eq_true rfl⟩) rfl hl.1 (Nat.le_of_ble_eq_true rfl) ⟨Nat.le_of_ble_eq_true rfl, Nat.le_of_ble_eq_true rfl⟩ dX0_openOf_16 rfl (fun x16 e16 h => ?_)
      refine lv_istore (lv' := [(4, .int x16), (0, .ref (a 0)), (1, .int v1), (2, .int v2), (3, .int v3)]) C.1 C.2.1 dX0_openOf_19 hl (by decide) rfl (fun ls hl => ?_)
      refine lv_iload C.1 C.2.1 dX0_openOf_21 (lv_at hl 0 rfl) ?_
      refine k_prS C [.int x16] h (fun v e => tX0_firstStepOf e) (cb_X0_181 C.2.2.2.2 ⟨Nat.le_of_ble_eq_true rfl, Nat.le_of_ble_eq_true rfl⟩) rfl hl.1 (Nat.le_of_ble_eq_true rfl) ⟨Nat.le_of_ble_eq_true rfl, Nat.le_of_ble_eq_true rfl⟩ dX0_openOf_23 rfl (fun x23 e23 h => ?_)
      refine lv_istore (lv' := [(5, .int x23), (4, .int x16), (0, .ref (a 0)), (1, .int v1), (2, .int v2), (3, .int v3)]) C.1 C.2.1 dX0_openOf_26 hl (by decide) rfl (fun ls hl => ?_)
      exact L28 v1 v3 x16 ih hih _ v2 x23 h ls (lv_sub hl [2, 3, 4, 5, 1, 0] rfl)
  unfold mX_openOf at h
  refine lv_iconst (v := 0) C.1 C.2.1 dX0_openOf_0 (by decide) ?_
  refine lv_istore_n (lv' := [(2, .int 0), (0, .ref (a 0)), (1, .int v1)]) C.1 C.2.1 dX0_openOf_1 rfl hl (by decide) rfl (fun ls hl => ?_)
  refine lv_iconst (v := 0) C.1 C.2.1 dX0_openOf_2 (by decide) ?_
  refine lv_istore_n (lv' := [(3, .int 0), (2, .int 0), (0, .ref (a 0)), (1, .int v1)]) C.1 C.2.1 dX0_openOf_3 rfl hl (by decide) rfl (fun ls hl => ?_)
  exact L4 v1 _ 0 0 h ls (lv_sub hl [2, 3, 1, 0] rfl)
set_option maxHeartbeats 4000000 in
set_option maxRecDepth 100000 in
theorem tX0_lemmaTells {l : Launch} {D : va_G} {cI cZ : ClassId} {a : Nat → Nat} {S : XS} {v1 : Int32} {v2 : Int32} {z : Int32} (h : mX_lemmaTells S v1 v2 = some z) : Met l yX0_lemmaTells (Cond.code yX0_lemmaTells cX0_lemmaTells 3 (some .int) :: WW) ({ frames := 2, cells := 0, slots := 0, locals := 46 }) (va_Pc [.ref (a 0), .int v1, .int v2] (roP D (wX cI cZ a S) (tyIZ cI cZ))) (vp_Si (fun r => r = z)) 0 0 (fun _ => False) := by
  refine RO_of (own := RX0) (by decide) rfl (Nat.le_of_ble_eq_true rfl) ?_
  intro p e s m args below meth c ha C hr hlk hP hK ls hl
  have hl : lv_has ls 3 [(0, .ref (a 0)), (1, .int v1), (2, .int v2)] := hl
  unfold mX_lemmaTells at h
  refine lv_iload_n C.1 C.2.1 dX0_lemmaTells_0 rfl (lv_at hl 2 rfl) ?_
  by_cases c1_0 : (v2 : Int32) = 0
  · have h := it_h h c1_0
    refine lv_tableIn (off := 39) (tgt := 40) C.1 C.2.1 dX0_lemmaTells_1 (by rw [c1_0]; decide) (by rw [c1_0]; decide) (by rw [c1_0]; rfl) (by decide) ?_
    refine lv_aload_n C.1 C.2.1 dX0_lemmaTells_40 rfl (lv_at hl 0 rfl) ?_
    refine gX0_proofs C hK hP dX0_lemmaTells_41 ?_
    refine lv_iload_n C.1 C.2.1 dX0_lemmaTells_44 rfl (lv_at hl 1 rfl) ?_
    refine lX0_proofs C hK hP h dX0_lemmaTells_45 (fun h => ?_)
    exact k_iret C hr hlk h dX0_lemmaTells_46
  · have h := if_h h c1_0
    by_cases c1_1 : (v2 : Int32) = 1
    · have h := it_h h c1_1
      refine lv_tableIn (off := 46) (tgt := 47) C.1 C.2.1 dX0_lemmaTells_1 (by rw [c1_1]; decide) (by rw [c1_1]; decide) (by rw [c1_1]; rfl) (by decide) ?_
      refine lv_aload_n C.1 C.2.1 dX0_lemmaTells_47 rfl (lv_at hl 0 rfl) ?_
      refine lv_iload_n C.1 C.2.1 dX0_lemmaTells_48 rfl (lv_at hl 1 rfl) ?_
      refine k_roVi C hK hP [.int v1] (wX_rv hK hP) h (fun v e => tX0_stepsOf e) (cb_X0_226 C.2.2.2.2 ⟨Nat.le_of_ble_eq_true rfl, Nat.le_of_ble_eq_true rfl⟩) rfl hl.1 (Nat.le_of_ble_eq_true rfl) ⟨Nat.le_of_ble_eq_true rfl, Nat.le_of_ble_eq_true rfl⟩ dX0_lemmaTells_49 rfl (fun x49 e49 h => ?_)
      exact k_iret C hr hlk h dX0_lemmaTells_52
    · have h := if_h h c1_1
      by_cases c1_2 : (v2 : Int32) = 2
      · have h := it_h h c1_2
        refine lv_tableIn (off := 52) (tgt := 53) C.1 C.2.1 dX0_lemmaTells_1 (by rw [c1_2]; decide) (by rw [c1_2]; decide) (by rw [c1_2]; rfl) (by decide) ?_
        refine lv_aload_n C.1 C.2.1 dX0_lemmaTells_53 rfl (lv_at hl 0 rfl) ?_
        refine gX0_stages C hK hP dX0_lemmaTells_54 ?_
        refine lv_iload_n C.1 C.2.1 dX0_lemmaTells_57 rfl (lv_at hl 1 rfl) ?_
        refine lX0_stages C hK hP h dX0_lemmaTells_58 (fun h => ?_)
        exact k_iret C hr hlk h dX0_lemmaTells_59
      · have h := if_h h c1_2
        by_cases c1_3 : (v2 : Int32) = 3
        · have h := it_h h c1_3
          refine lv_tableIn (off := 59) (tgt := 60) C.1 C.2.1 dX0_lemmaTells_1 (by rw [c1_3]; decide) (by rw [c1_3]; decide) (by rw [c1_3]; rfl) (by decide) ?_
          refine lv_aload_n C.1 C.2.1 dX0_lemmaTells_60 rfl (lv_at hl 0 rfl) ?_
          refine gX0_lengths C hK hP dX0_lemmaTells_61 ?_
          refine lv_iload_n C.1 C.2.1 dX0_lemmaTells_64 rfl (lv_at hl 1 rfl) ?_
          refine lX0_lengths C hK hP h dX0_lemmaTells_65 (fun h => ?_)
          refine k_prS C [.int (S 9 (v1 : Int32).toNatClampNeg)] h (fun v e => tX0_orNone e) (cb_X0_130 C.2.2.2.2 ⟨Nat.le_of_ble_eq_true rfl, Nat.le_of_ble_eq_true rfl⟩) rfl hl.1 (Nat.le_of_ble_eq_true rfl) ⟨Nat.le_of_ble_eq_true rfl, Nat.le_of_ble_eq_true rfl⟩ dX0_lemmaTells_66 rfl (fun x66 e66 h => ?_)
          exact k_iret C hr hlk h dX0_lemmaTells_69
        · have h := if_h h c1_3
          by_cases c1_4 : (v2 : Int32) = 4
          · have h := it_h h c1_4
            refine lv_tableIn (off := 69) (tgt := 70) C.1 C.2.1 dX0_lemmaTells_1 (by rw [c1_4]; decide) (by rw [c1_4]; decide) (by rw [c1_4]; rfl) (by decide) ?_
            refine lv_aload_n C.1 C.2.1 dX0_lemmaTells_70 rfl (lv_at hl 0 rfl) ?_
            refine gX0_prices C hK hP dX0_lemmaTells_71 ?_
            refine lv_iload_n C.1 C.2.1 dX0_lemmaTells_74 rfl (lv_at hl 1 rfl) ?_
            refine lX0_prices C hK hP h dX0_lemmaTells_75 (fun h => ?_)
            refine k_prS C [.int (S 10 (v1 : Int32).toNatClampNeg)] h (fun v e => tX0_orNone e) (cb_X0_130 C.2.2.2.2 ⟨Nat.le_of_ble_eq_true rfl, Nat.le_of_ble_eq_true rfl⟩) rfl hl.1 (Nat.le_of_ble_eq_true rfl) ⟨Nat.le_of_ble_eq_true rfl, Nat.le_of_ble_eq_true rfl⟩ dX0_lemmaTells_76 rfl (fun x76 e76 h => ?_)
            exact k_iret C hr hlk h dX0_lemmaTells_79
          · have h := if_h h c1_4
            by_cases c1_5 : (v2 : Int32) = 5
            · have h := it_h h c1_5
              refine lv_tableIn (off := 79) (tgt := 80) C.1 C.2.1 dX0_lemmaTells_1 (by rw [c1_5]; decide) (by rw [c1_5]; decide) (by rw [c1_5]; rfl) (by decide) ?_
              refine lv_aload_n C.1 C.2.1 dX0_lemmaTells_80 rfl (lv_at hl 0 rfl) ?_
              refine lv_iload_n C.1 C.2.1 dX0_lemmaTells_81 rfl (lv_at hl 1 rfl) ?_
              refine k_roVi C hK hP [.int v1] (wX_rv hK hP) h (fun v e => tX0_openOf e) (cb_X0_229 C.2.2.2.2 ⟨Nat.le_of_ble_eq_true rfl, Nat.le_of_ble_eq_true rfl⟩) rfl hl.1 (Nat.le_of_ble_eq_true rfl) ⟨Nat.le_of_ble_eq_true rfl, Nat.le_of_ble_eq_true rfl⟩ dX0_lemmaTells_82 rfl (fun x82 e82 h => ?_)
              exact k_iret C hr hlk h dX0_lemmaTells_85
            · have h := if_h h c1_5
              have e1_0 := sw_ne (j := 0) c1_0 (by decide)
              have e1_1 := sw_ne (j := 1) c1_1 (by decide)
              have e1_2 := sw_ne (j := 2) c1_2 (by decide)
              have e1_3 := sw_ne (j := 3) c1_3 (by decide)
              have e1_4 := sw_ne (j := 4) c1_4 (by decide)
              have e1_5 := sw_ne (j := 5) c1_5 (by decide)
              refine lv_tableOut (tgt := 86) C.1 C.2.1 dX0_lemmaTells_1 (by omega) (by decide) ?_
              refine lv_aload_n C.1 C.2.1 dX0_lemmaTells_86 rfl (lv_at hl 0 rfl) ?_
              refine gX0_circles C hK hP dX0_lemmaTells_87 ?_
              refine lv_iload_n C.1 C.2.1 dX0_lemmaTells_90 rfl (lv_at hl 1 rfl) ?_
              refine lX0_circles C hK hP h dX0_lemmaTells_91 (fun h => ?_)
              exact k_iret C hr hlk h dX0_lemmaTells_92
set_option maxHeartbeats 4000000 in
set_option maxRecDepth 100000 in
theorem tX0_told {l : Launch} {D : va_G} {cI cZ : ClassId} {a : Nat → Nat} {S : XS} {v1 : Int32} {v2 : Int32} {z : (Int32 ⊕ Nat)} (hfl : l.stackTraces = false) (h : mX_told S v1 v2 = some z) : tx_Met l yX0_told (Cond.code yX0_told cX0_told 3 (some .int) :: WW) ({ frames := 7, cells := 1, slots := 6, locals := 111 }) (va_Pc [.ref (a 0), .int v1, .int v2] (fun U => roP D (wX cI cZ a S) (tyIZ cI cZ) U ∧ excU U)) (tqi z) (txX z) 1 6 (fun _ => False) := by
  refine TX_of (own := RX0) (by decide) rfl (Nat.le_of_ble_eq_true rfl) ?_
  intro p e s m args below meth c ha C hr hlk hout hpre ls hl
  obtain ⟨⟨hP, hK⟩, hE⟩ := hpre
  have hl : lv_has ls 3 [(0, .ref (a 0)), (1, .int v1), (2, .int v2)] := hl
  unfold mX_told at h
  refine lv_aload_n C.1 C.2.1 dX0_told_0 rfl (lv_at hl 0 rfl) ?_
  refine lv_iload_n C.1 C.2.1 dX0_told_1 rfl (lv_at hl 1 rfl) ?_
  refine k_txV C hE hlk hout hK hP (wX_rv hK hP) [.int v1] h (fun o e => tX0_requireLemma hfl e) (cb_X0_68 C.2.2.2.2 ⟨Nat.le_of_ble_eq_true rfl, Nat.le_of_ble_eq_true rfl⟩) rfl hl.1 (Nat.le_of_ble_eq_true rfl) ⟨Nat.le_of_ble_eq_true rfl, Nat.le_of_ble_eq_true rfl⟩ dX0_told_2 rfl (fun x2 e2 h => ?_)
  refine lv_iload_n C.1 C.2.1 dX0_told_5 rfl (lv_at hl 2 rfl) ?_
  refine lv_bipush (v := 7) C.1 C.2.1 dX0_told_6 (by decide) ?_
  refine k_txS C hE hlk hout [.int v2, .int 7] h (fun o e => tX0_requireAsk hfl e) (cb_X0_113 C.2.2.2.2 ⟨Nat.le_of_ble_eq_true rfl, Nat.le_of_ble_eq_true rfl⟩) rfl hl.1 (Nat.le_of_ble_eq_true rfl) ⟨Nat.le_of_ble_eq_true rfl, Nat.le_of_ble_eq_true rfl⟩ dX0_told_8 rfl (fun x8 e8 h => ?_)
  refine lv_aload_n C.1 C.2.1 dX0_told_11 rfl (lv_at hl 0 rfl) ?_
  refine lv_iload_n C.1 C.2.1 dX0_told_12 rfl (lv_at hl 1 rfl) ?_
  refine lv_iload_n C.1 C.2.1 dX0_told_13 rfl (lv_at hl 2 rfl) ?_
  refine k_roVi C hK hP [.int v1, .int v2] (wX_rv hK hP) h (fun v e => tX0_lemmaTells e) (cb_X0_116 C.2.2.2.2 ⟨Nat.le_of_ble_eq_true rfl, Nat.le_of_ble_eq_true rfl⟩) rfl hl.1 (Nat.le_of_ble_eq_true rfl) ⟨Nat.le_of_ble_eq_true rfl, Nat.le_of_ble_eq_true rfl⟩ dX0_told_14 rfl (fun x14 e14 h => ?_)
  exact k_iretT C hr hlk h dX0_told_17
set_option maxHeartbeats 4000000 in
set_option maxRecDepth 100000 in
theorem tX0_stepTells {l : Launch} {D : va_G} {cI cZ : ClassId} {a : Nat → Nat} {S : XS} {v1 : Int32} {v2 : Int32} {z : Int32} (h : mX_stepTells S v1 v2 = some z) : Met l yX0_stepTells (Cond.code yX0_stepTells cX0_stepTells 3 (some .int) :: WW) ({ frames := 0, cells := 0, slots := 0, locals := 0 }) (va_Pc [.ref (a 0), .int v1, .int v2] (roP D (wX cI cZ a S) (tyIZ cI cZ))) (vp_Si (fun r => r = z)) 0 0 (fun _ => False) := by
  refine RO_of (own := RX0) (by decide) rfl (Nat.le_of_ble_eq_true rfl) ?_
  intro p e s m args below meth c ha C hr hlk hP hK ls hl
  have hl : lv_has ls 3 [(0, .ref (a 0)), (1, .int v1), (2, .int v2)] := hl
  unfold mX_stepTells at h
  refine lv_iload_n C.1 C.2.1 dX0_stepTells_0 rfl (lv_at hl 2 rfl) ?_
  by_cases c1_0 : (v2 : Int32) = 0
  · have h := it_h h c1_0
    refine lv_tableIn (off := 27) (tgt := 28) C.1 C.2.1 dX0_stepTells_1 (by rw [c1_0]; decide) (by rw [c1_0]; decide) (by rw [c1_0]; rfl) (by decide) ?_
    refine lv_aload_n C.1 C.2.1 dX0_stepTells_28 rfl (lv_at hl 0 rfl) ?_
    refine gX0_kinds C hK hP dX0_stepTells_29 ?_
    refine lv_iload_n C.1 C.2.1 dX0_stepTells_32 rfl (lv_at hl 1 rfl) ?_
    refine lX0_kinds C hK hP h dX0_stepTells_33 (fun h => ?_)
    exact k_iret C hr hlk h dX0_stepTells_34
  · have h := if_h h c1_0
    by_cases c1_1 : (v2 : Int32) = 1
    · have h := it_h h c1_1
      refine lv_tableIn (off := 34) (tgt := 35) C.1 C.2.1 dX0_stepTells_1 (by rw [c1_1]; decide) (by rw [c1_1]; decide) (by rw [c1_1]; rfl) (by decide) ?_
      refine lv_aload_n C.1 C.2.1 dX0_stepTells_35 rfl (lv_at hl 0 rfl) ?_
      refine gX0_cited C hK hP dX0_stepTells_36 ?_
      refine lv_iload_n C.1 C.2.1 dX0_stepTells_39 rfl (lv_at hl 1 rfl) ?_
      refine lX0_cited C hK hP h dX0_stepTells_40 (fun h => ?_)
      exact k_iret C hr hlk h dX0_stepTells_41
    · have h := if_h h c1_1
      by_cases c1_2 : (v2 : Int32) = 2
      · have h := it_h h c1_2
        refine lv_tableIn (off := 41) (tgt := 42) C.1 C.2.1 dX0_stepTells_1 (by rw [c1_2]; decide) (by rw [c1_2]; decide) (by rw [c1_2]; rfl) (by decide) ?_
        refine lv_aload_n C.1 C.2.1 dX0_stepTells_42 rfl (lv_at hl 0 rfl) ?_
        refine gX0_open C hK hP dX0_stepTells_43 ?_
        refine lv_iload_n C.1 C.2.1 dX0_stepTells_46 rfl (lv_at hl 1 rfl) ?_
        refine lX0_open C hK hP h dX0_stepTells_47 (fun h => ?_)
        exact k_iret C hr hlk h dX0_stepTells_48
      · have h := if_h h c1_2
        have e1_0 := sw_ne (j := 0) c1_0 (by decide)
        have e1_1 := sw_ne (j := 1) c1_1 (by decide)
        have e1_2 := sw_ne (j := 2) c1_2 (by decide)
        refine lv_tableOut (tgt := 49) C.1 C.2.1 dX0_stepTells_1 (by omega) (by decide) ?_
        refine lv_aload_n C.1 C.2.1 dX0_stepTells_49 rfl (lv_at hl 0 rfl) ?_
        refine gX0_withdrawn C hK hP dX0_stepTells_50 ?_
        refine lv_iload_n C.1 C.2.1 dX0_stepTells_53 rfl (lv_at hl 1 rfl) ?_
        refine lX0_withdrawn C hK hP h dX0_stepTells_54 (fun h => ?_)
        refine k_if_eq (tgt := 62) C dX0_stepTells_55 (by decide) h (fun c55 h => ?_) (fun c55 h => ?_)
        · refine lv_iconst (v := 0) C.1 C.2.1 dX0_stepTells_62 (by decide) ?_
          exact k_iret C hr hlk h dX0_stepTells_63
        · refine lv_iconst (v := 1) C.1 C.2.1 dX0_stepTells_58 (by decide) ?_
          refine lv_goto (tgt := 63) C.1 C.2.1 dX0_stepTells_59 (by decide) ?_
          exact k_iret C hr hlk h dX0_stepTells_63
set_option maxHeartbeats 4000000 in
set_option maxRecDepth 100000 in
theorem tX0_step {l : Launch} {D : va_G} {cI cZ : ClassId} {a : Nat → Nat} {S : XS} {v1 : Int32} {v2 : Int32} {v3 : Int32} {v4 : Int32} {z : (Int32 ⊕ Nat)} (hfl : l.stackTraces = false) (h : mX_step S v1 v2 v3 v4 = some z) : tx_Met l yX0_step (Cond.code yX0_step cX0_step 5 (some .int) :: WW) ({ frames := 9, cells := 1, slots := 6, locals := 156 }) (va_Pc [.ref (a 0), .int v1, .int v2, .int v3, .int v4] (fun U => roP D (wX cI cZ a S) (tyIZ cI cZ) U ∧ excU U)) (tqi z) (txX z) 1 6 (fun _ => False) := by
  refine TX_of (own := RX0) (by decide) rfl (Nat.le_of_ble_eq_true rfl) ?_
  intro p e s m args below meth c ha C hr hlk hout hpre ls hl
  obtain ⟨⟨hP, hK⟩, hE⟩ := hpre
  have hl : lv_has ls 5 [(0, .ref (a 0)), (1, .int v1), (2, .int v2), (3, .int v3), (4, .int v4)] := hl
  unfold mX_step at h
  refine lv_aload_n C.1 C.2.1 dX0_step_0 rfl (lv_at hl 0 rfl) ?_
  refine lv_iload_n C.1 C.2.1 dX0_step_1 rfl (lv_at hl 1 rfl) ?_
  refine lv_iload_n C.1 C.2.1 dX0_step_2 rfl (lv_at hl 2 rfl) ?_
  refine lv_iload_n C.1 C.2.1 dX0_step_3 rfl (lv_at hl 3 rfl) ?_
  refine k_txV C hE hlk hout hK hP (wX_rv hK hP) [.int v1, .int v2, .int v3] h (fun o e => tX0_requireStep hfl e) (cb_X0_90 C.2.2.2.2 ⟨Nat.le_of_ble_eq_true rfl, Nat.le_of_ble_eq_true rfl⟩) rfl hl.1 (Nat.le_of_ble_eq_true rfl) ⟨Nat.le_of_ble_eq_true rfl, Nat.le_of_ble_eq_true rfl⟩ dX0_step_4 rfl (fun x4 e4 h => ?_)
  refine lv_iload C.1 C.2.1 dX0_step_7 (lv_at hl 4 rfl) ?_
  refine lv_iconst (v := 4) C.1 C.2.1 dX0_step_9 (by decide) ?_
  refine k_txS C hE hlk hout [.int v4, .int 4] h (fun o e => tX0_requireAsk hfl e) (cb_X0_113 C.2.2.2.2 ⟨Nat.le_of_ble_eq_true rfl, Nat.le_of_ble_eq_true rfl⟩) rfl hl.1 (Nat.le_of_ble_eq_true rfl) ⟨Nat.le_of_ble_eq_true rfl, Nat.le_of_ble_eq_true rfl⟩ dX0_step_10 rfl (fun x10 e10 h => ?_)
  refine lv_aload_n C.1 C.2.1 dX0_step_13 rfl (lv_at hl 0 rfl) ?_
  refine lv_iload_n C.1 C.2.1 dX0_step_14 rfl (lv_at hl 1 rfl) ?_
  refine lv_iload_n C.1 C.2.1 dX0_step_15 rfl (lv_at hl 2 rfl) ?_
  refine lv_iload_n C.1 C.2.1 dX0_step_16 rfl (lv_at hl 3 rfl) ?_
  refine k_prS C [.int v1, .int v2, .int v3] h (fun v e => tX0_stepAt e) (cb_X0_99 C.2.2.2.2 ⟨Nat.le_of_ble_eq_true rfl, Nat.le_of_ble_eq_true rfl⟩) rfl hl.1 (Nat.le_of_ble_eq_true rfl) ⟨Nat.le_of_ble_eq_true rfl, Nat.le_of_ble_eq_true rfl⟩ dX0_step_17 rfl (fun x17 e17 h => ?_)
  refine lv_iload C.1 C.2.1 dX0_step_20 (lv_at hl 4 rfl) ?_
  refine k_roVi C hK hP [.int x17, .int v4] (wX_rv hK hP) h (fun v e => tX0_stepTells e) (cb_X0_119 C.2.2.2.2 ⟨Nat.le_of_ble_eq_true rfl, Nat.le_of_ble_eq_true rfl⟩) rfl hl.1 (Nat.le_of_ble_eq_true rfl) ⟨Nat.le_of_ble_eq_true rfl, Nat.le_of_ble_eq_true rfl⟩ dX0_step_22 rfl (fun x22 e22 h => ?_)
  exact k_iretT C hr hlk h dX0_step_25
set_option maxHeartbeats 4000000 in
set_option maxRecDepth 100000 in
theorem tX0_about {l : Launch} {D : va_G} {cI cZ : ClassId} {a : Nat → Nat} {S : XS} {v1 : Int32} {v2 : Int32} {v3 : Int32} {z : (Int32 ⊕ Nat)} (hfl : l.stackTraces = false) (h : mX_about S v1 v2 v3 = some z) : tx_Met l yX0_about (Cond.code yX0_about cX0_about 5 (some .int) :: WW) ({ frames := 8, cells := 1, slots := 6, locals := 133 }) (va_Pc [.ref (a 0), .int v1, .int v2, .int v3] (fun U => roP D (wX cI cZ a S) (tyIZ cI cZ) U ∧ excU U)) (tqi z) (txX z) 1 6 (fun _ => False) := by
  refine TX_of (own := RX0) (by decide) rfl (Nat.le_of_ble_eq_true rfl) ?_
  intro p e s m args below meth c ha C hr hlk hout hpre ls hl
  obtain ⟨⟨hP, hK⟩, hE⟩ := hpre
  have hl : lv_has ls 5 [(0, .ref (a 0)), (1, .int v1), (2, .int v2), (3, .int v3)] := hl
  unfold mX_about at h
  refine lv_aload_n C.1 C.2.1 dX0_about_0 rfl (lv_at hl 0 rfl) ?_
  refine lv_iload_n C.1 C.2.1 dX0_about_1 rfl (lv_at hl 1 rfl) ?_
  refine lv_iload_n C.1 C.2.1 dX0_about_2 rfl (lv_at hl 2 rfl) ?_
  refine k_txV C hE hlk hout hK hP (wX_rv hK hP) [.int v1, .int v2] h (fun o e => tX0_requireProof hfl e) (cb_X0_77 C.2.2.2.2 ⟨Nat.le_of_ble_eq_true rfl, Nat.le_of_ble_eq_true rfl⟩) rfl hl.1 (Nat.le_of_ble_eq_true rfl) ⟨Nat.le_of_ble_eq_true rfl, Nat.le_of_ble_eq_true rfl⟩ dX0_about_3 rfl (fun x3 e3 h => ?_)
  refine lv_iload_n C.1 C.2.1 dX0_about_6 rfl (lv_at hl 3 rfl) ?_
  refine lv_iconst (v := 4) C.1 C.2.1 dX0_about_7 (by decide) ?_
  refine k_txS C hE hlk hout [.int v3, .int 4] h (fun o e => tX0_requireAsk hfl e) (cb_X0_113 C.2.2.2.2 ⟨Nat.le_of_ble_eq_true rfl, Nat.le_of_ble_eq_true rfl⟩) rfl hl.1 (Nat.le_of_ble_eq_true rfl) ⟨Nat.le_of_ble_eq_true rfl, Nat.le_of_ble_eq_true rfl⟩ dX0_about_8 rfl (fun x8 e8 h => ?_)
  refine lv_iload_n C.1 C.2.1 dX0_about_11 rfl (lv_at hl 1 rfl) ?_
  refine lv_iload_n C.1 C.2.1 dX0_about_12 rfl (lv_at hl 2 rfl) ?_
  refine k_prS C [.int v1, .int v2] h (fun v e => tX0_slotOf e) (cb_X0_73 C.2.2.2.2 ⟨Nat.le_of_ble_eq_true rfl, Nat.le_of_ble_eq_true rfl⟩) rfl hl.1 (Nat.le_of_ble_eq_true rfl) ⟨Nat.le_of_ble_eq_true rfl, Nat.le_of_ble_eq_true rfl⟩ dX0_about_13 rfl (fun x13 e13 h => ?_)
  refine lv_istore (lv' := [(4, .int x13), (0, .ref (a 0)), (1, .int v1), (2, .int v2), (3, .int v3)]) C.1 C.2.1 dX0_about_16 hl (by decide) rfl (fun ls hl => ?_)
  refine lv_iload_n C.1 C.2.1 dX0_about_18 rfl (lv_at hl 4 rfl) ?_
  by_cases c19_0 : (v3 : Int32) = 0
  · have h := it_h h c19_0
    refine lv_tableIn (off := 25) (tgt := 44) C.1 C.2.1 dX0_about_19 (by rw [c19_0]; decide) (by rw [c19_0]; decide) (by rw [c19_0]; rfl) (by decide) ?_
    refine lv_aload_n C.1 C.2.1 dX0_about_44 rfl (lv_at hl 1 rfl) ?_
    refine gX0_steps C hK hP dX0_about_45 ?_
    refine lv_iload C.1 C.2.1 dX0_about_48 (lv_at hl 0 rfl) ?_
    refine lX0_steps C hK hP h dX0_about_50 (fun h => ?_)
    exact k_iretT C hr hlk h dX0_about_51
  · have h := if_h h c19_0
    by_cases c19_1 : (v3 : Int32) = 1
    · have h := it_h h c19_1
      refine lv_tableIn (off := 33) (tgt := 52) C.1 C.2.1 dX0_about_19 (by rw [c19_1]; decide) (by rw [c19_1]; decide) (by rw [c19_1]; rfl) (by decide) ?_
      refine lv_aload_n C.1 C.2.1 dX0_about_52 rfl (lv_at hl 1 rfl) ?_
      refine lv_iload C.1 C.2.1 dX0_about_53 (lv_at hl 0 rfl) ?_
      refine lv_aload_n C.1 C.2.1 dX0_about_55 rfl (lv_at hl 1 rfl) ?_
      refine gX0_stages C hK hP dX0_about_56 ?_
      refine lv_bipush (v := 13) C.1 C.2.1 dX0_about_59 (by decide) ?_
      refine k_roVi C hK hP [.int x13, .ref (a 8), .int 13] (wX_rv hK hP) h (fun v e => tX0_holds ⟨by decide, by decide⟩ e) (cb_X0_122 C.2.2.2.2 ⟨Nat.le_of_ble_eq_true rfl, Nat.le_of_ble_eq_true rfl⟩) rfl hl.1 (Nat.le_of_ble_eq_true rfl) ⟨Nat.le_of_ble_eq_true rfl, Nat.le_of_ble_eq_true rfl⟩ dX0_about_61 rfl (fun x61 e61 h => ?_)
      refine k_if_eq (tgt := 71) C dX0_about_64 (by decide) h (fun c64 h => ?_) (fun c64 h => ?_)
      · refine lv_iconst (v := 0) C.1 C.2.1 dX0_about_71 (by decide) ?_
        exact k_iretT C hr hlk h dX0_about_72
      · refine lv_iconst (v := 1) C.1 C.2.1 dX0_about_67 (by decide) ?_
        refine lv_goto (tgt := 72) C.1 C.2.1 dX0_about_68 (by decide) ?_
        exact k_iretT C hr hlk h dX0_about_72
    · have h := if_h h c19_1
      by_cases c19_2 : (v3 : Int32) = 2
      · have h := it_h h c19_2
        refine lv_tableIn (off := 54) (tgt := 73) C.1 C.2.1 dX0_about_19 (by rw [c19_2]; decide) (by rw [c19_2]; decide) (by rw [c19_2]; rfl) (by decide) ?_
        refine lv_aload_n C.1 C.2.1 dX0_about_73 rfl (lv_at hl 1 rfl) ?_
        refine lv_iload C.1 C.2.1 dX0_about_74 (lv_at hl 0 rfl) ?_
        refine lv_aload_n C.1 C.2.1 dX0_about_76 rfl (lv_at hl 1 rfl) ?_
        refine gX0_lengths C hK hP dX0_about_77 ?_
        refine lv_iconst (v := 0) C.1 C.2.1 dX0_about_80 (by decide) ?_
        refine k_roVi C hK hP [.int x13, .ref (a 9), .int 0] (wX_rv hK hP) h (fun v e => tX0_costOfProof ⟨by decide, by decide⟩ e) (cb_X0_126 C.2.2.2.2 ⟨Nat.le_of_ble_eq_true rfl, Nat.le_of_ble_eq_true rfl⟩) rfl hl.1 (Nat.le_of_ble_eq_true rfl) ⟨Nat.le_of_ble_eq_true rfl, Nat.le_of_ble_eq_true rfl⟩ dX0_about_81 rfl (fun x81 e81 h => ?_)
        refine k_prS C [.int x81] h (fun v e => tX0_orNone e) (cb_X0_130 C.2.2.2.2 ⟨Nat.le_of_ble_eq_true rfl, Nat.le_of_ble_eq_true rfl⟩) rfl hl.1 (Nat.le_of_ble_eq_true rfl) ⟨Nat.le_of_ble_eq_true rfl, Nat.le_of_ble_eq_true rfl⟩ dX0_about_84 rfl (fun x84 e84 h => ?_)
        exact k_iretT C hr hlk h dX0_about_87
      · have h := if_h h c19_2
        have e19_0 := sw_ne (j := 0) c19_0 (by decide)
        have e19_1 := sw_ne (j := 1) c19_1 (by decide)
        have e19_2 := sw_ne (j := 2) c19_2 (by decide)
        refine lv_tableOut (tgt := 88) C.1 C.2.1 dX0_about_19 (by omega) (by decide) ?_
        refine lv_aload_n C.1 C.2.1 dX0_about_88 rfl (lv_at hl 1 rfl) ?_
        refine lv_iload C.1 C.2.1 dX0_about_89 (lv_at hl 0 rfl) ?_
        refine lv_aload_n C.1 C.2.1 dX0_about_91 rfl (lv_at hl 1 rfl) ?_
        refine gX0_prices C hK hP dX0_about_92 ?_
        refine lv_iconst (v := 1) C.1 C.2.1 dX0_about_95 (by decide) ?_
        refine k_roVi C hK hP [.int x13, .ref (a 10), .int 1] (wX_rv hK hP) h (fun v e => tX0_costOfProof ⟨by decide, by decide⟩ e) (cb_X0_126 C.2.2.2.2 ⟨Nat.le_of_ble_eq_true rfl, Nat.le_of_ble_eq_true rfl⟩) rfl hl.1 (Nat.le_of_ble_eq_true rfl) ⟨Nat.le_of_ble_eq_true rfl, Nat.le_of_ble_eq_true rfl⟩ dX0_about_96 rfl (fun x96 e96 h => ?_)
        refine k_prS C [.int x96] h (fun v e => tX0_orNone e) (cb_X0_130 C.2.2.2.2 ⟨Nat.le_of_ble_eq_true rfl, Nat.le_of_ble_eq_true rfl⟩) rfl hl.1 (Nat.le_of_ble_eq_true rfl) ⟨Nat.le_of_ble_eq_true rfl, Nat.le_of_ble_eq_true rfl⟩ dX0_about_99 rfl (fun x99 e99 h => ?_)
        exact k_iretT C hr hlk h dX0_about_102
set_option maxHeartbeats 4000000 in
set_option maxRecDepth 100000 in
theorem tX0_axiomsTaken {l : Launch} {D : va_G} {cI cZ : ClassId} {a : Nat → Nat} {S : XS} {z : Int32} (h : mX_axiomsTaken S = some z) : Met l yX0_axiomsTaken (Cond.code yX0_axiomsTaken cX0_axiomsTaken 3 (some .int) :: WW) ({ frames := 0, cells := 0, slots := 0, locals := 0 }) (va_Pc [.ref (a 0)] (roP D (wX cI cZ a S) (tyIZ cI cZ))) (vp_Si (fun r => r = z)) 0 0 (fun _ => False) := by
  refine RO_of (own := RX0) (by decide) rfl (Nat.le_of_ble_eq_true rfl) ?_
  intro p e s m args below meth c ha C hr hlk hP hK ls hl
  have hl : lv_has ls 3 [(0, .ref (a 0))] := hl
  have L4 : ∀  (n : Nat) (v1 : Int32) (v2 : Int32), itr2 (mX_axiomsTaken_F4 S) n v1 v2 = some z → ∀ ls : Array Slot, lv_has ls 3 [(0, .ref (a 0)), (1, .int v1), (2, .int v2)] → W p l e { frames := 0, cells := 0, slots := 0, locals := 0 } s m args below meth c s.heap [] 0 0 (MQ below (vp_Si (fun r => r = z)) args s 0 0 (fun _ => False)) (F0 m 4 ls []) := by
    intro n
    refine itr2_ind (fun (v1 : Int32) (v2 : Int32) => ∀ ls : Array Slot, lv_has ls 3 [(0, .ref (a 0)), (1, .int v1), (2, .int v2)] → W p l e { frames := 0, cells := 0, slots := 0, locals := 0 } s m args below meth c s.heap [] 0 0 (MQ below (vp_Si (fun r => r = z)) args s 0 0 (fun _ => False)) (F0 m 4 ls [])) ?_ n
    intro ih hih v1 v2 h ls hl
    unfold mX_axiomsTaken_F4 at h
    refine lv_iload_n C.1 C.2.1 dX0_axiomsTaken_4 rfl (lv_at hl 2 rfl) ?_
    refine lv_iconst (v := 5) C.1 C.2.1 dX0_axiomsTaken_5 (by decide) ?_
    refine k_icmp_ge (tgt := 27) C dX0_axiomsTaken_6 (by decide) h (fun c6 h => ?_) (fun c6 h => ?_)
    · refine lv_iload_n C.1 C.2.1 dX0_axiomsTaken_27 rfl (lv_at hl 1 rfl) ?_
      exact k_iret C hr hlk h dX0_axiomsTaken_28
    · refine lv_aload_n C.1 C.2.1 dX0_axiomsTaken_9 rfl (lv_at hl 0 rfl) ?_
      refine gX0_taken C hK hP dX0_axiomsTaken_10 ?_
      refine lv_iload_n C.1 C.2.1 dX0_axiomsTaken_13 rfl (lv_at hl 2 rfl) ?_
      refine lX0_taken C hK hP h dX0_axiomsTaken_14 (fun h => ?_)
      refine k_if_eq (tgt := 21) C dX0_axiomsTaken_15 (by decide) h (fun c15 h => ?_) (fun c15 h => ?_)
      · refine lv_iinc (v := (v2 + 1)) (lv' := [(2, .int (v2 + 1)), (0, .ref (a 0)), (1, .int v1)]) C.1 C.2.1 dX0_axiomsTaken_21 hl (k := 2) rfl rfl (by decide) rfl (fun ls hl => ?_)
        refine lv_goto (tgt := 4) C.1 C.2.1 dX0_axiomsTaken_24 (by decide) ?_
        exact hih v1 (v2 + 1) h ls (lv_sub hl [1, 2, 0] rfl)
      · refine lv_iinc (v := (v1 + 1)) (lv' := [(1, .int (v1 + 1)), (0, .ref (a 0)), (2, .int v2)]) C.1 C.2.1 dX0_axiomsTaken_18 hl (k := 1) rfl rfl (by decide) rfl (fun ls hl => ?_)
        refine lv_iinc (v := (v2 + 1)) (lv' := [(2, .int (v2 + 1)), (1, .int (v1 + 1)), (0, .ref (a 0))]) C.1 C.2.1 dX0_axiomsTaken_21 hl (k := 2) rfl rfl (by decide) rfl (fun ls hl => ?_)
        refine lv_goto (tgt := 4) C.1 C.2.1 dX0_axiomsTaken_24 (by decide) ?_
        exact hih (v1 + 1) (v2 + 1) h ls (lv_sub hl [2, 1, 0] rfl)
  unfold mX_axiomsTaken at h
  refine lv_iconst (v := 0) C.1 C.2.1 dX0_axiomsTaken_0 (by decide) ?_
  refine lv_istore_n (lv' := [(1, .int 0), (0, .ref (a 0))]) C.1 C.2.1 dX0_axiomsTaken_1 rfl hl (by decide) rfl (fun ls hl => ?_)
  refine lv_iconst (v := 0) C.1 C.2.1 dX0_axiomsTaken_2 (by decide) ?_
  refine lv_istore_n (lv' := [(2, .int 0), (1, .int 0), (0, .ref (a 0))]) C.1 C.2.1 dX0_axiomsTaken_3 rfl hl (by decide) rfl (fun ls hl => ?_)
  exact L4 _ 0 0 h ls (lv_sub hl [2, 1, 0] rfl)
set_option maxHeartbeats 4000000 in
set_option maxRecDepth 100000 in
theorem tX0_overLemmas {l : Launch} {D : va_G} {cI cZ : ClassId} {a : Nat → Nat} {S : XS} {v1 : Int32} {z : Int32} (h : mX_overLemmas S v1 = some z) : Met l yX0_overLemmas (Cond.code yX0_overLemmas cX0_overLemmas 4 (some .int) :: WW) ({ frames := 3, cells := 0, slots := 0, locals := 68 }) (va_Pc [.ref (a 0), .int v1] (roP D (wX cI cZ a S) (tyIZ cI cZ))) (vp_Si (fun r => r = z)) 0 0 (fun _ => False) := by
  refine RO_of (own := RX0) (by decide) rfl (Nat.le_of_ble_eq_true rfl) ?_
  intro p e s m args below meth c ha C hr hlk hP hK ls hl
  have hl : lv_has ls 4 [(0, .ref (a 0)), (1, .int v1)] := hl
  have L4 : ∀ (v1 : Int32) (n : Nat) (v2 : Int32) (v3 : Int32), itr2 (mX_overLemmas_F4 S v1) n v2 v3 = some z → ∀ ls : Array Slot, lv_has ls 4 [(0, .ref (a 0)), (1, .int v1), (2, .int v2), (3, .int v3)] → W p l e { frames := 3, cells := 0, slots := 0, locals := 68 } s m args below meth c s.heap [] 0 0 (MQ below (vp_Si (fun r => r = z)) args s 0 0 (fun _ => False)) (F0 m 4 ls []) := by
    intro v1 n
    refine itr2_ind (fun (v2 : Int32) (v3 : Int32) => ∀ ls : Array Slot, lv_has ls 4 [(0, .ref (a 0)), (1, .int v1), (2, .int v2), (3, .int v3)] → W p l e { frames := 3, cells := 0, slots := 0, locals := 68 } s m args below meth c s.heap [] 0 0 (MQ below (vp_Si (fun r => r = z)) args s 0 0 (fun _ => False)) (F0 m 4 ls [])) ?_ n
    intro ih hih v2 v3 h ls hl
    unfold mX_overLemmas_F4 at h
    refine lv_iload_n C.1 C.2.1 dX0_overLemmas_4 rfl (lv_at hl 3 rfl) ?_
    refine lv_aload_n C.1 C.2.1 dX0_overLemmas_5 rfl (lv_at hl 0 rfl) ?_
    refine gX0_lemmas C hK hP dX0_overLemmas_6 ?_
    refine k_icmp_ge (tgt := 27) C dX0_overLemmas_9 (by decide) h (fun c9 h => ?_) (fun c9 h => ?_)
    · refine lv_iload_n C.1 C.2.1 dX0_overLemmas_27 rfl (lv_at hl 2 rfl) ?_
      exact k_iret C hr hlk h dX0_overLemmas_28
    · refine lv_iload_n C.1 C.2.1 dX0_overLemmas_12 rfl (lv_at hl 2 rfl) ?_
      refine lv_aload_n C.1 C.2.1 dX0_overLemmas_13 rfl (lv_at hl 0 rfl) ?_
      refine lv_iload_n C.1 C.2.1 dX0_overLemmas_14 rfl (lv_at hl 3 rfl) ?_
      refine lv_iload_n C.1 C.2.1 dX0_overLemmas_15 rfl (lv_at hl 1 rfl) ?_
      refine k_roVi C hK hP [.int v3, .int v1] (wX_rv hK hP) h (fun v e => tX0_lemmaTells e) (cb_X0_116 C.2.2.2.2 ⟨Nat.le_of_ble_eq_true rfl, Nat.le_of_ble_eq_true rfl⟩) rfl hl.1 (Nat.le_of_ble_eq_true rfl) ⟨Nat.le_of_ble_eq_true rfl, Nat.le_of_ble_eq_true rfl⟩ dX0_overLemmas_16 rfl (fun x16 e16 h => ?_)
      refine lv_iadd C.1 C.2.1 dX0_overLemmas_19 ?_
      refine lv_istore_n (lv' := [(2, .int (v2 + x16)), (0, .ref (a 0)), (1, .int v1), (3, .int v3)]) C.1 C.2.1 dX0_overLemmas_20 rfl hl (by decide) rfl (fun ls hl => ?_)
      refine lv_iinc (v := (v3 + 1)) (lv' := [(3, .int (v3 + 1)), (2, .int (v2 + x16)), (0, .ref (a 0)), (1, .int v1)]) C.1 C.2.1 dX0_overLemmas_21 hl (k := 3) rfl rfl (by decide) rfl (fun ls hl => ?_)
      refine lv_goto (tgt := 4) C.1 C.2.1 dX0_overLemmas_24 (by decide) ?_
      exact hih (v2 + x16) (v3 + 1) h ls (lv_sub hl [2, 3, 1, 0] rfl)
  unfold mX_overLemmas at h
  refine lv_iconst (v := 0) C.1 C.2.1 dX0_overLemmas_0 (by decide) ?_
  refine lv_istore_n (lv' := [(2, .int 0), (0, .ref (a 0)), (1, .int v1)]) C.1 C.2.1 dX0_overLemmas_1 rfl hl (by decide) rfl (fun ls hl => ?_)
  refine lv_iconst (v := 0) C.1 C.2.1 dX0_overLemmas_2 (by decide) ?_
  refine lv_istore_n (lv' := [(3, .int 0), (2, .int 0), (0, .ref (a 0)), (1, .int v1)]) C.1 C.2.1 dX0_overLemmas_3 rfl hl (by decide) rfl (fun ls hl => ?_)
  exact L4 v1 _ 0 0 h ls (lv_sub hl [2, 3, 1, 0] rfl)
set_option maxHeartbeats 4000000 in
set_option maxRecDepth 100000 in
theorem tX0_lemmasInCircles {l : Launch} {D : va_G} {cI cZ : ClassId} {a : Nat → Nat} {S : XS} {z : Int32} (h : mX_lemmasInCircles S = some z) : Met l yX0_lemmasInCircles (Cond.code yX0_lemmasInCircles cX0_lemmasInCircles 3 (some .int) :: WW) ({ frames := 0, cells := 0, slots := 0, locals := 0 }) (va_Pc [.ref (a 0)] (roP D (wX cI cZ a S) (tyIZ cI cZ))) (vp_Si (fun r => r = z)) 0 0 (fun _ => False) := by
  refine RO_of (own := RX0) (by decide) rfl (Nat.le_of_ble_eq_true rfl) ?_
  intro p e s m args below meth c ha C hr hlk hP hK ls hl
  have hl : lv_has ls 3 [(0, .ref (a 0))] := hl
  have L4 : ∀  (n : Nat) (v1 : Int32) (v2 : Int32), itr2 (mX_lemmasInCircles_F4 S) n v1 v2 = some z → ∀ ls : Array Slot, lv_has ls 3 [(0, .ref (a 0)), (1, .int v1), (2, .int v2)] → W p l e { frames := 0, cells := 0, slots := 0, locals := 0 } s m args below meth c s.heap [] 0 0 (MQ below (vp_Si (fun r => r = z)) args s 0 0 (fun _ => False)) (F0 m 4 ls []) := by
    intro n
    refine itr2_ind (fun (v1 : Int32) (v2 : Int32) => ∀ ls : Array Slot, lv_has ls 3 [(0, .ref (a 0)), (1, .int v1), (2, .int v2)] → W p l e { frames := 0, cells := 0, slots := 0, locals := 0 } s m args below meth c s.heap [] 0 0 (MQ below (vp_Si (fun r => r = z)) args s 0 0 (fun _ => False)) (F0 m 4 ls [])) ?_ n
    intro ih hih v1 v2 h ls hl
    unfold mX_lemmasInCircles_F4 at h
    refine lv_iload_n C.1 C.2.1 dX0_lemmasInCircles_4 rfl (lv_at hl 2 rfl) ?_
    refine lv_aload_n C.1 C.2.1 dX0_lemmasInCircles_5 rfl (lv_at hl 0 rfl) ?_
    refine gX0_lemmas C hK hP dX0_lemmasInCircles_6 ?_
    refine k_icmp_ge (tgt := 30) C dX0_lemmasInCircles_9 (by decide) h (fun c9 h => ?_) (fun c9 h => ?_)
    · refine lv_iload_n C.1 C.2.1 dX0_lemmasInCircles_30 rfl (lv_at hl 1 rfl) ?_
      exact k_iret C hr hlk h dX0_lemmasInCircles_31
    · refine lv_aload_n C.1 C.2.1 dX0_lemmasInCircles_12 rfl (lv_at hl 0 rfl) ?_
      refine gX0_circles C hK hP dX0_lemmasInCircles_13 ?_
      refine lv_iload_n C.1 C.2.1 dX0_lemmasInCircles_16 rfl (lv_at hl 2 rfl) ?_
      refine lX0_circles C hK hP h dX0_lemmasInCircles_17 (fun h => ?_)
      refine k_if_le (tgt := 24) C dX0_lemmasInCircles_18 (by decide) h (fun c18 h => ?_) (fun c18 h => ?_)
      · refine lv_iinc (v := (v2 + 1)) (lv' := [(2, .int (v2 + 1)), (0, .ref (a 0)), (1, .int v1)]) C.1 C.2.1 dX0_lemmasInCircles_24 hl (k := 2) rfl rfl (by decide) rfl (fun ls hl => ?_)
        refine lv_goto (tgt := 4) C.1 C.2.1 dX0_lemmasInCircles_27 (by decide) ?_
        exact hih v1 (v2 + 1) h ls (lv_sub hl [1, 2, 0] rfl)
      · refine lv_iinc (v := (v1 + 1)) (lv' := [(1, .int (v1 + 1)), (0, .ref (a 0)), (2, .int v2)]) C.1 C.2.1 dX0_lemmasInCircles_21 hl (k := 1) rfl rfl (by decide) rfl (fun ls hl => ?_)
        refine lv_iinc (v := (v2 + 1)) (lv' := [(2, .int (v2 + 1)), (1, .int (v1 + 1)), (0, .ref (a 0))]) C.1 C.2.1 dX0_lemmasInCircles_24 hl (k := 2) rfl rfl (by decide) rfl (fun ls hl => ?_)
        refine lv_goto (tgt := 4) C.1 C.2.1 dX0_lemmasInCircles_27 (by decide) ?_
        exact hih (v1 + 1) (v2 + 1) h ls (lv_sub hl [2, 1, 0] rfl)
  unfold mX_lemmasInCircles at h
  refine lv_iconst (v := 0) C.1 C.2.1 dX0_lemmasInCircles_0 (by decide) ?_
  refine lv_istore_n (lv' := [(1, .int 0), (0, .ref (a 0))]) C.1 C.2.1 dX0_lemmasInCircles_1 rfl hl (by decide) rfl (fun ls hl => ?_)
  refine lv_iconst (v := 0) C.1 C.2.1 dX0_lemmasInCircles_2 (by decide) ?_
  refine lv_istore_n (lv' := [(2, .int 0), (1, .int 0), (0, .ref (a 0))]) C.1 C.2.1 dX0_lemmasInCircles_3 rfl hl (by decide) rfl (fun ls hl => ?_)
  exact L4 _ 0 0 h ls (lv_sub hl [2, 1, 0] rfl)
set_option maxHeartbeats 4000000 in
set_option maxRecDepth 100000 in
theorem tX0_countOf {l : Launch} {D : va_G} {cI cZ : ClassId} {a : Nat → Nat} {S : XS} {v1 : Int32} {z : Int32} (h : mX_countOf S v1 = some z) : Met l yX0_countOf (Cond.code yX0_countOf cX0_countOf 2 (some .int) :: WW) ({ frames := 4, cells := 0, slots := 0, locals := 91 }) (va_Pc [.ref (a 0), .int v1] (roP D (wX cI cZ a S) (tyIZ cI cZ))) (vp_Si (fun r => r = z)) 0 0 (fun _ => False) := by
  refine RO_of (own := RX0) (by decide) rfl (Nat.le_of_ble_eq_true rfl) ?_
  intro p e s m args below meth c ha C hr hlk hP hK ls hl
  have hl : lv_has ls 2 [(0, .ref (a 0)), (1, .int v1)] := hl
  unfold mX_countOf at h
  refine lv_iload_n C.1 C.2.1 dX0_countOf_0 rfl (lv_at hl 1 rfl) ?_
  by_cases c1_0 : (v1 : Int32) = 0
  · have h := it_h h c1_0
    refine lv_tableIn (off := 39) (tgt := 40) C.1 C.2.1 dX0_countOf_1 (by rw [c1_0]; decide) (by rw [c1_0]; decide) (by rw [c1_0]; rfl) (by decide) ?_
    refine lv_aload_n C.1 C.2.1 dX0_countOf_40 rfl (lv_at hl 0 rfl) ?_
    refine gX0_lemmas C hK hP dX0_countOf_41 ?_
    exact k_iret C hr hlk h dX0_countOf_44
  · have h := if_h h c1_0
    by_cases c1_1 : (v1 : Int32) = 1
    · have h := it_h h c1_1
      refine lv_tableIn (off := 44) (tgt := 45) C.1 C.2.1 dX0_countOf_1 (by rw [c1_1]; decide) (by rw [c1_1]; decide) (by rw [c1_1]; rfl) (by decide) ?_
      refine lv_aload_n C.1 C.2.1 dX0_countOf_45 rfl (lv_at hl 0 rfl) ?_
      refine gX0_proved C hK hP dX0_countOf_46 ?_
      exact k_iret C hr hlk h dX0_countOf_49
    · have h := if_h h c1_1
      by_cases c1_2 : (v1 : Int32) = 2
      · have h := it_h h c1_2
        refine lv_tableIn (off := 49) (tgt := 50) C.1 C.2.1 dX0_countOf_1 (by rw [c1_2]; decide) (by rw [c1_2]; decide) (by rw [c1_2]; rfl) (by decide) ?_
        refine lv_aload_n C.1 C.2.1 dX0_countOf_50 rfl (lv_at hl 0 rfl) ?_
        refine k_roVi C hK hP [] (wX_rv hK hP) h (fun v e => tX0_axiomsTaken e) (cb_X0_232 C.2.2.2.2 ⟨Nat.le_of_ble_eq_true rfl, Nat.le_of_ble_eq_true rfl⟩) rfl hl.1 (Nat.le_of_ble_eq_true rfl) ⟨Nat.le_of_ble_eq_true rfl, Nat.le_of_ble_eq_true rfl⟩ dX0_countOf_51 rfl (fun x51 e51 h => ?_)
        exact k_iret C hr hlk h dX0_countOf_54
      · have h := if_h h c1_2
        by_cases c1_3 : (v1 : Int32) = 3
        · have h := it_h h c1_3
          refine lv_tableIn (off := 54) (tgt := 55) C.1 C.2.1 dX0_countOf_1 (by rw [c1_3]; decide) (by rw [c1_3]; decide) (by rw [c1_3]; rfl) (by decide) ?_
          refine lv_aload_n C.1 C.2.1 dX0_countOf_55 rfl (lv_at hl 0 rfl) ?_
          refine lv_iconst (v := 0) C.1 C.2.1 dX0_countOf_56 (by decide) ?_
          refine k_roVi C hK hP [.int 0] (wX_rv hK hP) h (fun v e => tX0_overLemmas e) (cb_X0_146 C.2.2.2.2 ⟨Nat.le_of_ble_eq_true rfl, Nat.le_of_ble_eq_true rfl⟩) rfl hl.1 (Nat.le_of_ble_eq_true rfl) ⟨Nat.le_of_ble_eq_true rfl, Nat.le_of_ble_eq_true rfl⟩ dX0_countOf_57 rfl (fun x57 e57 h => ?_)
          exact k_iret C hr hlk h dX0_countOf_60
        · have h := if_h h c1_3
          by_cases c1_4 : (v1 : Int32) = 4
          · have h := it_h h c1_4
            refine lv_tableIn (off := 60) (tgt := 61) C.1 C.2.1 dX0_countOf_1 (by rw [c1_4]; decide) (by rw [c1_4]; decide) (by rw [c1_4]; rfl) (by decide) ?_
            refine lv_aload_n C.1 C.2.1 dX0_countOf_61 rfl (lv_at hl 0 rfl) ?_
            refine lv_iconst (v := 1) C.1 C.2.1 dX0_countOf_62 (by decide) ?_
            refine k_roVi C hK hP [.int 1] (wX_rv hK hP) h (fun v e => tX0_overLemmas e) (cb_X0_146 C.2.2.2.2 ⟨Nat.le_of_ble_eq_true rfl, Nat.le_of_ble_eq_true rfl⟩) rfl hl.1 (Nat.le_of_ble_eq_true rfl) ⟨Nat.le_of_ble_eq_true rfl, Nat.le_of_ble_eq_true rfl⟩ dX0_countOf_63 rfl (fun x63 e63 h => ?_)
            exact k_iret C hr hlk h dX0_countOf_66
          · have h := if_h h c1_4
            by_cases c1_5 : (v1 : Int32) = 5
            · have h := it_h h c1_5
              refine lv_tableIn (off := 66) (tgt := 67) C.1 C.2.1 dX0_countOf_1 (by rw [c1_5]; decide) (by rw [c1_5]; decide) (by rw [c1_5]; rfl) (by decide) ?_
              refine lv_aload_n C.1 C.2.1 dX0_countOf_67 rfl (lv_at hl 0 rfl) ?_
              refine lv_iconst (v := 5) C.1 C.2.1 dX0_countOf_68 (by decide) ?_
              refine k_roVi C hK hP [.int 5] (wX_rv hK hP) h (fun v e => tX0_overLemmas e) (cb_X0_146 C.2.2.2.2 ⟨Nat.le_of_ble_eq_true rfl, Nat.le_of_ble_eq_true rfl⟩) rfl hl.1 (Nat.le_of_ble_eq_true rfl) ⟨Nat.le_of_ble_eq_true rfl, Nat.le_of_ble_eq_true rfl⟩ dX0_countOf_69 rfl (fun x69 e69 h => ?_)
              exact k_iret C hr hlk h dX0_countOf_72
            · have h := if_h h c1_5
              have e1_0 := sw_ne (j := 0) c1_0 (by decide)
              have e1_1 := sw_ne (j := 1) c1_1 (by decide)
              have e1_2 := sw_ne (j := 2) c1_2 (by decide)
              have e1_3 := sw_ne (j := 3) c1_3 (by decide)
              have e1_4 := sw_ne (j := 4) c1_4 (by decide)
              have e1_5 := sw_ne (j := 5) c1_5 (by decide)
              refine lv_tableOut (tgt := 73) C.1 C.2.1 dX0_countOf_1 (by omega) (by decide) ?_
              refine lv_aload_n C.1 C.2.1 dX0_countOf_73 rfl (lv_at hl 0 rfl) ?_
              refine k_roVi C hK hP [] (wX_rv hK hP) h (fun v e => tX0_lemmasInCircles e) (cb_X0_236 C.2.2.2.2 ⟨Nat.le_of_ble_eq_true rfl, Nat.le_of_ble_eq_true rfl⟩) rfl hl.1 (Nat.le_of_ble_eq_true rfl) ⟨Nat.le_of_ble_eq_true rfl, Nat.le_of_ble_eq_true rfl⟩ dX0_countOf_74 rfl (fun x74 e74 h => ?_)
              exact k_iret C hr hlk h dX0_countOf_77
set_option maxHeartbeats 4000000 in
set_option maxRecDepth 100000 in
theorem tX0_count {l : Launch} {D : va_G} {cI cZ : ClassId} {a : Nat → Nat} {S : XS} {v1 : Int32} {z : (Int32 ⊕ Nat)} (hfl : l.stackTraces = false) (h : mX_count S v1 = some z) : tx_Met l yX0_count (Cond.code yX0_count cX0_count 2 (some .int) :: WW) ({ frames := 7, cells := 1, slots := 6, locals := 112 }) (va_Pc [.ref (a 0), .int v1] (fun U => roP D (wX cI cZ a S) (tyIZ cI cZ) U ∧ excU U)) (tqi z) (txX z) 1 6 (fun _ => False) := by
  refine TX_of (own := RX0) (by decide) rfl (Nat.le_of_ble_eq_true rfl) ?_
  intro p e s m args below meth c ha C hr hlk hout hpre ls hl
  obtain ⟨⟨hP, hK⟩, hE⟩ := hpre
  have hl : lv_has ls 2 [(0, .ref (a 0)), (1, .int v1)] := hl
  unfold mX_count at h
  refine lv_iload_n C.1 C.2.1 dX0_count_0 rfl (lv_at hl 1 rfl) ?_
  refine lv_bipush (v := 7) C.1 C.2.1 dX0_count_1 (by decide) ?_
  refine k_txS C hE hlk hout [.int v1, .int 7] h (fun o e => tX0_requireAsk hfl e) (cb_X0_113 C.2.2.2.2 ⟨Nat.le_of_ble_eq_true rfl, Nat.le_of_ble_eq_true rfl⟩) rfl hl.1 (Nat.le_of_ble_eq_true rfl) ⟨Nat.le_of_ble_eq_true rfl, Nat.le_of_ble_eq_true rfl⟩ dX0_count_3 rfl (fun x3 e3 h => ?_)
  refine lv_aload_n C.1 C.2.1 dX0_count_6 rfl (lv_at hl 0 rfl) ?_
  refine lv_iload_n C.1 C.2.1 dX0_count_7 rfl (lv_at hl 1 rfl) ?_
  refine k_roVi C hK hP [.int v1] (wX_rv hK hP) h (fun v e => tX0_countOf e) (cb_X0_133 C.2.2.2.2 ⟨Nat.le_of_ble_eq_true rfl, Nat.le_of_ble_eq_true rfl⟩) rfl hl.1 (Nat.le_of_ble_eq_true rfl) ⟨Nat.le_of_ble_eq_true rfl, Nat.le_of_ble_eq_true rfl⟩ dX0_count_8 rfl (fun x8 e8 h => ?_)
  exact k_iretT C hr hlk h dX0_count_11
set_option maxHeartbeats 4000000 in
set_option maxRecDepth 100000 in
theorem tX0_best {l : Launch} {D : va_G} {cI cZ : ClassId} {a : Nat → Nat} {S : XS} {v1 : Int32} {z : (Int32 ⊕ Nat)} (hfl : l.stackTraces = false) (h : mX_best S v1 = some z) : tx_Met l yX0_best (Cond.code yX0_best cX0_best 6 (some .int) :: WW) ({ frames := 7, cells := 1, slots := 6, locals := 111 }) (va_Pc [.ref (a 0), .int v1] (fun U => roP D (wX cI cZ a S) (tyIZ cI cZ) U ∧ excU U)) (tqi z) (txX z) 1 6 (fun _ => False) := by
  refine TX_of (own := RX0) (by decide) rfl (Nat.le_of_ble_eq_true rfl) ?_
  intro p e s m args below meth c ha C hr hlk hout hpre ls hl
  obtain ⟨⟨hP, hK⟩, hE⟩ := hpre
  have hl : lv_has ls 6 [(0, .ref (a 0)), (1, .int v1)] := hl
  have L14 : ∀ (v1 : Int32) (n : Nat) (v2 : Int32) (v3 : Int32) (v4 : Int32), itr3 (mX_best_F14 S v1) n v2 v3 v4 = some z → ∀ ls : Array Slot, lv_has ls 6 [(0, .ref (a 0)), (1, .int v1), (2, .int v2), (3, .int v3), (4, .int v4)] → W p l e { frames := 7, cells := 1, slots := 6, locals := 111 } s m args below meth c s.heap [] 0 0 (tx_MQ below (tqi z) (txX z) args s 1 6 (fun _ => False)) (F0 m 14 ls []) := by
    intro v1 n
    refine itr3_ind (fun (v2 : Int32) (v3 : Int32) (v4 : Int32) => ∀ ls : Array Slot, lv_has ls 6 [(0, .ref (a 0)), (1, .int v1), (2, .int v2), (3, .int v3), (4, .int v4)] → W p l e { frames := 7, cells := 1, slots := 6, locals := 111 } s m args below meth c s.heap [] 0 0 (tx_MQ below (tqi z) (txX z) args s 1 6 (fun _ => False)) (F0 m 14 ls [])) ?_ n
    intro ih hih v2 v3 v4 h ls hl
    unfold mX_best_F14 at h
    refine lv_iload C.1 C.2.1 dX0_best_14 (lv_at hl 4 rfl) ?_
    refine lv_aload_n C.1 C.2.1 dX0_best_16 rfl (lv_at hl 0 rfl) ?_
    refine gX0_proofs C hK hP dX0_best_17 ?_
    refine lv_iload_n C.1 C.2.1 dX0_best_20 rfl (lv_at hl 1 rfl) ?_
    refine lX0_proofs C hK hP h dX0_best_21 (fun h => ?_)
    refine k_icmp_ge (tgt := 60) C dX0_best_22 (by decide) h (fun c22 h => ?_) (fun c22 h => ?_)
    · refine lv_iload_n C.1 C.2.1 dX0_best_60 rfl (lv_at hl 2 rfl) ?_
      exact k_iretT C hr hlk h dX0_best_61
    · refine lv_aload_n C.1 C.2.1 dX0_best_25 rfl (lv_at hl 0 rfl) ?_
      refine lv_iload_n C.1 C.2.1 dX0_best_26 rfl (lv_at hl 1 rfl) ?_
      refine lv_iload C.1 C.2.1 dX0_best_27 (lv_at hl 4 rfl) ?_
      refine k_prS C [.int v1, .int v4] h (fun v e => tX0_slotOf e) (cb_X0_73 C.2.2.2.2 ⟨Nat.le_of_ble_eq_true rfl, Nat.le_of_ble_eq_true rfl⟩) rfl hl.1 (Nat.le_of_ble_eq_true rfl) ⟨Nat.le_of_ble_eq_true rfl, Nat.le_of_ble_eq_true rfl⟩ dX0_best_29 rfl (fun x29 e29 h => ?_)
      refine lv_aload_n C.1 C.2.1 dX0_best_32 rfl (lv_at hl 0 rfl) ?_
      refine gX0_lengths C hK hP dX0_best_33 ?_
      refine lv_iconst (v := 0) C.1 C.2.1 dX0_best_36 (by decide) ?_
      refine k_roVi C hK hP [.int x29, .ref (a 9), .int 0] (wX_rv hK hP) h (fun v e => tX0_costOfProof ⟨by decide, by decide⟩ e) (cb_X0_126 C.2.2.2.2 ⟨Nat.le_of_ble_eq_true rfl, Nat.le_of_ble_eq_true rfl⟩) rfl hl.1 (Nat.le_of_ble_eq_true rfl) ⟨Nat.le_of_ble_eq_true rfl, Nat.le_of_ble_eq_true rfl⟩ dX0_best_37 rfl (fun x37 e37 h => ?_)
      refine lv_istore (lv' := [(5, .int x37), (0, .ref (a 0)), (1, .int v1), (2, .int v2), (3, .int v3), (4, .int v4)]) C.1 C.2.1 dX0_best_40 hl (by decide) rfl (fun ls hl => ?_)
      refine lv_iload C.1 C.2.1 dX0_best_42 (lv_at hl 0 rfl) ?_
      refine lv_iload_n C.1 C.2.1 dX0_best_44 rfl (lv_at hl 4 rfl) ?_
      refine k_icmp_ge (tgt := 54) C dX0_best_45 (by decide) h (fun c45 h => ?_) (fun c45 h => ?_)
      · refine lv_iinc (v := (v4 + 1)) (lv' := [(4, .int (v4 + 1)), (5, .int x37), (0, .ref (a 0)), (1, .int v1), (2, .int v2), (3, .int v3)]) C.1 C.2.1 dX0_best_54 hl (k := 5) rfl rfl (by decide) rfl (fun ls hl => ?_)
        refine lv_goto (tgt := 14) C.1 C.2.1 dX0_best_57 (by decide) ?_
        exact hih v2 v3 (v4 + 1) h ls (lv_sub hl [2, 3, 4, 5, 0] rfl)
      · refine lv_iload C.1 C.2.1 dX0_best_48 (lv_at hl 0 rfl) ?_
        refine lv_istore_n (lv' := [(3, .int x37), (5, .int x37), (0, .ref (a 0)), (1, .int v1), (2, .int v2), (4, .int v4)]) C.1 C.2.1 dX0_best_50 rfl hl (by decide) rfl (fun ls hl => ?_)
        refine lv_iload C.1 C.2.1 dX0_best_51 (lv_at hl 5 rfl) ?_
        refine lv_istore_n (lv' := [(2, .int v4), (3, .int x37), (5, .int x37), (0, .ref (a 0)), (1, .int v1), (4, .int v4)]) C.1 C.2.1 dX0_best_53 rfl hl (by decide) rfl (fun ls hl => ?_)
        refine lv_iinc (v := (v4 + 1)) (lv' := [(4, .int (v4 + 1)), (2, .int v4), (3, .int x37), (5, .int x37), (0, .ref (a 0)), (1, .int v1)]) C.1 C.2.1 dX0_best_54 hl (k := 5) rfl rfl (by decide) rfl (fun ls hl => ?_)
        refine lv_goto (tgt := 14) C.1 C.2.1 dX0_best_57 (by decide) ?_
        exact hih v4 x37 (v4 + 1) h ls (lv_sub hl [4, 5, 1, 2, 0] rfl)
  unfold mX_best at h
  refine lv_aload_n C.1 C.2.1 dX0_best_0 rfl (lv_at hl 0 rfl) ?_
  refine lv_iload_n C.1 C.2.1 dX0_best_1 rfl (lv_at hl 1 rfl) ?_
  refine k_txV C hE hlk hout hK hP (wX_rv hK hP) [.int v1] h (fun o e => tX0_requireLemma hfl e) (cb_X0_68 C.2.2.2.2 ⟨Nat.le_of_ble_eq_true rfl, Nat.le_of_ble_eq_true rfl⟩) rfl hl.1 (Nat.le_of_ble_eq_true rfl) ⟨Nat.le_of_ble_eq_true rfl, Nat.le_of_ble_eq_true rfl⟩ dX0_best_2 rfl (fun x2 e2 h => ?_)
  refine lv_iconst (v := (-1)) C.1 C.2.1 dX0_best_5 (by decide) ?_
  refine lv_istore_n (lv' := [(2, .int (-1)), (0, .ref (a 0)), (1, .int v1)]) C.1 C.2.1 dX0_best_6 rfl hl (by decide) rfl (fun ls hl => ?_)
  refine lv_sipush (v := 9999) C.1 C.2.1 dX0_best_7 (by decide) ?_
  refine lv_istore_n (lv' := [(3, .int 9999), (2, .int (-1)), (0, .ref (a 0)), (1, .int v1)]) C.1 C.2.1 dX0_best_10 rfl hl (by decide) rfl (fun ls hl => ?_)
  refine lv_iconst (v := 0) C.1 C.2.1 dX0_best_11 (by decide) ?_
  refine lv_istore (lv' := [(4, .int 0), (3, .int 9999), (2, .int (-1)), (0, .ref (a 0)), (1, .int v1)]) C.1 C.2.1 dX0_best_12 hl (by decide) rfl (fun ls hl => ?_)
  exact L14 v1 _ (-1) 9999 0 h ls (lv_sub hl [3, 4, 2, 1, 0] rfl)
set_option maxHeartbeats 4000000 in
set_option maxRecDepth 100000 in
theorem tX0_without {l : Launch} {D : va_G} {cI cZ : ClassId} {a : Nat → Nat} {S : XS} {sz : Nat} {v1 : Int32} {z : ((Int32 × XS) ⊕ Nat)} (hfl : l.stackTraces = false) (h : mX_without S v1 = some z) : tx_Met l yX0_without (Cond.code yX0_without cX0_without 2 (some .int) :: WW) ({ frames := 7, cells := 1, slots := 6, locals := 119 }) (va_Pc [.ref (a 0), .int v1] (fun U => rwP D (wX cI cZ a S) (tyIZ cI cZ) sz U ∧ excU U)) (tqiW D (wX cI cZ a) (va_A (wX cI cZ a S) sz) z) (txX z) 1 6 (va_A (wX cI cZ a S) sz) := by
  refine TXW_of (own := RX0) (QF := fun A => tqiW D (wX cI cZ a) A z) (by decide) rfl (Nat.le_of_ble_eq_true rfl) ?_
  intro p e s m args below meth c A ha C hr hlk hout hP hK hD hA hE ls hl
  have hS : va_S A s.heap s.heap [] := va_S.rf
  have hl : lv_has ls 2 [(0, .ref (a 0)), (1, .int v1)] := hl
  unfold mX_without at h
  refine lv_aload_n C.1 C.2.1 dX0_without_0 rfl (lv_at hl 0 rfl) ?_
  refine lv_iload_n C.1 C.2.1 dX0_without_1 rfl (lv_at hl 1 rfl) ?_
  refine k_txV C hE hlk hout hK hP (wX_rv hK hP) [.int v1] h (fun o e => tX0_requireLemma hfl e) (cb_X0_68 C.2.2.2.2 ⟨Nat.le_of_ble_eq_true rfl, Nat.le_of_ble_eq_true rfl⟩) rfl hl.1 (Nat.le_of_ble_eq_true rfl) ⟨Nat.le_of_ble_eq_true rfl, Nat.le_of_ble_eq_true rfl⟩ dX0_without_2 rfl (fun x2 e2 h => ?_)
  refine lv_aload_n C.1 C.2.1 dX0_without_5 rfl (lv_at hl 0 rfl) ?_
  refine lv_aload_n C.1 C.2.1 dX0_without_6 rfl (lv_at hl 0 rfl) ?_
  refine gX0_trial C hK hP dX0_without_7 ?_
  refine lv_iload_n C.1 C.2.1 dX0_without_10 rfl (lv_at hl 1 rfl) ?_
  refine k_rwVi C (wX_ad _) hK hP hD hS hA [.ref (a 13), .int v1] (wX_rv hK hP) h (fun v S2 e => tX0_prove ⟨by decide, by decide⟩ e) (cb_X0_136 C.2.2.2.2 ⟨Nat.le_of_ble_eq_true rfl, Nat.le_of_ble_eq_true rfl⟩) rfl hl.1 (Nat.le_of_ble_eq_true rfl) ⟨Nat.le_of_ble_eq_true rfl, Nat.le_of_ble_eq_true rfl⟩ dX0_without_11 rfl (fun x11 S11 H locs e11 h hP hD hS => ?_)
  exact k_iretTW (w := wX cI cZ a) C hr hlk h hP hS dX0_without_14
set_option maxHeartbeats 4000000 in
set_option maxRecDepth 100000 in
theorem tX0_needs {l : Launch} {D : va_G} {cI cZ : ClassId} {a : Nat → Nat} {S : XS} {sz : Nat} {v1 : Int32} {v2 : Int32} {z : ((Int32 × XS) ⊕ Nat)} (hfl : l.stackTraces = false) (h : mX_needs S v1 v2 = some z) : tx_Met l yX0_needs (Cond.code yX0_needs cX0_needs 4 (some .boolean) :: WW) ({ frames := 7, cells := 1, slots := 6, locals := 119 }) (va_Pc [.ref (a 0), .int v1, .int v2] (fun U => rwP D (wX cI cZ a S) (tyIZ cI cZ) sz U ∧ excU U)) (tqiW D (wX cI cZ a) (va_A (wX cI cZ a S) sz) z) (txX z) 1 6 (va_A (wX cI cZ a S) sz) := by
  refine TXW_of (own := RX0) (QF := fun A => tqiW D (wX cI cZ a) A z) (by decide) rfl (Nat.le_of_ble_eq_true rfl) ?_
  intro p e s m args below meth c A ha C hr hlk hout hP hK hD hA hE ls hl
  have hS : va_S A s.heap s.heap [] := va_S.rf
  have hl : lv_has ls 4 [(0, .ref (a 0)), (1, .int v1), (2, .int v2)] := hl
  unfold mX_needs at h
  refine lv_aload_n C.1 C.2.1 dX0_needs_0 rfl (lv_at hl 0 rfl) ?_
  refine lv_iload_n C.1 C.2.1 dX0_needs_1 rfl (lv_at hl 1 rfl) ?_
  refine k_txV C hE hlk hout hK hP (wX_rv hK hP) [.int v1] h (fun o e => tX0_requireLemma hfl e) (cb_X0_68 C.2.2.2.2 ⟨Nat.le_of_ble_eq_true rfl, Nat.le_of_ble_eq_true rfl⟩) rfl hl.1 (Nat.le_of_ble_eq_true rfl) ⟨Nat.le_of_ble_eq_true rfl, Nat.le_of_ble_eq_true rfl⟩ dX0_needs_2 rfl (fun x2 e2 h => ?_)
  refine lv_iload_n C.1 C.2.1 dX0_needs_5 rfl (lv_at hl 2 rfl) ?_
  refine k_txS C hE hlk hout [.int v2] h (fun o e => tX0_requireAxiom hfl e) (cb_X0_50 C.2.2.2.2 ⟨Nat.le_of_ble_eq_true rfl, Nat.le_of_ble_eq_true rfl⟩) rfl hl.1 (Nat.le_of_ble_eq_true rfl) ⟨Nat.le_of_ble_eq_true rfl, Nat.le_of_ble_eq_true rfl⟩ dX0_needs_6 rfl (fun x6 e6 h => ?_)
  refine lv_aload_n C.1 C.2.1 dX0_needs_9 rfl (lv_at hl 0 rfl) ?_
  refine gX0_taken C hK hP dX0_needs_10 ?_
  refine lv_iload_n C.1 C.2.1 dX0_needs_13 rfl (lv_at hl 2 rfl) ?_
  refine lX0_taken C hK hP h dX0_needs_14 (fun h => ?_)
  refine lv_istore_n (lv' := [(3, .int (S 1 (v2 : Int32).toNatClampNeg)), (0, .ref (a 0)), (1, .int v1), (2, .int v2)]) C.1 C.2.1 dX0_needs_15 rfl hl (by decide) rfl (fun ls hl => ?_)
  refine lv_aload_n C.1 C.2.1 dX0_needs_16 rfl (lv_at hl 1 rfl) ?_
  refine gX0_taken C hK hP dX0_needs_17 ?_
  refine lv_iload_n C.1 C.2.1 dX0_needs_20 rfl (lv_at hl 3 rfl) ?_
  refine lv_iconst (v := 0) C.1 C.2.1 dX0_needs_21 (by decide) ?_
  refine sX0_taken C hK hP hD hS h dX0_needs_22 (fun S22 H locs h hP hD hS => ?_)
  refine lv_aload_n C.1 C.2.1 dX0_needs_23 rfl (lv_at hl 1 rfl) ?_
  refine lv_aload_n C.1 C.2.1 dX0_needs_24 rfl (lv_at hl 1 rfl) ?_
  refine gX0_trial C hK hP dX0_needs_25 ?_
  refine lv_iconst (v := (-1)) C.1 C.2.1 dX0_needs_28 (by decide) ?_
  refine k_rwVi C (wX_ad _) hK hP hD hS hA [.ref (a 13), .int (-1)] (wX_rv hK hP) h (fun v S2 e => tX0_prove ⟨by decide, by decide⟩ e) (cb_X0_136 C.2.2.2.2 ⟨Nat.le_of_ble_eq_true rfl, Nat.le_of_ble_eq_true rfl⟩) rfl hl.1 (Nat.le_of_ble_eq_true rfl) ⟨Nat.le_of_ble_eq_true rfl, Nat.le_of_ble_eq_true rfl⟩ dX0_needs_29 rfl (fun x29 S29 H locs e29 h hP hD hS => ?_)
  refine lv_pop C.1 C.2.1 dX0_needs_32 rfl ?_
  refine lv_aload_n C.1 C.2.1 dX0_needs_33 rfl (lv_at hl 1 rfl) ?_
  refine gX0_taken C hK hP dX0_needs_34 ?_
  refine lv_iload_n C.1 C.2.1 dX0_needs_37 rfl (lv_at hl 3 rfl) ?_
  refine lv_iload_n C.1 C.2.1 dX0_needs_38 rfl (lv_at hl 0 rfl) ?_
  refine sX0_taken C hK hP hD hS h dX0_needs_39 (fun S39 H locs h hP hD hS => ?_)
  refine lv_aload_n C.1 C.2.1 dX0_needs_40 rfl (lv_at hl 1 rfl) ?_
  refine gX0_stages C hK hP dX0_needs_41 ?_
  refine lv_iload_n C.1 C.2.1 dX0_needs_44 rfl (lv_at hl 2 rfl) ?_
  refine lX0_stages C hK hP h dX0_needs_45 (fun h => ?_)
  refine k_if_le (tgt := 62) C dX0_needs_46 (by decide) h (fun c46 h => ?_) (fun c46 h => ?_)
  · refine lv_iconst (v := 0) C.1 C.2.1 dX0_needs_62 (by decide) ?_
    exact k_zretTW (w := wX cI cZ a) C hr hlk h hP hS dX0_needs_63
  · refine lv_aload_n C.1 C.2.1 dX0_needs_49 rfl (lv_at hl 1 rfl) ?_
    refine gX0_trial C hK hP dX0_needs_50 ?_
    refine lv_iload_n C.1 C.2.1 dX0_needs_53 rfl (lv_at hl 2 rfl) ?_
    refine lX0_trial C hK hP h dX0_needs_54 (fun h => ?_)
    refine k_if_ne (tgt := 62) C dX0_needs_55 (by decide) h (fun c55 h => ?_) (fun c55 h => ?_)
    · refine lv_iconst (v := 0) C.1 C.2.1 dX0_needs_62 (by decide) ?_
      exact k_zretTW (w := wX cI cZ a) C hr hlk h hP hS dX0_needs_63
    · refine lv_iconst (v := 1) C.1 C.2.1 dX0_needs_58 (by decide) ?_
      refine lv_goto (tgt := 63) C.1 C.2.1 dX0_needs_59 (by decide) ?_
      exact k_zretTW (w := wX cI cZ a) C hr hlk h hP hS dX0_needs_63
set_option maxHeartbeats 4000000 in
set_option maxRecDepth 100000 in
theorem tX0_provedIfClosed {l : Launch} {D : va_G} {cI cZ : ClassId} {a : Nat → Nat} {S : XS} {sz : Nat} {v1 : Int32} {z : (Int32 × XS)} (h : mX_provedIfClosed S v1 = some z) : Met l yX0_provedIfClosed (Cond.code yX0_provedIfClosed cX0_provedIfClosed 4 (some .int) :: WW) ({ frames := 5, cells := 0, slots := 0, locals := 119 }) (va_Pc [.ref (a 0), .int v1] (rwP D (wX cI cZ a S) (tyIZ cI cZ) sz)) (rwQi D (wX cI cZ a z.2) z.1 (va_A (wX cI cZ a S) sz)) 0 0 (va_A (wX cI cZ a S) sz) := by
  refine RW_of (own := RX0) (Qc := fun A => rwQi D (wX cI cZ a z.2) z.1 A) (by decide) rfl (Nat.le_of_ble_eq_true rfl) ?_
  intro p e s m args below meth c A ha C hr hlk hP hK hD hA ls hl
  have hS : va_S A s.heap s.heap [] := va_S.rf
  have hl : lv_has ls 4 [(0, .ref (a 0)), (1, .int v1)] := hl
  unfold mX_provedIfClosed at h
  refine lv_aload_n C.1 C.2.1 dX0_provedIfClosed_0 rfl (lv_at hl 0 rfl) ?_
  refine gX0_open C hK hP dX0_provedIfClosed_1 ?_
  refine lv_iload_n C.1 C.2.1 dX0_provedIfClosed_4 rfl (lv_at hl 1 rfl) ?_
  refine lX0_open C hK hP h dX0_provedIfClosed_5 (fun h => ?_)
  refine lv_istore_n (lv' := [(2, .int (S 6 (v1 : Int32).toNatClampNeg)), (0, .ref (a 0)), (1, .int v1)]) C.1 C.2.1 dX0_provedIfClosed_6 rfl hl (by decide) rfl (fun ls hl => ?_)
  refine lv_iload_n C.1 C.2.1 dX0_provedIfClosed_7 rfl (lv_at hl 0 rfl) ?_
  refine k_if_ne (tgt := 16) C dX0_provedIfClosed_8 (by decide) h (fun c8 h => ?_) (fun c8 h => ?_)
  · refine lv_aload_n C.1 C.2.1 dX0_provedIfClosed_16 rfl (lv_at hl 1 rfl) ?_
    refine gX0_open C hK hP dX0_provedIfClosed_17 ?_
    refine lv_iload_n C.1 C.2.1 dX0_provedIfClosed_20 rfl (lv_at hl 2 rfl) ?_
    refine lv_iconst (v := 0) C.1 C.2.1 dX0_provedIfClosed_21 (by decide) ?_
    refine sX0_open C hK hP hD hS h dX0_provedIfClosed_22 (fun S22 H locs h hP hD hS => ?_)
    refine lv_aload_n C.1 C.2.1 dX0_provedIfClosed_23 rfl (lv_at hl 1 rfl) ?_
    refine lv_aload_n C.1 C.2.1 dX0_provedIfClosed_24 rfl (lv_at hl 1 rfl) ?_
    refine gX0_trial C hK hP dX0_provedIfClosed_25 ?_
    refine lv_iconst (v := (-1)) C.1 C.2.1 dX0_provedIfClosed_28 (by decide) ?_
    refine k_rwVi C (wX_ad _) hK hP hD hS hA [.ref (a 13), .int (-1)] (wX_rv hK hP) h (fun v S2 e => tX0_prove ⟨by decide, by decide⟩ e) (cb_X0_136 C.2.2.2.2 ⟨Nat.le_of_ble_eq_true rfl, Nat.le_of_ble_eq_true rfl⟩) rfl hl.1 (Nat.le_of_ble_eq_true rfl) ⟨Nat.le_of_ble_eq_true rfl, Nat.le_of_ble_eq_true rfl⟩ dX0_provedIfClosed_29 rfl (fun x29 S29 H locs e29 h hP hD hS => ?_)
    refine lv_istore_n (lv' := [(3, .int x29), (2, .int (S 6 (v1 : Int32).toNatClampNeg)), (0, .ref (a 0)), (1, .int v1)]) C.1 C.2.1 dX0_provedIfClosed_32 rfl hl (by decide) rfl (fun ls hl => ?_)
    refine lv_aload_n C.1 C.2.1 dX0_provedIfClosed_33 rfl (lv_at hl 2 rfl) ?_
    refine gX0_open C hK hP dX0_provedIfClosed_34 ?_
    refine lv_iload_n C.1 C.2.1 dX0_provedIfClosed_37 rfl (lv_at hl 3 rfl) ?_
    refine lv_iload_n C.1 C.2.1 dX0_provedIfClosed_38 rfl (lv_at hl 1 rfl) ?_
    refine sX0_open C hK hP hD hS h dX0_provedIfClosed_39 (fun S39 H locs h hP hD hS => ?_)
    refine lv_iload_n C.1 C.2.1 dX0_provedIfClosed_40 rfl (lv_at hl 0 rfl) ?_
    exact k_iretW (w := wX cI cZ a) C hr hlk h hP hS dX0_provedIfClosed_41
  · refine lv_aload_n C.1 C.2.1 dX0_provedIfClosed_11 rfl (lv_at hl 1 rfl) ?_
    refine gX0_proved C hK hP dX0_provedIfClosed_12 ?_
    exact k_iretW (w := wX cI cZ a) C hr hlk h hP hS dX0_provedIfClosed_15
set_option maxHeartbeats 4000000 in
set_option maxRecDepth 100000 in
theorem tX0_advise {l : Launch} {D : va_G} {cI cZ : ClassId} {a : Nat → Nat} {S : XS} {sz : Nat} {z : (Int32 × XS)} (h : mX_advise S = some z) : Met l yX0_advise (Cond.code yX0_advise cX0_advise 7 (some .int) :: WW) ({ frames := 6, cells := 0, slots := 0, locals := 142 }) (va_Pc [.ref (a 0)] (rwP D (wX cI cZ a S) (tyIZ cI cZ) sz)) (rwQi D (wX cI cZ a z.2) z.1 (va_A (wX cI cZ a S) sz)) 0 0 (va_A (wX cI cZ a S) sz) := by
  refine RW_of (own := RX0) (Qc := fun A => rwQi D (wX cI cZ a z.2) z.1 A) (by decide) rfl (Nat.le_of_ble_eq_true rfl) ?_
  intro p e s m args below meth c A ha C hr hlk hP hK hD hA ls hl
  have hS : va_S A s.heap s.heap [] := va_S.rf
  have hl : lv_has ls 7 [(0, .ref (a 0))] := hl
  have L34 : ∀ (v3 : Int32) (v4 : Int32) (k : XS → Int32 → Int32 → Int32 → Option (Int32 × XS)) (hk : ∀ (S : XS) (v1 : Int32) (v2 : Int32) (v4 : Int32), k S v1 v2 v4 = some z → ∀ (H : Heap) (locs : List Loc) (hP : va_P D vwCl (wX cI cZ a S) H) (hD : va_D A (wX cI cZ a S)) (hS : va_S A s.heap H locs) (ls : Array Slot), lv_has ls 7 [(0, .ref (a 0)), (1, .int v1), (2, .int v2), (3, .int v3), (4, .int v4)] → W p l e { frames := 6, cells := 0, slots := 0, locals := 142 } s m args below meth c H locs 0 0 (MQ below (rwQi D (wX cI cZ a z.2) z.1 A) args s 0 0 A) (F0 m 20 ls [])) (n : Nat) (S : XS) (v1 : Int32) (v2 : Int32) (v5 : Int32), itr4 (mX_advise_F34 k v3 v4) n S v1 v2 v5 = some z → ∀ (H : Heap) (locs : List Loc) (hP : va_P D vwCl (wX cI cZ a S) H) (hD : va_D A (wX cI cZ a S)) (hS : va_S A s.heap H locs) (ls : Array Slot), lv_has ls 7 [(0, .ref (a 0)), (1, .int v1), (2, .int v2), (3, .int v3), (4, .int v4), (5, .int v5)] → W p l e { frames := 6, cells := 0, slots := 0, locals := 142 } s m args below meth c H locs 0 0 (MQ below (rwQi D (wX cI cZ a z.2) z.1 A) args s 0 0 A) (F0 m 34 ls []) := by
    intro v3 v4 k hk n
    refine itr4_ind (fun (S : XS) (v1 : Int32) (v2 : Int32) (v5 : Int32) => ∀ (H : Heap) (locs : List Loc) (hP : va_P D vwCl (wX cI cZ a S) H) (hD : va_D A (wX cI cZ a S)) (hS : va_S A s.heap H locs) (ls : Array Slot), lv_has ls 7 [(0, .ref (a 0)), (1, .int v1), (2, .int v2), (3, .int v3), (4, .int v4), (5, .int v5)] → W p l e { frames := 6, cells := 0, slots := 0, locals := 142 } s m args below meth c H locs 0 0 (MQ below (rwQi D (wX cI cZ a z.2) z.1 A) args s 0 0 A) (F0 m 34 ls [])) ?_ n
    intro ih hih S v1 v2 v5 h H locs hP hD hS ls hl
    unfold mX_advise_F34 at h
    refine lv_iload C.1 C.2.1 dX0_advise_34 (lv_at hl 5 rfl) ?_
    refine lv_aload_n C.1 C.2.1 dX0_advise_36 rfl (lv_at hl 0 rfl) ?_
    refine gX0_steps C hK hP dX0_advise_37 ?_
    refine lv_iload_n C.1 C.2.1 dX0_advise_40 rfl (lv_at hl 3 rfl) ?_
    refine lv_iload C.1 C.2.1 dX0_advise_41 (lv_at hl 4 rfl) ?_
    refine k_prS C [.int v3, .int v4] h (fun v e => tX0_slotOf e) (cb_X0_73 C.2.2.2.2 ⟨Nat.le_of_ble_eq_true rfl, Nat.le_of_ble_eq_true rfl⟩) rfl hl.1 (Nat.le_of_ble_eq_true rfl) ⟨Nat.le_of_ble_eq_true rfl, Nat.le_of_ble_eq_true rfl⟩ dX0_advise_43 rfl (fun x43 e43 h => ?_)
    refine lX0_steps C hK hP h dX0_advise_46 (fun h => ?_)
    refine k_icmp_ge (tgt := 93) C dX0_advise_47 (by decide) h (fun c47 h => ?_) (fun c47 h => ?_)
    · refine lv_iinc (v := (v4 + 1)) (lv' := [(4, .int (v4 + 1)), (0, .ref (a 0)), (1, .int v1), (2, .int v2), (3, .int v3), (5, .int v5)]) C.1 C.2.1 dX0_advise_93 hl (k := 4) rfl rfl (by decide) rfl (fun ls hl => ?_)
      refine lv_goto (tgt := 20) C.1 C.2.1 dX0_advise_96 (by decide) ?_
      exact hk S v1 v2 (v4 + 1) h _ _ hP hD hS ls (lv_sub hl [1, 2, 3, 4, 0] rfl)
    · refine lv_aload_n C.1 C.2.1 dX0_advise_50 rfl (lv_at hl 0 rfl) ?_
      refine lv_iload_n C.1 C.2.1 dX0_advise_51 rfl (lv_at hl 3 rfl) ?_
      refine lv_iload C.1 C.2.1 dX0_advise_52 (lv_at hl 4 rfl) ?_
      refine lv_iload C.1 C.2.1 dX0_advise_54 (lv_at hl 5 rfl) ?_
      refine k_prS C [.int v3, .int v4, .int v5] h (fun v e => tX0_stepAt e) (cb_X0_99 C.2.2.2.2 ⟨Nat.le_of_ble_eq_true rfl, Nat.le_of_ble_eq_true rfl⟩) rfl hl.1 (Nat.le_of_ble_eq_true rfl) ⟨Nat.le_of_ble_eq_true rfl, Nat.le_of_ble_eq_true rfl⟩ dX0_advise_56 rfl (fun x56 e56 h => ?_)
      refine k_rwVi C (wX_ad _) hK hP hD hS hA [.int x56] (wX_rv hK hP) h (fun v S2 e => tX0_provedIfClosed e) (cb_X0_143 C.2.2.2.2 ⟨Nat.le_of_ble_eq_true rfl, Nat.le_of_ble_eq_true rfl⟩) rfl hl.1 (Nat.le_of_ble_eq_true rfl) ⟨Nat.le_of_ble_eq_true rfl, Nat.le_of_ble_eq_true rfl⟩ dX0_advise_59 rfl (fun x59 S59 H locs e59 h hP hD hS => ?_)
      refine lv_istore (lv' := [(6, .int x59), (0, .ref (a 0)), (1, .int v1), (2, .int v2), (3, .int v3), (4, .int v4), (5, .int v5)]) C.1 C.2.1 dX0_advise_62 hl (by decide) rfl (fun ls hl => ?_)
      refine lv_iload C.1 C.2.1 dX0_advise_64 (lv_at hl 0 rfl) ?_
      refine lv_iload_n C.1 C.2.1 dX0_advise_66 rfl (lv_at hl 3 rfl) ?_
      refine k_icmp_le (tgt := 87) C dX0_advise_67 (by decide) h (fun c67 h => ?_) (fun c67 h => ?_)
      · refine lv_iinc (v := (v5 + 1)) (lv' := [(5, .int (v5 + 1)), (6, .int x59), (0, .ref (a 0)), (1, .int v1), (2, .int v2), (3, .int v3), (4, .int v4)]) C.1 C.2.1 dX0_advise_87 hl (k := 6) rfl rfl (by decide) rfl (fun ls hl => ?_)
        refine lv_goto (tgt := 34) C.1 C.2.1 dX0_advise_90 (by decide) ?_
        exact hih S59 v1 v2 (v5 + 1) h _ _ hP hD hS ls (lv_sub hl [2, 3, 4, 5, 6, 0] rfl)
      · refine lv_iload C.1 C.2.1 dX0_advise_70 (lv_at hl 0 rfl) ?_
        refine lv_istore_n (lv' := [(2, .int x59), (6, .int x59), (0, .ref (a 0)), (1, .int v1), (3, .int v3), (4, .int v4), (5, .int v5)]) C.1 C.2.1 dX0_advise_72 rfl hl (by decide) rfl (fun ls hl => ?_)
        refine lv_bipush (v := 100) C.1 C.2.1 dX0_advise_73 (by decide) ?_
        refine lv_iload_n C.1 C.2.1 dX0_advise_75 rfl (lv_at hl 4 rfl) ?_
        refine lv_imul C.1 C.2.1 dX0_advise_76 ?_
        refine lv_bipush (v := 10) C.1 C.2.1 dX0_advise_77 (by decide) ?_
        refine lv_iload C.1 C.2.1 dX0_advise_79 (lv_at hl 5 rfl) ?_
        refine lv_imul C.1 C.2.1 dX0_advise_81 ?_
        refine lv_iadd C.1 C.2.1 dX0_advise_82 ?_
        refine lv_iload C.1 C.2.1 dX0_advise_83 (lv_at hl 6 rfl) ?_
        refine lv_iadd C.1 C.2.1 dX0_advise_85 ?_
        refine lv_istore_n (lv' := [(1, .int (((100 * v3) + (10 * v4)) + v5)), (2, .int x59), (6, .int x59), (0, .ref (a 0)), (3, .int v3), (4, .int v4), (5, .int v5)]) C.1 C.2.1 dX0_advise_86 rfl hl (by decide) rfl (fun ls hl => ?_)
        refine lv_iinc (v := (v5 + 1)) (lv' := [(5, .int (v5 + 1)), (1, .int (((100 * v3) + (10 * v4)) + v5)), (2, .int x59), (6, .int x59), (0, .ref (a 0)), (3, .int v3), (4, .int v4)]) C.1 C.2.1 dX0_advise_87 hl (k := 6) rfl rfl (by decide) rfl (fun ls hl => ?_)
        refine lv_goto (tgt := 34) C.1 C.2.1 dX0_advise_90 (by decide) ?_
        exact hih S59 (((100 * v3) + (10 * v4)) + v5) x59 (v5 + 1) h _ _ hP hD hS ls (lv_sub hl [4, 1, 2, 5, 6, 0] rfl)
  have L20 : ∀ (v3 : Int32) (k : XS → Int32 → Int32 → Int32 → Option (Int32 × XS)) (hk : ∀ (S : XS) (v1 : Int32) (v2 : Int32) (v3 : Int32), k S v1 v2 v3 = some z → ∀ (H : Heap) (locs : List Loc) (hP : va_P D vwCl (wX cI cZ a S) H) (hD : va_D A (wX cI cZ a S)) (hS : va_S A s.heap H locs) (ls : Array Slot), lv_has ls 7 [(0, .ref (a 0)), (1, .int v1), (2, .int v2), (3, .int v3)] → W p l e { frames := 6, cells := 0, slots := 0, locals := 142 } s m args below meth c H locs 0 0 (MQ below (rwQi D (wX cI cZ a z.2) z.1 A) args s 0 0 A) (F0 m 9 ls [])) (n : Nat) (S : XS) (v1 : Int32) (v2 : Int32) (v4 : Int32), itr4 (mX_advise_F20 k v3) n S v1 v2 v4 = some z → ∀ (H : Heap) (locs : List Loc) (hP : va_P D vwCl (wX cI cZ a S) H) (hD : va_D A (wX cI cZ a S)) (hS : va_S A s.heap H locs) (ls : Array Slot), lv_has ls 7 [(0, .ref (a 0)), (1, .int v1), (2, .int v2), (3, .int v3), (4, .int v4)] → W p l e { frames := 6, cells := 0, slots := 0, locals := 142 } s m args below meth c H locs 0 0 (MQ below (rwQi D (wX cI cZ a z.2) z.1 A) args s 0 0 A) (F0 m 20 ls []) := by
    intro v3 k hk n
    refine itr4_ind (fun (S : XS) (v1 : Int32) (v2 : Int32) (v4 : Int32) => ∀ (H : Heap) (locs : List Loc) (hP : va_P D vwCl (wX cI cZ a S) H) (hD : va_D A (wX cI cZ a S)) (hS : va_S A s.heap H locs) (ls : Array Slot), lv_has ls 7 [(0, .ref (a 0)), (1, .int v1), (2, .int v2), (3, .int v3), (4, .int v4)] → W p l e { frames := 6, cells := 0, slots := 0, locals := 142 } s m args below meth c H locs 0 0 (MQ below (rwQi D (wX cI cZ a z.2) z.1 A) args s 0 0 A) (F0 m 20 ls [])) ?_ n
    intro ih hih S v1 v2 v4 h H locs hP hD hS ls hl
    unfold mX_advise_F20 at h
    refine lv_iload C.1 C.2.1 dX0_advise_20 (lv_at hl 4 rfl) ?_
    refine lv_aload_n C.1 C.2.1 dX0_advise_22 rfl (lv_at hl 0 rfl) ?_
    refine gX0_proofs C hK hP dX0_advise_23 ?_
    refine lv_iload_n C.1 C.2.1 dX0_advise_26 rfl (lv_at hl 3 rfl) ?_
    refine lX0_proofs C hK hP h dX0_advise_27 (fun h => ?_)
    refine k_icmp_ge (tgt := 99) C dX0_advise_28 (by decide) h (fun c28 h => ?_) (fun c28 h => ?_)
    · refine lv_iinc (v := (v3 + 1)) (lv' := [(3, .int (v3 + 1)), (0, .ref (a 0)), (1, .int v1), (2, .int v2), (4, .int v4)]) C.1 C.2.1 dX0_advise_99 hl (k := 3) rfl rfl (by decide) rfl (fun ls hl => ?_)
      refine lv_goto (tgt := 9) C.1 C.2.1 dX0_advise_102 (by decide) ?_
      exact hk S v1 v2 (v3 + 1) h _ _ hP hD hS ls (lv_sub hl [1, 2, 3, 0] rfl)
    · refine lv_iconst (v := 0) C.1 C.2.1 dX0_advise_31 (by decide) ?_
      refine lv_istore (lv' := [(5, .int 0), (0, .ref (a 0)), (1, .int v1), (2, .int v2), (3, .int v3), (4, .int v4)]) C.1 C.2.1 dX0_advise_32 hl (by decide) rfl (fun ls hl => ?_)
      exact L34 v3 v4 ih hih _ S v1 v2 0 h _ _ hP hD hS ls (lv_sub hl [1, 2, 3, 4, 5, 0] rfl)
  have L9 : ∀  (n : Nat) (S : XS) (v1 : Int32) (v2 : Int32) (v3 : Int32), itr4 (mX_advise_F9) n S v1 v2 v3 = some z → ∀ (H : Heap) (locs : List Loc) (hP : va_P D vwCl (wX cI cZ a S) H) (hD : va_D A (wX cI cZ a S)) (hS : va_S A s.heap H locs) (ls : Array Slot), lv_has ls 7 [(0, .ref (a 0)), (1, .int v1), (2, .int v2), (3, .int v3)] → W p l e { frames := 6, cells := 0, slots := 0, locals := 142 } s m args below meth c H locs 0 0 (MQ below (rwQi D (wX cI cZ a z.2) z.1 A) args s 0 0 A) (F0 m 9 ls []) := by
    intro n
    refine itr4_ind (fun (S : XS) (v1 : Int32) (v2 : Int32) (v3 : Int32) => ∀ (H : Heap) (locs : List Loc) (hP : va_P D vwCl (wX cI cZ a S) H) (hD : va_D A (wX cI cZ a S)) (hS : va_S A s.heap H locs) (ls : Array Slot), lv_has ls 7 [(0, .ref (a 0)), (1, .int v1), (2, .int v2), (3, .int v3)] → W p l e { frames := 6, cells := 0, slots := 0, locals := 142 } s m args below meth c H locs 0 0 (MQ below (rwQi D (wX cI cZ a z.2) z.1 A) args s 0 0 A) (F0 m 9 ls [])) ?_ n
    intro ih hih S v1 v2 v3 h H locs hP hD hS ls hl
    unfold mX_advise_F9 at h
    refine lv_iload_n C.1 C.2.1 dX0_advise_9 rfl (lv_at hl 3 rfl) ?_
    refine lv_aload_n C.1 C.2.1 dX0_advise_10 rfl (lv_at hl 0 rfl) ?_
    refine gX0_lemmas C hK hP dX0_advise_11 ?_
    refine k_icmp_ge (tgt := 105) C dX0_advise_14 (by decide) h (fun c14 h => ?_) (fun c14 h => ?_)
    · refine lv_iload_n C.1 C.2.1 dX0_advise_105 rfl (lv_at hl 1 rfl) ?_
      exact k_iretW (w := wX cI cZ a) C hr hlk h hP hS dX0_advise_106
    · refine lv_iconst (v := 0) C.1 C.2.1 dX0_advise_17 (by decide) ?_
      refine lv_istore (lv' := [(4, .int 0), (0, .ref (a 0)), (1, .int v1), (2, .int v2), (3, .int v3)]) C.1 C.2.1 dX0_advise_18 hl (by decide) rfl (fun ls hl => ?_)
      exact L20 v3 ih hih _ S v1 v2 0 h _ _ hP hD hS ls (lv_sub hl [1, 2, 3, 4, 0] rfl)
  unfold mX_advise at h
  refine lv_iconst (v := (-1)) C.1 C.2.1 dX0_advise_0 (by decide) ?_
  refine lv_istore_n (lv' := [(1, .int (-1)), (0, .ref (a 0))]) C.1 C.2.1 dX0_advise_1 rfl hl (by decide) rfl (fun ls hl => ?_)
  refine lv_aload_n C.1 C.2.1 dX0_advise_2 rfl (lv_at hl 1 rfl) ?_
  refine gX0_proved C hK hP dX0_advise_3 ?_
  refine lv_istore_n (lv' := [(2, .int (S 15 0)), (1, .int (-1)), (0, .ref (a 0))]) C.1 C.2.1 dX0_advise_6 rfl hl (by decide) rfl (fun ls hl => ?_)
  refine lv_iconst (v := 0) C.1 C.2.1 dX0_advise_7 (by decide) ?_
  refine lv_istore_n (lv' := [(3, .int 0), (2, .int (S 15 0)), (1, .int (-1)), (0, .ref (a 0))]) C.1 C.2.1 dX0_advise_8 rfl hl (by decide) rfl (fun ls hl => ?_)
  exact L9 _ S (-1) (S 15 0) 0 h _ _ hP hD hS ls (lv_sub hl [3, 2, 1, 0] rfl)
set_option maxHeartbeats 4000000 in
set_option maxRecDepth 100000 in
theorem tX0_digestProof {l : Launch} {D : va_G} {cI cZ : ClassId} {a : Nat → Nat} {S : XS} {v1 : Int64} {v3 : Int32} {z : Int64} (h : mX_digestProof S v1 v3 = some z) : Met l yX0_digestProof (Cond.code yX0_digestProof cX0_digestProof 8 (some .long) :: WW) ({ frames := 1, cells := 0, slots := 0, locals := 22 }) (va_Pc [.ref (a 0), .long v1, .int v3] (roP D (wX cI cZ a S) (tyIZ cI cZ))) (vp_Sl (fun r => r = z)) 0 0 (fun _ => False) := by
  refine RO_of (own := RX0) (by decide) rfl (Nat.le_of_ble_eq_true rfl) ?_
  intro p e s m args below meth c ha C hr hlk hP hK ls hl
  have hl : lv_has ls 8 [(0, .ref (a 0)), (1, .long v1), (3, .int v3)] := hl
  have L34 : ∀ (v3 : Int32) (v6 : Int32) (k : Int64 → Int32 → Option Int64) (hk : ∀ (v4 : Int64) (v6 : Int32), k v4 v6 = some z → ∀ ls : Array Slot, lv_has ls 8 [(0, .ref (a 0)), (3, .int v3), (4, .long v4), (6, .int v6)] → W p l e { frames := 1, cells := 0, slots := 0, locals := 22 } s m args below meth c s.heap [] 0 0 (MQ below (vp_Sl (fun r => r = z)) args s 0 0 (fun _ => False)) (F0 m 21 ls [])) (n : Nat) (v4 : Int64) (v7 : Int32), itr2 (mX_digestProof_F34 S k v3 v6) n v4 v7 = some z → ∀ ls : Array Slot, lv_has ls 8 [(0, .ref (a 0)), (3, .int v3), (4, .long v4), (6, .int v6), (7, .int v7)] → W p l e { frames := 1, cells := 0, slots := 0, locals := 22 } s m args below meth c s.heap [] 0 0 (MQ below (vp_Sl (fun r => r = z)) args s 0 0 (fun _ => False)) (F0 m 34 ls []) := by
    intro v3 v6 k hk n
    refine itr2_ind (fun (v4 : Int64) (v7 : Int32) => ∀ ls : Array Slot, lv_has ls 8 [(0, .ref (a 0)), (3, .int v3), (4, .long v4), (6, .int v6), (7, .int v7)] → W p l e { frames := 1, cells := 0, slots := 0, locals := 22 } s m args below meth c s.heap [] 0 0 (MQ below (vp_Sl (fun r => r = z)) args s 0 0 (fun _ => False)) (F0 m 34 ls [])) ?_ n
    intro ih hih v4 v7 h ls hl
    unfold mX_digestProof_F34 at h
    refine lv_iload C.1 C.2.1 dX0_digestProof_34 (lv_at hl 4 rfl) ?_
    refine lv_iconst (v := 4) C.1 C.2.1 dX0_digestProof_36 (by decide) ?_
    refine k_icmp_ge (tgt := 64) C dX0_digestProof_37 (by decide) h (fun c37 h => ?_) (fun c37 h => ?_)
    · refine lv_iinc (v := (v6 + 1)) (lv' := [(6, .int (v6 + 1)), (0, .ref (a 0)), (3, .int v3), (4, .long v4), (7, .int v7)]) C.1 C.2.1 dX0_digestProof_64 hl (k := 3) rfl rfl (by decide) rfl (fun ls hl => ?_)
      refine lv_goto (tgt := 21) C.1 C.2.1 dX0_digestProof_67 (by decide) ?_
      exact hk v4 (v6 + 1) h ls (lv_sub hl [1, 2, 3, 0] rfl)
    · refine lv_lload C.1 C.2.1 dX0_digestProof_40 (lv_at hl 2 rfl) ?_
      refine lv_ldc2 C.1 C.2.1 C.2.2.2.1 (C.2.2.2.2 _ qL_X0_151) dX0_digestProof_42 ?_
      refine lv_lmul C.1 C.2.1 dX0_digestProof_45 ?_
      refine lv_aload_n C.1 C.2.1 dX0_digestProof_46 rfl (lv_at hl 0 rfl) ?_
      refine lv_iload C.1 C.2.1 dX0_digestProof_47 (lv_at hl 3 rfl) ?_
      refine lv_iload C.1 C.2.1 dX0_digestProof_49 (lv_at hl 4 rfl) ?_
      refine k_roVi C hK hP [.int v6, .int v7] (wX_rv hK hP) h (fun v e => tX0_stepTells e) (cb_X0_119 C.2.2.2.2 ⟨Nat.le_of_ble_eq_true rfl, Nat.le_of_ble_eq_true rfl⟩) rfl hl.1 (Nat.le_of_ble_eq_true rfl) ⟨Nat.le_of_ble_eq_true rfl, Nat.le_of_ble_eq_true rfl⟩ dX0_digestProof_51 rfl (fun x51 e51 h => ?_)
      refine lv_i2l (v := x51.toInt64) C.1 C.2.1 dX0_digestProof_54 rfl ?_
      refine lv_ladd C.1 C.2.1 dX0_digestProof_55 ?_
      refine lv_lstore (lv' := [(4, .long ((v4 * 31) + (x51 : Int32).toInt64)), (0, .ref (a 0)), (3, .int v3), (6, .int v6), (7, .int v7)]) C.1 C.2.1 dX0_digestProof_56 hl (by decide) rfl (fun ls hl => ?_)
      refine lv_iinc (v := (v7 + 1)) (lv' := [(7, .int (v7 + 1)), (4, .long ((v4 * 31) + (x51 : Int32).toInt64)), (0, .ref (a 0)), (3, .int v3), (6, .int v6)]) C.1 C.2.1 dX0_digestProof_58 hl (k := 4) rfl rfl (by decide) rfl (fun ls hl => ?_)
      refine lv_goto (tgt := 34) C.1 C.2.1 dX0_digestProof_61 (by decide) ?_
      exact hih ((v4 * 31) + (x51 : Int32).toInt64) (v7 + 1) h ls (lv_sub hl [2, 3, 1, 4, 0] rfl)
  have L21 : ∀ (v3 : Int32) (n : Nat) (v4 : Int64) (v6 : Int32), itr2 (mX_digestProof_F21 S v3) n v4 v6 = some z → ∀ ls : Array Slot, lv_has ls 8 [(0, .ref (a 0)), (3, .int v3), (4, .long v4), (6, .int v6)] → W p l e { frames := 1, cells := 0, slots := 0, locals := 22 } s m args below meth c s.heap [] 0 0 (MQ below (vp_Sl (fun r => r = z)) args s 0 0 (fun _ => False)) (F0 m 21 ls []) := by
    intro v3 n
    refine itr2_ind (fun (v4 : Int64) (v6 : Int32) => ∀ ls : Array Slot, lv_has ls 8 [(0, .ref (a 0)), (3, .int v3), (4, .long v4), (6, .int v6)] → W p l e { frames := 1, cells := 0, slots := 0, locals := 22 } s m args below meth c s.heap [] 0 0 (MQ below (vp_Sl (fun r => r = z)) args s 0 0 (fun _ => False)) (F0 m 21 ls [])) ?_ n
    intro ih hih v4 v6 h ls hl
    unfold mX_digestProof_F21 at h
    refine lv_iload C.1 C.2.1 dX0_digestProof_21 (lv_at hl 3 rfl) ?_
    refine lv_aload_n C.1 C.2.1 dX0_digestProof_23 rfl (lv_at hl 0 rfl) ?_
    refine lv_iload_n C.1 C.2.1 dX0_digestProof_24 rfl (lv_at hl 1 rfl) ?_
    refine k_roVi C hK hP [.int v3] (wX_rv hK hP) h (fun v e => tX0_endOfSteps e) (cb_X0_86 C.2.2.2.2 ⟨Nat.le_of_ble_eq_true rfl, Nat.le_of_ble_eq_true rfl⟩) rfl hl.1 (Nat.le_of_ble_eq_true rfl) ⟨Nat.le_of_ble_eq_true rfl, Nat.le_of_ble_eq_true rfl⟩ dX0_digestProof_25 rfl (fun x25 e25 h => ?_)
    refine k_icmp_ge (tgt := 70) C dX0_digestProof_28 (by decide) h (fun c28 h => ?_) (fun c28 h => ?_)
    · refine lv_lload C.1 C.2.1 dX0_digestProof_70 (lv_at hl 2 rfl) ?_
      exact k_lret C hr hlk h dX0_digestProof_72
    · refine lv_iconst (v := 0) C.1 C.2.1 dX0_digestProof_31 (by decide) ?_
      refine lv_istore (lv' := [(7, .int 0), (0, .ref (a 0)), (3, .int v3), (4, .long v4), (6, .int v6)]) C.1 C.2.1 dX0_digestProof_32 hl (by decide) rfl (fun ls hl => ?_)
      exact L34 v3 v6 ih hih _ v4 0 h ls (lv_sub hl [1, 2, 3, 4, 0] rfl)
  unfold mX_digestProof at h
  refine lv_lload_n C.1 C.2.1 dX0_digestProof_0 rfl (lv_at hl 1 rfl) ?_
  refine lv_ldc2 C.1 C.2.1 C.2.2.2.1 (C.2.2.2.2 _ qL_X0_151) dX0_digestProof_1 ?_
  refine lv_lmul C.1 C.2.1 dX0_digestProof_4 ?_
  refine lv_aload_n C.1 C.2.1 dX0_digestProof_5 rfl (lv_at hl 0 rfl) ?_
  refine gX0_steps C hK hP dX0_digestProof_6 ?_
  refine lv_iload_n C.1 C.2.1 dX0_digestProof_9 rfl (lv_at hl 2 rfl) ?_
  refine lX0_steps C hK hP h dX0_digestProof_10 (fun h => ?_)
  refine lv_i2l (v := (S 3 (v3 : Int32).toNatClampNeg).toInt64) C.1 C.2.1 dX0_digestProof_11 rfl ?_
  refine lv_ladd C.1 C.2.1 dX0_digestProof_12 ?_
  refine lv_lstore (lv' := [(4, .long ((v1 * 31) + ((S 3 (v3 : Int32).toNatClampNeg) : Int32).toInt64)), (0, .ref (a 0)), (1, .long v1), (3, .int v3)]) C.1 C.2.1 dX0_digestProof_13 hl (by decide) rfl (fun ls hl => ?_)
  refine lv_iload_n C.1 C.2.1 dX0_digestProof_15 rfl (lv_at hl 3 rfl) ?_
  refine k_prS C [.int v3] h (fun v e => tX0_firstStepOf e) (cb_X0_181 C.2.2.2.2 ⟨Nat.le_of_ble_eq_true rfl, Nat.le_of_ble_eq_true rfl⟩) rfl hl.1 (Nat.le_of_ble_eq_true rfl) ⟨Nat.le_of_ble_eq_true rfl, Nat.le_of_ble_eq_true rfl⟩ dX0_digestProof_16 rfl (fun x16 e16 h => ?_)
  refine lv_istore (lv' := [(6, .int x16), (4, .long ((v1 * 31) + ((S 3 (v3 : Int32).toNatClampNeg) : Int32).toInt64)), (0, .ref (a 0)), (1, .long v1), (3, .int v3)]) C.1 C.2.1 dX0_digestProof_19 hl (by decide) rfl (fun ls hl => ?_)
  exact L21 v3 _ ((v1 * 31) + ((S 3 (v3 : Int32).toNatClampNeg) : Int32).toInt64) x16 h ls (lv_sub hl [2, 4, 1, 0] rfl)
set_option maxHeartbeats 4000000 in
set_option maxRecDepth 100000 in
theorem tX0_digestLemma {l : Launch} {D : va_G} {cI cZ : ClassId} {a : Nat → Nat} {S : XS} {v1 : Int64} {v3 : Int32} {z : Int64} (h : mX_digestLemma S v1 v3 = some z) : Met l yX0_digestLemma (Cond.code yX0_digestLemma cX0_digestLemma 7 (some .long) :: WW) ({ frames := 3, cells := 0, slots := 0, locals := 68 }) (va_Pc [.ref (a 0), .long v1, .int v3] (roP D (wX cI cZ a S) (tyIZ cI cZ))) (vp_Sl (fun r => r = z)) 0 0 (fun _ => False) := by
  refine RO_of (own := RX0) (by decide) rfl (Nat.le_of_ble_eq_true rfl) ?_
  intro p e s m args below meth c ha C hr hlk hP hK ls hl
  have hl : lv_has ls 7 [(0, .ref (a 0)), (1, .long v1), (3, .int v3)] := hl
  have L39 : ∀ (v3 : Int32) (n : Nat) (v4 : Int64) (v6 : Int32), itr2 (mX_digestLemma_F39 S v3) n v4 v6 = some z → ∀ ls : Array Slot, lv_has ls 7 [(0, .ref (a 0)), (3, .int v3), (4, .long v4), (6, .int v6)] → W p l e { frames := 3, cells := 0, slots := 0, locals := 68 } s m args below meth c s.heap [] 0 0 (MQ below (vp_Sl (fun r => r = z)) args s 0 0 (fun _ => False)) (F0 m 39 ls []) := by
    intro v3 n
    refine itr2_ind (fun (v4 : Int64) (v6 : Int32) => ∀ ls : Array Slot, lv_has ls 7 [(0, .ref (a 0)), (3, .int v3), (4, .long v4), (6, .int v6)] → W p l e { frames := 3, cells := 0, slots := 0, locals := 68 } s m args below meth c s.heap [] 0 0 (MQ below (vp_Sl (fun r => r = z)) args s 0 0 (fun _ => False)) (F0 m 39 ls [])) ?_ n
    intro ih hih v4 v6 h ls hl
    unfold mX_digestLemma_F39 at h
    refine lv_iload C.1 C.2.1 dX0_digestLemma_39 (lv_at hl 3 rfl) ?_
    refine lv_aload_n C.1 C.2.1 dX0_digestLemma_41 rfl (lv_at hl 0 rfl) ?_
    refine gX0_proofs C hK hP dX0_digestLemma_42 ?_
    refine lv_iload_n C.1 C.2.1 dX0_digestLemma_45 rfl (lv_at hl 1 rfl) ?_
    refine lX0_proofs C hK hP h dX0_digestLemma_46 (fun h => ?_)
    refine k_icmp_ge (tgt := 70) C dX0_digestLemma_47 (by decide) h (fun c47 h => ?_) (fun c47 h => ?_)
    · refine lv_lload C.1 C.2.1 dX0_digestLemma_70 (lv_at hl 2 rfl) ?_
      exact k_lret C hr hlk h dX0_digestLemma_72
    · refine lv_aload_n C.1 C.2.1 dX0_digestLemma_50 rfl (lv_at hl 0 rfl) ?_
      refine lv_lload C.1 C.2.1 dX0_digestLemma_51 (lv_at hl 2 rfl) ?_
      refine lv_iload_n C.1 C.2.1 dX0_digestLemma_53 rfl (lv_at hl 1 rfl) ?_
      refine lv_iload C.1 C.2.1 dX0_digestLemma_54 (lv_at hl 3 rfl) ?_
      refine k_prS C [.int v3, .int v6] h (fun v e => tX0_slotOf e) (cb_X0_73 C.2.2.2.2 ⟨Nat.le_of_ble_eq_true rfl, Nat.le_of_ble_eq_true rfl⟩) rfl hl.1 (Nat.le_of_ble_eq_true rfl) ⟨Nat.le_of_ble_eq_true rfl, Nat.le_of_ble_eq_true rfl⟩ dX0_digestLemma_56 rfl (fun x56 e56 h => ?_)
      refine k_roVl C hK hP [.long v4, .int x56] (wX_rv hK hP) h (fun v e => tX0_digestProof e) (cb_X0_239 C.2.2.2.2 ⟨Nat.le_of_ble_eq_true rfl, Nat.le_of_ble_eq_true rfl⟩) rfl hl.1 (Nat.le_of_ble_eq_true rfl) ⟨Nat.le_of_ble_eq_true rfl, Nat.le_of_ble_eq_true rfl⟩ dX0_digestLemma_59 rfl (fun x59 e59 h => ?_)
      refine lv_lstore (lv' := [(4, .long x59), (0, .ref (a 0)), (3, .int v3), (6, .int v6)]) C.1 C.2.1 dX0_digestLemma_62 hl (by decide) rfl (fun ls hl => ?_)
      refine lv_iinc (v := (v6 + 1)) (lv' := [(6, .int (v6 + 1)), (4, .long x59), (0, .ref (a 0)), (3, .int v3)]) C.1 C.2.1 dX0_digestLemma_64 hl (k := 3) rfl rfl (by decide) rfl (fun ls hl => ?_)
      refine lv_goto (tgt := 39) C.1 C.2.1 dX0_digestLemma_67 (by decide) ?_
      exact hih x59 (v6 + 1) h ls (lv_sub hl [2, 3, 1, 0] rfl)
  have L6 : ∀ (v3 : Int32) (n : Nat) (v4 : Int64) (v6 : Int32), itr2 (mX_digestLemma_F6 S v3) n v4 v6 = some z → ∀ ls : Array Slot, lv_has ls 7 [(0, .ref (a 0)), (3, .int v3), (4, .long v4), (6, .int v6)] → W p l e { frames := 3, cells := 0, slots := 0, locals := 68 } s m args below meth c s.heap [] 0 0 (MQ below (vp_Sl (fun r => r = z)) args s 0 0 (fun _ => False)) (F0 m 6 ls []) := by
    intro v3 n
    refine itr2_ind (fun (v4 : Int64) (v6 : Int32) => ∀ ls : Array Slot, lv_has ls 7 [(0, .ref (a 0)), (3, .int v3), (4, .long v4), (6, .int v6)] → W p l e { frames := 3, cells := 0, slots := 0, locals := 68 } s m args below meth c s.heap [] 0 0 (MQ below (vp_Sl (fun r => r = z)) args s 0 0 (fun _ => False)) (F0 m 6 ls [])) ?_ n
    intro ih hih v4 v6 h ls hl
    unfold mX_digestLemma_F6 at h
    refine lv_iload C.1 C.2.1 dX0_digestLemma_6 (lv_at hl 3 rfl) ?_
    refine lv_bipush (v := 7) C.1 C.2.1 dX0_digestLemma_8 (by decide) ?_
    refine k_icmp_ge (tgt := 36) C dX0_digestLemma_10 (by decide) h (fun c10 h => ?_) (fun c10 h => ?_)
    · refine lv_iconst (v := 0) C.1 C.2.1 dX0_digestLemma_36 (by decide) ?_
      refine lv_istore (lv' := [(6, .int 0), (0, .ref (a 0)), (3, .int v3), (4, .long v4)]) C.1 C.2.1 dX0_digestLemma_37 hl (by decide) rfl (fun ls hl => ?_)
      exact L39 v3 _ v4 0 h ls (lv_sub hl [1, 2, 3, 0] rfl)
    · refine lv_lload C.1 C.2.1 dX0_digestLemma_13 (lv_at hl 2 rfl) ?_
      refine lv_ldc2 C.1 C.2.1 C.2.2.2.1 (C.2.2.2.2 _ qL_X0_151) dX0_digestLemma_15 ?_
      refine lv_lmul C.1 C.2.1 dX0_digestLemma_18 ?_
      refine lv_aload_n C.1 C.2.1 dX0_digestLemma_19 rfl (lv_at hl 0 rfl) ?_
      refine lv_iload_n C.1 C.2.1 dX0_digestLemma_20 rfl (lv_at hl 1 rfl) ?_
      refine lv_iload C.1 C.2.1 dX0_digestLemma_21 (lv_at hl 3 rfl) ?_
      refine k_roVi C hK hP [.int v3, .int v6] (wX_rv hK hP) h (fun v e => tX0_lemmaTells e) (cb_X0_116 C.2.2.2.2 ⟨Nat.le_of_ble_eq_true rfl, Nat.le_of_ble_eq_true rfl⟩) rfl hl.1 (Nat.le_of_ble_eq_true rfl) ⟨Nat.le_of_ble_eq_true rfl, Nat.le_of_ble_eq_true rfl⟩ dX0_digestLemma_23 rfl (fun x23 e23 h => ?_)
      refine lv_i2l (v := x23.toInt64) C.1 C.2.1 dX0_digestLemma_26 rfl ?_
      refine lv_ladd C.1 C.2.1 dX0_digestLemma_27 ?_
      refine lv_lstore (lv' := [(4, .long ((v4 * 31) + (x23 : Int32).toInt64)), (0, .ref (a 0)), (3, .int v3), (6, .int v6)]) C.1 C.2.1 dX0_digestLemma_28 hl (by decide) rfl (fun ls hl => ?_)
      refine lv_iinc (v := (v6 + 1)) (lv' := [(6, .int (v6 + 1)), (4, .long ((v4 * 31) + (x23 : Int32).toInt64)), (0, .ref (a 0)), (3, .int v3)]) C.1 C.2.1 dX0_digestLemma_30 hl (k := 3) rfl rfl (by decide) rfl (fun ls hl => ?_)
      refine lv_goto (tgt := 6) C.1 C.2.1 dX0_digestLemma_33 (by decide) ?_
      exact hih ((v4 * 31) + (x23 : Int32).toInt64) (v6 + 1) h ls (lv_sub hl [2, 3, 1, 0] rfl)
  unfold mX_digestLemma at h
  refine lv_lload_n C.1 C.2.1 dX0_digestLemma_0 rfl (lv_at hl 1 rfl) ?_
  refine lv_lstore (lv' := [(4, .long v1), (0, .ref (a 0)), (1, .long v1), (3, .int v3)]) C.1 C.2.1 dX0_digestLemma_1 hl (by decide) rfl (fun ls hl => ?_)
  refine lv_iconst (v := 0) C.1 C.2.1 dX0_digestLemma_3 (by decide) ?_
  refine lv_istore (lv' := [(6, .int 0), (4, .long v1), (0, .ref (a 0)), (1, .long v1), (3, .int v3)]) C.1 C.2.1 dX0_digestLemma_4 hl (by decide) rfl (fun ls hl => ?_)
  exact L6 v3 _ v1 0 h ls (lv_sub hl [2, 4, 1, 0] rfl)
set_option maxHeartbeats 4000000 in
set_option maxRecDepth 100000 in
theorem tX0_digest {l : Launch} {D : va_G} {cI cZ : ClassId} {a : Nat → Nat} {S : XS} {z : Int64} (h : mX_digest S = some z) : Met l yX0_digest (Cond.code yX0_digest cX0_digest 4 (some .long) :: WW) ({ frames := 5, cells := 0, slots := 0, locals := 112 }) (va_Pc [.ref (a 0)] (roP D (wX cI cZ a S) (tyIZ cI cZ))) (vp_Sl (fun r => r = z)) 0 0 (fun _ => False) := by
  refine RO_of (own := RX0) (by decide) rfl (Nat.le_of_ble_eq_true rfl) ?_
  intro p e s m args below meth c ha C hr hlk hP hK ls hl
  have hl : lv_has ls 4 [(0, .ref (a 0))] := hl
  have L68 : ∀  (n : Nat) (v1 : Int64) (v3 : Int32), itr2 (mX_digest_F68 S) n v1 v3 = some z → ∀ ls : Array Slot, lv_has ls 4 [(0, .ref (a 0)), (1, .long v1), (3, .int v3)] → W p l e { frames := 5, cells := 0, slots := 0, locals := 112 } s m args below meth c s.heap [] 0 0 (MQ below (vp_Sl (fun r => r = z)) args s 0 0 (fun _ => False)) (F0 m 68 ls []) := by
    intro n
    refine itr2_ind (fun (v1 : Int64) (v3 : Int32) => ∀ ls : Array Slot, lv_has ls 4 [(0, .ref (a 0)), (1, .long v1), (3, .int v3)] → W p l e { frames := 5, cells := 0, slots := 0, locals := 112 } s m args below meth c s.heap [] 0 0 (MQ below (vp_Sl (fun r => r = z)) args s 0 0 (fun _ => False)) (F0 m 68 ls [])) ?_ n
    intro ih hih v1 v3 h ls hl
    unfold mX_digest_F68 at h
    refine lv_iload_n C.1 C.2.1 dX0_digest_68 rfl (lv_at hl 2 rfl) ?_
    refine lv_aload_n C.1 C.2.1 dX0_digest_69 rfl (lv_at hl 0 rfl) ?_
    refine gX0_lemmas C hK hP dX0_digest_70 ?_
    refine k_icmp_ge (tgt := 89) C dX0_digest_73 (by decide) h (fun c73 h => ?_) (fun c73 h => ?_)
    · refine lv_lload_n C.1 C.2.1 dX0_digest_89 rfl (lv_at hl 1 rfl) ?_
      exact k_lret C hr hlk h dX0_digest_90
    · refine lv_aload_n C.1 C.2.1 dX0_digest_76 rfl (lv_at hl 0 rfl) ?_
      refine lv_lload_n C.1 C.2.1 dX0_digest_77 rfl (lv_at hl 1 rfl) ?_
      refine lv_iload_n C.1 C.2.1 dX0_digest_78 rfl (lv_at hl 2 rfl) ?_
      refine k_roVl C hK hP [.long v1, .int v3] (wX_rv hK hP) h (fun v e => tX0_digestLemma e) (cb_X0_153 C.2.2.2.2 ⟨Nat.le_of_ble_eq_true rfl, Nat.le_of_ble_eq_true rfl⟩) rfl hl.1 (Nat.le_of_ble_eq_true rfl) ⟨Nat.le_of_ble_eq_true rfl, Nat.le_of_ble_eq_true rfl⟩ dX0_digest_79 rfl (fun x79 e79 h => ?_)
      refine lv_lstore_n (lv' := [(1, .long x79), (0, .ref (a 0)), (3, .int v3)]) C.1 C.2.1 dX0_digest_82 rfl hl (by decide) rfl (fun ls hl => ?_)
      refine lv_iinc (v := (v3 + 1)) (lv' := [(3, .int (v3 + 1)), (1, .long x79), (0, .ref (a 0))]) C.1 C.2.1 dX0_digest_83 hl (k := 2) rfl rfl (by decide) rfl (fun ls hl => ?_)
      refine lv_goto (tgt := 68) C.1 C.2.1 dX0_digest_86 (by decide) ?_
      exact hih x79 (v3 + 1) h ls (lv_sub hl [2, 1, 0] rfl)
  have L33 : ∀  (n : Nat) (v1 : Int64) (v3 : Int32), itr2 (mX_digest_F33 S) n v1 v3 = some z → ∀ ls : Array Slot, lv_has ls 4 [(0, .ref (a 0)), (1, .long v1), (3, .int v3)] → W p l e { frames := 5, cells := 0, slots := 0, locals := 112 } s m args below meth c s.heap [] 0 0 (MQ below (vp_Sl (fun r => r = z)) args s 0 0 (fun _ => False)) (F0 m 33 ls []) := by
    intro n
    refine itr2_ind (fun (v1 : Int64) (v3 : Int32) => ∀ ls : Array Slot, lv_has ls 4 [(0, .ref (a 0)), (1, .long v1), (3, .int v3)] → W p l e { frames := 5, cells := 0, slots := 0, locals := 112 } s m args below meth c s.heap [] 0 0 (MQ below (vp_Sl (fun r => r = z)) args s 0 0 (fun _ => False)) (F0 m 33 ls [])) ?_ n
    intro ih hih v1 v3 h ls hl
    unfold mX_digest_F33 at h
    refine lv_iload_n C.1 C.2.1 dX0_digest_33 rfl (lv_at hl 2 rfl) ?_
    refine lv_iconst (v := 5) C.1 C.2.1 dX0_digest_34 (by decide) ?_
    refine k_icmp_ge (tgt := 66) C dX0_digest_35 (by decide) h (fun c35 h => ?_) (fun c35 h => ?_)
    · refine lv_iconst (v := 0) C.1 C.2.1 dX0_digest_66 (by decide) ?_
      refine lv_istore_n (lv' := [(3, .int 0), (0, .ref (a 0)), (1, .long v1)]) C.1 C.2.1 dX0_digest_67 rfl hl (by decide) rfl (fun ls hl => ?_)
      exact L68 _ v1 0 h ls (lv_sub hl [1, 2, 0] rfl)
    · refine lv_lload_n C.1 C.2.1 dX0_digest_38 rfl (lv_at hl 1 rfl) ?_
      refine lv_ldc2 C.1 C.2.1 C.2.2.2.1 (C.2.2.2.2 _ qL_X0_151) dX0_digest_39 ?_
      refine lv_lmul C.1 C.2.1 dX0_digest_42 ?_
      refine lv_aload_n C.1 C.2.1 dX0_digest_43 rfl (lv_at hl 0 rfl) ?_
      refine gX0_taken C hK hP dX0_digest_44 ?_
      refine lv_iload_n C.1 C.2.1 dX0_digest_47 rfl (lv_at hl 2 rfl) ?_
      refine lX0_taken C hK hP h dX0_digest_48 (fun h => ?_)
      refine k_if_eq (tgt := 56) C dX0_digest_49 (by decide) h (fun c49 h => ?_) (fun c49 h => ?_)
      · refine lv_iconst (v := 0) C.1 C.2.1 dX0_digest_56 (by decide) ?_
        refine lv_i2l (v := (0 : Int32).toInt64) C.1 C.2.1 dX0_digest_57 rfl ?_
        refine lv_ladd C.1 C.2.1 dX0_digest_58 ?_
        refine lv_lstore_n (lv' := [(1, .long ((v1 * 31) + (0 : Int32).toInt64)), (0, .ref (a 0)), (3, .int v3)]) C.1 C.2.1 dX0_digest_59 rfl hl (by decide) rfl (fun ls hl => ?_)
        refine lv_iinc (v := (v3 + 1)) (lv' := [(3, .int (v3 + 1)), (1, .long ((v1 * 31) + (0 : Int32).toInt64)), (0, .ref (a 0))]) C.1 C.2.1 dX0_digest_60 hl (k := 2) rfl rfl (by decide) rfl (fun ls hl => ?_)
        refine lv_goto (tgt := 33) C.1 C.2.1 dX0_digest_63 (by decide) ?_
        exact hih ((v1 * 31) + (0 : Int32).toInt64) (v3 + 1) h ls (lv_sub hl [2, 1, 0] rfl)
      · refine lv_iconst (v := 1) C.1 C.2.1 dX0_digest_52 (by decide) ?_
        refine lv_goto (tgt := 57) C.1 C.2.1 dX0_digest_53 (by decide) ?_
        refine lv_i2l (v := (1 : Int32).toInt64) C.1 C.2.1 dX0_digest_57 rfl ?_
        refine lv_ladd C.1 C.2.1 dX0_digest_58 ?_
        refine lv_lstore_n (lv' := [(1, .long ((v1 * 31) + (1 : Int32).toInt64)), (0, .ref (a 0)), (3, .int v3)]) C.1 C.2.1 dX0_digest_59 rfl hl (by decide) rfl (fun ls hl => ?_)
        refine lv_iinc (v := (v3 + 1)) (lv' := [(3, .int (v3 + 1)), (1, .long ((v1 * 31) + (1 : Int32).toInt64)), (0, .ref (a 0))]) C.1 C.2.1 dX0_digest_60 hl (k := 2) rfl rfl (by decide) rfl (fun ls hl => ?_)
        refine lv_goto (tgt := 33) C.1 C.2.1 dX0_digest_63 (by decide) ?_
        exact hih ((v1 * 31) + (1 : Int32).toInt64) (v3 + 1) h ls (lv_sub hl [2, 1, 0] rfl)
  have L6 : ∀  (n : Nat) (v1 : Int64) (v3 : Int32), itr2 (mX_digest_F6 S) n v1 v3 = some z → ∀ ls : Array Slot, lv_has ls 4 [(0, .ref (a 0)), (1, .long v1), (3, .int v3)] → W p l e { frames := 5, cells := 0, slots := 0, locals := 112 } s m args below meth c s.heap [] 0 0 (MQ below (vp_Sl (fun r => r = z)) args s 0 0 (fun _ => False)) (F0 m 6 ls []) := by
    intro n
    refine itr2_ind (fun (v1 : Int64) (v3 : Int32) => ∀ ls : Array Slot, lv_has ls 4 [(0, .ref (a 0)), (1, .long v1), (3, .int v3)] → W p l e { frames := 5, cells := 0, slots := 0, locals := 112 } s m args below meth c s.heap [] 0 0 (MQ below (vp_Sl (fun r => r = z)) args s 0 0 (fun _ => False)) (F0 m 6 ls [])) ?_ n
    intro ih hih v1 v3 h ls hl
    unfold mX_digest_F6 at h
    refine lv_iload_n C.1 C.2.1 dX0_digest_6 rfl (lv_at hl 2 rfl) ?_
    refine lv_bipush (v := 7) C.1 C.2.1 dX0_digest_7 (by decide) ?_
    refine k_icmp_ge (tgt := 31) C dX0_digest_9 (by decide) h (fun c9 h => ?_) (fun c9 h => ?_)
    · refine lv_iconst (v := 0) C.1 C.2.1 dX0_digest_31 (by decide) ?_
      refine lv_istore_n (lv' := [(3, .int 0), (0, .ref (a 0)), (1, .long v1)]) C.1 C.2.1 dX0_digest_32 rfl hl (by decide) rfl (fun ls hl => ?_)
      exact L33 _ v1 0 h ls (lv_sub hl [1, 2, 0] rfl)
    · refine lv_lload_n C.1 C.2.1 dX0_digest_12 rfl (lv_at hl 1 rfl) ?_
      refine lv_ldc2 C.1 C.2.1 C.2.2.2.1 (C.2.2.2.2 _ qL_X0_151) dX0_digest_13 ?_
      refine lv_lmul C.1 C.2.1 dX0_digest_16 ?_
      refine lv_aload_n C.1 C.2.1 dX0_digest_17 rfl (lv_at hl 0 rfl) ?_
      refine lv_iload_n C.1 C.2.1 dX0_digest_18 rfl (lv_at hl 2 rfl) ?_
      refine k_roVi C hK hP [.int v3] (wX_rv hK hP) h (fun v e => tX0_countOf e) (cb_X0_133 C.2.2.2.2 ⟨Nat.le_of_ble_eq_true rfl, Nat.le_of_ble_eq_true rfl⟩) rfl hl.1 (Nat.le_of_ble_eq_true rfl) ⟨Nat.le_of_ble_eq_true rfl, Nat.le_of_ble_eq_true rfl⟩ dX0_digest_19 rfl (fun x19 e19 h => ?_)
      refine lv_i2l (v := x19.toInt64) C.1 C.2.1 dX0_digest_22 rfl ?_
      refine lv_ladd C.1 C.2.1 dX0_digest_23 ?_
      refine lv_lstore_n (lv' := [(1, .long ((v1 * 31) + (x19 : Int32).toInt64)), (0, .ref (a 0)), (3, .int v3)]) C.1 C.2.1 dX0_digest_24 rfl hl (by decide) rfl (fun ls hl => ?_)
      refine lv_iinc (v := (v3 + 1)) (lv' := [(3, .int (v3 + 1)), (1, .long ((v1 * 31) + (x19 : Int32).toInt64)), (0, .ref (a 0))]) C.1 C.2.1 dX0_digest_25 hl (k := 2) rfl rfl (by decide) rfl (fun ls hl => ?_)
      refine lv_goto (tgt := 6) C.1 C.2.1 dX0_digest_28 (by decide) ?_
      exact hih ((v1 * 31) + (x19 : Int32).toInt64) (v3 + 1) h ls (lv_sub hl [2, 1, 0] rfl)
  unfold mX_digest at h
  refine lv_ldc2 C.1 C.2.1 C.2.2.2.1 (C.2.2.2.2 _ qL_X0_149) dX0_digest_0 ?_
  refine lv_lstore_n (lv' := [(1, .long 1847), (0, .ref (a 0))]) C.1 C.2.1 dX0_digest_3 rfl hl (by decide) rfl (fun ls hl => ?_)
  refine lv_iconst (v := 0) C.1 C.2.1 dX0_digest_4 (by decide) ?_
  refine lv_istore_n (lv' := [(3, .int 0), (1, .long 1847), (0, .ref (a 0))]) C.1 C.2.1 dX0_digest_5 rfl hl (by decide) rfl (fun ls hl => ?_)
  exact L6 _ 1847 0 h ls (lv_sub hl [2, 1, 0] rfl)
set_option maxHeartbeats 4000000 in
set_option maxRecDepth 100000 in
theorem tX0_mean {l : Launch} {D : va_G} {cI cZ : ClassId} {a : Nat → Nat} {S : XS} {z : UInt64} (h : mX_mean S = some z) : Met l yX0_mean (Cond.code yX0_mean cX0_mean 1 (some .double) :: WW) ({ frames := 4, cells := 0, slots := 0, locals := 91 }) (va_Pc [.ref (a 0)] (roP D (wX cI cZ a S) (tyIZ cI cZ))) (vp_Sd (fun r => r = z)) 0 0 (fun _ => False) := by
  refine RO_of (own := RX0) (by decide) rfl (Nat.le_of_ble_eq_true rfl) ?_
  intro p e s m args below meth c ha C hr hlk hP hK ls hl
  have hl : lv_has ls 1 [(0, .ref (a 0))] := hl
  unfold mX_mean at h
  refine lv_aload_n C.1 C.2.1 dX0_mean_0 rfl (lv_at hl 0 rfl) ?_
  refine gX0_lemmas C hK hP dX0_mean_1 ?_
  refine k_if_ne (tgt := 11) C dX0_mean_4 (by decide) h (fun c4 h => ?_) (fun c4 h => ?_)
  · refine lv_aload_n C.1 C.2.1 dX0_mean_11 rfl (lv_at hl 0 rfl) ?_
    refine lv_iconst (v := 1) C.1 C.2.1 dX0_mean_12 (by decide) ?_
    refine k_roVi C hK hP [.int 1] (wX_rv hK hP) h (fun v e => tX0_overLemmas e) (cb_X0_146 C.2.2.2.2 ⟨Nat.le_of_ble_eq_true rfl, Nat.le_of_ble_eq_true rfl⟩) rfl hl.1 (Nat.le_of_ble_eq_true rfl) ⟨Nat.le_of_ble_eq_true rfl, Nat.le_of_ble_eq_true rfl⟩ dX0_mean_13 rfl (fun x13 e13 h => ?_)
    refine lv_i2d C.1 C.2.1 dX0_mean_16 ?_
    refine lv_aload_n C.1 C.2.1 dX0_mean_17 rfl (lv_at hl 0 rfl) ?_
    refine gX0_lemmas C hK hP dX0_mean_18 ?_
    refine lv_i2d C.1 C.2.1 dX0_mean_21 ?_
    refine k_ddiv C h dX0_mean_22 (fun h => ?_)
    exact k_dret C hr hlk h dX0_mean_23
  · refine lv_dconst0 C.1 C.2.1 dX0_mean_7 ?_
    refine lv_goto (tgt := 23) C.1 C.2.1 dX0_mean_8 (by decide) ?_
    exact k_dret C hr hlk h dX0_mean_23
set_option maxHeartbeats 4000000 in
set_option maxRecDepth 100000 in
theorem tX0_lemma {l : Launch} {D : va_G} {cI cZ : ClassId} {a : Nat → Nat} {S : XS} {sz : Nat} {z : ((Int32 × XS) ⊕ Nat)} (hfl : l.stackTraces = false) (h : mX_lemma S = some z) : tx_Met l yX0_lemma (Cond.code yX0_lemma cX0_lemma 1 (some .int) :: WW) ({ frames := 6, cells := 1, slots := 6, locals := 140 }) (va_Pc [.ref (a 0)] (fun U => rwP D (wX cI cZ a S) (tyIZ cI cZ) sz U ∧ excU U)) (tqiW D (wX cI cZ a) (va_A (wX cI cZ a S) sz) z) (txX z) 1 6 (va_A (wX cI cZ a S) sz) := by
  refine TXW_of (own := RX0) (QF := fun A => tqiW D (wX cI cZ a) A z) (by decide) rfl (Nat.le_of_ble_eq_true rfl) ?_
  intro p e s m args below meth c A ha C hr hlk hout hP hK hD hA hE ls hl
  have hS : va_S A s.heap s.heap [] := va_S.rf
  have hl : lv_has ls 1 [(0, .ref (a 0))] := hl
  unfold mX_lemma at h
  refine lv_aload_n C.1 C.2.1 dX0_lemma_0 rfl (lv_at hl 0 rfl) ?_
  refine gX0_lemmas C hK hP dX0_lemma_1 ?_
  refine lv_bipush (v := 12) C.1 C.2.1 dX0_lemma_4 (by decide) ?_
  refine k_icmp_lt (tgt := 19) C dX0_lemma_6 (by decide) h (fun c6 h => ?_) (fun c6 h => ?_)
  · refine lv_aload_n C.1 C.2.1 dX0_lemma_19 rfl (lv_at hl 0 rfl) ?_
    refine lv_dup C.1 C.2.1 dX0_lemma_20 rfl ?_
    refine gX0_lemmas C hK hP dX0_lemma_21 ?_
    refine lv_iconst (v := 1) C.1 C.2.1 dX0_lemma_24 (by decide) ?_
    refine lv_iadd C.1 C.2.1 dX0_lemma_25 ?_
    refine pX0_lemmas C hK hP hD hS h dX0_lemma_26 (fun S26 H locs h hP hD hS => ?_)
    refine lv_aload_n C.1 C.2.1 dX0_lemma_29 rfl (lv_at hl 0 rfl) ?_
    refine k_rwVv C (wX_ad _) hK hP hD hS hA [] (wX_rv hK hP) h (fun v S2 e => tX0_settle e) (cb_X0_54 C.2.2.2.2 ⟨Nat.le_of_ble_eq_true rfl, Nat.le_of_ble_eq_true rfl⟩) rfl hl.1 (Nat.le_of_ble_eq_true rfl) ⟨Nat.le_of_ble_eq_true rfl, Nat.le_of_ble_eq_true rfl⟩ dX0_lemma_30 rfl (fun x30 S30 H locs e30 h hP hD hS => ?_)
    refine lv_aload_n C.1 C.2.1 dX0_lemma_33 rfl (lv_at hl 0 rfl) ?_
    refine gX0_lemmas C hK hP dX0_lemma_34 ?_
    refine lv_iconst (v := 1) C.1 C.2.1 dX0_lemma_37 (by decide) ?_
    refine lv_isub C.1 C.2.1 dX0_lemma_38 ?_
    exact k_iretTW (w := wX cI cZ a) C hr hlk h hP hS dX0_lemma_39
  · exact k_throw2 C hfl hE hlk hout h (List.mem_of_getElem? (i := 7) rfl) hl.1 (Nat.le_of_ble_eq_true rfl) (Nat.le_of_ble_eq_true rfl) (Nat.le_of_ble_eq_true rfl) (Nat.le_of_ble_eq_true rfl) dX0_lemma_9 dX0_lemma_12 dX0_lemma_13 dX0_lemma_15 dX0_lemma_18
set_option maxHeartbeats 4000000 in
set_option maxRecDepth 100000 in
theorem tX0_proof {l : Launch} {D : va_G} {cI cZ : ClassId} {a : Nat → Nat} {S : XS} {sz : Nat} {v1 : Int32} {z : ((Int32 × XS) ⊕ Nat)} (hfl : l.stackTraces = false) (h : mX_proof S v1 = some z) : tx_Met l yX0_proof (Cond.code yX0_proof cX0_proof 3 (some .int) :: WW) ({ frames := 7, cells := 1, slots := 6, locals := 140 }) (va_Pc [.ref (a 0), .int v1] (fun U => rwP D (wX cI cZ a S) (tyIZ cI cZ) sz U ∧ excU U)) (tqiW D (wX cI cZ a) (va_A (wX cI cZ a S) sz) z) (txX z) 1 6 (va_A (wX cI cZ a S) sz) := by
  refine TXW_of (own := RX0) (QF := fun A => tqiW D (wX cI cZ a) A z) (by decide) rfl (Nat.le_of_ble_eq_true rfl) ?_
  intro p e s m args below meth c A ha C hr hlk hout hP hK hD hA hE ls hl
  have hS : va_S A s.heap s.heap [] := va_S.rf
  have hl : lv_has ls 3 [(0, .ref (a 0)), (1, .int v1)] := hl
  unfold mX_proof at h
  refine lv_aload_n C.1 C.2.1 dX0_proof_0 rfl (lv_at hl 0 rfl) ?_
  refine lv_iload_n C.1 C.2.1 dX0_proof_1 rfl (lv_at hl 1 rfl) ?_
  refine k_txV C hE hlk hout hK hP (wX_rv hK hP) [.int v1] h (fun o e => tX0_requireLemma hfl e) (cb_X0_68 C.2.2.2.2 ⟨Nat.le_of_ble_eq_true rfl, Nat.le_of_ble_eq_true rfl⟩) rfl hl.1 (Nat.le_of_ble_eq_true rfl) ⟨Nat.le_of_ble_eq_true rfl, Nat.le_of_ble_eq_true rfl⟩ dX0_proof_2 rfl (fun x2 e2 h => ?_)
  refine lv_aload_n C.1 C.2.1 dX0_proof_5 rfl (lv_at hl 0 rfl) ?_
  refine gX0_proofs C hK hP dX0_proof_6 ?_
  refine lv_iload_n C.1 C.2.1 dX0_proof_9 rfl (lv_at hl 1 rfl) ?_
  refine lX0_proofs C hK hP h dX0_proof_10 (fun h => ?_)
  refine lv_istore_n (lv' := [(2, .int (S 2 (v1 : Int32).toNatClampNeg)), (0, .ref (a 0)), (1, .int v1)]) C.1 C.2.1 dX0_proof_11 rfl hl (by decide) rfl (fun ls hl => ?_)
  refine lv_iload_n C.1 C.2.1 dX0_proof_12 rfl (lv_at hl 0 rfl) ?_
  refine lv_iconst (v := 3) C.1 C.2.1 dX0_proof_13 (by decide) ?_
  refine k_icmp_lt (tgt := 27) C dX0_proof_14 (by decide) h (fun c14 h => ?_) (fun c14 h => ?_)
  · refine lv_aload_n C.1 C.2.1 dX0_proof_27 rfl (lv_at hl 1 rfl) ?_
    refine gX0_steps C hK hP dX0_proof_28 ?_
    refine lv_iload_n C.1 C.2.1 dX0_proof_31 rfl (lv_at hl 2 rfl) ?_
    refine lv_iload_n C.1 C.2.1 dX0_proof_32 rfl (lv_at hl 0 rfl) ?_
    refine k_prS C [.int v1, .int (S 2 (v1 : Int32).toNatClampNeg)] h (fun v e => tX0_slotOf e) (cb_X0_73 C.2.2.2.2 ⟨Nat.le_of_ble_eq_true rfl, Nat.le_of_ble_eq_true rfl⟩) rfl hl.1 (Nat.le_of_ble_eq_true rfl) ⟨Nat.le_of_ble_eq_true rfl, Nat.le_of_ble_eq_true rfl⟩ dX0_proof_33 rfl (fun x33 e33 h => ?_)
    refine lv_iconst (v := 0) C.1 C.2.1 dX0_proof_36 (by decide) ?_
    refine sX0_steps C hK hP hD hS h dX0_proof_37 (fun S37 H locs h hP hD hS => ?_)
    refine lv_aload_n C.1 C.2.1 dX0_proof_38 rfl (lv_at hl 1 rfl) ?_
    refine gX0_proofs C hK hP dX0_proof_39 ?_
    refine lv_iload_n C.1 C.2.1 dX0_proof_42 rfl (lv_at hl 2 rfl) ?_
    refine lv_iload_n C.1 C.2.1 dX0_proof_43 rfl (lv_at hl 0 rfl) ?_
    refine lv_iconst (v := 1) C.1 C.2.1 dX0_proof_44 (by decide) ?_
    refine lv_iadd C.1 C.2.1 dX0_proof_45 ?_
    refine sX0_proofs C hK hP hD hS h dX0_proof_46 (fun S46 H locs h hP hD hS => ?_)
    refine lv_aload_n C.1 C.2.1 dX0_proof_47 rfl (lv_at hl 1 rfl) ?_
    refine k_rwVv C (wX_ad _) hK hP hD hS hA [] (wX_rv hK hP) h (fun v S2 e => tX0_settle e) (cb_X0_54 C.2.2.2.2 ⟨Nat.le_of_ble_eq_true rfl, Nat.le_of_ble_eq_true rfl⟩) rfl hl.1 (Nat.le_of_ble_eq_true rfl) ⟨Nat.le_of_ble_eq_true rfl, Nat.le_of_ble_eq_true rfl⟩ dX0_proof_48 rfl (fun x48 S48 H locs e48 h hP hD hS => ?_)
    refine lv_iload_n C.1 C.2.1 dX0_proof_51 rfl (lv_at hl 0 rfl) ?_
    exact k_iretTW (w := wX cI cZ a) C hr hlk h hP hS dX0_proof_52
  · exact k_throw2 C hfl hE hlk hout h (List.mem_of_getElem? (i := 8) rfl) hl.1 (Nat.le_of_ble_eq_true rfl) (Nat.le_of_ble_eq_true rfl) (Nat.le_of_ble_eq_true rfl) (Nat.le_of_ble_eq_true rfl) dX0_proof_17 dX0_proof_20 dX0_proof_21 dX0_proof_23 dX0_proof_26
set_option maxHeartbeats 4000000 in
set_option maxRecDepth 100000 in
theorem tX0_moveUp {l : Launch} {D : va_G} {cI cZ : ClassId} {a : Nat → Nat} {S : XS} {sz : Nat} {v1 : Int32} {z : (Int32 × XS)} (h : mX_moveUp S v1 = some z) : Met l yX0_moveUp (Cond.code yX0_moveUp cX0_moveUp 5 none :: WW) ({ frames := 1, cells := 0, slots := 0, locals := 21 }) (va_Pc [.ref (a 0), .int v1] (rwP D (wX cI cZ a S) (tyIZ cI cZ) sz)) (rwQv D (wX cI cZ a z.2) (va_A (wX cI cZ a S) sz)) 0 0 (va_A (wX cI cZ a S) sz) := by
  refine RW_of (own := RX0) (Qc := fun A => rwQv D (wX cI cZ a z.2) A) (by decide) rfl (Nat.le_of_ble_eq_true rfl) ?_
  intro p e s m args below meth c A ha C hr hlk hP hK hD hA ls hl
  have hS : va_S A s.heap s.heap [] := va_S.rf
  have hl : lv_has ls 5 [(0, .ref (a 0)), (1, .int v1)] := hl
  have L32 : ∀ (v1 : Int32) (v3 : Int32) (n : Nat) (S : XS) (v4 : Int32), itr2 (mX_moveUp_F32 v1 v3) n S v4 = some z → ∀ (H : Heap) (locs : List Loc) (hP : va_P D vwCl (wX cI cZ a S) H) (hD : va_D A (wX cI cZ a S)) (hS : va_S A s.heap H locs) (ls : Array Slot), lv_has ls 5 [(0, .ref (a 0)), (1, .int v1), (3, .int v3), (4, .int v4)] → W p l e { frames := 1, cells := 0, slots := 0, locals := 21 } s m args below meth c H locs 0 0 (MQ below (rwQv D (wX cI cZ a z.2) A) args s 0 0 A) (F0 m 32 ls []) := by
    intro v1 v3 n
    refine itr2_ind (fun (S : XS) (v4 : Int32) => ∀ (H : Heap) (locs : List Loc) (hP : va_P D vwCl (wX cI cZ a S) H) (hD : va_D A (wX cI cZ a S)) (hS : va_S A s.heap H locs) (ls : Array Slot), lv_has ls 5 [(0, .ref (a 0)), (1, .int v1), (3, .int v3), (4, .int v4)] → W p l e { frames := 1, cells := 0, slots := 0, locals := 21 } s m args below meth c H locs 0 0 (MQ below (rwQv D (wX cI cZ a z.2) A) args s 0 0 A) (F0 m 32 ls [])) ?_ n
    intro ih hih S v4 h H locs hP hD hS ls hl
    unfold mX_moveUp_F32 at h
    refine lv_iload C.1 C.2.1 dX0_moveUp_32 (lv_at hl 3 rfl) ?_
    refine lv_aload_n C.1 C.2.1 dX0_moveUp_34 rfl (lv_at hl 0 rfl) ?_
    refine lv_iload_n C.1 C.2.1 dX0_moveUp_35 rfl (lv_at hl 1 rfl) ?_
    refine k_roVi C hK hP [.int v1] (wX_rv hK hP) h (fun v e => tX0_endOfSteps e) (cb_X0_86 C.2.2.2.2 ⟨Nat.le_of_ble_eq_true rfl, Nat.le_of_ble_eq_true rfl⟩) rfl hl.1 (Nat.le_of_ble_eq_true rfl) ⟨Nat.le_of_ble_eq_true rfl, Nat.le_of_ble_eq_true rfl⟩ dX0_moveUp_36 rfl (fun x36 e36 h => ?_)
    refine k_icmp_ge (tgt := 112) C dX0_moveUp_39 (by decide) h (fun c39 h => ?_) (fun c39 h => ?_)
    · exact k_vretW (w := wX cI cZ a) C hr hlk (v := 0) h hP hS dX0_moveUp_112
    · refine lv_aload_n C.1 C.2.1 dX0_moveUp_42 rfl (lv_at hl 0 rfl) ?_
      refine gX0_kinds C hK hP dX0_moveUp_43 ?_
      refine lv_iload C.1 C.2.1 dX0_moveUp_46 (lv_at hl 3 rfl) ?_
      refine lv_aload_n C.1 C.2.1 dX0_moveUp_48 rfl (lv_at hl 0 rfl) ?_
      refine gX0_kinds C hK hP dX0_moveUp_49 ?_
      refine lv_iload C.1 C.2.1 dX0_moveUp_52 (lv_at hl 3 rfl) ?_
      refine lv_iload_n C.1 C.2.1 dX0_moveUp_54 rfl (lv_at hl 2 rfl) ?_
      refine lv_iadd C.1 C.2.1 dX0_moveUp_55 ?_
      refine lX0_kinds C hK hP h dX0_moveUp_56 (fun h => ?_)
      refine sX0_kinds C hK hP hD hS h dX0_moveUp_57 (fun S57 H locs h hP hD hS => ?_)
      refine lv_aload_n C.1 C.2.1 dX0_moveUp_58 rfl (lv_at hl 0 rfl) ?_
      refine gX0_cited C hK hP dX0_moveUp_59 ?_
      refine lv_iload C.1 C.2.1 dX0_moveUp_62 (lv_at hl 3 rfl) ?_
      refine lv_aload_n C.1 C.2.1 dX0_moveUp_64 rfl (lv_at hl 0 rfl) ?_
      refine gX0_cited C hK hP dX0_moveUp_65 ?_
      refine lv_iload C.1 C.2.1 dX0_moveUp_68 (lv_at hl 3 rfl) ?_
      refine lv_iload_n C.1 C.2.1 dX0_moveUp_70 rfl (lv_at hl 2 rfl) ?_
      refine lv_iadd C.1 C.2.1 dX0_moveUp_71 ?_
      refine lX0_cited C hK hP h dX0_moveUp_72 (fun h => ?_)
      refine sX0_cited C hK hP hD hS h dX0_moveUp_73 (fun S73 H locs h hP hD hS => ?_)
      refine lv_aload_n C.1 C.2.1 dX0_moveUp_74 rfl (lv_at hl 0 rfl) ?_
      refine gX0_open C hK hP dX0_moveUp_75 ?_
      refine lv_iload C.1 C.2.1 dX0_moveUp_78 (lv_at hl 3 rfl) ?_
      refine lv_aload_n C.1 C.2.1 dX0_moveUp_80 rfl (lv_at hl 0 rfl) ?_
      refine gX0_open C hK hP dX0_moveUp_81 ?_
      refine lv_iload C.1 C.2.1 dX0_moveUp_84 (lv_at hl 3 rfl) ?_
      refine lv_iload_n C.1 C.2.1 dX0_moveUp_86 rfl (lv_at hl 2 rfl) ?_
      refine lv_iadd C.1 C.2.1 dX0_moveUp_87 ?_
      refine lX0_open C hK hP h dX0_moveUp_88 (fun h => ?_)
      refine sX0_open C hK hP hD hS h dX0_moveUp_89 (fun S89 H locs h hP hD hS => ?_)
      refine lv_aload_n C.1 C.2.1 dX0_moveUp_90 rfl (lv_at hl 0 rfl) ?_
      refine gX0_withdrawn C hK hP dX0_moveUp_91 ?_
      refine lv_iload C.1 C.2.1 dX0_moveUp_94 (lv_at hl 3 rfl) ?_
      refine lv_aload_n C.1 C.2.1 dX0_moveUp_96 rfl (lv_at hl 0 rfl) ?_
      refine gX0_withdrawn C hK hP dX0_moveUp_97 ?_
      refine lv_iload C.1 C.2.1 dX0_moveUp_100 (lv_at hl 3 rfl) ?_
      refine lv_iload_n C.1 C.2.1 dX0_moveUp_102 rfl (lv_at hl 2 rfl) ?_
      refine lv_iadd C.1 C.2.1 dX0_moveUp_103 ?_
      refine lX0_withdrawn C hK hP h dX0_moveUp_104 (fun h => ?_)
      refine sX0_withdrawn C hK hP hD hS h dX0_moveUp_105 (fun S105 H locs h hP hD hS => ?_)
      refine lv_iinc (v := (v4 + 1)) (lv' := [(4, .int (v4 + 1)), (0, .ref (a 0)), (1, .int v1), (3, .int v3)]) C.1 C.2.1 dX0_moveUp_106 hl (k := 3) rfl rfl (by decide) rfl (fun ls hl => ?_)
      refine lv_goto (tgt := 32) C.1 C.2.1 dX0_moveUp_109 (by decide) ?_
      exact hih S105 (v4 + 1) h _ _ hP hD hS ls (lv_sub hl [1, 2, 3, 0] rfl)
  unfold mX_moveUp at h
  refine lv_iload_n C.1 C.2.1 dX0_moveUp_0 rfl (lv_at hl 1 rfl) ?_
  refine lv_iconst (v := 1) C.1 C.2.1 dX0_moveUp_1 (by decide) ?_
  refine lv_iadd C.1 C.2.1 dX0_moveUp_2 ?_
  refine lv_istore_n (lv' := [(2, .int (v1 + 1)), (0, .ref (a 0)), (1, .int v1)]) C.1 C.2.1 dX0_moveUp_3 rfl hl (by decide) rfl (fun ls hl => ?_)
  refine lv_iload_n C.1 C.2.1 dX0_moveUp_4 rfl (lv_at hl 0 rfl) ?_
  refine k_prS C [.int (v1 + 1)] h (fun v e => tX0_firstStepOf e) (cb_X0_181 C.2.2.2.2 ⟨Nat.le_of_ble_eq_true rfl, Nat.le_of_ble_eq_true rfl⟩) rfl hl.1 (Nat.le_of_ble_eq_true rfl) ⟨Nat.le_of_ble_eq_true rfl, Nat.le_of_ble_eq_true rfl⟩ dX0_moveUp_5 rfl (fun x5 e5 h => ?_)
  refine lv_iload_n C.1 C.2.1 dX0_moveUp_8 rfl (lv_at hl 2 rfl) ?_
  refine k_prS C [.int v1] h (fun v e => tX0_firstStepOf e) (cb_X0_181 C.2.2.2.2 ⟨Nat.le_of_ble_eq_true rfl, Nat.le_of_ble_eq_true rfl⟩) rfl hl.1 (Nat.le_of_ble_eq_true rfl) ⟨Nat.le_of_ble_eq_true rfl, Nat.le_of_ble_eq_true rfl⟩ dX0_moveUp_9 rfl (fun x9 e9 h => ?_)
  refine lv_isub C.1 C.2.1 dX0_moveUp_12 ?_
  refine lv_istore_n (lv' := [(3, .int (x5 - x9)), (2, .int (v1 + 1)), (0, .ref (a 0)), (1, .int v1)]) C.1 C.2.1 dX0_moveUp_13 rfl hl (by decide) rfl (fun ls hl => ?_)
  refine lv_aload_n C.1 C.2.1 dX0_moveUp_14 rfl (lv_at hl 2 rfl) ?_
  refine gX0_steps C hK hP dX0_moveUp_15 ?_
  refine lv_iload_n C.1 C.2.1 dX0_moveUp_18 rfl (lv_at hl 3 rfl) ?_
  refine lv_aload_n C.1 C.2.1 dX0_moveUp_19 rfl (lv_at hl 2 rfl) ?_
  refine gX0_steps C hK hP dX0_moveUp_20 ?_
  refine lv_iload_n C.1 C.2.1 dX0_moveUp_23 rfl (lv_at hl 1 rfl) ?_
  refine lX0_steps C hK hP h dX0_moveUp_24 (fun h => ?_)
  refine sX0_steps C hK hP hD hS h dX0_moveUp_25 (fun S25 H locs h hP hD hS => ?_)
  refine lv_iload_n C.1 C.2.1 dX0_moveUp_26 rfl (lv_at hl 3 rfl) ?_
  refine k_prS C [.int v1] h (fun v e => tX0_firstStepOf e) (cb_X0_181 C.2.2.2.2 ⟨Nat.le_of_ble_eq_true rfl, Nat.le_of_ble_eq_true rfl⟩) rfl hl.1 (Nat.le_of_ble_eq_true rfl) ⟨Nat.le_of_ble_eq_true rfl, Nat.le_of_ble_eq_true rfl⟩ dX0_moveUp_27 rfl (fun x27 e27 h => ?_)
  refine lv_istore (lv' := [(4, .int x27), (3, .int (x5 - x9)), (2, .int (v1 + 1)), (0, .ref (a 0)), (1, .int v1)]) C.1 C.2.1 dX0_moveUp_30 hl (by decide) rfl (fun ls hl => ?_)
  exact L32 v1 (x5 - x9) _ S25 x27 h _ _ hP hD hS ls (lv_sub hl [3, 4, 1, 0] rfl)
set_option maxHeartbeats 4000000 in
set_option maxRecDepth 100000 in
theorem tX0_strike {l : Launch} {D : va_G} {cI cZ : ClassId} {a : Nat → Nat} {S : XS} {sz : Nat} {v1 : Int32} {v2 : Int32} {z : ((Int32 × XS) ⊕ Nat)} (hfl : l.stackTraces = false) (h : mX_strike S v1 v2 = some z) : tx_Met l yX0_strike (Cond.code yX0_strike cX0_strike 4 (some .int) :: WW) ({ frames := 8, cells := 1, slots := 6, locals := 140 }) (va_Pc [.ref (a 0), .int v1, .int v2] (fun U => rwP D (wX cI cZ a S) (tyIZ cI cZ) sz U ∧ excU U)) (tqiW D (wX cI cZ a) (va_A (wX cI cZ a S) sz) z) (txX z) 1 6 (va_A (wX cI cZ a S) sz) := by
  refine TXW_of (own := RX0) (QF := fun A => tqiW D (wX cI cZ a) A z) (by decide) rfl (Nat.le_of_ble_eq_true rfl) ?_
  intro p e s m args below meth c A ha C hr hlk hout hP hK hD hA hE ls hl
  have hS : va_S A s.heap s.heap [] := va_S.rf
  have hl : lv_has ls 4 [(0, .ref (a 0)), (1, .int v1), (2, .int v2)] := hl
  have L18 : ∀ (v1 : Int32) (n : Nat) (S : XS) (v3 : Int32), itr2 (mX_strike_F18 v1) n S v3 = some z → ∀ (H : Heap) (locs : List Loc) (hP : va_P D vwCl (wX cI cZ a S) H) (hD : va_D A (wX cI cZ a S)) (hS : va_S A s.heap H locs) (ls : Array Slot), lv_has ls 4 [(0, .ref (a 0)), (1, .int v1), (3, .int v3)] → W p l e { frames := 8, cells := 1, slots := 6, locals := 140 } s m args below meth c H locs 0 0 (tx_MQ below (tqiW D (wX cI cZ a) A z) (txX z) args s 1 6 A) (F0 m 18 ls []) := by
    intro v1 n
    refine itr2_ind (fun (S : XS) (v3 : Int32) => ∀ (H : Heap) (locs : List Loc) (hP : va_P D vwCl (wX cI cZ a S) H) (hD : va_D A (wX cI cZ a S)) (hS : va_S A s.heap H locs) (ls : Array Slot), lv_has ls 4 [(0, .ref (a 0)), (1, .int v1), (3, .int v3)] → W p l e { frames := 8, cells := 1, slots := 6, locals := 140 } s m args below meth c H locs 0 0 (tx_MQ below (tqiW D (wX cI cZ a) A z) (txX z) args s 1 6 A) (F0 m 18 ls [])) ?_ n
    intro ih hih S v3 h H locs hP hD hS ls hl
    unfold mX_strike_F18 at h
    refine lv_iload_n C.1 C.2.1 dX0_strike_18 rfl (lv_at hl 2 rfl) ?_
    refine lv_aload_n C.1 C.2.1 dX0_strike_19 rfl (lv_at hl 0 rfl) ?_
    refine gX0_proofs C hK hP dX0_strike_20 ?_
    refine lv_iload_n C.1 C.2.1 dX0_strike_23 rfl (lv_at hl 1 rfl) ?_
    refine lX0_proofs C hK hP h dX0_strike_24 (fun h => ?_)
    refine k_icmp_ge (tgt := 43) C dX0_strike_25 (by decide) h (fun c25 h => ?_) (fun c25 h => ?_)
    · refine lv_aload_n C.1 C.2.1 dX0_strike_43 rfl (lv_at hl 0 rfl) ?_
      refine k_rwVv C (wX_ad _) hK hP hD hS hA [] (wX_rv hK hP) h (fun v S2 e => tX0_settle e) (cb_X0_54 C.2.2.2.2 ⟨Nat.le_of_ble_eq_true rfl, Nat.le_of_ble_eq_true rfl⟩) rfl hl.1 (Nat.le_of_ble_eq_true rfl) ⟨Nat.le_of_ble_eq_true rfl, Nat.le_of_ble_eq_true rfl⟩ dX0_strike_44 rfl (fun x44 S44 H locs e44 h hP hD hS => ?_)
      refine lv_aload_n C.1 C.2.1 dX0_strike_47 rfl (lv_at hl 0 rfl) ?_
      refine gX0_proofs C hK hP dX0_strike_48 ?_
      refine lv_iload_n C.1 C.2.1 dX0_strike_51 rfl (lv_at hl 1 rfl) ?_
      refine lX0_proofs C hK hP h dX0_strike_52 (fun h => ?_)
      exact k_iretTW (w := wX cI cZ a) C hr hlk h hP hS dX0_strike_53
    · refine lv_aload_n C.1 C.2.1 dX0_strike_28 rfl (lv_at hl 0 rfl) ?_
      refine lv_iload_n C.1 C.2.1 dX0_strike_29 rfl (lv_at hl 1 rfl) ?_
      refine lv_iload_n C.1 C.2.1 dX0_strike_30 rfl (lv_at hl 2 rfl) ?_
      refine k_prS C [.int v1, .int v3] h (fun v e => tX0_slotOf e) (cb_X0_73 C.2.2.2.2 ⟨Nat.le_of_ble_eq_true rfl, Nat.le_of_ble_eq_true rfl⟩) rfl hl.1 (Nat.le_of_ble_eq_true rfl) ⟨Nat.le_of_ble_eq_true rfl, Nat.le_of_ble_eq_true rfl⟩ dX0_strike_31 rfl (fun x31 e31 h => ?_)
      refine k_rwVv C (wX_ad _) hK hP hD hS hA [.int x31] (wX_rv hK hP) h (fun v S2 e => tX0_moveUp e) (cb_X0_110 C.2.2.2.2 ⟨Nat.le_of_ble_eq_true rfl, Nat.le_of_ble_eq_true rfl⟩) rfl hl.1 (Nat.le_of_ble_eq_true rfl) ⟨Nat.le_of_ble_eq_true rfl, Nat.le_of_ble_eq_true rfl⟩ dX0_strike_34 rfl (fun x34 S34 H locs e34 h hP hD hS => ?_)
      refine lv_iinc (v := (v3 + 1)) (lv' := [(3, .int (v3 + 1)), (0, .ref (a 0)), (1, .int v1)]) C.1 C.2.1 dX0_strike_37 hl (k := 2) rfl rfl (by decide) rfl (fun ls hl => ?_)
      refine lv_goto (tgt := 18) C.1 C.2.1 dX0_strike_40 (by decide) ?_
      exact hih S34 (v3 + 1) h _ _ hP hD hS ls (lv_sub hl [1, 2, 0] rfl)
  unfold mX_strike at h
  refine lv_aload_n C.1 C.2.1 dX0_strike_0 rfl (lv_at hl 0 rfl) ?_
  refine lv_iload_n C.1 C.2.1 dX0_strike_1 rfl (lv_at hl 1 rfl) ?_
  refine lv_iload_n C.1 C.2.1 dX0_strike_2 rfl (lv_at hl 2 rfl) ?_
  refine k_txV C hE hlk hout hK hP (wX_rv hK hP) [.int v1, .int v2] h (fun o e => tX0_requireProof hfl e) (cb_X0_77 C.2.2.2.2 ⟨Nat.le_of_ble_eq_true rfl, Nat.le_of_ble_eq_true rfl⟩) rfl hl.1 (Nat.le_of_ble_eq_true rfl) ⟨Nat.le_of_ble_eq_true rfl, Nat.le_of_ble_eq_true rfl⟩ dX0_strike_3 rfl (fun x3 e3 h => ?_)
  refine lv_aload_n C.1 C.2.1 dX0_strike_6 rfl (lv_at hl 0 rfl) ?_
  refine gX0_proofs C hK hP dX0_strike_7 ?_
  refine lv_iload_n C.1 C.2.1 dX0_strike_10 rfl (lv_at hl 1 rfl) ?_
  refine lv_dup2_11 C.1 C.2.1 dX0_strike_11 rfl rfl ?_
  refine lX0_proofs C hK hP h dX0_strike_12 (fun h => ?_)
  refine lv_iconst (v := 1) C.1 C.2.1 dX0_strike_13 (by decide) ?_
  refine lv_isub C.1 C.2.1 dX0_strike_14 ?_
  refine sX0_proofs C hK hP hD hS h dX0_strike_15 (fun S15 H locs h hP hD hS => ?_)
  refine lv_iload_n C.1 C.2.1 dX0_strike_16 rfl (lv_at hl 2 rfl) ?_
  refine lv_istore_n (lv' := [(3, .int v2), (0, .ref (a 0)), (1, .int v1), (2, .int v2)]) C.1 C.2.1 dX0_strike_17 rfl hl (by decide) rfl (fun ls hl => ?_)
  exact L18 v1 _ S15 v2 h _ _ hP hD hS ls (lv_sub hl [1, 2, 0] rfl)
set_option maxHeartbeats 4000000 in
set_option maxRecDepth 100000 in
theorem tX0_requireCitable {l : Launch} {D : va_G} {cI cZ : ClassId} {a : Nat → Nat} {S : XS} {v1 : Int32} {v2 : Int32} {z : (Int32 ⊕ Nat)} (hfl : l.stackTraces = false) (h : mX_requireCitable S v1 v2 = some z) : tx_Met l yX0_requireCitable (Cond.code yX0_requireCitable cX0_requireCitable 3 none :: WW) ({ frames := 7, cells := 1, slots := 6, locals := 111 }) (va_Pc [.ref (a 0), .int v1, .int v2] (fun U => roP D (wX cI cZ a S) (tyIZ cI cZ) U ∧ excU U)) (tqv z) (txX z) 1 6 (fun _ => False) := by
  refine TX_of (own := RX0) (by decide) rfl (Nat.le_of_ble_eq_true rfl) ?_
  intro p e s m args below meth c ha C hr hlk hout hpre ls hl
  obtain ⟨⟨hP, hK⟩, hE⟩ := hpre
  have hl : lv_has ls 3 [(0, .ref (a 0)), (1, .int v1), (2, .int v2)] := hl
  unfold mX_requireCitable at h
  refine lv_iload_n C.1 C.2.1 dX0_requireCitable_0 rfl (lv_at hl 1 rfl) ?_
  refine k_if_lt (tgt := 9) C dX0_requireCitable_1 (by decide) h (fun c1 h => ?_) (fun c1 h => ?_)
  · exact k_throw1 C hfl hE hlk hout h (List.mem_of_getElem? (i := 9) rfl) hl.1 (Nat.le_of_ble_eq_true rfl) (Nat.le_of_ble_eq_true rfl) (Nat.le_of_ble_eq_true rfl) (Nat.le_of_ble_eq_true rfl) dX0_requireCitable_9 dX0_requireCitable_12 dX0_requireCitable_13 dX0_requireCitable_15 dX0_requireCitable_18
  · refine lv_iload_n C.1 C.2.1 dX0_requireCitable_4 rfl (lv_at hl 1 rfl) ?_
    refine lv_iconst (v := 2) C.1 C.2.1 dX0_requireCitable_5 (by decide) ?_
    refine k_icmp_le (tgt := 19) C dX0_requireCitable_6 (by decide) h (fun c6 h => ?_) (fun c6 h => ?_)
    · refine lv_iload_n C.1 C.2.1 dX0_requireCitable_19 rfl (lv_at hl 1 rfl) ?_
      refine k_if_ne (tgt := 30) C dX0_requireCitable_20 (by decide) h (fun c20 h => ?_) (fun c20 h => ?_)
      · refine lv_iload_n C.1 C.2.1 dX0_requireCitable_30 rfl (lv_at hl 1 rfl) ?_
        refine lv_iconst (v := 1) C.1 C.2.1 dX0_requireCitable_31 (by decide) ?_
        refine k_icmp_ne (tgt := 43) C dX0_requireCitable_32 (by decide) h (fun c32 h => ?_) (fun c32 h => ?_)
        · refine lv_iload_n C.1 C.2.1 dX0_requireCitable_43 rfl (lv_at hl 2 rfl) ?_
          refine lv_iconst (v := 1) C.1 C.2.1 dX0_requireCitable_44 (by decide) ?_
          refine k_icmp_lt (tgt := 54) C dX0_requireCitable_45 (by decide) h (fun c45 h => ?_) (fun c45 h => ?_)
          · exact k_throw3 C hfl hE hlk hout h (List.mem_of_getElem? (i := 10) rfl) hl.1 (Nat.le_of_ble_eq_true rfl) (Nat.le_of_ble_eq_true rfl) (Nat.le_of_ble_eq_true rfl) (Nat.le_of_ble_eq_true rfl) dX0_requireCitable_54 dX0_requireCitable_57 dX0_requireCitable_58 dX0_requireCitable_60 dX0_requireCitable_63
          · refine lv_iload_n C.1 C.2.1 dX0_requireCitable_48 rfl (lv_at hl 2 rfl) ?_
            refine lv_bipush (v := 9) C.1 C.2.1 dX0_requireCitable_49 (by decide) ?_
            refine k_icmp_le (tgt := 64) C dX0_requireCitable_51 (by decide) h (fun c51 h => ?_) (fun c51 h => ?_)
            · exact k_vretT C hr hlk (v := 0) h dX0_requireCitable_64
            · exact k_throw3 C hfl hE hlk hout h (List.mem_of_getElem? (i := 10) rfl) hl.1 (Nat.le_of_ble_eq_true rfl) (Nat.le_of_ble_eq_true rfl) (Nat.le_of_ble_eq_true rfl) (Nat.le_of_ble_eq_true rfl) dX0_requireCitable_54 dX0_requireCitable_57 dX0_requireCitable_58 dX0_requireCitable_60 dX0_requireCitable_63
        · refine lv_aload_n C.1 C.2.1 dX0_requireCitable_35 rfl (lv_at hl 0 rfl) ?_
          refine lv_iload_n C.1 C.2.1 dX0_requireCitable_36 rfl (lv_at hl 2 rfl) ?_
          refine k_txV C hE hlk hout hK hP (wX_rv hK hP) [.int v2] h (fun o e => tX0_requireLemma hfl e) (cb_X0_68 C.2.2.2.2 ⟨Nat.le_of_ble_eq_true rfl, Nat.le_of_ble_eq_true rfl⟩) rfl hl.1 (Nat.le_of_ble_eq_true rfl) ⟨Nat.le_of_ble_eq_true rfl, Nat.le_of_ble_eq_true rfl⟩ dX0_requireCitable_37 rfl (fun x37 e37 h => ?_)
          refine lv_goto (tgt := 64) C.1 C.2.1 dX0_requireCitable_40 (by decide) ?_
          exact k_vretT C hr hlk (v := 0) h dX0_requireCitable_64
      · refine lv_iload_n C.1 C.2.1 dX0_requireCitable_23 rfl (lv_at hl 2 rfl) ?_
        refine k_txS C hE hlk hout [.int v2] h (fun o e => tX0_requireAxiom hfl e) (cb_X0_50 C.2.2.2.2 ⟨Nat.le_of_ble_eq_true rfl, Nat.le_of_ble_eq_true rfl⟩) rfl hl.1 (Nat.le_of_ble_eq_true rfl) ⟨Nat.le_of_ble_eq_true rfl, Nat.le_of_ble_eq_true rfl⟩ dX0_requireCitable_24 rfl (fun x24 e24 h => ?_)
        refine lv_goto (tgt := 64) C.1 C.2.1 dX0_requireCitable_27 (by decide) ?_
        exact k_vretT C hr hlk (v := 0) h dX0_requireCitable_64
    · exact k_throw1 C hfl hE hlk hout h (List.mem_of_getElem? (i := 9) rfl) hl.1 (Nat.le_of_ble_eq_true rfl) (Nat.le_of_ble_eq_true rfl) (Nat.le_of_ble_eq_true rfl) (Nat.le_of_ble_eq_true rfl) dX0_requireCitable_9 dX0_requireCitable_12 dX0_requireCitable_13 dX0_requireCitable_15 dX0_requireCitable_18
set_option maxHeartbeats 4000000 in
set_option maxRecDepth 100000 in
theorem tX0_cite {l : Launch} {D : va_G} {cI cZ : ClassId} {a : Nat → Nat} {S : XS} {sz : Nat} {v1 : Int32} {v2 : Int32} {v3 : Int32} {v4 : Int32} {z : ((Int32 × XS) ⊕ Nat)} (hfl : l.stackTraces = false) (h : mX_cite S v1 v2 v3 v4 = some z) : tx_Met l yX0_cite (Cond.code yX0_cite cX0_cite 7 (some .int) :: WW) ({ frames := 8, cells := 1, slots := 6, locals := 140 }) (va_Pc [.ref (a 0), .int v1, .int v2, .int v3, .int v4] (fun U => rwP D (wX cI cZ a S) (tyIZ cI cZ) sz U ∧ excU U)) (tqiW D (wX cI cZ a) (va_A (wX cI cZ a S) sz) z) (txX z) 1 6 (va_A (wX cI cZ a S) sz) := by
  refine TXW_of (own := RX0) (QF := fun A => tqiW D (wX cI cZ a) A z) (by decide) rfl (Nat.le_of_ble_eq_true rfl) ?_
  intro p e s m args below meth c A ha C hr hlk hout hP hK hD hA hE ls hl
  have hS : va_S A s.heap s.heap [] := va_S.rf
  have hl : lv_has ls 7 [(0, .ref (a 0)), (1, .int v1), (2, .int v2), (3, .int v3), (4, .int v4)] := hl
  have J83 : ∀ (S : XS) (H : Heap) (locs : List Loc) (hP : va_P D vwCl (wX cI cZ a S) H) (hD : va_D A (wX cI cZ a S)) (hS : va_S A s.heap H locs) (v5 : Int32) (v6 : Int32) (t0 : Int32) (t1 : Int32), mX_cite_J83 S v5 v6 t0 t1 = some z → ∀ ls : Array Slot, lv_has ls 7 [(0, .ref (a 0)), (5, .int v5), (6, .int v6)] → W p l e { frames := 8, cells := 1, slots := 6, locals := 140 } s m args below meth c H locs 0 0 (tx_MQ below (tqiW D (wX cI cZ a) A z) (txX z) args s 1 6 A) (F0 m 83 ls [.int t0, .int t1, .ref (a 6)]) := by
    intro S H locs hP hD hS v5 v6 t0 t1 h ls hl
    unfold mX_cite_J83 at h
    refine sX0_open C hK hP hD hS h dX0_cite_83 (fun S83 H locs h hP hD hS => ?_)
    refine lv_aload_n C.1 C.2.1 dX0_cite_84 rfl (lv_at hl 0 rfl) ?_
    refine gX0_withdrawn C hK hP dX0_cite_85 ?_
    refine lv_iload C.1 C.2.1 dX0_cite_88 (lv_at hl 2 rfl) ?_
    refine lv_iconst (v := 0) C.1 C.2.1 dX0_cite_90 (by decide) ?_
    refine sX0_withdrawn C hK hP hD hS h dX0_cite_91 (fun S91 H locs h hP hD hS => ?_)
    refine lv_aload_n C.1 C.2.1 dX0_cite_92 rfl (lv_at hl 0 rfl) ?_
    refine gX0_steps C hK hP dX0_cite_93 ?_
    refine lv_iload C.1 C.2.1 dX0_cite_96 (lv_at hl 1 rfl) ?_
    refine lv_dup2_11 C.1 C.2.1 dX0_cite_98 rfl rfl ?_
    refine lX0_steps C hK hP h dX0_cite_99 (fun h => ?_)
    refine lv_iconst (v := 1) C.1 C.2.1 dX0_cite_100 (by decide) ?_
    refine lv_iadd C.1 C.2.1 dX0_cite_101 ?_
    refine sX0_steps C hK hP hD hS h dX0_cite_102 (fun S102 H locs h hP hD hS => ?_)
    refine lv_aload_n C.1 C.2.1 dX0_cite_103 rfl (lv_at hl 0 rfl) ?_
    refine k_rwVv C (wX_ad _) hK hP hD hS hA [] (wX_rv hK hP) h (fun v S2 e => tX0_settle e) (cb_X0_54 C.2.2.2.2 ⟨Nat.le_of_ble_eq_true rfl, Nat.le_of_ble_eq_true rfl⟩) rfl hl.1 (Nat.le_of_ble_eq_true rfl) ⟨Nat.le_of_ble_eq_true rfl, Nat.le_of_ble_eq_true rfl⟩ dX0_cite_104 rfl (fun x104 S104 H locs e104 h hP hD hS => ?_)
    refine lv_aload_n C.1 C.2.1 dX0_cite_107 rfl (lv_at hl 0 rfl) ?_
    refine gX0_steps C hK hP dX0_cite_108 ?_
    refine lv_iload C.1 C.2.1 dX0_cite_111 (lv_at hl 1 rfl) ?_
    refine lX0_steps C hK hP h dX0_cite_113 (fun h => ?_)
    exact k_iretTW (w := wX cI cZ a) C hr hlk h hP hS dX0_cite_114
  unfold mX_cite at h
  refine lv_aload_n C.1 C.2.1 dX0_cite_0 rfl (lv_at hl 0 rfl) ?_
  refine lv_iload_n C.1 C.2.1 dX0_cite_1 rfl (lv_at hl 1 rfl) ?_
  refine lv_iload_n C.1 C.2.1 dX0_cite_2 rfl (lv_at hl 2 rfl) ?_
  refine k_txV C hE hlk hout hK hP (wX_rv hK hP) [.int v1, .int v2] h (fun o e => tX0_requireProof hfl e) (cb_X0_77 C.2.2.2.2 ⟨Nat.le_of_ble_eq_true rfl, Nat.le_of_ble_eq_true rfl⟩) rfl hl.1 (Nat.le_of_ble_eq_true rfl) ⟨Nat.le_of_ble_eq_true rfl, Nat.le_of_ble_eq_true rfl⟩ dX0_cite_3 rfl (fun x3 e3 h => ?_)
  refine lv_aload_n C.1 C.2.1 dX0_cite_6 rfl (lv_at hl 0 rfl) ?_
  refine lv_iload_n C.1 C.2.1 dX0_cite_7 rfl (lv_at hl 3 rfl) ?_
  refine lv_iload C.1 C.2.1 dX0_cite_8 (lv_at hl 4 rfl) ?_
  refine k_txV C hE hlk hout hK hP (wX_rv hK hP) [.int v3, .int v4] h (fun o e => tX0_requireCitable hfl e) (cb_X0_81 C.2.2.2.2 ⟨Nat.le_of_ble_eq_true rfl, Nat.le_of_ble_eq_true rfl⟩) rfl hl.1 (Nat.le_of_ble_eq_true rfl) ⟨Nat.le_of_ble_eq_true rfl, Nat.le_of_ble_eq_true rfl⟩ dX0_cite_10 rfl (fun x10 e10 h => ?_)
  refine lv_iload_n C.1 C.2.1 dX0_cite_13 rfl (lv_at hl 1 rfl) ?_
  refine lv_iload_n C.1 C.2.1 dX0_cite_14 rfl (lv_at hl 2 rfl) ?_
  refine k_prS C [.int v1, .int v2] h (fun v e => tX0_slotOf e) (cb_X0_73 C.2.2.2.2 ⟨Nat.le_of_ble_eq_true rfl, Nat.le_of_ble_eq_true rfl⟩) rfl hl.1 (Nat.le_of_ble_eq_true rfl) ⟨Nat.le_of_ble_eq_true rfl, Nat.le_of_ble_eq_true rfl⟩ dX0_cite_15 rfl (fun x15 e15 h => ?_)
  refine lv_istore (lv' := [(5, .int x15), (0, .ref (a 0)), (1, .int v1), (2, .int v2), (3, .int v3), (4, .int v4)]) C.1 C.2.1 dX0_cite_18 hl (by decide) rfl (fun ls hl => ?_)
  refine lv_aload_n C.1 C.2.1 dX0_cite_20 rfl (lv_at hl 1 rfl) ?_
  refine gX0_steps C hK hP dX0_cite_21 ?_
  refine lv_iload C.1 C.2.1 dX0_cite_24 (lv_at hl 0 rfl) ?_
  refine lX0_steps C hK hP h dX0_cite_26 (fun h => ?_)
  refine lv_iconst (v := 5) C.1 C.2.1 dX0_cite_27 (by decide) ?_
  refine k_icmp_lt (tgt := 41) C dX0_cite_28 (by decide) h (fun c28 h => ?_) (fun c28 h => ?_)
  · refine lv_aload_n C.1 C.2.1 dX0_cite_41 rfl (lv_at hl 1 rfl) ?_
    refine lv_iload C.1 C.2.1 dX0_cite_42 (lv_at hl 0 rfl) ?_
    refine k_roVi C hK hP [.int x15] (wX_rv hK hP) h (fun v e => tX0_endOfSteps e) (cb_X0_86 C.2.2.2.2 ⟨Nat.le_of_ble_eq_true rfl, Nat.le_of_ble_eq_true rfl⟩) rfl hl.1 (Nat.le_of_ble_eq_true rfl) ⟨Nat.le_of_ble_eq_true rfl, Nat.le_of_ble_eq_true rfl⟩ dX0_cite_44 rfl (fun x44 e44 h => ?_)
    refine lv_istore (lv' := [(6, .int x44), (5, .int x15), (0, .ref (a 0)), (1, .int v1), (2, .int v2), (3, .int v3), (4, .int v4)]) C.1 C.2.1 dX0_cite_47 hl (by decide) rfl (fun ls hl => ?_)
    refine lv_aload_n C.1 C.2.1 dX0_cite_49 rfl (lv_at hl 2 rfl) ?_
    refine gX0_kinds C hK hP dX0_cite_50 ?_
    refine lv_iload C.1 C.2.1 dX0_cite_53 (lv_at hl 0 rfl) ?_
    refine lv_iload_n C.1 C.2.1 dX0_cite_55 rfl (lv_at hl 5 rfl) ?_
    refine sX0_kinds C hK hP hD hS h dX0_cite_56 (fun S56 H locs h hP hD hS => ?_)
    refine lv_aload_n C.1 C.2.1 dX0_cite_57 rfl (lv_at hl 2 rfl) ?_
    refine gX0_cited C hK hP dX0_cite_58 ?_
    refine lv_iload C.1 C.2.1 dX0_cite_61 (lv_at hl 0 rfl) ?_
    refine lv_iload C.1 C.2.1 dX0_cite_63 (lv_at hl 6 rfl) ?_
    refine sX0_cited C hK hP hD hS h dX0_cite_65 (fun S65 H locs h hP hD hS => ?_)
    refine lv_aload_n C.1 C.2.1 dX0_cite_66 rfl (lv_at hl 2 rfl) ?_
    refine gX0_open C hK hP dX0_cite_67 ?_
    refine lv_iload C.1 C.2.1 dX0_cite_70 (lv_at hl 0 rfl) ?_
    refine lv_iload_n C.1 C.2.1 dX0_cite_72 rfl (lv_at hl 5 rfl) ?_
    refine lv_iconst (v := 2) C.1 C.2.1 dX0_cite_73 (by decide) ?_
    refine k_icmp_ne (tgt := 82) C dX0_cite_74 (by decide) h (fun c74 h => ?_) (fun c74 h => ?_)
    · refine lv_iconst (v := 0) C.1 C.2.1 dX0_cite_82 (by decide) ?_
      exact J83 _ _ _ hP hD hS x15 x44 0 x44 h ls (lv_sub hl [2, 1, 0] rfl)
    · refine lv_iload C.1 C.2.1 dX0_cite_77 (lv_at hl 6 rfl) ?_
      refine lv_goto (tgt := 83) C.1 C.2.1 dX0_cite_79 (by decide) ?_
      exact J83 _ _ _ hP hD hS x15 x44 v4 x44 h ls (lv_sub hl [2, 1, 0] rfl)
  · exact k_throw2 C hfl hE hlk hout h (List.mem_of_getElem? (i := 11) rfl) hl.1 (Nat.le_of_ble_eq_true rfl) (Nat.le_of_ble_eq_true rfl) (Nat.le_of_ble_eq_true rfl) (Nat.le_of_ble_eq_true rfl) dX0_cite_31 dX0_cite_34 dX0_cite_35 dX0_cite_37 dX0_cite_40
end METX0
