section METX1
theorem cb_X1_48 {R : Room} {s : State} {args : Array Value} (h : ∀ w ∈ WW, w.before args s = true) (hR : 0 + 1 ≤ R.frames ∧ 8 + (3 + 11) + 0 ≤ R.locals) : CallB R s args RX1 48 yX1_isIn cX1_isIn 3 (some .boolean) (Cond.code yX1_isIn cX1_isIn 3 (some .boolean) :: WW) ({ frames := 0, cells := 0, slots := 0, locals := 0 }) 0 0 3 ∧ (Cond.static yX1_isIn).before args s = true := va_cwS 3 h (gdS qM_X1_48 qT_X1_isIn qN_X1 qC_X1_isIn) rfl rfl rfl (by decide +kernel) hR
theorem cb_X1_55 {R : Room} {s : State} {args : Array Value} (h : ∀ w ∈ WW, w.before args s = true) (hR : 1 + 1 ≤ R.frames ∧ 8 + (2 + 11) + 22 ≤ R.locals) : CallW R s args RX1 RX1 55 yX1_isLemma cX1_isLemma 2 (some .boolean) (Cond.code yX1_isLemma cX1_isLemma 2 (some .boolean) :: WW) ({ frames := 1, cells := 0, slots := 0, locals := 22 }) 0 0 1 := cwV 1 h (gdV qM_X1_55 qI_X1_isLemma qS_X1_isLemma qN_X1 qC_X1_isLemma) rfl rfl rfl (by decide +kernel) hR
theorem cb_X1_59 {R : Room} {s : State} {args : Array Value} (h : ∀ w ∈ WW, w.before args s = true) (hR : 2 + 1 ≤ R.frames ∧ 8 + (3 + 11) + 43 ≤ R.locals) : CallW R s args RX1 RX1 59 yX1_isProof cX1_isProof 3 (some .boolean) (Cond.code yX1_isProof cX1_isProof 3 (some .boolean) :: WW) ({ frames := 2, cells := 0, slots := 0, locals := 43 }) 0 0 2 := cwV 2 h (gdV qM_X1_59 qI_X1_isProof qS_X1_isProof qN_X1 qC_X1_isProof) rfl rfl rfl (by decide +kernel) hR
theorem cb_X1_63 {R : Room} {s : State} {args : Array Value} (h : ∀ w ∈ WW, w.before args s = true) (hR : 0 + 1 ≤ R.frames ∧ 8 + (3 + 11) + 0 ≤ R.locals) : CallB R s args RX1 63 yX1_at cX1_at 3 (some .int) (Cond.code yX1_at cX1_at 3 (some .int) :: WW) ({ frames := 0, cells := 0, slots := 0, locals := 0 }) 0 0 3 ∧ (Cond.static yX1_at).before args s = true := va_cwS 3 h (gdS qM_X1_63 qT_X1_at qN_X1 qC_X1_at) rfl rfl rfl (by decide +kernel) hR
theorem cb_X1_67 {R : Room} {s : State} {args : Array Value} (h : ∀ w ∈ WW, w.before args s = true) (hR : 1 + 1 ≤ R.frames ∧ 8 + (4 + 11) + 22 ≤ R.locals) : CallW R s args RX1 RX1 67 yX1_isWhole cX1_isWhole 4 (some .boolean) (Cond.code yX1_isWhole cX1_isWhole 4 (some .boolean) :: WW) ({ frames := 1, cells := 0, slots := 0, locals := 22 }) 0 0 2 := cwV 2 h (gdV qM_X1_67 qI_X1_isWhole qS_X1_isWhole qN_X1 qC_X1_isWhole) rfl rfl rfl (by decide +kernel) hR
theorem cb_X1_70 {R : Room} {s : State} {args : Array Value} (h : ∀ w ∈ WW, w.before args s = true) (hR : 0 + 1 ≤ R.frames ∧ 8 + (4 + 11) + 0 ≤ R.locals) : CallW R s args RX1 RX1 70 yX1_does cX1_does 4 (some .boolean) (Cond.code yX1_does cX1_does 4 (some .boolean) :: WW) ({ frames := 0, cells := 0, slots := 0, locals := 0 }) 0 0 3 := cwV 3 h (gdV qM_X1_70 qI_X1_does qS_X1_does qN_X1 qC_X1_does) rfl rfl rfl (by decide +kernel) hR
theorem cb_X1_73 {R : Room} {s : State} {args : Array Value} (h : ∀ w ∈ WW, w.before args s = true) (hR : 2 + 1 ≤ R.frames ∧ 8 + (6 + 11) + 45 ≤ R.locals) : CallW R s args RX1 RX1 73 yX1_holds cX1_holds 6 (some .boolean) (Cond.code yX1_holds cX1_holds 6 (some .boolean) :: WW) ({ frames := 2, cells := 0, slots := 0, locals := 45 }) 0 0 4 := cwV 4 h (gdV qM_X1_73 qI_X1_holds qS_X1_holds qN_X1 qC_X1_holds) rfl rfl rfl (by decide +kernel) hR
theorem cb_X1_77 {R : Room} {s : State} {args : Array Value} (h : ∀ w ∈ WW, w.before args s = true) (hR : 3 + 1 ≤ R.frames ∧ 8 + (5 + 11) + 70 ≤ R.locals) : CallW R s args RX1 RX1 77 yX1_hasProof cX1_hasProof 5 (some .boolean) (Cond.code yX1_hasProof cX1_hasProof 5 (some .boolean) :: WW) ({ frames := 3, cells := 0, slots := 0, locals := 70 }) 0 0 3 := cwV 3 h (gdV qM_X1_77 qI_X1_hasProof qS_X1_hasProof qN_X1 qC_X1_hasProof) rfl rfl rfl (by decide +kernel) hR
theorem cb_X1_86 {R : Room} {s : State} {args : Array Value} (h : ∀ w ∈ WW, w.before args s = true) (hR : 2 + 1 ≤ R.frames ∧ 8 + (7 + 11) + 45 ≤ R.locals) : CallW R s args RX1 RX1 86 yX1_lengthOf cX1_lengthOf 7 (some .int) (Cond.code yX1_lengthOf cX1_lengthOf 7 (some .int) :: WW) ({ frames := 2, cells := 0, slots := 0, locals := 45 }) 0 0 2 := cwV 2 h (gdV qM_X1_86 qI_X1_lengthOf qS_X1_lengthOf qN_X1 qC_X1_lengthOf) rfl rfl rfl (by decide +kernel) hR
theorem cb_X1_89 {R : Room} {s : State} {args : Array Value} (h : ∀ w ∈ WW, w.before args s = true) (hR : 2 + 1 ≤ R.frames ∧ 8 + (6 + 11) + 45 ≤ R.locals) : CallW R s args RX1 RX1 89 yX1_priceOf cX1_priceOf 6 (some .int) (Cond.code yX1_priceOf cX1_priceOf 6 (some .int) :: WW) ({ frames := 2, cells := 0, slots := 0, locals := 45 }) 0 0 2 := cwV 2 h (gdV qM_X1_89 qI_X1_priceOf qS_X1_priceOf qN_X1 qC_X1_priceOf) rfl rfl rfl (by decide +kernel) hR
theorem cb_X1_92 {R : Room} {s : State} {args : Array Value} (h : ∀ w ∈ WW, w.before args s = true) (hR : 3 + 1 ≤ R.frames ∧ 8 + (4 + 11) + 71 ≤ R.locals) : CallW R s args RX1 RX1 92 yX1_getsShorter cX1_getsShorter 4 (some .boolean) (Cond.code yX1_getsShorter cX1_getsShorter 4 (some .boolean) :: WW) ({ frames := 3, cells := 0, slots := 0, locals := 71 }) 0 0 1 := cwV 1 h (gdV qM_X1_92 qI_X1_getsShorter qS_X1_getsShorter qN_X1 qC_X1_getsShorter) rfl rfl rfl (by decide +kernel) hR
theorem cb_X1_95 {R : Room} {s : State} {args : Array Value} (h : ∀ w ∈ WW, w.before args s = true) (hR : 3 + 1 ≤ R.frames ∧ 8 + (4 + 11) + 70 ≤ R.locals) : CallW R s args RX1 RX1 95 yX1_getsCheaper cX1_getsCheaper 4 (some .boolean) (Cond.code yX1_getsCheaper cX1_getsCheaper 4 (some .boolean) :: WW) ({ frames := 3, cells := 0, slots := 0, locals := 70 }) 0 0 1 := cwV 1 h (gdV qM_X1_95 qI_X1_getsCheaper qS_X1_getsCheaper qN_X1 qC_X1_getsCheaper) rfl rfl rfl (by decide +kernel) hR
theorem cb_X1_98 {R : Room} {s : State} {args : Array Value} (h : ∀ w ∈ WW, w.before args s = true) (hR : 1 + 1 ≤ R.frames ∧ 8 + (5 + 11) + 22 ≤ R.locals) : CallW R s args RX1 RX1 98 yX1_leads cX1_leads 5 (some .boolean) (Cond.code yX1_leads cX1_leads 5 (some .boolean) :: WW) ({ frames := 1, cells := 0, slots := 0, locals := 22 }) 0 0 2 := cwV 2 h (gdV qM_X1_98 qI_X1_leads qS_X1_leads qN_X1 qC_X1_leads) rfl rfl rfl (by decide +kernel) hR
theorem cb_X1_101 {R : Room} {s : State} {args : Array Value} (h : ∀ w ∈ WW, w.before args s = true) (hR : 1 + 1 ≤ R.frames ∧ 8 + (1 + 11) + 22 ≤ R.locals) : CallB R s args RX1 101 yX1_isAxiom cX1_isAxiom 1 (some .boolean) (Cond.code yX1_isAxiom cX1_isAxiom 1 (some .boolean) :: WW) ({ frames := 1, cells := 0, slots := 0, locals := 22 }) 0 0 1 ∧ (Cond.static yX1_isAxiom).before args s = true := va_cwS 1 h (gdS qM_X1_101 qT_X1_isAxiom qN_X1 qC_X1_isAxiom) rfl rfl rfl (by decide +kernel) hR
theorem cb_X1_104 {R : Room} {s : State} {args : Array Value} (h : ∀ w ∈ WW, w.before args s = true) (hR : 0 + 1 ≤ R.frames ∧ 8 + (2 + 11) + 0 ≤ R.locals) : CallW R s args RX1 RX1 104 yX1_no cX1_no 2 (some .int) (Cond.code yX1_no cX1_no 2 (some .int) :: WW) ({ frames := 0, cells := 0, slots := 0, locals := 0 }) 0 0 1 := cwV 1 h (gdV qM_X1_104 qI_X1_no qS_X1_no qN_X1 qC_X1_no) rfl rfl rfl (by decide +kernel) hR
theorem cb_X1_108 {R : Room} {s : State} {args : Array Value} (h : ∀ w ∈ WW, w.before args s = true) (hR : 3 + 1 ≤ R.frames ∧ 8 + (4 + 11) + 65 ≤ R.locals) : CallW R s args RX1 RX1 108 yX1_isStep cX1_isStep 4 (some .boolean) (Cond.code yX1_isStep cX1_isStep 4 (some .boolean) :: WW) ({ frames := 3, cells := 0, slots := 0, locals := 65 }) 0 0 3 := cwV 3 h (gdV qM_X1_108 qI_X1_isStep qS_X1_isStep qN_X1 qC_X1_isStep) rfl rfl rfl (by decide +kernel) hR
theorem cb_X1_120 {R : Room} {s : State} {args : Array Value} (h : ∀ w ∈ WW, w.before args s = true) (hR : 1 + 1 ≤ R.frames ∧ 8 + (3 + 11) + 60 ≤ R.locals) : CallW R s args RX1 RX1 120 yX1_layOver cX1_layOver 3 none (Cond.code yX1_layOver cX1_layOver 3 none :: WW) ({ frames := 1, cells := 0, slots := 0, locals := 60 }) 0 0 2 := cwV 2 h (gdV qM_X1_120 qI_X1_layOver qS_X1_layOver qN_X1 qC_X1_layOver) rfl rfl rfl (by decide +kernel) hR
theorem cb_X1_124 {R : Room} {s : State} {args : Array Value} (h : ∀ w ∈ WW, w.before args s = true) (hR : 4 + 1 ≤ R.frames ∧ 8 + (6 + 11) + 94 ≤ R.locals) : CallW R s args RX1 RX1 124 yX1_prove cX1_prove 6 (some .int) (Cond.code yX1_prove cX1_prove 6 (some .int) :: WW) ({ frames := 4, cells := 0, slots := 0, locals := 94 }) 0 0 1 := cwV 1 h (gdV qM_X1_124 qI_X1_prove qS_X1_prove qN_X1 qC_X1_prove) rfl rfl rfl (by decide +kernel) hR
theorem cb_X1_127 {R : Room} {s : State} {args : Array Value} (h : ∀ w ∈ WW, w.before args s = true) (hR : 4 + 1 ≤ R.frames ∧ 8 + (3 + 11) + 94 ≤ R.locals) : CallW R s args RX1 RX1 127 yX1_measure cX1_measure 3 none (Cond.code yX1_measure cX1_measure 3 none :: WW) ({ frames := 4, cells := 0, slots := 0, locals := 94 }) 0 0 0 := cwV 0 h (gdV qM_X1_127 qI_X1_measure qS_X1_measure qN_X1 qC_X1_measure) rfl rfl rfl (by decide +kernel) hR
theorem cb_X1_130 {R : Room} {s : State} {args : Array Value} (h : ∀ w ∈ WW, w.before args s = true) (hR : 0 + 1 ≤ R.frames ∧ 8 + (4 + 11) + 0 ≤ R.locals) : CallW R s args RX1 RX1 130 yX1_stepsOf cX1_stepsOf 4 (some .int) (Cond.code yX1_stepsOf cX1_stepsOf 4 (some .int) :: WW) ({ frames := 0, cells := 0, slots := 0, locals := 0 }) 0 0 1 := cwV 1 h (gdV qM_X1_130 qI_X1_stepsOf qS_X1_stepsOf qN_X1 qC_X1_stepsOf) rfl rfl rfl (by decide +kernel) hR
theorem cb_X1_133 {R : Room} {s : State} {args : Array Value} (h : ∀ w ∈ WW, w.before args s = true) (hR : 5 + 1 ≤ R.frames ∧ 8 + (2 + 11) + 119 ≤ R.locals) : CallW R s args RX1 RX1 133 yX1_stageOf cX1_stageOf 2 (some .int) (Cond.code yX1_stageOf cX1_stageOf 2 (some .int) :: WW) ({ frames := 5, cells := 0, slots := 0, locals := 119 }) 0 0 1 := cwV 1 h (gdV qM_X1_133 qI_X1_stageOf qS_X1_stageOf qN_X1 qC_X1_stageOf) rfl rfl rfl (by decide +kernel) hR
theorem cb_X1_136 {R : Room} {s : State} {args : Array Value} (h : ∀ w ∈ WW, w.before args s = true) (hR : 0 + 1 ≤ R.frames ∧ 8 + (1 + 11) + 0 ≤ R.locals) : CallB R s args RX1 136 yX1_told cX1_told 1 (some .int) (Cond.code yX1_told cX1_told 1 (some .int) :: WW) ({ frames := 0, cells := 0, slots := 0, locals := 0 }) 0 0 1 ∧ (Cond.static yX1_told).before args s = true := va_cwS 1 h (gdS qM_X1_136 qT_X1_told qN_X1 qC_X1_told) rfl rfl rfl (by decide +kernel) hR
theorem cb_X1_139 {R : Room} {s : State} {args : Array Value} (h : ∀ w ∈ WW, w.before args s = true) (hR : 1 + 1 ≤ R.frames ∧ 8 + (5 + 11) + 22 ≤ R.locals) : CallW R s args RX1 RX1 139 yX1_openOf cX1_openOf 5 (some .int) (Cond.code yX1_openOf cX1_openOf 5 (some .int) :: WW) ({ frames := 1, cells := 0, slots := 0, locals := 22 }) 0 0 1 := cwV 1 h (gdV qM_X1_139 qI_X1_openOf qS_X1_openOf qN_X1 qC_X1_openOf) rfl rfl rfl (by decide +kernel) hR
theorem cb_X1_142 {R : Room} {s : State} {args : Array Value} (h : ∀ w ∈ WW, w.before args s = true) (hR : 2 + 1 ≤ R.frames ∧ 8 + (5 + 11) + 46 ≤ R.locals) : CallW R s args RX1 RX1 142 yX1_circle cX1_circle 5 (some .int) (Cond.code yX1_circle cX1_circle 5 (some .int) :: WW) ({ frames := 2, cells := 0, slots := 0, locals := 46 }) 0 0 1 := cwV 1 h (gdV qM_X1_142 qI_X1_circle qS_X1_circle qN_X1 qC_X1_circle) rfl rfl rfl (by decide +kernel) hR
theorem cb_X1_145 {R : Room} {s : State} {args : Array Value} (h : ∀ w ∈ WW, w.before args s = true) (hR : 6 + 1 ≤ R.frames ∧ 8 + (3 + 11) + 140 ≤ R.locals) : CallW R s args RX1 RX1 145 yX1_lemmaTold cX1_lemmaTold 3 (some .int) (Cond.code yX1_lemmaTold cX1_lemmaTold 3 (some .int) :: WW) ({ frames := 6, cells := 0, slots := 0, locals := 140 }) 0 0 2 := cwV 2 h (gdV qM_X1_145 qI_X1_lemmaTold qS_X1_lemmaTold qN_X1 qC_X1_lemmaTold) rfl rfl rfl (by decide +kernel) hR
theorem cb_X1_148 {R : Room} {s : State} {args : Array Value} (h : ∀ w ∈ WW, w.before args s = true) (hR : 0 + 1 ≤ R.frames ∧ 8 + (3 + 11) + 0 ≤ R.locals) : CallW R s args RX1 RX1 148 yX1_stepTold cX1_stepTold 3 (some .int) (Cond.code yX1_stepTold cX1_stepTold 3 (some .int) :: WW) ({ frames := 0, cells := 0, slots := 0, locals := 0 }) 0 0 2 := cwV 2 h (gdV qM_X1_148 qI_X1_stepTold qS_X1_stepTold qN_X1 qC_X1_stepTold) rfl rfl rfl (by decide +kernel) hR
theorem cb_X1_151 {R : Room} {s : State} {args : Array Value} (h : ∀ w ∈ WW, w.before args s = true) (hR : 5 + 1 ≤ R.frames ∧ 8 + (4 + 11) + 119 ≤ R.locals) : CallW R s args RX1 RX1 151 yX1_proofTold cX1_proofTold 4 (some .int) (Cond.code yX1_proofTold cX1_proofTold 4 (some .int) :: WW) ({ frames := 5, cells := 0, slots := 0, locals := 119 }) 0 0 3 := cwV 3 h (gdV qM_X1_151 qI_X1_proofTold qS_X1_proofTold qN_X1 qC_X1_proofTold) rfl rfl rfl (by decide +kernel) hR
theorem cb_X1_154 {R : Room} {s : State} {args : Array Value} (h : ∀ w ∈ WW, w.before args s = true) (hR : 5 + 1 ≤ R.frames ∧ 8 + (7 + 11) + 119 ≤ R.locals) : CallW R s args RX1 RX1 154 yX1_counted cX1_counted 7 (some .int) (Cond.code yX1_counted cX1_counted 7 (some .int) :: WW) ({ frames := 5, cells := 0, slots := 0, locals := 119 }) 0 0 1 := cwV 1 h (gdV qM_X1_154 qI_X1_counted qS_X1_counted qN_X1 qC_X1_counted) rfl rfl rfl (by decide +kernel) hR
theorem cb_X1_157 {R : Room} {s : State} {args : Array Value} (h : ∀ w ∈ WW, w.before args s = true) (hR : 5 + 1 ≤ R.frames ∧ 8 + (4 + 11) + 116 ≤ R.locals) : CallW R s args RX1 RX1 157 yX1_bestOf cX1_bestOf 4 (some .int) (Cond.code yX1_bestOf cX1_bestOf 4 (some .int) :: WW) ({ frames := 5, cells := 0, slots := 0, locals := 116 }) 0 0 1 := cwV 1 h (gdV qM_X1_157 qI_X1_bestOf qS_X1_bestOf qN_X1 qC_X1_bestOf) rfl rfl rfl (by decide +kernel) hR
theorem cb_X1_160 {R : Room} {s : State} {args : Array Value} (h : ∀ w ∈ WW, w.before args s = true) (hR : 6 + 1 ≤ R.frames ∧ 8 + (4 + 11) + 140 ≤ R.locals) : CallW R s args RX1 RX1 160 yX1_isNeeded cX1_isNeeded 4 (some .boolean) (Cond.code yX1_isNeeded cX1_isNeeded 4 (some .boolean) :: WW) ({ frames := 6, cells := 0, slots := 0, locals := 140 }) 0 0 2 := cwV 2 h (gdV qM_X1_160 qI_X1_isNeeded qS_X1_isNeeded qN_X1 qC_X1_isNeeded) rfl rfl rfl (by decide +kernel) hR
theorem cb_X1_163 {R : Room} {s : State} {args : Array Value} (h : ∀ w ∈ WW, w.before args s = true) (hR : 5 + 1 ≤ R.frames ∧ 8 + (4 + 11) + 119 ≤ R.locals) : CallW R s args RX1 RX1 163 yX1_provedBy cX1_provedBy 4 (some .int) (Cond.code yX1_provedBy cX1_provedBy 4 (some .int) :: WW) ({ frames := 5, cells := 0, slots := 0, locals := 119 }) 0 0 1 := cwV 1 h (gdV qM_X1_163 qI_X1_provedBy qS_X1_provedBy qN_X1 qC_X1_provedBy) rfl rfl rfl (by decide +kernel) hR
set_option maxHeartbeats 4000000 in
set_option maxRecDepth 100000 in
theorem tX1_thrown {l : Launch} {D : va_G} {cI cZ : ClassId} {a : Nat → Nat} {S : XS} {z : Int32} (h : mM_thrown S = some z) : Met l yX1_thrown (Cond.code yX1_thrown cX1_thrown 1 (some .int) :: WW) ({ frames := 0, cells := 0, slots := 0, locals := 0 }) (va_Pc [.ref (a 0)] (roP D (wM cI cZ a S) (tyIZ cI cZ))) (vp_Si (fun r => r = z)) 0 0 (fun _ => False) := by
  refine RO_of (own := RX1) (by decide) rfl (Nat.le_of_ble_eq_true rfl) ?_
  intro p e s m args below meth c ha C hr hlk hP hK ls hl
  have hl : lv_has ls 1 [(0, .ref (a 0))] := hl
  unfold mM_thrown at h
  refine lv_aload_n C.1 C.2.1 dX1_thrown_0 rfl (lv_at hl 0 rfl) ?_
  refine gX1_thrown C hK hP dX1_thrown_1 ?_
  exact k_iret C hr hlk h dX1_thrown_4
set_option maxHeartbeats 4000000 in
set_option maxRecDepth 100000 in
theorem tX1_isIn {l : Launch} {v0 : Int32} {v1 : Int32} {v2 : Int32} {z : Int32} (h : mM_isIn v0 v1 v2 = some z) : Met l yX1_isIn (Cond.code yX1_isIn cX1_isIn 3 (some .boolean) :: WW) ({ frames := 0, cells := 0, slots := 0, locals := 0 }) (va_Pc [.int v0, .int v1, .int v2] (fun _ => True)) (vp_Si (fun r => r = z)) 0 0 (fun _ => False) := by
  refine RS_of (own := RX1) (by decide) rfl (Nat.le_of_ble_eq_true rfl) ?_
  intro p e s m args below meth c ha C hr hlk ls hl
  have hl : lv_has ls 3 [(0, .int v0), (1, .int v1), (2, .int v2)] := hl
  unfold mM_isIn at h
  refine lv_iload_n C.1 C.2.1 dX1_isIn_0 rfl (lv_at hl 0 rfl) ?_
  refine lv_iload_n C.1 C.2.1 dX1_isIn_1 rfl (lv_at hl 1 rfl) ?_
  refine k_icmp_lt (tgt := 14) C dX1_isIn_2 (by decide) h (fun c2 h => ?_) (fun c2 h => ?_)
  · refine lv_iconst (v := 0) C.1 C.2.1 dX1_isIn_14 (by decide) ?_
    exact k_zret C hr hlk h dX1_isIn_15
  · refine lv_iload_n C.1 C.2.1 dX1_isIn_5 rfl (lv_at hl 0 rfl) ?_
    refine lv_iload_n C.1 C.2.1 dX1_isIn_6 rfl (lv_at hl 2 rfl) ?_
    refine k_icmp_gt (tgt := 14) C dX1_isIn_7 (by decide) h (fun c7 h => ?_) (fun c7 h => ?_)
    · refine lv_iconst (v := 0) C.1 C.2.1 dX1_isIn_14 (by decide) ?_
      exact k_zret C hr hlk h dX1_isIn_15
    · refine lv_iconst (v := 1) C.1 C.2.1 dX1_isIn_10 (by decide) ?_
      refine lv_goto (tgt := 15) C.1 C.2.1 dX1_isIn_11 (by decide) ?_
      exact k_zret C hr hlk h dX1_isIn_15
set_option maxHeartbeats 4000000 in
set_option maxRecDepth 100000 in
theorem tX1_isAxiom {l : Launch} {v0 : Int32} {z : Int32} (h : mM_isAxiom v0 = some z) : Met l yX1_isAxiom (Cond.code yX1_isAxiom cX1_isAxiom 1 (some .boolean) :: WW) ({ frames := 1, cells := 0, slots := 0, locals := 22 }) (va_Pc [.int v0] (fun _ => True)) (vp_Si (fun r => r = z)) 0 0 (fun _ => False) := by
  refine RS_of (own := RX1) (by decide) rfl (Nat.le_of_ble_eq_true rfl) ?_
  intro p e s m args below meth c ha C hr hlk ls hl
  have hl : lv_has ls 1 [(0, .int v0)] := hl
  unfold mM_isAxiom at h
  refine lv_iload_n C.1 C.2.1 dX1_isAxiom_0 rfl (lv_at hl 0 rfl) ?_
  refine lv_iconst (v := 0) C.1 C.2.1 dX1_isAxiom_1 (by decide) ?_
  refine lv_iconst (v := 4) C.1 C.2.1 dX1_isAxiom_2 (by decide) ?_
  refine k_prS C [.int v0, .int 0, .int 4] h (fun v e => tX1_isIn e) (cb_X1_48 C.2.2.2.2 ⟨Nat.le_of_ble_eq_true rfl, Nat.le_of_ble_eq_true rfl⟩) rfl hl.1 (Nat.le_of_ble_eq_true rfl) ⟨Nat.le_of_ble_eq_true rfl, Nat.le_of_ble_eq_true rfl⟩ dX1_isAxiom_3 rfl (fun x3 e3 h => ?_)
  exact k_zret C hr hlk h dX1_isAxiom_6
set_option maxHeartbeats 4000000 in
set_option maxRecDepth 100000 in
theorem tX1_take {l : Launch} {D : va_G} {cI cZ : ClassId} {a : Nat → Nat} {S : XS} {sz : Nat} {v1 : Int32} {v2 : Int32} {z : (Int32 × XS)} (h : mM_take S v1 v2 = some z) : Met l yX1_take (Cond.code yX1_take cX1_take 4 (some .boolean) :: WW) ({ frames := 2, cells := 0, slots := 0, locals := 42 }) (va_Pc [.ref (a 0), .int v1, .int v2] (rwP D (wM cI cZ a S) (tyIZ cI cZ) sz)) (rwQi D (wM cI cZ a z.2) z.1 (va_A (wM cI cZ a S) sz)) 0 0 (va_A (wM cI cZ a S) sz) := by
  refine RW_of (own := RX1) (Qc := fun A => rwQi D (wM cI cZ a z.2) z.1 A) (by decide) rfl (Nat.le_of_ble_eq_true rfl) ?_
  intro p e s m args below meth c A ha C hr hlk hP hK hD hA ls hl
  have hS : va_S A s.heap s.heap [] := va_S.rf
  have hl : lv_has ls 4 [(0, .ref (a 0)), (1, .int v1), (2, .int v2)] := hl
  have J13 : ∀ (S : XS) (H : Heap) (locs : List Loc) (hP : va_P D vwCl (wM cI cZ a S) H) (hD : va_D A (wM cI cZ a S)) (hS : va_S A s.heap H locs) (v1 : Int32) (v2 : Int32) (t0 : Int32), mM_take_J13 S v1 v2 t0 = some z → ∀ ls : Array Slot, lv_has ls 4 [(0, .ref (a 0)), (1, .int v1), (2, .int v2)] → W p l e { frames := 2, cells := 0, slots := 0, locals := 42 } s m args below meth c H locs 0 0 (MQ below (rwQi D (wM cI cZ a z.2) z.1 A) args s 0 0 A) (F0 m 13 ls [.int t0, .ref (a 0)]) := by
    intro S H locs hP hD hS v1 v2 t0 h ls hl
    unfold mM_take_J13 at h
    refine pX1_thrown C hK hP hD hS h dX1_take_13 (fun S13 H locs h hP hD hS => ?_)
    refine lv_aload_n C.1 C.2.1 dX1_take_16 rfl (lv_at hl 0 rfl) ?_
    refine gX1_thrown C hK hP dX1_take_17 ?_
    refine k_if_le (tgt := 25) C dX1_take_20 (by decide) h (fun c20 h => ?_) (fun c20 h => ?_)
    · refine lv_aload_n C.1 C.2.1 dX1_take_25 rfl (lv_at hl 0 rfl) ?_
      refine gX1_taken C hK hP dX1_take_26 ?_
      refine lv_iload_n C.1 C.2.1 dX1_take_29 rfl (lv_at hl 1 rfl) ?_
      refine lX1_taken C hK hP h dX1_take_30 (fun h => ?_)
      refine lv_istore_n (lv' := [(3, .int (S13 1 (v1 : Int32).toNatClampNeg)), (0, .ref (a 0)), (1, .int v1), (2, .int v2)]) C.1 C.2.1 dX1_take_31 rfl hl (by decide) rfl (fun ls hl => ?_)
      refine lv_aload_n C.1 C.2.1 dX1_take_32 rfl (lv_at hl 1 rfl) ?_
      refine gX1_taken C hK hP dX1_take_33 ?_
      refine lv_iload_n C.1 C.2.1 dX1_take_36 rfl (lv_at hl 2 rfl) ?_
      refine lv_iload_n C.1 C.2.1 dX1_take_37 rfl (lv_at hl 3 rfl) ?_
      refine sX1_taken C hK hP hD hS h dX1_take_38 (fun S38 H locs h hP hD hS => ?_)
      refine lv_iload_n C.1 C.2.1 dX1_take_39 rfl (lv_at hl 0 rfl) ?_
      exact k_zretW (w := wM cI cZ a) C hr hlk h hP hS dX1_take_40
    · refine lv_iconst (v := 0) C.1 C.2.1 dX1_take_23 (by decide) ?_
      exact k_zretW (w := wM cI cZ a) C hr hlk h hP hS dX1_take_24
  unfold mM_take at h
  refine lv_aload_n C.1 C.2.1 dX1_take_0 rfl (lv_at hl 0 rfl) ?_
  refine lv_iload_n C.1 C.2.1 dX1_take_1 rfl (lv_at hl 1 rfl) ?_
  refine k_prS C [.int v1] h (fun v e => tX1_isAxiom e) (cb_X1_101 C.2.2.2.2 ⟨Nat.le_of_ble_eq_true rfl, Nat.le_of_ble_eq_true rfl⟩) rfl hl.1 (Nat.le_of_ble_eq_true rfl) ⟨Nat.le_of_ble_eq_true rfl, Nat.le_of_ble_eq_true rfl⟩ dX1_take_2 rfl (fun x2 e2 h => ?_)
  refine k_if_eq (tgt := 12) C dX1_take_5 (by decide) h (fun c5 h => ?_) (fun c5 h => ?_)
  · refine lv_iconst (v := 1) C.1 C.2.1 dX1_take_12 (by decide) ?_
    exact J13 _ _ _ hP hD hS v1 v2 1 h ls (lv_sub hl [0, 1, 2] rfl)
  · refine lv_iconst (v := 0) C.1 C.2.1 dX1_take_8 (by decide) ?_
    refine lv_goto (tgt := 13) C.1 C.2.1 dX1_take_9 (by decide) ?_
    exact J13 _ _ _ hP hD hS v1 v2 0 h ls (lv_sub hl [0, 1, 2] rfl)
set_option maxHeartbeats 4000000 in
set_option maxRecDepth 100000 in
theorem tX1_no {l : Launch} {D : va_G} {cI cZ : ClassId} {a : Nat → Nat} {S : XS} {sz : Nat} {v1 : Int32} {z : (Int32 × XS)} (h : mM_no S v1 = some z) : Met l yX1_no (Cond.code yX1_no cX1_no 2 (some .int) :: WW) ({ frames := 0, cells := 0, slots := 0, locals := 0 }) (va_Pc [.ref (a 0), .int v1] (rwP D (wM cI cZ a S) (tyIZ cI cZ) sz)) (rwQi D (wM cI cZ a z.2) z.1 (va_A (wM cI cZ a S) sz)) 0 0 (va_A (wM cI cZ a S) sz) := by
  refine RW_of (own := RX1) (Qc := fun A => rwQi D (wM cI cZ a z.2) z.1 A) (by decide) rfl (Nat.le_of_ble_eq_true rfl) ?_
  intro p e s m args below meth c A ha C hr hlk hP hK hD hA ls hl
  have hS : va_S A s.heap s.heap [] := va_S.rf
  have hl : lv_has ls 2 [(0, .ref (a 0)), (1, .int v1)] := hl
  unfold mM_no at h
  refine lv_aload_n C.1 C.2.1 dX1_no_0 rfl (lv_at hl 0 rfl) ?_
  refine lv_iload_n C.1 C.2.1 dX1_no_1 rfl (lv_at hl 1 rfl) ?_
  refine pX1_thrown C hK hP hD hS h dX1_no_2 (fun S2 H locs h hP hD hS => ?_)
  refine lv_iconst (v := 0) C.1 C.2.1 dX1_no_5 (by decide) ?_
  exact k_iretW (w := wM cI cZ a) C hr hlk h hP hS dX1_no_6
set_option maxHeartbeats 4000000 in
set_option maxRecDepth 100000 in
theorem tX1_lemma {l : Launch} {D : va_G} {cI cZ : ClassId} {a : Nat → Nat} {S : XS} {sz : Nat} {z : (Int32 × XS)} (h : mM_lemma S = some z) : Met l yX1_lemma (Cond.code yX1_lemma cX1_lemma 1 (some .int) :: WW) ({ frames := 1, cells := 0, slots := 0, locals := 21 }) (va_Pc [.ref (a 0)] (rwP D (wM cI cZ a S) (tyIZ cI cZ) sz)) (rwQi D (wM cI cZ a z.2) z.1 (va_A (wM cI cZ a S) sz)) 0 0 (va_A (wM cI cZ a S) sz) := by
  refine RW_of (own := RX1) (Qc := fun A => rwQi D (wM cI cZ a z.2) z.1 A) (by decide) rfl (Nat.le_of_ble_eq_true rfl) ?_
  intro p e s m args below meth c A ha C hr hlk hP hK hD hA ls hl
  have hS : va_S A s.heap s.heap [] := va_S.rf
  have hl : lv_has ls 1 [(0, .ref (a 0))] := hl
  unfold mM_lemma at h
  refine lv_aload_n C.1 C.2.1 dX1_lemma_0 rfl (lv_at hl 0 rfl) ?_
  refine lv_iconst (v := 0) C.1 C.2.1 dX1_lemma_1 (by decide) ?_
  refine pX1_thrown C hK hP hD hS h dX1_lemma_2 (fun S2 H locs h hP hD hS => ?_)
  refine lv_aload_n C.1 C.2.1 dX1_lemma_5 rfl (lv_at hl 0 rfl) ?_
  refine gX1_lemmas C hK hP dX1_lemma_6 ?_
  refine lv_bipush (v := 12) C.1 C.2.1 dX1_lemma_9 (by decide) ?_
  refine k_icmp_ne (tgt := 20) C dX1_lemma_11 (by decide) h (fun c11 h => ?_) (fun c11 h => ?_)
  · refine lv_aload_n C.1 C.2.1 dX1_lemma_20 rfl (lv_at hl 0 rfl) ?_
    refine lv_dup C.1 C.2.1 dX1_lemma_21 rfl ?_
    refine gX1_lemmas C hK hP dX1_lemma_22 ?_
    refine lv_iconst (v := 1) C.1 C.2.1 dX1_lemma_25 (by decide) ?_
    refine lv_iadd C.1 C.2.1 dX1_lemma_26 ?_
    refine pX1_lemmas C hK hP hD hS h dX1_lemma_27 (fun S27 H locs h hP hD hS => ?_)
    refine lv_aload_n C.1 C.2.1 dX1_lemma_30 rfl (lv_at hl 0 rfl) ?_
    refine gX1_lemmas C hK hP dX1_lemma_31 ?_
    refine lv_iconst (v := 1) C.1 C.2.1 dX1_lemma_34 (by decide) ?_
    refine lv_isub C.1 C.2.1 dX1_lemma_35 ?_
    exact k_iretW (w := wM cI cZ a) C hr hlk h hP hS dX1_lemma_36
  · refine lv_aload_n C.1 C.2.1 dX1_lemma_14 rfl (lv_at hl 0 rfl) ?_
    refine lv_iconst (v := 1) C.1 C.2.1 dX1_lemma_15 (by decide) ?_
    refine k_rwVi C (wM_ad _) hK hP hD hS hA [.int 1] (wM_rv hK hP) h (fun v S2 e => tX1_no e) (cb_X1_104 C.2.2.2.2 ⟨Nat.le_of_ble_eq_true rfl, Nat.le_of_ble_eq_true rfl⟩) rfl hl.1 (Nat.le_of_ble_eq_true rfl) ⟨Nat.le_of_ble_eq_true rfl, Nat.le_of_ble_eq_true rfl⟩ dX1_lemma_16 rfl (fun x16 S16 H locs e16 h hP hD hS => ?_)
    exact k_iretW (w := wM cI cZ a) C hr hlk h hP hS dX1_lemma_19
set_option maxHeartbeats 4000000 in
set_option maxRecDepth 100000 in
theorem tX1_isLemma {l : Launch} {D : va_G} {cI cZ : ClassId} {a : Nat → Nat} {S : XS} {v1 : Int32} {z : Int32} (h : mM_isLemma S v1 = some z) : Met l yX1_isLemma (Cond.code yX1_isLemma cX1_isLemma 2 (some .boolean) :: WW) ({ frames := 1, cells := 0, slots := 0, locals := 22 }) (va_Pc [.ref (a 0), .int v1] (roP D (wM cI cZ a S) (tyIZ cI cZ))) (vp_Si (fun r => r = z)) 0 0 (fun _ => False) := by
  refine RO_of (own := RX1) (by decide) rfl (Nat.le_of_ble_eq_true rfl) ?_
  intro p e s m args below meth c ha C hr hlk hP hK ls hl
  have hl : lv_has ls 2 [(0, .ref (a 0)), (1, .int v1)] := hl
  unfold mM_isLemma at h
  refine lv_iload_n C.1 C.2.1 dX1_isLemma_0 rfl (lv_at hl 1 rfl) ?_
  refine lv_iconst (v := 0) C.1 C.2.1 dX1_isLemma_1 (by decide) ?_
  refine lv_aload_n C.1 C.2.1 dX1_isLemma_2 rfl (lv_at hl 0 rfl) ?_
  refine gX1_lemmas C hK hP dX1_isLemma_3 ?_
  refine lv_iconst (v := 1) C.1 C.2.1 dX1_isLemma_6 (by decide) ?_
  refine lv_isub C.1 C.2.1 dX1_isLemma_7 ?_
  refine k_prS C [.int v1, .int 0, .int ((S 14 0) - 1)] h (fun v e => tX1_isIn e) (cb_X1_48 C.2.2.2.2 ⟨Nat.le_of_ble_eq_true rfl, Nat.le_of_ble_eq_true rfl⟩) rfl hl.1 (Nat.le_of_ble_eq_true rfl) ⟨Nat.le_of_ble_eq_true rfl, Nat.le_of_ble_eq_true rfl⟩ dX1_isLemma_8 rfl (fun x8 e8 h => ?_)
  exact k_zret C hr hlk h dX1_isLemma_11
set_option maxHeartbeats 4000000 in
set_option maxRecDepth 100000 in
theorem tX1_proof {l : Launch} {D : va_G} {cI cZ : ClassId} {a : Nat → Nat} {S : XS} {sz : Nat} {v1 : Int32} {z : (Int32 × XS)} (h : mM_proof S v1 = some z) : Met l yX1_proof (Cond.code yX1_proof cX1_proof 2 (some .int) :: WW) ({ frames := 2, cells := 0, slots := 0, locals := 43 }) (va_Pc [.ref (a 0), .int v1] (rwP D (wM cI cZ a S) (tyIZ cI cZ) sz)) (rwQi D (wM cI cZ a z.2) z.1 (va_A (wM cI cZ a S) sz)) 0 0 (va_A (wM cI cZ a S) sz) := by
  refine RW_of (own := RX1) (Qc := fun A => rwQi D (wM cI cZ a z.2) z.1 A) (by decide) rfl (Nat.le_of_ble_eq_true rfl) ?_
  intro p e s m args below meth c A ha C hr hlk hP hK hD hA ls hl
  have hS : va_S A s.heap s.heap [] := va_S.rf
  have hl : lv_has ls 2 [(0, .ref (a 0)), (1, .int v1)] := hl
  unfold mM_proof at h
  refine lv_aload_n C.1 C.2.1 dX1_proof_0 rfl (lv_at hl 0 rfl) ?_
  refine lv_iconst (v := 0) C.1 C.2.1 dX1_proof_1 (by decide) ?_
  refine pX1_thrown C hK hP hD hS h dX1_proof_2 (fun S2 H locs h hP hD hS => ?_)
  refine lv_aload_n C.1 C.2.1 dX1_proof_5 rfl (lv_at hl 0 rfl) ?_
  refine lv_iload_n C.1 C.2.1 dX1_proof_6 rfl (lv_at hl 1 rfl) ?_
  refine k_roVi C hK hP [.int v1] (wM_rv hK hP) h (fun v e => tX1_isLemma e) (cb_X1_55 C.2.2.2.2 ⟨Nat.le_of_ble_eq_true rfl, Nat.le_of_ble_eq_true rfl⟩) rfl hl.1 (Nat.le_of_ble_eq_true rfl) ⟨Nat.le_of_ble_eq_true rfl, Nat.le_of_ble_eq_true rfl⟩ dX1_proof_7 rfl (fun x7 e7 h => ?_)
  refine k_if_ne (tgt := 19) C dX1_proof_10 (by decide) h (fun c10 h => ?_) (fun c10 h => ?_)
  · refine lv_aload_n C.1 C.2.1 dX1_proof_19 rfl (lv_at hl 0 rfl) ?_
    refine gX1_proofs C hK hP dX1_proof_20 ?_
    refine lv_iload_n C.1 C.2.1 dX1_proof_23 rfl (lv_at hl 1 rfl) ?_
    refine lX1_proofs C hK hP h dX1_proof_24 (fun h => ?_)
    refine lv_iconst (v := 3) C.1 C.2.1 dX1_proof_25 (by decide) ?_
    refine k_icmp_ne (tgt := 35) C dX1_proof_26 (by decide) h (fun c26 h => ?_) (fun c26 h => ?_)
    · refine lv_aload_n C.1 C.2.1 dX1_proof_35 rfl (lv_at hl 0 rfl) ?_
      refine gX1_steps C hK hP dX1_proof_36 ?_
      refine lv_iconst (v := 3) C.1 C.2.1 dX1_proof_39 (by decide) ?_
      refine lv_iload_n C.1 C.2.1 dX1_proof_40 rfl (lv_at hl 1 rfl) ?_
      refine lv_imul C.1 C.2.1 dX1_proof_41 ?_
      refine lv_aload_n C.1 C.2.1 dX1_proof_42 rfl (lv_at hl 0 rfl) ?_
      refine gX1_proofs C hK hP dX1_proof_43 ?_
      refine lv_iload_n C.1 C.2.1 dX1_proof_46 rfl (lv_at hl 1 rfl) ?_
      refine lX1_proofs C hK hP h dX1_proof_47 (fun h => ?_)
      refine lv_iadd C.1 C.2.1 dX1_proof_48 ?_
      refine lv_iconst (v := 0) C.1 C.2.1 dX1_proof_49 (by decide) ?_
      refine sX1_steps C hK hP hD hS h dX1_proof_50 (fun S50 H locs h hP hD hS => ?_)
      refine lv_aload_n C.1 C.2.1 dX1_proof_51 rfl (lv_at hl 0 rfl) ?_
      refine gX1_proofs C hK hP dX1_proof_52 ?_
      refine lv_iload_n C.1 C.2.1 dX1_proof_55 rfl (lv_at hl 1 rfl) ?_
      refine lv_dup2_11 C.1 C.2.1 dX1_proof_56 rfl rfl ?_
      refine lX1_proofs C hK hP h dX1_proof_57 (fun h => ?_)
      refine lv_iconst (v := 1) C.1 C.2.1 dX1_proof_58 (by decide) ?_
      refine lv_iadd C.1 C.2.1 dX1_proof_59 ?_
      refine sX1_proofs C hK hP hD hS h dX1_proof_60 (fun S60 H locs h hP hD hS => ?_)
      refine lv_aload_n C.1 C.2.1 dX1_proof_61 rfl (lv_at hl 0 rfl) ?_
      refine gX1_proofs C hK hP dX1_proof_62 ?_
      refine lv_iload_n C.1 C.2.1 dX1_proof_65 rfl (lv_at hl 1 rfl) ?_
      refine lX1_proofs C hK hP h dX1_proof_66 (fun h => ?_)
      refine lv_iconst (v := 1) C.1 C.2.1 dX1_proof_67 (by decide) ?_
      refine lv_isub C.1 C.2.1 dX1_proof_68 ?_
      exact k_iretW (w := wM cI cZ a) C hr hlk h hP hS dX1_proof_69
    · refine lv_aload_n C.1 C.2.1 dX1_proof_29 rfl (lv_at hl 0 rfl) ?_
      refine lv_iconst (v := 2) C.1 C.2.1 dX1_proof_30 (by decide) ?_
      refine k_rwVi C (wM_ad _) hK hP hD hS hA [.int 2] (wM_rv hK hP) h (fun v S2 e => tX1_no e) (cb_X1_104 C.2.2.2.2 ⟨Nat.le_of_ble_eq_true rfl, Nat.le_of_ble_eq_true rfl⟩) rfl hl.1 (Nat.le_of_ble_eq_true rfl) ⟨Nat.le_of_ble_eq_true rfl, Nat.le_of_ble_eq_true rfl⟩ dX1_proof_31 rfl (fun x31 S31 H locs e31 h hP hD hS => ?_)
      exact k_iretW (w := wM cI cZ a) C hr hlk h hP hS dX1_proof_34
  · refine lv_aload_n C.1 C.2.1 dX1_proof_13 rfl (lv_at hl 0 rfl) ?_
    refine lv_iconst (v := 1) C.1 C.2.1 dX1_proof_14 (by decide) ?_
    refine k_rwVi C (wM_ad _) hK hP hD hS hA [.int 1] (wM_rv hK hP) h (fun v S2 e => tX1_no e) (cb_X1_104 C.2.2.2.2 ⟨Nat.le_of_ble_eq_true rfl, Nat.le_of_ble_eq_true rfl⟩) rfl hl.1 (Nat.le_of_ble_eq_true rfl) ⟨Nat.le_of_ble_eq_true rfl, Nat.le_of_ble_eq_true rfl⟩ dX1_proof_15 rfl (fun x15 S15 H locs e15 h hP hD hS => ?_)
    exact k_iretW (w := wM cI cZ a) C hr hlk h hP hS dX1_proof_18
set_option maxHeartbeats 4000000 in
set_option maxRecDepth 100000 in
theorem tX1_isProof {l : Launch} {D : va_G} {cI cZ : ClassId} {a : Nat → Nat} {S : XS} {v1 : Int32} {v2 : Int32} {z : Int32} (h : mM_isProof S v1 v2 = some z) : Met l yX1_isProof (Cond.code yX1_isProof cX1_isProof 3 (some .boolean) :: WW) ({ frames := 2, cells := 0, slots := 0, locals := 43 }) (va_Pc [.ref (a 0), .int v1, .int v2] (roP D (wM cI cZ a S) (tyIZ cI cZ))) (vp_Si (fun r => r = z)) 0 0 (fun _ => False) := by
  refine RO_of (own := RX1) (by decide) rfl (Nat.le_of_ble_eq_true rfl) ?_
  intro p e s m args below meth c ha C hr hlk hP hK ls hl
  have hl : lv_has ls 3 [(0, .ref (a 0)), (1, .int v1), (2, .int v2)] := hl
  unfold mM_isProof at h
  refine lv_aload_n C.1 C.2.1 dX1_isProof_0 rfl (lv_at hl 0 rfl) ?_
  refine lv_iload_n C.1 C.2.1 dX1_isProof_1 rfl (lv_at hl 1 rfl) ?_
  refine k_roVi C hK hP [.int v1] (wM_rv hK hP) h (fun v e => tX1_isLemma e) (cb_X1_55 C.2.2.2.2 ⟨Nat.le_of_ble_eq_true rfl, Nat.le_of_ble_eq_true rfl⟩) rfl hl.1 (Nat.le_of_ble_eq_true rfl) ⟨Nat.le_of_ble_eq_true rfl, Nat.le_of_ble_eq_true rfl⟩ dX1_isProof_2 rfl (fun x2 e2 h => ?_)
  refine k_if_eq (tgt := 28) C dX1_isProof_5 (by decide) h (fun c5 h => ?_) (fun c5 h => ?_)
  · refine lv_iconst (v := 0) C.1 C.2.1 dX1_isProof_28 (by decide) ?_
    exact k_zret C hr hlk h dX1_isProof_29
  · refine lv_iload_n C.1 C.2.1 dX1_isProof_8 rfl (lv_at hl 2 rfl) ?_
    refine lv_iconst (v := 0) C.1 C.2.1 dX1_isProof_9 (by decide) ?_
    refine lv_aload_n C.1 C.2.1 dX1_isProof_10 rfl (lv_at hl 0 rfl) ?_
    refine gX1_proofs C hK hP dX1_isProof_11 ?_
    refine lv_iload_n C.1 C.2.1 dX1_isProof_14 rfl (lv_at hl 1 rfl) ?_
    refine lX1_proofs C hK hP h dX1_isProof_15 (fun h => ?_)
    refine lv_iconst (v := 1) C.1 C.2.1 dX1_isProof_16 (by decide) ?_
    refine lv_isub C.1 C.2.1 dX1_isProof_17 ?_
    refine k_prS C [.int v2, .int 0, .int ((S 2 (v1 : Int32).toNatClampNeg) - 1)] h (fun v e => tX1_isIn e) (cb_X1_48 C.2.2.2.2 ⟨Nat.le_of_ble_eq_true rfl, Nat.le_of_ble_eq_true rfl⟩) rfl hl.1 (Nat.le_of_ble_eq_true rfl) ⟨Nat.le_of_ble_eq_true rfl, Nat.le_of_ble_eq_true rfl⟩ dX1_isProof_18 rfl (fun x18 e18 h => ?_)
    refine k_if_eq (tgt := 28) C dX1_isProof_21 (by decide) h (fun c21 h => ?_) (fun c21 h => ?_)
    · refine lv_iconst (v := 0) C.1 C.2.1 dX1_isProof_28 (by decide) ?_
      exact k_zret C hr hlk h dX1_isProof_29
    · refine lv_iconst (v := 1) C.1 C.2.1 dX1_isProof_24 (by decide) ?_
      refine lv_goto (tgt := 29) C.1 C.2.1 dX1_isProof_25 (by decide) ?_
      exact k_zret C hr hlk h dX1_isProof_29
set_option maxHeartbeats 4000000 in
set_option maxRecDepth 100000 in
theorem tX1_at {l : Launch} {v0 : Int32} {v1 : Int32} {v2 : Int32} {z : Int32} (h : mM_at v0 v1 v2 = some z) : Met l yX1_at (Cond.code yX1_at cX1_at 3 (some .int) :: WW) ({ frames := 0, cells := 0, slots := 0, locals := 0 }) (va_Pc [.int v0, .int v1, .int v2] (fun _ => True)) (vp_Si (fun r => r = z)) 0 0 (fun _ => False) := by
  refine RS_of (own := RX1) (by decide) rfl (Nat.le_of_ble_eq_true rfl) ?_
  intro p e s m args below meth c ha C hr hlk ls hl
  have hl : lv_has ls 3 [(0, .int v0), (1, .int v1), (2, .int v2)] := hl
  unfold mM_at at h
  refine lv_iconst (v := 5) C.1 C.2.1 dX1_at_0 (by decide) ?_
  refine lv_iconst (v := 3) C.1 C.2.1 dX1_at_1 (by decide) ?_
  refine lv_iload_n C.1 C.2.1 dX1_at_2 rfl (lv_at hl 0 rfl) ?_
  refine lv_imul C.1 C.2.1 dX1_at_3 ?_
  refine lv_iload_n C.1 C.2.1 dX1_at_4 rfl (lv_at hl 1 rfl) ?_
  refine lv_iadd C.1 C.2.1 dX1_at_5 ?_
  refine lv_imul C.1 C.2.1 dX1_at_6 ?_
  refine lv_iload_n C.1 C.2.1 dX1_at_7 rfl (lv_at hl 2 rfl) ?_
  refine lv_iadd C.1 C.2.1 dX1_at_8 ?_
  exact k_iret C hr hlk h dX1_at_9
set_option maxHeartbeats 4000000 in
set_option maxRecDepth 100000 in
theorem tX1_cite {l : Launch} {D : va_G} {cI cZ : ClassId} {a : Nat → Nat} {S : XS} {sz : Nat} {v1 : Int32} {v2 : Int32} {v3 : Int32} {v4 : Int32} {z : (Int32 × XS)} (h : mM_cite S v1 v2 v3 v4 = some z) : Met l yX1_cite (Cond.code yX1_cite cX1_cite 7 (some .int) :: WW) ({ frames := 3, cells := 0, slots := 0, locals := 65 }) (va_Pc [.ref (a 0), .int v1, .int v2, .int v3, .int v4] (rwP D (wM cI cZ a S) (tyIZ cI cZ) sz)) (rwQi D (wM cI cZ a z.2) z.1 (va_A (wM cI cZ a S) sz)) 0 0 (va_A (wM cI cZ a S) sz) := by
  refine RW_of (own := RX1) (Qc := fun A => rwQi D (wM cI cZ a z.2) z.1 A) (by decide) rfl (Nat.le_of_ble_eq_true rfl) ?_
  intro p e s m args below meth c A ha C hr hlk hP hK hD hA ls hl
  have hS : va_S A s.heap s.heap [] := va_S.rf
  have hl : lv_has ls 7 [(0, .ref (a 0)), (1, .int v1), (2, .int v2), (3, .int v3), (4, .int v4)] := hl
  have J149 : ∀ (S : XS) (H : Heap) (locs : List Loc) (hP : va_P D vwCl (wM cI cZ a S) H) (hD : va_D A (wM cI cZ a S)) (hS : va_S A s.heap H locs) (v5 : Int32) (v6 : Int32) (t0 : Int32) (t1 : Int32), mM_cite_J149 S v5 v6 t0 t1 = some z → ∀ ls : Array Slot, lv_has ls 7 [(0, .ref (a 0)), (5, .int v5), (6, .int v6)] → W p l e { frames := 3, cells := 0, slots := 0, locals := 65 } s m args below meth c H locs 0 0 (MQ below (rwQi D (wM cI cZ a z.2) z.1 A) args s 0 0 A) (F0 m 149 ls [.int t0, .int t1, .ref (a 6)]) := by
    intro S H locs hP hD hS v5 v6 t0 t1 h ls hl
    unfold mM_cite_J149 at h
    refine sX1_open C hK hP hD hS h dX1_cite_149 (fun S149 H locs h hP hD hS => ?_)
    refine lv_aload_n C.1 C.2.1 dX1_cite_150 rfl (lv_at hl 0 rfl) ?_
    refine gX1_isOut C hK hP dX1_cite_151 ?_
    refine lv_iload C.1 C.2.1 dX1_cite_154 (lv_at hl 2 rfl) ?_
    refine lv_iconst (v := 0) C.1 C.2.1 dX1_cite_156 (by decide) ?_
    refine sX1_isOut C hK hP hD hS h dX1_cite_157 (fun S157 H locs h hP hD hS => ?_)
    refine lv_aload_n C.1 C.2.1 dX1_cite_158 rfl (lv_at hl 0 rfl) ?_
    refine gX1_steps C hK hP dX1_cite_159 ?_
    refine lv_iload C.1 C.2.1 dX1_cite_162 (lv_at hl 1 rfl) ?_
    refine lv_dup2_11 C.1 C.2.1 dX1_cite_164 rfl rfl ?_
    refine lX1_steps C hK hP h dX1_cite_165 (fun h => ?_)
    refine lv_iconst (v := 1) C.1 C.2.1 dX1_cite_166 (by decide) ?_
    refine lv_iadd C.1 C.2.1 dX1_cite_167 ?_
    refine sX1_steps C hK hP hD hS h dX1_cite_168 (fun S168 H locs h hP hD hS => ?_)
    refine lv_aload_n C.1 C.2.1 dX1_cite_169 rfl (lv_at hl 0 rfl) ?_
    refine gX1_steps C hK hP dX1_cite_170 ?_
    refine lv_iload C.1 C.2.1 dX1_cite_173 (lv_at hl 1 rfl) ?_
    refine lX1_steps C hK hP h dX1_cite_175 (fun h => ?_)
    exact k_iretW (w := wM cI cZ a) C hr hlk h hP hS dX1_cite_176
  have J77 : ∀ (S : XS) (H : Heap) (locs : List Loc) (hP : va_P D vwCl (wM cI cZ a S) H) (hD : va_D A (wM cI cZ a S)) (hS : va_S A s.heap H locs) (v1 : Int32) (v2 : Int32) (v3 : Int32) (v4 : Int32), mM_cite_J77 S v1 v2 v3 v4 = some z → ∀ ls : Array Slot, lv_has ls 7 [(0, .ref (a 0)), (1, .int v1), (2, .int v2), (3, .int v3), (4, .int v4)] → W p l e { frames := 3, cells := 0, slots := 0, locals := 65 } s m args below meth c H locs 0 0 (MQ below (rwQi D (wM cI cZ a z.2) z.1 A) args s 0 0 A) (F0 m 77 ls []) := by
    intro S H locs hP hD hS v1 v2 v3 v4 h ls hl
    unfold mM_cite_J77 at h
    refine lv_iconst (v := 3) C.1 C.2.1 dX1_cite_77 (by decide) ?_
    refine lv_iload_n C.1 C.2.1 dX1_cite_78 rfl (lv_at hl 1 rfl) ?_
    refine lv_imul C.1 C.2.1 dX1_cite_79 ?_
    refine lv_iload_n C.1 C.2.1 dX1_cite_80 rfl (lv_at hl 2 rfl) ?_
    refine lv_iadd C.1 C.2.1 dX1_cite_81 ?_
    refine lv_istore (lv' := [(5, .int ((3 * v1) + v2)), (0, .ref (a 0)), (1, .int v1), (2, .int v2), (3, .int v3), (4, .int v4)]) C.1 C.2.1 dX1_cite_82 hl (by decide) rfl (fun ls hl => ?_)
    refine lv_aload_n C.1 C.2.1 dX1_cite_84 rfl (lv_at hl 1 rfl) ?_
    refine gX1_steps C hK hP dX1_cite_85 ?_
    refine lv_iload C.1 C.2.1 dX1_cite_88 (lv_at hl 0 rfl) ?_
    refine lX1_steps C hK hP h dX1_cite_90 (fun h => ?_)
    refine lv_iconst (v := 5) C.1 C.2.1 dX1_cite_91 (by decide) ?_
    refine k_icmp_ne (tgt := 101) C dX1_cite_92 (by decide) h (fun c92 h => ?_) (fun c92 h => ?_)
    · refine lv_iload_n C.1 C.2.1 dX1_cite_101 rfl (lv_at hl 2 rfl) ?_
      refine lv_iload_n C.1 C.2.1 dX1_cite_102 rfl (lv_at hl 3 rfl) ?_
      refine lv_aload_n C.1 C.2.1 dX1_cite_103 rfl (lv_at hl 1 rfl) ?_
      refine gX1_steps C hK hP dX1_cite_104 ?_
      refine lv_iload C.1 C.2.1 dX1_cite_107 (lv_at hl 0 rfl) ?_
      refine lX1_steps C hK hP h dX1_cite_109 (fun h => ?_)
      refine k_prS C [.int v1, .int v2, .int (S 3 (((3 * v1) + v2) : Int32).toNatClampNeg)] h (fun v e => tX1_at e) (cb_X1_63 C.2.2.2.2 ⟨Nat.le_of_ble_eq_true rfl, Nat.le_of_ble_eq_true rfl⟩) rfl hl.1 (Nat.le_of_ble_eq_true rfl) ⟨Nat.le_of_ble_eq_true rfl, Nat.le_of_ble_eq_true rfl⟩ dX1_cite_110 rfl (fun x110 e110 h => ?_)
      refine lv_istore (lv' := [(6, .int x110), (5, .int ((3 * v1) + v2)), (0, .ref (a 0)), (1, .int v1), (2, .int v2), (3, .int v3), (4, .int v4)]) C.1 C.2.1 dX1_cite_113 hl (by decide) rfl (fun ls hl => ?_)
      refine lv_aload_n C.1 C.2.1 dX1_cite_115 rfl (lv_at hl 2 rfl) ?_
      refine gX1_kind C hK hP dX1_cite_116 ?_
      refine lv_iload C.1 C.2.1 dX1_cite_119 (lv_at hl 0 rfl) ?_
      refine lv_iload_n C.1 C.2.1 dX1_cite_121 rfl (lv_at hl 5 rfl) ?_
      refine sX1_kind C hK hP hD hS h dX1_cite_122 (fun S122 H locs h hP hD hS => ?_)
      refine lv_aload_n C.1 C.2.1 dX1_cite_123 rfl (lv_at hl 2 rfl) ?_
      refine gX1_cited C hK hP dX1_cite_124 ?_
      refine lv_iload C.1 C.2.1 dX1_cite_127 (lv_at hl 0 rfl) ?_
      refine lv_iload C.1 C.2.1 dX1_cite_129 (lv_at hl 6 rfl) ?_
      refine sX1_cited C hK hP hD hS h dX1_cite_131 (fun S131 H locs h hP hD hS => ?_)
      refine lv_aload_n C.1 C.2.1 dX1_cite_132 rfl (lv_at hl 2 rfl) ?_
      refine gX1_open C hK hP dX1_cite_133 ?_
      refine lv_iload C.1 C.2.1 dX1_cite_136 (lv_at hl 0 rfl) ?_
      refine lv_iload_n C.1 C.2.1 dX1_cite_138 rfl (lv_at hl 5 rfl) ?_
      refine lv_iconst (v := 2) C.1 C.2.1 dX1_cite_139 (by decide) ?_
      refine k_icmp_ne (tgt := 148) C dX1_cite_140 (by decide) h (fun c140 h => ?_) (fun c140 h => ?_)
      · refine lv_iconst (v := 0) C.1 C.2.1 dX1_cite_148 (by decide) ?_
        exact J149 _ _ _ hP hD hS ((3 * v1) + v2) x110 0 x110 h ls (lv_sub hl [2, 1, 0] rfl)
      · refine lv_iload C.1 C.2.1 dX1_cite_143 (lv_at hl 6 rfl) ?_
        refine lv_goto (tgt := 149) C.1 C.2.1 dX1_cite_145 (by decide) ?_
        exact J149 _ _ _ hP hD hS ((3 * v1) + v2) x110 v4 x110 h ls (lv_sub hl [2, 1, 0] rfl)
    · refine lv_aload_n C.1 C.2.1 dX1_cite_95 rfl (lv_at hl 1 rfl) ?_
      refine lv_iconst (v := 3) C.1 C.2.1 dX1_cite_96 (by decide) ?_
      refine k_rwVi C (wM_ad _) hK hP hD hS hA [.int 3] (wM_rv hK hP) h (fun v S2 e => tX1_no e) (cb_X1_104 C.2.2.2.2 ⟨Nat.le_of_ble_eq_true rfl, Nat.le_of_ble_eq_true rfl⟩) rfl hl.1 (Nat.le_of_ble_eq_true rfl) ⟨Nat.le_of_ble_eq_true rfl, Nat.le_of_ble_eq_true rfl⟩ dX1_cite_97 rfl (fun x97 S97 H locs e97 h hP hD hS => ?_)
      exact k_iretW (w := wM cI cZ a) C hr hlk h hP hS dX1_cite_100
  have J55 : ∀ (S : XS) (H : Heap) (locs : List Loc) (hP : va_P D vwCl (wM cI cZ a S) H) (hD : va_D A (wM cI cZ a S)) (hS : va_S A s.heap H locs) (v1 : Int32) (v2 : Int32) (v3 : Int32) (v4 : Int32), mM_cite_J55 S v1 v2 v3 v4 = some z → ∀ ls : Array Slot, lv_has ls 7 [(0, .ref (a 0)), (1, .int v1), (2, .int v2), (3, .int v3), (4, .int v4)] → W p l e { frames := 3, cells := 0, slots := 0, locals := 65 } s m args below meth c H locs 0 0 (MQ below (rwQi D (wM cI cZ a z.2) z.1 A) args s 0 0 A) (F0 m 55 ls []) := by
    intro S H locs hP hD hS v1 v2 v3 v4 h ls hl
    unfold mM_cite_J55 at h
    refine lv_iload_n C.1 C.2.1 dX1_cite_55 rfl (lv_at hl 3 rfl) ?_
    refine lv_iconst (v := 2) C.1 C.2.1 dX1_cite_56 (by decide) ?_
    refine k_icmp_ne (tgt := 77) C dX1_cite_57 (by decide) h (fun c57 h => ?_) (fun c57 h => ?_)
    · exact J77 _ _ _ hP hD hS v1 v2 v3 v4 h ls (lv_sub hl [0, 1, 2, 3, 4] rfl)
    · refine lv_iload C.1 C.2.1 dX1_cite_60 (lv_at hl 4 rfl) ?_
      refine lv_iconst (v := 1) C.1 C.2.1 dX1_cite_62 (by decide) ?_
      refine lv_bipush (v := 9) C.1 C.2.1 dX1_cite_63 (by decide) ?_
      refine k_prS C [.int v4, .int 1, .int 9] h (fun v e => tX1_isIn e) (cb_X1_48 C.2.2.2.2 ⟨Nat.le_of_ble_eq_true rfl, Nat.le_of_ble_eq_true rfl⟩) rfl hl.1 (Nat.le_of_ble_eq_true rfl) ⟨Nat.le_of_ble_eq_true rfl, Nat.le_of_ble_eq_true rfl⟩ dX1_cite_65 rfl (fun x65 e65 h => ?_)
      refine k_if_ne (tgt := 77) C dX1_cite_68 (by decide) h (fun c68 h => ?_) (fun c68 h => ?_)
      · exact J77 _ _ _ hP hD hS v1 v2 v3 v4 h ls (lv_sub hl [0, 1, 2, 3, 4] rfl)
      · refine lv_aload_n C.1 C.2.1 dX1_cite_71 rfl (lv_at hl 0 rfl) ?_
        refine lv_iconst (v := 2) C.1 C.2.1 dX1_cite_72 (by decide) ?_
        refine k_rwVi C (wM_ad _) hK hP hD hS hA [.int 2] (wM_rv hK hP) h (fun v S2 e => tX1_no e) (cb_X1_104 C.2.2.2.2 ⟨Nat.le_of_ble_eq_true rfl, Nat.le_of_ble_eq_true rfl⟩) rfl hl.1 (Nat.le_of_ble_eq_true rfl) ⟨Nat.le_of_ble_eq_true rfl, Nat.le_of_ble_eq_true rfl⟩ dX1_cite_73 rfl (fun x73 S73 H locs e73 h hP hD hS => ?_)
        exact k_iretW (w := wM cI cZ a) C hr hlk h hP hS dX1_cite_76
  have J35 : ∀ (S : XS) (H : Heap) (locs : List Loc) (hP : va_P D vwCl (wM cI cZ a S) H) (hD : va_D A (wM cI cZ a S)) (hS : va_S A s.heap H locs) (v1 : Int32) (v2 : Int32) (v3 : Int32) (v4 : Int32), mM_cite_J35 S v1 v2 v3 v4 = some z → ∀ ls : Array Slot, lv_has ls 7 [(0, .ref (a 0)), (1, .int v1), (2, .int v2), (3, .int v3), (4, .int v4)] → W p l e { frames := 3, cells := 0, slots := 0, locals := 65 } s m args below meth c H locs 0 0 (MQ below (rwQi D (wM cI cZ a z.2) z.1 A) args s 0 0 A) (F0 m 35 ls []) := by
    intro S H locs hP hD hS v1 v2 v3 v4 h ls hl
    unfold mM_cite_J35 at h
    refine lv_iload_n C.1 C.2.1 dX1_cite_35 rfl (lv_at hl 3 rfl) ?_
    refine lv_iconst (v := 1) C.1 C.2.1 dX1_cite_36 (by decide) ?_
    refine k_icmp_ne (tgt := 55) C dX1_cite_37 (by decide) h (fun c37 h => ?_) (fun c37 h => ?_)
    · exact J55 _ _ _ hP hD hS v1 v2 v3 v4 h ls (lv_sub hl [0, 1, 2, 3, 4] rfl)
    · refine lv_aload_n C.1 C.2.1 dX1_cite_40 rfl (lv_at hl 0 rfl) ?_
      refine lv_iload C.1 C.2.1 dX1_cite_41 (lv_at hl 4 rfl) ?_
      refine k_roVi C hK hP [.int v4] (wM_rv hK hP) h (fun v e => tX1_isLemma e) (cb_X1_55 C.2.2.2.2 ⟨Nat.le_of_ble_eq_true rfl, Nat.le_of_ble_eq_true rfl⟩) rfl hl.1 (Nat.le_of_ble_eq_true rfl) ⟨Nat.le_of_ble_eq_true rfl, Nat.le_of_ble_eq_true rfl⟩ dX1_cite_43 rfl (fun x43 e43 h => ?_)
      refine k_if_ne (tgt := 55) C dX1_cite_46 (by decide) h (fun c46 h => ?_) (fun c46 h => ?_)
      · exact J55 _ _ _ hP hD hS v1 v2 v3 v4 h ls (lv_sub hl [0, 1, 2, 3, 4] rfl)
      · refine lv_aload_n C.1 C.2.1 dX1_cite_49 rfl (lv_at hl 0 rfl) ?_
        refine lv_iconst (v := 1) C.1 C.2.1 dX1_cite_50 (by decide) ?_
        refine k_rwVi C (wM_ad _) hK hP hD hS hA [.int 1] (wM_rv hK hP) h (fun v S2 e => tX1_no e) (cb_X1_104 C.2.2.2.2 ⟨Nat.le_of_ble_eq_true rfl, Nat.le_of_ble_eq_true rfl⟩) rfl hl.1 (Nat.le_of_ble_eq_true rfl) ⟨Nat.le_of_ble_eq_true rfl, Nat.le_of_ble_eq_true rfl⟩ dX1_cite_51 rfl (fun x51 S51 H locs e51 h hP hD hS => ?_)
        exact k_iretW (w := wM cI cZ a) C hr hlk h hP hS dX1_cite_54
  unfold mM_cite at h
  refine lv_aload_n C.1 C.2.1 dX1_cite_0 rfl (lv_at hl 0 rfl) ?_
  refine lv_iconst (v := 0) C.1 C.2.1 dX1_cite_1 (by decide) ?_
  refine pX1_thrown C hK hP hD hS h dX1_cite_2 (fun S2 H locs h hP hD hS => ?_)
  refine lv_aload_n C.1 C.2.1 dX1_cite_5 rfl (lv_at hl 0 rfl) ?_
  refine lv_iload_n C.1 C.2.1 dX1_cite_6 rfl (lv_at hl 1 rfl) ?_
  refine lv_iload_n C.1 C.2.1 dX1_cite_7 rfl (lv_at hl 2 rfl) ?_
  refine k_roVi C hK hP [.int v1, .int v2] (wM_rv hK hP) h (fun v e => tX1_isProof e) (cb_X1_59 C.2.2.2.2 ⟨Nat.le_of_ble_eq_true rfl, Nat.le_of_ble_eq_true rfl⟩) rfl hl.1 (Nat.le_of_ble_eq_true rfl) ⟨Nat.le_of_ble_eq_true rfl, Nat.le_of_ble_eq_true rfl⟩ dX1_cite_8 rfl (fun x8 e8 h => ?_)
  refine k_if_eq (tgt := 49) C dX1_cite_11 (by decide) h (fun c11 h => ?_) (fun c11 h => ?_)
  · refine lv_aload_n C.1 C.2.1 dX1_cite_49 rfl (lv_at hl 0 rfl) ?_
    refine lv_iconst (v := 1) C.1 C.2.1 dX1_cite_50 (by decide) ?_
    refine k_rwVi C (wM_ad _) hK hP hD hS hA [.int 1] (wM_rv hK hP) h (fun v S2 e => tX1_no e) (cb_X1_104 C.2.2.2.2 ⟨Nat.le_of_ble_eq_true rfl, Nat.le_of_ble_eq_true rfl⟩) rfl hl.1 (Nat.le_of_ble_eq_true rfl) ⟨Nat.le_of_ble_eq_true rfl, Nat.le_of_ble_eq_true rfl⟩ dX1_cite_51 rfl (fun x51 S51 H locs e51 h hP hD hS => ?_)
    exact k_iretW (w := wM cI cZ a) C hr hlk h hP hS dX1_cite_54
  · refine lv_iload_n C.1 C.2.1 dX1_cite_14 rfl (lv_at hl 3 rfl) ?_
    refine lv_iconst (v := 0) C.1 C.2.1 dX1_cite_15 (by decide) ?_
    refine lv_iconst (v := 2) C.1 C.2.1 dX1_cite_16 (by decide) ?_
    refine k_prS C [.int v3, .int 0, .int 2] h (fun v e => tX1_isIn e) (cb_X1_48 C.2.2.2.2 ⟨Nat.le_of_ble_eq_true rfl, Nat.le_of_ble_eq_true rfl⟩) rfl hl.1 (Nat.le_of_ble_eq_true rfl) ⟨Nat.le_of_ble_eq_true rfl, Nat.le_of_ble_eq_true rfl⟩ dX1_cite_17 rfl (fun x17 e17 h => ?_)
    refine k_if_eq (tgt := 49) C dX1_cite_20 (by decide) h (fun c20 h => ?_) (fun c20 h => ?_)
    · refine lv_aload_n C.1 C.2.1 dX1_cite_49 rfl (lv_at hl 0 rfl) ?_
      refine lv_iconst (v := 1) C.1 C.2.1 dX1_cite_50 (by decide) ?_
      refine k_rwVi C (wM_ad _) hK hP hD hS hA [.int 1] (wM_rv hK hP) h (fun v S2 e => tX1_no e) (cb_X1_104 C.2.2.2.2 ⟨Nat.le_of_ble_eq_true rfl, Nat.le_of_ble_eq_true rfl⟩) rfl hl.1 (Nat.le_of_ble_eq_true rfl) ⟨Nat.le_of_ble_eq_true rfl, Nat.le_of_ble_eq_true rfl⟩ dX1_cite_51 rfl (fun x51 S51 H locs e51 h hP hD hS => ?_)
      exact k_iretW (w := wM cI cZ a) C hr hlk h hP hS dX1_cite_54
    · refine lv_iload_n C.1 C.2.1 dX1_cite_23 rfl (lv_at hl 3 rfl) ?_
      refine k_if_ne (tgt := 35) C dX1_cite_24 (by decide) h (fun c24 h => ?_) (fun c24 h => ?_)
      · exact J35 _ _ _ hP hD hS v1 v2 v3 v4 h ls (lv_sub hl [0, 1, 2, 3, 4] rfl)
      · refine lv_iload C.1 C.2.1 dX1_cite_27 (lv_at hl 4 rfl) ?_
        refine k_prS C [.int v4] h (fun v e => tX1_isAxiom e) (cb_X1_101 C.2.2.2.2 ⟨Nat.le_of_ble_eq_true rfl, Nat.le_of_ble_eq_true rfl⟩) rfl hl.1 (Nat.le_of_ble_eq_true rfl) ⟨Nat.le_of_ble_eq_true rfl, Nat.le_of_ble_eq_true rfl⟩ dX1_cite_29 rfl (fun x29 e29 h => ?_)
        refine k_if_eq (tgt := 49) C dX1_cite_32 (by decide) h (fun c32 h => ?_) (fun c32 h => ?_)
        · refine lv_aload_n C.1 C.2.1 dX1_cite_49 rfl (lv_at hl 0 rfl) ?_
          refine lv_iconst (v := 1) C.1 C.2.1 dX1_cite_50 (by decide) ?_
          refine k_rwVi C (wM_ad _) hK hP hD hS hA [.int 1] (wM_rv hK hP) h (fun v S2 e => tX1_no e) (cb_X1_104 C.2.2.2.2 ⟨Nat.le_of_ble_eq_true rfl, Nat.le_of_ble_eq_true rfl⟩) rfl hl.1 (Nat.le_of_ble_eq_true rfl) ⟨Nat.le_of_ble_eq_true rfl, Nat.le_of_ble_eq_true rfl⟩ dX1_cite_51 rfl (fun x51 S51 H locs e51 h hP hD hS => ?_)
          exact k_iretW (w := wM cI cZ a) C hr hlk h hP hS dX1_cite_54
        · exact J35 _ _ _ hP hD hS v1 v2 v3 v4 h ls (lv_sub hl [0, 1, 2, 3, 4] rfl)
set_option maxHeartbeats 4000000 in
set_option maxRecDepth 100000 in
theorem tX1_isStep {l : Launch} {D : va_G} {cI cZ : ClassId} {a : Nat → Nat} {S : XS} {v1 : Int32} {v2 : Int32} {v3 : Int32} {z : Int32} (h : mM_isStep S v1 v2 v3 = some z) : Met l yX1_isStep (Cond.code yX1_isStep cX1_isStep 4 (some .boolean) :: WW) ({ frames := 3, cells := 0, slots := 0, locals := 65 }) (va_Pc [.ref (a 0), .int v1, .int v2, .int v3] (roP D (wM cI cZ a S) (tyIZ cI cZ))) (vp_Si (fun r => r = z)) 0 0 (fun _ => False) := by
  refine RO_of (own := RX1) (by decide) rfl (Nat.le_of_ble_eq_true rfl) ?_
  intro p e s m args below meth c ha C hr hlk hP hK ls hl
  have hl : lv_has ls 4 [(0, .ref (a 0)), (1, .int v1), (2, .int v2), (3, .int v3)] := hl
  unfold mM_isStep at h
  refine lv_aload_n C.1 C.2.1 dX1_isStep_0 rfl (lv_at hl 0 rfl) ?_
  refine lv_iload_n C.1 C.2.1 dX1_isStep_1 rfl (lv_at hl 1 rfl) ?_
  refine lv_iload_n C.1 C.2.1 dX1_isStep_2 rfl (lv_at hl 2 rfl) ?_
  refine k_roVi C hK hP [.int v1, .int v2] (wM_rv hK hP) h (fun v e => tX1_isProof e) (cb_X1_59 C.2.2.2.2 ⟨Nat.le_of_ble_eq_true rfl, Nat.le_of_ble_eq_true rfl⟩) rfl hl.1 (Nat.le_of_ble_eq_true rfl) ⟨Nat.le_of_ble_eq_true rfl, Nat.le_of_ble_eq_true rfl⟩ dX1_isStep_3 rfl (fun x3 e3 h => ?_)
  refine k_if_eq (tgt := 33) C dX1_isStep_6 (by decide) h (fun c6 h => ?_) (fun c6 h => ?_)
  · refine lv_iconst (v := 0) C.1 C.2.1 dX1_isStep_33 (by decide) ?_
    exact k_zret C hr hlk h dX1_isStep_34
  · refine lv_iload_n C.1 C.2.1 dX1_isStep_9 rfl (lv_at hl 3 rfl) ?_
    refine lv_iconst (v := 0) C.1 C.2.1 dX1_isStep_10 (by decide) ?_
    refine lv_aload_n C.1 C.2.1 dX1_isStep_11 rfl (lv_at hl 0 rfl) ?_
    refine gX1_steps C hK hP dX1_isStep_12 ?_
    refine lv_iconst (v := 3) C.1 C.2.1 dX1_isStep_15 (by decide) ?_
    refine lv_iload_n C.1 C.2.1 dX1_isStep_16 rfl (lv_at hl 1 rfl) ?_
    refine lv_imul C.1 C.2.1 dX1_isStep_17 ?_
    refine lv_iload_n C.1 C.2.1 dX1_isStep_18 rfl (lv_at hl 2 rfl) ?_
    refine lv_iadd C.1 C.2.1 dX1_isStep_19 ?_
    refine lX1_steps C hK hP h dX1_isStep_20 (fun h => ?_)
    refine lv_iconst (v := 1) C.1 C.2.1 dX1_isStep_21 (by decide) ?_
    refine lv_isub C.1 C.2.1 dX1_isStep_22 ?_
    refine k_prS C [.int v3, .int 0, .int ((S 3 (((3 * v1) + v2) : Int32).toNatClampNeg) - 1)] h (fun v e => tX1_isIn e) (cb_X1_48 C.2.2.2.2 ⟨Nat.le_of_ble_eq_true rfl, Nat.le_of_ble_eq_true rfl⟩) rfl hl.1 (Nat.le_of_ble_eq_true rfl) ⟨Nat.le_of_ble_eq_true rfl, Nat.le_of_ble_eq_true rfl⟩ dX1_isStep_23 rfl (fun x23 e23 h => ?_)
    refine k_if_eq (tgt := 33) C dX1_isStep_26 (by decide) h (fun c26 h => ?_) (fun c26 h => ?_)
    · refine lv_iconst (v := 0) C.1 C.2.1 dX1_isStep_33 (by decide) ?_
      exact k_zret C hr hlk h dX1_isStep_34
    · refine lv_iconst (v := 1) C.1 C.2.1 dX1_isStep_29 (by decide) ?_
      refine lv_goto (tgt := 34) C.1 C.2.1 dX1_isStep_30 (by decide) ?_
      exact k_zret C hr hlk h dX1_isStep_34
set_option maxHeartbeats 4000000 in
set_option maxRecDepth 100000 in
theorem tX1_patch {l : Launch} {D : va_G} {cI cZ : ClassId} {a : Nat → Nat} {S : XS} {sz : Nat} {v1 : Int32} {v2 : Int32} {v3 : Int32} {v4 : Int32} {z : (Int32 × XS)} (h : mM_patch S v1 v2 v3 v4 = some z) : Met l yX1_patch (Cond.code yX1_patch cX1_patch 6 (some .int) :: WW) ({ frames := 4, cells := 0, slots := 0, locals := 88 }) (va_Pc [.ref (a 0), .int v1, .int v2, .int v3, .int v4] (rwP D (wM cI cZ a S) (tyIZ cI cZ) sz)) (rwQi D (wM cI cZ a z.2) z.1 (va_A (wM cI cZ a S) sz)) 0 0 (va_A (wM cI cZ a S) sz) := by
  refine RW_of (own := RX1) (Qc := fun A => rwQi D (wM cI cZ a z.2) z.1 A) (by decide) rfl (Nat.le_of_ble_eq_true rfl) ?_
  intro p e s m args below meth c A ha C hr hlk hP hK hD hA ls hl
  have hS : va_S A s.heap s.heap [] := va_S.rf
  have hl : lv_has ls 6 [(0, .ref (a 0)), (1, .int v1), (2, .int v2), (3, .int v3), (4, .int v4)] := hl
  unfold mM_patch at h
  refine lv_aload_n C.1 C.2.1 dX1_patch_0 rfl (lv_at hl 0 rfl) ?_
  refine lv_iconst (v := 0) C.1 C.2.1 dX1_patch_1 (by decide) ?_
  refine pX1_thrown C hK hP hD hS h dX1_patch_2 (fun S2 H locs h hP hD hS => ?_)
  refine lv_aload_n C.1 C.2.1 dX1_patch_5 rfl (lv_at hl 0 rfl) ?_
  refine lv_iload_n C.1 C.2.1 dX1_patch_6 rfl (lv_at hl 1 rfl) ?_
  refine lv_iload_n C.1 C.2.1 dX1_patch_7 rfl (lv_at hl 2 rfl) ?_
  refine lv_iload_n C.1 C.2.1 dX1_patch_8 rfl (lv_at hl 3 rfl) ?_
  refine k_roVi C hK hP [.int v1, .int v2, .int v3] (wM_rv hK hP) h (fun v e => tX1_isStep e) (cb_X1_108 C.2.2.2.2 ⟨Nat.le_of_ble_eq_true rfl, Nat.le_of_ble_eq_true rfl⟩) rfl hl.1 (Nat.le_of_ble_eq_true rfl) ⟨Nat.le_of_ble_eq_true rfl, Nat.le_of_ble_eq_true rfl⟩ dX1_patch_9 rfl (fun x9 e9 h => ?_)
  refine k_if_ne (tgt := 21) C dX1_patch_12 (by decide) h (fun c12 h => ?_) (fun c12 h => ?_)
  · refine lv_iload C.1 C.2.1 dX1_patch_21 (lv_at hl 4 rfl) ?_
    refine lv_iconst (v := 1) C.1 C.2.1 dX1_patch_23 (by decide) ?_
    refine lv_bipush (v := 9) C.1 C.2.1 dX1_patch_24 (by decide) ?_
    refine k_prS C [.int v4, .int 1, .int 9] h (fun v e => tX1_isIn e) (cb_X1_48 C.2.2.2.2 ⟨Nat.le_of_ble_eq_true rfl, Nat.le_of_ble_eq_true rfl⟩) rfl hl.1 (Nat.le_of_ble_eq_true rfl) ⟨Nat.le_of_ble_eq_true rfl, Nat.le_of_ble_eq_true rfl⟩ dX1_patch_26 rfl (fun x26 e26 h => ?_)
    refine k_if_ne (tgt := 38) C dX1_patch_29 (by decide) h (fun c29 h => ?_) (fun c29 h => ?_)
    · refine lv_iload_n C.1 C.2.1 dX1_patch_38 rfl (lv_at hl 1 rfl) ?_
      refine lv_iload_n C.1 C.2.1 dX1_patch_39 rfl (lv_at hl 2 rfl) ?_
      refine lv_iload_n C.1 C.2.1 dX1_patch_40 rfl (lv_at hl 3 rfl) ?_
      refine k_prS C [.int v1, .int v2, .int v3] h (fun v e => tX1_at e) (cb_X1_63 C.2.2.2.2 ⟨Nat.le_of_ble_eq_true rfl, Nat.le_of_ble_eq_true rfl⟩) rfl hl.1 (Nat.le_of_ble_eq_true rfl) ⟨Nat.le_of_ble_eq_true rfl, Nat.le_of_ble_eq_true rfl⟩ dX1_patch_41 rfl (fun x41 e41 h => ?_)
      refine lv_istore (lv' := [(5, .int x41), (0, .ref (a 0)), (1, .int v1), (2, .int v2), (3, .int v3), (4, .int v4)]) C.1 C.2.1 dX1_patch_44 hl (by decide) rfl (fun ls hl => ?_)
      refine lv_aload_n C.1 C.2.1 dX1_patch_46 rfl (lv_at hl 1 rfl) ?_
      refine gX1_open C hK hP dX1_patch_47 ?_
      refine lv_iload C.1 C.2.1 dX1_patch_50 (lv_at hl 0 rfl) ?_
      refine lX1_open C hK hP h dX1_patch_52 (fun h => ?_)
      refine k_if_ne (tgt := 62) C dX1_patch_53 (by decide) h (fun c53 h => ?_) (fun c53 h => ?_)
      · refine lv_aload_n C.1 C.2.1 dX1_patch_62 rfl (lv_at hl 1 rfl) ?_
        refine gX1_open C hK hP dX1_patch_63 ?_
        refine lv_iload C.1 C.2.1 dX1_patch_66 (lv_at hl 0 rfl) ?_
        refine lv_iconst (v := 0) C.1 C.2.1 dX1_patch_68 (by decide) ?_
        refine lv_aload_n C.1 C.2.1 dX1_patch_69 rfl (lv_at hl 1 rfl) ?_
        refine gX1_open C hK hP dX1_patch_70 ?_
        refine lv_iload C.1 C.2.1 dX1_patch_73 (lv_at hl 0 rfl) ?_
        refine lX1_open C hK hP h dX1_patch_75 (fun h => ?_)
        refine lv_iload C.1 C.2.1 dX1_patch_76 (lv_at hl 5 rfl) ?_
        refine lv_isub C.1 C.2.1 dX1_patch_78 ?_
        refine k_mmax C hl.1 (C.2.2.2.2 _ qM_X1_111) (Nat.le_of_ble_eq_true rfl) (Nat.le_of_ble_eq_true rfl) (Nat.le_of_ble_eq_true rfl) (Nat.le_of_ble_eq_true rfl) dX1_patch_79 ?_
        refine sX1_open C hK hP hD hS h dX1_patch_82 (fun S82 H locs h hP hD hS => ?_)
        refine lv_aload_n C.1 C.2.1 dX1_patch_83 rfl (lv_at hl 1 rfl) ?_
        refine gX1_open C hK hP dX1_patch_84 ?_
        refine lv_iload C.1 C.2.1 dX1_patch_87 (lv_at hl 0 rfl) ?_
        refine lX1_open C hK hP h dX1_patch_89 (fun h => ?_)
        exact k_iretW (w := wM cI cZ a) C hr hlk h hP hS dX1_patch_90
      · refine lv_aload_n C.1 C.2.1 dX1_patch_56 rfl (lv_at hl 1 rfl) ?_
        refine lv_iconst (v := 3) C.1 C.2.1 dX1_patch_57 (by decide) ?_
        refine k_rwVi C (wM_ad _) hK hP hD hS hA [.int 3] (wM_rv hK hP) h (fun v S2 e => tX1_no e) (cb_X1_104 C.2.2.2.2 ⟨Nat.le_of_ble_eq_true rfl, Nat.le_of_ble_eq_true rfl⟩) rfl hl.1 (Nat.le_of_ble_eq_true rfl) ⟨Nat.le_of_ble_eq_true rfl, Nat.le_of_ble_eq_true rfl⟩ dX1_patch_58 rfl (fun x58 S58 H locs e58 h hP hD hS => ?_)
        exact k_iretW (w := wM cI cZ a) C hr hlk h hP hS dX1_patch_61
    · refine lv_aload_n C.1 C.2.1 dX1_patch_32 rfl (lv_at hl 0 rfl) ?_
      refine lv_iconst (v := 2) C.1 C.2.1 dX1_patch_33 (by decide) ?_
      refine k_rwVi C (wM_ad _) hK hP hD hS hA [.int 2] (wM_rv hK hP) h (fun v S2 e => tX1_no e) (cb_X1_104 C.2.2.2.2 ⟨Nat.le_of_ble_eq_true rfl, Nat.le_of_ble_eq_true rfl⟩) rfl hl.1 (Nat.le_of_ble_eq_true rfl) ⟨Nat.le_of_ble_eq_true rfl, Nat.le_of_ble_eq_true rfl⟩ dX1_patch_34 rfl (fun x34 S34 H locs e34 h hP hD hS => ?_)
      exact k_iretW (w := wM cI cZ a) C hr hlk h hP hS dX1_patch_37
  · refine lv_aload_n C.1 C.2.1 dX1_patch_15 rfl (lv_at hl 0 rfl) ?_
    refine lv_iconst (v := 1) C.1 C.2.1 dX1_patch_16 (by decide) ?_
    refine k_rwVi C (wM_ad _) hK hP hD hS hA [.int 1] (wM_rv hK hP) h (fun v S2 e => tX1_no e) (cb_X1_104 C.2.2.2.2 ⟨Nat.le_of_ble_eq_true rfl, Nat.le_of_ble_eq_true rfl⟩) rfl hl.1 (Nat.le_of_ble_eq_true rfl) ⟨Nat.le_of_ble_eq_true rfl, Nat.le_of_ble_eq_true rfl⟩ dX1_patch_17 rfl (fun x17 S17 H locs e17 h hP hD hS => ?_)
    exact k_iretW (w := wM cI cZ a) C hr hlk h hP hS dX1_patch_20
set_option maxHeartbeats 4000000 in
set_option maxRecDepth 100000 in
theorem tX1_withdraw {l : Launch} {D : va_G} {cI cZ : ClassId} {a : Nat → Nat} {S : XS} {sz : Nat} {v1 : Int32} {v2 : Int32} {v3 : Int32} {z : (Int32 × XS)} (h : mM_withdraw S v1 v2 v3 = some z) : Met l yX1_withdraw (Cond.code yX1_withdraw cX1_withdraw 5 (some .boolean) :: WW) ({ frames := 4, cells := 0, slots := 0, locals := 88 }) (va_Pc [.ref (a 0), .int v1, .int v2, .int v3] (rwP D (wM cI cZ a S) (tyIZ cI cZ) sz)) (rwQi D (wM cI cZ a z.2) z.1 (va_A (wM cI cZ a S) sz)) 0 0 (va_A (wM cI cZ a S) sz) := by
  refine RW_of (own := RX1) (Qc := fun A => rwQi D (wM cI cZ a z.2) z.1 A) (by decide) rfl (Nat.le_of_ble_eq_true rfl) ?_
  intro p e s m args below meth c A ha C hr hlk hP hK hD hA ls hl
  have hS : va_S A s.heap s.heap [] := va_S.rf
  have hl : lv_has ls 5 [(0, .ref (a 0)), (1, .int v1), (2, .int v2), (3, .int v3)] := hl
  have J16 : ∀ (S : XS) (H : Heap) (locs : List Loc) (hP : va_P D vwCl (wM cI cZ a S) H) (hD : va_D A (wM cI cZ a S)) (hS : va_S A s.heap H locs) (v1 : Int32) (v2 : Int32) (v3 : Int32) (t0 : Int32), mM_withdraw_J16 S v1 v2 v3 t0 = some z → ∀ ls : Array Slot, lv_has ls 5 [(0, .ref (a 0)), (1, .int v1), (2, .int v2), (3, .int v3)] → W p l e { frames := 4, cells := 0, slots := 0, locals := 88 } s m args below meth c H locs 0 0 (MQ below (rwQi D (wM cI cZ a z.2) z.1 A) args s 0 0 A) (F0 m 16 ls [.int t0, .ref (a 0)]) := by
    intro S H locs hP hD hS v1 v2 v3 t0 h ls hl
    unfold mM_withdraw_J16 at h
    refine pX1_thrown C hK hP hD hS h dX1_withdraw_16 (fun S16 H locs h hP hD hS => ?_)
    refine lv_aload_n C.1 C.2.1 dX1_withdraw_19 rfl (lv_at hl 0 rfl) ?_
    refine gX1_thrown C hK hP dX1_withdraw_20 ?_
    refine k_if_le (tgt := 28) C dX1_withdraw_23 (by decide) h (fun c23 h => ?_) (fun c23 h => ?_)
    · refine lv_iload_n C.1 C.2.1 dX1_withdraw_28 rfl (lv_at hl 1 rfl) ?_
      refine lv_iload_n C.1 C.2.1 dX1_withdraw_29 rfl (lv_at hl 2 rfl) ?_
      refine lv_iload_n C.1 C.2.1 dX1_withdraw_30 rfl (lv_at hl 3 rfl) ?_
      refine k_prS C [.int v1, .int v2, .int v3] h (fun v e => tX1_at e) (cb_X1_63 C.2.2.2.2 ⟨Nat.le_of_ble_eq_true rfl, Nat.le_of_ble_eq_true rfl⟩) rfl hl.1 (Nat.le_of_ble_eq_true rfl) ⟨Nat.le_of_ble_eq_true rfl, Nat.le_of_ble_eq_true rfl⟩ dX1_withdraw_31 rfl (fun x31 e31 h => ?_)
      refine lv_istore (lv' := [(4, .int x31), (0, .ref (a 0)), (1, .int v1), (2, .int v2), (3, .int v3)]) C.1 C.2.1 dX1_withdraw_34 hl (by decide) rfl (fun ls hl => ?_)
      refine lv_aload_n C.1 C.2.1 dX1_withdraw_36 rfl (lv_at hl 1 rfl) ?_
      refine gX1_isOut C hK hP dX1_withdraw_37 ?_
      refine lv_iload C.1 C.2.1 dX1_withdraw_40 (lv_at hl 0 rfl) ?_
      refine lv_aload_n C.1 C.2.1 dX1_withdraw_42 rfl (lv_at hl 1 rfl) ?_
      refine gX1_isOut C hK hP dX1_withdraw_43 ?_
      refine lv_iload C.1 C.2.1 dX1_withdraw_46 (lv_at hl 0 rfl) ?_
      refine lX1_isOut C hK hP h dX1_withdraw_48 (fun h => ?_)
      refine k_if_ne (tgt := 56) C dX1_withdraw_49 (by decide) h (fun c49 h => ?_) (fun c49 h => ?_)
      · refine lv_iconst (v := 0) C.1 C.2.1 dX1_withdraw_56 (by decide) ?_
        refine sX1_isOut C hK hP hD hS h dX1_withdraw_57 (fun S57 H locs h hP hD hS => ?_)
        refine lv_aload_n C.1 C.2.1 dX1_withdraw_58 rfl (lv_at hl 1 rfl) ?_
        refine gX1_isOut C hK hP dX1_withdraw_59 ?_
        refine lv_iload C.1 C.2.1 dX1_withdraw_62 (lv_at hl 0 rfl) ?_
        refine lX1_isOut C hK hP h dX1_withdraw_64 (fun h => ?_)
        exact k_zretW (w := wM cI cZ a) C hr hlk h hP hS dX1_withdraw_65
      · refine lv_iconst (v := 1) C.1 C.2.1 dX1_withdraw_52 (by decide) ?_
        refine lv_goto (tgt := 57) C.1 C.2.1 dX1_withdraw_53 (by decide) ?_
        refine sX1_isOut C hK hP hD hS h dX1_withdraw_57 (fun S57 H locs h hP hD hS => ?_)
        refine lv_aload_n C.1 C.2.1 dX1_withdraw_58 rfl (lv_at hl 1 rfl) ?_
        refine gX1_isOut C hK hP dX1_withdraw_59 ?_
        refine lv_iload C.1 C.2.1 dX1_withdraw_62 (lv_at hl 0 rfl) ?_
        refine lX1_isOut C hK hP h dX1_withdraw_64 (fun h => ?_)
        exact k_zretW (w := wM cI cZ a) C hr hlk h hP hS dX1_withdraw_65
    · refine lv_iconst (v := 0) C.1 C.2.1 dX1_withdraw_26 (by decide) ?_
      exact k_zretW (w := wM cI cZ a) C hr hlk h hP hS dX1_withdraw_27
  unfold mM_withdraw at h
  refine lv_aload_n C.1 C.2.1 dX1_withdraw_0 rfl (lv_at hl 0 rfl) ?_
  refine lv_aload_n C.1 C.2.1 dX1_withdraw_1 rfl (lv_at hl 0 rfl) ?_
  refine lv_iload_n C.1 C.2.1 dX1_withdraw_2 rfl (lv_at hl 1 rfl) ?_
  refine lv_iload_n C.1 C.2.1 dX1_withdraw_3 rfl (lv_at hl 2 rfl) ?_
  refine lv_iload_n C.1 C.2.1 dX1_withdraw_4 rfl (lv_at hl 3 rfl) ?_
  refine k_roVi C hK hP [.int v1, .int v2, .int v3] (wM_rv hK hP) h (fun v e => tX1_isStep e) (cb_X1_108 C.2.2.2.2 ⟨Nat.le_of_ble_eq_true rfl, Nat.le_of_ble_eq_true rfl⟩) rfl hl.1 (Nat.le_of_ble_eq_true rfl) ⟨Nat.le_of_ble_eq_true rfl, Nat.le_of_ble_eq_true rfl⟩ dX1_withdraw_5 rfl (fun x5 e5 h => ?_)
  refine k_if_eq (tgt := 15) C dX1_withdraw_8 (by decide) h (fun c8 h => ?_) (fun c8 h => ?_)
  · refine lv_iconst (v := 1) C.1 C.2.1 dX1_withdraw_15 (by decide) ?_
    exact J16 _ _ _ hP hD hS v1 v2 v3 1 h ls (lv_sub hl [0, 1, 2, 3] rfl)
  · refine lv_iconst (v := 0) C.1 C.2.1 dX1_withdraw_11 (by decide) ?_
    refine lv_goto (tgt := 16) C.1 C.2.1 dX1_withdraw_12 (by decide) ?_
    exact J16 _ _ _ hP hD hS v1 v2 v3 0 h ls (lv_sub hl [0, 1, 2, 3] rfl)
set_option maxHeartbeats 4000000 in
set_option maxRecDepth 100000 in
theorem tX1_layOver {l : Launch} {D : va_G} {cI cZ : ClassId} {a : Nat → Nat} {S : XS} {sz : Nat} {v1 : Int32} {v2 : Int32} {z : (Int32 × XS)} (h : mM_layOver S v1 v2 = some z) : Met l yX1_layOver (Cond.code yX1_layOver cX1_layOver 3 none :: WW) ({ frames := 1, cells := 0, slots := 0, locals := 60 }) (va_Pc [.ref (a 0), .int v1, .int v2] (rwP D (wM cI cZ a S) (tyIZ cI cZ) sz)) (rwQv D (wM cI cZ a z.2) (va_A (wM cI cZ a S) sz)) 0 0 (va_A (wM cI cZ a S) sz) := by
  refine RW_of (own := RX1) (Qc := fun A => rwQv D (wM cI cZ a z.2) A) (by decide) rfl (Nat.le_of_ble_eq_true rfl) ?_
  intro p e s m args below meth c A ha C hr hlk hP hK hD hA ls hl
  have hS : va_S A s.heap s.heap [] := va_S.rf
  have hl : lv_has ls 3 [(0, .ref (a 0)), (1, .int v1), (2, .int v2)] := hl
  unfold mM_layOver at h
  refine lv_aload_n C.1 C.2.1 dX1_layOver_0 rfl (lv_at hl 0 rfl) ?_
  refine gX1_steps C hK hP dX1_layOver_1 ?_
  refine lv_iload_n C.1 C.2.1 dX1_layOver_4 rfl (lv_at hl 2 rfl) ?_
  refine lv_aload_n C.1 C.2.1 dX1_layOver_5 rfl (lv_at hl 0 rfl) ?_
  refine gX1_steps C hK hP dX1_layOver_6 ?_
  refine lv_iload_n C.1 C.2.1 dX1_layOver_9 rfl (lv_at hl 1 rfl) ?_
  refine lX1_steps C hK hP h dX1_layOver_10 (fun h => ?_)
  refine sX1_steps C hK hP hD hS h dX1_layOver_11 (fun S11 H locs h hP hD hS => ?_)
  refine lv_aload_n C.1 C.2.1 dX1_layOver_12 rfl (lv_at hl 0 rfl) ?_
  refine gX1_kind C hK hP dX1_layOver_13 ?_
  refine lv_iconst (v := 5) C.1 C.2.1 dX1_layOver_16 (by decide) ?_
  refine lv_iload_n C.1 C.2.1 dX1_layOver_17 rfl (lv_at hl 1 rfl) ?_
  refine lv_imul C.1 C.2.1 dX1_layOver_18 ?_
  refine lv_aload_n C.1 C.2.1 dX1_layOver_19 rfl (lv_at hl 0 rfl) ?_
  refine gX1_kind C hK hP dX1_layOver_20 ?_
  refine lv_iconst (v := 5) C.1 C.2.1 dX1_layOver_23 (by decide) ?_
  refine lv_iload_n C.1 C.2.1 dX1_layOver_24 rfl (lv_at hl 2 rfl) ?_
  refine lv_imul C.1 C.2.1 dX1_layOver_25 ?_
  refine lv_iconst (v := 5) C.1 C.2.1 dX1_layOver_26 (by decide) ?_
  refine cX1_kind C hK hP hD hS hl.1 (Nat.le_of_ble_eq_true rfl) (Nat.le_of_ble_eq_true rfl) h dX1_layOver_27 (fun S27 H locs h hP hD hS => ?_)
  refine lv_aload_n C.1 C.2.1 dX1_layOver_30 rfl (lv_at hl 0 rfl) ?_
  refine gX1_cited C hK hP dX1_layOver_31 ?_
  refine lv_iconst (v := 5) C.1 C.2.1 dX1_layOver_34 (by decide) ?_
  refine lv_iload_n C.1 C.2.1 dX1_layOver_35 rfl (lv_at hl 1 rfl) ?_
  refine lv_imul C.1 C.2.1 dX1_layOver_36 ?_
  refine lv_aload_n C.1 C.2.1 dX1_layOver_37 rfl (lv_at hl 0 rfl) ?_
  refine gX1_cited C hK hP dX1_layOver_38 ?_
  refine lv_iconst (v := 5) C.1 C.2.1 dX1_layOver_41 (by decide) ?_
  refine lv_iload_n C.1 C.2.1 dX1_layOver_42 rfl (lv_at hl 2 rfl) ?_
  refine lv_imul C.1 C.2.1 dX1_layOver_43 ?_
  refine lv_iconst (v := 5) C.1 C.2.1 dX1_layOver_44 (by decide) ?_
  refine cX1_cited C hK hP hD hS hl.1 (Nat.le_of_ble_eq_true rfl) (Nat.le_of_ble_eq_true rfl) h dX1_layOver_45 (fun S45 H locs h hP hD hS => ?_)
  refine lv_aload_n C.1 C.2.1 dX1_layOver_48 rfl (lv_at hl 0 rfl) ?_
  refine gX1_open C hK hP dX1_layOver_49 ?_
  refine lv_iconst (v := 5) C.1 C.2.1 dX1_layOver_52 (by decide) ?_
  refine lv_iload_n C.1 C.2.1 dX1_layOver_53 rfl (lv_at hl 1 rfl) ?_
  refine lv_imul C.1 C.2.1 dX1_layOver_54 ?_
  refine lv_aload_n C.1 C.2.1 dX1_layOver_55 rfl (lv_at hl 0 rfl) ?_
  refine gX1_open C hK hP dX1_layOver_56 ?_
  refine lv_iconst (v := 5) C.1 C.2.1 dX1_layOver_59 (by decide) ?_
  refine lv_iload_n C.1 C.2.1 dX1_layOver_60 rfl (lv_at hl 2 rfl) ?_
  refine lv_imul C.1 C.2.1 dX1_layOver_61 ?_
  refine lv_iconst (v := 5) C.1 C.2.1 dX1_layOver_62 (by decide) ?_
  refine cX1_open C hK hP hD hS hl.1 (Nat.le_of_ble_eq_true rfl) (Nat.le_of_ble_eq_true rfl) h dX1_layOver_63 (fun S63 H locs h hP hD hS => ?_)
  refine lv_aload_n C.1 C.2.1 dX1_layOver_66 rfl (lv_at hl 0 rfl) ?_
  refine gX1_isOut C hK hP dX1_layOver_67 ?_
  refine lv_iconst (v := 5) C.1 C.2.1 dX1_layOver_70 (by decide) ?_
  refine lv_iload_n C.1 C.2.1 dX1_layOver_71 rfl (lv_at hl 1 rfl) ?_
  refine lv_imul C.1 C.2.1 dX1_layOver_72 ?_
  refine lv_aload_n C.1 C.2.1 dX1_layOver_73 rfl (lv_at hl 0 rfl) ?_
  refine gX1_isOut C hK hP dX1_layOver_74 ?_
  refine lv_iconst (v := 5) C.1 C.2.1 dX1_layOver_77 (by decide) ?_
  refine lv_iload_n C.1 C.2.1 dX1_layOver_78 rfl (lv_at hl 2 rfl) ?_
  refine lv_imul C.1 C.2.1 dX1_layOver_79 ?_
  refine lv_iconst (v := 5) C.1 C.2.1 dX1_layOver_80 (by decide) ?_
  refine cX1_isOut C hK hP hD hS hl.1 (Nat.le_of_ble_eq_true rfl) (Nat.le_of_ble_eq_true rfl) h dX1_layOver_81 (fun S81 H locs h hP hD hS => ?_)
  exact k_vretW (w := wM cI cZ a) C hr hlk (v := 0) h hP hS dX1_layOver_84
set_option maxHeartbeats 4000000 in
set_option maxRecDepth 100000 in
theorem tX1_strike {l : Launch} {D : va_G} {cI cZ : ClassId} {a : Nat → Nat} {S : XS} {sz : Nat} {v1 : Int32} {v2 : Int32} {z : (Int32 × XS)} (h : mM_strike S v1 v2 = some z) : Met l yX1_strike (Cond.code yX1_strike cX1_strike 4 (some .int) :: WW) ({ frames := 3, cells := 0, slots := 0, locals := 82 }) (va_Pc [.ref (a 0), .int v1, .int v2] (rwP D (wM cI cZ a S) (tyIZ cI cZ) sz)) (rwQi D (wM cI cZ a z.2) z.1 (va_A (wM cI cZ a S) sz)) 0 0 (va_A (wM cI cZ a S) sz) := by
  refine RW_of (own := RX1) (Qc := fun A => rwQi D (wM cI cZ a z.2) z.1 A) (by decide) rfl (Nat.le_of_ble_eq_true rfl) ?_
  intro p e s m args below meth c A ha C hr hlk hP hK hD hA ls hl
  have hS : va_S A s.heap s.heap [] := va_S.rf
  have hl : lv_has ls 4 [(0, .ref (a 0)), (1, .int v1), (2, .int v2)] := hl
  have L22 : ∀ (v1 : Int32) (n : Nat) (S : XS) (v3 : Int32), itr2 (mM_strike_F22 v1) n S v3 = some z → ∀ (H : Heap) (locs : List Loc) (hP : va_P D vwCl (wM cI cZ a S) H) (hD : va_D A (wM cI cZ a S)) (hS : va_S A s.heap H locs) (ls : Array Slot), lv_has ls 4 [(0, .ref (a 0)), (1, .int v1), (3, .int v3)] → W p l e { frames := 3, cells := 0, slots := 0, locals := 82 } s m args below meth c H locs 0 0 (MQ below (rwQi D (wM cI cZ a z.2) z.1 A) args s 0 0 A) (F0 m 22 ls []) := by
    intro v1 n
    refine itr2_ind (fun (S : XS) (v3 : Int32) => ∀ (H : Heap) (locs : List Loc) (hP : va_P D vwCl (wM cI cZ a S) H) (hD : va_D A (wM cI cZ a S)) (hS : va_S A s.heap H locs) (ls : Array Slot), lv_has ls 4 [(0, .ref (a 0)), (1, .int v1), (3, .int v3)] → W p l e { frames := 3, cells := 0, slots := 0, locals := 82 } s m args below meth c H locs 0 0 (MQ below (rwQi D (wM cI cZ a z.2) z.1 A) args s 0 0 A) (F0 m 22 ls [])) ?_ n
    intro ih hih S v3 h H locs hP hD hS ls hl
    unfold mM_strike_F22 at h
    refine lv_iload_n C.1 C.2.1 dX1_strike_22 rfl (lv_at hl 2 rfl) ?_
    refine lv_iconst (v := 1) C.1 C.2.1 dX1_strike_23 (by decide) ?_
    refine lv_iadd C.1 C.2.1 dX1_strike_24 ?_
    refine lv_aload_n C.1 C.2.1 dX1_strike_25 rfl (lv_at hl 0 rfl) ?_
    refine gX1_proofs C hK hP dX1_strike_26 ?_
    refine lv_iload_n C.1 C.2.1 dX1_strike_29 rfl (lv_at hl 1 rfl) ?_
    refine lX1_proofs C hK hP h dX1_strike_30 (fun h => ?_)
    refine k_icmp_ge (tgt := 56) C dX1_strike_31 (by decide) h (fun c31 h => ?_) (fun c31 h => ?_)
    · refine lv_aload_n C.1 C.2.1 dX1_strike_56 rfl (lv_at hl 0 rfl) ?_
      refine gX1_proofs C hK hP dX1_strike_57 ?_
      refine lv_iload_n C.1 C.2.1 dX1_strike_60 rfl (lv_at hl 1 rfl) ?_
      refine lv_dup2_11 C.1 C.2.1 dX1_strike_61 rfl rfl ?_
      refine lX1_proofs C hK hP h dX1_strike_62 (fun h => ?_)
      refine lv_iconst (v := 1) C.1 C.2.1 dX1_strike_63 (by decide) ?_
      refine lv_isub C.1 C.2.1 dX1_strike_64 ?_
      refine sX1_proofs C hK hP hD hS h dX1_strike_65 (fun S65 H locs h hP hD hS => ?_)
      refine lv_aload_n C.1 C.2.1 dX1_strike_66 rfl (lv_at hl 0 rfl) ?_
      refine gX1_proofs C hK hP dX1_strike_67 ?_
      refine lv_iload_n C.1 C.2.1 dX1_strike_70 rfl (lv_at hl 1 rfl) ?_
      refine lX1_proofs C hK hP h dX1_strike_71 (fun h => ?_)
      exact k_iretW (w := wM cI cZ a) C hr hlk h hP hS dX1_strike_72
    · refine lv_aload_n C.1 C.2.1 dX1_strike_34 rfl (lv_at hl 0 rfl) ?_
      refine lv_iconst (v := 3) C.1 C.2.1 dX1_strike_35 (by decide) ?_
      refine lv_iload_n C.1 C.2.1 dX1_strike_36 rfl (lv_at hl 1 rfl) ?_
      refine lv_imul C.1 C.2.1 dX1_strike_37 ?_
      refine lv_iload_n C.1 C.2.1 dX1_strike_38 rfl (lv_at hl 2 rfl) ?_
      refine lv_iadd C.1 C.2.1 dX1_strike_39 ?_
      refine lv_iconst (v := 1) C.1 C.2.1 dX1_strike_40 (by decide) ?_
      refine lv_iadd C.1 C.2.1 dX1_strike_41 ?_
      refine lv_iconst (v := 3) C.1 C.2.1 dX1_strike_42 (by decide) ?_
      refine lv_iload_n C.1 C.2.1 dX1_strike_43 rfl (lv_at hl 1 rfl) ?_
      refine lv_imul C.1 C.2.1 dX1_strike_44 ?_
      refine lv_iload_n C.1 C.2.1 dX1_strike_45 rfl (lv_at hl 2 rfl) ?_
      refine lv_iadd C.1 C.2.1 dX1_strike_46 ?_
      refine k_rwVv C (wM_ad _) hK hP hD hS hA [.int (((3 * v1) + v3) + 1), .int ((3 * v1) + v3)] (wM_rv hK hP) h (fun v S2 e => tX1_layOver e) (cb_X1_120 C.2.2.2.2 ⟨Nat.le_of_ble_eq_true rfl, Nat.le_of_ble_eq_true rfl⟩) rfl hl.1 (Nat.le_of_ble_eq_true rfl) ⟨Nat.le_of_ble_eq_true rfl, Nat.le_of_ble_eq_true rfl⟩ dX1_strike_47 rfl (fun x47 S47 H locs e47 h hP hD hS => ?_)
      refine lv_iinc (v := (v3 + 1)) (lv' := [(3, .int (v3 + 1)), (0, .ref (a 0)), (1, .int v1)]) C.1 C.2.1 dX1_strike_50 hl (k := 2) rfl rfl (by decide) rfl (fun ls hl => ?_)
      refine lv_goto (tgt := 22) C.1 C.2.1 dX1_strike_53 (by decide) ?_
      exact hih S47 (v3 + 1) h _ _ hP hD hS ls (lv_sub hl [1, 2, 0] rfl)
  unfold mM_strike at h
  refine lv_aload_n C.1 C.2.1 dX1_strike_0 rfl (lv_at hl 0 rfl) ?_
  refine lv_iconst (v := 0) C.1 C.2.1 dX1_strike_1 (by decide) ?_
  refine pX1_thrown C hK hP hD hS h dX1_strike_2 (fun S2 H locs h hP hD hS => ?_)
  refine lv_aload_n C.1 C.2.1 dX1_strike_5 rfl (lv_at hl 0 rfl) ?_
  refine lv_iload_n C.1 C.2.1 dX1_strike_6 rfl (lv_at hl 1 rfl) ?_
  refine lv_iload_n C.1 C.2.1 dX1_strike_7 rfl (lv_at hl 2 rfl) ?_
  refine k_roVi C hK hP [.int v1, .int v2] (wM_rv hK hP) h (fun v e => tX1_isProof e) (cb_X1_59 C.2.2.2.2 ⟨Nat.le_of_ble_eq_true rfl, Nat.le_of_ble_eq_true rfl⟩) rfl hl.1 (Nat.le_of_ble_eq_true rfl) ⟨Nat.le_of_ble_eq_true rfl, Nat.le_of_ble_eq_true rfl⟩ dX1_strike_8 rfl (fun x8 e8 h => ?_)
  refine k_if_ne (tgt := 20) C dX1_strike_11 (by decide) h (fun c11 h => ?_) (fun c11 h => ?_)
  · refine lv_iload_n C.1 C.2.1 dX1_strike_20 rfl (lv_at hl 2 rfl) ?_
    refine lv_istore_n (lv' := [(3, .int v2), (0, .ref (a 0)), (1, .int v1), (2, .int v2)]) C.1 C.2.1 dX1_strike_21 rfl hl (by decide) rfl (fun ls hl => ?_)
    exact L22 v1 _ S2 v2 h _ _ hP hD hS ls (lv_sub hl [1, 2, 0] rfl)
  · refine lv_aload_n C.1 C.2.1 dX1_strike_14 rfl (lv_at hl 0 rfl) ?_
    refine lv_iconst (v := 1) C.1 C.2.1 dX1_strike_15 (by decide) ?_
    refine k_rwVi C (wM_ad _) hK hP hD hS hA [.int 1] (wM_rv hK hP) h (fun v S2 e => tX1_no e) (cb_X1_104 C.2.2.2.2 ⟨Nat.le_of_ble_eq_true rfl, Nat.le_of_ble_eq_true rfl⟩) rfl hl.1 (Nat.le_of_ble_eq_true rfl) ⟨Nat.le_of_ble_eq_true rfl, Nat.le_of_ble_eq_true rfl⟩ dX1_strike_16 rfl (fun x16 S16 H locs e16 h hP hD hS => ?_)
    exact k_iretW (w := wM cI cZ a) C hr hlk h hP hS dX1_strike_19
set_option maxHeartbeats 4000000 in
set_option maxRecDepth 100000 in
theorem tX1_isWhole {l : Launch} {D : va_G} {cI cZ : ClassId} {a : Nat → Nat} {S : XS} {v1 : Int32} {v2 : Int32} {z : Int32} (h : mM_isWhole S v1 v2 = some z) : Met l yX1_isWhole (Cond.code yX1_isWhole cX1_isWhole 4 (some .boolean) :: WW) ({ frames := 1, cells := 0, slots := 0, locals := 22 }) (va_Pc [.ref (a 0), .int v1, .int v2] (roP D (wM cI cZ a S) (tyIZ cI cZ))) (vp_Si (fun r => r = z)) 0 0 (fun _ => False) := by
  refine RO_of (own := RX1) (by decide) rfl (Nat.le_of_ble_eq_true rfl) ?_
  intro p e s m args below meth c ha C hr hlk hP hK ls hl
  have hl : lv_has ls 4 [(0, .ref (a 0)), (1, .int v1), (2, .int v2)] := hl
  have L2 : ∀ (v1 : Int32) (v2 : Int32) (n : Nat) (v3 : Int32), itr1 (mM_isWhole_F2 S v1 v2) n v3 = some z → ∀ ls : Array Slot, lv_has ls 4 [(0, .ref (a 0)), (1, .int v1), (2, .int v2), (3, .int v3)] → W p l e { frames := 1, cells := 0, slots := 0, locals := 22 } s m args below meth c s.heap [] 0 0 (MQ below (vp_Si (fun r => r = z)) args s 0 0 (fun _ => False)) (F0 m 2 ls []) := by
    intro v1 v2 n
    refine itr1_ind (fun (v3 : Int32) => ∀ ls : Array Slot, lv_has ls 4 [(0, .ref (a 0)), (1, .int v1), (2, .int v2), (3, .int v3)] → W p l e { frames := 1, cells := 0, slots := 0, locals := 22 } s m args below meth c s.heap [] 0 0 (MQ below (vp_Si (fun r => r = z)) args s 0 0 (fun _ => False)) (F0 m 2 ls [])) ?_ n
    intro ih hih v3 h ls hl
    unfold mM_isWhole_F2 at h
    refine lv_iload_n C.1 C.2.1 dX1_isWhole_2 rfl (lv_at hl 3 rfl) ?_
    refine lv_aload_n C.1 C.2.1 dX1_isWhole_3 rfl (lv_at hl 0 rfl) ?_
    refine gX1_steps C hK hP dX1_isWhole_4 ?_
    refine lv_iconst (v := 3) C.1 C.2.1 dX1_isWhole_7 (by decide) ?_
    refine lv_iload_n C.1 C.2.1 dX1_isWhole_8 rfl (lv_at hl 1 rfl) ?_
    refine lv_imul C.1 C.2.1 dX1_isWhole_9 ?_
    refine lv_iload_n C.1 C.2.1 dX1_isWhole_10 rfl (lv_at hl 2 rfl) ?_
    refine lv_iadd C.1 C.2.1 dX1_isWhole_11 ?_
    refine lX1_steps C hK hP h dX1_isWhole_12 (fun h => ?_)
    refine k_icmp_ge (tgt := 38) C dX1_isWhole_13 (by decide) h (fun c13 h => ?_) (fun c13 h => ?_)
    · refine lv_aload_n C.1 C.2.1 dX1_isWhole_38 rfl (lv_at hl 0 rfl) ?_
      refine gX1_steps C hK hP dX1_isWhole_39 ?_
      refine lv_iconst (v := 3) C.1 C.2.1 dX1_isWhole_42 (by decide) ?_
      refine lv_iload_n C.1 C.2.1 dX1_isWhole_43 rfl (lv_at hl 1 rfl) ?_
      refine lv_imul C.1 C.2.1 dX1_isWhole_44 ?_
      refine lv_iload_n C.1 C.2.1 dX1_isWhole_45 rfl (lv_at hl 2 rfl) ?_
      refine lv_iadd C.1 C.2.1 dX1_isWhole_46 ?_
      refine lX1_steps C hK hP h dX1_isWhole_47 (fun h => ?_)
      refine k_if_le (tgt := 55) C dX1_isWhole_48 (by decide) h (fun c48 h => ?_) (fun c48 h => ?_)
      · refine lv_iconst (v := 0) C.1 C.2.1 dX1_isWhole_55 (by decide) ?_
        exact k_zret C hr hlk h dX1_isWhole_56
      · refine lv_iconst (v := 1) C.1 C.2.1 dX1_isWhole_51 (by decide) ?_
        refine lv_goto (tgt := 56) C.1 C.2.1 dX1_isWhole_52 (by decide) ?_
        exact k_zret C hr hlk h dX1_isWhole_56
    · refine lv_aload_n C.1 C.2.1 dX1_isWhole_16 rfl (lv_at hl 0 rfl) ?_
      refine gX1_isOut C hK hP dX1_isWhole_17 ?_
      refine lv_iload_n C.1 C.2.1 dX1_isWhole_20 rfl (lv_at hl 1 rfl) ?_
      refine lv_iload_n C.1 C.2.1 dX1_isWhole_21 rfl (lv_at hl 2 rfl) ?_
      refine lv_iload_n C.1 C.2.1 dX1_isWhole_22 rfl (lv_at hl 3 rfl) ?_
      refine k_prS C [.int v1, .int v2, .int v3] h (fun v e => tX1_at e) (cb_X1_63 C.2.2.2.2 ⟨Nat.le_of_ble_eq_true rfl, Nat.le_of_ble_eq_true rfl⟩) rfl hl.1 (Nat.le_of_ble_eq_true rfl) ⟨Nat.le_of_ble_eq_true rfl, Nat.le_of_ble_eq_true rfl⟩ dX1_isWhole_23 rfl (fun x23 e23 h => ?_)
      refine lX1_isOut C hK hP h dX1_isWhole_26 (fun h => ?_)
      refine k_if_eq (tgt := 32) C dX1_isWhole_27 (by decide) h (fun c27 h => ?_) (fun c27 h => ?_)
      · refine lv_iinc (v := (v3 + 1)) (lv' := [(3, .int (v3 + 1)), (0, .ref (a 0)), (1, .int v1), (2, .int v2)]) C.1 C.2.1 dX1_isWhole_32 hl (k := 3) rfl rfl (by decide) rfl (fun ls hl => ?_)
        refine lv_goto (tgt := 2) C.1 C.2.1 dX1_isWhole_35 (by decide) ?_
        exact hih (v3 + 1) h ls (lv_sub hl [1, 2, 3, 0] rfl)
      · refine lv_iconst (v := 0) C.1 C.2.1 dX1_isWhole_30 (by decide) ?_
        exact k_zret C hr hlk h dX1_isWhole_31
  unfold mM_isWhole at h
  refine lv_iconst (v := 0) C.1 C.2.1 dX1_isWhole_0 (by decide) ?_
  refine lv_istore_n (lv' := [(3, .int 0), (0, .ref (a 0)), (1, .int v1), (2, .int v2)]) C.1 C.2.1 dX1_isWhole_1 rfl hl (by decide) rfl (fun ls hl => ?_)
  exact L2 v1 v2 _ 0 h ls (lv_sub hl [1, 2, 3, 0] rfl)
set_option maxHeartbeats 4000000 in
set_option maxRecDepth 100000 in
theorem tX1_lengthOf {l : Launch} {D : va_G} {cI cZ : ClassId} {a : Nat → Nat} {S : XS} {v1 : Int32} {v2 : Int32} {z : Int32} (h : mM_lengthOf S v1 v2 = some z) : Met l yX1_lengthOf (Cond.code yX1_lengthOf cX1_lengthOf 7 (some .int) :: WW) ({ frames := 2, cells := 0, slots := 0, locals := 45 }) (va_Pc [.ref (a 0), .int v1, .int v2] (roP D (wM cI cZ a S) (tyIZ cI cZ))) (vp_Si (fun r => r = z)) 0 0 (fun _ => False) := by
  refine RO_of (own := RX1) (by decide) rfl (Nat.le_of_ble_eq_true rfl) ?_
  intro p e s m args below meth c ha C hr hlk hP hK ls hl
  have hl : lv_has ls 7 [(0, .ref (a 0)), (1, .int v1), (2, .int v2)] := hl
  have J102 : ∀ (v1 : Int32) (v2 : Int32) (v3 : Int32) (v4 : Int32) (v5 : Int32) (t0 : Int32) (k : Int32 → Int32 → Option Int32) (hk : ∀ (v3 : Int32) (v4 : Int32), k v3 v4 = some z → ∀ ls : Array Slot, lv_has ls 7 [(0, .ref (a 0)), (1, .int v1), (2, .int v2), (3, .int v3), (4, .int v4)] → W p l e { frames := 2, cells := 0, slots := 0, locals := 45 } s m args below meth c s.heap [] 0 0 (MQ below (vp_Si (fun r => r = z)) args s 0 0 (fun _ => False)) (F0 m 27 ls [])), mM_lengthOf_J102 S k v1 v2 v3 v4 v5 t0 = some z → ∀ ls : Array Slot, lv_has ls 7 [(0, .ref (a 0)), (1, .int v1), (2, .int v2), (3, .int v3), (4, .int v4), (5, .int v5)] → W p l e { frames := 2, cells := 0, slots := 0, locals := 45 } s m args below meth c s.heap [] 0 0 (MQ below (vp_Si (fun r => r = z)) args s 0 0 (fun _ => False)) (F0 m 102 ls [.int t0]) := by
    intro v1 v2 v3 v4 v5 t0 k hk h ls hl
    unfold mM_lengthOf_J102 at h
    refine lv_istore (lv' := [(6, .int t0), (0, .ref (a 0)), (1, .int v1), (2, .int v2), (3, .int v3), (4, .int v4), (5, .int v5)]) C.1 C.2.1 dX1_lengthOf_102 hl (by decide) rfl (fun ls hl => ?_)
    refine lv_iload_n C.1 C.2.1 dX1_lengthOf_104 rfl (lv_at hl 4 rfl) ?_
    refine lv_iload C.1 C.2.1 dX1_lengthOf_105 (lv_at hl 0 rfl) ?_
    refine k_if_eq (tgt := 116) C dX1_lengthOf_107 (by decide) h (fun c107 h => ?_) (fun c107 h => ?_)
    · refine lv_aload_n C.1 C.2.1 dX1_lengthOf_116 rfl (lv_at hl 1 rfl) ?_
      refine gX1_kind C hK hP dX1_lengthOf_117 ?_
      refine lv_iload C.1 C.2.1 dX1_lengthOf_120 (lv_at hl 6 rfl) ?_
      refine lX1_kind C hK hP h dX1_lengthOf_122 (fun h => ?_)
      refine lv_iconst (v := 1) C.1 C.2.1 dX1_lengthOf_123 (by decide) ?_
      refine k_icmp_ne (tgt := 142) C dX1_lengthOf_124 (by decide) h (fun c124 h => ?_) (fun c124 h => ?_)
      · refine lv_iconst (v := 0) C.1 C.2.1 dX1_lengthOf_142 (by decide) ?_
        refine lv_iadd C.1 C.2.1 dX1_lengthOf_143 ?_
        refine lv_istore_n (lv' := [(3, .int (v3 + 0)), (6, .int t0), (0, .ref (a 0)), (1, .int v1), (2, .int v2), (4, .int v4), (5, .int v5)]) C.1 C.2.1 dX1_lengthOf_144 rfl hl (by decide) rfl (fun ls hl => ?_)
        refine lv_iinc (v := (v4 + 1)) (lv' := [(4, .int (v4 + 1)), (3, .int (v3 + 0)), (6, .int t0), (0, .ref (a 0)), (1, .int v1), (2, .int v2), (5, .int v5)]) C.1 C.2.1 dX1_lengthOf_145 hl (k := 5) rfl rfl (by decide) rfl (fun ls hl => ?_)
        refine lv_goto (tgt := 27) C.1 C.2.1 dX1_lengthOf_148 (by decide) ?_
        exact hk (v3 + 0) (v4 + 1) h ls (lv_sub hl [3, 4, 5, 1, 0] rfl)
      · refine lv_aload_n C.1 C.2.1 dX1_lengthOf_127 rfl (lv_at hl 1 rfl) ?_
        refine gX1_length C hK hP dX1_lengthOf_128 ?_
        refine lv_aload_n C.1 C.2.1 dX1_lengthOf_131 rfl (lv_at hl 1 rfl) ?_
        refine gX1_cited C hK hP dX1_lengthOf_132 ?_
        refine lv_iload C.1 C.2.1 dX1_lengthOf_135 (lv_at hl 6 rfl) ?_
        refine lX1_cited C hK hP h dX1_lengthOf_137 (fun h => ?_)
        refine lX1_length C hK hP h dX1_lengthOf_138 (fun h => ?_)
        refine lv_goto (tgt := 143) C.1 C.2.1 dX1_lengthOf_139 (by decide) ?_
        refine lv_iadd C.1 C.2.1 dX1_lengthOf_143 ?_
        refine lv_istore_n (lv' := [(3, .int (v3 + (S 9 ((S 5 (v5 : Int32).toNatClampNeg) : Int32).toNatClampNeg))), (6, .int t0), (0, .ref (a 0)), (1, .int v1), (2, .int v2), (4, .int v4), (5, .int v5)]) C.1 C.2.1 dX1_lengthOf_144 rfl hl (by decide) rfl (fun ls hl => ?_)
        refine lv_iinc (v := (v4 + 1)) (lv' := [(4, .int (v4 + 1)), (3, .int (v3 + (S 9 ((S 5 (v5 : Int32).toNatClampNeg) : Int32).toNatClampNeg))), (6, .int t0), (0, .ref (a 0)), (1, .int v1), (2, .int v2), (5, .int v5)]) C.1 C.2.1 dX1_lengthOf_145 hl (k := 5) rfl rfl (by decide) rfl (fun ls hl => ?_)
        refine lv_goto (tgt := 27) C.1 C.2.1 dX1_lengthOf_148 (by decide) ?_
        exact hk (v3 + (S 9 ((S 5 (v5 : Int32).toNatClampNeg) : Int32).toNatClampNeg)) (v4 + 1) h ls (lv_sub hl [3, 4, 5, 1, 0] rfl)
    · refine lv_sipush (v := 9999) C.1 C.2.1 dX1_lengthOf_110 (by decide) ?_
      refine lv_goto (tgt := 143) C.1 C.2.1 dX1_lengthOf_113 (by decide) ?_
      refine lv_iadd C.1 C.2.1 dX1_lengthOf_143 ?_
      refine lv_istore_n (lv' := [(3, .int (v3 + 9999)), (6, .int t0), (0, .ref (a 0)), (1, .int v1), (2, .int v2), (4, .int v4), (5, .int v5)]) C.1 C.2.1 dX1_lengthOf_144 rfl hl (by decide) rfl (fun ls hl => ?_)
      refine lv_iinc (v := (v4 + 1)) (lv' := [(4, .int (v4 + 1)), (3, .int (v3 + 9999)), (6, .int t0), (0, .ref (a 0)), (1, .int v1), (2, .int v2), (5, .int v5)]) C.1 C.2.1 dX1_lengthOf_145 hl (k := 5) rfl rfl (by decide) rfl (fun ls hl => ?_)
      refine lv_goto (tgt := 27) C.1 C.2.1 dX1_lengthOf_148 (by decide) ?_
      exact hk (v3 + 9999) (v4 + 1) h ls (lv_sub hl [3, 4, 5, 1, 0] rfl)
  have J101 : ∀ (v1 : Int32) (v2 : Int32) (v3 : Int32) (v4 : Int32) (v5 : Int32) (k : Int32 → Int32 → Option Int32) (hk : ∀ (v3 : Int32) (v4 : Int32), k v3 v4 = some z → ∀ ls : Array Slot, lv_has ls 7 [(0, .ref (a 0)), (1, .int v1), (2, .int v2), (3, .int v3), (4, .int v4)] → W p l e { frames := 2, cells := 0, slots := 0, locals := 45 } s m args below meth c s.heap [] 0 0 (MQ below (vp_Si (fun r => r = z)) args s 0 0 (fun _ => False)) (F0 m 27 ls [])), mM_lengthOf_J101 S k v1 v2 v3 v4 v5 = some z → ∀ ls : Array Slot, lv_has ls 7 [(0, .ref (a 0)), (1, .int v1), (2, .int v2), (3, .int v3), (4, .int v4), (5, .int v5)] → W p l e { frames := 2, cells := 0, slots := 0, locals := 45 } s m args below meth c s.heap [] 0 0 (MQ below (vp_Si (fun r => r = z)) args s 0 0 (fun _ => False)) (F0 m 101 ls []) := by
    intro v1 v2 v3 v4 v5 k hk h ls hl
    unfold mM_lengthOf_J101 at h
    refine lv_iconst (v := 0) C.1 C.2.1 dX1_lengthOf_101 (by decide) ?_
    exact J102 v1 v2 v3 v4 v5 0 k hk h ls (lv_sub hl [0, 1, 2, 3, 4, 5] rfl)
  have J97 : ∀ (v1 : Int32) (v2 : Int32) (v3 : Int32) (v4 : Int32) (v5 : Int32) (k : Int32 → Int32 → Option Int32) (hk : ∀ (v3 : Int32) (v4 : Int32), k v3 v4 = some z → ∀ ls : Array Slot, lv_has ls 7 [(0, .ref (a 0)), (1, .int v1), (2, .int v2), (3, .int v3), (4, .int v4)] → W p l e { frames := 2, cells := 0, slots := 0, locals := 45 } s m args below meth c s.heap [] 0 0 (MQ below (vp_Si (fun r => r = z)) args s 0 0 (fun _ => False)) (F0 m 27 ls [])), mM_lengthOf_J97 S k v1 v2 v3 v4 v5 = some z → ∀ ls : Array Slot, lv_has ls 7 [(0, .ref (a 0)), (1, .int v1), (2, .int v2), (3, .int v3), (4, .int v4), (5, .int v5)] → W p l e { frames := 2, cells := 0, slots := 0, locals := 45 } s m args below meth c s.heap [] 0 0 (MQ below (vp_Si (fun r => r = z)) args s 0 0 (fun _ => False)) (F0 m 97 ls []) := by
    intro v1 v2 v3 v4 v5 k hk h ls hl
    unfold mM_lengthOf_J97 at h
    refine lv_iconst (v := 1) C.1 C.2.1 dX1_lengthOf_97 (by decide) ?_
    refine lv_goto (tgt := 102) C.1 C.2.1 dX1_lengthOf_98 (by decide) ?_
    exact J102 v1 v2 v3 v4 v5 1 k hk h ls (lv_sub hl [0, 1, 2, 3, 4, 5] rfl)
  have J76 : ∀ (v1 : Int32) (v2 : Int32) (v3 : Int32) (v4 : Int32) (v5 : Int32) (k : Int32 → Int32 → Option Int32) (hk : ∀ (v3 : Int32) (v4 : Int32), k v3 v4 = some z → ∀ ls : Array Slot, lv_has ls 7 [(0, .ref (a 0)), (1, .int v1), (2, .int v2), (3, .int v3), (4, .int v4)] → W p l e { frames := 2, cells := 0, slots := 0, locals := 45 } s m args below meth c s.heap [] 0 0 (MQ below (vp_Si (fun r => r = z)) args s 0 0 (fun _ => False)) (F0 m 27 ls [])), mM_lengthOf_J76 S k v1 v2 v3 v4 v5 = some z → ∀ ls : Array Slot, lv_has ls 7 [(0, .ref (a 0)), (1, .int v1), (2, .int v2), (3, .int v3), (4, .int v4), (5, .int v5)] → W p l e { frames := 2, cells := 0, slots := 0, locals := 45 } s m args below meth c s.heap [] 0 0 (MQ below (vp_Si (fun r => r = z)) args s 0 0 (fun _ => False)) (F0 m 76 ls []) := by
    intro v1 v2 v3 v4 v5 k hk h ls hl
    unfold mM_lengthOf_J76 at h
    refine lv_aload_n C.1 C.2.1 dX1_lengthOf_76 rfl (lv_at hl 0 rfl) ?_
    refine gX1_kind C hK hP dX1_lengthOf_77 ?_
    refine lv_iload C.1 C.2.1 dX1_lengthOf_80 (lv_at hl 5 rfl) ?_
    refine lX1_kind C hK hP h dX1_lengthOf_82 (fun h => ?_)
    refine lv_iconst (v := 2) C.1 C.2.1 dX1_lengthOf_83 (by decide) ?_
    refine k_icmp_ne (tgt := 101) C dX1_lengthOf_84 (by decide) h (fun c84 h => ?_) (fun c84 h => ?_)
    · exact J101 v1 v2 v3 v4 v5 k hk h ls (lv_sub hl [0, 1, 2, 3, 4, 5] rfl)
    · refine lv_aload_n C.1 C.2.1 dX1_lengthOf_87 rfl (lv_at hl 0 rfl) ?_
      refine gX1_open C hK hP dX1_lengthOf_88 ?_
      refine lv_iload C.1 C.2.1 dX1_lengthOf_91 (lv_at hl 5 rfl) ?_
      refine lX1_open C hK hP h dX1_lengthOf_93 (fun h => ?_)
      refine k_if_le (tgt := 101) C dX1_lengthOf_94 (by decide) h (fun c94 h => ?_) (fun c94 h => ?_)
      · exact J101 v1 v2 v3 v4 v5 k hk h ls (lv_sub hl [0, 1, 2, 3, 4, 5] rfl)
      · exact J97 v1 v2 v3 v4 v5 k hk h ls (lv_sub hl [0, 1, 2, 3, 4, 5] rfl)
  have L27 : ∀ (v1 : Int32) (v2 : Int32) (n : Nat) (v3 : Int32) (v4 : Int32), itr2 (mM_lengthOf_F27 S v1 v2) n v3 v4 = some z → ∀ ls : Array Slot, lv_has ls 7 [(0, .ref (a 0)), (1, .int v1), (2, .int v2), (3, .int v3), (4, .int v4)] → W p l e { frames := 2, cells := 0, slots := 0, locals := 45 } s m args below meth c s.heap [] 0 0 (MQ below (vp_Si (fun r => r = z)) args s 0 0 (fun _ => False)) (F0 m 27 ls []) := by
    intro v1 v2 n
    refine itr2_ind (fun (v3 : Int32) (v4 : Int32) => ∀ ls : Array Slot, lv_has ls 7 [(0, .ref (a 0)), (1, .int v1), (2, .int v2), (3, .int v3), (4, .int v4)] → W p l e { frames := 2, cells := 0, slots := 0, locals := 45 } s m args below meth c s.heap [] 0 0 (MQ below (vp_Si (fun r => r = z)) args s 0 0 (fun _ => False)) (F0 m 27 ls [])) ?_ n
    intro ih hih v3 v4 h ls hl
    unfold mM_lengthOf_F27 at h
    refine lv_iload C.1 C.2.1 dX1_lengthOf_27 (lv_at hl 4 rfl) ?_
    refine lv_aload_n C.1 C.2.1 dX1_lengthOf_29 rfl (lv_at hl 0 rfl) ?_
    refine gX1_steps C hK hP dX1_lengthOf_30 ?_
    refine lv_iconst (v := 3) C.1 C.2.1 dX1_lengthOf_33 (by decide) ?_
    refine lv_iload_n C.1 C.2.1 dX1_lengthOf_34 rfl (lv_at hl 1 rfl) ?_
    refine lv_imul C.1 C.2.1 dX1_lengthOf_35 ?_
    refine lv_iload_n C.1 C.2.1 dX1_lengthOf_36 rfl (lv_at hl 2 rfl) ?_
    refine lv_iadd C.1 C.2.1 dX1_lengthOf_37 ?_
    refine lX1_steps C hK hP h dX1_lengthOf_38 (fun h => ?_)
    refine k_icmp_ge (tgt := 151) C dX1_lengthOf_39 (by decide) h (fun c39 h => ?_) (fun c39 h => ?_)
    · refine lv_sipush (v := 9999) C.1 C.2.1 dX1_lengthOf_151 (by decide) ?_
      refine lv_iload_n C.1 C.2.1 dX1_lengthOf_154 rfl (lv_at hl 3 rfl) ?_
      refine k_mmin C hl.1 (C.2.2.2.2 _ qM_X1_80) (Nat.le_of_ble_eq_true rfl) (Nat.le_of_ble_eq_true rfl) (Nat.le_of_ble_eq_true rfl) (Nat.le_of_ble_eq_true rfl) dX1_lengthOf_155 ?_
      exact k_iret C hr hlk h dX1_lengthOf_158
    · refine lv_iload_n C.1 C.2.1 dX1_lengthOf_42 rfl (lv_at hl 1 rfl) ?_
      refine lv_iload_n C.1 C.2.1 dX1_lengthOf_43 rfl (lv_at hl 2 rfl) ?_
      refine lv_iload C.1 C.2.1 dX1_lengthOf_44 (lv_at hl 4 rfl) ?_
      refine k_prS C [.int v1, .int v2, .int v4] h (fun v e => tX1_at e) (cb_X1_63 C.2.2.2.2 ⟨Nat.le_of_ble_eq_true rfl, Nat.le_of_ble_eq_true rfl⟩) rfl hl.1 (Nat.le_of_ble_eq_true rfl) ⟨Nat.le_of_ble_eq_true rfl, Nat.le_of_ble_eq_true rfl⟩ dX1_lengthOf_46 rfl (fun x46 e46 h => ?_)
      refine lv_istore (lv' := [(5, .int x46), (0, .ref (a 0)), (1, .int v1), (2, .int v2), (3, .int v3), (4, .int v4)]) C.1 C.2.1 dX1_lengthOf_49 hl (by decide) rfl (fun ls hl => ?_)
      refine lv_aload_n C.1 C.2.1 dX1_lengthOf_51 rfl (lv_at hl 1 rfl) ?_
      refine gX1_kind C hK hP dX1_lengthOf_52 ?_
      refine lv_iload C.1 C.2.1 dX1_lengthOf_55 (lv_at hl 0 rfl) ?_
      refine lX1_kind C hK hP h dX1_lengthOf_57 (fun h => ?_)
      refine k_if_ne (tgt := 76) C dX1_lengthOf_58 (by decide) h (fun c58 h => ?_) (fun c58 h => ?_)
      · exact J76 v1 v2 v3 v4 x46 ih hih h ls (lv_sub hl [1, 2, 3, 4, 5, 0] rfl)
      · refine lv_aload_n C.1 C.2.1 dX1_lengthOf_61 rfl (lv_at hl 1 rfl) ?_
        refine gX1_taken C hK hP dX1_lengthOf_62 ?_
        refine lv_aload_n C.1 C.2.1 dX1_lengthOf_65 rfl (lv_at hl 1 rfl) ?_
        refine gX1_cited C hK hP dX1_lengthOf_66 ?_
        refine lv_iload C.1 C.2.1 dX1_lengthOf_69 (lv_at hl 0 rfl) ?_
        refine lX1_cited C hK hP h dX1_lengthOf_71 (fun h => ?_)
        refine lX1_taken C hK hP h dX1_lengthOf_72 (fun h => ?_)
        refine k_if_eq (tgt := 97) C dX1_lengthOf_73 (by decide) h (fun c73 h => ?_) (fun c73 h => ?_)
        · exact J97 v1 v2 v3 v4 x46 ih hih h ls (lv_sub hl [1, 2, 3, 4, 5, 0] rfl)
        · exact J76 v1 v2 v3 v4 x46 ih hih h ls (lv_sub hl [1, 2, 3, 4, 5, 0] rfl)
  unfold mM_lengthOf at h
  refine lv_aload_n C.1 C.2.1 dX1_lengthOf_0 rfl (lv_at hl 0 rfl) ?_
  refine lv_iload_n C.1 C.2.1 dX1_lengthOf_1 rfl (lv_at hl 1 rfl) ?_
  refine lv_iload_n C.1 C.2.1 dX1_lengthOf_2 rfl (lv_at hl 2 rfl) ?_
  refine k_roVi C hK hP [.int v1, .int v2] (wM_rv hK hP) h (fun v e => tX1_isWhole e) (cb_X1_67 C.2.2.2.2 ⟨Nat.le_of_ble_eq_true rfl, Nat.le_of_ble_eq_true rfl⟩) rfl hl.1 (Nat.le_of_ble_eq_true rfl) ⟨Nat.le_of_ble_eq_true rfl, Nat.le_of_ble_eq_true rfl⟩ dX1_lengthOf_3 rfl (fun x3 e3 h => ?_)
  refine k_if_ne (tgt := 13) C dX1_lengthOf_6 (by decide) h (fun c6 h => ?_) (fun c6 h => ?_)
  · refine lv_aload_n C.1 C.2.1 dX1_lengthOf_13 rfl (lv_at hl 0 rfl) ?_
    refine gX1_steps C hK hP dX1_lengthOf_14 ?_
    refine lv_iconst (v := 3) C.1 C.2.1 dX1_lengthOf_17 (by decide) ?_
    refine lv_iload_n C.1 C.2.1 dX1_lengthOf_18 rfl (lv_at hl 1 rfl) ?_
    refine lv_imul C.1 C.2.1 dX1_lengthOf_19 ?_
    refine lv_iload_n C.1 C.2.1 dX1_lengthOf_20 rfl (lv_at hl 2 rfl) ?_
    refine lv_iadd C.1 C.2.1 dX1_lengthOf_21 ?_
    refine lX1_steps C hK hP h dX1_lengthOf_22 (fun h => ?_)
    refine lv_istore_n (lv' := [(3, .int (S 3 (((3 * v1) + v2) : Int32).toNatClampNeg)), (0, .ref (a 0)), (1, .int v1), (2, .int v2)]) C.1 C.2.1 dX1_lengthOf_23 rfl hl (by decide) rfl (fun ls hl => ?_)
    refine lv_iconst (v := 0) C.1 C.2.1 dX1_lengthOf_24 (by decide) ?_
    refine lv_istore (lv' := [(4, .int 0), (3, .int (S 3 (((3 * v1) + v2) : Int32).toNatClampNeg)), (0, .ref (a 0)), (1, .int v1), (2, .int v2)]) C.1 C.2.1 dX1_lengthOf_25 hl (by decide) rfl (fun ls hl => ?_)
    exact L27 v1 v2 _ (S 3 (((3 * v1) + v2) : Int32).toNatClampNeg) 0 h ls (lv_sub hl [2, 3, 4, 1, 0] rfl)
  · refine lv_sipush (v := 9999) C.1 C.2.1 dX1_lengthOf_9 (by decide) ?_
    exact k_iret C hr hlk h dX1_lengthOf_12
set_option maxHeartbeats 4000000 in
set_option maxRecDepth 100000 in
theorem tX1_getsShorter {l : Launch} {D : va_G} {cI cZ : ClassId} {a : Nat → Nat} {S : XS} {sz : Nat} {v1 : Int32} {z : (Int32 × XS)} (h : mM_getsShorter S v1 = some z) : Met l yX1_getsShorter (Cond.code yX1_getsShorter cX1_getsShorter 4 (some .boolean) :: WW) ({ frames := 3, cells := 0, slots := 0, locals := 71 }) (va_Pc [.ref (a 0), .int v1] (rwP D (wM cI cZ a S) (tyIZ cI cZ) sz)) (rwQi D (wM cI cZ a z.2) z.1 (va_A (wM cI cZ a S) sz)) 0 0 (va_A (wM cI cZ a S) sz) := by
  refine RW_of (own := RX1) (Qc := fun A => rwQi D (wM cI cZ a z.2) z.1 A) (by decide) rfl (Nat.le_of_ble_eq_true rfl) ?_
  intro p e s m args below meth c A ha C hr hlk hP hK hD hA ls hl
  have hS : va_S A s.heap s.heap [] := va_S.rf
  have hl : lv_has ls 4 [(0, .ref (a 0)), (1, .int v1)] := hl
  have L9 : ∀ (S : XS) (H : Heap) (locs : List Loc) (hP : va_P D vwCl (wM cI cZ a S) H) (hD : va_D A (wM cI cZ a S)) (hS : va_S A s.heap H locs) (v1 : Int32) (n : Nat) (v2 : Int32) (v3 : Int32), itr2 (mM_getsShorter_F9 S v1) n v2 v3 = some z → ∀ ls : Array Slot, lv_has ls 4 [(0, .ref (a 0)), (1, .int v1), (2, .int v2), (3, .int v3)] → W p l e { frames := 3, cells := 0, slots := 0, locals := 71 } s m args below meth c H locs 0 0 (MQ below (rwQi D (wM cI cZ a z.2) z.1 A) args s 0 0 A) (F0 m 9 ls []) := by
    intro S H locs hP hD hS v1 n
    refine itr2_ind (fun (v2 : Int32) (v3 : Int32) => ∀ ls : Array Slot, lv_has ls 4 [(0, .ref (a 0)), (1, .int v1), (2, .int v2), (3, .int v3)] → W p l e { frames := 3, cells := 0, slots := 0, locals := 71 } s m args below meth c H locs 0 0 (MQ below (rwQi D (wM cI cZ a z.2) z.1 A) args s 0 0 A) (F0 m 9 ls [])) ?_ n
    intro ih hih v2 v3 h ls hl
    unfold mM_getsShorter_F9 at h
    refine lv_iload_n C.1 C.2.1 dX1_getsShorter_9 rfl (lv_at hl 3 rfl) ?_
    refine lv_aload_n C.1 C.2.1 dX1_getsShorter_10 rfl (lv_at hl 0 rfl) ?_
    refine gX1_proofs C hK hP dX1_getsShorter_11 ?_
    refine lv_iload_n C.1 C.2.1 dX1_getsShorter_14 rfl (lv_at hl 1 rfl) ?_
    refine lX1_proofs C hK hP h dX1_getsShorter_15 (fun h => ?_)
    refine k_icmp_ge (tgt := 36) C dX1_getsShorter_16 (by decide) h (fun c16 h => ?_) (fun c16 h => ?_)
    · refine lv_iload_n C.1 C.2.1 dX1_getsShorter_36 rfl (lv_at hl 2 rfl) ?_
      refine lv_aload_n C.1 C.2.1 dX1_getsShorter_37 rfl (lv_at hl 0 rfl) ?_
      refine gX1_length C hK hP dX1_getsShorter_38 ?_
      refine lv_iload_n C.1 C.2.1 dX1_getsShorter_41 rfl (lv_at hl 1 rfl) ?_
      refine lX1_length C hK hP h dX1_getsShorter_42 (fun h => ?_)
      refine k_icmp_ge (tgt := 50) C dX1_getsShorter_43 (by decide) h (fun c43 h => ?_) (fun c43 h => ?_)
      · refine lv_iconst (v := 0) C.1 C.2.1 dX1_getsShorter_50 (by decide) ?_
        refine lv_istore_n (lv' := [(3, .int 0), (0, .ref (a 0)), (1, .int v1), (2, .int v2)]) C.1 C.2.1 dX1_getsShorter_51 rfl hl (by decide) rfl (fun ls hl => ?_)
        refine lv_aload_n C.1 C.2.1 dX1_getsShorter_52 rfl (lv_at hl 1 rfl) ?_
        refine gX1_length C hK hP dX1_getsShorter_53 ?_
        refine lv_iload_n C.1 C.2.1 dX1_getsShorter_56 rfl (lv_at hl 2 rfl) ?_
        refine lv_iload_n C.1 C.2.1 dX1_getsShorter_57 rfl (lv_at hl 3 rfl) ?_
        refine sX1_length C hK hP hD hS h dX1_getsShorter_58 (fun S58 H locs h hP hD hS => ?_)
        refine lv_iload_n C.1 C.2.1 dX1_getsShorter_59 rfl (lv_at hl 0 rfl) ?_
        exact k_zretW (w := wM cI cZ a) C hr hlk h hP hS dX1_getsShorter_60
      · refine lv_iconst (v := 1) C.1 C.2.1 dX1_getsShorter_46 (by decide) ?_
        refine lv_goto (tgt := 51) C.1 C.2.1 dX1_getsShorter_47 (by decide) ?_
        refine lv_istore_n (lv' := [(3, .int 1), (0, .ref (a 0)), (1, .int v1), (2, .int v2)]) C.1 C.2.1 dX1_getsShorter_51 rfl hl (by decide) rfl (fun ls hl => ?_)
        refine lv_aload_n C.1 C.2.1 dX1_getsShorter_52 rfl (lv_at hl 1 rfl) ?_
        refine gX1_length C hK hP dX1_getsShorter_53 ?_
        refine lv_iload_n C.1 C.2.1 dX1_getsShorter_56 rfl (lv_at hl 2 rfl) ?_
        refine lv_iload_n C.1 C.2.1 dX1_getsShorter_57 rfl (lv_at hl 3 rfl) ?_
        refine sX1_length C hK hP hD hS h dX1_getsShorter_58 (fun S58 H locs h hP hD hS => ?_)
        refine lv_iload_n C.1 C.2.1 dX1_getsShorter_59 rfl (lv_at hl 0 rfl) ?_
        exact k_zretW (w := wM cI cZ a) C hr hlk h hP hS dX1_getsShorter_60
    · refine lv_iload_n C.1 C.2.1 dX1_getsShorter_19 rfl (lv_at hl 2 rfl) ?_
      refine lv_aload_n C.1 C.2.1 dX1_getsShorter_20 rfl (lv_at hl 0 rfl) ?_
      refine lv_iload_n C.1 C.2.1 dX1_getsShorter_21 rfl (lv_at hl 1 rfl) ?_
      refine lv_iload_n C.1 C.2.1 dX1_getsShorter_22 rfl (lv_at hl 3 rfl) ?_
      refine k_roVi C hK hP [.int v1, .int v3] (wM_rv hK hP) h (fun v e => tX1_lengthOf e) (cb_X1_86 C.2.2.2.2 ⟨Nat.le_of_ble_eq_true rfl, Nat.le_of_ble_eq_true rfl⟩) rfl hl.1 (Nat.le_of_ble_eq_true rfl) ⟨Nat.le_of_ble_eq_true rfl, Nat.le_of_ble_eq_true rfl⟩ dX1_getsShorter_23 rfl (fun x23 e23 h => ?_)
      refine k_mmin C hl.1 (C.2.2.2.2 _ qM_X1_80) (Nat.le_of_ble_eq_true rfl) (Nat.le_of_ble_eq_true rfl) (Nat.le_of_ble_eq_true rfl) (Nat.le_of_ble_eq_true rfl) dX1_getsShorter_26 ?_
      refine lv_istore_n (lv' := [(2, .int (lmin v2 x23)), (0, .ref (a 0)), (1, .int v1), (3, .int v3)]) C.1 C.2.1 dX1_getsShorter_29 rfl hl (by decide) rfl (fun ls hl => ?_)
      refine lv_iinc (v := (v3 + 1)) (lv' := [(3, .int (v3 + 1)), (2, .int (lmin v2 x23)), (0, .ref (a 0)), (1, .int v1)]) C.1 C.2.1 dX1_getsShorter_30 hl (k := 3) rfl rfl (by decide) rfl (fun ls hl => ?_)
      refine lv_goto (tgt := 9) C.1 C.2.1 dX1_getsShorter_33 (by decide) ?_
      exact hih (lmin v2 x23) (v3 + 1) h ls (lv_sub hl [2, 3, 1, 0] rfl)
  unfold mM_getsShorter at h
  refine lv_aload_n C.1 C.2.1 dX1_getsShorter_0 rfl (lv_at hl 0 rfl) ?_
  refine gX1_length C hK hP dX1_getsShorter_1 ?_
  refine lv_iload_n C.1 C.2.1 dX1_getsShorter_4 rfl (lv_at hl 1 rfl) ?_
  refine lX1_length C hK hP h dX1_getsShorter_5 (fun h => ?_)
  refine lv_istore_n (lv' := [(2, .int (S 9 (v1 : Int32).toNatClampNeg)), (0, .ref (a 0)), (1, .int v1)]) C.1 C.2.1 dX1_getsShorter_6 rfl hl (by decide) rfl (fun ls hl => ?_)
  refine lv_iconst (v := 0) C.1 C.2.1 dX1_getsShorter_7 (by decide) ?_
  refine lv_istore_n (lv' := [(3, .int 0), (2, .int (S 9 (v1 : Int32).toNatClampNeg)), (0, .ref (a 0)), (1, .int v1)]) C.1 C.2.1 dX1_getsShorter_8 rfl hl (by decide) rfl (fun ls hl => ?_)
  exact L9 _ _ _ hP hD hS v1 _ (S 9 (v1 : Int32).toNatClampNeg) 0 h ls (lv_sub hl [2, 3, 1, 0] rfl)
set_option maxHeartbeats 4000000 in
set_option maxRecDepth 100000 in
theorem tX1_priceOf {l : Launch} {D : va_G} {cI cZ : ClassId} {a : Nat → Nat} {S : XS} {v1 : Int32} {v2 : Int32} {z : Int32} (h : mM_priceOf S v1 v2 = some z) : Met l yX1_priceOf (Cond.code yX1_priceOf cX1_priceOf 6 (some .int) :: WW) ({ frames := 2, cells := 0, slots := 0, locals := 45 }) (va_Pc [.ref (a 0), .int v1, .int v2] (roP D (wM cI cZ a S) (tyIZ cI cZ))) (vp_Si (fun r => r = z)) 0 0 (fun _ => False) := by
  refine RO_of (own := RX1) (by decide) rfl (Nat.le_of_ble_eq_true rfl) ?_
  intro p e s m args below meth c ha C hr hlk hP hK ls hl
  have hl : lv_has ls 6 [(0, .ref (a 0)), (1, .int v1), (2, .int v2)] := hl
  have J96 : ∀ (v1 : Int32) (v2 : Int32) (v3 : Int32) (v4 : Int32) (v5 : Int32) (k : Int32 → Int32 → Option Int32) (hk : ∀ (v3 : Int32) (v4 : Int32), k v3 v4 = some z → ∀ ls : Array Slot, lv_has ls 6 [(0, .ref (a 0)), (1, .int v1), (2, .int v2), (3, .int v3), (4, .int v4)] → W p l e { frames := 2, cells := 0, slots := 0, locals := 45 } s m args below meth c s.heap [] 0 0 (MQ below (vp_Si (fun r => r = z)) args s 0 0 (fun _ => False)) (F0 m 16 ls [])), mM_priceOf_J96 S k v1 v2 v3 v4 v5 = some z → ∀ ls : Array Slot, lv_has ls 6 [(0, .ref (a 0)), (1, .int v1), (2, .int v2), (3, .int v3), (4, .int v4), (5, .int v5)] → W p l e { frames := 2, cells := 0, slots := 0, locals := 45 } s m args below meth c s.heap [] 0 0 (MQ below (vp_Si (fun r => r = z)) args s 0 0 (fun _ => False)) (F0 m 96 ls []) := by
    intro v1 v2 v3 v4 v5 k hk h ls hl
    unfold mM_priceOf_J96 at h
    refine lv_iload_n C.1 C.2.1 dX1_priceOf_96 rfl (lv_at hl 3 rfl) ?_
    refine lv_aload_n C.1 C.2.1 dX1_priceOf_97 rfl (lv_at hl 0 rfl) ?_
    refine gX1_kind C hK hP dX1_priceOf_98 ?_
    refine lv_iload C.1 C.2.1 dX1_priceOf_101 (lv_at hl 5 rfl) ?_
    refine lX1_kind C hK hP h dX1_priceOf_103 (fun h => ?_)
    refine lv_iconst (v := 2) C.1 C.2.1 dX1_priceOf_104 (by decide) ?_
    refine k_icmp_ne (tgt := 118) C dX1_priceOf_105 (by decide) h (fun c105 h => ?_) (fun c105 h => ?_)
    · refine lv_aload_n C.1 C.2.1 dX1_priceOf_118 rfl (lv_at hl 0 rfl) ?_
      refine gX1_kind C hK hP dX1_priceOf_119 ?_
      refine lv_iload C.1 C.2.1 dX1_priceOf_122 (lv_at hl 5 rfl) ?_
      refine lX1_kind C hK hP h dX1_priceOf_124 (fun h => ?_)
      refine lv_iconst (v := 1) C.1 C.2.1 dX1_priceOf_125 (by decide) ?_
      refine k_icmp_ne (tgt := 144) C dX1_priceOf_126 (by decide) h (fun c126 h => ?_) (fun c126 h => ?_)
      · refine lv_iconst (v := 0) C.1 C.2.1 dX1_priceOf_144 (by decide) ?_
        refine lv_iadd C.1 C.2.1 dX1_priceOf_145 ?_
        refine lv_istore_n (lv' := [(3, .int (v3 + 0)), (0, .ref (a 0)), (1, .int v1), (2, .int v2), (4, .int v4), (5, .int v5)]) C.1 C.2.1 dX1_priceOf_146 rfl hl (by decide) rfl (fun ls hl => ?_)
        refine lv_iinc (v := (v4 + 1)) (lv' := [(4, .int (v4 + 1)), (3, .int (v3 + 0)), (0, .ref (a 0)), (1, .int v1), (2, .int v2), (5, .int v5)]) C.1 C.2.1 dX1_priceOf_147 hl (k := 4) rfl rfl (by decide) rfl (fun ls hl => ?_)
        refine lv_goto (tgt := 16) C.1 C.2.1 dX1_priceOf_150 (by decide) ?_
        exact hk (v3 + 0) (v4 + 1) h ls (lv_sub hl [2, 3, 4, 1, 0] rfl)
      · refine lv_aload_n C.1 C.2.1 dX1_priceOf_129 rfl (lv_at hl 0 rfl) ?_
        refine gX1_price C hK hP dX1_priceOf_130 ?_
        refine lv_aload_n C.1 C.2.1 dX1_priceOf_133 rfl (lv_at hl 0 rfl) ?_
        refine gX1_cited C hK hP dX1_priceOf_134 ?_
        refine lv_iload C.1 C.2.1 dX1_priceOf_137 (lv_at hl 5 rfl) ?_
        refine lX1_cited C hK hP h dX1_priceOf_139 (fun h => ?_)
        refine lX1_price C hK hP h dX1_priceOf_140 (fun h => ?_)
        refine lv_goto (tgt := 145) C.1 C.2.1 dX1_priceOf_141 (by decide) ?_
        refine lv_iadd C.1 C.2.1 dX1_priceOf_145 ?_
        refine lv_istore_n (lv' := [(3, .int (v3 + (S 10 ((S 5 (v5 : Int32).toNatClampNeg) : Int32).toNatClampNeg))), (0, .ref (a 0)), (1, .int v1), (2, .int v2), (4, .int v4), (5, .int v5)]) C.1 C.2.1 dX1_priceOf_146 rfl hl (by decide) rfl (fun ls hl => ?_)
        refine lv_iinc (v := (v4 + 1)) (lv' := [(4, .int (v4 + 1)), (3, .int (v3 + (S 10 ((S 5 (v5 : Int32).toNatClampNeg) : Int32).toNatClampNeg))), (0, .ref (a 0)), (1, .int v1), (2, .int v2), (5, .int v5)]) C.1 C.2.1 dX1_priceOf_147 hl (k := 4) rfl rfl (by decide) rfl (fun ls hl => ?_)
        refine lv_goto (tgt := 16) C.1 C.2.1 dX1_priceOf_150 (by decide) ?_
        exact hk (v3 + (S 10 ((S 5 (v5 : Int32).toNatClampNeg) : Int32).toNatClampNeg)) (v4 + 1) h ls (lv_sub hl [2, 3, 4, 1, 0] rfl)
    · refine lv_aload_n C.1 C.2.1 dX1_priceOf_108 rfl (lv_at hl 0 rfl) ?_
      refine gX1_open C hK hP dX1_priceOf_109 ?_
      refine lv_iload C.1 C.2.1 dX1_priceOf_112 (lv_at hl 5 rfl) ?_
      refine lX1_open C hK hP h dX1_priceOf_114 (fun h => ?_)
      refine lv_goto (tgt := 145) C.1 C.2.1 dX1_priceOf_115 (by decide) ?_
      refine lv_iadd C.1 C.2.1 dX1_priceOf_145 ?_
      refine lv_istore_n (lv' := [(3, .int (v3 + (S 6 (v5 : Int32).toNatClampNeg))), (0, .ref (a 0)), (1, .int v1), (2, .int v2), (4, .int v4), (5, .int v5)]) C.1 C.2.1 dX1_priceOf_146 rfl hl (by decide) rfl (fun ls hl => ?_)
      refine lv_iinc (v := (v4 + 1)) (lv' := [(4, .int (v4 + 1)), (3, .int (v3 + (S 6 (v5 : Int32).toNatClampNeg))), (0, .ref (a 0)), (1, .int v1), (2, .int v2), (5, .int v5)]) C.1 C.2.1 dX1_priceOf_147 hl (k := 4) rfl rfl (by decide) rfl (fun ls hl => ?_)
      refine lv_goto (tgt := 16) C.1 C.2.1 dX1_priceOf_150 (by decide) ?_
      exact hk (v3 + (S 6 (v5 : Int32).toNatClampNeg)) (v4 + 1) h ls (lv_sub hl [2, 3, 4, 1, 0] rfl)
  have J65 : ∀ (v1 : Int32) (v2 : Int32) (v3 : Int32) (v4 : Int32) (v5 : Int32) (k : Int32 → Int32 → Option Int32) (hk : ∀ (v3 : Int32) (v4 : Int32), k v3 v4 = some z → ∀ ls : Array Slot, lv_has ls 6 [(0, .ref (a 0)), (1, .int v1), (2, .int v2), (3, .int v3), (4, .int v4)] → W p l e { frames := 2, cells := 0, slots := 0, locals := 45 } s m args below meth c s.heap [] 0 0 (MQ below (vp_Si (fun r => r = z)) args s 0 0 (fun _ => False)) (F0 m 16 ls [])), mM_priceOf_J65 S k v1 v2 v3 v4 v5 = some z → ∀ ls : Array Slot, lv_has ls 6 [(0, .ref (a 0)), (1, .int v1), (2, .int v2), (3, .int v3), (4, .int v4), (5, .int v5)] → W p l e { frames := 2, cells := 0, slots := 0, locals := 45 } s m args below meth c s.heap [] 0 0 (MQ below (vp_Si (fun r => r = z)) args s 0 0 (fun _ => False)) (F0 m 65 ls []) := by
    intro v1 v2 v3 v4 v5 k hk h ls hl
    unfold mM_priceOf_J65 at h
    refine lv_aload_n C.1 C.2.1 dX1_priceOf_65 rfl (lv_at hl 0 rfl) ?_
    refine gX1_kind C hK hP dX1_priceOf_66 ?_
    refine lv_iload C.1 C.2.1 dX1_priceOf_69 (lv_at hl 5 rfl) ?_
    refine lX1_kind C hK hP h dX1_priceOf_71 (fun h => ?_)
    refine lv_iconst (v := 1) C.1 C.2.1 dX1_priceOf_72 (by decide) ?_
    refine k_icmp_ne (tgt := 96) C dX1_priceOf_73 (by decide) h (fun c73 h => ?_) (fun c73 h => ?_)
    · exact J96 v1 v2 v3 v4 v5 k hk h ls (lv_sub hl [0, 1, 2, 3, 4, 5] rfl)
    · refine lv_aload_n C.1 C.2.1 dX1_priceOf_76 rfl (lv_at hl 0 rfl) ?_
      refine gX1_price C hK hP dX1_priceOf_77 ?_
      refine lv_aload_n C.1 C.2.1 dX1_priceOf_80 rfl (lv_at hl 0 rfl) ?_
      refine gX1_cited C hK hP dX1_priceOf_81 ?_
      refine lv_iload C.1 C.2.1 dX1_priceOf_84 (lv_at hl 5 rfl) ?_
      refine lX1_cited C hK hP h dX1_priceOf_86 (fun h => ?_)
      refine lX1_price C hK hP h dX1_priceOf_87 (fun h => ?_)
      refine lv_sipush (v := 9999) C.1 C.2.1 dX1_priceOf_88 (by decide) ?_
      refine k_icmp_ne (tgt := 96) C dX1_priceOf_91 (by decide) h (fun c91 h => ?_) (fun c91 h => ?_)
      · exact J96 v1 v2 v3 v4 v5 k hk h ls (lv_sub hl [0, 1, 2, 3, 4, 5] rfl)
      · refine lv_iconst (v := (-1)) C.1 C.2.1 dX1_priceOf_94 (by decide) ?_
        exact k_iret C hr hlk h dX1_priceOf_95
  have L16 : ∀ (v1 : Int32) (v2 : Int32) (n : Nat) (v3 : Int32) (v4 : Int32), itr2 (mM_priceOf_F16 S v1 v2) n v3 v4 = some z → ∀ ls : Array Slot, lv_has ls 6 [(0, .ref (a 0)), (1, .int v1), (2, .int v2), (3, .int v3), (4, .int v4)] → W p l e { frames := 2, cells := 0, slots := 0, locals := 45 } s m args below meth c s.heap [] 0 0 (MQ below (vp_Si (fun r => r = z)) args s 0 0 (fun _ => False)) (F0 m 16 ls []) := by
    intro v1 v2 n
    refine itr2_ind (fun (v3 : Int32) (v4 : Int32) => ∀ ls : Array Slot, lv_has ls 6 [(0, .ref (a 0)), (1, .int v1), (2, .int v2), (3, .int v3), (4, .int v4)] → W p l e { frames := 2, cells := 0, slots := 0, locals := 45 } s m args below meth c s.heap [] 0 0 (MQ below (vp_Si (fun r => r = z)) args s 0 0 (fun _ => False)) (F0 m 16 ls [])) ?_ n
    intro ih hih v3 v4 h ls hl
    unfold mM_priceOf_F16 at h
    refine lv_iload C.1 C.2.1 dX1_priceOf_16 (lv_at hl 4 rfl) ?_
    refine lv_aload_n C.1 C.2.1 dX1_priceOf_18 rfl (lv_at hl 0 rfl) ?_
    refine gX1_steps C hK hP dX1_priceOf_19 ?_
    refine lv_iconst (v := 3) C.1 C.2.1 dX1_priceOf_22 (by decide) ?_
    refine lv_iload_n C.1 C.2.1 dX1_priceOf_23 rfl (lv_at hl 1 rfl) ?_
    refine lv_imul C.1 C.2.1 dX1_priceOf_24 ?_
    refine lv_iload_n C.1 C.2.1 dX1_priceOf_25 rfl (lv_at hl 2 rfl) ?_
    refine lv_iadd C.1 C.2.1 dX1_priceOf_26 ?_
    refine lX1_steps C hK hP h dX1_priceOf_27 (fun h => ?_)
    refine k_icmp_ge (tgt := 153) C dX1_priceOf_28 (by decide) h (fun c28 h => ?_) (fun c28 h => ?_)
    · refine lv_iload_n C.1 C.2.1 dX1_priceOf_153 rfl (lv_at hl 3 rfl) ?_
      refine lv_sipush (v := 9999) C.1 C.2.1 dX1_priceOf_154 (by decide) ?_
      refine k_icmp_lt (tgt := 164) C dX1_priceOf_157 (by decide) h (fun c157 h => ?_) (fun c157 h => ?_)
      · refine lv_iload_n C.1 C.2.1 dX1_priceOf_164 rfl (lv_at hl 3 rfl) ?_
        exact k_iret C hr hlk h dX1_priceOf_165
      · refine lv_iconst (v := (-1)) C.1 C.2.1 dX1_priceOf_160 (by decide) ?_
        refine lv_goto (tgt := 165) C.1 C.2.1 dX1_priceOf_161 (by decide) ?_
        exact k_iret C hr hlk h dX1_priceOf_165
    · refine lv_iload_n C.1 C.2.1 dX1_priceOf_31 rfl (lv_at hl 1 rfl) ?_
      refine lv_iload_n C.1 C.2.1 dX1_priceOf_32 rfl (lv_at hl 2 rfl) ?_
      refine lv_iload C.1 C.2.1 dX1_priceOf_33 (lv_at hl 4 rfl) ?_
      refine k_prS C [.int v1, .int v2, .int v4] h (fun v e => tX1_at e) (cb_X1_63 C.2.2.2.2 ⟨Nat.le_of_ble_eq_true rfl, Nat.le_of_ble_eq_true rfl⟩) rfl hl.1 (Nat.le_of_ble_eq_true rfl) ⟨Nat.le_of_ble_eq_true rfl, Nat.le_of_ble_eq_true rfl⟩ dX1_priceOf_35 rfl (fun x35 e35 h => ?_)
      refine lv_istore (lv' := [(5, .int x35), (0, .ref (a 0)), (1, .int v1), (2, .int v2), (3, .int v3), (4, .int v4)]) C.1 C.2.1 dX1_priceOf_38 hl (by decide) rfl (fun ls hl => ?_)
      refine lv_aload_n C.1 C.2.1 dX1_priceOf_40 rfl (lv_at hl 1 rfl) ?_
      refine gX1_kind C hK hP dX1_priceOf_41 ?_
      refine lv_iload C.1 C.2.1 dX1_priceOf_44 (lv_at hl 0 rfl) ?_
      refine lX1_kind C hK hP h dX1_priceOf_46 (fun h => ?_)
      refine k_if_ne (tgt := 65) C dX1_priceOf_47 (by decide) h (fun c47 h => ?_) (fun c47 h => ?_)
      · exact J65 v1 v2 v3 v4 x35 ih hih h ls (lv_sub hl [1, 2, 3, 4, 5, 0] rfl)
      · refine lv_aload_n C.1 C.2.1 dX1_priceOf_50 rfl (lv_at hl 1 rfl) ?_
        refine gX1_taken C hK hP dX1_priceOf_51 ?_
        refine lv_aload_n C.1 C.2.1 dX1_priceOf_54 rfl (lv_at hl 1 rfl) ?_
        refine gX1_cited C hK hP dX1_priceOf_55 ?_
        refine lv_iload C.1 C.2.1 dX1_priceOf_58 (lv_at hl 0 rfl) ?_
        refine lX1_cited C hK hP h dX1_priceOf_60 (fun h => ?_)
        refine lX1_taken C hK hP h dX1_priceOf_61 (fun h => ?_)
        refine k_if_eq (tgt := 94) C dX1_priceOf_62 (by decide) h (fun c62 h => ?_) (fun c62 h => ?_)
        · refine lv_iconst (v := (-1)) C.1 C.2.1 dX1_priceOf_94 (by decide) ?_
          exact k_iret C hr hlk h dX1_priceOf_95
        · exact J65 v1 v2 v3 v4 x35 ih hih h ls (lv_sub hl [1, 2, 3, 4, 5, 0] rfl)
  unfold mM_priceOf at h
  refine lv_aload_n C.1 C.2.1 dX1_priceOf_0 rfl (lv_at hl 0 rfl) ?_
  refine lv_iload_n C.1 C.2.1 dX1_priceOf_1 rfl (lv_at hl 1 rfl) ?_
  refine lv_iload_n C.1 C.2.1 dX1_priceOf_2 rfl (lv_at hl 2 rfl) ?_
  refine k_roVi C hK hP [.int v1, .int v2] (wM_rv hK hP) h (fun v e => tX1_isWhole e) (cb_X1_67 C.2.2.2.2 ⟨Nat.le_of_ble_eq_true rfl, Nat.le_of_ble_eq_true rfl⟩) rfl hl.1 (Nat.le_of_ble_eq_true rfl) ⟨Nat.le_of_ble_eq_true rfl, Nat.le_of_ble_eq_true rfl⟩ dX1_priceOf_3 rfl (fun x3 e3 h => ?_)
  refine k_if_ne (tgt := 11) C dX1_priceOf_6 (by decide) h (fun c6 h => ?_) (fun c6 h => ?_)
  · refine lv_iconst (v := 0) C.1 C.2.1 dX1_priceOf_11 (by decide) ?_
    refine lv_istore_n (lv' := [(3, .int 0), (0, .ref (a 0)), (1, .int v1), (2, .int v2)]) C.1 C.2.1 dX1_priceOf_12 rfl hl (by decide) rfl (fun ls hl => ?_)
    refine lv_iconst (v := 0) C.1 C.2.1 dX1_priceOf_13 (by decide) ?_
    refine lv_istore (lv' := [(4, .int 0), (3, .int 0), (0, .ref (a 0)), (1, .int v1), (2, .int v2)]) C.1 C.2.1 dX1_priceOf_14 hl (by decide) rfl (fun ls hl => ?_)
    exact L16 v1 v2 _ 0 0 h ls (lv_sub hl [2, 3, 4, 1, 0] rfl)
  · refine lv_iconst (v := (-1)) C.1 C.2.1 dX1_priceOf_9 (by decide) ?_
    exact k_iret C hr hlk h dX1_priceOf_10
set_option maxHeartbeats 4000000 in
set_option maxRecDepth 100000 in
theorem tX1_getsCheaper {l : Launch} {D : va_G} {cI cZ : ClassId} {a : Nat → Nat} {S : XS} {sz : Nat} {v1 : Int32} {z : (Int32 × XS)} (h : mM_getsCheaper S v1 = some z) : Met l yX1_getsCheaper (Cond.code yX1_getsCheaper cX1_getsCheaper 4 (some .boolean) :: WW) ({ frames := 3, cells := 0, slots := 0, locals := 70 }) (va_Pc [.ref (a 0), .int v1] (rwP D (wM cI cZ a S) (tyIZ cI cZ) sz)) (rwQi D (wM cI cZ a z.2) z.1 (va_A (wM cI cZ a S) sz)) 0 0 (va_A (wM cI cZ a S) sz) := by
  refine RW_of (own := RX1) (Qc := fun A => rwQi D (wM cI cZ a z.2) z.1 A) (by decide) rfl (Nat.le_of_ble_eq_true rfl) ?_
  intro p e s m args below meth c A ha C hr hlk hP hK hD hA ls hl
  have hS : va_S A s.heap s.heap [] := va_S.rf
  have hl : lv_has ls 4 [(0, .ref (a 0)), (1, .int v1)] := hl
  have L9 : ∀ (S : XS) (H : Heap) (locs : List Loc) (hP : va_P D vwCl (wM cI cZ a S) H) (hD : va_D A (wM cI cZ a S)) (hS : va_S A s.heap H locs) (v1 : Int32) (n : Nat) (v2 : Int32) (v3 : Int32), itr2 (mM_getsCheaper_F9 S v1) n v2 v3 = some z → ∀ ls : Array Slot, lv_has ls 4 [(0, .ref (a 0)), (1, .int v1), (2, .int v2), (3, .int v3)] → W p l e { frames := 3, cells := 0, slots := 0, locals := 70 } s m args below meth c H locs 0 0 (MQ below (rwQi D (wM cI cZ a z.2) z.1 A) args s 0 0 A) (F0 m 9 ls []) := by
    intro S H locs hP hD hS v1 n
    refine itr2_ind (fun (v2 : Int32) (v3 : Int32) => ∀ ls : Array Slot, lv_has ls 4 [(0, .ref (a 0)), (1, .int v1), (2, .int v2), (3, .int v3)] → W p l e { frames := 3, cells := 0, slots := 0, locals := 70 } s m args below meth c H locs 0 0 (MQ below (rwQi D (wM cI cZ a z.2) z.1 A) args s 0 0 A) (F0 m 9 ls [])) ?_ n
    intro ih hih v2 v3 h ls hl
    unfold mM_getsCheaper_F9 at h
    refine lv_iload_n C.1 C.2.1 dX1_getsCheaper_9 rfl (lv_at hl 3 rfl) ?_
    refine lv_aload_n C.1 C.2.1 dX1_getsCheaper_10 rfl (lv_at hl 0 rfl) ?_
    refine gX1_proofs C hK hP dX1_getsCheaper_11 ?_
    refine lv_iload_n C.1 C.2.1 dX1_getsCheaper_14 rfl (lv_at hl 1 rfl) ?_
    refine lX1_proofs C hK hP h dX1_getsCheaper_15 (fun h => ?_)
    refine k_icmp_ge (tgt := 46) C dX1_getsCheaper_16 (by decide) h (fun c16 h => ?_) (fun c16 h => ?_)
    · refine lv_iload_n C.1 C.2.1 dX1_getsCheaper_46 rfl (lv_at hl 2 rfl) ?_
      refine lv_aload_n C.1 C.2.1 dX1_getsCheaper_47 rfl (lv_at hl 0 rfl) ?_
      refine gX1_price C hK hP dX1_getsCheaper_48 ?_
      refine lv_iload_n C.1 C.2.1 dX1_getsCheaper_51 rfl (lv_at hl 1 rfl) ?_
      refine lX1_price C hK hP h dX1_getsCheaper_52 (fun h => ?_)
      refine k_icmp_ge (tgt := 60) C dX1_getsCheaper_53 (by decide) h (fun c53 h => ?_) (fun c53 h => ?_)
      · refine lv_iconst (v := 0) C.1 C.2.1 dX1_getsCheaper_60 (by decide) ?_
        refine lv_istore_n (lv' := [(3, .int 0), (0, .ref (a 0)), (1, .int v1), (2, .int v2)]) C.1 C.2.1 dX1_getsCheaper_61 rfl hl (by decide) rfl (fun ls hl => ?_)
        refine lv_aload_n C.1 C.2.1 dX1_getsCheaper_62 rfl (lv_at hl 1 rfl) ?_
        refine gX1_price C hK hP dX1_getsCheaper_63 ?_
        refine lv_iload_n C.1 C.2.1 dX1_getsCheaper_66 rfl (lv_at hl 2 rfl) ?_
        refine lv_iload_n C.1 C.2.1 dX1_getsCheaper_67 rfl (lv_at hl 3 rfl) ?_
        refine sX1_price C hK hP hD hS h dX1_getsCheaper_68 (fun S68 H locs h hP hD hS => ?_)
        refine lv_iload_n C.1 C.2.1 dX1_getsCheaper_69 rfl (lv_at hl 0 rfl) ?_
        exact k_zretW (w := wM cI cZ a) C hr hlk h hP hS dX1_getsCheaper_70
      · refine lv_iconst (v := 1) C.1 C.2.1 dX1_getsCheaper_56 (by decide) ?_
        refine lv_goto (tgt := 61) C.1 C.2.1 dX1_getsCheaper_57 (by decide) ?_
        refine lv_istore_n (lv' := [(3, .int 1), (0, .ref (a 0)), (1, .int v1), (2, .int v2)]) C.1 C.2.1 dX1_getsCheaper_61 rfl hl (by decide) rfl (fun ls hl => ?_)
        refine lv_aload_n C.1 C.2.1 dX1_getsCheaper_62 rfl (lv_at hl 1 rfl) ?_
        refine gX1_price C hK hP dX1_getsCheaper_63 ?_
        refine lv_iload_n C.1 C.2.1 dX1_getsCheaper_66 rfl (lv_at hl 2 rfl) ?_
        refine lv_iload_n C.1 C.2.1 dX1_getsCheaper_67 rfl (lv_at hl 3 rfl) ?_
        refine sX1_price C hK hP hD hS h dX1_getsCheaper_68 (fun S68 H locs h hP hD hS => ?_)
        refine lv_iload_n C.1 C.2.1 dX1_getsCheaper_69 rfl (lv_at hl 0 rfl) ?_
        exact k_zretW (w := wM cI cZ a) C hr hlk h hP hS dX1_getsCheaper_70
    · refine lv_aload_n C.1 C.2.1 dX1_getsCheaper_19 rfl (lv_at hl 0 rfl) ?_
      refine lv_iload_n C.1 C.2.1 dX1_getsCheaper_20 rfl (lv_at hl 1 rfl) ?_
      refine lv_iload_n C.1 C.2.1 dX1_getsCheaper_21 rfl (lv_at hl 3 rfl) ?_
      refine k_roVi C hK hP [.int v1, .int v3] (wM_rv hK hP) h (fun v e => tX1_priceOf e) (cb_X1_89 C.2.2.2.2 ⟨Nat.le_of_ble_eq_true rfl, Nat.le_of_ble_eq_true rfl⟩) rfl hl.1 (Nat.le_of_ble_eq_true rfl) ⟨Nat.le_of_ble_eq_true rfl, Nat.le_of_ble_eq_true rfl⟩ dX1_getsCheaper_22 rfl (fun x22 e22 h => ?_)
      refine lv_iconst (v := (-1)) C.1 C.2.1 dX1_getsCheaper_25 (by decide) ?_
      refine k_icmp_eq (tgt := 40) C dX1_getsCheaper_26 (by decide) h (fun c26 h => ?_) (fun c26 h => ?_)
      · refine lv_iinc (v := (v3 + 1)) (lv' := [(3, .int (v3 + 1)), (0, .ref (a 0)), (1, .int v1), (2, .int v2)]) C.1 C.2.1 dX1_getsCheaper_40 hl (k := 3) rfl rfl (by decide) rfl (fun ls hl => ?_)
        refine lv_goto (tgt := 9) C.1 C.2.1 dX1_getsCheaper_43 (by decide) ?_
        exact hih v2 (v3 + 1) h ls (lv_sub hl [1, 2, 3, 0] rfl)
      · refine lv_iload_n C.1 C.2.1 dX1_getsCheaper_29 rfl (lv_at hl 2 rfl) ?_
        refine lv_aload_n C.1 C.2.1 dX1_getsCheaper_30 rfl (lv_at hl 0 rfl) ?_
        refine lv_iload_n C.1 C.2.1 dX1_getsCheaper_31 rfl (lv_at hl 1 rfl) ?_
        refine lv_iload_n C.1 C.2.1 dX1_getsCheaper_32 rfl (lv_at hl 3 rfl) ?_
        refine k_roVi C hK hP [.int v1, .int v3] (wM_rv hK hP) h (fun v e => tX1_priceOf e) (cb_X1_89 C.2.2.2.2 ⟨Nat.le_of_ble_eq_true rfl, Nat.le_of_ble_eq_true rfl⟩) rfl hl.1 (Nat.le_of_ble_eq_true rfl) ⟨Nat.le_of_ble_eq_true rfl, Nat.le_of_ble_eq_true rfl⟩ dX1_getsCheaper_33 rfl (fun x33 e33 h => ?_)
        refine k_mmin C hl.1 (C.2.2.2.2 _ qM_X1_80) (Nat.le_of_ble_eq_true rfl) (Nat.le_of_ble_eq_true rfl) (Nat.le_of_ble_eq_true rfl) (Nat.le_of_ble_eq_true rfl) dX1_getsCheaper_36 ?_
        refine lv_istore_n (lv' := [(2, .int (lmin v2 x33)), (0, .ref (a 0)), (1, .int v1), (3, .int v3)]) C.1 C.2.1 dX1_getsCheaper_39 rfl hl (by decide) rfl (fun ls hl => ?_)
        refine lv_iinc (v := (v3 + 1)) (lv' := [(3, .int (v3 + 1)), (2, .int (lmin v2 x33)), (0, .ref (a 0)), (1, .int v1)]) C.1 C.2.1 dX1_getsCheaper_40 hl (k := 3) rfl rfl (by decide) rfl (fun ls hl => ?_)
        refine lv_goto (tgt := 9) C.1 C.2.1 dX1_getsCheaper_43 (by decide) ?_
        exact hih (lmin v2 x33) (v3 + 1) h ls (lv_sub hl [2, 3, 1, 0] rfl)
  unfold mM_getsCheaper at h
  refine lv_aload_n C.1 C.2.1 dX1_getsCheaper_0 rfl (lv_at hl 0 rfl) ?_
  refine gX1_price C hK hP dX1_getsCheaper_1 ?_
  refine lv_iload_n C.1 C.2.1 dX1_getsCheaper_4 rfl (lv_at hl 1 rfl) ?_
  refine lX1_price C hK hP h dX1_getsCheaper_5 (fun h => ?_)
  refine lv_istore_n (lv' := [(2, .int (S 10 (v1 : Int32).toNatClampNeg)), (0, .ref (a 0)), (1, .int v1)]) C.1 C.2.1 dX1_getsCheaper_6 rfl hl (by decide) rfl (fun ls hl => ?_)
  refine lv_iconst (v := 0) C.1 C.2.1 dX1_getsCheaper_7 (by decide) ?_
  refine lv_istore_n (lv' := [(3, .int 0), (2, .int (S 10 (v1 : Int32).toNatClampNeg)), (0, .ref (a 0)), (1, .int v1)]) C.1 C.2.1 dX1_getsCheaper_8 rfl hl (by decide) rfl (fun ls hl => ?_)
  exact L9 _ _ _ hP hD hS v1 _ (S 10 (v1 : Int32).toNatClampNeg) 0 h ls (lv_sub hl [2, 3, 1, 0] rfl)
set_option maxHeartbeats 4000000 in
set_option maxRecDepth 100000 in
theorem tX1_measure {l : Launch} {D : va_G} {cI cZ : ClassId} {a : Nat → Nat} {S : XS} {sz : Nat} {z : (Int32 × XS)} (h : mM_measure S = some z) : Met l yX1_measure (Cond.code yX1_measure cX1_measure 3 none :: WW) ({ frames := 4, cells := 0, slots := 0, locals := 94 }) (va_Pc [.ref (a 0)] (rwP D (wM cI cZ a S) (tyIZ cI cZ) sz)) (rwQv D (wM cI cZ a z.2) (va_A (wM cI cZ a S) sz)) 0 0 (va_A (wM cI cZ a S) sz) := by
  refine RW_of (own := RX1) (Qc := fun A => rwQv D (wM cI cZ a z.2) A) (by decide) rfl (Nat.le_of_ble_eq_true rfl) ?_
  intro p e s m args below meth c A ha C hr hlk hP hK hD hA ls hl
  have hS : va_S A s.heap s.heap [] := va_S.rf
  have hl : lv_has ls 3 [(0, .ref (a 0))] := hl
  have L44 : ∀  (k : XS → Int32 → Option (Int32 × XS)) (hk : ∀ (S : XS) (v1 : Int32), k S v1 = some z → ∀ (H : Heap) (locs : List Loc) (hP : va_P D vwCl (wM cI cZ a S) H) (hD : va_D A (wM cI cZ a S)) (hS : va_S A s.heap H locs) (ls : Array Slot), lv_has ls 3 [(0, .ref (a 0)), (1, .int v1)] → W p l e { frames := 4, cells := 0, slots := 0, locals := 94 } s m args below meth c H locs 0 0 (MQ below (rwQv D (wM cI cZ a z.2) A) args s 0 0 A) (F0 m 36 ls [])) (n : Nat) (S : XS) (v1 : Int32) (v2 : Int32), itr3 (mM_measure_F44 k) n S v1 v2 = some z → ∀ (H : Heap) (locs : List Loc) (hP : va_P D vwCl (wM cI cZ a S) H) (hD : va_D A (wM cI cZ a S)) (hS : va_S A s.heap H locs) (ls : Array Slot), lv_has ls 3 [(0, .ref (a 0)), (1, .int v1), (2, .int v2)] → W p l e { frames := 4, cells := 0, slots := 0, locals := 94 } s m args below meth c H locs 0 0 (MQ below (rwQv D (wM cI cZ a z.2) A) args s 0 0 A) (F0 m 44 ls []) := by
    intro k hk n
    refine itr3_ind (fun (S : XS) (v1 : Int32) (v2 : Int32) => ∀ (H : Heap) (locs : List Loc) (hP : va_P D vwCl (wM cI cZ a S) H) (hD : va_D A (wM cI cZ a S)) (hS : va_S A s.heap H locs) (ls : Array Slot), lv_has ls 3 [(0, .ref (a 0)), (1, .int v1), (2, .int v2)] → W p l e { frames := 4, cells := 0, slots := 0, locals := 94 } s m args below meth c H locs 0 0 (MQ below (rwQv D (wM cI cZ a z.2) A) args s 0 0 A) (F0 m 44 ls [])) ?_ n
    intro ih hih S v1 v2 h H locs hP hD hS ls hl
    unfold mM_measure_F44 at h
    refine lv_iload_n C.1 C.2.1 dX1_measure_44 rfl (lv_at hl 2 rfl) ?_
    refine lv_aload_n C.1 C.2.1 dX1_measure_45 rfl (lv_at hl 0 rfl) ?_
    refine gX1_lemmas C hK hP dX1_measure_46 ?_
    refine k_icmp_ge (tgt := 74) C dX1_measure_49 (by decide) h (fun c49 h => ?_) (fun c49 h => ?_)
    · refine lv_goto (tgt := 36) C.1 C.2.1 dX1_measure_74 (by decide) ?_
      exact hk S v1 h _ _ hP hD hS ls (lv_sub hl [0, 1] rfl)
    · refine lv_iload_n C.1 C.2.1 dX1_measure_52 rfl (lv_at hl 1 rfl) ?_
      refine lv_aload_n C.1 C.2.1 dX1_measure_53 rfl (lv_at hl 0 rfl) ?_
      refine lv_iload_n C.1 C.2.1 dX1_measure_54 rfl (lv_at hl 2 rfl) ?_
      refine k_rwVi C (wM_ad _) hK hP hD hS hA [.int v2] (wM_rv hK hP) h (fun v S2 e => tX1_getsShorter e) (cb_X1_92 C.2.2.2.2 ⟨Nat.le_of_ble_eq_true rfl, Nat.le_of_ble_eq_true rfl⟩) rfl hl.1 (Nat.le_of_ble_eq_true rfl) ⟨Nat.le_of_ble_eq_true rfl, Nat.le_of_ble_eq_true rfl⟩ dX1_measure_55 rfl (fun x55 S55 H locs e55 h hP hD hS => ?_)
      refine lv_ior C.1 C.2.1 dX1_measure_58 ?_
      refine lv_istore_n (lv' := [(1, .int (v1 ||| x55)), (0, .ref (a 0)), (2, .int v2)]) C.1 C.2.1 dX1_measure_59 rfl hl (by decide) rfl (fun ls hl => ?_)
      refine lv_iload_n C.1 C.2.1 dX1_measure_60 rfl (lv_at hl 0 rfl) ?_
      refine lv_aload_n C.1 C.2.1 dX1_measure_61 rfl (lv_at hl 1 rfl) ?_
      refine lv_iload_n C.1 C.2.1 dX1_measure_62 rfl (lv_at hl 2 rfl) ?_
      refine k_rwVi C (wM_ad _) hK hP hD hS hA [.int v2] (wM_rv hK hP) h (fun v S2 e => tX1_getsCheaper e) (cb_X1_95 C.2.2.2.2 ⟨Nat.le_of_ble_eq_true rfl, Nat.le_of_ble_eq_true rfl⟩) rfl hl.1 (Nat.le_of_ble_eq_true rfl) ⟨Nat.le_of_ble_eq_true rfl, Nat.le_of_ble_eq_true rfl⟩ dX1_measure_63 rfl (fun x63 S63 H locs e63 h hP hD hS => ?_)
      refine lv_ior C.1 C.2.1 dX1_measure_66 ?_
      refine lv_istore_n (lv' := [(1, .int ((v1 ||| x55) ||| x63)), (0, .ref (a 0)), (2, .int v2)]) C.1 C.2.1 dX1_measure_67 rfl hl (by decide) rfl (fun ls hl => ?_)
      refine lv_iinc (v := (v2 + 1)) (lv' := [(2, .int (v2 + 1)), (1, .int ((v1 ||| x55) ||| x63)), (0, .ref (a 0))]) C.1 C.2.1 dX1_measure_68 hl (k := 2) rfl rfl (by decide) rfl (fun ls hl => ?_)
      refine lv_goto (tgt := 44) C.1 C.2.1 dX1_measure_71 (by decide) ?_
      exact hih S63 ((v1 ||| x55) ||| x63) (v2 + 1) h _ _ hP hD hS ls (lv_sub hl [2, 1, 0] rfl)
  have L36 : ∀  (n : Nat) (S : XS) (v1 : Int32), itr2 (mM_measure_F36) n S v1 = some z → ∀ (H : Heap) (locs : List Loc) (hP : va_P D vwCl (wM cI cZ a S) H) (hD : va_D A (wM cI cZ a S)) (hS : va_S A s.heap H locs) (ls : Array Slot), lv_has ls 3 [(0, .ref (a 0)), (1, .int v1)] → W p l e { frames := 4, cells := 0, slots := 0, locals := 94 } s m args below meth c H locs 0 0 (MQ below (rwQv D (wM cI cZ a z.2) A) args s 0 0 A) (F0 m 36 ls []) := by
    intro n
    refine itr2_ind (fun (S : XS) (v1 : Int32) => ∀ (H : Heap) (locs : List Loc) (hP : va_P D vwCl (wM cI cZ a S) H) (hD : va_D A (wM cI cZ a S)) (hS : va_S A s.heap H locs) (ls : Array Slot), lv_has ls 3 [(0, .ref (a 0)), (1, .int v1)] → W p l e { frames := 4, cells := 0, slots := 0, locals := 94 } s m args below meth c H locs 0 0 (MQ below (rwQv D (wM cI cZ a z.2) A) args s 0 0 A) (F0 m 36 ls [])) ?_ n
    intro ih hih S v1 h H locs hP hD hS ls hl
    unfold mM_measure_F36 at h
    refine lv_iload_n C.1 C.2.1 dX1_measure_36 rfl (lv_at hl 1 rfl) ?_
    refine k_if_eq (tgt := 77) C dX1_measure_37 (by decide) h (fun c37 h => ?_) (fun c37 h => ?_)
    · exact k_vretW (w := wM cI cZ a) C hr hlk (v := 0) h hP hS dX1_measure_77
    · refine lv_iconst (v := 0) C.1 C.2.1 dX1_measure_40 (by decide) ?_
      refine lv_istore_n (lv' := [(1, .int 0), (0, .ref (a 0))]) C.1 C.2.1 dX1_measure_41 rfl hl (by decide) rfl (fun ls hl => ?_)
      refine lv_iconst (v := 0) C.1 C.2.1 dX1_measure_42 (by decide) ?_
      refine lv_istore_n (lv' := [(2, .int 0), (1, .int 0), (0, .ref (a 0))]) C.1 C.2.1 dX1_measure_43 rfl hl (by decide) rfl (fun ls hl => ?_)
      exact L44 ih hih _ S 0 0 h _ _ hP hD hS ls (lv_sub hl [2, 1, 0] rfl)
  have L2 : ∀  (n : Nat) (S : XS) (v1 : Int32), itr2 (mM_measure_F2) n S v1 = some z → ∀ (H : Heap) (locs : List Loc) (hP : va_P D vwCl (wM cI cZ a S) H) (hD : va_D A (wM cI cZ a S)) (hS : va_S A s.heap H locs) (ls : Array Slot), lv_has ls 3 [(0, .ref (a 0)), (1, .int v1)] → W p l e { frames := 4, cells := 0, slots := 0, locals := 94 } s m args below meth c H locs 0 0 (MQ below (rwQv D (wM cI cZ a z.2) A) args s 0 0 A) (F0 m 2 ls []) := by
    intro n
    refine itr2_ind (fun (S : XS) (v1 : Int32) => ∀ (H : Heap) (locs : List Loc) (hP : va_P D vwCl (wM cI cZ a S) H) (hD : va_D A (wM cI cZ a S)) (hS : va_S A s.heap H locs) (ls : Array Slot), lv_has ls 3 [(0, .ref (a 0)), (1, .int v1)] → W p l e { frames := 4, cells := 0, slots := 0, locals := 94 } s m args below meth c H locs 0 0 (MQ below (rwQv D (wM cI cZ a z.2) A) args s 0 0 A) (F0 m 2 ls [])) ?_ n
    intro ih hih S v1 h H locs hP hD hS ls hl
    unfold mM_measure_F2 at h
    refine lv_iload_n C.1 C.2.1 dX1_measure_2 rfl (lv_at hl 1 rfl) ?_
    refine lv_aload_n C.1 C.2.1 dX1_measure_3 rfl (lv_at hl 0 rfl) ?_
    refine gX1_lemmas C hK hP dX1_measure_4 ?_
    refine k_icmp_ge (tgt := 34) C dX1_measure_7 (by decide) h (fun c7 h => ?_) (fun c7 h => ?_)
    · refine lv_iconst (v := 1) C.1 C.2.1 dX1_measure_34 (by decide) ?_
      refine lv_istore_n (lv' := [(1, .int 1), (0, .ref (a 0))]) C.1 C.2.1 dX1_measure_35 rfl hl (by decide) rfl (fun ls hl => ?_)
      exact L36 _ S 1 h _ _ hP hD hS ls (lv_sub hl [1, 0] rfl)
    · refine lv_aload_n C.1 C.2.1 dX1_measure_10 rfl (lv_at hl 0 rfl) ?_
      refine gX1_length C hK hP dX1_measure_11 ?_
      refine lv_iload_n C.1 C.2.1 dX1_measure_14 rfl (lv_at hl 1 rfl) ?_
      refine lv_sipush (v := 9999) C.1 C.2.1 dX1_measure_15 (by decide) ?_
      refine sX1_length C hK hP hD hS h dX1_measure_18 (fun S18 H locs h hP hD hS => ?_)
      refine lv_aload_n C.1 C.2.1 dX1_measure_19 rfl (lv_at hl 0 rfl) ?_
      refine gX1_price C hK hP dX1_measure_20 ?_
      refine lv_iload_n C.1 C.2.1 dX1_measure_23 rfl (lv_at hl 1 rfl) ?_
      refine lv_sipush (v := 9999) C.1 C.2.1 dX1_measure_24 (by decide) ?_
      refine sX1_price C hK hP hD hS h dX1_measure_27 (fun S27 H locs h hP hD hS => ?_)
      refine lv_iinc (v := (v1 + 1)) (lv' := [(1, .int (v1 + 1)), (0, .ref (a 0))]) C.1 C.2.1 dX1_measure_28 hl (k := 1) rfl rfl (by decide) rfl (fun ls hl => ?_)
      refine lv_goto (tgt := 2) C.1 C.2.1 dX1_measure_31 (by decide) ?_
      exact hih S27 (v1 + 1) h _ _ hP hD hS ls (lv_sub hl [1, 0] rfl)
  unfold mM_measure at h
  refine lv_iconst (v := 0) C.1 C.2.1 dX1_measure_0 (by decide) ?_
  refine lv_istore_n (lv' := [(1, .int 0), (0, .ref (a 0))]) C.1 C.2.1 dX1_measure_1 rfl hl (by decide) rfl (fun ls hl => ?_)
  exact L2 _ S 0 h _ _ hP hD hS ls (lv_sub hl [1, 0] rfl)
set_option maxHeartbeats 4000000 in
set_option maxRecDepth 100000 in
theorem tX1_stepsOf {l : Launch} {D : va_G} {cI cZ : ClassId} {a : Nat → Nat} {S : XS} {v1 : Int32} {z : Int32} (h : mM_stepsOf S v1 = some z) : Met l yX1_stepsOf (Cond.code yX1_stepsOf cX1_stepsOf 4 (some .int) :: WW) ({ frames := 0, cells := 0, slots := 0, locals := 0 }) (va_Pc [.ref (a 0), .int v1] (roP D (wM cI cZ a S) (tyIZ cI cZ))) (vp_Si (fun r => r = z)) 0 0 (fun _ => False) := by
  refine RO_of (own := RX1) (by decide) rfl (Nat.le_of_ble_eq_true rfl) ?_
  intro p e s m args below meth c ha C hr hlk hP hK ls hl
  have hl : lv_has ls 4 [(0, .ref (a 0)), (1, .int v1)] := hl
  have L4 : ∀ (v1 : Int32) (n : Nat) (v2 : Int32) (v3 : Int32), itr2 (mM_stepsOf_F4 S v1) n v2 v3 = some z → ∀ ls : Array Slot, lv_has ls 4 [(0, .ref (a 0)), (1, .int v1), (2, .int v2), (3, .int v3)] → W p l e { frames := 0, cells := 0, slots := 0, locals := 0 } s m args below meth c s.heap [] 0 0 (MQ below (vp_Si (fun r => r = z)) args s 0 0 (fun _ => False)) (F0 m 4 ls []) := by
    intro v1 n
    refine itr2_ind (fun (v2 : Int32) (v3 : Int32) => ∀ ls : Array Slot, lv_has ls 4 [(0, .ref (a 0)), (1, .int v1), (2, .int v2), (3, .int v3)] → W p l e { frames := 0, cells := 0, slots := 0, locals := 0 } s m args below meth c s.heap [] 0 0 (MQ below (vp_Si (fun r => r = z)) args s 0 0 (fun _ => False)) (F0 m 4 ls [])) ?_ n
    intro ih hih v2 v3 h ls hl
    unfold mM_stepsOf_F4 at h
    refine lv_iload_n C.1 C.2.1 dX1_stepsOf_4 rfl (lv_at hl 3 rfl) ?_
    refine lv_aload_n C.1 C.2.1 dX1_stepsOf_5 rfl (lv_at hl 0 rfl) ?_
    refine gX1_proofs C hK hP dX1_stepsOf_6 ?_
    refine lv_iload_n C.1 C.2.1 dX1_stepsOf_9 rfl (lv_at hl 1 rfl) ?_
    refine lX1_proofs C hK hP h dX1_stepsOf_10 (fun h => ?_)
    refine k_icmp_ge (tgt := 33) C dX1_stepsOf_11 (by decide) h (fun c11 h => ?_) (fun c11 h => ?_)
    · refine lv_iload_n C.1 C.2.1 dX1_stepsOf_33 rfl (lv_at hl 2 rfl) ?_
      exact k_iret C hr hlk h dX1_stepsOf_34
    · refine lv_iload_n C.1 C.2.1 dX1_stepsOf_14 rfl (lv_at hl 2 rfl) ?_
      refine lv_aload_n C.1 C.2.1 dX1_stepsOf_15 rfl (lv_at hl 0 rfl) ?_
      refine gX1_steps C hK hP dX1_stepsOf_16 ?_
      refine lv_iconst (v := 3) C.1 C.2.1 dX1_stepsOf_19 (by decide) ?_
      refine lv_iload_n C.1 C.2.1 dX1_stepsOf_20 rfl (lv_at hl 1 rfl) ?_
      refine lv_imul C.1 C.2.1 dX1_stepsOf_21 ?_
      refine lv_iload_n C.1 C.2.1 dX1_stepsOf_22 rfl (lv_at hl 3 rfl) ?_
      refine lv_iadd C.1 C.2.1 dX1_stepsOf_23 ?_
      refine lX1_steps C hK hP h dX1_stepsOf_24 (fun h => ?_)
      refine lv_iadd C.1 C.2.1 dX1_stepsOf_25 ?_
      refine lv_istore_n (lv' := [(2, .int (v2 + (S 3 (((3 * v1) + v3) : Int32).toNatClampNeg))), (0, .ref (a 0)), (1, .int v1), (3, .int v3)]) C.1 C.2.1 dX1_stepsOf_26 rfl hl (by decide) rfl (fun ls hl => ?_)
      refine lv_iinc (v := (v3 + 1)) (lv' := [(3, .int (v3 + 1)), (2, .int (v2 + (S 3 (((3 * v1) + v3) : Int32).toNatClampNeg))), (0, .ref (a 0)), (1, .int v1)]) C.1 C.2.1 dX1_stepsOf_27 hl (k := 3) rfl rfl (by decide) rfl (fun ls hl => ?_)
      refine lv_goto (tgt := 4) C.1 C.2.1 dX1_stepsOf_30 (by decide) ?_
      exact hih (v2 + (S 3 (((3 * v1) + v3) : Int32).toNatClampNeg)) (v3 + 1) h ls (lv_sub hl [2, 3, 1, 0] rfl)
  unfold mM_stepsOf at h
  refine lv_iconst (v := 0) C.1 C.2.1 dX1_stepsOf_0 (by decide) ?_
  refine lv_istore_n (lv' := [(2, .int 0), (0, .ref (a 0)), (1, .int v1)]) C.1 C.2.1 dX1_stepsOf_1 rfl hl (by decide) rfl (fun ls hl => ?_)
  refine lv_iconst (v := 0) C.1 C.2.1 dX1_stepsOf_2 (by decide) ?_
  refine lv_istore_n (lv' := [(3, .int 0), (2, .int 0), (0, .ref (a 0)), (1, .int v1)]) C.1 C.2.1 dX1_stepsOf_3 rfl hl (by decide) rfl (fun ls hl => ?_)
  exact L4 v1 _ 0 0 h ls (lv_sub hl [2, 3, 1, 0] rfl)
set_option maxHeartbeats 4000000 in
set_option maxRecDepth 100000 in
theorem tX1_does {l : Launch} {D : va_G} {cI cZ : ClassId} {a : Nat → Nat} {S : XS} {v1 : Int32} {v2 : Int32} {v3 : Int32} {z : Int32} (h : mM_does S v1 v2 v3 = some z) : Met l yX1_does (Cond.code yX1_does cX1_does 4 (some .boolean) :: WW) ({ frames := 0, cells := 0, slots := 0, locals := 0 }) (va_Pc [.ref (a 0), .int v1, .int v2, .int v3] (roP D (wM cI cZ a S) (tyIZ cI cZ))) (vp_Si (fun r => r = z)) 0 0 (fun _ => False) := by
  refine RO_of (own := RX1) (by decide) rfl (Nat.le_of_ble_eq_true rfl) ?_
  intro p e s m args below meth c ha C hr hlk hP hK ls hl
  have hl : lv_has ls 4 [(0, .ref (a 0)), (1, .int v1), (2, .int v2), (3, .int v3)] := hl
  unfold mM_does at h
  refine lv_aload_n C.1 C.2.1 dX1_does_0 rfl (lv_at hl 0 rfl) ?_
  refine gX1_kind C hK hP dX1_does_1 ?_
  refine lv_iload_n C.1 C.2.1 dX1_does_4 rfl (lv_at hl 1 rfl) ?_
  refine lX1_kind C hK hP h dX1_does_5 (fun h => ?_)
  by_cases c6_0 : ((S 4 (v1 : Int32).toNatClampNeg) : Int32) = 0
  · have h := it_h h c6_0
    refine lv_lookup (off := 26) (tgt := 32) C.1 C.2.1 dX1_does_6 (by decide) (by rw [c6_0]; decide) (by decide) ?_
    refine lv_aload_n C.1 C.2.1 dX1_does_32 rfl (lv_at hl 0 rfl) ?_
    refine gX1_taken C hK hP dX1_does_33 ?_
    refine lv_aload_n C.1 C.2.1 dX1_does_36 rfl (lv_at hl 0 rfl) ?_
    refine gX1_cited C hK hP dX1_does_37 ?_
    refine lv_iload_n C.1 C.2.1 dX1_does_40 rfl (lv_at hl 1 rfl) ?_
    refine lX1_cited C hK hP h dX1_does_41 (fun h => ?_)
    refine lX1_taken C hK hP h dX1_does_42 (fun h => ?_)
    exact k_zret C hr hlk h dX1_does_43
  · have h := if_h h c6_0
    by_cases c6_1 : ((S 4 (v1 : Int32).toNatClampNeg) : Int32) = 1
    · have h := it_h h c6_1
      refine lv_lookup (off := 38) (tgt := 44) C.1 C.2.1 dX1_does_6 (by decide) (by rw [c6_1]; decide) (by decide) ?_
      refine lv_aload_n C.1 C.2.1 dX1_does_44 rfl (lv_at hl 0 rfl) ?_
      refine gX1_cited C hK hP dX1_does_45 ?_
      refine lv_iload_n C.1 C.2.1 dX1_does_48 rfl (lv_at hl 1 rfl) ?_
      refine lX1_cited C hK hP h dX1_does_49 (fun h => ?_)
      refine lv_iload_n C.1 C.2.1 dX1_does_50 rfl (lv_at hl 3 rfl) ?_
      refine k_icmp_eq (tgt := 87) C dX1_does_51 (by decide) h (fun c51 h => ?_) (fun c51 h => ?_)
      · refine lv_iconst (v := 0) C.1 C.2.1 dX1_does_87 (by decide) ?_
        exact k_zret C hr hlk h dX1_does_88
      · refine lv_aload_n C.1 C.2.1 dX1_does_54 rfl (lv_at hl 0 rfl) ?_
        refine gX1_stage C hK hP dX1_does_55 ?_
        refine lv_aload_n C.1 C.2.1 dX1_does_58 rfl (lv_at hl 0 rfl) ?_
        refine gX1_cited C hK hP dX1_does_59 ?_
        refine lv_iload_n C.1 C.2.1 dX1_does_62 rfl (lv_at hl 1 rfl) ?_
        refine lX1_cited C hK hP h dX1_does_63 (fun h => ?_)
        refine lX1_stage C hK hP h dX1_does_64 (fun h => ?_)
        refine k_if_le (tgt := 87) C dX1_does_65 (by decide) h (fun c65 h => ?_) (fun c65 h => ?_)
        · refine lv_iconst (v := 0) C.1 C.2.1 dX1_does_87 (by decide) ?_
          exact k_zret C hr hlk h dX1_does_88
        · refine lv_aload_n C.1 C.2.1 dX1_does_68 rfl (lv_at hl 0 rfl) ?_
          refine gX1_stage C hK hP dX1_does_69 ?_
          refine lv_aload_n C.1 C.2.1 dX1_does_72 rfl (lv_at hl 0 rfl) ?_
          refine gX1_cited C hK hP dX1_does_73 ?_
          refine lv_iload_n C.1 C.2.1 dX1_does_76 rfl (lv_at hl 1 rfl) ?_
          refine lX1_cited C hK hP h dX1_does_77 (fun h => ?_)
          refine lX1_stage C hK hP h dX1_does_78 (fun h => ?_)
          refine lv_iload_n C.1 C.2.1 dX1_does_79 rfl (lv_at hl 2 rfl) ?_
          refine k_icmp_ge (tgt := 87) C dX1_does_80 (by decide) h (fun c80 h => ?_) (fun c80 h => ?_)
          · refine lv_iconst (v := 0) C.1 C.2.1 dX1_does_87 (by decide) ?_
            exact k_zret C hr hlk h dX1_does_88
          · refine lv_iconst (v := 1) C.1 C.2.1 dX1_does_83 (by decide) ?_
            refine lv_goto (tgt := 88) C.1 C.2.1 dX1_does_84 (by decide) ?_
            exact k_zret C hr hlk h dX1_does_88
    · have h := if_h h c6_1
      refine lv_lookup (off := 83) (tgt := 89) C.1 C.2.1 dX1_does_6 (by decide) ((lv_osw c6_0 (by decide)).trans ((lv_osw c6_1 (by decide)).trans rfl)) (by decide) ?_
      refine lv_aload_n C.1 C.2.1 dX1_does_89 rfl (lv_at hl 0 rfl) ?_
      refine gX1_open C hK hP dX1_does_90 ?_
      refine lv_iload_n C.1 C.2.1 dX1_does_93 rfl (lv_at hl 1 rfl) ?_
      refine lX1_open C hK hP h dX1_does_94 (fun h => ?_)
      refine k_if_ne (tgt := 102) C dX1_does_95 (by decide) h (fun c95 h => ?_) (fun c95 h => ?_)
      · refine lv_iconst (v := 0) C.1 C.2.1 dX1_does_102 (by decide) ?_
        exact k_zret C hr hlk h dX1_does_103
      · refine lv_iconst (v := 1) C.1 C.2.1 dX1_does_98 (by decide) ?_
        refine lv_goto (tgt := 103) C.1 C.2.1 dX1_does_99 (by decide) ?_
        exact k_zret C hr hlk h dX1_does_103
set_option maxHeartbeats 4000000 in
set_option maxRecDepth 100000 in
theorem tX1_holds {l : Launch} {D : va_G} {cI cZ : ClassId} {a : Nat → Nat} {S : XS} {v1 : Int32} {v2 : Int32} {v3 : Int32} {v4 : Int32} {z : Int32} (h : mM_holds S v1 v2 v3 v4 = some z) : Met l yX1_holds (Cond.code yX1_holds cX1_holds 6 (some .boolean) :: WW) ({ frames := 2, cells := 0, slots := 0, locals := 45 }) (va_Pc [.ref (a 0), .int v1, .int v2, .int v3, .int v4] (roP D (wM cI cZ a S) (tyIZ cI cZ))) (vp_Si (fun r => r = z)) 0 0 (fun _ => False) := by
  refine RO_of (own := RX1) (by decide) rfl (Nat.le_of_ble_eq_true rfl) ?_
  intro p e s m args below meth c ha C hr hlk hP hK ls hl
  have hl : lv_has ls 6 [(0, .ref (a 0)), (1, .int v1), (2, .int v2), (3, .int v3), (4, .int v4)] := hl
  have L14 : ∀ (v1 : Int32) (v2 : Int32) (v3 : Int32) (v4 : Int32) (n : Nat) (v5 : Int32), itr1 (mM_holds_F14 S v1 v2 v3 v4) n v5 = some z → ∀ ls : Array Slot, lv_has ls 6 [(0, .ref (a 0)), (1, .int v1), (2, .int v2), (3, .int v3), (4, .int v4), (5, .int v5)] → W p l e { frames := 2, cells := 0, slots := 0, locals := 45 } s m args below meth c s.heap [] 0 0 (MQ below (vp_Si (fun r => r = z)) args s 0 0 (fun _ => False)) (F0 m 14 ls []) := by
    intro v1 v2 v3 v4 n
    refine itr1_ind (fun (v5 : Int32) => ∀ ls : Array Slot, lv_has ls 6 [(0, .ref (a 0)), (1, .int v1), (2, .int v2), (3, .int v3), (4, .int v4), (5, .int v5)] → W p l e { frames := 2, cells := 0, slots := 0, locals := 45 } s m args below meth c s.heap [] 0 0 (MQ below (vp_Si (fun r => r = z)) args s 0 0 (fun _ => False)) (F0 m 14 ls [])) ?_ n
    intro ih hih v5 h ls hl
    unfold mM_holds_F14 at h
    refine lv_iload C.1 C.2.1 dX1_holds_14 (lv_at hl 5 rfl) ?_
    refine lv_aload_n C.1 C.2.1 dX1_holds_16 rfl (lv_at hl 0 rfl) ?_
    refine gX1_steps C hK hP dX1_holds_17 ?_
    refine lv_iconst (v := 3) C.1 C.2.1 dX1_holds_20 (by decide) ?_
    refine lv_iload_n C.1 C.2.1 dX1_holds_21 rfl (lv_at hl 1 rfl) ?_
    refine lv_imul C.1 C.2.1 dX1_holds_22 ?_
    refine lv_iload_n C.1 C.2.1 dX1_holds_23 rfl (lv_at hl 2 rfl) ?_
    refine lv_iadd C.1 C.2.1 dX1_holds_24 ?_
    refine lX1_steps C hK hP h dX1_holds_25 (fun h => ?_)
    refine k_icmp_ge (tgt := 54) C dX1_holds_26 (by decide) h (fun c26 h => ?_) (fun c26 h => ?_)
    · refine lv_iconst (v := 1) C.1 C.2.1 dX1_holds_54 (by decide) ?_
      exact k_zret C hr hlk h dX1_holds_55
    · refine lv_aload_n C.1 C.2.1 dX1_holds_29 rfl (lv_at hl 0 rfl) ?_
      refine lv_iload_n C.1 C.2.1 dX1_holds_30 rfl (lv_at hl 1 rfl) ?_
      refine lv_iload_n C.1 C.2.1 dX1_holds_31 rfl (lv_at hl 2 rfl) ?_
      refine lv_iload C.1 C.2.1 dX1_holds_32 (lv_at hl 5 rfl) ?_
      refine k_prS C [.int v1, .int v2, .int v5] h (fun v e => tX1_at e) (cb_X1_63 C.2.2.2.2 ⟨Nat.le_of_ble_eq_true rfl, Nat.le_of_ble_eq_true rfl⟩) rfl hl.1 (Nat.le_of_ble_eq_true rfl) ⟨Nat.le_of_ble_eq_true rfl, Nat.le_of_ble_eq_true rfl⟩ dX1_holds_34 rfl (fun x34 e34 h => ?_)
      refine lv_iload_n C.1 C.2.1 dX1_holds_37 rfl (lv_at hl 3 rfl) ?_
      refine lv_iload C.1 C.2.1 dX1_holds_38 (lv_at hl 4 rfl) ?_
      refine k_roVi C hK hP [.int x34, .int v3, .int v4] (wM_rv hK hP) h (fun v e => tX1_does e) (cb_X1_70 C.2.2.2.2 ⟨Nat.le_of_ble_eq_true rfl, Nat.le_of_ble_eq_true rfl⟩) rfl hl.1 (Nat.le_of_ble_eq_true rfl) ⟨Nat.le_of_ble_eq_true rfl, Nat.le_of_ble_eq_true rfl⟩ dX1_holds_40 rfl (fun x40 e40 h => ?_)
      refine k_if_ne (tgt := 48) C dX1_holds_43 (by decide) h (fun c43 h => ?_) (fun c43 h => ?_)
      · refine lv_iinc (v := (v5 + 1)) (lv' := [(5, .int (v5 + 1)), (0, .ref (a 0)), (1, .int v1), (2, .int v2), (3, .int v3), (4, .int v4)]) C.1 C.2.1 dX1_holds_48 hl (k := 5) rfl rfl (by decide) rfl (fun ls hl => ?_)
        refine lv_goto (tgt := 14) C.1 C.2.1 dX1_holds_51 (by decide) ?_
        exact hih (v5 + 1) h ls (lv_sub hl [1, 2, 3, 4, 5, 0] rfl)
      · refine lv_iconst (v := 0) C.1 C.2.1 dX1_holds_46 (by decide) ?_
        exact k_zret C hr hlk h dX1_holds_47
  unfold mM_holds at h
  refine lv_aload_n C.1 C.2.1 dX1_holds_0 rfl (lv_at hl 0 rfl) ?_
  refine lv_iload_n C.1 C.2.1 dX1_holds_1 rfl (lv_at hl 1 rfl) ?_
  refine lv_iload_n C.1 C.2.1 dX1_holds_2 rfl (lv_at hl 2 rfl) ?_
  refine k_roVi C hK hP [.int v1, .int v2] (wM_rv hK hP) h (fun v e => tX1_isWhole e) (cb_X1_67 C.2.2.2.2 ⟨Nat.le_of_ble_eq_true rfl, Nat.le_of_ble_eq_true rfl⟩) rfl hl.1 (Nat.le_of_ble_eq_true rfl) ⟨Nat.le_of_ble_eq_true rfl, Nat.le_of_ble_eq_true rfl⟩ dX1_holds_3 rfl (fun x3 e3 h => ?_)
  refine k_if_ne (tgt := 11) C dX1_holds_6 (by decide) h (fun c6 h => ?_) (fun c6 h => ?_)
  · refine lv_iconst (v := 0) C.1 C.2.1 dX1_holds_11 (by decide) ?_
    refine lv_istore (lv' := [(5, .int 0), (0, .ref (a 0)), (1, .int v1), (2, .int v2), (3, .int v3), (4, .int v4)]) C.1 C.2.1 dX1_holds_12 hl (by decide) rfl (fun ls hl => ?_)
    exact L14 v1 v2 v3 v4 _ 0 h ls (lv_sub hl [1, 2, 3, 4, 5, 0] rfl)
  · refine lv_iconst (v := 0) C.1 C.2.1 dX1_holds_9 (by decide) ?_
    exact k_zret C hr hlk h dX1_holds_10
set_option maxHeartbeats 4000000 in
set_option maxRecDepth 100000 in
theorem tX1_hasProof {l : Launch} {D : va_G} {cI cZ : ClassId} {a : Nat → Nat} {S : XS} {v1 : Int32} {v2 : Int32} {v3 : Int32} {z : Int32} (h : mM_hasProof S v1 v2 v3 = some z) : Met l yX1_hasProof (Cond.code yX1_hasProof cX1_hasProof 5 (some .boolean) :: WW) ({ frames := 3, cells := 0, slots := 0, locals := 70 }) (va_Pc [.ref (a 0), .int v1, .int v2, .int v3] (roP D (wM cI cZ a S) (tyIZ cI cZ))) (vp_Si (fun r => r = z)) 0 0 (fun _ => False) := by
  refine RO_of (own := RX1) (by decide) rfl (Nat.le_of_ble_eq_true rfl) ?_
  intro p e s m args below meth c ha C hr hlk hP hK ls hl
  have hl : lv_has ls 5 [(0, .ref (a 0)), (1, .int v1), (2, .int v2), (3, .int v3)] := hl
  have L3 : ∀ (v1 : Int32) (v2 : Int32) (v3 : Int32) (n : Nat) (v4 : Int32), itr1 (mM_hasProof_F3 S v1 v2 v3) n v4 = some z → ∀ ls : Array Slot, lv_has ls 5 [(0, .ref (a 0)), (1, .int v1), (2, .int v2), (3, .int v3), (4, .int v4)] → W p l e { frames := 3, cells := 0, slots := 0, locals := 70 } s m args below meth c s.heap [] 0 0 (MQ below (vp_Si (fun r => r = z)) args s 0 0 (fun _ => False)) (F0 m 3 ls []) := by
    intro v1 v2 v3 n
    refine itr1_ind (fun (v4 : Int32) => ∀ ls : Array Slot, lv_has ls 5 [(0, .ref (a 0)), (1, .int v1), (2, .int v2), (3, .int v3), (4, .int v4)] → W p l e { frames := 3, cells := 0, slots := 0, locals := 70 } s m args below meth c s.heap [] 0 0 (MQ below (vp_Si (fun r => r = z)) args s 0 0 (fun _ => False)) (F0 m 3 ls [])) ?_ n
    intro ih hih v4 h ls hl
    unfold mM_hasProof_F3 at h
    refine lv_iload C.1 C.2.1 dX1_hasProof_3 (lv_at hl 4 rfl) ?_
    refine lv_aload_n C.1 C.2.1 dX1_hasProof_5 rfl (lv_at hl 0 rfl) ?_
    refine gX1_proofs C hK hP dX1_hasProof_6 ?_
    refine lv_iload_n C.1 C.2.1 dX1_hasProof_9 rfl (lv_at hl 1 rfl) ?_
    refine lX1_proofs C hK hP h dX1_hasProof_10 (fun h => ?_)
    refine k_icmp_ge (tgt := 34) C dX1_hasProof_11 (by decide) h (fun c11 h => ?_) (fun c11 h => ?_)
    · refine lv_iconst (v := 0) C.1 C.2.1 dX1_hasProof_34 (by decide) ?_
      exact k_zret C hr hlk h dX1_hasProof_35
    · refine lv_aload_n C.1 C.2.1 dX1_hasProof_14 rfl (lv_at hl 0 rfl) ?_
      refine lv_iload_n C.1 C.2.1 dX1_hasProof_15 rfl (lv_at hl 1 rfl) ?_
      refine lv_iload C.1 C.2.1 dX1_hasProof_16 (lv_at hl 4 rfl) ?_
      refine lv_iload_n C.1 C.2.1 dX1_hasProof_18 rfl (lv_at hl 2 rfl) ?_
      refine lv_iload_n C.1 C.2.1 dX1_hasProof_19 rfl (lv_at hl 3 rfl) ?_
      refine k_roVi C hK hP [.int v1, .int v4, .int v2, .int v3] (wM_rv hK hP) h (fun v e => tX1_holds e) (cb_X1_73 C.2.2.2.2 ⟨Nat.le_of_ble_eq_true rfl, Nat.le_of_ble_eq_true rfl⟩) rfl hl.1 (Nat.le_of_ble_eq_true rfl) ⟨Nat.le_of_ble_eq_true rfl, Nat.le_of_ble_eq_true rfl⟩ dX1_hasProof_20 rfl (fun x20 e20 h => ?_)
      refine k_if_eq (tgt := 28) C dX1_hasProof_23 (by decide) h (fun c23 h => ?_) (fun c23 h => ?_)
      · refine lv_iinc (v := (v4 + 1)) (lv' := [(4, .int (v4 + 1)), (0, .ref (a 0)), (1, .int v1), (2, .int v2), (3, .int v3)]) C.1 C.2.1 dX1_hasProof_28 hl (k := 4) rfl rfl (by decide) rfl (fun ls hl => ?_)
        refine lv_goto (tgt := 3) C.1 C.2.1 dX1_hasProof_31 (by decide) ?_
        exact hih (v4 + 1) h ls (lv_sub hl [1, 2, 3, 4, 0] rfl)
      · refine lv_iconst (v := 1) C.1 C.2.1 dX1_hasProof_26 (by decide) ?_
        exact k_zret C hr hlk h dX1_hasProof_27
  unfold mM_hasProof at h
  refine lv_iconst (v := 0) C.1 C.2.1 dX1_hasProof_0 (by decide) ?_
  refine lv_istore (lv' := [(4, .int 0), (0, .ref (a 0)), (1, .int v1), (2, .int v2), (3, .int v3)]) C.1 C.2.1 dX1_hasProof_1 hl (by decide) rfl (fun ls hl => ?_)
  exact L3 v1 v2 v3 _ 0 h ls (lv_sub hl [1, 2, 3, 4, 0] rfl)
set_option maxHeartbeats 4000000 in
set_option maxRecDepth 100000 in
theorem tX1_prove {l : Launch} {D : va_G} {cI cZ : ClassId} {a : Nat → Nat} {S : XS} {sz : Nat} {v1 : Int32} {z : (Int32 × XS)} (h : mM_prove S v1 = some z) : Met l yX1_prove (Cond.code yX1_prove cX1_prove 6 (some .int) :: WW) ({ frames := 4, cells := 0, slots := 0, locals := 94 }) (va_Pc [.ref (a 0), .int v1] (rwP D (wM cI cZ a S) (tyIZ cI cZ) sz)) (rwQi D (wM cI cZ a z.2) z.1 (va_A (wM cI cZ a S) sz)) 0 0 (va_A (wM cI cZ a S) sz) := by
  refine RW_of (own := RX1) (Qc := fun A => rwQi D (wM cI cZ a z.2) z.1 A) (by decide) rfl (Nat.le_of_ble_eq_true rfl) ?_
  intro p e s m args below meth c A ha C hr hlk hP hK hD hA ls hl
  have hS : va_S A s.heap s.heap [] := va_S.rf
  have hl : lv_has ls 6 [(0, .ref (a 0)), (1, .int v1)] := hl
  have L40 : ∀ (v1 : Int32) (v3 : Int32) (v4 : Int32) (k : XS → Int32 → Int32 → Int32 → Option (Int32 × XS)) (hk : ∀ (S : XS) (v2 : Int32) (v3 : Int32) (v4 : Int32), k S v2 v3 v4 = some z → ∀ (H : Heap) (locs : List Loc) (hP : va_P D vwCl (wM cI cZ a S) H) (hD : va_D A (wM cI cZ a S)) (hS : va_S A s.heap H locs) (ls : Array Slot), lv_has ls 6 [(0, .ref (a 0)), (1, .int v1), (2, .int v2), (3, .int v3), (4, .int v4)] → W p l e { frames := 4, cells := 0, slots := 0, locals := 94 } s m args below meth c H locs 0 0 (MQ below (rwQi D (wM cI cZ a z.2) z.1 A) args s 0 0 A) (F0 m 30 ls [])) (n : Nat) (S : XS) (v2 : Int32) (v5 : Int32), itr3 (mM_prove_F40 k v1 v3 v4) n S v2 v5 = some z → ∀ (H : Heap) (locs : List Loc) (hP : va_P D vwCl (wM cI cZ a S) H) (hD : va_D A (wM cI cZ a S)) (hS : va_S A s.heap H locs) (ls : Array Slot), lv_has ls 6 [(0, .ref (a 0)), (1, .int v1), (2, .int v2), (3, .int v3), (4, .int v4), (5, .int v5)] → W p l e { frames := 4, cells := 0, slots := 0, locals := 94 } s m args below meth c H locs 0 0 (MQ below (rwQi D (wM cI cZ a z.2) z.1 A) args s 0 0 A) (F0 m 40 ls []) := by
    intro v1 v3 v4 k hk n
    refine itr3_ind (fun (S : XS) (v2 : Int32) (v5 : Int32) => ∀ (H : Heap) (locs : List Loc) (hP : va_P D vwCl (wM cI cZ a S) H) (hD : va_D A (wM cI cZ a S)) (hS : va_S A s.heap H locs) (ls : Array Slot), lv_has ls 6 [(0, .ref (a 0)), (1, .int v1), (2, .int v2), (3, .int v3), (4, .int v4), (5, .int v5)] → W p l e { frames := 4, cells := 0, slots := 0, locals := 94 } s m args below meth c H locs 0 0 (MQ below (rwQi D (wM cI cZ a z.2) z.1 A) args s 0 0 A) (F0 m 40 ls [])) ?_ n
    intro ih hih S v2 v5 h H locs hP hD hS ls hl
    unfold mM_prove_F40 at h
    refine lv_iload C.1 C.2.1 dX1_prove_40 (lv_at hl 5 rfl) ?_
    refine lv_aload_n C.1 C.2.1 dX1_prove_42 rfl (lv_at hl 0 rfl) ?_
    refine gX1_lemmas C hK hP dX1_prove_43 ?_
    refine k_icmp_ge (tgt := 98) C dX1_prove_46 (by decide) h (fun c46 h => ?_) (fun c46 h => ?_)
    · refine lv_iinc (v := (v4 + 1)) (lv' := [(4, .int (v4 + 1)), (0, .ref (a 0)), (1, .int v1), (2, .int v2), (3, .int v3), (5, .int v5)]) C.1 C.2.1 dX1_prove_98 hl (k := 4) rfl rfl (by decide) rfl (fun ls hl => ?_)
      refine lv_goto (tgt := 30) C.1 C.2.1 dX1_prove_101 (by decide) ?_
      exact hk S v2 v3 (v4 + 1) h _ _ hP hD hS ls (lv_sub hl [1, 2, 3, 4, 0] rfl)
    · refine lv_iload C.1 C.2.1 dX1_prove_49 (lv_at hl 5 rfl) ?_
      refine lv_iload_n C.1 C.2.1 dX1_prove_51 rfl (lv_at hl 1 rfl) ?_
      refine k_icmp_eq (tgt := 92) C dX1_prove_52 (by decide) h (fun c52 h => ?_) (fun c52 h => ?_)
      · refine lv_iinc (v := (v5 + 1)) (lv' := [(5, .int (v5 + 1)), (0, .ref (a 0)), (1, .int v1), (2, .int v2), (3, .int v3), (4, .int v4)]) C.1 C.2.1 dX1_prove_92 hl (k := 5) rfl rfl (by decide) rfl (fun ls hl => ?_)
        refine lv_goto (tgt := 40) C.1 C.2.1 dX1_prove_95 (by decide) ?_
        exact hih S v2 (v5 + 1) h _ _ hP hD hS ls (lv_sub hl [1, 2, 3, 4, 5, 0] rfl)
      · refine lv_aload_n C.1 C.2.1 dX1_prove_55 rfl (lv_at hl 0 rfl) ?_
        refine gX1_stage C hK hP dX1_prove_56 ?_
        refine lv_iload C.1 C.2.1 dX1_prove_59 (lv_at hl 5 rfl) ?_
        refine lX1_stage C hK hP h dX1_prove_61 (fun h => ?_)
        refine k_if_gt (tgt := 92) C dX1_prove_62 (by decide) h (fun c62 h => ?_) (fun c62 h => ?_)
        · refine lv_iinc (v := (v5 + 1)) (lv' := [(5, .int (v5 + 1)), (0, .ref (a 0)), (1, .int v1), (2, .int v2), (3, .int v3), (4, .int v4)]) C.1 C.2.1 dX1_prove_92 hl (k := 5) rfl rfl (by decide) rfl (fun ls hl => ?_)
          refine lv_goto (tgt := 40) C.1 C.2.1 dX1_prove_95 (by decide) ?_
          exact hih S v2 (v5 + 1) h _ _ hP hD hS ls (lv_sub hl [1, 2, 3, 4, 5, 0] rfl)
        · refine lv_aload_n C.1 C.2.1 dX1_prove_65 rfl (lv_at hl 0 rfl) ?_
          refine lv_iload C.1 C.2.1 dX1_prove_66 (lv_at hl 5 rfl) ?_
          refine lv_iload C.1 C.2.1 dX1_prove_68 (lv_at hl 4 rfl) ?_
          refine lv_iload_n C.1 C.2.1 dX1_prove_70 rfl (lv_at hl 1 rfl) ?_
          refine k_roVi C hK hP [.int v5, .int v4, .int v1] (wM_rv hK hP) h (fun v e => tX1_hasProof e) (cb_X1_77 C.2.2.2.2 ⟨Nat.le_of_ble_eq_true rfl, Nat.le_of_ble_eq_true rfl⟩) rfl hl.1 (Nat.le_of_ble_eq_true rfl) ⟨Nat.le_of_ble_eq_true rfl, Nat.le_of_ble_eq_true rfl⟩ dX1_prove_71 rfl (fun x71 e71 h => ?_)
          refine k_if_ne (tgt := 80) C dX1_prove_74 (by decide) h (fun c74 h => ?_) (fun c74 h => ?_)
          · refine lv_aload_n C.1 C.2.1 dX1_prove_80 rfl (lv_at hl 0 rfl) ?_
            refine gX1_stage C hK hP dX1_prove_81 ?_
            refine lv_iload C.1 C.2.1 dX1_prove_84 (lv_at hl 5 rfl) ?_
            refine lv_iload C.1 C.2.1 dX1_prove_86 (lv_at hl 4 rfl) ?_
            refine sX1_stage C hK hP hD hS h dX1_prove_88 (fun S88 H locs h hP hD hS => ?_)
            refine lv_iinc (v := (v2 + 1)) (lv' := [(2, .int (v2 + 1)), (0, .ref (a 0)), (1, .int v1), (3, .int v3), (4, .int v4), (5, .int v5)]) C.1 C.2.1 dX1_prove_89 hl (k := 2) rfl rfl (by decide) rfl (fun ls hl => ?_)
            refine lv_iinc (v := (v5 + 1)) (lv' := [(5, .int (v5 + 1)), (2, .int (v2 + 1)), (0, .ref (a 0)), (1, .int v1), (3, .int v3), (4, .int v4)]) C.1 C.2.1 dX1_prove_92 hl (k := 5) rfl rfl (by decide) rfl (fun ls hl => ?_)
            refine lv_goto (tgt := 40) C.1 C.2.1 dX1_prove_95 (by decide) ?_
            exact hih S88 (v2 + 1) (v5 + 1) h _ _ hP hD hS ls (lv_sub hl [2, 3, 1, 4, 5, 0] rfl)
          · refine lv_goto (tgt := 92) C.1 C.2.1 dX1_prove_77 (by decide) ?_
            refine lv_iinc (v := (v5 + 1)) (lv' := [(5, .int (v5 + 1)), (0, .ref (a 0)), (1, .int v1), (2, .int v2), (3, .int v3), (4, .int v4)]) C.1 C.2.1 dX1_prove_92 hl (k := 5) rfl rfl (by decide) rfl (fun ls hl => ?_)
            refine lv_goto (tgt := 40) C.1 C.2.1 dX1_prove_95 (by decide) ?_
            exact hih S v2 (v5 + 1) h _ _ hP hD hS ls (lv_sub hl [1, 2, 3, 4, 5, 0] rfl)
  have L30 : ∀ (v1 : Int32) (n : Nat) (S : XS) (v2 : Int32) (v3 : Int32) (v4 : Int32), itr4 (mM_prove_F30 v1) n S v2 v3 v4 = some z → ∀ (H : Heap) (locs : List Loc) (hP : va_P D vwCl (wM cI cZ a S) H) (hD : va_D A (wM cI cZ a S)) (hS : va_S A s.heap H locs) (ls : Array Slot), lv_has ls 6 [(0, .ref (a 0)), (1, .int v1), (2, .int v2), (3, .int v3), (4, .int v4)] → W p l e { frames := 4, cells := 0, slots := 0, locals := 94 } s m args below meth c H locs 0 0 (MQ below (rwQi D (wM cI cZ a z.2) z.1 A) args s 0 0 A) (F0 m 30 ls []) := by
    intro v1 n
    refine itr4_ind (fun (S : XS) (v2 : Int32) (v3 : Int32) (v4 : Int32) => ∀ (H : Heap) (locs : List Loc) (hP : va_P D vwCl (wM cI cZ a S) H) (hD : va_D A (wM cI cZ a S)) (hS : va_S A s.heap H locs) (ls : Array Slot), lv_has ls 6 [(0, .ref (a 0)), (1, .int v1), (2, .int v2), (3, .int v3), (4, .int v4)] → W p l e { frames := 4, cells := 0, slots := 0, locals := 94 } s m args below meth c H locs 0 0 (MQ below (rwQi D (wM cI cZ a z.2) z.1 A) args s 0 0 A) (F0 m 30 ls [])) ?_ n
    intro ih hih S v2 v3 v4 h H locs hP hD hS ls hl
    unfold mM_prove_F30 at h
    refine lv_iload_n C.1 C.2.1 dX1_prove_30 rfl (lv_at hl 3 rfl) ?_
    refine lv_iload_n C.1 C.2.1 dX1_prove_31 rfl (lv_at hl 2 rfl) ?_
    refine k_icmp_eq (tgt := 104) C dX1_prove_32 (by decide) h (fun c32 h => ?_) (fun c32 h => ?_)
    · refine lv_iload_n C.1 C.2.1 dX1_prove_104 rfl (lv_at hl 2 rfl) ?_
      exact k_iretW (w := wM cI cZ a) C hr hlk h hP hS dX1_prove_105
    · refine lv_iload_n C.1 C.2.1 dX1_prove_35 rfl (lv_at hl 2 rfl) ?_
      refine lv_istore_n (lv' := [(3, .int v2), (0, .ref (a 0)), (1, .int v1), (2, .int v2), (4, .int v4)]) C.1 C.2.1 dX1_prove_36 rfl hl (by decide) rfl (fun ls hl => ?_)
      refine lv_iconst (v := 0) C.1 C.2.1 dX1_prove_37 (by decide) ?_
      refine lv_istore (lv' := [(5, .int 0), (3, .int v2), (0, .ref (a 0)), (1, .int v1), (2, .int v2), (4, .int v4)]) C.1 C.2.1 dX1_prove_38 hl (by decide) rfl (fun ls hl => ?_)
      exact L40 v1 v2 v4 ih hih _ S v2 0 h _ _ hP hD hS ls (lv_sub hl [2, 3, 4, 1, 5, 0] rfl)
  have L2 : ∀ (v1 : Int32) (n : Nat) (S : XS) (v2 : Int32), itr2 (mM_prove_F2 v1) n S v2 = some z → ∀ (H : Heap) (locs : List Loc) (hP : va_P D vwCl (wM cI cZ a S) H) (hD : va_D A (wM cI cZ a S)) (hS : va_S A s.heap H locs) (ls : Array Slot), lv_has ls 6 [(0, .ref (a 0)), (1, .int v1), (2, .int v2)] → W p l e { frames := 4, cells := 0, slots := 0, locals := 94 } s m args below meth c H locs 0 0 (MQ below (rwQi D (wM cI cZ a z.2) z.1 A) args s 0 0 A) (F0 m 2 ls []) := by
    intro v1 n
    refine itr2_ind (fun (S : XS) (v2 : Int32) => ∀ (H : Heap) (locs : List Loc) (hP : va_P D vwCl (wM cI cZ a S) H) (hD : va_D A (wM cI cZ a S)) (hS : va_S A s.heap H locs) (ls : Array Slot), lv_has ls 6 [(0, .ref (a 0)), (1, .int v1), (2, .int v2)] → W p l e { frames := 4, cells := 0, slots := 0, locals := 94 } s m args below meth c H locs 0 0 (MQ below (rwQi D (wM cI cZ a z.2) z.1 A) args s 0 0 A) (F0 m 2 ls [])) ?_ n
    intro ih hih S v2 h H locs hP hD hS ls hl
    unfold mM_prove_F2 at h
    refine lv_iload_n C.1 C.2.1 dX1_prove_2 rfl (lv_at hl 2 rfl) ?_
    refine lv_aload_n C.1 C.2.1 dX1_prove_3 rfl (lv_at hl 0 rfl) ?_
    refine gX1_lemmas C hK hP dX1_prove_4 ?_
    refine k_icmp_ge (tgt := 23) C dX1_prove_7 (by decide) h (fun c7 h => ?_) (fun c7 h => ?_)
    · refine lv_iconst (v := 0) C.1 C.2.1 dX1_prove_23 (by decide) ?_
      refine lv_istore_n (lv' := [(2, .int 0), (0, .ref (a 0)), (1, .int v1)]) C.1 C.2.1 dX1_prove_24 rfl hl (by decide) rfl (fun ls hl => ?_)
      refine lv_iconst (v := (-1)) C.1 C.2.1 dX1_prove_25 (by decide) ?_
      refine lv_istore_n (lv' := [(3, .int (-1)), (2, .int 0), (0, .ref (a 0)), (1, .int v1)]) C.1 C.2.1 dX1_prove_26 rfl hl (by decide) rfl (fun ls hl => ?_)
      refine lv_iconst (v := 1) C.1 C.2.1 dX1_prove_27 (by decide) ?_
      refine lv_istore (lv' := [(4, .int 1), (3, .int (-1)), (2, .int 0), (0, .ref (a 0)), (1, .int v1)]) C.1 C.2.1 dX1_prove_28 hl (by decide) rfl (fun ls hl => ?_)
      exact L30 v1 _ S 0 (-1) 1 h _ _ hP hD hS ls (lv_sub hl [3, 4, 2, 1, 0] rfl)
    · refine lv_aload_n C.1 C.2.1 dX1_prove_10 rfl (lv_at hl 0 rfl) ?_
      refine gX1_stage C hK hP dX1_prove_11 ?_
      refine lv_iload_n C.1 C.2.1 dX1_prove_14 rfl (lv_at hl 2 rfl) ?_
      refine lv_iconst (v := 0) C.1 C.2.1 dX1_prove_15 (by decide) ?_
      refine sX1_stage C hK hP hD hS h dX1_prove_16 (fun S16 H locs h hP hD hS => ?_)
      refine lv_iinc (v := (v2 + 1)) (lv' := [(2, .int (v2 + 1)), (0, .ref (a 0)), (1, .int v1)]) C.1 C.2.1 dX1_prove_17 hl (k := 2) rfl rfl (by decide) rfl (fun ls hl => ?_)
      refine lv_goto (tgt := 2) C.1 C.2.1 dX1_prove_20 (by decide) ?_
      exact hih S16 (v2 + 1) h _ _ hP hD hS ls (lv_sub hl [1, 2, 0] rfl)
  unfold mM_prove at h
  refine lv_iconst (v := 0) C.1 C.2.1 dX1_prove_0 (by decide) ?_
  refine lv_istore_n (lv' := [(2, .int 0), (0, .ref (a 0)), (1, .int v1)]) C.1 C.2.1 dX1_prove_1 rfl hl (by decide) rfl (fun ls hl => ?_)
  exact L2 v1 _ S 0 h _ _ hP hD hS ls (lv_sub hl [1, 2, 0] rfl)
set_option maxHeartbeats 4000000 in
set_option maxRecDepth 100000 in
theorem tX1_stageOf {l : Launch} {D : va_G} {cI cZ : ClassId} {a : Nat → Nat} {S : XS} {sz : Nat} {v1 : Int32} {z : (Int32 × XS)} (h : mM_stageOf S v1 = some z) : Met l yX1_stageOf (Cond.code yX1_stageOf cX1_stageOf 2 (some .int) :: WW) ({ frames := 5, cells := 0, slots := 0, locals := 119 }) (va_Pc [.ref (a 0), .int v1] (rwP D (wM cI cZ a S) (tyIZ cI cZ) sz)) (rwQi D (wM cI cZ a z.2) z.1 (va_A (wM cI cZ a S) sz)) 0 0 (va_A (wM cI cZ a S) sz) := by
  refine RW_of (own := RX1) (Qc := fun A => rwQi D (wM cI cZ a z.2) z.1 A) (by decide) rfl (Nat.le_of_ble_eq_true rfl) ?_
  intro p e s m args below meth c A ha C hr hlk hP hK hD hA ls hl
  have hS : va_S A s.heap s.heap [] := va_S.rf
  have hl : lv_has ls 2 [(0, .ref (a 0)), (1, .int v1)] := hl
  unfold mM_stageOf at h
  refine lv_aload_n C.1 C.2.1 dX1_stageOf_0 rfl (lv_at hl 0 rfl) ?_
  refine lv_iconst (v := (-1)) C.1 C.2.1 dX1_stageOf_1 (by decide) ?_
  refine k_rwVi C (wM_ad _) hK hP hD hS hA [.int (-1)] (wM_rv hK hP) h (fun v S2 e => tX1_prove e) (cb_X1_124 C.2.2.2.2 ⟨Nat.le_of_ble_eq_true rfl, Nat.le_of_ble_eq_true rfl⟩) rfl hl.1 (Nat.le_of_ble_eq_true rfl) ⟨Nat.le_of_ble_eq_true rfl, Nat.le_of_ble_eq_true rfl⟩ dX1_stageOf_2 rfl (fun x2 S2 H locs e2 h hP hD hS => ?_)
  refine lv_pop C.1 C.2.1 dX1_stageOf_5 rfl ?_
  refine lv_aload_n C.1 C.2.1 dX1_stageOf_6 rfl (lv_at hl 0 rfl) ?_
  refine gX1_stage C hK hP dX1_stageOf_7 ?_
  refine lv_iload_n C.1 C.2.1 dX1_stageOf_10 rfl (lv_at hl 1 rfl) ?_
  refine lX1_stage C hK hP h dX1_stageOf_11 (fun h => ?_)
  exact k_iretW (w := wM cI cZ a) C hr hlk h hP hS dX1_stageOf_12
set_option maxHeartbeats 4000000 in
set_option maxRecDepth 100000 in
theorem tX1_told {l : Launch} {v0 : Int32} {z : Int32} (h : mM_told v0 = some z) : Met l yX1_told (Cond.code yX1_told cX1_told 1 (some .int) :: WW) ({ frames := 0, cells := 0, slots := 0, locals := 0 }) (va_Pc [.int v0] (fun _ => True)) (vp_Si (fun r => r = z)) 0 0 (fun _ => False) := by
  refine RS_of (own := RX1) (by decide) rfl (Nat.le_of_ble_eq_true rfl) ?_
  intro p e s m args below meth c ha C hr hlk ls hl
  have hl : lv_has ls 1 [(0, .int v0)] := hl
  unfold mM_told at h
  refine lv_iload_n C.1 C.2.1 dX1_told_0 rfl (lv_at hl 0 rfl) ?_
  refine lv_sipush (v := 9999) C.1 C.2.1 dX1_told_1 (by decide) ?_
  refine k_icmp_ne (tgt := 11) C dX1_told_4 (by decide) h (fun c4 h => ?_) (fun c4 h => ?_)
  · refine lv_iload_n C.1 C.2.1 dX1_told_11 rfl (lv_at hl 0 rfl) ?_
    exact k_iret C hr hlk h dX1_told_12
  · refine lv_iconst (v := (-1)) C.1 C.2.1 dX1_told_7 (by decide) ?_
    refine lv_goto (tgt := 12) C.1 C.2.1 dX1_told_8 (by decide) ?_
    exact k_iret C hr hlk h dX1_told_12
set_option maxHeartbeats 4000000 in
set_option maxRecDepth 100000 in
theorem tX1_openOf {l : Launch} {D : va_G} {cI cZ : ClassId} {a : Nat → Nat} {S : XS} {v1 : Int32} {z : Int32} (h : mM_openOf S v1 = some z) : Met l yX1_openOf (Cond.code yX1_openOf cX1_openOf 5 (some .int) :: WW) ({ frames := 1, cells := 0, slots := 0, locals := 22 }) (va_Pc [.ref (a 0), .int v1] (roP D (wM cI cZ a S) (tyIZ cI cZ))) (vp_Si (fun r => r = z)) 0 0 (fun _ => False) := by
  refine RO_of (own := RX1) (by decide) rfl (Nat.le_of_ble_eq_true rfl) ?_
  intro p e s m args below meth c ha C hr hlk hP hK ls hl
  have hl : lv_has ls 5 [(0, .ref (a 0)), (1, .int v1)] := hl
  have L17 : ∀ (v1 : Int32) (v3 : Int32) (k : Int32 → Int32 → Option Int32) (hk : ∀ (v2 : Int32) (v3 : Int32), k v2 v3 = some z → ∀ ls : Array Slot, lv_has ls 5 [(0, .ref (a 0)), (1, .int v1), (2, .int v2), (3, .int v3)] → W p l e { frames := 1, cells := 0, slots := 0, locals := 22 } s m args below meth c s.heap [] 0 0 (MQ below (vp_Si (fun r => r = z)) args s 0 0 (fun _ => False)) (F0 m 4 ls [])) (n : Nat) (v2 : Int32) (v4 : Int32), itr2 (mM_openOf_F17 S k v1 v3) n v2 v4 = some z → ∀ ls : Array Slot, lv_has ls 5 [(0, .ref (a 0)), (1, .int v1), (2, .int v2), (3, .int v3), (4, .int v4)] → W p l e { frames := 1, cells := 0, slots := 0, locals := 22 } s m args below meth c s.heap [] 0 0 (MQ below (vp_Si (fun r => r = z)) args s 0 0 (fun _ => False)) (F0 m 17 ls []) := by
    intro v1 v3 k hk n
    refine itr2_ind (fun (v2 : Int32) (v4 : Int32) => ∀ ls : Array Slot, lv_has ls 5 [(0, .ref (a 0)), (1, .int v1), (2, .int v2), (3, .int v3), (4, .int v4)] → W p l e { frames := 1, cells := 0, slots := 0, locals := 22 } s m args below meth c s.heap [] 0 0 (MQ below (vp_Si (fun r => r = z)) args s 0 0 (fun _ => False)) (F0 m 17 ls [])) ?_ n
    intro ih hih v2 v4 h ls hl
    unfold mM_openOf_F17 at h
    refine lv_iload C.1 C.2.1 dX1_openOf_17 (lv_at hl 4 rfl) ?_
    refine lv_aload_n C.1 C.2.1 dX1_openOf_19 rfl (lv_at hl 0 rfl) ?_
    refine gX1_steps C hK hP dX1_openOf_20 ?_
    refine lv_iconst (v := 3) C.1 C.2.1 dX1_openOf_23 (by decide) ?_
    refine lv_iload_n C.1 C.2.1 dX1_openOf_24 rfl (lv_at hl 1 rfl) ?_
    refine lv_imul C.1 C.2.1 dX1_openOf_25 ?_
    refine lv_iload_n C.1 C.2.1 dX1_openOf_26 rfl (lv_at hl 3 rfl) ?_
    refine lv_iadd C.1 C.2.1 dX1_openOf_27 ?_
    refine lX1_steps C hK hP h dX1_openOf_28 (fun h => ?_)
    refine k_icmp_ge (tgt := 53) C dX1_openOf_29 (by decide) h (fun c29 h => ?_) (fun c29 h => ?_)
    · refine lv_iinc (v := (v3 + 1)) (lv' := [(3, .int (v3 + 1)), (0, .ref (a 0)), (1, .int v1), (2, .int v2), (4, .int v4)]) C.1 C.2.1 dX1_openOf_53 hl (k := 3) rfl rfl (by decide) rfl (fun ls hl => ?_)
      refine lv_goto (tgt := 4) C.1 C.2.1 dX1_openOf_56 (by decide) ?_
      exact hk v2 (v3 + 1) h ls (lv_sub hl [1, 2, 3, 0] rfl)
    · refine lv_iload_n C.1 C.2.1 dX1_openOf_32 rfl (lv_at hl 2 rfl) ?_
      refine lv_aload_n C.1 C.2.1 dX1_openOf_33 rfl (lv_at hl 0 rfl) ?_
      refine gX1_open C hK hP dX1_openOf_34 ?_
      refine lv_iload_n C.1 C.2.1 dX1_openOf_37 rfl (lv_at hl 1 rfl) ?_
      refine lv_iload_n C.1 C.2.1 dX1_openOf_38 rfl (lv_at hl 3 rfl) ?_
      refine lv_iload C.1 C.2.1 dX1_openOf_39 (lv_at hl 4 rfl) ?_
      refine k_prS C [.int v1, .int v3, .int v4] h (fun v e => tX1_at e) (cb_X1_63 C.2.2.2.2 ⟨Nat.le_of_ble_eq_true rfl, Nat.le_of_ble_eq_true rfl⟩) rfl hl.1 (Nat.le_of_ble_eq_true rfl) ⟨Nat.le_of_ble_eq_true rfl, Nat.le_of_ble_eq_true rfl⟩ dX1_openOf_41 rfl (fun x41 e41 h => ?_)
      refine lX1_open C hK hP h dX1_openOf_44 (fun h => ?_)
      refine lv_iadd C.1 C.2.1 dX1_openOf_45 ?_
      refine lv_istore_n (lv' := [(2, .int (v2 + (S 6 (x41 : Int32).toNatClampNeg))), (0, .ref (a 0)), (1, .int v1), (3, .int v3), (4, .int v4)]) C.1 C.2.1 dX1_openOf_46 rfl hl (by decide) rfl (fun ls hl => ?_)
      refine lv_iinc (v := (v4 + 1)) (lv' := [(4, .int (v4 + 1)), (2, .int (v2 + (S 6 (x41 : Int32).toNatClampNeg))), (0, .ref (a 0)), (1, .int v1), (3, .int v3)]) C.1 C.2.1 dX1_openOf_47 hl (k := 4) rfl rfl (by decide) rfl (fun ls hl => ?_)
      refine lv_goto (tgt := 17) C.1 C.2.1 dX1_openOf_50 (by decide) ?_
      exact hih (v2 + (S 6 (x41 : Int32).toNatClampNeg)) (v4 + 1) h ls (lv_sub hl [2, 3, 1, 4, 0] rfl)
  have L4 : ∀ (v1 : Int32) (n : Nat) (v2 : Int32) (v3 : Int32), itr2 (mM_openOf_F4 S v1) n v2 v3 = some z → ∀ ls : Array Slot, lv_has ls 5 [(0, .ref (a 0)), (1, .int v1), (2, .int v2), (3, .int v3)] → W p l e { frames := 1, cells := 0, slots := 0, locals := 22 } s m args below meth c s.heap [] 0 0 (MQ below (vp_Si (fun r => r = z)) args s 0 0 (fun _ => False)) (F0 m 4 ls []) := by
    intro v1 n
    refine itr2_ind (fun (v2 : Int32) (v3 : Int32) => ∀ ls : Array Slot, lv_has ls 5 [(0, .ref (a 0)), (1, .int v1), (2, .int v2), (3, .int v3)] → W p l e { frames := 1, cells := 0, slots := 0, locals := 22 } s m args below meth c s.heap [] 0 0 (MQ below (vp_Si (fun r => r = z)) args s 0 0 (fun _ => False)) (F0 m 4 ls [])) ?_ n
    intro ih hih v2 v3 h ls hl
    unfold mM_openOf_F4 at h
    refine lv_iload_n C.1 C.2.1 dX1_openOf_4 rfl (lv_at hl 3 rfl) ?_
    refine lv_aload_n C.1 C.2.1 dX1_openOf_5 rfl (lv_at hl 0 rfl) ?_
    refine gX1_proofs C hK hP dX1_openOf_6 ?_
    refine lv_iload_n C.1 C.2.1 dX1_openOf_9 rfl (lv_at hl 1 rfl) ?_
    refine lX1_proofs C hK hP h dX1_openOf_10 (fun h => ?_)
    refine k_icmp_ge (tgt := 59) C dX1_openOf_11 (by decide) h (fun c11 h => ?_) (fun c11 h => ?_)
    · refine lv_iload_n C.1 C.2.1 dX1_openOf_59 rfl (lv_at hl 2 rfl) ?_
      exact k_iret C hr hlk h dX1_openOf_60
    · refine lv_iconst (v := 0) C.1 C.2.1 dX1_openOf_14 (by decide) ?_
      refine lv_istore (lv' := [(4, .int 0), (0, .ref (a 0)), (1, .int v1), (2, .int v2), (3, .int v3)]) C.1 C.2.1 dX1_openOf_15 hl (by decide) rfl (fun ls hl => ?_)
      exact L17 v1 v3 ih hih _ v2 0 h ls (lv_sub hl [1, 2, 3, 4, 0] rfl)
  unfold mM_openOf at h
  refine lv_iconst (v := 0) C.1 C.2.1 dX1_openOf_0 (by decide) ?_
  refine lv_istore_n (lv' := [(2, .int 0), (0, .ref (a 0)), (1, .int v1)]) C.1 C.2.1 dX1_openOf_1 rfl hl (by decide) rfl (fun ls hl => ?_)
  refine lv_iconst (v := 0) C.1 C.2.1 dX1_openOf_2 (by decide) ?_
  refine lv_istore_n (lv' := [(3, .int 0), (2, .int 0), (0, .ref (a 0)), (1, .int v1)]) C.1 C.2.1 dX1_openOf_3 rfl hl (by decide) rfl (fun ls hl => ?_)
  exact L4 v1 _ 0 0 h ls (lv_sub hl [2, 3, 1, 0] rfl)
set_option maxHeartbeats 4000000 in
set_option maxRecDepth 100000 in
theorem tX1_leads {l : Launch} {D : va_G} {cI cZ : ClassId} {a : Nat → Nat} {S : XS} {v1 : Int32} {v2 : Int32} {z : Int32} (h : mM_leads S v1 v2 = some z) : Met l yX1_leads (Cond.code yX1_leads cX1_leads 5 (some .boolean) :: WW) ({ frames := 1, cells := 0, slots := 0, locals := 22 }) (va_Pc [.ref (a 0), .int v1, .int v2] (roP D (wM cI cZ a S) (tyIZ cI cZ))) (vp_Si (fun r => r = z)) 0 0 (fun _ => False) := by
  refine RO_of (own := RX1) (by decide) rfl (Nat.le_of_ble_eq_true rfl) ?_
  intro p e s m args below meth c ha C hr hlk hP hK ls hl
  have hl : lv_has ls 5 [(0, .ref (a 0)), (1, .int v1), (2, .int v2)] := hl
  have L15 : ∀ (v1 : Int32) (v2 : Int32) (v3 : Int32) (k : Int32 → Option Int32) (hk : ∀ (v3 : Int32), k v3 = some z → ∀ ls : Array Slot, lv_has ls 5 [(0, .ref (a 0)), (1, .int v1), (2, .int v2), (3, .int v3)] → W p l e { frames := 1, cells := 0, slots := 0, locals := 22 } s m args below meth c s.heap [] 0 0 (MQ below (vp_Si (fun r => r = z)) args s 0 0 (fun _ => False)) (F0 m 2 ls [])) (n : Nat) (v4 : Int32), itr1 (mM_leads_F15 S k v1 v2 v3) n v4 = some z → ∀ ls : Array Slot, lv_has ls 5 [(0, .ref (a 0)), (1, .int v1), (2, .int v2), (3, .int v3), (4, .int v4)] → W p l e { frames := 1, cells := 0, slots := 0, locals := 22 } s m args below meth c s.heap [] 0 0 (MQ below (vp_Si (fun r => r = z)) args s 0 0 (fun _ => False)) (F0 m 15 ls []) := by
    intro v1 v2 v3 k hk n
    refine itr1_ind (fun (v4 : Int32) => ∀ ls : Array Slot, lv_has ls 5 [(0, .ref (a 0)), (1, .int v1), (2, .int v2), (3, .int v3), (4, .int v4)] → W p l e { frames := 1, cells := 0, slots := 0, locals := 22 } s m args below meth c s.heap [] 0 0 (MQ below (vp_Si (fun r => r = z)) args s 0 0 (fun _ => False)) (F0 m 15 ls [])) ?_ n
    intro ih hih v4 h ls hl
    unfold mM_leads_F15 at h
    refine lv_iload C.1 C.2.1 dX1_leads_15 (lv_at hl 4 rfl) ?_
    refine lv_aload_n C.1 C.2.1 dX1_leads_17 rfl (lv_at hl 0 rfl) ?_
    refine gX1_steps C hK hP dX1_leads_18 ?_
    refine lv_iconst (v := 3) C.1 C.2.1 dX1_leads_21 (by decide) ?_
    refine lv_iload_n C.1 C.2.1 dX1_leads_22 rfl (lv_at hl 1 rfl) ?_
    refine lv_imul C.1 C.2.1 dX1_leads_23 ?_
    refine lv_iload_n C.1 C.2.1 dX1_leads_24 rfl (lv_at hl 3 rfl) ?_
    refine lv_iadd C.1 C.2.1 dX1_leads_25 ?_
    refine lX1_steps C hK hP h dX1_leads_26 (fun h => ?_)
    refine k_icmp_ge (tgt := 70) C dX1_leads_27 (by decide) h (fun c27 h => ?_) (fun c27 h => ?_)
    · refine lv_iinc (v := (v3 + 1)) (lv' := [(3, .int (v3 + 1)), (0, .ref (a 0)), (1, .int v1), (2, .int v2), (4, .int v4)]) C.1 C.2.1 dX1_leads_70 hl (k := 3) rfl rfl (by decide) rfl (fun ls hl => ?_)
      refine lv_goto (tgt := 2) C.1 C.2.1 dX1_leads_73 (by decide) ?_
      exact hk (v3 + 1) h ls (lv_sub hl [1, 2, 3, 0] rfl)
    · refine lv_aload_n C.1 C.2.1 dX1_leads_30 rfl (lv_at hl 0 rfl) ?_
      refine gX1_kind C hK hP dX1_leads_31 ?_
      refine lv_iload_n C.1 C.2.1 dX1_leads_34 rfl (lv_at hl 1 rfl) ?_
      refine lv_iload_n C.1 C.2.1 dX1_leads_35 rfl (lv_at hl 3 rfl) ?_
      refine lv_iload C.1 C.2.1 dX1_leads_36 (lv_at hl 4 rfl) ?_
      refine k_prS C [.int v1, .int v3, .int v4] h (fun v e => tX1_at e) (cb_X1_63 C.2.2.2.2 ⟨Nat.le_of_ble_eq_true rfl, Nat.le_of_ble_eq_true rfl⟩) rfl hl.1 (Nat.le_of_ble_eq_true rfl) ⟨Nat.le_of_ble_eq_true rfl, Nat.le_of_ble_eq_true rfl⟩ dX1_leads_38 rfl (fun x38 e38 h => ?_)
      refine lX1_kind C hK hP h dX1_leads_41 (fun h => ?_)
      refine lv_iconst (v := 1) C.1 C.2.1 dX1_leads_42 (by decide) ?_
      refine k_icmp_ne (tgt := 64) C dX1_leads_43 (by decide) h (fun c43 h => ?_) (fun c43 h => ?_)
      · refine lv_iinc (v := (v4 + 1)) (lv' := [(4, .int (v4 + 1)), (0, .ref (a 0)), (1, .int v1), (2, .int v2), (3, .int v3)]) C.1 C.2.1 dX1_leads_64 hl (k := 4) rfl rfl (by decide) rfl (fun ls hl => ?_)
        refine lv_goto (tgt := 15) C.1 C.2.1 dX1_leads_67 (by decide) ?_
        exact hih (v4 + 1) h ls (lv_sub hl [1, 2, 3, 4, 0] rfl)
      · refine lv_aload_n C.1 C.2.1 dX1_leads_46 rfl (lv_at hl 0 rfl) ?_
        refine gX1_cited C hK hP dX1_leads_47 ?_
        refine lv_iload_n C.1 C.2.1 dX1_leads_50 rfl (lv_at hl 1 rfl) ?_
        refine lv_iload_n C.1 C.2.1 dX1_leads_51 rfl (lv_at hl 3 rfl) ?_
        refine lv_iload C.1 C.2.1 dX1_leads_52 (lv_at hl 4 rfl) ?_
        refine k_prS C [.int v1, .int v3, .int v4] h (fun v e => tX1_at e) (cb_X1_63 C.2.2.2.2 ⟨Nat.le_of_ble_eq_true rfl, Nat.le_of_ble_eq_true rfl⟩) rfl hl.1 (Nat.le_of_ble_eq_true rfl) ⟨Nat.le_of_ble_eq_true rfl, Nat.le_of_ble_eq_true rfl⟩ dX1_leads_54 rfl (fun x54 e54 h => ?_)
        refine lX1_cited C hK hP h dX1_leads_57 (fun h => ?_)
        refine lv_iload_n C.1 C.2.1 dX1_leads_58 rfl (lv_at hl 2 rfl) ?_
        refine k_icmp_ne (tgt := 64) C dX1_leads_59 (by decide) h (fun c59 h => ?_) (fun c59 h => ?_)
        · refine lv_iinc (v := (v4 + 1)) (lv' := [(4, .int (v4 + 1)), (0, .ref (a 0)), (1, .int v1), (2, .int v2), (3, .int v3)]) C.1 C.2.1 dX1_leads_64 hl (k := 4) rfl rfl (by decide) rfl (fun ls hl => ?_)
          refine lv_goto (tgt := 15) C.1 C.2.1 dX1_leads_67 (by decide) ?_
          exact hih (v4 + 1) h ls (lv_sub hl [1, 2, 3, 4, 0] rfl)
        · refine lv_iconst (v := 1) C.1 C.2.1 dX1_leads_62 (by decide) ?_
          exact k_zret C hr hlk h dX1_leads_63
  have L2 : ∀ (v1 : Int32) (v2 : Int32) (n : Nat) (v3 : Int32), itr1 (mM_leads_F2 S v1 v2) n v3 = some z → ∀ ls : Array Slot, lv_has ls 5 [(0, .ref (a 0)), (1, .int v1), (2, .int v2), (3, .int v3)] → W p l e { frames := 1, cells := 0, slots := 0, locals := 22 } s m args below meth c s.heap [] 0 0 (MQ below (vp_Si (fun r => r = z)) args s 0 0 (fun _ => False)) (F0 m 2 ls []) := by
    intro v1 v2 n
    refine itr1_ind (fun (v3 : Int32) => ∀ ls : Array Slot, lv_has ls 5 [(0, .ref (a 0)), (1, .int v1), (2, .int v2), (3, .int v3)] → W p l e { frames := 1, cells := 0, slots := 0, locals := 22 } s m args below meth c s.heap [] 0 0 (MQ below (vp_Si (fun r => r = z)) args s 0 0 (fun _ => False)) (F0 m 2 ls [])) ?_ n
    intro ih hih v3 h ls hl
    unfold mM_leads_F2 at h
    refine lv_iload_n C.1 C.2.1 dX1_leads_2 rfl (lv_at hl 3 rfl) ?_
    refine lv_aload_n C.1 C.2.1 dX1_leads_3 rfl (lv_at hl 0 rfl) ?_
    refine gX1_proofs C hK hP dX1_leads_4 ?_
    refine lv_iload_n C.1 C.2.1 dX1_leads_7 rfl (lv_at hl 1 rfl) ?_
    refine lX1_proofs C hK hP h dX1_leads_8 (fun h => ?_)
    refine k_icmp_ge (tgt := 76) C dX1_leads_9 (by decide) h (fun c9 h => ?_) (fun c9 h => ?_)
    · refine lv_iconst (v := 0) C.1 C.2.1 dX1_leads_76 (by decide) ?_
      exact k_zret C hr hlk h dX1_leads_77
    · refine lv_iconst (v := 0) C.1 C.2.1 dX1_leads_12 (by decide) ?_
      refine lv_istore (lv' := [(4, .int 0), (0, .ref (a 0)), (1, .int v1), (2, .int v2), (3, .int v3)]) C.1 C.2.1 dX1_leads_13 hl (by decide) rfl (fun ls hl => ?_)
      exact L15 v1 v2 v3 ih hih _ 0 h ls (lv_sub hl [1, 2, 3, 4, 0] rfl)
  unfold mM_leads at h
  refine lv_iconst (v := 0) C.1 C.2.1 dX1_leads_0 (by decide) ?_
  refine lv_istore_n (lv' := [(3, .int 0), (0, .ref (a 0)), (1, .int v1), (2, .int v2)]) C.1 C.2.1 dX1_leads_1 rfl hl (by decide) rfl (fun ls hl => ?_)
  exact L2 v1 v2 _ 0 h ls (lv_sub hl [1, 2, 3, 0] rfl)
set_option maxHeartbeats 4000000 in
set_option maxRecDepth 100000 in
theorem tX1_circle {l : Launch} {D : va_G} {cI cZ : ClassId} {a : Nat → Nat} {S : XS} {sz : Nat} {v1 : Int32} {z : (Int32 × XS)} (h : mM_circle S v1 = some z) : Met l yX1_circle (Cond.code yX1_circle cX1_circle 5 (some .int) :: WW) ({ frames := 2, cells := 0, slots := 0, locals := 46 }) (va_Pc [.ref (a 0), .int v1] (rwP D (wM cI cZ a S) (tyIZ cI cZ) sz)) (rwQi D (wM cI cZ a z.2) z.1 (va_A (wM cI cZ a S) sz)) 0 0 (va_A (wM cI cZ a S) sz) := by
  refine RW_of (own := RX1) (Qc := fun A => rwQi D (wM cI cZ a z.2) z.1 A) (by decide) rfl (Nat.le_of_ble_eq_true rfl) ?_
  intro p e s m args below meth c A ha C hr hlk hP hK hD hA ls hl
  have hS : va_S A s.heap s.heap [] := va_S.rf
  have hl : lv_has ls 5 [(0, .ref (a 0)), (1, .int v1)] := hl
  have L83 : ∀ (v1 : Int32) (v2 : Int32) (v3 : Int32) (k : XS → Int32 → Option (Int32 × XS)) (hk : ∀ (S : XS) (v3 : Int32), k S v3 = some z → ∀ (H : Heap) (locs : List Loc) (hP : va_P D vwCl (wM cI cZ a S) H) (hD : va_D A (wM cI cZ a S)) (hS : va_S A s.heap H locs) (ls : Array Slot), lv_has ls 5 [(0, .ref (a 0)), (1, .int v1), (2, .int v2), (3, .int v3)] → W p l e { frames := 2, cells := 0, slots := 0, locals := 46 } s m args below meth c H locs 0 0 (MQ below (rwQi D (wM cI cZ a z.2) z.1 A) args s 0 0 A) (F0 m 57 ls [])) (n : Nat) (S : XS) (v4 : Int32), itr2 (mM_circle_F83 k v1 v2 v3) n S v4 = some z → ∀ (H : Heap) (locs : List Loc) (hP : va_P D vwCl (wM cI cZ a S) H) (hD : va_D A (wM cI cZ a S)) (hS : va_S A s.heap H locs) (ls : Array Slot), lv_has ls 5 [(0, .ref (a 0)), (1, .int v1), (2, .int v2), (3, .int v3), (4, .int v4)] → W p l e { frames := 2, cells := 0, slots := 0, locals := 46 } s m args below meth c H locs 0 0 (MQ below (rwQi D (wM cI cZ a z.2) z.1 A) args s 0 0 A) (F0 m 83 ls []) := by
    intro v1 v2 v3 k hk n
    refine itr2_ind (fun (S : XS) (v4 : Int32) => ∀ (H : Heap) (locs : List Loc) (hP : va_P D vwCl (wM cI cZ a S) H) (hD : va_D A (wM cI cZ a S)) (hS : va_S A s.heap H locs) (ls : Array Slot), lv_has ls 5 [(0, .ref (a 0)), (1, .int v1), (2, .int v2), (3, .int v3), (4, .int v4)] → W p l e { frames := 2, cells := 0, slots := 0, locals := 46 } s m args below meth c H locs 0 0 (MQ below (rwQi D (wM cI cZ a z.2) z.1 A) args s 0 0 A) (F0 m 83 ls [])) ?_ n
    intro ih hih S v4 h H locs hP hD hS ls hl
    unfold mM_circle_F83 at h
    refine lv_iload C.1 C.2.1 dX1_circle_83 (lv_at hl 4 rfl) ?_
    refine lv_aload_n C.1 C.2.1 dX1_circle_85 rfl (lv_at hl 0 rfl) ?_
    refine gX1_lemmas C hK hP dX1_circle_86 ?_
    refine k_icmp_ge (tgt := 126) C dX1_circle_89 (by decide) h (fun c89 h => ?_) (fun c89 h => ?_)
    · refine lv_iinc (v := (v3 + 1)) (lv' := [(3, .int (v3 + 1)), (0, .ref (a 0)), (1, .int v1), (2, .int v2), (4, .int v4)]) C.1 C.2.1 dX1_circle_126 hl (k := 3) rfl rfl (by decide) rfl (fun ls hl => ?_)
      refine lv_goto (tgt := 57) C.1 C.2.1 dX1_circle_129 (by decide) ?_
      exact hk S (v3 + 1) h _ _ hP hD hS ls (lv_sub hl [1, 2, 3, 0] rfl)
    · refine lv_aload_n C.1 C.2.1 dX1_circle_92 rfl (lv_at hl 0 rfl) ?_
      refine gX1_far C hK hP dX1_circle_93 ?_
      refine lv_iload C.1 C.2.1 dX1_circle_96 (lv_at hl 4 rfl) ?_
      refine lX1_far C hK hP h dX1_circle_98 (fun h => ?_)
      refine k_if_ne (tgt := 120) C dX1_circle_99 (by decide) h (fun c99 h => ?_) (fun c99 h => ?_)
      · refine lv_iinc (v := (v4 + 1)) (lv' := [(4, .int (v4 + 1)), (0, .ref (a 0)), (1, .int v1), (2, .int v2), (3, .int v3)]) C.1 C.2.1 dX1_circle_120 hl (k := 4) rfl rfl (by decide) rfl (fun ls hl => ?_)
        refine lv_goto (tgt := 83) C.1 C.2.1 dX1_circle_123 (by decide) ?_
        exact hih S (v4 + 1) h _ _ hP hD hS ls (lv_sub hl [1, 2, 3, 4, 0] rfl)
      · refine lv_aload_n C.1 C.2.1 dX1_circle_102 rfl (lv_at hl 0 rfl) ?_
        refine lv_iload_n C.1 C.2.1 dX1_circle_103 rfl (lv_at hl 3 rfl) ?_
        refine lv_iload C.1 C.2.1 dX1_circle_104 (lv_at hl 4 rfl) ?_
        refine k_roVi C hK hP [.int v3, .int v4] (wM_rv hK hP) h (fun v e => tX1_leads e) (cb_X1_98 C.2.2.2.2 ⟨Nat.le_of_ble_eq_true rfl, Nat.le_of_ble_eq_true rfl⟩) rfl hl.1 (Nat.le_of_ble_eq_true rfl) ⟨Nat.le_of_ble_eq_true rfl, Nat.le_of_ble_eq_true rfl⟩ dX1_circle_106 rfl (fun x106 e106 h => ?_)
        refine k_if_eq (tgt := 120) C dX1_circle_109 (by decide) h (fun c109 h => ?_) (fun c109 h => ?_)
        · refine lv_iinc (v := (v4 + 1)) (lv' := [(4, .int (v4 + 1)), (0, .ref (a 0)), (1, .int v1), (2, .int v2), (3, .int v3)]) C.1 C.2.1 dX1_circle_120 hl (k := 4) rfl rfl (by decide) rfl (fun ls hl => ?_)
          refine lv_goto (tgt := 83) C.1 C.2.1 dX1_circle_123 (by decide) ?_
          exact hih S (v4 + 1) h _ _ hP hD hS ls (lv_sub hl [1, 2, 3, 4, 0] rfl)
        · refine lv_aload_n C.1 C.2.1 dX1_circle_112 rfl (lv_at hl 0 rfl) ?_
          refine gX1_far C hK hP dX1_circle_113 ?_
          refine lv_iload C.1 C.2.1 dX1_circle_116 (lv_at hl 4 rfl) ?_
          refine lv_iload_n C.1 C.2.1 dX1_circle_118 rfl (lv_at hl 2 rfl) ?_
          refine sX1_far C hK hP hD hS h dX1_circle_119 (fun S119 H locs h hP hD hS => ?_)
          refine lv_iinc (v := (v4 + 1)) (lv' := [(4, .int (v4 + 1)), (0, .ref (a 0)), (1, .int v1), (2, .int v2), (3, .int v3)]) C.1 C.2.1 dX1_circle_120 hl (k := 4) rfl rfl (by decide) rfl (fun ls hl => ?_)
          refine lv_goto (tgt := 83) C.1 C.2.1 dX1_circle_123 (by decide) ?_
          exact hih S119 (v4 + 1) h _ _ hP hD hS ls (lv_sub hl [1, 2, 3, 4, 0] rfl)
  have L57 : ∀ (v1 : Int32) (v2 : Int32) (k : XS → Int32 → Option (Int32 × XS)) (hk : ∀ (S : XS) (v2 : Int32), k S v2 = some z → ∀ (H : Heap) (locs : List Loc) (hP : va_P D vwCl (wM cI cZ a S) H) (hD : va_D A (wM cI cZ a S)) (hS : va_S A s.heap H locs) (ls : Array Slot), lv_has ls 5 [(0, .ref (a 0)), (1, .int v1), (2, .int v2)] → W p l e { frames := 2, cells := 0, slots := 0, locals := 46 } s m args below meth c H locs 0 0 (MQ below (rwQi D (wM cI cZ a z.2) z.1 A) args s 0 0 A) (F0 m 38 ls [])) (n : Nat) (S : XS) (v3 : Int32), itr2 (mM_circle_F57 k v1 v2) n S v3 = some z → ∀ (H : Heap) (locs : List Loc) (hP : va_P D vwCl (wM cI cZ a S) H) (hD : va_D A (wM cI cZ a S)) (hS : va_S A s.heap H locs) (ls : Array Slot), lv_has ls 5 [(0, .ref (a 0)), (1, .int v1), (2, .int v2), (3, .int v3)] → W p l e { frames := 2, cells := 0, slots := 0, locals := 46 } s m args below meth c H locs 0 0 (MQ below (rwQi D (wM cI cZ a z.2) z.1 A) args s 0 0 A) (F0 m 57 ls []) := by
    intro v1 v2 k hk n
    refine itr2_ind (fun (S : XS) (v3 : Int32) => ∀ (H : Heap) (locs : List Loc) (hP : va_P D vwCl (wM cI cZ a S) H) (hD : va_D A (wM cI cZ a S)) (hS : va_S A s.heap H locs) (ls : Array Slot), lv_has ls 5 [(0, .ref (a 0)), (1, .int v1), (2, .int v2), (3, .int v3)] → W p l e { frames := 2, cells := 0, slots := 0, locals := 46 } s m args below meth c H locs 0 0 (MQ below (rwQi D (wM cI cZ a z.2) z.1 A) args s 0 0 A) (F0 m 57 ls [])) ?_ n
    intro ih hih S v3 h H locs hP hD hS ls hl
    unfold mM_circle_F57 at h
    refine lv_iload_n C.1 C.2.1 dX1_circle_57 rfl (lv_at hl 3 rfl) ?_
    refine lv_aload_n C.1 C.2.1 dX1_circle_58 rfl (lv_at hl 0 rfl) ?_
    refine gX1_lemmas C hK hP dX1_circle_59 ?_
    refine k_icmp_ge (tgt := 132) C dX1_circle_62 (by decide) h (fun c62 h => ?_) (fun c62 h => ?_)
    · refine lv_iinc (v := (v2 + 1)) (lv' := [(2, .int (v2 + 1)), (0, .ref (a 0)), (1, .int v1), (3, .int v3)]) C.1 C.2.1 dX1_circle_132 hl (k := 2) rfl rfl (by decide) rfl (fun ls hl => ?_)
      refine lv_goto (tgt := 38) C.1 C.2.1 dX1_circle_135 (by decide) ?_
      exact hk S (v2 + 1) h _ _ hP hD hS ls (lv_sub hl [1, 2, 0] rfl)
    · refine lv_aload_n C.1 C.2.1 dX1_circle_65 rfl (lv_at hl 0 rfl) ?_
      refine gX1_far C hK hP dX1_circle_66 ?_
      refine lv_iload_n C.1 C.2.1 dX1_circle_69 rfl (lv_at hl 3 rfl) ?_
      refine lX1_far C hK hP h dX1_circle_70 (fun h => ?_)
      refine lv_iload_n C.1 C.2.1 dX1_circle_71 rfl (lv_at hl 2 rfl) ?_
      refine lv_iconst (v := 1) C.1 C.2.1 dX1_circle_72 (by decide) ?_
      refine lv_isub C.1 C.2.1 dX1_circle_73 ?_
      refine k_icmp_eq (tgt := 80) C dX1_circle_74 (by decide) h (fun c74 h => ?_) (fun c74 h => ?_)
      · refine lv_iconst (v := 0) C.1 C.2.1 dX1_circle_80 (by decide) ?_
        refine lv_istore (lv' := [(4, .int 0), (0, .ref (a 0)), (1, .int v1), (2, .int v2), (3, .int v3)]) C.1 C.2.1 dX1_circle_81 hl (by decide) rfl (fun ls hl => ?_)
        exact L83 v1 v2 v3 ih hih _ S 0 h _ _ hP hD hS ls (lv_sub hl [1, 2, 3, 4, 0] rfl)
      · refine lv_goto (tgt := 126) C.1 C.2.1 dX1_circle_77 (by decide) ?_
        refine lv_iinc (v := (v3 + 1)) (lv' := [(3, .int (v3 + 1)), (0, .ref (a 0)), (1, .int v1), (2, .int v2)]) C.1 C.2.1 dX1_circle_126 hl (k := 3) rfl rfl (by decide) rfl (fun ls hl => ?_)
        refine lv_goto (tgt := 57) C.1 C.2.1 dX1_circle_129 (by decide) ?_
        exact hih S (v3 + 1) h _ _ hP hD hS ls (lv_sub hl [1, 2, 3, 0] rfl)
  have L38 : ∀ (v1 : Int32) (n : Nat) (S : XS) (v2 : Int32), itr2 (mM_circle_F38 v1) n S v2 = some z → ∀ (H : Heap) (locs : List Loc) (hP : va_P D vwCl (wM cI cZ a S) H) (hD : va_D A (wM cI cZ a S)) (hS : va_S A s.heap H locs) (ls : Array Slot), lv_has ls 5 [(0, .ref (a 0)), (1, .int v1), (2, .int v2)] → W p l e { frames := 2, cells := 0, slots := 0, locals := 46 } s m args below meth c H locs 0 0 (MQ below (rwQi D (wM cI cZ a z.2) z.1 A) args s 0 0 A) (F0 m 38 ls []) := by
    intro v1 n
    refine itr2_ind (fun (S : XS) (v2 : Int32) => ∀ (H : Heap) (locs : List Loc) (hP : va_P D vwCl (wM cI cZ a S) H) (hD : va_D A (wM cI cZ a S)) (hS : va_S A s.heap H locs) (ls : Array Slot), lv_has ls 5 [(0, .ref (a 0)), (1, .int v1), (2, .int v2)] → W p l e { frames := 2, cells := 0, slots := 0, locals := 46 } s m args below meth c H locs 0 0 (MQ below (rwQi D (wM cI cZ a z.2) z.1 A) args s 0 0 A) (F0 m 38 ls [])) ?_ n
    intro ih hih S v2 h H locs hP hD hS ls hl
    unfold mM_circle_F38 at h
    refine lv_iload_n C.1 C.2.1 dX1_circle_38 rfl (lv_at hl 2 rfl) ?_
    refine lv_aload_n C.1 C.2.1 dX1_circle_39 rfl (lv_at hl 0 rfl) ?_
    refine gX1_lemmas C hK hP dX1_circle_40 ?_
    refine k_icmp_gt (tgt := 138) C dX1_circle_43 (by decide) h (fun c43 h => ?_) (fun c43 h => ?_)
    · refine lv_aload_n C.1 C.2.1 dX1_circle_138 rfl (lv_at hl 0 rfl) ?_
      refine gX1_far C hK hP dX1_circle_139 ?_
      refine lv_iload_n C.1 C.2.1 dX1_circle_142 rfl (lv_at hl 1 rfl) ?_
      refine lX1_far C hK hP h dX1_circle_143 (fun h => ?_)
      exact k_iretW (w := wM cI cZ a) C hr hlk h hP hS dX1_circle_144
    · refine lv_aload_n C.1 C.2.1 dX1_circle_46 rfl (lv_at hl 0 rfl) ?_
      refine gX1_far C hK hP dX1_circle_47 ?_
      refine lv_iload_n C.1 C.2.1 dX1_circle_50 rfl (lv_at hl 1 rfl) ?_
      refine lX1_far C hK hP h dX1_circle_51 (fun h => ?_)
      refine k_if_ne (tgt := 138) C dX1_circle_52 (by decide) h (fun c52 h => ?_) (fun c52 h => ?_)
      · refine lv_aload_n C.1 C.2.1 dX1_circle_138 rfl (lv_at hl 0 rfl) ?_
        refine gX1_far C hK hP dX1_circle_139 ?_
        refine lv_iload_n C.1 C.2.1 dX1_circle_142 rfl (lv_at hl 1 rfl) ?_
        refine lX1_far C hK hP h dX1_circle_143 (fun h => ?_)
        exact k_iretW (w := wM cI cZ a) C hr hlk h hP hS dX1_circle_144
      · refine lv_iconst (v := 0) C.1 C.2.1 dX1_circle_55 (by decide) ?_
        refine lv_istore_n (lv' := [(3, .int 0), (0, .ref (a 0)), (1, .int v1), (2, .int v2)]) C.1 C.2.1 dX1_circle_56 rfl hl (by decide) rfl (fun ls hl => ?_)
        exact L57 v1 v2 ih hih _ S 0 h _ _ hP hD hS ls (lv_sub hl [1, 2, 3, 0] rfl)
  have L2 : ∀ (v1 : Int32) (n : Nat) (S : XS) (v2 : Int32), itr2 (mM_circle_F2 v1) n S v2 = some z → ∀ (H : Heap) (locs : List Loc) (hP : va_P D vwCl (wM cI cZ a S) H) (hD : va_D A (wM cI cZ a S)) (hS : va_S A s.heap H locs) (ls : Array Slot), lv_has ls 5 [(0, .ref (a 0)), (1, .int v1), (2, .int v2)] → W p l e { frames := 2, cells := 0, slots := 0, locals := 46 } s m args below meth c H locs 0 0 (MQ below (rwQi D (wM cI cZ a z.2) z.1 A) args s 0 0 A) (F0 m 2 ls []) := by
    intro v1 n
    refine itr2_ind (fun (S : XS) (v2 : Int32) => ∀ (H : Heap) (locs : List Loc) (hP : va_P D vwCl (wM cI cZ a S) H) (hD : va_D A (wM cI cZ a S)) (hS : va_S A s.heap H locs) (ls : Array Slot), lv_has ls 5 [(0, .ref (a 0)), (1, .int v1), (2, .int v2)] → W p l e { frames := 2, cells := 0, slots := 0, locals := 46 } s m args below meth c H locs 0 0 (MQ below (rwQi D (wM cI cZ a z.2) z.1 A) args s 0 0 A) (F0 m 2 ls [])) ?_ n
    intro ih hih S v2 h H locs hP hD hS ls hl
    unfold mM_circle_F2 at h
    refine lv_iload_n C.1 C.2.1 dX1_circle_2 rfl (lv_at hl 2 rfl) ?_
    refine lv_aload_n C.1 C.2.1 dX1_circle_3 rfl (lv_at hl 0 rfl) ?_
    refine gX1_lemmas C hK hP dX1_circle_4 ?_
    refine k_icmp_ge (tgt := 36) C dX1_circle_7 (by decide) h (fun c7 h => ?_) (fun c7 h => ?_)
    · refine lv_iconst (v := 2) C.1 C.2.1 dX1_circle_36 (by decide) ?_
      refine lv_istore_n (lv' := [(2, .int 2), (0, .ref (a 0)), (1, .int v1)]) C.1 C.2.1 dX1_circle_37 rfl hl (by decide) rfl (fun ls hl => ?_)
      exact L38 v1 _ S 2 h _ _ hP hD hS ls (lv_sub hl [1, 2, 0] rfl)
    · refine lv_aload_n C.1 C.2.1 dX1_circle_10 rfl (lv_at hl 0 rfl) ?_
      refine gX1_far C hK hP dX1_circle_11 ?_
      refine lv_iload_n C.1 C.2.1 dX1_circle_14 rfl (lv_at hl 2 rfl) ?_
      refine lv_aload_n C.1 C.2.1 dX1_circle_15 rfl (lv_at hl 0 rfl) ?_
      refine lv_iload_n C.1 C.2.1 dX1_circle_16 rfl (lv_at hl 1 rfl) ?_
      refine lv_iload_n C.1 C.2.1 dX1_circle_17 rfl (lv_at hl 2 rfl) ?_
      refine k_roVi C hK hP [.int v1, .int v2] (wM_rv hK hP) h (fun v e => tX1_leads e) (cb_X1_98 C.2.2.2.2 ⟨Nat.le_of_ble_eq_true rfl, Nat.le_of_ble_eq_true rfl⟩) rfl hl.1 (Nat.le_of_ble_eq_true rfl) ⟨Nat.le_of_ble_eq_true rfl, Nat.le_of_ble_eq_true rfl⟩ dX1_circle_18 rfl (fun x18 e18 h => ?_)
      refine k_if_eq (tgt := 28) C dX1_circle_21 (by decide) h (fun c21 h => ?_) (fun c21 h => ?_)
      · refine lv_iconst (v := 0) C.1 C.2.1 dX1_circle_28 (by decide) ?_
        refine sX1_far C hK hP hD hS h dX1_circle_29 (fun S29 H locs h hP hD hS => ?_)
        refine lv_iinc (v := (v2 + 1)) (lv' := [(2, .int (v2 + 1)), (0, .ref (a 0)), (1, .int v1)]) C.1 C.2.1 dX1_circle_30 hl (k := 2) rfl rfl (by decide) rfl (fun ls hl => ?_)
        refine lv_goto (tgt := 2) C.1 C.2.1 dX1_circle_33 (by decide) ?_
        exact hih S29 (v2 + 1) h _ _ hP hD hS ls (lv_sub hl [1, 2, 0] rfl)
      · refine lv_iconst (v := 1) C.1 C.2.1 dX1_circle_24 (by decide) ?_
        refine lv_goto (tgt := 29) C.1 C.2.1 dX1_circle_25 (by decide) ?_
        refine sX1_far C hK hP hD hS h dX1_circle_29 (fun S29 H locs h hP hD hS => ?_)
        refine lv_iinc (v := (v2 + 1)) (lv' := [(2, .int (v2 + 1)), (0, .ref (a 0)), (1, .int v1)]) C.1 C.2.1 dX1_circle_30 hl (k := 2) rfl rfl (by decide) rfl (fun ls hl => ?_)
        refine lv_goto (tgt := 2) C.1 C.2.1 dX1_circle_33 (by decide) ?_
        exact hih S29 (v2 + 1) h _ _ hP hD hS ls (lv_sub hl [1, 2, 0] rfl)
  unfold mM_circle at h
  refine lv_iconst (v := 0) C.1 C.2.1 dX1_circle_0 (by decide) ?_
  refine lv_istore_n (lv' := [(2, .int 0), (0, .ref (a 0)), (1, .int v1)]) C.1 C.2.1 dX1_circle_1 rfl hl (by decide) rfl (fun ls hl => ?_)
  exact L2 v1 _ S 0 h _ _ hP hD hS ls (lv_sub hl [1, 2, 0] rfl)
set_option maxHeartbeats 4000000 in
set_option maxRecDepth 100000 in
theorem tX1_lemmaTold {l : Launch} {D : va_G} {cI cZ : ClassId} {a : Nat → Nat} {S : XS} {sz : Nat} {v1 : Int32} {v2 : Int32} {z : (Int32 × XS)} (h : mM_lemmaTold S v1 v2 = some z) : Met l yX1_lemmaTold (Cond.code yX1_lemmaTold cX1_lemmaTold 3 (some .int) :: WW) ({ frames := 6, cells := 0, slots := 0, locals := 140 }) (va_Pc [.ref (a 0), .int v1, .int v2] (rwP D (wM cI cZ a S) (tyIZ cI cZ) sz)) (rwQi D (wM cI cZ a z.2) z.1 (va_A (wM cI cZ a S) sz)) 0 0 (va_A (wM cI cZ a S) sz) := by
  refine RW_of (own := RX1) (Qc := fun A => rwQi D (wM cI cZ a z.2) z.1 A) (by decide) rfl (Nat.le_of_ble_eq_true rfl) ?_
  intro p e s m args below meth c A ha C hr hlk hP hK hD hA ls hl
  have hS : va_S A s.heap s.heap [] := va_S.rf
  have hl : lv_has ls 3 [(0, .ref (a 0)), (1, .int v1), (2, .int v2)] := hl
  unfold mM_lemmaTold at h
  refine lv_aload_n C.1 C.2.1 dX1_lemmaTold_0 rfl (lv_at hl 0 rfl) ?_
  refine k_rwVv C (wM_ad _) hK hP hD hS hA [] (wM_rv hK hP) h (fun v S2 e => tX1_measure e) (cb_X1_127 C.2.2.2.2 ⟨Nat.le_of_ble_eq_true rfl, Nat.le_of_ble_eq_true rfl⟩) rfl hl.1 (Nat.le_of_ble_eq_true rfl) ⟨Nat.le_of_ble_eq_true rfl, Nat.le_of_ble_eq_true rfl⟩ dX1_lemmaTold_1 rfl (fun x1 S1 H locs e1 h hP hD hS => ?_)
  refine lv_iload_n C.1 C.2.1 dX1_lemmaTold_4 rfl (lv_at hl 2 rfl) ?_
  by_cases c5_0 : (v2 : Int32) = 0
  · have h := it_h h c5_0
    refine lv_tableIn (off := 39) (tgt := 44) C.1 C.2.1 dX1_lemmaTold_5 (by rw [c5_0]; decide) (by rw [c5_0]; decide) (by rw [c5_0]; rfl) (by decide) ?_
    refine lv_aload_n C.1 C.2.1 dX1_lemmaTold_44 rfl (lv_at hl 0 rfl) ?_
    refine gX1_proofs C hK hP dX1_lemmaTold_45 ?_
    refine lv_iload_n C.1 C.2.1 dX1_lemmaTold_48 rfl (lv_at hl 1 rfl) ?_
    refine lX1_proofs C hK hP h dX1_lemmaTold_49 (fun h => ?_)
    exact k_iretW (w := wM cI cZ a) C hr hlk h hP hS dX1_lemmaTold_50
  · have h := if_h h c5_0
    by_cases c5_1 : (v2 : Int32) = 1
    · have h := it_h h c5_1
      refine lv_tableIn (off := 46) (tgt := 51) C.1 C.2.1 dX1_lemmaTold_5 (by rw [c5_1]; decide) (by rw [c5_1]; decide) (by rw [c5_1]; rfl) (by decide) ?_
      refine lv_aload_n C.1 C.2.1 dX1_lemmaTold_51 rfl (lv_at hl 0 rfl) ?_
      refine lv_iload_n C.1 C.2.1 dX1_lemmaTold_52 rfl (lv_at hl 1 rfl) ?_
      refine k_roVi C hK hP [.int v1] (wM_rv hK hP) h (fun v e => tX1_stepsOf e) (cb_X1_130 C.2.2.2.2 ⟨Nat.le_of_ble_eq_true rfl, Nat.le_of_ble_eq_true rfl⟩) rfl hl.1 (Nat.le_of_ble_eq_true rfl) ⟨Nat.le_of_ble_eq_true rfl, Nat.le_of_ble_eq_true rfl⟩ dX1_lemmaTold_53 rfl (fun x53 e53 h => ?_)
      exact k_iretW (w := wM cI cZ a) C hr hlk h hP hS dX1_lemmaTold_56
    · have h := if_h h c5_1
      by_cases c5_2 : (v2 : Int32) = 2
      · have h := it_h h c5_2
        refine lv_tableIn (off := 52) (tgt := 57) C.1 C.2.1 dX1_lemmaTold_5 (by rw [c5_2]; decide) (by rw [c5_2]; decide) (by rw [c5_2]; rfl) (by decide) ?_
        refine lv_aload_n C.1 C.2.1 dX1_lemmaTold_57 rfl (lv_at hl 0 rfl) ?_
        refine lv_iload_n C.1 C.2.1 dX1_lemmaTold_58 rfl (lv_at hl 1 rfl) ?_
        refine k_rwVi C (wM_ad _) hK hP hD hS hA [.int v1] (wM_rv hK hP) h (fun v S2 e => tX1_stageOf e) (cb_X1_133 C.2.2.2.2 ⟨Nat.le_of_ble_eq_true rfl, Nat.le_of_ble_eq_true rfl⟩) rfl hl.1 (Nat.le_of_ble_eq_true rfl) ⟨Nat.le_of_ble_eq_true rfl, Nat.le_of_ble_eq_true rfl⟩ dX1_lemmaTold_59 rfl (fun x59 S59 H locs e59 h hP hD hS => ?_)
        exact k_iretW (w := wM cI cZ a) C hr hlk h hP hS dX1_lemmaTold_62
      · have h := if_h h c5_2
        by_cases c5_3 : (v2 : Int32) = 3
        · have h := it_h h c5_3
          refine lv_tableIn (off := 58) (tgt := 63) C.1 C.2.1 dX1_lemmaTold_5 (by rw [c5_3]; decide) (by rw [c5_3]; decide) (by rw [c5_3]; rfl) (by decide) ?_
          refine lv_aload_n C.1 C.2.1 dX1_lemmaTold_63 rfl (lv_at hl 0 rfl) ?_
          refine gX1_length C hK hP dX1_lemmaTold_64 ?_
          refine lv_iload_n C.1 C.2.1 dX1_lemmaTold_67 rfl (lv_at hl 1 rfl) ?_
          refine lX1_length C hK hP h dX1_lemmaTold_68 (fun h => ?_)
          refine k_prS C [.int (S1 9 (v1 : Int32).toNatClampNeg)] h (fun v e => tX1_told e) (cb_X1_136 C.2.2.2.2 ⟨Nat.le_of_ble_eq_true rfl, Nat.le_of_ble_eq_true rfl⟩) rfl hl.1 (Nat.le_of_ble_eq_true rfl) ⟨Nat.le_of_ble_eq_true rfl, Nat.le_of_ble_eq_true rfl⟩ dX1_lemmaTold_69 rfl (fun x69 e69 h => ?_)
          exact k_iretW (w := wM cI cZ a) C hr hlk h hP hS dX1_lemmaTold_72
        · have h := if_h h c5_3
          by_cases c5_4 : (v2 : Int32) = 4
          · have h := it_h h c5_4
            refine lv_tableIn (off := 68) (tgt := 73) C.1 C.2.1 dX1_lemmaTold_5 (by rw [c5_4]; decide) (by rw [c5_4]; decide) (by rw [c5_4]; rfl) (by decide) ?_
            refine lv_aload_n C.1 C.2.1 dX1_lemmaTold_73 rfl (lv_at hl 0 rfl) ?_
            refine gX1_price C hK hP dX1_lemmaTold_74 ?_
            refine lv_iload_n C.1 C.2.1 dX1_lemmaTold_77 rfl (lv_at hl 1 rfl) ?_
            refine lX1_price C hK hP h dX1_lemmaTold_78 (fun h => ?_)
            refine k_prS C [.int (S1 10 (v1 : Int32).toNatClampNeg)] h (fun v e => tX1_told e) (cb_X1_136 C.2.2.2.2 ⟨Nat.le_of_ble_eq_true rfl, Nat.le_of_ble_eq_true rfl⟩) rfl hl.1 (Nat.le_of_ble_eq_true rfl) ⟨Nat.le_of_ble_eq_true rfl, Nat.le_of_ble_eq_true rfl⟩ dX1_lemmaTold_79 rfl (fun x79 e79 h => ?_)
            exact k_iretW (w := wM cI cZ a) C hr hlk h hP hS dX1_lemmaTold_82
          · have h := if_h h c5_4
            by_cases c5_5 : (v2 : Int32) = 5
            · have h := it_h h c5_5
              refine lv_tableIn (off := 78) (tgt := 83) C.1 C.2.1 dX1_lemmaTold_5 (by rw [c5_5]; decide) (by rw [c5_5]; decide) (by rw [c5_5]; rfl) (by decide) ?_
              refine lv_aload_n C.1 C.2.1 dX1_lemmaTold_83 rfl (lv_at hl 0 rfl) ?_
              refine lv_iload_n C.1 C.2.1 dX1_lemmaTold_84 rfl (lv_at hl 1 rfl) ?_
              refine k_roVi C hK hP [.int v1] (wM_rv hK hP) h (fun v e => tX1_openOf e) (cb_X1_139 C.2.2.2.2 ⟨Nat.le_of_ble_eq_true rfl, Nat.le_of_ble_eq_true rfl⟩) rfl hl.1 (Nat.le_of_ble_eq_true rfl) ⟨Nat.le_of_ble_eq_true rfl, Nat.le_of_ble_eq_true rfl⟩ dX1_lemmaTold_85 rfl (fun x85 e85 h => ?_)
              exact k_iretW (w := wM cI cZ a) C hr hlk h hP hS dX1_lemmaTold_88
            · have h := if_h h c5_5
              have e5_0 := sw_ne (j := 0) c5_0 (by decide)
              have e5_1 := sw_ne (j := 1) c5_1 (by decide)
              have e5_2 := sw_ne (j := 2) c5_2 (by decide)
              have e5_3 := sw_ne (j := 3) c5_3 (by decide)
              have e5_4 := sw_ne (j := 4) c5_4 (by decide)
              have e5_5 := sw_ne (j := 5) c5_5 (by decide)
              refine lv_tableOut (tgt := 89) C.1 C.2.1 dX1_lemmaTold_5 (by omega) (by decide) ?_
              refine lv_aload_n C.1 C.2.1 dX1_lemmaTold_89 rfl (lv_at hl 0 rfl) ?_
              refine lv_iload_n C.1 C.2.1 dX1_lemmaTold_90 rfl (lv_at hl 1 rfl) ?_
              refine k_rwVi C (wM_ad _) hK hP hD hS hA [.int v1] (wM_rv hK hP) h (fun v S2 e => tX1_circle e) (cb_X1_142 C.2.2.2.2 ⟨Nat.le_of_ble_eq_true rfl, Nat.le_of_ble_eq_true rfl⟩) rfl hl.1 (Nat.le_of_ble_eq_true rfl) ⟨Nat.le_of_ble_eq_true rfl, Nat.le_of_ble_eq_true rfl⟩ dX1_lemmaTold_91 rfl (fun x91 S91 H locs e91 h hP hD hS => ?_)
              exact k_iretW (w := wM cI cZ a) C hr hlk h hP hS dX1_lemmaTold_94
set_option maxHeartbeats 4000000 in
set_option maxRecDepth 100000 in
theorem tX1_told_ {l : Launch} {D : va_G} {cI cZ : ClassId} {a : Nat → Nat} {S : XS} {sz : Nat} {v1 : Int32} {v2 : Int32} {z : (Int32 × XS)} (h : mM_told_ S v1 v2 = some z) : Met l yX1_told_ (Cond.code yX1_told_ cX1_told_ 3 (some .int) :: WW) ({ frames := 7, cells := 0, slots := 0, locals := 162 }) (va_Pc [.ref (a 0), .int v1, .int v2] (rwP D (wM cI cZ a S) (tyIZ cI cZ) sz)) (rwQi D (wM cI cZ a z.2) z.1 (va_A (wM cI cZ a S) sz)) 0 0 (va_A (wM cI cZ a S) sz) := by
  refine RW_of (own := RX1) (Qc := fun A => rwQi D (wM cI cZ a z.2) z.1 A) (by decide) rfl (Nat.le_of_ble_eq_true rfl) ?_
  intro p e s m args below meth c A ha C hr hlk hP hK hD hA ls hl
  have hS : va_S A s.heap s.heap [] := va_S.rf
  have hl : lv_has ls 3 [(0, .ref (a 0)), (1, .int v1), (2, .int v2)] := hl
  unfold mM_told_ at h
  refine lv_aload_n C.1 C.2.1 dX1_told__0 rfl (lv_at hl 0 rfl) ?_
  refine lv_iconst (v := 0) C.1 C.2.1 dX1_told__1 (by decide) ?_
  refine pX1_thrown C hK hP hD hS h dX1_told__2 (fun S2 H locs h hP hD hS => ?_)
  refine lv_aload_n C.1 C.2.1 dX1_told__5 rfl (lv_at hl 0 rfl) ?_
  refine lv_iload_n C.1 C.2.1 dX1_told__6 rfl (lv_at hl 1 rfl) ?_
  refine k_roVi C hK hP [.int v1] (wM_rv hK hP) h (fun v e => tX1_isLemma e) (cb_X1_55 C.2.2.2.2 ⟨Nat.le_of_ble_eq_true rfl, Nat.le_of_ble_eq_true rfl⟩) rfl hl.1 (Nat.le_of_ble_eq_true rfl) ⟨Nat.le_of_ble_eq_true rfl, Nat.le_of_ble_eq_true rfl⟩ dX1_told__7 rfl (fun x7 e7 h => ?_)
  refine k_if_eq (tgt := 32) C dX1_told__10 (by decide) h (fun c10 h => ?_) (fun c10 h => ?_)
  · refine lv_aload_n C.1 C.2.1 dX1_told__32 rfl (lv_at hl 0 rfl) ?_
    refine lv_iconst (v := 1) C.1 C.2.1 dX1_told__33 (by decide) ?_
    refine k_rwVi C (wM_ad _) hK hP hD hS hA [.int 1] (wM_rv hK hP) h (fun v S2 e => tX1_no e) (cb_X1_104 C.2.2.2.2 ⟨Nat.le_of_ble_eq_true rfl, Nat.le_of_ble_eq_true rfl⟩) rfl hl.1 (Nat.le_of_ble_eq_true rfl) ⟨Nat.le_of_ble_eq_true rfl, Nat.le_of_ble_eq_true rfl⟩ dX1_told__34 rfl (fun x34 S34 H locs e34 h hP hD hS => ?_)
    exact k_iretW (w := wM cI cZ a) C hr hlk h hP hS dX1_told__37
  · refine lv_iload_n C.1 C.2.1 dX1_told__13 rfl (lv_at hl 2 rfl) ?_
    refine lv_iconst (v := 0) C.1 C.2.1 dX1_told__14 (by decide) ?_
    refine lv_bipush (v := 6) C.1 C.2.1 dX1_told__15 (by decide) ?_
    refine k_prS C [.int v2, .int 0, .int 6] h (fun v e => tX1_isIn e) (cb_X1_48 C.2.2.2.2 ⟨Nat.le_of_ble_eq_true rfl, Nat.le_of_ble_eq_true rfl⟩) rfl hl.1 (Nat.le_of_ble_eq_true rfl) ⟨Nat.le_of_ble_eq_true rfl, Nat.le_of_ble_eq_true rfl⟩ dX1_told__17 rfl (fun x17 e17 h => ?_)
    refine k_if_eq (tgt := 32) C dX1_told__20 (by decide) h (fun c20 h => ?_) (fun c20 h => ?_)
    · refine lv_aload_n C.1 C.2.1 dX1_told__32 rfl (lv_at hl 0 rfl) ?_
      refine lv_iconst (v := 1) C.1 C.2.1 dX1_told__33 (by decide) ?_
      refine k_rwVi C (wM_ad _) hK hP hD hS hA [.int 1] (wM_rv hK hP) h (fun v S2 e => tX1_no e) (cb_X1_104 C.2.2.2.2 ⟨Nat.le_of_ble_eq_true rfl, Nat.le_of_ble_eq_true rfl⟩) rfl hl.1 (Nat.le_of_ble_eq_true rfl) ⟨Nat.le_of_ble_eq_true rfl, Nat.le_of_ble_eq_true rfl⟩ dX1_told__34 rfl (fun x34 S34 H locs e34 h hP hD hS => ?_)
      exact k_iretW (w := wM cI cZ a) C hr hlk h hP hS dX1_told__37
    · refine lv_aload_n C.1 C.2.1 dX1_told__23 rfl (lv_at hl 0 rfl) ?_
      refine lv_iload_n C.1 C.2.1 dX1_told__24 rfl (lv_at hl 1 rfl) ?_
      refine lv_iload_n C.1 C.2.1 dX1_told__25 rfl (lv_at hl 2 rfl) ?_
      refine k_rwVi C (wM_ad _) hK hP hD hS hA [.int v1, .int v2] (wM_rv hK hP) h (fun v S2 e => tX1_lemmaTold e) (cb_X1_145 C.2.2.2.2 ⟨Nat.le_of_ble_eq_true rfl, Nat.le_of_ble_eq_true rfl⟩) rfl hl.1 (Nat.le_of_ble_eq_true rfl) ⟨Nat.le_of_ble_eq_true rfl, Nat.le_of_ble_eq_true rfl⟩ dX1_told__26 rfl (fun x26 S26 H locs e26 h hP hD hS => ?_)
      refine lv_goto (tgt := 37) C.1 C.2.1 dX1_told__29 (by decide) ?_
      exact k_iretW (w := wM cI cZ a) C hr hlk h hP hS dX1_told__37
set_option maxHeartbeats 4000000 in
set_option maxRecDepth 100000 in
theorem tX1_stepTold {l : Launch} {D : va_G} {cI cZ : ClassId} {a : Nat → Nat} {S : XS} {v1 : Int32} {v2 : Int32} {z : Int32} (h : mM_stepTold S v1 v2 = some z) : Met l yX1_stepTold (Cond.code yX1_stepTold cX1_stepTold 3 (some .int) :: WW) ({ frames := 0, cells := 0, slots := 0, locals := 0 }) (va_Pc [.ref (a 0), .int v1, .int v2] (roP D (wM cI cZ a S) (tyIZ cI cZ))) (vp_Si (fun r => r = z)) 0 0 (fun _ => False) := by
  refine RO_of (own := RX1) (by decide) rfl (Nat.le_of_ble_eq_true rfl) ?_
  intro p e s m args below meth c ha C hr hlk hP hK ls hl
  have hl : lv_has ls 3 [(0, .ref (a 0)), (1, .int v1), (2, .int v2)] := hl
  unfold mM_stepTold at h
  refine lv_iload_n C.1 C.2.1 dX1_stepTold_0 rfl (lv_at hl 2 rfl) ?_
  refine k_if_ne (tgt := 13) C dX1_stepTold_1 (by decide) h (fun c1 h => ?_) (fun c1 h => ?_)
  · refine lv_iload_n C.1 C.2.1 dX1_stepTold_13 rfl (lv_at hl 2 rfl) ?_
    refine lv_iconst (v := 1) C.1 C.2.1 dX1_stepTold_14 (by decide) ?_
    refine k_icmp_ne (tgt := 27) C dX1_stepTold_15 (by decide) h (fun c15 h => ?_) (fun c15 h => ?_)
    · refine lv_iload_n C.1 C.2.1 dX1_stepTold_27 rfl (lv_at hl 2 rfl) ?_
      refine lv_iconst (v := 2) C.1 C.2.1 dX1_stepTold_28 (by decide) ?_
      refine k_icmp_ne (tgt := 41) C dX1_stepTold_29 (by decide) h (fun c29 h => ?_) (fun c29 h => ?_)
      · refine lv_aload_n C.1 C.2.1 dX1_stepTold_41 rfl (lv_at hl 0 rfl) ?_
        refine gX1_isOut C hK hP dX1_stepTold_42 ?_
        refine lv_iload_n C.1 C.2.1 dX1_stepTold_45 rfl (lv_at hl 1 rfl) ?_
        refine lX1_isOut C hK hP h dX1_stepTold_46 (fun h => ?_)
        refine k_if_eq (tgt := 54) C dX1_stepTold_47 (by decide) h (fun c47 h => ?_) (fun c47 h => ?_)
        · refine lv_iconst (v := 0) C.1 C.2.1 dX1_stepTold_54 (by decide) ?_
          exact k_iret C hr hlk h dX1_stepTold_55
        · refine lv_iconst (v := 1) C.1 C.2.1 dX1_stepTold_50 (by decide) ?_
          refine lv_goto (tgt := 55) C.1 C.2.1 dX1_stepTold_51 (by decide) ?_
          exact k_iret C hr hlk h dX1_stepTold_55
      · refine lv_aload_n C.1 C.2.1 dX1_stepTold_32 rfl (lv_at hl 0 rfl) ?_
        refine gX1_open C hK hP dX1_stepTold_33 ?_
        refine lv_iload_n C.1 C.2.1 dX1_stepTold_36 rfl (lv_at hl 1 rfl) ?_
        refine lX1_open C hK hP h dX1_stepTold_37 (fun h => ?_)
        refine lv_goto (tgt := 55) C.1 C.2.1 dX1_stepTold_38 (by decide) ?_
        exact k_iret C hr hlk h dX1_stepTold_55
    · refine lv_aload_n C.1 C.2.1 dX1_stepTold_18 rfl (lv_at hl 0 rfl) ?_
      refine gX1_cited C hK hP dX1_stepTold_19 ?_
      refine lv_iload_n C.1 C.2.1 dX1_stepTold_22 rfl (lv_at hl 1 rfl) ?_
      refine lX1_cited C hK hP h dX1_stepTold_23 (fun h => ?_)
      refine lv_goto (tgt := 55) C.1 C.2.1 dX1_stepTold_24 (by decide) ?_
      exact k_iret C hr hlk h dX1_stepTold_55
  · refine lv_aload_n C.1 C.2.1 dX1_stepTold_4 rfl (lv_at hl 0 rfl) ?_
    refine gX1_kind C hK hP dX1_stepTold_5 ?_
    refine lv_iload_n C.1 C.2.1 dX1_stepTold_8 rfl (lv_at hl 1 rfl) ?_
    refine lX1_kind C hK hP h dX1_stepTold_9 (fun h => ?_)
    refine lv_goto (tgt := 55) C.1 C.2.1 dX1_stepTold_10 (by decide) ?_
    exact k_iret C hr hlk h dX1_stepTold_55
set_option maxHeartbeats 4000000 in
set_option maxRecDepth 100000 in
theorem tX1_step {l : Launch} {D : va_G} {cI cZ : ClassId} {a : Nat → Nat} {S : XS} {sz : Nat} {v1 : Int32} {v2 : Int32} {v3 : Int32} {v4 : Int32} {z : (Int32 × XS)} (h : mM_step S v1 v2 v3 v4 = some z) : Met l yX1_step (Cond.code yX1_step cX1_step 5 (some .int) :: WW) ({ frames := 4, cells := 0, slots := 0, locals := 88 }) (va_Pc [.ref (a 0), .int v1, .int v2, .int v3, .int v4] (rwP D (wM cI cZ a S) (tyIZ cI cZ) sz)) (rwQi D (wM cI cZ a z.2) z.1 (va_A (wM cI cZ a S) sz)) 0 0 (va_A (wM cI cZ a S) sz) := by
  refine RW_of (own := RX1) (Qc := fun A => rwQi D (wM cI cZ a z.2) z.1 A) (by decide) rfl (Nat.le_of_ble_eq_true rfl) ?_
  intro p e s m args below meth c A ha C hr hlk hP hK hD hA ls hl
  have hS : va_S A s.heap s.heap [] := va_S.rf
  have hl : lv_has ls 5 [(0, .ref (a 0)), (1, .int v1), (2, .int v2), (3, .int v3), (4, .int v4)] := hl
  unfold mM_step at h
  refine lv_aload_n C.1 C.2.1 dX1_step_0 rfl (lv_at hl 0 rfl) ?_
  refine lv_iconst (v := 0) C.1 C.2.1 dX1_step_1 (by decide) ?_
  refine pX1_thrown C hK hP hD hS h dX1_step_2 (fun S2 H locs h hP hD hS => ?_)
  refine lv_aload_n C.1 C.2.1 dX1_step_5 rfl (lv_at hl 0 rfl) ?_
  refine lv_iload_n C.1 C.2.1 dX1_step_6 rfl (lv_at hl 1 rfl) ?_
  refine lv_iload_n C.1 C.2.1 dX1_step_7 rfl (lv_at hl 2 rfl) ?_
  refine lv_iload_n C.1 C.2.1 dX1_step_8 rfl (lv_at hl 3 rfl) ?_
  refine k_roVi C hK hP [.int v1, .int v2, .int v3] (wM_rv hK hP) h (fun v e => tX1_isStep e) (cb_X1_108 C.2.2.2.2 ⟨Nat.le_of_ble_eq_true rfl, Nat.le_of_ble_eq_true rfl⟩) rfl hl.1 (Nat.le_of_ble_eq_true rfl) ⟨Nat.le_of_ble_eq_true rfl, Nat.le_of_ble_eq_true rfl⟩ dX1_step_9 rfl (fun x9 e9 h => ?_)
  refine k_if_eq (tgt := 40) C dX1_step_12 (by decide) h (fun c12 h => ?_) (fun c12 h => ?_)
  · refine lv_aload_n C.1 C.2.1 dX1_step_40 rfl (lv_at hl 0 rfl) ?_
    refine lv_iconst (v := 1) C.1 C.2.1 dX1_step_41 (by decide) ?_
    refine k_rwVi C (wM_ad _) hK hP hD hS hA [.int 1] (wM_rv hK hP) h (fun v S2 e => tX1_no e) (cb_X1_104 C.2.2.2.2 ⟨Nat.le_of_ble_eq_true rfl, Nat.le_of_ble_eq_true rfl⟩) rfl hl.1 (Nat.le_of_ble_eq_true rfl) ⟨Nat.le_of_ble_eq_true rfl, Nat.le_of_ble_eq_true rfl⟩ dX1_step_42 rfl (fun x42 S42 H locs e42 h hP hD hS => ?_)
    exact k_iretW (w := wM cI cZ a) C hr hlk h hP hS dX1_step_45
  · refine lv_iload C.1 C.2.1 dX1_step_15 (lv_at hl 4 rfl) ?_
    refine lv_iconst (v := 0) C.1 C.2.1 dX1_step_17 (by decide) ?_
    refine lv_iconst (v := 3) C.1 C.2.1 dX1_step_18 (by decide) ?_
    refine k_prS C [.int v4, .int 0, .int 3] h (fun v e => tX1_isIn e) (cb_X1_48 C.2.2.2.2 ⟨Nat.le_of_ble_eq_true rfl, Nat.le_of_ble_eq_true rfl⟩) rfl hl.1 (Nat.le_of_ble_eq_true rfl) ⟨Nat.le_of_ble_eq_true rfl, Nat.le_of_ble_eq_true rfl⟩ dX1_step_19 rfl (fun x19 e19 h => ?_)
    refine k_if_eq (tgt := 40) C dX1_step_22 (by decide) h (fun c22 h => ?_) (fun c22 h => ?_)
    · refine lv_aload_n C.1 C.2.1 dX1_step_40 rfl (lv_at hl 0 rfl) ?_
      refine lv_iconst (v := 1) C.1 C.2.1 dX1_step_41 (by decide) ?_
      refine k_rwVi C (wM_ad _) hK hP hD hS hA [.int 1] (wM_rv hK hP) h (fun v S2 e => tX1_no e) (cb_X1_104 C.2.2.2.2 ⟨Nat.le_of_ble_eq_true rfl, Nat.le_of_ble_eq_true rfl⟩) rfl hl.1 (Nat.le_of_ble_eq_true rfl) ⟨Nat.le_of_ble_eq_true rfl, Nat.le_of_ble_eq_true rfl⟩ dX1_step_42 rfl (fun x42 S42 H locs e42 h hP hD hS => ?_)
      exact k_iretW (w := wM cI cZ a) C hr hlk h hP hS dX1_step_45
    · refine lv_aload_n C.1 C.2.1 dX1_step_25 rfl (lv_at hl 0 rfl) ?_
      refine lv_iload_n C.1 C.2.1 dX1_step_26 rfl (lv_at hl 1 rfl) ?_
      refine lv_iload_n C.1 C.2.1 dX1_step_27 rfl (lv_at hl 2 rfl) ?_
      refine lv_iload_n C.1 C.2.1 dX1_step_28 rfl (lv_at hl 3 rfl) ?_
      refine k_prS C [.int v1, .int v2, .int v3] h (fun v e => tX1_at e) (cb_X1_63 C.2.2.2.2 ⟨Nat.le_of_ble_eq_true rfl, Nat.le_of_ble_eq_true rfl⟩) rfl hl.1 (Nat.le_of_ble_eq_true rfl) ⟨Nat.le_of_ble_eq_true rfl, Nat.le_of_ble_eq_true rfl⟩ dX1_step_29 rfl (fun x29 e29 h => ?_)
      refine lv_iload C.1 C.2.1 dX1_step_32 (lv_at hl 4 rfl) ?_
      refine k_roVi C hK hP [.int x29, .int v4] (wM_rv hK hP) h (fun v e => tX1_stepTold e) (cb_X1_148 C.2.2.2.2 ⟨Nat.le_of_ble_eq_true rfl, Nat.le_of_ble_eq_true rfl⟩) rfl hl.1 (Nat.le_of_ble_eq_true rfl) ⟨Nat.le_of_ble_eq_true rfl, Nat.le_of_ble_eq_true rfl⟩ dX1_step_34 rfl (fun x34 e34 h => ?_)
      refine lv_goto (tgt := 45) C.1 C.2.1 dX1_step_37 (by decide) ?_
      exact k_iretW (w := wM cI cZ a) C hr hlk h hP hS dX1_step_45
set_option maxHeartbeats 4000000 in
set_option maxRecDepth 100000 in
theorem tX1_proofTold {l : Launch} {D : va_G} {cI cZ : ClassId} {a : Nat → Nat} {S : XS} {sz : Nat} {v1 : Int32} {v2 : Int32} {v3 : Int32} {z : (Int32 × XS)} (h : mM_proofTold S v1 v2 v3 = some z) : Met l yX1_proofTold (Cond.code yX1_proofTold cX1_proofTold 4 (some .int) :: WW) ({ frames := 5, cells := 0, slots := 0, locals := 119 }) (va_Pc [.ref (a 0), .int v1, .int v2, .int v3] (rwP D (wM cI cZ a S) (tyIZ cI cZ) sz)) (rwQi D (wM cI cZ a z.2) z.1 (va_A (wM cI cZ a S) sz)) 0 0 (va_A (wM cI cZ a S) sz) := by
  refine RW_of (own := RX1) (Qc := fun A => rwQi D (wM cI cZ a z.2) z.1 A) (by decide) rfl (Nat.le_of_ble_eq_true rfl) ?_
  intro p e s m args below meth c A ha C hr hlk hP hK hD hA ls hl
  have hS : va_S A s.heap s.heap [] := va_S.rf
  have hl : lv_has ls 4 [(0, .ref (a 0)), (1, .int v1), (2, .int v2), (3, .int v3)] := hl
  unfold mM_proofTold at h
  refine lv_aload_n C.1 C.2.1 dX1_proofTold_0 rfl (lv_at hl 0 rfl) ?_
  refine k_rwVv C (wM_ad _) hK hP hD hS hA [] (wM_rv hK hP) h (fun v S2 e => tX1_measure e) (cb_X1_127 C.2.2.2.2 ⟨Nat.le_of_ble_eq_true rfl, Nat.le_of_ble_eq_true rfl⟩) rfl hl.1 (Nat.le_of_ble_eq_true rfl) ⟨Nat.le_of_ble_eq_true rfl, Nat.le_of_ble_eq_true rfl⟩ dX1_proofTold_1 rfl (fun x1 S1 H locs e1 h hP hD hS => ?_)
  refine lv_aload_n C.1 C.2.1 dX1_proofTold_4 rfl (lv_at hl 0 rfl) ?_
  refine lv_iconst (v := (-1)) C.1 C.2.1 dX1_proofTold_5 (by decide) ?_
  refine k_rwVi C (wM_ad _) hK hP hD hS hA [.int (-1)] (wM_rv hK hP) h (fun v S2 e => tX1_prove e) (cb_X1_124 C.2.2.2.2 ⟨Nat.le_of_ble_eq_true rfl, Nat.le_of_ble_eq_true rfl⟩) rfl hl.1 (Nat.le_of_ble_eq_true rfl) ⟨Nat.le_of_ble_eq_true rfl, Nat.le_of_ble_eq_true rfl⟩ dX1_proofTold_6 rfl (fun x6 S6 H locs e6 h hP hD hS => ?_)
  refine lv_pop C.1 C.2.1 dX1_proofTold_9 rfl ?_
  refine lv_iload_n C.1 C.2.1 dX1_proofTold_10 rfl (lv_at hl 3 rfl) ?_
  by_cases c11_0 : (v3 : Int32) = 0
  · have h := it_h h c11_0
    refine lv_tableIn (off := 25) (tgt := 36) C.1 C.2.1 dX1_proofTold_11 (by rw [c11_0]; decide) (by rw [c11_0]; decide) (by rw [c11_0]; rfl) (by decide) ?_
    refine lv_aload_n C.1 C.2.1 dX1_proofTold_36 rfl (lv_at hl 0 rfl) ?_
    refine gX1_steps C hK hP dX1_proofTold_37 ?_
    refine lv_iconst (v := 3) C.1 C.2.1 dX1_proofTold_40 (by decide) ?_
    refine lv_iload_n C.1 C.2.1 dX1_proofTold_41 rfl (lv_at hl 1 rfl) ?_
    refine lv_imul C.1 C.2.1 dX1_proofTold_42 ?_
    refine lv_iload_n C.1 C.2.1 dX1_proofTold_43 rfl (lv_at hl 2 rfl) ?_
    refine lv_iadd C.1 C.2.1 dX1_proofTold_44 ?_
    refine lX1_steps C hK hP h dX1_proofTold_45 (fun h => ?_)
    exact k_iretW (w := wM cI cZ a) C hr hlk h hP hS dX1_proofTold_46
  · have h := if_h h c11_0
    by_cases c11_1 : (v3 : Int32) = 1
    · have h := it_h h c11_1
      refine lv_tableIn (off := 36) (tgt := 47) C.1 C.2.1 dX1_proofTold_11 (by rw [c11_1]; decide) (by rw [c11_1]; decide) (by rw [c11_1]; rfl) (by decide) ?_
      refine lv_aload_n C.1 C.2.1 dX1_proofTold_47 rfl (lv_at hl 0 rfl) ?_
      refine lv_iload_n C.1 C.2.1 dX1_proofTold_48 rfl (lv_at hl 1 rfl) ?_
      refine lv_iload_n C.1 C.2.1 dX1_proofTold_49 rfl (lv_at hl 2 rfl) ?_
      refine lv_aload_n C.1 C.2.1 dX1_proofTold_50 rfl (lv_at hl 0 rfl) ?_
      refine gX1_lemmas C hK hP dX1_proofTold_51 ?_
      refine lv_iconst (v := 2) C.1 C.2.1 dX1_proofTold_54 (by decide) ?_
      refine lv_iadd C.1 C.2.1 dX1_proofTold_55 ?_
      refine lv_iconst (v := (-1)) C.1 C.2.1 dX1_proofTold_56 (by decide) ?_
      refine k_roVi C hK hP [.int v1, .int v2, .int ((S6 14 0) + 2), .int (-1)] (wM_rv hK hP) h (fun v e => tX1_holds e) (cb_X1_73 C.2.2.2.2 ⟨Nat.le_of_ble_eq_true rfl, Nat.le_of_ble_eq_true rfl⟩) rfl hl.1 (Nat.le_of_ble_eq_true rfl) ⟨Nat.le_of_ble_eq_true rfl, Nat.le_of_ble_eq_true rfl⟩ dX1_proofTold_57 rfl (fun x57 e57 h => ?_)
      refine k_if_eq (tgt := 67) C dX1_proofTold_60 (by decide) h (fun c60 h => ?_) (fun c60 h => ?_)
      · refine lv_iconst (v := 0) C.1 C.2.1 dX1_proofTold_67 (by decide) ?_
        exact k_iretW (w := wM cI cZ a) C hr hlk h hP hS dX1_proofTold_68
      · refine lv_iconst (v := 1) C.1 C.2.1 dX1_proofTold_63 (by decide) ?_
        refine lv_goto (tgt := 68) C.1 C.2.1 dX1_proofTold_64 (by decide) ?_
        exact k_iretW (w := wM cI cZ a) C hr hlk h hP hS dX1_proofTold_68
    · have h := if_h h c11_1
      by_cases c11_2 : (v3 : Int32) = 2
      · have h := it_h h c11_2
        refine lv_tableIn (off := 58) (tgt := 69) C.1 C.2.1 dX1_proofTold_11 (by rw [c11_2]; decide) (by rw [c11_2]; decide) (by rw [c11_2]; rfl) (by decide) ?_
        refine lv_aload_n C.1 C.2.1 dX1_proofTold_69 rfl (lv_at hl 0 rfl) ?_
        refine lv_iload_n C.1 C.2.1 dX1_proofTold_70 rfl (lv_at hl 1 rfl) ?_
        refine lv_iload_n C.1 C.2.1 dX1_proofTold_71 rfl (lv_at hl 2 rfl) ?_
        refine k_roVi C hK hP [.int v1, .int v2] (wM_rv hK hP) h (fun v e => tX1_lengthOf e) (cb_X1_86 C.2.2.2.2 ⟨Nat.le_of_ble_eq_true rfl, Nat.le_of_ble_eq_true rfl⟩) rfl hl.1 (Nat.le_of_ble_eq_true rfl) ⟨Nat.le_of_ble_eq_true rfl, Nat.le_of_ble_eq_true rfl⟩ dX1_proofTold_72 rfl (fun x72 e72 h => ?_)
        refine k_prS C [.int x72] h (fun v e => tX1_told e) (cb_X1_136 C.2.2.2.2 ⟨Nat.le_of_ble_eq_true rfl, Nat.le_of_ble_eq_true rfl⟩) rfl hl.1 (Nat.le_of_ble_eq_true rfl) ⟨Nat.le_of_ble_eq_true rfl, Nat.le_of_ble_eq_true rfl⟩ dX1_proofTold_75 rfl (fun x75 e75 h => ?_)
        exact k_iretW (w := wM cI cZ a) C hr hlk h hP hS dX1_proofTold_78
      · have h := if_h h c11_2
        have e11_0 := sw_ne (j := 0) c11_0 (by decide)
        have e11_1 := sw_ne (j := 1) c11_1 (by decide)
        have e11_2 := sw_ne (j := 2) c11_2 (by decide)
        refine lv_tableOut (tgt := 79) C.1 C.2.1 dX1_proofTold_11 (by omega) (by decide) ?_
        refine lv_aload_n C.1 C.2.1 dX1_proofTold_79 rfl (lv_at hl 0 rfl) ?_
        refine lv_iload_n C.1 C.2.1 dX1_proofTold_80 rfl (lv_at hl 1 rfl) ?_
        refine lv_iload_n C.1 C.2.1 dX1_proofTold_81 rfl (lv_at hl 2 rfl) ?_
        refine k_roVi C hK hP [.int v1, .int v2] (wM_rv hK hP) h (fun v e => tX1_priceOf e) (cb_X1_89 C.2.2.2.2 ⟨Nat.le_of_ble_eq_true rfl, Nat.le_of_ble_eq_true rfl⟩) rfl hl.1 (Nat.le_of_ble_eq_true rfl) ⟨Nat.le_of_ble_eq_true rfl, Nat.le_of_ble_eq_true rfl⟩ dX1_proofTold_82 rfl (fun x82 e82 h => ?_)
        exact k_iretW (w := wM cI cZ a) C hr hlk h hP hS dX1_proofTold_85
set_option maxHeartbeats 4000000 in
set_option maxRecDepth 100000 in
theorem tX1_about {l : Launch} {D : va_G} {cI cZ : ClassId} {a : Nat → Nat} {S : XS} {sz : Nat} {v1 : Int32} {v2 : Int32} {v3 : Int32} {z : (Int32 × XS)} (h : mM_about S v1 v2 v3 = some z) : Met l yX1_about (Cond.code yX1_about cX1_about 4 (some .int) :: WW) ({ frames := 6, cells := 0, slots := 0, locals := 142 }) (va_Pc [.ref (a 0), .int v1, .int v2, .int v3] (rwP D (wM cI cZ a S) (tyIZ cI cZ) sz)) (rwQi D (wM cI cZ a z.2) z.1 (va_A (wM cI cZ a S) sz)) 0 0 (va_A (wM cI cZ a S) sz) := by
  refine RW_of (own := RX1) (Qc := fun A => rwQi D (wM cI cZ a z.2) z.1 A) (by decide) rfl (Nat.le_of_ble_eq_true rfl) ?_
  intro p e s m args below meth c A ha C hr hlk hP hK hD hA ls hl
  have hS : va_S A s.heap s.heap [] := va_S.rf
  have hl : lv_has ls 4 [(0, .ref (a 0)), (1, .int v1), (2, .int v2), (3, .int v3)] := hl
  unfold mM_about at h
  refine lv_aload_n C.1 C.2.1 dX1_about_0 rfl (lv_at hl 0 rfl) ?_
  refine lv_iconst (v := 0) C.1 C.2.1 dX1_about_1 (by decide) ?_
  refine pX1_thrown C hK hP hD hS h dX1_about_2 (fun S2 H locs h hP hD hS => ?_)
  refine lv_aload_n C.1 C.2.1 dX1_about_5 rfl (lv_at hl 0 rfl) ?_
  refine lv_iload_n C.1 C.2.1 dX1_about_6 rfl (lv_at hl 1 rfl) ?_
  refine lv_iload_n C.1 C.2.1 dX1_about_7 rfl (lv_at hl 2 rfl) ?_
  refine k_roVi C hK hP [.int v1, .int v2] (wM_rv hK hP) h (fun v e => tX1_isProof e) (cb_X1_59 C.2.2.2.2 ⟨Nat.le_of_ble_eq_true rfl, Nat.le_of_ble_eq_true rfl⟩) rfl hl.1 (Nat.le_of_ble_eq_true rfl) ⟨Nat.le_of_ble_eq_true rfl, Nat.le_of_ble_eq_true rfl⟩ dX1_about_8 rfl (fun x8 e8 h => ?_)
  refine k_if_eq (tgt := 33) C dX1_about_11 (by decide) h (fun c11 h => ?_) (fun c11 h => ?_)
  · refine lv_aload_n C.1 C.2.1 dX1_about_33 rfl (lv_at hl 0 rfl) ?_
    refine lv_iconst (v := 1) C.1 C.2.1 dX1_about_34 (by decide) ?_
    refine k_rwVi C (wM_ad _) hK hP hD hS hA [.int 1] (wM_rv hK hP) h (fun v S2 e => tX1_no e) (cb_X1_104 C.2.2.2.2 ⟨Nat.le_of_ble_eq_true rfl, Nat.le_of_ble_eq_true rfl⟩) rfl hl.1 (Nat.le_of_ble_eq_true rfl) ⟨Nat.le_of_ble_eq_true rfl, Nat.le_of_ble_eq_true rfl⟩ dX1_about_35 rfl (fun x35 S35 H locs e35 h hP hD hS => ?_)
    exact k_iretW (w := wM cI cZ a) C hr hlk h hP hS dX1_about_38
  · refine lv_iload_n C.1 C.2.1 dX1_about_14 rfl (lv_at hl 3 rfl) ?_
    refine lv_iconst (v := 0) C.1 C.2.1 dX1_about_15 (by decide) ?_
    refine lv_iconst (v := 3) C.1 C.2.1 dX1_about_16 (by decide) ?_
    refine k_prS C [.int v3, .int 0, .int 3] h (fun v e => tX1_isIn e) (cb_X1_48 C.2.2.2.2 ⟨Nat.le_of_ble_eq_true rfl, Nat.le_of_ble_eq_true rfl⟩) rfl hl.1 (Nat.le_of_ble_eq_true rfl) ⟨Nat.le_of_ble_eq_true rfl, Nat.le_of_ble_eq_true rfl⟩ dX1_about_17 rfl (fun x17 e17 h => ?_)
    refine k_if_eq (tgt := 33) C dX1_about_20 (by decide) h (fun c20 h => ?_) (fun c20 h => ?_)
    · refine lv_aload_n C.1 C.2.1 dX1_about_33 rfl (lv_at hl 0 rfl) ?_
      refine lv_iconst (v := 1) C.1 C.2.1 dX1_about_34 (by decide) ?_
      refine k_rwVi C (wM_ad _) hK hP hD hS hA [.int 1] (wM_rv hK hP) h (fun v S2 e => tX1_no e) (cb_X1_104 C.2.2.2.2 ⟨Nat.le_of_ble_eq_true rfl, Nat.le_of_ble_eq_true rfl⟩) rfl hl.1 (Nat.le_of_ble_eq_true rfl) ⟨Nat.le_of_ble_eq_true rfl, Nat.le_of_ble_eq_true rfl⟩ dX1_about_35 rfl (fun x35 S35 H locs e35 h hP hD hS => ?_)
      exact k_iretW (w := wM cI cZ a) C hr hlk h hP hS dX1_about_38
    · refine lv_aload_n C.1 C.2.1 dX1_about_23 rfl (lv_at hl 0 rfl) ?_
      refine lv_iload_n C.1 C.2.1 dX1_about_24 rfl (lv_at hl 1 rfl) ?_
      refine lv_iload_n C.1 C.2.1 dX1_about_25 rfl (lv_at hl 2 rfl) ?_
      refine lv_iload_n C.1 C.2.1 dX1_about_26 rfl (lv_at hl 3 rfl) ?_
      refine k_rwVi C (wM_ad _) hK hP hD hS hA [.int v1, .int v2, .int v3] (wM_rv hK hP) h (fun v S2 e => tX1_proofTold e) (cb_X1_151 C.2.2.2.2 ⟨Nat.le_of_ble_eq_true rfl, Nat.le_of_ble_eq_true rfl⟩) rfl hl.1 (Nat.le_of_ble_eq_true rfl) ⟨Nat.le_of_ble_eq_true rfl, Nat.le_of_ble_eq_true rfl⟩ dX1_about_27 rfl (fun x27 S27 H locs e27 h hP hD hS => ?_)
      refine lv_goto (tgt := 38) C.1 C.2.1 dX1_about_30 (by decide) ?_
      exact k_iretW (w := wM cI cZ a) C hr hlk h hP hS dX1_about_38
set_option maxHeartbeats 4000000 in
set_option maxRecDepth 100000 in
theorem tX1_counted {l : Launch} {D : va_G} {cI cZ : ClassId} {a : Nat → Nat} {S : XS} {sz : Nat} {v1 : Int32} {z : (Int32 × XS)} (h : mM_counted S v1 = some z) : Met l yX1_counted (Cond.code yX1_counted cX1_counted 7 (some .int) :: WW) ({ frames := 5, cells := 0, slots := 0, locals := 119 }) (va_Pc [.ref (a 0), .int v1] (rwP D (wM cI cZ a S) (tyIZ cI cZ) sz)) (rwQi D (wM cI cZ a z.2) z.1 (va_A (wM cI cZ a S) sz)) 0 0 (va_A (wM cI cZ a S) sz) := by
  refine RW_of (own := RX1) (Qc := fun A => rwQi D (wM cI cZ a z.2) z.1 A) (by decide) rfl (Nat.le_of_ble_eq_true rfl) ?_
  intro p e s m args below meth c A ha C hr hlk hP hK hD hA ls hl
  have hS : va_S A s.heap s.heap [] := va_S.rf
  have hl : lv_has ls 7 [(0, .ref (a 0)), (1, .int v1)] := hl
  have L51 : ∀ (S : XS) (H : Heap) (locs : List Loc) (hP : va_P D vwCl (wM cI cZ a S) H) (hD : va_D A (wM cI cZ a S)) (hS : va_S A s.heap H locs) (v4 : Int32) (n : Nat) (v2 : Int32) (v5 : Int32), itr2 (mM_counted_F51 S v4) n v2 v5 = some z → ∀ ls : Array Slot, lv_has ls 7 [(2, .int v2), (3, .ref (a 1)), (4, .int v4), (5, .int v5)] → W p l e { frames := 5, cells := 0, slots := 0, locals := 119 } s m args below meth c H locs 0 0 (MQ below (rwQi D (wM cI cZ a z.2) z.1 A) args s 0 0 A) (F0 m 51 ls []) := by
    intro S H locs hP hD hS v4 n
    refine itr2_ind (fun (v2 : Int32) (v5 : Int32) => ∀ ls : Array Slot, lv_has ls 7 [(2, .int v2), (3, .ref (a 1)), (4, .int v4), (5, .int v5)] → W p l e { frames := 5, cells := 0, slots := 0, locals := 119 } s m args below meth c H locs 0 0 (MQ below (rwQi D (wM cI cZ a z.2) z.1 A) args s 0 0 A) (F0 m 51 ls [])) ?_ n
    intro ih hih v2 v5 h ls hl
    unfold mM_counted_F51 at h
    refine lv_iload C.1 C.2.1 dX1_counted_51 (lv_at hl 3 rfl) ?_
    refine lv_iload C.1 C.2.1 dX1_counted_53 (lv_at hl 2 rfl) ?_
    refine k_icmp_ge (tgt := 83) C dX1_counted_55 (by decide) h (fun c55 h => ?_) (fun c55 h => ?_)
    · refine lv_iload_n C.1 C.2.1 dX1_counted_83 rfl (lv_at hl 0 rfl) ?_
      exact k_iretW (w := wM cI cZ a) C hr hlk h hP hS dX1_counted_84
    · refine lv_aload_n C.1 C.2.1 dX1_counted_58 rfl (lv_at hl 1 rfl) ?_
      refine lv_iload C.1 C.2.1 dX1_counted_59 (lv_at hl 3 rfl) ?_
      refine lX1_taken C hK hP h dX1_counted_61 (fun h => ?_)
      refine lv_istore (lv' := [(6, .int (S 1 (v5 : Int32).toNatClampNeg)), (2, .int v2), (3, .ref (a 1)), (4, .int v4), (5, .int v5)]) C.1 C.2.1 dX1_counted_62 hl (by decide) rfl (fun ls hl => ?_)
      refine lv_iload_n C.1 C.2.1 dX1_counted_64 rfl (lv_at hl 1 rfl) ?_
      refine lv_iload C.1 C.2.1 dX1_counted_65 (lv_at hl 0 rfl) ?_
      refine k_if_eq (tgt := 74) C dX1_counted_67 (by decide) h (fun c67 h => ?_) (fun c67 h => ?_)
      · refine lv_iconst (v := 0) C.1 C.2.1 dX1_counted_74 (by decide) ?_
        refine lv_iadd C.1 C.2.1 dX1_counted_75 ?_
        refine lv_istore_n (lv' := [(2, .int (v2 + 0)), (6, .int (S 1 (v5 : Int32).toNatClampNeg)), (3, .ref (a 1)), (4, .int v4), (5, .int v5)]) C.1 C.2.1 dX1_counted_76 rfl hl (by decide) rfl (fun ls hl => ?_)
        refine lv_iinc (v := (v5 + 1)) (lv' := [(5, .int (v5 + 1)), (2, .int (v2 + 0)), (6, .int (S 1 (v5 : Int32).toNatClampNeg)), (3, .ref (a 1)), (4, .int v4)]) C.1 C.2.1 dX1_counted_77 hl (k := 4) rfl rfl (by decide) rfl (fun ls hl => ?_)
        refine lv_goto (tgt := 51) C.1 C.2.1 dX1_counted_80 (by decide) ?_
        exact hih (v2 + 0) (v5 + 1) h ls (lv_sub hl [1, 3, 4, 0] rfl)
      · refine lv_iconst (v := 1) C.1 C.2.1 dX1_counted_70 (by decide) ?_
        refine lv_goto (tgt := 75) C.1 C.2.1 dX1_counted_71 (by decide) ?_
        refine lv_iadd C.1 C.2.1 dX1_counted_75 ?_
        refine lv_istore_n (lv' := [(2, .int (v2 + 1)), (6, .int (S 1 (v5 : Int32).toNatClampNeg)), (3, .ref (a 1)), (4, .int v4), (5, .int v5)]) C.1 C.2.1 dX1_counted_76 rfl hl (by decide) rfl (fun ls hl => ?_)
        refine lv_iinc (v := (v5 + 1)) (lv' := [(5, .int (v5 + 1)), (2, .int (v2 + 1)), (6, .int (S 1 (v5 : Int32).toNatClampNeg)), (3, .ref (a 1)), (4, .int v4)]) C.1 C.2.1 dX1_counted_77 hl (k := 4) rfl rfl (by decide) rfl (fun ls hl => ?_)
        refine lv_goto (tgt := 51) C.1 C.2.1 dX1_counted_80 (by decide) ?_
        exact hih (v2 + 1) (v5 + 1) h ls (lv_sub hl [1, 3, 4, 0] rfl)
  have L87 : ∀ (v1 : Int32) (n : Nat) (S : XS) (v2 : Int32) (v3 : Int32), itr3 (mM_counted_F87 v1) n S v2 v3 = some z → ∀ (H : Heap) (locs : List Loc) (hP : va_P D vwCl (wM cI cZ a S) H) (hD : va_D A (wM cI cZ a S)) (hS : va_S A s.heap H locs) (ls : Array Slot), lv_has ls 7 [(0, .ref (a 0)), (1, .int v1), (2, .int v2), (3, .int v3)] → W p l e { frames := 5, cells := 0, slots := 0, locals := 119 } s m args below meth c H locs 0 0 (MQ below (rwQi D (wM cI cZ a z.2) z.1 A) args s 0 0 A) (F0 m 87 ls []) := by
    intro v1 n
    refine itr3_ind (fun (S : XS) (v2 : Int32) (v3 : Int32) => ∀ (H : Heap) (locs : List Loc) (hP : va_P D vwCl (wM cI cZ a S) H) (hD : va_D A (wM cI cZ a S)) (hS : va_S A s.heap H locs) (ls : Array Slot), lv_has ls 7 [(0, .ref (a 0)), (1, .int v1), (2, .int v2), (3, .int v3)] → W p l e { frames := 5, cells := 0, slots := 0, locals := 119 } s m args below meth c H locs 0 0 (MQ below (rwQi D (wM cI cZ a z.2) z.1 A) args s 0 0 A) (F0 m 87 ls [])) ?_ n
    intro ih hih S v2 v3 h H locs hP hD hS ls hl
    unfold mM_counted_F87 at h
    refine lv_iload_n C.1 C.2.1 dX1_counted_87 rfl (lv_at hl 3 rfl) ?_
    refine lv_aload_n C.1 C.2.1 dX1_counted_88 rfl (lv_at hl 0 rfl) ?_
    refine gX1_lemmas C hK hP dX1_counted_89 ?_
    refine k_icmp_ge (tgt := 157) C dX1_counted_92 (by decide) h (fun c92 h => ?_) (fun c92 h => ?_)
    · refine lv_iload_n C.1 C.2.1 dX1_counted_157 rfl (lv_at hl 2 rfl) ?_
      exact k_iretW (w := wM cI cZ a) C hr hlk h hP hS dX1_counted_158
    · refine lv_iload_n C.1 C.2.1 dX1_counted_95 rfl (lv_at hl 2 rfl) ?_
      refine lv_iload_n C.1 C.2.1 dX1_counted_96 rfl (lv_at hl 1 rfl) ?_
      refine lv_iconst (v := 3) C.1 C.2.1 dX1_counted_97 (by decide) ?_
      refine k_icmp_ne (tgt := 110) C dX1_counted_98 (by decide) h (fun c98 h => ?_) (fun c98 h => ?_)
      · refine lv_iload_n C.1 C.2.1 dX1_counted_110 rfl (lv_at hl 1 rfl) ?_
        refine lv_iconst (v := 4) C.1 C.2.1 dX1_counted_111 (by decide) ?_
        refine k_icmp_ne (tgt := 123) C dX1_counted_112 (by decide) h (fun c112 h => ?_) (fun c112 h => ?_)
        · refine lv_iload_n C.1 C.2.1 dX1_counted_123 rfl (lv_at hl 1 rfl) ?_
          refine lv_iconst (v := 5) C.1 C.2.1 dX1_counted_124 (by decide) ?_
          refine k_icmp_ne (tgt := 136) C dX1_counted_125 (by decide) h (fun c125 h => ?_) (fun c125 h => ?_)
          · refine lv_aload_n C.1 C.2.1 dX1_counted_136 rfl (lv_at hl 0 rfl) ?_
            refine lv_iload_n C.1 C.2.1 dX1_counted_137 rfl (lv_at hl 3 rfl) ?_
            refine k_rwVi C (wM_ad _) hK hP hD hS hA [.int v3] (wM_rv hK hP) h (fun v S2 e => tX1_circle e) (cb_X1_142 C.2.2.2.2 ⟨Nat.le_of_ble_eq_true rfl, Nat.le_of_ble_eq_true rfl⟩) rfl hl.1 (Nat.le_of_ble_eq_true rfl) ⟨Nat.le_of_ble_eq_true rfl, Nat.le_of_ble_eq_true rfl⟩ dX1_counted_138 rfl (fun x138 S138 H locs e138 h hP hD hS => ?_)
            refine k_if_le (tgt := 148) C dX1_counted_141 (by decide) h (fun c141 h => ?_) (fun c141 h => ?_)
            · refine lv_iconst (v := 0) C.1 C.2.1 dX1_counted_148 (by decide) ?_
              refine lv_iadd C.1 C.2.1 dX1_counted_149 ?_
              refine lv_istore_n (lv' := [(2, .int (v2 + 0)), (0, .ref (a 0)), (1, .int v1), (3, .int v3)]) C.1 C.2.1 dX1_counted_150 rfl hl (by decide) rfl (fun ls hl => ?_)
              refine lv_iinc (v := (v3 + 1)) (lv' := [(3, .int (v3 + 1)), (2, .int (v2 + 0)), (0, .ref (a 0)), (1, .int v1)]) C.1 C.2.1 dX1_counted_151 hl (k := 3) rfl rfl (by decide) rfl (fun ls hl => ?_)
              refine lv_goto (tgt := 87) C.1 C.2.1 dX1_counted_154 (by decide) ?_
              exact hih S138 (v2 + 0) (v3 + 1) h _ _ hP hD hS ls (lv_sub hl [2, 3, 1, 0] rfl)
            · refine lv_iconst (v := 1) C.1 C.2.1 dX1_counted_144 (by decide) ?_
              refine lv_goto (tgt := 149) C.1 C.2.1 dX1_counted_145 (by decide) ?_
              refine lv_iadd C.1 C.2.1 dX1_counted_149 ?_
              refine lv_istore_n (lv' := [(2, .int (v2 + 1)), (0, .ref (a 0)), (1, .int v1), (3, .int v3)]) C.1 C.2.1 dX1_counted_150 rfl hl (by decide) rfl (fun ls hl => ?_)
              refine lv_iinc (v := (v3 + 1)) (lv' := [(3, .int (v3 + 1)), (2, .int (v2 + 1)), (0, .ref (a 0)), (1, .int v1)]) C.1 C.2.1 dX1_counted_151 hl (k := 3) rfl rfl (by decide) rfl (fun ls hl => ?_)
              refine lv_goto (tgt := 87) C.1 C.2.1 dX1_counted_154 (by decide) ?_
              exact hih S138 (v2 + 1) (v3 + 1) h _ _ hP hD hS ls (lv_sub hl [2, 3, 1, 0] rfl)
          · refine lv_aload_n C.1 C.2.1 dX1_counted_128 rfl (lv_at hl 0 rfl) ?_
            refine lv_iload_n C.1 C.2.1 dX1_counted_129 rfl (lv_at hl 3 rfl) ?_
            refine k_roVi C hK hP [.int v3] (wM_rv hK hP) h (fun v e => tX1_openOf e) (cb_X1_139 C.2.2.2.2 ⟨Nat.le_of_ble_eq_true rfl, Nat.le_of_ble_eq_true rfl⟩) rfl hl.1 (Nat.le_of_ble_eq_true rfl) ⟨Nat.le_of_ble_eq_true rfl, Nat.le_of_ble_eq_true rfl⟩ dX1_counted_130 rfl (fun x130 e130 h => ?_)
            refine lv_goto (tgt := 149) C.1 C.2.1 dX1_counted_133 (by decide) ?_
            refine lv_iadd C.1 C.2.1 dX1_counted_149 ?_
            refine lv_istore_n (lv' := [(2, .int (v2 + x130)), (0, .ref (a 0)), (1, .int v1), (3, .int v3)]) C.1 C.2.1 dX1_counted_150 rfl hl (by decide) rfl (fun ls hl => ?_)
            refine lv_iinc (v := (v3 + 1)) (lv' := [(3, .int (v3 + 1)), (2, .int (v2 + x130)), (0, .ref (a 0)), (1, .int v1)]) C.1 C.2.1 dX1_counted_151 hl (k := 3) rfl rfl (by decide) rfl (fun ls hl => ?_)
            refine lv_goto (tgt := 87) C.1 C.2.1 dX1_counted_154 (by decide) ?_
            exact hih S (v2 + x130) (v3 + 1) h _ _ hP hD hS ls (lv_sub hl [2, 3, 1, 0] rfl)
        · refine lv_aload_n C.1 C.2.1 dX1_counted_115 rfl (lv_at hl 0 rfl) ?_
          refine lv_iload_n C.1 C.2.1 dX1_counted_116 rfl (lv_at hl 3 rfl) ?_
          refine k_roVi C hK hP [.int v3] (wM_rv hK hP) h (fun v e => tX1_stepsOf e) (cb_X1_130 C.2.2.2.2 ⟨Nat.le_of_ble_eq_true rfl, Nat.le_of_ble_eq_true rfl⟩) rfl hl.1 (Nat.le_of_ble_eq_true rfl) ⟨Nat.le_of_ble_eq_true rfl, Nat.le_of_ble_eq_true rfl⟩ dX1_counted_117 rfl (fun x117 e117 h => ?_)
          refine lv_goto (tgt := 149) C.1 C.2.1 dX1_counted_120 (by decide) ?_
          refine lv_iadd C.1 C.2.1 dX1_counted_149 ?_
          refine lv_istore_n (lv' := [(2, .int (v2 + x117)), (0, .ref (a 0)), (1, .int v1), (3, .int v3)]) C.1 C.2.1 dX1_counted_150 rfl hl (by decide) rfl (fun ls hl => ?_)
          refine lv_iinc (v := (v3 + 1)) (lv' := [(3, .int (v3 + 1)), (2, .int (v2 + x117)), (0, .ref (a 0)), (1, .int v1)]) C.1 C.2.1 dX1_counted_151 hl (k := 3) rfl rfl (by decide) rfl (fun ls hl => ?_)
          refine lv_goto (tgt := 87) C.1 C.2.1 dX1_counted_154 (by decide) ?_
          exact hih S (v2 + x117) (v3 + 1) h _ _ hP hD hS ls (lv_sub hl [2, 3, 1, 0] rfl)
      · refine lv_aload_n C.1 C.2.1 dX1_counted_101 rfl (lv_at hl 0 rfl) ?_
        refine gX1_proofs C hK hP dX1_counted_102 ?_
        refine lv_iload_n C.1 C.2.1 dX1_counted_105 rfl (lv_at hl 3 rfl) ?_
        refine lX1_proofs C hK hP h dX1_counted_106 (fun h => ?_)
        refine lv_goto (tgt := 149) C.1 C.2.1 dX1_counted_107 (by decide) ?_
        refine lv_iadd C.1 C.2.1 dX1_counted_149 ?_
        refine lv_istore_n (lv' := [(2, .int (v2 + (S 2 (v3 : Int32).toNatClampNeg))), (0, .ref (a 0)), (1, .int v1), (3, .int v3)]) C.1 C.2.1 dX1_counted_150 rfl hl (by decide) rfl (fun ls hl => ?_)
        refine lv_iinc (v := (v3 + 1)) (lv' := [(3, .int (v3 + 1)), (2, .int (v2 + (S 2 (v3 : Int32).toNatClampNeg))), (0, .ref (a 0)), (1, .int v1)]) C.1 C.2.1 dX1_counted_151 hl (k := 3) rfl rfl (by decide) rfl (fun ls hl => ?_)
        refine lv_goto (tgt := 87) C.1 C.2.1 dX1_counted_154 (by decide) ?_
        exact hih S (v2 + (S 2 (v3 : Int32).toNatClampNeg)) (v3 + 1) h _ _ hP hD hS ls (lv_sub hl [2, 3, 1, 0] rfl)
  unfold mM_counted at h
  refine lv_iconst (v := 0) C.1 C.2.1 dX1_counted_0 (by decide) ?_
  refine lv_istore_n (lv' := [(2, .int 0), (0, .ref (a 0)), (1, .int v1)]) C.1 C.2.1 dX1_counted_1 rfl hl (by decide) rfl (fun ls hl => ?_)
  refine lv_iload_n C.1 C.2.1 dX1_counted_2 rfl (lv_at hl 2 rfl) ?_
  by_cases c3_0 : (v1 : Int32) = 0
  · have h := it_h h c3_0
    refine lv_tableIn (off := 25) (tgt := 28) C.1 C.2.1 dX1_counted_3 (by rw [c3_0]; decide) (by rw [c3_0]; decide) (by rw [c3_0]; rfl) (by decide) ?_
    refine lv_aload_n C.1 C.2.1 dX1_counted_28 rfl (lv_at hl 1 rfl) ?_
    refine gX1_lemmas C hK hP dX1_counted_29 ?_
    exact k_iretW (w := wM cI cZ a) C hr hlk h hP hS dX1_counted_32
  · have h := if_h h c3_0
    by_cases c3_1 : (v1 : Int32) = 1
    · have h := it_h h c3_1
      refine lv_tableIn (off := 30) (tgt := 33) C.1 C.2.1 dX1_counted_3 (by rw [c3_1]; decide) (by rw [c3_1]; decide) (by rw [c3_1]; rfl) (by decide) ?_
      refine lv_aload_n C.1 C.2.1 dX1_counted_33 rfl (lv_at hl 1 rfl) ?_
      refine lv_iconst (v := (-1)) C.1 C.2.1 dX1_counted_34 (by decide) ?_
      refine k_rwVi C (wM_ad _) hK hP hD hS hA [.int (-1)] (wM_rv hK hP) h (fun v S2 e => tX1_prove e) (cb_X1_124 C.2.2.2.2 ⟨Nat.le_of_ble_eq_true rfl, Nat.le_of_ble_eq_true rfl⟩) rfl hl.1 (Nat.le_of_ble_eq_true rfl) ⟨Nat.le_of_ble_eq_true rfl, Nat.le_of_ble_eq_true rfl⟩ dX1_counted_35 rfl (fun x35 S35 H locs e35 h hP hD hS => ?_)
      exact k_iretW (w := wM cI cZ a) C hr hlk h hP hS dX1_counted_38
    · have h := if_h h c3_1
      by_cases c3_2 : (v1 : Int32) = 2
      · have h := it_h h c3_2
        refine lv_tableIn (off := 36) (tgt := 39) C.1 C.2.1 dX1_counted_3 (by rw [c3_2]; decide) (by rw [c3_2]; decide) (by rw [c3_2]; rfl) (by decide) ?_
        refine lv_aload_n C.1 C.2.1 dX1_counted_39 rfl (lv_at hl 1 rfl) ?_
        refine gX1_taken C hK hP dX1_counted_40 ?_
        refine lv_astore_n (lv' := [(3, .ref (a 1)), (2, .int 0), (0, .ref (a 0)), (1, .int v1)]) C.1 C.2.1 dX1_counted_43 rfl hl (by decide) rfl (fun ls hl => ?_)
        refine lv_aload_n C.1 C.2.1 dX1_counted_44 rfl (lv_at hl 0 rfl) ?_
        refine va_alen C.1 C.2.1 hK hP 1 1 rfl rfl (v := 5) rfl dX1_counted_45 ?_
        refine lv_istore (lv' := [(4, .int 5), (3, .ref (a 1)), (2, .int 0), (0, .ref (a 0)), (1, .int v1)]) C.1 C.2.1 dX1_counted_46 hl (by decide) rfl (fun ls hl => ?_)
        refine lv_iconst (v := 0) C.1 C.2.1 dX1_counted_48 (by decide) ?_
        refine lv_istore (lv' := [(5, .int 0), (4, .int 5), (3, .ref (a 1)), (2, .int 0), (0, .ref (a 0)), (1, .int v1)]) C.1 C.2.1 dX1_counted_49 hl (by decide) rfl (fun ls hl => ?_)
        exact L51 _ _ _ hP hD hS 5 _ 0 0 h ls (lv_sub hl [3, 2, 1, 0] rfl)
      · have h := if_h h c3_2
        have e3_0 := sw_ne (j := 0) c3_0 (by decide)
        have e3_1 := sw_ne (j := 1) c3_1 (by decide)
        have e3_2 := sw_ne (j := 2) c3_2 (by decide)
        refine lv_tableOut (tgt := 85) C.1 C.2.1 dX1_counted_3 (by omega) (by decide) ?_
        refine lv_iconst (v := 0) C.1 C.2.1 dX1_counted_85 (by decide) ?_
        refine lv_istore_n (lv' := [(3, .int 0), (2, .int 0), (0, .ref (a 0)), (1, .int v1)]) C.1 C.2.1 dX1_counted_86 rfl hl (by decide) rfl (fun ls hl => ?_)
        exact L87 v1 _ S 0 0 h _ _ hP hD hS ls (lv_sub hl [2, 3, 1, 0] rfl)
set_option maxHeartbeats 4000000 in
set_option maxRecDepth 100000 in
theorem tX1_count {l : Launch} {D : va_G} {cI cZ : ClassId} {a : Nat → Nat} {S : XS} {sz : Nat} {v1 : Int32} {z : (Int32 × XS)} (h : mM_count S v1 = some z) : Met l yX1_count (Cond.code yX1_count cX1_count 2 (some .int) :: WW) ({ frames := 6, cells := 0, slots := 0, locals := 145 }) (va_Pc [.ref (a 0), .int v1] (rwP D (wM cI cZ a S) (tyIZ cI cZ) sz)) (rwQi D (wM cI cZ a z.2) z.1 (va_A (wM cI cZ a S) sz)) 0 0 (va_A (wM cI cZ a S) sz) := by
  refine RW_of (own := RX1) (Qc := fun A => rwQi D (wM cI cZ a z.2) z.1 A) (by decide) rfl (Nat.le_of_ble_eq_true rfl) ?_
  intro p e s m args below meth c A ha C hr hlk hP hK hD hA ls hl
  have hS : va_S A s.heap s.heap [] := va_S.rf
  have hl : lv_has ls 2 [(0, .ref (a 0)), (1, .int v1)] := hl
  unfold mM_count at h
  refine lv_aload_n C.1 C.2.1 dX1_count_0 rfl (lv_at hl 0 rfl) ?_
  refine lv_iconst (v := 0) C.1 C.2.1 dX1_count_1 (by decide) ?_
  refine pX1_thrown C hK hP hD hS h dX1_count_2 (fun S2 H locs h hP hD hS => ?_)
  refine lv_iload_n C.1 C.2.1 dX1_count_5 rfl (lv_at hl 1 rfl) ?_
  refine lv_iconst (v := 0) C.1 C.2.1 dX1_count_6 (by decide) ?_
  refine lv_bipush (v := 6) C.1 C.2.1 dX1_count_7 (by decide) ?_
  refine k_prS C [.int v1, .int 0, .int 6] h (fun v e => tX1_isIn e) (cb_X1_48 C.2.2.2.2 ⟨Nat.le_of_ble_eq_true rfl, Nat.le_of_ble_eq_true rfl⟩) rfl hl.1 (Nat.le_of_ble_eq_true rfl) ⟨Nat.le_of_ble_eq_true rfl, Nat.le_of_ble_eq_true rfl⟩ dX1_count_9 rfl (fun x9 e9 h => ?_)
  refine k_if_eq (tgt := 23) C dX1_count_12 (by decide) h (fun c12 h => ?_) (fun c12 h => ?_)
  · refine lv_aload_n C.1 C.2.1 dX1_count_23 rfl (lv_at hl 0 rfl) ?_
    refine lv_iconst (v := 1) C.1 C.2.1 dX1_count_24 (by decide) ?_
    refine k_rwVi C (wM_ad _) hK hP hD hS hA [.int 1] (wM_rv hK hP) h (fun v S2 e => tX1_no e) (cb_X1_104 C.2.2.2.2 ⟨Nat.le_of_ble_eq_true rfl, Nat.le_of_ble_eq_true rfl⟩) rfl hl.1 (Nat.le_of_ble_eq_true rfl) ⟨Nat.le_of_ble_eq_true rfl, Nat.le_of_ble_eq_true rfl⟩ dX1_count_25 rfl (fun x25 S25 H locs e25 h hP hD hS => ?_)
    exact k_iretW (w := wM cI cZ a) C hr hlk h hP hS dX1_count_28
  · refine lv_aload_n C.1 C.2.1 dX1_count_15 rfl (lv_at hl 0 rfl) ?_
    refine lv_iload_n C.1 C.2.1 dX1_count_16 rfl (lv_at hl 1 rfl) ?_
    refine k_rwVi C (wM_ad _) hK hP hD hS hA [.int v1] (wM_rv hK hP) h (fun v S2 e => tX1_counted e) (cb_X1_154 C.2.2.2.2 ⟨Nat.le_of_ble_eq_true rfl, Nat.le_of_ble_eq_true rfl⟩) rfl hl.1 (Nat.le_of_ble_eq_true rfl) ⟨Nat.le_of_ble_eq_true rfl, Nat.le_of_ble_eq_true rfl⟩ dX1_count_17 rfl (fun x17 S17 H locs e17 h hP hD hS => ?_)
    refine lv_goto (tgt := 28) C.1 C.2.1 dX1_count_20 (by decide) ?_
    exact k_iretW (w := wM cI cZ a) C hr hlk h hP hS dX1_count_28
set_option maxHeartbeats 4000000 in
set_option maxRecDepth 100000 in
theorem tX1_bestOf {l : Launch} {D : va_G} {cI cZ : ClassId} {a : Nat → Nat} {S : XS} {sz : Nat} {v1 : Int32} {z : (Int32 × XS)} (h : mM_bestOf S v1 = some z) : Met l yX1_bestOf (Cond.code yX1_bestOf cX1_bestOf 4 (some .int) :: WW) ({ frames := 5, cells := 0, slots := 0, locals := 116 }) (va_Pc [.ref (a 0), .int v1] (rwP D (wM cI cZ a S) (tyIZ cI cZ) sz)) (rwQi D (wM cI cZ a z.2) z.1 (va_A (wM cI cZ a S) sz)) 0 0 (va_A (wM cI cZ a S) sz) := by
  refine RW_of (own := RX1) (Qc := fun A => rwQi D (wM cI cZ a z.2) z.1 A) (by decide) rfl (Nat.le_of_ble_eq_true rfl) ?_
  intro p e s m args below meth c A ha C hr hlk hP hK hD hA ls hl
  have hS : va_S A s.heap s.heap [] := va_S.rf
  have hl : lv_has ls 4 [(0, .ref (a 0)), (1, .int v1)] := hl
  have L8 : ∀ (S : XS) (H : Heap) (locs : List Loc) (hP : va_P D vwCl (wM cI cZ a S) H) (hD : va_D A (wM cI cZ a S)) (hS : va_S A s.heap H locs) (v1 : Int32) (n : Nat) (v2 : Int32) (v3 : Int32), itr2 (mM_bestOf_F8 S v1) n v2 v3 = some z → ∀ ls : Array Slot, lv_has ls 4 [(0, .ref (a 0)), (1, .int v1), (2, .int v2), (3, .int v3)] → W p l e { frames := 5, cells := 0, slots := 0, locals := 116 } s m args below meth c H locs 0 0 (MQ below (rwQi D (wM cI cZ a z.2) z.1 A) args s 0 0 A) (F0 m 8 ls []) := by
    intro S H locs hP hD hS v1 n
    refine itr2_ind (fun (v2 : Int32) (v3 : Int32) => ∀ ls : Array Slot, lv_has ls 4 [(0, .ref (a 0)), (1, .int v1), (2, .int v2), (3, .int v3)] → W p l e { frames := 5, cells := 0, slots := 0, locals := 116 } s m args below meth c H locs 0 0 (MQ below (rwQi D (wM cI cZ a z.2) z.1 A) args s 0 0 A) (F0 m 8 ls [])) ?_ n
    intro ih hih v2 v3 h ls hl
    unfold mM_bestOf_F8 at h
    refine lv_iload_n C.1 C.2.1 dX1_bestOf_8 rfl (lv_at hl 3 rfl) ?_
    refine lv_aload_n C.1 C.2.1 dX1_bestOf_9 rfl (lv_at hl 0 rfl) ?_
    refine gX1_proofs C hK hP dX1_bestOf_10 ?_
    refine lv_iload_n C.1 C.2.1 dX1_bestOf_13 rfl (lv_at hl 1 rfl) ?_
    refine lX1_proofs C hK hP h dX1_bestOf_14 (fun h => ?_)
    refine k_icmp_ge (tgt := 52) C dX1_bestOf_15 (by decide) h (fun c15 h => ?_) (fun c15 h => ?_)
    · refine lv_iload_n C.1 C.2.1 dX1_bestOf_52 rfl (lv_at hl 2 rfl) ?_
      exact k_iretW (w := wM cI cZ a) C hr hlk h hP hS dX1_bestOf_53
    · refine lv_aload_n C.1 C.2.1 dX1_bestOf_18 rfl (lv_at hl 0 rfl) ?_
      refine lv_iload_n C.1 C.2.1 dX1_bestOf_19 rfl (lv_at hl 1 rfl) ?_
      refine lv_iload_n C.1 C.2.1 dX1_bestOf_20 rfl (lv_at hl 3 rfl) ?_
      refine k_roVi C hK hP [.int v1, .int v3] (wM_rv hK hP) h (fun v e => tX1_lengthOf e) (cb_X1_86 C.2.2.2.2 ⟨Nat.le_of_ble_eq_true rfl, Nat.le_of_ble_eq_true rfl⟩) rfl hl.1 (Nat.le_of_ble_eq_true rfl) ⟨Nat.le_of_ble_eq_true rfl, Nat.le_of_ble_eq_true rfl⟩ dX1_bestOf_21 rfl (fun x21 e21 h => ?_)
      refine lv_iload_n C.1 C.2.1 dX1_bestOf_24 rfl (lv_at hl 2 rfl) ?_
      refine lv_iconst (v := (-1)) C.1 C.2.1 dX1_bestOf_25 (by decide) ?_
      refine k_icmp_ne (tgt := 35) C dX1_bestOf_26 (by decide) h (fun c26 h => ?_) (fun c26 h => ?_)
      · refine lv_aload_n C.1 C.2.1 dX1_bestOf_35 rfl (lv_at hl 0 rfl) ?_
        refine lv_iload_n C.1 C.2.1 dX1_bestOf_36 rfl (lv_at hl 1 rfl) ?_
        refine lv_iload_n C.1 C.2.1 dX1_bestOf_37 rfl (lv_at hl 2 rfl) ?_
        refine k_roVi C hK hP [.int v1, .int v2] (wM_rv hK hP) h (fun v e => tX1_lengthOf e) (cb_X1_86 C.2.2.2.2 ⟨Nat.le_of_ble_eq_true rfl, Nat.le_of_ble_eq_true rfl⟩) rfl hl.1 (Nat.le_of_ble_eq_true rfl) ⟨Nat.le_of_ble_eq_true rfl, Nat.le_of_ble_eq_true rfl⟩ dX1_bestOf_38 rfl (fun x38 e38 h => ?_)
        refine k_icmp_ge (tgt := 46) C dX1_bestOf_41 (by decide) h (fun c41 h => ?_) (fun c41 h => ?_)
        · refine lv_iinc (v := (v3 + 1)) (lv' := [(3, .int (v3 + 1)), (0, .ref (a 0)), (1, .int v1), (2, .int v2)]) C.1 C.2.1 dX1_bestOf_46 hl (k := 3) rfl rfl (by decide) rfl (fun ls hl => ?_)
          refine lv_goto (tgt := 8) C.1 C.2.1 dX1_bestOf_49 (by decide) ?_
          exact hih v2 (v3 + 1) h ls (lv_sub hl [1, 2, 3, 0] rfl)
        · refine lv_iload_n C.1 C.2.1 dX1_bestOf_44 rfl (lv_at hl 3 rfl) ?_
          refine lv_istore_n (lv' := [(2, .int v3), (0, .ref (a 0)), (1, .int v1), (3, .int v3)]) C.1 C.2.1 dX1_bestOf_45 rfl hl (by decide) rfl (fun ls hl => ?_)
          refine lv_iinc (v := (v3 + 1)) (lv' := [(3, .int (v3 + 1)), (2, .int v3), (0, .ref (a 0)), (1, .int v1)]) C.1 C.2.1 dX1_bestOf_46 hl (k := 3) rfl rfl (by decide) rfl (fun ls hl => ?_)
          refine lv_goto (tgt := 8) C.1 C.2.1 dX1_bestOf_49 (by decide) ?_
          exact hih v3 (v3 + 1) h ls (lv_sub hl [2, 3, 1, 0] rfl)
      · refine lv_sipush (v := 9999) C.1 C.2.1 dX1_bestOf_29 (by decide) ?_
        refine lv_goto (tgt := 41) C.1 C.2.1 dX1_bestOf_32 (by decide) ?_
        refine k_icmp_ge (tgt := 46) C dX1_bestOf_41 (by decide) h (fun c41 h => ?_) (fun c41 h => ?_)
        · refine lv_iinc (v := (v3 + 1)) (lv' := [(3, .int (v3 + 1)), (0, .ref (a 0)), (1, .int v1), (2, .int v2)]) C.1 C.2.1 dX1_bestOf_46 hl (k := 3) rfl rfl (by decide) rfl (fun ls hl => ?_)
          refine lv_goto (tgt := 8) C.1 C.2.1 dX1_bestOf_49 (by decide) ?_
          exact hih v2 (v3 + 1) h ls (lv_sub hl [1, 2, 3, 0] rfl)
        · refine lv_iload_n C.1 C.2.1 dX1_bestOf_44 rfl (lv_at hl 3 rfl) ?_
          refine lv_istore_n (lv' := [(2, .int v3), (0, .ref (a 0)), (1, .int v1), (3, .int v3)]) C.1 C.2.1 dX1_bestOf_45 rfl hl (by decide) rfl (fun ls hl => ?_)
          refine lv_iinc (v := (v3 + 1)) (lv' := [(3, .int (v3 + 1)), (2, .int v3), (0, .ref (a 0)), (1, .int v1)]) C.1 C.2.1 dX1_bestOf_46 hl (k := 3) rfl rfl (by decide) rfl (fun ls hl => ?_)
          refine lv_goto (tgt := 8) C.1 C.2.1 dX1_bestOf_49 (by decide) ?_
          exact hih v3 (v3 + 1) h ls (lv_sub hl [2, 3, 1, 0] rfl)
  unfold mM_bestOf at h
  refine lv_aload_n C.1 C.2.1 dX1_bestOf_0 rfl (lv_at hl 0 rfl) ?_
  refine k_rwVv C (wM_ad _) hK hP hD hS hA [] (wM_rv hK hP) h (fun v S2 e => tX1_measure e) (cb_X1_127 C.2.2.2.2 ⟨Nat.le_of_ble_eq_true rfl, Nat.le_of_ble_eq_true rfl⟩) rfl hl.1 (Nat.le_of_ble_eq_true rfl) ⟨Nat.le_of_ble_eq_true rfl, Nat.le_of_ble_eq_true rfl⟩ dX1_bestOf_1 rfl (fun x1 S1 H locs e1 h hP hD hS => ?_)
  refine lv_iconst (v := (-1)) C.1 C.2.1 dX1_bestOf_4 (by decide) ?_
  refine lv_istore_n (lv' := [(2, .int (-1)), (0, .ref (a 0)), (1, .int v1)]) C.1 C.2.1 dX1_bestOf_5 rfl hl (by decide) rfl (fun ls hl => ?_)
  refine lv_iconst (v := 0) C.1 C.2.1 dX1_bestOf_6 (by decide) ?_
  refine lv_istore_n (lv' := [(3, .int 0), (2, .int (-1)), (0, .ref (a 0)), (1, .int v1)]) C.1 C.2.1 dX1_bestOf_7 rfl hl (by decide) rfl (fun ls hl => ?_)
  exact L8 _ _ _ hP hD hS v1 _ (-1) 0 h ls (lv_sub hl [2, 3, 1, 0] rfl)
set_option maxHeartbeats 4000000 in
set_option maxRecDepth 100000 in
theorem tX1_best {l : Launch} {D : va_G} {cI cZ : ClassId} {a : Nat → Nat} {S : XS} {sz : Nat} {v1 : Int32} {z : (Int32 × XS)} (h : mM_best S v1 = some z) : Met l yX1_best (Cond.code yX1_best cX1_best 2 (some .int) :: WW) ({ frames := 6, cells := 0, slots := 0, locals := 139 }) (va_Pc [.ref (a 0), .int v1] (rwP D (wM cI cZ a S) (tyIZ cI cZ) sz)) (rwQi D (wM cI cZ a z.2) z.1 (va_A (wM cI cZ a S) sz)) 0 0 (va_A (wM cI cZ a S) sz) := by
  refine RW_of (own := RX1) (Qc := fun A => rwQi D (wM cI cZ a z.2) z.1 A) (by decide) rfl (Nat.le_of_ble_eq_true rfl) ?_
  intro p e s m args below meth c A ha C hr hlk hP hK hD hA ls hl
  have hS : va_S A s.heap s.heap [] := va_S.rf
  have hl : lv_has ls 2 [(0, .ref (a 0)), (1, .int v1)] := hl
  unfold mM_best at h
  refine lv_aload_n C.1 C.2.1 dX1_best_0 rfl (lv_at hl 0 rfl) ?_
  refine lv_iconst (v := 0) C.1 C.2.1 dX1_best_1 (by decide) ?_
  refine pX1_thrown C hK hP hD hS h dX1_best_2 (fun S2 H locs h hP hD hS => ?_)
  refine lv_aload_n C.1 C.2.1 dX1_best_5 rfl (lv_at hl 0 rfl) ?_
  refine lv_iload_n C.1 C.2.1 dX1_best_6 rfl (lv_at hl 1 rfl) ?_
  refine k_roVi C hK hP [.int v1] (wM_rv hK hP) h (fun v e => tX1_isLemma e) (cb_X1_55 C.2.2.2.2 ⟨Nat.le_of_ble_eq_true rfl, Nat.le_of_ble_eq_true rfl⟩) rfl hl.1 (Nat.le_of_ble_eq_true rfl) ⟨Nat.le_of_ble_eq_true rfl, Nat.le_of_ble_eq_true rfl⟩ dX1_best_7 rfl (fun x7 e7 h => ?_)
  refine k_if_eq (tgt := 21) C dX1_best_10 (by decide) h (fun c10 h => ?_) (fun c10 h => ?_)
  · refine lv_aload_n C.1 C.2.1 dX1_best_21 rfl (lv_at hl 0 rfl) ?_
    refine lv_iconst (v := 1) C.1 C.2.1 dX1_best_22 (by decide) ?_
    refine k_rwVi C (wM_ad _) hK hP hD hS hA [.int 1] (wM_rv hK hP) h (fun v S2 e => tX1_no e) (cb_X1_104 C.2.2.2.2 ⟨Nat.le_of_ble_eq_true rfl, Nat.le_of_ble_eq_true rfl⟩) rfl hl.1 (Nat.le_of_ble_eq_true rfl) ⟨Nat.le_of_ble_eq_true rfl, Nat.le_of_ble_eq_true rfl⟩ dX1_best_23 rfl (fun x23 S23 H locs e23 h hP hD hS => ?_)
    exact k_iretW (w := wM cI cZ a) C hr hlk h hP hS dX1_best_26
  · refine lv_aload_n C.1 C.2.1 dX1_best_13 rfl (lv_at hl 0 rfl) ?_
    refine lv_iload_n C.1 C.2.1 dX1_best_14 rfl (lv_at hl 1 rfl) ?_
    refine k_rwVi C (wM_ad _) hK hP hD hS hA [.int v1] (wM_rv hK hP) h (fun v S2 e => tX1_bestOf e) (cb_X1_157 C.2.2.2.2 ⟨Nat.le_of_ble_eq_true rfl, Nat.le_of_ble_eq_true rfl⟩) rfl hl.1 (Nat.le_of_ble_eq_true rfl) ⟨Nat.le_of_ble_eq_true rfl, Nat.le_of_ble_eq_true rfl⟩ dX1_best_15 rfl (fun x15 S15 H locs e15 h hP hD hS => ?_)
    refine lv_goto (tgt := 26) C.1 C.2.1 dX1_best_18 (by decide) ?_
    exact k_iretW (w := wM cI cZ a) C hr hlk h hP hS dX1_best_26
set_option maxHeartbeats 4000000 in
set_option maxRecDepth 100000 in
theorem tX1_without {l : Launch} {D : va_G} {cI cZ : ClassId} {a : Nat → Nat} {S : XS} {sz : Nat} {v1 : Int32} {z : (Int32 × XS)} (h : mM_without S v1 = some z) : Met l yX1_without (Cond.code yX1_without cX1_without 2 (some .int) :: WW) ({ frames := 5, cells := 0, slots := 0, locals := 119 }) (va_Pc [.ref (a 0), .int v1] (rwP D (wM cI cZ a S) (tyIZ cI cZ) sz)) (rwQi D (wM cI cZ a z.2) z.1 (va_A (wM cI cZ a S) sz)) 0 0 (va_A (wM cI cZ a S) sz) := by
  refine RW_of (own := RX1) (Qc := fun A => rwQi D (wM cI cZ a z.2) z.1 A) (by decide) rfl (Nat.le_of_ble_eq_true rfl) ?_
  intro p e s m args below meth c A ha C hr hlk hP hK hD hA ls hl
  have hS : va_S A s.heap s.heap [] := va_S.rf
  have hl : lv_has ls 2 [(0, .ref (a 0)), (1, .int v1)] := hl
  unfold mM_without at h
  refine lv_aload_n C.1 C.2.1 dX1_without_0 rfl (lv_at hl 0 rfl) ?_
  refine lv_iconst (v := 0) C.1 C.2.1 dX1_without_1 (by decide) ?_
  refine pX1_thrown C hK hP hD hS h dX1_without_2 (fun S2 H locs h hP hD hS => ?_)
  refine lv_aload_n C.1 C.2.1 dX1_without_5 rfl (lv_at hl 0 rfl) ?_
  refine lv_iload_n C.1 C.2.1 dX1_without_6 rfl (lv_at hl 1 rfl) ?_
  refine k_roVi C hK hP [.int v1] (wM_rv hK hP) h (fun v e => tX1_isLemma e) (cb_X1_55 C.2.2.2.2 ⟨Nat.le_of_ble_eq_true rfl, Nat.le_of_ble_eq_true rfl⟩) rfl hl.1 (Nat.le_of_ble_eq_true rfl) ⟨Nat.le_of_ble_eq_true rfl, Nat.le_of_ble_eq_true rfl⟩ dX1_without_7 rfl (fun x7 e7 h => ?_)
  refine k_if_eq (tgt := 21) C dX1_without_10 (by decide) h (fun c10 h => ?_) (fun c10 h => ?_)
  · refine lv_aload_n C.1 C.2.1 dX1_without_21 rfl (lv_at hl 0 rfl) ?_
    refine lv_iconst (v := 1) C.1 C.2.1 dX1_without_22 (by decide) ?_
    refine k_rwVi C (wM_ad _) hK hP hD hS hA [.int 1] (wM_rv hK hP) h (fun v S2 e => tX1_no e) (cb_X1_104 C.2.2.2.2 ⟨Nat.le_of_ble_eq_true rfl, Nat.le_of_ble_eq_true rfl⟩) rfl hl.1 (Nat.le_of_ble_eq_true rfl) ⟨Nat.le_of_ble_eq_true rfl, Nat.le_of_ble_eq_true rfl⟩ dX1_without_23 rfl (fun x23 S23 H locs e23 h hP hD hS => ?_)
    exact k_iretW (w := wM cI cZ a) C hr hlk h hP hS dX1_without_26
  · refine lv_aload_n C.1 C.2.1 dX1_without_13 rfl (lv_at hl 0 rfl) ?_
    refine lv_iload_n C.1 C.2.1 dX1_without_14 rfl (lv_at hl 1 rfl) ?_
    refine k_rwVi C (wM_ad _) hK hP hD hS hA [.int v1] (wM_rv hK hP) h (fun v S2 e => tX1_prove e) (cb_X1_124 C.2.2.2.2 ⟨Nat.le_of_ble_eq_true rfl, Nat.le_of_ble_eq_true rfl⟩) rfl hl.1 (Nat.le_of_ble_eq_true rfl) ⟨Nat.le_of_ble_eq_true rfl, Nat.le_of_ble_eq_true rfl⟩ dX1_without_15 rfl (fun x15 S15 H locs e15 h hP hD hS => ?_)
    refine lv_goto (tgt := 26) C.1 C.2.1 dX1_without_18 (by decide) ?_
    exact k_iretW (w := wM cI cZ a) C hr hlk h hP hS dX1_without_26
set_option maxHeartbeats 4000000 in
set_option maxRecDepth 100000 in
theorem tX1_isNeeded {l : Launch} {D : va_G} {cI cZ : ClassId} {a : Nat → Nat} {S : XS} {sz : Nat} {v1 : Int32} {v2 : Int32} {z : (Int32 × XS)} (h : mM_isNeeded S v1 v2 = some z) : Met l yX1_isNeeded (Cond.code yX1_isNeeded cX1_isNeeded 4 (some .boolean) :: WW) ({ frames := 6, cells := 0, slots := 0, locals := 140 }) (va_Pc [.ref (a 0), .int v1, .int v2] (rwP D (wM cI cZ a S) (tyIZ cI cZ) sz)) (rwQi D (wM cI cZ a z.2) z.1 (va_A (wM cI cZ a S) sz)) 0 0 (va_A (wM cI cZ a S) sz) := by
  refine RW_of (own := RX1) (Qc := fun A => rwQi D (wM cI cZ a z.2) z.1 A) (by decide) rfl (Nat.le_of_ble_eq_true rfl) ?_
  intro p e s m args below meth c A ha C hr hlk hP hK hD hA ls hl
  have hS : va_S A s.heap s.heap [] := va_S.rf
  have hl : lv_has ls 4 [(0, .ref (a 0)), (1, .int v1), (2, .int v2)] := hl
  unfold mM_isNeeded at h
  refine lv_aload_n C.1 C.2.1 dX1_isNeeded_0 rfl (lv_at hl 0 rfl) ?_
  refine gX1_taken C hK hP dX1_isNeeded_1 ?_
  refine lv_iload_n C.1 C.2.1 dX1_isNeeded_4 rfl (lv_at hl 2 rfl) ?_
  refine lX1_taken C hK hP h dX1_isNeeded_5 (fun h => ?_)
  refine k_if_eq (tgt := 17) C dX1_isNeeded_6 (by decide) h (fun c6 h => ?_) (fun c6 h => ?_)
  · refine lv_iconst (v := 0) C.1 C.2.1 dX1_isNeeded_17 (by decide) ?_
    exact k_zretW (w := wM cI cZ a) C hr hlk h hP hS dX1_isNeeded_18
  · refine lv_aload_n C.1 C.2.1 dX1_isNeeded_9 rfl (lv_at hl 0 rfl) ?_
    refine lv_iload_n C.1 C.2.1 dX1_isNeeded_10 rfl (lv_at hl 1 rfl) ?_
    refine k_rwVi C (wM_ad _) hK hP hD hS hA [.int v1] (wM_rv hK hP) h (fun v S2 e => tX1_stageOf e) (cb_X1_133 C.2.2.2.2 ⟨Nat.le_of_ble_eq_true rfl, Nat.le_of_ble_eq_true rfl⟩) rfl hl.1 (Nat.le_of_ble_eq_true rfl) ⟨Nat.le_of_ble_eq_true rfl, Nat.le_of_ble_eq_true rfl⟩ dX1_isNeeded_11 rfl (fun x11 S11 H locs e11 h hP hD hS => ?_)
    refine k_if_ne (tgt := 19) C dX1_isNeeded_14 (by decide) h (fun c14 h => ?_) (fun c14 h => ?_)
    · refine lv_aload_n C.1 C.2.1 dX1_isNeeded_19 rfl (lv_at hl 0 rfl) ?_
      refine gX1_taken C hK hP dX1_isNeeded_20 ?_
      refine lv_iload_n C.1 C.2.1 dX1_isNeeded_23 rfl (lv_at hl 2 rfl) ?_
      refine lv_iconst (v := 0) C.1 C.2.1 dX1_isNeeded_24 (by decide) ?_
      refine sX1_taken C hK hP hD hS h dX1_isNeeded_25 (fun S25 H locs h hP hD hS => ?_)
      refine lv_aload_n C.1 C.2.1 dX1_isNeeded_26 rfl (lv_at hl 0 rfl) ?_
      refine lv_iload_n C.1 C.2.1 dX1_isNeeded_27 rfl (lv_at hl 1 rfl) ?_
      refine k_rwVi C (wM_ad _) hK hP hD hS hA [.int v1] (wM_rv hK hP) h (fun v S2 e => tX1_stageOf e) (cb_X1_133 C.2.2.2.2 ⟨Nat.le_of_ble_eq_true rfl, Nat.le_of_ble_eq_true rfl⟩) rfl hl.1 (Nat.le_of_ble_eq_true rfl) ⟨Nat.le_of_ble_eq_true rfl, Nat.le_of_ble_eq_true rfl⟩ dX1_isNeeded_28 rfl (fun x28 S28 H locs e28 h hP hD hS => ?_)
      refine k_if_ne (tgt := 38) C dX1_isNeeded_31 (by decide) h (fun c31 h => ?_) (fun c31 h => ?_)
      · refine lv_iconst (v := 0) C.1 C.2.1 dX1_isNeeded_38 (by decide) ?_
        refine lv_istore_n (lv' := [(3, .int 0), (0, .ref (a 0)), (1, .int v1), (2, .int v2)]) C.1 C.2.1 dX1_isNeeded_39 rfl hl (by decide) rfl (fun ls hl => ?_)
        refine lv_aload_n C.1 C.2.1 dX1_isNeeded_40 rfl (lv_at hl 1 rfl) ?_
        refine gX1_taken C hK hP dX1_isNeeded_41 ?_
        refine lv_iload_n C.1 C.2.1 dX1_isNeeded_44 rfl (lv_at hl 3 rfl) ?_
        refine lv_iconst (v := 1) C.1 C.2.1 dX1_isNeeded_45 (by decide) ?_
        refine sX1_taken C hK hP hD hS h dX1_isNeeded_46 (fun S46 H locs h hP hD hS => ?_)
        refine lv_iload_n C.1 C.2.1 dX1_isNeeded_47 rfl (lv_at hl 0 rfl) ?_
        exact k_zretW (w := wM cI cZ a) C hr hlk h hP hS dX1_isNeeded_48
      · refine lv_iconst (v := 1) C.1 C.2.1 dX1_isNeeded_34 (by decide) ?_
        refine lv_goto (tgt := 39) C.1 C.2.1 dX1_isNeeded_35 (by decide) ?_
        refine lv_istore_n (lv' := [(3, .int 1), (0, .ref (a 0)), (1, .int v1), (2, .int v2)]) C.1 C.2.1 dX1_isNeeded_39 rfl hl (by decide) rfl (fun ls hl => ?_)
        refine lv_aload_n C.1 C.2.1 dX1_isNeeded_40 rfl (lv_at hl 1 rfl) ?_
        refine gX1_taken C hK hP dX1_isNeeded_41 ?_
        refine lv_iload_n C.1 C.2.1 dX1_isNeeded_44 rfl (lv_at hl 3 rfl) ?_
        refine lv_iconst (v := 1) C.1 C.2.1 dX1_isNeeded_45 (by decide) ?_
        refine sX1_taken C hK hP hD hS h dX1_isNeeded_46 (fun S46 H locs h hP hD hS => ?_)
        refine lv_iload_n C.1 C.2.1 dX1_isNeeded_47 rfl (lv_at hl 0 rfl) ?_
        exact k_zretW (w := wM cI cZ a) C hr hlk h hP hS dX1_isNeeded_48
    · refine lv_iconst (v := 0) C.1 C.2.1 dX1_isNeeded_17 (by decide) ?_
      exact k_zretW (w := wM cI cZ a) C hr hlk h hP hS dX1_isNeeded_18
set_option maxHeartbeats 4000000 in
set_option maxRecDepth 100000 in
theorem tX1_needs {l : Launch} {D : va_G} {cI cZ : ClassId} {a : Nat → Nat} {S : XS} {sz : Nat} {v1 : Int32} {v2 : Int32} {z : (Int32 × XS)} (h : mM_needs S v1 v2 = some z) : Met l yX1_needs (Cond.code yX1_needs cX1_needs 3 (some .boolean) :: WW) ({ frames := 7, cells := 0, slots := 0, locals := 163 }) (va_Pc [.ref (a 0), .int v1, .int v2] (rwP D (wM cI cZ a S) (tyIZ cI cZ) sz)) (rwQi D (wM cI cZ a z.2) z.1 (va_A (wM cI cZ a S) sz)) 0 0 (va_A (wM cI cZ a S) sz) := by
  refine RW_of (own := RX1) (Qc := fun A => rwQi D (wM cI cZ a z.2) z.1 A) (by decide) rfl (Nat.le_of_ble_eq_true rfl) ?_
  intro p e s m args below meth c A ha C hr hlk hP hK hD hA ls hl
  have hS : va_S A s.heap s.heap [] := va_S.rf
  have hl : lv_has ls 3 [(0, .ref (a 0)), (1, .int v1), (2, .int v2)] := hl
  unfold mM_needs at h
  refine lv_aload_n C.1 C.2.1 dX1_needs_0 rfl (lv_at hl 0 rfl) ?_
  refine lv_aload_n C.1 C.2.1 dX1_needs_1 rfl (lv_at hl 0 rfl) ?_
  refine lv_iload_n C.1 C.2.1 dX1_needs_2 rfl (lv_at hl 1 rfl) ?_
  refine k_roVi C hK hP [.int v1] (wM_rv hK hP) h (fun v e => tX1_isLemma e) (cb_X1_55 C.2.2.2.2 ⟨Nat.le_of_ble_eq_true rfl, Nat.le_of_ble_eq_true rfl⟩) rfl hl.1 (Nat.le_of_ble_eq_true rfl) ⟨Nat.le_of_ble_eq_true rfl, Nat.le_of_ble_eq_true rfl⟩ dX1_needs_3 rfl (fun x3 e3 h => ?_)
  refine k_if_eq (tgt := 20) C dX1_needs_6 (by decide) h (fun c6 h => ?_) (fun c6 h => ?_)
  · refine lv_iconst (v := 1) C.1 C.2.1 dX1_needs_20 (by decide) ?_
    refine pX1_thrown C hK hP hD hS h dX1_needs_21 (fun S21 H locs h hP hD hS => ?_)
    refine lv_aload_n C.1 C.2.1 dX1_needs_24 rfl (lv_at hl 0 rfl) ?_
    refine gX1_thrown C hK hP dX1_needs_25 ?_
    refine k_if_ne (tgt := 44) C dX1_needs_28 (by decide) h (fun c28 h => ?_) (fun c28 h => ?_)
    · refine lv_iconst (v := 0) C.1 C.2.1 dX1_needs_44 (by decide) ?_
      exact k_zretW (w := wM cI cZ a) C hr hlk h hP hS dX1_needs_45
    · refine lv_aload_n C.1 C.2.1 dX1_needs_31 rfl (lv_at hl 0 rfl) ?_
      refine lv_iload_n C.1 C.2.1 dX1_needs_32 rfl (lv_at hl 1 rfl) ?_
      refine lv_iload_n C.1 C.2.1 dX1_needs_33 rfl (lv_at hl 2 rfl) ?_
      refine k_rwVi C (wM_ad _) hK hP hD hS hA [.int v1, .int v2] (wM_rv hK hP) h (fun v S2 e => tX1_isNeeded e) (cb_X1_160 C.2.2.2.2 ⟨Nat.le_of_ble_eq_true rfl, Nat.le_of_ble_eq_true rfl⟩) rfl hl.1 (Nat.le_of_ble_eq_true rfl) ⟨Nat.le_of_ble_eq_true rfl, Nat.le_of_ble_eq_true rfl⟩ dX1_needs_34 rfl (fun x34 S34 H locs e34 h hP hD hS => ?_)
      refine k_if_eq (tgt := 44) C dX1_needs_37 (by decide) h (fun c37 h => ?_) (fun c37 h => ?_)
      · refine lv_iconst (v := 0) C.1 C.2.1 dX1_needs_44 (by decide) ?_
        exact k_zretW (w := wM cI cZ a) C hr hlk h hP hS dX1_needs_45
      · refine lv_iconst (v := 1) C.1 C.2.1 dX1_needs_40 (by decide) ?_
        refine lv_goto (tgt := 45) C.1 C.2.1 dX1_needs_41 (by decide) ?_
        exact k_zretW (w := wM cI cZ a) C hr hlk h hP hS dX1_needs_45
  · refine lv_iload_n C.1 C.2.1 dX1_needs_9 rfl (lv_at hl 2 rfl) ?_
    refine k_prS C [.int v2] h (fun v e => tX1_isAxiom e) (cb_X1_101 C.2.2.2.2 ⟨Nat.le_of_ble_eq_true rfl, Nat.le_of_ble_eq_true rfl⟩) rfl hl.1 (Nat.le_of_ble_eq_true rfl) ⟨Nat.le_of_ble_eq_true rfl, Nat.le_of_ble_eq_true rfl⟩ dX1_needs_10 rfl (fun x10 e10 h => ?_)
    refine k_if_eq (tgt := 20) C dX1_needs_13 (by decide) h (fun c13 h => ?_) (fun c13 h => ?_)
    · refine lv_iconst (v := 1) C.1 C.2.1 dX1_needs_20 (by decide) ?_
      refine pX1_thrown C hK hP hD hS h dX1_needs_21 (fun S21 H locs h hP hD hS => ?_)
      refine lv_aload_n C.1 C.2.1 dX1_needs_24 rfl (lv_at hl 0 rfl) ?_
      refine gX1_thrown C hK hP dX1_needs_25 ?_
      refine k_if_ne (tgt := 44) C dX1_needs_28 (by decide) h (fun c28 h => ?_) (fun c28 h => ?_)
      · refine lv_iconst (v := 0) C.1 C.2.1 dX1_needs_44 (by decide) ?_
        exact k_zretW (w := wM cI cZ a) C hr hlk h hP hS dX1_needs_45
      · refine lv_aload_n C.1 C.2.1 dX1_needs_31 rfl (lv_at hl 0 rfl) ?_
        refine lv_iload_n C.1 C.2.1 dX1_needs_32 rfl (lv_at hl 1 rfl) ?_
        refine lv_iload_n C.1 C.2.1 dX1_needs_33 rfl (lv_at hl 2 rfl) ?_
        refine k_rwVi C (wM_ad _) hK hP hD hS hA [.int v1, .int v2] (wM_rv hK hP) h (fun v S2 e => tX1_isNeeded e) (cb_X1_160 C.2.2.2.2 ⟨Nat.le_of_ble_eq_true rfl, Nat.le_of_ble_eq_true rfl⟩) rfl hl.1 (Nat.le_of_ble_eq_true rfl) ⟨Nat.le_of_ble_eq_true rfl, Nat.le_of_ble_eq_true rfl⟩ dX1_needs_34 rfl (fun x34 S34 H locs e34 h hP hD hS => ?_)
        refine k_if_eq (tgt := 44) C dX1_needs_37 (by decide) h (fun c37 h => ?_) (fun c37 h => ?_)
        · refine lv_iconst (v := 0) C.1 C.2.1 dX1_needs_44 (by decide) ?_
          exact k_zretW (w := wM cI cZ a) C hr hlk h hP hS dX1_needs_45
        · refine lv_iconst (v := 1) C.1 C.2.1 dX1_needs_40 (by decide) ?_
          refine lv_goto (tgt := 45) C.1 C.2.1 dX1_needs_41 (by decide) ?_
          exact k_zretW (w := wM cI cZ a) C hr hlk h hP hS dX1_needs_45
    · refine lv_iconst (v := 0) C.1 C.2.1 dX1_needs_16 (by decide) ?_
      refine lv_goto (tgt := 21) C.1 C.2.1 dX1_needs_17 (by decide) ?_
      refine pX1_thrown C hK hP hD hS h dX1_needs_21 (fun S21 H locs h hP hD hS => ?_)
      refine lv_aload_n C.1 C.2.1 dX1_needs_24 rfl (lv_at hl 0 rfl) ?_
      refine gX1_thrown C hK hP dX1_needs_25 ?_
      refine k_if_ne (tgt := 44) C dX1_needs_28 (by decide) h (fun c28 h => ?_) (fun c28 h => ?_)
      · refine lv_iconst (v := 0) C.1 C.2.1 dX1_needs_44 (by decide) ?_
        exact k_zretW (w := wM cI cZ a) C hr hlk h hP hS dX1_needs_45
      · refine lv_aload_n C.1 C.2.1 dX1_needs_31 rfl (lv_at hl 0 rfl) ?_
        refine lv_iload_n C.1 C.2.1 dX1_needs_32 rfl (lv_at hl 1 rfl) ?_
        refine lv_iload_n C.1 C.2.1 dX1_needs_33 rfl (lv_at hl 2 rfl) ?_
        refine k_rwVi C (wM_ad _) hK hP hD hS hA [.int v1, .int v2] (wM_rv hK hP) h (fun v S2 e => tX1_isNeeded e) (cb_X1_160 C.2.2.2.2 ⟨Nat.le_of_ble_eq_true rfl, Nat.le_of_ble_eq_true rfl⟩) rfl hl.1 (Nat.le_of_ble_eq_true rfl) ⟨Nat.le_of_ble_eq_true rfl, Nat.le_of_ble_eq_true rfl⟩ dX1_needs_34 rfl (fun x34 S34 H locs e34 h hP hD hS => ?_)
        refine k_if_eq (tgt := 44) C dX1_needs_37 (by decide) h (fun c37 h => ?_) (fun c37 h => ?_)
        · refine lv_iconst (v := 0) C.1 C.2.1 dX1_needs_44 (by decide) ?_
          exact k_zretW (w := wM cI cZ a) C hr hlk h hP hS dX1_needs_45
        · refine lv_iconst (v := 1) C.1 C.2.1 dX1_needs_40 (by decide) ?_
          refine lv_goto (tgt := 45) C.1 C.2.1 dX1_needs_41 (by decide) ?_
          exact k_zretW (w := wM cI cZ a) C hr hlk h hP hS dX1_needs_45
set_option maxHeartbeats 4000000 in
set_option maxRecDepth 100000 in
theorem tX1_provedBy {l : Launch} {D : va_G} {cI cZ : ClassId} {a : Nat → Nat} {S : XS} {sz : Nat} {v1 : Int32} {z : (Int32 × XS)} (h : mM_provedBy S v1 = some z) : Met l yX1_provedBy (Cond.code yX1_provedBy cX1_provedBy 4 (some .int) :: WW) ({ frames := 5, cells := 0, slots := 0, locals := 119 }) (va_Pc [.ref (a 0), .int v1] (rwP D (wM cI cZ a S) (tyIZ cI cZ) sz)) (rwQi D (wM cI cZ a z.2) z.1 (va_A (wM cI cZ a S) sz)) 0 0 (va_A (wM cI cZ a S) sz) := by
  refine RW_of (own := RX1) (Qc := fun A => rwQi D (wM cI cZ a z.2) z.1 A) (by decide) rfl (Nat.le_of_ble_eq_true rfl) ?_
  intro p e s m args below meth c A ha C hr hlk hP hK hD hA ls hl
  have hS : va_S A s.heap s.heap [] := va_S.rf
  have hl : lv_has ls 4 [(0, .ref (a 0)), (1, .int v1)] := hl
  unfold mM_provedBy at h
  refine lv_aload_n C.1 C.2.1 dX1_provedBy_0 rfl (lv_at hl 0 rfl) ?_
  refine gX1_open C hK hP dX1_provedBy_1 ?_
  refine lv_iload_n C.1 C.2.1 dX1_provedBy_4 rfl (lv_at hl 1 rfl) ?_
  refine lX1_open C hK hP h dX1_provedBy_5 (fun h => ?_)
  refine lv_istore_n (lv' := [(2, .int (S 6 (v1 : Int32).toNatClampNeg)), (0, .ref (a 0)), (1, .int v1)]) C.1 C.2.1 dX1_provedBy_6 rfl hl (by decide) rfl (fun ls hl => ?_)
  refine lv_aload_n C.1 C.2.1 dX1_provedBy_7 rfl (lv_at hl 1 rfl) ?_
  refine gX1_open C hK hP dX1_provedBy_8 ?_
  refine lv_iload_n C.1 C.2.1 dX1_provedBy_11 rfl (lv_at hl 2 rfl) ?_
  refine lv_iconst (v := 0) C.1 C.2.1 dX1_provedBy_12 (by decide) ?_
  refine sX1_open C hK hP hD hS h dX1_provedBy_13 (fun S13 H locs h hP hD hS => ?_)
  refine lv_aload_n C.1 C.2.1 dX1_provedBy_14 rfl (lv_at hl 1 rfl) ?_
  refine lv_iconst (v := (-1)) C.1 C.2.1 dX1_provedBy_15 (by decide) ?_
  refine k_rwVi C (wM_ad _) hK hP hD hS hA [.int (-1)] (wM_rv hK hP) h (fun v S2 e => tX1_prove e) (cb_X1_124 C.2.2.2.2 ⟨Nat.le_of_ble_eq_true rfl, Nat.le_of_ble_eq_true rfl⟩) rfl hl.1 (Nat.le_of_ble_eq_true rfl) ⟨Nat.le_of_ble_eq_true rfl, Nat.le_of_ble_eq_true rfl⟩ dX1_provedBy_16 rfl (fun x16 S16 H locs e16 h hP hD hS => ?_)
  refine lv_istore_n (lv' := [(3, .int x16), (2, .int (S 6 (v1 : Int32).toNatClampNeg)), (0, .ref (a 0)), (1, .int v1)]) C.1 C.2.1 dX1_provedBy_19 rfl hl (by decide) rfl (fun ls hl => ?_)
  refine lv_aload_n C.1 C.2.1 dX1_provedBy_20 rfl (lv_at hl 2 rfl) ?_
  refine gX1_open C hK hP dX1_provedBy_21 ?_
  refine lv_iload_n C.1 C.2.1 dX1_provedBy_24 rfl (lv_at hl 3 rfl) ?_
  refine lv_iload_n C.1 C.2.1 dX1_provedBy_25 rfl (lv_at hl 1 rfl) ?_
  refine sX1_open C hK hP hD hS h dX1_provedBy_26 (fun S26 H locs h hP hD hS => ?_)
  refine lv_iload_n C.1 C.2.1 dX1_provedBy_27 rfl (lv_at hl 0 rfl) ?_
  exact k_iretW (w := wM cI cZ a) C hr hlk h hP hS dX1_provedBy_28
set_option maxHeartbeats 4000000 in
set_option maxRecDepth 100000 in
theorem tX1_advise {l : Launch} {D : va_G} {cI cZ : ClassId} {a : Nat → Nat} {S : XS} {sz : Nat} {z : (Int32 × XS)} (h : mM_advise S = some z) : Met l yX1_advise (Cond.code yX1_advise cX1_advise 8 (some .int) :: WW) ({ frames := 6, cells := 0, slots := 0, locals := 142 }) (va_Pc [.ref (a 0)] (rwP D (wM cI cZ a S) (tyIZ cI cZ) sz)) (rwQi D (wM cI cZ a z.2) z.1 (va_A (wM cI cZ a S) sz)) 0 0 (va_A (wM cI cZ a S) sz) := by
  refine RW_of (own := RX1) (Qc := fun A => rwQi D (wM cI cZ a z.2) z.1 A) (by decide) rfl (Nat.le_of_ble_eq_true rfl) ?_
  intro p e s m args below meth c A ha C hr hlk hP hK hD hA ls hl
  have hS : va_S A s.heap s.heap [] := va_S.rf
  have hl : lv_has ls 8 [(0, .ref (a 0))] := hl
  have J86 : ∀ (S : XS) (H : Heap) (locs : List Loc) (hP : va_P D vwCl (wM cI cZ a S) H) (hD : va_D A (wM cI cZ a S)) (hS : va_S A s.heap H locs) (v1 : Int32) (v2 : Int32) (v3 : Int32) (v4 : Int32) (v5 : Int32) (t0 : Int32) (k : XS → Int32 → Int32 → Int32 → Option (Int32 × XS)) (hk : ∀ (S : XS) (v1 : Int32) (v2 : Int32) (v5 : Int32), k S v1 v2 v5 = some z → ∀ (H : Heap) (locs : List Loc) (hP : va_P D vwCl (wM cI cZ a S) H) (hD : va_D A (wM cI cZ a S)) (hS : va_S A s.heap H locs) (ls : Array Slot), lv_has ls 8 [(0, .ref (a 0)), (1, .int v1), (2, .int v2), (3, .int v3), (4, .int v4), (5, .int v5)] → W p l e { frames := 6, cells := 0, slots := 0, locals := 142 } s m args below meth c H locs 0 0 (MQ below (rwQi D (wM cI cZ a z.2) z.1 A) args s 0 0 A) (F0 m 40 ls [])), mM_advise_J86 S k v1 v2 v3 v4 v5 t0 = some z → ∀ ls : Array Slot, lv_has ls 8 [(0, .ref (a 0)), (1, .int v1), (2, .int v2), (3, .int v3), (4, .int v4), (5, .int v5)] → W p l e { frames := 6, cells := 0, slots := 0, locals := 142 } s m args below meth c H locs 0 0 (MQ below (rwQi D (wM cI cZ a z.2) z.1 A) args s 0 0 A) (F0 m 86 ls [.int t0]) := by
    intro S H locs hP hD hS v1 v2 v3 v4 v5 t0 k hk h ls hl
    unfold mM_advise_J86 at h
    refine lv_istore (lv' := [(7, .int t0), (0, .ref (a 0)), (1, .int v1), (2, .int v2), (3, .int v3), (4, .int v4), (5, .int v5)]) C.1 C.2.1 dX1_advise_86 hl (by decide) rfl (fun ls hl => ?_)
    refine lv_iload C.1 C.2.1 dX1_advise_88 (lv_at hl 0 rfl) ?_
    refine lv_iload_n C.1 C.2.1 dX1_advise_90 rfl (lv_at hl 3 rfl) ?_
    refine k_icmp_gt (tgt := 97) C dX1_advise_91 (by decide) h (fun c91 h => ?_) (fun c91 h => ?_)
    · refine lv_iload C.1 C.2.1 dX1_advise_97 (lv_at hl 0 rfl) ?_
      refine lv_istore_n (lv' := [(2, .int t0), (7, .int t0), (0, .ref (a 0)), (1, .int v1), (3, .int v3), (4, .int v4), (5, .int v5)]) C.1 C.2.1 dX1_advise_99 rfl hl (by decide) rfl (fun ls hl => ?_)
      refine lv_bipush (v := 100) C.1 C.2.1 dX1_advise_100 (by decide) ?_
      refine lv_iload_n C.1 C.2.1 dX1_advise_102 rfl (lv_at hl 4 rfl) ?_
      refine lv_imul C.1 C.2.1 dX1_advise_103 ?_
      refine lv_bipush (v := 10) C.1 C.2.1 dX1_advise_104 (by decide) ?_
      refine lv_iload C.1 C.2.1 dX1_advise_106 (lv_at hl 5 rfl) ?_
      refine lv_imul C.1 C.2.1 dX1_advise_108 ?_
      refine lv_iadd C.1 C.2.1 dX1_advise_109 ?_
      refine lv_iload C.1 C.2.1 dX1_advise_110 (lv_at hl 6 rfl) ?_
      refine lv_iadd C.1 C.2.1 dX1_advise_112 ?_
      refine lv_istore_n (lv' := [(1, .int (((100 * v3) + (10 * v4)) + v5)), (2, .int t0), (7, .int t0), (0, .ref (a 0)), (3, .int v3), (4, .int v4), (5, .int v5)]) C.1 C.2.1 dX1_advise_113 rfl hl (by decide) rfl (fun ls hl => ?_)
      refine lv_iinc (v := (v5 + 1)) (lv' := [(5, .int (v5 + 1)), (1, .int (((100 * v3) + (10 * v4)) + v5)), (2, .int t0), (7, .int t0), (0, .ref (a 0)), (3, .int v3), (4, .int v4)]) C.1 C.2.1 dX1_advise_114 hl (k := 6) rfl rfl (by decide) rfl (fun ls hl => ?_)
      refine lv_goto (tgt := 40) C.1 C.2.1 dX1_advise_117 (by decide) ?_
      exact hk S (((100 * v3) + (10 * v4)) + v5) t0 (v5 + 1) h _ _ hP hD hS ls (lv_sub hl [4, 1, 2, 5, 6, 0] rfl)
    · refine lv_goto (tgt := 114) C.1 C.2.1 dX1_advise_94 (by decide) ?_
      refine lv_iinc (v := (v5 + 1)) (lv' := [(5, .int (v5 + 1)), (7, .int t0), (0, .ref (a 0)), (1, .int v1), (2, .int v2), (3, .int v3), (4, .int v4)]) C.1 C.2.1 dX1_advise_114 hl (k := 6) rfl rfl (by decide) rfl (fun ls hl => ?_)
      refine lv_goto (tgt := 40) C.1 C.2.1 dX1_advise_117 (by decide) ?_
      exact hk S v1 v2 (v5 + 1) h _ _ hP hD hS ls (lv_sub hl [2, 3, 4, 5, 6, 0] rfl)
  have L40 : ∀ (v3 : Int32) (v4 : Int32) (k : XS → Int32 → Int32 → Int32 → Option (Int32 × XS)) (hk : ∀ (S : XS) (v1 : Int32) (v2 : Int32) (v4 : Int32), k S v1 v2 v4 = some z → ∀ (H : Heap) (locs : List Loc) (hP : va_P D vwCl (wM cI cZ a S) H) (hD : va_D A (wM cI cZ a S)) (hS : va_S A s.heap H locs) (ls : Array Slot), lv_has ls 8 [(0, .ref (a 0)), (1, .int v1), (2, .int v2), (3, .int v3), (4, .int v4)] → W p l e { frames := 6, cells := 0, slots := 0, locals := 142 } s m args below meth c H locs 0 0 (MQ below (rwQi D (wM cI cZ a z.2) z.1 A) args s 0 0 A) (F0 m 26 ls [])) (n : Nat) (S : XS) (v1 : Int32) (v2 : Int32) (v5 : Int32), itr4 (mM_advise_F40 k v3 v4) n S v1 v2 v5 = some z → ∀ (H : Heap) (locs : List Loc) (hP : va_P D vwCl (wM cI cZ a S) H) (hD : va_D A (wM cI cZ a S)) (hS : va_S A s.heap H locs) (ls : Array Slot), lv_has ls 8 [(0, .ref (a 0)), (1, .int v1), (2, .int v2), (3, .int v3), (4, .int v4), (5, .int v5)] → W p l e { frames := 6, cells := 0, slots := 0, locals := 142 } s m args below meth c H locs 0 0 (MQ below (rwQi D (wM cI cZ a z.2) z.1 A) args s 0 0 A) (F0 m 40 ls []) := by
    intro v3 v4 k hk n
    refine itr4_ind (fun (S : XS) (v1 : Int32) (v2 : Int32) (v5 : Int32) => ∀ (H : Heap) (locs : List Loc) (hP : va_P D vwCl (wM cI cZ a S) H) (hD : va_D A (wM cI cZ a S)) (hS : va_S A s.heap H locs) (ls : Array Slot), lv_has ls 8 [(0, .ref (a 0)), (1, .int v1), (2, .int v2), (3, .int v3), (4, .int v4), (5, .int v5)] → W p l e { frames := 6, cells := 0, slots := 0, locals := 142 } s m args below meth c H locs 0 0 (MQ below (rwQi D (wM cI cZ a z.2) z.1 A) args s 0 0 A) (F0 m 40 ls [])) ?_ n
    intro ih hih S v1 v2 v5 h H locs hP hD hS ls hl
    unfold mM_advise_F40 at h
    refine lv_iload C.1 C.2.1 dX1_advise_40 (lv_at hl 5 rfl) ?_
    refine lv_aload_n C.1 C.2.1 dX1_advise_42 rfl (lv_at hl 0 rfl) ?_
    refine gX1_steps C hK hP dX1_advise_43 ?_
    refine lv_iconst (v := 3) C.1 C.2.1 dX1_advise_46 (by decide) ?_
    refine lv_iload_n C.1 C.2.1 dX1_advise_47 rfl (lv_at hl 3 rfl) ?_
    refine lv_imul C.1 C.2.1 dX1_advise_48 ?_
    refine lv_iload C.1 C.2.1 dX1_advise_49 (lv_at hl 4 rfl) ?_
    refine lv_iadd C.1 C.2.1 dX1_advise_51 ?_
    refine lX1_steps C hK hP h dX1_advise_52 (fun h => ?_)
    refine k_icmp_ge (tgt := 120) C dX1_advise_53 (by decide) h (fun c53 h => ?_) (fun c53 h => ?_)
    · refine lv_iinc (v := (v4 + 1)) (lv' := [(4, .int (v4 + 1)), (0, .ref (a 0)), (1, .int v1), (2, .int v2), (3, .int v3), (5, .int v5)]) C.1 C.2.1 dX1_advise_120 hl (k := 4) rfl rfl (by decide) rfl (fun ls hl => ?_)
      refine lv_goto (tgt := 26) C.1 C.2.1 dX1_advise_123 (by decide) ?_
      exact hk S v1 v2 (v4 + 1) h _ _ hP hD hS ls (lv_sub hl [1, 2, 3, 4, 0] rfl)
    · refine lv_iload_n C.1 C.2.1 dX1_advise_56 rfl (lv_at hl 3 rfl) ?_
      refine lv_iload C.1 C.2.1 dX1_advise_57 (lv_at hl 4 rfl) ?_
      refine lv_iload C.1 C.2.1 dX1_advise_59 (lv_at hl 5 rfl) ?_
      refine k_prS C [.int v3, .int v4, .int v5] h (fun v e => tX1_at e) (cb_X1_63 C.2.2.2.2 ⟨Nat.le_of_ble_eq_true rfl, Nat.le_of_ble_eq_true rfl⟩) rfl hl.1 (Nat.le_of_ble_eq_true rfl) ⟨Nat.le_of_ble_eq_true rfl, Nat.le_of_ble_eq_true rfl⟩ dX1_advise_61 rfl (fun x61 e61 h => ?_)
      refine lv_istore (lv' := [(6, .int x61), (0, .ref (a 0)), (1, .int v1), (2, .int v2), (3, .int v3), (4, .int v4), (5, .int v5)]) C.1 C.2.1 dX1_advise_64 hl (by decide) rfl (fun ls hl => ?_)
      refine lv_aload_n C.1 C.2.1 dX1_advise_66 rfl (lv_at hl 1 rfl) ?_
      refine gX1_open C hK hP dX1_advise_67 ?_
      refine lv_iload C.1 C.2.1 dX1_advise_70 (lv_at hl 0 rfl) ?_
      refine lX1_open C hK hP h dX1_advise_72 (fun h => ?_)
      refine k_if_le (tgt := 85) C dX1_advise_73 (by decide) h (fun c73 h => ?_) (fun c73 h => ?_)
      · refine lv_iconst (v := 0) C.1 C.2.1 dX1_advise_85 (by decide) ?_
        exact J86 _ _ _ hP hD hS v1 v2 v3 v4 v5 0 ih hih h ls (lv_sub hl [1, 2, 3, 4, 5, 6] rfl)
      · refine lv_aload_n C.1 C.2.1 dX1_advise_76 rfl (lv_at hl 1 rfl) ?_
        refine lv_iload C.1 C.2.1 dX1_advise_77 (lv_at hl 0 rfl) ?_
        refine k_rwVi C (wM_ad _) hK hP hD hS hA [.int x61] (wM_rv hK hP) h (fun v S2 e => tX1_provedBy e) (cb_X1_163 C.2.2.2.2 ⟨Nat.le_of_ble_eq_true rfl, Nat.le_of_ble_eq_true rfl⟩) rfl hl.1 (Nat.le_of_ble_eq_true rfl) ⟨Nat.le_of_ble_eq_true rfl, Nat.le_of_ble_eq_true rfl⟩ dX1_advise_79 rfl (fun x79 S79 H locs e79 h hP hD hS => ?_)
        refine lv_goto (tgt := 86) C.1 C.2.1 dX1_advise_82 (by decide) ?_
        exact J86 _ _ _ hP hD hS v1 v2 v3 v4 v5 x79 ih hih h ls (lv_sub hl [1, 2, 3, 4, 5, 6] rfl)
  have L26 : ∀ (v3 : Int32) (k : XS → Int32 → Int32 → Int32 → Option (Int32 × XS)) (hk : ∀ (S : XS) (v1 : Int32) (v2 : Int32) (v3 : Int32), k S v1 v2 v3 = some z → ∀ (H : Heap) (locs : List Loc) (hP : va_P D vwCl (wM cI cZ a S) H) (hD : va_D A (wM cI cZ a S)) (hS : va_S A s.heap H locs) (ls : Array Slot), lv_has ls 8 [(0, .ref (a 0)), (1, .int v1), (2, .int v2), (3, .int v3)] → W p l e { frames := 6, cells := 0, slots := 0, locals := 142 } s m args below meth c H locs 0 0 (MQ below (rwQi D (wM cI cZ a z.2) z.1 A) args s 0 0 A) (F0 m 15 ls [])) (n : Nat) (S : XS) (v1 : Int32) (v2 : Int32) (v4 : Int32), itr4 (mM_advise_F26 k v3) n S v1 v2 v4 = some z → ∀ (H : Heap) (locs : List Loc) (hP : va_P D vwCl (wM cI cZ a S) H) (hD : va_D A (wM cI cZ a S)) (hS : va_S A s.heap H locs) (ls : Array Slot), lv_has ls 8 [(0, .ref (a 0)), (1, .int v1), (2, .int v2), (3, .int v3), (4, .int v4)] → W p l e { frames := 6, cells := 0, slots := 0, locals := 142 } s m args below meth c H locs 0 0 (MQ below (rwQi D (wM cI cZ a z.2) z.1 A) args s 0 0 A) (F0 m 26 ls []) := by
    intro v3 k hk n
    refine itr4_ind (fun (S : XS) (v1 : Int32) (v2 : Int32) (v4 : Int32) => ∀ (H : Heap) (locs : List Loc) (hP : va_P D vwCl (wM cI cZ a S) H) (hD : va_D A (wM cI cZ a S)) (hS : va_S A s.heap H locs) (ls : Array Slot), lv_has ls 8 [(0, .ref (a 0)), (1, .int v1), (2, .int v2), (3, .int v3), (4, .int v4)] → W p l e { frames := 6, cells := 0, slots := 0, locals := 142 } s m args below meth c H locs 0 0 (MQ below (rwQi D (wM cI cZ a z.2) z.1 A) args s 0 0 A) (F0 m 26 ls [])) ?_ n
    intro ih hih S v1 v2 v4 h H locs hP hD hS ls hl
    unfold mM_advise_F26 at h
    refine lv_iload C.1 C.2.1 dX1_advise_26 (lv_at hl 4 rfl) ?_
    refine lv_aload_n C.1 C.2.1 dX1_advise_28 rfl (lv_at hl 0 rfl) ?_
    refine gX1_proofs C hK hP dX1_advise_29 ?_
    refine lv_iload_n C.1 C.2.1 dX1_advise_32 rfl (lv_at hl 3 rfl) ?_
    refine lX1_proofs C hK hP h dX1_advise_33 (fun h => ?_)
    refine k_icmp_ge (tgt := 126) C dX1_advise_34 (by decide) h (fun c34 h => ?_) (fun c34 h => ?_)
    · refine lv_iinc (v := (v3 + 1)) (lv' := [(3, .int (v3 + 1)), (0, .ref (a 0)), (1, .int v1), (2, .int v2), (4, .int v4)]) C.1 C.2.1 dX1_advise_126 hl (k := 3) rfl rfl (by decide) rfl (fun ls hl => ?_)
      refine lv_goto (tgt := 15) C.1 C.2.1 dX1_advise_129 (by decide) ?_
      exact hk S v1 v2 (v3 + 1) h _ _ hP hD hS ls (lv_sub hl [1, 2, 3, 0] rfl)
    · refine lv_iconst (v := 0) C.1 C.2.1 dX1_advise_37 (by decide) ?_
      refine lv_istore (lv' := [(5, .int 0), (0, .ref (a 0)), (1, .int v1), (2, .int v2), (3, .int v3), (4, .int v4)]) C.1 C.2.1 dX1_advise_38 hl (by decide) rfl (fun ls hl => ?_)
      exact L40 v3 v4 ih hih _ S v1 v2 0 h _ _ hP hD hS ls (lv_sub hl [1, 2, 3, 4, 5, 0] rfl)
  have L15 : ∀  (n : Nat) (S : XS) (v1 : Int32) (v2 : Int32) (v3 : Int32), itr4 (mM_advise_F15) n S v1 v2 v3 = some z → ∀ (H : Heap) (locs : List Loc) (hP : va_P D vwCl (wM cI cZ a S) H) (hD : va_D A (wM cI cZ a S)) (hS : va_S A s.heap H locs) (ls : Array Slot), lv_has ls 8 [(0, .ref (a 0)), (1, .int v1), (2, .int v2), (3, .int v3)] → W p l e { frames := 6, cells := 0, slots := 0, locals := 142 } s m args below meth c H locs 0 0 (MQ below (rwQi D (wM cI cZ a z.2) z.1 A) args s 0 0 A) (F0 m 15 ls []) := by
    intro n
    refine itr4_ind (fun (S : XS) (v1 : Int32) (v2 : Int32) (v3 : Int32) => ∀ (H : Heap) (locs : List Loc) (hP : va_P D vwCl (wM cI cZ a S) H) (hD : va_D A (wM cI cZ a S)) (hS : va_S A s.heap H locs) (ls : Array Slot), lv_has ls 8 [(0, .ref (a 0)), (1, .int v1), (2, .int v2), (3, .int v3)] → W p l e { frames := 6, cells := 0, slots := 0, locals := 142 } s m args below meth c H locs 0 0 (MQ below (rwQi D (wM cI cZ a z.2) z.1 A) args s 0 0 A) (F0 m 15 ls [])) ?_ n
    intro ih hih S v1 v2 v3 h H locs hP hD hS ls hl
    unfold mM_advise_F15 at h
    refine lv_iload_n C.1 C.2.1 dX1_advise_15 rfl (lv_at hl 3 rfl) ?_
    refine lv_aload_n C.1 C.2.1 dX1_advise_16 rfl (lv_at hl 0 rfl) ?_
    refine gX1_lemmas C hK hP dX1_advise_17 ?_
    refine k_icmp_ge (tgt := 132) C dX1_advise_20 (by decide) h (fun c20 h => ?_) (fun c20 h => ?_)
    · refine lv_iload_n C.1 C.2.1 dX1_advise_132 rfl (lv_at hl 1 rfl) ?_
      exact k_iretW (w := wM cI cZ a) C hr hlk h hP hS dX1_advise_133
    · refine lv_iconst (v := 0) C.1 C.2.1 dX1_advise_23 (by decide) ?_
      refine lv_istore (lv' := [(4, .int 0), (0, .ref (a 0)), (1, .int v1), (2, .int v2), (3, .int v3)]) C.1 C.2.1 dX1_advise_24 hl (by decide) rfl (fun ls hl => ?_)
      exact L26 v3 ih hih _ S v1 v2 0 h _ _ hP hD hS ls (lv_sub hl [1, 2, 3, 4, 0] rfl)
  unfold mM_advise at h
  refine lv_aload_n C.1 C.2.1 dX1_advise_0 rfl (lv_at hl 0 rfl) ?_
  refine lv_iconst (v := 0) C.1 C.2.1 dX1_advise_1 (by decide) ?_
  refine pX1_thrown C hK hP hD hS h dX1_advise_2 (fun S2 H locs h hP hD hS => ?_)
  refine lv_iconst (v := (-1)) C.1 C.2.1 dX1_advise_5 (by decide) ?_
  refine lv_istore_n (lv' := [(1, .int (-1)), (0, .ref (a 0))]) C.1 C.2.1 dX1_advise_6 rfl hl (by decide) rfl (fun ls hl => ?_)
  refine lv_aload_n C.1 C.2.1 dX1_advise_7 rfl (lv_at hl 1 rfl) ?_
  refine lv_iconst (v := (-1)) C.1 C.2.1 dX1_advise_8 (by decide) ?_
  refine k_rwVi C (wM_ad _) hK hP hD hS hA [.int (-1)] (wM_rv hK hP) h (fun v S2 e => tX1_prove e) (cb_X1_124 C.2.2.2.2 ⟨Nat.le_of_ble_eq_true rfl, Nat.le_of_ble_eq_true rfl⟩) rfl hl.1 (Nat.le_of_ble_eq_true rfl) ⟨Nat.le_of_ble_eq_true rfl, Nat.le_of_ble_eq_true rfl⟩ dX1_advise_9 rfl (fun x9 S9 H locs e9 h hP hD hS => ?_)
  refine lv_istore_n (lv' := [(2, .int x9), (1, .int (-1)), (0, .ref (a 0))]) C.1 C.2.1 dX1_advise_12 rfl hl (by decide) rfl (fun ls hl => ?_)
  refine lv_iconst (v := 0) C.1 C.2.1 dX1_advise_13 (by decide) ?_
  refine lv_istore_n (lv' := [(3, .int 0), (2, .int x9), (1, .int (-1)), (0, .ref (a 0))]) C.1 C.2.1 dX1_advise_14 rfl hl (by decide) rfl (fun ls hl => ?_)
  exact L15 _ S9 (-1) x9 0 h _ _ hP hD hS ls (lv_sub hl [3, 2, 1, 0] rfl)
set_option maxHeartbeats 4000000 in
set_option maxRecDepth 100000 in
theorem tX1_mean {l : Launch} {D : va_G} {cI cZ : ClassId} {a : Nat → Nat} {S : XS} {sz : Nat} {z : (UInt64 × XS)} (h : mM_mean S = some z) : Met l yX1_mean (Cond.code yX1_mean cX1_mean 1 (some .double) :: WW) ({ frames := 6, cells := 0, slots := 0, locals := 145 }) (va_Pc [.ref (a 0)] (rwP D (wM cI cZ a S) (tyIZ cI cZ) sz)) (rwQd D (wM cI cZ a z.2) z.1 (va_A (wM cI cZ a S) sz)) 0 0 (va_A (wM cI cZ a S) sz) := by
  refine RW_of (own := RX1) (Qc := fun A => rwQd D (wM cI cZ a z.2) z.1 A) (by decide) rfl (Nat.le_of_ble_eq_true rfl) ?_
  intro p e s m args below meth c A ha C hr hlk hP hK hD hA ls hl
  have hS : va_S A s.heap s.heap [] := va_S.rf
  have hl : lv_has ls 1 [(0, .ref (a 0))] := hl
  unfold mM_mean at h
  refine lv_aload_n C.1 C.2.1 dX1_mean_0 rfl (lv_at hl 0 rfl) ?_
  refine lv_iconst (v := 0) C.1 C.2.1 dX1_mean_1 (by decide) ?_
  refine pX1_thrown C hK hP hD hS h dX1_mean_2 (fun S2 H locs h hP hD hS => ?_)
  refine lv_aload_n C.1 C.2.1 dX1_mean_5 rfl (lv_at hl 0 rfl) ?_
  refine gX1_lemmas C hK hP dX1_mean_6 ?_
  refine k_if_ne (tgt := 16) C dX1_mean_9 (by decide) h (fun c9 h => ?_) (fun c9 h => ?_)
  · refine lv_aload_n C.1 C.2.1 dX1_mean_16 rfl (lv_at hl 0 rfl) ?_
    refine lv_iconst (v := 4) C.1 C.2.1 dX1_mean_17 (by decide) ?_
    refine k_rwVi C (wM_ad _) hK hP hD hS hA [.int 4] (wM_rv hK hP) h (fun v S2 e => tX1_counted e) (cb_X1_154 C.2.2.2.2 ⟨Nat.le_of_ble_eq_true rfl, Nat.le_of_ble_eq_true rfl⟩) rfl hl.1 (Nat.le_of_ble_eq_true rfl) ⟨Nat.le_of_ble_eq_true rfl, Nat.le_of_ble_eq_true rfl⟩ dX1_mean_18 rfl (fun x18 S18 H locs e18 h hP hD hS => ?_)
    refine lv_i2d C.1 C.2.1 dX1_mean_21 ?_
    refine lv_aload_n C.1 C.2.1 dX1_mean_22 rfl (lv_at hl 0 rfl) ?_
    refine gX1_lemmas C hK hP dX1_mean_23 ?_
    refine lv_i2d C.1 C.2.1 dX1_mean_26 ?_
    refine k_ddiv C h dX1_mean_27 (fun h => ?_)
    exact k_dretW (w := wM cI cZ a) C hr hlk h hP hS dX1_mean_28
  · refine lv_dconst0 C.1 C.2.1 dX1_mean_12 ?_
    refine lv_goto (tgt := 28) C.1 C.2.1 dX1_mean_13 (by decide) ?_
    exact k_dretW (w := wM cI cZ a) C hr hlk h hP hS dX1_mean_28
set_option maxHeartbeats 4000000 in
set_option maxRecDepth 100000 in
theorem tX1_digest {l : Launch} {D : va_G} {cI cZ : ClassId} {a : Nat → Nat} {S : XS} {sz : Nat} {z : (Int64 × XS)} (h : mM_digest S = some z) : Met l yX1_digest (Cond.code yX1_digest cX1_digest 7 (some .long) :: WW) ({ frames := 7, cells := 0, slots := 0, locals := 162 }) (va_Pc [.ref (a 0)] (rwP D (wM cI cZ a S) (tyIZ cI cZ) sz)) (rwQl D (wM cI cZ a z.2) z.1 (va_A (wM cI cZ a S) sz)) 0 0 (va_A (wM cI cZ a S) sz) := by
  refine RW_of (own := RX1) (Qc := fun A => rwQl D (wM cI cZ a z.2) z.1 A) (by decide) rfl (Nat.le_of_ble_eq_true rfl) ?_
  intro p e s m args below meth c A ha C hr hlk hP hK hD hA ls hl
  have hS : va_S A s.heap s.heap [] := va_S.rf
  have hl : lv_has ls 7 [(0, .ref (a 0))] := hl
  have L181 : ∀ (S : XS) (H : Heap) (locs : List Loc) (hP : va_P D vwCl (wM cI cZ a S) H) (hD : va_D A (wM cI cZ a S)) (hS : va_S A s.heap H locs) (v3 : Int32) (v4 : Int32) (v5 : Int32) (k : Int64 → Int32 → Option (Int64 × XS)) (hk : ∀ (v1 : Int64) (v5 : Int32), k v1 v5 = some z → ∀ ls : Array Slot, lv_has ls 7 [(0, .ref (a 0)), (1, .long v1), (3, .int v3), (4, .int v4), (5, .int v5)] → W p l e { frames := 7, cells := 0, slots := 0, locals := 162 } s m args below meth c H locs 0 0 (MQ below (rwQl D (wM cI cZ a z.2) z.1 A) args s 0 0 A) (F0 m 162 ls [])) (n : Nat) (v1 : Int64) (v6 : Int32), itr2 (mM_digest_F181 S k v3 v4 v5) n v1 v6 = some z → ∀ ls : Array Slot, lv_has ls 7 [(0, .ref (a 0)), (1, .long v1), (3, .int v3), (4, .int v4), (5, .int v5), (6, .int v6)] → W p l e { frames := 7, cells := 0, slots := 0, locals := 162 } s m args below meth c H locs 0 0 (MQ below (rwQl D (wM cI cZ a z.2) z.1 A) args s 0 0 A) (F0 m 181 ls []) := by
    intro S H locs hP hD hS v3 v4 v5 k hk n
    refine itr2_ind (fun (v1 : Int64) (v6 : Int32) => ∀ ls : Array Slot, lv_has ls 7 [(0, .ref (a 0)), (1, .long v1), (3, .int v3), (4, .int v4), (5, .int v5), (6, .int v6)] → W p l e { frames := 7, cells := 0, slots := 0, locals := 162 } s m args below meth c H locs 0 0 (MQ below (rwQl D (wM cI cZ a z.2) z.1 A) args s 0 0 A) (F0 m 181 ls [])) ?_ n
    intro ih hih v1 v6 h ls hl
    unfold mM_digest_F181 at h
    refine lv_iload C.1 C.2.1 dX1_digest_181 (lv_at hl 5 rfl) ?_
    refine lv_iconst (v := 3) C.1 C.2.1 dX1_digest_183 (by decide) ?_
    refine k_icmp_gt (tgt := 215) C dX1_digest_184 (by decide) h (fun c184 h => ?_) (fun c184 h => ?_)
    · refine lv_iinc (v := (v5 + 1)) (lv' := [(5, .int (v5 + 1)), (0, .ref (a 0)), (1, .long v1), (3, .int v3), (4, .int v4), (6, .int v6)]) C.1 C.2.1 dX1_digest_215 hl (k := 4) rfl rfl (by decide) rfl (fun ls hl => ?_)
      refine lv_goto (tgt := 162) C.1 C.2.1 dX1_digest_218 (by decide) ?_
      exact hk v1 (v5 + 1) h ls (lv_sub hl [1, 2, 3, 4, 0] rfl)
    · refine lv_lload_n C.1 C.2.1 dX1_digest_187 rfl (lv_at hl 1 rfl) ?_
      refine lv_ldc2 C.1 C.2.1 C.2.2.2.1 (C.2.2.2.2 _ qL_X1_168) dX1_digest_188 ?_
      refine lv_lmul C.1 C.2.1 dX1_digest_191 ?_
      refine lv_aload_n C.1 C.2.1 dX1_digest_192 rfl (lv_at hl 0 rfl) ?_
      refine lv_iload_n C.1 C.2.1 dX1_digest_193 rfl (lv_at hl 2 rfl) ?_
      refine lv_iload C.1 C.2.1 dX1_digest_194 (lv_at hl 3 rfl) ?_
      refine lv_iload C.1 C.2.1 dX1_digest_196 (lv_at hl 4 rfl) ?_
      refine k_prS C [.int v3, .int v4, .int v5] h (fun v e => tX1_at e) (cb_X1_63 C.2.2.2.2 ⟨Nat.le_of_ble_eq_true rfl, Nat.le_of_ble_eq_true rfl⟩) rfl hl.1 (Nat.le_of_ble_eq_true rfl) ⟨Nat.le_of_ble_eq_true rfl, Nat.le_of_ble_eq_true rfl⟩ dX1_digest_198 rfl (fun x198 e198 h => ?_)
      refine lv_iload C.1 C.2.1 dX1_digest_201 (lv_at hl 5 rfl) ?_
      refine k_roVi C hK hP [.int x198, .int v6] (wM_rv hK hP) h (fun v e => tX1_stepTold e) (cb_X1_148 C.2.2.2.2 ⟨Nat.le_of_ble_eq_true rfl, Nat.le_of_ble_eq_true rfl⟩) rfl hl.1 (Nat.le_of_ble_eq_true rfl) ⟨Nat.le_of_ble_eq_true rfl, Nat.le_of_ble_eq_true rfl⟩ dX1_digest_203 rfl (fun x203 e203 h => ?_)
      refine lv_i2l (v := x203.toInt64) C.1 C.2.1 dX1_digest_206 rfl ?_
      refine lv_ladd C.1 C.2.1 dX1_digest_207 ?_
      refine lv_lstore_n (lv' := [(1, .long ((v1 * 31) + (x203 : Int32).toInt64)), (0, .ref (a 0)), (3, .int v3), (4, .int v4), (5, .int v5), (6, .int v6)]) C.1 C.2.1 dX1_digest_208 rfl hl (by decide) rfl (fun ls hl => ?_)
      refine lv_iinc (v := (v6 + 1)) (lv' := [(6, .int (v6 + 1)), (1, .long ((v1 * 31) + (x203 : Int32).toInt64)), (0, .ref (a 0)), (3, .int v3), (4, .int v4), (5, .int v5)]) C.1 C.2.1 dX1_digest_209 hl (k := 5) rfl rfl (by decide) rfl (fun ls hl => ?_)
      refine lv_goto (tgt := 181) C.1 C.2.1 dX1_digest_212 (by decide) ?_
      exact hih ((v1 * 31) + (x203 : Int32).toInt64) (v6 + 1) h ls (lv_sub hl [2, 1, 3, 4, 5, 0] rfl)
  have L162 : ∀ (S : XS) (H : Heap) (locs : List Loc) (hP : va_P D vwCl (wM cI cZ a S) H) (hD : va_D A (wM cI cZ a S)) (hS : va_S A s.heap H locs) (v3 : Int32) (v4 : Int32) (k : Int64 → Int32 → Option (Int64 × XS)) (hk : ∀ (v1 : Int64) (v4 : Int32), k v1 v4 = some z → ∀ ls : Array Slot, lv_has ls 7 [(0, .ref (a 0)), (1, .long v1), (3, .int v3), (4, .int v4)] → W p l e { frames := 7, cells := 0, slots := 0, locals := 162 } s m args below meth c H locs 0 0 (MQ below (rwQl D (wM cI cZ a z.2) z.1 A) args s 0 0 A) (F0 m 129 ls [])) (n : Nat) (v1 : Int64) (v5 : Int32), itr2 (mM_digest_F162 S k v3 v4) n v1 v5 = some z → ∀ ls : Array Slot, lv_has ls 7 [(0, .ref (a 0)), (1, .long v1), (3, .int v3), (4, .int v4), (5, .int v5)] → W p l e { frames := 7, cells := 0, slots := 0, locals := 162 } s m args below meth c H locs 0 0 (MQ below (rwQl D (wM cI cZ a z.2) z.1 A) args s 0 0 A) (F0 m 162 ls []) := by
    intro S H locs hP hD hS v3 v4 k hk n
    refine itr2_ind (fun (v1 : Int64) (v5 : Int32) => ∀ ls : Array Slot, lv_has ls 7 [(0, .ref (a 0)), (1, .long v1), (3, .int v3), (4, .int v4), (5, .int v5)] → W p l e { frames := 7, cells := 0, slots := 0, locals := 162 } s m args below meth c H locs 0 0 (MQ below (rwQl D (wM cI cZ a z.2) z.1 A) args s 0 0 A) (F0 m 162 ls [])) ?_ n
    intro ih hih v1 v5 h ls hl
    unfold mM_digest_F162 at h
    refine lv_iload C.1 C.2.1 dX1_digest_162 (lv_at hl 4 rfl) ?_
    refine lv_aload_n C.1 C.2.1 dX1_digest_164 rfl (lv_at hl 0 rfl) ?_
    refine gX1_steps C hK hP dX1_digest_165 ?_
    refine lv_iconst (v := 3) C.1 C.2.1 dX1_digest_168 (by decide) ?_
    refine lv_iload_n C.1 C.2.1 dX1_digest_169 rfl (lv_at hl 2 rfl) ?_
    refine lv_imul C.1 C.2.1 dX1_digest_170 ?_
    refine lv_iload C.1 C.2.1 dX1_digest_171 (lv_at hl 3 rfl) ?_
    refine lv_iadd C.1 C.2.1 dX1_digest_173 ?_
    refine lX1_steps C hK hP h dX1_digest_174 (fun h => ?_)
    refine k_icmp_ge (tgt := 221) C dX1_digest_175 (by decide) h (fun c175 h => ?_) (fun c175 h => ?_)
    · refine lv_iinc (v := (v4 + 1)) (lv' := [(4, .int (v4 + 1)), (0, .ref (a 0)), (1, .long v1), (3, .int v3), (5, .int v5)]) C.1 C.2.1 dX1_digest_221 hl (k := 3) rfl rfl (by decide) rfl (fun ls hl => ?_)
      refine lv_goto (tgt := 129) C.1 C.2.1 dX1_digest_224 (by decide) ?_
      exact hk v1 (v4 + 1) h ls (lv_sub hl [1, 2, 3, 0] rfl)
    · refine lv_iconst (v := 0) C.1 C.2.1 dX1_digest_178 (by decide) ?_
      refine lv_istore (lv' := [(6, .int 0), (0, .ref (a 0)), (1, .long v1), (3, .int v3), (4, .int v4), (5, .int v5)]) C.1 C.2.1 dX1_digest_179 hl (by decide) rfl (fun ls hl => ?_)
      exact L181 _ _ _ hP hD hS v3 v4 v5 ih hih _ v1 0 h ls (lv_sub hl [1, 2, 3, 4, 5, 0] rfl)
  have L129 : ∀ (S : XS) (H : Heap) (locs : List Loc) (hP : va_P D vwCl (wM cI cZ a S) H) (hD : va_D A (wM cI cZ a S)) (hS : va_S A s.heap H locs) (v3 : Int32) (k : XS → Int64 → Int32 → Option (Int64 × XS)) (hk : ∀ (S : XS) (v1 : Int64) (v3 : Int32), k S v1 v3 = some z → ∀ (H : Heap) (locs : List Loc) (hP : va_P D vwCl (wM cI cZ a S) H) (hD : va_D A (wM cI cZ a S)) (hS : va_S A s.heap H locs) (ls : Array Slot), lv_has ls 7 [(0, .ref (a 0)), (1, .long v1), (3, .int v3)] → W p l e { frames := 7, cells := 0, slots := 0, locals := 162 } s m args below meth c H locs 0 0 (MQ below (rwQl D (wM cI cZ a z.2) z.1 A) args s 0 0 A) (F0 m 87 ls [])) (n : Nat) (v1 : Int64) (v4 : Int32), itr2 (mM_digest_F129 S k v3) n v1 v4 = some z → ∀ ls : Array Slot, lv_has ls 7 [(0, .ref (a 0)), (1, .long v1), (3, .int v3), (4, .int v4)] → W p l e { frames := 7, cells := 0, slots := 0, locals := 162 } s m args below meth c H locs 0 0 (MQ below (rwQl D (wM cI cZ a z.2) z.1 A) args s 0 0 A) (F0 m 129 ls []) := by
    intro S H locs hP hD hS v3 k hk n
    refine itr2_ind (fun (v1 : Int64) (v4 : Int32) => ∀ ls : Array Slot, lv_has ls 7 [(0, .ref (a 0)), (1, .long v1), (3, .int v3), (4, .int v4)] → W p l e { frames := 7, cells := 0, slots := 0, locals := 162 } s m args below meth c H locs 0 0 (MQ below (rwQl D (wM cI cZ a z.2) z.1 A) args s 0 0 A) (F0 m 129 ls [])) ?_ n
    intro ih hih v1 v4 h ls hl
    unfold mM_digest_F129 at h
    refine lv_iload C.1 C.2.1 dX1_digest_129 (lv_at hl 3 rfl) ?_
    refine lv_aload_n C.1 C.2.1 dX1_digest_131 rfl (lv_at hl 0 rfl) ?_
    refine gX1_proofs C hK hP dX1_digest_132 ?_
    refine lv_iload_n C.1 C.2.1 dX1_digest_135 rfl (lv_at hl 2 rfl) ?_
    refine lX1_proofs C hK hP h dX1_digest_136 (fun h => ?_)
    refine k_icmp_ge (tgt := 227) C dX1_digest_137 (by decide) h (fun c137 h => ?_) (fun c137 h => ?_)
    · refine lv_iinc (v := (v3 + 1)) (lv' := [(3, .int (v3 + 1)), (0, .ref (a 0)), (1, .long v1), (4, .int v4)]) C.1 C.2.1 dX1_digest_227 hl (k := 2) rfl rfl (by decide) rfl (fun ls hl => ?_)
      refine lv_goto (tgt := 87) C.1 C.2.1 dX1_digest_230 (by decide) ?_
      exact hk S v1 (v3 + 1) h _ _ hP hD hS ls (lv_sub hl [1, 2, 0] rfl)
    · refine lv_lload_n C.1 C.2.1 dX1_digest_140 rfl (lv_at hl 1 rfl) ?_
      refine lv_ldc2 C.1 C.2.1 C.2.2.2.1 (C.2.2.2.2 _ qL_X1_168) dX1_digest_141 ?_
      refine lv_lmul C.1 C.2.1 dX1_digest_144 ?_
      refine lv_aload_n C.1 C.2.1 dX1_digest_145 rfl (lv_at hl 0 rfl) ?_
      refine gX1_steps C hK hP dX1_digest_146 ?_
      refine lv_iconst (v := 3) C.1 C.2.1 dX1_digest_149 (by decide) ?_
      refine lv_iload_n C.1 C.2.1 dX1_digest_150 rfl (lv_at hl 2 rfl) ?_
      refine lv_imul C.1 C.2.1 dX1_digest_151 ?_
      refine lv_iload C.1 C.2.1 dX1_digest_152 (lv_at hl 3 rfl) ?_
      refine lv_iadd C.1 C.2.1 dX1_digest_154 ?_
      refine lX1_steps C hK hP h dX1_digest_155 (fun h => ?_)
      refine lv_i2l (v := (S 3 (((3 * v3) + v4) : Int32).toNatClampNeg).toInt64) C.1 C.2.1 dX1_digest_156 rfl ?_
      refine lv_ladd C.1 C.2.1 dX1_digest_157 ?_
      refine lv_lstore_n (lv' := [(1, .long ((v1 * 31) + ((S 3 (((3 * v3) + v4) : Int32).toNatClampNeg) : Int32).toInt64)), (0, .ref (a 0)), (3, .int v3), (4, .int v4)]) C.1 C.2.1 dX1_digest_158 rfl hl (by decide) rfl (fun ls hl => ?_)
      refine lv_iconst (v := 0) C.1 C.2.1 dX1_digest_159 (by decide) ?_
      refine lv_istore (lv' := [(5, .int 0), (1, .long ((v1 * 31) + ((S 3 (((3 * v3) + v4) : Int32).toNatClampNeg) : Int32).toInt64)), (0, .ref (a 0)), (3, .int v3), (4, .int v4)]) C.1 C.2.1 dX1_digest_160 hl (by decide) rfl (fun ls hl => ?_)
      exact L162 _ _ _ hP hD hS v3 v4 ih hih _ ((v1 * 31) + ((S 3 (((3 * v3) + v4) : Int32).toNatClampNeg) : Int32).toInt64) 0 h ls (lv_sub hl [2, 1, 3, 4, 0] rfl)
  have L98 : ∀ (v3 : Int32) (k : XS → Int64 → Int32 → Option (Int64 × XS)) (hk : ∀ (S : XS) (v1 : Int64) (v3 : Int32), k S v1 v3 = some z → ∀ (H : Heap) (locs : List Loc) (hP : va_P D vwCl (wM cI cZ a S) H) (hD : va_D A (wM cI cZ a S)) (hS : va_S A s.heap H locs) (ls : Array Slot), lv_has ls 7 [(0, .ref (a 0)), (1, .long v1), (3, .int v3)] → W p l e { frames := 7, cells := 0, slots := 0, locals := 162 } s m args below meth c H locs 0 0 (MQ below (rwQl D (wM cI cZ a z.2) z.1 A) args s 0 0 A) (F0 m 87 ls [])) (n : Nat) (S : XS) (v1 : Int64) (v4 : Int32), itr3 (mM_digest_F98 k v3) n S v1 v4 = some z → ∀ (H : Heap) (locs : List Loc) (hP : va_P D vwCl (wM cI cZ a S) H) (hD : va_D A (wM cI cZ a S)) (hS : va_S A s.heap H locs) (ls : Array Slot), lv_has ls 7 [(0, .ref (a 0)), (1, .long v1), (3, .int v3), (4, .int v4)] → W p l e { frames := 7, cells := 0, slots := 0, locals := 162 } s m args below meth c H locs 0 0 (MQ below (rwQl D (wM cI cZ a z.2) z.1 A) args s 0 0 A) (F0 m 98 ls []) := by
    intro v3 k hk n
    refine itr3_ind (fun (S : XS) (v1 : Int64) (v4 : Int32) => ∀ (H : Heap) (locs : List Loc) (hP : va_P D vwCl (wM cI cZ a S) H) (hD : va_D A (wM cI cZ a S)) (hS : va_S A s.heap H locs) (ls : Array Slot), lv_has ls 7 [(0, .ref (a 0)), (1, .long v1), (3, .int v3), (4, .int v4)] → W p l e { frames := 7, cells := 0, slots := 0, locals := 162 } s m args below meth c H locs 0 0 (MQ below (rwQl D (wM cI cZ a z.2) z.1 A) args s 0 0 A) (F0 m 98 ls [])) ?_ n
    intro ih hih S v1 v4 h H locs hP hD hS ls hl
    unfold mM_digest_F98 at h
    refine lv_iload C.1 C.2.1 dX1_digest_98 (lv_at hl 3 rfl) ?_
    refine lv_bipush (v := 6) C.1 C.2.1 dX1_digest_100 (by decide) ?_
    refine k_icmp_gt (tgt := 126) C dX1_digest_102 (by decide) h (fun c102 h => ?_) (fun c102 h => ?_)
    · refine lv_iconst (v := 0) C.1 C.2.1 dX1_digest_126 (by decide) ?_
      refine lv_istore (lv' := [(4, .int 0), (0, .ref (a 0)), (1, .long v1), (3, .int v3)]) C.1 C.2.1 dX1_digest_127 hl (by decide) rfl (fun ls hl => ?_)
      exact L129 _ _ _ hP hD hS v3 k hk _ v1 0 h ls (lv_sub hl [1, 2, 3, 0] rfl)
    · refine lv_lload_n C.1 C.2.1 dX1_digest_105 rfl (lv_at hl 1 rfl) ?_
      refine lv_ldc2 C.1 C.2.1 C.2.2.2.1 (C.2.2.2.2 _ qL_X1_168) dX1_digest_106 ?_
      refine lv_lmul C.1 C.2.1 dX1_digest_109 ?_
      refine lv_aload_n C.1 C.2.1 dX1_digest_110 rfl (lv_at hl 0 rfl) ?_
      refine lv_iload_n C.1 C.2.1 dX1_digest_111 rfl (lv_at hl 2 rfl) ?_
      refine lv_iload C.1 C.2.1 dX1_digest_112 (lv_at hl 3 rfl) ?_
      refine k_rwVi C (wM_ad _) hK hP hD hS hA [.int v3, .int v4] (wM_rv hK hP) h (fun v S2 e => tX1_lemmaTold e) (cb_X1_145 C.2.2.2.2 ⟨Nat.le_of_ble_eq_true rfl, Nat.le_of_ble_eq_true rfl⟩) rfl hl.1 (Nat.le_of_ble_eq_true rfl) ⟨Nat.le_of_ble_eq_true rfl, Nat.le_of_ble_eq_true rfl⟩ dX1_digest_114 rfl (fun x114 S114 H locs e114 h hP hD hS => ?_)
      refine lv_i2l (v := x114.toInt64) C.1 C.2.1 dX1_digest_117 rfl ?_
      refine lv_ladd C.1 C.2.1 dX1_digest_118 ?_
      refine lv_lstore_n (lv' := [(1, .long ((v1 * 31) + (x114 : Int32).toInt64)), (0, .ref (a 0)), (3, .int v3), (4, .int v4)]) C.1 C.2.1 dX1_digest_119 rfl hl (by decide) rfl (fun ls hl => ?_)
      refine lv_iinc (v := (v4 + 1)) (lv' := [(4, .int (v4 + 1)), (1, .long ((v1 * 31) + (x114 : Int32).toInt64)), (0, .ref (a 0)), (3, .int v3)]) C.1 C.2.1 dX1_digest_120 hl (k := 3) rfl rfl (by decide) rfl (fun ls hl => ?_)
      refine lv_goto (tgt := 98) C.1 C.2.1 dX1_digest_123 (by decide) ?_
      exact hih S114 ((v1 * 31) + (x114 : Int32).toInt64) (v4 + 1) h _ _ hP hD hS ls (lv_sub hl [2, 1, 3, 0] rfl)
  have L87 : ∀  (n : Nat) (S : XS) (v1 : Int64) (v3 : Int32), itr3 (mM_digest_F87) n S v1 v3 = some z → ∀ (H : Heap) (locs : List Loc) (hP : va_P D vwCl (wM cI cZ a S) H) (hD : va_D A (wM cI cZ a S)) (hS : va_S A s.heap H locs) (ls : Array Slot), lv_has ls 7 [(0, .ref (a 0)), (1, .long v1), (3, .int v3)] → W p l e { frames := 7, cells := 0, slots := 0, locals := 162 } s m args below meth c H locs 0 0 (MQ below (rwQl D (wM cI cZ a z.2) z.1 A) args s 0 0 A) (F0 m 87 ls []) := by
    intro n
    refine itr3_ind (fun (S : XS) (v1 : Int64) (v3 : Int32) => ∀ (H : Heap) (locs : List Loc) (hP : va_P D vwCl (wM cI cZ a S) H) (hD : va_D A (wM cI cZ a S)) (hS : va_S A s.heap H locs) (ls : Array Slot), lv_has ls 7 [(0, .ref (a 0)), (1, .long v1), (3, .int v3)] → W p l e { frames := 7, cells := 0, slots := 0, locals := 162 } s m args below meth c H locs 0 0 (MQ below (rwQl D (wM cI cZ a z.2) z.1 A) args s 0 0 A) (F0 m 87 ls [])) ?_ n
    intro ih hih S v1 v3 h H locs hP hD hS ls hl
    unfold mM_digest_F87 at h
    refine lv_iload_n C.1 C.2.1 dX1_digest_87 rfl (lv_at hl 2 rfl) ?_
    refine lv_aload_n C.1 C.2.1 dX1_digest_88 rfl (lv_at hl 0 rfl) ?_
    refine gX1_lemmas C hK hP dX1_digest_89 ?_
    refine k_icmp_ge (tgt := 233) C dX1_digest_92 (by decide) h (fun c92 h => ?_) (fun c92 h => ?_)
    · refine lv_lload_n C.1 C.2.1 dX1_digest_233 rfl (lv_at hl 1 rfl) ?_
      exact k_lretW (w := wM cI cZ a) C hr hlk h hP hS dX1_digest_234
    · refine lv_iconst (v := 0) C.1 C.2.1 dX1_digest_95 (by decide) ?_
      refine lv_istore (lv' := [(4, .int 0), (0, .ref (a 0)), (1, .long v1), (3, .int v3)]) C.1 C.2.1 dX1_digest_96 hl (by decide) rfl (fun ls hl => ?_)
      exact L98 v3 ih hih _ S v1 0 h _ _ hP hD hS ls (lv_sub hl [1, 2, 3, 0] rfl)
  have L48 : ∀ (S : XS) (H : Heap) (locs : List Loc) (hP : va_P D vwCl (wM cI cZ a S) H) (hD : va_D A (wM cI cZ a S)) (hS : va_S A s.heap H locs) (v4 : Int32) (n : Nat) (v1 : Int64) (v5 : Int32), itr2 (mM_digest_F48 S v4) n v1 v5 = some z → ∀ ls : Array Slot, lv_has ls 7 [(0, .ref (a 0)), (1, .long v1), (3, .ref (a 1)), (4, .int v4), (5, .int v5)] → W p l e { frames := 7, cells := 0, slots := 0, locals := 162 } s m args below meth c H locs 0 0 (MQ below (rwQl D (wM cI cZ a z.2) z.1 A) args s 0 0 A) (F0 m 48 ls []) := by
    intro S H locs hP hD hS v4 n
    refine itr2_ind (fun (v1 : Int64) (v5 : Int32) => ∀ ls : Array Slot, lv_has ls 7 [(0, .ref (a 0)), (1, .long v1), (3, .ref (a 1)), (4, .int v4), (5, .int v5)] → W p l e { frames := 7, cells := 0, slots := 0, locals := 162 } s m args below meth c H locs 0 0 (MQ below (rwQl D (wM cI cZ a z.2) z.1 A) args s 0 0 A) (F0 m 48 ls [])) ?_ n
    intro ih hih v1 v5 h ls hl
    unfold mM_digest_F48 at h
    refine lv_iload C.1 C.2.1 dX1_digest_48 (lv_at hl 4 rfl) ?_
    refine lv_iload C.1 C.2.1 dX1_digest_50 (lv_at hl 3 rfl) ?_
    refine k_icmp_ge (tgt := 85) C dX1_digest_52 (by decide) h (fun c52 h => ?_) (fun c52 h => ?_)
    · refine lv_iconst (v := 0) C.1 C.2.1 dX1_digest_85 (by decide) ?_
      refine lv_istore_n (lv' := [(3, .int 0), (0, .ref (a 0)), (1, .long v1), (4, .int v4), (5, .int v5)]) C.1 C.2.1 dX1_digest_86 rfl hl (by decide) rfl (fun ls hl => ?_)
      exact L87 _ S v1 0 h _ _ hP hD hS ls (lv_sub hl [1, 2, 0] rfl)
    · refine lv_aload_n C.1 C.2.1 dX1_digest_55 rfl (lv_at hl 2 rfl) ?_
      refine lv_iload C.1 C.2.1 dX1_digest_56 (lv_at hl 4 rfl) ?_
      refine lX1_taken C hK hP h dX1_digest_58 (fun h => ?_)
      refine lv_istore (lv' := [(6, .int (S 1 (v5 : Int32).toNatClampNeg)), (0, .ref (a 0)), (1, .long v1), (3, .ref (a 1)), (4, .int v4), (5, .int v5)]) C.1 C.2.1 dX1_digest_59 hl (by decide) rfl (fun ls hl => ?_)
      refine lv_lload_n C.1 C.2.1 dX1_digest_61 rfl (lv_at hl 2 rfl) ?_
      refine lv_ldc2 C.1 C.2.1 C.2.2.2.1 (C.2.2.2.2 _ qL_X1_168) dX1_digest_62 ?_
      refine lv_lmul C.1 C.2.1 dX1_digest_65 ?_
      refine lv_iload C.1 C.2.1 dX1_digest_66 (lv_at hl 0 rfl) ?_
      refine k_if_eq (tgt := 75) C dX1_digest_68 (by decide) h (fun c68 h => ?_) (fun c68 h => ?_)
      · refine lv_iconst (v := 0) C.1 C.2.1 dX1_digest_75 (by decide) ?_
        refine lv_i2l (v := (0 : Int32).toInt64) C.1 C.2.1 dX1_digest_76 rfl ?_
        refine lv_ladd C.1 C.2.1 dX1_digest_77 ?_
        refine lv_lstore_n (lv' := [(1, .long ((v1 * 31) + (0 : Int32).toInt64)), (6, .int (S 1 (v5 : Int32).toNatClampNeg)), (0, .ref (a 0)), (3, .ref (a 1)), (4, .int v4), (5, .int v5)]) C.1 C.2.1 dX1_digest_78 rfl hl (by decide) rfl (fun ls hl => ?_)
        refine lv_iinc (v := (v5 + 1)) (lv' := [(5, .int (v5 + 1)), (1, .long ((v1 * 31) + (0 : Int32).toInt64)), (6, .int (S 1 (v5 : Int32).toNatClampNeg)), (0, .ref (a 0)), (3, .ref (a 1)), (4, .int v4)]) C.1 C.2.1 dX1_digest_79 hl (k := 5) rfl rfl (by decide) rfl (fun ls hl => ?_)
        refine lv_goto (tgt := 48) C.1 C.2.1 dX1_digest_82 (by decide) ?_
        exact hih ((v1 * 31) + (0 : Int32).toInt64) (v5 + 1) h ls (lv_sub hl [3, 1, 4, 5, 0] rfl)
      · refine lv_iconst (v := 1) C.1 C.2.1 dX1_digest_71 (by decide) ?_
        refine lv_goto (tgt := 76) C.1 C.2.1 dX1_digest_72 (by decide) ?_
        refine lv_i2l (v := (1 : Int32).toInt64) C.1 C.2.1 dX1_digest_76 rfl ?_
        refine lv_ladd C.1 C.2.1 dX1_digest_77 ?_
        refine lv_lstore_n (lv' := [(1, .long ((v1 * 31) + (1 : Int32).toInt64)), (6, .int (S 1 (v5 : Int32).toNatClampNeg)), (0, .ref (a 0)), (3, .ref (a 1)), (4, .int v4), (5, .int v5)]) C.1 C.2.1 dX1_digest_78 rfl hl (by decide) rfl (fun ls hl => ?_)
        refine lv_iinc (v := (v5 + 1)) (lv' := [(5, .int (v5 + 1)), (1, .long ((v1 * 31) + (1 : Int32).toInt64)), (6, .int (S 1 (v5 : Int32).toNatClampNeg)), (0, .ref (a 0)), (3, .ref (a 1)), (4, .int v4)]) C.1 C.2.1 dX1_digest_79 hl (k := 5) rfl rfl (by decide) rfl (fun ls hl => ?_)
        refine lv_goto (tgt := 48) C.1 C.2.1 dX1_digest_82 (by decide) ?_
        exact hih ((v1 * 31) + (1 : Int32).toInt64) (v5 + 1) h ls (lv_sub hl [3, 1, 4, 5, 0] rfl)
  have L11 : ∀  (n : Nat) (S : XS) (v1 : Int64) (v3 : Int32), itr3 (mM_digest_F11) n S v1 v3 = some z → ∀ (H : Heap) (locs : List Loc) (hP : va_P D vwCl (wM cI cZ a S) H) (hD : va_D A (wM cI cZ a S)) (hS : va_S A s.heap H locs) (ls : Array Slot), lv_has ls 7 [(0, .ref (a 0)), (1, .long v1), (3, .int v3)] → W p l e { frames := 7, cells := 0, slots := 0, locals := 162 } s m args below meth c H locs 0 0 (MQ below (rwQl D (wM cI cZ a z.2) z.1 A) args s 0 0 A) (F0 m 11 ls []) := by
    intro n
    refine itr3_ind (fun (S : XS) (v1 : Int64) (v3 : Int32) => ∀ (H : Heap) (locs : List Loc) (hP : va_P D vwCl (wM cI cZ a S) H) (hD : va_D A (wM cI cZ a S)) (hS : va_S A s.heap H locs) (ls : Array Slot), lv_has ls 7 [(0, .ref (a 0)), (1, .long v1), (3, .int v3)] → W p l e { frames := 7, cells := 0, slots := 0, locals := 162 } s m args below meth c H locs 0 0 (MQ below (rwQl D (wM cI cZ a z.2) z.1 A) args s 0 0 A) (F0 m 11 ls [])) ?_ n
    intro ih hih S v1 v3 h H locs hP hD hS ls hl
    unfold mM_digest_F11 at h
    refine lv_iload_n C.1 C.2.1 dX1_digest_11 rfl (lv_at hl 2 rfl) ?_
    refine lv_bipush (v := 6) C.1 C.2.1 dX1_digest_12 (by decide) ?_
    refine k_icmp_gt (tgt := 36) C dX1_digest_14 (by decide) h (fun c14 h => ?_) (fun c14 h => ?_)
    · refine lv_aload_n C.1 C.2.1 dX1_digest_36 rfl (lv_at hl 0 rfl) ?_
      refine gX1_taken C hK hP dX1_digest_37 ?_
      refine lv_astore_n (lv' := [(3, .ref (a 1)), (0, .ref (a 0)), (1, .long v1)]) C.1 C.2.1 dX1_digest_40 rfl hl (by decide) rfl (fun ls hl => ?_)
      refine lv_aload_n C.1 C.2.1 dX1_digest_41 rfl (lv_at hl 0 rfl) ?_
      refine va_alen C.1 C.2.1 hK hP 1 1 rfl rfl (v := 5) rfl dX1_digest_42 ?_
      refine lv_istore (lv' := [(4, .int 5), (3, .ref (a 1)), (0, .ref (a 0)), (1, .long v1)]) C.1 C.2.1 dX1_digest_43 hl (by decide) rfl (fun ls hl => ?_)
      refine lv_iconst (v := 0) C.1 C.2.1 dX1_digest_45 (by decide) ?_
      refine lv_istore (lv' := [(5, .int 0), (4, .int 5), (3, .ref (a 1)), (0, .ref (a 0)), (1, .long v1)]) C.1 C.2.1 dX1_digest_46 hl (by decide) rfl (fun ls hl => ?_)
      exact L48 _ _ _ hP hD hS 5 _ v1 0 h ls (lv_sub hl [3, 4, 2, 1, 0] rfl)
    · refine lv_lload_n C.1 C.2.1 dX1_digest_17 rfl (lv_at hl 1 rfl) ?_
      refine lv_ldc2 C.1 C.2.1 C.2.2.2.1 (C.2.2.2.2 _ qL_X1_168) dX1_digest_18 ?_
      refine lv_lmul C.1 C.2.1 dX1_digest_21 ?_
      refine lv_aload_n C.1 C.2.1 dX1_digest_22 rfl (lv_at hl 0 rfl) ?_
      refine lv_iload_n C.1 C.2.1 dX1_digest_23 rfl (lv_at hl 2 rfl) ?_
      refine k_rwVi C (wM_ad _) hK hP hD hS hA [.int v3] (wM_rv hK hP) h (fun v S2 e => tX1_counted e) (cb_X1_154 C.2.2.2.2 ⟨Nat.le_of_ble_eq_true rfl, Nat.le_of_ble_eq_true rfl⟩) rfl hl.1 (Nat.le_of_ble_eq_true rfl) ⟨Nat.le_of_ble_eq_true rfl, Nat.le_of_ble_eq_true rfl⟩ dX1_digest_24 rfl (fun x24 S24 H locs e24 h hP hD hS => ?_)
      refine lv_i2l (v := x24.toInt64) C.1 C.2.1 dX1_digest_27 rfl ?_
      refine lv_ladd C.1 C.2.1 dX1_digest_28 ?_
      refine lv_lstore_n (lv' := [(1, .long ((v1 * 31) + (x24 : Int32).toInt64)), (0, .ref (a 0)), (3, .int v3)]) C.1 C.2.1 dX1_digest_29 rfl hl (by decide) rfl (fun ls hl => ?_)
      refine lv_iinc (v := (v3 + 1)) (lv' := [(3, .int (v3 + 1)), (1, .long ((v1 * 31) + (x24 : Int32).toInt64)), (0, .ref (a 0))]) C.1 C.2.1 dX1_digest_30 hl (k := 2) rfl rfl (by decide) rfl (fun ls hl => ?_)
      refine lv_goto (tgt := 11) C.1 C.2.1 dX1_digest_33 (by decide) ?_
      exact hih S24 ((v1 * 31) + (x24 : Int32).toInt64) (v3 + 1) h _ _ hP hD hS ls (lv_sub hl [2, 1, 0] rfl)
  unfold mM_digest at h
  refine lv_aload_n C.1 C.2.1 dX1_digest_0 rfl (lv_at hl 0 rfl) ?_
  refine lv_iconst (v := 0) C.1 C.2.1 dX1_digest_1 (by decide) ?_
  refine pX1_thrown C hK hP hD hS h dX1_digest_2 (fun S2 H locs h hP hD hS => ?_)
  refine lv_ldc2 C.1 C.2.1 C.2.2.2.1 (C.2.2.2.2 _ qL_X1_166) dX1_digest_5 ?_
  refine lv_lstore_n (lv' := [(1, .long 1847), (0, .ref (a 0))]) C.1 C.2.1 dX1_digest_8 rfl hl (by decide) rfl (fun ls hl => ?_)
  refine lv_iconst (v := 0) C.1 C.2.1 dX1_digest_9 (by decide) ?_
  refine lv_istore_n (lv' := [(3, .int 0), (1, .long 1847), (0, .ref (a 0))]) C.1 C.2.1 dX1_digest_10 rfl hl (by decide) rfl (fun ls hl => ?_)
  exact L11 _ S2 1847 0 h _ _ hP hD hS ls (lv_sub hl [2, 1, 0] rfl)
end METX1
