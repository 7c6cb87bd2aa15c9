section HMETL
theorem cb_X1_61 {R : Room} {s : State} {args : Array Value} (h : ∀ w ∈ WW, w.before args s = true) (hR : 8 + 1 ≤ R.frames ∧ 8 + (5 + 11) + 133 ≤ R.locals) : CallW R s args RX1 RX0 61 yX0_about cX0_about 5 (some .int) (Cond.code yX0_about cX0_about 5 (some .int) :: WW) ({ frames := 8, cells := 1, slots := 6, locals := 133 }) 1 6 3 := cwV 3 h (gdV qM_X1_61 qI_X0_about qS_X0_about qN_X0 qC_X0_about) rfl rfl rfl (by decide +kernel) hR
theorem cb_X1_67 {R : Room} {s : State} {args : Array Value} (h : ∀ w ∈ WW, w.before args s = true) (hR : 9 + 1 ≤ R.frames ∧ 8 + (5 + 11) + 156 ≤ R.locals) : CallW R s args RX1 RX0 67 yX0_step cX0_step 5 (some .int) (Cond.code yX0_step cX0_step 5 (some .int) :: WW) ({ frames := 9, cells := 1, slots := 6, locals := 156 }) 1 6 4 := cwV 4 h (gdV qM_X1_67 qI_X0_step qS_X0_step qN_X0 qC_X0_step) rfl rfl rfl (by decide +kernel) hR
theorem cb_X1_71 {R : Room} {s : State} {args : Array Value} (h : ∀ w ∈ WW, w.before args s = true) (hR : 7 + 1 ≤ R.frames ∧ 8 + (3 + 11) + 111 ≤ R.locals) : CallW R s args RX1 RX0 71 yX0_told cX0_told 3 (some .int) (Cond.code yX0_told cX0_told 3 (some .int) :: WW) ({ frames := 7, cells := 1, slots := 6, locals := 111 }) 1 6 2 := cwV 2 h (gdV qM_X1_71 qI_X0_told qS_X0_told qN_X0 qC_X0_told) rfl rfl rfl (by decide +kernel) hR
theorem cb_X1_74 {R : Room} {s : State} {args : Array Value} (h : ∀ w ∈ WW, w.before args s = true) (hR : 7 + 1 ≤ R.frames ∧ 8 + (6 + 11) + 111 ≤ R.locals) : CallW R s args RX1 RX0 74 yX0_best cX0_best 6 (some .int) (Cond.code yX0_best cX0_best 6 (some .int) :: WW) ({ frames := 7, cells := 1, slots := 6, locals := 111 }) 1 6 1 := cwV 1 h (gdV qM_X1_74 qI_X0_best qS_X0_best qN_X0 qC_X0_best) rfl rfl rfl (by decide +kernel) hR
theorem cb_X1_77 {R : Room} {s : State} {args : Array Value} (h : ∀ w ∈ WW, w.before args s = true) (hR : 7 + 1 ≤ R.frames ∧ 8 + (2 + 11) + 112 ≤ R.locals) : CallW R s args RX1 RX0 77 yX0_count cX0_count 2 (some .int) (Cond.code yX0_count cX0_count 2 (some .int) :: WW) ({ frames := 7, cells := 1, slots := 6, locals := 112 }) 1 6 1 := cwV 1 h (gdV qM_X1_77 qI_X0_count qS_X0_count qN_X0 qC_X0_count) rfl rfl rfl (by decide +kernel) hR
theorem cb_X1_80 {R : Room} {s : State} {args : Array Value} (h : ∀ w ∈ WW, w.before args s = true) (hR : 4 + 1 ≤ R.frames ∧ 8 + (1 + 11) + 91 ≤ R.locals) : CallW R s args RX1 RX0 80 yX0_mean cX0_mean 1 (some .double) (Cond.code yX0_mean cX0_mean 1 (some .double) :: WW) ({ frames := 4, cells := 0, slots := 0, locals := 91 }) 0 0 0 := cwV 0 h (gdV qM_X1_80 qI_X0_mean qS_X0_mean qN_X0 qC_X0_mean) rfl rfl rfl (by decide +kernel) hR
theorem cb_L_15 {R : Room} {s : State} {args : Array Value} (h : ∀ w ∈ WW, w.before args s = true) (hR : 0 + 1 ≤ R.frames ∧ 8 + (2 + 11) + 0 ≤ R.locals) : CallB R s args RL 15 yL_below cL_below 2 (some .int) (Cond.code yL_below cL_below 2 (some .int) :: WW) ({ frames := 0, cells := 0, slots := 0, locals := 0 }) 0 0 2 ∧ (Cond.static yL_below).before args s = true := va_cwS 2 h (gdS qM_L_15 qT_L_below qN_L qC_L_below) rfl rfl rfl (by decide +kernel) hR
theorem cb_L_25 {R : Room} {s : State} {args : Array Value} (h : ∀ w ∈ WW, w.before args s = true) (hR : 7 + 1 ≤ R.frames ∧ 8 + (4 + 11) + 140 ≤ R.locals) : CallW R s args RL RX0 25 yX0_take cX0_take 4 (some .boolean) (Cond.code yX0_take cX0_take 4 (some .boolean) :: WW) ({ frames := 7, cells := 1, slots := 6, locals := 140 }) 1 6 2 := cwV 2 h (gdV qM_L_25 qI_X0_take qS_X0_take qN_X0 qC_X0_take) rfl rfl rfl (by decide +kernel) hR
theorem cb_L_31 {R : Room} {s : State} {args : Array Value} (h : ∀ w ∈ WW, w.before args s = true) (hR : 0 + 1 ≤ R.frames ∧ 8 + (3 + 11) + 0 ≤ R.locals) : CallW R s args RL RX1 31 yX1_lemma cX1_lemma 3 none (Cond.code yX1_lemma cX1_lemma 3 none :: WW) ({ frames := 0, cells := 2, slots := 28, locals := 0 }) 2 28 0 := cwV 0 h (gdV qM_L_31 qI_X1_lemma qS_X1_lemma qN_X1 qC_X1_lemma) rfl rfl rfl (by decide +kernel) hR
theorem cb_L_34 {R : Room} {s : State} {args : Array Value} (h : ∀ w ∈ WW, w.before args s = true) (hR : 6 + 1 ≤ R.frames ∧ 8 + (1 + 11) + 140 ≤ R.locals) : CallW R s args RL RX0 34 yX0_lemma cX0_lemma 1 (some .int) (Cond.code yX0_lemma cX0_lemma 1 (some .int) :: WW) ({ frames := 6, cells := 1, slots := 6, locals := 140 }) 1 6 0 := cwV 0 h (gdV qM_L_34 qI_X0_lemma qS_X0_lemma qN_X0 qC_X0_lemma) rfl rfl rfl (by decide +kernel) hR
theorem cb_L_39 {R : Room} {s : State} {args : Array Value} (h : ∀ w ∈ WW, w.before args s = true) (hR : 0 + 1 ≤ R.frames ∧ 8 + (4 + 11) + 0 ≤ R.locals) : CallW R s args RL RX1 39 yX1_proof cX1_proof 4 none (Cond.code yX1_proof cX1_proof 4 none :: WW) ({ frames := 0, cells := 2, slots := 28, locals := 0 }) 2 28 1 := cwV 1 h (gdV qM_L_39 qI_X1_proof qS_X1_proof qN_X1 qC_X1_proof) rfl rfl rfl (by decide +kernel) hR
theorem cb_L_43 {R : Room} {s : State} {args : Array Value} (h : ∀ w ∈ WW, w.before args s = true) (hR : 7 + 1 ≤ R.frames ∧ 8 + (3 + 11) + 140 ≤ R.locals) : CallW R s args RL RX0 43 yX0_proof cX0_proof 3 (some .int) (Cond.code yX0_proof cX0_proof 3 (some .int) :: WW) ({ frames := 7, cells := 1, slots := 6, locals := 140 }) 1 6 1 := cwV 1 h (gdV qM_L_43 qI_X0_proof qS_X0_proof qN_X0 qC_X0_proof) rfl rfl rfl (by decide +kernel) hR
theorem cb_L_46 {R : Room} {s : State} {args : Array Value} (h : ∀ w ∈ WW, w.before args s = true) (hR : 0 + 1 ≤ R.frames ∧ 8 + (5 + 11) + 0 ≤ R.locals) : CallW R s args RL RX1 46 yX1_strike cX1_strike 5 none (Cond.code yX1_strike cX1_strike 5 none :: WW) ({ frames := 0, cells := 1, slots := 14, locals := 0 }) 1 14 2 := cwV 2 h (gdV qM_L_46 qI_X1_strike qS_X1_strike qN_X1 qC_X1_strike) rfl rfl rfl (by decide +kernel) hR
theorem cb_L_50 {R : Room} {s : State} {args : Array Value} (h : ∀ w ∈ WW, w.before args s = true) (hR : 8 + 1 ≤ R.frames ∧ 8 + (4 + 11) + 140 ≤ R.locals) : CallW R s args RL RX0 50 yX0_strike cX0_strike 4 (some .int) (Cond.code yX0_strike cX0_strike 4 (some .int) :: WW) ({ frames := 8, cells := 1, slots := 6, locals := 140 }) 1 6 2 := cwV 2 h (gdV qM_L_50 qI_X0_strike qS_X0_strike qN_X0 qC_X0_strike) rfl rfl rfl (by decide +kernel) hR
theorem cb_L_52 {R : Room} {s : State} {args : Array Value} (h : ∀ w ∈ WW, w.before args s = true) (hR : 9 + 1 ≤ R.frames ∧ 8 + (5 + 11) + 156 ≤ R.locals) : CallW R s args RL RX0 52 yX0_withdraw cX0_withdraw 5 (some .boolean) (Cond.code yX0_withdraw cX0_withdraw 5 (some .boolean) :: WW) ({ frames := 9, cells := 1, slots := 6, locals := 156 }) 1 6 3 := cwV 3 h (gdV qM_L_52 qI_X0_withdraw qS_X0_withdraw qN_X0 qC_X0_withdraw) rfl rfl rfl (by decide +kernel) hR
theorem cb_L_61 {R : Room} {s : State} {args : Array Value} (h : ∀ w ∈ WW, w.before args s = true) (hR : 9 + 1 ≤ R.frames ∧ 8 + (6 + 11) + 156 ≤ R.locals) : CallW R s args RL RX0 61 yX0_patch cX0_patch 6 (some .int) (Cond.code yX0_patch cX0_patch 6 (some .int) :: WW) ({ frames := 9, cells := 1, slots := 6, locals := 156 }) 1 6 4 := cwV 4 h (gdV qM_L_61 qI_X0_patch qS_X0_patch qN_X0 qC_X0_patch) rfl rfl rfl (by decide +kernel) hR
theorem cb_L_65 {R : Room} {s : State} {args : Array Value} (h : ∀ w ∈ WW, w.before args s = true) (hR : 0 + 1 ≤ R.frames ∧ 8 + (4 + 11) + 0 ≤ R.locals) : CallB R s args RL 65 yX1_more cX1_more 4 (some (.array (.array .int))) (Cond.code yX1_more cX1_more 4 (some (.array (.array .int))) :: WW) ({ frames := 0, cells := 1, slots := 14, locals := 0 }) 1 14 2 ∧ (Cond.static yX1_more).before args s = true := va_cwS 2 h (gdS qM_L_65 qT_X1_more qN_X1 qC_X1_more) rfl rfl rfl (by decide +kernel) hR
theorem cb_L_69 {R : Room} {s : State} {args : Array Value} (h : ∀ w ∈ WW, w.before args s = true) (hR : 8 + 1 ≤ R.frames ∧ 8 + (7 + 11) + 140 ≤ R.locals) : CallW R s args RL RX0 69 yX0_cite cX0_cite 7 (some .int) (Cond.code yX0_cite cX0_cite 7 (some .int) :: WW) ({ frames := 8, cells := 1, slots := 6, locals := 140 }) 1 6 4 := cwV 4 h (gdV qM_L_69 qI_X0_cite qS_X0_cite qN_X0 qC_X0_cite) rfl rfl rfl (by decide +kernel) hR
theorem cb_L_72 {R : Room} {s : State} {args : Array Value} (h : ∀ w ∈ WW, w.before args s = true) (hB : hBX s) (hR : 1 + 1 ≤ R.frames ∧ 8 + (1 + 11) + 20 ≤ R.locals) : va_CN R s args RL 72 yX1_init RL cX1_init 1 none (Cond.code yX1_init cX1_init 1 none :: WW) ({ frames := 1, cells := 2, slots := 28, locals := 20 }) 2 28 0 ∧ yX1_init.name = "<init>" ∧ (Cond.instanceMethod yX1_init).before args s = true := ⟨va_cnB 0 h (gdI qC_X1_init) rfl rfl rfl hB.2.2 (h _ qN_X1) (by decide +kernel) hR, rfl, h _ qI_X1_init⟩
theorem cb_L_73 {R : Room} {s : State} {args : Array Value} (h : ∀ w ∈ WW, w.before args s = true) (hR : 0 + 1 ≤ R.frames ∧ 8 + (2 + 11) + 0 ≤ R.locals) : CallB R s args RL 73 yL_cell cL_cell 2 (some .int) (Cond.code yL_cell cL_cell 2 (some .int) :: WW) ({ frames := 0, cells := 0, slots := 0, locals := 0 }) 0 0 2 ∧ (Cond.static yL_cell).before args s = true := va_cwS 2 h (gdS qM_L_73 qT_L_cell qN_L qC_L_cell) rfl rfl rfl (by decide +kernel) hR
theorem cb_L_78 {R : Room} {s : State} {args : Array Value} (h : ∀ w ∈ WW, w.before args s = true) (hR : 9 + 1 ≤ R.frames ∧ 8 + (11 + 11) + 166 ≤ R.locals) : CallB R s args RL 78 yL_build cL_build 11 (some (.object "LodgeProofsLaw$Sim")) (Cond.code yL_build cL_build 11 (some (.object "LodgeProofsLaw$Sim")) :: WW) ({ frames := 9, cells := 12835, slots := 179690, locals := 166 }) 12835 179690 2 ∧ (Cond.static yL_build).before args s = true := va_cwS 2 h (gdS qM_L_78 qT_L_build qN_L qC_L_build) rfl rfl rfl (by decide +kernel) hR
theorem cb_L_82 {R : Room} {s : State} {args : Array Value} (h : ∀ w ∈ WW, w.before args s = true) (hR : 10 + 1 ≤ R.frames ∧ 8 + (13 + 11) + 181 ≤ R.locals) : vx_CSW R s args RL 82 yL_act cL_act 13 (some .boolean) [((162), (168), (171), (37)), ((214), (222), (225), (37)), ((521), (535), (538), (37)), ((741), (755), (758), (37))] (Cond.codeWith yL_act cL_act 13 (some .boolean) [((162), (168), (171), (37)), ((214), (222), (225), (37)), ((521), (535), (538), (37)), ((741), (755), (758), (37))] :: WW) ({ frames := 10, cells := 3, slots := 42, locals := 181 }) 3 42 3 := vx_cwSW 3 h (gdSW qM_L_82 qT_L_act qN_L qCW_L_act) rfl rfl rfl (by decide +kernel) hR
theorem cb_L_86 {R : Room} {s : State} {args : Array Value} (h : ∀ w ∈ WW, w.before args s = true) (hR : 5 + 1 ≤ R.frames ∧ 8 + (4 + 11) + 112 ≤ R.locals) : CallW R s args RL RX0 86 yX0_digest cX0_digest 4 (some .long) (Cond.code yX0_digest cX0_digest 4 (some .long) :: WW) ({ frames := 5, cells := 0, slots := 0, locals := 112 }) 0 0 0 := cwV 0 h (gdV qM_L_86 qI_X0_digest qS_X0_digest qN_X0 qC_X0_digest) rfl rfl rfl (by decide +kernel) hR
theorem cb_L_90 {R : Room} {s : State} {args : Array Value} (h : ∀ w ∈ WW, w.before args s = true) (hR : 7 + 1 ≤ R.frames ∧ 8 + (2 + 11) + 112 ≤ R.locals) : CallW R s args RL RX0 90 yX0_count cX0_count 2 (some .int) (Cond.code yX0_count cX0_count 2 (some .int) :: WW) ({ frames := 7, cells := 1, slots := 6, locals := 112 }) 1 6 1 := cwV 1 h (gdV qM_L_90 qI_X0_count qS_X0_count qN_X0 qC_X0_count) rfl rfl rfl (by decide +kernel) hR
theorem cb_L_93 {R : Room} {s : State} {args : Array Value} (h : ∀ w ∈ WW, w.before args s = true) (hR : 7 + 1 ≤ R.frames ∧ 8 + (3 + 11) + 111 ≤ R.locals) : CallW R s args RL RX0 93 yX0_told cX0_told 3 (some .int) (Cond.code yX0_told cX0_told 3 (some .int) :: WW) ({ frames := 7, cells := 1, slots := 6, locals := 111 }) 1 6 2 := cwV 2 h (gdV qM_L_93 qI_X0_told qS_X0_told qN_X0 qC_X0_told) rfl rfl rfl (by decide +kernel) hR
theorem cb_L_96 {R : Room} {s : State} {args : Array Value} (h : ∀ w ∈ WW, w.before args s = true) (hR : 7 + 1 ≤ R.frames ∧ 8 + (6 + 11) + 111 ≤ R.locals) : CallW R s args RL RX0 96 yX0_best cX0_best 6 (some .int) (Cond.code yX0_best cX0_best 6 (some .int) :: WW) ({ frames := 7, cells := 1, slots := 6, locals := 111 }) 1 6 1 := cwV 1 h (gdV qM_L_96 qI_X0_best qS_X0_best qN_X0 qC_X0_best) rfl rfl rfl (by decide +kernel) hR
theorem cb_L_99 {R : Room} {s : State} {args : Array Value} (h : ∀ w ∈ WW, w.before args s = true) (hR : 8 + 1 ≤ R.frames ∧ 8 + (5 + 11) + 133 ≤ R.locals) : CallW R s args RL RX0 99 yX0_about cX0_about 5 (some .int) (Cond.code yX0_about cX0_about 5 (some .int) :: WW) ({ frames := 8, cells := 1, slots := 6, locals := 133 }) 1 6 3 := cwV 3 h (gdV qM_L_99 qI_X0_about qS_X0_about qN_X0 qC_X0_about) rfl rfl rfl (by decide +kernel) hR
theorem cb_L_103 {R : Room} {s : State} {args : Array Value} (h : ∀ w ∈ WW, w.before args s = true) (hR : 9 + 1 ≤ R.frames ∧ 8 + (5 + 11) + 156 ≤ R.locals) : CallW R s args RL RX0 103 yX0_step cX0_step 5 (some .int) (Cond.code yX0_step cX0_step 5 (some .int) :: WW) ({ frames := 9, cells := 1, slots := 6, locals := 156 }) 1 6 4 := cwV 4 h (gdV qM_L_103 qI_X0_step qS_X0_step qN_X0 qC_X0_step) rfl rfl rfl (by decide +kernel) hR
theorem cb_L_106 {R : Room} {s : State} {args : Array Value} (h : ∀ w ∈ WW, w.before args s = true) (hR : 7 + 1 ≤ R.frames ∧ 8 + (2 + 11) + 119 ≤ R.locals) : CallW R s args RL RX0 106 yX0_without cX0_without 2 (some .int) (Cond.code yX0_without cX0_without 2 (some .int) :: WW) ({ frames := 7, cells := 1, slots := 6, locals := 119 }) 1 6 1 := cwV 1 h (gdV qM_L_106 qI_X0_without qS_X0_without qN_X0 qC_X0_without) rfl rfl rfl (by decide +kernel) hR
theorem cb_L_109 {R : Room} {s : State} {args : Array Value} (h : ∀ w ∈ WW, w.before args s = true) (hR : 7 + 1 ≤ R.frames ∧ 8 + (4 + 11) + 119 ≤ R.locals) : CallW R s args RL RX0 109 yX0_needs cX0_needs 4 (some .boolean) (Cond.code yX0_needs cX0_needs 4 (some .boolean) :: WW) ({ frames := 7, cells := 1, slots := 6, locals := 119 }) 1 6 2 := cwV 2 h (gdV qM_L_109 qI_X0_needs qS_X0_needs qN_X0 qC_X0_needs) rfl rfl rfl (by decide +kernel) hR
theorem cb_L_113 {R : Room} {s : State} {args : Array Value} (h : ∀ w ∈ WW, w.before args s = true) (hR : 6 + 1 ≤ R.frames ∧ 8 + (7 + 11) + 142 ≤ R.locals) : CallW R s args RL RX0 113 yX0_advise cX0_advise 7 (some .int) (Cond.code yX0_advise cX0_advise 7 (some .int) :: WW) ({ frames := 6, cells := 0, slots := 0, locals := 142 }) 0 0 0 := cwV 0 h (gdV qM_L_113 qI_X0_advise qS_X0_advise qN_X0 qC_X0_advise) rfl rfl rfl (by decide +kernel) hR
theorem cb_L_116 {R : Room} {s : State} {args : Array Value} (h : ∀ w ∈ WW, w.before args s = true) (hR : 10 + 1 ≤ R.frames ∧ 8 + (16 + 11) + 180 ≤ R.locals) : CallW R s args RL RX1 116 yX1_isSame cX1_isSame 16 (some .boolean) (Cond.code yX1_isSame cX1_isSame 16 (some .boolean) :: WW) ({ frames := 10, cells := 70516, slots := 987224, locals := 180 }) 70516 987224 1 := cwV 1 h (gdV qM_L_116 qI_X1_isSame qS_X1_isSame qN_X1 qC_X1_isSame) rfl rfl rfl (by decide +kernel) hR
theorem k_sld0 {p : Program} {l : Launch} {e : Env} {R : Room} {s : State} {m : MethodId} {args : Array Value} {below : List Frame} {meth : Method} {c : Code} {Q : State → Prop} {pc nL : Nat} {ls : Array Slot} {rest : List Value} {cc : ByteArray} {own : String} {ρ : Type} {z : ρ} (C : CallFix p m c cc nL s args WW own) {b L : Nat} {xs : Nat → Int32} (hX : va_X b L xs s s.heap) (hbl : b < s.heap.size) {i : Int32} {K : Int32 → Option ρ} (h : (rdA xs L i).bind K = some z) (hdg : decode cc pc = .ok (.iaload, 1))
    (kk : ∀ x, K x = some z → W p l e R s m args below meth c s.heap [] 0 0 Q (F0 m (pc + 1) ls (.int x :: rest))) : W p l e R s m args below meth c s.heap [] 0 0 Q (F0 m pc ls (.int i :: .ref b :: rest)) :=
  va_sld C.1 C.2.1 hX hbl (A := fun _ => False) (fun q => q) va_S.rf (rdA_h h).1 hdg (kk _ (rdA_h h).2)
set_option maxHeartbeats 8000000 in
set_option maxRecDepth 100000 in
theorem tL_below {l : Launch} {v0 : Int32} {v1 : Int32} {z : Int32} (h : mL_below v0 v1 = some z) : Met l yL_below (Cond.code yL_below cL_below 2 (some .int) :: WW) ({ frames := 0, cells := 0, slots := 0, locals := 0 }) (va_Pc [.int v0, .int v1] (fun _ => True)) (vp_Si (fun r => r = z)) 0 0 (fun _ => False) := by
  refine RS_of (own := RL) (by decide) rfl (Nat.le_of_ble_eq_true rfl) ?_
  intro p e s m args below meth c ha C hr hlk ls hl
  have hl : lv_has ls 2 [(0, .int v0), (1, .int v1)] := hl
  unfold mL_below at h
  refine lv_iload_n C.1 C.2.1 dL_below_0 rfl (lv_at hl 0 rfl) ?_
  refine lv_ldc (v := 2147483647) C.1 C.2.1 C.2.2.2.1 (C.2.2.2.2 _ qc_L_7) dL_below_1 ?_
  refine lv_iand C.1 C.2.1 dL_below_3 ?_
  refine lv_iload_n C.1 C.2.1 dL_below_4 rfl (lv_at hl 1 rfl) ?_
  refine k_irem C h dL_below_5 (fun x5 h => ?_)
  exact k_iret C hr hlk h dL_below_6
set_option maxHeartbeats 8000000 in
set_option maxRecDepth 100000 in
theorem tL_cell {l : Launch} {b L : Nat} {xs : Nat → Int32} {v1 : Int32} {z : Int32} (hL : L ≤ 260) (h : mL_cell xs L v1 = some z) : Met l yL_cell (Cond.code yL_cell cL_cell 2 (some .int) :: WW) ({ frames := 0, cells := 0, slots := 0, locals := 0 }) (va_Pc [.ref b, .int v1] (fun U => va_X b L xs U U.heap)) (vp_Si (fun r => r = z)) 0 0 (fun _ => False) := by
  refine XS_of (own := RL) (by decide) rfl (Nat.le_of_ble_eq_true rfl) ?_
  intro p e s m args below meth c ha C hr hlk hX hbl ls hl
  have hl : lv_has ls 2 [(0, .ref b), (1, .int v1)] := hl
  unfold mL_cell at h
  refine lv_iload_n C.1 C.2.1 dL_cell_0 rfl (lv_at hl 1 rfl) ?_
  refine lv_aload_n C.1 C.2.1 dL_cell_1 rfl (lv_at hl 0 rfl) ?_
  refine va_slen (A := fun _ => False) C.1 C.2.1 hX hbl (fun q => q) va_S.rf dL_cell_2 ?_
  refine k_icmp_ge (tgt := 12) C dL_cell_3 (by decide) h (fun c3 h => ?_) (fun c3 h => ?_)
  · refine lv_ldc (v := 790386105) C.1 C.2.1 C.2.2.2.1 (C.2.2.2.2 _ qc_L_8) dL_cell_12 ?_
    refine lv_iload_n C.1 C.2.1 dL_cell_14 rfl (lv_at hl 1 rfl) ?_
    refine lv_iconst (v := 3) C.1 C.2.1 dL_cell_15 (by decide) ?_
    refine lv_iadd C.1 C.2.1 dL_cell_16 ?_
    refine lv_imul C.1 C.2.1 dL_cell_17 ?_
    exact k_iret C hr hlk h dL_cell_18
  · refine lv_aload_n C.1 C.2.1 dL_cell_6 rfl (lv_at hl 0 rfl) ?_
    refine lv_iload_n C.1 C.2.1 dL_cell_7 rfl (lv_at hl 1 rfl) ?_
    refine k_sld0 C hX hbl h dL_cell_8 (fun x8 h => ?_)
    refine lv_goto (tgt := 18) C.1 C.2.1 dL_cell_9 (by decide) ?_
    exact k_iret C hr hlk h dL_cell_18
set_option maxHeartbeats 8000000 in
set_option maxRecDepth 100000 in
theorem tS_isSame {l : Launch} {D : va_G} {k : Nat → ClassId} {a0 : Nat → Nat} {Hp0 : HS} {sz : Nat} {ax : Nat → Nat} {S0 : XS} {v0 : Nat} {z : (Int32 × (XS × HS))} (hfl : l.stackTraces = false) (h : mS_isSame S0 Hp0 v0 = some z) : Met l yX1_isSame (Cond.code yX1_isSame cX1_isSame 16 (some .boolean) :: WW) ({ frames := 10, cells := 70516, slots := 987224, locals := 180 }) (va_Pc [.ref (a0 v0), .ref (ax 0)] (hPreL D k (wXk k ax S0) a0 Hp0 sz)) (hQi D k (wXk k ax z.2.1) a0 Hp0.length z.2.2 z.1 (va_A (wXk k ax S0 ++ wH k a0 Hp0) sz)) 70516 987224 (va_A (wXk k ax S0 ++ wH k a0 Hp0) sz) := by
  refine LV_of (own := RX1) (Qc := fun A => hQi D k (wXk k ax z.2.1) a0 Hp0.length z.2.2 z.1 A) (by decide) rfl (Nat.le_of_ble_eq_true rfl) ?_
  intro p e s m args below meth c A ha C hr hlk hK hB hA hT hE ls hl
  have hl : lv_has ls 16 [(0, .ref (a0 v0)), (1, .ref (ax 0))] := hl
  have L599 : ∀ (S : XS) (Hp : HS) (v0 : Nat) (v5 : Nat) (n : Nat) (v6 : Int32), itr1 (mS_isSame_F599 S Hp v0 v5) n v6 = some z → ∀ (a : Nat → Nat) (H : Heap) (locs : List Loc) (cells slots : Nat) (hT : hST D k A s (wXk k ax S) a0 Hp0.length a Hp H locs) (hc : cells + n * 1 ≤ 70516) (hsl : slots ≤ 14 * cells) (ls : Array Slot), lv_has ls 16 [(0, .ref (a v0)), (1, .ref (ax 0)), (5, .ref (a v5)), (6, .int v6)] → W p l e ({ frames := 10, cells := 70516, slots := 987224, locals := 180 }) s m args below meth c H locs cells slots (MQ below (hQi D k (wXk k ax z.2.1) a0 Hp0.length z.2.2 z.1 A) args s 70516 987224 A) (F0 m 599 ls []) := by
    intro S Hp v0 v5
    intro n
    refine itr1_indn (fun (n : Nat) (v6 : Int32) => ∀ (a : Nat → Nat) (H : Heap) (locs : List Loc) (cells slots : Nat) (hT : hST D k A s (wXk k ax S) a0 Hp0.length a Hp H locs) (hc : cells + n * 1 ≤ 70516) (hsl : slots ≤ 14 * cells) (ls : Array Slot), lv_has ls 16 [(0, .ref (a v0)), (1, .ref (ax 0)), (5, .ref (a v5)), (6, .int v6)] → W p l e ({ frames := 10, cells := 70516, slots := 987224, locals := 180 }) s m args below meth c H locs cells slots (MQ below (hQi D k (wXk k ax z.2.1) a0 Hp0.length z.2.2 z.1 A) args s 70516 987224 A) (F0 m 599 ls [])) ?_ n
    intro n599 ih hih v6 h a H locs cells slots hT hc hsl ls hl
    unfold mS_isSame_F599 at h
    refine lv_iload C.1 C.2.1 dX1_isSame_599 (lv_at hl 3 rfl) ?_
    refine lv_bipush (v := 7) C.1 C.2.1 dX1_isSame_601 (by decide) ?_
    refine k_icmp_ge (tgt := 628) C dX1_isSame_603 (by decide) h (fun c603 h => ?_) (fun c603 h => ?_)
    · refine lv_aload_n C.1 C.2.1 dX1_isSame_628 rfl (lv_at hl 1 rfl) ?_
      refine x_ROd C hK hT [] h (fun v e => tX0_mean e) (cb_X1_80 C.2.2.2.2 ⟨Nat.le_of_ble_eq_true rfl, Nat.le_of_ble_eq_true rfl⟩) rfl hl.1 (Nat.le_of_ble_eq_true rfl) ⟨(by show _ ≤ 70516; omega), (by show _ ≤ 987224; omega)⟩ dX1_isSame_629 rfl (fun x629 h => ?_)
      refine lv_aload_n C.1 C.2.1 dX1_isSame_632 rfl (lv_at hl 0 rfl) ?_
      refine h_get1 C hK qF_X1_15 hT.1 h dX1_isSame_633 (fun x633 h => ?_)
      refine h_len4 C hK hT.1 h dX1_isSame_636 (fun x636 h => ?_)
      refine k_if_ne (tgt := 644) C dX1_isSame_637 (by decide) h (fun c637 h => ?_) (fun c637 h => ?_)
      · refine lv_aload C.1 C.2.1 dX1_isSame_644 (lv_at hl 2 rfl) ?_
        refine lv_iconst (v := 4) C.1 C.2.1 dX1_isSame_646 (by decide) ?_
        refine h_ild0 C hK hT.1 h dX1_isSame_647 (fun x647 h => ?_)
        refine lv_i2d C.1 C.2.1 dX1_isSame_648 ?_
        refine lv_aload_n C.1 C.2.1 dX1_isSame_649 rfl (lv_at hl 0 rfl) ?_
        refine h_get1 C hK qF_X1_15 hT.1 h dX1_isSame_650 (fun x650 h => ?_)
        refine h_len4 C hK hT.1 h dX1_isSame_653 (fun x653 h => ?_)
        refine lv_i2d C.1 C.2.1 dX1_isSame_654 ?_
        refine k_ddiv C h dX1_isSame_655 (fun h => ?_)
        refine lv_dcmp C.1 C.2.1 dX1_isSame_656 ?_
        refine k_if_ne (tgt := 664) C dX1_isSame_657 (by decide) h (fun c657 h => ?_) (fun c657 h => ?_)
        · refine lv_iconst (v := 0) C.1 C.2.1 dX1_isSame_664 (by decide) ?_
          obtain ⟨hg, h⟩ := gz_h h
          cases h
          exact h_zret C hr hlk hT (by omega) (by omega) hg dX1_isSame_665
        · refine lv_iconst (v := 1) C.1 C.2.1 dX1_isSame_660 (by decide) ?_
          refine lv_goto (tgt := 665) C.1 C.2.1 dX1_isSame_661 (by decide) ?_
          obtain ⟨hg, h⟩ := gz_h h
          cases h
          exact h_zret C hr hlk hT (by omega) (by omega) hg dX1_isSame_665
      · refine lv_dconst0 C.1 C.2.1 dX1_isSame_640 ?_
        refine lv_goto (tgt := 656) C.1 C.2.1 dX1_isSame_641 (by decide) ?_
        refine lv_dcmp C.1 C.2.1 dX1_isSame_656 ?_
        refine k_if_ne (tgt := 664) C dX1_isSame_657 (by decide) h (fun c657 h => ?_) (fun c657 h => ?_)
        · refine lv_iconst (v := 0) C.1 C.2.1 dX1_isSame_664 (by decide) ?_
          obtain ⟨hg, h⟩ := gz_h h
          cases h
          exact h_zret C hr hlk hT (by omega) (by omega) hg dX1_isSame_665
        · refine lv_iconst (v := 1) C.1 C.2.1 dX1_isSame_660 (by decide) ?_
          refine lv_goto (tgt := 665) C.1 C.2.1 dX1_isSame_661 (by decide) ?_
          obtain ⟨hg, h⟩ := gz_h h
          cases h
          exact h_zret C hr hlk hT (by omega) (by omega) hg dX1_isSame_665
    · refine lv_aload_n C.1 C.2.1 dX1_isSame_606 rfl (lv_at hl 1 rfl) ?_
      refine lv_iload C.1 C.2.1 dX1_isSame_607 (lv_at hl 3 rfl) ?_
      refine x_TR C hK hA hE hT [.int v6] h (fun o e => tX0_count hfl e) (cb_X1_77 C.2.2.2.2 ⟨Nat.le_of_ble_eq_true rfl, Nat.le_of_ble_eq_true rfl⟩) rfl hl.1 (Nat.le_of_ble_eq_true rfl) ⟨(by show _ ≤ 70516; omega), (by show _ ≤ 987224; omega)⟩ dX1_isSame_609 rfl (fun x609 h => ?_)
      refine lv_aload C.1 C.2.1 dX1_isSame_612 (lv_at hl 2 rfl) ?_
      refine lv_iload C.1 C.2.1 dX1_isSame_614 (lv_at hl 3 rfl) ?_
      refine h_ild0 C hK hT.1 h dX1_isSame_616 (fun x616 h => ?_)
      refine k_icmp_eq (tgt := 622) C dX1_isSame_617 (by decide) h (fun c617 h => ?_) (fun c617 h => ?_)
      · refine lv_iinc (v := (v6 + 1)) (lv' := [(6, .int (v6 + 1)), (0, .ref (a v0)), (1, .ref (ax 0)), (5, .ref (a v5))]) C.1 C.2.1 dX1_isSame_622 hl (k := 3) rfl rfl (by decide) rfl (fun ls hl => ?_)
        refine lv_goto (tgt := 599) C.1 C.2.1 dX1_isSame_625 (by decide) ?_
        exact hih (v6 + 1) h _ _ _ _ _ hT (by omega) (by omega) ls (lv_sub hl [1, 2, 3, 0] rfl)
      · refine lv_iconst (v := 0) C.1 C.2.1 dX1_isSame_620 (by decide) ?_
        obtain ⟨hg, h⟩ := gz_h h
        cases h
        exact h_zret C hr hlk hT (by omega) (by omega) hg dX1_isSame_621
  have J534 : ∀ (n112 : Nat) (S : XS) (Hp : HS) (v0 : Nat) (v2 : Nat) (v3 : Nat) (v4 : Nat) (v5 : Nat) (v6 : Int32) (v7 : Nat) (t0 : Int32) (t1 : Int32) (t2 : Int32) (t3 : Nat) (kk : HS → Int32 → Option (Int32 × (XS × HS))) (hk : ∀ (Hp : HS) (v6 : Int32), kk Hp v6 = some z → ∀ (a : Nat → Nat) (H : Heap) (locs : List Loc) (cells slots : Nat) (hT : hST D k A s (wXk k ax S) a0 Hp0.length a Hp H locs) (hc : cells + n112 * 4403 + 16 ≤ 70516) (hsl : slots ≤ 14 * cells) (ls : Array Slot), lv_has ls 16 [(0, .ref (a v0)), (1, .ref (ax 0)), (2, .ref (a v2)), (3, .ref (a v3)), (4, .ref (a v4)), (5, .ref (a v5)), (6, .int v6)] → W p l e ({ frames := 10, cells := 70516, slots := 987224, locals := 180 }) s m args below meth c H locs cells slots (MQ below (hQi D k (wXk k ax z.2.1) a0 Hp0.length z.2.2 z.1 A) args s 70516 987224 A) (F0 m 112 ls [])), mS_isSame_J534 kk S Hp v0 v2 v3 v4 v5 v6 v7 t0 t1 t2 t3 = some z → ∀ (a : Nat → Nat) (H : Heap) (locs : List Loc) (cells slots : Nat) (hT : hST D k A s (wXk k ax S) a0 Hp0.length a Hp H locs) (hc : cells + n112 * 4403 + 16 ≤ 70516) (hsl : slots ≤ 14 * cells) (ls : Array Slot), lv_has ls 16 [(0, .ref (a v0)), (1, .ref (ax 0)), (2, .ref (a v2)), (3, .ref (a v3)), (4, .ref (a v4)), (5, .ref (a v5)), (6, .int v6), (7, .ref (a v7))] → W p l e ({ frames := 10, cells := 70516, slots := 987224, locals := 180 }) s m args below meth c H locs cells slots (MQ below (hQi D k (wXk k ax z.2.1) a0 Hp0.length z.2.2 z.1 A) args s 70516 987224 A) (F0 m 534 ls [.int t0, .int t1, .int t2, .ref (a t3)]) := by
    intro n112 S Hp v0 v2 v3 v4 v5 v6 v7 t0 t1 t2 t3 kk hk h a H locs cells slots hT hc hsl ls hl
    unfold mS_isSame_J534 at h
    refine lv_iadd C.1 C.2.1 dX1_isSame_534 ?_
    refine h_ist0 C hK hT h dX1_isSame_535 (fun Hp535 H locs h hT => ?_)
    refine lv_aload C.1 C.2.1 dX1_isSame_536 (lv_at hl 5 rfl) ?_
    refine lv_iconst (v := 3) C.1 C.2.1 dX1_isSame_538 (by decide) ?_
    refine lv_dup2_11 C.1 C.2.1 dX1_isSame_539 rfl rfl ?_
    refine h_ild0 C hK hT.1 h dX1_isSame_540 (fun x540 h => ?_)
    refine lv_aload C.1 C.2.1 dX1_isSame_541 (lv_at hl 7 rfl) ?_
    refine lv_iconst (v := 0) C.1 C.2.1 dX1_isSame_543 (by decide) ?_
    refine h_ild0 C hK hT.1 h dX1_isSame_544 (fun x544 h => ?_)
    refine lv_iadd C.1 C.2.1 dX1_isSame_545 ?_
    refine h_ist0 C hK hT h dX1_isSame_546 (fun Hp546 H locs h hT => ?_)
    refine lv_aload C.1 C.2.1 dX1_isSame_547 (lv_at hl 5 rfl) ?_
    refine lv_iconst (v := 4) C.1 C.2.1 dX1_isSame_549 (by decide) ?_
    refine lv_dup2_11 C.1 C.2.1 dX1_isSame_550 rfl rfl ?_
    refine h_ild0 C hK hT.1 h dX1_isSame_551 (fun x551 h => ?_)
    refine lv_aload C.1 C.2.1 dX1_isSame_552 (lv_at hl 7 rfl) ?_
    refine lv_iconst (v := 1) C.1 C.2.1 dX1_isSame_554 (by decide) ?_
    refine h_ild0 C hK hT.1 h dX1_isSame_555 (fun x555 h => ?_)
    refine lv_iadd C.1 C.2.1 dX1_isSame_556 ?_
    refine h_ist0 C hK hT h dX1_isSame_557 (fun Hp557 H locs h hT => ?_)
    refine lv_aload C.1 C.2.1 dX1_isSame_558 (lv_at hl 5 rfl) ?_
    refine lv_iconst (v := 5) C.1 C.2.1 dX1_isSame_560 (by decide) ?_
    refine lv_dup2_11 C.1 C.2.1 dX1_isSame_561 rfl rfl ?_
    refine h_ild0 C hK hT.1 h dX1_isSame_562 (fun x562 h => ?_)
    refine lv_aload C.1 C.2.1 dX1_isSame_563 (lv_at hl 7 rfl) ?_
    refine lv_iconst (v := 5) C.1 C.2.1 dX1_isSame_565 (by decide) ?_
    refine h_ild0 C hK hT.1 h dX1_isSame_566 (fun x566 h => ?_)
    refine lv_iadd C.1 C.2.1 dX1_isSame_567 ?_
    refine h_ist0 C hK hT h dX1_isSame_568 (fun Hp568 H locs h hT => ?_)
    refine lv_aload C.1 C.2.1 dX1_isSame_569 (lv_at hl 5 rfl) ?_
    refine lv_bipush (v := 6) C.1 C.2.1 dX1_isSame_571 (by decide) ?_
    refine lv_dup2_11 C.1 C.2.1 dX1_isSame_573 rfl rfl ?_
    refine h_ild0 C hK hT.1 h dX1_isSame_574 (fun x574 h => ?_)
    refine lv_aload C.1 C.2.1 dX1_isSame_575 (lv_at hl 7 rfl) ?_
    refine lv_bipush (v := 6) C.1 C.2.1 dX1_isSame_577 (by decide) ?_
    refine h_ild0 C hK hT.1 h dX1_isSame_579 (fun x579 h => ?_)
    refine k_if_le (tgt := 587) C dX1_isSame_580 (by decide) h (fun c580 h => ?_) (fun c580 h => ?_)
    · refine lv_iconst (v := 0) C.1 C.2.1 dX1_isSame_587 (by decide) ?_
      refine lv_iadd C.1 C.2.1 dX1_isSame_588 ?_
      refine h_ist0 C hK hT h dX1_isSame_589 (fun Hp589 H locs h hT => ?_)
      refine lv_iinc (v := (v6 + 1)) (lv' := [(6, .int (v6 + 1)), (0, .ref (a v0)), (1, .ref (ax 0)), (2, .ref (a v2)), (3, .ref (a v3)), (4, .ref (a v4)), (5, .ref (a v5)), (7, .ref (a v7))]) C.1 C.2.1 dX1_isSame_590 hl (k := 6) rfl rfl (by decide) rfl (fun ls hl => ?_)
      refine lv_goto (tgt := 112) C.1 C.2.1 dX1_isSame_593 (by decide) ?_
      exact hk Hp589 (v6 + 1) h _ _ _ _ _ hT (by omega) (by omega) ls (lv_sub hl [1, 2, 3, 4, 5, 6, 0] rfl)
    · refine lv_iconst (v := 1) C.1 C.2.1 dX1_isSame_583 (by decide) ?_
      refine lv_goto (tgt := 588) C.1 C.2.1 dX1_isSame_584 (by decide) ?_
      refine lv_iadd C.1 C.2.1 dX1_isSame_588 ?_
      refine h_ist0 C hK hT h dX1_isSame_589 (fun Hp589 H locs h hT => ?_)
      refine lv_iinc (v := (v6 + 1)) (lv' := [(6, .int (v6 + 1)), (0, .ref (a v0)), (1, .ref (ax 0)), (2, .ref (a v2)), (3, .ref (a v3)), (4, .ref (a v4)), (5, .ref (a v5)), (7, .ref (a v7))]) C.1 C.2.1 dX1_isSame_590 hl (k := 6) rfl rfl (by decide) rfl (fun ls hl => ?_)
      refine lv_goto (tgt := 112) C.1 C.2.1 dX1_isSame_593 (by decide) ?_
      exact hk Hp589 (v6 + 1) h _ _ _ _ _ hT (by omega) (by omega) ls (lv_sub hl [1, 2, 3, 4, 5, 6, 0] rfl)
  have L473 : ∀ (n112 : Nat) (S : XS) (Hp : HS) (v0 : Nat) (v2 : Nat) (v3 : Nat) (v4 : Nat) (v5 : Nat) (v6 : Int32) (v7 : Nat) (v8 : Int32) (kk : HS → Int32 → Option (Int32 × (XS × HS))) (hk : ∀ (Hp : HS) (v6 : Int32), kk Hp v6 = some z → ∀ (a : Nat → Nat) (H : Heap) (locs : List Loc) (cells slots : Nat) (hT : hST D k A s (wXk k ax S) a0 Hp0.length a Hp H locs) (hc : cells + n112 * 4403 + 16 ≤ 70516) (hsl : slots ≤ 14 * cells) (ls : Array Slot), lv_has ls 16 [(0, .ref (a v0)), (1, .ref (ax 0)), (2, .ref (a v2)), (3, .ref (a v3)), (4, .ref (a v4)), (5, .ref (a v5)), (6, .int v6)] → W p l e ({ frames := 10, cells := 70516, slots := 987224, locals := 180 }) s m args below meth c H locs cells slots (MQ below (hQi D k (wXk k ax z.2.1) a0 Hp0.length z.2.2 z.1 A) args s 70516 987224 A) (F0 m 112 ls [])) (n : Nat) (v9 : Int32), itr1 (mS_isSame_F473 kk S Hp v0 v2 v3 v4 v5 v6 v7 v8) n v9 = some z → ∀ (a : Nat → Nat) (H : Heap) (locs : List Loc) (cells slots : Nat) (hT : hST D k A s (wXk k ax S) a0 Hp0.length a Hp H locs) (hc : cells + n * 1 + 1 + n112 * 4403 + 16 ≤ 70516) (hsl : slots ≤ 14 * cells) (ls : Array Slot), lv_has ls 16 [(0, .ref (a v0)), (1, .ref (ax 0)), (2, .ref (a v2)), (3, .ref (a v3)), (4, .ref (a v4)), (5, .ref (a v5)), (6, .int v6), (7, .ref (a v7)), (8, .int v8), (9, .int v9)] → W p l e ({ frames := 10, cells := 70516, slots := 987224, locals := 180 }) s m args below meth c H locs cells slots (MQ below (hQi D k (wXk k ax z.2.1) a0 Hp0.length z.2.2 z.1 A) args s 70516 987224 A) (F0 m 473 ls []) := by
    intro n112 S Hp v0 v2 v3 v4 v5 v6 v7 v8 kk hk
    intro n
    refine itr1_indn (fun (n : Nat) (v9 : Int32) => ∀ (a : Nat → Nat) (H : Heap) (locs : List Loc) (cells slots : Nat) (hT : hST D k A s (wXk k ax S) a0 Hp0.length a Hp H locs) (hc : cells + n * 1 + 1 + n112 * 4403 + 16 ≤ 70516) (hsl : slots ≤ 14 * cells) (ls : Array Slot), lv_has ls 16 [(0, .ref (a v0)), (1, .ref (ax 0)), (2, .ref (a v2)), (3, .ref (a v3)), (4, .ref (a v4)), (5, .ref (a v5)), (6, .int v6), (7, .ref (a v7)), (8, .int v8), (9, .int v9)] → W p l e ({ frames := 10, cells := 70516, slots := 987224, locals := 180 }) s m args below meth c H locs cells slots (MQ below (hQi D k (wXk k ax z.2.1) a0 Hp0.length z.2.2 z.1 A) args s 70516 987224 A) (F0 m 473 ls [])) ?_ n
    intro n473 ih hih v9 h a H locs cells slots hT hc hsl ls hl
    unfold mS_isSame_F473 at h
    refine lv_iload C.1 C.2.1 dX1_isSame_473 (lv_at hl 9 rfl) ?_
    refine lv_bipush (v := 7) C.1 C.2.1 dX1_isSame_475 (by decide) ?_
    refine k_icmp_ge (tgt := 504) C dX1_isSame_477 (by decide) h (fun c477 h => ?_) (fun c477 h => ?_)
    · refine lv_aload_n C.1 C.2.1 dX1_isSame_504 rfl (lv_at hl 1 rfl) ?_
      refine lv_iload C.1 C.2.1 dX1_isSame_505 (lv_at hl 6 rfl) ?_
      refine x_TR C hK hA hE hT [.int v6] h (fun o e => tX0_best hfl e) (cb_X1_74 C.2.2.2.2 ⟨Nat.le_of_ble_eq_true rfl, Nat.le_of_ble_eq_true rfl⟩) rfl hl.1 (Nat.le_of_ble_eq_true rfl) ⟨(by show _ ≤ 70516; omega), (by show _ ≤ 987224; omega)⟩ dX1_isSame_507 rfl (fun x507 h => ?_)
      refine lv_iload C.1 C.2.1 dX1_isSame_510 (lv_at hl 8 rfl) ?_
      refine k_icmp_eq (tgt := 517) C dX1_isSame_512 (by decide) h (fun c512 h => ?_) (fun c512 h => ?_)
      · refine lv_aload C.1 C.2.1 dX1_isSame_517 (lv_at hl 5 rfl) ?_
        refine lv_iconst (v := 1) C.1 C.2.1 dX1_isSame_519 (by decide) ?_
        refine lv_dup2_11 C.1 C.2.1 dX1_isSame_520 rfl rfl ?_
        refine h_ild0 C hK hT.1 h dX1_isSame_521 (fun x521 h => ?_)
        refine lv_aload_n C.1 C.2.1 dX1_isSame_522 rfl (lv_at hl 2 rfl) ?_
        refine lv_iload C.1 C.2.1 dX1_isSame_523 (lv_at hl 6 rfl) ?_
        refine h_ild0 C hK hT.1 h dX1_isSame_525 (fun x525 h => ?_)
        refine k_if_le (tgt := 533) C dX1_isSame_526 (by decide) h (fun c526 h => ?_) (fun c526 h => ?_)
        · refine lv_iconst (v := 0) C.1 C.2.1 dX1_isSame_533 (by decide) ?_
          exact J534 n112 S Hp v0 v2 v3 v4 v5 v6 v7 0 x521 1 v5 kk hk h _ _ _ _ _ hT (by omega) (by omega) ls (lv_sub hl [0, 1, 2, 3, 4, 5, 6, 7] rfl)
        · refine lv_iconst (v := 1) C.1 C.2.1 dX1_isSame_529 (by decide) ?_
          refine lv_goto (tgt := 534) C.1 C.2.1 dX1_isSame_530 (by decide) ?_
          exact J534 n112 S Hp v0 v2 v3 v4 v5 v6 v7 1 x521 1 v5 kk hk h _ _ _ _ _ hT (by omega) (by omega) ls (lv_sub hl [0, 1, 2, 3, 4, 5, 6, 7] rfl)
      · refine lv_iconst (v := 0) C.1 C.2.1 dX1_isSame_515 (by decide) ?_
        obtain ⟨hg, h⟩ := gz_h h
        cases h
        exact h_zret C hr hlk hT (by omega) (by omega) hg dX1_isSame_516
    · refine lv_aload_n C.1 C.2.1 dX1_isSame_480 rfl (lv_at hl 1 rfl) ?_
      refine lv_iload C.1 C.2.1 dX1_isSame_481 (lv_at hl 6 rfl) ?_
      refine lv_iload C.1 C.2.1 dX1_isSame_483 (lv_at hl 9 rfl) ?_
      refine x_TR C hK hA hE hT [.int v6, .int v9] h (fun o e => tX0_told hfl e) (cb_X1_71 C.2.2.2.2 ⟨Nat.le_of_ble_eq_true rfl, Nat.le_of_ble_eq_true rfl⟩) rfl hl.1 (Nat.le_of_ble_eq_true rfl) ⟨(by show _ ≤ 70516; omega), (by show _ ≤ 987224; omega)⟩ dX1_isSame_485 rfl (fun x485 h => ?_)
      refine lv_aload C.1 C.2.1 dX1_isSame_488 (lv_at hl 7 rfl) ?_
      refine lv_iload C.1 C.2.1 dX1_isSame_490 (lv_at hl 9 rfl) ?_
      refine h_ild0 C hK hT.1 h dX1_isSame_492 (fun x492 h => ?_)
      refine k_icmp_eq (tgt := 498) C dX1_isSame_493 (by decide) h (fun c493 h => ?_) (fun c493 h => ?_)
      · refine lv_iinc (v := (v9 + 1)) (lv' := [(9, .int (v9 + 1)), (0, .ref (a v0)), (1, .ref (ax 0)), (2, .ref (a v2)), (3, .ref (a v3)), (4, .ref (a v4)), (5, .ref (a v5)), (6, .int v6), (7, .ref (a v7)), (8, .int v8)]) C.1 C.2.1 dX1_isSame_498 hl (k := 9) rfl rfl (by decide) rfl (fun ls hl => ?_)
        refine lv_goto (tgt := 473) C.1 C.2.1 dX1_isSame_501 (by decide) ?_
        exact hih (v9 + 1) h _ _ _ _ _ hT (by omega) (by omega) ls (lv_sub hl [1, 2, 3, 4, 5, 6, 7, 8, 9, 0] rfl)
      · refine lv_iconst (v := 0) C.1 C.2.1 dX1_isSame_496 (by decide) ?_
        obtain ⟨hg, h⟩ := gz_h h
        cases h
        exact h_zret C hr hlk hT (by omega) (by omega) hg dX1_isSame_497
  have L407 : ∀ (n396 n214 n112 : Nat) (S : XS) (Hp : HS) (v0 : Nat) (v2 : Nat) (v3 : Nat) (v4 : Nat) (v5 : Nat) (v6 : Int32) (v7 : Nat) (v8 : Int32) (v9 : Int32) (v10 : Nat) (v14 : Int32) (kk : HS → Int32 → Option (Int32 × (XS × HS))) (hk : ∀ (Hp : HS) (v14 : Int32), kk Hp v14 = some z → ∀ (a : Nat → Nat) (H : Heap) (locs : List Loc) (cells slots : Nat) (hT : hST D k A s (wXk k ax S) a0 Hp0.length a Hp H locs) (hc : cells + n396 * 16 + n214 * 273 + 17 + n112 * 4403 + 16 ≤ 70516) (hsl : slots ≤ 14 * cells) (ls : Array Slot), lv_has ls 16 [(0, .ref (a v0)), (1, .ref (ax 0)), (2, .ref (a v2)), (3, .ref (a v3)), (4, .ref (a v4)), (5, .ref (a v5)), (6, .int v6), (7, .ref (a v7)), (8, .int v8), (9, .int v9), (10, .ref (a v10)), (14, .int v14)] → W p l e ({ frames := 10, cells := 70516, slots := 987224, locals := 180 }) s m args below meth c H locs cells slots (MQ below (hQi D k (wXk k ax z.2.1) a0 Hp0.length z.2.2 z.1 A) args s 70516 987224 A) (F0 m 396 ls [])) (n : Nat) (v15 : Int32), itr1 (mS_isSame_F407 kk S Hp v0 v2 v3 v4 v5 v6 v7 v8 v9 v10 v14) n v15 = some z → ∀ (a : Nat → Nat) (H : Heap) (locs : List Loc) (cells slots : Nat) (hT : hST D k A s (wXk k ax S) a0 Hp0.length a Hp H locs) (hc : cells + n * 1 + n396 * 16 + n214 * 273 + 17 + n112 * 4403 + 16 ≤ 70516) (hsl : slots ≤ 14 * cells) (ls : Array Slot), lv_has ls 16 [(0, .ref (a v0)), (1, .ref (ax 0)), (2, .ref (a v2)), (3, .ref (a v3)), (4, .ref (a v4)), (5, .ref (a v5)), (6, .int v6), (7, .ref (a v7)), (8, .int v8), (9, .int v9), (10, .ref (a v10)), (14, .int v14), (15, .int v15)] → W p l e ({ frames := 10, cells := 70516, slots := 987224, locals := 180 }) s m args below meth c H locs cells slots (MQ below (hQi D k (wXk k ax z.2.1) a0 Hp0.length z.2.2 z.1 A) args s 70516 987224 A) (F0 m 407 ls []) := by
    intro n396 n214 n112 S Hp v0 v2 v3 v4 v5 v6 v7 v8 v9 v10 v14 kk hk
    intro n
    refine itr1_indn (fun (n : Nat) (v15 : Int32) => ∀ (a : Nat → Nat) (H : Heap) (locs : List Loc) (cells slots : Nat) (hT : hST D k A s (wXk k ax S) a0 Hp0.length a Hp H locs) (hc : cells + n * 1 + n396 * 16 + n214 * 273 + 17 + n112 * 4403 + 16 ≤ 70516) (hsl : slots ≤ 14 * cells) (ls : Array Slot), lv_has ls 16 [(0, .ref (a v0)), (1, .ref (ax 0)), (2, .ref (a v2)), (3, .ref (a v3)), (4, .ref (a v4)), (5, .ref (a v5)), (6, .int v6), (7, .ref (a v7)), (8, .int v8), (9, .int v9), (10, .ref (a v10)), (14, .int v14), (15, .int v15)] → W p l e ({ frames := 10, cells := 70516, slots := 987224, locals := 180 }) s m args below meth c H locs cells slots (MQ below (hQi D k (wXk k ax z.2.1) a0 Hp0.length z.2.2 z.1 A) args s 70516 987224 A) (F0 m 407 ls [])) ?_ n
    intro n407 ih hih v15 h a H locs cells slots hT hc hsl ls hl
    unfold mS_isSame_F407 at h
    refine lv_iload C.1 C.2.1 dX1_isSame_407 (lv_at hl 12 rfl) ?_
    refine lv_iconst (v := 4) C.1 C.2.1 dX1_isSame_409 (by decide) ?_
    refine k_icmp_ge (tgt := 444) C dX1_isSame_410 (by decide) h (fun c410 h => ?_) (fun c410 h => ?_)
    · refine lv_aload C.1 C.2.1 dX1_isSame_444 (lv_at hl 7 rfl) ?_
      refine lv_iconst (v := 5) C.1 C.2.1 dX1_isSame_446 (by decide) ?_
      refine lv_dup2_11 C.1 C.2.1 dX1_isSame_447 rfl rfl ?_
      refine h_ild0 C hK hT.1 h dX1_isSame_448 (fun x448 h => ?_)
      refine lv_aload C.1 C.2.1 dX1_isSame_449 (lv_at hl 10 rfl) ?_
      refine lv_iload C.1 C.2.1 dX1_isSame_451 (lv_at hl 11 rfl) ?_
      refine h_ald2 C hK hT.1 h dX1_isSame_453 (fun x453 h => ?_)
      refine lv_iconst (v := 2) C.1 C.2.1 dX1_isSame_454 (by decide) ?_
      refine h_ild0 C hK hT.1 h dX1_isSame_455 (fun x455 h => ?_)
      refine lv_iadd C.1 C.2.1 dX1_isSame_456 ?_
      refine h_ist0 C hK hT h dX1_isSame_457 (fun Hp457 H locs h hT => ?_)
      refine lv_iinc (v := (v14 + 1)) (lv' := [(14, .int (v14 + 1)), (0, .ref (a v0)), (1, .ref (ax 0)), (2, .ref (a v2)), (3, .ref (a v3)), (4, .ref (a v4)), (5, .ref (a v5)), (6, .int v6), (7, .ref (a v7)), (8, .int v8), (9, .int v9), (10, .ref (a v10)), (15, .int v15)]) C.1 C.2.1 dX1_isSame_458 hl (k := 11) rfl rfl (by decide) rfl (fun ls hl => ?_)
      refine lv_goto (tgt := 396) C.1 C.2.1 dX1_isSame_461 (by decide) ?_
      exact hk Hp457 (v14 + 1) h _ _ _ _ _ hT (by omega) (by omega) ls (lv_sub hl [1, 2, 3, 4, 5, 6, 7, 8, 9, 10, 11, 0] rfl)
    · refine lv_aload_n C.1 C.2.1 dX1_isSame_413 rfl (lv_at hl 1 rfl) ?_
      refine lv_iload C.1 C.2.1 dX1_isSame_414 (lv_at hl 6 rfl) ?_
      refine lv_iload C.1 C.2.1 dX1_isSame_416 (lv_at hl 9 rfl) ?_
      refine lv_iload C.1 C.2.1 dX1_isSame_418 (lv_at hl 11 rfl) ?_
      refine lv_iload C.1 C.2.1 dX1_isSame_420 (lv_at hl 12 rfl) ?_
      refine x_TR C hK hA hE hT [.int v6, .int v9, .int v14, .int v15] h (fun o e => tX0_step hfl e) (cb_X1_67 C.2.2.2.2 ⟨Nat.le_of_ble_eq_true rfl, Nat.le_of_ble_eq_true rfl⟩) rfl hl.1 (Nat.le_of_ble_eq_true rfl) ⟨(by show _ ≤ 70516; omega), (by show _ ≤ 987224; omega)⟩ dX1_isSame_422 rfl (fun x422 h => ?_)
      refine lv_aload C.1 C.2.1 dX1_isSame_425 (lv_at hl 10 rfl) ?_
      refine lv_iload C.1 C.2.1 dX1_isSame_427 (lv_at hl 11 rfl) ?_
      refine h_ald2 C hK hT.1 h dX1_isSame_429 (fun x429 h => ?_)
      refine lv_iload C.1 C.2.1 dX1_isSame_430 (lv_at hl 12 rfl) ?_
      refine h_ild0 C hK hT.1 h dX1_isSame_432 (fun x432 h => ?_)
      refine k_icmp_eq (tgt := 438) C dX1_isSame_433 (by decide) h (fun c433 h => ?_) (fun c433 h => ?_)
      · refine lv_iinc (v := (v15 + 1)) (lv' := [(15, .int (v15 + 1)), (0, .ref (a v0)), (1, .ref (ax 0)), (2, .ref (a v2)), (3, .ref (a v3)), (4, .ref (a v4)), (5, .ref (a v5)), (6, .int v6), (7, .ref (a v7)), (8, .int v8), (9, .int v9), (10, .ref (a v10)), (14, .int v14)]) C.1 C.2.1 dX1_isSame_438 hl (k := 12) rfl rfl (by decide) rfl (fun ls hl => ?_)
        refine lv_goto (tgt := 407) C.1 C.2.1 dX1_isSame_441 (by decide) ?_
        exact hih (v15 + 1) h _ _ _ _ _ hT (by omega) (by omega) ls (lv_sub hl [1, 2, 3, 4, 5, 6, 7, 8, 9, 10, 11, 12, 0] rfl)
      · refine lv_iconst (v := 0) C.1 C.2.1 dX1_isSame_436 (by decide) ?_
        obtain ⟨hg, h⟩ := gz_h h
        cases h
        exact h_zret C hr hlk hT (by omega) (by omega) hg dX1_isSame_437
  have L396 : ∀ (n214 n112 : Nat) (S : XS) (v0 : Nat) (v2 : Nat) (v3 : Nat) (v4 : Nat) (v5 : Nat) (v6 : Int32) (v7 : Nat) (v8 : Int32) (v9 : Int32) (v10 : Nat) (kk : HS → Int32 → Int32 → Option (Int32 × (XS × HS))) (hk : ∀ (Hp : HS) (v8 : Int32) (v9 : Int32), kk Hp v8 v9 = some z → ∀ (a : Nat → Nat) (H : Heap) (locs : List Loc) (cells slots : Nat) (hT : hST D k A s (wXk k ax S) a0 Hp0.length a Hp H locs) (hc : cells + n214 * 273 + 17 + n112 * 4403 + 16 ≤ 70516) (hsl : slots ≤ 14 * cells) (ls : Array Slot), lv_has ls 16 [(0, .ref (a v0)), (1, .ref (ax 0)), (2, .ref (a v2)), (3, .ref (a v3)), (4, .ref (a v4)), (5, .ref (a v5)), (6, .int v6), (7, .ref (a v7)), (8, .int v8), (9, .int v9)] → W p l e ({ frames := 10, cells := 70516, slots := 987224, locals := 180 }) s m args below meth c H locs cells slots (MQ below (hQi D k (wXk k ax z.2.1) a0 Hp0.length z.2.2 z.1 A) args s 70516 987224 A) (F0 m 214 ls [])) (n : Nat) (Hp : HS) (v14 : Int32), itr2 (mS_isSame_F396 kk S v0 v2 v3 v4 v5 v6 v7 v8 v9 v10) n Hp v14 = some z → ∀ (a : Nat → Nat) (H : Heap) (locs : List Loc) (cells slots : Nat) (hT : hST D k A s (wXk k ax S) a0 Hp0.length a Hp H locs) (hc : cells + n * 16 + n214 * 273 + 17 + n112 * 4403 + 16 ≤ 70516) (hsl : slots ≤ 14 * cells) (ls : Array Slot), lv_has ls 16 [(0, .ref (a v0)), (1, .ref (ax 0)), (2, .ref (a v2)), (3, .ref (a v3)), (4, .ref (a v4)), (5, .ref (a v5)), (6, .int v6), (7, .ref (a v7)), (8, .int v8), (9, .int v9), (10, .ref (a v10)), (14, .int v14)] → W p l e ({ frames := 10, cells := 70516, slots := 987224, locals := 180 }) s m args below meth c H locs cells slots (MQ below (hQi D k (wXk k ax z.2.1) a0 Hp0.length z.2.2 z.1 A) args s 70516 987224 A) (F0 m 396 ls []) := by
    intro n214 n112 S v0 v2 v3 v4 v5 v6 v7 v8 v9 v10 kk hk
    intro n
    refine itr2_indn (fun (n : Nat) (Hp : HS) (v14 : Int32) => ∀ (a : Nat → Nat) (H : Heap) (locs : List Loc) (cells slots : Nat) (hT : hST D k A s (wXk k ax S) a0 Hp0.length a Hp H locs) (hc : cells + n * 16 + n214 * 273 + 17 + n112 * 4403 + 16 ≤ 70516) (hsl : slots ≤ 14 * cells) (ls : Array Slot), lv_has ls 16 [(0, .ref (a v0)), (1, .ref (ax 0)), (2, .ref (a v2)), (3, .ref (a v3)), (4, .ref (a v4)), (5, .ref (a v5)), (6, .int v6), (7, .ref (a v7)), (8, .int v8), (9, .int v9), (10, .ref (a v10)), (14, .int v14)] → W p l e ({ frames := 10, cells := 70516, slots := 987224, locals := 180 }) s m args below meth c H locs cells slots (MQ below (hQi D k (wXk k ax z.2.1) a0 Hp0.length z.2.2 z.1 A) args s 70516 987224 A) (F0 m 396 ls [])) ?_ n
    intro n396 ih hih Hp v14 h a H locs cells slots hT hc hsl ls hl
    unfold mS_isSame_F396 at h
    refine lv_iload C.1 C.2.1 dX1_isSame_396 (lv_at hl 11 rfl) ?_
    refine lv_aload C.1 C.2.1 dX1_isSame_398 (lv_at hl 10 rfl) ?_
    refine h_len2 C hK hT.1 h dX1_isSame_400 (fun x400 h => ?_)
    refine k_icmp_ge (tgt := 464) C dX1_isSame_401 (by decide) h (fun c401 h => ?_) (fun c401 h => ?_)
    · refine lv_iinc (v := (v9 + 1)) (lv' := [(9, .int (v9 + 1)), (0, .ref (a v0)), (1, .ref (ax 0)), (2, .ref (a v2)), (3, .ref (a v3)), (4, .ref (a v4)), (5, .ref (a v5)), (6, .int v6), (7, .ref (a v7)), (8, .int v8), (10, .ref (a v10)), (14, .int v14)]) C.1 C.2.1 dX1_isSame_464 hl (k := 9) rfl rfl (by decide) rfl (fun ls hl => ?_)
      refine lv_goto (tgt := 214) C.1 C.2.1 dX1_isSame_467 (by decide) ?_
      exact hk Hp v8 (v9 + 1) h _ _ _ _ _ hT (by omega) (by omega) ls (lv_sub hl [1, 2, 3, 4, 5, 6, 7, 8, 9, 0] rfl)
    · refine lv_iconst (v := 0) C.1 C.2.1 dX1_isSame_404 (by decide) ?_
      refine lv_istore (lv' := [(15, .int 0), (0, .ref (a v0)), (1, .ref (ax 0)), (2, .ref (a v2)), (3, .ref (a v3)), (4, .ref (a v4)), (5, .ref (a v5)), (6, .int v6), (7, .ref (a v7)), (8, .int v8), (9, .int v9), (10, .ref (a v10)), (14, .int v14)]) C.1 C.2.1 dX1_isSame_405 hl (by decide) rfl (fun ls hl => ?_)
      exact L407 n396 n214 n112 S Hp v0 v2 v3 v4 v5 v6 v7 v8 v9 v10 v14 ih hih 16 0 h _ _ _ _ _ hT (by omega) (by omega) ls (lv_sub hl [1, 2, 3, 4, 5, 6, 7, 8, 9, 10, 11, 12, 0] rfl)
  have L325 : ∀ (n214 n112 : Nat) (S : XS) (Hp : HS) (v0 : Nat) (v2 : Nat) (v3 : Nat) (v4 : Nat) (v5 : Nat) (v6 : Int32) (v7 : Nat) (v8 : Int32) (v9 : Int32) (v10 : Nat) (v11 : Int32) (v13 : Nat) (kk : HS → Int32 → Int32 → Option (Int32 × (XS × HS))) (hk : ∀ (Hp : HS) (v8 : Int32) (v9 : Int32), kk Hp v8 v9 = some z → ∀ (a : Nat → Nat) (H : Heap) (locs : List Loc) (cells slots : Nat) (hT : hST D k A s (wXk k ax S) a0 Hp0.length a Hp H locs) (hc : cells + n214 * 273 + 17 + n112 * 4403 + 16 ≤ 70516) (hsl : slots ≤ 14 * cells) (ls : Array Slot), lv_has ls 16 [(0, .ref (a v0)), (1, .ref (ax 0)), (2, .ref (a v2)), (3, .ref (a v3)), (4, .ref (a v4)), (5, .ref (a v5)), (6, .int v6), (7, .ref (a v7)), (8, .int v8), (9, .int v9)] → W p l e ({ frames := 10, cells := 70516, slots := 987224, locals := 180 }) s m args below meth c H locs cells slots (MQ below (hQi D k (wXk k ax z.2.1) a0 Hp0.length z.2.2 z.1 A) args s 70516 987224 A) (F0 m 214 ls [])) (n : Nat) (v14 : Int32), itr1 (mS_isSame_F325 kk S Hp v0 v2 v3 v4 v5 v6 v7 v8 v9 v10 v11 v13) n v14 = some z → ∀ (a : Nat → Nat) (H : Heap) (locs : List Loc) (cells slots : Nat) (hT : hST D k A s (wXk k ax S) a0 Hp0.length a Hp H locs) (hc : cells + n * 1 + 256 + n214 * 273 + 17 + n112 * 4403 + 16 ≤ 70516) (hsl : slots ≤ 14 * cells) (ls : Array Slot), lv_has ls 16 [(0, .ref (a v0)), (1, .ref (ax 0)), (2, .ref (a v2)), (3, .ref (a v3)), (4, .ref (a v4)), (5, .ref (a v5)), (6, .int v6), (7, .ref (a v7)), (8, .int v8), (9, .int v9), (10, .ref (a v10)), (11, .int v11), (13, .ref (a v13)), (14, .int v14)] → W p l e ({ frames := 10, cells := 70516, slots := 987224, locals := 180 }) s m args below meth c H locs cells slots (MQ below (hQi D k (wXk k ax z.2.1) a0 Hp0.length z.2.2 z.1 A) args s 70516 987224 A) (F0 m 325 ls []) := by
    intro n214 n112 S Hp v0 v2 v3 v4 v5 v6 v7 v8 v9 v10 v11 v13 kk hk
    intro n
    refine itr1_indn (fun (n : Nat) (v14 : Int32) => ∀ (a : Nat → Nat) (H : Heap) (locs : List Loc) (cells slots : Nat) (hT : hST D k A s (wXk k ax S) a0 Hp0.length a Hp H locs) (hc : cells + n * 1 + 256 + n214 * 273 + 17 + n112 * 4403 + 16 ≤ 70516) (hsl : slots ≤ 14 * cells) (ls : Array Slot), lv_has ls 16 [(0, .ref (a v0)), (1, .ref (ax 0)), (2, .ref (a v2)), (3, .ref (a v3)), (4, .ref (a v4)), (5, .ref (a v5)), (6, .int v6), (7, .ref (a v7)), (8, .int v8), (9, .int v9), (10, .ref (a v10)), (11, .int v11), (13, .ref (a v13)), (14, .int v14)] → W p l e ({ frames := 10, cells := 70516, slots := 987224, locals := 180 }) s m args below meth c H locs cells slots (MQ below (hQi D k (wXk k ax z.2.1) a0 Hp0.length z.2.2 z.1 A) args s 70516 987224 A) (F0 m 325 ls [])) ?_ n
    intro n325 ih hih v14 h a H locs cells slots hT hc hsl ls hl
    unfold mS_isSame_F325 at h
    refine lv_iload C.1 C.2.1 dX1_isSame_325 (lv_at hl 13 rfl) ?_
    refine lv_iconst (v := 4) C.1 C.2.1 dX1_isSame_327 (by decide) ?_
    refine k_icmp_ge (tgt := 357) C dX1_isSame_328 (by decide) h (fun c328 h => ?_) (fun c328 h => ?_)
    · refine lv_iload C.1 C.2.1 dX1_isSame_357 (lv_at hl 11 rfl) ?_
      refine lv_sipush (v := 9999) C.1 C.2.1 dX1_isSame_359 (by decide) ?_
      refine k_icmp_ge (tgt := 383) C dX1_isSame_362 (by decide) h (fun c362 h => ?_) (fun c362 h => ?_)
      · refine lv_aload C.1 C.2.1 dX1_isSame_383 (lv_at hl 7 rfl) ?_
        refine lv_iconst (v := 1) C.1 C.2.1 dX1_isSame_385 (by decide) ?_
        refine lv_dup2_11 C.1 C.2.1 dX1_isSame_386 rfl rfl ?_
        refine h_ild0 C hK hT.1 h dX1_isSame_387 (fun x387 h => ?_)
        refine lv_aload C.1 C.2.1 dX1_isSame_388 (lv_at hl 10 rfl) ?_
        refine h_len2 C hK hT.1 h dX1_isSame_390 (fun x390 h => ?_)
        refine lv_iadd C.1 C.2.1 dX1_isSame_391 ?_
        refine h_ist0 C hK hT h dX1_isSame_392 (fun Hp392 H locs h hT => ?_)
        refine lv_iconst (v := 0) C.1 C.2.1 dX1_isSame_393 (by decide) ?_
        refine lv_istore (lv' := [(14, .int 0), (0, .ref (a v0)), (1, .ref (ax 0)), (2, .ref (a v2)), (3, .ref (a v3)), (4, .ref (a v4)), (5, .ref (a v5)), (6, .int v6), (7, .ref (a v7)), (8, .int v8), (9, .int v9), (10, .ref (a v10)), (11, .int v11), (13, .ref (a v13))]) C.1 C.2.1 dX1_isSame_394 hl (by decide) rfl (fun ls hl => ?_)
        exact L396 n214 n112 S v0 v2 v3 v4 v5 v6 v7 v8 v9 v10 kk hk 16 Hp392 0 h _ _ _ _ _ hT (by omega) (by omega) ls (lv_sub hl [1, 2, 3, 4, 5, 6, 7, 8, 9, 10, 11, 0] rfl)
      · refine lv_iload C.1 C.2.1 dX1_isSame_365 (lv_at hl 8 rfl) ?_
        refine k_if_ge (tgt := 383) C dX1_isSame_367 (by decide) h (fun c367 h => ?_) (fun c367 h => ?_)
        · refine lv_aload C.1 C.2.1 dX1_isSame_383 (lv_at hl 7 rfl) ?_
          refine lv_iconst (v := 1) C.1 C.2.1 dX1_isSame_385 (by decide) ?_
          refine lv_dup2_11 C.1 C.2.1 dX1_isSame_386 rfl rfl ?_
          refine h_ild0 C hK hT.1 h dX1_isSame_387 (fun x387 h => ?_)
          refine lv_aload C.1 C.2.1 dX1_isSame_388 (lv_at hl 10 rfl) ?_
          refine h_len2 C hK hT.1 h dX1_isSame_390 (fun x390 h => ?_)
          refine lv_iadd C.1 C.2.1 dX1_isSame_391 ?_
          refine h_ist0 C hK hT h dX1_isSame_392 (fun Hp392 H locs h hT => ?_)
          refine lv_iconst (v := 0) C.1 C.2.1 dX1_isSame_393 (by decide) ?_
          refine lv_istore (lv' := [(14, .int 0), (0, .ref (a v0)), (1, .ref (ax 0)), (2, .ref (a v2)), (3, .ref (a v3)), (4, .ref (a v4)), (5, .ref (a v5)), (6, .int v6), (7, .ref (a v7)), (8, .int v8), (9, .int v9), (10, .ref (a v10)), (11, .int v11), (13, .ref (a v13))]) C.1 C.2.1 dX1_isSame_394 hl (by decide) rfl (fun ls hl => ?_)
          exact L396 n214 n112 S v0 v2 v3 v4 v5 v6 v7 v8 v9 v10 kk hk 16 Hp392 0 h _ _ _ _ _ hT (by omega) (by omega) ls (lv_sub hl [1, 2, 3, 4, 5, 6, 7, 8, 9, 10, 11, 0] rfl)
        · refine lv_iload C.1 C.2.1 dX1_isSame_370 (lv_at hl 11 rfl) ?_
          refine lv_aload_n C.1 C.2.1 dX1_isSame_372 rfl (lv_at hl 3 rfl) ?_
          refine lv_iload C.1 C.2.1 dX1_isSame_373 (lv_at hl 6 rfl) ?_
          refine h_ild0 C hK hT.1 h dX1_isSame_375 (fun x375 h => ?_)
          refine k_icmp_ne (tgt := 383) C dX1_isSame_376 (by decide) h (fun c376 h => ?_) (fun c376 h => ?_)
          · refine lv_aload C.1 C.2.1 dX1_isSame_383 (lv_at hl 7 rfl) ?_
            refine lv_iconst (v := 1) C.1 C.2.1 dX1_isSame_385 (by decide) ?_
            refine lv_dup2_11 C.1 C.2.1 dX1_isSame_386 rfl rfl ?_
            refine h_ild0 C hK hT.1 h dX1_isSame_387 (fun x387 h => ?_)
            refine lv_aload C.1 C.2.1 dX1_isSame_388 (lv_at hl 10 rfl) ?_
            refine h_len2 C hK hT.1 h dX1_isSame_390 (fun x390 h => ?_)
            refine lv_iadd C.1 C.2.1 dX1_isSame_391 ?_
            refine h_ist0 C hK hT h dX1_isSame_392 (fun Hp392 H locs h hT => ?_)
            refine lv_iconst (v := 0) C.1 C.2.1 dX1_isSame_393 (by decide) ?_
            refine lv_istore (lv' := [(14, .int 0), (0, .ref (a v0)), (1, .ref (ax 0)), (2, .ref (a v2)), (3, .ref (a v3)), (4, .ref (a v4)), (5, .ref (a v5)), (6, .int v6), (7, .ref (a v7)), (8, .int v8), (9, .int v9), (10, .ref (a v10)), (11, .int v11), (13, .ref (a v13))]) C.1 C.2.1 dX1_isSame_394 hl (by decide) rfl (fun ls hl => ?_)
            exact L396 n214 n112 S v0 v2 v3 v4 v5 v6 v7 v8 v9 v10 kk hk 16 Hp392 0 h _ _ _ _ _ hT (by omega) (by omega) ls (lv_sub hl [1, 2, 3, 4, 5, 6, 7, 8, 9, 10, 11, 0] rfl)
          · refine lv_iload C.1 C.2.1 dX1_isSame_379 (lv_at hl 9 rfl) ?_
            refine lv_istore (lv' := [(8, .int v9), (0, .ref (a v0)), (1, .ref (ax 0)), (2, .ref (a v2)), (3, .ref (a v3)), (4, .ref (a v4)), (5, .ref (a v5)), (6, .int v6), (7, .ref (a v7)), (9, .int v9), (10, .ref (a v10)), (11, .int v11), (13, .ref (a v13)), (14, .int v14)]) C.1 C.2.1 dX1_isSame_381 hl (by decide) rfl (fun ls hl => ?_)
            refine lv_aload C.1 C.2.1 dX1_isSame_383 (lv_at hl 8 rfl) ?_
            refine lv_iconst (v := 1) C.1 C.2.1 dX1_isSame_385 (by decide) ?_
            refine lv_dup2_11 C.1 C.2.1 dX1_isSame_386 rfl rfl ?_
            refine h_ild0 C hK hT.1 h dX1_isSame_387 (fun x387 h => ?_)
            refine lv_aload C.1 C.2.1 dX1_isSame_388 (lv_at hl 10 rfl) ?_
            refine h_len2 C hK hT.1 h dX1_isSame_390 (fun x390 h => ?_)
            refine lv_iadd C.1 C.2.1 dX1_isSame_391 ?_
            refine h_ist0 C hK hT h dX1_isSame_392 (fun Hp392 H locs h hT => ?_)
            refine lv_iconst (v := 0) C.1 C.2.1 dX1_isSame_393 (by decide) ?_
            refine lv_istore (lv' := [(14, .int 0), (8, .int v9), (0, .ref (a v0)), (1, .ref (ax 0)), (2, .ref (a v2)), (3, .ref (a v3)), (4, .ref (a v4)), (5, .ref (a v5)), (6, .int v6), (7, .ref (a v7)), (9, .int v9), (10, .ref (a v10)), (11, .int v11), (13, .ref (a v13))]) C.1 C.2.1 dX1_isSame_394 hl (by decide) rfl (fun ls hl => ?_)
            exact L396 n214 n112 S v0 v2 v3 v4 v5 v6 v7 v9 v9 v10 kk hk 16 Hp392 0 h _ _ _ _ _ hT (by omega) (by omega) ls (lv_sub hl [2, 3, 4, 5, 6, 7, 8, 9, 1, 10, 11, 0] rfl)
    · refine lv_aload_n C.1 C.2.1 dX1_isSame_331 rfl (lv_at hl 1 rfl) ?_
      refine lv_iload C.1 C.2.1 dX1_isSame_332 (lv_at hl 6 rfl) ?_
      refine lv_iload C.1 C.2.1 dX1_isSame_334 (lv_at hl 9 rfl) ?_
      refine lv_iload C.1 C.2.1 dX1_isSame_336 (lv_at hl 13 rfl) ?_
      refine x_TR C hK hA hE hT [.int v6, .int v9, .int v14] h (fun o e => tX0_about hfl e) (cb_X1_61 C.2.2.2.2 ⟨Nat.le_of_ble_eq_true rfl, Nat.le_of_ble_eq_true rfl⟩) rfl hl.1 (Nat.le_of_ble_eq_true rfl) ⟨(by show _ ≤ 70516; omega), (by show _ ≤ 987224; omega)⟩ dX1_isSame_338 rfl (fun x338 h => ?_)
      refine lv_aload C.1 C.2.1 dX1_isSame_341 (lv_at hl 12 rfl) ?_
      refine lv_iload C.1 C.2.1 dX1_isSame_343 (lv_at hl 13 rfl) ?_
      refine h_ild0 C hK hT.1 h dX1_isSame_345 (fun x345 h => ?_)
      refine k_icmp_eq (tgt := 351) C dX1_isSame_346 (by decide) h (fun c346 h => ?_) (fun c346 h => ?_)
      · refine lv_iinc (v := (v14 + 1)) (lv' := [(14, .int (v14 + 1)), (0, .ref (a v0)), (1, .ref (ax 0)), (2, .ref (a v2)), (3, .ref (a v3)), (4, .ref (a v4)), (5, .ref (a v5)), (6, .int v6), (7, .ref (a v7)), (8, .int v8), (9, .int v9), (10, .ref (a v10)), (11, .int v11), (13, .ref (a v13))]) C.1 C.2.1 dX1_isSame_351 hl (k := 13) rfl rfl (by decide) rfl (fun ls hl => ?_)
        refine lv_goto (tgt := 325) C.1 C.2.1 dX1_isSame_354 (by decide) ?_
        exact hih (v14 + 1) h _ _ _ _ _ hT (by omega) (by omega) ls (lv_sub hl [1, 2, 3, 4, 5, 6, 7, 8, 9, 10, 11, 12, 13, 0] rfl)
      · refine lv_iconst (v := 0) C.1 C.2.1 dX1_isSame_349 (by decide) ?_
        obtain ⟨hg, h⟩ := gz_h h
        cases h
        exact h_zret C hr hlk hT (by omega) (by omega) hg dX1_isSame_350
  have J303 : ∀ (n214 n112 : Nat) (S : XS) (Hp : HS) (v0 : Nat) (v2 : Nat) (v3 : Nat) (v4 : Nat) (v5 : Nat) (v6 : Int32) (v7 : Nat) (v8 : Int32) (v9 : Int32) (v10 : Nat) (v11 : Int32) (v12 : Int32) (t0 : Int32) (t1 : Int32) (t2 : Nat) (t3 : Nat) (kk : HS → Int32 → Int32 → Option (Int32 × (XS × HS))) (hk : ∀ (Hp : HS) (v8 : Int32) (v9 : Int32), kk Hp v8 v9 = some z → ∀ (a : Nat → Nat) (H : Heap) (locs : List Loc) (cells slots : Nat) (hT : hST D k A s (wXk k ax S) a0 Hp0.length a Hp H locs) (hc : cells + n214 * 273 + 17 + n112 * 4403 + 16 ≤ 70516) (hsl : slots ≤ 14 * cells) (ls : Array Slot), lv_has ls 16 [(0, .ref (a v0)), (1, .ref (ax 0)), (2, .ref (a v2)), (3, .ref (a v3)), (4, .ref (a v4)), (5, .ref (a v5)), (6, .int v6), (7, .ref (a v7)), (8, .int v8), (9, .int v9)] → W p l e ({ frames := 10, cells := 70516, slots := 987224, locals := 180 }) s m args below meth c H locs cells slots (MQ below (hQi D k (wXk k ax z.2.1) a0 Hp0.length z.2.2 z.1 A) args s 70516 987224 A) (F0 m 214 ls [])), mS_isSame_J303 kk S Hp v0 v2 v3 v4 v5 v6 v7 v8 v9 v10 v11 v12 t0 t1 t2 t3 = some z → ∀ (a : Nat → Nat) (H : Heap) (locs : List Loc) (cells slots : Nat) (hT : hST D k A s (wXk k ax S) a0 Hp0.length a Hp H locs) (hc : cells + 272 + n214 * 273 + 17 + n112 * 4403 + 16 ≤ 70516) (hsl : slots ≤ 14 * cells) (ls : Array Slot), lv_has ls 16 [(0, .ref (a v0)), (1, .ref (ax 0)), (2, .ref (a v2)), (3, .ref (a v3)), (4, .ref (a v4)), (5, .ref (a v5)), (6, .int v6), (7, .ref (a v7)), (8, .int v8), (9, .int v9), (10, .ref (a v10)), (11, .int v11), (12, .int v12)] → W p l e ({ frames := 10, cells := 70516, slots := 987224, locals := 180 }) s m args below meth c H locs cells slots (MQ below (hQi D k (wXk k ax z.2.1) a0 Hp0.length z.2.2 z.1 A) args s 70516 987224 A) (F0 m 303 ls [.int t0, .int t1, .ref (a t2), .ref (a t3)]) := by
    intro n214 n112 S Hp v0 v2 v3 v4 v5 v6 v7 v8 v9 v10 v11 v12 t0 t1 t2 t3 kk hk h a H locs cells slots hT hc hsl ls hl
    unfold mS_isSame_J303 at h
    refine h_ist0 C hK hT h dX1_isSame_303 (fun Hp303 H locs h hT => ?_)
    refine lv_dup C.1 C.2.1 dX1_isSame_304 rfl ?_
    refine lv_iconst (v := 3) C.1 C.2.1 dX1_isSame_305 (by decide) ?_
    refine lv_iload C.1 C.2.1 dX1_isSame_306 (lv_at hl 12 rfl) ?_
    refine lv_ldc (v := 100000) C.1 C.2.1 C.2.2.2.1 (C.2.2.2.2 _ qc_X1_39) dX1_isSame_308 ?_
    refine k_icmp_ne (tgt := 317) C dX1_isSame_310 (by decide) h (fun c310 h => ?_) (fun c310 h => ?_)
    · refine lv_iload C.1 C.2.1 dX1_isSame_317 (lv_at hl 12 rfl) ?_
      refine h_ist0 C hK hT h dX1_isSame_319 (fun Hp319 H locs h hT => ?_)
      refine lv_astore (lv' := [(13, .ref (a t3)), (0, .ref (a v0)), (1, .ref (ax 0)), (2, .ref (a v2)), (3, .ref (a v3)), (4, .ref (a v4)), (5, .ref (a v5)), (6, .int v6), (7, .ref (a v7)), (8, .int v8), (9, .int v9), (10, .ref (a v10)), (11, .int v11), (12, .int v12)]) C.1 C.2.1 dX1_isSame_320 hl (by decide) rfl (fun ls hl => ?_)
      refine lv_iconst (v := 0) C.1 C.2.1 dX1_isSame_322 (by decide) ?_
      refine lv_istore (lv' := [(14, .int 0), (13, .ref (a t3)), (0, .ref (a v0)), (1, .ref (ax 0)), (2, .ref (a v2)), (3, .ref (a v3)), (4, .ref (a v4)), (5, .ref (a v5)), (6, .int v6), (7, .ref (a v7)), (8, .int v8), (9, .int v9), (10, .ref (a v10)), (11, .int v11), (12, .int v12)]) C.1 C.2.1 dX1_isSame_323 hl (by decide) rfl (fun ls hl => ?_)
      exact L325 n214 n112 S Hp319 v0 v2 v3 v4 v5 v6 v7 v8 v9 v10 v11 t3 kk hk 16 0 h _ _ _ _ _ hT (by omega) (by omega) ls (lv_sub hl [2, 3, 4, 5, 6, 7, 8, 9, 10, 11, 12, 13, 1, 0] rfl)
    · refine lv_iconst (v := (-1)) C.1 C.2.1 dX1_isSame_313 (by decide) ?_
      refine lv_goto (tgt := 319) C.1 C.2.1 dX1_isSame_314 (by decide) ?_
      refine h_ist0 C hK hT h dX1_isSame_319 (fun Hp319 H locs h hT => ?_)
      refine lv_astore (lv' := [(13, .ref (a t3)), (0, .ref (a v0)), (1, .ref (ax 0)), (2, .ref (a v2)), (3, .ref (a v3)), (4, .ref (a v4)), (5, .ref (a v5)), (6, .int v6), (7, .ref (a v7)), (8, .int v8), (9, .int v9), (10, .ref (a v10)), (11, .int v11), (12, .int v12)]) C.1 C.2.1 dX1_isSame_320 hl (by decide) rfl (fun ls hl => ?_)
      refine lv_iconst (v := 0) C.1 C.2.1 dX1_isSame_322 (by decide) ?_
      refine lv_istore (lv' := [(14, .int 0), (13, .ref (a t3)), (0, .ref (a v0)), (1, .ref (ax 0)), (2, .ref (a v2)), (3, .ref (a v3)), (4, .ref (a v4)), (5, .ref (a v5)), (6, .int v6), (7, .ref (a v7)), (8, .int v8), (9, .int v9), (10, .ref (a v10)), (11, .int v11), (12, .int v12)]) C.1 C.2.1 dX1_isSame_323 hl (by decide) rfl (fun ls hl => ?_)
      exact L325 n214 n112 S Hp319 v0 v2 v3 v4 v5 v6 v7 v8 v9 v10 v11 t3 kk hk 16 0 h _ _ _ _ _ hT (by omega) (by omega) ls (lv_sub hl [2, 3, 4, 5, 6, 7, 8, 9, 10, 11, 12, 13, 1, 0] rfl)
  have J286 : ∀ (n214 n112 : Nat) (S : XS) (Hp : HS) (v0 : Nat) (v2 : Nat) (v3 : Nat) (v4 : Nat) (v5 : Nat) (v6 : Int32) (v7 : Nat) (v8 : Int32) (v9 : Int32) (v10 : Nat) (v11 : Int32) (v12 : Int32) (t0 : Int32) (t1 : Int32) (t2 : Nat) (t3 : Nat) (kk : HS → Int32 → Int32 → Option (Int32 × (XS × HS))) (hk : ∀ (Hp : HS) (v8 : Int32) (v9 : Int32), kk Hp v8 v9 = some z → ∀ (a : Nat → Nat) (H : Heap) (locs : List Loc) (cells slots : Nat) (hT : hST D k A s (wXk k ax S) a0 Hp0.length a Hp H locs) (hc : cells + n214 * 273 + 17 + n112 * 4403 + 16 ≤ 70516) (hsl : slots ≤ 14 * cells) (ls : Array Slot), lv_has ls 16 [(0, .ref (a v0)), (1, .ref (ax 0)), (2, .ref (a v2)), (3, .ref (a v3)), (4, .ref (a v4)), (5, .ref (a v5)), (6, .int v6), (7, .ref (a v7)), (8, .int v8), (9, .int v9)] → W p l e ({ frames := 10, cells := 70516, slots := 987224, locals := 180 }) s m args below meth c H locs cells slots (MQ below (hQi D k (wXk k ax z.2.1) a0 Hp0.length z.2.2 z.1 A) args s 70516 987224 A) (F0 m 214 ls [])), mS_isSame_J286 kk S Hp v0 v2 v3 v4 v5 v6 v7 v8 v9 v10 v11 v12 t0 t1 t2 t3 = some z → ∀ (a : Nat → Nat) (H : Heap) (locs : List Loc) (cells slots : Nat) (hT : hST D k A s (wXk k ax S) a0 Hp0.length a Hp H locs) (hc : cells + 272 + n214 * 273 + 17 + n112 * 4403 + 16 ≤ 70516) (hsl : slots ≤ 14 * cells) (ls : Array Slot), lv_has ls 16 [(0, .ref (a v0)), (1, .ref (ax 0)), (2, .ref (a v2)), (3, .ref (a v3)), (4, .ref (a v4)), (5, .ref (a v5)), (6, .int v6), (7, .ref (a v7)), (8, .int v8), (9, .int v9), (10, .ref (a v10)), (11, .int v11), (12, .int v12)] → W p l e ({ frames := 10, cells := 70516, slots := 987224, locals := 180 }) s m args below meth c H locs cells slots (MQ below (hQi D k (wXk k ax z.2.1) a0 Hp0.length z.2.2 z.1 A) args s 70516 987224 A) (F0 m 286 ls [.int t0, .int t1, .ref (a t2), .ref (a t3)]) := by
    intro n214 n112 S Hp v0 v2 v3 v4 v5 v6 v7 v8 v9 v10 v11 v12 t0 t1 t2 t3 kk hk h a H locs cells slots hT hc hsl ls hl
    unfold mS_isSame_J286 at h
    refine h_ist0 C hK hT h dX1_isSame_286 (fun Hp286 H locs h hT => ?_)
    refine lv_dup C.1 C.2.1 dX1_isSame_287 rfl ?_
    refine lv_iconst (v := 2) C.1 C.2.1 dX1_isSame_288 (by decide) ?_
    refine lv_iload C.1 C.2.1 dX1_isSame_289 (lv_at hl 11 rfl) ?_
    refine lv_sipush (v := 9998) C.1 C.2.1 dX1_isSame_291 (by decide) ?_
    refine k_icmp_le (tgt := 301) C dX1_isSame_294 (by decide) h (fun c294 h => ?_) (fun c294 h => ?_)
    · refine lv_iload C.1 C.2.1 dX1_isSame_301 (lv_at hl 11 rfl) ?_
      exact J303 n214 n112 S Hp286 v0 v2 v3 v4 v5 v6 v7 v8 v9 v10 v11 v12 v11 2 t3 t3 kk hk h _ _ _ _ _ hT (by omega) (by omega) ls (lv_sub hl [0, 1, 2, 3, 4, 5, 6, 7, 8, 9, 10, 11, 12] rfl)
    · refine lv_iconst (v := (-1)) C.1 C.2.1 dX1_isSame_297 (by decide) ?_
      refine lv_goto (tgt := 303) C.1 C.2.1 dX1_isSame_298 (by decide) ?_
      exact J303 n214 n112 S Hp286 v0 v2 v3 v4 v5 v6 v7 v8 v9 v10 v11 v12 (-1) 2 t3 t3 kk hk h _ _ _ _ _ hT (by omega) (by omega) ls (lv_sub hl [0, 1, 2, 3, 4, 5, 6, 7, 8, 9, 10, 11, 12] rfl)
  have L214 : ∀ (n112 : Nat) (S : XS) (v0 : Nat) (v2 : Nat) (v3 : Nat) (v4 : Nat) (v5 : Nat) (v6 : Int32) (v7 : Nat) (kk : HS → Int32 → Option (Int32 × (XS × HS))) (hk : ∀ (Hp : HS) (v6 : Int32), kk Hp v6 = some z → ∀ (a : Nat → Nat) (H : Heap) (locs : List Loc) (cells slots : Nat) (hT : hST D k A s (wXk k ax S) a0 Hp0.length a Hp H locs) (hc : cells + n112 * 4403 + 16 ≤ 70516) (hsl : slots ≤ 14 * cells) (ls : Array Slot), lv_has ls 16 [(0, .ref (a v0)), (1, .ref (ax 0)), (2, .ref (a v2)), (3, .ref (a v3)), (4, .ref (a v4)), (5, .ref (a v5)), (6, .int v6)] → W p l e ({ frames := 10, cells := 70516, slots := 987224, locals := 180 }) s m args below meth c H locs cells slots (MQ below (hQi D k (wXk k ax z.2.1) a0 Hp0.length z.2.2 z.1 A) args s 70516 987224 A) (F0 m 112 ls [])) (n : Nat) (Hp : HS) (v8 : Int32) (v9 : Int32), itr3 (mS_isSame_F214 kk S v0 v2 v3 v4 v5 v6 v7) n Hp v8 v9 = some z → ∀ (a : Nat → Nat) (H : Heap) (locs : List Loc) (cells slots : Nat) (hT : hST D k A s (wXk k ax S) a0 Hp0.length a Hp H locs) (hc : cells + n * 273 + 17 + n112 * 4403 + 16 ≤ 70516) (hsl : slots ≤ 14 * cells) (ls : Array Slot), lv_has ls 16 [(0, .ref (a v0)), (1, .ref (ax 0)), (2, .ref (a v2)), (3, .ref (a v3)), (4, .ref (a v4)), (5, .ref (a v5)), (6, .int v6), (7, .ref (a v7)), (8, .int v8), (9, .int v9)] → W p l e ({ frames := 10, cells := 70516, slots := 987224, locals := 180 }) s m args below meth c H locs cells slots (MQ below (hQi D k (wXk k ax z.2.1) a0 Hp0.length z.2.2 z.1 A) args s 70516 987224 A) (F0 m 214 ls []) := by
    intro n112 S v0 v2 v3 v4 v5 v6 v7 kk hk
    intro n
    refine itr3_indn (fun (n : Nat) (Hp : HS) (v8 : Int32) (v9 : Int32) => ∀ (a : Nat → Nat) (H : Heap) (locs : List Loc) (cells slots : Nat) (hT : hST D k A s (wXk k ax S) a0 Hp0.length a Hp H locs) (hc : cells + n * 273 + 17 + n112 * 4403 + 16 ≤ 70516) (hsl : slots ≤ 14 * cells) (ls : Array Slot), lv_has ls 16 [(0, .ref (a v0)), (1, .ref (ax 0)), (2, .ref (a v2)), (3, .ref (a v3)), (4, .ref (a v4)), (5, .ref (a v5)), (6, .int v6), (7, .ref (a v7)), (8, .int v8), (9, .int v9)] → W p l e ({ frames := 10, cells := 70516, slots := 987224, locals := 180 }) s m args below meth c H locs cells slots (MQ below (hQi D k (wXk k ax z.2.1) a0 Hp0.length z.2.2 z.1 A) args s 70516 987224 A) (F0 m 214 ls [])) ?_ n
    intro n214 ih hih Hp v8 v9 h a H locs cells slots hT hc hsl ls hl
    unfold mS_isSame_F214 at h
    refine lv_iload C.1 C.2.1 dX1_isSame_214 (lv_at hl 9 rfl) ?_
    refine lv_aload_n C.1 C.2.1 dX1_isSame_216 rfl (lv_at hl 0 rfl) ?_
    refine h_get1 C hK qF_X1_15 hT.1 h dX1_isSame_217 (fun x217 h => ?_)
    refine lv_iload C.1 C.2.1 dX1_isSame_220 (lv_at hl 6 rfl) ?_
    refine h_ald4 C hK hT.1 h dX1_isSame_222 (fun x222 h => ?_)
    refine h_len3 C hK hT.1 h dX1_isSame_223 (fun x223 h => ?_)
    refine k_icmp_ge (tgt := 470) C dX1_isSame_224 (by decide) h (fun c224 h => ?_) (fun c224 h => ?_)
    · refine lv_iconst (v := 0) C.1 C.2.1 dX1_isSame_470 (by decide) ?_
      refine lv_istore (lv' := [(9, .int 0), (0, .ref (a v0)), (1, .ref (ax 0)), (2, .ref (a v2)), (3, .ref (a v3)), (4, .ref (a v4)), (5, .ref (a v5)), (6, .int v6), (7, .ref (a v7)), (8, .int v8)]) C.1 C.2.1 dX1_isSame_471 hl (by decide) rfl (fun ls hl => ?_)
      exact L473 n112 S Hp v0 v2 v3 v4 v5 v6 v7 v8 kk hk 16 0 h _ _ _ _ _ hT (by omega) (by omega) ls (lv_sub hl [1, 2, 3, 4, 5, 6, 7, 8, 9, 0] rfl)
    · refine lv_aload_n C.1 C.2.1 dX1_isSame_227 rfl (lv_at hl 0 rfl) ?_
      refine h_get1 C hK qF_X1_15 hT.1 h dX1_isSame_228 (fun x228 h => ?_)
      refine lv_iload C.1 C.2.1 dX1_isSame_231 (lv_at hl 6 rfl) ?_
      refine h_ald4 C hK hT.1 h dX1_isSame_233 (fun x233 h => ?_)
      refine lv_iload C.1 C.2.1 dX1_isSame_234 (lv_at hl 9 rfl) ?_
      refine h_ald3 C hK hT.1 h dX1_isSame_236 (fun x236 h => ?_)
      refine lv_astore (lv' := [(10, .ref (a x236)), (0, .ref (a v0)), (1, .ref (ax 0)), (2, .ref (a v2)), (3, .ref (a v3)), (4, .ref (a v4)), (5, .ref (a v5)), (6, .int v6), (7, .ref (a v7)), (8, .int v8), (9, .int v9)]) C.1 C.2.1 dX1_isSame_237 hl (by decide) rfl (fun ls hl => ?_)
      refine lv_aload_n C.1 C.2.1 dX1_isSame_239 rfl (lv_at hl 1 rfl) ?_
      refine lv_aload C.1 C.2.1 dX1_isSame_240 (lv_at hl 0 rfl) ?_
      refine lv_aload_n C.1 C.2.1 dX1_isSame_242 rfl (lv_at hl 4 rfl) ?_
      refine lv_iconst (v := 0) C.1 C.2.1 dX1_isSame_243 (by decide) ?_
      refine h_rVi C hK hT.1 [.ref (a x236), .ref (a v3), .int 0] h (fun v e => tS_measure e) (cb_X1_40 C.2.2.2.2 ⟨Nat.le_of_ble_eq_true rfl, Nat.le_of_ble_eq_true rfl⟩) rfl hl.1 (Nat.le_of_ble_eq_true rfl) ⟨(by show _ ≤ 70516; omega), (by show _ ≤ 987224; omega)⟩ dX1_isSame_244 rfl (fun x244 h => ?_)
      refine lv_istore (lv' := [(11, .int x244), (10, .ref (a x236)), (0, .ref (a v0)), (1, .ref (ax 0)), (2, .ref (a v2)), (3, .ref (a v3)), (4, .ref (a v4)), (5, .ref (a v5)), (6, .int v6), (7, .ref (a v7)), (8, .int v8), (9, .int v9)]) C.1 C.2.1 dX1_isSame_247 hl (by decide) rfl (fun ls hl => ?_)
      refine lv_aload_n C.1 C.2.1 dX1_isSame_249 rfl (lv_at hl 2 rfl) ?_
      refine lv_aload C.1 C.2.1 dX1_isSame_250 (lv_at hl 1 rfl) ?_
      refine lv_aload C.1 C.2.1 dX1_isSame_252 (lv_at hl 6 rfl) ?_
      refine lv_iconst (v := 1) C.1 C.2.1 dX1_isSame_254 (by decide) ?_
      refine h_rVi C hK hT.1 [.ref (a x236), .ref (a v4), .int 1] h (fun v e => tS_measure e) (cb_X1_40 C.2.2.2.2 ⟨Nat.le_of_ble_eq_true rfl, Nat.le_of_ble_eq_true rfl⟩) rfl hl.1 (Nat.le_of_ble_eq_true rfl) ⟨(by show _ ≤ 70516; omega), (by show _ ≤ 987224; omega)⟩ dX1_isSame_255 rfl (fun x255 h => ?_)
      refine lv_istore (lv' := [(12, .int x255), (11, .int x244), (10, .ref (a x236)), (0, .ref (a v0)), (1, .ref (ax 0)), (2, .ref (a v2)), (3, .ref (a v3)), (4, .ref (a v4)), (5, .ref (a v5)), (6, .int v6), (7, .ref (a v7)), (8, .int v8), (9, .int v9)]) C.1 C.2.1 dX1_isSame_258 hl (by decide) rfl (fun ls hl => ?_)
      refine lv_iconst (v := 4) C.1 C.2.1 dX1_isSame_260 (by decide) ?_
      refine h_nw0 C hK hT hA (by show _ ≤ 70516; omega) (by show _ ≤ 987224; omega) h dX1_isSame_261 (fun Hp261 x261 a261 H h hT hag hrs => ?_)
      have hl : lv_has ls 16 [(12, .int x255), (11, .int x244), (10, .ref (a261 x236)), (0, .ref (a261 v0)), (1, .ref (ax 0)), (2, .ref (a261 v2)), (3, .ref (a261 v3)), (4, .ref (a261 v4)), (5, .ref (a261 v5)), (6, .int v6), (7, .ref (a261 v7)), (8, .int v8), (9, .int v9)] := by
        have hl : lv_has ls 16 [(12, .int x255), (11, .int x244), (10, .ref (a x236)), (0, .ref (a v0)), (1, .ref (ax 0)), (2, .ref (a v2)), (3, .ref (a v3)), (4, .ref (a v4)), (5, .ref (a v5)), (6, .int v6), (7, .ref (a v7)), (8, .int v8), (9, .int v9)] := lv_sub hl [0, 1, 2, 3, 4, 5, 6, 7, 8, 9, 10, 11, 12] rfl
        simpa only [hag _ (hrs _ (List.mem_of_getElem? (i := 0) rfl)), hag _ (hrs _ (List.mem_of_getElem? (i := 1) rfl)), hag _ (hrs _ (List.mem_of_getElem? (i := 2) rfl)), hag _ (hrs _ (List.mem_of_getElem? (i := 3) rfl)), hag _ (hrs _ (List.mem_of_getElem? (i := 4) rfl)), hag _ (hrs _ (List.mem_of_getElem? (i := 5) rfl)), hag _ (hrs _ (List.mem_of_getElem? (i := 6) rfl))] using hl
      refine lv_dup C.1 C.2.1 dX1_isSame_263 rfl ?_
      refine lv_iconst (v := 0) C.1 C.2.1 dX1_isSame_264 (by decide) ?_
      refine lv_aload C.1 C.2.1 dX1_isSame_265 (lv_at hl 2 rfl) ?_
      refine h_len2 C hK hT.1 h dX1_isSame_267 (fun x267 h => ?_)
      refine h_ist0 C hK hT h dX1_isSame_268 (fun Hp268 H locs h hT => ?_)
      refine lv_dup C.1 C.2.1 dX1_isSame_269 rfl ?_
      refine lv_iconst (v := 1) C.1 C.2.1 dX1_isSame_270 (by decide) ?_
      refine lv_aload_n C.1 C.2.1 dX1_isSame_271 rfl (lv_at hl 3 rfl) ?_
      refine lv_aload C.1 C.2.1 dX1_isSame_272 (lv_at hl 2 rfl) ?_
      refine lv_aload_n C.1 C.2.1 dX1_isSame_274 rfl (lv_at hl 5 rfl) ?_
      refine h_rVi C hK hT.1 [.ref (a261 x236), .ref (a261 v2)] h (fun v e => tS_holds e) (cb_X1_31 C.2.2.2.2 ⟨Nat.le_of_ble_eq_true rfl, Nat.le_of_ble_eq_true rfl⟩) rfl hl.1 (Nat.le_of_ble_eq_true rfl) ⟨(by show _ ≤ 70516; omega), (by show _ ≤ 987224; omega)⟩ dX1_isSame_275 rfl (fun x275 h => ?_)
      refine k_if_eq (tgt := 285) C dX1_isSame_278 (by decide) h (fun c278 h => ?_) (fun c278 h => ?_)
      · refine lv_iconst (v := 0) C.1 C.2.1 dX1_isSame_285 (by decide) ?_
        exact J286 n214 n112 S Hp268 v0 v2 v3 v4 v5 v6 v7 v8 v9 x236 x244 x255 0 1 x261 x261 ih hih h _ _ _ _ _ hT (by omega) (by omega) ls (lv_sub hl [3, 4, 5, 6, 7, 8, 9, 10, 11, 12, 2, 1, 0] rfl)
      · refine lv_iconst (v := 1) C.1 C.2.1 dX1_isSame_281 (by decide) ?_
        refine lv_goto (tgt := 286) C.1 C.2.1 dX1_isSame_282 (by decide) ?_
        exact J286 n214 n112 S Hp268 v0 v2 v3 v4 v5 v6 v7 v8 v9 x236 x244 x255 1 1 x261 x261 ih hih h _ _ _ _ _ hT (by omega) (by omega) ls (lv_sub hl [3, 4, 5, 6, 7, 8, 9, 10, 11, 12, 2, 1, 0] rfl)
  have J191 : ∀ (n112 : Nat) (S : XS) (Hp : HS) (v0 : Nat) (v2 : Nat) (v3 : Nat) (v4 : Nat) (v5 : Nat) (v6 : Int32) (t0 : Int32) (t1 : Int32) (t2 : Nat) (t3 : Nat) (kk : HS → Int32 → Option (Int32 × (XS × HS))) (hk : ∀ (Hp : HS) (v6 : Int32), kk Hp v6 = some z → ∀ (a : Nat → Nat) (H : Heap) (locs : List Loc) (cells slots : Nat) (hT : hST D k A s (wXk k ax S) a0 Hp0.length a Hp H locs) (hc : cells + n112 * 4403 + 16 ≤ 70516) (hsl : slots ≤ 14 * cells) (ls : Array Slot), lv_has ls 16 [(0, .ref (a v0)), (1, .ref (ax 0)), (2, .ref (a v2)), (3, .ref (a v3)), (4, .ref (a v4)), (5, .ref (a v5)), (6, .int v6)] → W p l e ({ frames := 10, cells := 70516, slots := 987224, locals := 180 }) s m args below meth c H locs cells slots (MQ below (hQi D k (wXk k ax z.2.1) a0 Hp0.length z.2.2 z.1 A) args s 70516 987224 A) (F0 m 112 ls [])), mS_isSame_J191 kk S Hp v0 v2 v3 v4 v5 v6 t0 t1 t2 t3 = some z → ∀ (a : Nat → Nat) (H : Heap) (locs : List Loc) (cells slots : Nat) (hT : hST D k A s (wXk k ax S) a0 Hp0.length a Hp H locs) (hc : cells + 4402 + n112 * 4403 + 16 ≤ 70516) (hsl : slots ≤ 14 * cells) (ls : Array Slot), lv_has ls 16 [(0, .ref (a v0)), (1, .ref (ax 0)), (2, .ref (a v2)), (3, .ref (a v3)), (4, .ref (a v4)), (5, .ref (a v5)), (6, .int v6)] → W p l e ({ frames := 10, cells := 70516, slots := 987224, locals := 180 }) s m args below meth c H locs cells slots (MQ below (hQi D k (wXk k ax z.2.1) a0 Hp0.length z.2.2 z.1 A) args s 70516 987224 A) (F0 m 191 ls [.int t0, .int t1, .ref (a t2), .ref (a t3)]) := by
    intro n112 S Hp v0 v2 v3 v4 v5 v6 t0 t1 t2 t3 kk hk h a H locs cells slots hT hc hsl ls hl
    unfold mS_isSame_J191 at h
    refine h_ist0 C hK hT h dX1_isSame_191 (fun Hp191 H locs h hT => ?_)
    refine lv_dup C.1 C.2.1 dX1_isSame_192 rfl ?_
    refine lv_iconst (v := 5) C.1 C.2.1 dX1_isSame_193 (by decide) ?_
    refine lv_iconst (v := 0) C.1 C.2.1 dX1_isSame_194 (by decide) ?_
    refine h_ist0 C hK hT h dX1_isSame_195 (fun Hp195 H locs h hT => ?_)
    refine lv_dup C.1 C.2.1 dX1_isSame_196 rfl ?_
    refine lv_bipush (v := 6) C.1 C.2.1 dX1_isSame_197 (by decide) ?_
    refine lv_aload_n C.1 C.2.1 dX1_isSame_199 rfl (lv_at hl 0 rfl) ?_
    refine lv_iload C.1 C.2.1 dX1_isSame_200 (lv_at hl 6 rfl) ?_
    refine h_cVi C hK hB hA hT [.int v6] h (fun v Hp2 e => tS_circle (z := (v, Hp2)) e) (cb_X1_57 C.2.2.2.2 ⟨Nat.le_of_ble_eq_true rfl, Nat.le_of_ble_eq_true rfl⟩) rfl hl.1 (Nat.le_of_ble_eq_true rfl) ⟨(by show _ ≤ 70516; omega), (by show _ ≤ 987224; omega)⟩ dX1_isSame_202 rfl (fun x202 Hp202 a202 H locs h hT hag hrs => ?_)
    have hl : lv_has ls 16 [(0, .ref (a202 v0)), (1, .ref (ax 0)), (2, .ref (a202 v2)), (3, .ref (a202 v3)), (4, .ref (a202 v4)), (5, .ref (a202 v5)), (6, .int v6)] := by
      have hl : lv_has ls 16 [(0, .ref (a v0)), (1, .ref (ax 0)), (2, .ref (a v2)), (3, .ref (a v3)), (4, .ref (a v4)), (5, .ref (a v5)), (6, .int v6)] := lv_sub hl [0, 1, 2, 3, 4, 5, 6] rfl
      simpa only [hag _ (hrs _ (List.mem_of_getElem? (i := 0) rfl)), hag _ (hrs _ (List.mem_of_getElem? (i := 1) rfl)), hag _ (hrs _ (List.mem_of_getElem? (i := 2) rfl)), hag _ (hrs _ (List.mem_of_getElem? (i := 3) rfl)), hag _ (hrs _ (List.mem_of_getElem? (i := 4) rfl)), hag _ (hrs _ (List.mem_of_getElem? (i := 5) rfl))] using hl
    refine h_stk (st' := [.int x202, .int 6, .ref (a202 t3), .ref (a202 t3)]) (by simp only [hag _ (hrs _ (List.mem_of_getElem? (i := 0) rfl)), hag _ (hrs _ (List.mem_of_getElem? (i := 1) rfl)), hag _ (hrs _ (List.mem_of_getElem? (i := 2) rfl)), hag _ (hrs _ (List.mem_of_getElem? (i := 3) rfl)), hag _ (hrs _ (List.mem_of_getElem? (i := 4) rfl)), hag _ (hrs _ (List.mem_of_getElem? (i := 5) rfl))]) ?_
    refine h_ist0 C hK hT h dX1_isSame_205 (fun Hp205 H locs h hT => ?_)
    refine lv_astore (lv' := [(7, .ref (a202 t3)), (0, .ref (a202 v0)), (1, .ref (ax 0)), (2, .ref (a202 v2)), (3, .ref (a202 v3)), (4, .ref (a202 v4)), (5, .ref (a202 v5)), (6, .int v6)]) C.1 C.2.1 dX1_isSame_206 hl (by decide) rfl (fun ls hl => ?_)
    refine lv_iconst (v := (-1)) C.1 C.2.1 dX1_isSame_208 (by decide) ?_
    refine lv_istore (lv' := [(8, .int (-1)), (7, .ref (a202 t3)), (0, .ref (a202 v0)), (1, .ref (ax 0)), (2, .ref (a202 v2)), (3, .ref (a202 v3)), (4, .ref (a202 v4)), (5, .ref (a202 v5)), (6, .int v6)]) C.1 C.2.1 dX1_isSame_209 hl (by decide) rfl (fun ls hl => ?_)
    refine lv_iconst (v := 0) C.1 C.2.1 dX1_isSame_211 (by decide) ?_
    refine lv_istore (lv' := [(9, .int 0), (8, .int (-1)), (7, .ref (a202 t3)), (0, .ref (a202 v0)), (1, .ref (ax 0)), (2, .ref (a202 v2)), (3, .ref (a202 v3)), (4, .ref (a202 v4)), (5, .ref (a202 v5)), (6, .int v6)]) C.1 C.2.1 dX1_isSame_212 hl (by decide) rfl (fun ls hl => ?_)
    exact L214 n112 S v0 v2 v3 v4 v5 v6 t3 kk hk 16 Hp205 (-1) 0 h _ _ _ _ _ hT (by omega) (by omega) ls (lv_sub hl [3, 4, 5, 6, 7, 8, 9, 2, 1, 0] rfl)
  have J168 : ∀ (n112 : Nat) (S : XS) (Hp : HS) (v0 : Nat) (v2 : Nat) (v3 : Nat) (v4 : Nat) (v5 : Nat) (v6 : Int32) (t0 : Int32) (t1 : Int32) (t2 : Nat) (t3 : Nat) (kk : HS → Int32 → Option (Int32 × (XS × HS))) (hk : ∀ (Hp : HS) (v6 : Int32), kk Hp v6 = some z → ∀ (a : Nat → Nat) (H : Heap) (locs : List Loc) (cells slots : Nat) (hT : hST D k A s (wXk k ax S) a0 Hp0.length a Hp H locs) (hc : cells + n112 * 4403 + 16 ≤ 70516) (hsl : slots ≤ 14 * cells) (ls : Array Slot), lv_has ls 16 [(0, .ref (a v0)), (1, .ref (ax 0)), (2, .ref (a v2)), (3, .ref (a v3)), (4, .ref (a v4)), (5, .ref (a v5)), (6, .int v6)] → W p l e ({ frames := 10, cells := 70516, slots := 987224, locals := 180 }) s m args below meth c H locs cells slots (MQ below (hQi D k (wXk k ax z.2.1) a0 Hp0.length z.2.2 z.1 A) args s 70516 987224 A) (F0 m 112 ls [])), mS_isSame_J168 kk S Hp v0 v2 v3 v4 v5 v6 t0 t1 t2 t3 = some z → ∀ (a : Nat → Nat) (H : Heap) (locs : List Loc) (cells slots : Nat) (hT : hST D k A s (wXk k ax S) a0 Hp0.length a Hp H locs) (hc : cells + 4402 + n112 * 4403 + 16 ≤ 70516) (hsl : slots ≤ 14 * cells) (ls : Array Slot), lv_has ls 16 [(0, .ref (a v0)), (1, .ref (ax 0)), (2, .ref (a v2)), (3, .ref (a v3)), (4, .ref (a v4)), (5, .ref (a v5)), (6, .int v6)] → W p l e ({ frames := 10, cells := 70516, slots := 987224, locals := 180 }) s m args below meth c H locs cells slots (MQ below (hQi D k (wXk k ax z.2.1) a0 Hp0.length z.2.2 z.1 A) args s 70516 987224 A) (F0 m 168 ls [.int t0, .int t1, .ref (a t2), .ref (a t3)]) := by
    intro n112 S Hp v0 v2 v3 v4 v5 v6 t0 t1 t2 t3 kk hk h a H locs cells slots hT hc hsl ls hl
    unfold mS_isSame_J168 at h
    refine h_ist0 C hK hT h dX1_isSame_168 (fun Hp168 H locs h hT => ?_)
    refine lv_dup C.1 C.2.1 dX1_isSame_169 rfl ?_
    refine lv_iconst (v := 4) C.1 C.2.1 dX1_isSame_170 (by decide) ?_
    refine lv_aload C.1 C.2.1 dX1_isSame_171 (lv_at hl 4 rfl) ?_
    refine lv_iload C.1 C.2.1 dX1_isSame_173 (lv_at hl 6 rfl) ?_
    refine h_ild0 C hK hT.1 h dX1_isSame_175 (fun x175 h => ?_)
    refine lv_sipush (v := 9998) C.1 C.2.1 dX1_isSame_176 (by decide) ?_
    refine k_icmp_le (tgt := 186) C dX1_isSame_179 (by decide) h (fun c179 h => ?_) (fun c179 h => ?_)
    · refine lv_aload C.1 C.2.1 dX1_isSame_186 (lv_at hl 4 rfl) ?_
      refine lv_iload C.1 C.2.1 dX1_isSame_188 (lv_at hl 6 rfl) ?_
      refine h_ild0 C hK hT.1 h dX1_isSame_190 (fun x190 h => ?_)
      exact J191 n112 S Hp168 v0 v2 v3 v4 v5 v6 x190 4 t3 t3 kk hk h _ _ _ _ _ hT (by omega) (by omega) ls (lv_sub hl [0, 1, 2, 3, 4, 5, 6] rfl)
    · refine lv_iconst (v := (-1)) C.1 C.2.1 dX1_isSame_182 (by decide) ?_
      refine lv_goto (tgt := 191) C.1 C.2.1 dX1_isSame_183 (by decide) ?_
      exact J191 n112 S Hp168 v0 v2 v3 v4 v5 v6 (-1) 4 t3 t3 kk hk h _ _ _ _ _ hT (by omega) (by omega) ls (lv_sub hl [0, 1, 2, 3, 4, 5, 6] rfl)
  have L112 : ∀ (S : XS) (v0 : Nat) (v2 : Nat) (v3 : Nat) (v4 : Nat) (v5 : Nat) (n : Nat) (Hp : HS) (v6 : Int32), itr2 (mS_isSame_F112 S v0 v2 v3 v4 v5) n Hp v6 = some z → ∀ (a : Nat → Nat) (H : Heap) (locs : List Loc) (cells slots : Nat) (hT : hST D k A s (wXk k ax S) a0 Hp0.length a Hp H locs) (hc : cells + n * 4403 + 16 ≤ 70516) (hsl : slots ≤ 14 * cells) (ls : Array Slot), lv_has ls 16 [(0, .ref (a v0)), (1, .ref (ax 0)), (2, .ref (a v2)), (3, .ref (a v3)), (4, .ref (a v4)), (5, .ref (a v5)), (6, .int v6)] → W p l e ({ frames := 10, cells := 70516, slots := 987224, locals := 180 }) s m args below meth c H locs cells slots (MQ below (hQi D k (wXk k ax z.2.1) a0 Hp0.length z.2.2 z.1 A) args s 70516 987224 A) (F0 m 112 ls []) := by
    intro S v0 v2 v3 v4 v5
    intro n
    refine itr2_indn (fun (n : Nat) (Hp : HS) (v6 : Int32) => ∀ (a : Nat → Nat) (H : Heap) (locs : List Loc) (cells slots : Nat) (hT : hST D k A s (wXk k ax S) a0 Hp0.length a Hp H locs) (hc : cells + n * 4403 + 16 ≤ 70516) (hsl : slots ≤ 14 * cells) (ls : Array Slot), lv_has ls 16 [(0, .ref (a v0)), (1, .ref (ax 0)), (2, .ref (a v2)), (3, .ref (a v3)), (4, .ref (a v4)), (5, .ref (a v5)), (6, .int v6)] → W p l e ({ frames := 10, cells := 70516, slots := 987224, locals := 180 }) s m args below meth c H locs cells slots (MQ below (hQi D k (wXk k ax z.2.1) a0 Hp0.length z.2.2 z.1 A) args s 70516 987224 A) (F0 m 112 ls [])) ?_ n
    intro n112 ih hih Hp v6 h a H locs cells slots hT hc hsl ls hl
    unfold mS_isSame_F112 at h
    refine lv_iload C.1 C.2.1 dX1_isSame_112 (lv_at hl 6 rfl) ?_
    refine lv_aload_n C.1 C.2.1 dX1_isSame_114 rfl (lv_at hl 0 rfl) ?_
    refine h_get1 C hK qF_X1_15 hT.1 h dX1_isSame_115 (fun x115 h => ?_)
    refine h_len4 C hK hT.1 h dX1_isSame_118 (fun x118 h => ?_)
    refine k_icmp_ge (tgt := 596) C dX1_isSame_119 (by decide) h (fun c119 h => ?_) (fun c119 h => ?_)
    · refine lv_iconst (v := 0) C.1 C.2.1 dX1_isSame_596 (by decide) ?_
      refine lv_istore (lv' := [(6, .int 0), (0, .ref (a v0)), (1, .ref (ax 0)), (2, .ref (a v2)), (3, .ref (a v3)), (4, .ref (a v4)), (5, .ref (a v5))]) C.1 C.2.1 dX1_isSame_597 hl (by decide) rfl (fun ls hl => ?_)
      exact L599 S Hp v0 v5 16 0 h _ _ _ _ _ hT (by omega) (by omega) ls (lv_sub hl [1, 2, 6, 0] rfl)
    · refine lv_bipush (v := 7) C.1 C.2.1 dX1_isSame_122 (by decide) ?_
      refine h_nw0 C hK hT hA (by show _ ≤ 70516; omega) (by show _ ≤ 987224; omega) h dX1_isSame_124 (fun Hp124 x124 a124 H h hT hag hrs => ?_)
      have hl : lv_has ls 16 [(0, .ref (a124 v0)), (1, .ref (ax 0)), (2, .ref (a124 v2)), (3, .ref (a124 v3)), (4, .ref (a124 v4)), (5, .ref (a124 v5)), (6, .int v6)] := by
        have hl : lv_has ls 16 [(0, .ref (a v0)), (1, .ref (ax 0)), (2, .ref (a v2)), (3, .ref (a v3)), (4, .ref (a v4)), (5, .ref (a v5)), (6, .int v6)] := lv_sub hl [0, 1, 2, 3, 4, 5, 6] rfl
        simpa only [hag _ (hrs _ (List.mem_of_getElem? (i := 0) rfl)), hag _ (hrs _ (List.mem_of_getElem? (i := 1) rfl)), hag _ (hrs _ (List.mem_of_getElem? (i := 2) rfl)), hag _ (hrs _ (List.mem_of_getElem? (i := 3) rfl)), hag _ (hrs _ (List.mem_of_getElem? (i := 4) rfl))] using hl
      refine lv_dup C.1 C.2.1 dX1_isSame_126 rfl ?_
      refine lv_iconst (v := 0) C.1 C.2.1 dX1_isSame_127 (by decide) ?_
      refine lv_aload_n C.1 C.2.1 dX1_isSame_128 rfl (lv_at hl 0 rfl) ?_
      refine h_get1 C hK qF_X1_15 hT.1 h dX1_isSame_129 (fun x129 h => ?_)
      refine lv_iload C.1 C.2.1 dX1_isSame_132 (lv_at hl 6 rfl) ?_
      refine h_ald4 C hK hT.1 h dX1_isSame_134 (fun x134 h => ?_)
      refine h_len3 C hK hT.1 h dX1_isSame_135 (fun x135 h => ?_)
      refine h_ist0 C hK hT h dX1_isSame_136 (fun Hp136 H locs h hT => ?_)
      refine lv_dup C.1 C.2.1 dX1_isSame_137 rfl ?_
      refine lv_iconst (v := 1) C.1 C.2.1 dX1_isSame_138 (by decide) ?_
      refine lv_iconst (v := 0) C.1 C.2.1 dX1_isSame_139 (by decide) ?_
      refine h_ist0 C hK hT h dX1_isSame_140 (fun Hp140 H locs h hT => ?_)
      refine lv_dup C.1 C.2.1 dX1_isSame_141 rfl ?_
      refine lv_iconst (v := 2) C.1 C.2.1 dX1_isSame_142 (by decide) ?_
      refine lv_aload_n C.1 C.2.1 dX1_isSame_143 rfl (lv_at hl 2 rfl) ?_
      refine lv_iload C.1 C.2.1 dX1_isSame_144 (lv_at hl 6 rfl) ?_
      refine h_ild0 C hK hT.1 h dX1_isSame_146 (fun x146 h => ?_)
      refine h_ist0 C hK hT h dX1_isSame_147 (fun Hp147 H locs h hT => ?_)
      refine lv_dup C.1 C.2.1 dX1_isSame_148 rfl ?_
      refine lv_iconst (v := 3) C.1 C.2.1 dX1_isSame_149 (by decide) ?_
      refine lv_aload_n C.1 C.2.1 dX1_isSame_150 rfl (lv_at hl 3 rfl) ?_
      refine lv_iload C.1 C.2.1 dX1_isSame_151 (lv_at hl 6 rfl) ?_
      refine h_ild0 C hK hT.1 h dX1_isSame_153 (fun x153 h => ?_)
      refine lv_sipush (v := 9998) C.1 C.2.1 dX1_isSame_154 (by decide) ?_
      refine k_icmp_le (tgt := 164) C dX1_isSame_157 (by decide) h (fun c157 h => ?_) (fun c157 h => ?_)
      · refine lv_aload_n C.1 C.2.1 dX1_isSame_164 rfl (lv_at hl 3 rfl) ?_
        refine lv_iload C.1 C.2.1 dX1_isSame_165 (lv_at hl 6 rfl) ?_
        refine h_ild0 C hK hT.1 h dX1_isSame_167 (fun x167 h => ?_)
        exact J168 n112 S Hp147 v0 v2 v3 v4 v5 v6 x167 3 x124 x124 ih hih h _ _ _ _ _ hT (by omega) (by omega) ls (lv_sub hl [0, 1, 2, 3, 4, 5, 6] rfl)
      · refine lv_iconst (v := (-1)) C.1 C.2.1 dX1_isSame_160 (by decide) ?_
        refine lv_goto (tgt := 168) C.1 C.2.1 dX1_isSame_161 (by decide) ?_
        exact J168 n112 S Hp147 v0 v2 v3 v4 v5 v6 (-1) 3 x124 x124 ih hih h _ _ _ _ _ hT (by omega) (by omega) ls (lv_sub hl [0, 1, 2, 3, 4, 5, 6] rfl)
  have L72 : ∀ (S : XS) (v0 : Nat) (v2 : Nat) (v3 : Nat) (v4 : Nat) (v5 : Nat) (v6 : Nat) (v7 : Int32) (n : Nat) (Hp : HS) (v8 : Int32), itr2 (mS_isSame_F72 S v0 v2 v3 v4 v5 v6 v7) n Hp v8 = some z → ∀ (a : Nat → Nat) (H : Heap) (locs : List Loc) (cells slots : Nat) (hT : hST D k A s (wXk k ax S) a0 Hp0.length a Hp H locs) (hc : cells + 70464 ≤ 70516) (hsl : slots ≤ 14 * cells) (ls : Array Slot), lv_has ls 16 [(0, .ref (a v0)), (1, .ref (ax 0)), (2, .ref (a v2)), (3, .ref (a v3)), (4, .ref (a v4)), (5, .ref (a v5)), (6, .ref (a v6)), (7, .int v7), (8, .int v8)] → W p l e ({ frames := 10, cells := 70516, slots := 987224, locals := 180 }) s m args below meth c H locs cells slots (MQ below (hQi D k (wXk k ax z.2.1) a0 Hp0.length z.2.2 z.1 A) args s 70516 987224 A) (F0 m 72 ls []) := by
    intro S v0 v2 v3 v4 v5 v6 v7
    intro n
    refine itr2_indn (fun (n : Nat) (Hp : HS) (v8 : Int32) => ∀ (a : Nat → Nat) (H : Heap) (locs : List Loc) (cells slots : Nat) (hT : hST D k A s (wXk k ax S) a0 Hp0.length a Hp H locs) (hc : cells + 70464 ≤ 70516) (hsl : slots ≤ 14 * cells) (ls : Array Slot), lv_has ls 16 [(0, .ref (a v0)), (1, .ref (ax 0)), (2, .ref (a v2)), (3, .ref (a v3)), (4, .ref (a v4)), (5, .ref (a v5)), (6, .ref (a v6)), (7, .int v7), (8, .int v8)] → W p l e ({ frames := 10, cells := 70516, slots := 987224, locals := 180 }) s m args below meth c H locs cells slots (MQ below (hQi D k (wXk k ax z.2.1) a0 Hp0.length z.2.2 z.1 A) args s 70516 987224 A) (F0 m 72 ls [])) ?_ n
    intro n72 ih hih Hp v8 h a H locs cells slots hT hc hsl ls hl
    unfold mS_isSame_F72 at h
    refine lv_iload C.1 C.2.1 dX1_isSame_72 (lv_at hl 8 rfl) ?_
    refine lv_iload C.1 C.2.1 dX1_isSame_74 (lv_at hl 7 rfl) ?_
    refine k_icmp_ge (tgt := 109) C dX1_isSame_76 (by decide) h (fun c76 h => ?_) (fun c76 h => ?_)
    · refine lv_iconst (v := 0) C.1 C.2.1 dX1_isSame_109 (by decide) ?_
      refine lv_istore (lv' := [(6, .int 0), (0, .ref (a v0)), (1, .ref (ax 0)), (2, .ref (a v2)), (3, .ref (a v3)), (4, .ref (a v4)), (5, .ref (a v5)), (7, .int v7), (8, .int v8)]) C.1 C.2.1 dX1_isSame_110 hl (by decide) rfl (fun ls hl => ?_)
      exact L112 S v0 v2 v3 v4 v5 16 Hp 0 h _ _ _ _ _ hT (by omega) (by omega) ls (lv_sub hl [1, 2, 3, 4, 5, 6, 0] rfl)
    · refine lv_aload C.1 C.2.1 dX1_isSame_79 (lv_at hl 6 rfl) ?_
      refine lv_iload C.1 C.2.1 dX1_isSame_81 (lv_at hl 8 rfl) ?_
      refine h_ild1 C hK hT.1 h dX1_isSame_83 (fun x83 h => ?_)
      refine lv_istore (lv' := [(9, .int x83), (0, .ref (a v0)), (1, .ref (ax 0)), (2, .ref (a v2)), (3, .ref (a v3)), (4, .ref (a v4)), (5, .ref (a v5)), (6, .ref (a v6)), (7, .int v7), (8, .int v8)]) C.1 C.2.1 dX1_isSame_84 hl (by decide) rfl (fun ls hl => ?_)
      refine lv_aload C.1 C.2.1 dX1_isSame_86 (lv_at hl 6 rfl) ?_
      refine lv_iconst (v := 2) C.1 C.2.1 dX1_isSame_88 (by decide) ?_
      refine lv_dup2_11 C.1 C.2.1 dX1_isSame_89 rfl rfl ?_
      refine h_ild0 C hK hT.1 h dX1_isSame_90 (fun x90 h => ?_)
      refine lv_iload C.1 C.2.1 dX1_isSame_91 (lv_at hl 0 rfl) ?_
      refine k_if_eq (tgt := 100) C dX1_isSame_93 (by decide) h (fun c93 h => ?_) (fun c93 h => ?_)
      · refine lv_iconst (v := 0) C.1 C.2.1 dX1_isSame_100 (by decide) ?_
        refine lv_iadd C.1 C.2.1 dX1_isSame_101 ?_
        refine h_ist0 C hK hT h dX1_isSame_102 (fun Hp102 H locs h hT => ?_)
        refine lv_iinc (v := (v8 + 1)) (lv' := [(8, .int (v8 + 1)), (9, .int x83), (0, .ref (a v0)), (1, .ref (ax 0)), (2, .ref (a v2)), (3, .ref (a v3)), (4, .ref (a v4)), (5, .ref (a v5)), (6, .ref (a v6)), (7, .int v7)]) C.1 C.2.1 dX1_isSame_103 hl (k := 9) rfl rfl (by decide) rfl (fun ls hl => ?_)
        refine lv_goto (tgt := 72) C.1 C.2.1 dX1_isSame_106 (by decide) ?_
        exact hih Hp102 (v8 + 1) h _ _ _ _ _ hT (by omega) (by omega) ls (lv_sub hl [2, 3, 4, 5, 6, 7, 8, 9, 0] rfl)
      · refine lv_iconst (v := 1) C.1 C.2.1 dX1_isSame_96 (by decide) ?_
        refine lv_goto (tgt := 101) C.1 C.2.1 dX1_isSame_97 (by decide) ?_
        refine lv_iadd C.1 C.2.1 dX1_isSame_101 ?_
        refine h_ist0 C hK hT h dX1_isSame_102 (fun Hp102 H locs h hT => ?_)
        refine lv_iinc (v := (v8 + 1)) (lv' := [(8, .int (v8 + 1)), (9, .int x83), (0, .ref (a v0)), (1, .ref (ax 0)), (2, .ref (a v2)), (3, .ref (a v3)), (4, .ref (a v4)), (5, .ref (a v5)), (6, .ref (a v6)), (7, .int v7)]) C.1 C.2.1 dX1_isSame_103 hl (k := 9) rfl rfl (by decide) rfl (fun ls hl => ?_)
        refine lv_goto (tgt := 72) C.1 C.2.1 dX1_isSame_106 (by decide) ?_
        exact hih Hp102 (v8 + 1) h _ _ _ _ _ hT (by omega) (by omega) ls (lv_sub hl [2, 3, 4, 5, 6, 7, 8, 9, 0] rfl)
  unfold mS_isSame at h
  refine lv_aload_n C.1 C.2.1 dX1_isSame_0 rfl (lv_at hl 0 rfl) ?_
  refine lv_iconst (v := (-1)) C.1 C.2.1 dX1_isSame_1 (by decide) ?_
  refine h_cVr C hK hB hA hT [.int (-1)] h (fun v Hp2 e => tS_stages (z := (v, Hp2)) e) (cb_X1_35 C.2.2.2.2 ⟨Nat.le_of_ble_eq_true rfl, Nat.le_of_ble_eq_true rfl⟩) rfl hl.1 (Nat.le_of_ble_eq_true rfl) ⟨(by show _ ≤ 70516; omega), (by show _ ≤ 987224; omega)⟩ dX1_isSame_2 rfl (fun x2 Hp2 a2 H locs h hT hag hrs => ?_)
  have hl : lv_has ls 16 [(0, .ref (a2 v0)), (1, .ref (ax 0))] := by
    have hl : lv_has ls 16 [(0, .ref (a0 v0)), (1, .ref (ax 0))] := lv_sub hl [0, 1] rfl
    simpa only [hag _ (hrs _ (List.mem_of_getElem? (i := 0) rfl))] using hl
  refine lv_astore_n (lv' := [(2, .ref (a2 x2)), (0, .ref (a2 v0)), (1, .ref (ax 0))]) C.1 C.2.1 dX1_isSame_5 rfl hl (by decide) rfl (fun ls hl => ?_)
  refine lv_aload_n C.1 C.2.1 dX1_isSame_6 rfl (lv_at hl 1 rfl) ?_
  refine lv_iconst (v := 0) C.1 C.2.1 dX1_isSame_7 (by decide) ?_
  refine h_cVr C hK hB hA hT [.int 0] h (fun v Hp2 e => tS_measures (z := (v, Hp2)) e) (cb_X1_54 C.2.2.2.2 ⟨Nat.le_of_ble_eq_true rfl, Nat.le_of_ble_eq_true rfl⟩) rfl hl.1 (Nat.le_of_ble_eq_true rfl) ⟨(by show _ ≤ 70516; omega), (by show _ ≤ 987224; omega)⟩ dX1_isSame_8 rfl (fun x8 Hp8 a8 H locs h hT hag hrs => ?_)
  have hl : lv_has ls 16 [(2, .ref (a8 x2)), (0, .ref (a8 v0)), (1, .ref (ax 0))] := by
    have hl : lv_has ls 16 [(2, .ref (a2 x2)), (0, .ref (a2 v0)), (1, .ref (ax 0))] := lv_sub hl [0, 1, 2] rfl
    simpa only [hag _ (hrs _ (List.mem_of_getElem? (i := 0) rfl)), hag _ (hrs _ (List.mem_of_getElem? (i := 1) rfl))] using hl
  refine lv_astore_n (lv' := [(3, .ref (a8 x8)), (2, .ref (a8 x2)), (0, .ref (a8 v0)), (1, .ref (ax 0))]) C.1 C.2.1 dX1_isSame_11 rfl hl (by decide) rfl (fun ls hl => ?_)
  refine lv_aload_n C.1 C.2.1 dX1_isSame_12 rfl (lv_at hl 2 rfl) ?_
  refine lv_iconst (v := 1) C.1 C.2.1 dX1_isSame_13 (by decide) ?_
  refine h_cVr C hK hB hA hT [.int 1] h (fun v Hp2 e => tS_measures (z := (v, Hp2)) e) (cb_X1_54 C.2.2.2.2 ⟨Nat.le_of_ble_eq_true rfl, Nat.le_of_ble_eq_true rfl⟩) rfl hl.1 (Nat.le_of_ble_eq_true rfl) ⟨(by show _ ≤ 70516; omega), (by show _ ≤ 987224; omega)⟩ dX1_isSame_14 rfl (fun x14 Hp14 a14 H locs h hT hag hrs => ?_)
  have hl : lv_has ls 16 [(3, .ref (a14 x8)), (2, .ref (a14 x2)), (0, .ref (a14 v0)), (1, .ref (ax 0))] := by
    have hl : lv_has ls 16 [(3, .ref (a8 x8)), (2, .ref (a8 x2)), (0, .ref (a8 v0)), (1, .ref (ax 0))] := lv_sub hl [0, 1, 2, 3] rfl
    simpa only [hag _ (hrs _ (List.mem_of_getElem? (i := 0) rfl)), hag _ (hrs _ (List.mem_of_getElem? (i := 1) rfl)), hag _ (hrs _ (List.mem_of_getElem? (i := 2) rfl))] using hl
  refine lv_astore (lv' := [(4, .ref (a14 x14)), (3, .ref (a14 x8)), (2, .ref (a14 x2)), (0, .ref (a14 v0)), (1, .ref (ax 0))]) C.1 C.2.1 dX1_isSame_17 hl (by decide) rfl (fun ls hl => ?_)
  refine lv_bipush (v := 7) C.1 C.2.1 dX1_isSame_19 (by decide) ?_
  refine h_nw0 C hK hT hA (by show _ ≤ 70516; omega) (by show _ ≤ 987224; omega) h dX1_isSame_21 (fun Hp21 x21 a21 H h hT hag hrs => ?_)
  have hl : lv_has ls 16 [(4, .ref (a21 x14)), (3, .ref (a21 x8)), (2, .ref (a21 x2)), (0, .ref (a21 v0)), (1, .ref (ax 0))] := by
    have hl : lv_has ls 16 [(4, .ref (a14 x14)), (3, .ref (a14 x8)), (2, .ref (a14 x2)), (0, .ref (a14 v0)), (1, .ref (ax 0))] := lv_sub hl [0, 1, 2, 3, 4] rfl
    simpa only [hag _ (hrs _ (List.mem_of_getElem? (i := 0) rfl)), hag _ (hrs _ (List.mem_of_getElem? (i := 1) rfl)), hag _ (hrs _ (List.mem_of_getElem? (i := 2) rfl)), hag _ (hrs _ (List.mem_of_getElem? (i := 3) rfl))] using hl
  refine lv_dup C.1 C.2.1 dX1_isSame_23 rfl ?_
  refine lv_iconst (v := 0) C.1 C.2.1 dX1_isSame_24 (by decide) ?_
  refine lv_aload_n C.1 C.2.1 dX1_isSame_25 rfl (lv_at hl 3 rfl) ?_
  refine h_get1 C hK qF_X1_15 hT.1 h dX1_isSame_26 (fun x26 h => ?_)
  refine h_len4 C hK hT.1 h dX1_isSame_29 (fun x29 h => ?_)
  refine h_ist0 C hK hT h dX1_isSame_30 (fun Hp30 H locs h hT => ?_)
  refine lv_dup C.1 C.2.1 dX1_isSame_31 rfl ?_
  refine lv_iconst (v := 1) C.1 C.2.1 dX1_isSame_32 (by decide) ?_
  refine lv_iconst (v := 0) C.1 C.2.1 dX1_isSame_33 (by decide) ?_
  refine h_ist0 C hK hT h dX1_isSame_34 (fun Hp34 H locs h hT => ?_)
  refine lv_dup C.1 C.2.1 dX1_isSame_35 rfl ?_
  refine lv_iconst (v := 2) C.1 C.2.1 dX1_isSame_36 (by decide) ?_
  refine lv_iconst (v := 0) C.1 C.2.1 dX1_isSame_37 (by decide) ?_
  refine h_ist0 C hK hT h dX1_isSame_38 (fun Hp38 H locs h hT => ?_)
  refine lv_dup C.1 C.2.1 dX1_isSame_39 rfl ?_
  refine lv_iconst (v := 3) C.1 C.2.1 dX1_isSame_40 (by decide) ?_
  refine lv_iconst (v := 0) C.1 C.2.1 dX1_isSame_41 (by decide) ?_
  refine h_ist0 C hK hT h dX1_isSame_42 (fun Hp42 H locs h hT => ?_)
  refine lv_dup C.1 C.2.1 dX1_isSame_43 rfl ?_
  refine lv_iconst (v := 4) C.1 C.2.1 dX1_isSame_44 (by decide) ?_
  refine lv_iconst (v := 0) C.1 C.2.1 dX1_isSame_45 (by decide) ?_
  refine h_ist0 C hK hT h dX1_isSame_46 (fun Hp46 H locs h hT => ?_)
  refine lv_dup C.1 C.2.1 dX1_isSame_47 rfl ?_
  refine lv_iconst (v := 5) C.1 C.2.1 dX1_isSame_48 (by decide) ?_
  refine lv_iconst (v := 0) C.1 C.2.1 dX1_isSame_49 (by decide) ?_
  refine h_ist0 C hK hT h dX1_isSame_50 (fun Hp50 H locs h hT => ?_)
  refine lv_dup C.1 C.2.1 dX1_isSame_51 rfl ?_
  refine lv_bipush (v := 6) C.1 C.2.1 dX1_isSame_52 (by decide) ?_
  refine lv_iconst (v := 0) C.1 C.2.1 dX1_isSame_54 (by decide) ?_
  refine h_ist0 C hK hT h dX1_isSame_55 (fun Hp55 H locs h hT => ?_)
  refine lv_astore (lv' := [(5, .ref (a21 x21)), (4, .ref (a21 x14)), (3, .ref (a21 x8)), (2, .ref (a21 x2)), (0, .ref (a21 v0)), (1, .ref (ax 0))]) C.1 C.2.1 dX1_isSame_56 hl (by decide) rfl (fun ls hl => ?_)
  refine lv_aload_n C.1 C.2.1 dX1_isSame_58 rfl (lv_at hl 4 rfl) ?_
  refine h_get0 C hK qF_X1_7 hT.1 h dX1_isSame_59 (fun x59 h => ?_)
  refine lv_astore (lv' := [(6, .ref (a21 x59)), (5, .ref (a21 x21)), (4, .ref (a21 x14)), (3, .ref (a21 x8)), (2, .ref (a21 x2)), (0, .ref (a21 v0)), (1, .ref (ax 0))]) C.1 C.2.1 dX1_isSame_62 hl (by decide) rfl (fun ls hl => ?_)
  refine lv_aload C.1 C.2.1 dX1_isSame_64 (lv_at hl 0 rfl) ?_
  refine h_len1 C hK hT.1 h dX1_isSame_66 (fun x66 h => ?_)
  refine lv_istore (lv' := [(7, .int x66), (6, .ref (a21 x59)), (5, .ref (a21 x21)), (4, .ref (a21 x14)), (3, .ref (a21 x8)), (2, .ref (a21 x2)), (0, .ref (a21 v0)), (1, .ref (ax 0))]) C.1 C.2.1 dX1_isSame_67 hl (by decide) rfl (fun ls hl => ?_)
  refine lv_iconst (v := 0) C.1 C.2.1 dX1_isSame_69 (by decide) ?_
  refine lv_istore (lv' := [(8, .int 0), (7, .int x66), (6, .ref (a21 x59)), (5, .ref (a21 x21)), (4, .ref (a21 x14)), (3, .ref (a21 x8)), (2, .ref (a21 x2)), (0, .ref (a21 v0)), (1, .ref (ax 0))]) C.1 C.2.1 dX1_isSame_70 hl (by decide) rfl (fun ls hl => ?_)
  exact L72 S0 v0 x2 x8 x14 x21 x59 x66 16 Hp55 0 h _ _ _ _ _ hT (by omega) (by omega) ls (lv_sub hl [7, 8, 6, 5, 4, 3, 2, 1, 0] rfl)
set_option maxHeartbeats 8000000 in
set_option maxRecDepth 100000 in
theorem tL_act {l : Launch} {D : va_G} {k : Nat → ClassId} {a0 : Nat → Nat} {Hp0 : HS} {sz : Nat} {ax : Nat → Nat} {S0 : XS} {v1 : Nat} {v2 : Int32} {z : (Int32 × (XS × HS))} (hfl : l.stackTraces = false) (h : mL_act S0 Hp0 v1 v2 = some z) : Met l yL_act (Cond.codeWith yL_act cL_act 13 (some .boolean) [((162), (168), (171), (37)), ((214), (222), (225), (37)), ((521), (535), (538), (37)), ((741), (755), (758), (37))] :: WW) ({ frames := 10, cells := 3, slots := 42, locals := 181 }) (va_Pc [.ref (ax 0), .ref (a0 v1), .int v2] (hPreL D k (wXk k ax S0) a0 Hp0 sz)) (hQi D k (wXk k ax z.2.1) a0 Hp0.length z.2.2 z.1 (va_A (wXk k ax S0 ++ wH k a0 Hp0) sz)) 3 42 (va_A (wXk k ax S0 ++ wH k a0 Hp0) sz) := by
  refine LA_of (own := RL) (Qc := fun A => hQi D k (wXk k ax z.2.1) a0 Hp0.length z.2.2 z.1 A) (by decide) rfl (Nat.le_of_ble_eq_true rfl) ?_
  intro p e s m args below meth c A ha C hr hlk htab hK hB hA hT hE ls hl
  have hl : lv_has ls 13 [(0, .ref (ax 0)), (1, .ref (a0 v1)), (2, .int v2)] := hl
  have J101 : ∀ (S : XS) (Hp : HS) (v1 : Nat) (v8 : Int32) (t0 : Int32), mL_act_J101 S Hp v1 v8 t0 = some z → ∀ (a : Nat → Nat) (H : Heap) (locs : List Loc) (cells slots : Nat) (hT : hST D k A s (wXk k ax S) a0 Hp0.length a Hp H locs) (hc : cells + 1 ≤ 3) (hsl : slots ≤ 14 * cells) (ls : Array Slot), lv_has ls 13 [(0, .ref (ax 0)), (1, .ref (a v1)), (8, .int v8)] → W p l e ({ frames := 10, cells := 3, slots := 42, locals := 181 }) s m args below meth c H locs cells slots (MQ below (hQi D k (wXk k ax z.2.1) a0 Hp0.length z.2.2 z.1 A) args s 3 42 A) (F0 m 101 ls [.int t0]) := by
    intro S Hp v1 v8 t0 h a H locs cells slots hT hc hsl ls hl
    unfold mL_act_J101 at h
    refine lv_istore (lv' := [(9, .int t0), (0, .ref (ax 0)), (1, .ref (a v1)), (8, .int v8)]) C.1 C.2.1 dL_act_101 hl (by decide) rfl (fun ls hl => ?_)
    refine lv_aload_n C.1 C.2.1 dL_act_103 rfl (lv_at hl 2 rfl) ?_
    refine h_get0 C hK qF_L_21 hT.1 h dL_act_104 (fun x104 h => ?_)
    refine lv_iload C.1 C.2.1 dL_act_107 (lv_at hl 3 rfl) ?_
    refine h_ild1 C hK hT.1 h dL_act_109 (fun x109 h => ?_)
    refine lv_istore (lv' := [(10, .int x109), (9, .int t0), (0, .ref (ax 0)), (1, .ref (a v1)), (8, .int v8)]) C.1 C.2.1 dL_act_110 hl (by decide) rfl (fun ls hl => ?_)
    refine lv_aload_n C.1 C.2.1 dL_act_112 rfl (lv_at hl 3 rfl) ?_
    refine h_get0 C hK qF_L_21 hT.1 h dL_act_113 (fun x113 h => ?_)
    refine lv_iload C.1 C.2.1 dL_act_116 (lv_at hl 4 rfl) ?_
    refine lv_iload C.1 C.2.1 dL_act_118 (lv_at hl 1 rfl) ?_
    refine h_ist1 C hK hT h dL_act_120 (fun Hp120 H locs h hT => ?_)
    refine lv_aload_n C.1 C.2.1 dL_act_121 rfl (lv_at hl 2 rfl) ?_
    refine lv_iload C.1 C.2.1 dL_act_122 (lv_at hl 4 rfl) ?_
    refine lv_iload C.1 C.2.1 dL_act_124 (lv_at hl 1 rfl) ?_
    refine x_TW C hK hA hE hT [.int v8, .int t0] h (fun o e => tX0_take hfl e) (cb_L_25 C.2.2.2.2 ⟨Nat.le_of_ble_eq_true rfl, Nat.le_of_ble_eq_true rfl⟩) rfl hl.1 (Nat.le_of_ble_eq_true rfl) ⟨(by show _ ≤ 3; omega), (by show _ ≤ 42; omega)⟩ dL_act_126 rfl (fun x126 S126 H locs h hT => ?_)
    refine lv_iload C.1 C.2.1 dL_act_129 (lv_at hl 0 rfl) ?_
    refine k_icmp_ne (tgt := 138) C dL_act_131 (by decide) h (fun c131 h => ?_) (fun c131 h => ?_)
    · refine lv_iconst (v := 0) C.1 C.2.1 dL_act_138 (by decide) ?_
      obtain ⟨hg, h⟩ := gz_h h
      cases h
      exact h_zret C hr hlk hT (by omega) (by omega) hg dL_act_139
    · refine lv_iconst (v := 1) C.1 C.2.1 dL_act_134 (by decide) ?_
      refine lv_goto (tgt := 139) C.1 C.2.1 dL_act_135 (by decide) ?_
      obtain ⟨hg, h⟩ := gz_h h
      cases h
      exact h_zret C hr hlk hT (by omega) (by omega) hg dL_act_139
  have J162 : ∀ (S : XS) (Hp : HS) (v7 : Int32), mL_act_J162 S Hp v7 = some z → ∀ (a : Nat → Nat) (H : Heap) (locs : List Loc) (cells slots : Nat) (hT : hST D k A s (wXk k ax S) a0 Hp0.length a Hp H locs) (hc : cells + 1 ≤ 3) (hsl : slots ≤ 14 * cells) (ls : Array Slot), lv_has ls 13 [(0, .ref (ax 0)), (7, .int v7)] → W p l e ({ frames := 10, cells := 3, slots := 42, locals := 181 }) s m args below meth c H locs cells slots (MQ below (hQi D k (wXk k ax z.2.1) a0 Hp0.length z.2.2 z.1 A) args s 3 42 A) (F0 m 162 ls []) := by
    intro S Hp v7 h a H locs cells slots hT hc hsl ls hl
    unfold mL_act_J162 at h
    refine lv_aload_n C.1 C.2.1 dL_act_162 rfl (lv_at hl 0 rfl) ?_
    refine x_TC C hK hA hE hT [] h (fun o e => tX0_lemma hfl e) (cb_L_34 C.2.2.2.2 ⟨Nat.le_of_ble_eq_true rfl, Nat.le_of_ble_eq_true rfl⟩) rfl hl.1 (Nat.le_of_ble_eq_true rfl) ⟨(by show _ ≤ 3; omega), (by show _ ≤ 42; omega)⟩ dL_act_163 rfl (fun x163 S163 H locs h hT => ?_) (fun H locs q9 ce h hT hce hcv hcl => ?_)
    · refine lv_istore (lv' := [(6, .int x163), (0, .ref (ax 0)), (7, .int v7)]) C.1 C.2.1 dL_act_166 hl (by decide) rfl (fun ls hl => ?_)
      refine lv_goto (tgt := 176) C.1 C.2.1 dL_act_168 (by decide) ?_
      refine lv_iload C.1 C.2.1 dL_act_176 (lv_at hl 0 rfl) ?_
      refine lv_iload C.1 C.2.1 dL_act_178 (lv_at hl 2 rfl) ?_
      refine k_icmp_ne (tgt := 187) C dL_act_180 (by decide) h (fun c180 h => ?_) (fun c180 h => ?_)
      · refine lv_iconst (v := 0) C.1 C.2.1 dL_act_187 (by decide) ?_
        obtain ⟨hg, h⟩ := gz_h h
        cases h
        exact h_zret C hr hlk hT (by omega) (by omega) hg dL_act_188
      · refine lv_iconst (v := 1) C.1 C.2.1 dL_act_183 (by decide) ?_
        refine lv_goto (tgt := 188) C.1 C.2.1 dL_act_184 (by decide) ?_
        obtain ⟨hg, h⟩ := gz_h h
        cases h
        exact h_zret C hr hlk hT (by omega) (by omega) hg dL_act_188
    · refine vx_catch (name := "java/lang/IllegalStateException") C.2.2.2.1 [] ⟨162, 168, 171, 37⟩ [⟨214, 222, 225, 37⟩, ⟨521, 535, 538, 37⟩, ⟨741, 755, 758, 37⟩] (by rw [htab]; rfl) (fun z hz => absurd hz List.not_mem_nil) (by decide) (by decide) (C.2.2.2.2 _ qK_L_37) (va_Nw.use rfl (hE.2.2.2.1 _ (List.mem_of_getElem? (i := 1) rfl))) hce hcv hcl ?_
      refine lv_astore (lv' := [(8, .ref q9), (0, .ref (ax 0)), (7, .int v7)]) C.1 C.2.1 dL_act_171 hl (by decide) rfl (fun ls hl => ?_)
      refine lv_iconst (v := (-1)) C.1 C.2.1 dL_act_173 (by decide) ?_
      refine lv_istore (lv' := [(6, .int (-1)), (8, .ref q9), (0, .ref (ax 0)), (7, .int v7)]) C.1 C.2.1 dL_act_174 hl (by decide) rfl (fun ls hl => ?_)
      refine lv_iload C.1 C.2.1 dL_act_176 (lv_at hl 0 rfl) ?_
      refine lv_iload C.1 C.2.1 dL_act_178 (lv_at hl 3 rfl) ?_
      refine k_icmp_ne (tgt := 187) C dL_act_180 (by decide) h (fun c180 h => ?_) (fun c180 h => ?_)
      · refine lv_iconst (v := 0) C.1 C.2.1 dL_act_187 (by decide) ?_
        obtain ⟨hg, h⟩ := gz_h h
        cases h
        exact h_zret C hr hlk hT (by omega) (by omega) hg dL_act_188
      · refine lv_iconst (v := 1) C.1 C.2.1 dL_act_183 (by decide) ?_
        refine lv_goto (tgt := 188) C.1 C.2.1 dL_act_184 (by decide) ?_
        obtain ⟨hg, h⟩ := gz_h h
        cases h
        exact h_zret C hr hlk hT (by omega) (by omega) hg dL_act_188
  have J151 : ∀ (S : XS) (Hp : HS) (v1 : Nat) (t0 : Int32), mL_act_J151 S Hp v1 t0 = some z → ∀ (a : Nat → Nat) (H : Heap) (locs : List Loc) (cells slots : Nat) (hT : hST D k A s (wXk k ax S) a0 Hp0.length a Hp H locs) (hc : cells + 3 ≤ 3) (hsl : slots ≤ 14 * cells) (ls : Array Slot), lv_has ls 13 [(0, .ref (ax 0)), (1, .ref (a v1))] → W p l e ({ frames := 10, cells := 3, slots := 42, locals := 181 }) s m args below meth c H locs cells slots (MQ below (hQi D k (wXk k ax z.2.1) a0 Hp0.length z.2.2 z.1 A) args s 3 42 A) (F0 m 151 ls [.int t0]) := by
    intro S Hp v1 t0 h a H locs cells slots hT hc hsl ls hl
    unfold mL_act_J151 at h
    refine lv_istore (lv' := [(7, .int t0), (0, .ref (ax 0)), (1, .ref (a v1))]) C.1 C.2.1 dL_act_151 hl (by decide) rfl (fun ls hl => ?_)
    refine lv_iload C.1 C.2.1 dL_act_153 (lv_at hl 0 rfl) ?_
    refine k_if_lt (tgt := 162) C dL_act_155 (by decide) h (fun c155 h => ?_) (fun c155 h => ?_)
    · exact J162 S Hp t0 h _ _ _ _ _ hT (by omega) (by omega) ls (lv_sub hl [1, 0] rfl)
    · refine lv_aload_n C.1 C.2.1 dL_act_158 rfl (lv_at hl 2 rfl) ?_
      refine h_cVv C hK hB hA hT [] h (fun v Hp2 e => tS_lemma (z := (v, Hp2)) e) (cb_L_31 C.2.2.2.2 ⟨Nat.le_of_ble_eq_true rfl, Nat.le_of_ble_eq_true rfl⟩) rfl hl.1 (Nat.le_of_ble_eq_true rfl) ⟨(by show _ ≤ 3; omega), (by show _ ≤ 42; omega)⟩ dL_act_159 rfl (fun x159 Hp159 a159 H locs h hT hag hrs => ?_)
      have hl : lv_has ls 13 [(7, .int t0), (0, .ref (ax 0))] := by
        have hl : lv_has ls 13 [(7, .int t0), (0, .ref (ax 0))] := lv_sub hl [0, 1] rfl
        exact hl
      exact J162 S Hp159 t0 h _ _ _ _ _ hT (by omega) (by omega) ls (lv_sub hl [1, 0] rfl)
  have J214 : ∀ (S : XS) (Hp : HS) (v4 : Int32) (v7 : Int32), mL_act_J214 S Hp v4 v7 = some z → ∀ (a : Nat → Nat) (H : Heap) (locs : List Loc) (cells slots : Nat) (hT : hST D k A s (wXk k ax S) a0 Hp0.length a Hp H locs) (hc : cells + 1 ≤ 3) (hsl : slots ≤ 14 * cells) (ls : Array Slot), lv_has ls 13 [(0, .ref (ax 0)), (4, .int v4), (7, .int v7)] → W p l e ({ frames := 10, cells := 3, slots := 42, locals := 181 }) s m args below meth c H locs cells slots (MQ below (hQi D k (wXk k ax z.2.1) a0 Hp0.length z.2.2 z.1 A) args s 3 42 A) (F0 m 214 ls []) := by
    intro S Hp v4 v7 h a H locs cells slots hT hc hsl ls hl
    unfold mL_act_J214 at h
    refine lv_aload_n C.1 C.2.1 dL_act_214 rfl (lv_at hl 0 rfl) ?_
    refine lv_iload C.1 C.2.1 dL_act_215 (lv_at hl 1 rfl) ?_
    refine x_TC C hK hA hE hT [.int v4] h (fun o e => tX0_proof hfl e) (cb_L_43 C.2.2.2.2 ⟨Nat.le_of_ble_eq_true rfl, Nat.le_of_ble_eq_true rfl⟩) rfl hl.1 (Nat.le_of_ble_eq_true rfl) ⟨(by show _ ≤ 3; omega), (by show _ ≤ 42; omega)⟩ dL_act_217 rfl (fun x217 S217 H locs h hT => ?_) (fun H locs q9 ce h hT hce hcv hcl => ?_)
    · refine lv_istore (lv' := [(6, .int x217), (0, .ref (ax 0)), (4, .int v4), (7, .int v7)]) C.1 C.2.1 dL_act_220 hl (by decide) rfl (fun ls hl => ?_)
      refine lv_goto (tgt := 230) C.1 C.2.1 dL_act_222 (by decide) ?_
      refine lv_iload C.1 C.2.1 dL_act_230 (lv_at hl 0 rfl) ?_
      refine lv_iload C.1 C.2.1 dL_act_232 (lv_at hl 3 rfl) ?_
      refine k_icmp_ne (tgt := 241) C dL_act_234 (by decide) h (fun c234 h => ?_) (fun c234 h => ?_)
      · refine lv_iconst (v := 0) C.1 C.2.1 dL_act_241 (by decide) ?_
        obtain ⟨hg, h⟩ := gz_h h
        cases h
        exact h_zret C hr hlk hT (by omega) (by omega) hg dL_act_242
      · refine lv_iconst (v := 1) C.1 C.2.1 dL_act_237 (by decide) ?_
        refine lv_goto (tgt := 242) C.1 C.2.1 dL_act_238 (by decide) ?_
        obtain ⟨hg, h⟩ := gz_h h
        cases h
        exact h_zret C hr hlk hT (by omega) (by omega) hg dL_act_242
    · refine vx_catch (name := "java/lang/IllegalStateException") C.2.2.2.1 [⟨162, 168, 171, 37⟩] ⟨214, 222, 225, 37⟩ [⟨521, 535, 538, 37⟩, ⟨741, 755, 758, 37⟩] (by rw [htab]; rfl) (fun z hz => Or.inl (by
        simp only [List.mem_cons, List.not_mem_nil, or_false] at hz
        rcases hz with rfl <;> decide)) (by decide) (by decide) (C.2.2.2.2 _ qK_L_37) (va_Nw.use rfl (hE.2.2.2.1 _ (List.mem_of_getElem? (i := 1) rfl))) hce hcv hcl ?_
      refine lv_astore (lv' := [(8, .ref q9), (0, .ref (ax 0)), (4, .int v4), (7, .int v7)]) C.1 C.2.1 dL_act_225 hl (by decide) rfl (fun ls hl => ?_)
      refine lv_iconst (v := (-1)) C.1 C.2.1 dL_act_227 (by decide) ?_
      refine lv_istore (lv' := [(6, .int (-1)), (8, .ref q9), (0, .ref (ax 0)), (4, .int v4), (7, .int v7)]) C.1 C.2.1 dL_act_228 hl (by decide) rfl (fun ls hl => ?_)
      refine lv_iload C.1 C.2.1 dL_act_230 (lv_at hl 0 rfl) ?_
      refine lv_iload C.1 C.2.1 dL_act_232 (lv_at hl 4 rfl) ?_
      refine k_icmp_ne (tgt := 241) C dL_act_234 (by decide) h (fun c234 h => ?_) (fun c234 h => ?_)
      · refine lv_iconst (v := 0) C.1 C.2.1 dL_act_241 (by decide) ?_
        obtain ⟨hg, h⟩ := gz_h h
        cases h
        exact h_zret C hr hlk hT (by omega) (by omega) hg dL_act_242
      · refine lv_iconst (v := 1) C.1 C.2.1 dL_act_237 (by decide) ?_
        refine lv_goto (tgt := 242) C.1 C.2.1 dL_act_238 (by decide) ?_
        obtain ⟨hg, h⟩ := gz_h h
        cases h
        exact h_zret C hr hlk hT (by omega) (by omega) hg dL_act_242
  have J201 : ∀ (S : XS) (Hp : HS) (v1 : Nat) (v4 : Int32) (t0 : Int32), mL_act_J201 S Hp v1 v4 t0 = some z → ∀ (a : Nat → Nat) (H : Heap) (locs : List Loc) (cells slots : Nat) (hT : hST D k A s (wXk k ax S) a0 Hp0.length a Hp H locs) (hc : cells + 3 ≤ 3) (hsl : slots ≤ 14 * cells) (ls : Array Slot), lv_has ls 13 [(0, .ref (ax 0)), (1, .ref (a v1)), (4, .int v4)] → W p l e ({ frames := 10, cells := 3, slots := 42, locals := 181 }) s m args below meth c H locs cells slots (MQ below (hQi D k (wXk k ax z.2.1) a0 Hp0.length z.2.2 z.1 A) args s 3 42 A) (F0 m 201 ls [.int t0]) := by
    intro S Hp v1 v4 t0 h a H locs cells slots hT hc hsl ls hl
    unfold mL_act_J201 at h
    refine lv_istore (lv' := [(7, .int t0), (0, .ref (ax 0)), (1, .ref (a v1)), (4, .int v4)]) C.1 C.2.1 dL_act_201 hl (by decide) rfl (fun ls hl => ?_)
    refine lv_iload C.1 C.2.1 dL_act_203 (lv_at hl 0 rfl) ?_
    refine k_if_lt (tgt := 214) C dL_act_205 (by decide) h (fun c205 h => ?_) (fun c205 h => ?_)
    · exact J214 S Hp v4 t0 h _ _ _ _ _ hT (by omega) (by omega) ls (lv_sub hl [1, 3, 0] rfl)
    · refine lv_aload_n C.1 C.2.1 dL_act_208 rfl (lv_at hl 2 rfl) ?_
      refine lv_iload C.1 C.2.1 dL_act_209 (lv_at hl 3 rfl) ?_
      refine h_cVv C hK hB hA hT [.int v4] h (fun v Hp2 e => tS_proof (z := (v, Hp2)) e) (cb_L_39 C.2.2.2.2 ⟨Nat.le_of_ble_eq_true rfl, Nat.le_of_ble_eq_true rfl⟩) rfl hl.1 (Nat.le_of_ble_eq_true rfl) ⟨(by show _ ≤ 3; omega), (by show _ ≤ 42; omega)⟩ dL_act_211 rfl (fun x211 Hp211 a211 H locs h hT hag hrs => ?_)
      have hl : lv_has ls 13 [(7, .int t0), (0, .ref (ax 0)), (4, .int v4)] := by
        have hl : lv_has ls 13 [(7, .int t0), (0, .ref (ax 0)), (4, .int v4)] := lv_sub hl [0, 1, 3] rfl
        exact hl
      exact J214 S Hp211 v4 t0 h _ _ _ _ _ hT (by omega) (by omega) ls (lv_sub hl [1, 2, 0] rfl)
  have J189 : ∀ (S : XS) (Hp : HS) (v1 : Nat) (v4 : Int32) (v5 : Int32), mL_act_J189 S Hp v1 v4 v5 = some z → ∀ (a : Nat → Nat) (H : Heap) (locs : List Loc) (cells slots : Nat) (hT : hST D k A s (wXk k ax S) a0 Hp0.length a Hp H locs) (hc : cells + 3 ≤ 3) (hsl : slots ≤ 14 * cells) (ls : Array Slot), lv_has ls 13 [(0, .ref (ax 0)), (1, .ref (a v1)), (4, .int v4), (5, .int v5)] → W p l e ({ frames := 10, cells := 3, slots := 42, locals := 181 }) s m args below meth c H locs cells slots (MQ below (hQi D k (wXk k ax z.2.1) a0 Hp0.length z.2.2 z.1 A) args s 3 42 A) (F0 m 189 ls []) := by
    intro S Hp v1 v4 v5 h a H locs cells slots hT hc hsl ls hl
    unfold mL_act_J189 at h
    refine lv_iload C.1 C.2.1 dL_act_189 (lv_at hl 3 rfl) ?_
    refine lv_iconst (v := 3) C.1 C.2.1 dL_act_191 (by decide) ?_
    refine k_icmp_ge (tgt := 200) C dL_act_192 (by decide) h (fun c192 h => ?_) (fun c192 h => ?_)
    · refine lv_iconst (v := (-1)) C.1 C.2.1 dL_act_200 (by decide) ?_
      exact J201 S Hp v1 v4 (-1) h _ _ _ _ _ hT (by omega) (by omega) ls (lv_sub hl [0, 1, 2] rfl)
    · refine lv_iload C.1 C.2.1 dL_act_195 (lv_at hl 3 rfl) ?_
      refine lv_goto (tgt := 201) C.1 C.2.1 dL_act_197 (by decide) ?_
      exact J201 S Hp v1 v4 v5 h _ _ _ _ _ hT (by omega) (by omega) ls (lv_sub hl [0, 1, 2] rfl)
  have J521 : ∀ (S : XS) (Hp : HS) (v4 : Int32) (v7 : Int32) (v8 : Int32) (v10 : Int32) (v11 : Int32), mL_act_J521 S Hp v4 v7 v8 v10 v11 = some z → ∀ (a : Nat → Nat) (H : Heap) (locs : List Loc) (cells slots : Nat) (hT : hST D k A s (wXk k ax S) a0 Hp0.length a Hp H locs) (hc : cells + 1 ≤ 3) (hsl : slots ≤ 14 * cells) (ls : Array Slot), lv_has ls 13 [(0, .ref (ax 0)), (4, .int v4), (7, .int v7), (8, .int v8), (10, .int v10), (11, .int v11)] → W p l e ({ frames := 10, cells := 3, slots := 42, locals := 181 }) s m args below meth c H locs cells slots (MQ below (hQi D k (wXk k ax z.2.1) a0 Hp0.length z.2.2 z.1 A) args s 3 42 A) (F0 m 521 ls []) := by
    intro S Hp v4 v7 v8 v10 v11 h a H locs cells slots hT hc hsl ls hl
    unfold mL_act_J521 at h
    refine lv_aload_n C.1 C.2.1 dL_act_521 rfl (lv_at hl 0 rfl) ?_
    refine lv_iload C.1 C.2.1 dL_act_522 (lv_at hl 1 rfl) ?_
    refine lv_iload C.1 C.2.1 dL_act_524 (lv_at hl 3 rfl) ?_
    refine lv_iload C.1 C.2.1 dL_act_526 (lv_at hl 4 rfl) ?_
    refine lv_iload C.1 C.2.1 dL_act_528 (lv_at hl 5 rfl) ?_
    refine x_TC C hK hA hE hT [.int v4, .int v8, .int v10, .int v11] h (fun o e => tX0_patch hfl e) (cb_L_61 C.2.2.2.2 ⟨Nat.le_of_ble_eq_true rfl, Nat.le_of_ble_eq_true rfl⟩) rfl hl.1 (Nat.le_of_ble_eq_true rfl) ⟨(by show _ ≤ 3; omega), (by show _ ≤ 42; omega)⟩ dL_act_530 rfl (fun x530 S530 H locs h hT => ?_) (fun H locs q9 ce h hT hce hcv hcl => ?_)
    · refine lv_istore (lv' := [(6, .int x530), (0, .ref (ax 0)), (4, .int v4), (7, .int v7), (8, .int v8), (10, .int v10), (11, .int v11)]) C.1 C.2.1 dL_act_533 hl (by decide) rfl (fun ls hl => ?_)
      refine lv_goto (tgt := 543) C.1 C.2.1 dL_act_535 (by decide) ?_
      refine lv_iload C.1 C.2.1 dL_act_543 (lv_at hl 0 rfl) ?_
      refine lv_iload C.1 C.2.1 dL_act_545 (lv_at hl 3 rfl) ?_
      refine k_icmp_ne (tgt := 554) C dL_act_547 (by decide) h (fun c547 h => ?_) (fun c547 h => ?_)
      · refine lv_iconst (v := 0) C.1 C.2.1 dL_act_554 (by decide) ?_
        obtain ⟨hg, h⟩ := gz_h h
        cases h
        exact h_zret C hr hlk hT (by omega) (by omega) hg dL_act_555
      · refine lv_iconst (v := 1) C.1 C.2.1 dL_act_550 (by decide) ?_
        refine lv_goto (tgt := 555) C.1 C.2.1 dL_act_551 (by decide) ?_
        obtain ⟨hg, h⟩ := gz_h h
        cases h
        exact h_zret C hr hlk hT (by omega) (by omega) hg dL_act_555
    · refine vx_catch (name := "java/lang/IllegalStateException") C.2.2.2.1 [⟨162, 168, 171, 37⟩, ⟨214, 222, 225, 37⟩] ⟨521, 535, 538, 37⟩ [⟨741, 755, 758, 37⟩] (by rw [htab]; rfl) (fun z hz => Or.inl (by
        simp only [List.mem_cons, List.not_mem_nil, or_false] at hz
        rcases hz with rfl | rfl <;> decide)) (by decide) (by decide) (C.2.2.2.2 _ qK_L_37) (va_Nw.use rfl (hE.2.2.2.1 _ (List.mem_of_getElem? (i := 1) rfl))) hce hcv hcl ?_
      refine lv_astore (lv' := [(12, .ref q9), (0, .ref (ax 0)), (4, .int v4), (7, .int v7), (8, .int v8), (10, .int v10), (11, .int v11)]) C.1 C.2.1 dL_act_538 hl (by decide) rfl (fun ls hl => ?_)
      refine lv_iconst (v := (-1)) C.1 C.2.1 dL_act_540 (by decide) ?_
      refine lv_istore (lv' := [(6, .int (-1)), (12, .ref q9), (0, .ref (ax 0)), (4, .int v4), (7, .int v7), (8, .int v8), (10, .int v10), (11, .int v11)]) C.1 C.2.1 dL_act_541 hl (by decide) rfl (fun ls hl => ?_)
      refine lv_iload C.1 C.2.1 dL_act_543 (lv_at hl 0 rfl) ?_
      refine lv_iload C.1 C.2.1 dL_act_545 (lv_at hl 4 rfl) ?_
      refine k_icmp_ne (tgt := 554) C dL_act_547 (by decide) h (fun c547 h => ?_) (fun c547 h => ?_)
      · refine lv_iconst (v := 0) C.1 C.2.1 dL_act_554 (by decide) ?_
        obtain ⟨hg, h⟩ := gz_h h
        cases h
        exact h_zret C hr hlk hT (by omega) (by omega) hg dL_act_555
      · refine lv_iconst (v := 1) C.1 C.2.1 dL_act_550 (by decide) ?_
        refine lv_goto (tgt := 555) C.1 C.2.1 dL_act_551 (by decide) ?_
        obtain ⟨hg, h⟩ := gz_h h
        cases h
        exact h_zret C hr hlk hT (by omega) (by omega) hg dL_act_555
  have J505 : ∀ (S : XS) (Hp : HS) (v4 : Int32) (v8 : Int32) (v9 : Nat) (v10 : Int32) (v11 : Int32) (t0 : Int32), mL_act_J505 S Hp v4 v8 v9 v10 v11 t0 = some z → ∀ (a : Nat → Nat) (H : Heap) (locs : List Loc) (cells slots : Nat) (hT : hST D k A s (wXk k ax S) a0 Hp0.length a Hp H locs) (hc : cells + 1 ≤ 3) (hsl : slots ≤ 14 * cells) (ls : Array Slot), lv_has ls 13 [(0, .ref (ax 0)), (4, .int v4), (8, .int v8), (9, .ref (a v9)), (10, .int v10), (11, .int v11)] → W p l e ({ frames := 10, cells := 3, slots := 42, locals := 181 }) s m args below meth c H locs cells slots (MQ below (hQi D k (wXk k ax z.2.1) a0 Hp0.length z.2.2 z.1 A) args s 3 42 A) (F0 m 505 ls [.int t0]) := by
    intro S Hp v4 v8 v9 v10 v11 t0 h a H locs cells slots hT hc hsl ls hl
    unfold mL_act_J505 at h
    refine lv_istore (lv' := [(7, .int t0), (0, .ref (ax 0)), (4, .int v4), (8, .int v8), (9, .ref (a v9)), (10, .int v10), (11, .int v11)]) C.1 C.2.1 dL_act_505 hl (by decide) rfl (fun ls hl => ?_)
    refine lv_iload C.1 C.2.1 dL_act_507 (lv_at hl 0 rfl) ?_
    refine k_if_lt (tgt := 521) C dL_act_509 (by decide) h (fun c509 h => ?_) (fun c509 h => ?_)
    · exact J521 S Hp v4 t0 v8 v10 v11 h _ _ _ _ _ hT (by omega) (by omega) ls (lv_sub hl [1, 2, 0, 3, 5, 6] rfl)
    · refine lv_aload C.1 C.2.1 dL_act_512 (lv_at hl 4 rfl) ?_
      refine lv_iload C.1 C.2.1 dL_act_514 (lv_at hl 5 rfl) ?_
      refine h_ald2 C hK hT.1 h dL_act_516 (fun x516 h => ?_)
      refine lv_iconst (v := 2) C.1 C.2.1 dL_act_517 (by decide) ?_
      refine lv_iload C.1 C.2.1 dL_act_518 (lv_at hl 0 rfl) ?_
      refine h_ist0 C hK hT h dL_act_520 (fun Hp520 H locs h hT => ?_)
      exact J521 S Hp520 v4 t0 v8 v10 v11 h _ _ _ _ _ hT (by omega) (by omega) ls (lv_sub hl [1, 2, 0, 3, 5, 6] rfl)
  have J403 : ∀ (S : XS) (Hp : HS) (v2 : Int32) (v4 : Int32) (v8 : Int32) (v9 : Nat) (v10 : Int32), mL_act_J403 S Hp v2 v4 v8 v9 v10 = some z → ∀ (a : Nat → Nat) (H : Heap) (locs : List Loc) (cells slots : Nat) (hT : hST D k A s (wXk k ax S) a0 Hp0.length a Hp H locs) (hc : cells + 1 ≤ 3) (hsl : slots ≤ 14 * cells) (ls : Array Slot), lv_has ls 13 [(0, .ref (ax 0)), (2, .int v2), (4, .int v4), (8, .int v8), (9, .ref (a v9)), (10, .int v10)] → W p l e ({ frames := 10, cells := 3, slots := 42, locals := 181 }) s m args below meth c H locs cells slots (MQ below (hQi D k (wXk k ax z.2.1) a0 Hp0.length z.2.2 z.1 A) args s 3 42 A) (F0 m 403 ls []) := by
    intro S Hp v2 v4 v8 v9 v10 h a H locs cells slots hT hc hsl ls hl
    unfold mL_act_J403 at h
    refine lv_iload_n C.1 C.2.1 dL_act_403 rfl (lv_at hl 1 rfl) ?_
    refine lv_bipush (v := 9) C.1 C.2.1 dL_act_404 (by decide) ?_
    refine lv_ishr C.1 C.2.1 dL_act_406 ?_
    refine lv_iconst (v := 3) C.1 C.2.1 dL_act_407 (by decide) ?_
    refine k_prS C [.int (v2 >>> (9 &&& 31)), .int 3] h (fun v e => tL_below e) (cb_L_15 C.2.2.2.2 ⟨Nat.le_of_ble_eq_true rfl, Nat.le_of_ble_eq_true rfl⟩) rfl hl.1 (Nat.le_of_ble_eq_true rfl) ⟨(by show _ ≤ 3; omega), (by show _ ≤ 42; omega)⟩ dL_act_408 rfl (fun x408 _ h => ?_)
    refine k_if_ne (tgt := 465) C dL_act_411 (by decide) h (fun c411 h => ?_) (fun c411 h => ?_)
    · refine lv_iconst (v := 1) C.1 C.2.1 dL_act_465 (by decide) ?_
      refine lv_iload_n C.1 C.2.1 dL_act_466 rfl (lv_at hl 1 rfl) ?_
      refine lv_iconst (v := 4) C.1 C.2.1 dL_act_467 (by decide) ?_
      refine lv_ishr C.1 C.2.1 dL_act_468 ?_
      refine lv_bipush (v := 9) C.1 C.2.1 dL_act_469 (by decide) ?_
      refine k_prS C [.int (v2 >>> (4 &&& 31)), .int 9] h (fun v e => tL_below e) (cb_L_15 C.2.2.2.2 ⟨Nat.le_of_ble_eq_true rfl, Nat.le_of_ble_eq_true rfl⟩) rfl hl.1 (Nat.le_of_ble_eq_true rfl) ⟨(by show _ ≤ 3; omega), (by show _ ≤ 42; omega)⟩ dL_act_471 rfl (fun x471 _ h => ?_)
      refine lv_iadd C.1 C.2.1 dL_act_474 ?_
      refine lv_istore (lv' := [(11, .int (1 + x471)), (0, .ref (ax 0)), (2, .int v2), (4, .int v4), (8, .int v8), (9, .ref (a v9)), (10, .int v10)]) C.1 C.2.1 dL_act_475 hl (by decide) rfl (fun ls hl => ?_)
      refine lv_aload C.1 C.2.1 dL_act_477 (lv_at hl 5 rfl) ?_
      refine lv_iload C.1 C.2.1 dL_act_479 (lv_at hl 6 rfl) ?_
      refine h_ald2 C hK hT.1 h dL_act_481 (fun x481 h => ?_)
      refine lv_iconst (v := 2) C.1 C.2.1 dL_act_482 (by decide) ?_
      refine h_ild0 C hK hT.1 h dL_act_483 (fun x483 h => ?_)
      refine k_if_ne (tgt := 491) C dL_act_484 (by decide) h (fun c484 h => ?_) (fun c484 h => ?_)
      · refine lv_iconst (v := 0) C.1 C.2.1 dL_act_491 (by decide) ?_
        refine lv_aload C.1 C.2.1 dL_act_492 (lv_at hl 5 rfl) ?_
        refine lv_iload C.1 C.2.1 dL_act_494 (lv_at hl 6 rfl) ?_
        refine h_ald2 C hK hT.1 h dL_act_496 (fun x496 h => ?_)
        refine lv_iconst (v := 2) C.1 C.2.1 dL_act_497 (by decide) ?_
        refine h_ild0 C hK hT.1 h dL_act_498 (fun x498 h => ?_)
        refine lv_iload C.1 C.2.1 dL_act_499 (lv_at hl 0 rfl) ?_
        refine lv_isub C.1 C.2.1 dL_act_501 ?_
        refine k_mmax C hl.1 (C.2.2.2.2 _ qM_L_56) (Nat.le_of_ble_eq_true rfl) (Nat.le_of_ble_eq_true rfl) (by show _ ≤ 3; omega) (by show _ ≤ 42; omega) dL_act_502 ?_
        exact J505 S Hp v4 v8 v9 v10 (1 + x471) (lmax 0 (x498 - (1 + x471))) h _ _ _ _ _ hT (by omega) (by omega) ls (lv_sub hl [1, 3, 4, 5, 6, 0] rfl)
      · refine lv_iconst (v := (-1)) C.1 C.2.1 dL_act_487 (by decide) ?_
        refine lv_goto (tgt := 505) C.1 C.2.1 dL_act_488 (by decide) ?_
        exact J505 S Hp v4 v8 v9 v10 (1 + x471) (-1) h _ _ _ _ _ hT (by omega) (by omega) ls (lv_sub hl [1, 3, 4, 5, 6, 0] rfl)
    · refine lv_aload C.1 C.2.1 dL_act_414 (lv_at hl 4 rfl) ?_
      refine lv_iload C.1 C.2.1 dL_act_416 (lv_at hl 5 rfl) ?_
      refine h_ald2 C hK hT.1 h dL_act_418 (fun x418 h => ?_)
      refine lv_iconst (v := 3) C.1 C.2.1 dL_act_419 (by decide) ?_
      refine lv_iconst (v := 1) C.1 C.2.1 dL_act_420 (by decide) ?_
      refine lv_aload C.1 C.2.1 dL_act_421 (lv_at hl 4 rfl) ?_
      refine lv_iload C.1 C.2.1 dL_act_423 (lv_at hl 5 rfl) ?_
      refine h_ald2 C hK hT.1 h dL_act_425 (fun x425 h => ?_)
      refine lv_iconst (v := 3) C.1 C.2.1 dL_act_426 (by decide) ?_
      refine h_ild0 C hK hT.1 h dL_act_427 (fun x427 h => ?_)
      refine lv_isub C.1 C.2.1 dL_act_428 ?_
      refine h_ist0 C hK hT h dL_act_429 (fun Hp429 H locs h hT => ?_)
      refine lv_aload_n C.1 C.2.1 dL_act_430 rfl (lv_at hl 0 rfl) ?_
      refine lv_iload C.1 C.2.1 dL_act_431 (lv_at hl 2 rfl) ?_
      refine lv_iload C.1 C.2.1 dL_act_433 (lv_at hl 3 rfl) ?_
      refine lv_iload C.1 C.2.1 dL_act_435 (lv_at hl 5 rfl) ?_
      refine x_TW C hK hA hE hT [.int v4, .int v8, .int v10] h (fun o e => tX0_withdraw hfl e) (cb_L_52 C.2.2.2.2 ⟨Nat.le_of_ble_eq_true rfl, Nat.le_of_ble_eq_true rfl⟩) rfl hl.1 (Nat.le_of_ble_eq_true rfl) ⟨(by show _ ≤ 3; omega), (by show _ ≤ 42; omega)⟩ dL_act_437 rfl (fun x437 S437 H locs h hT => ?_)
      refine lv_aload C.1 C.2.1 dL_act_440 (lv_at hl 4 rfl) ?_
      refine lv_iload C.1 C.2.1 dL_act_442 (lv_at hl 5 rfl) ?_
      refine h_ald2 C hK hT.1 h dL_act_444 (fun x444 h => ?_)
      refine lv_iconst (v := 3) C.1 C.2.1 dL_act_445 (by decide) ?_
      refine h_ild0 C hK hT.1 h dL_act_446 (fun x446 h => ?_)
      refine lv_iconst (v := 1) C.1 C.2.1 dL_act_447 (by decide) ?_
      refine k_icmp_ne (tgt := 455) C dL_act_448 (by decide) h (fun c448 h => ?_) (fun c448 h => ?_)
      · refine lv_iconst (v := 0) C.1 C.2.1 dL_act_455 (by decide) ?_
        refine k_icmp_ne (tgt := 463) C dL_act_456 (by decide) h (fun c456 h => ?_) (fun c456 h => ?_)
        · refine lv_iconst (v := 0) C.1 C.2.1 dL_act_463 (by decide) ?_
          obtain ⟨hg, h⟩ := gz_h h
          cases h
          exact h_zret C hr hlk hT (by omega) (by omega) hg dL_act_464
        · refine lv_iconst (v := 1) C.1 C.2.1 dL_act_459 (by decide) ?_
          refine lv_goto (tgt := 464) C.1 C.2.1 dL_act_460 (by decide) ?_
          obtain ⟨hg, h⟩ := gz_h h
          cases h
          exact h_zret C hr hlk hT (by omega) (by omega) hg dL_act_464
      · refine lv_iconst (v := 1) C.1 C.2.1 dL_act_451 (by decide) ?_
        refine lv_goto (tgt := 456) C.1 C.2.1 dL_act_452 (by decide) ?_
        refine k_icmp_ne (tgt := 463) C dL_act_456 (by decide) h (fun c456 h => ?_) (fun c456 h => ?_)
        · refine lv_iconst (v := 0) C.1 C.2.1 dL_act_463 (by decide) ?_
          obtain ⟨hg, h⟩ := gz_h h
          cases h
          exact h_zret C hr hlk hT (by omega) (by omega) hg dL_act_464
        · refine lv_iconst (v := 1) C.1 C.2.1 dL_act_459 (by decide) ?_
          refine lv_goto (tgt := 464) C.1 C.2.1 dL_act_460 (by decide) ?_
          obtain ⟨hg, h⟩ := gz_h h
          cases h
          exact h_zret C hr hlk hT (by omega) (by omega) hg dL_act_464
  have L354 : ∀ (S : XS) (Hp : HS) (v2 : Int32) (v4 : Int32) (v8 : Int32) (v9 : Nat) (n : Nat) (v10 : Int32) (v11 : Int32), itr2 (mL_act_F354 S Hp v2 v4 v8 v9) n v10 v11 = some z → ∀ (a : Nat → Nat) (H : Heap) (locs : List Loc) (cells slots : Nat) (hT : hST D k A s (wXk k ax S) a0 Hp0.length a Hp H locs) (hc : cells + 1 ≤ 3) (hsl : slots ≤ 14 * cells) (ls : Array Slot), lv_has ls 13 [(0, .ref (ax 0)), (2, .int v2), (4, .int v4), (8, .int v8), (9, .ref (a v9)), (10, .int v10), (11, .int v11)] → W p l e ({ frames := 10, cells := 3, slots := 42, locals := 181 }) s m args below meth c H locs cells slots (MQ below (hQi D k (wXk k ax z.2.1) a0 Hp0.length z.2.2 z.1 A) args s 3 42 A) (F0 m 354 ls []) := by
    intro S Hp v2 v4 v8 v9
    intro n
    refine itr2_indn (fun (n : Nat) (v10 : Int32) (v11 : Int32) => ∀ (a : Nat → Nat) (H : Heap) (locs : List Loc) (cells slots : Nat) (hT : hST D k A s (wXk k ax S) a0 Hp0.length a Hp H locs) (hc : cells + 1 ≤ 3) (hsl : slots ≤ 14 * cells) (ls : Array Slot), lv_has ls 13 [(0, .ref (ax 0)), (2, .int v2), (4, .int v4), (8, .int v8), (9, .ref (a v9)), (10, .int v10), (11, .int v11)] → W p l e ({ frames := 10, cells := 3, slots := 42, locals := 181 }) s m args below meth c H locs cells slots (MQ below (hQi D k (wXk k ax z.2.1) a0 Hp0.length z.2.2 z.1 A) args s 3 42 A) (F0 m 354 ls [])) ?_ n
    intro n354 ih hih v10 v11 h a H locs cells slots hT hc hsl ls hl
    unfold mL_act_F354 at h
    refine lv_iload C.1 C.2.1 dL_act_354 (lv_at hl 6 rfl) ?_
    refine lv_aload C.1 C.2.1 dL_act_356 (lv_at hl 4 rfl) ?_
    refine h_len2 C hK hT.1 h dL_act_358 (fun x358 h => ?_)
    refine k_icmp_ge (tgt := 403) C dL_act_359 (by decide) h (fun c359 h => ?_) (fun c359 h => ?_)
    · exact J403 S Hp v2 v4 v8 v9 v10 h _ _ _ _ _ hT (by omega) (by omega) ls (lv_sub hl [0, 1, 2, 3, 4, 5] rfl)
    · refine lv_iload_n C.1 C.2.1 dL_act_362 rfl (lv_at hl 1 rfl) ?_
      refine lv_iconst (v := 5) C.1 C.2.1 dL_act_363 (by decide) ?_
      refine lv_ishr C.1 C.2.1 dL_act_364 ?_
      refine lv_iconst (v := 4) C.1 C.2.1 dL_act_365 (by decide) ?_
      refine k_prS C [.int (v2 >>> (5 &&& 31)), .int 4] h (fun v e => tL_below e) (cb_L_15 C.2.2.2.2 ⟨Nat.le_of_ble_eq_true rfl, Nat.le_of_ble_eq_true rfl⟩) rfl hl.1 (Nat.le_of_ble_eq_true rfl) ⟨(by show _ ≤ 3; omega), (by show _ ≤ 42; omega)⟩ dL_act_366 rfl (fun x366 _ h => ?_)
      refine k_if_le (tgt := 403) C dL_act_369 (by decide) h (fun c369 h => ?_) (fun c369 h => ?_)
      · exact J403 S Hp v2 v4 v8 v9 v10 h _ _ _ _ _ hT (by omega) (by omega) ls (lv_sub hl [0, 1, 2, 3, 4, 5] rfl)
      · refine lv_aload C.1 C.2.1 dL_act_372 (lv_at hl 4 rfl) ?_
        refine lv_iload C.1 C.2.1 dL_act_374 (lv_at hl 6 rfl) ?_
        refine h_ald2 C hK hT.1 h dL_act_376 (fun x376 h => ?_)
        refine lv_iconst (v := 0) C.1 C.2.1 dL_act_377 (by decide) ?_
        refine h_ild0 C hK hT.1 h dL_act_378 (fun x378 h => ?_)
        refine lv_iconst (v := 2) C.1 C.2.1 dL_act_379 (by decide) ?_
        refine k_icmp_ne (tgt := 397) C dL_act_380 (by decide) h (fun c380 h => ?_) (fun c380 h => ?_)
        · refine lv_iinc (v := (v11 + 1)) (lv' := [(11, .int (v11 + 1)), (0, .ref (ax 0)), (2, .int v2), (4, .int v4), (8, .int v8), (9, .ref (a v9)), (10, .int v10)]) C.1 C.2.1 dL_act_397 hl (k := 6) rfl rfl (by decide) rfl (fun ls hl => ?_)
          refine lv_goto (tgt := 354) C.1 C.2.1 dL_act_400 (by decide) ?_
          exact hih v10 (v11 + 1) h _ _ _ _ _ hT (by omega) (by omega) ls (lv_sub hl [1, 2, 3, 4, 5, 6, 0] rfl)
        · refine lv_aload C.1 C.2.1 dL_act_383 (lv_at hl 4 rfl) ?_
          refine lv_iload C.1 C.2.1 dL_act_385 (lv_at hl 6 rfl) ?_
          refine h_ald2 C hK hT.1 h dL_act_387 (fun x387 h => ?_)
          refine lv_iconst (v := 2) C.1 C.2.1 dL_act_388 (by decide) ?_
          refine h_ild0 C hK hT.1 h dL_act_389 (fun x389 h => ?_)
          refine k_if_le (tgt := 397) C dL_act_390 (by decide) h (fun c390 h => ?_) (fun c390 h => ?_)
          · refine lv_iinc (v := (v11 + 1)) (lv' := [(11, .int (v11 + 1)), (0, .ref (ax 0)), (2, .int v2), (4, .int v4), (8, .int v8), (9, .ref (a v9)), (10, .int v10)]) C.1 C.2.1 dL_act_397 hl (k := 6) rfl rfl (by decide) rfl (fun ls hl => ?_)
            refine lv_goto (tgt := 354) C.1 C.2.1 dL_act_400 (by decide) ?_
            exact hih v10 (v11 + 1) h _ _ _ _ _ hT (by omega) (by omega) ls (lv_sub hl [1, 2, 3, 4, 5, 6, 0] rfl)
          · refine lv_iload C.1 C.2.1 dL_act_393 (lv_at hl 6 rfl) ?_
            refine lv_istore (lv' := [(10, .int v11), (0, .ref (ax 0)), (2, .int v2), (4, .int v4), (8, .int v8), (9, .ref (a v9)), (11, .int v11)]) C.1 C.2.1 dL_act_395 hl (by decide) rfl (fun ls hl => ?_)
            refine lv_iinc (v := (v11 + 1)) (lv' := [(11, .int (v11 + 1)), (10, .int v11), (0, .ref (ax 0)), (2, .int v2), (4, .int v4), (8, .int v8), (9, .ref (a v9))]) C.1 C.2.1 dL_act_397 hl (k := 6) rfl rfl (by decide) rfl (fun ls hl => ?_)
            refine lv_goto (tgt := 354) C.1 C.2.1 dL_act_400 (by decide) ?_
            exact hih v11 (v11 + 1) h _ _ _ _ _ hT (by omega) (by omega) ls (lv_sub hl [2, 3, 4, 5, 6, 1, 0] rfl)
  have J301 : ∀ (S : XS) (Hp : HS) (v1 : Nat) (v2 : Int32) (v4 : Int32) (v5 : Int32), mL_act_J301 S Hp v1 v2 v4 v5 = some z → ∀ (a : Nat → Nat) (H : Heap) (locs : List Loc) (cells slots : Nat) (hT : hST D k A s (wXk k ax S) a0 Hp0.length a Hp H locs) (hc : cells + 1 ≤ 3) (hsl : slots ≤ 14 * cells) (ls : Array Slot), lv_has ls 13 [(0, .ref (ax 0)), (1, .ref (a v1)), (2, .int v2), (4, .int v4), (5, .int v5)] → W p l e ({ frames := 10, cells := 3, slots := 42, locals := 181 }) s m args below meth c H locs cells slots (MQ below (hQi D k (wXk k ax z.2.1) a0 Hp0.length z.2.2 z.1 A) args s 3 42 A) (F0 m 301 ls []) := by
    intro S Hp v1 v2 v4 v5 h a H locs cells slots hT hc hsl ls hl
    unfold mL_act_J301 at h
    refine lv_iload C.1 C.2.1 dL_act_301 (lv_at hl 4 rfl) ?_
    refine k_if_ne (tgt := 308) C dL_act_303 (by decide) h (fun c303 h => ?_) (fun c303 h => ?_)
    · refine lv_iload_n C.1 C.2.1 dL_act_308 rfl (lv_at hl 2 rfl) ?_
      refine lv_bipush (v := 8) C.1 C.2.1 dL_act_309 (by decide) ?_
      refine lv_ishr C.1 C.2.1 dL_act_311 ?_
      refine lv_iload C.1 C.2.1 dL_act_312 (lv_at hl 4 rfl) ?_
      refine k_prS C [.int (v2 >>> (8 &&& 31)), .int v5] h (fun v e => tL_below e) (cb_L_15 C.2.2.2.2 ⟨Nat.le_of_ble_eq_true rfl, Nat.le_of_ble_eq_true rfl⟩) rfl hl.1 (Nat.le_of_ble_eq_true rfl) ⟨(by show _ ≤ 3; omega), (by show _ ≤ 42; omega)⟩ dL_act_314 rfl (fun x314 _ h => ?_)
      refine lv_istore (lv' := [(8, .int x314), (0, .ref (ax 0)), (1, .ref (a v1)), (2, .int v2), (4, .int v4), (5, .int v5)]) C.1 C.2.1 dL_act_317 hl (by decide) rfl (fun ls hl => ?_)
      refine lv_aload_n C.1 C.2.1 dL_act_319 rfl (lv_at hl 2 rfl) ?_
      refine h_get1 C hK qF_L_9 hT.1 h dL_act_320 (fun x320 h => ?_)
      refine lv_iload C.1 C.2.1 dL_act_323 (lv_at hl 4 rfl) ?_
      refine h_ald4 C hK hT.1 h dL_act_325 (fun x325 h => ?_)
      refine lv_iload C.1 C.2.1 dL_act_326 (lv_at hl 0 rfl) ?_
      refine h_ald3 C hK hT.1 h dL_act_328 (fun x328 h => ?_)
      refine lv_astore (lv' := [(9, .ref (a x328)), (8, .int x314), (0, .ref (ax 0)), (1, .ref (a v1)), (2, .int v2), (4, .int v4), (5, .int v5)]) C.1 C.2.1 dL_act_329 hl (by decide) rfl (fun ls hl => ?_)
      refine lv_aload C.1 C.2.1 dL_act_331 (lv_at hl 0 rfl) ?_
      refine h_len2 C hK hT.1 h dL_act_333 (fun x333 h => ?_)
      refine k_if_ne (tgt := 339) C dL_act_334 (by decide) h (fun c334 h => ?_) (fun c334 h => ?_)
      · refine lv_iload_n C.1 C.2.1 dL_act_339 rfl (lv_at hl 4 rfl) ?_
        refine lv_bipush (v := 6) C.1 C.2.1 dL_act_340 (by decide) ?_
        refine lv_ishr C.1 C.2.1 dL_act_342 ?_
        refine lv_aload C.1 C.2.1 dL_act_343 (lv_at hl 0 rfl) ?_
        refine h_len2 C hK hT.1 h dL_act_345 (fun x345 h => ?_)
        refine k_prS C [.int (v2 >>> (6 &&& 31)), .int x345] h (fun v e => tL_below e) (cb_L_15 C.2.2.2.2 ⟨Nat.le_of_ble_eq_true rfl, Nat.le_of_ble_eq_true rfl⟩) rfl hl.1 (Nat.le_of_ble_eq_true rfl) ⟨(by show _ ≤ 3; omega), (by show _ ≤ 42; omega)⟩ dL_act_346 rfl (fun x346 _ h => ?_)
        refine lv_istore (lv' := [(10, .int x346), (9, .ref (a x328)), (8, .int x314), (0, .ref (ax 0)), (1, .ref (a v1)), (2, .int v2), (4, .int v4), (5, .int v5)]) C.1 C.2.1 dL_act_349 hl (by decide) rfl (fun ls hl => ?_)
        refine lv_iconst (v := 0) C.1 C.2.1 dL_act_351 (by decide) ?_
        refine lv_istore (lv' := [(11, .int 0), (10, .int x346), (9, .ref (a x328)), (8, .int x314), (0, .ref (ax 0)), (1, .ref (a v1)), (2, .int v2), (4, .int v4), (5, .int v5)]) C.1 C.2.1 dL_act_352 hl (by decide) rfl (fun ls hl => ?_)
        exact L354 S Hp v2 v4 x314 x328 16 x346 0 h _ _ _ _ _ hT (by omega) (by omega) ls (lv_sub hl [4, 6, 7, 3, 2, 1, 0] rfl)
      · refine lv_iconst (v := 1) C.1 C.2.1 dL_act_337 (by decide) ?_
        obtain ⟨hg, h⟩ := gz_h h
        cases h
        exact h_zret C hr hlk hT (by omega) (by omega) hg dL_act_338
    · refine lv_iconst (v := 1) C.1 C.2.1 dL_act_306 (by decide) ?_
      obtain ⟨hg, h⟩ := gz_h h
      cases h
      exact h_zret C hr hlk hT (by omega) (by omega) hg dL_act_307
  have J741 : ∀ (S : XS) (Hp : HS) (v4 : Int32) (v7 : Int32) (v8 : Int32) (v9 : Int32) (v10 : Int32), mL_act_J741 S Hp v4 v7 v8 v9 v10 = some z → ∀ (a : Nat → Nat) (H : Heap) (locs : List Loc) (cells slots : Nat) (hT : hST D k A s (wXk k ax S) a0 Hp0.length a Hp H locs) (hc : cells + 1 ≤ 3) (hsl : slots ≤ 14 * cells) (ls : Array Slot), lv_has ls 13 [(0, .ref (ax 0)), (4, .int v4), (7, .int v7), (8, .int v8), (9, .int v9), (10, .int v10)] → W p l e ({ frames := 10, cells := 3, slots := 42, locals := 181 }) s m args below meth c H locs cells slots (MQ below (hQi D k (wXk k ax z.2.1) a0 Hp0.length z.2.2 z.1 A) args s 3 42 A) (F0 m 741 ls []) := by
    intro S Hp v4 v7 v8 v9 v10 h a H locs cells slots hT hc hsl ls hl
    unfold mL_act_J741 at h
    refine lv_aload_n C.1 C.2.1 dL_act_741 rfl (lv_at hl 0 rfl) ?_
    refine lv_iload C.1 C.2.1 dL_act_742 (lv_at hl 1 rfl) ?_
    refine lv_iload C.1 C.2.1 dL_act_744 (lv_at hl 3 rfl) ?_
    refine lv_iload C.1 C.2.1 dL_act_746 (lv_at hl 4 rfl) ?_
    refine lv_iload C.1 C.2.1 dL_act_748 (lv_at hl 5 rfl) ?_
    refine x_TC C hK hA hE hT [.int v4, .int v8, .int v9, .int v10] h (fun o e => tX0_cite hfl e) (cb_L_69 C.2.2.2.2 ⟨Nat.le_of_ble_eq_true rfl, Nat.le_of_ble_eq_true rfl⟩) rfl hl.1 (Nat.le_of_ble_eq_true rfl) ⟨(by show _ ≤ 3; omega), (by show _ ≤ 42; omega)⟩ dL_act_750 rfl (fun x750 S750 H locs h hT => ?_) (fun H locs q9 ce h hT hce hcv hcl => ?_)
    · refine lv_istore (lv' := [(6, .int x750), (0, .ref (ax 0)), (4, .int v4), (7, .int v7), (8, .int v8), (9, .int v9), (10, .int v10)]) C.1 C.2.1 dL_act_753 hl (by decide) rfl (fun ls hl => ?_)
      refine lv_goto (tgt := 763) C.1 C.2.1 dL_act_755 (by decide) ?_
      refine lv_iload C.1 C.2.1 dL_act_763 (lv_at hl 0 rfl) ?_
      refine lv_iload C.1 C.2.1 dL_act_765 (lv_at hl 3 rfl) ?_
      refine k_icmp_ne (tgt := 774) C dL_act_767 (by decide) h (fun c767 h => ?_) (fun c767 h => ?_)
      · refine lv_iconst (v := 0) C.1 C.2.1 dL_act_774 (by decide) ?_
        obtain ⟨hg, h⟩ := gz_h h
        cases h
        exact h_zret C hr hlk hT (by omega) (by omega) hg dL_act_775
      · refine lv_iconst (v := 1) C.1 C.2.1 dL_act_770 (by decide) ?_
        refine lv_goto (tgt := 775) C.1 C.2.1 dL_act_771 (by decide) ?_
        obtain ⟨hg, h⟩ := gz_h h
        cases h
        exact h_zret C hr hlk hT (by omega) (by omega) hg dL_act_775
    · refine vx_catch (name := "java/lang/IllegalStateException") C.2.2.2.1 [⟨162, 168, 171, 37⟩, ⟨214, 222, 225, 37⟩, ⟨521, 535, 538, 37⟩] ⟨741, 755, 758, 37⟩ [] (by rw [htab]; rfl) (fun z hz => Or.inl (by
        simp only [List.mem_cons, List.not_mem_nil, or_false] at hz
        rcases hz with rfl | rfl | rfl <;> decide)) (by decide) (by decide) (C.2.2.2.2 _ qK_L_37) (va_Nw.use rfl (hE.2.2.2.1 _ (List.mem_of_getElem? (i := 1) rfl))) hce hcv hcl ?_
      refine lv_astore (lv' := [(11, .ref q9), (0, .ref (ax 0)), (4, .int v4), (7, .int v7), (8, .int v8), (9, .int v9), (10, .int v10)]) C.1 C.2.1 dL_act_758 hl (by decide) rfl (fun ls hl => ?_)
      refine lv_iconst (v := (-1)) C.1 C.2.1 dL_act_760 (by decide) ?_
      refine lv_istore (lv' := [(6, .int (-1)), (11, .ref q9), (0, .ref (ax 0)), (4, .int v4), (7, .int v7), (8, .int v8), (9, .int v9), (10, .int v10)]) C.1 C.2.1 dL_act_761 hl (by decide) rfl (fun ls hl => ?_)
      refine lv_iload C.1 C.2.1 dL_act_763 (lv_at hl 0 rfl) ?_
      refine lv_iload C.1 C.2.1 dL_act_765 (lv_at hl 4 rfl) ?_
      refine k_icmp_ne (tgt := 774) C dL_act_767 (by decide) h (fun c767 h => ?_) (fun c767 h => ?_)
      · refine lv_iconst (v := 0) C.1 C.2.1 dL_act_774 (by decide) ?_
        obtain ⟨hg, h⟩ := gz_h h
        cases h
        exact h_zret C hr hlk hT (by omega) (by omega) hg dL_act_775
      · refine lv_iconst (v := 1) C.1 C.2.1 dL_act_770 (by decide) ?_
        refine lv_goto (tgt := 775) C.1 C.2.1 dL_act_771 (by decide) ?_
        obtain ⟨hg, h⟩ := gz_h h
        cases h
        exact h_zret C hr hlk hT (by omega) (by omega) hg dL_act_775
  have J732 : ∀ (S : XS) (Hp : HS) (v4 : Int32) (v7 : Int32) (v8 : Int32) (v9 : Int32) (v10 : Int32) (t0 : Int32) (t1 : Int32) (t2 : Nat) (t3 : Nat) (t4 : Nat) (t5 : Int32) (t6 : Nat), mL_act_J732 S Hp v4 v7 v8 v9 v10 t0 t1 t2 t3 t4 t5 t6 = some z → ∀ (a : Nat → Nat) (H : Heap) (locs : List Loc) (cells slots : Nat) (hT : hST D k A s (wXk k ax S) a0 Hp0.length a Hp H locs) (hc : cells + 2 ≤ 3) (hsl : slots ≤ 14 * cells) (ls : Array Slot), lv_has ls 13 [(0, .ref (ax 0)), (4, .int v4), (7, .int v7), (8, .int v8), (9, .int v9), (10, .int v10)] → W p l e ({ frames := 10, cells := 3, slots := 42, locals := 181 }) s m args below meth c H locs cells slots (MQ below (hQi D k (wXk k ax z.2.1) a0 Hp0.length z.2.2 z.1 A) args s 3 42 A) (F0 m 732 ls [.int t0, .int t1, .ref (a t2), .ref (a t3), .ref (a t4), .int t5, .ref (a t6)]) := by
    intro S Hp v4 v7 v8 v9 v10 t0 t1 t2 t3 t4 t5 t6 h a H locs cells slots hT hc hsl ls hl
    unfold mL_act_J732 at h
    refine h_ist0 C hK hT h dL_act_732 (fun Hp732 H locs h hT => ?_)
    refine lv_dup C.1 C.2.1 dL_act_733 rfl ?_
    refine lv_iconst (v := 3) C.1 C.2.1 dL_act_734 (by decide) ?_
    refine lv_iconst (v := 0) C.1 C.2.1 dL_act_735 (by decide) ?_
    refine h_ist0 C hK hT h dL_act_736 (fun Hp736 H locs h hT => ?_)
    refine h_cSr C hK hB hA hT [.ref (a t4), .ref (a t3)] h (fun v Hp2 e => tS_more (z := (v, Hp2)) e) (cb_L_65 C.2.2.2.2 ⟨Nat.le_of_ble_eq_true rfl, Nat.le_of_ble_eq_true rfl⟩) rfl hl.1 (Nat.le_of_ble_eq_true rfl) ⟨(by show _ ≤ 3; omega), (by show _ ≤ 42; omega)⟩ dL_act_737 rfl (fun x737 Hp737 a737 H locs h hT hag hrs => ?_)
    have hl : lv_has ls 13 [(0, .ref (ax 0)), (4, .int v4), (7, .int v7), (8, .int v8), (9, .int v9), (10, .int v10)] := by
      have hl : lv_has ls 13 [(0, .ref (ax 0)), (4, .int v4), (7, .int v7), (8, .int v8), (9, .int v9), (10, .int v10)] := lv_sub hl [0, 1, 2, 3, 4, 5] rfl
      exact hl
    refine h_stk (st' := [.ref (a737 x737), .int t5, .ref (a737 t6)]) (by simp only [hag _ (hrs _ (List.mem_of_getElem? (i := 0) rfl))]) ?_
    refine h_ast3 C hK hT hB h dL_act_740 (fun Hp740 H locs h hT => ?_)
    exact J741 S Hp740 v4 v7 v8 v9 v10 h _ _ _ _ _ hT (by omega) (by omega) ls (lv_sub hl [0, 1, 2, 3, 4, 5] rfl)
  have J679 : ∀ (S : XS) (Hp : HS) (v1 : Nat) (v4 : Int32) (v8 : Int32) (v9 : Int32) (v10 : Int32) (t0 : Int32), mL_act_J679 S Hp v1 v4 v8 v9 v10 t0 = some z → ∀ (a : Nat → Nat) (H : Heap) (locs : List Loc) (cells slots : Nat) (hT : hST D k A s (wXk k ax S) a0 Hp0.length a Hp H locs) (hc : cells + 3 ≤ 3) (hsl : slots ≤ 14 * cells) (ls : Array Slot), lv_has ls 13 [(0, .ref (ax 0)), (1, .ref (a v1)), (4, .int v4), (8, .int v8), (9, .int v9), (10, .int v10)] → W p l e ({ frames := 10, cells := 3, slots := 42, locals := 181 }) s m args below meth c H locs cells slots (MQ below (hQi D k (wXk k ax z.2.1) a0 Hp0.length z.2.2 z.1 A) args s 3 42 A) (F0 m 679 ls [.int t0]) := by
    intro S Hp v1 v4 v8 v9 v10 t0 h a H locs cells slots hT hc hsl ls hl
    unfold mL_act_J679 at h
    refine lv_istore (lv' := [(7, .int t0), (0, .ref (ax 0)), (1, .ref (a v1)), (4, .int v4), (8, .int v8), (9, .int v9), (10, .int v10)]) C.1 C.2.1 dL_act_679 hl (by decide) rfl (fun ls hl => ?_)
    refine lv_iload C.1 C.2.1 dL_act_681 (lv_at hl 0 rfl) ?_
    refine k_if_lt (tgt := 741) C dL_act_683 (by decide) h (fun c683 h => ?_) (fun c683 h => ?_)
    · exact J741 S Hp v4 t0 v8 v9 v10 h _ _ _ _ _ hT (by omega) (by omega) ls (lv_sub hl [1, 3, 0, 4, 5, 6] rfl)
    · refine lv_aload_n C.1 C.2.1 dL_act_686 rfl (lv_at hl 2 rfl) ?_
      refine h_get1 C hK qF_L_9 hT.1 h dL_act_687 (fun x687 h => ?_)
      refine lv_iload C.1 C.2.1 dL_act_690 (lv_at hl 3 rfl) ?_
      refine h_ald4 C hK hT.1 h dL_act_692 (fun x692 h => ?_)
      refine lv_iload C.1 C.2.1 dL_act_693 (lv_at hl 4 rfl) ?_
      refine lv_aload_n C.1 C.2.1 dL_act_695 rfl (lv_at hl 2 rfl) ?_
      refine h_get1 C hK qF_L_9 hT.1 h dL_act_696 (fun x696 h => ?_)
      refine lv_iload C.1 C.2.1 dL_act_699 (lv_at hl 3 rfl) ?_
      refine h_ald4 C hK hT.1 h dL_act_701 (fun x701 h => ?_)
      refine lv_iload C.1 C.2.1 dL_act_702 (lv_at hl 4 rfl) ?_
      refine h_ald3 C hK hT.1 h dL_act_704 (fun x704 h => ?_)
      refine lv_iconst (v := 4) C.1 C.2.1 dL_act_705 (by decide) ?_
      refine h_nw0 C hK hT hA (by show _ ≤ 3; omega) (by show _ ≤ 42; omega) h dL_act_706 (fun Hp706 x706 a706 H h hT hag hrs => ?_)
      have hl : lv_has ls 13 [(7, .int t0), (0, .ref (ax 0)), (4, .int v4), (8, .int v8), (9, .int v9), (10, .int v10)] := by
        have hl : lv_has ls 13 [(7, .int t0), (0, .ref (ax 0)), (4, .int v4), (8, .int v8), (9, .int v9), (10, .int v10)] := lv_sub hl [0, 1, 3, 4, 5, 6] rfl
        exact hl
      refine h_stk (st' := [.ref (a706 x706), .ref (a706 x704), .int v8, .ref (a706 x692)]) (by simp only [hag _ (hrs _ (List.mem_of_getElem? (i := 0) rfl)), hag _ (hrs _ (List.mem_of_getElem? (i := 1) rfl))]) ?_
      refine lv_dup C.1 C.2.1 dL_act_708 rfl ?_
      refine lv_iconst (v := 0) C.1 C.2.1 dL_act_709 (by decide) ?_
      refine lv_iload C.1 C.2.1 dL_act_710 (lv_at hl 4 rfl) ?_
      refine h_ist0 C hK hT h dL_act_712 (fun Hp712 H locs h hT => ?_)
      refine lv_dup C.1 C.2.1 dL_act_713 rfl ?_
      refine lv_iconst (v := 1) C.1 C.2.1 dL_act_714 (by decide) ?_
      refine lv_iload C.1 C.2.1 dL_act_715 (lv_at hl 5 rfl) ?_
      refine h_ist0 C hK hT h dL_act_717 (fun Hp717 H locs h hT => ?_)
      refine lv_dup C.1 C.2.1 dL_act_718 rfl ?_
      refine lv_iconst (v := 2) C.1 C.2.1 dL_act_719 (by decide) ?_
      refine lv_iload C.1 C.2.1 dL_act_720 (lv_at hl 4 rfl) ?_
      refine lv_iconst (v := 2) C.1 C.2.1 dL_act_722 (by decide) ?_
      refine k_icmp_ne (tgt := 731) C dL_act_723 (by decide) h (fun c723 h => ?_) (fun c723 h => ?_)
      · refine lv_iconst (v := 0) C.1 C.2.1 dL_act_731 (by decide) ?_
        exact J732 S Hp717 v4 t0 v8 v9 v10 0 2 x706 x706 x704 v8 x692 h _ _ _ _ _ hT (by omega) (by omega) ls (lv_sub hl [1, 2, 0, 3, 4, 5] rfl)
      · refine lv_iload C.1 C.2.1 dL_act_726 (lv_at hl 5 rfl) ?_
        refine lv_goto (tgt := 732) C.1 C.2.1 dL_act_728 (by decide) ?_
        exact J732 S Hp717 v4 t0 v8 v9 v10 v10 2 x706 x706 x704 v8 x692 h _ _ _ _ _ hT (by omega) (by omega) ls (lv_sub hl [1, 2, 0, 3, 4, 5] rfl)
  have J645 : ∀ (S : XS) (Hp : HS) (v1 : Nat) (v4 : Int32) (v8 : Int32) (v9 : Int32) (t0 : Int32), mL_act_J645 S Hp v1 v4 v8 v9 t0 = some z → ∀ (a : Nat → Nat) (H : Heap) (locs : List Loc) (cells slots : Nat) (hT : hST D k A s (wXk k ax S) a0 Hp0.length a Hp H locs) (hc : cells + 3 ≤ 3) (hsl : slots ≤ 14 * cells) (ls : Array Slot), lv_has ls 13 [(0, .ref (ax 0)), (1, .ref (a v1)), (4, .int v4), (8, .int v8), (9, .int v9)] → W p l e ({ frames := 10, cells := 3, slots := 42, locals := 181 }) s m args below meth c H locs cells slots (MQ below (hQi D k (wXk k ax z.2.1) a0 Hp0.length z.2.2 z.1 A) args s 3 42 A) (F0 m 645 ls [.int t0]) := by
    intro S Hp v1 v4 v8 v9 t0 h a H locs cells slots hT hc hsl ls hl
    unfold mL_act_J645 at h
    refine lv_istore (lv' := [(10, .int t0), (0, .ref (ax 0)), (1, .ref (a v1)), (4, .int v4), (8, .int v8), (9, .int v9)]) C.1 C.2.1 dL_act_645 hl (by decide) rfl (fun ls hl => ?_)
    refine lv_aload_n C.1 C.2.1 dL_act_647 rfl (lv_at hl 2 rfl) ?_
    refine h_get1 C hK qF_L_9 hT.1 h dL_act_648 (fun x648 h => ?_)
    refine lv_iload C.1 C.2.1 dL_act_651 (lv_at hl 3 rfl) ?_
    refine h_ald4 C hK hT.1 h dL_act_653 (fun x653 h => ?_)
    refine lv_iload C.1 C.2.1 dL_act_654 (lv_at hl 4 rfl) ?_
    refine h_ald3 C hK hT.1 h dL_act_656 (fun x656 h => ?_)
    refine h_len2 C hK hT.1 h dL_act_657 (fun x657 h => ?_)
    refine lv_iconst (v := 5) C.1 C.2.1 dL_act_658 (by decide) ?_
    refine k_icmp_ge (tgt := 678) C dL_act_659 (by decide) h (fun c659 h => ?_) (fun c659 h => ?_)
    · refine lv_iconst (v := (-1)) C.1 C.2.1 dL_act_678 (by decide) ?_
      exact J679 S Hp v1 v4 v8 v9 t0 (-1) h _ _ _ _ _ hT (by omega) (by omega) ls (lv_sub hl [1, 2, 3, 4, 5, 0] rfl)
    · refine lv_aload_n C.1 C.2.1 dL_act_662 rfl (lv_at hl 2 rfl) ?_
      refine h_get1 C hK qF_L_9 hT.1 h dL_act_663 (fun x663 h => ?_)
      refine lv_iload C.1 C.2.1 dL_act_666 (lv_at hl 3 rfl) ?_
      refine h_ald4 C hK hT.1 h dL_act_668 (fun x668 h => ?_)
      refine lv_iload C.1 C.2.1 dL_act_669 (lv_at hl 4 rfl) ?_
      refine h_ald3 C hK hT.1 h dL_act_671 (fun x671 h => ?_)
      refine h_len2 C hK hT.1 h dL_act_672 (fun x672 h => ?_)
      refine lv_iconst (v := 1) C.1 C.2.1 dL_act_673 (by decide) ?_
      refine lv_iadd C.1 C.2.1 dL_act_674 ?_
      refine lv_goto (tgt := 679) C.1 C.2.1 dL_act_675 (by decide) ?_
      exact J679 S Hp v1 v4 v8 v9 t0 (x672 + 1) h _ _ _ _ _ hT (by omega) (by omega) ls (lv_sub hl [1, 2, 3, 4, 5, 0] rfl)
  have J628 : ∀ (S : XS) (Hp : HS) (v1 : Nat) (v4 : Int32) (v8 : Int32) (v9 : Int32) (t0 : Int32) (t1 : Int32), mL_act_J628 S Hp v1 v4 v8 v9 t0 t1 = some z → ∀ (a : Nat → Nat) (H : Heap) (locs : List Loc) (cells slots : Nat) (hT : hST D k A s (wXk k ax S) a0 Hp0.length a Hp H locs) (hc : cells + 3 ≤ 3) (hsl : slots ≤ 14 * cells) (ls : Array Slot), lv_has ls 13 [(0, .ref (ax 0)), (1, .ref (a v1)), (4, .int v4), (8, .int v8), (9, .int v9)] → W p l e ({ frames := 10, cells := 3, slots := 42, locals := 181 }) s m args below meth c H locs cells slots (MQ below (hQi D k (wXk k ax z.2.1) a0 Hp0.length z.2.2 z.1 A) args s 3 42 A) (F0 m 628 ls [.int t0, .int t1]) := by
    intro S Hp v1 v4 v8 v9 t0 t1 h a H locs cells slots hT hc hsl ls hl
    unfold mL_act_J628 at h
    refine k_prS C [.int t1, .int t0] h (fun v e => tL_below e) (cb_L_15 C.2.2.2.2 ⟨Nat.le_of_ble_eq_true rfl, Nat.le_of_ble_eq_true rfl⟩) rfl hl.1 (Nat.le_of_ble_eq_true rfl) ⟨(by show _ ≤ 3; omega), (by show _ ≤ 42; omega)⟩ dL_act_628 rfl (fun x628 _ h => ?_)
    refine lv_goto (tgt := 645) C.1 C.2.1 dL_act_631 (by decide) ?_
    exact J645 S Hp v1 v4 v8 v9 x628 h _ _ _ _ _ hT (by omega) (by omega) ls (lv_sub hl [0, 1, 2, 3, 4] rfl)
  unfold mL_act at h
  refine lv_aload_n C.1 C.2.1 dL_act_0 rfl (lv_at hl 1 rfl) ?_
  refine h_get1 C hK qF_L_9 hT.1 h dL_act_1 (fun x1 h => ?_)
  refine h_len4 C hK hT.1 h dL_act_4 (fun x4 h => ?_)
  refine lv_istore_n (lv' := [(3, .int x4), (0, .ref (ax 0)), (1, .ref (a0 v1)), (2, .int v2)]) C.1 C.2.1 dL_act_5 rfl hl (by decide) rfl (fun ls hl => ?_)
  refine lv_iload_n C.1 C.2.1 dL_act_6 rfl (lv_at hl 3 rfl) ?_
  refine lv_iconst (v := 4) C.1 C.2.1 dL_act_7 (by decide) ?_
  refine lv_ishr C.1 C.2.1 dL_act_8 ?_
  refine lv_iload_n C.1 C.2.1 dL_act_9 rfl (lv_at hl 0 rfl) ?_
  refine k_prS C [.int (v2 >>> (4 &&& 31)), .int x4] h (fun v e => tL_below e) (cb_L_15 C.2.2.2.2 ⟨Nat.le_of_ble_eq_true rfl, Nat.le_of_ble_eq_true rfl⟩) rfl hl.1 (Nat.le_of_ble_eq_true rfl) ⟨(by show _ ≤ 3; omega), (by show _ ≤ 42; omega)⟩ dL_act_10 rfl (fun x10 _ h => ?_)
  refine lv_istore (lv' := [(4, .int x10), (3, .int x4), (0, .ref (ax 0)), (1, .ref (a0 v1)), (2, .int v2)]) C.1 C.2.1 dL_act_13 hl (by decide) rfl (fun ls hl => ?_)
  refine lv_aload_n C.1 C.2.1 dL_act_15 rfl (lv_at hl 3 rfl) ?_
  refine h_get1 C hK qF_L_9 hT.1 h dL_act_16 (fun x16 h => ?_)
  refine lv_iload C.1 C.2.1 dL_act_19 (lv_at hl 0 rfl) ?_
  refine h_ald4 C hK hT.1 h dL_act_21 (fun x21 h => ?_)
  refine h_len3 C hK hT.1 h dL_act_22 (fun x22 h => ?_)
  refine lv_istore (lv' := [(5, .int x22), (4, .int x10), (3, .int x4), (0, .ref (ax 0)), (1, .ref (a0 v1)), (2, .int v2)]) C.1 C.2.1 dL_act_23 hl (by decide) rfl (fun ls hl => ?_)
  refine lv_iload_n C.1 C.2.1 dL_act_25 rfl (lv_at hl 5 rfl) ?_
  refine lv_bipush (v := 16) C.1 C.2.1 dL_act_26 (by decide) ?_
  refine k_prS C [.int v2, .int 16] h (fun v e => tL_below e) (cb_L_15 C.2.2.2.2 ⟨Nat.le_of_ble_eq_true rfl, Nat.le_of_ble_eq_true rfl⟩) rfl hl.1 (Nat.le_of_ble_eq_true rfl) ⟨(by show _ ≤ 3; omega), (by show _ ≤ 42; omega)⟩ dL_act_28 rfl (fun x28 _ h => ?_)
  by_cases c31_0 : (x28 : Int32) = 0
  · have h := it_h h c31_0
    refine lv_tableIn (off := 45) (tgt := 76) C.1 C.2.1 dL_act_31 (by rw [c31_0]; decide) (by rw [c31_0]; decide) (by rw [c31_0]; rfl) (by decide) ?_
    refine lv_iload_n C.1 C.2.1 dL_act_76 rfl (lv_at hl 5 rfl) ?_
    refine lv_bipush (v := 6) C.1 C.2.1 dL_act_77 (by decide) ?_
    refine lv_ishr C.1 C.2.1 dL_act_79 ?_
    refine lv_iconst (v := 5) C.1 C.2.1 dL_act_80 (by decide) ?_
    refine k_prS C [.int (v2 >>> (6 &&& 31)), .int 5] h (fun v e => tL_below e) (cb_L_15 C.2.2.2.2 ⟨Nat.le_of_ble_eq_true rfl, Nat.le_of_ble_eq_true rfl⟩) rfl hl.1 (Nat.le_of_ble_eq_true rfl) ⟨(by show _ ≤ 3; omega), (by show _ ≤ 42; omega)⟩ dL_act_81 rfl (fun x81 _ h => ?_)
    refine lv_istore (lv' := [(8, .int x81), (5, .int x22), (4, .int x10), (3, .int x4), (0, .ref (ax 0)), (1, .ref (a0 v1)), (2, .int v2)]) C.1 C.2.1 dL_act_84 hl (by decide) rfl (fun ls hl => ?_)
    refine lv_iload_n C.1 C.2.1 dL_act_86 rfl (lv_at hl 6 rfl) ?_
    refine lv_iconst (v := 4) C.1 C.2.1 dL_act_87 (by decide) ?_
    refine lv_ishr C.1 C.2.1 dL_act_88 ?_
    refine lv_iconst (v := 3) C.1 C.2.1 dL_act_89 (by decide) ?_
    refine k_prS C [.int (v2 >>> (4 &&& 31)), .int 3] h (fun v e => tL_below e) (cb_L_15 C.2.2.2.2 ⟨Nat.le_of_ble_eq_true rfl, Nat.le_of_ble_eq_true rfl⟩) rfl hl.1 (Nat.le_of_ble_eq_true rfl) ⟨(by show _ ≤ 3; omega), (by show _ ≤ 42; omega)⟩ dL_act_90 rfl (fun x90 _ h => ?_)
    refine k_if_le (tgt := 100) C dL_act_93 (by decide) h (fun c93 h => ?_) (fun c93 h => ?_)
    · refine lv_iconst (v := 0) C.1 C.2.1 dL_act_100 (by decide) ?_
      exact J101 S0 Hp0 v1 x81 0 h _ _ _ _ _ hT (by omega) (by omega) ls (lv_sub hl [4, 5, 0] rfl)
    · refine lv_iconst (v := 1) C.1 C.2.1 dL_act_96 (by decide) ?_
      refine lv_goto (tgt := 101) C.1 C.2.1 dL_act_97 (by decide) ?_
      exact J101 S0 Hp0 v1 x81 1 h _ _ _ _ _ hT (by omega) (by omega) ls (lv_sub hl [4, 5, 0] rfl)
  · have h := if_h h c31_0
    by_cases c31_1 : (x28 : Int32) = 1
    · have h := it_h h c31_1
      refine lv_tableIn (off := 109) (tgt := 140) C.1 C.2.1 dL_act_31 (by rw [c31_1]; decide) (by rw [c31_1]; decide) (by rw [c31_1]; rfl) (by decide) ?_
      refine lv_iload_n C.1 C.2.1 dL_act_140 rfl (lv_at hl 2 rfl) ?_
      refine lv_bipush (v := 12) C.1 C.2.1 dL_act_141 (by decide) ?_
      refine k_icmp_ge (tgt := 150) C dL_act_143 (by decide) h (fun c143 h => ?_) (fun c143 h => ?_)
      · refine lv_iconst (v := (-1)) C.1 C.2.1 dL_act_150 (by decide) ?_
        exact J151 S0 Hp0 v1 (-1) h _ _ _ _ _ hT (by omega) (by omega) ls (lv_sub hl [3, 4] rfl)
      · refine lv_iload_n C.1 C.2.1 dL_act_146 rfl (lv_at hl 2 rfl) ?_
        refine lv_goto (tgt := 151) C.1 C.2.1 dL_act_147 (by decide) ?_
        exact J151 S0 Hp0 v1 x4 h _ _ _ _ _ hT (by omega) (by omega) ls (lv_sub hl [3, 4] rfl)
    · have h := if_h h c31_1
      by_cases c31_2 : (x28 : Int32) = 2
      · have h := it_h h c31_2
        refine lv_tableIn (off := 158) (tgt := 189) C.1 C.2.1 dL_act_31 (by rw [c31_2]; decide) (by rw [c31_2]; decide) (by rw [c31_2]; rfl) (by decide) ?_
        exact J189 S0 Hp0 v1 x10 x22 h _ _ _ _ _ hT (by omega) (by omega) ls (lv_sub hl [3, 4, 1, 0] rfl)
      · have h := if_h h c31_2
        by_cases c31_3 : (x28 : Int32) = 3
        · have h := it_h h c31_3
          refine lv_tableIn (off := 158) (tgt := 189) C.1 C.2.1 dL_act_31 (by rw [c31_3]; decide) (by rw [c31_3]; decide) (by rw [c31_3]; rfl) (by decide) ?_
          exact J189 S0 Hp0 v1 x10 x22 h _ _ _ _ _ hT (by omega) (by omega) ls (lv_sub hl [3, 4, 1, 0] rfl)
        · have h := if_h h c31_3
          by_cases c31_4 : (x28 : Int32) = 4
          · have h := it_h h c31_4
            refine lv_tableIn (off := 212) (tgt := 243) C.1 C.2.1 dL_act_31 (by rw [c31_4]; decide) (by rw [c31_4]; decide) (by rw [c31_4]; rfl) (by decide) ?_
            refine lv_iload C.1 C.2.1 dL_act_243 (lv_at hl 0 rfl) ?_
            refine k_if_eq (tgt := 259) C dL_act_245 (by decide) h (fun c245 h => ?_) (fun c245 h => ?_)
            · refine lv_iconst (v := 1) C.1 C.2.1 dL_act_259 (by decide) ?_
              obtain ⟨hg, h⟩ := gz_h h
              cases h
              exact h_zret C hr hlk hT (by omega) (by omega) hg dL_act_260
            · refine lv_iload_n C.1 C.2.1 dL_act_248 rfl (lv_at hl 5 rfl) ?_
              refine lv_bipush (v := 7) C.1 C.2.1 dL_act_249 (by decide) ?_
              refine lv_ishr C.1 C.2.1 dL_act_251 ?_
              refine lv_iconst (v := 3) C.1 C.2.1 dL_act_252 (by decide) ?_
              refine k_prS C [.int (v2 >>> (7 &&& 31)), .int 3] h (fun v e => tL_below e) (cb_L_15 C.2.2.2.2 ⟨Nat.le_of_ble_eq_true rfl, Nat.le_of_ble_eq_true rfl⟩) rfl hl.1 (Nat.le_of_ble_eq_true rfl) ⟨(by show _ ≤ 3; omega), (by show _ ≤ 42; omega)⟩ dL_act_253 rfl (fun x253 _ h => ?_)
              refine k_if_le (tgt := 261) C dL_act_256 (by decide) h (fun c256 h => ?_) (fun c256 h => ?_)
              · refine lv_iload_n C.1 C.2.1 dL_act_261 rfl (lv_at hl 5 rfl) ?_
                refine lv_bipush (v := 8) C.1 C.2.1 dL_act_262 (by decide) ?_
                refine lv_ishr C.1 C.2.1 dL_act_264 ?_
                refine lv_iload C.1 C.2.1 dL_act_265 (lv_at hl 0 rfl) ?_
                refine k_prS C [.int (v2 >>> (8 &&& 31)), .int x22] h (fun v e => tL_below e) (cb_L_15 C.2.2.2.2 ⟨Nat.le_of_ble_eq_true rfl, Nat.le_of_ble_eq_true rfl⟩) rfl hl.1 (Nat.le_of_ble_eq_true rfl) ⟨(by show _ ≤ 3; omega), (by show _ ≤ 42; omega)⟩ dL_act_267 rfl (fun x267 _ h => ?_)
                refine lv_istore (lv' := [(8, .int x267), (5, .int x22), (4, .int x10), (3, .int x4), (0, .ref (ax 0)), (1, .ref (a0 v1)), (2, .int v2)]) C.1 C.2.1 dL_act_270 hl (by decide) rfl (fun ls hl => ?_)
                refine lv_aload_n C.1 C.2.1 dL_act_272 rfl (lv_at hl 5 rfl) ?_
                refine lv_iload C.1 C.2.1 dL_act_273 (lv_at hl 2 rfl) ?_
                refine lv_iload C.1 C.2.1 dL_act_275 (lv_at hl 0 rfl) ?_
                refine h_cVv C hK hB hA hT [.int x10, .int x267] h (fun v Hp2 e => tS_strike (z := (v, Hp2)) e) (cb_L_46 C.2.2.2.2 ⟨Nat.le_of_ble_eq_true rfl, Nat.le_of_ble_eq_true rfl⟩) rfl hl.1 (Nat.le_of_ble_eq_true rfl) ⟨(by show _ ≤ 3; omega), (by show _ ≤ 42; omega)⟩ dL_act_277 rfl (fun x277 Hp277 a277 H locs h hT hag hrs => ?_)
                have hl : lv_has ls 13 [(8, .int x267), (5, .int x22), (4, .int x10), (0, .ref (ax 0))] := by
                  have hl : lv_has ls 13 [(8, .int x267), (5, .int x22), (4, .int x10), (0, .ref (ax 0))] := lv_sub hl [0, 1, 2, 4] rfl
                  exact hl
                refine lv_aload_n C.1 C.2.1 dL_act_280 rfl (lv_at hl 3 rfl) ?_
                refine lv_iload C.1 C.2.1 dL_act_281 (lv_at hl 2 rfl) ?_
                refine lv_iload C.1 C.2.1 dL_act_283 (lv_at hl 0 rfl) ?_
                refine x_TW C hK hA hE hT [.int x10, .int x267] h (fun o e => tX0_strike hfl e) (cb_L_50 C.2.2.2.2 ⟨Nat.le_of_ble_eq_true rfl, Nat.le_of_ble_eq_true rfl⟩) rfl hl.1 (Nat.le_of_ble_eq_true rfl) ⟨(by show _ ≤ 3; omega), (by show _ ≤ 42; omega)⟩ dL_act_285 rfl (fun x285 S285 H locs h hT => ?_)
                refine lv_iload C.1 C.2.1 dL_act_288 (lv_at hl 1 rfl) ?_
                refine lv_iconst (v := 1) C.1 C.2.1 dL_act_290 (by decide) ?_
                refine lv_isub C.1 C.2.1 dL_act_291 ?_
                refine k_icmp_ne (tgt := 299) C dL_act_292 (by decide) h (fun c292 h => ?_) (fun c292 h => ?_)
                · refine lv_iconst (v := 0) C.1 C.2.1 dL_act_299 (by decide) ?_
                  obtain ⟨hg, h⟩ := gz_h h
                  cases h
                  exact h_zret C hr hlk hT (by omega) (by omega) hg dL_act_300
                · refine lv_iconst (v := 1) C.1 C.2.1 dL_act_295 (by decide) ?_
                  refine lv_goto (tgt := 300) C.1 C.2.1 dL_act_296 (by decide) ?_
                  obtain ⟨hg, h⟩ := gz_h h
                  cases h
                  exact h_zret C hr hlk hT (by omega) (by omega) hg dL_act_300
              · refine lv_iconst (v := 1) C.1 C.2.1 dL_act_259 (by decide) ?_
                obtain ⟨hg, h⟩ := gz_h h
                cases h
                exact h_zret C hr hlk hT (by omega) (by omega) hg dL_act_260
          · have h := if_h h c31_4
            by_cases c31_5 : (x28 : Int32) = 5
            · have h := it_h h c31_5
              refine lv_tableIn (off := 270) (tgt := 301) C.1 C.2.1 dL_act_31 (by rw [c31_5]; decide) (by rw [c31_5]; decide) (by rw [c31_5]; rfl) (by decide) ?_
              exact J301 S0 Hp0 v1 v2 x10 x22 h _ _ _ _ _ hT (by omega) (by omega) ls (lv_sub hl [3, 4, 5, 1, 0] rfl)
            · have h := if_h h c31_5
              by_cases c31_6 : (x28 : Int32) = 6
              · have h := it_h h c31_6
                refine lv_tableIn (off := 270) (tgt := 301) C.1 C.2.1 dL_act_31 (by rw [c31_6]; decide) (by rw [c31_6]; decide) (by rw [c31_6]; rfl) (by decide) ?_
                exact J301 S0 Hp0 v1 v2 x10 x22 h _ _ _ _ _ hT (by omega) (by omega) ls (lv_sub hl [3, 4, 5, 1, 0] rfl)
              · have h := if_h h c31_6
                by_cases c31_7 : (x28 : Int32) = 7
                · have h := it_h h c31_7
                  refine lv_tableIn (off := 270) (tgt := 301) C.1 C.2.1 dL_act_31 (by rw [c31_7]; decide) (by rw [c31_7]; decide) (by rw [c31_7]; rfl) (by decide) ?_
                  exact J301 S0 Hp0 v1 v2 x10 x22 h _ _ _ _ _ hT (by omega) (by omega) ls (lv_sub hl [3, 4, 5, 1, 0] rfl)
                · have h := if_h h c31_7
                  have e31_0 := sw_ne (j := 0) c31_0 (by decide)
                  have e31_1 := sw_ne (j := 1) c31_1 (by decide)
                  have e31_2 := sw_ne (j := 2) c31_2 (by decide)
                  have e31_3 := sw_ne (j := 3) c31_3 (by decide)
                  have e31_4 := sw_ne (j := 4) c31_4 (by decide)
                  have e31_5 := sw_ne (j := 5) c31_5 (by decide)
                  have e31_6 := sw_ne (j := 6) c31_6 (by decide)
                  have e31_7 := sw_ne (j := 7) c31_7 (by decide)
                  refine lv_tableOut (tgt := 556) C.1 C.2.1 dL_act_31 (by omega) (by decide) ?_
                  refine lv_iload C.1 C.2.1 dL_act_556 (lv_at hl 0 rfl) ?_
                  refine k_if_ne (tgt := 563) C dL_act_558 (by decide) h (fun c558 h => ?_) (fun c558 h => ?_)
                  · refine lv_iload_n C.1 C.2.1 dL_act_563 rfl (lv_at hl 5 rfl) ?_
                    refine lv_bipush (v := 8) C.1 C.2.1 dL_act_564 (by decide) ?_
                    refine lv_ishr C.1 C.2.1 dL_act_566 ?_
                    refine lv_iload C.1 C.2.1 dL_act_567 (lv_at hl 0 rfl) ?_
                    refine k_prS C [.int (v2 >>> (8 &&& 31)), .int x22] h (fun v e => tL_below e) (cb_L_15 C.2.2.2.2 ⟨Nat.le_of_ble_eq_true rfl, Nat.le_of_ble_eq_true rfl⟩) rfl hl.1 (Nat.le_of_ble_eq_true rfl) ⟨(by show _ ≤ 3; omega), (by show _ ≤ 42; omega)⟩ dL_act_569 rfl (fun x569 _ h => ?_)
                    refine lv_istore (lv' := [(8, .int x569), (5, .int x22), (4, .int x10), (3, .int x4), (0, .ref (ax 0)), (1, .ref (a0 v1)), (2, .int v2)]) C.1 C.2.1 dL_act_572 hl (by decide) rfl (fun ls hl => ?_)
                    refine lv_iload_n C.1 C.2.1 dL_act_574 rfl (lv_at hl 6 rfl) ?_
                    refine lv_iconst (v := 5) C.1 C.2.1 dL_act_575 (by decide) ?_
                    refine lv_ishr C.1 C.2.1 dL_act_576 ?_
                    refine lv_iconst (v := 3) C.1 C.2.1 dL_act_577 (by decide) ?_
                    refine k_prS C [.int (v2 >>> (5 &&& 31)), .int 3] h (fun v e => tL_below e) (cb_L_15 C.2.2.2.2 ⟨Nat.le_of_ble_eq_true rfl, Nat.le_of_ble_eq_true rfl⟩) rfl hl.1 (Nat.le_of_ble_eq_true rfl) ⟨(by show _ ≤ 3; omega), (by show _ ≤ 42; omega)⟩ dL_act_578 rfl (fun x578 _ h => ?_)
                    refine lv_istore (lv' := [(9, .int x578), (8, .int x569), (5, .int x22), (4, .int x10), (3, .int x4), (0, .ref (ax 0)), (1, .ref (a0 v1)), (2, .int v2)]) C.1 C.2.1 dL_act_581 hl (by decide) rfl (fun ls hl => ?_)
                    refine lv_iload C.1 C.2.1 dL_act_583 (lv_at hl 0 rfl) ?_
                    refine k_if_ne (tgt := 599) C dL_act_585 (by decide) h (fun c585 h => ?_) (fun c585 h => ?_)
                    · refine lv_iload C.1 C.2.1 dL_act_599 (lv_at hl 0 rfl) ?_
                      refine lv_iconst (v := 1) C.1 C.2.1 dL_act_601 (by decide) ?_
                      refine k_icmp_ne (tgt := 634) C dL_act_602 (by decide) h (fun c602 h => ?_) (fun c602 h => ?_)
                      · refine lv_iconst (v := 1) C.1 C.2.1 dL_act_634 (by decide) ?_
                        refine lv_iload_n C.1 C.2.1 dL_act_635 rfl (lv_at hl 7 rfl) ?_
                        refine lv_bipush (v := 7) C.1 C.2.1 dL_act_636 (by decide) ?_
                        refine lv_ishr C.1 C.2.1 dL_act_638 ?_
                        refine lv_bipush (v := 9) C.1 C.2.1 dL_act_639 (by decide) ?_
                        refine k_prS C [.int (v2 >>> (7 &&& 31)), .int 9] h (fun v e => tL_below e) (cb_L_15 C.2.2.2.2 ⟨Nat.le_of_ble_eq_true rfl, Nat.le_of_ble_eq_true rfl⟩) rfl hl.1 (Nat.le_of_ble_eq_true rfl) ⟨(by show _ ≤ 3; omega), (by show _ ≤ 42; omega)⟩ dL_act_641 rfl (fun x641 _ h => ?_)
                        refine lv_iadd C.1 C.2.1 dL_act_644 ?_
                        exact J645 S0 Hp0 v1 x10 x569 x578 (1 + x641) h _ _ _ _ _ hT (by omega) (by omega) ls (lv_sub hl [5, 6, 3, 1, 0] rfl)
                      · refine lv_iload_n C.1 C.2.1 dL_act_605 rfl (lv_at hl 7 rfl) ?_
                        refine lv_bipush (v := 7) C.1 C.2.1 dL_act_606 (by decide) ?_
                        refine lv_ishr C.1 C.2.1 dL_act_608 ?_
                        refine lv_iload_n C.1 C.2.1 dL_act_609 rfl (lv_at hl 7 rfl) ?_
                        refine lv_bipush (v := 9) C.1 C.2.1 dL_act_610 (by decide) ?_
                        refine lv_ishr C.1 C.2.1 dL_act_612 ?_
                        refine lv_iconst (v := 2) C.1 C.2.1 dL_act_613 (by decide) ?_
                        refine k_prS C [.int (v2 >>> (9 &&& 31)), .int 2] h (fun v e => tL_below e) (cb_L_15 C.2.2.2.2 ⟨Nat.le_of_ble_eq_true rfl, Nat.le_of_ble_eq_true rfl⟩) rfl hl.1 (Nat.le_of_ble_eq_true rfl) ⟨(by show _ ≤ 3; omega), (by show _ ≤ 42; omega)⟩ dL_act_614 rfl (fun x614 _ h => ?_)
                        refine k_if_ne (tgt := 624) C dL_act_617 (by decide) h (fun c617 h => ?_) (fun c617 h => ?_)
                        · refine lv_iload C.1 C.2.1 dL_act_624 (lv_at hl 3 rfl) ?_
                          refine lv_iconst (v := 1) C.1 C.2.1 dL_act_626 (by decide) ?_
                          refine lv_iadd C.1 C.2.1 dL_act_627 ?_
                          exact J628 S0 Hp0 v1 x10 x569 x578 (x10 + 1) (v2 >>> (7 &&& 31)) h _ _ _ _ _ hT (by omega) (by omega) ls (lv_sub hl [5, 6, 3, 1, 0] rfl)
                        · refine lv_iload_n C.1 C.2.1 dL_act_620 rfl (lv_at hl 4 rfl) ?_
                          refine lv_goto (tgt := 628) C.1 C.2.1 dL_act_621 (by decide) ?_
                          exact J628 S0 Hp0 v1 x10 x569 x578 x4 (v2 >>> (7 &&& 31)) h _ _ _ _ _ hT (by omega) (by omega) ls (lv_sub hl [5, 6, 3, 1, 0] rfl)
                    · refine lv_iload_n C.1 C.2.1 dL_act_588 rfl (lv_at hl 7 rfl) ?_
                      refine lv_bipush (v := 7) C.1 C.2.1 dL_act_589 (by decide) ?_
                      refine lv_ishr C.1 C.2.1 dL_act_591 ?_
                      refine lv_iconst (v := 5) C.1 C.2.1 dL_act_592 (by decide) ?_
                      refine k_prS C [.int (v2 >>> (7 &&& 31)), .int 5] h (fun v e => tL_below e) (cb_L_15 C.2.2.2.2 ⟨Nat.le_of_ble_eq_true rfl, Nat.le_of_ble_eq_true rfl⟩) rfl hl.1 (Nat.le_of_ble_eq_true rfl) ⟨(by show _ ≤ 3; omega), (by show _ ≤ 42; omega)⟩ dL_act_593 rfl (fun x593 _ h => ?_)
                      refine lv_goto (tgt := 645) C.1 C.2.1 dL_act_596 (by decide) ?_
                      exact J645 S0 Hp0 v1 x10 x569 x578 x593 h _ _ _ _ _ hT (by omega) (by omega) ls (lv_sub hl [5, 6, 3, 1, 0] rfl)
                  · refine lv_iconst (v := 1) C.1 C.2.1 dL_act_561 (by decide) ?_
                    obtain ⟨hg, h⟩ := gz_h h
                    cases h
                    exact h_zret C hr hlk hT (by omega) (by omega) hg dL_act_562
set_option maxHeartbeats 8000000 in
set_option maxRecDepth 100000 in
theorem tL_build {l : Launch} {D : va_G} {k : Nat → ClassId} {a0 : Nat → Nat} {Hp0 : HS} {sz : Nat} {ax : Nat → Nat} {S0 : XS} {b L : Nat} {xs : Nat → Int32} {z : (Nat × (XS × HS))} (hfl : l.stackTraces = false) (hL : L ≤ 260) (h : mL_build S0 Hp0 xs L = some z) : Met l yL_build (Cond.code yL_build cL_build 11 (some (.object "LodgeProofsLaw$Sim")) :: WW) ({ frames := 9, cells := 12835, slots := 179690, locals := 166 }) (va_Pc [.ref (ax 0), .ref b] (hPreB D k (wXk k ax S0) a0 Hp0 b L xs sz)) (hQr D k (wXk k ax z.2.1) a0 Hp0.length z.2.2 z.1 (va_A (wXk k ax S0 ++ wH k a0 Hp0) sz)) 12835 179690 (va_A (wXk k ax S0 ++ wH k a0 Hp0) sz) := by
  refine LB_of (own := RL) (Qc := fun A => hQr D k (wXk k ax z.2.1) a0 Hp0.length z.2.2 z.1 A) (by decide) rfl (Nat.le_of_ble_eq_true rfl) ?_
  intro p e s m args below meth c A ha C hr hlk hK hB hA hT hE hX hbl hqA ls hl
  have hl : lv_has ls 11 [(0, .ref (ax 0)), (1, .ref b)] := hl
  have J263 : ∀ (n99 n66 n24 : Nat) (S : XS) (Hp : HS) (v2 : Nat) (v3 : Int32) (v4 : Int32) (v5 : Int32) (v6 : Int32) (v7 : Int32) (v9 : Int32) (v10 : Int32) (t0 : Int32) (t1 : Int32) (t2 : Nat) (t3 : Nat) (t4 : Nat) (t5 : Int32) (t6 : Nat) (kk : XS → HS → Int32 → Option (Nat × (XS × HS))) (hk : ∀ (S : XS) (Hp : HS) (v7 : Int32), kk S Hp v7 = some z → ∀ (a : Nat → Nat) (H : Heap) (locs : List Loc) (cells slots : Nat) (hT : hST D k A s (wXk k ax S) a0 Hp0.length a Hp H locs) (hc : cells + n99 * 3 + n66 * 50 + n24 * 802 ≤ 12835) (hsl : slots ≤ 14 * cells) (ls : Array Slot), lv_has ls 11 [(0, .ref (ax 0)), (1, .ref b), (2, .ref (a v2)), (3, .int v3), (4, .int v4), (5, .int v5), (6, .int v6), (7, .int v7)] → W p l e ({ frames := 9, cells := 12835, slots := 179690, locals := 166 }) s m args below meth c H locs cells slots (MQ below (hQr D k (wXk k ax z.2.1) a0 Hp0.length z.2.2 z.1 A) args s 12835 179690 A) (F0 m 99 ls [])), mL_build_J263 xs L kk S Hp v2 v3 v4 v5 v6 v7 v9 v10 t0 t1 t2 t3 t4 t5 t6 = some z → ∀ (a : Nat → Nat) (H : Heap) (locs : List Loc) (cells slots : Nat) (hT : hST D k A s (wXk k ax S) a0 Hp0.length a Hp H locs) (hc : cells + 2 + n99 * 3 + n66 * 50 + n24 * 802 ≤ 12835) (hsl : slots ≤ 14 * cells) (ls : Array Slot), lv_has ls 11 [(0, .ref (ax 0)), (1, .ref b), (2, .ref (a v2)), (3, .int v3), (4, .int v4), (5, .int v5), (6, .int v6), (7, .int v7), (9, .int v9), (10, .int v10)] → W p l e ({ frames := 9, cells := 12835, slots := 179690, locals := 166 }) s m args below meth c H locs cells slots (MQ below (hQr D k (wXk k ax z.2.1) a0 Hp0.length z.2.2 z.1 A) args s 12835 179690 A) (F0 m 263 ls [.int t0, .int t1, .ref (a t2), .ref (a t3), .ref (a t4), .int t5, .ref (a t6)]) := by
    intro n99 n66 n24 S Hp v2 v3 v4 v5 v6 v7 v9 v10 t0 t1 t2 t3 t4 t5 t6 kk hk h a H locs cells slots hT hc hsl ls hl
    unfold mL_build_J263 at h
    refine h_ist0 C hK hT h dL_build_263 (fun Hp263 H locs h hT => ?_)
    refine lv_dup C.1 C.2.1 dL_build_264 rfl ?_
    refine lv_iconst (v := 3) C.1 C.2.1 dL_build_265 (by decide) ?_
    refine lv_iconst (v := 0) C.1 C.2.1 dL_build_266 (by decide) ?_
    refine h_ist0 C hK hT h dL_build_267 (fun Hp267 H locs h hT => ?_)
    refine h_cSr C hK hB hA hT [.ref (a t4), .ref (a t3)] h (fun v Hp2 e => tS_more (z := (v, Hp2)) e) (cb_L_65 C.2.2.2.2 ⟨Nat.le_of_ble_eq_true rfl, Nat.le_of_ble_eq_true rfl⟩) rfl hl.1 (Nat.le_of_ble_eq_true rfl) ⟨(by show _ ≤ 12835; omega), (by show _ ≤ 179690; omega)⟩ dL_build_268 rfl (fun x268 Hp268 a268 H locs h hT hag hrs => ?_)
    have hl : lv_has ls 11 [(0, .ref (ax 0)), (1, .ref b), (2, .ref (a268 v2)), (3, .int v3), (4, .int v4), (5, .int v5), (6, .int v6), (7, .int v7), (9, .int v9), (10, .int v10)] := by
      have hl : lv_has ls 11 [(0, .ref (ax 0)), (1, .ref b), (2, .ref (a v2)), (3, .int v3), (4, .int v4), (5, .int v5), (6, .int v6), (7, .int v7), (9, .int v9), (10, .int v10)] := lv_sub hl [0, 1, 2, 3, 4, 5, 6, 7, 8, 9] rfl
      simpa only [hag _ (hrs _ (List.mem_of_getElem? (i := 0) rfl)), hag _ (hrs _ (List.mem_of_getElem? (i := 1) rfl))] using hl
    refine h_stk (st' := [.ref (a268 x268), .int t5, .ref (a268 t6)]) (by simp only [hag _ (hrs _ (List.mem_of_getElem? (i := 0) rfl)), hag _ (hrs _ (List.mem_of_getElem? (i := 1) rfl))]) ?_
    refine h_ast3 C hK hT hB h dL_build_271 (fun Hp271 H locs h hT => ?_)
    refine lv_aload_n C.1 C.2.1 dL_build_272 rfl (lv_at hl 0 rfl) ?_
    refine lv_iload C.1 C.2.1 dL_build_273 (lv_at hl 4 rfl) ?_
    refine lv_iload C.1 C.2.1 dL_build_275 (lv_at hl 6 rfl) ?_
    refine lv_iload C.1 C.2.1 dL_build_277 (lv_at hl 8 rfl) ?_
    refine lv_iload C.1 C.2.1 dL_build_279 (lv_at hl 9 rfl) ?_
    refine x_TW C hK hA hE hT [.int v4, .int v6, .int v9, .int v10] h (fun o e => tX0_cite hfl e) (cb_L_69 C.2.2.2.2 ⟨Nat.le_of_ble_eq_true rfl, Nat.le_of_ble_eq_true rfl⟩) rfl hl.1 (Nat.le_of_ble_eq_true rfl) ⟨(by show _ ≤ 12835; omega), (by show _ ≤ 179690; omega)⟩ dL_build_281 rfl (fun x281 S281 H locs h hT => ?_)
    refine lv_iload C.1 C.2.1 dL_build_284 (lv_at hl 7 rfl) ?_
    refine lv_iconst (v := 1) C.1 C.2.1 dL_build_286 (by decide) ?_
    refine lv_iadd C.1 C.2.1 dL_build_287 ?_
    refine k_icmp_eq (tgt := 293) C dL_build_288 (by decide) h (fun c288 h => ?_) (fun c288 h => ?_)
    · refine lv_iinc (v := (v7 + 1)) (lv' := [(7, .int (v7 + 1)), (0, .ref (ax 0)), (1, .ref b), (2, .ref (a268 v2)), (3, .int v3), (4, .int v4), (5, .int v5), (6, .int v6), (9, .int v9), (10, .int v10)]) C.1 C.2.1 dL_build_293 hl (k := 7) rfl rfl (by decide) rfl (fun ls hl => ?_)
      refine lv_goto (tgt := 99) C.1 C.2.1 dL_build_296 (by decide) ?_
      exact hk S281 Hp271 (v7 + 1) h _ _ _ _ _ hT (by omega) (by omega) ls (lv_sub hl [1, 2, 3, 4, 5, 6, 7, 0] rfl)
    · cases h
  have J215 : ∀ (n99 n66 n24 : Nat) (S : XS) (Hp : HS) (v2 : Nat) (v3 : Int32) (v4 : Int32) (v5 : Int32) (v6 : Int32) (v7 : Int32) (v9 : Int32) (t0 : Int32) (kk : XS → HS → Int32 → Option (Nat × (XS × HS))) (hk : ∀ (S : XS) (Hp : HS) (v7 : Int32), kk S Hp v7 = some z → ∀ (a : Nat → Nat) (H : Heap) (locs : List Loc) (cells slots : Nat) (hT : hST D k A s (wXk k ax S) a0 Hp0.length a Hp H locs) (hc : cells + n99 * 3 + n66 * 50 + n24 * 802 ≤ 12835) (hsl : slots ≤ 14 * cells) (ls : Array Slot), lv_has ls 11 [(0, .ref (ax 0)), (1, .ref b), (2, .ref (a v2)), (3, .int v3), (4, .int v4), (5, .int v5), (6, .int v6), (7, .int v7)] → W p l e ({ frames := 9, cells := 12835, slots := 179690, locals := 166 }) s m args below meth c H locs cells slots (MQ below (hQr D k (wXk k ax z.2.1) a0 Hp0.length z.2.2 z.1 A) args s 12835 179690 A) (F0 m 99 ls [])), mL_build_J215 xs L kk S Hp v2 v3 v4 v5 v6 v7 v9 t0 = some z → ∀ (a : Nat → Nat) (H : Heap) (locs : List Loc) (cells slots : Nat) (hT : hST D k A s (wXk k ax S) a0 Hp0.length a Hp H locs) (hc : cells + 3 + n99 * 3 + n66 * 50 + n24 * 802 ≤ 12835) (hsl : slots ≤ 14 * cells) (ls : Array Slot), lv_has ls 11 [(0, .ref (ax 0)), (1, .ref b), (2, .ref (a v2)), (3, .int v3), (4, .int v4), (5, .int v5), (6, .int v6), (7, .int v7), (9, .int v9)] → W p l e ({ frames := 9, cells := 12835, slots := 179690, locals := 166 }) s m args below meth c H locs cells slots (MQ below (hQr D k (wXk k ax z.2.1) a0 Hp0.length z.2.2 z.1 A) args s 12835 179690 A) (F0 m 215 ls [.int t0]) := by
    intro n99 n66 n24 S Hp v2 v3 v4 v5 v6 v7 v9 t0 kk hk h a H locs cells slots hT hc hsl ls hl
    unfold mL_build_J215 at h
    refine lv_istore (lv' := [(10, .int t0), (0, .ref (ax 0)), (1, .ref b), (2, .ref (a v2)), (3, .int v3), (4, .int v4), (5, .int v5), (6, .int v6), (7, .int v7), (9, .int v9)]) C.1 C.2.1 dL_build_215 hl (by decide) rfl (fun ls hl => ?_)
    refine lv_aload_n C.1 C.2.1 dL_build_217 rfl (lv_at hl 3 rfl) ?_
    refine h_get1 C hK qF_L_9 hT.1 h dL_build_218 (fun x218 h => ?_)
    refine lv_iload C.1 C.2.1 dL_build_221 (lv_at hl 5 rfl) ?_
    refine h_ald4 C hK hT.1 h dL_build_223 (fun x223 h => ?_)
    refine lv_iload C.1 C.2.1 dL_build_224 (lv_at hl 7 rfl) ?_
    refine lv_aload_n C.1 C.2.1 dL_build_226 rfl (lv_at hl 3 rfl) ?_
    refine h_get1 C hK qF_L_9 hT.1 h dL_build_227 (fun x227 h => ?_)
    refine lv_iload C.1 C.2.1 dL_build_230 (lv_at hl 5 rfl) ?_
    refine h_ald4 C hK hT.1 h dL_build_232 (fun x232 h => ?_)
    refine lv_iload C.1 C.2.1 dL_build_233 (lv_at hl 7 rfl) ?_
    refine h_ald3 C hK hT.1 h dL_build_235 (fun x235 h => ?_)
    refine lv_iconst (v := 4) C.1 C.2.1 dL_build_236 (by decide) ?_
    refine h_nw0 C hK hT hA (by show _ ≤ 12835; omega) (by show _ ≤ 179690; omega) h dL_build_237 (fun Hp237 x237 a237 H h hT hag hrs => ?_)
    have hl : lv_has ls 11 [(10, .int t0), (0, .ref (ax 0)), (1, .ref b), (2, .ref (a237 v2)), (3, .int v3), (4, .int v4), (5, .int v5), (6, .int v6), (7, .int v7), (9, .int v9)] := by
      have hl : lv_has ls 11 [(10, .int t0), (0, .ref (ax 0)), (1, .ref b), (2, .ref (a v2)), (3, .int v3), (4, .int v4), (5, .int v5), (6, .int v6), (7, .int v7), (9, .int v9)] := lv_sub hl [0, 1, 2, 3, 4, 5, 6, 7, 8, 9] rfl
      simpa only [hag _ (hrs _ (List.mem_of_getElem? (i := 0) rfl)), hag _ (hrs _ (List.mem_of_getElem? (i := 1) rfl)), hag _ (hrs _ (List.mem_of_getElem? (i := 2) rfl))] using hl
    refine h_stk (st' := [.ref (a237 x237), .ref (a237 x235), .int v6, .ref (a237 x223)]) (by simp only [hag _ (hrs _ (List.mem_of_getElem? (i := 0) rfl)), hag _ (hrs _ (List.mem_of_getElem? (i := 1) rfl)), hag _ (hrs _ (List.mem_of_getElem? (i := 2) rfl))]) ?_
    refine lv_dup C.1 C.2.1 dL_build_239 rfl ?_
    refine lv_iconst (v := 0) C.1 C.2.1 dL_build_240 (by decide) ?_
    refine lv_iload C.1 C.2.1 dL_build_241 (lv_at hl 9 rfl) ?_
    refine h_ist0 C hK hT h dL_build_243 (fun Hp243 H locs h hT => ?_)
    refine lv_dup C.1 C.2.1 dL_build_244 rfl ?_
    refine lv_iconst (v := 1) C.1 C.2.1 dL_build_245 (by decide) ?_
    refine lv_iload C.1 C.2.1 dL_build_246 (lv_at hl 0 rfl) ?_
    refine h_ist0 C hK hT h dL_build_248 (fun Hp248 H locs h hT => ?_)
    refine lv_dup C.1 C.2.1 dL_build_249 rfl ?_
    refine lv_iconst (v := 2) C.1 C.2.1 dL_build_250 (by decide) ?_
    refine lv_iload C.1 C.2.1 dL_build_251 (lv_at hl 9 rfl) ?_
    refine lv_iconst (v := 2) C.1 C.2.1 dL_build_253 (by decide) ?_
    refine k_icmp_ne (tgt := 262) C dL_build_254 (by decide) h (fun c254 h => ?_) (fun c254 h => ?_)
    · refine lv_iconst (v := 0) C.1 C.2.1 dL_build_262 (by decide) ?_
      exact J263 n99 n66 n24 S Hp248 v2 v3 v4 v5 v6 v7 v9 t0 0 2 x237 x237 x235 v6 x223 kk hk h _ _ _ _ _ hT (by omega) (by omega) ls (lv_sub hl [1, 2, 3, 4, 5, 6, 7, 8, 9, 0] rfl)
    · refine lv_iload C.1 C.2.1 dL_build_257 (lv_at hl 0 rfl) ?_
      refine lv_goto (tgt := 263) C.1 C.2.1 dL_build_259 (by decide) ?_
      exact J263 n99 n66 n24 S Hp248 v2 v3 v4 v5 v6 v7 v9 t0 t0 2 x237 x237 x235 v6 x223 kk hk h _ _ _ _ _ hT (by omega) (by omega) ls (lv_sub hl [1, 2, 3, 4, 5, 6, 7, 8, 9, 0] rfl)
  have J168 : ∀ (n99 n66 n24 : Nat) (S : XS) (Hp : HS) (v2 : Nat) (v3 : Int32) (v4 : Int32) (v5 : Int32) (v6 : Int32) (v7 : Int32) (v8 : Int32) (t0 : Int32) (kk : XS → HS → Int32 → Option (Nat × (XS × HS))) (hk : ∀ (S : XS) (Hp : HS) (v7 : Int32), kk S Hp v7 = some z → ∀ (a : Nat → Nat) (H : Heap) (locs : List Loc) (cells slots : Nat) (hT : hST D k A s (wXk k ax S) a0 Hp0.length a Hp H locs) (hc : cells + n99 * 3 + n66 * 50 + n24 * 802 ≤ 12835) (hsl : slots ≤ 14 * cells) (ls : Array Slot), lv_has ls 11 [(0, .ref (ax 0)), (1, .ref b), (2, .ref (a v2)), (3, .int v3), (4, .int v4), (5, .int v5), (6, .int v6), (7, .int v7)] → W p l e ({ frames := 9, cells := 12835, slots := 179690, locals := 166 }) s m args below meth c H locs cells slots (MQ below (hQr D k (wXk k ax z.2.1) a0 Hp0.length z.2.2 z.1 A) args s 12835 179690 A) (F0 m 99 ls [])), mL_build_J168 xs L kk S Hp v2 v3 v4 v5 v6 v7 v8 t0 = some z → ∀ (a : Nat → Nat) (H : Heap) (locs : List Loc) (cells slots : Nat) (hT : hST D k A s (wXk k ax S) a0 Hp0.length a Hp H locs) (hc : cells + 3 + n99 * 3 + n66 * 50 + n24 * 802 ≤ 12835) (hsl : slots ≤ 14 * cells) (ls : Array Slot), lv_has ls 11 [(0, .ref (ax 0)), (1, .ref b), (2, .ref (a v2)), (3, .int v3), (4, .int v4), (5, .int v5), (6, .int v6), (7, .int v7), (8, .int v8)] → W p l e ({ frames := 9, cells := 12835, slots := 179690, locals := 166 }) s m args below meth c H locs cells slots (MQ below (hQr D k (wXk k ax z.2.1) a0 Hp0.length z.2.2 z.1 A) args s 12835 179690 A) (F0 m 168 ls [.int t0]) := by
    intro n99 n66 n24 S Hp v2 v3 v4 v5 v6 v7 v8 t0 kk hk h a H locs cells slots hT hc hsl ls hl
    unfold mL_build_J168 at h
    refine lv_istore (lv' := [(9, .int t0), (0, .ref (ax 0)), (1, .ref b), (2, .ref (a v2)), (3, .int v3), (4, .int v4), (5, .int v5), (6, .int v6), (7, .int v7), (8, .int v8)]) C.1 C.2.1 dL_build_168 hl (by decide) rfl (fun ls hl => ?_)
    refine lv_iload C.1 C.2.1 dL_build_170 (lv_at hl 0 rfl) ?_
    refine k_if_ne (tgt := 186) C dL_build_172 (by decide) h (fun c172 h => ?_) (fun c172 h => ?_)
    · refine lv_iload C.1 C.2.1 dL_build_186 (lv_at hl 0 rfl) ?_
      refine lv_iconst (v := 1) C.1 C.2.1 dL_build_188 (by decide) ?_
      refine k_icmp_ne (tgt := 204) C dL_build_189 (by decide) h (fun c189 h => ?_) (fun c189 h => ?_)
      · refine lv_iconst (v := 1) C.1 C.2.1 dL_build_204 (by decide) ?_
        refine lv_iload C.1 C.2.1 dL_build_205 (lv_at hl 9 rfl) ?_
        refine lv_iconst (v := 2) C.1 C.2.1 dL_build_207 (by decide) ?_
        refine lv_ishr C.1 C.2.1 dL_build_208 ?_
        refine lv_bipush (v := 9) C.1 C.2.1 dL_build_209 (by decide) ?_
        refine k_prS C [.int (v8 >>> (2 &&& 31)), .int 9] h (fun v e => tL_below e) (cb_L_15 C.2.2.2.2 ⟨Nat.le_of_ble_eq_true rfl, Nat.le_of_ble_eq_true rfl⟩) rfl hl.1 (Nat.le_of_ble_eq_true rfl) ⟨(by show _ ≤ 12835; omega), (by show _ ≤ 179690; omega)⟩ dL_build_211 rfl (fun x211 _ h => ?_)
        refine lv_iadd C.1 C.2.1 dL_build_214 ?_
        exact J215 n99 n66 n24 S Hp v2 v3 v4 v5 v6 v7 t0 (1 + x211) kk hk h _ _ _ _ _ hT (by omega) (by omega) ls (lv_sub hl [1, 2, 3, 4, 5, 6, 7, 8, 0] rfl)
      · refine lv_iload C.1 C.2.1 dL_build_192 (lv_at hl 9 rfl) ?_
        refine lv_iconst (v := 3) C.1 C.2.1 dL_build_194 (by decide) ?_
        refine lv_ishr C.1 C.2.1 dL_build_195 ?_
        refine lv_iload C.1 C.2.1 dL_build_196 (lv_at hl 5 rfl) ?_
        refine k_prS C [.int (v8 >>> (3 &&& 31)), .int v4] h (fun v e => tL_below e) (cb_L_15 C.2.2.2.2 ⟨Nat.le_of_ble_eq_true rfl, Nat.le_of_ble_eq_true rfl⟩) rfl hl.1 (Nat.le_of_ble_eq_true rfl) ⟨(by show _ ≤ 12835; omega), (by show _ ≤ 179690; omega)⟩ dL_build_198 rfl (fun x198 _ h => ?_)
        refine lv_goto (tgt := 215) C.1 C.2.1 dL_build_201 (by decide) ?_
        exact J215 n99 n66 n24 S Hp v2 v3 v4 v5 v6 v7 t0 x198 kk hk h _ _ _ _ _ hT (by omega) (by omega) ls (lv_sub hl [1, 2, 3, 4, 5, 6, 7, 8, 0] rfl)
    · refine lv_iload C.1 C.2.1 dL_build_175 (lv_at hl 9 rfl) ?_
      refine lv_iconst (v := 2) C.1 C.2.1 dL_build_177 (by decide) ?_
      refine lv_ishr C.1 C.2.1 dL_build_178 ?_
      refine lv_iconst (v := 5) C.1 C.2.1 dL_build_179 (by decide) ?_
      refine k_prS C [.int (v8 >>> (2 &&& 31)), .int 5] h (fun v e => tL_below e) (cb_L_15 C.2.2.2.2 ⟨Nat.le_of_ble_eq_true rfl, Nat.le_of_ble_eq_true rfl⟩) rfl hl.1 (Nat.le_of_ble_eq_true rfl) ⟨(by show _ ≤ 12835; omega), (by show _ ≤ 179690; omega)⟩ dL_build_180 rfl (fun x180 _ h => ?_)
      refine lv_goto (tgt := 215) C.1 C.2.1 dL_build_183 (by decide) ?_
      exact J215 n99 n66 n24 S Hp v2 v3 v4 v5 v6 v7 t0 x180 kk hk h _ _ _ _ _ hT (by omega) (by omega) ls (lv_sub hl [1, 2, 3, 4, 5, 6, 7, 8, 0] rfl)
  have J167 : ∀ (n99 n66 n24 : Nat) (S : XS) (Hp : HS) (v2 : Nat) (v3 : Int32) (v4 : Int32) (v5 : Int32) (v6 : Int32) (v7 : Int32) (v8 : Int32) (kk : XS → HS → Int32 → Option (Nat × (XS × HS))) (hk : ∀ (S : XS) (Hp : HS) (v7 : Int32), kk S Hp v7 = some z → ∀ (a : Nat → Nat) (H : Heap) (locs : List Loc) (cells slots : Nat) (hT : hST D k A s (wXk k ax S) a0 Hp0.length a Hp H locs) (hc : cells + n99 * 3 + n66 * 50 + n24 * 802 ≤ 12835) (hsl : slots ≤ 14 * cells) (ls : Array Slot), lv_has ls 11 [(0, .ref (ax 0)), (1, .ref b), (2, .ref (a v2)), (3, .int v3), (4, .int v4), (5, .int v5), (6, .int v6), (7, .int v7)] → W p l e ({ frames := 9, cells := 12835, slots := 179690, locals := 166 }) s m args below meth c H locs cells slots (MQ below (hQr D k (wXk k ax z.2.1) a0 Hp0.length z.2.2 z.1 A) args s 12835 179690 A) (F0 m 99 ls [])), mL_build_J167 xs L kk S Hp v2 v3 v4 v5 v6 v7 v8 = some z → ∀ (a : Nat → Nat) (H : Heap) (locs : List Loc) (cells slots : Nat) (hT : hST D k A s (wXk k ax S) a0 Hp0.length a Hp H locs) (hc : cells + 3 + n99 * 3 + n66 * 50 + n24 * 802 ≤ 12835) (hsl : slots ≤ 14 * cells) (ls : Array Slot), lv_has ls 11 [(0, .ref (ax 0)), (1, .ref b), (2, .ref (a v2)), (3, .int v3), (4, .int v4), (5, .int v5), (6, .int v6), (7, .int v7), (8, .int v8)] → W p l e ({ frames := 9, cells := 12835, slots := 179690, locals := 166 }) s m args below meth c H locs cells slots (MQ below (hQr D k (wXk k ax z.2.1) a0 Hp0.length z.2.2 z.1 A) args s 12835 179690 A) (F0 m 167 ls []) := by
    intro n99 n66 n24 S Hp v2 v3 v4 v5 v6 v7 v8 kk hk h a H locs cells slots hT hc hsl ls hl
    unfold mL_build_J167 at h
    refine lv_iconst (v := 0) C.1 C.2.1 dL_build_167 (by decide) ?_
    exact J168 n99 n66 n24 S Hp v2 v3 v4 v5 v6 v7 v8 0 kk hk h _ _ _ _ _ hT (by omega) (by omega) ls (lv_sub hl [0, 1, 2, 3, 4, 5, 6, 7, 8] rfl)
  have L99 : ∀ (n66 n24 : Nat) (v2 : Nat) (v3 : Int32) (v4 : Int32) (v5 : Int32) (v6 : Int32) (kk : XS → HS → Int32 → Option (Nat × (XS × HS))) (hk : ∀ (S : XS) (Hp : HS) (v6 : Int32), kk S Hp v6 = some z → ∀ (a : Nat → Nat) (H : Heap) (locs : List Loc) (cells slots : Nat) (hT : hST D k A s (wXk k ax S) a0 Hp0.length a Hp H locs) (hc : cells + n66 * 50 + n24 * 802 ≤ 12835) (hsl : slots ≤ 14 * cells) (ls : Array Slot), lv_has ls 11 [(0, .ref (ax 0)), (1, .ref b), (2, .ref (a v2)), (3, .int v3), (4, .int v4), (5, .int v5), (6, .int v6)] → W p l e ({ frames := 9, cells := 12835, slots := 179690, locals := 166 }) s m args below meth c H locs cells slots (MQ below (hQr D k (wXk k ax z.2.1) a0 Hp0.length z.2.2 z.1 A) args s 12835 179690 A) (F0 m 66 ls [])) (n : Nat) (S : XS) (Hp : HS) (v7 : Int32), itr3 (mL_build_F99 xs L kk v2 v3 v4 v5 v6) n S Hp v7 = some z → ∀ (a : Nat → Nat) (H : Heap) (locs : List Loc) (cells slots : Nat) (hT : hST D k A s (wXk k ax S) a0 Hp0.length a Hp H locs) (hc : cells + n * 3 + n66 * 50 + n24 * 802 ≤ 12835) (hsl : slots ≤ 14 * cells) (ls : Array Slot), lv_has ls 11 [(0, .ref (ax 0)), (1, .ref b), (2, .ref (a v2)), (3, .int v3), (4, .int v4), (5, .int v5), (6, .int v6), (7, .int v7)] → W p l e ({ frames := 9, cells := 12835, slots := 179690, locals := 166 }) s m args below meth c H locs cells slots (MQ below (hQr D k (wXk k ax z.2.1) a0 Hp0.length z.2.2 z.1 A) args s 12835 179690 A) (F0 m 99 ls []) := by
    intro n66 n24 v2 v3 v4 v5 v6 kk hk
    intro n
    refine itr3_indn (fun (n : Nat) (S : XS) (Hp : HS) (v7 : Int32) => ∀ (a : Nat → Nat) (H : Heap) (locs : List Loc) (cells slots : Nat) (hT : hST D k A s (wXk k ax S) a0 Hp0.length a Hp H locs) (hc : cells + n * 3 + n66 * 50 + n24 * 802 ≤ 12835) (hsl : slots ≤ 14 * cells) (ls : Array Slot), lv_has ls 11 [(0, .ref (ax 0)), (1, .ref b), (2, .ref (a v2)), (3, .int v3), (4, .int v4), (5, .int v5), (6, .int v6), (7, .int v7)] → W p l e ({ frames := 9, cells := 12835, slots := 179690, locals := 166 }) s m args below meth c H locs cells slots (MQ below (hQr D k (wXk k ax z.2.1) a0 Hp0.length z.2.2 z.1 A) args s 12835 179690 A) (F0 m 99 ls [])) ?_ n
    intro n99 ih hih S Hp v7 h a H locs cells slots hT hc hsl ls hl
    unfold mL_build_F99 at h
    refine lv_iload C.1 C.2.1 dL_build_99 (lv_at hl 7 rfl) ?_
    refine lv_iload C.1 C.2.1 dL_build_101 (lv_at hl 5 rfl) ?_
    refine lv_iconst (v := 3) C.1 C.2.1 dL_build_103 (by decide) ?_
    refine lv_ishr C.1 C.2.1 dL_build_104 ?_
    refine lv_iload C.1 C.2.1 dL_build_105 (lv_at hl 6 rfl) ?_
    refine lv_iadd C.1 C.2.1 dL_build_107 ?_
    refine lv_iconst (v := 4) C.1 C.2.1 dL_build_108 (by decide) ?_
    refine k_prS C [.int ((v5 >>> (3 &&& 31)) + v6), .int 4] h (fun v e => tL_below e) (cb_L_15 C.2.2.2.2 ⟨Nat.le_of_ble_eq_true rfl, Nat.le_of_ble_eq_true rfl⟩) rfl hl.1 (Nat.le_of_ble_eq_true rfl) ⟨(by show _ ≤ 12835; omega), (by show _ ≤ 179690; omega)⟩ dL_build_109 rfl (fun x109 _ h => ?_)
    refine k_icmp_ge (tgt := 299) C dL_build_112 (by decide) h (fun c112 h => ?_) (fun c112 h => ?_)
    · refine lv_iinc (v := (v6 + 1)) (lv' := [(6, .int (v6 + 1)), (0, .ref (ax 0)), (1, .ref b), (2, .ref (a v2)), (3, .int v3), (4, .int v4), (5, .int v5), (7, .int v7)]) C.1 C.2.1 dL_build_299 hl (k := 6) rfl rfl (by decide) rfl (fun ls hl => ?_)
      refine lv_goto (tgt := 66) C.1 C.2.1 dL_build_302 (by decide) ?_
      exact hk S Hp (v6 + 1) h _ _ _ _ _ hT (by omega) (by omega) ls (lv_sub hl [1, 2, 3, 4, 5, 6, 0] rfl)
    · refine lv_iload C.1 C.2.1 dL_build_115 (lv_at hl 5 rfl) ?_
      refine lv_iconst (v := 2) C.1 C.2.1 dL_build_117 (by decide) ?_
      refine lv_iload C.1 C.2.1 dL_build_118 (lv_at hl 7 rfl) ?_
      refine lv_imul C.1 C.2.1 dL_build_120 ?_
      refine lv_ishr C.1 C.2.1 dL_build_121 ?_
      refine lv_iconst (v := 5) C.1 C.2.1 dL_build_122 (by decide) ?_
      refine lv_iload C.1 C.2.1 dL_build_123 (lv_at hl 6 rfl) ?_
      refine lv_imul C.1 C.2.1 dL_build_125 ?_
      refine lv_iadd C.1 C.2.1 dL_build_126 ?_
      refine lv_bipush (v := 7) C.1 C.2.1 dL_build_127 (by decide) ?_
      refine lv_iload C.1 C.2.1 dL_build_129 (lv_at hl 7 rfl) ?_
      refine lv_imul C.1 C.2.1 dL_build_131 ?_
      refine lv_iadd C.1 C.2.1 dL_build_132 ?_
      refine lv_istore (lv' := [(8, .int (((v5 >>> ((2 * v7) &&& 31)) + (5 * v6)) + (7 * v7))), (0, .ref (ax 0)), (1, .ref b), (2, .ref (a v2)), (3, .int v3), (4, .int v4), (5, .int v5), (6, .int v6), (7, .int v7)]) C.1 C.2.1 dL_build_133 hl (by decide) rfl (fun ls hl => ?_)
      refine lv_iload C.1 C.2.1 dL_build_135 (lv_at hl 0 rfl) ?_
      refine lv_bipush (v := 6) C.1 C.2.1 dL_build_137 (by decide) ?_
      refine k_prS C [.int (((v5 >>> ((2 * v7) &&& 31)) + (5 * v6)) + (7 * v7)), .int 6] h (fun v e => tL_below e) (cb_L_15 C.2.2.2.2 ⟨Nat.le_of_ble_eq_true rfl, Nat.le_of_ble_eq_true rfl⟩) rfl hl.1 (Nat.le_of_ble_eq_true rfl) ⟨(by show _ ≤ 12835; omega), (by show _ ≤ 179690; omega)⟩ dL_build_139 rfl (fun x139 _ h => ?_)
      refine k_if_ne (tgt := 149) C dL_build_142 (by decide) h (fun c142 h => ?_) (fun c142 h => ?_)
      · refine lv_iload C.1 C.2.1 dL_build_149 (lv_at hl 5 rfl) ?_
        refine k_if_le (tgt := 167) C dL_build_151 (by decide) h (fun c151 h => ?_) (fun c151 h => ?_)
        · exact J167 n99 n66 n24 S Hp v2 v3 v4 v5 v6 v7 (((v5 >>> ((2 * v7) &&& 31)) + (5 * v6)) + (7 * v7)) ih hih h _ _ _ _ _ hT (by omega) (by omega) ls (lv_sub hl [1, 2, 3, 4, 5, 6, 7, 8, 0] rfl)
        · refine lv_iload C.1 C.2.1 dL_build_154 (lv_at hl 0 rfl) ?_
          refine lv_iconst (v := 2) C.1 C.2.1 dL_build_156 (by decide) ?_
          refine k_prS C [.int (((v5 >>> ((2 * v7) &&& 31)) + (5 * v6)) + (7 * v7)), .int 2] h (fun v e => tL_below e) (cb_L_15 C.2.2.2.2 ⟨Nat.le_of_ble_eq_true rfl, Nat.le_of_ble_eq_true rfl⟩) rfl hl.1 (Nat.le_of_ble_eq_true rfl) ⟨(by show _ ≤ 12835; omega), (by show _ ≤ 179690; omega)⟩ dL_build_157 rfl (fun x157 _ h => ?_)
          refine k_if_ne (tgt := 167) C dL_build_160 (by decide) h (fun c160 h => ?_) (fun c160 h => ?_)
          · exact J167 n99 n66 n24 S Hp v2 v3 v4 v5 v6 v7 (((v5 >>> ((2 * v7) &&& 31)) + (5 * v6)) + (7 * v7)) ih hih h _ _ _ _ _ hT (by omega) (by omega) ls (lv_sub hl [1, 2, 3, 4, 5, 6, 7, 8, 0] rfl)
          · refine lv_iconst (v := 1) C.1 C.2.1 dL_build_163 (by decide) ?_
            refine lv_goto (tgt := 168) C.1 C.2.1 dL_build_164 (by decide) ?_
            exact J168 n99 n66 n24 S Hp v2 v3 v4 v5 v6 v7 (((v5 >>> ((2 * v7) &&& 31)) + (5 * v6)) + (7 * v7)) 1 ih hih h _ _ _ _ _ hT (by omega) (by omega) ls (lv_sub hl [1, 2, 3, 4, 5, 6, 7, 8, 0] rfl)
      · refine lv_iconst (v := 2) C.1 C.2.1 dL_build_145 (by decide) ?_
        refine lv_goto (tgt := 168) C.1 C.2.1 dL_build_146 (by decide) ?_
        exact J168 n99 n66 n24 S Hp v2 v3 v4 v5 v6 v7 (((v5 >>> ((2 * v7) &&& 31)) + (5 * v6)) + (7 * v7)) 2 ih hih h _ _ _ _ _ hT (by omega) (by omega) ls (lv_sub hl [1, 2, 3, 4, 5, 6, 7, 8, 0] rfl)
  have L66 : ∀ (n24 : Nat) (v2 : Nat) (v3 : Int32) (v4 : Int32) (v5 : Int32) (kk : XS → HS → Int32 → Option (Nat × (XS × HS))) (hk : ∀ (S : XS) (Hp : HS) (v4 : Int32), kk S Hp v4 = some z → ∀ (a : Nat → Nat) (H : Heap) (locs : List Loc) (cells slots : Nat) (hT : hST D k A s (wXk k ax S) a0 Hp0.length a Hp H locs) (hc : cells + n24 * 802 ≤ 12835) (hsl : slots ≤ 14 * cells) (ls : Array Slot), lv_has ls 11 [(0, .ref (ax 0)), (1, .ref b), (2, .ref (a v2)), (3, .int v3), (4, .int v4)] → W p l e ({ frames := 9, cells := 12835, slots := 179690, locals := 166 }) s m args below meth c H locs cells slots (MQ below (hQr D k (wXk k ax z.2.1) a0 Hp0.length z.2.2 z.1 A) args s 12835 179690 A) (F0 m 24 ls [])) (n : Nat) (S : XS) (Hp : HS) (v6 : Int32), itr3 (mL_build_F66 xs L kk v2 v3 v4 v5) n S Hp v6 = some z → ∀ (a : Nat → Nat) (H : Heap) (locs : List Loc) (cells slots : Nat) (hT : hST D k A s (wXk k ax S) a0 Hp0.length a Hp H locs) (hc : cells + n * 50 + n24 * 802 ≤ 12835) (hsl : slots ≤ 14 * cells) (ls : Array Slot), lv_has ls 11 [(0, .ref (ax 0)), (1, .ref b), (2, .ref (a v2)), (3, .int v3), (4, .int v4), (5, .int v5), (6, .int v6)] → W p l e ({ frames := 9, cells := 12835, slots := 179690, locals := 166 }) s m args below meth c H locs cells slots (MQ below (hQr D k (wXk k ax z.2.1) a0 Hp0.length z.2.2 z.1 A) args s 12835 179690 A) (F0 m 66 ls []) := by
    intro n24 v2 v3 v4 v5 kk hk
    intro n
    refine itr3_indn (fun (n : Nat) (S : XS) (Hp : HS) (v6 : Int32) => ∀ (a : Nat → Nat) (H : Heap) (locs : List Loc) (cells slots : Nat) (hT : hST D k A s (wXk k ax S) a0 Hp0.length a Hp H locs) (hc : cells + n * 50 + n24 * 802 ≤ 12835) (hsl : slots ≤ 14 * cells) (ls : Array Slot), lv_has ls 11 [(0, .ref (ax 0)), (1, .ref b), (2, .ref (a v2)), (3, .int v3), (4, .int v4), (5, .int v5), (6, .int v6)] → W p l e ({ frames := 9, cells := 12835, slots := 179690, locals := 166 }) s m args below meth c H locs cells slots (MQ below (hQr D k (wXk k ax z.2.1) a0 Hp0.length z.2.2 z.1 A) args s 12835 179690 A) (F0 m 66 ls [])) ?_ n
    intro n66 ih hih S Hp v6 h a H locs cells slots hT hc hsl ls hl
    unfold mL_build_F66 at h
    refine lv_iload C.1 C.2.1 dL_build_66 (lv_at hl 6 rfl) ?_
    refine lv_iload C.1 C.2.1 dL_build_68 (lv_at hl 5 rfl) ?_
    refine lv_iconst (v := 4) C.1 C.2.1 dL_build_70 (by decide) ?_
    refine k_prS C [.int v5, .int 4] h (fun v e => tL_below e) (cb_L_15 C.2.2.2.2 ⟨Nat.le_of_ble_eq_true rfl, Nat.le_of_ble_eq_true rfl⟩) rfl hl.1 (Nat.le_of_ble_eq_true rfl) ⟨(by show _ ≤ 12835; omega), (by show _ ≤ 179690; omega)⟩ dL_build_71 rfl (fun x71 _ h => ?_)
    refine k_icmp_ge (tgt := 305) C dL_build_74 (by decide) h (fun c74 h => ?_) (fun c74 h => ?_)
    · refine lv_iinc (v := (v4 + 1)) (lv' := [(4, .int (v4 + 1)), (0, .ref (ax 0)), (1, .ref b), (2, .ref (a v2)), (3, .int v3), (5, .int v5), (6, .int v6)]) C.1 C.2.1 dL_build_305 hl (k := 4) rfl rfl (by decide) rfl (fun ls hl => ?_)
      refine lv_goto (tgt := 24) C.1 C.2.1 dL_build_308 (by decide) ?_
      exact hk S Hp (v4 + 1) h _ _ _ _ _ hT (by omega) (by omega) ls (lv_sub hl [1, 2, 3, 4, 0] rfl)
    · refine lv_aload_n C.1 C.2.1 dL_build_77 rfl (lv_at hl 2 rfl) ?_
      refine lv_iload C.1 C.2.1 dL_build_78 (lv_at hl 4 rfl) ?_
      refine h_cVv C hK hB hA hT [.int v4] h (fun v Hp2 e => tS_proof (z := (v, Hp2)) e) (cb_L_39 C.2.2.2.2 ⟨Nat.le_of_ble_eq_true rfl, Nat.le_of_ble_eq_true rfl⟩) rfl hl.1 (Nat.le_of_ble_eq_true rfl) ⟨(by show _ ≤ 12835; omega), (by show _ ≤ 179690; omega)⟩ dL_build_80 rfl (fun x80 Hp80 a80 H locs h hT hag hrs => ?_)
      have hl : lv_has ls 11 [(0, .ref (ax 0)), (1, .ref b), (2, .ref (a80 v2)), (3, .int v3), (4, .int v4), (5, .int v5), (6, .int v6)] := by
        have hl : lv_has ls 11 [(0, .ref (ax 0)), (1, .ref b), (2, .ref (a v2)), (3, .int v3), (4, .int v4), (5, .int v5), (6, .int v6)] := lv_sub hl [0, 1, 2, 3, 4, 5, 6] rfl
        simpa only [hag _ (hrs _ (List.mem_of_getElem? (i := 0) rfl))] using hl
      refine lv_aload_n C.1 C.2.1 dL_build_83 rfl (lv_at hl 0 rfl) ?_
      refine lv_iload C.1 C.2.1 dL_build_84 (lv_at hl 4 rfl) ?_
      refine x_TW C hK hA hE hT [.int v4] h (fun o e => tX0_proof hfl e) (cb_L_43 C.2.2.2.2 ⟨Nat.le_of_ble_eq_true rfl, Nat.le_of_ble_eq_true rfl⟩) rfl hl.1 (Nat.le_of_ble_eq_true rfl) ⟨(by show _ ≤ 12835; omega), (by show _ ≤ 179690; omega)⟩ dL_build_86 rfl (fun x86 S86 H locs h hT => ?_)
      refine lv_iload C.1 C.2.1 dL_build_89 (lv_at hl 6 rfl) ?_
      refine k_icmp_eq (tgt := 96) C dL_build_91 (by decide) h (fun c91 h => ?_) (fun c91 h => ?_)
      · refine lv_iconst (v := 0) C.1 C.2.1 dL_build_96 (by decide) ?_
        refine lv_istore (lv' := [(7, .int 0), (0, .ref (ax 0)), (1, .ref b), (2, .ref (a80 v2)), (3, .int v3), (4, .int v4), (5, .int v5), (6, .int v6)]) C.1 C.2.1 dL_build_97 hl (by decide) rfl (fun ls hl => ?_)
        exact L99 n66 n24 v2 v3 v4 v5 v6 ih hih 16 S86 Hp80 0 h _ _ _ _ _ hT (by omega) (by omega) ls (lv_sub hl [1, 2, 3, 4, 5, 6, 7, 0] rfl)
      · cases h
  have L24 : ∀ (v2 : Nat) (v3 : Int32) (n : Nat) (S : XS) (Hp : HS) (v4 : Int32), itr3 (mL_build_F24 xs L v2 v3) n S Hp v4 = some z → ∀ (a : Nat → Nat) (H : Heap) (locs : List Loc) (cells slots : Nat) (hT : hST D k A s (wXk k ax S) a0 Hp0.length a Hp H locs) (hc : cells + n * 802 ≤ 12835) (hsl : slots ≤ 14 * cells) (ls : Array Slot), lv_has ls 11 [(0, .ref (ax 0)), (1, .ref b), (2, .ref (a v2)), (3, .int v3), (4, .int v4)] → W p l e ({ frames := 9, cells := 12835, slots := 179690, locals := 166 }) s m args below meth c H locs cells slots (MQ below (hQr D k (wXk k ax z.2.1) a0 Hp0.length z.2.2 z.1 A) args s 12835 179690 A) (F0 m 24 ls []) := by
    intro v2 v3
    intro n
    refine itr3_indn (fun (n : Nat) (S : XS) (Hp : HS) (v4 : Int32) => ∀ (a : Nat → Nat) (H : Heap) (locs : List Loc) (cells slots : Nat) (hT : hST D k A s (wXk k ax S) a0 Hp0.length a Hp H locs) (hc : cells + n * 802 ≤ 12835) (hsl : slots ≤ 14 * cells) (ls : Array Slot), lv_has ls 11 [(0, .ref (ax 0)), (1, .ref b), (2, .ref (a v2)), (3, .int v3), (4, .int v4)] → W p l e ({ frames := 9, cells := 12835, slots := 179690, locals := 166 }) s m args below meth c H locs cells slots (MQ below (hQr D k (wXk k ax z.2.1) a0 Hp0.length z.2.2 z.1 A) args s 12835 179690 A) (F0 m 24 ls [])) ?_ n
    intro n24 ih hih S Hp v4 h a H locs cells slots hT hc hsl ls hl
    unfold mL_build_F24 at h
    refine lv_iload C.1 C.2.1 dL_build_24 (lv_at hl 4 rfl) ?_
    refine lv_iload_n C.1 C.2.1 dL_build_26 rfl (lv_at hl 3 rfl) ?_
    refine k_icmp_ge (tgt := 311) C dL_build_27 (by decide) h (fun c27 h => ?_) (fun c27 h => ?_)
    · refine lv_aload_n C.1 C.2.1 dL_build_311 rfl (lv_at hl 2 rfl) ?_
      cases h
      exact h_aret C hr (Or.inl ⟨_, rfl⟩) hlk hT (by omega) (by omega) dL_build_312
    · refine lv_aload_n C.1 C.2.1 dL_build_30 rfl (lv_at hl 1 rfl) ?_
      refine lv_iconst (v := 1) C.1 C.2.1 dL_build_31 (by decide) ?_
      refine lv_iload C.1 C.2.1 dL_build_32 (lv_at hl 4 rfl) ?_
      refine lv_iadd C.1 C.2.1 dL_build_34 ?_
      refine k_scr C hX hbl hqA hT.2.2.1 [.ref b, .int (1 + v4)] h (fun v e => tL_cell hL e) (cb_L_73 C.2.2.2.2 ⟨Nat.le_of_ble_eq_true rfl, Nat.le_of_ble_eq_true rfl⟩) rfl hl.1 (Nat.le_of_ble_eq_true rfl) ⟨(by show _ ≤ 12835; omega), (by show _ ≤ 179690; omega)⟩ dL_build_35 rfl (fun x35 h => ?_)
      refine lv_iconst (v := 2) C.1 C.2.1 dL_build_38 (by decide) ?_
      refine lv_ishr C.1 C.2.1 dL_build_39 ?_
      refine lv_bipush (v := 13) C.1 C.2.1 dL_build_40 (by decide) ?_
      refine lv_iload C.1 C.2.1 dL_build_42 (lv_at hl 4 rfl) ?_
      refine lv_imul C.1 C.2.1 dL_build_44 ?_
      refine lv_iadd C.1 C.2.1 dL_build_45 ?_
      refine lv_istore (lv' := [(5, .int ((x35 >>> (2 &&& 31)) + (13 * v4))), (0, .ref (ax 0)), (1, .ref b), (2, .ref (a v2)), (3, .int v3), (4, .int v4)]) C.1 C.2.1 dL_build_46 hl (by decide) rfl (fun ls hl => ?_)
      refine lv_aload_n C.1 C.2.1 dL_build_48 rfl (lv_at hl 3 rfl) ?_
      refine h_cVv C hK hB hA hT [] h (fun v Hp2 e => tS_lemma (z := (v, Hp2)) e) (cb_L_31 C.2.2.2.2 ⟨Nat.le_of_ble_eq_true rfl, Nat.le_of_ble_eq_true rfl⟩) rfl hl.1 (Nat.le_of_ble_eq_true rfl) ⟨(by show _ ≤ 12835; omega), (by show _ ≤ 179690; omega)⟩ dL_build_49 rfl (fun x49 Hp49 a49 H locs h hT hag hrs => ?_)
      have hl : lv_has ls 11 [(5, .int ((x35 >>> (2 &&& 31)) + (13 * v4))), (0, .ref (ax 0)), (1, .ref b), (2, .ref (a49 v2)), (3, .int v3), (4, .int v4)] := by
        have hl : lv_has ls 11 [(5, .int ((x35 >>> (2 &&& 31)) + (13 * v4))), (0, .ref (ax 0)), (1, .ref b), (2, .ref (a v2)), (3, .int v3), (4, .int v4)] := lv_sub hl [0, 1, 2, 3, 4, 5] rfl
        simpa only [hag _ (hrs _ (List.mem_of_getElem? (i := 0) rfl))] using hl
      refine lv_aload_n C.1 C.2.1 dL_build_52 rfl (lv_at hl 1 rfl) ?_
      refine x_TW C hK hA hE hT [] h (fun o e => tX0_lemma hfl e) (cb_L_34 C.2.2.2.2 ⟨Nat.le_of_ble_eq_true rfl, Nat.le_of_ble_eq_true rfl⟩) rfl hl.1 (Nat.le_of_ble_eq_true rfl) ⟨(by show _ ≤ 12835; omega), (by show _ ≤ 179690; omega)⟩ dL_build_53 rfl (fun x53 S53 H locs h hT => ?_)
      refine lv_iload C.1 C.2.1 dL_build_56 (lv_at hl 5 rfl) ?_
      refine k_icmp_eq (tgt := 63) C dL_build_58 (by decide) h (fun c58 h => ?_) (fun c58 h => ?_)
      · refine lv_iconst (v := 0) C.1 C.2.1 dL_build_63 (by decide) ?_
        refine lv_istore (lv' := [(6, .int 0), (5, .int ((x35 >>> (2 &&& 31)) + (13 * v4))), (0, .ref (ax 0)), (1, .ref b), (2, .ref (a49 v2)), (3, .int v3), (4, .int v4)]) C.1 C.2.1 dL_build_64 hl (by decide) rfl (fun ls hl => ?_)
        exact L66 n24 v2 v3 v4 ((x35 >>> (2 &&& 31)) + (13 * v4)) ih hih 16 S53 Hp49 0 h _ _ _ _ _ hT (by omega) (by omega) ls (lv_sub hl [2, 3, 4, 5, 6, 1, 0] rfl)
      · cases h
  unfold mL_build at h
  refine h_newO C hK hT hA (by show _ ≤ 12835; omega) (by show _ ≤ 179690; omega) h dL_build_0 (fun Hp0 x0 a0 H h hT hag hrs => ?_)
  have hl : lv_has ls 11 [(0, .ref (ax 0)), (1, .ref b)] := by
    have hl : lv_has ls 11 [(0, .ref (ax 0)), (1, .ref b)] := lv_sub hl [0, 1] rfl
    exact hl
  refine lv_dup C.1 C.2.1 dL_build_3 rfl ?_
  refine h_cIv C hK hB hA hT [] h (fun v Hp2 e => tS_init (z := (v, Hp2)) e) (cb_L_72 C.2.2.2.2 hB ⟨Nat.le_of_ble_eq_true rfl, Nat.le_of_ble_eq_true rfl⟩) rfl hl.1 (Nat.le_of_ble_eq_true rfl) ⟨(by show _ ≤ 12835; omega), (by show _ ≤ 179690; omega)⟩ dL_build_4 rfl (fun x4 Hp4 a4 H locs h hT hag hrs => ?_)
  have hl : lv_has ls 11 [(0, .ref (ax 0)), (1, .ref b)] := by
    have hl : lv_has ls 11 [(0, .ref (ax 0)), (1, .ref b)] := lv_sub hl [0, 1] rfl
    exact hl
  refine h_stk (st' := [.ref (a4 x0)]) (by simp only [hag _ (hrs _ (List.mem_of_getElem? (i := 0) rfl))]) ?_
  refine lv_astore_n (lv' := [(2, .ref (a4 x0)), (0, .ref (ax 0)), (1, .ref b)]) C.1 C.2.1 dL_build_7 rfl hl (by decide) rfl (fun ls hl => ?_)
  refine lv_iconst (v := 1) C.1 C.2.1 dL_build_8 (by decide) ?_
  refine lv_aload_n C.1 C.2.1 dL_build_9 rfl (lv_at hl 2 rfl) ?_
  refine lv_iconst (v := 0) C.1 C.2.1 dL_build_10 (by decide) ?_
  refine k_scr C hX hbl hqA hT.2.2.1 [.ref b, .int 0] h (fun v e => tL_cell hL e) (cb_L_73 C.2.2.2.2 ⟨Nat.le_of_ble_eq_true rfl, Nat.le_of_ble_eq_true rfl⟩) rfl hl.1 (Nat.le_of_ble_eq_true rfl) ⟨(by show _ ≤ 12835; omega), (by show _ ≤ 179690; omega)⟩ dL_build_11 rfl (fun x11 h => ?_)
  refine lv_bipush (v := 12) C.1 C.2.1 dL_build_14 (by decide) ?_
  refine k_prS C [.int x11, .int 12] h (fun v e => tL_below e) (cb_L_15 C.2.2.2.2 ⟨Nat.le_of_ble_eq_true rfl, Nat.le_of_ble_eq_true rfl⟩) rfl hl.1 (Nat.le_of_ble_eq_true rfl) ⟨(by show _ ≤ 12835; omega), (by show _ ≤ 179690; omega)⟩ dL_build_16 rfl (fun x16 _ h => ?_)
  refine lv_iadd C.1 C.2.1 dL_build_19 ?_
  refine lv_istore_n (lv' := [(3, .int (1 + x16)), (2, .ref (a4 x0)), (0, .ref (ax 0)), (1, .ref b)]) C.1 C.2.1 dL_build_20 rfl hl (by decide) rfl (fun ls hl => ?_)
  refine lv_iconst (v := 0) C.1 C.2.1 dL_build_21 (by decide) ?_
  refine lv_istore (lv' := [(4, .int 0), (3, .int (1 + x16)), (2, .ref (a4 x0)), (0, .ref (ax 0)), (1, .ref b)]) C.1 C.2.1 dL_build_22 hl (by decide) rfl (fun ls hl => ?_)
  exact L24 x0 (1 + x16) 16 S0 Hp4 0 h _ _ _ _ _ hT (by omega) (by omega) ls (lv_sub hl [3, 4, 2, 1, 0] rfl)
end HMETL
