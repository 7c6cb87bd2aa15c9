section LAW
variable {p : Program} {l : Launch} {e : Env} {R : Room} {s : State} {m : MethodId} {args : Array Value} {below : List Frame} {meth : Method} {c : Code} {H : Heap} {locs : List Loc} {cells slots : Nat} {Q : State → Prop}
variable {pc nL : Nat} {ls : Array Slot} {rest : List Value} {cc : ByteArray} {own : String} {D : va_G} {tys : List (ClassId × FieldType)} {A : Nat → Prop} {H0 : Heap} {cI cZ cL : ClassId} {a am : Nat → Nat} {q : Nat} {S T : XS} {g : Nat → Int64} {ρ : Type} {z : ρ}
def rb3 (x : Option (Int32 × YS)) (K : Int32 → XS → (Nat → Int64) → Option ρ) : Option ρ := match x with
  | none => none
  | some (v, (s, g)) => K v s g
theorem rb3_h {x : Option (Int32 × YS)} {K : Int32 → XS → (Nat → Int64) → Option ρ} (h : rb3 x K = some z) : ∃ v s g, x = some (v, (s, g)) ∧ K v s g = some z := by
  match x, h with
  | some (v, (s, g)), h => exact ⟨v, s, g, rfl, h⟩
def excA (A : Nat → Prop) (U : State) : Prop := vx_Zq Bundle.tN "UNASSIGNED_STACK" Bundle.steD A U U.heap ∧ vx_Zq Bundle.tN "SUPPRESSED_SENTINEL" Bundle.listD A U U.heap ∧ (∀ q ∈ strL, ∃ a, vk_R RX0 q.1 q.2 a U) ∧ (∀ E ∈ exL, va_Nw (.castable E E) U) ∧ (∀ y ∈ dcL, va_Nw (.declares y) U) ∧ ncU U
theorem excA_at {U : State} (h : excA A s) (hS : va_S A s.heap H locs) (hU : U.heap = H) (hW : s.WarmedH U.vm) : excU U ∧ ncU U := by
  obtain ⟨h1, h2, h3, h4, h5, h6⟩ := h
  have k1 := (vx_Zq.kept h1 (H1 := H) (fun x hx hA => hS.2.1 x hx hA)).narrow (B := fun _ => False) (fun _ h => h.elim)
  have k2 := (vx_Zq.kept h2 (H1 := H) (fun x hx hA => hS.2.1 x hx hA)).narrow (B := fun _ => False) (fun _ h => h.elim)
  refine ⟨⟨by rw [hU]; exact vx_Zq.moved hW.alike k1, by rw [hU]; exact vx_Zq.moved hW.alike k2, fun q hq => ?_, fun E hE => va_Nw.warmC hW (h4 E hE), fun y hy => va_Nw.warmD hW (h5 y hy)⟩, fun E hE T hT hne => va_Nc.moved hW.alike (h6 E hE T hT hne)⟩
  obtain ⟨a, ha⟩ := h3 q hq
  exact ⟨a, vk_R.warm hW ha⟩
theorem ncU_calling {U : State} {g : JFrame} {mk : MethodId} {av : Array Value} (h : ncU U) : ncU (U.calling g mk av) := fun E hE T hT hne => va_Nc.moved (u := U) (U := U.calling g mk av) (Vm.Alike.refl U.vm) (h E hE T hT hne)
theorem k_sld (C : CallFix p m c cc nL s args WW own) {b L : Nat} {xs : Nat → Int32} (hX : va_X b L xs s H0) (hbl : b < H0.size) (hbA : ¬ A b) (hS : va_S A H0 H locs) {i : Int32} {K : Int32 → Option ρ} (h : (rdA xs L i).bind K = some z) (hdg : decode cc pc = .ok (.iaload, 1))
    (kk : vp_in i L → K (xs i.toNatClampNeg) = some z → W p l e R s m args below meth c H locs cells slots Q (F0 m (pc + 1) ls (.int (xs i.toNatClampNeg) :: rest))) : W p l e R s m args below meth c H locs cells slots Q (F0 m pc ls (.int i :: .ref b :: rest)) :=
  va_sld C.1 C.2.1 hX hbl hbA hS (rdA_h h).1 hdg (kk (rdA_h h).1 (rdA_h h).2)
theorem kL_wrap (C : CallFix p m c cc nL s args WW own) (hK : va_K D vwCl (ty3 cI cZ cL) s) (hPX : va_P D vwCl (wX cI cZ a S) H) (hPM : va_P D vwCl (wM cI cZ am T) H) (hPO : va_P D vwCl (wO cL q g) H) (hD : va_D A (wXO cI cZ cL a q (S, g) ++ wM cI cZ am T)) (hS : va_S A s.heap H locs) (hA : ∀ q, s.heap.size ≤ q → A q) (hE : excA A s) {idx n mL : Nat} {y : MethodName} {b : ByteArray} {ret : Option FieldType} {hh : List (Nat × Nat × Nat × Nat)} {rm : Room} (As : List Value) {f : Option (Int32 × YS)} {K : Int32 → XS → (Nat → Int64) → Option ρ} (h : rb3 f K = some z)
    (hM : ∀ v Y, f = some (v, Y) → Met l y (Cond.codeWith y b mL ret hh :: WW) rm (va_Pc As (fun U => rwP D (wXO cI cZ cL a q (S, g)) (ty3 cI cZ cL) H.size U ∧ excU U ∧ ncU U)) (rwQi D (wXO cI cZ cL a q Y) v (va_A (wXO cI cZ cL a q (S, g)) H.size)) 1 6 (va_A (wXO cI cZ cL a q (S, g)) H.size))
    (cw : vx_CSW R s args own idx y b mL ret hh (Cond.codeWith y b mL ret hh :: WW) rm 1 6 n) (hn : As.length = n) (hls : ls.size = nL) (hst : (rest.map fun v => v.category).sum ≤ 8) (hf : cells + 1 ≤ R.cells ∧ slots + 6 ≤ R.slots) (hdg : decode cc pc = .ok (.invokestatic idx, 3)) {st : List Value} (hstk : st = As.reverse ++ rest)
    (kk : ∀ v S2 g2 H1 locs1, f = some (v, (S2, g2)) → K v S2 g2 = some z → va_P D vwCl (wX cI cZ a S2) H1 → va_P D vwCl (wM cI cZ am T) H1 → va_P D vwCl (wO cL q g2) H1 → va_S A s.heap H1 locs1 → W p l e R s m args below meth c H1 locs1 (cells + 1) (slots + 6) Q (F0 m (pc + 3) ls (.int v :: rest))) : W p l e R s m args below meth c H locs cells slots Q (F0 m pc ls st) := by
  obtain ⟨v, S2, g2, e1, e2⟩ := rb3_h h
  have hP : va_P D vwCl (wXO cI cZ cL a q (S, g)) H := va_P.app hPX hPO
  have hDx := D_left hD
  have hF := A_sub hDx hS hA
  refine va_calli (vx_runSW (As := As) (rest := rest) C (hM v (S2, g2) e1) cw ⟨(fun a U g mk q => ⟨q.1, ⟨q.2.1.1, q.2.1.2.1, va_K.moved (u := U) (U := U.calling g mk a) (Vm.Alike.refl U.vm) q.2.1.2.2.1, q.2.1.2.2.2⟩, excU_calling q.2.2.1, ncU_calling q.2.2.2⟩), fun U hU hW => ⟨rfl, ⟨by rw [hU], by rw [hU]; exact hP, hK.moved hW.alike, hDx.weaken (fun _ _ _ _ => trivial)⟩, excA_at hE hS hU hW⟩⟩ rfl hn hls hstk (lv_room hst) hdg hf) hS (fun q _ h => hF q h) hF (fun r u t H1 locs1 ht _ hw1 hB _ hk1 hS1 => ?_)
  subst hw1
  have hP1 : va_P D vwCl (wXO cI cZ cL a q (S2, g2)) H1 := ht ▸ hB
  exact kk _ S2 g2 H1 locs1 e1 e2 (P_left hP1) (P_keep hPM (D_dis hD) hk1) (P_right (w1 := wX cI cZ a S2) hP1) hS1
theorem k_rwRi (C : CallFix p m c cc nL s args WW own) {w : XS → va_W} {S : XS} {wr : va_W} (hK : va_K D vwCl tys s) (hP : va_P D vwCl (w S) H) (hR : va_P D vwCl wr H) (hD : va_D A (w S ++ wr)) (hS : va_S A H0 H locs) (hA : ∀ q, H0.size ≤ q → A q) {CL : String} {idx n mL a0 : Nat} {y : MethodName} {b : ByteArray} {ret : Option FieldType} {rm : Room} (As : List Value) (hrv : ∃ cellB : Cell, H[a0]? = some cellB ∧ cellB.vm.isStatics = false ∧ s.vm.findClass CL = some cellB.cls) {f : Option (Int32 × XS)} {K : Int32 → XS → Option ρ} (h : rb f K = some z)
    (hM : ∀ v S2, f = some (v, S2) → Met l y (Cond.code y b mL ret :: WW) rm (va_Pc (.ref a0 :: As) (rwP D (w S) tys H.size)) (rwQi D (w S2) v (va_A (w S) H.size)) 0 0 (va_A (w S) H.size))
    (cw : CallW R s args own CL idx y b mL ret (Cond.code y b mL ret :: WW) rm 0 0 n) (hn : As.length = n) (hls : ls.size = nL) (hst : (rest.map fun v => v.category).sum ≤ 8) (hf : cells + 0 ≤ R.cells ∧ slots + 0 ≤ R.slots) (hdg : decode cc pc = .ok (.invokevirtual idx, 3)) {st : List Value} (hstk : st = As.reverse ++ .ref a0 :: rest)
    (kk : ∀ v S2 H1 locs1, f = some (v, S2) → K v S2 = some z → va_P D vwCl (w S2) H1 → va_P D vwCl wr H1 → va_S A H0 H1 locs1 → W p l e R s m args below meth c H1 locs1 cells slots Q (F0 m (pc + 3) ls (.int v :: rest))) : W p l e R s m args below meth c H locs cells slots Q (F0 m pc ls st) := by
  obtain ⟨v, S2, e1, e2⟩ := rb_h h
  have hDx := D_left hD
  have hF := A_sub hDx hS hA
  refine va_calli (va_runV (As := As) (rest := rest) C (hM v S2 e1) cw ⟨rwP_blind, hrv, fun U hU hW => ⟨rfl, by rw [hU], by rw [hU]; exact hP, hK.moved hW.alike, hDx.weaken (fun _ _ _ _ => trivial)⟩⟩ rfl hn hls hstk (lv_room hst) hdg hf) hS (fun q _ h => hF q h) hF (fun r u t H1 locs1 ht _ hw1 hB _ hk1 hS1 => ?_)
  subst hw1
  exact kk _ S2 H1 locs1 e1 e2 (ht ▸ hB) (P_keep hR (D_dis hD) hk1) hS1
theorem k_rwRl (C : CallFix p m c cc nL s args WW own) {w : XS → va_W} {S : XS} {wr : va_W} (hK : va_K D vwCl tys s) (hP : va_P D vwCl (w S) H) (hR : va_P D vwCl wr H) (hD : va_D A (w S ++ wr)) (hS : va_S A H0 H locs) (hA : ∀ q, H0.size ≤ q → A q) {CL : String} {idx n mL a0 : Nat} {y : MethodName} {b : ByteArray} {ret : Option FieldType} {rm : Room} (As : List Value) (hrv : ∃ cellB : Cell, H[a0]? = some cellB ∧ cellB.vm.isStatics = false ∧ s.vm.findClass CL = some cellB.cls) {f : Option (Int64 × XS)} {K : Int64 → XS → Option ρ} (h : rb f K = some z)
    (hM : ∀ v S2, f = some (v, S2) → Met l y (Cond.code y b mL ret :: WW) rm (va_Pc (.ref a0 :: As) (rwP D (w S) tys H.size)) (rwQl D (w S2) v (va_A (w S) H.size)) 0 0 (va_A (w S) H.size))
    (cw : CallW R s args own CL idx y b mL ret (Cond.code y b mL ret :: WW) rm 0 0 n) (hn : As.length = n) (hls : ls.size = nL) (hst : (rest.map fun v => v.category).sum ≤ 8) (hf : cells + 0 ≤ R.cells ∧ slots + 0 ≤ R.slots) (hdg : decode cc pc = .ok (.invokevirtual idx, 3)) {st : List Value} (hstk : st = As.reverse ++ .ref a0 :: rest)
    (kk : ∀ v S2 H1 locs1, f = some (v, S2) → K v S2 = some z → va_P D vwCl (w S2) H1 → va_P D vwCl wr H1 → va_S A H0 H1 locs1 → W p l e R s m args below meth c H1 locs1 cells slots Q (F0 m (pc + 3) ls (.long v :: rest))) : W p l e R s m args below meth c H locs cells slots Q (F0 m pc ls st) := by
  obtain ⟨v, S2, e1, e2⟩ := rb_h h
  have hDx := D_left hD
  have hF := A_sub hDx hS hA
  refine va_calll (va_runV (As := As) (rest := rest) C (hM v S2 e1) cw ⟨rwP_blind, hrv, fun U hU hW => ⟨rfl, by rw [hU], by rw [hU]; exact hP, hK.moved hW.alike, hDx.weaken (fun _ _ _ _ => trivial)⟩⟩ rfl hn hls hstk (lv_room hst) hdg hf) hS (fun q _ h => hF q h) hF (fun r u t H1 locs1 ht _ hw1 hB _ hk1 hS1 => ?_)
  subst hw1
  exact kk _ S2 H1 locs1 e1 e2 (ht ▸ hB) (P_keep hR (D_dis hD) hk1) hS1
theorem k_rwRd (C : CallFix p m c cc nL s args WW own) {w : XS → va_W} {S : XS} {wr : va_W} (hK : va_K D vwCl tys s) (hP : va_P D vwCl (w S) H) (hR : va_P D vwCl wr H) (hD : va_D A (w S ++ wr)) (hS : va_S A H0 H locs) (hA : ∀ q, H0.size ≤ q → A q) {CL : String} {idx n mL a0 : Nat} {y : MethodName} {b : ByteArray} {ret : Option FieldType} {rm : Room} (As : List Value) (hrv : ∃ cellB : Cell, H[a0]? = some cellB ∧ cellB.vm.isStatics = false ∧ s.vm.findClass CL = some cellB.cls) {f : Option (UInt64 × XS)} {K : UInt64 → XS → Option ρ} (h : rb f K = some z)
    (hM : ∀ v S2, f = some (v, S2) → Met l y (Cond.code y b mL ret :: WW) rm (va_Pc (.ref a0 :: As) (rwP D (w S) tys H.size)) (rwQd D (w S2) v (va_A (w S) H.size)) 0 0 (va_A (w S) H.size))
    (cw : CallW R s args own CL idx y b mL ret (Cond.code y b mL ret :: WW) rm 0 0 n) (hn : As.length = n) (hls : ls.size = nL) (hst : (rest.map fun v => v.category).sum ≤ 8) (hf : cells + 0 ≤ R.cells ∧ slots + 0 ≤ R.slots) (hdg : decode cc pc = .ok (.invokevirtual idx, 3)) {st : List Value} (hstk : st = As.reverse ++ .ref a0 :: rest)
    (kk : ∀ v S2 H1 locs1, f = some (v, S2) → K v S2 = some z → va_P D vwCl (w S2) H1 → va_P D vwCl wr H1 → va_S A H0 H1 locs1 → W p l e R s m args below meth c H1 locs1 cells slots Q (F0 m (pc + 3) ls (.double v :: rest))) : W p l e R s m args below meth c H locs cells slots Q (F0 m pc ls st) := by
  obtain ⟨v, S2, e1, e2⟩ := rb_h h
  have hDx := D_left hD
  have hF := A_sub hDx hS hA
  refine va_calld (va_runV (As := As) (rest := rest) C (hM v S2 e1) cw ⟨rwP_blind, hrv, fun U hU hW => ⟨rfl, by rw [hU], by rw [hU]; exact hP, hK.moved hW.alike, hDx.weaken (fun _ _ _ _ => trivial)⟩⟩ rfl hn hls hstk (lv_room hst) hdg hf) hS (fun q _ h => hF q h) hF (fun r u t H1 locs1 ht _ hw1 hB _ hk1 hS1 => ?_)
  subst hw1
  exact kk _ S2 H1 locs1 e1 e2 (ht ▸ hB) (P_keep hR (D_dis hD) hk1) hS1
theorem cw_L_65 {s : State} {args : Array Value} (h : ∀ w ∈ WW, w.before args s = true) : CallB room_1 s args RL 65 yX0_init cX0_init 2 none (Cond.code yX0_init cX0_init 2 none :: WW) ({ frames := 1, cells := 13, slots := 845, locals := 60 }) 13 845 0 ∧ yX0_init.name = "<init>" ∧ (Cond.instanceMethod yX0_init).before args s = true := cwI 0 h (gdI qC_X0_init) rfl rfl rfl (h _ qN_X0) (h _ qM_L_65) (h _ qI_X0_init) rfl (by decide +kernel) ⟨Nat.le_of_ble_eq_true rfl, Nat.le_of_ble_eq_true rfl⟩
theorem cw_L_68 {s : State} {args : Array Value} (h : ∀ w ∈ WW, w.before args s = true) : CallB room_1 s args RL 68 yX1_init cX1_init 2 none (Cond.code yX1_init cX1_init 2 none :: WW) ({ frames := 1, cells := 11, slots := 821, locals := 60 }) 11 821 0 ∧ yX1_init.name = "<init>" ∧ (Cond.instanceMethod yX1_init).before args s = true := cwI 0 h (gdI qC_X1_init) rfl rfl rfl (h _ qN_X1) (h _ qM_L_68) (h _ qI_X1_init) rfl (by decide +kernel) ⟨Nat.le_of_ble_eq_true rfl, Nat.le_of_ble_eq_true rfl⟩
theorem cw_L_69 {s : State} {args : Array Value} (h : ∀ w ∈ WW, w.before args s = true) : vx_CSW room_1 s args RL 69 yL_take cL_take 5 (some .int) [(0, 17, 20, 13)] (Cond.codeWith yL_take cL_take 5 (some .int) [(0, 17, 20, 13)] :: WW) ({ frames := 8, cells := 1, slots := 6, locals := 163 }) 1 6 4 := vx_cwSW 4 h (gdSW qM_L_69 qT_L_take qN_L qCW_L_take) rfl rfl rfl (by decide +kernel) ⟨Nat.le_of_ble_eq_true rfl, Nat.le_of_ble_eq_true rfl⟩
theorem cw_L_74 {s : State} {args : Array Value} (h : ∀ w ∈ WW, w.before args s = true) : CallW room_1 s args RL RX1 74 yX1_take cX1_take 4 (some .boolean) (Cond.code yX1_take cX1_take 4 (some .boolean) :: WW) ({ frames := 2, cells := 0, slots := 0, locals := 42 }) 0 0 2 := cwV 2 h (gdV qM_L_74 qI_X1_take qS_X1_take qN_X1 qC_X1_take) rfl rfl rfl (by decide +kernel) ⟨Nat.le_of_ble_eq_true rfl, Nat.le_of_ble_eq_true rfl⟩
theorem cw_L_75 {s : State} {args : Array Value} (h : ∀ w ∈ WW, w.before args s = true) : CallW room_1 s args RL RX1 75 yX1_thrown cX1_thrown 1 (some .int) (Cond.code yX1_thrown cX1_thrown 1 (some .int) :: WW) ({ frames := 0, cells := 0, slots := 0, locals := 0 }) 0 0 0 := cwV 0 h (gdV qM_L_75 qI_X1_thrown qS_X1_thrown qN_X1 qC_X1_thrown) rfl rfl rfl (by decide +kernel) ⟨Nat.le_of_ble_eq_true rfl, Nat.le_of_ble_eq_true rfl⟩
theorem cw_L_78 {s : State} {args : Array Value} (h : ∀ w ∈ WW, w.before args s = true) : vx_CSW room_1 s args RL 78 yL_lemma cL_lemma 3 (some .int) [(0, 8, 11, 19)] (Cond.codeWith yL_lemma cL_lemma 3 (some .int) [(0, 8, 11, 19)] :: WW) ({ frames := 7, cells := 1, slots := 6, locals := 160 }) 1 6 2 := vx_cwSW 2 h (gdSW qM_L_78 qT_L_lemma qN_L qCW_L_lemma) rfl rfl rfl (by decide +kernel) ⟨Nat.le_of_ble_eq_true rfl, Nat.le_of_ble_eq_true rfl⟩
theorem cw_L_81 {s : State} {args : Array Value} (h : ∀ w ∈ WW, w.before args s = true) : CallW room_1 s args RL RX1 81 yX1_lemma cX1_lemma 1 (some .int) (Cond.code yX1_lemma cX1_lemma 1 (some .int) :: WW) ({ frames := 1, cells := 0, slots := 0, locals := 21 }) 0 0 0 := cwV 0 h (gdV qM_L_81 qI_X1_lemma qS_X1_lemma qN_X1 qC_X1_lemma) rfl rfl rfl (by decide +kernel) ⟨Nat.le_of_ble_eq_true rfl, Nat.le_of_ble_eq_true rfl⟩
theorem cw_L_82 {s : State} {args : Array Value} (h : ∀ w ∈ WW, w.before args s = true) : vx_CSW room_1 s args RL 82 yL_proof cL_proof 4 (some .int) [(0, 9, 12, 13), (0, 9, 15, 19)] (Cond.codeWith yL_proof cL_proof 4 (some .int) [(0, 9, 12, 13), (0, 9, 15, 19)] :: WW) ({ frames := 8, cells := 1, slots := 6, locals := 162 }) 1 6 3 := vx_cwSW 3 h (gdSW qM_L_82 qT_L_proof qN_L qCW_L_proof) rfl rfl rfl (by decide +kernel) ⟨Nat.le_of_ble_eq_true rfl, Nat.le_of_ble_eq_true rfl⟩
theorem cw_L_85 {s : State} {args : Array Value} (h : ∀ w ∈ WW, w.before args s = true) : CallW room_1 s args RL RX1 85 yX1_proof cX1_proof 2 (some .int) (Cond.code yX1_proof cX1_proof 2 (some .int) :: WW) ({ frames := 2, cells := 0, slots := 0, locals := 43 }) 0 0 1 := cwV 1 h (gdV qM_L_85 qI_X1_proof qS_X1_proof qN_X1 qC_X1_proof) rfl rfl rfl (by decide +kernel) ⟨Nat.le_of_ble_eq_true rfl, Nat.le_of_ble_eq_true rfl⟩
theorem cw_L_86 {s : State} {args : Array Value} (h : ∀ w ∈ WW, w.before args s = true) : vx_CSW room_1 s args RL 86 yL_cite cL_cite 7 (some .int) [(0, 14, 17, 13), (0, 14, 21, 29), (0, 14, 25, 19)] (Cond.codeWith yL_cite cL_cite 7 (some .int) [(0, 14, 17, 13), (0, 14, 21, 29), (0, 14, 25, 19)] :: WW) ({ frames := 9, cells := 1, slots := 6, locals := 166 }) 1 6 6 := vx_cwSW 6 h (gdSW qM_L_86 qT_L_cite qN_L qCW_L_cite) rfl rfl rfl (by decide +kernel) ⟨Nat.le_of_ble_eq_true rfl, Nat.le_of_ble_eq_true rfl⟩
theorem cw_L_89 {s : State} {args : Array Value} (h : ∀ w ∈ WW, w.before args s = true) : CallW room_1 s args RL RX1 89 yX1_cite cX1_cite 7 (some .int) (Cond.code yX1_cite cX1_cite 7 (some .int) :: WW) ({ frames := 3, cells := 0, slots := 0, locals := 65 }) 0 0 4 := cwV 4 h (gdV qM_L_89 qI_X1_cite qS_X1_cite qN_X1 qC_X1_cite) rfl rfl rfl (by decide +kernel) ⟨Nat.le_of_ble_eq_true rfl, Nat.le_of_ble_eq_true rfl⟩
theorem cw_L_90 {s : State} {args : Array Value} (h : ∀ w ∈ WW, w.before args s = true) : vx_CSW room_1 s args RL 90 yL_patch cL_patch 7 (some .int) [(0, 14, 17, 13), (0, 14, 21, 29), (0, 14, 25, 19)] (Cond.codeWith yL_patch cL_patch 7 (some .int) [(0, 14, 17, 13), (0, 14, 21, 29), (0, 14, 25, 19)] :: WW) ({ frames := 10, cells := 1, slots := 6, locals := 181 }) 1 6 6 := vx_cwSW 6 h (gdSW qM_L_90 qT_L_patch qN_L qCW_L_patch) rfl rfl rfl (by decide +kernel) ⟨Nat.le_of_ble_eq_true rfl, Nat.le_of_ble_eq_true rfl⟩
theorem cw_L_92 {s : State} {args : Array Value} (h : ∀ w ∈ WW, w.before args s = true) : CallW room_1 s args RL RX1 92 yX1_patch cX1_patch 6 (some .int) (Cond.code yX1_patch cX1_patch 6 (some .int) :: WW) ({ frames := 4, cells := 0, slots := 0, locals := 88 }) 0 0 4 := cwV 4 h (gdV qM_L_92 qI_X1_patch qS_X1_patch qN_X1 qC_X1_patch) rfl rfl rfl (by decide +kernel) ⟨Nat.le_of_ble_eq_true rfl, Nat.le_of_ble_eq_true rfl⟩
theorem cw_L_93 {s : State} {args : Array Value} (h : ∀ w ∈ WW, w.before args s = true) : vx_CSW room_1 s args RL 93 yL_withdraw cL_withdraw 6 (some .int) [(0, 19, 22, 13)] (Cond.codeWith yL_withdraw cL_withdraw 6 (some .int) [(0, 19, 22, 13)] :: WW) ({ frames := 10, cells := 1, slots := 6, locals := 180 }) 1 6 5 := vx_cwSW 5 h (gdSW qM_L_93 qT_L_withdraw qN_L qCW_L_withdraw) rfl rfl rfl (by decide +kernel) ⟨Nat.le_of_ble_eq_true rfl, Nat.le_of_ble_eq_true rfl⟩
theorem cw_L_96 {s : State} {args : Array Value} (h : ∀ w ∈ WW, w.before args s = true) : CallW room_1 s args RL RX1 96 yX1_withdraw cX1_withdraw 5 (some .boolean) (Cond.code yX1_withdraw cX1_withdraw 5 (some .boolean) :: WW) ({ frames := 4, cells := 0, slots := 0, locals := 88 }) 0 0 3 := cwV 3 h (gdV qM_L_96 qI_X1_withdraw qS_X1_withdraw qN_X1 qC_X1_withdraw) rfl rfl rfl (by decide +kernel) ⟨Nat.le_of_ble_eq_true rfl, Nat.le_of_ble_eq_true rfl⟩
theorem cw_L_97 {s : State} {args : Array Value} (h : ∀ w ∈ WW, w.before args s = true) : vx_CSW room_1 s args RL 97 yL_strike cL_strike 5 (some .int) [(0, 10, 13, 13)] (Cond.codeWith yL_strike cL_strike 5 (some .int) [(0, 10, 13, 13)] :: WW) ({ frames := 9, cells := 1, slots := 6, locals := 163 }) 1 6 4 := vx_cwSW 4 h (gdSW qM_L_97 qT_L_strike qN_L qCW_L_strike) rfl rfl rfl (by decide +kernel) ⟨Nat.le_of_ble_eq_true rfl, Nat.le_of_ble_eq_true rfl⟩
theorem cw_L_100 {s : State} {args : Array Value} (h : ∀ w ∈ WW, w.before args s = true) : CallW room_1 s args RL RX1 100 yX1_strike cX1_strike 4 (some .int) (Cond.code yX1_strike cX1_strike 4 (some .int) :: WW) ({ frames := 3, cells := 0, slots := 0, locals := 82 }) 0 0 2 := cwV 2 h (gdV qM_L_100 qI_X1_strike qS_X1_strike qN_X1 qC_X1_strike) rfl rfl rfl (by decide +kernel) ⟨Nat.le_of_ble_eq_true rfl, Nat.le_of_ble_eq_true rfl⟩
theorem cw_L_101 {s : State} {args : Array Value} (h : ∀ w ∈ WW, w.before args s = true) : vx_CSW room_1 s args RL 101 yL_told cL_told 5 (some .int) [(0, 10, 13, 13)] (Cond.codeWith yL_told cL_told 5 (some .int) [(0, 10, 13, 13)] :: WW) ({ frames := 8, cells := 1, slots := 6, locals := 133 }) 1 6 4 := vx_cwSW 4 h (gdSW qM_L_101 qT_L_told qN_L qCW_L_told) rfl rfl rfl (by decide +kernel) ⟨Nat.le_of_ble_eq_true rfl, Nat.le_of_ble_eq_true rfl⟩
theorem cw_L_103 {s : State} {args : Array Value} (h : ∀ w ∈ WW, w.before args s = true) : CallW room_1 s args RL RX1 103 yX1_told_ cX1_told_ 3 (some .int) (Cond.code yX1_told_ cX1_told_ 3 (some .int) :: WW) ({ frames := 7, cells := 0, slots := 0, locals := 162 }) 0 0 2 := cwV 2 h (gdV qM_L_103 qI_X1_told_ qS_X1_told_ qN_X1 qC_X1_told_) rfl rfl rfl (by decide +kernel) ⟨Nat.le_of_ble_eq_true rfl, Nat.le_of_ble_eq_true rfl⟩
theorem cw_L_104 {s : State} {args : Array Value} (h : ∀ w ∈ WW, w.before args s = true) : vx_CSW room_1 s args RL 104 yL_step cL_step 7 (some .int) [(0, 14, 17, 13)] (Cond.codeWith yL_step cL_step 7 (some .int) [(0, 14, 17, 13)] :: WW) ({ frames := 10, cells := 1, slots := 6, locals := 180 }) 1 6 6 := vx_cwSW 6 h (gdSW qM_L_104 qT_L_step qN_L qCW_L_step) rfl rfl rfl (by decide +kernel) ⟨Nat.le_of_ble_eq_true rfl, Nat.le_of_ble_eq_true rfl⟩
theorem cw_L_106 {s : State} {args : Array Value} (h : ∀ w ∈ WW, w.before args s = true) : CallW room_1 s args RL RX1 106 yX1_step cX1_step 5 (some .int) (Cond.code yX1_step cX1_step 5 (some .int) :: WW) ({ frames := 4, cells := 0, slots := 0, locals := 88 }) 0 0 4 := cwV 4 h (gdV qM_L_106 qI_X1_step qS_X1_step qN_X1 qC_X1_step) rfl rfl rfl (by decide +kernel) ⟨Nat.le_of_ble_eq_true rfl, Nat.le_of_ble_eq_true rfl⟩
theorem cw_L_107 {s : State} {args : Array Value} (h : ∀ w ∈ WW, w.before args s = true) : vx_CSW room_1 s args RL 107 yL_about cL_about 6 (some .int) [(0, 12, 15, 13)] (Cond.codeWith yL_about cL_about 6 (some .int) [(0, 12, 15, 13)] :: WW) ({ frames := 9, cells := 1, slots := 6, locals := 157 }) 1 6 5 := vx_cwSW 5 h (gdSW qM_L_107 qT_L_about qN_L qCW_L_about) rfl rfl rfl (by decide +kernel) ⟨Nat.le_of_ble_eq_true rfl, Nat.le_of_ble_eq_true rfl⟩
theorem cw_L_109 {s : State} {args : Array Value} (h : ∀ w ∈ WW, w.before args s = true) : CallW room_1 s args RL RX1 109 yX1_about cX1_about 4 (some .int) (Cond.code yX1_about cX1_about 4 (some .int) :: WW) ({ frames := 6, cells := 0, slots := 0, locals := 142 }) 0 0 3 := cwV 3 h (gdV qM_L_109 qI_X1_about qS_X1_about qN_X1 qC_X1_about) rfl rfl rfl (by decide +kernel) ⟨Nat.le_of_ble_eq_true rfl, Nat.le_of_ble_eq_true rfl⟩
theorem cw_L_110 {s : State} {args : Array Value} (h : ∀ w ∈ WW, w.before args s = true) : vx_CSW room_1 s args RL 110 yL_count cL_count 4 (some .int) [(0, 9, 12, 13)] (Cond.codeWith yL_count cL_count 4 (some .int) [(0, 9, 12, 13)] :: WW) ({ frames := 8, cells := 1, slots := 6, locals := 133 }) 1 6 3 := vx_cwSW 3 h (gdSW qM_L_110 qT_L_count qN_L qCW_L_count) rfl rfl rfl (by decide +kernel) ⟨Nat.le_of_ble_eq_true rfl, Nat.le_of_ble_eq_true rfl⟩
theorem cw_L_112 {s : State} {args : Array Value} (h : ∀ w ∈ WW, w.before args s = true) : CallW room_1 s args RL RX1 112 yX1_count cX1_count 2 (some .int) (Cond.code yX1_count cX1_count 2 (some .int) :: WW) ({ frames := 6, cells := 0, slots := 0, locals := 145 }) 0 0 1 := cwV 1 h (gdV qM_L_112 qI_X1_count qS_X1_count qN_X1 qC_X1_count) rfl rfl rfl (by decide +kernel) ⟨Nat.le_of_ble_eq_true rfl, Nat.le_of_ble_eq_true rfl⟩
theorem cw_L_113 {s : State} {args : Array Value} (h : ∀ w ∈ WW, w.before args s = true) : vx_CSW room_1 s args RL 113 yL_best cL_best 4 (some .int) [(0, 9, 12, 13)] (Cond.codeWith yL_best cL_best 4 (some .int) [(0, 9, 12, 13)] :: WW) ({ frames := 8, cells := 1, slots := 6, locals := 136 }) 1 6 3 := vx_cwSW 3 h (gdSW qM_L_113 qT_L_best qN_L qCW_L_best) rfl rfl rfl (by decide +kernel) ⟨Nat.le_of_ble_eq_true rfl, Nat.le_of_ble_eq_true rfl⟩
theorem cw_L_115 {s : State} {args : Array Value} (h : ∀ w ∈ WW, w.before args s = true) : CallW room_1 s args RL RX1 115 yX1_best cX1_best 2 (some .int) (Cond.code yX1_best cX1_best 2 (some .int) :: WW) ({ frames := 6, cells := 0, slots := 0, locals := 139 }) 0 0 1 := cwV 1 h (gdV qM_L_115 qI_X1_best qS_X1_best qN_X1 qC_X1_best) rfl rfl rfl (by decide +kernel) ⟨Nat.le_of_ble_eq_true rfl, Nat.le_of_ble_eq_true rfl⟩
theorem cw_L_116 {s : State} {args : Array Value} (h : ∀ w ∈ WW, w.before args s = true) : vx_CSW room_1 s args RL 116 yL_without cL_without 4 (some .int) [(0, 9, 12, 13)] (Cond.codeWith yL_without cL_without 4 (some .int) [(0, 9, 12, 13)] :: WW) ({ frames := 8, cells := 1, slots := 6, locals := 140 }) 1 6 3 := vx_cwSW 3 h (gdSW qM_L_116 qT_L_without qN_L qCW_L_without) rfl rfl rfl (by decide +kernel) ⟨Nat.le_of_ble_eq_true rfl, Nat.le_of_ble_eq_true rfl⟩
theorem cw_L_118 {s : State} {args : Array Value} (h : ∀ w ∈ WW, w.before args s = true) : CallW room_1 s args RL RX1 118 yX1_without cX1_without 2 (some .int) (Cond.code yX1_without cX1_without 2 (some .int) :: WW) ({ frames := 5, cells := 0, slots := 0, locals := 119 }) 0 0 1 := cwV 1 h (gdV qM_L_118 qI_X1_without qS_X1_without qN_X1 qC_X1_without) rfl rfl rfl (by decide +kernel) ⟨Nat.le_of_ble_eq_true rfl, Nat.le_of_ble_eq_true rfl⟩
theorem cw_L_119 {s : State} {args : Array Value} (h : ∀ w ∈ WW, w.before args s = true) : vx_CSW room_1 s args RL 119 yL_needs cL_needs 5 (some .int) [(0, 17, 20, 13)] (Cond.codeWith yL_needs cL_needs 5 (some .int) [(0, 17, 20, 13)] :: WW) ({ frames := 8, cells := 1, slots := 6, locals := 142 }) 1 6 4 := vx_cwSW 4 h (gdSW qM_L_119 qT_L_needs qN_L qCW_L_needs) rfl rfl rfl (by decide +kernel) ⟨Nat.le_of_ble_eq_true rfl, Nat.le_of_ble_eq_true rfl⟩
theorem cw_L_121 {s : State} {args : Array Value} (h : ∀ w ∈ WW, w.before args s = true) : CallW room_1 s args RL RX1 121 yX1_needs cX1_needs 3 (some .boolean) (Cond.code yX1_needs cX1_needs 3 (some .boolean) :: WW) ({ frames := 7, cells := 0, slots := 0, locals := 163 }) 0 0 2 := cwV 2 h (gdV qM_L_121 qI_X1_needs qS_X1_needs qN_X1 qC_X1_needs) rfl rfl rfl (by decide +kernel) ⟨Nat.le_of_ble_eq_true rfl, Nat.le_of_ble_eq_true rfl⟩
theorem cw_L_122 {s : State} {args : Array Value} (h : ∀ w ∈ WW, w.before args s = true) : CallW room_1 s args RL RX0 122 yX0_advise cX0_advise 7 (some .int) (Cond.code yX0_advise cX0_advise 7 (some .int) :: WW) ({ frames := 6, cells := 0, slots := 0, locals := 142 }) 0 0 0 := cwV 0 h (gdV qM_L_122 qI_X0_advise qS_X0_advise qN_X0 qC_X0_advise) rfl rfl rfl (by decide +kernel) ⟨Nat.le_of_ble_eq_true rfl, Nat.le_of_ble_eq_true rfl⟩
theorem cw_L_125 {s : State} {args : Array Value} (h : ∀ w ∈ WW, w.before args s = true) : CallW room_1 s args RL RX1 125 yX1_advise cX1_advise 8 (some .int) (Cond.code yX1_advise cX1_advise 8 (some .int) :: WW) ({ frames := 6, cells := 0, slots := 0, locals := 142 }) 0 0 0 := cwV 0 h (gdV qM_L_125 qI_X1_advise qS_X1_advise qN_X1 qC_X1_advise) rfl rfl rfl (by decide +kernel) ⟨Nat.le_of_ble_eq_true rfl, Nat.le_of_ble_eq_true rfl⟩
theorem cw_L_126 {s : State} {args : Array Value} (h : ∀ w ∈ WW, w.before args s = true) : CallW room_1 s args RL RX0 126 yX0_mean cX0_mean 1 (some .double) (Cond.code yX0_mean cX0_mean 1 (some .double) :: WW) ({ frames := 4, cells := 0, slots := 0, locals := 91 }) 0 0 0 := cwV 0 h (gdV qM_L_126 qI_X0_mean qS_X0_mean qN_X0 qC_X0_mean) rfl rfl rfl (by decide +kernel) ⟨Nat.le_of_ble_eq_true rfl, Nat.le_of_ble_eq_true rfl⟩
theorem cw_L_130 {s : State} {args : Array Value} (h : ∀ w ∈ WW, w.before args s = true) : CallW room_1 s args RL RX1 130 yX1_mean cX1_mean 1 (some .double) (Cond.code yX1_mean cX1_mean 1 (some .double) :: WW) ({ frames := 6, cells := 0, slots := 0, locals := 145 }) 0 0 0 := cwV 0 h (gdV qM_L_130 qI_X1_mean qS_X1_mean qN_X1 qC_X1_mean) rfl rfl rfl (by decide +kernel) ⟨Nat.le_of_ble_eq_true rfl, Nat.le_of_ble_eq_true rfl⟩
theorem cw_L_131 {s : State} {args : Array Value} (h : ∀ w ∈ WW, w.before args s = true) : CallW room_1 s args RL RX0 131 yX0_digest cX0_digest 4 (some .long) (Cond.code yX0_digest cX0_digest 4 (some .long) :: WW) ({ frames := 5, cells := 0, slots := 0, locals := 112 }) 0 0 0 := cwV 0 h (gdV qM_L_131 qI_X0_digest qS_X0_digest qN_X0 qC_X0_digest) rfl rfl rfl (by decide +kernel) ⟨Nat.le_of_ble_eq_true rfl, Nat.le_of_ble_eq_true rfl⟩
theorem cw_L_135 {s : State} {args : Array Value} (h : ∀ w ∈ WW, w.before args s = true) : CallW room_1 s args RL RX1 135 yX1_digest cX1_digest 7 (some .long) (Cond.code yX1_digest cX1_digest 7 (some .long) :: WW) ({ frames := 7, cells := 0, slots := 0, locals := 162 }) 0 0 0 := cwV 0 h (gdV qM_L_135 qI_X1_digest qS_X1_digest qN_X1 qC_X1_digest) rfl rfl rfl (by decide +kernel) ⟨Nat.le_of_ble_eq_true rfl, Nat.le_of_ble_eq_true rfl⟩
def mL_F23 (xs : Nat → Int32) (L : Nat) (ih : XS → XS → (Nat → Int64) → Int32 → Option Int32) (S T : XS) (g : Nat → Int64) (v4 : Int32) : Option Int32 :=
  (if (((Int32.ofNat L) - 5) : Int32) < v4 then
  some 1
  else
  (rdA xs L v4).bind fun x35 =>
  (if ((x35 &&& 31) : Int32) = 0 then
  (rdA xs L (v4 + 1)).bind fun x126 =>
  (rdA xs L (v4 + 2)).bind fun x132 =>
  (if (x132 : Int32) = 0 then
  rb3 (mL_take S g x126 0) fun x142 S142 g142 =>
  (rdA xs L (v4 + 1)).bind fun x153 =>
  (rdA xs L (v4 + 2)).bind fun x159 =>
  (if (x159 : Int32) = 0 then
  rb (mM_take T x153 0) fun x168 T168 =>
  (mM_thrown T168).bind fun x174 =>
  (if (x174 : Int32) = x142 then
  (if (x142 : Int32) = 0 then
  (rdL g142 1 0).bind fun x191 =>
  (if (x168 : Int32) = 0 then
  (if ((lg_cmp x191 0) : Int32) = 0 then
  ih S142 T168 g142 (v4 + 5)
  else
  some 0)
  else
  (if ((lg_cmp x191 1) : Int32) = 0 then
  ih S142 T168 g142 (v4 + 5)
  else
  some 0))
  else
  ih S142 T168 g142 (v4 + 5))
  else
  some 0)
  else
  rb (mM_take T x153 1) fun x168 T168 =>
  (mM_thrown T168).bind fun x174 =>
  (if (x174 : Int32) = x142 then
  (if (x142 : Int32) = 0 then
  (rdL g142 1 0).bind fun x191 =>
  (if (x168 : Int32) = 0 then
  (if ((lg_cmp x191 0) : Int32) = 0 then
  ih S142 T168 g142 (v4 + 5)
  else
  some 0)
  else
  (if ((lg_cmp x191 1) : Int32) = 0 then
  ih S142 T168 g142 (v4 + 5)
  else
  some 0))
  else
  ih S142 T168 g142 (v4 + 5))
  else
  some 0))
  else
  rb3 (mL_take S g x126 1) fun x142 S142 g142 =>
  (rdA xs L (v4 + 1)).bind fun x153 =>
  (rdA xs L (v4 + 2)).bind fun x159 =>
  (if (x159 : Int32) = 0 then
  rb (mM_take T x153 0) fun x168 T168 =>
  (mM_thrown T168).bind fun x174 =>
  (if (x174 : Int32) = x142 then
  (if (x142 : Int32) = 0 then
  (rdL g142 1 0).bind fun x191 =>
  (if (x168 : Int32) = 0 then
  (if ((lg_cmp x191 0) : Int32) = 0 then
  ih S142 T168 g142 (v4 + 5)
  else
  some 0)
  else
  (if ((lg_cmp x191 1) : Int32) = 0 then
  ih S142 T168 g142 (v4 + 5)
  else
  some 0))
  else
  ih S142 T168 g142 (v4 + 5))
  else
  some 0)
  else
  rb (mM_take T x153 1) fun x168 T168 =>
  (mM_thrown T168).bind fun x174 =>
  (if (x174 : Int32) = x142 then
  (if (x142 : Int32) = 0 then
  (rdL g142 1 0).bind fun x191 =>
  (if (x168 : Int32) = 0 then
  (if ((lg_cmp x191 0) : Int32) = 0 then
  ih S142 T168 g142 (v4 + 5)
  else
  some 0)
  else
  (if ((lg_cmp x191 1) : Int32) = 0 then
  ih S142 T168 g142 (v4 + 5)
  else
  some 0))
  else
  ih S142 T168 g142 (v4 + 5))
  else
  some 0)))
  else
  if ((x35 &&& 31) : Int32) = 1 then
  rb3 (mL_lemma S g) fun x213 S213 g213 =>
  rb (mM_lemma T) fun x219 T219 =>
  (mM_thrown T219).bind fun x225 =>
  (if (x225 : Int32) = x213 then
  (if (x213 : Int32) = 0 then
  (rdL g213 1 0).bind fun x242 =>
  (if ((lg_cmp x242 ((x219 : Int32).toInt64)) : Int32) = 0 then
  ih S213 T219 g213 (v4 + 5)
  else
  some 0)
  else
  ih S213 T219 g213 (v4 + 5))
  else
  some 0)
  else
  if ((x35 &&& 31) : Int32) = 2 then
  (rdA xs L (v4 + 1)).bind fun x261 =>
  rb3 (mL_proof S g x261) fun x263 S263 g263 =>
  (rdA xs L (v4 + 1)).bind fun x274 =>
  rb (mM_proof T x274) fun x275 T275 =>
  (mM_thrown T275).bind fun x281 =>
  (if (x281 : Int32) = x263 then
  (if (x263 : Int32) = 0 then
  (rdL g263 1 0).bind fun x298 =>
  (if ((lg_cmp x298 ((x275 : Int32).toInt64)) : Int32) = 0 then
  ih S263 T275 g263 (v4 + 5)
  else
  some 0)
  else
  ih S263 T275 g263 (v4 + 5))
  else
  some 0)
  else
  if ((x35 &&& 31) : Int32) = 3 then
  (rdA xs L (v4 + 1)).bind fun x317 =>
  (rdA xs L (v4 + 2)).bind fun x323 =>
  (rdA xs L (v4 + 3)).bind fun x329 =>
  (rdA xs L (v4 + 4)).bind fun x335 =>
  rb3 (mL_cite S g x317 x323 x329 x335) fun x337 S337 g337 =>
  (rdA xs L (v4 + 1)).bind fun x348 =>
  (rdA xs L (v4 + 2)).bind fun x354 =>
  (rdA xs L (v4 + 3)).bind fun x360 =>
  (rdA xs L (v4 + 4)).bind fun x366 =>
  rb (mM_cite T x348 x354 x360 x366) fun x367 T367 =>
  (mM_thrown T367).bind fun x373 =>
  (if (x373 : Int32) = x337 then
  (if (x337 : Int32) = 0 then
  (rdL g337 1 0).bind fun x390 =>
  (if ((lg_cmp x390 ((x367 : Int32).toInt64)) : Int32) = 0 then
  ih S337 T367 g337 (v4 + 5)
  else
  some 0)
  else
  ih S337 T367 g337 (v4 + 5))
  else
  some 0)
  else
  if ((x35 &&& 31) : Int32) = 4 then
  (rdA xs L (v4 + 1)).bind fun x409 =>
  (rdA xs L (v4 + 2)).bind fun x415 =>
  (rdA xs L (v4 + 3)).bind fun x421 =>
  (rdA xs L (v4 + 4)).bind fun x427 =>
  rb3 (mL_patch S g x409 x415 x421 x427) fun x429 S429 g429 =>
  (rdA xs L (v4 + 1)).bind fun x440 =>
  (rdA xs L (v4 + 2)).bind fun x446 =>
  (rdA xs L (v4 + 3)).bind fun x452 =>
  (rdA xs L (v4 + 4)).bind fun x458 =>
  rb (mM_patch T x440 x446 x452 x458) fun x459 T459 =>
  (mM_thrown T459).bind fun x465 =>
  (if (x465 : Int32) = x429 then
  (if (x429 : Int32) = 0 then
  (rdL g429 1 0).bind fun x482 =>
  (if ((lg_cmp x482 ((x459 : Int32).toInt64)) : Int32) = 0 then
  ih S429 T459 g429 (v4 + 5)
  else
  some 0)
  else
  ih S429 T459 g429 (v4 + 5))
  else
  some 0)
  else
  if ((x35 &&& 31) : Int32) = 5 then
  (rdA xs L (v4 + 1)).bind fun x501 =>
  (rdA xs L (v4 + 2)).bind fun x507 =>
  (rdA xs L (v4 + 3)).bind fun x513 =>
  rb3 (mL_withdraw S g x501 x507 x513) fun x515 S515 g515 =>
  (rdA xs L (v4 + 1)).bind fun x526 =>
  (rdA xs L (v4 + 2)).bind fun x532 =>
  (rdA xs L (v4 + 3)).bind fun x538 =>
  rb (mM_withdraw T x526 x532 x538) fun x539 T539 =>
  (mM_thrown T539).bind fun x545 =>
  (if (x545 : Int32) = x515 then
  (if (x515 : Int32) = 0 then
  (rdL g515 1 0).bind fun x562 =>
  (if (x539 : Int32) = 0 then
  (if ((lg_cmp x562 0) : Int32) = 0 then
  ih S515 T539 g515 (v4 + 5)
  else
  some 0)
  else
  (if ((lg_cmp x562 1) : Int32) = 0 then
  ih S515 T539 g515 (v4 + 5)
  else
  some 0))
  else
  ih S515 T539 g515 (v4 + 5))
  else
  some 0)
  else
  if ((x35 &&& 31) : Int32) = 6 then
  (rdA xs L (v4 + 1)).bind fun x588 =>
  (rdA xs L (v4 + 2)).bind fun x594 =>
  rb3 (mL_strike S g x588 x594) fun x596 S596 g596 =>
  (rdA xs L (v4 + 1)).bind fun x607 =>
  (rdA xs L (v4 + 2)).bind fun x613 =>
  rb (mM_strike T x607 x613) fun x614 T614 =>
  (mM_thrown T614).bind fun x620 =>
  (if (x620 : Int32) = x596 then
  (if (x596 : Int32) = 0 then
  (rdL g596 1 0).bind fun x637 =>
  (if ((lg_cmp x637 ((x614 : Int32).toInt64)) : Int32) = 0 then
  ih S596 T614 g596 (v4 + 5)
  else
  some 0)
  else
  ih S596 T614 g596 (v4 + 5))
  else
  some 0)
  else
  if ((x35 &&& 31) : Int32) = 7 then
  (rdA xs L (v4 + 1)).bind fun x656 =>
  (rdA xs L (v4 + 2)).bind fun x662 =>
  rb3 (mL_told S g x656 x662) fun x664 S664 g664 =>
  (rdA xs L (v4 + 1)).bind fun x675 =>
  (rdA xs L (v4 + 2)).bind fun x681 =>
  rb (mM_told_ T x675 x681) fun x682 T682 =>
  (mM_thrown T682).bind fun x688 =>
  (if (x688 : Int32) = x664 then
  (if (x664 : Int32) = 0 then
  (rdL g664 1 0).bind fun x705 =>
  (if ((lg_cmp x705 ((x682 : Int32).toInt64)) : Int32) = 0 then
  ih S664 T682 g664 (v4 + 5)
  else
  some 0)
  else
  ih S664 T682 g664 (v4 + 5))
  else
  some 0)
  else
  if ((x35 &&& 31) : Int32) = 8 then
  (rdA xs L (v4 + 1)).bind fun x724 =>
  (rdA xs L (v4 + 2)).bind fun x730 =>
  (rdA xs L (v4 + 3)).bind fun x736 =>
  (rdA xs L (v4 + 4)).bind fun x742 =>
  rb3 (mL_step S g x724 x730 x736 x742) fun x744 S744 g744 =>
  (rdA xs L (v4 + 1)).bind fun x755 =>
  (rdA xs L (v4 + 2)).bind fun x761 =>
  (rdA xs L (v4 + 3)).bind fun x767 =>
  (rdA xs L (v4 + 4)).bind fun x773 =>
  rb (mM_step T x755 x761 x767 x773) fun x774 T774 =>
  (mM_thrown T774).bind fun x780 =>
  (if (x780 : Int32) = x744 then
  (if (x744 : Int32) = 0 then
  (rdL g744 1 0).bind fun x797 =>
  (if ((lg_cmp x797 ((x774 : Int32).toInt64)) : Int32) = 0 then
  ih S744 T774 g744 (v4 + 5)
  else
  some 0)
  else
  ih S744 T774 g744 (v4 + 5))
  else
  some 0)
  else
  if ((x35 &&& 31) : Int32) = 9 then
  (rdA xs L (v4 + 1)).bind fun x816 =>
  (rdA xs L (v4 + 2)).bind fun x822 =>
  (rdA xs L (v4 + 3)).bind fun x828 =>
  rb3 (mL_about S g x816 x822 x828) fun x830 S830 g830 =>
  (rdA xs L (v4 + 1)).bind fun x841 =>
  (rdA xs L (v4 + 2)).bind fun x847 =>
  (rdA xs L (v4 + 3)).bind fun x853 =>
  rb (mM_about T x841 x847 x853) fun x854 T854 =>
  (mM_thrown T854).bind fun x860 =>
  (if (x860 : Int32) = x830 then
  (if (x830 : Int32) = 0 then
  (rdL g830 1 0).bind fun x877 =>
  (if ((lg_cmp x877 ((x854 : Int32).toInt64)) : Int32) = 0 then
  ih S830 T854 g830 (v4 + 5)
  else
  some 0)
  else
  ih S830 T854 g830 (v4 + 5))
  else
  some 0)
  else
  if ((x35 &&& 31) : Int32) = 10 then
  (rdA xs L (v4 + 1)).bind fun x896 =>
  rb3 (mL_count S g x896) fun x898 S898 g898 =>
  (rdA xs L (v4 + 1)).bind fun x909 =>
  rb (mM_count T x909) fun x910 T910 =>
  (mM_thrown T910).bind fun x916 =>
  (if (x916 : Int32) = x898 then
  (if (x898 : Int32) = 0 then
  (rdL g898 1 0).bind fun x933 =>
  (if ((lg_cmp x933 ((x910 : Int32).toInt64)) : Int32) = 0 then
  ih S898 T910 g898 (v4 + 5)
  else
  some 0)
  else
  ih S898 T910 g898 (v4 + 5))
  else
  some 0)
  else
  if ((x35 &&& 31) : Int32) = 11 then
  (rdA xs L (v4 + 1)).bind fun x952 =>
  rb3 (mL_best S g x952) fun x954 S954 g954 =>
  (rdA xs L (v4 + 1)).bind fun x965 =>
  rb (mM_best T x965) fun x966 T966 =>
  (mM_thrown T966).bind fun x972 =>
  (if (x972 : Int32) = x954 then
  (if (x954 : Int32) = 0 then
  (rdL g954 1 0).bind fun x989 =>
  (if ((lg_cmp x989 ((x966 : Int32).toInt64)) : Int32) = 0 then
  ih S954 T966 g954 (v4 + 5)
  else
  some 0)
  else
  ih S954 T966 g954 (v4 + 5))
  else
  some 0)
  else
  if ((x35 &&& 31) : Int32) = 12 then
  (rdA xs L (v4 + 1)).bind fun x1008 =>
  rb3 (mL_without S g x1008) fun x1010 S1010 g1010 =>
  (rdA xs L (v4 + 1)).bind fun x1021 =>
  rb (mM_without T x1021) fun x1022 T1022 =>
  (mM_thrown T1022).bind fun x1028 =>
  (if (x1028 : Int32) = x1010 then
  (if (x1010 : Int32) = 0 then
  (rdL g1010 1 0).bind fun x1045 =>
  (if ((lg_cmp x1045 ((x1022 : Int32).toInt64)) : Int32) = 0 then
  ih S1010 T1022 g1010 (v4 + 5)
  else
  some 0)
  else
  ih S1010 T1022 g1010 (v4 + 5))
  else
  some 0)
  else
  if ((x35 &&& 31) : Int32) = 13 then
  (rdA xs L (v4 + 1)).bind fun x1064 =>
  (rdA xs L (v4 + 2)).bind fun x1070 =>
  rb3 (mL_needs S g x1064 x1070) fun x1072 S1072 g1072 =>
  (rdA xs L (v4 + 1)).bind fun x1083 =>
  (rdA xs L (v4 + 2)).bind fun x1089 =>
  rb (mM_needs T x1083 x1089) fun x1090 T1090 =>
  (mM_thrown T1090).bind fun x1096 =>
  (if (x1096 : Int32) = x1072 then
  (if (x1072 : Int32) = 0 then
  (rdL g1072 1 0).bind fun x1113 =>
  (if (x1090 : Int32) = 0 then
  (if ((lg_cmp x1113 0) : Int32) = 0 then
  ih S1072 T1090 g1072 (v4 + 5)
  else
  some 0)
  else
  (if ((lg_cmp x1113 1) : Int32) = 0 then
  ih S1072 T1090 g1072 (v4 + 5)
  else
  some 0))
  else
  ih S1072 T1090 g1072 (v4 + 5))
  else
  some 0)
  else
  if ((x35 &&& 31) : Int32) = 14 then
  rb (mX_advise S) fun x1134 S1134 =>
  rb (mM_advise T) fun x1138 T1138 =>
  (if (x1134 : Int32) = x1138 then
  ih S1134 T1138 g (v4 + 5)
  else
  some 0)
  else
  if ((x35 &&& 31) : Int32) = 15 then
  (mX_mean S).bind fun x1147 =>
  rb (mM_mean T) fun x1153 T1153 =>
  (if ((Op.cmpValue (FP.dcmp x1147 x1153) .l) : Int32) = 0 then
  ih S T1153 g (v4 + 5)
  else
  (if ((Op.cmpValue (FP.dcmp x1147 x1147) .l) : Int32) = 0 then
  some 0
  else
  (if ((Op.cmpValue (FP.dcmp x1153 x1153) .l) : Int32) = 0 then
  some 0
  else
  ih S T1153 g (v4 + 5))))
  else
  if ((x35 &&& 31) : Int32) = 16 then
  (mX_digest S).bind fun x1188 =>
  rb (mM_digest T) fun x1192 T1192 =>
  (if ((lg_cmp x1188 x1192) : Int32) = 0 then
  ih S T1192 g (v4 + 5)
  else
  some 0)
  else
  ih S T g (v4 + 5)))
def mL_law (xs : Nat → Int32) (L : Nat) : Option Int32 :=
  rb mX_init fun _ S =>
  rb mM_init fun _ T =>
  itr4 (mL_F23 xs L) FUEL S T (fun _ => 0) 0
theorem in_add5 {i : Int32} {L : Nat} (h : vp_in i L) (hL : L ≤ 2560) : (i + 5).toNatClampNeg = i.toNatClampNeg + 5 := by
  obtain ⟨j, hj, rfl⟩ := vp_in_of h (by omega)
  rw [show nI j + 5 = nI (j + 5) from nI_add j 5, nI_clamp (by omega), nI_clamp (by omega)]
set_option maxHeartbeats 8000000 in
set_option maxRecDepth 100000 in
theorem law_loop {p : Program} {l : Launch} (hfl : l.stackTraces = false) {e : Env} {s : State} {m : MethodId} {below : List Frame} {meth : Method} {c : Code} {b L : Nat} {xs : Nat → Int32} (hL : L ≤ 2560) (C : CallFix p m c cL_law 9 s #[Value.ref b] WW RL) (hr : meth.sig.returnType = ret) (hlk : meth.locks = false) (hX : va_X b L xs s s.heap) (hbl : b < s.heap.size) {D : va_G} {cI cZ cL : ClassId} {a am : Nat → Nat} {q : Nat} (hK : va_K D vwCl (ty3 cI cZ cL) s) (hE : excA (fun q : Nat => s.heap.size ≤ q) s) (hDa : ∀ S T g, va_D (fun q : Nat => s.heap.size ≤ q) (wX cI cZ a S ++ (wM cI cZ am T ++ wO cL q g))) :
    ∀ (n : Nat) (S T : XS) (g : Nat → Int64) (v4 : Int32), itr4 (mL_F23 xs L) n S T g v4 = some 1 → ∀ (nc ns : Nat), nc ≤ 1063 → ns ≤ 9959 → 5 * nc ≤ 135 + v4.toNatClampNeg → 5 * ns ≤ 8475 + 6 * v4.toNatClampNeg → ∀ (H : Heap) (locs : List Loc), va_P D vwCl (wX cI cZ a S) H → va_P D vwCl (wM cI cZ am T) H → va_P D vwCl (wO cL q g) H → va_S (fun q : Nat => s.heap.size ≤ q) s.heap H locs → ∀ (ls : Array Slot), lv_has ls 9 [(0, .ref b), (1, .ref (a 0)), (2, .ref (am 0)), (3, .ref q), (4, .int v4)] → W p l e room_1 s m #[Value.ref b] below meth c H locs nc ns (lw_Z below #[Value.ref b] s) (F0 m 23 ls []) := by
  have hA : ∀ q : Nat, s.heap.size ≤ q → (fun q : Nat => s.heap.size ≤ q) q := fun _ h => h
  have hbA : ¬ (fun q : Nat => s.heap.size ≤ q) b := Nat.not_le.mpr hbl
  have hK2 : va_K D vwCl (tyIZ cI cZ) s := hK.sub [0, 1] rfl
  have hDx := hDa
  have hDm : ∀ S T g, va_D (fun q : Nat => s.heap.size ≤ q) (wM cI cZ am T ++ (wX cI cZ a S ++ wO cL q g)) := fun S T g => (hDa S T g).sub [14, 15, 16, 17, 18, 19, 20, 21, 22, 23, 24, 25, 0, 1, 2, 3, 4, 5, 6, 7, 8, 9, 10, 11, 12, 13, 26] (by decide) rfl
  have hDo : ∀ S T g, va_D (fun q : Nat => s.heap.size ≤ q) (wXO cI cZ cL a q (S, g) ++ wM cI cZ am T) := fun S T g => (hDa S T g).sub [0, 1, 2, 3, 4, 5, 6, 7, 8, 9, 10, 11, 12, 13, 26, 14, 15, 16, 17, 18, 19, 20, 21, 22, 23, 24, 25] (by decide) rfl
  intro n
  refine itr4_ind (fun (S T : XS) (g : Nat → Int64) (v4 : Int32) => ∀ (nc ns : Nat), nc ≤ 1063 → ns ≤ 9959 → 5 * nc ≤ 135 + v4.toNatClampNeg → 5 * ns ≤ 8475 + 6 * v4.toNatClampNeg → ∀ (H : Heap) (locs : List Loc), va_P D vwCl (wX cI cZ a S) H → va_P D vwCl (wM cI cZ am T) H → va_P D vwCl (wO cL q g) H → va_S (fun q : Nat => s.heap.size ≤ q) s.heap H locs → ∀ (ls : Array Slot), lv_has ls 9 [(0, .ref b), (1, .ref (a 0)), (2, .ref (am 0)), (3, .ref q), (4, .int v4)] → W p l e room_1 s m #[Value.ref b] below meth c H locs nc ns (lw_Z below #[Value.ref b] s) (F0 m 23 ls [])) ?_ n
  intro ih ih9 S T g v4 h nc ns hnc hns hnc5 hns5 H locs hPX hPM hPO hS ls hl
  unfold mL_F23 at h
  refine lv_iload C.1 C.2.1 dL_law_23 (lv_at hl 4 rfl) ?_
  refine lv_aload_n C.1 C.2.1 dL_law_25 rfl (lv_at hl 0 rfl) ?_
  refine va_slen C.1 C.2.1 hX hbl hbA hS dL_law_26 ?_
  refine lv_iconst (v := 5) C.1 C.2.1 dL_law_27 (by decide) ?_
  refine lv_isub C.1 C.2.1 dL_law_28 ?_
  refine k_icmp_gt (tgt := 1207) C dL_law_29 (by decide) h (fun c29 h => ?_) (fun c29 h => ?_)
  · refine lv_iconst (v := 1) C.1 C.2.1 dL_law_1207 (by decide) ?_
    refine va_forget (fun q hq => hS.2.2 q hq) ?_
    refine W.widen (k := 1063) (n := 9959) (by omega) (by omega) ?_
    exact lw_ret (d0 := s.drawn) (Drawn.sameBut.refl s.drawn lw_cs) C.1 C.2.1 hr hlk dL_law_1208
  · refine lv_aload_n C.1 C.2.1 dL_law_32 rfl (lv_at hl 0 rfl) ?_
    refine lv_iload C.1 C.2.1 dL_law_33 (lv_at hl 4 rfl) ?_
    refine k_sld C hX hbl hbA hS h dL_law_35 (fun hin h => ?_)
    have hst5 : (v4 + 5).toNatClampNeg = v4.toNatClampNeg + 5 := in_add5 hin hL
    have hlt5 : v4.toNatClampNeg < L := Nat.not_le.mp fun q => hin (Or.inr q)
    refine lv_bipush (v := 31) C.1 C.2.1 dL_law_36 (by decide) ?_
    refine lv_iand C.1 C.2.1 dL_law_38 ?_
    by_cases c39_0 : (((xs (v4 : Int32).toNatClampNeg) &&& 31) : Int32) = 0
    · have h := it_h h c39_0
      refine lv_tableIn (off := 81) (tgt := 120) C.1 C.2.1 dL_law_39 (by rw [c39_0]; decide) (by rw [c39_0]; decide) (by rw [c39_0]; rfl) (by decide) ?_
      refine lv_aload_n C.1 C.2.1 dL_law_120 rfl (lv_at hl 1 rfl) ?_
      refine lv_aload_n C.1 C.2.1 dL_law_121 rfl (lv_at hl 0 rfl) ?_
      refine lv_iload C.1 C.2.1 dL_law_122 (lv_at hl 4 rfl) ?_
      refine lv_iconst (v := 1) C.1 C.2.1 dL_law_124 (by decide) ?_
      refine lv_iadd C.1 C.2.1 dL_law_125 ?_
      refine k_sld C hX hbl hbA hS h dL_law_126 (fun _ h => ?_)
      refine lv_aload_n C.1 C.2.1 dL_law_127 rfl (lv_at hl 0 rfl) ?_
      refine lv_iload C.1 C.2.1 dL_law_128 (lv_at hl 4 rfl) ?_
      refine lv_iconst (v := 2) C.1 C.2.1 dL_law_130 (by decide) ?_
      refine lv_iadd C.1 C.2.1 dL_law_131 ?_
      refine k_sld C hX hbl hbA hS h dL_law_132 (fun _ h => ?_)
      refine k_if_eq (tgt := 140) C dL_law_133 (by decide) h (fun c133 h => ?_) (fun c133 h => ?_)
      · refine lv_iconst (v := 0) C.1 C.2.1 dL_law_140 (by decide) ?_
        refine lv_aload_n C.1 C.2.1 dL_law_141 rfl (lv_at hl 3 rfl) ?_
        refine kL_wrap C hK hPX hPM hPO (hDo _ _ _) hS hA hE [.ref (a 0), .int (xs ((v4 + 1) : Int32).toNatClampNeg), .int 0, .ref q] h (fun v Y e => tL_take hfl e) (cw_L_69 C.2.2.2.2) rfl hl.1 (Nat.le_of_ble_eq_true rfl) ⟨(show nc + 1 ≤ 1063 by omega), (show ns + 6 ≤ 9959 by omega)⟩ dL_law_142 rfl (fun x142 S142 g142 H locs e142 h hPX hPM hPO hS => ?_)
        refine lv_istore (lv' := [(5, .int x142), (0, .ref b), (1, .ref (a 0)), (2, .ref (am 0)), (3, .ref q), (4, .int v4)]) C.1 C.2.1 dL_law_145 hl (by decide) rfl (fun ls hl => ?_)
        refine lv_aload_n C.1 C.2.1 dL_law_147 rfl (lv_at hl 3 rfl) ?_
        refine lv_aload_n C.1 C.2.1 dL_law_148 rfl (lv_at hl 1 rfl) ?_
        refine lv_iload C.1 C.2.1 dL_law_149 (lv_at hl 5 rfl) ?_
        refine lv_iconst (v := 1) C.1 C.2.1 dL_law_151 (by decide) ?_
        refine lv_iadd C.1 C.2.1 dL_law_152 ?_
        refine k_sld C hX hbl hbA hS h dL_law_153 (fun _ h => ?_)
        refine lv_aload_n C.1 C.2.1 dL_law_154 rfl (lv_at hl 1 rfl) ?_
        refine lv_iload C.1 C.2.1 dL_law_155 (lv_at hl 5 rfl) ?_
        refine lv_iconst (v := 2) C.1 C.2.1 dL_law_157 (by decide) ?_
        refine lv_iadd C.1 C.2.1 dL_law_158 ?_
        refine k_sld C hX hbl hbA hS h dL_law_159 (fun _ h => ?_)
        refine k_if_eq (tgt := 167) C dL_law_160 (by decide) h (fun c160 h => ?_) (fun c160 h => ?_)
        · refine lv_iconst (v := 0) C.1 C.2.1 dL_law_167 (by decide) ?_
          refine k_rwRi (w := wM cI cZ am) (wr := wX cI cZ a S142 ++ wO cL q g142) C hK2 hPM (va_P.app hPX hPO) (hDm _ _ _) hS hA [.int (xs ((v4 + 1) : Int32).toNatClampNeg), .int 0] (wM_rv hK2 hPM) h (fun v S2 e => tX1_take e) (cw_L_74 C.2.2.2.2) rfl hl.1 (Nat.le_of_ble_eq_true rfl) ⟨(show nc + 1 + 0 ≤ 1063 by omega), (show ns + 6 + 0 ≤ 9959 by omega)⟩ dL_law_168 rfl (fun x168 T168 H locs e168 h hPM hPR hS => ?_)
          have hPX := P_left hPR
          have hPO := P_right (w1 := wX cI cZ a S142) hPR
          refine lv_istore (lv' := [(6, .int x168), (5, .int x142), (0, .ref b), (1, .ref (a 0)), (2, .ref (am 0)), (3, .ref q), (4, .int v4)]) C.1 C.2.1 dL_law_171 hl (by decide) rfl (fun ls hl => ?_)
          refine lv_aload_n C.1 C.2.1 dL_law_173 rfl (lv_at hl 4 rfl) ?_
          refine k_roVi C hK2 hPM [] (wM_rv hK2 hPM) h (fun v e => tX1_thrown e) (cw_L_75 C.2.2.2.2) rfl hl.1 (Nat.le_of_ble_eq_true rfl) ⟨(show nc + 1 + 0 ≤ 1063 by omega), (show ns + 6 + 0 ≤ 9959 by omega)⟩ dL_law_174 rfl (fun x174 e174 h => ?_)
          refine lv_iload C.1 C.2.1 dL_law_177 (lv_at hl 1 rfl) ?_
          refine k_icmp_eq (tgt := 184) C dL_law_179 (by decide) h (fun c179 h => ?_) (fun c179 h => ?_)
          · refine lv_iload C.1 C.2.1 dL_law_184 (lv_at hl 1 rfl) ?_
            refine k_if_ne (tgt := 208) C dL_law_186 (by decide) h (fun c186 h => ?_) (fun c186 h => ?_)
            · refine lv_goto (tgt := 1201) C.1 C.2.1 dL_law_208 (by decide) ?_
              refine lv_iinc (v := (v4 + 5)) (lv' := [(4, .int (v4 + 5)), (6, .int x168), (5, .int x142), (0, .ref b), (1, .ref (a 0)), (2, .ref (am 0)), (3, .ref q)]) C.1 C.2.1 dL_law_1201 hl (k := 6) rfl rfl (by decide) rfl (fun ls hl => ?_)
              refine lv_goto (tgt := 23) C.1 C.2.1 dL_law_1204 (by decide) ?_
              exact ih9 S142 T168 g142 (v4 + 5) h _ _ (by omega) (by omega) (by rw [hst5]; omega) (by rw [hst5]; omega) _ _ hPX hPM hPO hS ls (lv_sub hl [3, 4, 5, 6, 0] rfl)
            · refine lv_aload_n C.1 C.2.1 dL_law_189 rfl (lv_at hl 5 rfl) ?_
              refine lv_iconst (v := 0) C.1 C.2.1 dL_law_190 (by decide) ?_
              refine k_lld C hK hPO 0 2 rfl rfl h dL_law_191 (fun h => ?_)
              refine lv_iload C.1 C.2.1 dL_law_192 (lv_at hl 0 rfl) ?_
              refine k_if_eq (tgt := 201) C dL_law_194 (by decide) h (fun c194 h => ?_) (fun c194 h => ?_)
              · refine lv_lconst (v := 0) C.1 C.2.1 dL_law_201 (by decide) ?_
                refine W.lcmp C.1 C.2.1 dL_law_202 ?_
                refine k_if_eq (tgt := 208) C dL_law_203 (by decide) h (fun c203 h => ?_) (fun c203 h => ?_)
                · refine lv_goto (tgt := 1201) C.1 C.2.1 dL_law_208 (by decide) ?_
                  refine lv_iinc (v := (v4 + 5)) (lv' := [(4, .int (v4 + 5)), (6, .int x168), (5, .int x142), (0, .ref b), (1, .ref (a 0)), (2, .ref (am 0)), (3, .ref q)]) C.1 C.2.1 dL_law_1201 hl (k := 6) rfl rfl (by decide) rfl (fun ls hl => ?_)
                  refine lv_goto (tgt := 23) C.1 C.2.1 dL_law_1204 (by decide) ?_
                  exact ih9 S142 T168 g142 (v4 + 5) h _ _ (by omega) (by omega) (by rw [hst5]; omega) (by rw [hst5]; omega) _ _ hPX hPM hPO hS ls (lv_sub hl [3, 4, 5, 6, 0] rfl)
                · refine lv_iconst (v := 0) C.1 C.2.1 dL_law_206 (by decide) ?_
                  exact absurd h (by decide)
              · refine lv_lconst (v := 1) C.1 C.2.1 dL_law_197 (by decide) ?_
                refine lv_goto (tgt := 202) C.1 C.2.1 dL_law_198 (by decide) ?_
                refine W.lcmp C.1 C.2.1 dL_law_202 ?_
                refine k_if_eq (tgt := 208) C dL_law_203 (by decide) h (fun c203 h => ?_) (fun c203 h => ?_)
                · refine lv_goto (tgt := 1201) C.1 C.2.1 dL_law_208 (by decide) ?_
                  refine lv_iinc (v := (v4 + 5)) (lv' := [(4, .int (v4 + 5)), (6, .int x168), (5, .int x142), (0, .ref b), (1, .ref (a 0)), (2, .ref (am 0)), (3, .ref q)]) C.1 C.2.1 dL_law_1201 hl (k := 6) rfl rfl (by decide) rfl (fun ls hl => ?_)
                  refine lv_goto (tgt := 23) C.1 C.2.1 dL_law_1204 (by decide) ?_
                  exact ih9 S142 T168 g142 (v4 + 5) h _ _ (by omega) (by omega) (by rw [hst5]; omega) (by rw [hst5]; omega) _ _ hPX hPM hPO hS ls (lv_sub hl [3, 4, 5, 6, 0] rfl)
                · refine lv_iconst (v := 0) C.1 C.2.1 dL_law_206 (by decide) ?_
                  exact absurd h (by decide)
          · refine lv_iconst (v := 0) C.1 C.2.1 dL_law_182 (by decide) ?_
            exact absurd h (by decide)
        · refine lv_iconst (v := 1) C.1 C.2.1 dL_law_163 (by decide) ?_
          refine lv_goto (tgt := 168) C.1 C.2.1 dL_law_164 (by decide) ?_
          refine k_rwRi (w := wM cI cZ am) (wr := wX cI cZ a S142 ++ wO cL q g142) C hK2 hPM (va_P.app hPX hPO) (hDm _ _ _) hS hA [.int (xs ((v4 + 1) : Int32).toNatClampNeg), .int 1] (wM_rv hK2 hPM) h (fun v S2 e => tX1_take e) (cw_L_74 C.2.2.2.2) rfl hl.1 (Nat.le_of_ble_eq_true rfl) ⟨(show nc + 1 + 0 ≤ 1063 by omega), (show ns + 6 + 0 ≤ 9959 by omega)⟩ dL_law_168 rfl (fun x168 T168 H locs e168 h hPM hPR hS => ?_)
          have hPX := P_left hPR
          have hPO := P_right (w1 := wX cI cZ a S142) hPR
          refine lv_istore (lv' := [(6, .int x168), (5, .int x142), (0, .ref b), (1, .ref (a 0)), (2, .ref (am 0)), (3, .ref q), (4, .int v4)]) C.1 C.2.1 dL_law_171 hl (by decide) rfl (fun ls hl => ?_)
          refine lv_aload_n C.1 C.2.1 dL_law_173 rfl (lv_at hl 4 rfl) ?_
          refine k_roVi C hK2 hPM [] (wM_rv hK2 hPM) h (fun v e => tX1_thrown e) (cw_L_75 C.2.2.2.2) rfl hl.1 (Nat.le_of_ble_eq_true rfl) ⟨(show nc + 1 + 0 ≤ 1063 by omega), (show ns + 6 + 0 ≤ 9959 by omega)⟩ dL_law_174 rfl (fun x174 e174 h => ?_)
          refine lv_iload C.1 C.2.1 dL_law_177 (lv_at hl 1 rfl) ?_
          refine k_icmp_eq (tgt := 184) C dL_law_179 (by decide) h (fun c179 h => ?_) (fun c179 h => ?_)
          · refine lv_iload C.1 C.2.1 dL_law_184 (lv_at hl 1 rfl) ?_
            refine k_if_ne (tgt := 208) C dL_law_186 (by decide) h (fun c186 h => ?_) (fun c186 h => ?_)
            · refine lv_goto (tgt := 1201) C.1 C.2.1 dL_law_208 (by decide) ?_
              refine lv_iinc (v := (v4 + 5)) (lv' := [(4, .int (v4 + 5)), (6, .int x168), (5, .int x142), (0, .ref b), (1, .ref (a 0)), (2, .ref (am 0)), (3, .ref q)]) C.1 C.2.1 dL_law_1201 hl (k := 6) rfl rfl (by decide) rfl (fun ls hl => ?_)
              refine lv_goto (tgt := 23) C.1 C.2.1 dL_law_1204 (by decide) ?_
              exact ih9 S142 T168 g142 (v4 + 5) h _ _ (by omega) (by omega) (by rw [hst5]; omega) (by rw [hst5]; omega) _ _ hPX hPM hPO hS ls (lv_sub hl [3, 4, 5, 6, 0] rfl)
            · refine lv_aload_n C.1 C.2.1 dL_law_189 rfl (lv_at hl 5 rfl) ?_
              refine lv_iconst (v := 0) C.1 C.2.1 dL_law_190 (by decide) ?_
              refine k_lld C hK hPO 0 2 rfl rfl h dL_law_191 (fun h => ?_)
              refine lv_iload C.1 C.2.1 dL_law_192 (lv_at hl 0 rfl) ?_
              refine k_if_eq (tgt := 201) C dL_law_194 (by decide) h (fun c194 h => ?_) (fun c194 h => ?_)
              · refine lv_lconst (v := 0) C.1 C.2.1 dL_law_201 (by decide) ?_
                refine W.lcmp C.1 C.2.1 dL_law_202 ?_
                refine k_if_eq (tgt := 208) C dL_law_203 (by decide) h (fun c203 h => ?_) (fun c203 h => ?_)
                · refine lv_goto (tgt := 1201) C.1 C.2.1 dL_law_208 (by decide) ?_
                  refine lv_iinc (v := (v4 + 5)) (lv' := [(4, .int (v4 + 5)), (6, .int x168), (5, .int x142), (0, .ref b), (1, .ref (a 0)), (2, .ref (am 0)), (3, .ref q)]) C.1 C.2.1 dL_law_1201 hl (k := 6) rfl rfl (by decide) rfl (fun ls hl => ?_)
                  refine lv_goto (tgt := 23) C.1 C.2.1 dL_law_1204 (by decide) ?_
                  exact ih9 S142 T168 g142 (v4 + 5) h _ _ (by omega) (by omega) (by rw [hst5]; omega) (by rw [hst5]; omega) _ _ hPX hPM hPO hS ls (lv_sub hl [3, 4, 5, 6, 0] rfl)
                · refine lv_iconst (v := 0) C.1 C.2.1 dL_law_206 (by decide) ?_
                  exact absurd h (by decide)
              · refine lv_lconst (v := 1) C.1 C.2.1 dL_law_197 (by decide) ?_
                refine lv_goto (tgt := 202) C.1 C.2.1 dL_law_198 (by decide) ?_
                refine W.lcmp C.1 C.2.1 dL_law_202 ?_
                refine k_if_eq (tgt := 208) C dL_law_203 (by decide) h (fun c203 h => ?_) (fun c203 h => ?_)
                · refine lv_goto (tgt := 1201) C.1 C.2.1 dL_law_208 (by decide) ?_
                  refine lv_iinc (v := (v4 + 5)) (lv' := [(4, .int (v4 + 5)), (6, .int x168), (5, .int x142), (0, .ref b), (1, .ref (a 0)), (2, .ref (am 0)), (3, .ref q)]) C.1 C.2.1 dL_law_1201 hl (k := 6) rfl rfl (by decide) rfl (fun ls hl => ?_)
                  refine lv_goto (tgt := 23) C.1 C.2.1 dL_law_1204 (by decide) ?_
                  exact ih9 S142 T168 g142 (v4 + 5) h _ _ (by omega) (by omega) (by rw [hst5]; omega) (by rw [hst5]; omega) _ _ hPX hPM hPO hS ls (lv_sub hl [3, 4, 5, 6, 0] rfl)
                · refine lv_iconst (v := 0) C.1 C.2.1 dL_law_206 (by decide) ?_
                  exact absurd h (by decide)
          · refine lv_iconst (v := 0) C.1 C.2.1 dL_law_182 (by decide) ?_
            exact absurd h (by decide)
      · refine lv_iconst (v := 1) C.1 C.2.1 dL_law_136 (by decide) ?_
        refine lv_goto (tgt := 141) C.1 C.2.1 dL_law_137 (by decide) ?_
        refine lv_aload_n C.1 C.2.1 dL_law_141 rfl (lv_at hl 3 rfl) ?_
        refine kL_wrap C hK hPX hPM hPO (hDo _ _ _) hS hA hE [.ref (a 0), .int (xs ((v4 + 1) : Int32).toNatClampNeg), .int 1, .ref q] h (fun v Y e => tL_take hfl e) (cw_L_69 C.2.2.2.2) rfl hl.1 (Nat.le_of_ble_eq_true rfl) ⟨(show nc + 1 ≤ 1063 by omega), (show ns + 6 ≤ 9959 by omega)⟩ dL_law_142 rfl (fun x142 S142 g142 H locs e142 h hPX hPM hPO hS => ?_)
        refine lv_istore (lv' := [(5, .int x142), (0, .ref b), (1, .ref (a 0)), (2, .ref (am 0)), (3, .ref q), (4, .int v4)]) C.1 C.2.1 dL_law_145 hl (by decide) rfl (fun ls hl => ?_)
        refine lv_aload_n C.1 C.2.1 dL_law_147 rfl (lv_at hl 3 rfl) ?_
        refine lv_aload_n C.1 C.2.1 dL_law_148 rfl (lv_at hl 1 rfl) ?_
        refine lv_iload C.1 C.2.1 dL_law_149 (lv_at hl 5 rfl) ?_
        refine lv_iconst (v := 1) C.1 C.2.1 dL_law_151 (by decide) ?_
        refine lv_iadd C.1 C.2.1 dL_law_152 ?_
        refine k_sld C hX hbl hbA hS h dL_law_153 (fun _ h => ?_)
        refine lv_aload_n C.1 C.2.1 dL_law_154 rfl (lv_at hl 1 rfl) ?_
        refine lv_iload C.1 C.2.1 dL_law_155 (lv_at hl 5 rfl) ?_
        refine lv_iconst (v := 2) C.1 C.2.1 dL_law_157 (by decide) ?_
        refine lv_iadd C.1 C.2.1 dL_law_158 ?_
        refine k_sld C hX hbl hbA hS h dL_law_159 (fun _ h => ?_)
        refine k_if_eq (tgt := 167) C dL_law_160 (by decide) h (fun c160 h => ?_) (fun c160 h => ?_)
        · refine lv_iconst (v := 0) C.1 C.2.1 dL_law_167 (by decide) ?_
          refine k_rwRi (w := wM cI cZ am) (wr := wX cI cZ a S142 ++ wO cL q g142) C hK2 hPM (va_P.app hPX hPO) (hDm _ _ _) hS hA [.int (xs ((v4 + 1) : Int32).toNatClampNeg), .int 0] (wM_rv hK2 hPM) h (fun v S2 e => tX1_take e) (cw_L_74 C.2.2.2.2) rfl hl.1 (Nat.le_of_ble_eq_true rfl) ⟨(show nc + 1 + 0 ≤ 1063 by omega), (show ns + 6 + 0 ≤ 9959 by omega)⟩ dL_law_168 rfl (fun x168 T168 H locs e168 h hPM hPR hS => ?_)
          have hPX := P_left hPR
          have hPO := P_right (w1 := wX cI cZ a S142) hPR
          refine lv_istore (lv' := [(6, .int x168), (5, .int x142), (0, .ref b), (1, .ref (a 0)), (2, .ref (am 0)), (3, .ref q), (4, .int v4)]) C.1 C.2.1 dL_law_171 hl (by decide) rfl (fun ls hl => ?_)
          refine lv_aload_n C.1 C.2.1 dL_law_173 rfl (lv_at hl 4 rfl) ?_
          refine k_roVi C hK2 hPM [] (wM_rv hK2 hPM) h (fun v e => tX1_thrown e) (cw_L_75 C.2.2.2.2) rfl hl.1 (Nat.le_of_ble_eq_true rfl) ⟨(show nc + 1 + 0 ≤ 1063 by omega), (show ns + 6 + 0 ≤ 9959 by omega)⟩ dL_law_174 rfl (fun x174 e174 h => ?_)
          refine lv_iload C.1 C.2.1 dL_law_177 (lv_at hl 1 rfl) ?_
          refine k_icmp_eq (tgt := 184) C dL_law_179 (by decide) h (fun c179 h => ?_) (fun c179 h => ?_)
          · refine lv_iload C.1 C.2.1 dL_law_184 (lv_at hl 1 rfl) ?_
            refine k_if_ne (tgt := 208) C dL_law_186 (by decide) h (fun c186 h => ?_) (fun c186 h => ?_)
            · refine lv_goto (tgt := 1201) C.1 C.2.1 dL_law_208 (by decide) ?_
              refine lv_iinc (v := (v4 + 5)) (lv' := [(4, .int (v4 + 5)), (6, .int x168), (5, .int x142), (0, .ref b), (1, .ref (a 0)), (2, .ref (am 0)), (3, .ref q)]) C.1 C.2.1 dL_law_1201 hl (k := 6) rfl rfl (by decide) rfl (fun ls hl => ?_)
              refine lv_goto (tgt := 23) C.1 C.2.1 dL_law_1204 (by decide) ?_
              exact ih9 S142 T168 g142 (v4 + 5) h _ _ (by omega) (by omega) (by rw [hst5]; omega) (by rw [hst5]; omega) _ _ hPX hPM hPO hS ls (lv_sub hl [3, 4, 5, 6, 0] rfl)
            · refine lv_aload_n C.1 C.2.1 dL_law_189 rfl (lv_at hl 5 rfl) ?_
              refine lv_iconst (v := 0) C.1 C.2.1 dL_law_190 (by decide) ?_
              refine k_lld C hK hPO 0 2 rfl rfl h dL_law_191 (fun h => ?_)
              refine lv_iload C.1 C.2.1 dL_law_192 (lv_at hl 0 rfl) ?_
              refine k_if_eq (tgt := 201) C dL_law_194 (by decide) h (fun c194 h => ?_) (fun c194 h => ?_)
              · refine lv_lconst (v := 0) C.1 C.2.1 dL_law_201 (by decide) ?_
                refine W.lcmp C.1 C.2.1 dL_law_202 ?_
                refine k_if_eq (tgt := 208) C dL_law_203 (by decide) h (fun c203 h => ?_) (fun c203 h => ?_)
                · refine lv_goto (tgt := 1201) C.1 C.2.1 dL_law_208 (by decide) ?_
                  refine lv_iinc (v := (v4 + 5)) (lv' := [(4, .int (v4 + 5)), (6, .int x168), (5, .int x142), (0, .ref b), (1, .ref (a 0)), (2, .ref (am 0)), (3, .ref q)]) C.1 C.2.1 dL_law_1201 hl (k := 6) rfl rfl (by decide) rfl (fun ls hl => ?_)
                  refine lv_goto (tgt := 23) C.1 C.2.1 dL_law_1204 (by decide) ?_
                  exact ih9 S142 T168 g142 (v4 + 5) h _ _ (by omega) (by omega) (by rw [hst5]; omega) (by rw [hst5]; omega) _ _ hPX hPM hPO hS ls (lv_sub hl [3, 4, 5, 6, 0] rfl)
                · refine lv_iconst (v := 0) C.1 C.2.1 dL_law_206 (by decide) ?_
                  exact absurd h (by decide)
              · refine lv_lconst (v := 1) C.1 C.2.1 dL_law_197 (by decide) ?_
                refine lv_goto (tgt := 202) C.1 C.2.1 dL_law_198 (by decide) ?_
                refine W.lcmp C.1 C.2.1 dL_law_202 ?_
                refine k_if_eq (tgt := 208) C dL_law_203 (by decide) h (fun c203 h => ?_) (fun c203 h => ?_)
                · refine lv_goto (tgt := 1201) C.1 C.2.1 dL_law_208 (by decide) ?_
                  refine lv_iinc (v := (v4 + 5)) (lv' := [(4, .int (v4 + 5)), (6, .int x168), (5, .int x142), (0, .ref b), (1, .ref (a 0)), (2, .ref (am 0)), (3, .ref q)]) C.1 C.2.1 dL_law_1201 hl (k := 6) rfl rfl (by decide) rfl (fun ls hl => ?_)
                  refine lv_goto (tgt := 23) C.1 C.2.1 dL_law_1204 (by decide) ?_
                  exact ih9 S142 T168 g142 (v4 + 5) h _ _ (by omega) (by omega) (by rw [hst5]; omega) (by rw [hst5]; omega) _ _ hPX hPM hPO hS ls (lv_sub hl [3, 4, 5, 6, 0] rfl)
                · refine lv_iconst (v := 0) C.1 C.2.1 dL_law_206 (by decide) ?_
                  exact absurd h (by decide)
          · refine lv_iconst (v := 0) C.1 C.2.1 dL_law_182 (by decide) ?_
            exact absurd h (by decide)
        · refine lv_iconst (v := 1) C.1 C.2.1 dL_law_163 (by decide) ?_
          refine lv_goto (tgt := 168) C.1 C.2.1 dL_law_164 (by decide) ?_
          refine k_rwRi (w := wM cI cZ am) (wr := wX cI cZ a S142 ++ wO cL q g142) C hK2 hPM (va_P.app hPX hPO) (hDm _ _ _) hS hA [.int (xs ((v4 + 1) : Int32).toNatClampNeg), .int 1] (wM_rv hK2 hPM) h (fun v S2 e => tX1_take e) (cw_L_74 C.2.2.2.2) rfl hl.1 (Nat.le_of_ble_eq_true rfl) ⟨(show nc + 1 + 0 ≤ 1063 by omega), (show ns + 6 + 0 ≤ 9959 by omega)⟩ dL_law_168 rfl (fun x168 T168 H locs e168 h hPM hPR hS => ?_)
          have hPX := P_left hPR
          have hPO := P_right (w1 := wX cI cZ a S142) hPR
          refine lv_istore (lv' := [(6, .int x168), (5, .int x142), (0, .ref b), (1, .ref (a 0)), (2, .ref (am 0)), (3, .ref q), (4, .int v4)]) C.1 C.2.1 dL_law_171 hl (by decide) rfl (fun ls hl => ?_)
          refine lv_aload_n C.1 C.2.1 dL_law_173 rfl (lv_at hl 4 rfl) ?_
          refine k_roVi C hK2 hPM [] (wM_rv hK2 hPM) h (fun v e => tX1_thrown e) (cw_L_75 C.2.2.2.2) rfl hl.1 (Nat.le_of_ble_eq_true rfl) ⟨(show nc + 1 + 0 ≤ 1063 by omega), (show ns + 6 + 0 ≤ 9959 by omega)⟩ dL_law_174 rfl (fun x174 e174 h => ?_)
          refine lv_iload C.1 C.2.1 dL_law_177 (lv_at hl 1 rfl) ?_
          refine k_icmp_eq (tgt := 184) C dL_law_179 (by decide) h (fun c179 h => ?_) (fun c179 h => ?_)
          · refine lv_iload C.1 C.2.1 dL_law_184 (lv_at hl 1 rfl) ?_
            refine k_if_ne (tgt := 208) C dL_law_186 (by decide) h (fun c186 h => ?_) (fun c186 h => ?_)
            · refine lv_goto (tgt := 1201) C.1 C.2.1 dL_law_208 (by decide) ?_
              refine lv_iinc (v := (v4 + 5)) (lv' := [(4, .int (v4 + 5)), (6, .int x168), (5, .int x142), (0, .ref b), (1, .ref (a 0)), (2, .ref (am 0)), (3, .ref q)]) C.1 C.2.1 dL_law_1201 hl (k := 6) rfl rfl (by decide) rfl (fun ls hl => ?_)
              refine lv_goto (tgt := 23) C.1 C.2.1 dL_law_1204 (by decide) ?_
              exact ih9 S142 T168 g142 (v4 + 5) h _ _ (by omega) (by omega) (by rw [hst5]; omega) (by rw [hst5]; omega) _ _ hPX hPM hPO hS ls (lv_sub hl [3, 4, 5, 6, 0] rfl)
            · refine lv_aload_n C.1 C.2.1 dL_law_189 rfl (lv_at hl 5 rfl) ?_
              refine lv_iconst (v := 0) C.1 C.2.1 dL_law_190 (by decide) ?_
              refine k_lld C hK hPO 0 2 rfl rfl h dL_law_191 (fun h => ?_)
              refine lv_iload C.1 C.2.1 dL_law_192 (lv_at hl 0 rfl) ?_
              refine k_if_eq (tgt := 201) C dL_law_194 (by decide) h (fun c194 h => ?_) (fun c194 h => ?_)
              · refine lv_lconst (v := 0) C.1 C.2.1 dL_law_201 (by decide) ?_
                refine W.lcmp C.1 C.2.1 dL_law_202 ?_
                refine k_if_eq (tgt := 208) C dL_law_203 (by decide) h (fun c203 h => ?_) (fun c203 h => ?_)
                · refine lv_goto (tgt := 1201) C.1 C.2.1 dL_law_208 (by decide) ?_
                  refine lv_iinc (v := (v4 + 5)) (lv' := [(4, .int (v4 + 5)), (6, .int x168), (5, .int x142), (0, .ref b), (1, .ref (a 0)), (2, .ref (am 0)), (3, .ref q)]) C.1 C.2.1 dL_law_1201 hl (k := 6) rfl rfl (by decide) rfl (fun ls hl => ?_)
                  refine lv_goto (tgt := 23) C.1 C.2.1 dL_law_1204 (by decide) ?_
                  exact ih9 S142 T168 g142 (v4 + 5) h _ _ (by omega) (by omega) (by rw [hst5]; omega) (by rw [hst5]; omega) _ _ hPX hPM hPO hS ls (lv_sub hl [3, 4, 5, 6, 0] rfl)
                · refine lv_iconst (v := 0) C.1 C.2.1 dL_law_206 (by decide) ?_
                  exact absurd h (by decide)
              · refine lv_lconst (v := 1) C.1 C.2.1 dL_law_197 (by decide) ?_
                refine lv_goto (tgt := 202) C.1 C.2.1 dL_law_198 (by decide) ?_
                refine W.lcmp C.1 C.2.1 dL_law_202 ?_
                refine k_if_eq (tgt := 208) C dL_law_203 (by decide) h (fun c203 h => ?_) (fun c203 h => ?_)
                · refine lv_goto (tgt := 1201) C.1 C.2.1 dL_law_208 (by decide) ?_
                  refine lv_iinc (v := (v4 + 5)) (lv' := [(4, .int (v4 + 5)), (6, .int x168), (5, .int x142), (0, .ref b), (1, .ref (a 0)), (2, .ref (am 0)), (3, .ref q)]) C.1 C.2.1 dL_law_1201 hl (k := 6) rfl rfl (by decide) rfl (fun ls hl => ?_)
                  refine lv_goto (tgt := 23) C.1 C.2.1 dL_law_1204 (by decide) ?_
                  exact ih9 S142 T168 g142 (v4 + 5) h _ _ (by omega) (by omega) (by rw [hst5]; omega) (by rw [hst5]; omega) _ _ hPX hPM hPO hS ls (lv_sub hl [3, 4, 5, 6, 0] rfl)
                · refine lv_iconst (v := 0) C.1 C.2.1 dL_law_206 (by decide) ?_
                  exact absurd h (by decide)
          · refine lv_iconst (v := 0) C.1 C.2.1 dL_law_182 (by decide) ?_
            exact absurd h (by decide)
    · have h := if_h h c39_0
      by_cases c39_1 : (((xs (v4 : Int32).toNatClampNeg) &&& 31) : Int32) = 1
      · have h := it_h h c39_1
        refine lv_tableIn (off := 172) (tgt := 211) C.1 C.2.1 dL_law_39 (by rw [c39_1]; decide) (by rw [c39_1]; decide) (by rw [c39_1]; rfl) (by decide) ?_
        refine lv_aload_n C.1 C.2.1 dL_law_211 rfl (lv_at hl 1 rfl) ?_
        refine lv_aload_n C.1 C.2.1 dL_law_212 rfl (lv_at hl 3 rfl) ?_
        refine kL_wrap C hK hPX hPM hPO (hDo _ _ _) hS hA hE [.ref (a 0), .ref q] h (fun v Y e => tL_lemma hfl e) (cw_L_78 C.2.2.2.2) rfl hl.1 (Nat.le_of_ble_eq_true rfl) ⟨(show nc + 1 ≤ 1063 by omega), (show ns + 6 ≤ 9959 by omega)⟩ dL_law_213 rfl (fun x213 S213 g213 H locs e213 h hPX hPM hPO hS => ?_)
        refine lv_istore (lv' := [(5, .int x213), (0, .ref b), (1, .ref (a 0)), (2, .ref (am 0)), (3, .ref q), (4, .int v4)]) C.1 C.2.1 dL_law_216 hl (by decide) rfl (fun ls hl => ?_)
        refine lv_aload_n C.1 C.2.1 dL_law_218 rfl (lv_at hl 3 rfl) ?_
        refine k_rwRi (w := wM cI cZ am) (wr := wX cI cZ a S213 ++ wO cL q g213) C hK2 hPM (va_P.app hPX hPO) (hDm _ _ _) hS hA [] (wM_rv hK2 hPM) h (fun v S2 e => tX1_lemma e) (cw_L_81 C.2.2.2.2) rfl hl.1 (Nat.le_of_ble_eq_true rfl) ⟨(show nc + 1 + 0 ≤ 1063 by omega), (show ns + 6 + 0 ≤ 9959 by omega)⟩ dL_law_219 rfl (fun x219 T219 H locs e219 h hPM hPR hS => ?_)
        have hPX := P_left hPR
        have hPO := P_right (w1 := wX cI cZ a S213) hPR
        refine lv_istore (lv' := [(6, .int x219), (5, .int x213), (0, .ref b), (1, .ref (a 0)), (2, .ref (am 0)), (3, .ref q), (4, .int v4)]) C.1 C.2.1 dL_law_222 hl (by decide) rfl (fun ls hl => ?_)
        refine lv_aload_n C.1 C.2.1 dL_law_224 rfl (lv_at hl 4 rfl) ?_
        refine k_roVi C hK2 hPM [] (wM_rv hK2 hPM) h (fun v e => tX1_thrown e) (cw_L_75 C.2.2.2.2) rfl hl.1 (Nat.le_of_ble_eq_true rfl) ⟨(show nc + 1 + 0 ≤ 1063 by omega), (show ns + 6 + 0 ≤ 9959 by omega)⟩ dL_law_225 rfl (fun x225 e225 h => ?_)
        refine lv_iload C.1 C.2.1 dL_law_228 (lv_at hl 1 rfl) ?_
        refine k_icmp_eq (tgt := 235) C dL_law_230 (by decide) h (fun c230 h => ?_) (fun c230 h => ?_)
        · refine lv_iload C.1 C.2.1 dL_law_235 (lv_at hl 1 rfl) ?_
          refine k_if_ne (tgt := 252) C dL_law_237 (by decide) h (fun c237 h => ?_) (fun c237 h => ?_)
          · refine lv_goto (tgt := 1201) C.1 C.2.1 dL_law_252 (by decide) ?_
            refine lv_iinc (v := (v4 + 5)) (lv' := [(4, .int (v4 + 5)), (6, .int x219), (5, .int x213), (0, .ref b), (1, .ref (a 0)), (2, .ref (am 0)), (3, .ref q)]) C.1 C.2.1 dL_law_1201 hl (k := 6) rfl rfl (by decide) rfl (fun ls hl => ?_)
            refine lv_goto (tgt := 23) C.1 C.2.1 dL_law_1204 (by decide) ?_
            exact ih9 S213 T219 g213 (v4 + 5) h _ _ (by omega) (by omega) (by rw [hst5]; omega) (by rw [hst5]; omega) _ _ hPX hPM hPO hS ls (lv_sub hl [3, 4, 5, 6, 0] rfl)
          · refine lv_aload_n C.1 C.2.1 dL_law_240 rfl (lv_at hl 5 rfl) ?_
            refine lv_iconst (v := 0) C.1 C.2.1 dL_law_241 (by decide) ?_
            refine k_lld C hK hPO 0 2 rfl rfl h dL_law_242 (fun h => ?_)
            refine lv_iload C.1 C.2.1 dL_law_243 (lv_at hl 0 rfl) ?_
            refine lv_i2l (v := (x219 : Int32).toInt64) C.1 C.2.1 dL_law_245 rfl ?_
            refine W.lcmp C.1 C.2.1 dL_law_246 ?_
            refine k_if_eq (tgt := 252) C dL_law_247 (by decide) h (fun c247 h => ?_) (fun c247 h => ?_)
            · refine lv_goto (tgt := 1201) C.1 C.2.1 dL_law_252 (by decide) ?_
              refine lv_iinc (v := (v4 + 5)) (lv' := [(4, .int (v4 + 5)), (6, .int x219), (5, .int x213), (0, .ref b), (1, .ref (a 0)), (2, .ref (am 0)), (3, .ref q)]) C.1 C.2.1 dL_law_1201 hl (k := 6) rfl rfl (by decide) rfl (fun ls hl => ?_)
              refine lv_goto (tgt := 23) C.1 C.2.1 dL_law_1204 (by decide) ?_
              exact ih9 S213 T219 g213 (v4 + 5) h _ _ (by omega) (by omega) (by rw [hst5]; omega) (by rw [hst5]; omega) _ _ hPX hPM hPO hS ls (lv_sub hl [3, 4, 5, 6, 0] rfl)
            · refine lv_iconst (v := 0) C.1 C.2.1 dL_law_250 (by decide) ?_
              exact absurd h (by decide)
        · refine lv_iconst (v := 0) C.1 C.2.1 dL_law_233 (by decide) ?_
          exact absurd h (by decide)
      · have h := if_h h c39_1
        by_cases c39_2 : (((xs (v4 : Int32).toNatClampNeg) &&& 31) : Int32) = 2
        · have h := it_h h c39_2
          refine lv_tableIn (off := 216) (tgt := 255) C.1 C.2.1 dL_law_39 (by rw [c39_2]; decide) (by rw [c39_2]; decide) (by rw [c39_2]; rfl) (by decide) ?_
          refine lv_aload_n C.1 C.2.1 dL_law_255 rfl (lv_at hl 1 rfl) ?_
          refine lv_aload_n C.1 C.2.1 dL_law_256 rfl (lv_at hl 0 rfl) ?_
          refine lv_iload C.1 C.2.1 dL_law_257 (lv_at hl 4 rfl) ?_
          refine lv_iconst (v := 1) C.1 C.2.1 dL_law_259 (by decide) ?_
          refine lv_iadd C.1 C.2.1 dL_law_260 ?_
          refine k_sld C hX hbl hbA hS h dL_law_261 (fun _ h => ?_)
          refine lv_aload_n C.1 C.2.1 dL_law_262 rfl (lv_at hl 3 rfl) ?_
          refine kL_wrap C hK hPX hPM hPO (hDo _ _ _) hS hA hE [.ref (a 0), .int (xs ((v4 + 1) : Int32).toNatClampNeg), .ref q] h (fun v Y e => tL_proof hfl e) (cw_L_82 C.2.2.2.2) rfl hl.1 (Nat.le_of_ble_eq_true rfl) ⟨(show nc + 1 ≤ 1063 by omega), (show ns + 6 ≤ 9959 by omega)⟩ dL_law_263 rfl (fun x263 S263 g263 H locs e263 h hPX hPM hPO hS => ?_)
          refine lv_istore (lv' := [(5, .int x263), (0, .ref b), (1, .ref (a 0)), (2, .ref (am 0)), (3, .ref q), (4, .int v4)]) C.1 C.2.1 dL_law_266 hl (by decide) rfl (fun ls hl => ?_)
          refine lv_aload_n C.1 C.2.1 dL_law_268 rfl (lv_at hl 3 rfl) ?_
          refine lv_aload_n C.1 C.2.1 dL_law_269 rfl (lv_at hl 1 rfl) ?_
          refine lv_iload C.1 C.2.1 dL_law_270 (lv_at hl 5 rfl) ?_
          refine lv_iconst (v := 1) C.1 C.2.1 dL_law_272 (by decide) ?_
          refine lv_iadd C.1 C.2.1 dL_law_273 ?_
          refine k_sld C hX hbl hbA hS h dL_law_274 (fun _ h => ?_)
          refine k_rwRi (w := wM cI cZ am) (wr := wX cI cZ a S263 ++ wO cL q g263) C hK2 hPM (va_P.app hPX hPO) (hDm _ _ _) hS hA [.int (xs ((v4 + 1) : Int32).toNatClampNeg)] (wM_rv hK2 hPM) h (fun v S2 e => tX1_proof e) (cw_L_85 C.2.2.2.2) rfl hl.1 (Nat.le_of_ble_eq_true rfl) ⟨(show nc + 1 + 0 ≤ 1063 by omega), (show ns + 6 + 0 ≤ 9959 by omega)⟩ dL_law_275 rfl (fun x275 T275 H locs e275 h hPM hPR hS => ?_)
          have hPX := P_left hPR
          have hPO := P_right (w1 := wX cI cZ a S263) hPR
          refine lv_istore (lv' := [(6, .int x275), (5, .int x263), (0, .ref b), (1, .ref (a 0)), (2, .ref (am 0)), (3, .ref q), (4, .int v4)]) C.1 C.2.1 dL_law_278 hl (by decide) rfl (fun ls hl => ?_)
          refine lv_aload_n C.1 C.2.1 dL_law_280 rfl (lv_at hl 4 rfl) ?_
          refine k_roVi C hK2 hPM [] (wM_rv hK2 hPM) h (fun v e => tX1_thrown e) (cw_L_75 C.2.2.2.2) rfl hl.1 (Nat.le_of_ble_eq_true rfl) ⟨(show nc + 1 + 0 ≤ 1063 by omega), (show ns + 6 + 0 ≤ 9959 by omega)⟩ dL_law_281 rfl (fun x281 e281 h => ?_)
          refine lv_iload C.1 C.2.1 dL_law_284 (lv_at hl 1 rfl) ?_
          refine k_icmp_eq (tgt := 291) C dL_law_286 (by decide) h (fun c286 h => ?_) (fun c286 h => ?_)
          · refine lv_iload C.1 C.2.1 dL_law_291 (lv_at hl 1 rfl) ?_
            refine k_if_ne (tgt := 308) C dL_law_293 (by decide) h (fun c293 h => ?_) (fun c293 h => ?_)
            · refine lv_goto (tgt := 1201) C.1 C.2.1 dL_law_308 (by decide) ?_
              refine lv_iinc (v := (v4 + 5)) (lv' := [(4, .int (v4 + 5)), (6, .int x275), (5, .int x263), (0, .ref b), (1, .ref (a 0)), (2, .ref (am 0)), (3, .ref q)]) C.1 C.2.1 dL_law_1201 hl (k := 6) rfl rfl (by decide) rfl (fun ls hl => ?_)
              refine lv_goto (tgt := 23) C.1 C.2.1 dL_law_1204 (by decide) ?_
              exact ih9 S263 T275 g263 (v4 + 5) h _ _ (by omega) (by omega) (by rw [hst5]; omega) (by rw [hst5]; omega) _ _ hPX hPM hPO hS ls (lv_sub hl [3, 4, 5, 6, 0] rfl)
            · refine lv_aload_n C.1 C.2.1 dL_law_296 rfl (lv_at hl 5 rfl) ?_
              refine lv_iconst (v := 0) C.1 C.2.1 dL_law_297 (by decide) ?_
              refine k_lld C hK hPO 0 2 rfl rfl h dL_law_298 (fun h => ?_)
              refine lv_iload C.1 C.2.1 dL_law_299 (lv_at hl 0 rfl) ?_
              refine lv_i2l (v := (x275 : Int32).toInt64) C.1 C.2.1 dL_law_301 rfl ?_
              refine W.lcmp C.1 C.2.1 dL_law_302 ?_
              refine k_if_eq (tgt := 308) C dL_law_303 (by decide) h (fun c303 h => ?_) (fun c303 h => ?_)
              · refine lv_goto (tgt := 1201) C.1 C.2.1 dL_law_308 (by decide) ?_
                refine lv_iinc (v := (v4 + 5)) (lv' := [(4, .int (v4 + 5)), (6, .int x275), (5, .int x263), (0, .ref b), (1, .ref (a 0)), (2, .ref (am 0)), (3, .ref q)]) C.1 C.2.1 dL_law_1201 hl (k := 6) rfl rfl (by decide) rfl (fun ls hl => ?_)
                refine lv_goto (tgt := 23) C.1 C.2.1 dL_law_1204 (by decide) ?_
                exact ih9 S263 T275 g263 (v4 + 5) h _ _ (by omega) (by omega) (by rw [hst5]; omega) (by rw [hst5]; omega) _ _ hPX hPM hPO hS ls (lv_sub hl [3, 4, 5, 6, 0] rfl)
              · refine lv_iconst (v := 0) C.1 C.2.1 dL_law_306 (by decide) ?_
                exact absurd h (by decide)
          · refine lv_iconst (v := 0) C.1 C.2.1 dL_law_289 (by decide) ?_
            exact absurd h (by decide)
        · have h := if_h h c39_2
          by_cases c39_3 : (((xs (v4 : Int32).toNatClampNeg) &&& 31) : Int32) = 3
          · have h := it_h h c39_3
            refine lv_tableIn (off := 272) (tgt := 311) C.1 C.2.1 dL_law_39 (by rw [c39_3]; decide) (by rw [c39_3]; decide) (by rw [c39_3]; rfl) (by decide) ?_
            refine lv_aload_n C.1 C.2.1 dL_law_311 rfl (lv_at hl 1 rfl) ?_
            refine lv_aload_n C.1 C.2.1 dL_law_312 rfl (lv_at hl 0 rfl) ?_
            refine lv_iload C.1 C.2.1 dL_law_313 (lv_at hl 4 rfl) ?_
            refine lv_iconst (v := 1) C.1 C.2.1 dL_law_315 (by decide) ?_
            refine lv_iadd C.1 C.2.1 dL_law_316 ?_
            refine k_sld C hX hbl hbA hS h dL_law_317 (fun _ h => ?_)
            refine lv_aload_n C.1 C.2.1 dL_law_318 rfl (lv_at hl 0 rfl) ?_
            refine lv_iload C.1 C.2.1 dL_law_319 (lv_at hl 4 rfl) ?_
            refine lv_iconst (v := 2) C.1 C.2.1 dL_law_321 (by decide) ?_
            refine lv_iadd C.1 C.2.1 dL_law_322 ?_
            refine k_sld C hX hbl hbA hS h dL_law_323 (fun _ h => ?_)
            refine lv_aload_n C.1 C.2.1 dL_law_324 rfl (lv_at hl 0 rfl) ?_
            refine lv_iload C.1 C.2.1 dL_law_325 (lv_at hl 4 rfl) ?_
            refine lv_iconst (v := 3) C.1 C.2.1 dL_law_327 (by decide) ?_
            refine lv_iadd C.1 C.2.1 dL_law_328 ?_
            refine k_sld C hX hbl hbA hS h dL_law_329 (fun _ h => ?_)
            refine lv_aload_n C.1 C.2.1 dL_law_330 rfl (lv_at hl 0 rfl) ?_
            refine lv_iload C.1 C.2.1 dL_law_331 (lv_at hl 4 rfl) ?_
            refine lv_iconst (v := 4) C.1 C.2.1 dL_law_333 (by decide) ?_
            refine lv_iadd C.1 C.2.1 dL_law_334 ?_
            refine k_sld C hX hbl hbA hS h dL_law_335 (fun _ h => ?_)
            refine lv_aload_n C.1 C.2.1 dL_law_336 rfl (lv_at hl 3 rfl) ?_
            refine kL_wrap C hK hPX hPM hPO (hDo _ _ _) hS hA hE [.ref (a 0), .int (xs ((v4 + 1) : Int32).toNatClampNeg), .int (xs ((v4 + 2) : Int32).toNatClampNeg), .int (xs ((v4 + 3) : Int32).toNatClampNeg), .int (xs ((v4 + 4) : Int32).toNatClampNeg), .ref q] h (fun v Y e => tL_cite hfl e) (cw_L_86 C.2.2.2.2) rfl hl.1 (Nat.le_of_ble_eq_true rfl) ⟨(show nc + 1 ≤ 1063 by omega), (show ns + 6 ≤ 9959 by omega)⟩ dL_law_337 rfl (fun x337 S337 g337 H locs e337 h hPX hPM hPO hS => ?_)
            refine lv_istore (lv' := [(5, .int x337), (0, .ref b), (1, .ref (a 0)), (2, .ref (am 0)), (3, .ref q), (4, .int v4)]) C.1 C.2.1 dL_law_340 hl (by decide) rfl (fun ls hl => ?_)
            refine lv_aload_n C.1 C.2.1 dL_law_342 rfl (lv_at hl 3 rfl) ?_
            refine lv_aload_n C.1 C.2.1 dL_law_343 rfl (lv_at hl 1 rfl) ?_
            refine lv_iload C.1 C.2.1 dL_law_344 (lv_at hl 5 rfl) ?_
            refine lv_iconst (v := 1) C.1 C.2.1 dL_law_346 (by decide) ?_
            refine lv_iadd C.1 C.2.1 dL_law_347 ?_
            refine k_sld C hX hbl hbA hS h dL_law_348 (fun _ h => ?_)
            refine lv_aload_n C.1 C.2.1 dL_law_349 rfl (lv_at hl 1 rfl) ?_
            refine lv_iload C.1 C.2.1 dL_law_350 (lv_at hl 5 rfl) ?_
            refine lv_iconst (v := 2) C.1 C.2.1 dL_law_352 (by decide) ?_
            refine lv_iadd C.1 C.2.1 dL_law_353 ?_
            refine k_sld C hX hbl hbA hS h dL_law_354 (fun _ h => ?_)
            refine lv_aload_n C.1 C.2.1 dL_law_355 rfl (lv_at hl 1 rfl) ?_
            refine lv_iload C.1 C.2.1 dL_law_356 (lv_at hl 5 rfl) ?_
            refine lv_iconst (v := 3) C.1 C.2.1 dL_law_358 (by decide) ?_
            refine lv_iadd C.1 C.2.1 dL_law_359 ?_
            refine k_sld C hX hbl hbA hS h dL_law_360 (fun _ h => ?_)
            refine lv_aload_n C.1 C.2.1 dL_law_361 rfl (lv_at hl 1 rfl) ?_
            refine lv_iload C.1 C.2.1 dL_law_362 (lv_at hl 5 rfl) ?_
            refine lv_iconst (v := 4) C.1 C.2.1 dL_law_364 (by decide) ?_
            refine lv_iadd C.1 C.2.1 dL_law_365 ?_
            refine k_sld C hX hbl hbA hS h dL_law_366 (fun _ h => ?_)
            refine k_rwRi (w := wM cI cZ am) (wr := wX cI cZ a S337 ++ wO cL q g337) C hK2 hPM (va_P.app hPX hPO) (hDm _ _ _) hS hA [.int (xs ((v4 + 1) : Int32).toNatClampNeg), .int (xs ((v4 + 2) : Int32).toNatClampNeg), .int (xs ((v4 + 3) : Int32).toNatClampNeg), .int (xs ((v4 + 4) : Int32).toNatClampNeg)] (wM_rv hK2 hPM) h (fun v S2 e => tX1_cite e) (cw_L_89 C.2.2.2.2) rfl hl.1 (Nat.le_of_ble_eq_true rfl) ⟨(show nc + 1 + 0 ≤ 1063 by omega), (show ns + 6 + 0 ≤ 9959 by omega)⟩ dL_law_367 rfl (fun x367 T367 H locs e367 h hPM hPR hS => ?_)
            have hPX := P_left hPR
            have hPO := P_right (w1 := wX cI cZ a S337) hPR
            refine lv_istore (lv' := [(6, .int x367), (5, .int x337), (0, .ref b), (1, .ref (a 0)), (2, .ref (am 0)), (3, .ref q), (4, .int v4)]) C.1 C.2.1 dL_law_370 hl (by decide) rfl (fun ls hl => ?_)
            refine lv_aload_n C.1 C.2.1 dL_law_372 rfl (lv_at hl 4 rfl) ?_
            refine k_roVi C hK2 hPM [] (wM_rv hK2 hPM) h (fun v e => tX1_thrown e) (cw_L_75 C.2.2.2.2) rfl hl.1 (Nat.le_of_ble_eq_true rfl) ⟨(show nc + 1 + 0 ≤ 1063 by omega), (show ns + 6 + 0 ≤ 9959 by omega)⟩ dL_law_373 rfl (fun x373 e373 h => ?_)
            refine lv_iload C.1 C.2.1 dL_law_376 (lv_at hl 1 rfl) ?_
            refine k_icmp_eq (tgt := 383) C dL_law_378 (by decide) h (fun c378 h => ?_) (fun c378 h => ?_)
            · refine lv_iload C.1 C.2.1 dL_law_383 (lv_at hl 1 rfl) ?_
              refine k_if_ne (tgt := 400) C dL_law_385 (by decide) h (fun c385 h => ?_) (fun c385 h => ?_)
              · refine lv_goto (tgt := 1201) C.1 C.2.1 dL_law_400 (by decide) ?_
                refine lv_iinc (v := (v4 + 5)) (lv' := [(4, .int (v4 + 5)), (6, .int x367), (5, .int x337), (0, .ref b), (1, .ref (a 0)), (2, .ref (am 0)), (3, .ref q)]) C.1 C.2.1 dL_law_1201 hl (k := 6) rfl rfl (by decide) rfl (fun ls hl => ?_)
                refine lv_goto (tgt := 23) C.1 C.2.1 dL_law_1204 (by decide) ?_
                exact ih9 S337 T367 g337 (v4 + 5) h _ _ (by omega) (by omega) (by rw [hst5]; omega) (by rw [hst5]; omega) _ _ hPX hPM hPO hS ls (lv_sub hl [3, 4, 5, 6, 0] rfl)
              · refine lv_aload_n C.1 C.2.1 dL_law_388 rfl (lv_at hl 5 rfl) ?_
                refine lv_iconst (v := 0) C.1 C.2.1 dL_law_389 (by decide) ?_
                refine k_lld C hK hPO 0 2 rfl rfl h dL_law_390 (fun h => ?_)
                refine lv_iload C.1 C.2.1 dL_law_391 (lv_at hl 0 rfl) ?_
                refine lv_i2l (v := (x367 : Int32).toInt64) C.1 C.2.1 dL_law_393 rfl ?_
                refine W.lcmp C.1 C.2.1 dL_law_394 ?_
                refine k_if_eq (tgt := 400) C dL_law_395 (by decide) h (fun c395 h => ?_) (fun c395 h => ?_)
                · refine lv_goto (tgt := 1201) C.1 C.2.1 dL_law_400 (by decide) ?_
                  refine lv_iinc (v := (v4 + 5)) (lv' := [(4, .int (v4 + 5)), (6, .int x367), (5, .int x337), (0, .ref b), (1, .ref (a 0)), (2, .ref (am 0)), (3, .ref q)]) C.1 C.2.1 dL_law_1201 hl (k := 6) rfl rfl (by decide) rfl (fun ls hl => ?_)
                  refine lv_goto (tgt := 23) C.1 C.2.1 dL_law_1204 (by decide) ?_
                  exact ih9 S337 T367 g337 (v4 + 5) h _ _ (by omega) (by omega) (by rw [hst5]; omega) (by rw [hst5]; omega) _ _ hPX hPM hPO hS ls (lv_sub hl [3, 4, 5, 6, 0] rfl)
                · refine lv_iconst (v := 0) C.1 C.2.1 dL_law_398 (by decide) ?_
                  exact absurd h (by decide)
            · refine lv_iconst (v := 0) C.1 C.2.1 dL_law_381 (by decide) ?_
              exact absurd h (by decide)
          · have h := if_h h c39_3
            by_cases c39_4 : (((xs (v4 : Int32).toNatClampNeg) &&& 31) : Int32) = 4
            · have h := it_h h c39_4
              refine lv_tableIn (off := 364) (tgt := 403) C.1 C.2.1 dL_law_39 (by rw [c39_4]; decide) (by rw [c39_4]; decide) (by rw [c39_4]; rfl) (by decide) ?_
              refine lv_aload_n C.1 C.2.1 dL_law_403 rfl (lv_at hl 1 rfl) ?_
              refine lv_aload_n C.1 C.2.1 dL_law_404 rfl (lv_at hl 0 rfl) ?_
              refine lv_iload C.1 C.2.1 dL_law_405 (lv_at hl 4 rfl) ?_
              refine lv_iconst (v := 1) C.1 C.2.1 dL_law_407 (by decide) ?_
              refine lv_iadd C.1 C.2.1 dL_law_408 ?_
              refine k_sld C hX hbl hbA hS h dL_law_409 (fun _ h => ?_)
              refine lv_aload_n C.1 C.2.1 dL_law_410 rfl (lv_at hl 0 rfl) ?_
              refine lv_iload C.1 C.2.1 dL_law_411 (lv_at hl 4 rfl) ?_
              refine lv_iconst (v := 2) C.1 C.2.1 dL_law_413 (by decide) ?_
              refine lv_iadd C.1 C.2.1 dL_law_414 ?_
              refine k_sld C hX hbl hbA hS h dL_law_415 (fun _ h => ?_)
              refine lv_aload_n C.1 C.2.1 dL_law_416 rfl (lv_at hl 0 rfl) ?_
              refine lv_iload C.1 C.2.1 dL_law_417 (lv_at hl 4 rfl) ?_
              refine lv_iconst (v := 3) C.1 C.2.1 dL_law_419 (by decide) ?_
              refine lv_iadd C.1 C.2.1 dL_law_420 ?_
              refine k_sld C hX hbl hbA hS h dL_law_421 (fun _ h => ?_)
              refine lv_aload_n C.1 C.2.1 dL_law_422 rfl (lv_at hl 0 rfl) ?_
              refine lv_iload C.1 C.2.1 dL_law_423 (lv_at hl 4 rfl) ?_
              refine lv_iconst (v := 4) C.1 C.2.1 dL_law_425 (by decide) ?_
              refine lv_iadd C.1 C.2.1 dL_law_426 ?_
              refine k_sld C hX hbl hbA hS h dL_law_427 (fun _ h => ?_)
              refine lv_aload_n C.1 C.2.1 dL_law_428 rfl (lv_at hl 3 rfl) ?_
              refine kL_wrap C hK hPX hPM hPO (hDo _ _ _) hS hA hE [.ref (a 0), .int (xs ((v4 + 1) : Int32).toNatClampNeg), .int (xs ((v4 + 2) : Int32).toNatClampNeg), .int (xs ((v4 + 3) : Int32).toNatClampNeg), .int (xs ((v4 + 4) : Int32).toNatClampNeg), .ref q] h (fun v Y e => tL_patch hfl e) (cw_L_90 C.2.2.2.2) rfl hl.1 (Nat.le_of_ble_eq_true rfl) ⟨(show nc + 1 ≤ 1063 by omega), (show ns + 6 ≤ 9959 by omega)⟩ dL_law_429 rfl (fun x429 S429 g429 H locs e429 h hPX hPM hPO hS => ?_)
              refine lv_istore (lv' := [(5, .int x429), (0, .ref b), (1, .ref (a 0)), (2, .ref (am 0)), (3, .ref q), (4, .int v4)]) C.1 C.2.1 dL_law_432 hl (by decide) rfl (fun ls hl => ?_)
              refine lv_aload_n C.1 C.2.1 dL_law_434 rfl (lv_at hl 3 rfl) ?_
              refine lv_aload_n C.1 C.2.1 dL_law_435 rfl (lv_at hl 1 rfl) ?_
              refine lv_iload C.1 C.2.1 dL_law_436 (lv_at hl 5 rfl) ?_
              refine lv_iconst (v := 1) C.1 C.2.1 dL_law_438 (by decide) ?_
              refine lv_iadd C.1 C.2.1 dL_law_439 ?_
              refine k_sld C hX hbl hbA hS h dL_law_440 (fun _ h => ?_)
              refine lv_aload_n C.1 C.2.1 dL_law_441 rfl (lv_at hl 1 rfl) ?_
              refine lv_iload C.1 C.2.1 dL_law_442 (lv_at hl 5 rfl) ?_
              refine lv_iconst (v := 2) C.1 C.2.1 dL_law_444 (by decide) ?_
              refine lv_iadd C.1 C.2.1 dL_law_445 ?_
              refine k_sld C hX hbl hbA hS h dL_law_446 (fun _ h => ?_)
              refine lv_aload_n C.1 C.2.1 dL_law_447 rfl (lv_at hl 1 rfl) ?_
              refine lv_iload C.1 C.2.1 dL_law_448 (lv_at hl 5 rfl) ?_
              refine lv_iconst (v := 3) C.1 C.2.1 dL_law_450 (by decide) ?_
              refine lv_iadd C.1 C.2.1 dL_law_451 ?_
              refine k_sld C hX hbl hbA hS h dL_law_452 (fun _ h => ?_)
              refine lv_aload_n C.1 C.2.1 dL_law_453 rfl (lv_at hl 1 rfl) ?_
              refine lv_iload C.1 C.2.1 dL_law_454 (lv_at hl 5 rfl) ?_
              refine lv_iconst (v := 4) C.1 C.2.1 dL_law_456 (by decide) ?_
              refine lv_iadd C.1 C.2.1 dL_law_457 ?_
              refine k_sld C hX hbl hbA hS h dL_law_458 (fun _ h => ?_)
              refine k_rwRi (w := wM cI cZ am) (wr := wX cI cZ a S429 ++ wO cL q g429) C hK2 hPM (va_P.app hPX hPO) (hDm _ _ _) hS hA [.int (xs ((v4 + 1) : Int32).toNatClampNeg), .int (xs ((v4 + 2) : Int32).toNatClampNeg), .int (xs ((v4 + 3) : Int32).toNatClampNeg), .int (xs ((v4 + 4) : Int32).toNatClampNeg)] (wM_rv hK2 hPM) h (fun v S2 e => tX1_patch e) (cw_L_92 C.2.2.2.2) rfl hl.1 (Nat.le_of_ble_eq_true rfl) ⟨(show nc + 1 + 0 ≤ 1063 by omega), (show ns + 6 + 0 ≤ 9959 by omega)⟩ dL_law_459 rfl (fun x459 T459 H locs e459 h hPM hPR hS => ?_)
              have hPX := P_left hPR
              have hPO := P_right (w1 := wX cI cZ a S429) hPR
              refine lv_istore (lv' := [(6, .int x459), (5, .int x429), (0, .ref b), (1, .ref (a 0)), (2, .ref (am 0)), (3, .ref q), (4, .int v4)]) C.1 C.2.1 dL_law_462 hl (by decide) rfl (fun ls hl => ?_)
              refine lv_aload_n C.1 C.2.1 dL_law_464 rfl (lv_at hl 4 rfl) ?_
              refine k_roVi C hK2 hPM [] (wM_rv hK2 hPM) h (fun v e => tX1_thrown e) (cw_L_75 C.2.2.2.2) rfl hl.1 (Nat.le_of_ble_eq_true rfl) ⟨(show nc + 1 + 0 ≤ 1063 by omega), (show ns + 6 + 0 ≤ 9959 by omega)⟩ dL_law_465 rfl (fun x465 e465 h => ?_)
              refine lv_iload C.1 C.2.1 dL_law_468 (lv_at hl 1 rfl) ?_
              refine k_icmp_eq (tgt := 475) C dL_law_470 (by decide) h (fun c470 h => ?_) (fun c470 h => ?_)
              · refine lv_iload C.1 C.2.1 dL_law_475 (lv_at hl 1 rfl) ?_
                refine k_if_ne (tgt := 492) C dL_law_477 (by decide) h (fun c477 h => ?_) (fun c477 h => ?_)
                · refine lv_goto (tgt := 1201) C.1 C.2.1 dL_law_492 (by decide) ?_
                  refine lv_iinc (v := (v4 + 5)) (lv' := [(4, .int (v4 + 5)), (6, .int x459), (5, .int x429), (0, .ref b), (1, .ref (a 0)), (2, .ref (am 0)), (3, .ref q)]) C.1 C.2.1 dL_law_1201 hl (k := 6) rfl rfl (by decide) rfl (fun ls hl => ?_)
                  refine lv_goto (tgt := 23) C.1 C.2.1 dL_law_1204 (by decide) ?_
                  exact ih9 S429 T459 g429 (v4 + 5) h _ _ (by omega) (by omega) (by rw [hst5]; omega) (by rw [hst5]; omega) _ _ hPX hPM hPO hS ls (lv_sub hl [3, 4, 5, 6, 0] rfl)
                · refine lv_aload_n C.1 C.2.1 dL_law_480 rfl (lv_at hl 5 rfl) ?_
                  refine lv_iconst (v := 0) C.1 C.2.1 dL_law_481 (by decide) ?_
                  refine k_lld C hK hPO 0 2 rfl rfl h dL_law_482 (fun h => ?_)
                  refine lv_iload C.1 C.2.1 dL_law_483 (lv_at hl 0 rfl) ?_
                  refine lv_i2l (v := (x459 : Int32).toInt64) C.1 C.2.1 dL_law_485 rfl ?_
                  refine W.lcmp C.1 C.2.1 dL_law_486 ?_
                  refine k_if_eq (tgt := 492) C dL_law_487 (by decide) h (fun c487 h => ?_) (fun c487 h => ?_)
                  · refine lv_goto (tgt := 1201) C.1 C.2.1 dL_law_492 (by decide) ?_
                    refine lv_iinc (v := (v4 + 5)) (lv' := [(4, .int (v4 + 5)), (6, .int x459), (5, .int x429), (0, .ref b), (1, .ref (a 0)), (2, .ref (am 0)), (3, .ref q)]) C.1 C.2.1 dL_law_1201 hl (k := 6) rfl rfl (by decide) rfl (fun ls hl => ?_)
                    refine lv_goto (tgt := 23) C.1 C.2.1 dL_law_1204 (by decide) ?_
                    exact ih9 S429 T459 g429 (v4 + 5) h _ _ (by omega) (by omega) (by rw [hst5]; omega) (by rw [hst5]; omega) _ _ hPX hPM hPO hS ls (lv_sub hl [3, 4, 5, 6, 0] rfl)
                  · refine lv_iconst (v := 0) C.1 C.2.1 dL_law_490 (by decide) ?_
                    exact absurd h (by decide)
              · refine lv_iconst (v := 0) C.1 C.2.1 dL_law_473 (by decide) ?_
                exact absurd h (by decide)
            · have h := if_h h c39_4
              by_cases c39_5 : (((xs (v4 : Int32).toNatClampNeg) &&& 31) : Int32) = 5
              · have h := it_h h c39_5
                refine lv_tableIn (off := 456) (tgt := 495) C.1 C.2.1 dL_law_39 (by rw [c39_5]; decide) (by rw [c39_5]; decide) (by rw [c39_5]; rfl) (by decide) ?_
                refine lv_aload_n C.1 C.2.1 dL_law_495 rfl (lv_at hl 1 rfl) ?_
                refine lv_aload_n C.1 C.2.1 dL_law_496 rfl (lv_at hl 0 rfl) ?_
                refine lv_iload C.1 C.2.1 dL_law_497 (lv_at hl 4 rfl) ?_
                refine lv_iconst (v := 1) C.1 C.2.1 dL_law_499 (by decide) ?_
                refine lv_iadd C.1 C.2.1 dL_law_500 ?_
                refine k_sld C hX hbl hbA hS h dL_law_501 (fun _ h => ?_)
                refine lv_aload_n C.1 C.2.1 dL_law_502 rfl (lv_at hl 0 rfl) ?_
                refine lv_iload C.1 C.2.1 dL_law_503 (lv_at hl 4 rfl) ?_
                refine lv_iconst (v := 2) C.1 C.2.1 dL_law_505 (by decide) ?_
                refine lv_iadd C.1 C.2.1 dL_law_506 ?_
                refine k_sld C hX hbl hbA hS h dL_law_507 (fun _ h => ?_)
                refine lv_aload_n C.1 C.2.1 dL_law_508 rfl (lv_at hl 0 rfl) ?_
                refine lv_iload C.1 C.2.1 dL_law_509 (lv_at hl 4 rfl) ?_
                refine lv_iconst (v := 3) C.1 C.2.1 dL_law_511 (by decide) ?_
                refine lv_iadd C.1 C.2.1 dL_law_512 ?_
                refine k_sld C hX hbl hbA hS h dL_law_513 (fun _ h => ?_)
                refine lv_aload_n C.1 C.2.1 dL_law_514 rfl (lv_at hl 3 rfl) ?_
                refine kL_wrap C hK hPX hPM hPO (hDo _ _ _) hS hA hE [.ref (a 0), .int (xs ((v4 + 1) : Int32).toNatClampNeg), .int (xs ((v4 + 2) : Int32).toNatClampNeg), .int (xs ((v4 + 3) : Int32).toNatClampNeg), .ref q] h (fun v Y e => tL_withdraw hfl e) (cw_L_93 C.2.2.2.2) rfl hl.1 (Nat.le_of_ble_eq_true rfl) ⟨(show nc + 1 ≤ 1063 by omega), (show ns + 6 ≤ 9959 by omega)⟩ dL_law_515 rfl (fun x515 S515 g515 H locs e515 h hPX hPM hPO hS => ?_)
                refine lv_istore (lv' := [(5, .int x515), (0, .ref b), (1, .ref (a 0)), (2, .ref (am 0)), (3, .ref q), (4, .int v4)]) C.1 C.2.1 dL_law_518 hl (by decide) rfl (fun ls hl => ?_)
                refine lv_aload_n C.1 C.2.1 dL_law_520 rfl (lv_at hl 3 rfl) ?_
                refine lv_aload_n C.1 C.2.1 dL_law_521 rfl (lv_at hl 1 rfl) ?_
                refine lv_iload C.1 C.2.1 dL_law_522 (lv_at hl 5 rfl) ?_
                refine lv_iconst (v := 1) C.1 C.2.1 dL_law_524 (by decide) ?_
                refine lv_iadd C.1 C.2.1 dL_law_525 ?_
                refine k_sld C hX hbl hbA hS h dL_law_526 (fun _ h => ?_)
                refine lv_aload_n C.1 C.2.1 dL_law_527 rfl (lv_at hl 1 rfl) ?_
                refine lv_iload C.1 C.2.1 dL_law_528 (lv_at hl 5 rfl) ?_
                refine lv_iconst (v := 2) C.1 C.2.1 dL_law_530 (by decide) ?_
                refine lv_iadd C.1 C.2.1 dL_law_531 ?_
                refine k_sld C hX hbl hbA hS h dL_law_532 (fun _ h => ?_)
                refine lv_aload_n C.1 C.2.1 dL_law_533 rfl (lv_at hl 1 rfl) ?_
                refine lv_iload C.1 C.2.1 dL_law_534 (lv_at hl 5 rfl) ?_
                refine lv_iconst (v := 3) C.1 C.2.1 dL_law_536 (by decide) ?_
                refine lv_iadd C.1 C.2.1 dL_law_537 ?_
                refine k_sld C hX hbl hbA hS h dL_law_538 (fun _ h => ?_)
                refine k_rwRi (w := wM cI cZ am) (wr := wX cI cZ a S515 ++ wO cL q g515) C hK2 hPM (va_P.app hPX hPO) (hDm _ _ _) hS hA [.int (xs ((v4 + 1) : Int32).toNatClampNeg), .int (xs ((v4 + 2) : Int32).toNatClampNeg), .int (xs ((v4 + 3) : Int32).toNatClampNeg)] (wM_rv hK2 hPM) h (fun v S2 e => tX1_withdraw e) (cw_L_96 C.2.2.2.2) rfl hl.1 (Nat.le_of_ble_eq_true rfl) ⟨(show nc + 1 + 0 ≤ 1063 by omega), (show ns + 6 + 0 ≤ 9959 by omega)⟩ dL_law_539 rfl (fun x539 T539 H locs e539 h hPM hPR hS => ?_)
                have hPX := P_left hPR
                have hPO := P_right (w1 := wX cI cZ a S515) hPR
                refine lv_istore (lv' := [(6, .int x539), (5, .int x515), (0, .ref b), (1, .ref (a 0)), (2, .ref (am 0)), (3, .ref q), (4, .int v4)]) C.1 C.2.1 dL_law_542 hl (by decide) rfl (fun ls hl => ?_)
                refine lv_aload_n C.1 C.2.1 dL_law_544 rfl (lv_at hl 4 rfl) ?_
                refine k_roVi C hK2 hPM [] (wM_rv hK2 hPM) h (fun v e => tX1_thrown e) (cw_L_75 C.2.2.2.2) rfl hl.1 (Nat.le_of_ble_eq_true rfl) ⟨(show nc + 1 + 0 ≤ 1063 by omega), (show ns + 6 + 0 ≤ 9959 by omega)⟩ dL_law_545 rfl (fun x545 e545 h => ?_)
                refine lv_iload C.1 C.2.1 dL_law_548 (lv_at hl 1 rfl) ?_
                refine k_icmp_eq (tgt := 555) C dL_law_550 (by decide) h (fun c550 h => ?_) (fun c550 h => ?_)
                · refine lv_iload C.1 C.2.1 dL_law_555 (lv_at hl 1 rfl) ?_
                  refine k_if_ne (tgt := 579) C dL_law_557 (by decide) h (fun c557 h => ?_) (fun c557 h => ?_)
                  · refine lv_goto (tgt := 1201) C.1 C.2.1 dL_law_579 (by decide) ?_
                    refine lv_iinc (v := (v4 + 5)) (lv' := [(4, .int (v4 + 5)), (6, .int x539), (5, .int x515), (0, .ref b), (1, .ref (a 0)), (2, .ref (am 0)), (3, .ref q)]) C.1 C.2.1 dL_law_1201 hl (k := 6) rfl rfl (by decide) rfl (fun ls hl => ?_)
                    refine lv_goto (tgt := 23) C.1 C.2.1 dL_law_1204 (by decide) ?_
                    exact ih9 S515 T539 g515 (v4 + 5) h _ _ (by omega) (by omega) (by rw [hst5]; omega) (by rw [hst5]; omega) _ _ hPX hPM hPO hS ls (lv_sub hl [3, 4, 5, 6, 0] rfl)
                  · refine lv_aload_n C.1 C.2.1 dL_law_560 rfl (lv_at hl 5 rfl) ?_
                    refine lv_iconst (v := 0) C.1 C.2.1 dL_law_561 (by decide) ?_
                    refine k_lld C hK hPO 0 2 rfl rfl h dL_law_562 (fun h => ?_)
                    refine lv_iload C.1 C.2.1 dL_law_563 (lv_at hl 0 rfl) ?_
                    refine k_if_eq (tgt := 572) C dL_law_565 (by decide) h (fun c565 h => ?_) (fun c565 h => ?_)
                    · refine lv_lconst (v := 0) C.1 C.2.1 dL_law_572 (by decide) ?_
                      refine W.lcmp C.1 C.2.1 dL_law_573 ?_
                      refine k_if_eq (tgt := 579) C dL_law_574 (by decide) h (fun c574 h => ?_) (fun c574 h => ?_)
                      · refine lv_goto (tgt := 1201) C.1 C.2.1 dL_law_579 (by decide) ?_
                        refine lv_iinc (v := (v4 + 5)) (lv' := [(4, .int (v4 + 5)), (6, .int x539), (5, .int x515), (0, .ref b), (1, .ref (a 0)), (2, .ref (am 0)), (3, .ref q)]) C.1 C.2.1 dL_law_1201 hl (k := 6) rfl rfl (by decide) rfl (fun ls hl => ?_)
                        refine lv_goto (tgt := 23) C.1 C.2.1 dL_law_1204 (by decide) ?_
                        exact ih9 S515 T539 g515 (v4 + 5) h _ _ (by omega) (by omega) (by rw [hst5]; omega) (by rw [hst5]; omega) _ _ hPX hPM hPO hS ls (lv_sub hl [3, 4, 5, 6, 0] rfl)
                      · refine lv_iconst (v := 0) C.1 C.2.1 dL_law_577 (by decide) ?_
                        exact absurd h (by decide)
                    · refine lv_lconst (v := 1) C.1 C.2.1 dL_law_568 (by decide) ?_
                      refine lv_goto (tgt := 573) C.1 C.2.1 dL_law_569 (by decide) ?_
                      refine W.lcmp C.1 C.2.1 dL_law_573 ?_
                      refine k_if_eq (tgt := 579) C dL_law_574 (by decide) h (fun c574 h => ?_) (fun c574 h => ?_)
                      · refine lv_goto (tgt := 1201) C.1 C.2.1 dL_law_579 (by decide) ?_
                        refine lv_iinc (v := (v4 + 5)) (lv' := [(4, .int (v4 + 5)), (6, .int x539), (5, .int x515), (0, .ref b), (1, .ref (a 0)), (2, .ref (am 0)), (3, .ref q)]) C.1 C.2.1 dL_law_1201 hl (k := 6) rfl rfl (by decide) rfl (fun ls hl => ?_)
                        refine lv_goto (tgt := 23) C.1 C.2.1 dL_law_1204 (by decide) ?_
                        exact ih9 S515 T539 g515 (v4 + 5) h _ _ (by omega) (by omega) (by rw [hst5]; omega) (by rw [hst5]; omega) _ _ hPX hPM hPO hS ls (lv_sub hl [3, 4, 5, 6, 0] rfl)
                      · refine lv_iconst (v := 0) C.1 C.2.1 dL_law_577 (by decide) ?_
                        exact absurd h (by decide)
                · refine lv_iconst (v := 0) C.1 C.2.1 dL_law_553 (by decide) ?_
                  exact absurd h (by decide)
              · have h := if_h h c39_5
                by_cases c39_6 : (((xs (v4 : Int32).toNatClampNeg) &&& 31) : Int32) = 6
                · have h := it_h h c39_6
                  refine lv_tableIn (off := 543) (tgt := 582) C.1 C.2.1 dL_law_39 (by rw [c39_6]; decide) (by rw [c39_6]; decide) (by rw [c39_6]; rfl) (by decide) ?_
                  refine lv_aload_n C.1 C.2.1 dL_law_582 rfl (lv_at hl 1 rfl) ?_
                  refine lv_aload_n C.1 C.2.1 dL_law_583 rfl (lv_at hl 0 rfl) ?_
                  refine lv_iload C.1 C.2.1 dL_law_584 (lv_at hl 4 rfl) ?_
                  refine lv_iconst (v := 1) C.1 C.2.1 dL_law_586 (by decide) ?_
                  refine lv_iadd C.1 C.2.1 dL_law_587 ?_
                  refine k_sld C hX hbl hbA hS h dL_law_588 (fun _ h => ?_)
                  refine lv_aload_n C.1 C.2.1 dL_law_589 rfl (lv_at hl 0 rfl) ?_
                  refine lv_iload C.1 C.2.1 dL_law_590 (lv_at hl 4 rfl) ?_
                  refine lv_iconst (v := 2) C.1 C.2.1 dL_law_592 (by decide) ?_
                  refine lv_iadd C.1 C.2.1 dL_law_593 ?_
                  refine k_sld C hX hbl hbA hS h dL_law_594 (fun _ h => ?_)
                  refine lv_aload_n C.1 C.2.1 dL_law_595 rfl (lv_at hl 3 rfl) ?_
                  refine kL_wrap C hK hPX hPM hPO (hDo _ _ _) hS hA hE [.ref (a 0), .int (xs ((v4 + 1) : Int32).toNatClampNeg), .int (xs ((v4 + 2) : Int32).toNatClampNeg), .ref q] h (fun v Y e => tL_strike hfl e) (cw_L_97 C.2.2.2.2) rfl hl.1 (Nat.le_of_ble_eq_true rfl) ⟨(show nc + 1 ≤ 1063 by omega), (show ns + 6 ≤ 9959 by omega)⟩ dL_law_596 rfl (fun x596 S596 g596 H locs e596 h hPX hPM hPO hS => ?_)
                  refine lv_istore (lv' := [(5, .int x596), (0, .ref b), (1, .ref (a 0)), (2, .ref (am 0)), (3, .ref q), (4, .int v4)]) C.1 C.2.1 dL_law_599 hl (by decide) rfl (fun ls hl => ?_)
                  refine lv_aload_n C.1 C.2.1 dL_law_601 rfl (lv_at hl 3 rfl) ?_
                  refine lv_aload_n C.1 C.2.1 dL_law_602 rfl (lv_at hl 1 rfl) ?_
                  refine lv_iload C.1 C.2.1 dL_law_603 (lv_at hl 5 rfl) ?_
                  refine lv_iconst (v := 1) C.1 C.2.1 dL_law_605 (by decide) ?_
                  refine lv_iadd C.1 C.2.1 dL_law_606 ?_
                  refine k_sld C hX hbl hbA hS h dL_law_607 (fun _ h => ?_)
                  refine lv_aload_n C.1 C.2.1 dL_law_608 rfl (lv_at hl 1 rfl) ?_
                  refine lv_iload C.1 C.2.1 dL_law_609 (lv_at hl 5 rfl) ?_
                  refine lv_iconst (v := 2) C.1 C.2.1 dL_law_611 (by decide) ?_
                  refine lv_iadd C.1 C.2.1 dL_law_612 ?_
                  refine k_sld C hX hbl hbA hS h dL_law_613 (fun _ h => ?_)
                  refine k_rwRi (w := wM cI cZ am) (wr := wX cI cZ a S596 ++ wO cL q g596) C hK2 hPM (va_P.app hPX hPO) (hDm _ _ _) hS hA [.int (xs ((v4 + 1) : Int32).toNatClampNeg), .int (xs ((v4 + 2) : Int32).toNatClampNeg)] (wM_rv hK2 hPM) h (fun v S2 e => tX1_strike e) (cw_L_100 C.2.2.2.2) rfl hl.1 (Nat.le_of_ble_eq_true rfl) ⟨(show nc + 1 + 0 ≤ 1063 by omega), (show ns + 6 + 0 ≤ 9959 by omega)⟩ dL_law_614 rfl (fun x614 T614 H locs e614 h hPM hPR hS => ?_)
                  have hPX := P_left hPR
                  have hPO := P_right (w1 := wX cI cZ a S596) hPR
                  refine lv_istore (lv' := [(6, .int x614), (5, .int x596), (0, .ref b), (1, .ref (a 0)), (2, .ref (am 0)), (3, .ref q), (4, .int v4)]) C.1 C.2.1 dL_law_617 hl (by decide) rfl (fun ls hl => ?_)
                  refine lv_aload_n C.1 C.2.1 dL_law_619 rfl (lv_at hl 4 rfl) ?_
                  refine k_roVi C hK2 hPM [] (wM_rv hK2 hPM) h (fun v e => tX1_thrown e) (cw_L_75 C.2.2.2.2) rfl hl.1 (Nat.le_of_ble_eq_true rfl) ⟨(show nc + 1 + 0 ≤ 1063 by omega), (show ns + 6 + 0 ≤ 9959 by omega)⟩ dL_law_620 rfl (fun x620 e620 h => ?_)
                  refine lv_iload C.1 C.2.1 dL_law_623 (lv_at hl 1 rfl) ?_
                  refine k_icmp_eq (tgt := 630) C dL_law_625 (by decide) h (fun c625 h => ?_) (fun c625 h => ?_)
                  · refine lv_iload C.1 C.2.1 dL_law_630 (lv_at hl 1 rfl) ?_
                    refine k_if_ne (tgt := 647) C dL_law_632 (by decide) h (fun c632 h => ?_) (fun c632 h => ?_)
                    · refine lv_goto (tgt := 1201) C.1 C.2.1 dL_law_647 (by decide) ?_
                      refine lv_iinc (v := (v4 + 5)) (lv' := [(4, .int (v4 + 5)), (6, .int x614), (5, .int x596), (0, .ref b), (1, .ref (a 0)), (2, .ref (am 0)), (3, .ref q)]) C.1 C.2.1 dL_law_1201 hl (k := 6) rfl rfl (by decide) rfl (fun ls hl => ?_)
                      refine lv_goto (tgt := 23) C.1 C.2.1 dL_law_1204 (by decide) ?_
                      exact ih9 S596 T614 g596 (v4 + 5) h _ _ (by omega) (by omega) (by rw [hst5]; omega) (by rw [hst5]; omega) _ _ hPX hPM hPO hS ls (lv_sub hl [3, 4, 5, 6, 0] rfl)
                    · refine lv_aload_n C.1 C.2.1 dL_law_635 rfl (lv_at hl 5 rfl) ?_
                      refine lv_iconst (v := 0) C.1 C.2.1 dL_law_636 (by decide) ?_
                      refine k_lld C hK hPO 0 2 rfl rfl h dL_law_637 (fun h => ?_)
                      refine lv_iload C.1 C.2.1 dL_law_638 (lv_at hl 0 rfl) ?_
                      refine lv_i2l (v := (x614 : Int32).toInt64) C.1 C.2.1 dL_law_640 rfl ?_
                      refine W.lcmp C.1 C.2.1 dL_law_641 ?_
                      refine k_if_eq (tgt := 647) C dL_law_642 (by decide) h (fun c642 h => ?_) (fun c642 h => ?_)
                      · refine lv_goto (tgt := 1201) C.1 C.2.1 dL_law_647 (by decide) ?_
                        refine lv_iinc (v := (v4 + 5)) (lv' := [(4, .int (v4 + 5)), (6, .int x614), (5, .int x596), (0, .ref b), (1, .ref (a 0)), (2, .ref (am 0)), (3, .ref q)]) C.1 C.2.1 dL_law_1201 hl (k := 6) rfl rfl (by decide) rfl (fun ls hl => ?_)
                        refine lv_goto (tgt := 23) C.1 C.2.1 dL_law_1204 (by decide) ?_
                        exact ih9 S596 T614 g596 (v4 + 5) h _ _ (by omega) (by omega) (by rw [hst5]; omega) (by rw [hst5]; omega) _ _ hPX hPM hPO hS ls (lv_sub hl [3, 4, 5, 6, 0] rfl)
                      · refine lv_iconst (v := 0) C.1 C.2.1 dL_law_645 (by decide) ?_
                        exact absurd h (by decide)
                  · refine lv_iconst (v := 0) C.1 C.2.1 dL_law_628 (by decide) ?_
                    exact absurd h (by decide)
                · have h := if_h h c39_6
                  by_cases c39_7 : (((xs (v4 : Int32).toNatClampNeg) &&& 31) : Int32) = 7
                  · have h := it_h h c39_7
                    refine lv_tableIn (off := 611) (tgt := 650) C.1 C.2.1 dL_law_39 (by rw [c39_7]; decide) (by rw [c39_7]; decide) (by rw [c39_7]; rfl) (by decide) ?_
                    refine lv_aload_n C.1 C.2.1 dL_law_650 rfl (lv_at hl 1 rfl) ?_
                    refine lv_aload_n C.1 C.2.1 dL_law_651 rfl (lv_at hl 0 rfl) ?_
                    refine lv_iload C.1 C.2.1 dL_law_652 (lv_at hl 4 rfl) ?_
                    refine lv_iconst (v := 1) C.1 C.2.1 dL_law_654 (by decide) ?_
                    refine lv_iadd C.1 C.2.1 dL_law_655 ?_
                    refine k_sld C hX hbl hbA hS h dL_law_656 (fun _ h => ?_)
                    refine lv_aload_n C.1 C.2.1 dL_law_657 rfl (lv_at hl 0 rfl) ?_
                    refine lv_iload C.1 C.2.1 dL_law_658 (lv_at hl 4 rfl) ?_
                    refine lv_iconst (v := 2) C.1 C.2.1 dL_law_660 (by decide) ?_
                    refine lv_iadd C.1 C.2.1 dL_law_661 ?_
                    refine k_sld C hX hbl hbA hS h dL_law_662 (fun _ h => ?_)
                    refine lv_aload_n C.1 C.2.1 dL_law_663 rfl (lv_at hl 3 rfl) ?_
                    refine kL_wrap C hK hPX hPM hPO (hDo _ _ _) hS hA hE [.ref (a 0), .int (xs ((v4 + 1) : Int32).toNatClampNeg), .int (xs ((v4 + 2) : Int32).toNatClampNeg), .ref q] h (fun v Y e => tL_told hfl e) (cw_L_101 C.2.2.2.2) rfl hl.1 (Nat.le_of_ble_eq_true rfl) ⟨(show nc + 1 ≤ 1063 by omega), (show ns + 6 ≤ 9959 by omega)⟩ dL_law_664 rfl (fun x664 S664 g664 H locs e664 h hPX hPM hPO hS => ?_)
                    refine lv_istore (lv' := [(5, .int x664), (0, .ref b), (1, .ref (a 0)), (2, .ref (am 0)), (3, .ref q), (4, .int v4)]) C.1 C.2.1 dL_law_667 hl (by decide) rfl (fun ls hl => ?_)
                    refine lv_aload_n C.1 C.2.1 dL_law_669 rfl (lv_at hl 3 rfl) ?_
                    refine lv_aload_n C.1 C.2.1 dL_law_670 rfl (lv_at hl 1 rfl) ?_
                    refine lv_iload C.1 C.2.1 dL_law_671 (lv_at hl 5 rfl) ?_
                    refine lv_iconst (v := 1) C.1 C.2.1 dL_law_673 (by decide) ?_
                    refine lv_iadd C.1 C.2.1 dL_law_674 ?_
                    refine k_sld C hX hbl hbA hS h dL_law_675 (fun _ h => ?_)
                    refine lv_aload_n C.1 C.2.1 dL_law_676 rfl (lv_at hl 1 rfl) ?_
                    refine lv_iload C.1 C.2.1 dL_law_677 (lv_at hl 5 rfl) ?_
                    refine lv_iconst (v := 2) C.1 C.2.1 dL_law_679 (by decide) ?_
                    refine lv_iadd C.1 C.2.1 dL_law_680 ?_
                    refine k_sld C hX hbl hbA hS h dL_law_681 (fun _ h => ?_)
                    refine k_rwRi (w := wM cI cZ am) (wr := wX cI cZ a S664 ++ wO cL q g664) C hK2 hPM (va_P.app hPX hPO) (hDm _ _ _) hS hA [.int (xs ((v4 + 1) : Int32).toNatClampNeg), .int (xs ((v4 + 2) : Int32).toNatClampNeg)] (wM_rv hK2 hPM) h (fun v S2 e => tX1_told_ e) (cw_L_103 C.2.2.2.2) rfl hl.1 (Nat.le_of_ble_eq_true rfl) ⟨(show nc + 1 + 0 ≤ 1063 by omega), (show ns + 6 + 0 ≤ 9959 by omega)⟩ dL_law_682 rfl (fun x682 T682 H locs e682 h hPM hPR hS => ?_)
                    have hPX := P_left hPR
                    have hPO := P_right (w1 := wX cI cZ a S664) hPR
                    refine lv_istore (lv' := [(6, .int x682), (5, .int x664), (0, .ref b), (1, .ref (a 0)), (2, .ref (am 0)), (3, .ref q), (4, .int v4)]) C.1 C.2.1 dL_law_685 hl (by decide) rfl (fun ls hl => ?_)
                    refine lv_aload_n C.1 C.2.1 dL_law_687 rfl (lv_at hl 4 rfl) ?_
                    refine k_roVi C hK2 hPM [] (wM_rv hK2 hPM) h (fun v e => tX1_thrown e) (cw_L_75 C.2.2.2.2) rfl hl.1 (Nat.le_of_ble_eq_true rfl) ⟨(show nc + 1 + 0 ≤ 1063 by omega), (show ns + 6 + 0 ≤ 9959 by omega)⟩ dL_law_688 rfl (fun x688 e688 h => ?_)
                    refine lv_iload C.1 C.2.1 dL_law_691 (lv_at hl 1 rfl) ?_
                    refine k_icmp_eq (tgt := 698) C dL_law_693 (by decide) h (fun c693 h => ?_) (fun c693 h => ?_)
                    · refine lv_iload C.1 C.2.1 dL_law_698 (lv_at hl 1 rfl) ?_
                      refine k_if_ne (tgt := 715) C dL_law_700 (by decide) h (fun c700 h => ?_) (fun c700 h => ?_)
                      · refine lv_goto (tgt := 1201) C.1 C.2.1 dL_law_715 (by decide) ?_
                        refine lv_iinc (v := (v4 + 5)) (lv' := [(4, .int (v4 + 5)), (6, .int x682), (5, .int x664), (0, .ref b), (1, .ref (a 0)), (2, .ref (am 0)), (3, .ref q)]) C.1 C.2.1 dL_law_1201 hl (k := 6) rfl rfl (by decide) rfl (fun ls hl => ?_)
                        refine lv_goto (tgt := 23) C.1 C.2.1 dL_law_1204 (by decide) ?_
                        exact ih9 S664 T682 g664 (v4 + 5) h _ _ (by omega) (by omega) (by rw [hst5]; omega) (by rw [hst5]; omega) _ _ hPX hPM hPO hS ls (lv_sub hl [3, 4, 5, 6, 0] rfl)
                      · refine lv_aload_n C.1 C.2.1 dL_law_703 rfl (lv_at hl 5 rfl) ?_
                        refine lv_iconst (v := 0) C.1 C.2.1 dL_law_704 (by decide) ?_
                        refine k_lld C hK hPO 0 2 rfl rfl h dL_law_705 (fun h => ?_)
                        refine lv_iload C.1 C.2.1 dL_law_706 (lv_at hl 0 rfl) ?_
                        refine lv_i2l (v := (x682 : Int32).toInt64) C.1 C.2.1 dL_law_708 rfl ?_
                        refine W.lcmp C.1 C.2.1 dL_law_709 ?_
                        refine k_if_eq (tgt := 715) C dL_law_710 (by decide) h (fun c710 h => ?_) (fun c710 h => ?_)
                        · refine lv_goto (tgt := 1201) C.1 C.2.1 dL_law_715 (by decide) ?_
                          refine lv_iinc (v := (v4 + 5)) (lv' := [(4, .int (v4 + 5)), (6, .int x682), (5, .int x664), (0, .ref b), (1, .ref (a 0)), (2, .ref (am 0)), (3, .ref q)]) C.1 C.2.1 dL_law_1201 hl (k := 6) rfl rfl (by decide) rfl (fun ls hl => ?_)
                          refine lv_goto (tgt := 23) C.1 C.2.1 dL_law_1204 (by decide) ?_
                          exact ih9 S664 T682 g664 (v4 + 5) h _ _ (by omega) (by omega) (by rw [hst5]; omega) (by rw [hst5]; omega) _ _ hPX hPM hPO hS ls (lv_sub hl [3, 4, 5, 6, 0] rfl)
                        · refine lv_iconst (v := 0) C.1 C.2.1 dL_law_713 (by decide) ?_
                          exact absurd h (by decide)
                    · refine lv_iconst (v := 0) C.1 C.2.1 dL_law_696 (by decide) ?_
                      exact absurd h (by decide)
                  · have h := if_h h c39_7
                    by_cases c39_8 : (((xs (v4 : Int32).toNatClampNeg) &&& 31) : Int32) = 8
                    · have h := it_h h c39_8
                      refine lv_tableIn (off := 679) (tgt := 718) C.1 C.2.1 dL_law_39 (by rw [c39_8]; decide) (by rw [c39_8]; decide) (by rw [c39_8]; rfl) (by decide) ?_
                      refine lv_aload_n C.1 C.2.1 dL_law_718 rfl (lv_at hl 1 rfl) ?_
                      refine lv_aload_n C.1 C.2.1 dL_law_719 rfl (lv_at hl 0 rfl) ?_
                      refine lv_iload C.1 C.2.1 dL_law_720 (lv_at hl 4 rfl) ?_
                      refine lv_iconst (v := 1) C.1 C.2.1 dL_law_722 (by decide) ?_
                      refine lv_iadd C.1 C.2.1 dL_law_723 ?_
                      refine k_sld C hX hbl hbA hS h dL_law_724 (fun _ h => ?_)
                      refine lv_aload_n C.1 C.2.1 dL_law_725 rfl (lv_at hl 0 rfl) ?_
                      refine lv_iload C.1 C.2.1 dL_law_726 (lv_at hl 4 rfl) ?_
                      refine lv_iconst (v := 2) C.1 C.2.1 dL_law_728 (by decide) ?_
                      refine lv_iadd C.1 C.2.1 dL_law_729 ?_
                      refine k_sld C hX hbl hbA hS h dL_law_730 (fun _ h => ?_)
                      refine lv_aload_n C.1 C.2.1 dL_law_731 rfl (lv_at hl 0 rfl) ?_
                      refine lv_iload C.1 C.2.1 dL_law_732 (lv_at hl 4 rfl) ?_
                      refine lv_iconst (v := 3) C.1 C.2.1 dL_law_734 (by decide) ?_
                      refine lv_iadd C.1 C.2.1 dL_law_735 ?_
                      refine k_sld C hX hbl hbA hS h dL_law_736 (fun _ h => ?_)
                      refine lv_aload_n C.1 C.2.1 dL_law_737 rfl (lv_at hl 0 rfl) ?_
                      refine lv_iload C.1 C.2.1 dL_law_738 (lv_at hl 4 rfl) ?_
                      refine lv_iconst (v := 4) C.1 C.2.1 dL_law_740 (by decide) ?_
                      refine lv_iadd C.1 C.2.1 dL_law_741 ?_
                      refine k_sld C hX hbl hbA hS h dL_law_742 (fun _ h => ?_)
                      refine lv_aload_n C.1 C.2.1 dL_law_743 rfl (lv_at hl 3 rfl) ?_
                      refine kL_wrap C hK hPX hPM hPO (hDo _ _ _) hS hA hE [.ref (a 0), .int (xs ((v4 + 1) : Int32).toNatClampNeg), .int (xs ((v4 + 2) : Int32).toNatClampNeg), .int (xs ((v4 + 3) : Int32).toNatClampNeg), .int (xs ((v4 + 4) : Int32).toNatClampNeg), .ref q] h (fun v Y e => tL_step hfl e) (cw_L_104 C.2.2.2.2) rfl hl.1 (Nat.le_of_ble_eq_true rfl) ⟨(show nc + 1 ≤ 1063 by omega), (show ns + 6 ≤ 9959 by omega)⟩ dL_law_744 rfl (fun x744 S744 g744 H locs e744 h hPX hPM hPO hS => ?_)
                      refine lv_istore (lv' := [(5, .int x744), (0, .ref b), (1, .ref (a 0)), (2, .ref (am 0)), (3, .ref q), (4, .int v4)]) C.1 C.2.1 dL_law_747 hl (by decide) rfl (fun ls hl => ?_)
                      refine lv_aload_n C.1 C.2.1 dL_law_749 rfl (lv_at hl 3 rfl) ?_
                      refine lv_aload_n C.1 C.2.1 dL_law_750 rfl (lv_at hl 1 rfl) ?_
                      refine lv_iload C.1 C.2.1 dL_law_751 (lv_at hl 5 rfl) ?_
                      refine lv_iconst (v := 1) C.1 C.2.1 dL_law_753 (by decide) ?_
                      refine lv_iadd C.1 C.2.1 dL_law_754 ?_
                      refine k_sld C hX hbl hbA hS h dL_law_755 (fun _ h => ?_)
                      refine lv_aload_n C.1 C.2.1 dL_law_756 rfl (lv_at hl 1 rfl) ?_
                      refine lv_iload C.1 C.2.1 dL_law_757 (lv_at hl 5 rfl) ?_
                      refine lv_iconst (v := 2) C.1 C.2.1 dL_law_759 (by decide) ?_
                      refine lv_iadd C.1 C.2.1 dL_law_760 ?_
                      refine k_sld C hX hbl hbA hS h dL_law_761 (fun _ h => ?_)
                      refine lv_aload_n C.1 C.2.1 dL_law_762 rfl (lv_at hl 1 rfl) ?_
                      refine lv_iload C.1 C.2.1 dL_law_763 (lv_at hl 5 rfl) ?_
                      refine lv_iconst (v := 3) C.1 C.2.1 dL_law_765 (by decide) ?_
                      refine lv_iadd C.1 C.2.1 dL_law_766 ?_
                      refine k_sld C hX hbl hbA hS h dL_law_767 (fun _ h => ?_)
                      refine lv_aload_n C.1 C.2.1 dL_law_768 rfl (lv_at hl 1 rfl) ?_
                      refine lv_iload C.1 C.2.1 dL_law_769 (lv_at hl 5 rfl) ?_
                      refine lv_iconst (v := 4) C.1 C.2.1 dL_law_771 (by decide) ?_
                      refine lv_iadd C.1 C.2.1 dL_law_772 ?_
                      refine k_sld C hX hbl hbA hS h dL_law_773 (fun _ h => ?_)
                      refine k_rwRi (w := wM cI cZ am) (wr := wX cI cZ a S744 ++ wO cL q g744) C hK2 hPM (va_P.app hPX hPO) (hDm _ _ _) hS hA [.int (xs ((v4 + 1) : Int32).toNatClampNeg), .int (xs ((v4 + 2) : Int32).toNatClampNeg), .int (xs ((v4 + 3) : Int32).toNatClampNeg), .int (xs ((v4 + 4) : Int32).toNatClampNeg)] (wM_rv hK2 hPM) h (fun v S2 e => tX1_step e) (cw_L_106 C.2.2.2.2) rfl hl.1 (Nat.le_of_ble_eq_true rfl) ⟨(show nc + 1 + 0 ≤ 1063 by omega), (show ns + 6 + 0 ≤ 9959 by omega)⟩ dL_law_774 rfl (fun x774 T774 H locs e774 h hPM hPR hS => ?_)
                      have hPX := P_left hPR
                      have hPO := P_right (w1 := wX cI cZ a S744) hPR
                      refine lv_istore (lv' := [(6, .int x774), (5, .int x744), (0, .ref b), (1, .ref (a 0)), (2, .ref (am 0)), (3, .ref q), (4, .int v4)]) C.1 C.2.1 dL_law_777 hl (by decide) rfl (fun ls hl => ?_)
                      refine lv_aload_n C.1 C.2.1 dL_law_779 rfl (lv_at hl 4 rfl) ?_
                      refine k_roVi C hK2 hPM [] (wM_rv hK2 hPM) h (fun v e => tX1_thrown e) (cw_L_75 C.2.2.2.2) rfl hl.1 (Nat.le_of_ble_eq_true rfl) ⟨(show nc + 1 + 0 ≤ 1063 by omega), (show ns + 6 + 0 ≤ 9959 by omega)⟩ dL_law_780 rfl (fun x780 e780 h => ?_)
                      refine lv_iload C.1 C.2.1 dL_law_783 (lv_at hl 1 rfl) ?_
                      refine k_icmp_eq (tgt := 790) C dL_law_785 (by decide) h (fun c785 h => ?_) (fun c785 h => ?_)
                      · refine lv_iload C.1 C.2.1 dL_law_790 (lv_at hl 1 rfl) ?_
                        refine k_if_ne (tgt := 807) C dL_law_792 (by decide) h (fun c792 h => ?_) (fun c792 h => ?_)
                        · refine lv_goto (tgt := 1201) C.1 C.2.1 dL_law_807 (by decide) ?_
                          refine lv_iinc (v := (v4 + 5)) (lv' := [(4, .int (v4 + 5)), (6, .int x774), (5, .int x744), (0, .ref b), (1, .ref (a 0)), (2, .ref (am 0)), (3, .ref q)]) C.1 C.2.1 dL_law_1201 hl (k := 6) rfl rfl (by decide) rfl (fun ls hl => ?_)
                          refine lv_goto (tgt := 23) C.1 C.2.1 dL_law_1204 (by decide) ?_
                          exact ih9 S744 T774 g744 (v4 + 5) h _ _ (by omega) (by omega) (by rw [hst5]; omega) (by rw [hst5]; omega) _ _ hPX hPM hPO hS ls (lv_sub hl [3, 4, 5, 6, 0] rfl)
                        · refine lv_aload_n C.1 C.2.1 dL_law_795 rfl (lv_at hl 5 rfl) ?_
                          refine lv_iconst (v := 0) C.1 C.2.1 dL_law_796 (by decide) ?_
                          refine k_lld C hK hPO 0 2 rfl rfl h dL_law_797 (fun h => ?_)
                          refine lv_iload C.1 C.2.1 dL_law_798 (lv_at hl 0 rfl) ?_
                          refine lv_i2l (v := (x774 : Int32).toInt64) C.1 C.2.1 dL_law_800 rfl ?_
                          refine W.lcmp C.1 C.2.1 dL_law_801 ?_
                          refine k_if_eq (tgt := 807) C dL_law_802 (by decide) h (fun c802 h => ?_) (fun c802 h => ?_)
                          · refine lv_goto (tgt := 1201) C.1 C.2.1 dL_law_807 (by decide) ?_
                            refine lv_iinc (v := (v4 + 5)) (lv' := [(4, .int (v4 + 5)), (6, .int x774), (5, .int x744), (0, .ref b), (1, .ref (a 0)), (2, .ref (am 0)), (3, .ref q)]) C.1 C.2.1 dL_law_1201 hl (k := 6) rfl rfl (by decide) rfl (fun ls hl => ?_)
                            refine lv_goto (tgt := 23) C.1 C.2.1 dL_law_1204 (by decide) ?_
                            exact ih9 S744 T774 g744 (v4 + 5) h _ _ (by omega) (by omega) (by rw [hst5]; omega) (by rw [hst5]; omega) _ _ hPX hPM hPO hS ls (lv_sub hl [3, 4, 5, 6, 0] rfl)
                          · refine lv_iconst (v := 0) C.1 C.2.1 dL_law_805 (by decide) ?_
                            exact absurd h (by decide)
                      · refine lv_iconst (v := 0) C.1 C.2.1 dL_law_788 (by decide) ?_
                        exact absurd h (by decide)
                    · have h := if_h h c39_8
                      by_cases c39_9 : (((xs (v4 : Int32).toNatClampNeg) &&& 31) : Int32) = 9
                      · have h := it_h h c39_9
                        refine lv_tableIn (off := 771) (tgt := 810) C.1 C.2.1 dL_law_39 (by rw [c39_9]; decide) (by rw [c39_9]; decide) (by rw [c39_9]; rfl) (by decide) ?_
                        refine lv_aload_n C.1 C.2.1 dL_law_810 rfl (lv_at hl 1 rfl) ?_
                        refine lv_aload_n C.1 C.2.1 dL_law_811 rfl (lv_at hl 0 rfl) ?_
                        refine lv_iload C.1 C.2.1 dL_law_812 (lv_at hl 4 rfl) ?_
                        refine lv_iconst (v := 1) C.1 C.2.1 dL_law_814 (by decide) ?_
                        refine lv_iadd C.1 C.2.1 dL_law_815 ?_
                        refine k_sld C hX hbl hbA hS h dL_law_816 (fun _ h => ?_)
                        refine lv_aload_n C.1 C.2.1 dL_law_817 rfl (lv_at hl 0 rfl) ?_
                        refine lv_iload C.1 C.2.1 dL_law_818 (lv_at hl 4 rfl) ?_
                        refine lv_iconst (v := 2) C.1 C.2.1 dL_law_820 (by decide) ?_
                        refine lv_iadd C.1 C.2.1 dL_law_821 ?_
                        refine k_sld C hX hbl hbA hS h dL_law_822 (fun _ h => ?_)
                        refine lv_aload_n C.1 C.2.1 dL_law_823 rfl (lv_at hl 0 rfl) ?_
                        refine lv_iload C.1 C.2.1 dL_law_824 (lv_at hl 4 rfl) ?_
                        refine lv_iconst (v := 3) C.1 C.2.1 dL_law_826 (by decide) ?_
                        refine lv_iadd C.1 C.2.1 dL_law_827 ?_
                        refine k_sld C hX hbl hbA hS h dL_law_828 (fun _ h => ?_)
                        refine lv_aload_n C.1 C.2.1 dL_law_829 rfl (lv_at hl 3 rfl) ?_
                        refine kL_wrap C hK hPX hPM hPO (hDo _ _ _) hS hA hE [.ref (a 0), .int (xs ((v4 + 1) : Int32).toNatClampNeg), .int (xs ((v4 + 2) : Int32).toNatClampNeg), .int (xs ((v4 + 3) : Int32).toNatClampNeg), .ref q] h (fun v Y e => tL_about hfl e) (cw_L_107 C.2.2.2.2) rfl hl.1 (Nat.le_of_ble_eq_true rfl) ⟨(show nc + 1 ≤ 1063 by omega), (show ns + 6 ≤ 9959 by omega)⟩ dL_law_830 rfl (fun x830 S830 g830 H locs e830 h hPX hPM hPO hS => ?_)
                        refine lv_istore (lv' := [(5, .int x830), (0, .ref b), (1, .ref (a 0)), (2, .ref (am 0)), (3, .ref q), (4, .int v4)]) C.1 C.2.1 dL_law_833 hl (by decide) rfl (fun ls hl => ?_)
                        refine lv_aload_n C.1 C.2.1 dL_law_835 rfl (lv_at hl 3 rfl) ?_
                        refine lv_aload_n C.1 C.2.1 dL_law_836 rfl (lv_at hl 1 rfl) ?_
                        refine lv_iload C.1 C.2.1 dL_law_837 (lv_at hl 5 rfl) ?_
                        refine lv_iconst (v := 1) C.1 C.2.1 dL_law_839 (by decide) ?_
                        refine lv_iadd C.1 C.2.1 dL_law_840 ?_
                        refine k_sld C hX hbl hbA hS h dL_law_841 (fun _ h => ?_)
                        refine lv_aload_n C.1 C.2.1 dL_law_842 rfl (lv_at hl 1 rfl) ?_
                        refine lv_iload C.1 C.2.1 dL_law_843 (lv_at hl 5 rfl) ?_
                        refine lv_iconst (v := 2) C.1 C.2.1 dL_law_845 (by decide) ?_
                        refine lv_iadd C.1 C.2.1 dL_law_846 ?_
                        refine k_sld C hX hbl hbA hS h dL_law_847 (fun _ h => ?_)
                        refine lv_aload_n C.1 C.2.1 dL_law_848 rfl (lv_at hl 1 rfl) ?_
                        refine lv_iload C.1 C.2.1 dL_law_849 (lv_at hl 5 rfl) ?_
                        refine lv_iconst (v := 3) C.1 C.2.1 dL_law_851 (by decide) ?_
                        refine lv_iadd C.1 C.2.1 dL_law_852 ?_
                        refine k_sld C hX hbl hbA hS h dL_law_853 (fun _ h => ?_)
                        refine k_rwRi (w := wM cI cZ am) (wr := wX cI cZ a S830 ++ wO cL q g830) C hK2 hPM (va_P.app hPX hPO) (hDm _ _ _) hS hA [.int (xs ((v4 + 1) : Int32).toNatClampNeg), .int (xs ((v4 + 2) : Int32).toNatClampNeg), .int (xs ((v4 + 3) : Int32).toNatClampNeg)] (wM_rv hK2 hPM) h (fun v S2 e => tX1_about e) (cw_L_109 C.2.2.2.2) rfl hl.1 (Nat.le_of_ble_eq_true rfl) ⟨(show nc + 1 + 0 ≤ 1063 by omega), (show ns + 6 + 0 ≤ 9959 by omega)⟩ dL_law_854 rfl (fun x854 T854 H locs e854 h hPM hPR hS => ?_)
                        have hPX := P_left hPR
                        have hPO := P_right (w1 := wX cI cZ a S830) hPR
                        refine lv_istore (lv' := [(6, .int x854), (5, .int x830), (0, .ref b), (1, .ref (a 0)), (2, .ref (am 0)), (3, .ref q), (4, .int v4)]) C.1 C.2.1 dL_law_857 hl (by decide) rfl (fun ls hl => ?_)
                        refine lv_aload_n C.1 C.2.1 dL_law_859 rfl (lv_at hl 4 rfl) ?_
                        refine k_roVi C hK2 hPM [] (wM_rv hK2 hPM) h (fun v e => tX1_thrown e) (cw_L_75 C.2.2.2.2) rfl hl.1 (Nat.le_of_ble_eq_true rfl) ⟨(show nc + 1 + 0 ≤ 1063 by omega), (show ns + 6 + 0 ≤ 9959 by omega)⟩ dL_law_860 rfl (fun x860 e860 h => ?_)
                        refine lv_iload C.1 C.2.1 dL_law_863 (lv_at hl 1 rfl) ?_
                        refine k_icmp_eq (tgt := 870) C dL_law_865 (by decide) h (fun c865 h => ?_) (fun c865 h => ?_)
                        · refine lv_iload C.1 C.2.1 dL_law_870 (lv_at hl 1 rfl) ?_
                          refine k_if_ne (tgt := 887) C dL_law_872 (by decide) h (fun c872 h => ?_) (fun c872 h => ?_)
                          · refine lv_goto (tgt := 1201) C.1 C.2.1 dL_law_887 (by decide) ?_
                            refine lv_iinc (v := (v4 + 5)) (lv' := [(4, .int (v4 + 5)), (6, .int x854), (5, .int x830), (0, .ref b), (1, .ref (a 0)), (2, .ref (am 0)), (3, .ref q)]) C.1 C.2.1 dL_law_1201 hl (k := 6) rfl rfl (by decide) rfl (fun ls hl => ?_)
                            refine lv_goto (tgt := 23) C.1 C.2.1 dL_law_1204 (by decide) ?_
                            exact ih9 S830 T854 g830 (v4 + 5) h _ _ (by omega) (by omega) (by rw [hst5]; omega) (by rw [hst5]; omega) _ _ hPX hPM hPO hS ls (lv_sub hl [3, 4, 5, 6, 0] rfl)
                          · refine lv_aload_n C.1 C.2.1 dL_law_875 rfl (lv_at hl 5 rfl) ?_
                            refine lv_iconst (v := 0) C.1 C.2.1 dL_law_876 (by decide) ?_
                            refine k_lld C hK hPO 0 2 rfl rfl h dL_law_877 (fun h => ?_)
                            refine lv_iload C.1 C.2.1 dL_law_878 (lv_at hl 0 rfl) ?_
                            refine lv_i2l (v := (x854 : Int32).toInt64) C.1 C.2.1 dL_law_880 rfl ?_
                            refine W.lcmp C.1 C.2.1 dL_law_881 ?_
                            refine k_if_eq (tgt := 887) C dL_law_882 (by decide) h (fun c882 h => ?_) (fun c882 h => ?_)
                            · refine lv_goto (tgt := 1201) C.1 C.2.1 dL_law_887 (by decide) ?_
                              refine lv_iinc (v := (v4 + 5)) (lv' := [(4, .int (v4 + 5)), (6, .int x854), (5, .int x830), (0, .ref b), (1, .ref (a 0)), (2, .ref (am 0)), (3, .ref q)]) C.1 C.2.1 dL_law_1201 hl (k := 6) rfl rfl (by decide) rfl (fun ls hl => ?_)
                              refine lv_goto (tgt := 23) C.1 C.2.1 dL_law_1204 (by decide) ?_
                              exact ih9 S830 T854 g830 (v4 + 5) h _ _ (by omega) (by omega) (by rw [hst5]; omega) (by rw [hst5]; omega) _ _ hPX hPM hPO hS ls (lv_sub hl [3, 4, 5, 6, 0] rfl)
                            · refine lv_iconst (v := 0) C.1 C.2.1 dL_law_885 (by decide) ?_
                              exact absurd h (by decide)
                        · refine lv_iconst (v := 0) C.1 C.2.1 dL_law_868 (by decide) ?_
                          exact absurd h (by decide)
                      · have h := if_h h c39_9
                        by_cases c39_10 : (((xs (v4 : Int32).toNatClampNeg) &&& 31) : Int32) = 10
                        · have h := it_h h c39_10
                          refine lv_tableIn (off := 851) (tgt := 890) C.1 C.2.1 dL_law_39 (by rw [c39_10]; decide) (by rw [c39_10]; decide) (by rw [c39_10]; rfl) (by decide) ?_
                          refine lv_aload_n C.1 C.2.1 dL_law_890 rfl (lv_at hl 1 rfl) ?_
                          refine lv_aload_n C.1 C.2.1 dL_law_891 rfl (lv_at hl 0 rfl) ?_
                          refine lv_iload C.1 C.2.1 dL_law_892 (lv_at hl 4 rfl) ?_
                          refine lv_iconst (v := 1) C.1 C.2.1 dL_law_894 (by decide) ?_
                          refine lv_iadd C.1 C.2.1 dL_law_895 ?_
                          refine k_sld C hX hbl hbA hS h dL_law_896 (fun _ h => ?_)
                          refine lv_aload_n C.1 C.2.1 dL_law_897 rfl (lv_at hl 3 rfl) ?_
                          refine kL_wrap C hK hPX hPM hPO (hDo _ _ _) hS hA hE [.ref (a 0), .int (xs ((v4 + 1) : Int32).toNatClampNeg), .ref q] h (fun v Y e => tL_count hfl e) (cw_L_110 C.2.2.2.2) rfl hl.1 (Nat.le_of_ble_eq_true rfl) ⟨(show nc + 1 ≤ 1063 by omega), (show ns + 6 ≤ 9959 by omega)⟩ dL_law_898 rfl (fun x898 S898 g898 H locs e898 h hPX hPM hPO hS => ?_)
                          refine lv_istore (lv' := [(5, .int x898), (0, .ref b), (1, .ref (a 0)), (2, .ref (am 0)), (3, .ref q), (4, .int v4)]) C.1 C.2.1 dL_law_901 hl (by decide) rfl (fun ls hl => ?_)
                          refine lv_aload_n C.1 C.2.1 dL_law_903 rfl (lv_at hl 3 rfl) ?_
                          refine lv_aload_n C.1 C.2.1 dL_law_904 rfl (lv_at hl 1 rfl) ?_
                          refine lv_iload C.1 C.2.1 dL_law_905 (lv_at hl 5 rfl) ?_
                          refine lv_iconst (v := 1) C.1 C.2.1 dL_law_907 (by decide) ?_
                          refine lv_iadd C.1 C.2.1 dL_law_908 ?_
                          refine k_sld C hX hbl hbA hS h dL_law_909 (fun _ h => ?_)
                          refine k_rwRi (w := wM cI cZ am) (wr := wX cI cZ a S898 ++ wO cL q g898) C hK2 hPM (va_P.app hPX hPO) (hDm _ _ _) hS hA [.int (xs ((v4 + 1) : Int32).toNatClampNeg)] (wM_rv hK2 hPM) h (fun v S2 e => tX1_count e) (cw_L_112 C.2.2.2.2) rfl hl.1 (Nat.le_of_ble_eq_true rfl) ⟨(show nc + 1 + 0 ≤ 1063 by omega), (show ns + 6 + 0 ≤ 9959 by omega)⟩ dL_law_910 rfl (fun x910 T910 H locs e910 h hPM hPR hS => ?_)
                          have hPX := P_left hPR
                          have hPO := P_right (w1 := wX cI cZ a S898) hPR
                          refine lv_istore (lv' := [(6, .int x910), (5, .int x898), (0, .ref b), (1, .ref (a 0)), (2, .ref (am 0)), (3, .ref q), (4, .int v4)]) C.1 C.2.1 dL_law_913 hl (by decide) rfl (fun ls hl => ?_)
                          refine lv_aload_n C.1 C.2.1 dL_law_915 rfl (lv_at hl 4 rfl) ?_
                          refine k_roVi C hK2 hPM [] (wM_rv hK2 hPM) h (fun v e => tX1_thrown e) (cw_L_75 C.2.2.2.2) rfl hl.1 (Nat.le_of_ble_eq_true rfl) ⟨(show nc + 1 + 0 ≤ 1063 by omega), (show ns + 6 + 0 ≤ 9959 by omega)⟩ dL_law_916 rfl (fun x916 e916 h => ?_)
                          refine lv_iload C.1 C.2.1 dL_law_919 (lv_at hl 1 rfl) ?_
                          refine k_icmp_eq (tgt := 926) C dL_law_921 (by decide) h (fun c921 h => ?_) (fun c921 h => ?_)
                          · refine lv_iload C.1 C.2.1 dL_law_926 (lv_at hl 1 rfl) ?_
                            refine k_if_ne (tgt := 943) C dL_law_928 (by decide) h (fun c928 h => ?_) (fun c928 h => ?_)
                            · refine lv_goto (tgt := 1201) C.1 C.2.1 dL_law_943 (by decide) ?_
                              refine lv_iinc (v := (v4 + 5)) (lv' := [(4, .int (v4 + 5)), (6, .int x910), (5, .int x898), (0, .ref b), (1, .ref (a 0)), (2, .ref (am 0)), (3, .ref q)]) C.1 C.2.1 dL_law_1201 hl (k := 6) rfl rfl (by decide) rfl (fun ls hl => ?_)
                              refine lv_goto (tgt := 23) C.1 C.2.1 dL_law_1204 (by decide) ?_
                              exact ih9 S898 T910 g898 (v4 + 5) h _ _ (by omega) (by omega) (by rw [hst5]; omega) (by rw [hst5]; omega) _ _ hPX hPM hPO hS ls (lv_sub hl [3, 4, 5, 6, 0] rfl)
                            · refine lv_aload_n C.1 C.2.1 dL_law_931 rfl (lv_at hl 5 rfl) ?_
                              refine lv_iconst (v := 0) C.1 C.2.1 dL_law_932 (by decide) ?_
                              refine k_lld C hK hPO 0 2 rfl rfl h dL_law_933 (fun h => ?_)
                              refine lv_iload C.1 C.2.1 dL_law_934 (lv_at hl 0 rfl) ?_
                              refine lv_i2l (v := (x910 : Int32).toInt64) C.1 C.2.1 dL_law_936 rfl ?_
                              refine W.lcmp C.1 C.2.1 dL_law_937 ?_
                              refine k_if_eq (tgt := 943) C dL_law_938 (by decide) h (fun c938 h => ?_) (fun c938 h => ?_)
                              · refine lv_goto (tgt := 1201) C.1 C.2.1 dL_law_943 (by decide) ?_
                                refine lv_iinc (v := (v4 + 5)) (lv' := [(4, .int (v4 + 5)), (6, .int x910), (5, .int x898), (0, .ref b), (1, .ref (a 0)), (2, .ref (am 0)), (3, .ref q)]) C.1 C.2.1 dL_law_1201 hl (k := 6) rfl rfl (by decide) rfl (fun ls hl => ?_)
                                refine lv_goto (tgt := 23) C.1 C.2.1 dL_law_1204 (by decide) ?_
                                exact ih9 S898 T910 g898 (v4 + 5) h _ _ (by omega) (by omega) (by rw [hst5]; omega) (by rw [hst5]; omega) _ _ hPX hPM hPO hS ls (lv_sub hl [3, 4, 5, 6, 0] rfl)
                              · refine lv_iconst (v := 0) C.1 C.2.1 dL_law_941 (by decide) ?_
                                exact absurd h (by decide)
                          · refine lv_iconst (v := 0) C.1 C.2.1 dL_law_924 (by decide) ?_
                            exact absurd h (by decide)
                        · have h := if_h h c39_10
                          by_cases c39_11 : (((xs (v4 : Int32).toNatClampNeg) &&& 31) : Int32) = 11
                          · have h := it_h h c39_11
                            refine lv_tableIn (off := 907) (tgt := 946) C.1 C.2.1 dL_law_39 (by rw [c39_11]; decide) (by rw [c39_11]; decide) (by rw [c39_11]; rfl) (by decide) ?_
                            refine lv_aload_n C.1 C.2.1 dL_law_946 rfl (lv_at hl 1 rfl) ?_
                            refine lv_aload_n C.1 C.2.1 dL_law_947 rfl (lv_at hl 0 rfl) ?_
                            refine lv_iload C.1 C.2.1 dL_law_948 (lv_at hl 4 rfl) ?_
                            refine lv_iconst (v := 1) C.1 C.2.1 dL_law_950 (by decide) ?_
                            refine lv_iadd C.1 C.2.1 dL_law_951 ?_
                            refine k_sld C hX hbl hbA hS h dL_law_952 (fun _ h => ?_)
                            refine lv_aload_n C.1 C.2.1 dL_law_953 rfl (lv_at hl 3 rfl) ?_
                            refine kL_wrap C hK hPX hPM hPO (hDo _ _ _) hS hA hE [.ref (a 0), .int (xs ((v4 + 1) : Int32).toNatClampNeg), .ref q] h (fun v Y e => tL_best hfl e) (cw_L_113 C.2.2.2.2) rfl hl.1 (Nat.le_of_ble_eq_true rfl) ⟨(show nc + 1 ≤ 1063 by omega), (show ns + 6 ≤ 9959 by omega)⟩ dL_law_954 rfl (fun x954 S954 g954 H locs e954 h hPX hPM hPO hS => ?_)
                            refine lv_istore (lv' := [(5, .int x954), (0, .ref b), (1, .ref (a 0)), (2, .ref (am 0)), (3, .ref q), (4, .int v4)]) C.1 C.2.1 dL_law_957 hl (by decide) rfl (fun ls hl => ?_)
                            refine lv_aload_n C.1 C.2.1 dL_law_959 rfl (lv_at hl 3 rfl) ?_
                            refine lv_aload_n C.1 C.2.1 dL_law_960 rfl (lv_at hl 1 rfl) ?_
                            refine lv_iload C.1 C.2.1 dL_law_961 (lv_at hl 5 rfl) ?_
                            refine lv_iconst (v := 1) C.1 C.2.1 dL_law_963 (by decide) ?_
                            refine lv_iadd C.1 C.2.1 dL_law_964 ?_
                            refine k_sld C hX hbl hbA hS h dL_law_965 (fun _ h => ?_)
                            refine k_rwRi (w := wM cI cZ am) (wr := wX cI cZ a S954 ++ wO cL q g954) C hK2 hPM (va_P.app hPX hPO) (hDm _ _ _) hS hA [.int (xs ((v4 + 1) : Int32).toNatClampNeg)] (wM_rv hK2 hPM) h (fun v S2 e => tX1_best e) (cw_L_115 C.2.2.2.2) rfl hl.1 (Nat.le_of_ble_eq_true rfl) ⟨(show nc + 1 + 0 ≤ 1063 by omega), (show ns + 6 + 0 ≤ 9959 by omega)⟩ dL_law_966 rfl (fun x966 T966 H locs e966 h hPM hPR hS => ?_)
                            have hPX := P_left hPR
                            have hPO := P_right (w1 := wX cI cZ a S954) hPR
                            refine lv_istore (lv' := [(6, .int x966), (5, .int x954), (0, .ref b), (1, .ref (a 0)), (2, .ref (am 0)), (3, .ref q), (4, .int v4)]) C.1 C.2.1 dL_law_969 hl (by decide) rfl (fun ls hl => ?_)
                            refine lv_aload_n C.1 C.2.1 dL_law_971 rfl (lv_at hl 4 rfl) ?_
                            refine k_roVi C hK2 hPM [] (wM_rv hK2 hPM) h (fun v e => tX1_thrown e) (cw_L_75 C.2.2.2.2) rfl hl.1 (Nat.le_of_ble_eq_true rfl) ⟨(show nc + 1 + 0 ≤ 1063 by omega), (show ns + 6 + 0 ≤ 9959 by omega)⟩ dL_law_972 rfl (fun x972 e972 h => ?_)
                            refine lv_iload C.1 C.2.1 dL_law_975 (lv_at hl 1 rfl) ?_
                            refine k_icmp_eq (tgt := 982) C dL_law_977 (by decide) h (fun c977 h => ?_) (fun c977 h => ?_)
                            · refine lv_iload C.1 C.2.1 dL_law_982 (lv_at hl 1 rfl) ?_
                              refine k_if_ne (tgt := 999) C dL_law_984 (by decide) h (fun c984 h => ?_) (fun c984 h => ?_)
                              · refine lv_goto (tgt := 1201) C.1 C.2.1 dL_law_999 (by decide) ?_
                                refine lv_iinc (v := (v4 + 5)) (lv' := [(4, .int (v4 + 5)), (6, .int x966), (5, .int x954), (0, .ref b), (1, .ref (a 0)), (2, .ref (am 0)), (3, .ref q)]) C.1 C.2.1 dL_law_1201 hl (k := 6) rfl rfl (by decide) rfl (fun ls hl => ?_)
                                refine lv_goto (tgt := 23) C.1 C.2.1 dL_law_1204 (by decide) ?_
                                exact ih9 S954 T966 g954 (v4 + 5) h _ _ (by omega) (by omega) (by rw [hst5]; omega) (by rw [hst5]; omega) _ _ hPX hPM hPO hS ls (lv_sub hl [3, 4, 5, 6, 0] rfl)
                              · refine lv_aload_n C.1 C.2.1 dL_law_987 rfl (lv_at hl 5 rfl) ?_
                                refine lv_iconst (v := 0) C.1 C.2.1 dL_law_988 (by decide) ?_
                                refine k_lld C hK hPO 0 2 rfl rfl h dL_law_989 (fun h => ?_)
                                refine lv_iload C.1 C.2.1 dL_law_990 (lv_at hl 0 rfl) ?_
                                refine lv_i2l (v := (x966 : Int32).toInt64) C.1 C.2.1 dL_law_992 rfl ?_
                                refine W.lcmp C.1 C.2.1 dL_law_993 ?_
                                refine k_if_eq (tgt := 999) C dL_law_994 (by decide) h (fun c994 h => ?_) (fun c994 h => ?_)
                                · refine lv_goto (tgt := 1201) C.1 C.2.1 dL_law_999 (by decide) ?_
                                  refine lv_iinc (v := (v4 + 5)) (lv' := [(4, .int (v4 + 5)), (6, .int x966), (5, .int x954), (0, .ref b), (1, .ref (a 0)), (2, .ref (am 0)), (3, .ref q)]) C.1 C.2.1 dL_law_1201 hl (k := 6) rfl rfl (by decide) rfl (fun ls hl => ?_)
                                  refine lv_goto (tgt := 23) C.1 C.2.1 dL_law_1204 (by decide) ?_
                                  exact ih9 S954 T966 g954 (v4 + 5) h _ _ (by omega) (by omega) (by rw [hst5]; omega) (by rw [hst5]; omega) _ _ hPX hPM hPO hS ls (lv_sub hl [3, 4, 5, 6, 0] rfl)
                                · refine lv_iconst (v := 0) C.1 C.2.1 dL_law_997 (by decide) ?_
                                  exact absurd h (by decide)
                            · refine lv_iconst (v := 0) C.1 C.2.1 dL_law_980 (by decide) ?_
                              exact absurd h (by decide)
                          · have h := if_h h c39_11
                            by_cases c39_12 : (((xs (v4 : Int32).toNatClampNeg) &&& 31) : Int32) = 12
                            · have h := it_h h c39_12
                              refine lv_tableIn (off := 963) (tgt := 1002) C.1 C.2.1 dL_law_39 (by rw [c39_12]; decide) (by rw [c39_12]; decide) (by rw [c39_12]; rfl) (by decide) ?_
                              refine lv_aload_n C.1 C.2.1 dL_law_1002 rfl (lv_at hl 1 rfl) ?_
                              refine lv_aload_n C.1 C.2.1 dL_law_1003 rfl (lv_at hl 0 rfl) ?_
                              refine lv_iload C.1 C.2.1 dL_law_1004 (lv_at hl 4 rfl) ?_
                              refine lv_iconst (v := 1) C.1 C.2.1 dL_law_1006 (by decide) ?_
                              refine lv_iadd C.1 C.2.1 dL_law_1007 ?_
                              refine k_sld C hX hbl hbA hS h dL_law_1008 (fun _ h => ?_)
                              refine lv_aload_n C.1 C.2.1 dL_law_1009 rfl (lv_at hl 3 rfl) ?_
                              refine kL_wrap C hK hPX hPM hPO (hDo _ _ _) hS hA hE [.ref (a 0), .int (xs ((v4 + 1) : Int32).toNatClampNeg), .ref q] h (fun v Y e => tL_without hfl e) (cw_L_116 C.2.2.2.2) rfl hl.1 (Nat.le_of_ble_eq_true rfl) ⟨(show nc + 1 ≤ 1063 by omega), (show ns + 6 ≤ 9959 by omega)⟩ dL_law_1010 rfl (fun x1010 S1010 g1010 H locs e1010 h hPX hPM hPO hS => ?_)
                              refine lv_istore (lv' := [(5, .int x1010), (0, .ref b), (1, .ref (a 0)), (2, .ref (am 0)), (3, .ref q), (4, .int v4)]) C.1 C.2.1 dL_law_1013 hl (by decide) rfl (fun ls hl => ?_)
                              refine lv_aload_n C.1 C.2.1 dL_law_1015 rfl (lv_at hl 3 rfl) ?_
                              refine lv_aload_n C.1 C.2.1 dL_law_1016 rfl (lv_at hl 1 rfl) ?_
                              refine lv_iload C.1 C.2.1 dL_law_1017 (lv_at hl 5 rfl) ?_
                              refine lv_iconst (v := 1) C.1 C.2.1 dL_law_1019 (by decide) ?_
                              refine lv_iadd C.1 C.2.1 dL_law_1020 ?_
                              refine k_sld C hX hbl hbA hS h dL_law_1021 (fun _ h => ?_)
                              refine k_rwRi (w := wM cI cZ am) (wr := wX cI cZ a S1010 ++ wO cL q g1010) C hK2 hPM (va_P.app hPX hPO) (hDm _ _ _) hS hA [.int (xs ((v4 + 1) : Int32).toNatClampNeg)] (wM_rv hK2 hPM) h (fun v S2 e => tX1_without e) (cw_L_118 C.2.2.2.2) rfl hl.1 (Nat.le_of_ble_eq_true rfl) ⟨(show nc + 1 + 0 ≤ 1063 by omega), (show ns + 6 + 0 ≤ 9959 by omega)⟩ dL_law_1022 rfl (fun x1022 T1022 H locs e1022 h hPM hPR hS => ?_)
                              have hPX := P_left hPR
                              have hPO := P_right (w1 := wX cI cZ a S1010) hPR
                              refine lv_istore (lv' := [(6, .int x1022), (5, .int x1010), (0, .ref b), (1, .ref (a 0)), (2, .ref (am 0)), (3, .ref q), (4, .int v4)]) C.1 C.2.1 dL_law_1025 hl (by decide) rfl (fun ls hl => ?_)
                              refine lv_aload_n C.1 C.2.1 dL_law_1027 rfl (lv_at hl 4 rfl) ?_
                              refine k_roVi C hK2 hPM [] (wM_rv hK2 hPM) h (fun v e => tX1_thrown e) (cw_L_75 C.2.2.2.2) rfl hl.1 (Nat.le_of_ble_eq_true rfl) ⟨(show nc + 1 + 0 ≤ 1063 by omega), (show ns + 6 + 0 ≤ 9959 by omega)⟩ dL_law_1028 rfl (fun x1028 e1028 h => ?_)
                              refine lv_iload C.1 C.2.1 dL_law_1031 (lv_at hl 1 rfl) ?_
                              refine k_icmp_eq (tgt := 1038) C dL_law_1033 (by decide) h (fun c1033 h => ?_) (fun c1033 h => ?_)
                              · refine lv_iload C.1 C.2.1 dL_law_1038 (lv_at hl 1 rfl) ?_
                                refine k_if_ne (tgt := 1055) C dL_law_1040 (by decide) h (fun c1040 h => ?_) (fun c1040 h => ?_)
                                · refine lv_goto (tgt := 1201) C.1 C.2.1 dL_law_1055 (by decide) ?_
                                  refine lv_iinc (v := (v4 + 5)) (lv' := [(4, .int (v4 + 5)), (6, .int x1022), (5, .int x1010), (0, .ref b), (1, .ref (a 0)), (2, .ref (am 0)), (3, .ref q)]) C.1 C.2.1 dL_law_1201 hl (k := 6) rfl rfl (by decide) rfl (fun ls hl => ?_)
                                  refine lv_goto (tgt := 23) C.1 C.2.1 dL_law_1204 (by decide) ?_
                                  exact ih9 S1010 T1022 g1010 (v4 + 5) h _ _ (by omega) (by omega) (by rw [hst5]; omega) (by rw [hst5]; omega) _ _ hPX hPM hPO hS ls (lv_sub hl [3, 4, 5, 6, 0] rfl)
                                · refine lv_aload_n C.1 C.2.1 dL_law_1043 rfl (lv_at hl 5 rfl) ?_
                                  refine lv_iconst (v := 0) C.1 C.2.1 dL_law_1044 (by decide) ?_
                                  refine k_lld C hK hPO 0 2 rfl rfl h dL_law_1045 (fun h => ?_)
                                  refine lv_iload C.1 C.2.1 dL_law_1046 (lv_at hl 0 rfl) ?_
                                  refine lv_i2l (v := (x1022 : Int32).toInt64) C.1 C.2.1 dL_law_1048 rfl ?_
                                  refine W.lcmp C.1 C.2.1 dL_law_1049 ?_
                                  refine k_if_eq (tgt := 1055) C dL_law_1050 (by decide) h (fun c1050 h => ?_) (fun c1050 h => ?_)
                                  · refine lv_goto (tgt := 1201) C.1 C.2.1 dL_law_1055 (by decide) ?_
                                    refine lv_iinc (v := (v4 + 5)) (lv' := [(4, .int (v4 + 5)), (6, .int x1022), (5, .int x1010), (0, .ref b), (1, .ref (a 0)), (2, .ref (am 0)), (3, .ref q)]) C.1 C.2.1 dL_law_1201 hl (k := 6) rfl rfl (by decide) rfl (fun ls hl => ?_)
                                    refine lv_goto (tgt := 23) C.1 C.2.1 dL_law_1204 (by decide) ?_
                                    exact ih9 S1010 T1022 g1010 (v4 + 5) h _ _ (by omega) (by omega) (by rw [hst5]; omega) (by rw [hst5]; omega) _ _ hPX hPM hPO hS ls (lv_sub hl [3, 4, 5, 6, 0] rfl)
                                  · refine lv_iconst (v := 0) C.1 C.2.1 dL_law_1053 (by decide) ?_
                                    exact absurd h (by decide)
                              · refine lv_iconst (v := 0) C.1 C.2.1 dL_law_1036 (by decide) ?_
                                exact absurd h (by decide)
                            · have h := if_h h c39_12
                              by_cases c39_13 : (((xs (v4 : Int32).toNatClampNeg) &&& 31) : Int32) = 13
                              · have h := it_h h c39_13
                                refine lv_tableIn (off := 1019) (tgt := 1058) C.1 C.2.1 dL_law_39 (by rw [c39_13]; decide) (by rw [c39_13]; decide) (by rw [c39_13]; rfl) (by decide) ?_
                                refine lv_aload_n C.1 C.2.1 dL_law_1058 rfl (lv_at hl 1 rfl) ?_
                                refine lv_aload_n C.1 C.2.1 dL_law_1059 rfl (lv_at hl 0 rfl) ?_
                                refine lv_iload C.1 C.2.1 dL_law_1060 (lv_at hl 4 rfl) ?_
                                refine lv_iconst (v := 1) C.1 C.2.1 dL_law_1062 (by decide) ?_
                                refine lv_iadd C.1 C.2.1 dL_law_1063 ?_
                                refine k_sld C hX hbl hbA hS h dL_law_1064 (fun _ h => ?_)
                                refine lv_aload_n C.1 C.2.1 dL_law_1065 rfl (lv_at hl 0 rfl) ?_
                                refine lv_iload C.1 C.2.1 dL_law_1066 (lv_at hl 4 rfl) ?_
                                refine lv_iconst (v := 2) C.1 C.2.1 dL_law_1068 (by decide) ?_
                                refine lv_iadd C.1 C.2.1 dL_law_1069 ?_
                                refine k_sld C hX hbl hbA hS h dL_law_1070 (fun _ h => ?_)
                                refine lv_aload_n C.1 C.2.1 dL_law_1071 rfl (lv_at hl 3 rfl) ?_
                                refine kL_wrap C hK hPX hPM hPO (hDo _ _ _) hS hA hE [.ref (a 0), .int (xs ((v4 + 1) : Int32).toNatClampNeg), .int (xs ((v4 + 2) : Int32).toNatClampNeg), .ref q] h (fun v Y e => tL_needs hfl e) (cw_L_119 C.2.2.2.2) rfl hl.1 (Nat.le_of_ble_eq_true rfl) ⟨(show nc + 1 ≤ 1063 by omega), (show ns + 6 ≤ 9959 by omega)⟩ dL_law_1072 rfl (fun x1072 S1072 g1072 H locs e1072 h hPX hPM hPO hS => ?_)
                                refine lv_istore (lv' := [(5, .int x1072), (0, .ref b), (1, .ref (a 0)), (2, .ref (am 0)), (3, .ref q), (4, .int v4)]) C.1 C.2.1 dL_law_1075 hl (by decide) rfl (fun ls hl => ?_)
                                refine lv_aload_n C.1 C.2.1 dL_law_1077 rfl (lv_at hl 3 rfl) ?_
                                refine lv_aload_n C.1 C.2.1 dL_law_1078 rfl (lv_at hl 1 rfl) ?_
                                refine lv_iload C.1 C.2.1 dL_law_1079 (lv_at hl 5 rfl) ?_
                                refine lv_iconst (v := 1) C.1 C.2.1 dL_law_1081 (by decide) ?_
                                refine lv_iadd C.1 C.2.1 dL_law_1082 ?_
                                refine k_sld C hX hbl hbA hS h dL_law_1083 (fun _ h => ?_)
                                refine lv_aload_n C.1 C.2.1 dL_law_1084 rfl (lv_at hl 1 rfl) ?_
                                refine lv_iload C.1 C.2.1 dL_law_1085 (lv_at hl 5 rfl) ?_
                                refine lv_iconst (v := 2) C.1 C.2.1 dL_law_1087 (by decide) ?_
                                refine lv_iadd C.1 C.2.1 dL_law_1088 ?_
                                refine k_sld C hX hbl hbA hS h dL_law_1089 (fun _ h => ?_)
                                refine k_rwRi (w := wM cI cZ am) (wr := wX cI cZ a S1072 ++ wO cL q g1072) C hK2 hPM (va_P.app hPX hPO) (hDm _ _ _) hS hA [.int (xs ((v4 + 1) : Int32).toNatClampNeg), .int (xs ((v4 + 2) : Int32).toNatClampNeg)] (wM_rv hK2 hPM) h (fun v S2 e => tX1_needs e) (cw_L_121 C.2.2.2.2) rfl hl.1 (Nat.le_of_ble_eq_true rfl) ⟨(show nc + 1 + 0 ≤ 1063 by omega), (show ns + 6 + 0 ≤ 9959 by omega)⟩ dL_law_1090 rfl (fun x1090 T1090 H locs e1090 h hPM hPR hS => ?_)
                                have hPX := P_left hPR
                                have hPO := P_right (w1 := wX cI cZ a S1072) hPR
                                refine lv_istore (lv' := [(6, .int x1090), (5, .int x1072), (0, .ref b), (1, .ref (a 0)), (2, .ref (am 0)), (3, .ref q), (4, .int v4)]) C.1 C.2.1 dL_law_1093 hl (by decide) rfl (fun ls hl => ?_)
                                refine lv_aload_n C.1 C.2.1 dL_law_1095 rfl (lv_at hl 4 rfl) ?_
                                refine k_roVi C hK2 hPM [] (wM_rv hK2 hPM) h (fun v e => tX1_thrown e) (cw_L_75 C.2.2.2.2) rfl hl.1 (Nat.le_of_ble_eq_true rfl) ⟨(show nc + 1 + 0 ≤ 1063 by omega), (show ns + 6 + 0 ≤ 9959 by omega)⟩ dL_law_1096 rfl (fun x1096 e1096 h => ?_)
                                refine lv_iload C.1 C.2.1 dL_law_1099 (lv_at hl 1 rfl) ?_
                                refine k_icmp_eq (tgt := 1106) C dL_law_1101 (by decide) h (fun c1101 h => ?_) (fun c1101 h => ?_)
                                · refine lv_iload C.1 C.2.1 dL_law_1106 (lv_at hl 1 rfl) ?_
                                  refine k_if_ne (tgt := 1130) C dL_law_1108 (by decide) h (fun c1108 h => ?_) (fun c1108 h => ?_)
                                  · refine lv_goto (tgt := 1201) C.1 C.2.1 dL_law_1130 (by decide) ?_
                                    refine lv_iinc (v := (v4 + 5)) (lv' := [(4, .int (v4 + 5)), (6, .int x1090), (5, .int x1072), (0, .ref b), (1, .ref (a 0)), (2, .ref (am 0)), (3, .ref q)]) C.1 C.2.1 dL_law_1201 hl (k := 6) rfl rfl (by decide) rfl (fun ls hl => ?_)
                                    refine lv_goto (tgt := 23) C.1 C.2.1 dL_law_1204 (by decide) ?_
                                    exact ih9 S1072 T1090 g1072 (v4 + 5) h _ _ (by omega) (by omega) (by rw [hst5]; omega) (by rw [hst5]; omega) _ _ hPX hPM hPO hS ls (lv_sub hl [3, 4, 5, 6, 0] rfl)
                                  · refine lv_aload_n C.1 C.2.1 dL_law_1111 rfl (lv_at hl 5 rfl) ?_
                                    refine lv_iconst (v := 0) C.1 C.2.1 dL_law_1112 (by decide) ?_
                                    refine k_lld C hK hPO 0 2 rfl rfl h dL_law_1113 (fun h => ?_)
                                    refine lv_iload C.1 C.2.1 dL_law_1114 (lv_at hl 0 rfl) ?_
                                    refine k_if_eq (tgt := 1123) C dL_law_1116 (by decide) h (fun c1116 h => ?_) (fun c1116 h => ?_)
                                    · refine lv_lconst (v := 0) C.1 C.2.1 dL_law_1123 (by decide) ?_
                                      refine W.lcmp C.1 C.2.1 dL_law_1124 ?_
                                      refine k_if_eq (tgt := 1130) C dL_law_1125 (by decide) h (fun c1125 h => ?_) (fun c1125 h => ?_)
                                      · refine lv_goto (tgt := 1201) C.1 C.2.1 dL_law_1130 (by decide) ?_
                                        refine lv_iinc (v := (v4 + 5)) (lv' := [(4, .int (v4 + 5)), (6, .int x1090), (5, .int x1072), (0, .ref b), (1, .ref (a 0)), (2, .ref (am 0)), (3, .ref q)]) C.1 C.2.1 dL_law_1201 hl (k := 6) rfl rfl (by decide) rfl (fun ls hl => ?_)
                                        refine lv_goto (tgt := 23) C.1 C.2.1 dL_law_1204 (by decide) ?_
                                        exact ih9 S1072 T1090 g1072 (v4 + 5) h _ _ (by omega) (by omega) (by rw [hst5]; omega) (by rw [hst5]; omega) _ _ hPX hPM hPO hS ls (lv_sub hl [3, 4, 5, 6, 0] rfl)
                                      · refine lv_iconst (v := 0) C.1 C.2.1 dL_law_1128 (by decide) ?_
                                        exact absurd h (by decide)
                                    · refine lv_lconst (v := 1) C.1 C.2.1 dL_law_1119 (by decide) ?_
                                      refine lv_goto (tgt := 1124) C.1 C.2.1 dL_law_1120 (by decide) ?_
                                      refine W.lcmp C.1 C.2.1 dL_law_1124 ?_
                                      refine k_if_eq (tgt := 1130) C dL_law_1125 (by decide) h (fun c1125 h => ?_) (fun c1125 h => ?_)
                                      · refine lv_goto (tgt := 1201) C.1 C.2.1 dL_law_1130 (by decide) ?_
                                        refine lv_iinc (v := (v4 + 5)) (lv' := [(4, .int (v4 + 5)), (6, .int x1090), (5, .int x1072), (0, .ref b), (1, .ref (a 0)), (2, .ref (am 0)), (3, .ref q)]) C.1 C.2.1 dL_law_1201 hl (k := 6) rfl rfl (by decide) rfl (fun ls hl => ?_)
                                        refine lv_goto (tgt := 23) C.1 C.2.1 dL_law_1204 (by decide) ?_
                                        exact ih9 S1072 T1090 g1072 (v4 + 5) h _ _ (by omega) (by omega) (by rw [hst5]; omega) (by rw [hst5]; omega) _ _ hPX hPM hPO hS ls (lv_sub hl [3, 4, 5, 6, 0] rfl)
                                      · refine lv_iconst (v := 0) C.1 C.2.1 dL_law_1128 (by decide) ?_
                                        exact absurd h (by decide)
                                · refine lv_iconst (v := 0) C.1 C.2.1 dL_law_1104 (by decide) ?_
                                  exact absurd h (by decide)
                              · have h := if_h h c39_13
                                by_cases c39_14 : (((xs (v4 : Int32).toNatClampNeg) &&& 31) : Int32) = 14
                                · have h := it_h h c39_14
                                  refine lv_tableIn (off := 1094) (tgt := 1133) C.1 C.2.1 dL_law_39 (by rw [c39_14]; decide) (by rw [c39_14]; decide) (by rw [c39_14]; rfl) (by decide) ?_
                                  refine lv_aload_n C.1 C.2.1 dL_law_1133 rfl (lv_at hl 1 rfl) ?_
                                  refine k_rwRi (w := wX cI cZ a) (wr := wM cI cZ am T ++ wO cL q g) C hK2 hPX (va_P.app hPM hPO) (hDx _ _ _) hS hA [] (wX_rv hK2 hPX) h (fun v S2 e => tX0_advise e) (cw_L_122 C.2.2.2.2) rfl hl.1 (Nat.le_of_ble_eq_true rfl) ⟨(show nc + 0 ≤ 1063 by omega), (show ns + 0 ≤ 9959 by omega)⟩ dL_law_1134 rfl (fun x1134 S1134 H locs e1134 h hPX hPR hS => ?_)
                                  have hPM := P_left hPR
                                  have hPO := P_right (w1 := wM cI cZ am T) hPR
                                  refine lv_aload_n C.1 C.2.1 dL_law_1137 rfl (lv_at hl 2 rfl) ?_
                                  refine k_rwRi (w := wM cI cZ am) (wr := wX cI cZ a S1134 ++ wO cL q g) C hK2 hPM (va_P.app hPX hPO) (hDm _ _ _) hS hA [] (wM_rv hK2 hPM) h (fun v S2 e => tX1_advise e) (cw_L_125 C.2.2.2.2) rfl hl.1 (Nat.le_of_ble_eq_true rfl) ⟨(show nc + 0 ≤ 1063 by omega), (show ns + 0 ≤ 9959 by omega)⟩ dL_law_1138 rfl (fun x1138 T1138 H locs e1138 h hPM hPR hS => ?_)
                                  have hPX := P_left hPR
                                  have hPO := P_right (w1 := wX cI cZ a S1134) hPR
                                  refine k_icmp_eq (tgt := 1201) C dL_law_1141 (by decide) h (fun c1141 h => ?_) (fun c1141 h => ?_)
                                  · refine lv_iinc (v := (v4 + 5)) (lv' := [(4, .int (v4 + 5)), (0, .ref b), (1, .ref (a 0)), (2, .ref (am 0)), (3, .ref q)]) C.1 C.2.1 dL_law_1201 hl (k := 4) rfl rfl (by decide) rfl (fun ls hl => ?_)
                                    refine lv_goto (tgt := 23) C.1 C.2.1 dL_law_1204 (by decide) ?_
                                    exact ih9 S1134 T1138 g (v4 + 5) h _ _ (by omega) (by omega) (by rw [hst5]; omega) (by rw [hst5]; omega) _ _ hPX hPM hPO hS ls (lv_sub hl [1, 2, 3, 4, 0] rfl)
                                  · refine lv_iconst (v := 0) C.1 C.2.1 dL_law_1144 (by decide) ?_
                                    exact absurd h (by decide)
                                · have h := if_h h c39_14
                                  by_cases c39_15 : (((xs (v4 : Int32).toNatClampNeg) &&& 31) : Int32) = 15
                                  · have h := it_h h c39_15
                                    refine lv_tableIn (off := 1107) (tgt := 1146) C.1 C.2.1 dL_law_39 (by rw [c39_15]; decide) (by rw [c39_15]; decide) (by rw [c39_15]; rfl) (by decide) ?_
                                    refine lv_aload_n C.1 C.2.1 dL_law_1146 rfl (lv_at hl 1 rfl) ?_
                                    refine k_roVd C hK2 hPX [] (wX_rv hK2 hPX) h (fun v e => tX0_mean e) (cw_L_126 C.2.2.2.2) rfl hl.1 (Nat.le_of_ble_eq_true rfl) ⟨(show nc + 0 ≤ 1063 by omega), (show ns + 0 ≤ 9959 by omega)⟩ dL_law_1147 rfl (fun x1147 e1147 h => ?_)
                                    refine lv_dstore (lv' := [(5, .double x1147), (0, .ref b), (1, .ref (a 0)), (2, .ref (am 0)), (3, .ref q), (4, .int v4)]) C.1 C.2.1 dL_law_1150 hl (by decide) rfl (fun ls hl => ?_)
                                    refine lv_aload_n C.1 C.2.1 dL_law_1152 rfl (lv_at hl 3 rfl) ?_
                                    refine k_rwRd (w := wM cI cZ am) (wr := wX cI cZ a S ++ wO cL q g) C hK2 hPM (va_P.app hPX hPO) (hDm _ _ _) hS hA [] (wM_rv hK2 hPM) h (fun v S2 e => tX1_mean e) (cw_L_130 C.2.2.2.2) rfl hl.1 (Nat.le_of_ble_eq_true rfl) ⟨(show nc + 0 ≤ 1063 by omega), (show ns + 0 ≤ 9959 by omega)⟩ dL_law_1153 rfl (fun x1153 T1153 H locs e1153 h hPM hPR hS => ?_)
                                    have hPX := P_left hPR
                                    have hPO := P_right (w1 := wX cI cZ a S) hPR
                                    refine lv_dstore (lv' := [(7, .double x1153), (5, .double x1147), (0, .ref b), (1, .ref (a 0)), (2, .ref (am 0)), (3, .ref q), (4, .int v4)]) C.1 C.2.1 dL_law_1156 hl (by decide) rfl (fun ls hl => ?_)
                                    refine lv_dload C.1 C.2.1 dL_law_1158 (lv_at hl 1 rfl) ?_
                                    refine lv_dload C.1 C.2.1 dL_law_1160 (lv_at hl 0 rfl) ?_
                                    refine lv_dcmp C.1 C.2.1 dL_law_1162 ?_
                                    refine k_if_eq (tgt := 1184) C dL_law_1163 (by decide) h (fun c1163 h => ?_) (fun c1163 h => ?_)
                                    · refine lv_goto (tgt := 1201) C.1 C.2.1 dL_law_1184 (by decide) ?_
                                      refine lv_iinc (v := (v4 + 5)) (lv' := [(4, .int (v4 + 5)), (7, .double x1153), (5, .double x1147), (0, .ref b), (1, .ref (a 0)), (2, .ref (am 0)), (3, .ref q)]) C.1 C.2.1 dL_law_1201 hl (k := 6) rfl rfl (by decide) rfl (fun ls hl => ?_)
                                      refine lv_goto (tgt := 23) C.1 C.2.1 dL_law_1204 (by decide) ?_
                                      exact ih9 S T1153 g (v4 + 5) h _ _ (by omega) (by omega) (by rw [hst5]; omega) (by rw [hst5]; omega) _ _ hPX hPM hPO hS ls (lv_sub hl [3, 4, 5, 6, 0] rfl)
                                    · refine lv_dload C.1 C.2.1 dL_law_1166 (lv_at hl 1 rfl) ?_
                                      refine lv_dload C.1 C.2.1 dL_law_1168 (lv_at hl 1 rfl) ?_
                                      refine lv_dcmp C.1 C.2.1 dL_law_1170 ?_
                                      refine k_if_eq (tgt := 1182) C dL_law_1171 (by decide) h (fun c1171 h => ?_) (fun c1171 h => ?_)
                                      · refine lv_iconst (v := 0) C.1 C.2.1 dL_law_1182 (by decide) ?_
                                        exact absurd h (by decide)
                                      · refine lv_dload C.1 C.2.1 dL_law_1174 (lv_at hl 0 rfl) ?_
                                        refine lv_dload C.1 C.2.1 dL_law_1176 (lv_at hl 0 rfl) ?_
                                        refine lv_dcmp C.1 C.2.1 dL_law_1178 ?_
                                        refine k_if_ne (tgt := 1184) C dL_law_1179 (by decide) h (fun c1179 h => ?_) (fun c1179 h => ?_)
                                        · refine lv_goto (tgt := 1201) C.1 C.2.1 dL_law_1184 (by decide) ?_
                                          refine lv_iinc (v := (v4 + 5)) (lv' := [(4, .int (v4 + 5)), (7, .double x1153), (5, .double x1147), (0, .ref b), (1, .ref (a 0)), (2, .ref (am 0)), (3, .ref q)]) C.1 C.2.1 dL_law_1201 hl (k := 6) rfl rfl (by decide) rfl (fun ls hl => ?_)
                                          refine lv_goto (tgt := 23) C.1 C.2.1 dL_law_1204 (by decide) ?_
                                          exact ih9 S T1153 g (v4 + 5) h _ _ (by omega) (by omega) (by rw [hst5]; omega) (by rw [hst5]; omega) _ _ hPX hPM hPO hS ls (lv_sub hl [3, 4, 5, 6, 0] rfl)
                                        · refine lv_iconst (v := 0) C.1 C.2.1 dL_law_1182 (by decide) ?_
                                          exact absurd h (by decide)
                                  · have h := if_h h c39_15
                                    by_cases c39_16 : (((xs (v4 : Int32).toNatClampNeg) &&& 31) : Int32) = 16
                                    · have h := it_h h c39_16
                                      refine lv_tableIn (off := 1148) (tgt := 1187) C.1 C.2.1 dL_law_39 (by rw [c39_16]; decide) (by rw [c39_16]; decide) (by rw [c39_16]; rfl) (by decide) ?_
                                      refine lv_aload_n C.1 C.2.1 dL_law_1187 rfl (lv_at hl 1 rfl) ?_
                                      refine k_roVl C hK2 hPX [] (wX_rv hK2 hPX) h (fun v e => tX0_digest e) (cw_L_131 C.2.2.2.2) rfl hl.1 (Nat.le_of_ble_eq_true rfl) ⟨(show nc + 0 ≤ 1063 by omega), (show ns + 0 ≤ 9959 by omega)⟩ dL_law_1188 rfl (fun x1188 e1188 h => ?_)
                                      refine lv_aload_n C.1 C.2.1 dL_law_1191 rfl (lv_at hl 2 rfl) ?_
                                      refine k_rwRl (w := wM cI cZ am) (wr := wX cI cZ a S ++ wO cL q g) C hK2 hPM (va_P.app hPX hPO) (hDm _ _ _) hS hA [] (wM_rv hK2 hPM) h (fun v S2 e => tX1_digest e) (cw_L_135 C.2.2.2.2) rfl hl.1 (Nat.le_of_ble_eq_true rfl) ⟨(show nc + 0 ≤ 1063 by omega), (show ns + 0 ≤ 9959 by omega)⟩ dL_law_1192 rfl (fun x1192 T1192 H locs e1192 h hPM hPR hS => ?_)
                                      have hPX := P_left hPR
                                      have hPO := P_right (w1 := wX cI cZ a S) hPR
                                      refine W.lcmp C.1 C.2.1 dL_law_1195 ?_
                                      refine k_if_eq (tgt := 1201) C dL_law_1196 (by decide) h (fun c1196 h => ?_) (fun c1196 h => ?_)
                                      · refine lv_iinc (v := (v4 + 5)) (lv' := [(4, .int (v4 + 5)), (0, .ref b), (1, .ref (a 0)), (2, .ref (am 0)), (3, .ref q)]) C.1 C.2.1 dL_law_1201 hl (k := 4) rfl rfl (by decide) rfl (fun ls hl => ?_)
                                        refine lv_goto (tgt := 23) C.1 C.2.1 dL_law_1204 (by decide) ?_
                                        exact ih9 S T1192 g (v4 + 5) h _ _ (by omega) (by omega) (by rw [hst5]; omega) (by rw [hst5]; omega) _ _ hPX hPM hPO hS ls (lv_sub hl [1, 2, 3, 4, 0] rfl)
                                      · refine lv_iconst (v := 0) C.1 C.2.1 dL_law_1199 (by decide) ?_
                                        exact absurd h (by decide)
                                    · have h := if_h h c39_16
                                      have e39_0 := sw_ne (j := 0) c39_0 (by decide)
                                      have e39_1 := sw_ne (j := 1) c39_1 (by decide)
                                      have e39_2 := sw_ne (j := 2) c39_2 (by decide)
                                      have e39_3 := sw_ne (j := 3) c39_3 (by decide)
                                      have e39_4 := sw_ne (j := 4) c39_4 (by decide)
                                      have e39_5 := sw_ne (j := 5) c39_5 (by decide)
                                      have e39_6 := sw_ne (j := 6) c39_6 (by decide)
                                      have e39_7 := sw_ne (j := 7) c39_7 (by decide)
                                      have e39_8 := sw_ne (j := 8) c39_8 (by decide)
                                      have e39_9 := sw_ne (j := 9) c39_9 (by decide)
                                      have e39_10 := sw_ne (j := 10) c39_10 (by decide)
                                      have e39_11 := sw_ne (j := 11) c39_11 (by decide)
                                      have e39_12 := sw_ne (j := 12) c39_12 (by decide)
                                      have e39_13 := sw_ne (j := 13) c39_13 (by decide)
                                      have e39_14 := sw_ne (j := 14) c39_14 (by decide)
                                      have e39_15 := sw_ne (j := 15) c39_15 (by decide)
                                      have e39_16 := sw_ne (j := 16) c39_16 (by decide)
                                      refine lv_tableOut (tgt := 1201) C.1 C.2.1 dL_law_39 (by omega) (by decide) ?_
                                      refine lv_iinc (v := (v4 + 5)) (lv' := [(4, .int (v4 + 5)), (0, .ref b), (1, .ref (a 0)), (2, .ref (am 0)), (3, .ref q)]) C.1 C.2.1 dL_law_1201 hl (k := 4) rfl rfl (by decide) rfl (fun ls hl => ?_)
                                      refine lv_goto (tgt := 23) C.1 C.2.1 dL_law_1204 (by decide) ?_
                                      exact ih9 S T g (v4 + 5) h _ _ (by omega) (by omega) (by rw [hst5]; omega) (by rw [hst5]; omega) _ _ hPX hPM hPO hS ls (lv_sub hl [1, 2, 3, 4, 0] rfl)
end LAW
