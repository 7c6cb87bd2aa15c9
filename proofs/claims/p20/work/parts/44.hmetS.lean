section HMETS
theorem qc_X1_39 : Cond.constant RX1 39 (100000) ∈ WW := List.mem_filter.mpr ⟨List.mem_append_right _ (List.mem_append_right _ (List.mem_append_left _ (List.mem_of_getElem? (i := 156) rfl))), rfl⟩
theorem qc_L_7 : Cond.constant RL 7 (2147483647) ∈ WW := List.mem_filter.mpr ⟨List.mem_append_right _ (List.mem_append_right _ (List.mem_append_left _ (List.mem_of_getElem? (i := 182) rfl))), rfl⟩
theorem qc_L_8 : Cond.constant RL 8 (790386105) ∈ WW := List.mem_filter.mpr ⟨List.mem_append_right _ (List.mem_append_right _ (List.mem_append_left _ (List.mem_of_getElem? (i := 186) rfl))), rfl⟩
theorem gdSW {own : String} {idx : Nat} {y : MethodName} {b : ByteArray} {n : Nat} {r : Option FieldType} {hh : List (Nat × Nat × Nat × Nat)} (h1 : Cond.methodLink own idx y ∈ WW) (h2 : Cond.static y ∈ WW) (h4 : Cond.initialized y.cls ∈ WW) (h5 : Cond.codeWith y b n r hh ∈ WW) : GoodIn WW (va_wsS own idx y (Cond.codeWith y b n r hh :: WW)) := by
  have k : ∀ w ∈ va_wsS own idx y (Cond.codeWith y b n r hh :: WW), w ∈ WW := by
    intro w hw
    simp only [va_wsS, List.cons_append, List.nil_append, List.mem_cons] at hw
    rcases hw with rfl | rfl | rfl | rfl | hw
    · exact h1
    · exact h2
    · exact h4
    · exact h5
    · exact hw
  exact fun w hw => ⟨k w hw, WW_good w (k w hw)⟩
theorem cb_X1_23 {R : Room} {s : State} {args : Array Value} (h : ∀ w ∈ WW, w.before args s = true) (hR : 0 + 1 ≤ R.frames ∧ 8 + (6 + 11) + 0 ≤ R.locals) : CallB R s args RX1 23 yX1_isWhole cX1_isWhole 6 (some .boolean) (Cond.code yX1_isWhole cX1_isWhole 6 (some .boolean) :: WW) ({ frames := 0, cells := 0, slots := 0, locals := 0 }) 0 0 1 ∧ (Cond.static yX1_isWhole).before args s = true := va_cwS 1 h (gdS qM_X1_23 qT_X1_isWhole qN_X1 qC_X1_isWhole) rfl rfl rfl (by decide +kernel) hR
theorem cb_X1_31 {R : Room} {s : State} {args : Array Value} (h : ∀ w ∈ WW, w.before args s = true) (hR : 1 + 1 ≤ R.frames ∧ 8 + (8 + 11) + 25 ≤ R.locals) : CallW R s args RX1 RX1 31 yX1_holds cX1_holds 8 (some .boolean) (Cond.code yX1_holds cX1_holds 8 (some .boolean) :: WW) ({ frames := 1, cells := 0, slots := 0, locals := 25 }) 0 0 2 := cwV 2 h (gdV qM_X1_31 qI_X1_holds qS_X1_holds qN_X1 qC_X1_holds) rfl rfl rfl (by decide +kernel) hR
theorem cb_X1_35 {R : Room} {s : State} {args : Array Value} (h : ∀ w ∈ WW, w.before args s = true) (hR : 2 + 1 ≤ R.frames ∧ 8 + (10 + 11) + 52 ≤ R.locals) : CallW R s args RX1 RX1 35 yX1_stages cX1_stages 10 (some (.array .int)) (Cond.code yX1_stages cX1_stages 10 (some (.array .int)) :: WW) ({ frames := 2, cells := 17, slots := 238, locals := 52 }) 17 238 1 := cwV 1 h (gdV qM_X1_35 qI_X1_stages qS_X1_stages qN_X1 qC_X1_stages) rfl rfl rfl (by decide +kernel) hR
theorem cb_X1_40 {R : Room} {s : State} {args : Array Value} (h : ∀ w ∈ WW, w.before args s = true) (hR : 1 + 1 ≤ R.frames ∧ 8 + (9 + 11) + 25 ≤ R.locals) : CallW R s args RX1 RX1 40 yX1_measure cX1_measure 9 (some .int) (Cond.code yX1_measure cX1_measure 9 (some .int) :: WW) ({ frames := 1, cells := 0, slots := 0, locals := 25 }) 0 0 3 := cwV 3 h (gdV qM_X1_40 qI_X1_measure qS_X1_measure qN_X1 qC_X1_measure) rfl rfl rfl (by decide +kernel) hR
theorem cb_X1_50 {R : Room} {s : State} {args : Array Value} (h : ∀ w ∈ WW, w.before args s = true) (hR : 0 + 1 ≤ R.frames ∧ 8 + (12 + 11) + 0 ≤ R.locals) : CallW R s args RX1 RX1 50 yX1_on cX1_on 12 (some (.array .boolean)) (Cond.code yX1_on cX1_on 12 (some (.array .boolean)) :: WW) ({ frames := 0, cells := 1, slots := 14, locals := 0 }) 1 14 1 := cwV 1 h (gdV qM_X1_50 qI_X1_on qS_X1_on qN_X1 qC_X1_on) rfl rfl rfl (by decide +kernel) hR
theorem cb_X1_54 {R : Room} {s : State} {args : Array Value} (h : ∀ w ∈ WW, w.before args s = true) (hR : 2 + 1 ≤ R.frames ∧ 8 + (10 + 11) + 53 ≤ R.locals) : CallW R s args RX1 RX1 54 yX1_measures cX1_measures 10 (some (.array .int)) (Cond.code yX1_measures cX1_measures 10 (some (.array .int)) :: WW) ({ frames := 2, cells := 17, slots := 238, locals := 53 }) 17 238 1 := cwV 1 h (gdV qM_X1_54 qI_X1_measures qS_X1_measures qN_X1 qC_X1_measures) rfl rfl rfl (by decide +kernel) hR
theorem cb_X1_57 {R : Room} {s : State} {args : Array Value} (h : ∀ w ∈ WW, w.before args s = true) (hR : 1 + 1 ≤ R.frames ∧ 8 + (4 + 11) + 31 ≤ R.locals) : CallW R s args RX1 RX1 57 yX1_circle cX1_circle 4 (some .int) (Cond.code yX1_circle cX1_circle 4 (some .int) :: WW) ({ frames := 1, cells := 17, slots := 238, locals := 31 }) 17 238 1 := cwV 1 h (gdV qM_X1_57 qI_X1_circle qS_X1_circle qN_X1 qC_X1_circle) rfl rfl rfl (by decide +kernel) hR
set_option maxHeartbeats 8000000 in
set_option maxRecDepth 100000 in
theorem tS_more {l : Launch} {D : va_G} {k : Nat → ClassId} {a0 : Nat → Nat} {Hp0 : HS} {sz : Nat} {v0 : Nat} {v1 : Nat} {z : (Nat × HS)} (h : mS_more Hp0 v0 v1 = some z) : Met l yX1_more (Cond.code yX1_more cX1_more 4 (some (.array (.array .int))) :: WW) ({ frames := 0, cells := 1, slots := 14, locals := 0 }) (va_Pc [.ref (a0 v0), .ref (a0 v1)] (hPre D k ([] : va_W) a0 Hp0 sz)) (hQr D k ([] : va_W) a0 Hp0.length z.2 z.1 (va_A (([] : va_W) ++ wH k a0 Hp0) sz)) 1 14 (va_A (([] : va_W) ++ wH k a0 Hp0) sz) := by
  refine HW_of (own := RX1) (Qc := fun A => hQr D k ([] : va_W) a0 Hp0.length z.2 z.1 A) (by decide) rfl (Nat.le_of_ble_eq_true rfl) ?_
  intro p e s m args below meth c A ha C hr hlk hnm hK hB hA hT ls hl
  have hl : lv_has ls 4 [(0, .ref (a0 v0)), (1, .ref (a0 v1))] := hl
  have L10 : ∀ (v0 : Nat) (v1 : Nat) (v2 : Nat) (n : Nat) (Hp : HS) (v3 : Int32), itr2 (mS_more_F10 v0 v1 v2) n Hp v3 = some z → ∀ (a : Nat → Nat) (H : Heap) (locs : List Loc) (cells slots : Nat) (hT : hST D k A s ([] : va_W) a0 Hp0.length a Hp H locs) (hc : cells ≤ 1) (hsl : slots ≤ 14 * cells) (ls : Array Slot), lv_has ls 4 [(0, .ref (a v0)), (1, .ref (a v1)), (2, .ref (a v2)), (3, .int v3)] → W p l e ({ frames := 0, cells := 1, slots := 14, locals := 0 }) s m args below meth c H locs cells slots (MQ below (hQr D k ([] : va_W) a0 Hp0.length z.2 z.1 A) args s 1 14 A) (F0 m 10 ls []) := by
    intro v0 v1 v2
    intro n
    refine itr2_indn (fun (n : Nat) (Hp : HS) (v3 : Int32) => ∀ (a : Nat → Nat) (H : Heap) (locs : List Loc) (cells slots : Nat) (hT : hST D k A s ([] : va_W) a0 Hp0.length a Hp H locs) (hc : cells ≤ 1) (hsl : slots ≤ 14 * cells) (ls : Array Slot), lv_has ls 4 [(0, .ref (a v0)), (1, .ref (a v1)), (2, .ref (a v2)), (3, .int v3)] → W p l e ({ frames := 0, cells := 1, slots := 14, locals := 0 }) s m args below meth c H locs cells slots (MQ below (hQr D k ([] : va_W) a0 Hp0.length z.2 z.1 A) args s 1 14 A) (F0 m 10 ls [])) ?_ n
    intro n10 ih hih Hp v3 h a H locs cells slots hT hc hsl ls hl
    unfold mS_more_F10 at h
    refine lv_iload_n C.1 C.2.1 dX1_more_10 rfl (lv_at hl 3 rfl) ?_
    refine lv_aload_n C.1 C.2.1 dX1_more_11 rfl (lv_at hl 0 rfl) ?_
    refine h_len2 C hK hT.1 h dX1_more_12 (fun x12 h => ?_)
    refine k_icmp_ge (tgt := 28) C dX1_more_13 (by decide) h (fun c13 h => ?_) (fun c13 h => ?_)
    · refine lv_aload_n C.1 C.2.1 dX1_more_28 rfl (lv_at hl 2 rfl) ?_
      refine lv_aload_n C.1 C.2.1 dX1_more_29 rfl (lv_at hl 0 rfl) ?_
      refine h_len2 C hK hT.1 h dX1_more_30 (fun x30 h => ?_)
      refine lv_aload_n C.1 C.2.1 dX1_more_31 rfl (lv_at hl 1 rfl) ?_
      refine h_ast2 C hK hT hB h dX1_more_32 (fun Hp32 H locs h hT => ?_)
      refine lv_aload_n C.1 C.2.1 dX1_more_33 rfl (lv_at hl 2 rfl) ?_
      cases h
      exact h_aret C hr (Or.inr ⟨_, rfl⟩) hlk hT (by omega) (by omega) dX1_more_34
    · refine lv_aload_n C.1 C.2.1 dX1_more_16 rfl (lv_at hl 2 rfl) ?_
      refine lv_iload_n C.1 C.2.1 dX1_more_17 rfl (lv_at hl 3 rfl) ?_
      refine lv_aload_n C.1 C.2.1 dX1_more_18 rfl (lv_at hl 0 rfl) ?_
      refine lv_iload_n C.1 C.2.1 dX1_more_19 rfl (lv_at hl 3 rfl) ?_
      refine h_ald2 C hK hT.1 h dX1_more_20 (fun x20 h => ?_)
      refine h_ast2 C hK hT hB h dX1_more_21 (fun Hp21 H locs h hT => ?_)
      refine lv_iinc (v := (v3 + 1)) (lv' := [(3, .int (v3 + 1)), (0, .ref (a v0)), (1, .ref (a v1)), (2, .ref (a v2))]) C.1 C.2.1 dX1_more_22 hl (k := 3) rfl rfl (by decide) rfl (fun ls hl => ?_)
      refine lv_goto (tgt := 10) C.1 C.2.1 dX1_more_25 (by decide) ?_
      exact hih Hp21 (v3 + 1) h _ _ _ _ _ hT (by omega) (by omega) ls (lv_sub hl [1, 2, 3, 0] rfl)
  unfold mS_more at h
  refine lv_aload_n C.1 C.2.1 dX1_more_0 rfl (lv_at hl 0 rfl) ?_
  refine h_len2 C hK hT.1 h dX1_more_1 (fun x1 h => ?_)
  refine lv_iconst (v := 1) C.1 C.2.1 dX1_more_2 (by decide) ?_
  refine lv_iadd C.1 C.2.1 dX1_more_3 ?_
  refine h_nw2 C hK hT hA (by show _ ≤ 1; omega) (by show _ ≤ 14; omega) hB h dX1_more_4 (fun Hp4 x4 a4 H h hT hag hrs => ?_)
  have hl : lv_has ls 4 [(0, .ref (a4 v0)), (1, .ref (a4 v1))] := by
    have hl : lv_has ls 4 [(0, .ref (a0 v0)), (1, .ref (a0 v1))] := lv_sub hl [0, 1] rfl
    simpa only [hag _ (hrs _ (List.mem_of_getElem? (i := 0) rfl)), hag _ (hrs _ (List.mem_of_getElem? (i := 1) rfl))] using hl
  refine lv_astore_n (lv' := [(2, .ref (a4 x4)), (0, .ref (a4 v0)), (1, .ref (a4 v1))]) C.1 C.2.1 dX1_more_7 rfl hl (by decide) rfl (fun ls hl => ?_)
  refine lv_iconst (v := 0) C.1 C.2.1 dX1_more_8 (by decide) ?_
  refine lv_istore_n (lv' := [(3, .int 0), (2, .ref (a4 x4)), (0, .ref (a4 v0)), (1, .ref (a4 v1))]) C.1 C.2.1 dX1_more_9 rfl hl (by decide) rfl (fun ls hl => ?_)
  exact L10 v0 v1 x4 16 Hp4 0 h _ _ _ _ _ hT (by omega) (by omega) ls (lv_sub hl [2, 3, 1, 0] rfl)
set_option maxHeartbeats 8000000 in
set_option maxRecDepth 100000 in
theorem tS_isWhole {l : Launch} {D : va_G} {k : Nat → ClassId} {a : Nat → Nat} {Hp : HS} {v0 : Nat} {z : Int32} (h : mS_isWhole Hp v0 = some z) : Met l yX1_isWhole (Cond.code yX1_isWhole cX1_isWhole 6 (some .boolean) :: WW) ({ frames := 0, cells := 0, slots := 0, locals := 0 }) (va_Pc [.ref (a v0)] (roP D (([] : va_W) ++ wH k a Hp) (tyH k))) (vp_Si (fun r => r = z)) 0 0 (fun _ => False) := by
  refine RO_of (own := RX1) (by decide) rfl (Nat.le_of_ble_eq_true rfl) ?_
  intro p e s m args below meth c ha C hr hlk hP hK ls hl
  have hl : lv_has ls 6 [(0, .ref (a v0))] := hl
  have L10 : ∀ (v0 : Nat) (v2 : Nat) (v3 : Int32) (n : Nat) (v1 : Int32) (v4 : Int32), itr2 (mS_isWhole_F10 Hp v0 v2 v3) n v1 v4 = some z → ∀ ls : Array Slot, lv_has ls 6 [(0, .ref (a v0)), (1, .int v1), (2, .ref (a v2)), (3, .int v3), (4, .int v4)] → W p l e ({ frames := 0, cells := 0, slots := 0, locals := 0 }) s m args below meth c s.heap [] 0 0 (MQ below (vp_Si (fun r => r = z)) args s 0 0 (fun _ => False)) (F0 m 10 ls []) := by
    intro v0 v2 v3
    intro n
    refine itr2_indn (fun (n : Nat) (v1 : Int32) (v4 : Int32) => ∀ ls : Array Slot, lv_has ls 6 [(0, .ref (a v0)), (1, .int v1), (2, .ref (a v2)), (3, .int v3), (4, .int v4)] → W p l e ({ frames := 0, cells := 0, slots := 0, locals := 0 }) s m args below meth c s.heap [] 0 0 (MQ below (vp_Si (fun r => r = z)) args s 0 0 (fun _ => False)) (F0 m 10 ls [])) ?_ n
    intro n10 ih hih v1 v4 h ls hl
    unfold mS_isWhole_F10 at h
    refine lv_iload C.1 C.2.1 dX1_isWhole_10 (lv_at hl 4 rfl) ?_
    refine lv_iload_n C.1 C.2.1 dX1_isWhole_12 rfl (lv_at hl 3 rfl) ?_
    refine k_icmp_ge (tgt := 35) C dX1_isWhole_13 (by decide) h (fun c13 h => ?_) (fun c13 h => ?_)
    · refine lv_aload_n C.1 C.2.1 dX1_isWhole_35 rfl (lv_at hl 0 rfl) ?_
      refine h_len2 C hK hP h dX1_isWhole_36 (fun x36 h => ?_)
      refine k_if_le (tgt := 48) C dX1_isWhole_37 (by decide) h (fun c37 h => ?_) (fun c37 h => ?_)
      · refine lv_iconst (v := 0) C.1 C.2.1 dX1_isWhole_48 (by decide) ?_
        exact k_zret C hr hlk h dX1_isWhole_49
      · refine lv_iload_n C.1 C.2.1 dX1_isWhole_40 rfl (lv_at hl 1 rfl) ?_
        refine k_if_ne (tgt := 48) C dX1_isWhole_41 (by decide) h (fun c41 h => ?_) (fun c41 h => ?_)
        · refine lv_iconst (v := 0) C.1 C.2.1 dX1_isWhole_48 (by decide) ?_
          exact k_zret C hr hlk h dX1_isWhole_49
        · refine lv_iconst (v := 1) C.1 C.2.1 dX1_isWhole_44 (by decide) ?_
          refine lv_goto (tgt := 49) C.1 C.2.1 dX1_isWhole_45 (by decide) ?_
          exact k_zret C hr hlk h dX1_isWhole_49
    · refine lv_aload_n C.1 C.2.1 dX1_isWhole_16 rfl (lv_at hl 2 rfl) ?_
      refine lv_iload C.1 C.2.1 dX1_isWhole_17 (lv_at hl 4 rfl) ?_
      refine h_ald2 C hK hP h dX1_isWhole_19 (fun x19 h => ?_)
      refine lv_astore (lv' := [(5, .ref (a x19)), (0, .ref (a v0)), (1, .int v1), (2, .ref (a v2)), (3, .int v3), (4, .int v4)]) C.1 C.2.1 dX1_isWhole_20 hl (by decide) rfl (fun ls hl => ?_)
      refine lv_iload_n C.1 C.2.1 dX1_isWhole_22 rfl (lv_at hl 2 rfl) ?_
      refine lv_aload C.1 C.2.1 dX1_isWhole_23 (lv_at hl 0 rfl) ?_
      refine lv_iconst (v := 3) C.1 C.2.1 dX1_isWhole_25 (by decide) ?_
      refine h_ild0 C hK hP h dX1_isWhole_26 (fun x26 h => ?_)
      refine lv_iadd C.1 C.2.1 dX1_isWhole_27 ?_
      refine lv_istore_n (lv' := [(1, .int (v1 + x26)), (5, .ref (a x19)), (0, .ref (a v0)), (2, .ref (a v2)), (3, .int v3), (4, .int v4)]) C.1 C.2.1 dX1_isWhole_28 rfl hl (by decide) rfl (fun ls hl => ?_)
      refine lv_iinc (v := (v4 + 1)) (lv' := [(4, .int (v4 + 1)), (1, .int (v1 + x26)), (5, .ref (a x19)), (0, .ref (a v0)), (2, .ref (a v2)), (3, .int v3)]) C.1 C.2.1 dX1_isWhole_29 hl (k := 5) rfl rfl (by decide) rfl (fun ls hl => ?_)
      refine lv_goto (tgt := 10) C.1 C.2.1 dX1_isWhole_32 (by decide) ?_
      exact hih (v1 + x26) (v4 + 1) h ls (lv_sub hl [3, 1, 4, 5, 0] rfl)
  unfold mS_isWhole at h
  refine lv_iconst (v := 0) C.1 C.2.1 dX1_isWhole_0 (by decide) ?_
  refine lv_istore_n (lv' := [(1, .int 0), (0, .ref (a v0))]) C.1 C.2.1 dX1_isWhole_1 rfl hl (by decide) rfl (fun ls hl => ?_)
  refine lv_aload_n C.1 C.2.1 dX1_isWhole_2 rfl (lv_at hl 1 rfl) ?_
  refine lv_astore_n (lv' := [(2, .ref (a v0)), (1, .int 0), (0, .ref (a v0))]) C.1 C.2.1 dX1_isWhole_3 rfl hl (by decide) rfl (fun ls hl => ?_)
  refine lv_aload_n C.1 C.2.1 dX1_isWhole_4 rfl (lv_at hl 0 rfl) ?_
  refine h_len2 C hK hP h dX1_isWhole_5 (fun x5 h => ?_)
  refine lv_istore_n (lv' := [(3, .int x5), (2, .ref (a v0)), (1, .int 0), (0, .ref (a v0))]) C.1 C.2.1 dX1_isWhole_6 rfl hl (by decide) rfl (fun ls hl => ?_)
  refine lv_iconst (v := 0) C.1 C.2.1 dX1_isWhole_7 (by decide) ?_
  refine lv_istore (lv' := [(4, .int 0), (3, .int x5), (2, .ref (a v0)), (1, .int 0), (0, .ref (a v0))]) C.1 C.2.1 dX1_isWhole_8 hl (by decide) rfl (fun ls hl => ?_)
  exact L10 v0 v0 x5 16 0 0 h ls (lv_sub hl [4, 3, 2, 1, 0] rfl)
set_option maxHeartbeats 8000000 in
set_option maxRecDepth 100000 in
theorem tS_holds {l : Launch} {D : va_G} {k : Nat → ClassId} {a : Nat → Nat} {Hp : HS} {v0 : Nat} {v1 : Nat} {v2 : Nat} {z : Int32} (h : mS_holds Hp v0 v1 v2 = some z) : Met l yX1_holds (Cond.code yX1_holds cX1_holds 8 (some .boolean) :: WW) ({ frames := 1, cells := 0, slots := 0, locals := 25 }) (va_Pc [.ref (a v0), .ref (a v1), .ref (a v2)] (roP D (([] : va_W) ++ wH k a Hp) (tyH k))) (vp_Si (fun r => r = z)) 0 0 (fun _ => False) := by
  refine RO_of (own := RX1) (by decide) rfl (Nat.le_of_ble_eq_true rfl) ?_
  intro p e s m args below meth c ha C hr hlk hP hK ls hl
  have hl : lv_has ls 8 [(0, .ref (a v0)), (1, .ref (a v1)), (2, .ref (a v2))] := hl
  have L16 : ∀ (v0 : Nat) (v2 : Nat) (v4 : Nat) (v5 : Int32) (n : Nat) (v3 : Int32) (v6 : Int32), itr2 (mS_holds_F16 Hp v0 v2 v4 v5) n v3 v6 = some z → ∀ ls : Array Slot, lv_has ls 8 [(0, .ref (a v0)), (2, .ref (a v2)), (3, .int v3), (4, .ref (a v4)), (5, .int v5), (6, .int v6)] → W p l e ({ frames := 1, cells := 0, slots := 0, locals := 25 }) s m args below meth c s.heap [] 0 0 (MQ below (vp_Si (fun r => r = z)) args s 0 0 (fun _ => False)) (F0 m 16 ls []) := by
    intro v0 v2 v4 v5
    intro n
    refine itr2_indn (fun (n : Nat) (v3 : Int32) (v6 : Int32) => ∀ ls : Array Slot, lv_has ls 8 [(0, .ref (a v0)), (2, .ref (a v2)), (3, .int v3), (4, .ref (a v4)), (5, .int v5), (6, .int v6)] → W p l e ({ frames := 1, cells := 0, slots := 0, locals := 25 }) s m args below meth c s.heap [] 0 0 (MQ below (vp_Si (fun r => r = z)) args s 0 0 (fun _ => False)) (F0 m 16 ls [])) ?_ n
    intro n16 ih hih v3 v6 h ls hl
    unfold mS_holds_F16 at h
    refine lv_iload C.1 C.2.1 dX1_holds_16 (lv_at hl 5 rfl) ?_
    refine lv_iload C.1 C.2.1 dX1_holds_18 (lv_at hl 4 rfl) ?_
    refine k_icmp_ge (tgt := 95) C dX1_holds_20 (by decide) h (fun c20 h => ?_) (fun c20 h => ?_)
    · refine lv_iload_n C.1 C.2.1 dX1_holds_95 rfl (lv_at hl 2 rfl) ?_
      exact k_zret C hr hlk h dX1_holds_96
    · refine lv_aload C.1 C.2.1 dX1_holds_23 (lv_at hl 3 rfl) ?_
      refine lv_iload C.1 C.2.1 dX1_holds_25 (lv_at hl 5 rfl) ?_
      refine h_ald2 C hK hP h dX1_holds_27 (fun x27 h => ?_)
      refine lv_astore (lv' := [(7, .ref (a x27)), (0, .ref (a v0)), (2, .ref (a v2)), (3, .int v3), (4, .ref (a v4)), (5, .int v5), (6, .int v6)]) C.1 C.2.1 dX1_holds_28 hl (by decide) rfl (fun ls hl => ?_)
      refine lv_iload_n C.1 C.2.1 dX1_holds_30 rfl (lv_at hl 3 rfl) ?_
      refine lv_aload C.1 C.2.1 dX1_holds_31 (lv_at hl 0 rfl) ?_
      refine lv_iconst (v := 0) C.1 C.2.1 dX1_holds_33 (by decide) ?_
      refine h_ild0 C hK hP h dX1_holds_34 (fun x34 h => ?_)
      refine k_if_ne (tgt := 50) C dX1_holds_35 (by decide) h (fun c35 h => ?_) (fun c35 h => ?_)
      · refine lv_aload C.1 C.2.1 dX1_holds_50 (lv_at hl 0 rfl) ?_
        refine lv_iconst (v := 0) C.1 C.2.1 dX1_holds_52 (by decide) ?_
        refine h_ild0 C hK hP h dX1_holds_53 (fun x53 h => ?_)
        refine lv_iconst (v := 1) C.1 C.2.1 dX1_holds_54 (by decide) ?_
        refine k_icmp_ne (tgt := 75) C dX1_holds_55 (by decide) h (fun c55 h => ?_) (fun c55 h => ?_)
        · refine lv_aload C.1 C.2.1 dX1_holds_75 (lv_at hl 0 rfl) ?_
          refine lv_iconst (v := 2) C.1 C.2.1 dX1_holds_77 (by decide) ?_
          refine h_ild0 C hK hP h dX1_holds_78 (fun x78 h => ?_)
          refine k_if_ne (tgt := 86) C dX1_holds_79 (by decide) h (fun c79 h => ?_) (fun c79 h => ?_)
          · refine lv_iconst (v := 0) C.1 C.2.1 dX1_holds_86 (by decide) ?_
            refine lv_iand C.1 C.2.1 dX1_holds_87 ?_
            refine lv_istore_n (lv' := [(3, .int (v3 &&& 0)), (7, .ref (a x27)), (0, .ref (a v0)), (2, .ref (a v2)), (4, .ref (a v4)), (5, .int v5), (6, .int v6)]) C.1 C.2.1 dX1_holds_88 rfl hl (by decide) rfl (fun ls hl => ?_)
            refine lv_iinc (v := (v6 + 1)) (lv' := [(6, .int (v6 + 1)), (3, .int (v3 &&& 0)), (7, .ref (a x27)), (0, .ref (a v0)), (2, .ref (a v2)), (4, .ref (a v4)), (5, .int v5)]) C.1 C.2.1 dX1_holds_89 hl (k := 6) rfl rfl (by decide) rfl (fun ls hl => ?_)
            refine lv_goto (tgt := 16) C.1 C.2.1 dX1_holds_92 (by decide) ?_
            exact hih (v3 &&& 0) (v6 + 1) h ls (lv_sub hl [3, 4, 1, 5, 6, 0] rfl)
          · refine lv_iconst (v := 1) C.1 C.2.1 dX1_holds_82 (by decide) ?_
            refine lv_goto (tgt := 87) C.1 C.2.1 dX1_holds_83 (by decide) ?_
            refine lv_iand C.1 C.2.1 dX1_holds_87 ?_
            refine lv_istore_n (lv' := [(3, .int (v3 &&& 1)), (7, .ref (a x27)), (0, .ref (a v0)), (2, .ref (a v2)), (4, .ref (a v4)), (5, .int v5), (6, .int v6)]) C.1 C.2.1 dX1_holds_88 rfl hl (by decide) rfl (fun ls hl => ?_)
            refine lv_iinc (v := (v6 + 1)) (lv' := [(6, .int (v6 + 1)), (3, .int (v3 &&& 1)), (7, .ref (a x27)), (0, .ref (a v0)), (2, .ref (a v2)), (4, .ref (a v4)), (5, .int v5)]) C.1 C.2.1 dX1_holds_89 hl (k := 6) rfl rfl (by decide) rfl (fun ls hl => ?_)
            refine lv_goto (tgt := 16) C.1 C.2.1 dX1_holds_92 (by decide) ?_
            exact hih (v3 &&& 1) (v6 + 1) h ls (lv_sub hl [3, 4, 1, 5, 6, 0] rfl)
        · refine lv_aload_n C.1 C.2.1 dX1_holds_58 rfl (lv_at hl 2 rfl) ?_
          refine lv_aload C.1 C.2.1 dX1_holds_59 (lv_at hl 0 rfl) ?_
          refine lv_iconst (v := 1) C.1 C.2.1 dX1_holds_61 (by decide) ?_
          refine h_ild0 C hK hP h dX1_holds_62 (fun x62 h => ?_)
          refine h_ild0 C hK hP h dX1_holds_63 (fun x63 h => ?_)
          refine k_if_le (tgt := 71) C dX1_holds_64 (by decide) h (fun c64 h => ?_) (fun c64 h => ?_)
          · refine lv_iconst (v := 0) C.1 C.2.1 dX1_holds_71 (by decide) ?_
            refine lv_goto (tgt := 87) C.1 C.2.1 dX1_holds_72 (by decide) ?_
            refine lv_iand C.1 C.2.1 dX1_holds_87 ?_
            refine lv_istore_n (lv' := [(3, .int (v3 &&& 0)), (7, .ref (a x27)), (0, .ref (a v0)), (2, .ref (a v2)), (4, .ref (a v4)), (5, .int v5), (6, .int v6)]) C.1 C.2.1 dX1_holds_88 rfl hl (by decide) rfl (fun ls hl => ?_)
            refine lv_iinc (v := (v6 + 1)) (lv' := [(6, .int (v6 + 1)), (3, .int (v3 &&& 0)), (7, .ref (a x27)), (0, .ref (a v0)), (2, .ref (a v2)), (4, .ref (a v4)), (5, .int v5)]) C.1 C.2.1 dX1_holds_89 hl (k := 6) rfl rfl (by decide) rfl (fun ls hl => ?_)
            refine lv_goto (tgt := 16) C.1 C.2.1 dX1_holds_92 (by decide) ?_
            exact hih (v3 &&& 0) (v6 + 1) h ls (lv_sub hl [3, 4, 1, 5, 6, 0] rfl)
          · refine lv_iconst (v := 1) C.1 C.2.1 dX1_holds_67 (by decide) ?_
            refine lv_goto (tgt := 87) C.1 C.2.1 dX1_holds_68 (by decide) ?_
            refine lv_iand C.1 C.2.1 dX1_holds_87 ?_
            refine lv_istore_n (lv' := [(3, .int (v3 &&& 1)), (7, .ref (a x27)), (0, .ref (a v0)), (2, .ref (a v2)), (4, .ref (a v4)), (5, .int v5), (6, .int v6)]) C.1 C.2.1 dX1_holds_88 rfl hl (by decide) rfl (fun ls hl => ?_)
            refine lv_iinc (v := (v6 + 1)) (lv' := [(6, .int (v6 + 1)), (3, .int (v3 &&& 1)), (7, .ref (a x27)), (0, .ref (a v0)), (2, .ref (a v2)), (4, .ref (a v4)), (5, .int v5)]) C.1 C.2.1 dX1_holds_89 hl (k := 6) rfl rfl (by decide) rfl (fun ls hl => ?_)
            refine lv_goto (tgt := 16) C.1 C.2.1 dX1_holds_92 (by decide) ?_
            exact hih (v3 &&& 1) (v6 + 1) h ls (lv_sub hl [3, 4, 1, 5, 6, 0] rfl)
      · refine lv_aload_n C.1 C.2.1 dX1_holds_38 rfl (lv_at hl 1 rfl) ?_
        refine h_get0 C hK qF_X1_7 hP h dX1_holds_39 (fun x39 h => ?_)
        refine lv_aload C.1 C.2.1 dX1_holds_42 (lv_at hl 0 rfl) ?_
        refine lv_iconst (v := 1) C.1 C.2.1 dX1_holds_44 (by decide) ?_
        refine h_ild0 C hK hP h dX1_holds_45 (fun x45 h => ?_)
        refine h_ild1 C hK hP h dX1_holds_46 (fun x46 h => ?_)
        refine lv_goto (tgt := 87) C.1 C.2.1 dX1_holds_47 (by decide) ?_
        refine lv_iand C.1 C.2.1 dX1_holds_87 ?_
        refine lv_istore_n (lv' := [(3, .int (v3 &&& x46)), (7, .ref (a x27)), (0, .ref (a v0)), (2, .ref (a v2)), (4, .ref (a v4)), (5, .int v5), (6, .int v6)]) C.1 C.2.1 dX1_holds_88 rfl hl (by decide) rfl (fun ls hl => ?_)
        refine lv_iinc (v := (v6 + 1)) (lv' := [(6, .int (v6 + 1)), (3, .int (v3 &&& x46)), (7, .ref (a x27)), (0, .ref (a v0)), (2, .ref (a v2)), (4, .ref (a v4)), (5, .int v5)]) C.1 C.2.1 dX1_holds_89 hl (k := 6) rfl rfl (by decide) rfl (fun ls hl => ?_)
        refine lv_goto (tgt := 16) C.1 C.2.1 dX1_holds_92 (by decide) ?_
        exact hih (v3 &&& x46) (v6 + 1) h ls (lv_sub hl [3, 4, 1, 5, 6, 0] rfl)
  unfold mS_holds at h
  refine lv_aload_n C.1 C.2.1 dX1_holds_0 rfl (lv_at hl 1 rfl) ?_
  refine h_rSi C hK hP [.ref (a v1)] h (fun v e => tS_isWhole e) (cb_X1_23 C.2.2.2.2 ⟨Nat.le_of_ble_eq_true rfl, Nat.le_of_ble_eq_true rfl⟩) rfl hl.1 (Nat.le_of_ble_eq_true rfl) ⟨Nat.le_of_ble_eq_true rfl, Nat.le_of_ble_eq_true rfl⟩ dX1_holds_1 rfl (fun x1 h => ?_)
  refine lv_istore_n (lv' := [(3, .int x1), (0, .ref (a v0)), (1, .ref (a v1)), (2, .ref (a v2))]) C.1 C.2.1 dX1_holds_4 rfl hl (by decide) rfl (fun ls hl => ?_)
  refine lv_aload_n C.1 C.2.1 dX1_holds_5 rfl (lv_at hl 2 rfl) ?_
  refine lv_astore (lv' := [(4, .ref (a v1)), (3, .int x1), (0, .ref (a v0)), (1, .ref (a v1)), (2, .ref (a v2))]) C.1 C.2.1 dX1_holds_6 hl (by decide) rfl (fun ls hl => ?_)
  refine lv_aload C.1 C.2.1 dX1_holds_8 (lv_at hl 0 rfl) ?_
  refine h_len2 C hK hP h dX1_holds_10 (fun x10 h => ?_)
  refine lv_istore (lv' := [(5, .int x10), (4, .ref (a v1)), (3, .int x1), (0, .ref (a v0)), (1, .ref (a v1)), (2, .ref (a v2))]) C.1 C.2.1 dX1_holds_11 hl (by decide) rfl (fun ls hl => ?_)
  refine lv_iconst (v := 0) C.1 C.2.1 dX1_holds_13 (by decide) ?_
  refine lv_istore (lv' := [(6, .int 0), (5, .int x10), (4, .ref (a v1)), (3, .int x1), (0, .ref (a v0)), (1, .ref (a v1)), (2, .ref (a v2))]) C.1 C.2.1 dX1_holds_14 hl (by decide) rfl (fun ls hl => ?_)
  exact L16 v0 v2 v1 x10 16 x1 0 h ls (lv_sub hl [4, 6, 3, 2, 1, 0] rfl)
set_option maxHeartbeats 8000000 in
set_option maxRecDepth 100000 in
theorem tS_measure {l : Launch} {D : va_G} {k : Nat → ClassId} {a : Nat → Nat} {Hp : HS} {v0 : Nat} {v1 : Nat} {v2 : Nat} {v3 : Int32} {z : Int32} (h : mS_measure Hp v0 v1 v2 v3 = some z) : Met l yX1_measure (Cond.code yX1_measure cX1_measure 9 (some .int) :: WW) ({ frames := 1, cells := 0, slots := 0, locals := 25 }) (va_Pc [.ref (a v0), .ref (a v1), .ref (a v2), .int v3] (roP D (([] : va_W) ++ wH k a Hp) (tyH k))) (vp_Si (fun r => r = z)) 0 0 (fun _ => False) := by
  refine RO_of (own := RX1) (by decide) rfl (Nat.le_of_ble_eq_true rfl) ?_
  intro p e s m args below meth c ha C hr hlk hP hK ls hl
  have hl : lv_has ls 9 [(0, .ref (a v0)), (1, .ref (a v1)), (2, .ref (a v2)), (3, .int v3)] := hl
  have J106 : ∀ (n24 : Nat) (v0 : Nat) (v2 : Nat) (v3 : Int32) (v4 : Int32) (v5 : Nat) (v6 : Int32) (v7 : Int32) (v8 : Nat) (kk : Int32 → Int32 → Option Int32) (hk : ∀ (v4 : Int32) (v7 : Int32), kk v4 v7 = some z → ∀ ls : Array Slot, lv_has ls 9 [(0, .ref (a v0)), (2, .ref (a v2)), (3, .int v3), (4, .int v4), (5, .ref (a v5)), (6, .int v6), (7, .int v7)] → W p l e ({ frames := 1, cells := 0, slots := 0, locals := 25 }) s m args below meth c s.heap [] 0 0 (MQ below (vp_Si (fun r => r = z)) args s 0 0 (fun _ => False)) (F0 m 24 ls [])), mS_measure_J106 Hp kk v0 v2 v3 v4 v5 v6 v7 v8 = some z → ∀ ls : Array Slot, lv_has ls 9 [(0, .ref (a v0)), (2, .ref (a v2)), (3, .int v3), (4, .int v4), (5, .ref (a v5)), (6, .int v6), (7, .int v7), (8, .ref (a v8))] → W p l e ({ frames := 1, cells := 0, slots := 0, locals := 25 }) s m args below meth c s.heap [] 0 0 (MQ below (vp_Si (fun r => r = z)) args s 0 0 (fun _ => False)) (F0 m 106 ls []) := by
    intro n24 v0 v2 v3 v4 v5 v6 v7 v8 kk hk h ls hl
    unfold mS_measure_J106 at h
    refine lv_iload C.1 C.2.1 dX1_measure_106 (lv_at hl 3 rfl) ?_
    refine lv_aload C.1 C.2.1 dX1_measure_108 (lv_at hl 7 rfl) ?_
    refine lv_iconst (v := 0) C.1 C.2.1 dX1_measure_110 (by decide) ?_
    refine h_ild0 C hK hP h dX1_measure_111 (fun x111 h => ?_)
    refine lv_iconst (v := 1) C.1 C.2.1 dX1_measure_112 (by decide) ?_
    refine k_icmp_ne (tgt := 125) C dX1_measure_113 (by decide) h (fun c113 h => ?_) (fun c113 h => ?_)
    · refine lv_aload C.1 C.2.1 dX1_measure_125 (lv_at hl 7 rfl) ?_
      refine lv_iconst (v := 0) C.1 C.2.1 dX1_measure_127 (by decide) ?_
      refine h_ild0 C hK hP h dX1_measure_128 (fun x128 h => ?_)
      refine lv_iconst (v := 2) C.1 C.2.1 dX1_measure_129 (by decide) ?_
      refine k_icmp_ne (tgt := 145) C dX1_measure_130 (by decide) h (fun c130 h => ?_) (fun c130 h => ?_)
      · refine lv_iconst (v := 0) C.1 C.2.1 dX1_measure_145 (by decide) ?_
        refine lv_iadd C.1 C.2.1 dX1_measure_146 ?_
        refine lv_istore (lv' := [(4, .int (v4 + 0)), (0, .ref (a v0)), (2, .ref (a v2)), (3, .int v3), (5, .ref (a v5)), (6, .int v6), (7, .int v7), (8, .ref (a v8))]) C.1 C.2.1 dX1_measure_147 hl (by decide) rfl (fun ls hl => ?_)
        refine lv_iinc (v := (v7 + 1)) (lv' := [(7, .int (v7 + 1)), (4, .int (v4 + 0)), (0, .ref (a v0)), (2, .ref (a v2)), (3, .int v3), (5, .ref (a v5)), (6, .int v6), (8, .ref (a v8))]) C.1 C.2.1 dX1_measure_149 hl (k := 6) rfl rfl (by decide) rfl (fun ls hl => ?_)
        refine lv_goto (tgt := 24) C.1 C.2.1 dX1_measure_152 (by decide) ?_
        exact hk (v4 + 0) (v7 + 1) h ls (lv_sub hl [2, 3, 4, 1, 5, 6, 0] rfl)
      · refine lv_iload_n C.1 C.2.1 dX1_measure_133 rfl (lv_at hl 2 rfl) ?_
        refine lv_iconst (v := 1) C.1 C.2.1 dX1_measure_134 (by decide) ?_
        refine k_icmp_ne (tgt := 145) C dX1_measure_135 (by decide) h (fun c135 h => ?_) (fun c135 h => ?_)
        · refine lv_iconst (v := 0) C.1 C.2.1 dX1_measure_145 (by decide) ?_
          refine lv_iadd C.1 C.2.1 dX1_measure_146 ?_
          refine lv_istore (lv' := [(4, .int (v4 + 0)), (0, .ref (a v0)), (2, .ref (a v2)), (3, .int v3), (5, .ref (a v5)), (6, .int v6), (7, .int v7), (8, .ref (a v8))]) C.1 C.2.1 dX1_measure_147 hl (by decide) rfl (fun ls hl => ?_)
          refine lv_iinc (v := (v7 + 1)) (lv' := [(7, .int (v7 + 1)), (4, .int (v4 + 0)), (0, .ref (a v0)), (2, .ref (a v2)), (3, .int v3), (5, .ref (a v5)), (6, .int v6), (8, .ref (a v8))]) C.1 C.2.1 dX1_measure_149 hl (k := 6) rfl rfl (by decide) rfl (fun ls hl => ?_)
          refine lv_goto (tgt := 24) C.1 C.2.1 dX1_measure_152 (by decide) ?_
          exact hk (v4 + 0) (v7 + 1) h ls (lv_sub hl [2, 3, 4, 1, 5, 6, 0] rfl)
        · refine lv_aload C.1 C.2.1 dX1_measure_138 (lv_at hl 7 rfl) ?_
          refine lv_iconst (v := 2) C.1 C.2.1 dX1_measure_140 (by decide) ?_
          refine h_ild0 C hK hP h dX1_measure_141 (fun x141 h => ?_)
          refine lv_goto (tgt := 146) C.1 C.2.1 dX1_measure_142 (by decide) ?_
          refine lv_iadd C.1 C.2.1 dX1_measure_146 ?_
          refine lv_istore (lv' := [(4, .int (v4 + x141)), (0, .ref (a v0)), (2, .ref (a v2)), (3, .int v3), (5, .ref (a v5)), (6, .int v6), (7, .int v7), (8, .ref (a v8))]) C.1 C.2.1 dX1_measure_147 hl (by decide) rfl (fun ls hl => ?_)
          refine lv_iinc (v := (v7 + 1)) (lv' := [(7, .int (v7 + 1)), (4, .int (v4 + x141)), (0, .ref (a v0)), (2, .ref (a v2)), (3, .int v3), (5, .ref (a v5)), (6, .int v6), (8, .ref (a v8))]) C.1 C.2.1 dX1_measure_149 hl (k := 6) rfl rfl (by decide) rfl (fun ls hl => ?_)
          refine lv_goto (tgt := 24) C.1 C.2.1 dX1_measure_152 (by decide) ?_
          exact hk (v4 + x141) (v7 + 1) h ls (lv_sub hl [2, 3, 4, 1, 5, 6, 0] rfl)
    · refine lv_aload_n C.1 C.2.1 dX1_measure_116 rfl (lv_at hl 1 rfl) ?_
      refine lv_aload C.1 C.2.1 dX1_measure_117 (lv_at hl 7 rfl) ?_
      refine lv_iconst (v := 1) C.1 C.2.1 dX1_measure_119 (by decide) ?_
      refine h_ild0 C hK hP h dX1_measure_120 (fun x120 h => ?_)
      refine h_ild0 C hK hP h dX1_measure_121 (fun x121 h => ?_)
      refine lv_goto (tgt := 146) C.1 C.2.1 dX1_measure_122 (by decide) ?_
      refine lv_iadd C.1 C.2.1 dX1_measure_146 ?_
      refine lv_istore (lv' := [(4, .int (v4 + x121)), (0, .ref (a v0)), (2, .ref (a v2)), (3, .int v3), (5, .ref (a v5)), (6, .int v6), (7, .int v7), (8, .ref (a v8))]) C.1 C.2.1 dX1_measure_147 hl (by decide) rfl (fun ls hl => ?_)
      refine lv_iinc (v := (v7 + 1)) (lv' := [(7, .int (v7 + 1)), (4, .int (v4 + x121)), (0, .ref (a v0)), (2, .ref (a v2)), (3, .int v3), (5, .ref (a v5)), (6, .int v6), (8, .ref (a v8))]) C.1 C.2.1 dX1_measure_149 hl (k := 6) rfl rfl (by decide) rfl (fun ls hl => ?_)
      refine lv_goto (tgt := 24) C.1 C.2.1 dX1_measure_152 (by decide) ?_
      exact hk (v4 + x121) (v7 + 1) h ls (lv_sub hl [2, 3, 4, 1, 5, 6, 0] rfl)
  have J84 : ∀ (n24 : Nat) (v0 : Nat) (v2 : Nat) (v3 : Int32) (v4 : Int32) (v5 : Nat) (v6 : Int32) (v7 : Int32) (v8 : Nat) (kk : Int32 → Int32 → Option Int32) (hk : ∀ (v4 : Int32) (v7 : Int32), kk v4 v7 = some z → ∀ ls : Array Slot, lv_has ls 9 [(0, .ref (a v0)), (2, .ref (a v2)), (3, .int v3), (4, .int v4), (5, .ref (a v5)), (6, .int v6), (7, .int v7)] → W p l e ({ frames := 1, cells := 0, slots := 0, locals := 25 }) s m args below meth c s.heap [] 0 0 (MQ below (vp_Si (fun r => r = z)) args s 0 0 (fun _ => False)) (F0 m 24 ls [])), mS_measure_J84 Hp kk v0 v2 v3 v4 v5 v6 v7 v8 = some z → ∀ ls : Array Slot, lv_has ls 9 [(0, .ref (a v0)), (2, .ref (a v2)), (3, .int v3), (4, .int v4), (5, .ref (a v5)), (6, .int v6), (7, .int v7), (8, .ref (a v8))] → W p l e ({ frames := 1, cells := 0, slots := 0, locals := 25 }) s m args below meth c s.heap [] 0 0 (MQ below (vp_Si (fun r => r = z)) args s 0 0 (fun _ => False)) (F0 m 84 ls []) := by
    intro n24 v0 v2 v3 v4 v5 v6 v7 v8 kk hk h ls hl
    unfold mS_measure_J84 at h
    refine lv_aload C.1 C.2.1 dX1_measure_84 (lv_at hl 7 rfl) ?_
    refine lv_iconst (v := 0) C.1 C.2.1 dX1_measure_86 (by decide) ?_
    refine h_ild0 C hK hP h dX1_measure_87 (fun x87 h => ?_)
    refine lv_iconst (v := 2) C.1 C.2.1 dX1_measure_88 (by decide) ?_
    refine k_icmp_ne (tgt := 106) C dX1_measure_89 (by decide) h (fun c89 h => ?_) (fun c89 h => ?_)
    · exact J106 n24 v0 v2 v3 v4 v5 v6 v7 v8 kk hk h ls (lv_sub hl [0, 1, 2, 3, 4, 5, 6, 7] rfl)
    · refine lv_iload_n C.1 C.2.1 dX1_measure_92 rfl (lv_at hl 2 rfl) ?_
      refine k_if_ne (tgt := 106) C dX1_measure_93 (by decide) h (fun c93 h => ?_) (fun c93 h => ?_)
      · exact J106 n24 v0 v2 v3 v4 v5 v6 v7 v8 kk hk h ls (lv_sub hl [0, 1, 2, 3, 4, 5, 6, 7] rfl)
      · refine lv_aload C.1 C.2.1 dX1_measure_96 (lv_at hl 7 rfl) ?_
        refine lv_iconst (v := 2) C.1 C.2.1 dX1_measure_98 (by decide) ?_
        refine h_ild0 C hK hP h dX1_measure_99 (fun x99 h => ?_)
        refine k_if_le (tgt := 106) C dX1_measure_100 (by decide) h (fun c100 h => ?_) (fun c100 h => ?_)
        · exact J106 n24 v0 v2 v3 v4 v5 v6 v7 v8 kk hk h ls (lv_sub hl [0, 1, 2, 3, 4, 5, 6, 7] rfl)
        · refine lv_ldc (v := 100000) C.1 C.2.1 C.2.2.2.1 (C.2.2.2.2 _ qc_X1_39) dX1_measure_103 ?_
          exact k_iret C hr hlk h dX1_measure_105
  have J64 : ∀ (n24 : Nat) (v0 : Nat) (v2 : Nat) (v3 : Int32) (v4 : Int32) (v5 : Nat) (v6 : Int32) (v7 : Int32) (v8 : Nat) (kk : Int32 → Int32 → Option Int32) (hk : ∀ (v4 : Int32) (v7 : Int32), kk v4 v7 = some z → ∀ ls : Array Slot, lv_has ls 9 [(0, .ref (a v0)), (2, .ref (a v2)), (3, .int v3), (4, .int v4), (5, .ref (a v5)), (6, .int v6), (7, .int v7)] → W p l e ({ frames := 1, cells := 0, slots := 0, locals := 25 }) s m args below meth c s.heap [] 0 0 (MQ below (vp_Si (fun r => r = z)) args s 0 0 (fun _ => False)) (F0 m 24 ls [])), mS_measure_J64 Hp kk v0 v2 v3 v4 v5 v6 v7 v8 = some z → ∀ ls : Array Slot, lv_has ls 9 [(0, .ref (a v0)), (2, .ref (a v2)), (3, .int v3), (4, .int v4), (5, .ref (a v5)), (6, .int v6), (7, .int v7), (8, .ref (a v8))] → W p l e ({ frames := 1, cells := 0, slots := 0, locals := 25 }) s m args below meth c s.heap [] 0 0 (MQ below (vp_Si (fun r => r = z)) args s 0 0 (fun _ => False)) (F0 m 64 ls []) := by
    intro n24 v0 v2 v3 v4 v5 v6 v7 v8 kk hk h ls hl
    unfold mS_measure_J64 at h
    refine lv_aload C.1 C.2.1 dX1_measure_64 (lv_at hl 7 rfl) ?_
    refine lv_iconst (v := 0) C.1 C.2.1 dX1_measure_66 (by decide) ?_
    refine h_ild0 C hK hP h dX1_measure_67 (fun x67 h => ?_)
    refine lv_iconst (v := 1) C.1 C.2.1 dX1_measure_68 (by decide) ?_
    refine k_icmp_ne (tgt := 84) C dX1_measure_69 (by decide) h (fun c69 h => ?_) (fun c69 h => ?_)
    · exact J84 n24 v0 v2 v3 v4 v5 v6 v7 v8 kk hk h ls (lv_sub hl [0, 1, 2, 3, 4, 5, 6, 7] rfl)
    · refine lv_aload_n C.1 C.2.1 dX1_measure_72 rfl (lv_at hl 1 rfl) ?_
      refine lv_aload C.1 C.2.1 dX1_measure_73 (lv_at hl 7 rfl) ?_
      refine lv_iconst (v := 1) C.1 C.2.1 dX1_measure_75 (by decide) ?_
      refine h_ild0 C hK hP h dX1_measure_76 (fun x76 h => ?_)
      refine h_ild0 C hK hP h dX1_measure_77 (fun x77 h => ?_)
      refine lv_sipush (v := 9998) C.1 C.2.1 dX1_measure_78 (by decide) ?_
      refine k_icmp_gt (tgt := 103) C dX1_measure_81 (by decide) h (fun c81 h => ?_) (fun c81 h => ?_)
      · refine lv_ldc (v := 100000) C.1 C.2.1 C.2.2.2.1 (C.2.2.2.2 _ qc_X1_39) dX1_measure_103 ?_
        exact k_iret C hr hlk h dX1_measure_105
      · exact J84 n24 v0 v2 v3 v4 v5 v6 v7 v8 kk hk h ls (lv_sub hl [0, 1, 2, 3, 4, 5, 6, 7] rfl)
  have J45 : ∀ (n24 : Nat) (v0 : Nat) (v2 : Nat) (v3 : Int32) (v4 : Int32) (v5 : Nat) (v6 : Int32) (v7 : Int32) (v8 : Nat) (kk : Int32 → Int32 → Option Int32) (hk : ∀ (v4 : Int32) (v7 : Int32), kk v4 v7 = some z → ∀ ls : Array Slot, lv_has ls 9 [(0, .ref (a v0)), (2, .ref (a v2)), (3, .int v3), (4, .int v4), (5, .ref (a v5)), (6, .int v6), (7, .int v7)] → W p l e ({ frames := 1, cells := 0, slots := 0, locals := 25 }) s m args below meth c s.heap [] 0 0 (MQ below (vp_Si (fun r => r = z)) args s 0 0 (fun _ => False)) (F0 m 24 ls [])), mS_measure_J45 Hp kk v0 v2 v3 v4 v5 v6 v7 v8 = some z → ∀ ls : Array Slot, lv_has ls 9 [(0, .ref (a v0)), (2, .ref (a v2)), (3, .int v3), (4, .int v4), (5, .ref (a v5)), (6, .int v6), (7, .int v7), (8, .ref (a v8))] → W p l e ({ frames := 1, cells := 0, slots := 0, locals := 25 }) s m args below meth c s.heap [] 0 0 (MQ below (vp_Si (fun r => r = z)) args s 0 0 (fun _ => False)) (F0 m 45 ls []) := by
    intro n24 v0 v2 v3 v4 v5 v6 v7 v8 kk hk h ls hl
    unfold mS_measure_J45 at h
    refine lv_aload C.1 C.2.1 dX1_measure_45 (lv_at hl 7 rfl) ?_
    refine lv_iconst (v := 0) C.1 C.2.1 dX1_measure_47 (by decide) ?_
    refine h_ild0 C hK hP h dX1_measure_48 (fun x48 h => ?_)
    refine k_if_ne (tgt := 64) C dX1_measure_49 (by decide) h (fun c49 h => ?_) (fun c49 h => ?_)
    · exact J64 n24 v0 v2 v3 v4 v5 v6 v7 v8 kk hk h ls (lv_sub hl [0, 1, 2, 3, 4, 5, 6, 7] rfl)
    · refine lv_aload_n C.1 C.2.1 dX1_measure_52 rfl (lv_at hl 0 rfl) ?_
      refine h_get0 C hK qF_X1_7 hP h dX1_measure_53 (fun x53 h => ?_)
      refine lv_aload C.1 C.2.1 dX1_measure_56 (lv_at hl 7 rfl) ?_
      refine lv_iconst (v := 1) C.1 C.2.1 dX1_measure_58 (by decide) ?_
      refine h_ild0 C hK hP h dX1_measure_59 (fun x59 h => ?_)
      refine h_ild1 C hK hP h dX1_measure_60 (fun x60 h => ?_)
      refine k_if_eq (tgt := 103) C dX1_measure_61 (by decide) h (fun c61 h => ?_) (fun c61 h => ?_)
      · refine lv_ldc (v := 100000) C.1 C.2.1 C.2.2.2.1 (C.2.2.2.2 _ qc_X1_39) dX1_measure_103 ?_
        exact k_iret C hr hlk h dX1_measure_105
      · exact J64 n24 v0 v2 v3 v4 v5 v6 v7 v8 kk hk h ls (lv_sub hl [0, 1, 2, 3, 4, 5, 6, 7] rfl)
  have L24 : ∀ (v0 : Nat) (v2 : Nat) (v3 : Int32) (v5 : Nat) (v6 : Int32) (n : Nat) (v4 : Int32) (v7 : Int32), itr2 (mS_measure_F24 Hp v0 v2 v3 v5 v6) n v4 v7 = some z → ∀ ls : Array Slot, lv_has ls 9 [(0, .ref (a v0)), (2, .ref (a v2)), (3, .int v3), (4, .int v4), (5, .ref (a v5)), (6, .int v6), (7, .int v7)] → W p l e ({ frames := 1, cells := 0, slots := 0, locals := 25 }) s m args below meth c s.heap [] 0 0 (MQ below (vp_Si (fun r => r = z)) args s 0 0 (fun _ => False)) (F0 m 24 ls []) := by
    intro v0 v2 v3 v5 v6
    intro n
    refine itr2_indn (fun (n : Nat) (v4 : Int32) (v7 : Int32) => ∀ ls : Array Slot, lv_has ls 9 [(0, .ref (a v0)), (2, .ref (a v2)), (3, .int v3), (4, .int v4), (5, .ref (a v5)), (6, .int v6), (7, .int v7)] → W p l e ({ frames := 1, cells := 0, slots := 0, locals := 25 }) s m args below meth c s.heap [] 0 0 (MQ below (vp_Si (fun r => r = z)) args s 0 0 (fun _ => False)) (F0 m 24 ls [])) ?_ n
    intro n24 ih hih v4 v7 h ls hl
    unfold mS_measure_F24 at h
    refine lv_iload C.1 C.2.1 dX1_measure_24 (lv_at hl 6 rfl) ?_
    refine lv_iload C.1 C.2.1 dX1_measure_26 (lv_at hl 5 rfl) ?_
    refine k_icmp_ge (tgt := 155) C dX1_measure_28 (by decide) h (fun c28 h => ?_) (fun c28 h => ?_)
    · refine lv_iload C.1 C.2.1 dX1_measure_155 (lv_at hl 3 rfl) ?_
      refine lv_sipush (v := 9998) C.1 C.2.1 dX1_measure_157 (by decide) ?_
      refine k_icmp_le (tgt := 168) C dX1_measure_160 (by decide) h (fun c160 h => ?_) (fun c160 h => ?_)
      · refine lv_iload C.1 C.2.1 dX1_measure_168 (lv_at hl 3 rfl) ?_
        exact k_iret C hr hlk h dX1_measure_170
      · refine lv_ldc (v := 100000) C.1 C.2.1 C.2.2.2.1 (C.2.2.2.2 _ qc_X1_39) dX1_measure_163 ?_
        refine lv_goto (tgt := 170) C.1 C.2.1 dX1_measure_165 (by decide) ?_
        exact k_iret C hr hlk h dX1_measure_170
    · refine lv_aload C.1 C.2.1 dX1_measure_31 (lv_at hl 4 rfl) ?_
      refine lv_iload C.1 C.2.1 dX1_measure_33 (lv_at hl 6 rfl) ?_
      refine h_ald2 C hK hP h dX1_measure_35 (fun x35 h => ?_)
      refine lv_astore (lv' := [(8, .ref (a x35)), (0, .ref (a v0)), (2, .ref (a v2)), (3, .int v3), (4, .int v4), (5, .ref (a v5)), (6, .int v6), (7, .int v7)]) C.1 C.2.1 dX1_measure_36 hl (by decide) rfl (fun ls hl => ?_)
      refine lv_iload_n C.1 C.2.1 dX1_measure_38 rfl (lv_at hl 3 rfl) ?_
      refine k_if_ne (tgt := 45) C dX1_measure_39 (by decide) h (fun c39 h => ?_) (fun c39 h => ?_)
      · exact J45 n24 v0 v2 v3 v4 v5 v6 v7 x35 ih hih h ls (lv_sub hl [1, 2, 3, 4, 5, 6, 7, 0] rfl)
      · refine lv_iinc (v := (v4 + 1)) (lv' := [(4, .int (v4 + 1)), (8, .ref (a x35)), (0, .ref (a v0)), (2, .ref (a v2)), (3, .int v3), (5, .ref (a v5)), (6, .int v6), (7, .int v7)]) C.1 C.2.1 dX1_measure_42 hl (k := 4) rfl rfl (by decide) rfl (fun ls hl => ?_)
        exact J45 n24 v0 v2 v3 (v4 + 1) v5 v6 v7 x35 ih hih h ls (lv_sub hl [2, 3, 4, 0, 5, 6, 7, 1] rfl)
  unfold mS_measure at h
  refine lv_aload_n C.1 C.2.1 dX1_measure_0 rfl (lv_at hl 1 rfl) ?_
  refine h_rSi C hK hP [.ref (a v1)] h (fun v e => tS_isWhole e) (cb_X1_23 C.2.2.2.2 ⟨Nat.le_of_ble_eq_true rfl, Nat.le_of_ble_eq_true rfl⟩) rfl hl.1 (Nat.le_of_ble_eq_true rfl) ⟨Nat.le_of_ble_eq_true rfl, Nat.le_of_ble_eq_true rfl⟩ dX1_measure_1 rfl (fun x1 h => ?_)
  refine k_if_ne (tgt := 10) C dX1_measure_4 (by decide) h (fun c4 h => ?_) (fun c4 h => ?_)
  · refine lv_iconst (v := 0) C.1 C.2.1 dX1_measure_10 (by decide) ?_
    refine lv_istore (lv' := [(4, .int 0), (0, .ref (a v0)), (1, .ref (a v1)), (2, .ref (a v2)), (3, .int v3)]) C.1 C.2.1 dX1_measure_11 hl (by decide) rfl (fun ls hl => ?_)
    refine lv_aload_n C.1 C.2.1 dX1_measure_13 rfl (lv_at hl 2 rfl) ?_
    refine lv_astore (lv' := [(5, .ref (a v1)), (4, .int 0), (0, .ref (a v0)), (1, .ref (a v1)), (2, .ref (a v2)), (3, .int v3)]) C.1 C.2.1 dX1_measure_14 hl (by decide) rfl (fun ls hl => ?_)
    refine lv_aload C.1 C.2.1 dX1_measure_16 (lv_at hl 0 rfl) ?_
    refine h_len2 C hK hP h dX1_measure_18 (fun x18 h => ?_)
    refine lv_istore (lv' := [(6, .int x18), (5, .ref (a v1)), (4, .int 0), (0, .ref (a v0)), (1, .ref (a v1)), (2, .ref (a v2)), (3, .int v3)]) C.1 C.2.1 dX1_measure_19 hl (by decide) rfl (fun ls hl => ?_)
    refine lv_iconst (v := 0) C.1 C.2.1 dX1_measure_21 (by decide) ?_
    refine lv_istore (lv' := [(7, .int 0), (6, .int x18), (5, .ref (a v1)), (4, .int 0), (0, .ref (a v0)), (1, .ref (a v1)), (2, .ref (a v2)), (3, .int v3)]) C.1 C.2.1 dX1_measure_22 hl (by decide) rfl (fun ls hl => ?_)
    exact L24 v0 v2 v3 v1 x18 16 0 0 h ls (lv_sub hl [4, 6, 7, 3, 2, 1, 0] rfl)
  · refine lv_ldc (v := 100000) C.1 C.2.1 C.2.2.2.1 (C.2.2.2.2 _ qc_X1_39) dX1_measure_7 ?_
    exact k_iret C hr hlk h dX1_measure_9
set_option maxHeartbeats 8000000 in
set_option maxRecDepth 100000 in
theorem tS_init {l : Launch} {D : va_G} {k : Nat → ClassId} {a0 : Nat → Nat} {Hp0 : HS} {sz : Nat} {v0 : Nat} {z : (Int32 × HS)} (h : mS_init Hp0 v0 = some z) : Met l yX1_init (Cond.code yX1_init cX1_init 1 none :: WW) ({ frames := 1, cells := 2, slots := 28, locals := 20 }) (va_Pc [.ref (a0 v0)] (hPre D k ([] : va_W) a0 Hp0 sz)) (hQv D k ([] : va_W) a0 Hp0.length z.2 (va_A (([] : va_W) ++ wH k a0 Hp0) sz)) 2 28 (va_A (([] : va_W) ++ wH k a0 Hp0) sz) := by
  refine HW_of (own := RX1) (Qc := fun A => hQv D k ([] : va_W) a0 Hp0.length z.2 A) (by decide) rfl (Nat.le_of_ble_eq_true rfl) ?_
  intro p e s m args below meth c A ha C hr hlk hnm hK hB hA hT ls hl
  have hl : lv_has ls 1 [(0, .ref (a0 v0))] := hl
  unfold mS_init at h
  refine lv_aload_n C.1 C.2.1 dX1_init_0 rfl (lv_at hl 0 rfl) ?_
  refine W.objInit C.1 C.2.1 C.2.2.2.1 (C.2.2.2.2 _ qM_X1_1) (C.2.2.2.2 _ qI_objinit) (C.2.2.2.2 _ qC_objinit) rfl (by rw [C.2.2.1]; exact hl.1) rfl dX1_init_1 (Nat.le_of_ble_eq_true rfl) (Nat.le_of_ble_eq_true rfl) ?_
  refine lv_aload_n C.1 C.2.1 dX1_init_4 rfl (lv_at hl 0 rfl) ?_
  refine lv_iconst (v := 5) C.1 C.2.1 dX1_init_5 (by decide) ?_
  refine h_nw1 C hK hT hA (by show _ ≤ 2; omega) (by show _ ≤ 28; omega) h dX1_init_6 (fun Hp6 x6 a6 H h hT hag hrs => ?_)
  have hl : lv_has ls 1 [(0, .ref (a6 v0))] := by
    have hl : lv_has ls 1 [(0, .ref (a0 v0))] := lv_sub hl [0] rfl
    simpa only [hag _ (hrs _ (List.mem_of_getElem? (i := 0) rfl))] using hl
  refine h_stk (st' := [.ref (a6 x6), .ref (a6 v0)]) (by simp only [hag _ (hrs _ (List.mem_of_getElem? (i := 0) rfl))]) ?_
  refine lv_dup C.1 C.2.1 dX1_init_8 rfl ?_
  refine lv_iconst (v := 0) C.1 C.2.1 dX1_init_9 (by decide) ?_
  refine lv_iconst (v := 1) C.1 C.2.1 dX1_init_10 (by decide) ?_
  refine h_ist1 C hK hT h dX1_init_11 (fun Hp11 H locs h hT => ?_)
  refine lv_dup C.1 C.2.1 dX1_init_12 rfl ?_
  refine lv_iconst (v := 1) C.1 C.2.1 dX1_init_13 (by decide) ?_
  refine lv_iconst (v := 1) C.1 C.2.1 dX1_init_14 (by decide) ?_
  refine h_ist1 C hK hT h dX1_init_15 (fun Hp15 H locs h hT => ?_)
  refine lv_dup C.1 C.2.1 dX1_init_16 rfl ?_
  refine lv_iconst (v := 2) C.1 C.2.1 dX1_init_17 (by decide) ?_
  refine lv_iconst (v := 1) C.1 C.2.1 dX1_init_18 (by decide) ?_
  refine h_ist1 C hK hT h dX1_init_19 (fun Hp19 H locs h hT => ?_)
  refine lv_dup C.1 C.2.1 dX1_init_20 rfl ?_
  refine lv_iconst (v := 3) C.1 C.2.1 dX1_init_21 (by decide) ?_
  refine lv_iconst (v := 1) C.1 C.2.1 dX1_init_22 (by decide) ?_
  refine h_ist1 C hK hT h dX1_init_23 (fun Hp23 H locs h hT => ?_)
  refine lv_dup C.1 C.2.1 dX1_init_24 rfl ?_
  refine lv_iconst (v := 4) C.1 C.2.1 dX1_init_25 (by decide) ?_
  refine lv_iconst (v := 1) C.1 C.2.1 dX1_init_26 (by decide) ?_
  refine h_ist1 C hK hT h dX1_init_27 (fun Hp27 H locs h hT => ?_)
  refine h_put0 C hK hT h dX1_init_28 (fun Hp28 H locs h hT => ?_)
  refine lv_aload_n C.1 C.2.1 dX1_init_31 rfl (lv_at hl 0 rfl) ?_
  refine lv_iconst (v := 0) C.1 C.2.1 dX1_init_32 (by decide) ?_
  refine h_nw4 C hK hT hA (by show _ ≤ 2; omega) (by show _ ≤ 28; omega) hB h dX1_init_33 (fun Hp33 x33 a33 H h hT hag hrs => ?_)
  have hl : lv_has ls 1 [] := by
    have hl : lv_has ls 1 [] := lv_sub hl [] rfl
    exact hl
  refine h_stk (st' := [.ref (a33 x33), .ref (a33 v0)]) (by simp only [hag _ (hrs _ (List.mem_of_getElem? (i := 0) rfl))]) ?_
  refine h_put1 C hK hT h dX1_init_36 (fun Hp36 H locs h hT => ?_)
  cases h
  exact h_vret C hr hlk hT (by omega) (by omega) dX1_init_39
set_option maxHeartbeats 8000000 in
set_option maxRecDepth 100000 in
theorem tS_lemma {l : Launch} {D : va_G} {k : Nat → ClassId} {a0 : Nat → Nat} {Hp0 : HS} {sz : Nat} {v0 : Nat} {z : (Int32 × HS)} (h : mS_lemma Hp0 v0 = some z) : Met l yX1_lemma (Cond.code yX1_lemma cX1_lemma 3 none :: WW) ({ frames := 0, cells := 2, slots := 28, locals := 0 }) (va_Pc [.ref (a0 v0)] (hPre D k ([] : va_W) a0 Hp0 sz)) (hQv D k ([] : va_W) a0 Hp0.length z.2 (va_A (([] : va_W) ++ wH k a0 Hp0) sz)) 2 28 (va_A (([] : va_W) ++ wH k a0 Hp0) sz) := by
  refine HW_of (own := RX1) (Qc := fun A => hQv D k ([] : va_W) a0 Hp0.length z.2 A) (by decide) rfl (Nat.le_of_ble_eq_true rfl) ?_
  intro p e s m args below meth c A ha C hr hlk hnm hK hB hA hT ls hl
  have hl : lv_has ls 3 [(0, .ref (a0 v0))] := hl
  have L13 : ∀ (v0 : Nat) (v1 : Nat) (n : Nat) (Hp : HS) (v2 : Int32), itr2 (mS_lemma_F13 v0 v1) n Hp v2 = some z → ∀ (a : Nat → Nat) (H : Heap) (locs : List Loc) (cells slots : Nat) (hT : hST D k A s ([] : va_W) a0 Hp0.length a Hp H locs) (hc : cells + 1 ≤ 2) (hsl : slots ≤ 14 * cells) (ls : Array Slot), lv_has ls 3 [(0, .ref (a v0)), (1, .ref (a v1)), (2, .int v2)] → W p l e ({ frames := 0, cells := 2, slots := 28, locals := 0 }) s m args below meth c H locs cells slots (MQ below (hQv D k ([] : va_W) a0 Hp0.length z.2 A) args s 2 28 A) (F0 m 13 ls []) := by
    intro v0 v1
    intro n
    refine itr2_indn (fun (n : Nat) (Hp : HS) (v2 : Int32) => ∀ (a : Nat → Nat) (H : Heap) (locs : List Loc) (cells slots : Nat) (hT : hST D k A s ([] : va_W) a0 Hp0.length a Hp H locs) (hc : cells + 1 ≤ 2) (hsl : slots ≤ 14 * cells) (ls : Array Slot), lv_has ls 3 [(0, .ref (a v0)), (1, .ref (a v1)), (2, .int v2)] → W p l e ({ frames := 0, cells := 2, slots := 28, locals := 0 }) s m args below meth c H locs cells slots (MQ below (hQv D k ([] : va_W) a0 Hp0.length z.2 A) args s 2 28 A) (F0 m 13 ls [])) ?_ n
    intro n13 ih hih Hp v2 h a H locs cells slots hT hc hsl ls hl
    unfold mS_lemma_F13 at h
    refine lv_iload_n C.1 C.2.1 dX1_lemma_13 rfl (lv_at hl 2 rfl) ?_
    refine lv_aload_n C.1 C.2.1 dX1_lemma_14 rfl (lv_at hl 0 rfl) ?_
    refine h_get1 C hK qF_X1_15 hT.1 h dX1_lemma_15 (fun x15 h => ?_)
    refine h_len4 C hK hT.1 h dX1_lemma_18 (fun x18 h => ?_)
    refine k_icmp_ge (tgt := 37) C dX1_lemma_19 (by decide) h (fun c19 h => ?_) (fun c19 h => ?_)
    · refine lv_aload_n C.1 C.2.1 dX1_lemma_37 rfl (lv_at hl 1 rfl) ?_
      refine lv_aload_n C.1 C.2.1 dX1_lemma_38 rfl (lv_at hl 0 rfl) ?_
      refine h_get1 C hK qF_X1_15 hT.1 h dX1_lemma_39 (fun x39 h => ?_)
      refine h_len4 C hK hT.1 h dX1_lemma_42 (fun x42 h => ?_)
      refine lv_iconst (v := 0) C.1 C.2.1 dX1_lemma_43 (by decide) ?_
      refine h_nw3 C hK hT hA (by show _ ≤ 2; omega) (by show _ ≤ 28; omega) hB h dX1_lemma_44 (fun Hp44 x44 a44 H h hT hag hrs => ?_)
      have hl : lv_has ls 3 [(0, .ref (a44 v0)), (1, .ref (a44 v1))] := by
        have hl : lv_has ls 3 [(0, .ref (a v0)), (1, .ref (a v1))] := lv_sub hl [0, 1] rfl
        simpa only [hag _ (hrs _ (List.mem_of_getElem? (i := 0) rfl)), hag _ (hrs _ (List.mem_of_getElem? (i := 1) rfl))] using hl
      refine h_stk (st' := [.ref (a44 x44), .int x42, .ref (a44 v1)]) (by simp only [hag _ (hrs _ (List.mem_of_getElem? (i := 0) rfl)), hag _ (hrs _ (List.mem_of_getElem? (i := 1) rfl))]) ?_
      refine h_ast4 C hK hT hB h dX1_lemma_47 (fun Hp47 H locs h hT => ?_)
      refine lv_aload_n C.1 C.2.1 dX1_lemma_48 rfl (lv_at hl 0 rfl) ?_
      refine lv_aload_n C.1 C.2.1 dX1_lemma_49 rfl (lv_at hl 1 rfl) ?_
      refine h_put1 C hK hT h dX1_lemma_50 (fun Hp50 H locs h hT => ?_)
      cases h
      exact h_vret C hr hlk hT (by omega) (by omega) dX1_lemma_53
    · refine lv_aload_n C.1 C.2.1 dX1_lemma_22 rfl (lv_at hl 1 rfl) ?_
      refine lv_iload_n C.1 C.2.1 dX1_lemma_23 rfl (lv_at hl 2 rfl) ?_
      refine lv_aload_n C.1 C.2.1 dX1_lemma_24 rfl (lv_at hl 0 rfl) ?_
      refine h_get1 C hK qF_X1_15 hT.1 h dX1_lemma_25 (fun x25 h => ?_)
      refine lv_iload_n C.1 C.2.1 dX1_lemma_28 rfl (lv_at hl 2 rfl) ?_
      refine h_ald4 C hK hT.1 h dX1_lemma_29 (fun x29 h => ?_)
      refine h_ast4 C hK hT hB h dX1_lemma_30 (fun Hp30 H locs h hT => ?_)
      refine lv_iinc (v := (v2 + 1)) (lv' := [(2, .int (v2 + 1)), (0, .ref (a v0)), (1, .ref (a v1))]) C.1 C.2.1 dX1_lemma_31 hl (k := 2) rfl rfl (by decide) rfl (fun ls hl => ?_)
      refine lv_goto (tgt := 13) C.1 C.2.1 dX1_lemma_34 (by decide) ?_
      exact hih Hp30 (v2 + 1) h _ _ _ _ _ hT (by omega) (by omega) ls (lv_sub hl [1, 2, 0] rfl)
  unfold mS_lemma at h
  refine lv_aload_n C.1 C.2.1 dX1_lemma_0 rfl (lv_at hl 0 rfl) ?_
  refine h_get1 C hK qF_X1_15 hT.1 h dX1_lemma_1 (fun x1 h => ?_)
  refine h_len4 C hK hT.1 h dX1_lemma_4 (fun x4 h => ?_)
  refine lv_iconst (v := 1) C.1 C.2.1 dX1_lemma_5 (by decide) ?_
  refine lv_iadd C.1 C.2.1 dX1_lemma_6 ?_
  refine h_nw4 C hK hT hA (by show _ ≤ 2; omega) (by show _ ≤ 28; omega) hB h dX1_lemma_7 (fun Hp7 x7 a7 H h hT hag hrs => ?_)
  have hl : lv_has ls 3 [(0, .ref (a7 v0))] := by
    have hl : lv_has ls 3 [(0, .ref (a0 v0))] := lv_sub hl [0] rfl
    simpa only [hag _ (hrs _ (List.mem_of_getElem? (i := 0) rfl))] using hl
  refine lv_astore_n (lv' := [(1, .ref (a7 x7)), (0, .ref (a7 v0))]) C.1 C.2.1 dX1_lemma_10 rfl hl (by decide) rfl (fun ls hl => ?_)
  refine lv_iconst (v := 0) C.1 C.2.1 dX1_lemma_11 (by decide) ?_
  refine lv_istore_n (lv' := [(2, .int 0), (1, .ref (a7 x7)), (0, .ref (a7 v0))]) C.1 C.2.1 dX1_lemma_12 rfl hl (by decide) rfl (fun ls hl => ?_)
  exact L13 v0 x7 16 Hp7 0 h _ _ _ _ _ hT (by omega) (by omega) ls (lv_sub hl [2, 1, 0] rfl)
set_option maxHeartbeats 8000000 in
set_option maxRecDepth 100000 in
theorem tS_proof {l : Launch} {D : va_G} {k : Nat → ClassId} {a0 : Nat → Nat} {Hp0 : HS} {sz : Nat} {v0 : Nat} {v1 : Int32} {z : (Int32 × HS)} (h : mS_proof Hp0 v0 v1 = some z) : Met l yX1_proof (Cond.code yX1_proof cX1_proof 4 none :: WW) ({ frames := 0, cells := 2, slots := 28, locals := 0 }) (va_Pc [.ref (a0 v0), .int v1] (hPre D k ([] : va_W) a0 Hp0 sz)) (hQv D k ([] : va_W) a0 Hp0.length z.2 (va_A (([] : va_W) ++ wH k a0 Hp0) sz)) 2 28 (va_A (([] : va_W) ++ wH k a0 Hp0) sz) := by
  refine HW_of (own := RX1) (Qc := fun A => hQv D k ([] : va_W) a0 Hp0.length z.2 A) (by decide) rfl (Nat.le_of_ble_eq_true rfl) ?_
  intro p e s m args below meth c A ha C hr hlk hnm hK hB hA hT ls hl
  have hl : lv_has ls 4 [(0, .ref (a0 v0)), (1, .int v1)] := hl
  have L15 : ∀ (v0 : Nat) (v1 : Int32) (v2 : Nat) (n : Nat) (Hp : HS) (v3 : Int32), itr2 (mS_proof_F15 v0 v1 v2) n Hp v3 = some z → ∀ (a : Nat → Nat) (H : Heap) (locs : List Loc) (cells slots : Nat) (hT : hST D k A s ([] : va_W) a0 Hp0.length a Hp H locs) (hc : cells + 1 ≤ 2) (hsl : slots ≤ 14 * cells) (ls : Array Slot), lv_has ls 4 [(0, .ref (a v0)), (1, .int v1), (2, .ref (a v2)), (3, .int v3)] → W p l e ({ frames := 0, cells := 2, slots := 28, locals := 0 }) s m args below meth c H locs cells slots (MQ below (hQv D k ([] : va_W) a0 Hp0.length z.2 A) args s 2 28 A) (F0 m 15 ls []) := by
    intro v0 v1 v2
    intro n
    refine itr2_indn (fun (n : Nat) (Hp : HS) (v3 : Int32) => ∀ (a : Nat → Nat) (H : Heap) (locs : List Loc) (cells slots : Nat) (hT : hST D k A s ([] : va_W) a0 Hp0.length a Hp H locs) (hc : cells + 1 ≤ 2) (hsl : slots ≤ 14 * cells) (ls : Array Slot), lv_has ls 4 [(0, .ref (a v0)), (1, .int v1), (2, .ref (a v2)), (3, .int v3)] → W p l e ({ frames := 0, cells := 2, slots := 28, locals := 0 }) s m args below meth c H locs cells slots (MQ below (hQv D k ([] : va_W) a0 Hp0.length z.2 A) args s 2 28 A) (F0 m 15 ls [])) ?_ n
    intro n15 ih hih Hp v3 h a H locs cells slots hT hc hsl ls hl
    unfold mS_proof_F15 at h
    refine lv_iload_n C.1 C.2.1 dX1_proof_15 rfl (lv_at hl 3 rfl) ?_
    refine lv_aload_n C.1 C.2.1 dX1_proof_16 rfl (lv_at hl 0 rfl) ?_
    refine h_get1 C hK qF_X1_15 hT.1 h dX1_proof_17 (fun x17 h => ?_)
    refine lv_iload_n C.1 C.2.1 dX1_proof_20 rfl (lv_at hl 1 rfl) ?_
    refine h_ald4 C hK hT.1 h dX1_proof_21 (fun x21 h => ?_)
    refine h_len3 C hK hT.1 h dX1_proof_22 (fun x22 h => ?_)
    refine k_icmp_ge (tgt := 43) C dX1_proof_23 (by decide) h (fun c23 h => ?_) (fun c23 h => ?_)
    · refine lv_aload_n C.1 C.2.1 dX1_proof_43 rfl (lv_at hl 2 rfl) ?_
      refine lv_aload_n C.1 C.2.1 dX1_proof_44 rfl (lv_at hl 0 rfl) ?_
      refine h_get1 C hK qF_X1_15 hT.1 h dX1_proof_45 (fun x45 h => ?_)
      refine lv_iload_n C.1 C.2.1 dX1_proof_48 rfl (lv_at hl 1 rfl) ?_
      refine h_ald4 C hK hT.1 h dX1_proof_49 (fun x49 h => ?_)
      refine h_len3 C hK hT.1 h dX1_proof_50 (fun x50 h => ?_)
      refine lv_iconst (v := 0) C.1 C.2.1 dX1_proof_51 (by decide) ?_
      refine h_nw2 C hK hT hA (by show _ ≤ 2; omega) (by show _ ≤ 28; omega) hB h dX1_proof_52 (fun Hp52 x52 a52 H h hT hag hrs => ?_)
      have hl : lv_has ls 4 [(0, .ref (a52 v0)), (1, .int v1), (2, .ref (a52 v2))] := by
        have hl : lv_has ls 4 [(0, .ref (a v0)), (1, .int v1), (2, .ref (a v2))] := lv_sub hl [0, 1, 2] rfl
        simpa only [hag _ (hrs _ (List.mem_of_getElem? (i := 0) rfl)), hag _ (hrs _ (List.mem_of_getElem? (i := 1) rfl))] using hl
      refine h_stk (st' := [.ref (a52 x52), .int x50, .ref (a52 v2)]) (by simp only [hag _ (hrs _ (List.mem_of_getElem? (i := 0) rfl)), hag _ (hrs _ (List.mem_of_getElem? (i := 1) rfl))]) ?_
      refine h_ast3 C hK hT hB h dX1_proof_55 (fun Hp55 H locs h hT => ?_)
      refine lv_aload_n C.1 C.2.1 dX1_proof_56 rfl (lv_at hl 0 rfl) ?_
      refine h_get1 C hK qF_X1_15 hT.1 h dX1_proof_57 (fun x57 h => ?_)
      refine lv_iload_n C.1 C.2.1 dX1_proof_60 rfl (lv_at hl 1 rfl) ?_
      refine lv_aload_n C.1 C.2.1 dX1_proof_61 rfl (lv_at hl 2 rfl) ?_
      refine h_ast4 C hK hT hB h dX1_proof_62 (fun Hp62 H locs h hT => ?_)
      cases h
      exact h_vret C hr hlk hT (by omega) (by omega) dX1_proof_63
    · refine lv_aload_n C.1 C.2.1 dX1_proof_26 rfl (lv_at hl 2 rfl) ?_
      refine lv_iload_n C.1 C.2.1 dX1_proof_27 rfl (lv_at hl 3 rfl) ?_
      refine lv_aload_n C.1 C.2.1 dX1_proof_28 rfl (lv_at hl 0 rfl) ?_
      refine h_get1 C hK qF_X1_15 hT.1 h dX1_proof_29 (fun x29 h => ?_)
      refine lv_iload_n C.1 C.2.1 dX1_proof_32 rfl (lv_at hl 1 rfl) ?_
      refine h_ald4 C hK hT.1 h dX1_proof_33 (fun x33 h => ?_)
      refine lv_iload_n C.1 C.2.1 dX1_proof_34 rfl (lv_at hl 3 rfl) ?_
      refine h_ald3 C hK hT.1 h dX1_proof_35 (fun x35 h => ?_)
      refine h_ast3 C hK hT hB h dX1_proof_36 (fun Hp36 H locs h hT => ?_)
      refine lv_iinc (v := (v3 + 1)) (lv' := [(3, .int (v3 + 1)), (0, .ref (a v0)), (1, .int v1), (2, .ref (a v2))]) C.1 C.2.1 dX1_proof_37 hl (k := 3) rfl rfl (by decide) rfl (fun ls hl => ?_)
      refine lv_goto (tgt := 15) C.1 C.2.1 dX1_proof_40 (by decide) ?_
      exact hih Hp36 (v3 + 1) h _ _ _ _ _ hT (by omega) (by omega) ls (lv_sub hl [1, 2, 3, 0] rfl)
  unfold mS_proof at h
  refine lv_aload_n C.1 C.2.1 dX1_proof_0 rfl (lv_at hl 0 rfl) ?_
  refine h_get1 C hK qF_X1_15 hT.1 h dX1_proof_1 (fun x1 h => ?_)
  refine lv_iload_n C.1 C.2.1 dX1_proof_4 rfl (lv_at hl 1 rfl) ?_
  refine h_ald4 C hK hT.1 h dX1_proof_5 (fun x5 h => ?_)
  refine h_len3 C hK hT.1 h dX1_proof_6 (fun x6 h => ?_)
  refine lv_iconst (v := 1) C.1 C.2.1 dX1_proof_7 (by decide) ?_
  refine lv_iadd C.1 C.2.1 dX1_proof_8 ?_
  refine h_nw3 C hK hT hA (by show _ ≤ 2; omega) (by show _ ≤ 28; omega) hB h dX1_proof_9 (fun Hp9 x9 a9 H h hT hag hrs => ?_)
  have hl : lv_has ls 4 [(0, .ref (a9 v0)), (1, .int v1)] := by
    have hl : lv_has ls 4 [(0, .ref (a0 v0)), (1, .int v1)] := lv_sub hl [0, 1] rfl
    simpa only [hag _ (hrs _ (List.mem_of_getElem? (i := 0) rfl))] using hl
  refine lv_astore_n (lv' := [(2, .ref (a9 x9)), (0, .ref (a9 v0)), (1, .int v1)]) C.1 C.2.1 dX1_proof_12 rfl hl (by decide) rfl (fun ls hl => ?_)
  refine lv_iconst (v := 0) C.1 C.2.1 dX1_proof_13 (by decide) ?_
  refine lv_istore_n (lv' := [(3, .int 0), (2, .ref (a9 x9)), (0, .ref (a9 v0)), (1, .int v1)]) C.1 C.2.1 dX1_proof_14 rfl hl (by decide) rfl (fun ls hl => ?_)
  exact L15 v0 v1 x9 16 Hp9 0 h _ _ _ _ _ hT (by omega) (by omega) ls (lv_sub hl [2, 3, 1, 0] rfl)
set_option maxHeartbeats 8000000 in
set_option maxRecDepth 100000 in
theorem tS_strike {l : Launch} {D : va_G} {k : Nat → ClassId} {a0 : Nat → Nat} {Hp0 : HS} {sz : Nat} {v0 : Nat} {v1 : Int32} {v2 : Int32} {z : (Int32 × HS)} (h : mS_strike Hp0 v0 v1 v2 = some z) : Met l yX1_strike (Cond.code yX1_strike cX1_strike 5 none :: WW) ({ frames := 0, cells := 1, slots := 14, locals := 0 }) (va_Pc [.ref (a0 v0), .int v1, .int v2] (hPre D k ([] : va_W) a0 Hp0 sz)) (hQv D k ([] : va_W) a0 Hp0.length z.2 (va_A (([] : va_W) ++ wH k a0 Hp0) sz)) 1 14 (va_A (([] : va_W) ++ wH k a0 Hp0) sz) := by
  refine HW_of (own := RX1) (Qc := fun A => hQv D k ([] : va_W) a0 Hp0.length z.2 A) (by decide) rfl (Nat.le_of_ble_eq_true rfl) ?_
  intro p e s m args below meth c A ha C hr hlk hnm hK hB hA hT ls hl
  have hl : lv_has ls 5 [(0, .ref (a0 v0)), (1, .int v1), (2, .int v2)] := hl
  have L16 : ∀ (v0 : Nat) (v1 : Int32) (v2 : Int32) (v3 : Nat) (n : Nat) (Hp : HS) (v4 : Int32), itr2 (mS_strike_F16 v0 v1 v2 v3) n Hp v4 = some z → ∀ (a : Nat → Nat) (H : Heap) (locs : List Loc) (cells slots : Nat) (hT : hST D k A s ([] : va_W) a0 Hp0.length a Hp H locs) (hc : cells ≤ 1) (hsl : slots ≤ 14 * cells) (ls : Array Slot), lv_has ls 5 [(0, .ref (a v0)), (1, .int v1), (2, .int v2), (3, .ref (a v3)), (4, .int v4)] → W p l e ({ frames := 0, cells := 1, slots := 14, locals := 0 }) s m args below meth c H locs cells slots (MQ below (hQv D k ([] : va_W) a0 Hp0.length z.2 A) args s 1 14 A) (F0 m 16 ls []) := by
    intro v0 v1 v2 v3
    intro n
    refine itr2_indn (fun (n : Nat) (Hp : HS) (v4 : Int32) => ∀ (a : Nat → Nat) (H : Heap) (locs : List Loc) (cells slots : Nat) (hT : hST D k A s ([] : va_W) a0 Hp0.length a Hp H locs) (hc : cells ≤ 1) (hsl : slots ≤ 14 * cells) (ls : Array Slot), lv_has ls 5 [(0, .ref (a v0)), (1, .int v1), (2, .int v2), (3, .ref (a v3)), (4, .int v4)] → W p l e ({ frames := 0, cells := 1, slots := 14, locals := 0 }) s m args below meth c H locs cells slots (MQ below (hQv D k ([] : va_W) a0 Hp0.length z.2 A) args s 1 14 A) (F0 m 16 ls [])) ?_ n
    intro n16 ih hih Hp v4 h a H locs cells slots hT hc hsl ls hl
    unfold mS_strike_F16 at h
    refine lv_iload C.1 C.2.1 dX1_strike_16 (lv_at hl 4 rfl) ?_
    refine lv_aload_n C.1 C.2.1 dX1_strike_18 rfl (lv_at hl 3 rfl) ?_
    refine h_len3 C hK hT.1 h dX1_strike_19 (fun x19 h => ?_)
    refine k_icmp_ge (tgt := 55) C dX1_strike_20 (by decide) h (fun c20 h => ?_) (fun c20 h => ?_)
    · refine lv_aload_n C.1 C.2.1 dX1_strike_55 rfl (lv_at hl 0 rfl) ?_
      refine h_get1 C hK qF_X1_15 hT.1 h dX1_strike_56 (fun x56 h => ?_)
      refine lv_iload_n C.1 C.2.1 dX1_strike_59 rfl (lv_at hl 1 rfl) ?_
      refine lv_aload_n C.1 C.2.1 dX1_strike_60 rfl (lv_at hl 3 rfl) ?_
      refine h_ast4 C hK hT hB h dX1_strike_61 (fun Hp61 H locs h hT => ?_)
      cases h
      exact h_vret C hr hlk hT (by omega) (by omega) dX1_strike_62
    · refine lv_aload_n C.1 C.2.1 dX1_strike_23 rfl (lv_at hl 3 rfl) ?_
      refine lv_iload C.1 C.2.1 dX1_strike_24 (lv_at hl 4 rfl) ?_
      refine lv_aload_n C.1 C.2.1 dX1_strike_26 rfl (lv_at hl 0 rfl) ?_
      refine h_get1 C hK qF_X1_15 hT.1 h dX1_strike_27 (fun x27 h => ?_)
      refine lv_iload_n C.1 C.2.1 dX1_strike_30 rfl (lv_at hl 1 rfl) ?_
      refine h_ald4 C hK hT.1 h dX1_strike_31 (fun x31 h => ?_)
      refine lv_iload C.1 C.2.1 dX1_strike_32 (lv_at hl 4 rfl) ?_
      refine lv_iload_n C.1 C.2.1 dX1_strike_34 rfl (lv_at hl 2 rfl) ?_
      refine k_icmp_ge (tgt := 43) C dX1_strike_35 (by decide) h (fun c35 h => ?_) (fun c35 h => ?_)
      · refine lv_iload C.1 C.2.1 dX1_strike_43 (lv_at hl 4 rfl) ?_
        refine lv_iconst (v := 1) C.1 C.2.1 dX1_strike_45 (by decide) ?_
        refine lv_iadd C.1 C.2.1 dX1_strike_46 ?_
        refine h_ald3 C hK hT.1 h dX1_strike_47 (fun x47 h => ?_)
        refine h_ast3 C hK hT hB h dX1_strike_48 (fun Hp48 H locs h hT => ?_)
        refine lv_iinc (v := (v4 + 1)) (lv' := [(4, .int (v4 + 1)), (0, .ref (a v0)), (1, .int v1), (2, .int v2), (3, .ref (a v3))]) C.1 C.2.1 dX1_strike_49 hl (k := 4) rfl rfl (by decide) rfl (fun ls hl => ?_)
        refine lv_goto (tgt := 16) C.1 C.2.1 dX1_strike_52 (by decide) ?_
        exact hih Hp48 (v4 + 1) h _ _ _ _ _ hT (by omega) (by omega) ls (lv_sub hl [1, 2, 3, 4, 0] rfl)
      · refine lv_iload C.1 C.2.1 dX1_strike_38 (lv_at hl 4 rfl) ?_
        refine lv_goto (tgt := 47) C.1 C.2.1 dX1_strike_40 (by decide) ?_
        refine h_ald3 C hK hT.1 h dX1_strike_47 (fun x47 h => ?_)
        refine h_ast3 C hK hT hB h dX1_strike_48 (fun Hp48 H locs h hT => ?_)
        refine lv_iinc (v := (v4 + 1)) (lv' := [(4, .int (v4 + 1)), (0, .ref (a v0)), (1, .int v1), (2, .int v2), (3, .ref (a v3))]) C.1 C.2.1 dX1_strike_49 hl (k := 4) rfl rfl (by decide) rfl (fun ls hl => ?_)
        refine lv_goto (tgt := 16) C.1 C.2.1 dX1_strike_52 (by decide) ?_
        exact hih Hp48 (v4 + 1) h _ _ _ _ _ hT (by omega) (by omega) ls (lv_sub hl [1, 2, 3, 4, 0] rfl)
  unfold mS_strike at h
  refine lv_aload_n C.1 C.2.1 dX1_strike_0 rfl (lv_at hl 0 rfl) ?_
  refine h_get1 C hK qF_X1_15 hT.1 h dX1_strike_1 (fun x1 h => ?_)
  refine lv_iload_n C.1 C.2.1 dX1_strike_4 rfl (lv_at hl 1 rfl) ?_
  refine h_ald4 C hK hT.1 h dX1_strike_5 (fun x5 h => ?_)
  refine h_len3 C hK hT.1 h dX1_strike_6 (fun x6 h => ?_)
  refine lv_iconst (v := 1) C.1 C.2.1 dX1_strike_7 (by decide) ?_
  refine lv_isub C.1 C.2.1 dX1_strike_8 ?_
  refine h_nw3 C hK hT hA (by show _ ≤ 1; omega) (by show _ ≤ 14; omega) hB h dX1_strike_9 (fun Hp9 x9 a9 H h hT hag hrs => ?_)
  have hl : lv_has ls 5 [(0, .ref (a9 v0)), (1, .int v1), (2, .int v2)] := by
    have hl : lv_has ls 5 [(0, .ref (a0 v0)), (1, .int v1), (2, .int v2)] := lv_sub hl [0, 1, 2] rfl
    simpa only [hag _ (hrs _ (List.mem_of_getElem? (i := 0) rfl))] using hl
  refine lv_astore_n (lv' := [(3, .ref (a9 x9)), (0, .ref (a9 v0)), (1, .int v1), (2, .int v2)]) C.1 C.2.1 dX1_strike_12 rfl hl (by decide) rfl (fun ls hl => ?_)
  refine lv_iconst (v := 0) C.1 C.2.1 dX1_strike_13 (by decide) ?_
  refine lv_istore (lv' := [(4, .int 0), (3, .ref (a9 x9)), (0, .ref (a9 v0)), (1, .int v1), (2, .int v2)]) C.1 C.2.1 dX1_strike_14 hl (by decide) rfl (fun ls hl => ?_)
  exact L16 v0 v1 v2 x9 16 Hp9 0 h _ _ _ _ _ hT (by omega) (by omega) ls (lv_sub hl [2, 3, 4, 1, 0] rfl)
set_option maxHeartbeats 8000000 in
set_option maxRecDepth 100000 in
theorem tS_stages {l : Launch} {D : va_G} {k : Nat → ClassId} {a0 : Nat → Nat} {Hp0 : HS} {sz : Nat} {v0 : Nat} {v1 : Int32} {z : (Nat × HS)} (h : mS_stages Hp0 v0 v1 = some z) : Met l yX1_stages (Cond.code yX1_stages cX1_stages 10 (some (.array .int)) :: WW) ({ frames := 2, cells := 17, slots := 238, locals := 52 }) (va_Pc [.ref (a0 v0), .int v1] (hPre D k ([] : va_W) a0 Hp0 sz)) (hQr D k ([] : va_W) a0 Hp0.length z.2 z.1 (va_A (([] : va_W) ++ wH k a0 Hp0) sz)) 17 238 (va_A (([] : va_W) ++ wH k a0 Hp0) sz) := by
  refine HW_of (own := RX1) (Qc := fun A => hQr D k ([] : va_W) a0 Hp0.length z.2 z.1 A) (by decide) rfl (Nat.le_of_ble_eq_true rfl) ?_
  intro p e s m args below meth c A ha C hr hlk hnm hK hB hA hT ls hl
  have hl : lv_has ls 10 [(0, .ref (a0 v0)), (1, .int v1)] := hl
  have L58 : ∀ (n31 n10 : Nat) (v0 : Nat) (v1 : Int32) (v2 : Nat) (v3 : Int32) (v4 : Nat) (v5 : Int32) (v6 : Nat) (v7 : Int32) (kk : HS → Int32 → Option (Nat × HS)) (hk : ∀ (Hp : HS) (v5 : Int32), kk Hp v5 = some z → ∀ (a : Nat → Nat) (H : Heap) (locs : List Loc) (cells slots : Nat) (hT : hST D k A s ([] : va_W) a0 Hp0.length a Hp H locs) (hc : cells + n10 * 1 ≤ 17) (hsl : slots ≤ 14 * cells) (ls : Array Slot), lv_has ls 10 [(0, .ref (a v0)), (1, .int v1), (2, .ref (a v2)), (3, .int v3), (4, .ref (a v4)), (5, .int v5)] → W p l e ({ frames := 2, cells := 17, slots := 238, locals := 52 }) s m args below meth c H locs cells slots (MQ below (hQr D k ([] : va_W) a0 Hp0.length z.2 z.1 A) args s 17 238 A) (F0 m 31 ls [])) (n : Nat) (Hp : HS) (v8 : Int32), itr2 (mS_stages_F58 kk v0 v1 v2 v3 v4 v5 v6 v7) n Hp v8 = some z → ∀ (a : Nat → Nat) (H : Heap) (locs : List Loc) (cells slots : Nat) (hT : hST D k A s ([] : va_W) a0 Hp0.length a Hp H locs) (hc : cells + n10 * 1 ≤ 17) (hsl : slots ≤ 14 * cells) (ls : Array Slot), lv_has ls 10 [(0, .ref (a v0)), (1, .int v1), (2, .ref (a v2)), (3, .int v3), (4, .ref (a v4)), (5, .int v5), (6, .ref (a v6)), (7, .int v7), (8, .int v8)] → W p l e ({ frames := 2, cells := 17, slots := 238, locals := 52 }) s m args below meth c H locs cells slots (MQ below (hQr D k ([] : va_W) a0 Hp0.length z.2 z.1 A) args s 17 238 A) (F0 m 58 ls []) := by
    intro n31 n10 v0 v1 v2 v3 v4 v5 v6 v7 kk hk
    intro n
    refine itr2_indn (fun (n : Nat) (Hp : HS) (v8 : Int32) => ∀ (a : Nat → Nat) (H : Heap) (locs : List Loc) (cells slots : Nat) (hT : hST D k A s ([] : va_W) a0 Hp0.length a Hp H locs) (hc : cells + n10 * 1 ≤ 17) (hsl : slots ≤ 14 * cells) (ls : Array Slot), lv_has ls 10 [(0, .ref (a v0)), (1, .int v1), (2, .ref (a v2)), (3, .int v3), (4, .ref (a v4)), (5, .int v5), (6, .ref (a v6)), (7, .int v7), (8, .int v8)] → W p l e ({ frames := 2, cells := 17, slots := 238, locals := 52 }) s m args below meth c H locs cells slots (MQ below (hQr D k ([] : va_W) a0 Hp0.length z.2 z.1 A) args s 17 238 A) (F0 m 58 ls [])) ?_ n
    intro n58 ih hih Hp v8 h a H locs cells slots hT hc hsl ls hl
    unfold mS_stages_F58 at h
    refine lv_iload C.1 C.2.1 dX1_stages_58 (lv_at hl 8 rfl) ?_
    refine lv_iload C.1 C.2.1 dX1_stages_60 (lv_at hl 7 rfl) ?_
    refine k_icmp_ge (tgt := 107) C dX1_stages_62 (by decide) h (fun c62 h => ?_) (fun c62 h => ?_)
    · refine lv_iinc (v := (v5 + 1)) (lv' := [(5, .int (v5 + 1)), (0, .ref (a v0)), (1, .int v1), (2, .ref (a v2)), (3, .int v3), (4, .ref (a v4)), (6, .ref (a v6)), (7, .int v7), (8, .int v8)]) C.1 C.2.1 dX1_stages_107 hl (k := 5) rfl rfl (by decide) rfl (fun ls hl => ?_)
      refine lv_goto (tgt := 31) C.1 C.2.1 dX1_stages_110 (by decide) ?_
      exact hk Hp (v5 + 1) h _ _ _ _ _ hT (by omega) (by omega) ls (lv_sub hl [1, 2, 3, 4, 5, 0] rfl)
    · refine lv_aload C.1 C.2.1 dX1_stages_65 (lv_at hl 6 rfl) ?_
      refine lv_iload C.1 C.2.1 dX1_stages_67 (lv_at hl 8 rfl) ?_
      refine h_ald3 C hK hT.1 h dX1_stages_69 (fun x69 h => ?_)
      refine lv_astore (lv' := [(9, .ref (a x69)), (0, .ref (a v0)), (1, .int v1), (2, .ref (a v2)), (3, .int v3), (4, .ref (a v4)), (5, .int v5), (6, .ref (a v6)), (7, .int v7), (8, .int v8)]) C.1 C.2.1 dX1_stages_70 hl (by decide) rfl (fun ls hl => ?_)
      refine lv_aload_n C.1 C.2.1 dX1_stages_72 rfl (lv_at hl 3 rfl) ?_
      refine lv_iload C.1 C.2.1 dX1_stages_73 (lv_at hl 6 rfl) ?_
      refine h_ild0 C hK hT.1 h dX1_stages_75 (fun x75 h => ?_)
      refine k_if_ne (tgt := 101) C dX1_stages_76 (by decide) h (fun c76 h => ?_) (fun c76 h => ?_)
      · refine lv_iinc (v := (v8 + 1)) (lv' := [(8, .int (v8 + 1)), (9, .ref (a x69)), (0, .ref (a v0)), (1, .int v1), (2, .ref (a v2)), (3, .int v3), (4, .ref (a v4)), (5, .int v5), (6, .ref (a v6)), (7, .int v7)]) C.1 C.2.1 dX1_stages_101 hl (k := 9) rfl rfl (by decide) rfl (fun ls hl => ?_)
        refine lv_goto (tgt := 58) C.1 C.2.1 dX1_stages_104 (by decide) ?_
        exact hih Hp (v8 + 1) h _ _ _ _ _ hT (by omega) (by omega) ls (lv_sub hl [2, 3, 4, 5, 6, 7, 8, 9, 0] rfl)
      · refine lv_iload C.1 C.2.1 dX1_stages_79 (lv_at hl 6 rfl) ?_
        refine lv_iload_n C.1 C.2.1 dX1_stages_81 rfl (lv_at hl 2 rfl) ?_
        refine k_icmp_eq (tgt := 101) C dX1_stages_82 (by decide) h (fun c82 h => ?_) (fun c82 h => ?_)
        · refine lv_iinc (v := (v8 + 1)) (lv' := [(8, .int (v8 + 1)), (9, .ref (a x69)), (0, .ref (a v0)), (1, .int v1), (2, .ref (a v2)), (3, .int v3), (4, .ref (a v4)), (5, .int v5), (6, .ref (a v6)), (7, .int v7)]) C.1 C.2.1 dX1_stages_101 hl (k := 9) rfl rfl (by decide) rfl (fun ls hl => ?_)
          refine lv_goto (tgt := 58) C.1 C.2.1 dX1_stages_104 (by decide) ?_
          exact hih Hp (v8 + 1) h _ _ _ _ _ hT (by omega) (by omega) ls (lv_sub hl [2, 3, 4, 5, 6, 7, 8, 9, 0] rfl)
        · refine lv_aload_n C.1 C.2.1 dX1_stages_85 rfl (lv_at hl 1 rfl) ?_
          refine lv_aload C.1 C.2.1 dX1_stages_86 (lv_at hl 0 rfl) ?_
          refine lv_aload_n C.1 C.2.1 dX1_stages_88 rfl (lv_at hl 3 rfl) ?_
          refine h_rVi C hK hT.1 [.ref (a x69), .ref (a v2)] h (fun v e => tS_holds e) (cb_X1_31 C.2.2.2.2 ⟨Nat.le_of_ble_eq_true rfl, Nat.le_of_ble_eq_true rfl⟩) rfl hl.1 (Nat.le_of_ble_eq_true rfl) ⟨(by show _ ≤ 17; omega), (by show _ ≤ 238; omega)⟩ dX1_stages_89 rfl (fun x89 h => ?_)
          refine k_if_eq (tgt := 101) C dX1_stages_92 (by decide) h (fun c92 h => ?_) (fun c92 h => ?_)
          · refine lv_iinc (v := (v8 + 1)) (lv' := [(8, .int (v8 + 1)), (9, .ref (a x69)), (0, .ref (a v0)), (1, .int v1), (2, .ref (a v2)), (3, .int v3), (4, .ref (a v4)), (5, .int v5), (6, .ref (a v6)), (7, .int v7)]) C.1 C.2.1 dX1_stages_101 hl (k := 9) rfl rfl (by decide) rfl (fun ls hl => ?_)
            refine lv_goto (tgt := 58) C.1 C.2.1 dX1_stages_104 (by decide) ?_
            exact hih Hp (v8 + 1) h _ _ _ _ _ hT (by omega) (by omega) ls (lv_sub hl [2, 3, 4, 5, 6, 7, 8, 9, 0] rfl)
          · refine lv_aload C.1 C.2.1 dX1_stages_95 (lv_at hl 5 rfl) ?_
            refine lv_iload C.1 C.2.1 dX1_stages_97 (lv_at hl 6 rfl) ?_
            refine lv_iload_n C.1 C.2.1 dX1_stages_99 rfl (lv_at hl 4 rfl) ?_
            refine h_ist0 C hK hT h dX1_stages_100 (fun Hp100 H locs h hT => ?_)
            refine lv_iinc (v := (v8 + 1)) (lv' := [(8, .int (v8 + 1)), (9, .ref (a x69)), (0, .ref (a v0)), (1, .int v1), (2, .ref (a v2)), (3, .int v3), (4, .ref (a v4)), (5, .int v5), (6, .ref (a v6)), (7, .int v7)]) C.1 C.2.1 dX1_stages_101 hl (k := 9) rfl rfl (by decide) rfl (fun ls hl => ?_)
            refine lv_goto (tgt := 58) C.1 C.2.1 dX1_stages_104 (by decide) ?_
            exact hih Hp100 (v8 + 1) h _ _ _ _ _ hT (by omega) (by omega) ls (lv_sub hl [2, 3, 4, 5, 6, 7, 8, 9, 0] rfl)
  have L31 : ∀ (n10 : Nat) (v0 : Nat) (v1 : Int32) (v2 : Nat) (v3 : Int32) (v4 : Nat) (kk : HS → Nat → Int32 → Option (Nat × HS)) (hk : ∀ (Hp : HS) (v2 : Nat) (v3 : Int32), kk Hp v2 v3 = some z → ∀ (a : Nat → Nat) (H : Heap) (locs : List Loc) (cells slots : Nat) (hT : hST D k A s ([] : va_W) a0 Hp0.length a Hp H locs) (hc : cells + n10 * 1 ≤ 17) (hsl : slots ≤ 14 * cells) (ls : Array Slot), lv_has ls 10 [(0, .ref (a v0)), (1, .int v1), (2, .ref (a v2)), (3, .int v3)] → W p l e ({ frames := 2, cells := 17, slots := 238, locals := 52 }) s m args below meth c H locs cells slots (MQ below (hQr D k ([] : va_W) a0 Hp0.length z.2 z.1 A) args s 17 238 A) (F0 m 10 ls [])) (n : Nat) (Hp : HS) (v5 : Int32), itr2 (mS_stages_F31 kk v0 v1 v2 v3 v4) n Hp v5 = some z → ∀ (a : Nat → Nat) (H : Heap) (locs : List Loc) (cells slots : Nat) (hT : hST D k A s ([] : va_W) a0 Hp0.length a Hp H locs) (hc : cells + n10 * 1 ≤ 17) (hsl : slots ≤ 14 * cells) (ls : Array Slot), lv_has ls 10 [(0, .ref (a v0)), (1, .int v1), (2, .ref (a v2)), (3, .int v3), (4, .ref (a v4)), (5, .int v5)] → W p l e ({ frames := 2, cells := 17, slots := 238, locals := 52 }) s m args below meth c H locs cells slots (MQ below (hQr D k ([] : va_W) a0 Hp0.length z.2 z.1 A) args s 17 238 A) (F0 m 31 ls []) := by
    intro n10 v0 v1 v2 v3 v4 kk hk
    intro n
    refine itr2_indn (fun (n : Nat) (Hp : HS) (v5 : Int32) => ∀ (a : Nat → Nat) (H : Heap) (locs : List Loc) (cells slots : Nat) (hT : hST D k A s ([] : va_W) a0 Hp0.length a Hp H locs) (hc : cells + n10 * 1 ≤ 17) (hsl : slots ≤ 14 * cells) (ls : Array Slot), lv_has ls 10 [(0, .ref (a v0)), (1, .int v1), (2, .ref (a v2)), (3, .int v3), (4, .ref (a v4)), (5, .int v5)] → W p l e ({ frames := 2, cells := 17, slots := 238, locals := 52 }) s m args below meth c H locs cells slots (MQ below (hQr D k ([] : va_W) a0 Hp0.length z.2 z.1 A) args s 17 238 A) (F0 m 31 ls [])) ?_ n
    intro n31 ih hih Hp v5 h a H locs cells slots hT hc hsl ls hl
    unfold mS_stages_F31 at h
    refine lv_iload C.1 C.2.1 dX1_stages_31 (lv_at hl 5 rfl) ?_
    refine lv_aload_n C.1 C.2.1 dX1_stages_33 rfl (lv_at hl 0 rfl) ?_
    refine h_get1 C hK qF_X1_15 hT.1 h dX1_stages_34 (fun x34 h => ?_)
    refine h_len4 C hK hT.1 h dX1_stages_37 (fun x37 h => ?_)
    refine k_icmp_ge (tgt := 113) C dX1_stages_38 (by decide) h (fun c38 h => ?_) (fun c38 h => ?_)
    · refine lv_aload C.1 C.2.1 dX1_stages_113 (lv_at hl 4 rfl) ?_
      refine lv_astore_n (lv' := [(2, .ref (a v4)), (0, .ref (a v0)), (1, .int v1), (3, .int v3), (4, .ref (a v4)), (5, .int v5)]) C.1 C.2.1 dX1_stages_115 rfl hl (by decide) rfl (fun ls hl => ?_)
      refine lv_iinc (v := (v3 + 1)) (lv' := [(3, .int (v3 + 1)), (2, .ref (a v4)), (0, .ref (a v0)), (1, .int v1), (4, .ref (a v4)), (5, .int v5)]) C.1 C.2.1 dX1_stages_116 hl (k := 3) rfl rfl (by decide) rfl (fun ls hl => ?_)
      refine lv_goto (tgt := 10) C.1 C.2.1 dX1_stages_119 (by decide) ?_
      exact hk Hp v4 (v3 + 1) h _ _ _ _ _ hT (by omega) (by omega) ls (lv_sub hl [2, 3, 1, 0] rfl)
    · refine lv_aload_n C.1 C.2.1 dX1_stages_41 rfl (lv_at hl 0 rfl) ?_
      refine h_get1 C hK qF_X1_15 hT.1 h dX1_stages_42 (fun x42 h => ?_)
      refine lv_iload C.1 C.2.1 dX1_stages_45 (lv_at hl 5 rfl) ?_
      refine h_ald4 C hK hT.1 h dX1_stages_47 (fun x47 h => ?_)
      refine lv_astore (lv' := [(6, .ref (a x47)), (0, .ref (a v0)), (1, .int v1), (2, .ref (a v2)), (3, .int v3), (4, .ref (a v4)), (5, .int v5)]) C.1 C.2.1 dX1_stages_48 hl (by decide) rfl (fun ls hl => ?_)
      refine lv_aload C.1 C.2.1 dX1_stages_50 (lv_at hl 0 rfl) ?_
      refine h_len3 C hK hT.1 h dX1_stages_52 (fun x52 h => ?_)
      refine lv_istore (lv' := [(7, .int x52), (6, .ref (a x47)), (0, .ref (a v0)), (1, .int v1), (2, .ref (a v2)), (3, .int v3), (4, .ref (a v4)), (5, .int v5)]) C.1 C.2.1 dX1_stages_53 hl (by decide) rfl (fun ls hl => ?_)
      refine lv_iconst (v := 0) C.1 C.2.1 dX1_stages_55 (by decide) ?_
      refine lv_istore (lv' := [(8, .int 0), (7, .int x52), (6, .ref (a x47)), (0, .ref (a v0)), (1, .int v1), (2, .ref (a v2)), (3, .int v3), (4, .ref (a v4)), (5, .int v5)]) C.1 C.2.1 dX1_stages_56 hl (by decide) rfl (fun ls hl => ?_)
      exact L58 n31 n10 v0 v1 v2 v3 v4 v5 x47 x52 ih hih 16 Hp 0 h _ _ _ _ _ hT (by omega) (by omega) ls (lv_sub hl [3, 4, 5, 6, 7, 8, 2, 1, 0] rfl)
  have L10 : ∀ (v0 : Nat) (v1 : Int32) (n : Nat) (Hp : HS) (v2 : Nat) (v3 : Int32), itr3 (mS_stages_F10 v0 v1) n Hp v2 v3 = some z → ∀ (a : Nat → Nat) (H : Heap) (locs : List Loc) (cells slots : Nat) (hT : hST D k A s ([] : va_W) a0 Hp0.length a Hp H locs) (hc : cells + n * 1 ≤ 17) (hsl : slots ≤ 14 * cells) (ls : Array Slot), lv_has ls 10 [(0, .ref (a v0)), (1, .int v1), (2, .ref (a v2)), (3, .int v3)] → W p l e ({ frames := 2, cells := 17, slots := 238, locals := 52 }) s m args below meth c H locs cells slots (MQ below (hQr D k ([] : va_W) a0 Hp0.length z.2 z.1 A) args s 17 238 A) (F0 m 10 ls []) := by
    intro v0 v1
    intro n
    refine itr3_indn (fun (n : Nat) (Hp : HS) (v2 : Nat) (v3 : Int32) => ∀ (a : Nat → Nat) (H : Heap) (locs : List Loc) (cells slots : Nat) (hT : hST D k A s ([] : va_W) a0 Hp0.length a Hp H locs) (hc : cells + n * 1 ≤ 17) (hsl : slots ≤ 14 * cells) (ls : Array Slot), lv_has ls 10 [(0, .ref (a v0)), (1, .int v1), (2, .ref (a v2)), (3, .int v3)] → W p l e ({ frames := 2, cells := 17, slots := 238, locals := 52 }) s m args below meth c H locs cells slots (MQ below (hQr D k ([] : va_W) a0 Hp0.length z.2 z.1 A) args s 17 238 A) (F0 m 10 ls [])) ?_ n
    intro n10 ih hih Hp v2 v3 h a H locs cells slots hT hc hsl ls hl
    unfold mS_stages_F10 at h
    refine lv_iload_n C.1 C.2.1 dX1_stages_10 rfl (lv_at hl 3 rfl) ?_
    refine lv_aload_n C.1 C.2.1 dX1_stages_11 rfl (lv_at hl 0 rfl) ?_
    refine h_get1 C hK qF_X1_15 hT.1 h dX1_stages_12 (fun x12 h => ?_)
    refine h_len4 C hK hT.1 h dX1_stages_15 (fun x15 h => ?_)
    refine k_icmp_gt (tgt := 122) C dX1_stages_16 (by decide) h (fun c16 h => ?_) (fun c16 h => ?_)
    · refine lv_aload_n C.1 C.2.1 dX1_stages_122 rfl (lv_at hl 2 rfl) ?_
      cases h
      exact h_aret C hr (Or.inr ⟨_, rfl⟩) hlk hT (by omega) (by omega) dX1_stages_123
    · refine lv_aload_n C.1 C.2.1 dX1_stages_19 rfl (lv_at hl 2 rfl) ?_
      refine h_clone C hK hT hA (by show _ ≤ 17; omega) (by show _ ≤ 238; omega) hB hl.1 (Nat.le_of_ble_eq_true rfl) (Nat.le_of_ble_eq_true rfl) h dX1_stages_20 dX1_stages_23 (fun Hp20 x20 a20 H h hT hag hrs => ?_)
      have hl : lv_has ls 10 [(0, .ref (a20 v0)), (1, .int v1), (2, .ref (a20 v2)), (3, .int v3)] := by
        have hl : lv_has ls 10 [(0, .ref (a v0)), (1, .int v1), (2, .ref (a v2)), (3, .int v3)] := lv_sub hl [0, 1, 2, 3] rfl
        simpa only [hag _ (hrs _ (List.mem_of_getElem? (i := 0) rfl)), hag _ (hrs _ (List.mem_of_getElem? (i := 1) rfl))] using hl
      refine lv_astore (lv' := [(4, .ref (a20 x20)), (0, .ref (a20 v0)), (1, .int v1), (2, .ref (a20 v2)), (3, .int v3)]) C.1 C.2.1 dX1_stages_26 hl (by decide) rfl (fun ls hl => ?_)
      refine lv_iconst (v := 0) C.1 C.2.1 dX1_stages_28 (by decide) ?_
      refine lv_istore (lv' := [(5, .int 0), (4, .ref (a20 x20)), (0, .ref (a20 v0)), (1, .int v1), (2, .ref (a20 v2)), (3, .int v3)]) C.1 C.2.1 dX1_stages_29 hl (by decide) rfl (fun ls hl => ?_)
      exact L31 n10 v0 v1 v2 v3 x20 ih hih 16 Hp20 0 h _ _ _ _ _ hT (by omega) (by omega) ls (lv_sub hl [2, 3, 4, 5, 1, 0] rfl)
  unfold mS_stages at h
  refine lv_aload_n C.1 C.2.1 dX1_stages_0 rfl (lv_at hl 0 rfl) ?_
  refine h_get1 C hK qF_X1_15 hT.1 h dX1_stages_1 (fun x1 h => ?_)
  refine h_len4 C hK hT.1 h dX1_stages_4 (fun x4 h => ?_)
  refine h_nw0 C hK hT hA (by show _ ≤ 17; omega) (by show _ ≤ 238; omega) h dX1_stages_5 (fun Hp5 x5 a5 H h hT hag hrs => ?_)
  have hl : lv_has ls 10 [(0, .ref (a5 v0)), (1, .int v1)] := by
    have hl : lv_has ls 10 [(0, .ref (a0 v0)), (1, .int v1)] := lv_sub hl [0, 1] rfl
    simpa only [hag _ (hrs _ (List.mem_of_getElem? (i := 0) rfl))] using hl
  refine lv_astore_n (lv' := [(2, .ref (a5 x5)), (0, .ref (a5 v0)), (1, .int v1)]) C.1 C.2.1 dX1_stages_7 rfl hl (by decide) rfl (fun ls hl => ?_)
  refine lv_iconst (v := 1) C.1 C.2.1 dX1_stages_8 (by decide) ?_
  refine lv_istore_n (lv' := [(3, .int 1), (2, .ref (a5 x5)), (0, .ref (a5 v0)), (1, .int v1)]) C.1 C.2.1 dX1_stages_9 rfl hl (by decide) rfl (fun ls hl => ?_)
  exact L10 v0 v1 16 Hp5 x5 1 h _ _ _ _ _ hT (by omega) (by omega) ls (lv_sub hl [2, 3, 1, 0] rfl)
set_option maxHeartbeats 8000000 in
set_option maxRecDepth 100000 in
theorem tS_measures {l : Launch} {D : va_G} {k : Nat → ClassId} {a0 : Nat → Nat} {Hp0 : HS} {sz : Nat} {v0 : Nat} {v1 : Int32} {z : (Nat × HS)} (h : mS_measures Hp0 v0 v1 = some z) : Met l yX1_measures (Cond.code yX1_measures cX1_measures 10 (some (.array .int)) :: WW) ({ frames := 2, cells := 17, slots := 238, locals := 53 }) (va_Pc [.ref (a0 v0), .int v1] (hPre D k ([] : va_W) a0 Hp0 sz)) (hQr D k ([] : va_W) a0 Hp0.length z.2 z.1 (va_A (([] : va_W) ++ wH k a0 Hp0) sz)) 17 238 (va_A (([] : va_W) ++ wH k a0 Hp0) sz) := by
  refine HW_of (own := RX1) (Qc := fun A => hQr D k ([] : va_W) a0 Hp0.length z.2 z.1 A) (by decide) rfl (Nat.le_of_ble_eq_true rfl) ?_
  intro p e s m args below meth c A ha C hr hlk hnm hK hB hA hT ls hl
  have hl : lv_has ls 10 [(0, .ref (a0 v0)), (1, .int v1)] := hl
  have L77 : ∀ (n50 n29 : Nat) (v0 : Nat) (v1 : Int32) (v2 : Nat) (v3 : Int32) (v4 : Nat) (v5 : Int32) (v6 : Nat) (v7 : Int32) (kk : HS → Int32 → Option (Nat × HS)) (hk : ∀ (Hp : HS) (v5 : Int32), kk Hp v5 = some z → ∀ (a : Nat → Nat) (H : Heap) (locs : List Loc) (cells slots : Nat) (hT : hST D k A s ([] : va_W) a0 Hp0.length a Hp H locs) (hc : cells + n29 * 1 ≤ 17) (hsl : slots ≤ 14 * cells) (ls : Array Slot), lv_has ls 10 [(0, .ref (a v0)), (1, .int v1), (2, .ref (a v2)), (3, .int v3), (4, .ref (a v4)), (5, .int v5)] → W p l e ({ frames := 2, cells := 17, slots := 238, locals := 53 }) s m args below meth c H locs cells slots (MQ below (hQr D k ([] : va_W) a0 Hp0.length z.2 z.1 A) args s 17 238 A) (F0 m 50 ls [])) (n : Nat) (Hp : HS) (v8 : Int32), itr2 (mS_measures_F77 kk v0 v1 v2 v3 v4 v5 v6 v7) n Hp v8 = some z → ∀ (a : Nat → Nat) (H : Heap) (locs : List Loc) (cells slots : Nat) (hT : hST D k A s ([] : va_W) a0 Hp0.length a Hp H locs) (hc : cells + n29 * 1 ≤ 17) (hsl : slots ≤ 14 * cells) (ls : Array Slot), lv_has ls 10 [(0, .ref (a v0)), (1, .int v1), (2, .ref (a v2)), (3, .int v3), (4, .ref (a v4)), (5, .int v5), (6, .ref (a v6)), (7, .int v7), (8, .int v8)] → W p l e ({ frames := 2, cells := 17, slots := 238, locals := 53 }) s m args below meth c H locs cells slots (MQ below (hQr D k ([] : va_W) a0 Hp0.length z.2 z.1 A) args s 17 238 A) (F0 m 77 ls []) := by
    intro n50 n29 v0 v1 v2 v3 v4 v5 v6 v7 kk hk
    intro n
    refine itr2_indn (fun (n : Nat) (Hp : HS) (v8 : Int32) => ∀ (a : Nat → Nat) (H : Heap) (locs : List Loc) (cells slots : Nat) (hT : hST D k A s ([] : va_W) a0 Hp0.length a Hp H locs) (hc : cells + n29 * 1 ≤ 17) (hsl : slots ≤ 14 * cells) (ls : Array Slot), lv_has ls 10 [(0, .ref (a v0)), (1, .int v1), (2, .ref (a v2)), (3, .int v3), (4, .ref (a v4)), (5, .int v5), (6, .ref (a v6)), (7, .int v7), (8, .int v8)] → W p l e ({ frames := 2, cells := 17, slots := 238, locals := 53 }) s m args below meth c H locs cells slots (MQ below (hQr D k ([] : va_W) a0 Hp0.length z.2 z.1 A) args s 17 238 A) (F0 m 77 ls [])) ?_ n
    intro n77 ih hih Hp v8 h a H locs cells slots hT hc hsl ls hl
    unfold mS_measures_F77 at h
    refine lv_iload C.1 C.2.1 dX1_measures_77 (lv_at hl 8 rfl) ?_
    refine lv_iload C.1 C.2.1 dX1_measures_79 (lv_at hl 7 rfl) ?_
    refine k_icmp_ge (tgt := 118) C dX1_measures_81 (by decide) h (fun c81 h => ?_) (fun c81 h => ?_)
    · refine lv_iinc (v := (v5 + 1)) (lv' := [(5, .int (v5 + 1)), (0, .ref (a v0)), (1, .int v1), (2, .ref (a v2)), (3, .int v3), (4, .ref (a v4)), (6, .ref (a v6)), (7, .int v7), (8, .int v8)]) C.1 C.2.1 dX1_measures_118 hl (k := 5) rfl rfl (by decide) rfl (fun ls hl => ?_)
      refine lv_goto (tgt := 50) C.1 C.2.1 dX1_measures_121 (by decide) ?_
      exact hk Hp (v5 + 1) h _ _ _ _ _ hT (by omega) (by omega) ls (lv_sub hl [1, 2, 3, 4, 5, 0] rfl)
    · refine lv_aload C.1 C.2.1 dX1_measures_84 (lv_at hl 6 rfl) ?_
      refine lv_iload C.1 C.2.1 dX1_measures_86 (lv_at hl 8 rfl) ?_
      refine h_ald3 C hK hT.1 h dX1_measures_88 (fun x88 h => ?_)
      refine lv_astore (lv' := [(9, .ref (a x88)), (0, .ref (a v0)), (1, .int v1), (2, .ref (a v2)), (3, .int v3), (4, .ref (a v4)), (5, .int v5), (6, .ref (a v6)), (7, .int v7), (8, .int v8)]) C.1 C.2.1 dX1_measures_89 hl (by decide) rfl (fun ls hl => ?_)
      refine lv_aload C.1 C.2.1 dX1_measures_91 (lv_at hl 5 rfl) ?_
      refine lv_iload C.1 C.2.1 dX1_measures_93 (lv_at hl 6 rfl) ?_
      refine lv_aload C.1 C.2.1 dX1_measures_95 (lv_at hl 5 rfl) ?_
      refine lv_iload C.1 C.2.1 dX1_measures_97 (lv_at hl 6 rfl) ?_
      refine h_ild0 C hK hT.1 h dX1_measures_99 (fun x99 h => ?_)
      refine lv_aload_n C.1 C.2.1 dX1_measures_100 rfl (lv_at hl 1 rfl) ?_
      refine lv_aload C.1 C.2.1 dX1_measures_101 (lv_at hl 0 rfl) ?_
      refine lv_aload_n C.1 C.2.1 dX1_measures_103 rfl (lv_at hl 3 rfl) ?_
      refine lv_iload_n C.1 C.2.1 dX1_measures_104 rfl (lv_at hl 2 rfl) ?_
      refine h_rVi C hK hT.1 [.ref (a x88), .ref (a v2), .int v1] h (fun v e => tS_measure e) (cb_X1_40 C.2.2.2.2 ⟨Nat.le_of_ble_eq_true rfl, Nat.le_of_ble_eq_true rfl⟩) rfl hl.1 (Nat.le_of_ble_eq_true rfl) ⟨(by show _ ≤ 17; omega), (by show _ ≤ 238; omega)⟩ dX1_measures_105 rfl (fun x105 h => ?_)
      refine k_mmin C hl.1 (C.2.2.2.2 _ qM_X1_44) (Nat.le_of_ble_eq_true rfl) (Nat.le_of_ble_eq_true rfl) (by show _ ≤ 17; omega) (by show _ ≤ 238; omega) dX1_measures_108 ?_
      refine h_ist0 C hK hT h dX1_measures_111 (fun Hp111 H locs h hT => ?_)
      refine lv_iinc (v := (v8 + 1)) (lv' := [(8, .int (v8 + 1)), (9, .ref (a x88)), (0, .ref (a v0)), (1, .int v1), (2, .ref (a v2)), (3, .int v3), (4, .ref (a v4)), (5, .int v5), (6, .ref (a v6)), (7, .int v7)]) C.1 C.2.1 dX1_measures_112 hl (k := 9) rfl rfl (by decide) rfl (fun ls hl => ?_)
      refine lv_goto (tgt := 77) C.1 C.2.1 dX1_measures_115 (by decide) ?_
      exact hih Hp111 (v8 + 1) h _ _ _ _ _ hT (by omega) (by omega) ls (lv_sub hl [2, 3, 4, 5, 6, 7, 8, 9, 0] rfl)
  have L50 : ∀ (n29 : Nat) (v0 : Nat) (v1 : Int32) (v2 : Nat) (v3 : Int32) (v4 : Nat) (kk : HS → Nat → Int32 → Option (Nat × HS)) (hk : ∀ (Hp : HS) (v2 : Nat) (v3 : Int32), kk Hp v2 v3 = some z → ∀ (a : Nat → Nat) (H : Heap) (locs : List Loc) (cells slots : Nat) (hT : hST D k A s ([] : va_W) a0 Hp0.length a Hp H locs) (hc : cells + n29 * 1 ≤ 17) (hsl : slots ≤ 14 * cells) (ls : Array Slot), lv_has ls 10 [(0, .ref (a v0)), (1, .int v1), (2, .ref (a v2)), (3, .int v3)] → W p l e ({ frames := 2, cells := 17, slots := 238, locals := 53 }) s m args below meth c H locs cells slots (MQ below (hQr D k ([] : va_W) a0 Hp0.length z.2 z.1 A) args s 17 238 A) (F0 m 29 ls [])) (n : Nat) (Hp : HS) (v5 : Int32), itr2 (mS_measures_F50 kk v0 v1 v2 v3 v4) n Hp v5 = some z → ∀ (a : Nat → Nat) (H : Heap) (locs : List Loc) (cells slots : Nat) (hT : hST D k A s ([] : va_W) a0 Hp0.length a Hp H locs) (hc : cells + n29 * 1 ≤ 17) (hsl : slots ≤ 14 * cells) (ls : Array Slot), lv_has ls 10 [(0, .ref (a v0)), (1, .int v1), (2, .ref (a v2)), (3, .int v3), (4, .ref (a v4)), (5, .int v5)] → W p l e ({ frames := 2, cells := 17, slots := 238, locals := 53 }) s m args below meth c H locs cells slots (MQ below (hQr D k ([] : va_W) a0 Hp0.length z.2 z.1 A) args s 17 238 A) (F0 m 50 ls []) := by
    intro n29 v0 v1 v2 v3 v4 kk hk
    intro n
    refine itr2_indn (fun (n : Nat) (Hp : HS) (v5 : Int32) => ∀ (a : Nat → Nat) (H : Heap) (locs : List Loc) (cells slots : Nat) (hT : hST D k A s ([] : va_W) a0 Hp0.length a Hp H locs) (hc : cells + n29 * 1 ≤ 17) (hsl : slots ≤ 14 * cells) (ls : Array Slot), lv_has ls 10 [(0, .ref (a v0)), (1, .int v1), (2, .ref (a v2)), (3, .int v3), (4, .ref (a v4)), (5, .int v5)] → W p l e ({ frames := 2, cells := 17, slots := 238, locals := 53 }) s m args below meth c H locs cells slots (MQ below (hQr D k ([] : va_W) a0 Hp0.length z.2 z.1 A) args s 17 238 A) (F0 m 50 ls [])) ?_ n
    intro n50 ih hih Hp v5 h a H locs cells slots hT hc hsl ls hl
    unfold mS_measures_F50 at h
    refine lv_iload C.1 C.2.1 dX1_measures_50 (lv_at hl 5 rfl) ?_
    refine lv_aload_n C.1 C.2.1 dX1_measures_52 rfl (lv_at hl 0 rfl) ?_
    refine h_get1 C hK qF_X1_15 hT.1 h dX1_measures_53 (fun x53 h => ?_)
    refine h_len4 C hK hT.1 h dX1_measures_56 (fun x56 h => ?_)
    refine k_icmp_ge (tgt := 124) C dX1_measures_57 (by decide) h (fun c57 h => ?_) (fun c57 h => ?_)
    · refine lv_aload C.1 C.2.1 dX1_measures_124 (lv_at hl 4 rfl) ?_
      refine lv_astore_n (lv' := [(2, .ref (a v4)), (0, .ref (a v0)), (1, .int v1), (3, .int v3), (4, .ref (a v4)), (5, .int v5)]) C.1 C.2.1 dX1_measures_126 rfl hl (by decide) rfl (fun ls hl => ?_)
      refine lv_iinc (v := (v3 + 1)) (lv' := [(3, .int (v3 + 1)), (2, .ref (a v4)), (0, .ref (a v0)), (1, .int v1), (4, .ref (a v4)), (5, .int v5)]) C.1 C.2.1 dX1_measures_127 hl (k := 3) rfl rfl (by decide) rfl (fun ls hl => ?_)
      refine lv_goto (tgt := 29) C.1 C.2.1 dX1_measures_130 (by decide) ?_
      exact hk Hp v4 (v3 + 1) h _ _ _ _ _ hT (by omega) (by omega) ls (lv_sub hl [2, 3, 1, 0] rfl)
    · refine lv_aload_n C.1 C.2.1 dX1_measures_60 rfl (lv_at hl 0 rfl) ?_
      refine h_get1 C hK qF_X1_15 hT.1 h dX1_measures_61 (fun x61 h => ?_)
      refine lv_iload C.1 C.2.1 dX1_measures_64 (lv_at hl 5 rfl) ?_
      refine h_ald4 C hK hT.1 h dX1_measures_66 (fun x66 h => ?_)
      refine lv_astore (lv' := [(6, .ref (a x66)), (0, .ref (a v0)), (1, .int v1), (2, .ref (a v2)), (3, .int v3), (4, .ref (a v4)), (5, .int v5)]) C.1 C.2.1 dX1_measures_67 hl (by decide) rfl (fun ls hl => ?_)
      refine lv_aload C.1 C.2.1 dX1_measures_69 (lv_at hl 0 rfl) ?_
      refine h_len3 C hK hT.1 h dX1_measures_71 (fun x71 h => ?_)
      refine lv_istore (lv' := [(7, .int x71), (6, .ref (a x66)), (0, .ref (a v0)), (1, .int v1), (2, .ref (a v2)), (3, .int v3), (4, .ref (a v4)), (5, .int v5)]) C.1 C.2.1 dX1_measures_72 hl (by decide) rfl (fun ls hl => ?_)
      refine lv_iconst (v := 0) C.1 C.2.1 dX1_measures_74 (by decide) ?_
      refine lv_istore (lv' := [(8, .int 0), (7, .int x71), (6, .ref (a x66)), (0, .ref (a v0)), (1, .int v1), (2, .ref (a v2)), (3, .int v3), (4, .ref (a v4)), (5, .int v5)]) C.1 C.2.1 dX1_measures_75 hl (by decide) rfl (fun ls hl => ?_)
      exact L77 n50 n29 v0 v1 v2 v3 v4 v5 x66 x71 ih hih 16 Hp 0 h _ _ _ _ _ hT (by omega) (by omega) ls (lv_sub hl [3, 4, 5, 6, 7, 8, 2, 1, 0] rfl)
  have L29 : ∀ (v0 : Nat) (v1 : Int32) (n : Nat) (Hp : HS) (v2 : Nat) (v3 : Int32), itr3 (mS_measures_F29 v0 v1) n Hp v2 v3 = some z → ∀ (a : Nat → Nat) (H : Heap) (locs : List Loc) (cells slots : Nat) (hT : hST D k A s ([] : va_W) a0 Hp0.length a Hp H locs) (hc : cells + n * 1 ≤ 17) (hsl : slots ≤ 14 * cells) (ls : Array Slot), lv_has ls 10 [(0, .ref (a v0)), (1, .int v1), (2, .ref (a v2)), (3, .int v3)] → W p l e ({ frames := 2, cells := 17, slots := 238, locals := 53 }) s m args below meth c H locs cells slots (MQ below (hQr D k ([] : va_W) a0 Hp0.length z.2 z.1 A) args s 17 238 A) (F0 m 29 ls []) := by
    intro v0 v1
    intro n
    refine itr3_indn (fun (n : Nat) (Hp : HS) (v2 : Nat) (v3 : Int32) => ∀ (a : Nat → Nat) (H : Heap) (locs : List Loc) (cells slots : Nat) (hT : hST D k A s ([] : va_W) a0 Hp0.length a Hp H locs) (hc : cells + n * 1 ≤ 17) (hsl : slots ≤ 14 * cells) (ls : Array Slot), lv_has ls 10 [(0, .ref (a v0)), (1, .int v1), (2, .ref (a v2)), (3, .int v3)] → W p l e ({ frames := 2, cells := 17, slots := 238, locals := 53 }) s m args below meth c H locs cells slots (MQ below (hQr D k ([] : va_W) a0 Hp0.length z.2 z.1 A) args s 17 238 A) (F0 m 29 ls [])) ?_ n
    intro n29 ih hih Hp v2 v3 h a H locs cells slots hT hc hsl ls hl
    unfold mS_measures_F29 at h
    refine lv_iload_n C.1 C.2.1 dX1_measures_29 rfl (lv_at hl 3 rfl) ?_
    refine lv_aload_n C.1 C.2.1 dX1_measures_30 rfl (lv_at hl 0 rfl) ?_
    refine h_get1 C hK qF_X1_15 hT.1 h dX1_measures_31 (fun x31 h => ?_)
    refine h_len4 C hK hT.1 h dX1_measures_34 (fun x34 h => ?_)
    refine k_icmp_gt (tgt := 133) C dX1_measures_35 (by decide) h (fun c35 h => ?_) (fun c35 h => ?_)
    · refine lv_aload_n C.1 C.2.1 dX1_measures_133 rfl (lv_at hl 2 rfl) ?_
      cases h
      exact h_aret C hr (Or.inr ⟨_, rfl⟩) hlk hT (by omega) (by omega) dX1_measures_134
    · refine lv_aload_n C.1 C.2.1 dX1_measures_38 rfl (lv_at hl 2 rfl) ?_
      refine h_clone C hK hT hA (by show _ ≤ 17; omega) (by show _ ≤ 238; omega) hB hl.1 (Nat.le_of_ble_eq_true rfl) (Nat.le_of_ble_eq_true rfl) h dX1_measures_39 dX1_measures_42 (fun Hp39 x39 a39 H h hT hag hrs => ?_)
      have hl : lv_has ls 10 [(0, .ref (a39 v0)), (1, .int v1), (2, .ref (a39 v2)), (3, .int v3)] := by
        have hl : lv_has ls 10 [(0, .ref (a v0)), (1, .int v1), (2, .ref (a v2)), (3, .int v3)] := lv_sub hl [0, 1, 2, 3] rfl
        simpa only [hag _ (hrs _ (List.mem_of_getElem? (i := 0) rfl)), hag _ (hrs _ (List.mem_of_getElem? (i := 1) rfl))] using hl
      refine lv_astore (lv' := [(4, .ref (a39 x39)), (0, .ref (a39 v0)), (1, .int v1), (2, .ref (a39 v2)), (3, .int v3)]) C.1 C.2.1 dX1_measures_45 hl (by decide) rfl (fun ls hl => ?_)
      refine lv_iconst (v := 0) C.1 C.2.1 dX1_measures_47 (by decide) ?_
      refine lv_istore (lv' := [(5, .int 0), (4, .ref (a39 x39)), (0, .ref (a39 v0)), (1, .int v1), (2, .ref (a39 v2)), (3, .int v3)]) C.1 C.2.1 dX1_measures_48 hl (by decide) rfl (fun ls hl => ?_)
      exact L50 n29 v0 v1 v2 v3 x39 ih hih 16 Hp39 0 h _ _ _ _ _ hT (by omega) (by omega) ls (lv_sub hl [2, 3, 4, 5, 1, 0] rfl)
  have L10 : ∀ (v0 : Nat) (v1 : Int32) (v2 : Nat) (n : Nat) (Hp : HS) (v3 : Int32), itr2 (mS_measures_F10 v0 v1 v2) n Hp v3 = some z → ∀ (a : Nat → Nat) (H : Heap) (locs : List Loc) (cells slots : Nat) (hT : hST D k A s ([] : va_W) a0 Hp0.length a Hp H locs) (hc : cells + 16 ≤ 17) (hsl : slots ≤ 14 * cells) (ls : Array Slot), lv_has ls 10 [(0, .ref (a v0)), (1, .int v1), (2, .ref (a v2)), (3, .int v3)] → W p l e ({ frames := 2, cells := 17, slots := 238, locals := 53 }) s m args below meth c H locs cells slots (MQ below (hQr D k ([] : va_W) a0 Hp0.length z.2 z.1 A) args s 17 238 A) (F0 m 10 ls []) := by
    intro v0 v1 v2
    intro n
    refine itr2_indn (fun (n : Nat) (Hp : HS) (v3 : Int32) => ∀ (a : Nat → Nat) (H : Heap) (locs : List Loc) (cells slots : Nat) (hT : hST D k A s ([] : va_W) a0 Hp0.length a Hp H locs) (hc : cells + 16 ≤ 17) (hsl : slots ≤ 14 * cells) (ls : Array Slot), lv_has ls 10 [(0, .ref (a v0)), (1, .int v1), (2, .ref (a v2)), (3, .int v3)] → W p l e ({ frames := 2, cells := 17, slots := 238, locals := 53 }) s m args below meth c H locs cells slots (MQ below (hQr D k ([] : va_W) a0 Hp0.length z.2 z.1 A) args s 17 238 A) (F0 m 10 ls [])) ?_ n
    intro n10 ih hih Hp v3 h a H locs cells slots hT hc hsl ls hl
    unfold mS_measures_F10 at h
    refine lv_iload_n C.1 C.2.1 dX1_measures_10 rfl (lv_at hl 3 rfl) ?_
    refine lv_aload_n C.1 C.2.1 dX1_measures_11 rfl (lv_at hl 2 rfl) ?_
    refine h_len0 C hK hT.1 h dX1_measures_12 (fun x12 h => ?_)
    refine k_icmp_ge (tgt := 27) C dX1_measures_13 (by decide) h (fun c13 h => ?_) (fun c13 h => ?_)
    · refine lv_iconst (v := 0) C.1 C.2.1 dX1_measures_27 (by decide) ?_
      refine lv_istore_n (lv' := [(3, .int 0), (0, .ref (a v0)), (1, .int v1), (2, .ref (a v2))]) C.1 C.2.1 dX1_measures_28 rfl hl (by decide) rfl (fun ls hl => ?_)
      exact L29 v0 v1 16 Hp v2 0 h _ _ _ _ _ hT (by omega) (by omega) ls (lv_sub hl [1, 2, 3, 0] rfl)
    · refine lv_aload_n C.1 C.2.1 dX1_measures_16 rfl (lv_at hl 2 rfl) ?_
      refine lv_iload_n C.1 C.2.1 dX1_measures_17 rfl (lv_at hl 3 rfl) ?_
      refine lv_ldc (v := 100000) C.1 C.2.1 C.2.2.2.1 (C.2.2.2.2 _ qc_X1_39) dX1_measures_18 ?_
      refine h_ist0 C hK hT h dX1_measures_20 (fun Hp20 H locs h hT => ?_)
      refine lv_iinc (v := (v3 + 1)) (lv' := [(3, .int (v3 + 1)), (0, .ref (a v0)), (1, .int v1), (2, .ref (a v2))]) C.1 C.2.1 dX1_measures_21 hl (k := 3) rfl rfl (by decide) rfl (fun ls hl => ?_)
      refine lv_goto (tgt := 10) C.1 C.2.1 dX1_measures_24 (by decide) ?_
      exact hih Hp20 (v3 + 1) h _ _ _ _ _ hT (by omega) (by omega) ls (lv_sub hl [1, 2, 3, 0] rfl)
  unfold mS_measures at h
  refine lv_aload_n C.1 C.2.1 dX1_measures_0 rfl (lv_at hl 0 rfl) ?_
  refine h_get1 C hK qF_X1_15 hT.1 h dX1_measures_1 (fun x1 h => ?_)
  refine h_len4 C hK hT.1 h dX1_measures_4 (fun x4 h => ?_)
  refine h_nw0 C hK hT hA (by show _ ≤ 17; omega) (by show _ ≤ 238; omega) h dX1_measures_5 (fun Hp5 x5 a5 H h hT hag hrs => ?_)
  have hl : lv_has ls 10 [(0, .ref (a5 v0)), (1, .int v1)] := by
    have hl : lv_has ls 10 [(0, .ref (a0 v0)), (1, .int v1)] := lv_sub hl [0, 1] rfl
    simpa only [hag _ (hrs _ (List.mem_of_getElem? (i := 0) rfl))] using hl
  refine lv_astore_n (lv' := [(2, .ref (a5 x5)), (0, .ref (a5 v0)), (1, .int v1)]) C.1 C.2.1 dX1_measures_7 rfl hl (by decide) rfl (fun ls hl => ?_)
  refine lv_iconst (v := 0) C.1 C.2.1 dX1_measures_8 (by decide) ?_
  refine lv_istore_n (lv' := [(3, .int 0), (2, .ref (a5 x5)), (0, .ref (a5 v0)), (1, .int v1)]) C.1 C.2.1 dX1_measures_9 rfl hl (by decide) rfl (fun ls hl => ?_)
  exact L10 v0 v1 x5 16 Hp5 0 h _ _ _ _ _ hT (by omega) (by omega) ls (lv_sub hl [2, 3, 1, 0] rfl)
set_option maxHeartbeats 8000000 in
set_option maxRecDepth 100000 in
theorem tS_on {l : Launch} {D : va_G} {k : Nat → ClassId} {a0 : Nat → Nat} {Hp0 : HS} {sz : Nat} {v0 : Nat} {v1 : Nat} {z : (Nat × HS)} (h : mS_on Hp0 v0 v1 = some z) : Met l yX1_on (Cond.code yX1_on cX1_on 12 (some (.array .boolean)) :: WW) ({ frames := 0, cells := 1, slots := 14, locals := 0 }) (va_Pc [.ref (a0 v0), .ref (a0 v1)] (hPre D k ([] : va_W) a0 Hp0 sz)) (hQr D k ([] : va_W) a0 Hp0.length z.2 z.1 (va_A (([] : va_W) ++ wH k a0 Hp0) sz)) 1 14 (va_A (([] : va_W) ++ wH k a0 Hp0) sz) := by
  refine HW_of (own := RX1) (Qc := fun A => hQr D k ([] : va_W) a0 Hp0.length z.2 z.1 A) (by decide) rfl (Nat.le_of_ble_eq_true rfl) ?_
  intro p e s m args below meth c A ha C hr hlk hnm hK hB hA hT ls hl
  have hl : lv_has ls 12 [(0, .ref (a0 v0)), (1, .ref (a0 v1))] := hl
  have L70 : ∀ (n44 n10 : Nat) (v0 : Nat) (v1 : Nat) (v2 : Nat) (v3 : Int32) (v4 : Nat) (v5 : Int32) (v6 : Int32) (v8 : Nat) (v9 : Int32) (kk : HS → Int32 → Option (Nat × HS)) (hk : ∀ (Hp : HS) (v6 : Int32), kk Hp v6 = some z → ∀ (a : Nat → Nat) (H : Heap) (locs : List Loc) (cells slots : Nat) (hT : hST D k A s ([] : va_W) a0 Hp0.length a Hp H locs) (hc : cells ≤ 1) (hsl : slots ≤ 14 * cells) (ls : Array Slot), lv_has ls 12 [(0, .ref (a v0)), (1, .ref (a v1)), (2, .ref (a v2)), (3, .int v3), (4, .ref (a v4)), (5, .int v5), (6, .int v6)] → W p l e ({ frames := 0, cells := 1, slots := 14, locals := 0 }) s m args below meth c H locs cells slots (MQ below (hQr D k ([] : va_W) a0 Hp0.length z.2 z.1 A) args s 1 14 A) (F0 m 44 ls [])) (n : Nat) (Hp : HS) (v10 : Int32), itr2 (mS_on_F70 kk v0 v1 v2 v3 v4 v5 v6 v8 v9) n Hp v10 = some z → ∀ (a : Nat → Nat) (H : Heap) (locs : List Loc) (cells slots : Nat) (hT : hST D k A s ([] : va_W) a0 Hp0.length a Hp H locs) (hc : cells ≤ 1) (hsl : slots ≤ 14 * cells) (ls : Array Slot), lv_has ls 12 [(0, .ref (a v0)), (1, .ref (a v1)), (2, .ref (a v2)), (3, .int v3), (4, .ref (a v4)), (5, .int v5), (6, .int v6), (8, .ref (a v8)), (9, .int v9), (10, .int v10)] → W p l e ({ frames := 0, cells := 1, slots := 14, locals := 0 }) s m args below meth c H locs cells slots (MQ below (hQr D k ([] : va_W) a0 Hp0.length z.2 z.1 A) args s 1 14 A) (F0 m 70 ls []) := by
    intro n44 n10 v0 v1 v2 v3 v4 v5 v6 v8 v9 kk hk
    intro n
    refine itr2_indn (fun (n : Nat) (Hp : HS) (v10 : Int32) => ∀ (a : Nat → Nat) (H : Heap) (locs : List Loc) (cells slots : Nat) (hT : hST D k A s ([] : va_W) a0 Hp0.length a Hp H locs) (hc : cells ≤ 1) (hsl : slots ≤ 14 * cells) (ls : Array Slot), lv_has ls 12 [(0, .ref (a v0)), (1, .ref (a v1)), (2, .ref (a v2)), (3, .int v3), (4, .ref (a v4)), (5, .int v5), (6, .int v6), (8, .ref (a v8)), (9, .int v9), (10, .int v10)] → W p l e ({ frames := 0, cells := 1, slots := 14, locals := 0 }) s m args below meth c H locs cells slots (MQ below (hQr D k ([] : va_W) a0 Hp0.length z.2 z.1 A) args s 1 14 A) (F0 m 70 ls [])) ?_ n
    intro n70 ih hih Hp v10 h a H locs cells slots hT hc hsl ls hl
    unfold mS_on_F70 at h
    refine lv_iload C.1 C.2.1 dX1_on_70 (lv_at hl 9 rfl) ?_
    refine lv_iload C.1 C.2.1 dX1_on_72 (lv_at hl 8 rfl) ?_
    refine k_icmp_ge (tgt := 105) C dX1_on_74 (by decide) h (fun c74 h => ?_) (fun c74 h => ?_)
    · refine lv_iinc (v := (v6 + 1)) (lv' := [(6, .int (v6 + 1)), (0, .ref (a v0)), (1, .ref (a v1)), (2, .ref (a v2)), (3, .int v3), (4, .ref (a v4)), (5, .int v5), (8, .ref (a v8)), (9, .int v9), (10, .int v10)]) C.1 C.2.1 dX1_on_105 hl (k := 6) rfl rfl (by decide) rfl (fun ls hl => ?_)
      refine lv_goto (tgt := 44) C.1 C.2.1 dX1_on_108 (by decide) ?_
      exact hk Hp (v6 + 1) h _ _ _ _ _ hT (by omega) (by omega) ls (lv_sub hl [1, 2, 3, 4, 5, 6, 0] rfl)
    · refine lv_aload C.1 C.2.1 dX1_on_77 (lv_at hl 7 rfl) ?_
      refine lv_iload C.1 C.2.1 dX1_on_79 (lv_at hl 9 rfl) ?_
      refine h_ald2 C hK hT.1 h dX1_on_81 (fun x81 h => ?_)
      refine lv_astore (lv' := [(11, .ref (a x81)), (0, .ref (a v0)), (1, .ref (a v1)), (2, .ref (a v2)), (3, .int v3), (4, .ref (a v4)), (5, .int v5), (6, .int v6), (8, .ref (a v8)), (9, .int v9), (10, .int v10)]) C.1 C.2.1 dX1_on_82 hl (by decide) rfl (fun ls hl => ?_)
      refine lv_aload C.1 C.2.1 dX1_on_84 (lv_at hl 0 rfl) ?_
      refine lv_iconst (v := 0) C.1 C.2.1 dX1_on_86 (by decide) ?_
      refine h_ild0 C hK hT.1 h dX1_on_87 (fun x87 h => ?_)
      refine lv_iconst (v := 1) C.1 C.2.1 dX1_on_88 (by decide) ?_
      refine k_icmp_ne (tgt := 99) C dX1_on_89 (by decide) h (fun c89 h => ?_) (fun c89 h => ?_)
      · refine lv_iinc (v := (v10 + 1)) (lv' := [(10, .int (v10 + 1)), (11, .ref (a x81)), (0, .ref (a v0)), (1, .ref (a v1)), (2, .ref (a v2)), (3, .int v3), (4, .ref (a v4)), (5, .int v5), (6, .int v6), (8, .ref (a v8)), (9, .int v9)]) C.1 C.2.1 dX1_on_99 hl (k := 10) rfl rfl (by decide) rfl (fun ls hl => ?_)
        refine lv_goto (tgt := 70) C.1 C.2.1 dX1_on_102 (by decide) ?_
        exact hih Hp (v10 + 1) h _ _ _ _ _ hT (by omega) (by omega) ls (lv_sub hl [2, 3, 4, 5, 6, 7, 8, 9, 10, 0] rfl)
      · refine lv_aload_n C.1 C.2.1 dX1_on_92 rfl (lv_at hl 3 rfl) ?_
        refine lv_aload C.1 C.2.1 dX1_on_93 (lv_at hl 0 rfl) ?_
        refine lv_iconst (v := 1) C.1 C.2.1 dX1_on_95 (by decide) ?_
        refine h_ild0 C hK hT.1 h dX1_on_96 (fun x96 h => ?_)
        refine lv_iconst (v := 1) C.1 C.2.1 dX1_on_97 (by decide) ?_
        refine h_ist1 C hK hT h dX1_on_98 (fun Hp98 H locs h hT => ?_)
        refine lv_iinc (v := (v10 + 1)) (lv' := [(10, .int (v10 + 1)), (11, .ref (a x81)), (0, .ref (a v0)), (1, .ref (a v1)), (2, .ref (a v2)), (3, .int v3), (4, .ref (a v4)), (5, .int v5), (6, .int v6), (8, .ref (a v8)), (9, .int v9)]) C.1 C.2.1 dX1_on_99 hl (k := 10) rfl rfl (by decide) rfl (fun ls hl => ?_)
        refine lv_goto (tgt := 70) C.1 C.2.1 dX1_on_102 (by decide) ?_
        exact hih Hp98 (v10 + 1) h _ _ _ _ _ hT (by omega) (by omega) ls (lv_sub hl [2, 3, 4, 5, 6, 7, 8, 9, 10, 0] rfl)
  have L44 : ∀ (n10 : Nat) (v0 : Nat) (v1 : Nat) (v2 : Nat) (v3 : Int32) (v4 : Nat) (v5 : Int32) (kk : HS → Int32 → Option (Nat × HS)) (hk : ∀ (Hp : HS) (v3 : Int32), kk Hp v3 = some z → ∀ (a : Nat → Nat) (H : Heap) (locs : List Loc) (cells slots : Nat) (hT : hST D k A s ([] : va_W) a0 Hp0.length a Hp H locs) (hc : cells ≤ 1) (hsl : slots ≤ 14 * cells) (ls : Array Slot), lv_has ls 12 [(0, .ref (a v0)), (1, .ref (a v1)), (2, .ref (a v2)), (3, .int v3)] → W p l e ({ frames := 0, cells := 1, slots := 14, locals := 0 }) s m args below meth c H locs cells slots (MQ below (hQr D k ([] : va_W) a0 Hp0.length z.2 z.1 A) args s 1 14 A) (F0 m 10 ls [])) (n : Nat) (Hp : HS) (v6 : Int32), itr2 (mS_on_F44 kk v0 v1 v2 v3 v4 v5) n Hp v6 = some z → ∀ (a : Nat → Nat) (H : Heap) (locs : List Loc) (cells slots : Nat) (hT : hST D k A s ([] : va_W) a0 Hp0.length a Hp H locs) (hc : cells ≤ 1) (hsl : slots ≤ 14 * cells) (ls : Array Slot), lv_has ls 12 [(0, .ref (a v0)), (1, .ref (a v1)), (2, .ref (a v2)), (3, .int v3), (4, .ref (a v4)), (5, .int v5), (6, .int v6)] → W p l e ({ frames := 0, cells := 1, slots := 14, locals := 0 }) s m args below meth c H locs cells slots (MQ below (hQr D k ([] : va_W) a0 Hp0.length z.2 z.1 A) args s 1 14 A) (F0 m 44 ls []) := by
    intro n10 v0 v1 v2 v3 v4 v5 kk hk
    intro n
    refine itr2_indn (fun (n : Nat) (Hp : HS) (v6 : Int32) => ∀ (a : Nat → Nat) (H : Heap) (locs : List Loc) (cells slots : Nat) (hT : hST D k A s ([] : va_W) a0 Hp0.length a Hp H locs) (hc : cells ≤ 1) (hsl : slots ≤ 14 * cells) (ls : Array Slot), lv_has ls 12 [(0, .ref (a v0)), (1, .ref (a v1)), (2, .ref (a v2)), (3, .int v3), (4, .ref (a v4)), (5, .int v5), (6, .int v6)] → W p l e ({ frames := 0, cells := 1, slots := 14, locals := 0 }) s m args below meth c H locs cells slots (MQ below (hQr D k ([] : va_W) a0 Hp0.length z.2 z.1 A) args s 1 14 A) (F0 m 44 ls [])) ?_ n
    intro n44 ih hih Hp v6 h a H locs cells slots hT hc hsl ls hl
    unfold mS_on_F44 at h
    refine lv_iload C.1 C.2.1 dX1_on_44 (lv_at hl 6 rfl) ?_
    refine lv_iload C.1 C.2.1 dX1_on_46 (lv_at hl 5 rfl) ?_
    refine k_icmp_ge (tgt := 111) C dX1_on_48 (by decide) h (fun c48 h => ?_) (fun c48 h => ?_)
    · refine lv_iinc (v := (v3 + 1)) (lv' := [(3, .int (v3 + 1)), (0, .ref (a v0)), (1, .ref (a v1)), (2, .ref (a v2)), (4, .ref (a v4)), (5, .int v5), (6, .int v6)]) C.1 C.2.1 dX1_on_111 hl (k := 3) rfl rfl (by decide) rfl (fun ls hl => ?_)
      refine lv_goto (tgt := 10) C.1 C.2.1 dX1_on_114 (by decide) ?_
      exact hk Hp (v3 + 1) h _ _ _ _ _ hT (by omega) (by omega) ls (lv_sub hl [1, 2, 3, 0] rfl)
    · refine lv_aload C.1 C.2.1 dX1_on_51 (lv_at hl 4 rfl) ?_
      refine lv_iload C.1 C.2.1 dX1_on_53 (lv_at hl 6 rfl) ?_
      refine h_ald3 C hK hT.1 h dX1_on_55 (fun x55 h => ?_)
      refine lv_astore (lv' := [(7, .ref (a x55)), (0, .ref (a v0)), (1, .ref (a v1)), (2, .ref (a v2)), (3, .int v3), (4, .ref (a v4)), (5, .int v5), (6, .int v6)]) C.1 C.2.1 dX1_on_56 hl (by decide) rfl (fun ls hl => ?_)
      refine lv_aload C.1 C.2.1 dX1_on_58 (lv_at hl 0 rfl) ?_
      refine lv_astore (lv' := [(8, .ref (a x55)), (7, .ref (a x55)), (0, .ref (a v0)), (1, .ref (a v1)), (2, .ref (a v2)), (3, .int v3), (4, .ref (a v4)), (5, .int v5), (6, .int v6)]) C.1 C.2.1 dX1_on_60 hl (by decide) rfl (fun ls hl => ?_)
      refine lv_aload C.1 C.2.1 dX1_on_62 (lv_at hl 0 rfl) ?_
      refine h_len2 C hK hT.1 h dX1_on_64 (fun x64 h => ?_)
      refine lv_istore (lv' := [(9, .int x64), (8, .ref (a x55)), (7, .ref (a x55)), (0, .ref (a v0)), (1, .ref (a v1)), (2, .ref (a v2)), (3, .int v3), (4, .ref (a v4)), (5, .int v5), (6, .int v6)]) C.1 C.2.1 dX1_on_65 hl (by decide) rfl (fun ls hl => ?_)
      refine lv_iconst (v := 0) C.1 C.2.1 dX1_on_67 (by decide) ?_
      refine lv_istore (lv' := [(10, .int 0), (9, .int x64), (8, .ref (a x55)), (7, .ref (a x55)), (0, .ref (a v0)), (1, .ref (a v1)), (2, .ref (a v2)), (3, .int v3), (4, .ref (a v4)), (5, .int v5), (6, .int v6)]) C.1 C.2.1 dX1_on_68 hl (by decide) rfl (fun ls hl => ?_)
      exact L70 n44 n10 v0 v1 v2 v3 v4 v5 v6 x55 x64 ih hih 16 Hp 0 h _ _ _ _ _ hT (by omega) (by omega) ls (lv_sub hl [4, 5, 6, 7, 8, 9, 10, 2, 1, 0] rfl)
  have L10 : ∀ (v0 : Nat) (v1 : Nat) (v2 : Nat) (n : Nat) (Hp : HS) (v3 : Int32), itr2 (mS_on_F10 v0 v1 v2) n Hp v3 = some z → ∀ (a : Nat → Nat) (H : Heap) (locs : List Loc) (cells slots : Nat) (hT : hST D k A s ([] : va_W) a0 Hp0.length a Hp H locs) (hc : cells ≤ 1) (hsl : slots ≤ 14 * cells) (ls : Array Slot), lv_has ls 12 [(0, .ref (a v0)), (1, .ref (a v1)), (2, .ref (a v2)), (3, .int v3)] → W p l e ({ frames := 0, cells := 1, slots := 14, locals := 0 }) s m args below meth c H locs cells slots (MQ below (hQr D k ([] : va_W) a0 Hp0.length z.2 z.1 A) args s 1 14 A) (F0 m 10 ls []) := by
    intro v0 v1 v2
    intro n
    refine itr2_indn (fun (n : Nat) (Hp : HS) (v3 : Int32) => ∀ (a : Nat → Nat) (H : Heap) (locs : List Loc) (cells slots : Nat) (hT : hST D k A s ([] : va_W) a0 Hp0.length a Hp H locs) (hc : cells ≤ 1) (hsl : slots ≤ 14 * cells) (ls : Array Slot), lv_has ls 12 [(0, .ref (a v0)), (1, .ref (a v1)), (2, .ref (a v2)), (3, .int v3)] → W p l e ({ frames := 0, cells := 1, slots := 14, locals := 0 }) s m args below meth c H locs cells slots (MQ below (hQr D k ([] : va_W) a0 Hp0.length z.2 z.1 A) args s 1 14 A) (F0 m 10 ls [])) ?_ n
    intro n10 ih hih Hp v3 h a H locs cells slots hT hc hsl ls hl
    unfold mS_on_F10 at h
    refine lv_iload_n C.1 C.2.1 dX1_on_10 rfl (lv_at hl 3 rfl) ?_
    refine lv_aload_n C.1 C.2.1 dX1_on_11 rfl (lv_at hl 0 rfl) ?_
    refine h_get1 C hK qF_X1_15 hT.1 h dX1_on_12 (fun x12 h => ?_)
    refine h_len4 C hK hT.1 h dX1_on_15 (fun x15 h => ?_)
    refine k_icmp_ge (tgt := 117) C dX1_on_16 (by decide) h (fun c16 h => ?_) (fun c16 h => ?_)
    · refine lv_aload_n C.1 C.2.1 dX1_on_117 rfl (lv_at hl 2 rfl) ?_
      cases h
      exact h_aret C hr (Or.inr ⟨_, rfl⟩) hlk hT (by omega) (by omega) dX1_on_118
    · refine lv_aload_n C.1 C.2.1 dX1_on_19 rfl (lv_at hl 1 rfl) ?_
      refine lv_iload_n C.1 C.2.1 dX1_on_20 rfl (lv_at hl 3 rfl) ?_
      refine h_ild1 C hK hT.1 h dX1_on_21 (fun x21 h => ?_)
      refine k_if_ne (tgt := 28) C dX1_on_22 (by decide) h (fun c22 h => ?_) (fun c22 h => ?_)
      · refine lv_aload_n C.1 C.2.1 dX1_on_28 rfl (lv_at hl 0 rfl) ?_
        refine h_get1 C hK qF_X1_15 hT.1 h dX1_on_29 (fun x29 h => ?_)
        refine lv_iload_n C.1 C.2.1 dX1_on_32 rfl (lv_at hl 3 rfl) ?_
        refine h_ald4 C hK hT.1 h dX1_on_33 (fun x33 h => ?_)
        refine lv_astore (lv' := [(4, .ref (a x33)), (0, .ref (a v0)), (1, .ref (a v1)), (2, .ref (a v2)), (3, .int v3)]) C.1 C.2.1 dX1_on_34 hl (by decide) rfl (fun ls hl => ?_)
        refine lv_aload C.1 C.2.1 dX1_on_36 (lv_at hl 0 rfl) ?_
        refine h_len3 C hK hT.1 h dX1_on_38 (fun x38 h => ?_)
        refine lv_istore (lv' := [(5, .int x38), (4, .ref (a x33)), (0, .ref (a v0)), (1, .ref (a v1)), (2, .ref (a v2)), (3, .int v3)]) C.1 C.2.1 dX1_on_39 hl (by decide) rfl (fun ls hl => ?_)
        refine lv_iconst (v := 0) C.1 C.2.1 dX1_on_41 (by decide) ?_
        refine lv_istore (lv' := [(6, .int 0), (5, .int x38), (4, .ref (a x33)), (0, .ref (a v0)), (1, .ref (a v1)), (2, .ref (a v2)), (3, .int v3)]) C.1 C.2.1 dX1_on_42 hl (by decide) rfl (fun ls hl => ?_)
        exact L44 n10 v0 v1 v2 v3 x33 x38 ih hih 16 Hp 0 h _ _ _ _ _ hT (by omega) (by omega) ls (lv_sub hl [3, 4, 5, 6, 2, 1, 0] rfl)
      · refine lv_goto (tgt := 111) C.1 C.2.1 dX1_on_25 (by decide) ?_
        refine lv_iinc (v := (v3 + 1)) (lv' := [(3, .int (v3 + 1)), (0, .ref (a v0)), (1, .ref (a v1)), (2, .ref (a v2))]) C.1 C.2.1 dX1_on_111 hl (k := 3) rfl rfl (by decide) rfl (fun ls hl => ?_)
        refine lv_goto (tgt := 10) C.1 C.2.1 dX1_on_114 (by decide) ?_
        exact hih Hp (v3 + 1) h _ _ _ _ _ hT (by omega) (by omega) ls (lv_sub hl [1, 2, 3, 0] rfl)
  unfold mS_on at h
  refine lv_aload_n C.1 C.2.1 dX1_on_0 rfl (lv_at hl 0 rfl) ?_
  refine h_get1 C hK qF_X1_15 hT.1 h dX1_on_1 (fun x1 h => ?_)
  refine h_len4 C hK hT.1 h dX1_on_4 (fun x4 h => ?_)
  refine h_nw1 C hK hT hA (by show _ ≤ 1; omega) (by show _ ≤ 14; omega) h dX1_on_5 (fun Hp5 x5 a5 H h hT hag hrs => ?_)
  have hl : lv_has ls 12 [(0, .ref (a5 v0)), (1, .ref (a5 v1))] := by
    have hl : lv_has ls 12 [(0, .ref (a0 v0)), (1, .ref (a0 v1))] := lv_sub hl [0, 1] rfl
    simpa only [hag _ (hrs _ (List.mem_of_getElem? (i := 0) rfl)), hag _ (hrs _ (List.mem_of_getElem? (i := 1) rfl))] using hl
  refine lv_astore_n (lv' := [(2, .ref (a5 x5)), (0, .ref (a5 v0)), (1, .ref (a5 v1))]) C.1 C.2.1 dX1_on_7 rfl hl (by decide) rfl (fun ls hl => ?_)
  refine lv_iconst (v := 0) C.1 C.2.1 dX1_on_8 (by decide) ?_
  refine lv_istore_n (lv' := [(3, .int 0), (2, .ref (a5 x5)), (0, .ref (a5 v0)), (1, .ref (a5 v1))]) C.1 C.2.1 dX1_on_9 rfl hl (by decide) rfl (fun ls hl => ?_)
  exact L10 v0 v1 x5 16 Hp5 0 h _ _ _ _ _ hT (by omega) (by omega) ls (lv_sub hl [2, 3, 1, 0] rfl)
set_option maxHeartbeats 8000000 in
set_option maxRecDepth 100000 in
theorem tS_circle {l : Launch} {D : va_G} {k : Nat → ClassId} {a0 : Nat → Nat} {Hp0 : HS} {sz : Nat} {v0 : Nat} {v1 : Int32} {z : (Int32 × HS)} (h : mS_circle Hp0 v0 v1 = some z) : Met l yX1_circle (Cond.code yX1_circle cX1_circle 4 (some .int) :: WW) ({ frames := 1, cells := 17, slots := 238, locals := 31 }) (va_Pc [.ref (a0 v0), .int v1] (hPre D k ([] : va_W) a0 Hp0 sz)) (hQi D k ([] : va_W) a0 Hp0.length z.2 z.1 (va_A (([] : va_W) ++ wH k a0 Hp0) sz)) 17 238 (va_A (([] : va_W) ++ wH k a0 Hp0) sz) := by
  refine HW_of (own := RX1) (Qc := fun A => hQi D k ([] : va_W) a0 Hp0.length z.2 z.1 A) (by decide) rfl (Nat.le_of_ble_eq_true rfl) ?_
  intro p e s m args below meth c A ha C hr hlk hnm hK hB hA hT ls hl
  have hl : lv_has ls 4 [(0, .ref (a0 v0)), (1, .int v1)] := hl
  have L14 : ∀ (v0 : Nat) (v1 : Int32) (n : Nat) (Hp : HS) (v2 : Nat) (v3 : Int32), itr3 (mS_circle_F14 v0 v1) n Hp v2 v3 = some z → ∀ (a : Nat → Nat) (H : Heap) (locs : List Loc) (cells slots : Nat) (hT : hST D k A s ([] : va_W) a0 Hp0.length a Hp H locs) (hc : cells + n * 1 ≤ 17) (hsl : slots ≤ 14 * cells) (ls : Array Slot), lv_has ls 4 [(0, .ref (a v0)), (1, .int v1), (2, .ref (a v2)), (3, .int v3)] → W p l e ({ frames := 1, cells := 17, slots := 238, locals := 31 }) s m args below meth c H locs cells slots (MQ below (hQi D k ([] : va_W) a0 Hp0.length z.2 z.1 A) args s 17 238 A) (F0 m 14 ls []) := by
    intro v0 v1
    intro n
    refine itr3_indn (fun (n : Nat) (Hp : HS) (v2 : Nat) (v3 : Int32) => ∀ (a : Nat → Nat) (H : Heap) (locs : List Loc) (cells slots : Nat) (hT : hST D k A s ([] : va_W) a0 Hp0.length a Hp H locs) (hc : cells + n * 1 ≤ 17) (hsl : slots ≤ 14 * cells) (ls : Array Slot), lv_has ls 4 [(0, .ref (a v0)), (1, .int v1), (2, .ref (a v2)), (3, .int v3)] → W p l e ({ frames := 1, cells := 17, slots := 238, locals := 31 }) s m args below meth c H locs cells slots (MQ below (hQi D k ([] : va_W) a0 Hp0.length z.2 z.1 A) args s 17 238 A) (F0 m 14 ls [])) ?_ n
    intro n14 ih hih Hp v2 v3 h a H locs cells slots hT hc hsl ls hl
    unfold mS_circle_F14 at h
    refine lv_iload_n C.1 C.2.1 dX1_circle_14 rfl (lv_at hl 3 rfl) ?_
    refine lv_aload_n C.1 C.2.1 dX1_circle_15 rfl (lv_at hl 0 rfl) ?_
    refine h_get1 C hK qF_X1_15 hT.1 h dX1_circle_16 (fun x16 h => ?_)
    refine h_len4 C hK hT.1 h dX1_circle_19 (fun x19 h => ?_)
    refine k_icmp_gt (tgt := 43) C dX1_circle_20 (by decide) h (fun c20 h => ?_) (fun c20 h => ?_)
    · refine lv_iconst (v := 0) C.1 C.2.1 dX1_circle_43 (by decide) ?_
      cases h
      exact h_iret C hr hlk hT (by omega) (by omega) dX1_circle_44
    · refine lv_aload_n C.1 C.2.1 dX1_circle_23 rfl (lv_at hl 0 rfl) ?_
      refine lv_aload_n C.1 C.2.1 dX1_circle_24 rfl (lv_at hl 2 rfl) ?_
      refine h_cVr C hK hB hA hT [.ref (a v2)] h (fun v Hp2 e => tS_on (z := (v, Hp2)) e) (cb_X1_50 C.2.2.2.2 ⟨Nat.le_of_ble_eq_true rfl, Nat.le_of_ble_eq_true rfl⟩) rfl hl.1 (Nat.le_of_ble_eq_true rfl) ⟨(by show _ ≤ 17; omega), (by show _ ≤ 238; omega)⟩ dX1_circle_25 rfl (fun x25 Hp25 a25 H locs h hT hag hrs => ?_)
      have hl : lv_has ls 4 [(0, .ref (a25 v0)), (1, .int v1), (3, .int v3)] := by
        have hl : lv_has ls 4 [(0, .ref (a v0)), (1, .int v1), (3, .int v3)] := lv_sub hl [0, 1, 3] rfl
        simpa only [hag _ (hrs _ (List.mem_of_getElem? (i := 0) rfl))] using hl
      refine lv_astore_n (lv' := [(2, .ref (a25 x25)), (0, .ref (a25 v0)), (1, .int v1), (3, .int v3)]) C.1 C.2.1 dX1_circle_28 rfl hl (by decide) rfl (fun ls hl => ?_)
      refine lv_aload_n C.1 C.2.1 dX1_circle_29 rfl (lv_at hl 0 rfl) ?_
      refine lv_iload_n C.1 C.2.1 dX1_circle_30 rfl (lv_at hl 2 rfl) ?_
      refine h_ild1 C hK hT.1 h dX1_circle_31 (fun x31 h => ?_)
      refine k_if_eq (tgt := 37) C dX1_circle_32 (by decide) h (fun c32 h => ?_) (fun c32 h => ?_)
      · refine lv_iinc (v := (v3 + 1)) (lv' := [(3, .int (v3 + 1)), (2, .ref (a25 x25)), (0, .ref (a25 v0)), (1, .int v1)]) C.1 C.2.1 dX1_circle_37 hl (k := 3) rfl rfl (by decide) rfl (fun ls hl => ?_)
        refine lv_goto (tgt := 14) C.1 C.2.1 dX1_circle_40 (by decide) ?_
        exact hih Hp25 x25 (v3 + 1) h _ _ _ _ _ hT (by omega) (by omega) ls (lv_sub hl [2, 3, 1, 0] rfl)
      · refine lv_iload_n C.1 C.2.1 dX1_circle_35 rfl (lv_at hl 3 rfl) ?_
        cases h
        exact h_iret C hr hlk hT (by omega) (by omega) dX1_circle_36
  unfold mS_circle at h
  refine lv_aload_n C.1 C.2.1 dX1_circle_0 rfl (lv_at hl 0 rfl) ?_
  refine h_get1 C hK qF_X1_15 hT.1 h dX1_circle_1 (fun x1 h => ?_)
  refine h_len4 C hK hT.1 h dX1_circle_4 (fun x4 h => ?_)
  refine h_nw1 C hK hT hA (by show _ ≤ 17; omega) (by show _ ≤ 238; omega) h dX1_circle_5 (fun Hp5 x5 a5 H h hT hag hrs => ?_)
  have hl : lv_has ls 4 [(0, .ref (a5 v0)), (1, .int v1)] := by
    have hl : lv_has ls 4 [(0, .ref (a0 v0)), (1, .int v1)] := lv_sub hl [0, 1] rfl
    simpa only [hag _ (hrs _ (List.mem_of_getElem? (i := 0) rfl))] using hl
  refine lv_astore_n (lv' := [(2, .ref (a5 x5)), (0, .ref (a5 v0)), (1, .int v1)]) C.1 C.2.1 dX1_circle_7 rfl hl (by decide) rfl (fun ls hl => ?_)
  refine lv_aload_n C.1 C.2.1 dX1_circle_8 rfl (lv_at hl 0 rfl) ?_
  refine lv_iload_n C.1 C.2.1 dX1_circle_9 rfl (lv_at hl 2 rfl) ?_
  refine lv_iconst (v := 1) C.1 C.2.1 dX1_circle_10 (by decide) ?_
  refine h_ist1 C hK hT h dX1_circle_11 (fun Hp11 H locs h hT => ?_)
  refine lv_iconst (v := 1) C.1 C.2.1 dX1_circle_12 (by decide) ?_
  refine lv_istore_n (lv' := [(3, .int 1), (2, .ref (a5 x5)), (0, .ref (a5 v0)), (1, .int v1)]) C.1 C.2.1 dX1_circle_13 rfl hl (by decide) rfl (fun ls hl => ?_)
  exact L14 v0 v1 16 Hp11 x5 1 h _ _ _ _ _ hT (by omega) (by omega) ls (lv_sub hl [2, 3, 1, 0] rfl)
end HMETS
