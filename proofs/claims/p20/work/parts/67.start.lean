set_option maxHeartbeats 4000000 in
set_option maxRecDepth 100000 in
theorem start_exc {s : State} {b : Nat} (hts : ∀ w ∈ lw_tbl, w.before #[Value.ref b] s = true) (hgv : (Jvm.Cond.and given_1 narrow_1).before #[Value.ref b] s = true) : excA (fun q : Nat => s.heap.size ≤ q) s := by
  have hs := flat_of_before _ hgv
  have hA : ∀ x : Nat, x < s.heap.size → ¬ (fun q : Nat => s.heap.size ≤ q) x := fun x h => Nat.not_le.mpr h
  refine ⟨vx_Zqof (args := #[Value.ref b]) (hts _ (List.mem_append_right _ (List.mem_append_left _ (List.mem_of_getElem? (i := 104) rfl)))) (hts _ (List.mem_append_right _ (List.mem_append_left _ (List.mem_of_getElem? (i := 3) rfl)))) (hs _ (by decide +kernel)) hA, vx_Zqof (args := #[Value.ref b]) (hts _ (List.mem_append_right _ (List.mem_append_left _ (List.mem_of_getElem? (i := 106) rfl)))) (hts _ (List.mem_append_right _ (List.mem_append_left _ (List.mem_of_getElem? (i := 3) rfl)))) (hs _ (by decide +kernel)) hA, ?_, ?_, ?_, ?_⟩
  · intro q hq
    simp only [strL, List.mem_cons, List.not_mem_nil, or_false] at hq
    rcases hq with rfl | rfl | rfl | rfl | rfl | rfl | rfl | rfl | rfl | rfl | rfl | rfl
    · obtain ⟨a, c, cA, kA, q1, -⟩ := Cond.exactly_spec (args := #[Value.ref b]) (first := s) (o := none) (s := s) (idx := []) (t := .string "LodgeProofs" 163) (cls := "java/lang/String") (hs (Cond.exactly (.string "LodgeProofs" 163) "java/lang/String") (by decide +kernel))
      exact ⟨a, vk_R.of (hts _ (List.mem_append_right _ (List.mem_append_left _ (List.mem_of_getElem? (i := 118) rfl)))) q1⟩
    · obtain ⟨a, c, cA, kA, q1, -⟩ := Cond.exactly_spec (args := #[Value.ref b]) (first := s) (o := none) (s := s) (idx := []) (t := .string "LodgeProofs" 169) (cls := "java/lang/String") (hs (Cond.exactly (.string "LodgeProofs" 169) "java/lang/String") (by decide +kernel))
      exact ⟨a, vk_R.of (hts _ (List.mem_append_right _ (List.mem_append_left _ (List.mem_of_getElem? (i := 236) rfl)))) q1⟩
    · obtain ⟨a, c, cA, kA, q1, -⟩ := Cond.exactly_spec (args := #[Value.ref b]) (first := s) (o := none) (s := s) (idx := []) (t := .string "LodgeProofs" 171) (cls := "java/lang/String") (hs (Cond.exactly (.string "LodgeProofs" 171) "java/lang/String") (by decide +kernel))
      exact ⟨a, vk_R.of (hts _ (List.mem_append_right _ (List.mem_append_left _ (List.mem_of_getElem? (i := 237) rfl)))) q1⟩
    · obtain ⟨a, c, cA, kA, q1, -⟩ := Cond.exactly_spec (args := #[Value.ref b]) (first := s) (o := none) (s := s) (idx := []) (t := .string "LodgeProofs" 173) (cls := "java/lang/String") (hs (Cond.exactly (.string "LodgeProofs" 173) "java/lang/String") (by decide +kernel))
      exact ⟨a, vk_R.of (hts _ (List.mem_append_right _ (List.mem_append_left _ (List.mem_of_getElem? (i := 238) rfl)))) q1⟩
    · obtain ⟨a, c, cA, kA, q1, -⟩ := Cond.exactly_spec (args := #[Value.ref b]) (first := s) (o := none) (s := s) (idx := []) (t := .string "LodgeProofs" 96) (cls := "java/lang/String") (hs (Cond.exactly (.string "LodgeProofs" 96) "java/lang/String") (by decide +kernel))
      exact ⟨a, vk_R.of (hts _ (List.mem_append_right _ (List.mem_append_right _ (List.mem_append_left _ (List.mem_of_getElem? (i := 8) rfl))))) q1⟩
    · obtain ⟨a, c, cA, kA, q1, -⟩ := Cond.exactly_spec (args := #[Value.ref b]) (first := s) (o := none) (s := s) (idx := []) (t := .string "LodgeProofs" 103) (cls := "java/lang/String") (hs (Cond.exactly (.string "LodgeProofs" 103) "java/lang/String") (by decide +kernel))
      exact ⟨a, vk_R.of (hts _ (List.mem_append_right _ (List.mem_append_right _ (List.mem_append_left _ (List.mem_of_getElem? (i := 27) rfl))))) q1⟩
    · obtain ⟨a, c, cA, kA, q1, -⟩ := Cond.exactly_spec (args := #[Value.ref b]) (first := s) (o := none) (s := s) (idx := []) (t := .string "LodgeProofs" 179) (cls := "java/lang/String") (hs (Cond.exactly (.string "LodgeProofs" 179) "java/lang/String") (by decide +kernel))
      exact ⟨a, vk_R.of (hts _ (List.mem_append_right _ (List.mem_append_right _ (List.mem_append_left _ (List.mem_of_getElem? (i := 48) rfl))))) q1⟩
    · obtain ⟨a, c, cA, kA, q1, -⟩ := Cond.exactly_spec (args := #[Value.ref b]) (first := s) (o := none) (s := s) (idx := []) (t := .string "LodgeProofs" 63) (cls := "java/lang/String") (hs (Cond.exactly (.string "LodgeProofs" 63) "java/lang/String") (by decide +kernel))
      exact ⟨a, vk_R.of (hts _ (List.mem_append_right _ (List.mem_append_right _ (List.mem_append_left _ (List.mem_of_getElem? (i := 203) rfl))))) q1⟩
    · obtain ⟨a, c, cA, kA, q1, -⟩ := Cond.exactly_spec (args := #[Value.ref b]) (first := s) (o := none) (s := s) (idx := []) (t := .string "LodgeProofs" 71) (cls := "java/lang/String") (hs (Cond.exactly (.string "LodgeProofs" 71) "java/lang/String") (by decide +kernel))
      exact ⟨a, vk_R.of (hts _ (List.mem_append_right _ (List.mem_append_right _ (List.mem_append_left _ (List.mem_of_getElem? (i := 213) rfl))))) q1⟩
    · obtain ⟨a, c, cA, kA, q1, -⟩ := Cond.exactly_spec (args := #[Value.ref b]) (first := s) (o := none) (s := s) (idx := []) (t := .string "LodgeProofs" 175) (cls := "java/lang/String") (hs (Cond.exactly (.string "LodgeProofs" 175) "java/lang/String") (by decide +kernel))
      exact ⟨a, vk_R.of (hts _ (List.mem_append_right _ (List.mem_append_right _ (List.mem_append_left _ (List.mem_of_getElem? (i := 238) rfl))))) q1⟩
    · obtain ⟨a, c, cA, kA, q1, -⟩ := Cond.exactly_spec (args := #[Value.ref b]) (first := s) (o := none) (s := s) (idx := []) (t := .string "LodgeProofs" 177) (cls := "java/lang/String") (hs (Cond.exactly (.string "LodgeProofs" 177) "java/lang/String") (by decide +kernel))
      exact ⟨a, vk_R.of (hts _ (List.mem_append_right _ (List.mem_append_right _ (List.mem_append_left _ (List.mem_of_getElem? (i := 239) rfl))))) q1⟩
    · obtain ⟨a, c, cA, kA, q1, -⟩ := Cond.exactly_spec (args := #[Value.ref b]) (first := s) (o := none) (s := s) (idx := []) (t := .string "LodgeProofs" 84) (cls := "java/lang/String") (hs (Cond.exactly (.string "LodgeProofs" 84) "java/lang/String") (by decide +kernel))
      exact ⟨a, vk_R.of (hts _ (List.mem_append_right _ (List.mem_append_right _ (List.mem_append_right _ (List.mem_of_getElem? (i := 0) rfl))))) q1⟩
  · intro E hE
    simp only [exL, List.mem_cons, List.not_mem_nil, or_false] at hE
    rcases hE with rfl | rfl | rfl
    · exact va_Nw.of rfl (hts _ qX_IndexOutOfBoundsException)
    · exact va_Nw.of rfl (hts _ qX_IllegalStateException)
    · exact va_Nw.of rfl (hts _ qX_IllegalArgumentException)
  · intro y hy
    simp only [dcL, List.mem_cons, List.not_mem_nil, or_false] at hy
    rcases hy with rfl | rfl | rfl
    · exact va_Nw.of rfl (hts _ (List.mem_append_right _ (List.mem_append_left _ (List.mem_of_getElem? (i := 81) rfl))))
    · exact va_Nw.of rfl (hts _ (List.mem_append_right _ (List.mem_append_left _ (List.mem_of_getElem? (i := 83) rfl))))
    · exact va_Nw.of rfl (hts _ (List.mem_append_right _ (List.mem_append_left _ (List.mem_of_getElem? (i := 85) rfl))))
  · intro E hE T hT hne
    simp only [exL, List.mem_cons, List.not_mem_nil, or_false] at hE hT
    subst hT
    rcases hE with rfl | rfl | rfl
    · exact va_Nc.of (hs (Cond.not (.castable "java/lang/IndexOutOfBoundsException" "java/lang/IllegalStateException")) (by decide +kernel))
    · exact absurd rfl hne
    · exact va_Nc.of (hs (Cond.not (.castable "java/lang/IllegalArgumentException" "java/lang/IllegalStateException")) (by decide +kernel))
theorem fl_off {l : Launch} (h : l.flags = flags0) : l.stackTraces = false := by
  unfold Launch.stackTraces
  rw [h]
  decide +kernel
theorem cw_L_77 {s : State} {args : Array Value} (h : ∀ w ∈ WW, w.before args s = true) : CallB room_1 s args RL 77 yX0_init cX0_init 2 none (Cond.code yX0_init cX0_init 2 none :: WW) ({ frames := 1, cells := 13, slots := 845, locals := 60 }) 13 845 0 ∧ yX0_init.name = "<init>" ∧ (Cond.instanceMethod yX0_init).before args s = true := cwI 0 h (gdI qC_X0_init) rfl rfl rfl (h _ qN_X0) (h _ qM_L_77) (h _ qI_X0_init) rfl (by decide +kernel) ⟨Nat.le_of_ble_eq_true rfl, Nat.le_of_ble_eq_true rfl⟩
theorem arrO_known {s : State} {t : FieldType} (h : (Cond.arrayOver (.array t)).before #[] s = true) : ∃ cA, ArrOfT s cA (.array t) ∧ va_RA s cA (.array t) := by
  obtain ⟨comp, c, kA, h1, h2, h3, h4, h5⟩ := arrayOverA_spec h
  exact ⟨c, fun n z => ⟨fun k h => (by cases h), kA, h3, comp, h4⟩, h5⟩
set_option maxHeartbeats 4000000 in
set_option maxRecDepth 100000 in
theorem whole_start {p : Program} {e : Env} {s : State} {m : MethodId} {below : List Frame} {meth : Method} {c : Code} (l : Launch) (hflags : l.flags = flags0) {b L : Nat} {xs : Nat → Int32} (hL : L ≤ 260) (C0 : lw_At p s m meth c b L xs) : W p l e room_1 s m #[Value.ref b] below meth c s.heap [] 0 0 (lw_Z below #[Value.ref b] s) (entryFrame m ([Value.ref b] : List Value).toArray 21) := by
  obtain ⟨hx, hb, hr, hml, hown, hts, hX, hbl, hlocks, hgv⟩ := id C0
  have hfl := fl_off hflags
  have hE := start_exc hts hgv
  have hBX0 := hBX_of hts
  have hW : ∀ w ∈ WW, w.before #[Value.ref b] s = true := fun w h => hts w (WW_in w h)
  have C : CallFix p m c cL_law 21 s #[Value.ref b] WW RL := ⟨hx, hb, hml, hown, hW⟩
  have hA : ∀ q : Nat, s.heap.size ≤ q → (fun q : Nat => s.heap.size ≤ q) q := fun _ h => h
  obtain ⟨c0, iS0, hKn0⟩ := u_known (C := RX0) (T := TX0) (N := 15) (n := 15) hW inWX0 (hW _ qB_X0)
  obtain ⟨c1, iS1, hKn1⟩ := u_known (C := RX1) (T := TX1) (N := 2) (n := 2) hW inWX1 (hW _ qB_X1)
  obtain ⟨cI, aI1, aI2⟩ := arr_known (s := s) (hW _ qA_int) (fun cA h => h)
  obtain ⟨cZ, aZ1, aZ2⟩ := arr_known (s := s) (hW _ qA_boolean) (fun cA h => h)
  obtain ⟨c2, a21, a22⟩ := arrO_known (hBX0.1 .int (List.mem_of_getElem? (i := 0) rfl))
  obtain ⟨c3, a31, a32⟩ := arrO_known (hBX0.1 (.array .int) (List.mem_of_getElem? (i := 1) rfl))
  obtain ⟨c4, a41, a42⟩ := arrO_known (hBX0.1 (.array (.array .int)) (List.mem_of_getElem? (i := 2) rfl))
  obtain ⟨D, hKc⟩ : ∃ D : va_G, ∀ (k : Nat) (q : vw_C), vwCl[k]? = some q → u_Kn s q.1 q.2.1 q.2.2 (D.1 k) (D.2 k) := by
    refine ⟨(fun k => if k = 0 then c0 else c1, fun k => if k = 0 then iS0 else iS1), ?_⟩
    intro k q hq
    match k, hq with
    | 0, hq => cases hq; exact hKn0
    | 1, hq => cases hq; exact hKn1
    | k + 2, hq => simp [vwCl] at hq
  obtain ⟨k, hk0, hk1, hk2, hk3, hk4⟩ : ∃ k : Nat → ClassId, k 0 = cI ∧ k 1 = cZ ∧ k 2 = c2 ∧ k 3 = c3 ∧ k 4 = c4 := ⟨fun j => if j = 0 then cI else if j = 1 then cZ else if j = 2 then c2 else if j = 3 then c3 else c4, rfl, rfl, rfl, rfl, rfl⟩
  subst hk0 hk1 hk2 hk3 hk4
  have hK : va_K D vwCl (tyH k) s := by
    refine ⟨hKc, fun j q h => ?_⟩
    match j, h with
    | 0, h => cases h; exact ⟨aI1, aI2⟩
    | 1, h => cases h; exact ⟨aZ1, aZ2⟩
    | 2, h => cases h; exact ⟨a21, a22⟩
    | 3, h => cases h; exact ⟨a31, a32⟩
    | 4, h => cases h; exact ⟨a41, a42⟩
    | j + 5, h => simp at h
  have hK2 : va_K D vwCl (tyIZ (k 0) (k 1)) s := hK.sub [0, 1] rfl
  obtain ⟨S, hF1, eX⟩ := mX_fresh
  have hS : va_S (fun q : Nat => s.heap.size ≤ q) s.heap s.heap [] := va_S.rf
  have hP : va_P D vwCl [] s.heap := fun k q h => by simp at h
  have hD : va_D (fun q : Nat => s.heap.size ≤ q) [] := ⟨fun i j p q h => by simp at h, fun k q h => by simp at h⟩
  have hl := lv_entry ([.ref b]) (n := 21) (Nat.le_of_ble_eq_true rfl)
  rw [lg_entry_eq]
  generalize (lg_sl ([.ref b]) ++ List.replicate (21 - (lg_sl ([.ref b])).length) Slot.unset).toArray = ls at hl ⊢
  have hl : lv_has ls 21 [(0, .ref b)] := hl
  refine va_new (ci := 0) (fs := [.null, .int 0, .null, .null, .null, .null, .null, .null, .int 0, .null, .null, .null, .null, .null, .null]) (C := RX0) (T := TX0) (N := 15) C.1 C.2.1 C.2.2.2.2 inWX0 tyX0 tyX0_ok C.2.2.2.1 (hW _ qK_L_26) (hW _ qB_X0) (hW _ qN_X0) hK2 hP hD hS hA rfl (fun j hj => by rcases (show j = 0 ∨ j = 1 ∨ j = 2 ∨ j = 3 ∨ j = 4 ∨ j = 5 ∨ j = 6 ∨ j = 7 ∨ j = 8 ∨ j = 9 ∨ j = 10 ∨ j = 11 ∨ j = 12 ∨ j = 13 ∨ j = 14 by omega) with rfl | rfl | rfl | rfl | rfl | rfl | rfl | rfl | rfl | rfl | rfl | rfl | rfl | rfl | rfl <;> rfl) (Nat.le_of_ble_eq_true rfl) (Nat.le_of_ble_eq_true rfl) dL_law_0 (fun hx0 H hP hD hS => ?_)
  refine W.widen (k := 1) (n := 15) (Nat.le_of_ble_eq_true rfl) (Nat.le_of_ble_eq_true rfl) ?_
  have hP : va_P D vwCl [(hx0, .inr (0, [.null, .int 0, .null, .null, .null, .null, .null, .null, .int 0, .null, .null, .null, .null, .null, .null]))] H := hP
  have hD : va_D (fun q : Nat => s.heap.size ≤ q) [(hx0, .inr (0, [.null, .int 0, .null, .null, .null, .null, .null, .null, .int 0, .null, .null, .null, .null, .null, .null]))] := hD
  refine lv_dup C.1 C.2.1 dL_law_3 rfl ?_
  have hF := A_sub hD hS hA
  refine va_callv (va_runI (As := []) (rest := [.ref hx0]) C (tX0_init (l := l) (D := D) (cI := k 0) (cZ := k 1) (h0 := hx0) (sz := H.size) eX) (cw_L_77 C.2.2.2.2) ⟨rwP_blind, fun U hU hW => ⟨rfl, by rw [hU], by rw [hU]; exact hP, hK2.moved hW.alike, hD.weaken (fun _ _ _ _ => trivial)⟩⟩ rfl rfl hl.1 rfl (lv_room (Nat.le_of_ble_eq_true rfl)) dL_law_4 ⟨Nat.le_of_ble_eq_true rfl, Nat.le_of_ble_eq_true rfl⟩) hS (fun q _ h => hF q h) hF (fun ax t H1 locs ht _ ha0 hB _ hk1 hS => ?_)
  obtain ⟨hPX, hDX⟩ := hB
  rw [ht] at hPX
  have hDX : va_D (fun q : Nat => s.heap.size ≤ q) (wXk k ax S) := hDX.weaken (fun _ _ _ h => hF _ h)
  clear hP hD hF hk1
  generalize H1 = H at hPX hS ⊢
  refine W.widen (k := 14) (n := 860) (Nat.le_of_ble_eq_true rfl) (Nat.le_of_ble_eq_true rfl) ?_
  refine lv_astore_n (lv' := [(1, .ref hx0), (0, .ref b)]) C.1 C.2.1 dL_law_7 rfl hl (by decide) rfl (fun ls hl => ?_)
  have hl := lv_sub hl [1, 0] rfl
  rw [← ha0] at hl
  have hT : hST D k (fun q : Nat => s.heap.size ≤ q) s (wXk k ax S) (fun _ => 0) 0 (fun _ => 0) [] H locs := by
    refine ⟨?_, ?_, hS, fun r c h => by simp at h, fun j hj => absurd hj (Nat.not_lt_zero _), Nat.le_refl _⟩
    · show va_P D vwCl (wXk k ax S ++ []) H
      rw [List.append_nil]
      exact hPX
    · show va_D _ (wXk k ax S ++ [])
      rw [List.append_nil]
      exact hDX
  exact law_body hfl hL C hr hlocks hX hbl hK hBX0 hA (Nat.not_le.mpr hbl) (fun _ h => h) hE S [] (law_J8 hF1.si (Nat.le_trans hL (by omega))) (fun _ => 0) H locs 14 860 hT (by omega) (by omega) ls hl
