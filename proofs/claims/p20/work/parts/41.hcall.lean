section HCALL
variable {p : Program} {l : Launch} {e : Env} {R : Room} {s : State} {m : MethodId} {args : Array Value} {below : List Frame} {meth : Method} {c : Code} {H : Heap} {locs : List Loc} {cells slots : Nat} {Q : State → Prop}
variable {pc nL : Nat} {ls : Array Slot} {rest : List Value} {cc : ByteArray} {own : String} {D : va_G} {A : Nat → Prop} {H0 : Heap} {ρ : Type} {z : ρ} {k : Nat → ClassId} {a a0 : Nat → Nat} {n0 : Nat} {wr : va_W} {Hp : HS}
theorem P_left {D : va_G} {cl : List vw_C} {w1 w2 : va_W} {H : Heap} (h : va_P D cl (w1 ++ w2) H) : va_P D cl w1 H := fun k x hx => h k x (by rw [List.getElem?_append_left (List.getElem?_eq_some_iff.mp hx).1]; exact hx)
theorem P_right {D : va_G} {cl : List vw_C} {w1 w2 : va_W} {H : Heap} (h : va_P D cl (w1 ++ w2) H) : va_P D cl w2 H := fun k x hx => h (w1.length + k) x (by rw [List.getElem?_append_right (Nat.le_add_right _ _), Nat.add_sub_cancel_left]; exact hx)
theorem D_left {A : Nat → Prop} {w1 w2 : va_W} (h : va_D A (w1 ++ w2)) : va_D A w1 := ⟨fun i j p q hp hq e => h.1 i j p q (by rw [List.getElem?_append_left (List.getElem?_eq_some_iff.mp hp).1]; exact hp) (by rw [List.getElem?_append_left (List.getElem?_eq_some_iff.mp hq).1]; exact hq) e, fun k q hk => h.2 k q (by rw [List.getElem?_append_left (List.getElem?_eq_some_iff.mp hk).1]; exact hk)⟩
theorem D_right {A : Nat → Prop} {w1 w2 : va_W} (h : va_D A (w1 ++ w2)) : va_D A w2 := by
  have g : ∀ (i : Nat) (x : Nat × va_E), w2[i]? = some x → (w1 ++ w2)[w1.length + i]? = some x := fun i x hx => by rw [List.getElem?_append_right (Nat.le_add_right _ _), Nat.add_sub_cancel_left]; exact hx
  refine ⟨fun i j p q hp hq e => ?_, fun k q hk => h.2 _ q (g k q hk)⟩
  have := h.1 _ _ p q (g i p hp) (g j q hq) e
  omega
def Dis (w1 w2 : va_W) : Prop := ∀ (i j : Nat) (x y : Nat × va_E), w1[i]? = some x → w2[j]? = some y → x.1 ≠ y.1
theorem Dis.symm {w1 w2 : va_W} (h : Dis w1 w2) : Dis w2 w1 := fun i j x y hx hy e => h j i y x hy hx e.symm
theorem D_dis {A : Nat → Prop} {w1 w2 : va_W} (h : va_D A (w1 ++ w2)) : Dis w1 w2 := by
  intro i j x y hx hy e
  have hi : i < w1.length := (List.getElem?_eq_some_iff.mp hx).1
  have h1 : (w1 ++ w2)[i]? = some x := by rw [List.getElem?_append_left hi]; exact hx
  have h2 : (w1 ++ w2)[w1.length + j]? = some y := by rw [List.getElem?_append_right (Nat.le_add_right _ _), Nat.add_sub_cancel_left]; exact hy
  have := h.1 i (w1.length + j) x y h1 h2 e
  omega
theorem P_keep {D : va_G} {cl : List vw_C} {w1 w2 : va_W} {H H1 : Heap} (h : va_P D cl w2 H) (hd : Dis w1 w2) (hk : ∀ x : Nat, x < H.size → ¬ va_A w1 H.size x → H1[x]? = H[x]?) : va_P D cl w2 H1 := by
  intro k x hx
  have h0 := h k x hx
  refine h0.kept (hk x.1 h0.lt (fun hA => ?_))
  rcases hA with ⟨i, e, hi⟩ | hA
  · exact hd i k _ x hi hx rfl
  · exact absurd h0.lt (Nat.not_lt.mpr hA)
theorem P_old {D : va_G} {cl : List vw_C} {w : va_W} {H H1 : Heap} (h : va_P D cl w H) (hk : ∀ x : Nat, x < H.size → H1[x]? = H[x]?) : va_P D cl w H1 := fun k x hx => (h k x hx).kept (hk x.1 (h k x hx).lt)
/-- contracts over the pure heap -/
def hPre (D : va_G) (k : Nat → ClassId) (wr : va_W) (a : Nat → Nat) (Hp : HS) (sz : Nat) (U : State) : Prop := U.heap.size = sz ∧ va_P D vwCl (wr ++ wH k a Hp) U.heap ∧ va_K D vwCl (tyH k) U ∧ hBX U ∧ va_D (fun _ => True) (wr ++ wH k a Hp) ∧ wfH Hp
def hEnd (D : va_G) (k : Nat → ClassId) (w2 : va_W) (a0 : Nat → Nat) (n0 : Nat) (Hp2 : HS) (A : Nat → Prop) (a1 : Nat → Nat) (t : State) : Prop := va_P D vwCl (w2 ++ wH k a1 Hp2) t.heap ∧ va_D A (w2 ++ wH k a1 Hp2) ∧ wfH Hp2 ∧ (∀ j, j < n0 → a1 j = a0 j) ∧ n0 ≤ Hp2.length
abbrev hQi (D : va_G) (k : Nat → ClassId) (w2 : va_W) (a0 : Nat → Nat) (n0 : Nat) (Hp2 : HS) (v : Int32) (A : Nat → Prop) : Array Value → State → Outcome → State → Prop := va_Qi (fun (r : Int32) (_ : Nat → Nat) => r = v) (fun a1 t => hEnd D k w2 a0 n0 Hp2 A a1 t) A
abbrev hQv (D : va_G) (k : Nat → ClassId) (w2 : va_W) (a0 : Nat → Nat) (n0 : Nat) (Hp2 : HS) (A : Nat → Prop) : Array Value → State → Outcome → State → Prop := va_Qv (fun (_ : Nat → Nat) => True) (fun a1 t => hEnd D k w2 a0 n0 Hp2 A a1 t) A
abbrev hQr (D : va_G) (k : Nat → ClassId) (w2 : va_W) (a0 : Nat → Nat) (n0 : Nat) (Hp2 : HS) (r : Nat) (A : Nat → Prop) : Array Value → State → Outcome → State → Prop := va_Qr (fun (_ : Nat → Nat) => True) (fun a1 ra t => ra = a1 r ∧ hEnd D k w2 a0 n0 Hp2 A a1 t) A
theorem hPre_calling {sz : Nat} {U : State} {g : JFrame} {mk : MethodId} {av : Array Value} (h : hPre D k wr a Hp sz U) : hPre D k wr a Hp sz (U.calling g mk av) := by
  obtain ⟨h1, h2, h3, h4, h5, h6⟩ := h
  exact ⟨h1, h2, va_K.moved (u := U) (U := U.calling g mk av) (Vm.Alike.refl U.vm) h3, hBX_calling h4, h5, h6⟩
theorem hPre_blind {sz : Nat} {av : List Value} : FrameBlind (va_Pc av (hPre D k wr a Hp sz)) := fun b U g mk q => ⟨q.1, hPre_calling q.2⟩
theorem hPre_now {wc : va_W} {U : State} (hP : va_P D vwCl (wc ++ wH k a Hp) H) (hK : va_K D vwCl (tyH k) s) (hB : hBX s) (hD : va_D A (wc ++ wH k a Hp)) (hw : wfH Hp) (hU : U.heap = H) (hW : s.WarmedH U.vm) : hPre D k wc a Hp H.size U :=
  ⟨by rw [hU], by rw [hU]; exact hP, hK.moved hW.alike, hBX_warm hW hB, hD.weaken (fun _ _ _ _ => trivial), hw⟩
theorem hST_start {sz : Nat} (h : hPre D k wr a Hp sz s) : hST D k (va_A (wr ++ wH k a Hp) sz) s wr a Hp.length a Hp s.heap [] := by
  obtain ⟨h1, h2, h3, h4, h5, h6⟩ := h
  subst h1
  exact ⟨h2, h5.self, va_S.rf, h6, fun _ _ => rfl, Nat.le_refl _⟩
theorem HW_of {y : MethodName} {b : ByteArray} {mL : Nat} {ret : Option FieldType} {rm : Room} {sz : Nat} {av : List Value} {Qc : (Nat → Prop) → Array Value → State → Outcome → State → Prop} {mc ms : Nat} (hy : plainName y.cls = true) (ho : y.cls = own) (hn : (lg_sl av).length ≤ mL)
    (body : ∀ p e s m args below meth c A, args = av.toArray → CallFix p m c b mL s args WW own → meth.sig.returnType = ret → meth.locks = false → meth.name = y.name → va_K D vwCl (tyH k) s → hBX s → (∀ q, s.heap.size ≤ q → A q) → hST D k A s wr a Hp.length a Hp s.heap [] → ∀ ls : Array Slot, lv_has ls mL (lv_args 0 av) →
      W p l e rm s m args below meth c s.heap [] 0 0 (MQ below (Qc A) args s mc ms A) (F0 m 0 ls [])) : Met l y (Cond.code y b mL ret :: WW) rm (va_Pc av (hPre D k wr a Hp sz)) (Qc (va_A (wr ++ wH k a Hp) sz)) mc ms (va_A (wr ++ wH k a Hp) sz) := by
  refine Met.ofW (cc := b) (maxL := mL) (ret := ret) hy rfl ?_
  intro p e s m args below meth c s₁ B hml hv
  obtain ⟨rfl, hpre⟩ := hv
  have hts := atoms_spec (ws := Cond.code y b mL ret :: WW) B.pre
  have hl := lv_entry av hn
  rw [lg_entry_eq]
  have hT := hST_start hpre
  obtain ⟨h1, h2, h3, h4, h5, h6⟩ := hpre
  subst h1
  exact body p e s m _ below meth c _ rfl ⟨B.exec, B.bytes, hml, ho ▸ findClass_of_methodNamed B.named, fun w h => hts w (List.mem_cons_of_mem _ h)⟩ B.returns B.notSynchronized (name_of_methodNamed B.named B.method).1 h3 h4 (fun q h => Or.inr h) hT _ hl
/-- ends -/
theorem hST_end {t : State} (hT : hST D k A s wr a0 n0 a Hp H locs) (ht : t.heap = H) : hEnd D k wr a0 n0 Hp A a t := by
  obtain ⟨h1, h2, h3, h4, h5, h6⟩ := hT
  exact ⟨by rw [ht]; exact h1, h2, h4, h5, h6⟩
theorem h_iret (C : CallFix p m c cc nL s args WW own) (hr : meth.sig.returnType = some .int) (hlocks : meth.locks = false) (hT : hST D k A s wr a0 n0 a Hp H locs) {mc ms : Nat} (h1 : cells ≤ mc) (h2 : slots ≤ ms) {v : Int32} (hdg : decode cc pc = .ok (.ireturn, 1)) :
    W p l e R s m args below meth c H locs cells slots (MQ below (hQi D k wr a0 n0 Hp v A) args s mc ms A) (F0 m pc ls [.int v]) := by
  refine W.widen h1 h2 ?_
  exact W.iret (v := v) C.1 C.2.1 hr (fun t ht _ => ⟨⟨v, a, rfl, rfl, hST_end hT ht⟩, hT.2.2.1.F ht⟩) hT.2.2.1.2.2 hdg hlocks
theorem h_zret (C : CallFix p m c cc nL s args WW own) (hr : meth.sig.returnType = some .boolean) (hlocks : meth.locks = false) (hT : hST D k A s wr a0 n0 a Hp H locs) {mc ms : Nat} (h1 : cells ≤ mc) (h2 : slots ≤ ms) {v : Int32} (hg : v &&& 1 = v) (hdg : decode cc pc = .ok (.ireturn, 1)) :
    W p l e R s m args below meth c H locs cells slots (MQ below (hQi D k wr a0 n0 Hp v A) args s mc ms A) (F0 m pc ls [.int v]) := by
  refine W.widen h1 h2 ?_
  exact W.zret (v := v) C.1 C.2.1 hr (by show Value.int (v &&& 1) = _; rw [hg]) (fun t ht _ => ⟨⟨v, a, rfl, rfl, hST_end hT ht⟩, hT.2.2.1.F ht⟩) hT.2.2.1.2.2 hdg hlocks
theorem h_vret (C : CallFix p m c cc nL s args WW own) (hr : meth.sig.returnType = none) (hlocks : meth.locks = false) (hT : hST D k A s wr a0 n0 a Hp H locs) {mc ms : Nat} (h1 : cells ≤ mc) (h2 : slots ≤ ms) (hdg : decode cc pc = .ok (.return_, 1)) :
    W p l e R s m args below meth c H locs cells slots (MQ below (hQv D k wr a0 n0 Hp A) args s mc ms A) (F0 m pc ls []) := by
  refine W.widen h1 h2 ?_
  exact W.vret C.1 C.2.1 hr (fun t ht _ => ⟨⟨a, rfl, trivial, hST_end hT ht⟩, hT.2.2.1.F ht⟩) hT.2.2.1.2.2 hdg hlocks
theorem h_aret (C : CallFix p m c cc nL s args WW own) {rt : FieldType} (hr : meth.sig.returnType = some rt) (hrt : (∃ n, rt = .object n) ∨ ∃ t, rt = .array t) (hlocks : meth.locks = false) (hT : hST D k A s wr a0 n0 a Hp H locs) {mc ms : Nat} (h1 : cells ≤ mc) (h2 : slots ≤ ms) {r : Nat} (hdg : decode cc pc = .ok (.areturn, 1)) :
    W p l e R s m args below meth c H locs cells slots (MQ below (hQr D k wr a0 n0 Hp r A) args s mc ms A) (F0 m pc ls [.ref (a r)]) := by
  refine W.widen h1 h2 ?_
  exact W.aret (v := .ref (a r)) C.1 C.2.1 hr hrt (Or.inr ⟨_, rfl⟩) (fun t ht _ => ⟨⟨a, a r, rfl, trivial, rfl, hST_end hT ht⟩, hT.2.2.1.F ht⟩) hT.2.2.1.2.2 hdg hlocks
/-- behind a call over the pure heap alone: the frame's world is as it was -/
theorem hST_fr {Hp2 : HS} {a1 : Nat → Nat} {t : State} {H1 : Heap} {locs1 : List Loc} (hT : hST D k A s wr a0 n0 a Hp H locs) (hA : ∀ q, s.heap.size ≤ q → A q) (ht : t.heap = H1) (hB : hEnd D k [] a Hp.length Hp2 (va_A (([] : va_W) ++ wH k a Hp) H.size) a1 t) (hk1 : ∀ q : Nat, q < H.size → ¬ va_A (([] : va_W) ++ wH k a Hp) H.size q → H1[q]? = H[q]?) (hS1 : va_S A s.heap H1 locs1) : hST D k A s wr a0 n0 a1 Hp2 H1 locs1 ∧ (∀ j, j < Hp.length → a1 j = a j) := by
  obtain ⟨hP, hD, hS, hw, hag, hn⟩ := hT
  obtain ⟨b1, b2, b3, b4, b5⟩ := hB
  subst ht
  have b1 : va_P D vwCl (wH k a1 Hp2) t.heap := b1
  have b2 : va_D (va_A (wH k a Hp) H.size) (wH k a1 Hp2) := b2
  have hk1 : ∀ q : Nat, q < H.size → ¬ va_A (wH k a Hp) H.size q → t.heap[q]? = H[q]? := hk1
  have hF : ∀ q, va_A (wH k a Hp) H.size q → A q := A_sub (D_right hD) hS hA
  refine ⟨⟨va_P.app (P_keep (P_left hP) (D_dis hD).symm hk1) b1, (D_left hD).app (b2.weaken (fun _ q _ h => hF q.1 h)) (fun i j x y hx hy exy => ?_), hS1, b3, fun j hj => (b4 j (Nat.lt_of_lt_of_le hj hn)).trans (hag j hj), Nat.le_trans hn b5⟩, b4⟩
  have h1 := b2.2 j y hy
  rcases h1 with ⟨i2, e2, h2⟩ | h1
  · exact D_dis hD i i2 x (y.1, e2) hx h2 exy
  · have hlt : x.1 < H.size := (P_left hP i x hx).lt
    omega
/-- behind a call over the whole world -/
theorem hST_all {w2 : va_W} {Hp2 : HS} {a1 : Nat → Nat} {t : State} {H1 : Heap} {locs1 : List Loc} (hT : hST D k A s wr a0 n0 a Hp H locs) (hA : ∀ q, s.heap.size ≤ q → A q) (ht : t.heap = H1) (hB : hEnd D k w2 a Hp.length Hp2 (va_A (wr ++ wH k a Hp) H.size) a1 t) (hS1 : va_S A s.heap H1 locs1) : hST D k A s w2 a0 n0 a1 Hp2 H1 locs1 ∧ (∀ j, j < Hp.length → a1 j = a j) := by
  obtain ⟨hP, hD, hS, hw, hag, hn⟩ := hT
  obtain ⟨b1, b2, b3, b4, b5⟩ := hB
  subst ht
  have hF : ∀ q, va_A (wr ++ wH k a Hp) H.size q → A q := A_sub hD hS hA
  exact ⟨⟨b1, b2.weaken (fun _ q _ h => hF q.1 h), hS1, b3, fun j hj => (b4 j (Nat.lt_of_lt_of_le hj hn)).trans (hag j hj), Nat.le_trans hn b5⟩, b4⟩
theorem hcb_h {α : Type} {rs os : List Nat} {f : Option (α × HS)} {K : α → HS → Option ρ} (h : hcb rs os Hp f K = some z) : (∀ r ∈ rs, r < Hp.length) ∧ (∀ r ∈ os, (hN Hp r 5).isSome = true) ∧ ∃ v Hp2, f = some (v, Hp2) ∧ K v Hp2 = some z := by
  unfold hcb at h
  by_cases q : (¬ ∀ r ∈ rs, r < Hp.length) ∨ (¬ ∀ r ∈ os, (hN Hp r 5).isSome = true)
  · rw [if_pos q] at h; cases h
  · rw [if_neg q] at h
    exact ⟨Classical.byContradiction fun w => q (Or.inl w), Classical.byContradiction fun w => q (Or.inr w), rb_h h⟩
theorem hrc_h {α : Type} {os : List Nat} {f : Option α} {v : α} (h : hrc Hp os f = some v) : (∀ r ∈ os, (hN Hp r 5).isSome = true) ∧ f = some v := by
  unfold hrc at h
  by_cases q : ¬ ∀ r ∈ os, (hN Hp r 5).isSome = true
  · rw [if_pos q] at h; cases h
  · rw [if_neg q] at h
    exact ⟨Classical.byContradiction fun w => q w, h⟩
theorem h_rv (hK : va_K D vwCl (tyH k) s) (hP : va_P D vwCl (wr ++ wH k a Hp) H) {o : Nat} (ho : (hN Hp o 5).isSome = true) : ∃ cell : Cell, H[a o]? = some cell ∧ cell.vm.isStatics = false ∧ s.vm.findClass RX1 = some cell.cls := by
  obtain ⟨⟨t, n, f, g⟩, hc⟩ := Option.isSome_iff_exists.mp ho
  obtain ⟨g1, g2⟩ := hN_h hc
  cases g2
  exact va_recv (q := (RX1, TX1, 2)) (ci := 1) hK hP rfl (wA_get g1)
theorem h_cVi (C : CallFix p m c cc nL s args WW own) (hK : va_K D vwCl (tyH k) s) (hB : hBX s) (hA : ∀ q, s.heap.size ≤ q → A q) (hT : hST D k A s wr a0 n0 a Hp H locs) {idx n mL mc ms o : Nat} {y : MethodName} {b : ByteArray} {ret : Option FieldType} {rm : Room} (As : List Value) {rs os : List Nat} {f : Option (Int32 × HS)} {K : Int32 → HS → Option ρ} (h : hcb rs (o :: os) Hp f K = some z)
    (hM : ∀ v Hp2, f = some (v, Hp2) → Met l y (Cond.code y b mL ret :: WW) rm (va_Pc (.ref (a o) :: As) (hPre D k [] a Hp H.size)) (hQi D k [] a Hp.length Hp2 v (va_A (([] : va_W) ++ wH k a Hp) H.size)) mc ms (va_A (([] : va_W) ++ wH k a Hp) H.size))
    (cw : CallW R s args own RX1 idx y b mL ret (Cond.code y b mL ret :: WW) rm mc ms n) (hn : As.length = n) (hls : ls.size = nL) (hst : (rest.map fun v => v.category).sum ≤ 8) (hf : cells + mc ≤ R.cells ∧ slots + ms ≤ R.slots) (hdg : decode cc pc = .ok (.invokevirtual idx, 3)) {st : List Value} (hstk : st = As.reverse ++ .ref (a o) :: rest)
    (kk : ∀ v Hp2 a1 H1 locs1, K v Hp2 = some z → hST D k A s wr a0 n0 a1 Hp2 H1 locs1 → (∀ j, j < Hp.length → a1 j = a j) → (∀ r ∈ rs, r < Hp.length) → W p l e R s m args below meth c H1 locs1 (cells + mc) (slots + ms) Q (F0 m (pc + 3) ls (.int v :: rest))) : W p l e R s m args below meth c H locs cells slots Q (F0 m pc ls st) := by
  obtain ⟨h1, h2, v, Hp2, e1, e2⟩ := hcb_h h
  obtain ⟨hP, hD, hS, hw, hag, hn0⟩ := id hT
  have hF : ∀ q, va_A (([] : va_W) ++ wH k a Hp) H.size q → A q := A_sub (ws := wH k a Hp) (D_right hD) hS hA
  refine va_calli (va_runV (As := As) (rest := rest) C (hM v Hp2 e1) cw ⟨hPre_blind, h_rv hK hP (h2 o List.mem_cons_self), fun U hU hW => ⟨rfl, hPre_now (wc := []) (A := A) (P_right hP) hK hB (D_right hD) hw hU hW⟩⟩ rfl hn hls hstk (lv_room hst) hdg hf) hS (fun q _ h => hF q h) hF (fun r a1 t H1 locs1 ht _ hw1 hE _ hk1 hS1 => ?_)
  subst hw1
  obtain ⟨g1, g2⟩ := hST_fr hT hA ht hE hk1 hS1
  exact kk _ Hp2 a1 H1 locs1 e2 g1 g2 h1
theorem h_cVv (C : CallFix p m c cc nL s args WW own) (hK : va_K D vwCl (tyH k) s) (hB : hBX s) (hA : ∀ q, s.heap.size ≤ q → A q) (hT : hST D k A s wr a0 n0 a Hp H locs) {idx n mL mc ms o : Nat} {y : MethodName} {b : ByteArray} {ret : Option FieldType} {rm : Room} (As : List Value) {rs os : List Nat} {f : Option (Int32 × HS)} {K : Int32 → HS → Option ρ} (h : hcb rs (o :: os) Hp f K = some z)
    (hM : ∀ v Hp2, f = some (v, Hp2) → Met l y (Cond.code y b mL ret :: WW) rm (va_Pc (.ref (a o) :: As) (hPre D k [] a Hp H.size)) (hQv D k [] a Hp.length Hp2 (va_A (([] : va_W) ++ wH k a Hp) H.size)) mc ms (va_A (([] : va_W) ++ wH k a Hp) H.size))
    (cw : CallW R s args own RX1 idx y b mL ret (Cond.code y b mL ret :: WW) rm mc ms n) (hn : As.length = n) (hls : ls.size = nL) (hst : (rest.map fun v => v.category).sum ≤ 8) (hf : cells + mc ≤ R.cells ∧ slots + ms ≤ R.slots) (hdg : decode cc pc = .ok (.invokevirtual idx, 3)) {st : List Value} (hstk : st = As.reverse ++ .ref (a o) :: rest)
    (kk : ∀ v Hp2 a1 H1 locs1, K v Hp2 = some z → hST D k A s wr a0 n0 a1 Hp2 H1 locs1 → (∀ j, j < Hp.length → a1 j = a j) → (∀ r ∈ rs, r < Hp.length) → W p l e R s m args below meth c H1 locs1 (cells + mc) (slots + ms) Q (F0 m (pc + 3) ls rest)) : W p l e R s m args below meth c H locs cells slots Q (F0 m pc ls st) := by
  obtain ⟨h1, h2, v, Hp2, e1, e2⟩ := hcb_h h
  obtain ⟨hP, hD, hS, hw, hag, hn0⟩ := id hT
  have hF : ∀ q, va_A (([] : va_W) ++ wH k a Hp) H.size q → A q := A_sub (ws := wH k a Hp) (D_right hD) hS hA
  refine va_callv (va_runV (As := As) (rest := rest) C (hM v Hp2 e1) cw ⟨hPre_blind, h_rv hK hP (h2 o List.mem_cons_self), fun U hU hW => ⟨rfl, hPre_now (wc := []) (A := A) (P_right hP) hK hB (D_right hD) hw hU hW⟩⟩ rfl hn hls hstk (lv_room hst) hdg hf) hS (fun q _ h => hF q h) hF (fun a1 t H1 locs1 ht _ hw1 hE _ hk1 hS1 => ?_)
  obtain ⟨g1, g2⟩ := hST_fr hT hA ht hE hk1 hS1
  exact kk _ Hp2 a1 H1 locs1 e2 g1 g2 h1
theorem h_cVr (C : CallFix p m c cc nL s args WW own) (hK : va_K D vwCl (tyH k) s) (hB : hBX s) (hA : ∀ q, s.heap.size ≤ q → A q) (hT : hST D k A s wr a0 n0 a Hp H locs) {idx n mL mc ms o : Nat} {y : MethodName} {b : ByteArray} {ret : Option FieldType} {rm : Room} (As : List Value) {rs os : List Nat} {f : Option (Nat × HS)} {K : Nat → HS → Option ρ} (h : hcb rs (o :: os) Hp f K = some z)
    (hM : ∀ v Hp2, f = some (v, Hp2) → Met l y (Cond.code y b mL ret :: WW) rm (va_Pc (.ref (a o) :: As) (hPre D k [] a Hp H.size)) (hQr D k [] a Hp.length Hp2 v (va_A (([] : va_W) ++ wH k a Hp) H.size)) mc ms (va_A (([] : va_W) ++ wH k a Hp) H.size))
    (cw : CallW R s args own RX1 idx y b mL ret (Cond.code y b mL ret :: WW) rm mc ms n) (hn : As.length = n) (hls : ls.size = nL) (hst : (rest.map fun v => v.category).sum ≤ 8) (hf : cells + mc ≤ R.cells ∧ slots + ms ≤ R.slots) (hdg : decode cc pc = .ok (.invokevirtual idx, 3)) {st : List Value} (hstk : st = As.reverse ++ .ref (a o) :: rest)
    (kk : ∀ v Hp2 a1 H1 locs1, K v Hp2 = some z → hST D k A s wr a0 n0 a1 Hp2 H1 locs1 → (∀ j, j < Hp.length → a1 j = a j) → (∀ r ∈ rs, r < Hp.length) → W p l e R s m args below meth c H1 locs1 (cells + mc) (slots + ms) Q (F0 m (pc + 3) ls (.ref (a1 v) :: rest))) : W p l e R s m args below meth c H locs cells slots Q (F0 m pc ls st) := by
  obtain ⟨h1, h2, v, Hp2, e1, e2⟩ := hcb_h h
  obtain ⟨hP, hD, hS, hw, hag, hn0⟩ := id hT
  have hF : ∀ q, va_A (([] : va_W) ++ wH k a Hp) H.size q → A q := A_sub (ws := wH k a Hp) (D_right hD) hS hA
  refine va_callr (va_runV (As := As) (rest := rest) C (hM v Hp2 e1) cw ⟨hPre_blind, h_rv hK hP (h2 o List.mem_cons_self), fun U hU hW => ⟨rfl, hPre_now (wc := []) (A := A) (P_right hP) hK hB (D_right hD) hw hU hW⟩⟩ rfl hn hls hstk (lv_room hst) hdg hf) hS (fun q _ h => hF q h) hF (fun a1 ra t H1 locs1 ht _ hw1 hE _ hk1 hS1 => ?_)
  obtain ⟨er, hE⟩ := hE
  subst er
  obtain ⟨g1, g2⟩ := hST_fr hT hA ht hE hk1 hS1
  exact kk _ Hp2 a1 H1 locs1 e2 g1 g2 h1
theorem h_cSr (C : CallFix p m c cc nL s args WW own) (hK : va_K D vwCl (tyH k) s) (hB : hBX s) (hA : ∀ q, s.heap.size ≤ q → A q) (hT : hST D k A s wr a0 n0 a Hp H locs) {idx n mL mc ms : Nat} {y : MethodName} {b : ByteArray} {ret : Option FieldType} {rm : Room} (As : List Value) {rs os : List Nat} {f : Option (Nat × HS)} {K : Nat → HS → Option ρ} (h : hcb rs os Hp f K = some z)
    (hM : ∀ v Hp2, f = some (v, Hp2) → Met l y (Cond.code y b mL ret :: WW) rm (va_Pc As (hPre D k [] a Hp H.size)) (hQr D k [] a Hp.length Hp2 v (va_A (([] : va_W) ++ wH k a Hp) H.size)) mc ms (va_A (([] : va_W) ++ wH k a Hp) H.size))
    (cw : CallB R s args own idx y b mL ret (Cond.code y b mL ret :: WW) rm mc ms n ∧ (Cond.static y).before args s = true) (hn : As.length = n) (hls : ls.size = nL) (hst : (rest.map fun v => v.category).sum ≤ 8) (hf : cells + mc ≤ R.cells ∧ slots + ms ≤ R.slots) (hdg : decode cc pc = .ok (.invokestatic idx, 3)) {st : List Value} (hstk : st = As.reverse ++ rest)
    (kk : ∀ v Hp2 a1 H1 locs1, K v Hp2 = some z → hST D k A s wr a0 n0 a1 Hp2 H1 locs1 → (∀ j, j < Hp.length → a1 j = a j) → (∀ r ∈ rs, r < Hp.length) → W p l e R s m args below meth c H1 locs1 (cells + mc) (slots + ms) Q (F0 m (pc + 3) ls (.ref (a1 v) :: rest))) : W p l e R s m args below meth c H locs cells slots Q (F0 m pc ls st) := by
  obtain ⟨h1, h2, v, Hp2, e1, e2⟩ := hcb_h h
  obtain ⟨hP, hD, hS, hw, hag, hn0⟩ := id hT
  have hF : ∀ q, va_A (([] : va_W) ++ wH k a Hp) H.size q → A q := A_sub (ws := wH k a Hp) (D_right hD) hS hA
  refine va_callr (va_runS (As := As) (rest := rest) C (hM v Hp2 e1) cw ⟨hPre_blind, fun U hU hW => ⟨rfl, hPre_now (wc := []) (A := A) (P_right hP) hK hB (D_right hD) hw hU hW⟩⟩ rfl hn hls hstk (lv_room hst) hdg hf) hS (fun q _ h => hF q h) hF (fun a1 ra t H1 locs1 ht _ hw1 hE _ hk1 hS1 => ?_)
  obtain ⟨er, hE⟩ := hE
  subst er
  obtain ⟨g1, g2⟩ := hST_fr hT hA ht hE hk1 hS1
  exact kk _ Hp2 a1 H1 locs1 e2 g1 g2 h1
theorem h_cIv (C : CallFix p m c cc nL s args WW own) (hK : va_K D vwCl (tyH k) s) (hB : hBX s) (hA : ∀ q, s.heap.size ≤ q → A q) (hT : hST D k A s wr a0 n0 a Hp H locs) {idx n mL mc ms o : Nat} {y : MethodName} {b : ByteArray} {host : String} {rm : Room} (As : List Value) {rs os : List Nat} {f : Option (Int32 × HS)} {K : Int32 → HS → Option ρ} (h : hcb rs (o :: os) Hp f K = some z)
    (hM : ∀ v Hp2, f = some (v, Hp2) → Met l y (Cond.code y b mL none :: WW) rm (va_Pc (.ref (a o) :: As) (hPre D k [] a Hp H.size)) (hQv D k [] a Hp.length Hp2 (va_A (([] : va_W) ++ wH k a Hp) H.size)) mc ms (va_A (([] : va_W) ++ wH k a Hp) H.size))
    (cw : va_CN R s args own idx y host b mL none (Cond.code y b mL none :: WW) rm mc ms n ∧ y.name = "<init>" ∧ (Cond.instanceMethod y).before args s = true) (hn : As.length = n) (hls : ls.size = nL) (hst : (rest.map fun v => v.category).sum ≤ 8) (hf : cells + mc ≤ R.cells ∧ slots + ms ≤ R.slots) (hdg : decode cc pc = .ok (.invokespecial idx, 3)) {st : List Value} (hstk : st = As.reverse ++ .ref (a o) :: rest)
    (kk : ∀ v Hp2 a1 H1 locs1, K v Hp2 = some z → hST D k A s wr a0 n0 a1 Hp2 H1 locs1 → (∀ j, j < Hp.length → a1 j = a j) → (∀ r ∈ rs, r < Hp.length) → W p l e R s m args below meth c H1 locs1 (cells + mc) (slots + ms) Q (F0 m (pc + 3) ls rest)) : W p l e R s m args below meth c H locs cells slots Q (F0 m pc ls st) := by
  obtain ⟨h1, h2, v, Hp2, e1, e2⟩ := hcb_h h
  obtain ⟨hP, hD, hS, hw, hag, hn0⟩ := id hT
  have hF : ∀ q, va_A (([] : va_W) ++ wH k a Hp) H.size q → A q := A_sub (ws := wH k a Hp) (D_right hD) hS hA
  refine va_callv (va_runIN (As := As) (rest := rest) C (hM v Hp2 e1) cw ⟨hPre_blind, fun U hU hW => ⟨rfl, hPre_now (wc := []) (A := A) (P_right hP) hK hB (D_right hD) hw hU hW⟩⟩ rfl hn hls hstk (lv_room hst) hdg hf) hS (fun q _ h => hF q h) hF (fun a1 t H1 locs1 ht _ hw1 hE _ hk1 hS1 => ?_)
  obtain ⟨g1, g2⟩ := hST_fr hT hA ht hE hk1 hS1
  exact kk _ Hp2 a1 H1 locs1 e2 g1 g2 h1
theorem h_rVi (C : CallFix p m c cc nL s args WW own) (hK : va_K D vwCl (tyH k) s) (hP : va_P D vwCl (wr ++ wH k a Hp) H) {idx n mL o : Nat} {y : MethodName} {b : ByteArray} {ret : Option FieldType} {rm : Room} (As : List Value) {os : List Nat} {f : Option Int32} {K : Int32 → Option ρ} (h : (hrc Hp (o :: os) f).bind K = some z)
    (hM : ∀ v, f = some v → Met l y (Cond.code y b mL ret :: WW) rm (va_Pc (.ref (a o) :: As) (roP D (([] : va_W) ++ wH k a Hp) (tyH k))) (vp_Si (fun r => r = v)) 0 0 (fun _ => False))
    (cw : CallW R s args own RX1 idx y b mL ret (Cond.code y b mL ret :: WW) rm 0 0 n) (hn : As.length = n) (hls : ls.size = nL) (hst : (rest.map fun v => v.category).sum ≤ 8) (hf : cells + 0 ≤ R.cells ∧ slots + 0 ≤ R.slots) (hdg : decode cc pc = .ok (.invokevirtual idx, 3)) {st : List Value} (hstk : st = As.reverse ++ .ref (a o) :: rest)
    (kk : ∀ v, K v = some z → W p l e R s m args below meth c H locs cells slots Q (F0 m (pc + 3) ls (.int v :: rest))) : W p l e R s m args below meth c H locs cells slots Q (F0 m pc ls st) := by
  obtain ⟨v, e1, e2⟩ := ob_h h
  obtain ⟨h2, e3⟩ := hrc_h e1
  have hP2 : va_P D vwCl (([] : va_W) ++ wH k a Hp) H := P_right hP
  exact vp_callSi (W.runV (As := As) (rest := rest) C (hM v e3) cw ⟨roP_blind, h_rv hK hP (h2 o List.mem_cons_self), fun U hU hW => ⟨rfl, by rw [hU]; exact hP2, hK.moved hW.alike⟩⟩ rfl hn hls hstk (lv_room hst) hdg hf) (fun r hr => by subst hr; exact kk _ e2)
theorem h_rSi (C : CallFix p m c cc nL s args WW own) (hK : va_K D vwCl (tyH k) s) (hP : va_P D vwCl (wr ++ wH k a Hp) H) {idx n mL : Nat} {y : MethodName} {b : ByteArray} {ret : Option FieldType} {rm : Room} (As : List Value) {os : List Nat} {f : Option Int32} {K : Int32 → Option ρ} (h : (hrc Hp os f).bind K = some z)
    (hM : ∀ v, f = some v → Met l y (Cond.code y b mL ret :: WW) rm (va_Pc As (roP D (([] : va_W) ++ wH k a Hp) (tyH k))) (vp_Si (fun r => r = v)) 0 0 (fun _ => False))
    (cw : CallB R s args own idx y b mL ret (Cond.code y b mL ret :: WW) rm 0 0 n ∧ (Cond.static y).before args s = true) (hn : As.length = n) (hls : ls.size = nL) (hst : (rest.map fun v => v.category).sum ≤ 8) (hf : cells + 0 ≤ R.cells ∧ slots + 0 ≤ R.slots) (hdg : decode cc pc = .ok (.invokestatic idx, 3)) {st : List Value} (hstk : st = As.reverse ++ rest)
    (kk : ∀ v, K v = some z → W p l e R s m args below meth c H locs cells slots Q (F0 m (pc + 3) ls (.int v :: rest))) : W p l e R s m args below meth c H locs cells slots Q (F0 m pc ls st) := by
  obtain ⟨v, e1, e2⟩ := ob_h h
  obtain ⟨h2, e3⟩ := hrc_h e1
  have hP2 : va_P D vwCl (([] : va_W) ++ wH k a Hp) H := P_right hP
  exact vp_callSi (W.runS (As := As) (rest := rest) C (hM v e3) cw ⟨roP_blind, fun U hU hW => ⟨rfl, by rw [hU]; exact hP2, hK.moved hW.alike⟩⟩ rfl hn hls hstk (lv_room hst) hdg hf) (fun r hr => by subst hr; exact kk _ e2)
/-- the class beside it -/
def xbR {α ρ : Type} (f : Option (α ⊕ Nat)) (K : α → Option ρ) : Option ρ := match f with
  | some (.inl v) => K v
  | _ => none
def xbW {α ρ : Type} (f : Option ((α × XS) ⊕ Nat)) (K : α → XS → Option ρ) : Option ρ := match f with
  | some (.inl (v, S)) => K v S
  | _ => none
def xbC {α ρ : Type} (f : Option ((α × XS) ⊕ Nat)) (K : α → XS → Option ρ) (Kc : Option ρ) : Option ρ := match f with
  | some (.inl (v, S)) => K v S
  | some (.inr 2) => Kc
  | _ => none
theorem xbR_h {α : Type} {f : Option (α ⊕ Nat)} {K : α → Option ρ} (h : xbR f K = some z) : ∃ v, f = some (.inl v) ∧ K v = some z := by
  unfold xbR at h
  split at h
  · exact ⟨_, rfl, h⟩
  · cases h
theorem xbW_h {α : Type} {f : Option ((α × XS) ⊕ Nat)} {K : α → XS → Option ρ} (h : xbW f K = some z) : ∃ v S, f = some (.inl (v, S)) ∧ K v S = some z := by
  unfold xbW at h
  split at h
  · exact ⟨_, _, rfl, h⟩
  · cases h
theorem xbC_h {α : Type} {f : Option ((α × XS) ⊕ Nat)} {K : α → XS → Option ρ} {Kc : Option ρ} (h : xbC f K Kc = some z) : (∃ v S, f = some (.inl (v, S)) ∧ K v S = some z) ∨ (f = some (.inr 2) ∧ Kc = some z) := by
  unfold xbC at h
  split at h
  · exact Or.inl ⟨_, _, rfl, h⟩
  · exact Or.inr ⟨rfl, h⟩
  · cases h
def ncU (U : State) : Prop := ∀ E ∈ exL, ∀ T ∈ ["java/lang/IllegalStateException"], E ≠ T → va_Nc E T U
def excA (A : Nat → Prop) (U : State) : Prop := vx_Zq Bundle.tN "UNASSIGNED_STACK" Bundle.steD A U U.heap ∧ vx_Zq Bundle.tN "SUPPRESSED_SENTINEL" Bundle.listD A U U.heap ∧ (∀ q ∈ strL, ∃ a, vk_R RX0 q.1 q.2 a U) ∧ (∀ E ∈ exL, va_Nw (.castable E E) U) ∧ (∀ y ∈ dcL, va_Nw (.declares y) U) ∧ ncU U
theorem excA_at {U : State} {B : Nat → Prop} (h : excA A s) (hS : va_S A s.heap H locs) (hU : U.heap = H) (hW : s.WarmedH U.vm) (hBA : ∀ q, B q → A q) : excA B U := by
  obtain ⟨h1, h2, h3, h4, h5, h6⟩ := h
  have k1 := (vx_Zq.kept h1 (H1 := H) (fun x hx hA => hS.2.1 x hx hA)).narrow (B := B) hBA
  have k2 := (vx_Zq.kept h2 (H1 := H) (fun x hx hA => hS.2.1 x hx hA)).narrow (B := B) hBA
  refine ⟨by rw [hU]; exact vx_Zq.moved hW.alike k1, by rw [hU]; exact vx_Zq.moved hW.alike k2, fun q hq => ?_, fun E hE => va_Nw.warmC hW (h4 E hE), fun y hy => va_Nw.warmD hW (h5 y hy), fun E hE T hT hne => va_Nc.moved hW.alike (h6 E hE T hT hne)⟩
  obtain ⟨b, hb⟩ := h3 q hq
  exact ⟨b, vk_R.warm hW hb⟩
theorem excA_calling {U : State} {g : JFrame} {mk : MethodId} {av : Array Value} (h : excA A U) : excA A (U.calling g mk av) := by
  obtain ⟨h1, h2, h3, h4, h5, h6⟩ := h
  refine ⟨vx_Zq.moved (u := U) (U := U.calling g mk av) (Vm.Alike.refl U.vm) h1, vx_Zq.moved (u := U) (U := U.calling g mk av) (Vm.Alike.refl U.vm) h2, fun q hq => ?_, fun E hE => va_Nw.same (u := U) (U := U.calling g mk av) rfl rfl (h4 E hE), fun y hy => va_Nw.same (u := U) (U := U.calling g mk av) rfl rfl (h5 y hy), fun E hE T hT hne => va_Nc.moved (u := U) (U := U.calling g mk av) (Vm.Alike.refl U.vm) (h6 E hE T hT hne)⟩
  obtain ⟨b, hb⟩ := h3 q hq
  exact ⟨b, vk_R.same (u := U) (U := U.calling g mk av) rfl hb⟩
theorem excU_at {U : State} (h : excA A s) (hS : va_S A s.heap H locs) (hU : U.heap = H) (hW : s.WarmedH U.vm) : excU U := by
  obtain ⟨h1, h2, h3, h4, h5, -⟩ := excA_at (B := fun _ => False) h hS hU hW (fun _ h => h.elim)
  exact ⟨h1, h2, h3, h4, h5⟩
abbrev wXk (k : Nat → ClassId) (ax : Nat → Nat) (S : XS) : va_W := wX (k 0) (k 1) ax S
abbrev tyIk (k : Nat → ClassId) : List (ClassId × FieldType) := tyIZ (k 0) (k 1)
theorem hK2 (hK : va_K D vwCl (tyH k) s) : va_K D vwCl (tyIk k) s := hK.sub [0, 1] rfl
variable {ax : Nat → Nat} {S : XS}
theorem hST_X {S1 : XS} {H1 : Heap} {locs1 : List Loc} (hT : hST D k A s (wXk k ax S) a0 n0 a Hp H locs) (hP1 : va_P D vwCl (wXk k ax S1) H1) (hk1 : ∀ x : Nat, x < H.size → ¬ va_A (wXk k ax S) H.size x → H1[x]? = H[x]?) (hS1 : va_S A s.heap H1 locs1) : hST D k A s (wXk k ax S1) a0 n0 a Hp H1 locs1 := by
  obtain ⟨hP, hD, hS, hw, hag, hn⟩ := hT
  refine ⟨va_P.app hP1 (P_keep (P_right hP) (D_dis hD) hk1), D_same hD ?_, hS1, hw, hag, hn⟩
  rw [List.map_append, List.map_append]
  exact congrArg (fun w => w ++ (wH k a Hp).map Prod.fst) (wX_ad _ _)
theorem hST_old {H1 : Heap} {locs1 : List Loc} (hT : hST D k A s wr a0 n0 a Hp H locs) (hk1 : ∀ x : Nat, x < H.size → H1[x]? = H[x]?) (hS1 : va_S A s.heap H1 locs1) : hST D k A s wr a0 n0 a Hp H1 locs1 := by
  obtain ⟨hP, hD, hS, hw, hag, hn⟩ := hT
  exact ⟨P_old hP hk1, hD, hS1, hw, hag, hn⟩
theorem x_TW (C : CallFix p m c cc nL s args WW own) (hK : va_K D vwCl (tyH k) s) (hA : ∀ q, s.heap.size ≤ q → A q) (hE : excA A s) (hT : hST D k A s (wXk k ax S) a0 n0 a Hp H locs) {idx n mL : Nat} {y : MethodName} {b : ByteArray} {ret : Option FieldType} {rm : Room} (As : List Value) {f : Option ((Int32 × XS) ⊕ Nat)} {K : Int32 → XS → Option ρ} (h : xbW f K = some z) (hM : ∀ o, f = some o → tx_Met l y (Cond.code y b mL ret :: WW) rm (va_Pc (.ref (ax 0) :: As) (fun U => rwP D (wXk k ax S) (tyIk k) H.size U ∧ excU U)) (tqiW D (wX (k 0) (k 1) ax) (va_A (wXk k ax S) H.size) o) (txX o) 1 6 (va_A (wXk k ax S) H.size))
    (cw : CallW R s args own RX0 idx y b mL ret (Cond.code y b mL ret :: WW) rm 1 6 n) (hn : As.length = n) (hls : ls.size = nL) (hst : (rest.map fun v => v.category).sum ≤ 8) (hf : cells + 1 ≤ R.cells ∧ slots + 6 ≤ R.slots) (hdg : decode cc pc = .ok (.invokevirtual idx, 3)) {st : List Value} (hstk : st = As.reverse ++ .ref (ax 0) :: rest)
    (kk : ∀ (v : Int32) (S1 : XS) (H1 : Heap) (locs1 : List Loc), K v S1 = some z → hST D k A s (wXk k ax S1) a0 n0 a Hp H1 locs1 → W p l e R s m args below meth c H1 locs1 cells slots Q (F0 m (pc + 3) ls (.int v :: rest))) : W p l e R s m args below meth c H locs cells slots Q (F0 m pc ls st) := by
  obtain ⟨hP, hD, hS, hw, hag, hn0⟩ := id hT
  have hPX : va_P D vwCl (wXk k ax S) H := P_left hP
  have hDX : va_D A (wXk k ax S) := D_left hD
  have hKX : va_K D vwCl (tyIk k) s := hK2 hK
  have hF := A_sub hDX hS hA
  intro T hT2 X
  obtain ⟨v, S1, e1, e2⟩ := xbW_h h
  · rcases (tx_runV (As := As) (rest := rest) C (hM _ e1) cw ⟨(fun a U g mk q => ⟨q.1, ⟨q.2.1.1, q.2.1.2.1, va_K.moved (u := U) (U := U.calling g mk a) (Vm.Alike.refl U.vm) q.2.1.2.2.1, q.2.1.2.2.2⟩, excU_calling q.2.2⟩), wX_rv hKX hPX, fun U hU hW => ⟨rfl, ⟨by rw [hU], by rw [hU]; exact hPX, hKX.moved hW.alike, hDX.weaken (fun _ _ _ _ => trivial)⟩, excU_at hE hS hU hW⟩⟩ rfl hn hls hstk (lv_room hst) hdg hf T hT2 X) with ⟨v', st₀, t, T', L, h0, X', hL, e3, e4, hq, st⟩ | ⟨q9, st₀, t, T', L, E, ce, h0, X', hL, e3, e4, hx, hce, hcv, hcl, st⟩
    · obtain ⟨⟨r, u, hv, hp, hb⟩, hz⟩ := hq
      cases hv
      subst hp
      rw [show va_F _ _ _ = va_F (va_A (wXk k ax S) H.size) st₀ t from rfl] at hz
      have hb1 : va_P D vwCl (wXk k ax S1) T'.heap := by rw [e3]; exact hb
      have hk : ∀ x : Nat, x < H.size → ¬ va_A (wXk k ax S) H.size x → T'.heap[x]? = H[x]? := fun x h1 h2 => by
        rw [e3, ← h0]; exact hz.2 x (by rw [h0]; exact h1) h2
      have hsz : H.size ≤ T'.heap.size := by rw [e3, ← h0]; exact hz.1
      obtain ⟨t2, a1, b1⟩ := kk _ S1 T'.heap (locs ++ L) e2 (hST_X hT hb1 hk ⟨Nat.le_trans hS.1 hsz, fun x h1 h2 => (hk x (Nat.lt_of_lt_of_le h1 hS.1) (fun h3 => h2 (hF x h3))).trans (hS.2.1 x h1 h2), fun x hx => (List.mem_append.mp hx).elim (hS.2.2 x) (fun h => hF _ (hL x h))⟩) T' rfl X'
      exact ⟨t2, st t2 a1, b1⟩
    · exact hx.elim
theorem x_TC (C : CallFix p m c cc nL s args WW own) (hK : va_K D vwCl (tyH k) s) (hA : ∀ q, s.heap.size ≤ q → A q) (hE : excA A s) (hT : hST D k A s (wXk k ax S) a0 n0 a Hp H locs) {idx n mL : Nat} {y : MethodName} {b : ByteArray} {ret : Option FieldType} {rm : Room} (As : List Value) {f : Option ((Int32 × XS) ⊕ Nat)} {K : Int32 → XS → Option ρ} {Kc : Option ρ} (h : xbC f K Kc = some z) (hM : ∀ o, f = some o → tx_Met l y (Cond.code y b mL ret :: WW) rm (va_Pc (.ref (ax 0) :: As) (fun U => rwP D (wXk k ax S) (tyIk k) H.size U ∧ excU U)) (tqiW D (wX (k 0) (k 1) ax) (va_A (wXk k ax S) H.size) o) (txX o) 1 6 (va_A (wXk k ax S) H.size))
    (cw : CallW R s args own RX0 idx y b mL ret (Cond.code y b mL ret :: WW) rm 1 6 n) (hn : As.length = n) (hls : ls.size = nL) (hst : (rest.map fun v => v.category).sum ≤ 8) (hf : cells + 1 ≤ R.cells ∧ slots + 6 ≤ R.slots) (hdg : decode cc pc = .ok (.invokevirtual idx, 3)) {st : List Value} (hstk : st = As.reverse ++ .ref (ax 0) :: rest)
    (kk : ∀ (v : Int32) (S1 : XS) (H1 : Heap) (locs1 : List Loc), K v S1 = some z → hST D k A s (wXk k ax S1) a0 n0 a Hp H1 locs1 → W p l e R s m args below meth c H1 locs1 cells slots Q (F0 m (pc + 3) ls (.int v :: rest)))
    (kc : ∀ (H1 : Heap) (locs1 : List Loc) (q9 : Addr) (ce : Cell), Kc = some z → hST D k A s (wXk k ax S) a0 n0 a Hp H1 locs1 → H1[q9]? = some ce → ce.vm = .none → s.vm.findClass (exN 2) = some ce.cls → vx_W p l e R s m args below meth c H1 locs1 (cells + 1) (slots + 6) Q (F0 m pc ls rest) q9) : W p l e R s m args below meth c H locs cells slots Q (F0 m pc ls st) := by
  obtain ⟨hP, hD, hS, hw, hag, hn0⟩ := id hT
  have hPX : va_P D vwCl (wXk k ax S) H := P_left hP
  have hDX : va_D A (wXk k ax S) := D_left hD
  have hKX : va_K D vwCl (tyIk k) s := hK2 hK
  have hF := A_sub hDX hS hA
  intro T hT2 X
  rcases xbC_h h with ⟨v, S1, e1, e2⟩ | ⟨e1, e2⟩
  · rcases (tx_runV (As := As) (rest := rest) C (hM _ e1) cw ⟨(fun a U g mk q => ⟨q.1, ⟨q.2.1.1, q.2.1.2.1, va_K.moved (u := U) (U := U.calling g mk a) (Vm.Alike.refl U.vm) q.2.1.2.2.1, q.2.1.2.2.2⟩, excU_calling q.2.2⟩), wX_rv hKX hPX, fun U hU hW => ⟨rfl, ⟨by rw [hU], by rw [hU]; exact hPX, hKX.moved hW.alike, hDX.weaken (fun _ _ _ _ => trivial)⟩, excU_at hE hS hU hW⟩⟩ rfl hn hls hstk (lv_room hst) hdg hf T hT2 X) with ⟨v', st₀, t, T', L, h0, X', hL, e3, e4, hq, st⟩ | ⟨q9, st₀, t, T', L, E, ce, h0, X', hL, e3, e4, hx, hce, hcv, hcl, st⟩
    · obtain ⟨⟨r, u, hv, hp, hb⟩, hz⟩ := hq
      cases hv
      subst hp
      rw [show va_F _ _ _ = va_F (va_A (wXk k ax S) H.size) st₀ t from rfl] at hz
      have hb1 : va_P D vwCl (wXk k ax S1) T'.heap := by rw [e3]; exact hb
      have hk : ∀ x : Nat, x < H.size → ¬ va_A (wXk k ax S) H.size x → T'.heap[x]? = H[x]? := fun x h1 h2 => by
        rw [e3, ← h0]; exact hz.2 x (by rw [h0]; exact h1) h2
      have hsz : H.size ≤ T'.heap.size := by rw [e3, ← h0]; exact hz.1
      obtain ⟨t2, a1, b1⟩ := kk _ S1 T'.heap (locs ++ L) e2 (hST_X hT hb1 hk ⟨Nat.le_trans hS.1 hsz, fun x h1 h2 => (hk x (Nat.lt_of_lt_of_le h1 hS.1) (fun h3 => h2 (hF x h3))).trans (hS.2.1 x h1 h2), fun x hx => (List.mem_append.mp hx).elim (hS.2.2 x) (fun h => hF _ (hL x h))⟩) T' rfl X'
      exact ⟨t2, st t2 a1, b1⟩
    · exact hx.elim
  · rcases (tx_runV (As := As) (rest := rest) C (hM _ e1) cw ⟨(fun a U g mk q => ⟨q.1, ⟨q.2.1.1, q.2.1.2.1, va_K.moved (u := U) (U := U.calling g mk a) (Vm.Alike.refl U.vm) q.2.1.2.2.1, q.2.1.2.2.2⟩, excU_calling q.2.2⟩), wX_rv hKX hPX, fun U hU hW => ⟨rfl, ⟨by rw [hU], by rw [hU]; exact hPX, hKX.moved hW.alike, hDX.weaken (fun _ _ _ _ => trivial)⟩, excU_at hE hS hU hW⟩⟩ rfl hn hls hstk (lv_room hst) hdg hf T hT2 X) with ⟨v', st₀, t, T', L, h0, X', hL, e3, e4, hq, st⟩ | ⟨q9, st₀, t, T', L, E, ce, h0, X', hL, e3, e4, hx, hce, hcv, hcl, st⟩
    · exact hq.elim
    · obtain ⟨x1, x2, x3⟩ := hx
      subst x1
      rw [h0] at x2 x3
      have hk : ∀ x : Nat, x < H.size → T'.heap[x]? = H[x]? := fun x h1 => by rw [e3]; exact x3 x h1
      have hsz : H.size ≤ T'.heap.size := by rw [e3]; exact x2
      obtain ⟨t2, a1, b1⟩ := kc T'.heap (locs ++ L) q9 ce e2 (hST_old hT hk ⟨Nat.le_trans hS.1 hsz, fun x h1 h2 => (hk x (Nat.lt_of_lt_of_le h1 hS.1)).trans (hS.2.1 x h1 h2), fun x hx => (List.mem_append.mp hx).elim (hS.2.2 x) (fun h => hF _ (hL x h))⟩) (by rw [e3]; exact hce) hcv hcl T' rfl X'
      exact ⟨t2, st.trans a1, b1⟩
theorem x_TR (C : CallFix p m c cc nL s args WW own) (hK : va_K D vwCl (tyH k) s) (hA : ∀ q, s.heap.size ≤ q → A q) (hE : excA A s) (hT : hST D k A s (wXk k ax S) a0 n0 a Hp H locs) {idx n mL : Nat} {y : MethodName} {b : ByteArray} {ret : Option FieldType} {rm : Room} (As : List Value) {f : Option (Int32 ⊕ Nat)} {K : Int32 → Option ρ} (h : xbR f K = some z) (hM : ∀ o, f = some o → tx_Met l y (Cond.code y b mL ret :: WW) rm (va_Pc (.ref (ax 0) :: As) (fun U => roP D (wXk k ax S) (tyIk k) U ∧ excU U)) (tqi o) (txX o) 1 6 (fun _ => False))
    (cw : CallW R s args own RX0 idx y b mL ret (Cond.code y b mL ret :: WW) rm 1 6 n) (hn : As.length = n) (hls : ls.size = nL) (hst : (rest.map fun v => v.category).sum ≤ 8) (hf : cells + 1 ≤ R.cells ∧ slots + 6 ≤ R.slots) (hdg : decode cc pc = .ok (.invokevirtual idx, 3)) {st : List Value} (hstk : st = As.reverse ++ .ref (ax 0) :: rest)
    (kk : ∀ v, K v = some z → W p l e R s m args below meth c H locs cells slots Q (F0 m (pc + 3) ls (.int v :: rest))) : W p l e R s m args below meth c H locs cells slots Q (F0 m pc ls st) := by
  obtain ⟨hP, hD, hS, hw, hag, hn0⟩ := id hT
  have hPX : va_P D vwCl (wXk k ax S) H := P_left hP
  have hDX : va_D A (wXk k ax S) := D_left hD
  have hKX : va_K D vwCl (tyIk k) s := hK2 hK
  have hF := A_sub hDX hS hA
  intro T hT2 X
  obtain ⟨v, e1, e2⟩ := xbR_h h
  · rcases (tx_runV (As := As) (rest := rest) C (hM _ e1) cw ⟨(fun a U g mk q => ⟨q.1, ⟨q.2.1.1, va_K.moved (u := U) (U := U.calling g mk a) (Vm.Alike.refl U.vm) q.2.1.2⟩, excU_calling q.2.2⟩), wX_rv hKX hPX, fun U hU hW => ⟨rfl, ⟨by rw [hU]; exact hPX, hKX.moved hW.alike⟩, excU_at hE hS hU hW⟩⟩ rfl hn hls hstk (lv_room hst) hdg hf T hT2 X) with ⟨v', st₀, t, T', L, h0, X', hL, e3, e4, hq, st⟩ | ⟨q9, st₀, t, T', L, E, ce, h0, X', hL, e3, e4, hx, hce, hcv, hcl, st⟩
    · obtain ⟨r, hv, hp, hh⟩ := hq
      cases hv
      subst hp
      obtain ⟨t2, a1, b1⟩ := kk _ e2 T' (by rw [e3, hh, h0]) (Stand.forget X' (fun q h => (hL q h).elim))
      exact ⟨t2, st t2 a1, b1⟩
    · exact hx.elim
theorem x_RW (C : CallFix p m c cc nL s args WW own) (hK : va_K D vwCl (tyH k) s) (hA : ∀ q, s.heap.size ≤ q → A q) (hT : hST D k A s (wXk k ax S) a0 n0 a Hp H locs) {idx n mL : Nat} {y : MethodName} {b : ByteArray} {ret : Option FieldType} {rm : Room} (As : List Value) {f : Option (Int32 × XS)} {K : Int32 → XS → Option ρ} (h : rb f K = some z)
    (hM : ∀ v S2, f = some (v, S2) → Met l y (Cond.code y b mL ret :: WW) rm (va_Pc (.ref (ax 0) :: As) (rwP D (wXk k ax S) (tyIk k) H.size)) (rwQi D (wXk k ax S2) v (va_A (wXk k ax S) H.size)) 0 0 (va_A (wXk k ax S) H.size))
    (cw : CallW R s args own RX0 idx y b mL ret (Cond.code y b mL ret :: WW) rm 0 0 n) (hn : As.length = n) (hls : ls.size = nL) (hst : (rest.map fun v => v.category).sum ≤ 8) (hf : cells + 0 ≤ R.cells ∧ slots + 0 ≤ R.slots) (hdg : decode cc pc = .ok (.invokevirtual idx, 3)) {st : List Value} (hstk : st = As.reverse ++ .ref (ax 0) :: rest)
    (kk : ∀ (v : Int32) (S1 : XS) (H1 : Heap) (locs1 : List Loc), K v S1 = some z → hST D k A s (wXk k ax S1) a0 n0 a Hp H1 locs1 → W p l e R s m args below meth c H1 locs1 cells slots Q (F0 m (pc + 3) ls (.int v :: rest))) : W p l e R s m args below meth c H locs cells slots Q (F0 m pc ls st) := by
  obtain ⟨v, S2, e1, e2⟩ := rb_h h
  obtain ⟨hP, hD, hS, hw, hag, hn0⟩ := id hT
  have hPX : va_P D vwCl (wXk k ax S) H := P_left hP
  have hDX : va_D A (wXk k ax S) := D_left hD
  have hKX : va_K D vwCl (tyIk k) s := hK2 hK
  have hF := A_sub hDX hS hA
  refine va_calli (va_runV (As := As) (rest := rest) C (hM v S2 e1) cw ⟨rwP_blind, wX_rv hKX hPX, fun U hU hW => ⟨rfl, by rw [hU], by rw [hU]; exact hPX, hKX.moved hW.alike, hDX.weaken (fun _ _ _ _ => trivial)⟩⟩ rfl hn hls hstk (lv_room hst) hdg hf) hS (fun q _ h => hF q h) hF (fun r u t H1 locs1 ht _ hw1 hB _ hk1 hS1 => ?_)
  subst hw1
  exact kk _ S2 H1 locs1 e2 (hST_X hT (ht ▸ hB) hk1 hS1)
theorem x_ROl (C : CallFix p m c cc nL s args WW own) (hK : va_K D vwCl (tyH k) s) (hT : hST D k A s (wXk k ax S) a0 n0 a Hp H locs) {idx n mL : Nat} {y : MethodName} {b : ByteArray} {ret : Option FieldType} {rm : Room} (As : List Value) {f : Option Int64} {K : Int64 → Option ρ} (h : f.bind K = some z)
    (hM : ∀ v, f = some v → Met l y (Cond.code y b mL ret :: WW) rm (va_Pc (.ref (ax 0) :: As) (roP D (wXk k ax S) (tyIk k))) (vp_Sl (fun r => r = v)) 0 0 (fun _ => False))
    (cw : CallW R s args own RX0 idx y b mL ret (Cond.code y b mL ret :: WW) rm 0 0 n) (hn : As.length = n) (hls : ls.size = nL) (hst : (rest.map fun v => v.category).sum ≤ 8) (hf : cells + 0 ≤ R.cells ∧ slots + 0 ≤ R.slots) (hdg : decode cc pc = .ok (.invokevirtual idx, 3)) {st : List Value} (hstk : st = As.reverse ++ .ref (ax 0) :: rest)
    (kk : ∀ v, K v = some z → W p l e R s m args below meth c H locs cells slots Q (F0 m (pc + 3) ls (.long v :: rest))) : W p l e R s m args below meth c H locs cells slots Q (F0 m pc ls st) :=
  k_roVl C (hK2 hK) (P_left hT.1) As (wX_rv (hK2 hK) (P_left hT.1)) h hM cw hn hls hst hf hdg hstk (fun v _ e2 => kk v e2)
theorem x_ROd (C : CallFix p m c cc nL s args WW own) (hK : va_K D vwCl (tyH k) s) (hT : hST D k A s (wXk k ax S) a0 n0 a Hp H locs) {idx n mL : Nat} {y : MethodName} {b : ByteArray} {ret : Option FieldType} {rm : Room} (As : List Value) {f : Option UInt64} {K : UInt64 → Option ρ} (h : f.bind K = some z)
    (hM : ∀ v, f = some v → Met l y (Cond.code y b mL ret :: WW) rm (va_Pc (.ref (ax 0) :: As) (roP D (wXk k ax S) (tyIk k))) (vp_Sd (fun r => r = v)) 0 0 (fun _ => False))
    (cw : CallW R s args own RX0 idx y b mL ret (Cond.code y b mL ret :: WW) rm 0 0 n) (hn : As.length = n) (hls : ls.size = nL) (hst : (rest.map fun v => v.category).sum ≤ 8) (hf : cells + 0 ≤ R.cells ∧ slots + 0 ≤ R.slots) (hdg : decode cc pc = .ok (.invokevirtual idx, 3)) {st : List Value} (hstk : st = As.reverse ++ .ref (ax 0) :: rest)
    (kk : ∀ v, K v = some z → W p l e R s m args below meth c H locs cells slots Q (F0 m (pc + 3) ls (.double v :: rest))) : W p l e R s m args below meth c H locs cells slots Q (F0 m pc ls st) :=
  k_roVd C (hK2 hK) (P_left hT.1) As (wX_rv (hK2 hK) (P_left hT.1)) h hM cw hn hls hst hf hdg hstk (fun v _ e2 => kk v e2)
end HCALL
