section TXR
def exN : Nat → String
  | 1 => "java/lang/IndexOutOfBoundsException"
  | 2 => "java/lang/IllegalStateException"
  | _ => "java/lang/IllegalArgumentException"
def exL : List String := ["java/lang/IndexOutOfBoundsException", "java/lang/IllegalStateException", "java/lang/IllegalArgumentException"]
def dcL : List MethodName := [⟨"java/lang/RuntimeException", "<init>", "(Ljava/lang/String;)V"⟩, ⟨"java/lang/Exception", "<init>", "(Ljava/lang/String;)V"⟩, ⟨"java/lang/Throwable", "<init>", "(Ljava/lang/String;)V"⟩]
def strL : List (Nat × String) := [(163, "no such axiom"), (169, "no such lemma"), (171, "no such proof"), (173, "no such step"), (96, "a patch is 1 to 9"), (103, "nothing is open there"), (179, "nothing such is told"), (63, "there are 12 lemmas"), (71, "the lemma has 3 proofs"), (175, "no such kind"), (177, "a gap is 1 to 9"), (84, "the proof has 5 steps")]
/-- what a throw asks of the state beside the good words -/
def excU (U : State) : Prop := vx_Zq Bundle.tN "UNASSIGNED_STACK" Bundle.steD (fun _ => False) U U.heap ∧ vx_Zq Bundle.tN "SUPPRESSED_SENTINEL" Bundle.listD (fun _ => False) U U.heap ∧ (∀ q ∈ strL, ∃ a, vk_R RX0 q.1 q.2 a U) ∧ (∀ E ∈ exL, va_Nw (.castable E E) U) ∧ (∀ y ∈ dcL, va_Nw (.declares y) U)
theorem excU_warm {s U : State} (hW : s.WarmedH U.vm) (hU : U.heap = s.heap) (h : excU s) : excU U := by
  obtain ⟨h1, h2, h3, h4, h5⟩ := h
  refine ⟨by rw [hU]; exact vx_Zq.moved hW.alike h1, by rw [hU]; exact vx_Zq.moved hW.alike h2, fun q hq => ?_, fun E hE => va_Nw.warmC hW (h4 E hE), fun y hy => va_Nw.warmD hW (h5 y hy)⟩
  obtain ⟨a, ha⟩ := h3 q hq
  exact ⟨a, vk_R.warm hW ha⟩
theorem excU_calling {U : State} {g : JFrame} {mk : MethodId} {a : Array Value} (h : excU U) : excU (U.calling g mk a) := by
  obtain ⟨h1, h2, h3, h4, h5⟩ := h
  refine ⟨vx_Zq.moved (u := U) (U := U.calling g mk a) (Vm.Alike.refl U.vm) h1, vx_Zq.moved (u := U) (U := U.calling g mk a) (Vm.Alike.refl U.vm) h2, fun q hq => ?_, fun E hE => va_Nw.same (u := U) (U := U.calling g mk a) rfl rfl (h4 E hE), fun y hy => va_Nw.same (u := U) (U := U.calling g mk a) rfl rfl (h5 y hy)⟩
  obtain ⟨b, hb⟩ := h3 q hq
  exact ⟨b, vk_R.same (u := U) (U := U.calling g mk a) rfl hb⟩
def txX {α : Type} (z : α ⊕ Nat) : String → State → State → Prop := match z with
  | .inl _ => fun _ _ _ => False
  | .inr e => fun E st t => E = exN e ∧ st.heap.size ≤ t.heap.size ∧ ∀ q, q < st.heap.size → t.heap[q]? = st.heap[q]?
def tqv (z : Int32 ⊕ Nat) : Array Value → State → Outcome → State → Prop := match z with
  | .inl _ => va_Sv (fun _ => True)
  | .inr _ => fun _ _ _ _ => False
def tqi (z : Int32 ⊕ Nat) : Array Value → State → Outcome → State → Prop := match z with
  | .inl v => vp_Si (fun r => r = v)
  | .inr _ => fun _ _ _ _ => False
def tqiW {σ : Type} (D : va_G) (w : σ → va_W) (A : Nat → Prop) (z : (Int32 × σ) ⊕ Nat) : Array Value → State → Outcome → State → Prop := match z with
  | .inl q => rwQi D (w q.2) q.1 A
  | .inr _ => fun _ _ _ _ => False
def nwl (E : String) : List Cond := [.castable E E, .declares ⟨"java/lang/RuntimeException", "<init>", "(Ljava/lang/String;)V"⟩, .declares ⟨"java/lang/Exception", "<init>", "(Ljava/lang/String;)V"⟩, .declares ⟨"java/lang/Throwable", "<init>", "(Ljava/lang/String;)V"⟩]
theorem nwl_h {E : String} {s : State} {args : Array Value} (hE : E ∈ exL) (h : excU s) : ∀ w ∈ nwl E, w.before args s = true := by
  obtain ⟨-, -, -, h4, h5⟩ := h
  intro w hw
  simp only [nwl, List.mem_cons, List.not_mem_nil, or_false] at hw
  rcases hw with rfl | rfl | rfl | rfl
  · exact va_Nw.use rfl (h4 E hE)
  · exact va_Nw.use rfl (h5 _ (List.mem_of_getElem? (i := 0) rfl))
  · exact va_Nw.use rfl (h5 _ (List.mem_of_getElem? (i := 1) rfl))
  · exact va_Nw.use rfl (h5 _ (List.mem_of_getElem? (i := 2) rfl))
variable {p : Program} {l : Launch} {e : Env} {R : Room} {s : State} {m : MethodId} {args : Array Value} {below : List Frame} {meth : Method} {c : Code} {H : Heap} {locs : List Loc} {Q : State → Prop}
variable {pc nL : Nat} {ls : Array Slot} {rest : List Value} {cc : ByteArray} {own : String} {D : va_G} {ws : va_W} {tys : List (ClassId × FieldType)} {A : Nat → Prop} {α : Type} {z : α ⊕ Nat} {Qc : Array Value → State → Outcome → State → Prop} {free : Addr → Prop} {mc ms : Nat}
theorem xat1 : ∀ w ∈ (vx_atS RX0 165 "java/lang/IndexOutOfBoundsException" ["java/lang/RuntimeException", "java/lang/Exception"]).filter goodWord, w ∈ lw_tbl := by decide +kernel
theorem xnw1 : ∀ w ∈ (vx_atS RX0 165 "java/lang/IndexOutOfBoundsException" ["java/lang/RuntimeException", "java/lang/Exception"]).filter (fun w => !goodWord w), w ∈ nwl "java/lang/IndexOutOfBoundsException" := by decide +kernel
theorem xgd1 : ∀ w ∈ Cond.classLink RX0 161 "java/lang/IndexOutOfBoundsException" :: Cond.initialized "java/lang/IndexOutOfBoundsException" :: vx_atS RX0 165 "java/lang/IndexOutOfBoundsException" ["java/lang/RuntimeException", "java/lang/Exception"], vx_ot w = true := by decide +kernel
theorem k_throw1 (C : CallFix p m c cc nL s args WW RX0) (hl : l.stackTraces = false) (hE : excU s) (hlocks : meth.locks = false) (hout : ∀ x ∈ c.exceptionTable.toList, False) (h : (some (.inr 1) : Option (α ⊕ Nat)) = some z) {is : Nat} {text : String} (hstr : (is, text) ∈ strL) (hsz : ls.size = nL)
    (hRf : 5 < R.frames) (hRl : (rest.map fun v => v.category).sum + 82 ≤ R.locals) (hRc : 1 ≤ R.cells) (hRs : 6 ≤ R.slots)
    (d0 : decode cc pc = .ok (.new 161, 3)) (d3 : decode cc (pc + 3) = .ok (.dup, 1)) (d4 : decode cc (pc + 4) = .ok (.ldc is, 2)) (d6 : decode cc (pc + 6) = .ok (.invokespecial 165, 3)) (d9 : decode cc (pc + 9) = .ok (.athrow, 1)) :
    W p l e R s m args below meth c s.heap [] 0 0 (tx_MQ below Qc (txX z) args s 1 6 free) (F0 m pc ls rest) := by
  cases h
  obtain ⟨sa, hsa⟩ := hE.2.2.1 _ hstr
  have hin : exN 1 ∈ exL := List.mem_of_getElem? (i := 0) rfl
  refine tx_thr (vx_throwS (cls := "java/lang/IndexOutOfBoundsException") (text := text) (names := ["java/lang/RuntimeException", "java/lang/Exception"]) (ik := 161) (is := is) (ic := 165) (sa := sa) (A := fun _ => False) C.1 C.2.1 hl C.2.2.2.1 (by decide +kernel) (by decide +kernel) (C.2.2.2.2 _ qK_X0_161) (C.2.2.2.2 _ qN_IndexOutOfBoundsException) hsa (vx_hat (fun w hw => C.2.2.2.2 w (WW_flt xat1 w hw)) xnw1 (nwl_h hin hE)) xgd1 hE.1 hE.2.1 va_S.rf (hsz.trans C.2.2.1.symm) d0 d3 d4 d6 d9 (fun x hx => (hout x hx).elim) hRf hRl (by omega) (by omega) hlocks (fun t ht h1 h2 => ⟨rfl, h1, h2⟩) (fun q hq => absurd hq List.not_mem_nil) (Nat.le_refl _) (Nat.le_refl _))
theorem xat2 : ∀ w ∈ (vx_atS RX0 65 "java/lang/IllegalStateException" ["java/lang/RuntimeException", "java/lang/Exception"]).filter goodWord, w ∈ lw_tbl := by decide +kernel
theorem xnw2 : ∀ w ∈ (vx_atS RX0 65 "java/lang/IllegalStateException" ["java/lang/RuntimeException", "java/lang/Exception"]).filter (fun w => !goodWord w), w ∈ nwl "java/lang/IllegalStateException" := by decide +kernel
theorem xgd2 : ∀ w ∈ Cond.classLink RX0 61 "java/lang/IllegalStateException" :: Cond.initialized "java/lang/IllegalStateException" :: vx_atS RX0 65 "java/lang/IllegalStateException" ["java/lang/RuntimeException", "java/lang/Exception"], vx_ot w = true := by decide +kernel
theorem k_throw2 (C : CallFix p m c cc nL s args WW RX0) (hl : l.stackTraces = false) (hE : excU s) (hlocks : meth.locks = false) (hout : ∀ x ∈ c.exceptionTable.toList, False) (h : (some (.inr 2) : Option (α ⊕ Nat)) = some z) {is : Nat} {text : String} (hstr : (is, text) ∈ strL) (hsz : ls.size = nL)
    (hRf : 5 < R.frames) (hRl : (rest.map fun v => v.category).sum + 82 ≤ R.locals) (hRc : 1 ≤ R.cells) (hRs : 6 ≤ R.slots)
    (d0 : decode cc pc = .ok (.new 61, 3)) (d3 : decode cc (pc + 3) = .ok (.dup, 1)) (d4 : decode cc (pc + 4) = .ok (.ldc is, 2)) (d6 : decode cc (pc + 6) = .ok (.invokespecial 65, 3)) (d9 : decode cc (pc + 9) = .ok (.athrow, 1)) :
    W p l e R s m args below meth c s.heap [] 0 0 (tx_MQ below Qc (txX z) args s 1 6 free) (F0 m pc ls rest) := by
  cases h
  obtain ⟨sa, hsa⟩ := hE.2.2.1 _ hstr
  have hin : exN 2 ∈ exL := List.mem_of_getElem? (i := 1) rfl
  refine tx_thr (vx_throwS (cls := "java/lang/IllegalStateException") (text := text) (names := ["java/lang/RuntimeException", "java/lang/Exception"]) (ik := 61) (is := is) (ic := 65) (sa := sa) (A := fun _ => False) C.1 C.2.1 hl C.2.2.2.1 (by decide +kernel) (by decide +kernel) (C.2.2.2.2 _ qK_X0_61) (C.2.2.2.2 _ qN_IllegalStateException) hsa (vx_hat (fun w hw => C.2.2.2.2 w (WW_flt xat2 w hw)) xnw2 (nwl_h hin hE)) xgd2 hE.1 hE.2.1 va_S.rf (hsz.trans C.2.2.1.symm) d0 d3 d4 d6 d9 (fun x hx => (hout x hx).elim) hRf hRl (by omega) (by omega) hlocks (fun t ht h1 h2 => ⟨rfl, h1, h2⟩) (fun q hq => absurd hq List.not_mem_nil) (Nat.le_refl _) (Nat.le_refl _))
theorem xat3 : ∀ w ∈ (vx_atS RX0 98 "java/lang/IllegalArgumentException" ["java/lang/RuntimeException", "java/lang/Exception"]).filter goodWord, w ∈ lw_tbl := by decide +kernel
theorem xnw3 : ∀ w ∈ (vx_atS RX0 98 "java/lang/IllegalArgumentException" ["java/lang/RuntimeException", "java/lang/Exception"]).filter (fun w => !goodWord w), w ∈ nwl "java/lang/IllegalArgumentException" := by decide +kernel
theorem xgd3 : ∀ w ∈ Cond.classLink RX0 94 "java/lang/IllegalArgumentException" :: Cond.initialized "java/lang/IllegalArgumentException" :: vx_atS RX0 98 "java/lang/IllegalArgumentException" ["java/lang/RuntimeException", "java/lang/Exception"], vx_ot w = true := by decide +kernel
theorem k_throw3 (C : CallFix p m c cc nL s args WW RX0) (hl : l.stackTraces = false) (hE : excU s) (hlocks : meth.locks = false) (hout : ∀ x ∈ c.exceptionTable.toList, False) (h : (some (.inr 3) : Option (α ⊕ Nat)) = some z) {is : Nat} {text : String} (hstr : (is, text) ∈ strL) (hsz : ls.size = nL)
    (hRf : 5 < R.frames) (hRl : (rest.map fun v => v.category).sum + 82 ≤ R.locals) (hRc : 1 ≤ R.cells) (hRs : 6 ≤ R.slots)
    (d0 : decode cc pc = .ok (.new 94, 3)) (d3 : decode cc (pc + 3) = .ok (.dup, 1)) (d4 : decode cc (pc + 4) = .ok (.ldc is, 2)) (d6 : decode cc (pc + 6) = .ok (.invokespecial 98, 3)) (d9 : decode cc (pc + 9) = .ok (.athrow, 1)) :
    W p l e R s m args below meth c s.heap [] 0 0 (tx_MQ below Qc (txX z) args s 1 6 free) (F0 m pc ls rest) := by
  cases h
  obtain ⟨sa, hsa⟩ := hE.2.2.1 _ hstr
  have hin : exN 3 ∈ exL := List.mem_of_getElem? (i := 2) rfl
  refine tx_thr (vx_throwS (cls := "java/lang/IllegalArgumentException") (text := text) (names := ["java/lang/RuntimeException", "java/lang/Exception"]) (ik := 94) (is := is) (ic := 98) (sa := sa) (A := fun _ => False) C.1 C.2.1 hl C.2.2.2.1 (by decide +kernel) (by decide +kernel) (C.2.2.2.2 _ qK_X0_94) (C.2.2.2.2 _ qN_IllegalArgumentException) hsa (vx_hat (fun w hw => C.2.2.2.2 w (WW_flt xat3 w hw)) xnw3 (nwl_h hin hE)) xgd3 hE.1 hE.2.1 va_S.rf (hsz.trans C.2.2.1.symm) d0 d3 d4 d6 d9 (fun x hx => (hout x hx).elim) hRf hRl (by omega) (by omega) hlocks (fun t ht h1 h2 => ⟨rfl, h1, h2⟩) (fun q hq => absurd hq List.not_mem_nil) (Nat.le_refl _) (Nat.le_refl _))
theorem k_txV (C : CallFix p m c cc nL s args WW own) (hE : excU s) (hlocks : meth.locks = false) (hout : ∀ x ∈ c.exceptionTable.toList, False) {CL : String} {a0 : Nat} {idx n mL : Nat} {y : MethodName} {b : ByteArray} {ret : Option FieldType} {rm : Room} (hK : va_K D vwCl tys s) (hP : va_P D vwCl ws s.heap) (hrv : ∃ cellB : Cell, s.heap[a0]? = some cellB ∧ cellB.vm.isStatics = false ∧ s.vm.findClass CL = some cellB.cls) (As : List Value) {f : Option (Int32 ⊕ Nat)} {K : Int32 → Option (α ⊕ Nat)} (h : tb f K = some z)
    (hM : ∀ o, f = some o → tx_Met l y (Cond.code y b mL ret :: WW) rm (va_Pc (.ref a0 :: As) (fun U => roP D ws tys U ∧ excU U)) (tqv o) (txX o) 1 6 (fun _ => False))
    (cw : CallW R s args own CL idx y b mL ret (Cond.code y b mL ret :: WW) rm 1 6 n) (hn : As.length = n) (hls : ls.size = nL) (hst : (rest.map fun v => v.category).sum ≤ 8) (hf : 0 + 1 ≤ R.cells ∧ 0 + 6 ≤ R.slots) (hdg : decode cc pc = .ok (.invokevirtual idx, 3)) {st : List Value} (hstk : st = As.reverse ++ .ref a0 :: rest)
    (kk : ∀ v, f = some (.inl v) → K v = some z → W p l e R s m args below meth c s.heap [] 0 0 (tx_MQ below Qc (txX z) args s 1 6 free) (F0 m (pc + 3) ls rest)) : W p l e R s m args below meth c s.heap [] 0 0 (tx_MQ below Qc (txX z) args s 1 6 free) (F0 m pc ls st) := by
  rcases tb_h h with ⟨v, e1, e2⟩ | ⟨e', e1, rfl⟩
  · intro T hT X
    rcases tx_runV (As := As) (rest := rest) C (hM _ e1) cw ⟨(fun a U g mk q => ⟨q.1, ⟨q.2.1.1, va_K.moved (u := U) (U := U.calling g mk a) (Vm.Alike.refl U.vm) q.2.1.2⟩, excU_calling q.2.2⟩), hrv, fun U hU hW => ⟨rfl, ⟨by rw [hU]; exact hP, hK.moved hW.alike⟩, excU_warm hW hU hE⟩⟩ rfl hn hls hstk (lv_room hst) hdg hf T hT X with ⟨v', st₀, t, T', L, h0, X', hL, e3, e4, hq, st⟩ | ⟨q, st₀, t, T', L, E, ce, h0, X', hL, e3, e4, hx, -⟩
    · obtain ⟨hv, -, hh⟩ := hq
      cases hv
      obtain ⟨t2, a1, b1⟩ := kk v e1 e2 T' (by rw [e3, hh, h0]) (Stand.forget X' (fun q h => (hL q h).elim))
      exact ⟨t2, st t2 a1, b1⟩
    · exact hx.elim
  · intro T hT X
    rcases tx_runV (As := As) (rest := rest) C (hM _ e1) cw ⟨(fun a U g mk q => ⟨q.1, ⟨q.2.1.1, va_K.moved (u := U) (U := U.calling g mk a) (Vm.Alike.refl U.vm) q.2.1.2⟩, excU_calling q.2.2⟩), hrv, fun U hU hW => ⟨rfl, ⟨by rw [hU]; exact hP, hK.moved hW.alike⟩, excU_warm hW hU hE⟩⟩ rfl hn hls hstk (lv_room hst) hdg hf T hT X with ⟨v', st₀, t, T', L, h0, X', hL, e3, e4, hq, st⟩ | ⟨q, st₀, t, T', L, E, ce, h0, X', hL, e3, e4, hx, hce, hcv, hcl, st⟩
    · exact hq.elim
    · obtain ⟨x1, x2, x3⟩ := hx
      rw [h0] at x2 x3
      obtain ⟨t2, a1, b1⟩ := tx_thrW (Qc := Qc) (vx_out (XC := txX (.inr e' : α ⊕ Nat)) (mc := 1) (ms := 6) (free := free) (fun x hx => (hout x hx).elim) hlocks (by rw [e3]; exact hce) hcv hcl (fun t' ht' _ => ⟨x1, by rw [ht', e3]; exact x2, fun q hq => by rw [ht', e3]; exact x3 q hq⟩) (fun q hq => (hL q (by simpa using hq)).elim) (Nat.le_refl _) (Nat.le_refl _)) T' rfl X'
      exact ⟨t2, st.trans a1, b1⟩
theorem k_txS (C : CallFix p m c cc nL s args WW own) (hE : excU s) (hlocks : meth.locks = false) (hout : ∀ x ∈ c.exceptionTable.toList, False) {idx n mL : Nat} {y : MethodName} {b : ByteArray} {ret : Option FieldType} {rm : Room} (As : List Value) {f : Option (Int32 ⊕ Nat)} {K : Int32 → Option (α ⊕ Nat)} (h : tb f K = some z)
    (hM : ∀ o, f = some o → tx_Met l y (Cond.code y b mL ret :: WW) rm (va_Pc As excU) (tqv o) (txX o) 1 6 (fun _ => False))
    (cw : CallB R s args own idx y b mL ret (Cond.code y b mL ret :: WW) rm 1 6 n ∧ (Cond.static y).before args s = true) (hn : As.length = n) (hls : ls.size = nL) (hst : (rest.map fun v => v.category).sum ≤ 8) (hf : 0 + 1 ≤ R.cells ∧ 0 + 6 ≤ R.slots) (hdg : decode cc pc = .ok (.invokestatic idx, 3)) {st : List Value} (hstk : st = As.reverse ++ rest)
    (kk : ∀ v, f = some (.inl v) → K v = some z → W p l e R s m args below meth c s.heap [] 0 0 (tx_MQ below Qc (txX z) args s 1 6 free) (F0 m (pc + 3) ls rest)) : W p l e R s m args below meth c s.heap [] 0 0 (tx_MQ below Qc (txX z) args s 1 6 free) (F0 m pc ls st) := by
  rcases tb_h h with ⟨v, e1, e2⟩ | ⟨e', e1, rfl⟩
  · intro T hT X
    rcases tx_runS (As := As) (rest := rest) C (hM _ e1) cw ⟨(fun a U g mk q => ⟨q.1, excU_calling q.2⟩), fun U hU hW => ⟨rfl, excU_warm hW hU hE⟩⟩ rfl hn hls hstk (lv_room hst) hdg hf T hT X with ⟨v', st₀, t, T', L, h0, X', hL, e3, e4, hq, st⟩ | ⟨q, st₀, t, T', L, E, ce, h0, X', hL, e3, e4, hx, -⟩
    · obtain ⟨hv, -, hh⟩ := hq
      cases hv
      obtain ⟨t2, a1, b1⟩ := kk v e1 e2 T' (by rw [e3, hh, h0]) (Stand.forget X' (fun q h => (hL q h).elim))
      exact ⟨t2, st t2 a1, b1⟩
    · exact hx.elim
  · intro T hT X
    rcases tx_runS (As := As) (rest := rest) C (hM _ e1) cw ⟨(fun a U g mk q => ⟨q.1, excU_calling q.2⟩), fun U hU hW => ⟨rfl, excU_warm hW hU hE⟩⟩ rfl hn hls hstk (lv_room hst) hdg hf T hT X with ⟨v', st₀, t, T', L, h0, X', hL, e3, e4, hq, st⟩ | ⟨q, st₀, t, T', L, E, ce, h0, X', hL, e3, e4, hx, hce, hcv, hcl, st⟩
    · exact hq.elim
    · obtain ⟨x1, x2, x3⟩ := hx
      rw [h0] at x2 x3
      obtain ⟨t2, a1, b1⟩ := tx_thrW (Qc := Qc) (vx_out (XC := txX (.inr e' : α ⊕ Nat)) (mc := 1) (ms := 6) (free := free) (fun x hx => (hout x hx).elim) hlocks (by rw [e3]; exact hce) hcv hcl (fun t' ht' _ => ⟨x1, by rw [ht', e3]; exact x2, fun q hq => by rw [ht', e3]; exact x3 q hq⟩) (fun q hq => (hL q (by simpa using hq)).elim) (Nat.le_refl _) (Nat.le_refl _)) T' rfl X'
      exact ⟨t2, st.trans a1, b1⟩
theorem TX_of {y : MethodName} {b : ByteArray} {mL : Nat} {ret : Option FieldType} {rm : Room} {av : List Value} {Pre : State → Prop} {XC : String → State → State → Prop} (hy : plainName y.cls = true) (ho : y.cls = own) (hn : (lg_sl av).length ≤ mL)
    (body : ∀ p e s m args below meth c, args = av.toArray → CallFix p m c b mL s args WW own → meth.sig.returnType = ret → meth.locks = false → (∀ x ∈ c.exceptionTable.toList, False) → Pre s → ∀ ls : Array Slot, lv_has ls mL (lv_args 0 av) →
      W p l e rm s m args below meth c s.heap [] 0 0 (tx_MQ below Qc XC args s mc ms free) (F0 m 0 ls [])) : tx_Met l y (Cond.code y b mL ret :: WW) rm (va_Pc av Pre) Qc XC mc ms free := by
  refine tx_ofW (cc := b) (maxL := mL) (ret := ret) hy rfl ?_
  intro p e s m args below meth c s₁ B hml ht hv
  obtain ⟨rfl, hp⟩ := hv
  have hts := atoms_spec (ws := Cond.code y b mL ret :: WW) B.pre
  have hl := lv_entry av hn
  rw [lg_entry_eq]
  exact body p e s m _ below meth c rfl ⟨B.exec, B.bytes, hml, ho ▸ findClass_of_methodNamed B.named, fun w h => hts w (List.mem_cons_of_mem _ h)⟩ B.returns B.notSynchronized ht hp _ hl
/-- a method that throws before it writes -/
theorem TXW_of {y : MethodName} {b : ByteArray} {mL : Nat} {ret : Option FieldType} {rm : Room} {av : List Value} {sz : Nat} {QF : (Nat → Prop) → Array Value → State → Outcome → State → Prop} {XC : String → State → State → Prop} (hy : plainName y.cls = true) (ho : y.cls = own) (hn : (lg_sl av).length ≤ mL)
    (body : ∀ p e s m args below meth c A, args = av.toArray → CallFix p m c b mL s args WW own → meth.sig.returnType = ret → meth.locks = false → (∀ x ∈ c.exceptionTable.toList, False) → va_P D vwCl ws s.heap → va_K D vwCl tys s → va_D A ws → (∀ q, s.heap.size ≤ q → A q) → excU s → ∀ ls : Array Slot, lv_has ls mL (lv_args 0 av) →
      W p l e rm s m args below meth c s.heap [] 0 0 (tx_MQ below (QF A) XC args s mc ms A) (F0 m 0 ls [])) : tx_Met l y (Cond.code y b mL ret :: WW) rm (va_Pc av (fun U => rwP D ws tys sz U ∧ excU U)) (QF (va_A ws sz)) XC mc ms (va_A ws sz) := by
  refine TX_of hy ho hn ?_
  intro p e s m args below meth c ha C hr hlk hout hpre ls hl
  obtain ⟨⟨hsz, hP, hK, hD0⟩, hE⟩ := hpre
  subst hsz
  exact body p e s m args below meth c _ ha C hr hlk hout hP hK hD0.self (fun q h => Or.inr h) hE ls hl
theorem k_iretT (C : CallFix p m c cc nL s args WW own) (hr : meth.sig.returnType = some .int) (hlocks : meth.locks = false) {v : Int32} {z : Int32 ⊕ Nat} (h : some (.inl v) = some z) (hdg : decode cc pc = .ok (.ireturn, 1)) :
    W p l e R s m args below meth c s.heap [] 0 0 (tx_MQ below (tqi z) (txX z) args s mc ms free) (F0 m pc ls [.int v]) := by
  cases h
  exact tx_ret (W.iret (v := v) C.1 C.2.1 hr (fun t ht _ => ⟨v, rfl, rfl, ht⟩) (fun q hq => absurd hq List.not_mem_nil) hdg hlocks)
theorem k_vretT (C : CallFix p m c cc nL s args WW own) (hr : meth.sig.returnType = none) (hlocks : meth.locks = false) {v : Int32} {z : Int32 ⊕ Nat} (h : some (.inl v) = some z) (hdg : decode cc pc = .ok (.return_, 1)) :
    W p l e R s m args below meth c s.heap [] 0 0 (tx_MQ below (tqv z) (txX z) args s mc ms free) (F0 m pc ls []) := by
  cases h
  exact tx_ret (W.vret C.1 C.2.1 hr (fun t ht _ => ⟨rfl, trivial, ht⟩) (fun q hq => absurd hq List.not_mem_nil) hdg hlocks)
theorem k_iretTW (C : CallFix p m c cc nL s args WW own) (hr : meth.sig.returnType = some .int) (hlocks : meth.locks = false) {σ : Type} {w : σ → va_W} {v : Int32} {S1 : σ} {z : (Int32 × σ) ⊕ Nat} (h : some (.inl (v, S1)) = some z) (hP : va_P D vwCl (w S1) H) (hS : va_S A s.heap H locs) (hdg : decode cc pc = .ok (.ireturn, 1)) :
    W p l e R s m args below meth c H locs 0 0 (tx_MQ below (tqiW D w A z) (txX z) args s mc ms A) (F0 m pc ls [.int v]) := by
  cases h
  exact tx_ret (W.iret (v := v) C.1 C.2.1 hr (fun t ht _ => ⟨⟨v, (), rfl, rfl, (show va_P D vwCl (w S1) t.heap by rw [ht]; exact hP)⟩, hS.F ht⟩) hS.2.2 hdg hlocks)
theorem k_zretTW (C : CallFix p m c cc nL s args WW own) (hr : meth.sig.returnType = some .boolean) (hlocks : meth.locks = false) {σ : Type} {w : σ → va_W} {v : Int32} {S1 : σ} {z : (Int32 × σ) ⊕ Nat} (h : gz v (some (.inl (v, S1))) = some z) (hP : va_P D vwCl (w S1) H) (hS : va_S A s.heap H locs) (hdg : decode cc pc = .ok (.ireturn, 1)) :
    W p l e R s m args below meth c H locs 0 0 (tx_MQ below (tqiW D w A z) (txX z) args s mc ms A) (F0 m pc ls [.int v]) := by
  obtain ⟨g, h⟩ := gz_h h
  cases h
  exact tx_ret (W.zret (v := v) C.1 C.2.1 hr (by show Value.int (v &&& 1) = _; rw [g]) (fun t ht _ => ⟨⟨v, (), rfl, rfl, (show va_P D vwCl (w S1) t.heap by rw [ht]; exact hP)⟩, hS.F ht⟩) hS.2.2 hdg hlocks)
theorem sw_ne {x k : Int32} {j : Int} (h : ¬ x = k) (e : k.toInt = j) : x.toInt ≠ j := fun q => h (Int32.toInt_inj.mp (q.trans e.symm))
end TXR
