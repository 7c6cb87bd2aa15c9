section HKITB
def irm (x y : Int32) : Option Int32 := if y = 0 then none else some (x - x / y * y)
def idv (x y : Int32) : Option Int32 := if y = 0 then none else some (x / y)
theorem itr1_indn {ρ A1 : Type} {F : (A1 → Option ρ) → A1 → Option ρ} {z : ρ} (P : Nat → A1 → Prop) (hs : ∀ (n : Nat) (ih : A1 → Option ρ), (∀ a, ih a = some z → P n a) → ∀ a, F ih a = some z → P (n + 1) a) : ∀ n a, itr1 F n a = some z → P n a := by
  intro n
  induction n with
  | zero => intro a h; cases h
  | succ n ih => intro a h; exact hs n _ ih a h
theorem itr2_indn {ρ A1 A2 : Type} {F : (A1 → A2 → Option ρ) → A1 → A2 → Option ρ} {z : ρ} (P : Nat → A1 → A2 → Prop) (hs : ∀ (n : Nat) (ih : A1 → A2 → Option ρ), (∀ a b, ih a b = some z → P n a b) → ∀ a b, F ih a b = some z → P (n + 1) a b) : ∀ n a b, itr2 F n a b = some z → P n a b := by
  intro n
  induction n with
  | zero => intro a b h; cases h
  | succ n ih => intro a b h; exact hs n _ ih a b h
theorem itr3_indn {ρ A1 A2 A3 : Type} {F : (A1 → A2 → A3 → Option ρ) → A1 → A2 → A3 → Option ρ} {z : ρ} (P : Nat → A1 → A2 → A3 → Prop) (hs : ∀ (n : Nat) (ih : A1 → A2 → A3 → Option ρ), (∀ a b c, ih a b c = some z → P n a b c) → ∀ a b c, F ih a b c = some z → P (n + 1) a b c) : ∀ n a b c, itr3 F n a b c = some z → P n a b c := by
  intro n
  induction n with
  | zero => intro a b c h; cases h
  | succ n ih => intro a b c h; exact hs n _ ih a b c h
theorem itr4_indn {ρ A1 A2 A3 A4 : Type} {F : (A1 → A2 → A3 → A4 → Option ρ) → A1 → A2 → A3 → A4 → Option ρ} {z : ρ} (P : Nat → A1 → A2 → A3 → A4 → Prop) (hs : ∀ (n : Nat) (ih : A1 → A2 → A3 → A4 → Option ρ), (∀ a b c d, ih a b c d = some z → P n a b c d) → ∀ a b c d, F ih a b c d = some z → P (n + 1) a b c d) : ∀ n a b c d, itr4 F n a b c d = some z → P n a b c d := by
  intro n
  induction n with
  | zero => intro a b c d h; cases h
  | succ n ih => intro a b c d h; exact hs n _ ih a b c d h
theorem itr5_indn {ρ A1 A2 A3 A4 A5 : Type} {F : (A1 → A2 → A3 → A4 → A5 → Option ρ) → A1 → A2 → A3 → A4 → A5 → Option ρ} {z : ρ} (P : Nat → A1 → A2 → A3 → A4 → A5 → Prop) (hs : ∀ (n : Nat) (ih : A1 → A2 → A3 → A4 → A5 → Option ρ), (∀ a b c d e, ih a b c d e = some z → P n a b c d e) → ∀ a b c d e, F ih a b c d e = some z → P (n + 1) a b c d e) : ∀ n a b c d e, itr5 F n a b c d e = some z → P n a b c d e := by
  intro n
  induction n with
  | zero => intro a b c d e h; cases h
  | succ n ih => intro a b c d e h; exact hs n _ ih a b c d e h
variable {p : Program} {l : Launch} {e : Env} {R : Room} {s : State} {m : MethodId} {args : Array Value} {below : List Frame} {meth : Method} {c : Code} {H : Heap} {locs : List Loc} {cells slots : Nat} {Q : State → Prop}
variable {pc nL : Nat} {ls : Array Slot} {rest : List Value} {cc : ByteArray} {own : String} {D : va_G} {A : Nat → Prop} {H0 : Heap} {ρ : Type} {z : ρ} {k : Nat → ClassId} {a a0 : Nat → Nat} {n0 : Nat} {wr : va_W} {Hp : HS} {ax : Nat → Nat} {S : XS}
theorem k_irem (C : CallFix p m c cc nL s args WW own) {x y : Int32} {K : Int32 → Option ρ} (h : (irm x y).bind K = some z) (hdg : decode cc pc = .ok (.irem, 1)) (kk : ∀ v, K v = some z → W p l e R s m args below meth c H locs cells slots Q (F0 m (pc + 1) ls (.int v :: rest))) : W p l e R s m args below meth c H locs cells slots Q (F0 m pc ls (.int y :: .int x :: rest)) := by
  obtain ⟨v, e1, e2⟩ := ob_h h
  unfold irm at e1
  by_cases q : y = 0
  · rw [if_pos q] at e1; cases e1
  · rw [if_neg q] at e1
    cases e1
    exact lv_irem C.1 C.2.1 hdg q (kk _ e2)
theorem k_idiv (C : CallFix p m c cc nL s args WW own) {x y : Int32} {K : Int32 → Option ρ} (h : (idv x y).bind K = some z) (hdg : decode cc pc = .ok (.idiv, 1)) (kk : ∀ v, K v = some z → W p l e R s m args below meth c H locs cells slots Q (F0 m (pc + 1) ls (.int v :: rest))) : W p l e R s m args below meth c H locs cells slots Q (F0 m pc ls (.int y :: .int x :: rest)) := by
  obtain ⟨v, e1, e2⟩ := ob_h h
  unfold idv at e1
  by_cases q : y = 0
  · rw [if_pos q] at e1; cases e1
  · rw [if_neg q] at e1
    cases e1
    exact lv_idiv C.1 C.2.1 hdg q (kk _ e2)
/-- a reader of the script -/
theorem XS_of {y : MethodName} {b : ByteArray} {mL : Nat} {ret : Option FieldType} {rm : Room} {av : List Value} {q L : Nat} {xs : Nat → Int32} {Qc : Array Value → State → Outcome → State → Prop} (hy : plainName y.cls = true) (ho : y.cls = own) (hn : (lg_sl av).length ≤ mL)
    (body : ∀ p e s m args below meth c, args = av.toArray → CallFix p m c b mL s args WW own → meth.sig.returnType = ret → meth.locks = false → va_X q L xs s s.heap → q < s.heap.size → ∀ ls : Array Slot, lv_has ls mL (lv_args 0 av) →
      W p l e rm s m args below meth c s.heap [] 0 0 (MQ below Qc args s 0 0 (fun _ => False)) (F0 m 0 ls [])) : Met l y (Cond.code y b mL ret :: WW) rm (va_Pc av (fun U => va_X q L xs U U.heap)) Qc 0 0 (fun _ => False) := by
  refine Met.ofW (cc := b) (maxL := mL) (ret := ret) hy rfl ?_
  intro p e s m args below meth c s₁ B hml hv
  obtain ⟨rfl, hX⟩ := hv
  have hts := atoms_spec (ws := Cond.code y b mL ret :: WW) B.pre
  have hl := lv_entry av hn
  rw [lg_entry_eq]
  have hq : q < s.heap.size := by
    obtain ⟨scr, h1, -⟩ := hX
    exact (Array.getElem?_eq_some_iff.mp h1).1
  exact body p e s m _ below meth c rfl ⟨B.exec, B.bytes, hml, ho ▸ findClass_of_methodNamed B.named, fun w h => hts w (List.mem_cons_of_mem _ h)⟩ B.returns B.notSynchronized hX hq _ hl
theorem X_now {q L : Nat} {xs : Nat → Int32} {U : State} (hX : va_X q L xs s s.heap) (hql : q < s.heap.size) (hqA : ¬ A q) (hS : va_S A s.heap H locs) (hU : U.heap = H) (hW : s.WarmedH U.vm) : va_X q L xs U U.heap := by
  obtain ⟨scr, h1, h2⟩ := va_X.moved hW.alike hX
  exact ⟨scr, by rw [hU, hS.2.1 q hql hqA]; exact h1, h2⟩
theorem k_scr (C : CallFix p m c cc nL s args WW own) {q L : Nat} {xs : Nat → Int32} (hX : va_X q L xs s s.heap) (hql : q < s.heap.size) (hqA : ¬ A q) (hS : va_S A s.heap H locs) {idx n mL : Nat} {y : MethodName} {b : ByteArray} {ret : Option FieldType} {rm : Room} (As : List Value) {f : Option Int32} {K : Int32 → Option ρ} (h : f.bind K = some z)
    (hM : ∀ v, f = some v → Met l y (Cond.code y b mL ret :: WW) rm (va_Pc As (fun U => va_X q L xs U U.heap)) (vp_Si (fun r => r = v)) 0 0 (fun _ => False))
    (cw : CallB R s args own idx y b mL ret (Cond.code y b mL ret :: WW) rm 0 0 n ∧ (Cond.static y).before args s = true) (hn : As.length = n) (hls : ls.size = nL) (hst : (rest.map fun v => v.category).sum ≤ 8) (hf : cells + 0 ≤ R.cells ∧ slots + 0 ≤ R.slots) (hdg : decode cc pc = .ok (.invokestatic idx, 3)) {st : List Value} (hstk : st = As.reverse ++ rest)
    (kk : ∀ v, K v = some z → W p l e R s m args below meth c H locs cells slots Q (F0 m (pc + 3) ls (.int v :: rest))) : W p l e R s m args below meth c H locs cells slots Q (F0 m pc ls st) := by
  obtain ⟨v, e1, e2⟩ := ob_h h
  exact vp_callSi (W.runS (As := As) (rest := rest) C (hM v e1) cw ⟨(fun b U g mk w => ⟨w.1, va_X.moved (u := U) (U := U.calling g mk b) (Vm.Alike.refl U.vm) w.2⟩), fun U hU hW => ⟨rfl, X_now hX hql hqA hS hU hW⟩⟩ rfl hn hls hstk (lv_room hst) hdg hf) (fun r hr => by subst hr; exact kk _ e2)
/-- methods that have the class beside them -/
def hPreL (D : va_G) (k : Nat → ClassId) (wr : va_W) (a : Nat → Nat) (Hp : HS) (sz : Nat) (U : State) : Prop := hPre D k wr a Hp sz U ∧ excA (va_A (wr ++ wH k a Hp) sz) U
def hPreB (D : va_G) (k : Nat → ClassId) (wr : va_W) (a : Nat → Nat) (Hp : HS) (q L : Nat) (xs : Nat → Int32) (sz : Nat) (U : State) : Prop := hPreL D k wr a Hp sz U ∧ va_X q L xs U U.heap ∧ ¬ va_A (wr ++ wH k a Hp) sz q
theorem hPreL_calling {sz : Nat} {U : State} {g : JFrame} {mk : MethodId} {av : Array Value} (h : hPreL D k wr a Hp sz U) : hPreL D k wr a Hp sz (U.calling g mk av) := ⟨hPre_calling h.1, excA_calling h.2⟩
theorem hPreL_blind {sz : Nat} {av : List Value} : FrameBlind (va_Pc av (hPreL D k wr a Hp sz)) := fun b U g mk q => ⟨q.1, hPreL_calling q.2⟩
theorem hPreB_blind {sz : Nat} {av : List Value} {q L : Nat} {xs : Nat → Int32} : FrameBlind (va_Pc av (hPreB D k wr a Hp q L xs sz)) := fun b U g mk w => ⟨w.1, hPreL_calling w.2.1, va_X.moved (u := U) (U := U.calling g mk b) (Vm.Alike.refl U.vm) w.2.2.1, w.2.2.2⟩
theorem hPreL_now {U : State} (hK : va_K D vwCl (tyH k) s) (hB : hBX s) (hA : ∀ q, s.heap.size ≤ q → A q) (hE : excA A s) (hT : hST D k A s wr a0 n0 a Hp H locs) (hU : U.heap = H) (hW : s.WarmedH U.vm) : hPreL D k wr a Hp H.size U := by
  obtain ⟨hP, hD, hS, hw, hag, hn⟩ := hT
  exact ⟨hPre_now hP hK hB hD hw hU hW, excA_at hE hS hU hW (A_sub hD hS hA)⟩
theorem LV_of {y : MethodName} {b : ByteArray} {mL : Nat} {ret : Option FieldType} {rm : Room} {sz : Nat} {av : List Value} {Qc : (Nat → Prop) → Array Value → State → Outcome → State → Prop} {mc ms : Nat} (hy : plainName y.cls = true) (ho : y.cls = own) (hn : (lg_sl av).length ≤ mL)
    (body : ∀ p e s m args below meth c A, args = av.toArray → CallFix p m c b mL s args WW own → meth.sig.returnType = ret → meth.locks = false → va_K D vwCl (tyH k) s → hBX s → (∀ q, s.heap.size ≤ q → A q) → hST D k A s wr a Hp.length a Hp s.heap [] → excA A s → ∀ ls : Array Slot, lv_has ls mL (lv_args 0 av) →
      W p l e rm s m args below meth c s.heap [] 0 0 (MQ below (Qc A) args s mc ms A) (F0 m 0 ls [])) : Met l y (Cond.code y b mL ret :: WW) rm (va_Pc av (hPreL D k wr a Hp sz)) (Qc (va_A (wr ++ wH k a Hp) sz)) mc ms (va_A (wr ++ wH k a Hp) sz) := by
  refine Met.ofW (cc := b) (maxL := mL) (ret := ret) hy rfl ?_
  intro p e s m args below meth c s₁ B hml hv
  obtain ⟨rfl, hpre⟩ := hv
  have hts := atoms_spec (ws := Cond.code y b mL ret :: WW) B.pre
  have hl := lv_entry av hn
  rw [lg_entry_eq]
  obtain ⟨hpre, hE⟩ := hpre
  have hT := hST_start hpre
  obtain ⟨h1, h2, h3, h4, h5, h6⟩ := hpre
  subst h1
  exact body p e s m _ below meth c _ rfl ⟨B.exec, B.bytes, hml, ho ▸ findClass_of_methodNamed B.named, fun w h => hts w (List.mem_cons_of_mem _ h)⟩ B.returns B.notSynchronized h3 h4 (fun q h => Or.inr h) hT hE _ hl
theorem LA_of {y : MethodName} {b : ByteArray} {mL : Nat} {ret : Option FieldType} {hh : List (Nat × Nat × Nat × Nat)} {rm : Room} {sz : Nat} {av : List Value} {Qc : (Nat → Prop) → Array Value → State → Outcome → State → Prop} {mc ms : Nat} (hy : plainName y.cls = true) (ho : y.cls = own) (hn : (lg_sl av).length ≤ mL)
    (body : ∀ p e s m args below meth c A, args = av.toArray → CallFix p m c b mL s args WW own → meth.sig.returnType = ret → meth.locks = false → c.exceptionTable.toList = tableOf hh → va_K D vwCl (tyH k) s → hBX s → (∀ q, s.heap.size ≤ q → A q) → hST D k A s wr a Hp.length a Hp s.heap [] → excA A s → ∀ ls : Array Slot, lv_has ls mL (lv_args 0 av) →
      W p l e rm s m args below meth c s.heap [] 0 0 (MQ below (Qc A) args s mc ms A) (F0 m 0 ls [])) : Met l y (Cond.codeWith y b mL ret hh :: WW) rm (va_Pc av (hPreL D k wr a Hp sz)) (Qc (va_A (wr ++ wH k a Hp) sz)) mc ms (va_A (wr ++ wH k a Hp) sz) := by
  refine va_MetW (cc := b) (maxL := mL) (ret := ret) (hh := hh) hy rfl ?_
  intro p e s m args below meth c s₁ B hml hv
  obtain ⟨rfl, hpre⟩ := hv
  have hts := atoms_spec (ws := Cond.codeWith y b mL ret hh :: WW) B.pre
  have htab := vx_table (x := y) B (hts _ List.mem_cons_self)
  have hl := lv_entry av hn
  rw [lg_entry_eq]
  obtain ⟨hpre, hE⟩ := hpre
  have hT := hST_start hpre
  obtain ⟨h1, h2, h3, h4, h5, h6⟩ := hpre
  subst h1
  exact body p e s m _ below meth c _ rfl ⟨B.exec, B.bytes, hml, ho ▸ findClass_of_methodNamed B.named, fun w h => hts w (List.mem_cons_of_mem _ h)⟩ B.returns B.notSynchronized htab h3 h4 (fun q h => Or.inr h) hT hE _ hl
theorem LB_of {y : MethodName} {b : ByteArray} {mL : Nat} {ret : Option FieldType} {q L : Nat} {xs : Nat → Int32} {rm : Room} {sz : Nat} {av : List Value} {Qc : (Nat → Prop) → Array Value → State → Outcome → State → Prop} {mc ms : Nat} (hy : plainName y.cls = true) (ho : y.cls = own) (hn : (lg_sl av).length ≤ mL)
    (body : ∀ p e s m args below meth c A, args = av.toArray → CallFix p m c b mL s args WW own → meth.sig.returnType = ret → meth.locks = false → va_K D vwCl (tyH k) s → hBX s → (∀ q, s.heap.size ≤ q → A q) → hST D k A s wr a Hp.length a Hp s.heap [] → excA A s → va_X q L xs s s.heap → q < s.heap.size → ¬ A q → ∀ ls : Array Slot, lv_has ls mL (lv_args 0 av) →
      W p l e rm s m args below meth c s.heap [] 0 0 (MQ below (Qc A) args s mc ms A) (F0 m 0 ls [])) : Met l y (Cond.code y b mL ret :: WW) rm (va_Pc av (hPreB D k wr a Hp q L xs sz)) (Qc (va_A (wr ++ wH k a Hp) sz)) mc ms (va_A (wr ++ wH k a Hp) sz) := by
  refine Met.ofW (cc := b) (maxL := mL) (ret := ret) hy rfl ?_
  intro p e s m args below meth c s₁ B hml hv
  obtain ⟨rfl, hpre⟩ := hv
  have hts := atoms_spec (ws := Cond.code y b mL ret :: WW) B.pre
  have hl := lv_entry av hn
  rw [lg_entry_eq]
  obtain ⟨hpre, hX, hqA⟩ := hpre
  have hq : q < s.heap.size := by
    obtain ⟨scr, h1, -⟩ := hX
    exact (Array.getElem?_eq_some_iff.mp h1).1
  obtain ⟨hpre, hE⟩ := hpre
  have hT := hST_start hpre
  obtain ⟨h1, h2, h3, h4, h5, h6⟩ := hpre
  subst h1
  exact body p e s m _ below meth c _ rfl ⟨B.exec, B.bytes, hml, ho ▸ findClass_of_methodNamed B.named, fun w h => hts w (List.mem_cons_of_mem _ h)⟩ B.returns B.notSynchronized h3 h4 (fun q h => Or.inr h) hT hE hX hq hqA _ hl
def hcbL {α ρ : Type} (rs os : List Nat) (Hp : HS) (f : Option (α × (XS × HS))) (K : α → XS → HS → Option ρ) : Option ρ := if (¬ ∀ r ∈ rs, r < Hp.length) ∨ (¬ ∀ r ∈ os, (hN Hp r 5).isSome = true) then none else match f with
  | some (v, (S, Hp2)) => K v S Hp2
  | none => none
theorem hcbL_h {α : Type} {rs os : List Nat} {f : Option (α × (XS × HS))} {K : α → XS → HS → Option ρ} (h : hcbL rs os Hp f K = some z) : (∀ r ∈ rs, r < Hp.length) ∧ (∀ r ∈ os, (hN Hp r 5).isSome = true) ∧ ∃ v S Hp2, f = some (v, (S, Hp2)) ∧ K v S Hp2 = some z := by
  unfold hcbL at h
  by_cases q : (¬ ∀ r ∈ rs, r < Hp.length) ∨ (¬ ∀ r ∈ os, (hN Hp r 5).isSome = true)
  · rw [if_pos q] at h; cases h
  · rw [if_neg q] at h
    refine ⟨Classical.byContradiction fun w => q (Or.inl w), Classical.byContradiction fun w => q (Or.inr w), ?_⟩
    split at h
    · exact ⟨_, _, _, rfl, h⟩
    · cases h
theorem h_cLa (C : CallFix p m c cc nL s args WW own) (hK : va_K D vwCl (tyH k) s) (hB : hBX s) (hA : ∀ q, s.heap.size ≤ q → A q) (hE : excA A s) (hT : hST D k A s (wXk k ax S) a0 n0 a Hp H locs) {idx n mL mc ms : Nat} {y : MethodName} {b : ByteArray} {ret : Option FieldType} {hh : List (Nat × Nat × Nat × Nat)} {rm : Room} (As : List Value) {rs os : List Nat} {f : Option (Int32 × (XS × HS))} {K : Int32 → XS → HS → Option ρ} (h : hcbL rs os Hp f K = some z)
    (hM : ∀ v S2 Hp2, f = some (v, (S2, Hp2)) → Met l y (Cond.codeWith y b mL ret hh :: WW) rm (va_Pc As (hPreL D k (wXk k ax S) a Hp H.size)) (hQi D k (wXk k ax S2) a Hp.length Hp2 v (va_A (wXk k ax S ++ wH k a Hp) H.size)) mc ms (va_A (wXk k ax S ++ wH k a Hp) H.size))
    (cw : vx_CSW R s args own idx y b mL ret hh (Cond.codeWith y b mL ret hh :: WW) rm mc ms n) (hn : As.length = n) (hls : ls.size = nL) (hst : (rest.map fun v => v.category).sum ≤ 8) (hf : cells + mc ≤ R.cells ∧ slots + ms ≤ R.slots) (hdg : decode cc pc = .ok (.invokestatic idx, 3)) {st : List Value} (hstk : st = As.reverse ++ rest)
    (kk : ∀ v S2 Hp2 a1 H1 locs1, K v S2 Hp2 = some z → hST D k A s (wXk k ax S2) a0 n0 a1 Hp2 H1 locs1 → (∀ j, j < Hp.length → a1 j = a j) → (∀ r ∈ rs, r < Hp.length) → W p l e R s m args below meth c H1 locs1 (cells + mc) (slots + ms) Q (F0 m (pc + 3) ls (.int v :: rest))) : W p l e R s m args below meth c H locs cells slots Q (F0 m pc ls st) := by
  obtain ⟨h1, h2, v, S2, Hp2, e1, e2⟩ := hcbL_h h
  obtain ⟨hP, hD, hS, hw, hag, hn0⟩ := id hT
  have hF : ∀ q, va_A (wXk k ax S ++ wH k a Hp) H.size q → A q := A_sub hD hS hA
  refine va_calli (vx_runSW (As := As) (rest := rest) C (hM v S2 Hp2 e1) cw ⟨hPreL_blind, fun U hU hW => ⟨rfl, hPreL_now hK hB hA hE hT hU hW⟩⟩ rfl hn hls hstk (lv_room hst) hdg hf) hS (fun q _ h => hF q h) hF (fun r a1 t H1 locs1 ht _ hw1 hE1 _ hk1 hS1 => ?_)
  subst hw1
  obtain ⟨g1, g2⟩ := hST_all hT hA ht hE1 hS1
  exact kk _ S2 Hp2 a1 H1 locs1 e2 g1 g2 h1
theorem h_cLb (C : CallFix p m c cc nL s args WW own) (hK : va_K D vwCl (tyH k) s) (hB : hBX s) (hA : ∀ q, s.heap.size ≤ q → A q) (hE : excA A s) (hT : hST D k A s (wXk k ax S) a0 n0 a Hp H locs) {q L : Nat} {xs : Nat → Int32} (hX : va_X q L xs s s.heap) (hql : q < s.heap.size) (hqA : ¬ A q) {idx n mL mc ms : Nat} {y : MethodName} {b : ByteArray} {ret : Option FieldType} {rm : Room} (As : List Value) {rs os : List Nat} {f : Option (Nat × (XS × HS))} {K : Nat → XS → HS → Option ρ} (h : hcbL rs os Hp f K = some z)
    (hM : ∀ v S2 Hp2, f = some (v, (S2, Hp2)) → Met l y (Cond.code y b mL ret :: WW) rm (va_Pc As (hPreB D k (wXk k ax S) a Hp q L xs H.size)) (hQr D k (wXk k ax S2) a Hp.length Hp2 v (va_A (wXk k ax S ++ wH k a Hp) H.size)) mc ms (va_A (wXk k ax S ++ wH k a Hp) H.size))
    (cw : CallB R s args own idx y b mL ret (Cond.code y b mL ret :: WW) rm mc ms n ∧ (Cond.static y).before args s = true) (hn : As.length = n) (hls : ls.size = nL) (hst : (rest.map fun v => v.category).sum ≤ 8) (hf : cells + mc ≤ R.cells ∧ slots + ms ≤ R.slots) (hdg : decode cc pc = .ok (.invokestatic idx, 3)) {st : List Value} (hstk : st = As.reverse ++ rest)
    (kk : ∀ v S2 Hp2 a1 H1 locs1, K v S2 Hp2 = some z → hST D k A s (wXk k ax S2) a0 n0 a1 Hp2 H1 locs1 → (∀ j, j < Hp.length → a1 j = a j) → (∀ r ∈ rs, r < Hp.length) → W p l e R s m args below meth c H1 locs1 (cells + mc) (slots + ms) Q (F0 m (pc + 3) ls (.ref (a1 v) :: rest))) : W p l e R s m args below meth c H locs cells slots Q (F0 m pc ls st) := by
  obtain ⟨h1, h2, v, S2, Hp2, e1, e2⟩ := hcbL_h h
  obtain ⟨hP, hD, hS, hw, hag, hn0⟩ := id hT
  have hF : ∀ q, va_A (wXk k ax S ++ wH k a Hp) H.size q → A q := A_sub hD hS hA
  refine va_callr (va_runS (As := As) (rest := rest) C (hM v S2 Hp2 e1) cw ⟨hPreB_blind, fun U hU hW => ⟨rfl, hPreL_now hK hB hA hE hT hU hW, X_now hX hql hqA hS hU hW, fun h => hqA (hF q h)⟩⟩ rfl hn hls hstk (lv_room hst) hdg hf) hS (fun q _ h => hF q h) hF (fun a1 ra t H1 locs1 ht _ hw1 hE1 _ hk1 hS1 => ?_)
  obtain ⟨er, hE1⟩ := hE1
  subst er
  obtain ⟨g1, g2⟩ := hST_all hT hA ht hE1 hS1
  exact kk _ S2 Hp2 a1 H1 locs1 e2 g1 g2 h1
theorem h_cLv (C : CallFix p m c cc nL s args WW own) (hK : va_K D vwCl (tyH k) s) (hB : hBX s) (hA : ∀ q, s.heap.size ≤ q → A q) (hE : excA A s) (hT : hST D k A s (wXk k ax S) a0 n0 a Hp H locs) {idx n mL mc ms o : Nat} {y : MethodName} {b : ByteArray} {ret : Option FieldType} {rm : Room} (As : List Value) {rs os : List Nat} {f : Option (Int32 × (XS × HS))} {K : Int32 → XS → HS → Option ρ} (h : hcbL rs (o :: os) Hp f K = some z)
    (hM : ∀ v S2 Hp2, f = some (v, (S2, Hp2)) → Met l y (Cond.code y b mL ret :: WW) rm (va_Pc (.ref (a o) :: As) (hPreL D k (wXk k ax S) a Hp H.size)) (hQi D k (wXk k ax S2) a Hp.length Hp2 v (va_A (wXk k ax S ++ wH k a Hp) H.size)) mc ms (va_A (wXk k ax S ++ wH k a Hp) H.size))
    (cw : CallW R s args own RX1 idx y b mL ret (Cond.code y b mL ret :: WW) rm mc ms n) (hn : As.length = n) (hls : ls.size = nL) (hst : (rest.map fun v => v.category).sum ≤ 8) (hf : cells + mc ≤ R.cells ∧ slots + ms ≤ R.slots) (hdg : decode cc pc = .ok (.invokevirtual idx, 3)) {st : List Value} (hstk : st = As.reverse ++ .ref (a o) :: rest)
    (kk : ∀ v S2 Hp2 a1 H1 locs1, K v S2 Hp2 = some z → hST D k A s (wXk k ax S2) a0 n0 a1 Hp2 H1 locs1 → (∀ j, j < Hp.length → a1 j = a j) → (∀ r ∈ rs, r < Hp.length) → W p l e R s m args below meth c H1 locs1 (cells + mc) (slots + ms) Q (F0 m (pc + 3) ls (.int v :: rest))) : W p l e R s m args below meth c H locs cells slots Q (F0 m pc ls st) := by
  obtain ⟨h1, h2, v, S2, Hp2, e1, e2⟩ := hcbL_h h
  obtain ⟨hP, hD, hS, hw, hag, hn0⟩ := id hT
  have hF : ∀ q, va_A (wXk k ax S ++ wH k a Hp) H.size q → A q := A_sub hD hS hA
  refine va_calli (va_runV (As := As) (rest := rest) C (hM v S2 Hp2 e1) cw ⟨hPreL_blind, h_rv hK hP (h2 o List.mem_cons_self), fun U hU hW => ⟨rfl, hPreL_now hK hB hA hE hT hU hW⟩⟩ rfl hn hls hstk (lv_room hst) hdg hf) hS (fun q _ h => hF q h) hF (fun r a1 t H1 locs1 ht _ hw1 hE1 _ hk1 hS1 => ?_)
  subst hw1
  obtain ⟨g1, g2⟩ := hST_all hT hA ht hE1 hS1
  exact kk _ S2 Hp2 a1 H1 locs1 e2 g1 g2 h1
end HKITB
