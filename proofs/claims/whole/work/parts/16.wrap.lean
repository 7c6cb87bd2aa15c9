section WRAP
variable {p : Program} {l : Launch} {e : Env} {R : Room} {s : State} {m : MethodId} {args : Array Value} {below : List Frame} {meth : Method} {c : Code} {H : Heap} {locs : List Loc} {cells slots : Nat} {Q : State → Prop}
variable {pc nL : Nat} {ls : Array Slot} {rest : List Value} {cc : ByteArray} {own : String} {D : va_G} {ws : va_W} {tys : List (ClassId × FieldType)} {A : Nat → Prop} {H0 : Heap} {cI cZ cL : ClassId} {a : Nat → Nat} {q : Nat} {S : XS} {g : Nat → Int64}
abbrev YS : Type := XS × (Nat → Int64)
def wO (cL : ClassId) (q : Nat) (g : Nat → Int64) : va_W := [(q, .inl (cL, 1, .inr (.inl g)))]
def wXO (cI cZ cL : ClassId) (a : Nat → Nat) (q : Nat) (Y : YS) : va_W := wX cI cZ a Y.1 ++ wO cL q Y.2
abbrev ty3 (cI cZ cL : ClassId) : List (ClassId × FieldType) := [(cI, .int), (cZ, .boolean), (cL, .long)]
def ncU (U : State) : Prop := ∀ E ∈ exL, ∀ T ∈ exL, E ≠ T → va_Nc E T U
def wrpI (cd : Nat → Option Int32) (f : Option ((Int32 × XS) ⊕ Nat)) (S : XS) (g : Nat → Int64) : Option (Int32 × YS) := match f with
  | none => none
  | some (.inl (v, S1)) => some (0, (S1, vp_updL g (0 : Int32).toNatClampNeg v.toInt64))
  | some (.inr e) => (cd e).map fun k => (k, (S, g))
def wrpZ (cd : Nat → Option Int32) (f : Option ((Int32 × XS) ⊕ Nat)) (S : XS) (g : Nat → Int64) : Option (Int32 × YS) := match f with
  | none => none
  | some (.inl (v, S1)) => some (0, (S1, vp_updL g (0 : Int32).toNatClampNeg (if v = 0 then 0 else 1)))
  | some (.inr e) => (cd e).map fun k => (k, (S, g))
def upR (S : XS) (f : Option (Int32 ⊕ Nat)) : Option ((Int32 × XS) ⊕ Nat) := match f with
  | none => none
  | some (.inl v) => some (.inl (v, S))
  | some (.inr e) => some (.inr e)
theorem wrpI_h {cd : Nat → Option Int32} {f : Option ((Int32 × XS) ⊕ Nat)} {z : Int32 × YS} (h : wrpI cd f S g = some z) : (∃ v S1, f = some (.inl (v, S1)) ∧ z = (0, (S1, vp_updL g (0 : Int32).toNatClampNeg v.toInt64))) ∨ ∃ e k, f = some (.inr e) ∧ cd e = some k ∧ z = (k, (S, g)) := by
  match f, h with
  | some (.inl (v, S1)), h => exact Or.inl ⟨v, S1, rfl, (Option.some.inj h).symm⟩
  | some (.inr e), h =>
    obtain ⟨k, h1, h2⟩ := Option.map_eq_some_iff.mp h
    exact Or.inr ⟨e, k, rfl, h1, h2.symm⟩
theorem wrpZ_h {cd : Nat → Option Int32} {f : Option ((Int32 × XS) ⊕ Nat)} {z : Int32 × YS} (h : wrpZ cd f S g = some z) : (∃ v S1, f = some (.inl (v, S1)) ∧ z = (0, (S1, vp_updL g (0 : Int32).toNatClampNeg (if v = 0 then 0 else 1)))) ∨ ∃ e k, f = some (.inr e) ∧ cd e = some k ∧ z = (k, (S, g)) := by
  match f, h with
  | some (.inl (v, S1)), h => exact Or.inl ⟨v, S1, rfl, (Option.some.inj h).symm⟩
  | some (.inr e), h =>
    obtain ⟨k, h1, h2⟩ := Option.map_eq_some_iff.mp h
    exact Or.inr ⟨e, k, rfl, h1, h2.symm⟩
theorem upR_h {f : Option (Int32 ⊕ Nat)} {x : (Int32 × XS) ⊕ Nat} (h : upR S f = some x) : (∃ v, f = some (.inl v) ∧ x = .inl (v, S)) ∨ ∃ e, f = some (.inr e) ∧ x = .inr e := by
  match f, h with
  | some (.inl v), h => exact Or.inl ⟨v, rfl, (Option.some.inj h).symm⟩
  | some (.inr e), h => exact Or.inr ⟨e, rfl, (Option.some.inj h).symm⟩
theorem in01 : vp_in 0 1 := by
  show ¬ ((0 : Int32) < 0 ∨ 1 ≤ (0 : Int32).toNatClampNeg)
  decide
theorem gdSW {own : String} {idx : Nat} {y : MethodName} {b : ByteArray} {n : Nat} {r : Option FieldType} {hh : List (Nat × Nat × Nat × Nat)} (h1 : Cond.methodLink own idx y ∈ WW) (h2 : Cond.static y ∈ WW) (h4 : Cond.initialized y.cls ∈ WW) (h5 : Cond.codeWith y b n r hh ∈ WW) : GoodIn WW (va_wsS own idx y (Cond.codeWith y b n r hh :: WW)) := by
  have k : ∀ w ∈ va_wsS own idx y (Cond.codeWith y b n r hh :: WW), w ∈ WW := by
    intro w hw
    simp only [va_wsS, List.cons_append, List.nil_append, List.mem_cons] at hw
    rcases hw with rfl | rfl | rfl | rfl | hw
    · exact h1
    · exact h2
    · exact h4
    · exact h5
    · exact hw
  exact fun w hw => ⟨k w hw, WW_good w (k w hw)⟩
/-- parts of a world, and what stays -/
theorem P_left {D : va_G} {cl : List vw_C} {w1 w2 : va_W} {H : Heap} (h : va_P D cl (w1 ++ w2) H) : va_P D cl w1 H := fun k x hx => h k x (by rw [List.getElem?_append_left (List.getElem?_eq_some_iff.mp hx).1]; exact hx)
theorem P_right {D : va_G} {cl : List vw_C} {w1 w2 : va_W} {H : Heap} (h : va_P D cl (w1 ++ w2) H) : va_P D cl w2 H := fun k x hx => h (w1.length + k) x (by rw [List.getElem?_append_right (Nat.le_add_right _ _), Nat.add_sub_cancel_left]; exact hx)
theorem D_left {A : Nat → Prop} {w1 w2 : va_W} (h : va_D A (w1 ++ w2)) : va_D A w1 := ⟨fun i j p q hp hq e => h.1 i j p q (by rw [List.getElem?_append_left (List.getElem?_eq_some_iff.mp hp).1]; exact hp) (by rw [List.getElem?_append_left (List.getElem?_eq_some_iff.mp hq).1]; exact hq) e, fun k q hk => h.2 k q (by rw [List.getElem?_append_left (List.getElem?_eq_some_iff.mp hk).1]; exact hk)⟩
def Dis (w1 w2 : va_W) : Prop := ∀ (i j : Nat) (x y : Nat × va_E), w1[i]? = some x → w2[j]? = some y → x.1 ≠ y.1
theorem D_dis {A : Nat → Prop} {w1 w2 : va_W} (h : va_D A (w1 ++ w2)) : Dis w1 w2 := by
  intro i j x y hx hy e
  have hi : i < w1.length := (List.getElem?_eq_some_iff.mp hx).1
  have h1 : (w1 ++ w2)[i]? = some x := by rw [List.getElem?_append_left hi]; exact hx
  have h2 : (w1 ++ w2)[w1.length + j]? = some y := by rw [List.getElem?_append_right (Nat.le_add_right _ _), Nat.add_sub_cancel_left]; exact hy
  have := h.1 i (w1.length + j) x y h1 h2 e
  omega
theorem P_keep {D : va_G} {cl : List vw_C} {w1 w2 : va_W} {H H1 : Heap} (h : va_P D cl w2 H) (hd : Dis w1 w2) (hk : ∀ x : Nat, x < H.size → ¬ va_A w1 H.size x → H1[x]? = H[x]?) : va_P D cl w2 H1 := by
  intro k x hx
  have h0 := h k x hx
  refine h0.kept (hk x.1 h0.lt (fun hA => ?_))
  rcases hA with ⟨i, e, hi⟩ | hA
  · exact hd i k _ x hi hx rfl
  · exact absurd h0.lt (Nat.not_lt.mpr hA)
theorem P_old {D : va_G} {cl : List vw_C} {w : va_W} {H H1 : Heap} (h : va_P D cl w H) (hk : ∀ x : Nat, x < H.size → H1[x]? = H[x]?) : va_P D cl w H1 := fun k x hx => (h k x hx).kept (hk x.1 (h k x hx).lt)
theorem WR_of {y : MethodName} {b : ByteArray} {mL : Nat} {ret : Option FieldType} {hh : List (Nat × Nat × Nat × Nat)} {rm : Room} {sz : Nat} {av : List Value} {Qc : (Nat → Prop) → Array Value → State → Outcome → State → Prop} {mc ms : Nat} (hy : plainName y.cls = true) (ho : y.cls = own) (hn : (lg_sl av).length ≤ mL)
    (body : ∀ p e s m args below meth c A, args = av.toArray → CallFix p m c b mL s args WW own → meth.sig.returnType = ret → meth.locks = false → c.exceptionTable.toList = tableOf hh → va_P D vwCl ws s.heap → va_K D vwCl tys s → va_D A ws → (∀ q, s.heap.size ≤ q → A q) → excU s → ncU s → ∀ ls : Array Slot, lv_has ls mL (lv_args 0 av) →
      W p l e rm s m args below meth c s.heap [] 0 0 (MQ below (Qc A) args s mc ms A) (F0 m 0 ls [])) : Met l y (Cond.codeWith y b mL ret hh :: WW) rm (va_Pc av (fun U => rwP D ws tys sz U ∧ excU U ∧ ncU U)) (Qc (va_A ws sz)) mc ms (va_A ws sz) := by
  refine va_MetW (cc := b) (maxL := mL) (ret := ret) (hh := hh) hy rfl ?_
  intro p e s m args below meth c s₁ B hml hv
  obtain ⟨rfl, ⟨hsz, hP, hK, hD0⟩, hE, hN⟩ := hv
  have hts := atoms_spec (ws := Cond.codeWith y b mL ret hh :: WW) B.pre
  have htab := vx_table (x := y) B (hts _ List.mem_cons_self)
  have hl := lv_entry av hn
  rw [lg_entry_eq]
  subst hsz
  exact body p e s m _ below meth c _ rfl ⟨B.exec, B.bytes, hml, ho ▸ findClass_of_methodNamed B.named, fun w h => hts w (List.mem_cons_of_mem _ h)⟩ B.returns B.notSynchronized htab hP hK hD0.self (fun q h => Or.inr h) hE hN _ hl
theorem k_iretC (C : CallFix p m c cc nL s args WW own) (hr : meth.sig.returnType = some .int) (hlocks : meth.locks = false) {w' : va_W} {v : Int32} (hP : va_P D vwCl w' H) (hS : va_S A s.heap H locs) (hdg : decode cc pc = .ok (.ireturn, 1)) :
    W p l e R s m args below meth c H locs cells slots (MQ below (rwQi D w' v A) args s cells slots A) (F0 m pc ls [.int v]) :=
  W.iret (v := v) C.1 C.2.1 hr (fun t ht _ => ⟨⟨v, (), rfl, rfl, (show va_P D vwCl w' t.heap by rw [ht]; exact hP)⟩, hS.F ht⟩) hS.2.2 hdg hlocks
theorem kw_TWn (C : CallFix p m c cc nL s args WW own) (hK : va_K D vwCl (ty3 cI cZ cL) s) (hP : va_P D vwCl (wXO cI cZ cL a q (S, g)) s.heap) (hD : va_D A (wXO cI cZ cL a q (S, g))) (hA : ∀ q, s.heap.size ≤ q → A q) (hE : excU s) {idx n mL : Nat} {y : MethodName} {b : ByteArray} {ret : Option FieldType} {rm : Room} (As : List Value) {v : Int32} {S1 : XS} {o : ((Int32 × XS) ⊕ Nat)} (ho : o = (.inl (v, S1))) (hM : tx_Met l y (Cond.code y b mL ret :: WW) rm (va_Pc (.ref (a 0) :: As) (fun U => rwP D (wX cI cZ a S) (tyIZ cI cZ) s.heap.size U ∧ excU U)) (tqiW D (wX cI cZ a) (va_A (wX cI cZ a S) s.heap.size) o) (txX o) 1 6 (va_A (wX cI cZ a S) s.heap.size))
    (cw : CallW R s args own RX0 idx y b mL ret (Cond.code y b mL ret :: WW) rm 1 6 n) (hn : As.length = n) (hls : ls.size = nL) (hst : (rest.map fun v => v.category).sum ≤ 8) (hf : 0 + 1 ≤ R.cells ∧ 0 + 6 ≤ R.slots) (hdg : decode cc pc = .ok (.invokevirtual idx, 3)) {st : List Value} (hstk : st = As.reverse ++ .ref (a 0) :: rest)
    (kk : ∀ (H1 : Heap) (locs1 : List Loc), va_P D vwCl (wXO cI cZ cL a q (S1, g)) H1 → va_D A (wXO cI cZ cL a q (S1, g)) → va_S A s.heap H1 locs1 → W p l e R s m args below meth c H1 locs1 0 0 Q (F0 m (pc + 3) ls (.int v :: rest))) : W p l e R s m args below meth c s.heap [] 0 0 Q (F0 m pc ls st) := by
  subst ho
  have hPX : va_P D vwCl (wX cI cZ a S) s.heap := P_left hP
  have hPO : va_P D vwCl (wO cL q g) s.heap := P_right (w1 := wX cI cZ a S) hP
  have hDX : va_D A (wX cI cZ a S) := D_left hD
  have hdis : Dis (wX cI cZ a S) (wO cL q g) := D_dis hD
  have hK2 : va_K D vwCl (tyIZ cI cZ) s := hK.sub [0, 1] rfl
  have hF := A_sub hDX (va_S.rf (A := A) (H0 := s.heap)) hA
  intro T hT X
  rcases tx_runV (As := As) (rest := rest) C hM cw ⟨(fun a U g mk q => ⟨q.1, ⟨q.2.1.1, q.2.1.2.1, va_K.moved (u := U) (U := U.calling g mk a) (Vm.Alike.refl U.vm) q.2.1.2.2.1, q.2.1.2.2.2⟩, excU_calling q.2.2⟩), wX_rv hK2 hPX, fun U hU hW => ⟨rfl, ⟨by rw [hU], by rw [hU]; exact hPX, hK2.moved hW.alike, hDX.weaken (fun _ _ _ _ => trivial)⟩, excU_warm hW hU hE⟩⟩ rfl hn hls hstk (lv_room hst) hdg hf T hT X with ⟨v', st₀, t, T', L, h0, X', hL, e3, e4, hq, st⟩ | ⟨q9, st₀, t, T', L, E, ce, h0, X', hL, e3, e4, hx, hce, hcv, hcl, st⟩
  · obtain ⟨⟨r, u, hv, hp, hb⟩, hz⟩ := hq
    cases hv
    subst hp
    rw [show va_F _ _ _ = va_F (va_A (wX cI cZ a S) s.heap.size) st₀ t from rfl] at hz
    have hb1 : va_P D vwCl (wX cI cZ a S1) T'.heap := by rw [e3]; exact hb
    have hk : ∀ x : Nat, x < s.heap.size → ¬ va_A (wX cI cZ a S) s.heap.size x → T'.heap[x]? = s.heap[x]? := fun x h1 h2 => by
      rw [e3, ← h0]; exact hz.2 x (by rw [h0]; exact h1) h2
    have hsz : s.heap.size ≤ T'.heap.size := by rw [e3, ← h0]; exact hz.1
    obtain ⟨t2, a1, b1⟩ := kk T'.heap ([] ++ L) (va_P.app hb1 (P_keep hPO hdis hk)) (D_same hD rfl) ⟨hsz, fun x h1 h2 => hk x h1 (fun h3 => h2 (hF x h3)), fun x hx => hF _ (hL x (by simpa using hx))⟩ T' rfl X'
    exact ⟨t2, st t2 a1, b1⟩
  · exact hx.elim
theorem kw_TWx (C : CallFix p m c cc nL s args WW own) (hK : va_K D vwCl (ty3 cI cZ cL) s) (hP : va_P D vwCl (wXO cI cZ cL a q (S, g)) s.heap) (hD : va_D A (wXO cI cZ cL a q (S, g))) (hA : ∀ q, s.heap.size ≤ q → A q) (hE : excU s) {idx n mL : Nat} {y : MethodName} {b : ByteArray} {ret : Option FieldType} {rm : Room} (As : List Value) {e9 : Nat} {o : ((Int32 × XS) ⊕ Nat)} (ho : o = .inr e9) (hM : tx_Met l y (Cond.code y b mL ret :: WW) rm (va_Pc (.ref (a 0) :: As) (fun U => rwP D (wX cI cZ a S) (tyIZ cI cZ) s.heap.size U ∧ excU U)) (tqiW D (wX cI cZ a) (va_A (wX cI cZ a S) s.heap.size) o) (txX o) 1 6 (va_A (wX cI cZ a S) s.heap.size))
    (cw : CallW R s args own RX0 idx y b mL ret (Cond.code y b mL ret :: WW) rm 1 6 n) (hn : As.length = n) (hls : ls.size = nL) (hst : (rest.map fun v => v.category).sum ≤ 8) (hf : 0 + 1 ≤ R.cells ∧ 0 + 6 ≤ R.slots) (hdg : decode cc pc = .ok (.invokevirtual idx, 3)) {st : List Value} (hstk : st = As.reverse ++ .ref (a 0) :: rest)
    (kk : ∀ (H1 : Heap) (locs1 : List Loc) (q9 : Addr) (ce : Cell), va_P D vwCl (wXO cI cZ cL a q (S, g)) H1 → va_S A s.heap H1 locs1 → H1[q9]? = some ce → ce.vm = .none → s.vm.findClass (exN e9) = some ce.cls → vx_W p l e R s m args below meth c H1 locs1 1 6 Q (F0 m pc ls rest) q9) : W p l e R s m args below meth c s.heap [] 0 0 Q (F0 m pc ls st) := by
  subst ho
  have hPX : va_P D vwCl (wX cI cZ a S) s.heap := P_left hP
  have hPO : va_P D vwCl (wO cL q g) s.heap := P_right (w1 := wX cI cZ a S) hP
  have hDX : va_D A (wX cI cZ a S) := D_left hD
  have hdis : Dis (wX cI cZ a S) (wO cL q g) := D_dis hD
  have hK2 : va_K D vwCl (tyIZ cI cZ) s := hK.sub [0, 1] rfl
  have hF := A_sub hDX (va_S.rf (A := A) (H0 := s.heap)) hA
  intro T hT X
  rcases tx_runV (As := As) (rest := rest) C hM cw ⟨(fun a U g mk q => ⟨q.1, ⟨q.2.1.1, q.2.1.2.1, va_K.moved (u := U) (U := U.calling g mk a) (Vm.Alike.refl U.vm) q.2.1.2.2.1, q.2.1.2.2.2⟩, excU_calling q.2.2⟩), wX_rv hK2 hPX, fun U hU hW => ⟨rfl, ⟨by rw [hU], by rw [hU]; exact hPX, hK2.moved hW.alike, hDX.weaken (fun _ _ _ _ => trivial)⟩, excU_warm hW hU hE⟩⟩ rfl hn hls hstk (lv_room hst) hdg hf T hT X with ⟨v', st₀, t, T', L, h0, X', hL, e3, e4, hq, st⟩ | ⟨q9, st₀, t, T', L, E, ce, h0, X', hL, e3, e4, hx, hce, hcv, hcl, st⟩
  · exact hq.elim
  · obtain ⟨x1, x2, x3⟩ := hx
    subst x1
    rw [h0] at x2 x3
    have hk : ∀ x : Nat, x < s.heap.size → T'.heap[x]? = s.heap[x]? := fun x h1 => by rw [e3]; exact x3 x h1
    obtain ⟨t2, a1, b1⟩ := kk T'.heap ([] ++ L) q9 ce (P_old hP hk) ⟨by rw [e3]; exact x2, fun x h1 _ => hk x h1, fun x hx => hF _ (hL x (by simpa using hx))⟩ (by rw [e3]; exact hce) hcv hcl T' rfl X'
    exact ⟨t2, st.trans a1, b1⟩
theorem kw_TRn (C : CallFix p m c cc nL s args WW own) (hK : va_K D vwCl (ty3 cI cZ cL) s) (hP : va_P D vwCl (wXO cI cZ cL a q (S, g)) s.heap) (hD : va_D A (wXO cI cZ cL a q (S, g))) (hA : ∀ q, s.heap.size ≤ q → A q) (hE : excU s) {idx n mL : Nat} {y : MethodName} {b : ByteArray} {ret : Option FieldType} {rm : Room} (As : List Value) {v : Int32} {o : (Int32 ⊕ Nat)} (ho : o = (.inl v)) (hM : tx_Met l y (Cond.code y b mL ret :: WW) rm (va_Pc (.ref (a 0) :: As) (fun U => roP D (wX cI cZ a S) (tyIZ cI cZ) U ∧ excU U)) (tqi o) (txX o) 1 6 (fun _ => False))
    (cw : CallW R s args own RX0 idx y b mL ret (Cond.code y b mL ret :: WW) rm 1 6 n) (hn : As.length = n) (hls : ls.size = nL) (hst : (rest.map fun v => v.category).sum ≤ 8) (hf : 0 + 1 ≤ R.cells ∧ 0 + 6 ≤ R.slots) (hdg : decode cc pc = .ok (.invokevirtual idx, 3)) {st : List Value} (hstk : st = As.reverse ++ .ref (a 0) :: rest)
    (kk : ∀ (H1 : Heap) (locs1 : List Loc), va_P D vwCl (wXO cI cZ cL a q (S, g)) H1 → va_D A (wXO cI cZ cL a q (S, g)) → va_S A s.heap H1 locs1 → W p l e R s m args below meth c H1 locs1 0 0 Q (F0 m (pc + 3) ls (.int v :: rest))) : W p l e R s m args below meth c s.heap [] 0 0 Q (F0 m pc ls st) := by
  subst ho
  have hPX : va_P D vwCl (wX cI cZ a S) s.heap := P_left hP
  have hPO : va_P D vwCl (wO cL q g) s.heap := P_right (w1 := wX cI cZ a S) hP
  have hDX : va_D A (wX cI cZ a S) := D_left hD
  have hdis : Dis (wX cI cZ a S) (wO cL q g) := D_dis hD
  have hK2 : va_K D vwCl (tyIZ cI cZ) s := hK.sub [0, 1] rfl
  have hF := A_sub hDX (va_S.rf (A := A) (H0 := s.heap)) hA
  intro T hT X
  rcases tx_runV (As := As) (rest := rest) C hM cw ⟨(fun a U g mk q => ⟨q.1, ⟨q.2.1.1, va_K.moved (u := U) (U := U.calling g mk a) (Vm.Alike.refl U.vm) q.2.1.2⟩, excU_calling q.2.2⟩), wX_rv hK2 hPX, fun U hU hW => ⟨rfl, ⟨by rw [hU]; exact hPX, hK2.moved hW.alike⟩, excU_warm hW hU hE⟩⟩ rfl hn hls hstk (lv_room hst) hdg hf T hT X with ⟨v', st₀, t, T', L, h0, X', hL, e3, e4, hq, st⟩ | ⟨q9, st₀, t, T', L, E, ce, h0, X', hL, e3, e4, hx, hce, hcv, hcl, st⟩
  · obtain ⟨r, hv, hp, hh⟩ := hq
    cases hv
    subst hp
    obtain ⟨t2, a1, b1⟩ := kk s.heap [] hP hD va_S.rf T' (by rw [e3, hh, h0]) (Stand.forget X' (fun q h => (hL q h).elim))
    exact ⟨t2, st t2 a1, b1⟩
  · exact hx.elim
theorem kw_TRx (C : CallFix p m c cc nL s args WW own) (hK : va_K D vwCl (ty3 cI cZ cL) s) (hP : va_P D vwCl (wXO cI cZ cL a q (S, g)) s.heap) (hD : va_D A (wXO cI cZ cL a q (S, g))) (hA : ∀ q, s.heap.size ≤ q → A q) (hE : excU s) {idx n mL : Nat} {y : MethodName} {b : ByteArray} {ret : Option FieldType} {rm : Room} (As : List Value) {e9 : Nat} {o : (Int32 ⊕ Nat)} (ho : o = .inr e9) (hM : tx_Met l y (Cond.code y b mL ret :: WW) rm (va_Pc (.ref (a 0) :: As) (fun U => roP D (wX cI cZ a S) (tyIZ cI cZ) U ∧ excU U)) (tqi o) (txX o) 1 6 (fun _ => False))
    (cw : CallW R s args own RX0 idx y b mL ret (Cond.code y b mL ret :: WW) rm 1 6 n) (hn : As.length = n) (hls : ls.size = nL) (hst : (rest.map fun v => v.category).sum ≤ 8) (hf : 0 + 1 ≤ R.cells ∧ 0 + 6 ≤ R.slots) (hdg : decode cc pc = .ok (.invokevirtual idx, 3)) {st : List Value} (hstk : st = As.reverse ++ .ref (a 0) :: rest)
    (kk : ∀ (H1 : Heap) (locs1 : List Loc) (q9 : Addr) (ce : Cell), va_P D vwCl (wXO cI cZ cL a q (S, g)) H1 → va_S A s.heap H1 locs1 → H1[q9]? = some ce → ce.vm = .none → s.vm.findClass (exN e9) = some ce.cls → vx_W p l e R s m args below meth c H1 locs1 1 6 Q (F0 m pc ls rest) q9) : W p l e R s m args below meth c s.heap [] 0 0 Q (F0 m pc ls st) := by
  subst ho
  have hPX : va_P D vwCl (wX cI cZ a S) s.heap := P_left hP
  have hPO : va_P D vwCl (wO cL q g) s.heap := P_right (w1 := wX cI cZ a S) hP
  have hDX : va_D A (wX cI cZ a S) := D_left hD
  have hdis : Dis (wX cI cZ a S) (wO cL q g) := D_dis hD
  have hK2 : va_K D vwCl (tyIZ cI cZ) s := hK.sub [0, 1] rfl
  have hF := A_sub hDX (va_S.rf (A := A) (H0 := s.heap)) hA
  intro T hT X
  rcases tx_runV (As := As) (rest := rest) C hM cw ⟨(fun a U g mk q => ⟨q.1, ⟨q.2.1.1, va_K.moved (u := U) (U := U.calling g mk a) (Vm.Alike.refl U.vm) q.2.1.2⟩, excU_calling q.2.2⟩), wX_rv hK2 hPX, fun U hU hW => ⟨rfl, ⟨by rw [hU]; exact hPX, hK2.moved hW.alike⟩, excU_warm hW hU hE⟩⟩ rfl hn hls hstk (lv_room hst) hdg hf T hT X with ⟨v', st₀, t, T', L, h0, X', hL, e3, e4, hq, st⟩ | ⟨q9, st₀, t, T', L, E, ce, h0, X', hL, e3, e4, hx, hce, hcv, hcl, st⟩
  · exact hq.elim
  · obtain ⟨x1, x2, x3⟩ := hx
    subst x1
    rw [h0] at x2 x3
    have hk : ∀ x : Nat, x < s.heap.size → T'.heap[x]? = s.heap[x]? := fun x h1 => by rw [e3]; exact x3 x h1
    obtain ⟨t2, a1, b1⟩ := kk T'.heap ([] ++ L) q9 ce (P_old hP hk) ⟨by rw [e3]; exact x2, fun x h1 _ => hk x h1, fun x hx => (hL x (by simpa using hx)).elim⟩ (by rw [e3]; exact hce) hcv hcl T' rfl X'
    exact ⟨t2, st.trans a1, b1⟩
def cd_take : Nat → Option Int32 := fun e => if e = 1 then some 1 else none
def mL_take (S : XS) (g : Nat → Int64) (v1 : Int32) (v2 : Int32) : Option (Int32 × YS) := wrpZ cd_take (mX_take S v1 v2) S g
theorem cb_L_7 {R : Room} {s : State} {args : Array Value} (h : ∀ w ∈ WW, w.before args s = true) (hR : 7 + 1 ≤ R.frames ∧ 8 + (4 + 11) + 140 ≤ R.locals) : CallW R s args RL RX0 7 yX0_take cX0_take 4 (some .boolean) (Cond.code yX0_take cX0_take 4 (some .boolean) :: WW) ({ frames := 7, cells := 1, slots := 6, locals := 140 }) 1 6 2 := cwV 2 h (gdV qM_L_7 qI_X0_take qS_X0_take qN_X0 qC_X0_take) rfl rfl rfl (by decide +kernel) hR
set_option maxHeartbeats 4000000 in
set_option maxRecDepth 100000 in
theorem tL_take {l : Launch} {D : va_G} {cI cZ cL : ClassId} {a : Nat → Nat} {q : Nat} {S : XS} {g : Nat → Int64} {sz : Nat} {v1 : Int32} {v2 : Int32} {z : Int32 × YS} (hfl : l.stackTraces = false) (h : mL_take S g v1 v2 = some z) : Met l yL_take (Cond.codeWith yL_take cL_take 5 (some .int) [(0, 17, 20, 13)] :: WW) ({ frames := 8, cells := 1, slots := 6, locals := 163 }) (va_Pc [.ref (a 0), .int v1, .int v2, .ref q] (fun U => rwP D (wXO cI cZ cL a q (S, g)) (ty3 cI cZ cL) sz U ∧ excU U ∧ ncU U)) (rwQi D (wXO cI cZ cL a q z.2) z.1 (va_A (wXO cI cZ cL a q (S, g)) sz)) 1 6 (va_A (wXO cI cZ cL a q (S, g)) sz) := by
  refine WR_of (own := RL) (Qc := fun A => rwQi D (wXO cI cZ cL a q z.2) z.1 A) (by decide) rfl (Nat.le_of_ble_eq_true rfl) ?_
  intro p e s m args below meth c A ha C hr hlk htab hP hK hD hA hE hN ls hl
  have hl : lv_has ls 5 [(0, .ref (a 0)), (1, .int v1), (2, .int v2), (3, .ref q)] := hl
  unfold mL_take at h
  rcases wrpZ_h h with ⟨v, S1, hf, rfl⟩ | ⟨e9, k, hf, hk, rfl⟩
  · refine lv_aload_n C.1 C.2.1 dL_take_0 rfl (lv_at hl 3 rfl) ?_
    refine lv_iconst (v := 0) C.1 C.2.1 dL_take_1 (by decide) ?_
    refine lv_aload_n C.1 C.2.1 dL_take_2 rfl (lv_at hl 0 rfl) ?_
    refine lv_iload_n C.1 C.2.1 dL_take_3 rfl (lv_at hl 1 rfl) ?_
    refine lv_iload_n C.1 C.2.1 dL_take_4 rfl (lv_at hl 2 rfl) ?_
    refine kw_TWn C hK hP hD hA hE [.int v1, .int v2] rfl (tX0_take hfl hf) (cb_L_7 C.2.2.2.2 ⟨Nat.le_of_ble_eq_true rfl, Nat.le_of_ble_eq_true rfl⟩) rfl hl.1 (Nat.le_of_ble_eq_true rfl) ⟨Nat.le_of_ble_eq_true rfl, Nat.le_of_ble_eq_true rfl⟩ dL_take_5 rfl (fun H locs hP hD hS => ?_)
    refine lv_if_eq (tgt := 15) C.1 C.2.1 dL_take_8 (by decide) (fun c9 => ?_) (fun c9 => ?_)
    · refine lv_lconst (v := 0) C.1 C.2.1 dL_take_15 (by decide) ?_
      refine va_last C.1 C.2.1 hK hP hD hS 14 2 rfl rfl in01 dL_take_16 (fun H locs hP hD hS => ?_)
      have hP : va_P D vwCl (wXO cI cZ cL a q (S1, vp_updL g (0 : Int32).toNatClampNeg ((if v = 0 then 0 else 1)))) H := by rw [if_pos c9]; exact hP
      refine lv_goto (tgt := 24) C.1 C.2.1 dL_take_17 (by decide) ?_
      refine lv_iconst (v := 0) C.1 C.2.1 dL_take_24 (by decide) ?_
      refine W.widen (k := 1) (n := 6) (Nat.le_of_ble_eq_true rfl) (Nat.le_of_ble_eq_true rfl) ?_
      exact k_iretC C hr hlk hP hS dL_take_25
    · refine lv_lconst (v := 1) C.1 C.2.1 dL_take_11 (by decide) ?_
      refine lv_goto (tgt := 16) C.1 C.2.1 dL_take_12 (by decide) ?_
      refine va_last C.1 C.2.1 hK hP hD hS 14 2 rfl rfl in01 dL_take_16 (fun H locs hP hD hS => ?_)
      have hP : va_P D vwCl (wXO cI cZ cL a q (S1, vp_updL g (0 : Int32).toNatClampNeg ((if v = 0 then 0 else 1)))) H := by rw [if_neg c9]; exact hP
      refine lv_goto (tgt := 24) C.1 C.2.1 dL_take_17 (by decide) ?_
      refine lv_iconst (v := 0) C.1 C.2.1 dL_take_24 (by decide) ?_
      refine W.widen (k := 1) (n := 6) (Nat.le_of_ble_eq_true rfl) (Nat.le_of_ble_eq_true rfl) ?_
      exact k_iretC C hr hlk hP hS dL_take_25
  · have he : e9 = 1 ∧ k = 1 := by
      unfold cd_take at hk
      by_cases c1 : e9 = 1
      · rw [if_pos c1] at hk
        exact ⟨c1, (Option.some.inj hk).symm⟩
      · rw [if_neg c1] at hk
        cases hk
    refine lv_aload_n C.1 C.2.1 dL_take_0 rfl (lv_at hl 3 rfl) ?_
    refine lv_iconst (v := 0) C.1 C.2.1 dL_take_1 (by decide) ?_
    refine lv_aload_n C.1 C.2.1 dL_take_2 rfl (lv_at hl 0 rfl) ?_
    refine lv_iload_n C.1 C.2.1 dL_take_3 rfl (lv_at hl 1 rfl) ?_
    refine lv_iload_n C.1 C.2.1 dL_take_4 rfl (lv_at hl 2 rfl) ?_
    refine kw_TWx C hK hP hD hA hE [.int v1, .int v2] rfl (tX0_take hfl hf) (cb_L_7 C.2.2.2.2 ⟨Nat.le_of_ble_eq_true rfl, Nat.le_of_ble_eq_true rfl⟩) rfl hl.1 (Nat.le_of_ble_eq_true rfl) ⟨Nat.le_of_ble_eq_true rfl, Nat.le_of_ble_eq_true rfl⟩ dL_take_5 rfl (fun H locs q9 ce hP hS hce hcv hcl => ?_)
    rcases he with ⟨rfl, rfl⟩
    · refine vx_catch (name := "java/lang/IndexOutOfBoundsException") C.2.2.2.1 [] ⟨0, 17, 20, 13⟩ [] (by rw [htab]; rfl) (fun z hz => absurd hz List.not_mem_nil) (by decide) (by decide) (C.2.2.2.2 _ qK_L_13) (va_Nw.use rfl (hE.2.2.2.1 _ (List.mem_of_getElem? (i := 0) rfl))) hce hcv hcl ?_
      refine lv_astore (lv' := [(4, .ref q9), (0, .ref (a 0)), (1, .int v1), (2, .int v2), (3, .ref q)]) C.1 C.2.1 dL_take_20 hl (by decide) rfl (fun ls hl => ?_)
      refine lv_iconst (v := 1) C.1 C.2.1 dL_take_22 (by decide) ?_
      exact k_iretC C hr hlk hP hS dL_take_23
def cd_lemma : Nat → Option Int32 := fun e => if e = 2 then some 1 else none
def mL_lemma (S : XS) (g : Nat → Int64) : Option (Int32 × YS) := wrpI cd_lemma (mX_lemma S) S g
theorem cb_L_15 {R : Room} {s : State} {args : Array Value} (h : ∀ w ∈ WW, w.before args s = true) (hR : 6 + 1 ≤ R.frames ∧ 8 + (1 + 11) + 140 ≤ R.locals) : CallW R s args RL RX0 15 yX0_lemma cX0_lemma 1 (some .int) (Cond.code yX0_lemma cX0_lemma 1 (some .int) :: WW) ({ frames := 6, cells := 1, slots := 6, locals := 140 }) 1 6 0 := cwV 0 h (gdV qM_L_15 qI_X0_lemma qS_X0_lemma qN_X0 qC_X0_lemma) rfl rfl rfl (by decide +kernel) hR
set_option maxHeartbeats 4000000 in
set_option maxRecDepth 100000 in
theorem tL_lemma {l : Launch} {D : va_G} {cI cZ cL : ClassId} {a : Nat → Nat} {q : Nat} {S : XS} {g : Nat → Int64} {sz : Nat} {z : Int32 × YS} (hfl : l.stackTraces = false) (h : mL_lemma S g = some z) : Met l yL_lemma (Cond.codeWith yL_lemma cL_lemma 3 (some .int) [(0, 8, 11, 19)] :: WW) ({ frames := 7, cells := 1, slots := 6, locals := 160 }) (va_Pc [.ref (a 0), .ref q] (fun U => rwP D (wXO cI cZ cL a q (S, g)) (ty3 cI cZ cL) sz U ∧ excU U ∧ ncU U)) (rwQi D (wXO cI cZ cL a q z.2) z.1 (va_A (wXO cI cZ cL a q (S, g)) sz)) 1 6 (va_A (wXO cI cZ cL a q (S, g)) sz) := by
  refine WR_of (own := RL) (Qc := fun A => rwQi D (wXO cI cZ cL a q z.2) z.1 A) (by decide) rfl (Nat.le_of_ble_eq_true rfl) ?_
  intro p e s m args below meth c A ha C hr hlk htab hP hK hD hA hE hN ls hl
  have hl : lv_has ls 3 [(0, .ref (a 0)), (1, .ref q)] := hl
  unfold mL_lemma at h
  rcases wrpI_h h with ⟨v, S1, hf, rfl⟩ | ⟨e9, k, hf, hk, rfl⟩
  · refine lv_aload_n C.1 C.2.1 dL_lemma_0 rfl (lv_at hl 1 rfl) ?_
    refine lv_iconst (v := 0) C.1 C.2.1 dL_lemma_1 (by decide) ?_
    refine lv_aload_n C.1 C.2.1 dL_lemma_2 rfl (lv_at hl 0 rfl) ?_
    refine kw_TWn C hK hP hD hA hE [] rfl (tX0_lemma hfl hf) (cb_L_15 C.2.2.2.2 ⟨Nat.le_of_ble_eq_true rfl, Nat.le_of_ble_eq_true rfl⟩) rfl hl.1 (Nat.le_of_ble_eq_true rfl) ⟨Nat.le_of_ble_eq_true rfl, Nat.le_of_ble_eq_true rfl⟩ dL_lemma_3 rfl (fun H locs hP hD hS => ?_)
    refine lv_i2l (v := v.toInt64) C.1 C.2.1 dL_lemma_6 rfl ?_
    refine va_last C.1 C.2.1 hK hP hD hS 14 2 rfl rfl in01 dL_lemma_7 (fun H locs hP hD hS => ?_)
    have hP : va_P D vwCl (wXO cI cZ cL a q (S1, vp_updL g (0 : Int32).toNatClampNeg (v.toInt64))) H := hP
    refine lv_goto (tgt := 14) C.1 C.2.1 dL_lemma_8 (by decide) ?_
    refine lv_iconst (v := 0) C.1 C.2.1 dL_lemma_14 (by decide) ?_
    refine W.widen (k := 1) (n := 6) (Nat.le_of_ble_eq_true rfl) (Nat.le_of_ble_eq_true rfl) ?_
    exact k_iretC C hr hlk hP hS dL_lemma_15
  · have he : e9 = 2 ∧ k = 1 := by
      unfold cd_lemma at hk
      by_cases c2 : e9 = 2
      · rw [if_pos c2] at hk
        exact ⟨c2, (Option.some.inj hk).symm⟩
      · rw [if_neg c2] at hk
        cases hk
    refine lv_aload_n C.1 C.2.1 dL_lemma_0 rfl (lv_at hl 1 rfl) ?_
    refine lv_iconst (v := 0) C.1 C.2.1 dL_lemma_1 (by decide) ?_
    refine lv_aload_n C.1 C.2.1 dL_lemma_2 rfl (lv_at hl 0 rfl) ?_
    refine kw_TWx C hK hP hD hA hE [] rfl (tX0_lemma hfl hf) (cb_L_15 C.2.2.2.2 ⟨Nat.le_of_ble_eq_true rfl, Nat.le_of_ble_eq_true rfl⟩) rfl hl.1 (Nat.le_of_ble_eq_true rfl) ⟨Nat.le_of_ble_eq_true rfl, Nat.le_of_ble_eq_true rfl⟩ dL_lemma_3 rfl (fun H locs q9 ce hP hS hce hcv hcl => ?_)
    rcases he with ⟨rfl, rfl⟩
    · refine vx_catch (name := "java/lang/IllegalStateException") C.2.2.2.1 [] ⟨0, 8, 11, 19⟩ [] (by rw [htab]; rfl) (fun z hz => absurd hz List.not_mem_nil) (by decide) (by decide) (C.2.2.2.2 _ qK_L_19) (va_Nw.use rfl (hE.2.2.2.1 _ (List.mem_of_getElem? (i := 1) rfl))) hce hcv hcl ?_
      refine lv_astore_n (lv' := [(2, .ref q9), (0, .ref (a 0)), (1, .ref q)]) C.1 C.2.1 dL_lemma_11 rfl hl (by decide) rfl (fun ls hl => ?_)
      refine lv_iconst (v := 1) C.1 C.2.1 dL_lemma_12 (by decide) ?_
      exact k_iretC C hr hlk hP hS dL_lemma_13
def cd_proof : Nat → Option Int32 := fun e => if e = 1 then some 1 else if e = 2 then some 2 else none
def mL_proof (S : XS) (g : Nat → Int64) (v1 : Int32) : Option (Int32 × YS) := wrpI cd_proof (mX_proof S v1) S g
theorem cb_L_21 {R : Room} {s : State} {args : Array Value} (h : ∀ w ∈ WW, w.before args s = true) (hR : 7 + 1 ≤ R.frames ∧ 8 + (3 + 11) + 140 ≤ R.locals) : CallW R s args RL RX0 21 yX0_proof cX0_proof 3 (some .int) (Cond.code yX0_proof cX0_proof 3 (some .int) :: WW) ({ frames := 7, cells := 1, slots := 6, locals := 140 }) 1 6 1 := cwV 1 h (gdV qM_L_21 qI_X0_proof qS_X0_proof qN_X0 qC_X0_proof) rfl rfl rfl (by decide +kernel) hR
set_option maxHeartbeats 4000000 in
set_option maxRecDepth 100000 in
theorem tL_proof {l : Launch} {D : va_G} {cI cZ cL : ClassId} {a : Nat → Nat} {q : Nat} {S : XS} {g : Nat → Int64} {sz : Nat} {v1 : Int32} {z : Int32 × YS} (hfl : l.stackTraces = false) (h : mL_proof S g v1 = some z) : Met l yL_proof (Cond.codeWith yL_proof cL_proof 4 (some .int) [(0, 9, 12, 13), (0, 9, 15, 19)] :: WW) ({ frames := 8, cells := 1, slots := 6, locals := 162 }) (va_Pc [.ref (a 0), .int v1, .ref q] (fun U => rwP D (wXO cI cZ cL a q (S, g)) (ty3 cI cZ cL) sz U ∧ excU U ∧ ncU U)) (rwQi D (wXO cI cZ cL a q z.2) z.1 (va_A (wXO cI cZ cL a q (S, g)) sz)) 1 6 (va_A (wXO cI cZ cL a q (S, g)) sz) := by
  refine WR_of (own := RL) (Qc := fun A => rwQi D (wXO cI cZ cL a q z.2) z.1 A) (by decide) rfl (Nat.le_of_ble_eq_true rfl) ?_
  intro p e s m args below meth c A ha C hr hlk htab hP hK hD hA hE hN ls hl
  have hl : lv_has ls 4 [(0, .ref (a 0)), (1, .int v1), (2, .ref q)] := hl
  unfold mL_proof at h
  rcases wrpI_h h with ⟨v, S1, hf, rfl⟩ | ⟨e9, k, hf, hk, rfl⟩
  · refine lv_aload_n C.1 C.2.1 dL_proof_0 rfl (lv_at hl 2 rfl) ?_
    refine lv_iconst (v := 0) C.1 C.2.1 dL_proof_1 (by decide) ?_
    refine lv_aload_n C.1 C.2.1 dL_proof_2 rfl (lv_at hl 0 rfl) ?_
    refine lv_iload_n C.1 C.2.1 dL_proof_3 rfl (lv_at hl 1 rfl) ?_
    refine kw_TWn C hK hP hD hA hE [.int v1] rfl (tX0_proof hfl hf) (cb_L_21 C.2.2.2.2 ⟨Nat.le_of_ble_eq_true rfl, Nat.le_of_ble_eq_true rfl⟩) rfl hl.1 (Nat.le_of_ble_eq_true rfl) ⟨Nat.le_of_ble_eq_true rfl, Nat.le_of_ble_eq_true rfl⟩ dL_proof_4 rfl (fun H locs hP hD hS => ?_)
    refine lv_i2l (v := v.toInt64) C.1 C.2.1 dL_proof_7 rfl ?_
    refine va_last C.1 C.2.1 hK hP hD hS 14 2 rfl rfl in01 dL_proof_8 (fun H locs hP hD hS => ?_)
    have hP : va_P D vwCl (wXO cI cZ cL a q (S1, vp_updL g (0 : Int32).toNatClampNeg (v.toInt64))) H := hP
    refine lv_goto (tgt := 18) C.1 C.2.1 dL_proof_9 (by decide) ?_
    refine lv_iconst (v := 0) C.1 C.2.1 dL_proof_18 (by decide) ?_
    refine W.widen (k := 1) (n := 6) (Nat.le_of_ble_eq_true rfl) (Nat.le_of_ble_eq_true rfl) ?_
    exact k_iretC C hr hlk hP hS dL_proof_19
  · have he : e9 = 1 ∧ k = 1 ∨ e9 = 2 ∧ k = 2 := by
      unfold cd_proof at hk
      by_cases c1 : e9 = 1
      · rw [if_pos c1] at hk
        exact Or.inl ⟨c1, (Option.some.inj hk).symm⟩
      · rw [if_neg c1] at hk
        by_cases c2 : e9 = 2
        · rw [if_pos c2] at hk
          exact Or.inr (⟨c2, (Option.some.inj hk).symm⟩)
        · rw [if_neg c2] at hk
          cases hk
    refine lv_aload_n C.1 C.2.1 dL_proof_0 rfl (lv_at hl 2 rfl) ?_
    refine lv_iconst (v := 0) C.1 C.2.1 dL_proof_1 (by decide) ?_
    refine lv_aload_n C.1 C.2.1 dL_proof_2 rfl (lv_at hl 0 rfl) ?_
    refine lv_iload_n C.1 C.2.1 dL_proof_3 rfl (lv_at hl 1 rfl) ?_
    refine kw_TWx C hK hP hD hA hE [.int v1] rfl (tX0_proof hfl hf) (cb_L_21 C.2.2.2.2 ⟨Nat.le_of_ble_eq_true rfl, Nat.le_of_ble_eq_true rfl⟩) rfl hl.1 (Nat.le_of_ble_eq_true rfl) ⟨Nat.le_of_ble_eq_true rfl, Nat.le_of_ble_eq_true rfl⟩ dL_proof_4 rfl (fun H locs q9 ce hP hS hce hcv hcl => ?_)
    rcases he with ⟨rfl, rfl⟩ | ⟨rfl, rfl⟩
    · refine vx_catch (name := "java/lang/IndexOutOfBoundsException") C.2.2.2.1 [] ⟨0, 9, 12, 13⟩ [⟨0, 9, 15, 19⟩] (by rw [htab]; rfl) (fun z hz => absurd hz List.not_mem_nil) (by decide) (by decide) (C.2.2.2.2 _ qK_L_13) (va_Nw.use rfl (hE.2.2.2.1 _ (List.mem_of_getElem? (i := 0) rfl))) hce hcv hcl ?_
      refine lv_astore_n (lv' := [(3, .ref q9), (0, .ref (a 0)), (1, .int v1), (2, .ref q)]) C.1 C.2.1 dL_proof_12 rfl hl (by decide) rfl (fun ls hl => ?_)
      refine lv_iconst (v := 1) C.1 C.2.1 dL_proof_13 (by decide) ?_
      exact k_iretC C hr hlk hP hS dL_proof_14
    · refine vx_catch (name := "java/lang/IllegalStateException") C.2.2.2.1 [⟨0, 9, 12, 13⟩] ⟨0, 9, 15, 19⟩ [] (by rw [htab]; rfl) (fun z hz => by
        simp only [List.mem_cons, List.not_mem_nil, or_false] at hz
        rcases hz with rfl
        · exact Or.inr ⟨by decide, _, C.2.2.2.2 _ qK_L_13, hN _ (List.mem_of_getElem? (i := 1) rfl) _ (List.mem_of_getElem? (i := 0) rfl) (by decide)⟩) (by decide) (by decide) (C.2.2.2.2 _ qK_L_19) (va_Nw.use rfl (hE.2.2.2.1 _ (List.mem_of_getElem? (i := 1) rfl))) hce hcv hcl ?_
      refine lv_astore_n (lv' := [(3, .ref q9), (0, .ref (a 0)), (1, .int v1), (2, .ref q)]) C.1 C.2.1 dL_proof_15 rfl hl (by decide) rfl (fun ls hl => ?_)
      refine lv_iconst (v := 2) C.1 C.2.1 dL_proof_16 (by decide) ?_
      exact k_iretC C hr hlk hP hS dL_proof_17
def cd_cite : Nat → Option Int32 := fun e => if e = 1 then some 1 else if e = 2 then some 3 else if e = 3 then some 2 else none
def mL_cite (S : XS) (g : Nat → Int64) (v1 : Int32) (v2 : Int32) (v3 : Int32) (v4 : Int32) : Option (Int32 × YS) := wrpI cd_cite (mX_cite S v1 v2 v3 v4) S g
theorem cb_L_25 {R : Room} {s : State} {args : Array Value} (h : ∀ w ∈ WW, w.before args s = true) (hR : 8 + 1 ≤ R.frames ∧ 8 + (7 + 11) + 140 ≤ R.locals) : CallW R s args RL RX0 25 yX0_cite cX0_cite 7 (some .int) (Cond.code yX0_cite cX0_cite 7 (some .int) :: WW) ({ frames := 8, cells := 1, slots := 6, locals := 140 }) 1 6 4 := cwV 4 h (gdV qM_L_25 qI_X0_cite qS_X0_cite qN_X0 qC_X0_cite) rfl rfl rfl (by decide +kernel) hR
set_option maxHeartbeats 4000000 in
set_option maxRecDepth 100000 in
theorem tL_cite {l : Launch} {D : va_G} {cI cZ cL : ClassId} {a : Nat → Nat} {q : Nat} {S : XS} {g : Nat → Int64} {sz : Nat} {v1 : Int32} {v2 : Int32} {v3 : Int32} {v4 : Int32} {z : Int32 × YS} (hfl : l.stackTraces = false) (h : mL_cite S g v1 v2 v3 v4 = some z) : Met l yL_cite (Cond.codeWith yL_cite cL_cite 7 (some .int) [(0, 14, 17, 13), (0, 14, 21, 29), (0, 14, 25, 19)] :: WW) ({ frames := 9, cells := 1, slots := 6, locals := 166 }) (va_Pc [.ref (a 0), .int v1, .int v2, .int v3, .int v4, .ref q] (fun U => rwP D (wXO cI cZ cL a q (S, g)) (ty3 cI cZ cL) sz U ∧ excU U ∧ ncU U)) (rwQi D (wXO cI cZ cL a q z.2) z.1 (va_A (wXO cI cZ cL a q (S, g)) sz)) 1 6 (va_A (wXO cI cZ cL a q (S, g)) sz) := by
  refine WR_of (own := RL) (Qc := fun A => rwQi D (wXO cI cZ cL a q z.2) z.1 A) (by decide) rfl (Nat.le_of_ble_eq_true rfl) ?_
  intro p e s m args below meth c A ha C hr hlk htab hP hK hD hA hE hN ls hl
  have hl : lv_has ls 7 [(0, .ref (a 0)), (1, .int v1), (2, .int v2), (3, .int v3), (4, .int v4), (5, .ref q)] := hl
  unfold mL_cite at h
  rcases wrpI_h h with ⟨v, S1, hf, rfl⟩ | ⟨e9, k, hf, hk, rfl⟩
  · refine lv_aload C.1 C.2.1 dL_cite_0 (lv_at hl 5 rfl) ?_
    refine lv_iconst (v := 0) C.1 C.2.1 dL_cite_2 (by decide) ?_
    refine lv_aload_n C.1 C.2.1 dL_cite_3 rfl (lv_at hl 0 rfl) ?_
    refine lv_iload_n C.1 C.2.1 dL_cite_4 rfl (lv_at hl 1 rfl) ?_
    refine lv_iload_n C.1 C.2.1 dL_cite_5 rfl (lv_at hl 2 rfl) ?_
    refine lv_iload_n C.1 C.2.1 dL_cite_6 rfl (lv_at hl 3 rfl) ?_
    refine lv_iload C.1 C.2.1 dL_cite_7 (lv_at hl 4 rfl) ?_
    refine kw_TWn C hK hP hD hA hE [.int v1, .int v2, .int v3, .int v4] rfl (tX0_cite hfl hf) (cb_L_25 C.2.2.2.2 ⟨Nat.le_of_ble_eq_true rfl, Nat.le_of_ble_eq_true rfl⟩) rfl hl.1 (Nat.le_of_ble_eq_true rfl) ⟨Nat.le_of_ble_eq_true rfl, Nat.le_of_ble_eq_true rfl⟩ dL_cite_9 rfl (fun H locs hP hD hS => ?_)
    refine lv_i2l (v := v.toInt64) C.1 C.2.1 dL_cite_12 rfl ?_
    refine va_last C.1 C.2.1 hK hP hD hS 14 2 rfl rfl in01 dL_cite_13 (fun H locs hP hD hS => ?_)
    have hP : va_P D vwCl (wXO cI cZ cL a q (S1, vp_updL g (0 : Int32).toNatClampNeg (v.toInt64))) H := hP
    refine lv_goto (tgt := 29) C.1 C.2.1 dL_cite_14 (by decide) ?_
    refine lv_iconst (v := 0) C.1 C.2.1 dL_cite_29 (by decide) ?_
    refine W.widen (k := 1) (n := 6) (Nat.le_of_ble_eq_true rfl) (Nat.le_of_ble_eq_true rfl) ?_
    exact k_iretC C hr hlk hP hS dL_cite_30
  · have he : e9 = 1 ∧ k = 1 ∨ e9 = 2 ∧ k = 3 ∨ e9 = 3 ∧ k = 2 := by
      unfold cd_cite at hk
      by_cases c1 : e9 = 1
      · rw [if_pos c1] at hk
        exact Or.inl ⟨c1, (Option.some.inj hk).symm⟩
      · rw [if_neg c1] at hk
        by_cases c2 : e9 = 2
        · rw [if_pos c2] at hk
          exact Or.inr (Or.inl ⟨c2, (Option.some.inj hk).symm⟩)
        · rw [if_neg c2] at hk
          by_cases c3 : e9 = 3
          · rw [if_pos c3] at hk
            exact Or.inr (Or.inr (⟨c3, (Option.some.inj hk).symm⟩))
          · rw [if_neg c3] at hk
            cases hk
    refine lv_aload C.1 C.2.1 dL_cite_0 (lv_at hl 5 rfl) ?_
    refine lv_iconst (v := 0) C.1 C.2.1 dL_cite_2 (by decide) ?_
    refine lv_aload_n C.1 C.2.1 dL_cite_3 rfl (lv_at hl 0 rfl) ?_
    refine lv_iload_n C.1 C.2.1 dL_cite_4 rfl (lv_at hl 1 rfl) ?_
    refine lv_iload_n C.1 C.2.1 dL_cite_5 rfl (lv_at hl 2 rfl) ?_
    refine lv_iload_n C.1 C.2.1 dL_cite_6 rfl (lv_at hl 3 rfl) ?_
    refine lv_iload C.1 C.2.1 dL_cite_7 (lv_at hl 4 rfl) ?_
    refine kw_TWx C hK hP hD hA hE [.int v1, .int v2, .int v3, .int v4] rfl (tX0_cite hfl hf) (cb_L_25 C.2.2.2.2 ⟨Nat.le_of_ble_eq_true rfl, Nat.le_of_ble_eq_true rfl⟩) rfl hl.1 (Nat.le_of_ble_eq_true rfl) ⟨Nat.le_of_ble_eq_true rfl, Nat.le_of_ble_eq_true rfl⟩ dL_cite_9 rfl (fun H locs q9 ce hP hS hce hcv hcl => ?_)
    rcases he with ⟨rfl, rfl⟩ | ⟨rfl, rfl⟩ | ⟨rfl, rfl⟩
    · refine vx_catch (name := "java/lang/IndexOutOfBoundsException") C.2.2.2.1 [] ⟨0, 14, 17, 13⟩ [⟨0, 14, 21, 29⟩, ⟨0, 14, 25, 19⟩] (by rw [htab]; rfl) (fun z hz => absurd hz List.not_mem_nil) (by decide) (by decide) (C.2.2.2.2 _ qK_L_13) (va_Nw.use rfl (hE.2.2.2.1 _ (List.mem_of_getElem? (i := 0) rfl))) hce hcv hcl ?_
      refine lv_astore (lv' := [(6, .ref q9), (0, .ref (a 0)), (1, .int v1), (2, .int v2), (3, .int v3), (4, .int v4), (5, .ref q)]) C.1 C.2.1 dL_cite_17 hl (by decide) rfl (fun ls hl => ?_)
      refine lv_iconst (v := 1) C.1 C.2.1 dL_cite_19 (by decide) ?_
      exact k_iretC C hr hlk hP hS dL_cite_20
    · refine vx_catch (name := "java/lang/IllegalStateException") C.2.2.2.1 [⟨0, 14, 17, 13⟩, ⟨0, 14, 21, 29⟩] ⟨0, 14, 25, 19⟩ [] (by rw [htab]; rfl) (fun z hz => by
        simp only [List.mem_cons, List.not_mem_nil, or_false] at hz
        rcases hz with rfl | rfl
        · exact Or.inr ⟨by decide, _, C.2.2.2.2 _ qK_L_13, hN _ (List.mem_of_getElem? (i := 1) rfl) _ (List.mem_of_getElem? (i := 0) rfl) (by decide)⟩
        · exact Or.inr ⟨by decide, _, C.2.2.2.2 _ qK_L_29, hN _ (List.mem_of_getElem? (i := 1) rfl) _ (List.mem_of_getElem? (i := 2) rfl) (by decide)⟩) (by decide) (by decide) (C.2.2.2.2 _ qK_L_19) (va_Nw.use rfl (hE.2.2.2.1 _ (List.mem_of_getElem? (i := 1) rfl))) hce hcv hcl ?_
      refine lv_astore (lv' := [(6, .ref q9), (0, .ref (a 0)), (1, .int v1), (2, .int v2), (3, .int v3), (4, .int v4), (5, .ref q)]) C.1 C.2.1 dL_cite_25 hl (by decide) rfl (fun ls hl => ?_)
      refine lv_iconst (v := 3) C.1 C.2.1 dL_cite_27 (by decide) ?_
      exact k_iretC C hr hlk hP hS dL_cite_28
    · refine vx_catch (name := "java/lang/IllegalArgumentException") C.2.2.2.1 [⟨0, 14, 17, 13⟩] ⟨0, 14, 21, 29⟩ [⟨0, 14, 25, 19⟩] (by rw [htab]; rfl) (fun z hz => by
        simp only [List.mem_cons, List.not_mem_nil, or_false] at hz
        rcases hz with rfl
        · exact Or.inr ⟨by decide, _, C.2.2.2.2 _ qK_L_13, hN _ (List.mem_of_getElem? (i := 2) rfl) _ (List.mem_of_getElem? (i := 0) rfl) (by decide)⟩) (by decide) (by decide) (C.2.2.2.2 _ qK_L_29) (va_Nw.use rfl (hE.2.2.2.1 _ (List.mem_of_getElem? (i := 2) rfl))) hce hcv hcl ?_
      refine lv_astore (lv' := [(6, .ref q9), (0, .ref (a 0)), (1, .int v1), (2, .int v2), (3, .int v3), (4, .int v4), (5, .ref q)]) C.1 C.2.1 dL_cite_21 hl (by decide) rfl (fun ls hl => ?_)
      refine lv_iconst (v := 2) C.1 C.2.1 dL_cite_23 (by decide) ?_
      exact k_iretC C hr hlk hP hS dL_cite_24
def cd_patch : Nat → Option Int32 := fun e => if e = 1 then some 1 else if e = 2 then some 3 else if e = 3 then some 2 else none
def mL_patch (S : XS) (g : Nat → Int64) (v1 : Int32) (v2 : Int32) (v3 : Int32) (v4 : Int32) : Option (Int32 × YS) := wrpI cd_patch (mX_patch S v1 v2 v3 v4) S g
theorem cb_L_31 {R : Room} {s : State} {args : Array Value} (h : ∀ w ∈ WW, w.before args s = true) (hR : 9 + 1 ≤ R.frames ∧ 8 + (6 + 11) + 156 ≤ R.locals) : CallW R s args RL RX0 31 yX0_patch cX0_patch 6 (some .int) (Cond.code yX0_patch cX0_patch 6 (some .int) :: WW) ({ frames := 9, cells := 1, slots := 6, locals := 156 }) 1 6 4 := cwV 4 h (gdV qM_L_31 qI_X0_patch qS_X0_patch qN_X0 qC_X0_patch) rfl rfl rfl (by decide +kernel) hR
set_option maxHeartbeats 4000000 in
set_option maxRecDepth 100000 in
theorem tL_patch {l : Launch} {D : va_G} {cI cZ cL : ClassId} {a : Nat → Nat} {q : Nat} {S : XS} {g : Nat → Int64} {sz : Nat} {v1 : Int32} {v2 : Int32} {v3 : Int32} {v4 : Int32} {z : Int32 × YS} (hfl : l.stackTraces = false) (h : mL_patch S g v1 v2 v3 v4 = some z) : Met l yL_patch (Cond.codeWith yL_patch cL_patch 7 (some .int) [(0, 14, 17, 13), (0, 14, 21, 29), (0, 14, 25, 19)] :: WW) ({ frames := 10, cells := 1, slots := 6, locals := 181 }) (va_Pc [.ref (a 0), .int v1, .int v2, .int v3, .int v4, .ref q] (fun U => rwP D (wXO cI cZ cL a q (S, g)) (ty3 cI cZ cL) sz U ∧ excU U ∧ ncU U)) (rwQi D (wXO cI cZ cL a q z.2) z.1 (va_A (wXO cI cZ cL a q (S, g)) sz)) 1 6 (va_A (wXO cI cZ cL a q (S, g)) sz) := by
  refine WR_of (own := RL) (Qc := fun A => rwQi D (wXO cI cZ cL a q z.2) z.1 A) (by decide) rfl (Nat.le_of_ble_eq_true rfl) ?_
  intro p e s m args below meth c A ha C hr hlk htab hP hK hD hA hE hN ls hl
  have hl : lv_has ls 7 [(0, .ref (a 0)), (1, .int v1), (2, .int v2), (3, .int v3), (4, .int v4), (5, .ref q)] := hl
  unfold mL_patch at h
  rcases wrpI_h h with ⟨v, S1, hf, rfl⟩ | ⟨e9, k, hf, hk, rfl⟩
  · refine lv_aload C.1 C.2.1 dL_patch_0 (lv_at hl 5 rfl) ?_
    refine lv_iconst (v := 0) C.1 C.2.1 dL_patch_2 (by decide) ?_
    refine lv_aload_n C.1 C.2.1 dL_patch_3 rfl (lv_at hl 0 rfl) ?_
    refine lv_iload_n C.1 C.2.1 dL_patch_4 rfl (lv_at hl 1 rfl) ?_
    refine lv_iload_n C.1 C.2.1 dL_patch_5 rfl (lv_at hl 2 rfl) ?_
    refine lv_iload_n C.1 C.2.1 dL_patch_6 rfl (lv_at hl 3 rfl) ?_
    refine lv_iload C.1 C.2.1 dL_patch_7 (lv_at hl 4 rfl) ?_
    refine kw_TWn C hK hP hD hA hE [.int v1, .int v2, .int v3, .int v4] rfl (tX0_patch hfl hf) (cb_L_31 C.2.2.2.2 ⟨Nat.le_of_ble_eq_true rfl, Nat.le_of_ble_eq_true rfl⟩) rfl hl.1 (Nat.le_of_ble_eq_true rfl) ⟨Nat.le_of_ble_eq_true rfl, Nat.le_of_ble_eq_true rfl⟩ dL_patch_9 rfl (fun H locs hP hD hS => ?_)
    refine lv_i2l (v := v.toInt64) C.1 C.2.1 dL_patch_12 rfl ?_
    refine va_last C.1 C.2.1 hK hP hD hS 14 2 rfl rfl in01 dL_patch_13 (fun H locs hP hD hS => ?_)
    have hP : va_P D vwCl (wXO cI cZ cL a q (S1, vp_updL g (0 : Int32).toNatClampNeg (v.toInt64))) H := hP
    refine lv_goto (tgt := 29) C.1 C.2.1 dL_patch_14 (by decide) ?_
    refine lv_iconst (v := 0) C.1 C.2.1 dL_patch_29 (by decide) ?_
    refine W.widen (k := 1) (n := 6) (Nat.le_of_ble_eq_true rfl) (Nat.le_of_ble_eq_true rfl) ?_
    exact k_iretC C hr hlk hP hS dL_patch_30
  · have he : e9 = 1 ∧ k = 1 ∨ e9 = 2 ∧ k = 3 ∨ e9 = 3 ∧ k = 2 := by
      unfold cd_patch at hk
      by_cases c1 : e9 = 1
      · rw [if_pos c1] at hk
        exact Or.inl ⟨c1, (Option.some.inj hk).symm⟩
      · rw [if_neg c1] at hk
        by_cases c2 : e9 = 2
        · rw [if_pos c2] at hk
          exact Or.inr (Or.inl ⟨c2, (Option.some.inj hk).symm⟩)
        · rw [if_neg c2] at hk
          by_cases c3 : e9 = 3
          · rw [if_pos c3] at hk
            exact Or.inr (Or.inr (⟨c3, (Option.some.inj hk).symm⟩))
          · rw [if_neg c3] at hk
            cases hk
    refine lv_aload C.1 C.2.1 dL_patch_0 (lv_at hl 5 rfl) ?_
    refine lv_iconst (v := 0) C.1 C.2.1 dL_patch_2 (by decide) ?_
    refine lv_aload_n C.1 C.2.1 dL_patch_3 rfl (lv_at hl 0 rfl) ?_
    refine lv_iload_n C.1 C.2.1 dL_patch_4 rfl (lv_at hl 1 rfl) ?_
    refine lv_iload_n C.1 C.2.1 dL_patch_5 rfl (lv_at hl 2 rfl) ?_
    refine lv_iload_n C.1 C.2.1 dL_patch_6 rfl (lv_at hl 3 rfl) ?_
    refine lv_iload C.1 C.2.1 dL_patch_7 (lv_at hl 4 rfl) ?_
    refine kw_TWx C hK hP hD hA hE [.int v1, .int v2, .int v3, .int v4] rfl (tX0_patch hfl hf) (cb_L_31 C.2.2.2.2 ⟨Nat.le_of_ble_eq_true rfl, Nat.le_of_ble_eq_true rfl⟩) rfl hl.1 (Nat.le_of_ble_eq_true rfl) ⟨Nat.le_of_ble_eq_true rfl, Nat.le_of_ble_eq_true rfl⟩ dL_patch_9 rfl (fun H locs q9 ce hP hS hce hcv hcl => ?_)
    rcases he with ⟨rfl, rfl⟩ | ⟨rfl, rfl⟩ | ⟨rfl, rfl⟩
    · refine vx_catch (name := "java/lang/IndexOutOfBoundsException") C.2.2.2.1 [] ⟨0, 14, 17, 13⟩ [⟨0, 14, 21, 29⟩, ⟨0, 14, 25, 19⟩] (by rw [htab]; rfl) (fun z hz => absurd hz List.not_mem_nil) (by decide) (by decide) (C.2.2.2.2 _ qK_L_13) (va_Nw.use rfl (hE.2.2.2.1 _ (List.mem_of_getElem? (i := 0) rfl))) hce hcv hcl ?_
      refine lv_astore (lv' := [(6, .ref q9), (0, .ref (a 0)), (1, .int v1), (2, .int v2), (3, .int v3), (4, .int v4), (5, .ref q)]) C.1 C.2.1 dL_patch_17 hl (by decide) rfl (fun ls hl => ?_)
      refine lv_iconst (v := 1) C.1 C.2.1 dL_patch_19 (by decide) ?_
      exact k_iretC C hr hlk hP hS dL_patch_20
    · refine vx_catch (name := "java/lang/IllegalStateException") C.2.2.2.1 [⟨0, 14, 17, 13⟩, ⟨0, 14, 21, 29⟩] ⟨0, 14, 25, 19⟩ [] (by rw [htab]; rfl) (fun z hz => by
        simp only [List.mem_cons, List.not_mem_nil, or_false] at hz
        rcases hz with rfl | rfl
        · exact Or.inr ⟨by decide, _, C.2.2.2.2 _ qK_L_13, hN _ (List.mem_of_getElem? (i := 1) rfl) _ (List.mem_of_getElem? (i := 0) rfl) (by decide)⟩
        · exact Or.inr ⟨by decide, _, C.2.2.2.2 _ qK_L_29, hN _ (List.mem_of_getElem? (i := 1) rfl) _ (List.mem_of_getElem? (i := 2) rfl) (by decide)⟩) (by decide) (by decide) (C.2.2.2.2 _ qK_L_19) (va_Nw.use rfl (hE.2.2.2.1 _ (List.mem_of_getElem? (i := 1) rfl))) hce hcv hcl ?_
      refine lv_astore (lv' := [(6, .ref q9), (0, .ref (a 0)), (1, .int v1), (2, .int v2), (3, .int v3), (4, .int v4), (5, .ref q)]) C.1 C.2.1 dL_patch_25 hl (by decide) rfl (fun ls hl => ?_)
      refine lv_iconst (v := 3) C.1 C.2.1 dL_patch_27 (by decide) ?_
      exact k_iretC C hr hlk hP hS dL_patch_28
    · refine vx_catch (name := "java/lang/IllegalArgumentException") C.2.2.2.1 [⟨0, 14, 17, 13⟩] ⟨0, 14, 21, 29⟩ [⟨0, 14, 25, 19⟩] (by rw [htab]; rfl) (fun z hz => by
        simp only [List.mem_cons, List.not_mem_nil, or_false] at hz
        rcases hz with rfl
        · exact Or.inr ⟨by decide, _, C.2.2.2.2 _ qK_L_13, hN _ (List.mem_of_getElem? (i := 2) rfl) _ (List.mem_of_getElem? (i := 0) rfl) (by decide)⟩) (by decide) (by decide) (C.2.2.2.2 _ qK_L_29) (va_Nw.use rfl (hE.2.2.2.1 _ (List.mem_of_getElem? (i := 2) rfl))) hce hcv hcl ?_
      refine lv_astore (lv' := [(6, .ref q9), (0, .ref (a 0)), (1, .int v1), (2, .int v2), (3, .int v3), (4, .int v4), (5, .ref q)]) C.1 C.2.1 dL_patch_21 hl (by decide) rfl (fun ls hl => ?_)
      refine lv_iconst (v := 2) C.1 C.2.1 dL_patch_23 (by decide) ?_
      exact k_iretC C hr hlk hP hS dL_patch_24
def cd_withdraw : Nat → Option Int32 := fun e => if e = 1 then some 1 else none
def mL_withdraw (S : XS) (g : Nat → Int64) (v1 : Int32) (v2 : Int32) (v3 : Int32) : Option (Int32 × YS) := wrpZ cd_withdraw (mX_withdraw S v1 v2 v3) S g
theorem cb_L_34 {R : Room} {s : State} {args : Array Value} (h : ∀ w ∈ WW, w.before args s = true) (hR : 9 + 1 ≤ R.frames ∧ 8 + (5 + 11) + 156 ≤ R.locals) : CallW R s args RL RX0 34 yX0_withdraw cX0_withdraw 5 (some .boolean) (Cond.code yX0_withdraw cX0_withdraw 5 (some .boolean) :: WW) ({ frames := 9, cells := 1, slots := 6, locals := 156 }) 1 6 3 := cwV 3 h (gdV qM_L_34 qI_X0_withdraw qS_X0_withdraw qN_X0 qC_X0_withdraw) rfl rfl rfl (by decide +kernel) hR
set_option maxHeartbeats 4000000 in
set_option maxRecDepth 100000 in
theorem tL_withdraw {l : Launch} {D : va_G} {cI cZ cL : ClassId} {a : Nat → Nat} {q : Nat} {S : XS} {g : Nat → Int64} {sz : Nat} {v1 : Int32} {v2 : Int32} {v3 : Int32} {z : Int32 × YS} (hfl : l.stackTraces = false) (h : mL_withdraw S g v1 v2 v3 = some z) : Met l yL_withdraw (Cond.codeWith yL_withdraw cL_withdraw 6 (some .int) [(0, 19, 22, 13)] :: WW) ({ frames := 10, cells := 1, slots := 6, locals := 180 }) (va_Pc [.ref (a 0), .int v1, .int v2, .int v3, .ref q] (fun U => rwP D (wXO cI cZ cL a q (S, g)) (ty3 cI cZ cL) sz U ∧ excU U ∧ ncU U)) (rwQi D (wXO cI cZ cL a q z.2) z.1 (va_A (wXO cI cZ cL a q (S, g)) sz)) 1 6 (va_A (wXO cI cZ cL a q (S, g)) sz) := by
  refine WR_of (own := RL) (Qc := fun A => rwQi D (wXO cI cZ cL a q z.2) z.1 A) (by decide) rfl (Nat.le_of_ble_eq_true rfl) ?_
  intro p e s m args below meth c A ha C hr hlk htab hP hK hD hA hE hN ls hl
  have hl : lv_has ls 6 [(0, .ref (a 0)), (1, .int v1), (2, .int v2), (3, .int v3), (4, .ref q)] := hl
  unfold mL_withdraw at h
  rcases wrpZ_h h with ⟨v, S1, hf, rfl⟩ | ⟨e9, k, hf, hk, rfl⟩
  · refine lv_aload C.1 C.2.1 dL_withdraw_0 (lv_at hl 4 rfl) ?_
    refine lv_iconst (v := 0) C.1 C.2.1 dL_withdraw_2 (by decide) ?_
    refine lv_aload_n C.1 C.2.1 dL_withdraw_3 rfl (lv_at hl 0 rfl) ?_
    refine lv_iload_n C.1 C.2.1 dL_withdraw_4 rfl (lv_at hl 1 rfl) ?_
    refine lv_iload_n C.1 C.2.1 dL_withdraw_5 rfl (lv_at hl 2 rfl) ?_
    refine lv_iload_n C.1 C.2.1 dL_withdraw_6 rfl (lv_at hl 3 rfl) ?_
    refine kw_TWn C hK hP hD hA hE [.int v1, .int v2, .int v3] rfl (tX0_withdraw hfl hf) (cb_L_34 C.2.2.2.2 ⟨Nat.le_of_ble_eq_true rfl, Nat.le_of_ble_eq_true rfl⟩) rfl hl.1 (Nat.le_of_ble_eq_true rfl) ⟨Nat.le_of_ble_eq_true rfl, Nat.le_of_ble_eq_true rfl⟩ dL_withdraw_7 rfl (fun H locs hP hD hS => ?_)
    refine lv_if_eq (tgt := 17) C.1 C.2.1 dL_withdraw_10 (by decide) (fun c9 => ?_) (fun c9 => ?_)
    · refine lv_lconst (v := 0) C.1 C.2.1 dL_withdraw_17 (by decide) ?_
      refine va_last C.1 C.2.1 hK hP hD hS 14 2 rfl rfl in01 dL_withdraw_18 (fun H locs hP hD hS => ?_)
      have hP : va_P D vwCl (wXO cI cZ cL a q (S1, vp_updL g (0 : Int32).toNatClampNeg ((if v = 0 then 0 else 1)))) H := by rw [if_pos c9]; exact hP
      refine lv_goto (tgt := 26) C.1 C.2.1 dL_withdraw_19 (by decide) ?_
      refine lv_iconst (v := 0) C.1 C.2.1 dL_withdraw_26 (by decide) ?_
      refine W.widen (k := 1) (n := 6) (Nat.le_of_ble_eq_true rfl) (Nat.le_of_ble_eq_true rfl) ?_
      exact k_iretC C hr hlk hP hS dL_withdraw_27
    · refine lv_lconst (v := 1) C.1 C.2.1 dL_withdraw_13 (by decide) ?_
      refine lv_goto (tgt := 18) C.1 C.2.1 dL_withdraw_14 (by decide) ?_
      refine va_last C.1 C.2.1 hK hP hD hS 14 2 rfl rfl in01 dL_withdraw_18 (fun H locs hP hD hS => ?_)
      have hP : va_P D vwCl (wXO cI cZ cL a q (S1, vp_updL g (0 : Int32).toNatClampNeg ((if v = 0 then 0 else 1)))) H := by rw [if_neg c9]; exact hP
      refine lv_goto (tgt := 26) C.1 C.2.1 dL_withdraw_19 (by decide) ?_
      refine lv_iconst (v := 0) C.1 C.2.1 dL_withdraw_26 (by decide) ?_
      refine W.widen (k := 1) (n := 6) (Nat.le_of_ble_eq_true rfl) (Nat.le_of_ble_eq_true rfl) ?_
      exact k_iretC C hr hlk hP hS dL_withdraw_27
  · have he : e9 = 1 ∧ k = 1 := by
      unfold cd_withdraw at hk
      by_cases c1 : e9 = 1
      · rw [if_pos c1] at hk
        exact ⟨c1, (Option.some.inj hk).symm⟩
      · rw [if_neg c1] at hk
        cases hk
    refine lv_aload C.1 C.2.1 dL_withdraw_0 (lv_at hl 4 rfl) ?_
    refine lv_iconst (v := 0) C.1 C.2.1 dL_withdraw_2 (by decide) ?_
    refine lv_aload_n C.1 C.2.1 dL_withdraw_3 rfl (lv_at hl 0 rfl) ?_
    refine lv_iload_n C.1 C.2.1 dL_withdraw_4 rfl (lv_at hl 1 rfl) ?_
    refine lv_iload_n C.1 C.2.1 dL_withdraw_5 rfl (lv_at hl 2 rfl) ?_
    refine lv_iload_n C.1 C.2.1 dL_withdraw_6 rfl (lv_at hl 3 rfl) ?_
    refine kw_TWx C hK hP hD hA hE [.int v1, .int v2, .int v3] rfl (tX0_withdraw hfl hf) (cb_L_34 C.2.2.2.2 ⟨Nat.le_of_ble_eq_true rfl, Nat.le_of_ble_eq_true rfl⟩) rfl hl.1 (Nat.le_of_ble_eq_true rfl) ⟨Nat.le_of_ble_eq_true rfl, Nat.le_of_ble_eq_true rfl⟩ dL_withdraw_7 rfl (fun H locs q9 ce hP hS hce hcv hcl => ?_)
    rcases he with ⟨rfl, rfl⟩
    · refine vx_catch (name := "java/lang/IndexOutOfBoundsException") C.2.2.2.1 [] ⟨0, 19, 22, 13⟩ [] (by rw [htab]; rfl) (fun z hz => absurd hz List.not_mem_nil) (by decide) (by decide) (C.2.2.2.2 _ qK_L_13) (va_Nw.use rfl (hE.2.2.2.1 _ (List.mem_of_getElem? (i := 0) rfl))) hce hcv hcl ?_
      refine lv_astore (lv' := [(5, .ref q9), (0, .ref (a 0)), (1, .int v1), (2, .int v2), (3, .int v3), (4, .ref q)]) C.1 C.2.1 dL_withdraw_22 hl (by decide) rfl (fun ls hl => ?_)
      refine lv_iconst (v := 1) C.1 C.2.1 dL_withdraw_24 (by decide) ?_
      exact k_iretC C hr hlk hP hS dL_withdraw_25
def cd_strike : Nat → Option Int32 := fun e => if e = 1 then some 1 else none
def mL_strike (S : XS) (g : Nat → Int64) (v1 : Int32) (v2 : Int32) : Option (Int32 × YS) := wrpI cd_strike (mX_strike S v1 v2) S g
theorem cb_L_38 {R : Room} {s : State} {args : Array Value} (h : ∀ w ∈ WW, w.before args s = true) (hR : 8 + 1 ≤ R.frames ∧ 8 + (4 + 11) + 140 ≤ R.locals) : CallW R s args RL RX0 38 yX0_strike cX0_strike 4 (some .int) (Cond.code yX0_strike cX0_strike 4 (some .int) :: WW) ({ frames := 8, cells := 1, slots := 6, locals := 140 }) 1 6 2 := cwV 2 h (gdV qM_L_38 qI_X0_strike qS_X0_strike qN_X0 qC_X0_strike) rfl rfl rfl (by decide +kernel) hR
set_option maxHeartbeats 4000000 in
set_option maxRecDepth 100000 in
theorem tL_strike {l : Launch} {D : va_G} {cI cZ cL : ClassId} {a : Nat → Nat} {q : Nat} {S : XS} {g : Nat → Int64} {sz : Nat} {v1 : Int32} {v2 : Int32} {z : Int32 × YS} (hfl : l.stackTraces = false) (h : mL_strike S g v1 v2 = some z) : Met l yL_strike (Cond.codeWith yL_strike cL_strike 5 (some .int) [(0, 10, 13, 13)] :: WW) ({ frames := 9, cells := 1, slots := 6, locals := 163 }) (va_Pc [.ref (a 0), .int v1, .int v2, .ref q] (fun U => rwP D (wXO cI cZ cL a q (S, g)) (ty3 cI cZ cL) sz U ∧ excU U ∧ ncU U)) (rwQi D (wXO cI cZ cL a q z.2) z.1 (va_A (wXO cI cZ cL a q (S, g)) sz)) 1 6 (va_A (wXO cI cZ cL a q (S, g)) sz) := by
  refine WR_of (own := RL) (Qc := fun A => rwQi D (wXO cI cZ cL a q z.2) z.1 A) (by decide) rfl (Nat.le_of_ble_eq_true rfl) ?_
  intro p e s m args below meth c A ha C hr hlk htab hP hK hD hA hE hN ls hl
  have hl : lv_has ls 5 [(0, .ref (a 0)), (1, .int v1), (2, .int v2), (3, .ref q)] := hl
  unfold mL_strike at h
  rcases wrpI_h h with ⟨v, S1, hf, rfl⟩ | ⟨e9, k, hf, hk, rfl⟩
  · refine lv_aload_n C.1 C.2.1 dL_strike_0 rfl (lv_at hl 3 rfl) ?_
    refine lv_iconst (v := 0) C.1 C.2.1 dL_strike_1 (by decide) ?_
    refine lv_aload_n C.1 C.2.1 dL_strike_2 rfl (lv_at hl 0 rfl) ?_
    refine lv_iload_n C.1 C.2.1 dL_strike_3 rfl (lv_at hl 1 rfl) ?_
    refine lv_iload_n C.1 C.2.1 dL_strike_4 rfl (lv_at hl 2 rfl) ?_
    refine kw_TWn C hK hP hD hA hE [.int v1, .int v2] rfl (tX0_strike hfl hf) (cb_L_38 C.2.2.2.2 ⟨Nat.le_of_ble_eq_true rfl, Nat.le_of_ble_eq_true rfl⟩) rfl hl.1 (Nat.le_of_ble_eq_true rfl) ⟨Nat.le_of_ble_eq_true rfl, Nat.le_of_ble_eq_true rfl⟩ dL_strike_5 rfl (fun H locs hP hD hS => ?_)
    refine lv_i2l (v := v.toInt64) C.1 C.2.1 dL_strike_8 rfl ?_
    refine va_last C.1 C.2.1 hK hP hD hS 14 2 rfl rfl in01 dL_strike_9 (fun H locs hP hD hS => ?_)
    have hP : va_P D vwCl (wXO cI cZ cL a q (S1, vp_updL g (0 : Int32).toNatClampNeg (v.toInt64))) H := hP
    refine lv_goto (tgt := 17) C.1 C.2.1 dL_strike_10 (by decide) ?_
    refine lv_iconst (v := 0) C.1 C.2.1 dL_strike_17 (by decide) ?_
    refine W.widen (k := 1) (n := 6) (Nat.le_of_ble_eq_true rfl) (Nat.le_of_ble_eq_true rfl) ?_
    exact k_iretC C hr hlk hP hS dL_strike_18
  · have he : e9 = 1 ∧ k = 1 := by
      unfold cd_strike at hk
      by_cases c1 : e9 = 1
      · rw [if_pos c1] at hk
        exact ⟨c1, (Option.some.inj hk).symm⟩
      · rw [if_neg c1] at hk
        cases hk
    refine lv_aload_n C.1 C.2.1 dL_strike_0 rfl (lv_at hl 3 rfl) ?_
    refine lv_iconst (v := 0) C.1 C.2.1 dL_strike_1 (by decide) ?_
    refine lv_aload_n C.1 C.2.1 dL_strike_2 rfl (lv_at hl 0 rfl) ?_
    refine lv_iload_n C.1 C.2.1 dL_strike_3 rfl (lv_at hl 1 rfl) ?_
    refine lv_iload_n C.1 C.2.1 dL_strike_4 rfl (lv_at hl 2 rfl) ?_
    refine kw_TWx C hK hP hD hA hE [.int v1, .int v2] rfl (tX0_strike hfl hf) (cb_L_38 C.2.2.2.2 ⟨Nat.le_of_ble_eq_true rfl, Nat.le_of_ble_eq_true rfl⟩) rfl hl.1 (Nat.le_of_ble_eq_true rfl) ⟨Nat.le_of_ble_eq_true rfl, Nat.le_of_ble_eq_true rfl⟩ dL_strike_5 rfl (fun H locs q9 ce hP hS hce hcv hcl => ?_)
    rcases he with ⟨rfl, rfl⟩
    · refine vx_catch (name := "java/lang/IndexOutOfBoundsException") C.2.2.2.1 [] ⟨0, 10, 13, 13⟩ [] (by rw [htab]; rfl) (fun z hz => absurd hz List.not_mem_nil) (by decide) (by decide) (C.2.2.2.2 _ qK_L_13) (va_Nw.use rfl (hE.2.2.2.1 _ (List.mem_of_getElem? (i := 0) rfl))) hce hcv hcl ?_
      refine lv_astore (lv' := [(4, .ref q9), (0, .ref (a 0)), (1, .int v1), (2, .int v2), (3, .ref q)]) C.1 C.2.1 dL_strike_13 hl (by decide) rfl (fun ls hl => ?_)
      refine lv_iconst (v := 1) C.1 C.2.1 dL_strike_15 (by decide) ?_
      exact k_iretC C hr hlk hP hS dL_strike_16
def cd_told : Nat → Option Int32 := fun e => if e = 1 then some 1 else none
def mL_told (S : XS) (g : Nat → Int64) (v1 : Int32) (v2 : Int32) : Option (Int32 × YS) := wrpI cd_told (upR S (mX_told S v1 v2)) S g
theorem cb_L_42 {R : Room} {s : State} {args : Array Value} (h : ∀ w ∈ WW, w.before args s = true) (hR : 7 + 1 ≤ R.frames ∧ 8 + (3 + 11) + 111 ≤ R.locals) : CallW R s args RL RX0 42 yX0_told cX0_told 3 (some .int) (Cond.code yX0_told cX0_told 3 (some .int) :: WW) ({ frames := 7, cells := 1, slots := 6, locals := 111 }) 1 6 2 := cwV 2 h (gdV qM_L_42 qI_X0_told qS_X0_told qN_X0 qC_X0_told) rfl rfl rfl (by decide +kernel) hR
set_option maxHeartbeats 4000000 in
set_option maxRecDepth 100000 in
theorem tL_told {l : Launch} {D : va_G} {cI cZ cL : ClassId} {a : Nat → Nat} {q : Nat} {S : XS} {g : Nat → Int64} {sz : Nat} {v1 : Int32} {v2 : Int32} {z : Int32 × YS} (hfl : l.stackTraces = false) (h : mL_told S g v1 v2 = some z) : Met l yL_told (Cond.codeWith yL_told cL_told 5 (some .int) [(0, 10, 13, 13)] :: WW) ({ frames := 8, cells := 1, slots := 6, locals := 133 }) (va_Pc [.ref (a 0), .int v1, .int v2, .ref q] (fun U => rwP D (wXO cI cZ cL a q (S, g)) (ty3 cI cZ cL) sz U ∧ excU U ∧ ncU U)) (rwQi D (wXO cI cZ cL a q z.2) z.1 (va_A (wXO cI cZ cL a q (S, g)) sz)) 1 6 (va_A (wXO cI cZ cL a q (S, g)) sz) := by
  refine WR_of (own := RL) (Qc := fun A => rwQi D (wXO cI cZ cL a q z.2) z.1 A) (by decide) rfl (Nat.le_of_ble_eq_true rfl) ?_
  intro p e s m args below meth c A ha C hr hlk htab hP hK hD hA hE hN ls hl
  have hl : lv_has ls 5 [(0, .ref (a 0)), (1, .int v1), (2, .int v2), (3, .ref q)] := hl
  unfold mL_told at h
  rcases wrpI_h h with ⟨v, S1, hf, rfl⟩ | ⟨e9, k, hf, hk, rfl⟩
  · obtain ⟨v2, hf2, hx⟩ | ⟨e8, hf2, hx⟩ := upR_h hf
    · cases hx
      refine lv_aload_n C.1 C.2.1 dL_told_0 rfl (lv_at hl 3 rfl) ?_
      refine lv_iconst (v := 0) C.1 C.2.1 dL_told_1 (by decide) ?_
      refine lv_aload_n C.1 C.2.1 dL_told_2 rfl (lv_at hl 0 rfl) ?_
      refine lv_iload_n C.1 C.2.1 dL_told_3 rfl (lv_at hl 1 rfl) ?_
      refine lv_iload_n C.1 C.2.1 dL_told_4 rfl (lv_at hl 2 rfl) ?_
      refine kw_TRn C hK hP hD hA hE [.int v1, .int v2] rfl (tX0_told hfl hf2) (cb_L_42 C.2.2.2.2 ⟨Nat.le_of_ble_eq_true rfl, Nat.le_of_ble_eq_true rfl⟩) rfl hl.1 (Nat.le_of_ble_eq_true rfl) ⟨Nat.le_of_ble_eq_true rfl, Nat.le_of_ble_eq_true rfl⟩ dL_told_5 rfl (fun H locs hP hD hS => ?_)
      refine lv_i2l (v := v.toInt64) C.1 C.2.1 dL_told_8 rfl ?_
      refine va_last C.1 C.2.1 hK hP hD hS 14 2 rfl rfl in01 dL_told_9 (fun H locs hP hD hS => ?_)
      have hP : va_P D vwCl (wXO cI cZ cL a q (S, vp_updL g (0 : Int32).toNatClampNeg (v.toInt64))) H := hP
      refine lv_goto (tgt := 17) C.1 C.2.1 dL_told_10 (by decide) ?_
      refine lv_iconst (v := 0) C.1 C.2.1 dL_told_17 (by decide) ?_
      refine W.widen (k := 1) (n := 6) (Nat.le_of_ble_eq_true rfl) (Nat.le_of_ble_eq_true rfl) ?_
      exact k_iretC C hr hlk hP hS dL_told_18
    · cases hx
  · obtain ⟨v2, hf2, hx⟩ | ⟨e8, hf2, hx⟩ := upR_h hf
    · cases hx
    cases hx
    have he : e9 = 1 ∧ k = 1 := by
      unfold cd_told at hk
      by_cases c1 : e9 = 1
      · rw [if_pos c1] at hk
        exact ⟨c1, (Option.some.inj hk).symm⟩
      · rw [if_neg c1] at hk
        cases hk
    refine lv_aload_n C.1 C.2.1 dL_told_0 rfl (lv_at hl 3 rfl) ?_
    refine lv_iconst (v := 0) C.1 C.2.1 dL_told_1 (by decide) ?_
    refine lv_aload_n C.1 C.2.1 dL_told_2 rfl (lv_at hl 0 rfl) ?_
    refine lv_iload_n C.1 C.2.1 dL_told_3 rfl (lv_at hl 1 rfl) ?_
    refine lv_iload_n C.1 C.2.1 dL_told_4 rfl (lv_at hl 2 rfl) ?_
    refine kw_TRx C hK hP hD hA hE [.int v1, .int v2] rfl (tX0_told hfl hf2) (cb_L_42 C.2.2.2.2 ⟨Nat.le_of_ble_eq_true rfl, Nat.le_of_ble_eq_true rfl⟩) rfl hl.1 (Nat.le_of_ble_eq_true rfl) ⟨Nat.le_of_ble_eq_true rfl, Nat.le_of_ble_eq_true rfl⟩ dL_told_5 rfl (fun H locs q9 ce hP hS hce hcv hcl => ?_)
    rcases he with ⟨rfl, rfl⟩
    · refine vx_catch (name := "java/lang/IndexOutOfBoundsException") C.2.2.2.1 [] ⟨0, 10, 13, 13⟩ [] (by rw [htab]; rfl) (fun z hz => absurd hz List.not_mem_nil) (by decide) (by decide) (C.2.2.2.2 _ qK_L_13) (va_Nw.use rfl (hE.2.2.2.1 _ (List.mem_of_getElem? (i := 0) rfl))) hce hcv hcl ?_
      refine lv_astore (lv' := [(4, .ref q9), (0, .ref (a 0)), (1, .int v1), (2, .int v2), (3, .ref q)]) C.1 C.2.1 dL_told_13 hl (by decide) rfl (fun ls hl => ?_)
      refine lv_iconst (v := 1) C.1 C.2.1 dL_told_15 (by decide) ?_
      exact k_iretC C hr hlk hP hS dL_told_16
def cd_step : Nat → Option Int32 := fun e => if e = 1 then some 1 else none
def mL_step (S : XS) (g : Nat → Int64) (v1 : Int32) (v2 : Int32) (v3 : Int32) (v4 : Int32) : Option (Int32 × YS) := wrpI cd_step (upR S (mX_step S v1 v2 v3 v4)) S g
theorem cb_L_45 {R : Room} {s : State} {args : Array Value} (h : ∀ w ∈ WW, w.before args s = true) (hR : 9 + 1 ≤ R.frames ∧ 8 + (5 + 11) + 156 ≤ R.locals) : CallW R s args RL RX0 45 yX0_step cX0_step 5 (some .int) (Cond.code yX0_step cX0_step 5 (some .int) :: WW) ({ frames := 9, cells := 1, slots := 6, locals := 156 }) 1 6 4 := cwV 4 h (gdV qM_L_45 qI_X0_step qS_X0_step qN_X0 qC_X0_step) rfl rfl rfl (by decide +kernel) hR
set_option maxHeartbeats 4000000 in
set_option maxRecDepth 100000 in
theorem tL_step {l : Launch} {D : va_G} {cI cZ cL : ClassId} {a : Nat → Nat} {q : Nat} {S : XS} {g : Nat → Int64} {sz : Nat} {v1 : Int32} {v2 : Int32} {v3 : Int32} {v4 : Int32} {z : Int32 × YS} (hfl : l.stackTraces = false) (h : mL_step S g v1 v2 v3 v4 = some z) : Met l yL_step (Cond.codeWith yL_step cL_step 7 (some .int) [(0, 14, 17, 13)] :: WW) ({ frames := 10, cells := 1, slots := 6, locals := 180 }) (va_Pc [.ref (a 0), .int v1, .int v2, .int v3, .int v4, .ref q] (fun U => rwP D (wXO cI cZ cL a q (S, g)) (ty3 cI cZ cL) sz U ∧ excU U ∧ ncU U)) (rwQi D (wXO cI cZ cL a q z.2) z.1 (va_A (wXO cI cZ cL a q (S, g)) sz)) 1 6 (va_A (wXO cI cZ cL a q (S, g)) sz) := by
  refine WR_of (own := RL) (Qc := fun A => rwQi D (wXO cI cZ cL a q z.2) z.1 A) (by decide) rfl (Nat.le_of_ble_eq_true rfl) ?_
  intro p e s m args below meth c A ha C hr hlk htab hP hK hD hA hE hN ls hl
  have hl : lv_has ls 7 [(0, .ref (a 0)), (1, .int v1), (2, .int v2), (3, .int v3), (4, .int v4), (5, .ref q)] := hl
  unfold mL_step at h
  rcases wrpI_h h with ⟨v, S1, hf, rfl⟩ | ⟨e9, k, hf, hk, rfl⟩
  · obtain ⟨v2, hf2, hx⟩ | ⟨e8, hf2, hx⟩ := upR_h hf
    · cases hx
      refine lv_aload C.1 C.2.1 dL_step_0 (lv_at hl 5 rfl) ?_
      refine lv_iconst (v := 0) C.1 C.2.1 dL_step_2 (by decide) ?_
      refine lv_aload_n C.1 C.2.1 dL_step_3 rfl (lv_at hl 0 rfl) ?_
      refine lv_iload_n C.1 C.2.1 dL_step_4 rfl (lv_at hl 1 rfl) ?_
      refine lv_iload_n C.1 C.2.1 dL_step_5 rfl (lv_at hl 2 rfl) ?_
      refine lv_iload_n C.1 C.2.1 dL_step_6 rfl (lv_at hl 3 rfl) ?_
      refine lv_iload C.1 C.2.1 dL_step_7 (lv_at hl 4 rfl) ?_
      refine kw_TRn C hK hP hD hA hE [.int v1, .int v2, .int v3, .int v4] rfl (tX0_step hfl hf2) (cb_L_45 C.2.2.2.2 ⟨Nat.le_of_ble_eq_true rfl, Nat.le_of_ble_eq_true rfl⟩) rfl hl.1 (Nat.le_of_ble_eq_true rfl) ⟨Nat.le_of_ble_eq_true rfl, Nat.le_of_ble_eq_true rfl⟩ dL_step_9 rfl (fun H locs hP hD hS => ?_)
      refine lv_i2l (v := v.toInt64) C.1 C.2.1 dL_step_12 rfl ?_
      refine va_last C.1 C.2.1 hK hP hD hS 14 2 rfl rfl in01 dL_step_13 (fun H locs hP hD hS => ?_)
      have hP : va_P D vwCl (wXO cI cZ cL a q (S, vp_updL g (0 : Int32).toNatClampNeg (v.toInt64))) H := hP
      refine lv_goto (tgt := 21) C.1 C.2.1 dL_step_14 (by decide) ?_
      refine lv_iconst (v := 0) C.1 C.2.1 dL_step_21 (by decide) ?_
      refine W.widen (k := 1) (n := 6) (Nat.le_of_ble_eq_true rfl) (Nat.le_of_ble_eq_true rfl) ?_
      exact k_iretC C hr hlk hP hS dL_step_22
    · cases hx
  · obtain ⟨v2, hf2, hx⟩ | ⟨e8, hf2, hx⟩ := upR_h hf
    · cases hx
    cases hx
    have he : e9 = 1 ∧ k = 1 := by
      unfold cd_step at hk
      by_cases c1 : e9 = 1
      · rw [if_pos c1] at hk
        exact ⟨c1, (Option.some.inj hk).symm⟩
      · rw [if_neg c1] at hk
        cases hk
    refine lv_aload C.1 C.2.1 dL_step_0 (lv_at hl 5 rfl) ?_
    refine lv_iconst (v := 0) C.1 C.2.1 dL_step_2 (by decide) ?_
    refine lv_aload_n C.1 C.2.1 dL_step_3 rfl (lv_at hl 0 rfl) ?_
    refine lv_iload_n C.1 C.2.1 dL_step_4 rfl (lv_at hl 1 rfl) ?_
    refine lv_iload_n C.1 C.2.1 dL_step_5 rfl (lv_at hl 2 rfl) ?_
    refine lv_iload_n C.1 C.2.1 dL_step_6 rfl (lv_at hl 3 rfl) ?_
    refine lv_iload C.1 C.2.1 dL_step_7 (lv_at hl 4 rfl) ?_
    refine kw_TRx C hK hP hD hA hE [.int v1, .int v2, .int v3, .int v4] rfl (tX0_step hfl hf2) (cb_L_45 C.2.2.2.2 ⟨Nat.le_of_ble_eq_true rfl, Nat.le_of_ble_eq_true rfl⟩) rfl hl.1 (Nat.le_of_ble_eq_true rfl) ⟨Nat.le_of_ble_eq_true rfl, Nat.le_of_ble_eq_true rfl⟩ dL_step_9 rfl (fun H locs q9 ce hP hS hce hcv hcl => ?_)
    rcases he with ⟨rfl, rfl⟩
    · refine vx_catch (name := "java/lang/IndexOutOfBoundsException") C.2.2.2.1 [] ⟨0, 14, 17, 13⟩ [] (by rw [htab]; rfl) (fun z hz => absurd hz List.not_mem_nil) (by decide) (by decide) (C.2.2.2.2 _ qK_L_13) (va_Nw.use rfl (hE.2.2.2.1 _ (List.mem_of_getElem? (i := 0) rfl))) hce hcv hcl ?_
      refine lv_astore (lv' := [(6, .ref q9), (0, .ref (a 0)), (1, .int v1), (2, .int v2), (3, .int v3), (4, .int v4), (5, .ref q)]) C.1 C.2.1 dL_step_17 hl (by decide) rfl (fun ls hl => ?_)
      refine lv_iconst (v := 1) C.1 C.2.1 dL_step_19 (by decide) ?_
      exact k_iretC C hr hlk hP hS dL_step_20
def cd_about : Nat → Option Int32 := fun e => if e = 1 then some 1 else none
def mL_about (S : XS) (g : Nat → Int64) (v1 : Int32) (v2 : Int32) (v3 : Int32) : Option (Int32 × YS) := wrpI cd_about (upR S (mX_about S v1 v2 v3)) S g
theorem cb_L_48 {R : Room} {s : State} {args : Array Value} (h : ∀ w ∈ WW, w.before args s = true) (hR : 8 + 1 ≤ R.frames ∧ 8 + (5 + 11) + 133 ≤ R.locals) : CallW R s args RL RX0 48 yX0_about cX0_about 5 (some .int) (Cond.code yX0_about cX0_about 5 (some .int) :: WW) ({ frames := 8, cells := 1, slots := 6, locals := 133 }) 1 6 3 := cwV 3 h (gdV qM_L_48 qI_X0_about qS_X0_about qN_X0 qC_X0_about) rfl rfl rfl (by decide +kernel) hR
set_option maxHeartbeats 4000000 in
set_option maxRecDepth 100000 in
theorem tL_about {l : Launch} {D : va_G} {cI cZ cL : ClassId} {a : Nat → Nat} {q : Nat} {S : XS} {g : Nat → Int64} {sz : Nat} {v1 : Int32} {v2 : Int32} {v3 : Int32} {z : Int32 × YS} (hfl : l.stackTraces = false) (h : mL_about S g v1 v2 v3 = some z) : Met l yL_about (Cond.codeWith yL_about cL_about 6 (some .int) [(0, 12, 15, 13)] :: WW) ({ frames := 9, cells := 1, slots := 6, locals := 157 }) (va_Pc [.ref (a 0), .int v1, .int v2, .int v3, .ref q] (fun U => rwP D (wXO cI cZ cL a q (S, g)) (ty3 cI cZ cL) sz U ∧ excU U ∧ ncU U)) (rwQi D (wXO cI cZ cL a q z.2) z.1 (va_A (wXO cI cZ cL a q (S, g)) sz)) 1 6 (va_A (wXO cI cZ cL a q (S, g)) sz) := by
  refine WR_of (own := RL) (Qc := fun A => rwQi D (wXO cI cZ cL a q z.2) z.1 A) (by decide) rfl (Nat.le_of_ble_eq_true rfl) ?_
  intro p e s m args below meth c A ha C hr hlk htab hP hK hD hA hE hN ls hl
  have hl : lv_has ls 6 [(0, .ref (a 0)), (1, .int v1), (2, .int v2), (3, .int v3), (4, .ref q)] := hl
  unfold mL_about at h
  rcases wrpI_h h with ⟨v, S1, hf, rfl⟩ | ⟨e9, k, hf, hk, rfl⟩
  · obtain ⟨v2, hf2, hx⟩ | ⟨e8, hf2, hx⟩ := upR_h hf
    · cases hx
      refine lv_aload C.1 C.2.1 dL_about_0 (lv_at hl 4 rfl) ?_
      refine lv_iconst (v := 0) C.1 C.2.1 dL_about_2 (by decide) ?_
      refine lv_aload_n C.1 C.2.1 dL_about_3 rfl (lv_at hl 0 rfl) ?_
      refine lv_iload_n C.1 C.2.1 dL_about_4 rfl (lv_at hl 1 rfl) ?_
      refine lv_iload_n C.1 C.2.1 dL_about_5 rfl (lv_at hl 2 rfl) ?_
      refine lv_iload_n C.1 C.2.1 dL_about_6 rfl (lv_at hl 3 rfl) ?_
      refine kw_TRn C hK hP hD hA hE [.int v1, .int v2, .int v3] rfl (tX0_about hfl hf2) (cb_L_48 C.2.2.2.2 ⟨Nat.le_of_ble_eq_true rfl, Nat.le_of_ble_eq_true rfl⟩) rfl hl.1 (Nat.le_of_ble_eq_true rfl) ⟨Nat.le_of_ble_eq_true rfl, Nat.le_of_ble_eq_true rfl⟩ dL_about_7 rfl (fun H locs hP hD hS => ?_)
      refine lv_i2l (v := v.toInt64) C.1 C.2.1 dL_about_10 rfl ?_
      refine va_last C.1 C.2.1 hK hP hD hS 14 2 rfl rfl in01 dL_about_11 (fun H locs hP hD hS => ?_)
      have hP : va_P D vwCl (wXO cI cZ cL a q (S, vp_updL g (0 : Int32).toNatClampNeg (v.toInt64))) H := hP
      refine lv_goto (tgt := 19) C.1 C.2.1 dL_about_12 (by decide) ?_
      refine lv_iconst (v := 0) C.1 C.2.1 dL_about_19 (by decide) ?_
      refine W.widen (k := 1) (n := 6) (Nat.le_of_ble_eq_true rfl) (Nat.le_of_ble_eq_true rfl) ?_
      exact k_iretC C hr hlk hP hS dL_about_20
    · cases hx
  · obtain ⟨v2, hf2, hx⟩ | ⟨e8, hf2, hx⟩ := upR_h hf
    · cases hx
    cases hx
    have he : e9 = 1 ∧ k = 1 := by
      unfold cd_about at hk
      by_cases c1 : e9 = 1
      · rw [if_pos c1] at hk
        exact ⟨c1, (Option.some.inj hk).symm⟩
      · rw [if_neg c1] at hk
        cases hk
    refine lv_aload C.1 C.2.1 dL_about_0 (lv_at hl 4 rfl) ?_
    refine lv_iconst (v := 0) C.1 C.2.1 dL_about_2 (by decide) ?_
    refine lv_aload_n C.1 C.2.1 dL_about_3 rfl (lv_at hl 0 rfl) ?_
    refine lv_iload_n C.1 C.2.1 dL_about_4 rfl (lv_at hl 1 rfl) ?_
    refine lv_iload_n C.1 C.2.1 dL_about_5 rfl (lv_at hl 2 rfl) ?_
    refine lv_iload_n C.1 C.2.1 dL_about_6 rfl (lv_at hl 3 rfl) ?_
    refine kw_TRx C hK hP hD hA hE [.int v1, .int v2, .int v3] rfl (tX0_about hfl hf2) (cb_L_48 C.2.2.2.2 ⟨Nat.le_of_ble_eq_true rfl, Nat.le_of_ble_eq_true rfl⟩) rfl hl.1 (Nat.le_of_ble_eq_true rfl) ⟨Nat.le_of_ble_eq_true rfl, Nat.le_of_ble_eq_true rfl⟩ dL_about_7 rfl (fun H locs q9 ce hP hS hce hcv hcl => ?_)
    rcases he with ⟨rfl, rfl⟩
    · refine vx_catch (name := "java/lang/IndexOutOfBoundsException") C.2.2.2.1 [] ⟨0, 12, 15, 13⟩ [] (by rw [htab]; rfl) (fun z hz => absurd hz List.not_mem_nil) (by decide) (by decide) (C.2.2.2.2 _ qK_L_13) (va_Nw.use rfl (hE.2.2.2.1 _ (List.mem_of_getElem? (i := 0) rfl))) hce hcv hcl ?_
      refine lv_astore (lv' := [(5, .ref q9), (0, .ref (a 0)), (1, .int v1), (2, .int v2), (3, .int v3), (4, .ref q)]) C.1 C.2.1 dL_about_15 hl (by decide) rfl (fun ls hl => ?_)
      refine lv_iconst (v := 1) C.1 C.2.1 dL_about_17 (by decide) ?_
      exact k_iretC C hr hlk hP hS dL_about_18
def cd_count : Nat → Option Int32 := fun e => if e = 1 then some 1 else none
def mL_count (S : XS) (g : Nat → Int64) (v1 : Int32) : Option (Int32 × YS) := wrpI cd_count (upR S (mX_count S v1)) S g
theorem cb_L_52 {R : Room} {s : State} {args : Array Value} (h : ∀ w ∈ WW, w.before args s = true) (hR : 7 + 1 ≤ R.frames ∧ 8 + (2 + 11) + 112 ≤ R.locals) : CallW R s args RL RX0 52 yX0_count cX0_count 2 (some .int) (Cond.code yX0_count cX0_count 2 (some .int) :: WW) ({ frames := 7, cells := 1, slots := 6, locals := 112 }) 1 6 1 := cwV 1 h (gdV qM_L_52 qI_X0_count qS_X0_count qN_X0 qC_X0_count) rfl rfl rfl (by decide +kernel) hR
set_option maxHeartbeats 4000000 in
set_option maxRecDepth 100000 in
theorem tL_count {l : Launch} {D : va_G} {cI cZ cL : ClassId} {a : Nat → Nat} {q : Nat} {S : XS} {g : Nat → Int64} {sz : Nat} {v1 : Int32} {z : Int32 × YS} (hfl : l.stackTraces = false) (h : mL_count S g v1 = some z) : Met l yL_count (Cond.codeWith yL_count cL_count 4 (some .int) [(0, 9, 12, 13)] :: WW) ({ frames := 8, cells := 1, slots := 6, locals := 133 }) (va_Pc [.ref (a 0), .int v1, .ref q] (fun U => rwP D (wXO cI cZ cL a q (S, g)) (ty3 cI cZ cL) sz U ∧ excU U ∧ ncU U)) (rwQi D (wXO cI cZ cL a q z.2) z.1 (va_A (wXO cI cZ cL a q (S, g)) sz)) 1 6 (va_A (wXO cI cZ cL a q (S, g)) sz) := by
  refine WR_of (own := RL) (Qc := fun A => rwQi D (wXO cI cZ cL a q z.2) z.1 A) (by decide) rfl (Nat.le_of_ble_eq_true rfl) ?_
  intro p e s m args below meth c A ha C hr hlk htab hP hK hD hA hE hN ls hl
  have hl : lv_has ls 4 [(0, .ref (a 0)), (1, .int v1), (2, .ref q)] := hl
  unfold mL_count at h
  rcases wrpI_h h with ⟨v, S1, hf, rfl⟩ | ⟨e9, k, hf, hk, rfl⟩
  · obtain ⟨v2, hf2, hx⟩ | ⟨e8, hf2, hx⟩ := upR_h hf
    · cases hx
      refine lv_aload_n C.1 C.2.1 dL_count_0 rfl (lv_at hl 2 rfl) ?_
      refine lv_iconst (v := 0) C.1 C.2.1 dL_count_1 (by decide) ?_
      refine lv_aload_n C.1 C.2.1 dL_count_2 rfl (lv_at hl 0 rfl) ?_
      refine lv_iload_n C.1 C.2.1 dL_count_3 rfl (lv_at hl 1 rfl) ?_
      refine kw_TRn C hK hP hD hA hE [.int v1] rfl (tX0_count hfl hf2) (cb_L_52 C.2.2.2.2 ⟨Nat.le_of_ble_eq_true rfl, Nat.le_of_ble_eq_true rfl⟩) rfl hl.1 (Nat.le_of_ble_eq_true rfl) ⟨Nat.le_of_ble_eq_true rfl, Nat.le_of_ble_eq_true rfl⟩ dL_count_4 rfl (fun H locs hP hD hS => ?_)
      refine lv_i2l (v := v.toInt64) C.1 C.2.1 dL_count_7 rfl ?_
      refine va_last C.1 C.2.1 hK hP hD hS 14 2 rfl rfl in01 dL_count_8 (fun H locs hP hD hS => ?_)
      have hP : va_P D vwCl (wXO cI cZ cL a q (S, vp_updL g (0 : Int32).toNatClampNeg (v.toInt64))) H := hP
      refine lv_goto (tgt := 15) C.1 C.2.1 dL_count_9 (by decide) ?_
      refine lv_iconst (v := 0) C.1 C.2.1 dL_count_15 (by decide) ?_
      refine W.widen (k := 1) (n := 6) (Nat.le_of_ble_eq_true rfl) (Nat.le_of_ble_eq_true rfl) ?_
      exact k_iretC C hr hlk hP hS dL_count_16
    · cases hx
  · obtain ⟨v2, hf2, hx⟩ | ⟨e8, hf2, hx⟩ := upR_h hf
    · cases hx
    cases hx
    have he : e9 = 1 ∧ k = 1 := by
      unfold cd_count at hk
      by_cases c1 : e9 = 1
      · rw [if_pos c1] at hk
        exact ⟨c1, (Option.some.inj hk).symm⟩
      · rw [if_neg c1] at hk
        cases hk
    refine lv_aload_n C.1 C.2.1 dL_count_0 rfl (lv_at hl 2 rfl) ?_
    refine lv_iconst (v := 0) C.1 C.2.1 dL_count_1 (by decide) ?_
    refine lv_aload_n C.1 C.2.1 dL_count_2 rfl (lv_at hl 0 rfl) ?_
    refine lv_iload_n C.1 C.2.1 dL_count_3 rfl (lv_at hl 1 rfl) ?_
    refine kw_TRx C hK hP hD hA hE [.int v1] rfl (tX0_count hfl hf2) (cb_L_52 C.2.2.2.2 ⟨Nat.le_of_ble_eq_true rfl, Nat.le_of_ble_eq_true rfl⟩) rfl hl.1 (Nat.le_of_ble_eq_true rfl) ⟨Nat.le_of_ble_eq_true rfl, Nat.le_of_ble_eq_true rfl⟩ dL_count_4 rfl (fun H locs q9 ce hP hS hce hcv hcl => ?_)
    rcases he with ⟨rfl, rfl⟩
    · refine vx_catch (name := "java/lang/IndexOutOfBoundsException") C.2.2.2.1 [] ⟨0, 9, 12, 13⟩ [] (by rw [htab]; rfl) (fun z hz => absurd hz List.not_mem_nil) (by decide) (by decide) (C.2.2.2.2 _ qK_L_13) (va_Nw.use rfl (hE.2.2.2.1 _ (List.mem_of_getElem? (i := 0) rfl))) hce hcv hcl ?_
      refine lv_astore_n (lv' := [(3, .ref q9), (0, .ref (a 0)), (1, .int v1), (2, .ref q)]) C.1 C.2.1 dL_count_12 rfl hl (by decide) rfl (fun ls hl => ?_)
      refine lv_iconst (v := 1) C.1 C.2.1 dL_count_13 (by decide) ?_
      exact k_iretC C hr hlk hP hS dL_count_14
def cd_best : Nat → Option Int32 := fun e => if e = 1 then some 1 else none
def mL_best (S : XS) (g : Nat → Int64) (v1 : Int32) : Option (Int32 × YS) := wrpI cd_best (upR S (mX_best S v1)) S g
theorem cb_L_55 {R : Room} {s : State} {args : Array Value} (h : ∀ w ∈ WW, w.before args s = true) (hR : 7 + 1 ≤ R.frames ∧ 8 + (6 + 11) + 111 ≤ R.locals) : CallW R s args RL RX0 55 yX0_best cX0_best 6 (some .int) (Cond.code yX0_best cX0_best 6 (some .int) :: WW) ({ frames := 7, cells := 1, slots := 6, locals := 111 }) 1 6 1 := cwV 1 h (gdV qM_L_55 qI_X0_best qS_X0_best qN_X0 qC_X0_best) rfl rfl rfl (by decide +kernel) hR
set_option maxHeartbeats 4000000 in
set_option maxRecDepth 100000 in
theorem tL_best {l : Launch} {D : va_G} {cI cZ cL : ClassId} {a : Nat → Nat} {q : Nat} {S : XS} {g : Nat → Int64} {sz : Nat} {v1 : Int32} {z : Int32 × YS} (hfl : l.stackTraces = false) (h : mL_best S g v1 = some z) : Met l yL_best (Cond.codeWith yL_best cL_best 4 (some .int) [(0, 9, 12, 13)] :: WW) ({ frames := 8, cells := 1, slots := 6, locals := 136 }) (va_Pc [.ref (a 0), .int v1, .ref q] (fun U => rwP D (wXO cI cZ cL a q (S, g)) (ty3 cI cZ cL) sz U ∧ excU U ∧ ncU U)) (rwQi D (wXO cI cZ cL a q z.2) z.1 (va_A (wXO cI cZ cL a q (S, g)) sz)) 1 6 (va_A (wXO cI cZ cL a q (S, g)) sz) := by
  refine WR_of (own := RL) (Qc := fun A => rwQi D (wXO cI cZ cL a q z.2) z.1 A) (by decide) rfl (Nat.le_of_ble_eq_true rfl) ?_
  intro p e s m args below meth c A ha C hr hlk htab hP hK hD hA hE hN ls hl
  have hl : lv_has ls 4 [(0, .ref (a 0)), (1, .int v1), (2, .ref q)] := hl
  unfold mL_best at h
  rcases wrpI_h h with ⟨v, S1, hf, rfl⟩ | ⟨e9, k, hf, hk, rfl⟩
  · obtain ⟨v2, hf2, hx⟩ | ⟨e8, hf2, hx⟩ := upR_h hf
    · cases hx
      refine lv_aload_n C.1 C.2.1 dL_best_0 rfl (lv_at hl 2 rfl) ?_
      refine lv_iconst (v := 0) C.1 C.2.1 dL_best_1 (by decide) ?_
      refine lv_aload_n C.1 C.2.1 dL_best_2 rfl (lv_at hl 0 rfl) ?_
      refine lv_iload_n C.1 C.2.1 dL_best_3 rfl (lv_at hl 1 rfl) ?_
      refine kw_TRn C hK hP hD hA hE [.int v1] rfl (tX0_best hfl hf2) (cb_L_55 C.2.2.2.2 ⟨Nat.le_of_ble_eq_true rfl, Nat.le_of_ble_eq_true rfl⟩) rfl hl.1 (Nat.le_of_ble_eq_true rfl) ⟨Nat.le_of_ble_eq_true rfl, Nat.le_of_ble_eq_true rfl⟩ dL_best_4 rfl (fun H locs hP hD hS => ?_)
      refine lv_i2l (v := v.toInt64) C.1 C.2.1 dL_best_7 rfl ?_
      refine va_last C.1 C.2.1 hK hP hD hS 14 2 rfl rfl in01 dL_best_8 (fun H locs hP hD hS => ?_)
      have hP : va_P D vwCl (wXO cI cZ cL a q (S, vp_updL g (0 : Int32).toNatClampNeg (v.toInt64))) H := hP
      refine lv_goto (tgt := 15) C.1 C.2.1 dL_best_9 (by decide) ?_
      refine lv_iconst (v := 0) C.1 C.2.1 dL_best_15 (by decide) ?_
      refine W.widen (k := 1) (n := 6) (Nat.le_of_ble_eq_true rfl) (Nat.le_of_ble_eq_true rfl) ?_
      exact k_iretC C hr hlk hP hS dL_best_16
    · cases hx
  · obtain ⟨v2, hf2, hx⟩ | ⟨e8, hf2, hx⟩ := upR_h hf
    · cases hx
    cases hx
    have he : e9 = 1 ∧ k = 1 := by
      unfold cd_best at hk
      by_cases c1 : e9 = 1
      · rw [if_pos c1] at hk
        exact ⟨c1, (Option.some.inj hk).symm⟩
      · rw [if_neg c1] at hk
        cases hk
    refine lv_aload_n C.1 C.2.1 dL_best_0 rfl (lv_at hl 2 rfl) ?_
    refine lv_iconst (v := 0) C.1 C.2.1 dL_best_1 (by decide) ?_
    refine lv_aload_n C.1 C.2.1 dL_best_2 rfl (lv_at hl 0 rfl) ?_
    refine lv_iload_n C.1 C.2.1 dL_best_3 rfl (lv_at hl 1 rfl) ?_
    refine kw_TRx C hK hP hD hA hE [.int v1] rfl (tX0_best hfl hf2) (cb_L_55 C.2.2.2.2 ⟨Nat.le_of_ble_eq_true rfl, Nat.le_of_ble_eq_true rfl⟩) rfl hl.1 (Nat.le_of_ble_eq_true rfl) ⟨Nat.le_of_ble_eq_true rfl, Nat.le_of_ble_eq_true rfl⟩ dL_best_4 rfl (fun H locs q9 ce hP hS hce hcv hcl => ?_)
    rcases he with ⟨rfl, rfl⟩
    · refine vx_catch (name := "java/lang/IndexOutOfBoundsException") C.2.2.2.1 [] ⟨0, 9, 12, 13⟩ [] (by rw [htab]; rfl) (fun z hz => absurd hz List.not_mem_nil) (by decide) (by decide) (C.2.2.2.2 _ qK_L_13) (va_Nw.use rfl (hE.2.2.2.1 _ (List.mem_of_getElem? (i := 0) rfl))) hce hcv hcl ?_
      refine lv_astore_n (lv' := [(3, .ref q9), (0, .ref (a 0)), (1, .int v1), (2, .ref q)]) C.1 C.2.1 dL_best_12 rfl hl (by decide) rfl (fun ls hl => ?_)
      refine lv_iconst (v := 1) C.1 C.2.1 dL_best_13 (by decide) ?_
      exact k_iretC C hr hlk hP hS dL_best_14
def cd_without : Nat → Option Int32 := fun e => if e = 1 then some 1 else none
def mL_without (S : XS) (g : Nat → Int64) (v1 : Int32) : Option (Int32 × YS) := wrpI cd_without (mX_without S v1) S g
theorem cb_L_58 {R : Room} {s : State} {args : Array Value} (h : ∀ w ∈ WW, w.before args s = true) (hR : 7 + 1 ≤ R.frames ∧ 8 + (2 + 11) + 119 ≤ R.locals) : CallW R s args RL RX0 58 yX0_without cX0_without 2 (some .int) (Cond.code yX0_without cX0_without 2 (some .int) :: WW) ({ frames := 7, cells := 1, slots := 6, locals := 119 }) 1 6 1 := cwV 1 h (gdV qM_L_58 qI_X0_without qS_X0_without qN_X0 qC_X0_without) rfl rfl rfl (by decide +kernel) hR
set_option maxHeartbeats 4000000 in
set_option maxRecDepth 100000 in
theorem tL_without {l : Launch} {D : va_G} {cI cZ cL : ClassId} {a : Nat → Nat} {q : Nat} {S : XS} {g : Nat → Int64} {sz : Nat} {v1 : Int32} {z : Int32 × YS} (hfl : l.stackTraces = false) (h : mL_without S g v1 = some z) : Met l yL_without (Cond.codeWith yL_without cL_without 4 (some .int) [(0, 9, 12, 13)] :: WW) ({ frames := 8, cells := 1, slots := 6, locals := 140 }) (va_Pc [.ref (a 0), .int v1, .ref q] (fun U => rwP D (wXO cI cZ cL a q (S, g)) (ty3 cI cZ cL) sz U ∧ excU U ∧ ncU U)) (rwQi D (wXO cI cZ cL a q z.2) z.1 (va_A (wXO cI cZ cL a q (S, g)) sz)) 1 6 (va_A (wXO cI cZ cL a q (S, g)) sz) := by
  refine WR_of (own := RL) (Qc := fun A => rwQi D (wXO cI cZ cL a q z.2) z.1 A) (by decide) rfl (Nat.le_of_ble_eq_true rfl) ?_
  intro p e s m args below meth c A ha C hr hlk htab hP hK hD hA hE hN ls hl
  have hl : lv_has ls 4 [(0, .ref (a 0)), (1, .int v1), (2, .ref q)] := hl
  unfold mL_without at h
  rcases wrpI_h h with ⟨v, S1, hf, rfl⟩ | ⟨e9, k, hf, hk, rfl⟩
  · refine lv_aload_n C.1 C.2.1 dL_without_0 rfl (lv_at hl 2 rfl) ?_
    refine lv_iconst (v := 0) C.1 C.2.1 dL_without_1 (by decide) ?_
    refine lv_aload_n C.1 C.2.1 dL_without_2 rfl (lv_at hl 0 rfl) ?_
    refine lv_iload_n C.1 C.2.1 dL_without_3 rfl (lv_at hl 1 rfl) ?_
    refine kw_TWn C hK hP hD hA hE [.int v1] rfl (tX0_without hfl hf) (cb_L_58 C.2.2.2.2 ⟨Nat.le_of_ble_eq_true rfl, Nat.le_of_ble_eq_true rfl⟩) rfl hl.1 (Nat.le_of_ble_eq_true rfl) ⟨Nat.le_of_ble_eq_true rfl, Nat.le_of_ble_eq_true rfl⟩ dL_without_4 rfl (fun H locs hP hD hS => ?_)
    refine lv_i2l (v := v.toInt64) C.1 C.2.1 dL_without_7 rfl ?_
    refine va_last C.1 C.2.1 hK hP hD hS 14 2 rfl rfl in01 dL_without_8 (fun H locs hP hD hS => ?_)
    have hP : va_P D vwCl (wXO cI cZ cL a q (S1, vp_updL g (0 : Int32).toNatClampNeg (v.toInt64))) H := hP
    refine lv_goto (tgt := 15) C.1 C.2.1 dL_without_9 (by decide) ?_
    refine lv_iconst (v := 0) C.1 C.2.1 dL_without_15 (by decide) ?_
    refine W.widen (k := 1) (n := 6) (Nat.le_of_ble_eq_true rfl) (Nat.le_of_ble_eq_true rfl) ?_
    exact k_iretC C hr hlk hP hS dL_without_16
  · have he : e9 = 1 ∧ k = 1 := by
      unfold cd_without at hk
      by_cases c1 : e9 = 1
      · rw [if_pos c1] at hk
        exact ⟨c1, (Option.some.inj hk).symm⟩
      · rw [if_neg c1] at hk
        cases hk
    refine lv_aload_n C.1 C.2.1 dL_without_0 rfl (lv_at hl 2 rfl) ?_
    refine lv_iconst (v := 0) C.1 C.2.1 dL_without_1 (by decide) ?_
    refine lv_aload_n C.1 C.2.1 dL_without_2 rfl (lv_at hl 0 rfl) ?_
    refine lv_iload_n C.1 C.2.1 dL_without_3 rfl (lv_at hl 1 rfl) ?_
    refine kw_TWx C hK hP hD hA hE [.int v1] rfl (tX0_without hfl hf) (cb_L_58 C.2.2.2.2 ⟨Nat.le_of_ble_eq_true rfl, Nat.le_of_ble_eq_true rfl⟩) rfl hl.1 (Nat.le_of_ble_eq_true rfl) ⟨Nat.le_of_ble_eq_true rfl, Nat.le_of_ble_eq_true rfl⟩ dL_without_4 rfl (fun H locs q9 ce hP hS hce hcv hcl => ?_)
    rcases he with ⟨rfl, rfl⟩
    · refine vx_catch (name := "java/lang/IndexOutOfBoundsException") C.2.2.2.1 [] ⟨0, 9, 12, 13⟩ [] (by rw [htab]; rfl) (fun z hz => absurd hz List.not_mem_nil) (by decide) (by decide) (C.2.2.2.2 _ qK_L_13) (va_Nw.use rfl (hE.2.2.2.1 _ (List.mem_of_getElem? (i := 0) rfl))) hce hcv hcl ?_
      refine lv_astore_n (lv' := [(3, .ref q9), (0, .ref (a 0)), (1, .int v1), (2, .ref q)]) C.1 C.2.1 dL_without_12 rfl hl (by decide) rfl (fun ls hl => ?_)
      refine lv_iconst (v := 1) C.1 C.2.1 dL_without_13 (by decide) ?_
      exact k_iretC C hr hlk hP hS dL_without_14
def cd_needs : Nat → Option Int32 := fun e => if e = 1 then some 1 else none
def mL_needs (S : XS) (g : Nat → Int64) (v1 : Int32) (v2 : Int32) : Option (Int32 × YS) := wrpZ cd_needs (mX_needs S v1 v2) S g
theorem cb_L_61 {R : Room} {s : State} {args : Array Value} (h : ∀ w ∈ WW, w.before args s = true) (hR : 7 + 1 ≤ R.frames ∧ 8 + (4 + 11) + 119 ≤ R.locals) : CallW R s args RL RX0 61 yX0_needs cX0_needs 4 (some .boolean) (Cond.code yX0_needs cX0_needs 4 (some .boolean) :: WW) ({ frames := 7, cells := 1, slots := 6, locals := 119 }) 1 6 2 := cwV 2 h (gdV qM_L_61 qI_X0_needs qS_X0_needs qN_X0 qC_X0_needs) rfl rfl rfl (by decide +kernel) hR
set_option maxHeartbeats 4000000 in
set_option maxRecDepth 100000 in
theorem tL_needs {l : Launch} {D : va_G} {cI cZ cL : ClassId} {a : Nat → Nat} {q : Nat} {S : XS} {g : Nat → Int64} {sz : Nat} {v1 : Int32} {v2 : Int32} {z : Int32 × YS} (hfl : l.stackTraces = false) (h : mL_needs S g v1 v2 = some z) : Met l yL_needs (Cond.codeWith yL_needs cL_needs 5 (some .int) [(0, 17, 20, 13)] :: WW) ({ frames := 8, cells := 1, slots := 6, locals := 142 }) (va_Pc [.ref (a 0), .int v1, .int v2, .ref q] (fun U => rwP D (wXO cI cZ cL a q (S, g)) (ty3 cI cZ cL) sz U ∧ excU U ∧ ncU U)) (rwQi D (wXO cI cZ cL a q z.2) z.1 (va_A (wXO cI cZ cL a q (S, g)) sz)) 1 6 (va_A (wXO cI cZ cL a q (S, g)) sz) := by
  refine WR_of (own := RL) (Qc := fun A => rwQi D (wXO cI cZ cL a q z.2) z.1 A) (by decide) rfl (Nat.le_of_ble_eq_true rfl) ?_
  intro p e s m args below meth c A ha C hr hlk htab hP hK hD hA hE hN ls hl
  have hl : lv_has ls 5 [(0, .ref (a 0)), (1, .int v1), (2, .int v2), (3, .ref q)] := hl
  unfold mL_needs at h
  rcases wrpZ_h h with ⟨v, S1, hf, rfl⟩ | ⟨e9, k, hf, hk, rfl⟩
  · refine lv_aload_n C.1 C.2.1 dL_needs_0 rfl (lv_at hl 3 rfl) ?_
    refine lv_iconst (v := 0) C.1 C.2.1 dL_needs_1 (by decide) ?_
    refine lv_aload_n C.1 C.2.1 dL_needs_2 rfl (lv_at hl 0 rfl) ?_
    refine lv_iload_n C.1 C.2.1 dL_needs_3 rfl (lv_at hl 1 rfl) ?_
    refine lv_iload_n C.1 C.2.1 dL_needs_4 rfl (lv_at hl 2 rfl) ?_
    refine kw_TWn C hK hP hD hA hE [.int v1, .int v2] rfl (tX0_needs hfl hf) (cb_L_61 C.2.2.2.2 ⟨Nat.le_of_ble_eq_true rfl, Nat.le_of_ble_eq_true rfl⟩) rfl hl.1 (Nat.le_of_ble_eq_true rfl) ⟨Nat.le_of_ble_eq_true rfl, Nat.le_of_ble_eq_true rfl⟩ dL_needs_5 rfl (fun H locs hP hD hS => ?_)
    refine lv_if_eq (tgt := 15) C.1 C.2.1 dL_needs_8 (by decide) (fun c9 => ?_) (fun c9 => ?_)
    · refine lv_lconst (v := 0) C.1 C.2.1 dL_needs_15 (by decide) ?_
      refine va_last C.1 C.2.1 hK hP hD hS 14 2 rfl rfl in01 dL_needs_16 (fun H locs hP hD hS => ?_)
      have hP : va_P D vwCl (wXO cI cZ cL a q (S1, vp_updL g (0 : Int32).toNatClampNeg ((if v = 0 then 0 else 1)))) H := by rw [if_pos c9]; exact hP
      refine lv_goto (tgt := 24) C.1 C.2.1 dL_needs_17 (by decide) ?_
      refine lv_iconst (v := 0) C.1 C.2.1 dL_needs_24 (by decide) ?_
      refine W.widen (k := 1) (n := 6) (Nat.le_of_ble_eq_true rfl) (Nat.le_of_ble_eq_true rfl) ?_
      exact k_iretC C hr hlk hP hS dL_needs_25
    · refine lv_lconst (v := 1) C.1 C.2.1 dL_needs_11 (by decide) ?_
      refine lv_goto (tgt := 16) C.1 C.2.1 dL_needs_12 (by decide) ?_
      refine va_last C.1 C.2.1 hK hP hD hS 14 2 rfl rfl in01 dL_needs_16 (fun H locs hP hD hS => ?_)
      have hP : va_P D vwCl (wXO cI cZ cL a q (S1, vp_updL g (0 : Int32).toNatClampNeg ((if v = 0 then 0 else 1)))) H := by rw [if_neg c9]; exact hP
      refine lv_goto (tgt := 24) C.1 C.2.1 dL_needs_17 (by decide) ?_
      refine lv_iconst (v := 0) C.1 C.2.1 dL_needs_24 (by decide) ?_
      refine W.widen (k := 1) (n := 6) (Nat.le_of_ble_eq_true rfl) (Nat.le_of_ble_eq_true rfl) ?_
      exact k_iretC C hr hlk hP hS dL_needs_25
  · have he : e9 = 1 ∧ k = 1 := by
      unfold cd_needs at hk
      by_cases c1 : e9 = 1
      · rw [if_pos c1] at hk
        exact ⟨c1, (Option.some.inj hk).symm⟩
      · rw [if_neg c1] at hk
        cases hk
    refine lv_aload_n C.1 C.2.1 dL_needs_0 rfl (lv_at hl 3 rfl) ?_
    refine lv_iconst (v := 0) C.1 C.2.1 dL_needs_1 (by decide) ?_
    refine lv_aload_n C.1 C.2.1 dL_needs_2 rfl (lv_at hl 0 rfl) ?_
    refine lv_iload_n C.1 C.2.1 dL_needs_3 rfl (lv_at hl 1 rfl) ?_
    refine lv_iload_n C.1 C.2.1 dL_needs_4 rfl (lv_at hl 2 rfl) ?_
    refine kw_TWx C hK hP hD hA hE [.int v1, .int v2] rfl (tX0_needs hfl hf) (cb_L_61 C.2.2.2.2 ⟨Nat.le_of_ble_eq_true rfl, Nat.le_of_ble_eq_true rfl⟩) rfl hl.1 (Nat.le_of_ble_eq_true rfl) ⟨Nat.le_of_ble_eq_true rfl, Nat.le_of_ble_eq_true rfl⟩ dL_needs_5 rfl (fun H locs q9 ce hP hS hce hcv hcl => ?_)
    rcases he with ⟨rfl, rfl⟩
    · refine vx_catch (name := "java/lang/IndexOutOfBoundsException") C.2.2.2.1 [] ⟨0, 17, 20, 13⟩ [] (by rw [htab]; rfl) (fun z hz => absurd hz List.not_mem_nil) (by decide) (by decide) (C.2.2.2.2 _ qK_L_13) (va_Nw.use rfl (hE.2.2.2.1 _ (List.mem_of_getElem? (i := 0) rfl))) hce hcv hcl ?_
      refine lv_astore (lv' := [(4, .ref q9), (0, .ref (a 0)), (1, .int v1), (2, .int v2), (3, .ref q)]) C.1 C.2.1 dL_needs_20 hl (by decide) rfl (fun ls hl => ?_)
      refine lv_iconst (v := 1) C.1 C.2.1 dL_needs_22 (by decide) ?_
      exact k_iretC C hr hlk hP hS dL_needs_23
end WRAP
