section HKIT
/-! arrays in any number, by numbers of their own: a pure heap; its cells as a world; the rows over it -/
abbrev Cel : Type := Nat × Nat × (Nat → Int32) × (Nat → Option Nat)
abbrev HS : Type := List Cel
def hE (k : Nat → ClassId) (a : Nat → Nat) (c : Cel) : va_E := match c with
  | (0, n, f, _) => .inl (k 0, n, .inl f)
  | (1, n, f, _) => .inl (k 1, n, .inl f)
  | (5, _, _, g) => .inr (1, [va_rf ((g 0).map a), va_rf ((g 1).map a)])
  | (t, n, _, g) => .inl (k t, n, .inr (.inr (.inr (.inr (fun j => (g j).map a)))))
def wH (k : Nat → ClassId) (a : Nat → Nat) (Hp : HS) : va_W := Hp.mapIdx fun i c => (a i, hE k a c)
abbrev tyH (k : Nat → ClassId) : List (ClassId × FieldType) := [(k 0, .int), (k 1, .boolean), (k 2, .array .int), (k 3, .array (.array .int)), (k 4, .array (.array (.array .int)))]
def wfH (Hp : HS) : Prop := ∀ (r : Nat) (c : Cel), Hp[r]? = some c → ∀ j p, c.2.2.2 j = some p → p < Hp.length
def hN (Hp : HS) (r t : Nat) : Option Cel := match Hp[r]? with
  | some c => if c.1 = t then some c else none
  | none => none
def hldI (t : Nat) (Hp : HS) (r : Nat) (i : Int32) : Option Int32 := (hN Hp r t).bind fun c => rdA c.2.2.1 c.2.1 i
def hldR (t : Nat) (Hp : HS) (r : Nat) (i : Int32) : Option Nat := (hN Hp r t).bind fun c => if i < 0 ∨ c.2.1 ≤ i.toNatClampNeg then none else c.2.2.2 i.toNatClampNeg
def hlen (t : Nat) (Hp : HS) (r : Nat) : Option Int32 := (hN Hp r t).bind fun c => some (Int32.ofNat c.2.1)
def hget (Hp : HS) (r fld : Nat) : Option Nat := (hN Hp r 5).bind fun c => c.2.2.2 fld
def hstI {ρ : Type} (t : Nat) (Hp : HS) (r : Nat) (i x : Int32) (K : HS → Option ρ) : Option ρ := (hN Hp r t).bind fun c => wrA c.2.1 i (K (Hp.set r (t, c.2.1, upd c.2.2.1 i.toNatClampNeg x, c.2.2.2)))
def hstR {ρ : Type} (t te : Nat) (Hp : HS) (r : Nat) (i : Int32) (v : Nat) (K : HS → Option ρ) : Option ρ := (hN Hp r t).bind fun c => (hN Hp v te).bind fun _ => wrA c.2.1 i (K (Hp.set r (t, c.2.1, c.2.2.1, va_up c.2.2.2 i.toNatClampNeg (some v))))
def hput {ρ : Type} (tv : Nat) (Hp : HS) (r fld v : Nat) (K : HS → Option ρ) : Option ρ := (hN Hp r 5).bind fun c => (hN Hp v tv).bind fun _ => K (Hp.set r (5, c.2.1, c.2.2.1, va_up c.2.2.2 fld (some v)))
def hnw {ρ : Type} (t : Nat) (rs : List Nat) (Hp : HS) (n : Int32) (K : HS → Nat → Option ρ) : Option ρ := if n < 0 ∨ 14 < n.toNatClampNeg ∨ ¬ ∀ r ∈ rs, r < Hp.length then none else K (Hp ++ [(t, n.toNatClampNeg, fun _ => 0, fun _ => none)]) Hp.length
def hcl {ρ : Type} (rs : List Nat) (Hp : HS) (r : Nat) (K : HS → Nat → Option ρ) : Option ρ := (hN Hp r 0).bind fun c => if 14 < c.2.1 ∨ (¬ ∀ r ∈ rs, r < Hp.length) then none else K (Hp ++ [(0, c.2.1, c.2.2.1, fun _ => none)]) Hp.length
def hno {ρ : Type} (rs : List Nat) (Hp : HS) (K : HS → Nat → Option ρ) : Option ρ := if ¬ ∀ r ∈ rs, r < Hp.length then none else K (Hp ++ [(5, 2, fun _ => 0, fun _ => none)]) Hp.length
def hcb {α ρ : Type} (rs os : List Nat) (Hp : HS) (f : Option (α × HS)) (K : α → HS → Option ρ) : Option ρ := if (¬ ∀ r ∈ rs, r < Hp.length) ∨ (¬ ∀ r ∈ os, (hN Hp r 5).isSome = true) then none else rb f K
def hrc {α : Type} (Hp : HS) (os : List Nat) (f : Option α) : Option α := if ¬ ∀ r ∈ os, (hN Hp r 5).isSome = true then none else f
theorem hN_h {Hp : HS} {r t : Nat} {c : Cel} (h : hN Hp r t = some c) : Hp[r]? = some c ∧ c.1 = t := by
  unfold hN at h
  split at h
  · rename_i c' hc
    by_cases e : c'.1 = t
    · rw [if_pos e] at h; cases h; exact ⟨hc, e⟩
    · rw [if_neg e] at h; cases h
  · cases h
theorem hN_s {Hp : HS} {r t n : Nat} {f : Nat → Int32} {g : Nat → Option Nat} (h : Hp[r]? = some (t, n, f, g)) : hN Hp r t = some (t, n, f, g) := by
  unfold hN
  rw [h]
  exact if_pos rfl
theorem wH_get {k : Nat → ClassId} {a : Nat → Nat} {Hp : HS} {r : Nat} {c : Cel} (h : Hp[r]? = some c) : (wH k a Hp)[r]? = some (a r, hE k a c) := by
  unfold wH
  rw [List.getElem?_mapIdx, h]
  rfl
theorem wH_get' {k : Nat → ClassId} {a : Nat → Nat} {Hp : HS} {r : Nat} {q : Nat × va_E} (h : (wH k a Hp)[r]? = some q) : ∃ c, Hp[r]? = some c ∧ q = (a r, hE k a c) := by
  unfold wH at h
  rw [List.getElem?_mapIdx] at h
  cases hc : Hp[r]? with
  | none => rw [hc] at h; cases h
  | some c => rw [hc] at h; exact ⟨c, rfl, (Option.some.inj h).symm⟩
theorem wH_len {k : Nat → ClassId} {a : Nat → Nat} {Hp : HS} : (wH k a Hp).length = Hp.length := by
  unfold wH
  rw [List.length_mapIdx]
theorem wA_get {k : Nat → ClassId} {a : Nat → Nat} {wr : va_W} {Hp : HS} {r : Nat} {c : Cel} (h : Hp[r]? = some c) : (wr ++ wH k a Hp)[wr.length + r]? = some (a r, hE k a c) := by
  rw [List.getElem?_append_right (Nat.le_add_right _ _), Nat.add_sub_cancel_left]
  exact wH_get h
theorem wH_set {k : Nat → ClassId} {a : Nat → Nat} {Hp : HS} {r : Nat} {c : Cel} : (wH k a Hp).set r (a r, hE k a c) = wH k a (Hp.set r c) := by
  apply List.ext_getElem?
  intro i
  unfold wH
  rw [List.getElem?_set, List.getElem?_mapIdx, List.getElem?_mapIdx, List.getElem?_set, List.length_mapIdx]
  by_cases h : r = i
  · subst h
    rw [if_pos rfl, if_pos rfl]
    by_cases h2 : r < Hp.length
    · rw [if_pos h2, if_pos h2]; rfl
    · rw [if_neg h2, if_neg h2]; rfl
  · rw [if_neg h, if_neg h]
theorem wA_set {k : Nat → ClassId} {a : Nat → Nat} {wr : va_W} {Hp : HS} {r : Nat} {c : Cel} : (wr ++ wH k a Hp).set (wr.length + r) (a r, hE k a c) = wr ++ wH k a (Hp.set r c) := by
  rw [List.set_append_right _ _ (Nat.le_add_right _ _), Nat.add_sub_cancel_left, wH_set]
theorem map_ag {a a1 : Nat → Nat} {n : Nat} (ha : ∀ j, j < n → a1 j = a j) {x : Option Nat} (hx : ∀ p, x = some p → p < n) : x.map a1 = x.map a := by
  cases x with
  | none => rfl
  | some p => exact congrArg some (ha p (hx p rfl))
theorem hE_ag {k : Nat → ClassId} {a a1 : Nat → Nat} {n : Nat} (ha : ∀ j, j < n → a1 j = a j) {c : Cel} (hx : ∀ j p, c.2.2.2 j = some p → p < n) : hE k a1 c = hE k a c := by
  obtain ⟨t, m, f, g⟩ := c
  have hg : ∀ j, (g j).map a1 = (g j).map a := fun j => map_ag ha (hx j)
  have hgf : (fun j => (g j).map a1) = (fun j => (g j).map a) := funext hg
  unfold hE
  split
  · rfl
  · rfl
  · rename_i e; cases e; rw [hg 0, hg 1]
  · rename_i e; cases e; rw [hgf]
theorem wH_ag {k : Nat → ClassId} {a a1 : Nat → Nat} {Hp : HS} (ha : ∀ j, j < Hp.length → a1 j = a j) (hw : wfH Hp) : wH k a1 Hp = wH k a Hp := by
  apply List.ext_getElem?
  intro i
  unfold wH
  rw [List.getElem?_mapIdx, List.getElem?_mapIdx]
  cases hc : Hp[i]? with
  | none => rfl
  | some c =>
    have hi : i < Hp.length := (List.getElem?_eq_some_iff.mp hc).1
    show some (a1 i, hE k a1 c) = some (a i, hE k a c)
    rw [ha i hi, hE_ag ha (hw i c hc)]
theorem wH_app {k : Nat → ClassId} {a : Nat → Nat} {Hp : HS} {c : Cel} : wH k a (Hp ++ [c]) = wH k a Hp ++ [(a Hp.length, hE k a c)] := by
  unfold wH
  rw [List.mapIdx_append]
  show _ ++ [(a (0 + Hp.length), hE k a c)] = _
  rw [Nat.zero_add]
def aup (a : Nat → Nat) (n q : Nat) : Nat → Nat := fun j => if j = n then q else a j
theorem aup_o {a : Nat → Nat} {n q j : Nat} (h : j < n) : aup a n q j = a j := if_neg (Nat.ne_of_lt h)
theorem aup_s {a : Nat → Nat} {n q : Nat} : aup a n q n = q := if_pos rfl
theorem wfH_set {Hp : HS} {r t n : Nat} {c : Cel} {f : Nat → Int32} {g : Nat → Option Nat} (hw : wfH Hp) (hc : Hp[r]? = some c) (hg : ∀ j p, g j = some p → p < Hp.length) : wfH (Hp.set r (t, n, f, g)) := by
  intro r' c' h j p hp
  rw [List.length_set]
  rw [List.getElem?_set] at h
  by_cases e : r = r'
  · subst e
    rw [if_pos rfl, if_pos (List.getElem?_eq_some_iff.mp hc).1] at h
    cases h
    exact hg j p hp
  · rw [if_neg e] at h
    exact hw r' c' h j p hp
theorem wfH_app {Hp : HS} {c : Cel} (hw : wfH Hp) (hc : ∀ j p, c.2.2.2 j = some p → p < Hp.length) : wfH (Hp ++ [c]) := by
  intro r c' h j p hp
  rw [List.length_append]
  by_cases e : r < Hp.length
  · rw [List.getElem?_append_left e] at h
    have := hw r c' h j p hp
    simp only [List.length_cons, List.length_nil]
    omega
  · rw [List.getElem?_append_right (Nat.not_lt.mp e)] at h
    have h2 : r - Hp.length = 0 := by
      have := (List.getElem?_eq_some_iff.mp h).1
      simp only [List.length_cons, List.length_nil] at this
      omega
    rw [h2] at h
    cases h
    have := hc j p hp
    simp only [List.length_cons, List.length_nil]
    omega
/-- what the tables say of arrays of arrays, of a copy of an int array, of the one private constructor that is called from without -/
def hBX (U : State) : Prop := (∀ t ∈ [FieldType.int, .array .int, .array (.array .int)], (Cond.arrayOver (.array t)).before #[] U = true) ∧ va_Nw (.castable "[I" "java/lang/Cloneable") U ∧ va_Nw (.methodLinkNest RL 72 yX1_init RL) U
theorem hAO_moved {t : FieldType} {u U : State} (hvm : u.vm.Alike U.vm) (h : (Cond.arrayOver (.array t)).before #[] u = true) : (Cond.arrayOver (.array t)).before #[] U = true := by
  obtain ⟨comp, c, k, h1, h2, h3, h4, h5⟩ := arrayOverA_spec h
  obtain ⟨k', hk', he⟩ := hvm.2.2 _ _ h3
  have hi : (U.vm.classes.findIdx? fun (x : Class) => match x.kind with | .array component _ => component == comp | _ => false) = some c :=
    (va_idx_bare U.vm comp).symm.trans ((congrArg (fun v : Vm => v.classes.findIdx? fun (x : Class) => match x.kind with | .array component _ => component == comp | _ => false) (by first | exact hvm.bare_eq | exact hvm.bare_eq.symm)).trans ((va_idx_bare u.vm comp).trans h2))
  have hkind : k'.kind = .array comp (.array t) := by rw [he]; exact h4
  have f1 : U.vm.findClass (FieldType.array t).toString = some comp := by rw [hvm.findClass]; exact h1
  have f2 : U.vm.findClass ("[" ++ (FieldType.array t).toString) = some c := by rw [hvm.findClass]; exact h5
  unfold Cond.before Cond.holds
  simp only [Cond.value]
  rw [f1, Option.bind_some]
  refine (congrArg (fun o : Option Nat => (o.bind (fun c => (U.vm.classes[c]?).map fun (k : Class) => match k.kind with | .array _ ty => decide (ty = FieldType.array t) && decide (U.vm.findClass ("[" ++ (FieldType.array t).toString) = some c) | _ => false) == some true)) hi).trans ?_
  simp [hk', hkind, f2]
theorem hBX_warm {s U : State} (hW : s.WarmedH U.vm) (h : hBX s) : hBX U := ⟨fun t ht => hAO_moved hW.alike (h.1 t ht), va_Nw.warmC hW h.2.1, va_Nw.warmM hW h.2.2⟩
theorem hBX_calling {U : State} {g : JFrame} {mk : MethodId} {a : Array Value} (h : hBX U) : hBX (U.calling g mk a) := ⟨fun t ht => hAO_moved (u := U) (U := U.calling g mk a) (Vm.Alike.refl U.vm) (h.1 t ht), va_Nw.same (u := U) (U := U.calling g mk a) rfl rfl h.2.1, va_Nw.same (u := U) (U := U.calling g mk a) rfl rfl h.2.2⟩
theorem hBX_of {s : State} {args : Array Value} (hts : ∀ w ∈ lw_tbl, w.before args s = true) : hBX s := by
  refine ⟨fun t ht => ?_, va_Nw.of (A := args) rfl (hts _ qX_arrI), va_Nw.of (A := args) rfl (hts _ (List.mem_append_right _ (List.mem_append_right _ (List.mem_append_right _ (List.mem_of_getElem? (i := 6) rfl)))))⟩
  simp only [List.mem_cons, List.not_mem_nil, or_false] at ht
  rcases ht with rfl | rfl | rfl
  · exact hts (Cond.arrayOver (.array .int)) (List.mem_append_right _ (List.mem_append_right _ (List.mem_append_left _ (List.mem_of_getElem? (i := 208) rfl))))
  · exact hts (Cond.arrayOver (.array (.array .int))) (List.mem_append_right _ (List.mem_append_right _ (List.mem_append_left _ (List.mem_of_getElem? (i := 198) rfl))))
  · exact hts (Cond.arrayOver (.array (.array (.array .int)))) (List.mem_append_right _ (List.mem_append_right _ (List.mem_append_left _ (List.mem_of_getElem? (i := 196) rfl))))
theorem hRk2 {D : va_G} {k : Nat → ClassId} {s : State} (hK : va_K D vwCl (tyH k) s) (hB : hBX s) : ∃ (kA kC : Class), s.vm.classes[k 2]? = some kA ∧ kA.kind = .array (k 0) (.array .int) ∧ s.vm.classes[k 0]? = some kC := by
  obtain ⟨comp, c, kA, h1, h2, h3, h4, h5⟩ := arrayOverA_spec (hB.1 (.int) (List.mem_of_getElem? (i := 0) rfl))
  have e1 : s.vm.findClass ("[" ++ (FieldType.toString (.array .int))) = some (k 2) := (hK.2 2 _ rfl).2
  have e2 : s.vm.findClass ("[" ++ (FieldType.toString (.int))) = some (k 0) := (hK.2 0 _ rfl).2
  cases Option.some.inj (h5.symm.trans e1)
  cases Option.some.inj (h1.symm.trans e2)
  obtain ⟨-, kC, hkC, -⟩ := (hK.2 0 _ rfl).1 0 (fun _ => .null)
  exact ⟨kA, kC, h3, h4, hkC⟩
theorem hRk3 {D : va_G} {k : Nat → ClassId} {s : State} (hK : va_K D vwCl (tyH k) s) (hB : hBX s) : ∃ (kA kC : Class), s.vm.classes[k 3]? = some kA ∧ kA.kind = .array (k 2) (.array (.array .int)) ∧ s.vm.classes[k 2]? = some kC := by
  obtain ⟨comp, c, kA, h1, h2, h3, h4, h5⟩ := arrayOverA_spec (hB.1 (.array .int) (List.mem_of_getElem? (i := 1) rfl))
  have e1 : s.vm.findClass ("[" ++ (FieldType.toString (.array (.array .int)))) = some (k 3) := (hK.2 3 _ rfl).2
  have e2 : s.vm.findClass ("[" ++ (FieldType.toString (.array .int))) = some (k 2) := (hK.2 2 _ rfl).2
  cases Option.some.inj (h5.symm.trans e1)
  cases Option.some.inj (h1.symm.trans e2)
  obtain ⟨-, kC, hkC, -⟩ := (hK.2 2 _ rfl).1 0 (fun _ => .null)
  exact ⟨kA, kC, h3, h4, hkC⟩
theorem hRk4 {D : va_G} {k : Nat → ClassId} {s : State} (hK : va_K D vwCl (tyH k) s) (hB : hBX s) : ∃ (kA kC : Class), s.vm.classes[k 4]? = some kA ∧ kA.kind = .array (k 3) (.array (.array (.array .int))) ∧ s.vm.classes[k 3]? = some kC := by
  obtain ⟨comp, c, kA, h1, h2, h3, h4, h5⟩ := arrayOverA_spec (hB.1 (.array (.array .int)) (List.mem_of_getElem? (i := 2) rfl))
  have e1 : s.vm.findClass ("[" ++ (FieldType.toString (.array (.array (.array .int))))) = some (k 4) := (hK.2 4 _ rfl).2
  have e2 : s.vm.findClass ("[" ++ (FieldType.toString (.array (.array .int)))) = some (k 3) := (hK.2 3 _ rfl).2
  cases Option.some.inj (h5.symm.trans e1)
  cases Option.some.inj (h1.symm.trans e2)
  obtain ⟨-, kC, hkC, -⟩ := (hK.2 3 _ rfl).1 0 (fun _ => .null)
  exact ⟨kA, kC, h3, h4, hkC⟩
/-- where a method stands: the frame's world, the pure heap's, what was written, what the addresses were -/
def hST (D : va_G) (k : Nat → ClassId) (A : Nat → Prop) (s : State) (wr : va_W) (a0 : Nat → Nat) (n0 : Nat) (a : Nat → Nat) (Hp : HS) (H : Heap) (locs : List Loc) : Prop :=
  va_P D vwCl (wr ++ wH k a Hp) H ∧ va_D A (wr ++ wH k a Hp) ∧ va_S A s.heap H locs ∧ wfH Hp ∧ (∀ j, j < n0 → a j = a0 j) ∧ n0 ≤ Hp.length
variable {p : Program} {l : Launch} {e : Env} {R : Room} {s : State} {m : MethodId} {args : Array Value} {below : List Frame} {meth : Method} {c : Code} {H : Heap} {locs : List Loc} {cells slots : Nat} {Q : State → Prop}
variable {pc nL : Nat} {ls : Array Slot} {rest : List Value} {cc : ByteArray} {own : String} {D : va_G} {A : Nat → Prop} {H0 : Heap} {ρ : Type} {z : ρ} {k : Nat → ClassId} {a a0 : Nat → Nat} {n0 : Nat} {wr : va_W} {Hp : HS}
theorem h_stk {st st' : List Value} (h : st' = st) (kk : W p l e R s m args below meth c H locs cells slots Q (F0 m pc ls st')) : W p l e R s m args below meth c H locs cells slots Q (F0 m pc ls st) := h ▸ kk
theorem rdA_h0 {f : Nat → Int32} {n : Nat} {i x : Int32} (h : rdA f n i = some x) : vp_in i n ∧ f i.toNatClampNeg = x := by
  unfold rdA at h
  by_cases q : i < 0 ∨ n ≤ i.toNatClampNeg
  · rw [if_pos q] at h; cases h
  · rw [if_neg q] at h; exact ⟨q, Option.some.inj h⟩
theorem h_ild0 (C : CallFix p m c cc nL s args WW own) (hK : va_K D vwCl (tyH k) s) (hP : va_P D vwCl (wr ++ wH k a Hp) H) {r : Nat} {i : Int32} {K : Int32 → Option ρ} (h : (hldI 0 Hp r i).bind K = some z) (hdg : decode cc pc = .ok (.iaload, 1)) (kk : ∀ x, K x = some z → W p l e R s m args below meth c H locs cells slots Q (F0 m (pc + 1) ls (.int x :: rest))) : W p l e R s m args below meth c H locs cells slots Q (F0 m pc ls (.int i :: .ref (a r) :: rest)) := by
  obtain ⟨x, e1, e2⟩ := ob_h h
  obtain ⟨⟨t, n, f, g⟩, c1, c2⟩ := ob_h e1
  obtain ⟨g1, g2⟩ := hN_h c1
  cases g2
  obtain ⟨hin, ex⟩ := rdA_h0 c2
  cases ex
  exact va_iald C.1 C.2.1 hK hP (wr.length + r) 0 (wA_get g1) rfl hin hdg (kk _ e2)
theorem h_ild1 (C : CallFix p m c cc nL s args WW own) (hK : va_K D vwCl (tyH k) s) (hP : va_P D vwCl (wr ++ wH k a Hp) H) {r : Nat} {i : Int32} {K : Int32 → Option ρ} (h : (hldI 1 Hp r i).bind K = some z) (hdg : decode cc pc = .ok (.baload, 1)) (kk : ∀ x, K x = some z → W p l e R s m args below meth c H locs cells slots Q (F0 m (pc + 1) ls (.int x :: rest))) : W p l e R s m args below meth c H locs cells slots Q (F0 m pc ls (.int i :: .ref (a r) :: rest)) := by
  obtain ⟨x, e1, e2⟩ := ob_h h
  obtain ⟨⟨t, n, f, g⟩, c1, c2⟩ := ob_h e1
  obtain ⟨g1, g2⟩ := hN_h c1
  cases g2
  obtain ⟨hin, ex⟩ := rdA_h0 c2
  cases ex
  exact va_zald C.1 C.2.1 hK hP (wr.length + r) 1 (wA_get g1) rfl hin hdg (kk _ e2)
theorem h_ald2 (C : CallFix p m c cc nL s args WW own) (hK : va_K D vwCl (tyH k) s) (hP : va_P D vwCl (wr ++ wH k a Hp) H) {r : Nat} {i : Int32} {K : Nat → Option ρ} (h : (hldR 2 Hp r i).bind K = some z) (hdg : decode cc pc = .ok (.aaload, 1)) (kk : ∀ x, K x = some z → W p l e R s m args below meth c H locs cells slots Q (F0 m (pc + 1) ls (.ref (a x) :: rest))) : W p l e R s m args below meth c H locs cells slots Q (F0 m pc ls (.int i :: .ref (a r) :: rest)) := by
  obtain ⟨x, e1, e2⟩ := ob_h h
  obtain ⟨⟨t, n, f, g⟩, c1, c2⟩ := ob_h e1
  obtain ⟨g1, g2⟩ := hN_h c1
  cases g2
  by_cases hin : i < 0 ∨ n ≤ i.toNatClampNeg
  · rw [if_pos hin] at c2; cases c2
  · rw [if_neg hin] at c2
    have c2 : g i.toNatClampNeg = some x := c2
    have hlt : i.toNatClampNeg < n := Nat.not_le.mp fun q => hin (Or.inr q)
    have hx : (g i.toNatClampNeg).map a = some (a x) := by rw [c2]; rfl
    exact W.aald (v := .ref (a x)) (ty := .array .int) C.1 C.2.1 (hP _ _ (wA_get g1)) ((hK.2 2 _ rfl).1 n (fun j => va_rf ((g j).map a))) rfl (fun q => by cases q) (by show ¬ (i < 0 ∨ (arrV _ _ _).slots.size ≤ _); rw [arrV_size]; exact hin) (by show (arrV _ _ _).slots[_]? = _; rw [arrV_read _ _ hlt]; exact congrArg (fun o => some (va_rf o)) hx) rfl rfl hdg (kk _ e2)
theorem h_ald3 (C : CallFix p m c cc nL s args WW own) (hK : va_K D vwCl (tyH k) s) (hP : va_P D vwCl (wr ++ wH k a Hp) H) {r : Nat} {i : Int32} {K : Nat → Option ρ} (h : (hldR 3 Hp r i).bind K = some z) (hdg : decode cc pc = .ok (.aaload, 1)) (kk : ∀ x, K x = some z → W p l e R s m args below meth c H locs cells slots Q (F0 m (pc + 1) ls (.ref (a x) :: rest))) : W p l e R s m args below meth c H locs cells slots Q (F0 m pc ls (.int i :: .ref (a r) :: rest)) := by
  obtain ⟨x, e1, e2⟩ := ob_h h
  obtain ⟨⟨t, n, f, g⟩, c1, c2⟩ := ob_h e1
  obtain ⟨g1, g2⟩ := hN_h c1
  cases g2
  by_cases hin : i < 0 ∨ n ≤ i.toNatClampNeg
  · rw [if_pos hin] at c2; cases c2
  · rw [if_neg hin] at c2
    have c2 : g i.toNatClampNeg = some x := c2
    have hlt : i.toNatClampNeg < n := Nat.not_le.mp fun q => hin (Or.inr q)
    have hx : (g i.toNatClampNeg).map a = some (a x) := by rw [c2]; rfl
    exact W.aald (v := .ref (a x)) (ty := .array (.array .int)) C.1 C.2.1 (hP _ _ (wA_get g1)) ((hK.2 3 _ rfl).1 n (fun j => va_rf ((g j).map a))) rfl (fun q => by cases q) (by show ¬ (i < 0 ∨ (arrV _ _ _).slots.size ≤ _); rw [arrV_size]; exact hin) (by show (arrV _ _ _).slots[_]? = _; rw [arrV_read _ _ hlt]; exact congrArg (fun o => some (va_rf o)) hx) rfl rfl hdg (kk _ e2)
theorem h_ald4 (C : CallFix p m c cc nL s args WW own) (hK : va_K D vwCl (tyH k) s) (hP : va_P D vwCl (wr ++ wH k a Hp) H) {r : Nat} {i : Int32} {K : Nat → Option ρ} (h : (hldR 4 Hp r i).bind K = some z) (hdg : decode cc pc = .ok (.aaload, 1)) (kk : ∀ x, K x = some z → W p l e R s m args below meth c H locs cells slots Q (F0 m (pc + 1) ls (.ref (a x) :: rest))) : W p l e R s m args below meth c H locs cells slots Q (F0 m pc ls (.int i :: .ref (a r) :: rest)) := by
  obtain ⟨x, e1, e2⟩ := ob_h h
  obtain ⟨⟨t, n, f, g⟩, c1, c2⟩ := ob_h e1
  obtain ⟨g1, g2⟩ := hN_h c1
  cases g2
  by_cases hin : i < 0 ∨ n ≤ i.toNatClampNeg
  · rw [if_pos hin] at c2; cases c2
  · rw [if_neg hin] at c2
    have c2 : g i.toNatClampNeg = some x := c2
    have hlt : i.toNatClampNeg < n := Nat.not_le.mp fun q => hin (Or.inr q)
    have hx : (g i.toNatClampNeg).map a = some (a x) := by rw [c2]; rfl
    exact W.aald (v := .ref (a x)) (ty := .array (.array (.array .int))) C.1 C.2.1 (hP _ _ (wA_get g1)) ((hK.2 4 _ rfl).1 n (fun j => va_rf ((g j).map a))) rfl (fun q => by cases q) (by show ¬ (i < 0 ∨ (arrV _ _ _).slots.size ≤ _); rw [arrV_size]; exact hin) (by show (arrV _ _ _).slots[_]? = _; rw [arrV_read _ _ hlt]; exact congrArg (fun o => some (va_rf o)) hx) rfl rfl hdg (kk _ e2)
theorem h_len0 (C : CallFix p m c cc nL s args WW own) (hK : va_K D vwCl (tyH k) s) (hP : va_P D vwCl (wr ++ wH k a Hp) H) {r : Nat} {K : Int32 → Option ρ} (h : (hlen 0 Hp r).bind K = some z) (hdg : decode cc pc = .ok (.arraylength, 1)) (kk : ∀ x, K x = some z → W p l e R s m args below meth c H locs cells slots Q (F0 m (pc + 1) ls (.int x :: rest))) : W p l e R s m args below meth c H locs cells slots Q (F0 m pc ls (.ref (a r) :: rest)) := by
  obtain ⟨x, e1, e2⟩ := ob_h h
  obtain ⟨⟨t, n, f, g⟩, c1, c2⟩ := ob_h e1
  obtain ⟨g1, g2⟩ := hN_h c1
  cases g2
  cases c2
  exact va_alen C.1 C.2.1 hK hP (wr.length + r) 0 (wA_get g1) rfl rfl hdg (kk _ e2)
theorem h_len1 (C : CallFix p m c cc nL s args WW own) (hK : va_K D vwCl (tyH k) s) (hP : va_P D vwCl (wr ++ wH k a Hp) H) {r : Nat} {K : Int32 → Option ρ} (h : (hlen 1 Hp r).bind K = some z) (hdg : decode cc pc = .ok (.arraylength, 1)) (kk : ∀ x, K x = some z → W p l e R s m args below meth c H locs cells slots Q (F0 m (pc + 1) ls (.int x :: rest))) : W p l e R s m args below meth c H locs cells slots Q (F0 m pc ls (.ref (a r) :: rest)) := by
  obtain ⟨x, e1, e2⟩ := ob_h h
  obtain ⟨⟨t, n, f, g⟩, c1, c2⟩ := ob_h e1
  obtain ⟨g1, g2⟩ := hN_h c1
  cases g2
  cases c2
  exact va_alen C.1 C.2.1 hK hP (wr.length + r) 1 (wA_get g1) rfl rfl hdg (kk _ e2)
theorem h_len2 (C : CallFix p m c cc nL s args WW own) (hK : va_K D vwCl (tyH k) s) (hP : va_P D vwCl (wr ++ wH k a Hp) H) {r : Nat} {K : Int32 → Option ρ} (h : (hlen 2 Hp r).bind K = some z) (hdg : decode cc pc = .ok (.arraylength, 1)) (kk : ∀ x, K x = some z → W p l e R s m args below meth c H locs cells slots Q (F0 m (pc + 1) ls (.int x :: rest))) : W p l e R s m args below meth c H locs cells slots Q (F0 m pc ls (.ref (a r) :: rest)) := by
  obtain ⟨x, e1, e2⟩ := ob_h h
  obtain ⟨⟨t, n, f, g⟩, c1, c2⟩ := ob_h e1
  obtain ⟨g1, g2⟩ := hN_h c1
  cases g2
  cases c2
  exact va_alen C.1 C.2.1 hK hP (wr.length + r) 2 (wA_get g1) rfl rfl hdg (kk _ e2)
theorem h_len3 (C : CallFix p m c cc nL s args WW own) (hK : va_K D vwCl (tyH k) s) (hP : va_P D vwCl (wr ++ wH k a Hp) H) {r : Nat} {K : Int32 → Option ρ} (h : (hlen 3 Hp r).bind K = some z) (hdg : decode cc pc = .ok (.arraylength, 1)) (kk : ∀ x, K x = some z → W p l e R s m args below meth c H locs cells slots Q (F0 m (pc + 1) ls (.int x :: rest))) : W p l e R s m args below meth c H locs cells slots Q (F0 m pc ls (.ref (a r) :: rest)) := by
  obtain ⟨x, e1, e2⟩ := ob_h h
  obtain ⟨⟨t, n, f, g⟩, c1, c2⟩ := ob_h e1
  obtain ⟨g1, g2⟩ := hN_h c1
  cases g2
  cases c2
  exact va_alen C.1 C.2.1 hK hP (wr.length + r) 3 (wA_get g1) rfl rfl hdg (kk _ e2)
theorem h_len4 (C : CallFix p m c cc nL s args WW own) (hK : va_K D vwCl (tyH k) s) (hP : va_P D vwCl (wr ++ wH k a Hp) H) {r : Nat} {K : Int32 → Option ρ} (h : (hlen 4 Hp r).bind K = some z) (hdg : decode cc pc = .ok (.arraylength, 1)) (kk : ∀ x, K x = some z → W p l e R s m args below meth c H locs cells slots Q (F0 m (pc + 1) ls (.int x :: rest))) : W p l e R s m args below meth c H locs cells slots Q (F0 m pc ls (.ref (a r) :: rest)) := by
  obtain ⟨x, e1, e2⟩ := ob_h h
  obtain ⟨⟨t, n, f, g⟩, c1, c2⟩ := ob_h e1
  obtain ⟨g1, g2⟩ := hN_h c1
  cases g2
  cases c2
  exact va_alen C.1 C.2.1 hK hP (wr.length + r) 4 (wA_get g1) rfl rfl hdg (kk _ e2)
theorem h_ist0 (C : CallFix p m c cc nL s args WW own) (hK : va_K D vwCl (tyH k) s) (hT : hST D k A s wr a0 n0 a Hp H locs) {r : Nat} {i x : Int32} {K : HS → Option ρ} (h : hstI 0 Hp r i x K = some z) (hdg : decode cc pc = .ok (.iastore, 1)) (kk : ∀ (Hp1 : HS) (H1 : Heap) (locs1 : List Loc), K Hp1 = some z → hST D k A s wr a0 n0 a Hp1 H1 locs1 → W p l e R s m args below meth c H1 locs1 cells slots Q (F0 m (pc + 1) ls rest)) : W p l e R s m args below meth c H locs cells slots Q (F0 m pc ls (.int x :: .int i :: .ref (a r) :: rest)) := by
  obtain ⟨⟨t, n, f, g⟩, c1, c2⟩ := ob_h h
  obtain ⟨g1, g2⟩ := hN_h c1
  cases g2
  obtain ⟨hin, e2⟩ := wrA_h c2
  obtain ⟨hP, hD, hS, hw, hag, hn⟩ := hT
  refine va_iast C.1 C.2.1 hK hP hD hS (wr.length + r) 0 (wA_get g1) rfl hin hdg (fun H1 l1 p1 d1 q1 => kk _ H1 l1 e2 ⟨?_, ?_, q1, wfH_set hw g1 (hw r _ g1), hag, by rw [List.length_set]; exact hn⟩)
  · rw [← wA_set]; exact p1
  · rw [← wA_set]; exact d1
theorem h_ist1 (C : CallFix p m c cc nL s args WW own) (hK : va_K D vwCl (tyH k) s) (hT : hST D k A s wr a0 n0 a Hp H locs) {r : Nat} {i x : Int32} {K : HS → Option ρ} (h : hstI 1 Hp r i (x &&& 1) K = some z) (hdg : decode cc pc = .ok (.bastore, 1)) (kk : ∀ (Hp1 : HS) (H1 : Heap) (locs1 : List Loc), K Hp1 = some z → hST D k A s wr a0 n0 a Hp1 H1 locs1 → W p l e R s m args below meth c H1 locs1 cells slots Q (F0 m (pc + 1) ls rest)) : W p l e R s m args below meth c H locs cells slots Q (F0 m pc ls (.int x :: .int i :: .ref (a r) :: rest)) := by
  obtain ⟨⟨t, n, f, g⟩, c1, c2⟩ := ob_h h
  obtain ⟨g1, g2⟩ := hN_h c1
  cases g2
  obtain ⟨hin, e2⟩ := wrA_h c2
  obtain ⟨hP, hD, hS, hw, hag, hn⟩ := hT
  refine va_zast C.1 C.2.1 hK hP hD hS (wr.length + r) 1 (wA_get g1) rfl hin hdg (fun H1 l1 p1 d1 q1 => kk _ H1 l1 e2 ⟨?_, ?_, q1, wfH_set hw g1 (hw r _ g1), hag, by rw [List.length_set]; exact hn⟩)
  · rw [← wA_set]; exact p1
  · rw [← wA_set]; exact d1
theorem h_ast2 (C : CallFix p m c cc nL s args WW own) (hK : va_K D vwCl (tyH k) s) (hT : hST D k A s wr a0 n0 a Hp H locs) (hB : hBX s) {r v : Nat} {i : Int32} {K : HS → Option ρ} (h : hstR 2 0 Hp r i v K = some z) (hdg : decode cc pc = .ok (.aastore, 1)) (kk : ∀ (Hp1 : HS) (H1 : Heap) (locs1 : List Loc), K Hp1 = some z → hST D k A s wr a0 n0 a Hp1 H1 locs1 → W p l e R s m args below meth c H1 locs1 cells slots Q (F0 m (pc + 1) ls rest)) : W p l e R s m args below meth c H locs cells slots Q (F0 m pc ls (.ref (a v) :: .int i :: .ref (a r) :: rest)) := by
  obtain ⟨⟨t, n, f, g⟩, c1, c2⟩ := ob_h h
  obtain ⟨g1, g2⟩ := hN_h c1
  cases g2
  obtain ⟨⟨t9, n9, f9, g9⟩, v1, v2⟩ := ob_h c2
  obtain ⟨w1, w2⟩ := hN_h v1
  cases w2
  obtain ⟨hin, e2⟩ := wrA_h v2
  obtain ⟨hP, hD, hS, hw, hag, hn⟩ := hT
  have hlt : i.toNatClampNeg < n := Nat.not_le.mp fun q => hin (Or.inr q)
  have h0 : ¬ i < 0 := fun q => hin (Or.inl q)
  obtain ⟨kA, kC, k1, k2, k3⟩ := hRk2 hK hB
  have hv : v < Hp.length := (List.getElem?_eq_some_iff.mp w1).1
  refine W.aast C.1 C.2.1 (hP _ _ (wA_get g1)) (fun q h => by cases h) (fun h => by cases h) k1 k2 rfl k3 ⟨h0, by show _ < (arrV _ _ _).slots.size; rw [arrV_size]; exact hlt⟩ (hP _ _ (wA_get w1)) (fun q h => by cases h) k3 (va_asg _ _) rfl rfl hdg fun H1 e z1 oq => ?_
  have hat : va_at D vwCl (a r, hE k a (2, n, f, va_up g i.toNatClampNeg (some v))) H1 := by
    show H1[a r]? = some (vp_cell _ _)
    rw [e]
    show some ((vp_cell (k 2) (n, .inr (.inr (.inr (.inr (fun j => (g j).map a)))))).setSlot i.toNatClampNeg (.ref (a v))) = some (vp_cell (k 2) (n, .inr (.inr (.inr (.inr (fun j => (va_up g i.toNatClampNeg (some v) j).map a))))))
    rw [vp_cell_q, vp_cell_q, arrV_store]
    congr 2
    funext q
    by_cases hq : q = i.toNatClampNeg
    · subst hq
      simp [updV, va_up, va_rf]
    · simp [updV, va_up, hq]
  refine kk _ H1 _ e2 ⟨?_, ?_, hS.put z1 oq (hD.2 _ _ (wA_get g1)), wfH_set hw g1 (fun j q hq => ?_), hag, by rw [List.length_set]; exact hn⟩
  · rw [← wA_set]; exact hP.set hD (wA_get g1) hat oq
  · rw [← wA_set]; exact hD.set (wA_get g1)
  · by_cases hj : j = i.toNatClampNeg
    · simp only [va_up, hj, if_pos] at hq; cases hq; exact hv
    · simp only [va_up, hj, if_false] at hq; exact hw r _ g1 j q hq
theorem h_ast3 (C : CallFix p m c cc nL s args WW own) (hK : va_K D vwCl (tyH k) s) (hT : hST D k A s wr a0 n0 a Hp H locs) (hB : hBX s) {r v : Nat} {i : Int32} {K : HS → Option ρ} (h : hstR 3 2 Hp r i v K = some z) (hdg : decode cc pc = .ok (.aastore, 1)) (kk : ∀ (Hp1 : HS) (H1 : Heap) (locs1 : List Loc), K Hp1 = some z → hST D k A s wr a0 n0 a Hp1 H1 locs1 → W p l e R s m args below meth c H1 locs1 cells slots Q (F0 m (pc + 1) ls rest)) : W p l e R s m args below meth c H locs cells slots Q (F0 m pc ls (.ref (a v) :: .int i :: .ref (a r) :: rest)) := by
  obtain ⟨⟨t, n, f, g⟩, c1, c2⟩ := ob_h h
  obtain ⟨g1, g2⟩ := hN_h c1
  cases g2
  obtain ⟨⟨t9, n9, f9, g9⟩, v1, v2⟩ := ob_h c2
  obtain ⟨w1, w2⟩ := hN_h v1
  cases w2
  obtain ⟨hin, e2⟩ := wrA_h v2
  obtain ⟨hP, hD, hS, hw, hag, hn⟩ := hT
  have hlt : i.toNatClampNeg < n := Nat.not_le.mp fun q => hin (Or.inr q)
  have h0 : ¬ i < 0 := fun q => hin (Or.inl q)
  obtain ⟨kA, kC, k1, k2, k3⟩ := hRk3 hK hB
  have hv : v < Hp.length := (List.getElem?_eq_some_iff.mp w1).1
  refine W.aast C.1 C.2.1 (hP _ _ (wA_get g1)) (fun q h => by cases h) (fun h => by cases h) k1 k2 rfl k3 ⟨h0, by show _ < (arrV _ _ _).slots.size; rw [arrV_size]; exact hlt⟩ (hP _ _ (wA_get w1)) (fun q h => by cases h) k3 (va_asg _ _) rfl rfl hdg fun H1 e z1 oq => ?_
  have hat : va_at D vwCl (a r, hE k a (3, n, f, va_up g i.toNatClampNeg (some v))) H1 := by
    show H1[a r]? = some (vp_cell _ _)
    rw [e]
    show some ((vp_cell (k 3) (n, .inr (.inr (.inr (.inr (fun j => (g j).map a)))))).setSlot i.toNatClampNeg (.ref (a v))) = some (vp_cell (k 3) (n, .inr (.inr (.inr (.inr (fun j => (va_up g i.toNatClampNeg (some v) j).map a))))))
    rw [vp_cell_q, vp_cell_q, arrV_store]
    congr 2
    funext q
    by_cases hq : q = i.toNatClampNeg
    · subst hq
      simp [updV, va_up, va_rf]
    · simp [updV, va_up, hq]
  refine kk _ H1 _ e2 ⟨?_, ?_, hS.put z1 oq (hD.2 _ _ (wA_get g1)), wfH_set hw g1 (fun j q hq => ?_), hag, by rw [List.length_set]; exact hn⟩
  · rw [← wA_set]; exact hP.set hD (wA_get g1) hat oq
  · rw [← wA_set]; exact hD.set (wA_get g1)
  · by_cases hj : j = i.toNatClampNeg
    · simp only [va_up, hj, if_pos] at hq; cases hq; exact hv
    · simp only [va_up, hj, if_false] at hq; exact hw r _ g1 j q hq
theorem h_ast4 (C : CallFix p m c cc nL s args WW own) (hK : va_K D vwCl (tyH k) s) (hT : hST D k A s wr a0 n0 a Hp H locs) (hB : hBX s) {r v : Nat} {i : Int32} {K : HS → Option ρ} (h : hstR 4 3 Hp r i v K = some z) (hdg : decode cc pc = .ok (.aastore, 1)) (kk : ∀ (Hp1 : HS) (H1 : Heap) (locs1 : List Loc), K Hp1 = some z → hST D k A s wr a0 n0 a Hp1 H1 locs1 → W p l e R s m args below meth c H1 locs1 cells slots Q (F0 m (pc + 1) ls rest)) : W p l e R s m args below meth c H locs cells slots Q (F0 m pc ls (.ref (a v) :: .int i :: .ref (a r) :: rest)) := by
  obtain ⟨⟨t, n, f, g⟩, c1, c2⟩ := ob_h h
  obtain ⟨g1, g2⟩ := hN_h c1
  cases g2
  obtain ⟨⟨t9, n9, f9, g9⟩, v1, v2⟩ := ob_h c2
  obtain ⟨w1, w2⟩ := hN_h v1
  cases w2
  obtain ⟨hin, e2⟩ := wrA_h v2
  obtain ⟨hP, hD, hS, hw, hag, hn⟩ := hT
  have hlt : i.toNatClampNeg < n := Nat.not_le.mp fun q => hin (Or.inr q)
  have h0 : ¬ i < 0 := fun q => hin (Or.inl q)
  obtain ⟨kA, kC, k1, k2, k3⟩ := hRk4 hK hB
  have hv : v < Hp.length := (List.getElem?_eq_some_iff.mp w1).1
  refine W.aast C.1 C.2.1 (hP _ _ (wA_get g1)) (fun q h => by cases h) (fun h => by cases h) k1 k2 rfl k3 ⟨h0, by show _ < (arrV _ _ _).slots.size; rw [arrV_size]; exact hlt⟩ (hP _ _ (wA_get w1)) (fun q h => by cases h) k3 (va_asg _ _) rfl rfl hdg fun H1 e z1 oq => ?_
  have hat : va_at D vwCl (a r, hE k a (4, n, f, va_up g i.toNatClampNeg (some v))) H1 := by
    show H1[a r]? = some (vp_cell _ _)
    rw [e]
    show some ((vp_cell (k 4) (n, .inr (.inr (.inr (.inr (fun j => (g j).map a)))))).setSlot i.toNatClampNeg (.ref (a v))) = some (vp_cell (k 4) (n, .inr (.inr (.inr (.inr (fun j => (va_up g i.toNatClampNeg (some v) j).map a))))))
    rw [vp_cell_q, vp_cell_q, arrV_store]
    congr 2
    funext q
    by_cases hq : q = i.toNatClampNeg
    · subst hq
      simp [updV, va_up, va_rf]
    · simp [updV, va_up, hq]
  refine kk _ H1 _ e2 ⟨?_, ?_, hS.put z1 oq (hD.2 _ _ (wA_get g1)), wfH_set hw g1 (fun j q hq => ?_), hag, by rw [List.length_set]; exact hn⟩
  · rw [← wA_set]; exact hP.set hD (wA_get g1) hat oq
  · rw [← wA_set]; exact hD.set (wA_get g1)
  · by_cases hj : j = i.toNatClampNeg
    · simp only [va_up, hj, if_pos] at hq; cases hq; exact hv
    · simp only [va_up, hj, if_false] at hq; exact hw r _ g1 j q hq
theorem h_get0 (C : CallFix p m c cc nL s args WW own) (hK : va_K D vwCl (tyH k) s) {idx : Nat} (hq : Cond.fieldLink own idx "LodgeProofsLaw$Sim" "taken" "[Z" ∈ WW) (hP : va_P D vwCl (wr ++ wH k a Hp) H) {r : Nat} {K : Nat → Option ρ} (h : (hget Hp r 0).bind K = some z) (hdg : decode cc pc = .ok (.getfield idx, 3)) (kk : ∀ x, K x = some z → W p l e R s m args below meth c H locs cells slots Q (F0 m (pc + 3) ls (.ref (a x) :: rest))) : W p l e R s m args below meth c H locs cells slots Q (F0 m pc ls (.ref (a r) :: rest)) := by
  obtain ⟨x, e1, e2⟩ := ob_h h
  obtain ⟨⟨t, n, f, g⟩, c1, c2⟩ := ob_h e1
  obtain ⟨g1, g2⟩ := hN_h c1
  cases g2
  have c2 : g 0 = some x := c2
  have hv : ([va_rf ((g 0).map a), va_rf ((g 1).map a)] : List Value)[0]? = some (.ref (a x)) := by
    show some (va_rf ((g 0).map a)) = _
    rw [c2]
    rfl
  exact va_get (ci := 1) (C := RX1) (T := TX1) (N := 2) C.1 C.2.1 C.2.2.2.2 inWX1 C.2.2.2.1 hK hP (wr.length + r) (wA_get g1) rfl 0 (by decide) (C.2.2.2.2 _ hq) (fun _ h => h) hv hdg (kk _ e2)
theorem h_put0 (C : CallFix p m c cc nL s args WW RX1) (hK : va_K D vwCl (tyH k) s) (hT : hST D k A s wr a0 n0 a Hp H locs) {r v : Nat} {K : HS → Option ρ} (h : hput 1 Hp r 0 v K = some z) (hdg : decode cc pc = .ok (.putfield 7, 3)) (kk : ∀ (Hp1 : HS) (H1 : Heap) (locs1 : List Loc), K Hp1 = some z → hST D k A s wr a0 n0 a Hp1 H1 locs1 → W p l e R s m args below meth c H1 locs1 cells slots Q (F0 m (pc + 3) ls rest)) : W p l e R s m args below meth c H locs cells slots Q (F0 m pc ls (.ref (a v) :: .ref (a r) :: rest)) := by
  obtain ⟨⟨t, n, f, g⟩, c1, c2⟩ := ob_h h
  obtain ⟨g1, g2⟩ := hN_h c1
  cases g2
  obtain ⟨⟨t9, n9, f9, g9⟩, v1, e2⟩ := ob_h c2
  obtain ⟨w1, w2⟩ := hN_h v1
  obtain ⟨hP, hD, hS, hw, hag, hn⟩ := hT
  have hv : v < Hp.length := (List.getElem?_eq_some_iff.mp w1).1
  have es : ([va_rf ((g 0).map a), va_rf ((g 1).map a)] : List Value).set 0 (.ref (a v)) = [va_rf ((va_up g 0 (some v) 0).map a), va_rf ((va_up g 0 (some v) 1).map a)] := rfl
  refine va_put (ci := 1) (v := .ref (a v)) (ty := .array .boolean) (C := RX1) (T := TX1) (N := 2) C.1 C.2.1 C.2.2.2.2 inWX1 tyX1 tyX1_ok nmX1 C.2.2.2.1 hK hP hD hS (wr.length + r) (wA_get g1) rfl 0 (by decide) (C.2.2.2.2 _ qF_X1_7) (fun _ h => h) rfl (by decide +kernel) rfl rfl (Nat.le_of_ble_eq_true rfl) hdg (fun H1 l1 p1 d1 q1 => kk _ H1 l1 e2 ⟨?_, ?_, q1, wfH_set hw g1 (fun j q hq => ?_), hag, by rw [List.length_set]; exact hn⟩)
  · rw [es] at p1
    rw [← wA_set]; exact p1
  · rw [es] at d1
    rw [← wA_set]; exact d1
  · by_cases hj : j = 0
    · simp only [va_up, hj, if_pos] at hq; cases hq; exact hv
    · simp only [va_up, hj, if_false] at hq; exact hw r _ g1 j q hq
theorem h_get1 (C : CallFix p m c cc nL s args WW own) (hK : va_K D vwCl (tyH k) s) {idx : Nat} (hq : Cond.fieldLink own idx "LodgeProofsLaw$Sim" "all" "[[[[I" ∈ WW) (hP : va_P D vwCl (wr ++ wH k a Hp) H) {r : Nat} {K : Nat → Option ρ} (h : (hget Hp r 1).bind K = some z) (hdg : decode cc pc = .ok (.getfield idx, 3)) (kk : ∀ x, K x = some z → W p l e R s m args below meth c H locs cells slots Q (F0 m (pc + 3) ls (.ref (a x) :: rest))) : W p l e R s m args below meth c H locs cells slots Q (F0 m pc ls (.ref (a r) :: rest)) := by
  obtain ⟨x, e1, e2⟩ := ob_h h
  obtain ⟨⟨t, n, f, g⟩, c1, c2⟩ := ob_h e1
  obtain ⟨g1, g2⟩ := hN_h c1
  cases g2
  have c2 : g 1 = some x := c2
  have hv : ([va_rf ((g 0).map a), va_rf ((g 1).map a)] : List Value)[1]? = some (.ref (a x)) := by
    show some (va_rf ((g 1).map a)) = _
    rw [c2]
    rfl
  exact va_get (ci := 1) (C := RX1) (T := TX1) (N := 2) C.1 C.2.1 C.2.2.2.2 inWX1 C.2.2.2.1 hK hP (wr.length + r) (wA_get g1) rfl 1 (by decide) (C.2.2.2.2 _ hq) (fun _ h => h) hv hdg (kk _ e2)
theorem h_put1 (C : CallFix p m c cc nL s args WW RX1) (hK : va_K D vwCl (tyH k) s) (hT : hST D k A s wr a0 n0 a Hp H locs) {r v : Nat} {K : HS → Option ρ} (h : hput 4 Hp r 1 v K = some z) (hdg : decode cc pc = .ok (.putfield 15, 3)) (kk : ∀ (Hp1 : HS) (H1 : Heap) (locs1 : List Loc), K Hp1 = some z → hST D k A s wr a0 n0 a Hp1 H1 locs1 → W p l e R s m args below meth c H1 locs1 cells slots Q (F0 m (pc + 3) ls rest)) : W p l e R s m args below meth c H locs cells slots Q (F0 m pc ls (.ref (a v) :: .ref (a r) :: rest)) := by
  obtain ⟨⟨t, n, f, g⟩, c1, c2⟩ := ob_h h
  obtain ⟨g1, g2⟩ := hN_h c1
  cases g2
  obtain ⟨⟨t9, n9, f9, g9⟩, v1, e2⟩ := ob_h c2
  obtain ⟨w1, w2⟩ := hN_h v1
  obtain ⟨hP, hD, hS, hw, hag, hn⟩ := hT
  have hv : v < Hp.length := (List.getElem?_eq_some_iff.mp w1).1
  have es : ([va_rf ((g 0).map a), va_rf ((g 1).map a)] : List Value).set 1 (.ref (a v)) = [va_rf ((va_up g 1 (some v) 0).map a), va_rf ((va_up g 1 (some v) 1).map a)] := rfl
  refine va_put (ci := 1) (v := .ref (a v)) (ty := .array (.array (.array (.array .int)))) (C := RX1) (T := TX1) (N := 2) C.1 C.2.1 C.2.2.2.2 inWX1 tyX1 tyX1_ok nmX1 C.2.2.2.1 hK hP hD hS (wr.length + r) (wA_get g1) rfl 1 (by decide) (C.2.2.2.2 _ qF_X1_15) (fun _ h => h) rfl (by decide +kernel) rfl rfl (Nat.le_of_ble_eq_true rfl) hdg (fun H1 l1 p1 d1 q1 => kk _ H1 l1 e2 ⟨?_, ?_, q1, wfH_set hw g1 (fun j q hq => ?_), hag, by rw [List.length_set]; exact hn⟩)
  · rw [es] at p1
    rw [← wA_set]; exact p1
  · rw [es] at d1
    rw [← wA_set]; exact d1
  · by_cases hj : j = 1
    · simp only [va_up, hj, if_pos] at hq; cases hq; exact hv
    · simp only [va_up, hj, if_false] at hq; exact hw r _ g1 j q hq
theorem hST_new {c : Cel} {e : va_E} {q : Nat} {H1 : Heap} {a1 : Nat → Nat} (hT : hST D k A s wr a0 n0 a Hp H locs) (ea : a1 = aup a Hp.length q) (hc : ∀ j p, c.2.2.2 j = some p → p < Hp.length) (he : hE k a1 c = e) (hP1 : va_P D vwCl ((wr ++ wH k a Hp) ++ [(q, e)]) H1) (hD1 : va_D A ((wr ++ wH k a Hp) ++ [(q, e)])) (hS1 : va_S A s.heap H1 locs) : hST D k A s wr a0 n0 a1 (Hp ++ [c]) H1 locs := by
  obtain ⟨hP, hD, hS, hw, hag, hn⟩ := hT
  subst ea
  have ha : ∀ j, j < Hp.length → aup a Hp.length q j = a j := fun j hj => aup_o hj
  have ew : (wr ++ wH k a Hp) ++ [(q, e)] = wr ++ wH k (aup a Hp.length q) (Hp ++ [c]) := by
    rw [wH_app, aup_s, wH_ag ha hw, he, List.append_assoc]
  rw [ew] at hP1 hD1
  refine ⟨hP1, hD1, hS1, wfH_app hw hc, fun j hj => (ha j (Nat.lt_of_lt_of_le hj hn)).trans (hag j hj), ?_⟩
  rw [List.length_append]
  omega
theorem hnw_h {t : Nat} {rs : List Nat} {n : Int32} {K : HS → Nat → Option ρ} (h : hnw t rs Hp n K = some z) : ¬ n < 0 ∧ n.toNatClampNeg ≤ 14 ∧ (∀ r ∈ rs, r < Hp.length) ∧ K (Hp ++ [(t, n.toNatClampNeg, fun _ => 0, fun _ => none)]) Hp.length = some z := by
  unfold hnw at h
  by_cases q : n < 0 ∨ 14 < n.toNatClampNeg ∨ ¬ ∀ r ∈ rs, r < Hp.length
  · rw [if_pos q] at h; cases h
  · rw [if_neg q] at h
    exact ⟨fun w => q (Or.inl w), Nat.not_lt.mp fun w => q (Or.inr (Or.inl w)), Classical.byContradiction fun w => q (Or.inr (Or.inr w)), h⟩
theorem hnw_n {t n : Nat} {rs : List Nat} {K : HS → Nat → Option ρ} (hn : n ≤ 14) (hr : ∀ r ∈ rs, r < Hp.length) : hnw t rs Hp (nI n) K = K (Hp ++ [(t, n, fun _ => 0, fun _ => none)]) Hp.length := by
  unfold hnw
  rw [if_neg, nI_clamp (by omega)]
  rw [nI_clamp (by omega)]
  rintro (q | q | q)
  · exact nI_pos (n := n) (by omega) q
  · omega
  · exact q hr
theorem h_nw0 (C : CallFix p m c cc nL s args WW own) (hK : va_K D vwCl (tyH k) s) (hT : hST D k A s wr a0 n0 a Hp H locs) (hA : ∀ q, s.heap.size ≤ q → A q) (hc1 : cells + 1 ≤ R.cells) (hs1 : slots + 14 ≤ R.slots) {rs : List Nat} {n : Int32} {K : HS → Nat → Option ρ} (h : hnw 0 rs Hp n K = some z) (hdg : decode cc pc = .ok (.newarray .int, 2)) (kk : ∀ (Hp1 : HS) (x : Nat) (a1 : Nat → Nat) (H1 : Heap), K Hp1 x = some z → hST D k A s wr a0 n0 a1 Hp1 H1 locs → (∀ j, j < Hp.length → a1 j = a j) → (∀ r ∈ rs, r < Hp.length) → W p l e R s m args below meth c H1 locs (cells + 1) (slots + 14) Q (F0 m (pc + 2) ls (.ref (a1 x) :: rest))) : W p l e R s m args below meth c H locs cells slots Q (F0 m pc ls (.int n :: rest)) := by
  obtain ⟨h1, h2, h3, h4⟩ := hnw_h h
  obtain ⟨hP, hD, hS, hw, hag, hn⟩ := id hT
  refine W.widen (k := cells) (n := slots + 14 - n.toNatClampNeg) (Nat.le_refl _) (by omega) ?_
  refine va_newa (atype := .int) (a0 := (n.toNatClampNeg, .inl (fun _ => 0))) C.1 C.2.1 (C.2.2.2.2 _ qA_int) (ty := .int) rfl hK hP hD hS hA (fun cA => rfl) h1 rfl (by show _ * 4 ≤ _; omega) hc1 (by omega) hdg (fun q cB H1 hK1 hP1 hD1 hS1 => ?_)
  have e1 : s.vm.findClass ("[" ++ (FieldType.toString .int)) = some cB := (hK1.2 5 (cB, .int) rfl).2
  have e2 : s.vm.findClass ("[" ++ (FieldType.toString .int)) = some (k 0) := (hK.2 0 _ rfl).2
  cases Option.some.inj (e1.symm.trans e2)
  refine W.widen (k := cells + 1) (n := slots + 14) (Nat.le_refl _) (by omega) ?_
  have hx := kk _ Hp.length (aup a Hp.length q) H1 h4 (hST_new hT rfl (fun j p h => by cases h) rfl hP1 hD1 hS1) (fun j hj => aup_o hj) h3
  rw [aup_s] at hx
  exact hx
theorem h_nw1 (C : CallFix p m c cc nL s args WW own) (hK : va_K D vwCl (tyH k) s) (hT : hST D k A s wr a0 n0 a Hp H locs) (hA : ∀ q, s.heap.size ≤ q → A q) (hc1 : cells + 1 ≤ R.cells) (hs1 : slots + 14 ≤ R.slots) {rs : List Nat} {n : Int32} {K : HS → Nat → Option ρ} (h : hnw 1 rs Hp n K = some z) (hdg : decode cc pc = .ok (.newarray .boolean, 2)) (kk : ∀ (Hp1 : HS) (x : Nat) (a1 : Nat → Nat) (H1 : Heap), K Hp1 x = some z → hST D k A s wr a0 n0 a1 Hp1 H1 locs → (∀ j, j < Hp.length → a1 j = a j) → (∀ r ∈ rs, r < Hp.length) → W p l e R s m args below meth c H1 locs (cells + 1) (slots + 14) Q (F0 m (pc + 2) ls (.ref (a1 x) :: rest))) : W p l e R s m args below meth c H locs cells slots Q (F0 m pc ls (.int n :: rest)) := by
  obtain ⟨h1, h2, h3, h4⟩ := hnw_h h
  obtain ⟨hP, hD, hS, hw, hag, hn⟩ := id hT
  refine W.widen (k := cells) (n := slots + 14 - n.toNatClampNeg) (Nat.le_refl _) (by omega) ?_
  refine va_newa (atype := .boolean) (a0 := (n.toNatClampNeg, .inl (fun _ => 0))) C.1 C.2.1 (C.2.2.2.2 _ qA_boolean) (ty := .boolean) rfl hK hP hD hS hA (fun cA => rfl) h1 rfl (by show _ * 1 ≤ _; omega) hc1 (by omega) hdg (fun q cB H1 hK1 hP1 hD1 hS1 => ?_)
  have e1 : s.vm.findClass ("[" ++ (FieldType.toString .boolean)) = some cB := (hK1.2 5 (cB, .boolean) rfl).2
  have e2 : s.vm.findClass ("[" ++ (FieldType.toString .boolean)) = some (k 1) := (hK.2 1 _ rfl).2
  cases Option.some.inj (e1.symm.trans e2)
  refine W.widen (k := cells + 1) (n := slots + 14) (Nat.le_refl _) (by omega) ?_
  have hx := kk _ Hp.length (aup a Hp.length q) H1 h4 (hST_new hT rfl (fun j p h => by cases h) rfl hP1 hD1 hS1) (fun j hj => aup_o hj) h3
  rw [aup_s] at hx
  exact hx
theorem h_nw2 (C : CallFix p m c cc nL s args WW RX1) (hK : va_K D vwCl (tyH k) s) (hT : hST D k A s wr a0 n0 a Hp H locs) (hA : ∀ q, s.heap.size ≤ q → A q) (hc1 : cells + 1 ≤ R.cells) (hs1 : slots + 14 ≤ R.slots) (hB : hBX s) {rs : List Nat} {n : Int32} {K : HS → Nat → Option ρ} (h : hnw 2 rs Hp n K = some z) (hdg : decode cc pc = .ok (.anewarray 19, 3)) (kk : ∀ (Hp1 : HS) (x : Nat) (a1 : Nat → Nat) (H1 : Heap), K Hp1 x = some z → hST D k A s wr a0 n0 a1 Hp1 H1 locs → (∀ j, j < Hp.length → a1 j = a j) → (∀ r ∈ rs, r < Hp.length) → W p l e R s m args below meth c H1 locs (cells + 1) (slots + 14) Q (F0 m (pc + 3) ls (.ref (a1 x) :: rest))) : W p l e R s m args below meth c H locs cells slots Q (F0 m pc ls (.int n :: rest)) := by
  obtain ⟨h1, h2, h3, h4⟩ := hnw_h h
  obtain ⟨hP, hD, hS, hw, hag, hn⟩ := id hT
  refine W.widen (k := cells) (n := slots + 14 - n.toNatClampNeg) (Nat.le_refl _) (by omega) ?_
  have hlk : (Cond.classLink RX1 19 (FieldType.toString (.array .int))).before args s = true := by
    have e : FieldType.toString (.array .int) = "[I" := by decide +kernel
    rw [e]
    exact C.2.2.2.2 _ qK_X1_19
  refine W.anewA (t := .int) C.1 C.2.1 C.2.2.2.1 hlk (hB.1 (.int) (List.mem_of_getElem? (i := 0) rfl)) rfl hdg rfl h1 (by omega) hc1 (by omega) (fun cA kA comp f1 f2 f3 f4 => ?_)
  have e2 : s.vm.findClass ("[" ++ (FieldType.toString (.array .int))) = some (k 2) := (hK.2 2 _ rfl).2
  cases Option.some.inj (f1.symm.trans e2)
  have hcell : ({ cls := k 2, slots := Array.replicate n.toNatClampNeg .null, vm := .none } : Cell) = vp_cell (k 2) (n.toNatClampNeg, .inr (.inr (.inr (.inr (fun _ => none))))) := by
    rw [vp_cell_q]
    unfold arrV
    congr 1
    apply Array.ext
    · simp
    · intro i g1 g2
      simp [va_rf]
  rw [hcell]
  generalize hH1 : H.push (vp_cell (k 2) (n.toNatClampNeg, .inr (.inr (.inr (.inr (fun _ => none)))))) = H1
  have z1 : H1.size = H.size + 1 := by rw [← hH1, Array.size_push]
  have e1 : H1[H.size]? = some (vp_cell (k 2) (n.toNatClampNeg, .inr (.inr (.inr (.inr (fun _ => none)))))) := by rw [← hH1, Array.getElem?_push_size]
  have o1 : ∀ q : Nat, q < H.size → H1[q]? = H[q]? := fun q hq => by rw [← hH1, Array.getElem?_push, if_neg (Nat.ne_of_lt hq)]
  have hk : ∀ (i : Nat) (y : Nat × va_E), (wr ++ wH k a Hp)[i]? = some y → H1[y.1]? = H[y.1]? := fun i y hy => o1 y.1 ((hP i y hy).lt)
  refine W.widen (k := cells + 1) (n := slots + 14) (Nat.le_refl _) (by omega) ?_
  have hx := kk _ Hp.length (aup a Hp.length H.size) H1 h4 (hST_new (e := .inl (k 2, n.toNatClampNeg, .inr (.inr (.inr (.inr (fun _ => none)))))) hT rfl (fun j p h => by cases h) rfl ((hP.kept hk).app (fun i y hy => by
      have hz : i < 1 := (List.getElem?_eq_some_iff.mp hy).1
      rw [show i = 0 by omega] at hy
      cases hy
      exact e1)) (hD.push hP rfl (hA _ hS.1)) ⟨Nat.le_trans hS.1 (by omega), fun y h1 h2 => (o1 y (Nat.lt_of_lt_of_le h1 hS.1)).trans (hS.2.1 y h1 h2), hS.2.2⟩) (fun j hj => aup_o hj) h3
  rw [aup_s] at hx
  exact hx
theorem h_nw3 (C : CallFix p m c cc nL s args WW RX1) (hK : va_K D vwCl (tyH k) s) (hT : hST D k A s wr a0 n0 a Hp H locs) (hA : ∀ q, s.heap.size ≤ q → A q) (hc1 : cells + 1 ≤ R.cells) (hs1 : slots + 14 ≤ R.slots) (hB : hBX s) {rs : List Nat} {n : Int32} {K : HS → Nat → Option ρ} (h : hnw 3 rs Hp n K = some z) (hdg : decode cc pc = .ok (.anewarray 21, 3)) (kk : ∀ (Hp1 : HS) (x : Nat) (a1 : Nat → Nat) (H1 : Heap), K Hp1 x = some z → hST D k A s wr a0 n0 a1 Hp1 H1 locs → (∀ j, j < Hp.length → a1 j = a j) → (∀ r ∈ rs, r < Hp.length) → W p l e R s m args below meth c H1 locs (cells + 1) (slots + 14) Q (F0 m (pc + 3) ls (.ref (a1 x) :: rest))) : W p l e R s m args below meth c H locs cells slots Q (F0 m pc ls (.int n :: rest)) := by
  obtain ⟨h1, h2, h3, h4⟩ := hnw_h h
  obtain ⟨hP, hD, hS, hw, hag, hn⟩ := id hT
  refine W.widen (k := cells) (n := slots + 14 - n.toNatClampNeg) (Nat.le_refl _) (by omega) ?_
  have hlk : (Cond.classLink RX1 21 (FieldType.toString (.array (.array .int)))).before args s = true := by
    have e : FieldType.toString (.array (.array .int)) = "[[I" := by decide +kernel
    rw [e]
    exact C.2.2.2.2 _ qK_X1_21
  refine W.anewA (t := .array .int) C.1 C.2.1 C.2.2.2.1 hlk (hB.1 (.array .int) (List.mem_of_getElem? (i := 1) rfl)) rfl hdg rfl h1 (by omega) hc1 (by omega) (fun cA kA comp f1 f2 f3 f4 => ?_)
  have e2 : s.vm.findClass ("[" ++ (FieldType.toString (.array (.array .int)))) = some (k 3) := (hK.2 3 _ rfl).2
  cases Option.some.inj (f1.symm.trans e2)
  have hcell : ({ cls := k 3, slots := Array.replicate n.toNatClampNeg .null, vm := .none } : Cell) = vp_cell (k 3) (n.toNatClampNeg, .inr (.inr (.inr (.inr (fun _ => none))))) := by
    rw [vp_cell_q]
    unfold arrV
    congr 1
    apply Array.ext
    · simp
    · intro i g1 g2
      simp [va_rf]
  rw [hcell]
  generalize hH1 : H.push (vp_cell (k 3) (n.toNatClampNeg, .inr (.inr (.inr (.inr (fun _ => none)))))) = H1
  have z1 : H1.size = H.size + 1 := by rw [← hH1, Array.size_push]
  have e1 : H1[H.size]? = some (vp_cell (k 3) (n.toNatClampNeg, .inr (.inr (.inr (.inr (fun _ => none)))))) := by rw [← hH1, Array.getElem?_push_size]
  have o1 : ∀ q : Nat, q < H.size → H1[q]? = H[q]? := fun q hq => by rw [← hH1, Array.getElem?_push, if_neg (Nat.ne_of_lt hq)]
  have hk : ∀ (i : Nat) (y : Nat × va_E), (wr ++ wH k a Hp)[i]? = some y → H1[y.1]? = H[y.1]? := fun i y hy => o1 y.1 ((hP i y hy).lt)
  refine W.widen (k := cells + 1) (n := slots + 14) (Nat.le_refl _) (by omega) ?_
  have hx := kk _ Hp.length (aup a Hp.length H.size) H1 h4 (hST_new (e := .inl (k 3, n.toNatClampNeg, .inr (.inr (.inr (.inr (fun _ => none)))))) hT rfl (fun j p h => by cases h) rfl ((hP.kept hk).app (fun i y hy => by
      have hz : i < 1 := (List.getElem?_eq_some_iff.mp hy).1
      rw [show i = 0 by omega] at hy
      cases hy
      exact e1)) (hD.push hP rfl (hA _ hS.1)) ⟨Nat.le_trans hS.1 (by omega), fun y h1 h2 => (o1 y (Nat.lt_of_lt_of_le h1 hS.1)).trans (hS.2.1 y h1 h2), hS.2.2⟩) (fun j hj => aup_o hj) h3
  rw [aup_s] at hx
  exact hx
theorem h_nw4 (C : CallFix p m c cc nL s args WW RX1) (hK : va_K D vwCl (tyH k) s) (hT : hST D k A s wr a0 n0 a Hp H locs) (hA : ∀ q, s.heap.size ≤ q → A q) (hc1 : cells + 1 ≤ R.cells) (hs1 : slots + 14 ≤ R.slots) (hB : hBX s) {rs : List Nat} {n : Int32} {K : HS → Nat → Option ρ} (h : hnw 4 rs Hp n K = some z) (hdg : decode cc pc = .ok (.anewarray 13, 3)) (kk : ∀ (Hp1 : HS) (x : Nat) (a1 : Nat → Nat) (H1 : Heap), K Hp1 x = some z → hST D k A s wr a0 n0 a1 Hp1 H1 locs → (∀ j, j < Hp.length → a1 j = a j) → (∀ r ∈ rs, r < Hp.length) → W p l e R s m args below meth c H1 locs (cells + 1) (slots + 14) Q (F0 m (pc + 3) ls (.ref (a1 x) :: rest))) : W p l e R s m args below meth c H locs cells slots Q (F0 m pc ls (.int n :: rest)) := by
  obtain ⟨h1, h2, h3, h4⟩ := hnw_h h
  obtain ⟨hP, hD, hS, hw, hag, hn⟩ := id hT
  refine W.widen (k := cells) (n := slots + 14 - n.toNatClampNeg) (Nat.le_refl _) (by omega) ?_
  have hlk : (Cond.classLink RX1 13 (FieldType.toString (.array (.array (.array .int))))).before args s = true := by
    have e : FieldType.toString (.array (.array (.array .int))) = "[[[I" := by decide +kernel
    rw [e]
    exact C.2.2.2.2 _ qK_X1_13
  refine W.anewA (t := .array (.array .int)) C.1 C.2.1 C.2.2.2.1 hlk (hB.1 (.array (.array .int)) (List.mem_of_getElem? (i := 2) rfl)) rfl hdg rfl h1 (by omega) hc1 (by omega) (fun cA kA comp f1 f2 f3 f4 => ?_)
  have e2 : s.vm.findClass ("[" ++ (FieldType.toString (.array (.array (.array .int))))) = some (k 4) := (hK.2 4 _ rfl).2
  cases Option.some.inj (f1.symm.trans e2)
  have hcell : ({ cls := k 4, slots := Array.replicate n.toNatClampNeg .null, vm := .none } : Cell) = vp_cell (k 4) (n.toNatClampNeg, .inr (.inr (.inr (.inr (fun _ => none))))) := by
    rw [vp_cell_q]
    unfold arrV
    congr 1
    apply Array.ext
    · simp
    · intro i g1 g2
      simp [va_rf]
  rw [hcell]
  generalize hH1 : H.push (vp_cell (k 4) (n.toNatClampNeg, .inr (.inr (.inr (.inr (fun _ => none)))))) = H1
  have z1 : H1.size = H.size + 1 := by rw [← hH1, Array.size_push]
  have e1 : H1[H.size]? = some (vp_cell (k 4) (n.toNatClampNeg, .inr (.inr (.inr (.inr (fun _ => none)))))) := by rw [← hH1, Array.getElem?_push_size]
  have o1 : ∀ q : Nat, q < H.size → H1[q]? = H[q]? := fun q hq => by rw [← hH1, Array.getElem?_push, if_neg (Nat.ne_of_lt hq)]
  have hk : ∀ (i : Nat) (y : Nat × va_E), (wr ++ wH k a Hp)[i]? = some y → H1[y.1]? = H[y.1]? := fun i y hy => o1 y.1 ((hP i y hy).lt)
  refine W.widen (k := cells + 1) (n := slots + 14) (Nat.le_refl _) (by omega) ?_
  have hx := kk _ Hp.length (aup a Hp.length H.size) H1 h4 (hST_new (e := .inl (k 4, n.toNatClampNeg, .inr (.inr (.inr (.inr (fun _ => none)))))) hT rfl (fun j p h => by cases h) rfl ((hP.kept hk).app (fun i y hy => by
      have hz : i < 1 := (List.getElem?_eq_some_iff.mp hy).1
      rw [show i = 0 by omega] at hy
      cases hy
      exact e1)) (hD.push hP rfl (hA _ hS.1)) ⟨Nat.le_trans hS.1 (by omega), fun y h1 h2 => (o1 y (Nat.lt_of_lt_of_le h1 hS.1)).trans (hS.2.1 y h1 h2), hS.2.2⟩) (fun j hj => aup_o hj) h3
  rw [aup_s] at hx
  exact hx
theorem qClk : Cond.methodLink RX1 27 ⟨"[I", "clone", "()Ljava/lang/Object;"⟩ ∈ WW := List.mem_filter.mpr ⟨List.mem_append_right _ (List.mem_append_right _ (List.mem_append_left _ (List.mem_of_getElem? (i := 138) rfl))), rfl⟩
theorem qCsm : Cond.sameMethod "[I" "java/lang/Object" "clone" "()Ljava/lang/Object;" ∈ WW := List.mem_filter.mpr ⟨List.mem_append_right _ (List.mem_append_right _ (List.mem_append_left _ (List.mem_of_getElem? (i := 139) rfl))), rfl⟩
theorem qCnat : Cond.native ⟨"java/lang/Object", "clone", "()Ljava/lang/Object;"⟩ ∈ WW := List.mem_filter.mpr ⟨List.mem_append_right _ (List.mem_append_right _ (List.mem_append_left _ (List.mem_of_getElem? (i := 140) rfl))), rfl⟩
theorem qCins : Cond.instanceMethod ⟨"java/lang/Object", "clone", "()Ljava/lang/Object;"⟩ ∈ WW := List.mem_filter.mpr ⟨List.mem_append_right _ (List.mem_append_right _ (List.mem_append_left _ (List.mem_of_getElem? (i := 141) rfl))), rfl⟩
theorem qCsel : Cond.selects "[I" ⟨"[I", "clone", "()Ljava/lang/Object;"⟩ ⟨"java/lang/Object", "clone", "()Ljava/lang/Object;"⟩ ∈ WW := List.mem_filter.mpr ⟨List.mem_append_right _ (List.mem_append_right _ (List.mem_append_left _ (List.mem_of_getElem? (i := 142) rfl))), rfl⟩
theorem h_clone (C : CallFix p m c cc nL s args WW RX1) (hK : va_K D vwCl (tyH k) s) (hT : hST D k A s wr a0 n0 a Hp H locs) (hA : ∀ q, s.heap.size ≤ q → A q) (hc1 : cells + 1 ≤ R.cells) (hs1 : slots + 14 ≤ R.slots) (hB : hBX s) (hls : ls.size = nL) (hfr : 1 ≤ R.frames) (hlo : (rest.map fun v => v.category).sum + 14 ≤ R.locals) {rs : List Nat} {r : Nat} {K : HS → Nat → Option ρ} (h : hcl rs Hp r K = some z) (hdg : decode cc pc = .ok (.invokevirtual 27, 3)) (hdg2 : decode cc (pc + 3) = .ok (.checkcast 19, 3)) (kk : ∀ (Hp1 : HS) (x : Nat) (a1 : Nat → Nat) (H1 : Heap), K Hp1 x = some z → hST D k A s wr a0 n0 a1 Hp1 H1 locs → (∀ j, j < Hp.length → a1 j = a j) → (∀ r ∈ rs, r < Hp.length) → W p l e R s m args below meth c H1 locs (cells + 1) (slots + 14) Q (F0 m (pc + 6) ls (.ref (a1 x) :: rest))) : W p l e R s m args below meth c H locs cells slots Q (F0 m pc ls (.ref (a r) :: rest)) := by
  obtain ⟨⟨t, n, f, g⟩, c1, c2⟩ := ob_h h
  obtain ⟨g1, g2⟩ := hN_h c1
  cases g2
  by_cases q : 14 < n ∨ (¬ ∀ r ∈ rs, r < Hp.length)
  · rw [if_pos q] at c2; cases c2
  rw [if_neg q] at c2
  have h2 : n ≤ 14 := Nat.not_lt.mp fun w => q (Or.inl w)
  have h3 : ∀ r ∈ rs, r < Hp.length := Classical.byContradiction fun w => q (Or.inr w)
  obtain ⟨hP, hD, hS, hw, hag, hn⟩ := id hT
  have hnm : s.vm.findClass "[I" = some (k 0) := va_nm_int (hK.2 0 _ rfl).2
  refine W.widen (k := cells) (n := slots + 14 - n) (Nat.le_refl _) (by omega) ?_
  refine va_clone (x := (n, .inl f)) (ty := .int) C.1 C.2.1 (C.2.2.1.trans hls.symm) C.2.2.2.1 (C.2.2.2.2 _ qClk) (C.2.2.2.2 _ qCsm) (C.2.2.2.2 _ qCnat) (C.2.2.2.2 _ qCins) (C.2.2.2.2 _ qCsel) hB.2.1 hK hP hD hS hA (wr.length + r) 0 (wA_get g1) rfl hnm (va_fit (fun _ _ => rfl)) hfr hlo hc1 (by show _ + n ≤ _; omega) hdg (fun q H1 hK1 hP1 hD1 hS1 => ?_)
  have hq : ((wr ++ wH k a Hp) ++ [(q, .inl (k 0, n, .inl f))])[(wr ++ wH k a Hp).length]? = some (q, .inl (k 0, n, .inl f)) := by
    rw [List.getElem?_append_right (Nat.le_refl _), Nat.sub_self]; rfl
  refine va_castA C.1 C.2.1 C.2.2.2.1 (C.2.2.2.2 _ qK_X1_19) hP1 (wr ++ wH k a Hp).length hq hnm hdg2 ?_
  refine W.widen (k := cells + 1) (n := slots + 14) (Nat.le_refl _) (by show _ + n ≤ _; omega) ?_
  have hx := kk _ Hp.length (aup a Hp.length q) H1 c2 (hST_new hT rfl (fun j p h => by cases h) rfl hP1 hD1 hS1) (fun j hj => aup_o hj) h3
  rw [aup_s] at hx
  exact hx
theorem h_newO (C : CallFix p m c cc nL s args WW RL) (hK : va_K D vwCl (tyH k) s) (hT : hST D k A s wr a0 n0 a Hp H locs) (hA : ∀ q, s.heap.size ≤ q → A q) (hc1 : cells + 1 ≤ R.cells) (hs1 : slots + 14 ≤ R.slots) {rs : List Nat} {K : HS → Nat → Option ρ} (h : hno rs Hp K = some z) (hdg : decode cc pc = .ok (.new 10, 3)) (kk : ∀ (Hp1 : HS) (x : Nat) (a1 : Nat → Nat) (H1 : Heap), K Hp1 x = some z → hST D k A s wr a0 n0 a1 Hp1 H1 locs → (∀ j, j < Hp.length → a1 j = a j) → (∀ r ∈ rs, r < Hp.length) → W p l e R s m args below meth c H1 locs (cells + 1) (slots + 14) Q (F0 m (pc + 3) ls (.ref (a1 x) :: rest))) : W p l e R s m args below meth c H locs cells slots Q (F0 m pc ls rest) := by
  unfold hno at h
  by_cases q : ¬ ∀ r ∈ rs, r < Hp.length
  · rw [if_pos q] at h; cases h
  rw [if_neg q] at h
  have h3 : ∀ r ∈ rs, r < Hp.length := Classical.byContradiction fun w => q w
  obtain ⟨hP, hD, hS, hw, hag, hn⟩ := id hT
  refine va_new (ci := 1) (fs := [.null, .null]) (C := RX1) (T := TX1) (N := 2) C.1 C.2.1 C.2.2.2.2 inWX1 tyX1 tyX1_ok C.2.2.2.1 (C.2.2.2.2 _ qK_L_10) (C.2.2.2.2 _ qB_X1) (C.2.2.2.2 _ qN_X1) hK hP hD hS hA rfl (fun j hj => ?_) hc1 (by omega) hdg (fun q H1 hP1 hD1 hS1 => ?_)
  · match j, hj with
    | 0, _ => rfl
    | 1, _ => rfl
  · refine W.widen (k := cells + 1) (n := slots + 14) (Nat.le_refl _) (by omega) ?_
    have hx := kk _ Hp.length (aup a Hp.length q) H1 h (hST_new hT rfl (fun j p h => by cases h) rfl hP1 hD1 hS1) (fun j hj => aup_o hj) h3
    rw [aup_s] at hx
    exact hx
end HKIT
