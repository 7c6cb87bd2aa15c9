section KIT
/-! MIRRORS: what a method computes, as a function over numbers; none where an index is out of its row or a count runs out. The rows below walk a method along its mirror. -/
def rdA (f : Nat → Int32) (n : Nat) (i : Int32) : Option Int32 := if i < 0 ∨ n ≤ i.toNatClampNeg then none else some (f i.toNatClampNeg)
def rdL (f : Nat → Int64) (n : Nat) (i : Int32) : Option Int64 := if i < 0 ∨ n ≤ i.toNatClampNeg then none else some (f i.toNatClampNeg)
def wrA {ρ : Type} (n : Nat) (i : Int32) (k : Option ρ) : Option ρ := if i < 0 ∨ n ≤ i.toNatClampNeg then none else k
def gz {ρ : Type} (v : Int32) (k : Option ρ) : Option ρ := if v &&& 1 = v then k else none
def tb {α ρ : Type} (x : Option (α ⊕ Nat)) (K : α → Option (ρ ⊕ Nat)) : Option (ρ ⊕ Nat) := match x with
  | none => none
  | some (.inr e) => some (.inr e)
  | some (.inl v) => K v
def sU (S : Nat → Nat → Int32) (k : Nat) (f : Nat → Int32) : Nat → Nat → Int32 := fun j => if j = k then f else S j
def lmin (x y : Int32) : Int32 := if y < x then y else x
def itr1 {ρ A1 : Type} (F : (A1 → Option ρ) → A1 → Option ρ) : Nat → A1 → Option ρ
  | 0, _ => none
  | n + 1, a => F (itr1 F n) a
def itr2 {ρ A1 A2 : Type} (F : (A1 → A2 → Option ρ) → A1 → A2 → Option ρ) : Nat → A1 → A2 → Option ρ
  | 0, _, _ => none
  | n + 1, a, b => F (itr2 F n) a b
def itr3 {ρ A1 A2 A3 : Type} (F : (A1 → A2 → A3 → Option ρ) → A1 → A2 → A3 → Option ρ) : Nat → A1 → A2 → A3 → Option ρ
  | 0, _, _, _ => none
  | n + 1, a, b, c => F (itr3 F n) a b c
def itr4 {ρ A1 A2 A3 A4 : Type} (F : (A1 → A2 → A3 → A4 → Option ρ) → A1 → A2 → A3 → A4 → Option ρ) : Nat → A1 → A2 → A3 → A4 → Option ρ
  | 0, _, _, _, _ => none
  | n + 1, a, b, c, d => F (itr4 F n) a b c d
def itr5 {ρ A1 A2 A3 A4 A5 : Type} (F : (A1 → A2 → A3 → A4 → A5 → Option ρ) → A1 → A2 → A3 → A4 → A5 → Option ρ) : Nat → A1 → A2 → A3 → A4 → A5 → Option ρ
  | 0, _, _, _, _, _ => none
  | n + 1, a, b, c, d, e => F (itr5 F n) a b c d e
theorem itr1_ind {ρ A1 : Type} {F : (A1 → Option ρ) → A1 → Option ρ} {z : ρ} (P : A1 → Prop) (hs : ∀ ih : A1 → Option ρ, (∀ b, ih b = some z → P b) → ∀ a, F ih a = some z → P a) : ∀ n a, itr1 F n a = some z → P a := by
  intro n
  induction n with
  | zero => intro a h; cases h
  | succ n ih => intro a h; exact hs _ ih a h
theorem itr2_ind {ρ A1 A2 : Type} {F : (A1 → A2 → Option ρ) → A1 → A2 → Option ρ} {z : ρ} (P : A1 → A2 → Prop) (hs : ∀ ih : A1 → A2 → Option ρ, (∀ a b, ih a b = some z → P a b) → ∀ a b, F ih a b = some z → P a b) : ∀ n a b, itr2 F n a b = some z → P a b := by
  intro n
  induction n with
  | zero => intro a b h; cases h
  | succ n ih => intro a b h; exact hs _ ih a b h
theorem itr3_ind {ρ A1 A2 A3 : Type} {F : (A1 → A2 → A3 → Option ρ) → A1 → A2 → A3 → Option ρ} {z : ρ} (P : A1 → A2 → A3 → Prop) (hs : ∀ ih : A1 → A2 → A3 → Option ρ, (∀ a b c, ih a b c = some z → P a b c) → ∀ a b c, F ih a b c = some z → P a b c) : ∀ n a b c, itr3 F n a b c = some z → P a b c := by
  intro n
  induction n with
  | zero => intro a b c h; cases h
  | succ n ih => intro a b c h; exact hs _ ih a b c h
theorem itr4_ind {ρ A1 A2 A3 A4 : Type} {F : (A1 → A2 → A3 → A4 → Option ρ) → A1 → A2 → A3 → A4 → Option ρ} {z : ρ} (P : A1 → A2 → A3 → A4 → Prop) (hs : ∀ ih : A1 → A2 → A3 → A4 → Option ρ, (∀ a b c d, ih a b c d = some z → P a b c d) → ∀ a b c d, F ih a b c d = some z → P a b c d) : ∀ n a b c d, itr4 F n a b c d = some z → P a b c d := by
  intro n
  induction n with
  | zero => intro a b c d h; cases h
  | succ n ih => intro a b c d h; exact hs _ ih a b c d h
theorem itr5_ind {ρ A1 A2 A3 A4 A5 : Type} {F : (A1 → A2 → A3 → A4 → A5 → Option ρ) → A1 → A2 → A3 → A4 → A5 → Option ρ} {z : ρ} (P : A1 → A2 → A3 → A4 → A5 → Prop) (hs : ∀ ih : A1 → A2 → A3 → A4 → A5 → Option ρ, (∀ a b c d e, ih a b c d e = some z → P a b c d e) → ∀ a b c d e, F ih a b c d e = some z → P a b c d e) : ∀ n a b c d e, itr5 F n a b c d e = some z → P a b c d e := by
  intro n
  induction n with
  | zero => intro a b c d e h; cases h
  | succ n ih => intro a b c d e h; exact hs _ ih a b c d e h
theorem rdA_h {ρ : Type} {f : Nat → Int32} {n : Nat} {i : Int32} {K : Int32 → Option ρ} {z : ρ} (h : (rdA f n i).bind K = some z) : vp_in i n ∧ K (f i.toNatClampNeg) = some z := by
  unfold rdA at h
  by_cases c : i < 0 ∨ n ≤ i.toNatClampNeg
  · rw [if_pos c] at h; exact absurd h (by simp)
  · rw [if_neg c] at h; exact ⟨c, h⟩
theorem rdL_h {ρ : Type} {f : Nat → Int64} {n : Nat} {i : Int32} {K : Int64 → Option ρ} {z : ρ} (h : (rdL f n i).bind K = some z) : vp_in i n ∧ K (f i.toNatClampNeg) = some z := by
  unfold rdL at h
  by_cases c : i < 0 ∨ n ≤ i.toNatClampNeg
  · rw [if_pos c] at h; exact absurd h (by simp)
  · rw [if_neg c] at h; exact ⟨c, h⟩
theorem wrA_h {ρ : Type} {n : Nat} {i : Int32} {k : Option ρ} {z : ρ} (h : wrA n i k = some z) : vp_in i n ∧ k = some z := by
  unfold wrA at h
  by_cases c : i < 0 ∨ n ≤ i.toNatClampNeg
  · rw [if_pos c] at h; cases h
  · rw [if_neg c] at h; exact ⟨c, h⟩
theorem gz_h {ρ : Type} {v : Int32} {k : Option ρ} {z : ρ} (h : gz v k = some z) : v &&& 1 = v ∧ k = some z := by
  unfold gz at h
  by_cases c : v &&& 1 = v
  · rw [if_pos c] at h; exact ⟨c, h⟩
  · rw [if_neg c] at h; cases h
theorem ob_h {α ρ : Type} {x : Option α} {K : α → Option ρ} {z : ρ} (h : x.bind K = some z) : ∃ v, x = some v ∧ K v = some z := by
  cases x with
  | none => cases h
  | some v => exact ⟨v, rfl, h⟩
theorem tb_h {α ρ : Type} {x : Option (α ⊕ Nat)} {K : α → Option (ρ ⊕ Nat)} {z : ρ ⊕ Nat} (h : tb x K = some z) : (∃ v, x = some (.inl v) ∧ K v = some z) ∨ ∃ e, x = some (.inr e) ∧ z = .inr e := by
  match x, h with
  | some (.inl v), h => exact Or.inl ⟨v, rfl, h⟩
  | some (.inr e), h => exact Or.inr ⟨e, rfl, (Option.some.inj h).symm⟩
theorem it_h {ρ : Type} {c : Prop} {inst : Decidable c} {a b : Option ρ} {z : ρ} (h : @ite _ c inst a b = some z) (hc : c) : a = some z := (if_pos hc).symm.trans h
theorem if_h {ρ : Type} {c : Prop} {inst : Decidable c} {a b : Option ρ} {z : ρ} (h : @ite _ c inst a b = some z) (hc : ¬ c) : b = some z := (if_neg hc).symm.trans h
theorem i32_ne {x k : Int32} (h : ¬ x = k) : x.toInt ≠ k.toInt := fun e => h (Int32.toInt_inj.mp e)

/-- the words of a call: the callee's own code ahead of the one list -/
theorem gdV {own : String} {idx : Nat} {CL : String} {y : MethodName} {b : ByteArray} {n : Nat} {r : Option FieldType} (h1 : Cond.methodLink own idx y ∈ WW) (h2 : Cond.instanceMethod y ∈ WW) (h3 : Cond.selects CL y y ∈ WW) (h4 : Cond.initialized CL ∈ WW) (h5 : Cond.code y b n r ∈ WW) : GoodIn WW (wsV own idx CL y (Cond.code y b n r :: WW)) := by
  have k : ∀ w ∈ wsV own idx CL y (Cond.code y b n r :: WW), w ∈ WW := by
    intro w hw
    simp only [wsV, List.cons_append, List.nil_append, List.mem_cons] at hw
    rcases hw with rfl | rfl | rfl | rfl | rfl | hw
    · exact h1
    · exact h2
    · exact h3
    · exact h4
    · exact h5
    · exact hw
  exact fun w hw => ⟨k w hw, WW_good w (k w hw)⟩
theorem gdS {own : String} {idx : Nat} {y : MethodName} {b : ByteArray} {n : Nat} {r : Option FieldType} (h1 : Cond.methodLink own idx y ∈ WW) (h2 : Cond.static y ∈ WW) (h4 : Cond.initialized y.cls ∈ WW) (h5 : Cond.code y b n r ∈ WW) : GoodIn WW (va_wsS own idx y (Cond.code y b n r :: WW)) := by
  have k : ∀ w ∈ va_wsS own idx y (Cond.code y b n r :: WW), w ∈ WW := by
    intro w hw
    simp only [va_wsS, List.cons_append, List.nil_append, List.mem_cons] at hw
    rcases hw with rfl | rfl | rfl | rfl | hw
    · exact h1
    · exact h2
    · exact h4
    · exact h5
    · exact hw
  exact fun w hw => ⟨k w hw, WW_good w (k w hw)⟩
theorem gdI {y : MethodName} {b : ByteArray} {n : Nat} {r : Option FieldType} (h5 : Cond.code y b n r ∈ WW) : GoodIn WW (Cond.code y b n r :: WW) := by
  have k : ∀ w ∈ (Cond.code y b n r :: WW), w ∈ WW := fun w hw => (List.mem_cons.mp hw).elim (fun e => by rw [e]; exact h5) id
  exact fun w hw => ⟨k w hw, WW_good w (k w hw)⟩

/-- addresses apart: a matter of the addresses alone -/
theorem D_same {A : Nat → Prop} {w w' : va_W} (h : va_D A w) (e : w'.map Prod.fst = w.map Prod.fst) : va_D A w' := by
  have key : ∀ (k : Nat) (q : Nat × va_E), w'[k]? = some q → ∃ q', w[k]? = some q' ∧ q'.1 = q.1 := by
    intro k q hq
    have h1 : (w'.map Prod.fst)[k]? = some q.1 := by rw [List.getElem?_map, hq]; rfl
    rw [e, List.getElem?_map] at h1
    cases hw : w[k]? with
    | none => rw [hw] at h1; cases h1
    | some q' => rw [hw] at h1; exact ⟨q', rfl, Option.some.inj h1⟩
  refine ⟨fun i j p q hp hq hpq => ?_, fun k q hk => ?_⟩
  · obtain ⟨p', a1, a2⟩ := key i p hp
    obtain ⟨q', b1, b2⟩ := key j q hq
    exact h.1 i j p' q' a1 b1 (by rw [a2, b2]; exact hpq)
  · obtain ⟨q', a1, a2⟩ := key k q hk
    have := h.2 k q' a1
    rw [a2] at this
    exact this
theorem A_sub {A : Nat → Prop} {ws : va_W} {H0 H : Heap} {locs : List Loc} (hD : va_D A ws) (hS : va_S A H0 H locs) (hA : ∀ q, H0.size ≤ q → A q) : ∀ q, va_A ws H.size q → A q := by
  intro q hq
  rcases hq with ⟨k, e, hk⟩ | hq
  · exact hD.2 k _ hk
  · exact hA q (Nat.le_trans hS.1 hq)

/-- contracts: starts and ends -/
def roP (D : va_G) (ws : va_W) (tys : List (ClassId × FieldType)) : State → Prop := fun U => va_P D vwCl ws U.heap ∧ va_K D vwCl tys U
def rwP (D : va_G) (ws : va_W) (tys : List (ClassId × FieldType)) (sz : Nat) : State → Prop := fun U => U.heap.size = sz ∧ va_P D vwCl ws U.heap ∧ va_K D vwCl tys U ∧ va_D (fun _ => True) ws
theorem roP_blind {D : va_G} {ws : va_W} {tys : List (ClassId × FieldType)} {av : List Value} : FrameBlind (va_Pc av (roP D ws tys)) := fun a U g mk q => by
  obtain ⟨q0, qP, qK⟩ := q
  exact ⟨q0, qP, va_K.moved (u := U) (U := U.calling g mk a) (Vm.Alike.refl U.vm) qK⟩
theorem rwP_blind {D : va_G} {ws : va_W} {tys : List (ClassId × FieldType)} {sz : Nat} {av : List Value} : FrameBlind (va_Pc av (rwP D ws tys sz)) := fun a U g mk q => by
  obtain ⟨q0, q1, qP, qK, qD⟩ := q
  exact ⟨q0, q1, qP, va_K.moved (u := U) (U := U.calling g mk a) (Vm.Alike.refl U.vm) qK, qD⟩
theorem RO_of {l : Launch} {y : MethodName} {b : ByteArray} {mL : Nat} {ret : Option FieldType} {rm : Room} {D : va_G} {ws : va_W} {tys : List (ClassId × FieldType)} {av : List Value} {Qc : Array Value → State → Outcome → State → Prop} {own : String} (hy : plainName y.cls = true) (ho : y.cls = own) (hn : (lg_sl av).length ≤ mL)
    (body : ∀ p e s m args below meth c, args = av.toArray → CallFix p m c b mL s args WW own → meth.sig.returnType = ret → meth.locks = false → va_P D vwCl ws s.heap → va_K D vwCl tys s → ∀ ls : Array Slot, lv_has ls mL (lv_args 0 av) →
      W p l e rm s m args below meth c s.heap [] 0 0 (MQ below Qc args s 0 0 (fun _ => False)) (F0 m 0 ls [])) : Met l y (Cond.code y b mL ret :: WW) rm (va_Pc av (roP D ws tys)) Qc 0 0 (fun _ => False) := by
  refine Met.ofW (cc := b) (maxL := mL) (ret := ret) hy rfl ?_
  intro p e s m args below meth c s₁ B hml hv
  obtain ⟨rfl, hP, hK⟩ := hv
  have hts := atoms_spec (ws := Cond.code y b mL ret :: WW) B.pre
  have hl := lv_entry av hn
  rw [lg_entry_eq]
  exact body p e s m _ below meth c rfl ⟨B.exec, B.bytes, hml, ho ▸ findClass_of_methodNamed B.named, fun w h => hts w (List.mem_cons_of_mem _ h)⟩ B.returns B.notSynchronized hP hK _ hl
/-- a static method of numbers alone -/
theorem RS_of {l : Launch} {y : MethodName} {b : ByteArray} {mL : Nat} {ret : Option FieldType} {rm : Room} {av : List Value} {Qc : Array Value → State → Outcome → State → Prop} {own : String} (hy : plainName y.cls = true) (ho : y.cls = own) (hn : (lg_sl av).length ≤ mL)
    (body : ∀ p e s m args below meth c, args = av.toArray → CallFix p m c b mL s args WW own → meth.sig.returnType = ret → meth.locks = false → ∀ ls : Array Slot, lv_has ls mL (lv_args 0 av) →
      W p l e rm s m args below meth c s.heap [] 0 0 (MQ below Qc args s 0 0 (fun _ => False)) (F0 m 0 ls [])) : Met l y (Cond.code y b mL ret :: WW) rm (va_Pc av (fun _ => True)) Qc 0 0 (fun _ => False) := by
  refine Met.ofW (cc := b) (maxL := mL) (ret := ret) hy rfl ?_
  intro p e s m args below meth c s₁ B hml hv
  obtain ⟨rfl, -⟩ := hv
  have hts := atoms_spec (ws := Cond.code y b mL ret :: WW) B.pre
  have hl := lv_entry av hn
  rw [lg_entry_eq]
  exact body p e s m _ below meth c rfl ⟨B.exec, B.bytes, hml, ho ▸ findClass_of_methodNamed B.named, fun w h => hts w (List.mem_cons_of_mem _ h)⟩ B.returns B.notSynchronized _ hl
theorem RW_of {l : Launch} {y : MethodName} {b : ByteArray} {mL : Nat} {ret : Option FieldType} {rm : Room} {D : va_G} {ws : va_W} {tys : List (ClassId × FieldType)} {sz : Nat} {av : List Value} {Qc : (Nat → Prop) → Array Value → State → Outcome → State → Prop} {own : String} (hy : plainName y.cls = true) (ho : y.cls = own) (hn : (lg_sl av).length ≤ mL)
    (body : ∀ p e s m args below meth c A, args = av.toArray → CallFix p m c b mL s args WW own → meth.sig.returnType = ret → meth.locks = false → va_P D vwCl ws s.heap → va_K D vwCl tys s → va_D A ws → (∀ q, s.heap.size ≤ q → A q) → ∀ ls : Array Slot, lv_has ls mL (lv_args 0 av) →
      W p l e rm s m args below meth c s.heap [] 0 0 (MQ below (Qc A) args s 0 0 A) (F0 m 0 ls [])) : Met l y (Cond.code y b mL ret :: WW) rm (va_Pc av (rwP D ws tys sz)) (Qc (va_A ws sz)) 0 0 (va_A ws sz) := by
  refine Met.ofW (cc := b) (maxL := mL) (ret := ret) hy rfl ?_
  intro p e s m args below meth c s₁ B hml hv
  obtain ⟨rfl, hsz, hP, hK, hD0⟩ := hv
  have hts := atoms_spec (ws := Cond.code y b mL ret :: WW) B.pre
  have hl := lv_entry av hn
  rw [lg_entry_eq]
  subst hsz
  exact body p e s m _ below meth c _ rfl ⟨B.exec, B.bytes, hml, ho ▸ findClass_of_methodNamed B.named, fun w h => hts w (List.mem_cons_of_mem _ h)⟩ B.returns B.notSynchronized hP hK hD0.self (fun q h => Or.inr h) _ hl
end KIT
