section PURE
/-! THE PURE PART: the mirrors against a lodge of plain numbers -/
abbrev GS : Type := Nat → Nat → Nat
-- numbers
theorem nlit (n : Nat) : (OfNat.ofNat n : Int32) = nI n := rfl
theorem nI_cl {n : Nat} (h : n < 2147483648) : (nI n).toNatClampNeg = n := nI_clamp h
theorem rdA_n {f : Nat → Int32} {n i : Nat} (h : i < n) (hn : n ≤ 2560) : rdA f n (nI i) = some (f i) := by
  unfold rdA
  rw [if_neg (nI_in h (by omega)), nI_clamp (by omega)]
theorem wrS_n {σ ρ : Type} {n i : Nat} {S' : σ} {K : σ → Option ρ} (h : i < n) (hn : n ≤ 2560) : wrS n (nI i) S' K = K S' := by
  unfold wrS
  rw [if_neg (nI_in h (by omega))]
theorem le_t {ρ : Type} {a b : Nat} {inst : Decidable (nI a ≤ nI b)} {x y : ρ} (h : a ≤ b) (hb : b < 2147483648) : @ite _ (nI a ≤ nI b) inst x y = x := if_pos (nI_le h hb)
theorem le_f {ρ : Type} {a b : Nat} {inst : Decidable (nI a ≤ nI b)} {x y : ρ} (h : b < a) (ha : a < 2147483648) : @ite _ (nI a ≤ nI b) inst x y = y := if_neg (nI_ge h ha)
theorem lt_t {ρ : Type} {a b : Nat} {inst : Decidable (nI a < nI b)} {x y : ρ} (h : a < b) (hb : b < 2147483648) : @ite _ (nI a < nI b) inst x y = x := if_pos (nI_lt h hb)
theorem lt_f {ρ : Type} {a b : Nat} {inst : Decidable (nI a < nI b)} {x y : ρ} (h : b ≤ a) (ha : a < 2147483648) : @ite _ (nI a < nI b) inst x y = y := if_neg (nI_nlt h ha)
theorem eq_t {ρ : Type} {a b : Nat} {inst : Decidable (nI a = nI b)} {x y : ρ} (h : a = b) : @ite _ (nI a = nI b) inst x y = x := if_pos (congrArg nI h)
theorem eq_f {ρ : Type} {a b : Nat} {inst : Decidable (nI a = nI b)} {x y : ρ} (h : a ≠ b) (ha : a < 2147483648) (hb : b < 2147483648) : @ite _ (nI a = nI b) inst x y = y := if_neg (fun e => h ((nI_eq ha hb).mp e))
theorem le_i {ρ : Type} {a b : Nat} {inst : Decidable (nI a ≤ nI b)} {x y : ρ} (ha : a < 2147483648) (hb : b < 2147483648) : @ite _ (nI a ≤ nI b) inst x y = if a ≤ b then x else y := by
  by_cases h : a ≤ b
  · rw [if_pos h, if_pos (nI_le h hb)]
  · rw [if_neg h, if_neg (nI_ge (by omega) ha)]
theorem lt_i {ρ : Type} {a b : Nat} {inst : Decidable (nI a < nI b)} {x y : ρ} (ha : a < 2147483648) (hb : b < 2147483648) : @ite _ (nI a < nI b) inst x y = if a < b then x else y := by
  by_cases h : a < b
  · rw [if_pos h, if_pos (nI_lt h hb)]
  · rw [if_neg h, if_neg (nI_nlt (by omega) ha)]
theorem eq_i {ρ : Type} {a b : Nat} {inst : Decidable (nI a = nI b)} {x y : ρ} (ha : a < 2147483648) (hb : b < 2147483648) : @ite _ (nI a = nI b) inst x y = if a = b then x else y := by
  by_cases h : a = b
  · rw [if_pos h, if_pos (congrArg nI h)]
  · rw [if_neg h, if_neg (fun e => h ((nI_eq ha hb).mp e))]
theorem le_tR {ρ : Type} {a b : Nat} {inst : Decidable (nI a ≤ (OfNat.ofNat b : Int32))} {x y : ρ} (h : a ≤ b) (hb : b < 2147483648) : @ite _ (nI a ≤ nI b) inst x y = x := le_t h hb
theorem le_tL {ρ : Type} {a b : Nat} {inst : Decidable ((OfNat.ofNat a : Int32) ≤ nI b)} {x y : ρ} (h : a ≤ b) (hb : b < 2147483648) : @ite _ (nI a ≤ nI b) inst x y = x := le_t h hb
theorem le_fR {ρ : Type} {a b : Nat} {inst : Decidable (nI a ≤ (OfNat.ofNat b : Int32))} {x y : ρ} (h : b < a) (ha : a < 2147483648) : @ite _ (nI a ≤ nI b) inst x y = y := le_f h ha
theorem le_fL {ρ : Type} {a b : Nat} {inst : Decidable ((OfNat.ofNat a : Int32) ≤ nI b)} {x y : ρ} (h : b < a) (ha : a < 2147483648) : @ite _ (nI a ≤ nI b) inst x y = y := le_f h ha
theorem le_iR {ρ : Type} {a b : Nat} {inst : Decidable (nI a ≤ (OfNat.ofNat b : Int32))} {x y : ρ} (ha : a < 2147483648) (hb : b < 2147483648) : @ite _ (nI a ≤ nI b) inst x y = if a ≤ b then x else y := le_i ha hb
theorem le_iL {ρ : Type} {a b : Nat} {inst : Decidable ((OfNat.ofNat a : Int32) ≤ nI b)} {x y : ρ} (ha : a < 2147483648) (hb : b < 2147483648) : @ite _ (nI a ≤ nI b) inst x y = if a ≤ b then x else y := le_i ha hb
theorem lt_tR {ρ : Type} {a b : Nat} {inst : Decidable (nI a < (OfNat.ofNat b : Int32))} {x y : ρ} (h : a < b) (hb : b < 2147483648) : @ite _ (nI a < nI b) inst x y = x := lt_t h hb
theorem lt_tL {ρ : Type} {a b : Nat} {inst : Decidable ((OfNat.ofNat a : Int32) < nI b)} {x y : ρ} (h : a < b) (hb : b < 2147483648) : @ite _ (nI a < nI b) inst x y = x := lt_t h hb
theorem lt_fR {ρ : Type} {a b : Nat} {inst : Decidable (nI a < (OfNat.ofNat b : Int32))} {x y : ρ} (h : b ≤ a) (ha : a < 2147483648) : @ite _ (nI a < nI b) inst x y = y := lt_f h ha
theorem lt_fL {ρ : Type} {a b : Nat} {inst : Decidable ((OfNat.ofNat a : Int32) < nI b)} {x y : ρ} (h : b ≤ a) (ha : a < 2147483648) : @ite _ (nI a < nI b) inst x y = y := lt_f h ha
theorem lt_iR {ρ : Type} {a b : Nat} {inst : Decidable (nI a < (OfNat.ofNat b : Int32))} {x y : ρ} (ha : a < 2147483648) (hb : b < 2147483648) : @ite _ (nI a < nI b) inst x y = if a < b then x else y := lt_i ha hb
theorem lt_iL {ρ : Type} {a b : Nat} {inst : Decidable ((OfNat.ofNat a : Int32) < nI b)} {x y : ρ} (ha : a < 2147483648) (hb : b < 2147483648) : @ite _ (nI a < nI b) inst x y = if a < b then x else y := lt_i ha hb
theorem eq_tR {ρ : Type} {a b : Nat} {inst : Decidable (nI a = (OfNat.ofNat b : Int32))} {x y : ρ} (h : a = b) : @ite _ (nI a = nI b) inst x y = x := eq_t h
theorem eq_tL {ρ : Type} {a b : Nat} {inst : Decidable ((OfNat.ofNat a : Int32) = nI b)} {x y : ρ} (h : a = b) : @ite _ (nI a = nI b) inst x y = x := eq_t h
theorem eq_fR {ρ : Type} {a b : Nat} {inst : Decidable (nI a = (OfNat.ofNat b : Int32))} {x y : ρ} (h : a ≠ b) (ha : a < 2147483648) (hb : b < 2147483648) : @ite _ (nI a = nI b) inst x y = y := eq_f h ha hb
theorem eq_fL {ρ : Type} {a b : Nat} {inst : Decidable ((OfNat.ofNat a : Int32) = nI b)} {x y : ρ} (h : a ≠ b) (ha : a < 2147483648) (hb : b < 2147483648) : @ite _ (nI a = nI b) inst x y = y := eq_f h ha hb
theorem eq_iR {ρ : Type} {a b : Nat} {inst : Decidable (nI a = (OfNat.ofNat b : Int32))} {x y : ρ} (ha : a < 2147483648) (hb : b < 2147483648) : @ite _ (nI a = nI b) inst x y = if a = b then x else y := eq_i ha hb
theorem eq_iL {ρ : Type} {a b : Nat} {inst : Decidable ((OfNat.ofNat a : Int32) = nI b)} {x y : ρ} (ha : a < 2147483648) (hb : b < 2147483648) : @ite _ (nI a = nI b) inst x y = if a = b then x else y := eq_i ha hb
theorem bz_i {ρ : Type} {b : Bool} {inst : Decidable (nI b.toNat = nI 0)} {x y : ρ} : @ite _ (nI b.toNat = nI 0) inst x y = if b = true then y else x := by
  cases b
  · exact if_pos rfl
  · exact if_neg (fun e => absurd ((nI_eq (by decide) (by decide)).mp e) (by decide))
theorem bz_iR {ρ : Type} {b : Bool} {inst : Decidable (nI b.toNat = (0 : Int32))} {x y : ρ} : @ite _ (nI b.toNat = nI 0) inst x y = if b = true then y else x := bz_i
theorem tt_i {ρ : Type} {inst : Decidable True} {x y : ρ} : @ite _ True inst x y = x := if_pos trivial
theorem ff_i {ρ : Type} {inst : Decidable False} {x y : ρ} : @ite _ False inst x y = y := if_neg id
def mone : Int32 := -1
theorem m1 : (-1 : Int32) = mone := rfl
theorem mone_ne {a : Nat} (h : a < 2147483648) : nI a ≠ mone := by
  intro e
  have := nI_pos (n := a) h
  rw [e] at this
  exact this (by decide)
theorem eq_m {ρ : Type} {a : Nat} {inst : Decidable (nI a = mone)} {x y : ρ} (h : a < 2147483648) : @ite _ (nI a = mone) inst x y = y := if_neg (mone_ne h)
theorem eq_mR {ρ : Type} {a : Nat} {inst : Decidable (nI a = (-1 : Int32))} {x y : ρ} (h : a < 2147483648) : @ite _ (nI a = mone) inst x y = y := if_neg (mone_ne h)
theorem eq_mm {ρ : Type} {inst : Decidable (mone = mone)} {x y : ρ} : @ite _ (mone = mone) inst x y = x := if_pos rfl
theorem eq_mmR {ρ : Type} {inst : Decidable (mone = (-1 : Int32))} {x y : ρ} : @ite _ (mone = mone) inst x y = x := if_pos rfl
theorem gz_0 {ρ : Type} {k : Option ρ} : gz (nI 0) k = k := if_pos rfl
theorem gz_1 {ρ : Type} {k : Option ρ} : gz (nI 1) k = k := if_pos rfl
theorem gz_b {ρ : Type} {b : Bool} {k : Option ρ} : gz (nI b.toNat) k = k := by cases b <;> exact if_pos rfl
theorem ob_s {α ρ : Type} {v : α} {K : α → Option ρ} : (some v).bind K = K v := Eq.trans rfl rfl
theorem rb_s {α σ ρ : Type} {v : α} {s : σ} {K : α → σ → Option ρ} : rb (some (v, s)) K = K v s := Eq.trans rfl rfl
theorem tb_s {α ρ : Type} {v : α} {K : α → Option (ρ ⊕ Nat)} : tb (some (.inl v)) K = K v := Eq.trans rfl rfl
theorem tb_x {α ρ : Type} {e : Nat} {K : α → Option (ρ ⊕ Nat)} : tb (some (.inr e) : Option (α ⊕ Nat)) K = some (.inr e) := Eq.trans rfl rfl
theorem st_s {σ ρ : Type} {S' : σ} {K : σ → Option ρ} : stS S' K = K S' := Eq.trans rfl rfl
theorem n_add (a b : Nat) : nI a + nI b = nI (a + b) := nI_add a b
theorem n_mul (a b : Nat) : nI a * nI b = nI (a * b) := pk_mul a b
theorem sU_s {S : XS} {k : Nat} {f : Nat → Int32} : sU S k f k = f := if_pos rfl
theorem sU_n {S : XS} {k j : Nat} {f : Nat → Int32} (h : j ≠ k) : sU S k f j = S j := if_neg h
theorem fuel_gt {m : Nat} (h : m < 300000) : m < FUEL := h
theorem neg_ne {a : Nat} (h : a < 2147483648) : nI a ≠ -1 := by
  intro e
  have := nI_pos (n := a) h
  rw [e] at this
  exact this (by decide)
-- loops that count up
theorem itr1_r {ρ : Type} {F : (Int32 → Option ρ) → Int32 → Option ρ} (res : Nat → Nat → Option ρ) (i0 e : Nat) (h0 : ∀ ih, F ih (nI e) = res e 0) (hs : ∀ i m ih, i0 ≤ i → i + m + 1 = e → ih (nI (i + 1)) = res (i + 1) m → F ih (nI i) = res i (m + 1)) : ∀ m i N, i0 ≤ i → i + m = e → m < N → itr1 F N (nI i) = res i m := by
  intro m
  induction m with
  | zero =>
    intro i N h0i hi hN
    match N, hN with
    | N + 1, _ =>
      have : i = e := by omega
      subst this
      exact h0 _
  | succ m ih =>
    intro i N h0i hi hN
    match N, hN with
    | N + 1, hN => exact hs i m _ h0i (by omega) (ih (i + 1) N (by omega) (by omega) (by omega))
theorem itr2_r {ρ A : Type} {F : (A → Int32 → Option ρ) → A → Int32 → Option ρ} (P : Nat → Nat → A → Option ρ → Prop) (i0 e : Nat) (h0 : ∀ ih a, P e 0 a (F ih a (nI e))) (hs : ∀ i m ih, i0 ≤ i → i + m + 1 = e → (∀ a, P (i + 1) m a (ih a (nI (i + 1)))) → ∀ a, P i (m + 1) a (F ih a (nI i))) : ∀ m i N a, i0 ≤ i → i + m = e → m < N → P i m a (itr2 F N a (nI i)) := by
  intro m
  induction m with
  | zero =>
    intro i N a h0i hi hN
    match N, hN with
    | N + 1, _ =>
      have : i = e := by omega
      subst this
      exact h0 _ a
  | succ m ih =>
    intro i N a h0i hi hN
    match N, hN with
    | N + 1, hN => exact hs i m _ h0i (by omega) (fun a => ih (i + 1) N a (by omega) (by omega) (by omega)) a
theorem itr2_n {ρ : Type} {F : (Int32 → Int32 → Option ρ) → Int32 → Int32 → Option ρ} (res : Nat → Nat → Nat → Option ρ) (i0 e : Nat) (h0 : ∀ ih a, F ih (nI a) (nI e) = res e 0 a) (hs : ∀ i m ih, i0 ≤ i → i + m + 1 = e → (∀ a, ih (nI a) (nI (i + 1)) = res (i + 1) m a) → ∀ a, F ih (nI a) (nI i) = res i (m + 1) a) : ∀ m i N a, i0 ≤ i → i + m = e → m < N → itr2 F N (nI a) (nI i) = res i m a := by
  intro m
  induction m with
  | zero =>
    intro i N a h0i hi hN
    match N, hN with
    | N + 1, _ =>
      have : i = e := by omega
      subst this
      exact h0 _ a
  | succ m ih =>
    intro i N a h0i hi hN
    match N, hN with
    | N + 1, hN => exact hs i m _ h0i (by omega) (fun a => ih (i + 1) N a (by omega) (by omega) (by omega)) a
theorem itr3_r {ρ A B : Type} {F : (A → B → Int32 → Option ρ) → A → B → Int32 → Option ρ} (P : Nat → Nat → A → B → Option ρ → Prop) (i0 e : Nat) (h0 : ∀ ih a b, P e 0 a b (F ih a b (nI e))) (hs : ∀ i m ih, i0 ≤ i → i + m + 1 = e → (∀ a b, P (i + 1) m a b (ih a b (nI (i + 1)))) → ∀ a b, P i (m + 1) a b (F ih a b (nI i))) : ∀ m i N a b, i0 ≤ i → i + m = e → m < N → P i m a b (itr3 F N a b (nI i)) := by
  intro m
  induction m with
  | zero =>
    intro i N a b h0i hi hN
    match N, hN with
    | N + 1, _ =>
      have : i = e := by omega
      subst this
      exact h0 _ a b
  | succ m ih =>
    intro i N a b h0i hi hN
    match N, hN with
    | N + 1, hN => exact hs i m _ h0i (by omega) (fun a b => ih (i + 1) N a b (by omega) (by omega) (by omega)) a b
theorem itr4_r {ρ A B C : Type} {F : (A → B → C → Int32 → Option ρ) → A → B → C → Int32 → Option ρ} (P : Nat → Nat → A → B → C → Option ρ → Prop) (i0 e : Nat) (h0 : ∀ ih a b c, P e 0 a b c (F ih a b c (nI e))) (hs : ∀ i m ih, i0 ≤ i → i + m + 1 = e → (∀ a b c, P (i + 1) m a b c (ih a b c (nI (i + 1)))) → ∀ a b c, P i (m + 1) a b c (F ih a b c (nI i))) : ∀ m i N a b c, i0 ≤ i → i + m = e → m < N → P i m a b c (itr4 F N a b c (nI i)) := by
  intro m
  induction m with
  | zero =>
    intro i N a b c h0i hi hN
    match N, hN with
    | N + 1, _ =>
      have : i = e := by omega
      subst this
      exact h0 _ a b c
  | succ m ih =>
    intro i N a b c h0i hi hN
    match N, hN with
    | N + 1, hN => exact hs i m _ h0i (by omega) (fun a b c => ih (i + 1) N a b c (by omega) (by omega) (by omega)) a b c
-- plain walks over a range of numbers
def allR (p : Nat → Bool) : Nat → Nat → Bool
  | _, 0 => true
  | i, m + 1 => p i && allR p (i + 1) m
def anyR (p : Nat → Bool) : Nat → Nat → Bool
  | _, 0 => false
  | i, m + 1 => p i || anyR p (i + 1) m
def sumR (f : Nat → Nat) : Nat → Nat → Nat
  | _, 0 => 0
  | i, m + 1 => f i + sumR f (i + 1) m
theorem allR_iff {p : Nat → Bool} : ∀ {m i : Nat}, allR p i m = true ↔ ∀ k, i ≤ k → k < i + m → p k = true := by
  intro m
  induction m with
  | zero => intro i; exact ⟨fun _ k h1 h2 => by omega, fun _ => rfl⟩
  | succ m ih =>
    intro i
    unfold allR
    rw [Bool.and_eq_true, ih]
    constructor
    · rintro ⟨h1, h2⟩ k hk1 hk2
      by_cases e : k = i
      · rw [e]; exact h1
      · exact h2 k (by omega) (by omega)
    · intro h
      exact ⟨h i (by omega) (by omega), fun k h1 h2 => h k (by omega) (by omega)⟩
theorem anyR_iff {p : Nat → Bool} : ∀ {m i : Nat}, anyR p i m = true ↔ ∃ k, i ≤ k ∧ k < i + m ∧ p k = true := by
  intro m
  induction m with
  | zero => intro i; exact ⟨fun h => (by cases h), fun ⟨k, h1, h2, _⟩ => (by omega)⟩
  | succ m ih =>
    intro i
    unfold anyR
    rw [Bool.or_eq_true, ih]
    constructor
    · rintro (h | ⟨k, h1, h2, h3⟩)
      · exact ⟨i, by omega, by omega, h⟩
      · exact ⟨k, by omega, by omega, h3⟩
    · rintro ⟨k, h1, h2, h3⟩
      by_cases e : k = i
      · left; rw [← e]; exact h3
      · exact Or.inr ⟨k, by omega, by omega, h3⟩
theorem sumR_le {f g : Nat → Nat} : ∀ {m i : Nat}, (∀ k, i ≤ k → k < i + m → f k ≤ g k) → sumR f i m ≤ sumR g i m := by
  intro m
  induction m with
  | zero => intro i _; exact Nat.le_refl _
  | succ m ih =>
    intro i h
    have h1 := h i (by omega) (by omega)
    have h2 := ih (i := i + 1) (fun k h1 h2 => h k (by omega) (by omega))
    unfold sumR
    omega
theorem sumR_cg {f g : Nat → Nat} {m i : Nat} (h : ∀ k, i ≤ k → k < i + m → f k = g k) : sumR f i m = sumR g i m :=
  Nat.le_antisymm (sumR_le fun k h1 h2 => Nat.le_of_eq (h k h1 h2)) (sumR_le fun k h1 h2 => Nat.le_of_eq (h k h1 h2).symm)
theorem sumR_lt {f g : Nat → Nat} : ∀ {m i : Nat} (x : Nat), (∀ k, i ≤ k → k < i + m → f k ≤ g k) → i ≤ x → x < i + m → f x < g x → sumR f i m < sumR g i m := by
  intro m
  induction m with
  | zero => intro i x _ h1 h2; omega
  | succ m ih =>
    intro i x h hx1 hx2 hx
    have h1 := h i (by omega) (by omega)
    have h2 : sumR f (i + 1) m ≤ sumR g (i + 1) m := sumR_le fun k h1 h2 => h k (by omega) (by omega)
    unfold sumR
    by_cases e : x = i
    · rw [e] at hx; omega
    · have := ih (i := i + 1) x (fun k h1 h2 => h k (by omega) (by omega)) (by omega) (by omega) hx
      omega
theorem sumR_ge {f : Nat → Nat} : ∀ {m i : Nat} (x : Nat), i ≤ x → x < i + m → f x ≤ sumR f i m := by
  intro m
  induction m with
  | zero => intro i x h1 h2; omega
  | succ m ih =>
    intro i x h1 h2
    unfold sumR
    by_cases e : x = i
    · rw [e]; omega
    · have := ih (i := i + 1) x (by omega) (by omega)
      omega
theorem sumR_bd {f : Nat → Nat} {b : Nat} : ∀ {m i : Nat}, (∀ k, i ≤ k → k < i + m → f k ≤ b) → sumR f i m ≤ m * b := by
  intro m
  induction m with
  | zero => intro i _; unfold sumR; omega
  | succ m ih =>
    intro i h
    have h1 := h i (by omega) (by omega)
    have h2 := ih (i := i + 1) (fun k h1 h2 => h k (by omega) (by omega))
    unfold sumR
    rw [Nat.succ_mul]
    omega
-- the lodge of plain numbers: 1 taken, 2 proofs, 3 steps, 4 kinds, 5 cited, 6 open, 7 withdrawn, 14 lemmas
def Cp (S : XS) (G : GS) : Prop :=
  S 14 0 = nI (G 14 0) ∧ (∀ a, a < 5 → S 1 a = nI (G 1 a)) ∧ (∀ l, l < 12 → S 2 l = nI (G 2 l)) ∧ (∀ j, j < 36 → S 3 j = nI (G 3 j)) ∧
  ∀ j i, j < 36 → 5 * j ≤ i → i < 5 * j + G 3 j → S 4 i = nI (G 4 i) ∧ S 5 i = nI (G 5 i) ∧ S 6 i = nI (G 6 i) ∧ S 7 i = nI (G 7 i)
def WG (G : GS) : Prop :=
  G 14 0 ≤ 12 ∧ (∀ a, a < 5 → G 1 a ≤ 1) ∧ (∀ l, l < 12 → G 2 l ≤ 3 ∧ (G 14 0 ≤ l → G 2 l = 0)) ∧ (∀ j, j < 36 → G 3 j ≤ 5) ∧
  ∀ j i, j < 36 → 5 * j ≤ i → i < 5 * j + G 3 j → G 4 i ≤ 2 ∧ (G 4 i = 0 → G 5 i < 5) ∧ (G 4 i = 1 → G 5 i < G 14 0) ∧ G 5 i ≤ 12 ∧ G 6 i ≤ 9 ∧ (G 4 i ≠ 2 → G 6 i = 0) ∧ G 7 i ≤ 1
/-- a row of the state holds the numbers of a row -/
def Rw (S : XS) (k n : Nat) (r : Nat → Nat) : Prop := ∀ l, l < n → S k l = nI (r l)
def wh (G : GS) (j : Nat) : Bool := decide (0 < G 3 j) && allR (fun i => G 7 i == 0) (5 * j) (G 3 j)
def dz (G : GS) (r : Nat → Nat) (st : Nat) (i : Nat) : Bool := if G 4 i = 0 then G 1 (G 5 i) == 1 else if G 4 i = 1 then decide (0 < r (G 5 i)) && decide (r (G 5 i) < st) else G 6 i == 0
def hd (G : GS) (r : Nat → Nat) (st : Nat) (j : Nat) : Bool := wh G j && allR (dz G r st) (5 * j) (G 3 j)
def hp (G : GS) (r : Nat → Nat) (st : Nat) (l : Nat) : Bool := anyR (fun p => hd G r st (3 * l + p)) 0 (G 2 l)
end PURE
