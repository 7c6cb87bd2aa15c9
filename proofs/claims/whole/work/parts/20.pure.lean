section PURE
/-! THE PURE PART: the mirrors against a lodge of plain numbers -/
abbrev GS : Type := Nat → Nat → Nat
-- numbers
theorem nlit (n : Nat) : (OfNat.ofNat n : Int32) = nI n := rfl
theorem rdA_n {f : Nat → Int32} {n i : Nat} (h : i < n) (hn : n ≤ 2560) : rdA f n (nI i) = some (f i) := by
  unfold rdA
  rw [if_neg (nI_in h (by omega)), nI_clamp (by omega)]
theorem wrS_n {σ ρ : Type} {n i : Nat} {S' : σ} {K : σ → Option ρ} (h : i < n) (hn : n ≤ 2560) : wrS n (nI i) S' K = K S' := by
  unfold wrS
  rw [if_neg (nI_in h (by omega))]
theorem le_t {ρ : Type} {a b : Nat} {inst : Decidable (nI a ≤ nI b)} {x y : ρ} (h : a ≤ b) (hb : b < 2147483648) : @ite _ (nI a ≤ nI b) inst x y = x := if_pos (nI_le h hb)
theorem le_f {ρ : Type} {a b : Nat} {inst : Decidable (nI a ≤ nI b)} {x y : ρ} (h : b < a) (ha : a < 2147483648) : @ite _ (nI a ≤ nI b) inst x y = y := if_neg (nI_ge h ha)
theorem lt_t {ρ : Type} {a b : Nat} {inst : Decidable (nI a < nI b)} {x y : ρ} (h : a < b) (hb : b < 2147483648) : @ite _ (nI a < nI b) inst x y = x := if_pos (nI_lt h hb)
theorem lt_f {ρ : Type} {a b : Nat} {inst : Decidable (nI a < nI b)} {x y : ρ} (h : b ≤ a) (ha : a < 2147483648) : @ite _ (nI a < nI b) inst x y = y := if_neg (nI_nlt h ha)
theorem eq_t {ρ : Type} {a b : Nat} {inst : Decidable (nI a = nI b)} {x y : ρ} (h : a = b) : @ite _ (nI a = nI b) inst x y = x := if_pos (congrArg nI h)
theorem eq_f {ρ : Type} {a b : Nat} {inst : Decidable (nI a = nI b)} {x y : ρ} (h : a ≠ b) (ha : a < 2147483648) (hb : b < 2147483648) : @ite _ (nI a = nI b) inst x y = y := if_neg (fun e => h ((nI_eq ha hb).mp e))
theorem gz_0 {ρ : Type} {k : Option ρ} : gz (nI 0) k = k := if_pos rfl
theorem gz_1 {ρ : Type} {k : Option ρ} : gz (nI 1) k = k := if_pos rfl
theorem gz_b {ρ : Type} {b : Bool} {k : Option ρ} : gz (nI b.toNat) k = k := by cases b <;> exact if_pos rfl
theorem ob_s {α ρ : Type} {v : α} {K : α → Option ρ} : (some v).bind K = K v := rfl
theorem rb_s {α σ ρ : Type} {v : α} {s : σ} {K : α → σ → Option ρ} : rb (some (v, s)) K = K v s := rfl
theorem tb_s {α ρ : Type} {v : α} {K : α → Option (ρ ⊕ Nat)} : tb (some (.inl v)) K = K v := rfl
theorem tb_x {α ρ : Type} {e : Nat} {K : α → Option (ρ ⊕ Nat)} : tb (some (.inr e) : Option (α ⊕ Nat)) K = some (.inr e) := rfl
theorem st_s {σ ρ : Type} {S' : σ} {K : σ → Option ρ} : stS S' K = K S' := rfl
theorem n_add (a b : Nat) : nI a + nI b = nI (a + b) := nI_add a b
theorem n_mul (a b : Nat) : nI a * nI b = nI (a * b) := pk_mul a b
theorem sU_s {S : XS} {k : Nat} {f : Nat → Int32} : sU S k f k = f := if_pos rfl
theorem sU_n {S : XS} {k j : Nat} {f : Nat → Int32} (h : j ≠ k) : sU S k f j = S j := if_neg h
theorem fuel_gt {m : Nat} (h : m < 300000) : m < FUEL := h
-- loops that count up
theorem itr1_r {ρ : Type} {F : (Int32 → Option ρ) → Int32 → Option ρ} (res : Nat → Nat → Option ρ) (e : Nat) (h0 : ∀ ih, F ih (nI e) = res e 0) (hs : ∀ i m ih, i + m + 1 = e → ih (nI (i + 1)) = res (i + 1) m → F ih (nI i) = res i (m + 1)) : ∀ m i N, i + m = e → m < N → itr1 F N (nI i) = res i m := by
  intro m
  induction m with
  | zero =>
    intro i N hi hN
    match N, hN with
    | N + 1, _ =>
      have : i = e := by omega
      subst this
      exact h0 _
  | succ m ih =>
    intro i N hi hN
    match N, hN with
    | N + 1, hN => exact hs i m _ (by omega) (ih (i + 1) N (by omega) (by omega))
theorem itr2_r {ρ A : Type} {F : (A → Int32 → Option ρ) → A → Int32 → Option ρ} (P : Nat → Nat → A → Option ρ → Prop) (e : Nat) (h0 : ∀ ih a, P e 0 a (F ih a (nI e))) (hs : ∀ i m ih, i + m + 1 = e → (∀ a, P (i + 1) m a (ih a (nI (i + 1)))) → ∀ a, P i (m + 1) a (F ih a (nI i))) : ∀ m i N a, i + m = e → m < N → P i m a (itr2 F N a (nI i)) := by
  intro m
  induction m with
  | zero =>
    intro i N a hi hN
    match N, hN with
    | N + 1, _ =>
      have : i = e := by omega
      subst this
      exact h0 _ a
  | succ m ih =>
    intro i N a hi hN
    match N, hN with
    | N + 1, hN => exact hs i m _ (by omega) (fun a => ih (i + 1) N a (by omega) (by omega)) a
theorem itr3_r {ρ A B : Type} {F : (A → B → Int32 → Option ρ) → A → B → Int32 → Option ρ} (P : Nat → Nat → A → B → Option ρ → Prop) (e : Nat) (h0 : ∀ ih a b, P e 0 a b (F ih a b (nI e))) (hs : ∀ i m ih, i + m + 1 = e → (∀ a b, P (i + 1) m a b (ih a b (nI (i + 1)))) → ∀ a b, P i (m + 1) a b (F ih a b (nI i))) : ∀ m i N a b, i + m = e → m < N → P i m a b (itr3 F N a b (nI i)) := by
  intro m
  induction m with
  | zero =>
    intro i N a b hi hN
    match N, hN with
    | N + 1, _ =>
      have : i = e := by omega
      subst this
      exact h0 _ a b
  | succ m ih =>
    intro i N a b hi hN
    match N, hN with
    | N + 1, hN => exact hs i m _ (by omega) (fun a b => ih (i + 1) N a b (by omega) (by omega)) a b
-- plain walks over a range of numbers
def allR (p : Nat → Bool) : Nat → Nat → Bool
  | _, 0 => true
  | i, m + 1 => p i && allR p (i + 1) m
def anyR (p : Nat → Bool) : Nat → Nat → Bool
  | _, 0 => false
  | i, m + 1 => p i || anyR p (i + 1) m
def sumR (f : Nat → Nat) : Nat → Nat → Nat
  | _, 0 => 0
  | i, m + 1 => f i + sumR f (i + 1) m
-- the lodge of plain numbers: 1 taken, 2 proofs, 3 steps, 4 kinds, 5 cited, 6 open, 7 withdrawn, 14 lemmas
def Cp (S : XS) (G : GS) : Prop :=
  S 14 0 = nI (G 14 0) ∧ (∀ a, a < 5 → S 1 a = nI (G 1 a)) ∧ (∀ l, l < 12 → S 2 l = nI (G 2 l)) ∧ (∀ j, j < 36 → S 3 j = nI (G 3 j)) ∧
  ∀ j i, j < 36 → 5 * j ≤ i → i < 5 * j + G 3 j → S 4 i = nI (G 4 i) ∧ S 5 i = nI (G 5 i) ∧ S 6 i = nI (G 6 i) ∧ S 7 i = nI (G 7 i)
def WG (G : GS) : Prop :=
  G 14 0 ≤ 12 ∧ (∀ a, a < 5 → G 1 a ≤ 1) ∧ (∀ l, l < 12 → G 2 l ≤ 3 ∧ (G 14 0 ≤ l → G 2 l = 0)) ∧ (∀ j, j < 36 → G 3 j ≤ 5) ∧
  ∀ j i, j < 36 → 5 * j ≤ i → i < 5 * j + G 3 j → G 4 i ≤ 2 ∧ (G 4 i = 0 → G 5 i < 5) ∧ (G 4 i = 1 → G 5 i < G 14 0) ∧ G 5 i ≤ 12 ∧ G 6 i ≤ 9 ∧ (G 4 i ≠ 2 → G 6 i = 0) ∧ G 7 i ≤ 1
def wh (G : GS) (j : Nat) : Bool := decide (0 < G 3 j) && allR (fun i => G 7 i == 0) (5 * j) (G 3 j)
def dz (G : GS) (r : Nat → Nat) (st : Nat) (i : Nat) : Bool := if G 4 i = 0 then G 1 (G 5 i) == 1 else if G 4 i = 1 then decide (0 < r (G 5 i)) && decide (r (G 5 i) < st) else G 6 i == 0
def hd (G : GS) (r : Nat → Nat) (st : Nat) (j : Nat) : Bool := wh G j && allR (dz G r st) (5 * j) (G 3 j)
def hp (G : GS) (r : Nat → Nat) (st : Nat) (l : Nat) : Bool := anyR (fun p => hd G r st (3 * l + p)) 0 (G 2 l)
section X1
variable {S : XS} {G : GS}
theorem X_slotOf {l p : Nat} : mX_slotOf (nI l) (nI p) = some (nI (3 * l + p)) := by
  unfold mX_slotOf
  simp only [nlit, n_mul, n_add]
  rw [Nat.mul_comm]
theorem X_first {j : Nat} : mX_firstStepOf (nI j) = some (nI (5 * j)) := by
  unfold mX_firstStepOf
  simp only [nlit, n_mul]
  rw [Nat.mul_comm]
theorem X_stepAt {l p k : Nat} : mX_stepAt (nI l) (nI p) (nI k) = some (nI (5 * (3 * l + p) + k)) := by
  unfold mX_stepAt
  simp only [X_slotOf, ob_s, X_first, n_add]
theorem X_end (C : Cp S G) {j : Nat} (hj : j < 36) : mX_endOfSteps S (nI j) = some (nI (5 * j + G 3 j)) := by
  obtain ⟨-, -, -, c3, -⟩ := C
  unfold mX_endOfSteps
  simp (disch := omega) only [nlit, n_mul, rdA_n, ob_s, c3, n_add]
  rw [Nat.mul_comm]
theorem X_isWhole (C : Cp S G) (W : WG G) {j : Nat} (hj : j < 36) : mX_isWhole S (nI j) = some (nI (wh G j).toNat) := by
  have he := X_end C hj
  obtain ⟨-, -, -, c3, c7⟩ := C
  obtain ⟨-, -, -, w3, w7⟩ := W
  have h3 := w3 j hj
  unfold mX_isWhole
  simp only [X_first, ob_s]
  rw [itr1_r (fun i m => some (nI (decide (0 < G 3 j) && allR (fun i => G 7 i == 0) i m).toNat)) (5 * j + G 3 j) ?_ ?_ (G 3 j) (5 * j) FUEL rfl (fuel_gt (by omega))]
  · rfl
  · intro ih
    unfold mX_isWhole_F5
    by_cases h : 0 < G 3 j
    · simp (disch := omega) only [nlit, he, ob_s, le_t, le_f, rdA_n, c3, gz_1]
      simp [h, allR]
    · simp (disch := omega) only [nlit, he, ob_s, le_t, le_f, rdA_n, c3, gz_0]
      simp [h, allR]
  · intro i m ih hi hih
    obtain ⟨-, -, -, e7⟩ := c7 j i hj
    sorry
end X1
end PURE
