section GUARD
variable {S T : XS} {G : GS}
theorem cls (v : Int32) : v < 0 ∨ ∃ j, j < 2147483648 ∧ v = nI j := by
  by_cases h : v < 0
  · exact Or.inl h
  · exact Or.inr (nI_of h)
theorem neg_if {ρ : Type} {v : Int32} {x y : ρ} (h : v < 0) : (if v < 0 then x else y) = x := if_pos h
theorem isIn_neg {v b : Int32} (h : v < 0) : mM_isIn v (nI 0) b = some (nI 0) := by
  unfold mM_isIn
  rw [if_pos (show v < nI 0 from h)]
  exact gz_0
theorem isIn_n {j a b : Nat} (hj : j < 2147483648) (ha : a < 100) (hb : b < 100) : mM_isIn (nI j) (nI a) (nI b) = some (nI (if a ≤ j ∧ j ≤ b then 1 else 0)) := by
  unfold mM_isIn
  simp (disch := omega) only [nlit, n_add, n_mul, ob_s, rb_s, tb_s, tb_x, st_s, gz_0, gz_1, gz_b, rdA_n, wrS_n, nI_cl, sU_s, sU_n, le_t, le_f, lt_t, lt_f, eq_t, eq_f, le_tR, le_tL, le_fR, le_fL, lt_tR, lt_tL, lt_fR, lt_fL, eq_tR, eq_tL, eq_fR, eq_fL, ↓m1, eq_m, eq_mR, eq_mm, eq_mmR, tt_i, ff_i, lt_i, lt_iR, lt_iL]
  by_cases h1 : j < a
  · rw [if_pos h1, if_neg (by omega)]
  · rw [if_neg h1]
    by_cases h2 : b < j
    · rw [if_pos h2, if_neg (by omega)]
    · rw [if_neg h2, if_pos (by omega)]
theorem neg_lt {v : Int32} {a : Nat} (h : v < 0) (ha : a < 100) : v < nI a := by
  rw [Int32.lt_iff_toInt_lt] at h ⊢
  rw [nI_toInt (show a < 2 ^ 31 by omega)]
  have : (0 : Int32).toInt = 0 := by decide
  omega
theorem isIn_negA {v b : Int32} {a : Nat} (h : v < 0) (ha : a < 100) : mM_isIn v (nI a) b = some (nI 0) := by
  unfold mM_isIn
  rw [if_pos (neg_lt h ha)]
  exact gz_0
theorem m1_lt {j : Nat} (hj : j < 2147483648) : nI 0 - nI 1 < nI j := by
  rw [Int32.lt_iff_toInt_lt, nI_toInt (show j < 2 ^ 31 by omega)]
  have : (nI 0 - nI 1).toInt = -1 := by decide
  omega
theorem isIn_c {j c : Nat} (hj : j < 2147483648) (hc : c < 100) : mM_isIn (nI j) (nI 0) (nI c - nI 1) = some (nI (if j < c then 1 else 0)) := by
  by_cases h : c = 0
  · subst h
    unfold mM_isIn
    rw [lt_f (by omega) hj, if_pos (m1_lt hj), if_neg (by omega)]
    exact gz_0
  · rw [pk_sub (by omega), isIn_n hj (by omega) (by omega)]
    by_cases q : j < c
    · rw [if_pos q, if_pos (by omega)]
    · rw [if_neg q, if_neg (by omega)]
theorem M_isAxiom_in {a : Nat} (h : a < 5) : mM_isAxiom (nI a) = some (nI 1) := by
  unfold mM_isAxiom
  rw [show (0 : Int32) = nI 0 from rfl, show (4 : Int32) = nI 4 from rfl, isIn_n (by omega) (by omega) (by omega), ob_s, if_pos (by omega)]
  exact gz_1
theorem X_reqA_in {a : Nat} (h : a < 5) : mX_requireAxiom (nI a) = some (.inl 0) := by
  unfold mX_requireAxiom
  rw [X_isAxiom h, ob_s]
  exact if_neg (by decide)
theorem G_ax (v : Int32) : (∃ a, a < 5 ∧ v = nI a) ∨ (mX_requireAxiom v = some (.inr 1) ∧ mM_isAxiom v = some (nI 0)) := by
  rcases cls v with h | ⟨j, hj, rfl⟩
  · right
    constructor
    · unfold mX_requireAxiom mX_isAxiom
      rw [if_pos h, show (0 : Int32) = nI 0 from rfl, gz_0, ob_s, if_pos rfl]
    · unfold mM_isAxiom
      rw [show (0 : Int32) = nI 0 from rfl, isIn_neg h, ob_s, gz_0]
  · by_cases q : j < 5
    · exact Or.inl ⟨j, q, rfl⟩
    · right
      constructor
      · unfold mX_requireAxiom mX_isAxiom
        simp (disch := omega) only [nlit, n_add, n_mul, ob_s, rb_s, tb_s, tb_x, st_s, gz_0, gz_1, gz_b, rdA_n, wrS_n, nI_cl, sU_s, sU_n, le_t, le_f, lt_t, lt_f, eq_t, eq_f, le_tR, le_tL, le_fR, le_fL, lt_tR, lt_tL, lt_fR, lt_fL, eq_tR, eq_tL, eq_fR, eq_fL, ↓m1, eq_m, eq_mR, eq_mm, eq_mmR, tt_i, ff_i]
      · unfold mM_isAxiom
        rw [show (0 : Int32) = nI 0 from rfl, show (4 : Int32) = nI 4 from rfl, isIn_n hj (by omega) (by omega), ob_s, if_neg (by omega), gz_0]
theorem M_isLemma_n (C : Cp T G) (W : WG G) {j : Nat} (hj : j < 2147483648) : mM_isLemma T (nI j) = some (nI (if j < G 14 0 then 1 else 0)) := by
  have w0 := W.1
  unfold mM_isLemma
  rw [C.1, show (0 : Int32) = nI 0 from rfl, show (1 : Int32) = nI 1 from rfl, isIn_c hj (by omega), ob_s]
  by_cases q : j < G 14 0
  · rw [if_pos q]; exact gz_1
  · rw [if_neg q]; exact gz_0
theorem M_isLemma_in (C : Cp T G) (W : WG G) {l : Nat} (hl : l < G 14 0) : mM_isLemma T (nI l) = some (nI 1) := by
  have w0 := W.1
  rw [M_isLemma_n C W (by omega), if_pos hl]
theorem X_reqL_in (C : Cp S G) (W : WG G) {l : Nat} (hl : l < G 14 0) : mX_requireLemma S (nI l) = some (.inl 0) := by
  unfold mX_requireLemma
  rw [X_isLemma C W hl, ob_s]
  exact if_neg (by decide)
theorem G_lemma (C : Cp S G) (C' : Cp T G) (W : WG G) (v : Int32) : (∃ l, l < G 14 0 ∧ v = nI l) ∨ (mX_requireLemma S v = some (.inr 1) ∧ mM_isLemma T v = some (nI 0)) := by
  have w0 := W.1
  rcases cls v with h | ⟨j, hj, rfl⟩
  · right
    constructor
    · unfold mX_requireLemma mX_isLemma
      rw [if_pos h, show (0 : Int32) = nI 0 from rfl, gz_0, ob_s, if_pos rfl]
    · unfold mM_isLemma
      rw [show (0 : Int32) = nI 0 from rfl, isIn_neg h, ob_s, gz_0]
  · by_cases q : j < G 14 0
    · exact Or.inl ⟨j, q, rfl⟩
    · right
      constructor
      · unfold mX_requireLemma mX_isLemma
        rw [C.1]
        simp (disch := omega) only [nlit, n_add, n_mul, ob_s, rb_s, tb_s, tb_x, st_s, gz_0, gz_1, gz_b, rdA_n, wrS_n, nI_cl, sU_s, sU_n, le_t, le_f, lt_t, lt_f, eq_t, eq_f, le_tR, le_tL, le_fR, le_fL, lt_tR, lt_tL, lt_fR, lt_fL, eq_tR, eq_tL, eq_fR, eq_fL, ↓m1, eq_m, eq_mR, eq_mm, eq_mmR, tt_i, ff_i]
      · rw [M_isLemma_n C' W hj, if_neg q]
theorem X_reqP_in (C : Cp S G) (W : WG G) {l p : Nat} (hl : l < G 14 0) (hp : p < G 2 l) : mX_requireProof S (nI l) (nI p) = some (.inl 0) := by
  have w0 := W.1
  have c2 := C.2.2.1
  have w2 := (W.2.2.1 l (by omega)).1
  unfold mX_requireProof
  rw [X_reqL_in C W hl, tb_s]
  simp (disch := omega) only [nlit, n_add, n_mul, ob_s, rb_s, tb_s, tb_x, st_s, gz_0, gz_1, gz_b, rdA_n, wrS_n, nI_cl, sU_s, sU_n, le_t, le_f, lt_t, lt_f, eq_t, eq_f, le_tR, le_tL, le_fR, le_fL, lt_tR, lt_tL, lt_fR, lt_fL, eq_tR, eq_tL, eq_fR, eq_fL, ↓m1, eq_m, eq_mR, eq_mm, eq_mmR, tt_i, ff_i, c2] <;> rfl
theorem M_isProof_in (C : Cp T G) (W : WG G) {l p : Nat} (hl : l < G 14 0) (hp : p < G 2 l) : mM_isProof T (nI l) (nI p) = some (nI 1) := by
  have w0 := W.1
  have c2 := C.2.2.1
  have w2 := (W.2.2.1 l (by omega)).1
  unfold mM_isProof
  rw [M_isLemma_in C W hl]
  simp (disch := omega) only [nlit, n_add, n_mul, ob_s, rb_s, tb_s, tb_x, st_s, gz_0, gz_1, gz_b, rdA_n, wrS_n, nI_cl, sU_s, sU_n, le_t, le_f, lt_t, lt_f, eq_t, eq_f, le_tR, le_tL, le_fR, le_fL, lt_tR, lt_tL, lt_fR, lt_fL, eq_tR, eq_tL, eq_fR, eq_fL, ↓m1, eq_m, eq_mR, eq_mm, eq_mmR, tt_i, ff_i, c2]
  rw [isIn_c (by omega) (by omega), if_pos hp]
  simp (disch := omega) only [nlit, n_add, n_mul, ob_s, rb_s, tb_s, tb_x, st_s, gz_0, gz_1, gz_b, rdA_n, wrS_n, nI_cl, sU_s, sU_n, le_t, le_f, lt_t, lt_f, eq_t, eq_f, le_tR, le_tL, le_fR, le_fL, lt_tR, lt_tL, lt_fR, lt_fL, eq_tR, eq_tL, eq_fR, eq_fL, ↓m1, eq_m, eq_mR, eq_mm, eq_mmR, tt_i, ff_i]
theorem G_proof (C : Cp S G) (C' : Cp T G) (W : WG G) (v1 v2 : Int32) : (∃ l p, l < G 14 0 ∧ p < G 2 l ∧ v1 = nI l ∧ v2 = nI p) ∨ (mX_requireProof S v1 v2 = some (.inr 1) ∧ mM_isProof T v1 v2 = some (nI 0)) := by
  have w0 := W.1
  rcases G_lemma C C' W v1 with ⟨l, hl, rfl⟩ | ⟨h1, h2⟩
  · have c2 := C.2.2.1
    have c2' := C'.2.2.1
    have w2 := (W.2.2.1 l (by omega)).1
    rcases cls v2 with h | ⟨j, hj, rfl⟩
    · right
      constructor
      · unfold mX_requireProof
        rw [X_reqL_in C W hl, tb_s, if_pos h]
      · unfold mM_isProof
        rw [M_isLemma_in C' W hl]
        simp (disch := omega) only [nlit, n_add, n_mul, ob_s, rb_s, tb_s, tb_x, st_s, gz_0, gz_1, gz_b, rdA_n, wrS_n, nI_cl, sU_s, sU_n, le_t, le_f, lt_t, lt_f, eq_t, eq_f, le_tR, le_tL, le_fR, le_fL, lt_tR, lt_tL, lt_fR, lt_fL, eq_tR, eq_tL, eq_fR, eq_fL, ↓m1, eq_m, eq_mR, eq_mm, eq_mmR, tt_i, ff_i, c2', isIn_neg h]
    · by_cases q : j < G 2 l
      · exact Or.inl ⟨l, j, hl, q, rfl, rfl⟩
      · right
        constructor
        · unfold mX_requireProof
          rw [X_reqL_in C W hl, tb_s]
          simp (disch := omega) only [nlit, n_add, n_mul, ob_s, rb_s, tb_s, tb_x, st_s, gz_0, gz_1, gz_b, rdA_n, wrS_n, nI_cl, sU_s, sU_n, le_t, le_f, lt_t, lt_f, eq_t, eq_f, le_tR, le_tL, le_fR, le_fL, lt_tR, lt_tL, lt_fR, lt_fL, eq_tR, eq_tL, eq_fR, eq_fL, ↓m1, eq_m, eq_mR, eq_mm, eq_mmR, tt_i, ff_i, c2]
        · unfold mM_isProof
          rw [M_isLemma_in C' W hl]
          simp (disch := omega) only [nlit, n_add, n_mul, ob_s, rb_s, tb_s, tb_x, st_s, gz_0, gz_1, gz_b, rdA_n, wrS_n, nI_cl, sU_s, sU_n, le_t, le_f, lt_t, lt_f, eq_t, eq_f, le_tR, le_tL, le_fR, le_fL, lt_tR, lt_tL, lt_fR, lt_fL, eq_tR, eq_tL, eq_fR, eq_fL, ↓m1, eq_m, eq_mR, eq_mm, eq_mmR, tt_i, ff_i, c2']
          rw [isIn_c hj (by omega), if_neg q]
          simp (disch := omega) only [nlit, n_add, n_mul, ob_s, rb_s, tb_s, tb_x, st_s, gz_0, gz_1, gz_b, rdA_n, wrS_n, nI_cl, sU_s, sU_n, le_t, le_f, lt_t, lt_f, eq_t, eq_f, le_tR, le_tL, le_fR, le_fL, lt_tR, lt_tL, lt_fR, lt_fL, eq_tR, eq_tL, eq_fR, eq_fL, ↓m1, eq_m, eq_mR, eq_mm, eq_mmR, tt_i, ff_i]
  · right
    constructor
    · unfold mX_requireProof
      rw [h1, tb_x]
    · unfold mM_isProof
      rw [h2]
      simp (disch := omega) only [nlit, n_add, n_mul, ob_s, rb_s, tb_s, tb_x, st_s, gz_0, gz_1, gz_b, rdA_n, wrS_n, nI_cl, sU_s, sU_n, le_t, le_f, lt_t, lt_f, eq_t, eq_f, le_tR, le_tL, le_fR, le_fL, lt_tR, lt_tL, lt_fR, lt_fL, eq_tR, eq_tL, eq_fR, eq_fL, ↓m1, eq_m, eq_mR, eq_mm, eq_mmR, tt_i, ff_i]
theorem X_reqS_in (C : Cp S G) (W : WG G) {l p k : Nat} (hl : l < G 14 0) (hp : p < G 2 l) (hk : k < G 3 (3 * l + p)) : mX_requireStep S (nI l) (nI p) (nI k) = some (.inl 0) := by
  have w0 := W.1
  have c3 := C.2.2.2.1
  have w2 := (W.2.2.1 l (by omega)).1
  have w3 := W.2.2.2.1 (3 * l + p) (by omega)
  unfold mX_requireStep
  rw [X_reqP_in C W hl hp, tb_s]
  simp (disch := omega) only [nlit, n_add, n_mul, ob_s, rb_s, tb_s, tb_x, st_s, gz_0, gz_1, gz_b, rdA_n, wrS_n, nI_cl, sU_s, sU_n, le_t, le_f, lt_t, lt_f, eq_t, eq_f, le_tR, le_tL, le_fR, le_fL, lt_tR, lt_tL, lt_fR, lt_fL, eq_tR, eq_tL, eq_fR, eq_fL, ↓m1, eq_m, eq_mR, eq_mm, eq_mmR, tt_i, ff_i, X_slotOf, c3] <;> rfl
theorem M_isStep_in (C : Cp T G) (W : WG G) {l p k : Nat} (hl : l < G 14 0) (hp : p < G 2 l) (hk : k < G 3 (3 * l + p)) : mM_isStep T (nI l) (nI p) (nI k) = some (nI 1) := by
  have w0 := W.1
  have c3 := C.2.2.2.1
  have w2 := (W.2.2.1 l (by omega)).1
  have w3 := W.2.2.2.1 (3 * l + p) (by omega)
  unfold mM_isStep
  rw [M_isProof_in C W hl hp]
  simp (disch := omega) only [nlit, n_add, n_mul, ob_s, rb_s, tb_s, tb_x, st_s, gz_0, gz_1, gz_b, rdA_n, wrS_n, nI_cl, sU_s, sU_n, le_t, le_f, lt_t, lt_f, eq_t, eq_f, le_tR, le_tL, le_fR, le_fL, lt_tR, lt_tL, lt_fR, lt_fL, eq_tR, eq_tL, eq_fR, eq_fL, ↓m1, eq_m, eq_mR, eq_mm, eq_mmR, tt_i, ff_i, c3]
  rw [isIn_c (by omega) (by omega), if_pos hk]
  simp (disch := omega) only [nlit, n_add, n_mul, ob_s, rb_s, tb_s, tb_x, st_s, gz_0, gz_1, gz_b, rdA_n, wrS_n, nI_cl, sU_s, sU_n, le_t, le_f, lt_t, lt_f, eq_t, eq_f, le_tR, le_tL, le_fR, le_fL, lt_tR, lt_tL, lt_fR, lt_fL, eq_tR, eq_tL, eq_fR, eq_fL, ↓m1, eq_m, eq_mR, eq_mm, eq_mmR, tt_i, ff_i]
theorem G_step (C : Cp S G) (C' : Cp T G) (W : WG G) (v1 v2 v3 : Int32) : (∃ l p k, l < G 14 0 ∧ p < G 2 l ∧ k < G 3 (3 * l + p) ∧ v1 = nI l ∧ v2 = nI p ∧ v3 = nI k) ∨ (mX_requireStep S v1 v2 v3 = some (.inr 1) ∧ mM_isStep T v1 v2 v3 = some (nI 0)) := by
  have w0 := W.1
  rcases G_proof C C' W v1 v2 with ⟨l, p, hl, hp, rfl, rfl⟩ | ⟨h1, h2⟩
  · have c3 := C.2.2.2.1
    have c3' := C'.2.2.2.1
    have w2 := (W.2.2.1 l (by omega)).1
    have w3 := W.2.2.2.1 (3 * l + p) (by omega)
    rcases cls v3 with h | ⟨j, hj, rfl⟩
    · right
      constructor
      · unfold mX_requireStep
        rw [X_reqP_in C W hl hp, tb_s, if_pos h]
      · unfold mM_isStep
        rw [M_isProof_in C' W hl hp]
        simp (disch := omega) only [nlit, n_add, n_mul, ob_s, rb_s, tb_s, tb_x, st_s, gz_0, gz_1, gz_b, rdA_n, wrS_n, nI_cl, sU_s, sU_n, le_t, le_f, lt_t, lt_f, eq_t, eq_f, le_tR, le_tL, le_fR, le_fL, lt_tR, lt_tL, lt_fR, lt_fL, eq_tR, eq_tL, eq_fR, eq_fL, ↓m1, eq_m, eq_mR, eq_mm, eq_mmR, tt_i, ff_i, c3', isIn_neg h]
    · by_cases q : j < G 3 (3 * l + p)
      · exact Or.inl ⟨l, p, j, hl, hp, q, rfl, rfl, rfl⟩
      · right
        constructor
        · unfold mX_requireStep
          rw [X_reqP_in C W hl hp, tb_s]
          simp (disch := omega) only [nlit, n_add, n_mul, ob_s, rb_s, tb_s, tb_x, st_s, gz_0, gz_1, gz_b, rdA_n, wrS_n, nI_cl, sU_s, sU_n, le_t, le_f, lt_t, lt_f, eq_t, eq_f, le_tR, le_tL, le_fR, le_fL, lt_tR, lt_tL, lt_fR, lt_fL, eq_tR, eq_tL, eq_fR, eq_fL, ↓m1, eq_m, eq_mR, eq_mm, eq_mmR, tt_i, ff_i, X_slotOf, c3]
        · unfold mM_isStep
          rw [M_isProof_in C' W hl hp]
          simp (disch := omega) only [nlit, n_add, n_mul, ob_s, rb_s, tb_s, tb_x, st_s, gz_0, gz_1, gz_b, rdA_n, wrS_n, nI_cl, sU_s, sU_n, le_t, le_f, lt_t, lt_f, eq_t, eq_f, le_tR, le_tL, le_fR, le_fL, lt_tR, lt_tL, lt_fR, lt_fL, eq_tR, eq_tL, eq_fR, eq_fL, ↓m1, eq_m, eq_mR, eq_mm, eq_mmR, tt_i, ff_i, c3']
          rw [isIn_c hj (by omega), if_neg q]
          simp (disch := omega) only [nlit, n_add, n_mul, ob_s, rb_s, tb_s, tb_x, st_s, gz_0, gz_1, gz_b, rdA_n, wrS_n, nI_cl, sU_s, sU_n, le_t, le_f, lt_t, lt_f, eq_t, eq_f, le_tR, le_tL, le_fR, le_fL, lt_tR, lt_tL, lt_fR, lt_fL, eq_tR, eq_tL, eq_fR, eq_fL, ↓m1, eq_m, eq_mR, eq_mm, eq_mmR, tt_i, ff_i]
  · right
    constructor
    · unfold mX_requireStep
      rw [h1, tb_x]
    · unfold mM_isStep
      rw [h2]
      simp (disch := omega) only [nlit, n_add, n_mul, ob_s, rb_s, tb_s, tb_x, st_s, gz_0, gz_1, gz_b, rdA_n, wrS_n, nI_cl, sU_s, sU_n, le_t, le_f, lt_t, lt_f, eq_t, eq_f, le_tR, le_tL, le_fR, le_fL, lt_tR, lt_tL, lt_fR, lt_fL, eq_tR, eq_tL, eq_fR, eq_fL, ↓m1, eq_m, eq_mR, eq_mm, eq_mmR, tt_i, ff_i]
theorem X_ask_in {j N : Nat} (h : j < N) (hN : N < 100) : mX_requireAsk (nI j) (nI N) = some (.inl 0) := by
  unfold mX_requireAsk
  simp (disch := omega) only [nlit, n_add, n_mul, ob_s, rb_s, tb_s, tb_x, st_s, gz_0, gz_1, gz_b, rdA_n, wrS_n, nI_cl, sU_s, sU_n, le_t, le_f, lt_t, lt_f, eq_t, eq_f, le_tR, le_tL, le_fR, le_fL, lt_tR, lt_tL, lt_fR, lt_fL, eq_tR, eq_tL, eq_fR, eq_fL, ↓m1, eq_m, eq_mR, eq_mm, eq_mmR, tt_i, ff_i] <;> rfl
theorem G_ask (v : Int32) (N : Nat) (hN : 0 < N ∧ N < 100) : (∃ j, j < N ∧ v = nI j) ∨ (mX_requireAsk v (nI N) = some (.inr 1) ∧ mM_isIn v (nI 0) (nI (N - 1)) = some (nI 0)) := by
  rcases cls v with h | ⟨j, hj, rfl⟩
  · right
    refine ⟨?_, isIn_neg h⟩
    unfold mX_requireAsk
    rw [if_pos h]
  · by_cases q : j < N
    · exact Or.inl ⟨j, q, rfl⟩
    · right
      constructor
      · unfold mX_requireAsk
        simp (disch := omega) only [nlit, n_add, n_mul, ob_s, rb_s, tb_s, tb_x, st_s, gz_0, gz_1, gz_b, rdA_n, wrS_n, nI_cl, sU_s, sU_n, le_t, le_f, lt_t, lt_f, eq_t, eq_f, le_tR, le_tL, le_fR, le_fL, lt_tR, lt_tL, lt_fR, lt_fL, eq_tR, eq_tL, eq_fR, eq_fL, ↓m1, eq_m, eq_mR, eq_mm, eq_mmR, tt_i, ff_i]
      · rw [isIn_n hj (by omega) (by omega), if_neg (by omega)]
def Z (T : XS) : Prop := ∀ i, i < 180 → T 7 i = 0 ∨ T 7 i = 1
def Out (cd : Nat → Option Int32) (S T : XS) (x : Option ((Int32 × XS) ⊕ Nat)) (y : Option (Int32 × XS)) : Prop :=
  (∃ G' v S' T', x = some (.inl (v, S')) ∧ y = some (v, T') ∧ SI S' G' ∧ Cp T' G' ∧ WG G' ∧ T' 15 0 = nI 0 ∧ (Z T → Z T')) ∨
  (∃ G' e k w T', x = some (.inr e) ∧ cd e = some (nI k) ∧ k ≠ 0 ∧ k < 10 ∧ y = some (w, T') ∧ SI S G' ∧ Cp T' G' ∧ WG G' ∧ T' 15 0 = nI k ∧ (Z T → Z T'))
theorem Fl.fz {T T' : XS} {k : Nat} (h : Fl T T' k) : T' 15 0 = nI k ∧ (Z T → Z T') := ⟨h.2, fun z i hi => by rw [h.1 7 (by omega)]; exact z i hi⟩
theorem M_no {k : Int32} : mM_no T k = some (nI 0, sU T 15 (fun _ => k)) := rfl
theorem Out.bad {cd : Nat → Option Int32} {x : Option ((Int32 × XS) ⊕ Nat)} {y : Option (Int32 × XS)} {e k : Nat} {w : Int32} {T' : XS} (I : SI S G) (C : Cp T G) (W : WG G) (hx : x = some (.inr e)) (hc : cd e = some (nI k)) (hk : k ≠ 0) (hk2 : k < 10) (hy : y = some (w, T')) (hF : Fl T T' k) : Out cd S T x y := Or.inr ⟨G, e, k, w, T', hx, hc, hk, hk2, hy, I, hF.cp C, W, hF.fz⟩
theorem Fl.tr {T T' T'' : XS} {k k' : Nat} (h : Fl T T' k) (h' : Fl T' T'' k') : Fl T T'' k' := ⟨fun j hj => (h'.1 j hj).trans (h.1 j hj), h'.2⟩
theorem Fl2 {T : XS} {k k' : Nat} : Fl T (sU (sU T 15 (fun _ => nI k)) 15 (fun _ => nI k')) k' := Fl.set.tr Fl.set
theorem o_told (I : SI S G) (C : Cp T G) (W : WG G) (v1 v2 : Int32) : Out cd_told S T (upR S (mX_told S v1 v2)) (mM_told_ T v1 v2) := by
  have F0 : Fl T (sU T 15 (fun _ => nI 0)) 0 := Fl.set
  have C0 := F0.cp C
  unfold mX_told mM_told_
  rw [show (0 : Int32) = nI 0 from rfl, show (1 : Int32) = nI 1 from rfl, show (6 : Int32) = nI (7 - 1) from rfl, show (7 : Int32) = nI 7 from rfl, st_s]
  rcases G_lemma I.1 C0 W v1 with ⟨l, hl, rfl⟩ | ⟨h1, h2⟩
  · rw [X_reqL_in I.1 W hl, tb_s, M_isLemma_in C0 W hl, ob_s, if_neg (by decide)]
    rcases G_ask v2 7 (by omega) with ⟨q, hq, rfl⟩ | ⟨h1, h2⟩
    · obtain ⟨T', k1, k2⟩ := M_tells C0 W (l := l) (q := q) hl hq
      rw [X_ask_in hq (by omega), tb_s, X_tells I W hl hq, ob_s, isIn_n (by omega) (by omega) (by omega), ob_s, if_pos (show 0 ≤ q ∧ q ≤ 7 - 1 by omega), if_neg (by decide), k2, rb_s]
      exact Or.inl ⟨G, _, S, T', rfl, rfl, I, k1.cp C0, W, (F0.mo k1).fz⟩
    · rw [h1, tb_x, h2, ob_s, if_pos rfl, M_no, rb_s]
      exact Out.bad I C W rfl rfl (k := 1) (by omega) (by omega) rfl Fl2
  · rw [h1, tb_x, h2, ob_s, if_pos rfl, M_no, rb_s]
    exact Out.bad I C W rfl rfl (k := 1) (by omega) (by omega) rfl Fl2
end GUARD
