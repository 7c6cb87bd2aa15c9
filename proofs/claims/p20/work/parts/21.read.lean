section READ
variable {S : XS} {G : GS}
theorem X_slotOf {l p : Nat} : mX_slotOf (nI l) (nI p) = some (nI (3 * l + p)) := by
  unfold mX_slotOf
  simp (disch := omega) only [nlit, n_add, n_mul, ob_s, rb_s, tb_s, tb_x, st_s, gz_0, gz_1, gz_b, rdA_n, wrS_n, nI_cl, sU_s, sU_n, le_t, le_f, lt_t, lt_f, eq_t, eq_f, le_tR, le_tL, le_fR, le_fL, lt_tR, lt_tL, lt_fR, lt_fL, eq_tR, eq_tL, eq_fR, eq_fL, ↓m1, eq_m, eq_mR, eq_mm, eq_mmR, tt_i, ff_i]
  rw [Nat.mul_comm]
theorem X_first {j : Nat} : mX_firstStepOf (nI j) = some (nI (5 * j)) := by
  unfold mX_firstStepOf
  simp (disch := omega) only [nlit, n_add, n_mul, ob_s, rb_s, tb_s, tb_x, st_s, gz_0, gz_1, gz_b, rdA_n, wrS_n, nI_cl, sU_s, sU_n, le_t, le_f, lt_t, lt_f, eq_t, eq_f, le_tR, le_tL, le_fR, le_fL, lt_tR, lt_tL, lt_fR, lt_fL, eq_tR, eq_tL, eq_fR, eq_fL, ↓m1, eq_m, eq_mR, eq_mm, eq_mmR, tt_i, ff_i]
  rw [Nat.mul_comm]
theorem X_stepAt {l p k : Nat} : mX_stepAt (nI l) (nI p) (nI k) = some (nI (5 * (3 * l + p) + k)) := by
  unfold mX_stepAt
  simp (disch := omega) only [nlit, n_add, n_mul, ob_s, rb_s, tb_s, tb_x, st_s, gz_0, gz_1, gz_b, rdA_n, wrS_n, nI_cl, sU_s, sU_n, le_t, le_f, lt_t, lt_f, eq_t, eq_f, le_tR, le_tL, le_fR, le_fL, lt_tR, lt_tL, lt_fR, lt_fL, eq_tR, eq_tL, eq_fR, eq_fL, ↓m1, eq_m, eq_mR, eq_mm, eq_mmR, tt_i, ff_i, X_slotOf, X_first]
theorem X_end (C : Cp S G) {j : Nat} (hj : j < 36) : mX_endOfSteps S (nI j) = some (nI (5 * j + G 3 j)) := by
  obtain ⟨-, -, -, c3, -⟩ := C
  unfold mX_endOfSteps
  simp (disch := omega) only [nlit, n_add, n_mul, ob_s, rb_s, tb_s, tb_x, st_s, gz_0, gz_1, gz_b, rdA_n, wrS_n, nI_cl, sU_s, sU_n, le_t, le_f, lt_t, lt_f, eq_t, eq_f, le_tR, le_tL, le_fR, le_fL, lt_tR, lt_tL, lt_fR, lt_fL, eq_tR, eq_tL, eq_fR, eq_fL, ↓m1, eq_m, eq_mR, eq_mm, eq_mmR, tt_i, ff_i, c3]
  rw [Nat.mul_comm]
theorem X_isWhole (C : Cp S G) (W : WG G) {j : Nat} (hj : j < 36) : mX_isWhole S (nI j) = some (nI (wh G j).toNat) := by
  have he := X_end C hj
  obtain ⟨-, -, -, c3, c7⟩ := C
  obtain ⟨-, -, -, w3, w7⟩ := W
  have h3 := w3 j hj
  unfold mX_isWhole
  simp (disch := omega) only [nlit, n_add, n_mul, ob_s, rb_s, tb_s, tb_x, st_s, gz_0, gz_1, gz_b, rdA_n, wrS_n, nI_cl, sU_s, sU_n, le_t, le_f, lt_t, lt_f, eq_t, eq_f, le_tR, le_tL, le_fR, le_fL, lt_tR, lt_tL, lt_fR, lt_fL, eq_tR, eq_tL, eq_fR, eq_fL, ↓m1, eq_m, eq_mR, eq_mm, eq_mmR, tt_i, ff_i, X_first]
  rw [itr1_r (fun i m => some (nI (decide (0 < G 3 j) && allR (fun i => G 7 i == 0) i m).toNat)) (5 * j) (5 * j + G 3 j) ?_ ?_ (G 3 j) (5 * j) FUEL (Nat.le_refl _) rfl (fuel_gt (by omega))]
  · rfl
  · intro ih
    unfold mX_isWhole_F5
    by_cases h : 0 < G 3 j
    · simp (disch := omega) only [nlit, n_add, n_mul, ob_s, rb_s, tb_s, tb_x, st_s, gz_0, gz_1, gz_b, rdA_n, wrS_n, nI_cl, sU_s, sU_n, le_t, le_f, lt_t, lt_f, eq_t, eq_f, le_tR, le_tL, le_fR, le_fL, lt_tR, lt_tL, lt_fR, lt_fL, eq_tR, eq_tL, eq_fR, eq_fL, ↓m1, eq_m, eq_mR, eq_mm, eq_mmR, tt_i, ff_i, he, c3]
      simp [h, allR]
    · simp (disch := omega) only [nlit, n_add, n_mul, ob_s, rb_s, tb_s, tb_x, st_s, gz_0, gz_1, gz_b, rdA_n, wrS_n, nI_cl, sU_s, sU_n, le_t, le_f, lt_t, lt_f, eq_t, eq_f, le_tR, le_tL, le_fR, le_fL, lt_tR, lt_tL, lt_fR, lt_fL, eq_tR, eq_tL, eq_fR, eq_fL, ↓m1, eq_m, eq_mR, eq_mm, eq_mmR, tt_i, ff_i, he, c3]
      simp [h, allR]
  · intro i m ih hi0 hi hih
    obtain ⟨-, -, -, e7⟩ := c7 j i hj hi0 (by omega)
    have w := (w7 j i hj hi0 (by omega)).2.2.2.2.2.2
    unfold mX_isWhole_F5
    simp (disch := omega) only [nlit, n_add, n_mul, ob_s, rb_s, tb_s, tb_x, st_s, gz_0, gz_1, gz_b, rdA_n, wrS_n, nI_cl, sU_s, sU_n, le_t, le_f, lt_t, lt_f, eq_t, eq_f, le_tR, le_tL, le_fR, le_fL, lt_tR, lt_tL, lt_fR, lt_fL, eq_tR, eq_tL, eq_fR, eq_fL, ↓m1, eq_m, eq_mR, eq_mm, eq_mmR, tt_i, ff_i, he, e7, eq_i, eq_iR, eq_iL]
    by_cases h : G 7 i = 0
    · rw [if_pos h, hih]
      simp [h, allR]
    · rw [if_neg h]
      simp [beq_eq_false_iff_ne.mpr h, allR]
theorem X_isAxiom {a : Nat} (h : a < 5) : mX_isAxiom (nI a) = some (nI 1) := by
  unfold mX_isAxiom
  simp (disch := omega) only [nlit, n_add, n_mul, ob_s, rb_s, tb_s, tb_x, st_s, gz_0, gz_1, gz_b, rdA_n, wrS_n, nI_cl, sU_s, sU_n, le_t, le_f, lt_t, lt_f, eq_t, eq_f, le_tR, le_tL, le_fR, le_fL, lt_tR, lt_tL, lt_fR, lt_fL, eq_tR, eq_tL, eq_fR, eq_fL, ↓m1, eq_m, eq_mR, eq_mm, eq_mmR, tt_i, ff_i]
theorem X_isLemma (C : Cp S G) (W : WG G) {l : Nat} (h : l < G 14 0) : mX_isLemma S (nI l) = some (nI 1) := by
  have := W.1
  unfold mX_isLemma
  rw [C.1]
  simp (disch := omega) only [nlit, n_add, n_mul, ob_s, rb_s, tb_s, tb_x, st_s, gz_0, gz_1, gz_b, rdA_n, wrS_n, nI_cl, sU_s, sU_n, le_t, le_f, lt_t, lt_f, eq_t, eq_f, le_tR, le_tL, le_fR, le_fL, lt_tR, lt_tL, lt_fR, lt_fL, eq_tR, eq_tL, eq_fR, eq_fL, ↓m1, eq_m, eq_mR, eq_mm, eq_mmR, tt_i, ff_i]
theorem X_stepHolds (C : Cp S G) (W : WG G) {j i k st : Nat} {r : Nat → Nat} (hj : j < 36) (h1 : 5 * j ≤ i) (h2 : i < 5 * j + G 3 j) (R : Rw S k (G 14 0) r) (hr : ∀ l, l < 12 → r l < 100) (hst : st < 100) : mX_stepHolds S (nI i) k (nI st) = some (nI (dz G r st i).toNat) := by
  have XL := @X_isLemma S G C W
  obtain ⟨-, c1, -, c3, c7⟩ := C
  obtain ⟨w0, w1, -, w3, w7⟩ := W
  have h3 := w3 j hj
  obtain ⟨e4, e5, e6, e7⟩ := c7 j i hj h1 h2
  obtain ⟨f4, f5, f5', f5'', f6, f6', f7⟩ := w7 j i hj h1 h2
  unfold mX_stepHolds dz
  by_cases k0 : G 4 i = 0
  · have hc := f5 k0
    have := w1 _ hc
    simp (disch := omega) only [nlit, n_add, n_mul, ob_s, rb_s, tb_s, tb_x, st_s, gz_0, gz_1, gz_b, rdA_n, wrS_n, nI_cl, sU_s, sU_n, le_t, le_f, lt_t, lt_f, eq_t, eq_f, le_tR, le_tL, le_fR, le_fL, lt_tR, lt_tL, lt_fR, lt_fL, eq_tR, eq_tL, eq_fR, eq_fL, ↓m1, eq_m, eq_mR, eq_mm, eq_mmR, tt_i, ff_i, e4, e5, X_isAxiom, c1, eq_i, eq_iR, eq_iL]
    by_cases q : G 1 (G 5 i) = 0
    · simp [q, k0]
    · simp [show G 1 (G 5 i) = 1 by omega, k0]
  · by_cases k1 : G 4 i = 1
    · have hc := f5' k1
      have := hr (G 5 i) (by omega)
      have hR := R (G 5 i) (by omega)
      simp (disch := omega) only [nlit, n_add, n_mul, ob_s, rb_s, tb_s, tb_x, st_s, gz_0, gz_1, gz_b, rdA_n, wrS_n, nI_cl, sU_s, sU_n, le_t, le_f, lt_t, lt_f, eq_t, eq_f, le_tR, le_tL, le_fR, le_fL, lt_tR, lt_tL, lt_fR, lt_fL, eq_tR, eq_tL, eq_fR, eq_fL, ↓m1, eq_m, eq_mR, eq_mm, eq_mmR, tt_i, ff_i, e4, e5, XL, hR, le_i, le_iR, le_iL]
      rw [if_neg k0, if_pos k1]
      by_cases q : r (G 5 i) ≤ 0
      · rw [if_pos q]; simp [show ¬ 0 < r (G 5 i) by omega]
      · by_cases q2 : st ≤ r (G 5 i)
        · rw [if_neg q, if_pos q2]; simp [show ¬ r (G 5 i) < st by omega]
        · rw [if_neg q, if_neg q2]; simp [show r (G 5 i) < st by omega, show 0 < r (G 5 i) by omega]
    · simp (disch := omega) only [nlit, n_add, n_mul, ob_s, rb_s, tb_s, tb_x, st_s, gz_0, gz_1, gz_b, rdA_n, wrS_n, nI_cl, sU_s, sU_n, le_t, le_f, lt_t, lt_f, eq_t, eq_f, le_tR, le_tL, le_fR, le_fL, lt_tR, lt_tL, lt_fR, lt_fL, eq_tR, eq_tL, eq_fR, eq_fL, ↓m1, eq_m, eq_mR, eq_mm, eq_mmR, tt_i, ff_i, e4, e5, e6, eq_i, eq_iR, eq_iL]
      rw [if_neg k0, if_neg k1]
      by_cases q : G 6 i = 0
      · simp [q]
      · simp [q, beq_eq_false_iff_ne.mpr q]
theorem X_holds (C : Cp S G) (W : WG G) {j k st : Nat} {r : Nat → Nat} (hj : j < 36) (R : Rw S k (G 14 0) r) (hr : ∀ l, l < 12 → r l < 100) (hst : st < 100) : mX_holds S (nI j) k (nI st) = some (nI (hd G r st j).toNat) := by
  have h3 := W.2.2.2.1 j hj
  unfold mX_holds hd
  rw [X_isWhole C W hj]
  simp (disch := omega) only [nlit, n_add, n_mul, ob_s, rb_s, tb_s, tb_x, st_s, gz_0, gz_1, gz_b, rdA_n, wrS_n, nI_cl, sU_s, sU_n, le_t, le_f, lt_t, lt_f, eq_t, eq_f, le_tR, le_tL, le_fR, le_fL, lt_tR, lt_tL, lt_fR, lt_fL, eq_tR, eq_tL, eq_fR, eq_fL, ↓m1, eq_m, eq_mR, eq_mm, eq_mmR, tt_i, ff_i, bz_i, bz_iR, X_first]
  cases wh G j
  · simp
  · rw [if_pos rfl, itr1_r (fun i m => some (nI (allR (dz G r st) i m).toNat)) (5 * j) (5 * j + G 3 j) ?_ ?_ (G 3 j) (5 * j) FUEL (Nat.le_refl _) rfl (fuel_gt (by omega))]
    · simp
    · intro ih
      unfold mX_holds_F16
      rw [X_end C hj]
      simp (disch := omega) only [nlit, n_add, n_mul, ob_s, rb_s, tb_s, tb_x, st_s, gz_0, gz_1, gz_b, rdA_n, wrS_n, nI_cl, sU_s, sU_n, le_t, le_f, lt_t, lt_f, eq_t, eq_f, le_tR, le_tL, le_fR, le_fL, lt_tR, lt_tL, lt_fR, lt_fL, eq_tR, eq_tL, eq_fR, eq_fL, ↓m1, eq_m, eq_mR, eq_mm, eq_mmR, tt_i, ff_i]
      rfl
    · intro i m ih hi0 hi hih
      unfold mX_holds_F16
      rw [X_end C hj]
      simp (disch := omega) only [nlit, n_add, n_mul, ob_s, rb_s, tb_s, tb_x, st_s, gz_0, gz_1, gz_b, rdA_n, wrS_n, nI_cl, sU_s, sU_n, le_t, le_f, lt_t, lt_f, eq_t, eq_f, le_tR, le_tL, le_fR, le_fL, lt_tR, lt_tL, lt_fR, lt_fL, eq_tR, eq_tL, eq_fR, eq_fL, ↓m1, eq_m, eq_mR, eq_mm, eq_mmR, tt_i, ff_i, X_stepHolds C W hj hi0 (by omega) R hr hst, bz_i, bz_iR]
      rw [hih]
      simp only [allR]
      cases dz G r st i <;> simp
theorem X_hasProofAt (C : Cp S G) (W : WG G) {l k st : Nat} {r : Nat → Nat} (hl : l < 12) (R : Rw S k (G 14 0) r) (hr : ∀ l, l < 12 → r l < 100) (hst : st < 100) : mX_hasProofAt S (nI l) k (nI st) = some (nI (hp G r st l).toNat) := by
  have c2 := C.2.2.1
  have w2 := (W.2.2.1 l hl).1
  unfold mX_hasProofAt hp
  rw [show (0 : Int32) = nI 0 from rfl, itr1_r (fun i m => some (nI (anyR (fun p => hd G r st (3 * l + p)) i m).toNat)) 0 (G 2 l) ?_ ?_ (G 2 l) 0 FUEL (Nat.le_refl _) (by omega) (fuel_gt (by omega))]
  · intro ih
    unfold mX_hasProofAt_F3
    simp (disch := omega) only [nlit, n_add, n_mul, ob_s, rb_s, tb_s, tb_x, st_s, gz_0, gz_1, gz_b, rdA_n, wrS_n, nI_cl, sU_s, sU_n, le_t, le_f, lt_t, lt_f, eq_t, eq_f, le_tR, le_tL, le_fR, le_fL, lt_tR, lt_tL, lt_fR, lt_fL, eq_tR, eq_tL, eq_fR, eq_fL, ↓m1, eq_m, eq_mR, eq_mm, eq_mmR, tt_i, ff_i, c2]
    rfl
  · intro i m ih hi0 hi hih
    unfold mX_hasProofAt_F3
    simp (disch := omega) only [nlit, n_add, n_mul, ob_s, rb_s, tb_s, tb_x, st_s, gz_0, gz_1, gz_b, rdA_n, wrS_n, nI_cl, sU_s, sU_n, le_t, le_f, lt_t, lt_f, eq_t, eq_f, le_tR, le_tL, le_fR, le_fL, lt_tR, lt_tL, lt_fR, lt_fL, eq_tR, eq_tL, eq_fR, eq_fL, ↓m1, eq_m, eq_mR, eq_mm, eq_mmR, tt_i, ff_i, c2, X_slotOf, X_holds C W (j := 3 * l + i) (by omega) R hr hst, bz_i, bz_iR]
    rw [hih]
    simp only [anyR]
    cases hd G r st (3 * l + i) <;> simp
end READ
