section READS
variable {S : XS} {G : GS}
def cir (G : GS) (l : Nat) : Nat := if lst G l l (G 14 0) = 0 then 0 else 1
def cv (G : GS) (q : Nat) : Nat := if q = 0 then G 14 0 else if q = 1 then cnt G mone else if q = 2 then sumR (G 1) 0 5 else if q = 3 then sumR (G 2) 0 (G 14 0) else if q = 4 then sumR (stp G) 0 (G 14 0) else if q = 5 then sumR (opn G) 0 (G 14 0) else sumR (cir G) 0 (G 14 0)
theorem X_over (C : Cp S G) (W : WG G) {q : Int32} {f : Nat → Nat} (hf : ∀ l, l < G 14 0 → mX_lemmaTells S (nI l) q = some (nI (f l))) : mX_overLemmas S q = some (nI (sumR f 0 (G 14 0))) := by
  have w0 := W.1
  unfold mX_overLemmas
  rw [show (0 : Int32) = nI 0 from rfl, itr2_n (fun p m a => some (nI (a + sumR f p m))) 0 (G 14 0) ?_ ?_ (G 14 0) 0 FUEL 0 (by omega) (by omega) (fuel_gt (by omega)), Nat.zero_add]
  · intro ih a
    unfold mX_overLemmas_F4
    rw [C.1]
    simp (disch := omega) only [nlit, n_add, n_mul, ob_s, rb_s, tb_s, tb_x, st_s, gz_0, gz_1, gz_b, rdA_n, wrS_n, nI_cl, sU_s, sU_n, le_t, le_f, lt_t, lt_f, eq_t, eq_f, le_tR, le_tL, le_fR, le_fL, lt_tR, lt_tL, lt_fR, lt_fL, eq_tR, eq_tL, eq_fR, eq_fL, ↓m1, eq_m, eq_mR, eq_mm, eq_mmR, tt_i, ff_i]
    rfl
  · intro p m ih _ hp hih a
    unfold mX_overLemmas_F4
    rw [C.1]
    simp (disch := omega) only [nlit, n_add, n_mul, ob_s, rb_s, tb_s, tb_x, st_s, gz_0, gz_1, gz_b, rdA_n, wrS_n, nI_cl, sU_s, sU_n, le_t, le_f, lt_t, lt_f, eq_t, eq_f, le_tR, le_tL, le_fR, le_fL, lt_tR, lt_tL, lt_fR, lt_fL, eq_tR, eq_tL, eq_fR, eq_fL, ↓m1, eq_m, eq_mR, eq_mm, eq_mmR, tt_i, ff_i, hf p (by omega)]
    rw [hih, Nat.add_assoc]
    rfl
theorem X_taken (C : Cp S G) (W : WG G) : mX_axiomsTaken S = some (nI (sumR (G 1) 0 5)) := by
  have c1 := C.2.1
  unfold mX_axiomsTaken
  rw [show (0 : Int32) = nI 0 from rfl, itr2_n (fun p m a => some (nI (a + sumR (G 1) p m))) 0 5 ?_ ?_ 5 0 FUEL 0 (by omega) (by omega) (fuel_gt (by omega)), Nat.zero_add]
  · intro ih a
    unfold mX_axiomsTaken_F4
    simp (disch := omega) only [nlit, n_add, n_mul, ob_s, rb_s, tb_s, tb_x, st_s, gz_0, gz_1, gz_b, rdA_n, wrS_n, nI_cl, sU_s, sU_n, le_t, le_f, lt_t, lt_f, eq_t, eq_f, le_tR, le_tL, le_fR, le_fL, lt_tR, lt_tL, lt_fR, lt_fL, eq_tR, eq_tL, eq_fR, eq_fL, ↓m1, eq_m, eq_mR, eq_mm, eq_mmR, tt_i, ff_i]
    rfl
  · intro p m ih _ hp hih a
    have w1 := W.2.1 p (by omega)
    have e : some (nI (a + sumR (G 1) p (m + 1))) = some (nI (a + G 1 p + sumR (G 1) (p + 1) m)) := by rw [Nat.add_assoc]; rfl
    unfold mX_axiomsTaken_F4
    rw [e]
    simp (disch := omega) only [nlit, n_add, n_mul, ob_s, rb_s, tb_s, tb_x, st_s, gz_0, gz_1, gz_b, rdA_n, wrS_n, nI_cl, sU_s, sU_n, le_t, le_f, lt_t, lt_f, eq_t, eq_f, le_tR, le_tL, le_fR, le_fL, lt_tR, lt_tL, lt_fR, lt_fL, eq_tR, eq_tL, eq_fR, eq_fL, ↓m1, eq_m, eq_mR, eq_mm, eq_mmR, tt_i, ff_i, c1, eq_i, eq_iR, eq_iL]
    by_cases q : G 1 p = 0
    · rw [if_pos q, hih, q]; rfl
    · rw [if_neg q, hih, show G 1 p = 1 by omega]
theorem X_inCircles (I : SI S G) (W : WG G) : mX_lemmasInCircles S = some (nI (sumR (cir G) 0 (G 14 0))) := by
  obtain ⟨C, h8, h9, h10, h12, h15⟩ := I
  have w0 := W.1
  unfold mX_lemmasInCircles
  rw [show (0 : Int32) = nI 0 from rfl, itr2_n (fun p m a => some (nI (a + sumR (cir G) p m))) 0 (G 14 0) ?_ ?_ (G 14 0) 0 FUEL 0 (by omega) (by omega) (fuel_gt (by omega)), Nat.zero_add]
  · intro ih a
    unfold mX_lemmasInCircles_F4
    rw [C.1]
    simp (disch := omega) only [nlit, n_add, n_mul, ob_s, rb_s, tb_s, tb_x, st_s, gz_0, gz_1, gz_b, rdA_n, wrS_n, nI_cl, sU_s, sU_n, le_t, le_f, lt_t, lt_f, eq_t, eq_f, le_tR, le_tL, le_fR, le_fL, lt_tR, lt_tL, lt_fR, lt_fL, eq_tR, eq_tL, eq_fR, eq_fL, ↓m1, eq_m, eq_mR, eq_mm, eq_mmR, tt_i, ff_i]
    rfl
  · intro p m ih _ hp hih a
    have e : some (nI (a + sumR (cir G) p (m + 1))) = some (nI (a + cir G p + sumR (cir G) (p + 1) m)) := by rw [Nat.add_assoc]; rfl
    have hle := lst_le (G := G) (l := p) (t := p) (v := G 14 0)
    have hp12 : S 12 p = nI (lst G p p (G 14 0)) := h12 p (by omega)
    unfold mX_lemmasInCircles_F4
    rw [C.1, e]
    unfold cir
    simp (disch := omega) only [nlit, n_add, n_mul, ob_s, rb_s, tb_s, tb_x, st_s, gz_0, gz_1, gz_b, rdA_n, wrS_n, nI_cl, sU_s, sU_n, le_t, le_f, lt_t, lt_f, eq_t, eq_f, le_tR, le_tL, le_fR, le_fL, lt_tR, lt_tL, lt_fR, lt_fL, eq_tR, eq_tL, eq_fR, eq_fL, ↓m1, eq_m, eq_mR, eq_mm, eq_mmR, tt_i, ff_i, hp12, le_i, le_iR, le_iL]
    by_cases q : lst G p p (G 14 0) = 0
    · rw [if_pos (show lst G p p (G 14 0) ≤ 0 by omega), if_pos q]; exact hih a
    · rw [if_neg (show ¬ lst G p p (G 14 0) ≤ 0 by omega), if_neg q]; exact hih (a + 1)
theorem X_countOf (I : SI S G) (W : WG G) {q : Nat} (hq : q < 7) : mX_countOf S (nI q) = some (nI (cv G q)) := by
  have C := I.1
  have h15 := I.2.2.2.2.2
  have w0 := W.1
  have a0 : mX_overLemmas S (nI 0) = some (nI (sumR (G 2) 0 (G 14 0))) := X_over C W fun l hl => X_tells I W (q := 0) hl (by omega)
  have a1 : mX_overLemmas S (nI 1) = some (nI (sumR (stp G) 0 (G 14 0))) := X_over C W fun l hl => X_tells I W (q := 1) hl (by omega)
  have a5 : mX_overLemmas S (nI 5) = some (nI (sumR (opn G) 0 (G 14 0))) := X_over C W fun l hl => X_tells I W (q := 5) hl (by omega)
  unfold mX_countOf cv
  rw [C.1, h15]
  rcases (show q = 0 ∨ q = 1 ∨ q = 2 ∨ q = 3 ∨ q = 4 ∨ q = 5 ∨ q = 6 by omega) with rfl | rfl | rfl | rfl | rfl | rfl | rfl
  · simp (disch := omega) only [nlit, n_add, n_mul, ob_s, rb_s, tb_s, tb_x, st_s, gz_0, gz_1, gz_b, rdA_n, wrS_n, nI_cl, sU_s, sU_n, le_t, le_f, lt_t, lt_f, eq_t, eq_f, le_tR, le_tL, le_fR, le_fL, lt_tR, lt_tL, lt_fR, lt_fL, eq_tR, eq_tL, eq_fR, eq_fL, ↓m1, eq_m, eq_mR, eq_mm, eq_mmR, tt_i, ff_i] <;> rfl
  · simp (disch := omega) only [nlit, n_add, n_mul, ob_s, rb_s, tb_s, tb_x, st_s, gz_0, gz_1, gz_b, rdA_n, wrS_n, nI_cl, sU_s, sU_n, le_t, le_f, lt_t, lt_f, eq_t, eq_f, le_tR, le_tL, le_fR, le_fL, lt_tR, lt_tL, lt_fR, lt_fL, eq_tR, eq_tL, eq_fR, eq_fL, ↓m1, eq_m, eq_mR, eq_mm, eq_mmR, tt_i, ff_i] <;> rfl
  · simp (disch := omega) only [nlit, n_add, n_mul, ob_s, rb_s, tb_s, tb_x, st_s, gz_0, gz_1, gz_b, rdA_n, wrS_n, nI_cl, sU_s, sU_n, le_t, le_f, lt_t, lt_f, eq_t, eq_f, le_tR, le_tL, le_fR, le_fL, lt_tR, lt_tL, lt_fR, lt_fL, eq_tR, eq_tL, eq_fR, eq_fL, ↓m1, eq_m, eq_mR, eq_mm, eq_mmR, tt_i, ff_i, X_taken C W] <;> rfl
  · simp (disch := omega) only [nlit, n_add, n_mul, ob_s, rb_s, tb_s, tb_x, st_s, gz_0, gz_1, gz_b, rdA_n, wrS_n, nI_cl, sU_s, sU_n, le_t, le_f, lt_t, lt_f, eq_t, eq_f, le_tR, le_tL, le_fR, le_fL, lt_tR, lt_tL, lt_fR, lt_fL, eq_tR, eq_tL, eq_fR, eq_fL, ↓m1, eq_m, eq_mR, eq_mm, eq_mmR, tt_i, ff_i, a0] <;> rfl
  · simp (disch := omega) only [nlit, n_add, n_mul, ob_s, rb_s, tb_s, tb_x, st_s, gz_0, gz_1, gz_b, rdA_n, wrS_n, nI_cl, sU_s, sU_n, le_t, le_f, lt_t, lt_f, eq_t, eq_f, le_tR, le_tL, le_fR, le_fL, lt_tR, lt_tL, lt_fR, lt_fL, eq_tR, eq_tL, eq_fR, eq_fL, ↓m1, eq_m, eq_mR, eq_mm, eq_mmR, tt_i, ff_i, a1] <;> rfl
  · simp (disch := omega) only [nlit, n_add, n_mul, ob_s, rb_s, tb_s, tb_x, st_s, gz_0, gz_1, gz_b, rdA_n, wrS_n, nI_cl, sU_s, sU_n, le_t, le_f, lt_t, lt_f, eq_t, eq_f, le_tR, le_tL, le_fR, le_fL, lt_tR, lt_tL, lt_fR, lt_fL, eq_tR, eq_tL, eq_fR, eq_fL, ↓m1, eq_m, eq_mR, eq_mm, eq_mmR, tt_i, ff_i, a5] <;> rfl
  · simp (disch := omega) only [nlit, n_add, n_mul, ob_s, rb_s, tb_s, tb_x, st_s, gz_0, gz_1, gz_b, rdA_n, wrS_n, nI_cl, sU_s, sU_n, le_t, le_f, lt_t, lt_f, eq_t, eq_f, le_tR, le_tL, le_fR, le_fL, lt_tR, lt_tL, lt_fR, lt_fL, eq_tR, eq_tL, eq_fR, eq_fL, ↓m1, eq_m, eq_mR, eq_mm, eq_mmR, tt_i, ff_i, X_inCircles I W] <;> rfl
def PCo (G : GS) (T0 : XS) (f : Nat → Nat) (p m : Nat) (T : XS) (v : Int32) (res : Option (Int32 × XS)) : Prop := ∀ a, Mo T0 T → v = nI a → ∃ T', Mo T0 T' ∧ res = some (nI (a + sumR f p m), T')
-- steps and proofs
def stv (G : GS) (i q : Nat) : Int32 := if q = 0 then nI (G 4 i) else if q = 1 then nI (G 5 i) else if q = 2 then nI (G 6 i) else if G 7 i = 0 then 0 else 1
theorem X_stepTells (C : Cp S G) (W : WG G) {j i q : Nat} (hj : j < 36) (h1 : 5 * j ≤ i) (h2 : i < 5 * j + G 3 j) (hq : q < 4) : mX_stepTells S (nI i) (nI q) = some (stv G i q) := by
  have h3 := W.2.2.2.1 j hj
  obtain ⟨e4, e5, e6, e7⟩ := C.2.2.2.2 j i hj h1 h2
  obtain ⟨f4, f5, f5', f5'', f6, f6', f7⟩ := W.2.2.2.2 j i hj h1 h2
  unfold mX_stepTells stv
  rcases (show q = 0 ∨ q = 1 ∨ q = 2 ∨ q = 3 by omega) with rfl | rfl | rfl | rfl
  · simp (disch := omega) only [nlit, n_add, n_mul, ob_s, rb_s, tb_s, tb_x, st_s, gz_0, gz_1, gz_b, rdA_n, wrS_n, nI_cl, sU_s, sU_n, le_t, le_f, lt_t, lt_f, eq_t, eq_f, le_tR, le_tL, le_fR, le_fL, lt_tR, lt_tL, lt_fR, lt_fL, eq_tR, eq_tL, eq_fR, eq_fL, ↓m1, eq_m, eq_mR, eq_mm, eq_mmR, tt_i, ff_i, e4] <;> rfl
  · simp (disch := omega) only [nlit, n_add, n_mul, ob_s, rb_s, tb_s, tb_x, st_s, gz_0, gz_1, gz_b, rdA_n, wrS_n, nI_cl, sU_s, sU_n, le_t, le_f, lt_t, lt_f, eq_t, eq_f, le_tR, le_tL, le_fR, le_fL, lt_tR, lt_tL, lt_fR, lt_fL, eq_tR, eq_tL, eq_fR, eq_fL, ↓m1, eq_m, eq_mR, eq_mm, eq_mmR, tt_i, ff_i, e5] <;> rfl
  · simp (disch := omega) only [nlit, n_add, n_mul, ob_s, rb_s, tb_s, tb_x, st_s, gz_0, gz_1, gz_b, rdA_n, wrS_n, nI_cl, sU_s, sU_n, le_t, le_f, lt_t, lt_f, eq_t, eq_f, le_tR, le_tL, le_fR, le_fL, lt_tR, lt_tL, lt_fR, lt_fL, eq_tR, eq_tL, eq_fR, eq_fL, ↓m1, eq_m, eq_mR, eq_mm, eq_mmR, tt_i, ff_i, e6] <;> rfl
  · simp (disch := omega) only [nlit, n_add, n_mul, ob_s, rb_s, tb_s, tb_x, st_s, gz_0, gz_1, gz_b, rdA_n, wrS_n, nI_cl, sU_s, sU_n, le_t, le_f, lt_t, lt_f, eq_t, eq_f, le_tR, le_tL, le_fR, le_fL, lt_tR, lt_tL, lt_fR, lt_fL, eq_tR, eq_tL, eq_fR, eq_fL, ↓m1, eq_m, eq_mR, eq_mm, eq_mmR, tt_i, ff_i, e7, eq_i, eq_iR, eq_iL]
    by_cases q : G 7 i = 0
    · rw [if_pos q, if_neg (by omega), if_neg (by omega), if_neg (by omega), if_pos q]
    · rw [if_neg q, if_neg (by omega), if_neg (by omega), if_neg (by omega), if_neg q]
theorem hd_st (W : WG G) {j s t : Nat} (hj : j < 36) {r : Nat → Nat} (h : ∀ x, x < G 14 0 → r x < s ∧ r x < t) : hd G r s j = hd G r t j := by
  unfold hd
  have : ∀ i, 5 * j ≤ i → i < 5 * j + G 3 j → dz G r s i = dz G r t i := fun i h1 h2 => by
    unfold dz
    by_cases k0 : G 4 i = 0
    · rw [if_pos k0, if_pos k0]
    · rw [if_neg k0, if_neg k0]
      by_cases k1 : G 4 i = 1
      · have := h _ ((W.2.2.2.2 j i hj h1 h2).2.2.1 k1)
        rw [if_pos k1, if_pos k1, decide_eq_true this.1, decide_eq_true this.2]
      · rw [if_neg k1, if_neg k1]
  have e : allR (dz G r s) (5 * j) (G 3 j) = allR (dz G r t) (5 * j) (G 3 j) := by
    rw [Bool.eq_iff_iff, allR_iff, allR_iff]
    constructor
    · intro q k h1 h2; rw [← this k h1 h2]; exact q k h1 h2
    · intro q k h1 h2; rw [this k h1 h2]; exact q k h1 h2
  rw [e]
noncomputable def pv (G : GS) (j q : Nat) : Int32 := if q = 0 then nI (G 3 j) else if q = 1 then (if hd G (stg G mone) 13 j = true then 1 else 0) else if q = 2 then orN (cs G 0 (FL G 0) j) else orN (cs G 1 (FL G 1) j)
noncomputable def bst (G : GS) (l : Nat) : Nat → Nat → Int32 → Nat → Int32
  | _, 0, b, _ => b
  | p, m + 1, b, c => if c ≤ cs G 0 (FL G 0) (3 * l + p) then bst G l (p + 1) m b c else bst G l (p + 1) m (nI p) (cs G 0 (FL G 0) (3 * l + p))
end READS
