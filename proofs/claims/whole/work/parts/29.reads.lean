section READS
variable {S : XS} {G : GS}
def cir (G : GS) (l : Nat) : Nat := if lst G l l (G 14 0) = 0 then 0 else 1
def cv (G : GS) (q : Nat) : Nat := if q = 0 then G 14 0 else if q = 1 then cnt G mone else if q = 2 then sumR (G 1) 0 5 else if q = 3 then sumR (G 2) 0 (G 14 0) else if q = 4 then sumR (stp G) 0 (G 14 0) else if q = 5 then sumR (opn G) 0 (G 14 0) else sumR (cir G) 0 (G 14 0)
theorem X_over (C : Cp S G) (W : WG G) {q : Int32} {f : Nat → Nat} (hf : ∀ l, l < G 14 0 → mX_lemmaTells S (nI l) q = some (nI (f l))) : mX_overLemmas S q = some (nI (sumR f 0 (G 14 0))) := by
  have w0 := W.1
  unfold mX_overLemmas
  rw [show (0 : Int32) = nI 0 from rfl, itr2_n (fun p m a => some (nI (a + sumR f p m))) 0 (G 14 0) ?_ ?_ (G 14 0) 0 FUEL 0 (by omega) (by omega) (fuel_gt (by omega)), Nat.zero_add]
  · intro ih a
    unfold mX_overLemmas_F4
    rw [C.1]
    simp (disch := omega) only [nlit, n_add, n_mul, ob_s, rb_s, tb_s, tb_x, st_s, gz_0, gz_1, gz_b, rdA_n, wrS_n, nI_cl, sU_s, sU_n, le_t, le_f, lt_t, lt_f, eq_t, eq_f, le_tR, le_tL, le_fR, le_fL, lt_tR, lt_tL, lt_fR, lt_fL, eq_tR, eq_tL, eq_fR, eq_fL, ↓m1, eq_m, eq_mR, eq_mm, eq_mmR, tt_i, ff_i]
    rfl
  · intro p m ih _ hp hih a
    unfold mX_overLemmas_F4
    rw [C.1]
    simp (disch := omega) only [nlit, n_add, n_mul, ob_s, rb_s, tb_s, tb_x, st_s, gz_0, gz_1, gz_b, rdA_n, wrS_n, nI_cl, sU_s, sU_n, le_t, le_f, lt_t, lt_f, eq_t, eq_f, le_tR, le_tL, le_fR, le_fL, lt_tR, lt_tL, lt_fR, lt_fL, eq_tR, eq_tL, eq_fR, eq_fL, ↓m1, eq_m, eq_mR, eq_mm, eq_mmR, tt_i, ff_i, hf p (by omega)]
    rw [hih, Nat.add_assoc]
    rfl
theorem X_taken (C : Cp S G) (W : WG G) : mX_axiomsTaken S = some (nI (sumR (G 1) 0 5)) := by
  have c1 := C.2.1
  unfold mX_axiomsTaken
  rw [show (0 : Int32) = nI 0 from rfl, itr2_n (fun p m a => some (nI (a + sumR (G 1) p m))) 0 5 ?_ ?_ 5 0 FUEL 0 (by omega) (by omega) (fuel_gt (by omega)), Nat.zero_add]
  · intro ih a
    unfold mX_axiomsTaken_F4
    simp (disch := omega) only [nlit, n_add, n_mul, ob_s, rb_s, tb_s, tb_x, st_s, gz_0, gz_1, gz_b, rdA_n, wrS_n, nI_cl, sU_s, sU_n, le_t, le_f, lt_t, lt_f, eq_t, eq_f, le_tR, le_tL, le_fR, le_fL, lt_tR, lt_tL, lt_fR, lt_fL, eq_tR, eq_tL, eq_fR, eq_fL, ↓m1, eq_m, eq_mR, eq_mm, eq_mmR, tt_i, ff_i]
    rfl
  · intro p m ih _ hp hih a
    have w1 := W.2.1 p (by omega)
    have e : some (nI (a + sumR (G 1) p (m + 1))) = some (nI (a + G 1 p + sumR (G 1) (p + 1) m)) := by rw [Nat.add_assoc]; rfl
    unfold mX_axiomsTaken_F4
    rw [e]
    simp (disch := omega) only [nlit, n_add, n_mul, ob_s, rb_s, tb_s, tb_x, st_s, gz_0, gz_1, gz_b, rdA_n, wrS_n, nI_cl, sU_s, sU_n, le_t, le_f, lt_t, lt_f, eq_t, eq_f, le_tR, le_tL, le_fR, le_fL, lt_tR, lt_tL, lt_fR, lt_fL, eq_tR, eq_tL, eq_fR, eq_fL, ↓m1, eq_m, eq_mR, eq_mm, eq_mmR, tt_i, ff_i, c1, eq_i, eq_iR, eq_iL]
    by_cases q : G 1 p = 0
    · rw [if_pos q, hih, q]; rfl
    · rw [if_neg q, hih, show G 1 p = 1 by omega]
theorem X_inCircles (I : SI S G) (W : WG G) : mX_lemmasInCircles S = some (nI (sumR (cir G) 0 (G 14 0))) := by
  obtain ⟨C, h8, h9, h10, h12, h15⟩ := I
  have w0 := W.1
  unfold mX_lemmasInCircles
  rw [show (0 : Int32) = nI 0 from rfl, itr2_n (fun p m a => some (nI (a + sumR (cir G) p m))) 0 (G 14 0) ?_ ?_ (G 14 0) 0 FUEL 0 (by omega) (by omega) (fuel_gt (by omega)), Nat.zero_add]
  · intro ih a
    unfold mX_lemmasInCircles_F4
    rw [C.1]
    simp (disch := omega) only [nlit, n_add, n_mul, ob_s, rb_s, tb_s, tb_x, st_s, gz_0, gz_1, gz_b, rdA_n, wrS_n, nI_cl, sU_s, sU_n, le_t, le_f, lt_t, lt_f, eq_t, eq_f, le_tR, le_tL, le_fR, le_fL, lt_tR, lt_tL, lt_fR, lt_fL, eq_tR, eq_tL, eq_fR, eq_fL, ↓m1, eq_m, eq_mR, eq_mm, eq_mmR, tt_i, ff_i]
    rfl
  · intro p m ih _ hp hih a
    have e : some (nI (a + sumR (cir G) p (m + 1))) = some (nI (a + cir G p + sumR (cir G) (p + 1) m)) := by rw [Nat.add_assoc]; rfl
    have hle := lst_le (G := G) (l := p) (t := p) (v := G 14 0)
    have hp12 : S 12 p = nI (lst G p p (G 14 0)) := h12 p (by omega)
    unfold mX_lemmasInCircles_F4
    rw [C.1, e]
    unfold cir
    simp (disch := omega) only [nlit, n_add, n_mul, ob_s, rb_s, tb_s, tb_x, st_s, gz_0, gz_1, gz_b, rdA_n, wrS_n, nI_cl, sU_s, sU_n, le_t, le_f, lt_t, lt_f, eq_t, eq_f, le_tR, le_tL, le_fR, le_fL, lt_tR, lt_tL, lt_fR, lt_fL, eq_tR, eq_tL, eq_fR, eq_fL, ↓m1, eq_m, eq_mR, eq_mm, eq_mmR, tt_i, ff_i, hp12, le_i, le_iR, le_iL]
    by_cases q : lst G p p (G 14 0) = 0
    · rw [if_pos (show lst G p p (G 14 0) ≤ 0 by omega), if_pos q]; exact hih a
    · rw [if_neg (show ¬ lst G p p (G 14 0) ≤ 0 by omega), if_neg q]; exact hih (a + 1)
theorem X_countOf (I : SI S G) (W : WG G) {q : Nat} (hq : q < 7) : mX_countOf S (nI q) = some (nI (cv G q)) := by
  have C := I.1
  have h15 := I.2.2.2.2.2
  have w0 := W.1
  have a0 : mX_overLemmas S (nI 0) = some (nI (sumR (G 2) 0 (G 14 0))) := X_over C W fun l hl => X_tells I W (q := 0) hl (by omega)
  have a1 : mX_overLemmas S (nI 1) = some (nI (sumR (stp G) 0 (G 14 0))) := X_over C W fun l hl => X_tells I W (q := 1) hl (by omega)
  have a5 : mX_overLemmas S (nI 5) = some (nI (sumR (opn G) 0 (G 14 0))) := X_over C W fun l hl => X_tells I W (q := 5) hl (by omega)
  unfold mX_countOf cv
  rw [C.1, h15]
  rcases (show q = 0 ∨ q = 1 ∨ q = 2 ∨ q = 3 ∨ q = 4 ∨ q = 5 ∨ q = 6 by omega) with rfl | rfl | rfl | rfl | rfl | rfl | rfl
  · simp (disch := omega) only [nlit, n_add, n_mul, ob_s, rb_s, tb_s, tb_x, st_s, gz_0, gz_1, gz_b, rdA_n, wrS_n, nI_cl, sU_s, sU_n, le_t, le_f, lt_t, lt_f, eq_t, eq_f, le_tR, le_tL, le_fR, le_fL, lt_tR, lt_tL, lt_fR, lt_fL, eq_tR, eq_tL, eq_fR, eq_fL, ↓m1, eq_m, eq_mR, eq_mm, eq_mmR, tt_i, ff_i] <;> rfl
  · simp (disch := omega) only [nlit, n_add, n_mul, ob_s, rb_s, tb_s, tb_x, st_s, gz_0, gz_1, gz_b, rdA_n, wrS_n, nI_cl, sU_s, sU_n, le_t, le_f, lt_t, lt_f, eq_t, eq_f, le_tR, le_tL, le_fR, le_fL, lt_tR, lt_tL, lt_fR, lt_fL, eq_tR, eq_tL, eq_fR, eq_fL, ↓m1, eq_m, eq_mR, eq_mm, eq_mmR, tt_i, ff_i] <;> rfl
  · simp (disch := omega) only [nlit, n_add, n_mul, ob_s, rb_s, tb_s, tb_x, st_s, gz_0, gz_1, gz_b, rdA_n, wrS_n, nI_cl, sU_s, sU_n, le_t, le_f, lt_t, lt_f, eq_t, eq_f, le_tR, le_tL, le_fR, le_fL, lt_tR, lt_tL, lt_fR, lt_fL, eq_tR, eq_tL, eq_fR, eq_fL, ↓m1, eq_m, eq_mR, eq_mm, eq_mmR, tt_i, ff_i, X_taken C W] <;> rfl
  · simp (disch := omega) only [nlit, n_add, n_mul, ob_s, rb_s, tb_s, tb_x, st_s, gz_0, gz_1, gz_b, rdA_n, wrS_n, nI_cl, sU_s, sU_n, le_t, le_f, lt_t, lt_f, eq_t, eq_f, le_tR, le_tL, le_fR, le_fL, lt_tR, lt_tL, lt_fR, lt_fL, eq_tR, eq_tL, eq_fR, eq_fL, ↓m1, eq_m, eq_mR, eq_mm, eq_mmR, tt_i, ff_i, a0] <;> rfl
  · simp (disch := omega) only [nlit, n_add, n_mul, ob_s, rb_s, tb_s, tb_x, st_s, gz_0, gz_1, gz_b, rdA_n, wrS_n, nI_cl, sU_s, sU_n, le_t, le_f, lt_t, lt_f, eq_t, eq_f, le_tR, le_tL, le_fR, le_fL, lt_tR, lt_tL, lt_fR, lt_fL, eq_tR, eq_tL, eq_fR, eq_fL, ↓m1, eq_m, eq_mR, eq_mm, eq_mmR, tt_i, ff_i, a1] <;> rfl
  · simp (disch := omega) only [nlit, n_add, n_mul, ob_s, rb_s, tb_s, tb_x, st_s, gz_0, gz_1, gz_b, rdA_n, wrS_n, nI_cl, sU_s, sU_n, le_t, le_f, lt_t, lt_f, eq_t, eq_f, le_tR, le_tL, le_fR, le_fL, lt_tR, lt_tL, lt_fR, lt_fL, eq_tR, eq_tL, eq_fR, eq_fL, ↓m1, eq_m, eq_mR, eq_mm, eq_mmR, tt_i, ff_i, a5] <;> rfl
  · simp (disch := omega) only [nlit, n_add, n_mul, ob_s, rb_s, tb_s, tb_x, st_s, gz_0, gz_1, gz_b, rdA_n, wrS_n, nI_cl, sU_s, sU_n, le_t, le_f, lt_t, lt_f, eq_t, eq_f, le_tR, le_tL, le_fR, le_fL, lt_tR, lt_tL, lt_fR, lt_fL, eq_tR, eq_tL, eq_fR, eq_fL, ↓m1, eq_m, eq_mR, eq_mm, eq_mmR, tt_i, ff_i, X_inCircles I W] <;> rfl
def PCo (G : GS) (T0 : XS) (f : Nat → Nat) (p m : Nat) (T : XS) (v : Int32) (res : Option (Int32 × XS)) : Prop := ∀ a, Mo T0 T → v = nI a → ∃ T', Mo T0 T' ∧ res = some (nI (a + sumR f p m), T')
theorem M_overl {T0 : XS} (C0 : Cp T0 G) (W : WG G) {q : Nat} (hq : 3 ≤ q ∧ q ≤ 6) {f : Nat → Nat} (hf : f = if q = 3 then G 2 else if q = 4 then stp G else if q = 5 then opn G else cir G) : ∀ m p N T v, 0 ≤ p → p + m = G 14 0 → m < N → PCo G T0 f p m T v (itr3 (mM_counted_F87 (nI q)) N T v (nI p)) := by
  have w0 := W.1
  refine itr3_r (PCo G T0 f) 0 (G 14 0) ?_ ?_
  · intro ih T v a hR hv
    have C := hR.cp C0
    refine ⟨T, hR, ?_⟩
    unfold mM_counted_F87
    rw [C.1, hv]
    simp (disch := omega) only [nlit, n_add, n_mul, ob_s, rb_s, tb_s, tb_x, st_s, gz_0, gz_1, gz_b, rdA_n, wrS_n, nI_cl, sU_s, sU_n, le_t, le_f, lt_t, lt_f, eq_t, eq_f, le_tR, le_tL, le_fR, le_fL, lt_tR, lt_tL, lt_fR, lt_fL, eq_tR, eq_tL, eq_fR, eq_fL, ↓m1, eq_m, eq_mR, eq_mm, eq_mmR, tt_i, ff_i]
    rfl
  · intro p m ih _ hp hih T v a hR hv
    have C := hR.cp C0
    have c2 := C.2.2.1
    have e : ∀ T' : XS, some (nI (a + sumR f p (m + 1)), T') = some (nI (a + f p + sumR f (p + 1) m), T') := fun T' => by rw [Nat.add_assoc]; rfl
    have go : ∀ T1, Mo T T1 → ∃ T', Mo T0 T' ∧ ih T1 (nI (a + f p)) (nI (p + 1)) = some (nI (a + sumR f p (m + 1)), T') := fun T1 h1 => by
      obtain ⟨T', k1, k2⟩ := hih T1 _ (a + f p) (hR.tr h1) rfl
      exact ⟨T', k1, by rw [e]; exact k2⟩
    unfold mM_counted_F87
    rw [C.1, hv]
    rcases (show q = 3 ∨ q = 4 ∨ q = 5 ∨ q = 6 by omega) with rfl | rfl | rfl | rfl
    · simp (disch := omega) only [nlit, n_add, n_mul, ob_s, rb_s, tb_s, tb_x, st_s, gz_0, gz_1, gz_b, rdA_n, wrS_n, nI_cl, sU_s, sU_n, le_t, le_f, lt_t, lt_f, eq_t, eq_f, le_tR, le_tL, le_fR, le_fL, lt_tR, lt_tL, lt_fR, lt_fL, eq_tR, eq_tL, eq_fR, eq_fL, ↓m1, eq_m, eq_mR, eq_mm, eq_mmR, tt_i, ff_i, c2]
      rw [show G 2 p = f p by rw [hf]; rfl]
      exact go T Mo.rf
    · simp (disch := omega) only [nlit, n_add, n_mul, ob_s, rb_s, tb_s, tb_x, st_s, gz_0, gz_1, gz_b, rdA_n, wrS_n, nI_cl, sU_s, sU_n, le_t, le_f, lt_t, lt_f, eq_t, eq_f, le_tR, le_tL, le_fR, le_fL, lt_tR, lt_tL, lt_fR, lt_fL, eq_tR, eq_tL, eq_fR, eq_fL, ↓m1, eq_m, eq_mR, eq_mm, eq_mmR, tt_i, ff_i, M_stepsOf C W (l := p) (by omega)]
      rw [show stp G p = f p by rw [hf]; rfl]
      exact go T Mo.rf
    · simp (disch := omega) only [nlit, n_add, n_mul, ob_s, rb_s, tb_s, tb_x, st_s, gz_0, gz_1, gz_b, rdA_n, wrS_n, nI_cl, sU_s, sU_n, le_t, le_f, lt_t, lt_f, eq_t, eq_f, le_tR, le_tL, le_fR, le_fL, lt_tR, lt_tL, lt_fR, lt_fL, eq_tR, eq_tL, eq_fR, eq_fL, ↓m1, eq_m, eq_mR, eq_mm, eq_mmR, tt_i, ff_i, M_openOf C W (l := p) (by omega)]
      rw [show opn G p = f p by rw [hf]; rfl]
      exact go T Mo.rf
    · obtain ⟨T1, h1, e1⟩ := M_circle C W (l := p) (by omega)
      have g := go T1 (h1.mo (by omega))
      have hle := lst_le (G := G) (l := p) (t := p) (v := G 14 0)
      have ec : f p = cir G p := by rw [hf]; rfl
      rw [ec] at g
      unfold cir at g
      simp (disch := omega) only [nlit, n_add, n_mul, ob_s, rb_s, tb_s, tb_x, st_s, gz_0, gz_1, gz_b, rdA_n, wrS_n, nI_cl, sU_s, sU_n, le_t, le_f, lt_t, lt_f, eq_t, eq_f, le_tR, le_tL, le_fR, le_fL, lt_tR, lt_tL, lt_fR, lt_fL, eq_tR, eq_tL, eq_fR, eq_fL, ↓m1, eq_m, eq_mR, eq_mm, eq_mmR, tt_i, ff_i, e1, le_i, le_iR, le_iL]
      by_cases q : lst G p p (G 14 0) = 0
      · rw [if_pos q] at g
        rw [if_pos (show lst G p p (G 14 0) ≤ 0 by omega)]; exact g
      · rw [if_neg q] at g
        rw [if_neg (show ¬ lst G p p (G 14 0) ≤ 0 by omega)]; exact g
theorem M_takens (C : Cp S G) (W : WG G) : itr2 (mM_counted_F51 S (nI 5)) FUEL (nI 0) (nI 0) = some (nI (sumR (G 1) 0 5), S) := by
  have c1 := C.2.1
  rw [itr2_n (fun p m a => some (nI (a + sumR (G 1) p m), S)) 0 5 ?_ ?_ 5 0 FUEL 0 (by omega) (by omega) (fuel_gt (by omega)), Nat.zero_add]
  · intro ih a
    unfold mM_counted_F51
    simp (disch := omega) only [nlit, n_add, n_mul, ob_s, rb_s, tb_s, tb_x, st_s, gz_0, gz_1, gz_b, rdA_n, wrS_n, nI_cl, sU_s, sU_n, le_t, le_f, lt_t, lt_f, eq_t, eq_f, le_tR, le_tL, le_fR, le_fL, lt_tR, lt_tL, lt_fR, lt_fL, eq_tR, eq_tL, eq_fR, eq_fL, ↓m1, eq_m, eq_mR, eq_mm, eq_mmR, tt_i, ff_i]
    rfl
  · intro p m ih _ hp hih a
    have w1 := W.2.1 p (by omega)
    have e : some (nI (a + sumR (G 1) p (m + 1)), S) = some (nI (a + G 1 p + sumR (G 1) (p + 1) m), S) := by rw [Nat.add_assoc]; rfl
    unfold mM_counted_F51
    rw [e]
    simp (disch := omega) only [nlit, n_add, n_mul, ob_s, rb_s, tb_s, tb_x, st_s, gz_0, gz_1, gz_b, rdA_n, wrS_n, nI_cl, sU_s, sU_n, le_t, le_f, lt_t, lt_f, eq_t, eq_f, le_tR, le_tL, le_fR, le_fL, lt_tR, lt_tL, lt_fR, lt_fL, eq_tR, eq_tL, eq_fR, eq_fL, ↓m1, eq_m, eq_mR, eq_mm, eq_mmR, tt_i, ff_i, c1, eq_i, eq_iR, eq_iL]
    by_cases q : G 1 p = 0
    · rw [if_pos q, hih, q]
    · rw [if_neg q, hih, show G 1 p = 1 by omega]
theorem M_counted (C : Cp S G) (W : WG G) {q : Nat} (hq : q < 7) : ∃ S', Mo S S' ∧ mM_counted S (nI q) = some (nI (cv G q), S') := by
  have w0 := W.1
  unfold mM_counted cv
  rw [C.1]
  rcases (show q = 0 ∨ q = 1 ∨ q = 2 ∨ q = 3 ∨ q = 4 ∨ q = 5 ∨ q = 6 by omega) with rfl | rfl | rfl | rfl | rfl | rfl | rfl
  · refine ⟨S, Mo.rf, ?_⟩; simp (disch := omega) only [nlit, n_add, n_mul, ob_s, rb_s, tb_s, tb_x, st_s, gz_0, gz_1, gz_b, rdA_n, wrS_n, nI_cl, sU_s, sU_n, le_t, le_f, lt_t, lt_f, eq_t, eq_f, le_tR, le_tL, le_fR, le_fL, lt_tR, lt_tL, lt_fR, lt_fL, eq_tR, eq_tL, eq_fR, eq_fL, ↓m1, eq_m, eq_mR, eq_mm, eq_mmR, tt_i, ff_i] <;> rfl
  · obtain ⟨S1, h1, h2, e⟩ := M_prove C W (b := mone)
    refine ⟨S1, h1.mo (by omega), ?_⟩
    simp (disch := omega) only [nlit, n_add, n_mul, ob_s, rb_s, tb_s, tb_x, st_s, gz_0, gz_1, gz_b, rdA_n, wrS_n, nI_cl, sU_s, sU_n, le_t, le_f, lt_t, lt_f, eq_t, eq_f, le_tR, le_tL, le_fR, le_fL, lt_tR, lt_tL, lt_fR, lt_fL, eq_tR, eq_tL, eq_fR, eq_fL, ↓m1, eq_m, eq_mR, eq_mm, eq_mmR, tt_i, ff_i, e] <;> rfl
  · refine ⟨S, Mo.rf, ?_⟩
    simp (disch := omega) only [nlit, n_add, n_mul, ob_s, rb_s, tb_s, tb_x, st_s, gz_0, gz_1, gz_b, rdA_n, wrS_n, nI_cl, sU_s, sU_n, le_t, le_f, lt_t, lt_f, eq_t, eq_f, le_tR, le_tL, le_fR, le_fL, lt_tR, lt_tL, lt_fR, lt_fL, eq_tR, eq_tL, eq_fR, eq_fL, ↓m1, eq_m, eq_mR, eq_mm, eq_mmR, tt_i, ff_i]
    rw [M_takens C W]
    rfl
  · obtain ⟨S1, h1, e⟩ := M_overl C W (q := 3) (by omega) rfl (G 14 0) 0 FUEL S (nI 0) (by omega) (by omega) (fuel_gt (by omega)) 0 Mo.rf rfl
    refine ⟨S1, h1, ?_⟩
    simp (disch := omega) only [nlit, n_add, n_mul, ob_s, rb_s, tb_s, tb_x, st_s, gz_0, gz_1, gz_b, rdA_n, wrS_n, nI_cl, sU_s, sU_n, le_t, le_f, lt_t, lt_f, eq_t, eq_f, le_tR, le_tL, le_fR, le_fL, lt_tR, lt_tL, lt_fR, lt_fL, eq_tR, eq_tL, eq_fR, eq_fL, ↓m1, eq_m, eq_mR, eq_mm, eq_mmR, tt_i, ff_i]
    rw [e, Nat.zero_add]
    rfl
  · obtain ⟨S1, h1, e⟩ := M_overl C W (q := 4) (by omega) rfl (G 14 0) 0 FUEL S (nI 0) (by omega) (by omega) (fuel_gt (by omega)) 0 Mo.rf rfl
    refine ⟨S1, h1, ?_⟩
    simp (disch := omega) only [nlit, n_add, n_mul, ob_s, rb_s, tb_s, tb_x, st_s, gz_0, gz_1, gz_b, rdA_n, wrS_n, nI_cl, sU_s, sU_n, le_t, le_f, lt_t, lt_f, eq_t, eq_f, le_tR, le_tL, le_fR, le_fL, lt_tR, lt_tL, lt_fR, lt_fL, eq_tR, eq_tL, eq_fR, eq_fL, ↓m1, eq_m, eq_mR, eq_mm, eq_mmR, tt_i, ff_i]
    rw [e, Nat.zero_add]
    rfl
  · obtain ⟨S1, h1, e⟩ := M_overl C W (q := 5) (by omega) rfl (G 14 0) 0 FUEL S (nI 0) (by omega) (by omega) (fuel_gt (by omega)) 0 Mo.rf rfl
    refine ⟨S1, h1, ?_⟩
    simp (disch := omega) only [nlit, n_add, n_mul, ob_s, rb_s, tb_s, tb_x, st_s, gz_0, gz_1, gz_b, rdA_n, wrS_n, nI_cl, sU_s, sU_n, le_t, le_f, lt_t, lt_f, eq_t, eq_f, le_tR, le_tL, le_fR, le_fL, lt_tR, lt_tL, lt_fR, lt_fL, eq_tR, eq_tL, eq_fR, eq_fL, ↓m1, eq_m, eq_mR, eq_mm, eq_mmR, tt_i, ff_i]
    rw [e, Nat.zero_add]
    rfl
  · obtain ⟨S1, h1, e⟩ := M_overl C W (q := 6) (by omega) rfl (G 14 0) 0 FUEL S (nI 0) (by omega) (by omega) (fuel_gt (by omega)) 0 Mo.rf rfl
    refine ⟨S1, h1, ?_⟩
    simp (disch := omega) only [nlit, n_add, n_mul, ob_s, rb_s, tb_s, tb_x, st_s, gz_0, gz_1, gz_b, rdA_n, wrS_n, nI_cl, sU_s, sU_n, le_t, le_f, lt_t, lt_f, eq_t, eq_f, le_tR, le_tL, le_fR, le_fL, lt_tR, lt_tL, lt_fR, lt_fL, eq_tR, eq_tL, eq_fR, eq_fL, ↓m1, eq_m, eq_mR, eq_mm, eq_mmR, tt_i, ff_i]
    rw [e, Nat.zero_add]
    rfl
-- steps and proofs
def stv (G : GS) (i q : Nat) : Int32 := if q = 0 then nI (G 4 i) else if q = 1 then nI (G 5 i) else if q = 2 then nI (G 6 i) else if G 7 i = 0 then 0 else 1
theorem X_stepTells (C : Cp S G) (W : WG G) {j i q : Nat} (hj : j < 36) (h1 : 5 * j ≤ i) (h2 : i < 5 * j + G 3 j) (hq : q < 4) : mX_stepTells S (nI i) (nI q) = some (stv G i q) := by
  have h3 := W.2.2.2.1 j hj
  obtain ⟨e4, e5, e6, e7⟩ := C.2.2.2.2 j i hj h1 h2
  obtain ⟨f4, f5, f5', f5'', f6, f6', f7⟩ := W.2.2.2.2 j i hj h1 h2
  unfold mX_stepTells stv
  rcases (show q = 0 ∨ q = 1 ∨ q = 2 ∨ q = 3 by omega) with rfl | rfl | rfl | rfl
  · simp (disch := omega) only [nlit, n_add, n_mul, ob_s, rb_s, tb_s, tb_x, st_s, gz_0, gz_1, gz_b, rdA_n, wrS_n, nI_cl, sU_s, sU_n, le_t, le_f, lt_t, lt_f, eq_t, eq_f, le_tR, le_tL, le_fR, le_fL, lt_tR, lt_tL, lt_fR, lt_fL, eq_tR, eq_tL, eq_fR, eq_fL, ↓m1, eq_m, eq_mR, eq_mm, eq_mmR, tt_i, ff_i, e4] <;> rfl
  · simp (disch := omega) only [nlit, n_add, n_mul, ob_s, rb_s, tb_s, tb_x, st_s, gz_0, gz_1, gz_b, rdA_n, wrS_n, nI_cl, sU_s, sU_n, le_t, le_f, lt_t, lt_f, eq_t, eq_f, le_tR, le_tL, le_fR, le_fL, lt_tR, lt_tL, lt_fR, lt_fL, eq_tR, eq_tL, eq_fR, eq_fL, ↓m1, eq_m, eq_mR, eq_mm, eq_mmR, tt_i, ff_i, e5] <;> rfl
  · simp (disch := omega) only [nlit, n_add, n_mul, ob_s, rb_s, tb_s, tb_x, st_s, gz_0, gz_1, gz_b, rdA_n, wrS_n, nI_cl, sU_s, sU_n, le_t, le_f, lt_t, lt_f, eq_t, eq_f, le_tR, le_tL, le_fR, le_fL, lt_tR, lt_tL, lt_fR, lt_fL, eq_tR, eq_tL, eq_fR, eq_fL, ↓m1, eq_m, eq_mR, eq_mm, eq_mmR, tt_i, ff_i, e6] <;> rfl
  · simp (disch := omega) only [nlit, n_add, n_mul, ob_s, rb_s, tb_s, tb_x, st_s, gz_0, gz_1, gz_b, rdA_n, wrS_n, nI_cl, sU_s, sU_n, le_t, le_f, lt_t, lt_f, eq_t, eq_f, le_tR, le_tL, le_fR, le_fL, lt_tR, lt_tL, lt_fR, lt_fL, eq_tR, eq_tL, eq_fR, eq_fL, ↓m1, eq_m, eq_mR, eq_mm, eq_mmR, tt_i, ff_i, e7, eq_i, eq_iR, eq_iL]
    by_cases q : G 7 i = 0
    · rw [if_pos q, if_neg (by omega), if_neg (by omega), if_neg (by omega), if_pos q]
    · rw [if_neg q, if_neg (by omega), if_neg (by omega), if_neg (by omega), if_neg q]
theorem M_stepTold (C : Cp S G) (W : WG G) {j i q : Nat} (hj : j < 36) (h1 : 5 * j ≤ i) (h2 : i < 5 * j + G 3 j) (hq : q < 4) : mM_stepTold S (nI i) (nI q) = some (stv G i q) := by
  have h3 := W.2.2.2.1 j hj
  obtain ⟨e4, e5, e6, e7⟩ := C.2.2.2.2 j i hj h1 h2
  obtain ⟨f4, f5, f5', f5'', f6, f6', f7⟩ := W.2.2.2.2 j i hj h1 h2
  unfold mM_stepTold stv
  rcases (show q = 0 ∨ q = 1 ∨ q = 2 ∨ q = 3 by omega) with rfl | rfl | rfl | rfl
  · simp (disch := omega) only [nlit, n_add, n_mul, ob_s, rb_s, tb_s, tb_x, st_s, gz_0, gz_1, gz_b, rdA_n, wrS_n, nI_cl, sU_s, sU_n, le_t, le_f, lt_t, lt_f, eq_t, eq_f, le_tR, le_tL, le_fR, le_fL, lt_tR, lt_tL, lt_fR, lt_fL, eq_tR, eq_tL, eq_fR, eq_fL, ↓m1, eq_m, eq_mR, eq_mm, eq_mmR, tt_i, ff_i, e4] <;> rfl
  · simp (disch := omega) only [nlit, n_add, n_mul, ob_s, rb_s, tb_s, tb_x, st_s, gz_0, gz_1, gz_b, rdA_n, wrS_n, nI_cl, sU_s, sU_n, le_t, le_f, lt_t, lt_f, eq_t, eq_f, le_tR, le_tL, le_fR, le_fL, lt_tR, lt_tL, lt_fR, lt_fL, eq_tR, eq_tL, eq_fR, eq_fL, ↓m1, eq_m, eq_mR, eq_mm, eq_mmR, tt_i, ff_i, e5] <;> rfl
  · simp (disch := omega) only [nlit, n_add, n_mul, ob_s, rb_s, tb_s, tb_x, st_s, gz_0, gz_1, gz_b, rdA_n, wrS_n, nI_cl, sU_s, sU_n, le_t, le_f, lt_t, lt_f, eq_t, eq_f, le_tR, le_tL, le_fR, le_fL, lt_tR, lt_tL, lt_fR, lt_fL, eq_tR, eq_tL, eq_fR, eq_fL, ↓m1, eq_m, eq_mR, eq_mm, eq_mmR, tt_i, ff_i, e6] <;> rfl
  · simp (disch := omega) only [nlit, n_add, n_mul, ob_s, rb_s, tb_s, tb_x, st_s, gz_0, gz_1, gz_b, rdA_n, wrS_n, nI_cl, sU_s, sU_n, le_t, le_f, lt_t, lt_f, eq_t, eq_f, le_tR, le_tL, le_fR, le_fL, lt_tR, lt_tL, lt_fR, lt_fL, eq_tR, eq_tL, eq_fR, eq_fL, ↓m1, eq_m, eq_mR, eq_mm, eq_mmR, tt_i, ff_i, e7, eq_i, eq_iR, eq_iL]
    by_cases q : G 7 i = 0
    · rw [if_pos q, if_neg (by omega), if_neg (by omega), if_neg (by omega), if_pos q]
    · rw [if_neg q, if_neg (by omega), if_neg (by omega), if_neg (by omega), if_neg q]
theorem hd_st (W : WG G) {j s t : Nat} (hj : j < 36) {r : Nat → Nat} (h : ∀ x, x < G 14 0 → r x < s ∧ r x < t) : hd G r s j = hd G r t j := by
  unfold hd
  have : ∀ i, 5 * j ≤ i → i < 5 * j + G 3 j → dz G r s i = dz G r t i := fun i h1 h2 => by
    unfold dz
    by_cases k0 : G 4 i = 0
    · rw [if_pos k0, if_pos k0]
    · rw [if_neg k0, if_neg k0]
      by_cases k1 : G 4 i = 1
      · have := h _ ((W.2.2.2.2 j i hj h1 h2).2.2.1 k1)
        rw [if_pos k1, if_pos k1, decide_eq_true this.1, decide_eq_true this.2]
      · rw [if_neg k1, if_neg k1]
  have e : allR (dz G r s) (5 * j) (G 3 j) = allR (dz G r t) (5 * j) (G 3 j) := by
    rw [Bool.eq_iff_iff, allR_iff, allR_iff]
    constructor
    · intro q k h1 h2; rw [← this k h1 h2]; exact q k h1 h2
    · intro q k h1 h2; rw [this k h1 h2]; exact q k h1 h2
  rw [e]
noncomputable def pv (G : GS) (j q : Nat) : Int32 := if q = 0 then nI (G 3 j) else if q = 1 then (if hd G (stg G mone) 13 j = true then 1 else 0) else if q = 2 then orN (cs G 0 (FL G 0) j) else orN (cs G 1 (FL G 1) j)
theorem M_proofTold (C : Cp S G) (W : WG G) {l p q : Nat} (hl : l < G 14 0) (hp : p < 3) (hq : q < 4) : ∃ S', Mo S S' ∧ mM_proofTold S (nI l) (nI p) (nI q) = some (pv G (3 * l + p) q, S') := by
  have w0 := W.1
  obtain ⟨S1, h1, h9, h10, e1⟩ := M_measure C W
  have C1 := h1.cp C
  obtain ⟨S2, h2, r2, e2⟩ := M_prove C1 W (b := mone)
  have C2 := h2.cp (by omega) C1
  have c3 := C2.2.2.2.1
  have r9 : Rw S2 9 (G 14 0) (FL G 0) := h9.mv (h2 9 (by omega))
  have r10 : Rw S2 10 (G 14 0) (FL G 1) := h10.mv (h2 10 (by omega))
  have hcl := cs_le (G := G) (k := 0) (r := FL G 0) (j := 3 * l + p)
  have hcp := cs_le (G := G) (k := 1) (r := FL G 1) (j := 3 * l + p)
  have hst : ∀ x, stg G mone x ≤ G 14 0 := fun x => stg_le x
  refine ⟨S2, h1.mo.tr (h2.mo (by omega)), ?_⟩
  unfold mM_proofTold
  rw [e1, rb_s, show (-1 : Int32) = mone from rfl, e2, rb_s, C2.1]
  rcases (show q = 0 ∨ q = 1 ∨ q = 2 ∨ q = 3 by omega) with rfl | rfl | rfl | rfl
  · simp (disch := omega) only [nlit, n_add, n_mul, ob_s, rb_s, tb_s, tb_x, st_s, gz_0, gz_1, gz_b, rdA_n, wrS_n, nI_cl, sU_s, sU_n, le_t, le_f, lt_t, lt_f, eq_t, eq_f, le_tR, le_tL, le_fR, le_fL, lt_tR, lt_tL, lt_fR, lt_fL, eq_tR, eq_tL, eq_fR, eq_fL, ↓m1, eq_m, eq_mR, eq_mm, eq_mmR, tt_i, ff_i, c3] <;> rfl
  · have hh := M_holds C2 W (l := l) (p := p) (st := G 14 0 + 2) (b := mone) (by omega) hp r2 (fun x _ => by have := hst x; omega) (by omega) (fun x hx e => absurd e (mone_ne (by omega)))
    rw [hd_st W (s := G 14 0 + 2) (t := 13) (by omega) (fun x _ => by have := hst x; omega)] at hh
    rw [show pv G (3 * l + p) 1 = if hd G (stg G mone) 13 (3 * l + p) = true then nI 1 else nI 0 from rfl]
    simp (disch := omega) only [nlit, n_add, n_mul, ob_s, rb_s, tb_s, tb_x, st_s, gz_0, gz_1, gz_b, rdA_n, wrS_n, nI_cl, sU_s, sU_n, le_t, le_f, lt_t, lt_f, eq_t, eq_f, le_tR, le_tL, le_fR, le_fL, lt_tR, lt_tL, lt_fR, lt_fL, eq_tR, eq_tL, eq_fR, eq_fL, ↓m1, eq_m, eq_mR, eq_mm, eq_mmR, tt_i, ff_i, hh, bz_i, bz_iR]
    by_cases q : hd G (stg G mone) 13 (3 * l + p) = true
    · rw [if_pos q, if_pos q]
    · rw [if_neg q, if_neg q]
  · simp (disch := omega) only [nlit, n_add, n_mul, ob_s, rb_s, tb_s, tb_x, st_s, gz_0, gz_1, gz_b, rdA_n, wrS_n, nI_cl, sU_s, sU_n, le_t, le_f, lt_t, lt_f, eq_t, eq_f, le_tR, le_tL, le_fR, le_fL, lt_tR, lt_tL, lt_fR, lt_fL, eq_tR, eq_tL, eq_fR, eq_fL, ↓m1, eq_m, eq_mR, eq_mm, eq_mmR, tt_i, ff_i, M_lengthOf C2 W (l := l) (p := p) (by omega) hp r9 (fun x _ => FL_le), M_told] <;> rfl
  · have hh := M_priceOf C2 W (l := l) (p := p) (by omega) hp r10 (fun x _ => FL_le)
    rw [show pv G (3 * l + p) 3 = orN (cs G 1 (FL G 1) (3 * l + p)) from rfl]
    unfold orN
    by_cases q : cs G 1 (FL G 1) (3 * l + p) < 9999
    · rw [if_pos q] at hh ⊢
      simp (disch := omega) only [nlit, n_add, n_mul, ob_s, rb_s, tb_s, tb_x, st_s, gz_0, gz_1, gz_b, rdA_n, wrS_n, nI_cl, sU_s, sU_n, le_t, le_f, lt_t, lt_f, eq_t, eq_f, le_tR, le_tL, le_fR, le_fL, lt_tR, lt_tL, lt_fR, lt_fL, eq_tR, eq_tL, eq_fR, eq_fL, ↓m1, eq_m, eq_mR, eq_mm, eq_mmR, tt_i, ff_i, hh]
    · rw [if_neg q] at hh ⊢
      simp (disch := omega) only [nlit, n_add, n_mul, ob_s, rb_s, tb_s, tb_x, st_s, gz_0, gz_1, gz_b, rdA_n, wrS_n, nI_cl, sU_s, sU_n, le_t, le_f, lt_t, lt_f, eq_t, eq_f, le_tR, le_tL, le_fR, le_fL, lt_tR, lt_tL, lt_fR, lt_fL, eq_tR, eq_tL, eq_fR, eq_fL, ↓m1, eq_m, eq_mR, eq_mm, eq_mmR, tt_i, ff_i, hh]
noncomputable def bst (G : GS) (l : Nat) : Nat → Nat → Int32 → Nat → Int32
  | _, 0, b, _ => b
  | p, m + 1, b, c => if c ≤ cs G 0 (FL G 0) (3 * l + p) then bst G l (p + 1) m b c else bst G l (p + 1) m (nI p) (cs G 0 (FL G 0) (3 * l + p))
end READS
