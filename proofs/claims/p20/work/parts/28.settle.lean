section SETTLE
variable {S : XS} {G : GS}
def SI (S : XS) (G : GS) : Prop := Cp S G ∧ Rw S 8 (G 14 0) (stg G mone) ∧ Rw S 9 (G 14 0) (FL G 0) ∧ Rw S 10 (G 14 0) (FL G 1) ∧ Rw S 12 (G 14 0) (fun l => lst G l l (G 14 0)) ∧ S 15 0 = nI (cnt G mone)
def Kp (S S' : XS) : Prop := ∀ j, j < 8 ∨ j = 14 → S' j = S j
theorem Kp.rf : Kp S S := fun _ _ => rfl
theorem Kp.tr {S S' S'' : XS} (h : Kp S S') (h' : Kp S' S'') : Kp S S'' := fun j hj => (h' j hj).trans (h j hj)
theorem Kp.cp {S' : XS} (h : Kp S S') (C : Cp S G) : Cp S' G := by
  unfold Cp
  rw [h 14 (by omega), h 1 (by omega), h 2 (by omega), h 3 (by omega), h 4 (by omega), h 5 (by omega), h 6 (by omega), h 7 (by omega)]
  exact C
theorem Ro.kp {S' : XS} {k : Nat} (h : Ro S S' k) (hk : 8 ≤ k ∧ k ≠ 14) : Kp S S' := fun j hj => h j (by omega)
theorem Rw.mv {S S' : XS} {k n : Nat} {r : Nat → Nat} (h : Rw S k n r) (e : S' k = S k) : Rw S' k n r := fun x hx => by rw [e]; exact h x hx
def PS2 (G : GS) (S1 : XS) (y m : Nat) (S : XS) (res : Option (Int32 × XS)) : Prop := Ro S1 S 12 → (∀ x, x < y → S 12 x = nI (lst G x x (G 14 0))) → ∃ S', Ro S1 S' 12 ∧ Rw S' 12 (G 14 0) (fun l => lst G l l (G 14 0)) ∧ res = some (0, S')
theorem X_circles {S1 : XS} (C1 : Cp S1 G) (W : WG G) (K : Mk S1 G) : ∀ m y N S, 0 ≤ y → y + m = G 14 0 → m < N → PS2 G S1 y m S (itr2 mX_settle_F60 N S (nI y)) := by
  have w0 := W.1
  refine itr2_r (PS2 G S1) 0 (G 14 0) ?_ ?_
  · intro ih S hR h0
    have C := hR.cp (by omega) C1
    refine ⟨S, hR, fun x hx => h0 x hx, ?_⟩
    unfold mX_settle_F60
    rw [C.1]
    simp (disch := omega) only [nlit, n_add, n_mul, ob_s, rb_s, tb_s, tb_x, st_s, gz_0, gz_1, gz_b, rdA_n, wrS_n, nI_cl, sU_s, sU_n, le_t, le_f, lt_t, lt_f, eq_t, eq_f, le_tR, le_tL, le_fR, le_fL, lt_tR, lt_tL, lt_fR, lt_fL, eq_tR, eq_tL, eq_fR, eq_fL, ↓m1, eq_m, eq_mR, eq_mm, eq_mmR, tt_i, ff_i]
  · intro y m ih _ hy hih S hR h0
    have C := hR.cp (by omega) C1
    have K2 : Mk S G := fun l hl t ht => by rw [hR 11 (by omega)]; exact K l hl t ht
    unfold mX_settle_F60
    rw [C.1]
    simp (disch := omega) only [nlit, n_add, n_mul, ob_s, rb_s, tb_s, tb_x, st_s, gz_0, gz_1, gz_b, rdA_n, wrS_n, nI_cl, sU_s, sU_n, le_t, le_f, lt_t, lt_f, eq_t, eq_f, le_tR, le_tL, le_fR, le_fL, lt_tR, lt_tL, lt_fR, lt_fL, eq_tR, eq_tL, eq_fR, eq_fL, ↓m1, eq_m, eq_mR, eq_mm, eq_mmR, tt_i, ff_i, X_circle C W K2 (l := y) (by omega)]
    refine hih _ hR.sU fun x hx => ?_
    rw [sU_s]
    unfold upd
    by_cases e : x = y
    · rw [if_pos e, e]
    · rw [if_neg e]; exact h0 x (by omega)
def PS1 (G : GS) (S1 : XS) (y m : Nat) (S : XS) (res : Option (Int32 × XS)) : Prop := Ro S1 S 11 → (∀ x, x < y → ∀ t, t < 12 → bt (S 11 x) t = ld G x t) → ∃ S', (∀ j, j ≠ 11 → j ≠ 12 → S' j = S1 j) ∧ Rw S' 12 (G 14 0) (fun l => lst G l l (G 14 0)) ∧ res = some (0, S')
theorem X_masks {S1 : XS} (C1 : Cp S1 G) (W : WG G) : ∀ m y N S, 0 ≤ y → y + m = G 14 0 → m < N → PS1 G S1 y m S (itr2 mX_settle_F33 N S (nI y)) := by
  have w0 := W.1
  refine itr2_r (PS1 G S1) 0 (G 14 0) ?_ ?_
  · intro ih S hR h0
    have C := hR.cp (by omega) C1
    obtain ⟨S', h1, h2, h3⟩ := X_circles (S1 := S) C W h0 (G 14 0) 0 FUEL S (by omega) (by omega) (fuel_gt (by omega)) (fun _ _ => rfl) (fun x hx => by omega)
    refine ⟨S', fun j j1 j2 => (h1 j j2).trans (hR j j1), h2, ?_⟩
    unfold mX_settle_F33
    rw [C.1]
    simp (disch := omega) only [nlit, n_add, n_mul, ob_s, rb_s, tb_s, tb_x, st_s, gz_0, gz_1, gz_b, rdA_n, wrS_n, nI_cl, sU_s, sU_n, le_t, le_f, lt_t, lt_f, eq_t, eq_f, le_tR, le_tL, le_fR, le_fL, lt_tR, lt_tL, lt_fR, lt_fL, eq_tR, eq_tL, eq_fR, eq_fL, ↓m1, eq_m, eq_mR, eq_mm, eq_mmR, tt_i, ff_i]
    exact h3
  · intro y m ih _ hy hih S hR h0
    have C := hR.cp (by omega) C1
    obtain ⟨v, h1, h2⟩ := X_cited C W (l := y) (by omega)
    unfold mX_settle_F33
    rw [C.1]
    simp (disch := omega) only [nlit, n_add, n_mul, ob_s, rb_s, tb_s, tb_x, st_s, gz_0, gz_1, gz_b, rdA_n, wrS_n, nI_cl, sU_s, sU_n, le_t, le_f, lt_t, lt_f, eq_t, eq_f, le_tR, le_tL, le_fR, le_fL, lt_tR, lt_tL, lt_fR, lt_fL, eq_tR, eq_tL, eq_fR, eq_fL, ↓m1, eq_m, eq_mR, eq_mm, eq_mmR, tt_i, ff_i, h1]
    refine hih _ hR.sU fun x hx t ht => ?_
    rw [sU_s]
    unfold upd
    by_cases e : x = y
    · rw [if_pos e, e]; exact h2 t ht
    · rw [if_neg e]; exact h0 x (by omega) t ht
theorem X_settle (C : Cp S G) (W : WG G) : ∃ S', SI S' G ∧ Kp S S' ∧ mX_settle S = some (0, S') := by
  have w0 := W.1
  unfold mX_settle
  rw [show (-1 : Int32) = mone from rfl]
  obtain ⟨S7, h7, r7, e7⟩ := X_prove C W (kk := 8) (by omega) (b := mone)
  have C7 := h7.cp (by omega) C
  have h10 : Ro S7 (sU S7 15 (fun _ => nI (cnt G mone))) 15 := fun j hj => sU_n hj
  have C10 := h10.cp (by omega) C7
  obtain ⟨S19, h19, r19, e19⟩ := X_reckon C10 W (kk := 9) (k := 0) (by omega) (by omega)
  have C19 := h19.cp (by omega) C10
  obtain ⟨S28, h28, r28, e28⟩ := X_reckon C19 W (kk := 10) (k := 1) (by omega) (by omega)
  have C28 := h28.cp (by omega) C19
  obtain ⟨S', h1, h2, h3⟩ := X_masks C28 W (G 14 0) 0 FUEL S28 (by omega) (by omega) (fuel_gt (by omega)) (fun _ _ => rfl) (fun x hx => by omega)
  have k8 : S' 8 = S7 8 := (h1 8 (by omega) (by omega)).trans ((h28 8 (by omega)).trans ((h19 8 (by omega)).trans (h10 8 (by omega))))
  have k9 : S' 9 = S19 9 := (h1 9 (by omega) (by omega)).trans (h28 9 (by omega))
  have k10 : S' 10 = S28 10 := h1 10 (by omega) (by omega)
  have k15 : S' 15 = fun _ => nI (cnt G mone) := (h1 15 (by omega) (by omega)).trans ((h28 15 (by omega)).trans ((h19 15 (by omega)).trans sU_s))
  have kk : Kp S S' := fun j hj => (h1 j (by omega) (by omega)).trans ((h28 j (by omega)).trans ((h19 j (by omega)).trans ((h10 j (by omega)).trans (h7 j (by omega)))))
  refine ⟨S', ⟨kk.cp C, r7.mv k8, r19.mv k9, r28.mv k10, h2, by rw [k15]⟩, kk, ?_⟩
  rw [e7, rb_s, st_s, show (0 : Int32) = nI 0 from rfl, e19, rb_s, show (1 : Int32) = nI 1 from rfl, e28, rb_s, h3]
  rfl
theorem SI.ro13 {S' : XS} (h : SI S G) (r : Ro S S' 13) : SI S' G := by
  obtain ⟨h1, h2, h3, h4, h5, h6⟩ := h
  exact ⟨r.cp (by omega) h1, h2.mv (r 8 (by omega)), h3.mv (r 9 (by omega)), h4.mv (r 10 (by omega)), h5.mv (r 12 (by omega)), by rw [r 15 (by omega)]; exact h6⟩
-- what the two tell
def Mo (T T' : XS) : Prop := ∀ j, j < 8 ∨ j = 14 ∨ j = 15 → T' j = T j
theorem Mo.rf {T : XS} : Mo T T := fun _ _ => rfl
theorem Mo.tr {T T' T'' : XS} (h : Mo T T') (h' : Mo T' T'') : Mo T T'' := fun j hj => (h' j hj).trans (h j hj)
theorem Mo.cp {T T' : XS} (h : Mo T T') (C : Cp T G) : Cp T' G := Kp.cp (fun j hj => h j (by omega)) C
theorem Ro.mo {T T' : XS} {k : Nat} (h : Ro T T' k) (hk : 8 ≤ k ∧ k ≠ 14 ∧ k ≠ 15) : Mo T T' := fun j hj => h j (by omega)
theorem Ro2.mo {T T' : XS} (h : Ro2 T T') : Mo T T' := fun j hj => h j (by omega) (by omega)
def orN (v : Nat) : Int32 := if v < 9999 then nI v else mone
theorem X_orNone {v : Nat} (h : v < 100000) : mX_orNone (nI v) = some (orN v) := by
  unfold mX_orNone orN
  simp (disch := omega) only [nlit, n_add, n_mul, ob_s, rb_s, tb_s, tb_x, st_s, gz_0, gz_1, gz_b, rdA_n, wrS_n, nI_cl, sU_s, sU_n, le_t, le_f, lt_t, lt_f, eq_t, eq_f, le_tR, le_tL, le_fR, le_fL, lt_tR, lt_tL, lt_fR, lt_fL, eq_tR, eq_tL, eq_fR, eq_fL, ↓m1, eq_m, eq_mR, eq_mm, eq_mmR, tt_i, ff_i, lt_i, lt_iR, lt_iL]
  split <;> rfl
def stp (G : GS) (l : Nat) : Nat := sumR (fun p => G 3 (3 * l + p)) 0 (G 2 l)
def opn (G : GS) (l : Nat) : Nat := sumR (fun p => sumR (G 6) (5 * (3 * l + p)) (G 3 (3 * l + p))) 0 (G 2 l)
theorem X_stepsOf (C : Cp S G) (W : WG G) {l : Nat} (hl : l < 12) : mX_stepsOf S (nI l) = some (nI (stp G l)) := by
  have c2 := C.2.2.1
  have c3 := C.2.2.2.1
  have w2 := (W.2.2.1 l hl).1
  unfold mX_stepsOf stp
  rw [show (0 : Int32) = nI 0 from rfl, itr2_n (fun p m a => some (nI (a + sumR (fun p => G 3 (3 * l + p)) p m))) 0 (G 2 l) ?_ ?_ (G 2 l) 0 FUEL 0 (by omega) (by omega) (fuel_gt (by omega)), Nat.zero_add]
  · intro ih a
    unfold mX_stepsOf_F4
    simp (disch := omega) only [nlit, n_add, n_mul, ob_s, rb_s, tb_s, tb_x, st_s, gz_0, gz_1, gz_b, rdA_n, wrS_n, nI_cl, sU_s, sU_n, le_t, le_f, lt_t, lt_f, eq_t, eq_f, le_tR, le_tL, le_fR, le_fL, lt_tR, lt_tL, lt_fR, lt_fL, eq_tR, eq_tL, eq_fR, eq_fL, ↓m1, eq_m, eq_mR, eq_mm, eq_mmR, tt_i, ff_i, c2]
    rfl
  · intro p m ih _ hp hih a
    unfold mX_stepsOf_F4
    simp (disch := omega) only [nlit, n_add, n_mul, ob_s, rb_s, tb_s, tb_x, st_s, gz_0, gz_1, gz_b, rdA_n, wrS_n, nI_cl, sU_s, sU_n, le_t, le_f, lt_t, lt_f, eq_t, eq_f, le_tR, le_tL, le_fR, le_fL, lt_tR, lt_tL, lt_fR, lt_fL, eq_tR, eq_tL, eq_fR, eq_fL, ↓m1, eq_m, eq_mR, eq_mm, eq_mmR, tt_i, ff_i, c2, X_slotOf, c3]
    rw [hih, Nat.add_assoc]
    rfl
theorem X_openOf (C : Cp S G) (W : WG G) {l : Nat} (hl : l < 12) : mX_openOf S (nI l) = some (nI (opn G l)) := by
  have c2 := C.2.2.1
  have w2 := (W.2.2.1 l hl).1
  unfold mX_openOf opn
  rw [show (0 : Int32) = nI 0 from rfl, itr2_n (fun p m a => some (nI (a + sumR (fun p => sumR (G 6) (5 * (3 * l + p)) (G 3 (3 * l + p))) p m))) 0 (G 2 l) ?_ ?_ (G 2 l) 0 FUEL 0 (by omega) (by omega) (fuel_gt (by omega)), Nat.zero_add]
  · intro ih a
    unfold mX_openOf_F4
    simp (disch := omega) only [nlit, n_add, n_mul, ob_s, rb_s, tb_s, tb_x, st_s, gz_0, gz_1, gz_b, rdA_n, wrS_n, nI_cl, sU_s, sU_n, le_t, le_f, lt_t, lt_f, eq_t, eq_f, le_tR, le_tL, le_fR, le_fL, lt_tR, lt_tL, lt_fR, lt_fL, eq_tR, eq_tL, eq_fR, eq_fL, ↓m1, eq_m, eq_mR, eq_mm, eq_mmR, tt_i, ff_i, c2]
    rfl
  · intro p m ih _ hp hih a
    have hj : 3 * l + p < 36 := by omega
    have h3 := W.2.2.2.1 _ hj
    unfold mX_openOf_F4
    simp (disch := omega) only [nlit, n_add, n_mul, ob_s, rb_s, tb_s, tb_x, st_s, gz_0, gz_1, gz_b, rdA_n, wrS_n, nI_cl, sU_s, sU_n, le_t, le_f, lt_t, lt_f, eq_t, eq_f, le_tR, le_tL, le_fR, le_fL, lt_tR, lt_tL, lt_fR, lt_fL, eq_tR, eq_tL, eq_fR, eq_fL, ↓m1, eq_m, eq_mR, eq_mm, eq_mmR, tt_i, ff_i, c2, X_slotOf, X_first]
    rw [itr2_n (fun i m2 a => ih (nI (a + sumR (G 6) i m2)) (nI (p + 1))) (5 * (3 * l + p)) (5 * (3 * l + p) + G 3 (3 * l + p)) ?_ ?_ (G 3 (3 * l + p)) (5 * (3 * l + p)) FUEL a (by omega) (by omega) (fuel_gt (by omega))]
    · rw [hih, Nat.add_assoc]
      rfl
    · intro ih2 a
      unfold mX_openOf_F28
      rw [X_end C hj]
      simp (disch := omega) only [nlit, n_add, n_mul, ob_s, rb_s, tb_s, tb_x, st_s, gz_0, gz_1, gz_b, rdA_n, wrS_n, nI_cl, sU_s, sU_n, le_t, le_f, lt_t, lt_f, eq_t, eq_f, le_tR, le_tL, le_fR, le_fL, lt_tR, lt_tL, lt_fR, lt_fL, eq_tR, eq_tL, eq_fR, eq_fL, ↓m1, eq_m, eq_mR, eq_mm, eq_mmR, tt_i, ff_i]
      rfl
    · intro i m2 ih2 hi0 hi hih2 a
      obtain ⟨e4, e5, e6, e7⟩ := C.2.2.2.2 _ i hj hi0 (by omega)
      unfold mX_openOf_F28
      rw [X_end C hj]
      simp (disch := omega) only [nlit, n_add, n_mul, ob_s, rb_s, tb_s, tb_x, st_s, gz_0, gz_1, gz_b, rdA_n, wrS_n, nI_cl, sU_s, sU_n, le_t, le_f, lt_t, lt_f, eq_t, eq_f, le_tR, le_tL, le_fR, le_fL, lt_tR, lt_tL, lt_fR, lt_fL, eq_tR, eq_tL, eq_fR, eq_fL, ↓m1, eq_m, eq_mR, eq_mm, eq_mmR, tt_i, ff_i, e6]
      rw [hih2, Nat.add_assoc]
      rfl
noncomputable def tv (G : GS) (l q : Nat) : Int32 := if q = 0 then nI (G 2 l) else if q = 1 then nI (stp G l) else if q = 2 then nI (stg G mone l) else if q = 3 then orN (FL G 0 l) else if q = 4 then orN (FL G 1 l) else if q = 5 then nI (opn G l) else nI (lst G l l (G 14 0))
theorem X_tells (I : SI S G) (W : WG G) {l q : Nat} (hl : l < G 14 0) (hq : q < 7) : mX_lemmaTells S (nI l) (nI q) = some (tv G l q) := by
  obtain ⟨C, h8, h9, h10, h12, h15⟩ := I
  have w0 := W.1
  have c2 := C.2.2.1
  have f0 := FL_le (G := G) (k := 0) (l := l)
  have f1 := FL_le (G := G) (k := 1) (l := l)
  unfold mX_lemmaTells tv
  rcases (show q = 0 ∨ q = 1 ∨ q = 2 ∨ q = 3 ∨ q = 4 ∨ q = 5 ∨ q = 6 by omega) with rfl | rfl | rfl | rfl | rfl | rfl | rfl
  · simp (disch := omega) only [nlit, n_add, n_mul, ob_s, rb_s, tb_s, tb_x, st_s, gz_0, gz_1, gz_b, rdA_n, wrS_n, nI_cl, sU_s, sU_n, le_t, le_f, lt_t, lt_f, eq_t, eq_f, le_tR, le_tL, le_fR, le_fL, lt_tR, lt_tL, lt_fR, lt_fL, eq_tR, eq_tL, eq_fR, eq_fL, ↓m1, eq_m, eq_mR, eq_mm, eq_mmR, tt_i, ff_i, c2] <;> rfl
  · simp (disch := omega) only [nlit, n_add, n_mul, ob_s, rb_s, tb_s, tb_x, st_s, gz_0, gz_1, gz_b, rdA_n, wrS_n, nI_cl, sU_s, sU_n, le_t, le_f, lt_t, lt_f, eq_t, eq_f, le_tR, le_tL, le_fR, le_fL, lt_tR, lt_tL, lt_fR, lt_fL, eq_tR, eq_tL, eq_fR, eq_fL, ↓m1, eq_m, eq_mR, eq_mm, eq_mmR, tt_i, ff_i, X_stepsOf C W (l := l) (by omega)] <;> rfl
  · simp (disch := omega) only [nlit, n_add, n_mul, ob_s, rb_s, tb_s, tb_x, st_s, gz_0, gz_1, gz_b, rdA_n, wrS_n, nI_cl, sU_s, sU_n, le_t, le_f, lt_t, lt_f, eq_t, eq_f, le_tR, le_tL, le_fR, le_fL, lt_tR, lt_tL, lt_fR, lt_fL, eq_tR, eq_tL, eq_fR, eq_fL, ↓m1, eq_m, eq_mR, eq_mm, eq_mmR, tt_i, ff_i, h8 l hl] <;> rfl
  · simp (disch := omega) only [nlit, n_add, n_mul, ob_s, rb_s, tb_s, tb_x, st_s, gz_0, gz_1, gz_b, rdA_n, wrS_n, nI_cl, sU_s, sU_n, le_t, le_f, lt_t, lt_f, eq_t, eq_f, le_tR, le_tL, le_fR, le_fL, lt_tR, lt_tL, lt_fR, lt_fL, eq_tR, eq_tL, eq_fR, eq_fL, ↓m1, eq_m, eq_mR, eq_mm, eq_mmR, tt_i, ff_i, h9 l hl, X_orNone] <;> rfl
  · simp (disch := omega) only [nlit, n_add, n_mul, ob_s, rb_s, tb_s, tb_x, st_s, gz_0, gz_1, gz_b, rdA_n, wrS_n, nI_cl, sU_s, sU_n, le_t, le_f, lt_t, lt_f, eq_t, eq_f, le_tR, le_tL, le_fR, le_fL, lt_tR, lt_tL, lt_fR, lt_fL, eq_tR, eq_tL, eq_fR, eq_fL, ↓m1, eq_m, eq_mR, eq_mm, eq_mmR, tt_i, ff_i, h10 l hl, X_orNone] <;> rfl
  · simp (disch := omega) only [nlit, n_add, n_mul, ob_s, rb_s, tb_s, tb_x, st_s, gz_0, gz_1, gz_b, rdA_n, wrS_n, nI_cl, sU_s, sU_n, le_t, le_f, lt_t, lt_f, eq_t, eq_f, le_tR, le_tL, le_fR, le_fL, lt_tR, lt_tL, lt_fR, lt_fL, eq_tR, eq_tL, eq_fR, eq_fL, ↓m1, eq_m, eq_mR, eq_mm, eq_mmR, tt_i, ff_i, X_openOf C W (l := l) (by omega)] <;> rfl
  · simp (disch := omega) only [nlit, n_add, n_mul, ob_s, rb_s, tb_s, tb_x, st_s, gz_0, gz_1, gz_b, rdA_n, wrS_n, nI_cl, sU_s, sU_n, le_t, le_f, lt_t, lt_f, eq_t, eq_f, le_tR, le_tL, le_fR, le_fL, lt_tR, lt_tL, lt_fR, lt_fL, eq_tR, eq_tL, eq_fR, eq_fL, ↓m1, eq_m, eq_mR, eq_mm, eq_mmR, tt_i, ff_i, h12 l hl] <;> rfl
end SETTLE
