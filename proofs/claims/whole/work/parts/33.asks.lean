section ASKS
variable {S T : XS} {G : GS}
theorem o_step (I : SI S G) (C : Cp T G) (W : WG G) (v1 v2 v3 v4 : Int32) : Out cd_step S T (upR S (mX_step S v1 v2 v3 v4)) (mM_step T v1 v2 v3 v4) := by
  have F0 : Fl T (sU T 15 (fun _ => nI 0)) 0 := Fl.set
  have C0 := F0.cp C
  unfold mX_step mM_step
  rw [show (0 : Int32) = nI 0 from rfl, show (1 : Int32) = nI 1 from rfl, show (3 : Int32) = nI (4 - 1) from rfl, show (4 : Int32) = nI 4 from rfl, st_s]
  rcases G_step I.1 C0 W v1 v2 v3 with ⟨l, p, k, hl, hp, hk, rfl, rfl, rfl⟩ | ⟨h1, h2⟩
  · have w0 := W.1
    have w2 := (W.2.2.1 l (by omega)).1
    have w3 := W.2.2.2.1 (3 * l + p) (by omega)
    rw [X_reqS_in I.1 W hl hp hk, tb_s, M_isStep_in C0 W hl hp hk, ob_s, if_neg (by decide)]
    rcases G_ask v4 4 (by omega) with ⟨q, hq, rfl⟩ | ⟨h1, h2⟩
    · rw [X_ask_in hq (by omega), tb_s, X_stepAt, ob_s, X_stepTells I.1 W (j := 3 * l + p) (by omega) (by omega) (by omega) hq, ob_s, isIn_n (by omega) (by omega) (by omega), ob_s, if_pos (show 0 ≤ q ∧ q ≤ 4 - 1 by omega), if_neg (by decide), M_at, ob_s, M_stepTold C0 W (j := 3 * l + p) (by omega) (by omega) (by omega) hq, ob_s]
      exact Or.inl ⟨G, _, S, _, rfl, rfl, I, C0, W, F0.fz⟩
    · rw [h1, tb_x, h2, ob_s, if_pos rfl, M_no, rb_s]
      exact Out.bad I C W rfl rfl (k := 1) (by omega) (by omega) rfl Fl2
  · rw [h1, tb_x, h2, ob_s, if_pos rfl, M_no, rb_s]
    exact Out.bad I C W rfl rfl (k := 1) (by omega) (by omega) rfl Fl2
theorem X_about4 (I : SI S G) (W : WG G) {l p q : Nat} (hl : l < G 14 0) (hp : p < G 2 l) (hq : q < 4) : mX_about S (nI l) (nI p) (nI q) = some (.inl (pv G (3 * l + p) q)) := by
  have C := I.1
  have w0 := W.1
  have c3 := C.2.2.2.1
  have w2 := (W.2.2.1 l (by omega)).1
  have hcl := cs_le (G := G) (k := 0) (r := FL G 0) (j := 3 * l + p)
  have hcp := cs_le (G := G) (k := 1) (r := FL G 1) (j := 3 * l + p)
  have hst : ∀ x, stg G mone x ≤ G 14 0 := fun x => stg_le x
  unfold mX_about
  rw [X_reqP_in C W hl hp, tb_s, show (4 : Int32) = nI 4 from rfl, X_ask_in hq (by omega), tb_s, X_slotOf, ob_s]
  rcases (show q = 0 ∨ q = 1 ∨ q = 2 ∨ q = 3 by omega) with rfl | rfl | rfl | rfl
  · simp (disch := omega) only [nlit, n_add, n_mul, ob_s, rb_s, tb_s, tb_x, st_s, gz_0, gz_1, gz_b, rdA_n, wrS_n, nI_cl, sU_s, sU_n, le_t, le_f, lt_t, lt_f, eq_t, eq_f, le_tR, le_tL, le_fR, le_fL, lt_tR, lt_tL, lt_fR, lt_fL, eq_tR, eq_tL, eq_fR, eq_fL, ↓m1, eq_m, eq_mR, eq_mm, eq_mmR, tt_i, ff_i, c3] <;> rfl
  · have hh := X_holds C W (j := 3 * l + p) (k := 8) (st := 13) (by omega) I.2.1 (fun x _ => by have := hst x; omega) (by omega)
    rw [show pv G (3 * l + p) 1 = if hd G (stg G mone) 13 (3 * l + p) = true then nI 1 else nI 0 from rfl]
    simp (disch := omega) only [nlit, n_add, n_mul, ob_s, rb_s, tb_s, tb_x, st_s, gz_0, gz_1, gz_b, rdA_n, wrS_n, nI_cl, sU_s, sU_n, le_t, le_f, lt_t, lt_f, eq_t, eq_f, le_tR, le_tL, le_fR, le_fL, lt_tR, lt_tL, lt_fR, lt_fL, eq_tR, eq_tL, eq_fR, eq_fL, ↓m1, eq_m, eq_mR, eq_mm, eq_mmR, tt_i, ff_i, hh, bz_i, bz_iR]
    by_cases q : hd G (stg G mone) 13 (3 * l + p) = true
    · rw [if_pos q, if_pos q]
    · rw [if_neg q, if_neg q]
  · have hh := X_costOfProof C W (j := 3 * l + p) (k := 0) (kk := 9) (by omega) I.2.2.1 (fun x _ => FL_le) (by omega)
    simp (disch := omega) only [nlit, n_add, n_mul, ob_s, rb_s, tb_s, tb_x, st_s, gz_0, gz_1, gz_b, rdA_n, wrS_n, nI_cl, sU_s, sU_n, le_t, le_f, lt_t, lt_f, eq_t, eq_f, le_tR, le_tL, le_fR, le_fL, lt_tR, lt_tL, lt_fR, lt_fL, eq_tR, eq_tL, eq_fR, eq_fL, ↓m1, eq_m, eq_mR, eq_mm, eq_mmR, tt_i, ff_i, hh, X_orNone] <;> rfl
  · have hh := X_costOfProof C W (j := 3 * l + p) (k := 1) (kk := 10) (by omega) I.2.2.2.1 (fun x _ => FL_le) (by omega)
    simp (disch := omega) only [nlit, n_add, n_mul, ob_s, rb_s, tb_s, tb_x, st_s, gz_0, gz_1, gz_b, rdA_n, wrS_n, nI_cl, sU_s, sU_n, le_t, le_f, lt_t, lt_f, eq_t, eq_f, le_tR, le_tL, le_fR, le_fL, lt_tR, lt_tL, lt_fR, lt_fL, eq_tR, eq_tL, eq_fR, eq_fL, ↓m1, eq_m, eq_mR, eq_mm, eq_mmR, tt_i, ff_i, hh, X_orNone] <;> rfl
theorem o_about (I : SI S G) (C : Cp T G) (W : WG G) (v1 v2 v3 : Int32) : Out cd_about S T (upR S (mX_about S v1 v2 v3)) (mM_about T v1 v2 v3) := by
  have F0 : Fl T (sU T 15 (fun _ => nI 0)) 0 := Fl.set
  have C0 := F0.cp C
  unfold mM_about
  rw [show (0 : Int32) = nI 0 from rfl, show (1 : Int32) = nI 1 from rfl, show (3 : Int32) = nI (4 - 1) from rfl, st_s]
  rcases G_proof I.1 C0 W v1 v2 with ⟨l, p, hl, hp, rfl, rfl⟩ | ⟨h1, h2⟩
  · have w0 := W.1
    have w2 := (W.2.2.1 l (by omega)).1
    rw [M_isProof_in C0 W hl hp, ob_s, if_neg (by decide)]
    rcases G_ask v3 4 (by omega) with ⟨q, hq, rfl⟩ | ⟨h1, h2⟩
    · obtain ⟨T', k1, k2⟩ := M_proofTold C0 W (l := l) (p := p) (q := q) hl (by omega) hq
      rw [X_about4 I W hl hp hq, isIn_n (by omega) (by omega) (by omega), ob_s, if_pos (show 0 ≤ q ∧ q ≤ 4 - 1 by omega), if_neg (by decide), k2, rb_s]
      exact Or.inl ⟨G, _, S, T', rfl, rfl, I, k1.cp C0, W, (F0.mo k1).fz⟩
    · have hx : mX_about S (nI l) (nI p) v3 = some (.inr 1) := by
        unfold mX_about
        rw [X_reqP_in I.1 W hl hp, tb_s, show (4 : Int32) = nI 4 from rfl, h1, tb_x]
      rw [hx, h2, ob_s, if_pos rfl, M_no, rb_s]
      exact Out.bad I C W rfl rfl (k := 1) (by omega) (by omega) rfl Fl2
  · have hx : mX_about S v1 v2 v3 = some (.inr 1) := by
      unfold mX_about
      rw [h1, tb_x]
    rw [hx, h2, ob_s, if_pos rfl, M_no, rb_s]
    exact Out.bad I C W rfl rfl (k := 1) (by omega) (by omega) rfl Fl2
theorem o_count (I : SI S G) (C : Cp T G) (W : WG G) (v1 : Int32) : Out cd_count S T (upR S (mX_count S v1)) (mM_count T v1) := by
  have F0 : Fl T (sU T 15 (fun _ => nI 0)) 0 := Fl.set
  have C0 := F0.cp C
  unfold mX_count mM_count
  rw [show (0 : Int32) = nI 0 from rfl, show (1 : Int32) = nI 1 from rfl, show (6 : Int32) = nI (7 - 1) from rfl, show (7 : Int32) = nI 7 from rfl, st_s]
  rcases G_ask v1 7 (by omega) with ⟨q, hq, rfl⟩ | ⟨h1, h2⟩
  · obtain ⟨T', k1, k2⟩ := M_counted C0 W (q := q) hq
    rw [X_ask_in hq (by omega), tb_s, X_countOf I W hq, ob_s, isIn_n (by omega) (by omega) (by omega), ob_s, if_pos (show 0 ≤ q ∧ q ≤ 7 - 1 by omega), if_neg (by decide), k2, rb_s]
    exact Or.inl ⟨G, _, S, T', rfl, rfl, I, k1.cp C0, W, (F0.mo k1).fz⟩
  · rw [h1, tb_x, h2, ob_s, if_pos rfl, M_no, rb_s]
    exact Out.bad I C W rfl rfl (k := 1) (by omega) (by omega) rfl Fl2
theorem X_bestL (I : SI S G) (W : WG G) {l : Nat} (hl : l < G 14 0) : itr3 (mX_best_F14 S (nI l)) FUEL mone (nI 9999) (nI 0) = some (.inl (bst G l 0 (G 2 l) mone 9999)) := by
  have C := I.1
  have w0 := W.1
  have c2 := C.2.2.1
  have w2 := (W.2.2.1 l (by omega)).1
  refine itr3_r (F := mX_best_F14 S (nI l)) (fun p m b c res => ∀ n, c = nI n → n ≤ 9999 → res = some (.inl (bst G l p m b n))) 0 (G 2 l) ?_ ?_ (G 2 l) 0 FUEL mone (nI 9999) (by omega) (by omega) (fuel_gt (by omega)) 9999 rfl (Nat.le_refl _)
  · intro ih b c n hc hn
    unfold mX_best_F14
    rw [hc]
    simp (disch := omega) only [nlit, n_add, n_mul, ob_s, rb_s, tb_s, tb_x, st_s, gz_0, gz_1, gz_b, rdA_n, wrS_n, nI_cl, sU_s, sU_n, le_t, le_f, lt_t, lt_f, eq_t, eq_f, le_tR, le_tL, le_fR, le_fL, lt_tR, lt_tL, lt_fR, lt_fL, eq_tR, eq_tL, eq_fR, eq_fL, ↓m1, eq_m, eq_mR, eq_mm, eq_mmR, tt_i, ff_i, c2]
    rfl
  · intro p m ih _ hp hih b c n hc hn
    have hcl := cs_le (G := G) (k := 0) (r := FL G 0) (j := 3 * l + p)
    have hh := X_costOfProof C W (j := 3 * l + p) (k := 0) (kk := 9) (by omega) I.2.2.1 (fun x _ => FL_le) (by omega)
    unfold mX_best_F14
    rw [hc]
    simp (disch := omega) only [nlit, n_add, n_mul, ob_s, rb_s, tb_s, tb_x, st_s, gz_0, gz_1, gz_b, rdA_n, wrS_n, nI_cl, sU_s, sU_n, le_t, le_f, lt_t, lt_f, eq_t, eq_f, le_tR, le_tL, le_fR, le_fL, lt_tR, lt_tL, lt_fR, lt_fL, eq_tR, eq_tL, eq_fR, eq_fL, ↓m1, eq_m, eq_mR, eq_mm, eq_mmR, tt_i, ff_i, c2, X_slotOf, hh, le_i, le_iR, le_iL]
    rw [show bst G l p (m + 1) b n = if n ≤ cs G 0 (FL G 0) (3 * l + p) then bst G l (p + 1) m b n else bst G l (p + 1) m (nI p) (cs G 0 (FL G 0) (3 * l + p)) from rfl]
    by_cases q : n ≤ cs G 0 (FL G 0) (3 * l + p)
    · rw [if_pos q, if_pos q]; exact hih _ _ _ rfl hn
    · rw [if_neg q, if_neg q]; exact hih _ _ _ rfl hcl
theorem M_bestL (C : Cp T G) (W : WG G) (R : Rw T 9 (G 14 0) (FL G 0)) {l : Nat} (hl : l < G 14 0) : itr2 (mM_bestOf_F8 T (nI l)) FUEL mone (nI 0) = some (bst G l 0 (G 2 l) mone 9999, T) := by
  have w0 := W.1
  have c2 := C.2.2.1
  have w2 := (W.2.2.1 l (by omega)).1
  refine itr2_r (F := mM_bestOf_F8 T (nI l)) (fun p m b res => ∀ n, (b = mone ∧ n = 9999) ∨ (∃ x, x < G 2 l ∧ b = nI x ∧ n = cs G 0 (FL G 0) (3 * l + x)) → res = some (bst G l p m b n, T)) 0 (G 2 l) ?_ ?_ (G 2 l) 0 FUEL mone (by omega) (by omega) (fuel_gt (by omega)) 9999 (Or.inl ⟨rfl, rfl⟩)
  · intro ih b n hb
    unfold mM_bestOf_F8
    simp (disch := omega) only [nlit, n_add, n_mul, ob_s, rb_s, tb_s, tb_x, st_s, gz_0, gz_1, gz_b, rdA_n, wrS_n, nI_cl, sU_s, sU_n, le_t, le_f, lt_t, lt_f, eq_t, eq_f, le_tR, le_tL, le_fR, le_fL, lt_tR, lt_tL, lt_fR, lt_fL, eq_tR, eq_tL, eq_fR, eq_fL, ↓m1, eq_m, eq_mR, eq_mm, eq_mmR, tt_i, ff_i, c2]
    rfl
  · intro p m ih _ hp hih b n hb
    have hcl := cs_le (G := G) (k := 0) (r := FL G 0) (j := 3 * l + p)
    have hh := M_lengthOf C W (l := l) (p := p) (by omega) (by omega) R (fun x _ => FL_le)
    rw [show bst G l p (m + 1) b n = if n ≤ cs G 0 (FL G 0) (3 * l + p) then bst G l (p + 1) m b n else bst G l (p + 1) m (nI p) (cs G 0 (FL G 0) (3 * l + p)) from rfl]
    unfold mM_bestOf_F8
    rcases hb with ⟨rfl, rfl⟩ | ⟨x, hx, rfl, rfl⟩
    · simp (disch := omega) only [nlit, n_add, n_mul, ob_s, rb_s, tb_s, tb_x, st_s, gz_0, gz_1, gz_b, rdA_n, wrS_n, nI_cl, sU_s, sU_n, le_t, le_f, lt_t, lt_f, eq_t, eq_f, le_tR, le_tL, le_fR, le_fL, lt_tR, lt_tL, lt_fR, lt_fL, eq_tR, eq_tL, eq_fR, eq_fL, ↓m1, eq_m, eq_mR, eq_mm, eq_mmR, tt_i, ff_i, c2, hh, le_i, le_iR, le_iL]
      by_cases q : 9999 ≤ cs G 0 (FL G 0) (3 * l + p)
      · rw [if_pos q, if_pos q]; exact hih _ _ (Or.inl ⟨rfl, rfl⟩)
      · rw [if_neg q, if_neg q]; exact hih _ _ (Or.inr ⟨p, by omega, rfl, rfl⟩)
    · have hcx := cs_le (G := G) (k := 0) (r := FL G 0) (j := 3 * l + x)
      have hx2 := M_lengthOf C W (l := l) (p := x) (by omega) (by omega) R (fun x _ => FL_le)
      simp (disch := omega) only [nlit, n_add, n_mul, ob_s, rb_s, tb_s, tb_x, st_s, gz_0, gz_1, gz_b, rdA_n, wrS_n, nI_cl, sU_s, sU_n, le_t, le_f, lt_t, lt_f, eq_t, eq_f, le_tR, le_tL, le_fR, le_fL, lt_tR, lt_tL, lt_fR, lt_fL, eq_tR, eq_tL, eq_fR, eq_fL, ↓m1, eq_m, eq_mR, eq_mm, eq_mmR, tt_i, ff_i, c2, hh, hx2, le_i, le_iR, le_iL]
      by_cases q : cs G 0 (FL G 0) (3 * l + x) ≤ cs G 0 (FL G 0) (3 * l + p)
      · rw [if_pos q, if_pos q]; exact hih _ _ (Or.inr ⟨x, hx, rfl, rfl⟩)
      · rw [if_neg q, if_neg q]; exact hih _ _ (Or.inr ⟨p, by omega, rfl, rfl⟩)
theorem o_best (I : SI S G) (C : Cp T G) (W : WG G) (v1 : Int32) : Out cd_best S T (upR S (mX_best S v1)) (mM_best T v1) := by
  have F0 : Fl T (sU T 15 (fun _ => nI 0)) 0 := Fl.set
  have C0 := F0.cp C
  unfold mX_best mM_best mM_bestOf
  rw [show (-1 : Int32) = mone from rfl, show (0 : Int32) = nI 0 from rfl, show (1 : Int32) = nI 1 from rfl, show (9999 : Int32) = nI 9999 from rfl, st_s]
  rcases G_lemma I.1 C0 W v1 with ⟨l, hl, rfl⟩ | ⟨h1, h2⟩
  · obtain ⟨S1, g1, g9, g10, g2⟩ := M_measure C0 W
    rw [X_reqL_in I.1 W hl, tb_s, M_isLemma_in C0 W hl, ob_s, if_neg (by decide), X_bestL I W hl, g2, rb_s, M_bestL (g1.cp C0) W g9 hl, rb_s]
    exact Or.inl ⟨G, _, S, S1, rfl, rfl, I, g1.cp C0, W, (F0.mo g1.mo).fz⟩
  · rw [h1, tb_x, h2, ob_s, if_pos rfl, M_no, rb_s]
    exact Out.bad I C W rfl rfl (k := 1) (by omega) (by omega) rfl Fl2
theorem o_without (I : SI S G) (C : Cp T G) (W : WG G) (v1 : Int32) : Out cd_without S T (mX_without S v1) (mM_without T v1) := by
  have F0 : Fl T (sU T 15 (fun _ => nI 0)) 0 := Fl.set
  have C0 := F0.cp C
  unfold mX_without mM_without
  rw [show (0 : Int32) = nI 0 from rfl, show (1 : Int32) = nI 1 from rfl, st_s]
  rcases G_lemma I.1 C0 W v1 with ⟨l, hl, rfl⟩ | ⟨h1, h2⟩
  · obtain ⟨S1, a1, a2, a3⟩ := X_prove I.1 W (kk := 13) (by omega) (b := nI l)
    obtain ⟨T1, b1, b2, b3⟩ := M_prove C0 W (b := nI l)
    rw [X_reqL_in I.1 W hl, tb_s, M_isLemma_in C0 W hl, ob_s, if_neg (by decide), a3, rb_s, b3, rb_s]
    exact Or.inl ⟨G, _, S1, T1, rfl, rfl, I.ro13 a1, b1.cp (by omega) C0, W, (F0.mo (b1.mo (by omega))).fz⟩
  · rw [h1, tb_x, h2, ob_s, if_pos rfl, M_no, rb_s]
    exact Out.bad I C W rfl rfl (k := 1) (by omega) (by omega) rfl Fl2
def nv (G : GS) (l a : Nat) : Nat := if stg G mone l = 0 then 0 else if stg (gs G 1 a 0) mone l = 0 then 1 else 0
theorem X_needs2 (I : SI S G) (W : WG G) {l a : Nat} (hl : l < G 14 0) (ha : a < 5) : ∃ S', Ro S S' 13 ∧ mX_needs S (nI l) (nI a) = some (.inl (nI (nv G l a), S')) := by
  have w0 := W.1
  have w1 := W.2.1 a ha
  have c1 := I.1.2.1 a ha
  have hs1 := stg_le (G := G) (b := mone) l
  have hs2 := stg_le (G := gs G 1 a 0) (b := mone) l
  rw [gs_n (by omega)] at hs2
  obtain ⟨S1, g1, g2, g3⟩ := X_prove (Cp_gs (k := 1) (i := a) (v := 0) (by omega) I.1) (WG_gs1 W (by omega)) (kk := 13) (by omega) (b := mone)
  rw [gs_n (by omega)] at g2
  have hb : Ro S (sU S1 1 (upd (S1 1) a (S 1 a))) 13 := ro_back (by omega) g1
  have I2 := I.ro13 hb
  have e8 := I2.2.1 l hl
  have e13 : sU S1 1 (upd (S1 1) a (S 1 a)) 13 l = nI (stg (gs G 1 a 0) mone l) := by rw [sU_n (by omega)]; exact g2 l hl
  refine ⟨_, hb, ?_⟩
  unfold mX_needs nv
  rw [X_reqL_in I.1 W hl, tb_s, X_reqA_in ha, tb_s, rdA_n (by omega) (by omega), ob_s, wrS_n (by omega) (by omega), nI_cl (by omega), show (-1 : Int32) = mone from rfl, show (0 : Int32) = nI 0 from rfl, show (1 : Int32) = nI 1 from rfl, show nI 0 &&& nI 1 = nI 0 from by decide, g3, rb_s, wrS_n (by omega) (by omega)]
  rw [show S 1 a &&& nI 1 = S 1 a by rw [c1]; exact and1 w1, rdA_n (by omega) (by omega), ob_s, e8]
  by_cases q : stg G mone l = 0
  · rw [if_pos q, q, le_t (by omega) (by omega), gz_0]
  · rw [if_neg q, le_f (by omega) (by omega), rdA_n (by omega) (by omega), ob_s, e13]
    by_cases q2 : stg (gs G 1 a 0) mone l = 0
    · rw [if_pos q2, q2, if_pos rfl, gz_1]
    · rw [if_neg q2, eq_f q2 (by omega) (by omega), gz_0]
theorem M_needed (C : Cp T G) (W : WG G) {l a : Nat} (hl : l < G 14 0) (ha : a < 5) : ∃ T', Mo T T' ∧ mM_isNeeded T (nI l) (nI a) = some (nI (nv G l a), T') := by
  have w0 := W.1
  have w1 := W.2.1 a ha
  have c1 := C.2.1 a ha
  have hs1 := stg_le (G := G) (b := mone) l
  have hs2 := stg_le (G := gs G 1 a 0) (b := mone) l
  rw [gs_n (by omega)] at hs2
  unfold mM_isNeeded nv
  rw [show (0 : Int32) = nI 0 from rfl, show (1 : Int32) = nI 1 from rfl, rdA_n (by omega) (by omega), ob_s, c1]
  by_cases q0 : G 1 a = 0
  · refine ⟨T, Mo.rf, ?_⟩
    rw [gs_self q0, q0, if_pos rfl, gz_0]
    by_cases q : stg G mone l = 0
    · rw [if_pos q]
    · rw [if_neg q, if_neg q]
  · have q1 : G 1 a = 1 := by omega
    obtain ⟨T1, a1, a2⟩ := M_stageOf C W hl
    have C1 := a1.cp C
    rw [eq_f q0 (by omega) (by omega), a2, rb_s]
    by_cases q : stg G mone l = 0
    · refine ⟨T1, a1, ?_⟩
      rw [if_pos q, q, if_pos rfl, gz_0]
    · rw [if_neg q, eq_f q (by omega) (by omega), wrS_n (by omega) (by omega), nI_cl (by omega), show nI 0 &&& nI 1 = nI 0 from by decide]
      obtain ⟨T2, b1, b2⟩ := M_stageOf (Cp_gs (k := 1) (i := a) (v := 0) (by omega) C1) (WG_gs1 W (by omega)) (l := l) (by rw [gs_n (by omega)]; exact hl)
      have hm : Mo T (sU T2 1 (upd (T2 1) a (nI 1))) := fun j hj => by
        by_cases e : j = 1
        · subst e
          rw [sU_s, b1 1 (by omega), sU_s, show nI 1 = T1 1 a by rw [a1 1 (by omega), c1, q1], upd_back, a1 1 (by omega)]
        · rw [sU_n e, b1 j hj, sU_n e, a1 j hj]
      refine ⟨_, hm, ?_⟩
      rw [b2, rb_s]
      by_cases q2 : stg (gs G 1 a 0) mone l = 0
      · rw [if_pos q2, q2, if_pos rfl, wrS_n (by omega) (by omega), show nI 1 &&& nI 1 = nI 1 from by decide, gz_1]
      · rw [if_neg q2, eq_f q2 (by omega) (by omega), wrS_n (by omega) (by omega), show nI 1 &&& nI 1 = nI 1 from by decide, gz_0]
theorem nv_b {l a : Nat} : nv G l a = 0 ∨ nv G l a = 1 := by
  unfold nv
  split
  · exact Or.inl rfl
  · split
    · exact Or.inr rfl
    · exact Or.inl rfl
theorem o_needs (I : SI S G) (C : Cp T G) (W : WG G) (v1 v2 : Int32) : Out cd_needs S T (mX_needs S v1 v2) (mM_needs T v1 v2) := by
  have F0 : Fl T (sU T 15 (fun _ => nI 0)) 0 := Fl.set
  have F1 : Fl T (sU T 15 (fun _ => nI 1)) 1 := Fl.set
  have C0 := F0.cp C
  unfold mM_needs
  rw [show (0 : Int32) = nI 0 from rfl, show (1 : Int32) = nI 1 from rfl, st_s, st_s]
  rcases G_lemma I.1 C W v1 with ⟨l, hl, rfl⟩ | ⟨h1, h2⟩
  · rw [M_isLemma_in C W hl, ob_s, if_neg (by decide)]
    rcases G_ax v2 with ⟨a, ha, rfl⟩ | ⟨h1, h2⟩
    · obtain ⟨S1, a1, a2⟩ := X_needs2 I W hl ha
      obtain ⟨T1, b1, b2⟩ := M_needed C0 W hl ha
      rw [a2, M_isAxiom_in ha, ob_s, if_neg (by decide), sU_s, if_pos rfl, b2, rb_s]
      rcases nv_b (G := G) (l := l) (a := a) with e | e
      · rw [e, if_pos rfl, gz_0]
        exact Or.inl ⟨G, _, S1, T1, rfl, rfl, I.ro13 a1, b1.cp C0, W, (F0.mo b1).fz⟩
      · rw [e, if_neg (by decide), gz_1]
        exact Or.inl ⟨G, _, S1, T1, rfl, rfl, I.ro13 a1, b1.cp C0, W, (F0.mo b1).fz⟩
    · have hx : mX_needs S (nI l) v2 = some (.inr 1) := by
        unfold mX_needs
        rw [X_reqL_in I.1 W hl, tb_s, h1, tb_x]
      rw [hx, h2, ob_s, if_pos rfl, sU_s, if_neg (by decide), gz_0]
      exact Out.bad I C W rfl rfl (k := 1) (by omega) (by omega) rfl F1
  · have hx : mX_needs S v1 v2 = some (.inr 1) := by
      unfold mX_needs
      rw [h1, tb_x]
    rw [hx, h2, ob_s, if_pos rfl, sU_s, if_neg (by decide), gz_0]
    exact Out.bad I C W rfl rfl (k := 1) (by omega) (by omega) rfl F1
end ASKS
