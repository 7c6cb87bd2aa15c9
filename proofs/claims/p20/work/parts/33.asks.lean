section ASKS
variable {S T : XS} {G : GS}
theorem X_about4 (I : SI S G) (W : WG G) {l p q : Nat} (hl : l < G 14 0) (hp : p < G 2 l) (hq : q < 4) : mX_about S (nI l) (nI p) (nI q) = some (.inl (pv G (3 * l + p) q)) := by
  have C := I.1
  have w0 := W.1
  have c3 := C.2.2.2.1
  have w2 := (W.2.2.1 l (by omega)).1
  have hcl := cs_le (G := G) (k := 0) (r := FL G 0) (j := 3 * l + p)
  have hcp := cs_le (G := G) (k := 1) (r := FL G 1) (j := 3 * l + p)
  have hst : ∀ x, stg G mone x ≤ G 14 0 := fun x => stg_le x
  unfold mX_about
  rw [X_reqP_in C W hl hp, tb_s, show (4 : Int32) = nI 4 from rfl, X_ask_in hq (by omega), tb_s, X_slotOf, ob_s]
  rcases (show q = 0 ∨ q = 1 ∨ q = 2 ∨ q = 3 by omega) with rfl | rfl | rfl | rfl
  · simp (disch := omega) only [nlit, n_add, n_mul, ob_s, rb_s, tb_s, tb_x, st_s, gz_0, gz_1, gz_b, rdA_n, wrS_n, nI_cl, sU_s, sU_n, le_t, le_f, lt_t, lt_f, eq_t, eq_f, le_tR, le_tL, le_fR, le_fL, lt_tR, lt_tL, lt_fR, lt_fL, eq_tR, eq_tL, eq_fR, eq_fL, ↓m1, eq_m, eq_mR, eq_mm, eq_mmR, tt_i, ff_i, c3] <;> rfl
  · have hh := X_holds C W (j := 3 * l + p) (k := 8) (st := 13) (by omega) I.2.1 (fun x _ => by have := hst x; omega) (by omega)
    rw [show pv G (3 * l + p) 1 = if hd G (stg G mone) 13 (3 * l + p) = true then nI 1 else nI 0 from rfl]
    simp (disch := omega) only [nlit, n_add, n_mul, ob_s, rb_s, tb_s, tb_x, st_s, gz_0, gz_1, gz_b, rdA_n, wrS_n, nI_cl, sU_s, sU_n, le_t, le_f, lt_t, lt_f, eq_t, eq_f, le_tR, le_tL, le_fR, le_fL, lt_tR, lt_tL, lt_fR, lt_fL, eq_tR, eq_tL, eq_fR, eq_fL, ↓m1, eq_m, eq_mR, eq_mm, eq_mmR, tt_i, ff_i, hh, bz_i, bz_iR]
    by_cases q : hd G (stg G mone) 13 (3 * l + p) = true
    · rw [if_pos q, if_pos q]
    · rw [if_neg q, if_neg q]
  · have hh := X_costOfProof C W (j := 3 * l + p) (k := 0) (kk := 9) (by omega) I.2.2.1 (fun x _ => FL_le) (by omega)
    simp (disch := omega) only [nlit, n_add, n_mul, ob_s, rb_s, tb_s, tb_x, st_s, gz_0, gz_1, gz_b, rdA_n, wrS_n, nI_cl, sU_s, sU_n, le_t, le_f, lt_t, lt_f, eq_t, eq_f, le_tR, le_tL, le_fR, le_fL, lt_tR, lt_tL, lt_fR, lt_fL, eq_tR, eq_tL, eq_fR, eq_fL, ↓m1, eq_m, eq_mR, eq_mm, eq_mmR, tt_i, ff_i, hh, X_orNone] <;> rfl
  · have hh := X_costOfProof C W (j := 3 * l + p) (k := 1) (kk := 10) (by omega) I.2.2.2.1 (fun x _ => FL_le) (by omega)
    simp (disch := omega) only [nlit, n_add, n_mul, ob_s, rb_s, tb_s, tb_x, st_s, gz_0, gz_1, gz_b, rdA_n, wrS_n, nI_cl, sU_s, sU_n, le_t, le_f, lt_t, lt_f, eq_t, eq_f, le_tR, le_tL, le_fR, le_fL, lt_tR, lt_tL, lt_fR, lt_fL, eq_tR, eq_tL, eq_fR, eq_fL, ↓m1, eq_m, eq_mR, eq_mm, eq_mmR, tt_i, ff_i, hh, X_orNone] <;> rfl
theorem X_bestL (I : SI S G) (W : WG G) {l : Nat} (hl : l < G 14 0) : itr3 (mX_best_F14 S (nI l)) FUEL mone (nI 9999) (nI 0) = some (.inl (bst G l 0 (G 2 l) mone 9999)) := by
  have C := I.1
  have w0 := W.1
  have c2 := C.2.2.1
  have w2 := (W.2.2.1 l (by omega)).1
  refine itr3_r (F := mX_best_F14 S (nI l)) (fun p m b c res => ∀ n, c = nI n → n ≤ 9999 → res = some (.inl (bst G l p m b n))) 0 (G 2 l) ?_ ?_ (G 2 l) 0 FUEL mone (nI 9999) (by omega) (by omega) (fuel_gt (by omega)) 9999 rfl (Nat.le_refl _)
  · intro ih b c n hc hn
    unfold mX_best_F14
    rw [hc]
    simp (disch := omega) only [nlit, n_add, n_mul, ob_s, rb_s, tb_s, tb_x, st_s, gz_0, gz_1, gz_b, rdA_n, wrS_n, nI_cl, sU_s, sU_n, le_t, le_f, lt_t, lt_f, eq_t, eq_f, le_tR, le_tL, le_fR, le_fL, lt_tR, lt_tL, lt_fR, lt_fL, eq_tR, eq_tL, eq_fR, eq_fL, ↓m1, eq_m, eq_mR, eq_mm, eq_mmR, tt_i, ff_i, c2]
    rfl
  · intro p m ih _ hp hih b c n hc hn
    have hcl := cs_le (G := G) (k := 0) (r := FL G 0) (j := 3 * l + p)
    have hh := X_costOfProof C W (j := 3 * l + p) (k := 0) (kk := 9) (by omega) I.2.2.1 (fun x _ => FL_le) (by omega)
    unfold mX_best_F14
    rw [hc]
    simp (disch := omega) only [nlit, n_add, n_mul, ob_s, rb_s, tb_s, tb_x, st_s, gz_0, gz_1, gz_b, rdA_n, wrS_n, nI_cl, sU_s, sU_n, le_t, le_f, lt_t, lt_f, eq_t, eq_f, le_tR, le_tL, le_fR, le_fL, lt_tR, lt_tL, lt_fR, lt_fL, eq_tR, eq_tL, eq_fR, eq_fL, ↓m1, eq_m, eq_mR, eq_mm, eq_mmR, tt_i, ff_i, c2, X_slotOf, hh, le_i, le_iR, le_iL]
    rw [show bst G l p (m + 1) b n = if n ≤ cs G 0 (FL G 0) (3 * l + p) then bst G l (p + 1) m b n else bst G l (p + 1) m (nI p) (cs G 0 (FL G 0) (3 * l + p)) from rfl]
    by_cases q : n ≤ cs G 0 (FL G 0) (3 * l + p)
    · rw [if_pos q, if_pos q]; exact hih _ _ _ rfl hn
    · rw [if_neg q, if_neg q]; exact hih _ _ _ rfl hcl
def nv (G : GS) (l a : Nat) : Nat := if stg G mone l = 0 then 0 else if stg (gs G 1 a 0) mone l = 0 then 1 else 0
theorem X_needs2 (I : SI S G) (W : WG G) {l a : Nat} (hl : l < G 14 0) (ha : a < 5) : ∃ S', Ro S S' 13 ∧ mX_needs S (nI l) (nI a) = some (.inl (nI (nv G l a), S')) := by
  have w0 := W.1
  have w1 := W.2.1 a ha
  have c1 := I.1.2.1 a ha
  have hs1 := stg_le (G := G) (b := mone) l
  have hs2 := stg_le (G := gs G 1 a 0) (b := mone) l
  rw [gs_n (by omega)] at hs2
  obtain ⟨S1, g1, g2, g3⟩ := X_prove (Cp_gs (k := 1) (i := a) (v := 0) (by omega) I.1) (WG_gs1 W (by omega)) (kk := 13) (by omega) (b := mone)
  rw [gs_n (by omega)] at g2
  have hb : Ro S (sU S1 1 (upd (S1 1) a (S 1 a))) 13 := ro_back (by omega) g1
  have I2 := I.ro13 hb
  have e8 := I2.2.1 l hl
  have e13 : sU S1 1 (upd (S1 1) a (S 1 a)) 13 l = nI (stg (gs G 1 a 0) mone l) := by rw [sU_n (by omega)]; exact g2 l hl
  refine ⟨_, hb, ?_⟩
  unfold mX_needs nv
  rw [X_reqL_in I.1 W hl, tb_s, X_reqA_in ha, tb_s, rdA_n (by omega) (by omega), ob_s, wrS_n (by omega) (by omega), nI_cl (by omega), show (-1 : Int32) = mone from rfl, show (0 : Int32) = nI 0 from rfl, show (1 : Int32) = nI 1 from rfl, show nI 0 &&& nI 1 = nI 0 from by decide, g3, rb_s, wrS_n (by omega) (by omega)]
  rw [show S 1 a &&& nI 1 = S 1 a by rw [c1]; exact and1 w1, rdA_n (by omega) (by omega), ob_s, e8]
  by_cases q : stg G mone l = 0
  · rw [if_pos q, q, le_t (by omega) (by omega), gz_0]
  · rw [if_neg q, le_f (by omega) (by omega), rdA_n (by omega) (by omega), ob_s, e13]
    by_cases q2 : stg (gs G 1 a 0) mone l = 0
    · rw [if_pos q2, q2, if_pos rfl, gz_1]
    · rw [if_neg q2, eq_f q2 (by omega) (by omega), gz_0]
theorem nv_b {l a : Nat} : nv G l a = 0 ∨ nv G l a = 1 := by
  unfold nv
  split
  · exact Or.inl rfl
  · split
    · exact Or.inr rfl
    · exact Or.inl rfl
end ASKS
