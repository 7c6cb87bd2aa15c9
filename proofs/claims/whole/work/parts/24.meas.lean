section MEAS
variable {S : XS} {G : GS}
theorem M_lengthOf (C : Cp S G) (W : WG G) {l p : Nat} {r : Nat → Nat} (hl : l < 12) (hp : p < 3) (R : Rw S 9 (G 14 0) r) (hr : ∀ x, x < G 14 0 → r x ≤ 9999) : mM_lengthOf S (nI l) (nI p) = some (nI (cs G 0 r (3 * l + p))) := by
  have hj : 3 * l + p < 36 := by omega
  have h3 := W.2.2.2.1 _ hj
  have c3 := C.2.2.2.1
  have c1 := C.2.1
  have c7 := C.2.2.2.2
  have hb := sumR_bd (f := sc G 0 r) (b := 9999) (m := G 3 (3 * l + p)) (i := 5 * (3 * l + p)) fun i h1 h2 => sc_le W hj h1 h2 hr
  have key : ∀ a, itr2 (mM_lengthOf_F27 S (nI l) (nI p)) FUEL (nI a) (nI 0) = some (lmin (nI 9999) (nI (a + sumR (sc G 0 r) (5 * (3 * l + p)) (G 3 (3 * l + p))))) := by
    intro a
    refine itr2_n (fun i m a => some (lmin (nI 9999) (nI (a + sumR (sc G 0 r) (5 * (3 * l + p) + i) m)))) 0 (G 3 (3 * l + p)) ?_ ?_ (G 3 (3 * l + p)) 0 FUEL a (Nat.le_refl _) (by omega) (fuel_gt (by omega))
    · intro ih a
      unfold mM_lengthOf_F27
      simp (disch := omega) only [nlit, n_add, n_mul, ob_s, rb_s, tb_s, tb_x, st_s, gz_0, gz_1, gz_b, rdA_n, wrS_n, nI_cl, sU_s, sU_n, le_t, le_f, lt_t, lt_f, eq_t, eq_f, le_tR, le_tL, le_fR, le_fL, lt_tR, lt_tL, lt_fR, lt_fL, eq_tR, eq_tL, eq_fR, eq_fL, ↓m1, eq_m, eq_mR, eq_mm, eq_mmR, tt_i, ff_i, c3]
      rfl
    · intro i m ih hi0 hi hih a
      obtain ⟨e4, e5, e6, e7⟩ := c7 _ (5 * (3 * l + p) + i) hj (by omega) (by omega)
      obtain ⟨f4, f5, f5', f5'', f6, f6', f7⟩ := W.2.2.2.2 _ (5 * (3 * l + p) + i) hj (by omega) (by omega)
      have hq : some (lmin (nI 9999) (nI (a + sumR (sc G 0 r) (5 * (3 * l + p) + i) (m + 1)))) = ih (nI (a + sc G 0 r (5 * (3 * l + p) + i))) (nI (i + 1)) := by
        rw [hih, Nat.add_assoc]
        rfl
      rw [hq]
      unfold mM_lengthOf_F27 sc
      by_cases k0 : G 4 (5 * (3 * l + p) + i) = 0
      · have hc := f5 k0
        have := W.2.1 _ hc
        rw [if_pos k0]
        by_cases q : G 1 (G 5 (5 * (3 * l + p) + i)) = 0
        · simp (disch := omega) only [nlit, n_add, n_mul, ob_s, rb_s, tb_s, tb_x, st_s, gz_0, gz_1, gz_b, rdA_n, wrS_n, nI_cl, sU_s, sU_n, le_t, le_f, lt_t, lt_f, eq_t, eq_f, le_tR, le_tL, le_fR, le_fL, lt_tR, lt_tL, lt_fR, lt_fL, eq_tR, eq_tL, eq_fR, eq_fL, ↓m1, eq_m, eq_mR, eq_mm, eq_mmR, tt_i, ff_i, c3, M_at, e4, e5, c1, mM_lengthOf_J97, mM_lengthOf_J102]
          rw [if_pos q]
        · simp (disch := omega) only [nlit, n_add, n_mul, ob_s, rb_s, tb_s, tb_x, st_s, gz_0, gz_1, gz_b, rdA_n, wrS_n, nI_cl, sU_s, sU_n, le_t, le_f, lt_t, lt_f, eq_t, eq_f, le_tR, le_tL, le_fR, le_fL, lt_tR, lt_tL, lt_fR, lt_fL, eq_tR, eq_tL, eq_fR, eq_fL, ↓m1, eq_m, eq_mR, eq_mm, eq_mmR, tt_i, ff_i, c3, M_at, e4, e5, c1, mM_lengthOf_J76, mM_lengthOf_J101, mM_lengthOf_J102]
          rw [if_neg q]
      · rw [if_neg k0]
        by_cases k1 : G 4 (5 * (3 * l + p) + i) = 1
        · have hc := f5' k1
          have w0 := W.1
          have hR := R _ hc
          simp (disch := omega) only [nlit, n_add, n_mul, ob_s, rb_s, tb_s, tb_x, st_s, gz_0, gz_1, gz_b, rdA_n, wrS_n, nI_cl, sU_s, sU_n, le_t, le_f, lt_t, lt_f, eq_t, eq_f, le_tR, le_tL, le_fR, le_fL, lt_tR, lt_tL, lt_fR, lt_fL, eq_tR, eq_tL, eq_fR, eq_fL, ↓m1, eq_m, eq_mR, eq_mm, eq_mmR, tt_i, ff_i, c3, M_at, e4, e5, hR, mM_lengthOf_J76, mM_lengthOf_J101, mM_lengthOf_J102]
          rw [if_pos k1]
        · rw [if_neg k1, if_pos rfl]
          by_cases q : G 6 (5 * (3 * l + p) + i) = 0
          · simp (disch := omega) only [nlit, n_add, n_mul, ob_s, rb_s, tb_s, tb_x, st_s, gz_0, gz_1, gz_b, rdA_n, wrS_n, nI_cl, sU_s, sU_n, le_t, le_f, lt_t, lt_f, eq_t, eq_f, le_tR, le_tL, le_fR, le_fL, lt_tR, lt_tL, lt_fR, lt_fL, eq_tR, eq_tL, eq_fR, eq_fL, ↓m1, eq_m, eq_mR, eq_mm, eq_mmR, tt_i, ff_i, c3, M_at, e4, e5, e6, mM_lengthOf_J76, mM_lengthOf_J101, mM_lengthOf_J102]
            rw [if_pos q]
          · simp (disch := omega) only [nlit, n_add, n_mul, ob_s, rb_s, tb_s, tb_x, st_s, gz_0, gz_1, gz_b, rdA_n, wrS_n, nI_cl, sU_s, sU_n, le_t, le_f, lt_t, lt_f, eq_t, eq_f, le_tR, le_tL, le_fR, le_fL, lt_tR, lt_tL, lt_fR, lt_fL, eq_tR, eq_tL, eq_fR, eq_fL, ↓m1, eq_m, eq_mR, eq_mm, eq_mmR, tt_i, ff_i, c3, M_at, e4, e5, e6, mM_lengthOf_J76, mM_lengthOf_J97, mM_lengthOf_J102]
            rw [if_neg q]
  unfold mM_lengthOf cs
  rw [M_isWhole C W hl hp]
  simp (disch := omega) only [nlit, n_add, n_mul, ob_s, rb_s, tb_s, tb_x, st_s, gz_0, gz_1, gz_b, rdA_n, wrS_n, nI_cl, sU_s, sU_n, le_t, le_f, lt_t, lt_f, eq_t, eq_f, le_tR, le_tL, le_fR, le_fL, lt_tR, lt_tL, lt_fR, lt_fL, eq_tR, eq_tL, eq_fR, eq_fL, ↓m1, eq_m, eq_mR, eq_mm, eq_mmR, tt_i, ff_i, bz_i, bz_iR]
  cases wh G (3 * l + p)
  · rfl
  · rw [if_pos rfl, if_pos rfl]
    simp (disch := omega) only [nlit, n_add, n_mul, ob_s, rb_s, tb_s, tb_x, st_s, gz_0, gz_1, gz_b, rdA_n, wrS_n, nI_cl, sU_s, sU_n, le_t, le_f, lt_t, lt_f, eq_t, eq_f, le_tR, le_tL, le_fR, le_fL, lt_tR, lt_tL, lt_fR, lt_fL, eq_tR, eq_tL, eq_fR, eq_fL, ↓m1, eq_m, eq_mR, eq_mm, eq_mmR, tt_i, ff_i, c3]
    rw [key, lmin_n (by omega) (by omega)]
    rfl
theorem M_priceOf (C : Cp S G) (W : WG G) {l p : Nat} {r : Nat → Nat} (hl : l < 12) (hp : p < 3) (R : Rw S 10 (G 14 0) r) (hr : ∀ x, x < G 14 0 → r x ≤ 9999) : mM_priceOf S (nI l) (nI p) = if cs G 1 r (3 * l + p) < 9999 then some (nI (cs G 1 r (3 * l + p))) else some mone := by
  have hj : 3 * l + p < 36 := by omega
  have h3 := W.2.2.2.1 _ hj
  have c3 := C.2.2.2.1
  have c1 := C.2.1
  have c7 := C.2.2.2.2
  have w0 := W.1
  have hb := sumR_bd (f := sc G 1 r) (b := 9999) (m := G 3 (3 * l + p)) (i := 5 * (3 * l + p)) fun i h1 h2 => sc_le W hj h1 h2 hr
  have key := itr2_r (F := mM_priceOf_F16 S (nI l) (nI p)) (fun i m a res => ∀ c, a = nI c → c ≤ 9999 * i → res = if c + sumR (sc G 1 r) (5 * (3 * l + p) + i) m < 9999 then some (nI (c + sumR (sc G 1 r) (5 * (3 * l + p) + i) m)) else some mone) 0 (G 3 (3 * l + p)) ?_ ?_ (G 3 (3 * l + p)) 0 FUEL (nI 0) (Nat.le_refl _) (by omega) (fuel_gt (by omega)) 0 rfl (Nat.zero_le _)
  · unfold mM_priceOf cs
    rw [M_isWhole C W hl hp]
    simp (disch := omega) only [nlit, n_add, n_mul, ob_s, rb_s, tb_s, tb_x, st_s, gz_0, gz_1, gz_b, rdA_n, wrS_n, nI_cl, sU_s, sU_n, le_t, le_f, lt_t, lt_f, eq_t, eq_f, le_tR, le_tL, le_fR, le_fL, lt_tR, lt_tL, lt_fR, lt_fL, eq_tR, eq_tL, eq_fR, eq_fL, ↓m1, eq_m, eq_mR, eq_mm, eq_mmR, tt_i, ff_i, bz_i, bz_iR]
    cases wh G (3 * l + p)
    · rfl
    · rw [if_pos rfl, key, if_pos rfl]
      unfold cb
      rw [if_neg (show ¬ (1 = 0) by omega), Nat.add_zero, Nat.zero_add]
      by_cases q : sumR (sc G 1 r) (5 * (3 * l + p)) (G 3 (3 * l + p)) < 9999
      · rw [if_pos q, if_pos (by omega), Nat.min_eq_right (by omega)]
      · rw [if_neg q, if_neg (by omega)]
  · intro ih a c ha hc
    subst ha
    unfold mM_priceOf_F16
    simp (disch := omega) only [nlit, n_add, n_mul, ob_s, rb_s, tb_s, tb_x, st_s, gz_0, gz_1, gz_b, rdA_n, wrS_n, nI_cl, sU_s, sU_n, le_t, le_f, lt_t, lt_f, eq_t, eq_f, le_tR, le_tL, le_fR, le_fL, lt_tR, lt_tL, lt_fR, lt_fL, eq_tR, eq_tL, eq_fR, eq_fL, ↓m1, eq_m, eq_mR, eq_mm, eq_mmR, tt_i, ff_i, c3, lt_i, lt_iR, lt_iL]
    rfl
  · intro i m ih hi0 hi hih a c ha hc
    subst ha
    obtain ⟨e4, e5, e6, e7⟩ := c7 _ (5 * (3 * l + p) + i) hj (by omega) (by omega)
    obtain ⟨f4, f5, f5', f5'', f6, f6', f7⟩ := W.2.2.2.2 _ (5 * (3 * l + p) + i) hj (by omega) (by omega)
    have hsc := sc_le W (k := 1) (i := 5 * (3 * l + p) + i) hj (by omega) (by omega) hr
    have hq : (if c + sumR (sc G 1 r) (5 * (3 * l + p) + i) (m + 1) < 9999 then some (nI (c + sumR (sc G 1 r) (5 * (3 * l + p) + i) (m + 1))) else some mone) = ih (nI (c + sc G 1 r (5 * (3 * l + p) + i))) (nI (i + 1)) := by
      rw [hih _ _ rfl (by omega), Nat.add_assoc c]
      rfl
    have hx : sc G 1 r (5 * (3 * l + p) + i) = 9999 → ¬ (c + sumR (sc G 1 r) (5 * (3 * l + p) + i) (m + 1) < 9999) := fun e => by
      unfold sumR
      omega
    unfold mM_priceOf_F16
    by_cases k0 : G 4 (5 * (3 * l + p) + i) = 0
    · have hc5 := f5 k0
      have := W.2.1 _ hc5
      by_cases q : G 1 (G 5 (5 * (3 * l + p) + i)) = 0
      · simp (disch := omega) only [nlit, n_add, n_mul, ob_s, rb_s, tb_s, tb_x, st_s, gz_0, gz_1, gz_b, rdA_n, wrS_n, nI_cl, sU_s, sU_n, le_t, le_f, lt_t, lt_f, eq_t, eq_f, le_tR, le_tL, le_fR, le_fL, lt_tR, lt_tL, lt_fR, lt_fL, eq_tR, eq_tL, eq_fR, eq_fL, ↓m1, eq_m, eq_mR, eq_mm, eq_mmR, tt_i, ff_i, c3, M_at, e4, e5, c1]
        have : sc G 1 r (5 * (3 * l + p) + i) = 9999 := by unfold sc; rw [if_pos k0, if_pos q]
        rw [if_neg (hx this)]
      · have : sc G 1 r (5 * (3 * l + p) + i) = 0 := by unfold sc; rw [if_pos k0, if_neg q]
        rw [hq, this]
        simp (disch := omega) only [nlit, n_add, n_mul, ob_s, rb_s, tb_s, tb_x, st_s, gz_0, gz_1, gz_b, rdA_n, wrS_n, nI_cl, sU_s, sU_n, le_t, le_f, lt_t, lt_f, eq_t, eq_f, le_tR, le_tL, le_fR, le_fL, lt_tR, lt_tL, lt_fR, lt_fL, eq_tR, eq_tL, eq_fR, eq_fL, ↓m1, eq_m, eq_mR, eq_mm, eq_mmR, tt_i, ff_i, c3, M_at, e4, e5, c1, mM_priceOf_J65, mM_priceOf_J96]
    · by_cases k1 : G 4 (5 * (3 * l + p) + i) = 1
      · have hc5 := f5' k1
        have hR := R _ hc5
        have hr5 := hr _ hc5
        have hsce : sc G 1 r (5 * (3 * l + p) + i) = r (G 5 (5 * (3 * l + p) + i)) := by unfold sc; rw [if_neg k0, if_pos k1]
        by_cases q : r (G 5 (5 * (3 * l + p) + i)) = 9999
        · simp (disch := omega) only [nlit, n_add, n_mul, ob_s, rb_s, tb_s, tb_x, st_s, gz_0, gz_1, gz_b, rdA_n, wrS_n, nI_cl, sU_s, sU_n, le_t, le_f, lt_t, lt_f, eq_t, eq_f, le_tR, le_tL, le_fR, le_fL, lt_tR, lt_tL, lt_fR, lt_fL, eq_tR, eq_tL, eq_fR, eq_fL, ↓m1, eq_m, eq_mR, eq_mm, eq_mmR, tt_i, ff_i, c3, M_at, e4, e5, hR, mM_priceOf_J65]
          rw [if_neg (hx (by omega))]
        · rw [hq, hsce]
          simp (disch := omega) only [nlit, n_add, n_mul, ob_s, rb_s, tb_s, tb_x, st_s, gz_0, gz_1, gz_b, rdA_n, wrS_n, nI_cl, sU_s, sU_n, le_t, le_f, lt_t, lt_f, eq_t, eq_f, le_tR, le_tL, le_fR, le_fL, lt_tR, lt_tL, lt_fR, lt_fL, eq_tR, eq_tL, eq_fR, eq_fL, ↓m1, eq_m, eq_mR, eq_mm, eq_mmR, tt_i, ff_i, c3, M_at, e4, e5, hR, mM_priceOf_J65, mM_priceOf_J96]
      · have hsce : sc G 1 r (5 * (3 * l + p) + i) = G 6 (5 * (3 * l + p) + i) := by unfold sc; rw [if_neg k0, if_neg k1, if_neg (by omega)]
        rw [hq, hsce]
        simp (disch := omega) only [nlit, n_add, n_mul, ob_s, rb_s, tb_s, tb_x, st_s, gz_0, gz_1, gz_b, rdA_n, wrS_n, nI_cl, sU_s, sU_n, le_t, le_f, lt_t, lt_f, eq_t, eq_f, le_tR, le_tL, le_fR, le_fL, lt_tR, lt_tL, lt_fR, lt_fL, eq_tR, eq_tL, eq_fR, eq_fL, ↓m1, eq_m, eq_mR, eq_mm, eq_mmR, tt_i, ff_i, c3, M_at, e4, e5, e6, mM_priceOf_J65, mM_priceOf_J96]
/-- the least over the first proofs -/
def ml (G : GS) (k : Nat) (r : Nat → Nat) (l : Nat) : Nat → Nat → Nat → Nat
  | _, 0, b => b
  | p, m + 1, b => ml G k r l (p + 1) m (min b (cs G k r (3 * l + p)))
theorem ml_le {k l : Nat} {r : Nat → Nat} : ∀ {m p b : Nat}, ml G k r l p m b ≤ b ∧ ∀ x, p ≤ x → x < p + m → ml G k r l p m b ≤ cs G k r (3 * l + x) := by
  intro m
  induction m with
  | zero => intro p b; exact ⟨Nat.le_refl _, fun x h1 h2 => by omega⟩
  | succ m ih =>
    intro p b
    have h := ih (p := p + 1) (b := min b (cs G k r (3 * l + p)))
    refine ⟨Nat.le_trans h.1 (Nat.min_le_left _ _), fun x h1 h2 => ?_⟩
    by_cases e : x = p
    · rw [e]; exact Nat.le_trans h.1 (Nat.min_le_right _ _)
    · exact h.2 x (by omega) (by omega)
theorem ml_ge {k l v : Nat} {r : Nat → Nat} : ∀ {m p b : Nat}, v ≤ b → (∀ x, p ≤ x → x < p + m → v ≤ cs G k r (3 * l + x)) → v ≤ ml G k r l p m b := by
  intro m
  induction m with
  | zero => intro p b h _; exact h
  | succ m ih =>
    intro p b h hx
    have := hx p (by omega) (by omega)
    exact ih (by omega) fun x h1 h2 => hx x (by omega) (by omega)
theorem M_shorter (C : Cp S G) (W : WG G) {l : Nat} {r : Nat → Nat} (hl : l < G 14 0) (R : Rw S 9 (G 14 0) r) (hr : ∀ x, x < G 14 0 → r x ≤ 9999) : mM_getsShorter S (nI l) = some (if ml G 0 r l 0 (G 2 l) (r l) < r l then nI 1 else nI 0, sU S 9 (upd (S 9) l (nI (ml G 0 r l 0 (G 2 l) (r l))))) := by
  have w0 := W.1
  have c2 := C.2.2.1
  have w2 := (W.2.2.1 l (by omega)).1
  have hrl := hr l hl
  unfold mM_getsShorter
  simp (disch := omega) only [nlit, n_add, n_mul, ob_s, rb_s, tb_s, tb_x, st_s, gz_0, gz_1, gz_b, rdA_n, wrS_n, nI_cl, sU_s, sU_n, le_t, le_f, lt_t, lt_f, eq_t, eq_f, le_tR, le_tL, le_fR, le_fL, lt_tR, lt_tL, lt_fR, lt_fL, eq_tR, eq_tL, eq_fR, eq_fL, ↓m1, eq_m, eq_mR, eq_mm, eq_mmR, tt_i, ff_i, R l hl]
  have key := itr2_r (F := mM_getsShorter_F9 S (nI l)) (fun p m a res => ∀ b, a = nI b → b ≤ 9999 → res = some (if ml G 0 r l p m b < r l then nI 1 else nI 0, sU S 9 (upd (S 9) l (nI (ml G 0 r l p m b))))) 0 (G 2 l) ?_ ?_ (G 2 l) 0 FUEL (nI (r l)) (Nat.le_refl _) (by omega) (fuel_gt (by omega)) (r l) rfl hrl
  · exact key
  · intro ih a b ha hb
    subst ha
    unfold mM_getsShorter_F9
    simp (disch := omega) only [nlit, n_add, n_mul, ob_s, rb_s, tb_s, tb_x, st_s, gz_0, gz_1, gz_b, rdA_n, wrS_n, nI_cl, sU_s, sU_n, le_t, le_f, lt_t, lt_f, eq_t, eq_f, le_tR, le_tL, le_fR, le_fL, lt_tR, lt_tL, lt_fR, lt_fL, eq_tR, eq_tL, eq_fR, eq_fL, ↓m1, eq_m, eq_mR, eq_mm, eq_mmR, tt_i, ff_i, c2, R l hl, le_i, le_iR, le_iL]
    by_cases q : r l ≤ b
    · rw [if_pos q, if_neg (show ¬ ml G 0 r l (G 2 l) 0 b < r l by unfold ml; omega)]
      rfl
    · rw [if_neg q, if_pos (show ml G 0 r l (G 2 l) 0 b < r l by unfold ml; omega)]
      rfl
  · intro p m ih _ hp hih a b ha hb
    subst ha
    unfold mM_getsShorter_F9
    have hcs := cs_le (G := G) (k := 0) (r := r) (j := 3 * l + p)
    simp (disch := omega) only [nlit, n_add, n_mul, ob_s, rb_s, tb_s, tb_x, st_s, gz_0, gz_1, gz_b, rdA_n, wrS_n, nI_cl, sU_s, sU_n, le_t, le_f, lt_t, lt_f, eq_t, eq_f, le_tR, le_tL, le_fR, le_fL, lt_tR, lt_tL, lt_fR, lt_fL, eq_tR, eq_tL, eq_fR, eq_fL, ↓m1, eq_m, eq_mR, eq_mm, eq_mmR, tt_i, ff_i, c2, M_lengthOf C W (l := l) (p := p) (by omega) (by omega) R hr]
    rw [lmin_n (by omega) (by omega)]
    exact hih _ _ rfl (by omega)
theorem M_cheaper (C : Cp S G) (W : WG G) {l : Nat} {r : Nat → Nat} (hl : l < G 14 0) (R : Rw S 10 (G 14 0) r) (hr : ∀ x, x < G 14 0 → r x ≤ 9999) : mM_getsCheaper S (nI l) = some (if ml G 1 r l 0 (G 2 l) (r l) < r l then nI 1 else nI 0, sU S 10 (upd (S 10) l (nI (ml G 1 r l 0 (G 2 l) (r l))))) := by
  have w0 := W.1
  have c2 := C.2.2.1
  have w2 := (W.2.2.1 l (by omega)).1
  have hrl := hr l hl
  unfold mM_getsCheaper
  simp (disch := omega) only [nlit, n_add, n_mul, ob_s, rb_s, tb_s, tb_x, st_s, gz_0, gz_1, gz_b, rdA_n, wrS_n, nI_cl, sU_s, sU_n, le_t, le_f, lt_t, lt_f, eq_t, eq_f, le_tR, le_tL, le_fR, le_fL, lt_tR, lt_tL, lt_fR, lt_fL, eq_tR, eq_tL, eq_fR, eq_fL, ↓m1, eq_m, eq_mR, eq_mm, eq_mmR, tt_i, ff_i, R l hl]
  have key := itr2_r (F := mM_getsCheaper_F9 S (nI l)) (fun p m a res => ∀ b, a = nI b → b ≤ 9999 → res = some (if ml G 1 r l p m b < r l then nI 1 else nI 0, sU S 10 (upd (S 10) l (nI (ml G 1 r l p m b))))) 0 (G 2 l) ?_ ?_ (G 2 l) 0 FUEL (nI (r l)) (Nat.le_refl _) (by omega) (fuel_gt (by omega)) (r l) rfl hrl
  · exact key
  · intro ih a b ha hb
    subst ha
    unfold mM_getsCheaper_F9
    simp (disch := omega) only [nlit, n_add, n_mul, ob_s, rb_s, tb_s, tb_x, st_s, gz_0, gz_1, gz_b, rdA_n, wrS_n, nI_cl, sU_s, sU_n, le_t, le_f, lt_t, lt_f, eq_t, eq_f, le_tR, le_tL, le_fR, le_fL, lt_tR, lt_tL, lt_fR, lt_fL, eq_tR, eq_tL, eq_fR, eq_fL, ↓m1, eq_m, eq_mR, eq_mm, eq_mmR, tt_i, ff_i, c2, R l hl, le_i, le_iR, le_iL]
    by_cases q : r l ≤ b
    · rw [if_pos q, if_neg (show ¬ ml G 1 r l (G 2 l) 0 b < r l by unfold ml; omega)]
      rfl
    · rw [if_neg q, if_pos (show ml G 1 r l (G 2 l) 0 b < r l by unfold ml; omega)]
      rfl
  · intro p m ih _ hp hih a b ha hb
    subst ha
    unfold mM_getsCheaper_F9
    have hcs := cs_le (G := G) (k := 1) (r := r) (j := 3 * l + p)
    have hpr := M_priceOf C W (l := l) (p := p) (by omega) (by omega) R hr
    by_cases q : cs G 1 r (3 * l + p) < 9999
    · rw [if_pos q] at hpr
      simp (disch := omega) only [nlit, n_add, n_mul, ob_s, rb_s, tb_s, tb_x, st_s, gz_0, gz_1, gz_b, rdA_n, wrS_n, nI_cl, sU_s, sU_n, le_t, le_f, lt_t, lt_f, eq_t, eq_f, le_tR, le_tL, le_fR, le_fL, lt_tR, lt_tL, lt_fR, lt_fL, eq_tR, eq_tL, eq_fR, eq_fL, ↓m1, eq_m, eq_mR, eq_mm, eq_mmR, tt_i, ff_i, c2, hpr]
      rw [lmin_n (by omega) (by omega)]
      exact hih _ _ rfl (by omega)
    · rw [if_neg q] at hpr
      simp (disch := omega) only [nlit, n_add, n_mul, ob_s, rb_s, tb_s, tb_x, st_s, gz_0, gz_1, gz_b, rdA_n, wrS_n, nI_cl, sU_s, sU_n, le_t, le_f, lt_t, lt_f, eq_t, eq_f, le_tR, le_tL, le_fR, le_fL, lt_tR, lt_tL, lt_fR, lt_fL, eq_tR, eq_tL, eq_fR, eq_fL, ↓m1, eq_m, eq_mR, eq_mm, eq_mmR, tt_i, ff_i, c2, hpr]
      rw [hih _ b rfl hb]
      rw [show ml G 1 r l p (m + 1) b = ml G 1 r l (p + 1) m (min b (cs G 1 r (3 * l + p))) from rfl, show min b (cs G 1 r (3 * l + p)) = b by omega]
-- a pass of the reference's measuring
def Ro2 (S S' : XS) : Prop := ∀ j, j ≠ 9 → j ≠ 10 → S' j = S j
theorem Ro2.cp {S S' : XS} (h : Ro2 S S') (C : Cp S G) : Cp S' G := by
  have e : ∀ j, j < 8 ∨ j = 14 → S' j = S j := fun j hj => h j (by omega) (by omega)
  unfold Cp
  rw [e 14 (by omega), e 1 (by omega), e 2 (by omega), e 3 (by omega), e 4 (by omega), e 5 (by omega), e 6 (by omega), e 7 (by omega)]
  exact C
def MI (G : GS) (a0 b0 a b : Nat → Nat) (l f : Nat) : Prop := (∀ x, x < G 14 0 → FL G 0 x ≤ a x ∧ a x ≤ a0 x ∧ a0 x ≤ 9999 ∧ FL G 1 x ≤ b x ∧ b x ≤ b0 x ∧ b0 x ≤ 9999) ∧ f ≤ 1 ∧ (f = 0 → (∀ x, x < G 14 0 → a x = a0 x ∧ b x = b0 x) ∧ ∀ x, x < l → ∀ p, p < G 2 x → a0 x ≤ cs G 0 a0 (3 * x + p) ∧ b0 x ≤ cs G 1 b0 (3 * x + p)) ∧ (f = 1 → ∃ x, x < G 14 0 ∧ (a x < a0 x ∨ b x < b0 x))
theorem ml_FL (W : WG G) {k l : Nat} {r : Nat → Nat} (hl : l < G 14 0) (h : ∀ x, x < G 14 0 → FL G k x ≤ r x) : FL G k l ≤ ml G k r l 0 (G 2 l) (r l) := by
  have w0 := W.1
  have w2 := (W.2.2.1 l (by omega)).1
  exact ml_ge (h l hl) fun x _ hx => Nat.le_trans ((FL_pf W l hl).2 x (by omega)) (cs_mono W (by omega) h)
theorem uN_s {r : Nat → Nat} {l v : Nat} : uN r l v l = v := if_pos rfl
theorem uN_n {r : Nat → Nat} {l v x : Nat} (h : x ≠ l) : uN r l v x = r x := if_neg h
theorem MI_next (W : WG G) {a0 b0 a b : Nat → Nat} {l f : Nat} (h : MI G a0 b0 a b l f) (hl : l < G 14 0) (f' : Nat) (hf' : f' = if f = 1 ∨ ml G 0 a l 0 (G 2 l) (a l) < a l ∨ ml G 1 b l 0 (G 2 l) (b l) < b l then 1 else 0) : MI G a0 b0 (uN a l (ml G 0 a l 0 (G 2 l) (a l))) (uN b l (ml G 1 b l 0 (G 2 l) (b l))) (l + 1) f' := by
  obtain ⟨h1, h2, h3, h4⟩ := h
  have ha := ml_FL W (k := 0) hl fun x hx => (h1 x hx).1
  have hb := ml_FL W (k := 1) hl fun x hx => (h1 x hx).2.2.2.1
  have ma := ml_le (G := G) (k := 0) (l := l) (r := a) (m := G 2 l) (p := 0) (b := a l)
  have mb := ml_le (G := G) (k := 1) (l := l) (r := b) (m := G 2 l) (p := 0) (b := b l)
  have hll := h1 l hl
  refine ⟨fun x hx => ?_, ?_, fun e => ?_, fun e => ?_⟩
  · by_cases e : x = l
    · rw [e, uN_s, uN_s]; omega
    · rw [uN_n e, uN_n e]; exact h1 x hx
  · rw [hf']; split <;> omega
  · rw [e] at hf'
    by_cases q : f = 1 ∨ ml G 0 a l 0 (G 2 l) (a l) < a l ∨ ml G 1 b l 0 (G 2 l) (b l) < b l
    · rw [if_pos q] at hf'; cases hf'
    · have q0 : f = 0 := by
        have : ¬ f = 1 := fun e => q (Or.inl e)
        omega
      have qa : ¬ ml G 0 a l 0 (G 2 l) (a l) < a l := fun e => q (Or.inr (Or.inl e))
      have qb : ¬ ml G 1 b l 0 (G 2 l) (b l) < b l := fun e => q (Or.inr (Or.inr e))
      obtain ⟨g1, g2⟩ := h3 q0
      have ea : ∀ x, x < G 14 0 → a x = a0 x := fun x hx => (g1 x hx).1
      have eb : ∀ x, x < G 14 0 → b x = b0 x := fun x hx => (g1 x hx).2
      have w0 := W.1
      refine ⟨fun x hx => ?_, fun x hx p hp => ?_⟩
      · by_cases e : x = l
        · rw [e, uN_s, uN_s]
          have := g1 l hl
          omega
        · rw [uN_n e, uN_n e]; exact g1 x hx
      · by_cases e : x = l
        · rw [e] at hp ⊢
          have k1 := ma.2 p (by omega) (by omega)
          have k2 := mb.2 p (by omega) (by omega)
          have w2 := (W.2.2.1 l (by omega)).1
          have k3 := cs_mono W (k := 0) (j := 3 * l + p) (r := a) (r' := a0) (by omega) fun x hx => Nat.le_of_eq (ea x hx)
          have k4 := cs_mono W (k := 1) (j := 3 * l + p) (r := b) (r' := b0) (by omega) fun x hx => Nat.le_of_eq (eb x hx)
          have := g1 l hl
          omega
        · exact g2 x (by omega) p hp
  · by_cases q : f = 1
    · obtain ⟨x, hx, hlt⟩ := h4 q
      refine ⟨x, hx, ?_⟩
      by_cases e : x = l
      · rw [e] at hlt ⊢; rw [uN_s, uN_s]; omega
      · rw [uN_n e, uN_n e]; exact hlt
    · refine ⟨l, hl, ?_⟩
      rw [uN_s, uN_s]
      rw [e] at hf'
      by_cases q2 : f = 1 ∨ ml G 0 a l 0 (G 2 l) (a l) < a l ∨ ml G 1 b l 0 (G 2 l) (b l) < b l
      · omega
      · rw [if_neg q2] at hf'; cases hf'
theorem or01 {f : Nat} {c d : Prop} {i1 : Decidable c} {i2 : Decidable d} (hf : f ≤ 1) : (nI f ||| (@ite _ c i1 (nI 1) (nI 0))) ||| (@ite _ d i2 (nI 1) (nI 0)) = nI (if f = 1 ∨ c ∨ d then 1 else 0) := by
  rcases (show f = 0 ∨ f = 1 by omega) with rfl | rfl <;> by_cases hc : c <;> by_cases hd : d <;> simp [hc, hd] <;> rfl
def PMm (G : GS) (S0 : XS) (a0 b0 : Nat → Nat) (K : XS → Int32 → Option (Int32 × XS)) (l m : Nat) (S : XS) (v1 : Int32) (res : Option (Int32 × XS)) : Prop := ∀ a b f, Ro2 S0 S → Rw S 9 (G 14 0) a → Rw S 10 (G 14 0) b → MI G a0 b0 a b l f → v1 = nI f → ∃ S' a' b' f', Ro2 S0 S' ∧ Rw S' 9 (G 14 0) a' ∧ Rw S' 10 (G 14 0) b' ∧ MI G a0 b0 a' b' (G 14 0) f' ∧ res = K S' (nI f')
theorem M_mpass {S0 : XS} (C0 : Cp S0 G) (W : WG G) {a0 b0 : Nat → Nat} {K : XS → Int32 → Option (Int32 × XS)} : ∀ m l N S v1, 0 ≤ l → l + m = G 14 0 → m < N → PMm G S0 a0 b0 K l m S v1 (itr3 (mM_measure_F44 K) N S v1 (nI l)) := by
  have w0 := W.1
  refine itr3_r (PMm G S0 a0 b0 K) 0 (G 14 0) ?_ ?_
  · intro ih S v1 a b f hR hA hB hI hv
    have C := hR.cp C0
    refine ⟨S, a, b, f, hR, hA, hB, hI, ?_⟩
    unfold mM_measure_F44
    rw [C.1, hv]
    simp (disch := omega) only [nlit, n_add, n_mul, ob_s, rb_s, tb_s, tb_x, st_s, gz_0, gz_1, gz_b, rdA_n, wrS_n, nI_cl, sU_s, sU_n, le_t, le_f, lt_t, lt_f, eq_t, eq_f, le_tR, le_tL, le_fR, le_fL, lt_tR, lt_tL, lt_fR, lt_fL, eq_tR, eq_tL, eq_fR, eq_fL, ↓m1, eq_m, eq_mR, eq_mm, eq_mmR, tt_i, ff_i]
  · intro l m ih _ hl hih S v1 a b f hR hA hB hI hv
    have C := hR.cp C0
    have ha : ∀ x, x < G 14 0 → a x ≤ 9999 := fun x hx => by have := hI.1 x hx; omega
    have hb : ∀ x, x < G 14 0 → b x ≤ 9999 := fun x hx => by have := hI.1 x hx; omega
    have C2 : Cp (sU S 9 (upd (S 9) l (nI (ml G 0 a l 0 (G 2 l) (a l))))) G := by
      have : Ro S (sU S 9 (upd (S 9) l (nI (ml G 0 a l 0 (G 2 l) (a l))))) 9 := fun j hj => sU_n hj
      exact this.cp (by omega) C
    have hB2 : Rw (sU S 9 (upd (S 9) l (nI (ml G 0 a l 0 (G 2 l) (a l))))) 10 (G 14 0) b := fun x hx => by rw [sU_n (by omega)]; exact hB x hx
    unfold mM_measure_F44
    rw [C.1, hv]
    simp (disch := omega) only [nlit, n_add, n_mul, ob_s, rb_s, tb_s, tb_x, st_s, gz_0, gz_1, gz_b, rdA_n, wrS_n, nI_cl, sU_s, sU_n, le_t, le_f, lt_t, lt_f, eq_t, eq_f, le_tR, le_tL, le_fR, le_fL, lt_tR, lt_tL, lt_fR, lt_fL, eq_tR, eq_tL, eq_fR, eq_fL, ↓m1, eq_m, eq_mR, eq_mm, eq_mmR, tt_i, ff_i, M_shorter C W (l := l) (by omega) hA ha, M_cheaper C2 W (l := l) (by omega) hB2 hb]
    rw [or01 hI.2.1]
    refine hih _ _ _ _ _ (fun j h1 h2 => ?_) (fun x hx => ?_) (fun x hx => ?_) (MI_next W hI (by omega) _ rfl) rfl
    · rw [sU_n h2, sU_n h1]; exact hR j h1 h2
    · rw [sU_n (by omega)]; exact Rw_up hA x hx
    · exact Rw_up hB2 x hx
theorem M_mloop {S0 : XS} (C0 : Cp S0 G) (W : WG G) : ∀ K N S a b, Ro2 S0 S → Rw S 9 (G 14 0) a → Rw S 10 (G 14 0) b → (∀ x, x < G 14 0 → FL G 0 x ≤ a x ∧ a x ≤ 9999 ∧ FL G 1 x ≤ b x ∧ b x ≤ 9999) → sumR (fun x => a x + b x) 0 (G 14 0) ≤ K → K + 1 < N → ∃ S', Ro2 S0 S' ∧ Rw S' 9 (G 14 0) (FL G 0) ∧ Rw S' 10 (G 14 0) (FL G 1) ∧ itr2 mM_measure_F36 N S (nI 1) = some (0, S') := by
  have w0 := W.1
  intro K
  induction K with
  | zero =>
    intro N S a b hR hA hB hb hs hN
    match N, hN with
    | N + 2, hN =>
      obtain ⟨S', a', b', f', hR', hA', hB', hI', e⟩ := M_mpass C0 W (a0 := a) (b0 := b) (K := itr2 mM_measure_F36 (N + 1)) (G 14 0) 0 FUEL S (nI 0) (by omega) (by omega) (fuel_gt (by omega)) a b 0 hR hA hB ⟨fun x hx => by have := hb x hx; omega, by omega, fun _ => ⟨fun _ _ => ⟨rfl, rfl⟩, fun x hx => by omega⟩, fun e => by cases e⟩ rfl
      rw [itr2, mM_measure_F36]
      simp (disch := omega) only [nlit, n_add, n_mul, ob_s, rb_s, tb_s, tb_x, st_s, gz_0, gz_1, gz_b, rdA_n, wrS_n, nI_cl, sU_s, sU_n, le_t, le_f, lt_t, lt_f, eq_t, eq_f, le_tR, le_tL, le_fR, le_fL, lt_tR, lt_tL, lt_fR, lt_fL, eq_tR, eq_tL, eq_fR, eq_fL, ↓m1, eq_m, eq_mR, eq_mm, eq_mmR, tt_i, ff_i]
      rw [e]
      have hf := hI'.2.1
      by_cases q : f' = 1
      · obtain ⟨x, hx, hlt⟩ := hI'.2.2.2 q
        have := sumR_ge (f := fun x => a x + b x) (m := G 14 0) (i := 0) x (by omega) (by omega)
        have h2 := hI'.1 x hx
        omega
      · have q0 : f' = 0 := by omega
        obtain ⟨g1, g2⟩ := hI'.2.2.1 q0
        subst q0
        rw [itr2, mM_measure_F36]
        simp (disch := omega) only [nlit, n_add, n_mul, ob_s, rb_s, tb_s, tb_x, st_s, gz_0, gz_1, gz_b, rdA_n, wrS_n, nI_cl, sU_s, sU_n, le_t, le_f, lt_t, lt_f, eq_t, eq_f, le_tR, le_tL, le_fR, le_fL, lt_tR, lt_tL, lt_fR, lt_fL, eq_tR, eq_tL, eq_fR, eq_fL, ↓m1, eq_m, eq_mR, eq_mm, eq_mmR, tt_i, ff_i]
        exact ⟨S', hR', hA'.cg (fun x hx => (g1 x hx).1.trans (FL_end (fun l hl => ⟨(hb l hl).2.1, fun p hp => (g2 l hl p hp).1⟩) (fun x hx => (hb x hx).1) x hx)), hB'.cg (fun x hx => (g1 x hx).2.trans (FL_end (fun l hl => ⟨(hb l hl).2.2.2, fun p hp => (g2 l hl p hp).2⟩) (fun x hx => (hb x hx).2.2.1) x hx)), rfl⟩
  | succ K ih =>
    intro N S a b hR hA hB hb hs hN
    match N, hN with
    | N + 2, hN =>
      obtain ⟨S', a', b', f', hR', hA', hB', hI', e⟩ := M_mpass C0 W (a0 := a) (b0 := b) (K := itr2 mM_measure_F36 (N + 1)) (G 14 0) 0 FUEL S (nI 0) (by omega) (by omega) (fuel_gt (by omega)) a b 0 hR hA hB ⟨fun x hx => by have := hb x hx; omega, by omega, fun _ => ⟨fun _ _ => ⟨rfl, rfl⟩, fun x hx => by omega⟩, fun e => by cases e⟩ rfl
      rw [itr2, mM_measure_F36]
      simp (disch := omega) only [nlit, n_add, n_mul, ob_s, rb_s, tb_s, tb_x, st_s, gz_0, gz_1, gz_b, rdA_n, wrS_n, nI_cl, sU_s, sU_n, le_t, le_f, lt_t, lt_f, eq_t, eq_f, le_tR, le_tL, le_fR, le_fL, lt_tR, lt_tL, lt_fR, lt_fL, eq_tR, eq_tL, eq_fR, eq_fL, ↓m1, eq_m, eq_mR, eq_mm, eq_mmR, tt_i, ff_i]
      rw [e]
      have hf := hI'.2.1
      by_cases q : f' = 1
      · obtain ⟨x, hx, hlt⟩ := hI'.2.2.2 q
        subst q
        have h2 := hI'.1
        have hd := sumR_lt (f := fun x => a' x + b' x) (g := fun x => a x + b x) (m := G 14 0) (i := 0) x (fun k _ hk => by have := h2 k (by omega); omega) (by omega) (by omega) (by have := h2 x hx; omega)
        exact ih (N + 1) S' a' b' hR' hA' hB' (fun x hx => by have := h2 x hx; omega) (by omega) (by omega)
      · have q0 : f' = 0 := by omega
        obtain ⟨g1, g2⟩ := hI'.2.2.1 q0
        subst q0
        rw [itr2, mM_measure_F36]
        simp (disch := omega) only [nlit, n_add, n_mul, ob_s, rb_s, tb_s, tb_x, st_s, gz_0, gz_1, gz_b, rdA_n, wrS_n, nI_cl, sU_s, sU_n, le_t, le_f, lt_t, lt_f, eq_t, eq_f, le_tR, le_tL, le_fR, le_fL, lt_tR, lt_tL, lt_fR, lt_fL, eq_tR, eq_tL, eq_fR, eq_fL, ↓m1, eq_m, eq_mR, eq_mm, eq_mmR, tt_i, ff_i]
        exact ⟨S', hR', hA'.cg (fun x hx => (g1 x hx).1.trans (FL_end (fun l hl => ⟨(hb l hl).2.1, fun p hp => (g2 l hl p hp).1⟩) (fun x hx => (hb x hx).1) x hx)), hB'.cg (fun x hx => (g1 x hx).2.trans (FL_end (fun l hl => ⟨(hb l hl).2.2.2, fun p hp => (g2 l hl p hp).2⟩) (fun x hx => (hb x hx).2.2.1) x hx)), rfl⟩
theorem M_measure (C : Cp S G) (W : WG G) : ∃ S', Ro2 S S' ∧ Rw S' 9 (G 14 0) (FL G 0) ∧ Rw S' 10 (G 14 0) (FL G 1) ∧ mM_measure S = some (0, S') := by
  have w0 := W.1
  have key := itr2_r (F := mM_measure_F2) (fun l m S1 res => Ro2 S S1 → (∀ x, x < l → S1 9 x = nI 9999 ∧ S1 10 x = nI 9999) → ∃ S', Ro2 S S' ∧ Rw S' 9 (G 14 0) (FL G 0) ∧ Rw S' 10 (G 14 0) (FL G 1) ∧ res = some (0, S')) 0 (G 14 0) ?_ ?_ (G 14 0) 0 FUEL S (by omega) (by omega) (fuel_gt (by omega))
  · exact key (fun _ _ _ => rfl) (fun x hx => by omega)
  · intro ih S1 hR h0
    have C' := hR.cp C
    unfold mM_measure_F2
    rw [C'.1]
    simp (disch := omega) only [nlit, n_add, n_mul, ob_s, rb_s, tb_s, tb_x, st_s, gz_0, gz_1, gz_b, rdA_n, wrS_n, nI_cl, sU_s, sU_n, le_t, le_f, lt_t, lt_f, eq_t, eq_f, le_tR, le_tL, le_fR, le_fL, lt_tR, lt_tL, lt_fR, lt_fL, eq_tR, eq_tL, eq_fR, eq_fL, ↓m1, eq_m, eq_mR, eq_mm, eq_mmR, tt_i, ff_i]
    have hs := sumR_bd (f := fun x => (fun _ => 9999 : Nat → Nat) x + (fun _ => 9999 : Nat → Nat) x) (b := 19998) (m := G 14 0) (i := 0) (fun _ _ _ => by show 9999 + 9999 ≤ 19998; omega)
    exact M_mloop C W (G 14 0 * 19998) FUEL S1 (fun _ => 9999) (fun _ => 9999) hR (fun x hx => (h0 x hx).1) (fun x hx => (h0 x hx).2) (fun x hx => ⟨FL_le, by omega, FL_le, by omega⟩) hs (fuel_gt (m := G 14 0 * 19998 + 1) (by omega))
  · intro l m ih _ hl hih S1 hR h0
    have C' := hR.cp C
    unfold mM_measure_F2
    rw [C'.1]
    simp (disch := omega) only [nlit, n_add, n_mul, ob_s, rb_s, tb_s, tb_x, st_s, gz_0, gz_1, gz_b, rdA_n, wrS_n, nI_cl, sU_s, sU_n, le_t, le_f, lt_t, lt_f, eq_t, eq_f, le_tR, le_tL, le_fR, le_fL, lt_tR, lt_tL, lt_fR, lt_fL, eq_tR, eq_tL, eq_fR, eq_fL, ↓m1, eq_m, eq_mR, eq_mm, eq_mmR, tt_i, ff_i]
    refine hih _ (fun j h1 h2 => ?_) (fun x hx => ?_)
    · rw [sU_n h2, sU_n h1]; exact hR j h1 h2
    · have e9 : sU (sU S1 9 (upd (S1 9) l (nI 9999))) 10 (upd (S1 10) l (nI 9999)) 9 = upd (S1 9) l (nI 9999) := by rw [sU_n (by omega), sU_s]
      have e10 : sU (sU S1 9 (upd (S1 9) l (nI 9999))) 10 (upd (S1 10) l (nI 9999)) 10 = upd (S1 10) l (nI 9999) := sU_s
      rw [e9, e10]
      unfold upd
      by_cases e : x = l
      · rw [if_pos e, if_pos e]; exact ⟨rfl, rfl⟩
      · rw [if_neg e, if_neg e]; exact h0 x (by omega)
end MEAS
