section CIRC
variable {S : XS} {G : GS}
set_option maxHeartbeats 20000 in
theorem X_citedp (C : Cp S G) (W : WG G) {l p : Nat} {k : Int32 → Int32 → Option Int32} (hj : 3 * l + p < 36) (v : Int32) : ∃ v', (∀ t, t < 12 → bt v' t = (bt v t || ldp G t (3 * l + p))) ∧ itr2 (mX_lemmasCitedBy_F28 S k (nI l) (nI p) (nI (3 * l + p))) FUEL v (nI (5 * (3 * l + p))) = k v' (nI (p + 1)) := by
  have h3 := W.2.2.2.1 _ hj
  have c7 := C.2.2.2.2
  unfold ldp
  refine itr2_r (F := mX_lemmasCitedBy_F28 S k (nI l) (nI p) (nI (3 * l + p))) (fun i m v res => ∃ v', (∀ t, t < 12 → bt v' t = (bt v t || anyR (ct G t) i m)) ∧ res = k v' (nI (p + 1))) (5 * (3 * l + p)) (5 * (3 * l + p) + G 3 (3 * l + p)) ?_ ?_ (G 3 (3 * l + p)) (5 * (3 * l + p)) FUEL v (by omega) (by omega) (fuel_gt (by omega))
  · intro ih2 v
    refine ⟨v, fun t _ => (Bool.or_false _).symm, ?_⟩
    unfold mX_lemmasCitedBy_F28
    rw [X_end C hj]
    simp (disch := omega) only [nlit, n_add, n_mul, ob_s, rb_s, tb_s, tb_x, st_s, gz_0, gz_1, gz_b, rdA_n, wrS_n, nI_cl, sU_s, sU_n, le_t, le_f, lt_t, lt_f, eq_t, eq_f, le_tR, le_tL, le_fR, le_fL, lt_tR, lt_tL, lt_fR, lt_fL, eq_tR, eq_tL, eq_fR, eq_fL, ↓m1, eq_m, eq_mR, eq_mm, eq_mmR, tt_i, ff_i]
  · intro i m2 ih2 hi0 hi hih2 v
    obtain ⟨e4, e5, e6, e7⟩ := c7 _ i hj hi0 (by omega)
    obtain ⟨f4, f5, f5', f5'', f6, f6', f7⟩ := W.2.2.2.2 _ i hj hi0 (by omega)
    unfold mX_lemmasCitedBy_F28
    rw [X_end C hj, ob_s, le_f (by omega) (by omega), rdA_n (by omega) (by omega), ob_s, e4]
    by_cases q : G 4 i = 1
    · have w0 := W.1
      have hc := f5' q
      rw [if_pos (show nI (G 4 i) = (1 : Int32) from congrArg nI q), rdA_n (by omega) (by omega), ob_s, e5, nI_1]
      obtain ⟨v2, h4, h5⟩ := hih2 (v ||| (1 <<< (nI (G 5 i) &&& 31)))
      refine ⟨v2, fun t ht => ?_, h5⟩
      have e : ct G t i = (G 5 i == t) := by unfold ct; rw [beq_iff_eq.mpr q, Bool.true_and]
      rw [h4 t ht, bt_or, bt_sn (by omega) ht, Bool.or_assoc, ← e]
      rfl
    · rw [if_neg (show ¬ nI (G 4 i) = (1 : Int32) from fun e => q ((nI_eq (b := 1) (by omega) (by omega)).mp e)), nI_1]
      obtain ⟨v2, h4, h5⟩ := hih2 v
      refine ⟨v2, fun t ht => ?_, h5⟩
      have e : ct G t i = false := by unfold ct; rw [beq_eq_false_iff_ne.mpr q, Bool.false_and]
      rw [h4 t ht, show anyR (ct G t) i (m2 + 1) = (ct G t i || anyR (ct G t) (i + 1) m2) from rfl, e, Bool.false_or]
set_option maxHeartbeats 20000 in
theorem X_citedo (C : Cp S G) (W : WG G) {l : Nat} (hl : l < 12) (v : Int32) : ∃ v', (∀ t, t < 12 → bt v' t = (bt v t || ld G l t)) ∧ itr2 (mX_lemmasCitedBy_F4 S (nI l)) FUEL v (nI 0) = some v' := by
  have c2 := C.2.2.1
  have w2 := (W.2.2.1 l hl).1
  refine itr2_r (F := mX_lemmasCitedBy_F4 S (nI l)) (fun p m v res => ∃ v', (∀ t, t < 12 → bt v' t = (bt v t || anyR (fun p => ldp G t (3 * l + p)) p m)) ∧ res = some v') 0 (G 2 l) ?_ ?_ (G 2 l) 0 FUEL v (by omega) (by omega) (fuel_gt (by omega))
  · intro ih v
    refine ⟨v, fun t _ => (Bool.or_false _).symm, ?_⟩
    unfold mX_lemmasCitedBy_F4
    simp (disch := omega) only [nlit, n_add, n_mul, ob_s, rb_s, tb_s, tb_x, st_s, gz_0, gz_1, gz_b, rdA_n, wrS_n, nI_cl, sU_s, sU_n, le_t, le_f, lt_t, lt_f, eq_t, eq_f, le_tR, le_tL, le_fR, le_fL, lt_tR, lt_tL, lt_fR, lt_fL, eq_tR, eq_tL, eq_fR, eq_fL, ↓m1, eq_m, eq_mR, eq_mm, eq_mmR, tt_i, ff_i, c2]
  · intro p m ih _ hp hih v
    unfold mX_lemmasCitedBy_F4
    rw [rdA_n hl (by omega), ob_s, c2 l hl, le_f (by omega) (by omega), X_slotOf, ob_s, X_first, ob_s]
    obtain ⟨v1, h1, h2⟩ := X_citedp C W (k := ih) (l := l) (p := p) (by omega) v
    obtain ⟨v2, h4, h5⟩ := hih v1
    refine ⟨v2, fun t ht => ?_, h2.trans h5⟩
    rw [h4 t ht, h1 t ht, Bool.or_assoc]
    rfl
set_option maxHeartbeats 20000 in
theorem X_cited (C : Cp S G) (W : WG G) {l : Nat} (hl : l < 12) : ∃ v, mX_lemmasCitedBy S (nI l) = some v ∧ ∀ t, t < 12 → bt v t = ld G l t := by
  obtain ⟨v, h1, h2⟩ := X_citedo C W hl (nI 0)
  refine ⟨v, h2, fun t ht => ?_⟩
  rw [h1 t ht, show nI 0 = (0 : Int32) from rfl, bt_0, Bool.false_or]
def Mk (S : XS) (G : GS) : Prop := ∀ l, l < G 14 0 → ∀ t, t < 12 → bt (S 11 l) t = ld G l t
theorem X_citedAll (C : Cp S G) (W : WG G) (K : Mk S G) {w : Int32} : ∃ v, mX_lemmasCitedByAll S w = some v ∧ ∀ t, t < 12 → bt v t = anyR (fun s => bt w s && ld G s t) 0 (G 14 0) := by
  have w0 := W.1
  have key := itr2_r (F := mX_lemmasCitedByAll_F4 S w) (fun p m v res => ∃ v', (∀ t, t < 12 → bt v' t = (bt v t || anyR (fun s => bt w s && ld G s t) p m)) ∧ res = some v') 0 (G 14 0) ?_ ?_ (G 14 0) 0 FUEL 0 (by omega) (by omega) (fuel_gt (by omega))
  · obtain ⟨v', h1, h2⟩ := key
    refine ⟨v', ?_, fun t ht => by rw [h1 t ht, bt_0, Bool.false_or]⟩
    unfold mX_lemmasCitedByAll
    rw [show (0 : Int32) = nI 0 from rfl] at h2 ⊢
    exact h2
  · intro ih v
    refine ⟨v, fun t _ => by simp [anyR], ?_⟩
    unfold mX_lemmasCitedByAll_F4
    rw [C.1]
    simp (disch := omega) only [nlit, n_add, n_mul, ob_s, rb_s, tb_s, tb_x, st_s, gz_0, gz_1, gz_b, rdA_n, wrS_n, nI_cl, sU_s, sU_n, le_t, le_f, lt_t, lt_f, eq_t, eq_f, le_tR, le_tL, le_fR, le_fL, lt_tR, lt_tL, lt_fR, lt_fL, eq_tR, eq_tL, eq_fR, eq_fL, ↓m1, eq_m, eq_mR, eq_mm, eq_mmR, tt_i, ff_i]
  · intro p m ih _ hp hih v
    unfold mX_lemmasCitedByAll_F4
    rw [C.1]
    simp (disch := omega) only [nlit, n_add, n_mul, ob_s, rb_s, tb_s, tb_x, st_s, gz_0, gz_1, gz_b, rdA_n, wrS_n, nI_cl, sU_s, sU_n, le_t, le_f, lt_t, lt_f, eq_t, eq_f, le_tR, le_tL, le_fR, le_fL, lt_tR, lt_tL, lt_fR, lt_fL, eq_tR, eq_tL, eq_fR, eq_fL, ↓m1, eq_m, eq_mR, eq_mm, eq_mmR, tt_i, ff_i, X_isIn, bz_i, bz_iR]
    by_cases q : bt w p = true
    · rw [if_pos q]
      obtain ⟨v2, h4, h5⟩ := hih (v ||| S 11 p)
      refine ⟨v2, fun t ht => ?_, h5⟩
      rw [h4 t ht, bt_or, K p (by omega) t ht, Bool.or_assoc]
      simp only [anyR]
      rw [q, Bool.true_and]
    · rw [if_neg q]
      obtain ⟨v2, h4, h5⟩ := hih v
      refine ⟨v2, fun t ht => ?_, h5⟩
      rw [h4 t ht]
      simp [anyR, q]
theorem X_circle (C : Cp S G) (W : WG G) (K : Mk S G) {l : Nat} (hl : l < G 14 0) : mX_citesToItself S (nI l) = some (nI (lst G l l (G 14 0))) := by
  have w0 := W.1
  unfold mX_citesToItself
  rw [rdA_n (by omega) (by omega), ob_s]
  refine itr2_r (F := mX_citesToItself_F9 S (nI l)) (fun i m v res => (∀ t, t < 12 → bt v t = rk G l (i - 1) t) → lst G l l (i - 1) = 0 → res = some (nI (lst G l l (G 14 0)))) 1 (G 14 0 + 1) ?_ ?_ (G 14 0) 1 FUEL (S 11 l) (by omega) (by omega) (fuel_gt (by omega)) (K l hl) rfl
  · intro ih v hv h0
    unfold mX_citesToItself_F9
    rw [C.1]
    simp (disch := omega) only [nlit, n_add, n_mul, ob_s, rb_s, tb_s, tb_x, st_s, gz_0, gz_1, gz_b, rdA_n, wrS_n, nI_cl, sU_s, sU_n, le_t, le_f, lt_t, lt_f, eq_t, eq_f, le_tR, le_tL, le_fR, le_fL, lt_tR, lt_tL, lt_fR, lt_fL, eq_tR, eq_tL, eq_fR, eq_fL, ↓m1, eq_m, eq_mR, eq_mm, eq_mmR, tt_i, ff_i]
    rw [show G 14 0 + 1 - 1 = G 14 0 by omega] at h0
    rw [h0]
  · intro i m ih hi0 hi hih v hv h0
    obtain ⟨w, rfl⟩ : ∃ w, i = w + 1 := ⟨i - 1, by omega⟩
    rw [show w + 1 - 1 = w by omega] at hv h0
    unfold mX_citesToItself_F9
    rw [C.1]
    simp (disch := omega) only [nlit, n_add, n_mul, ob_s, rb_s, tb_s, tb_x, st_s, gz_0, gz_1, gz_b, rdA_n, wrS_n, nI_cl, sU_s, sU_n, le_t, le_f, lt_t, lt_f, eq_t, eq_f, le_tR, le_tL, le_fR, le_fL, lt_tR, lt_tL, lt_fR, lt_fL, eq_tR, eq_tL, eq_fR, eq_fL, ↓m1, eq_m, eq_mR, eq_mm, eq_mmR, tt_i, ff_i, X_isIn, bz_i, bz_iR]
    have hb := hv l (by omega)
    have hstep : lst G l l (w + 1) = if rk G l w l = true then w + 1 else 0 := by
      rw [lst_s, if_neg (by omega)]
    by_cases q : bt v l = true
    · rw [if_pos q]
      rw [hb] at q
      rw [if_pos q] at hstep
      rw [lst_stay (v := w + 1) (by omega) (by omega), hstep]
    · rw [if_neg q]
      rw [hb] at q
      rw [if_neg q] at hstep
      obtain ⟨v2, h4, h5⟩ := X_citedAll C W K (w := v)
      rw [h4, ob_s]
      refine hih v2 (fun t ht => ?_) hstep
      rw [h5 t ht]
      show _ = anyR (fun s => rk G l w s && ld G s t) 0 (G 14 0)
      rw [Bool.eq_iff_iff, anyR_iff, anyR_iff]
      constructor
      · rintro ⟨s, a1, a2, a3⟩
        exact ⟨s, a1, a2, by rw [hv s (by omega)] at a3; exact a3⟩
      · rintro ⟨s, a1, a2, a3⟩
        exact ⟨s, a1, a2, by rw [hv s (by omega)]; exact a3⟩
end CIRC
