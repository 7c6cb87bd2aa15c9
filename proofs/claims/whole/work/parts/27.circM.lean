section CIRC
variable {S : XS} {G : GS}
-- the reference
theorem M_leads (C : Cp S G) (W : WG G) {l t : Nat} (hl : l < 12) (ht : t < 12) : mM_leads S (nI l) (nI t) = some (nI (ld G l t).toNat) := by
  have c2 := C.2.2.1
  have w2 := (W.2.2.1 l hl).1
  unfold mM_leads ld
  rw [show (0 : Int32) = nI 0 from rfl, itr1_r (fun p m => some (nI (anyR (fun p => ldp G t (3 * l + p)) p m).toNat)) 0 (G 2 l) ?_ ?_ (G 2 l) 0 FUEL (by omega) (by omega) (fuel_gt (by omega))]
  · intro ih
    unfold mM_leads_F2
    simp (disch := omega) only [nlit, n_add, n_mul, ob_s, rb_s, tb_s, tb_x, st_s, gz_0, gz_1, gz_b, rdA_n, wrS_n, nI_cl, sU_s, sU_n, le_t, le_f, lt_t, lt_f, eq_t, eq_f, le_tR, le_tL, le_fR, le_fL, lt_tR, lt_tL, lt_fR, lt_fL, eq_tR, eq_tL, eq_fR, eq_fL, ↓m1, eq_m, eq_mR, eq_mm, eq_mmR, tt_i, ff_i, c2]
    rfl
  · intro p m ih _ hp hih
    have hj : 3 * l + p < 36 := by omega
    have h3 := W.2.2.2.1 _ hj
    have c3 := C.2.2.2.1
    have c7 := C.2.2.2.2
    unfold mM_leads_F2
    simp (disch := omega) only [nlit, n_add, n_mul, ob_s, rb_s, tb_s, tb_x, st_s, gz_0, gz_1, gz_b, rdA_n, wrS_n, nI_cl, sU_s, sU_n, le_t, le_f, lt_t, lt_f, eq_t, eq_f, le_tR, le_tL, le_fR, le_fL, lt_tR, lt_tL, lt_fR, lt_fL, eq_tR, eq_tL, eq_fR, eq_fL, ↓m1, eq_m, eq_mR, eq_mm, eq_mmR, tt_i, ff_i, c2]
    rw [itr1_r (fun i m2 => bif anyR (ct G t) (5 * (3 * l + p) + i) m2 then some (nI 1) else ih (nI (p + 1))) 0 (G 3 (3 * l + p)) ?_ ?_ (G 3 (3 * l + p)) 0 FUEL (by omega) (by omega) (fuel_gt (by omega))]
    · rw [Nat.add_zero, hih]
      simp only [anyR]
      unfold ldp
      cases anyR (ct G t) (5 * (3 * l + p)) (G 3 (3 * l + p)) <;> rfl
    · intro ih2
      unfold mM_leads_F15
      simp (disch := omega) only [nlit, n_add, n_mul, ob_s, rb_s, tb_s, tb_x, st_s, gz_0, gz_1, gz_b, rdA_n, wrS_n, nI_cl, sU_s, sU_n, le_t, le_f, lt_t, lt_f, eq_t, eq_f, le_tR, le_tL, le_fR, le_fL, lt_tR, lt_tL, lt_fR, lt_fL, eq_tR, eq_tL, eq_fR, eq_fL, ↓m1, eq_m, eq_mR, eq_mm, eq_mmR, tt_i, ff_i, c3]
      rfl
    · intro i m2 ih2 hi0 hi hih2
      obtain ⟨e4, e5, e6, e7⟩ := c7 _ (5 * (3 * l + p) + i) hj (by omega) (by omega)
      obtain ⟨f4, f5, f5', f5'', f6, f6', f7⟩ := W.2.2.2.2 _ (5 * (3 * l + p) + i) hj (by omega) (by omega)
      unfold mM_leads_F15
      simp only [anyR]
      by_cases q : G 4 (5 * (3 * l + p) + i) = 1
      · by_cases q2 : G 5 (5 * (3 * l + p) + i) = t
        · simp (disch := omega) only [nlit, n_add, n_mul, ob_s, rb_s, tb_s, tb_x, st_s, gz_0, gz_1, gz_b, rdA_n, wrS_n, nI_cl, sU_s, sU_n, le_t, le_f, lt_t, lt_f, eq_t, eq_f, le_tR, le_tL, le_fR, le_fL, lt_tR, lt_tL, lt_fR, lt_fL, eq_tR, eq_tL, eq_fR, eq_fL, ↓m1, eq_m, eq_mR, eq_mm, eq_mmR, tt_i, ff_i, c3, M_at, e4, e5]
          rw [show ct G t (5 * (3 * l + p) + i) = true by unfold ct; rw [q, q2]; simp]
          rfl
        · simp (disch := omega) only [nlit, n_add, n_mul, ob_s, rb_s, tb_s, tb_x, st_s, gz_0, gz_1, gz_b, rdA_n, wrS_n, nI_cl, sU_s, sU_n, le_t, le_f, lt_t, lt_f, eq_t, eq_f, le_tR, le_tL, le_fR, le_fL, lt_tR, lt_tL, lt_fR, lt_fL, eq_tR, eq_tL, eq_fR, eq_fL, ↓m1, eq_m, eq_mR, eq_mm, eq_mmR, tt_i, ff_i, c3, M_at, e4, e5]
          rw [show ct G t (5 * (3 * l + p) + i) = false by unfold ct; rw [beq_eq_false_iff_ne.mpr q2, Bool.and_false], Bool.false_or, hih2]
          rfl
      · simp (disch := omega) only [nlit, n_add, n_mul, ob_s, rb_s, tb_s, tb_x, st_s, gz_0, gz_1, gz_b, rdA_n, wrS_n, nI_cl, sU_s, sU_n, le_t, le_f, lt_t, lt_f, eq_t, eq_f, le_tR, le_tL, le_fR, le_fL, lt_tR, lt_tL, lt_fR, lt_fL, eq_tR, eq_tL, eq_fR, eq_fL, ↓m1, eq_m, eq_mR, eq_mm, eq_mmR, tt_i, ff_i, c3, M_at, e4, e5]
        rw [show ct G t (5 * (3 * l + p) + i) = false by unfold ct; rw [beq_eq_false_iff_ne.mpr q, Bool.false_and], Bool.false_or, hih2]
        rfl
def nb (a : Nat) (b : Bool) (v : Nat) : Nat := if a ≠ 0 then a else if b = true then v else 0
def qs (G : GS) (l v s x : Nat) : Bool := anyR (fun s => lst G l s v == v && ld G s x) 0 s
/-- the row while lemma s spreads, the first y done -/
def qr (G : GS) (l v s y x : Nat) : Nat := nb (lst G l x v) (if x < y then qs G l v s x || ld G s x else qs G l v s x) (v + 1)
def PC1 (G : GS) (S0 : XS) (l v s : Nat) (K : XS → Int32 → Option (Int32 × XS)) (y m : Nat) (S : XS) (res : Option (Int32 × XS)) : Prop := Ro S0 S 11 → Rw S 11 (G 14 0) (qr G l v s y) → ∃ S', Ro S0 S' 11 ∧ Rw S' 11 (G 14 0) (qr G l v s (G 14 0)) ∧ res = K S' (nI (s + 1))
theorem nb_le {a v : Nat} {b : Bool} (h : a ≤ v) : nb a b (v + 1) ≤ v + 1 := by
  unfold nb
  split
  · omega
  · split <;> omega
theorem qr_le {l v s y x : Nat} : qr G l v s y x ≤ v + 1 := nb_le lst_le
theorem qr_0 {l v s x : Nat} : qr G l v s 0 x = nb (lst G l x v) (qs G l v s x) (v + 1) := by
  unfold qr
  rw [if_neg (Nat.not_lt_zero _)]
theorem qr_in {l v s y x : Nat} (h : x < y) : qr G l v s y x = nb (lst G l x v) (qs G l v s x || ld G s x) (v + 1) := by
  unfold qr
  rw [if_pos h]
theorem qr_out {l v s y x : Nat} (h : ¬ x < y) : qr G l v s y x = nb (lst G l x v) (qs G l v s x) (v + 1) := by
  unfold qr
  rw [if_neg h]
theorem M_spread {S0 : XS} (C0 : Cp S0 G) (W : WG G) {l v s : Nat} (hv : v + 1 < 100) (hs : s < G 14 0) {K : XS → Int32 → Option (Int32 × XS)} : ∀ m y N S, 0 ≤ y → y + m = G 14 0 → m < N → PC1 G S0 l v s K y m S (itr2 (mM_circle_F83 K (nI l) (nI (v + 1)) (nI s)) N S (nI y)) := by
  have w0 := W.1
  refine itr2_r (PC1 G S0 l v s K) 0 (G 14 0) ?_ ?_
  · intro ih S hR hW
    have C := hR.cp (by omega) C0
    refine ⟨S, hR, hW, ?_⟩
    unfold mM_circle_F83
    rw [C.1]
    simp (disch := omega) only [nlit, n_add, n_mul, ob_s, rb_s, tb_s, tb_x, st_s, gz_0, gz_1, gz_b, rdA_n, wrS_n, nI_cl, sU_s, sU_n, le_t, le_f, lt_t, lt_f, eq_t, eq_f, le_tR, le_tL, le_fR, le_fL, lt_tR, lt_tL, lt_fR, lt_fL, eq_tR, eq_tL, eq_fR, eq_fL, ↓m1, eq_m, eq_mR, eq_mm, eq_mmR, tt_i, ff_i]
  · intro y m ih _ hy hih S hR hW
    have C := hR.cp (by omega) C0
    have hWy := hW y (by omega)
    have hle := lst_le (G := G) (l := l) (t := y) (v := v)
    have hqb : qr G l v s y y < 100 := Nat.lt_of_le_of_lt qr_le hv
    have hoth : ∀ x, x ≠ y → qr G l v s (y + 1) x = qr G l v s y x := fun x hx => by
      by_cases q : x < y
      · rw [qr_in q, qr_in (by omega)]
      · rw [qr_out q, qr_out (by omega)]
    have e1 : qr G l v s y y = nb (lst G l y v) (qs G l v s y) (v + 1) := qr_out (by omega)
    have e2 : qr G l v s (y + 1) y = nb (lst G l y v) (qs G l v s y || ld G s y) (v + 1) := qr_in (by omega)
    unfold mM_circle_F83
    rw [C.1]
    simp (disch := omega) only [nlit, n_add, n_mul, ob_s, rb_s, tb_s, tb_x, st_s, gz_0, gz_1, gz_b, rdA_n, wrS_n, nI_cl, sU_s, sU_n, le_t, le_f, lt_t, lt_f, eq_t, eq_f, le_tR, le_tL, le_fR, le_fL, lt_tR, lt_tL, lt_fR, lt_fL, eq_tR, eq_tL, eq_fR, eq_fL, ↓m1, eq_m, eq_mR, eq_mm, eq_mmR, tt_i, ff_i, hWy, eq_i, eq_iR, eq_iL]
    by_cases q : qr G l v s y y = 0
    · rw [if_pos q]
      have q' := q
      rw [e1] at q'
      have ql : lst G l y v = 0 := by
        unfold nb at q'
        by_cases h : lst G l y v ≠ 0
        · rw [if_pos h] at q'; exact absurd q' h
        · omega
      have qb : qs G l v s y = false := by
        unfold nb at q'
        rw [if_neg (by omega)] at q'
        cases h : qs G l v s y
        · rfl
        · rw [h, if_pos rfl] at q'; omega
      simp (disch := omega) only [nlit, n_add, n_mul, ob_s, rb_s, tb_s, tb_x, st_s, gz_0, gz_1, gz_b, rdA_n, wrS_n, nI_cl, sU_s, sU_n, le_t, le_f, lt_t, lt_f, eq_t, eq_f, le_tR, le_tL, le_fR, le_fL, lt_tR, lt_tL, lt_fR, lt_fL, eq_tR, eq_tL, eq_fR, eq_fL, ↓m1, eq_m, eq_mR, eq_mm, eq_mmR, tt_i, ff_i, M_leads C W (l := s) (t := y) (by omega) (by omega), bz_i, bz_iR]
      cases hld : ld G s y
      · rw [if_neg (show ¬ (false = true) from fun e => by cases e)]
        refine hih S hR (hW.cg fun x hx => ?_)
        by_cases e : x = y
        · rw [e, e1, e2, hld, Bool.or_false]
        · exact (hoth x e).symm
      · rw [if_pos rfl]
        refine hih _ hR.sU ((Rw_up hW).cg fun x hx => ?_)
        by_cases e : x = y
        · rw [e, uN_s, e2, hld, Bool.or_true, ql]; rfl
        · rw [uN_n e, hoth x e]
    · rw [if_neg q]
      refine hih S hR (hW.cg fun x hx => ?_)
      by_cases e : x = y
      · rw [e, e1, e2]
        rw [e1] at q
        unfold nb at q ⊢
        by_cases h : lst G l y v ≠ 0
        · rw [if_pos h, if_pos h]
        · rw [if_neg h] at q ⊢
          rw [if_neg h]
          by_cases hb : qs G l v s y = true
          · rw [hb]; rfl
          · rw [if_neg hb] at q; exact absurd rfl q
      · exact (hoth x e).symm
def PC2 (G : GS) (S0 : XS) (l v : Nat) (K : XS → Int32 → Option (Int32 × XS)) (s m : Nat) (S : XS) (res : Option (Int32 × XS)) : Prop := Ro S0 S 11 → Rw S 11 (G 14 0) (qr G l v s 0) → ∃ S', Ro S0 S' 11 ∧ Rw S' 11 (G 14 0) (fun x => lst G l x (v + 1)) ∧ res = K S' (nI (v + 2))
theorem M_layer {S0 : XS} (C0 : Cp S0 G) (W : WG G) {l v : Nat} (hv1 : 1 ≤ v) (hv : v + 1 < 100) {K : XS → Int32 → Option (Int32 × XS)} : ∀ m s N S, 0 ≤ s → s + m = G 14 0 → m < N → PC2 G S0 l v K s m S (itr2 (mM_circle_F57 K (nI l) (nI (v + 1))) N S (nI s)) := by
  have w0 := W.1
  refine itr2_r (PC2 G S0 l v K) 0 (G 14 0) ?_ ?_
  · intro ih S hR hW
    have C := hR.cp (by omega) C0
    refine ⟨S, hR, hW.cg fun x hx => ?_, ?_⟩
    · show qr G l v (G 14 0) 0 x = lst G l x (v + 1)
      rw [qr_0, lst_s]
      unfold nb
      by_cases h : lst G l x v ≠ 0
      · rw [if_pos h, if_pos h]
      · rw [if_neg h, if_neg h]
        unfold qs
        rw [lst_next (by omega) hv1]
    · unfold mM_circle_F57
      rw [C.1]
      simp (disch := omega) only [nlit, n_add, n_mul, ob_s, rb_s, tb_s, tb_x, st_s, gz_0, gz_1, gz_b, rdA_n, wrS_n, nI_cl, sU_s, sU_n, le_t, le_f, lt_t, lt_f, eq_t, eq_f, le_tR, le_tL, le_fR, le_fL, lt_tR, lt_tL, lt_fR, lt_fL, eq_tR, eq_tL, eq_fR, eq_fL, ↓m1, eq_m, eq_mR, eq_mm, eq_mmR, tt_i, ff_i]
  · intro s m ih _ hs hih S hR hW
    have C := hR.cp (by omega) C0
    have hWs := hW s (by omega)
    have hle := lst_le (G := G) (l := l) (t := s) (v := v)
    have e0 : qr G l v s 0 s = nb (lst G l s v) (qs G l v s s) (v + 1) := qr_0
    have hqb : qr G l v s 0 s < 100 := Nat.lt_of_le_of_lt qr_le hv
    have hiff : qr G l v s 0 s = v ↔ lst G l s v = v := by
      rw [e0]; unfold nb
      by_cases h : lst G l s v ≠ 0
      · rw [if_pos h]
      · rw [if_neg h]
        constructor
        · intro h2; split at h2 <;> omega
        · intro h2; omega
    have hsn : ∀ x, qs G l v (s + 1) x = (qs G l v s x || (lst G l s v == v && ld G s x)) := fun x => anyR_snoc
    have hn : ∀ x, qr G l v (s + 1) 0 x = nb (lst G l x v) (qs G l v s x || (lst G l s v == v && ld G s x)) (v + 1) := fun x => by
      rw [qr_0, hsn]
    unfold mM_circle_F57
    rw [C.1]
    simp (disch := omega) only [nlit, n_add, n_mul, ob_s, rb_s, tb_s, tb_x, st_s, gz_0, gz_1, gz_b, rdA_n, wrS_n, nI_cl, sU_s, sU_n, le_t, le_f, lt_t, lt_f, eq_t, eq_f, le_tR, le_tL, le_fR, le_fL, lt_tR, lt_tL, lt_fR, lt_fL, eq_tR, eq_tL, eq_fR, eq_fL, ↓m1, eq_m, eq_mR, eq_mm, eq_mmR, tt_i, ff_i, hWs, pk_sub, eq_i, eq_iR, eq_iL]
    rw [show v + 1 - 1 = v by omega]
    by_cases q : qr G l v s 0 s = v
    · rw [if_pos q]
      have ql := hiff.mp q
      obtain ⟨S', hR', hW', e⟩ := M_spread C0 W (l := l) (v := v) (s := s) hv (by omega) (K := ih) (G 14 0) 0 FUEL S (by omega) (by omega) (fuel_gt (by omega)) hR hW
      rw [e]
      refine hih S' hR' (hW'.cg fun x hx => ?_)
      rw [hn x, ql, qr_in hx]
      simp
    · rw [if_neg q]
      have ql : (lst G l s v == v) = false := beq_eq_false_iff_ne.mpr fun e => q (hiff.mpr e)
      refine hih S hR (hW.cg fun x hx => ?_)
      rw [hn x, ql, Bool.false_and, Bool.or_false]
      exact qr_0
def PC3 (G : GS) (S0 : XS) (l : Nat) (v m : Nat) (S : XS) (res : Option (Int32 × XS)) : Prop := Ro S0 S 11 → Rw S 11 (G 14 0) (fun x => lst G l x (v - 1)) → ∃ S', Ro S0 S' 11 ∧ res = some (nI (lst G l l (G 14 0)), S')
theorem M_layers {S0 : XS} (C0 : Cp S0 G) (W : WG G) {l : Nat} (hl : l < G 14 0) : ∀ m v N S, 2 ≤ v → v + m = G 14 0 + 1 → m < N → PC3 G S0 l v m S (itr2 (mM_circle_F38 (nI l)) N S (nI v)) := by
  have w0 := W.1
  refine itr2_r (PC3 G S0 l) 2 (G 14 0 + 1) ?_ ?_
  · intro ih S hR hW
    have C := hR.cp (by omega) C0
    have hWl := hW l hl
    refine ⟨S, hR, ?_⟩
    unfold mM_circle_F38
    rw [C.1]
    simp (disch := omega) only [nlit, n_add, n_mul, ob_s, rb_s, tb_s, tb_x, st_s, gz_0, gz_1, gz_b, rdA_n, wrS_n, nI_cl, sU_s, sU_n, le_t, le_f, lt_t, lt_f, eq_t, eq_f, le_tR, le_tL, le_fR, le_fL, lt_tR, lt_tL, lt_fR, lt_fL, eq_tR, eq_tL, eq_fR, eq_fL, ↓m1, eq_m, eq_mR, eq_mm, eq_mmR, tt_i, ff_i, hWl]
    rw [show G 14 0 + 1 - 1 = G 14 0 by omega]
  · intro v m ih hv0 hv hih S hR hW
    obtain ⟨w, rfl⟩ : ∃ w, v = w + 1 := ⟨v - 1, by omega⟩
    have hW : Rw S 11 (G 14 0) (fun x => lst G l x w) := hW
    have C := hR.cp (by omega) C0
    have hWl : S 11 l = nI (lst G l l w) := hW l hl
    have hle := lst_le (G := G) (l := l) (t := l) (v := w)
    unfold mM_circle_F38
    rw [C.1]
    simp (disch := omega) only [nlit, n_add, n_mul, ob_s, rb_s, tb_s, tb_x, st_s, gz_0, gz_1, gz_b, rdA_n, wrS_n, nI_cl, sU_s, sU_n, le_t, le_f, lt_t, lt_f, eq_t, eq_f, le_tR, le_tL, le_fR, le_fL, lt_tR, lt_tL, lt_fR, lt_fL, eq_tR, eq_tL, eq_fR, eq_fL, ↓m1, eq_m, eq_mR, eq_mm, eq_mmR, tt_i, ff_i, hWl, eq_i, eq_iR, eq_iL]
    by_cases q : lst G l l w = 0
    · rw [if_pos q]
      obtain ⟨S', hR', hW', e⟩ := M_layer C0 W (l := l) (v := w) (by omega) (by omega) (K := ih) (G 14 0) 0 FUEL S (by omega) (by omega) (fuel_gt (by omega)) hR (hW.cg fun x hx => by
        rw [qr_0]
        unfold nb qs
        by_cases h : lst G l x w ≠ 0
        · rw [if_pos h]
        · rw [if_neg h, show anyR (fun s => lst G l s w == w && ld G s x) 0 0 = false from rfl, if_neg (fun e => by cases e)]; omega)
      rw [e]
      exact hih S' hR' hW'
    · rw [if_neg q]
      refine ⟨S, hR, ?_⟩
      rw [lst_stay q (w := G 14 0) (by omega)]
theorem M_circle (C : Cp S G) (W : WG G) {l : Nat} (hl : l < G 14 0) : ∃ S', Ro S S' 11 ∧ mM_circle S (nI l) = some (nI (lst G l l (G 14 0)), S') := by
  have w0 := W.1
  have key := itr2_r (F := mM_circle_F2 (nI l)) (fun y m S1 res => Ro S S1 11 → (∀ x, x < y → S1 11 x = nI (lst G l x 1)) → ∃ S', Ro S S' 11 ∧ res = some (nI (lst G l l (G 14 0)), S')) 0 (G 14 0) ?_ ?_ (G 14 0) 0 FUEL S (by omega) (by omega) (fuel_gt (by omega))
  · exact key (fun _ _ => rfl) (fun x hx => by omega)
  · intro ih S1 hR h0
    have C' := hR.cp (by omega) C
    unfold mM_circle_F2
    rw [C'.1]
    simp (disch := omega) only [nlit, n_add, n_mul, ob_s, rb_s, tb_s, tb_x, st_s, gz_0, gz_1, gz_b, rdA_n, wrS_n, nI_cl, sU_s, sU_n, le_t, le_f, lt_t, lt_f, eq_t, eq_f, le_tR, le_tL, le_fR, le_fL, lt_tR, lt_tL, lt_fR, lt_fL, eq_tR, eq_tL, eq_fR, eq_fL, ↓m1, eq_m, eq_mR, eq_mm, eq_mmR, tt_i, ff_i]
    exact M_layers C W hl (G 14 0 - 1) 2 FUEL S1 (by omega) (by omega) (fuel_gt (by omega)) hR (fun x hx => h0 x hx)
  · intro y m ih _ hy hih S1 hR h0
    have C' := hR.cp (by omega) C
    have e1 : lst G l y 1 = if ld G l y = true then 1 else 0 := by
      rw [show (1 : Nat) = 0 + 1 from rfl, lst_s, if_neg (by unfold lst; omega)]
      rfl
    unfold mM_circle_F2
    rw [C'.1]
    simp (disch := omega) only [nlit, n_add, n_mul, ob_s, rb_s, tb_s, tb_x, st_s, gz_0, gz_1, gz_b, rdA_n, wrS_n, nI_cl, sU_s, sU_n, le_t, le_f, lt_t, lt_f, eq_t, eq_f, le_tR, le_tL, le_fR, le_fL, lt_tR, lt_tL, lt_fR, lt_fL, eq_tR, eq_tL, eq_fR, eq_fL, ↓m1, eq_m, eq_mR, eq_mm, eq_mmR, tt_i, ff_i, M_leads C' W (l := l) (t := y) (by omega) (by omega), bz_i, bz_iR]
    have hgo : ∀ v, nI v = nI (lst G l y 1) → ∀ x, x < y + 1 → sU S1 11 (upd (S1 11) y (nI v)) 11 x = nI (lst G l x 1) := fun v hv x hx => by
      rw [sU_s]
      unfold upd
      by_cases e : x = y
      · rw [if_pos e, e]; exact hv
      · rw [if_neg e]; exact h0 x (by omega)
    by_cases q : ld G l y = true
    · rw [if_pos q] at e1 ⊢
      exact hih _ hR.sU (hgo 1 (by rw [e1]))
    · rw [if_neg q] at e1 ⊢
      exact hih _ hR.sU (hgo 0 (by rw [e1]))
end CIRC
