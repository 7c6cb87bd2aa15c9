section COST
variable {G : GS}
def sc (G : GS) (k : Nat) (r : Nat → Nat) (i : Nat) : Nat := if G 4 i = 0 then (if G 1 (G 5 i) = 0 then 9999 else 0) else if G 4 i = 1 then r (G 5 i) else if k = 0 then (if G 6 i = 0 then 0 else 9999) else G 6 i
def cb (G : GS) (k j : Nat) : Nat := if k = 0 then G 3 j else 0
def cs (G : GS) (k : Nat) (r : Nat → Nat) (j : Nat) : Nat := if wh G j = true then min 9999 (cb G k j + sumR (sc G k r) (5 * j) (G 3 j)) else 9999
def PF (G : GS) (k : Nat) (w : Nat → Nat) : Prop := ∀ l, l < G 14 0 → w l ≤ 9999 ∧ ∀ p, p < G 2 l → w l ≤ cs G k w (3 * l + p)
noncomputable def fg (P : Nat → Prop) : Nat → Nat
  | 0 => 0
  | n + 1 => @ite _ (P (n + 1)) (Classical.propDecidable _) (n + 1) (fg P n)
theorem fg_le {P : Nat → Prop} : ∀ {n : Nat}, fg P n ≤ n := by
  intro n
  induction n with
  | zero => exact Nat.le_refl _
  | succ n ih =>
    unfold fg
    split
    · exact Nat.le_refl _
    · omega
theorem fg_ge {P : Nat → Prop} {v : Nat} (h : P v) : ∀ {n : Nat}, v ≤ n → v ≤ fg P n := by
  intro n
  induction n with
  | zero => intro hv; omega
  | succ n ih =>
    intro hv
    unfold fg
    split
    · exact hv
    · rename_i hn
      by_cases e : v = n + 1
      · rw [e] at h; exact absurd h hn
      · exact ih (by omega)
theorem fg_is {P : Nat → Prop} (h : P 0) : ∀ {n : Nat}, P (fg P n) := by
  intro n
  induction n with
  | zero => exact h
  | succ n ih =>
    unfold fg
    split
    · assumption
    · exact ih
noncomputable def FL (G : GS) (k : Nat) (l : Nat) : Nat := fg (fun v => ∃ w, PF G k w ∧ w l = v) 9999
theorem FL_le {k l : Nat} : FL G k l ≤ 9999 := fg_le
theorem FL_max {k l : Nat} {w : Nat → Nat} (h : PF G k w) (hl : l < G 14 0) : w l ≤ FL G k l := fg_ge (P := fun v => ∃ w, PF G k w ∧ w l = v) ⟨w, h, rfl⟩ (h l hl).1
theorem cs_le {k j : Nat} {r : Nat → Nat} : cs G k r j ≤ 9999 := by
  unfold cs
  split
  · exact Nat.min_le_left _ _
  · exact Nat.le_refl _
theorem cs_mono (W : WG G) {k j : Nat} {r r' : Nat → Nat} (hj : j < 36) (h : ∀ x, x < G 14 0 → r x ≤ r' x) : cs G k r j ≤ cs G k r' j := by
  have h1 : sumR (sc G k r) (5 * j) (G 3 j) ≤ sumR (sc G k r') (5 * j) (G 3 j) := sumR_le fun i h1 h2 => by
    have w := (W.2.2.2.2 j i hj h1 h2).2.2.1
    unfold sc
    by_cases k0 : G 4 i = 0
    · rw [if_pos k0, if_pos k0]; exact Nat.le_refl _
    · rw [if_neg k0, if_neg k0]
      by_cases k1 : G 4 i = 1
      · rw [if_pos k1, if_pos k1]; exact h _ (w k1)
      · rw [if_neg k1, if_neg k1]; exact Nat.le_refl _
  unfold cs
  split
  · omega
  · exact Nat.le_refl _
theorem cs_cg {k j : Nat} {r r' : Nat → Nat} (h : ∀ i, 5 * j ≤ i → i < 5 * j + G 3 j → G 4 i = 1 → r (G 5 i) = r' (G 5 i)) : cs G k r j = cs G k r' j := by
  have h1 : sumR (sc G k r) (5 * j) (G 3 j) = sumR (sc G k r') (5 * j) (G 3 j) := sumR_cg fun i h1 h2 => by
    have w := h i h1 h2
    unfold sc
    by_cases k0 : G 4 i = 0
    · rw [if_pos k0, if_pos k0]
    · rw [if_neg k0, if_neg k0]
      by_cases k1 : G 4 i = 1
      · rw [if_pos k1, if_pos k1]; exact w k1
      · rw [if_neg k1, if_neg k1]
  unfold cs
  rw [h1]
theorem cs_arg {k j i : Nat} {r : Nat → Nat} (h1 : 5 * j ≤ i) (h2 : i < 5 * j + G 3 j) (h4 : G 4 i = 1) (hr : r (G 5 i) ≤ 9999) : r (G 5 i) ≤ cs G k r j := by
  have := sumR_ge (f := sc G k r) (m := G 3 j) (i := 5 * j) i h1 h2
  have e : sc G k r i = r (G 5 i) := by
    unfold sc
    rw [if_neg (by omega), if_pos h4]
  rw [e] at this
  unfold cs
  split
  · omega
  · exact hr
theorem PF_0 {k : Nat} : PF G k (fun _ => 0) := fun _ _ => ⟨Nat.zero_le _, fun _ _ => Nat.zero_le _⟩
theorem FL_pf (W : WG G) {k : Nat} : PF G k (FL G k) := by
  intro l hl
  refine ⟨FL_le, fun p hp => ?_⟩
  obtain ⟨w, hw, e⟩ := fg_is (P := fun v => ∃ w, PF G k w ∧ w l = v) ⟨_, PF_0, rfl⟩ (n := 9999)
  have e : w l = FL G k l := e
  rw [← e]
  have w0 := W.1
  have w2 := (W.2.2.1 l (by omega)).1
  exact Nat.le_trans ((hw l hl).2 p hp) (cs_mono W (by omega) fun x hx => FL_max hw hx)
theorem FL_end {k : Nat} {r : Nat → Nat} (h : PF G k r) (hd : ∀ x, x < G 14 0 → FL G k x ≤ r x) : ∀ x, x < G 14 0 → r x = FL G k x := fun x hx => Nat.le_antisymm (FL_max h hx) (hd x hx)
theorem least {P : Nat → Prop} : ∀ {v : Nat}, P v → ∃ m, P m ∧ ∀ k, P k → m ≤ k := by
  intro v
  induction v using Nat.strongRecOn with
  | ind v ih =>
    intro h
    by_cases q : ∃ k, k < v ∧ P k
    · obtain ⟨k, h1, h2⟩ := q
      exact ih k h1 h2
    · exact ⟨v, h, fun k hk => Nat.le_of_not_lt fun h2 => q ⟨k, h2, hk⟩⟩
theorem FL_step (W : WG G) {k : Nat} {r r' : Nat → Nat} (h0 : ∀ x, x < G 14 0 → FL G k x ≤ r' x ∧ r' x ≤ r x ∧ r x ≤ 9999) (h1 : ∀ l, l < G 14 0 → ∀ p, p < G 2 l → r' l ≤ cs G k r (3 * l + p)) {l0 : Nat} (hl0 : l0 < G 14 0) (hn : r l0 ≠ FL G k l0) : ∃ x, x < G 14 0 ∧ r x ≠ FL G k x ∧ r' x = FL G k x := by
  refine Classical.byContradiction fun hc => ?_
  obtain ⟨m, ⟨ls, hls, hls1, hls2⟩, hm⟩ := least (P := fun m => ∃ l, l < G 14 0 ∧ r l ≠ FL G k l ∧ FL G k l = m) ⟨l0, hl0, hn, rfl⟩
  let w : Nat → Nat := fun l => if r l ≠ FL G k l ∧ FL G k l = m then m + 1 else FL G k l
  have w1 : ∀ x, r x ≠ FL G k x → FL G k x = m → w x = m + 1 := fun x a b => if_pos ⟨a, b⟩
  have w2 : ∀ x, ¬ (r x ≠ FL G k x ∧ FL G k x = m) → w x = FL G k x := fun x a => if_neg a
  have w3 : ∀ x, FL G k x ≤ w x := fun x => by
    by_cases q : r x ≠ FL G k x ∧ FL G k x = m
    · rw [w1 x q.1 q.2]; omega
    · rw [w2 x q]; exact Nat.le_refl _
  have w4 : ∀ x, x < G 14 0 → w x ≤ 9999 := fun x hx => by
    by_cases q : r x ≠ FL G k x ∧ FL G k x = m
    · rw [w1 x q.1 q.2]
      have := h0 x hx
      have := q.1
      omega
    · rw [w2 x q]; exact FL_le
  have n0 := W.1
  have hw : PF G k w := by
    intro l hl
    refine ⟨w4 l hl, fun p hp => ?_⟩
    have n2 := (W.2.2.1 l (by omega)).1
    have hj : 3 * l + p < 36 := by omega
    have a1 := (FL_pf W (k := k) l hl).2 p hp
    have a2 : cs G k (FL G k) (3 * l + p) ≤ cs G k w (3 * l + p) := cs_mono W hj fun x _ => w3 x
    by_cases q : r l ≠ FL G k l ∧ FL G k l = m
    · rw [w1 l q.1 q.2]
      refine Classical.byContradiction fun hlt => ?_
      have hcw : cs G k w (3 * l + p) = m := by omega
      have hcF : cs G k (FL G k) (3 * l + p) = m := by omega
      have hcr : cs G k r (3 * l + p) = m := by
        rw [← hcF]
        refine cs_cg fun i i1 i2 i4 => ?_
        have hx : G 5 i < G 14 0 := (W.2.2.2.2 _ i hj i1 i2).2.2.1 i4
        have b1 := cs_arg (k := k) (r := w) i1 i2 i4 (w4 _ hx)
        refine Classical.byContradiction fun hne => ?_
        have b2 := hm (FL G k (G 5 i)) ⟨_, hx, hne, rfl⟩
        have b3 := w3 (G 5 i)
        have b4 := w1 (G 5 i) hne (by omega)
        omega
      have b5 := h1 l hl p hp
      have b6 := h0 l hl
      exact hc ⟨l, hl, q.1, by omega⟩
    · rw [w2 l q]; omega
  have := FL_max hw hls
  rw [w1 ls hls1 hls2] at this
  omega
-- how many are at their end
noncomputable def fin (G : GS) (k : Nat) (r : Nat → Nat) : Nat := sumR (fun l => if r l = FL G k l then 1 else 0) 0 (G 14 0)
theorem fin_all {k : Nat} {r : Nat → Nat} (h : G 14 0 ≤ fin G k r) : ∀ x, x < G 14 0 → r x = FL G k x := by
  intro x hx
  refine Classical.byContradiction fun hne => ?_
  have h1 := sumR_lt (f := fun l => if r l = FL G k l then 1 else 0) (g := fun _ => 1) (m := G 14 0) (i := 0) x (fun k _ _ => by split <;> omega) (by omega) (by omega) (by rw [if_neg hne]; omega)
  have h2 := sumR_bd (f := fun _ => 1) (b := 1) (m := G 14 0) (i := 0) (fun _ _ _ => Nat.le_refl _)
  unfold fin at h
  omega
theorem fin_of {k : Nat} {r : Nat → Nat} (h : ∀ x, x < G 14 0 → r x = FL G k x) : fin G k r = G 14 0 := by
  have e : fin G k r = sumR (fun _ => 1) 0 (G 14 0) := sumR_cg fun x _ hx => if_pos (h x (by omega))
  have : ∀ m i, sumR (fun _ => 1) i m = m := by
    intro m
    induction m with
    | zero => intro i; rfl
    | succ m ih => intro i; unfold sumR; rw [ih]; omega
  rw [e, this]
theorem fin_step (W : WG G) {k v : Nat} {r r' : Nat → Nat} (h0 : ∀ x, x < G 14 0 → FL G k x ≤ r' x ∧ r' x ≤ r x ∧ r x ≤ 9999) (h1 : ∀ l, l < G 14 0 → ∀ p, p < G 2 l → r' l ≤ cs G k r (3 * l + p)) (hv : v ≤ fin G k r) (hvn : v < G 14 0) : v + 1 ≤ fin G k r' := by
  have hs : ∀ x, x < G 14 0 → r x = FL G k x → r' x = FL G k x := fun x hx e => by
    have := h0 x hx
    omega
  by_cases q : ∀ x, x < G 14 0 → r x = FL G k x
  · rw [fin_of fun x hx => hs x hx (q x hx)]
    omega
  · have : ∃ l0, l0 < G 14 0 ∧ r l0 ≠ FL G k l0 := Classical.byContradiction fun hc => q fun x hx => Classical.byContradiction fun hne => hc ⟨x, hx, hne⟩
    obtain ⟨l0, hl0, hne⟩ := this
    obtain ⟨x, hx, x1, x2⟩ := FL_step W h0 h1 hl0 hne
    have := sumR_lt (f := fun l => if r l = FL G k l then 1 else 0) (g := fun l => if r' l = FL G k l then 1 else 0) (m := G 14 0) (i := 0) x (fun y _ hy => by
      by_cases q : r y = FL G k y
      · rw [if_pos q, if_pos (hs y (by omega) q)]; exact Nat.le_refl _
      · rw [if_neg q]; exact Nat.zero_le _) (by omega) (by omega) (by rw [if_neg x1, if_pos x2]; omega)
    unfold fin at hv ⊢
    omega
-- one round over a row
def RI (G : GS) (k : Nat) (r q : Nat → Nat) (l p f : Nat) : Prop := (∀ x, x < G 14 0 → FL G k x ≤ q x ∧ q x ≤ r x ∧ r x ≤ 9999) ∧ (∀ x, x < l → ∀ p', p' < G 2 x → q x ≤ cs G k r (3 * x + p')) ∧ (∀ p', p' < p → q l ≤ cs G k r (3 * l + p')) ∧ f ≤ 1 ∧ (f = 0 → ∀ x, x < G 14 0 → q x = r x)
theorem RI_keep (W : WG G) {k l p f : Nat} {r q : Nat → Nat} (h : RI G k r q l p f) (hl : l < G 14 0) (hp : p < G 2 l) (hc : q l ≤ cs G k q (3 * l + p)) : RI G k r q l (p + 1) f := by
  have n0 := W.1
  have n2 := (W.2.2.1 l (by omega)).1
  have hm := cs_mono W (k := k) (j := 3 * l + p) (by omega) fun x hx => (h.1 x hx).2.1
  refine ⟨h.1, h.2.1, fun p' hp' => ?_, h.2.2.2.1, h.2.2.2.2⟩
  by_cases e : p' = p
  · rw [e]; omega
  · exact h.2.2.1 p' (by omega)
theorem RI_set (W : WG G) {k l p f : Nat} {r q : Nat → Nat} (h : RI G k r q l p f) (hl : l < G 14 0) (hp : p < G 2 l) (hc : cs G k q (3 * l + p) < q l) : RI G k r (uN q l (cs G k q (3 * l + p))) l (p + 1) 1 := by
  have n0 := W.1
  have n2 := (W.2.2.1 l (by omega)).1
  have hm := cs_mono W (k := k) (j := 3 * l + p) (by omega) fun x hx => (h.1 x hx).2.1
  have hF := cs_mono W (k := k) (j := 3 * l + p) (r := FL G k) (by omega) fun x hx => (h.1 x hx).1
  have hF2 := (FL_pf W (k := k) l hl).2 p hp
  have hll := h.1 l hl
  have ul : uN q l (cs G k q (3 * l + p)) l = cs G k q (3 * l + p) := if_pos rfl
  have un : ∀ x, x ≠ l → uN q l (cs G k q (3 * l + p)) x = q x := fun x hx => if_neg hx
  refine ⟨fun x hx => ?_, fun x hx p' hp' => ?_, fun p' hp' => ?_, Nat.le_refl _, fun e => by cases e⟩
  · by_cases e : x = l
    · rw [e, ul]; omega
    · rw [un x e]; exact h.1 x hx
  · rw [un x (by omega)]; exact h.2.1 x hx p' hp'
  · rw [ul]
    by_cases e : p' = p
    · rw [e]; omega
    · have := h.2.2.1 p' (by omega)
      omega
theorem RI_next {k l f : Nat} {r q : Nat → Nat} (h : RI G k r q l (G 2 l) f) : RI G k r q (l + 1) 0 f := by
  refine ⟨h.1, fun x hx p' hp' => ?_, fun p' hp' => by omega, h.2.2.2⟩
  by_cases e : x = l
  · rw [e] at hp' ⊢; exact h.2.2.1 p' hp'
  · exact h.2.1 x (by omega) p' hp'
end COST
section COSTX
variable {S : XS} {G : GS}
theorem lmin_n {a b : Nat} (ha : a < 2147483648) (hb : b < 2147483648) : lmin (nI a) (nI b) = nI (min a b) := by
  unfold lmin
  rw [lt_i hb ha]
  split
  · rw [show min a b = b by omega]
  · rw [show min a b = a by omega]
theorem X_costOfStep (C : Cp S G) (W : WG G) {j i k kk : Nat} {r : Nat → Nat} (hj : j < 36) (h1 : 5 * j ≤ i) (h2 : i < 5 * j + G 3 j) (R : Rw S kk (G 14 0) r) (hk : k ≤ 1) : mX_costOfStep S (nI i) kk (nI k) = some (nI (sc G k r i)) := by
  have XL := @X_isLemma S G C W
  obtain ⟨-, c1, -, c3, c7⟩ := C
  obtain ⟨w0, w1, -, w3, w7⟩ := W
  have h3 := w3 j hj
  obtain ⟨e4, e5, e6, e7⟩ := c7 j i hj h1 h2
  obtain ⟨f4, f5, f5', f5'', f6, f6', f7⟩ := w7 j i hj h1 h2
  unfold mX_costOfStep sc
  by_cases k0 : G 4 i = 0
  · have hc := f5 k0
    have := w1 _ hc
    simp (disch := omega) only [nlit, n_add, n_mul, ob_s, rb_s, tb_s, tb_x, st_s, gz_0, gz_1, gz_b, rdA_n, wrS_n, nI_cl, sU_s, sU_n, le_t, le_f, lt_t, lt_f, eq_t, eq_f, le_tR, le_tL, le_fR, le_fL, lt_tR, lt_tL, lt_fR, lt_fL, eq_tR, eq_tL, eq_fR, eq_fL, ↓m1, eq_m, eq_mR, eq_mm, eq_mmR, tt_i, ff_i, e4, e5, X_isAxiom, c1, eq_i, eq_iR, eq_iL]
    rw [if_pos k0]
    by_cases q : G 1 (G 5 i) = 0
    · rw [if_pos q, if_pos q]
    · rw [if_neg q, if_neg q]
  · by_cases k1 : G 4 i = 1
    · have hc := f5' k1
      have hR := R (G 5 i) (by omega)
      simp (disch := omega) only [nlit, n_add, n_mul, ob_s, rb_s, tb_s, tb_x, st_s, gz_0, gz_1, gz_b, rdA_n, wrS_n, nI_cl, sU_s, sU_n, le_t, le_f, lt_t, lt_f, eq_t, eq_f, le_tR, le_tL, le_fR, le_fL, lt_tR, lt_tL, lt_fR, lt_fL, eq_tR, eq_tL, eq_fR, eq_fL, ↓m1, eq_m, eq_mR, eq_mm, eq_mmR, tt_i, ff_i, e4, e5, XL, hR]
      rw [if_neg k0, if_pos k1]
    · simp (disch := omega) only [nlit, n_add, n_mul, ob_s, rb_s, tb_s, tb_x, st_s, gz_0, gz_1, gz_b, rdA_n, wrS_n, nI_cl, sU_s, sU_n, le_t, le_f, lt_t, lt_f, eq_t, eq_f, le_tR, le_tL, le_fR, le_fL, lt_tR, lt_tL, lt_fR, lt_fL, eq_tR, eq_tL, eq_fR, eq_fL, ↓m1, eq_m, eq_mR, eq_mm, eq_mmR, tt_i, ff_i, e4, e5, e6, eq_i, eq_iR, eq_iL]
      rw [if_neg k0, if_neg k1]
      by_cases q : k = 0
      · rw [if_pos q, if_pos q]
        by_cases q6 : G 6 i = 0
        · rw [if_pos q6, if_pos q6]
        · rw [if_neg q6, if_neg q6]
      · rw [if_neg q, if_neg q]
theorem sc_le (W : WG G) {j i k : Nat} {r : Nat → Nat} (hj : j < 36) (h1 : 5 * j ≤ i) (h2 : i < 5 * j + G 3 j) (hr : ∀ x, x < G 14 0 → r x ≤ 9999) : sc G k r i ≤ 9999 := by
  obtain ⟨f4, f5, f5', f5'', f6, f6', f7⟩ := W.2.2.2.2 j i hj h1 h2
  unfold sc
  split
  · split <;> omega
  · split
    · exact hr _ (f5' (by assumption))
    · split
      · split <;> omega
      · omega
theorem X_costOfProof (C : Cp S G) (W : WG G) {j k kk : Nat} {r : Nat → Nat} (hj : j < 36) (R : Rw S kk (G 14 0) r) (hr : ∀ x, x < G 14 0 → r x ≤ 9999) (hk : k ≤ 1) : mX_costOfProof S (nI j) kk (nI k) = some (nI (cs G k r j)) := by
  have h3 := W.2.2.2.1 j hj
  have c3 := C.2.2.2.1
  have hb := sumR_bd (f := sc G k r) (b := 9999) (m := G 3 j) (i := 5 * j) fun i h1 h2 => sc_le W hj h1 h2 hr
  have key : ∀ a, itr2 (mX_costOfProof_F34 S kk (nI j) (nI k)) FUEL (nI a) (nI (5 * j)) = some (lmin (nI (a + sumR (sc G k r) (5 * j) (G 3 j))) (nI 9999)) := by
    intro a
    refine itr2_n (fun i m a => some (lmin (nI (a + sumR (sc G k r) i m)) (nI 9999))) (5 * j) (5 * j + G 3 j) ?_ ?_ (G 3 j) (5 * j) FUEL a (Nat.le_refl _) rfl (fuel_gt (by omega))
    · intro ih a
      unfold mX_costOfProof_F34
      rw [X_end C hj]
      simp (disch := omega) only [nlit, n_add, n_mul, ob_s, rb_s, tb_s, tb_x, st_s, gz_0, gz_1, gz_b, rdA_n, wrS_n, nI_cl, sU_s, sU_n, le_t, le_f, lt_t, lt_f, eq_t, eq_f, le_tR, le_tL, le_fR, le_fL, lt_tR, lt_tL, lt_fR, lt_fL, eq_tR, eq_tL, eq_fR, eq_fL, ↓m1, eq_m, eq_mR, eq_mm, eq_mmR, tt_i, ff_i]
      rfl
    · intro i m ih hi0 hi hih a
      unfold mX_costOfProof_F34
      rw [X_end C hj]
      simp (disch := omega) only [nlit, n_add, n_mul, ob_s, rb_s, tb_s, tb_x, st_s, gz_0, gz_1, gz_b, rdA_n, wrS_n, nI_cl, sU_s, sU_n, le_t, le_f, lt_t, lt_f, eq_t, eq_f, le_tR, le_tL, le_fR, le_fL, lt_tR, lt_tL, lt_fR, lt_fL, eq_tR, eq_tL, eq_fR, eq_fL, ↓m1, eq_m, eq_mR, eq_mm, eq_mmR, tt_i, ff_i, X_costOfStep C W hj hi0 (by omega) R hk]
      rw [hih, Nat.add_assoc]
      rfl
  unfold mX_costOfProof cs
  rw [X_isWhole C W hj]
  simp (disch := omega) only [nlit, n_add, n_mul, ob_s, rb_s, tb_s, tb_x, st_s, gz_0, gz_1, gz_b, rdA_n, wrS_n, nI_cl, sU_s, sU_n, le_t, le_f, lt_t, lt_f, eq_t, eq_f, le_tR, le_tL, le_fR, le_fL, lt_tR, lt_tL, lt_fR, lt_fL, eq_tR, eq_tL, eq_fR, eq_fL, ↓m1, eq_m, eq_mR, eq_mm, eq_mmR, tt_i, ff_i, bz_i, bz_iR, X_first]
  cases wh G j
  · rfl
  · rw [if_pos rfl, if_pos rfl, eq_i (by omega) (by omega)]
    unfold cb
    by_cases q : k = 0
    · rw [if_pos q, if_pos q]
      simp (disch := omega) only [nlit, n_add, n_mul, ob_s, rb_s, tb_s, tb_x, st_s, gz_0, gz_1, gz_b, rdA_n, wrS_n, nI_cl, sU_s, sU_n, le_t, le_f, lt_t, lt_f, eq_t, eq_f, le_tR, le_tL, le_fR, le_fL, lt_tR, lt_tL, lt_fR, lt_fL, eq_tR, eq_tL, eq_fR, eq_fL, ↓m1, eq_m, eq_mR, eq_mm, eq_mmR, tt_i, ff_i, c3]
      rw [key, lmin_n (by omega) (by omega), Nat.min_comm]
    · rw [if_neg q, if_neg q, key, lmin_n (by omega) (by omega), Nat.min_comm]
def PXc (G : GS) (S0 : XS) (kk k l : Nat) (r : Nat → Nat) (K : XS → Int32 → Int32 → Option (Int32 × XS)) (p m : Nat) (S : XS) (v3 : Int32) (res : Option (Int32 × XS)) : Prop := ∀ q f, Ro S0 S kk → Rw S kk (G 14 0) q → RI G k r q l p f → v3 = nI f → ∃ S' q' f', Ro S0 S' kk ∧ Rw S' kk (G 14 0) q' ∧ RI G k r q' (l + 1) 0 f' ∧ res = K S' (nI f') (nI (l + 1))
theorem X_round1 {S0 : XS} (C0 : Cp S0 G) (W : WG G) {kk k l : Nat} {r : Nat → Nat} (hk : 8 ≤ kk ∧ kk ≠ 14) (hk1 : k ≤ 1) (hl : l < G 14 0) {K : XS → Int32 → Int32 → Option (Int32 × XS)} : ∀ m p N S v3, 0 ≤ p → p + m = G 2 l → m < N → PXc G S0 kk k l r K p m S v3 (itr3 (mX_reckonRound_F17 kk K (nI k) (nI l)) N S v3 (nI p)) := by
  have w0 := W.1
  have w2 := (W.2.2.1 l (by omega)).1
  have c2 := C0.2.2.1
  refine itr3_r (PXc G S0 kk k l r K) 0 (G 2 l) ?_ ?_
  · intro ih S v3 q f hR hW hI hv
    have C := hR.cp hk C0
    have c2 := C.2.2.1
    refine ⟨S, q, f, hR, hW, RI_next hI, ?_⟩
    unfold mX_reckonRound_F17
    simp (disch := omega) only [nlit, n_add, n_mul, ob_s, rb_s, tb_s, tb_x, st_s, gz_0, gz_1, gz_b, rdA_n, wrS_n, nI_cl, sU_s, sU_n, le_t, le_f, lt_t, lt_f, eq_t, eq_f, le_tR, le_tL, le_fR, le_fL, lt_tR, lt_tL, lt_fR, lt_fL, eq_tR, eq_tL, eq_fR, eq_fL, ↓m1, eq_m, eq_mR, eq_mm, eq_mmR, tt_i, ff_i, c2, hv]
  · intro p m ih _ hp hih S v3 q f hR hW hI hv
    have C := hR.cp hk C0
    have c2 := C.2.2.1
    have hq : ∀ x, x < G 14 0 → q x ≤ 9999 := fun x hx => by have := hI.1 x hx; omega
    have hql := hq l hl
    have hcs := cs_le (G := G) (k := k) (r := q) (j := 3 * l + p)
    unfold mX_reckonRound_F17
    simp (disch := omega) only [nlit, n_add, n_mul, ob_s, rb_s, tb_s, tb_x, st_s, gz_0, gz_1, gz_b, rdA_n, wrS_n, nI_cl, sU_s, sU_n, le_t, le_f, lt_t, lt_f, eq_t, eq_f, le_tR, le_tL, le_fR, le_fL, lt_tR, lt_tL, lt_fR, lt_fL, eq_tR, eq_tL, eq_fR, eq_fL, ↓m1, eq_m, eq_mR, eq_mm, eq_mmR, tt_i, ff_i, c2, hv, X_slotOf, X_costOfProof C W (j := 3 * l + p) (by omega) hW hq hk1, hW l hl, le_i, le_iR, le_iL]
    by_cases h : q l ≤ cs G k q (3 * l + p)
    · rw [if_pos h]
      exact hih _ _ q f hR hW (RI_keep W hI hl (by omega) h) rfl
    · rw [if_neg h]
      exact hih _ _ _ 1 hR.sU (Rw_up hW) (RI_set W hI hl (by omega) (by omega)) rfl
def PXd (G : GS) (S0 : XS) (kk k : Nat) (r : Nat → Nat) (l m : Nat) (S : XS) (v3 : Int32) (res : Option (Int32 × XS)) : Prop := ∀ q f, Ro S0 S kk → Rw S kk (G 14 0) q → RI G k r q l 0 f → v3 = nI f → ∃ S' q' f', Ro S0 S' kk ∧ Rw S' kk (G 14 0) q' ∧ RI G k r q' (G 14 0) 0 f' ∧ res = some (nI f', S')
theorem X_round {S0 : XS} (C0 : Cp S0 G) (W : WG G) {kk k : Nat} {r : Nat → Nat} (hk : 8 ≤ kk ∧ kk ≠ 14) (hk1 : k ≤ 1) : ∀ m l N S v3, 0 ≤ l → l + m = G 14 0 → m < N → PXd G S0 kk k r l m S v3 (itr3 (mX_reckonRound_F5 kk (nI k)) N S v3 (nI l)) := by
  have w0 := W.1
  refine itr3_r (PXd G S0 kk k r) 0 (G 14 0) ?_ ?_
  · intro ih S v3 q f hR hW hI hv
    have C := hR.cp hk C0
    refine ⟨S, q, f, hR, hW, hI, ?_⟩
    unfold mX_reckonRound_F5
    rw [C.1, hv]
    have := hI.2.2.2.1
    simp (disch := omega) only [nlit, n_add, n_mul, ob_s, rb_s, tb_s, tb_x, st_s, gz_0, gz_1, gz_b, rdA_n, wrS_n, nI_cl, sU_s, sU_n, le_t, le_f, lt_t, lt_f, eq_t, eq_f, le_tR, le_tL, le_fR, le_fL, lt_tR, lt_tL, lt_fR, lt_fL, eq_tR, eq_tL, eq_fR, eq_fL, ↓m1, eq_m, eq_mR, eq_mm, eq_mmR, tt_i, ff_i]
    rcases (show f = 0 ∨ f = 1 by omega) with e | e <;> rw [e] <;> exact if_pos rfl
  · intro l m ih _ hl hih S v3 q f hR hW hI hv
    have C := hR.cp hk C0
    have w2 := (W.2.2.1 l (by omega)).1
    unfold mX_reckonRound_F5
    rw [C.1, hv]
    simp (disch := omega) only [nlit, n_add, n_mul, ob_s, rb_s, tb_s, tb_x, st_s, gz_0, gz_1, gz_b, rdA_n, wrS_n, nI_cl, sU_s, sU_n, le_t, le_f, lt_t, lt_f, eq_t, eq_f, le_tR, le_tL, le_fR, le_fL, lt_tR, lt_tL, lt_fR, lt_fL, eq_tR, eq_tL, eq_fR, eq_fL, ↓m1, eq_m, eq_mR, eq_mm, eq_mmR, tt_i, ff_i]
    obtain ⟨S', q', f', hR', hW', hI', e⟩ := X_round1 C0 W hk hk1 (r := r) (l := l) (by omega) (K := ih) (G 2 l) 0 FUEL S (nI f) (by omega) (by omega) (fuel_gt (by omega)) q f hR hW hI rfl
    rw [e]
    exact hih _ _ q' f' hR' hW' hI' rfl
def PXe (G : GS) (S0 : XS) (kk k : Nat) (v m : Nat) (S : XS) (res : Option (Int32 × XS)) : Prop := ∀ q, Ro S0 S kk → Rw S kk (G 14 0) q → (∀ x, x < G 14 0 → FL G k x ≤ q x ∧ q x ≤ 9999) → v ≤ fin G k q → ∃ S', Ro S0 S' kk ∧ Rw S' kk (G 14 0) (FL G k) ∧ res = some (0, S')
theorem Rw.cg {S : XS} {k n : Nat} {r r' : Nat → Nat} (h : Rw S k n r) (e : ∀ x, x < n → r x = r' x) : Rw S k n r' := fun x hx => by rw [h x hx, e x hx]
theorem X_reckon {S : XS} (C0 : Cp S G) (W : WG G) {kk k : Nat} (hk : 8 ≤ kk ∧ kk ≠ 14) (hk1 : k ≤ 1) : ∃ S', Ro S S' kk ∧ Rw S' kk (G 14 0) (FL G k) ∧ mX_reckon S kk (nI k) = some (0, S') := by
  have w0 := W.1
  have key := itr2_r (F := mX_reckon_F9 kk (nI k)) (PXe G S kk k) 0 (G 14 0) ?_ ?_ (G 14 0) 0 FUEL (sU S kk (ffill 12 9999 (S kk))) (by omega) (by omega) (fuel_gt (by omega))
  · unfold mX_reckon
    simp (disch := omega) only [nlit, n_add, n_mul, ob_s, rb_s, tb_s, tb_x, st_s, gz_0, gz_1, gz_b, rdA_n, wrS_n, nI_cl, sU_s, sU_n, le_t, le_f, lt_t, lt_f, eq_t, eq_f, le_tR, le_tL, le_fR, le_fL, lt_tR, lt_tL, lt_fR, lt_fL, eq_tR, eq_tL, eq_fR, eq_fL, ↓m1, eq_m, eq_mR, eq_mm, eq_mmR, tt_i, ff_i]
    refine key (fun _ => 9999) (fun j hj => sU_n hj) (fun l hl => ?_) (fun x hx => ⟨FL_le, Nat.le_refl _⟩) (Nat.zero_le _)
    rw [sU_s]
    unfold ffill
    rw [if_pos (by omega)]
    rfl
  · intro ih S1 q hR hW hb hv
    have C := hR.cp hk C0
    refine ⟨S1, hR, hW.cg (fin_all hv), ?_⟩
    unfold mX_reckon_F9
    rw [C.1]
    simp (disch := omega) only [nlit, n_add, n_mul, ob_s, rb_s, tb_s, tb_x, st_s, gz_0, gz_1, gz_b, rdA_n, wrS_n, nI_cl, sU_s, sU_n, le_t, le_f, lt_t, lt_f, eq_t, eq_f, le_tR, le_tL, le_fR, le_fL, lt_tR, lt_tL, lt_fR, lt_fL, eq_tR, eq_tL, eq_fR, eq_fL, ↓m1, eq_m, eq_mR, eq_mm, eq_mmR, tt_i, ff_i]
  · intro v m ih _ hv hih S1 q hR hW hb hvf
    have C := hR.cp hk C0
    unfold mX_reckon_F9
    rw [C.1]
    simp (disch := omega) only [nlit, n_add, n_mul, ob_s, rb_s, tb_s, tb_x, st_s, gz_0, gz_1, gz_b, rdA_n, wrS_n, nI_cl, sU_s, sU_n, le_t, le_f, lt_t, lt_f, eq_t, eq_f, le_tR, le_tL, le_fR, le_fL, lt_tR, lt_tL, lt_fR, lt_fL, eq_tR, eq_tL, eq_fR, eq_fL, ↓m1, eq_m, eq_mR, eq_mm, eq_mmR, tt_i, ff_i]
    obtain ⟨S', q', f', hR', hW', hI', e⟩ := X_round C0 W hk hk1 (r := q) (G 14 0) 0 FUEL S1 (nI 0) (by omega) (by omega) (fuel_gt (by omega)) q 0 hR hW ⟨fun x hx => ⟨(hb x hx).1, Nat.le_refl _, (hb x hx).2⟩, fun x hx => by omega, fun p hp => by omega, by omega, fun _ _ _ => rfl⟩ rfl
    have e2 : mX_reckonRound S1 kk (nI k) = some (nI f', S') := e
    rw [e2]
    have hf := hI'.2.2.2.1
    simp (disch := omega) only [nlit, n_add, n_mul, ob_s, rb_s, tb_s, tb_x, st_s, gz_0, gz_1, gz_b, rdA_n, wrS_n, nI_cl, sU_s, sU_n, le_t, le_f, lt_t, lt_f, eq_t, eq_f, le_tR, le_tL, le_fR, le_fL, lt_tR, lt_tL, lt_fR, lt_fL, eq_tR, eq_tL, eq_fR, eq_fL, ↓m1, eq_m, eq_mR, eq_mm, eq_mmR, tt_i, ff_i, eq_i, eq_iR, eq_iL]
    by_cases h : f' = 0
    · rw [if_pos h]
      have hq := hI'.2.2.2.2 h
      have hPF : PF G k q := fun l hl => ⟨(hb l hl).2, fun p hp => by
        have := hI'.2.1 l hl p hp
        rw [hq l hl] at this
        exact this⟩
      exact ⟨S', hR', hW'.cg (fun x hx => (hq x hx).trans (FL_end hPF (fun x hx => (hb x hx).1) x hx)), rfl⟩
    · rw [if_neg h]
      exact hih _ q' hR' hW' (fun x hx => by have := hI'.1 x hx; omega) (fin_step W (fun x hx => hI'.1 x hx) (fun l hl => hI'.2.1 l hl) hvf (by omega))
end COSTX
