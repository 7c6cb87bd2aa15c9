section OPS
variable {S T : XS} {G : GS}
def gs (G : GS) (k i v : Nat) : GS := fun j => if j = k then uN (G k) i v else G j
theorem gs_s {k i v : Nat} : gs G k i v k = uN (G k) i v := if_pos rfl
theorem gs_n {k i v j : Nat} (h : j ≠ k) : gs G k i v j = G j := if_neg h
theorem c_gs {k i v j x : Nat} (h : S j x = nI (G j x)) : sU S k (upd (S k) i (nI v)) j x = nI (gs G k i v j x) := by
  by_cases e : j = k
  · subst e
    rw [sU_s, gs_s]
    unfold upd uN
    by_cases q : x = i
    · rw [if_pos q, if_pos q]
    · rw [if_neg q, if_neg q]; exact h
  · rw [sU_n e, gs_n e]; exact h
theorem Cp_gs {k i v : Nat} (hk : k ≠ 3 ∧ k ≠ 14) (C : Cp S G) : Cp (sU S k (upd (S k) i (nI v))) (gs G k i v) := by
  obtain ⟨c0, c1, c2, c3, c7⟩ := C
  refine ⟨c_gs c0, fun a ha => c_gs (c1 a ha), fun l hl => c_gs (c2 l hl), fun j hj => c_gs (c3 j hj), fun j x hj h1 h2 => ?_⟩
  rw [gs_n (show 3 ≠ k by omega)] at h2
  obtain ⟨e4, e5, e6, e7⟩ := c7 j x hj h1 h2
  exact ⟨c_gs e4, c_gs e5, c_gs e6, c_gs e7⟩
theorem WG_gs1 (W : WG G) {a v : Nat} (hv : v ≤ 1) : WG (gs G 1 a v) := by
  obtain ⟨w0, w1, w2, w3, w7⟩ := W
  unfold WG
  rw [gs_s]
  repeat rw [gs_n (by omega)]
  refine ⟨w0, fun x hx => ?_, w2, w3, w7⟩
  unfold uN
  split
  · exact hv
  · exact w1 x hx
theorem WG_gs6 (W : WG G) {i v : Nat} (hv : v ≤ 9) (h4 : G 4 i ≠ 2 → v = 0) : WG (gs G 6 i v) := by
  obtain ⟨w0, w1, w2, w3, w7⟩ := W
  unfold WG
  rw [gs_s]
  repeat rw [gs_n (by omega)]
  refine ⟨w0, w1, w2, w3, fun j x hj h1 h2 => ?_⟩
  obtain ⟨f4, f5, f5', f5'', f6, f6', f7⟩ := w7 j x hj h1 h2
  refine ⟨f4, f5, f5', f5'', ?_, ?_, f7⟩
  · unfold uN
    split
    · exact hv
    · exact f6
  · unfold uN
    by_cases q : x = i
    · rw [if_pos q, q]; exact h4
    · rw [if_neg q]; exact f6'
theorem WG_gs7 (W : WG G) {i v : Nat} (hv : v ≤ 1) : WG (gs G 7 i v) := by
  obtain ⟨w0, w1, w2, w3, w7⟩ := W
  unfold WG
  rw [gs_s]
  repeat rw [gs_n (by omega)]
  refine ⟨w0, w1, w2, w3, fun j x hj h1 h2 => ?_⟩
  obtain ⟨f4, f5, f5', f5'', f6, f6', f7⟩ := w7 j x hj h1 h2
  refine ⟨f4, f5, f5', f5'', f6, f6', ?_⟩
  unfold uN
  split
  · exact hv
  · exact f7
theorem uN_self {r : Nat → Nat} {i v : Nat} (h : r i = v) : uN r i v = r := by
  funext x
  unfold uN
  split
  · rename_i e; rw [e]; exact h.symm
  · rfl
theorem gs_self {k i v : Nat} (h : G k i = v) : gs G k i v = G := by
  funext j
  by_cases e : j = k
  · subst e; rw [gs_s, uN_self h]
  · rw [gs_n e]
theorem and1 {b : Nat} (h : b ≤ 1) : nI b &&& nI 1 = nI b := by
  rcases (show b = 0 ∨ b = 1 by omega) with rfl | rfl <;> decide
theorem upd_back {f : Nat → Int32} {i : Nat} {v : Int32} : upd (upd f i v) i (f i) = f := by
  funext x
  unfold upd
  by_cases e : x = i
  · rw [if_pos e, e]
  · rw [if_neg e, if_neg e]
theorem ro_back {S S' : XS} {k i d : Nat} {v : Int32} (hd : k ≠ d) (h : Ro (sU S k (upd (S k) i v)) S' d) : Ro S (sU S' k (upd (S' k) i (S k i))) d := by
  intro j hj
  by_cases e : j = k
  · subst e
    rw [sU_s, h j hd, sU_s, upd_back]
  · rw [sU_n e, h j hj, sU_n e]
theorem X_closed (I : SI S G) (W : WG G) {j i : Nat} (hj : j < 36) (h1 : 5 * j ≤ i) (h2 : i < 5 * j + G 3 j) : ∃ S', Ro S S' 13 ∧ mX_provedIfClosed S (nI i) = some (nI (if G 6 i = 0 then cnt G mone else cnt (gs G 6 i 0) mone), S') := by
  have C := I.1
  have h15 := I.2.2.2.2.2
  have w3 := W.2.2.2.1 j hj
  obtain ⟨e4, e5, e6, e7⟩ := C.2.2.2.2 j i hj h1 h2
  obtain ⟨f4, f5, f5', f5'', f6, f6', f7⟩ := W.2.2.2.2 j i hj h1 h2
  unfold mX_provedIfClosed
  rw [show (-1 : Int32) = mone from rfl, rdA_n (by omega) (by omega), ob_s, e6]
  by_cases q : G 6 i = 0
  · refine ⟨S, fun _ _ => rfl, ?_⟩
    rw [if_pos (show nI (G 6 i) = (0 : Int32) by rw [q]; rfl), if_pos q, h15]
  · rw [if_neg (show ¬ nI (G 6 i) = (0 : Int32) from fun e => q ((nI_eq (b := 0) (by omega) (by omega)).mp e)), if_neg q, wrS_n (by omega) (by omega), nI_cl (by omega), show (0 : Int32) = nI 0 from rfl]
    obtain ⟨S1, g1, g2, g3⟩ := X_prove (Cp_gs (k := 6) (i := i) (v := 0) (by omega) C) (WG_gs6 W (by omega) (fun _ => rfl)) (kk := 13) (by omega) (b := mone)
    rw [g3, rb_s, wrS_n (by omega) (by omega)]
    refine ⟨_, ?_, rfl⟩
    rw [← e6]
    exact ro_back (by omega) g1
-- advice
def av (G : GS) (i : Nat) : Nat := if G 6 i = 0 then 0 else cnt (gs G 6 i 0) mone
def as1 (G : GS) (l p k : Nat) (s : Int32 × Nat) : Int32 × Nat := if s.2 < av G (5 * (3 * l + p) + k) then (nI (100 * l + 10 * p + k), av G (5 * (3 * l + p) + k)) else s
def ad1 (G : GS) (l p : Nat) : Nat → Nat → Int32 × Nat → Int32 × Nat
  | _, 0, s => s
  | k, m + 1, s => ad1 G l p (k + 1) m (as1 G l p k s)
def ad2 (G : GS) (l : Nat) : Nat → Nat → Int32 × Nat → Int32 × Nat
  | _, 0, s => s
  | p, m + 1, s => ad2 G l (p + 1) m (ad1 G l p 0 (G 3 (3 * l + p)) s)
def ad3 (G : GS) : Nat → Nat → Int32 × Nat → Int32 × Nat
  | _, 0, s => s
  | l, m + 1, s => ad3 G (l + 1) m (ad2 G l 0 (G 2 l) s)
theorem av_le (W : WG G) {i : Nat} : av G i ≤ 12 := by
  unfold av
  split
  · omega
  · have := cnt_le (G := gs G 6 i 0) (b := mone)
    rw [gs_n (by omega)] at this
    have := W.1
    omega
theorem as1_b (W : WG G) {l p k : Nat} {s : Int32 × Nat} (h : cnt G mone ≤ s.2 ∧ s.2 ≤ 12) : cnt G mone ≤ (as1 G l p k s).2 ∧ (as1 G l p k s).2 ≤ 12 := by
  have := av_le W (i := 5 * (3 * l + p) + k)
  unfold as1
  split
  · dsimp only; omega
  · exact h
def PA1 (G : GS) (S0 : XS) (l p : Nat) (K : XS → Int32 → Int32 → Int32 → Option (Int32 × XS)) (k m : Nat) (S : XS) (v1 v2 : Int32) (res : Option (Int32 × XS)) : Prop := ∀ s : Int32 × Nat, Ro S0 S 13 → v1 = s.1 → v2 = nI s.2 → cnt G mone ≤ s.2 ∧ s.2 ≤ 12 → ∃ S', Ro S0 S' 13 ∧ (cnt G mone ≤ (ad1 G l p k m s).2 ∧ (ad1 G l p k m s).2 ≤ 12) ∧ res = K S' (ad1 G l p k m s).1 (nI (ad1 G l p k m s).2) (nI (p + 1))
theorem X_adv1 {S0 : XS} (I0 : SI S0 G) (W : WG G) {l p : Nat} (hj : 3 * l + p < 36) {K : XS → Int32 → Int32 → Int32 → Option (Int32 × XS)} : ∀ m k N S v1 v2, 0 ≤ k → k + m = G 3 (3 * l + p) → m < N → PA1 G S0 l p K k m S v1 v2 (itr4 (mX_advise_F34 K (nI l) (nI p)) N S v1 v2 (nI k)) := by
  have w3 := W.2.2.2.1 _ hj
  refine itr4_r (PA1 G S0 l p K) 0 (G 3 (3 * l + p)) ?_ ?_
  · intro ih S v1 v2 s hR h1 h2 hb
    have c3 := (I0.ro13 hR).1.2.2.2.1
    refine ⟨S, hR, hb, ?_⟩
    unfold mX_advise_F34
    rw [h1, h2]
    simp (disch := omega) only [nlit, n_add, n_mul, ob_s, rb_s, tb_s, tb_x, st_s, gz_0, gz_1, gz_b, rdA_n, wrS_n, nI_cl, sU_s, sU_n, le_t, le_f, lt_t, lt_f, eq_t, eq_f, le_tR, le_tL, le_fR, le_fL, lt_tR, lt_tL, lt_fR, lt_fL, eq_tR, eq_tL, eq_fR, eq_fL, ↓m1, eq_m, eq_mR, eq_mm, eq_mmR, tt_i, ff_i, X_slotOf, c3]
    rfl
  · intro k m ih _ hk hih S v1 v2 s hR h1 h2 hb
    have I := I0.ro13 hR
    have c3 := I.1.2.2.2.1
    obtain ⟨S1, g1, g2⟩ := X_closed I W (j := 3 * l + p) (i := 5 * (3 * l + p) + k) hj (by omega) (by omega)
    have hR1 : Ro S0 S1 13 := fun j hj => (g1 j hj).trans (hR j hj)
    have hav := av_le W (i := 5 * (3 * l + p) + k)
    have hc := cnt_le (G := gs G 6 (5 * (3 * l + p) + k) 0) (b := mone)
    rw [gs_n (by omega)] at hc
    have hc0 := cnt_le (G := G) (b := mone)
    have w0 := W.1
    obtain ⟨S', k1, k2, k3⟩ := hih S1 _ _ (as1 G l p k s) hR1 rfl rfl (as1_b W hb)
    refine ⟨S', k1, k2, ?_⟩
    rw [show ad1 G l p k (m + 1) s = ad1 G l p (k + 1) m (as1 G l p k s) from rfl, ← k3]
    unfold mX_advise_F34
    rw [h1, h2]
    simp (disch := omega) only [nlit, n_add, n_mul, ob_s, rb_s, tb_s, tb_x, st_s, gz_0, gz_1, gz_b, rdA_n, wrS_n, nI_cl, sU_s, sU_n, le_t, le_f, lt_t, lt_f, eq_t, eq_f, le_tR, le_tL, le_fR, le_fL, lt_tR, lt_tL, lt_fR, lt_fL, eq_tR, eq_tL, eq_fR, eq_fL, ↓m1, eq_m, eq_mR, eq_mm, eq_mmR, tt_i, ff_i, X_slotOf, c3, X_stepAt, g2]
    unfold as1 av
    by_cases q : G 6 (5 * (3 * l + p) + k) = 0
    · rw [if_pos q, if_pos q, le_t (by omega) (by omega), if_neg (show ¬ s.2 < 0 by omega)]
    · rw [if_neg q, if_neg q]
      by_cases q2 : s.2 < cnt (gs G 6 (5 * (3 * l + p) + k) 0) mone
      · rw [if_pos q2, le_f (by omega) (by omega)]
      · rw [if_neg q2, le_t (by omega) (by omega)]
def PA2 (G : GS) (S0 : XS) (l : Nat) (K : XS → Int32 → Int32 → Int32 → Option (Int32 × XS)) (p m : Nat) (S : XS) (v1 v2 : Int32) (res : Option (Int32 × XS)) : Prop := ∀ s : Int32 × Nat, Ro S0 S 13 → v1 = s.1 → v2 = nI s.2 → cnt G mone ≤ s.2 ∧ s.2 ≤ 12 → ∃ S', Ro S0 S' 13 ∧ (cnt G mone ≤ (ad2 G l p m s).2 ∧ (ad2 G l p m s).2 ≤ 12) ∧ res = K S' (ad2 G l p m s).1 (nI (ad2 G l p m s).2) (nI (l + 1))
theorem X_adv2 {S0 : XS} (I0 : SI S0 G) (W : WG G) {l : Nat} (hl : l < 12) {K : XS → Int32 → Int32 → Int32 → Option (Int32 × XS)} : ∀ m p N S v1 v2, 0 ≤ p → p + m = G 2 l → m < N → PA2 G S0 l K p m S v1 v2 (itr4 (mX_advise_F20 K (nI l)) N S v1 v2 (nI p)) := by
  have w2 := (W.2.2.1 l hl).1
  refine itr4_r (PA2 G S0 l K) 0 (G 2 l) ?_ ?_
  · intro ih S v1 v2 s hR h1 h2 hb
    have c2 := (I0.ro13 hR).1.2.2.1
    refine ⟨S, hR, hb, ?_⟩
    unfold mX_advise_F20
    rw [h1, h2]
    simp (disch := omega) only [nlit, n_add, n_mul, ob_s, rb_s, tb_s, tb_x, st_s, gz_0, gz_1, gz_b, rdA_n, wrS_n, nI_cl, sU_s, sU_n, le_t, le_f, lt_t, lt_f, eq_t, eq_f, le_tR, le_tL, le_fR, le_fL, lt_tR, lt_tL, lt_fR, lt_fL, eq_tR, eq_tL, eq_fR, eq_fL, ↓m1, eq_m, eq_mR, eq_mm, eq_mmR, tt_i, ff_i, c2]
    rfl
  · intro p m ih _ hp hih S v1 v2 s hR h1 h2 hb
    have c2 := (I0.ro13 hR).1.2.2.1
    have w3 := W.2.2.2.1 (3 * l + p) (by omega)
    obtain ⟨S1, g1, g2, g3⟩ := X_adv1 I0 W (l := l) (p := p) (by omega) (K := ih) (G 3 (3 * l + p)) 0 FUEL S s.1 (nI s.2) (by omega) (by omega) (fuel_gt (by omega)) s hR rfl rfl hb
    obtain ⟨S', k1, k2, k3⟩ := hih S1 _ _ (ad1 G l p 0 (G 3 (3 * l + p)) s) g1 rfl rfl g2
    refine ⟨S', k1, k2, ?_⟩
    rw [show ad2 G l p (m + 1) s = ad2 G l (p + 1) m (ad1 G l p 0 (G 3 (3 * l + p)) s) from rfl, ← k3]
    unfold mX_advise_F20
    rw [h1, h2]
    simp (disch := omega) only [nlit, n_add, n_mul, ob_s, rb_s, tb_s, tb_x, st_s, gz_0, gz_1, gz_b, rdA_n, wrS_n, nI_cl, sU_s, sU_n, le_t, le_f, lt_t, lt_f, eq_t, eq_f, le_tR, le_tL, le_fR, le_fL, lt_tR, lt_tL, lt_fR, lt_fL, eq_tR, eq_tL, eq_fR, eq_fL, ↓m1, eq_m, eq_mR, eq_mm, eq_mmR, tt_i, ff_i, c2]
    exact g3
def PA3 (G : GS) (S0 : XS) (l m : Nat) (S : XS) (v1 v2 : Int32) (res : Option (Int32 × XS)) : Prop := ∀ s : Int32 × Nat, Ro S0 S 13 → v1 = s.1 → v2 = nI s.2 → cnt G mone ≤ s.2 ∧ s.2 ≤ 12 → ∃ S', Ro S0 S' 13 ∧ res = some ((ad3 G l m s).1, S')
theorem X_adv3 {S0 : XS} (I0 : SI S0 G) (W : WG G) : ∀ m l N S v1 v2, 0 ≤ l → l + m = G 14 0 → m < N → PA3 G S0 l m S v1 v2 (itr4 mX_advise_F9 N S v1 v2 (nI l)) := by
  have w0 := W.1
  refine itr4_r (PA3 G S0) 0 (G 14 0) ?_ ?_
  · intro ih S v1 v2 s hR h1 h2 hb
    have C := (I0.ro13 hR).1
    refine ⟨S, hR, ?_⟩
    unfold mX_advise_F9
    rw [h1, h2, C.1]
    simp (disch := omega) only [nlit, n_add, n_mul, ob_s, rb_s, tb_s, tb_x, st_s, gz_0, gz_1, gz_b, rdA_n, wrS_n, nI_cl, sU_s, sU_n, le_t, le_f, lt_t, lt_f, eq_t, eq_f, le_tR, le_tL, le_fR, le_fL, lt_tR, lt_tL, lt_fR, lt_fL, eq_tR, eq_tL, eq_fR, eq_fL, ↓m1, eq_m, eq_mR, eq_mm, eq_mmR, tt_i, ff_i]
    rfl
  · intro l m ih _ hl hih S v1 v2 s hR h1 h2 hb
    have C := (I0.ro13 hR).1
    have w2 := (W.2.2.1 l (by omega)).1
    obtain ⟨S1, g1, g2, g3⟩ := X_adv2 I0 W (l := l) (by omega) (K := ih) (G 2 l) 0 FUEL S s.1 (nI s.2) (by omega) (by omega) (fuel_gt (by omega)) s hR rfl rfl hb
    obtain ⟨S', k1, k3⟩ := hih S1 _ _ (ad2 G l 0 (G 2 l) s) g1 rfl rfl g2
    refine ⟨S', k1, ?_⟩
    rw [show ad3 G l (m + 1) s = ad3 G (l + 1) m (ad2 G l 0 (G 2 l) s) from rfl, ← k3]
    unfold mX_advise_F9
    rw [h1, h2, C.1]
    simp (disch := omega) only [nlit, n_add, n_mul, ob_s, rb_s, tb_s, tb_x, st_s, gz_0, gz_1, gz_b, rdA_n, wrS_n, nI_cl, sU_s, sU_n, le_t, le_f, lt_t, lt_f, eq_t, eq_f, le_tR, le_tL, le_fR, le_fL, lt_tR, lt_tL, lt_fR, lt_fL, eq_tR, eq_tL, eq_fR, eq_fL, ↓m1, eq_m, eq_mR, eq_mm, eq_mmR, tt_i, ff_i]
    exact g3
theorem X_advise (I : SI S G) (W : WG G) : ∃ S', Ro S S' 13 ∧ mX_advise S = some ((ad3 G 0 (G 14 0) (mone, cnt G mone)).1, S') := by
  have w0 := W.1
  have hc := cnt_le (G := G) (b := mone)
  unfold mX_advise
  rw [I.2.2.2.2.2, show (-1 : Int32) = mone from rfl, show (0 : Int32) = nI 0 from rfl]
  exact X_adv3 I W (G 14 0) 0 FUEL S mone (nI (cnt G mone)) (by omega) (by omega) (fuel_gt (by omega)) (mone, cnt G mone) (fun _ _ => rfl) rfl rfl ⟨Nat.le_refl _, show cnt G mone ≤ 12 by omega⟩
def PB1 (G : GS) (S0 : XS) (l p : Nat) (K : XS → Int32 → Int32 → Int32 → Option (Int32 × XS)) (k m : Nat) (S : XS) (v1 v2 : Int32) (res : Option (Int32 × XS)) : Prop := ∀ s : Int32 × Nat, Mo S0 S → v1 = s.1 → v2 = nI s.2 → cnt G mone ≤ s.2 ∧ s.2 ≤ 12 → ∃ S', Mo S0 S' ∧ (cnt G mone ≤ (ad1 G l p k m s).2 ∧ (ad1 G l p k m s).2 ≤ 12) ∧ res = K S' (ad1 G l p k m s).1 (nI (ad1 G l p k m s).2) (nI (p + 1))
def PB2 (G : GS) (S0 : XS) (l : Nat) (K : XS → Int32 → Int32 → Int32 → Option (Int32 × XS)) (p m : Nat) (S : XS) (v1 v2 : Int32) (res : Option (Int32 × XS)) : Prop := ∀ s : Int32 × Nat, Mo S0 S → v1 = s.1 → v2 = nI s.2 → cnt G mone ≤ s.2 ∧ s.2 ≤ 12 → ∃ S', Mo S0 S' ∧ (cnt G mone ≤ (ad2 G l p m s).2 ∧ (ad2 G l p m s).2 ≤ 12) ∧ res = K S' (ad2 G l p m s).1 (nI (ad2 G l p m s).2) (nI (l + 1))
def PB3 (G : GS) (S0 : XS) (l m : Nat) (S : XS) (v1 v2 : Int32) (res : Option (Int32 × XS)) : Prop := ∀ s : Int32 × Nat, Mo S0 S → v1 = s.1 → v2 = nI s.2 → cnt G mone ≤ s.2 ∧ s.2 ≤ 12 → ∃ S', Mo S0 S' ∧ res = some ((ad3 G l m s).1, S')
end OPS
