section SLAWC
variable {P : Nat → Nat → Nat} {G : GS} {Hb Hp : HS} {S : XS} {xs : Nat → Int32} {L : Nat} {v4 : Int32} {o r : Nat}
theorem cmp_self {x : Int64} : lg_cmp x x = 0 := by
  unfold lg_cmp
  rw [if_neg (fun h => Int64.lt_irrefl h), if_pos rfl]
theorem HL.x {Hp' : HS} (h : HL Hp P G) (x : HX Hp Hp') : HL Hp' P G := ⟨h.1.x x, h.2⟩
theorem opn_le (W : WG G) {l : Nat} (hl : l < 12) : opn G l ≤ 135 := by
  have w2 := (W.2.2.1 l hl).1
  have := sumR_bd (f := fun p => sumR (G 6) (5 * (3 * l + p)) (G 3 (3 * l + p))) (b := 45) (m := G 2 l) (i := 0) (fun p _ hp => by
    have w3 := W.2.2.2.1 (3 * l + p) (by omega)
    have := sumR_bd (f := G 6) (b := 9) (m := G 3 (3 * l + p)) (i := 5 * (3 * l + p)) (fun k h1 h2 => (W.2.2.2.2 (3 * l + p) k (by omega) h1 h2).2.2.2.2.1)
    omega)
  unfold opn
  omega
theorem cv5_le (W : WG G) : cv G 5 ≤ 2000 := by
  have w0 := W.1
  have := sumR_bd (f := opn G) (b := 135) (m := G 14 0) (i := 0) (fun l _ hl => opn_le W (by omega))
  show sumR (opn G) 0 (G 14 0) ≤ 2000
  omega
/-- withdrawn and back -/
theorem W_971 (I : SI S G) (W : WG G) {l p k : Nat} (hl : l < G 14 0) (hp : p < G 2 l) (hk : k < G 3 (3 * l + p)) {kk : XS → HS → Int32 → Option Int32} : ∃ S', SI S' G ∧ mL_law_J971 xs L kk S Hp o (nI r) (dgA G) (nI l) (nI p) (nI k) (nI (G 7 (5 * (3 * l + p) + k))) = kk S' Hp (nI (r + 1)) := by
  have w0 := W.1
  have w2 := (W.2.2.1 l (by omega)).1
  have f7 := (W.2.2.2.2 (3 * l + p) (5 * (3 * l + p) + k) (by omega) (by omega) (by omega)).2.2.2.2.2.2
  obtain ⟨S1, I1, W1, a1⟩ := x_withdraw I W hl hp hk
  have e14 : gs G 7 (5 * (3 * l + p) + k) (1 - G 7 (5 * (3 * l + p) + k)) 14 = G 14 := gs_n (by omega)
  have e2 : gs G 7 (5 * (3 * l + p) + k) (1 - G 7 (5 * (3 * l + p) + k)) 2 = G 2 := gs_n (by omega)
  have e3 : gs G 7 (5 * (3 * l + p) + k) (1 - G 7 (5 * (3 * l + p) + k)) 3 = G 3 := gs_n (by omega)
  have e7 : gs G 7 (5 * (3 * l + p) + k) (1 - G 7 (5 * (3 * l + p) + k)) 7 (5 * (3 * l + p) + k) = 1 - G 7 (5 * (3 * l + p) + k) := by rw [gs_s, uN_s]
  have back : gs (gs G 7 (5 * (3 * l + p) + k) (1 - G 7 (5 * (3 * l + p) + k))) 7 (5 * (3 * l + p) + k) (1 - (1 - G 7 (5 * (3 * l + p) + k))) = G := by rw [gs_gs, gs_self (by omega)]
  have hl1 : l < gs G 7 (5 * (3 * l + p) + k) (1 - G 7 (5 * (3 * l + p) + k)) 14 0 := by rw [e14]; exact hl
  have hp1 : p < gs G 7 (5 * (3 * l + p) + k) (1 - G 7 (5 * (3 * l + p) + k)) 2 l := by rw [e2]; exact hp
  have hk1 : k < gs G 7 (5 * (3 * l + p) + k) (1 - G 7 (5 * (3 * l + p) + k)) 3 (3 * l + p) := by rw [e3]; exact hk
  obtain ⟨S2, I2, W2, a2⟩ := x_withdraw I1 W1 hl1 hp1 hk1
  have a3 := x_step I1 W1 hl1 hp1 hk1 (q := 3) (by omega)
  have a4 := X_about4 I1 W1 hl1 hp1 (q := 1) (by omega)
  rw [e7, back] at I2 W2
  rw [e7] at a2
  have s3 : stv (gs G 7 (5 * (3 * l + p) + k) (1 - G 7 (5 * (3 * l + p) + k))) (5 * (3 * l + p) + k) 3 = if 1 - G 7 (5 * (3 * l + p) + k) = 0 then 0 else 1 := by
    unfold stv
    rw [if_neg (by omega), if_neg (by omega), if_neg (by omega), e7]
  rw [s3] at a3
  refine ⟨S2, I2, ?_⟩
  have J1029 : mL_law_J1029 xs L kk S1 Hp o (nI r) (dgA G) (nI l) (nI p) (nI k) (nI (G 7 (5 * (3 * l + p) + k))) = kk S2 Hp (nI (r + 1)) := by
    unfold mL_law_J1029
    rw [a2, xbW_s, if_pos (by rw [show 1 - (1 - G 7 (5 * (3 * l + p) + k)) = G 7 (5 * (3 * l + p) + k) by omega]), X_digest I2 W2, ob_s, cmp_self, if_pos rfl, n_add1]
  unfold mL_law_J971
  rw [a1, xbW_s, eq_f (by omega) (by omega) (by omega), show mX_step S1 (nI l) (nI p) (nI k) 3 = _ from a3, xbR_s]
  unfold mL_law_J1009
  by_cases q : G 7 (5 * (3 * l + p) + k) = 0
  · have nh : pv (gs G 7 (5 * (3 * l + p) + k) (1 - G 7 (5 * (3 * l + p) + k))) (3 * l + p) 1 = 0 := by
      unfold pv
      rw [if_neg (by omega), if_pos rfl, if_neg]
      intro h
      have h1 := (hd_parts.mp h).1
      unfold wh at h1
      rw [Bool.and_eq_true, allR_iff, e3] at h1
      have := h1.2 (5 * (3 * l + p) + k) (by omega) (by omega)
      rw [e7, q] at this
      exact absurd this (by decide)
    rw [nh] at a4
    rw [if_pos (show nI (G 7 (5 * (3 * l + p) + k)) = (0 : Int32) by rw [q]; rfl), if_pos (by rw [q]; rfl), if_pos (show nI (G 7 (5 * (3 * l + p) + k)) = (0 : Int32) by rw [q]; rfl), show mX_about S1 (nI l) (nI p) 1 = _ from a4, xbR_s, if_pos rfl]
    exact J1029
  · rw [if_neg (nI_n0 q (by omega)), if_pos (by rw [show G 7 (5 * (3 * l + p) + k) = 1 by omega]; rfl), if_neg (nI_n0 q (by omega))]
    exact J1029
/-- an axiom more -/
theorem W_866 (h : HL Hp P G) (hn : 1 ≤ G 14 0) {a : Nat} (ha : a < 5) (I : SI S (gs G 1 a 1)) (W : WG (gs G 1 a 1)) {kk : XS → HS → Int32 → Option Int32} : ∃ S' Hp' G', BS (P 0 0) S' Hp' G' ∧ 1 ≤ G' 14 0 ∧ mL_law_J866 xs L kk S Hp (P 0 0) (nI r) v4 (nI (G 14 0)) (nI a) = kk S' Hp' (nI (r + 1)) := by
  have e14 : gs G 1 a 1 14 = G 14 := gs_n (by omega)
  obtain ⟨Hp1, a1, a2, a3⟩ := H_take h ha (b := 1) (by omega)
  have w0 := W.1
  obtain ⟨l, l1, l2⟩ := below (v4 >>> (3 &&& 31)) (n := G 14 0) (by omega) (by rw [e14] at w0; omega)
  have hl : l < gs G 1 a 1 14 0 := by rw [e14]; exact l1
  have t0 := x_told I W hl (q := 0) (by omega)
  have dg := X_digest I W
  have w2 := (W.2.2.1 l (by omega)).1
  rw [show tv (gs G 1 a 1) l 0 = nI (gs G 1 a 1 2 l) from if_pos rfl] at t0
  have hn1 : 1 ≤ gs G 1 a 1 14 0 := by rw [e14]; exact hn
  unfold mL_law_J866
  rw [h.1.g0, ob_s, show (1 : Int32) &&& 1 = nI 1 &&& 1 from rfl, a3, dg, ob_s, l2, ob_s, show mX_told S (nI l) 0 = _ from t0, xbR_s, n_add1]
  generalize gs G 1 a 1 = G1 at *
  by_cases c : G1 2 l = 0
  · refine ⟨S, Hp1, G1, ⟨P, I, W, a1, rfl⟩, hn1, ?_⟩
    rw [if_pos (show nI (G1 2 l) = (0 : Int32) by rw [c]; rfl)]
  obtain ⟨p, p1, p2⟩ := below (v4 >>> (6 &&& 31)) c (by omega)
  have w3 := W.2.2.2.1 (3 * l + p) (by omega)
  have b0 := X_about4 I W hl p1 (q := 0) (by omega)
  rw [show pv G1 (3 * l + p) 0 = nI (G1 3 (3 * l + p)) from if_pos rfl] at b0
  rw [if_neg (nI_n0 c (by omega)), p2, ob_s, show mX_about S (nI l) (nI p) 0 = _ from b0, xbR_s]
  by_cases c3 : G1 3 (3 * l + p) = 0
  · refine ⟨S, Hp1, G1, ⟨P, I, W, a1, rfl⟩, hn1, ?_⟩
    rw [if_pos (show nI (G1 3 (3 * l + p)) = (0 : Int32) by rw [c3]; rfl)]
  obtain ⟨k, k1, k2⟩ := below (v4 >>> (7 &&& 31)) c3 (by omega)
  have f7 := (W.2.2.2.2 (3 * l + p) (5 * (3 * l + p) + k) (by omega) (by omega) (by omega)).2.2.2.2.2.2
  have s3 := x_step I W hl p1 k1 (q := 3) (by omega)
  rw [show stv G1 (5 * (3 * l + p) + k) 3 = if G1 7 (5 * (3 * l + p) + k) = 0 then 0 else 1 by unfold stv; rw [if_neg (by omega), if_neg (by omega), if_neg (by omega)]] at s3
  obtain ⟨S1, I1, b1⟩ := W_971 I W hl p1 k1 (Hp := Hp1) (o := P 0 0) (r := r) (xs := xs) (L := L) (kk := kk)
  refine ⟨S1, Hp1, G1, ⟨P, I1, W, a1, rfl⟩, hn1, ?_⟩
  rw [if_neg (nI_n0 c3 (by omega)), k2, ob_s, show mX_step S (nI l) (nI p) (nI k) 3 = _ from s3, xbR_s]
  by_cases q : G1 7 (5 * (3 * l + p) + k) = 0
  · rw [q] at b1
    rw [if_pos q, if_neg (show ¬ (0 : Int32) = 1 by decide)]
    exact b1
  · rw [show G1 7 (5 * (3 * l + p) + k) = 1 by omega] at b1
    rw [if_neg q, if_pos rfl]
    exact b1
theorem W_808 (I : SI S G) (W : WG G) (h : HL Hp P G) (hn : 1 ≤ G 14 0) {kk : XS → HS → Int32 → Option Int32} : ∃ S' Hp' G', BS (P 0 0) S' Hp' G' ∧ 1 ≤ G' 14 0 ∧ mL_law_J808 xs L kk S Hp (P 0 0) (nI r) v4 (dgA G) (nI (G 14 0)) (nI (cnt G mone)) = kk S' Hp' (nI (r + 1)) := by
  have w0 := W.1
  obtain ⟨a, a1, a2⟩ := below_5 (v4 >>> (5 &&& 31))
  have w1 := W.2.1 a a1
  obtain ⟨S1, I1, W1, b1⟩ := x_take I W a1 (b := 1) (by omega)
  have c1 := x_count I1 W1 (q := 1) (by omega)
  rw [show cv (gs G 1 a 1) 1 = cnt (gs G 1 a 1) mone from rfl] at c1
  have hge := take_more (G := G) (a := a) W
  have hle := cnt_le (G := gs G 1 a 1) (b := mone)
  have w01 := W1.1
  obtain ⟨S2, Hp2, G2, d1, d2, d3⟩ := W_866 h hn a1 I1 W1 (r := r) (xs := xs) (L := L) (v4 := v4) (kk := kk)
  refine ⟨S2, Hp2, G2, d1, d2, ?_⟩
  unfold mL_law_J808
  rw [a2, ob_s, show mX_take S (nI a) 1 = _ from b1, xbW_s, h.1.g0, ob_s, h.1.a a1, ob_s, if_pos rfl, show mX_count S1 1 = _ from c1, xbR_s, lt_f hge (by omega), X_digest I1 W1, ob_s]
  by_cases q : G 1 a = 0
  · rw [if_pos (show nI (G 1 a) = (0 : Int32) by rw [q]; rfl)]
    exact d3
  · rw [if_neg (nI_n0 q (by omega)), gs_self (show G 1 a = 1 by omega), cmp_self, if_pos rfl]
    exact d3
/-- the advice, and what follows -/
theorem W_end (I : SI S G) (W : WG G) (h : HL Hp P G) (hn : 1 ≤ G 14 0) {R : Nat} {kk : XS → HS → Int32 → Option Int32} : ∃ S' Hp' G', BS (P 0 0) S' Hp' G' ∧ 1 ≤ G' 14 0 ∧ ∀ ih, mL_law_F623 xs L kk S Hp (P 0 0) (nI r) v4 (dgA G) (nI (G 14 0)) (nI (cnt G mone)) R (nI (cnt G mone)) ih (nI (G 14 0 + 1)) = kk S' Hp' (nI (r + 1)) := by
  have w0 := W.1
  obtain ⟨S1, I1, a1⟩ := x_advise I W
  have ai := (adv_is (G := G)).2
  generalize (ad3 G 0 (G 14 0) (mone, cnt G mone)).1 = y at a1 ai
  rcases ai with e | ⟨l, p, k, hl, hp, hk, e, h6, hc⟩
  · obtain ⟨S2, Hp2, G2, b1, b2, b3⟩ := W_808 I1 W h hn (r := r) (xs := xs) (L := L) (v4 := v4) (kk := kk)
    refine ⟨S2, Hp2, G2, b1, b2, fun ih => ?_⟩
    unfold mL_law_F623
    rw [lt_t (by omega) (by omega), if_pos rfl, X_digest I W, ob_s, cmp_self, if_pos rfl, a1, rb_s, e, if_pos (show mone < (0 : Int32) by decide)]
    exact b3
  · have w2 := (W.2.2.1 l (by omega)).1
    have w3 := W.2.2.2.1 (3 * l + p) (by omega)
    obtain ⟨f4, f5, f5', f5'', f6, f6', f7⟩ := W.2.2.2.2 (3 * l + p) (5 * (3 * l + p) + k) (by omega) (by omega) (by omega)
    obtain ⟨S2, I2, W2, b1⟩ := x_patch I1 W hl hp hk (w := 9) (by omega) (by omega) h6
    rw [show G 6 (5 * (3 * l + p) + k) - 9 = 0 by omega] at I2 W2 b1
    have s2 := x_step I1 W hl hp hk (q := 2) (by omega)
    have s0 := x_step I1 W hl hp hk (q := 0) (by omega)
    rw [show stv G (5 * (3 * l + p) + k) 2 = nI (G 6 (5 * (3 * l + p) + k)) from rfl] at s2
    rw [show stv G (5 * (3 * l + p) + k) 0 = nI (G 4 (5 * (3 * l + p) + k)) from rfl] at s0
    obtain ⟨Hp2, d1, d2, d3⟩ := H_step h hl hp hk (q := 2) (v := 0) (Or.inl rfl)
    have e14 : gs G 6 (5 * (3 * l + p) + k) 0 14 = G 14 := gs_n (by omega)
    have c1 := x_count I2 W2 (q := 1) (by omega)
    have c5 := x_count I2 W2 (q := 5) (by omega)
    rw [show cv (gs G 6 (5 * (3 * l + p) + k) 0) 1 = cnt (gs G 6 (5 * (3 * l + p) + k) 0) mone from rfl] at c1
    have hb := cv5_le W2
    have hle := cnt_le (G := gs G 6 (5 * (3 * l + p) + k) 0) (b := mone)
    rw [e14] at hle
    have d1' : HL Hp2 P (gs G 6 (5 * (3 * l + p) + k) 0) := d1
    obtain ⟨S3, Hp3, G3, g1, g2, g3⟩ := W_808 I2 W2 d1' (by rw [e14]; exact hn) (r := r) (xs := xs) (L := L) (v4 := v4) (kk := kk)
    rw [e14] at g3
    have i1 : idv y 100 = some (nI l) := by
      rw [e]
      exact (idv_n (b := 100) (by omega) (by omega) (by omega)).trans (by rw [show (100 * l + 10 * p + k) / 100 = l by omega])
    have i2 : idv y 10 = some (nI (10 * l + p)) := by
      rw [e]
      exact (idv_n (b := 10) (by omega) (by omega) (by omega)).trans (by rw [show (100 * l + 10 * p + k) / 10 = 10 * l + p by omega])
    have i3 : irm (nI (10 * l + p)) 10 = some (nI p) := (irm_n (b := 10) (by omega) (by omega) (by omega)).trans (by rw [show (10 * l + p) % 10 = p by omega])
    have i4 : irm y 10 = some (nI k) := by
      rw [e]
      exact (irm_n (b := 10) (by omega) (by omega) (by omega)).trans (by rw [show (100 * l + 10 * p + k) % 10 = k by omega])
    have yn : ¬ y < 0 := by rw [e]; exact nI_p0 (by omega)
    have V := h.1
    refine ⟨S3, Hp3, G3, g1, g2, fun ih => ?_⟩
    unfold mL_law_F623
    rw [lt_t (by omega) (by omega), if_pos rfl, X_digest I W, ob_s, cmp_self, if_pos rfl, a1, rb_s, if_neg yn, i1, ob_s, i2, ob_s, i3, ob_s, i4, ob_s, show mX_step S1 (nI l) (nI p) (nI k) 2 = _ from s2, xbR_s, show mX_step S1 (nI l) (nI p) (nI k) 0 = _ from s0, xbR_s]
    rw [if_pos (show nI (G 4 (5 * (3 * l + p) + k)) = (2 : Int32) by
      rw [show G 4 (5 * (3 * l + p) + k) = 2 from Classical.byContradiction fun w => h6 (f6' w)]
      rfl), if_neg (show ¬ nI (G 6 (5 * (3 * l + p) + k)) < (1 : Int32) from nI_nlt (b := 1) (by omega) (by omega)), show mX_patch S1 (nI l) (nI p) (nI k) 9 = _ from b1, xbW_s, if_pos (show nI 0 = (0 : Int32) from rfl), show mX_count S2 1 = _ from c1, xbR_s, le_f hc (by omega), show mX_count S2 5 = _ from c5, xbR_s, if_pos (show (0 : Int32) ≤ nI (cv (gs G 6 (5 * (3 * l + p) + k) 0) 5) from nI_le (a := 0) (by omega) (by omega)), V.g1, ob_s, V.l W hl, ob_s, V.p W hl hp, ob_s, V.k W hl hp hk, ob_s]
    rw [show (2 : Int32) = nI 2 from rfl, show (0 : Int32) = nI 0 from rfl, d3, xbR_s, X_digest I2 W2, ob_s]
    exact g3
/-- one of the ten rounds -/
theorem W_45 : ∀ m a N, a + m = 4 → m < N → ∀ S Hp G, BS o S Hp G → 1 ≤ G 14 0 → ∀ kk : XS → HS → Int32 → Option Int32, ∃ S' Hp' G', BS o S' Hp' G' ∧ 1 ≤ G' 14 0 ∧ itr3 (mL_law_F45 xs L kk o (nI r) v4) N S Hp (nI a) = kk S' Hp' (nI (r + 1)) := by
  intro m
  induction m with
  | zero =>
    intro a N hm hN S Hp G b hn kk
    match N, hN with
    | N + 1, _ =>
      obtain ⟨P, I, W, h, ho⟩ := b
      subst ho
      have w0 := W.1
      have V := h.1
      have c0 := x_count I W (q := 0) (by omega)
      have c1 := x_count I W (q := 1) (by omega)
      rw [show cv G 0 = G 14 0 from rfl] at c0
      rw [show cv G 1 = cnt G mone from rfl] at c1
      obtain ⟨HpA, R, a1, a2, a3, a4⟩ := HR.nw (Hp := Hp) (rs := [P 0 0]) (n := G 14 0 + 2) (by omega) (mem1 V.lt)
      obtain ⟨S1, Hp1, r1, b1, b2, b3, b4, b5⟩ := W_114 V W (xs := xs) (L := L) (v3 := nI r) (v4 := v4) (v5 := dgA G) (kk := kk) (R := R) (by omega) (G 14 0) 0 16 (by omega) (by omega) S HpA 0 _ I a4 a2 (fun s => ⟨Nat.le_refl _, ⟨fun _ x hx => absurd hx (Nat.not_lt_zero _), fun _ => rfl⟩⟩) (by rw [Nat.zero_add, cnt_nz]; rfl)
      obtain ⟨S2, Hp2, G2, d1, d2, d3⟩ := W_end b1 W (h.x b2) hn (r := r) (xs := xs) (L := L) (v4 := v4) (R := R) (kk := kk)
      refine ⟨S2, Hp2, G2, d1, d2, ?_⟩
      show mL_law_F45 _ _ _ _ _ _ _ _ _ _ = _
      unfold mL_law_F45
      rw [show (4 : Int32) = nI 4 from rfl, le_t (by omega) (by omega), X_digest I W, ob_s, show mX_count S 0 = _ from c0, xbR_s, show mX_count S 1 = _ from c1, xbR_s, show nI (G 14 0) + 2 = nI (G 14 0 + 2) from n_add _ 2, a1]
      exact b5.trans (W_623 W hn b3 b4 d3)
  | succ m ih =>
    intro a N hm hN S Hp G b hn kk
    match N, hN with
    | N + 1, hN =>
      obtain ⟨P, I, W, h, ho⟩ := b
      subst ho
      obtain ⟨S1, G1, Hp1, P1, b1, b2, b3, b4, b5, b6⟩ := L_act I W h hn ((v4 >>> ((3 * nI a) &&& 31)) + (29 * nI a))
      obtain ⟨S2, Hp2, G2, d1, d2, d3⟩ := ih (a + 1) N (by omega) (by omega) S1 Hp1 G1 ⟨P1, b1, b2, b3, b5⟩ b4 kk
      refine ⟨S2, Hp2, G2, d1, d2, ?_⟩
      rw [← d3]
      show mL_law_F45 xs L kk (P 0 0) (nI r) v4 (itr3 (mL_law_F45 xs L kk (P 0 0) (nI r) v4) N) S Hp (nI a) = _
      generalize hI : itr3 (mL_law_F45 xs L kk (P 0 0) (nI r) v4) N = J
      unfold mL_law_F45
      rw [show (4 : Int32) = nI 4 from rfl, le_f (by omega) (by omega), b6, hcbL_s (mem1 h.1.lt) os_0, if_neg (show ¬ (1 : Int32) = 0 by decide), n_add1]
theorem W_22 (hL : L ≤ 2560) : ∀ m r N, r + m = 10 → m < N → ∀ S Hp G, BS o S Hp G → 1 ≤ G 14 0 → itr3 (mL_law_F22 xs L o) N S Hp (nI r) = some 1 := by
  intro m
  induction m with
  | zero =>
    intro r N hm hN S Hp G b hn
    match N, hN with
    | N + 1, _ =>
      obtain ⟨P, I, W, h, ho⟩ := b
      subst ho
      obtain ⟨Hp1, a1⟩ := S_same h.1 W I
      show mL_law_F22 _ _ _ _ _ _ _ = _
      unfold mL_law_F22
      rw [show (10 : Int32) = nI 10 from rfl, le_t (by omega) (by omega), a1, hcbL_s mem0 h.1.os]
  | succ m ih =>
    intro r N hm hN S Hp G b hn
    match N, hN with
    | N + 1, hN =>
      obtain ⟨z, hz⟩ := cell (xs := xs) (L := L) (i := r) hL (by omega)
      obtain ⟨S2, Hp2, G2, d1, d2, d3⟩ := W_45 (xs := xs) (L := L) (r := r) (v4 := (z >>> (2 &&& 31)) + (53 * nI r)) 4 0 16 (by omega) (by omega) S Hp G b hn (itr3 (mL_law_F22 xs L o) N)
      show mL_law_F22 xs L o (itr3 (mL_law_F22 xs L o) N) S Hp (nI r) = _
      rw [← ih (r + 1) N (by omega) (by omega) S2 Hp2 G2 d1 d2, ← d3]
      generalize hI : itr3 (mL_law_F22 xs L o) N = J
      unfold mL_law_F22
      rw [show (10 : Int32) = nI 10 from rfl, le_f (by omega) (by omega), hz, ob_s]
      rfl
theorem law_J8 (I : SI S G0) (hL : L ≤ 2560) : mL_law_J8 xs L S Hp = some 1 := by
  obtain ⟨o, S1, Hp1, G1, a1, a2, a3⟩ := L_build (Hp := Hp) (xs := xs) I hL
  unfold mL_law_J8
  rw [a3, hcbL_s mem0 os_0]
  exact W_22 hL 10 0 16 (by omega) (by omega) S1 Hp1 G1 a1 a2
-- a new one
def Fresh (S : XS) : Prop := (∀ k, k ≠ 1 → S k = fun _ => 0) ∧ ∀ a, a < 5 → S 1 a = nI 1
theorem Fresh.cp (h : Fresh S) : Cp S G0 := by
  obtain ⟨h0, h1⟩ := h
  refine ⟨?_, fun a ha => h1 a ha, fun l _ => ?_, fun j _ => ?_, fun j i _ a1 a2 => ?_⟩
  · rw [h0 14 (by omega)]; rfl
  · rw [h0 2 (by omega)]; rfl
  · rw [h0 3 (by omega)]; rfl
  · have : G0 3 j = 0 := rfl
    omega
theorem Fresh.si (h : Fresh S) : SI S G0 := by
  have e : G0 14 0 = 0 := rfl
  have c : cnt G0 mone = 0 := by
    have := cnt_le (G := G0) (b := mone)
    omega
  refine ⟨h.cp, fun l hl => ?_, fun l hl => ?_, fun l hl => ?_, fun l hl => ?_, ?_⟩
  · omega
  · omega
  · omega
  · omega
  · rw [h.1 15 (by omega), c]; rfl
def PI (l m : Nat) (S : XS) (res : Option (Int32 × XS)) : Prop := (∀ k, k ≠ 1 → S k = fun _ => 0) → (∀ a, a < l → S 1 a = nI 1) → ∃ S', Fresh S' ∧ res = some (0, S')

theorem mX_fresh : ∃ S', Fresh S' ∧ mX_init = some (0, S') := by
  unfold mX_init
  rw [show itr2 mX_init_F113 FUEL XS0 0 = itr2 mX_init_F113 FUEL XS0 (nI 0) by rw [show (0 : Int32) = nI 0 from rfl]]
  refine itr2_r PI 0 5 ?_ ?_ 5 0 FUEL XS0 (by omega) (by omega) (fuel_gt (by omega)) (fun _ _ => rfl) (fun a ha => by omega)
  · intro ih S h0 h1
    refine ⟨S, ⟨h0, h1⟩, ?_⟩
    unfold mX_init_F113
    rw [show (5 : Int32) = nI 5 from rfl, le_t (by omega) (by omega)]
  · intro l m ih _ hl hih S h0 h1
    unfold mX_init_F113
    rw [show (5 : Int32) = nI 5 from rfl, show (1 : Int32) = nI 1 from rfl, le_f (by omega) (by omega), wrS_n (by omega) (by omega), nI_cl (by omega), n_add, show nI 1 &&& nI 1 = nI 1 by decide]
    refine hih _ (fun k hk => by rw [sU_n hk]; exact h0 k hk) (fun a ha => ?_)
    rw [sU_s]
    unfold upd
    by_cases e : a = l
    · rw [if_pos e]
    · rw [if_neg e]; exact h1 a (by omega)
end SLAWC
