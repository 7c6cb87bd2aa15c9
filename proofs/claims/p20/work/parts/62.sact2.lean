section SACTB
variable {P : Nat → Nat → Nat} {G : GS} {Hp : HS} {S : XS}
theorem HV.llt (h : HV Hp P G) {l : Nat} (hl : l < G 14 0) : P 3 l < Hp.length := by
  obtain ⟨-, -, -, h4, -⟩ := h
  obtain ⟨f, g, a, b⟩ := h4 l hl
  exact hN_lt a
theorem os_0 : ∀ r ∈ ([] : List Nat), (hN Hp r 5).isSome = true := fun r hr => absurd hr List.not_mem_nil
/-- a step more, as the law writes it -/
theorem H_put (h : HL Hp P G) (W : WG G) {l p c y w : Nat} (hl : l < G 14 0) (hp : p < G 2 l) (h5' : G 3 (3 * l + p) < 5) {rs : List Nat} (hrs : ∀ r ∈ rs, r < Hp.length) : ∃ HpA R HpB HpC HpD HpE HpF B Hp1 P1, (∀ {ρ : Type} (K : HS → Nat → Option ρ), hnw 0 rs Hp 4 K = K HpA R) ∧ (∀ {ρ : Type} (K : HS → Option ρ), hstI 0 HpA R 0 (nI c) K = K HpB) ∧ (∀ {ρ : Type} (K : HS → Option ρ), hstI 0 HpB R 1 (nI y) K = K HpC) ∧ (∀ {ρ : Type} (K : HS → Option ρ), hstI 0 HpC R 2 (nI w) K = K HpD) ∧ (∀ {ρ : Type} (K : HS → Option ρ), hstI 0 HpD R 3 0 K = K HpE) ∧ Hp.length ≤ HpE.length ∧ mS_more HpE (P 4 (3 * l + p)) R = some (B, HpF) ∧ (∀ {ρ : Type} (K : HS → Option ρ), hstR 3 2 HpF (P 3 l) (nI p) B K = K Hp1) ∧ HL Hp1 P1 (gc G (3 * l + p) c y w) ∧ P1 0 0 = P 0 0 ∧ Hp.length ≤ Hp1.length := by
  have w0 := W.1
  have w2 := (W.2.2.1 l (by omega)).1
  have V := h.1
  obtain ⟨HpA, R, a1, a2, a3, a4, a5⟩ := mk_I (t := 0) (Hp := Hp) (rs := rs) (n := 4) (by omega) hrs
  have B0 : AI_ 0 HpA R 4 (fun _ => 0) := ⟨_, a2⟩
  obtain ⟨HpB, b1, b2, b3⟩ := B0.st (i := 0) (by omega) (by omega) (nI c)
  have XB : HX Hp HpB := b3.x a4 (by omega)
  obtain ⟨HpC, c1, c2, c3⟩ := b2.st (i := 1) (by omega) (by omega) (nI y)
  have XC : HX Hp HpC := c3.x XB (by omega)
  obtain ⟨HpD, d1, d2, d3⟩ := c2.st (i := 2) (by omega) (by omega) (nI w)
  have XD : HX Hp HpD := d3.x XC (by omega)
  obtain ⟨HpE, e1, e2, e3⟩ := d2.st (i := 3) (by omega) (by omega) (nI 0)
  have XE : HX Hp HpE := e3.x XD (by omega)
  obtain ⟨-, -, -, -, v5, v6⟩ := id V
  obtain ⟨fp, gp, p1, p2⟩ := v5 l p hl hp
  have e2' := e2
  obtain ⟨gE, e2n⟩ := e2'
  obtain ⟨HpF, B, g', f1, f2, f3, f4, f5, f6⟩ := S_more (Hp := HpE) (R0 := P 4 (3 * l + p)) (last := R) (n := G 3 (3 * l + p)) (g := gp) ⟨fp, XE.2 _ _ _ p1⟩ (by omega) (fun i hi => by
    obtain ⟨f, g, q1, q2⟩ := v6 l p i hl hp hi
    exact ⟨_, _, p2 i hi, XE.2 _ _ _ q1⟩) e2n
  obtain ⟨Hp1, P1, g1, g2, g3, g4, g5⟩ := H_cite h W (c := c) (y := y) (w := w) hl hp h5' (XE.tr f1) f3 (fun k hk => (f4 k hk).trans (p2 k hk)) f5 (e2.x f1) (by rw [ud_n (by omega), ud_n (by omega), ud_n (by omega), upd_s]) (by rw [ud_n (by omega), ud_n (by omega), upd_s]) (by rw [ud_n (by omega), upd_s]) upd_s (by omega)
  exact ⟨HpA, R, HpB, HpC, HpD, HpE, HpF, B, Hp1, P1, a1, b1, c1, d1, e1, XE.1, f6, g5, g1, g2, g4⟩
theorem gc_14 {j c y w : Nat} : gc G j c y w 14 = G 14 := by unfold gc g4; rw [gs_n (by omega), gs_n (by omega), gs_n (by omega), gs_n (by omega), gs_n (by omega)]
theorem A_cite (I : SI S G) (W : WG G) (h : HL Hp P G) (hn : 1 ≤ G 14 0) {l p c y : Nat} (hl : l < G 14 0) (hp : p < G 2 l) (ok : okY G c y) : Nx P (mL_act_J645 S Hp (P 0 0) (nI l) (nI p) (nI c) (nI y)) := by
  have w0 := W.1
  have w2 := (W.2.2.1 l (by omega)).1
  have w3 := W.2.2.2.1 (3 * l + p) (by omega)
  have V := h.1
  have hc2 : c ≤ 2 := by rcases ok with ⟨a, _⟩ | ⟨a, _⟩ | ⟨a, _⟩ <;> omega
  unfold mL_act_J645
  rw [V.g1, ob_s, V.l W hl, ob_s, V.p W hl hp, ob_s, V.ns hl hp, ob_s, show (5 : Int32) = nI 5 from rfl]
  by_cases e : G 3 (3 * l + p) = 5
  · refine ⟨S, G, Hp, P, I, W, h, hn, rfl, ?_⟩
    rw [le_t (by omega) (by omega)]
    unfold mL_act_J679 mL_act_J741
    rw [if_pos (show (-1 : Int32) < 0 by decide), x_citeX I W hl hp ok e, xbC_x, if_pos rfl]
    exact gz_1
  · obtain ⟨S1, x1, x2, x3⟩ := x_cite I W hl hp ok (by omega)
    obtain ⟨HpA, R, HpB, HpC, HpD, HpE, HpF, B, Hp1, P1, p1, p2, p3, p4, p5, p6, p7, p8, p9, p10, p11⟩ := H_put h W (c := c) (y := y) (w := if c = 2 then y else 0) hl hp (by omega) (rs := [P 4 (3 * l + p), P 3 l]) (mem2 (V.plt hl hp) (V.llt hl))
    refine ⟨S1, _, Hp1, P1, x1, x2, p9, by rw [gc_14]; exact hn, p10, ?_⟩
    have J : mL_act_J732 S HpC (nI l) (nI (G 3 (3 * l + p) + 1)) (nI p) (nI c) (nI y) (nI (if c = 2 then y else 0)) 2 R R (P 4 (3 * l + p)) (nI p) (P 3 l) = some (1, (S1, Hp1)) := by
      unfold mL_act_J732 mL_act_J741
      rw [p4, p5, p7, hcb_s (mem1 (Nat.lt_of_lt_of_le (V.llt hl) p6)) os_0, p8, x3, xbC_s, if_pos rfl]
      exact gz_1
    rw [le_f (by omega) (by omega), ob_s, V.l W hl, ob_s, V.p W hl hp, ob_s, V.ns hl hp, ob_s, n_add1]
    unfold mL_act_J679
    rw [if_neg (nI_p0 (by omega)), V.g1, ob_s, V.l W hl, ob_s, ob_s, V.l W hl, ob_s, V.p W hl hp, ob_s, p1, p2, p3]
    by_cases c2 : c = 2
    · rw [if_pos (show nI c = (2 : Int32) by rw [c2]; rfl)]
      rw [show (if c = 2 then y else 0) = y from if_pos c2] at J
      exact J
    · rw [if_neg (show ¬ nI c = (2 : Int32) from fun e => c2 ((nI_eq (b := 2) (by omega) (by omega)).mp e))]
      rw [show (if c = 2 then y else 0) = 0 from if_neg c2] at J
      exact J
theorem A_628 (I : SI S G) (W : WG G) (h : HL Hp P G) (hn : 1 ≤ G 14 0) {l p n : Nat} (hl : l < G 14 0) (hp : p < G 2 l) (n1 : n ≠ 0) (n2 : n ≤ G 14 0) (x : Int32) : Nx P (mL_act_J628 S Hp (P 0 0) (nI l) (nI p) (nI 1) (nI n) x) := by
  have w0 := W.1
  obtain ⟨y, y1, y2⟩ := below x n1 (by omega)
  unfold mL_act_J628
  rw [y2, ob_s]
  exact A_cite I W h hn hl hp (Or.inr (Or.inl ⟨rfl, by omega⟩))
/-- one thing done -/
theorem L_act (I : SI S G) (W : WG G) (h : HL Hp P G) (hn : 1 ≤ G 14 0) (x : Int32) : Nx P (mL_act S Hp (P 0 0) x) := by
  have w0 := W.1
  have V := h.1
  obtain ⟨l, hl, l2⟩ := below (x >>> (4 &&& 31)) (n := G 14 0) (by omega) (by omega)
  have w2 := (W.2.2.1 l (by omega)).1
  obtain ⟨c, hc, c2⟩ := below_16 x
  have nk : ∀ k, k < 100 → c ≠ k → ¬ nI c = nI k := fun k hk h e => h ((nI_eq (by omega) (by omega)).mp e)
  unfold mL_act
  rw [V.g1, ob_s, V.n, ob_s, l2, ob_s, ob_s, V.l W hl, ob_s, V.np hl, ob_s, c2, ob_s]
  by_cases c0 : c = 0
  · obtain ⟨a, a1, a2⟩ := below_5 (x >>> (6 &&& 31))
    obtain ⟨b, b1, b2⟩ := below_3 (x >>> (4 &&& 31))
    rw [if_pos (show nI c = (0 : Int32) by rw [c0]; rfl), a2, ob_s, b2, ob_s]
    by_cases q : b = 0
    · rw [if_pos (show nI b ≤ (0 : Int32) by rw [q]; decide)]
      exact A_take I W h hn a1 (b := 0) (by omega)
    · rw [if_neg (show ¬ nI b ≤ (0 : Int32) from nI_ge (a := 0) (by omega) (by omega))]
      exact A_take I W h hn a1 (b := 1) (by omega)
  rw [if_neg (show ¬ nI c = (0 : Int32) from nk 0 (by omega) c0)]
  by_cases c1 : c = 1
  · rw [if_pos (show nI c = (1 : Int32) by rw [c1]; rfl)]
    exact A_lemma I W h hn
  rw [if_neg (show ¬ nI c = (1 : Int32) from nk 1 (by omega) c1)]
  by_cases c2 : c = 2
  · rw [if_pos (show nI c = (2 : Int32) by rw [c2]; rfl)]
    exact A_proof I W h hn hl
  rw [if_neg (show ¬ nI c = (2 : Int32) from nk 2 (by omega) c2)]
  by_cases c3 : c = 3
  · rw [if_pos (show nI c = (3 : Int32) by rw [c3]; rfl)]
    exact A_proof I W h hn hl
  rw [if_neg (show ¬ nI c = (3 : Int32) from nk 3 (by omega) c3)]
  by_cases c4 : c = 4
  · rw [if_pos (show nI c = (4 : Int32) by rw [c4]; rfl)]
    by_cases q : G 2 l = 0
    · rw [if_pos (show nI (G 2 l) = (0 : Int32) by rw [q]; rfl)]
      exact Nx_no I W h hn
    · obtain ⟨a, a1, a2⟩ := below_3 (x >>> (7 &&& 31))
      obtain ⟨p, p1, p2⟩ := below (x >>> (8 &&& 31)) q (by omega)
      rw [if_neg (nI_n0 q (by omega)), a2, ob_s]
      by_cases qa : a = 0
      · rw [if_pos (show nI a ≤ (0 : Int32) by rw [qa]; decide), p2, ob_s]
        exact A_strike I W h hn hl p1
      · rw [if_neg (show ¬ nI a ≤ (0 : Int32) from nI_ge (a := 0) (by omega) (by omega))]
        exact Nx_no I W h hn
  rw [if_neg (show ¬ nI c = (4 : Int32) from nk 4 (by omega) c4)]
  by_cases c5 : c = 5
  · rw [if_pos (show nI c = (5 : Int32) by rw [c5]; rfl)]
    exact A_301 I W h hn hl x
  rw [if_neg (show ¬ nI c = (5 : Int32) from nk 5 (by omega) c5)]
  by_cases c6 : c = 6
  · rw [if_pos (show nI c = (6 : Int32) by rw [c6]; rfl)]
    exact A_301 I W h hn hl x
  rw [if_neg (show ¬ nI c = (6 : Int32) from nk 6 (by omega) c6)]
  by_cases c7 : c = 7
  · rw [if_pos (show nI c = (7 : Int32) by rw [c7]; rfl)]
    exact A_301 I W h hn hl x
  rw [if_neg (show ¬ nI c = (7 : Int32) from nk 7 (by omega) c7)]
  by_cases q : G 2 l = 0
  · rw [if_pos (show nI (G 2 l) = (0 : Int32) by rw [q]; rfl)]
    exact Nx_no I W h hn
  obtain ⟨p, p1, p2⟩ := below (x >>> (8 &&& 31)) q (by omega)
  obtain ⟨k, k1, k2⟩ := below_3 (x >>> (5 &&& 31))
  rw [if_neg (nI_n0 q (by omega)), p2, ob_s, k2, ob_s]
  by_cases k0 : k = 0
  · obtain ⟨y, y1, y2⟩ := below_5 (x >>> (7 &&& 31))
    rw [if_pos (show nI k = (0 : Int32) by rw [k0]; rfl), y2, ob_s, k0]
    exact A_cite I W h hn hl p1 (Or.inl ⟨rfl, y1⟩)
  rw [if_neg (nI_n0 k0 (by omega))]
  by_cases k1' : k = 1
  · obtain ⟨y, y1, y2⟩ := below_2 (x >>> (9 &&& 31))
    rw [if_pos (show nI k = (1 : Int32) by rw [k1']; rfl), y2, ob_s, k1']
    by_cases qy : y = 0
    · rw [if_pos (show nI y = (0 : Int32) by rw [qy]; rfl)]
      exact A_628 I W h hn hl p1 (by omega) (by omega) _
    · rw [if_neg (nI_n0 qy (by omega)), n_add1]
      exact A_628 I W h hn hl p1 (by omega) (by omega) _
  · obtain ⟨y, y1, y2⟩ := below_9 (x >>> (7 &&& 31))
    rw [if_neg (show ¬ nI k = (1 : Int32) from fun e => k1' ((nI_eq (b := 1) (by omega) (by omega)).mp e)), y2, ob_s, show (1 : Int32) + nI y = nI (1 + y) from n_add 1 y]
    exact A_cite I W h hn hl p1 (Or.inr (Or.inr ⟨by omega, by omega, by omega⟩))
end SACTB
