section SACT
variable {P : Nat → Nat → Nat} {G : GS} {Hp : HS} {S : XS}
theorem nI_n0 {b : Nat} (h : b ≠ 0) (hb : b < 2147483648) : ¬ nI b = (0 : Int32) := fun e => h ((nI_eq (b := 0) hb (by omega)).mp e)
theorem nI_p0 {b : Nat} (hb : b < 2147483648) : ¬ nI b < (0 : Int32) := nI_nlt (b := 0) (by omega) hb
theorem and_nn (v : Int32) : ¬ (v &&& 2147483647) < 0 := by
  rw [Int32.lt_iff_toInt_lt, show (0 : Int32).toInt = 0 from by decide]
  have h : (v &&& 2147483647).toBitVec.msb = false := by
    rw [Int32.toBitVec_and, BitVec.msb_and, show (2147483647 : Int32).toBitVec.msb = false from by decide, Bool.and_false]
  have h2 := BitVec.msb_eq_toInt (x := (v &&& 2147483647).toBitVec)
  rw [h] at h2
  exact of_decide_eq_false h2.symm
theorem div_n {a b : Nat} (ha : a < 2147483648) (hb : b < 2147483648) : nI a / nI b = nI (a / b) := by
  apply Int32.toInt_inj.mp
  have := Nat.div_le_self a b
  rw [Int32.toInt_div, nI_toInt (by omega), nI_toInt (by omega), nI_toInt (by omega), ← Int.ofNat_tdiv]
  generalize a / b = q at this ⊢
  exact Int.bmod_eq_of_le (by omega) (by omega)
theorem idv_n {a b : Nat} (ha : a < 2147483648) (h : b ≠ 0) (hb : b < 2147483648) : idv (nI a) (nI b) = some (nI (a / b)) := by
  unfold idv
  rw [if_neg (nI_n0 h hb), div_n ha hb]
theorem irm_n {a b : Nat} (ha : a < 2147483648) (h : b ≠ 0) (hb : b < 2147483648) : irm (nI a) (nI b) = some (nI (a % b)) := by
  have h1 := Nat.div_mul_le_self a b
  have h2 := Nat.div_add_mod a b
  rw [Nat.mul_comm] at h2
  unfold irm
  rw [if_neg (nI_n0 h hb), div_n ha hb, n_mul, pk_sub h1, show a - a / b * b = a % b by omega]
theorem below (v : Int32) {n : Nat} (hn : n ≠ 0) (hn' : n < 2147483648) : ∃ j, j < n ∧ mL_below v (nI n) = some (nI j) := by
  obtain ⟨m, hm, e⟩ := nI_of (and_nn v)
  refine ⟨m % n, Nat.mod_lt _ (by omega), ?_⟩
  unfold mL_below
  rw [e, irm_n (by omega) hn hn', ob_s]
theorem below_3 (v : Int32) : ∃ j, j < 3 ∧ mL_below v 3 = some (nI j) := below v (n := 3) (by omega) (by omega)
theorem below_5 (v : Int32) : ∃ j, j < 5 ∧ mL_below v 5 = some (nI j) := below v (n := 5) (by omega) (by omega)
theorem below_9 (v : Int32) : ∃ j, j < 9 ∧ mL_below v 9 = some (nI j) := below v (n := 9) (by omega) (by omega)
theorem below_4 (v : Int32) : ∃ j, j < 4 ∧ mL_below v 4 = some (nI j) := below v (n := 4) (by omega) (by omega)
theorem below_2 (v : Int32) : ∃ j, j < 2 ∧ mL_below v 2 = some (nI j) := below v (n := 2) (by omega) (by omega)
theorem below_6 (v : Int32) : ∃ j, j < 6 ∧ mL_below v 6 = some (nI j) := below v (n := 6) (by omega) (by omega)
theorem below_12 (v : Int32) : ∃ j, j < 12 ∧ mL_below v 12 = some (nI j) := below v (n := 12) (by omega) (by omega)
theorem below_16 (v : Int32) : ∃ j, j < 16 ∧ mL_below v 16 = some (nI j) := below v (n := 16) (by omega) (by omega)
/-- both lodges go on alike -/
def Nx (P : Nat → Nat → Nat) (res : Option (Int32 × (XS × HS))) : Prop := ∃ S' G' Hp' P', SI S' G' ∧ WG G' ∧ HL Hp' P' G' ∧ 1 ≤ G' 14 0 ∧ P' 0 0 = P 0 0 ∧ res = some (1, (S', Hp'))
theorem Nx_no (I : SI S G) (W : WG G) (h : HL Hp P G) (hn : 1 ≤ G 14 0) : Nx P (gz 1 (some (1, (S, Hp)))) := ⟨S, G, Hp, P, I, W, h, hn, rfl, gz_1⟩
theorem A_take (I : SI S G) (W : WG G) (h : HL Hp P G) (hn : 1 ≤ G 14 0) {a b : Nat} (ha : a < 5) (hb : b ≤ 1) : Nx P (mL_act_J101 S Hp (P 0 0) (nI a) (nI b)) := by
  obtain ⟨S1, x1, x2, x3⟩ := x_take I W ha hb
  obtain ⟨Hp1, a1, a2, a3⟩ := H_take h ha hb
  refine ⟨S1, _, Hp1, P, x1, x2, a1, by rw [gs_n (by omega)]; exact hn, rfl, ?_⟩
  unfold mL_act_J101
  rw [h.1.g0, ob_s, h.1.a ha, ob_s, ob_s, a3, x3, xbW_s, if_pos rfl]
  exact gz_1
theorem A_lemma (I : SI S G) (W : WG G) (h : HL Hp P G) (hn : 1 ≤ G 14 0) : Nx P (if (12 : Int32) ≤ nI (G 14 0) then mL_act_J151 S Hp (P 0 0) (-1) else mL_act_J151 S Hp (P 0 0) (nI (G 14 0))) := by
  have w0 := W.1
  rw [show (12 : Int32) = nI 12 from rfl]
  by_cases e : G 14 0 = 12
  · refine ⟨S, G, Hp, P, I, W, h, hn, rfl, ?_⟩
    rw [le_t (by omega) (by omega)]
    unfold mL_act_J151 mL_act_J162
    rw [if_pos (show (-1 : Int32) < 0 by decide), x_lemmaX I e, xbC_x, if_pos rfl]
    exact gz_1
  · obtain ⟨S1, x1, x2, x3⟩ := x_lemma I W (by omega)
    obtain ⟨Hp1, P1, a1, a2, a3, a4, a5⟩ := S_lemma h W (by omega)
    refine ⟨S1, _, Hp1, P1, x1, x2, a1, by rw [gs_s, uN_s]; omega, a2, ?_⟩
    rw [le_f (by omega) (by omega)]
    unfold mL_act_J151 mL_act_J162
    rw [if_neg (nI_p0 (by omega)), a5, hcb_s mem0 h.1.os, x3, xbC_s, if_pos rfl]
    exact gz_1
theorem A_proof (I : SI S G) (W : WG G) (h : HL Hp P G) (hn : 1 ≤ G 14 0) {l : Nat} (hl : l < G 14 0) : Nx P (mL_act_J189 S Hp (P 0 0) (nI l) (nI (G 2 l))) := by
  have w0 := W.1
  have w2 := (W.2.2.1 l (by omega)).1
  unfold mL_act_J189
  rw [show (3 : Int32) = nI 3 from rfl]
  by_cases e : G 2 l = 3
  · refine ⟨S, G, Hp, P, I, W, h, hn, rfl, ?_⟩
    rw [le_t (by omega) (by omega)]
    unfold mL_act_J201 mL_act_J214
    rw [if_pos (show (-1 : Int32) < 0 by decide), x_proofX I W hl e, xbC_x, if_pos rfl]
    exact gz_1
  · obtain ⟨S1, x1, x2, x3⟩ := x_proof I W hl (by omega)
    obtain ⟨Hp1, P1, a1, a2, a3, a4, a5⟩ := S_proof h W hl (by omega)
    refine ⟨S1, _, Hp1, P1, x1, x2, a1, by rw [gs_n (by omega), gs_n (by omega)]; exact hn, a2, ?_⟩
    rw [le_f (by omega) (by omega)]
    unfold mL_act_J201 mL_act_J214
    rw [if_neg (nI_p0 (by omega)), a5, hcb_s mem0 h.1.os, x3, xbC_s, if_pos rfl]
    exact gz_1
theorem mvs_14 : ∀ {m j : Nat} {G : GS}, mvs G j m 14 = G 14 := mvs_n (Or.inr (by omega))
theorem A_strike (I : SI S G) (W : WG G) (h : HL Hp P G) (hn : 1 ≤ G 14 0) {l p : Nat} (hl : l < G 14 0) (hp : p < G 2 l) : Nx P (hcb [] [P 0 0] Hp (mS_strike Hp (P 0 0) (nI l) (nI p)) fun _ Hp277 => xbW (mX_strike S (nI l) (nI p)) fun x285 S285 => if (x285 : Int32) = (nI (G 2 l) - 1) then gz 1 (some (1, (S285, Hp277))) else gz 0 (some (0, (S285, Hp277)))) := by
  have w0 := W.1
  have w2 := (W.2.2.1 l (by omega)).1
  obtain ⟨e, he⟩ : ∃ e, G 2 l = e + 1 := ⟨G 2 l - 1, by omega⟩
  obtain ⟨S1, x1, x2, x3⟩ := x_strike I W hl he (p := p) (by omega)
  obtain ⟨Hp1, P1, a1, a2, a3, a4, a5⟩ := S_strike h W hl he (p := p) (by omega)
  refine ⟨S1, _, Hp1, P1, x1, x2, a1, by rw [gs_n (by omega), mvs_14]; exact hn, a2, ?_⟩
  rw [a5, hcb_s mem0 h.1.os, x3, xbW_s, he, show (1 : Int32) = nI 1 from rfl, pk_sub (by omega), Nat.add_sub_cancel, if_pos rfl]
  exact gz_1
-- a step is patched or withdrawn
theorem A_403 (I : SI S G) (W : WG G) (h : HL Hp P G) (hn : 1 ≤ G 14 0) {l p k : Nat} (hl : l < G 14 0) (hp : p < G 2 l) (hk : k < G 3 (3 * l + p)) (x : Int32) : Nx P (mL_act_J403 S Hp x (nI l) (nI p) (P 4 (3 * l + p)) (nI k)) := by
  have w0 := W.1
  have w2 := (W.2.2.1 l (by omega)).1
  have w3 := W.2.2.2.1 (3 * l + p) (by omega)
  obtain ⟨f4, f5, f5', f5'', f6, f6', f7⟩ := W.2.2.2.2 (3 * l + p) (5 * (3 * l + p) + k) (by omega) (by omega) (by omega)
  obtain ⟨e0, e1, e2, e3⟩ := h.1.s hl hp hk
  obtain ⟨y, y1, y2⟩ := below_3 (x >>> (9 &&& 31))
  unfold mL_act_J403
  rw [y2, ob_s]
  by_cases c : y = 0
  · obtain ⟨S1, x1, x2, x3⟩ := x_withdraw I W hl hp hk
    obtain ⟨Hp1, a1, a2, a3⟩ := H_step h hl hp hk (q := 3) (v := 1 - G 7 (5 * (3 * l + p) + k)) (Or.inr rfl)
    refine ⟨S1, _, Hp1, P, x1, x2, a1, by rw [gs_n (by omega)]; exact hn, rfl, ?_⟩
    have V1 := a1.1
    have k1 := V1.k x2 (l := l) (p := p) (k := k) (by rw [gs_n (by omega)]; exact hl) (by rw [gs_n (by omega)]; exact hp) (by rw [gs_n (by omega)]; exact hk)
    have k2 := (V1.s (l := l) (p := p) (k := k) (by rw [gs_n (by omega)]; exact hl) (by rw [gs_n (by omega)]; exact hp) (by rw [gs_n (by omega)]; exact hk)).2.2.2
    rw [gs_s, uN_s] at k2
    rw [if_pos (show nI y = (0 : Int32) by rw [c]; rfl), h.1.k W hl hp hk, ob_s, ob_s, show (3 : Int32) = nI 3 from rfl, e3, ob_s, show (1 : Int32) = nI 1 from rfl, pk_sub (by omega), a3, x3, xbW_s, k1, ob_s, k2, ob_s]
    by_cases q : G 7 (5 * (3 * l + p) + k) = 0
    · rw [q, eq_t rfl, eq_t rfl]
      exact gz_1
    · rw [show G 7 (5 * (3 * l + p) + k) = 1 by omega, eq_f (by omega) (by omega) (by omega), if_pos (show nI (1 - 1) = (0 : Int32) from rfl)]
      exact gz_1
  · obtain ⟨w, w1, w2'⟩ := below_9 (x >>> (4 &&& 31))
    rw [if_neg (nI_n0 c (by omega)), w2', ob_s, h.1.k W hl hp hk, ob_s, ob_s, show (2 : Int32) = nI 2 from rfl, e2, ob_s, ob_s, show (1 : Int32) + nI w = nI (1 + w) from n_add 1 w]
    by_cases q : G 6 (5 * (3 * l + p) + k) = 0
    · rw [q, if_pos (show nI 0 = (0 : Int32) from rfl)]
      refine ⟨S, G, Hp, P, I, W, h, hn, rfl, ?_⟩
      unfold mL_act_J505 mL_act_J521
      rw [if_pos (show (-1 : Int32) < 0 by decide), x_patchX I W hl hp hk (by omega) (by omega) q, xbC_x, if_pos rfl]
      exact gz_1
    · obtain ⟨S1, x1, x2, x3⟩ := x_patch I W hl hp hk (w := 1 + w) (by omega) (by omega) q
      obtain ⟨Hp1, a1, a2, a3⟩ := H_step h hl hp hk (q := 2) (v := G 6 (5 * (3 * l + p) + k) - (1 + w)) (Or.inl rfl)
      refine ⟨S1, _, Hp1, P, x1, x2, a1, by rw [gs_n (by omega)]; exact hn, rfl, ?_⟩
      rw [if_neg (nI_n0 q (by omega)), show (0 : Int32) = nI 0 from rfl, lmaxL (by omega) (by omega)]
      unfold mL_act_J505 mL_act_J521
      rw [if_neg (nI_p0 (by omega)), h.1.k W hl hp hk, ob_s, show (2 : Int32) = nI 2 from rfl, a3, x3, xbC_s, if_pos rfl]
      exact gz_1
-- which step: the last debt still owed, perhaps
theorem A_354 {l p : Nat} (W : WG G) (V : HV Hp P G) (hl : l < G 14 0) (hp : p < G 2 l) (x : Int32) : ∀ m i N, i + m = G 3 (3 * l + p) → m < N → ∀ k, k < G 3 (3 * l + p) → ∃ k', k' < G 3 (3 * l + p) ∧ itr2 (mL_act_F354 S Hp x (nI l) (nI p) (P 4 (3 * l + p))) N (nI k) (nI i) = mL_act_J403 S Hp x (nI l) (nI p) (P 4 (3 * l + p)) (nI k') := by
  have w0 := W.1
  have w2 := (W.2.2.1 l (by omega)).1
  have w3 := W.2.2.2.1 (3 * l + p) (by omega)
  intro m
  induction m with
  | zero =>
    intro i N hm hN k hk
    match N, hN with
    | N + 1, _ =>
      refine ⟨k, hk, ?_⟩
      show mL_act_F354 _ _ _ _ _ _ _ _ _ = _
      unfold mL_act_F354
      rw [V.ns hl hp, ob_s, le_t (by omega) (by omega)]
  | succ m ih =>
    intro i N hm hN k hk
    match N, hN with
    | N + 1, hN =>
      obtain ⟨f4, f5, f5', f5'', f6, f6', f7⟩ := W.2.2.2.2 (3 * l + p) (5 * (3 * l + p) + i) (by omega) (by omega) (by omega)
      obtain ⟨e0, e1, e2, e3⟩ := V.s hl hp (k := i) (by omega)
      obtain ⟨y, y1, y2⟩ := below_4 (x >>> (5 &&& 31))
      have go := fun k hk => ih (i + 1) N (by omega) (by omega) k hk
      show ∃ k', k' < G 3 (3 * l + p) ∧ mL_act_F354 S Hp x (nI l) (nI p) (P 4 (3 * l + p)) (itr2 (mL_act_F354 S Hp x (nI l) (nI p) (P 4 (3 * l + p))) N) (nI k) (nI i) = _
      generalize hI : itr2 (mL_act_F354 S Hp x (nI l) (nI p) (P 4 (3 * l + p))) N = J at go ⊢
      unfold mL_act_F354
      rw [V.ns hl hp, ob_s, le_f (by omega) (by omega), y2, ob_s]
      by_cases c : y = 0
      · exact ⟨k, hk, if_pos (nI_le (b := 0) (by omega) (by omega))⟩
      · rw [if_neg (show ¬ nI y ≤ (0 : Int32) from nI_ge (a := 0) (by omega) (by omega)), V.k W hl hp (by omega), ob_s, show (0 : Int32) = nI 0 from rfl, e0, ob_s, show (2 : Int32) = nI 2 from rfl, n_add1]
        by_cases c2 : G 4 (5 * (3 * l + p) + i) = 2
        · rw [eq_t c2, ob_s, e2, ob_s]
          by_cases c6 : G 6 (5 * (3 * l + p) + i) = 0
          · rw [le_t (by omega) (by omega)]
            exact go k hk
          · rw [le_f (by omega) (by omega)]
            exact go i (by omega)
        · rw [eq_f c2 (by omega) (by omega)]
          exact go k hk
theorem A_301 (I : SI S G) (W : WG G) (h : HL Hp P G) (hn : 1 ≤ G 14 0) {l : Nat} (hl : l < G 14 0) (x : Int32) : Nx P (mL_act_J301 S Hp (P 0 0) x (nI l) (nI (G 2 l))) := by
  have w0 := W.1
  have w2 := (W.2.2.1 l (by omega)).1
  unfold mL_act_J301
  by_cases c : G 2 l = 0
  · rw [if_pos (show nI (G 2 l) = (0 : Int32) by rw [c]; rfl)]
    exact Nx_no I W h hn
  · obtain ⟨p, hp, p2⟩ := below (x >>> (8 &&& 31)) c (by omega)
    have w3 := W.2.2.2.1 (3 * l + p) (by omega)
    rw [if_neg (nI_n0 c (by omega)), p2, ob_s, h.1.g1, ob_s, h.1.l W hl, ob_s, h.1.p W hl hp, ob_s, h.1.ns hl hp, ob_s]
    by_cases c3 : G 3 (3 * l + p) = 0
    · rw [if_pos (show nI (G 3 (3 * l + p)) = (0 : Int32) by rw [c3]; rfl)]
      exact Nx_no I W h hn
    · obtain ⟨k, hk, k2⟩ := below (x >>> (6 &&& 31)) c3 (by omega)
      obtain ⟨k', hk', e⟩ := A_354 (S := S) W h.1 hl hp x (G 3 (3 * l + p)) 0 16 (by omega) (by omega) k hk
      rw [if_neg (nI_n0 c3 (by omega)), ob_s, k2, ob_s, show (0 : Int32) = nI 0 from rfl, e]
      exact A_403 I W h hn hl hp hk' x
end SACT
