section XSPEC
variable {S : XS} {G : GS}
theorem x_take (I : SI S G) (W : WG G) {a b : Nat} (ha : a < 5) (hb : b ≤ 1) : ∃ S1, SI S1 (gs G 1 a b) ∧ WG (gs G 1 a b) ∧ mX_take S (nI a) (nI b) = some (.inl (nI (G 1 a), S1)) := by
  have c1 := I.1.2.1 a ha
  have w1 := W.2.1 a ha
  obtain ⟨S1, k1, k2, k3⟩ := X_settle (Cp_gs (k := 1) (i := a) (v := b) (by omega) I.1) (WG_gs1 W hb)
  refine ⟨S1, k1, WG_gs1 W hb, ?_⟩
  unfold mX_take
  rw [show (1 : Int32) = nI 1 from rfl, X_reqA_in ha, tb_s, rdA_n (by omega) (by omega), ob_s, wrS_n (by omega) (by omega), nI_cl (by omega), and1 hb, k3, rb_s, c1]
  rcases (show G 1 a = 0 ∨ G 1 a = 1 by omega) with q | q <;> rw [q]
  · exact gz_0
  · exact gz_1
theorem x_lemma (I : SI S G) (W : WG G) (h : G 14 0 < 12) : ∃ S1, SI S1 (gs G 14 0 (G 14 0 + 1)) ∧ WG (gs G 14 0 (G 14 0 + 1)) ∧ mX_lemma S = some (.inl (nI (G 14 0), S1)) := by
  obtain ⟨S1, k1, k2, k3⟩ := X_settle (Cp_n (v := G 14 0 + 1) I.1) (WG_n W h)
  refine ⟨S1, k1, WG_n W h, ?_⟩
  unfold mX_lemma
  rw [show (1 : Int32) = nI 1 from rfl, show (12 : Int32) = nI 12 from rfl, I.1.1, n_add, lt_t (by omega) (by omega), st_s, k3, rb_s, k1.1.1, gs_s, uN_s, pk_sub (by omega), Nat.add_sub_cancel]
theorem x_lemmaX (I : SI S G) (h : G 14 0 = 12) : mX_lemma S = some (.inr 2) := by
  unfold mX_lemma
  rw [show (12 : Int32) = nI 12 from rfl, I.1.1, h, lt_f (by omega) (by omega)]
theorem x_proof (I : SI S G) (W : WG G) {l : Nat} (hl : l < G 14 0) (h : G 2 l < 3) : ∃ S1, SI S1 (gs (gs G 3 (3 * l + G 2 l) 0) 2 l (G 2 l + 1)) ∧ WG (gs (gs G 3 (3 * l + G 2 l) 0) 2 l (G 2 l + 1)) ∧ mX_proof S (nI l) = some (.inl (nI (G 2 l), S1)) := by
  have w0 := W.1
  have c2 := I.1.2.2.1 l (by omega)
  have hj : 3 * l + G 2 l < 36 := by omega
  have Cx := Cp_gs (k := 2) (i := l) (v := G 2 l + 1) (by omega) (Cp_gs3 (j := 3 * l + G 2 l) (v := 0) I.1 (fun i h1 h2 => by omega))
  have Wm : WG (gs (gs G 3 (3 * l + G 2 l) 0) 2 l (G 2 l + 1)) := WG_gs2 (WG_gs3 W (by omega) (fun i h1 h2 => by omega)) (by rw [gs_n (by omega)]; exact hl) (by omega)
  obtain ⟨S1, k1, k2, k3⟩ := X_settle Cx Wm
  refine ⟨S1, k1, Wm, ?_⟩
  unfold mX_proof
  rw [show (0 : Int32) = nI 0 from rfl, show (1 : Int32) = nI 1 from rfl, show (3 : Int32) = nI 3 from rfl, X_reqL_in I.1 W hl, tb_s, rdA_n (by omega) (by omega), ob_s, c2, lt_t (by omega) (by omega), X_slotOf, ob_s, wrS_n hj (by omega), nI_cl (by omega), wrS_n (by omega) (by omega), nI_cl (by omega), n_add, k3, rb_s]
theorem x_proofX (I : SI S G) (W : WG G) {l : Nat} (hl : l < G 14 0) (h : G 2 l = 3) : mX_proof S (nI l) = some (.inr 2) := by
  have w0 := W.1
  have c2 := I.1.2.2.1 l (by omega)
  unfold mX_proof
  rw [show (3 : Int32) = nI 3 from rfl, X_reqL_in I.1 W hl, tb_s, rdA_n (by omega) (by omega), ob_s, c2, h, lt_f (by omega) (by omega)]
/-- what may be cited -/
def okY (G : GS) (c y : Nat) : Prop := (c = 0 ∧ y < 5) ∨ (c = 1 ∧ y < G 14 0) ∨ (c = 2 ∧ 1 ≤ y ∧ y ≤ 9)
theorem okY.C (W : WG G) {c y : Nat} (h : okY G c y) : okC G c y := by
  have w0 := W.1
  unfold okC
  rcases h with ⟨h1, h2⟩ | ⟨h1, h2⟩ | ⟨h1, h2, h3⟩
  · exact ⟨by omega, fun _ => h2, fun h => by omega, by omega, fun h => by omega⟩
  · exact ⟨by omega, fun h => by omega, fun _ => h2, by omega, fun h => by omega⟩
  · exact ⟨by omega, fun h => by omega, fun h => by omega, by omega, fun _ => h3⟩
theorem okY.req (I : SI S G) (W : WG G) {c y : Nat} (h : okY G c y) : mX_requireCitable S (nI c) (nI y) = some (.inl 0) := by
  unfold mX_requireCitable
  rcases h with ⟨rfl, h2⟩ | ⟨rfl, h2⟩ | ⟨rfl, h2, h3⟩
  · rw [if_neg (show ¬ nI 0 < (0 : Int32) by decide), if_pos (show nI 0 ≤ (2 : Int32) by decide), if_pos (show nI 0 = (0 : Int32) from rfl), X_reqA_in h2, tb_s]
  · rw [if_neg (show ¬ nI 1 < (0 : Int32) by decide), if_pos (show nI 1 ≤ (2 : Int32) by decide), if_neg (show ¬ nI 1 = (0 : Int32) by decide), if_pos (show nI 1 = (1 : Int32) from rfl), X_reqL_in I.1 W h2, tb_s]
  · rw [if_neg (show ¬ nI 2 < (0 : Int32) by decide), if_pos (show nI 2 ≤ (2 : Int32) by decide), if_neg (show ¬ nI 2 = (0 : Int32) by decide), if_neg (show ¬ nI 2 = (1 : Int32) by decide), show (1 : Int32) = nI 1 from rfl, show (9 : Int32) = nI 9 from rfl, lt_f h2 (by omega), le_t h3 (by omega)]
theorem x_cite (I : SI S G) (W : WG G) {l p c y : Nat} (hl : l < G 14 0) (hp : p < G 2 l) (ok : okY G c y) (h5 : G 3 (3 * l + p) < 5) : ∃ S1, SI S1 (gc G (3 * l + p) c y (if c = 2 then y else 0)) ∧ WG (gc G (3 * l + p) c y (if c = 2 then y else 0)) ∧ mX_cite S (nI l) (nI p) (nI c) (nI y) = some (.inl (nI (G 3 (3 * l + p) + 1), S1)) := by
  have w0 := W.1
  have w2 := (W.2.2.1 l (by omega)).1
  obtain ⟨S1, h1, h2⟩ := X_put I W hl hp (ok.C W) (ok.req I W) h5
  exact ⟨S1, h1, WG_gc W (by omega) h5 (ok.C W), h2⟩
theorem x_citeX (I : SI S G) (W : WG G) {l p c y : Nat} (hl : l < G 14 0) (hp : p < G 2 l) (ok : okY G c y) (h5 : G 3 (3 * l + p) = 5) : mX_cite S (nI l) (nI p) (nI c) (nI y) = some (.inr 2) := X_full I W hl hp (ok.req I W) h5
theorem x_withdraw (I : SI S G) (W : WG G) {l p k : Nat} (hl : l < G 14 0) (hp : p < G 2 l) (hk : k < G 3 (3 * l + p)) : ∃ S1, SI S1 (gs G 7 (5 * (3 * l + p) + k) (1 - G 7 (5 * (3 * l + p) + k))) ∧ WG (gs G 7 (5 * (3 * l + p) + k) (1 - G 7 (5 * (3 * l + p) + k))) ∧ mX_withdraw S (nI l) (nI p) (nI k) = some (.inl (nI (1 - G 7 (5 * (3 * l + p) + k)), S1)) := by
  have w0 := W.1
  have w2 := (W.2.2.1 l (by omega)).1
  have w3 := W.2.2.2.1 (3 * l + p) (by omega)
  have hi : 5 * (3 * l + p) + k < 180 := by omega
  obtain ⟨e4, e5, e6, e7⟩ := I.1.2.2.2.2 (3 * l + p) (5 * (3 * l + p) + k) (by omega) (by omega) (by omega)
  have f7 := (W.2.2.2.2 (3 * l + p) (5 * (3 * l + p) + k) (by omega) (by omega) (by omega)).2.2.2.2.2.2
  obtain ⟨S1, k1, k2, k3⟩ := X_settle (Cp_gs (k := 7) (i := 5 * (3 * l + p) + k) (v := 1 - G 7 (5 * (3 * l + p) + k)) (by omega) I.1) (WG_gs7 W (by omega))
  have k4 : S1 7 (5 * (3 * l + p) + k) = nI (1 - G 7 (5 * (3 * l + p) + k)) := by
    rw [k2 7 (by omega), sU_s]
    exact if_pos rfl
  refine ⟨S1, k1, WG_gs7 W (by omega), ?_⟩
  unfold mX_withdraw
  rw [show (0 : Int32) = nI 0 from rfl, show (1 : Int32) = nI 1 from rfl, X_reqS_in I.1 W hl hp hk, tb_s, X_stepAt, ob_s, rdA_n hi (by omega), ob_s, e7]
  by_cases q : G 7 (5 * (3 * l + p) + k) = 0
  · rw [q] at k3 k4 ⊢
    rw [if_pos rfl, wrS_n hi (by omega), nI_cl (by omega), show nI 1 &&& nI 1 = nI (1 - 0) by decide, k3, rb_s, rdA_n hi (by omega), ob_s, k4]
    exact gz_1
  · have q1 : G 7 (5 * (3 * l + p) + k) = 1 := by omega
    rw [q1] at k3 k4 ⊢
    rw [eq_f (by omega) (by omega) (by omega), wrS_n hi (by omega), nI_cl (by omega), show nI 0 &&& nI 1 = nI (1 - 1) by decide, k3, rb_s, rdA_n hi (by omega), ob_s, k4]
    exact gz_0
theorem x_patch (I : SI S G) (W : WG G) {l p k w : Nat} (hl : l < G 14 0) (hp : p < G 2 l) (hk : k < G 3 (3 * l + p)) (hw1 : 1 ≤ w) (hw9 : w ≤ 9) (q : G 6 (5 * (3 * l + p) + k) ≠ 0) : ∃ S1, SI S1 (gs G 6 (5 * (3 * l + p) + k) (G 6 (5 * (3 * l + p) + k) - w)) ∧ WG (gs G 6 (5 * (3 * l + p) + k) (G 6 (5 * (3 * l + p) + k) - w)) ∧ mX_patch S (nI l) (nI p) (nI k) (nI w) = some (.inl (nI (G 6 (5 * (3 * l + p) + k) - w), S1)) := by
  have w0 := W.1
  have w2 := (W.2.2.1 l (by omega)).1
  have w3 := W.2.2.2.1 (3 * l + p) (by omega)
  have hi : 5 * (3 * l + p) + k < 180 := by omega
  obtain ⟨e4, e5, e6, e7⟩ := I.1.2.2.2.2 (3 * l + p) (5 * (3 * l + p) + k) (by omega) (by omega) (by omega)
  obtain ⟨f4, f5, f5', f5'', f6, f6', f7⟩ := W.2.2.2.2 (3 * l + p) (5 * (3 * l + p) + k) (by omega) (by omega) (by omega)
  have Wm : WG (gs G 6 (5 * (3 * l + p) + k) (G 6 (5 * (3 * l + p) + k) - w)) := WG_gs6 W (by omega) (fun h => by have := f6' h; omega)
  obtain ⟨S1, k1, k2, k3⟩ := X_settle (Cp_gs (k := 6) (i := 5 * (3 * l + p) + k) (v := G 6 (5 * (3 * l + p) + k) - w) (by omega) I.1) Wm
  have k4 : S1 6 (5 * (3 * l + p) + k) = nI (G 6 (5 * (3 * l + p) + k) - w) := by
    rw [k2 6 (by omega), sU_s]
    exact if_pos rfl
  refine ⟨S1, k1, Wm, ?_⟩
  unfold mX_patch
  rw [show (0 : Int32) = nI 0 from rfl, show (1 : Int32) = nI 1 from rfl, show (9 : Int32) = nI 9 from rfl, X_reqS_in I.1 W hl hp hk, tb_s, lt_f hw1 (by omega), le_t hw9 (by omega), X_stepAt, ob_s, rdA_n hi (by omega), ob_s, e6, eq_f q (by omega) (by omega), ob_s, lmaxR (by omega) (by omega), wrS_n hi (by omega), nI_cl (by omega), k3, rb_s, rdA_n hi (by omega), ob_s, k4]
theorem x_patchX (I : SI S G) (W : WG G) {l p k w : Nat} (hl : l < G 14 0) (hp : p < G 2 l) (hk : k < G 3 (3 * l + p)) (hw1 : 1 ≤ w) (hw9 : w ≤ 9) (q : G 6 (5 * (3 * l + p) + k) = 0) : mX_patch S (nI l) (nI p) (nI k) (nI w) = some (.inr 2) := by
  have w0 := W.1
  have w2 := (W.2.2.1 l (by omega)).1
  have w3 := W.2.2.2.1 (3 * l + p) (by omega)
  have hi : 5 * (3 * l + p) + k < 180 := by omega
  obtain ⟨e4, e5, e6, e7⟩ := I.1.2.2.2.2 (3 * l + p) (5 * (3 * l + p) + k) (by omega) (by omega) (by omega)
  unfold mX_patch
  rw [show (0 : Int32) = nI 0 from rfl, show (1 : Int32) = nI 1 from rfl, show (9 : Int32) = nI 9 from rfl, X_reqS_in I.1 W hl hp hk, tb_s, lt_f hw1 (by omega), le_t hw9 (by omega), X_stepAt, ob_s, rdA_n hi (by omega), ob_s, e6, q, if_pos rfl]
theorem x_strike (I : SI S G) (W : WG G) {l p e : Nat} (hl : l < G 14 0) (he : G 2 l = e + 1) (hp : p < e + 1) : ∃ S1, SI S1 (gs (mvs G (3 * l + p) (e - p)) 2 l e) ∧ WG (gs (mvs G (3 * l + p) (e - p)) 2 l e) ∧ mX_strike S (nI l) (nI p) = some (.inl (nI e, S1)) := by
  have w0 := W.1
  have c2 := I.1.2.2.1 l (by omega)
  have w2 := (W.2.2.1 l (by omega)).1
  have Cx := Cp_gs (k := 2) (i := l) (v := e) (by omega) I.1
  have Wx : WG (gs G 2 l e) := WG_gs2 W hl (by omega)
  obtain ⟨S1, a1, a2, a3⟩ := X_strikeL (l := l) (e := e) (by omega) (by omega) (e - p) p FUEL _ (by omega) (by omega) (fuel_gt (by omega)) (gs G 2 l e) Cx Wx (by rw [gs_s, uN_s])
  rw [mvs_gs] at a1 a2
  refine ⟨S1, a1, a2, ?_⟩
  unfold mX_strike
  rw [show (1 : Int32) = nI 1 from rfl, X_reqP_in I.1 W hl (by omega), tb_s, rdA_n (by omega) (by omega), ob_s, c2, he, pk_sub (by omega), show e + 1 - 1 = e by omega, wrS_n (by omega) (by omega), nI_cl (by omega)]
  exact a3
theorem x_told (I : SI S G) (W : WG G) {l q : Nat} (hl : l < G 14 0) (hq : q < 7) : mX_told S (nI l) (nI q) = some (.inl (tv G l q)) := by
  unfold mX_told
  rw [show (7 : Int32) = nI 7 from rfl, X_reqL_in I.1 W hl, tb_s, X_ask_in hq (by omega), tb_s, X_tells I W hl hq, ob_s]
theorem x_step (I : SI S G) (W : WG G) {l p k q : Nat} (hl : l < G 14 0) (hp : p < G 2 l) (hk : k < G 3 (3 * l + p)) (hq : q < 4) : mX_step S (nI l) (nI p) (nI k) (nI q) = some (.inl (stv G (5 * (3 * l + p) + k) q)) := by
  have w0 := W.1
  have w2 := (W.2.2.1 l (by omega)).1
  unfold mX_step
  rw [show (4 : Int32) = nI 4 from rfl, X_reqS_in I.1 W hl hp hk, tb_s, X_ask_in hq (by omega), tb_s, X_stepAt, ob_s, X_stepTells I.1 W (j := 3 * l + p) (by omega) (by omega) (by omega) hq, ob_s]
theorem x_count (I : SI S G) (W : WG G) {q : Nat} (hq : q < 7) : mX_count S (nI q) = some (.inl (nI (cv G q))) := by
  unfold mX_count
  rw [show (7 : Int32) = nI 7 from rfl, X_ask_in hq (by omega), tb_s, X_countOf I W hq, ob_s]
theorem x_best (I : SI S G) (W : WG G) {l : Nat} (hl : l < G 14 0) : mX_best S (nI l) = some (.inl (bst G l 0 (G 2 l) mone 9999)) := by
  unfold mX_best
  rw [show (-1 : Int32) = mone from rfl, show (0 : Int32) = nI 0 from rfl, show (9999 : Int32) = nI 9999 from rfl, X_reqL_in I.1 W hl, tb_s, X_bestL I W hl]
theorem x_without (I : SI S G) (W : WG G) {l : Nat} (hl : l < G 14 0) : ∃ S1, SI S1 G ∧ mX_without S (nI l) = some (.inl (nI (cnt G (nI l)), S1)) := by
  obtain ⟨S1, a1, a2, a3⟩ := X_prove I.1 W (kk := 13) (by omega) (b := nI l)
  refine ⟨S1, I.ro13 a1, ?_⟩
  unfold mX_without
  rw [X_reqL_in I.1 W hl, tb_s, a3, rb_s]
theorem x_needs (I : SI S G) (W : WG G) {l a : Nat} (hl : l < G 14 0) (ha : a < 5) : ∃ S1, SI S1 G ∧ mX_needs S (nI l) (nI a) = some (.inl (nI (nv G l a), S1)) := by
  obtain ⟨S1, a1, a2⟩ := X_needs2 I W hl ha
  exact ⟨S1, I.ro13 a1, a2⟩
theorem x_advise (I : SI S G) (W : WG G) : ∃ S1, SI S1 G ∧ mX_advise S = some ((ad3 G 0 (G 14 0) (mone, cnt G mone)).1, S1) := by
  obtain ⟨S1, a1, a2⟩ := X_advise I W
  exact ⟨S1, I.ro13 a1, a2⟩
end XSPEC
