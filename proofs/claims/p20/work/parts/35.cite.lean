section CITE
variable {S T : XS} {G : GS}
theorem gsx {k i v kk x : Nat} (h : x ≠ i) : gs G k i v kk x = G kk x := by
  by_cases e : kk = k
  · subst e; rw [gs_s, uN_n h]
  · rw [gs_n e]
theorem WG_dead (W : WG G) {k i j v : Nat} (hk : 4 ≤ k ∧ k ≤ 7) (hj : j < 36) (hi : i = 5 * j + G 3 j) (h5 : G 3 j < 5) : WG (gs G k i v) := by
  obtain ⟨w0, w1, w2, w3, w7⟩ := W
  refine ⟨?_, ?_, ?_, ?_, ?_⟩
  · rw [gs_n (by omega)]; exact w0
  · rw [gs_n (by omega)]; exact w1
  · rw [gs_n (by omega), gs_n (by omega)]; exact w2
  · rw [gs_n (by omega)]; exact w3
  · rw [gs_n (show 3 ≠ k by omega), gs_n (show 14 ≠ k by omega)]
    intro j' x hj' h1 h2
    have h3 := w3 j' hj'
    have hx : x ≠ i := by
      by_cases e : j' = j
      · rw [e] at h2; omega
      · omega
    rw [gsx hx, gsx hx, gsx hx, gsx hx]
    exact w7 j' x hj' h1 h2
/-- the lodge with one step more -/
def g4 (G : GS) (i c y w : Nat) : GS := gs (gs (gs (gs G 4 i c) 5 i y) 6 i w) 7 i 0
def gc (G : GS) (j c y w : Nat) : GS := gs (g4 G (5 * j + G 3 j) c y w) 3 j (G 3 j + 1)
def okC (G : GS) (c y : Nat) : Prop := c ≤ 2 ∧ (c = 0 → y < 5) ∧ (c = 1 → y < G 14 0) ∧ y ≤ 12 ∧ (c = 2 → y ≤ 9)
theorem g4_3 {i c y w : Nat} : g4 G i c y w 3 = G 3 := by
  unfold g4
  rw [gs_n (by omega), gs_n (by omega), gs_n (by omega), gs_n (by omega)]
theorem WG_g4 (W : WG G) {j c y w : Nat} (hj : j < 36) (h5 : G 3 j < 5) : WG (g4 G (5 * j + G 3 j) c y w) := by
  unfold g4
  have h1 := WG_dead W (k := 4) (v := c) (by omega) hj rfl h5
  have e1 : gs G 4 (5 * j + G 3 j) c 3 = G 3 := gs_n (by omega)
  have h2 := WG_dead h1 (k := 5) (i := 5 * j + G 3 j) (v := y) (by omega) hj (by rw [e1]) (by rw [e1]; exact h5)
  have e2 : gs (gs G 4 (5 * j + G 3 j) c) 5 (5 * j + G 3 j) y 3 = G 3 := (gs_n (by omega)).trans e1
  have h3 := WG_dead h2 (k := 6) (i := 5 * j + G 3 j) (v := w) (by omega) hj (by rw [e2]) (by rw [e2]; exact h5)
  have e3 : gs (gs (gs G 4 (5 * j + G 3 j) c) 5 (5 * j + G 3 j) y) 6 (5 * j + G 3 j) w 3 = G 3 := (gs_n (by omega)).trans e2
  exact WG_dead h3 (k := 7) (i := 5 * j + G 3 j) (v := 0) (by omega) hj (by rw [e3]) (by rw [e3]; exact h5)
theorem g4_at {i c y w : Nat} : g4 G i c y w 4 i = c ∧ g4 G i c y w 5 i = y ∧ g4 G i c y w 6 i = w ∧ g4 G i c y w 7 i = 0 ∧ g4 G i c y w 14 0 = G 14 0 := by
  unfold g4
  refine ⟨?_, ?_, ?_, ?_, ?_⟩
  · rw [gs_n (by omega), gs_n (by omega), gs_n (by omega), gs_s, uN_s]
  · rw [gs_n (by omega), gs_n (by omega), gs_s, uN_s]
  · rw [gs_n (by omega), gs_s, uN_s]
  · rw [gs_s, uN_s]
  · rw [gs_n (by omega), gs_n (by omega), gs_n (by omega), gs_n (by omega)]
theorem WG_gc (W : WG G) {j c y : Nat} (hj : j < 36) (h5 : G 3 j < 5) (ok : okC G c y) : WG (gc G j c y (if c = 2 then y else 0)) := by
  have W4 := WG_g4 W (c := c) (y := y) (w := if c = 2 then y else 0) hj h5
  refine WG_gs3 W4 (by omega) fun x h1 h2 => ?_
  by_cases e : x = 5 * j + G 3 j
  · obtain ⟨a4, a5, a6, a7, a14⟩ := g4_at (G := G) (i := 5 * j + G 3 j) (c := c) (y := y) (w := if c = 2 then y else 0)
    obtain ⟨o1, o2, o3, o4, o5⟩ := ok
    unfold okE
    rw [e, a4, a5, a6, a7, a14]
    refine ⟨o1, o2, o3, o4, ?_, ?_, by omega⟩
    · by_cases q : c = 2
      · rw [if_pos q]; exact o5 q
      · rw [if_neg q]; omega
    · intro q; rw [if_neg q]
  · exact W4.2.2.2.2 j x hj h1 (by rw [g4_3]; omega)
/-- a state with one step more -/
def s4 (S : XS) (i : Nat) (c y w : Int32) : XS := sU (sU (sU (sU S 4 (upd (S 4) i c)) 5 (upd (sU S 4 (upd (S 4) i c) 5) i y)) 6 (upd (sU (sU S 4 (upd (S 4) i c)) 5 (upd (sU S 4 (upd (S 4) i c) 5) i y) 6) i w)) 7 (upd (sU (sU (sU S 4 (upd (S 4) i c)) 5 (upd (sU S 4 (upd (S 4) i c) 5) i y)) 6 (upd (sU (sU S 4 (upd (S 4) i c)) 5 (upd (sU S 4 (upd (S 4) i c) 5) i y) 6) i w) 7) i (nI 0))
theorem s4_3 {i : Nat} {c y w : Int32} : s4 S i c y w 3 = S 3 := by
  unfold s4
  rw [sU_n (by omega), sU_n (by omega), sU_n (by omega), sU_n (by omega)]
theorem s4_15 {i : Nat} {c y w : Int32} : s4 S i c y w 15 = S 15 := by
  unfold s4
  rw [sU_n (by omega), sU_n (by omega), sU_n (by omega), sU_n (by omega)]
theorem upd_s {f : Nat → Int32} {i : Nat} {v : Int32} : upd f i v i = v := if_pos rfl
theorem Cp_s4 (C : Cp S G) {i c y w : Nat} : Cp (s4 S i (nI c) (nI y) (nI w)) (g4 G i c y w) := Cp_gs (by omega) (Cp_gs (by omega) (Cp_gs (by omega) (Cp_gs (by omega) C)))
theorem Cp_gc (C : Cp S G) {j c y w : Nat} (hj : j < 36) : Cp (sU (s4 S (5 * j + G 3 j) (nI c) (nI y) (nI w)) 3 (upd (s4 S (5 * j + G 3 j) (nI c) (nI y) (nI w) 3) j (nI (G 3 j + 1)))) (gc G j c y w) := by
  have C4 := Cp_s4 C (i := 5 * j + G 3 j) (c := c) (y := y) (w := w)
  refine Cp_gs3 C4 fun x h1 h2 => ?_
  by_cases e : x = 5 * j + G 3 j
  · obtain ⟨a4, a5, a6, a7, a14⟩ := g4_at (G := G) (i := 5 * j + G 3 j) (c := c) (y := y) (w := w)
    rw [e, a4, a5, a6, a7]
    unfold s4
    refine ⟨?_, ?_, ?_, ?_⟩
    · rw [sU_n (by omega), sU_n (by omega), sU_n (by omega), sU_s, upd_s]
    · rw [sU_n (by omega), sU_n (by omega), sU_s, upd_s]
    · rw [sU_n (by omega), sU_s, upd_s]
    · rw [sU_s, upd_s]
  · exact C4.2.2.2.2 j x hj h1 (by rw [g4_3]; omega)
theorem X_put (I : SI S G) (W : WG G) {l p c y : Nat} (hl : l < G 14 0) (hp : p < G 2 l) (ok : okC G c y) (hc : mX_requireCitable S (nI c) (nI y) = some (.inl 0)) (h5 : G 3 (3 * l + p) < 5) : ∃ S1, SI S1 (gc G (3 * l + p) c y (if c = 2 then y else 0)) ∧ mX_cite S (nI l) (nI p) (nI c) (nI y) = some (.inl (nI (G 3 (3 * l + p) + 1), S1)) := by
  have w0 := W.1
  have w2 := (W.2.2.1 l (by omega)).1
  have hj : 3 * l + p < 36 := by omega
  have c3 := I.1.2.2.2.1 (3 * l + p) hj
  have hi : 5 * (3 * l + p) + G 3 (3 * l + p) < 180 := by omega
  obtain ⟨S1, k1, k2, k3⟩ := X_settle (Cp_gc I.1 (j := 3 * l + p) (c := c) (y := y) (w := if c = 2 then y else 0) hj) (WG_gc W hj h5 ok)
  refine ⟨S1, k1, ?_⟩
  have k4 : S1 3 (3 * l + p) = nI (G 3 (3 * l + p) + 1) := by
    rw [k2 3 (by omega), sU_s, upd_s]
  unfold mX_cite mX_cite_J83
  rw [X_reqP_in I.1 W hl hp, tb_s, hc, tb_s, X_slotOf, ob_s, rdA_n hj (by omega), ob_s, c3, show (5 : Int32) = nI 5 from rfl, lt_t h5 (by omega), X_end I.1 hj, ob_s, wrS_n hi (by omega), wrS_n hi (by omega), nI_cl (by omega), show (0 : Int32) = nI 0 from rfl, show (1 : Int32) = nI 1 from rfl, show (2 : Int32) = nI 2 from rfl, show nI 0 &&& nI 1 = nI 0 by decide]
  by_cases q : c = 2
  · rw [if_pos q] at k3
    rw [if_pos (show nI c = nI 2 by rw [q]), wrS_n hi (by omega), wrS_n hi (by omega), nI_cl (by omega)]
    have e : (rdA (s4 S (5 * (3 * l + p) + G 3 (3 * l + p)) (nI c) (nI y) (nI y) 3) 36 (nI (3 * l + p))) = some (nI (G 3 (3 * l + p))) := by
      rw [rdA_n hj (by omega), s4_3, c3]
    unfold s4 at e k3
    rw [e, ob_s, wrS_n hj (by omega), n_add, k3, rb_s, rdA_n hj (by omega), ob_s, k4]
  · rw [if_neg q] at k3
    obtain ⟨o1, -⟩ := ok
    rw [eq_f q (by omega) (by omega), wrS_n hi (by omega), wrS_n hi (by omega), nI_cl (by omega)]
    have e : (rdA (s4 S (5 * (3 * l + p) + G 3 (3 * l + p)) (nI c) (nI y) (nI 0) 3) 36 (nI (3 * l + p))) = some (nI (G 3 (3 * l + p))) := by
      rw [rdA_n hj (by omega), s4_3, c3]
    unfold s4 at e k3
    rw [e, ob_s, wrS_n hj (by omega), n_add, k3, rb_s, rdA_n hj (by omega), ob_s, k4]
theorem X_full (I : SI S G) (W : WG G) {l p c y : Nat} (hl : l < G 14 0) (hp : p < G 2 l) (hc : mX_requireCitable S (nI c) (nI y) = some (.inl 0)) (h5 : G 3 (3 * l + p) = 5) : mX_cite S (nI l) (nI p) (nI c) (nI y) = some (.inr 2) := by
  have w0 := W.1
  have w2 := (W.2.2.1 l (by omega)).1
  have hj : 3 * l + p < 36 := by omega
  have c3 := I.1.2.2.2.1 (3 * l + p) hj
  unfold mX_cite
  rw [X_reqP_in I.1 W hl hp, tb_s, hc, tb_s, X_slotOf, ob_s, rdA_n hj (by omega), ob_s, c3, show (5 : Int32) = nI 5 from rfl, lt_f (by omega) (by omega)]
end CITE
