section MUTS
variable {S T : XS} {G : GS}
theorem Z.set {i v : Nat} (hv : v ≤ 1) (z : Z S) : Z (sU S 7 (upd (S 7) i (nI v))) := fun x hx => by
  rw [sU_s]
  unfold upd
  by_cases e : x = i
  · rw [if_pos e]
    rcases (show v = 0 ∨ v = 1 by omega) with rfl | rfl
    · exact Or.inl rfl
    · exact Or.inr rfl
  · rw [if_neg e]; exact z x hx
theorem Z.oth {k : Nat} {f : Nat → Int32} (hk : k ≠ 7) (z : Z S) : Z (sU S k f) := fun x hx => by
  rw [sU_n (by omega)]; exact z x hx
/-- one side settles, the other is done -/
theorem Out.good {cd : Nat → Option Int32} {x : Option ((Int32 × XS) ⊕ Nat)} {y : Option (Int32 × XS)} {G' : GS} {v : Int32} {S' T' : XS} (hx : x = some (.inl (v, S'))) (hy : y = some (v, T')) (I : SI S' G') (C : Cp T' G') (W : WG G') (h15 : T' 15 0 = nI 0) (hz : Z T → Z T') : Out cd S T x y := Or.inl ⟨G', v, S', T', hx, hy, I, C, W, h15, hz⟩
theorem one0 : ¬ nI 1 = nI 0 := by decide
theorem o_take (I : SI S G) (C : Cp T G) (W : WG G) (v1 : Int32) {b : Nat} (hb : b ≤ 1) : Out cd_take S T (mX_take S v1 (nI b)) (mM_take T v1 (nI b)) := by
  have F0 : Fl T (sU T 15 (fun _ => nI 0)) 0 := Fl.set
  have F1 : Fl T (sU T 15 (fun _ => nI 1)) 1 := Fl.set
  have C0 := F0.cp C
  unfold mX_take mM_take mM_take_J13
  rw [show (0 : Int32) = nI 0 from rfl, show (1 : Int32) = nI 1 from rfl, st_s, st_s, sU_s, sU_s]
  rcases G_ax v1 with ⟨a, ha, rfl⟩ | ⟨h1, h2⟩
  · have c1 := I.1.2.1 a ha
    have d1 := C0.2.1 a ha
    have w1 := W.2.1 a ha
    obtain ⟨S1, k1, k2, k3⟩ := X_settle (Cp_gs (k := 1) (i := a) (v := b) (by omega) I.1) (WG_gs1 W hb)
    rw [X_reqA_in ha, tb_s, rdA_n (by omega) (by omega), ob_s, wrS_n (by omega) (by omega), nI_cl (by omega), and1 hb, k3, rb_s, M_isAxiom_in ha, ob_s, if_neg (by decide), if_pos (by decide), rdA_n (by omega) (by omega), ob_s, wrS_n (by omega) (by omega), c1, d1]
    have e : ∀ {ρ : Type} (k : Option ρ), gz (nI (G 1 a)) k = k := fun k => by
      rcases (show G 1 a = 0 ∨ G 1 a = 1 by omega) with q | q <;> rw [q]
      · exact gz_0
      · exact gz_1
    rw [e, e]
    exact Out.good rfl rfl k1 (Cp_gs (by omega) C0) (WG_gs1 W hb) (by rw [sU_n (by omega), sU_s]) (fun z => (F0.fz.2 z).oth (by omega))
  · rw [h1, tb_x, h2, ob_s, if_pos rfl, if_neg (by decide), gz_0]
    exact Out.bad I C W rfl rfl (k := 1) (by omega) (by omega) rfl F1
theorem Cp_n {v : Nat} (C : Cp S G) : Cp (sU S 14 (fun _ => nI v)) (gs G 14 0 v) := by
  obtain ⟨c0, c1, c2, c3, c7⟩ := C
  unfold Cp
  rw [gs_s, sU_s]
  repeat rw [gs_n (by omega)]
  repeat rw [sU_n (by omega)]
  exact ⟨by rw [uN_s], c1, c2, c3, c7⟩
theorem WG_n (W : WG G) (hn : G 14 0 < 12) : WG (gs G 14 0 (G 14 0 + 1)) := by
  obtain ⟨w0, w1, w2, w3, w7⟩ := W
  unfold WG
  rw [gs_s, uN_s]
  repeat rw [gs_n (by omega)]
  refine ⟨by omega, w1, fun l hl => ⟨(w2 l hl).1, fun h => (w2 l hl).2 (by omega)⟩, w3, fun j x hj h1 h2 => ?_⟩
  obtain ⟨f4, f5, f5', f5'', f6, f6', f7⟩ := w7 j x hj h1 h2
  exact ⟨f4, f5, fun h => by have := f5' h; omega, f5'', f6, f6', f7⟩
theorem o_lemma (I : SI S G) (C : Cp T G) (W : WG G) : Out cd_lemma S T (mX_lemma S) (mM_lemma T) := by
  have w0 := W.1
  have F0 : Fl T (sU T 15 (fun _ => nI 0)) 0 := Fl.set
  have C0 := F0.cp C
  unfold mX_lemma mM_lemma
  rw [show (0 : Int32) = nI 0 from rfl, show (1 : Int32) = nI 1 from rfl, show (12 : Int32) = nI 12 from rfl, st_s, st_s, I.1.1, C0.1, n_add]
  by_cases q : G 14 0 = 12
  · rw [lt_f (by omega) (by omega), if_pos (by rw [q]), M_no, rb_s]
    exact Out.bad I C W rfl rfl (k := 1) (by omega) (by omega) rfl Fl2
  · rw [lt_t (by omega) (by omega), eq_f q (by omega) (by omega), st_s]
    obtain ⟨S1, k1, k2, k3⟩ := X_settle (Cp_n (v := G 14 0 + 1) I.1) (WG_n W (by omega))
    rw [k3, rb_s, k1.1.1, gs_s, uN_s, sU_s]
    exact Out.good rfl rfl k1 (Cp_n C0) (WG_n W (by omega)) (by rw [sU_n (by omega), sU_s]) (fun z => (F0.fz.2 z).oth (by omega))
theorem Cp_gs3 {j v : Nat} (C : Cp S G) (h : ∀ i, 5 * j ≤ i → i < 5 * j + v → S 4 i = nI (G 4 i) ∧ S 5 i = nI (G 5 i) ∧ S 6 i = nI (G 6 i) ∧ S 7 i = nI (G 7 i)) : Cp (sU S 3 (upd (S 3) j (nI v))) (gs G 3 j v) := by
  obtain ⟨c0, c1, c2, c3, c7⟩ := C
  refine ⟨c_gs c0, fun a ha => c_gs (c1 a ha), fun l hl => c_gs (c2 l hl), fun j' hj => c_gs (c3 j' hj), fun j' x hj h1 h2 => ?_⟩
  rw [gs_s] at h2
  have : S 4 x = nI (G 4 x) ∧ S 5 x = nI (G 5 x) ∧ S 6 x = nI (G 6 x) ∧ S 7 x = nI (G 7 x) := by
    unfold uN at h2
    by_cases e : j' = j
    · rw [if_pos e] at h2; exact h x (by omega) (by omega)
    · rw [if_neg e] at h2; exact c7 j' x hj h1 h2
  exact ⟨c_gs this.1, c_gs this.2.1, c_gs this.2.2.1, c_gs this.2.2.2⟩
def okE (G : GS) (i : Nat) : Prop := G 4 i ≤ 2 ∧ (G 4 i = 0 → G 5 i < 5) ∧ (G 4 i = 1 → G 5 i < G 14 0) ∧ G 5 i ≤ 12 ∧ G 6 i ≤ 9 ∧ (G 4 i ≠ 2 → G 6 i = 0) ∧ G 7 i ≤ 1
theorem WG_gs3 (W : WG G) {j v : Nat} (hv : v ≤ 5) (h : ∀ i, 5 * j ≤ i → i < 5 * j + v → okE G i) : WG (gs G 3 j v) := by
  obtain ⟨w0, w1, w2, w3, w7⟩ := W
  unfold WG
  rw [gs_s]
  repeat rw [gs_n (by omega)]
  refine ⟨w0, w1, w2, fun x hx => ?_, fun j' x hj h1 h2 => ?_⟩
  · unfold uN
    split
    · exact hv
    · exact w3 x hx
  · unfold uN at h2
    by_cases e : j' = j
    · rw [if_pos e] at h2; exact h x (by omega) (by omega)
    · rw [if_neg e] at h2; exact w7 j' x hj h1 h2
theorem WG_gs2 (W : WG G) {l v : Nat} (hl : l < G 14 0) (hv : v ≤ 3) : WG (gs G 2 l v) := by
  obtain ⟨w0, w1, w2, w3, w7⟩ := W
  unfold WG
  rw [gs_s]
  repeat rw [gs_n (by omega)]
  refine ⟨w0, w1, fun x hx => ?_, w3, w7⟩
  unfold uN
  by_cases e : x = l
  · rw [if_pos e]; exact ⟨hv, fun h => by omega⟩
  · rw [if_neg e]; exact w2 x hx
theorem o_proof (I : SI S G) (C : Cp T G) (W : WG G) (v1 : Int32) : Out cd_proof S T (mX_proof S v1) (mM_proof T v1) := by
  have w0 := W.1
  have F0 : Fl T (sU T 15 (fun _ => nI 0)) 0 := Fl.set
  have C0 := F0.cp C
  unfold mX_proof mM_proof
  rw [show (0 : Int32) = nI 0 from rfl, show (1 : Int32) = nI 1 from rfl, show (2 : Int32) = nI 2 from rfl, show (3 : Int32) = nI 3 from rfl, st_s]
  rcases G_lemma I.1 C0 W v1 with ⟨l, hl, rfl⟩ | ⟨h1, h2⟩
  · have c2 := I.1.2.2.1 l (by omega)
    have d2 := C0.2.2.1 l (by omega)
    have w2 := (W.2.2.1 l (by omega)).1
    rw [X_reqL_in I.1 W hl, tb_s, M_isLemma_in C0 W hl, ob_s, if_neg (by decide), rdA_n (by omega) (by omega), ob_s, c2, rdA_n (by omega) (by omega), ob_s, d2]
    by_cases q : G 2 l = 3
    · rw [lt_f (by omega) (by omega), if_pos (by rw [q]), M_no, rb_s]
      exact Out.bad I C W rfl rfl (k := 2) (by omega) (by omega) rfl Fl2
    · have hj : 3 * l + G 2 l < 36 := by omega
      have Cx := Cp_gs (k := 2) (i := l) (v := G 2 l + 1) (by omega) (Cp_gs3 (j := 3 * l + G 2 l) (v := 0) I.1 (fun i h1 h2 => by omega))
      have Cm := Cp_gs (k := 2) (i := l) (v := G 2 l + 1) (by omega) (Cp_gs3 (j := 3 * l + G 2 l) (v := 0) C0 (fun i h1 h2 => by omega))
      have Wm : WG (gs (gs G 3 (3 * l + G 2 l) 0) 2 l (G 2 l + 1)) := WG_gs2 (WG_gs3 W (by omega) (fun i h1 h2 => by omega)) (by rw [gs_n (by omega)]; exact hl) (by omega)
      obtain ⟨S1, k1, k2, k3⟩ := X_settle Cx Wm
      rw [lt_t (by omega) (by omega), eq_f q (by omega) (by omega), X_slotOf, ob_s, wrS_n hj (by omega), nI_cl (by omega), wrS_n (by omega) (by omega), nI_cl (by omega), n_add, k3, rb_s]
      rw [ob_s, n_mul, n_add, wrS_n hj (by omega), nI_cl (by omega), rdA_n (by omega) (by omega), ob_s, show sU (sU T 15 (fun _ => nI 0)) 3 (upd (sU T 15 (fun _ => nI 0) 3) (3 * l + G 2 l) (nI 0)) 2 l = nI (G 2 l) by rw [sU_n (by omega)]; exact d2, n_add, wrS_n (by omega) (by omega), rdA_n (by omega) (by omega), ob_s, sU_s]
      refine Out.good (v := nI (G 2 l)) rfl ?_ k1 Cm Wm ?_ (fun z => ((F0.fz.2 z).oth (by omega)).oth (by omega))
      · rw [show upd (sU (sU T 15 (fun _ => nI 0)) 3 (upd (sU T 15 (fun _ => nI 0) 3) (3 * l + G 2 l) (nI 0)) 2) l (nI (G 2 l + 1)) l = nI (G 2 l + 1) from if_pos rfl, pk_sub (by omega)]
        rfl
      · rw [sU_n (by omega), sU_n (by omega), sU_s]
  · rw [h1, tb_x, h2, ob_s, if_pos rfl, M_no, rb_s]
    exact Out.bad I C W rfl rfl (k := 1) (by omega) (by omega) rfl Fl2
theorem o_withdraw (I : SI S G) (C : Cp T G) (W : WG G) (v1 v2 v3 : Int32) : Out cd_withdraw S T (mX_withdraw S v1 v2 v3) (mM_withdraw T v1 v2 v3) := by
  have w0 := W.1
  have F0 : Fl T (sU T 15 (fun _ => nI 0)) 0 := Fl.set
  have F1 : Fl T (sU T 15 (fun _ => nI 1)) 1 := Fl.set
  have C0 := F0.cp C
  unfold mX_withdraw mM_withdraw mM_withdraw_J16
  rw [show (0 : Int32) = nI 0 from rfl, show (1 : Int32) = nI 1 from rfl, st_s, st_s, sU_s, sU_s]
  rcases G_step I.1 C W v1 v2 v3 with ⟨l, p, k, hl, hp, hk, rfl, rfl, rfl⟩ | ⟨h1, h2⟩
  · have w2 := (W.2.2.1 l (by omega)).1
    have w3 := W.2.2.2.1 (3 * l + p) (by omega)
    have hi : 5 * (3 * l + p) + k < 180 := by omega
    obtain ⟨e4, e5, e6, e7⟩ := I.1.2.2.2.2 (3 * l + p) (5 * (3 * l + p) + k) (by omega) (by omega) (by omega)
    obtain ⟨d4, d5, d6, d7⟩ := C0.2.2.2.2 (3 * l + p) (5 * (3 * l + p) + k) (by omega) (by omega) (by omega)
    have f7 := (W.2.2.2.2 (3 * l + p) (5 * (3 * l + p) + k) (by omega) (by omega) (by omega)).2.2.2.2.2.2
    have go : ∀ v, v ≤ 1 → ∃ S1, SI S1 (gs G 7 (5 * (3 * l + p) + k) v) ∧ mX_settle (sU S 7 (upd (S 7) (5 * (3 * l + p) + k) (nI v))) = some (nI 0, S1) ∧ S1 7 (5 * (3 * l + p) + k) = nI v := fun v hv => by
      obtain ⟨S1, k1, k2, k3⟩ := X_settle (Cp_gs (k := 7) (i := 5 * (3 * l + p) + k) (v := v) (by omega) I.1) (WG_gs7 W hv)
      refine ⟨S1, k1, k3, ?_⟩
      rw [k2 7 (by omega), sU_s]
      exact if_pos rfl
    rw [X_reqS_in I.1 W hl hp hk, tb_s, X_stepAt, ob_s, rdA_n hi (by omega), ob_s, e7, M_isStep_in C W hl hp hk, ob_s, if_neg one0, if_pos (show nI 0 ≤ nI 0 by decide), M_at, ob_s, rdA_n hi (by omega), ob_s, d7]
    by_cases q : G 7 (5 * (3 * l + p) + k) = 0
    · obtain ⟨S1, k1, k3, k4⟩ := go 1 (by omega)
      rw [if_pos (show nI (G 7 (5 * (3 * l + p) + k)) = nI 0 by rw [q]), if_pos (show nI (G 7 (5 * (3 * l + p) + k)) = nI 0 by rw [q]), wrS_n hi (by omega), nI_cl (by omega), show nI 1 &&& nI 1 = nI 1 by decide, k3, rb_s, rdA_n hi (by omega), ob_s, k4, gz_1, wrS_n hi (by omega), rdA_n hi (by omega), ob_s, sU_s]
      exact Out.good (v := nI 1) rfl (by rw [show upd (sU T 15 (fun _ => nI 0) 7) (5 * (3 * l + p) + k) (nI 1) (5 * (3 * l + p) + k) = nI 1 from if_pos rfl]; exact gz_1) k1 (Cp_gs (by omega) C0) (WG_gs7 W (by omega)) (by rw [sU_n (by omega), sU_s]) (fun z => (F0.fz.2 z).set (by omega))
    · obtain ⟨S1, k1, k3, k4⟩ := go 0 (by omega)
      rw [eq_f q (by omega) (by omega), eq_f q (by omega) (by omega), wrS_n hi (by omega), nI_cl (by omega), show nI 0 &&& nI 1 = nI 0 by decide, k3, rb_s, rdA_n hi (by omega), ob_s, k4, gz_0, wrS_n hi (by omega), rdA_n hi (by omega), ob_s, sU_s]
      exact Out.good (v := nI 0) rfl (by rw [show upd (sU T 15 (fun _ => nI 0) 7) (5 * (3 * l + p) + k) (nI 0) (5 * (3 * l + p) + k) = nI 0 from if_pos rfl]; exact gz_0) k1 (Cp_gs (by omega) C0) (WG_gs7 W (by omega)) (by rw [sU_n (by omega), sU_s]) (fun z => (F0.fz.2 z).set (by omega))
  · rw [h1, tb_x, h2, ob_s, if_pos rfl, if_neg (by decide), gz_0]
    exact Out.bad I C W rfl rfl (k := 1) (by omega) (by omega) rfl F1
theorem lmaxR {a b : Nat} (ha : a < 100) (hb : b < 100) : lmax (nI a - nI b) (nI 0) = nI (a - b) := by
  unfold lmax
  by_cases h : b ≤ a
  · rw [pk_sub h, lt_f (by omega) (by omega)]
  · have : nI a - nI b < nI 0 := by
      rw [Int32.lt_iff_toInt_lt, pk_sub_toInt (by omega) (by omega), nI_toInt (by omega)]
      omega
    rw [if_pos this, show a - b = 0 by omega]
theorem lmaxL {a b : Nat} (ha : a < 100) (hb : b < 100) : lmax (nI 0) (nI a - nI b) = nI (a - b) := by
  unfold lmax
  by_cases h : b < a
  · rw [pk_sub (by omega), lt_t (by omega) (by omega)]
  · have : ¬ nI 0 < nI a - nI b := by
      rw [Int32.lt_iff_toInt_lt, pk_sub_toInt (by omega) (by omega), nI_toInt (by omega)]
      omega
    rw [if_neg this, show a - b = 0 by omega]
theorem G_w (v : Int32) : (∃ w, 1 ≤ w ∧ w ≤ 9 ∧ v = nI w) ∨ ((v < nI 1 ∨ ¬ v ≤ nI 9) ∧ mM_isIn v (nI 1) (nI 9) = some (nI 0)) := by
  rcases cls v with h | ⟨j, hj, rfl⟩
  · exact Or.inr ⟨Or.inl (neg_lt h (by omega)), isIn_negA h (by omega)⟩
  · by_cases q : 1 ≤ j ∧ j ≤ 9
    · exact Or.inl ⟨j, q.1, q.2, rfl⟩
    · right
      rw [isIn_n hj (by omega) (by omega), if_neg q]
      refine ⟨?_, rfl⟩
      by_cases q1 : j < 1
      · exact Or.inl (nI_lt q1 (by omega))
      · exact Or.inr (nI_ge (by omega) hj)
theorem w_in {w : Nat} (h1 : 1 ≤ w) (h9 : w ≤ 9) : mM_isIn (nI w) (nI 1) (nI 9) = some (nI 1) := by
  rw [isIn_n (by omega) (by omega) (by omega), if_pos ⟨h1, h9⟩]
theorem o_patch (I : SI S G) (C : Cp T G) (W : WG G) (v1 v2 v3 v4 : Int32) : Out cd_patch S T (mX_patch S v1 v2 v3 v4) (mM_patch T v1 v2 v3 v4) := by
  have w0 := W.1
  have F0 : Fl T (sU T 15 (fun _ => nI 0)) 0 := Fl.set
  have C0 := F0.cp C
  unfold mX_patch mM_patch
  rw [show (0 : Int32) = nI 0 from rfl, show (1 : Int32) = nI 1 from rfl, show (9 : Int32) = nI 9 from rfl, show (2 : Int32) = nI 2 from rfl, show (3 : Int32) = nI 3 from rfl, st_s]
  rcases G_step I.1 C0 W v1 v2 v3 with ⟨l, p, k, hl, hp, hk, rfl, rfl, rfl⟩ | ⟨h1, h2⟩
  · have w2 := (W.2.2.1 l (by omega)).1
    have w3 := W.2.2.2.1 (3 * l + p) (by omega)
    have hi : 5 * (3 * l + p) + k < 180 := by omega
    obtain ⟨e4, e5, e6, e7⟩ := I.1.2.2.2.2 (3 * l + p) (5 * (3 * l + p) + k) (by omega) (by omega) (by omega)
    obtain ⟨d4, d5, d6, d7⟩ := C0.2.2.2.2 (3 * l + p) (5 * (3 * l + p) + k) (by omega) (by omega) (by omega)
    obtain ⟨f4, f5, f5', f5'', f6, f6', f7⟩ := W.2.2.2.2 (3 * l + p) (5 * (3 * l + p) + k) (by omega) (by omega) (by omega)
    rw [X_reqS_in I.1 W hl hp hk, tb_s, M_isStep_in C0 W hl hp hk, ob_s, if_neg one0]
    rcases G_w v4 with ⟨w, hw1, hw9, rfl⟩ | ⟨g1, g2⟩
    · rw [lt_f hw1 (by omega), le_t hw9 (by omega), X_stepAt, ob_s, rdA_n hi (by omega), ob_s, e6, w_in hw1 hw9, ob_s, ob_s, if_neg one0, M_at, ob_s, rdA_n hi (by omega), ob_s, d6]
      by_cases q : G 6 (5 * (3 * l + p) + k) = 0
      · rw [if_pos (show nI (G 6 (5 * (3 * l + p) + k)) = nI 0 by rw [q]), if_pos (show nI (G 6 (5 * (3 * l + p) + k)) = nI 0 by rw [q]), M_no, rb_s]
        exact Out.bad I C W rfl rfl (k := 3) (by omega) (by omega) rfl Fl2
      · have Wm : WG (gs G 6 (5 * (3 * l + p) + k) (G 6 (5 * (3 * l + p) + k) - w)) := WG_gs6 W (by omega) (fun h => by have := f6' h; omega)
        obtain ⟨S1, k1, k2, k3⟩ := X_settle (Cp_gs (k := 6) (i := 5 * (3 * l + p) + k) (v := G 6 (5 * (3 * l + p) + k) - w) (by omega) I.1) Wm
        have k4 : S1 6 (5 * (3 * l + p) + k) = nI (G 6 (5 * (3 * l + p) + k) - w) := by
          rw [k2 6 (by omega), sU_s]
          exact if_pos rfl
        rw [eq_f q (by omega) (by omega), eq_f q (by omega) (by omega), lmaxR (by omega) (by omega), wrS_n hi (by omega), nI_cl (by omega), k3, rb_s, rdA_n hi (by omega), ob_s, k4, ob_s, lmaxL (by omega) (by omega), wrS_n hi (by omega), rdA_n hi (by omega), ob_s, sU_s]
        exact Out.good (v := nI (G 6 (5 * (3 * l + p) + k) - w)) rfl (by rw [show upd (sU T 15 (fun _ => nI 0) 6) (5 * (3 * l + p) + k) (nI (G 6 (5 * (3 * l + p) + k) - w)) (5 * (3 * l + p) + k) = nI (G 6 (5 * (3 * l + p) + k) - w) from if_pos rfl]) k1 (Cp_gs (by omega) C0) Wm (by rw [sU_n (by omega), sU_s]) (fun z => (F0.fz.2 z).oth (by omega))
    · rw [g2, ob_s, if_pos rfl, M_no, rb_s]
      refine Out.bad I C W (e := 3) ?_ rfl (k := 2) (by omega) (by omega) rfl Fl2
      by_cases q : v4 < nI 1
      · rw [if_pos q]
      · rw [if_neg q]
        rcases g1 with h | h
        · exact absurd h q
        · rw [if_neg h]
  · rw [h1, tb_x, h2, ob_s, if_pos rfl, M_no, rb_s]
    exact Out.bad I C W rfl rfl (k := 1) (by omega) (by omega) rfl Fl2
end MUTS
