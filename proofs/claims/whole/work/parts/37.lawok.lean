section LAWOK
variable {S T : XS} {G : GS}
def G0 : GS := fun k _ => if k = 1 then 1 else 0
theorem WG_0 : WG G0 := by
  refine ⟨?_, ?_, ?_, ?_, ?_⟩
  · show 0 ≤ 12; omega
  · intro a _; show 1 ≤ 1; omega
  · intro l _; exact ⟨by show 0 ≤ 3; omega, fun _ => rfl⟩
  · intro j _; show 0 ≤ 5; omega
  · intro j i _ h1 h2
    have : G0 3 j = 0 := rfl
    omega
def Fresh (S : XS) : Prop := (∀ k, k ≠ 1 → S k = fun _ => 0) ∧ ∀ a, a < 5 → S 1 a = nI 1
theorem Fresh.cp (h : Fresh S) : Cp S G0 := by
  obtain ⟨h0, h1⟩ := h
  refine ⟨?_, fun a ha => h1 a ha, fun l _ => ?_, fun j _ => ?_, fun j i _ a1 a2 => ?_⟩
  · rw [h0 14 (by omega)]; rfl
  · rw [h0 2 (by omega)]; rfl
  · rw [h0 3 (by omega)]; rfl
  · have : G0 3 j = 0 := rfl
    omega
theorem Fresh.si (h : Fresh S) : SI S G0 := by
  have e : G0 14 0 = 0 := rfl
  have c : cnt G0 mone = 0 := by
    have := cnt_le (G := G0) (b := mone)
    omega
  refine ⟨h.cp, fun l hl => ?_, fun l hl => ?_, fun l hl => ?_, fun l hl => ?_, ?_⟩
  · omega
  · omega
  · omega
  · omega
  · rw [h.1 15 (by omega), c]; rfl
theorem Fresh.z (h : Fresh S) : Z S := fun i _ => Or.inl (by rw [h.1 7 (by omega)])
def PI (l m : Nat) (S : XS) (res : Option (Int32 × XS)) : Prop := (∀ k, k ≠ 1 → S k = fun _ => 0) → (∀ a, a < l → S 1 a = nI 1) → ∃ S', Fresh S' ∧ res = some (0, S')

theorem mX_fresh : ∃ S', Fresh S' ∧ mX_init = some (0, S') := by
  unfold mX_init
  rw [show itr2 mX_init_F113 FUEL XS0 0 = itr2 mX_init_F113 FUEL XS0 (nI 0) by rw [show (0 : Int32) = nI 0 from rfl]]
  refine itr2_r PI 0 5 ?_ ?_ 5 0 FUEL XS0 (by omega) (by omega) (fuel_gt (by omega)) (fun _ _ => rfl) (fun a ha => by omega)
  · intro ih S h0 h1
    refine ⟨S, ⟨h0, h1⟩, ?_⟩
    unfold mX_init_F113
    rw [show (5 : Int32) = nI 5 from rfl, le_t (by omega) (by omega)]
  · intro l m ih _ hl hih S h0 h1
    unfold mX_init_F113
    rw [show (5 : Int32) = nI 5 from rfl, show (1 : Int32) = nI 1 from rfl, le_f (by omega) (by omega), wrS_n (by omega) (by omega), nI_cl (by omega), n_add, show nI 1 &&& nI 1 = nI 1 by decide]
    refine hih _ (fun k hk => by rw [sU_n hk]; exact h0 k hk) (fun a ha => ?_)
    rw [sU_s]
    unfold upd
    by_cases e : a = l
    · rw [if_pos e]
    · rw [if_neg e]; exact h1 a (by omega)

theorem mM_fresh : ∃ S', Fresh S' ∧ mM_init = some (0, S') := by
  unfold mM_init
  rw [show itr2 mM_init_F97 FUEL XS0 0 = itr2 mM_init_F97 FUEL XS0 (nI 0) by rw [show (0 : Int32) = nI 0 from rfl]]
  refine itr2_r PI 0 5 ?_ ?_ 5 0 FUEL XS0 (by omega) (by omega) (fuel_gt (by omega)) (fun _ _ => rfl) (fun a ha => by omega)
  · intro ih S h0 h1
    refine ⟨S, ⟨h0, h1⟩, ?_⟩
    unfold mM_init_F97
    rw [show (5 : Int32) = nI 5 from rfl, le_t (by omega) (by omega)]
  · intro l m ih _ hl hih S h0 h1
    unfold mM_init_F97
    rw [show (5 : Int32) = nI 5 from rfl, show (1 : Int32) = nI 1 from rfl, le_f (by omega) (by omega), wrS_n (by omega) (by omega), nI_cl (by omega), n_add, show nI 1 &&& nI 1 = nI 1 by decide]
    refine hih _ (fun k hk => by rw [sU_n hk]; exact h0 k hk) (fun a ha => ?_)
    rw [sU_s]
    unfold upd
    by_cases e : a = l
    · rw [if_pos e]
    · rw [if_neg e]; exact h1 a (by omega)

theorem cmp_self {x : Int64} : lg_cmp x x = 0 := by
  unfold lg_cmp
  rw [if_neg (fun h => Int64.lt_irrefl h), if_pos rfl]
theorem rdL_u {g : Nat → Int64} {x : Int64} : rdL (vp_updL g (0 : Int32).toNatClampNeg x) 1 0 = some x := by
  unfold rdL
  rw [if_neg (by decide)]
  exact congrArg some (if_pos rfl)
theorem rb3_s {ρ : Type} {v : Int32} {s : XS} {g : Nat → Int64} {K : Int32 → XS → (Nat → Int64) → Option ρ} : rb3 (some (v, (s, g))) K = K v s g := rfl
def Go (ih : XS → XS → (Nat → Int64) → Int32 → Option Int32) (v : Int32) : Prop := ∀ S T g G, SI S G → Cp T G → WG G → Z T → ih S T g v = some 1
theorem ne_k {k : Nat} (hk : k ≠ 0) (hk2 : k < 10) : ¬ nI k = (0 : Int32) := fun e => hk ((nI_eq (b := 0) (by omega) (by omega)).mp e)
theorem law_I {cd : Nat → Option Int32} {x : Option ((Int32 × XS) ⊕ Nat)} {y : Option (Int32 × XS)} {g : Nat → Int64} {ih : XS → XS → (Nat → Int64) → Int32 → Option Int32} {v4 : Int32} (h : Out cd S T x y) (z : Z T) (go : Go ih v4) : (rb3 (wrpI cd x S g) fun k S' g' => rb y fun v T' => (mM_thrown T').bind fun t => if t = k then (if k = 0 then (rdL g' 1 0).bind fun o => (if (lg_cmp o v.toInt64) = 0 then ih S' T' g' v4 else some 0) else ih S' T' g' v4) else some 0) = some 1 := by
  rcases h with ⟨G', v, S', T', hx, hy, I, C, W, h15, hz⟩ | ⟨G', e, k, w, T', hx, hc, hk, hk2, hy, I, C, W, h15, hz⟩
  · rw [hx, hy]
    unfold wrpI mM_thrown
    dsimp only
    rw [rb3_s, rb_s, ob_s, h15, if_pos (show nI 0 = (0 : Int32) from rfl), if_pos rfl, rdL_u, ob_s, cmp_self, if_pos rfl]
    exact go _ _ _ G' I C W (hz z)
  · rw [hx, hy]
    unfold wrpI mM_thrown
    dsimp only
    rw [hc, Option.map_some, rb3_s, rb_s, ob_s, h15, if_pos rfl, if_neg (ne_k hk hk2)]
    exact go _ _ _ G' I C W (hz z)
theorem law_Z {cd : Nat → Option Int32} {x : Option ((Int32 × XS) ⊕ Nat)} {y : Option (Int32 × XS)} {g : Nat → Int64} {ih : XS → XS → (Nat → Int64) → Int32 → Option Int32} {v4 : Int32} (h : Out cd S T x y) (z : Z T) (go : Go ih v4) : (rb3 (wrpZ cd x S g) fun k S' g' => rb y fun v T' => (mM_thrown T').bind fun t => if t = k then (if k = 0 then (rdL g' 1 0).bind fun o => (if v = 0 then (if (lg_cmp o 0) = 0 then ih S' T' g' v4 else some 0) else (if (lg_cmp o 1) = 0 then ih S' T' g' v4 else some 0)) else ih S' T' g' v4) else some 0) = some 1 := by
  rcases h with ⟨G', v, S', T', hx, hy, I, C, W, h15, hz⟩ | ⟨G', e, k, w, T', hx, hc, hk, hk2, hy, I, C, W, h15, hz⟩
  · rw [hx, hy]
    unfold wrpZ mM_thrown
    dsimp only
    rw [rb3_s, rb_s, ob_s, h15, if_pos (show nI 0 = (0 : Int32) from rfl), if_pos rfl, rdL_u, ob_s]
    by_cases q : v = 0
    · rw [if_pos q, if_pos q, cmp_self, if_pos rfl]
      exact go _ _ _ G' I C W (hz z)
    · rw [if_neg q, if_neg q, cmp_self, if_pos rfl]
      exact go _ _ _ G' I C W (hz z)
  · rw [hx, hy]
    unfold wrpZ mM_thrown
    dsimp only
    rw [hc, Option.map_some, rb3_s, rb_s, ob_s, h15, if_pos rfl, if_neg (ne_k hk hk2)]
    exact go _ _ _ G' I C W (hz z)
theorem o_take0 (I : SI S G) (C : Cp T G) (W : WG G) (v : Int32) : Out cd_take S T (mX_take S v 0) (mM_take T v 0) := by
  have := o_take I C W v (b := 0) (by omega)
  rw [show nI 0 = (0 : Int32) from rfl] at this
  exact this
theorem o_take1 (I : SI S G) (C : Cp T G) (W : WG G) (v : Int32) : Out cd_take S T (mX_take S v 1) (mM_take T v 1) := by
  have := o_take I C W v (b := 1) (by omega)
  rw [show nI 1 = (1 : Int32) from rfl] at this
  exact this
set_option maxHeartbeats 4000000 in
theorem law_step {xs : Nat → Int32} {L i : Nat} {ih : XS → XS → (Nat → Int64) → Int32 → Option Int32} {g : Nat → Int64} (hL : L ≤ 2560) (I : SI S G) (C : Cp T G) (W : WG G) (z : Z T) (go : i + 5 ≤ L → Go ih (nI i + 5)) : mL_F23 xs L ih S T g (nI i) = some 1 ∨ 2600 < i := by
  by_cases hi0 : 2600 < i
  · exact Or.inr hi0
  left
  rw [mL_F23]
  by_cases hlt : (Int32.ofNat L - 5 : Int32) < nI i
  · rw [if_pos hlt]
  have h5 : i + 5 ≤ L := by
    refine Classical.byContradiction fun hc => hlt ?_
    show nI L - nI 5 < nI i
    rw [Int32.lt_iff_toInt_lt, pk_sub_toInt (by omega) (by omega), nI_toInt (by omega)]
    omega
  have go := go h5
  have hr0 : rdA xs L (nI i) = some (xs i) := rdA_n (by omega) hL
  have hr1 : rdA xs L (nI i + 1) = some (xs (i + 1)) := by rw [nI_1]; exact rdA_n (by omega) hL
  have hr2 : rdA xs L (nI i + 2) = some (xs (i + 2)) := by rw [show (2 : Int32) = nI 2 from rfl, n_add]; exact rdA_n (by omega) hL
  have hr3 : rdA xs L (nI i + 3) = some (xs (i + 3)) := by rw [show (3 : Int32) = nI 3 from rfl, n_add]; exact rdA_n (by omega) hL
  have hr4 : rdA xs L (nI i + 4) = some (xs (i + 4)) := by rw [show (4 : Int32) = nI 4 from rfl, n_add]; exact rdA_n (by omega) hL
  rw [if_neg hlt, hr0, ob_s]
  by_cases c0 : (xs i &&& 31 : Int32) = 0
  · rw [if_pos c0, hr1, ob_s, hr2, ob_s]
    by_cases q : xs (i + 2) = 0
    · rw [if_pos q]
      simp only [mL_take, ob_s, q, if_true]
      exact law_Z (o_take0 I C W _) z go
    · rw [if_neg q]
      simp only [mL_take, ob_s, q, if_false]
      exact law_Z (o_take1 I C W _) z go
  rw [if_neg c0]
  by_cases c1 : (xs i &&& 31 : Int32) = 1
  · rw [if_pos c1]
    simp only [mL_lemma, ob_s]
    exact law_I (o_lemma I C W ) z go
  rw [if_neg c1]
  by_cases c2 : (xs i &&& 31 : Int32) = 2
  · rw [if_pos c2]
    simp only [mL_proof, hr1, ob_s]
    exact law_I (o_proof I C W _) z go
  rw [if_neg c2]
  by_cases c3 : (xs i &&& 31 : Int32) = 3
  · rw [if_pos c3]
    simp only [mL_cite, hr1, hr2, hr3, hr4, ob_s]
    exact law_I (o_cite I C W _ _ _ _) z go
  rw [if_neg c3]
  by_cases c4 : (xs i &&& 31 : Int32) = 4
  · rw [if_pos c4]
    simp only [mL_patch, hr1, hr2, hr3, hr4, ob_s]
    exact law_I (o_patch I C W _ _ _ _) z go
  rw [if_neg c4]
  by_cases c5 : (xs i &&& 31 : Int32) = 5
  · rw [if_pos c5]
    simp only [mL_withdraw, hr1, hr2, hr3, ob_s]
    exact law_Z (o_withdraw I C W _ _ _) z go
  rw [if_neg c5]
  by_cases c6 : (xs i &&& 31 : Int32) = 6
  · rw [if_pos c6]
    simp only [mL_strike, hr1, hr2, ob_s]
    exact law_I (o_strike I C W z _ _) z go
  rw [if_neg c6]
  by_cases c7 : (xs i &&& 31 : Int32) = 7
  · rw [if_pos c7]
    simp only [mL_told, hr1, hr2, ob_s]
    exact law_I (o_told I C W _ _) z go
  rw [if_neg c7]
  by_cases c8 : (xs i &&& 31 : Int32) = 8
  · rw [if_pos c8]
    simp only [mL_step, hr1, hr2, hr3, hr4, ob_s]
    exact law_I (o_step I C W _ _ _ _) z go
  rw [if_neg c8]
  by_cases c9 : (xs i &&& 31 : Int32) = 9
  · rw [if_pos c9]
    simp only [mL_about, hr1, hr2, hr3, ob_s]
    exact law_I (o_about I C W _ _ _) z go
  rw [if_neg c9]
  by_cases c10 : (xs i &&& 31 : Int32) = 10
  · rw [if_pos c10]
    simp only [mL_count, hr1, ob_s]
    exact law_I (o_count I C W _) z go
  rw [if_neg c10]
  by_cases c11 : (xs i &&& 31 : Int32) = 11
  · rw [if_pos c11]
    simp only [mL_best, hr1, ob_s]
    exact law_I (o_best I C W _) z go
  rw [if_neg c11]
  by_cases c12 : (xs i &&& 31 : Int32) = 12
  · rw [if_pos c12]
    simp only [mL_without, hr1, ob_s]
    exact law_I (o_without I C W _) z go
  rw [if_neg c12]
  by_cases c13 : (xs i &&& 31 : Int32) = 13
  · rw [if_pos c13]
    simp only [mL_needs, hr1, hr2, ob_s]
    exact law_Z (o_needs I C W _ _) z go
  rw [if_neg c13]
  by_cases c14 : (xs i &&& 31 : Int32) = 14
  · obtain ⟨S1, a1, a2⟩ := X_advise I W
    obtain ⟨T1, b1, b2⟩ := M_advise C W
    rw [if_pos c14, a2, rb_s, b2, rb_s, if_pos rfl]
    exact go _ _ _ G (I.ro13 a1) (b1.cp C) W (b1.fz.2 z)
  rw [if_neg c14]
  by_cases c15 : (xs i &&& 31 : Int32) = 15
  · obtain ⟨T1, b1, b2⟩ := M_mean C W
    have hg := go S T1 g G I (b1.cp C) W (b1.fz.2 z)
    rw [if_pos c15, X_mean I W, ob_s, b2, rb_s]
    by_cases q : (Op.cmpValue (FP.dcmp (mnv G) (mnv G)) .l : Int32) = 0
    · rw [if_pos q]; exact hg
    · rw [if_neg q, if_neg q, if_neg q]; exact hg
  rw [if_neg c15]
  by_cases c16 : (xs i &&& 31 : Int32) = 16
  · obtain ⟨T1, b1, b2⟩ := M_digest C W
    rw [if_pos c16, X_digest I W, ob_s, b2, rb_s, cmp_self, if_pos rfl]
    exact go _ _ _ G I (b1.cp C) W (b1.fz.2 z)
  rw [if_neg c16]
  exact go _ _ _ G I C W z
theorem law_all {xs : Nat → Int32} {L : Nat} (hL : L ≤ 2560) : ∀ N i S T g G, i ≤ 2600 → 2600 < N + i → SI S G → Cp T G → WG G → Z T → itr4 (mL_F23 xs L) N S T g (nI i) = some 1 := by
  intro N
  induction N with
  | zero => intro i S T g G h1 h2; omega
  | succ N ih =>
    intro i S T g G h1 h2 I C W z
    rw [itr4]
    refine (law_step (g := g) hL I C W z fun h5 S' T' g' G' I' C' W' z' => ?_).resolve_right (by omega)
    rw [show (5 : Int32) = nI 5 from rfl, n_add]
    exact ih (i + 5) S' T' g' G' (by omega) (by omega) I' C' W' z'
/-- the mirror of the law answers 1 on every script -/
theorem law_ok (xs : Nat → Int32) (L : Nat) (hL : L ≤ 2560) : mL_law xs L = some 1 := by
  obtain ⟨S, a1, a2⟩ := mX_fresh
  obtain ⟨T, b1, b2⟩ := mM_fresh
  unfold mL_law
  rw [a2, rb_s, b2, rb_s, show (0 : Int32) = nI 0 from rfl]
  exact law_all hL FUEL 0 S T _ G0 (by omega) (fuel_gt (m := 2600) (by omega)) a1.si b1.cp WG_0 b1.z
end LAWOK
