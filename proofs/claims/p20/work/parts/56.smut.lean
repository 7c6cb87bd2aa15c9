section SMUT
variable {P : Nat → Nat → Nat} {G : GS} {Hp : HS}
/-- no two of the lodge's rows, no two of its steps are one -/
def HI (P : Nat → Nat → Nat) (G : GS) : Prop := (∀ l l', l < G 14 0 → l' < G 14 0 → P 3 l = P 3 l' → l = l') ∧ (∀ l p k l' p' k', l < G 14 0 → p < G 2 l → k < G 3 (3 * l + p) → l' < G 14 0 → p' < G 2 l' → k' < G 3 (3 * l' + p') → P 5 (5 * (3 * l + p) + k) = P 5 (5 * (3 * l' + p') + k') → 5 * (3 * l + p) + k = 5 * (3 * l' + p') + k')
def HL (Hp : HS) (P : Nat → Nat → Nat) (G : GS) : Prop := HV Hp P G ∧ HI P G
/-- an array of references -/
def AR (t : Nat) (Hp : HS) (R n : Nat) (g : Nat → Option Nat) : Prop := ∃ f, hN Hp R t = some (t, n, f, g)
theorem AR.x {t : Nat} {Hp Hp' : HS} {R n : Nat} {g : Nat → Option Nat} (h : AR t Hp R n g) (x : HX Hp Hp') : AR t Hp' R n g := by
  obtain ⟨f, h⟩ := h
  exact ⟨f, x.2 _ _ _ h⟩
theorem AR.t {t : Nat} {Hp Hp1 : HS} {R R' n : Nat} {g : Nat → Option Nat} (h : AR t Hp R n g) (x : HT Hp Hp1 R') (hR : R ≠ R') : AR t Hp1 R n g := by
  obtain ⟨f, h⟩ := h
  exact ⟨f, by rw [x.2 _ _ hR]; exact h⟩
theorem AR.lt {t : Nat} {Hp : HS} {R n : Nat} {g : Nat → Option Nat} (h : AR t Hp R n g) : R < Hp.length := by
  obtain ⟨f, h⟩ := h
  exact hN_lt h
theorem AR.len {t : Nat} {Hp : HS} {R n : Nat} {g : Nat → Option Nat} (h : AR t Hp R n g) : hlen t Hp R = some (nI n) := by
  obtain ⟨f, h⟩ := h
  exact hlen_N h
theorem AR.st {t te : Nat} {Hp : HS} {R n v : Nat} {c : Cel} {g : Nat → Option Nat} (h : AR t Hp R n g) (hv : hN Hp v te = some c) {i : Nat} (hi : i < n) (hn : n ≤ 2560) : ∃ Hp1, (∀ {ρ : Type} (K : HS → Option ρ), hstR t te Hp R (nI i) v K = K Hp1) ∧ AR t Hp1 R n (va_up g i (some v)) ∧ HT Hp Hp1 R := by
  obtain ⟨f, h⟩ := h
  obtain ⟨a1, a2⟩ := set_N (c' := (t, n, f, va_up g i (some v))) h rfl
  refine ⟨_, fun K => ?_, ⟨f, a1⟩, a2⟩
  unfold hstR
  rw [h, ob_s, hv, ob_s]
  show wrA n (nI i) (K (Hp.set R (t, n, f, va_up g (nI i).toNatClampNeg (some v)))) = _
  unfold wrA
  rw [if_neg (nI_in hi (by omega)), nI_cl (by omega)]
theorem AR.nw {t : Nat} {Hp : HS} {rs : List Nat} {n : Nat} (hn : n ≤ 14) (hr : ∀ r ∈ rs, r < Hp.length) : ∃ Hp1 R, (∀ {ρ : Type} (K : HS → Nat → Option ρ), hnw t rs Hp (nI n) K = K Hp1 R) ∧ AR t Hp1 R n (fun _ => none) ∧ R = Hp.length ∧ HX Hp Hp1 ∧ Hp1.length = Hp.length + 1 := by
  obtain ⟨Hp1, R1, k1, k2, k3, k4, k5⟩ := mk_I (t := t) hn hr
  exact ⟨Hp1, R1, k1, ⟨_, k2⟩, k3, k4, k5⟩
theorem vup_s {g : Nat → Option Nat} {i v : Nat} : va_up g i (some v) i = some v := if_pos rfl
theorem vup_n {g : Nat → Option Nat} {i v x : Nat} (h : x ≠ i) : va_up g i (some v) x = g x := if_neg h
/-- a cell of another kind is another cell -/
theorem HT.d {Hp Hp1 : HS} {R tR : Nat} {cR : Cel} (x : HT Hp Hp1 R) (h : hN Hp R tR = some cR) {r t : Nat} {c : Cel} (q : hN Hp r t = some c) (ht : t ≠ tR) : hN Hp1 r t = some c := by
  by_cases e : r = R
  · subst e
    have h1 := hN_h h
    have h2 := hN_h q
    rw [h1.1] at h2
    have := Option.some.inj h2.1
    exact absurd (by rw [← h2.2, ← this, h1.2]) ht
  · rw [x.2 r t e]; exact q
theorem put_O {tv : Nat} {Hp : HS} {o n fld v : Nat} {f : Nat → Int32} {g : Nat → Option Nat} {cv : Cel} (h : hN Hp o 5 = some (5, n, f, g)) (hv : hN Hp v tv = some cv) : ∃ Hp1, (∀ {ρ : Type} (K : HS → Option ρ), hput tv Hp o fld v K = K Hp1) ∧ hN Hp1 o 5 = some (5, n, f, va_up g fld (some v)) ∧ HT Hp Hp1 o := by
  obtain ⟨a1, a2⟩ := set_N (c' := (5, n, f, va_up g fld (some v))) h rfl
  refine ⟨_, fun K => ?_, a1, a2⟩
  unfold hput
  rw [h, ob_s, hv, ob_s]
-- axioms
theorem H_take (h : HL Hp P G) {a b : Nat} (ha : a < 5) (hb : b ≤ 1) : ∃ Hp1, HL Hp1 P (gs G 1 a b) ∧ Hp1.length = Hp.length ∧ ∀ {ρ : Type} (K : HS → Option ρ), hstI 1 Hp (P 1 0) (nI a) (nI b &&& 1) K = K Hp1 := by
  obtain ⟨⟨⟨n, f, g, h1, h1'⟩, ⟨f2, g2, h2, h2'⟩, ⟨f3, g3, h3, h3'⟩, h4, h5, h6⟩, hi⟩ := h
  have A : AI_ 1 Hp (P 1 0) 5 f2 := ⟨g2, h2⟩
  obtain ⟨Hp1, k1, ⟨g', k2⟩, k3⟩ := A.st ha (by omega) (nI b)
  refine ⟨Hp1, ⟨⟨⟨n, f, g, k3.d h2 h1 (by omega), h1'⟩, ⟨_, g', k2, fun x hx => ?_⟩, ⟨f3, g3, ?_, ?_⟩, ?_, ?_, ?_⟩, ?_⟩, k3.1, fun K => ?_⟩
  · rw [gs_s]
    unfold upd uN
    by_cases e : x = a
    · rw [if_pos e, if_pos e]
    · rw [if_neg e, if_neg e]; exact h2' x hx
  · rw [gs_n (by omega)]; exact k3.d h2 h3 (by omega)
  · rw [gs_n (by omega)]; exact h3'
  · rw [gs_n (by omega), gs_n (by omega)]
    intro l hl
    obtain ⟨f, g, a, b⟩ := h4 l hl
    exact ⟨f, g, k3.d h2 a (by omega), b⟩
  · rw [gs_n (show 14 ≠ 1 by omega), gs_n (show 2 ≠ 1 by omega), gs_n (show 3 ≠ 1 by omega)]
    intro l p hl hp
    obtain ⟨f, g, a, b⟩ := h5 l p hl hp
    exact ⟨f, g, k3.d h2 a (by omega), b⟩
  · rw [gs_n (show 14 ≠ 1 by omega), gs_n (show 2 ≠ 1 by omega), gs_n (show 3 ≠ 1 by omega), gs_n (show 4 ≠ 1 by omega), gs_n (show 5 ≠ 1 by omega), gs_n (show 6 ≠ 1 by omega), gs_n (show 7 ≠ 1 by omega)]
    intro l p k hl hp hk
    obtain ⟨f, g, a, b⟩ := h6 l p k hl hp hk
    exact ⟨f, g, k3.d h2 a (by omega), b⟩
  · unfold HI
    rw [gs_n (show 14 ≠ 1 by omega), gs_n (show 2 ≠ 1 by omega), gs_n (show 3 ≠ 1 by omega)]
    exact hi
  · rw [show nI b &&& 1 = nI b from and1 hb]
    exact k1 K
-- a step's own cell
theorem H_step (h : HL Hp P G) {l p k q v : Nat} (hl : l < G 14 0) (hp : p < G 2 l) (hk : k < G 3 (3 * l + p)) (hq : q = 2 ∨ q = 3) : ∃ Hp1, HL Hp1 P (gs G (4 + q) (5 * (3 * l + p) + k) v) ∧ Hp1.length = Hp.length ∧ ∀ {ρ : Type} (K : HS → Option ρ), hstI 0 Hp (P 5 (5 * (3 * l + p) + k)) (nI q) (nI v) K = K Hp1 := by
  obtain ⟨⟨⟨n, f, g, h1, h1'⟩, ⟨f2, g2, h2, h2'⟩, ⟨f3, g3, h3, h3'⟩, h4, h5, h6⟩, hi⟩ := h
  obtain ⟨fs, gs', a, b0, b1, b2, b3⟩ := h6 l p k hl hp hk
  have A : AI_ 0 Hp (P 5 (5 * (3 * l + p) + k)) 4 fs := ⟨gs', a⟩
  obtain ⟨Hp1, k1, ⟨g', k2⟩, k3⟩ := A.st (i := q) (by omega) (by omega) (nI v)
  refine ⟨Hp1, ⟨⟨⟨n, f, g, k3.d a h1 (by omega), h1'⟩, ⟨f2, g2, k3.d a h2 (by omega), ?_⟩, ⟨f3, g3, ?_, ?_⟩, ?_, ?_, ?_⟩, ?_⟩, k3.1, k1⟩
  · rw [gs_n (by omega)]; exact h2'
  · rw [gs_n (by omega)]; exact k3.d a h3 (by omega)
  · rw [gs_n (by omega)]; exact h3'
  · rw [gs_n (show 14 ≠ 4 + q by omega), gs_n (show 2 ≠ 4 + q by omega)]
    intro l hl
    obtain ⟨f, g, c, d⟩ := h4 l hl
    exact ⟨f, g, k3.d a c (by omega), d⟩
  · rw [gs_n (show 14 ≠ 4 + q by omega), gs_n (show 2 ≠ 4 + q by omega), gs_n (show 3 ≠ 4 + q by omega)]
    intro l p hl hp
    obtain ⟨f, g, c, d⟩ := h5 l p hl hp
    exact ⟨f, g, k3.d a c (by omega), d⟩
  · rw [gs_n (show 14 ≠ 4 + q by omega), gs_n (show 2 ≠ 4 + q by omega), gs_n (show 3 ≠ 4 + q by omega), gs_n (show 4 ≠ 4 + q by omega), gs_n (show 5 ≠ 4 + q by omega)]
    intro l' p' k' hl' hp' hk'
    by_cases e : P 5 (5 * (3 * l' + p') + k') = P 5 (5 * (3 * l + p) + k)
    · have e2 := hi.2 l' p' k' l p k hl' hp' hk' hl hp hk e
      rw [e2]
      refine ⟨_, g', k2, ?_⟩
      rcases hq with rfl | rfl
      · rw [gs_s, gs_n (show 7 ≠ 4 + 2 by omega)]
        exact ⟨b0, b1, (if_pos rfl : upd fs 2 (nI v) 2 = nI v).trans (congrArg nI uN_s.symm), b3⟩
      · rw [gs_s, gs_n (show 6 ≠ 4 + 3 by omega)]
        exact ⟨b0, b1, b2, (if_pos rfl : upd fs 3 (nI v) 3 = nI v).trans (congrArg nI uN_s.symm)⟩
    · obtain ⟨f, g, c, d0, d1, d2, d3⟩ := h6 l' p' k' hl' hp' hk'
      have e2 : 5 * (3 * l' + p') + k' ≠ 5 * (3 * l + p) + k := fun w => e (by rw [w])
      refine ⟨f, g, by rw [k3.2 _ _ e]; exact c, d0, d1, ?_⟩
      rw [gsx e2, gsx e2]
      exact ⟨d2, d3⟩
  · unfold HI
    rw [gs_n (show 14 ≠ 4 + q by omega), gs_n (show 2 ≠ 4 + q by omega), gs_n (show 3 ≠ 4 + q by omega)]
    exact hi
/-- a new lemma -/
def pL (P : Nat → Nat → Nat) (n A Q : Nat) : Nat → Nat → Nat := fun k x => if k = 2 then A else if k = 3 ∧ x = n then Q else P k x
theorem pL_3 {n A Q x : Nat} : pL P n A Q 3 x = if x = n then Q else P 3 x := by
  unfold pL
  rw [if_neg (by omega)]
  by_cases e : x = n
  · rw [if_pos ⟨rfl, e⟩, if_pos e]
  · rw [if_neg (fun w => e w.2), if_neg e]
theorem S_lemma (h : HL Hp P G) (W : WG G) (hn : G 14 0 < 12) : ∃ Hp1 P1, HL Hp1 P1 (gs G 14 0 (G 14 0 + 1)) ∧ P1 0 0 = P 0 0 ∧ P1 1 0 = P 1 0 ∧ Hp.length ≤ Hp1.length ∧ mS_lemma Hp (P 0 0) = some (0, Hp1) := by
  have V := h.1
  have w0 := W.1
  obtain ⟨⟨⟨n, f, g, h1, h1'⟩, ⟨f2, g2, h2, h2'⟩, ⟨f3, g3, h3, h3'⟩, h4, h5, h6⟩, hi⟩ := h
  obtain ⟨HpA, R, a1, a2, a3, a4, a5⟩ := AR.nw (t := 4) (Hp := Hp) (rs := [P 0 0]) (n := G 14 0 + 1) (by omega) (mem1 V.lt)
  have key : ∀ m i N Hq, i + m = G 14 0 → m < N → HX Hp Hq → ∀ q, AR 4 Hq R (G 14 0 + 1) q → (∀ l, l < i → q l = some (P 3 l)) → ∃ Hp1 P1, HL Hp1 P1 (gs G 14 0 (G 14 0 + 1)) ∧ P1 0 0 = P 0 0 ∧ P1 1 0 = P 1 0 ∧ Hp.length ≤ Hp1.length ∧ itr2 (mS_lemma_F13 (P 0 0) R) N Hq (nI i) = some (0, Hp1) := by
    intro m
    induction m with
    | zero =>
      intro i N Hq hm hNN X q B hq
      match N, hNN with
      | N + 1, _ =>
        have V1 := V.x X
        obtain ⟨HpB, Q, b1, b2, b3, b4, b5⟩ := AR.nw (t := 3) (Hp := Hq) (rs := [P 0 0, R]) (n := 0) (by omega) (mem2 V1.lt B.lt)
        obtain ⟨fQ, hQ⟩ := b2
        have hRQ : R ≠ Q := by have := B.lt; omega
        obtain ⟨HpC, c1, c2, c3⟩ := (B.x b4).st hQ (i := G 14 0) (by omega) (by omega)
        obtain ⟨fR, hR⟩ := c2
        have hRlt : R < Hq.length := B.lt
        have XB : HX Hp HpB := X.tr b4
        have oldC : ∀ r t c, hN Hp r t = some c → hN HpC r t = some c := fun r t c w => by
          have := hN_lt w
          rw [c3.2 r t (by omega)]
          exact XB.2 r t c w
        obtain ⟨HpD, d1, d2, d3⟩ := put_O (fld := 1) (oldC _ _ _ h1) hR
        have hoR : R ≠ P 0 0 := by have := hN_lt h1; omega
        have oldD : ∀ r t c, hN Hp r t = some c → t ≠ 5 → hN HpD r t = some c := fun r t c w ht => d3.d (oldC _ _ _ h1) (oldC r t c w) ht
        have hQC : hN HpC Q 3 = some (3, 0, fQ, fun _ => none) := by rw [c3.2 Q 3 (Ne.symm hRQ)]; exact hQ
        have hP3 : ∀ l, l < G 14 0 → P 3 l < Hp.length := fun l hl => by
          obtain ⟨f, g, a, b⟩ := h4 l hl
          exact hN_lt a
        refine ⟨HpD, pL P (G 14 0) R Q, ⟨⟨⟨n, f, va_up g 1 (some R), d2, ?_, ?_⟩, ⟨f2, g2, oldD _ _ _ h2 (by omega), ?_⟩, ⟨fR, va_up q (G 14 0) (some Q), ?_, ?_⟩, ?_, ?_, ?_⟩, ?_⟩, rfl, rfl, ?_, ?_⟩
        · rw [vup_n (by omega)]; exact h1'.1
        · exact vup_s
        · rw [gs_n (by omega)]; exact h2'
        · rw [gs_s, uN_s]
          exact d3.d (oldC _ _ _ h1) hR (by omega)
        · rw [gs_s, uN_s]
          intro l hl
          by_cases e : l = G 14 0
          · rw [e, vup_s]
            show _ = some (if 3 = 2 then R else if 3 = 3 ∧ G 14 0 = G 14 0 then Q else P 3 (G 14 0))
            rw [if_neg (by omega), if_pos ⟨rfl, rfl⟩]
          · rw [vup_n e, hq l (by omega)]
            show _ = some (if 3 = 2 then R else if 3 = 3 ∧ l = G 14 0 then Q else P 3 l)
            rw [if_neg (by omega), if_neg (fun w => e w.2)]
        · rw [gs_s, uN_s, gs_n (by omega)]
          intro l hl
          by_cases e : l = G 14 0
          · refine ⟨fQ, (fun _ => none), ?_, fun p hp => ?_⟩
            · show hN HpD (if 3 = 2 then R else if 3 = 3 ∧ l = G 14 0 then Q else P 3 l) 3 = _
              rw [if_neg (by omega), if_pos ⟨rfl, e⟩, e, ((W.2.2.1 (G 14 0) hn).2 (Nat.le_refl _))]
              exact d3.d (oldC _ _ _ h1) hQC (by omega)
            · rw [e, ((W.2.2.1 (G 14 0) hn).2 (Nat.le_refl _))] at hp; omega
          · obtain ⟨f, g, a, b⟩ := h4 l (by omega)
            refine ⟨f, g, ?_, fun p hp => ?_⟩
            · show hN HpD (if 3 = 2 then R else if 3 = 3 ∧ l = G 14 0 then Q else P 3 l) 3 = _
              rw [if_neg (by omega), if_neg (fun w => e w.2)]
              exact oldD _ _ _ a (by omega)
            · exact b p hp
        · rw [gs_s, uN_s, gs_n (by omega), gs_n (by omega)]
          intro l p hl hp
          have hl' : l < G 14 0 := by
            refine Classical.byContradiction fun w => ?_
            rw [((W.2.2.1 l (by omega)).2 (by omega))] at hp; omega
          obtain ⟨f, g, a, b⟩ := h5 l p hl' hp
          exact ⟨f, g, oldD _ _ _ a (by omega), b⟩
        · rw [gs_s, uN_s, gs_n (by omega), gs_n (by omega), gs_n (by omega), gs_n (by omega), gs_n (by omega), gs_n (by omega)]
          intro l p k hl hp hk
          have hl' : l < G 14 0 := by
            refine Classical.byContradiction fun w => ?_
            rw [((W.2.2.1 l (by omega)).2 (by omega))] at hp; omega
          obtain ⟨f, g, a, b⟩ := h6 l p k hl' hp hk
          exact ⟨f, g, oldD _ _ _ a (by omega), b⟩
        · unfold HI
          rw [gs_s, uN_s, gs_n (by omega), gs_n (by omega)]
          refine ⟨fun l l' hl hl' e => ?_, fun l p k l' p' k' hl hp hk hl' hp' hk' e => ?_⟩
          · rw [pL_3, pL_3] at e
            have hX := X.1
            by_cases c : l = G 14 0
            · by_cases c' : l' = G 14 0
              · omega
              · rw [if_pos c, if_neg c'] at e
                have := hP3 l' (by omega)
                omega
            · by_cases c' : l' = G 14 0
              · rw [if_neg c, if_pos c'] at e
                have := hP3 l (by omega)
                omega
              · rw [if_neg c, if_neg c'] at e
                exact hi.1 l l' (by omega) (by omega) e
          · have hl1 : l < G 14 0 := by
              refine Classical.byContradiction fun w => ?_
              rw [((W.2.2.1 l (by omega)).2 (by omega))] at hp; omega
            have hl2 : l' < G 14 0 := by
              refine Classical.byContradiction fun w => ?_
              rw [((W.2.2.1 l' (by omega)).2 (by omega))] at hp'; omega
            exact hi.2 l p k l' p' k' hl1 hp hk hl2 hp' hk' e
        · rw [d3.1, c3.1]
          exact XB.1
        · show mS_lemma_F13 _ _ _ _ _ = _
          unfold mS_lemma_F13
          rw [V1.g1, ob_s, V1.n, ob_s, le_t (by omega) (by omega), ob_s, V1.n, ob_s, show (0 : Int32) = nI 0 from rfl, b1, c1, d1]
    | succ m ih =>
      intro i N Hq hm hNN X q B hq
      match N, hNN with
      | N + 1, hNN =>
        have V1 := V.x X
        obtain ⟨f, g, a, b⟩ := h4 i (by omega)
        obtain ⟨HpC, c1, c2, c3⟩ := B.st (X.2 _ _ _ a) (i := i) (by omega) (by omega)
        obtain ⟨Hp1, P1, j1, j2, j3, j4, j5⟩ := ih (i + 1) N HpC (by omega) (by omega) (c3.x X (by omega)) _ c2 (fun l hl => by
          by_cases e : l = i
          · rw [e, vup_s]
          · rw [vup_n e]; exact hq l (by omega))
        refine ⟨Hp1, P1, j1, j2, j3, j4, ?_⟩
        show mS_lemma_F13 (P 0 0) R (itr2 (mS_lemma_F13 (P 0 0) R) N) Hq (nI i) = _
        generalize hI : itr2 (mS_lemma_F13 (P 0 0) R) N = I at j5 ⊢
        unfold mS_lemma_F13
        rw [V1.g1, ob_s, V1.n, ob_s, le_f (by omega) (by omega), ob_s, V1.l W (by omega), ob_s, c1, n_add1]
        exact j5
  obtain ⟨Hp1, P1, j1, j2, j3, j4, j5⟩ := key (G 14 0) 0 16 HpA (by omega) (by omega) a4 _ a2 (fun l hl => by omega)
  refine ⟨Hp1, P1, j1, j2, j3, j4, ?_⟩
  unfold mS_lemma
  rw [V.g1, ob_s, V.n, ob_s, n_add1, a1, show (0 : Int32) = nI 0 from rfl]
  exact j5
end SMUT
