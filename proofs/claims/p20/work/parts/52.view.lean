section VIEW
/-! the law's own lodge in the pure heap against the plain numbers: 0 it, 1 axioms, 2 lemmas, 3 a lemma's proofs, 4 a proof's steps, 5 a step -/
theorem hN_of {Hp : HS} {r t : Nat} {c : Cel} (h : Hp[r]? = some c) (e : c.1 = t) : hN Hp r t = some c := by
  unfold hN
  rw [h]
  exact if_pos e
theorem hN_lt {Hp : HS} {r t : Nat} {c : Cel} (h : hN Hp r t = some c) : r < Hp.length := (List.getElem?_eq_some_iff.mp (hN_h h).1).1
/-- what was there stays -/
def HX (Hp Hp' : HS) : Prop := Hp.length ≤ Hp'.length ∧ ∀ r t c, hN Hp r t = some c → hN Hp' r t = some c
theorem HX.rf {Hp : HS} : HX Hp Hp := ⟨Nat.le_refl _, fun _ _ _ h => h⟩
theorem HX.tr {Hp Hp' Hp'' : HS} (h : HX Hp Hp') (h' : HX Hp' Hp'') : HX Hp Hp'' := ⟨Nat.le_trans h.1 h'.1, fun r t c q => h'.2 r t c (h.2 r t c q)⟩
/-- one cell is written -/
def HT (Hp Hp1 : HS) (R : Nat) : Prop := Hp1.length = Hp.length ∧ ∀ r t, r ≠ R → hN Hp1 r t = hN Hp r t
theorem HT.x {Hp0 Hp Hp1 : HS} {R : Nat} (h : HT Hp Hp1 R) (x : HX Hp0 Hp) (hR : Hp0.length ≤ R) : HX Hp0 Hp1 :=
  ⟨by rw [h.1]; exact x.1, fun r t c q => by
    have := hN_lt q
    rw [h.2 r t (by omega)]
    exact x.2 r t c q⟩
/-- an array of numbers -/
def AI_ (t : Nat) (Hp : HS) (R n : Nat) (f : Nat → Int32) : Prop := ∃ g, hN Hp R t = some (t, n, f, g)
theorem AI_.x {t : Nat} {Hp Hp' : HS} {R n : Nat} {f : Nat → Int32} (h : AI_ t Hp R n f) (x : HX Hp Hp') : AI_ t Hp' R n f := by
  obtain ⟨g, h⟩ := h
  exact ⟨g, x.2 _ _ _ h⟩
theorem AI_.t {t : Nat} {Hp Hp1 : HS} {R R' n : Nat} {f : Nat → Int32} (h : AI_ t Hp R n f) (x : HT Hp Hp1 R') (hR : R ≠ R') : AI_ t Hp1 R n f := by
  obtain ⟨g, h⟩ := h
  exact ⟨g, by rw [x.2 _ _ hR]; exact h⟩
theorem AI_.lt {t : Nat} {Hp : HS} {R n : Nat} {f : Nat → Int32} (h : AI_ t Hp R n f) : R < Hp.length := by
  obtain ⟨g, h⟩ := h
  exact hN_lt h
theorem AI_.ld {t : Nat} {Hp : HS} {R n : Nat} {f : Nat → Int32} (h : AI_ t Hp R n f) {i : Nat} (hi : i < n) (hn : n ≤ 2560) : hldI t Hp R (nI i) = some (f i) := by
  obtain ⟨g, h⟩ := h
  unfold hldI
  rw [h, ob_s]
  exact rdA_n hi hn
theorem AI_.len {t : Nat} {Hp : HS} {R n : Nat} {f : Nat → Int32} (h : AI_ t Hp R n f) : hlen t Hp R = some (nI n) := by
  obtain ⟨g, h⟩ := h
  unfold hlen
  rw [h]
  rfl
theorem set_N {Hp : HS} {R t : Nat} {c c' : Cel} (h : hN Hp R t = some c) (e : c'.1 = t) : hN (Hp.set R c') R t = some c' ∧ HT Hp (Hp.set R c') R := by
  have hlt := hN_lt h
  refine ⟨hN_of (by rw [List.getElem?_set, if_pos rfl, if_pos hlt]) e, List.length_set .., fun r t' hr => ?_⟩
  unfold hN
  rw [List.getElem?_set, if_neg (Ne.symm hr)]
theorem AI_.st {t : Nat} {Hp : HS} {R n : Nat} {f : Nat → Int32} (h : AI_ t Hp R n f) {i : Nat} (hi : i < n) (hn : n ≤ 2560) (x : Int32) : ∃ Hp1, (∀ {ρ : Type} (K : HS → Option ρ), hstI t Hp R (nI i) x K = K Hp1) ∧ AI_ t Hp1 R n (upd f i x) ∧ HT Hp Hp1 R := by
  obtain ⟨g, h⟩ := h
  obtain ⟨a1, a2⟩ := set_N (c' := (t, n, upd f i x, g)) h rfl
  refine ⟨_, fun K => ?_, ⟨g, a1⟩, a2⟩
  unfold hstI
  rw [h, ob_s]
  show wrA n (nI i) (K (Hp.set R (t, n, upd f (nI i).toNatClampNeg x, g))) = _
  unfold wrA
  rw [if_neg (nI_in hi (by omega)), nI_cl (by omega)]
theorem app_N {Hp : HS} {c : Cel} {t : Nat} (e : c.1 = t) : hN (Hp ++ [c]) Hp.length t = some c ∧ HX Hp (Hp ++ [c]) ∧ (Hp ++ [c]).length = Hp.length + 1 := by
  refine ⟨hN_of (by rw [List.getElem?_append_right (Nat.le_refl _), Nat.sub_self]; rfl) e, ⟨by rw [List.length_append]; omega, fun r t' c' q => ?_⟩, by rw [List.length_append]; rfl⟩
  have := hN_lt q
  unfold hN at q ⊢
  rw [List.getElem?_append_left this]
  exact q
theorem mk_I {t : Nat} {Hp : HS} {rs : List Nat} {n : Nat} (hn : n ≤ 14) (hr : ∀ r ∈ rs, r < Hp.length) : ∃ Hp1 R, (∀ {ρ : Type} (K : HS → Nat → Option ρ), hnw t rs Hp (nI n) K = K Hp1 R) ∧ (hN Hp1 R t = some (t, n, fun _ => 0, fun _ => none)) ∧ R = Hp.length ∧ HX Hp Hp1 ∧ Hp1.length = Hp.length + 1 := by
  obtain ⟨a1, a2, a3⟩ := app_N (Hp := Hp) (c := (t, n, fun _ => 0, fun _ => none)) (t := t) rfl
  exact ⟨_, _, fun K => hnw_n hn hr, a1, rfl, a2, a3⟩
theorem mk_C {Hp : HS} {rs : List Nat} {R n : Nat} {f : Nat → Int32} (h : AI_ 0 Hp R n f) (hn : n ≤ 14) (hr : ∀ r ∈ rs, r < Hp.length) : ∃ Hp1 R1, (∀ {ρ : Type} (K : HS → Nat → Option ρ), hcl rs Hp R K = K Hp1 R1) ∧ AI_ 0 Hp1 R1 n f ∧ R1 = Hp.length ∧ HX Hp Hp1 ∧ Hp1.length = Hp.length + 1 := by
  obtain ⟨g, h⟩ := h
  obtain ⟨a1, a2, a3⟩ := app_N (Hp := Hp) (c := (0, n, f, fun _ => none)) (t := 0) rfl
  refine ⟨_, _, fun K => ?_, ⟨_, a1⟩, rfl, a2, a3⟩
  unfold hcl
  rw [h, ob_s]
  exact if_neg (fun q => q.elim (fun q => absurd hn (Nat.not_le.mpr q)) (fun q => q hr))
theorem mem1 {a n : Nat} (h : a < n) : ∀ r ∈ [a], r < n := fun r hr => by rw [List.mem_singleton.mp hr]; exact h
theorem mem2 {a b n : Nat} (h : a < n) (h' : b < n) : ∀ r ∈ [a, b], r < n := fun r hr => by
  simp only [List.mem_cons, List.not_mem_nil, or_false] at hr
  rcases hr with rfl | rfl <;> assumption
theorem mem0 {n : Nat} : ∀ r ∈ ([] : List Nat), r < n := fun r hr => absurd hr List.not_mem_nil
/-- the lodge in the heap -/
def HV (Hp : HS) (P : Nat → Nat → Nat) (G : GS) : Prop :=
  (∃ n f g, hN Hp (P 0 0) 5 = some (5, n, f, g) ∧ g 0 = some (P 1 0) ∧ g 1 = some (P 2 0)) ∧
  (∃ f g, hN Hp (P 1 0) 1 = some (1, 5, f, g) ∧ ∀ a, a < 5 → f a = nI (G 1 a)) ∧
  (∃ f g, hN Hp (P 2 0) 4 = some (4, G 14 0, f, g) ∧ ∀ l, l < G 14 0 → g l = some (P 3 l)) ∧
  (∀ l, l < G 14 0 → ∃ f g, hN Hp (P 3 l) 3 = some (3, G 2 l, f, g) ∧ ∀ p, p < G 2 l → g p = some (P 4 (3 * l + p))) ∧
  (∀ l p, l < G 14 0 → p < G 2 l → ∃ f g, hN Hp (P 4 (3 * l + p)) 2 = some (2, G 3 (3 * l + p), f, g) ∧ ∀ k, k < G 3 (3 * l + p) → g k = some (P 5 (5 * (3 * l + p) + k))) ∧
  (∀ l p k, l < G 14 0 → p < G 2 l → k < G 3 (3 * l + p) → ∃ f g, hN Hp (P 5 (5 * (3 * l + p) + k)) 0 = some (0, 4, f, g) ∧ f 0 = nI (G 4 (5 * (3 * l + p) + k)) ∧ f 1 = nI (G 5 (5 * (3 * l + p) + k)) ∧ f 2 = nI (G 6 (5 * (3 * l + p) + k)) ∧ f 3 = nI (G 7 (5 * (3 * l + p) + k)))
variable {Hp Hp' : HS} {P : Nat → Nat → Nat} {G : GS}
theorem HV.x (h : HV Hp P G) (x : HX Hp Hp') : HV Hp' P G := by
  obtain ⟨⟨n, f, g, h1, h1'⟩, ⟨f2, g2, h2, h2'⟩, ⟨f3, g3, h3, h3'⟩, h4, h5, h6⟩ := h
  refine ⟨⟨n, f, g, x.2 _ _ _ h1, h1'⟩, ⟨f2, g2, x.2 _ _ _ h2, h2'⟩, ⟨f3, g3, x.2 _ _ _ h3, h3'⟩, fun l hl => ?_, fun l p hl hp => ?_, fun l p k hl hp hk => ?_⟩
  · obtain ⟨f, g, a, b⟩ := h4 l hl
    exact ⟨f, g, x.2 _ _ _ a, b⟩
  · obtain ⟨f, g, a, b⟩ := h5 l p hl hp
    exact ⟨f, g, x.2 _ _ _ a, b⟩
  · obtain ⟨f, g, a, b⟩ := h6 l p k hl hp hk
    exact ⟨f, g, x.2 _ _ _ a, b⟩
theorem hldR_N {t r n i : Nat} {f : Nat → Int32} {g : Nat → Option Nat} (h : hN Hp r t = some (t, n, f, g)) (hi : i < n) (hn : n ≤ 2560) : hldR t Hp r (nI i) = g i := by
  unfold hldR
  rw [h, ob_s]
  show (if nI i < 0 ∨ n ≤ (nI i).toNatClampNeg then none else g (nI i).toNatClampNeg) = _
  rw [if_neg (nI_in hi (by omega)), nI_cl (by omega)]
theorem hlen_N {t r n : Nat} {f : Nat → Int32} {g : Nat → Option Nat} (h : hN Hp r t = some (t, n, f, g)) : hlen t Hp r = some (nI n) := by
  unfold hlen
  rw [h]
  rfl
theorem HV.o (h : HV Hp P G) : (hN Hp (P 0 0) 5).isSome = true := by
  obtain ⟨⟨n, f, g, h1, h1'⟩, -⟩ := h
  rw [h1]
  rfl
theorem HV.os (h : HV Hp P G) : ∀ r ∈ [P 0 0], (hN Hp r 5).isSome = true := fun r hr => by rw [List.mem_singleton.mp hr]; exact h.o
theorem HV.lt (h : HV Hp P G) : P 0 0 < Hp.length := by
  obtain ⟨⟨n, f, g, h1, h1'⟩, -⟩ := h
  exact hN_lt h1
theorem HV.g0 (h : HV Hp P G) : hget Hp (P 0 0) 0 = some (P 1 0) := by
  obtain ⟨⟨n, f, g, h1, h1'⟩, -⟩ := h
  unfold hget
  rw [h1, ob_s]
  exact h1'.1
theorem HV.g1 (h : HV Hp P G) : hget Hp (P 0 0) 1 = some (P 2 0) := by
  obtain ⟨⟨n, f, g, h1, h1'⟩, -⟩ := h
  unfold hget
  rw [h1, ob_s]
  exact h1'.2
theorem HV.n (h : HV Hp P G) : hlen 4 Hp (P 2 0) = some (nI (G 14 0)) := by
  obtain ⟨-, -, ⟨f, g, h3, h3'⟩, -⟩ := h
  exact hlen_N h3
theorem HV.tl (h : HV Hp P G) : hlen 1 Hp (P 1 0) = some (nI 5) := by
  obtain ⟨-, ⟨f, g, h3, h3'⟩, -⟩ := h
  exact hlen_N h3
theorem HV.a (h : HV Hp P G) {a : Nat} (ha : a < 5) : hldI 1 Hp (P 1 0) (nI a) = some (nI (G 1 a)) := by
  obtain ⟨-, ⟨f, g, h2, h2'⟩, -⟩ := h
  rw [← h2' a ha]
  exact AI_.ld ⟨g, h2⟩ ha (by omega)
theorem HV.l (h : HV Hp P G) (W : WG G) {l : Nat} (hl : l < G 14 0) : hldR 4 Hp (P 2 0) (nI l) = some (P 3 l) := by
  have w0 := W.1
  obtain ⟨-, -, ⟨f, g, h3, h3'⟩, -⟩ := h
  rw [hldR_N h3 hl (by omega), h3' l hl]
theorem HV.np (h : HV Hp P G) {l : Nat} (hl : l < G 14 0) : hlen 3 Hp (P 3 l) = some (nI (G 2 l)) := by
  obtain ⟨-, -, -, h4, -⟩ := h
  obtain ⟨f, g, a, b⟩ := h4 l hl
  exact hlen_N a
theorem HV.p (h : HV Hp P G) (W : WG G) {l p : Nat} (hl : l < G 14 0) (hp : p < G 2 l) : hldR 3 Hp (P 3 l) (nI p) = some (P 4 (3 * l + p)) := by
  have w0 := W.1
  have w2 := (W.2.2.1 l (by omega)).1
  obtain ⟨-, -, -, h4, -⟩ := h
  obtain ⟨f, g, a, b⟩ := h4 l hl
  rw [hldR_N a hp (by omega), b p hp]
theorem HV.ns (h : HV Hp P G) {l p : Nat} (hl : l < G 14 0) (hp : p < G 2 l) : hlen 2 Hp (P 4 (3 * l + p)) = some (nI (G 3 (3 * l + p))) := by
  obtain ⟨-, -, -, -, h5, -⟩ := h
  obtain ⟨f, g, a, b⟩ := h5 l p hl hp
  exact hlen_N a
theorem HV.k (h : HV Hp P G) (W : WG G) {l p k : Nat} (hl : l < G 14 0) (hp : p < G 2 l) (hk : k < G 3 (3 * l + p)) : hldR 2 Hp (P 4 (3 * l + p)) (nI k) = some (P 5 (5 * (3 * l + p) + k)) := by
  have w0 := W.1
  have w2 := (W.2.2.1 l (by omega)).1
  have w3 := W.2.2.2.1 (3 * l + p) (by omega)
  obtain ⟨-, -, -, -, h5, -⟩ := h
  obtain ⟨f, g, a, b⟩ := h5 l p hl hp
  rw [hldR_N a hk (by omega), b k hk]
theorem HV.s (h : HV Hp P G) {l p k : Nat} (hl : l < G 14 0) (hp : p < G 2 l) (hk : k < G 3 (3 * l + p)) : hldI 0 Hp (P 5 (5 * (3 * l + p) + k)) (nI 0) = some (nI (G 4 (5 * (3 * l + p) + k))) ∧ hldI 0 Hp (P 5 (5 * (3 * l + p) + k)) (nI 1) = some (nI (G 5 (5 * (3 * l + p) + k))) ∧ hldI 0 Hp (P 5 (5 * (3 * l + p) + k)) (nI 2) = some (nI (G 6 (5 * (3 * l + p) + k))) ∧ hldI 0 Hp (P 5 (5 * (3 * l + p) + k)) (nI 3) = some (nI (G 7 (5 * (3 * l + p) + k))) := by
  obtain ⟨-, -, -, -, -, h6⟩ := h
  obtain ⟨f, g, a, b0, b1, b2, b3⟩ := h6 l p k hl hp hk
  have e : AI_ 0 Hp (P 5 (5 * (3 * l + p) + k)) 4 f := ⟨g, a⟩
  rw [e.ld (by omega) (by omega), e.ld (by omega) (by omega), e.ld (by omega) (by omega), e.ld (by omega) (by omega), b0, b1, b2, b3]
  exact ⟨rfl, rfl, rfl, rfl⟩
theorem hrc_s {α : Type} {os : List Nat} {f : Option α} (h : ∀ r ∈ os, (hN Hp r 5).isSome = true) : hrc Hp os f = f := if_neg (fun q => q h)
theorem hrc_0 {α : Type} {f : Option α} : hrc Hp [] f = f := hrc_s fun r hr => absurd hr List.not_mem_nil
theorem hcb_s {α ρ : Type} {rs os : List Nat} {v : α} {Hp2 : HS} {K : α → HS → Option ρ} (h1 : ∀ r ∈ rs, r < Hp.length) (h2 : ∀ r ∈ os, (hN Hp r 5).isSome = true) : hcb rs os Hp (some (v, Hp2)) K = K v Hp2 := by
  unfold hcb
  rw [if_neg (fun q => q.elim (fun q => q h1) (fun q => q h2))]
  rfl
theorem hcbL_s {α ρ : Type} {rs os : List Nat} {v : α} {S : XS} {Hp2 : HS} {K : α → XS → HS → Option ρ} (h1 : ∀ r ∈ rs, r < Hp.length) (h2 : ∀ r ∈ os, (hN Hp r 5).isSome = true) : hcbL rs os Hp (some (v, (S, Hp2))) K = K v S Hp2 := by
  unfold hcbL
  rw [if_neg (fun q => q.elim (fun q => q h1) (fun q => q h2))]
/-- a row of the heap holds the numbers of a row -/
def HR (Hp : HS) (R n : Nat) (r : Nat → Nat) : Prop := ∃ f, AI_ 0 Hp R n f ∧ ∀ l, l < n → f l = nI (r l)
theorem HR.x {R n : Nat} {r : Nat → Nat} (h : HR Hp R n r) (x : HX Hp Hp') : HR Hp' R n r := by
  obtain ⟨f, a, b⟩ := h
  exact ⟨f, a.x x, b⟩
theorem HR.t {R R' n : Nat} {r : Nat → Nat} (h : HR Hp R n r) (x : HT Hp Hp' R') (hR : R ≠ R') : HR Hp' R n r := by
  obtain ⟨f, a, b⟩ := h
  exact ⟨f, a.t x hR, b⟩
theorem HR.lt {R n : Nat} {r : Nat → Nat} (h : HR Hp R n r) : R < Hp.length := by
  obtain ⟨f, a, b⟩ := h
  exact a.lt
theorem HR.ld {R n : Nat} {r : Nat → Nat} (h : HR Hp R n r) {i : Nat} (hi : i < n) (hn : n ≤ 2560) : hldI 0 Hp R (nI i) = some (nI (r i)) := by
  obtain ⟨f, a, b⟩ := h
  rw [a.ld hi hn, b i hi]
theorem HR.cg {R n : Nat} {r r' : Nat → Nat} (h : HR Hp R n r) (e : ∀ l, l < n → r l = r' l) : HR Hp R n r' := by
  obtain ⟨f, a, b⟩ := h
  exact ⟨f, a, fun l hl => by rw [b l hl, e l hl]⟩
theorem HR.st {R n : Nat} {r : Nat → Nat} (h : HR Hp R n r) {i : Nat} (hi : i < n) (hn : n ≤ 2560) (v : Nat) : ∃ Hp1, (∀ {ρ : Type} (K : HS → Option ρ), hstI 0 Hp R (nI i) (nI v) K = K Hp1) ∧ HR Hp1 R n (uN r i v) ∧ HT Hp Hp1 R := by
  obtain ⟨f, a, b⟩ := h
  obtain ⟨Hp1, k1, k2, k3⟩ := a.st hi hn (nI v)
  refine ⟨Hp1, k1, ⟨_, k2, fun l hl => ?_⟩, k3⟩
  unfold upd uN
  by_cases e : l = i
  · rw [if_pos e, if_pos e]
  · rw [if_neg e, if_neg e]; exact b l hl
theorem HR.cl {rs : List Nat} {R n : Nat} {r : Nat → Nat} (h : HR Hp R n r) (hn : n ≤ 14) (hr : ∀ r ∈ rs, r < Hp.length) : ∃ Hp1 R1, (∀ {ρ : Type} (K : HS → Nat → Option ρ), hcl rs Hp R K = K Hp1 R1) ∧ HR Hp1 R1 n r ∧ R1 = Hp.length ∧ HX Hp Hp1 := by
  obtain ⟨f, a, b⟩ := h
  obtain ⟨Hp1, R1, k1, k2, k3, k4, k5⟩ := mk_C a hn hr
  exact ⟨Hp1, R1, k1, ⟨f, k2, b⟩, k3, k4⟩
theorem HR.nw {rs : List Nat} {n : Nat} (hn : n ≤ 14) (hr : ∀ r ∈ rs, r < Hp.length) : ∃ Hp1 R, (∀ {ρ : Type} (K : HS → Nat → Option ρ), hnw 0 rs Hp (nI n) K = K Hp1 R) ∧ HR Hp1 R n (fun _ => 0) ∧ R = Hp.length ∧ HX Hp Hp1 := by
  obtain ⟨Hp1, R1, k1, k2, k3, k4, k5⟩ := mk_I (t := 0) hn hr
  exact ⟨Hp1, R1, k1, ⟨_, ⟨_, k2⟩, fun _ _ => rfl⟩, k3, k4⟩
end VIEW
