section SCIRC
variable {P : Nat → Nat → Nat} {G : GS}
/-- a row of booleans in the heap -/
def HZ (Hp : HS) (R n : Nat) (q : Nat → Bool) : Prop := ∃ f, AI_ 1 Hp R n f ∧ ∀ l, l < n → f l = nI (q l).toNat
theorem HZ.x {Hp Hp' : HS} {R n : Nat} {q : Nat → Bool} (h : HZ Hp R n q) (x : HX Hp Hp') : HZ Hp' R n q := by
  obtain ⟨f, a, b⟩ := h
  exact ⟨f, a.x x, b⟩
theorem HZ.lt {Hp : HS} {R n : Nat} {q : Nat → Bool} (h : HZ Hp R n q) : R < Hp.length := by
  obtain ⟨f, a, b⟩ := h
  exact a.lt
theorem HZ.ld {Hp : HS} {R n : Nat} {q : Nat → Bool} (h : HZ Hp R n q) {i : Nat} (hi : i < n) (hn : n ≤ 2560) : hldI 1 Hp R (nI i) = some (nI (q i).toNat) := by
  obtain ⟨f, a, b⟩ := h
  rw [a.ld hi hn, b i hi]
theorem HZ.cg {Hp : HS} {R n : Nat} {q q' : Nat → Bool} (h : HZ Hp R n q) (e : ∀ l, l < n → q l = q' l) : HZ Hp R n q' := by
  obtain ⟨f, a, b⟩ := h
  exact ⟨f, a, fun l hl => by rw [b l hl, e l hl]⟩
theorem HZ.st {Hp : HS} {R n : Nat} {q : Nat → Bool} (h : HZ Hp R n q) {i : Nat} (hi : i < n) (hn : n ≤ 2560) : ∃ Hp1, (∀ {ρ : Type} (K : HS → Option ρ), hstI 1 Hp R (nI i) (1 &&& 1) K = K Hp1) ∧ HZ Hp1 R n (fun x => q x || i == x) ∧ HT Hp Hp1 R := by
  obtain ⟨f, a, b⟩ := h
  obtain ⟨Hp1, k1, k2, k3⟩ := a.st hi hn (1 &&& 1)
  refine ⟨Hp1, k1, ⟨_, k2, fun l hl => ?_⟩, k3⟩
  show upd f i (1 &&& 1) l = nI (q l || i == l).toNat
  unfold upd
  by_cases e : l = i
  · rw [if_pos e, e, beq_self_eq_true, Bool.or_true]; rfl
  · rw [if_neg e, beq_eq_false_iff_ne.mpr (Ne.symm e), Bool.or_false]; exact b l hl
theorem HZ.nw {Hp : HS} {rs : List Nat} {n : Nat} (hn : n ≤ 14) (hr : ∀ r ∈ rs, r < Hp.length) : ∃ Hp1 R, (∀ {ρ : Type} (K : HS → Nat → Option ρ), hnw 1 rs Hp (nI n) K = K Hp1 R) ∧ HZ Hp1 R n (fun _ => false) ∧ R = Hp.length ∧ HX Hp Hp1 := by
  obtain ⟨Hp1, R1, k1, k2, k3, k4, k5⟩ := mk_I (t := 1) hn hr
  exact ⟨Hp1, R1, k1, ⟨_, ⟨_, k2⟩, fun _ _ => rfl⟩, k3, k4⟩
theorem S_onK {Hp0 : HS} (V0 : HV Hp0 P G) (W : WG G) {F R1 y p : Nat} (hy : y < G 14 0) (hpp : p < G 2 y) (hR1 : Hp0.length ≤ R1) {K : HS → Int32 → Option (Nat × HS)} : ∀ m k N Hp, k + m = G 3 (3 * y + p) → m < N → HX Hp0 Hp → ∀ q, HZ Hp R1 (G 14 0) q → ∃ Hp1, HX Hp0 Hp1 ∧ HZ Hp1 R1 (G 14 0) (fun x => q x || anyR (ct G x) (5 * (3 * y + p) + k) m) ∧ itr2 (mS_on_F70 K (P 0 0) F R1 (nI y) (P 3 y) (nI (G 2 y)) (nI p) (P 4 (3 * y + p)) (nI (G 3 (3 * y + p)))) N Hp (nI k) = K Hp1 (nI (p + 1)) := by
  have w0 := W.1
  have w2 := (W.2.2.1 y (by omega)).1
  have w3 := W.2.2.2.1 (3 * y + p) (by omega)
  intro m
  induction m with
  | zero =>
    intro k N Hp hk hN X q B
    match N, hN with
    | N + 1, _ =>
      refine ⟨Hp, X, B.cg (fun l _ => (Bool.or_false _).symm), ?_⟩
      show mS_on_F70 _ _ _ _ _ _ _ _ _ _ _ _ _ = _
      unfold mS_on_F70
      rw [le_t (by omega) (by omega), n_add1]
  | succ m ih =>
    intro k N Hp hk hN X q B
    match N, hN with
    | N + 1, hN =>
      have V := V0.x X
      obtain ⟨f4, f5, f5', f5'', f6, f6', f7⟩ := W.2.2.2.2 (3 * y + p) (5 * (3 * y + p) + k) (by omega) (by omega) (by omega)
      obtain ⟨e0, e1, e2, e3⟩ := V.s hy hpp (k := k) (by omega)
      have step : ∀ x, anyR (ct G x) (5 * (3 * y + p) + k) (m + 1) = (ct G x (5 * (3 * y + p) + k) || anyR (ct G x) (5 * (3 * y + p) + (k + 1)) m) := fun x => rfl
      show ∃ Hp1, _ ∧ _ ∧ mS_on_F70 K (P 0 0) F R1 (nI y) (P 3 y) (nI (G 2 y)) (nI p) (P 4 (3 * y + p)) (nI (G 3 (3 * y + p))) (itr2 (mS_on_F70 K (P 0 0) F R1 (nI y) (P 3 y) (nI (G 2 y)) (nI p) (P 4 (3 * y + p)) (nI (G 3 (3 * y + p)))) N) Hp (nI k) = _
      generalize hI : itr2 (mS_on_F70 K (P 0 0) F R1 (nI y) (P 3 y) (nI (G 2 y)) (nI p) (P 4 (3 * y + p)) (nI (G 3 (3 * y + p)))) N = I
      unfold mS_on_F70
      rw [le_f (by omega) (by omega), V.k W hy hpp (by omega), ob_s, show (0 : Int32) = nI 0 from rfl, e0, ob_s, n_add1]
      by_cases c : G 4 (5 * (3 * y + p) + k) = 1
      · have h5 := f5' c
        obtain ⟨Hp1, k1, k2, k3⟩ := B.st h5 (by omega)
        obtain ⟨Hp2, j1, j2, j3⟩ := ih (k + 1) N Hp1 (by omega) (by omega) (k3.x X hR1) _ k2
        rw [hI] at j3
        refine ⟨Hp2, j1, j2.cg (fun l _ => ?_), ?_⟩
        · rw [step, show ct G l (5 * (3 * y + p) + k) = (G 5 (5 * (3 * y + p) + k) == l) by unfold ct; rw [beq_iff_eq.mpr c, Bool.true_and], Bool.or_assoc]
        · rw [if_pos (show nI (G 4 (5 * (3 * y + p) + k)) = (1 : Int32) from congrArg nI c), show (1 : Int32) = nI 1 from rfl, e1, ob_s]
          exact (k1 _).trans j3
      · obtain ⟨Hp2, j1, j2, j3⟩ := ih (k + 1) N Hp (by omega) (by omega) X _ B
        rw [hI] at j3
        refine ⟨Hp2, j1, j2.cg (fun l _ => ?_), ?_⟩
        · rw [step, show ct G l (5 * (3 * y + p) + k) = false by unfold ct; rw [beq_eq_false_iff_ne.mpr c, Bool.false_and], Bool.false_or]
        · rw [if_neg (show ¬ nI (G 4 (5 * (3 * y + p) + k)) = (1 : Int32) from fun e => c ((nI_eq (b := 1) (by omega) (by omega)).mp e))]
          exact j3
theorem S_onP {Hp0 : HS} (V0 : HV Hp0 P G) (W : WG G) {F R1 y : Nat} (hy : y < G 14 0) (hR1 : Hp0.length ≤ R1) {K : HS → Int32 → Option (Nat × HS)} : ∀ m p N Hp, p + m = G 2 y → m < N → HX Hp0 Hp → ∀ q, HZ Hp R1 (G 14 0) q → ∃ Hp1, HX Hp0 Hp1 ∧ HZ Hp1 R1 (G 14 0) (fun x => q x || anyR (fun p => ldp G x (3 * y + p)) p m) ∧ itr2 (mS_on_F44 K (P 0 0) F R1 (nI y) (P 3 y) (nI (G 2 y))) N Hp (nI p) = K Hp1 (nI (y + 1)) := by
  have w0 := W.1
  have w2 := (W.2.2.1 y (by omega)).1
  intro m
  induction m with
  | zero =>
    intro p N Hp hpp hN X q B
    match N, hN with
    | N + 1, _ =>
      refine ⟨Hp, X, B.cg (fun l _ => (Bool.or_false _).symm), ?_⟩
      show mS_on_F44 _ _ _ _ _ _ _ _ _ _ = _
      unfold mS_on_F44
      rw [le_t (by omega) (by omega), n_add1]
  | succ m ih =>
    intro p N Hp hpp hN X q B
    match N, hN with
    | N + 1, hN =>
      have V := V0.x X
      have w3 := W.2.2.2.1 (3 * y + p) (by omega)
      obtain ⟨Hp1, k1, k2, k3⟩ := S_onK V0 W (F := F) (R1 := R1) hy (p := p) (by omega) hR1 (K := itr2 (mS_on_F44 K (P 0 0) F R1 (nI y) (P 3 y) (nI (G 2 y))) N) (G 3 (3 * y + p)) 0 16 Hp (by omega) (by omega) X q B
      obtain ⟨Hp2, j1, j2, j3⟩ := ih (p + 1) N Hp1 (by omega) (by omega) k1 _ k2
      refine ⟨Hp2, j1, j2.cg (fun l _ => ?_), ?_⟩
      · rw [show anyR (fun p => ldp G l (3 * y + p)) p (m + 1) = (ldp G l (3 * y + p) || anyR (fun p => ldp G l (3 * y + p)) (p + 1) m) from rfl, Bool.or_assoc]
        rfl
      · show mS_on_F44 K (P 0 0) F R1 (nI y) (P 3 y) (nI (G 2 y)) (itr2 (mS_on_F44 K (P 0 0) F R1 (nI y) (P 3 y) (nI (G 2 y))) N) Hp (nI p) = _
        generalize hI : itr2 (mS_on_F44 K (P 0 0) F R1 (nI y) (P 3 y) (nI (G 2 y))) N = I at k3 j3 ⊢
        unfold mS_on_F44
        rw [le_f (by omega) (by omega), V.p W hy (by omega), ob_s, V.ns hy (by omega), ob_s, show (0 : Int32) = nI 0 from rfl]
        exact k3.trans j3
theorem S_on {Hp0 : HS} (V0 : HV Hp0 P G) (W : WG G) {F : Nat} {f : Nat → Bool} (A : HZ Hp0 F (G 14 0) f) : ∃ Hp1 R1, HX Hp0 Hp1 ∧ Hp0.length ≤ R1 ∧ HZ Hp1 R1 (G 14 0) (fun x => anyR (fun s => f s && ld G s x) 0 (G 14 0)) ∧ mS_on Hp0 (P 0 0) F = some (R1, Hp1) := by
  have w0 := W.1
  obtain ⟨HpA, R1, a1, a2, a3, a4⟩ := HZ.nw (Hp := Hp0) (rs := [P 0 0, F]) (n := G 14 0) (by omega) (mem2 V0.lt A.lt)
  have key : ∀ m y N Hp, y + m = G 14 0 → m < N → HX Hp0 Hp → ∀ q, HZ Hp R1 (G 14 0) q → ∃ Hp1, HX Hp0 Hp1 ∧ HZ Hp1 R1 (G 14 0) (fun x => q x || anyR (fun s => f s && ld G s x) y m) ∧ itr2 (mS_on_F10 (P 0 0) F R1) N Hp (nI y) = some (R1, Hp1) := by
    intro m
    induction m with
    | zero =>
      intro y N Hp hy hN X q B
      match N, hN with
      | N + 1, _ =>
        have V := V0.x X
        refine ⟨Hp, X, B.cg (fun l _ => (Bool.or_false _).symm), ?_⟩
        show mS_on_F10 _ _ _ _ _ _ = _
        unfold mS_on_F10
        rw [V.g1, ob_s, V.n, ob_s, le_t (by omega) (by omega)]
    | succ m ih =>
      intro y N Hp hy hN X q B
      match N, hN with
      | N + 1, hN =>
        have V := V0.x X
        have w2 := (W.2.2.1 y (by omega)).1
        have step : ∀ x, anyR (fun s => f s && ld G s x) y (m + 1) = ((f y && ld G y x) || anyR (fun s => f s && ld G s x) (y + 1) m) := fun x => rfl
        show ∃ Hp1, _ ∧ _ ∧ mS_on_F10 (P 0 0) F R1 (itr2 (mS_on_F10 (P 0 0) F R1) N) Hp (nI y) = _
        by_cases c : f y = true
        · obtain ⟨Hp1, k1, k2, k3⟩ := S_onP V0 W (F := F) (R1 := R1) (y := y) (by omega) (by omega) (K := itr2 (mS_on_F10 (P 0 0) F R1) N) (G 2 y) 0 16 Hp (by omega) (by omega) X q B
          obtain ⟨Hp2, j1, j2, j3⟩ := ih (y + 1) N Hp1 (by omega) (by omega) k1 _ k2
          refine ⟨Hp2, j1, j2.cg (fun l _ => ?_), ?_⟩
          · rw [step, c, Bool.true_and, Bool.or_assoc]
            rfl
          · generalize hI : itr2 (mS_on_F10 (P 0 0) F R1) N = I at k3 j3 ⊢
            unfold mS_on_F10
            rw [V.g1, ob_s, V.n, ob_s, le_f (by omega) (by omega), (A.x X).ld (by omega) (by omega), ob_s, c, if_neg (by decide), ob_s, V.l W (by omega), ob_s, V.np (by omega), ob_s, show (0 : Int32) = nI 0 from rfl]
            exact k3.trans j3
        · have c : f y = false := by
            cases h : f y
            · rfl
            · exact absurd h c
          obtain ⟨Hp2, j1, j2, j3⟩ := ih (y + 1) N Hp (by omega) (by omega) X _ B
          refine ⟨Hp2, j1, j2.cg (fun l _ => ?_), ?_⟩
          · rw [step, c, Bool.false_and, Bool.false_or]
          · generalize hI : itr2 (mS_on_F10 (P 0 0) F R1) N = I at j3 ⊢
            unfold mS_on_F10
            rw [V.g1, ob_s, V.n, ob_s, le_f (by omega) (by omega), (A.x X).ld (by omega) (by omega), ob_s, c, if_pos (by decide), n_add1]
            exact j3
  obtain ⟨Hp1, k1, k2, k3⟩ := key (G 14 0) 0 16 HpA (by omega) (by omega) a4 _ a2
  refine ⟨Hp1, R1, k1, by omega, k2.cg (fun l _ => Bool.false_or _), ?_⟩
  unfold mS_on
  rw [V0.g1, ob_s, V0.n, ob_s, a1, show (0 : Int32) = nI 0 from rfl]
  exact k3
def cset (G : GS) (l : Nat) : Nat → Nat → Bool
  | 0 => fun x => l == x
  | k + 1 => rk G l k
theorem cset_next {l k x : Nat} (hl : l < G 14 0) : anyR (fun s => cset G l k s && ld G s x) 0 (G 14 0) = cset G l (k + 1) x := by
  cases k with
  | zero =>
    show anyR (fun s => (l == s) && ld G s x) 0 (G 14 0) = ld G l x
    rw [Bool.eq_iff_iff, anyR_iff]
    constructor
    · rintro ⟨s, _, _, h⟩
      rw [Bool.and_eq_true, beq_iff_eq] at h
      rw [h.1]; exact h.2
    · intro h
      exact ⟨l, by omega, by omega, by rw [beq_self_eq_true, Bool.true_and]; exact h⟩
  | succ k => rfl
theorem S_circle {Hp0 : HS} (V0 : HV Hp0 P G) (W : WG G) {l : Nat} (hl : l < G 14 0) : ∃ Hp1, HX Hp0 Hp1 ∧ mS_circle Hp0 (P 0 0) (nI l) = some (nI (lst G l l (G 14 0)), Hp1) := by
  have w0 := W.1
  have key : ∀ m k N Hp R, k + m = G 14 0 → m < N → HX Hp0 Hp → HZ Hp R (G 14 0) (cset G l k) → lst G l l k = 0 → ∃ Hp1, HX Hp0 Hp1 ∧ itr3 (mS_circle_F14 (P 0 0) (nI l)) N Hp R (nI (k + 1)) = some (nI (lst G l l (G 14 0)), Hp1) := by
    intro m
    induction m with
    | zero =>
      intro k N Hp R hk hN X A h0
      match N, hN with
      | N + 1, _ =>
        have V := V0.x X
        refine ⟨Hp, X, ?_⟩
        show mS_circle_F14 _ _ _ _ _ _ = _
        unfold mS_circle_F14
        rw [V.g1, ob_s, V.n, ob_s, lt_t (by omega) (by omega), show G 14 0 = k by omega, h0]
        rfl
    | succ m ih =>
      intro k N Hp R hk hN X A h0
      match N, hN with
      | N + 1, hN =>
        have V := V0.x X
        obtain ⟨Hp1, R1, k1, k2, k3, k4⟩ := S_on V W A
        have k3 := k3.cg (q' := cset G l (k + 1)) (fun x _ => cset_next hl)
        have hs : lst G l l (k + 1) = if rk G l k l = true then k + 1 else 0 := by rw [lst_s, if_neg (by omega)]
        show ∃ Hp1, _ ∧ mS_circle_F14 (P 0 0) (nI l) (itr3 (mS_circle_F14 (P 0 0) (nI l)) N) Hp R (nI (k + 1)) = _
        generalize hI : itr3 (mS_circle_F14 (P 0 0) (nI l)) N = I
        unfold mS_circle_F14
        rw [V.g1, ob_s, V.n, ob_s, lt_f (by omega) (by omega), k4, hcb_s (mem1 V.lt) V.os, k3.ld hl (by omega), ob_s, show (0 : Int32) = nI 0 from rfl, bz_i, n_add1]
        by_cases c : cset G l (k + 1) l = true
        · rw [if_pos c]
          refine ⟨Hp1, X.tr k1, ?_⟩
          have c : rk G l k l = true := c
          rw [if_pos c] at hs
          rw [lst_stay (G := G) (l := l) (t := l) (v := k + 1) (by omega) (show k + 1 ≤ G 14 0 by omega), hs]
        · rw [if_neg c]
          have c : ¬ rk G l k l = true := c
          rw [if_neg c] at hs
          obtain ⟨Hp2, j1, j2⟩ := ih (k + 1) N Hp1 R1 (by omega) (by omega) (X.tr k1) k3 hs
          rw [hI] at j2
          exact ⟨Hp2, j1, j2⟩
  obtain ⟨HpA, R, a1, a2, a3, a4⟩ := HZ.nw (Hp := Hp0) (rs := [P 0 0]) (n := G 14 0) (by omega) (mem1 V0.lt)
  obtain ⟨HpB, b1, b2, b3⟩ := a2.st hl (by omega)
  obtain ⟨Hp1, k1, k2⟩ := key (G 14 0) 0 16 HpB R (by omega) (by omega) (b3.x a4 (by omega)) (b2.cg (fun x _ => Bool.false_or _)) rfl
  refine ⟨Hp1, k1, ?_⟩
  unfold mS_circle
  rw [V0.g1, ob_s, V0.n, ob_s, a1, b1, show (1 : Int32) = nI (0 + 1) from rfl]
  exact k2
end SCIRC
