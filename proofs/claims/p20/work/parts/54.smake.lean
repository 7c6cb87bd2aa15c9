section SMAKE
theorem n_add1 (a : Nat) : nI a + 1 = nI (a + 1) := nI_1 a
variable {P : Nat → Nat → Nat} {G : GS}
-- stages
def cN (G : GS) (b : Int32) (st : Nat) (r : Nat → Nat) (y x : Nat) : Nat := if x < y ∧ r x = 0 ∧ nI x ≠ b ∧ hp G r 100 x = true then st else r x
theorem hp_100 (W : WG G) {st : Nat} {r : Nat → Nat} (h0 : ∀ x, r x < st) (hs : st ≤ 100) {x : Nat} : hp G r 100 x = hp G r st x := by
  rw [Bool.eq_iff_iff]
  constructor
  · exact hp_row (fun y a b => ⟨a, h0 y⟩)
  · exact hp_row (fun y a b => ⟨a, by omega⟩)
theorem cN_sN (W : WG G) {b : Int32} {st : Nat} {r : Nat → Nat} (h0 : ∀ x, r x < st) (hs : st ≤ 100) : cN G b st r (G 14 0) = sN G b st r := by
  funext x
  unfold cN sN
  rw [hp_100 W h0 hs]
theorem S_stP {Hp0 : HS} (V0 : HV Hp0 P G) (W : WG G) {b : Int32} {st R R1 : Nat} {r : Nat → Nat} (hr : ∀ x, r x < 100) {y : Nat} (hy : y < G 14 0) (hR1 : Hp0.length ≤ R1) (hne : R ≠ R1) {K : HS → Int32 → Option (Nat × HS)} : ∀ m p N Hp, 0 ≤ p → p + m = G 2 y → m < N → HX Hp0 Hp → HR Hp R (G 14 0) r → ∀ q, HR Hp R1 (G 14 0) q → q y = (if r y = 0 ∧ nI y ≠ b ∧ anyR (fun p => hd G r 100 (3 * y + p)) 0 p = true then st else r y) → ∃ Hp1, HX Hp0 Hp1 ∧ HR Hp1 R (G 14 0) r ∧ HR Hp1 R1 (G 14 0) (uN q y (if r y = 0 ∧ nI y ≠ b ∧ hp G r 100 y = true then st else r y)) ∧ itr2 (mS_stages_F58 K (P 0 0) b R (nI st) R1 (nI y) (P 3 y) (nI (G 2 y))) N Hp (nI p) = K Hp1 (nI (y + 1)) := by
  have w0 := W.1
  have w2 := (W.2.2.1 y (by omega)).1
  intro m
  induction m with
  | zero =>
    intro p N Hp _ hpp hN X A q B hq
    match N, hN with
    | N + 1, _ =>
      refine ⟨Hp, X, A, B.cg (fun l hl => ?_), ?_⟩
      · unfold uN
        by_cases e : l = y
        · rw [if_pos e, e, hq, show p = G 2 y by omega]; rfl
        · rw [if_neg e]
      · show mS_stages_F58 _ _ _ _ _ _ _ _ _ _ _ _ = _
        unfold mS_stages_F58
        rw [le_t (by omega) (by omega), nI_1]
  | succ m ih =>
    intro p N Hp _ hpp hN X A q B hq
    match N, hN with
    | N + 1, hN =>
      have V := V0.x X
      have hry := hr y
      show ∃ Hp1, _ ∧ _ ∧ _ ∧ mS_stages_F58 K (P 0 0) b R (nI st) R1 (nI y) (P 3 y) (nI (G 2 y)) (itr2 (mS_stages_F58 K (P 0 0) b R (nI st) R1 (nI y) (P 3 y) (nI (G 2 y))) N) Hp (nI p) = _
      generalize hI : itr2 (mS_stages_F58 K (P 0 0) b R (nI st) R1 (nI y) (P 3 y) (nI (G 2 y))) N = I
      unfold mS_stages_F58
      rw [le_f (by omega) (by omega), V.p W hy (by omega), ob_s, A.ld hy (by omega), ob_s, show (0 : Int32) = nI 0 from rfl, nI_1]
      have keep : (r y = 0 → nI y ≠ b → hd G r 100 (3 * y + p) = false) → ∃ Hp1, HX Hp0 Hp1 ∧ HR Hp1 R (G 14 0) r ∧ HR Hp1 R1 (G 14 0) (uN q y (if r y = 0 ∧ nI y ≠ b ∧ hp G r 100 y = true then st else r y)) ∧ I Hp (nI (p + 1)) = K Hp1 (nI (y + 1)) := fun hf => by
        rw [← hI]
        refine ih (p + 1) N Hp (by omega) (by omega) (by omega) X A q B ?_
        rw [hq, anyR_snoc]
        by_cases e : r y = 0 ∧ nI y ≠ b
        · rw [hf e.1 e.2, Bool.or_false]
        · rw [if_neg (fun w => e ⟨w.1, w.2.1⟩), if_neg (fun w => e ⟨w.1, w.2.1⟩)]
      by_cases q0 : r y = 0
      · rw [eq_t q0]
        by_cases qb : nI y = b
        · rw [if_pos qb]
          exact keep (fun _ h => absurd qb h)
        · rw [if_neg qb, hrc_s V.os, S_holds V W A hr hy (by omega), ob_s, bz_i]
          cases hh : hd G r 100 (3 * y + p)
          · rw [if_neg (show ¬ (false = true) from fun e => by cases e)]
            exact keep (fun _ _ => hh)
          · rw [if_pos rfl]
            obtain ⟨Hp1, k1, k2, k3⟩ := B.st hy (by omega) st
            rw [k1]
            obtain ⟨Hp2, j1, j2, j3, j4⟩ := ih (p + 1) N Hp1 (by omega) (by omega) (by omega) (k3.x X hR1) (A.t k3 hne) (uN q y st) k2 (by
              rw [show uN q y st y = st from if_pos rfl, if_pos ⟨q0, qb, by rw [anyR_snoc, hh, Bool.or_true]⟩])
            rw [hI] at j4
            refine ⟨Hp2, j1, j2, j3.cg (fun l hl => ?_), j4⟩
            unfold uN
            by_cases e : l = y
            · rw [if_pos e, if_pos e]
            · rw [if_neg e, if_neg e, if_neg e]
      · rw [eq_f q0 (by omega) (by omega)]
        exact keep (fun h => absurd h q0)
theorem S_stL {Hp0 : HS} (V0 : HV Hp0 P G) (W : WG G) {b : Int32} {st R R1 : Nat} {r : Nat → Nat} (hr : ∀ x, r x < 100) (hR1 : Hp0.length ≤ R1) (hne : R ≠ R1) {K : HS → Nat → Int32 → Option (Nat × HS)} : ∀ m y N Hp, 0 ≤ y → y + m = G 14 0 → m < N → HX Hp0 Hp → HR Hp R (G 14 0) r → HR Hp R1 (G 14 0) (cN G b st r y) → ∃ Hp1, HX Hp0 Hp1 ∧ HR Hp1 R1 (G 14 0) (cN G b st r (G 14 0)) ∧ itr2 (mS_stages_F31 K (P 0 0) b R (nI st) R1) N Hp (nI y) = K Hp1 R1 (nI (st + 1)) := by
  have w0 := W.1
  intro m
  induction m with
  | zero =>
    intro y N Hp _ hy hN X A B
    match N, hN with
    | N + 1, _ =>
      have V := V0.x X
      refine ⟨Hp, X, by rw [show y = G 14 0 by omega] at B; exact B, ?_⟩
      show mS_stages_F31 _ _ _ _ _ _ _ _ _ = _
      unfold mS_stages_F31
      rw [V.g1, ob_s, V.n, ob_s, le_t (by omega) (by omega), nI_1]
  | succ m ih =>
    intro y N Hp _ hy hN X A B
    match N, hN with
    | N + 1, hN =>
      have V := V0.x X
      have w2 := (W.2.2.1 y (by omega)).1
      obtain ⟨Hp1, j1, j2, j3, j4⟩ := S_stP V0 W (b := b) (st := st) (R := R) (R1 := R1) hr (y := y) (by omega) hR1 hne (K := itr2 (mS_stages_F31 K (P 0 0) b R (nI st) R1) N) (G 2 y) 0 16 Hp (by omega) (by omega) (by omega) X A _ B (by
        unfold cN anyR
        rw [if_neg (by omega), if_neg (by simp)])
      obtain ⟨Hp2, i1, i2, i3⟩ := ih (y + 1) N Hp1 (by omega) (by omega) (by omega) j1 j2 (j3.cg (fun l hl => by
        unfold uN
        by_cases e : l = y
        · rw [if_pos e, e]
          unfold cN
          by_cases c : r y = 0 ∧ nI y ≠ b ∧ hp G r 100 y = true
          · rw [if_pos c, if_pos ⟨by omega, c⟩]
          · rw [if_neg c, if_neg (fun w => c w.2)]
        · rw [if_neg e]
          unfold cN
          by_cases c : l < y ∧ r l = 0 ∧ nI l ≠ b ∧ hp G r 100 l = true
          · rw [if_pos c, if_pos ⟨by omega, c.2⟩]
          · rw [if_neg c, if_neg (fun w => c ⟨by omega, w.2⟩)]))
      refine ⟨Hp2, i1, i2, ?_⟩
      show mS_stages_F31 K (P 0 0) b R (nI st) R1 (itr2 (mS_stages_F31 K (P 0 0) b R (nI st) R1) N) Hp (nI y) = _
      generalize hI : itr2 (mS_stages_F31 K (P 0 0) b R (nI st) R1) N = I at j4 i3 ⊢
      unfold mS_stages_F31
      rw [V.g1, ob_s, V.n, ob_s, le_f (by omega) (by omega), ob_s, V.l W (by omega), ob_s, V.np (by omega), ob_s, show (0 : Int32) = nI 0 from rfl]
      exact j4.trans i3
theorem S_stages {Hp0 : HS} (V0 : HV Hp0 P G) (W : WG G) (b : Int32) : ∃ Hp1 R, HX Hp0 Hp1 ∧ Hp0.length ≤ R ∧ HR Hp1 R (G 14 0) (stg G b) ∧ mS_stages Hp0 (P 0 0) b = some (R, Hp1) := by
  have w0 := W.1
  have key : ∀ m k N Hp R, k + m = G 14 0 → m < N → HX Hp0 Hp → Hp0.length ≤ R → HR Hp R (G 14 0) (stN G b k) → ∃ Hp1 R', HX Hp0 Hp1 ∧ Hp0.length ≤ R' ∧ HR Hp1 R' (G 14 0) (stg G b) ∧ itr3 (mS_stages_F10 (P 0 0) b) N Hp R (nI (k + 1)) = some (R', Hp1) := by
    intro m
    induction m with
    | zero =>
      intro k N Hp R hk hN X hR A
      match N, hN with
      | N + 1, _ =>
        have V := V0.x X
        refine ⟨Hp, R, X, hR, ?_, ?_⟩
        · rw [show k = G 14 0 by omega, stN_stg] at A; exact A
        · show mS_stages_F10 _ _ _ _ _ _ = _
          unfold mS_stages_F10
          rw [V.g1, ob_s, V.n, ob_s, lt_t (by omega) (by omega)]
    | succ m ih =>
      intro k N Hp R hk hN X hR A
      match N, hN with
      | N + 1, hN =>
        have V := V0.x X
        have S0 := stN_V (G := G) (b := b) k
        obtain ⟨Hp1, R1, k1, k2, k3, k4⟩ := A.cl (rs := [P 0 0, R]) (by omega) (mem2 V.lt A.lt)
        have hne : R ≠ R1 := by have := A.lt; omega
        have hr : ∀ x, stN G b k x < 100 := fun x => by have := S0.1 x; omega
        obtain ⟨Hp2, j1, j2, j3⟩ := S_stL V0 W (b := b) (st := k + 1) (R := R) (R1 := R1) (r := stN G b k) hr (by have := X.1; omega) hne (K := itr3 (mS_stages_F10 (P 0 0) b) N) (G 14 0) 0 16 Hp1 (by omega) (by omega) (by omega) (X.tr k4) (A.x k4) (k2.cg (fun l hl => by
          unfold cN
          rw [if_neg (by omega)]))
        rw [cN_sN W S0.1 (by omega)] at j2
        obtain ⟨Hp3, R3, i1, i2, i3, i4⟩ := ih (k + 1) N Hp2 R1 (by omega) (by omega) j1 (by have := X.1; omega) j2
        refine ⟨Hp3, R3, i1, i2, i3, ?_⟩
        show mS_stages_F10 (P 0 0) b (itr3 (mS_stages_F10 (P 0 0) b) N) Hp R (nI (k + 1)) = _
        generalize hI : itr3 (mS_stages_F10 (P 0 0) b) N = I at j3 i4 ⊢
        unfold mS_stages_F10
        rw [V.g1, ob_s, V.n, ob_s, lt_f (by omega) (by omega), k1, show (0 : Int32) = nI 0 from rfl, j3]
        exact i4
  unfold mS_stages
  obtain ⟨Hp1, R, k1, k2, k3, k4⟩ := HR.nw (Hp := Hp0) (rs := [P 0 0]) (n := G 14 0) (by omega) (mem1 V0.lt)
  rw [V0.g1, ob_s, V0.n, ob_s, k1, show (1 : Int32) = nI (0 + 1) from rfl]
  exact key (G 14 0) 0 16 Hp1 R (by omega) (by omega) k4 (by omega) k2
-- lengths and prices
def cM (G : GS) (k : Nat) (r : Nat → Nat) (l : Nat) : Nat → Nat
  | 0 => r l
  | p + 1 => min (cM G k r l p) (cs G k r (3 * l + p))
theorem cM_le {k l : Nat} {r : Nat → Nat} : ∀ {p : Nat}, cM G k r l p ≤ r l := by
  intro p
  induction p with
  | zero => exact Nat.le_refl _
  | succ p ih => exact Nat.le_trans (Nat.min_le_left _ _) ih
theorem cM_cs {k l : Nat} {r : Nat → Nat} : ∀ {p q : Nat}, q < p → cM G k r l p ≤ cs G k r (3 * l + q) := by
  intro p
  induction p with
  | zero => intro q h; omega
  | succ p ih =>
    intro q h
    by_cases e : q = p
    · rw [e]; exact Nat.min_le_right _ _
    · exact Nat.le_trans (Nat.min_le_left _ _) (ih (by omega))
theorem cM_ge {k l v : Nat} {r : Nat → Nat} (h0 : v ≤ r l) : ∀ {p : Nat}, (∀ q, q < p → v ≤ cs G k r (3 * l + q)) → v ≤ cM G k r l p := by
  intro p
  induction p with
  | zero => intro _; exact h0
  | succ p ih => intro h; exact Nat.le_min.mpr ⟨ih (fun q hq => h q (by omega)), h p (by omega)⟩
def rM (G : GS) (k : Nat) (r : Nat → Nat) (y x : Nat) : Nat := if x < y then cM G k r x (G 2 x) else r x
def msN (G : GS) (k : Nat) : Nat → Nat → Nat
  | 0 => fun _ => 9999
  | i + 1 => rM G k (msN G k i) (G 14 0)
theorem msN_le {k : Nat} : ∀ {i : Nat} (x : Nat), msN G k i x ≤ 9999 := by
  intro i
  induction i with
  | zero => intro x; exact Nat.le_refl _
  | succ i ih =>
    intro x
    show rM G k (msN G k i) (G 14 0) x ≤ 9999
    unfold rM
    split
    · exact Nat.le_trans cM_le (ih x)
    · exact ih x
theorem msN_ge (W : WG G) {k : Nat} : ∀ {i : Nat} (x : Nat), x < G 14 0 → FL G k x ≤ msN G k i x := by
  have w0 := W.1
  intro i
  induction i with
  | zero => intro x _; exact FL_le
  | succ i ih =>
    intro x hx
    have w2 := (W.2.2.1 x (by omega)).1
    show FL G k x ≤ rM G k (msN G k i) (G 14 0) x
    unfold rM
    rw [if_pos hx]
    refine cM_ge (ih x hx) (fun q hq => ?_)
    exact Nat.le_trans ((FL_pf W x hx).2 q hq) (cs_mono W (by omega) (fun y hy => ih y hy))
theorem msN_fin (W : WG G) {k : Nat} : ∀ {i : Nat}, i ≤ G 14 0 → i ≤ fin G k (msN G k i) := by
  intro i
  induction i with
  | zero => intro _; exact Nat.zero_le _
  | succ i ih =>
    intro hi
    have hr : ∀ x, x < G 14 0 → msN G k (i + 1) x = cM G k (msN G k i) x (G 2 x) := fun x hx => if_pos hx
    exact fin_step W (r := msN G k i) (r' := msN G k (i + 1)) (fun x hx => ⟨msN_ge W (i := i + 1) x hx, by rw [hr x hx]; exact cM_le, msN_le x⟩) (fun l hl p hp => by rw [hr l hl]; exact cM_cs hp) (ih (by omega)) (by omega)
theorem msN_FL (W : WG G) {k i : Nat} (hi : G 14 0 ≤ i) : ∀ x, x < G 14 0 → msN G k i x = FL G k x := by
  have e : ∀ j, ∀ x, x < G 14 0 → msN G k (G 14 0 + j) x = FL G k x := by
    intro j
    induction j with
    | zero => exact fin_all (msN_fin W (Nat.le_refl _))
    | succ j ih =>
      intro x hx
      have h1 := msN_ge W (k := k) (i := G 14 0 + (j + 1)) x hx
      have h2 : msN G k (G 14 0 + (j + 1)) x = cM G k (msN G k (G 14 0 + j)) x (G 2 x) := if_pos hx
      have h3 := cM_le (G := G) (k := k) (l := x) (r := msN G k (G 14 0 + j)) (p := G 2 x)
      have := ih x hx
      omega
  intro x hx
  have := e (i - G 14 0) x hx
  rwa [show G 14 0 + (i - G 14 0) = i by omega] at this
theorem enc_min {a b : Nat} (ha : a ≤ 9999) (hb : b ≤ 9999) : lmin (nI (enc a)) (nI (enc b)) = nI (enc (min a b)) := by
  have e1 : enc a < 2147483648 := by unfold enc; split <;> omega
  have e2 : enc b < 2147483648 := by unfold enc; split <;> omega
  rw [lmin_n e1 e2]
  congr 1
  unfold enc
  by_cases h1 : a < 9999
  · rw [if_pos h1]
    by_cases h2 : b < 9999
    · rw [if_pos h2, if_pos (by omega)]
    · rw [if_neg h2, if_pos (by omega)]; omega
  · rw [if_neg h1]
    by_cases h2 : b < 9999
    · rw [if_pos h2, if_pos (by omega)]; omega
    · rw [if_neg h2, if_neg (by omega)]; omega
theorem S_msP {Hp0 : HS} (V0 : HV Hp0 P G) (W : WG G) {k st R R1 : Nat} (hk : k ≤ 1) {r : Nat → Nat} (hr : ∀ x, r x ≤ 9999) {y : Nat} (hy : y < G 14 0) (hR1 : Hp0.length ≤ R1) (hne : R ≠ R1) {K : HS → Int32 → Option (Nat × HS)} : ∀ m p N Hp, 0 ≤ p → p + m = G 2 y → m < N → HX Hp0 Hp → HR Hp R (G 14 0) (fun x => enc (r x)) → ∀ q, HR Hp R1 (G 14 0) q → q y = enc (cM G k r y p) → ∃ Hp1, HX Hp0 Hp1 ∧ HR Hp1 R (G 14 0) (fun x => enc (r x)) ∧ HR Hp1 R1 (G 14 0) (uN q y (enc (cM G k r y (G 2 y)))) ∧ itr2 (mS_measures_F77 K (P 0 0) (nI k) R (nI st) R1 (nI y) (P 3 y) (nI (G 2 y))) N Hp (nI p) = K Hp1 (nI (y + 1)) := by
  have w0 := W.1
  have w2 := (W.2.2.1 y (by omega)).1
  intro m
  induction m with
  | zero =>
    intro p N Hp _ hp hN X A q B hq
    match N, hN with
    | N + 1, _ =>
      refine ⟨Hp, X, A, B.cg (fun l hl => ?_), ?_⟩
      · unfold uN
        by_cases e : l = y
        · rw [if_pos e, e, hq, show p = G 2 y by omega]
        · rw [if_neg e]
      · show mS_measures_F77 _ _ _ _ _ _ _ _ _ _ _ _ = _
        unfold mS_measures_F77
        rw [le_t (by omega) (by omega), nI_1]
  | succ m ih =>
    intro p N Hp _ hp hN X A q B hq
    match N, hN with
    | N + 1, hN =>
      have V := V0.x X
      obtain ⟨Hp1, k1, k2, k3⟩ := B.st hy (by omega) (enc (cM G k r y (p + 1)))
      obtain ⟨Hp2, j1, j2, j3, j4⟩ := ih (p + 1) N Hp1 (by omega) (by omega) (by omega) (k3.x X hR1) (A.t k3 hne) _ k2 (if_pos rfl)
      refine ⟨Hp2, j1, j2, j3.cg (fun l hl => ?_), ?_⟩
      · unfold uN
        by_cases e : l = y
        · rw [if_pos e, if_pos e]
        · rw [if_neg e, if_neg e, if_neg e]
      · show mS_measures_F77 K (P 0 0) (nI k) R (nI st) R1 (nI y) (P 3 y) (nI (G 2 y)) (itr2 (mS_measures_F77 K (P 0 0) (nI k) R (nI st) R1 (nI y) (P 3 y) (nI (G 2 y))) N) Hp (nI p) = _
        generalize hI : itr2 (mS_measures_F77 K (P 0 0) (nI k) R (nI st) R1 (nI y) (P 3 y) (nI (G 2 y))) N = I at j4 ⊢
        unfold mS_measures_F77
        rw [le_f (by omega) (by omega), V.p W hy (by omega), ob_s, B.ld hy (by omega), ob_s, hrc_s V.os, S_measure V W hk A hr hy (by omega), ob_s, hq, enc_min (Nat.le_trans cM_le (hr y)) cs_le, show min (cM G k r y p) (cs G k r (3 * y + p)) = cM G k r y (p + 1) from rfl, k1, n_add1]
        exact j4
theorem S_msL {Hp0 : HS} (V0 : HV Hp0 P G) (W : WG G) {k st R R1 : Nat} (hk : k ≤ 1) {r : Nat → Nat} (hr : ∀ x, r x ≤ 9999) (hR1 : Hp0.length ≤ R1) (hne : R ≠ R1) {K : HS → Nat → Int32 → Option (Nat × HS)} : ∀ m y N Hp, 0 ≤ y → y + m = G 14 0 → m < N → HX Hp0 Hp → HR Hp R (G 14 0) (fun x => enc (r x)) → HR Hp R1 (G 14 0) (fun x => enc (rM G k r y x)) → ∃ Hp1, HX Hp0 Hp1 ∧ HR Hp1 R1 (G 14 0) (fun x => enc (rM G k r (G 14 0) x)) ∧ itr2 (mS_measures_F50 K (P 0 0) (nI k) R (nI st) R1) N Hp (nI y) = K Hp1 R1 (nI (st + 1)) := by
  have w0 := W.1
  intro m
  induction m with
  | zero =>
    intro y N Hp _ hy hN X A B
    match N, hN with
    | N + 1, _ =>
      have V := V0.x X
      refine ⟨Hp, X, by rw [show y = G 14 0 by omega] at B; exact B, ?_⟩
      show mS_measures_F50 _ _ _ _ _ _ _ _ _ = _
      unfold mS_measures_F50
      rw [V.g1, ob_s, V.n, ob_s, le_t (by omega) (by omega), nI_1]
  | succ m ih =>
    intro y N Hp _ hy hN X A B
    match N, hN with
    | N + 1, hN =>
      have V := V0.x X
      have w2 := (W.2.2.1 y (by omega)).1
      obtain ⟨Hp1, j1, j2, j3, j4⟩ := S_msP V0 W (k := k) (st := st) (R := R) (R1 := R1) hk hr (y := y) (by omega) hR1 hne (K := itr2 (mS_measures_F50 K (P 0 0) (nI k) R (nI st) R1) N) (G 2 y) 0 16 Hp (by omega) (by omega) (by omega) X A _ B (by
        show enc (rM G k r y y) = enc (r y)
        unfold rM
        rw [if_neg (by omega)])
      obtain ⟨Hp2, i1, i2, i3⟩ := ih (y + 1) N Hp1 (by omega) (by omega) (by omega) j1 j2 (j3.cg (fun l hl => by
        show uN (fun x => enc (rM G k r y x)) y (enc (cM G k r y (G 2 y))) l = enc (rM G k r (y + 1) l)
        by_cases e : l = y
        · subst e
          rw [show uN (fun x => enc (rM G k r l x)) l (enc (cM G k r l (G 2 l))) l = enc (cM G k r l (G 2 l)) from if_pos rfl, show rM G k r (l + 1) l = cM G k r l (G 2 l) from if_pos (by omega)]
        · rw [show uN (fun x => enc (rM G k r y x)) y (enc (cM G k r y (G 2 y))) l = enc (rM G k r y l) from if_neg e]
          unfold rM
          by_cases c : l < y
          · rw [if_pos c, if_pos (by omega)]
          · rw [if_neg c, if_neg (by omega)]))
      refine ⟨Hp2, i1, i2, ?_⟩
      show mS_measures_F50 K (P 0 0) (nI k) R (nI st) R1 (itr2 (mS_measures_F50 K (P 0 0) (nI k) R (nI st) R1) N) Hp (nI y) = _
      generalize hI : itr2 (mS_measures_F50 K (P 0 0) (nI k) R (nI st) R1) N = I at j4 i3 ⊢
      unfold mS_measures_F50
      rw [V.g1, ob_s, V.n, ob_s, le_f (by omega) (by omega), ob_s, V.l W (by omega), ob_s, V.np (by omega), ob_s, show (0 : Int32) = nI 0 from rfl]
      exact j4.trans i3
theorem S_measures {Hp0 : HS} (V0 : HV Hp0 P G) (W : WG G) {k : Nat} (hk : k ≤ 1) : ∃ Hp1 R, HX Hp0 Hp1 ∧ Hp0.length ≤ R ∧ HR Hp1 R (G 14 0) (fun x => enc (FL G k x)) ∧ mS_measures Hp0 (P 0 0) (nI k) = some (R, Hp1) := by
  have w0 := W.1
  have key : ∀ m i N Hp R, i + m = G 14 0 + 1 → m < N → HX Hp0 Hp → Hp0.length ≤ R → HR Hp R (G 14 0) (fun x => enc (msN G k i x)) → ∃ Hp1 R', HX Hp0 Hp1 ∧ Hp0.length ≤ R' ∧ HR Hp1 R' (G 14 0) (fun x => enc (FL G k x)) ∧ itr3 (mS_measures_F29 (P 0 0) (nI k)) N Hp R (nI i) = some (R', Hp1) := by
    intro m
    induction m with
    | zero =>
      intro i N Hp R hi hN X hR A
      match N, hN with
      | N + 1, _ =>
        have V := V0.x X
        refine ⟨Hp, R, X, hR, A.cg (fun l hl => congrArg enc (msN_FL W (by omega) l hl)), ?_⟩
        show mS_measures_F29 _ _ _ _ _ _ = _
        unfold mS_measures_F29
        rw [V.g1, ob_s, V.n, ob_s, lt_t (by omega) (by omega)]
    | succ m ih =>
      intro i N Hp R hi hN X hR A
      match N, hN with
      | N + 1, hN =>
        have V := V0.x X
        obtain ⟨Hp1, R1, k1, k2, k3, k4⟩ := A.cl (rs := [P 0 0, R]) (by omega) (mem2 V.lt A.lt)
        have hne : R ≠ R1 := by have := A.lt; omega
        obtain ⟨Hp2, j1, j2, j3⟩ := S_msL V0 W (k := k) (st := i) (R := R) (R1 := R1) hk (r := msN G k i) (fun x => msN_le x) (by have := X.1; omega) hne (K := itr3 (mS_measures_F29 (P 0 0) (nI k)) N) (G 14 0) 0 16 Hp1 (by omega) (by omega) (by omega) (X.tr k4) (A.x k4) (k2.cg (fun l hl => by
          show enc (msN G k i l) = enc (rM G k (msN G k i) 0 l)
          unfold rM
          rw [if_neg (by omega)]))
        obtain ⟨Hp3, R3, i1, i2, i3, i4⟩ := ih (i + 1) N Hp2 R1 (by omega) (by omega) j1 (by have := X.1; omega) j2
        refine ⟨Hp3, R3, i1, i2, i3, ?_⟩
        show mS_measures_F29 (P 0 0) (nI k) (itr3 (mS_measures_F29 (P 0 0) (nI k)) N) Hp R (nI i) = _
        generalize hI : itr3 (mS_measures_F29 (P 0 0) (nI k)) N = I at j3 i4 ⊢
        unfold mS_measures_F29
        rw [V.g1, ob_s, V.n, ob_s, lt_f (by omega) (by omega), k1, show (0 : Int32) = nI 0 from rfl, j3]
        exact i4
  have fill : ∀ m i N Hp R, i + m = G 14 0 → m < N → HX Hp0 Hp → Hp0.length ≤ R → HR Hp R (G 14 0) (fun x => if x < i then 100000 else 0) → ∃ Hp1 R', HX Hp0 Hp1 ∧ Hp0.length ≤ R' ∧ HR Hp1 R' (G 14 0) (fun x => enc (FL G k x)) ∧ itr2 (mS_measures_F10 (P 0 0) (nI k) R) N Hp (nI i) = some (R', Hp1) := by
    intro m
    induction m with
    | zero =>
      intro i N Hp R hi hN X hR A
      match N, hN with
      | N + 1, _ =>
        obtain ⟨f, a, b⟩ := id A
        obtain ⟨Hp1, R', j1, j2, j3, j4⟩ := key (G 14 0 + 1) 0 16 Hp R (by omega) (by omega) X hR (A.cg (fun l hl => if_pos (by omega)))
        refine ⟨Hp1, R', j1, j2, j3, ?_⟩
        show mS_measures_F10 _ _ _ _ _ _ = _
        unfold mS_measures_F10
        rw [a.len, ob_s, le_t (by omega) (by omega), show (0 : Int32) = nI 0 from rfl]
        exact j4
    | succ m ih =>
      intro i N Hp R hi hN X hR A
      match N, hN with
      | N + 1, hN =>
        obtain ⟨f, a, b⟩ := id A
        obtain ⟨Hp1, k1, k2, k3⟩ := A.st (i := i) (by omega) (by omega) 100000
        obtain ⟨Hp2, R', j1, j2, j3, j4⟩ := ih (i + 1) N Hp1 R (by omega) (by omega) (k3.x X hR) hR (k2.cg (fun l hl => by
          show (if l = i then 100000 else if l < i then 100000 else 0) = if l < i + 1 then 100000 else 0
          by_cases e : l = i
          · rw [if_pos e, if_pos (by omega)]
          · rw [if_neg e]
            by_cases c : l < i
            · rw [if_pos c, if_pos (by omega)]
            · rw [if_neg c, if_neg (by omega)]))
        refine ⟨Hp2, R', j1, j2, j3, ?_⟩
        show mS_measures_F10 (P 0 0) (nI k) R (itr2 (mS_measures_F10 (P 0 0) (nI k) R) N) Hp (nI i) = _
        generalize hI : itr2 (mS_measures_F10 (P 0 0) (nI k) R) N = I at j4 ⊢
        unfold mS_measures_F10
        rw [a.len, ob_s, le_f (by omega) (by omega), show (100000 : Int32) = nI 100000 from rfl, k1, nI_1]
        exact j4
  unfold mS_measures
  obtain ⟨Hp1, R, k1, k2, k3, k4⟩ := HR.nw (Hp := Hp0) (rs := [P 0 0]) (n := G 14 0) (by omega) (mem1 V0.lt)
  rw [V0.g1, ob_s, V0.n, ob_s, k1, show (0 : Int32) = nI 0 from rfl]
  exact fill (G 14 0) 0 16 Hp1 R (by omega) (by omega) k4 (by omega) (k2.cg (fun l hl => (if_neg (by omega)).symm))
end SMAKE
