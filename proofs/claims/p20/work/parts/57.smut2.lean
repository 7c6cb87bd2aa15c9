section SMUTB
variable {P : Nat → Nat → Nat} {G : GS} {Hp : HS}
def pW (P : Nat → Nat → Nat) (k0 x0 v : Nat) : Nat → Nat → Nat := fun k x => if k = k0 ∧ x = x0 then v else P k x
theorem pW_s {k0 x0 v : Nat} : pW P k0 x0 v k0 x0 = v := if_pos ⟨rfl, rfl⟩
theorem pW_k {k0 x0 v k x : Nat} (h : k ≠ k0) : pW P k0 x0 v k x = P k x := if_neg (fun w => h w.1)
theorem pW_x {k0 x0 v k x : Nat} (h : x ≠ x0) : pW P k0 x0 v k x = P k x := if_neg (fun w => h w.2)
theorem pW_4 {x0 v x : Nat} : pW P 4 x0 v 3 x = P 3 x := pW_k (by omega)
theorem slot_in {l p l' p' : Nat} (hp : p < 3) (hp' : p' < 3) (e : 3 * l + p = 3 * l' + p') : l = l' ∧ p = p' := by omega
/-- a new proof -/
theorem S_proof (h : HL Hp P G) (W : WG G) {l : Nat} (hl : l < G 14 0) (hnp : G 2 l < 3) : ∃ Hp1 P1, HL Hp1 P1 (gs (gs G 3 (3 * l + G 2 l) 0) 2 l (G 2 l + 1)) ∧ P1 0 0 = P 0 0 ∧ P1 1 0 = P 1 0 ∧ Hp.length ≤ Hp1.length ∧ mS_proof Hp (P 0 0) (nI l) = some (0, Hp1) := by
  have V := h.1
  have w0 := W.1
  obtain ⟨⟨⟨n, f, g, h1, h1'⟩, ⟨f2, g2, h2, h2'⟩, ⟨f3, g3, h3, h3'⟩, h4, h5, h6⟩, hi⟩ := h
  obtain ⟨HpA, R, a1, a2, a3, a4, a5⟩ := AR.nw (t := 3) (Hp := Hp) (rs := [P 0 0]) (n := G 2 l + 1) (by omega) (mem1 V.lt)
  obtain ⟨fl, gl, hl3, hl3'⟩ := h4 l hl
  have key : ∀ m i N Hq, i + m = G 2 l → m < N → HX Hp Hq → ∀ q, AR 3 Hq R (G 2 l + 1) q → (∀ p, p < i → q p = some (P 4 (3 * l + p))) → ∃ Hp1 P1, HL Hp1 P1 (gs (gs G 3 (3 * l + G 2 l) 0) 2 l (G 2 l + 1)) ∧ P1 0 0 = P 0 0 ∧ P1 1 0 = P 1 0 ∧ Hp.length ≤ Hp1.length ∧ itr2 (mS_proof_F15 (P 0 0) (nI l) R) N Hq (nI i) = some (0, Hp1) := by
    intro m
    induction m with
    | zero =>
      intro i N Hq hm hNN X q B hq
      match N, hNN with
      | N + 1, _ =>
        have V1 := V.x X
        obtain ⟨HpB, Q, b1, b2, b3, b4, b5⟩ := AR.nw (t := 2) (Hp := Hq) (rs := [P 0 0, R]) (n := 0) (by omega) (mem2 V1.lt B.lt)
        obtain ⟨fQ, hQ⟩ := b2
        have hRQ : R ≠ Q := by have := B.lt; omega
        obtain ⟨HpC, c1, c2, c3⟩ := (B.x b4).st hQ (i := G 2 l) (by omega) (by omega)
        obtain ⟨fR, hR⟩ := c2
        have hRlt : R < Hq.length := B.lt
        have XB : HX Hp HpB := X.tr b4
        have oldC : ∀ r t c, hN Hp r t = some c → hN HpC r t = some c := fun r t c w => by
          have := hN_lt w
          rw [c3.2 r t (by omega)]
          exact XB.2 r t c w
        have hC4 := oldC _ _ _ h3
        obtain ⟨HpD, d1, d2, d3⟩ := AR.st (t := 4) (te := 3) (v := R) ⟨f3, hC4⟩ hR (i := l) hl (by omega)
        obtain ⟨fA, hA⟩ := d2
        have oldD : ∀ r t c, hN Hp r t = some c → t ≠ 4 → hN HpD r t = some c := fun r t c w ht => d3.d hC4 (oldC r t c w) ht
        have hQC : hN HpC Q 2 = some (2, 0, fQ, fun _ => none) := by rw [c3.2 Q 2 (Ne.symm hRQ)]; exact hQ
        have hP3 : ∀ l, l < G 14 0 → P 3 l < Hp.length := fun l hl => by
          obtain ⟨f, g, a, b⟩ := h4 l hl
          exact hN_lt a
        have e14 : gs (gs G 3 (3 * l + G 2 l) 0) 2 l (G 2 l + 1) 14 = G 14 := by rw [gs_n (by omega), gs_n (by omega)]
        have e1 : gs (gs G 3 (3 * l + G 2 l) 0) 2 l (G 2 l + 1) 1 = G 1 := by rw [gs_n (by omega), gs_n (by omega)]
        have e2 : gs (gs G 3 (3 * l + G 2 l) 0) 2 l (G 2 l + 1) 2 = uN (G 2) l (G 2 l + 1) := by rw [gs_s, gs_n (by omega)]
        have e3 : gs (gs G 3 (3 * l + G 2 l) 0) 2 l (G 2 l + 1) 3 = uN (G 3) (3 * l + G 2 l) 0 := by rw [gs_n (by omega), gs_s]
        have ek : ∀ k, 4 ≤ k → k ≤ 7 → gs (gs G 3 (3 * l + G 2 l) 0) 2 l (G 2 l + 1) k = G k := fun k k1 k2 => by rw [gs_n (by omega), gs_n (by omega)]
        have old : ∀ l' p', l' < G 14 0 → p' < uN (G 2) l (G 2 l + 1) l' → 3 * l' + p' ≠ 3 * l + G 2 l → p' < G 2 l' := fun l' p' hl' hp' ne => by
          unfold uN at hp'
          by_cases e : l' = l
          · rw [if_pos e] at hp'
            rw [e] at ne ⊢; omega
          · rw [if_neg e] at hp'; exact hp'
        refine ⟨HpD, pW (pW P 3 l R) 4 (3 * l + G 2 l) Q, ⟨⟨⟨n, f, g, oldD _ _ _ h1 (by omega), h1'⟩, ⟨f2, g2, oldD _ _ _ h2 (by omega), ?_⟩, ⟨fA, va_up g3 l (some R), ?_, ?_⟩, ?_, ?_, ?_⟩, ?_⟩, rfl, rfl, ?_, ?_⟩
        · rw [e1]; exact h2'
        · rw [e14]; exact hA
        · rw [e14]
          intro x hx
          rw [pW_k (by omega)]
          by_cases e : x = l
          · rw [e, vup_s, pW_s]
          · rw [vup_n e, pW_x e]; exact h3' x hx
        · rw [e14, e2]
          intro x hx
          rw [pW_k (by omega)]
          by_cases e : x = l
          · subst e
            refine ⟨fR, va_up q (G 2 x) (some Q), ?_, fun p hp => ?_⟩
            · rw [pW_s, uN_s]
              exact d3.d hC4 hR (by omega)
            · rw [uN_s] at hp
              by_cases e : p = G 2 x
              · rw [e, vup_s, pW_s]
              · rw [vup_n e, hq p (by omega), pW_x (by omega), pW_k (by omega)]
          · obtain ⟨f, g, a, b⟩ := h4 x hx
            refine ⟨f, g, ?_, fun p hp => ?_⟩
            · rw [pW_x e, uN_n e]
              exact oldD _ _ _ a (by omega)
            · rw [uN_n e] at hp
              have w2 := (W.2.2.1 x (by omega)).1
              rw [pW_x (by omega), pW_k (by omega)]
              exact b p hp
        · rw [e14, e2, e3]
          intro l' p' hl' hp'
          by_cases e : 3 * l' + p' = 3 * l + G 2 l
          · rw [e]
            refine ⟨fQ, (fun _ => none), ?_, fun k hk => ?_⟩
            · rw [pW_s, uN_s]
              exact d3.d hC4 hQC (by omega)
            · rw [uN_s] at hk; omega
          · have hp2 := old l' p' hl' hp' e
            obtain ⟨f, g, a, b⟩ := h5 l' p' hl' hp2
            refine ⟨f, g, ?_, fun k hk => ?_⟩
            · rw [pW_x e, pW_k (by omega), uN_n e]
              exact oldD _ _ _ a (by omega)
            · rw [uN_n e] at hk
              rw [pW_k (by omega), pW_k (by omega)]
              exact b k hk
        · rw [e14, e2, e3, ek 4 (by omega) (by omega), ek 5 (by omega) (by omega), ek 6 (by omega) (by omega), ek 7 (by omega) (by omega)]
          intro l' p' k hl' hp' hk
          by_cases e : 3 * l' + p' = 3 * l + G 2 l
          · rw [e, uN_s] at hk; omega
          · have hp2 := old l' p' hl' hp' e
            rw [uN_n e] at hk
            obtain ⟨f, g, a, b⟩ := h6 l' p' k hl' hp2 hk
            refine ⟨f, g, ?_, b⟩
            rw [pW_k (by omega), pW_k (by omega)]
            exact oldD _ _ _ a (by omega)
        · unfold HI
          rw [e14, e2, e3]
          refine ⟨fun x y hx hy e => ?_, fun l1 p1 k1 l2 p2 k2 hl1 hp1 hk1 hl2 hp2 hk2 e => ?_⟩
          · rw [pW_4, pW_4] at e
            have hX := X.1
            by_cases c : x = l
            · by_cases c' : y = l
              · omega
              · rw [c, pW_s, pW_x c'] at e
                have := hP3 y hy
                omega
            · by_cases c' : y = l
              · rw [c', pW_s, pW_x c] at e
                have := hP3 x hx
                omega
              · rw [pW_x c, pW_x c'] at e
                exact hi.1 x y hx hy e
          · rw [pW_k (by omega), pW_k (by omega), pW_k (by omega), pW_k (by omega)] at e
            have n1 : 3 * l1 + p1 ≠ 3 * l + G 2 l := fun w => by rw [w, uN_s] at hk1; omega
            have n2 : 3 * l2 + p2 ≠ 3 * l + G 2 l := fun w => by rw [w, uN_s] at hk2; omega
            rw [uN_n n1] at hk1
            rw [uN_n n2] at hk2
            exact hi.2 l1 p1 k1 l2 p2 k2 hl1 (old l1 p1 hl1 hp1 n1) hk1 hl2 (old l2 p2 hl2 hp2 n2) hk2 e
        · rw [d3.1, c3.1]
          exact XB.1
        · have g1C : hget HpC (P 0 0) 1 = some (P 2 0) := by
            unfold hget
            rw [oldC _ _ _ h1, ob_s]
            exact h1'.2
          show mS_proof_F15 _ _ _ _ _ _ = _
          unfold mS_proof_F15
          rw [V1.g1, ob_s, V1.l W hl, ob_s, V1.np hl, ob_s, le_t (by omega) (by omega), ob_s, V1.l W hl, ob_s, V1.np hl, ob_s, show (0 : Int32) = nI 0 from rfl, b1, c1, g1C, ob_s, d1]
    | succ m ih =>
      intro i N Hq hm hNN X q B hq
      match N, hNN with
      | N + 1, hNN =>
        have V1 := V.x X
        obtain ⟨f, g, a, b⟩ := h5 l i hl (by omega)
        obtain ⟨HpC, c1, c2, c3⟩ := B.st (X.2 _ _ _ a) (i := i) (by omega) (by omega)
        obtain ⟨Hp1, P1, j1, j2, j3, j4, j5⟩ := ih (i + 1) N HpC (by omega) (by omega) (c3.x X (by omega)) _ c2 (fun p hp => by
          by_cases e : p = i
          · rw [e, vup_s]
          · rw [vup_n e]; exact hq p (by omega))
        refine ⟨Hp1, P1, j1, j2, j3, j4, ?_⟩
        show mS_proof_F15 (P 0 0) (nI l) R (itr2 (mS_proof_F15 (P 0 0) (nI l) R) N) Hq (nI i) = _
        generalize hI : itr2 (mS_proof_F15 (P 0 0) (nI l) R) N = I at j5 ⊢
        unfold mS_proof_F15
        rw [V1.g1, ob_s, V1.l W hl, ob_s, V1.np hl, ob_s, le_f (by omega) (by omega), ob_s, V1.l W hl, ob_s, V1.p W hl (by omega), ob_s, c1, n_add1]
        exact j5
  obtain ⟨Hp1, P1, j1, j2, j3, j4, j5⟩ := key (G 2 l) 0 16 HpA (by omega) (by omega) a4 _ a2 (fun l hl => by omega)
  refine ⟨Hp1, P1, j1, j2, j3, j4, ?_⟩
  unfold mS_proof
  rw [V.g1, ob_s, V.l W hl, ob_s, V.np hl, ob_s, n_add1, a1, show (0 : Int32) = nI 0 from rfl]
  exact j5
-- a proof struck: the rows behind it move up
theorem mvs_3 : ∀ {m j : Nat} {G : GS} {x : Nat}, mvs G j m 3 x = if j ≤ x ∧ x < j + m then G 3 (x + 1) else G 3 x := by
  intro m
  induction m with
  | zero => intro j G x; rw [if_neg (by omega)]; rfl
  | succ m ih =>
    intro j G x
    show mvs (mv G j) (j + 1) m 3 x = _
    rw [ih, mv_3]
    by_cases c : j + 1 ≤ x ∧ x < j + 1 + m
    · rw [if_pos c, if_pos (by omega), uN_n (by omega)]
    · rw [if_neg c]
      by_cases e : x = j
      · rw [if_pos (by omega), e, uN_s]
      · rw [if_neg (by omega), uN_n e]
theorem mvs_k {k : Nat} (hk : 4 ≤ k ∧ k ≤ 7) : ∀ {m j : Nat} {G : GS} {x : Nat}, mvs G j m k x = if 5 * j ≤ x ∧ x < 5 * (j + m) then G k (x + 5) else G k x := by
  intro m
  induction m with
  | zero => intro j G x; rw [if_neg (by omega)]; rfl
  | succ m ih =>
    intro j G x
    show mvs (mv G j) (j + 1) m k x = _
    rw [ih, mv_k hk]
    by_cases c : 5 * (j + 1) ≤ x ∧ x < 5 * (j + 1 + m)
    · rw [if_pos c, if_pos (by omega), sh_out (by omega)]
    · rw [if_neg c]
      by_cases e : 5 * j ≤ x ∧ x < 5 * j + 5
      · rw [if_pos (by omega), sh_in e]
      · rw [if_neg (by omega), sh_out e]
theorem mvs_n {k : Nat} (hk : k < 3 ∨ 7 < k) : ∀ {m j : Nat} {G : GS}, mvs G j m k = G k := by
  intro m
  induction m with
  | zero => intro j G; rfl
  | succ m ih =>
    intro j G
    show mvs (mv G j) (j + 1) m k = _
    rw [ih, mv_n hk]
def pS (P : Nat → Nat → Nat) (l p e R : Nat) : Nat → Nat → Nat := fun k x => if k = 3 ∧ x = l then R else if k = 4 ∧ 3 * l + p ≤ x ∧ x < 3 * l + e then P 4 (x + 1) else if k = 5 ∧ 5 * (3 * l + p) ≤ x ∧ x < 5 * (3 * l + e) then P 5 (x + 5) else P k x
theorem pS_3 {l p e R x : Nat} : pS P l p e R 3 x = if x = l then R else P 3 x := by
  unfold pS
  by_cases c : x = l
  · rw [if_pos ⟨rfl, c⟩, if_pos c]
  · rw [if_neg (fun w => c w.2), if_neg (fun w => absurd w.1 (by omega)), if_neg (fun w => absurd w.1 (by omega)), if_neg c]
theorem pS_4 {l p e R x : Nat} : pS P l p e R 4 x = if 3 * l + p ≤ x ∧ x < 3 * l + e then P 4 (x + 1) else P 4 x := by
  unfold pS
  rw [if_neg (fun w => absurd w.1 (by omega))]
  by_cases c : 3 * l + p ≤ x ∧ x < 3 * l + e
  · rw [if_pos ⟨rfl, c⟩, if_pos c]
  · rw [if_neg (fun w => c w.2), if_neg (fun w => absurd w.1 (by omega)), if_neg c]
theorem pS_5 {l p e R x : Nat} : pS P l p e R 5 x = if 5 * (3 * l + p) ≤ x ∧ x < 5 * (3 * l + e) then P 5 (x + 5) else P 5 x := by
  unfold pS
  rw [if_neg (fun w => absurd w.1 (by omega)), if_neg (fun w => absurd w.1 (by omega))]
  by_cases c : 5 * (3 * l + p) ≤ x ∧ x < 5 * (3 * l + e)
  · rw [if_pos ⟨rfl, c⟩, if_pos c]
  · rw [if_neg (fun w => c w.2), if_neg c]
/-- which proof a proof behind was -/
def was (l p l' p' : Nat) : Nat := if l' = l ∧ p ≤ p' then p' + 1 else p'
theorem S_strike (h : HL Hp P G) (W : WG G) {l p e : Nat} (hl : l < G 14 0) (he : G 2 l = e + 1) (hp : p < e + 1) : ∃ Hp1 P1, HL Hp1 P1 (gs (mvs G (3 * l + p) (e - p)) 2 l e) ∧ P1 0 0 = P 0 0 ∧ P1 1 0 = P 1 0 ∧ Hp.length ≤ Hp1.length ∧ mS_strike Hp (P 0 0) (nI l) (nI p) = some (0, Hp1) := by
  have V := h.1
  have w0 := W.1
  have w2 := (W.2.2.1 l (by omega)).1
  obtain ⟨⟨⟨n, f, g, h1, h1'⟩, ⟨f2, g2, h2, h2'⟩, ⟨f3, g3, h3, h3'⟩, h4, h5, h6⟩, hi⟩ := h
  obtain ⟨HpA, R, a1, a2, a3, a4, a5⟩ := AR.nw (t := 3) (Hp := Hp) (rs := [P 0 0]) (n := e) (by omega) (mem1 V.lt)
  have e14 : gs (mvs G (3 * l + p) (e - p)) 2 l e 14 = G 14 := by rw [gs_n (by omega), mvs_n (by omega)]
  have e1 : gs (mvs G (3 * l + p) (e - p)) 2 l e 1 = G 1 := by rw [gs_n (by omega), mvs_n (by omega)]
  have e2 : gs (mvs G (3 * l + p) (e - p)) 2 l e 2 = uN (G 2) l e := by rw [gs_s, mvs_n (by omega)]
  have low : ∀ l' p', l' < G 14 0 → p' < uN (G 2) l e l' → was l p l' p' < G 2 l' ∧ p' < 3 := fun l' p' hl' hp' => by
    unfold uN at hp'
    unfold was
    have := (W.2.2.1 l' (by omega)).1
    by_cases c : l' = l
    · rw [if_pos c] at hp'
      rw [c]
      split <;> omega
    · rw [if_neg c] at hp'
      rw [if_neg (fun w => c w.1)]
      omega
  have e3 : ∀ l' p', l' < G 14 0 → p' < uN (G 2) l e l' → gs (mvs G (3 * l + p) (e - p)) 2 l e 3 (3 * l' + p') = G 3 (3 * l' + was l p l' p') := fun l' p' hl' hp' => by
    have := low l' p' hl' hp'
    rw [gs_n (by omega), mvs_3]
    unfold was
    unfold uN at hp'
    by_cases c : l' = l ∧ p ≤ p'
    · rw [if_pos c.1] at hp'
      rw [if_pos (by omega), if_pos c]
      rfl
    · rw [if_neg c, if_neg]
      intro w
      by_cases c' : l' = l
      · exact c ⟨c', by omega⟩
      · omega
  have ek : ∀ k, 4 ≤ k ∧ k ≤ 7 → ∀ l' p' i, l' < G 14 0 → p' < uN (G 2) l e l' → i < 5 → gs (mvs G (3 * l + p) (e - p)) 2 l e k (5 * (3 * l' + p') + i) = G k (5 * (3 * l' + was l p l' p') + i) := fun k hk l' p' i hl' hp' hi5 => by
    have := low l' p' hl' hp'
    rw [gs_n (by omega), mvs_k hk]
    unfold was
    unfold uN at hp'
    by_cases c : l' = l ∧ p ≤ p'
    · rw [if_pos c.1] at hp'
      rw [if_pos (by omega), if_pos c]
      congr 1; omega
    · rw [if_neg c, if_neg]
      intro w
      by_cases c' : l' = l
      · exact c ⟨c', by omega⟩
      · omega
  have p4 : ∀ l' p', l' < G 14 0 → p' < uN (G 2) l e l' → pS P l p e R 4 (3 * l' + p') = P 4 (3 * l' + was l p l' p') := fun l' p' hl' hp' => by
    have := low l' p' hl' hp'
    rw [pS_4]
    unfold was
    unfold uN at hp'
    by_cases c : l' = l ∧ p ≤ p'
    · rw [if_pos c.1] at hp'
      rw [if_pos (by omega), if_pos c]
      rfl
    · rw [if_neg c, if_neg]
      intro w
      by_cases c' : l' = l
      · exact c ⟨c', by omega⟩
      · omega
  have p5 : ∀ l' p' i, l' < G 14 0 → p' < uN (G 2) l e l' → i < 5 → pS P l p e R 5 (5 * (3 * l' + p') + i) = P 5 (5 * (3 * l' + was l p l' p') + i) := fun l' p' i hl' hp' hi5 => by
    have := low l' p' hl' hp'
    rw [pS_5]
    unfold was
    unfold uN at hp'
    by_cases c : l' = l ∧ p ≤ p'
    · rw [if_pos c.1] at hp'
      rw [if_pos (by omega), if_pos c]
      congr 1; omega
    · rw [if_neg c, if_neg]
      intro w
      by_cases c' : l' = l
      · exact c ⟨c', by omega⟩
      · omega
  have key : ∀ m i N Hq, i + m = e → m < N → HX Hp Hq → ∀ q, AR 3 Hq R e q → (∀ x, x < i → q x = some (P 4 (3 * l + was l p l x))) → ∃ Hp1 P1, HL Hp1 P1 (gs (mvs G (3 * l + p) (e - p)) 2 l e) ∧ P1 0 0 = P 0 0 ∧ P1 1 0 = P 1 0 ∧ Hp.length ≤ Hp1.length ∧ itr2 (mS_strike_F16 (P 0 0) (nI l) (nI p) R) N Hq (nI i) = some (0, Hp1) := by
    intro m
    induction m with
    | zero =>
      intro i N Hq hm hNN X q B hq
      match N, hNN with
      | N + 1, _ =>
        have V1 := V.x X
        obtain ⟨fR, hR⟩ := id B
        have hRlt : R < Hq.length := B.lt
        obtain ⟨HpD, d1, d2, d3⟩ := AR.st (t := 4) (te := 3) (v := R) ⟨f3, X.2 _ _ _ h3⟩ hR (i := l) hl (by omega)
        obtain ⟨fA, hA⟩ := d2
        have oldD : ∀ r t c, hN Hp r t = some c → t ≠ 4 → hN HpD r t = some c := fun r t c w ht => d3.d (X.2 _ _ _ h3) (X.2 r t c w) ht
        have hP3 : ∀ l, l < G 14 0 → P 3 l < Hp.length := fun l hl => by
          obtain ⟨f, g, a, b⟩ := h4 l hl
          exact hN_lt a
        refine ⟨HpD, pS P l p e R, ⟨⟨⟨n, f, g, oldD _ _ _ h1 (by omega), h1'⟩, ⟨f2, g2, oldD _ _ _ h2 (by omega), ?_⟩, ⟨fA, va_up g3 l (some R), ?_, ?_⟩, ?_, ?_, ?_⟩, ?_⟩, rfl, rfl, ?_, ?_⟩
        · rw [e1]; exact h2'
        · rw [e14]; exact hA
        · rw [e14]
          intro x hx
          rw [pS_3]
          by_cases c : x = l
          · rw [if_pos c, c, vup_s]
          · rw [if_neg c, vup_n c]; exact h3' x hx
        · rw [e14, e2]
          intro x hx
          rw [pS_3]
          by_cases c : x = l
          · subst c
            refine ⟨fR, q, ?_, fun y hy => ?_⟩
            · rw [if_pos rfl, uN_s]
              exact d3.d (X.2 _ _ _ h3) hR (by omega)
            · rw [p4 x y hx hy]
              rw [uN_s] at hy
              exact hq y (by omega)
          · obtain ⟨f, g, a, b⟩ := h4 x hx
            refine ⟨f, g, ?_, fun y hy => ?_⟩
            · rw [if_neg c, uN_n c]
              exact oldD _ _ _ a (by omega)
            · rw [p4 x y hx hy, show was l p x y = y from if_neg (fun w => c w.1)]
              rw [uN_n c] at hy
              exact b y hy
        · rw [e14, e2]
          intro l' p' hl' hp'
          have w3 := low l' p' hl' hp'
          obtain ⟨f, g, a, b⟩ := h5 l' (was l p l' p') hl' w3.1
          have hw3 := W.2.2.2.1 (3 * l' + was l p l' p') (by have := (W.2.2.1 l' (by omega)).1; omega)
          rw [e3 l' p' hl' hp', p4 l' p' hl' hp']
          refine ⟨f, g, oldD _ _ _ a (by omega), fun k hk => ?_⟩
          rw [p5 l' p' k hl' hp' (by omega)]
          exact b k hk
        · rw [e14, e2]
          intro l' p' k hl' hp' hk
          rw [e3 l' p' hl' hp'] at hk
          have w3 := low l' p' hl' hp'
          have hw3 := W.2.2.2.1 (3 * l' + was l p l' p') (by have := (W.2.2.1 l' (by omega)).1; omega)
          rw [p5 l' p' k hl' hp' (by omega), ek 4 (by omega) l' p' k hl' hp' (by omega), ek 5 (by omega) l' p' k hl' hp' (by omega), ek 6 (by omega) l' p' k hl' hp' (by omega), ek 7 (by omega) l' p' k hl' hp' (by omega)]
          obtain ⟨f, g, a, b⟩ := h6 l' (was l p l' p') k hl' w3.1 hk
          exact ⟨f, g, oldD _ _ _ a (by omega), b⟩
        · unfold HI
          rw [e14, e2]
          refine ⟨fun x y hx hy ex => ?_, fun l1 p1 k1 l2 p2 k2 hl1 hp1 hk1 hl2 hp2 hk2 ex => ?_⟩
          · rw [pS_3, pS_3] at ex
            have hX := X.1
            by_cases c : x = l
            · by_cases c' : y = l
              · omega
              · rw [if_pos c, if_neg c'] at ex
                have := hP3 y hy
                omega
            · by_cases c' : y = l
              · rw [if_neg c, if_pos c'] at ex
                have := hP3 x hx
                omega
              · rw [if_neg c, if_neg c'] at ex
                exact hi.1 x y hx hy ex
          · rw [e3 l1 p1 hl1 hp1] at hk1
            rw [e3 l2 p2 hl2 hp2] at hk2
            have w31 := low l1 p1 hl1 hp1
            have w32 := low l2 p2 hl2 hp2
            have hw1 := W.2.2.2.1 (3 * l1 + was l p l1 p1) (by have := (W.2.2.1 l1 (by omega)).1; omega)
            have hw2 := W.2.2.2.1 (3 * l2 + was l p l2 p2) (by have := (W.2.2.1 l2 (by omega)).1; omega)
            rw [p5 l1 p1 k1 hl1 hp1 (by omega), p5 l2 p2 k2 hl2 hp2 (by omega)] at ex
            have := hi.2 l1 _ k1 l2 _ k2 hl1 w31.1 hk1 hl2 w32.1 hk2 ex
            have b1 := (W.2.2.1 l1 (by omega)).1
            have b2 := (W.2.2.1 l2 (by omega)).1
            have hk : k1 = k2 := by omega
            have hs : 3 * l1 + was l p l1 p1 = 3 * l2 + was l p l2 p2 := by omega
            obtain ⟨s1, s2⟩ := slot_in (by omega) (by omega) hs
            subst s1
            have : p1 = p2 := by
              unfold was at s2
              split at s2 <;> split at s2 <;> omega
            rw [this, hk]
        · rw [d3.1]
          exact X.1
        · show mS_strike_F16 _ _ _ _ _ _ _ = _
          unfold mS_strike_F16
          rw [B.len, ob_s, le_t (by omega) (by omega), V1.g1, ob_s, d1]
    | succ m ih =>
      intro i N Hq hm hNN X q B hq
      match N, hNN with
      | N + 1, hNN =>
        have V1 := V.x X
        have hwas : was l p l i < G 2 l := by unfold was; split <;> omega
        obtain ⟨f, g, a, b⟩ := h5 l (was l p l i) hl hwas
        obtain ⟨HpC, c1, c2, c3⟩ := B.st (X.2 _ _ _ a) (i := i) (by omega) (by omega)
        obtain ⟨Hp1, P1, j1, j2, j3, j4, j5⟩ := ih (i + 1) N HpC (by omega) (by omega) (c3.x X (by omega)) _ c2 (fun x hx => by
          by_cases c : x = i
          · rw [c, vup_s]
          · rw [vup_n c]; exact hq x (by omega))
        refine ⟨Hp1, P1, j1, j2, j3, j4, ?_⟩
        show mS_strike_F16 (P 0 0) (nI l) (nI p) R (itr2 (mS_strike_F16 (P 0 0) (nI l) (nI p) R) N) Hq (nI i) = _
        generalize hI : itr2 (mS_strike_F16 (P 0 0) (nI l) (nI p) R) N = I at j5 ⊢
        have hld := V1.p W hl hwas
        unfold mS_strike_F16
        rw [B.len, ob_s, le_f (by omega) (by omega), V1.g1, ob_s, V1.l W hl, ob_s, le_i (by omega) (by omega), n_add1]
        by_cases c : p ≤ i
        · rw [show was l p l i = i + 1 from if_pos ⟨rfl, c⟩] at hld c1
          rw [if_pos c, hld, ob_s, c1]
          exact j5
        · rw [show was l p l i = i from if_neg (fun w => c w.2)] at hld c1
          rw [if_neg c, hld, ob_s, c1]
          exact j5
  obtain ⟨Hp1, P1, j1, j2, j3, j4, j5⟩ := key e 0 16 HpA (by omega) (by omega) a4 _ a2 (fun l hl => by omega)
  refine ⟨Hp1, P1, j1, j2, j3, j4, ?_⟩
  unfold mS_strike
  rw [V.g1, ob_s, V.l W hl, ob_s, V.np hl, ob_s, he, show (1 : Int32) = nI 1 from rfl, pk_sub (by omega), Nat.add_sub_cancel, a1, show (0 : Int32) = nI 0 from rfl]
  exact j5
/-- a row with one more -/
theorem S_more {R0 last n : Nat} {cl : Cel} {g : Nat → Option Nat} (hR : AR 2 Hp R0 n g) (hn : n ≤ 5) (hg : ∀ i, i < n → ∃ v c, g i = some v ∧ hN Hp v 0 = some c) (hl : hN Hp last 0 = some cl) : ∃ Hp1 B g', HX Hp Hp1 ∧ Hp.length ≤ B ∧ AR 2 Hp1 B (n + 1) g' ∧ (∀ i, i < n → g' i = g i) ∧ g' n = some last ∧ mS_more Hp R0 last = some (B, Hp1) := by
  obtain ⟨HpA, B, a1, a2, a3, a4, a5⟩ := AR.nw (t := 2) (Hp := Hp) (rs := [R0, last]) (n := n + 1) (by omega) (mem2 hR.lt (hN_lt hl))
  have key : ∀ m i N Hq, i + m = n → m < N → HX Hp Hq → ∀ q, AR 2 Hq B (n + 1) q → (∀ x, x < i → q x = g x) → ∃ Hp1 g', HX Hp Hp1 ∧ AR 2 Hp1 B (n + 1) g' ∧ (∀ i, i < n → g' i = g i) ∧ g' n = some last ∧ itr2 (mS_more_F10 R0 last B) N Hq (nI i) = some (B, Hp1) := by
    intro m
    induction m with
    | zero =>
      intro i N Hq hm hNN X q A hq
      match N, hNN with
      | N + 1, _ =>
        obtain ⟨HpC, c1, c2, c3⟩ := A.st (X.2 _ _ _ hl) (i := n) (by omega) (by omega)
        refine ⟨HpC, _, c3.x X (by omega), c2, fun i hi => ?_, vup_s, ?_⟩
        · rw [vup_n (by omega)]; exact hq i (by omega)
        · show mS_more_F10 _ _ _ _ _ _ = _
          unfold mS_more_F10
          rw [(hR.x X).len, ob_s, le_t (by omega) (by omega), ob_s, c1]
    | succ m ih =>
      intro i N Hq hm hNN X q A hq
      match N, hNN with
      | N + 1, hNN =>
        obtain ⟨v, c, v1, v2⟩ := hg i (by omega)
        obtain ⟨HpC, c1, c2, c3⟩ := A.st (X.2 _ _ _ v2) (i := i) (by omega) (by omega)
        obtain ⟨Hp1, g', j1, j2, j3, j4, j5⟩ := ih (i + 1) N HpC (by omega) (by omega) (c3.x X (by omega)) _ c2 (fun x hx => by
          by_cases e : x = i
          · rw [e, vup_s]; exact v1.symm
          · rw [vup_n e]; exact hq x (by omega))
        refine ⟨Hp1, g', j1, j2, j3, j4, ?_⟩
        obtain ⟨fR, hR'⟩ := hR.x X
        show mS_more_F10 R0 last B (itr2 (mS_more_F10 R0 last B) N) Hq (nI i) = _
        generalize hI : itr2 (mS_more_F10 R0 last B) N = I at j5 ⊢
        unfold mS_more_F10
        rw [(hR.x X).len, ob_s, le_f (by omega) (by omega), hldR_N hR' (show i < n by omega) (by omega), v1, ob_s, c1, n_add1]
        exact j5
  obtain ⟨Hp1, g', j1, j2, j3, j4, j5⟩ := key n 0 16 HpA (by omega) (by omega) a4 _ a2 (fun i hi => by omega)
  refine ⟨Hp1, B, g', j1, by omega, j2, j3, j4, ?_⟩
  unfold mS_more
  rw [hR.len, ob_s, n_add1, a1, show (0 : Int32) = nI 0 from rfl]
  exact j5
/-- a step more at the end of a proof -/
theorem H_cite (h : HL Hp P G) (W : WG G) {l p B Sx c y w : Nat} {HpX : HS} {g' : Nat → Option Nat} {fS : Nat → Int32} (hl : l < G 14 0) (hp : p < G 2 l) (h5' : G 3 (3 * l + p) < 5) (X : HX Hp HpX) (hB : AR 2 HpX B (G 3 (3 * l + p) + 1) g') (hg : ∀ k, k < G 3 (3 * l + p) → g' k = some (P 5 (5 * (3 * l + p) + k))) (hgn : g' (G 3 (3 * l + p)) = some Sx) (hS : AI_ 0 HpX Sx 4 fS) (s0 : fS 0 = nI c) (s1 : fS 1 = nI y) (s2 : fS 2 = nI w) (s3 : fS 3 = nI 0) (hSx : Hp.length ≤ Sx) : ∃ Hp1 P1, HL Hp1 P1 (gc G (3 * l + p) c y w) ∧ P1 0 0 = P 0 0 ∧ P1 1 0 = P 1 0 ∧ Hp.length ≤ Hp1.length ∧ ∀ {ρ : Type} (K : HS → Option ρ), hstR 3 2 HpX (P 3 l) (nI p) B K = K Hp1 := by
  have w0 := W.1
  have w2 := (W.2.2.1 l (by omega)).1
  obtain ⟨⟨⟨n, f, g, h1, h1'⟩, ⟨f2, g2, h2, h2'⟩, ⟨f3, g3, h3, h3'⟩, h4, h5, h6⟩, hi⟩ := h
  obtain ⟨fl, gl, hl3, hl3'⟩ := h4 l hl
  obtain ⟨fB, hB'⟩ := id hB
  obtain ⟨HpD, d1, d2, d3⟩ := AR.st (t := 3) (te := 2) (v := B) ⟨fl, X.2 _ _ _ hl3⟩ hB' (i := p) hp (by omega)
  obtain ⟨fA, hA⟩ := d2
  have oldD : ∀ r t c, hN Hp r t = some c → t ≠ 3 → hN HpD r t = some c := fun r t c q ht => d3.d (X.2 _ _ _ hl3) (X.2 r t c q) ht
  have e14 : gc G (3 * l + p) c y w 14 = G 14 := by unfold gc g4; rw [gs_n (by omega), gs_n (by omega), gs_n (by omega), gs_n (by omega), gs_n (by omega)]
  have e1 : gc G (3 * l + p) c y w 1 = G 1 := by unfold gc g4; rw [gs_n (by omega), gs_n (by omega), gs_n (by omega), gs_n (by omega), gs_n (by omega)]
  have e2 : gc G (3 * l + p) c y w 2 = G 2 := by unfold gc g4; rw [gs_n (by omega), gs_n (by omega), gs_n (by omega), gs_n (by omega), gs_n (by omega)]
  have e3 : gc G (3 * l + p) c y w 3 = uN (G 3) (3 * l + p) (G 3 (3 * l + p) + 1) := by unfold gc; rw [gs_s, g4_3]
  have ek : ∀ k x, 4 ≤ k → k ≤ 7 → x ≠ 5 * (3 * l + p) + G 3 (3 * l + p) → gc G (3 * l + p) c y w k x = G k x := fun k x k1 k2 hx => by
    unfold gc g4
    rw [gs_n (by omega), gsx hx, gsx hx, gsx hx, gsx hx]
  obtain ⟨q4, q5, q6, q7, q14⟩ := g4_at (G := G) (i := 5 * (3 * l + p) + G 3 (3 * l + p)) (c := c) (y := y) (w := w)
  have en : ∀ k, 4 ≤ k → k ≤ 7 → gc G (3 * l + p) c y w k = g4 G (5 * (3 * l + p) + G 3 (3 * l + p)) c y w k := fun k k1 k2 => gs_n (by omega)
  have ne : ∀ l' p' k', l' < G 14 0 → p' < G 2 l' → k' < G 3 (3 * l' + p') → 5 * (3 * l' + p') + k' ≠ 5 * (3 * l + p) + G 3 (3 * l + p) := fun l' p' k' hl' hp' hk' => by
    have b2 := (W.2.2.1 l' (by omega)).1
    have b3 := W.2.2.2.1 (3 * l' + p') (by omega)
    by_cases q : 3 * l' + p' = 3 * l + p
    · rw [q] at hk' ⊢; omega
    · omega
  have hP5 : ∀ l' p' k', l' < G 14 0 → p' < G 2 l' → k' < G 3 (3 * l' + p') → P 5 (5 * (3 * l' + p') + k') < Hp.length := fun l' p' k' hl' hp' hk' => by
    obtain ⟨f, g, a, b⟩ := h6 l' p' k' hl' hp' hk'
    exact hN_lt a
  have P5 : ∀ l' p' k', l' < G 14 0 → p' < G 2 l' → k' < G 3 (3 * l' + p') → pW (pW P 4 (3 * l + p) B) 5 (5 * (3 * l + p) + G 3 (3 * l + p)) Sx 5 (5 * (3 * l' + p') + k') = P 5 (5 * (3 * l' + p') + k') := fun l' p' k' hl' hp' hk' => by
    rw [pW_x (ne l' p' k' hl' hp' hk'), pW_k (by omega)]
  refine ⟨HpD, pW (pW P 4 (3 * l + p) B) 5 (5 * (3 * l + p) + G 3 (3 * l + p)) Sx, ⟨⟨⟨n, f, g, oldD _ _ _ h1 (by omega), h1'⟩, ⟨f2, g2, oldD _ _ _ h2 (by omega), ?_⟩, ⟨f3, g3, ?_, ?_⟩, ?_, ?_, ?_⟩, ?_⟩, rfl, rfl, ?_, d1⟩
  · rw [e1]; exact h2'
  · rw [e14]; exact oldD _ _ _ h3 (by omega)
  · rw [e14]; exact h3'
  · rw [e14, e2]
    intro x hx
    rw [pW_k (by omega), pW_k (by omega)]
    by_cases e : P 3 x = P 3 l
    · have := hi.1 x l hx hl e
      subst this
      refine ⟨fA, va_up gl p (some B), hA, fun q hq => ?_⟩
      rw [pW_k (by omega)]
      by_cases e : q = p
      · rw [e, vup_s, pW_s]
      · rw [vup_n e, pW_x (by omega)]
        exact hl3' q hq
    · obtain ⟨f, g, a, b⟩ := h4 x hx
      refine ⟨f, g, by rw [d3.2 _ _ e]; exact X.2 _ _ _ a, fun q hq => ?_⟩
      have b2 := (W.2.2.1 x (by omega)).1
      have hxl : x ≠ l := fun q => e (by rw [q])
      rw [pW_k (by omega), pW_x (by omega)]
      exact b q hq
  · rw [e14, e2, e3]
    intro l' p' hl' hp'
    have b2 := (W.2.2.1 l' (by omega)).1
    rw [pW_k (by omega)]
    by_cases e : 3 * l' + p' = 3 * l + p
    · rw [e, uN_s, pW_s]
      refine ⟨fB, g', d3.d (X.2 _ _ _ hl3) hB' (by omega), fun k hk => ?_⟩
      by_cases ek : k = G 3 (3 * l + p)
      · rw [ek, pW_s]; exact hgn
      · rw [P5 l p k hl hp (by omega)]; exact hg k (by omega)
    · obtain ⟨f, g, a, b⟩ := h5 l' p' hl' hp'
      rw [uN_n e, pW_x e]
      refine ⟨f, g, oldD _ _ _ a (by omega), fun k hk => ?_⟩
      rw [P5 l' p' k hl' hp' hk]; exact b k hk
  · rw [e14, e2, e3]
    intro l' p' k hl' hp' hk
    by_cases e : 3 * l' + p' = 3 * l + p ∧ k = G 3 (3 * l + p)
    · rw [e.1, e.2, pW_s, en 4 (by omega) (by omega), en 5 (by omega) (by omega), en 6 (by omega) (by omega), en 7 (by omega) (by omega), q4, q5, q6, q7]
      obtain ⟨gS, hS'⟩ := hS
      exact ⟨fS, gS, d3.d (X.2 _ _ _ hl3) hS' (by omega), s0, s1, s2, s3⟩
    · have hk' : k < G 3 (3 * l' + p') := by
        unfold uN at hk
        by_cases q : 3 * l' + p' = 3 * l + p
        · rw [if_pos q] at hk
          have : k ≠ G 3 (3 * l + p) := fun w => e ⟨q, w⟩
          rw [q]; omega
        · rw [if_neg q] at hk; exact hk
      have hne := ne l' p' k hl' hp' hk'
      rw [P5 l' p' k hl' hp' hk', ek 4 _ (by omega) (by omega) hne, ek 5 _ (by omega) (by omega) hne, ek 6 _ (by omega) (by omega) hne, ek 7 _ (by omega) (by omega) hne]
      obtain ⟨f, g, a, b⟩ := h6 l' p' k hl' hp' hk'
      exact ⟨f, g, oldD _ _ _ a (by omega), b⟩
  · unfold HI
    rw [e14, e2, e3]
    refine ⟨fun x y hx hy e => ?_, fun l1 p1 k1 l2 p2 k2 hl1 hp1 hk1 hl2 hp2 hk2 e => ?_⟩
    · rw [pW_k (by omega), pW_k (by omega), pW_k (by omega), pW_k (by omega)] at e
      exact hi.1 x y hx hy e
    · have cut : ∀ l' p' k, l' < G 14 0 → p' < G 2 l' → k < uN (G 3) (3 * l + p) (G 3 (3 * l + p) + 1) (3 * l' + p') → (3 * l' + p' = 3 * l + p ∧ k = G 3 (3 * l + p)) ∨ k < G 3 (3 * l' + p') := fun l' p' k hl' hp' hk => by
        unfold uN at hk
        by_cases q : 3 * l' + p' = 3 * l + p
        · rw [if_pos q] at hk
          by_cases q2 : k = G 3 (3 * l + p)
          · exact Or.inl ⟨q, q2⟩
          · exact Or.inr (by rw [q]; omega)
        · rw [if_neg q] at hk; exact Or.inr hk
      rcases cut l1 p1 k1 hl1 hp1 hk1 with c1 | c1
      · rcases cut l2 p2 k2 hl2 hp2 hk2 with c2 | c2
        · omega
        · rw [c1.1, c1.2, pW_s, P5 l2 p2 k2 hl2 hp2 c2] at e
          have := hP5 l2 p2 k2 hl2 hp2 c2
          omega
      · rcases cut l2 p2 k2 hl2 hp2 hk2 with c2 | c2
        · rw [c2.1, c2.2, pW_s, P5 l1 p1 k1 hl1 hp1 c1] at e
          have := hP5 l1 p1 k1 hl1 hp1 c1
          omega
        · rw [P5 l1 p1 k1 hl1 hp1 c1, P5 l2 p2 k2 hl2 hp2 c2] at e
          exact hi.2 l1 p1 k1 l2 p2 k2 hl1 hp1 c1 hl2 hp2 c2 e
  · rw [d3.1]
    exact X.1
end SMUTB
