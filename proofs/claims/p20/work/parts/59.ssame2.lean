section SSAMEB
variable {P : Nat → Nat → Nat} {G : GS} {Hb Hp : HS} {S : XS} {R2 R3 R4 R5 R7 : Nat}
theorem hd_100 (W : WG G) {j : Nat} : hd G (stg G mone) 100 j = hd G (stg G mone) 13 j := by
  have w0 := W.1
  rw [Bool.eq_iff_iff, hd_parts, hd_parts]
  constructor
  · exact fun h => ⟨h.1, fun i i1 i2 => dz_row (fun _ a b => ⟨a, by have := stg_le (G := G) (b := mone) (G 5 i); omega⟩) (h.2 i i1 i2)⟩
  · exact fun h => ⟨h.1, fun i i1 i2 => dz_row (fun _ a b => ⟨a, by omega⟩) (h.2 i i1 i2)⟩
theorem enc_or {v : Nat} : (if v < 9999 then nI (enc v) else mone) = orN v := by
  unfold orN enc
  by_cases q : v < 9999
  · rw [if_pos q, if_pos q, if_pos q]
  · rw [if_neg q, if_neg q]
/-- one proof of the law's lodge -/
theorem S_pB (V0 : HV Hb P G) (W : WG G) (I : SI S G) (r2 : HR Hb R2 (G 14 0) (stg G mone)) (r3 : HR Hb R3 (G 14 0) (fun x => enc (FL G 0 x))) (r4 : HR Hb R4 (G 14 0) (fun x => enc (FL G 1 x))) {l p : Nat} (hl : l < G 14 0) (hp : p < G 2 l) (X : HX Hb Hp) (h7 : Hb.length ≤ R7) {t : Nat → Nat} (hT : HR Hp R5 7 t) (h57 : R5 ≠ R7) {f : Nat → Int32} {s1 s5 : Nat} (A : AI_ 0 Hp R7 7 f) (hs1 : f 1 = nI s1) (hs5 : f 5 = nI s5) {b : Int32} (hb : Bst G l p b) {K : HS → Int32 → Option (Int32 × (XS × HS))} {ih : HS → Int32 → Int32 → Option (Int32 × (XS × HS))} : ∃ Hp1 f' b', HX Hb Hp1 ∧ HR Hp1 R5 7 t ∧ AI_ 0 Hp1 R7 7 f' ∧ (∀ q, q ≠ 1 → q ≠ 5 → f' q = f q) ∧ f' 1 = nI (s1 + G 3 (3 * l + p)) ∧ f' 5 = nI (s5 + sumR (G 6) (5 * (3 * l + p)) (G 3 (3 * l + p))) ∧ Bst G l (p + 1) b' ∧ mS_isSame_F214 K S (P 0 0) R2 R3 R4 R5 (nI l) R7 ih Hp b (nI p) = ih Hp1 b' (nI (p + 1)) := by
  have w0 := W.1
  have w2 := (W.2.2.1 l (by omega)).1
  have w3 := W.2.2.2.1 (3 * l + p) (by omega)
  have V := V0.x X
  have Xl := X.1
  obtain ⟨HpA, R, a1, a2, a3, a4, a5⟩ := mk_I (t := 0) (Hp := Hp) (rs := [P 4 (3 * l + p), P 0 0, R2, R3, R4, R5, R7]) (n := 4) (by omega) (memc (V.plt hl hp) (memc V.lt (memc (r2.x X).lt (memc (r3.x X).lt (memc (r4.x X).lt (memc hT.lt (memc A.lt mem0)))))))
  have B0 : AI_ 0 HpA R 4 (fun _ => 0) := ⟨_, a2⟩
  obtain ⟨HpB, b1, b2, b3⟩ := B0.st (i := 0) (by omega) (by omega) (nI (G 3 (3 * l + p)))
  have XB : HX Hp HpB := b3.x a4 (by omega)
  obtain ⟨HpC, c1, c2, c3⟩ := b2.st (i := 1) (by omega) (by omega) (pv G (3 * l + p) 1)
  obtain ⟨HpD, d1, d2, d3⟩ := c2.st (i := 2) (by omega) (by omega) (pv G (3 * l + p) 2)
  obtain ⟨HpE, e1, e2, e3⟩ := d2.st (i := 3) (by omega) (by omega) (pv G (3 * l + p) 3)
  have XC : HX Hp HpC := c3.x XB (by omega)
  have XD : HX Hp HpD := d3.x XC (by omega)
  have XE : HX Hp HpE := e3.x XD (by omega)
  have VA := V.x a4
  have VB := V.x XB
  obtain ⟨Hp1, f', b', g1, g2, g3, g4', g5, g6, g7, g8⟩ := S_pF V0 W I r3 hl hp (X.tr XE) h7 (A.x XE) hs1 hs5 e2 (fun q hq => by
    rcases (show q = 0 ∨ q = 1 ∨ q = 2 ∨ q = 3 by omega) with rfl | rfl | rfl | rfl
    · rw [ud_n (by omega), ud_n (by omega), ud_n (by omega), upd_s]
      exact (if_pos rfl).symm
    · rw [ud_n (by omega), ud_n (by omega), upd_s]
    · rw [ud_n (by omega), upd_s]
    · rw [upd_s]) hb (R2 := R2) (R4 := R4) (R5 := R5) (K := ih)
  refine ⟨Hp1, f', b', g1, (hT.x XE).t g2 h57, g3, g4', g5, g6, g7, ?_⟩
  have p1 : pv G (3 * l + p) 1 = if hd G (stg G mone) 13 (3 * l + p) = true then 1 else 0 := by
    unfold pv
    rw [if_neg (by omega), if_pos rfl]
  have p2 : pv G (3 * l + p) 2 = orN (cs G 0 (FL G 0) (3 * l + p)) := by
    unfold pv
    rw [if_neg (by omega), if_neg (by omega), if_pos rfl]
  have p3 : pv G (3 * l + p) 3 = orN (cs G 1 (FL G 1) (3 * l + p)) := by
    unfold pv
    rw [if_neg (by omega), if_neg (by omega), if_neg (by omega)]
  have ec : ∀ v, enc v < 2147483648 ∨ enc v = v := fun v => by unfold enc; split <;> omega
  have J303 : mS_isSame_J303 ih S HpC (P 0 0) R2 R3 R4 R5 (nI l) R7 b (nI p) (P 4 (3 * l + p)) (nI (enc (cs G 0 (FL G 0) (3 * l + p)))) (nI (enc (cs G 1 (FL G 1) (3 * l + p)))) (pv G (3 * l + p) 2) 2 R R = ih Hp1 b' (nI (p + 1)) := by
    unfold mS_isSame_J303
    rw [show (2 : Int32) = nI 2 from rfl, d1, show (3 : Int32) = nI 3 from rfl, show (100000 : Int32) = nI 100000 from rfl]
    by_cases q : cs G 1 (FL G 1) (3 * l + p) < 9999
    · rw [show enc (cs G 1 (FL G 1) (3 * l + p)) = cs G 1 (FL G 1) (3 * l + p) from if_pos q, eq_f (by omega) (by omega) (by omega), show nI (cs G 1 (FL G 1) (3 * l + p)) = pv G (3 * l + p) 3 by rw [p3]; exact (if_pos q).symm, e1]
      exact g8
    · rw [show enc (cs G 1 (FL G 1) (3 * l + p)) = 100000 from if_neg q, eq_t rfl, show (-1 : Int32) = pv G (3 * l + p) 3 by rw [p3]; exact (if_neg q).symm, e1]
      exact g8
  have J286 : mS_isSame_J286 ih S HpB (P 0 0) R2 R3 R4 R5 (nI l) R7 b (nI p) (P 4 (3 * l + p)) (nI (enc (cs G 0 (FL G 0) (3 * l + p)))) (nI (enc (cs G 1 (FL G 1) (3 * l + p)))) (pv G (3 * l + p) 1) 1 R R = ih Hp1 b' (nI (p + 1)) := by
    unfold mS_isSame_J286
    rw [show (1 : Int32) = nI 1 from rfl, c1, show (9998 : Int32) = nI 9998 from rfl]
    by_cases q : cs G 0 (FL G 0) (3 * l + p) < 9999
    · have e : enc (cs G 0 (FL G 0) (3 * l + p)) = cs G 0 (FL G 0) (3 * l + p) := if_pos q
      rw [show pv G (3 * l + p) 2 = nI (cs G 0 (FL G 0) (3 * l + p)) by rw [p2]; exact if_pos q] at J303
      rw [e] at J303 ⊢
      rw [le_t (by omega) (by omega)]
      exact J303
    · have e : enc (cs G 0 (FL G 0) (3 * l + p)) = 100000 := if_neg q
      rw [show pv G (3 * l + p) 2 = -1 by rw [p2]; exact if_neg q] at J303
      rw [e] at J303 ⊢
      rw [le_f (by omega) (by omega)]
      exact J303
  unfold mS_isSame_F214
  rw [V.g1, ob_s, V.l W hl, ob_s, V.np hl, ob_s, le_f (by omega) (by omega), ob_s, V.l W hl, ob_s, V.p W hl hp, ob_s, show (0 : Int32) = nI 0 from rfl, show (4 : Int32) = nI 4 from rfl, hrc_s V.os, S_measure V W (by omega) (r3.x X) (fun x => FL_le) hl hp, ob_s, hrc_s V.os, show mS_measure Hp (P 0 0) (P 4 (3 * l + p)) R4 1 = _ from S_measure V W (k := 1) (by omega) (r4.x X) (fun x => FL_le) hl hp, ob_s, a1, VA.ns hl hp, ob_s, b1, hrc_s VB.os, S_holds VB W ((r2.x X).x XB) (fun x => by have := stg_le (G := G) (b := mone) x; omega) hl hp, ob_s, hd_100 W]
  by_cases q : hd G (stg G mone) 13 (3 * l + p) = true
  · rw [if_pos q] at p1
    rw [p1] at J286
    rw [q, show nI true.toNat = nI 1 from rfl, eq_f (by omega) (by omega) (by omega)]
    exact J286
  · rw [if_neg q] at p1
    rw [p1] at J286
    rw [show hd G (stg G mone) 13 (3 * l + p) = false from by
      cases w : hd G (stg G mone) 13 (3 * l + p)
      · rfl
      · exact absurd w q, show nI false.toNat = nI 0 from rfl, eq_t rfl]
    exact J286
/-- all proofs of a lemma -/
theorem S_pL (V0 : HV Hb P G) (W : WG G) (I : SI S G) (r2 : HR Hb R2 (G 14 0) (stg G mone)) (r3 : HR Hb R3 (G 14 0) (fun x => enc (FL G 0 x))) (r4 : HR Hb R4 (G 14 0) (fun x => enc (FL G 1 x))) {l : Nat} (hl : l < G 14 0) (h7 : Hb.length ≤ R7) {t : Nat → Nat} (h57 : R5 ≠ R7) {K : HS → Int32 → Option (Int32 × (XS × HS))} : ∀ m p N Hp, p + m = G 2 l → m < N → HX Hb Hp → HR Hp R5 7 t → ∀ f s1 s5 b, AI_ 0 Hp R7 7 f → f 1 = nI s1 → f 5 = nI s5 → Bst G l p b → ∃ Hp1 f' b', HX Hb Hp1 ∧ HR Hp1 R5 7 t ∧ AI_ 0 Hp1 R7 7 f' ∧ (∀ q, q ≠ 1 → q ≠ 5 → f' q = f q) ∧ f' 1 = nI (s1 + sumR (fun p => G 3 (3 * l + p)) p m) ∧ f' 5 = nI (s5 + sumR (fun p => sumR (G 6) (5 * (3 * l + p)) (G 3 (3 * l + p))) p m) ∧ Bst G l (G 2 l) b' ∧ itr3 (mS_isSame_F214 K S (P 0 0) R2 R3 R4 R5 (nI l) R7) N Hp b (nI p) = itr1 (mS_isSame_F473 K S Hp1 (P 0 0) R2 R3 R4 R5 (nI l) R7 b') 16 0 := by
  have w0 := W.1
  have w2 := (W.2.2.1 l (by omega)).1
  intro m
  induction m with
  | zero =>
    intro p N Hp hm hN X hT f s1 s5 b A hs1 hs5 hb
    match N, hN with
    | N + 1, _ =>
      have V := V0.x X
      refine ⟨Hp, f, b, X, hT, A, fun _ _ _ => rfl, hs1, hs5, by rw [← hm]; exact hb, ?_⟩
      show mS_isSame_F214 _ _ _ _ _ _ _ _ _ _ _ _ _ = _
      unfold mS_isSame_F214
      rw [V.g1, ob_s, V.l W hl, ob_s, V.np hl, ob_s, le_t (by omega) (by omega)]
  | succ m ih =>
    intro p N Hp hm hN X hT f s1 s5 b A hs1 hs5 hb
    match N, hN with
    | N + 1, hN =>
      obtain ⟨HpA, fA, bA, a1, a2, a3, a4, a5, a6, a7, a8⟩ := S_pB V0 W I r2 r3 r4 hl (p := p) (by omega) X h7 hT h57 A hs1 hs5 hb (K := K) (ih := itr3 (mS_isSame_F214 K S (P 0 0) R2 R3 R4 R5 (nI l) R7) N)
      obtain ⟨Hp1, f', b', b1, b2, b3, b4, b5, b6, b7, b8⟩ := ih (p + 1) N HpA (by omega) (by omega) a1 a2 fA _ _ bA a3 a5 a6 a7
      refine ⟨Hp1, f', b', b1, b2, b3, fun q h1 h5 => (b4 q h1 h5).trans (a4 q h1 h5), ?_, ?_, b7, a8.trans b8⟩
      · rw [b5, Nat.add_assoc]
        rfl
      · rw [b6, Nat.add_assoc]
        rfl
/-- the counts so far and what is ahead -/
def TI (G : GS) (t : Nat → Nat) (l m : Nat) : Prop := t 0 = cv G 0 ∧ t 1 + sumR (fun x => if stg G mone x = 0 then 0 else 1) l m = cv G 1 ∧ t 2 = cv G 2 ∧ t 3 + sumR (G 2) l m = cv G 3 ∧ t 4 + sumR (stp G) l m = cv G 4 ∧ t 5 + sumR (opn G) l m = cv G 5 ∧ t 6 + sumR (cir G) l m = cv G 6
theorem S_lE (V0 : HV Hb P G) (W : WG G) (I : SI S G) (r2 : HR Hb R2 (G 14 0) (stg G mone)) {l m : Nat} (hl : l < G 14 0) (h5 : Hb.length ≤ R5) (X : HX Hb Hp) {t : Nat → Nat} (hT : HR Hp R5 7 t) (hI : TI G t l (m + 1)) (h57 : R5 ≠ R7) {f : Nat → Int32} (A : AI_ 0 Hp R7 7 f) (hf : ∀ q, q < 7 → f q = tv G l q) {b : Int32} (hb : Bst G l (G 2 l) b) {K : HS → Int32 → Option (Int32 × (XS × HS))} : ∃ Hp1 t', HX Hb Hp1 ∧ HR Hp1 R5 7 t' ∧ TI G t' (l + 1) m ∧ itr1 (mS_isSame_F473 K S Hp (P 0 0) R2 R3 R4 R5 (nI l) R7 b) 16 0 = K Hp1 (nI (l + 1)) := by
  have w0 := W.1
  have V := V0.x X
  have f0 : f 0 = nI (G 2 l) := (hf 0 (by omega)).trans (if_pos rfl)
  have f1 : f 1 = nI (stp G l) := (hf 1 (by omega)).trans (by unfold tv; rw [if_neg (by omega), if_pos rfl])
  have f5 : f 5 = nI (opn G l) := (hf 5 (by omega)).trans (by unfold tv; rw [if_neg (by omega), if_neg (by omega), if_neg (by omega), if_neg (by omega), if_neg (by omega), if_pos rfl])
  have f6 : f 6 = nI (lst G l l (G 14 0)) := (hf 6 (by omega)).trans (by unfold tv; rw [if_neg (by omega), if_neg (by omega), if_neg (by omega), if_neg (by omega), if_neg (by omega), if_neg (by omega)])
  obtain ⟨HpA, a1, a2, a3⟩ := hT.st (i := 1) (by omega) (by omega) (t 1 + if stg G mone l = 0 then 0 else 1)
  obtain ⟨HpB, b1, b2, b3⟩ := a2.st (i := 3) (by omega) (by omega) (t 3 + G 2 l)
  obtain ⟨HpC, c1, c2, c3⟩ := b2.st (i := 4) (by omega) (by omega) (t 4 + stp G l)
  obtain ⟨HpD, d1, d2, d3⟩ := c2.st (i := 5) (by omega) (by omega) (t 5 + opn G l)
  obtain ⟨HpE, e1, e2, e3⟩ := d2.st (i := 6) (by omega) (by omega) (t 6 + cir G l)
  have AA := A.t a3 (Ne.symm h57)
  have AB := AA.t b3 (Ne.symm h57)
  have AC := AB.t c3 (Ne.symm h57)
  have AD := AC.t d3 (Ne.symm h57)
  obtain ⟨i0, i1, i2, i3, i4, i5, i6⟩ := hI
  refine ⟨HpE, _, e3.x (d3.x (c3.x (b3.x (a3.x X h5) h5) h5) h5) h5, e2, ⟨?_, ?_, ?_, ?_, ?_, ?_, ?_⟩, ?_⟩
  · rw [uN_n (by omega), uN_n (by omega), uN_n (by omega), uN_n (by omega), uN_n (by omega)]; exact i0
  · rw [uN_n (by omega), uN_n (by omega), uN_n (by omega), uN_n (by omega), uN_s, Nat.add_assoc]; exact i1
  · rw [uN_n (by omega), uN_n (by omega), uN_n (by omega), uN_n (by omega), uN_n (by omega)]; exact i2
  · rw [uN_n (by omega), uN_n (by omega), uN_n (by omega), uN_s, Nat.add_assoc]; exact i3
  · rw [uN_n (by omega), uN_n (by omega), uN_s, Nat.add_assoc]; exact i4
  · rw [uN_n (by omega), uN_s, Nat.add_assoc]; exact i5
  · rw [uN_s, Nat.add_assoc]; exact i6
  · have J : ∀ z, z = (if stg G mone l = 0 then 0 else 1) → mS_isSame_J534 K S Hp (P 0 0) R2 R3 R4 R5 (nI l) R7 (nI z) (nI (t 1)) 1 R5 = K HpE (nI (l + 1)) := fun z hz => by
      unfold mS_isSame_J534
      rw [show (0 : Int32) = nI 0 from rfl, show (1 : Int32) = nI 1 from rfl, show (3 : Int32) = nI 3 from rfl, show (4 : Int32) = nI 4 from rfl, show (5 : Int32) = nI 5 from rfl, show (6 : Int32) = nI 6 from rfl, n_add, hz, a1, a2.ld (by omega) (by omega), ob_s, AA.ld (by omega) (by omega), ob_s, f0, uN_n (by omega), n_add, b1, b2.ld (by omega) (by omega), ob_s, AB.ld (by omega) (by omega), ob_s, f1, uN_n (by omega), uN_n (by omega), n_add, c1, c2.ld (by omega) (by omega), ob_s, AC.ld (by omega) (by omega), ob_s, f5, uN_n (by omega), uN_n (by omega), uN_n (by omega), n_add, d1, d2.ld (by omega) (by omega), ob_s, AD.ld (by omega) (by omega), ob_s, f6, uN_n (by omega), uN_n (by omega), uN_n (by omega), uN_n (by omega), n_add, n_add, n_add]
      have hlb := lst_le (G := G) (l := l) (t := l) (v := G 14 0)
      by_cases q : lst G l l (G 14 0) = 0
      · rw [le_t (by omega) (by omega)]
        rw [show cir G l = 0 from if_pos q] at e1
        exact e1 _
      · rw [le_f (by omega) (by omega)]
        rw [show cir G l = 1 from if_neg q] at e1
        exact e1 _
    rw [show (0 : Int32) = nI 0 from rfl]
    refine it1 (e := 7) (by omega) (fun ih => ?_) (fun q ih hq => ?_)
    · unfold mS_isSame_F473
      rw [show (7 : Int32) = nI 7 from rfl, le_t (by omega) (by omega), x_best I W hl, xbR_s, Bst_fin W hl hb, if_pos rfl, show hldI 0 Hp R5 1 = _ from hT.ld (i := 1) (by omega) (by omega), ob_s, (r2.x X).ld hl (by omega), ob_s]
      have hsl := stg_le (G := G) (b := mone) l
      by_cases q : stg G mone l = 0
      · rw [if_pos (show nI (stg G mone l) ≤ (0 : Int32) from nI_le (b := 0) (by omega) (by omega))]
        exact J 0 (if_pos q).symm
      · rw [if_neg (show ¬ nI (stg G mone l) ≤ (0 : Int32) from nI_ge (a := 0) (by omega) (by omega))]
        exact J 1 (if_neg q).symm
    · unfold mS_isSame_F473
      rw [show (7 : Int32) = nI 7 from rfl, le_f hq (by omega), x_told I W hl hq, xbR_s, A.ld hq (by omega), ob_s, hf q hq, if_pos rfl, n_add1]
end SSAMEB
