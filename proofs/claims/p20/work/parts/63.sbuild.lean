section SBUILD
variable {P : Nat → Nat → Nat} {G : GS} {Hp : HS} {S : XS} {o : Nat}
def G0 : GS := fun k _ => if k = 1 then 1 else 0
theorem WG_0 : WG G0 := by
  refine ⟨?_, ?_, ?_, ?_, ?_⟩
  · show 0 ≤ 12; omega
  · intro a _; show 1 ≤ 1; omega
  · intro l _; exact ⟨by show 0 ≤ 3; omega, fun _ => rfl⟩
  · intro j _; show 0 ≤ 5; omega
  · intro j i _ h1 h2
    have : G0 3 j = 0 := rfl
    omega
/-- an empty lodge -/
theorem S_init : ∃ Hp1 P, HL Hp1 P G0 ∧ P 0 0 = Hp.length ∧ mS_init (Hp ++ [(5, 2, fun _ => 0, fun _ => none)]) Hp.length = some (0, Hp1) := by
  obtain ⟨o1, o2, o3⟩ := app_N (Hp := Hp) (c := (5, 2, fun _ => 0, fun _ => none)) (t := 5) rfl
  generalize Hp ++ [(5, 2, fun _ => 0, fun _ => none)] = H0 at o1 o2 o3 ⊢
  generalize Hp.length = o at o1 o2 o3 ⊢
  obtain ⟨HpA, R, a1, a2, a3, a4, a5⟩ := mk_I (t := 1) (Hp := H0) (rs := [o]) (n := 5) (by omega) (mem1 (by omega))
  have A0 : AI_ 1 HpA R 5 (fun _ => 0) := ⟨_, a2⟩
  obtain ⟨HpB, b1, b2, b3⟩ := A0.st (i := 0) (by omega) (by omega) (nI 1)
  have XB : HX H0 HpB := b3.x a4 (by omega)
  obtain ⟨HpC, c1, c2, c3⟩ := b2.st (i := 1) (by omega) (by omega) (nI 1)
  have XC : HX H0 HpC := c3.x XB (by omega)
  obtain ⟨HpD, d1, d2, d3⟩ := c2.st (i := 2) (by omega) (by omega) (nI 1)
  have XD : HX H0 HpD := d3.x XC (by omega)
  obtain ⟨HpE, e1, e2, e3⟩ := d2.st (i := 3) (by omega) (by omega) (nI 1)
  have XE : HX H0 HpE := e3.x XD (by omega)
  obtain ⟨HpF, f1, f2, f3⟩ := e2.st (i := 4) (by omega) (by omega) (nI 1)
  have XF : HX H0 HpF := f3.x XE (by omega)
  obtain ⟨gF, f2⟩ := f2
  obtain ⟨HpG, g1, g2, g3⟩ := put_O (fld := 0) (XF.2 _ _ _ o1) f2
  have hoR : R ≠ o := by omega
  have RG : hN HpG R 1 = _ := (g3.2 R 1 hoR).trans f2
  have loG : o < HpG.length := hN_lt g2
  obtain ⟨HpH, Q, h1, h2, h3, h4, h5⟩ := mk_I (t := 4) (Hp := HpG) (rs := [o]) (n := 0) (by omega) (mem1 loG)
  obtain ⟨HpI, i1, i2, i3⟩ := put_O (fld := 1) (h4.2 _ _ _ g2) h2
  have hoQ : Q ≠ o := by omega
  have RI : hN HpI R 1 = _ := (i3.2 R 1 hoR).trans (h4.2 _ _ _ RG)
  have QI : hN HpI Q 4 = _ := (i3.2 Q 4 hoQ).trans h2
  refine ⟨HpI, fun k _ => if k = 0 then o else if k = 1 then R else Q, ⟨⟨⟨_, _, _, i2, ?_, ?_⟩, ⟨_, _, RI, fun a ha => ?_⟩, ⟨_, _, QI, fun l hl => absurd hl (Nat.not_lt_zero _)⟩, fun l hl => absurd hl (Nat.not_lt_zero _), fun l p hl => absurd hl (Nat.not_lt_zero _), fun l p k hl => absurd hl (Nat.not_lt_zero _)⟩, ⟨fun l l' hl => absurd hl (Nat.not_lt_zero _), fun l p k l' p' k' hl => absurd hl (Nat.not_lt_zero _)⟩⟩, rfl, ?_⟩
  · rw [vup_n (by omega), vup_s]
    rfl
  · rw [vup_s]
    rfl
  · show _ = nI 1
    rcases (show a = 0 ∨ a = 1 ∨ a = 2 ∨ a = 3 ∨ a = 4 by omega) with rfl | rfl | rfl | rfl | rfl
    · rw [ud_n (by omega), ud_n (by omega), ud_n (by omega), ud_n (by omega), upd_s]
    · rw [ud_n (by omega), ud_n (by omega), ud_n (by omega), upd_s]
    · rw [ud_n (by omega), ud_n (by omega), upd_s]
    · rw [ud_n (by omega), upd_s]
    · rw [upd_s]
  · unfold mS_init
    rw [show (1 : Int32) &&& 1 = nI 1 by decide, show (5 : Int32) = nI 5 from rfl, a1, show (0 : Int32) = nI 0 from rfl, b1, show (1 : Int32) = nI 1 from rfl, c1, show (2 : Int32) = nI 2 from rfl, d1, show (3 : Int32) = nI 3 from rfl, e1, show (4 : Int32) = nI 4 from rfl, f1, g1, h1, i1]
/-- both lodges, built so far -/
def BS (o : Nat) (S : XS) (Hp : HS) (G : GS) : Prop := ∃ P, SI S G ∧ WG G ∧ HL Hp P G ∧ P 0 0 = o
theorem gc_2 {j c y w : Nat} : gc G j c y w 2 = G 2 := by unfold gc g4; rw [gs_n (by omega), gs_n (by omega), gs_n (by omega), gs_n (by omega), gs_n (by omega)]
theorem gc_3 {j c y w : Nat} : gc G j c y w 3 j = G 3 j + 1 := by unfold gc; rw [gs_s, g4_3, uN_s]
theorem B_215 (b : BS o S Hp G) {l p k c y : Nat} (hl : G 14 0 = l + 1) (hp : G 2 l = p + 1) (hk : G 3 (3 * l + p) = k) (h5 : k < 5) (ok : okY G c y) {xs : Nat → Int32} {L : Nat} {v3 v5 : Int32} {kk : XS → HS → Int32 → Option (Nat × (XS × HS))} : ∃ S' Hp' G', BS o S' Hp' G' ∧ G' 14 0 = l + 1 ∧ G' 2 l = p + 1 ∧ G' 3 (3 * l + p) = k + 1 ∧ mL_build_J215 xs L kk S Hp o v3 (nI l) v5 (nI p) (nI k) (nI c) (nI y) = kk S' Hp' (nI (k + 1)) := by
  obtain ⟨P, I, W, h, ho⟩ := b
  subst ho
  have w0 := W.1
  have w2 := (W.2.2.1 l (by omega)).1
  have V := h.1
  have hc2 : c ≤ 2 := by rcases ok with ⟨a, _⟩ | ⟨a, _⟩ | ⟨a, _⟩ <;> omega
  have hl' : l < G 14 0 := by omega
  have hp' : p < G 2 l := by omega
  obtain ⟨S1, x1, x2, x3⟩ := x_cite I W hl' hp' ok (by omega)
  obtain ⟨HpA, R, HpB, HpC, HpD, HpE, HpF, B, Hp1, P1, p1, p2, p3, p4, p5, p6, p7, p8, p9, p10, p11⟩ := H_put h W (c := c) (y := y) (w := if c = 2 then y else 0) hl' hp' (by omega) (rs := [P 0 0, P 4 (3 * l + p), P 3 l]) (memc V.lt (mem2 (V.plt hl' hp') (V.llt hl')))
  refine ⟨S1, Hp1, _, ⟨P1, x1, x2, p9, p10⟩, by rw [gc_14]; exact hl, by rw [gc_2]; exact hp, by rw [gc_3, hk], ?_⟩
  have J : mL_build_J263 xs L kk S HpC (P 0 0) v3 (nI l) v5 (nI p) (nI k) (nI c) (nI y) (nI (if c = 2 then y else 0)) 2 R R (P 4 (3 * l + p)) (nI p) (P 3 l) = kk S1 Hp1 (nI (k + 1)) := by
    unfold mL_build_J263
    rw [p4, p5, p7, hcb_s (mem2 (Nat.lt_of_lt_of_le V.lt p6) (Nat.lt_of_lt_of_le (V.llt hl') p6)) os_0, p8, x3, xbW_s, hk, n_add1, if_pos rfl]
  unfold mL_build_J215
  rw [V.g1, ob_s, V.l W hl', ob_s, ob_s, V.l W hl', ob_s, V.p W hl' hp', ob_s, p1, p2, p3]
  by_cases c2 : c = 2
  · rw [if_pos (show nI c = (2 : Int32) by rw [c2]; rfl)]
    rw [show (if c = 2 then y else 0) = y from if_pos c2] at J
    exact J
  · rw [if_neg (show ¬ nI c = (2 : Int32) from fun e => c2 ((nI_eq (b := 2) (by omega) (by omega)).mp e))]
    rw [show (if c = 2 then y else 0) = 0 from if_neg c2] at J
    exact J
theorem B_168 (b : BS o S Hp G) {l p k c : Nat} (hl : G 14 0 = l + 1) (hp : G 2 l = p + 1) (hk : G 3 (3 * l + p) = k) (h5 : k < 5) (hc : c = 0 ∨ c = 1 ∧ l ≠ 0 ∨ c = 2) {xs : Nat → Int32} {L : Nat} {v3 v5 v8 : Int32} {kk : XS → HS → Int32 → Option (Nat × (XS × HS))} : ∃ S' Hp' G', BS o S' Hp' G' ∧ G' 14 0 = l + 1 ∧ G' 2 l = p + 1 ∧ G' 3 (3 * l + p) = k + 1 ∧ mL_build_J168 xs L kk S Hp o v3 (nI l) v5 (nI p) (nI k) v8 (nI c) = kk S' Hp' (nI (k + 1)) := by
  have w0 := b.choose_spec.2.1.1
  rcases hc with rfl | ⟨rfl, hl0⟩ | rfl
  · obtain ⟨y, y1, y2⟩ := below_5 (v8 >>> (2 &&& 31))
    unfold mL_build_J168
    rw [if_pos (show nI 0 = (0 : Int32) from rfl), y2, ob_s]
    exact B_215 b hl hp hk h5 (Or.inl ⟨rfl, y1⟩)
  · obtain ⟨y, y1, y2⟩ := below (v8 >>> (3 &&& 31)) hl0 (by omega)
    unfold mL_build_J168
    rw [if_neg (show ¬ nI 1 = (0 : Int32) by decide), if_pos (show nI 1 = (1 : Int32) from rfl), y2, ob_s]
    exact B_215 b hl hp hk h5 (Or.inr (Or.inl ⟨rfl, by omega⟩))
  · obtain ⟨y, y1, y2⟩ := below_9 (v8 >>> (2 &&& 31))
    unfold mL_build_J168
    rw [if_neg (show ¬ nI 2 = (0 : Int32) by decide), if_neg (show ¬ nI 2 = (1 : Int32) by decide), y2, ob_s, show (1 : Int32) + nI y = nI (1 + y) from n_add 1 y]
    exact B_215 b hl hp hk h5 (Or.inr (Or.inr ⟨rfl, by omega, by omega⟩))
theorem B_99 {l p s : Nat} (hs : s < 4) {xs : Nat → Int32} {L : Nat} {v3 v5 : Int32} {kk : XS → HS → Int32 → Option (Nat × (XS × HS))} (es : mL_below ((v5 >>> (3 &&& 31)) + nI p) 4 = some (nI s)) : ∀ m k N, k + m = s → m < N → ∀ S Hp G, BS o S Hp G → G 14 0 = l + 1 → G 2 l = p + 1 → G 3 (3 * l + p) = k → ∃ S' Hp' G', BS o S' Hp' G' ∧ G' 14 0 = l + 1 ∧ G' 2 l = p + 1 ∧ itr3 (mL_build_F99 xs L kk o v3 (nI l) v5 (nI p)) N S Hp (nI k) = kk S' Hp' (nI (p + 1)) := by
  intro m
  induction m with
  | zero =>
    intro k N hm hN S Hp G b hl hp hk
    match N, hN with
    | N + 1, _ =>
      refine ⟨S, Hp, G, b, hl, hp, ?_⟩
      show mL_build_F99 _ _ _ _ _ _ _ _ _ _ _ _ = _
      unfold mL_build_F99
      rw [es, ob_s, le_t (by omega) (by omega), n_add1]
  | succ m ih =>
    intro k N hm hN S Hp G b hl hp hk
    match N, hN with
    | N + 1, hN =>
      have w0 := b.choose_spec.2.1.1
      have go : ∀ c v8, (c = 0 ∨ c = 1 ∧ l ≠ 0 ∨ c = 2) → ∃ S' Hp' G', BS o S' Hp' G' ∧ G' 14 0 = l + 1 ∧ G' 2 l = p + 1 ∧ mL_build_J168 xs L (itr3 (mL_build_F99 xs L kk o v3 (nI l) v5 (nI p)) N) S Hp o v3 (nI l) v5 (nI p) (nI k) v8 (nI c) = kk S' Hp' (nI (p + 1)) := fun c v8 hc => by
        obtain ⟨S1, Hp1, G1, a1, a2, a3, a4, a5⟩ := B_168 b hl hp hk (by omega) hc (xs := xs) (L := L) (v3 := v3) (v5 := v5) (v8 := v8) (kk := itr3 (mL_build_F99 xs L kk o v3 (nI l) v5 (nI p)) N)
        obtain ⟨S2, Hp2, G2, b1, b2, b3, b4⟩ := ih (k + 1) N (by omega) (by omega) S1 Hp1 G1 a1 a2 a3 a4
        exact ⟨S2, Hp2, G2, b1, b2, b3, a5.trans b4⟩
      show ∃ S' Hp' G', BS o S' Hp' G' ∧ G' 14 0 = l + 1 ∧ G' 2 l = p + 1 ∧ mL_build_F99 xs L kk o v3 (nI l) v5 (nI p) (itr3 (mL_build_F99 xs L kk o v3 (nI l) v5 (nI p)) N) S Hp (nI k) = _
      generalize hI : itr3 (mL_build_F99 xs L kk o v3 (nI l) v5 (nI p)) N = J at go ⊢
      unfold mL_build_F99
      rw [es, ob_s, le_f (by omega) (by omega)]
      generalize ((v5 >>> ((2 * nI k) &&& 31)) + (5 * nI p)) + (7 * nI k) = z
      obtain ⟨a, a1, a2⟩ := below_6 z
      rw [a2, ob_s]
      by_cases qa : a = 0
      · rw [if_pos (show nI a = (0 : Int32) by rw [qa]; rfl)]
        exact go 2 z (Or.inr (Or.inr rfl))
      rw [if_neg (nI_n0 qa (by omega))]
      by_cases ql : l = 0
      · rw [if_pos (show nI l ≤ (0 : Int32) by rw [ql]; decide)]
        exact go 0 z (Or.inl rfl)
      · obtain ⟨y, y1, y2⟩ := below_2 z
        rw [if_neg (show ¬ nI l ≤ (0 : Int32) from nI_ge (a := 0) (by omega) (by omega)), y2, ob_s]
        by_cases qy : y = 0
        · rw [if_pos (show nI y = (0 : Int32) by rw [qy]; rfl)]
          exact go 1 z (Or.inr (Or.inl ⟨rfl, ql⟩))
        · rw [if_neg (nI_n0 qy (by omega))]
          exact go 0 z (Or.inl rfl)
theorem B_66 {l q : Nat} (hq : q < 4) {xs : Nat → Int32} {L : Nat} {v3 v5 : Int32} {kk : XS → HS → Int32 → Option (Nat × (XS × HS))} (eq : mL_below v5 4 = some (nI q)) : ∀ m p N, p + m = q → m < N → ∀ S Hp G, BS o S Hp G → G 14 0 = l + 1 → G 2 l = p → ∃ S' Hp' G', BS o S' Hp' G' ∧ G' 14 0 = l + 1 ∧ itr3 (mL_build_F66 xs L kk o v3 (nI l) v5) N S Hp (nI p) = kk S' Hp' (nI (l + 1)) := by
  intro m
  induction m with
  | zero =>
    intro p N hm hN S Hp G b hl hp
    match N, hN with
    | N + 1, _ =>
      refine ⟨S, Hp, G, b, hl, ?_⟩
      show mL_build_F66 _ _ _ _ _ _ _ _ _ _ _ = _
      unfold mL_build_F66
      rw [eq, ob_s, le_t (by omega) (by omega), n_add1]
  | succ m ih =>
    intro p N hm hN S Hp G b hl hp
    match N, hN with
    | N + 1, hN =>
      obtain ⟨P, I, W, h, ho⟩ := b
      subst ho
      have w0 := W.1
      have V := h.1
      obtain ⟨S1, x1, x2, x3⟩ := x_proof I W (l := l) (by omega) (by omega)
      obtain ⟨Hp1, P1, a1, a2, a3, a4, a5⟩ := S_proof h W (l := l) (by omega) (by omega)
      obtain ⟨s, s1, s2⟩ := below_4 ((v5 >>> (3 &&& 31)) + nI p)
      obtain ⟨S2, Hp2, G2, b1, b2, b3, b4⟩ := B_99 s1 s2 s 0 16 (by omega) (by omega) S1 Hp1 _ ⟨P1, x1, x2, a1, a2⟩ (by rw [gs_n (by omega), gs_n (by omega)]; exact hl) (by rw [gs_s, uN_s, hp]) (by rw [gs_n (by omega), gs_s, hp, uN_s]) (xs := xs) (L := L) (v3 := v3) (kk := itr3 (mL_build_F66 xs L kk (P 0 0) v3 (nI l) v5) N)
      obtain ⟨S3, Hp3, G3, c1, c2, c3⟩ := ih (p + 1) N (by omega) (by omega) S2 Hp2 G2 b1 b2 b3
      refine ⟨S3, Hp3, G3, c1, c2, ?_⟩
      rw [← c3, ← b4]
      show mL_build_F66 xs L kk (P 0 0) v3 (nI l) v5 (itr3 (mL_build_F66 xs L kk (P 0 0) v3 (nI l) v5) N) S Hp (nI p) = _
      generalize hI : itr3 (mL_build_F66 xs L kk (P 0 0) v3 (nI l) v5) N = J
      unfold mL_build_F66
      rw [eq, ob_s, le_f (by omega) (by omega), a5, hcb_s (mem1 V.lt) V.os, x3, xbW_s, hp, if_pos rfl]
      rfl
theorem cell {xs : Nat → Int32} {L i : Nat} (hL : L ≤ 2560) (hi : i < 3000) : ∃ v, mL_cell xs L (nI i) = some v := by
  unfold mL_cell
  by_cases q : L ≤ i
  · exact ⟨_, le_t (a := L) q (by omega)⟩
  · refine ⟨xs i, ?_⟩
    show (if nI L ≤ nI i then _ else _) = _
    rw [le_f (by omega) (by omega), rdA_n (by omega) hL, ob_s]
theorem B_24 {T : Nat} (hT : T ≤ 12) {xs : Nat → Int32} {L : Nat} (hL : L ≤ 2560) : ∀ m l N, l + m = T → m < N → ∀ S Hp G, BS o S Hp G → G 14 0 = l → ∃ S' Hp' G', BS o S' Hp' G' ∧ G' 14 0 = T ∧ itr3 (mL_build_F24 xs L o (nI T)) N S Hp (nI l) = some (o, (S', Hp')) := by
  intro m
  induction m with
  | zero =>
    intro l N hm hN S Hp G b hl
    match N, hN with
    | N + 1, _ =>
      refine ⟨S, Hp, G, b, by omega, ?_⟩
      show mL_build_F24 _ _ _ _ _ _ _ _ = _
      unfold mL_build_F24
      rw [le_t (by omega) (by omega)]
  | succ m ih =>
    intro l N hm hN S Hp G b hl
    match N, hN with
    | N + 1, hN =>
      obtain ⟨P, I, W, h, ho⟩ := b
      subst ho
      have w0 := W.1
      have V := h.1
      have w2 := (W.2.2.1 l (by omega)).2 (by omega)
      obtain ⟨S1, x1, x2, x3⟩ := x_lemma I W (by omega)
      obtain ⟨Hp1, P1, a1, a2, a3, a4, a5⟩ := S_lemma h W (by omega)
      obtain ⟨z, hz⟩ := cell (xs := xs) (L := L) (i := 1 + l) hL (by omega)
      obtain ⟨q, q1, q2⟩ := below_4 ((z >>> (2 &&& 31)) + (13 * nI l))
      obtain ⟨S2, Hp2, G2, b1, b2, b3⟩ := B_66 q1 q2 q 0 16 (by omega) (by omega) S1 Hp1 _ ⟨P1, x1, x2, a1, a2⟩ (by rw [gs_s, uN_s, hl]) (by rw [gs_n (by omega)]; exact w2) (xs := xs) (L := L) (v3 := nI T) (kk := itr3 (mL_build_F24 xs L (P 0 0) (nI T)) N)
      obtain ⟨S3, Hp3, G3, c1, c2, c3⟩ := ih (l + 1) N (by omega) (by omega) S2 Hp2 G2 b1 b2
      refine ⟨S3, Hp3, G3, c1, c2, ?_⟩
      rw [← c3, ← b3]
      show mL_build_F24 xs L (P 0 0) (nI T) (itr3 (mL_build_F24 xs L (P 0 0) (nI T)) N) S Hp (nI l) = _
      generalize hI : itr3 (mL_build_F24 xs L (P 0 0) (nI T)) N = J
      unfold mL_build_F24
      rw [le_f (by omega) (by omega), show (1 : Int32) + nI l = nI (1 + l) from n_add 1 l, hz, ob_s, a5, hcb_s (mem1 V.lt) V.os, x3, xbW_s, hl, if_pos rfl]
      rfl
theorem L_build (I : SI S G0) {xs : Nat → Int32} {L : Nat} (hL : L ≤ 2560) : ∃ o S' Hp' G', BS o S' Hp' G' ∧ 1 ≤ G' 14 0 ∧ mL_build S Hp xs L = some (o, (S', Hp')) := by
  obtain ⟨Hp1, P, a1, a2, a3⟩ := S_init (Hp := Hp)
  obtain ⟨o1, o2, o3⟩ := app_N (Hp := Hp) (c := (5, 2, fun _ => 0, fun _ => none)) (t := 5) rfl
  obtain ⟨z, hz⟩ := cell (xs := xs) (L := L) (i := 0) hL (by omega)
  obtain ⟨t, t1, t2⟩ := below_12 z
  obtain ⟨S2, Hp2, G2, b1, b2, b3⟩ := B_24 (T := 1 + t) (by omega) hL (1 + t) 0 16 (by omega) (by omega) S Hp1 G0 ⟨P, I, WG_0, a1, a2⟩ rfl (xs := xs)
  refine ⟨Hp.length, S2, Hp2, G2, b1, by omega, ?_⟩
  unfold mL_build hno
  rw [if_neg (fun w => w mem0)]
  show hcb [Hp.length] [Hp.length] _ _ _ = _
  rw [a3, hcb_s (mem1 (by omega)) (fun r hr => by rw [List.mem_singleton.mp hr, o1]; rfl), show (0 : Int32) = nI 0 from rfl, hz, ob_s, t2, ob_s, show (1 : Int32) + nI t = nI (1 + t) from n_add 1 t]
  exact b3
end SBUILD
