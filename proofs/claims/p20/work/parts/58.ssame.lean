section SSAME
variable {P : Nat → Nat → Nat} {G : GS} {Hb Hp : HS} {S : XS} {R2 R3 R4 R5 R7 : Nat}
theorem ud_n {f : Nat → Int32} {i j : Nat} {x : Int32} (h : j ≠ i) : upd f i x j = f j := if_neg h
theorem xbR_s {α ρ : Type} {v : α} {K : α → Option ρ} : xbR (some (.inl v)) K = K v := rfl
theorem xbW_s {α ρ : Type} {v : α} {S : XS} {K : α → XS → Option ρ} : xbW (some (.inl (v, S))) K = K v S := rfl
theorem xbC_s {α ρ : Type} {v : α} {S : XS} {K : α → XS → Option ρ} {Kc : Option ρ} : xbC (some (.inl (v, S))) K Kc = K v S := rfl
theorem xbC_x {α ρ : Type} {K : α → XS → Option ρ} {Kc : Option ρ} : xbC (some (.inr 2)) K Kc = Kc := rfl
theorem it1 {ρ : Type} {F : (Int32 → Option ρ) → Int32 → Option ρ} {e : Nat} {z : Option ρ} (he : e < 16) (h0 : ∀ ih, F ih (nI e) = z) (hs : ∀ i ih, i < e → F ih (nI i) = ih (nI (i + 1))) : itr1 F 16 (nI 0) = z :=
  itr1_r (fun _ _ => z) 0 e h0 (fun i m ih _ hi q => (hs i ih (by omega)).trans q) e 0 16 (by omega) (by omega) he
theorem HT.tr {Hp Hp1 Hp2 : HS} {R : Nat} (h : HT Hp Hp1 R) (h' : HT Hp1 Hp2 R) : HT Hp Hp2 R := ⟨h'.1.trans h.1, fun r t q => (h'.2 r t q).trans (h.2 r t q)⟩
theorem HT.rf {R : Nat} : HT Hp Hp R := ⟨rfl, fun _ _ _ => rfl⟩
theorem memc {a n : Nat} {L : List Nat} (h : a < n) (h' : ∀ r ∈ L, r < n) : ∀ r ∈ a :: L, r < n := fun r hr => by
  rcases List.mem_cons.mp hr with e | q
  · rw [e]; exact h
  · exact h' r q
theorem HV.plt (h : HV Hp P G) {l p : Nat} (hl : l < G 14 0) (hp : p < G 2 l) : P 4 (3 * l + p) < Hp.length := by
  obtain ⟨-, -, -, -, h5, -⟩ := h
  obtain ⟨f, g, a, b⟩ := h5 l p hl hp
  exact hN_lt a
theorem S_stv (V : HV Hp P G) (W : WG G) {l p k q : Nat} (hl : l < G 14 0) (hp : p < G 2 l) (hk : k < G 3 (3 * l + p)) (hq : q < 4) : hldI 0 Hp (P 5 (5 * (3 * l + p) + k)) (nI q) = some (stv G (5 * (3 * l + p) + k) q) := by
  have w0 := W.1
  have w2 := (W.2.2.1 l (by omega)).1
  have w7 := (W.2.2.2.2 (3 * l + p) (5 * (3 * l + p) + k) (by omega) (by omega) (by omega)).2.2.2.2.2.2
  obtain ⟨e0, e1, e2, e3⟩ := V.s hl hp hk
  unfold stv
  rcases (show q = 0 ∨ q = 1 ∨ q = 2 ∨ q = 3 by omega) with rfl | rfl | rfl | rfl
  · rw [if_pos rfl]; exact e0
  · rw [if_neg (by omega), if_pos rfl]; exact e1
  · rw [if_neg (by omega), if_neg (by omega), if_pos rfl]; exact e2
  · rw [if_neg (by omega), if_neg (by omega), if_neg (by omega), e3]
    generalize G 7 (5 * (3 * l + p) + k) = z at w7 ⊢
    rcases (show z = 0 ∨ z = 1 by omega) with e | e <;> rw [e] <;> rfl
-- a step's four
theorem S_sF (V0 : HV Hb P G) (W : WG G) (I : SI S G) {l p k : Nat} (hl : l < G 14 0) (hp : p < G 2 l) (hk : k < G 3 (3 * l + p)) (X : HX Hb Hp) (h7 : Hb.length ≤ R7) {f : Nat → Int32} {s : Nat} (A : AI_ 0 Hp R7 7 f) (hs : f 5 = nI s) {b : Int32} {K : HS → Int32 → Option (Int32 × (XS × HS))} : ∃ Hp1, HX Hb Hp1 ∧ HT Hp Hp1 R7 ∧ AI_ 0 Hp1 R7 7 (upd f 5 (nI (s + G 6 (5 * (3 * l + p) + k)))) ∧ itr1 (mS_isSame_F407 K S Hp (P 0 0) R2 R3 R4 R5 (nI l) R7 b (nI p) (P 4 (3 * l + p)) (nI k)) 16 0 = K Hp1 (nI (k + 1)) := by
  have V := V0.x X
  obtain ⟨Hp1, a1, a2, a3⟩ := A.st (i := 5) (by omega) (by omega) (nI (s + G 6 (5 * (3 * l + p) + k)))
  refine ⟨Hp1, a3.x X h7, a3, a2, ?_⟩
  rw [show (0 : Int32) = nI 0 from rfl]
  refine it1 (e := 4) (by omega) (fun ih => ?_) (fun q ih hq => ?_)
  · unfold mS_isSame_F407
    rw [show (4 : Int32) = nI 4 from rfl, le_t (by omega) (by omega), show (5 : Int32) = nI 5 from rfl, A.ld (by omega) (by omega), ob_s, V.k W hl hp hk, ob_s, show (2 : Int32) = nI 2 from rfl, (V.s hl hp hk).2.2.1, ob_s, hs, n_add, a1, n_add1]
  · unfold mS_isSame_F407
    rw [show (4 : Int32) = nI 4 from rfl, le_f hq (by omega), x_step I W hl hp hk hq, xbR_s, V.k W hl hp hk, ob_s, S_stv V W hl hp hk hq, ob_s, if_pos rfl, n_add1]
-- a proof's steps
theorem S_sL (V0 : HV Hb P G) (W : WG G) (I : SI S G) {l p : Nat} (hl : l < G 14 0) (hp : p < G 2 l) (h7 : Hb.length ≤ R7) {b : Int32} {K : HS → Int32 → Int32 → Option (Int32 × (XS × HS))} : ∀ m k N Hp, k + m = G 3 (3 * l + p) → m < N → HX Hb Hp → ∀ f s, AI_ 0 Hp R7 7 f → f 5 = nI s → ∃ Hp1 f', HX Hb Hp1 ∧ HT Hp Hp1 R7 ∧ AI_ 0 Hp1 R7 7 f' ∧ (∀ q, q ≠ 5 → f' q = f q) ∧ f' 5 = nI (s + sumR (G 6) (5 * (3 * l + p) + k) m) ∧ itr2 (mS_isSame_F396 K S (P 0 0) R2 R3 R4 R5 (nI l) R7 b (nI p) (P 4 (3 * l + p))) N Hp (nI k) = K Hp1 b (nI (p + 1)) := by
  have w0 := W.1
  have w2 := (W.2.2.1 l (by omega)).1
  have w3 := W.2.2.2.1 (3 * l + p) (by omega)
  intro m
  induction m with
  | zero =>
    intro k N Hp hm hN X f s A hs
    match N, hN with
    | N + 1, _ =>
      have V := V0.x X
      refine ⟨Hp, f, X, HT.rf, A, fun _ _ => rfl, hs, ?_⟩
      show mS_isSame_F396 _ _ _ _ _ _ _ _ _ _ _ _ _ _ _ = _
      unfold mS_isSame_F396
      rw [V.ns hl hp, ob_s, le_t (by omega) (by omega), n_add1]
  | succ m ih =>
    intro k N Hp hm hN X f s A hs
    match N, hN with
    | N + 1, hN =>
      have V := V0.x X
      obtain ⟨HpA, a1, a2, a3, a4⟩ := S_sF V0 W I hl hp (k := k) (by omega) X h7 A hs (b := b) (R2 := R2) (R3 := R3) (R4 := R4) (R5 := R5) (K := itr2 (mS_isSame_F396 K S (P 0 0) R2 R3 R4 R5 (nI l) R7 b (nI p) (P 4 (3 * l + p))) N)
      obtain ⟨Hp1, f', b1, b2, b3, b4, b5, b6⟩ := ih (k + 1) N HpA (by omega) (by omega) a1 _ _ a3 upd_s
      refine ⟨Hp1, f', b1, a2.tr b2, b3, fun q hq => (b4 q hq).trans (ud_n hq), ?_, ?_⟩
      · rw [b5]
        show _ = nI (s + (G 6 (5 * (3 * l + p) + k) + sumR (G 6) (5 * (3 * l + p) + (k + 1)) m))
        rw [Nat.add_assoc]
      · show mS_isSame_F396 K S (P 0 0) R2 R3 R4 R5 (nI l) R7 b (nI p) (P 4 (3 * l + p)) (itr2 (mS_isSame_F396 K S (P 0 0) R2 R3 R4 R5 (nI l) R7 b (nI p) (P 4 (3 * l + p))) N) Hp (nI k) = _
        generalize hI : itr2 (mS_isSame_F396 K S (P 0 0) R2 R3 R4 R5 (nI l) R7 b (nI p) (P 4 (3 * l + p))) N = J at a4 b6 ⊢
        unfold mS_isSame_F396
        rw [V.ns hl hp, ob_s, le_f (by omega) (by omega), a4, b6]
/-- the first of the shortest so far -/
def Bst (G : GS) (l p : Nat) (b : Int32) : Prop := (b = mone ∧ ∀ q, q < p → ¬ (cs G 0 (FL G 0) (3 * l + q) < 9999 ∧ cs G 0 (FL G 0) (3 * l + q) = FL G 0 l)) ∨ ∃ q, q < p ∧ b = nI q ∧ (cs G 0 (FL G 0) (3 * l + q) < 9999 ∧ cs G 0 (FL G 0) (3 * l + q) = FL G 0 l) ∧ ∀ q', q' < q → ¬ (cs G 0 (FL G 0) (3 * l + q') < 9999 ∧ cs G 0 (FL G 0) (3 * l + q') = FL G 0 l)
theorem Bst_fin (W : WG G) {l : Nat} {b : Int32} (hl : l < G 14 0) (h : Bst G l (G 2 l) b) : bst G l 0 (G 2 l) mone 9999 = b := by
  rcases best_is W hl with ⟨a1, a2, a3⟩ | ⟨q, a1, a2, a3, a4, a5⟩
  · rw [a3]
    rcases h with ⟨b1, b2⟩ | ⟨q, b1, b2, b3, b4⟩
    · exact b1.symm
    · have := a2 q b1
      omega
  · rw [a4]
    rcases h with ⟨b1, b2⟩ | ⟨q2, b1, b2, b3, b4⟩
    · exact absurd ⟨by omega, a3⟩ (b2 q a1)
    · rw [b2]
      congr 1
      refine Classical.byContradiction fun hne => ?_
      rcases (show q < q2 ∨ q2 < q by omega) with c | c
      · exact b4 q c ⟨by omega, a3⟩
      · have := a5 q2 c
        omega
theorem Bst_no {l p : Nat} {b : Int32} (h : Bst G l p b) (hc : ¬ (cs G 0 (FL G 0) (3 * l + p) < 9999 ∧ cs G 0 (FL G 0) (3 * l + p) = FL G 0 l)) : Bst G l (p + 1) b := by
  rcases h with ⟨b1, b2⟩ | ⟨q, b1, b2, b3, b4⟩
  · refine Or.inl ⟨b1, fun q hq => ?_⟩
    by_cases e : q = p
    · rw [e]; exact hc
    · exact b2 q (by omega)
  · exact Or.inr ⟨q, by omega, b2, b3, b4⟩
theorem Bst_old {l p q : Nat} {b : Int32} (h : Bst G l p b) (hb : b = nI q) (hq : q < 2147483648) : Bst G l (p + 1) b := by
  rcases h with ⟨b1, b2⟩ | ⟨q, b1, b2, b3, b4⟩
  · rw [hb] at b1
    exact absurd b1 (mone_ne hq)
  · exact Or.inr ⟨q, by omega, b2, b3, b4⟩
-- what is told about a proof, and its steps
theorem S_pF (V0 : HV Hb P G) (W : WG G) (I : SI S G) (r3 : HR Hb R3 (G 14 0) (fun x => enc (FL G 0 x))) {l p : Nat} (hl : l < G 14 0) (hp : p < G 2 l) (X : HX Hb Hp) (h7 : Hb.length ≤ R7) {f : Nat → Int32} {s1 s5 : Nat} (A : AI_ 0 Hp R7 7 f) (hs1 : f 1 = nI s1) (hs5 : f 5 = nI s5) {R : Nat} {g : Nat → Int32} (B : AI_ 0 Hp R 4 g) (hg : ∀ q, q < 4 → g q = pv G (3 * l + p) q) {b : Int32} (hb : Bst G l p b) {K : HS → Int32 → Int32 → Option (Int32 × (XS × HS))} : ∃ Hp1 f' b', HX Hb Hp1 ∧ HT Hp Hp1 R7 ∧ AI_ 0 Hp1 R7 7 f' ∧ (∀ q, q ≠ 1 → q ≠ 5 → f' q = f q) ∧ f' 1 = nI (s1 + G 3 (3 * l + p)) ∧ f' 5 = nI (s5 + sumR (G 6) (5 * (3 * l + p)) (G 3 (3 * l + p))) ∧ Bst G l (p + 1) b' ∧ itr1 (mS_isSame_F325 K S Hp (P 0 0) R2 R3 R4 R5 (nI l) R7 b (nI p) (P 4 (3 * l + p)) (nI (enc (cs G 0 (FL G 0) (3 * l + p)))) R) 16 0 = K Hp1 b' (nI (p + 1)) := by
  have w0 := W.1
  have w2 := (W.2.2.1 l (by omega)).1
  have w3 := W.2.2.2.1 (3 * l + p) (by omega)
  have V := V0.x X
  obtain ⟨HpA, a1, a2, a3⟩ := A.st (i := 1) (by omega) (by omega) (nI (s1 + G 3 (3 * l + p)))
  have XA := a3.x X h7
  have tail : ∀ b', ((hldI 0 Hp R7 1).bind fun x387 => (hlen 2 Hp (P 4 (3 * l + p))).bind fun x390 => hstI 0 Hp R7 1 (x387 + x390) fun Hp392 => itr2 (mS_isSame_F396 K S (P 0 0) R2 R3 R4 R5 (nI l) R7 b' (nI p) (P 4 (3 * l + p))) 16 Hp392 0) = itr2 (mS_isSame_F396 K S (P 0 0) R2 R3 R4 R5 (nI l) R7 b' (nI p) (P 4 (3 * l + p))) 16 HpA 0 := fun b' => by
    rw [show (1 : Int32) = nI 1 from rfl, A.ld (by omega) (by omega), ob_s, V.ns hl hp, ob_s, hs1, n_add, a1]
  have pick : ∃ b', Bst G l (p + 1) b' ∧ ∀ ih, mS_isSame_F325 K S Hp (P 0 0) R2 R3 R4 R5 (nI l) R7 b (nI p) (P 4 (3 * l + p)) (nI (enc (cs G 0 (FL G 0) (3 * l + p)))) R ih (nI 4) = itr2 (mS_isSame_F396 K S (P 0 0) R2 R3 R4 R5 (nI l) R7 b' (nI p) (P 4 (3 * l + p))) 16 HpA 0 := by
    have r3' := r3.x X
    have hF := FL_le (G := G) (k := 0) (l := l)
    generalize hc : cs G 0 (FL G 0) (3 * l + p) = c at *
    by_cases c9 : c < 9999
    · have ec : enc c = c := if_pos c9
      rw [ec]
      by_cases hq : ∃ q, q < p ∧ b = nI q
      · obtain ⟨q, q1, q2⟩ := hq
        refine ⟨b, Bst_old hb q2 (by omega), fun ih => ?_⟩
        unfold mS_isSame_F325
        rw [show (4 : Int32) = nI 4 from rfl, le_t (by omega) (by omega), show (9999 : Int32) = nI 9999 from rfl, le_f (by omega) (by omega), if_pos (by rw [q2]; exact nI_le (a := 0) (by omega) (by omega))]
        exact tail b
      · have hm : b = mone := by
          rcases hb with ⟨b1, b2⟩ | ⟨q, b1, b2, b3, b4⟩
          · exact b1
          · exact absurd ⟨q, b1, b2⟩ hq
        have eF : c = enc (FL G 0 l) ↔ c = FL G 0 l := by
          unfold enc
          by_cases q : FL G 0 l < 9999
          · rw [if_pos q]
          · rw [if_neg q]; omega
        have he : enc (FL G 0 l) < 2147483648 := by unfold enc; split <;> omega
        by_cases ce : c = FL G 0 l
        · refine ⟨nI p, Or.inr ⟨p, by omega, rfl, by rw [hc]; exact ⟨c9, ce⟩, fun q' hq' => ?_⟩, fun ih => ?_⟩
          · rcases hb with ⟨b1, b2⟩ | ⟨q, b1, b2, b3, b4⟩
            · exact b2 q' hq'
            · exact absurd ⟨q, b1, b2⟩ hq
          · unfold mS_isSame_F325
            rw [show (4 : Int32) = nI 4 from rfl, le_t (by omega) (by omega), show (9999 : Int32) = nI 9999 from rfl, le_f (by omega) (by omega), if_neg (show ¬ (0 : Int32) ≤ b by rw [hm]; decide), r3'.ld hl (by omega), ob_s, eq_t (eF.mpr ce)]
            exact tail (nI p)
        · refine ⟨b, Bst_no hb (by rw [hc]; exact fun w => ce w.2), fun ih => ?_⟩
          unfold mS_isSame_F325
          rw [show (4 : Int32) = nI 4 from rfl, le_t (by omega) (by omega), show (9999 : Int32) = nI 9999 from rfl, le_f (by omega) (by omega), if_neg (show ¬ (0 : Int32) ≤ b by rw [hm]; decide), r3'.ld hl (by omega), ob_s, eq_f (fun w => ce (eF.mp w)) (by omega) he]
          exact tail b
    · refine ⟨b, Bst_no hb (by rw [hc]; exact fun w => c9 w.1), fun ih => ?_⟩
      have ec : enc c = 100000 := if_neg c9
      rw [ec]
      unfold mS_isSame_F325
      rw [show (4 : Int32) = nI 4 from rfl, le_t (by omega) (by omega), show (9999 : Int32) = nI 9999 from rfl, le_t (by omega) (by omega)]
      exact tail b
  obtain ⟨b', hb', e⟩ := pick
  obtain ⟨Hp1, f', c1, c2, c3, c4, c5, c6⟩ := S_sL V0 W I hl hp h7 (b := b') (R2 := R2) (R3 := R3) (R4 := R4) (R5 := R5) (K := K) (G 3 (3 * l + p)) 0 16 HpA (by omega) (by omega) XA _ s5 a2 (by rw [ud_n (by omega)]; exact hs5)
  refine ⟨Hp1, f', b', c1, a3.tr c2, c3, fun q h1 h5 => (c4 q h5).trans (ud_n h1), (c4 1 (by omega)).trans upd_s, c5, hb', ?_⟩
  rw [show (0 : Int32) = nI 0 from rfl]
  refine it1 (e := 4) (by omega) (fun ih => (e ih).trans c6) (fun q ih hq => ?_)
  unfold mS_isSame_F325
  rw [show (4 : Int32) = nI 4 from rfl, le_f hq (by omega), X_about4 I W hl hp hq, xbR_s, B.ld hq (by omega), ob_s, hg q hq, if_pos rfl, n_add1]
end SSAME
