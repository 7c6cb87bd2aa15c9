section STRIKE
variable {S T : XS} {G : GS}
def sh (f : Nat → Nat) (j : Nat) : Nat → Nat := fun i => if 5 * j ≤ i ∧ i < 5 * j + 5 then f (i + 5) else f i
def mv (G : GS) (j : Nat) : GS := fun k => if k = 3 then uN (G 3) j (G 3 (j + 1)) else if 4 ≤ k ∧ k ≤ 7 then sh (G k) j else G k
def mvs : GS → Nat → Nat → GS
  | G, _, 0 => G
  | G, j, m + 1 => mvs (mv G j) (j + 1) m
theorem mv_3 {j : Nat} : mv G j 3 = uN (G 3) j (G 3 (j + 1)) := if_pos rfl
theorem mv_k {j k : Nat} (h : 4 ≤ k ∧ k ≤ 7) : mv G j k = sh (G k) j := by
  unfold mv
  rw [if_neg (by omega), if_pos h]
theorem mv_n {j k : Nat} (h : k < 3 ∨ 7 < k) : mv G j k = G k := by
  unfold mv
  rw [if_neg (by omega), if_neg (by omega)]
theorem sh_in {f : Nat → Nat} {j i : Nat} (h : 5 * j ≤ i ∧ i < 5 * j + 5) : sh f j i = f (i + 5) := if_pos h
theorem sh_out {f : Nat → Nat} {j i : Nat} (h : ¬ (5 * j ≤ i ∧ i < 5 * j + 5)) : sh f j i = f i := if_neg h
theorem WG_mv (W : WG G) {j : Nat} (hj : j + 1 < 36) : WG (mv G j) := by
  obtain ⟨w0, w1, w2, w3, w7⟩ := W
  have h3 := w3 (j + 1) hj
  unfold WG
  rw [mv_n (k := 14) (by omega), mv_n (k := 1) (by omega), mv_n (k := 2) (by omega), mv_3, mv_k (k := 4) (by omega), mv_k (k := 5) (by omega), mv_k (k := 6) (by omega), mv_k (k := 7) (by omega)]
  refine ⟨w0, w1, w2, fun x hx => ?_, fun j' x hj' h1 h2 => ?_⟩
  · unfold uN
    split
    · exact h3
    · exact w3 x hx
  · by_cases e : j' = j
    · subst e
      rw [uN_s] at h2
      rw [sh_in (by omega), sh_in (by omega), sh_in (by omega), sh_in (by omega)]
      exact w7 (j' + 1) (x + 5) hj (by omega) (by omega)
    · rw [uN_n e] at h2
      have := w3 j' hj'
      rw [sh_out (by omega), sh_out (by omega), sh_out (by omega), sh_out (by omega)]
      exact w7 j' x hj' h1 h2
theorem Cp_mv {S' : XS} (C : Cp S G) (W : WG G) {j : Nat} (hj : j + 1 < 36) (h0 : ∀ k, k < 3 ∨ 7 < k → S' k = S k) (h3 : S' 3 = upd (S 3) j (S 3 (j + 1))) (h4 : ∀ k, 4 ≤ k → k ≤ 7 → ∀ x, (5 * j ≤ x → x < 5 * j + G 3 (j + 1) → S' k x = S k (x + 5)) ∧ (x < 5 * j ∨ 5 * j + 5 ≤ x → S' k x = S k x)) : Cp S' (mv G j) := by
  obtain ⟨c0, c1, c2, c3, c7⟩ := C
  obtain ⟨w0, w1, w2, w3, w7⟩ := W
  have g3 := w3 (j + 1) hj
  unfold Cp
  rw [mv_n (k := 14) (by omega), mv_n (k := 1) (by omega), mv_n (k := 2) (by omega), mv_3, mv_k (k := 4) (by omega), mv_k (k := 5) (by omega), mv_k (k := 6) (by omega), mv_k (k := 7) (by omega), h0 14 (by omega), h0 1 (by omega), h0 2 (by omega), h3]
  refine ⟨c0, c1, c2, fun x hx => ?_, fun j' x hj' a1 a2 => ?_⟩
  · unfold upd uN
    by_cases e : x = j
    · rw [if_pos e, if_pos e]; exact c3 _ hj
    · rw [if_neg e, if_neg e]; exact c3 x hx
  · by_cases e : j' = j
    · subst e
      rw [uN_s] at a2
      rw [sh_in (by omega), sh_in (by omega), sh_in (by omega), sh_in (by omega), (h4 4 (by omega) (by omega) x).1 a1 a2, (h4 5 (by omega) (by omega) x).1 a1 a2, (h4 6 (by omega) (by omega) x).1 a1 a2, (h4 7 (by omega) (by omega) x).1 a1 a2]
      exact c7 (j' + 1) (x + 5) hj (by omega) (by omega)
    · rw [uN_n e] at a2
      have := w3 j' hj'
      rw [sh_out (by omega), sh_out (by omega), sh_out (by omega), sh_out (by omega), (h4 4 (by omega) (by omega) x).2 (by omega), (h4 5 (by omega) (by omega) x).2 (by omega), (h4 6 (by omega) (by omega) x).2 (by omega), (h4 7 (by omega) (by omega) x).2 (by omega)]
      exact c7 j' x hj' a1 a2
/-- a row on its way: the places from 5j to i are moved -/
def PSm (S : XS) (j e i : Nat) (S2 : XS) : Prop := (∀ k, k < 3 ∨ 7 < k → S2 k = S k) ∧ S2 3 = upd (S 3) j (S 3 (j + 1)) ∧ ∀ k, 4 ≤ k → k ≤ 7 → ∀ x, S2 k x = if 5 * j ≤ x ∧ x < i then S k (x + 5) else S k x
theorem X_moveUp (C : Cp S G) (W : WG G) {j : Nat} (hj : j + 1 < 36) : ∃ S', Cp S' (mv G j) ∧ mX_moveUp S (nI j) = some (nI 0, S') := by
  have w0 := W.1
  have g3 := W.2.2.2.1 (j + 1) hj
  have c3 := C.2.2.2.1 (j + 1) hj
  have key := itr2_r (F := mX_moveUp_F32 (nI j) (nI 5)) (fun i m S2 res => PSm S j 0 i S2 → ∃ S', PSm S j 0 (5 * j + G 3 (j + 1)) S' ∧ res = some (nI 0, S')) (5 * j) (5 * j + G 3 (j + 1)) ?_ ?_ (G 3 (j + 1)) (5 * j) FUEL (sU S 3 (upd (S 3) j (S 3 (j + 1)))) (by omega) (by omega) (fuel_gt (by omega)) ⟨fun k hk => sU_n (by omega), sU_s, fun k k1 k2 x => by rw [sU_n (by omega), if_neg (by omega)]⟩
  · obtain ⟨S', ⟨p0, p3, p4⟩, e⟩ := key
    refine ⟨S', Cp_mv C W hj p0 p3 (fun k k1 k2 x => ⟨fun h1 h2 => ?_, fun h => ?_⟩), ?_⟩
    · rw [p4 k k1 k2 x, if_pos ⟨h1, h2⟩]
    · rw [p4 k k1 k2 x, if_neg (by omega)]
    · unfold mX_moveUp
      rw [show (1 : Int32) = nI 1 from rfl, n_add, X_first, ob_s, X_first, ob_s, rdA_n hj (by omega), ob_s, wrS_n (by omega) (by omega), nI_cl (by omega), ob_s, pk_sub (by omega), show 5 * (j + 1) - 5 * j = 5 by omega]
      exact e
  · intro ih S2 hP
    obtain ⟨p0, p3, p4⟩ := hP
    refine ⟨S2, ⟨p0, p3, p4⟩, ?_⟩
    unfold mX_moveUp_F32 mX_endOfSteps
    rw [rdA_n (by omega) (by omega), ob_s, p3, upd_s, c3, show (5 : Int32) = nI 5 from rfl, n_mul, n_add, ob_s, show j * 5 = 5 * j by omega, le_t (by omega) (by omega)]
    rfl
  · intro i m ih hi0 hi hih S2 hP
    obtain ⟨p0, p3, p4⟩ := hP
    obtain ⟨d4, d5, d6, d7⟩ := C.2.2.2.2 (j + 1) (i + 5) hj (by omega) (by omega)
    have f7 := (W.2.2.2.2 (j + 1) (i + 5) hj (by omega) (by omega)).2.2.2.2.2.2
    have hi5 : i + 5 < 180 := by omega
    have r4 : S2 4 (i + 5) = S 4 (i + 5) := by rw [p4 4 (by omega) (by omega), if_neg (by omega)]
    have r5 : S2 5 (i + 5) = S 5 (i + 5) := by rw [p4 5 (by omega) (by omega), if_neg (by omega)]
    have r6 : S2 6 (i + 5) = S 6 (i + 5) := by rw [p4 6 (by omega) (by omega), if_neg (by omega)]
    have r7 : S2 7 (i + 5) = S 7 (i + 5) := by rw [p4 7 (by omega) (by omega), if_neg (by omega)]
    have fin : ∀ k, 4 ≤ k → k ≤ 7 → ∀ x, upd (S2 k) i (S k (i + 5)) x = if 5 * j ≤ x ∧ x < i + 1 then S k (x + 5) else S k x := fun k k1 k2 x => by
      unfold upd
      by_cases e : x = i
      · rw [if_pos e, if_pos (by omega), e]
      · rw [if_neg e, p4 k k1 k2 x]
        by_cases q : 5 * j ≤ x ∧ x < i
        · rw [if_pos q, if_pos (by omega)]
        · rw [if_neg q, if_neg (by omega)]
    unfold mX_moveUp_F32 mX_endOfSteps
    rw [rdA_n (by omega) (by omega), ob_s, p3, upd_s, c3, show (5 : Int32) = nI 5 from rfl, n_mul, n_add, ob_s, show j * 5 = 5 * j by omega, le_f (by omega) (by omega), n_add, rdA_n hi5 (by omega), ob_s, r4, wrS_n (by omega) (by omega), nI_cl (by omega)]
    rw [rdA_n hi5 (by omega), ob_s, sU_n (show 5 ≠ 4 by omega), r5, wrS_n (by omega) (by omega)]
    rw [rdA_n hi5 (by omega), ob_s, sU_n (show 6 ≠ 5 by omega), sU_n (show 6 ≠ 4 by omega), r6, wrS_n (by omega) (by omega)]
    rw [rdA_n hi5 (by omega), ob_s, sU_n (show 7 ≠ 6 by omega), sU_n (show 7 ≠ 5 by omega), sU_n (show 7 ≠ 4 by omega), r7, wrS_n (by omega) (by omega), show (1 : Int32) = nI 1 from rfl, show S 7 (i + 5) &&& nI 1 = S 7 (i + 5) by rw [d7]; exact and1 f7, n_add]
    refine hih _ ⟨fun k hk => ?_, ?_, fun k k1 k2 x => ?_⟩
    · rw [sU_n (by omega), sU_n (by omega), sU_n (by omega), sU_n (by omega)]; exact p0 k hk
    · rw [sU_n (by omega), sU_n (by omega), sU_n (by omega), sU_n (by omega)]; exact p3
    · rcases (show k = 4 ∨ k = 5 ∨ k = 6 ∨ k = 7 by omega) with rfl | rfl | rfl | rfl
      · rw [sU_n (by omega), sU_n (by omega), sU_n (by omega), sU_s]; exact fin 4 k1 k2 x
      · rw [sU_n (by omega), sU_n (by omega), sU_s]; exact fin 5 k1 k2 x
      · rw [sU_n (by omega), sU_s]; exact fin 6 k1 k2 x
      · rw [sU_s]; exact fin 7 k1 k2 x
theorem cpy_in {f : Nat → Int32} {j x : Nat} (h : 5 * j ≤ x ∧ x < 5 * j + 5) : va_cpy f f (5 * (j + 1)) (5 * j) 5 x = f (x + 5) := by
  unfold va_cpy
  rw [if_pos (by omega), show 5 * (j + 1) + (x - 5 * j) = x + 5 by omega]
theorem cpy_out {f : Nat → Int32} {j x : Nat} (h : ¬ (5 * j ≤ x ∧ x < 5 * j + 5)) : va_cpy f f (5 * (j + 1)) (5 * j) 5 x = f x := by
  unfold va_cpy
  rw [if_neg (by omega)]
theorem mv_gs {j l v : Nat} : mv (gs G 2 l v) j = gs (mv G j) 2 l v := by
  funext k
  by_cases e : k = 2
  · subst e
    rw [mv_n (by omega), gs_s, gs_s, mv_n (by omega)]
  · rw [gs_n e]
    by_cases e3 : k = 3
    · subst e3
      rw [mv_3, mv_3, gs_n (by omega)]
    · by_cases e4 : 4 ≤ k ∧ k ≤ 7
      · rw [mv_k e4, mv_k e4, gs_n e]
      · rw [mv_n (by omega), mv_n (by omega), gs_n e]
theorem mvs_gs {l v : Nat} : ∀ {m j : Nat} {G : GS}, mvs (gs G 2 l v) j m = gs (mvs G j m) 2 l v := by
  intro m
  induction m with
  | zero => intro j G; rfl
  | succ m ih =>
    intro j G
    show mvs (mv (gs G 2 l v) j) (j + 1) m = gs (mvs (mv G j) (j + 1) m) 2 l v
    rw [mv_gs, ih]
def PK (l e : Nat) (q m : Nat) (S : XS) (res : Option ((Int32 × XS) ⊕ Nat)) : Prop := ∀ G : GS, Cp S G → WG G → G 2 l = e → ∃ S', SI S' (mvs G (3 * l + q) m) ∧ WG (mvs G (3 * l + q) m) ∧ res = some (.inl (nI e, S'))
theorem X_strikeL {l e : Nat} (hl : l < 12) (he : e ≤ 2) : ∀ m q N S, 0 ≤ q → q + m = e → m < N → PK l e q m S (itr2 (mX_strike_F18 (nI l)) N S (nI q)) := by
  refine itr2_r (PK l e) 0 e ?_ ?_
  · intro ih S G C W hG
    have c2 := C.2.2.1 l hl
    obtain ⟨S1, k1, k2, k3⟩ := X_settle C W
    refine ⟨S1, k1, W, ?_⟩
    unfold mX_strike_F18
    rw [rdA_n hl (by omega), ob_s, c2, hG, le_t (by omega) (by omega), k3, rb_s, rdA_n hl (by omega), ob_s, k2 2 (by omega), c2, hG]
  · intro q m ih _ hq hih S G C W hG
    have c2 := C.2.2.1 l hl
    obtain ⟨S1, k1, k2⟩ := X_moveUp C W (j := 3 * l + q) (by omega)
    obtain ⟨S', a1, a2, a3⟩ := hih S1 (mv G (3 * l + q)) k1 (WG_mv W (by omega)) (by rw [mv_n (by omega)]; exact hG)
    refine ⟨S', a1, a2, ?_⟩
    unfold mX_strike_F18
    rw [rdA_n hl (by omega), ob_s, c2, hG, le_f (by omega) (by omega), X_slotOf, ob_s, k2, rb_s, show (1 : Int32) = nI 1 from rfl, n_add]
    exact a3
def PL (l e : Nat) (q m : Nat) (T : XS) (res : Option (Int32 × XS)) : Prop := ∀ G : GS, Cp T G → WG G → G 2 l = e + 1 → Z T → T 15 0 = nI 0 → ∃ T', Cp T' (gs (mvs G (3 * l + q) m) 2 l e) ∧ Z T' ∧ T' 15 0 = nI 0 ∧ res = some (nI e, T')
end STRIKE
