section STRIKE
variable {S T : XS} {G : GS}
def sh (f : Nat → Nat) (j : Nat) : Nat → Nat := fun i => if 5 * j ≤ i ∧ i < 5 * j + 5 then f (i + 5) else f i
def mv (G : GS) (j : Nat) : GS := fun k => if k = 3 then uN (G 3) j (G 3 (j + 1)) else if 4 ≤ k ∧ k ≤ 7 then sh (G k) j else G k
def mvs : GS → Nat → Nat → GS
  | G, _, 0 => G
  | G, j, m + 1 => mvs (mv G j) (j + 1) m
theorem mv_3 {j : Nat} : mv G j 3 = uN (G 3) j (G 3 (j + 1)) := if_pos rfl
theorem mv_k {j k : Nat} (h : 4 ≤ k ∧ k ≤ 7) : mv G j k = sh (G k) j := by
  unfold mv
  rw [if_neg (by omega), if_pos h]
theorem mv_n {j k : Nat} (h : k < 3 ∨ 7 < k) : mv G j k = G k := by
  unfold mv
  rw [if_neg (by omega), if_neg (by omega)]
theorem sh_in {f : Nat → Nat} {j i : Nat} (h : 5 * j ≤ i ∧ i < 5 * j + 5) : sh f j i = f (i + 5) := if_pos h
theorem sh_out {f : Nat → Nat} {j i : Nat} (h : ¬ (5 * j ≤ i ∧ i < 5 * j + 5)) : sh f j i = f i := if_neg h
theorem WG_mv (W : WG G) {j : Nat} (hj : j + 1 < 36) : WG (mv G j) := by
  obtain ⟨w0, w1, w2, w3, w7⟩ := W
  have h3 := w3 (j + 1) hj
  unfold WG
  rw [mv_n (k := 14) (by omega), mv_n (k := 1) (by omega), mv_n (k := 2) (by omega), mv_3, mv_k (k := 4) (by omega), mv_k (k := 5) (by omega), mv_k (k := 6) (by omega), mv_k (k := 7) (by omega)]
  refine ⟨w0, w1, w2, fun x hx => ?_, fun j' x hj' h1 h2 => ?_⟩
  · unfold uN
    split
    · exact h3
    · exact w3 x hx
  · by_cases e : j' = j
    · subst e
      rw [uN_s] at h2
      rw [sh_in (by omega), sh_in (by omega), sh_in (by omega), sh_in (by omega)]
      exact w7 (j' + 1) (x + 5) hj (by omega) (by omega)
    · rw [uN_n e] at h2
      have := w3 j' hj'
      rw [sh_out (by omega), sh_out (by omega), sh_out (by omega), sh_out (by omega)]
      exact w7 j' x hj' h1 h2
theorem Cp_mv {S' : XS} (C : Cp S G) (W : WG G) {j : Nat} (hj : j + 1 < 36) (h0 : ∀ k, k < 3 ∨ 7 < k → S' k = S k) (h3 : S' 3 = upd (S 3) j (S 3 (j + 1))) (h4 : ∀ k, 4 ≤ k → k ≤ 7 → ∀ x, (5 * j ≤ x → x < 5 * j + G 3 (j + 1) → S' k x = S k (x + 5)) ∧ (x < 5 * j ∨ 5 * j + 5 ≤ x → S' k x = S k x)) : Cp S' (mv G j) := by
  obtain ⟨c0, c1, c2, c3, c7⟩ := C
  obtain ⟨w0, w1, w2, w3, w7⟩ := W
  have g3 := w3 (j + 1) hj
  unfold Cp
  rw [mv_n (k := 14) (by omega), mv_n (k := 1) (by omega), mv_n (k := 2) (by omega), mv_3, mv_k (k := 4) (by omega), mv_k (k := 5) (by omega), mv_k (k := 6) (by omega), mv_k (k := 7) (by omega), h0 14 (by omega), h0 1 (by omega), h0 2 (by omega), h3]
  refine ⟨c0, c1, c2, fun x hx => ?_, fun j' x hj' a1 a2 => ?_⟩
  · unfold upd uN
    by_cases e : x = j
    · rw [if_pos e, if_pos e]; exact c3 _ hj
    · rw [if_neg e, if_neg e]; exact c3 x hx
  · by_cases e : j' = j
    · subst e
      rw [uN_s] at a2
      rw [sh_in (by omega), sh_in (by omega), sh_in (by omega), sh_in (by omega), (h4 4 (by omega) (by omega) x).1 a1 a2, (h4 5 (by omega) (by omega) x).1 a1 a2, (h4 6 (by omega) (by omega) x).1 a1 a2, (h4 7 (by omega) (by omega) x).1 a1 a2]
      exact c7 (j' + 1) (x + 5) hj (by omega) (by omega)
    · rw [uN_n e] at a2
      have := w3 j' hj'
      rw [sh_out (by omega), sh_out (by omega), sh_out (by omega), sh_out (by omega), (h4 4 (by omega) (by omega) x).2 (by omega), (h4 5 (by omega) (by omega) x).2 (by omega), (h4 6 (by omega) (by omega) x).2 (by omega), (h4 7 (by omega) (by omega) x).2 (by omega)]
      exact c7 j' x hj' a1 a2
/-- a row on its way: the places from 5j to i are moved -/
def PSm (S : XS) (j e i : Nat) (S2 : XS) : Prop := (∀ k, k < 3 ∨ 7 < k → S2 k = S k) ∧ S2 3 = upd (S 3) j (S 3 (j + 1)) ∧ ∀ k, 4 ≤ k → k ≤ 7 → ∀ x, S2 k x = if 5 * j ≤ x ∧ x < i then S k (x + 5) else S k x
theorem X_moveUp (C : Cp S G) (W : WG G) {j : Nat} (hj : j + 1 < 36) : ∃ S', Cp S' (mv G j) ∧ mX_moveUp S (nI j) = some (nI 0, S') := by
  have w0 := W.1
  have g3 := W.2.2.2.1 (j + 1) hj
  have c3 := C.2.2.2.1 (j + 1) hj
  have key := itr2_r (F := mX_moveUp_F32 (nI j) (nI 5)) (fun i m S2 res => PSm S j 0 i S2 → ∃ S', PSm S j 0 (5 * j + G 3 (j + 1)) S' ∧ res = some (nI 0, S')) (5 * j) (5 * j + G 3 (j + 1)) ?_ ?_ (G 3 (j + 1)) (5 * j) FUEL (sU S 3 (upd (S 3) j (S 3 (j + 1)))) (by omega) (by omega) (fuel_gt (by omega)) ⟨fun k hk => sU_n (by omega), sU_s, fun k k1 k2 x => by rw [sU_n (by omega), if_neg (by omega)]⟩
  · obtain ⟨S', ⟨p0, p3, p4⟩, e⟩ := key
    refine ⟨S', Cp_mv C W hj p0 p3 (fun k k1 k2 x => ⟨fun h1 h2 => ?_, fun h => ?_⟩), ?_⟩
    · rw [p4 k k1 k2 x, if_pos ⟨h1, h2⟩]
    · rw [p4 k k1 k2 x, if_neg (by omega)]
    · unfold mX_moveUp
      rw [show (1 : Int32) = nI 1 from rfl, n_add, X_first, ob_s, X_first, ob_s, rdA_n hj (by omega), ob_s, wrS_n (by omega) (by omega), nI_cl (by omega), ob_s, pk_sub (by omega), show 5 * (j + 1) - 5 * j = 5 by omega]
      exact e
  · intro ih S2 hP
    obtain ⟨p0, p3, p4⟩ := hP
    refine ⟨S2, ⟨p0, p3, p4⟩, ?_⟩
    unfold mX_moveUp_F32 mX_endOfSteps
    rw [rdA_n (by omega) (by omega), ob_s, p3, upd_s, c3, show (5 : Int32) = nI 5 from rfl, n_mul, n_add, ob_s, show j * 5 = 5 * j by omega, le_t (by omega) (by omega)]
    rfl
  · intro i m ih hi0 hi hih S2 hP
    obtain ⟨p0, p3, p4⟩ := hP
    obtain ⟨d4, d5, d6, d7⟩ := C.2.2.2.2 (j + 1) (i + 5) hj (by omega) (by omega)
    have f7 := (W.2.2.2.2 (j + 1) (i + 5) hj (by omega) (by omega)).2.2.2.2.2.2
    have hi5 : i + 5 < 180 := by omega
    have r4 : S2 4 (i + 5) = S 4 (i + 5) := by rw [p4 4 (by omega) (by omega), if_neg (by omega)]
    have r5 : S2 5 (i + 5) = S 5 (i + 5) := by rw [p4 5 (by omega) (by omega), if_neg (by omega)]
    have r6 : S2 6 (i + 5) = S 6 (i + 5) := by rw [p4 6 (by omega) (by omega), if_neg (by omega)]
    have r7 : S2 7 (i + 5) = S 7 (i + 5) := by rw [p4 7 (by omega) (by omega), if_neg (by omega)]
    have fin : ∀ k, 4 ≤ k → k ≤ 7 → ∀ x, upd (S2 k) i (S k (i + 5)) x = if 5 * j ≤ x ∧ x < i + 1 then S k (x + 5) else S k x := fun k k1 k2 x => by
      unfold upd
      by_cases e : x = i
      · rw [if_pos e, if_pos (by omega), e]
      · rw [if_neg e, p4 k k1 k2 x]
        by_cases q : 5 * j ≤ x ∧ x < i
        · rw [if_pos q, if_pos (by omega)]
        · rw [if_neg q, if_neg (by omega)]
    unfold mX_moveUp_F32 mX_endOfSteps
    rw [rdA_n (by omega) (by omega), ob_s, p3, upd_s, c3, show (5 : Int32) = nI 5 from rfl, n_mul, n_add, ob_s, show j * 5 = 5 * j by omega, le_f (by omega) (by omega), n_add, rdA_n hi5 (by omega), ob_s, r4, wrS_n (by omega) (by omega), nI_cl (by omega)]
    rw [rdA_n hi5 (by omega), ob_s, sU_n (show 5 ≠ 4 by omega), r5, wrS_n (by omega) (by omega)]
    rw [rdA_n hi5 (by omega), ob_s, sU_n (show 6 ≠ 5 by omega), sU_n (show 6 ≠ 4 by omega), r6, wrS_n (by omega) (by omega)]
    rw [rdA_n hi5 (by omega), ob_s, sU_n (show 7 ≠ 6 by omega), sU_n (show 7 ≠ 5 by omega), sU_n (show 7 ≠ 4 by omega), r7, wrS_n (by omega) (by omega), show (1 : Int32) = nI 1 from rfl, show S 7 (i + 5) &&& nI 1 = S 7 (i + 5) by rw [d7]; exact and1 f7, n_add]
    refine hih _ ⟨fun k hk => ?_, ?_, fun k k1 k2 x => ?_⟩
    · rw [sU_n (by omega), sU_n (by omega), sU_n (by omega), sU_n (by omega)]; exact p0 k hk
    · rw [sU_n (by omega), sU_n (by omega), sU_n (by omega), sU_n (by omega)]; exact p3
    · rcases (show k = 4 ∨ k = 5 ∨ k = 6 ∨ k = 7 by omega) with rfl | rfl | rfl | rfl
      · rw [sU_n (by omega), sU_n (by omega), sU_n (by omega), sU_s]; exact fin 4 k1 k2 x
      · rw [sU_n (by omega), sU_n (by omega), sU_s]; exact fin 5 k1 k2 x
      · rw [sU_n (by omega), sU_s]; exact fin 6 k1 k2 x
      · rw [sU_s]; exact fin 7 k1 k2 x
theorem cpI_n {σ ρ : Type} {sp dp : Nat} {f : Nat → Int32} {u : (Nat → Int32) → σ} {K : σ → Option ρ} (h1 : sp + 5 ≤ 180) (h2 : dp + 5 ≤ 180) : cpI 180 (nI sp) (nI dp) (nI 5) f u K = K (u (va_cpy f f sp dp 5)) := by
  unfold cpI
  rw [nI_cl (by omega), nI_cl (by omega), nI_cl (by omega)]
  refine if_neg ?_
  rintro (h | h | h | h | h)
  · exact nI_pos (by omega) h
  · exact nI_pos (by omega) h
  · exact nI_pos (by omega) h
  · omega
  · omega
theorem cpZ_n {σ ρ : Type} {sp dp : Nat} {f : Nat → Int32} {u : (Nat → Int32) → σ} {K : σ → Option ρ} (h1 : sp + 5 ≤ 180) (h2 : dp + 5 ≤ 180) (hz : ∀ i, i < 180 → f i = 0 ∨ f i = 1) : cpZ 180 (nI sp) (nI dp) (nI 5) f u K = K (u (va_cpy f f sp dp 5)) := by
  unfold cpZ
  rw [if_pos ?_, cpI_n h1 h2]
  rw [nI_cl (by omega), nI_cl (by omega), List.all_eq_true]
  intro i hi
  have hi := List.mem_range.mp hi
  rcases hz (sp + i) (by omega) with e | e
  · rw [e]; rfl
  · rw [e]; rfl
theorem cpy_in {f : Nat → Int32} {j x : Nat} (h : 5 * j ≤ x ∧ x < 5 * j + 5) : va_cpy f f (5 * (j + 1)) (5 * j) 5 x = f (x + 5) := by
  unfold va_cpy
  rw [if_pos (by omega), show 5 * (j + 1) + (x - 5 * j) = x + 5 by omega]
theorem cpy_out {f : Nat → Int32} {j x : Nat} (h : ¬ (5 * j ≤ x ∧ x < 5 * j + 5)) : va_cpy f f (5 * (j + 1)) (5 * j) 5 x = f x := by
  unfold va_cpy
  rw [if_neg (by omega)]
theorem M_layOver (C : Cp T G) (W : WG G) (z : Z T) {j : Nat} (hj : j + 1 < 36) : ∃ T', Cp T' (mv G j) ∧ Z T' ∧ T' 15 = T 15 ∧ mM_layOver T (nI (j + 1)) (nI j) = some (nI 0, T') := by
  have g3 := W.2.2.2.1 (j + 1) hj
  let f : Nat → Nat → Int32 := fun k => va_cpy (T k) (T k) (5 * (j + 1)) (5 * j) 5
  let T' : XS := sU (sU (sU (sU (sU T 3 (upd (T 3) j (T 3 (j + 1)))) 4 (f 4)) 5 (f 5)) 6 (f 6)) 7 (f 7)
  have e4 : T' 4 = f 4 := by show sU _ 7 _ 4 = _; rw [sU_n (by omega), sU_n (by omega), sU_n (by omega), sU_s]
  have e5 : T' 5 = f 5 := by show sU _ 7 _ 5 = _; rw [sU_n (by omega), sU_n (by omega), sU_s]
  have e6 : T' 6 = f 6 := by show sU _ 7 _ 6 = _; rw [sU_n (by omega), sU_s]
  have e7 : T' 7 = f 7 := by show sU _ 7 _ 7 = _; rw [sU_s]
  have e0 : ∀ k, k < 3 ∨ 7 < k → T' k = T k := fun k hk => by show sU _ 7 _ k = _; rw [sU_n (by omega), sU_n (by omega), sU_n (by omega), sU_n (by omega), sU_n (by omega)]
  have e3 : T' 3 = upd (T 3) j (T 3 (j + 1)) := by show sU _ 7 _ 3 = _; rw [sU_n (by omega), sU_n (by omega), sU_n (by omega), sU_n (by omega), sU_s]
  have ek : ∀ k, 4 ≤ k → k ≤ 7 → T' k = f k := fun k k1 k2 => by
    rcases (show k = 4 ∨ k = 5 ∨ k = 6 ∨ k = 7 by omega) with rfl | rfl | rfl | rfl
    · exact e4
    · exact e5
    · exact e6
    · exact e7
  refine ⟨T', Cp_mv C W hj e0 e3 (fun k k1 k2 x => ⟨fun h1 h2 => ?_, fun h => ?_⟩), fun x hx => ?_, e0 15 (by omega), ?_⟩
  · rw [ek k k1 k2]; exact cpy_in (by omega)
  · rw [ek k k1 k2]; exact cpy_out (by omega)
  · rw [e7]
    show va_cpy (T 7) (T 7) (5 * (j + 1)) (5 * j) 5 x = 0 ∨ va_cpy (T 7) (T 7) (5 * (j + 1)) (5 * j) 5 x = 1
    by_cases q : 5 * j ≤ x ∧ x < 5 * j + 5
    · rw [cpy_in q]; exact z _ (by omega)
    · rw [cpy_out q]; exact z x hx
  · unfold mM_layOver
    rw [show (5 : Int32) = nI 5 from rfl, n_mul, n_mul, rdA_n hj (by omega), ob_s, wrS_n (by omega) (by omega), nI_cl (by omega), cpI_n (by omega) (by omega), cpI_n (by omega) (by omega), cpI_n (by omega) (by omega), cpZ_n (by omega) (by omega) (fun i hi => by rw [sU_n (by omega), sU_n (by omega), sU_n (by omega), sU_n (by omega)]; exact z i hi)]
    rw [sU_n (show 7 ≠ 6 by omega), sU_n (show 7 ≠ 5 by omega), sU_n (show 7 ≠ 4 by omega), sU_n (show 7 ≠ 3 by omega), sU_n (show 6 ≠ 5 by omega), sU_n (show 6 ≠ 4 by omega), sU_n (show 6 ≠ 3 by omega), sU_n (show 5 ≠ 4 by omega), sU_n (show 5 ≠ 3 by omega), sU_n (show 4 ≠ 3 by omega)]
    rfl
theorem mv_gs {j l v : Nat} : mv (gs G 2 l v) j = gs (mv G j) 2 l v := by
  funext k
  by_cases e : k = 2
  · subst e
    rw [mv_n (by omega), gs_s, gs_s, mv_n (by omega)]
  · rw [gs_n e]
    by_cases e3 : k = 3
    · subst e3
      rw [mv_3, mv_3, gs_n (by omega)]
    · by_cases e4 : 4 ≤ k ∧ k ≤ 7
      · rw [mv_k e4, mv_k e4, gs_n e]
      · rw [mv_n (by omega), mv_n (by omega), gs_n e]
theorem mvs_gs {l v : Nat} : ∀ {m j : Nat} {G : GS}, mvs (gs G 2 l v) j m = gs (mvs G j m) 2 l v := by
  intro m
  induction m with
  | zero => intro j G; rfl
  | succ m ih =>
    intro j G
    show mvs (mv (gs G 2 l v) j) (j + 1) m = gs (mvs (mv G j) (j + 1) m) 2 l v
    rw [mv_gs, ih]
def PK (l e : Nat) (q m : Nat) (S : XS) (res : Option ((Int32 × XS) ⊕ Nat)) : Prop := ∀ G : GS, Cp S G → WG G → G 2 l = e → ∃ S', SI S' (mvs G (3 * l + q) m) ∧ WG (mvs G (3 * l + q) m) ∧ res = some (.inl (nI e, S'))
theorem X_strikeL {l e : Nat} (hl : l < 12) (he : e ≤ 2) : ∀ m q N S, 0 ≤ q → q + m = e → m < N → PK l e q m S (itr2 (mX_strike_F18 (nI l)) N S (nI q)) := by
  refine itr2_r (PK l e) 0 e ?_ ?_
  · intro ih S G C W hG
    have c2 := C.2.2.1 l hl
    obtain ⟨S1, k1, k2, k3⟩ := X_settle C W
    refine ⟨S1, k1, W, ?_⟩
    unfold mX_strike_F18
    rw [rdA_n hl (by omega), ob_s, c2, hG, le_t (by omega) (by omega), k3, rb_s, rdA_n hl (by omega), ob_s, k2 2 (by omega), c2, hG]
  · intro q m ih _ hq hih S G C W hG
    have c2 := C.2.2.1 l hl
    obtain ⟨S1, k1, k2⟩ := X_moveUp C W (j := 3 * l + q) (by omega)
    obtain ⟨S', a1, a2, a3⟩ := hih S1 (mv G (3 * l + q)) k1 (WG_mv W (by omega)) (by rw [mv_n (by omega)]; exact hG)
    refine ⟨S', a1, a2, ?_⟩
    unfold mX_strike_F18
    rw [rdA_n hl (by omega), ob_s, c2, hG, le_f (by omega) (by omega), X_slotOf, ob_s, k2, rb_s, show (1 : Int32) = nI 1 from rfl, n_add]
    exact a3
def PL (l e : Nat) (q m : Nat) (T : XS) (res : Option (Int32 × XS)) : Prop := ∀ G : GS, Cp T G → WG G → G 2 l = e + 1 → Z T → T 15 0 = nI 0 → ∃ T', Cp T' (gs (mvs G (3 * l + q) m) 2 l e) ∧ Z T' ∧ T' 15 0 = nI 0 ∧ res = some (nI e, T')
theorem M_strikeL {l e : Nat} (hl : l < 12) (he : e ≤ 2) : ∀ m q N T, 0 ≤ q → q + m = e → m < N → PL l e q m T (itr2 (mM_strike_F22 (nI l)) N T (nI q)) := by
  refine itr2_r (PL l e) 0 e ?_ ?_
  · intro ih T G C W hG z h15
    have c2 := C.2.2.1 l hl
    refine ⟨_, Cp_gs (k := 2) (i := l) (v := e) (by omega) C, z.oth (by omega), by rw [sU_n (by omega)]; exact h15, ?_⟩
    unfold mM_strike_F22
    rw [rdA_n hl (by omega), ob_s, c2, hG, show (1 : Int32) = nI 1 from rfl, n_add, le_t (by omega) (by omega), ob_s, pk_sub (by omega), wrS_n hl (by omega), nI_cl (by omega), rdA_n hl (by omega), ob_s, sU_s, show e + 1 - 1 = e by omega, upd_s]
  · intro q m ih _ hq hih T G C W hG z h15
    have c2 := C.2.2.1 l hl
    obtain ⟨T1, k1, k2, k3, k4⟩ := M_layOver C W z (j := 3 * l + q) (by omega)
    obtain ⟨T', a1, a2, a3, a4⟩ := hih T1 (mv G (3 * l + q)) k1 (WG_mv W (by omega)) (by rw [mv_n (by omega)]; exact hG) k2 (by rw [k3]; exact h15)
    refine ⟨T', a1, a2, a3, ?_⟩
    unfold mM_strike_F22
    rw [rdA_n hl (by omega), ob_s, c2, hG, show (1 : Int32) = nI 1 from rfl, show (3 : Int32) = nI 3 from rfl, n_add, le_f (by omega) (by omega), n_mul, n_add, n_add, k4, rb_s]
    exact a4
theorem o_strike (I : SI S G) (C : Cp T G) (W : WG G) (z : Z T) (v1 v2 : Int32) : Out cd_strike S T (mX_strike S v1 v2) (mM_strike T v1 v2) := by
  have w0 := W.1
  have F0 : Fl T (sU T 15 (fun _ => nI 0)) 0 := Fl.set
  have C0 := F0.cp C
  unfold mX_strike mM_strike
  rw [show (0 : Int32) = nI 0 from rfl, show (1 : Int32) = nI 1 from rfl, st_s]
  rcases G_proof I.1 C0 W v1 v2 with ⟨l, p, hl, hp, rfl, rfl⟩ | ⟨h1, h2⟩
  · have c2 := I.1.2.2.1 l (by omega)
    have w2 := (W.2.2.1 l (by omega)).1
    obtain ⟨e, he⟩ : ∃ e, G 2 l = e + 1 := ⟨G 2 l - 1, by omega⟩
    have Cx := Cp_gs (k := 2) (i := l) (v := e) (by omega) I.1
    have Wx : WG (gs G 2 l e) := WG_gs2 W hl (by omega)
    obtain ⟨S1, a1, a2, a3⟩ := X_strikeL (l := l) (e := e) (by omega) (by omega) (e - p) p FUEL _ (by omega) (by omega) (fuel_gt (by omega)) (gs G 2 l e) Cx Wx (by rw [gs_s, uN_s])
    obtain ⟨T1, b1, b2, b3, b4⟩ := M_strikeL (l := l) (e := e) (by omega) (by omega) (e - p) p FUEL _ (by omega) (by omega) (fuel_gt (by omega)) G C0 W he (F0.fz.2 z) F0.2
    rw [X_reqP_in I.1 W hl hp, tb_s, rdA_n (by omega) (by omega), ob_s, c2, he, pk_sub (by omega), show e + 1 - 1 = e by omega, wrS_n (by omega) (by omega), nI_cl (by omega), a3, M_isProof_in C0 W hl hp, ob_s, if_neg one0, b4]
    rw [mvs_gs] at a1 a2
    exact Out.good rfl rfl a1 b1 a2 b3 (fun _ => b2)
  · rw [h1, tb_x, h2, ob_s, if_pos rfl, M_no, rb_s]
    exact Out.bad I C W rfl rfl (k := 1) (by omega) (by omega) rfl Fl2
end STRIKE
