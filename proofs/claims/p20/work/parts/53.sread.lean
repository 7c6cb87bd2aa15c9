section SREAD
variable {Hp : HS} {P : Nat → Nat → Nat} {G : GS}
theorem nb_and {a b : Bool} : nI a.toNat &&& nI b.toNat = nI (a && b).toNat := by
  cases a <;> cases b <;> decide
theorem sum_all {f : Nat → Nat} : ∀ {m i : Nat}, (sumR f i m == 0) = allR (fun x => f x == 0) i m := by
  intro m
  induction m with
  | zero => intro i; rfl
  | succ m ih =>
    intro i
    unfold sumR allR
    rw [← ih, Bool.eq_iff_iff, Bool.and_eq_true, beq_iff_eq, beq_iff_eq, beq_iff_eq]
    omega
theorem S_isWhole (V : HV Hp P G) (W : WG G) {l p : Nat} (hl : l < G 14 0) (hp : p < G 2 l) : mS_isWhole Hp (P 4 (3 * l + p)) = some (nI (wh G (3 * l + p)).toNat) := by
  have w0 := W.1
  have w2 := (W.2.2.1 l (by omega)).1
  have w3 := W.2.2.2.1 (3 * l + p) (by omega)
  have w7 := fun i h1 h2 => (W.2.2.2.2 (3 * l + p) i (by omega) h1 h2).2.2.2.2.2.2
  unfold mS_isWhole
  rw [V.ns hl hp, ob_s, show (0 : Int32) = nI 0 from rfl]
  refine (itr2_r (F := mS_isWhole_F10 Hp (P 4 (3 * l + p)) (P 4 (3 * l + p)) (nI (G 3 (3 * l + p)))) (fun k m a res => ∀ s, a = nI s → s ≤ k → res = some (nI (decide (0 < G 3 (3 * l + p)) && (s + sumR (G 7) (5 * (3 * l + p) + k) m == 0)).toNat)) 0 (G 3 (3 * l + p)) ?_ ?_ (G 3 (3 * l + p)) 0 16 (nI 0) (by omega) (by omega) (by omega) 0 rfl (by omega)).trans ?_
  · intro ih a s ha hs
    subst ha
    unfold mS_isWhole_F10
    rw [le_t (by omega) (by omega), V.ns hl hp, ob_s]
    unfold sumR
    by_cases q : G 3 (3 * l + p) = 0
    · rw [if_pos (show nI (G 3 (3 * l + p)) ≤ (0 : Int32) by rw [q]; decide), decide_eq_false (by omega)]
      exact gz_0
    · rw [if_neg (show ¬ nI (G 3 (3 * l + p)) ≤ (0 : Int32) from nI_ge (a := 0) (by omega) (by omega)), decide_eq_true (by omega), Bool.true_and]
      by_cases q2 : s = 0
      · subst q2
        rw [if_pos (show nI 0 = (0 : Int32) from rfl)]
        exact gz_1
      · rw [if_neg (show ¬ nI s = (0 : Int32) from fun e => q2 ((nI_eq (b := 0) (by omega) (by omega)).mp e)), show (s + 0 == 0) = false from beq_eq_false_iff_ne.mpr (by omega)]
        exact gz_0
  · intro k m ih _ hk hih a s ha hs
    subst ha
    have h7 := w7 (5 * (3 * l + p) + k) (by omega) (by omega)
    unfold mS_isWhole_F10
    rw [le_f (by omega) (by omega), V.k W hl hp (by omega), ob_s, show (3 : Int32) = nI 3 from rfl, (V.s hl hp (k := k) (by omega)).2.2.2, ob_s, n_add, nI_1, hih _ (s + G 7 (5 * (3 * l + p) + k)) rfl (by omega), show sumR (G 7) (5 * (3 * l + p) + k) (m + 1) = G 7 (5 * (3 * l + p) + k) + sumR (G 7) (5 * (3 * l + p) + (k + 1)) m from rfl, Nat.add_assoc s]
  · unfold wh
    rw [Nat.add_zero, Nat.zero_add, sum_all]
theorem S_holds (V : HV Hp P G) (W : WG G) {R : Nat} {r : Nat → Nat} (hR : HR Hp R (G 14 0) r) (hr : ∀ x, r x < 100) {l p : Nat} (hl : l < G 14 0) (hp : p < G 2 l) : mS_holds Hp (P 0 0) (P 4 (3 * l + p)) R = some (nI (hd G r 100 (3 * l + p)).toNat) := by
  have w0 := W.1
  have w2 := (W.2.2.1 l (by omega)).1
  have w3 := W.2.2.2.1 (3 * l + p) (by omega)
  unfold mS_holds hd
  rw [hrc_0, S_isWhole V W hl hp, ob_s, V.ns hl hp, ob_s, show (0 : Int32) = nI 0 from rfl]
  refine itr2_r (F := mS_holds_F16 Hp (P 0 0) R (P 4 (3 * l + p)) (nI (G 3 (3 * l + p)))) (fun k m a res => ∀ b : Bool, a = nI b.toNat → res = some (nI (b && allR (dz G r 100) (5 * (3 * l + p) + k) m).toNat)) 0 (G 3 (3 * l + p)) ?_ ?_ (G 3 (3 * l + p)) 0 16 _ (by omega) (by omega) (by omega) (wh G (3 * l + p)) rfl
  · intro ih a b ha
    subst ha
    unfold mS_holds_F16 allR
    rw [le_t (by omega) (by omega), Bool.and_true, gz_b]
  · intro k m ih _ hk hih a b ha
    subst ha
    obtain ⟨f4, f5, f5', f5'', f6, f6', f7⟩ := W.2.2.2.2 (3 * l + p) (5 * (3 * l + p) + k) (by omega) (by omega) (by omega)
    obtain ⟨e0, e1, e2, e3⟩ := V.s hl hp (k := k) (by omega)
    have go : ∀ c : Bool, c = dz G r 100 (5 * (3 * l + p) + k) → ih (nI b.toNat &&& nI c.toNat) (nI (k + 1)) = some (nI (b && allR (dz G r 100) (5 * (3 * l + p) + k) (m + 1)).toNat) := fun c hc => by
      rw [nb_and, hih _ _ rfl, hc, Bool.and_assoc]
      rfl
    unfold mS_holds_F16
    rw [le_f (by omega) (by omega), V.k W hl hp (by omega), ob_s, show (0 : Int32) = nI 0 from rfl, show (1 : Int32) = nI 1 from rfl, show (2 : Int32) = nI 2 from rfl, e0, ob_s, n_add]
    have dze : dz G r 100 (5 * (3 * l + p) + k) = if G 4 (5 * (3 * l + p) + k) = 0 then G 1 (G 5 (5 * (3 * l + p) + k)) == 1 else if G 4 (5 * (3 * l + p) + k) = 1 then decide (0 < r (G 5 (5 * (3 * l + p) + k))) && decide (r (G 5 (5 * (3 * l + p) + k)) < 100) else G 6 (5 * (3 * l + p) + k) == 0 := rfl
    by_cases k0 : G 4 (5 * (3 * l + p) + k) = 0
    · have h5 := f5 k0
      have w1 := W.2.1 _ h5
      rw [eq_t k0, V.g0, ob_s, e1, ob_s, V.a h5, ob_s]
      rw [if_pos k0] at dze
      rw [← go (G 1 (G 5 (5 * (3 * l + p) + k)) == 1) dze.symm]
      rcases (show G 1 (G 5 (5 * (3 * l + p) + k)) = 0 ∨ G 1 (G 5 (5 * (3 * l + p) + k)) = 1 by omega) with q | q <;> rw [q] <;> rfl
    · rw [eq_f k0 (by omega) (by omega)]
      rw [if_neg k0] at dze
      by_cases k1 : G 4 (5 * (3 * l + p) + k) = 1
      · have h5 := f5' k1
        have hrx := hr (G 5 (5 * (3 * l + p) + k))
        rw [ob_s, eq_t k1, e1, ob_s, hR.ld h5 (by omega), ob_s]
        rw [if_pos k1, decide_eq_true hrx, Bool.and_true] at dze
        by_cases q : r (G 5 (5 * (3 * l + p) + k)) = 0
        · rw [le_t (by omega) (by omega), ← go false (by rw [dze, decide_eq_false (by omega)])]
          rfl
        · rw [le_f (by omega) (by omega), ← go true (by rw [dze, decide_eq_true (by omega)])]
          rfl
      · rw [ob_s, eq_f k1 (by omega) (by omega), e2, ob_s]
        rw [if_neg k1] at dze
        by_cases q : G 6 (5 * (3 * l + p) + k) = 0
        · rw [eq_t q, ← go true (by rw [dze, q]; rfl)]
          rfl
        · rw [eq_f q (by omega) (by omega), ← go false (by rw [dze, beq_eq_false_iff_ne.mpr q])]
          rfl
/-- 100000 stands for none -/
def enc (v : Nat) : Nat := if v < 9999 then v else 100000
theorem S_measure (V : HV Hp P G) (W : WG G) {R k : Nat} {r : Nat → Nat} (hk1 : k ≤ 1) (hR : HR Hp R (G 14 0) (fun x => enc (r x))) (hr : ∀ x, r x ≤ 9999) {l p : Nat} (hl : l < G 14 0) (hp : p < G 2 l) : mS_measure Hp (P 0 0) (P 4 (3 * l + p)) R (nI k) = some (nI (enc (cs G k r (3 * l + p)))) := by
  have w0 := W.1
  have w2 := (W.2.2.1 l (by omega)).1
  have w3 := W.2.2.2.1 (3 * l + p) (by omega)
  unfold mS_measure cs
  rw [hrc_0, S_isWhole V W hl hp, ob_s, show (0 : Int32) = nI 0 from rfl]
  by_cases hw : wh G (3 * l + p) = true
  · rw [hw, if_pos rfl, show nI true.toNat = nI 1 from rfl, eq_f (by omega) (by omega) (by omega), V.ns hl hp, ob_s]
    have key := itr2_r (F := mS_measure_F24 Hp (P 0 0) R (nI k) (P 4 (3 * l + p)) (nI (G 3 (3 * l + p)))) (fun i m a res => ∀ s, a = nI s → s ≤ i * 10000 → res = some (nI (enc (min 9999 (s + ((if k = 0 then m else 0) + sumR (sc G k r) (5 * (3 * l + p) + i) m)))))) 0 (G 3 (3 * l + p)) ?_ ?_ (G 3 (3 * l + p)) 0 16 (nI 0) (by omega) (by omega) (by omega) 0 rfl (by omega)
    · rw [key, Nat.zero_add, Nat.add_zero]
      rfl
    · intro ih a s ha hs
      subst ha
      unfold mS_measure_F24 sumR enc
      rw [le_t (by omega) (by omega), show (9998 : Int32) = nI 9998 from rfl, le_i (by omega) (by omega)]
      have e0 : (if k = 0 then 0 else 0) = 0 := by split <;> rfl
      rw [e0]
      by_cases q : s ≤ 9998
      · rw [if_pos q, if_pos (by omega)]
        congr 2
        omega
      · rw [if_neg q, if_neg (by omega)]
        rfl
    · intro i m ih _ hi hih a s ha hs
      subst ha
      obtain ⟨f4, f5, f5', f5'', f6, f6', f7⟩ := W.2.2.2.2 (3 * l + p) (5 * (3 * l + p) + i) (by omega) (by omega) (by omega)
      obtain ⟨e0, e1, e2, e3⟩ := V.s hl hp (k := i) (by omega)
      have hle := sumR_ge (f := sc G k r) (m := m + 1) (i := 5 * (3 * l + p) + i) (5 * (3 * l + p) + i) (by omega) (by omega)
      have hsum : sumR (sc G k r) (5 * (3 * l + p) + i) (m + 1) = sc G k r (5 * (3 * l + p) + i) + sumR (sc G k r) (5 * (3 * l + p) + (i + 1)) m := rfl
      have bad : 9999 ≤ sc G k r (5 * (3 * l + p) + i) → (some (nI 100000) : Option Int32) = some (nI (enc (min 9999 (s + ((if k = 0 then m + 1 else 0) + sumR (sc G k r) (5 * (3 * l + p) + i) (m + 1)))))) := fun h => by
        unfold enc
        rw [if_neg (by omega)]
      have good : ∀ s', s' = s + (if k = 0 then 1 else 0) → ih (nI (s' + sc G k r (5 * (3 * l + p) + i))) (nI (i + 1)) = some (nI (enc (min 9999 (s + ((if k = 0 then m + 1 else 0) + sumR (sc G k r) (5 * (3 * l + p) + i) (m + 1)))))) := fun s' hs' => by
        have hscb : sc G k r (5 * (3 * l + p) + i) ≤ 9999 := by
          unfold sc
          have := hr (G 5 (5 * (3 * l + p) + i))
          split
          · split <;> omega
          · split
            · omega
            · split
              · split <;> omega
              · omega
        rw [hih _ _ rfl (by split at hs' <;> omega), hsum, hs']
        congr 3
        by_cases q : k = 0
        · rw [if_pos q, if_pos q, if_pos q]; omega
        · rw [if_neg q, if_neg q, if_neg q]; omega
      have j106 : ∀ s', s' = s + (if k = 0 then 1 else 0) → (G 4 (5 * (3 * l + p) + i) = 0 → sc G k r (5 * (3 * l + p) + i) = 0) → (G 4 (5 * (3 * l + p) + i) = 1 → sc G k r (5 * (3 * l + p) + i) < 9999) → (G 4 (5 * (3 * l + p) + i) = 2 → k = 0 → sc G k r (5 * (3 * l + p) + i) = 0) → mS_measure_J106 Hp ih (P 0 0) R (nI k) (nI s') (P 4 (3 * l + p)) (nI (G 3 (3 * l + p))) (nI i) (P 5 (5 * (3 * l + p) + i)) = some (nI (enc (min 9999 (s + ((if k = 0 then m + 1 else 0) + sumR (sc G k r) (5 * (3 * l + p) + i) (m + 1)))))) := fun s' hs' c0 c1 c2 => by
        have g := good s' hs'
        unfold mS_measure_J106
        rw [show (0 : Int32) = nI 0 from rfl, show (1 : Int32) = nI 1 from rfl, show (2 : Int32) = nI 2 from rfl, e0, ob_s, n_add, n_add]
        by_cases k1 : G 4 (5 * (3 * l + p) + i) = 1
        · have h5 := f5' k1
          have e : sc G k r (5 * (3 * l + p) + i) = r (G 5 (5 * (3 * l + p) + i)) := by
            unfold sc
            rw [if_neg (by omega), if_pos k1]
          have c1 := c1 k1
          rw [eq_t k1, e1, ob_s, hR.ld h5 (by omega), ob_s, n_add, show enc (r (G 5 (5 * (3 * l + p) + i))) = sc G k r (5 * (3 * l + p) + i) by rw [e]; exact if_pos (by omega)]
          exact g
        · rw [eq_f k1 (by omega) (by omega), ob_s]
          by_cases k2 : G 4 (5 * (3 * l + p) + i) = 2
          · rw [eq_t k2]
            by_cases q : k = 0
            · rw [eq_f (by omega) (by omega) (by omega)]
              rw [c2 k2 q] at g
              exact g
            · have e : sc G k r (5 * (3 * l + p) + i) = G 6 (5 * (3 * l + p) + i) := by
                unfold sc
                rw [if_neg (by omega), if_neg k1, if_neg q]
              rw [eq_t (by omega), e2, ob_s, n_add, ← e]
              exact g
          · rw [eq_f k2 (by omega) (by omega)]
            rw [c0 (by omega)] at g
            exact g
      have j84 : ∀ s', s' = s + (if k = 0 then 1 else 0) → (G 4 (5 * (3 * l + p) + i) = 0 → sc G k r (5 * (3 * l + p) + i) = 0) → (G 4 (5 * (3 * l + p) + i) = 1 → sc G k r (5 * (3 * l + p) + i) < 9999) → mS_measure_J84 Hp ih (P 0 0) R (nI k) (nI s') (P 4 (3 * l + p)) (nI (G 3 (3 * l + p))) (nI i) (P 5 (5 * (3 * l + p) + i)) = some (nI (enc (min 9999 (s + ((if k = 0 then m + 1 else 0) + sumR (sc G k r) (5 * (3 * l + p) + i) (m + 1)))))) := fun s' hs' c0 c1 => by
        have g := j106 s' hs' c0 c1
        unfold mS_measure_J84
        rw [show (0 : Int32) = nI 0 from rfl, show (2 : Int32) = nI 2 from rfl, e0, ob_s]
        by_cases k2 : G 4 (5 * (3 * l + p) + i) = 2
        · rw [eq_t k2]
          by_cases q : k = 0
          · have e : sc G k r (5 * (3 * l + p) + i) = if G 6 (5 * (3 * l + p) + i) = 0 then 0 else 9999 := by
              unfold sc
              rw [if_neg (by omega), if_neg (by omega), if_pos q]
            rw [eq_t q, e2, ob_s]
            by_cases q6 : G 6 (5 * (3 * l + p) + i) = 0
            · rw [le_t (by omega) (by omega)]
              exact g (fun _ _ => by rw [e, if_pos q6])
            · rw [le_f (by omega) (by omega)]
              exact bad (by rw [e, if_neg q6]; exact Nat.le_refl _)
          · rw [eq_f q (by omega) (by omega)]
            exact g (fun _ h => absurd h q)
        · rw [eq_f k2 (by omega) (by omega)]
          exact g (fun h => absurd h k2)
      have j64 : ∀ s', s' = s + (if k = 0 then 1 else 0) → (G 4 (5 * (3 * l + p) + i) = 0 → sc G k r (5 * (3 * l + p) + i) = 0) → mS_measure_J64 Hp ih (P 0 0) R (nI k) (nI s') (P 4 (3 * l + p)) (nI (G 3 (3 * l + p))) (nI i) (P 5 (5 * (3 * l + p) + i)) = some (nI (enc (min 9999 (s + ((if k = 0 then m + 1 else 0) + sumR (sc G k r) (5 * (3 * l + p) + i) (m + 1)))))) := fun s' hs' c0 => by
        have g := j84 s' hs' c0
        unfold mS_measure_J64
        rw [show (0 : Int32) = nI 0 from rfl, show (1 : Int32) = nI 1 from rfl, e0, ob_s]
        by_cases k1 : G 4 (5 * (3 * l + p) + i) = 1
        · have h5 := f5' k1
          have e : sc G k r (5 * (3 * l + p) + i) = r (G 5 (5 * (3 * l + p) + i)) := by
            unfold sc
            rw [if_neg (by omega), if_pos k1]
          rw [eq_t k1, e1, ob_s, hR.ld h5 (by omega), ob_s, show (9998 : Int32) = nI 9998 from rfl]
          unfold enc
          by_cases q : r (G 5 (5 * (3 * l + p) + i)) < 9999
          · rw [if_pos q, lt_f (by omega) (by omega)]
            exact g (fun _ => by omega)
          · rw [if_neg q, lt_t (by omega) (by omega)]
            exact bad (by omega)
        · rw [eq_f k1 (by omega) (by omega)]
          exact g (fun h => absurd h k1)
      have j45 : ∀ s', s' = s + (if k = 0 then 1 else 0) → mS_measure_J45 Hp ih (P 0 0) R (nI k) (nI s') (P 4 (3 * l + p)) (nI (G 3 (3 * l + p))) (nI i) (P 5 (5 * (3 * l + p) + i)) = some (nI (enc (min 9999 (s + ((if k = 0 then m + 1 else 0) + sumR (sc G k r) (5 * (3 * l + p) + i) (m + 1)))))) := fun s' hs' => by
        have g := j64 s' hs'
        unfold mS_measure_J45
        rw [show (0 : Int32) = nI 0 from rfl, show (1 : Int32) = nI 1 from rfl, e0, ob_s]
        by_cases k0 : G 4 (5 * (3 * l + p) + i) = 0
        · have h5 := f5 k0
          have e : sc G k r (5 * (3 * l + p) + i) = if G 1 (G 5 (5 * (3 * l + p) + i)) = 0 then 9999 else 0 := by
            unfold sc
            rw [if_pos k0]
          have w1 := W.2.1 _ h5
          rw [eq_t k0, V.g0, ob_s, e1, ob_s, V.a h5, ob_s]
          by_cases q : G 1 (G 5 (5 * (3 * l + p) + i)) = 0
          · rw [eq_t q]
            exact bad (by rw [e, if_pos q]; exact Nat.le_refl _)
          · rw [eq_f q (by omega) (by omega)]
            exact g (fun _ => by rw [e, if_neg q])
        · rw [eq_f k0 (by omega) (by omega)]
          exact g (fun h => absurd h k0)
      unfold mS_measure_F24
      rw [le_f (by omega) (by omega), V.k W hl hp (by omega), ob_s, show (0 : Int32) = nI 0 from rfl, show (1 : Int32) = nI 1 from rfl]
      by_cases q : k = 0
      · rw [eq_t q, n_add]
        exact j45 (s + 1) (by rw [if_pos q])
      · rw [eq_f q (by omega) (by omega)]
        exact j45 s (by rw [if_neg q]; rfl)
  · rw [if_neg hw, show wh G (3 * l + p) = false from by
      cases q : wh G (3 * l + p)
      · rfl
      · exact absurd q hw]
    exact if_pos rfl
end SREAD
