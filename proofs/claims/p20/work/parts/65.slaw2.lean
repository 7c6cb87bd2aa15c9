section SLAWB
variable {P : Nat → Nat → Nat} {G : GS} {Hb Hp : HS} {S : XS} {xs : Nat → Int32} {L : Nat} {v3 v4 : Int32} {v5 : Int64} {v7 : Int32} {v9 : Nat} {v10 : Int32}
theorem tv_2 {l : Nat} : tv G l 2 = nI (stg G mone l) := by unfold tv; rw [if_neg (by omega), if_neg (by omega), if_pos rfl]
theorem tv_3 {l : Nat} : tv G l 3 = orN (FL G 0 l) := by unfold tv; rw [if_neg (by omega), if_neg (by omega), if_neg (by omega), if_pos rfl]
theorem tv_4 {l : Nat} : tv G l 4 = orN (FL G 1 l) := by unfold tv; rw [if_neg (by omega), if_neg (by omega), if_neg (by omega), if_neg (by omega), if_pos rfl]
theorem orN_le {v : Nat} : orN v ≤ (9998 : Int32) := by
  by_cases q : v < 9999
  · rw [orN_n q]; exact nI_le (b := 9998) (by omega) (by omega)
  · rw [orN_m (by omega)]; decide
theorem orN_nlt {v : Nat} : ¬ (9998 : Int32) < orN v := by
  by_cases q : v < 9999
  · rw [orN_n q]; exact nI_nlt (a := 9998) (by omega) (by omega)
  · rw [orN_m (by omega)]; decide
/-- which axioms a lemma needs -/
theorem W_574 (V : HV Hp P G) (W : WG G) {l : Nat} (hl : l < G 14 0) {v8 v13 : Int32} {kk : XS → HS → Int32 → Int32 → Option Int32} : ∀ m a N, a + m = 5 → m < N → ∀ S, SI S G → ∃ S', SI S' G ∧ itr2 (mL_law_F574 xs L kk Hp (P 0 0) v3 v4 v5 v7 v8 v9 v10 (nI l) (nI (stg G mone l))) N S (nI a) = kk S' Hp v10 (nI (l + 1)) := by
  have w0 := W.1
  intro m
  induction m with
  | zero =>
    intro a N hm hN S I
    match N, hN with
    | N + 1, _ =>
      refine ⟨S, I, ?_⟩
      show mL_law_F574 _ _ _ _ _ _ _ _ _ _ _ _ _ _ _ _ _ = _
      unfold mL_law_F574
      rw [show (5 : Int32) = nI 5 from rfl, le_t (by omega) (by omega), n_add1]
  | succ m ih =>
    intro a N hm hN S I
    match N, hN with
    | N + 1, hN =>
      obtain ⟨S1, a1, a2⟩ := x_needs I W hl (a := a) (by omega)
      obtain ⟨S2, b1, b2⟩ := ih (a + 1) N (by omega) (by omega) S1 a1
      refine ⟨S2, b1, ?_⟩
      have hsl := stg_le (G := G) (b := mone) l
      show mL_law_F574 xs L kk Hp (P 0 0) v3 v4 v5 v7 v8 v9 v10 (nI l) (nI (stg G mone l)) (itr2 (mL_law_F574 xs L kk Hp (P 0 0) v3 v4 v5 v7 v8 v9 v10 (nI l) (nI (stg G mone l))) N) S (nI a) = _
      generalize hI : itr2 (mL_law_F574 xs L kk Hp (P 0 0) v3 v4 v5 v7 v8 v9 v10 (nI l) (nI (stg G mone l))) N = J at b2 ⊢
      unfold mL_law_F574
      rw [show (5 : Int32) = nI 5 from rfl, le_f (by omega) (by omega), a2, xbW_s, n_add1]
      have hnv : nv G l a ≤ 1 := by unfold nv; split <;> (try split) <;> omega
      by_cases q : nv G l a = 0
      · rw [if_pos (show nI (nv G l a) = (0 : Int32) by rw [q]; rfl)]
        exact b2
      · obtain ⟨c1, c2⟩ := need_is W (show a < 5 by omega) q
        rw [if_neg (nI_n0 q (by omega)), if_neg (nI_n0 c1 (by omega)), V.g0, ob_s, V.a (by omega), ob_s, if_neg (nI_n0 (by omega) (by omega))]
        exact b2
theorem W_511 (V : HV Hp P G) (W : WG G) (I : SI S G) {l : Nat} (hl : l < G 14 0) {kk : XS → HS → Int32 → Int32 → Option Int32} : ∃ S', SI S' G ∧ mL_law_J511 xs L kk S Hp (P 0 0) v3 v4 v5 v7 (nI (cnt G mone)) v9 v10 (nI l) (nI (stg G mone l)) = kk S' Hp v10 (nI (l + 1)) := by
  have w0 := W.1
  have t3 := x_told I W hl (q := 3) (by omega)
  have t4 := x_told I W hl (q := 4) (by omega)
  rw [tv_3] at t3
  rw [tv_4] at t4
  obtain ⟨S1, a1, a2⟩ := x_without I W hl
  obtain ⟨S2, b1, b2⟩ := W_574 V W hl (xs := xs) (L := L) (v3 := v3) (v4 := v4) (v5 := v5) (v7 := v7) (v9 := v9) (v10 := v10) (v8 := nI (cnt G mone)) (v13 := 0) (kk := kk) 5 0 16 (by omega) (by omega) S1 a1
  have hsl := stg_le (G := G) (b := mone) l
  have c1 := cnt_le (G := G) (b := mone)
  have c2 := cnt_le (G := G) (b := nI l)
  refine ⟨S2, b1, ?_⟩
  unfold mL_law_J511
  rw [show mX_told S (nI l) 3 = _ from t3, xbR_s, if_neg orN_nlt, show mX_told S (nI l) 4 = _ from t4, xbR_s, if_pos orN_le, a2, xbW_s]
  by_cases q : stg G mone l = 0
  · rw [if_pos (show nI (stg G mone l) = (0 : Int32) by rw [q]; rfl), bar_0 W hl q, if_pos rfl]
    exact b2
  · rw [if_neg (nI_n0 q (by omega)), lt_t (bar_1 W hl q) (by omega)]
    exact b2
theorem a_stg (W : WG G) {l : Nat} (hl : l < G 14 0) : anyR (fun q => hd G (stg G mone) 13 (3 * l + q)) 0 (G 2 l) = true ↔ stg G mone l ≠ 0 := by
  rw [anyR_iff]
  constructor
  · rintro ⟨p, p1, p2, p3⟩
    exact pr_stg W hl (by omega) p3
  · intro h
    obtain ⟨p, p1, p2⟩ := stg_pr W h
    exact ⟨p, by omega, by omega, p2⟩
theorem dir_iff {j : Nat} : dir G j = true ↔ ∀ i, 5 * j ≤ i → i < 5 * j + G 3 j → G 4 i ≠ 1 := by
  unfold dir
  rw [allR_iff]
  constructor
  · intro h i h1 h2 e
    have := h i h1 h2
    rw [e] at this
    exact absurd this (by decide)
  · intro h i h1 h2
    rw [beq_eq_false_iff_ne.mpr (h i h1 h2)]
    rfl
theorem d_stg (W : WG G) {l : Nat} (hl : l < G 14 0) : anyR (fun q => hd G (stg G mone) 13 (3 * l + q) && dir G (3 * l + q)) 0 (G 2 l) = true ↔ stg G mone l = 1 := by
  rw [anyR_iff]
  constructor
  · rintro ⟨p, p1, p2, p3⟩
    rw [Bool.and_eq_true, dir_iff] at p3
    exact first_1 W hl (by omega) p3.1 p3.2
  · intro h
    obtain ⟨p, p1, p2, p3⟩ := first_2 W h
    exact ⟨p, by omega, by omega, by rw [Bool.and_eq_true, dir_iff]; exact ⟨p2, p3⟩⟩
theorem b_ff {b : Bool} {q : Prop} (h : b = true ↔ q) (n : ¬ q) : b = false := by
  cases b
  · rfl
  · exact absurd (h.mp rfl) n
/-- what one lemma is told -/
theorem W_393 (V : HV Hp P G) (W : WG G) (I : SI S G) {l : Nat} (hl : l < G 14 0) {kk : XS → HS → Int32 → Int32 → Option Int32} : ∃ S', SI S' G ∧ (if nI (stg G mone l) ≤ (0 : Int32) then mL_law_J393 xs L kk S Hp (P 0 0) v3 v4 v5 v7 (nI (cnt G mone)) v9 v10 (nI l) (nI (stg G mone l)) (bst G l 0 (G 2 l) mone 9999) (nI (anyR (fun q => hd G (stg G mone) 13 (3 * l + q) && dir G (3 * l + q)) 0 (G 2 l)).toNat) (orN (FL G 0 l)) 0 (nI (anyR (fun q => hd G (stg G mone) 13 (3 * l + q)) 0 (G 2 l)).toNat) else mL_law_J393 xs L kk S Hp (P 0 0) v3 v4 v5 v7 (nI (cnt G mone)) v9 v10 (nI l) (nI (stg G mone l)) (bst G l 0 (G 2 l) mone 9999) (nI (anyR (fun q => hd G (stg G mone) 13 (3 * l + q) && dir G (3 * l + q)) 0 (G 2 l)).toNat) (orN (FL G 0 l)) 1 (nI (anyR (fun q => hd G (stg G mone) 13 (3 * l + q)) 0 (G 2 l)).toNat)) = kk S' Hp v10 (nI (l + 1)) := by
  have w0 := W.1
  have t3 := x_told I W hl (q := 3) (by omega)
  have t4 := x_told I W hl (q := 4) (by omega)
  rw [tv_3] at t3
  rw [tv_4] at t4
  have hsl := stg_le (G := G) (b := mone) l
  have hF := FL_le (G := G) (k := 1) (l := l)
  obtain ⟨S1, a1, a2⟩ := W_511 V W I hl (xs := xs) (L := L) (v3 := v3) (v4 := v4) (v5 := v5) (v7 := v7) (v9 := v9) (v10 := v10) (kk := kk)
  refine ⟨S1, a1, ?_⟩
  have J464 : ∀ t, mL_law_J464 xs L kk S Hp (P 0 0) v3 v4 v5 v7 (nI (cnt G mone)) v9 v10 (nI l) (nI (stg G mone l)) (bst G l 0 (G 2 l) mone 9999) (orN (FL G 0 l)) t t = kk S1 Hp v10 (nI (l + 1)) := fun t => by
    unfold mL_law_J464
    rw [if_pos rfl]
    rcases best_is W hl with ⟨b1, b2, b3⟩ | ⟨q, b1, b2, b3, b4, b5⟩
    · rw [b3, if_neg (show ¬ (0 : Int32) ≤ mone by decide)]
      unfold mL_law_J479 mL_law_J489
      rw [orN_pos, if_neg (by omega), if_pos rfl, if_pos (show mone < (0 : Int32) by decide)]
      exact a2
    · have w2 := (W.2.2.1 l (by omega)).1
      have a3 := X_about4 I W hl b1 (q := 2) (by omega)
      rw [show pv G (3 * l + q) 2 = orN (FL G 0 l) from by unfold pv; rw [if_neg (by omega), if_neg (by omega), if_pos rfl, b3]] at a3
      rw [b4, if_pos (show (0 : Int32) ≤ nI q from nI_le (a := 0) (by omega) (by omega))]
      unfold mL_law_J479 mL_law_J489
      rw [orN_pos, if_pos b2, if_pos rfl, if_neg (nI_p0 (by omega)), show mX_about S (nI l) (nI q) 2 = _ from a3, xbR_s, if_pos rfl]
      exact a2
  have hA := a_stg W hl
  have hD := d_stg W hl
  generalize anyR (fun q => hd G (stg G mone) 13 (3 * l + q)) 0 (G 2 l) = a at hA ⊢
  generalize anyR (fun q => hd G (stg G mone) 13 (3 * l + q) && dir G (3 * l + q)) 0 (G 2 l) = d at hD ⊢
  by_cases q : stg G mone l = 0
  · have e1 : ¬ FL G 1 l = 0 := fun w => (price_0 W hl).mp w q
    have e0 : ¬ FL G 0 l < 9999 := fun w => len_stg W hl w q
    have eo : ¬ orN (FL G 1 l) = (0 : Int32) := by
      by_cases w : FL G 1 l < 9999
      · rw [orN_n w]; exact nI_n0 e1 (by omega)
      · rw [orN_m (by omega)]; decide
    rw [b_ff hA (fun w => w q), b_ff hD (fun w => by omega), if_pos (show nI (stg G mone l) ≤ (0 : Int32) by rw [q]; decide)]
    unfold mL_law_J393 mL_law_J411 mL_law_J421 mL_law_J451
    rw [if_pos (show nI false.toNat = (0 : Int32) from rfl), show mX_told S (nI l) 4 = _ from t4, xbR_s, if_neg eo, if_pos (show nI (stg G mone l) ≤ (0 : Int32) by rw [q]; decide), if_pos rfl, show mX_told S (nI l) 3 = _ from t3, xbR_s, if_pos rfl, xbR_s, orN_neg, if_neg e0, if_neg (show ¬ nI (stg G mone l) = (1 : Int32) by rw [q]; decide)]
    exact J464 _
  · have e1 : FL G 1 l = 0 := (price_0 W hl).mpr q
    have n0 : ¬ nI (stg G mone l) ≤ (0 : Int32) := nI_ge (a := 0) (by omega) (by omega)
    have J451 : mL_law_J451 xs L kk S Hp (P 0 0) v3 v4 v5 v7 (nI (cnt G mone)) v9 v10 (nI l) (nI (stg G mone l)) (bst G l 0 (G 2 l) mone 9999) (nI d.toNat) (orN (FL G 0 l)) = kk S1 Hp v10 (nI (l + 1)) := by
      unfold mL_law_J451
      by_cases w : stg G mone l = 1
      · rw [hD.mpr w, if_pos (show nI (stg G mone l) = (1 : Int32) by rw [w]; rfl)]
        exact J464 _
      · rw [b_ff hD w, if_neg (show ¬ nI (stg G mone l) = (1 : Int32) from fun e => w ((nI_eq (b := 1) (by omega) (by omega)).mp e))]
        exact J464 _
    rw [hA.mpr q, if_neg n0]
    unfold mL_law_J393 mL_law_J411 mL_law_J421
    rw [if_pos (show nI true.toNat = (1 : Int32) from rfl), show mX_told S (nI l) 4 = _ from t4, xbR_s, e1, if_pos (show orN 0 = (0 : Int32) from rfl), if_neg n0, if_pos rfl, show mX_told S (nI l) 3 = _ from t3, xbR_s, if_pos rfl, xbR_s, J451, if_neg (nI_n0 q (by omega))]
    split <;> rfl
theorem W_165 (V : HV Hp P G) (W : WG G) (I : SI S G) {l : Nat} (hl : l < G 14 0) {t0 t1 : Int32} {kk : XS → HS → Int32 → Int32 → Option Int32} : ∃ S', SI S' G ∧ mL_law_J165 xs L kk S Hp (P 0 0) v3 v4 v5 v7 (nI (cnt G mone)) v9 (nI l) (nI (stg G mone l)) t0 t1 = kk S' Hp (t1 + t0) (nI (l + 1)) := by
  have w0 := W.1
  have w2 := (W.2.2.1 l (by omega)).1
  obtain ⟨S1, a1, a2⟩ := W_393 V W I hl (xs := xs) (L := L) (v3 := v3) (v4 := v4) (v5 := v5) (v7 := v7) (v9 := v9) (v10 := t1 + t0) (kk := kk)
  refine ⟨S1, a1, ?_⟩
  have h := W_188 (Hp := Hp) (o := P 0 0) (xs := xs) (L := L) (v3 := v3) (v4 := v4) (v5 := v5) (v7 := v7) (v8 := nI (cnt G mone)) (v9 := v9) (v10 := t1 + t0) (v12 := nI (stg G mone l)) (v13 := bst G l 0 (G 2 l) mone 9999) I W hl (kk := kk) (G 2 l) 0 16 (by omega) (by omega) false false 9999 (Nat.le_refl _)
  rw [mnR_FL W hl, Bool.false_or, Bool.false_or, a2] at h
  unfold mL_law_J165
  rw [x_best I W hl, xbR_s]
  exact h
/-- all lemmas -/
theorem W_114 (V0 : HV Hb P G) (W : WG G) {R : Nat} (hR : Hb.length ≤ R) {kk : XS → HS → Int32 → Option Int32} : ∀ m l N, l + m = G 14 0 → m < N → ∀ S Hp c r, SI S G → HX Hb Hp → HR Hp R (G 14 0 + 2) r → (∀ s, r s ≤ l ∧ (r s = 0 ↔ ∀ x, x < l → stg G mone x ≠ s)) → c + sumR (fun x => if stg G mone x = 0 then 0 else 1) l m = cnt G mone → ∃ S' Hp' r', SI S' G ∧ HX Hb Hp' ∧ HR Hp' R (G 14 0 + 2) r' ∧ (∀ s, r' s ≤ G 14 0 ∧ (r' s = 0 ↔ ∀ x, x < G 14 0 → stg G mone x ≠ s)) ∧ itr4 (mL_law_F114 xs L kk (P 0 0) v3 v4 v5 (nI (G 14 0)) (nI (cnt G mone)) R) N S Hp (nI c) (nI l) = itr1 (mL_law_F623 xs L kk S' Hp' (P 0 0) v3 v4 v5 (nI (G 14 0)) (nI (cnt G mone)) R (nI (cnt G mone))) 16 2 := by
  have w0 := W.1
  intro m
  induction m with
  | zero =>
    intro l N hm hN S Hp c r I X hr hrs hc
    match N, hN with
    | N + 1, _ =>
      refine ⟨S, Hp, r, I, X, hr, by rw [← hm]; exact hrs, ?_⟩
      show mL_law_F114 _ _ _ _ _ _ _ _ _ _ _ _ _ _ _ = _
      unfold mL_law_F114
      rw [le_t (by omega) (by omega), show c = cnt G mone from hc]
  | succ m ih =>
    intro l N hm hN S Hp c r I X hr hrs hc
    match N, hN with
    | N + 1, hN =>
      have hl : l < G 14 0 := by omega
      have t2 := x_told I W hl (q := 2) (by omega)
      rw [tv_2] at t2
      have hsl := stg_le (G := G) (b := mone) l
      obtain ⟨HpA, b1, b2, b3⟩ := hr.st (i := stg G mone l) (by omega) (by omega) (r (stg G mone l) + 1)
      have XA := b3.x X hR
      obtain ⟨S1, c1, c2⟩ := W_165 (V0.x XA) W I hl (xs := xs) (L := L) (v3 := v3) (v4 := v4) (v5 := v5) (v7 := nI (G 14 0)) (v9 := R) (t0 := nI (if stg G mone l = 0 then 0 else 1)) (t1 := nI c) (kk := itr4 (mL_law_F114 xs L kk (P 0 0) v3 v4 v5 (nI (G 14 0)) (nI (cnt G mone)) R) N)
      rw [n_add] at c2
      obtain ⟨S2, Hp2, r2, d1, d2, d3, d4, d5⟩ := ih (l + 1) N (by omega) (by omega) S1 HpA _ _ c1 XA b2 (fun s => by
        have hs := hrs s
        by_cases e : s = stg G mone l
        · rw [e, uN_s]
          have := (hrs (stg G mone l)).1
          exact ⟨by omega, ⟨fun w => by omega, fun w => absurd rfl (w l (by omega))⟩⟩
        · rw [uN_n e]
          refine ⟨by omega, hs.2.trans ⟨fun w x hx => ?_, fun w x hx => w x (by omega)⟩⟩
          by_cases ex : x = l
          · rw [ex]; exact fun q => e q.symm
          · exact w x (by omega)) (by rw [Nat.add_assoc]; exact hc)
      refine ⟨S2, Hp2, r2, d1, d2, d3, d4, ?_⟩
      rw [← d5, ← c2]
      show mL_law_F114 xs L kk (P 0 0) v3 v4 v5 (nI (G 14 0)) (nI (cnt G mone)) R (itr4 (mL_law_F114 xs L kk (P 0 0) v3 v4 v5 (nI (G 14 0)) (nI (cnt G mone)) R) N) S Hp (nI c) (nI l) = _
      generalize hI : itr4 (mL_law_F114 xs L kk (P 0 0) v3 v4 v5 (nI (G 14 0)) (nI (cnt G mone)) R) N = J
      unfold mL_law_F114
      rw [le_f (by omega) (by omega), show mX_told S (nI l) 2 = _ from t2, xbR_s, if_neg (nI_p0 (by omega)), le_t hsl (by omega), hr.ld (by omega) (by omega), ob_s, n_add1, b1]
      by_cases q : stg G mone l = 0
      · rw [if_pos (show nI (stg G mone l) ≤ (0 : Int32) by rw [q]; decide), if_pos q]
        rfl
      · rw [if_neg (show ¬ nI (stg G mone l) ≤ (0 : Int32) from nI_ge (a := 0) (by omega) (by omega)), if_neg q]
        rfl
/-- no stage is left out -/
theorem W_623 (W : WG G) {R : Nat} {r : Nat → Nat} {v8 : Int32} (hn : 1 ≤ G 14 0) (hr : HR Hp R (G 14 0 + 2) r) (hrs : ∀ s, r s ≤ G 14 0 ∧ (r s = 0 ↔ ∀ x, x < G 14 0 → stg G mone x ≠ s)) {kk : XS → HS → Int32 → Option Int32} {z : Option Int32} (hz : ∀ ih, mL_law_F623 xs L kk S Hp (P 0 0) v3 v4 v5 (nI (G 14 0)) v8 R v10 ih (nI (G 14 0 + 1)) = z) : itr1 (mL_law_F623 xs L kk S Hp (P 0 0) v3 v4 v5 (nI (G 14 0)) v8 R v10) 16 2 = z := by
  have w0 := W.1
  rw [show (2 : Int32) = nI 2 from rfl]
  refine itr1_r (fun _ _ => z) 2 (G 14 0 + 1) hz (fun s m ih h2 hs q => ?_) (G 14 0 - 1) 2 16 (by omega) (by omega) (by omega)
  have b1 := (hrs s).1
  have b2 := (hrs (s - 1)).1
  unfold mL_law_F623
  rw [lt_f (by omega) (by omega), hr.ld (by omega) (by omega), ob_s, n_add1, show (1 : Int32) = nI 1 from rfl, pk_sub (by omega), hr.ld (by omega) (by omega), ob_s, q]
  by_cases c : r s = 0
  · rw [if_pos (show nI (r s) ≤ (0 : Int32) by rw [c]; decide)]
  · have : r (s - 1) ≠ 0 := fun e => c ((hrs s).2.mpr fun x hx ex => by
      obtain ⟨y, y1, y2⟩ := stg_gap W (l := x) (k := s - 1) (by omega) (by omega)
      exact (hrs (s - 1)).2.mp e y y1 y2)
    rw [if_neg (show ¬ nI (r s) ≤ (0 : Int32) from nI_ge (a := 0) (by omega) (by omega)), if_neg (nI_n0 this (by omega))]
end SLAWB
