section SLAW
variable {P : Nat → Nat → Nat} {G : GS} {Hp : HS} {S : XS} {o : Nat} {xs : Nat → Int32} {L : Nat} {v3 v4 : Int32} {v5 : Int64} {v7 v8 : Int32} {v9 : Nat} {v10 v12 v13 v14 : Int32}
theorem nb_or {a b : Bool} : nI a.toNat ||| nI b.toNat = nI (a || b).toNat := by cases a <;> cases b <;> decide
theorem orN_m {v : Nat} (h : 9999 ≤ v) : orN v = mone := if_neg (by omega)
theorem orN_n {v : Nat} (h : v < 9999) : orN v = nI v := if_pos h
theorem orN_neg {v : Nat} {ρ : Type} {x y : ρ} : (if orN v < (0 : Int32) then x else y) = if v < 9999 then y else x := by
  by_cases q : v < 9999
  · rw [orN_n q, if_neg (nI_p0 (by omega)), if_pos q]
  · rw [orN_m (by omega), if_pos (show mone < (0 : Int32) by decide), if_neg q]
theorem orN_pos {v : Nat} {ρ : Type} {x y : ρ} : (if (0 : Int32) ≤ orN v then x else y) = if v < 9999 then x else y := by
  by_cases q : v < 9999
  · rw [orN_n q, if_pos (show (0 : Int32) ≤ nI v from nI_le (a := 0) (by omega) (by omega)), if_pos q]
  · rw [orN_m (by omega), if_neg (show ¬ (0 : Int32) ≤ mone by decide), if_neg q]
theorem hd_b {j : Nat} : (if hd G (stg G mone) 13 j = true then (1 : Int32) else 0) = nI (hd G (stg G mone) 13 j).toNat := by
  cases hd G (stg G mone) 13 j <;> rfl
/-- does the proof rest on no lemma -/
def dir (G : GS) (j : Nat) : Bool := allR (fun i => !(G 4 i == 1)) (5 * j) (G 3 j)
/-- a proof: its length, its price -/
theorem W_295 (I : SI S G) (W : WG G) {l p : Nat} (hl : l < G 14 0) (hp : p < G 2 l) {d t : Bool} {mn : Nat} (hmn : mn ≤ 9999) {kk : Int32 → Int32 → Int32 → Int32 → Option Int32} : mL_law_J295 xs L kk S Hp o v3 v4 v5 v7 v8 v9 v10 (nI l) v12 v13 v14 (orN mn) (nI p) (nI (hd G (stg G mone) 13 (3 * l + p)).toNat) (nI t.toNat) (nI d.toNat) = kk v14 (nI (d || t).toNat) (orN (min mn (cs G 0 (FL G 0) (3 * l + p)))) (nI (p + 1)) := by
  have w0 := W.1
  have w2 := (W.2.2.1 l (by omega)).1
  have hcs := cs_le (G := G) (k := 0) (r := FL G 0) (j := 3 * l + p)
  have a0 := X_about4 I W hl hp (q := 0) (by omega)
  have a2 := X_about4 I W hl hp (q := 2) (by omega)
  have a3 := X_about4 I W hl hp (q := 3) (by omega)
  rw [show pv G (3 * l + p) 0 = nI (G 3 (3 * l + p)) from if_pos rfl] at a0
  rw [show pv G (3 * l + p) 2 = orN (cs G 0 (FL G 0) (3 * l + p)) from by unfold pv; rw [if_neg (by omega), if_neg (by omega), if_pos rfl]] at a2
  rw [show pv G (3 * l + p) 3 = orN (cs G 1 (FL G 1) (3 * l + p)) from by unfold pv; rw [if_neg (by omega), if_neg (by omega), if_neg (by omega)]] at a3
  have J356 : ∀ v15 v16 : Int32, mL_law_J356 xs L kk S Hp o v3 v4 v5 v7 v8 v9 v10 (nI l) v12 v13 v14 v15 v16 (nI p) (nI (hd G (stg G mone) 13 (3 * l + p)).toNat) = kk v14 v15 v16 (nI (p + 1)) := fun v15 v16 => by
    unfold mL_law_J356
    rw [n_add1]
    by_cases q : hd G (stg G mone) 13 (3 * l + p) = true
    · rw [q, if_neg (show ¬ nI true.toNat = (0 : Int32) by decide), show (3 : Int32) = nI 3 from rfl, a3, xbR_s, pr_price W hl hp q, if_pos (show orN 0 = (0 : Int32) from rfl)]
    · rw [show hd G (stg G mone) 13 (3 * l + p) = false from by
        cases w : hd G (stg G mone) 13 (3 * l + p)
        · rfl
        · exact absurd w q, if_pos (show nI false.toNat = (0 : Int32) from rfl)]
  unfold mL_law_J295
  rw [show (2 : Int32) = nI 2 from rfl, a2, xbR_s, nb_or]
  generalize hc : cs G 0 (FL G 0) (3 * l + p) = c at *
  rw [orN_neg]
  by_cases c9 : c < 9999
  · obtain ⟨h1, h2⟩ := len_pr W (j := 3 * l + p) (by omega) (by rw [hc]; exact c9)
    rw [hc] at h2
    have hle : nI (G 3 (3 * l + p)) ≤ nI c := nI_le h2 (by omega)
    rw [if_pos c9, if_neg (show ¬ nI (hd G (stg G mone) 13 (3 * l + p)).toNat = (0 : Int32) by rw [h1]; decide), show (0 : Int32) = nI 0 from rfl, a0, xbR_s, orN_n c9, if_pos hle]
    unfold mL_law_J335 mL_law_J352
    rw [if_neg (nI_p0 (by omega)), J356, J356, orN_neg]
    by_cases m9 : mn < 9999
    · rw [if_pos m9, orN_n m9]
      by_cases q : mn ≤ c
      · rw [le_t q (by omega), Nat.min_eq_left q, orN_n m9]
      · rw [le_f (by omega) (by omega), Nat.min_eq_right (by omega), orN_n c9]
    · rw [if_neg m9, Nat.min_eq_right (by omega), orN_n c9]
  · rw [if_neg c9]
    unfold mL_law_J335
    rw [orN_neg, if_neg c9, J356, Nat.min_eq_left (by omega)]
theorem W_233 (I : SI S G) (W : WG G) {l p : Nat} (hl : l < G 14 0) (hp : p < G 2 l) {d : Bool} {mn : Nat} (hmn : mn ≤ 9999) {kk : Int32 → Int32 → Int32 → Int32 → Option Int32} : itr2 (mL_law_F233 xs L kk S Hp o v3 v4 v5 v7 v8 v9 v10 (nI l) v12 v13 v14 (nI d.toNat) (orN mn) (nI p) (nI (hd G (stg G mone) 13 (3 * l + p)).toNat)) 16 1 0 = kk v14 (nI (d || (hd G (stg G mone) 13 (3 * l + p) && dir G (3 * l + p))).toNat) (orN (min mn (cs G 0 (FL G 0) (3 * l + p)))) (nI (p + 1)) := by
  have w0 := W.1
  have w2 := (W.2.2.1 l (by omega)).1
  have w3 := W.2.2.2.1 (3 * l + p) (by omega)
  have a0 := X_about4 I W hl hp (q := 0) (by omega)
  rw [show pv G (3 * l + p) 0 = nI (G 3 (3 * l + p)) from if_pos rfl] at a0
  rw [show (0 : Int32) = nI 0 from rfl]
  refine (itr2_r (F := mL_law_F233 xs L kk S Hp o v3 v4 v5 v7 v8 v9 v10 (nI l) v12 v13 v14 (nI d.toNat) (orN mn) (nI p) (nI (hd G (stg G mone) 13 (3 * l + p)).toNat)) (fun k m a res => ∀ e : Bool, a = nI e.toNat → res = kk v14 (nI (d || (hd G (stg G mone) 13 (3 * l + p) && (e && allR (fun i => !(G 4 i == 1)) (5 * (3 * l + p) + k) m))).toNat) (orN (min mn (cs G 0 (FL G 0) (3 * l + p)))) (nI (p + 1))) 0 (G 3 (3 * l + p)) ?_ ?_ (G 3 (3 * l + p)) 0 16 1 (by omega) (by omega) (by omega) true rfl).trans ?_
  · intro ih a e ha
    subst ha
    unfold mL_law_F233 allR
    rw [show (0 : Int32) = nI 0 from rfl, a0, xbR_s, le_t (by omega) (by omega), Bool.and_true]
    have J0 := W_295 (Hp := Hp) (o := o) (xs := xs) (L := L) (v3 := v3) (v4 := v4) (v5 := v5) (v7 := v7) (v8 := v8) (v9 := v9) (v10 := v10) (v12 := v12) (v13 := v13) (v14 := v14) I W hl hp (d := d) (t := false) hmn (kk := kk)
    have J1 := W_295 (Hp := Hp) (o := o) (xs := xs) (L := L) (v3 := v3) (v4 := v4) (v5 := v5) (v7 := v7) (v8 := v8) (v9 := v9) (v10 := v10) (v12 := v12) (v13 := v13) (v14 := v14) I W hl hp (d := d) (t := true) hmn (kk := kk)
    unfold mL_law_J294
    cases hh : hd G (stg G mone) 13 (3 * l + p)
    · rw [hh] at J0
      rw [if_pos (show nI false.toNat = nI 0 from rfl), Bool.false_and]
      exact J0
    · rw [hh] at J0 J1
      rw [if_neg (show ¬ nI true.toNat = nI 0 by decide), Bool.true_and]
      cases e
      · rw [if_pos (show nI false.toNat = nI 0 from rfl)]
        exact J0
      · rw [if_neg (show ¬ nI true.toNat = nI 0 by decide)]
        exact J1
  · intro k m ih _ hk hih a e ha
    subst ha
    obtain ⟨f4, f5⟩ := W.2.2.2.2 (3 * l + p) (5 * (3 * l + p) + k) (by omega) (by omega) (by omega)
    have a4 := x_step I W hl hp (k := k) (by omega) (q := 0) (by omega)
    rw [show stv G (5 * (3 * l + p) + k) 0 = nI (G 4 (5 * (3 * l + p) + k)) from if_pos rfl] at a4
    unfold mL_law_F233
    rw [show (0 : Int32) = nI 0 from rfl, a0, xbR_s, le_f (by omega) (by omega), a4, xbR_s, n_add1]
    have e1 : allR (fun i => !(G 4 i == 1)) (5 * (3 * l + p) + k) (m + 1) = ((!(G 4 (5 * (3 * l + p) + k) == 1)) && allR (fun i => !(G 4 i == 1)) (5 * (3 * l + p) + (k + 1)) m) := rfl
    rw [e1, ← Bool.and_assoc e]
    by_cases q : G 4 (5 * (3 * l + p) + k) = 1
    · rw [if_pos (show nI (G 4 (5 * (3 * l + p) + k)) = (1 : Int32) by rw [q]; rfl), show nI e.toNat &&& nI 0 = nI (e && false).toNat from nb_and (a := e) (b := false), hih _ (e && false) rfl, q]
      rfl
    · rw [if_neg (show ¬ nI (G 4 (5 * (3 * l + p) + k)) = (1 : Int32) from fun w => q ((nI_eq (b := 1) (by omega) (by omega)).mp w)), show nI e.toNat &&& 1 = nI (e && true).toNat from nb_and (a := e) (b := true), hih _ (e && true) rfl, beq_eq_false_iff_ne.mpr q]
      rfl
  · unfold dir
    rw [Bool.true_and, Nat.add_zero]
/-- the least of a lemma's proofs -/
noncomputable def mnR (G : GS) (l : Nat) (mn p : Nat) : Nat → Nat
  | 0 => mn
  | m + 1 => mnR G l (min mn (cs G 0 (FL G 0) (3 * l + p))) (p + 1) m
theorem mnR_le {l : Nat} : ∀ {m p mn : Nat}, mnR G l mn p m ≤ mn := by
  intro m
  induction m with
  | zero => intro p mn; exact Nat.le_refl _
  | succ m ih => intro p mn; exact Nat.le_trans ih (Nat.min_le_left _ _)
theorem mnR_cs {l : Nat} : ∀ {m p mn q : Nat}, p ≤ q → q < p + m → mnR G l mn p m ≤ cs G 0 (FL G 0) (3 * l + q) := by
  intro m
  induction m with
  | zero => intro p mn q h1 h2; omega
  | succ m ih =>
    intro p mn q h1 h2
    by_cases e : q = p
    · rw [e]; exact Nat.le_trans (mnR_le (G := G) (l := l) (m := m) (p := p + 1) (mn := min mn (cs G 0 (FL G 0) (3 * l + p)))) (Nat.min_le_right _ _)
    · exact ih (by omega) (by omega)
theorem mnR_ge {l v : Nat} : ∀ {m p mn : Nat}, v ≤ mn → (∀ q, p ≤ q → q < p + m → v ≤ cs G 0 (FL G 0) (3 * l + q)) → v ≤ mnR G l mn p m := by
  intro m
  induction m with
  | zero => intro p mn h _; exact h
  | succ m ih =>
    intro p mn h hq
    exact ih (Nat.le_min.mpr ⟨h, hq p (by omega) (by omega)⟩) (fun q h1 h2 => hq q (by omega) (by omega))
theorem mnR_FL (W : WG G) {l : Nat} (hl : l < G 14 0) : mnR G l 9999 0 (G 2 l) = FL G 0 l := by
  refine Nat.le_antisymm ?_ (mnR_ge FL_le fun q _ h2 => (FL_pf W (k := 0) l hl).2 q (by omega))
  by_cases q : FL G 0 l < 9999
  · obtain ⟨p, p1, p2⟩ := FL_att W hl (k := 0) q
    rw [← p2]
    exact mnR_cs (by omega) (by omega)
  · exact Nat.le_trans mnR_le (by omega)
/-- all proofs of a lemma -/
theorem W_188 (I : SI S G) (W : WG G) {l : Nat} (hl : l < G 14 0) {kk : XS → HS → Int32 → Int32 → Option Int32} : ∀ m p N, p + m = G 2 l → m < N → ∀ (a d : Bool) (mn : Nat), mn ≤ 9999 → itr4 (mL_law_F188 xs L kk S Hp o v3 v4 v5 v7 v8 v9 v10 (nI l) v12 v13) N (nI a.toNat) (nI d.toNat) (orN mn) (nI p) = (if v12 ≤ (0 : Int32) then mL_law_J393 xs L kk S Hp o v3 v4 v5 v7 v8 v9 v10 (nI l) v12 v13 (nI (d || anyR (fun q => hd G (stg G mone) 13 (3 * l + q) && dir G (3 * l + q)) p m).toNat) (orN (mnR G l mn p m)) 0 (nI (a || anyR (fun q => hd G (stg G mone) 13 (3 * l + q)) p m).toNat) else mL_law_J393 xs L kk S Hp o v3 v4 v5 v7 v8 v9 v10 (nI l) v12 v13 (nI (d || anyR (fun q => hd G (stg G mone) 13 (3 * l + q) && dir G (3 * l + q)) p m).toNat) (orN (mnR G l mn p m)) 1 (nI (a || anyR (fun q => hd G (stg G mone) 13 (3 * l + q)) p m).toNat)) := by
  have w0 := W.1
  have w2 := (W.2.2.1 l (by omega)).1
  have t0 := x_told I W hl (q := 0) (by omega)
  rw [show tv G l 0 = nI (G 2 l) from if_pos rfl] at t0
  intro m
  induction m with
  | zero =>
    intro p N hm hN a d mn hmn
    match N, hN with
    | N + 1, _ =>
      show mL_law_F188 _ _ _ _ _ _ _ _ _ _ _ _ _ _ _ _ _ _ _ _ _ = _
      unfold mL_law_F188 anyR mnR
      rw [show (0 : Int32) = nI 0 from rfl, t0, xbR_s, le_t (by omega) (by omega), Bool.or_false, Bool.or_false]
  | succ m ih =>
    intro p N hm hN a d mn hmn
    match N, hN with
    | N + 1, hN =>
      have hp : p < G 2 l := by omega
      have a1 := X_about4 I W hl hp (q := 1) (by omega)
      rw [show pv G (3 * l + p) 1 = nI (hd G (stg G mone) 13 (3 * l + p)).toNat from by unfold pv; rw [if_neg (by omega), if_pos rfl, hd_b]] at a1
      have e1 : anyR (fun q => hd G (stg G mone) 13 (3 * l + q)) p (m + 1) = (hd G (stg G mone) 13 (3 * l + p) || anyR (fun q => hd G (stg G mone) 13 (3 * l + q)) (p + 1) m) := rfl
      have e2 : anyR (fun q => hd G (stg G mone) 13 (3 * l + q) && dir G (3 * l + q)) p (m + 1) = ((hd G (stg G mone) 13 (3 * l + p) && dir G (3 * l + p)) || anyR (fun q => hd G (stg G mone) 13 (3 * l + q) && dir G (3 * l + q)) (p + 1) m) := rfl
      have e3 : mnR G l mn p (m + 1) = mnR G l (min mn (cs G 0 (FL G 0) (3 * l + p))) (p + 1) m := rfl
      have g := ih (p + 1) N (by omega) (by omega) (a || hd G (stg G mone) 13 (3 * l + p)) (d || (hd G (stg G mone) 13 (3 * l + p) && dir G (3 * l + p))) (min mn (cs G 0 (FL G 0) (3 * l + p))) (Nat.le_trans (Nat.min_le_left _ _) hmn)
      rw [e1, e2, e3, ← Bool.or_assoc, ← Bool.or_assoc, ← g]
      show mL_law_F188 xs L kk S Hp o v3 v4 v5 v7 v8 v9 v10 (nI l) v12 v13 (itr4 (mL_law_F188 xs L kk S Hp o v3 v4 v5 v7 v8 v9 v10 (nI l) v12 v13) N) (nI a.toNat) (nI d.toNat) (orN mn) (nI p) = _
      generalize hI : itr4 (mL_law_F188 xs L kk S Hp o v3 v4 v5 v7 v8 v9 v10 (nI l) v12 v13) N = J
      have J2 := fun v14 => W_233 (Hp := Hp) (o := o) (xs := xs) (L := L) (v3 := v3) (v4 := v4) (v5 := v5) (v7 := v7) (v8 := v8) (v9 := v9) (v10 := v10) (v12 := v12) (v13 := v13) (v14 := v14) I W hl hp (d := d) hmn (kk := J)
      unfold mL_law_F188
      rw [show mX_told S (nI l) 0 = _ from t0, xbR_s, le_f (by omega) (by omega), show mX_about S (nI l) (nI p) 1 = _ from a1, xbR_s]
      cases hh : hd G (stg G mone) 13 (3 * l + p)
      · rw [hh] at J2
        rw [if_neg (show ¬ nI false.toNat = (1 : Int32) by decide), show nI a.toNat ||| 0 = nI (a || false).toNat from nb_or (a := a) (b := false)]
        exact J2 _
      · rw [hh] at J2
        rw [if_pos (show nI true.toNat = (1 : Int32) from rfl), show nI a.toNat ||| 1 = nI (a || true).toNat from nb_or (a := a) (b := true)]
        exact J2 _
end SLAW
