section PROP
variable {G : GS}
-- stages: what they are
def SB (G : GS) (b : Int32) (s : Nat → Nat) : Prop := ∀ x, s x ≠ 0 → x < G 14 0 ∧ nI x ≠ b ∧ hp G s (s x) x = true
def SD (G : GS) (b : Int32) (s : Nat → Nat) (N : Nat) : Prop := ∀ x, x < G 14 0 → nI x ≠ b → ∀ t, 1 ≤ t → t ≤ N → hp G s t x = true → 0 < s x ∧ s x ≤ t
theorem hp_imp {G G' : GS} {r r' : Nat → Nat} {t t' x : Nat} (h2 : G' 2 = G 2) (h3 : G' 3 = G 3) (h7 : G' 7 = G 7) (h : ∀ p i, p < G 2 x → 5 * (3 * x + p) ≤ i → i < 5 * (3 * x + p) + G 3 (3 * x + p) → dz G r t i = true → dz G' r' t' i = true) (q : hp G r t x = true) : hp G' r' t' x = true := by
  unfold hp hd wh at q ⊢
  rw [h2, h3, h7]
  rw [anyR_iff] at q ⊢
  obtain ⟨p, p1, p2, p3⟩ := q
  refine ⟨p, p1, p2, ?_⟩
  rw [Bool.and_eq_true] at p3 ⊢
  refine ⟨p3.1, ?_⟩
  rw [allR_iff] at p3 ⊢
  exact fun i i1 i2 => h p i (by omega) i1 i2 (p3.2 i i1 i2)
theorem dz_row {r r' : Nat → Nat} {t t' i : Nat} (h : G 4 i = 1 → 0 < r (G 5 i) → r (G 5 i) < t → 0 < r' (G 5 i) ∧ r' (G 5 i) < t') (q : dz G r t i = true) : dz G r' t' i = true := by
  unfold dz at q ⊢
  by_cases k0 : G 4 i = 0
  · rw [if_pos k0] at q ⊢; exact q
  · rw [if_neg k0] at q ⊢
    by_cases k1 : G 4 i = 1
    · rw [if_pos k1] at q ⊢
      rw [Bool.and_eq_true, decide_eq_true_iff, decide_eq_true_iff] at q ⊢
      exact h k1 q.1 q.2
    · rw [if_neg k1] at q ⊢; exact q
theorem hp_row {r r' : Nat → Nat} {t t' x : Nat} (h : ∀ y, 0 < r y → r y < t → 0 < r' y ∧ r' y < t') (q : hp G r t x = true) : hp G r' t' x = true :=
  hp_imp rfl rfl rfl (fun p i _ _ _ => dz_row (fun _ a b => h _ a b)) q
theorem pass_is {b : Int32} {st : Nat} (hs : st ≠ 0) : ∀ {m l : Nat} {r r0 : Nat → Nat} {c : Nat}, (∀ x, r0 x < st) → (∀ x, r x = r0 x ∨ (x < l ∧ r0 x = 0 ∧ r x = st)) → (∀ x, (passN G b st l m r c).1 x = if l ≤ x ∧ x < l + m ∧ r0 x = 0 ∧ nI x ≠ b ∧ hp G r0 st x = true then st else r x) := by
  intro m
  induction m with
  | zero =>
    intro l r r0 c h0 hr x
    rw [if_neg (by omega)]
    rfl
  | succ m ih =>
    intro l r r0 c h0 hr x
    have hl0 : r l = r0 l := (hr l).resolve_right (fun q => Nat.lt_irrefl _ q.1)
    have hhp : ∀ y, hp G r st y = hp G r0 st y := fun y => by
      rw [Bool.eq_iff_iff]
      constructor
      · exact hp_row (fun z a b => by rcases hr z with e | ⟨_, _, e⟩ <;> omega)
      · exact hp_row (fun z a b => by rcases hr z with e | ⟨_, e0, e⟩ <;> omega)
    unfold passN
    by_cases k : nI l = b ∨ r l ≠ 0 ∨ hp G r st l = false
    · rw [if_pos k, ih h0 (fun y => (hr y).imp id (fun q => ⟨by omega, q.2⟩)) x]
      by_cases e : x = l
      · subst e
        rw [if_neg (by omega), if_neg]
        rintro ⟨_, _, a, b', d⟩
        rcases k with k | k | k
        · exact b' k
        · exact k (by rw [hl0]; exact a)
        · rw [hhp, d] at k; cases k
      · by_cases q : l + 1 ≤ x ∧ x < l + 1 + m ∧ r0 x = 0 ∧ nI x ≠ b ∧ hp G r0 st x = true
        · rw [if_pos q, if_pos ⟨by omega, by omega, q.2.2⟩]
        · rw [if_neg q, if_neg (fun w => q ⟨by omega, by omega, w.2.2⟩)]
    · rw [if_neg k]
      have k1 : nI l ≠ b := fun q => k (Or.inl q)
      have k2 : r l = 0 := Classical.byContradiction fun q => k (Or.inr (Or.inl q))
      have k3 : hp G r st l = true := by
        cases q : hp G r st l with
        | true => rfl
        | false => exact absurd (Or.inr (Or.inr q)) k
      rw [ih h0 (fun y => ?_) x]
      · by_cases e : x = l
        · subst e
          rw [if_neg (by omega), if_pos ⟨by omega, by omega, by omega, k1, by rw [← hhp]; exact k3⟩]
          exact if_pos rfl
        · rw [show uN r l st x = r x from if_neg e]
          by_cases q : l + 1 ≤ x ∧ x < l + 1 + m ∧ r0 x = 0 ∧ nI x ≠ b ∧ hp G r0 st x = true
          · rw [if_pos q, if_pos ⟨by omega, by omega, q.2.2⟩]
          · rw [if_neg q, if_neg (fun w => q ⟨by omega, by omega, w.2.2⟩)]
      · by_cases e : y = l
        · exact Or.inr ⟨by omega, by rw [e]; omega, by rw [e]; exact if_pos rfl⟩
        · rw [show uN r l st y = r y from if_neg e]
          exact (hr y).imp id (fun q => ⟨by omega, q.2⟩)
/-- one round, as a function of the row ahead of it -/
def sN (G : GS) (b : Int32) (st : Nat) (r : Nat → Nat) (x : Nat) : Nat := if x < G 14 0 ∧ r x = 0 ∧ nI x ≠ b ∧ hp G r st x = true then st else r x
theorem pass_sN {b : Int32} {st c : Nat} {r : Nat → Nat} (hs : st ≠ 0) (h0 : ∀ x, r x < st) : (passN G b st 0 (G 14 0) r c).1 = sN G b st r := by
  funext x
  rw [pass_is hs h0 (fun _ => Or.inl rfl) x]
  unfold sN
  by_cases q : x < G 14 0 ∧ r x = 0 ∧ nI x ≠ b ∧ hp G r st x = true
  · rw [if_pos q, if_pos ⟨by omega, by omega, q.2⟩]
  · rw [if_neg q, if_neg (fun w => q ⟨by omega, w.2.2⟩)]
def SV (G : GS) (b : Int32) (st : Nat) (r : Nat → Nat) : Prop := (∀ x, r x < st) ∧ SB G b r ∧ SD G b r (st - 1)
theorem SV_0 {b : Int32} : SV G b 1 (fun _ => 0) := ⟨fun _ => Nat.lt_succ_self 0, fun x h => absurd rfl h, fun x _ _ t h1 h2 => by omega⟩
theorem SV_next {b : Int32} {st : Nat} {r : Nat → Nat} (hs : st ≠ 0) (h : SV G b st r) : SV G b (st + 1) (sN G b st r) := by
  obtain ⟨h0, hB, hD⟩ := h
  have old : ∀ y, r y ≠ 0 → sN G b st r y = r y := fun y hy => if_neg (fun q => hy q.2.1)
  have new : ∀ y, sN G b st r y = r y ∨ sN G b st r y = st := fun y => by
    unfold sN
    split
    · exact Or.inr rfl
    · exact Or.inl rfl
  have up : ∀ t x, hp G r t x = true → t ≤ st → hp G (sN G b st r) t x = true := fun t x q ht => hp_row (fun y a b => by rw [old y (by omega)]; exact ⟨a, b⟩) q
  refine ⟨fun x => ?_, fun x hx => ?_, fun x hx hb t h1 h2 q => ?_⟩
  · have := h0 x
    rcases new x with e | e <;> omega
  · by_cases q : x < G 14 0 ∧ r x = 0 ∧ nI x ≠ b ∧ hp G r st x = true
    · have e : sN G b st r x = st := if_pos q
      rw [e]
      exact ⟨q.1, q.2.2.1, up st x q.2.2.2 (Nat.le_refl _)⟩
    · have e : sN G b st r x = r x := if_neg q
      rw [e] at hx ⊢
      obtain ⟨a1, a2, a3⟩ := hB x hx
      exact ⟨a1, a2, up _ x a3 (Nat.le_of_lt (h0 x))⟩
  · have q' : hp G r t x = true := hp_row (fun y a b => by
      rcases new y with e | e
      · rw [e] at a b; exact ⟨a, b⟩
      · omega) q
    by_cases ht : t ≤ st - 1
    · have := hD x hx hb t h1 ht q'
      rw [old x (by omega)]
      exact this
    · have : t = st := by omega
      subst this
      by_cases e : r x = 0
      · rw [show sN G b t r x = t from if_pos ⟨hx, e, hb, q'⟩]
        omega
      · rw [old x e]
        have := h0 x
        omega
theorem nz_full {n : Nat} {r : Nat → Nat} (h : n ≤ nz n r) : ∀ x, x < n → r x ≠ 0 := by
  intro x hx e
  have h1 := sumR_lt (f := fun l => if r l = 0 then 0 else 1) (g := fun _ => 1) (m := n) (i := 0) x (fun k _ _ => by split <;> omega) (by omega) (by omega) (by rw [if_pos e]; omega)
  have h2 := sumR_bd (f := fun _ => 1) (b := 1) (m := n) (i := 0) (fun _ _ _ => Nat.le_refl _)
  unfold nz at h
  omega
theorem run_S {b : Int32} : ∀ {f st : Nat} {r : Nat → Nat} {c : Nat}, st ≠ 0 → G 14 0 ≤ c + f → nz (G 14 0) r = c → SV G b st r → SB G b (runN G b f st r c).1 ∧ ∀ N, SD G b (runN G b f st r c).1 N := by
  intro f
  induction f with
  | zero =>
    intro st r c hs hn hc h
    refine ⟨h.2.1, fun N x hx hb t h1 h2 q => ?_⟩
    have e := nz_full (n := G 14 0) (r := r) (by omega) x hx
    by_cases ht : t ≤ st - 1
    · exact h.2.2 x hx hb t h1 ht q
    · have := h.1 x
      show 0 < r x ∧ r x ≤ t
      omega
  | succ f ih =>
    intro st r c hs hn hc h
    have h1 := pn_nz (G := G) (b := b) (st := st) (n := G 14 0) hs (m := G 14 0) (l := 0) (r := r) (c := c) (by omega)
    have h3 := pn_ge (G := G) (b := b) (st := st) (m := G 14 0) (l := 0) (r := r) (c := c)
    have hp1 := pass_sN (G := G) (b := b) (st := st) (c := c) hs h.1
    rw [runN]
    by_cases h4 : (passN G b st 0 (G 14 0) r c).2 = c
    · rw [if_pos h4]
      have h5 := pn_same h4
      rw [h5]
      refine ⟨h.2.1, fun N x hx hb t t1 t2 q => ?_⟩
      by_cases ht : t ≤ st - 1
      · exact h.2.2 x hx hb t t1 ht q
      · have q' : hp G r st x = true := hp_row (fun y a b => ⟨a, h.1 y⟩) q
        have e : r x ≠ 0 := fun e => by
          have e1 : sN G b st r x = st := if_pos ⟨hx, e, hb, q'⟩
          rw [← hp1, h5, e] at e1
          omega
        have := h.1 x
        omega
    · rw [if_neg h4, hp1]
      rw [hp1] at h1
      exact ih (by omega) (by omega) (by omega) (SV_next hs h)
theorem stg_B {b : Int32} : SB G b (stg G b) := (run_S (G := G) (b := b) (f := G 14 0) (st := 1) (r := fun _ => 0) (c := 0) (by omega) (by omega) nz_0 SV_0).1
theorem stg_D {b : Int32} (N : Nat) : SD G b (stg G b) N := (run_S (G := G) (b := b) (f := G 14 0) (st := 1) (r := fun _ => 0) (c := 0) (by omega) (by omega) nz_0 SV_0).2 N
theorem cnt_nz {b : Int32} : cnt G b = nz (G 14 0) (stg G b) := (run_nz (G := G) (b := b) (f := G 14 0) (st := 1) (r := fun _ => 0) (c := 0) (by omega) nz_0).symm
/-- more at hand: no later -/
theorem S_mono {G G' : GS} {b b' : Int32} {s s' : Nat → Nat} {N : Nat} (h1 : ∀ a, G' 1 a = 1 → G 1 a = 1) (h2 : G 2 = G' 2) (h3 : G 3 = G' 3) (h4 : G 4 = G' 4) (h5 : G 5 = G' 5) (h6 : G 6 = G' 6) (h7 : G 7 = G' 7) (h14 : G 14 = G' 14) (B : SB G' b' s') (D : SD G b s N) (hN : ∀ x, s' x ≤ N) (hb : ∀ x, s' x ≠ 0 → nI x ≠ b) : ∀ t x, s' x = t → t ≠ 0 → 0 < s x ∧ s x ≤ t := by
  intro t
  induction t using Nat.strongRecOn with
  | ind t ih =>
    intro x hx ht
    obtain ⟨a1, a2, a3⟩ := B x (by omega)
    have hxN := hN x
    refine D x (by rw [h14]; exact a1) (hb x (by omega)) t (by omega) (by omega) ?_
    rw [hx] at a3
    refine hp_imp h2 h3 h7 (fun p i _ _ _ q => ?_) a3
    unfold dz at q ⊢
    rw [h4, h5, h6]
    by_cases k0 : G' 4 i = 0
    · rw [if_pos k0] at q ⊢
      rw [beq_iff_eq] at q ⊢
      exact h1 _ q
    · rw [if_neg k0] at q ⊢
      by_cases k1 : G' 4 i = 1
      · rw [if_pos k1] at q ⊢
        rw [Bool.and_eq_true, decide_eq_true_iff, decide_eq_true_iff] at q ⊢
        have := ih (s' (G' 5 i)) q.2 (G' 5 i) rfl (by omega)
        omega
      · rw [if_neg k1] at q ⊢; exact q
theorem S_uniq {b : Int32} {s s' : Nat → Nat} {N : Nat} (B : SB G b s) (D : SD G b s N) (B' : SB G b s') (D' : SD G b s' N) (hN : ∀ x, s x ≤ N) (hN' : ∀ x, s' x ≤ N) : s = s' := by
  have a1 := S_mono (G := G) (G' := G) (b := b) (b' := b) (s := s) (s' := s') (N := N) (fun _ h => h) rfl rfl rfl rfl rfl rfl rfl B' D hN' (fun x h => (B' x h).2.1)
  have a2 := S_mono (G := G) (G' := G) (b := b) (b' := b) (s := s') (s' := s) (N := N) (fun _ h => h) rfl rfl rfl rfl rfl rfl rfl B D' hN (fun x h => (B x h).2.1)
  funext x
  by_cases e : s x = 0
  · by_cases e' : s' x = 0
    · omega
    · have := a1 _ x rfl e'; omega
  · have := a2 _ x rfl e
    have := a1 _ x rfl (by omega)
    omega
/-- the rounds one by one, none left out -/
def stN (G : GS) (b : Int32) : Nat → Nat → Nat
  | 0 => fun _ => 0
  | k + 1 => sN G b (k + 1) (stN G b k)
theorem stN_V {b : Int32} : ∀ k, SV G b (k + 1) (stN G b k) := by
  intro k
  induction k with
  | zero => exact SV_0
  | succ k ih => exact SV_next (by omega) ih
theorem stN_stg {b : Int32} : stN G b (G 14 0) = stg G b := by
  have h := stN_V (G := G) (b := b) (G 14 0)
  exact S_uniq (N := G 14 0) h.2.1 (by have := h.2.2; rwa [Nat.add_sub_cancel] at this) stg_B (stg_D _) (fun x => by have := h.1 x; omega) (fun x => stg_le x)
theorem nz_mono {n : Nat} {r r' : Nat → Nat} (h : ∀ x, x < n → r x ≠ 0 → r' x ≠ 0) : nz n r ≤ nz n r' := by
  unfold nz
  refine sumR_le fun x _ hx => ?_
  by_cases q : r x = 0
  · rw [if_pos q]; omega
  · rw [if_neg q, if_neg (h x (by omega) q)]; exact Nat.le_refl _
theorem nz_lt {n x : Nat} {r r' : Nat → Nat} (h : ∀ y, y < n → r y ≠ 0 → r' y ≠ 0) (hx : x < n) (h0 : r x = 0) (h1 : r' x ≠ 0) : nz n r < nz n r' := by
  unfold nz
  refine sumR_lt x (fun y _ hy => ?_) (by omega) (by omega) ?_
  · by_cases q : r y = 0
    · rw [if_pos q]; omega
    · rw [if_neg q, if_neg (h y (by omega) q)]; exact Nat.le_refl _
  · rw [if_pos h0, if_neg h1]; omega
-- what holds
theorem mone_nI {x : Nat} (h : x < 2147483648) : nI x ≠ mone := mone_ne h
theorem hd_hp {r : Nat → Nat} {t l p : Nat} (hp' : p < G 2 l) (h : hd G r t (3 * l + p) = true) : hp G r t l = true := by
  unfold hp
  rw [anyR_iff]
  exact ⟨p, by omega, by omega, h⟩
theorem hp_hd {r : Nat → Nat} {t l : Nat} (h : hp G r t l = true) : ∃ p, p < G 2 l ∧ hd G r t (3 * l + p) = true := by
  unfold hp at h
  rw [anyR_iff] at h
  obtain ⟨p, _, h2, h3⟩ := h
  exact ⟨p, by omega, h3⟩
theorem pr_stg (W : WG G) {l p : Nat} (hl : l < G 14 0) (hp' : p < G 2 l) (h : hd G (stg G mone) 13 (3 * l + p) = true) : stg G mone l ≠ 0 := by
  have w0 := W.1
  have := stg_D (G := G) (b := mone) 13 l hl (mone_nI (by omega)) 13 (by omega) (by omega) (hd_hp hp' h)
  omega
theorem stg_pr (W : WG G) {l : Nat} (h : stg G mone l ≠ 0) : ∃ p, p < G 2 l ∧ hd G (stg G mone) 13 (3 * l + p) = true := by
  have w0 := W.1
  obtain ⟨a1, a2, a3⟩ := stg_B l h
  exact hp_hd (hp_row (fun y a b => ⟨a, by have := stg_le (G := G) (b := mone) y; omega⟩) a3)
theorem hd_parts {r : Nat → Nat} {t j : Nat} : hd G r t j = true ↔ wh G j = true ∧ ∀ i, 5 * j ≤ i → i < 5 * j + G 3 j → dz G r t i = true := by
  unfold hd
  rw [Bool.and_eq_true, allR_iff]
theorem first_1 (W : WG G) {l p : Nat} (hl : l < G 14 0) (hp' : p < G 2 l) (h : hd G (stg G mone) 13 (3 * l + p) = true) (hk : ∀ i, 5 * (3 * l + p) ≤ i → i < 5 * (3 * l + p) + G 3 (3 * l + p) → G 4 i ≠ 1) : stg G mone l = 1 := by
  have w0 := W.1
  obtain ⟨h1, h2⟩ := hd_parts.mp h
  have : hd G (stg G mone) 1 (3 * l + p) = true := hd_parts.mpr ⟨h1, fun i i1 i2 => dz_row (fun k => absurd k (hk i i1 i2)) (h2 i i1 i2)⟩
  have := stg_D (G := G) (b := mone) 1 l hl (mone_nI (by omega)) 1 (by omega) (by omega) (hd_hp hp' this)
  omega
theorem first_2 (W : WG G) {l : Nat} (h : stg G mone l = 1) : ∃ p, p < G 2 l ∧ hd G (stg G mone) 13 (3 * l + p) = true ∧ ∀ i, 5 * (3 * l + p) ≤ i → i < 5 * (3 * l + p) + G 3 (3 * l + p) → G 4 i ≠ 1 := by
  have w0 := W.1
  obtain ⟨a1, a2, a3⟩ := stg_B l (show stg G mone l ≠ 0 by omega)
  rw [h] at a3
  obtain ⟨p, p1, p2⟩ := hp_hd a3
  obtain ⟨h1, h2⟩ := hd_parts.mp p2
  refine ⟨p, p1, hd_parts.mpr ⟨h1, fun i i1 i2 => dz_row (fun _ a b => ⟨a, by omega⟩) (h2 i i1 i2)⟩, fun i i1 i2 k => ?_⟩
  have := h2 i i1 i2
  unfold dz at this
  rw [if_neg (by omega), if_pos k, Bool.and_eq_true, decide_eq_true_iff, decide_eq_true_iff] at this
  omega
theorem stg_gap (W : WG G) {l k : Nat} (hk : 1 ≤ k) (h : stg G mone l = k + 1) : ∃ y, y < G 14 0 ∧ stg G mone y = k := by
  have w0 := W.1
  obtain ⟨a1, a2, a3⟩ := stg_B l (show stg G mone l ≠ 0 by omega)
  refine Classical.byContradiction fun hn => ?_
  rw [h] at a3
  have : hp G (stg G mone) k l = true := hp_row (fun y a b => ⟨a, by
    by_cases e : stg G mone y = k
    · exact absurd ⟨y, (stg_B (b := mone) y (Nat.ne_of_gt a)).1, e⟩ hn
    · omega⟩) a3
  have := stg_D (G := G) (b := mone) k l a1 a2 k hk (Nat.le_refl _) this
  omega
theorem bar_0 (W : WG G) {l : Nat} (hl : l < G 14 0) (h : stg G mone l = 0) : cnt G (nI l) = cnt G mone := by
  have w0 := W.1
  have e : stg G (nI l) = stg G mone := by
    refine S_uniq (N := G 14 0) stg_B (stg_D _) (fun x hx => ?_) (fun x hx hb t t1 t2 q => ?_) (fun x => stg_le x) (fun x => stg_le x)
    · obtain ⟨a1, a2, a3⟩ := stg_B x hx
      refine ⟨a1, fun e => hx ?_, a3⟩
      have := (nI_eq (a := x) (b := l) (by omega) (by omega)).mp e
      rw [this]; exact h
    · exact stg_D (G 14 0) x hx (mone_nI (by omega)) t t1 t2 q
  rw [cnt_nz, cnt_nz, e]
theorem bar_1 (W : WG G) {l : Nat} (hl : l < G 14 0) (h : stg G mone l ≠ 0) : cnt G (nI l) < cnt G mone := by
  have w0 := W.1
  rw [cnt_nz, cnt_nz]
  refine nz_lt (x := l) (fun y hy q => ?_) hl ?_ h
  · have := S_mono (G := G) (G' := G) (b := mone) (b' := nI l) (s := stg G mone) (s' := stg G (nI l)) (N := G 14 0) (fun _ h => h) rfl rfl rfl rfl rfl rfl rfl stg_B (stg_D _) (fun x => stg_le x) (fun x hx => mone_nI (by have := (stg_B x hx).1; omega)) _ y rfl q
    omega
  · refine Classical.byContradiction fun q => ?_
    exact (stg_B l q).2.1 rfl
theorem need_is {l a : Nat} (W : WG G) (ha : a < 5) (h : nv G l a ≠ 0) : stg G mone l ≠ 0 ∧ G 1 a = 1 := by
  have w1 := W.2.1 a ha
  unfold nv at h
  by_cases q : stg G mone l = 0
  · rw [if_pos q] at h; exact absurd rfl h
  · rw [if_neg q] at h
    refine ⟨q, ?_⟩
    refine Classical.byContradiction fun e => ?_
    rw [gs_self (show G 1 a = 0 by omega), if_neg q] at h
    exact h rfl
theorem take_more {a : Nat} (W : WG G) : cnt G mone ≤ cnt (gs G 1 a 1) mone := by
  have w0 := W.1
  rw [cnt_nz, cnt_nz]
  rw [gs_n (show 14 ≠ 1 by omega)]
  refine nz_mono (fun y hy q => ?_)
  have := S_mono (G := gs G 1 a 1) (G' := G) (b := mone) (b' := mone) (s := stg (gs G 1 a 1) mone) (s' := stg G mone) (N := G 14 0) (fun x h => by
    rw [gs_s]
    unfold uN
    split
    · rfl
    · exact h) (gs_n (by omega)) (gs_n (by omega)) (gs_n (by omega)) (gs_n (by omega)) (gs_n (by omega)) (gs_n (by omega)) (gs_n (by omega)) stg_B (stg_D _) (fun x => stg_le x) (fun x hx => mone_nI (by have := (stg_B x hx).1; omega)) _ y rfl q
  omega
-- lengths and prices beside the stages
theorem sum_0 {f : Nat → Nat} {m i : Nat} (h : sumR f i m = 0) {x : Nat} (h1 : i ≤ x) (h2 : x < i + m) : f x = 0 := by
  have := sumR_ge (f := f) (m := m) (i := i) x h1 h2
  omega
theorem hd_price (W : WG G) {j : Nat} (hj : j < 36) {s : Nat → Nat} {t : Nat} (h : hd G s t j = true) (hf : ∀ i, 5 * j ≤ i → i < 5 * j + G 3 j → G 4 i = 1 → FL G 1 (G 5 i) = 0) : cs G 1 (FL G 1) j = 0 := by
  obtain ⟨h1, h2⟩ := hd_parts.mp h
  have e : sumR (sc G 1 (FL G 1)) (5 * j) (G 3 j) ≤ G 3 j * 0 := sumR_bd fun i i1 i2 => by
    have q := h2 i i1 i2
    have w := W.2.2.2.2 j i hj i1 i2
    unfold dz at q
    unfold sc
    by_cases k0 : G 4 i = 0
    · rw [if_pos k0] at q ⊢
      rw [beq_iff_eq] at q
      rw [if_neg (by omega)]; exact Nat.le_refl _
    · rw [if_neg k0] at q ⊢
      by_cases k1 : G 4 i = 1
      · rw [if_pos k1, hf i i1 i2 k1]; exact Nat.le_refl _
      · rw [if_neg k1] at q ⊢
        rw [beq_iff_eq] at q
        rw [if_neg (by omega), q]; exact Nat.le_refl _
  unfold cs cb
  rw [if_pos h1, if_neg (by omega)]
  omega
theorem stg_price (W : WG G) : ∀ t l, stg G mone l = t → t ≠ 0 → FL G 1 l = 0 := by
  have w0 := W.1
  intro t
  induction t using Nat.strongRecOn with
  | ind t ih =>
    intro l hl ht
    obtain ⟨a1, a2, a3⟩ := stg_B l (show stg G mone l ≠ 0 by omega)
    obtain ⟨p, p1, p2⟩ := hp_hd a3
    have w2 := (W.2.2.1 l (by omega)).1
    have e := hd_price W (j := 3 * l + p) (by omega) p2 (fun i i1 i2 k => by
      have q := (hd_parts.mp p2).2 i i1 i2
      unfold dz at q
      rw [if_neg (by omega), if_pos k, Bool.and_eq_true, decide_eq_true_iff, decide_eq_true_iff] at q
      exact ih _ (by omega) (G 5 i) rfl (by omega))
    have := (FL_pf W (k := 1) l a1).2 p p1
    omega
theorem pr_price (W : WG G) {l p : Nat} (hl : l < G 14 0) (hp' : p < G 2 l) (h : hd G (stg G mone) 13 (3 * l + p) = true) : cs G 1 (FL G 1) (3 * l + p) = 0 := by
  have w0 := W.1
  have w2 := (W.2.2.1 l (by omega)).1
  refine hd_price W (by omega) h (fun i i1 i2 k => ?_)
  have q := (hd_parts.mp h).2 i i1 i2
  unfold dz at q
  rw [if_neg (by omega), if_pos k, Bool.and_eq_true, decide_eq_true_iff, decide_eq_true_iff] at q
  exact stg_price W _ (G 5 i) rfl (by omega)
theorem cs_hd (W : WG G) {k j : Nat} (hj : j < 36) {r s : Nat → Nat} (B : Nat) (hk : k = 0 ∧ B = 9998 ∨ k = 1 ∧ B = 0) (hc : cs G k r j ≤ B) (hr : ∀ y, y < G 14 0 → r y ≤ B → 0 < s y ∧ s y < 13) : hd G s 13 j = true := by
  unfold cs at hc
  by_cases h1 : wh G j = true
  · rw [if_pos h1] at hc
    refine hd_parts.mpr ⟨h1, fun i i1 i2 => ?_⟩
    have g := sumR_ge (f := sc G k r) (m := G 3 j) (i := 5 * j) i i1 i2
    have w := W.2.2.2.2 j i hj i1 i2
    have hs : sc G k r i ≤ B := by omega
    unfold sc at hs
    unfold dz
    by_cases k0 : G 4 i = 0
    · rw [if_pos k0] at hs ⊢
      by_cases q : G 1 (G 5 i) = 0
      · rw [if_pos q] at hs; omega
      · have := W.2.1 (G 5 i) (w.2.1 k0)
        rw [beq_iff_eq]; omega
    · rw [if_neg k0] at hs ⊢
      by_cases k1 : G 4 i = 1
      · rw [if_pos k1] at hs ⊢
        rw [Bool.and_eq_true, decide_eq_true_iff, decide_eq_true_iff]
        exact hr _ (w.2.2.1 k1) hs
      · rw [if_neg k1] at hs ⊢
        rw [beq_iff_eq]
        rcases hk with ⟨e, e'⟩ | ⟨e, e'⟩
        · rw [if_pos e] at hs
          by_cases q : G 6 i = 0
          · exact q
          · rw [if_neg q] at hs; omega
        · rw [if_neg (by omega)] at hs; omega
  · rw [if_neg h1] at hc
    omega
theorem raise (W : WG G) {k B v : Nat} (hk : k = 0 ∧ B = 9998 ∧ v = 9999 ∨ k = 1 ∧ B = 0 ∧ v = 1) {l : Nat} (hl : l < G 14 0) (h : FL G k l ≤ B) : stg G mone l ≠ 0 := by
  intro hs
  have w0 := W.1
  let w : Nat → Nat := fun x => if stg G mone x = 0 ∧ FL G k x ≤ B then v else FL G k x
  have w1 : ∀ x, stg G mone x = 0 → FL G k x ≤ B → w x = v := fun x a b => if_pos ⟨a, b⟩
  have w2 : ∀ x, ¬ (stg G mone x = 0 ∧ FL G k x ≤ B) → w x = FL G k x := fun x a => if_neg a
  have w3 : ∀ x, FL G k x ≤ w x := fun x => by
    by_cases q : stg G mone x = 0 ∧ FL G k x ≤ B
    · rw [w1 x q.1 q.2]; have := q.2; omega
    · rw [w2 x q]; exact Nat.le_refl _
  have hw : PF G k w := by
    intro x hx
    have n2 := (W.2.2.1 x (by omega)).1
    refine ⟨?_, fun p hp' => ?_⟩
    · by_cases q : stg G mone x = 0 ∧ FL G k x ≤ B
      · rw [w1 x q.1 q.2]; omega
      · rw [w2 x q]; exact FL_le
    · have a1 := (FL_pf W (k := k) x hx).2 p hp'
      have a2 : cs G k (FL G k) (3 * x + p) ≤ cs G k w (3 * x + p) := cs_mono W (by omega) fun y _ => w3 y
      by_cases q : stg G mone x = 0 ∧ FL G k x ≤ B
      · rw [w1 x q.1 q.2]
        refine Classical.byContradiction fun hlt => ?_
        have hc : cs G k w (3 * x + p) ≤ B := by omega
        have := cs_hd W (k := k) (j := 3 * x + p) (by omega) (r := w) (s := stg G mone) B (by omega) hc (fun y hy hy2 => by
          have h12 := stg_le (G := G) (b := mone) y
          by_cases e : stg G mone y = 0
          · by_cases e2 : FL G k y ≤ B
            · rw [w1 y e e2] at hy2; omega
            · rw [w2 y (fun q => e2 q.2)] at hy2; omega
          · omega)
        exact pr_stg W hx hp' this q.1
      · rw [w2 x q]; omega
  have := FL_max hw hl
  rw [w1 l hs h] at this
  omega
theorem price_0 (W : WG G) {l : Nat} (hl : l < G 14 0) : FL G 1 l = 0 ↔ stg G mone l ≠ 0 :=
  ⟨fun h => raise W (k := 1) (B := 0) (v := 1) (Or.inr ⟨rfl, rfl, rfl⟩) hl (by omega), fun h => stg_price W _ l rfl h⟩
theorem len_stg (W : WG G) {l : Nat} (hl : l < G 14 0) (h : FL G 0 l < 9999) : stg G mone l ≠ 0 := raise W (k := 0) (B := 9998) (v := 9999) (Or.inl ⟨rfl, rfl, rfl⟩) hl (by omega)
theorem len_pr (W : WG G) {j : Nat} (hj : j < 36) (h : cs G 0 (FL G 0) j < 9999) : hd G (stg G mone) 13 j = true ∧ G 3 j ≤ cs G 0 (FL G 0) j := by
  have w0 := W.1
  refine ⟨cs_hd W hj (r := FL G 0) (s := stg G mone) 9998 (Or.inl ⟨rfl, rfl⟩) (by omega) (fun y hy hy2 => ?_), ?_⟩
  · have := len_stg W hy (by omega)
    have := stg_le (G := G) (b := mone) y
    omega
  · unfold cs at h ⊢
    by_cases q : wh G j = true
    · rw [if_pos q] at h ⊢
      unfold cb at h ⊢
      rw [if_pos rfl] at h ⊢
      omega
    · rw [if_neg q] at h; omega
theorem FL_att (W : WG G) {k l : Nat} (hl : l < G 14 0) (h : FL G k l < 9999) : ∃ p, p < G 2 l ∧ cs G k (FL G k) (3 * l + p) = FL G k l := by
  have w0 := W.1
  refine Classical.byContradiction fun hn => ?_
  let w : Nat → Nat := fun x => if x = l then FL G k l + 1 else FL G k x
  have w1 : w l = FL G k l + 1 := if_pos rfl
  have w2 : ∀ x, x ≠ l → w x = FL G k x := fun x a => if_neg a
  have w3 : ∀ x, FL G k x ≤ w x := fun x => by
    by_cases q : x = l
    · rw [q, w1]; omega
    · rw [w2 x q]; exact Nat.le_refl _
  have hw : PF G k w := by
    intro x hx
    have n2 := (W.2.2.1 x (by omega)).1
    refine ⟨?_, fun p hp' => ?_⟩
    · by_cases q : x = l
      · rw [q, w1]; omega
      · rw [w2 x q]; exact FL_le
    · have a1 := (FL_pf W (k := k) x hx).2 p hp'
      have a2 : cs G k (FL G k) (3 * x + p) ≤ cs G k w (3 * x + p) := cs_mono W (by omega) fun y _ => w3 y
      by_cases q : x = l
      · subst q
        rw [w1]
        by_cases e : cs G k (FL G k) (3 * x + p) = FL G k x
        · exact absurd ⟨p, hp', e⟩ hn
        · omega
      · rw [w2 x q]; omega
  have := FL_max hw hl
  rw [w1] at this
  omega
/-- the best one: the first of the shortest -/
theorem bst_spec {l : Nat} : ∀ {m p : Nat} {b : Int32} {c : Nat}, ((∀ q, p ≤ q → q < p + m → c ≤ cs G 0 (FL G 0) (3 * l + q)) ∧ bst G l p m b c = b) ∨ ∃ q, p ≤ q ∧ q < p + m ∧ cs G 0 (FL G 0) (3 * l + q) < c ∧ bst G l p m b c = nI q ∧ (∀ q', p ≤ q' → q' < q → cs G 0 (FL G 0) (3 * l + q) < cs G 0 (FL G 0) (3 * l + q')) ∧ (∀ q', p ≤ q' → q' < p + m → cs G 0 (FL G 0) (3 * l + q) ≤ cs G 0 (FL G 0) (3 * l + q')) := by
  intro m
  induction m with
  | zero => intro p b c; exact Or.inl ⟨fun q h1 h2 => by omega, rfl⟩
  | succ m ih =>
    intro p b c
    by_cases h : c ≤ cs G 0 (FL G 0) (3 * l + p)
    · rw [show bst G l p (m + 1) b c = bst G l (p + 1) m b c from if_pos h]
      rcases ih (p := p + 1) (b := b) (c := c) with ⟨a1, a2⟩ | ⟨q, a1, a2, a3, a4, a5, a6⟩
      · refine Or.inl ⟨fun q h1 h2 => ?_, a2⟩
        by_cases e : q = p
        · rw [e]; exact h
        · exact a1 q (by omega) (by omega)
      · refine Or.inr ⟨q, by omega, by omega, a3, a4, fun q' h1 h2 => ?_, fun q' h1 h2 => ?_⟩
        · by_cases e : q' = p
          · rw [e]; omega
          · exact a5 q' (by omega) h2
        · by_cases e : q' = p
          · rw [e]; omega
          · exact a6 q' (by omega) (by omega)
    · rw [show bst G l p (m + 1) b c = bst G l (p + 1) m (nI p) (cs G 0 (FL G 0) (3 * l + p)) from if_neg h]
      rcases ih (p := p + 1) (b := nI p) (c := cs G 0 (FL G 0) (3 * l + p)) with ⟨a1, a2⟩ | ⟨q, a1, a2, a3, a4, a5, a6⟩
      · refine Or.inr ⟨p, by omega, by omega, by omega, a2, fun q' h1 h2 => by omega, fun q' h1 h2 => ?_⟩
        by_cases e : q' = p
        · rw [e]; exact Nat.le_refl _
        · exact a1 q' (by omega) (by omega)
      · refine Or.inr ⟨q, by omega, by omega, by omega, a4, fun q' h1 h2 => ?_, fun q' h1 h2 => ?_⟩
        · by_cases e : q' = p
          · rw [e]; omega
          · exact a5 q' (by omega) h2
        · by_cases e : q' = p
          · rw [e]; omega
          · exact a6 q' (by omega) (by omega)
theorem best_is (W : WG G) {l : Nat} (hl : l < G 14 0) : (FL G 0 l = 9999 ∧ (∀ p, p < G 2 l → cs G 0 (FL G 0) (3 * l + p) = 9999) ∧ bst G l 0 (G 2 l) mone 9999 = mone) ∨ ∃ q, q < G 2 l ∧ FL G 0 l < 9999 ∧ cs G 0 (FL G 0) (3 * l + q) = FL G 0 l ∧ bst G l 0 (G 2 l) mone 9999 = nI q ∧ ∀ q', q' < q → FL G 0 l < cs G 0 (FL G 0) (3 * l + q') := by
  have a := (FL_pf W (k := 0) l hl).2
  rcases bst_spec (G := G) (l := l) (m := G 2 l) (p := 0) (b := mone) (c := 9999) with ⟨h1, h2⟩ | ⟨q, h1, h2, h3, h4, h5, h6⟩
  · have e : FL G 0 l = 9999 := by
      have := FL_le (G := G) (k := 0) (l := l)
      refine Classical.byContradiction fun hn => ?_
      obtain ⟨p, p1, p2⟩ := FL_att W hl (k := 0) (by omega)
      have := h1 p (by omega) (by omega)
      omega
    exact Or.inl ⟨e, fun p hp' => Nat.le_antisymm cs_le (h1 p (by omega) (by omega)), h2⟩
  · have h7 := a q (by omega)
    have e : cs G 0 (FL G 0) (3 * l + q) = FL G 0 l := by
      obtain ⟨p, p1, p2⟩ := FL_att W hl (k := 0) (by omega)
      have := h6 p (by omega) (by omega)
      omega
    refine Or.inr ⟨q, by omega, by omega, e, h4, fun q' hq => ?_⟩
    have := h5 q' (by omega) hq
    omega
-- advice
def AI (G : GS) (s : Int32 × Nat) : Prop := cnt G mone ≤ s.2 ∧ (s.1 = mone ∨ ∃ l p k, l < G 14 0 ∧ p < G 2 l ∧ k < G 3 (3 * l + p) ∧ s.1 = nI (100 * l + 10 * p + k) ∧ G 6 (5 * (3 * l + p) + k) ≠ 0 ∧ cnt G mone < cnt (gs G 6 (5 * (3 * l + p) + k) 0) mone)
theorem AI_1 {l p k : Nat} {s : Int32 × Nat} (hl : l < G 14 0) (hp' : p < G 2 l) (hk : k < G 3 (3 * l + p)) (h : AI G s) : AI G (as1 G l p k s) := by
  unfold as1
  by_cases q : s.2 < av G (5 * (3 * l + p) + k)
  · rw [if_pos q]
    have h1 := h.1
    unfold av at q ⊢
    by_cases e : G 6 (5 * (3 * l + p) + k) = 0
    · rw [if_pos e] at q; omega
    · rw [if_neg e] at q ⊢
      exact ⟨by dsimp only; omega, Or.inr ⟨l, p, k, hl, hp', hk, rfl, e, by omega⟩⟩
  · rw [if_neg q]; exact h
theorem AI_k {l p : Nat} (hl : l < G 14 0) (hp' : p < G 2 l) : ∀ {m k : Nat} {s : Int32 × Nat}, k + m ≤ G 3 (3 * l + p) → AI G s → AI G (ad1 G l p k m s) := by
  intro m
  induction m with
  | zero => intro k s _ h; exact h
  | succ m ih => intro k s hk h; exact ih (by omega) (AI_1 hl hp' (by omega) h)
theorem AI_p {l : Nat} (hl : l < G 14 0) : ∀ {m p : Nat} {s : Int32 × Nat}, p + m ≤ G 2 l → AI G s → AI G (ad2 G l p m s) := by
  intro m
  induction m with
  | zero => intro k s _ h; exact h
  | succ m ih => intro p s hp' h; exact ih (by omega) (AI_k hl (by omega) (by omega) h)
theorem AI_l : ∀ {m l : Nat} {s : Int32 × Nat}, l + m ≤ G 14 0 → AI G s → AI G (ad3 G l m s) := by
  intro m
  induction m with
  | zero => intro l s _ h; exact h
  | succ m ih => intro l s hl h; exact ih (by omega) (AI_p (by omega) (by omega) h)
theorem adv_is : AI G (ad3 G 0 (G 14 0) (mone, cnt G mone)) := AI_l (by omega) ⟨Nat.le_refl _, Or.inl rfl⟩
theorem gs_gs {k i v w : Nat} : gs (gs G k i v) k i w = gs G k i w := by
  funext j
  by_cases e : j = k
  · subst e
    rw [gs_s, gs_s, gs_s]
    funext x
    unfold uN
    by_cases q : x = i
    · rw [if_pos q, if_pos q]
    · rw [if_neg q, if_neg q, if_neg q]
  · rw [gs_n e, gs_n e, gs_n e]
end PROP
