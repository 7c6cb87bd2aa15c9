section PROVE
variable {G : GS}
def uN (r : Nat → Nat) (i v : Nat) : Nat → Nat := fun j => if j = i then v else r j
def passN (G : GS) (b : Int32) (st : Nat) : Nat → Nat → (Nat → Nat) → Nat → (Nat → Nat) × Nat
  | _, 0, r, c => (r, c)
  | l, m + 1, r, c => if nI l = b ∨ r l ≠ 0 ∨ hp G r st l = false then passN G b st (l + 1) m r c else passN G b st (l + 1) m (uN r l st) (c + 1)
def runN (G : GS) (b : Int32) : Nat → Nat → (Nat → Nat) → Nat → (Nat → Nat) × Nat
  | 0, _, r, c => (r, c)
  | f + 1, st, r, c => if (passN G b st 0 (G 14 0) r c).2 = c then passN G b st 0 (G 14 0) r c else runN G b f (st + 1) (passN G b st 0 (G 14 0) r c).1 (passN G b st 0 (G 14 0) r c).2
def stg (G : GS) (b : Int32) : Nat → Nat := (runN G b (G 14 0) 1 (fun _ => 0) 0).1
def cnt (G : GS) (b : Int32) : Nat := (runN G b (G 14 0) 1 (fun _ => 0) 0).2
def nz (n : Nat) (r : Nat → Nat) : Nat := sumR (fun l => if r l = 0 then 0 else 1) 0 n
theorem sumR_up {f g : Nat → Nat} (x : Nat) (hx : g x = f x + 1) (h : ∀ k, k ≠ x → g k = f k) : ∀ {m i : Nat}, i ≤ x → x < i + m → sumR g i m = sumR f i m + 1 := by
  intro m
  induction m with
  | zero => intro i h1 h2; omega
  | succ m ih =>
    intro i h1 h2
    unfold sumR
    by_cases e : i = x
    · rw [e, hx, sumR_cg (f := g) (g := f) (fun k h1 h2 => h k (by omega))]
      omega
    · rw [h i e, ih (by omega) (by omega)]
      omega
theorem nz_up {n st l : Nat} {r : Nat → Nat} (hs : st ≠ 0) (hl : l < n) (h : r l = 0) : nz n (uN r l st) = nz n r + 1 := by
  unfold nz
  refine sumR_up l ?_ (fun k hk => ?_) (by omega) (by omega)
  · simp [uN, h, hs]
  · simp [uN, hk]
theorem nz_le {n : Nat} {r : Nat → Nat} : nz n r ≤ n := by
  have := sumR_bd (f := fun l => if r l = 0 then 0 else 1) (b := 1) (m := n) (i := 0) (fun k _ _ => by split <;> omega)
  unfold nz
  omega
theorem pn_ge {b : Int32} {st : Nat} : ∀ {m l : Nat} {r : Nat → Nat} {c : Nat}, c ≤ (passN G b st l m r c).2 := by
  intro m
  induction m with
  | zero => intro l r c; exact Nat.le_refl _
  | succ m ih =>
    intro l r c
    unfold passN
    split
    · exact ih
    · exact Nat.le_trans (by omega) (ih (c := c + 1))
theorem pn_same {b : Int32} {st : Nat} : ∀ {m l : Nat} {r : Nat → Nat} {c : Nat}, (passN G b st l m r c).2 = c → (passN G b st l m r c).1 = r := by
  intro m
  induction m with
  | zero => intro l r c _; rfl
  | succ m ih =>
    intro l r c h
    unfold passN at h ⊢
    split at h
    · rw [if_pos (by assumption)]; exact ih h
    · have := pn_ge (G := G) (b := b) (st := st) (m := m) (l := l + 1) (r := uN r l st) (c := c + 1)
      omega
theorem pn_nz {b : Int32} {st n : Nat} (hs : st ≠ 0) : ∀ {m l : Nat} {r : Nat → Nat} {c : Nat}, l + m = n → nz n (passN G b st l m r c).1 + c = nz n r + (passN G b st l m r c).2 := by
  intro m
  induction m with
  | zero => intro l r c _; rfl
  | succ m ih =>
    intro l r c h
    unfold passN
    by_cases k : nI l = b ∨ r l ≠ 0 ∨ hp G r st l = false
    · rw [if_pos k]; exact ih (by omega)
    · rw [if_neg k]
      have h1 := ih (l := l + 1) (r := uN r l st) (c := c + 1) (by omega)
      rw [nz_up hs (by omega) (by
        by_cases q : r l = 0
        · exact q
        · exact absurd (Or.inr (Or.inl q)) k)] at h1
      omega
theorem pn_le {b : Int32} {st B : Nat} (hs : st ≤ B) : ∀ {m l : Nat} {r : Nat → Nat} {c : Nat}, (∀ x, r x ≤ B) → ∀ x, (passN G b st l m r c).1 x ≤ B := by
  intro m
  induction m with
  | zero => intro l r c h; exact h
  | succ m ih =>
    intro l r c h
    unfold passN
    split
    · exact ih h
    · refine ih (fun x => ?_)
      unfold uN
      split
      · exact hs
      · exact h x
theorem pn_bar {b : Int32} {st : Nat} : ∀ {m l : Nat} {r : Nat → Nat} {c : Nat}, (∀ x, nI x = b → r x = 0) → ∀ x, nI x = b → (passN G b st l m r c).1 x = 0 := by
  intro m
  induction m with
  | zero => intro l r c h; exact h
  | succ m ih =>
    intro l r c h
    unfold passN
    by_cases k : nI l = b ∨ r l ≠ 0 ∨ hp G r st l = false
    · rw [if_pos k]; exact ih h
    · rw [if_neg k]
      refine ih (fun x hx => ?_)
      unfold uN
      split
      · rename_i e
        exact absurd (Or.inl (by rw [← e]; exact hx)) k
      · exact h x hx
theorem run_more {b : Int32} : ∀ {f st : Nat} {r : Nat → Nat} {c : Nat}, st ≠ 0 → G 14 0 ≤ c + f → nz (G 14 0) r = c → runN G b f st r c = runN G b (f + 1) st r c := by
  intro f
  induction f with
  | zero =>
    intro st r c hs hn hc
    have h1 := pn_nz (G := G) (b := b) (st := st) (n := G 14 0) hs (m := G 14 0) (l := 0) (r := r) (c := c) (by omega)
    have h2 := nz_le (n := G 14 0) (r := (passN G b st 0 (G 14 0) r c).1)
    have h3 := pn_ge (G := G) (b := b) (st := st) (m := G 14 0) (l := 0) (r := r) (c := c)
    have h4 : (passN G b st 0 (G 14 0) r c).2 = c := by omega
    unfold runN
    rw [if_pos h4]
    exact (Prod.ext (pn_same h4) h4).symm
  | succ f ih =>
    intro st r c hs hn hc
    have h1 := pn_nz (G := G) (b := b) (st := st) (n := G 14 0) hs (m := G 14 0) (l := 0) (r := r) (c := c) (by omega)
    have h3 := pn_ge (G := G) (b := b) (st := st) (m := G 14 0) (l := 0) (r := r) (c := c)
    rw [runN, runN]
    by_cases h4 : (passN G b st 0 (G 14 0) r c).2 = c
    · rw [if_pos h4, if_pos h4]
    · rw [if_neg h4, if_neg h4]
      exact ih (by omega) (by omega) (by omega)
theorem run_le {b : Int32} {B : Nat} : ∀ {f st : Nat} {r : Nat → Nat} {c : Nat}, st + f ≤ B + 1 → (∀ x, r x ≤ B) → ∀ x, (runN G b f st r c).1 x ≤ B := by
  intro f
  induction f with
  | zero => intro st r c h1 h2; exact h2
  | succ f ih =>
    intro st r c h1 h2
    have h3 := pn_le (G := G) (b := b) (st := st) (B := B) (by omega) (m := G 14 0) (l := 0) (r := r) (c := c) h2
    unfold runN
    split
    · exact h3
    · exact ih (by omega) h3
theorem run_nz {b : Int32} : ∀ {f st : Nat} {r : Nat → Nat} {c : Nat}, st ≠ 0 → nz (G 14 0) r = c → nz (G 14 0) (runN G b f st r c).1 = (runN G b f st r c).2 := by
  intro f
  induction f with
  | zero => intro st r c _ h; exact h
  | succ f ih =>
    intro st r c hs hc
    have h1 := pn_nz (G := G) (b := b) (st := st) (n := G 14 0) hs (m := G 14 0) (l := 0) (r := r) (c := c) (by omega)
    unfold runN
    split
    · omega
    · exact ih (by omega) (by omega)
theorem stg_le {b : Int32} (x : Nat) : stg G b x ≤ G 14 0 := run_le (by omega) (fun _ => Nat.zero_le _) x
theorem nz_0 {n : Nat} : nz n (fun _ => 0) = 0 := by
  have := sumR_bd (f := fun l => if (fun _ => 0 : Nat → Nat) l = 0 then 0 else 1) (b := 0) (m := n) (i := 0) (fun k _ _ => by simp)
  unfold nz
  omega
theorem cnt_le {b : Int32} : cnt G b ≤ G 14 0 := by
  have := run_nz (G := G) (b := b) (f := G 14 0) (st := 1) (r := fun _ => 0) (c := 0) (by omega) nz_0
  unfold cnt
  rw [← this]
  exact nz_le
-- states that differ in one row
def Ro (S S' : XS) (k : Nat) : Prop := ∀ j, j ≠ k → S' j = S j
theorem Ro.cp {S S' : XS} {k : Nat} (h : Ro S S' k) (hk : 8 ≤ k ∧ k ≠ 14) (C : Cp S G) : Cp S' G := by
  have e : ∀ j, j < 8 ∨ j = 14 → S' j = S j := fun j hj => h j (by omega)
  unfold Cp
  rw [e 14 (by omega), e 1 (by omega), e 2 (by omega), e 3 (by omega), e 4 (by omega), e 5 (by omega), e 6 (by omega), e 7 (by omega)]
  exact C
theorem Ro.sU {S S' : XS} {k : Nat} {f : Nat → Int32} (h : Ro S S' k) : Ro S (sU S' k f) k := fun j hj => (sU_n hj).trans (h j hj)
theorem Rw_up {S : XS} {k n l v : Nat} {r : Nat → Nat} (R : Rw S k n r) : Rw (sU S k (upd (S k) l (nI v))) k n (uN r l v) := by
  intro x hx
  rw [sU_s]
  unfold upd uN
  split
  · rfl
  · exact R x hx
def PXp (G : GS) (S0 : XS) (kk st : Nat) (b c0 : Int32) (k : XS → Int32 → Int32 → Option (Int32 × XS)) (l m : Nat) (S : XS) (v3 : Int32) (res : Option (Int32 × XS)) : Prop := ∀ r c, Ro S0 S kk → Rw S kk (G 14 0) r → (∀ x, r x < 100) → v3 = nI c → ∃ S', Ro S0 S' kk ∧ Rw S' kk (G 14 0) (passN G b st l m r c).1 ∧ res = if nI (passN G b st l m r c).2 = c0 then some (nI (passN G b st l m r c).2, S') else k S' (nI (passN G b st l m r c).2) (nI (st + 1))
theorem X_pass {S0 : XS} (C0 : Cp S0 G) (W : WG G) {kk st : Nat} (hk : 8 ≤ kk ∧ kk ≠ 14) (hst : st < 100) {b c0 : Int32} {k : XS → Int32 → Int32 → Option (Int32 × XS)} : ∀ m l N S v3, 0 ≤ l → l + m = G 14 0 → m < N →
    PXp G S0 kk st b c0 k l m S v3 (itr3 (mX_prove_F25 kk k b (nI st) c0) N S v3 (nI l)) := by
  have w0 := W.1
  refine itr3_r (PXp G S0 kk st b c0 k) 0 (G 14 0) ?_ ?_
  · intro ih S v3 r c hR hW hr hv
    have C := hR.cp hk C0
    refine ⟨S, hR, hW, ?_⟩
    unfold mX_prove_F25
    rw [C.1, hv]
    simp (disch := omega) only [nlit, n_add, n_mul, ob_s, rb_s, tb_s, tb_x, st_s, gz_0, gz_1, gz_b, rdA_n, wrS_n, nI_cl, sU_s, sU_n, le_t, le_f, lt_t, lt_f, eq_t, eq_f, le_tR, le_tL, le_fR, le_fL, lt_tR, lt_tL, lt_fR, lt_fL, eq_tR, eq_tL, eq_fR, eq_fL, ↓m1, eq_m, eq_mR, eq_mm, eq_mmR, tt_i, ff_i]
    rfl
  · intro l m ih _ hl hih S v3 r c hR hW hr hv
    have C := hR.cp hk C0
    have hrl := hr l
    subst hv
    unfold mX_prove_F25 passN
    rw [C.1]
    simp (disch := omega) only [nlit, n_add, n_mul, ob_s, rb_s, tb_s, tb_x, st_s, gz_0, gz_1, gz_b, rdA_n, wrS_n, nI_cl, sU_s, sU_n, le_t, le_f, lt_t, lt_f, eq_t, eq_f, le_tR, le_tL, le_fR, le_fL, lt_tR, lt_tL, lt_fR, lt_fL, eq_tR, eq_tL, eq_fR, eq_fL, ↓m1, eq_m, eq_mR, eq_mm, eq_mmR, tt_i, ff_i, hW l (by omega)]
    by_cases q1 : nI l = b
    · rw [if_pos q1, if_pos (Or.inl q1)]
      exact hih _ _ r c hR hW hr rfl
    · rw [if_neg q1]
      simp (disch := omega) only [nlit, n_add, n_mul, ob_s, rb_s, tb_s, tb_x, st_s, gz_0, gz_1, gz_b, rdA_n, wrS_n, nI_cl, sU_s, sU_n, le_t, le_f, lt_t, lt_f, eq_t, eq_f, le_tR, le_tL, le_fR, le_fL, lt_tR, lt_tL, lt_fR, lt_fL, eq_tR, eq_tL, eq_fR, eq_fL, ↓m1, eq_m, eq_mR, eq_mm, eq_mmR, tt_i, ff_i, eq_i, eq_iR, eq_iL]
      by_cases q2 : r l = 0
      · rw [if_pos q2]
        rw [X_hasProofAt C W (l := l) (by omega) hW (fun x _ => hr x) hst]
        simp (disch := omega) only [nlit, n_add, n_mul, ob_s, rb_s, tb_s, tb_x, st_s, gz_0, gz_1, gz_b, rdA_n, wrS_n, nI_cl, sU_s, sU_n, le_t, le_f, lt_t, lt_f, eq_t, eq_f, le_tR, le_tL, le_fR, le_fL, lt_tR, lt_tL, lt_fR, lt_fL, eq_tR, eq_tL, eq_fR, eq_fL, ↓m1, eq_m, eq_mR, eq_mm, eq_mmR, tt_i, ff_i, bz_i, bz_iR]
        cases q3 : hp G r st l
        · rw [if_pos (show nI l = b ∨ r l ≠ 0 ∨ false = false from Or.inr (Or.inr rfl)), if_neg (show ¬ (false = true) from fun e => by cases e)]
          exact hih _ _ r c hR hW hr rfl
        · rw [if_neg (show ¬ (nI l = b ∨ r l ≠ 0 ∨ true = false) from fun e => by simp [q1, q2] at e), if_pos rfl]
          refine hih _ _ _ _ hR.sU (Rw_up hW) (fun x => ?_) rfl
          unfold uN
          split
          · exact hst
          · exact hr x
      · rw [if_neg q2, if_pos (Or.inr (Or.inl q2))]
        exact hih _ _ r c hR hW hr rfl
def PXr (G : GS) (S0 : XS) (kk : Nat) (b : Int32) (st m : Nat) (S : XS) (v3 : Int32) (res : Option (Int32 × XS)) : Prop := ∀ r c, Ro S0 S kk → Rw S kk (G 14 0) r → (∀ x, r x < 100) → v3 = nI c → nz (G 14 0) r = c → ∃ S', Ro S0 S' kk ∧ Rw S' kk (G 14 0) (runN G b m st r c).1 ∧ res = some (nI (runN G b m st r c).2, S')
theorem X_run {S0 : XS} (C0 : Cp S0 G) (W : WG G) {kk : Nat} (hk : 8 ≤ kk ∧ kk ≠ 14) {b : Int32} : ∀ m st N S v3, 1 ≤ st → st + m = G 14 0 + 1 → m < N →
    PXr G S0 kk b st m S v3 (itr3 (mX_prove_F10 kk b) N S v3 (nI st)) := by
  have w0 := W.1
  refine itr3_r (PXr G S0 kk b) 1 (G 14 0 + 1) ?_ ?_
  · intro ih S v3 r c hR hW hr hv hc
    have C := hR.cp hk C0
    refine ⟨S, hR, hW, ?_⟩
    unfold mX_prove_F10
    rw [C.1, hv]
    simp (disch := omega) only [nlit, n_add, n_mul, ob_s, rb_s, tb_s, tb_x, st_s, gz_0, gz_1, gz_b, rdA_n, wrS_n, nI_cl, sU_s, sU_n, le_t, le_f, lt_t, lt_f, eq_t, eq_f, le_tR, le_tL, le_fR, le_fL, lt_tR, lt_tL, lt_fR, lt_fL, eq_tR, eq_tL, eq_fR, eq_fL, ↓m1, eq_m, eq_mR, eq_mm, eq_mmR, tt_i, ff_i]
    rfl
  · intro st m ih hs0 hl hih S v3 r c hR hW hr hv hc
    have C := hR.cp hk C0
    subst hv
    unfold mX_prove_F10
    rw [C.1]
    simp (disch := omega) only [nlit, n_add, n_mul, ob_s, rb_s, tb_s, tb_x, st_s, gz_0, gz_1, gz_b, rdA_n, wrS_n, nI_cl, sU_s, sU_n, le_t, le_f, lt_t, lt_f, eq_t, eq_f, le_tR, le_tL, le_fR, le_fL, lt_tR, lt_tL, lt_fR, lt_fL, eq_tR, eq_tL, eq_fR, eq_fL, ↓m1, eq_m, eq_mR, eq_mm, eq_mmR, tt_i, ff_i]
    obtain ⟨S', hR', hW', e⟩ := X_pass C0 W hk (st := st) (by omega) (b := b) (c0 := nI c) (k := ih) (G 14 0) 0 FUEL S (nI c) (by omega) (by omega) (fuel_gt (by omega)) r c hR hW hr rfl
    rw [e]
    have h1 := pn_nz (G := G) (b := b) (st := st) (n := G 14 0) (by omega) (m := G 14 0) (l := 0) (r := r) (c := c) (by omega)
    have h2 := nz_le (n := G 14 0) (r := (passN G b st 0 (G 14 0) r c).1)
    have h3 := nz_le (n := G 14 0) (r := r)
    have h4 : ∀ x, (passN G b st 0 (G 14 0) r c).1 x < 100 := fun x => by
      have := pn_le (G := G) (b := b) (st := st) (B := 99) (by omega) (m := G 14 0) (l := 0) (r := r) (c := c) (fun x => by have := hr x; omega) x
      omega
    rw [eq_i (by omega) (by omega)]
    unfold runN
    by_cases q : (passN G b st 0 (G 14 0) r c).2 = c
    · rw [if_pos q, if_pos q]
      exact ⟨S', hR', hW', rfl⟩
    · rw [if_neg q, if_neg q]
      exact hih _ _ _ _ hR' hW' h4 rfl (by omega)
theorem X_prove {S : XS} (C : Cp S G) (W : WG G) {kk : Nat} (hk : 8 ≤ kk ∧ kk ≠ 14) {b : Int32} : ∃ S', Ro S S' kk ∧ Rw S' kk (G 14 0) (stg G b) ∧ mX_prove S kk b = some (nI (cnt G b), S') := by
  have w0 := W.1
  have hR : Ro S (sU S kk (ffill 12 0 (S kk))) kk := fun j hj => sU_n hj
  have hW : Rw (sU S kk (ffill 12 0 (S kk))) kk (G 14 0) (fun _ => 0) := fun l hl => by
    rw [sU_s]
    unfold ffill
    rw [if_pos (by omega)]
    rfl
  unfold mX_prove
  simp (disch := omega) only [nlit, n_add, n_mul, ob_s, rb_s, tb_s, tb_x, st_s, gz_0, gz_1, gz_b, rdA_n, wrS_n, nI_cl, sU_s, sU_n, le_t, le_f, lt_t, lt_f, eq_t, eq_f, le_tR, le_tL, le_fR, le_fL, lt_tR, lt_tL, lt_fR, lt_fL, eq_tR, eq_tL, eq_fR, eq_fL, ↓m1, eq_m, eq_mR, eq_mm, eq_mmR, tt_i, ff_i]
  exact X_run C W hk (b := b) (G 14 0) 1 FUEL _ _ (by omega) (by omega) (fuel_gt (by omega)) (fun _ => 0) 0 hR hW (fun _ => by omega) rfl nz_0
def PMp (G : GS) (S0 : XS) (st : Nat) (b v0 : Int32) (k : XS → Int32 → Int32 → Int32 → Option (Int32 × XS)) (l m : Nat) (S : XS) (v3 : Int32) (res : Option (Int32 × XS)) : Prop := ∀ r c, Ro S0 S 8 → Rw S 8 (G 14 0) r → (∀ x, r x < 100) → (∀ x, nI x = b → r x = 0) → v3 = nI c → ∃ S', Ro S0 S' 8 ∧ Rw S' 8 (G 14 0) (passN G b st l m r c).1 ∧ res = k S' (nI (passN G b st l m r c).2) v0 (nI (st + 1))
end PROVE
