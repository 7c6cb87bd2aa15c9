section DIGEST
variable {S : XS} {G : GS}
def f31 (f : Nat → Int32) : Nat → Nat → Int64 → Int64
  | _, 0, v => v
  | i, m + 1, v => f31 f (i + 1) m (v * 31 + (f i).toInt64)
def fS (g : Nat → Int64 → Int64) : Nat → Nat → Int64 → Int64
  | _, 0, v => v
  | i, m + 1, v => fS g (i + 1) m (g i v)
def dgP (G : GS) (j : Nat) (v : Int64) : Int64 := fS (fun i => f31 (stv G i) 0 4) (5 * j) (G 3 j) (v * 31 + (nI (G 3 j)).toInt64)
noncomputable def dgL (G : GS) (l : Nat) (v : Int64) : Int64 := fS (fun p => dgP G (3 * l + p)) 0 (G 2 l) (f31 (tv G l) 0 7 v)
def tkn (G : GS) (a : Nat) : Int32 := if G 1 a = 0 then 0 else 1
noncomputable def dgA (G : GS) : Int64 := fS (dgL G) 0 (G 14 0) (f31 (tkn G) 0 5 (f31 (fun q => nI (cv G q)) 0 7 1847))
theorem X_dstep (C : Cp S G) (W : WG G) {j i : Nat} {v3 : Int32} {k : Int64 → Int32 → Option Int64} (hj : j < 36) (h1 : 5 * j ≤ i) (h2 : i < 5 * j + G 3 j) (v : Int64) : itr2 (mX_digestProof_F34 S k v3 (nI i)) FUEL v (nI 0) = k (f31 (stv G i) 0 4 v) (nI (i + 1)) := by
  refine itr2_r (F := mX_digestProof_F34 S k v3 (nI i)) (fun q m v res => res = k (f31 (stv G i) q m v) (nI (i + 1))) 0 4 ?_ ?_ 4 0 FUEL v (by omega) (by omega) (fuel_gt (by omega))
  · intro ih v
    unfold mX_digestProof_F34
    simp (disch := omega) only [nlit, n_add, n_mul, ob_s, rb_s, tb_s, tb_x, st_s, gz_0, gz_1, gz_b, rdA_n, wrS_n, nI_cl, sU_s, sU_n, le_t, le_f, lt_t, lt_f, eq_t, eq_f, le_tR, le_tL, le_fR, le_fL, lt_tR, lt_tL, lt_fR, lt_fL, eq_tR, eq_tL, eq_fR, eq_fL, ↓m1, eq_m, eq_mR, eq_mm, eq_mmR, tt_i, ff_i]
    rfl
  · intro q m ih _ hq hih v
    unfold mX_digestProof_F34
    simp (disch := omega) only [nlit, n_add, n_mul, ob_s, rb_s, tb_s, tb_x, st_s, gz_0, gz_1, gz_b, rdA_n, wrS_n, nI_cl, sU_s, sU_n, le_t, le_f, lt_t, lt_f, eq_t, eq_f, le_tR, le_tL, le_fR, le_fL, lt_tR, lt_tL, lt_fR, lt_fL, eq_tR, eq_tL, eq_fR, eq_fL, ↓m1, eq_m, eq_mR, eq_mm, eq_mmR, tt_i, ff_i, X_stepTells C W hj h1 h2 (q := q) (by omega)]
    rw [hih]
    rfl
theorem X_dproof (C : Cp S G) (W : WG G) {j : Nat} (hj : j < 36) (v : Int64) : mX_digestProof S v (nI j) = some (dgP G j v) := by
  have c3 := C.2.2.2.1
  have w3 := W.2.2.2.1 j hj
  unfold mX_digestProof dgP
  rw [rdA_n hj (by omega), ob_s, X_first, ob_s, c3 j hj]
  refine itr2_r (F := mX_digestProof_F21 S (nI j)) (fun i m v res => res = some (fS (fun i => f31 (stv G i) 0 4) i m v)) (5 * j) (5 * j + G 3 j) ?_ ?_ (G 3 j) (5 * j) FUEL (v * 31 + (nI (G 3 j)).toInt64) (by omega) (by omega) (fuel_gt (by omega))
  · intro ih v
    unfold mX_digestProof_F21
    rw [X_end C hj]
    simp (disch := omega) only [nlit, n_add, n_mul, ob_s, rb_s, tb_s, tb_x, st_s, gz_0, gz_1, gz_b, rdA_n, wrS_n, nI_cl, sU_s, sU_n, le_t, le_f, lt_t, lt_f, eq_t, eq_f, le_tR, le_tL, le_fR, le_fL, lt_tR, lt_tL, lt_fR, lt_fL, eq_tR, eq_tL, eq_fR, eq_fL, ↓m1, eq_m, eq_mR, eq_mm, eq_mmR, tt_i, ff_i]
    rfl
  · intro i m ih hi0 hi hih v
    unfold mX_digestProof_F21
    rw [X_end C hj]
    simp (disch := omega) only [nlit, n_add, n_mul, ob_s, rb_s, tb_s, tb_x, st_s, gz_0, gz_1, gz_b, rdA_n, wrS_n, nI_cl, sU_s, sU_n, le_t, le_f, lt_t, lt_f, eq_t, eq_f, le_tR, le_tL, le_fR, le_fL, lt_tR, lt_tL, lt_fR, lt_fL, eq_tR, eq_tL, eq_fR, eq_fL, ↓m1, eq_m, eq_mR, eq_mm, eq_mmR, tt_i, ff_i]
    rw [X_dstep C W hj hi0 (by omega), hih]
    rfl
theorem X_dlemma (I : SI S G) (W : WG G) {l : Nat} (hl : l < G 14 0) (v : Int64) : mX_digestLemma S v (nI l) = some (dgL G l v) := by
  have C := I.1
  have w0 := W.1
  have c2 := C.2.2.1
  have w2 := (W.2.2.1 l (by omega)).1
  unfold mX_digestLemma dgL
  rw [show (0 : Int32) = nI 0 from rfl]
  refine itr2_r (F := mX_digestLemma_F6 S (nI l)) (fun q m v res => res = some (fS (fun p => dgP G (3 * l + p)) 0 (G 2 l) (f31 (tv G l) q m v))) 0 7 ?_ ?_ 7 0 FUEL v (by omega) (by omega) (fuel_gt (by omega))
  · intro ih v
    unfold mX_digestLemma_F6
    simp (disch := omega) only [nlit, n_add, n_mul, ob_s, rb_s, tb_s, tb_x, st_s, gz_0, gz_1, gz_b, rdA_n, wrS_n, nI_cl, sU_s, sU_n, le_t, le_f, lt_t, lt_f, eq_t, eq_f, le_tR, le_tL, le_fR, le_fL, lt_tR, lt_tL, lt_fR, lt_fL, eq_tR, eq_tL, eq_fR, eq_fL, ↓m1, eq_m, eq_mR, eq_mm, eq_mmR, tt_i, ff_i]
    refine itr2_r (F := mX_digestLemma_F39 S (nI l)) (fun p m v res => res = some (fS (fun p => dgP G (3 * l + p)) p m v)) 0 (G 2 l) ?_ ?_ (G 2 l) 0 FUEL v (by omega) (by omega) (fuel_gt (by omega))
    · intro ih v
      unfold mX_digestLemma_F39
      simp (disch := omega) only [nlit, n_add, n_mul, ob_s, rb_s, tb_s, tb_x, st_s, gz_0, gz_1, gz_b, rdA_n, wrS_n, nI_cl, sU_s, sU_n, le_t, le_f, lt_t, lt_f, eq_t, eq_f, le_tR, le_tL, le_fR, le_fL, lt_tR, lt_tL, lt_fR, lt_fL, eq_tR, eq_tL, eq_fR, eq_fL, ↓m1, eq_m, eq_mR, eq_mm, eq_mmR, tt_i, ff_i, c2]
      rfl
    · intro p m ih _ hp hih v
      unfold mX_digestLemma_F39
      simp (disch := omega) only [nlit, n_add, n_mul, ob_s, rb_s, tb_s, tb_x, st_s, gz_0, gz_1, gz_b, rdA_n, wrS_n, nI_cl, sU_s, sU_n, le_t, le_f, lt_t, lt_f, eq_t, eq_f, le_tR, le_tL, le_fR, le_fL, lt_tR, lt_tL, lt_fR, lt_fL, eq_tR, eq_tL, eq_fR, eq_fL, ↓m1, eq_m, eq_mR, eq_mm, eq_mmR, tt_i, ff_i, c2, X_slotOf, X_dproof C W (j := 3 * l + p) (by omega)]
      rw [hih]
      rfl
  · intro q m ih _ hq hih v
    unfold mX_digestLemma_F6
    simp (disch := omega) only [nlit, n_add, n_mul, ob_s, rb_s, tb_s, tb_x, st_s, gz_0, gz_1, gz_b, rdA_n, wrS_n, nI_cl, sU_s, sU_n, le_t, le_f, lt_t, lt_f, eq_t, eq_f, le_tR, le_tL, le_fR, le_fL, lt_tR, lt_tL, lt_fR, lt_fL, eq_tR, eq_tL, eq_fR, eq_fL, ↓m1, eq_m, eq_mR, eq_mm, eq_mmR, tt_i, ff_i, X_tells I W (l := l) (q := q) hl (by omega)]
    rw [hih]
    rfl
theorem X_digest (I : SI S G) (W : WG G) : mX_digest S = some (dgA G) := by
  have C := I.1
  have w0 := W.1
  have c1 := C.2.1
  unfold mX_digest dgA
  rw [show (0 : Int32) = nI 0 from rfl]
  refine itr2_r (F := mX_digest_F6 S) (fun q m v res => res = some (fS (dgL G) 0 (G 14 0) (f31 (tkn G) 0 5 (f31 (fun q => nI (cv G q)) q m v)))) 0 7 ?_ ?_ 7 0 FUEL 1847 (by omega) (by omega) (fuel_gt (by omega))
  · intro ih v
    unfold mX_digest_F6
    simp (disch := omega) only [nlit, n_add, n_mul, ob_s, rb_s, tb_s, tb_x, st_s, gz_0, gz_1, gz_b, rdA_n, wrS_n, nI_cl, sU_s, sU_n, le_t, le_f, lt_t, lt_f, eq_t, eq_f, le_tR, le_tL, le_fR, le_fL, lt_tR, lt_tL, lt_fR, lt_fL, eq_tR, eq_tL, eq_fR, eq_fL, ↓m1, eq_m, eq_mR, eq_mm, eq_mmR, tt_i, ff_i]
    refine itr2_r (F := mX_digest_F33 S) (fun q m v res => res = some (fS (dgL G) 0 (G 14 0) (f31 (tkn G) q m v))) 0 5 ?_ ?_ 5 0 FUEL v (by omega) (by omega) (fuel_gt (by omega))
    · intro ih v
      unfold mX_digest_F33
      simp (disch := omega) only [nlit, n_add, n_mul, ob_s, rb_s, tb_s, tb_x, st_s, gz_0, gz_1, gz_b, rdA_n, wrS_n, nI_cl, sU_s, sU_n, le_t, le_f, lt_t, lt_f, eq_t, eq_f, le_tR, le_tL, le_fR, le_fL, lt_tR, lt_tL, lt_fR, lt_fL, eq_tR, eq_tL, eq_fR, eq_fL, ↓m1, eq_m, eq_mR, eq_mm, eq_mmR, tt_i, ff_i]
      refine itr2_r (F := mX_digest_F68 S) (fun l m v res => res = some (fS (dgL G) l m v)) 0 (G 14 0) ?_ ?_ (G 14 0) 0 FUEL v (by omega) (by omega) (fuel_gt (by omega))
      · intro ih v
        unfold mX_digest_F68
        rw [C.1]
        simp (disch := omega) only [nlit, n_add, n_mul, ob_s, rb_s, tb_s, tb_x, st_s, gz_0, gz_1, gz_b, rdA_n, wrS_n, nI_cl, sU_s, sU_n, le_t, le_f, lt_t, lt_f, eq_t, eq_f, le_tR, le_tL, le_fR, le_fL, lt_tR, lt_tL, lt_fR, lt_fL, eq_tR, eq_tL, eq_fR, eq_fL, ↓m1, eq_m, eq_mR, eq_mm, eq_mmR, tt_i, ff_i]
        rfl
      · intro l m ih _ hl hih v
        unfold mX_digest_F68
        rw [C.1]
        simp (disch := omega) only [nlit, n_add, n_mul, ob_s, rb_s, tb_s, tb_x, st_s, gz_0, gz_1, gz_b, rdA_n, wrS_n, nI_cl, sU_s, sU_n, le_t, le_f, lt_t, lt_f, eq_t, eq_f, le_tR, le_tL, le_fR, le_fL, lt_tR, lt_tL, lt_fR, lt_fL, eq_tR, eq_tL, eq_fR, eq_fL, ↓m1, eq_m, eq_mR, eq_mm, eq_mmR, tt_i, ff_i, X_dlemma I W (l := l) (by omega)]
        rw [hih]
        rfl
    · intro a m ih _ ha hih v
      have w1 := W.2.1 a (by omega)
      have e : some (fS (dgL G) 0 (G 14 0) (f31 (tkn G) a (m + 1) v)) = ih (v * 31 + (tkn G a).toInt64) (nI (a + 1)) := by rw [hih]; rfl
      rw [e]
      unfold mX_digest_F33 tkn
      simp (disch := omega) only [nlit, n_add, n_mul, ob_s, rb_s, tb_s, tb_x, st_s, gz_0, gz_1, gz_b, rdA_n, wrS_n, nI_cl, sU_s, sU_n, le_t, le_f, lt_t, lt_f, eq_t, eq_f, le_tR, le_tL, le_fR, le_fL, lt_tR, lt_tL, lt_fR, lt_fL, eq_tR, eq_tL, eq_fR, eq_fL, ↓m1, eq_m, eq_mR, eq_mm, eq_mmR, tt_i, ff_i, c1, eq_i, eq_iR, eq_iL]
      by_cases q : G 1 a = 0
      · rw [if_pos q, if_pos q]
      · rw [if_neg q, if_neg q]
  · intro q m ih _ hq hih v
    unfold mX_digest_F6
    simp (disch := omega) only [nlit, n_add, n_mul, ob_s, rb_s, tb_s, tb_x, st_s, gz_0, gz_1, gz_b, rdA_n, wrS_n, nI_cl, sU_s, sU_n, le_t, le_f, lt_t, lt_f, eq_t, eq_f, le_tR, le_tL, le_fR, le_fL, lt_tR, lt_tL, lt_fR, lt_fL, eq_tR, eq_tL, eq_fR, eq_fL, ↓m1, eq_m, eq_mR, eq_mm, eq_mmR, tt_i, ff_i, X_countOf I W (q := q) (by omega)]
    rw [hih]
    rfl
-- the reference
def PD1 (G : GS) (T0 : XS) (l : Nat) (K : XS → Int64 → Int32 → Option (Int64 × XS)) (q m : Nat) (T : XS) (v : Int64) (res : Option (Int64 × XS)) : Prop := Mo T0 T → ∃ T', Mo T0 T' ∧ res = K T' (fS (fun p => dgP G (3 * l + p)) 0 (G 2 l) (f31 (tv G l) q m v)) (nI (l + 1))
def PD2 (G : GS) (T0 : XS) (l m : Nat) (T : XS) (v : Int64) (res : Option (Int64 × XS)) : Prop := Mo T0 T → ∃ T', Mo T0 T' ∧ res = some (fS (dgL G) l m v, T')
def PD3 (G : GS) (T0 : XS) (q m : Nat) (T : XS) (v : Int64) (res : Option (Int64 × XS)) : Prop := Mo T0 T → ∃ T', Mo T0 T' ∧ res = some (fS (dgL G) 0 (G 14 0) (f31 (tkn G) 0 5 (f31 (fun q => nI (cv G q)) q m v)), T')
def Fl (T T' : XS) (k : Nat) : Prop := (∀ j, j < 8 ∨ j = 14 → T' j = T j) ∧ T' 15 0 = nI k
theorem Fl.cp {T T' : XS} {k : Nat} (h : Fl T T' k) (C : Cp T G) : Cp T' G := Kp.cp h.1 C
theorem Fl.mo {T T' T'' : XS} {k : Nat} (h : Fl T T' k) (h' : Mo T' T'') : Fl T T'' k := ⟨fun j hj => (h' j (by omega)).trans (h.1 j hj), by rw [h' 15 (by omega)]; exact h.2⟩
theorem Fl.set {T : XS} {k : Nat} : Fl T (sU T 15 (fun _ => nI k)) k := ⟨fun j hj => sU_n (by omega), by rw [sU_s]⟩
-- the mean
noncomputable def mnv (G : GS) : UInt64 := if G 14 0 = 0 then FP.dconst0 else FP.ddiv (FP.i2d (nI (sumR (stp G) 0 (G 14 0)))) (FP.i2d (nI (G 14 0)))
def dOk (a b : Nat) : Bool := decide (FP.ddiv (FP.i2d (nI a)) (FP.i2d (nI b)) &&& 0x7fffffffffffffff ≤ 0x7ff0000000000000)
theorem dOk_all : (List.range 181).all (fun a => (List.range 12).all fun b => dOk a (b + 1)) = true := by decide +kernel
theorem stp_le (W : WG G) {l : Nat} (hl : l < 12) : stp G l ≤ 15 := by
  have w2 := (W.2.2.1 l hl).1
  have := sumR_bd (f := fun p => G 3 (3 * l + p)) (b := 5) (m := G 2 l) (i := 0) (fun k _ hk => W.2.2.2.1 (3 * l + k) (by omega))
  unfold stp
  omega
theorem dv_ok (W : WG G) (h : G 14 0 ≠ 0) : dvD (FP.i2d (nI (sumR (stp G) 0 (G 14 0)))) (FP.i2d (nI (G 14 0))) = some (FP.ddiv (FP.i2d (nI (sumR (stp G) 0 (G 14 0)))) (FP.i2d (nI (G 14 0)))) := by
  have w0 := W.1
  have hs := sumR_bd (f := stp G) (b := 15) (m := G 14 0) (i := 0) (fun k _ hk => stp_le W (by omega))
  have h1 := List.all_eq_true.mp dOk_all (sumR (stp G) 0 (G 14 0)) (List.mem_range.mpr (by omega))
  have h2 := List.all_eq_true.mp h1 (G 14 0 - 1) (List.mem_range.mpr (by omega))
  rw [show G 14 0 - 1 + 1 = G 14 0 by omega] at h2
  unfold dvD
  exact if_pos (of_decide_eq_true h2)
theorem X_mean (I : SI S G) (W : WG G) : mX_mean S = some (mnv G) := by
  have C := I.1
  have w0 := W.1
  have a1 : mX_overLemmas S (nI 1) = some (nI (sumR (stp G) 0 (G 14 0))) := X_over C W fun l hl => X_tells I W (q := 1) hl (by omega)
  unfold mX_mean mnv
  rw [C.1]
  by_cases q : G 14 0 = 0
  · rw [if_pos q, if_pos (show nI (G 14 0) = (0 : Int32) by rw [q]; rfl)]
  · rw [if_neg q, if_neg (show ¬ nI (G 14 0) = (0 : Int32) from fun e => q ((nI_eq (b := 0) (by omega) (by omega)).mp e)), show (1 : Int32) = nI 1 from rfl, a1, ob_s, dv_ok W q, ob_s]
end DIGEST
