section SSAMEC
variable {P : Nat → Nat → Nat} {G : GS} {Hb Hp : HS} {S : XS} {R2 R3 R4 R5 : Nat}
def cOk (a b : Nat) : Bool := (Op.cmpValue (FP.dcmp (FP.ddiv (FP.i2d (nI a)) (FP.i2d (nI b))) (FP.ddiv (FP.i2d (nI a)) (FP.i2d (nI b)))) .l : Int32) == 0
theorem cOk_all : (List.range 181).all (fun a => (List.range 12).all fun b => cOk a (b + 1)) = true := by decide +kernel
theorem cmp_00 : (Op.cmpValue (FP.dcmp FP.dconst0 FP.dconst0) .l : Int32) = 0 := by decide +kernel
theorem cmp_mn (W : WG G) (h : G 14 0 ≠ 0) : (Op.cmpValue (FP.dcmp (FP.ddiv (FP.i2d (nI (sumR (stp G) 0 (G 14 0)))) (FP.i2d (nI (G 14 0)))) (FP.ddiv (FP.i2d (nI (sumR (stp G) 0 (G 14 0)))) (FP.i2d (nI (G 14 0))))) .l : Int32) = 0 := by
  have w0 := W.1
  have hs := sumR_bd (f := stp G) (b := 15) (m := G 14 0) (i := 0) (fun k _ hk => stp_le W (by omega))
  have h1 := List.all_eq_true.mp cOk_all (sumR (stp G) 0 (G 14 0)) (List.mem_range.mpr (by omega))
  have h2 := List.all_eq_true.mp h1 (G 14 0 - 1) (List.mem_range.mpr (by omega))
  rw [show G 14 0 - 1 + 1 = G 14 0 by omega] at h2
  exact eq_of_beq h2
/-- one lemma -/
theorem S_lB (V0 : HV Hb P G) (W : WG G) (I : SI S G) (r2 : HR Hb R2 (G 14 0) (stg G mone)) (r3 : HR Hb R3 (G 14 0) (fun x => enc (FL G 0 x))) (r4 : HR Hb R4 (G 14 0) (fun x => enc (FL G 1 x))) {l m : Nat} (hl : l < G 14 0) (h5 : Hb.length ≤ R5) (X : HX Hb Hp) {t : Nat → Nat} (hT : HR Hp R5 7 t) (hI : TI G t l (m + 1)) {ih : HS → Int32 → Option (Int32 × (XS × HS))} : ∃ Hp1 t', HX Hb Hp1 ∧ HR Hp1 R5 7 t' ∧ TI G t' (l + 1) m ∧ mS_isSame_F112 S (P 0 0) R2 R3 R4 R5 ih Hp (nI l) = ih Hp1 (nI (l + 1)) := by
  have w0 := W.1
  have w2 := (W.2.2.1 l (by omega)).1
  have V := V0.x X
  have Xl := X.1
  obtain ⟨HpA, R, a1, a2, a3, a4, a5⟩ := mk_I (t := 0) (Hp := Hp) (rs := [P 0 0, R2, R3, R4, R5]) (n := 7) (by omega) (memc V.lt (memc (r2.x X).lt (memc (r3.x X).lt (memc (r4.x X).lt (memc hT.lt mem0)))))
  have h5R : R5 ≠ R := by have := hT.lt; omega
  have B0 : AI_ 0 HpA R 7 (fun _ => 0) := ⟨_, a2⟩
  obtain ⟨HpB, b1, b2, b3⟩ := B0.st (i := 0) (by omega) (by omega) (nI (G 2 l))
  have XB : HX Hp HpB := b3.x a4 (by omega)
  obtain ⟨HpC, c1, c2, c3⟩ := b2.st (i := 1) (by omega) (by omega) (nI 0)
  have XC : HX Hp HpC := c3.x XB (by omega)
  obtain ⟨HpD, d1, d2, d3⟩ := c2.st (i := 2) (by omega) (by omega) (nI (stg G mone l))
  have XD : HX Hp HpD := d3.x XC (by omega)
  obtain ⟨HpE, e1, e2, e3⟩ := d2.st (i := 3) (by omega) (by omega) (orN (FL G 0 l))
  have XE : HX Hp HpE := e3.x XD (by omega)
  obtain ⟨HpF, f1, f2, f3⟩ := e2.st (i := 4) (by omega) (by omega) (orN (FL G 1 l))
  have XF : HX Hp HpF := f3.x XE (by omega)
  obtain ⟨HpG, g1, g2, g3⟩ := f2.st (i := 5) (by omega) (by omega) (nI 0)
  have XG : HX Hp HpG := g3.x XF (by omega)
  have VG := V.x XG
  obtain ⟨HpH, h1, h2⟩ := S_circle VG W hl
  have XH : HX Hp HpH := XG.tr h1
  obtain ⟨HpI, i1, i2, i3⟩ := (g2.x h1).st (i := 6) (by omega) (by omega) (nI (lst G l l (G 14 0)))
  have XI : HX Hp HpI := i3.x XH (by omega)
  obtain ⟨HpJ, f', b', j1, j2, j3, j4, j5, j6, j7, j8⟩ := S_pL V0 W I r2 r3 r4 hl (R7 := R) (by omega) h5R (t := t) (K := ih) (G 2 l) 0 16 HpI (by omega) (by omega) (X.tr XI) (hT.x XI) _ 0 0 mone i2 (by rw [ud_n (by omega), ud_n (by omega), ud_n (by omega), ud_n (by omega), ud_n (by omega), upd_s]) (by rw [ud_n (by omega), upd_s]) (Or.inl ⟨rfl, fun q hq => by omega⟩)
  obtain ⟨HpK, t', k1, k2, k3, k4⟩ := S_lE V0 W I r2 (R3 := R3) (R4 := R4) hl h5 j1 j2 hI h5R j3 (fun q hq => by
    unfold tv
    rcases (show q = 0 ∨ q = 1 ∨ q = 2 ∨ q = 3 ∨ q = 4 ∨ q = 5 ∨ q = 6 by omega) with rfl | rfl | rfl | rfl | rfl | rfl | rfl
    · rw [if_pos rfl, j4 0 (by omega) (by omega), ud_n (by omega), ud_n (by omega), ud_n (by omega), ud_n (by omega), ud_n (by omega), ud_n (by omega), upd_s]
    · rw [if_neg (by omega), if_pos rfl, j5, Nat.zero_add]
      rfl
    · rw [if_neg (by omega), if_neg (by omega), if_pos rfl, j4 2 (by omega) (by omega), ud_n (by omega), ud_n (by omega), ud_n (by omega), ud_n (by omega), upd_s]
    · rw [if_neg (by omega), if_neg (by omega), if_neg (by omega), if_pos rfl, j4 3 (by omega) (by omega), ud_n (by omega), ud_n (by omega), ud_n (by omega), upd_s]
    · rw [if_neg (by omega), if_neg (by omega), if_neg (by omega), if_neg (by omega), if_pos rfl, j4 4 (by omega) (by omega), ud_n (by omega), ud_n (by omega), upd_s]
    · rw [if_neg (by omega), if_neg (by omega), if_neg (by omega), if_neg (by omega), if_neg (by omega), if_pos rfl, j6, Nat.zero_add]
      rfl
    · rw [if_neg (by omega), if_neg (by omega), if_neg (by omega), if_neg (by omega), if_neg (by omega), if_neg (by omega), j4 6 (by omega) (by omega), upd_s]) j7 (K := ih)
  refine ⟨HpK, t', k1, k2, k3, ?_⟩
  have J191 : mS_isSame_J191 ih S HpE (P 0 0) R2 R3 R4 R5 (nI l) (orN (FL G 1 l)) 4 R R = ih HpK (nI (l + 1)) := by
    unfold mS_isSame_J191
    rw [show (4 : Int32) = nI 4 from rfl, f1, show (5 : Int32) = nI 5 from rfl, show (0 : Int32) = nI 0 from rfl, g1, h2, hcb_s (memc VG.lt (memc (((r2.x X).x XG)).lt (memc (((r3.x X).x XG)).lt (memc (((r4.x X).x XG)).lt (memc (hT.x XG).lt (memc g2.lt mem0)))))) VG.os, show (6 : Int32) = nI 6 from rfl, i1]
    exact j8.trans k4
  have J168 : mS_isSame_J168 ih S HpD (P 0 0) R2 R3 R4 R5 (nI l) (orN (FL G 0 l)) 3 R R = ih HpK (nI (l + 1)) := by
    have q4 := ((r4.x X).x XE).ld hl (by omega)
    unfold mS_isSame_J168
    rw [show (3 : Int32) = nI 3 from rfl, e1, q4, ob_s, show (9998 : Int32) = nI 9998 from rfl]
    by_cases q : FL G 1 l < 9999
    · rw [show enc (FL G 1 l) = FL G 1 l from if_pos q, le_t (by omega) (by omega), ob_s]
      rw [show orN (FL G 1 l) = nI (FL G 1 l) from if_pos q] at J191
      exact J191
    · rw [show enc (FL G 1 l) = 100000 from if_neg q, le_f (by omega) (by omega)]
      rw [show orN (FL G 1 l) = -1 from if_neg q] at J191
      exact J191
  have q2 := ((r2.x X).x XC).ld hl (by omega)
  have q3 := ((r3.x X).x XD).ld hl (by omega)
  have VA := V.x a4
  unfold mS_isSame_F112
  rw [V.g1, ob_s, V.n, ob_s, le_f (by omega) (by omega), show (7 : Int32) = nI 7 from rfl, a1, VA.g1, ob_s, VA.l W hl, ob_s, VA.np hl, ob_s, show (0 : Int32) = nI 0 from rfl, b1, show (1 : Int32) = nI 1 from rfl, c1, q2, ob_s, show (2 : Int32) = nI 2 from rfl, d1, q3, ob_s, show (9998 : Int32) = nI 9998 from rfl]
  by_cases q : FL G 0 l < 9999
  · rw [show enc (FL G 0 l) = FL G 0 l from if_pos q, le_t (by omega) (by omega), ob_s]
    rw [show orN (FL G 0 l) = nI (FL G 0 l) from if_pos q] at J168
    exact J168
  · rw [show enc (FL G 0 l) = 100000 from if_neg q, le_f (by omega) (by omega)]
    rw [show orN (FL G 0 l) = -1 from if_neg q] at J168
    exact J168
/-- the counts and the mean at the end -/
theorem S_end (V : HV Hp P G) (W : WG G) (I : SI S G) {t : Nat → Nat} (hT : HR Hp R5 7 t) {l : Nat} (hI : TI G t l 0) : itr1 (mS_isSame_F599 S Hp (P 0 0) R5) 16 0 = some (1, (S, Hp)) := by
  have w0 := W.1
  obtain ⟨i0, i1, i2, i3, i4, i5, i6⟩ := hI
  rw [show (0 : Int32) = nI 0 from rfl]
  refine it1 (e := 7) (by omega) (fun ih => ?_) (fun q ih hq => ?_)
  · have c4 : cv G 4 = sumR (stp G) 0 (G 14 0) := by
      unfold cv
      rw [if_neg (by omega), if_neg (by omega), if_neg (by omega), if_neg (by omega), if_pos rfl]
    have t4 : t 4 = sumR (stp G) 0 (G 14 0) := by
      rw [← c4, ← i4]
      rfl
    unfold mS_isSame_F599
    rw [show (7 : Int32) = nI 7 from rfl, le_t (by omega) (by omega), X_mean I W, ob_s, V.g1, ob_s, V.n, ob_s]
    unfold mnv
    by_cases q : G 14 0 = 0
    · rw [if_pos (show nI (G 14 0) = (0 : Int32) by rw [q]; rfl), if_pos q, if_pos cmp_00]
      exact gz_1
    · rw [if_neg (show ¬ nI (G 14 0) = (0 : Int32) from fun e => q ((nI_eq (b := 0) (by omega) (by omega)).mp e)), if_neg q, show (4 : Int32) = nI 4 from rfl, hT.ld (by omega) (by omega), ob_s, ob_s, V.n, ob_s, t4, dv_ok W q, ob_s, if_pos (cmp_mn W q)]
      exact gz_1
  · unfold mS_isSame_F599
    have e : t q = cv G q := by
      rcases (show q = 0 ∨ q = 1 ∨ q = 2 ∨ q = 3 ∨ q = 4 ∨ q = 5 ∨ q = 6 by omega) with rfl | rfl | rfl | rfl | rfl | rfl | rfl
      · exact i0
      · exact i1
      · exact i2
      · exact i3
      · exact i4
      · exact i5
      · exact i6
    rw [show (7 : Int32) = nI 7 from rfl, le_f hq (by omega), x_count I W hq, xbR_s, hT.ld hq (by omega), ob_s, e, if_pos rfl, n_add1]
theorem S_lL (V0 : HV Hb P G) (W : WG G) (I : SI S G) (r2 : HR Hb R2 (G 14 0) (stg G mone)) (r3 : HR Hb R3 (G 14 0) (fun x => enc (FL G 0 x))) (r4 : HR Hb R4 (G 14 0) (fun x => enc (FL G 1 x))) (h5 : Hb.length ≤ R5) : ∀ m l N Hp, l + m = G 14 0 → m < N → HX Hb Hp → ∀ t, HR Hp R5 7 t → TI G t l m → ∃ Hp1, HX Hb Hp1 ∧ itr2 (mS_isSame_F112 S (P 0 0) R2 R3 R4 R5) N Hp (nI l) = some (1, (S, Hp1)) := by
  have w0 := W.1
  intro m
  induction m with
  | zero =>
    intro l N Hp hm hN X t hT hI
    match N, hN with
    | N + 1, _ =>
      have V := V0.x X
      refine ⟨Hp, X, ?_⟩
      show mS_isSame_F112 _ _ _ _ _ _ _ _ _ = _
      unfold mS_isSame_F112
      rw [V.g1, ob_s, V.n, ob_s, le_t (by omega) (by omega)]
      exact S_end V W I hT hI
  | succ m ih =>
    intro l N Hp hm hN X t hT hI
    match N, hN with
    | N + 1, hN =>
      obtain ⟨HpA, t', a1, a2, a3, a4⟩ := S_lB V0 W I r2 r3 r4 (l := l) (by omega) h5 X hT hI (ih := itr2 (mS_isSame_F112 S (P 0 0) R2 R3 R4 R5) N)
      obtain ⟨Hp1, b0, b1⟩ := ih (l + 1) N HpA (by omega) (by omega) a1 t' a2 a3
      exact ⟨Hp1, b0, a4.trans b1⟩
theorem S_aL (V0 : HV Hb P G) (W : WG G) (h5 : Hb.length ≤ R5) : ∀ m a N Hp, a + m = 5 → m < N → HX Hb Hp → ∀ t, HR Hp R5 7 t → ∃ Hp1 t', HX Hb Hp1 ∧ HR Hp1 R5 7 t' ∧ (∀ q, q ≠ 2 → t' q = t q) ∧ t' 2 = t 2 + sumR (G 1) a m ∧ itr2 (mS_isSame_F72 S (P 0 0) R2 R3 R4 R5 (P 1 0) (nI 5)) N Hp (nI a) = itr2 (mS_isSame_F112 S (P 0 0) R2 R3 R4 R5) 16 Hp1 0 := by
  intro m
  induction m with
  | zero =>
    intro a N Hp hm hN X t hT
    match N, hN with
    | N + 1, _ =>
      refine ⟨Hp, t, X, hT, fun _ _ => rfl, rfl, ?_⟩
      show mS_isSame_F72 _ _ _ _ _ _ _ _ _ _ _ = _
      unfold mS_isSame_F72
      rw [le_t (by omega) (by omega)]
  | succ m ih =>
    intro a N Hp hm hN X t hT
    match N, hN with
    | N + 1, hN =>
      have V := V0.x X
      have w1 := W.2.1 a (by omega)
      obtain ⟨HpA, a1, a2, a3⟩ := hT.st (i := 2) (by omega) (by omega) (t 2 + G 1 a)
      obtain ⟨Hp1, t', b1, b2, b3, b4, b5⟩ := ih (a + 1) N HpA (by omega) (by omega) (a3.x X h5) _ a2
      refine ⟨Hp1, t', b1, b2, fun q hq => (b3 q hq).trans (uN_n hq), ?_, ?_⟩
      · rw [b4, uN_s, Nat.add_assoc]
        rfl
      · show mS_isSame_F72 S (P 0 0) R2 R3 R4 R5 (P 1 0) (nI 5) (itr2 (mS_isSame_F72 S (P 0 0) R2 R3 R4 R5 (P 1 0) (nI 5)) N) Hp (nI a) = _
        generalize hI : itr2 (mS_isSame_F72 S (P 0 0) R2 R3 R4 R5 (P 1 0) (nI 5)) N = J at b5 ⊢
        unfold mS_isSame_F72
        rw [le_f (by omega) (by omega), V.a (by omega), ob_s, show (2 : Int32) = nI 2 from rfl, hT.ld (by omega) (by omega), ob_s, show (0 : Int32) = nI 0 from rfl, show (1 : Int32) = nI 1 from rfl, n_add, n_add, n_add]
        rcases (show G 1 a = 0 ∨ G 1 a = 1 by omega) with q | q
        · rw [q] at a1
          rw [eq_t q, a1]
          exact b5
        · rw [q] at a1
          rw [eq_f (by omega) (by omega) (by omega), a1]
          exact b5
/-- the class answers as the law's lodge does -/
theorem S_same {Hp0 : HS} (V0 : HV Hp0 P G) (W : WG G) (I : SI S G) : ∃ Hp1, mS_isSame S Hp0 (P 0 0) = some (1, (S, Hp1)) := by
  have w0 := W.1
  obtain ⟨HpA, Q2, a1, a2, a3, a4⟩ := S_stages V0 W mone
  have VA := V0.x a1
  obtain ⟨HpB, Q3, b1, b2, b3, b4⟩ := S_measures VA W (k := 0) (by omega)
  have VB := VA.x b1
  obtain ⟨HpC, Q4, c1, c2, c3, c4⟩ := S_measures VB W (k := 1) (by omega)
  have VC := VB.x c1
  have r2 := (a3.x b1).x c1
  have r3 := b3.x c1
  obtain ⟨HpD, R, d1, d2, d3, d4⟩ := HR.nw (Hp := HpC) (rs := [Q4, Q3, Q2, P 0 0]) (n := 7) (by omega) (memc c3.lt (memc r3.lt (memc r2.lt (memc VC.lt mem0))))
  have h5 : HpC.length ≤ R := by omega
  have VD := VC.x d4
  obtain ⟨HpE, e1, e2, e3⟩ := d2.st (i := 0) (by omega) (by omega) (G 14 0)
  have XE := e3.x d4 h5
  obtain ⟨HpF, f1, f2, f3⟩ := e2.st (i := 1) (by omega) (by omega) 0
  have XF := f3.x XE h5
  obtain ⟨HpG, g1, g2, g3⟩ := f2.st (i := 2) (by omega) (by omega) 0
  have XG := g3.x XF h5
  obtain ⟨HpH, h1, h2, h3⟩ := g2.st (i := 3) (by omega) (by omega) 0
  have XH := h3.x XG h5
  obtain ⟨HpI, i1, i2, i3⟩ := h2.st (i := 4) (by omega) (by omega) 0
  have XI := i3.x XH h5
  obtain ⟨HpJ, j1, j2, j3⟩ := i2.st (i := 5) (by omega) (by omega) 0
  have XJ := j3.x XI h5
  obtain ⟨HpK, k1, k2, k3⟩ := j2.st (i := 6) (by omega) (by omega) 0
  have XK := k3.x XJ h5
  have VK := VC.x XK
  obtain ⟨HpL, t', l1, l2, l3, l4, l5⟩ := S_aL VC W h5 (S := S) (R2 := Q2) (R3 := Q3) (R4 := Q4) 5 0 16 HpK (by omega) (by omega) XK _ k2
  have z : ∀ q, 1 ≤ q → q < 7 → uN (uN (uN (uN (uN (uN (uN (fun _ => 0) 0 (G 14 0)) 1 0) 2 0) 3 0) 4 0) 5 0) 6 0 q = 0 := fun q q1 q7 => by
    unfold uN
    rw [if_neg (show ¬ q = 0 by omega)]
    repeat' split
    all_goals rfl
  have z0 : uN (uN (uN (uN (uN (uN (uN (fun _ => 0) 0 (G 14 0)) 1 0) 2 0) 3 0) 4 0) 5 0) 6 0 0 = G 14 0 := by
    rw [uN_n (by omega), uN_n (by omega), uN_n (by omega), uN_n (by omega), uN_n (by omega), uN_n (by omega), uN_s]
  have hI : TI G t' 0 (G 14 0) := by
    refine ⟨?_, ?_, ?_, ?_, ?_, ?_, ?_⟩
    · rw [l3 0 (by omega), z0]; rfl
    · rw [l3 1 (by omega), z 1 (by omega) (by omega), Nat.zero_add, show cv G 1 = cnt G mone from rfl, cnt_nz]; rfl
    · rw [l4, z 2 (by omega) (by omega), Nat.zero_add]; rfl
    · rw [l3 3 (by omega), z 3 (by omega) (by omega), Nat.zero_add]; rfl
    · rw [l3 4 (by omega), z 4 (by omega) (by omega), Nat.zero_add]; rfl
    · rw [l3 5 (by omega), z 5 (by omega) (by omega), Nat.zero_add]; rfl
    · rw [l3 6 (by omega), z 6 (by omega) (by omega), Nat.zero_add]; rfl
  obtain ⟨Hp1, m0, m1⟩ := S_lL VC W I r2 r3 c3 h5 (G 14 0) 0 16 HpL (by omega) (by omega) l1 t' l2 hI
  refine ⟨Hp1, ?_⟩
  unfold mS_isSame
  rw [show (-1 : Int32) = mone from rfl, a4, hcb_s (memc V0.lt mem0) V0.os, show mS_measures HpA (P 0 0) 0 = _ from b4, hcb_s (memc a3.lt (memc VA.lt mem0)) VA.os, show mS_measures HpB (P 0 0) 1 = _ from c4, hcb_s (memc b3.lt (memc (a3.x b1).lt (memc VB.lt mem0))) VB.os, show (7 : Int32) = nI 7 from rfl, d1, VD.g1, ob_s, VD.n, ob_s, show (0 : Int32) = nI 0 from rfl, e1, show (1 : Int32) = nI 1 from rfl, f1, show (2 : Int32) = nI 2 from rfl, g1, show (3 : Int32) = nI 3 from rfl, h1, show (4 : Int32) = nI 4 from rfl, i1, show (5 : Int32) = nI 5 from rfl, j1, show (6 : Int32) = nI 6 from rfl, k1, VK.g0, ob_s, VK.tl, ob_s, l5]
  exact m1
end SSAMEC
