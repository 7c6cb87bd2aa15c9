section ROWS2
variable {p : Program} {l : Launch} {e : Env} {R : Room} {s : State} {m : MethodId} {args : Array Value} {below : List Frame} {meth : Method} {c : Code} {H : Heap} {locs : List Loc} {cells slots : Nat} {Q : State → Prop}
variable {pc nL : Nat} {ls : Array Slot} {rest : List Value} {cc : ByteArray} {own : String} {D : va_G} {A : Nat → Prop} {H0 : Heap} {ρ : Type} {z : ρ} {cI cZ : ClassId} {a : Nat → Nat} {S : XS}
theorem k_mmin (C : CallFix p m c cc nL s args WW own) (hls : ls.size = nL) {idx : Nat} (hlink : (Cond.methodLink own idx Lib.Math.min.name).before args s = true) (hfr : 1 ≤ R.frames) (hlo : (rest.map fun v => v.category).sum + 13 ≤ R.locals) (hc : cells ≤ R.cells) (hs : slots ≤ R.slots) {x y : Int32} (hdg : decode cc pc = .ok (.invokestatic idx, 3)) (kk : W p l e R s m args below meth c H locs cells slots Q (F0 m (pc + 3) ls (.int (lmin x y) :: rest))) : W p l e R s m args below meth c H locs cells slots Q (F0 m pc ls (.int y :: .int x :: rest)) :=
  va_mmin C.1 C.2.1 (C.2.2.1.trans hls.symm) C.2.2.2.1 hlink (C.2.2.2.2 _ qT_mmin) (C.2.2.2.2 _ qN_J9) (C.2.2.2.2 _ qC_mmin) hfr hlo hc hs hdg kk
theorem k_mmax (C : CallFix p m c cc nL s args WW own) (hls : ls.size = nL) {idx : Nat} (hlink : (Cond.methodLink own idx Lib.Math.max.name).before args s = true) (hfr : 1 ≤ R.frames) (hlo : (rest.map fun v => v.category).sum + 13 ≤ R.locals) (hc : cells ≤ R.cells) (hs : slots ≤ R.slots) {x y : Int32} (hdg : decode cc pc = .ok (.invokestatic idx, 3)) (kk : W p l e R s m args below meth c H locs cells slots Q (F0 m (pc + 3) ls (.int (lmax x y) :: rest))) : W p l e R s m args below meth c H locs cells slots Q (F0 m pc ls (.int y :: .int x :: rest)) :=
  va_mmax C.1 C.2.1 (C.2.2.1.trans hls.symm) C.2.2.2.1 hlink (C.2.2.2.2 _ qT_mmax) (C.2.2.2.2 _ qN_J9) (C.2.2.2.2 _ qC_mmax) hfr hlo hc hs hdg kk
theorem k_ddiv (C : CallFix p m c cc nL s args WW own) {x y : UInt64} {K : UInt64 → Option ρ} (h : (dvD x y).bind K = some z) (hdg : decode cc pc = .ok (.ddiv, 1)) (kk : K (FP.ddiv x y) = some z → W p l e R s m args below meth c H locs cells slots Q (F0 m (pc + 1) ls (.double (FP.ddiv x y) :: rest))) : W p l e R s m args below meth c H locs cells slots Q (F0 m pc ls (.double y :: .double x :: rest)) := by
  unfold dvD at h
  by_cases q : (FP.ddiv x y) &&& 0x7fffffffffffffff ≤ 0x7ff0000000000000
  · rw [if_pos q] at h
    exact lv_ddiv C.1 C.2.1 hdg q (kk h)
  · rw [if_neg q] at h
    exact absurd h (by simp)
theorem ffill_0 (v : Int32) (f : Nat → Int32) : ffill 0 v f = f := by funext j; simp [ffill]
theorem ffill_s (i : Nat) (v : Int32) (f : Nat → Int32) : upd (ffill i v f) i v = ffill (i + 1) v f := by
  funext j
  simp only [upd, ffill]
  by_cases h1 : j = i
  · subst h1; simp
  · rw [if_neg h1]
    by_cases h2 : j < i
    · rw [if_pos h2, if_pos (by omega)]
    · rw [if_neg h2, if_neg (by omega)]
set_option maxHeartbeats 4000000 in
set_option maxRecDepth 100000 in
theorem tJ_fill {l : Launch} {D : va_G} {cI : ClassId} {q : Nat} {f : Nat → Int32} {v : Int32} {sz : Nat} : Met l yJ7_fill_53178 (Cond.code yJ7_fill_53178 cJ7_fill_53178 4 none :: WW) ({ frames := 0, cells := 0, slots := 0, locals := 0 }) (va_Pc [.ref q, .int v] (rwP D [(q, .inl (cI, 12, .inl f))] [(cI, .int)] sz)) (rwQv D [(q, .inl (cI, 12, .inl (ffill 12 v f)))] (va_A [(q, .inl (cI, 12, .inl f))] sz)) 0 0 (va_A [(q, .inl (cI, 12, .inl f))] sz) := by
  refine RW_of (own := RJ7) (Qc := fun A => rwQv D [(q, .inl (cI, 12, .inl (ffill 12 v f)))] A) (by decide) rfl (Nat.le_of_ble_eq_true rfl) ?_
  intro p e s m args below meth c A ha C hr hlk hP hK hD hA ls hl
  have hS : va_S A s.heap s.heap [] := va_S.rf
  have hl : lv_has ls 4 [(0, .ref q), (1, .int v)] := hl
  have L : ∀ (n i : Nat), i + n = 12 → ∀ (H : Heap) (locs : List Loc), va_P D vwCl [(q, .inl (cI, 12, .inl (ffill i v f)))] H → va_D A [(q, .inl (cI, 12, .inl (ffill i v f)))] → va_S A s.heap H locs → ∀ ls : Array Slot, lv_has ls 4 [(0, .ref q), (1, .int v), (2, .int (nI i)), (3, .int 12)] → W p l e ({ frames := 0, cells := 0, slots := 0, locals := 0 }) s m args below meth c H locs 0 0 (MQ below (rwQv D [(q, .inl (cI, 12, .inl (ffill 12 v f)))] A) args s 0 0 A) (F0 m 5 ls []) := by
    intro n
    induction n with
    | zero =>
      intro i hi H locs hP hD hS ls hl
      have hi : i = 12 := by omega
      subst hi
      refine lv_iload_n C.1 C.2.1 dJ7_fill_53178_5 rfl (lv_at hl 2 rfl) ?_
      refine lv_iload_n C.1 C.2.1 dJ7_fill_53178_6 rfl (lv_at hl 3 rfl) ?_
      refine lv_icmp_ge (tgt := 20) C.1 C.2.1 dJ7_fill_53178_7 (by decide) (fun _ => ?_) (fun c7 => absurd (by decide) c7)
      exact W.vret C.1 C.2.1 hr (fun t ht _ => ⟨⟨(), rfl, trivial, (show va_P D vwCl _ t.heap by rw [ht]; exact hP)⟩, hS.F ht⟩) hS.2.2 dJ7_fill_53178_20 hlk
    | succ n ih =>
      intro i hi H locs hP hD hS ls hl
      have hlt : i < 12 := by omega
      refine lv_iload_n C.1 C.2.1 dJ7_fill_53178_5 rfl (lv_at hl 2 rfl) ?_
      refine lv_iload_n C.1 C.2.1 dJ7_fill_53178_6 rfl (lv_at hl 3 rfl) ?_
      refine lv_icmp_ge (tgt := 20) C.1 C.2.1 dJ7_fill_53178_7 (by decide) (fun c7 => absurd c7 (nI_ge (a := i) (b := 12) hlt (by decide))) (fun _ => ?_)
      refine lv_aload_n C.1 C.2.1 dJ7_fill_53178_10 rfl (lv_at hl 0 rfl) ?_
      refine lv_iload_n C.1 C.2.1 dJ7_fill_53178_11 rfl (lv_at hl 2 rfl) ?_
      refine lv_iload_n C.1 C.2.1 dJ7_fill_53178_12 rfl (lv_at hl 1 rfl) ?_
      have hin : vp_in (nI i) 12 := vp_in_nI hlt (by decide)
      refine va_iast C.1 C.2.1 hK hP hD hS 0 0 rfl rfl hin dJ7_fill_53178_13 (fun H locs hP hD hS => ?_)
      rw [nI_clamp (by omega : i < 2 ^ 31), ffill_s] at hP hD
      refine lv_iinc (v := nI i + 1) (lv' := [(2, .int (nI i + 1)), (0, .ref q), (1, .int v), (3, .int 12)]) C.1 C.2.1 dJ7_fill_53178_14 hl (k := 2) rfl rfl (by decide) rfl (fun ls hl => ?_)
      refine lv_goto (tgt := 5) C.1 C.2.1 dJ7_fill_53178_17 (by decide) ?_
      rw [nI_1] at hl
      exact ih (i + 1) (by omega) _ _ hP hD hS ls (lv_sub hl [1, 2, 0, 3] rfl)
  refine lv_iconst (v := 0) C.1 C.2.1 dJ7_fill_53178_0 (by decide) ?_
  refine lv_istore_n (lv' := [(2, .int 0), (0, .ref q), (1, .int v)]) C.1 C.2.1 dJ7_fill_53178_1 rfl hl (by decide) rfl (fun ls hl => ?_)
  refine lv_aload_n C.1 C.2.1 dJ7_fill_53178_2 rfl (lv_at hl 1 rfl) ?_
  refine va_alen C.1 C.2.1 hK hP 0 0 rfl rfl (v := 12) rfl dJ7_fill_53178_3 ?_
  refine lv_istore_n (lv' := [(3, .int 12), (2, .int 0), (0, .ref q), (1, .int v)]) C.1 C.2.1 dJ7_fill_53178_4 rfl hl (by decide) rfl (fun ls hl => ?_)
  exact L 12 0 rfl _ _ (by rw [ffill_0]; exact hP) (by rw [ffill_0]; exact hD) hS ls (lv_sub hl [2, 3, 1, 0] rfl)
theorem va_P_fill {D : va_G} {cl : List vw_C} {ws : va_W} {H H1 : Heap} {A : Nat → Prop} {r q : Nat} {e0 e1 : va_E} (hP : va_P D cl ws H) (hD : va_D A ws) (hr : ws[r]? = some (q, e0)) (h1 : va_at D cl (q, e1) H1) (hk : ∀ x : Nat, x < H.size → ¬ va_A [(q, e0)] H.size x → H1[x]? = H[x]?) : va_P D cl (ws.set r (q, e1)) H1 := by
  intro k x hx
  rw [List.getElem?_set] at hx
  by_cases hkr : r = k
  · subst hkr
    have hlt : r < ws.length := (List.getElem?_eq_some_iff.mp hr).1
    rw [if_pos rfl, if_pos hlt] at hx
    cases hx
    exact h1
  · rw [if_neg hkr] at hx
    have hx0 := hP k x hx
    refine hx0.kept (hk x.1 hx0.lt (fun hA => ?_))
    rcases hA with ⟨j, e, hj⟩ | hj
    · match j, hj with
      | 0, hj =>
        have e2 : q = x.1 := congrArg Prod.fst (Option.some.inj hj)
        exact hkr (hD.1 r k _ _ hr hx e2)
      | j + 1, hj => simp at hj
    · exact absurd hx0.lt (Nat.not_lt.mpr hj)
theorem k_fillX0 (C : CallFix p m c cc nL s args WW own) (hK : va_K D vwCl (tyIZ cI cZ) s) (hP : va_P D vwCl (wX cI cZ a S) H) (hD : va_D A (wX cI cZ a S)) (hS : va_S A H0 H locs) (hA : ∀ q, H0.size ≤ q → A q) {r : Nat} (hr : 8 ≤ r ∧ r ≤ 13) {v : Int32} {K : XS → Option ρ} (h : stS (sU S r (ffill 12 v (S r))) K = some z) {idx : Nat}
    (cw : CallB R s args own idx yJ7_fill_53178 cJ7_fill_53178 4 none (Cond.code yJ7_fill_53178 cJ7_fill_53178 4 none :: WW) ({ frames := 0, cells := 0, slots := 0, locals := 0 }) 0 0 2 ∧ (Cond.static yJ7_fill_53178).before args s = true) (hls : ls.size = nL) (hst : (rest.map fun v => v.category).sum ≤ 8) (hf : cells + 0 ≤ R.cells ∧ slots + 0 ≤ R.slots) (hdg : decode cc pc = .ok (.invokestatic idx, 3))
    (kk : ∀ (S1 : XS) (H1 : Heap) (locs1 : List Loc), K S1 = some z → va_P D vwCl (wX cI cZ a S1) H1 → va_D A (wX cI cZ a S1) → va_S A H0 H1 locs1 → W p l e R s m args below meth c H1 locs1 cells slots Q (F0 m (pc + 3) ls rest)) : W p l e R s m args below meth c H locs cells slots Q (F0 m pc ls (.int v :: .ref (a r) :: rest)) := by
  have hrow := wX_row (cI := cI) (cZ := cZ) (a := a) (S := S) hr
  have hPc : va_P D vwCl [(a r, .inl (cI, 12, .inl (S r)))] H := by
    intro k q hk
    match k, hk with
    | 0, hk => cases hk; exact hP r _ hrow
    | k + 1, hk => simp at hk
  have hDc : va_D A [(a r, .inl (cI, 12, .inl (S r)))] := by
    refine ⟨fun i j p q hp hq _ => ?_, fun k q hk => ?_⟩
    · match i, j, hp, hq with
      | 0, 0, _, _ => rfl
      | 0, j + 1, _, hq => simp at hq
      | i + 1, _, hp, _ => simp at hp
    · match k, hk with
      | 0, hk => cases hk; exact hD.2 r _ hrow
      | k + 1, hk => simp at hk
  have hKc : va_K D vwCl [(cI, .int)] s := hK.sub [0] rfl
  have hF := A_sub hDc hS hA
  refine va_callv (va_runS (As := [.ref (a r), .int v]) (rest := rest) C (tJ_fill (l := l) (D := D) (cI := cI) (q := a r) (f := S r) (v := v) (sz := H.size)) cw ⟨rwP_blind, fun U hU hW => ⟨rfl, by rw [hU], by rw [hU]; exact hPc, hKc.moved hW.alike, hDc.weaken (fun _ _ _ _ => trivial)⟩⟩ rfl rfl hls rfl (lv_room hst) hdg hf) hS (fun q _ h => hF q h) hF (fun u t H1 locs1 ht _ _ hB hz1 hk1 hS1 => ?_)
  have hB1 : va_P D vwCl [(a r, .inl (cI, 12, .inl (ffill 12 v (S r))))] H1 := ht ▸ hB
  have hP1 := va_P_fill hP hD hrow (hB1 0 _ rfl) hk1
  rw [wX_srow hr] at hP1
  exact kk _ H1 locs1 h hP1 (D_same hD (wX_ad _ _)) hS1
theorem cpI_h {σ ρ : Type} {z : ρ} {n : Nat} {sp dp len : Int32} {f : Nat → Int32} {u : (Nat → Int32) → σ} {K : σ → Option ρ} (h : cpI n sp dp len f u K = some z) : ¬ sp < 0 ∧ ¬ dp < 0 ∧ ¬ len < 0 ∧ sp.toNatClampNeg + len.toNatClampNeg ≤ n ∧ dp.toNatClampNeg + len.toNatClampNeg ≤ n ∧ K (u (va_cpy f f sp.toNatClampNeg dp.toNatClampNeg len.toNatClampNeg)) = some z := by
  unfold cpI at h
  by_cases c : sp < 0 ∨ dp < 0 ∨ len < 0 ∨ n < sp.toNatClampNeg + len.toNatClampNeg ∨ n < dp.toNatClampNeg + len.toNatClampNeg
  · rw [if_pos c] at h; cases h
  · rw [if_neg c] at h
    exact ⟨fun q => c (Or.inl q), fun q => c (Or.inr (Or.inl q)), fun q => c (Or.inr (Or.inr (Or.inl q))), Nat.not_lt.mp fun q => c (Or.inr (Or.inr (Or.inr (Or.inl q)))), Nat.not_lt.mp fun q => c (Or.inr (Or.inr (Or.inr (Or.inr q)))), h⟩
theorem cpZ_h {σ ρ : Type} {z : ρ} {n : Nat} {sp dp len : Int32} {f : Nat → Int32} {u : (Nat → Int32) → σ} {K : σ → Option ρ} (h : cpZ n sp dp len f u K = some z) : cpI n sp dp len f u K = some z := by
  unfold cpZ at h
  split at h
  · exact h
  · cases h
theorem cpZ_fit {σ ρ : Type} {z : ρ} {n : Nat} {sp dp len : Int32} {f : Nat → Int32} {u : (Nat → Int32) → σ} {K : σ → Option ρ} (h : cpZ n sp dp len f u K = some z) (i : Nat) (hi : i < len.toNatClampNeg) : fits .boolean (.int (f (sp.toNatClampNeg + i))) = true := by
  unfold cpZ at h
  split at h
  · rename_i hc
    exact List.all_eq_true.mp hc i (List.mem_range.mpr hi)
  · cases h
end ROWS2
