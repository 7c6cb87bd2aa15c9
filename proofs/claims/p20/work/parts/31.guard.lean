section GUARD
variable {S T : XS} {G : GS}
theorem cls (v : Int32) : v < 0 ∨ ∃ j, j < 2147483648 ∧ v = nI j := by
  by_cases h : v < 0
  · exact Or.inl h
  · exact Or.inr (nI_of h)
theorem neg_if {ρ : Type} {v : Int32} {x y : ρ} (h : v < 0) : (if v < 0 then x else y) = x := if_pos h
theorem neg_lt {v : Int32} {a : Nat} (h : v < 0) (ha : a < 100) : v < nI a := by
  rw [Int32.lt_iff_toInt_lt] at h ⊢
  rw [nI_toInt (show a < 2 ^ 31 by omega)]
  have : (0 : Int32).toInt = 0 := by decide
  omega
theorem m1_lt {j : Nat} (hj : j < 2147483648) : nI 0 - nI 1 < nI j := by
  rw [Int32.lt_iff_toInt_lt, nI_toInt (show j < 2 ^ 31 by omega)]
  have : (nI 0 - nI 1).toInt = -1 := by decide
  omega
theorem X_reqA_in {a : Nat} (h : a < 5) : mX_requireAxiom (nI a) = some (.inl 0) := by
  unfold mX_requireAxiom
  rw [X_isAxiom h, ob_s]
  exact if_neg (by decide)
theorem X_reqL_in (C : Cp S G) (W : WG G) {l : Nat} (hl : l < G 14 0) : mX_requireLemma S (nI l) = some (.inl 0) := by
  unfold mX_requireLemma
  rw [X_isLemma C W hl, ob_s]
  exact if_neg (by decide)
theorem X_reqP_in (C : Cp S G) (W : WG G) {l p : Nat} (hl : l < G 14 0) (hp : p < G 2 l) : mX_requireProof S (nI l) (nI p) = some (.inl 0) := by
  have w0 := W.1
  have c2 := C.2.2.1
  have w2 := (W.2.2.1 l (by omega)).1
  unfold mX_requireProof
  rw [X_reqL_in C W hl, tb_s]
  simp (disch := omega) only [nlit, n_add, n_mul, ob_s, rb_s, tb_s, tb_x, st_s, gz_0, gz_1, gz_b, rdA_n, wrS_n, nI_cl, sU_s, sU_n, le_t, le_f, lt_t, lt_f, eq_t, eq_f, le_tR, le_tL, le_fR, le_fL, lt_tR, lt_tL, lt_fR, lt_fL, eq_tR, eq_tL, eq_fR, eq_fL, ↓m1, eq_m, eq_mR, eq_mm, eq_mmR, tt_i, ff_i, c2] <;> rfl
theorem X_reqS_in (C : Cp S G) (W : WG G) {l p k : Nat} (hl : l < G 14 0) (hp : p < G 2 l) (hk : k < G 3 (3 * l + p)) : mX_requireStep S (nI l) (nI p) (nI k) = some (.inl 0) := by
  have w0 := W.1
  have c3 := C.2.2.2.1
  have w2 := (W.2.2.1 l (by omega)).1
  have w3 := W.2.2.2.1 (3 * l + p) (by omega)
  unfold mX_requireStep
  rw [X_reqP_in C W hl hp, tb_s]
  simp (disch := omega) only [nlit, n_add, n_mul, ob_s, rb_s, tb_s, tb_x, st_s, gz_0, gz_1, gz_b, rdA_n, wrS_n, nI_cl, sU_s, sU_n, le_t, le_f, lt_t, lt_f, eq_t, eq_f, le_tR, le_tL, le_fR, le_fL, lt_tR, lt_tL, lt_fR, lt_fL, eq_tR, eq_tL, eq_fR, eq_fL, ↓m1, eq_m, eq_mR, eq_mm, eq_mmR, tt_i, ff_i, X_slotOf, c3] <;> rfl
theorem X_ask_in {j N : Nat} (h : j < N) (hN : N < 100) : mX_requireAsk (nI j) (nI N) = some (.inl 0) := by
  unfold mX_requireAsk
  simp (disch := omega) only [nlit, n_add, n_mul, ob_s, rb_s, tb_s, tb_x, st_s, gz_0, gz_1, gz_b, rdA_n, wrS_n, nI_cl, sU_s, sU_n, le_t, le_f, lt_t, lt_f, eq_t, eq_f, le_tR, le_tL, le_fR, le_fL, lt_tR, lt_tL, lt_fR, lt_fL, eq_tR, eq_tL, eq_fR, eq_fL, ↓m1, eq_m, eq_mR, eq_mm, eq_mmR, tt_i, ff_i] <;> rfl
def Z (T : XS) : Prop := ∀ i, i < 180 → T 7 i = 0 ∨ T 7 i = 1
theorem Fl.fz {T T' : XS} {k : Nat} (h : Fl T T' k) : T' 15 0 = nI k ∧ (Z T → Z T') := ⟨h.2, fun z i hi => by rw [h.1 7 (by omega)]; exact z i hi⟩
theorem Fl.tr {T T' T'' : XS} {k k' : Nat} (h : Fl T T' k) (h' : Fl T' T'' k') : Fl T T'' k' := ⟨fun j hj => (h'.1 j hj).trans (h.1 j hj), h'.2⟩
theorem Fl2 {T : XS} {k k' : Nat} : Fl T (sU (sU T 15 (fun _ => nI k)) 15 (fun _ => nI k')) k' := Fl.set.tr Fl.set
end GUARD
