section MUTS
variable {S T : XS} {G : GS}
theorem Z.set {i v : Nat} (hv : v ≤ 1) (z : Z S) : Z (sU S 7 (upd (S 7) i (nI v))) := fun x hx => by
  rw [sU_s]
  unfold upd
  by_cases e : x = i
  · rw [if_pos e]
    rcases (show v = 0 ∨ v = 1 by omega) with rfl | rfl
    · exact Or.inl rfl
    · exact Or.inr rfl
  · rw [if_neg e]; exact z x hx
theorem Z.oth {k : Nat} {f : Nat → Int32} (hk : k ≠ 7) (z : Z S) : Z (sU S k f) := fun x hx => by
  rw [sU_n (by omega)]; exact z x hx
/-- one side settles, the other is done -/
theorem one0 : ¬ nI 1 = nI 0 := by decide
theorem Cp_n {v : Nat} (C : Cp S G) : Cp (sU S 14 (fun _ => nI v)) (gs G 14 0 v) := by
  obtain ⟨c0, c1, c2, c3, c7⟩ := C
  unfold Cp
  rw [gs_s, sU_s]
  repeat rw [gs_n (by omega)]
  repeat rw [sU_n (by omega)]
  exact ⟨by rw [uN_s], c1, c2, c3, c7⟩
theorem WG_n (W : WG G) (hn : G 14 0 < 12) : WG (gs G 14 0 (G 14 0 + 1)) := by
  obtain ⟨w0, w1, w2, w3, w7⟩ := W
  unfold WG
  rw [gs_s, uN_s]
  repeat rw [gs_n (by omega)]
  refine ⟨by omega, w1, fun l hl => ⟨(w2 l hl).1, fun h => (w2 l hl).2 (by omega)⟩, w3, fun j x hj h1 h2 => ?_⟩
  obtain ⟨f4, f5, f5', f5'', f6, f6', f7⟩ := w7 j x hj h1 h2
  exact ⟨f4, f5, fun h => by have := f5' h; omega, f5'', f6, f6', f7⟩
theorem Cp_gs3 {j v : Nat} (C : Cp S G) (h : ∀ i, 5 * j ≤ i → i < 5 * j + v → S 4 i = nI (G 4 i) ∧ S 5 i = nI (G 5 i) ∧ S 6 i = nI (G 6 i) ∧ S 7 i = nI (G 7 i)) : Cp (sU S 3 (upd (S 3) j (nI v))) (gs G 3 j v) := by
  obtain ⟨c0, c1, c2, c3, c7⟩ := C
  refine ⟨c_gs c0, fun a ha => c_gs (c1 a ha), fun l hl => c_gs (c2 l hl), fun j' hj => c_gs (c3 j' hj), fun j' x hj h1 h2 => ?_⟩
  rw [gs_s] at h2
  have : S 4 x = nI (G 4 x) ∧ S 5 x = nI (G 5 x) ∧ S 6 x = nI (G 6 x) ∧ S 7 x = nI (G 7 x) := by
    unfold uN at h2
    by_cases e : j' = j
    · rw [if_pos e] at h2; exact h x (by omega) (by omega)
    · rw [if_neg e] at h2; exact c7 j' x hj h1 h2
  exact ⟨c_gs this.1, c_gs this.2.1, c_gs this.2.2.1, c_gs this.2.2.2⟩
def okE (G : GS) (i : Nat) : Prop := G 4 i ≤ 2 ∧ (G 4 i = 0 → G 5 i < 5) ∧ (G 4 i = 1 → G 5 i < G 14 0) ∧ G 5 i ≤ 12 ∧ G 6 i ≤ 9 ∧ (G 4 i ≠ 2 → G 6 i = 0) ∧ G 7 i ≤ 1
theorem WG_gs3 (W : WG G) {j v : Nat} (hv : v ≤ 5) (h : ∀ i, 5 * j ≤ i → i < 5 * j + v → okE G i) : WG (gs G 3 j v) := by
  obtain ⟨w0, w1, w2, w3, w7⟩ := W
  unfold WG
  rw [gs_s]
  repeat rw [gs_n (by omega)]
  refine ⟨w0, w1, w2, fun x hx => ?_, fun j' x hj h1 h2 => ?_⟩
  · unfold uN
    split
    · exact hv
    · exact w3 x hx
  · unfold uN at h2
    by_cases e : j' = j
    · rw [if_pos e] at h2; exact h x (by omega) (by omega)
    · rw [if_neg e] at h2; exact w7 j' x hj h1 h2
theorem WG_gs2 (W : WG G) {l v : Nat} (hl : l < G 14 0) (hv : v ≤ 3) : WG (gs G 2 l v) := by
  obtain ⟨w0, w1, w2, w3, w7⟩ := W
  unfold WG
  rw [gs_s]
  repeat rw [gs_n (by omega)]
  refine ⟨w0, w1, fun x hx => ?_, w3, w7⟩
  unfold uN
  by_cases e : x = l
  · rw [if_pos e]; exact ⟨hv, fun h => by omega⟩
  · rw [if_neg e]; exact w2 x hx
theorem lmaxR {a b : Nat} (ha : a < 100) (hb : b < 100) : lmax (nI a - nI b) (nI 0) = nI (a - b) := by
  unfold lmax
  by_cases h : b ≤ a
  · rw [pk_sub h, lt_f (by omega) (by omega)]
  · have : nI a - nI b < nI 0 := by
      rw [Int32.lt_iff_toInt_lt, pk_sub_toInt (by omega) (by omega), nI_toInt (by omega)]
      omega
    rw [if_pos this, show a - b = 0 by omega]
theorem lmaxL {a b : Nat} (ha : a < 100) (hb : b < 100) : lmax (nI 0) (nI a - nI b) = nI (a - b) := by
  unfold lmax
  by_cases h : b < a
  · rw [pk_sub (by omega), lt_t (by omega) (by omega)]
  · have : ¬ nI 0 < nI a - nI b := by
      rw [Int32.lt_iff_toInt_lt, pk_sub_toInt (by omega) (by omega), nI_toInt (by omega)]
      omega
    rw [if_neg this, show a - b = 0 by omega]
end MUTS
