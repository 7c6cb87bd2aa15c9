section CIRC
variable {S : XS} {G : GS}
def ct (G : GS) (t i : Nat) : Bool := G 4 i == 1 && G 5 i == t
def ldp (G : GS) (t j : Nat) : Bool := anyR (ct G t) (5 * j) (G 3 j)
def ld (G : GS) (l t : Nat) : Bool := anyR (fun p => ldp G t (3 * l + p)) 0 (G 2 l)
def rk (G : GS) (l : Nat) : Nat → Nat → Bool
  | 0, t => ld G l t
  | k + 1, t => anyR (fun s => rk G l k s && ld G s t) 0 (G 14 0)
def lst (G : GS) (l t : Nat) : Nat → Nat
  | 0 => 0
  | v + 1 => if lst G l t v ≠ 0 then lst G l t v else if rk G l v t = true then v + 1 else 0
theorem lst_s {l t v : Nat} : lst G l t (v + 1) = if lst G l t v ≠ 0 then lst G l t v else if rk G l v t = true then v + 1 else 0 := rfl
theorem lst_stay {l t v : Nat} (h : lst G l t v ≠ 0) : ∀ {w : Nat}, v ≤ w → lst G l t w = lst G l t v := by
  intro w
  induction w with
  | zero => intro hw; rw [show v = 0 by omega]
  | succ w ih =>
    intro hw
    by_cases e : v = w + 1
    · rw [e]
    · have := ih (by omega)
      rw [lst_s, if_pos (by rw [this]; exact h), this]
theorem lst_le {l t : Nat} : ∀ {v : Nat}, lst G l t v ≤ v := by
  intro v
  induction v with
  | zero => exact Nat.le_refl _
  | succ v ih =>
    rw [lst_s]
    split
    · omega
    · split <;> omega
theorem lst_rk {l t k : Nat} : ∀ {v : Nat}, lst G l t v = k + 1 → rk G l k t = true := by
  intro v
  induction v with
  | zero => intro h; cases h
  | succ v ih =>
    intro h
    rw [lst_s] at h
    by_cases q : lst G l t v ≠ 0
    · rw [if_pos q] at h; exact ih h
    · rw [if_neg q] at h
      by_cases r : rk G l v t = true
      · rw [if_pos r] at h
        rw [show k = v by omega]; exact r
      · rw [if_neg r] at h; cases h
theorem rk_lst {l t k : Nat} (h : rk G l k t = true) : ∀ {v : Nat}, k < v → lst G l t v ≠ 0 := by
  intro v
  induction v with
  | zero => intro hk; omega
  | succ v ih =>
    intro hk
    rw [lst_s]
    by_cases q : lst G l t v ≠ 0
    · rw [if_pos q]; exact q
    · rw [if_neg q]
      by_cases e : k = v
      · rw [← e, if_pos h]; omega
      · exact absurd (ih (by omega)) q
theorem anyR_snoc {p : Nat → Bool} {s : Nat} : anyR p 0 (s + 1) = (anyR p 0 s || p s) := by
  rw [Bool.eq_iff_iff, Bool.or_eq_true, anyR_iff, anyR_iff]
  constructor
  · rintro ⟨k, h1, h2, h3⟩
    by_cases e : k = s
    · right; rw [← e]; exact h3
    · exact Or.inl ⟨k, h1, by omega, h3⟩
  · rintro (⟨k, h1, h2, h3⟩ | h)
    · exact ⟨k, h1, by omega, h3⟩
    · exact ⟨s, by omega, by omega, h⟩
theorem lst_next {l x v : Nat} (h : lst G l x v = 0) (hv : 1 ≤ v) : anyR (fun s => lst G l s v == v && ld G s x) 0 (G 14 0) = rk G l v x := by
  obtain ⟨w, rfl⟩ : ∃ w, v = w + 1 := ⟨v - 1, by omega⟩
  show _ = anyR (fun s => rk G l w s && ld G s x) 0 (G 14 0)
  rw [Bool.eq_iff_iff, anyR_iff, anyR_iff]
  constructor
  · rintro ⟨s, h1, h2, h3⟩
    rw [Bool.and_eq_true, beq_iff_eq] at h3
    refine ⟨s, h1, h2, ?_⟩
    rw [Bool.and_eq_true]
    exact ⟨lst_rk h3.1, h3.2⟩
  · rintro ⟨s, h1, h2, h3⟩
    rw [Bool.and_eq_true] at h3
    refine ⟨s, h1, h2, ?_⟩
    rw [Bool.and_eq_true, beq_iff_eq]
    refine ⟨?_, h3.2⟩
    refine Classical.byContradiction fun hne => ?_
    have h4 := rk_lst h3.1 (v := w + 1) (by omega)
    have h5 := lst_le (G := G) (l := l) (t := s) (v := w + 1)
    obtain ⟨k, hk⟩ : ∃ k, lst G l s (w + 1) = k + 1 := ⟨lst G l s (w + 1) - 1, by omega⟩
    have h6 := lst_rk hk
    have h7 : rk G l (k + 1) x = true := by
      show anyR (fun s => rk G l k s && ld G s x) 0 (G 14 0) = true
      rw [anyR_iff]
      exact ⟨s, h1, h2, by rw [Bool.and_eq_true]; exact ⟨h6, h3.2⟩⟩
    exact rk_lst h7 (v := w + 1) (by omega) h
-- masks
def bt (m : Int32) (t : Nat) : Bool := !(m &&& (1 <<< (nI t &&& 31)) == 0)
theorem i32_or_and (a b m : Int32) : (a ||| b) &&& m = (a &&& m) ||| (b &&& m) := by
  apply Int32.toBitVec_inj.mp
  show (a.toBitVec ||| b.toBitVec) &&& m.toBitVec = (a.toBitVec &&& m.toBitVec) ||| (b.toBitVec &&& m.toBitVec)
  ext i hi
  simp [Bool.and_or_distrib_right]
theorem i32_or_0 (a b : Int32) : a ||| b = 0 ↔ a = 0 ∧ b = 0 := by
  rw [← Int32.toBitVec_inj, ← Int32.toBitVec_inj, ← Int32.toBitVec_inj]
  show a.toBitVec ||| b.toBitVec = 0#32 ↔ a.toBitVec = 0#32 ∧ b.toBitVec = 0#32
  exact BitVec.or_eq_zero_iff
theorem bt_or {a b : Int32} {t : Nat} : bt (a ||| b) t = (bt a t || bt b t) := by
  unfold bt
  rw [i32_or_and]
  rw [Bool.eq_iff_iff]
  simp only [Bool.not_eq_true', beq_eq_false_iff_ne, Bool.or_eq_true, ne_eq, i32_or_0]
  exact Classical.not_and_iff_not_or_not
theorem bt_0 {t : Nat} : bt 0 t = false := by
  unfold bt
  rw [Int32.zero_and]
  rfl
theorem bt_sh : ∀ c : Fin 12, ∀ t : Fin 12, bt (1 <<< (nI c.1 &&& 31)) t.1 = (c.1 == t.1) := by decide +kernel
theorem bt_sn {c t : Nat} (hc : c < 12) (ht : t < 12) : bt (1 <<< (nI c &&& 31)) t = (c == t) := bt_sh ⟨c, hc⟩ ⟨t, ht⟩
theorem X_isIn {m : Int32} {t : Nat} : mX_isIn (nI t) m = some (nI (bt m t).toNat) := by
  unfold mX_isIn bt
  by_cases h : m &&& (1 <<< (nI t &&& 31)) = 0
  · rw [if_pos h, h]; rfl
  · rw [if_neg h, beq_eq_false_iff_ne.mpr h]; rfl
end CIRC
