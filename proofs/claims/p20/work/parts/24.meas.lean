section MEAS
variable {S : XS} {G : GS}
def ml (G : GS) (k : Nat) (r : Nat → Nat) (l : Nat) : Nat → Nat → Nat → Nat
  | _, 0, b => b
  | p, m + 1, b => ml G k r l (p + 1) m (min b (cs G k r (3 * l + p)))
theorem ml_le {k l : Nat} {r : Nat → Nat} : ∀ {m p b : Nat}, ml G k r l p m b ≤ b ∧ ∀ x, p ≤ x → x < p + m → ml G k r l p m b ≤ cs G k r (3 * l + x) := by
  intro m
  induction m with
  | zero => intro p b; exact ⟨Nat.le_refl _, fun x h1 h2 => by omega⟩
  | succ m ih =>
    intro p b
    have h := ih (p := p + 1) (b := min b (cs G k r (3 * l + p)))
    refine ⟨Nat.le_trans h.1 (Nat.min_le_left _ _), fun x h1 h2 => ?_⟩
    by_cases e : x = p
    · rw [e]; exact Nat.le_trans h.1 (Nat.min_le_right _ _)
    · exact h.2 x (by omega) (by omega)
theorem ml_ge {k l v : Nat} {r : Nat → Nat} : ∀ {m p b : Nat}, v ≤ b → (∀ x, p ≤ x → x < p + m → v ≤ cs G k r (3 * l + x)) → v ≤ ml G k r l p m b := by
  intro m
  induction m with
  | zero => intro p b h _; exact h
  | succ m ih =>
    intro p b h hx
    have := hx p (by omega) (by omega)
    exact ih (by omega) fun x h1 h2 => hx x (by omega) (by omega)
-- a pass of the reference's measuring
def Ro2 (S S' : XS) : Prop := ∀ j, j ≠ 9 → j ≠ 10 → S' j = S j
theorem Ro2.cp {S S' : XS} (h : Ro2 S S') (C : Cp S G) : Cp S' G := by
  have e : ∀ j, j < 8 ∨ j = 14 → S' j = S j := fun j hj => h j (by omega) (by omega)
  unfold Cp
  rw [e 14 (by omega), e 1 (by omega), e 2 (by omega), e 3 (by omega), e 4 (by omega), e 5 (by omega), e 6 (by omega), e 7 (by omega)]
  exact C
def MI (G : GS) (a0 b0 a b : Nat → Nat) (l f : Nat) : Prop := (∀ x, x < G 14 0 → FL G 0 x ≤ a x ∧ a x ≤ a0 x ∧ a0 x ≤ 9999 ∧ FL G 1 x ≤ b x ∧ b x ≤ b0 x ∧ b0 x ≤ 9999) ∧ f ≤ 1 ∧ (f = 0 → (∀ x, x < G 14 0 → a x = a0 x ∧ b x = b0 x) ∧ ∀ x, x < l → ∀ p, p < G 2 x → a0 x ≤ cs G 0 a0 (3 * x + p) ∧ b0 x ≤ cs G 1 b0 (3 * x + p)) ∧ (f = 1 → ∃ x, x < G 14 0 ∧ (a x < a0 x ∨ b x < b0 x))
theorem ml_FL (W : WG G) {k l : Nat} {r : Nat → Nat} (hl : l < G 14 0) (h : ∀ x, x < G 14 0 → FL G k x ≤ r x) : FL G k l ≤ ml G k r l 0 (G 2 l) (r l) := by
  have w0 := W.1
  have w2 := (W.2.2.1 l (by omega)).1
  exact ml_ge (h l hl) fun x _ hx => Nat.le_trans ((FL_pf W l hl).2 x (by omega)) (cs_mono W (by omega) h)
theorem uN_s {r : Nat → Nat} {l v : Nat} : uN r l v l = v := if_pos rfl
theorem uN_n {r : Nat → Nat} {l v x : Nat} (h : x ≠ l) : uN r l v x = r x := if_neg h
theorem MI_next (W : WG G) {a0 b0 a b : Nat → Nat} {l f : Nat} (h : MI G a0 b0 a b l f) (hl : l < G 14 0) (f' : Nat) (hf' : f' = if f = 1 ∨ ml G 0 a l 0 (G 2 l) (a l) < a l ∨ ml G 1 b l 0 (G 2 l) (b l) < b l then 1 else 0) : MI G a0 b0 (uN a l (ml G 0 a l 0 (G 2 l) (a l))) (uN b l (ml G 1 b l 0 (G 2 l) (b l))) (l + 1) f' := by
  obtain ⟨h1, h2, h3, h4⟩ := h
  have ha := ml_FL W (k := 0) hl fun x hx => (h1 x hx).1
  have hb := ml_FL W (k := 1) hl fun x hx => (h1 x hx).2.2.2.1
  have ma := ml_le (G := G) (k := 0) (l := l) (r := a) (m := G 2 l) (p := 0) (b := a l)
  have mb := ml_le (G := G) (k := 1) (l := l) (r := b) (m := G 2 l) (p := 0) (b := b l)
  have hll := h1 l hl
  refine ⟨fun x hx => ?_, ?_, fun e => ?_, fun e => ?_⟩
  · by_cases e : x = l
    · rw [e, uN_s, uN_s]; omega
    · rw [uN_n e, uN_n e]; exact h1 x hx
  · rw [hf']; split <;> omega
  · rw [e] at hf'
    by_cases q : f = 1 ∨ ml G 0 a l 0 (G 2 l) (a l) < a l ∨ ml G 1 b l 0 (G 2 l) (b l) < b l
    · rw [if_pos q] at hf'; cases hf'
    · have q0 : f = 0 := by
        have : ¬ f = 1 := fun e => q (Or.inl e)
        omega
      have qa : ¬ ml G 0 a l 0 (G 2 l) (a l) < a l := fun e => q (Or.inr (Or.inl e))
      have qb : ¬ ml G 1 b l 0 (G 2 l) (b l) < b l := fun e => q (Or.inr (Or.inr e))
      obtain ⟨g1, g2⟩ := h3 q0
      have ea : ∀ x, x < G 14 0 → a x = a0 x := fun x hx => (g1 x hx).1
      have eb : ∀ x, x < G 14 0 → b x = b0 x := fun x hx => (g1 x hx).2
      have w0 := W.1
      refine ⟨fun x hx => ?_, fun x hx p hp => ?_⟩
      · by_cases e : x = l
        · rw [e, uN_s, uN_s]
          have := g1 l hl
          omega
        · rw [uN_n e, uN_n e]; exact g1 x hx
      · by_cases e : x = l
        · rw [e] at hp ⊢
          have k1 := ma.2 p (by omega) (by omega)
          have k2 := mb.2 p (by omega) (by omega)
          have w2 := (W.2.2.1 l (by omega)).1
          have k3 := cs_mono W (k := 0) (j := 3 * l + p) (r := a) (r' := a0) (by omega) fun x hx => Nat.le_of_eq (ea x hx)
          have k4 := cs_mono W (k := 1) (j := 3 * l + p) (r := b) (r' := b0) (by omega) fun x hx => Nat.le_of_eq (eb x hx)
          have := g1 l hl
          omega
        · exact g2 x (by omega) p hp
  · by_cases q : f = 1
    · obtain ⟨x, hx, hlt⟩ := h4 q
      refine ⟨x, hx, ?_⟩
      by_cases e : x = l
      · rw [e] at hlt ⊢; rw [uN_s, uN_s]; omega
      · rw [uN_n e, uN_n e]; exact hlt
    · refine ⟨l, hl, ?_⟩
      rw [uN_s, uN_s]
      rw [e] at hf'
      by_cases q2 : f = 1 ∨ ml G 0 a l 0 (G 2 l) (a l) < a l ∨ ml G 1 b l 0 (G 2 l) (b l) < b l
      · omega
      · rw [if_neg q2] at hf'; cases hf'
theorem or01 {f : Nat} {c d : Prop} {i1 : Decidable c} {i2 : Decidable d} (hf : f ≤ 1) : (nI f ||| (@ite _ c i1 (nI 1) (nI 0))) ||| (@ite _ d i2 (nI 1) (nI 0)) = nI (if f = 1 ∨ c ∨ d then 1 else 0) := by
  rcases (show f = 0 ∨ f = 1 by omega) with rfl | rfl <;> by_cases hc : c <;> by_cases hd : d <;> simp [hc, hd] <;> rfl
def PMm (G : GS) (S0 : XS) (a0 b0 : Nat → Nat) (K : XS → Int32 → Option (Int32 × XS)) (l m : Nat) (S : XS) (v1 : Int32) (res : Option (Int32 × XS)) : Prop := ∀ a b f, Ro2 S0 S → Rw S 9 (G 14 0) a → Rw S 10 (G 14 0) b → MI G a0 b0 a b l f → v1 = nI f → ∃ S' a' b' f', Ro2 S0 S' ∧ Rw S' 9 (G 14 0) a' ∧ Rw S' 10 (G 14 0) b' ∧ MI G a0 b0 a' b' (G 14 0) f' ∧ res = K S' (nI f')
end MEAS
