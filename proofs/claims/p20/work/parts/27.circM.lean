section CIRC
variable {S : XS} {G : GS}
-- the reference
def nb (a : Nat) (b : Bool) (v : Nat) : Nat := if a ≠ 0 then a else if b = true then v else 0
def qs (G : GS) (l v s x : Nat) : Bool := anyR (fun s => lst G l s v == v && ld G s x) 0 s
/-- the row while lemma s spreads, the first y done -/
def qr (G : GS) (l v s y x : Nat) : Nat := nb (lst G l x v) (if x < y then qs G l v s x || ld G s x else qs G l v s x) (v + 1)
def PC1 (G : GS) (S0 : XS) (l v s : Nat) (K : XS → Int32 → Option (Int32 × XS)) (y m : Nat) (S : XS) (res : Option (Int32 × XS)) : Prop := Ro S0 S 11 → Rw S 11 (G 14 0) (qr G l v s y) → ∃ S', Ro S0 S' 11 ∧ Rw S' 11 (G 14 0) (qr G l v s (G 14 0)) ∧ res = K S' (nI (s + 1))
theorem nb_le {a v : Nat} {b : Bool} (h : a ≤ v) : nb a b (v + 1) ≤ v + 1 := by
  unfold nb
  split
  · omega
  · split <;> omega
theorem qr_le {l v s y x : Nat} : qr G l v s y x ≤ v + 1 := nb_le lst_le
theorem qr_0 {l v s x : Nat} : qr G l v s 0 x = nb (lst G l x v) (qs G l v s x) (v + 1) := by
  unfold qr
  rw [if_neg (Nat.not_lt_zero _)]
theorem qr_in {l v s y x : Nat} (h : x < y) : qr G l v s y x = nb (lst G l x v) (qs G l v s x || ld G s x) (v + 1) := by
  unfold qr
  rw [if_pos h]
theorem qr_out {l v s y x : Nat} (h : ¬ x < y) : qr G l v s y x = nb (lst G l x v) (qs G l v s x) (v + 1) := by
  unfold qr
  rw [if_neg h]
def PC2 (G : GS) (S0 : XS) (l v : Nat) (K : XS → Int32 → Option (Int32 × XS)) (s m : Nat) (S : XS) (res : Option (Int32 × XS)) : Prop := Ro S0 S 11 → Rw S 11 (G 14 0) (qr G l v s 0) → ∃ S', Ro S0 S' 11 ∧ Rw S' 11 (G 14 0) (fun x => lst G l x (v + 1)) ∧ res = K S' (nI (v + 2))
def PC3 (G : GS) (S0 : XS) (l : Nat) (v m : Nat) (S : XS) (res : Option (Int32 × XS)) : Prop := Ro S0 S 11 → Rw S 11 (G 14 0) (fun x => lst G l x (v - 1)) → ∃ S', Ro S0 S' 11 ∧ res = some (nI (lst G l l (G 14 0)), S')
end CIRC
