section MIR
def FUEL : Nat := 300000
def lmax (x y : Int32) : Int32 := if x < y then y else x
def ffill (n : Nat) (v : Int32) (f : Nat → Int32) : Nat → Int32 := fun j => if j < n then v else f j
def dvD (x y : UInt64) : Option UInt64 := if (FP.ddiv x y) &&& 0x7fffffffffffffff ≤ 0x7ff0000000000000 then some (FP.ddiv x y) else none
def cpI {σ ρ : Type} (n : Nat) (sp dp len : Int32) (f : Nat → Int32) (u : (Nat → Int32) → σ) (K : σ → Option ρ) : Option ρ := if sp < 0 ∨ dp < 0 ∨ len < 0 ∨ n < sp.toNatClampNeg + len.toNatClampNeg ∨ n < dp.toNatClampNeg + len.toNatClampNeg then none else K (u (va_cpy f f sp.toNatClampNeg dp.toNatClampNeg len.toNatClampNeg))
def cpZ {σ ρ : Type} (n : Nat) (sp dp len : Int32) (f : Nat → Int32) (u : (Nat → Int32) → σ) (K : σ → Option ρ) : Option ρ := if ((List.range len.toNatClampNeg).all fun i => f (sp.toNatClampNeg + i) == 0 || f (sp.toNatClampNeg + i) == 1) = true then cpI n sp dp len f u K else none
def mX_isAxiom (v0 : Int32) : Option Int32 :=
  (if (v0 : Int32) < 0 then
  gz 0 (some 0)
  else
  (if (5 : Int32) ≤ v0 then
  gz 0 (some 0)
  else
  gz 1 (some 1)))
def mX_requireAxiom (v0 : Int32) : Option (Int32 ⊕ Nat) :=
  (mX_isAxiom v0).bind fun x1 =>
  (if (x1 : Int32) = 0 then
  some (.inr 1)
  else
  some (.inl 0))
def mX_slotOf (v0 : Int32) (v1 : Int32) : Option Int32 :=
  some ((v0 * 3) + v1)
def mX_firstStepOf (v0 : Int32) : Option Int32 :=
  some (v0 * 5)
def mX_endOfSteps (S : XS) (v1 : Int32) : Option Int32 :=
  (rdA (S 3) 36 v1).bind fun x8 =>
  some ((v1 * 5) + x8)
def mX_isWhole_F5 (S : XS) (v1 : Int32) (ih : Int32 → Option Int32) (v2 : Int32) : Option Int32 :=
  (mX_endOfSteps S v1).bind fun x8 =>
  (if (x8 : Int32) ≤ v2 then
  (rdA (S 3) 36 v1).bind fun x36 =>
  (if (x36 : Int32) ≤ 0 then
  gz 0 (some 0)
  else
  gz 1 (some 1))
  else
  (rdA (S 7) 180 v2).bind fun x19 =>
  (if (x19 : Int32) = 0 then
  ih (v2 + 1)
  else
  gz 0 (some 0)))
def mX_isWhole (S : XS) (v1 : Int32) : Option Int32 :=
  (mX_firstStepOf v1).bind fun x1 =>
  itr1 (mX_isWhole_F5 S v1) FUEL x1
def mX_isLemma (S : XS) (v1 : Int32) : Option Int32 :=
  (if (v1 : Int32) < 0 then
  gz 0 (some 0)
  else
  (if ((S 14 0) : Int32) ≤ v1 then
  gz 0 (some 0)
  else
  gz 1 (some 1)))
def mX_stepHolds (S : XS) (v1 : Int32) (r2 : Nat) (v3 : Int32) : Option Int32 :=
  (rdA (S 5) 180 v1).bind fun x5 =>
  (rdA (S 4) 180 v1).bind fun x13 =>
  (if (x13 : Int32) = 0 then
  (mX_isAxiom x5).bind fun x19 =>
  (if (x19 : Int32) = 0 then
  gz 0 (some 0)
  else
  (rdA (S 1) 5 x5).bind fun x31 =>
  (if (x31 : Int32) = 0 then
  gz 0 (some 0)
  else
  gz 1 (some 1)))
  else
  (rdA (S 4) 180 v1).bind fun x46 =>
  (if (x46 : Int32) = 1 then
  (mX_isLemma S x5).bind fun x54 =>
  (if (x54 : Int32) = 0 then
  gz 0 (some 0)
  else
  (rdA (S r2) 12 x5).bind fun x63 =>
  (if (x63 : Int32) ≤ 0 then
  gz 0 (some 0)
  else
  (rdA (S r2) 12 x5).bind fun x70 =>
  (if (v3 : Int32) ≤ x70 then
  gz 0 (some 0)
  else
  gz 1 (some 1))))
  else
  (rdA (S 6) 180 v1).bind fun x86 =>
  (if (x86 : Int32) = 0 then
  gz 1 (some 1)
  else
  gz 0 (some 0))))
def mX_holds_F16 (S : XS) (r2 : Nat) (v1 : Int32) (v3 : Int32) (ih : Int32 → Option Int32) (v4 : Int32) : Option Int32 :=
  (mX_endOfSteps S v1).bind fun x20 =>
  (if (x20 : Int32) ≤ v4 then
  gz 1 (some 1)
  else
  (mX_stepHolds S v4 r2 v3).bind fun x31 =>
  (if (x31 : Int32) = 0 then
  gz 0 (some 0)
  else
  ih (v4 + 1)))
def mX_holds (S : XS) (v1 : Int32) (r2 : Nat) (v3 : Int32) : Option Int32 :=
  (mX_isWhole S v1).bind fun x2 =>
  (if (x2 : Int32) = 0 then
  gz 0 (some 0)
  else
  (mX_firstStepOf v1).bind fun x11 =>
  itr1 (mX_holds_F16 S r2 v1 v3) FUEL x11)
def mX_hasProofAt_F3 (S : XS) (r2 : Nat) (v1 : Int32) (v3 : Int32) (ih : Int32 → Option Int32) (v4 : Int32) : Option Int32 :=
  (rdA (S 2) 12 v1).bind fun x10 =>
  (if (x10 : Int32) ≤ v4 then
  gz 0 (some 0)
  else
  (mX_slotOf v1 v4).bind fun x18 =>
  (mX_holds S x18 r2 v3).bind fun x23 =>
  (if (x23 : Int32) = 0 then
  ih (v4 + 1)
  else
  gz 1 (some 1)))
def mX_hasProofAt (S : XS) (v1 : Int32) (r2 : Nat) (v3 : Int32) : Option Int32 :=
  itr1 (mX_hasProofAt_F3 S r2 v1 v3) FUEL 0
def mX_prove_F25 (r1 : Nat) (k : XS → Int32 → Int32 → Option (Int32 × XS)) (v2 : Int32) (v4 : Int32) (v5 : Int32) (ih : XS → Int32 → Int32 → Option (Int32 × XS)) (S : XS) (v3 : Int32) (v6 : Int32) : Option (Int32 × XS) :=
  (if ((S 14 0) : Int32) ≤ v6 then
  (if (v3 : Int32) = v5 then
  some (v3, S)
  else
  k S v3 (v4 + 1))
  else
  (if (v6 : Int32) = v2 then
  ih S v3 (v6 + 1)
  else
  (rdA (S r1) 12 v6).bind fun x43 =>
  (if (x43 : Int32) = 0 then
  (mX_hasProofAt S v6 r1 v4).bind fun x53 =>
  (if (x53 : Int32) = 0 then
  ih S v3 (v6 + 1)
  else
  wrS 12 v6 (sU S r1 (upd (S r1) (v6 : Int32).toNatClampNeg v4)) fun S64 =>
  ih S64 (v3 + 1) (v6 + 1))
  else
  ih S v3 (v6 + 1))))
def mX_prove_F10 (r1 : Nat) (v2 : Int32) (ih : XS → Int32 → Int32 → Option (Int32 × XS)) (S : XS) (v3 : Int32) (v4 : Int32) : Option (Int32 × XS) :=
  (if ((S 14 0) : Int32) < v4 then
  some (v3, S)
  else
  itr3 (mX_prove_F25 r1 ih v2 v4 v3) FUEL S v3 0)
def mX_prove (S : XS) (r1 : Nat) (v2 : Int32) : Option (Int32 × XS) :=
  stS (sU S r1 (ffill 12 0 (S r1))) fun S2 =>
  itr3 (mX_prove_F10 r1 v2) FUEL S2 0 1
def mX_costOfStep (S : XS) (v1 : Int32) (r2 : Nat) (v3 : Int32) : Option Int32 :=
  (rdA (S 5) 180 v1).bind fun x5 =>
  (rdA (S 4) 180 v1).bind fun x13 =>
  (if (x13 : Int32) = 0 then
  (mX_isAxiom x5).bind fun x19 =>
  (if (x19 : Int32) = 0 then
  some 9999
  else
  (rdA (S 1) 5 x5).bind fun x31 =>
  (if (x31 : Int32) = 0 then
  some 9999
  else
  some 0))
  else
  (rdA (S 4) 180 v1).bind fun x48 =>
  (if (x48 : Int32) = 1 then
  (mX_isLemma S x5).bind fun x56 =>
  (if (x56 : Int32) = 0 then
  some 9999
  else
  (rdA (S r2) 12 x5).bind fun x65 =>
  some x65)
  else
  (if (v3 : Int32) = 0 then
  (rdA (S 6) 180 v1).bind fun x89 =>
  (if (x89 : Int32) = 0 then
  some 0
  else
  some 9999)
  else
  (rdA (S 6) 180 v1).bind fun x82 =>
  some x82)))
def mX_costOfProof_F34 (S : XS) (r2 : Nat) (v1 : Int32) (v3 : Int32) (ih : Int32 → Int32 → Option Int32) (v4 : Int32) (v5 : Int32) : Option Int32 :=
  (mX_endOfSteps S v1).bind fun x38 =>
  (if (x38 : Int32) ≤ v5 then
  some (lmin v4 9999)
  else
  (mX_costOfStep S v5 r2 v3).bind fun x51 =>
  ih (v4 + x51) (v5 + 1))
def mX_costOfProof (S : XS) (v1 : Int32) (r2 : Nat) (v3 : Int32) : Option Int32 :=
  (mX_isWhole S v1).bind fun x2 =>
  (if (x2 : Int32) = 0 then
  some 9999
  else
  (if (v3 : Int32) = 0 then
  (rdA (S 3) 36 v1).bind fun x25 =>
  (mX_firstStepOf v1).bind fun x29 =>
  itr2 (mX_costOfProof_F34 S r2 v1 v3) FUEL x25 x29
  else
  (mX_firstStepOf v1).bind fun x29 =>
  itr2 (mX_costOfProof_F34 S r2 v1 v3) FUEL 0 x29))
def mX_reckonRound_F17 (r1 : Nat) (k : XS → Int32 → Int32 → Option (Int32 × XS)) (v2 : Int32) (v4 : Int32) (ih : XS → Int32 → Int32 → Option (Int32 × XS)) (S : XS) (v3 : Int32) (v5 : Int32) : Option (Int32 × XS) :=
  (rdA (S 2) 12 v4).bind fun x25 =>
  (if (x25 : Int32) ≤ v5 then
  k S v3 (v4 + 1)
  else
  (mX_slotOf v4 v5).bind fun x34 =>
  (mX_costOfProof S x34 r1 v2).bind fun x39 =>
  (rdA (S r1) 12 v4).bind fun x49 =>
  (if (x49 : Int32) ≤ x39 then
  ih S v3 (v5 + 1)
  else
  wrS 12 v4 (sU S r1 (upd (S r1) (v4 : Int32).toNatClampNeg x39)) fun S58 =>
  ih S58 1 (v5 + 1)))
def mX_reckonRound_F5 (r1 : Nat) (v2 : Int32) (ih : XS → Int32 → Int32 → Option (Int32 × XS)) (S : XS) (v3 : Int32) (v4 : Int32) : Option (Int32 × XS) :=
  (if ((S 14 0) : Int32) ≤ v4 then
  gz v3 (some (v3, S))
  else
  itr3 (mX_reckonRound_F17 r1 ih v2 v4) FUEL S v3 0)
def mX_reckonRound (S : XS) (r1 : Nat) (v2 : Int32) : Option (Int32 × XS) :=
  itr3 (mX_reckonRound_F5 r1 v2) FUEL S 0 0
def mX_reckon_F9 (r1 : Nat) (v2 : Int32) (ih : XS → Int32 → Option (Int32 × XS)) (S : XS) (v3 : Int32) : Option (Int32 × XS) :=
  (if ((S 14 0) : Int32) ≤ v3 then
  some (0, S)
  else
  rb (mX_reckonRound S r1 v2) fun x20 S20 =>
  (if (x20 : Int32) = 0 then
  some (0, S20)
  else
  ih S20 (v3 + 1)))
def mX_reckon (S : XS) (r1 : Nat) (v2 : Int32) : Option (Int32 × XS) :=
  stS (sU S r1 (ffill 12 9999 (S r1))) fun S4 =>
  itr2 (mX_reckon_F9 r1 v2) FUEL S4 0
def mX_lemmasCitedBy_F28 (S : XS) (k : Int32 → Int32 → Option Int32) (v1 : Int32) (v3 : Int32) (v4 : Int32) (ih : Int32 → Int32 → Option Int32) (v2 : Int32) (v5 : Int32) : Option Int32 :=
  (mX_endOfSteps S v4).bind fun x33 =>
  (if (x33 : Int32) ≤ v5 then
  k v2 (v3 + 1)
  else
  (rdA (S 4) 180 v5).bind fun x45 =>
  (if (x45 : Int32) = 1 then
  (rdA (S 5) 180 v5).bind fun x58 =>
  ih (v2 ||| (1 <<< (x58 &&& 31))) (v5 + 1)
  else
  ih v2 (v5 + 1)))
def mX_lemmasCitedBy_F4 (S : XS) (v1 : Int32) (ih : Int32 → Int32 → Option Int32) (v2 : Int32) (v3 : Int32) : Option Int32 :=
  (rdA (S 2) 12 v1).bind fun x10 =>
  (if (x10 : Int32) ≤ v3 then
  some v2
  else
  (mX_slotOf v1 v3).bind fun x16 =>
  (mX_firstStepOf x16).bind fun x23 =>
  itr2 (mX_lemmasCitedBy_F28 S ih v1 v3 x16) FUEL v2 x23)
def mX_lemmasCitedBy (S : XS) (v1 : Int32) : Option Int32 :=
  itr2 (mX_lemmasCitedBy_F4 S v1) FUEL 0 0
def mX_isIn (v0 : Int32) (v1 : Int32) : Option Int32 :=
  (if ((v1 &&& (1 <<< (v0 &&& 31))) : Int32) = 0 then
  gz 0 (some 0)
  else
  gz 1 (some 1))
def mX_lemmasCitedByAll_F4 (S : XS) (v1 : Int32) (ih : Int32 → Int32 → Option Int32) (v2 : Int32) (v3 : Int32) : Option Int32 :=
  (if ((S 14 0) : Int32) ≤ v3 then
  some v2
  else
  (mX_isIn v3 v1).bind fun x14 =>
  (if (x14 : Int32) = 0 then
  ih v2 (v3 + 1)
  else
  (rdA (S 11) 12 v3).bind fun x26 =>
  ih (v2 ||| x26) (v3 + 1)))
def mX_lemmasCitedByAll (S : XS) (v1 : Int32) : Option Int32 :=
  itr2 (mX_lemmasCitedByAll_F4 S v1) FUEL 0 0
def mX_citesToItself_F9 (S : XS) (v1 : Int32) (ih : Int32 → Int32 → Option Int32) (v2 : Int32) (v3 : Int32) : Option Int32 :=
  (if ((S 14 0) : Int32) < v3 then
  some 0
  else
  (mX_isIn v1 v2).bind fun x19 =>
  (if (x19 : Int32) = 0 then
  (mX_lemmasCitedByAll S v2).bind fun x29 =>
  ih x29 (v3 + 1)
  else
  some v3))
def mX_citesToItself (S : XS) (v1 : Int32) : Option Int32 :=
  (rdA (S 11) 12 v1).bind fun x5 =>
  itr2 (mX_citesToItself_F9 S v1) FUEL x5 1
def mX_settle_F60 (ih : XS → Int32 → Option (Int32 × XS)) (S : XS) (v1 : Int32) : Option (Int32 × XS) :=
  (if ((S 14 0) : Int32) ≤ v1 then
  some (0, S)
  else
  (mX_citesToItself S v1).bind fun x75 =>
  wrS 12 v1 (sU S 12 (upd (S 12) (v1 : Int32).toNatClampNeg x75)) fun S78 =>
  ih S78 (v1 + 1))
def mX_settle_F33 (ih : XS → Int32 → Option (Int32 × XS)) (S : XS) (v1 : Int32) : Option (Int32 × XS) :=
  (if ((S 14 0) : Int32) ≤ v1 then
  itr2 (mX_settle_F60) FUEL S 0
  else
  (mX_lemmasCitedBy S v1).bind fun x48 =>
  wrS 12 v1 (sU S 11 (upd (S 11) (v1 : Int32).toNatClampNeg x48)) fun S51 =>
  ih S51 (v1 + 1))
def mX_settle (S : XS) : Option (Int32 × XS) :=
  rb (mX_prove S 8 (-1)) fun x7 S7 =>
  stS (sU S7 15 (fun _ => x7)) fun S10 =>
  rb (mX_reckon S10 9 0) fun x19 S19 =>
  rb (mX_reckon S19 10 1) fun x28 S28 =>
  itr2 (mX_settle_F33) FUEL S28 0
def mX_take (S : XS) (v1 : Int32) (v2 : Int32) : Option ((Int32 × XS) ⊕ Nat) :=
  tb (mX_requireAxiom v1) fun x1 =>
  (rdA (S 1) 5 v1).bind fun x9 =>
  wrS 5 v1 (sU S 1 (upd (S 1) (v1 : Int32).toNatClampNeg (v2 &&& 1))) fun S17 =>
  rb (mX_settle S17) fun x19 S19 =>
  gz x9 (some (.inl (x9, S19)))
def mX_requireLemma (S : XS) (v1 : Int32) : Option (Int32 ⊕ Nat) :=
  (mX_isLemma S v1).bind fun x2 =>
  (if (x2 : Int32) = 0 then
  some (.inr 1)
  else
  some (.inl 0))
def mX_requireProof (S : XS) (v1 : Int32) (v2 : Int32) : Option (Int32 ⊕ Nat) :=
  tb (mX_requireLemma S v1) fun x2 =>
  (if (v2 : Int32) < 0 then
  some (.inr 1)
  else
  (rdA (S 2) 12 v1).bind fun x15 =>
  (if (v2 : Int32) < x15 then
  some (.inl 0)
  else
  some (.inr 1)))
def mX_requireStep (S : XS) (v1 : Int32) (v2 : Int32) (v3 : Int32) : Option (Int32 ⊕ Nat) :=
  tb (mX_requireProof S v1 v2) fun x3 =>
  (if (v3 : Int32) < 0 then
  some (.inr 1)
  else
  (mX_slotOf v1 v2).bind fun x17 =>
  (rdA (S 3) 36 x17).bind fun x20 =>
  (if (v3 : Int32) < x20 then
  some (.inl 0)
  else
  some (.inr 1)))
def mX_stepAt (v0 : Int32) (v1 : Int32) (v2 : Int32) : Option Int32 :=
  (mX_slotOf v0 v1).bind fun x2 =>
  (mX_firstStepOf x2).bind fun x5 =>
  some (x5 + v2)
def mX_patch (S : XS) (v1 : Int32) (v2 : Int32) (v3 : Int32) (v4 : Int32) : Option ((Int32 × XS) ⊕ Nat) :=
  tb (mX_requireStep S v1 v2 v3) fun x4 =>
  (if (v4 : Int32) < 1 then
  some (.inr 3)
  else
  (if (v4 : Int32) ≤ 9 then
  (mX_stepAt v1 v2 v3).bind fun x33 =>
  (rdA (S 6) 180 x33).bind fun x44 =>
  (if (x44 : Int32) = 0 then
  some (.inr 2)
  else
  (rdA (S 6) 180 x33).bind fun x70 =>
  wrS 180 x33 (sU S 6 (upd (S 6) (x33 : Int32).toNatClampNeg (lmax (x70 - v4) 0))) fun S78 =>
  rb (mX_settle S78) fun x80 S80 =>
  (rdA (S80 6) 180 x33).bind fun x89 =>
  some (.inl (x89, S80)))
  else
  some (.inr 3)))
def mX_withdraw (S : XS) (v1 : Int32) (v2 : Int32) (v3 : Int32) : Option ((Int32 × XS) ⊕ Nat) :=
  tb (mX_requireStep S v1 v2 v3) fun x4 =>
  (mX_stepAt v1 v2 v3).bind fun x10 =>
  (rdA (S 7) 180 x10).bind fun x27 =>
  (if (x27 : Int32) = 0 then
  wrS 180 x10 (sU S 7 (upd (S 7) (x10 : Int32).toNatClampNeg (1 &&& 1))) fun S36 =>
  rb (mX_settle S36) fun x38 S38 =>
  (rdA (S38 7) 180 x10).bind fun x47 =>
  gz x47 (some (.inl (x47, S38)))
  else
  wrS 180 x10 (sU S 7 (upd (S 7) (x10 : Int32).toNatClampNeg (0 &&& 1))) fun S36 =>
  rb (mX_settle S36) fun x38 S38 =>
  (rdA (S38 7) 180 x10).bind fun x47 =>
  gz x47 (some (.inl (x47, S38))))
def mX_requireAsk (v0 : Int32) (v1 : Int32) : Option (Int32 ⊕ Nat) :=
  (if (v0 : Int32) < 0 then
  some (.inr 1)
  else
  (if (v0 : Int32) < v1 then
  some (.inl 0)
  else
  some (.inr 1)))
def mX_stepsOf_F4 (S : XS) (v1 : Int32) (ih : Int32 → Int32 → Option Int32) (v2 : Int32) (v3 : Int32) : Option Int32 :=
  (rdA (S 2) 12 v1).bind fun x10 =>
  (if (x10 : Int32) ≤ v3 then
  some v2
  else
  (mX_slotOf v1 v3).bind fun x21 =>
  (rdA (S 3) 36 x21).bind fun x24 =>
  ih (v2 + x24) (v3 + 1))
def mX_stepsOf (S : XS) (v1 : Int32) : Option Int32 :=
  itr2 (mX_stepsOf_F4 S v1) FUEL 0 0
def mX_orNone (v0 : Int32) : Option Int32 :=
  (if (v0 : Int32) < 9999 then
  some v0
  else
  some (-1))
def mX_openOf_F28 (S : XS) (k : Int32 → Int32 → Option Int32) (v1 : Int32) (v3 : Int32) (v4 : Int32) (ih : Int32 → Int32 → Option Int32) (v2 : Int32) (v5 : Int32) : Option Int32 :=
  (mX_endOfSteps S v4).bind fun x33 =>
  (if (x33 : Int32) ≤ v5 then
  k v2 (v3 + 1)
  else
  (rdA (S 6) 180 v5).bind fun x46 =>
  ih (v2 + x46) (v5 + 1))
def mX_openOf_F4 (S : XS) (v1 : Int32) (ih : Int32 → Int32 → Option Int32) (v2 : Int32) (v3 : Int32) : Option Int32 :=
  (rdA (S 2) 12 v1).bind fun x10 =>
  (if (x10 : Int32) ≤ v3 then
  some v2
  else
  (mX_slotOf v1 v3).bind fun x16 =>
  (mX_firstStepOf x16).bind fun x23 =>
  itr2 (mX_openOf_F28 S ih v1 v3 x16) FUEL v2 x23)
def mX_openOf (S : XS) (v1 : Int32) : Option Int32 :=
  itr2 (mX_openOf_F4 S v1) FUEL 0 0
def mX_lemmaTells (S : XS) (v1 : Int32) (v2 : Int32) : Option Int32 :=
  (if (v2 : Int32) = 0 then
  (rdA (S 2) 12 v1).bind fun x45 =>
  some x45
  else
  if (v2 : Int32) = 1 then
  (mX_stepsOf S v1).bind fun x49 =>
  some x49
  else
  if (v2 : Int32) = 2 then
  (rdA (S 8) 12 v1).bind fun x58 =>
  some x58
  else
  if (v2 : Int32) = 3 then
  (rdA (S 9) 12 v1).bind fun x65 =>
  (mX_orNone x65).bind fun x66 =>
  some x66
  else
  if (v2 : Int32) = 4 then
  (rdA (S 10) 12 v1).bind fun x75 =>
  (mX_orNone x75).bind fun x76 =>
  some x76
  else
  if (v2 : Int32) = 5 then
  (mX_openOf S v1).bind fun x82 =>
  some x82
  else
  (rdA (S 12) 12 v1).bind fun x91 =>
  some x91)
def mX_told (S : XS) (v1 : Int32) (v2 : Int32) : Option (Int32 ⊕ Nat) :=
  tb (mX_requireLemma S v1) fun x2 =>
  tb (mX_requireAsk v2 7) fun x8 =>
  (mX_lemmaTells S v1 v2).bind fun x14 =>
  some (.inl x14)
def mX_stepTells (S : XS) (v1 : Int32) (v2 : Int32) : Option Int32 :=
  (if (v2 : Int32) = 0 then
  (rdA (S 4) 180 v1).bind fun x33 =>
  some x33
  else
  if (v2 : Int32) = 1 then
  (rdA (S 5) 180 v1).bind fun x40 =>
  some x40
  else
  if (v2 : Int32) = 2 then
  (rdA (S 6) 180 v1).bind fun x47 =>
  some x47
  else
  (rdA (S 7) 180 v1).bind fun x54 =>
  (if (x54 : Int32) = 0 then
  some 0
  else
  some 1))
def mX_step (S : XS) (v1 : Int32) (v2 : Int32) (v3 : Int32) (v4 : Int32) : Option (Int32 ⊕ Nat) :=
  tb (mX_requireStep S v1 v2 v3) fun x4 =>
  tb (mX_requireAsk v4 4) fun x10 =>
  (mX_stepAt v1 v2 v3).bind fun x17 =>
  (mX_stepTells S x17 v4).bind fun x22 =>
  some (.inl x22)
def mX_about (S : XS) (v1 : Int32) (v2 : Int32) (v3 : Int32) : Option (Int32 ⊕ Nat) :=
  tb (mX_requireProof S v1 v2) fun x3 =>
  tb (mX_requireAsk v3 4) fun x8 =>
  (mX_slotOf v1 v2).bind fun x13 =>
  (if (v3 : Int32) = 0 then
  (rdA (S 3) 36 x13).bind fun x50 =>
  some (.inl x50)
  else
  if (v3 : Int32) = 1 then
  (mX_holds S x13 8 13).bind fun x61 =>
  (if (x61 : Int32) = 0 then
  some (.inl 0)
  else
  some (.inl 1))
  else
  if (v3 : Int32) = 2 then
  (mX_costOfProof S x13 9 0).bind fun x81 =>
  (mX_orNone x81).bind fun x84 =>
  some (.inl x84)
  else
  (mX_costOfProof S x13 10 1).bind fun x96 =>
  (mX_orNone x96).bind fun x99 =>
  some (.inl x99))
def mX_axiomsTaken_F4 (S : XS) (ih : Int32 → Int32 → Option Int32) (v1 : Int32) (v2 : Int32) : Option Int32 :=
  (if (5 : Int32) ≤ v2 then
  some v1
  else
  (rdA (S 1) 5 v2).bind fun x14 =>
  (if (x14 : Int32) = 0 then
  ih v1 (v2 + 1)
  else
  ih (v1 + 1) (v2 + 1)))
def mX_axiomsTaken (S : XS) : Option Int32 :=
  itr2 (mX_axiomsTaken_F4 S) FUEL 0 0
def mX_overLemmas_F4 (S : XS) (v1 : Int32) (ih : Int32 → Int32 → Option Int32) (v2 : Int32) (v3 : Int32) : Option Int32 :=
  (if ((S 14 0) : Int32) ≤ v3 then
  some v2
  else
  (mX_lemmaTells S v3 v1).bind fun x16 =>
  ih (v2 + x16) (v3 + 1))
def mX_overLemmas (S : XS) (v1 : Int32) : Option Int32 :=
  itr2 (mX_overLemmas_F4 S v1) FUEL 0 0
def mX_lemmasInCircles_F4 (S : XS) (ih : Int32 → Int32 → Option Int32) (v1 : Int32) (v2 : Int32) : Option Int32 :=
  (if ((S 14 0) : Int32) ≤ v2 then
  some v1
  else
  (rdA (S 12) 12 v2).bind fun x17 =>
  (if (x17 : Int32) ≤ 0 then
  ih v1 (v2 + 1)
  else
  ih (v1 + 1) (v2 + 1)))
def mX_lemmasInCircles (S : XS) : Option Int32 :=
  itr2 (mX_lemmasInCircles_F4 S) FUEL 0 0
def mX_countOf (S : XS) (v1 : Int32) : Option Int32 :=
  (if (v1 : Int32) = 0 then
  some (S 14 0)
  else
  if (v1 : Int32) = 1 then
  some (S 15 0)
  else
  if (v1 : Int32) = 2 then
  (mX_axiomsTaken S).bind fun x51 =>
  some x51
  else
  if (v1 : Int32) = 3 then
  (mX_overLemmas S 0).bind fun x57 =>
  some x57
  else
  if (v1 : Int32) = 4 then
  (mX_overLemmas S 1).bind fun x63 =>
  some x63
  else
  if (v1 : Int32) = 5 then
  (mX_overLemmas S 5).bind fun x69 =>
  some x69
  else
  (mX_lemmasInCircles S).bind fun x74 =>
  some x74)
def mX_count (S : XS) (v1 : Int32) : Option (Int32 ⊕ Nat) :=
  tb (mX_requireAsk v1 7) fun x3 =>
  (mX_countOf S v1).bind fun x8 =>
  some (.inl x8)
def mX_best_F14 (S : XS) (v1 : Int32) (ih : Int32 → Int32 → Int32 → Option (Int32 ⊕ Nat)) (v2 : Int32) (v3 : Int32) (v4 : Int32) : Option (Int32 ⊕ Nat) :=
  (rdA (S 2) 12 v1).bind fun x21 =>
  (if (x21 : Int32) ≤ v4 then
  some (.inl v2)
  else
  (mX_slotOf v1 v4).bind fun x29 =>
  (mX_costOfProof S x29 9 0).bind fun x37 =>
  (if (v3 : Int32) ≤ x37 then
  ih v2 v3 (v4 + 1)
  else
  ih v4 x37 (v4 + 1)))
def mX_best (S : XS) (v1 : Int32) : Option (Int32 ⊕ Nat) :=
  tb (mX_requireLemma S v1) fun x2 =>
  itr3 (mX_best_F14 S v1) FUEL (-1) 9999 0
def mX_without (S : XS) (v1 : Int32) : Option ((Int32 × XS) ⊕ Nat) :=
  tb (mX_requireLemma S v1) fun x2 =>
  rb (mX_prove S 13 v1) fun x11 S11 =>
  some (.inl (x11, S11))
def mX_needs (S : XS) (v1 : Int32) (v2 : Int32) : Option ((Int32 × XS) ⊕ Nat) :=
  tb (mX_requireLemma S v1) fun x2 =>
  tb (mX_requireAxiom v2) fun x6 =>
  (rdA (S 1) 5 v2).bind fun x14 =>
  wrS 5 v2 (sU S 1 (upd (S 1) (v2 : Int32).toNatClampNeg (0 &&& 1))) fun S22 =>
  rb (mX_prove S22 13 (-1)) fun x29 S29 =>
  wrS 5 v2 (sU S29 1 (upd (S29 1) (v2 : Int32).toNatClampNeg (x14 &&& 1))) fun S39 =>
  (rdA (S39 8) 12 v1).bind fun x45 =>
  (if (x45 : Int32) ≤ 0 then
  gz 0 (some (.inl (0, S39)))
  else
  (rdA (S39 13) 12 v1).bind fun x54 =>
  (if (x54 : Int32) = 0 then
  gz 1 (some (.inl (1, S39)))
  else
  gz 0 (some (.inl (0, S39)))))
def mX_provedIfClosed (S : XS) (v1 : Int32) : Option (Int32 × XS) :=
  (rdA (S 6) 180 v1).bind fun x5 =>
  (if (x5 : Int32) = 0 then
  some ((S 15 0), S)
  else
  wrS 180 v1 (sU S 6 (upd (S 6) (v1 : Int32).toNatClampNeg 0)) fun S22 =>
  rb (mX_prove S22 13 (-1)) fun x29 S29 =>
  wrS 180 v1 (sU S29 6 (upd (S29 6) (v1 : Int32).toNatClampNeg x5)) fun S39 =>
  some (x29, S39))
def mX_advise_F34 (k : XS → Int32 → Int32 → Int32 → Option (Int32 × XS)) (v3 : Int32) (v4 : Int32) (ih : XS → Int32 → Int32 → Int32 → Option (Int32 × XS)) (S : XS) (v1 : Int32) (v2 : Int32) (v5 : Int32) : Option (Int32 × XS) :=
  (mX_slotOf v3 v4).bind fun x43 =>
  (rdA (S 3) 36 x43).bind fun x46 =>
  (if (x46 : Int32) ≤ v5 then
  k S v1 v2 (v4 + 1)
  else
  (mX_stepAt v3 v4 v5).bind fun x56 =>
  rb (mX_provedIfClosed S x56) fun x59 S59 =>
  (if (x59 : Int32) ≤ v2 then
  ih S59 v1 v2 (v5 + 1)
  else
  ih S59 (((100 * v3) + (10 * v4)) + v5) x59 (v5 + 1)))
def mX_advise_F20 (k : XS → Int32 → Int32 → Int32 → Option (Int32 × XS)) (v3 : Int32) (ih : XS → Int32 → Int32 → Int32 → Option (Int32 × XS)) (S : XS) (v1 : Int32) (v2 : Int32) (v4 : Int32) : Option (Int32 × XS) :=
  (rdA (S 2) 12 v3).bind fun x27 =>
  (if (x27 : Int32) ≤ v4 then
  k S v1 v2 (v3 + 1)
  else
  itr4 (mX_advise_F34 ih v3 v4) FUEL S v1 v2 0)
def mX_advise_F9 (ih : XS → Int32 → Int32 → Int32 → Option (Int32 × XS)) (S : XS) (v1 : Int32) (v2 : Int32) (v3 : Int32) : Option (Int32 × XS) :=
  (if ((S 14 0) : Int32) ≤ v3 then
  some (v1, S)
  else
  itr4 (mX_advise_F20 ih v3) FUEL S v1 v2 0)
def mX_advise (S : XS) : Option (Int32 × XS) :=
  itr4 (mX_advise_F9) FUEL S (-1) (S 15 0) 0
def mX_digestProof_F34 (S : XS) (k : Int64 → Int32 → Option Int64) (v3 : Int32) (v6 : Int32) (ih : Int64 → Int32 → Option Int64) (v4 : Int64) (v7 : Int32) : Option Int64 :=
  (if (4 : Int32) ≤ v7 then
  k v4 (v6 + 1)
  else
  (mX_stepTells S v6 v7).bind fun x51 =>
  ih ((v4 * 31) + (x51 : Int32).toInt64) (v7 + 1))
def mX_digestProof_F21 (S : XS) (v3 : Int32) (ih : Int64 → Int32 → Option Int64) (v4 : Int64) (v6 : Int32) : Option Int64 :=
  (mX_endOfSteps S v3).bind fun x25 =>
  (if (x25 : Int32) ≤ v6 then
  some v4
  else
  itr2 (mX_digestProof_F34 S ih v3 v6) FUEL v4 0)
def mX_digestProof (S : XS) (v1 : Int64) (v3 : Int32) : Option Int64 :=
  (rdA (S 3) 36 v3).bind fun x10 =>
  (mX_firstStepOf v3).bind fun x16 =>
  itr2 (mX_digestProof_F21 S v3) FUEL ((v1 * 31) + (x10 : Int32).toInt64) x16
def mX_digestLemma_F39 (S : XS) (v3 : Int32) (ih : Int64 → Int32 → Option Int64) (v4 : Int64) (v6 : Int32) : Option Int64 :=
  (rdA (S 2) 12 v3).bind fun x46 =>
  (if (x46 : Int32) ≤ v6 then
  some v4
  else
  (mX_slotOf v3 v6).bind fun x56 =>
  (mX_digestProof S v4 x56).bind fun x59 =>
  ih x59 (v6 + 1))
def mX_digestLemma_F6 (S : XS) (v3 : Int32) (ih : Int64 → Int32 → Option Int64) (v4 : Int64) (v6 : Int32) : Option Int64 :=
  (if (7 : Int32) ≤ v6 then
  itr2 (mX_digestLemma_F39 S v3) FUEL v4 0
  else
  (mX_lemmaTells S v3 v6).bind fun x23 =>
  ih ((v4 * 31) + (x23 : Int32).toInt64) (v6 + 1))
def mX_digestLemma (S : XS) (v1 : Int64) (v3 : Int32) : Option Int64 :=
  itr2 (mX_digestLemma_F6 S v3) FUEL v1 0
def mX_digest_F68 (S : XS) (ih : Int64 → Int32 → Option Int64) (v1 : Int64) (v3 : Int32) : Option Int64 :=
  (if ((S 14 0) : Int32) ≤ v3 then
  some v1
  else
  (mX_digestLemma S v1 v3).bind fun x79 =>
  ih x79 (v3 + 1))
def mX_digest_F33 (S : XS) (ih : Int64 → Int32 → Option Int64) (v1 : Int64) (v3 : Int32) : Option Int64 :=
  (if (5 : Int32) ≤ v3 then
  itr2 (mX_digest_F68 S) FUEL v1 0
  else
  (rdA (S 1) 5 v3).bind fun x48 =>
  (if (x48 : Int32) = 0 then
  ih ((v1 * 31) + (0 : Int32).toInt64) (v3 + 1)
  else
  ih ((v1 * 31) + (1 : Int32).toInt64) (v3 + 1)))
def mX_digest_F6 (S : XS) (ih : Int64 → Int32 → Option Int64) (v1 : Int64) (v3 : Int32) : Option Int64 :=
  (if (7 : Int32) ≤ v3 then
  itr2 (mX_digest_F33 S) FUEL v1 0
  else
  (mX_countOf S v3).bind fun x19 =>
  ih ((v1 * 31) + (x19 : Int32).toInt64) (v3 + 1))
def mX_digest (S : XS) : Option Int64 :=
  itr2 (mX_digest_F6 S) FUEL 1847 0
def mX_mean (S : XS) : Option UInt64 :=
  (if ((S 14 0) : Int32) = 0 then
  some FP.dconst0
  else
  (mX_overLemmas S 1).bind fun x13 =>
  (dvD (FP.i2d x13) (FP.i2d (S 14 0))).bind fun x22 =>
  some x22)
def mX_lemma (S : XS) : Option ((Int32 × XS) ⊕ Nat) :=
  (if ((S 14 0) : Int32) < 12 then
  stS (sU S 14 (fun _ => ((S 14 0) + 1))) fun S26 =>
  rb (mX_settle S26) fun x30 S30 =>
  some (.inl (((S30 14 0) - 1), S30))
  else
  some (.inr 2))
def mX_proof (S : XS) (v1 : Int32) : Option ((Int32 × XS) ⊕ Nat) :=
  tb (mX_requireLemma S v1) fun x2 =>
  (rdA (S 2) 12 v1).bind fun x10 =>
  (if (x10 : Int32) < 3 then
  (mX_slotOf v1 x10).bind fun x33 =>
  wrS 36 x33 (sU S 3 (upd (S 3) (x33 : Int32).toNatClampNeg 0)) fun S37 =>
  wrS 12 v1 (sU S37 2 (upd (S37 2) (v1 : Int32).toNatClampNeg (x10 + 1))) fun S46 =>
  rb (mX_settle S46) fun x48 S48 =>
  some (.inl (x10, S48))
  else
  some (.inr 2))
def mX_moveUp_F32 (v1 : Int32) (v3 : Int32) (ih : XS → Int32 → Option (Int32 × XS)) (S : XS) (v4 : Int32) : Option (Int32 × XS) :=
  (mX_endOfSteps S v1).bind fun x36 =>
  (if (x36 : Int32) ≤ v4 then
  some (0, S)
  else
  (rdA (S 4) 180 (v4 + v3)).bind fun x56 =>
  wrS 180 v4 (sU S 4 (upd (S 4) (v4 : Int32).toNatClampNeg x56)) fun S57 =>
  (rdA (S57 5) 180 (v4 + v3)).bind fun x72 =>
  wrS 180 v4 (sU S57 5 (upd (S57 5) (v4 : Int32).toNatClampNeg x72)) fun S73 =>
  (rdA (S73 6) 180 (v4 + v3)).bind fun x88 =>
  wrS 180 v4 (sU S73 6 (upd (S73 6) (v4 : Int32).toNatClampNeg x88)) fun S89 =>
  (rdA (S89 7) 180 (v4 + v3)).bind fun x104 =>
  wrS 180 v4 (sU S89 7 (upd (S89 7) (v4 : Int32).toNatClampNeg (x104 &&& 1))) fun S105 =>
  ih S105 (v4 + 1))
def mX_moveUp (S : XS) (v1 : Int32) : Option (Int32 × XS) :=
  (mX_firstStepOf (v1 + 1)).bind fun x5 =>
  (mX_firstStepOf v1).bind fun x9 =>
  (rdA (S 3) 36 (v1 + 1)).bind fun x24 =>
  wrS 36 v1 (sU S 3 (upd (S 3) (v1 : Int32).toNatClampNeg x24)) fun S25 =>
  (mX_firstStepOf v1).bind fun x27 =>
  itr2 (mX_moveUp_F32 v1 (x5 - x9)) FUEL S25 x27
def mX_strike_F18 (v1 : Int32) (ih : XS → Int32 → Option ((Int32 × XS) ⊕ Nat)) (S : XS) (v3 : Int32) : Option ((Int32 × XS) ⊕ Nat) :=
  (rdA (S 2) 12 v1).bind fun x24 =>
  (if (x24 : Int32) ≤ v3 then
  rb (mX_settle S) fun x44 S44 =>
  (rdA (S44 2) 12 v1).bind fun x52 =>
  some (.inl (x52, S44))
  else
  (mX_slotOf v1 v3).bind fun x31 =>
  rb (mX_moveUp S x31) fun x34 S34 =>
  ih S34 (v3 + 1))
def mX_strike (S : XS) (v1 : Int32) (v2 : Int32) : Option ((Int32 × XS) ⊕ Nat) :=
  tb (mX_requireProof S v1 v2) fun x3 =>
  (rdA (S 2) 12 v1).bind fun x12 =>
  wrS 12 v1 (sU S 2 (upd (S 2) (v1 : Int32).toNatClampNeg (x12 - 1))) fun S15 =>
  itr2 (mX_strike_F18 v1) FUEL S15 v2
def mX_requireCitable (S : XS) (v1 : Int32) (v2 : Int32) : Option (Int32 ⊕ Nat) :=
  (if (v1 : Int32) < 0 then
  some (.inr 1)
  else
  (if (v1 : Int32) ≤ 2 then
  (if (v1 : Int32) = 0 then
  tb (mX_requireAxiom v2) fun x24 =>
  some (.inl 0)
  else
  (if (v1 : Int32) = 1 then
  tb (mX_requireLemma S v2) fun x37 =>
  some (.inl 0)
  else
  (if (v2 : Int32) < 1 then
  some (.inr 3)
  else
  (if (v2 : Int32) ≤ 9 then
  some (.inl 0)
  else
  some (.inr 3)))))
  else
  some (.inr 1)))
def mX_cite_J83 (S : XS) (v5 : Int32) (v6 : Int32) (t0 : Int32) (t1 : Int32) : Option ((Int32 × XS) ⊕ Nat) :=
  wrS 180 t1 (sU S 6 (upd (S 6) (t1 : Int32).toNatClampNeg t0)) fun S83 =>
  wrS 180 v6 (sU S83 7 (upd (S83 7) (v6 : Int32).toNatClampNeg (0 &&& 1))) fun S91 =>
  (rdA (S91 3) 36 v5).bind fun x99 =>
  wrS 36 v5 (sU S91 3 (upd (S91 3) (v5 : Int32).toNatClampNeg (x99 + 1))) fun S102 =>
  rb (mX_settle S102) fun x104 S104 =>
  (rdA (S104 3) 36 v5).bind fun x113 =>
  some (.inl (x113, S104))
def mX_cite (S : XS) (v1 : Int32) (v2 : Int32) (v3 : Int32) (v4 : Int32) : Option ((Int32 × XS) ⊕ Nat) :=
  tb (mX_requireProof S v1 v2) fun x3 =>
  tb (mX_requireCitable S v3 v4) fun x10 =>
  (mX_slotOf v1 v2).bind fun x15 =>
  (rdA (S 3) 36 x15).bind fun x26 =>
  (if (x26 : Int32) < 5 then
  (mX_endOfSteps S x15).bind fun x44 =>
  wrS 180 x44 (sU S 4 (upd (S 4) (x44 : Int32).toNatClampNeg v3)) fun S56 =>
  wrS 180 x44 (sU S56 5 (upd (S56 5) (x44 : Int32).toNatClampNeg v4)) fun S65 =>
  (if (v3 : Int32) = 2 then
  mX_cite_J83 S65 x15 x44 v4 x44
  else
  mX_cite_J83 S65 x15 x44 0 x44)
  else
  some (.inr 2))
end MIR
