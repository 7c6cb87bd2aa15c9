section MIR
def FUEL : Nat := 300000
def lmax (x y : Int32) : Int32 := if x < y then y else x
def ffill (n : Nat) (v : Int32) (f : Nat → Int32) : Nat → Int32 := fun j => if j < n then v else f j
def dvD (x y : UInt64) : Option UInt64 := if (FP.ddiv x y) &&& 0x7fffffffffffffff ≤ 0x7ff0000000000000 then some (FP.ddiv x y) else none
def cpI {σ ρ : Type} (n : Nat) (sp dp len : Int32) (f : Nat → Int32) (u : (Nat → Int32) → σ) (K : σ → Option ρ) : Option ρ := if sp < 0 ∨ dp < 0 ∨ len < 0 ∨ n < sp.toNatClampNeg + len.toNatClampNeg ∨ n < dp.toNatClampNeg + len.toNatClampNeg then none else K (u (va_cpy f f sp.toNatClampNeg dp.toNatClampNeg len.toNatClampNeg))
def cpZ {σ ρ : Type} (n : Nat) (sp dp len : Int32) (f : Nat → Int32) (u : (Nat → Int32) → σ) (K : σ → Option ρ) : Option ρ := if ((List.range len.toNatClampNeg).all fun i => f (sp.toNatClampNeg + i) == 0 || f (sp.toNatClampNeg + i) == 1) = true then cpI n sp dp len f u K else none
def mX_slotOf (v0 : Int32) (v1 : Int32) : Option Int32 :=
  some ((v0 * 3) + v1)
def mX_firstStepOf (v0 : Int32) : Option Int32 :=
  some (v0 * 5)
def mX_stepAt (v0 : Int32) (v1 : Int32) (v2 : Int32) : Option Int32 :=
  (mX_slotOf v0 v1).bind fun x2 =>
  (mX_firstStepOf x2).bind fun x5 =>
  some (x5 + v2)
def mX_endOfSteps (S : XS) (v1 : Int32) : Option Int32 :=
  (rdA (S 3) 36 v1).bind fun x8 =>
  some ((v1 * 5) + x8)
def mX_isWhole_F5 (S : XS) (v1 : Int32) (ih : Int32 → Option Int32) (v2 : Int32) : Option Int32 :=
  (mX_endOfSteps S v1).bind fun x8 =>
  (if (x8 : Int32) ≤ v2 then
  (rdA (S 3) 36 v1).bind fun x36 =>
  (if (x36 : Int32) ≤ 0 then
  gz 0 (some 0)
  else
  gz 1 (some 1))
  else
  (rdA (S 7) 180 v2).bind fun x19 =>
  (if (x19 : Int32) = 0 then
  ih (v2 + 1)
  else
  gz 0 (some 0)))
def mX_isWhole (S : XS) (v1 : Int32) : Option Int32 :=
  (mX_firstStepOf v1).bind fun x1 =>
  itr1 (mX_isWhole_F5 S v1) FUEL x1
def mX_isAxiom (v0 : Int32) : Option Int32 :=
  (if (v0 : Int32) < 0 then
  gz 0 (some 0)
  else
  (if (5 : Int32) ≤ v0 then
  gz 0 (some 0)
  else
  gz 1 (some 1)))
def mX_isLemma (S : XS) (v1 : Int32) : Option Int32 :=
  (if (v1 : Int32) < 0 then
  gz 0 (some 0)
  else
  (if ((S 14 0) : Int32) ≤ v1 then
  gz 0 (some 0)
  else
  gz 1 (some 1)))
def mX_stepHolds (S : XS) (v1 : Int32) (r2 : Nat) (v3 : Int32) : Option Int32 :=
  (rdA (S 5) 180 v1).bind fun x5 =>
  (rdA (S 4) 180 v1).bind fun x13 =>
  (if (x13 : Int32) = 0 then
  (mX_isAxiom x5).bind fun x19 =>
  (if (x19 : Int32) = 0 then
  gz 0 (some 0)
  else
  (rdA (S 1) 5 x5).bind fun x31 =>
  (if (x31 : Int32) = 0 then
  gz 0 (some 0)
  else
  gz 1 (some 1)))
  else
  (rdA (S 4) 180 v1).bind fun x46 =>
  (if (x46 : Int32) = 1 then
  (mX_isLemma S x5).bind fun x54 =>
  (if (x54 : Int32) = 0 then
  gz 0 (some 0)
  else
  (rdA (S r2) 12 x5).bind fun x63 =>
  (if (x63 : Int32) ≤ 0 then
  gz 0 (some 0)
  else
  (rdA (S r2) 12 x5).bind fun x70 =>
  (if (v3 : Int32) ≤ x70 then
  gz 0 (some 0)
  else
  gz 1 (some 1))))
  else
  (rdA (S 6) 180 v1).bind fun x86 =>
  (if (x86 : Int32) = 0 then
  gz 1 (some 1)
  else
  gz 0 (some 0))))
def mX_holds_F16 (S : XS) (r2 : Nat) (v1 : Int32) (v3 : Int32) (ih : Int32 → Option Int32) (v4 : Int32) : Option Int32 :=
  (mX_endOfSteps S v1).bind fun x20 =>
  (if (x20 : Int32) ≤ v4 then
  gz 1 (some 1)
  else
  (mX_stepHolds S v4 r2 v3).bind fun x31 =>
  (if (x31 : Int32) = 0 then
  gz 0 (some 0)
  else
  ih (v4 + 1)))
def mX_holds (S : XS) (v1 : Int32) (r2 : Nat) (v3 : Int32) : Option Int32 :=
  (mX_isWhole S v1).bind fun x2 =>
  (if (x2 : Int32) = 0 then
  gz 0 (some 0)
  else
  (mX_firstStepOf v1).bind fun x11 =>
  itr1 (mX_holds_F16 S r2 v1 v3) FUEL x11)
def mX_hasProofAt_F3 (S : XS) (r2 : Nat) (v1 : Int32) (v3 : Int32) (ih : Int32 → Option Int32) (v4 : Int32) : Option Int32 :=
  (rdA (S 2) 12 v1).bind fun x10 =>
  (if (x10 : Int32) ≤ v4 then
  gz 0 (some 0)
  else
  (mX_slotOf v1 v4).bind fun x18 =>
  (mX_holds S x18 r2 v3).bind fun x23 =>
  (if (x23 : Int32) = 0 then
  ih (v4 + 1)
  else
  gz 1 (some 1)))
def mX_hasProofAt (S : XS) (v1 : Int32) (r2 : Nat) (v3 : Int32) : Option Int32 :=
  itr1 (mX_hasProofAt_F3 S r2 v1 v3) FUEL 0
def mX_prove_F25 (r1 : Nat) (k : XS → Int32 → Int32 → Option (Int32 × XS)) (v2 : Int32) (v4 : Int32) (v5 : Int32) (ih : XS → Int32 → Int32 → Option (Int32 × XS)) (S : XS) (v3 : Int32) (v6 : Int32) : Option (Int32 × XS) :=
  (if ((S 14 0) : Int32) ≤ v6 then
  (if (v3 : Int32) = v5 then
  some (v3, S)
  else
  k S v3 (v4 + 1))
  else
  (if (v6 : Int32) = v2 then
  ih S v3 (v6 + 1)
  else
  (rdA (S r1) 12 v6).bind fun x43 =>
  (if (x43 : Int32) = 0 then
  (mX_hasProofAt S v6 r1 v4).bind fun x53 =>
  (if (x53 : Int32) = 0 then
  ih S v3 (v6 + 1)
  else
  wrS 12 v6 (sU S r1 (upd (S r1) (v6 : Int32).toNatClampNeg v4)) fun S64 =>
  ih S64 (v3 + 1) (v6 + 1))
  else
  ih S v3 (v6 + 1))))
def mX_prove_F10 (r1 : Nat) (v2 : Int32) (ih : XS → Int32 → Int32 → Option (Int32 × XS)) (S : XS) (v3 : Int32) (v4 : Int32) : Option (Int32 × XS) :=
  (if ((S 14 0) : Int32) < v4 then
  some (v3, S)
  else
  itr3 (mX_prove_F25 r1 ih v2 v4 v3) FUEL S v3 0)
def mX_prove (S : XS) (r1 : Nat) (v2 : Int32) : Option (Int32 × XS) :=
  stS (sU S r1 (ffill 12 0 (S r1))) fun S2 =>
  itr3 (mX_prove_F10 r1 v2) FUEL S2 0 1
def mX_provedIfClosed (S : XS) (v1 : Int32) : Option (Int32 × XS) :=
  (rdA (S 6) 180 v1).bind fun x5 =>
  (if (x5 : Int32) = 0 then
  some ((S 15 0), S)
  else
  wrS 180 v1 (sU S 6 (upd (S 6) (v1 : Int32).toNatClampNeg 0)) fun S22 =>
  rb (mX_prove S22 13 (-1)) fun x29 S29 =>
  wrS 180 v1 (sU S29 6 (upd (S29 6) (v1 : Int32).toNatClampNeg x5)) fun S39 =>
  some (x29, S39))
def mX_advise_F34 (k : XS → Int32 → Int32 → Int32 → Option (Int32 × XS)) (v3 : Int32) (v4 : Int32) (ih : XS → Int32 → Int32 → Int32 → Option (Int32 × XS)) (S : XS) (v1 : Int32) (v2 : Int32) (v5 : Int32) : Option (Int32 × XS) :=
  (mX_slotOf v3 v4).bind fun x43 =>
  (rdA (S 3) 36 x43).bind fun x46 =>
  (if (x46 : Int32) ≤ v5 then
  k S v1 v2 (v4 + 1)
  else
  (mX_stepAt v3 v4 v5).bind fun x56 =>
  rb (mX_provedIfClosed S x56) fun x59 S59 =>
  (if (x59 : Int32) ≤ v2 then
  ih S59 v1 v2 (v5 + 1)
  else
  ih S59 (((100 * v3) + (10 * v4)) + v5) x59 (v5 + 1)))
def mX_advise_F20 (k : XS → Int32 → Int32 → Int32 → Option (Int32 × XS)) (v3 : Int32) (ih : XS → Int32 → Int32 → Int32 → Option (Int32 × XS)) (S : XS) (v1 : Int32) (v2 : Int32) (v4 : Int32) : Option (Int32 × XS) :=
  (rdA (S 2) 12 v3).bind fun x27 =>
  (if (x27 : Int32) ≤ v4 then
  k S v1 v2 (v3 + 1)
  else
  itr4 (mX_advise_F34 ih v3 v4) FUEL S v1 v2 0)
def mX_advise_F9 (ih : XS → Int32 → Int32 → Int32 → Option (Int32 × XS)) (S : XS) (v1 : Int32) (v2 : Int32) (v3 : Int32) : Option (Int32 × XS) :=
  (if ((S 14 0) : Int32) ≤ v3 then
  some (v1, S)
  else
  itr4 (mX_advise_F20 ih v3) FUEL S v1 v2 0)
def mX_advise (S : XS) : Option (Int32 × XS) :=
  itr4 (mX_advise_F9) FUEL S (-1) (S 15 0) 0
def mX_stepsOf_F4 (S : XS) (v1 : Int32) (ih : Int32 → Int32 → Option Int32) (v2 : Int32) (v3 : Int32) : Option Int32 :=
  (rdA (S 2) 12 v1).bind fun x10 =>
  (if (x10 : Int32) ≤ v3 then
  some v2
  else
  (mX_slotOf v1 v3).bind fun x21 =>
  (rdA (S 3) 36 x21).bind fun x24 =>
  ih (v2 + x24) (v3 + 1))
def mX_stepsOf (S : XS) (v1 : Int32) : Option Int32 :=
  itr2 (mX_stepsOf_F4 S v1) FUEL 0 0
def mX_orNone (v0 : Int32) : Option Int32 :=
  (if (v0 : Int32) < 9999 then
  some v0
  else
  some (-1))
def mX_openOf_F28 (S : XS) (k : Int32 → Int32 → Option Int32) (v1 : Int32) (v3 : Int32) (v4 : Int32) (ih : Int32 → Int32 → Option Int32) (v2 : Int32) (v5 : Int32) : Option Int32 :=
  (mX_endOfSteps S v4).bind fun x33 =>
  (if (x33 : Int32) ≤ v5 then
  k v2 (v3 + 1)
  else
  (rdA (S 6) 180 v5).bind fun x46 =>
  ih (v2 + x46) (v5 + 1))
def mX_openOf_F4 (S : XS) (v1 : Int32) (ih : Int32 → Int32 → Option Int32) (v2 : Int32) (v3 : Int32) : Option Int32 :=
  (rdA (S 2) 12 v1).bind fun x10 =>
  (if (x10 : Int32) ≤ v3 then
  some v2
  else
  (mX_slotOf v1 v3).bind fun x16 =>
  (mX_firstStepOf x16).bind fun x23 =>
  itr2 (mX_openOf_F28 S ih v1 v3 x16) FUEL v2 x23)
def mX_openOf (S : XS) (v1 : Int32) : Option Int32 :=
  itr2 (mX_openOf_F4 S v1) FUEL 0 0
def mX_lemmaTells (S : XS) (v1 : Int32) (v2 : Int32) : Option Int32 :=
  (if (v2 : Int32) = 0 then
  (rdA (S 2) 12 v1).bind fun x45 =>
  some x45
  else
  if (v2 : Int32) = 1 then
  (mX_stepsOf S v1).bind fun x49 =>
  some x49
  else
  if (v2 : Int32) = 2 then
  (rdA (S 8) 12 v1).bind fun x58 =>
  some x58
  else
  if (v2 : Int32) = 3 then
  (rdA (S 9) 12 v1).bind fun x65 =>
  (mX_orNone x65).bind fun x66 =>
  some x66
  else
  if (v2 : Int32) = 4 then
  (rdA (S 10) 12 v1).bind fun x75 =>
  (mX_orNone x75).bind fun x76 =>
  some x76
  else
  if (v2 : Int32) = 5 then
  (mX_openOf S v1).bind fun x82 =>
  some x82
  else
  (rdA (S 12) 12 v1).bind fun x91 =>
  some x91)
def mX_overLemmas_F4 (S : XS) (v1 : Int32) (ih : Int32 → Int32 → Option Int32) (v2 : Int32) (v3 : Int32) : Option Int32 :=
  (if ((S 14 0) : Int32) ≤ v3 then
  some v2
  else
  (mX_lemmaTells S v3 v1).bind fun x16 =>
  ih (v2 + x16) (v3 + 1))
def mX_overLemmas (S : XS) (v1 : Int32) : Option Int32 :=
  itr2 (mX_overLemmas_F4 S v1) FUEL 0 0
def mX_mean (S : XS) : Option UInt64 :=
  (if ((S 14 0) : Int32) = 0 then
  some FP.dconst0
  else
  (mX_overLemmas S 1).bind fun x13 =>
  (dvD (FP.i2d x13) (FP.i2d (S 14 0))).bind fun x22 =>
  some x22)
def mX_axiomsTaken_F4 (S : XS) (ih : Int32 → Int32 → Option Int32) (v1 : Int32) (v2 : Int32) : Option Int32 :=
  (if (5 : Int32) ≤ v2 then
  some v1
  else
  (rdA (S 1) 5 v2).bind fun x14 =>
  (if (x14 : Int32) = 0 then
  ih v1 (v2 + 1)
  else
  ih (v1 + 1) (v2 + 1)))
def mX_axiomsTaken (S : XS) : Option Int32 :=
  itr2 (mX_axiomsTaken_F4 S) FUEL 0 0
def mX_lemmasInCircles_F4 (S : XS) (ih : Int32 → Int32 → Option Int32) (v1 : Int32) (v2 : Int32) : Option Int32 :=
  (if ((S 14 0) : Int32) ≤ v2 then
  some v1
  else
  (rdA (S 12) 12 v2).bind fun x17 =>
  (if (x17 : Int32) ≤ 0 then
  ih v1 (v2 + 1)
  else
  ih (v1 + 1) (v2 + 1)))
def mX_lemmasInCircles (S : XS) : Option Int32 :=
  itr2 (mX_lemmasInCircles_F4 S) FUEL 0 0
def mX_countOf (S : XS) (v1 : Int32) : Option Int32 :=
  (if (v1 : Int32) = 0 then
  some (S 14 0)
  else
  if (v1 : Int32) = 1 then
  some (S 15 0)
  else
  if (v1 : Int32) = 2 then
  (mX_axiomsTaken S).bind fun x51 =>
  some x51
  else
  if (v1 : Int32) = 3 then
  (mX_overLemmas S 0).bind fun x57 =>
  some x57
  else
  if (v1 : Int32) = 4 then
  (mX_overLemmas S 1).bind fun x63 =>
  some x63
  else
  if (v1 : Int32) = 5 then
  (mX_overLemmas S 5).bind fun x69 =>
  some x69
  else
  (mX_lemmasInCircles S).bind fun x74 =>
  some x74)
def mX_stepTells (S : XS) (v1 : Int32) (v2 : Int32) : Option Int32 :=
  (if (v2 : Int32) = 0 then
  (rdA (S 4) 180 v1).bind fun x33 =>
  some x33
  else
  if (v2 : Int32) = 1 then
  (rdA (S 5) 180 v1).bind fun x40 =>
  some x40
  else
  if (v2 : Int32) = 2 then
  (rdA (S 6) 180 v1).bind fun x47 =>
  some x47
  else
  (rdA (S 7) 180 v1).bind fun x54 =>
  (if (x54 : Int32) = 0 then
  some 0
  else
  some 1))
def mX_digestProof_F34 (S : XS) (k : Int64 → Int32 → Option Int64) (v3 : Int32) (v6 : Int32) (ih : Int64 → Int32 → Option Int64) (v4 : Int64) (v7 : Int32) : Option Int64 :=
  (if (4 : Int32) ≤ v7 then
  k v4 (v6 + 1)
  else
  (mX_stepTells S v6 v7).bind fun x51 =>
  ih ((v4 * 31) + (x51 : Int32).toInt64) (v7 + 1))
def mX_digestProof_F21 (S : XS) (v3 : Int32) (ih : Int64 → Int32 → Option Int64) (v4 : Int64) (v6 : Int32) : Option Int64 :=
  (mX_endOfSteps S v3).bind fun x25 =>
  (if (x25 : Int32) ≤ v6 then
  some v4
  else
  itr2 (mX_digestProof_F34 S ih v3 v6) FUEL v4 0)
def mX_digestProof (S : XS) (v1 : Int64) (v3 : Int32) : Option Int64 :=
  (rdA (S 3) 36 v3).bind fun x10 =>
  (mX_firstStepOf v3).bind fun x16 =>
  itr2 (mX_digestProof_F21 S v3) FUEL ((v1 * 31) + (x10 : Int32).toInt64) x16
def mX_digestLemma_F39 (S : XS) (v3 : Int32) (ih : Int64 → Int32 → Option Int64) (v4 : Int64) (v6 : Int32) : Option Int64 :=
  (rdA (S 2) 12 v3).bind fun x46 =>
  (if (x46 : Int32) ≤ v6 then
  some v4
  else
  (mX_slotOf v3 v6).bind fun x56 =>
  (mX_digestProof S v4 x56).bind fun x59 =>
  ih x59 (v6 + 1))
def mX_digestLemma_F6 (S : XS) (v3 : Int32) (ih : Int64 → Int32 → Option Int64) (v4 : Int64) (v6 : Int32) : Option Int64 :=
  (if (7 : Int32) ≤ v6 then
  itr2 (mX_digestLemma_F39 S v3) FUEL v4 0
  else
  (mX_lemmaTells S v3 v6).bind fun x23 =>
  ih ((v4 * 31) + (x23 : Int32).toInt64) (v6 + 1))
def mX_digestLemma (S : XS) (v1 : Int64) (v3 : Int32) : Option Int64 :=
  itr2 (mX_digestLemma_F6 S v3) FUEL v1 0
def mX_digest_F68 (S : XS) (ih : Int64 → Int32 → Option Int64) (v1 : Int64) (v3 : Int32) : Option Int64 :=
  (if ((S 14 0) : Int32) ≤ v3 then
  some v1
  else
  (mX_digestLemma S v1 v3).bind fun x79 =>
  ih x79 (v3 + 1))
def mX_digest_F33 (S : XS) (ih : Int64 → Int32 → Option Int64) (v1 : Int64) (v3 : Int32) : Option Int64 :=
  (if (5 : Int32) ≤ v3 then
  itr2 (mX_digest_F68 S) FUEL v1 0
  else
  (rdA (S 1) 5 v3).bind fun x48 =>
  (if (x48 : Int32) = 0 then
  ih ((v1 * 31) + (0 : Int32).toInt64) (v3 + 1)
  else
  ih ((v1 * 31) + (1 : Int32).toInt64) (v3 + 1)))
def mX_digest_F6 (S : XS) (ih : Int64 → Int32 → Option Int64) (v1 : Int64) (v3 : Int32) : Option Int64 :=
  (if (7 : Int32) ≤ v3 then
  itr2 (mX_digest_F33 S) FUEL v1 0
  else
  (mX_countOf S v3).bind fun x19 =>
  ih ((v1 * 31) + (x19 : Int32).toInt64) (v3 + 1))
def mX_digest (S : XS) : Option Int64 :=
  itr2 (mX_digest_F6 S) FUEL 1847 0
def mX_requireAxiom (v0 : Int32) : Option (Int32 ⊕ Nat) :=
  (mX_isAxiom v0).bind fun x1 =>
  (if (x1 : Int32) = 0 then
  some (.inr 1)
  else
  some (.inl 0))
def mX_costOfStep (S : XS) (v1 : Int32) (r2 : Nat) (v3 : Int32) : Option Int32 :=
  (rdA (S 5) 180 v1).bind fun x5 =>
  (rdA (S 4) 180 v1).bind fun x13 =>
  (if (x13 : Int32) = 0 then
  (mX_isAxiom x5).bind fun x19 =>
  (if (x19 : Int32) = 0 then
  some 9999
  else
  (rdA (S 1) 5 x5).bind fun x31 =>
  (if (x31 : Int32) = 0 then
  some 9999
  else
  some 0))
  else
  (rdA (S 4) 180 v1).bind fun x48 =>
  (if (x48 : Int32) = 1 then
  (mX_isLemma S x5).bind fun x56 =>
  (if (x56 : Int32) = 0 then
  some 9999
  else
  (rdA (S r2) 12 x5).bind fun x65 =>
  some x65)
  else
  (if (v3 : Int32) = 0 then
  (rdA (S 6) 180 v1).bind fun x89 =>
  (if (x89 : Int32) = 0 then
  some 0
  else
  some 9999)
  else
  (rdA (S 6) 180 v1).bind fun x82 =>
  some x82)))
def mX_costOfProof_F34 (S : XS) (r2 : Nat) (v1 : Int32) (v3 : Int32) (ih : Int32 → Int32 → Option Int32) (v4 : Int32) (v5 : Int32) : Option Int32 :=
  (mX_endOfSteps S v1).bind fun x38 =>
  (if (x38 : Int32) ≤ v5 then
  some (lmin v4 9999)
  else
  (mX_costOfStep S v5 r2 v3).bind fun x51 =>
  ih (v4 + x51) (v5 + 1))
def mX_costOfProof (S : XS) (v1 : Int32) (r2 : Nat) (v3 : Int32) : Option Int32 :=
  (mX_isWhole S v1).bind fun x2 =>
  (if (x2 : Int32) = 0 then
  some 9999
  else
  (if (v3 : Int32) = 0 then
  (rdA (S 3) 36 v1).bind fun x25 =>
  (mX_firstStepOf v1).bind fun x29 =>
  itr2 (mX_costOfProof_F34 S r2 v1 v3) FUEL x25 x29
  else
  (mX_firstStepOf v1).bind fun x29 =>
  itr2 (mX_costOfProof_F34 S r2 v1 v3) FUEL 0 x29))
def mX_reckonRound_F17 (r1 : Nat) (k : XS → Int32 → Int32 → Option (Int32 × XS)) (v2 : Int32) (v4 : Int32) (ih : XS → Int32 → Int32 → Option (Int32 × XS)) (S : XS) (v3 : Int32) (v5 : Int32) : Option (Int32 × XS) :=
  (rdA (S 2) 12 v4).bind fun x25 =>
  (if (x25 : Int32) ≤ v5 then
  k S v3 (v4 + 1)
  else
  (mX_slotOf v4 v5).bind fun x34 =>
  (mX_costOfProof S x34 r1 v2).bind fun x39 =>
  (rdA (S r1) 12 v4).bind fun x49 =>
  (if (x49 : Int32) ≤ x39 then
  ih S v3 (v5 + 1)
  else
  wrS 12 v4 (sU S r1 (upd (S r1) (v4 : Int32).toNatClampNeg x39)) fun S58 =>
  ih S58 1 (v5 + 1)))
def mX_reckonRound_F5 (r1 : Nat) (v2 : Int32) (ih : XS → Int32 → Int32 → Option (Int32 × XS)) (S : XS) (v3 : Int32) (v4 : Int32) : Option (Int32 × XS) :=
  (if ((S 14 0) : Int32) ≤ v4 then
  gz v3 (some (v3, S))
  else
  itr3 (mX_reckonRound_F17 r1 ih v2 v4) FUEL S v3 0)
def mX_reckonRound (S : XS) (r1 : Nat) (v2 : Int32) : Option (Int32 × XS) :=
  itr3 (mX_reckonRound_F5 r1 v2) FUEL S 0 0
def mX_reckon_F9 (r1 : Nat) (v2 : Int32) (ih : XS → Int32 → Option (Int32 × XS)) (S : XS) (v3 : Int32) : Option (Int32 × XS) :=
  (if ((S 14 0) : Int32) ≤ v3 then
  some (0, S)
  else
  rb (mX_reckonRound S r1 v2) fun x20 S20 =>
  (if (x20 : Int32) = 0 then
  some (0, S20)
  else
  ih S20 (v3 + 1)))
def mX_reckon (S : XS) (r1 : Nat) (v2 : Int32) : Option (Int32 × XS) :=
  stS (sU S r1 (ffill 12 9999 (S r1))) fun S4 =>
  itr2 (mX_reckon_F9 r1 v2) FUEL S4 0
def mX_lemmasCitedBy_F28 (S : XS) (k : Int32 → Int32 → Option Int32) (v1 : Int32) (v3 : Int32) (v4 : Int32) (ih : Int32 → Int32 → Option Int32) (v2 : Int32) (v5 : Int32) : Option Int32 :=
  (mX_endOfSteps S v4).bind fun x33 =>
  (if (x33 : Int32) ≤ v5 then
  k v2 (v3 + 1)
  else
  (rdA (S 4) 180 v5).bind fun x45 =>
  (if (x45 : Int32) = 1 then
  (rdA (S 5) 180 v5).bind fun x58 =>
  ih (v2 ||| (1 <<< (x58 &&& 31))) (v5 + 1)
  else
  ih v2 (v5 + 1)))
def mX_lemmasCitedBy_F4 (S : XS) (v1 : Int32) (ih : Int32 → Int32 → Option Int32) (v2 : Int32) (v3 : Int32) : Option Int32 :=
  (rdA (S 2) 12 v1).bind fun x10 =>
  (if (x10 : Int32) ≤ v3 then
  some v2
  else
  (mX_slotOf v1 v3).bind fun x16 =>
  (mX_firstStepOf x16).bind fun x23 =>
  itr2 (mX_lemmasCitedBy_F28 S ih v1 v3 x16) FUEL v2 x23)
def mX_lemmasCitedBy (S : XS) (v1 : Int32) : Option Int32 :=
  itr2 (mX_lemmasCitedBy_F4 S v1) FUEL 0 0
def mX_isIn (v0 : Int32) (v1 : Int32) : Option Int32 :=
  (if ((v1 &&& (1 <<< (v0 &&& 31))) : Int32) = 0 then
  gz 0 (some 0)
  else
  gz 1 (some 1))
def mX_lemmasCitedByAll_F4 (S : XS) (v1 : Int32) (ih : Int32 → Int32 → Option Int32) (v2 : Int32) (v3 : Int32) : Option Int32 :=
  (if ((S 14 0) : Int32) ≤ v3 then
  some v2
  else
  (mX_isIn v3 v1).bind fun x14 =>
  (if (x14 : Int32) = 0 then
  ih v2 (v3 + 1)
  else
  (rdA (S 11) 12 v3).bind fun x26 =>
  ih (v2 ||| x26) (v3 + 1)))
def mX_lemmasCitedByAll (S : XS) (v1 : Int32) : Option Int32 :=
  itr2 (mX_lemmasCitedByAll_F4 S v1) FUEL 0 0
def mX_citesToItself_F9 (S : XS) (v1 : Int32) (ih : Int32 → Int32 → Option Int32) (v2 : Int32) (v3 : Int32) : Option Int32 :=
  (if ((S 14 0) : Int32) < v3 then
  some 0
  else
  (mX_isIn v1 v2).bind fun x19 =>
  (if (x19 : Int32) = 0 then
  (mX_lemmasCitedByAll S v2).bind fun x29 =>
  ih x29 (v3 + 1)
  else
  some v3))
def mX_citesToItself (S : XS) (v1 : Int32) : Option Int32 :=
  (rdA (S 11) 12 v1).bind fun x5 =>
  itr2 (mX_citesToItself_F9 S v1) FUEL x5 1
def mX_settle_F60 (ih : XS → Int32 → Option (Int32 × XS)) (S : XS) (v1 : Int32) : Option (Int32 × XS) :=
  (if ((S 14 0) : Int32) ≤ v1 then
  some (0, S)
  else
  (mX_citesToItself S v1).bind fun x75 =>
  wrS 12 v1 (sU S 12 (upd (S 12) (v1 : Int32).toNatClampNeg x75)) fun S78 =>
  ih S78 (v1 + 1))
def mX_settle_F33 (ih : XS → Int32 → Option (Int32 × XS)) (S : XS) (v1 : Int32) : Option (Int32 × XS) :=
  (if ((S 14 0) : Int32) ≤ v1 then
  itr2 (mX_settle_F60) FUEL S 0
  else
  (mX_lemmasCitedBy S v1).bind fun x48 =>
  wrS 12 v1 (sU S 11 (upd (S 11) (v1 : Int32).toNatClampNeg x48)) fun S51 =>
  ih S51 (v1 + 1))
def mX_settle (S : XS) : Option (Int32 × XS) :=
  rb (mX_prove S 8 (-1)) fun x7 S7 =>
  stS (sU S7 15 (fun _ => x7)) fun S10 =>
  rb (mX_reckon S10 9 0) fun x19 S19 =>
  rb (mX_reckon S19 10 1) fun x28 S28 =>
  itr2 (mX_settle_F33) FUEL S28 0
def mX_take (S : XS) (v1 : Int32) (v2 : Int32) : Option ((Int32 × XS) ⊕ Nat) :=
  tb (mX_requireAxiom v1) fun x1 =>
  (rdA (S 1) 5 v1).bind fun x9 =>
  wrS 5 v1 (sU S 1 (upd (S 1) (v1 : Int32).toNatClampNeg (v2 &&& 1))) fun S17 =>
  rb (mX_settle S17) fun x19 S19 =>
  gz x9 (some (.inl (x9, S19)))
def mX_lemma (S : XS) : Option ((Int32 × XS) ⊕ Nat) :=
  (if ((S 14 0) : Int32) < 12 then
  stS (sU S 14 (fun _ => ((S 14 0) + 1))) fun S26 =>
  rb (mX_settle S26) fun x30 S30 =>
  some (.inl (((S30 14 0) - 1), S30))
  else
  some (.inr 2))
def mX_requireLemma (S : XS) (v1 : Int32) : Option (Int32 ⊕ Nat) :=
  (mX_isLemma S v1).bind fun x2 =>
  (if (x2 : Int32) = 0 then
  some (.inr 1)
  else
  some (.inl 0))
def mX_proof (S : XS) (v1 : Int32) : Option ((Int32 × XS) ⊕ Nat) :=
  tb (mX_requireLemma S v1) fun x2 =>
  (rdA (S 2) 12 v1).bind fun x10 =>
  (if (x10 : Int32) < 3 then
  (mX_slotOf v1 x10).bind fun x33 =>
  wrS 36 x33 (sU S 3 (upd (S 3) (x33 : Int32).toNatClampNeg 0)) fun S37 =>
  wrS 12 v1 (sU S37 2 (upd (S37 2) (v1 : Int32).toNatClampNeg (x10 + 1))) fun S46 =>
  rb (mX_settle S46) fun x48 S48 =>
  some (.inl (x10, S48))
  else
  some (.inr 2))
def mX_requireProof (S : XS) (v1 : Int32) (v2 : Int32) : Option (Int32 ⊕ Nat) :=
  tb (mX_requireLemma S v1) fun x2 =>
  (if (v2 : Int32) < 0 then
  some (.inr 1)
  else
  (rdA (S 2) 12 v1).bind fun x15 =>
  (if (v2 : Int32) < x15 then
  some (.inl 0)
  else
  some (.inr 1)))
def mX_requireCitable (S : XS) (v1 : Int32) (v2 : Int32) : Option (Int32 ⊕ Nat) :=
  (if (v1 : Int32) < 0 then
  some (.inr 1)
  else
  (if (v1 : Int32) ≤ 2 then
  (if (v1 : Int32) = 0 then
  tb (mX_requireAxiom v2) fun x24 =>
  some (.inl 0)
  else
  (if (v1 : Int32) = 1 then
  tb (mX_requireLemma S v2) fun x37 =>
  some (.inl 0)
  else
  (if (v2 : Int32) < 1 then
  some (.inr 3)
  else
  (if (v2 : Int32) ≤ 9 then
  some (.inl 0)
  else
  some (.inr 3)))))
  else
  some (.inr 1)))
def mX_cite_J83 (S : XS) (v5 : Int32) (v6 : Int32) (t0 : Int32) (t1 : Int32) : Option ((Int32 × XS) ⊕ Nat) :=
  wrS 180 t1 (sU S 6 (upd (S 6) (t1 : Int32).toNatClampNeg t0)) fun S83 =>
  wrS 180 v6 (sU S83 7 (upd (S83 7) (v6 : Int32).toNatClampNeg (0 &&& 1))) fun S91 =>
  (rdA (S91 3) 36 v5).bind fun x99 =>
  wrS 36 v5 (sU S91 3 (upd (S91 3) (v5 : Int32).toNatClampNeg (x99 + 1))) fun S102 =>
  rb (mX_settle S102) fun x104 S104 =>
  (rdA (S104 3) 36 v5).bind fun x113 =>
  some (.inl (x113, S104))
def mX_cite (S : XS) (v1 : Int32) (v2 : Int32) (v3 : Int32) (v4 : Int32) : Option ((Int32 × XS) ⊕ Nat) :=
  tb (mX_requireProof S v1 v2) fun x3 =>
  tb (mX_requireCitable S v3 v4) fun x10 =>
  (mX_slotOf v1 v2).bind fun x15 =>
  (rdA (S 3) 36 x15).bind fun x26 =>
  (if (x26 : Int32) < 5 then
  (mX_endOfSteps S x15).bind fun x44 =>
  wrS 180 x44 (sU S 4 (upd (S 4) (x44 : Int32).toNatClampNeg v3)) fun S56 =>
  wrS 180 x44 (sU S56 5 (upd (S56 5) (x44 : Int32).toNatClampNeg v4)) fun S65 =>
  (if (v3 : Int32) = 2 then
  mX_cite_J83 S65 x15 x44 v4 x44
  else
  mX_cite_J83 S65 x15 x44 0 x44)
  else
  some (.inr 2))
def mX_requireStep (S : XS) (v1 : Int32) (v2 : Int32) (v3 : Int32) : Option (Int32 ⊕ Nat) :=
  tb (mX_requireProof S v1 v2) fun x3 =>
  (if (v3 : Int32) < 0 then
  some (.inr 1)
  else
  (mX_slotOf v1 v2).bind fun x17 =>
  (rdA (S 3) 36 x17).bind fun x20 =>
  (if (v3 : Int32) < x20 then
  some (.inl 0)
  else
  some (.inr 1)))
def mX_patch (S : XS) (v1 : Int32) (v2 : Int32) (v3 : Int32) (v4 : Int32) : Option ((Int32 × XS) ⊕ Nat) :=
  tb (mX_requireStep S v1 v2 v3) fun x4 =>
  (if (v4 : Int32) < 1 then
  some (.inr 3)
  else
  (if (v4 : Int32) ≤ 9 then
  (mX_stepAt v1 v2 v3).bind fun x33 =>
  (rdA (S 6) 180 x33).bind fun x44 =>
  (if (x44 : Int32) = 0 then
  some (.inr 2)
  else
  (rdA (S 6) 180 x33).bind fun x70 =>
  wrS 180 x33 (sU S 6 (upd (S 6) (x33 : Int32).toNatClampNeg (lmax (x70 - v4) 0))) fun S78 =>
  rb (mX_settle S78) fun x80 S80 =>
  (rdA (S80 6) 180 x33).bind fun x89 =>
  some (.inl (x89, S80)))
  else
  some (.inr 3)))
def mX_withdraw (S : XS) (v1 : Int32) (v2 : Int32) (v3 : Int32) : Option ((Int32 × XS) ⊕ Nat) :=
  tb (mX_requireStep S v1 v2 v3) fun x4 =>
  (mX_stepAt v1 v2 v3).bind fun x10 =>
  (rdA (S 7) 180 x10).bind fun x27 =>
  (if (x27 : Int32) = 0 then
  wrS 180 x10 (sU S 7 (upd (S 7) (x10 : Int32).toNatClampNeg (1 &&& 1))) fun S36 =>
  rb (mX_settle S36) fun x38 S38 =>
  (rdA (S38 7) 180 x10).bind fun x47 =>
  gz x47 (some (.inl (x47, S38)))
  else
  wrS 180 x10 (sU S 7 (upd (S 7) (x10 : Int32).toNatClampNeg (0 &&& 1))) fun S36 =>
  rb (mX_settle S36) fun x38 S38 =>
  (rdA (S38 7) 180 x10).bind fun x47 =>
  gz x47 (some (.inl (x47, S38))))
def mX_moveUp_F32 (v1 : Int32) (v3 : Int32) (ih : XS → Int32 → Option (Int32 × XS)) (S : XS) (v4 : Int32) : Option (Int32 × XS) :=
  (mX_endOfSteps S v1).bind fun x36 =>
  (if (x36 : Int32) ≤ v4 then
  some (0, S)
  else
  (rdA (S 4) 180 (v4 + v3)).bind fun x56 =>
  wrS 180 v4 (sU S 4 (upd (S 4) (v4 : Int32).toNatClampNeg x56)) fun S57 =>
  (rdA (S57 5) 180 (v4 + v3)).bind fun x72 =>
  wrS 180 v4 (sU S57 5 (upd (S57 5) (v4 : Int32).toNatClampNeg x72)) fun S73 =>
  (rdA (S73 6) 180 (v4 + v3)).bind fun x88 =>
  wrS 180 v4 (sU S73 6 (upd (S73 6) (v4 : Int32).toNatClampNeg x88)) fun S89 =>
  (rdA (S89 7) 180 (v4 + v3)).bind fun x104 =>
  wrS 180 v4 (sU S89 7 (upd (S89 7) (v4 : Int32).toNatClampNeg (x104 &&& 1))) fun S105 =>
  ih S105 (v4 + 1))
def mX_moveUp (S : XS) (v1 : Int32) : Option (Int32 × XS) :=
  (mX_firstStepOf (v1 + 1)).bind fun x5 =>
  (mX_firstStepOf v1).bind fun x9 =>
  (rdA (S 3) 36 (v1 + 1)).bind fun x24 =>
  wrS 36 v1 (sU S 3 (upd (S 3) (v1 : Int32).toNatClampNeg x24)) fun S25 =>
  (mX_firstStepOf v1).bind fun x27 =>
  itr2 (mX_moveUp_F32 v1 (x5 - x9)) FUEL S25 x27
def mX_strike_F18 (v1 : Int32) (ih : XS → Int32 → Option ((Int32 × XS) ⊕ Nat)) (S : XS) (v3 : Int32) : Option ((Int32 × XS) ⊕ Nat) :=
  (rdA (S 2) 12 v1).bind fun x24 =>
  (if (x24 : Int32) ≤ v3 then
  rb (mX_settle S) fun x44 S44 =>
  (rdA (S44 2) 12 v1).bind fun x52 =>
  some (.inl (x52, S44))
  else
  (mX_slotOf v1 v3).bind fun x31 =>
  rb (mX_moveUp S x31) fun x34 S34 =>
  ih S34 (v3 + 1))
def mX_strike (S : XS) (v1 : Int32) (v2 : Int32) : Option ((Int32 × XS) ⊕ Nat) :=
  tb (mX_requireProof S v1 v2) fun x3 =>
  (rdA (S 2) 12 v1).bind fun x12 =>
  wrS 12 v1 (sU S 2 (upd (S 2) (v1 : Int32).toNatClampNeg (x12 - 1))) fun S15 =>
  itr2 (mX_strike_F18 v1) FUEL S15 v2
def mX_requireAsk (v0 : Int32) (v1 : Int32) : Option (Int32 ⊕ Nat) :=
  (if (v0 : Int32) < 0 then
  some (.inr 1)
  else
  (if (v0 : Int32) < v1 then
  some (.inl 0)
  else
  some (.inr 1)))
def mX_told (S : XS) (v1 : Int32) (v2 : Int32) : Option (Int32 ⊕ Nat) :=
  tb (mX_requireLemma S v1) fun x2 =>
  tb (mX_requireAsk v2 7) fun x8 =>
  (mX_lemmaTells S v1 v2).bind fun x14 =>
  some (.inl x14)
def mX_step (S : XS) (v1 : Int32) (v2 : Int32) (v3 : Int32) (v4 : Int32) : Option (Int32 ⊕ Nat) :=
  tb (mX_requireStep S v1 v2 v3) fun x4 =>
  tb (mX_requireAsk v4 4) fun x10 =>
  (mX_stepAt v1 v2 v3).bind fun x17 =>
  (mX_stepTells S x17 v4).bind fun x22 =>
  some (.inl x22)
def mX_about (S : XS) (v1 : Int32) (v2 : Int32) (v3 : Int32) : Option (Int32 ⊕ Nat) :=
  tb (mX_requireProof S v1 v2) fun x3 =>
  tb (mX_requireAsk v3 4) fun x8 =>
  (mX_slotOf v1 v2).bind fun x13 =>
  (if (v3 : Int32) = 0 then
  (rdA (S 3) 36 x13).bind fun x50 =>
  some (.inl x50)
  else
  if (v3 : Int32) = 1 then
  (mX_holds S x13 8 13).bind fun x61 =>
  (if (x61 : Int32) = 0 then
  some (.inl 0)
  else
  some (.inl 1))
  else
  if (v3 : Int32) = 2 then
  (mX_costOfProof S x13 9 0).bind fun x81 =>
  (mX_orNone x81).bind fun x84 =>
  some (.inl x84)
  else
  (mX_costOfProof S x13 10 1).bind fun x96 =>
  (mX_orNone x96).bind fun x99 =>
  some (.inl x99))
def mX_count (S : XS) (v1 : Int32) : Option (Int32 ⊕ Nat) :=
  tb (mX_requireAsk v1 7) fun x3 =>
  (mX_countOf S v1).bind fun x8 =>
  some (.inl x8)
def mX_best_F14 (S : XS) (v1 : Int32) (ih : Int32 → Int32 → Int32 → Option (Int32 ⊕ Nat)) (v2 : Int32) (v3 : Int32) (v4 : Int32) : Option (Int32 ⊕ Nat) :=
  (rdA (S 2) 12 v1).bind fun x21 =>
  (if (x21 : Int32) ≤ v4 then
  some (.inl v2)
  else
  (mX_slotOf v1 v4).bind fun x29 =>
  (mX_costOfProof S x29 9 0).bind fun x37 =>
  (if (v3 : Int32) ≤ x37 then
  ih v2 v3 (v4 + 1)
  else
  ih v4 x37 (v4 + 1)))
def mX_best (S : XS) (v1 : Int32) : Option (Int32 ⊕ Nat) :=
  tb (mX_requireLemma S v1) fun x2 =>
  itr3 (mX_best_F14 S v1) FUEL (-1) 9999 0
def mX_without (S : XS) (v1 : Int32) : Option ((Int32 × XS) ⊕ Nat) :=
  tb (mX_requireLemma S v1) fun x2 =>
  rb (mX_prove S 13 v1) fun x11 S11 =>
  some (.inl (x11, S11))
def mX_needs (S : XS) (v1 : Int32) (v2 : Int32) : Option ((Int32 × XS) ⊕ Nat) :=
  tb (mX_requireLemma S v1) fun x2 =>
  tb (mX_requireAxiom v2) fun x6 =>
  (rdA (S 1) 5 v2).bind fun x14 =>
  wrS 5 v2 (sU S 1 (upd (S 1) (v2 : Int32).toNatClampNeg (0 &&& 1))) fun S22 =>
  rb (mX_prove S22 13 (-1)) fun x29 S29 =>
  wrS 5 v2 (sU S29 1 (upd (S29 1) (v2 : Int32).toNatClampNeg (x14 &&& 1))) fun S39 =>
  (rdA (S39 8) 12 v1).bind fun x45 =>
  (if (x45 : Int32) ≤ 0 then
  gz 0 (some (.inl (0, S39)))
  else
  (rdA (S39 13) 12 v1).bind fun x54 =>
  (if (x54 : Int32) = 0 then
  gz 1 (some (.inl (1, S39)))
  else
  gz 0 (some (.inl (0, S39)))))
def mM_thrown (S : XS) : Option Int32 :=
  some (S 15 0)
def mM_isIn (v0 : Int32) (v1 : Int32) (v2 : Int32) : Option Int32 :=
  (if (v0 : Int32) < v1 then
  gz 0 (some 0)
  else
  (if (v2 : Int32) < v0 then
  gz 0 (some 0)
  else
  gz 1 (some 1)))
def mM_isAxiom (v0 : Int32) : Option Int32 :=
  (mM_isIn v0 0 4).bind fun x3 =>
  gz x3 (some x3)
def mM_take_J13 (S : XS) (v1 : Int32) (v2 : Int32) (t0 : Int32) : Option (Int32 × XS) :=
  stS (sU S 15 (fun _ => t0)) fun S13 =>
  (if ((S13 15 0) : Int32) ≤ 0 then
  (rdA (S13 1) 5 v1).bind fun x30 =>
  wrS 5 v1 (sU S13 1 (upd (S13 1) (v1 : Int32).toNatClampNeg (v2 &&& 1))) fun S38 =>
  gz x30 (some (x30, S38))
  else
  gz 0 (some (0, S13)))
def mM_take (S : XS) (v1 : Int32) (v2 : Int32) : Option (Int32 × XS) :=
  (mM_isAxiom v1).bind fun x2 =>
  (if (x2 : Int32) = 0 then
  mM_take_J13 S v1 v2 1
  else
  mM_take_J13 S v1 v2 0)
def mM_no (S : XS) (v1 : Int32) : Option (Int32 × XS) :=
  stS (sU S 15 (fun _ => v1)) fun S2 =>
  some (0, S2)
def mM_lemma (S : XS) : Option (Int32 × XS) :=
  stS (sU S 15 (fun _ => 0)) fun S2 =>
  (if ((S2 14 0) : Int32) = 12 then
  rb (mM_no S2 1) fun x16 S16 =>
  some (x16, S16)
  else
  stS (sU S2 14 (fun _ => ((S2 14 0) + 1))) fun S27 =>
  some (((S27 14 0) - 1), S27))
def mM_isLemma (S : XS) (v1 : Int32) : Option Int32 :=
  (mM_isIn v1 0 ((S 14 0) - 1)).bind fun x8 =>
  gz x8 (some x8)
def mM_proof (S : XS) (v1 : Int32) : Option (Int32 × XS) :=
  stS (sU S 15 (fun _ => 0)) fun S2 =>
  (mM_isLemma S2 v1).bind fun x7 =>
  (if (x7 : Int32) = 0 then
  rb (mM_no S2 1) fun x15 S15 =>
  some (x15, S15)
  else
  (rdA (S2 2) 12 v1).bind fun x24 =>
  (if (x24 : Int32) = 3 then
  rb (mM_no S2 2) fun x31 S31 =>
  some (x31, S31)
  else
  (rdA (S2 2) 12 v1).bind fun x47 =>
  wrS 36 ((3 * v1) + x47) (sU S2 3 (upd (S2 3) (((3 * v1) + x47) : Int32).toNatClampNeg 0)) fun S50 =>
  (rdA (S50 2) 12 v1).bind fun x57 =>
  wrS 12 v1 (sU S50 2 (upd (S50 2) (v1 : Int32).toNatClampNeg (x57 + 1))) fun S60 =>
  (rdA (S60 2) 12 v1).bind fun x66 =>
  some ((x66 - 1), S60)))
def mM_isProof (S : XS) (v1 : Int32) (v2 : Int32) : Option Int32 :=
  (mM_isLemma S v1).bind fun x2 =>
  (if (x2 : Int32) = 0 then
  gz 0 (some 0)
  else
  (rdA (S 2) 12 v1).bind fun x15 =>
  (mM_isIn v2 0 (x15 - 1)).bind fun x18 =>
  (if (x18 : Int32) = 0 then
  gz 0 (some 0)
  else
  gz 1 (some 1)))
def mM_at (v0 : Int32) (v1 : Int32) (v2 : Int32) : Option Int32 :=
  some ((5 * ((3 * v0) + v1)) + v2)
def mM_cite_J149 (S : XS) (v5 : Int32) (v6 : Int32) (t0 : Int32) (t1 : Int32) : Option (Int32 × XS) :=
  wrS 180 t1 (sU S 6 (upd (S 6) (t1 : Int32).toNatClampNeg t0)) fun S149 =>
  wrS 180 v6 (sU S149 7 (upd (S149 7) (v6 : Int32).toNatClampNeg (0 &&& 1))) fun S157 =>
  (rdA (S157 3) 36 v5).bind fun x165 =>
  wrS 36 v5 (sU S157 3 (upd (S157 3) (v5 : Int32).toNatClampNeg (x165 + 1))) fun S168 =>
  (rdA (S168 3) 36 v5).bind fun x175 =>
  some (x175, S168)
def mM_cite_J77 (S : XS) (v1 : Int32) (v2 : Int32) (v3 : Int32) (v4 : Int32) : Option (Int32 × XS) :=
  (rdA (S 3) 36 ((3 * v1) + v2)).bind fun x90 =>
  (if (x90 : Int32) = 5 then
  rb (mM_no S 3) fun x97 S97 =>
  some (x97, S97)
  else
  (rdA (S 3) 36 ((3 * v1) + v2)).bind fun x109 =>
  (mM_at v1 v2 x109).bind fun x110 =>
  wrS 180 x110 (sU S 4 (upd (S 4) (x110 : Int32).toNatClampNeg v3)) fun S122 =>
  wrS 180 x110 (sU S122 5 (upd (S122 5) (x110 : Int32).toNatClampNeg v4)) fun S131 =>
  (if (v3 : Int32) = 2 then
  mM_cite_J149 S131 ((3 * v1) + v2) x110 v4 x110
  else
  mM_cite_J149 S131 ((3 * v1) + v2) x110 0 x110))
def mM_cite_J55 (S : XS) (v1 : Int32) (v2 : Int32) (v3 : Int32) (v4 : Int32) : Option (Int32 × XS) :=
  (if (v3 : Int32) = 2 then
  (mM_isIn v4 1 9).bind fun x65 =>
  (if (x65 : Int32) = 0 then
  rb (mM_no S 2) fun x73 S73 =>
  some (x73, S73)
  else
  mM_cite_J77 S v1 v2 v3 v4)
  else
  mM_cite_J77 S v1 v2 v3 v4)
def mM_cite_J35 (S : XS) (v1 : Int32) (v2 : Int32) (v3 : Int32) (v4 : Int32) : Option (Int32 × XS) :=
  (if (v3 : Int32) = 1 then
  (mM_isLemma S v4).bind fun x43 =>
  (if (x43 : Int32) = 0 then
  rb (mM_no S 1) fun x51 S51 =>
  some (x51, S51)
  else
  mM_cite_J55 S v1 v2 v3 v4)
  else
  mM_cite_J55 S v1 v2 v3 v4)
def mM_cite (S : XS) (v1 : Int32) (v2 : Int32) (v3 : Int32) (v4 : Int32) : Option (Int32 × XS) :=
  stS (sU S 15 (fun _ => 0)) fun S2 =>
  (mM_isProof S2 v1 v2).bind fun x8 =>
  (if (x8 : Int32) = 0 then
  rb (mM_no S2 1) fun x51 S51 =>
  some (x51, S51)
  else
  (mM_isIn v3 0 2).bind fun x17 =>
  (if (x17 : Int32) = 0 then
  rb (mM_no S2 1) fun x51 S51 =>
  some (x51, S51)
  else
  (if (v3 : Int32) = 0 then
  (mM_isAxiom v4).bind fun x29 =>
  (if (x29 : Int32) = 0 then
  rb (mM_no S2 1) fun x51 S51 =>
  some (x51, S51)
  else
  mM_cite_J35 S2 v1 v2 v3 v4)
  else
  mM_cite_J35 S2 v1 v2 v3 v4)))
def mM_isStep (S : XS) (v1 : Int32) (v2 : Int32) (v3 : Int32) : Option Int32 :=
  (mM_isProof S v1 v2).bind fun x3 =>
  (if (x3 : Int32) = 0 then
  gz 0 (some 0)
  else
  (rdA (S 3) 36 ((3 * v1) + v2)).bind fun x20 =>
  (mM_isIn v3 0 (x20 - 1)).bind fun x23 =>
  (if (x23 : Int32) = 0 then
  gz 0 (some 0)
  else
  gz 1 (some 1)))
def mM_patch (S : XS) (v1 : Int32) (v2 : Int32) (v3 : Int32) (v4 : Int32) : Option (Int32 × XS) :=
  stS (sU S 15 (fun _ => 0)) fun S2 =>
  (mM_isStep S2 v1 v2 v3).bind fun x9 =>
  (if (x9 : Int32) = 0 then
  rb (mM_no S2 1) fun x17 S17 =>
  some (x17, S17)
  else
  (mM_isIn v4 1 9).bind fun x26 =>
  (if (x26 : Int32) = 0 then
  rb (mM_no S2 2) fun x34 S34 =>
  some (x34, S34)
  else
  (mM_at v1 v2 v3).bind fun x41 =>
  (rdA (S2 6) 180 x41).bind fun x52 =>
  (if (x52 : Int32) = 0 then
  rb (mM_no S2 3) fun x58 S58 =>
  some (x58, S58)
  else
  (rdA (S2 6) 180 x41).bind fun x75 =>
  wrS 180 x41 (sU S2 6 (upd (S2 6) (x41 : Int32).toNatClampNeg (lmax 0 (x75 - v4)))) fun S82 =>
  (rdA (S82 6) 180 x41).bind fun x89 =>
  some (x89, S82))))
def mM_withdraw_J16 (S : XS) (v1 : Int32) (v2 : Int32) (v3 : Int32) (t0 : Int32) : Option (Int32 × XS) :=
  stS (sU S 15 (fun _ => t0)) fun S16 =>
  (if ((S16 15 0) : Int32) ≤ 0 then
  (mM_at v1 v2 v3).bind fun x31 =>
  (rdA (S16 7) 180 x31).bind fun x48 =>
  (if (x48 : Int32) = 0 then
  wrS 180 x31 (sU S16 7 (upd (S16 7) (x31 : Int32).toNatClampNeg (1 &&& 1))) fun S57 =>
  (rdA (S57 7) 180 x31).bind fun x64 =>
  gz x64 (some (x64, S57))
  else
  wrS 180 x31 (sU S16 7 (upd (S16 7) (x31 : Int32).toNatClampNeg (0 &&& 1))) fun S57 =>
  (rdA (S57 7) 180 x31).bind fun x64 =>
  gz x64 (some (x64, S57)))
  else
  gz 0 (some (0, S16)))
def mM_withdraw (S : XS) (v1 : Int32) (v2 : Int32) (v3 : Int32) : Option (Int32 × XS) :=
  (mM_isStep S v1 v2 v3).bind fun x5 =>
  (if (x5 : Int32) = 0 then
  mM_withdraw_J16 S v1 v2 v3 1
  else
  mM_withdraw_J16 S v1 v2 v3 0)
def mM_layOver (S : XS) (v1 : Int32) (v2 : Int32) : Option (Int32 × XS) :=
  (rdA (S 3) 36 v1).bind fun x10 =>
  wrS 36 v2 (sU S 3 (upd (S 3) (v2 : Int32).toNatClampNeg x10)) fun S11 =>
  cpI 180 (5 * v1) (5 * v2) 5 (S11 4) (fun g => sU S11 4 g) fun S27 =>
  cpI 180 (5 * v1) (5 * v2) 5 (S27 5) (fun g => sU S27 5 g) fun S45 =>
  cpI 180 (5 * v1) (5 * v2) 5 (S45 6) (fun g => sU S45 6 g) fun S63 =>
  cpZ 180 (5 * v1) (5 * v2) 5 (S63 7) (fun g => sU S63 7 g) fun S81 =>
  some (0, S81)
def mM_strike_F22 (v1 : Int32) (ih : XS → Int32 → Option (Int32 × XS)) (S : XS) (v3 : Int32) : Option (Int32 × XS) :=
  (rdA (S 2) 12 v1).bind fun x30 =>
  (if (x30 : Int32) ≤ (v3 + 1) then
  (rdA (S 2) 12 v1).bind fun x62 =>
  wrS 12 v1 (sU S 2 (upd (S 2) (v1 : Int32).toNatClampNeg (x62 - 1))) fun S65 =>
  (rdA (S65 2) 12 v1).bind fun x71 =>
  some (x71, S65)
  else
  rb (mM_layOver S (((3 * v1) + v3) + 1) ((3 * v1) + v3)) fun x47 S47 =>
  ih S47 (v3 + 1))
def mM_strike (S : XS) (v1 : Int32) (v2 : Int32) : Option (Int32 × XS) :=
  stS (sU S 15 (fun _ => 0)) fun S2 =>
  (mM_isProof S2 v1 v2).bind fun x8 =>
  (if (x8 : Int32) = 0 then
  rb (mM_no S2 1) fun x16 S16 =>
  some (x16, S16)
  else
  itr2 (mM_strike_F22 v1) FUEL S2 v2)
def mM_isWhole_F2 (S : XS) (v1 : Int32) (v2 : Int32) (ih : Int32 → Option Int32) (v3 : Int32) : Option Int32 :=
  (rdA (S 3) 36 ((3 * v1) + v2)).bind fun x12 =>
  (if (x12 : Int32) ≤ v3 then
  (rdA (S 3) 36 ((3 * v1) + v2)).bind fun x47 =>
  (if (x47 : Int32) ≤ 0 then
  gz 0 (some 0)
  else
  gz 1 (some 1))
  else
  (mM_at v1 v2 v3).bind fun x23 =>
  (rdA (S 7) 180 x23).bind fun x26 =>
  (if (x26 : Int32) = 0 then
  ih (v3 + 1)
  else
  gz 0 (some 0)))
def mM_isWhole (S : XS) (v1 : Int32) (v2 : Int32) : Option Int32 :=
  itr1 (mM_isWhole_F2 S v1 v2) FUEL 0
def mM_lengthOf_J102 (S : XS) (k : Int32 → Int32 → Option Int32) (v1 : Int32) (v2 : Int32) (v3 : Int32) (v4 : Int32) (v5 : Int32) (t0 : Int32) : Option Int32 :=
  (if (t0 : Int32) = 0 then
  (rdA (S 4) 180 v5).bind fun x122 =>
  (if (x122 : Int32) = 1 then
  (rdA (S 5) 180 v5).bind fun x137 =>
  (rdA (S 9) 12 x137).bind fun x138 =>
  k (v3 + x138) (v4 + 1)
  else
  k (v3 + 0) (v4 + 1))
  else
  k (v3 + 9999) (v4 + 1))
def mM_lengthOf_J101 (S : XS) (k : Int32 → Int32 → Option Int32) (v1 : Int32) (v2 : Int32) (v3 : Int32) (v4 : Int32) (v5 : Int32) : Option Int32 :=
  mM_lengthOf_J102 S k v1 v2 v3 v4 v5 0
def mM_lengthOf_J97 (S : XS) (k : Int32 → Int32 → Option Int32) (v1 : Int32) (v2 : Int32) (v3 : Int32) (v4 : Int32) (v5 : Int32) : Option Int32 :=
  mM_lengthOf_J102 S k v1 v2 v3 v4 v5 1
def mM_lengthOf_J76 (S : XS) (k : Int32 → Int32 → Option Int32) (v1 : Int32) (v2 : Int32) (v3 : Int32) (v4 : Int32) (v5 : Int32) : Option Int32 :=
  (rdA (S 4) 180 v5).bind fun x82 =>
  (if (x82 : Int32) = 2 then
  (rdA (S 6) 180 v5).bind fun x93 =>
  (if (x93 : Int32) ≤ 0 then
  mM_lengthOf_J101 S k v1 v2 v3 v4 v5
  else
  mM_lengthOf_J97 S k v1 v2 v3 v4 v5)
  else
  mM_lengthOf_J101 S k v1 v2 v3 v4 v5)
def mM_lengthOf_F27 (S : XS) (v1 : Int32) (v2 : Int32) (ih : Int32 → Int32 → Option Int32) (v3 : Int32) (v4 : Int32) : Option Int32 :=
  (rdA (S 3) 36 ((3 * v1) + v2)).bind fun x38 =>
  (if (x38 : Int32) ≤ v4 then
  some (lmin 9999 v3)
  else
  (mM_at v1 v2 v4).bind fun x46 =>
  (rdA (S 4) 180 x46).bind fun x57 =>
  (if (x57 : Int32) = 0 then
  (rdA (S 5) 180 x46).bind fun x71 =>
  (rdA (S 1) 5 x71).bind fun x72 =>
  (if (x72 : Int32) = 0 then
  mM_lengthOf_J97 S ih v1 v2 v3 v4 x46
  else
  mM_lengthOf_J76 S ih v1 v2 v3 v4 x46)
  else
  mM_lengthOf_J76 S ih v1 v2 v3 v4 x46))
def mM_lengthOf (S : XS) (v1 : Int32) (v2 : Int32) : Option Int32 :=
  (mM_isWhole S v1 v2).bind fun x3 =>
  (if (x3 : Int32) = 0 then
  some 9999
  else
  (rdA (S 3) 36 ((3 * v1) + v2)).bind fun x22 =>
  itr2 (mM_lengthOf_F27 S v1 v2) FUEL x22 0)
def mM_getsShorter_F9 (S : XS) (v1 : Int32) (ih : Int32 → Int32 → Option (Int32 × XS)) (v2 : Int32) (v3 : Int32) : Option (Int32 × XS) :=
  (rdA (S 2) 12 v1).bind fun x15 =>
  (if (x15 : Int32) ≤ v3 then
  (rdA (S 9) 12 v1).bind fun x42 =>
  (if (x42 : Int32) ≤ v2 then
  wrS 12 v1 (sU S 9 (upd (S 9) (v1 : Int32).toNatClampNeg v2)) fun S58 =>
  gz 0 (some (0, S58))
  else
  wrS 12 v1 (sU S 9 (upd (S 9) (v1 : Int32).toNatClampNeg v2)) fun S58 =>
  gz 1 (some (1, S58)))
  else
  (mM_lengthOf S v1 v3).bind fun x23 =>
  ih (lmin v2 x23) (v3 + 1))
def mM_getsShorter (S : XS) (v1 : Int32) : Option (Int32 × XS) :=
  (rdA (S 9) 12 v1).bind fun x5 =>
  itr2 (mM_getsShorter_F9 S v1) FUEL x5 0
def mM_priceOf_J96 (S : XS) (k : Int32 → Int32 → Option Int32) (v1 : Int32) (v2 : Int32) (v3 : Int32) (v4 : Int32) (v5 : Int32) : Option Int32 :=
  (rdA (S 4) 180 v5).bind fun x103 =>
  (if (x103 : Int32) = 2 then
  (rdA (S 6) 180 v5).bind fun x114 =>
  k (v3 + x114) (v4 + 1)
  else
  (rdA (S 4) 180 v5).bind fun x124 =>
  (if (x124 : Int32) = 1 then
  (rdA (S 5) 180 v5).bind fun x139 =>
  (rdA (S 10) 12 x139).bind fun x140 =>
  k (v3 + x140) (v4 + 1)
  else
  k (v3 + 0) (v4 + 1)))
def mM_priceOf_J65 (S : XS) (k : Int32 → Int32 → Option Int32) (v1 : Int32) (v2 : Int32) (v3 : Int32) (v4 : Int32) (v5 : Int32) : Option Int32 :=
  (rdA (S 4) 180 v5).bind fun x71 =>
  (if (x71 : Int32) = 1 then
  (rdA (S 5) 180 v5).bind fun x86 =>
  (rdA (S 10) 12 x86).bind fun x87 =>
  (if (x87 : Int32) = 9999 then
  some (-1)
  else
  mM_priceOf_J96 S k v1 v2 v3 v4 v5)
  else
  mM_priceOf_J96 S k v1 v2 v3 v4 v5)
def mM_priceOf_F16 (S : XS) (v1 : Int32) (v2 : Int32) (ih : Int32 → Int32 → Option Int32) (v3 : Int32) (v4 : Int32) : Option Int32 :=
  (rdA (S 3) 36 ((3 * v1) + v2)).bind fun x27 =>
  (if (x27 : Int32) ≤ v4 then
  (if (v3 : Int32) < 9999 then
  some v3
  else
  some (-1))
  else
  (mM_at v1 v2 v4).bind fun x35 =>
  (rdA (S 4) 180 x35).bind fun x46 =>
  (if (x46 : Int32) = 0 then
  (rdA (S 5) 180 x35).bind fun x60 =>
  (rdA (S 1) 5 x60).bind fun x61 =>
  (if (x61 : Int32) = 0 then
  some (-1)
  else
  mM_priceOf_J65 S ih v1 v2 v3 v4 x35)
  else
  mM_priceOf_J65 S ih v1 v2 v3 v4 x35))
def mM_priceOf (S : XS) (v1 : Int32) (v2 : Int32) : Option Int32 :=
  (mM_isWhole S v1 v2).bind fun x3 =>
  (if (x3 : Int32) = 0 then
  some (-1)
  else
  itr2 (mM_priceOf_F16 S v1 v2) FUEL 0 0)
def mM_getsCheaper_F9 (S : XS) (v1 : Int32) (ih : Int32 → Int32 → Option (Int32 × XS)) (v2 : Int32) (v3 : Int32) : Option (Int32 × XS) :=
  (rdA (S 2) 12 v1).bind fun x15 =>
  (if (x15 : Int32) ≤ v3 then
  (rdA (S 10) 12 v1).bind fun x52 =>
  (if (x52 : Int32) ≤ v2 then
  wrS 12 v1 (sU S 10 (upd (S 10) (v1 : Int32).toNatClampNeg v2)) fun S68 =>
  gz 0 (some (0, S68))
  else
  wrS 12 v1 (sU S 10 (upd (S 10) (v1 : Int32).toNatClampNeg v2)) fun S68 =>
  gz 1 (some (1, S68)))
  else
  (mM_priceOf S v1 v3).bind fun x22 =>
  (if (x22 : Int32) = (-1) then
  ih v2 (v3 + 1)
  else
  (mM_priceOf S v1 v3).bind fun x33 =>
  ih (lmin v2 x33) (v3 + 1)))
def mM_getsCheaper (S : XS) (v1 : Int32) : Option (Int32 × XS) :=
  (rdA (S 10) 12 v1).bind fun x5 =>
  itr2 (mM_getsCheaper_F9 S v1) FUEL x5 0
def mM_measure_F44 (k : XS → Int32 → Option (Int32 × XS)) (ih : XS → Int32 → Int32 → Option (Int32 × XS)) (S : XS) (v1 : Int32) (v2 : Int32) : Option (Int32 × XS) :=
  (if ((S 14 0) : Int32) ≤ v2 then
  k S v1
  else
  rb (mM_getsShorter S v2) fun x55 S55 =>
  rb (mM_getsCheaper S55 v2) fun x63 S63 =>
  ih S63 ((v1 ||| x55) ||| x63) (v2 + 1))
def mM_measure_F36 (ih : XS → Int32 → Option (Int32 × XS)) (S : XS) (v1 : Int32) : Option (Int32 × XS) :=
  (if (v1 : Int32) = 0 then
  some (0, S)
  else
  itr3 (mM_measure_F44 ih) FUEL S 0 0)
def mM_measure_F2 (ih : XS → Int32 → Option (Int32 × XS)) (S : XS) (v1 : Int32) : Option (Int32 × XS) :=
  (if ((S 14 0) : Int32) ≤ v1 then
  itr2 (mM_measure_F36) FUEL S 1
  else
  wrS 12 v1 (sU S 9 (upd (S 9) (v1 : Int32).toNatClampNeg 9999)) fun S18 =>
  wrS 12 v1 (sU S18 10 (upd (S18 10) (v1 : Int32).toNatClampNeg 9999)) fun S27 =>
  ih S27 (v1 + 1))
def mM_measure (S : XS) : Option (Int32 × XS) :=
  itr2 (mM_measure_F2) FUEL S 0
def mM_stepsOf_F4 (S : XS) (v1 : Int32) (ih : Int32 → Int32 → Option Int32) (v2 : Int32) (v3 : Int32) : Option Int32 :=
  (rdA (S 2) 12 v1).bind fun x10 =>
  (if (x10 : Int32) ≤ v3 then
  some v2
  else
  (rdA (S 3) 36 ((3 * v1) + v3)).bind fun x24 =>
  ih (v2 + x24) (v3 + 1))
def mM_stepsOf (S : XS) (v1 : Int32) : Option Int32 :=
  itr2 (mM_stepsOf_F4 S v1) FUEL 0 0
def mM_does (S : XS) (v1 : Int32) (v2 : Int32) (v3 : Int32) : Option Int32 :=
  (rdA (S 4) 180 v1).bind fun x5 =>
  (if (x5 : Int32) = 0 then
  (rdA (S 5) 180 v1).bind fun x41 =>
  (rdA (S 1) 5 x41).bind fun x42 =>
  gz x42 (some x42)
  else
  if (x5 : Int32) = 1 then
  (rdA (S 5) 180 v1).bind fun x49 =>
  (if (x49 : Int32) = v3 then
  gz 0 (some 0)
  else
  (rdA (S 5) 180 v1).bind fun x63 =>
  (rdA (S 8) 12 x63).bind fun x64 =>
  (if (x64 : Int32) ≤ 0 then
  gz 0 (some 0)
  else
  (rdA (S 5) 180 v1).bind fun x77 =>
  (rdA (S 8) 12 x77).bind fun x78 =>
  (if (v2 : Int32) ≤ x78 then
  gz 0 (some 0)
  else
  gz 1 (some 1))))
  else
  (rdA (S 6) 180 v1).bind fun x94 =>
  (if (x94 : Int32) = 0 then
  gz 1 (some 1)
  else
  gz 0 (some 0)))
def mM_holds_F14 (S : XS) (v1 : Int32) (v2 : Int32) (v3 : Int32) (v4 : Int32) (ih : Int32 → Option Int32) (v5 : Int32) : Option Int32 :=
  (rdA (S 3) 36 ((3 * v1) + v2)).bind fun x25 =>
  (if (x25 : Int32) ≤ v5 then
  gz 1 (some 1)
  else
  (mM_at v1 v2 v5).bind fun x34 =>
  (mM_does S x34 v3 v4).bind fun x40 =>
  (if (x40 : Int32) = 0 then
  gz 0 (some 0)
  else
  ih (v5 + 1)))
def mM_holds (S : XS) (v1 : Int32) (v2 : Int32) (v3 : Int32) (v4 : Int32) : Option Int32 :=
  (mM_isWhole S v1 v2).bind fun x3 =>
  (if (x3 : Int32) = 0 then
  gz 0 (some 0)
  else
  itr1 (mM_holds_F14 S v1 v2 v3 v4) FUEL 0)
def mM_hasProof_F3 (S : XS) (v1 : Int32) (v2 : Int32) (v3 : Int32) (ih : Int32 → Option Int32) (v4 : Int32) : Option Int32 :=
  (rdA (S 2) 12 v1).bind fun x10 =>
  (if (x10 : Int32) ≤ v4 then
  gz 0 (some 0)
  else
  (mM_holds S v1 v4 v2 v3).bind fun x20 =>
  (if (x20 : Int32) = 0 then
  ih (v4 + 1)
  else
  gz 1 (some 1)))
def mM_hasProof (S : XS) (v1 : Int32) (v2 : Int32) (v3 : Int32) : Option Int32 :=
  itr1 (mM_hasProof_F3 S v1 v2 v3) FUEL 0
def mM_prove_F40 (k : XS → Int32 → Int32 → Int32 → Option (Int32 × XS)) (v1 : Int32) (v3 : Int32) (v4 : Int32) (ih : XS → Int32 → Int32 → Option (Int32 × XS)) (S : XS) (v2 : Int32) (v5 : Int32) : Option (Int32 × XS) :=
  (if ((S 14 0) : Int32) ≤ v5 then
  k S v2 v3 (v4 + 1)
  else
  (if (v5 : Int32) = v1 then
  ih S v2 (v5 + 1)
  else
  (rdA (S 8) 12 v5).bind fun x61 =>
  (if (0 : Int32) < x61 then
  ih S v2 (v5 + 1)
  else
  (mM_hasProof S v5 v4 v1).bind fun x71 =>
  (if (x71 : Int32) = 0 then
  ih S v2 (v5 + 1)
  else
  wrS 12 v5 (sU S 8 (upd (S 8) (v5 : Int32).toNatClampNeg v4)) fun S88 =>
  ih S88 (v2 + 1) (v5 + 1)))))
def mM_prove_F30 (v1 : Int32) (ih : XS → Int32 → Int32 → Int32 → Option (Int32 × XS)) (S : XS) (v2 : Int32) (v3 : Int32) (v4 : Int32) : Option (Int32 × XS) :=
  (if (v3 : Int32) = v2 then
  some (v2, S)
  else
  itr3 (mM_prove_F40 ih v1 v2 v4) FUEL S v2 0)
def mM_prove_F2 (v1 : Int32) (ih : XS → Int32 → Option (Int32 × XS)) (S : XS) (v2 : Int32) : Option (Int32 × XS) :=
  (if ((S 14 0) : Int32) ≤ v2 then
  itr4 (mM_prove_F30 v1) FUEL S 0 (-1) 1
  else
  wrS 12 v2 (sU S 8 (upd (S 8) (v2 : Int32).toNatClampNeg 0)) fun S16 =>
  ih S16 (v2 + 1))
def mM_prove (S : XS) (v1 : Int32) : Option (Int32 × XS) :=
  itr2 (mM_prove_F2 v1) FUEL S 0
def mM_stageOf (S : XS) (v1 : Int32) : Option (Int32 × XS) :=
  rb (mM_prove S (-1)) fun x2 S2 =>
  (rdA (S2 8) 12 v1).bind fun x11 =>
  some (x11, S2)
def mM_told (v0 : Int32) : Option Int32 :=
  (if (v0 : Int32) = 9999 then
  some (-1)
  else
  some v0)
def mM_openOf_F17 (S : XS) (k : Int32 → Int32 → Option Int32) (v1 : Int32) (v3 : Int32) (ih : Int32 → Int32 → Option Int32) (v2 : Int32) (v4 : Int32) : Option Int32 :=
  (rdA (S 3) 36 ((3 * v1) + v3)).bind fun x28 =>
  (if (x28 : Int32) ≤ v4 then
  k v2 (v3 + 1)
  else
  (mM_at v1 v3 v4).bind fun x41 =>
  (rdA (S 6) 180 x41).bind fun x44 =>
  ih (v2 + x44) (v4 + 1))
def mM_openOf_F4 (S : XS) (v1 : Int32) (ih : Int32 → Int32 → Option Int32) (v2 : Int32) (v3 : Int32) : Option Int32 :=
  (rdA (S 2) 12 v1).bind fun x10 =>
  (if (x10 : Int32) ≤ v3 then
  some v2
  else
  itr2 (mM_openOf_F17 S ih v1 v3) FUEL v2 0)
def mM_openOf (S : XS) (v1 : Int32) : Option Int32 :=
  itr2 (mM_openOf_F4 S v1) FUEL 0 0
def mM_leads_F15 (S : XS) (k : Int32 → Option Int32) (v1 : Int32) (v2 : Int32) (v3 : Int32) (ih : Int32 → Option Int32) (v4 : Int32) : Option Int32 :=
  (rdA (S 3) 36 ((3 * v1) + v3)).bind fun x26 =>
  (if (x26 : Int32) ≤ v4 then
  k (v3 + 1)
  else
  (mM_at v1 v3 v4).bind fun x38 =>
  (rdA (S 4) 180 x38).bind fun x41 =>
  (if (x41 : Int32) = 1 then
  (mM_at v1 v3 v4).bind fun x54 =>
  (rdA (S 5) 180 x54).bind fun x57 =>
  (if (x57 : Int32) = v2 then
  gz 1 (some 1)
  else
  ih (v4 + 1))
  else
  ih (v4 + 1)))
def mM_leads_F2 (S : XS) (v1 : Int32) (v2 : Int32) (ih : Int32 → Option Int32) (v3 : Int32) : Option Int32 :=
  (rdA (S 2) 12 v1).bind fun x8 =>
  (if (x8 : Int32) ≤ v3 then
  gz 0 (some 0)
  else
  itr1 (mM_leads_F15 S ih v1 v2 v3) FUEL 0)
def mM_leads (S : XS) (v1 : Int32) (v2 : Int32) : Option Int32 :=
  itr1 (mM_leads_F2 S v1 v2) FUEL 0
def mM_circle_F83 (k : XS → Int32 → Option (Int32 × XS)) (v1 : Int32) (v2 : Int32) (v3 : Int32) (ih : XS → Int32 → Option (Int32 × XS)) (S : XS) (v4 : Int32) : Option (Int32 × XS) :=
  (if ((S 14 0) : Int32) ≤ v4 then
  k S (v3 + 1)
  else
  (rdA (S 11) 12 v4).bind fun x98 =>
  (if (x98 : Int32) = 0 then
  (mM_leads S v3 v4).bind fun x106 =>
  (if (x106 : Int32) = 0 then
  ih S (v4 + 1)
  else
  wrS 12 v4 (sU S 11 (upd (S 11) (v4 : Int32).toNatClampNeg v2)) fun S119 =>
  ih S119 (v4 + 1))
  else
  ih S (v4 + 1)))
def mM_circle_F57 (k : XS → Int32 → Option (Int32 × XS)) (v1 : Int32) (v2 : Int32) (ih : XS → Int32 → Option (Int32 × XS)) (S : XS) (v3 : Int32) : Option (Int32 × XS) :=
  (if ((S 14 0) : Int32) ≤ v3 then
  k S (v2 + 1)
  else
  (rdA (S 11) 12 v3).bind fun x70 =>
  (if (x70 : Int32) = (v2 - 1) then
  itr2 (mM_circle_F83 ih v1 v2 v3) FUEL S 0
  else
  ih S (v3 + 1)))
def mM_circle_F38 (v1 : Int32) (ih : XS → Int32 → Option (Int32 × XS)) (S : XS) (v2 : Int32) : Option (Int32 × XS) :=
  (if ((S 14 0) : Int32) < v2 then
  (rdA (S 11) 12 v1).bind fun x143 =>
  some (x143, S)
  else
  (rdA (S 11) 12 v1).bind fun x51 =>
  (if (x51 : Int32) = 0 then
  itr2 (mM_circle_F57 ih v1 v2) FUEL S 0
  else
  (rdA (S 11) 12 v1).bind fun x143 =>
  some (x143, S)))
def mM_circle_F2 (v1 : Int32) (ih : XS → Int32 → Option (Int32 × XS)) (S : XS) (v2 : Int32) : Option (Int32 × XS) :=
  (if ((S 14 0) : Int32) ≤ v2 then
  itr2 (mM_circle_F38 v1) FUEL S 2
  else
  (mM_leads S v1 v2).bind fun x18 =>
  (if (x18 : Int32) = 0 then
  wrS 12 v2 (sU S 11 (upd (S 11) (v2 : Int32).toNatClampNeg 0)) fun S29 =>
  ih S29 (v2 + 1)
  else
  wrS 12 v2 (sU S 11 (upd (S 11) (v2 : Int32).toNatClampNeg 1)) fun S29 =>
  ih S29 (v2 + 1)))
def mM_circle (S : XS) (v1 : Int32) : Option (Int32 × XS) :=
  itr2 (mM_circle_F2 v1) FUEL S 0
def mM_lemmaTold (S : XS) (v1 : Int32) (v2 : Int32) : Option (Int32 × XS) :=
  rb (mM_measure S) fun x1 S1 =>
  (if (v2 : Int32) = 0 then
  (rdA (S1 2) 12 v1).bind fun x49 =>
  some (x49, S1)
  else
  if (v2 : Int32) = 1 then
  (mM_stepsOf S1 v1).bind fun x53 =>
  some (x53, S1)
  else
  if (v2 : Int32) = 2 then
  rb (mM_stageOf S1 v1) fun x59 S59 =>
  some (x59, S59)
  else
  if (v2 : Int32) = 3 then
  (rdA (S1 9) 12 v1).bind fun x68 =>
  (mM_told x68).bind fun x69 =>
  some (x69, S1)
  else
  if (v2 : Int32) = 4 then
  (rdA (S1 10) 12 v1).bind fun x78 =>
  (mM_told x78).bind fun x79 =>
  some (x79, S1)
  else
  if (v2 : Int32) = 5 then
  (mM_openOf S1 v1).bind fun x85 =>
  some (x85, S1)
  else
  rb (mM_circle S1 v1) fun x91 S91 =>
  some (x91, S91))
def mM_told_ (S : XS) (v1 : Int32) (v2 : Int32) : Option (Int32 × XS) :=
  stS (sU S 15 (fun _ => 0)) fun S2 =>
  (mM_isLemma S2 v1).bind fun x7 =>
  (if (x7 : Int32) = 0 then
  rb (mM_no S2 1) fun x34 S34 =>
  some (x34, S34)
  else
  (mM_isIn v2 0 6).bind fun x17 =>
  (if (x17 : Int32) = 0 then
  rb (mM_no S2 1) fun x34 S34 =>
  some (x34, S34)
  else
  rb (mM_lemmaTold S2 v1 v2) fun x26 S26 =>
  some (x26, S26)))
def mM_stepTold (S : XS) (v1 : Int32) (v2 : Int32) : Option Int32 :=
  (if (v2 : Int32) = 0 then
  (rdA (S 4) 180 v1).bind fun x9 =>
  some x9
  else
  (if (v2 : Int32) = 1 then
  (rdA (S 5) 180 v1).bind fun x23 =>
  some x23
  else
  (if (v2 : Int32) = 2 then
  (rdA (S 6) 180 v1).bind fun x37 =>
  some x37
  else
  (rdA (S 7) 180 v1).bind fun x46 =>
  (if (x46 : Int32) = 0 then
  some 0
  else
  some 1))))
def mM_step (S : XS) (v1 : Int32) (v2 : Int32) (v3 : Int32) (v4 : Int32) : Option (Int32 × XS) :=
  stS (sU S 15 (fun _ => 0)) fun S2 =>
  (mM_isStep S2 v1 v2 v3).bind fun x9 =>
  (if (x9 : Int32) = 0 then
  rb (mM_no S2 1) fun x42 S42 =>
  some (x42, S42)
  else
  (mM_isIn v4 0 3).bind fun x19 =>
  (if (x19 : Int32) = 0 then
  rb (mM_no S2 1) fun x42 S42 =>
  some (x42, S42)
  else
  (mM_at v1 v2 v3).bind fun x29 =>
  (mM_stepTold S2 x29 v4).bind fun x34 =>
  some (x34, S2)))
def mM_proofTold (S : XS) (v1 : Int32) (v2 : Int32) (v3 : Int32) : Option (Int32 × XS) :=
  rb (mM_measure S) fun x1 S1 =>
  rb (mM_prove S1 (-1)) fun x6 S6 =>
  (if (v3 : Int32) = 0 then
  (rdA (S6 3) 36 ((3 * v1) + v2)).bind fun x45 =>
  some (x45, S6)
  else
  if (v3 : Int32) = 1 then
  (mM_holds S6 v1 v2 ((S6 14 0) + 2) (-1)).bind fun x57 =>
  (if (x57 : Int32) = 0 then
  some (0, S6)
  else
  some (1, S6))
  else
  if (v3 : Int32) = 2 then
  (mM_lengthOf S6 v1 v2).bind fun x72 =>
  (mM_told x72).bind fun x75 =>
  some (x75, S6)
  else
  (mM_priceOf S6 v1 v2).bind fun x82 =>
  some (x82, S6))
def mM_about (S : XS) (v1 : Int32) (v2 : Int32) (v3 : Int32) : Option (Int32 × XS) :=
  stS (sU S 15 (fun _ => 0)) fun S2 =>
  (mM_isProof S2 v1 v2).bind fun x8 =>
  (if (x8 : Int32) = 0 then
  rb (mM_no S2 1) fun x35 S35 =>
  some (x35, S35)
  else
  (mM_isIn v3 0 3).bind fun x17 =>
  (if (x17 : Int32) = 0 then
  rb (mM_no S2 1) fun x35 S35 =>
  some (x35, S35)
  else
  rb (mM_proofTold S2 v1 v2 v3) fun x27 S27 =>
  some (x27, S27)))
def mM_counted_F51 (S : XS) (v4 : Int32) (ih : Int32 → Int32 → Option (Int32 × XS)) (v2 : Int32) (v5 : Int32) : Option (Int32 × XS) :=
  (if (v4 : Int32) ≤ v5 then
  some (v2, S)
  else
  (rdA (S 1) 5 v5).bind fun x61 =>
  (if (x61 : Int32) = 0 then
  ih (v2 + 0) (v5 + 1)
  else
  ih (v2 + 1) (v5 + 1)))
def mM_counted_F87 (v1 : Int32) (ih : XS → Int32 → Int32 → Option (Int32 × XS)) (S : XS) (v2 : Int32) (v3 : Int32) : Option (Int32 × XS) :=
  (if ((S 14 0) : Int32) ≤ v3 then
  some (v2, S)
  else
  (if (v1 : Int32) = 3 then
  (rdA (S 2) 12 v3).bind fun x106 =>
  ih S (v2 + x106) (v3 + 1)
  else
  (if (v1 : Int32) = 4 then
  (mM_stepsOf S v3).bind fun x117 =>
  ih S (v2 + x117) (v3 + 1)
  else
  (if (v1 : Int32) = 5 then
  (mM_openOf S v3).bind fun x130 =>
  ih S (v2 + x130) (v3 + 1)
  else
  rb (mM_circle S v3) fun x138 S138 =>
  (if (x138 : Int32) ≤ 0 then
  ih S138 (v2 + 0) (v3 + 1)
  else
  ih S138 (v2 + 1) (v3 + 1))))))
def mM_counted (S : XS) (v1 : Int32) : Option (Int32 × XS) :=
  (if (v1 : Int32) = 0 then
  some ((S 14 0), S)
  else
  if (v1 : Int32) = 1 then
  rb (mM_prove S (-1)) fun x35 S35 =>
  some (x35, S35)
  else
  if (v1 : Int32) = 2 then
  itr2 (mM_counted_F51 S 5) FUEL 0 0
  else
  itr3 (mM_counted_F87 v1) FUEL S 0 0)
def mM_count (S : XS) (v1 : Int32) : Option (Int32 × XS) :=
  stS (sU S 15 (fun _ => 0)) fun S2 =>
  (mM_isIn v1 0 6).bind fun x9 =>
  (if (x9 : Int32) = 0 then
  rb (mM_no S2 1) fun x25 S25 =>
  some (x25, S25)
  else
  rb (mM_counted S2 v1) fun x17 S17 =>
  some (x17, S17))
def mM_bestOf_F8 (S : XS) (v1 : Int32) (ih : Int32 → Int32 → Option (Int32 × XS)) (v2 : Int32) (v3 : Int32) : Option (Int32 × XS) :=
  (rdA (S 2) 12 v1).bind fun x14 =>
  (if (x14 : Int32) ≤ v3 then
  some (v2, S)
  else
  (mM_lengthOf S v1 v3).bind fun x21 =>
  (if (v2 : Int32) = (-1) then
  (if (9999 : Int32) ≤ x21 then
  ih v2 (v3 + 1)
  else
  ih v3 (v3 + 1))
  else
  (mM_lengthOf S v1 v2).bind fun x38 =>
  (if (x38 : Int32) ≤ x21 then
  ih v2 (v3 + 1)
  else
  ih v3 (v3 + 1))))
def mM_bestOf (S : XS) (v1 : Int32) : Option (Int32 × XS) :=
  rb (mM_measure S) fun x1 S1 =>
  itr2 (mM_bestOf_F8 S1 v1) FUEL (-1) 0
def mM_best (S : XS) (v1 : Int32) : Option (Int32 × XS) :=
  stS (sU S 15 (fun _ => 0)) fun S2 =>
  (mM_isLemma S2 v1).bind fun x7 =>
  (if (x7 : Int32) = 0 then
  rb (mM_no S2 1) fun x23 S23 =>
  some (x23, S23)
  else
  rb (mM_bestOf S2 v1) fun x15 S15 =>
  some (x15, S15))
def mM_without (S : XS) (v1 : Int32) : Option (Int32 × XS) :=
  stS (sU S 15 (fun _ => 0)) fun S2 =>
  (mM_isLemma S2 v1).bind fun x7 =>
  (if (x7 : Int32) = 0 then
  rb (mM_no S2 1) fun x23 S23 =>
  some (x23, S23)
  else
  rb (mM_prove S2 v1) fun x15 S15 =>
  some (x15, S15))
def mM_isNeeded (S : XS) (v1 : Int32) (v2 : Int32) : Option (Int32 × XS) :=
  (rdA (S 1) 5 v2).bind fun x5 =>
  (if (x5 : Int32) = 0 then
  gz 0 (some (0, S))
  else
  rb (mM_stageOf S v1) fun x11 S11 =>
  (if (x11 : Int32) = 0 then
  gz 0 (some (0, S11))
  else
  wrS 5 v2 (sU S11 1 (upd (S11 1) (v2 : Int32).toNatClampNeg (0 &&& 1))) fun S25 =>
  rb (mM_stageOf S25 v1) fun x28 S28 =>
  (if (x28 : Int32) = 0 then
  wrS 5 v2 (sU S28 1 (upd (S28 1) (v2 : Int32).toNatClampNeg (1 &&& 1))) fun S46 =>
  gz 1 (some (1, S46))
  else
  wrS 5 v2 (sU S28 1 (upd (S28 1) (v2 : Int32).toNatClampNeg (1 &&& 1))) fun S46 =>
  gz 0 (some (0, S46)))))
def mM_needs (S : XS) (v1 : Int32) (v2 : Int32) : Option (Int32 × XS) :=
  (mM_isLemma S v1).bind fun x3 =>
  (if (x3 : Int32) = 0 then
  stS (sU S 15 (fun _ => 1)) fun S21 =>
  (if ((S21 15 0) : Int32) = 0 then
  rb (mM_isNeeded S21 v1 v2) fun x34 S34 =>
  (if (x34 : Int32) = 0 then
  gz 0 (some (0, S34))
  else
  gz 1 (some (1, S34)))
  else
  gz 0 (some (0, S21)))
  else
  (mM_isAxiom v2).bind fun x10 =>
  (if (x10 : Int32) = 0 then
  stS (sU S 15 (fun _ => 1)) fun S21 =>
  (if ((S21 15 0) : Int32) = 0 then
  rb (mM_isNeeded S21 v1 v2) fun x34 S34 =>
  (if (x34 : Int32) = 0 then
  gz 0 (some (0, S34))
  else
  gz 1 (some (1, S34)))
  else
  gz 0 (some (0, S21)))
  else
  stS (sU S 15 (fun _ => 0)) fun S21 =>
  (if ((S21 15 0) : Int32) = 0 then
  rb (mM_isNeeded S21 v1 v2) fun x34 S34 =>
  (if (x34 : Int32) = 0 then
  gz 0 (some (0, S34))
  else
  gz 1 (some (1, S34)))
  else
  gz 0 (some (0, S21)))))
def mM_provedBy (S : XS) (v1 : Int32) : Option (Int32 × XS) :=
  (rdA (S 6) 180 v1).bind fun x5 =>
  wrS 180 v1 (sU S 6 (upd (S 6) (v1 : Int32).toNatClampNeg 0)) fun S13 =>
  rb (mM_prove S13 (-1)) fun x16 S16 =>
  wrS 180 v1 (sU S16 6 (upd (S16 6) (v1 : Int32).toNatClampNeg x5)) fun S26 =>
  some (x16, S26)
def mM_advise_J86 (S : XS) (k : XS → Int32 → Int32 → Int32 → Option (Int32 × XS)) (v1 : Int32) (v2 : Int32) (v3 : Int32) (v4 : Int32) (v5 : Int32) (t0 : Int32) : Option (Int32 × XS) :=
  (if (v2 : Int32) < t0 then
  k S (((100 * v3) + (10 * v4)) + v5) t0 (v5 + 1)
  else
  k S v1 v2 (v5 + 1))
def mM_advise_F40 (k : XS → Int32 → Int32 → Int32 → Option (Int32 × XS)) (v3 : Int32) (v4 : Int32) (ih : XS → Int32 → Int32 → Int32 → Option (Int32 × XS)) (S : XS) (v1 : Int32) (v2 : Int32) (v5 : Int32) : Option (Int32 × XS) :=
  (rdA (S 3) 36 ((3 * v3) + v4)).bind fun x52 =>
  (if (x52 : Int32) ≤ v5 then
  k S v1 v2 (v4 + 1)
  else
  (mM_at v3 v4 v5).bind fun x61 =>
  (rdA (S 6) 180 x61).bind fun x72 =>
  (if (x72 : Int32) ≤ 0 then
  mM_advise_J86 S ih v1 v2 v3 v4 v5 0
  else
  rb (mM_provedBy S x61) fun x79 S79 =>
  mM_advise_J86 S79 ih v1 v2 v3 v4 v5 x79))
def mM_advise_F26 (k : XS → Int32 → Int32 → Int32 → Option (Int32 × XS)) (v3 : Int32) (ih : XS → Int32 → Int32 → Int32 → Option (Int32 × XS)) (S : XS) (v1 : Int32) (v2 : Int32) (v4 : Int32) : Option (Int32 × XS) :=
  (rdA (S 2) 12 v3).bind fun x33 =>
  (if (x33 : Int32) ≤ v4 then
  k S v1 v2 (v3 + 1)
  else
  itr4 (mM_advise_F40 ih v3 v4) FUEL S v1 v2 0)
def mM_advise_F15 (ih : XS → Int32 → Int32 → Int32 → Option (Int32 × XS)) (S : XS) (v1 : Int32) (v2 : Int32) (v3 : Int32) : Option (Int32 × XS) :=
  (if ((S 14 0) : Int32) ≤ v3 then
  some (v1, S)
  else
  itr4 (mM_advise_F26 ih v3) FUEL S v1 v2 0)
def mM_advise (S : XS) : Option (Int32 × XS) :=
  stS (sU S 15 (fun _ => 0)) fun S2 =>
  rb (mM_prove S2 (-1)) fun x9 S9 =>
  itr4 (mM_advise_F15) FUEL S9 (-1) x9 0
def mM_mean (S : XS) : Option (UInt64 × XS) :=
  stS (sU S 15 (fun _ => 0)) fun S2 =>
  (if ((S2 14 0) : Int32) = 0 then
  some (FP.dconst0, S2)
  else
  rb (mM_counted S2 4) fun x18 S18 =>
  (dvD (FP.i2d x18) (FP.i2d (S18 14 0))).bind fun x27 =>
  some (x27, S18))
def mM_digest_F181 (S : XS) (k : Int64 → Int32 → Option (Int64 × XS)) (v3 : Int32) (v4 : Int32) (v5 : Int32) (ih : Int64 → Int32 → Option (Int64 × XS)) (v1 : Int64) (v6 : Int32) : Option (Int64 × XS) :=
  (if (3 : Int32) < v6 then
  k v1 (v5 + 1)
  else
  (mM_at v3 v4 v5).bind fun x198 =>
  (mM_stepTold S x198 v6).bind fun x203 =>
  ih ((v1 * 31) + (x203 : Int32).toInt64) (v6 + 1))
def mM_digest_F162 (S : XS) (k : Int64 → Int32 → Option (Int64 × XS)) (v3 : Int32) (v4 : Int32) (ih : Int64 → Int32 → Option (Int64 × XS)) (v1 : Int64) (v5 : Int32) : Option (Int64 × XS) :=
  (rdA (S 3) 36 ((3 * v3) + v4)).bind fun x174 =>
  (if (x174 : Int32) ≤ v5 then
  k v1 (v4 + 1)
  else
  itr2 (mM_digest_F181 S ih v3 v4 v5) FUEL v1 0)
def mM_digest_F129 (S : XS) (k : XS → Int64 → Int32 → Option (Int64 × XS)) (v3 : Int32) (ih : Int64 → Int32 → Option (Int64 × XS)) (v1 : Int64) (v4 : Int32) : Option (Int64 × XS) :=
  (rdA (S 2) 12 v3).bind fun x136 =>
  (if (x136 : Int32) ≤ v4 then
  k S v1 (v3 + 1)
  else
  (rdA (S 3) 36 ((3 * v3) + v4)).bind fun x155 =>
  itr2 (mM_digest_F162 S ih v3 v4) FUEL ((v1 * 31) + (x155 : Int32).toInt64) 0)
def mM_digest_F98 (k : XS → Int64 → Int32 → Option (Int64 × XS)) (v3 : Int32) (ih : XS → Int64 → Int32 → Option (Int64 × XS)) (S : XS) (v1 : Int64) (v4 : Int32) : Option (Int64 × XS) :=
  (if (6 : Int32) < v4 then
  itr2 (mM_digest_F129 S k v3) FUEL v1 0
  else
  rb (mM_lemmaTold S v3 v4) fun x114 S114 =>
  ih S114 ((v1 * 31) + (x114 : Int32).toInt64) (v4 + 1))
def mM_digest_F87 (ih : XS → Int64 → Int32 → Option (Int64 × XS)) (S : XS) (v1 : Int64) (v3 : Int32) : Option (Int64 × XS) :=
  (if ((S 14 0) : Int32) ≤ v3 then
  some (v1, S)
  else
  itr3 (mM_digest_F98 ih v3) FUEL S v1 0)
def mM_digest_F48 (S : XS) (v4 : Int32) (ih : Int64 → Int32 → Option (Int64 × XS)) (v1 : Int64) (v5 : Int32) : Option (Int64 × XS) :=
  (if (v4 : Int32) ≤ v5 then
  itr3 (mM_digest_F87) FUEL S v1 0
  else
  (rdA (S 1) 5 v5).bind fun x58 =>
  (if (x58 : Int32) = 0 then
  ih ((v1 * 31) + (0 : Int32).toInt64) (v5 + 1)
  else
  ih ((v1 * 31) + (1 : Int32).toInt64) (v5 + 1)))
def mM_digest_F11 (ih : XS → Int64 → Int32 → Option (Int64 × XS)) (S : XS) (v1 : Int64) (v3 : Int32) : Option (Int64 × XS) :=
  (if (6 : Int32) < v3 then
  itr2 (mM_digest_F48 S 5) FUEL v1 0
  else
  rb (mM_counted S v3) fun x24 S24 =>
  ih S24 ((v1 * 31) + (x24 : Int32).toInt64) (v3 + 1))
def mM_digest (S : XS) : Option (Int64 × XS) :=
  stS (sU S 15 (fun _ => 0)) fun S2 =>
  itr3 (mM_digest_F11) FUEL S2 1847 0
end MIR
