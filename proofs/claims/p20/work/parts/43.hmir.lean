section HMIR
def mS_more_F10 (v0 : Nat) (v1 : Nat) (v2 : Nat) (ih : HS → Int32 → Option (Nat × HS)) (Hp : HS) (v3 : Int32) : Option (Nat × HS) :=
  (hlen 2 Hp v0).bind fun x12 =>
  (if (x12 : Int32) ≤ v3 then
  (hlen 2 Hp v0).bind fun x30 =>
  hstR 2 0 Hp v2 x30 v1 fun Hp32 =>
  some (v2, Hp32)
  else
  (hldR 2 Hp v0 v3).bind fun x20 =>
  hstR 2 0 Hp v2 v3 x20 fun Hp21 =>
  ih Hp21 (v3 + 1))
def mS_more (Hp0 : HS) (v0 : Nat) (v1 : Nat) : Option (Nat × HS) :=
  (hlen 2 Hp0 v0).bind fun x1 =>
  hnw 2 [v0, v1] Hp0 (x1 + 1) fun Hp4 x4 =>
  itr2 (mS_more_F10 v0 v1 x4) 16 Hp4 0
def mS_isWhole_F10 (Hp : HS) (v0 : Nat) (v2 : Nat) (v3 : Int32) (ih : Int32 → Int32 → Option Int32) (v1 : Int32) (v4 : Int32) : Option Int32 :=
  (if (v3 : Int32) ≤ v4 then
  (hlen 2 Hp v0).bind fun x36 =>
  (if (x36 : Int32) ≤ 0 then
  gz 0 (some 0)
  else
  (if (v1 : Int32) = 0 then
  gz 1 (some 1)
  else
  gz 0 (some 0)))
  else
  (hldR 2 Hp v2 v4).bind fun x19 =>
  (hldI 0 Hp x19 3).bind fun x26 =>
  ih (v1 + x26) (v4 + 1))
def mS_isWhole (Hp : HS) (v0 : Nat) : Option Int32 :=
  (hlen 2 Hp v0).bind fun x5 =>
  itr2 (mS_isWhole_F10 Hp v0 v0 x5) 16 0 0
def mS_holds_F16 (Hp : HS) (v0 : Nat) (v2 : Nat) (v4 : Nat) (v5 : Int32) (ih : Int32 → Int32 → Option Int32) (v3 : Int32) (v6 : Int32) : Option Int32 :=
  (if (v5 : Int32) ≤ v6 then
  gz v3 (some v3)
  else
  (hldR 2 Hp v4 v6).bind fun x27 =>
  (hldI 0 Hp x27 0).bind fun x34 =>
  (if (x34 : Int32) = 0 then
  (hget Hp v0 0).bind fun x39 =>
  (hldI 0 Hp x27 1).bind fun x45 =>
  (hldI 1 Hp x39 x45).bind fun x46 =>
  ih (v3 &&& x46) (v6 + 1)
  else
  (hldI 0 Hp x27 0).bind fun x53 =>
  (if (x53 : Int32) = 1 then
  (hldI 0 Hp x27 1).bind fun x62 =>
  (hldI 0 Hp v2 x62).bind fun x63 =>
  (if (x63 : Int32) ≤ 0 then
  ih (v3 &&& 0) (v6 + 1)
  else
  ih (v3 &&& 1) (v6 + 1))
  else
  (hldI 0 Hp x27 2).bind fun x78 =>
  (if (x78 : Int32) = 0 then
  ih (v3 &&& 1) (v6 + 1)
  else
  ih (v3 &&& 0) (v6 + 1)))))
def mS_holds (Hp : HS) (v0 : Nat) (v1 : Nat) (v2 : Nat) : Option Int32 :=
  (hrc Hp [] (mS_isWhole Hp v1)).bind fun x1 =>
  (hlen 2 Hp v1).bind fun x10 =>
  itr2 (mS_holds_F16 Hp v0 v2 v1 x10) 16 x1 0
def mS_measure_J106 (Hp : HS) (kk : Int32 → Int32 → Option Int32) (v0 : Nat) (v2 : Nat) (v3 : Int32) (v4 : Int32) (v5 : Nat) (v6 : Int32) (v7 : Int32) (v8 : Nat) : Option Int32 :=
  (hldI 0 Hp v8 0).bind fun x111 =>
  (if (x111 : Int32) = 1 then
  (hldI 0 Hp v8 1).bind fun x120 =>
  (hldI 0 Hp v2 x120).bind fun x121 =>
  kk (v4 + x121) (v7 + 1)
  else
  (hldI 0 Hp v8 0).bind fun x128 =>
  (if (x128 : Int32) = 2 then
  (if (v3 : Int32) = 1 then
  (hldI 0 Hp v8 2).bind fun x141 =>
  kk (v4 + x141) (v7 + 1)
  else
  kk (v4 + 0) (v7 + 1))
  else
  kk (v4 + 0) (v7 + 1)))
def mS_measure_J84 (Hp : HS) (kk : Int32 → Int32 → Option Int32) (v0 : Nat) (v2 : Nat) (v3 : Int32) (v4 : Int32) (v5 : Nat) (v6 : Int32) (v7 : Int32) (v8 : Nat) : Option Int32 :=
  (hldI 0 Hp v8 0).bind fun x87 =>
  (if (x87 : Int32) = 2 then
  (if (v3 : Int32) = 0 then
  (hldI 0 Hp v8 2).bind fun x99 =>
  (if (x99 : Int32) ≤ 0 then
  mS_measure_J106 Hp kk v0 v2 v3 v4 v5 v6 v7 v8
  else
  some 100000)
  else
  mS_measure_J106 Hp kk v0 v2 v3 v4 v5 v6 v7 v8)
  else
  mS_measure_J106 Hp kk v0 v2 v3 v4 v5 v6 v7 v8)
def mS_measure_J64 (Hp : HS) (kk : Int32 → Int32 → Option Int32) (v0 : Nat) (v2 : Nat) (v3 : Int32) (v4 : Int32) (v5 : Nat) (v6 : Int32) (v7 : Int32) (v8 : Nat) : Option Int32 :=
  (hldI 0 Hp v8 0).bind fun x67 =>
  (if (x67 : Int32) = 1 then
  (hldI 0 Hp v8 1).bind fun x76 =>
  (hldI 0 Hp v2 x76).bind fun x77 =>
  (if (9998 : Int32) < x77 then
  some 100000
  else
  mS_measure_J84 Hp kk v0 v2 v3 v4 v5 v6 v7 v8)
  else
  mS_measure_J84 Hp kk v0 v2 v3 v4 v5 v6 v7 v8)
def mS_measure_J45 (Hp : HS) (kk : Int32 → Int32 → Option Int32) (v0 : Nat) (v2 : Nat) (v3 : Int32) (v4 : Int32) (v5 : Nat) (v6 : Int32) (v7 : Int32) (v8 : Nat) : Option Int32 :=
  (hldI 0 Hp v8 0).bind fun x48 =>
  (if (x48 : Int32) = 0 then
  (hget Hp v0 0).bind fun x53 =>
  (hldI 0 Hp v8 1).bind fun x59 =>
  (hldI 1 Hp x53 x59).bind fun x60 =>
  (if (x60 : Int32) = 0 then
  some 100000
  else
  mS_measure_J64 Hp kk v0 v2 v3 v4 v5 v6 v7 v8)
  else
  mS_measure_J64 Hp kk v0 v2 v3 v4 v5 v6 v7 v8)
def mS_measure_F24 (Hp : HS) (v0 : Nat) (v2 : Nat) (v3 : Int32) (v5 : Nat) (v6 : Int32) (ih : Int32 → Int32 → Option Int32) (v4 : Int32) (v7 : Int32) : Option Int32 :=
  (if (v6 : Int32) ≤ v7 then
  (if (v4 : Int32) ≤ 9998 then
  some v4
  else
  some 100000)
  else
  (hldR 2 Hp v5 v7).bind fun x35 =>
  (if (v3 : Int32) = 0 then
  mS_measure_J45 Hp ih v0 v2 v3 (v4 + 1) v5 v6 v7 x35
  else
  mS_measure_J45 Hp ih v0 v2 v3 v4 v5 v6 v7 x35))
def mS_measure (Hp : HS) (v0 : Nat) (v1 : Nat) (v2 : Nat) (v3 : Int32) : Option Int32 :=
  (hrc Hp [] (mS_isWhole Hp v1)).bind fun x1 =>
  (if (x1 : Int32) = 0 then
  some 100000
  else
  (hlen 2 Hp v1).bind fun x18 =>
  itr2 (mS_measure_F24 Hp v0 v2 v3 v1 x18) 16 0 0)
def mS_init (Hp0 : HS) (v0 : Nat) : Option (Int32 × HS) :=
  hnw 1 [v0] Hp0 5 fun Hp6 x6 =>
  hstI 1 Hp6 x6 0 (1 &&& 1) fun Hp11 =>
  hstI 1 Hp11 x6 1 (1 &&& 1) fun Hp15 =>
  hstI 1 Hp15 x6 2 (1 &&& 1) fun Hp19 =>
  hstI 1 Hp19 x6 3 (1 &&& 1) fun Hp23 =>
  hstI 1 Hp23 x6 4 (1 &&& 1) fun Hp27 =>
  hput 1 Hp27 v0 0 x6 fun Hp28 =>
  hnw 4 [v0] Hp28 0 fun Hp33 x33 =>
  hput 4 Hp33 v0 1 x33 fun Hp36 =>
  some (0, Hp36)
def mS_lemma_F13 (v0 : Nat) (v1 : Nat) (ih : HS → Int32 → Option (Int32 × HS)) (Hp : HS) (v2 : Int32) : Option (Int32 × HS) :=
  (hget Hp v0 1).bind fun x15 =>
  (hlen 4 Hp x15).bind fun x18 =>
  (if (x18 : Int32) ≤ v2 then
  (hget Hp v0 1).bind fun x39 =>
  (hlen 4 Hp x39).bind fun x42 =>
  hnw 3 [v0, v1] Hp 0 fun Hp44 x44 =>
  hstR 4 3 Hp44 v1 x42 x44 fun Hp47 =>
  hput 4 Hp47 v0 1 v1 fun Hp50 =>
  some (0, Hp50)
  else
  (hget Hp v0 1).bind fun x25 =>
  (hldR 4 Hp x25 v2).bind fun x29 =>
  hstR 4 3 Hp v1 v2 x29 fun Hp30 =>
  ih Hp30 (v2 + 1))
def mS_lemma (Hp0 : HS) (v0 : Nat) : Option (Int32 × HS) :=
  (hget Hp0 v0 1).bind fun x1 =>
  (hlen 4 Hp0 x1).bind fun x4 =>
  hnw 4 [v0] Hp0 (x4 + 1) fun Hp7 x7 =>
  itr2 (mS_lemma_F13 v0 x7) 16 Hp7 0
def mS_proof_F15 (v0 : Nat) (v1 : Int32) (v2 : Nat) (ih : HS → Int32 → Option (Int32 × HS)) (Hp : HS) (v3 : Int32) : Option (Int32 × HS) :=
  (hget Hp v0 1).bind fun x17 =>
  (hldR 4 Hp x17 v1).bind fun x21 =>
  (hlen 3 Hp x21).bind fun x22 =>
  (if (x22 : Int32) ≤ v3 then
  (hget Hp v0 1).bind fun x45 =>
  (hldR 4 Hp x45 v1).bind fun x49 =>
  (hlen 3 Hp x49).bind fun x50 =>
  hnw 2 [v0, v2] Hp 0 fun Hp52 x52 =>
  hstR 3 2 Hp52 v2 x50 x52 fun Hp55 =>
  (hget Hp55 v0 1).bind fun x57 =>
  hstR 4 3 Hp55 x57 v1 v2 fun Hp62 =>
  some (0, Hp62)
  else
  (hget Hp v0 1).bind fun x29 =>
  (hldR 4 Hp x29 v1).bind fun x33 =>
  (hldR 3 Hp x33 v3).bind fun x35 =>
  hstR 3 2 Hp v2 v3 x35 fun Hp36 =>
  ih Hp36 (v3 + 1))
def mS_proof (Hp0 : HS) (v0 : Nat) (v1 : Int32) : Option (Int32 × HS) :=
  (hget Hp0 v0 1).bind fun x1 =>
  (hldR 4 Hp0 x1 v1).bind fun x5 =>
  (hlen 3 Hp0 x5).bind fun x6 =>
  hnw 3 [v0] Hp0 (x6 + 1) fun Hp9 x9 =>
  itr2 (mS_proof_F15 v0 v1 x9) 16 Hp9 0
def mS_strike_F16 (v0 : Nat) (v1 : Int32) (v2 : Int32) (v3 : Nat) (ih : HS → Int32 → Option (Int32 × HS)) (Hp : HS) (v4 : Int32) : Option (Int32 × HS) :=
  (hlen 3 Hp v3).bind fun x19 =>
  (if (x19 : Int32) ≤ v4 then
  (hget Hp v0 1).bind fun x56 =>
  hstR 4 3 Hp x56 v1 v3 fun Hp61 =>
  some (0, Hp61)
  else
  (hget Hp v0 1).bind fun x27 =>
  (hldR 4 Hp x27 v1).bind fun x31 =>
  (if (v2 : Int32) ≤ v4 then
  (hldR 3 Hp x31 (v4 + 1)).bind fun x47 =>
  hstR 3 2 Hp v3 v4 x47 fun Hp48 =>
  ih Hp48 (v4 + 1)
  else
  (hldR 3 Hp x31 v4).bind fun x47 =>
  hstR 3 2 Hp v3 v4 x47 fun Hp48 =>
  ih Hp48 (v4 + 1)))
def mS_strike (Hp0 : HS) (v0 : Nat) (v1 : Int32) (v2 : Int32) : Option (Int32 × HS) :=
  (hget Hp0 v0 1).bind fun x1 =>
  (hldR 4 Hp0 x1 v1).bind fun x5 =>
  (hlen 3 Hp0 x5).bind fun x6 =>
  hnw 3 [v0] Hp0 (x6 - 1) fun Hp9 x9 =>
  itr2 (mS_strike_F16 v0 v1 v2 x9) 16 Hp9 0
def mS_stages_F58 (kk : HS → Int32 → Option (Nat × HS)) (v0 : Nat) (v1 : Int32) (v2 : Nat) (v3 : Int32) (v4 : Nat) (v5 : Int32) (v6 : Nat) (v7 : Int32) (ih : HS → Int32 → Option (Nat × HS)) (Hp : HS) (v8 : Int32) : Option (Nat × HS) :=
  (if (v7 : Int32) ≤ v8 then
  kk Hp (v5 + 1)
  else
  (hldR 3 Hp v6 v8).bind fun x69 =>
  (hldI 0 Hp v2 v5).bind fun x75 =>
  (if (x75 : Int32) = 0 then
  (if (v5 : Int32) = v1 then
  ih Hp (v8 + 1)
  else
  (hrc Hp [v0] (mS_holds Hp v0 x69 v2)).bind fun x89 =>
  (if (x89 : Int32) = 0 then
  ih Hp (v8 + 1)
  else
  hstI 0 Hp v4 v5 v3 fun Hp100 =>
  ih Hp100 (v8 + 1)))
  else
  ih Hp (v8 + 1)))
def mS_stages_F31 (kk : HS → Nat → Int32 → Option (Nat × HS)) (v0 : Nat) (v1 : Int32) (v2 : Nat) (v3 : Int32) (v4 : Nat) (ih : HS → Int32 → Option (Nat × HS)) (Hp : HS) (v5 : Int32) : Option (Nat × HS) :=
  (hget Hp v0 1).bind fun x34 =>
  (hlen 4 Hp x34).bind fun x37 =>
  (if (x37 : Int32) ≤ v5 then
  kk Hp v4 (v3 + 1)
  else
  (hget Hp v0 1).bind fun x42 =>
  (hldR 4 Hp x42 v5).bind fun x47 =>
  (hlen 3 Hp x47).bind fun x52 =>
  itr2 (mS_stages_F58 ih v0 v1 v2 v3 v4 v5 x47 x52) 16 Hp 0)
def mS_stages_F10 (v0 : Nat) (v1 : Int32) (ih : HS → Nat → Int32 → Option (Nat × HS)) (Hp : HS) (v2 : Nat) (v3 : Int32) : Option (Nat × HS) :=
  (hget Hp v0 1).bind fun x12 =>
  (hlen 4 Hp x12).bind fun x15 =>
  (if (x15 : Int32) < v3 then
  some (v2, Hp)
  else
  hcl [v0, v2] Hp v2 fun Hp20 x20 =>
  itr2 (mS_stages_F31 ih v0 v1 v2 v3 x20) 16 Hp20 0)
def mS_stages (Hp0 : HS) (v0 : Nat) (v1 : Int32) : Option (Nat × HS) :=
  (hget Hp0 v0 1).bind fun x1 =>
  (hlen 4 Hp0 x1).bind fun x4 =>
  hnw 0 [v0] Hp0 x4 fun Hp5 x5 =>
  itr3 (mS_stages_F10 v0 v1) 16 Hp5 x5 1
def mS_measures_F77 (kk : HS → Int32 → Option (Nat × HS)) (v0 : Nat) (v1 : Int32) (v2 : Nat) (v3 : Int32) (v4 : Nat) (v5 : Int32) (v6 : Nat) (v7 : Int32) (ih : HS → Int32 → Option (Nat × HS)) (Hp : HS) (v8 : Int32) : Option (Nat × HS) :=
  (if (v7 : Int32) ≤ v8 then
  kk Hp (v5 + 1)
  else
  (hldR 3 Hp v6 v8).bind fun x88 =>
  (hldI 0 Hp v4 v5).bind fun x99 =>
  (hrc Hp [v0] (mS_measure Hp v0 x88 v2 v1)).bind fun x105 =>
  hstI 0 Hp v4 v5 (lmin x99 x105) fun Hp111 =>
  ih Hp111 (v8 + 1))
def mS_measures_F50 (kk : HS → Nat → Int32 → Option (Nat × HS)) (v0 : Nat) (v1 : Int32) (v2 : Nat) (v3 : Int32) (v4 : Nat) (ih : HS → Int32 → Option (Nat × HS)) (Hp : HS) (v5 : Int32) : Option (Nat × HS) :=
  (hget Hp v0 1).bind fun x53 =>
  (hlen 4 Hp x53).bind fun x56 =>
  (if (x56 : Int32) ≤ v5 then
  kk Hp v4 (v3 + 1)
  else
  (hget Hp v0 1).bind fun x61 =>
  (hldR 4 Hp x61 v5).bind fun x66 =>
  (hlen 3 Hp x66).bind fun x71 =>
  itr2 (mS_measures_F77 ih v0 v1 v2 v3 v4 v5 x66 x71) 16 Hp 0)
def mS_measures_F29 (v0 : Nat) (v1 : Int32) (ih : HS → Nat → Int32 → Option (Nat × HS)) (Hp : HS) (v2 : Nat) (v3 : Int32) : Option (Nat × HS) :=
  (hget Hp v0 1).bind fun x31 =>
  (hlen 4 Hp x31).bind fun x34 =>
  (if (x34 : Int32) < v3 then
  some (v2, Hp)
  else
  hcl [v0, v2] Hp v2 fun Hp39 x39 =>
  itr2 (mS_measures_F50 ih v0 v1 v2 v3 x39) 16 Hp39 0)
def mS_measures_F10 (v0 : Nat) (v1 : Int32) (v2 : Nat) (ih : HS → Int32 → Option (Nat × HS)) (Hp : HS) (v3 : Int32) : Option (Nat × HS) :=
  (hlen 0 Hp v2).bind fun x12 =>
  (if (x12 : Int32) ≤ v3 then
  itr3 (mS_measures_F29 v0 v1) 16 Hp v2 0
  else
  hstI 0 Hp v2 v3 100000 fun Hp20 =>
  ih Hp20 (v3 + 1))
def mS_measures (Hp0 : HS) (v0 : Nat) (v1 : Int32) : Option (Nat × HS) :=
  (hget Hp0 v0 1).bind fun x1 =>
  (hlen 4 Hp0 x1).bind fun x4 =>
  hnw 0 [v0] Hp0 x4 fun Hp5 x5 =>
  itr2 (mS_measures_F10 v0 v1 x5) 16 Hp5 0
def mS_on_F70 (kk : HS → Int32 → Option (Nat × HS)) (v0 : Nat) (v1 : Nat) (v2 : Nat) (v3 : Int32) (v4 : Nat) (v5 : Int32) (v6 : Int32) (v8 : Nat) (v9 : Int32) (ih : HS → Int32 → Option (Nat × HS)) (Hp : HS) (v10 : Int32) : Option (Nat × HS) :=
  (if (v9 : Int32) ≤ v10 then
  kk Hp (v6 + 1)
  else
  (hldR 2 Hp v8 v10).bind fun x81 =>
  (hldI 0 Hp x81 0).bind fun x87 =>
  (if (x87 : Int32) = 1 then
  (hldI 0 Hp x81 1).bind fun x96 =>
  hstI 1 Hp v2 x96 (1 &&& 1) fun Hp98 =>
  ih Hp98 (v10 + 1)
  else
  ih Hp (v10 + 1)))
def mS_on_F44 (kk : HS → Int32 → Option (Nat × HS)) (v0 : Nat) (v1 : Nat) (v2 : Nat) (v3 : Int32) (v4 : Nat) (v5 : Int32) (ih : HS → Int32 → Option (Nat × HS)) (Hp : HS) (v6 : Int32) : Option (Nat × HS) :=
  (if (v5 : Int32) ≤ v6 then
  kk Hp (v3 + 1)
  else
  (hldR 3 Hp v4 v6).bind fun x55 =>
  (hlen 2 Hp x55).bind fun x64 =>
  itr2 (mS_on_F70 ih v0 v1 v2 v3 v4 v5 v6 x55 x64) 16 Hp 0)
def mS_on_F10 (v0 : Nat) (v1 : Nat) (v2 : Nat) (ih : HS → Int32 → Option (Nat × HS)) (Hp : HS) (v3 : Int32) : Option (Nat × HS) :=
  (hget Hp v0 1).bind fun x12 =>
  (hlen 4 Hp x12).bind fun x15 =>
  (if (x15 : Int32) ≤ v3 then
  some (v2, Hp)
  else
  (hldI 1 Hp v1 v3).bind fun x21 =>
  (if (x21 : Int32) = 0 then
  ih Hp (v3 + 1)
  else
  (hget Hp v0 1).bind fun x29 =>
  (hldR 4 Hp x29 v3).bind fun x33 =>
  (hlen 3 Hp x33).bind fun x38 =>
  itr2 (mS_on_F44 ih v0 v1 v2 v3 x33 x38) 16 Hp 0))
def mS_on (Hp0 : HS) (v0 : Nat) (v1 : Nat) : Option (Nat × HS) :=
  (hget Hp0 v0 1).bind fun x1 =>
  (hlen 4 Hp0 x1).bind fun x4 =>
  hnw 1 [v0, v1] Hp0 x4 fun Hp5 x5 =>
  itr2 (mS_on_F10 v0 v1 x5) 16 Hp5 0
def mS_circle_F14 (v0 : Nat) (v1 : Int32) (ih : HS → Nat → Int32 → Option (Int32 × HS)) (Hp : HS) (v2 : Nat) (v3 : Int32) : Option (Int32 × HS) :=
  (hget Hp v0 1).bind fun x16 =>
  (hlen 4 Hp x16).bind fun x19 =>
  (if (x19 : Int32) < v3 then
  some (0, Hp)
  else
  hcb [v0] [v0] Hp (mS_on Hp v0 v2) fun x25 Hp25 =>
  (hldI 1 Hp25 x25 v1).bind fun x31 =>
  (if (x31 : Int32) = 0 then
  ih Hp25 x25 (v3 + 1)
  else
  some (v3, Hp25)))
def mS_circle (Hp0 : HS) (v0 : Nat) (v1 : Int32) : Option (Int32 × HS) :=
  (hget Hp0 v0 1).bind fun x1 =>
  (hlen 4 Hp0 x1).bind fun x4 =>
  hnw 1 [v0] Hp0 x4 fun Hp5 x5 =>
  hstI 1 Hp5 x5 v1 (1 &&& 1) fun Hp11 =>
  itr3 (mS_circle_F14 v0 v1) 16 Hp11 x5 1
def mL_below (v0 : Int32) (v1 : Int32) : Option Int32 :=
  (irm (v0 &&& 2147483647) v1).bind fun x5 =>
  some x5
def mL_cell (xs : Nat → Int32) (L : Nat) (v1 : Int32) : Option Int32 :=
  (if ((Int32.ofNat L) : Int32) ≤ v1 then
  some (790386105 * (v1 + 3))
  else
  (rdA xs L v1).bind fun x8 =>
  some x8)
def mS_isSame_F599 (S : XS) (Hp : HS) (v0 : Nat) (v5 : Nat) (ih : Int32 → Option (Int32 × (XS × HS))) (v6 : Int32) : Option (Int32 × (XS × HS)) :=
  (if (7 : Int32) ≤ v6 then
  (mX_mean S).bind fun x629 =>
  (hget Hp v0 1).bind fun x633 =>
  (hlen 4 Hp x633).bind fun x636 =>
  (if (x636 : Int32) = 0 then
  (if ((Op.cmpValue (FP.dcmp x629 FP.dconst0) .l) : Int32) = 0 then
  gz 1 (some (1, (S, Hp)))
  else
  gz 0 (some (0, (S, Hp))))
  else
  (hldI 0 Hp v5 4).bind fun x647 =>
  (hget Hp v0 1).bind fun x650 =>
  (hlen 4 Hp x650).bind fun x653 =>
  (dvD (FP.i2d x647) (FP.i2d x653)).bind fun _ =>
  (if ((Op.cmpValue (FP.dcmp x629 (FP.ddiv (FP.i2d x647) (FP.i2d x653))) .l) : Int32) = 0 then
  gz 1 (some (1, (S, Hp)))
  else
  gz 0 (some (0, (S, Hp)))))
  else
  xbR (mX_count S v6) fun x609 =>
  (hldI 0 Hp v5 v6).bind fun x616 =>
  (if (x609 : Int32) = x616 then
  ih (v6 + 1)
  else
  gz 0 (some (0, (S, Hp)))))
def mS_isSame_J534 (kk : HS → Int32 → Option (Int32 × (XS × HS))) (S : XS) (Hp : HS) (v0 : Nat) (v2 : Nat) (v3 : Nat) (v4 : Nat) (v5 : Nat) (v6 : Int32) (v7 : Nat) (t0 : Int32) (t1 : Int32) (t2 : Int32) (t3 : Nat) : Option (Int32 × (XS × HS)) :=
  hstI 0 Hp t3 t2 (t1 + t0) fun Hp535 =>
  (hldI 0 Hp535 v5 3).bind fun x540 =>
  (hldI 0 Hp535 v7 0).bind fun x544 =>
  hstI 0 Hp535 v5 3 (x540 + x544) fun Hp546 =>
  (hldI 0 Hp546 v5 4).bind fun x551 =>
  (hldI 0 Hp546 v7 1).bind fun x555 =>
  hstI 0 Hp546 v5 4 (x551 + x555) fun Hp557 =>
  (hldI 0 Hp557 v5 5).bind fun x562 =>
  (hldI 0 Hp557 v7 5).bind fun x566 =>
  hstI 0 Hp557 v5 5 (x562 + x566) fun Hp568 =>
  (hldI 0 Hp568 v5 6).bind fun x574 =>
  (hldI 0 Hp568 v7 6).bind fun x579 =>
  (if (x579 : Int32) ≤ 0 then
  hstI 0 Hp568 v5 6 (x574 + 0) fun Hp589 =>
  kk Hp589 (v6 + 1)
  else
  hstI 0 Hp568 v5 6 (x574 + 1) fun Hp589 =>
  kk Hp589 (v6 + 1))
def mS_isSame_F473 (kk : HS → Int32 → Option (Int32 × (XS × HS))) (S : XS) (Hp : HS) (v0 : Nat) (v2 : Nat) (v3 : Nat) (v4 : Nat) (v5 : Nat) (v6 : Int32) (v7 : Nat) (v8 : Int32) (ih : Int32 → Option (Int32 × (XS × HS))) (v9 : Int32) : Option (Int32 × (XS × HS)) :=
  (if (7 : Int32) ≤ v9 then
  xbR (mX_best S v6) fun x507 =>
  (if (x507 : Int32) = v8 then
  (hldI 0 Hp v5 1).bind fun x521 =>
  (hldI 0 Hp v2 v6).bind fun x525 =>
  (if (x525 : Int32) ≤ 0 then
  mS_isSame_J534 kk S Hp v0 v2 v3 v4 v5 v6 v7 0 x521 1 v5
  else
  mS_isSame_J534 kk S Hp v0 v2 v3 v4 v5 v6 v7 1 x521 1 v5)
  else
  gz 0 (some (0, (S, Hp))))
  else
  xbR (mX_told S v6 v9) fun x485 =>
  (hldI 0 Hp v7 v9).bind fun x492 =>
  (if (x485 : Int32) = x492 then
  ih (v9 + 1)
  else
  gz 0 (some (0, (S, Hp)))))
def mS_isSame_F407 (kk : HS → Int32 → Option (Int32 × (XS × HS))) (S : XS) (Hp : HS) (v0 : Nat) (v2 : Nat) (v3 : Nat) (v4 : Nat) (v5 : Nat) (v6 : Int32) (v7 : Nat) (v8 : Int32) (v9 : Int32) (v10 : Nat) (v14 : Int32) (ih : Int32 → Option (Int32 × (XS × HS))) (v15 : Int32) : Option (Int32 × (XS × HS)) :=
  (if (4 : Int32) ≤ v15 then
  (hldI 0 Hp v7 5).bind fun x448 =>
  (hldR 2 Hp v10 v14).bind fun x453 =>
  (hldI 0 Hp x453 2).bind fun x455 =>
  hstI 0 Hp v7 5 (x448 + x455) fun Hp457 =>
  kk Hp457 (v14 + 1)
  else
  xbR (mX_step S v6 v9 v14 v15) fun x422 =>
  (hldR 2 Hp v10 v14).bind fun x429 =>
  (hldI 0 Hp x429 v15).bind fun x432 =>
  (if (x422 : Int32) = x432 then
  ih (v15 + 1)
  else
  gz 0 (some (0, (S, Hp)))))
def mS_isSame_F396 (kk : HS → Int32 → Int32 → Option (Int32 × (XS × HS))) (S : XS) (v0 : Nat) (v2 : Nat) (v3 : Nat) (v4 : Nat) (v5 : Nat) (v6 : Int32) (v7 : Nat) (v8 : Int32) (v9 : Int32) (v10 : Nat) (ih : HS → Int32 → Option (Int32 × (XS × HS))) (Hp : HS) (v14 : Int32) : Option (Int32 × (XS × HS)) :=
  (hlen 2 Hp v10).bind fun x400 =>
  (if (x400 : Int32) ≤ v14 then
  kk Hp v8 (v9 + 1)
  else
  itr1 (mS_isSame_F407 ih S Hp v0 v2 v3 v4 v5 v6 v7 v8 v9 v10 v14) 16 0)
def mS_isSame_F325 (kk : HS → Int32 → Int32 → Option (Int32 × (XS × HS))) (S : XS) (Hp : HS) (v0 : Nat) (v2 : Nat) (v3 : Nat) (v4 : Nat) (v5 : Nat) (v6 : Int32) (v7 : Nat) (v8 : Int32) (v9 : Int32) (v10 : Nat) (v11 : Int32) (v13 : Nat) (ih : Int32 → Option (Int32 × (XS × HS))) (v14 : Int32) : Option (Int32 × (XS × HS)) :=
  (if (4 : Int32) ≤ v14 then
  (if (9999 : Int32) ≤ v11 then
  (hldI 0 Hp v7 1).bind fun x387 =>
  (hlen 2 Hp v10).bind fun x390 =>
  hstI 0 Hp v7 1 (x387 + x390) fun Hp392 =>
  itr2 (mS_isSame_F396 kk S v0 v2 v3 v4 v5 v6 v7 v8 v9 v10) 16 Hp392 0
  else
  (if (0 : Int32) ≤ v8 then
  (hldI 0 Hp v7 1).bind fun x387 =>
  (hlen 2 Hp v10).bind fun x390 =>
  hstI 0 Hp v7 1 (x387 + x390) fun Hp392 =>
  itr2 (mS_isSame_F396 kk S v0 v2 v3 v4 v5 v6 v7 v8 v9 v10) 16 Hp392 0
  else
  (hldI 0 Hp v3 v6).bind fun x375 =>
  (if (v11 : Int32) = x375 then
  (hldI 0 Hp v7 1).bind fun x387 =>
  (hlen 2 Hp v10).bind fun x390 =>
  hstI 0 Hp v7 1 (x387 + x390) fun Hp392 =>
  itr2 (mS_isSame_F396 kk S v0 v2 v3 v4 v5 v6 v7 v9 v9 v10) 16 Hp392 0
  else
  (hldI 0 Hp v7 1).bind fun x387 =>
  (hlen 2 Hp v10).bind fun x390 =>
  hstI 0 Hp v7 1 (x387 + x390) fun Hp392 =>
  itr2 (mS_isSame_F396 kk S v0 v2 v3 v4 v5 v6 v7 v8 v9 v10) 16 Hp392 0)))
  else
  xbR (mX_about S v6 v9 v14) fun x338 =>
  (hldI 0 Hp v13 v14).bind fun x345 =>
  (if (x338 : Int32) = x345 then
  ih (v14 + 1)
  else
  gz 0 (some (0, (S, Hp)))))
def mS_isSame_J303 (kk : HS → Int32 → Int32 → Option (Int32 × (XS × HS))) (S : XS) (Hp : HS) (v0 : Nat) (v2 : Nat) (v3 : Nat) (v4 : Nat) (v5 : Nat) (v6 : Int32) (v7 : Nat) (v8 : Int32) (v9 : Int32) (v10 : Nat) (v11 : Int32) (v12 : Int32) (t0 : Int32) (t1 : Int32) (t2 : Nat) (t3 : Nat) : Option (Int32 × (XS × HS)) :=
  hstI 0 Hp t2 t1 t0 fun Hp303 =>
  (if (v12 : Int32) = 100000 then
  hstI 0 Hp303 t3 3 (-1) fun Hp319 =>
  itr1 (mS_isSame_F325 kk S Hp319 v0 v2 v3 v4 v5 v6 v7 v8 v9 v10 v11 t3) 16 0
  else
  hstI 0 Hp303 t3 3 v12 fun Hp319 =>
  itr1 (mS_isSame_F325 kk S Hp319 v0 v2 v3 v4 v5 v6 v7 v8 v9 v10 v11 t3) 16 0)
def mS_isSame_J286 (kk : HS → Int32 → Int32 → Option (Int32 × (XS × HS))) (S : XS) (Hp : HS) (v0 : Nat) (v2 : Nat) (v3 : Nat) (v4 : Nat) (v5 : Nat) (v6 : Int32) (v7 : Nat) (v8 : Int32) (v9 : Int32) (v10 : Nat) (v11 : Int32) (v12 : Int32) (t0 : Int32) (t1 : Int32) (t2 : Nat) (t3 : Nat) : Option (Int32 × (XS × HS)) :=
  hstI 0 Hp t2 t1 t0 fun Hp286 =>
  (if (v11 : Int32) ≤ 9998 then
  mS_isSame_J303 kk S Hp286 v0 v2 v3 v4 v5 v6 v7 v8 v9 v10 v11 v12 v11 2 t3 t3
  else
  mS_isSame_J303 kk S Hp286 v0 v2 v3 v4 v5 v6 v7 v8 v9 v10 v11 v12 (-1) 2 t3 t3)
def mS_isSame_F214 (kk : HS → Int32 → Option (Int32 × (XS × HS))) (S : XS) (v0 : Nat) (v2 : Nat) (v3 : Nat) (v4 : Nat) (v5 : Nat) (v6 : Int32) (v7 : Nat) (ih : HS → Int32 → Int32 → Option (Int32 × (XS × HS))) (Hp : HS) (v8 : Int32) (v9 : Int32) : Option (Int32 × (XS × HS)) :=
  (hget Hp v0 1).bind fun x217 =>
  (hldR 4 Hp x217 v6).bind fun x222 =>
  (hlen 3 Hp x222).bind fun x223 =>
  (if (x223 : Int32) ≤ v9 then
  itr1 (mS_isSame_F473 kk S Hp v0 v2 v3 v4 v5 v6 v7 v8) 16 0
  else
  (hget Hp v0 1).bind fun x228 =>
  (hldR 4 Hp x228 v6).bind fun x233 =>
  (hldR 3 Hp x233 v9).bind fun x236 =>
  (hrc Hp [v0] (mS_measure Hp v0 x236 v3 0)).bind fun x244 =>
  (hrc Hp [v0] (mS_measure Hp v0 x236 v4 1)).bind fun x255 =>
  hnw 0 [x236, v0, v2, v3, v4, v5, v7] Hp 4 fun Hp261 x261 =>
  (hlen 2 Hp261 x236).bind fun x267 =>
  hstI 0 Hp261 x261 0 x267 fun Hp268 =>
  (hrc Hp268 [v0] (mS_holds Hp268 v0 x236 v2)).bind fun x275 =>
  (if (x275 : Int32) = 0 then
  mS_isSame_J286 ih S Hp268 v0 v2 v3 v4 v5 v6 v7 v8 v9 x236 x244 x255 0 1 x261 x261
  else
  mS_isSame_J286 ih S Hp268 v0 v2 v3 v4 v5 v6 v7 v8 v9 x236 x244 x255 1 1 x261 x261))
def mS_isSame_J191 (kk : HS → Int32 → Option (Int32 × (XS × HS))) (S : XS) (Hp : HS) (v0 : Nat) (v2 : Nat) (v3 : Nat) (v4 : Nat) (v5 : Nat) (v6 : Int32) (t0 : Int32) (t1 : Int32) (t2 : Nat) (t3 : Nat) : Option (Int32 × (XS × HS)) :=
  hstI 0 Hp t2 t1 t0 fun Hp191 =>
  hstI 0 Hp191 t3 5 0 fun Hp195 =>
  hcb [v0, v2, v3, v4, v5, t3] [v0] Hp195 (mS_circle Hp195 v0 v6) fun x202 Hp202 =>
  hstI 0 Hp202 t3 6 x202 fun Hp205 =>
  itr3 (mS_isSame_F214 kk S v0 v2 v3 v4 v5 v6 t3) 16 Hp205 (-1) 0
def mS_isSame_J168 (kk : HS → Int32 → Option (Int32 × (XS × HS))) (S : XS) (Hp : HS) (v0 : Nat) (v2 : Nat) (v3 : Nat) (v4 : Nat) (v5 : Nat) (v6 : Int32) (t0 : Int32) (t1 : Int32) (t2 : Nat) (t3 : Nat) : Option (Int32 × (XS × HS)) :=
  hstI 0 Hp t2 t1 t0 fun Hp168 =>
  (hldI 0 Hp168 v4 v6).bind fun x175 =>
  (if (x175 : Int32) ≤ 9998 then
  (hldI 0 Hp168 v4 v6).bind fun x190 =>
  mS_isSame_J191 kk S Hp168 v0 v2 v3 v4 v5 v6 x190 4 t3 t3
  else
  mS_isSame_J191 kk S Hp168 v0 v2 v3 v4 v5 v6 (-1) 4 t3 t3)
def mS_isSame_F112 (S : XS) (v0 : Nat) (v2 : Nat) (v3 : Nat) (v4 : Nat) (v5 : Nat) (ih : HS → Int32 → Option (Int32 × (XS × HS))) (Hp : HS) (v6 : Int32) : Option (Int32 × (XS × HS)) :=
  (hget Hp v0 1).bind fun x115 =>
  (hlen 4 Hp x115).bind fun x118 =>
  (if (x118 : Int32) ≤ v6 then
  itr1 (mS_isSame_F599 S Hp v0 v5) 16 0
  else
  hnw 0 [v0, v2, v3, v4, v5] Hp 7 fun Hp124 x124 =>
  (hget Hp124 v0 1).bind fun x129 =>
  (hldR 4 Hp124 x129 v6).bind fun x134 =>
  (hlen 3 Hp124 x134).bind fun x135 =>
  hstI 0 Hp124 x124 0 x135 fun Hp136 =>
  hstI 0 Hp136 x124 1 0 fun Hp140 =>
  (hldI 0 Hp140 v2 v6).bind fun x146 =>
  hstI 0 Hp140 x124 2 x146 fun Hp147 =>
  (hldI 0 Hp147 v3 v6).bind fun x153 =>
  (if (x153 : Int32) ≤ 9998 then
  (hldI 0 Hp147 v3 v6).bind fun x167 =>
  mS_isSame_J168 ih S Hp147 v0 v2 v3 v4 v5 v6 x167 3 x124 x124
  else
  mS_isSame_J168 ih S Hp147 v0 v2 v3 v4 v5 v6 (-1) 3 x124 x124))
def mS_isSame_F72 (S : XS) (v0 : Nat) (v2 : Nat) (v3 : Nat) (v4 : Nat) (v5 : Nat) (v6 : Nat) (v7 : Int32) (ih : HS → Int32 → Option (Int32 × (XS × HS))) (Hp : HS) (v8 : Int32) : Option (Int32 × (XS × HS)) :=
  (if (v7 : Int32) ≤ v8 then
  itr2 (mS_isSame_F112 S v0 v2 v3 v4 v5) 16 Hp 0
  else
  (hldI 1 Hp v6 v8).bind fun x83 =>
  (hldI 0 Hp v5 2).bind fun x90 =>
  (if (x83 : Int32) = 0 then
  hstI 0 Hp v5 2 (x90 + 0) fun Hp102 =>
  ih Hp102 (v8 + 1)
  else
  hstI 0 Hp v5 2 (x90 + 1) fun Hp102 =>
  ih Hp102 (v8 + 1)))
def mS_isSame (S0 : XS) (Hp0 : HS) (v0 : Nat) : Option (Int32 × (XS × HS)) :=
  hcb [v0] [v0] Hp0 (mS_stages Hp0 v0 (-1)) fun x2 Hp2 =>
  hcb [x2, v0] [v0] Hp2 (mS_measures Hp2 v0 0) fun x8 Hp8 =>
  hcb [x8, x2, v0] [v0] Hp8 (mS_measures Hp8 v0 1) fun x14 Hp14 =>
  hnw 0 [x14, x8, x2, v0] Hp14 7 fun Hp21 x21 =>
  (hget Hp21 v0 1).bind fun x26 =>
  (hlen 4 Hp21 x26).bind fun x29 =>
  hstI 0 Hp21 x21 0 x29 fun Hp30 =>
  hstI 0 Hp30 x21 1 0 fun Hp34 =>
  hstI 0 Hp34 x21 2 0 fun Hp38 =>
  hstI 0 Hp38 x21 3 0 fun Hp42 =>
  hstI 0 Hp42 x21 4 0 fun Hp46 =>
  hstI 0 Hp46 x21 5 0 fun Hp50 =>
  hstI 0 Hp50 x21 6 0 fun Hp55 =>
  (hget Hp55 v0 0).bind fun x59 =>
  (hlen 1 Hp55 x59).bind fun x66 =>
  itr2 (mS_isSame_F72 S0 v0 x2 x8 x14 x21 x59 x66) 16 Hp55 0
def mL_act_J101 (S : XS) (Hp : HS) (v1 : Nat) (v8 : Int32) (t0 : Int32) : Option (Int32 × (XS × HS)) :=
  (hget Hp v1 0).bind fun x104 =>
  (hldI 1 Hp x104 v8).bind fun x109 =>
  (hget Hp v1 0).bind fun x113 =>
  hstI 1 Hp x113 v8 (t0 &&& 1) fun Hp120 =>
  xbW (mX_take S v8 t0) fun x126 S126 =>
  (if (x126 : Int32) = x109 then
  gz 1 (some (1, (S126, Hp120)))
  else
  gz 0 (some (0, (S126, Hp120))))
def mL_act_J162 (S : XS) (Hp : HS) (v7 : Int32) : Option (Int32 × (XS × HS)) :=
  xbC (mX_lemma S) (fun x163 S163 =>
  (if (x163 : Int32) = v7 then
  gz 1 (some (1, (S163, Hp)))
  else
  gz 0 (some (0, (S163, Hp))))) ((if ((-1) : Int32) = v7 then
  gz 1 (some (1, (S, Hp)))
  else
  gz 0 (some (0, (S, Hp)))))
def mL_act_J151 (S : XS) (Hp : HS) (v1 : Nat) (t0 : Int32) : Option (Int32 × (XS × HS)) :=
  (if (t0 : Int32) < 0 then
  mL_act_J162 S Hp t0
  else
  hcb [] [v1] Hp (mS_lemma Hp v1) fun x159 Hp159 =>
  mL_act_J162 S Hp159 t0)
def mL_act_J214 (S : XS) (Hp : HS) (v4 : Int32) (v7 : Int32) : Option (Int32 × (XS × HS)) :=
  xbC (mX_proof S v4) (fun x217 S217 =>
  (if (x217 : Int32) = v7 then
  gz 1 (some (1, (S217, Hp)))
  else
  gz 0 (some (0, (S217, Hp))))) ((if ((-1) : Int32) = v7 then
  gz 1 (some (1, (S, Hp)))
  else
  gz 0 (some (0, (S, Hp)))))
def mL_act_J201 (S : XS) (Hp : HS) (v1 : Nat) (v4 : Int32) (t0 : Int32) : Option (Int32 × (XS × HS)) :=
  (if (t0 : Int32) < 0 then
  mL_act_J214 S Hp v4 t0
  else
  hcb [] [v1] Hp (mS_proof Hp v1 v4) fun x211 Hp211 =>
  mL_act_J214 S Hp211 v4 t0)
def mL_act_J189 (S : XS) (Hp : HS) (v1 : Nat) (v4 : Int32) (v5 : Int32) : Option (Int32 × (XS × HS)) :=
  (if (3 : Int32) ≤ v5 then
  mL_act_J201 S Hp v1 v4 (-1)
  else
  mL_act_J201 S Hp v1 v4 v5)
def mL_act_J521 (S : XS) (Hp : HS) (v4 : Int32) (v7 : Int32) (v8 : Int32) (v10 : Int32) (v11 : Int32) : Option (Int32 × (XS × HS)) :=
  xbC (mX_patch S v4 v8 v10 v11) (fun x530 S530 =>
  (if (x530 : Int32) = v7 then
  gz 1 (some (1, (S530, Hp)))
  else
  gz 0 (some (0, (S530, Hp))))) ((if ((-1) : Int32) = v7 then
  gz 1 (some (1, (S, Hp)))
  else
  gz 0 (some (0, (S, Hp)))))
def mL_act_J505 (S : XS) (Hp : HS) (v4 : Int32) (v8 : Int32) (v9 : Nat) (v10 : Int32) (v11 : Int32) (t0 : Int32) : Option (Int32 × (XS × HS)) :=
  (if (t0 : Int32) < 0 then
  mL_act_J521 S Hp v4 t0 v8 v10 v11
  else
  (hldR 2 Hp v9 v10).bind fun x516 =>
  hstI 0 Hp x516 2 t0 fun Hp520 =>
  mL_act_J521 S Hp520 v4 t0 v8 v10 v11)
def mL_act_J403 (S : XS) (Hp : HS) (v2 : Int32) (v4 : Int32) (v8 : Int32) (v9 : Nat) (v10 : Int32) : Option (Int32 × (XS × HS)) :=
  (mL_below (v2 >>> (9 &&& 31)) 3).bind fun x408 =>
  (if (x408 : Int32) = 0 then
  (hldR 2 Hp v9 v10).bind fun x418 =>
  (hldR 2 Hp v9 v10).bind fun x425 =>
  (hldI 0 Hp x425 3).bind fun x427 =>
  hstI 0 Hp x418 3 (1 - x427) fun Hp429 =>
  xbW (mX_withdraw S v4 v8 v10) fun x437 S437 =>
  (hldR 2 Hp429 v9 v10).bind fun x444 =>
  (hldI 0 Hp429 x444 3).bind fun x446 =>
  (if (x446 : Int32) = 1 then
  (if (x437 : Int32) = 1 then
  gz 1 (some (1, (S437, Hp429)))
  else
  gz 0 (some (0, (S437, Hp429))))
  else
  (if (x437 : Int32) = 0 then
  gz 1 (some (1, (S437, Hp429)))
  else
  gz 0 (some (0, (S437, Hp429)))))
  else
  (mL_below (v2 >>> (4 &&& 31)) 9).bind fun x471 =>
  (hldR 2 Hp v9 v10).bind fun x481 =>
  (hldI 0 Hp x481 2).bind fun x483 =>
  (if (x483 : Int32) = 0 then
  mL_act_J505 S Hp v4 v8 v9 v10 (1 + x471) (-1)
  else
  (hldR 2 Hp v9 v10).bind fun x496 =>
  (hldI 0 Hp x496 2).bind fun x498 =>
  mL_act_J505 S Hp v4 v8 v9 v10 (1 + x471) (lmax 0 (x498 - (1 + x471)))))
def mL_act_F354 (S : XS) (Hp : HS) (v2 : Int32) (v4 : Int32) (v8 : Int32) (v9 : Nat) (ih : Int32 → Int32 → Option (Int32 × (XS × HS))) (v10 : Int32) (v11 : Int32) : Option (Int32 × (XS × HS)) :=
  (hlen 2 Hp v9).bind fun x358 =>
  (if (x358 : Int32) ≤ v11 then
  mL_act_J403 S Hp v2 v4 v8 v9 v10
  else
  (mL_below (v2 >>> (5 &&& 31)) 4).bind fun x366 =>
  (if (x366 : Int32) ≤ 0 then
  mL_act_J403 S Hp v2 v4 v8 v9 v10
  else
  (hldR 2 Hp v9 v11).bind fun x376 =>
  (hldI 0 Hp x376 0).bind fun x378 =>
  (if (x378 : Int32) = 2 then
  (hldR 2 Hp v9 v11).bind fun x387 =>
  (hldI 0 Hp x387 2).bind fun x389 =>
  (if (x389 : Int32) ≤ 0 then
  ih v10 (v11 + 1)
  else
  ih v11 (v11 + 1))
  else
  ih v10 (v11 + 1))))
def mL_act_J301 (S : XS) (Hp : HS) (v1 : Nat) (v2 : Int32) (v4 : Int32) (v5 : Int32) : Option (Int32 × (XS × HS)) :=
  (if (v5 : Int32) = 0 then
  gz 1 (some (1, (S, Hp)))
  else
  (mL_below (v2 >>> (8 &&& 31)) v5).bind fun x314 =>
  (hget Hp v1 1).bind fun x320 =>
  (hldR 4 Hp x320 v4).bind fun x325 =>
  (hldR 3 Hp x325 x314).bind fun x328 =>
  (hlen 2 Hp x328).bind fun x333 =>
  (if (x333 : Int32) = 0 then
  gz 1 (some (1, (S, Hp)))
  else
  (hlen 2 Hp x328).bind fun x345 =>
  (mL_below (v2 >>> (6 &&& 31)) x345).bind fun x346 =>
  itr2 (mL_act_F354 S Hp v2 v4 x314 x328) 16 x346 0))
def mL_act_J741 (S : XS) (Hp : HS) (v4 : Int32) (v7 : Int32) (v8 : Int32) (v9 : Int32) (v10 : Int32) : Option (Int32 × (XS × HS)) :=
  xbC (mX_cite S v4 v8 v9 v10) (fun x750 S750 =>
  (if (x750 : Int32) = v7 then
  gz 1 (some (1, (S750, Hp)))
  else
  gz 0 (some (0, (S750, Hp))))) ((if ((-1) : Int32) = v7 then
  gz 1 (some (1, (S, Hp)))
  else
  gz 0 (some (0, (S, Hp)))))
def mL_act_J732 (S : XS) (Hp : HS) (v4 : Int32) (v7 : Int32) (v8 : Int32) (v9 : Int32) (v10 : Int32) (t0 : Int32) (t1 : Int32) (t2 : Nat) (t3 : Nat) (t4 : Nat) (t5 : Int32) (t6 : Nat) : Option (Int32 × (XS × HS)) :=
  hstI 0 Hp t2 t1 t0 fun Hp732 =>
  hstI 0 Hp732 t3 3 0 fun Hp736 =>
  hcb [t6] [] Hp736 (mS_more Hp736 t4 t3) fun x737 Hp737 =>
  hstR 3 2 Hp737 t6 t5 x737 fun Hp740 =>
  mL_act_J741 S Hp740 v4 v7 v8 v9 v10
def mL_act_J679 (S : XS) (Hp : HS) (v1 : Nat) (v4 : Int32) (v8 : Int32) (v9 : Int32) (v10 : Int32) (t0 : Int32) : Option (Int32 × (XS × HS)) :=
  (if (t0 : Int32) < 0 then
  mL_act_J741 S Hp v4 t0 v8 v9 v10
  else
  (hget Hp v1 1).bind fun x687 =>
  (hldR 4 Hp x687 v4).bind fun x692 =>
  (hget Hp v1 1).bind fun x696 =>
  (hldR 4 Hp x696 v4).bind fun x701 =>
  (hldR 3 Hp x701 v8).bind fun x704 =>
  hnw 0 [x704, x692] Hp 4 fun Hp706 x706 =>
  hstI 0 Hp706 x706 0 v9 fun Hp712 =>
  hstI 0 Hp712 x706 1 v10 fun Hp717 =>
  (if (v9 : Int32) = 2 then
  mL_act_J732 S Hp717 v4 t0 v8 v9 v10 v10 2 x706 x706 x704 v8 x692
  else
  mL_act_J732 S Hp717 v4 t0 v8 v9 v10 0 2 x706 x706 x704 v8 x692))
def mL_act_J645 (S : XS) (Hp : HS) (v1 : Nat) (v4 : Int32) (v8 : Int32) (v9 : Int32) (t0 : Int32) : Option (Int32 × (XS × HS)) :=
  (hget Hp v1 1).bind fun x648 =>
  (hldR 4 Hp x648 v4).bind fun x653 =>
  (hldR 3 Hp x653 v8).bind fun x656 =>
  (hlen 2 Hp x656).bind fun x657 =>
  (if (5 : Int32) ≤ x657 then
  mL_act_J679 S Hp v1 v4 v8 v9 t0 (-1)
  else
  (hget Hp v1 1).bind fun x663 =>
  (hldR 4 Hp x663 v4).bind fun x668 =>
  (hldR 3 Hp x668 v8).bind fun x671 =>
  (hlen 2 Hp x671).bind fun x672 =>
  mL_act_J679 S Hp v1 v4 v8 v9 t0 (x672 + 1))
def mL_act_J628 (S : XS) (Hp : HS) (v1 : Nat) (v4 : Int32) (v8 : Int32) (v9 : Int32) (t0 : Int32) (t1 : Int32) : Option (Int32 × (XS × HS)) :=
  (mL_below t1 t0).bind fun x628 =>
  mL_act_J645 S Hp v1 v4 v8 v9 x628
def mL_act (S0 : XS) (Hp0 : HS) (v1 : Nat) (v2 : Int32) : Option (Int32 × (XS × HS)) :=
  (hget Hp0 v1 1).bind fun x1 =>
  (hlen 4 Hp0 x1).bind fun x4 =>
  (mL_below (v2 >>> (4 &&& 31)) x4).bind fun x10 =>
  (hget Hp0 v1 1).bind fun x16 =>
  (hldR 4 Hp0 x16 x10).bind fun x21 =>
  (hlen 3 Hp0 x21).bind fun x22 =>
  (mL_below v2 16).bind fun x28 =>
  (if (x28 : Int32) = 0 then
  (mL_below (v2 >>> (6 &&& 31)) 5).bind fun x81 =>
  (mL_below (v2 >>> (4 &&& 31)) 3).bind fun x90 =>
  (if (x90 : Int32) ≤ 0 then
  mL_act_J101 S0 Hp0 v1 x81 0
  else
  mL_act_J101 S0 Hp0 v1 x81 1)
  else
  if (x28 : Int32) = 1 then
  (if (12 : Int32) ≤ x4 then
  mL_act_J151 S0 Hp0 v1 (-1)
  else
  mL_act_J151 S0 Hp0 v1 x4)
  else
  if (x28 : Int32) = 2 then
  mL_act_J189 S0 Hp0 v1 x10 x22
  else
  if (x28 : Int32) = 3 then
  mL_act_J189 S0 Hp0 v1 x10 x22
  else
  if (x28 : Int32) = 4 then
  (if (x22 : Int32) = 0 then
  gz 1 (some (1, (S0, Hp0)))
  else
  (mL_below (v2 >>> (7 &&& 31)) 3).bind fun x253 =>
  (if (x253 : Int32) ≤ 0 then
  (mL_below (v2 >>> (8 &&& 31)) x22).bind fun x267 =>
  hcb [] [v1] Hp0 (mS_strike Hp0 v1 x10 x267) fun x277 Hp277 =>
  xbW (mX_strike S0 x10 x267) fun x285 S285 =>
  (if (x285 : Int32) = (x22 - 1) then
  gz 1 (some (1, (S285, Hp277)))
  else
  gz 0 (some (0, (S285, Hp277))))
  else
  gz 1 (some (1, (S0, Hp0)))))
  else
  if (x28 : Int32) = 5 then
  mL_act_J301 S0 Hp0 v1 v2 x10 x22
  else
  if (x28 : Int32) = 6 then
  mL_act_J301 S0 Hp0 v1 v2 x10 x22
  else
  if (x28 : Int32) = 7 then
  mL_act_J301 S0 Hp0 v1 v2 x10 x22
  else
  (if (x22 : Int32) = 0 then
  gz 1 (some (1, (S0, Hp0)))
  else
  (mL_below (v2 >>> (8 &&& 31)) x22).bind fun x569 =>
  (mL_below (v2 >>> (5 &&& 31)) 3).bind fun x578 =>
  (if (x578 : Int32) = 0 then
  (mL_below (v2 >>> (7 &&& 31)) 5).bind fun x593 =>
  mL_act_J645 S0 Hp0 v1 x10 x569 x578 x593
  else
  (if (x578 : Int32) = 1 then
  (mL_below (v2 >>> (9 &&& 31)) 2).bind fun x614 =>
  (if (x614 : Int32) = 0 then
  mL_act_J628 S0 Hp0 v1 x10 x569 x578 x4 (v2 >>> (7 &&& 31))
  else
  mL_act_J628 S0 Hp0 v1 x10 x569 x578 (x10 + 1) (v2 >>> (7 &&& 31)))
  else
  (mL_below (v2 >>> (7 &&& 31)) 9).bind fun x641 =>
  mL_act_J645 S0 Hp0 v1 x10 x569 x578 (1 + x641)))))
def mL_build_J263 (xs : Nat → Int32) (L : Nat) (kk : XS → HS → Int32 → Option (Nat × (XS × HS))) (S : XS) (Hp : HS) (v2 : Nat) (v3 : Int32) (v4 : Int32) (v5 : Int32) (v6 : Int32) (v7 : Int32) (v9 : Int32) (v10 : Int32) (t0 : Int32) (t1 : Int32) (t2 : Nat) (t3 : Nat) (t4 : Nat) (t5 : Int32) (t6 : Nat) : Option (Nat × (XS × HS)) :=
  hstI 0 Hp t2 t1 t0 fun Hp263 =>
  hstI 0 Hp263 t3 3 0 fun Hp267 =>
  hcb [v2, t6] [] Hp267 (mS_more Hp267 t4 t3) fun x268 Hp268 =>
  hstR 3 2 Hp268 t6 t5 x268 fun Hp271 =>
  xbW (mX_cite S v4 v6 v9 v10) fun x281 S281 =>
  (if (x281 : Int32) = (v7 + 1) then
  kk S281 Hp271 (v7 + 1)
  else
  none)
def mL_build_J215 (xs : Nat → Int32) (L : Nat) (kk : XS → HS → Int32 → Option (Nat × (XS × HS))) (S : XS) (Hp : HS) (v2 : Nat) (v3 : Int32) (v4 : Int32) (v5 : Int32) (v6 : Int32) (v7 : Int32) (v9 : Int32) (t0 : Int32) : Option (Nat × (XS × HS)) :=
  (hget Hp v2 1).bind fun x218 =>
  (hldR 4 Hp x218 v4).bind fun x223 =>
  (hget Hp v2 1).bind fun x227 =>
  (hldR 4 Hp x227 v4).bind fun x232 =>
  (hldR 3 Hp x232 v6).bind fun x235 =>
  hnw 0 [v2, x235, x223] Hp 4 fun Hp237 x237 =>
  hstI 0 Hp237 x237 0 v9 fun Hp243 =>
  hstI 0 Hp243 x237 1 t0 fun Hp248 =>
  (if (v9 : Int32) = 2 then
  mL_build_J263 xs L kk S Hp248 v2 v3 v4 v5 v6 v7 v9 t0 t0 2 x237 x237 x235 v6 x223
  else
  mL_build_J263 xs L kk S Hp248 v2 v3 v4 v5 v6 v7 v9 t0 0 2 x237 x237 x235 v6 x223)
def mL_build_J168 (xs : Nat → Int32) (L : Nat) (kk : XS → HS → Int32 → Option (Nat × (XS × HS))) (S : XS) (Hp : HS) (v2 : Nat) (v3 : Int32) (v4 : Int32) (v5 : Int32) (v6 : Int32) (v7 : Int32) (v8 : Int32) (t0 : Int32) : Option (Nat × (XS × HS)) :=
  (if (t0 : Int32) = 0 then
  (mL_below (v8 >>> (2 &&& 31)) 5).bind fun x180 =>
  mL_build_J215 xs L kk S Hp v2 v3 v4 v5 v6 v7 t0 x180
  else
  (if (t0 : Int32) = 1 then
  (mL_below (v8 >>> (3 &&& 31)) v4).bind fun x198 =>
  mL_build_J215 xs L kk S Hp v2 v3 v4 v5 v6 v7 t0 x198
  else
  (mL_below (v8 >>> (2 &&& 31)) 9).bind fun x211 =>
  mL_build_J215 xs L kk S Hp v2 v3 v4 v5 v6 v7 t0 (1 + x211)))
def mL_build_J167 (xs : Nat → Int32) (L : Nat) (kk : XS → HS → Int32 → Option (Nat × (XS × HS))) (S : XS) (Hp : HS) (v2 : Nat) (v3 : Int32) (v4 : Int32) (v5 : Int32) (v6 : Int32) (v7 : Int32) (v8 : Int32) : Option (Nat × (XS × HS)) :=
  mL_build_J168 xs L kk S Hp v2 v3 v4 v5 v6 v7 v8 0
def mL_build_F99 (xs : Nat → Int32) (L : Nat) (kk : XS → HS → Int32 → Option (Nat × (XS × HS))) (v2 : Nat) (v3 : Int32) (v4 : Int32) (v5 : Int32) (v6 : Int32) (ih : XS → HS → Int32 → Option (Nat × (XS × HS))) (S : XS) (Hp : HS) (v7 : Int32) : Option (Nat × (XS × HS)) :=
  (mL_below ((v5 >>> (3 &&& 31)) + v6) 4).bind fun x109 =>
  (if (x109 : Int32) ≤ v7 then
  kk S Hp (v6 + 1)
  else
  (mL_below (((v5 >>> ((2 * v7) &&& 31)) + (5 * v6)) + (7 * v7)) 6).bind fun x139 =>
  (if (x139 : Int32) = 0 then
  mL_build_J168 xs L ih S Hp v2 v3 v4 v5 v6 v7 (((v5 >>> ((2 * v7) &&& 31)) + (5 * v6)) + (7 * v7)) 2
  else
  (if (v4 : Int32) ≤ 0 then
  mL_build_J167 xs L ih S Hp v2 v3 v4 v5 v6 v7 (((v5 >>> ((2 * v7) &&& 31)) + (5 * v6)) + (7 * v7))
  else
  (mL_below (((v5 >>> ((2 * v7) &&& 31)) + (5 * v6)) + (7 * v7)) 2).bind fun x157 =>
  (if (x157 : Int32) = 0 then
  mL_build_J168 xs L ih S Hp v2 v3 v4 v5 v6 v7 (((v5 >>> ((2 * v7) &&& 31)) + (5 * v6)) + (7 * v7)) 1
  else
  mL_build_J167 xs L ih S Hp v2 v3 v4 v5 v6 v7 (((v5 >>> ((2 * v7) &&& 31)) + (5 * v6)) + (7 * v7))))))
def mL_build_F66 (xs : Nat → Int32) (L : Nat) (kk : XS → HS → Int32 → Option (Nat × (XS × HS))) (v2 : Nat) (v3 : Int32) (v4 : Int32) (v5 : Int32) (ih : XS → HS → Int32 → Option (Nat × (XS × HS))) (S : XS) (Hp : HS) (v6 : Int32) : Option (Nat × (XS × HS)) :=
  (mL_below v5 4).bind fun x71 =>
  (if (x71 : Int32) ≤ v6 then
  kk S Hp (v4 + 1)
  else
  hcb [v2] [v2] Hp (mS_proof Hp v2 v4) fun x80 Hp80 =>
  xbW (mX_proof S v4) fun x86 S86 =>
  (if (x86 : Int32) = v6 then
  itr3 (mL_build_F99 xs L ih v2 v3 v4 v5 v6) 16 S86 Hp80 0
  else
  none))
def mL_build_F24 (xs : Nat → Int32) (L : Nat) (v2 : Nat) (v3 : Int32) (ih : XS → HS → Int32 → Option (Nat × (XS × HS))) (S : XS) (Hp : HS) (v4 : Int32) : Option (Nat × (XS × HS)) :=
  (if (v3 : Int32) ≤ v4 then
  some (v2, (S, Hp))
  else
  (mL_cell xs L (1 + v4)).bind fun x35 =>
  hcb [v2] [v2] Hp (mS_lemma Hp v2) fun x49 Hp49 =>
  xbW (mX_lemma S) fun x53 S53 =>
  (if (x53 : Int32) = v4 then
  itr3 (mL_build_F66 xs L ih v2 v3 v4 ((x35 >>> (2 &&& 31)) + (13 * v4))) 16 S53 Hp49 0
  else
  none))
def mL_build (S0 : XS) (Hp0 : HS) (xs : Nat → Int32) (L : Nat) : Option (Nat × (XS × HS)) :=
  hno [] Hp0 fun Hp0 x0 =>
  hcb [x0] [x0] Hp0 (mS_init Hp0 x0) fun x4 Hp4 =>
  (mL_cell xs L 0).bind fun x11 =>
  (mL_below x11 12).bind fun x16 =>
  itr3 (mL_build_F24 xs L x0 (1 + x16)) 16 S0 Hp4 0
def mL_law_J1029 (xs : Nat → Int32) (L : Nat) (kk : XS → HS → Int32 → Option Int32) (S : XS) (Hp : HS) (v2 : Nat) (v3 : Int32) (v5 : Int64) (v14 : Int32) (v16 : Int32) (v18 : Int32) (v19 : Int32) : Option Int32 :=
  xbW (mX_withdraw S v14 v16 v18) fun x1036 S1036 =>
  (if (x1036 : Int32) = v19 then
  (mX_digest S1036).bind fun x1045 =>
  (if ((lg_cmp x1045 v5) : Int32) = 0 then
  kk S1036 Hp (v3 + 1)
  else
  none)
  else
  none)
def mL_law_J1009 (xs : Nat → Int32) (L : Nat) (kk : XS → HS → Int32 → Option Int32) (S : XS) (Hp : HS) (v2 : Nat) (v3 : Int32) (v5 : Int64) (v14 : Int32) (v16 : Int32) (v18 : Int32) (v19 : Int32) (t0 : Int32) (t1 : Int32) : Option Int32 :=
  (if (t1 : Int32) = t0 then
  (if (v19 : Int32) = 0 then
  xbR (mX_about S v14 v16 1) fun x1023 =>
  (if (x1023 : Int32) = 0 then
  mL_law_J1029 xs L kk S Hp v2 v3 v5 v14 v16 v18 v19
  else
  none)
  else
  mL_law_J1029 xs L kk S Hp v2 v3 v5 v14 v16 v18 v19)
  else
  none)
def mL_law_J971 (xs : Nat → Int32) (L : Nat) (kk : XS → HS → Int32 → Option Int32) (S : XS) (Hp : HS) (v2 : Nat) (v3 : Int32) (v5 : Int64) (v14 : Int32) (v16 : Int32) (v18 : Int32) (t0 : Int32) : Option Int32 :=
  xbW (mX_withdraw S v14 v16 v18) fun x980 S980 =>
  (if (x980 : Int32) = t0 then
  none
  else
  xbR (mX_step S980 v14 v16 v18 3) fun x996 =>
  (if (t0 : Int32) = 0 then
  mL_law_J1009 xs L kk S980 Hp v2 v3 v5 v14 v16 v18 t0 1 x996
  else
  mL_law_J1009 xs L kk S980 Hp v2 v3 v5 v14 v16 v18 t0 0 x996))
def mL_law_J866 (xs : Nat → Int32) (L : Nat) (kk : XS → HS → Int32 → Option Int32) (S : XS) (Hp : HS) (v2 : Nat) (v3 : Int32) (v4 : Int32) (v7 : Int32) (v12 : Int32) : Option Int32 :=
  (hget Hp v2 0).bind fun x867 =>
  hstI 1 Hp x867 v12 (1 &&& 1) fun Hp873 =>
  (mX_digest S).bind fun x875 =>
  (mL_below (v4 >>> (3 &&& 31)) v7).bind fun x886 =>
  xbR (mX_told S x886 0) fun x895 =>
  (if (x895 : Int32) = 0 then
  kk S Hp873 (v3 + 1)
  else
  (mL_below (v4 >>> (6 &&& 31)) x895).bind fun x915 =>
  xbR (mX_about S x886 x915 0) fun x926 =>
  (if (x926 : Int32) = 0 then
  kk S Hp873 (v3 + 1)
  else
  (mL_below (v4 >>> (7 &&& 31)) x926).bind fun x946 =>
  xbR (mX_step S x886 x915 x946 3) fun x959 =>
  (if (x959 : Int32) = 1 then
  mL_law_J971 xs L kk S Hp873 v2 v3 x875 x886 x915 x946 1
  else
  mL_law_J971 xs L kk S Hp873 v2 v3 x875 x886 x915 x946 0)))
def mL_law_J808 (xs : Nat → Int32) (L : Nat) (kk : XS → HS → Int32 → Option Int32) (S : XS) (Hp : HS) (v2 : Nat) (v3 : Int32) (v4 : Int32) (v5 : Int64) (v7 : Int32) (v8 : Int32) : Option Int32 :=
  (mL_below (v4 >>> (5 &&& 31)) 5).bind fun x813 =>
  xbW (mX_take S x813 1) fun x822 S822 =>
  (hget Hp v2 0).bind fun x830 =>
  (hldI 1 Hp x830 x813).bind fun x835 =>
  (if (x822 : Int32) = x835 then
  xbR (mX_count S822 1) fun x841 =>
  (if (x841 : Int32) < v8 then
  none
  else
  (if (x822 : Int32) = 0 then
  mL_law_J866 xs L kk S822 Hp v2 v3 v4 v7 x813
  else
  (mX_digest S822).bind fun x855 =>
  (if ((lg_cmp x855 v5) : Int32) = 0 then
  mL_law_J866 xs L kk S822 Hp v2 v3 v4 v7 x813
  else
  none)))
  else
  none)
def mL_law_F623 (xs : Nat → Int32) (L : Nat) (kk : XS → HS → Int32 → Option Int32) (S : XS) (Hp : HS) (v2 : Nat) (v3 : Int32) (v4 : Int32) (v5 : Int64) (v7 : Int32) (v8 : Int32) (v9 : Nat) (v10 : Int32) (ih : Int32 → Option Int32) (v11 : Int32) : Option Int32 :=
  (if (v7 : Int32) < v11 then
  (if (v10 : Int32) = v8 then
  (mX_digest S).bind fun x664 =>
  (if ((lg_cmp x664 v5) : Int32) = 0 then
  rb (mX_advise S) fun x676 S676 =>
  (if (x676 : Int32) < 0 then
  mL_law_J808 xs L kk S676 Hp v2 v3 v4 v5 v7 v8
  else
  (idv x676 100).bind fun x690 =>
  (idv x676 10).bind fun x697 =>
  (irm x697 10).bind fun x700 =>
  (irm x676 10).bind fun x707 =>
  xbR (mX_step S676 x690 x700 x707 2) fun x718 =>
  xbR (mX_step S676 x690 x700 x707 0) fun x731 =>
  (if (x731 : Int32) = 2 then
  (if (x718 : Int32) < 1 then
  none
  else
  xbW (mX_patch S676 x690 x700 x707 9) fun x753 S753 =>
  (if (x753 : Int32) = 0 then
  xbR (mX_count S753 1) fun x761 =>
  (if (x761 : Int32) ≤ v8 then
  none
  else
  xbR (mX_count S753 5) fun x771 =>
  (if (0 : Int32) ≤ x771 then
  (hget Hp v2 1).bind fun x780 =>
  (hldR 4 Hp x780 x690).bind fun x785 =>
  (hldR 3 Hp x785 x700).bind fun x788 =>
  (hldR 2 Hp x788 x707).bind fun x791 =>
  hstI 0 Hp x791 2 0 fun Hp794 =>
  xbR (mX_count S753 1) fun x797 =>
  (mX_digest S753).bind fun x803 =>
  mL_law_J808 xs L kk S753 Hp794 v2 v3 v4 x803 v7 x797
  else
  none))
  else
  none))
  else
  none))
  else
  none)
  else
  none)
  else
  (hldI 0 Hp v9 v11).bind fun x634 =>
  (if (x634 : Int32) ≤ 0 then
  ih (v11 + 1)
  else
  (hldI 0 Hp v9 (v11 - 1)).bind fun x644 =>
  (if (x644 : Int32) = 0 then
  none
  else
  ih (v11 + 1))))
def mL_law_F574 (xs : Nat → Int32) (L : Nat) (kk : XS → HS → Int32 → Int32 → Option Int32) (Hp : HS) (v2 : Nat) (v3 : Int32) (v4 : Int32) (v5 : Int64) (v7 : Int32) (v8 : Int32) (v9 : Nat) (v10 : Int32) (v11 : Int32) (v12 : Int32) (ih : XS → Int32 → Option Int32) (S : XS) (v18 : Int32) : Option Int32 :=
  (if (5 : Int32) ≤ v18 then
  kk S Hp v10 (v11 + 1)
  else
  xbW (mX_needs S v11 v18) fun x585 S585 =>
  (if (x585 : Int32) = 0 then
  ih S585 (v18 + 1)
  else
  (if (v12 : Int32) = 0 then
  none
  else
  (hget Hp v2 0).bind fun x597 =>
  (hldI 1 Hp x597 v18).bind fun x602 =>
  (if (x602 : Int32) = 0 then
  none
  else
  ih S585 (v18 + 1)))))
def mL_law_J511 (xs : Nat → Int32) (L : Nat) (kk : XS → HS → Int32 → Int32 → Option Int32) (S : XS) (Hp : HS) (v2 : Nat) (v3 : Int32) (v4 : Int32) (v5 : Int64) (v7 : Int32) (v8 : Int32) (v9 : Nat) (v10 : Int32) (v11 : Int32) (v12 : Int32) : Option Int32 :=
  xbR (mX_told S v11 3) fun x515 =>
  (if (9998 : Int32) < x515 then
  none
  else
  xbR (mX_told S v11 4) fun x528 =>
  (if (x528 : Int32) ≤ 9998 then
  xbW (mX_without S v11) fun x542 S542 =>
  (if (v12 : Int32) = 0 then
  (if (x542 : Int32) = v8 then
  itr2 (mL_law_F574 xs L kk Hp v2 v3 v4 v5 v7 v8 v9 v10 v11 v12) 16 S542 0
  else
  none)
  else
  (if (x542 : Int32) < v8 then
  itr2 (mL_law_F574 xs L kk Hp v2 v3 v4 v5 v7 v8 v9 v10 v11 v12) 16 S542 0
  else
  none))
  else
  none))
def mL_law_J489 (xs : Nat → Int32) (L : Nat) (kk : XS → HS → Int32 → Int32 → Option Int32) (S : XS) (Hp : HS) (v2 : Nat) (v3 : Int32) (v4 : Int32) (v5 : Int64) (v7 : Int32) (v8 : Int32) (v9 : Nat) (v10 : Int32) (v11 : Int32) (v12 : Int32) (v13 : Int32) (v16 : Int32) (t0 : Int32) (t1 : Int32) : Option Int32 :=
  (if (t1 : Int32) = t0 then
  (if (v13 : Int32) < 0 then
  mL_law_J511 xs L kk S Hp v2 v3 v4 v5 v7 v8 v9 v10 v11 v12
  else
  xbR (mX_about S v11 v13 2) fun x503 =>
  (if (x503 : Int32) = v16 then
  mL_law_J511 xs L kk S Hp v2 v3 v4 v5 v7 v8 v9 v10 v11 v12
  else
  none))
  else
  none)
def mL_law_J479 (xs : Nat → Int32) (L : Nat) (kk : XS → HS → Int32 → Int32 → Option Int32) (S : XS) (Hp : HS) (v2 : Nat) (v3 : Int32) (v4 : Int32) (v5 : Int64) (v7 : Int32) (v8 : Int32) (v9 : Nat) (v10 : Int32) (v11 : Int32) (v12 : Int32) (v13 : Int32) (v16 : Int32) (t0 : Int32) : Option Int32 :=
  (if (0 : Int32) ≤ v16 then
  mL_law_J489 xs L kk S Hp v2 v3 v4 v5 v7 v8 v9 v10 v11 v12 v13 v16 0 t0
  else
  mL_law_J489 xs L kk S Hp v2 v3 v4 v5 v7 v8 v9 v10 v11 v12 v13 v16 1 t0)
def mL_law_J464 (xs : Nat → Int32) (L : Nat) (kk : XS → HS → Int32 → Int32 → Option Int32) (S : XS) (Hp : HS) (v2 : Nat) (v3 : Int32) (v4 : Int32) (v5 : Int64) (v7 : Int32) (v8 : Int32) (v9 : Nat) (v10 : Int32) (v11 : Int32) (v12 : Int32) (v13 : Int32) (v16 : Int32) (t0 : Int32) (t1 : Int32) : Option Int32 :=
  (if (t1 : Int32) = t0 then
  (if (0 : Int32) ≤ v13 then
  mL_law_J479 xs L kk S Hp v2 v3 v4 v5 v7 v8 v9 v10 v11 v12 v13 v16 0
  else
  mL_law_J479 xs L kk S Hp v2 v3 v4 v5 v7 v8 v9 v10 v11 v12 v13 v16 1)
  else
  none)
def mL_law_J451 (xs : Nat → Int32) (L : Nat) (kk : XS → HS → Int32 → Int32 → Option Int32) (S : XS) (Hp : HS) (v2 : Nat) (v3 : Int32) (v4 : Int32) (v5 : Int64) (v7 : Int32) (v8 : Int32) (v9 : Nat) (v10 : Int32) (v11 : Int32) (v12 : Int32) (v13 : Int32) (v15 : Int32) (v16 : Int32) : Option Int32 :=
  (if (v12 : Int32) = 1 then
  mL_law_J464 xs L kk S Hp v2 v3 v4 v5 v7 v8 v9 v10 v11 v12 v13 v16 1 v15
  else
  mL_law_J464 xs L kk S Hp v2 v3 v4 v5 v7 v8 v9 v10 v11 v12 v13 v16 0 v15)
def mL_law_J421 (xs : Nat → Int32) (L : Nat) (kk : XS → HS → Int32 → Int32 → Option Int32) (S : XS) (Hp : HS) (v2 : Nat) (v3 : Int32) (v4 : Int32) (v5 : Int64) (v7 : Int32) (v8 : Int32) (v9 : Nat) (v10 : Int32) (v11 : Int32) (v12 : Int32) (v13 : Int32) (v15 : Int32) (v16 : Int32) (t0 : Int32) (t1 : Int32) : Option Int32 :=
  (if (t1 : Int32) = t0 then
  xbR (mX_told S v11 3) fun x428 =>
  (if (x428 : Int32) = v16 then
  xbR (mX_told S v11 3) fun x440 =>
  (if (x440 : Int32) < 0 then
  mL_law_J451 xs L kk S Hp v2 v3 v4 v5 v7 v8 v9 v10 v11 v12 v13 v15 v16
  else
  (if (v12 : Int32) = 0 then
  none
  else
  mL_law_J451 xs L kk S Hp v2 v3 v4 v5 v7 v8 v9 v10 v11 v12 v13 v15 v16))
  else
  none)
  else
  none)
def mL_law_J411 (xs : Nat → Int32) (L : Nat) (kk : XS → HS → Int32 → Int32 → Option Int32) (S : XS) (Hp : HS) (v2 : Nat) (v3 : Int32) (v4 : Int32) (v5 : Int64) (v7 : Int32) (v8 : Int32) (v9 : Nat) (v10 : Int32) (v11 : Int32) (v12 : Int32) (v13 : Int32) (v15 : Int32) (v16 : Int32) (t0 : Int32) : Option Int32 :=
  (if (v12 : Int32) ≤ 0 then
  mL_law_J421 xs L kk S Hp v2 v3 v4 v5 v7 v8 v9 v10 v11 v12 v13 v15 v16 0 t0
  else
  mL_law_J421 xs L kk S Hp v2 v3 v4 v5 v7 v8 v9 v10 v11 v12 v13 v15 v16 1 t0)
def mL_law_J393 (xs : Nat → Int32) (L : Nat) (kk : XS → HS → Int32 → Int32 → Option Int32) (S : XS) (Hp : HS) (v2 : Nat) (v3 : Int32) (v4 : Int32) (v5 : Int64) (v7 : Int32) (v8 : Int32) (v9 : Nat) (v10 : Int32) (v11 : Int32) (v12 : Int32) (v13 : Int32) (v15 : Int32) (v16 : Int32) (t0 : Int32) (t1 : Int32) : Option Int32 :=
  (if (t1 : Int32) = t0 then
  xbR (mX_told S v11 4) fun x400 =>
  (if (x400 : Int32) = 0 then
  mL_law_J411 xs L kk S Hp v2 v3 v4 v5 v7 v8 v9 v10 v11 v12 v13 v15 v16 1
  else
  mL_law_J411 xs L kk S Hp v2 v3 v4 v5 v7 v8 v9 v10 v11 v12 v13 v15 v16 0)
  else
  none)
def mL_law_J356 (xs : Nat → Int32) (L : Nat) (kk : Int32 → Int32 → Int32 → Int32 → Option Int32) (S : XS) (Hp : HS) (v2 : Nat) (v3 : Int32) (v4 : Int32) (v5 : Int64) (v7 : Int32) (v8 : Int32) (v9 : Nat) (v10 : Int32) (v11 : Int32) (v12 : Int32) (v13 : Int32) (v14 : Int32) (v15 : Int32) (v16 : Int32) (v17 : Int32) (v18 : Int32) : Option Int32 :=
  (if (v18 : Int32) = 0 then
  kk v14 v15 v16 (v17 + 1)
  else
  xbR (mX_about S v11 v17 3) fun x367 =>
  (if (x367 : Int32) = 0 then
  kk v14 v15 v16 (v17 + 1)
  else
  none))
def mL_law_J352 (xs : Nat → Int32) (L : Nat) (kk : Int32 → Int32 → Int32 → Int32 → Option Int32) (S : XS) (Hp : HS) (v2 : Nat) (v3 : Int32) (v4 : Int32) (v5 : Int64) (v7 : Int32) (v8 : Int32) (v9 : Nat) (v10 : Int32) (v11 : Int32) (v12 : Int32) (v13 : Int32) (v14 : Int32) (v15 : Int32) (v17 : Int32) (v18 : Int32) (v20 : Int32) : Option Int32 :=
  mL_law_J356 xs L kk S Hp v2 v3 v4 v5 v7 v8 v9 v10 v11 v12 v13 v14 v15 v20 v17 v18
def mL_law_J335 (xs : Nat → Int32) (L : Nat) (kk : Int32 → Int32 → Int32 → Int32 → Option Int32) (S : XS) (Hp : HS) (v2 : Nat) (v3 : Int32) (v4 : Int32) (v5 : Int64) (v7 : Int32) (v8 : Int32) (v9 : Nat) (v10 : Int32) (v11 : Int32) (v12 : Int32) (v13 : Int32) (v14 : Int32) (v15 : Int32) (v16 : Int32) (v17 : Int32) (v18 : Int32) (v20 : Int32) : Option Int32 :=
  (if (v20 : Int32) < 0 then
  mL_law_J356 xs L kk S Hp v2 v3 v4 v5 v7 v8 v9 v10 v11 v12 v13 v14 v15 v16 v17 v18
  else
  (if (v16 : Int32) < 0 then
  mL_law_J352 xs L kk S Hp v2 v3 v4 v5 v7 v8 v9 v10 v11 v12 v13 v14 v15 v17 v18 v20
  else
  (if (v16 : Int32) ≤ v20 then
  mL_law_J356 xs L kk S Hp v2 v3 v4 v5 v7 v8 v9 v10 v11 v12 v13 v14 v15 v16 v17 v18
  else
  mL_law_J352 xs L kk S Hp v2 v3 v4 v5 v7 v8 v9 v10 v11 v12 v13 v14 v15 v17 v18 v20)))
def mL_law_J295 (xs : Nat → Int32) (L : Nat) (kk : Int32 → Int32 → Int32 → Int32 → Option Int32) (S : XS) (Hp : HS) (v2 : Nat) (v3 : Int32) (v4 : Int32) (v5 : Int64) (v7 : Int32) (v8 : Int32) (v9 : Nat) (v10 : Int32) (v11 : Int32) (v12 : Int32) (v13 : Int32) (v14 : Int32) (v16 : Int32) (v17 : Int32) (v18 : Int32) (t0 : Int32) (t1 : Int32) : Option Int32 :=
  xbR (mX_about S v11 v17 2) fun x304 =>
  (if (x304 : Int32) < 0 then
  mL_law_J335 xs L kk S Hp v2 v3 v4 v5 v7 v8 v9 v10 v11 v12 v13 v14 (t1 ||| t0) v16 v17 v18 x304
  else
  (if (v18 : Int32) = 0 then
  none
  else
  xbR (mX_about S v11 v17 0) fun x327 =>
  (if (x327 : Int32) ≤ x304 then
  mL_law_J335 xs L kk S Hp v2 v3 v4 v5 v7 v8 v9 v10 v11 v12 v13 v14 (t1 ||| t0) v16 v17 v18 x304
  else
  none)))
def mL_law_J294 (xs : Nat → Int32) (L : Nat) (kk : Int32 → Int32 → Int32 → Int32 → Option Int32) (S : XS) (Hp : HS) (v2 : Nat) (v3 : Int32) (v4 : Int32) (v5 : Int64) (v7 : Int32) (v8 : Int32) (v9 : Nat) (v10 : Int32) (v11 : Int32) (v12 : Int32) (v13 : Int32) (v14 : Int32) (v16 : Int32) (v17 : Int32) (v18 : Int32) (t0 : Int32) : Option Int32 :=
  mL_law_J295 xs L kk S Hp v2 v3 v4 v5 v7 v8 v9 v10 v11 v12 v13 v14 v16 v17 v18 0 t0
def mL_law_F233 (xs : Nat → Int32) (L : Nat) (kk : Int32 → Int32 → Int32 → Int32 → Option Int32) (S : XS) (Hp : HS) (v2 : Nat) (v3 : Int32) (v4 : Int32) (v5 : Int64) (v7 : Int32) (v8 : Int32) (v9 : Nat) (v10 : Int32) (v11 : Int32) (v12 : Int32) (v13 : Int32) (v14 : Int32) (v15 : Int32) (v16 : Int32) (v17 : Int32) (v18 : Int32) (ih : Int32 → Int32 → Option Int32) (v19 : Int32) (v20 : Int32) : Option Int32 :=
  xbR (mX_about S v11 v17 0) fun x241 =>
  (if (x241 : Int32) ≤ v20 then
  (if (v18 : Int32) = 0 then
  mL_law_J294 xs L kk S Hp v2 v3 v4 v5 v7 v8 v9 v10 v11 v12 v13 v14 v16 v17 v18 v15
  else
  (if (v19 : Int32) = 0 then
  mL_law_J294 xs L kk S Hp v2 v3 v4 v5 v7 v8 v9 v10 v11 v12 v13 v14 v16 v17 v18 v15
  else
  mL_law_J295 xs L kk S Hp v2 v3 v4 v5 v7 v8 v9 v10 v11 v12 v13 v14 v16 v17 v18 1 v15))
  else
  xbR (mX_step S v11 v17 v20 0) fun x257 =>
  (if (x257 : Int32) = 1 then
  ih (v19 &&& 0) (v20 + 1)
  else
  ih (v19 &&& 1) (v20 + 1)))
def mL_law_F188 (xs : Nat → Int32) (L : Nat) (kk : XS → HS → Int32 → Int32 → Option Int32) (S : XS) (Hp : HS) (v2 : Nat) (v3 : Int32) (v4 : Int32) (v5 : Int64) (v7 : Int32) (v8 : Int32) (v9 : Nat) (v10 : Int32) (v11 : Int32) (v12 : Int32) (v13 : Int32) (ih : Int32 → Int32 → Int32 → Int32 → Option Int32) (v14 : Int32) (v15 : Int32) (v16 : Int32) (v17 : Int32) : Option Int32 :=
  xbR (mX_told S v11 0) fun x194 =>
  (if (x194 : Int32) ≤ v17 then
  (if (v12 : Int32) ≤ 0 then
  mL_law_J393 xs L kk S Hp v2 v3 v4 v5 v7 v8 v9 v10 v11 v12 v13 v15 v16 0 v14
  else
  mL_law_J393 xs L kk S Hp v2 v3 v4 v5 v7 v8 v9 v10 v11 v12 v13 v15 v16 1 v14)
  else
  xbR (mX_about S v11 v17 1) fun x206 =>
  (if (x206 : Int32) = 1 then
  itr2 (mL_law_F233 xs L ih S Hp v2 v3 v4 v5 v7 v8 v9 v10 v11 v12 v13 (v14 ||| 1) v15 v16 v17 1) 16 1 0
  else
  itr2 (mL_law_F233 xs L ih S Hp v2 v3 v4 v5 v7 v8 v9 v10 v11 v12 v13 (v14 ||| 0) v15 v16 v17 0) 16 1 0))
def mL_law_J165 (xs : Nat → Int32) (L : Nat) (kk : XS → HS → Int32 → Int32 → Option Int32) (S : XS) (Hp : HS) (v2 : Nat) (v3 : Int32) (v4 : Int32) (v5 : Int64) (v7 : Int32) (v8 : Int32) (v9 : Nat) (v11 : Int32) (v12 : Int32) (t0 : Int32) (t1 : Int32) : Option Int32 :=
  xbR (mX_best S v11) fun x171 =>
  itr4 (mL_law_F188 xs L kk S Hp v2 v3 v4 v5 v7 v8 v9 (t1 + t0) v11 v12 x171) 16 0 0 (-1) 0
def mL_law_F114 (xs : Nat → Int32) (L : Nat) (kk : XS → HS → Int32 → Option Int32) (v2 : Nat) (v3 : Int32) (v4 : Int32) (v5 : Int64) (v7 : Int32) (v8 : Int32) (v9 : Nat) (ih : XS → HS → Int32 → Int32 → Option Int32) (S : XS) (Hp : HS) (v10 : Int32) (v11 : Int32) : Option Int32 :=
  (if (v7 : Int32) ≤ v11 then
  itr1 (mL_law_F623 xs L kk S Hp v2 v3 v4 v5 v7 v8 v9 v10) 16 2
  else
  xbR (mX_told S v11 2) fun x125 =>
  (if (x125 : Int32) < 0 then
  none
  else
  (if (x125 : Int32) ≤ v7 then
  (hldI 0 Hp v9 x125).bind fun x149 =>
  hstI 0 Hp v9 x125 (x149 + 1) fun Hp152 =>
  (if (x125 : Int32) ≤ 0 then
  mL_law_J165 xs L ih S Hp152 v2 v3 v4 v5 v7 v8 v9 v11 x125 0 v10
  else
  mL_law_J165 xs L ih S Hp152 v2 v3 v4 v5 v7 v8 v9 v11 x125 1 v10)
  else
  none)))
def mL_law_F45 (xs : Nat → Int32) (L : Nat) (kk : XS → HS → Int32 → Option Int32) (v2 : Nat) (v3 : Int32) (v4 : Int32) (ih : XS → HS → Int32 → Option Int32) (S : XS) (Hp : HS) (v5 : Int32) : Option Int32 :=
  (if (4 : Int32) ≤ v5 then
  (mX_digest S).bind fun x81 =>
  xbR (mX_count S 0) fun x88 =>
  xbR (mX_count S 1) fun x95 =>
  hnw 0 [v2] Hp (x88 + 2) fun Hp104 x104 =>
  itr4 (mL_law_F114 xs L kk v2 v3 v4 x81 x88 x95 x104) 16 S Hp104 0 0
  else
  hcbL [v2] [] Hp (mL_act S Hp v2 ((v4 >>> ((3 * v5) &&& 31)) + (29 * v5))) fun x66 S66 Hp66 =>
  (if (x66 : Int32) = 0 then
  none
  else
  ih S66 Hp66 (v5 + 1)))
def mL_law_F22 (xs : Nat → Int32) (L : Nat) (v2 : Nat) (ih : XS → HS → Int32 → Option Int32) (S : XS) (Hp : HS) (v3 : Int32) : Option Int32 :=
  (if (10 : Int32) ≤ v3 then
  hcbL [] [v2] Hp (mS_isSame S Hp v2) fun x1064 S1064 Hp1064 =>
  some x1064
  else
  (mL_cell xs L v3).bind fun x30 =>
  itr3 (mL_law_F45 xs L ih v2 v3 ((x30 >>> (2 &&& 31)) + (53 * v3))) 16 S Hp 0)
def mL_law_J8 (xs : Nat → Int32) (L : Nat) (S : XS) (Hp : HS) : Option Int32 :=
  hcbL [] [] Hp (mL_build S Hp xs L) fun x10 S10 Hp10 =>
  itr3 (mL_law_F22 xs L x10) 16 S10 Hp10 0
end HMIR
