section
-- ===== PART A: goes FIRST, ahead of the names: the tables' words, and 'selects' of the private methods out of them =====
/-- a private method of a class that the tables say can be made, by its rows of tables_1 -/
def lw_okq (q : MethodName × Nat) : Prop := (q.1.cls ≠ "java/lang/invoke/MethodHandle" ∧ q.1.cls ≠ "java/lang/invoke/VarHandle") ∧ Cond.instantiable q.1.cls q.2 ∈ tables_1 ∧ Cond.privateMethod q.1 ∈ tables_1 ∧ Cond.instanceMethod q.1 ∈ tables_1
theorem lw_p0 : lw_okq (⟨"LodgeProofs", "provedIfClosed", "(I)I"⟩, 15) := ⟨⟨by decide +kernel, by decide +kernel⟩, List.mem_of_getElem? (i := 13) (by decide +kernel), List.mem_of_getElem? (i := 82) (by decide +kernel), List.mem_of_getElem? (i := 83) (by decide +kernel)⟩
theorem lw_p1 : lw_okq (⟨"LodgeProofs", "prove", "([II)I"⟩, 15) := ⟨⟨by decide +kernel, by decide +kernel⟩, List.mem_of_getElem? (i := 13) (by decide +kernel), List.mem_of_getElem? (i := 86) (by decide +kernel), List.mem_of_getElem? (i := 87) (by decide +kernel)⟩
theorem lw_p2 : lw_okq (⟨"LodgeProofs", "hasProofAt", "(I[II)Z"⟩, 15) := ⟨⟨by decide +kernel, by decide +kernel⟩, List.mem_of_getElem? (i := 13) (by decide +kernel), List.mem_of_getElem? (i := 93) (by decide +kernel), List.mem_of_getElem? (i := 94) (by decide +kernel)⟩
theorem lw_p3 : lw_okq (⟨"LodgeProofs", "holds", "(I[II)Z"⟩, 15) := ⟨⟨by decide +kernel, by decide +kernel⟩, List.mem_of_getElem? (i := 13) (by decide +kernel), List.mem_of_getElem? (i := 97) (by decide +kernel), List.mem_of_getElem? (i := 98) (by decide +kernel)⟩
theorem lw_p4 : lw_okq (⟨"LodgeProofs", "isWhole", "(I)Z"⟩, 15) := ⟨⟨by decide +kernel, by decide +kernel⟩, List.mem_of_getElem? (i := 13) (by decide +kernel), List.mem_of_getElem? (i := 101) (by decide +kernel), List.mem_of_getElem? (i := 102) (by decide +kernel)⟩
theorem lw_p5 : lw_okq (⟨"LodgeProofs", "endOfSteps", "(I)I"⟩, 15) := ⟨⟨by decide +kernel, by decide +kernel⟩, List.mem_of_getElem? (i := 13) (by decide +kernel), List.mem_of_getElem? (i := 105) (by decide +kernel), List.mem_of_getElem? (i := 106) (by decide +kernel)⟩
theorem lw_p6 : lw_okq (⟨"LodgeProofs", "stepHolds", "(I[II)Z"⟩, 15) := ⟨⟨by decide +kernel, by decide +kernel⟩, List.mem_of_getElem? (i := 13) (by decide +kernel), List.mem_of_getElem? (i := 109) (by decide +kernel), List.mem_of_getElem? (i := 110) (by decide +kernel)⟩
theorem lw_p7 : lw_okq (⟨"LodgeProofs", "isLemma", "(I)Z"⟩, 15) := ⟨⟨by decide +kernel, by decide +kernel⟩, List.mem_of_getElem? (i := 13) (by decide +kernel), List.mem_of_getElem? (i := 116) (by decide +kernel), List.mem_of_getElem? (i := 117) (by decide +kernel)⟩
theorem lw_p8 : lw_okq (⟨"LodgeProofs", "overLemmas", "(I)I"⟩, 15) := ⟨⟨by decide +kernel, by decide +kernel⟩, List.mem_of_getElem? (i := 13) (by decide +kernel), List.mem_of_getElem? (i := 124) (by decide +kernel), List.mem_of_getElem? (i := 125) (by decide +kernel)⟩
theorem lw_p9 : lw_okq (⟨"LodgeProofs", "lemmaTells", "(II)I"⟩, 15) := ⟨⟨by decide +kernel, by decide +kernel⟩, List.mem_of_getElem? (i := 13) (by decide +kernel), List.mem_of_getElem? (i := 128) (by decide +kernel), List.mem_of_getElem? (i := 129) (by decide +kernel)⟩
theorem lw_p10 : lw_okq (⟨"LodgeProofs", "stepsOf", "(I)I"⟩, 15) := ⟨⟨by decide +kernel, by decide +kernel⟩, List.mem_of_getElem? (i := 13) (by decide +kernel), List.mem_of_getElem? (i := 132) (by decide +kernel), List.mem_of_getElem? (i := 133) (by decide +kernel)⟩
theorem lw_p11 : lw_okq (⟨"LodgeProofs", "openOf", "(I)I"⟩, 15) := ⟨⟨by decide +kernel, by decide +kernel⟩, List.mem_of_getElem? (i := 13) (by decide +kernel), List.mem_of_getElem? (i := 139) (by decide +kernel), List.mem_of_getElem? (i := 140) (by decide +kernel)⟩
theorem lw_p12 : lw_okq (⟨"LodgeProofs", "countOf", "(I)I"⟩, 15) := ⟨⟨by decide +kernel, by decide +kernel⟩, List.mem_of_getElem? (i := 13) (by decide +kernel), List.mem_of_getElem? (i := 149) (by decide +kernel), List.mem_of_getElem? (i := 150) (by decide +kernel)⟩
theorem lw_p13 : lw_okq (⟨"LodgeProofs", "axiomsTaken", "()I"⟩, 15) := ⟨⟨by decide +kernel, by decide +kernel⟩, List.mem_of_getElem? (i := 13) (by decide +kernel), List.mem_of_getElem? (i := 153) (by decide +kernel), List.mem_of_getElem? (i := 154) (by decide +kernel)⟩
theorem lw_p14 : lw_okq (⟨"LodgeProofs", "lemmasInCircles", "()I"⟩, 15) := ⟨⟨by decide +kernel, by decide +kernel⟩, List.mem_of_getElem? (i := 13) (by decide +kernel), List.mem_of_getElem? (i := 157) (by decide +kernel), List.mem_of_getElem? (i := 158) (by decide +kernel)⟩
theorem lw_p15 : lw_okq (⟨"LodgeProofs", "digestLemma", "(JI)J"⟩, 15) := ⟨⟨by decide +kernel, by decide +kernel⟩, List.mem_of_getElem? (i := 13) (by decide +kernel), List.mem_of_getElem? (i := 161) (by decide +kernel), List.mem_of_getElem? (i := 162) (by decide +kernel)⟩
def lw_privs_1 : List (MethodName × Nat) := [(⟨"LodgeProofs", "provedIfClosed", "(I)I"⟩, 15), (⟨"LodgeProofs", "prove", "([II)I"⟩, 15), (⟨"LodgeProofs", "hasProofAt", "(I[II)Z"⟩, 15), (⟨"LodgeProofs", "holds", "(I[II)Z"⟩, 15), (⟨"LodgeProofs", "isWhole", "(I)Z"⟩, 15), (⟨"LodgeProofs", "endOfSteps", "(I)I"⟩, 15), (⟨"LodgeProofs", "stepHolds", "(I[II)Z"⟩, 15), (⟨"LodgeProofs", "isLemma", "(I)Z"⟩, 15), (⟨"LodgeProofs", "overLemmas", "(I)I"⟩, 15), (⟨"LodgeProofs", "lemmaTells", "(II)I"⟩, 15), (⟨"LodgeProofs", "stepsOf", "(I)I"⟩, 15), (⟨"LodgeProofs", "openOf", "(I)I"⟩, 15), (⟨"LodgeProofs", "countOf", "(I)I"⟩, 15), (⟨"LodgeProofs", "axiomsTaken", "()I"⟩, 15), (⟨"LodgeProofs", "lemmasInCircles", "()I"⟩, 15), (⟨"LodgeProofs", "digestLemma", "(JI)J"⟩, 15)]
theorem lw_r1 : ∀ q ∈ lw_privs_1, lw_okq q := List.forall_mem_cons.mpr ⟨lw_p0, List.forall_mem_cons.mpr ⟨lw_p1, List.forall_mem_cons.mpr ⟨lw_p2, List.forall_mem_cons.mpr ⟨lw_p3, List.forall_mem_cons.mpr ⟨lw_p4, List.forall_mem_cons.mpr ⟨lw_p5, List.forall_mem_cons.mpr ⟨lw_p6, List.forall_mem_cons.mpr ⟨lw_p7, List.forall_mem_cons.mpr ⟨lw_p8, List.forall_mem_cons.mpr ⟨lw_p9, List.forall_mem_cons.mpr ⟨lw_p10, List.forall_mem_cons.mpr ⟨lw_p11, List.forall_mem_cons.mpr ⟨lw_p12, List.forall_mem_cons.mpr ⟨lw_p13, List.forall_mem_cons.mpr ⟨lw_p14, List.forall_mem_cons.mpr ⟨lw_p15, fun _ h => absurd h List.not_mem_nil⟩⟩⟩⟩⟩⟩⟩⟩⟩⟩⟩⟩⟩⟩⟩⟩
theorem lw_p16 : lw_okq (⟨"LodgeProofs", "digestProof", "(JI)J"⟩, 15) := ⟨⟨by decide +kernel, by decide +kernel⟩, List.mem_of_getElem? (i := 13) (by decide +kernel), List.mem_of_getElem? (i := 165) (by decide +kernel), List.mem_of_getElem? (i := 166) (by decide +kernel)⟩
theorem lw_p17 : lw_okq (⟨"LodgeProofs", "stepTells", "(II)I"⟩, 15) := ⟨⟨by decide +kernel, by decide +kernel⟩, List.mem_of_getElem? (i := 13) (by decide +kernel), List.mem_of_getElem? (i := 169) (by decide +kernel), List.mem_of_getElem? (i := 170) (by decide +kernel)⟩
theorem lw_p18 : lw_okq (⟨"java/lang/Throwable", "fillInStackTrace", "(I)Ljava/lang/Throwable;"⟩, 6) := ⟨⟨by decide +kernel, by decide +kernel⟩, List.mem_of_getElem? (i := 222) (by decide +kernel), List.mem_of_getElem? (i := 220) (by decide +kernel), List.mem_of_getElem? (i := 221) (by decide +kernel)⟩
theorem lw_p19 : lw_okq (⟨"LodgeProofs", "settle", "()V"⟩, 15) := ⟨⟨by decide +kernel, by decide +kernel⟩, List.mem_of_getElem? (i := 13) (by decide +kernel), List.mem_of_getElem? (i := 252) (by decide +kernel), List.mem_of_getElem? (i := 253) (by decide +kernel)⟩
theorem lw_p20 : lw_okq (⟨"LodgeProofs", "reckon", "([IZ)V"⟩, 15) := ⟨⟨by decide +kernel, by decide +kernel⟩, List.mem_of_getElem? (i := 13) (by decide +kernel), List.mem_of_getElem? (i := 256) (by decide +kernel), List.mem_of_getElem? (i := 257) (by decide +kernel)⟩
theorem lw_p21 : lw_okq (⟨"LodgeProofs", "reckonRound", "([IZ)Z"⟩, 15) := ⟨⟨by decide +kernel, by decide +kernel⟩, List.mem_of_getElem? (i := 13) (by decide +kernel), List.mem_of_getElem? (i := 260) (by decide +kernel), List.mem_of_getElem? (i := 261) (by decide +kernel)⟩
theorem lw_p22 : lw_okq (⟨"LodgeProofs", "costOfProof", "(I[IZ)I"⟩, 15) := ⟨⟨by decide +kernel, by decide +kernel⟩, List.mem_of_getElem? (i := 13) (by decide +kernel), List.mem_of_getElem? (i := 264) (by decide +kernel), List.mem_of_getElem? (i := 265) (by decide +kernel)⟩
theorem lw_p23 : lw_okq (⟨"LodgeProofs", "costOfStep", "(I[IZ)I"⟩, 15) := ⟨⟨by decide +kernel, by decide +kernel⟩, List.mem_of_getElem? (i := 13) (by decide +kernel), List.mem_of_getElem? (i := 268) (by decide +kernel), List.mem_of_getElem? (i := 269) (by decide +kernel)⟩
theorem lw_p24 : lw_okq (⟨"LodgeProofs", "lemmasCitedBy", "(I)I"⟩, 15) := ⟨⟨by decide +kernel, by decide +kernel⟩, List.mem_of_getElem? (i := 13) (by decide +kernel), List.mem_of_getElem? (i := 275) (by decide +kernel), List.mem_of_getElem? (i := 276) (by decide +kernel)⟩
theorem lw_p25 : lw_okq (⟨"LodgeProofs", "citesToItself", "(I)I"⟩, 15) := ⟨⟨by decide +kernel, by decide +kernel⟩, List.mem_of_getElem? (i := 13) (by decide +kernel), List.mem_of_getElem? (i := 279) (by decide +kernel), List.mem_of_getElem? (i := 280) (by decide +kernel)⟩
theorem lw_p26 : lw_okq (⟨"LodgeProofs", "lemmasCitedByAll", "(I)I"⟩, 15) := ⟨⟨by decide +kernel, by decide +kernel⟩, List.mem_of_getElem? (i := 13) (by decide +kernel), List.mem_of_getElem? (i := 286) (by decide +kernel), List.mem_of_getElem? (i := 287) (by decide +kernel)⟩
theorem lw_p27 : lw_okq (⟨"LodgeProofs", "requireLemma", "(I)V"⟩, 15) := ⟨⟨by decide +kernel, by decide +kernel⟩, List.mem_of_getElem? (i := 13) (by decide +kernel), List.mem_of_getElem? (i := 321) (by decide +kernel), List.mem_of_getElem? (i := 322) (by decide +kernel)⟩
theorem lw_p28 : lw_okq (⟨"LodgeProofs", "requireProof", "(II)V"⟩, 15) := ⟨⟨by decide +kernel, by decide +kernel⟩, List.mem_of_getElem? (i := 13) (by decide +kernel), List.mem_of_getElem? (i := 335) (by decide +kernel), List.mem_of_getElem? (i := 336) (by decide +kernel)⟩
theorem lw_p29 : lw_okq (⟨"LodgeProofs", "requireCitable", "(II)V"⟩, 15) := ⟨⟨by decide +kernel, by decide +kernel⟩, List.mem_of_getElem? (i := 13) (by decide +kernel), List.mem_of_getElem? (i := 340) (by decide +kernel), List.mem_of_getElem? (i := 341) (by decide +kernel)⟩
theorem lw_p30 : lw_okq (⟨"LodgeProofs", "requireStep", "(III)V"⟩, 15) := ⟨⟨by decide +kernel, by decide +kernel⟩, List.mem_of_getElem? (i := 13) (by decide +kernel), List.mem_of_getElem? (i := 369) (by decide +kernel), List.mem_of_getElem? (i := 370) (by decide +kernel)⟩
theorem lw_p31 : lw_okq (⟨"LodgeProofs", "moveUp", "(I)V"⟩, 15) := ⟨⟨by decide +kernel, by decide +kernel⟩, List.mem_of_getElem? (i := 13) (by decide +kernel), List.mem_of_getElem? (i := 393) (by decide +kernel), List.mem_of_getElem? (i := 394) (by decide +kernel)⟩
def lw_privs_2 : List (MethodName × Nat) := [(⟨"LodgeProofs", "digestProof", "(JI)J"⟩, 15), (⟨"LodgeProofs", "stepTells", "(II)I"⟩, 15), (⟨"java/lang/Throwable", "fillInStackTrace", "(I)Ljava/lang/Throwable;"⟩, 6), (⟨"LodgeProofs", "settle", "()V"⟩, 15), (⟨"LodgeProofs", "reckon", "([IZ)V"⟩, 15), (⟨"LodgeProofs", "reckonRound", "([IZ)Z"⟩, 15), (⟨"LodgeProofs", "costOfProof", "(I[IZ)I"⟩, 15), (⟨"LodgeProofs", "costOfStep", "(I[IZ)I"⟩, 15), (⟨"LodgeProofs", "lemmasCitedBy", "(I)I"⟩, 15), (⟨"LodgeProofs", "citesToItself", "(I)I"⟩, 15), (⟨"LodgeProofs", "lemmasCitedByAll", "(I)I"⟩, 15), (⟨"LodgeProofs", "requireLemma", "(I)V"⟩, 15), (⟨"LodgeProofs", "requireProof", "(II)V"⟩, 15), (⟨"LodgeProofs", "requireCitable", "(II)V"⟩, 15), (⟨"LodgeProofs", "requireStep", "(III)V"⟩, 15), (⟨"LodgeProofs", "moveUp", "(I)V"⟩, 15)]
theorem lw_r2 : ∀ q ∈ lw_privs_2, lw_okq q := List.forall_mem_cons.mpr ⟨lw_p16, List.forall_mem_cons.mpr ⟨lw_p17, List.forall_mem_cons.mpr ⟨lw_p18, List.forall_mem_cons.mpr ⟨lw_p19, List.forall_mem_cons.mpr ⟨lw_p20, List.forall_mem_cons.mpr ⟨lw_p21, List.forall_mem_cons.mpr ⟨lw_p22, List.forall_mem_cons.mpr ⟨lw_p23, List.forall_mem_cons.mpr ⟨lw_p24, List.forall_mem_cons.mpr ⟨lw_p25, List.forall_mem_cons.mpr ⟨lw_p26, List.forall_mem_cons.mpr ⟨lw_p27, List.forall_mem_cons.mpr ⟨lw_p28, List.forall_mem_cons.mpr ⟨lw_p29, List.forall_mem_cons.mpr ⟨lw_p30, List.forall_mem_cons.mpr ⟨lw_p31, fun _ h => absurd h List.not_mem_nil⟩⟩⟩⟩⟩⟩⟩⟩⟩⟩⟩⟩⟩⟩⟩⟩
theorem lw_p32 : lw_okq (⟨"LodgeProofsModel", "no", "(I)I"⟩, 13) := ⟨⟨by decide +kernel, by decide +kernel⟩, List.mem_of_getElem? (i := 450) (by decide +kernel), List.mem_of_getElem? (i := 514) (by decide +kernel), List.mem_of_getElem? (i := 515) (by decide +kernel)⟩
theorem lw_p33 : lw_okq (⟨"LodgeProofsModel", "isLemma", "(I)Z"⟩, 13) := ⟨⟨by decide +kernel, by decide +kernel⟩, List.mem_of_getElem? (i := 450) (by decide +kernel), List.mem_of_getElem? (i := 522) (by decide +kernel), List.mem_of_getElem? (i := 523) (by decide +kernel)⟩
theorem lw_p34 : lw_okq (⟨"LodgeProofsModel", "isProof", "(II)Z"⟩, 13) := ⟨⟨by decide +kernel, by decide +kernel⟩, List.mem_of_getElem? (i := 450) (by decide +kernel), List.mem_of_getElem? (i := 530) (by decide +kernel), List.mem_of_getElem? (i := 531) (by decide +kernel)⟩
theorem lw_p35 : lw_okq (⟨"LodgeProofsModel", "isStep", "(III)Z"⟩, 13) := ⟨⟨by decide +kernel, by decide +kernel⟩, List.mem_of_getElem? (i := 450) (by decide +kernel), List.mem_of_getElem? (i := 541) (by decide +kernel), List.mem_of_getElem? (i := 542) (by decide +kernel)⟩
theorem lw_p36 : lw_okq (⟨"LodgeProofsModel", "layOver", "(II)V"⟩, 13) := ⟨⟨by decide +kernel, by decide +kernel⟩, List.mem_of_getElem? (i := 450) (by decide +kernel), List.mem_of_getElem? (i := 554) (by decide +kernel), List.mem_of_getElem? (i := 555) (by decide +kernel)⟩
theorem lw_p37 : lw_okq (⟨"LodgeProofsModel", "lemmaTold", "(II)I"⟩, 13) := ⟨⟨by decide +kernel, by decide +kernel⟩, List.mem_of_getElem? (i := 450) (by decide +kernel), List.mem_of_getElem? (i := 565) (by decide +kernel), List.mem_of_getElem? (i := 566) (by decide +kernel)⟩
theorem lw_p38 : lw_okq (⟨"LodgeProofsModel", "measure", "()V"⟩, 13) := ⟨⟨by decide +kernel, by decide +kernel⟩, List.mem_of_getElem? (i := 450) (by decide +kernel), List.mem_of_getElem? (i := 569) (by decide +kernel), List.mem_of_getElem? (i := 570) (by decide +kernel)⟩
theorem lw_p39 : lw_okq (⟨"LodgeProofsModel", "getsShorter", "(I)Z"⟩, 13) := ⟨⟨by decide +kernel, by decide +kernel⟩, List.mem_of_getElem? (i := 450) (by decide +kernel), List.mem_of_getElem? (i := 573) (by decide +kernel), List.mem_of_getElem? (i := 574) (by decide +kernel)⟩
theorem lw_p40 : lw_okq (⟨"LodgeProofsModel", "lengthOf", "(II)I"⟩, 13) := ⟨⟨by decide +kernel, by decide +kernel⟩, List.mem_of_getElem? (i := 450) (by decide +kernel), List.mem_of_getElem? (i := 577) (by decide +kernel), List.mem_of_getElem? (i := 578) (by decide +kernel)⟩
theorem lw_p41 : lw_okq (⟨"LodgeProofsModel", "isWhole", "(II)Z"⟩, 13) := ⟨⟨by decide +kernel, by decide +kernel⟩, List.mem_of_getElem? (i := 450) (by decide +kernel), List.mem_of_getElem? (i := 581) (by decide +kernel), List.mem_of_getElem? (i := 582) (by decide +kernel)⟩
theorem lw_p42 : lw_okq (⟨"LodgeProofsModel", "getsCheaper", "(I)Z"⟩, 13) := ⟨⟨by decide +kernel, by decide +kernel⟩, List.mem_of_getElem? (i := 450) (by decide +kernel), List.mem_of_getElem? (i := 586) (by decide +kernel), List.mem_of_getElem? (i := 587) (by decide +kernel)⟩
theorem lw_p43 : lw_okq (⟨"LodgeProofsModel", "priceOf", "(II)I"⟩, 13) := ⟨⟨by decide +kernel, by decide +kernel⟩, List.mem_of_getElem? (i := 450) (by decide +kernel), List.mem_of_getElem? (i := 590) (by decide +kernel), List.mem_of_getElem? (i := 591) (by decide +kernel)⟩
theorem lw_p44 : lw_okq (⟨"LodgeProofsModel", "stepsOf", "(I)I"⟩, 13) := ⟨⟨by decide +kernel, by decide +kernel⟩, List.mem_of_getElem? (i := 450) (by decide +kernel), List.mem_of_getElem? (i := 594) (by decide +kernel), List.mem_of_getElem? (i := 595) (by decide +kernel)⟩
theorem lw_p45 : lw_okq (⟨"LodgeProofsModel", "stageOf", "(I)I"⟩, 13) := ⟨⟨by decide +kernel, by decide +kernel⟩, List.mem_of_getElem? (i := 450) (by decide +kernel), List.mem_of_getElem? (i := 598) (by decide +kernel), List.mem_of_getElem? (i := 599) (by decide +kernel)⟩
theorem lw_p46 : lw_okq (⟨"LodgeProofsModel", "prove", "(I)I"⟩, 13) := ⟨⟨by decide +kernel, by decide +kernel⟩, List.mem_of_getElem? (i := 450) (by decide +kernel), List.mem_of_getElem? (i := 602) (by decide +kernel), List.mem_of_getElem? (i := 603) (by decide +kernel)⟩
theorem lw_p47 : lw_okq (⟨"LodgeProofsModel", "hasProof", "(III)Z"⟩, 13) := ⟨⟨by decide +kernel, by decide +kernel⟩, List.mem_of_getElem? (i := 450) (by decide +kernel), List.mem_of_getElem? (i := 606) (by decide +kernel), List.mem_of_getElem? (i := 607) (by decide +kernel)⟩
def lw_privs_3 : List (MethodName × Nat) := [(⟨"LodgeProofsModel", "no", "(I)I"⟩, 13), (⟨"LodgeProofsModel", "isLemma", "(I)Z"⟩, 13), (⟨"LodgeProofsModel", "isProof", "(II)Z"⟩, 13), (⟨"LodgeProofsModel", "isStep", "(III)Z"⟩, 13), (⟨"LodgeProofsModel", "layOver", "(II)V"⟩, 13), (⟨"LodgeProofsModel", "lemmaTold", "(II)I"⟩, 13), (⟨"LodgeProofsModel", "measure", "()V"⟩, 13), (⟨"LodgeProofsModel", "getsShorter", "(I)Z"⟩, 13), (⟨"LodgeProofsModel", "lengthOf", "(II)I"⟩, 13), (⟨"LodgeProofsModel", "isWhole", "(II)Z"⟩, 13), (⟨"LodgeProofsModel", "getsCheaper", "(I)Z"⟩, 13), (⟨"LodgeProofsModel", "priceOf", "(II)I"⟩, 13), (⟨"LodgeProofsModel", "stepsOf", "(I)I"⟩, 13), (⟨"LodgeProofsModel", "stageOf", "(I)I"⟩, 13), (⟨"LodgeProofsModel", "prove", "(I)I"⟩, 13), (⟨"LodgeProofsModel", "hasProof", "(III)Z"⟩, 13)]
theorem lw_r3 : ∀ q ∈ lw_privs_3, lw_okq q := List.forall_mem_cons.mpr ⟨lw_p32, List.forall_mem_cons.mpr ⟨lw_p33, List.forall_mem_cons.mpr ⟨lw_p34, List.forall_mem_cons.mpr ⟨lw_p35, List.forall_mem_cons.mpr ⟨lw_p36, List.forall_mem_cons.mpr ⟨lw_p37, List.forall_mem_cons.mpr ⟨lw_p38, List.forall_mem_cons.mpr ⟨lw_p39, List.forall_mem_cons.mpr ⟨lw_p40, List.forall_mem_cons.mpr ⟨lw_p41, List.forall_mem_cons.mpr ⟨lw_p42, List.forall_mem_cons.mpr ⟨lw_p43, List.forall_mem_cons.mpr ⟨lw_p44, List.forall_mem_cons.mpr ⟨lw_p45, List.forall_mem_cons.mpr ⟨lw_p46, List.forall_mem_cons.mpr ⟨lw_p47, fun _ h => absurd h List.not_mem_nil⟩⟩⟩⟩⟩⟩⟩⟩⟩⟩⟩⟩⟩⟩⟩⟩
theorem lw_p48 : lw_okq (⟨"LodgeProofsModel", "holds", "(IIII)Z"⟩, 13) := ⟨⟨by decide +kernel, by decide +kernel⟩, List.mem_of_getElem? (i := 450) (by decide +kernel), List.mem_of_getElem? (i := 610) (by decide +kernel), List.mem_of_getElem? (i := 611) (by decide +kernel)⟩
theorem lw_p49 : lw_okq (⟨"LodgeProofsModel", "does", "(III)Z"⟩, 13) := ⟨⟨by decide +kernel, by decide +kernel⟩, List.mem_of_getElem? (i := 450) (by decide +kernel), List.mem_of_getElem? (i := 614) (by decide +kernel), List.mem_of_getElem? (i := 615) (by decide +kernel)⟩
theorem lw_p50 : lw_okq (⟨"LodgeProofsModel", "openOf", "(I)I"⟩, 13) := ⟨⟨by decide +kernel, by decide +kernel⟩, List.mem_of_getElem? (i := 450) (by decide +kernel), List.mem_of_getElem? (i := 621) (by decide +kernel), List.mem_of_getElem? (i := 622) (by decide +kernel)⟩
theorem lw_p51 : lw_okq (⟨"LodgeProofsModel", "circle", "(I)I"⟩, 13) := ⟨⟨by decide +kernel, by decide +kernel⟩, List.mem_of_getElem? (i := 450) (by decide +kernel), List.mem_of_getElem? (i := 625) (by decide +kernel), List.mem_of_getElem? (i := 626) (by decide +kernel)⟩
theorem lw_p52 : lw_okq (⟨"LodgeProofsModel", "leads", "(II)Z"⟩, 13) := ⟨⟨by decide +kernel, by decide +kernel⟩, List.mem_of_getElem? (i := 450) (by decide +kernel), List.mem_of_getElem? (i := 629) (by decide +kernel), List.mem_of_getElem? (i := 630) (by decide +kernel)⟩
theorem lw_p53 : lw_okq (⟨"LodgeProofsModel", "stepTold", "(II)I"⟩, 13) := ⟨⟨by decide +kernel, by decide +kernel⟩, List.mem_of_getElem? (i := 450) (by decide +kernel), List.mem_of_getElem? (i := 637) (by decide +kernel), List.mem_of_getElem? (i := 638) (by decide +kernel)⟩
theorem lw_p54 : lw_okq (⟨"LodgeProofsModel", "proofTold", "(III)I"⟩, 13) := ⟨⟨by decide +kernel, by decide +kernel⟩, List.mem_of_getElem? (i := 450) (by decide +kernel), List.mem_of_getElem? (i := 645) (by decide +kernel), List.mem_of_getElem? (i := 646) (by decide +kernel)⟩
theorem lw_p55 : lw_okq (⟨"LodgeProofsModel", "counted", "(I)I"⟩, 13) := ⟨⟨by decide +kernel, by decide +kernel⟩, List.mem_of_getElem? (i := 450) (by decide +kernel), List.mem_of_getElem? (i := 653) (by decide +kernel), List.mem_of_getElem? (i := 654) (by decide +kernel)⟩
theorem lw_p56 : lw_okq (⟨"LodgeProofsModel", "bestOf", "(I)I"⟩, 13) := ⟨⟨by decide +kernel, by decide +kernel⟩, List.mem_of_getElem? (i := 450) (by decide +kernel), List.mem_of_getElem? (i := 661) (by decide +kernel), List.mem_of_getElem? (i := 662) (by decide +kernel)⟩
theorem lw_p57 : lw_okq (⟨"LodgeProofsModel", "isNeeded", "(II)Z"⟩, 13) := ⟨⟨by decide +kernel, by decide +kernel⟩, List.mem_of_getElem? (i := 450) (by decide +kernel), List.mem_of_getElem? (i := 673) (by decide +kernel), List.mem_of_getElem? (i := 674) (by decide +kernel)⟩
theorem lw_p58 : lw_okq (⟨"LodgeProofsModel", "provedBy", "(I)I"⟩, 13) := ⟨⟨by decide +kernel, by decide +kernel⟩, List.mem_of_getElem? (i := 450) (by decide +kernel), List.mem_of_getElem? (i := 681) (by decide +kernel), List.mem_of_getElem? (i := 682) (by decide +kernel)⟩
def lw_privs_4 : List (MethodName × Nat) := [(⟨"LodgeProofsModel", "holds", "(IIII)Z"⟩, 13), (⟨"LodgeProofsModel", "does", "(III)Z"⟩, 13), (⟨"LodgeProofsModel", "openOf", "(I)I"⟩, 13), (⟨"LodgeProofsModel", "circle", "(I)I"⟩, 13), (⟨"LodgeProofsModel", "leads", "(II)Z"⟩, 13), (⟨"LodgeProofsModel", "stepTold", "(II)I"⟩, 13), (⟨"LodgeProofsModel", "proofTold", "(III)I"⟩, 13), (⟨"LodgeProofsModel", "counted", "(I)I"⟩, 13), (⟨"LodgeProofsModel", "bestOf", "(I)I"⟩, 13), (⟨"LodgeProofsModel", "isNeeded", "(II)Z"⟩, 13), (⟨"LodgeProofsModel", "provedBy", "(I)I"⟩, 13)]
theorem lw_r4 : ∀ q ∈ lw_privs_4, lw_okq q := List.forall_mem_cons.mpr ⟨lw_p48, List.forall_mem_cons.mpr ⟨lw_p49, List.forall_mem_cons.mpr ⟨lw_p50, List.forall_mem_cons.mpr ⟨lw_p51, List.forall_mem_cons.mpr ⟨lw_p52, List.forall_mem_cons.mpr ⟨lw_p53, List.forall_mem_cons.mpr ⟨lw_p54, List.forall_mem_cons.mpr ⟨lw_p55, List.forall_mem_cons.mpr ⟨lw_p56, List.forall_mem_cons.mpr ⟨lw_p57, List.forall_mem_cons.mpr ⟨lw_p58, fun _ h => absurd h List.not_mem_nil⟩⟩⟩⟩⟩⟩⟩⟩⟩⟩⟩
def lw_privs : List (MethodName × Nat) := lw_privs_1 ++ (lw_privs_2 ++ (lw_privs_3 ++ (lw_privs_4)))
def lw_tbl : List Cond := k2_sels lw_privs ++ tables_1
theorem lw_privs_ok : ∀ q ∈ lw_privs, lw_okq q := by
  show ∀ q ∈ lw_privs_1 ++ (lw_privs_2 ++ (lw_privs_3 ++ (lw_privs_4))), lw_okq q
  exact List.forall_mem_append.mpr ⟨lw_r1, List.forall_mem_append.mpr ⟨lw_r2, List.forall_mem_append.mpr ⟨lw_r3, lw_r4⟩⟩⟩
/-- the streams that the claim lets the run draw from -/
abbrev lw_cs : List Choice := [Jvm.Choice.named "NaN.bits"]
theorem lw_bits : nanBits ∈ lw_cs := by first | decide | exact List.mem_cons_self | simp [lw_cs, nanBits]
-- ===== end of PART A; then your names; then what follows =====
end
section
/-! ===== BEGIN words of one list among another's, by their places ===== -/
theorem goodIn_r {big : List Cond} (ws : List Cond) (ps : List Nat) (hp : ws = ps.filterMap (fun i => big[i]?)) (h : ws.all goodWord = true) : GoodIn big ws := by
  intro w hw
  have h1 := List.all_eq_true.mp h w hw
  rw [hp] at hw
  obtain ⟨i, -, hi⟩ := List.mem_filterMap.mp hw
  have hm : w ∈ big := by first | exact List.mem_of_getElem? hi | exact List.getElem?_mem hi
  exact ⟨hm, good_of_word h1⟩
theorem goodIn_app {big a b : List Cond} (ha : GoodIn big a) (hb : GoodIn big b) : GoodIn big (a ++ b) := fun w h => (List.mem_append.mp h).elim (ha w) (hb w)
theorem goodIn_ca {big a b : List Cond} {c : Cond} (ha : GoodIn big (c :: a)) (hb : GoodIn big b) : GoodIn big (c :: (a ++ b)) := fun w h => (List.mem_cons.mp h).elim (fun e => ha w (List.mem_cons.mpr (Or.inl e))) (fun h => (List.mem_append.mp h).elim (fun h => ha w (List.mem_cons.mpr (Or.inr h))) (hb w))
theorem goodIn_sub {big ws : List Cond} (hm : ∀ w ∈ ws, w ∈ big) (h : ws.all goodWord = true) : GoodIn big ws := fun w hw => ⟨hm w hw, good_of_word (List.all_eq_true.mp h w hw)⟩
/-! ===== END ===== -/

/-! ===== BEGIN exceptions that leave a method, and their catching by the caller (launches without stack traces) ===== -/
section VXA
/-! The laws vx_back, vx_callV, vx_callS, vx_callSW, vx_throw0, vx_throwS follow proofs of the library, with one case more: JvmDerived/Free/Laws.lean (Back.of_free), Shelf42/LK1.lean (callV, callS), Shelf/KitTraced.lean (throwNew0V, throwNewS). -/
/-- where a method has thrown q: the class by its name, the cell, what was written, the world -/
def vx_T (XC : String → State → State → Prop) (st : State) (q : Addr) (t : State) (mc ms : Nat) (free : Addr → Prop) : Prop :=
  ∃ (E : String) (ce : Cell) (L : List Loc), XC E st t ∧ t.heap[q]? = some ce ∧ ce.vm = .none ∧ st.vm.findClass E = some ce.cls ∧ st.WarmedH t.vm ∧ st.sameButNew ({ t with vm := st.vm } : State) L mc ms ∧ ∀ z ∈ L, free z.base
def vx_Q (Qc : Array Value → State → Outcome → State → Prop) (XC : String → State → State → Prop) (mc ms : Nat) (free : Addr → Prop) : Array Value → State → Outcome → State → Prop := fun a st o t =>
  (Qc a st o t ∧ ∃ L, FrameEnd st o t L mc ms ∧ ∀ q ∈ L, free q.base) ∨ ∃ q, o = .threw q ∧ vx_T XC st q t mc ms free
/-- a callee that returns or throws -/
def vx_Met (l : Launch) (y : MethodName) (ws : List Cond) (rm : Room) (Pc : Array Value → State → Prop) (Qc : Array Value → State → Outcome → State → Prop) (XC : String → State → State → Prop) (mc ms : Nat) (free : Addr → Prop) : Prop :=
  MetFree l y (headSpec ws rm) Pc (fun _ _ _ _ _ => True) (vx_Q Qc XC mc ms free)
def vx_Post (XC : String → State → State → Prop) (mc ms : Nat) (free : Addr → Prop) : Pt → Array Value → Addr → Pt → Prop := fun A a q B =>
  ∃ (g : JFrame) (mk : MethodId) (t : State) (L : List Loc) (E : String) (ce : Cell), B.U.heap = t.heap ∧ B.U.vm = t.vm ∧ XC E (A.U.calling g mk a) t ∧ t.heap[q]? = some ce ∧ ce.vm = .none ∧ A.U.vm.findClass E = some ce.cls ∧ B.locs = A.locs ++ L ∧ (∀ z ∈ L, free z.base) ∧ B.cells = A.cells + mc ∧ B.slots = A.slots + ms
def vx_Back (l : Launch) (R : Room) (p : Program) (e : Env) (below : List Frame) (s : State) (sargs : Array Value) (y : MethodName) (len W9 : Nat)
    (Pre : Pt → Array Value → Prop) (Post : Pt → Array Value → Option Value → Pt → Prop) (PostX : Pt → Array Value → Addr → Pt → Prop) : Prop :=
  ∀ (m : MethodId) (meth : Method) (c : Code) (A : Pt) (g : JFrame) (ig : Instr) (mk : MethodId) (a : Array Value),
    Stand p l e R s m sargs below meth c A.U A.locs A.cells A.slots → g.method = m → g.locals.size = c.maxLocals → decode c.code g.pc = .ok (ig, len) →
    2 * g.monitorRoom + (g.stack.map fun v => v.category).sum ≤ W9 → A.U.methodNamed? y = some mk → Pre A a →
    (∃ (v : Option Value) (B : Pt), Stand p l e R s m sargs below meth c B.U B.locs B.cells B.slots ∧ Post A a v B ∧
      Steps p.tables e below (doInvoke e (A.U.setTop g) [] mk a).1 (B.U.setTop { g with pc := g.pc + len, stack := v.toList ++ g.stack })) ∨
    (∃ (q : Addr) (B : Pt), Stand p l e R s m sargs below meth c B.U B.locs B.cells B.slots ∧ PostX A a q B ∧
      Steps p.tables e below (doInvoke e (A.U.setTop g) [] mk a).1 ((B.U.setTop g).pushFrame (.throwing q)))
section Payer
variable {l : Launch} {R : Room} {p : Program} {e : Env} {below : List Frame} {s : State} {sargs : Array Value} {y : MethodName} {len W9 : Nat}
theorem vx_back {ws : List Cond} {rm : Room} {Pc : Array Value → State → Prop} {Qc : Array Value → State → Outcome → State → Prop} {XC : String → State → State → Prop} {mc ms : Nat} {free : Addr → Prop} {bytes : ByteArray} {maxL : Nat} {ret : Option FieldType}
    (hM : vx_Met l y ws rm Pc Qc XC mc ms free) (hblind : FrameBlind Pc) (hrc : rm.cells = mc) (hrs : rm.slots = ms)
    (hframes : rm.frames + 1 ≤ R.frames) (hlocals : W9 + (maxL + 11) + rm.locals ≤ R.locals)
    (hws : ∀ w ∈ ws, ∀ a' U, s.WarmedH U.vm → w.before a' U = true) (hcode : Cond.code y bytes maxL ret ∈ ws) (hinit : ∀ a' U, s.WarmedH U.vm → (Cond.initialized y.cls).before a' U = true) :
    vx_Back l R p e below s sargs y len W9 (PreOf R mc ms Pc) (PostOf Qc mc ms free) (vx_Post XC mc ms free) := by
  intro m meth c A g ig mk a X hg hsize hdg hW hn hp
  have h1 : (headSpec ws rm).pre.before a A.U = true := atoms_intro fun w hw => hws w hw _ _ X.warmed
  have h2 : (Cond.code y bytes maxL ret).before a A.U = true := hws _ hcode _ _ X.warmed
  have h3 : (Cond.initialized y.cls).before a A.U = true := hinit _ _ X.warmed
  have h4 : A.cells + (headSpec ws rm).room.cells ≤ R.cells := by rw [show (headSpec ws rm).room.cells = mc from hrc]; exact hp.1
  have h5 : A.slots + (headSpec ws rm).room.slots ≤ R.slots := by rw [show (headSpec ws rm).room.slots = ms from hrs]; exact hp.2.1
  have hPc : Pc a (A.U.calling g mk a) := hblind _ _ _ _ hp.2.2
  obtain ⟨U, Ls, c0, s0⟩ := A
  dsimp only [Pt.U, Pt.locs, Pt.cells, Pt.slots] at h1 h2 h3 h4 h5 X hn hPc ⊢
  obtain ⟨methY, cY, hmY, hcY, -, hlY, -, -, -, -⟩ := Cond.code_spec hn h2
  obtain ⟨kY, hkY, -⟩ := className_of_methodNamed hn
  have hinitY : kY.init = .initialized := Cond.initialized_spec (findClass_of_methodNamed hn) hkY h3
  have h : At U g.method c below := by rw [hg]; exact X.here
  have hlocals9 : W9 + (maxL + 11) + (headSpec ws rm).room.locals ≤ R.locals := hlocals
  have happ : (headSpec ws rm).appliesLoose y e.platform (U.calling g mk a) = true :=
    Spec.appliesLoose_calling (g := g) h hdg hn hkY hinitY
      (X.room_calling (g := g) (R' := (headSpec ws rm).room) hsize hmY hcY hframes (by rw [hlY]; omega) h4 h5) h1
  obtain ⟨mid, hmid⟩ := h.above
  have hfr : (U.setTop g).frames = (.java g :: mid) ++ below := by rw [State.frames_setTop' g h.top, hmid]; rfl
  obtain ⟨o, s₂, hsteps, -, hend, hq⟩ := Steps.callFree hM p X.admits X.cas X.clock (acts := []) hfr happ hPc trivial
  have hq' : vx_Q Qc XC mc ms free a (U.calling g mk a) o s₂ := hq
  rw [State.frames_setTop' g h.top] at hend
  obtain ⟨g₀, hg0⟩ := Option.isSome_iff_exists.mp h.top
  obtain ⟨r, hr⟩ := State.topJava?_eq_some.mp hg0
  have hr' : (({ U with heap := s₂.heap, slotsUsed := s₂.slotsUsed } : State).setVm s₂.vm).frames = .java g₀ :: r := hr
  rcases hq' with ⟨hqc, L, hfe, hL⟩ | ⟨q, rfl, E, ce, L, hx, hce, hcv, hcl, hW₂, hsm, hL⟩
  · obtain ⟨⟨v, rfl⟩, hW₂, e2, q2, q3, q4, q5, q6⟩ := id hfe
    have e3 : s₂ = ({ (U.calling g mk a).setFrames s₂.frames with heap := s₂.heap, slotsUsed := s₂.slotsUsed } : State).setVm s₂.vm := by
      have : s₂ = ({ s₂ with vm := (U.calling g mk a).vm } : State).setVm s₂.vm := rfl
      rw [e2] at this
      exact this
    obtain ⟨c₂, i₂, len₂, hc₂, hd₂, hf₂⟩ := hend
    have hW' : U.WarmedH s₂.vm := hW₂
    have hcc : c₂ = c := by
      have h1 : s₂.code? g.method = U.code? g.method := by
        rw [State.code?_eq, State.code?_eq, hW'.alike.method?]
      exact Option.some.inj (hc₂.symm.trans (h1.trans h.code))
    subst hcc
    have hlen : len₂ = len := by rw [hdg] at hd₂; cases hd₂; rfl
    subst hlen
    have hs₂ : s₂ = (({ U with heap := s₂.heap, slotsUsed := s₂.slotsUsed } : State).setVm s₂.vm).setTop { g with pc := g.pc + len₂, stack := v.toList ++ g.stack } := by
      refine e3.trans ?_
      rw [hf₂, State.calling_eq h.top, State.setFrames_setFrames, State.setTop_of_frames _ hr', hr]
      rfl
    have hsame : U.sameButNew ({ U with heap := s₂.heap, slotsUsed := s₂.slotsUsed } : State) L mc ms := by
      refine ⟨?_, q2, q3, q4, q5, q6⟩
      obtain ⟨t, ht, -⟩ := State.frames_cons hr
      show ({ U with heap := s₂.heap, slotsUsed := s₂.slotsUsed } : State) = { U.setFrames U.frames with heap := s₂.heap, slotsUsed := s₂.slotsUsed }
      rw [State.setFrames_self ht]
    subst hg
    refine Or.inl ⟨v, ⟨(({ U with heap := s₂.heap, slotsUsed := s₂.slotsUsed } : State).setVm s₂.vm), Ls ++ L, c0 + mc, s0 + ms⟩,
      ⟨X.admits, X.cas, X.clock, X.frames, X.room, X.hears, X.method, X.code, (X.here.setHeapUsed s₂.heap s₂.slotsUsed).setVm hW'.alike, X.tail, State.WarmedH.trans X.warmed hW', X.limits, X.bytes, X.same.trans (hsame.setVm s.vm)⟩,
      ⟨g, mk, s₂, L, rfl, rfl, hqc, rfl, hL, rfl, rfl⟩, ?_⟩
    show Steps p.tables e below _ ((({ U with heap := s₂.heap, slotsUsed := s₂.slotsUsed } : State).setVm s₂.vm).setTop { g with pc := g.pc + len₂, stack := v.toList ++ g.stack })
    rw [← hs₂]
    exact hsteps
  · obtain ⟨e2, q2, q3, q4, q5, q6⟩ := id hsm
    have e3 : s₂ = ({ (U.calling g mk a).setFrames s₂.frames with heap := s₂.heap, slotsUsed := s₂.slotsUsed } : State).setVm s₂.vm := by
      have : s₂ = ({ s₂ with vm := (U.calling g mk a).vm } : State).setVm s₂.vm := rfl
      rw [e2] at this
      exact this
    have hf₂ : s₂.frames = .throwing q :: .java g :: U.frames.tail := hend
    have hW' : U.WarmedH s₂.vm := hW₂
    have hs₂ : s₂ = ((({ U with heap := s₂.heap, slotsUsed := s₂.slotsUsed } : State).setVm s₂.vm).setTop g).pushFrame (.throwing q) := by
      refine e3.trans ?_
      rw [hf₂, State.calling_eq h.top, State.setFrames_setFrames, State.pushFrame, State.frames_setTop _ hr', State.setTop_of_frames _ hr', State.setFrames_setFrames, hr]
      rfl
    have hsame : U.sameButNew ({ U with heap := s₂.heap, slotsUsed := s₂.slotsUsed } : State) L mc ms := by
      refine ⟨?_, q2, q3, q4, q5, q6⟩
      obtain ⟨t, ht, -⟩ := State.frames_cons hr
      show ({ U with heap := s₂.heap, slotsUsed := s₂.slotsUsed } : State) = { U.setFrames U.frames with heap := s₂.heap, slotsUsed := s₂.slotsUsed }
      rw [State.setFrames_self ht]
    subst hg
    refine Or.inr ⟨q, ⟨(({ U with heap := s₂.heap, slotsUsed := s₂.slotsUsed } : State).setVm s₂.vm), Ls ++ L, c0 + mc, s0 + ms⟩,
      ⟨X.admits, X.cas, X.clock, X.frames, X.room, X.hears, X.method, X.code, (X.here.setHeapUsed s₂.heap s₂.slotsUsed).setVm hW'.alike, X.tail, State.WarmedH.trans X.warmed hW', X.limits, X.bytes, X.same.trans (hsame.setVm s.vm)⟩,
      ⟨g, mk, s₂, L, E, ce, rfl, rfl, hx, hce, hcv, hcl, rfl, hL, rfl, rfl⟩, ?_⟩
    show Steps p.tables e below _ (((({ U with heap := s₂.heap, slotsUsed := s₂.slotsUsed } : State).setVm s₂.vm).setTop g).pushFrame (.throwing q))
    rw [← hs₂]
    exact hsteps
end Payer
section Calls
variable {p : Program} {l : Launch} {e : Env} {R : Room} {s : State} {m : MethodId} {args : Array Value} {below : List Frame} {meth : Method} {c : Code} {T : State} {locs : List Loc} {cells slots : Nat}
theorem vx_callV (X : Stand p l e R s m args below meth c T locs cells slots) (hexec : p.tables.exec = Jvm.exec) {own C : String} {index : Nat} {y : MethodName} {bytes : ByteArray} {maxL : Nat} {ret : Option FieldType}
    (hown : s.vm.findClass own = some m.cls) (hlink : (Cond.methodLink own index y).before args s = true) (hinst : (Cond.instanceMethod y).before args s = true) (hsel : (Cond.selects C y y).before args s = true)
    (hcode : (Cond.code y bytes maxL ret).before args s = true) (hy : y.cls ≠ "java/lang/invoke/MethodHandle" ∧ y.cls ≠ "java/lang/invoke/VarHandle")
    {W9 : Nat} {Pre : Pt → Array Value → Prop} {Post : Pt → Array Value → Option Value → Pt → Prop} {PostX : Pt → Array Value → Addr → Pt → Prop} (hK : vx_Back l R p e below s args y 3 W9 Pre Post PostX)
    {b : Addr} {cellB : Cell} (hcell : T.heap[b]? = some cellB) (hobj : cellB.vm.isStatics = false) (hcls : s.vm.findClass C = some cellB.cls)
    {g : JFrame} (hg : g.method = m) (hsize : g.locals.size = c.maxLocals) {argsL rest : List Value} (hlen : ∀ sig, parseMethodDescriptor y.desc = some sig → argsL.length = sig.parameters.length)
    (hstack : g.stack = argsL.reverse ++ .ref b :: rest) (hW : 2 * g.monitorRoom + (rest.map fun v => v.category).sum ≤ W9) (hdg : decode c.code g.pc = .ok (.invokevirtual index, 3))
    (hpre : ∀ vm₁, s.WarmedH vm₁ → Pre ⟨T.setVm vm₁, locs, cells, slots⟩ (Value.ref b :: argsL).toArray) :
    (∃ (v : Option Value) (vm₁ : Vm) (B : Pt), s.WarmedH vm₁ ∧ Stand p l e R s m args below meth c B.U B.locs B.cells B.slots ∧ Post ⟨T.setVm vm₁, locs, cells, slots⟩ (Value.ref b :: argsL).toArray v B ∧
      ∀ target, Steps p.tables e below (B.U.setTop { g with pc := g.pc + 3, stack := v.toList ++ rest }) target → Steps p.tables e below (T.setTop g) target) ∨
    (∃ (q : Addr) (vm₁ : Vm) (B : Pt), s.WarmedH vm₁ ∧ Stand p l e R s m args below meth c B.U B.locs B.cells B.slots ∧ PostX ⟨T.setVm vm₁, locs, cells, slots⟩ (Value.ref b :: argsL).toArray q B ∧
      Steps p.tables e below (T.setTop g) ((B.U.setTop { g with stack := rest }).pushFrame (.throwing q))) := by
  obtain ⟨mk, methM, hnamed, hmethM, hstM, habM⟩ := Cond.instanceMethod_spec hinst
  obtain ⟨methM', cM, hmethM', -, -, -, -, -, -, hsigM⟩ := Cond.code_spec hnamed hcode
  cases hmethM.symm.trans hmethM'
  obtain ⟨c2, r2, m2, q1, q2, q3, q4, kP, hkP, hkPi⟩ := Cond.selects_spec hsel
  cases hcls.symm.trans q1
  cases (State.methodFound?_of_named hnamed hy).symm.trans q2
  cases hnamed.symm.trans q3
  have hselP : selectMethod e.platform s.vm cellB.cls mk = .method mk := by rw [Launch.admits_selectMethod X.admits]; exact q4
  obtain ⟨vm₁, X₁, hstep₁⟩ := X.invokevirtual hexec hown hlink hnamed hmethM hstM hkP hkPi hy (a := b) (cell := cellB) hcell
    (fun z h => by rw [h] at hobj; cases hobj) hselP hmethM habM hkP hkPi (g := g) hg (argsL := argsL) (rest := rest) (hlen _ hsigM) hstack hdg
  rcases hK m meth c ⟨T.setVm vm₁, locs, cells, slots⟩ { g with stack := rest } (.invokevirtual index) mk (Value.ref b :: argsL).toArray X₁ hg hsize hdg hW (X₁.named hnamed) (hpre vm₁ X₁.warmed) with ⟨v, B, X', hpost, hsteps⟩ | ⟨q, B, X', hpost, hsteps⟩
  · exact Or.inl ⟨v, vm₁, B, X₁.warmed, X', hpost, fun target h => hstep₁ _ fun acts => by rw [doInvoke_state]; exact hsteps.trans h⟩
  · exact Or.inr ⟨q, vm₁, B, X₁.warmed, X', hpost, hstep₁ _ fun acts => by rw [doInvoke_state]; exact hsteps⟩
theorem vx_callS (X : Stand p l e R s m args below meth c T locs cells slots) (hexec : p.tables.exec = Jvm.exec) {own : String} {index : Nat} {y : MethodName} {bytes : ByteArray} {maxL : Nat} {ret : Option FieldType}
    (hown : s.vm.findClass own = some m.cls) (hlink : (Cond.methodLink own index y).before args s = true) (hstat : (Cond.static y).before args s = true) (hinit : (Cond.initialized y.cls).before args s = true)
    (hcode : (Cond.code y bytes maxL ret).before args s = true) (hy : y.cls ≠ "java/lang/invoke/MethodHandle" ∧ y.cls ≠ "java/lang/invoke/VarHandle")
    {W9 : Nat} {Pre : Pt → Array Value → Prop} {Post : Pt → Array Value → Option Value → Pt → Prop} {PostX : Pt → Array Value → Addr → Pt → Prop} (hK : vx_Back l R p e below s args y 3 W9 Pre Post PostX)
    {g : JFrame} (hg : g.method = m) (hsize : g.locals.size = c.maxLocals) {argsL rest : List Value} (hlen : ∀ sig, parseMethodDescriptor y.desc = some sig → argsL.length = sig.parameters.length)
    (hstack : g.stack = argsL.reverse ++ rest) (hW : 2 * g.monitorRoom + (rest.map fun v => v.category).sum ≤ W9) (hdg : decode c.code g.pc = .ok (.invokestatic index, 3))
    (hpre : ∀ vm₁, s.WarmedH vm₁ → Pre ⟨T.setVm vm₁, locs, cells, slots⟩ argsL.toArray) :
    (∃ (v : Option Value) (vm₁ : Vm) (B : Pt), s.WarmedH vm₁ ∧ Stand p l e R s m args below meth c B.U B.locs B.cells B.slots ∧ Post ⟨T.setVm vm₁, locs, cells, slots⟩ argsL.toArray v B ∧
      ∀ target, Steps p.tables e below (B.U.setTop { g with pc := g.pc + 3, stack := v.toList ++ rest }) target → Steps p.tables e below (T.setTop g) target) ∨
    (∃ (q : Addr) (vm₁ : Vm) (B : Pt), s.WarmedH vm₁ ∧ Stand p l e R s m args below meth c B.U B.locs B.cells B.slots ∧ PostX ⟨T.setVm vm₁, locs, cells, slots⟩ argsL.toArray q B ∧
      Steps p.tables e below (T.setTop g) ((B.U.setTop { g with stack := rest }).pushFrame (.throwing q))) := by
  obtain ⟨mk, hnamed⟩ := Cond.code_named hcode
  obtain ⟨methM, cM, hmethM, -, -, -, -, -, -, hsigM⟩ := Cond.code_spec hnamed hcode
  have hstatic : methM.isStatic = true := Cond.static_spec hnamed hmethM hstat
  obtain ⟨kP, hkP, -⟩ := className_of_methodNamed hnamed
  have hinitP : kP.init = .initialized := Cond.initialized_spec (findClass_of_methodNamed hnamed) hkP hinit
  obtain ⟨vm₁, X₁, hstep₁⟩ := X.invokestatic hexec hown hlink hnamed hmethM hstatic hkP hinitP hy (g := g) hg (argsL := argsL) (rest := rest) (hlen _ hsigM) hstack hdg
  rcases hK m meth c ⟨T.setVm vm₁, locs, cells, slots⟩ { g with stack := rest } (.invokestatic index) mk argsL.toArray X₁ hg hsize hdg hW (X₁.named hnamed) (hpre vm₁ X₁.warmed) with ⟨v, B, X', hpost, hsteps⟩ | ⟨q, B, X', hpost, hsteps⟩
  · exact Or.inl ⟨v, vm₁, B, X₁.warmed, X', hpost, fun target h => hstep₁ _ fun acts => by rw [doInvoke_state]; exact hsteps.trans h⟩
  · exact Or.inr ⟨q, vm₁, B, X₁.warmed, X', hpost, hstep₁ _ fun acts => by rw [doInvoke_state]; exact hsteps⟩
end Calls
theorem vx_cls {s : State} {T : State} {vm₁ : Vm} {E : String} {k : ClassId} (hW : s.WarmedH vm₁) (h : (T.setVm vm₁).vm.findClass E = some k) : s.vm.findClass E = some k := by
  have h1 : vm₁.findClass E = some k := h
  rw [hW.alike.findClass] at h1
  exact h1
/-- the method's frame g, with q thrown over it -/
def vx_W (p : Program) (l : Launch) (e : Env) (R : Room) (s : State) (m : MethodId) (args : Array Value) (below : List Frame) (meth : Method) (c : Code) (H : Heap) (locs : List Loc) (cells slots : Nat) (Q : State → Prop) (g : JFrame) (q : Addr) : Prop :=
  ∀ T : State, T.heap = H → Stand p l e R s m args below meth c T locs cells slots → ∃ t, Steps p.tables e below ((T.setTop g).pushFrame (.throwing q)) t ∧ Q t
def vx_Run (p : Program) (l : Launch) (e : Env) (R : Room) (s : State) (m : MethodId) (args : Array Value) (below : List Frame) (meth : Method) (c : Code) (H : Heap) (locs : List Loc) (cells slots mc ms : Nat) (g : JFrame) (rest : List Value) (Qa : State → Outcome → State → Prop) (XC : String → State → State → Prop) (free : Addr → Prop) : Prop :=
  ∀ T : State, T.heap = H → Stand p l e R s m args below meth c T locs cells slots →
    (∃ (v : Option Value) (st₀ t T' : State) (L : List Loc), st₀.heap = H ∧ Stand p l e R s m args below meth c T' (locs ++ L) (cells + mc) (slots + ms) ∧ (∀ q ∈ L, free q.base) ∧ T'.heap = t.heap ∧ T'.vm = t.vm ∧ Qa st₀ (.returned v) t ∧
      Goes p e below T g T' { g with pc := g.pc + 3, stack := v.toList ++ rest }) ∨
    (∃ (q : Addr) (st₀ t T' : State) (L : List Loc) (E : String) (ce : Cell), st₀.heap = H ∧ Stand p l e R s m args below meth c T' (locs ++ L) (cells + mc) (slots + ms) ∧ (∀ z ∈ L, free z.base) ∧ T'.heap = t.heap ∧ T'.vm = t.vm ∧ XC E st₀ t ∧ t.heap[q]? = some ce ∧ ce.vm = .none ∧ s.vm.findClass E = some ce.cls ∧
      Steps p.tables e below (T.setTop g) ((T'.setTop { g with stack := rest }).pushFrame (.throwing q)))
def vx_X {S : Type} (px : S → Prop) (B : String → S → State → Prop) (A : Nat → Prop) : String → State → State → Prop := fun E st t => ∃ u : S, px u ∧ B E u t ∧ va_F A st t
section Runs
variable {p : Program} {l : Launch} {e : Env} {R : Room} {s : State} {m : MethodId} {args : Array Value} {below : List Frame} {meth : Method} {c : Code} {H : Heap} {locs : List Loc} {cells slots : Nat}
variable {y : MethodName} {bytes cc : ByteArray} {maxL nL mc ms n index : Nat} {ret : Option FieldType} {ws : List Cond} {rm : Room} {Pc : Array Value → State → Prop} {Qc : Array Value → State → Outcome → State → Prop} {XC : String → State → State → Prop} {free : Addr → Prop} {Ts : List Cond} {own C : String} {b : Addr} {As rest : List Value} {g : JFrame}
theorem vx_callBack (cb : CallB R s args own index y bytes maxL ret ws rm mc ms n) (hM : vx_Met l y ws rm Pc Qc XC mc ms free) (hbl : FrameBlind Pc) : vx_Back l R p e below s args y 3 8 (PreOf R mc ms Pc) (PostOf Qc mc ms free) (vx_Post XC mc ms free) := by
  obtain ⟨hrc, hrs, hfr, hlo, hws, hcw, -, hini, -⟩ := cb
  exact vx_back (bytes := bytes) (maxL := maxL) (ret := ret) hM hbl hrc hrs hfr hlo hws hcw (fun a' U hW => word_at hW (Or.inl (by first | rfl | simp [Cond.onTables, Cond.keeps, Cond.steady])) hini)
theorem vx_runV (S : CallFix p m c cc nL s args Ts own) (hM : vx_Met l y ws rm Pc Qc XC mc ms free) (cw : CallW R s args own C index y bytes maxL ret ws rm mc ms n) (hp : PreV s H C b Pc As)
    (hg : g.method = m) (hn : As.length = n) (hsize : g.locals.size = nL) (hstack : g.stack = As.reverse ++ .ref b :: rest) (hW : 2 * g.monitorRoom + (rest.map fun v => v.category).sum ≤ 8) (hdg : decode cc g.pc = .ok (.invokevirtual index, 3)) (hf : cells + mc ≤ R.cells ∧ slots + ms ≤ R.slots) :
    vx_Run p l e R s m args below meth c H locs cells slots mc ms g rest (Qc (Value.ref b :: As).toArray) XC free := by
  have hK : vx_Back l R p e below s args y 3 8 (PreOf R mc ms Pc) (PostOf Qc mc ms free) (vx_Post XC mc ms free) := vx_callBack cw.1 hM hp.1
  obtain ⟨⟨-, -, -, -, -, -, hcode, -, hy, hlen, hl⟩, hin, hse⟩ := cw
  obtain ⟨hx, hb, hml, ho, -⟩ := S
  obtain ⟨-, ⟨cellB, hcB, hoB, hclB⟩, hPc⟩ := hp
  intro T hT X
  rcases vx_callV X hx (C := C) (bytes := bytes) (maxL := maxL) (ret := ret) ho hl hin hse hcode hy hK (by rw [hT]; exact hcB) hoB hclB hg (hsize.trans hml.symm) (argsL := As) (rest := rest) (fun sig h => hn.trans (hlen sig h)) hstack hW (by rw [hb]; exact hdg)
    (fun vm₁ hW₁ => ⟨hf.1, hf.2, hPc (T.setVm vm₁) hT hW₁⟩) with ⟨v, vm₁, ⟨U', l2, c2, s2⟩, hW₁, X', ⟨g', mk, t, L, e1, e2, hq, h1, hL, h2, h3⟩, st⟩ | ⟨q, vm₁, ⟨U', l2, c2, s2⟩, hW₁, X', ⟨g', mk, t, L, E, ce, e1, e2, hq, hce, hcv, hcl, h1, hL, h2, h3⟩, st⟩
  · dsimp only [Pt.U, Pt.locs, Pt.cells, Pt.slots] at X' e1 e2 h1 h2 h3 st
    subst h1; subst h2; subst h3
    exact Or.inl ⟨v, (T.setVm vm₁).calling g' mk (Value.ref b :: As).toArray, t, U', L, hT, X', hL, e1, e2, hq, st⟩
  · dsimp only [Pt.U, Pt.locs, Pt.cells, Pt.slots] at X' e1 e2 h1 h2 h3 st hcl
    subst h1; subst h2; subst h3
    exact Or.inr ⟨q, (T.setVm vm₁).calling g' mk (Value.ref b :: As).toArray, t, U', L, E, ce, hT, X', hL, e1, e2, hq, hce, hcv, vx_cls hW₁ hcl, st⟩
theorem vx_runS (S : CallFix p m c cc nL s args Ts own) (hM : vx_Met l y ws rm Pc Qc XC mc ms free) (cw : CallB R s args own index y bytes maxL ret ws rm mc ms n ∧ (Cond.static y).before args s = true) (hp : PreS s H Pc As)
    (hg : g.method = m) (hn : As.length = n) (hsize : g.locals.size = nL) (hstack : g.stack = As.reverse ++ rest) (hW : 2 * g.monitorRoom + (rest.map fun v => v.category).sum ≤ 8) (hdg : decode cc g.pc = .ok (.invokestatic index, 3)) (hf : cells + mc ≤ R.cells ∧ slots + ms ≤ R.slots) :
    vx_Run p l e R s m args below meth c H locs cells slots mc ms g rest (Qc As.toArray) XC free := by
  have hK : vx_Back l R p e below s args y 3 8 (PreOf R mc ms Pc) (PostOf Qc mc ms free) (vx_Post XC mc ms free) := vx_callBack cw.1 hM hp.1
  obtain ⟨⟨-, -, -, -, -, -, hcode, hini, hy, hlen, hl⟩, hstt⟩ := cw
  obtain ⟨hx, hb, hml, ho, -⟩ := S
  intro T hT X
  rcases vx_callS X hx (bytes := bytes) (maxL := maxL) (ret := ret) ho hl hstt hini hcode hy hK hg (hsize.trans hml.symm) (argsL := As) (rest := rest) (fun sig h => hn.trans (hlen sig h)) hstack hW (by rw [hb]; exact hdg)
    (fun vm₁ hW₁ => ⟨hf.1, hf.2, hp.2 (T.setVm vm₁) hT hW₁⟩) with ⟨v, vm₁, ⟨U', l2, c2, s2⟩, hW₁, X', ⟨g', mk, t, L, e1, e2, hq, h1, hL, h2, h3⟩, st⟩ | ⟨q, vm₁, ⟨U', l2, c2, s2⟩, hW₁, X', ⟨g', mk, t, L, E, ce, e1, e2, hq, hce, hcv, hcl, h1, hL, h2, h3⟩, st⟩
  · dsimp only [Pt.U, Pt.locs, Pt.cells, Pt.slots] at X' e1 e2 h1 h2 h3 st
    subst h1; subst h2; subst h3
    exact Or.inl ⟨v, (T.setVm vm₁).calling g' mk As.toArray, t, U', L, hT, X', hL, e1, e2, hq, st⟩
  · dsimp only [Pt.U, Pt.locs, Pt.cells, Pt.slots] at X' e1 e2 h1 h2 h3 st hcl
    subst h1; subst h2; subst h3
    exact Or.inr ⟨q, (T.setVm vm₁).calling g' mk As.toArray, t, U', L, E, ce, hT, X', hL, e1, e2, hq, hce, hcv, vx_cls hW₁ hcl, st⟩
end Runs
section Rows
variable {p : Program} {l : Launch} {e : Env} {R : Room} {s : State} {m : MethodId} {args : Array Value} {below : List Frame} {meth : Method} {c : Code} {H : Heap} {locs : List Loc} {cells slots : Nat} {Q : State → Prop}
variable {mc ms : Nat} {free : Addr → Prop} {A0 A1 : Nat → Prop} {H0 : Heap} {a : Array Value} {pc : Nat} {ls : Array Slot} {st0 rest : List Value}
theorem vx_keep {st₀ t T' : State} {L : List Loc} (h0 : st₀.heap = H) (e1 : T'.heap = t.heap) (hS : va_S A0 H0 H locs) (hA : ∀ q, q < H.size → A1 q → A0 q) (hf : ∀ q, free q → A0 q) (hL : ∀ q ∈ L, free q.base) (hF : va_F A1 st₀ t) :
    H.size ≤ T'.heap.size ∧ (∀ q : Nat, q < H.size → ¬ A1 q → T'.heap[q]? = H[q]?) ∧ va_S A0 H0 T'.heap (locs ++ L) := by
  obtain ⟨hz, hk⟩ := hF
  rw [h0] at hz hk
  exact ⟨by rw [e1]; exact hz, fun q h1 h2 => by rw [e1]; exact hk q h1 h2,
    ⟨Nat.le_trans hS.1 (by rw [e1]; exact hz), fun q h1 h2 => by rw [e1, hk q (Nat.lt_of_lt_of_le h1 hS.1) (fun z => h2 (hA q (Nat.lt_of_lt_of_le h1 hS.1) z))]; exact hS.2.1 q h1 h2, fun q hq => by
      rcases List.mem_append.mp hq with h | h
      · exact hS.2.2 q h
      · exact hf _ (hL q h)⟩⟩
theorem vx_calli {S SX : Type} {post : Int32 → S → Prop} {px : SX → Prop} {B : S → State → Prop} {BX : String → SX → State → Prop} {AX : Nat → Prop} (hr : vx_Run p l e R s m args below meth c H locs cells slots mc ms (F0 m pc ls st0) rest (va_Qi post B A1 a) (vx_X px BX AX) free) (hS : va_S A0 H0 H locs) (hA : ∀ q, q < H.size → A1 q → A0 q) (hf : ∀ q, free q → A0 q) (hAX : ∀ q, q < H.size → AX q → A0 q)
    (kx : ∀ (E : String) (ce : Cell) (q9 : Addr) (u : SX) (t : State) (H1 : Heap) (locs1 : List Loc), t.heap = H1 → s.vm.Alike t.vm → px u → BX E u t → H.size ≤ H1.size → (∀ q : Nat, q < H.size → ¬ AX q → H1[q]? = H[q]?) → va_S A0 H0 H1 locs1 → H1[q9]? = some ce → ce.vm = .none → s.vm.findClass E = some ce.cls → vx_W p l e R s m args below meth c H1 locs1 (cells + mc) (slots + ms) Q (F0 m pc ls rest) q9)
    (kk : ∀ (r : Int32) (u : S) (t : State) (H1 : Heap) (locs1 : List Loc), t.heap = H1 → s.vm.Alike t.vm → post r u → B u t → H.size ≤ H1.size → (∀ q : Nat, q < H.size → ¬ A1 q → H1[q]? = H[q]?) → va_S A0 H0 H1 locs1 → W p l e R s m args below meth c H1 locs1 (cells + mc) (slots + ms) Q (F0 m (pc + 3) ls (.int r :: rest))) : W p l e R s m args below meth c H locs cells slots Q (F0 m pc ls st0) := by
  intro T hT X
  rcases hr T hT X with ⟨v, st₀, t, T', L, h0, X', hL, e1, e2, ⟨⟨r, u, hv, hp, hb⟩, hF⟩, st⟩ | ⟨q, st₀, t, T', L, E, ce, h0, X', hL, e1, e2, ⟨u, hp, hb, hF⟩, hce, hcv, hcl, st⟩
  · cases hv
    obtain ⟨k1, k2, k3⟩ := vx_keep h0 e1 hS hA hf hL hF
    obtain ⟨t2, a1, b1⟩ := kk r u t T'.heap (locs ++ L) e1.symm (by rw [← e2]; exact X'.warmed.alike) hp hb k1 k2 k3 T' rfl X'
    exact ⟨t2, st t2 a1, b1⟩
  · obtain ⟨k1, k2, k3⟩ := vx_keep h0 e1 hS hAX hf hL hF
    obtain ⟨t2, a1, b1⟩ := kx E ce q u t T'.heap (locs ++ L) e1.symm (by rw [← e2]; exact X'.warmed.alike) hp hb k1 k2 k3 (by rw [e1]; exact hce) hcv hcl T' rfl X'
    exact ⟨t2, st.trans a1, b1⟩
theorem vx_calll {S SX : Type} {post : Int64 → S → Prop} {px : SX → Prop} {B : S → State → Prop} {BX : String → SX → State → Prop} {AX : Nat → Prop} (hr : vx_Run p l e R s m args below meth c H locs cells slots mc ms (F0 m pc ls st0) rest (va_Ql post B A1 a) (vx_X px BX AX) free) (hS : va_S A0 H0 H locs) (hA : ∀ q, q < H.size → A1 q → A0 q) (hf : ∀ q, free q → A0 q) (hAX : ∀ q, q < H.size → AX q → A0 q)
    (kx : ∀ (E : String) (ce : Cell) (q9 : Addr) (u : SX) (t : State) (H1 : Heap) (locs1 : List Loc), t.heap = H1 → s.vm.Alike t.vm → px u → BX E u t → H.size ≤ H1.size → (∀ q : Nat, q < H.size → ¬ AX q → H1[q]? = H[q]?) → va_S A0 H0 H1 locs1 → H1[q9]? = some ce → ce.vm = .none → s.vm.findClass E = some ce.cls → vx_W p l e R s m args below meth c H1 locs1 (cells + mc) (slots + ms) Q (F0 m pc ls rest) q9)
    (kk : ∀ (r : Int64) (u : S) (t : State) (H1 : Heap) (locs1 : List Loc), t.heap = H1 → s.vm.Alike t.vm → post r u → B u t → H.size ≤ H1.size → (∀ q : Nat, q < H.size → ¬ A1 q → H1[q]? = H[q]?) → va_S A0 H0 H1 locs1 → W p l e R s m args below meth c H1 locs1 (cells + mc) (slots + ms) Q (F0 m (pc + 3) ls (.long r :: rest))) : W p l e R s m args below meth c H locs cells slots Q (F0 m pc ls st0) := by
  intro T hT X
  rcases hr T hT X with ⟨v, st₀, t, T', L, h0, X', hL, e1, e2, ⟨⟨r, u, hv, hp, hb⟩, hF⟩, st⟩ | ⟨q, st₀, t, T', L, E, ce, h0, X', hL, e1, e2, ⟨u, hp, hb, hF⟩, hce, hcv, hcl, st⟩
  · cases hv
    obtain ⟨k1, k2, k3⟩ := vx_keep h0 e1 hS hA hf hL hF
    obtain ⟨t2, a1, b1⟩ := kk r u t T'.heap (locs ++ L) e1.symm (by rw [← e2]; exact X'.warmed.alike) hp hb k1 k2 k3 T' rfl X'
    exact ⟨t2, st t2 a1, b1⟩
  · obtain ⟨k1, k2, k3⟩ := vx_keep h0 e1 hS hAX hf hL hF
    obtain ⟨t2, a1, b1⟩ := kx E ce q u t T'.heap (locs ++ L) e1.symm (by rw [← e2]; exact X'.warmed.alike) hp hb k1 k2 k3 (by rw [e1]; exact hce) hcv hcl T' rfl X'
    exact ⟨t2, st.trans a1, b1⟩
theorem vx_callf {S SX : Type} {post : UInt32 → S → Prop} {px : SX → Prop} {B : S → State → Prop} {BX : String → SX → State → Prop} {AX : Nat → Prop} (hr : vx_Run p l e R s m args below meth c H locs cells slots mc ms (F0 m pc ls st0) rest (va_Qf post B A1 a) (vx_X px BX AX) free) (hS : va_S A0 H0 H locs) (hA : ∀ q, q < H.size → A1 q → A0 q) (hf : ∀ q, free q → A0 q) (hAX : ∀ q, q < H.size → AX q → A0 q)
    (kx : ∀ (E : String) (ce : Cell) (q9 : Addr) (u : SX) (t : State) (H1 : Heap) (locs1 : List Loc), t.heap = H1 → s.vm.Alike t.vm → px u → BX E u t → H.size ≤ H1.size → (∀ q : Nat, q < H.size → ¬ AX q → H1[q]? = H[q]?) → va_S A0 H0 H1 locs1 → H1[q9]? = some ce → ce.vm = .none → s.vm.findClass E = some ce.cls → vx_W p l e R s m args below meth c H1 locs1 (cells + mc) (slots + ms) Q (F0 m pc ls rest) q9)
    (kk : ∀ (r : UInt32) (u : S) (t : State) (H1 : Heap) (locs1 : List Loc), t.heap = H1 → s.vm.Alike t.vm → post r u → B u t → H.size ≤ H1.size → (∀ q : Nat, q < H.size → ¬ A1 q → H1[q]? = H[q]?) → va_S A0 H0 H1 locs1 → W p l e R s m args below meth c H1 locs1 (cells + mc) (slots + ms) Q (F0 m (pc + 3) ls (.float r :: rest))) : W p l e R s m args below meth c H locs cells slots Q (F0 m pc ls st0) := by
  intro T hT X
  rcases hr T hT X with ⟨v, st₀, t, T', L, h0, X', hL, e1, e2, ⟨⟨r, u, hv, hp, hb⟩, hF⟩, st⟩ | ⟨q, st₀, t, T', L, E, ce, h0, X', hL, e1, e2, ⟨u, hp, hb, hF⟩, hce, hcv, hcl, st⟩
  · cases hv
    obtain ⟨k1, k2, k3⟩ := vx_keep h0 e1 hS hA hf hL hF
    obtain ⟨t2, a1, b1⟩ := kk r u t T'.heap (locs ++ L) e1.symm (by rw [← e2]; exact X'.warmed.alike) hp hb k1 k2 k3 T' rfl X'
    exact ⟨t2, st t2 a1, b1⟩
  · obtain ⟨k1, k2, k3⟩ := vx_keep h0 e1 hS hAX hf hL hF
    obtain ⟨t2, a1, b1⟩ := kx E ce q u t T'.heap (locs ++ L) e1.symm (by rw [← e2]; exact X'.warmed.alike) hp hb k1 k2 k3 (by rw [e1]; exact hce) hcv hcl T' rfl X'
    exact ⟨t2, st.trans a1, b1⟩
theorem vx_calld {S SX : Type} {post : UInt64 → S → Prop} {px : SX → Prop} {B : S → State → Prop} {BX : String → SX → State → Prop} {AX : Nat → Prop} (hr : vx_Run p l e R s m args below meth c H locs cells slots mc ms (F0 m pc ls st0) rest (va_Qd post B A1 a) (vx_X px BX AX) free) (hS : va_S A0 H0 H locs) (hA : ∀ q, q < H.size → A1 q → A0 q) (hf : ∀ q, free q → A0 q) (hAX : ∀ q, q < H.size → AX q → A0 q)
    (kx : ∀ (E : String) (ce : Cell) (q9 : Addr) (u : SX) (t : State) (H1 : Heap) (locs1 : List Loc), t.heap = H1 → s.vm.Alike t.vm → px u → BX E u t → H.size ≤ H1.size → (∀ q : Nat, q < H.size → ¬ AX q → H1[q]? = H[q]?) → va_S A0 H0 H1 locs1 → H1[q9]? = some ce → ce.vm = .none → s.vm.findClass E = some ce.cls → vx_W p l e R s m args below meth c H1 locs1 (cells + mc) (slots + ms) Q (F0 m pc ls rest) q9)
    (kk : ∀ (r : UInt64) (u : S) (t : State) (H1 : Heap) (locs1 : List Loc), t.heap = H1 → s.vm.Alike t.vm → post r u → B u t → H.size ≤ H1.size → (∀ q : Nat, q < H.size → ¬ A1 q → H1[q]? = H[q]?) → va_S A0 H0 H1 locs1 → W p l e R s m args below meth c H1 locs1 (cells + mc) (slots + ms) Q (F0 m (pc + 3) ls (.double r :: rest))) : W p l e R s m args below meth c H locs cells slots Q (F0 m pc ls st0) := by
  intro T hT X
  rcases hr T hT X with ⟨v, st₀, t, T', L, h0, X', hL, e1, e2, ⟨⟨r, u, hv, hp, hb⟩, hF⟩, st⟩ | ⟨q, st₀, t, T', L, E, ce, h0, X', hL, e1, e2, ⟨u, hp, hb, hF⟩, hce, hcv, hcl, st⟩
  · cases hv
    obtain ⟨k1, k2, k3⟩ := vx_keep h0 e1 hS hA hf hL hF
    obtain ⟨t2, a1, b1⟩ := kk r u t T'.heap (locs ++ L) e1.symm (by rw [← e2]; exact X'.warmed.alike) hp hb k1 k2 k3 T' rfl X'
    exact ⟨t2, st t2 a1, b1⟩
  · obtain ⟨k1, k2, k3⟩ := vx_keep h0 e1 hS hAX hf hL hF
    obtain ⟨t2, a1, b1⟩ := kx E ce q u t T'.heap (locs ++ L) e1.symm (by rw [← e2]; exact X'.warmed.alike) hp hb k1 k2 k3 (by rw [e1]; exact hce) hcv hcl T' rfl X'
    exact ⟨t2, st.trans a1, b1⟩
theorem vx_callv {S SX : Type} {post : S → Prop} {px : SX → Prop} {B : S → State → Prop} {BX : String → SX → State → Prop} {AX : Nat → Prop} (hr : vx_Run p l e R s m args below meth c H locs cells slots mc ms (F0 m pc ls st0) rest (va_Qv post B A1 a) (vx_X px BX AX) free) (hS : va_S A0 H0 H locs) (hA : ∀ q, q < H.size → A1 q → A0 q) (hf : ∀ q, free q → A0 q) (hAX : ∀ q, q < H.size → AX q → A0 q)
    (kx : ∀ (E : String) (ce : Cell) (q9 : Addr) (u : SX) (t : State) (H1 : Heap) (locs1 : List Loc), t.heap = H1 → s.vm.Alike t.vm → px u → BX E u t → H.size ≤ H1.size → (∀ q : Nat, q < H.size → ¬ AX q → H1[q]? = H[q]?) → va_S A0 H0 H1 locs1 → H1[q9]? = some ce → ce.vm = .none → s.vm.findClass E = some ce.cls → vx_W p l e R s m args below meth c H1 locs1 (cells + mc) (slots + ms) Q (F0 m pc ls rest) q9)
    (kk : ∀ (u : S) (t : State) (H1 : Heap) (locs1 : List Loc), t.heap = H1 → s.vm.Alike t.vm → post u → B u t → H.size ≤ H1.size → (∀ q : Nat, q < H.size → ¬ A1 q → H1[q]? = H[q]?) → va_S A0 H0 H1 locs1 → W p l e R s m args below meth c H1 locs1 (cells + mc) (slots + ms) Q (F0 m (pc + 3) ls (rest))) : W p l e R s m args below meth c H locs cells slots Q (F0 m pc ls st0) := by
  intro T hT X
  rcases hr T hT X with ⟨v, st₀, t, T', L, h0, X', hL, e1, e2, ⟨⟨u, hv, hp, hb⟩, hF⟩, st⟩ | ⟨q, st₀, t, T', L, E, ce, h0, X', hL, e1, e2, ⟨u, hp, hb, hF⟩, hce, hcv, hcl, st⟩
  · cases hv
    obtain ⟨k1, k2, k3⟩ := vx_keep h0 e1 hS hA hf hL hF
    obtain ⟨t2, a1, b1⟩ := kk u t T'.heap (locs ++ L) e1.symm (by rw [← e2]; exact X'.warmed.alike) hp hb k1 k2 k3 T' rfl X'
    exact ⟨t2, st t2 a1, b1⟩
  · obtain ⟨k1, k2, k3⟩ := vx_keep h0 e1 hS hAX hf hL hF
    obtain ⟨t2, a1, b1⟩ := kx E ce q u t T'.heap (locs ++ L) e1.symm (by rw [← e2]; exact X'.warmed.alike) hp hb k1 k2 k3 (by rw [e1]; exact hce) hcv hcl T' rfl X'
    exact ⟨t2, st.trans a1, b1⟩
/-- caught by the row x of this method's table; the rows ahead don't take it -/
theorem vx_catch {own name : String} {E : String} {ce : Cell} {q : Addr} (hown : s.vm.findClass own = some m.cls) (pre : List ExceptionTableEntry) (x : ExceptionTableEntry) (suf : List ExceptionTableEntry) (hsplit : c.exceptionTable.toList = pre ++ x :: suf)
    (hpass : ∀ z ∈ pre, covers z pc = false ∨ (z.catchType ≠ 0 ∧ ∃ nm : String, (Cond.classLink own z.catchType nm).before args s = true ∧ va_Nc E nm s)) (hx : covers x pc = true) (h0 : x.catchType ≠ 0)
    (hlink : (Cond.classLink own x.catchType name).before args s = true) (hcast : (Cond.castable E name).before args s = true) (hcell : H[q]? = some ce) (hv : ce.vm = .none) (hcl : s.vm.findClass E = some ce.cls)
    (kk : W p l e R s m args below meth c H locs cells slots Q (F0 m x.handlerPc ls [.ref q])) : vx_W p l e R s m args below meth c H locs cells slots Q (F0 m pc ls rest) q := by
  intro T hT X
  have hpl : e.platform.magicAccessors = ({} : Platform).magicAccessors := by rw [X.admits.platform]
  obtain ⟨c3, c4, hc3, hc4, hasg⟩ := Cond.castable_spec hcast
  cases Option.some.inj (hc3.symm.trans hcl)
  obtain ⟨c5, hc5, hcl5⟩ := Cond.classLink_spec hown hlink e.platform hpl
  cases Option.some.inj (hc4.symm.trans hc5)
  obtain ⟨vm', X', st⟩ := X.thenCaughtThrough q (g := F0 m pc ls rest) rfl (Steps.refl _) (by rw [hT]; exact hcell) (by rw [hv]; rfl) (by obtain ⟨k9, h9, -⟩ := Vm.findClass_spec hcl; exact ⟨k9, h9⟩) pre x suf hsplit
    (fun z hz => by
      rcases hpass z hz with h | ⟨hz0, nm, hl1, hn1⟩
      · exact Or.inl h
      · obtain ⟨c6, hc6, hcl6⟩ := Cond.classLink_spec hown hl1 e.platform hpl
        obtain ⟨a8, b8, h1, h2, h3⟩ := hn1
        cases Option.some.inj (h1.symm.trans hcl)
        cases Option.some.inj (h2.symm.trans hc6)
        exact Or.inr ⟨hz0, _, hcl6, h3⟩) hx (Or.inr ⟨h0, c4, hcl5, hasg⟩)
  obtain ⟨t, a1, b1⟩ := kk (T.setVm vm') hT X'
  exact ⟨t, st.trans a1, b1⟩
end Rows
section Ends
variable {p : Program} {l : Launch} {e : Env} {R : Room} {s : State} {m : MethodId} {args : Array Value} {below : List Frame} {meth : Method} {c : Code} {H : Heap} {locs : List Loc} {cells slots : Nat} {Q : State → Prop}
variable {mc ms : Nat} {free : Addr → Prop} {A0 A1 : Nat → Prop} {H0 : Heap} {a : Array Value} {ls : Array Slot} {st0 rest : List Value}
variable {Qc : Array Value → State → Outcome → State → Prop} {XC : String → State → State → Prop}
/-- what a body that may throw owes at its end -/
def vx_MQ (below : List Frame) (Qc : Array Value → State → Outcome → State → Prop) (XC : String → State → State → Prop) (a : Array Value) (s : State) (mc ms : Nat) (free : Addr → Prop) : State → Prop := fun t =>
  ∃ o, t.status = .running ∧ Ended t below o ∧ vx_Q Qc XC mc ms free a s o t
theorem vx_ret {g : JFrame} {mc ms : Nat} (k : W p l e R s m args below meth c H locs cells slots (MQ below Qc args s mc ms free) g) : W p l e R s m args below meth c H locs cells slots (vx_MQ below Qc XC args s mc ms free) g := by
  intro T hT X
  obtain ⟨t, a1, o, b1, b2, b3, b4⟩ := k T hT X
  exact ⟨t, a1, o, b1, b2, Or.inl ⟨b3, b4⟩⟩
/-- not caught here: it goes on to the caller -/
theorem vx_widen {g : JFrame} {q : Addr} {k n : Nat} (h1 : cells ≤ k) (h2 : slots ≤ n) (kk : vx_W p l e R s m args below meth c H locs k n Q g q) : vx_W p l e R s m args below meth c H locs cells slots Q g q := fun T hT X => kk T hT (stand_widen X h1 h2)
theorem vx_out {pc : Nat} {E : String} {ce : Cell} {q : Addr} {mc ms : Nat} (hout : ∀ x ∈ c.exceptionTable.toList, covers x pc = false) (hlocks : meth.locks = false) (hcell : H[q]? = some ce) (hv : ce.vm = .none) (hcl : s.vm.findClass E = some ce.cls)
    (hx : ∀ t : State, t.heap = H → s.vm.Alike t.vm → XC E s t) (hf : ∀ z ∈ locs, free z.base) (hc : cells ≤ mc) (hs : slots ≤ ms) :
    vx_W p l e R s m args below meth c H locs cells slots (vx_MQ below Qc XC args s mc ms free) (F0 m pc ls rest) q := by
  intro T hT X
  obtain ⟨st1, hrun, hend, hW, hsm⟩ := X.leaveThrown q (g := F0 m pc ls rest) rfl rfl rfl hout hlocks
  have hcell9 : (T.setFrames (.throwing q :: below)).heap[q]? = some ce := by
    show T.heap[q]? = some ce
    rw [hT]; exact hcell
  exact ⟨_, st1, .threw q, hrun, hend, Or.inr ⟨q, rfl, E, ce, locs, hx _ hT hW.alike, hcell9, hv, hcl, hW, hsm.mono hc hs, hf⟩⟩
theorem vx_frame {U : State} {k n : Nat} (h : s.sameButNew ({ U with vm := s.vm } : State) locs k n) : s.heap.size ≤ U.heap.size ∧ ∀ q : Nat, q < s.heap.size → (∀ z ∈ locs, z.base ≠ q) → U.heap[q]? = s.heap[q]? := by
  obtain ⟨-, h2, -, -, -, h6⟩ := h
  refine ⟨h2, fun q hq hz => ?_⟩
  obtain ⟨c9, e1, e2, e3, e4⟩ := h6 q _ (Array.getElem?_eq_getElem hq)
  have hs : c9.slots = (s.heap[q]).slots := Array.ext_getElem? fun i => e4 i fun hm => hz _ hm rfl
  have h9 : c9 = s.heap[q] := by
    rw [hs] at e2
    exact e2
  have e5 : U.heap[q]? = some c9 := e1
  rw [e5, h9, Array.getElem?_eq_getElem hq]
/-- the words of a throw but the four that speak of the heap -/
def vx_no (w : Cond) : Bool := decide (w ≠ .isRef (.static Bundle.tN "UNASSIGNED_STACK" Bundle.steD)) && decide (w ≠ .isRef (.static Bundle.tN "SUPPRESSED_SENTINEL" Bundle.listD)) && decide (w ≠ .laysStatic Bundle.tN "UNASSIGNED_STACK" Bundle.steD) && decide (w ≠ .laysStatic Bundle.tN "SUPPRESSED_SENTINEL" Bundle.listD)
def vx_at0 (own : String) (ic : Nat) (X : String) (names : List String) : List Cond := (Bundle.ownAtoms0 own ic X names).filter vx_no
def vx_atS (own : String) (ic : Nat) (X : String) (names : List String) : List Cond := (Bundle.ownAtoms own ic X names).filter vx_no
/-- a word that the tables alone decide, or a good one -/
def vx_ot (w : Cond) : Bool := w.onTables || goodWord w
theorem vx_ot_at {args a' : Array Value} {s U : State} {w : Cond} (hW : s.WarmedH U.vm) (hvm : s.vm = U.vm) (hg : vx_ot w = true) (h : w.before args s = true) : w.before a' U = true := by
  simp only [vx_ot, Bool.or_eq_true] at hg
  rcases hg with hg | hg
  · exact va_tabs hg hvm h
  · exact word_at hW (good_of_word hg) h
/-- a list's words: the good ones out of the method's own list, the others by premises of their own -/
theorem vx_hat {args : Array Value} {s : State} {L B : List Cond} (h1 : ∀ w ∈ L.filter goodWord, w.before args s = true) (h2 : ∀ w ∈ L.filter (fun w => !goodWord w), w ∈ B) (h3 : ∀ w ∈ B, w.before args s = true) : ∀ w ∈ L, w.before args s = true := by
  intro w hw
  by_cases g : goodWord w = true
  · exact h1 w (List.mem_filter.mpr ⟨hw, g⟩)
  · refine h3 w (h2 w (List.mem_filter.mpr ⟨hw, ?_⟩))
    show (!goodWord w) = true
    cases hgw : goodWord w
    · rfl
    · exact absurd hgw g
theorem vx_c {args : Array Value} {s : State} {w : Cond} {B : List Cond} (h : w.before args s = true) (t : ∀ w ∈ B, w.before args s = true) : ∀ w' ∈ w :: B, w'.before args s = true := fun w' h' => (List.mem_cons.mp h').elim (fun e => by rw [e]; exact h) (t w')
theorem vx_n {args : Array Value} {s : State} : ∀ w ∈ ([] : List Cond), w.before args s = true := fun _ h => nomatch h
theorem vx_own {args : Array Value} {s : State} {L : List Cond} (h1 : ∀ w ∈ L.filter vx_no, w.before args s = true)
    (hU : (Cond.isRef (.static Bundle.tN "UNASSIGNED_STACK" Bundle.steD)).before args s = true) (hN : (Cond.isRef (.static Bundle.tN "SUPPRESSED_SENTINEL" Bundle.listD)).before args s = true)
    (lU : (Cond.laysStatic Bundle.tN "UNASSIGNED_STACK" Bundle.steD).before args s = true) (lN : (Cond.laysStatic Bundle.tN "SUPPRESSED_SENTINEL" Bundle.listD).before args s = true) : ∀ w ∈ L, w.before args s = true := by
  intro w hw
  by_cases e1 : w = .isRef (.static Bundle.tN "UNASSIGNED_STACK" Bundle.steD)
  · rw [e1]; exact hU
  · by_cases e2 : w = .isRef (.static Bundle.tN "SUPPRESSED_SENTINEL" Bundle.listD)
    · rw [e2]; exact hN
    · by_cases e3 : w = .laysStatic Bundle.tN "UNASSIGNED_STACK" Bundle.steD
      · rw [e3]; exact lU
      · by_cases e4 : w = .laysStatic Bundle.tN "SUPPRESSED_SENTINEL" Bundle.listD
        · rw [e4]; exact lN
        · exact h1 w (List.mem_filter.mpr ⟨hw, by unfold vx_no; rw [decide_eq_true e1, decide_eq_true e2, decide_eq_true e3, decide_eq_true e4]; rfl⟩)
/-- where a static field lies, its class's statics cell in H -/
def vx_L (C n d : String) (A : Nat → Prop) (U : State) (H : Heap) : Prop := ∃ (c : ClassId) (k : Class) (i : Nat) (f : Field) (a : Nat) (cell : Cell), U.vm.findClass C = some c ∧ U.fieldFound? C n d = some (c, k, i, f) ∧ f.isStatic = true ∧ k.statics = some a ∧ H[a]? = some cell ∧ cell.vm.isStatics = true ∧ cell.cls = c ∧ f.slot < cell.slots.size ∧ k.staticTypes[f.slot]? = some f.type ∧ ¬ A a
theorem vx_L.moved {C n d : String} {A : Nat → Prop} {u U : State} {H : Heap} (hvm : u.vm.Alike U.vm) (h : vx_L C n d A u H) : vx_L C n d A U H := by
  obtain ⟨c, k, i, f, a, cell, h1, h2, h3, h4, h5, h6, h7, h8, h9, h10⟩ := h
  obtain ⟨k', hi', he⟩ := State.fieldFound?_setVm hvm h2
  exact ⟨c, k', i, f, a, cell, by rw [hvm.findClass]; exact h1, hi', h3, by rw [he]; exact h4, h5, h6, h7, h8, by rw [he]; exact h9, h10⟩
theorem vx_L.kept {C n d : String} {A : Nat → Prop} {U : State} {H H1 : Heap} (h : vx_L C n d A U H) (hq : ∀ a : Nat, a < H.size → ¬ A a → H1[a]? = H[a]?) : vx_L C n d A U H1 := by
  obtain ⟨c, k, i, f, a, cell, h1, h2, h3, h4, h5, h6, h7, h8, h9, h10⟩ := h
  exact ⟨c, k, i, f, a, cell, h1, h2, h3, h4, by rw [hq a (Array.getElem?_eq_some_iff.mp h5).1 h10]; exact h5, h6, h7, h8, h9, h10⟩
theorem vx_L.narrow {C n d : String} {A B : Nat → Prop} {U : State} {H : Heap} (h : vx_L C n d A U H) (hAB : ∀ q, B q → A q) : vx_L C n d B U H := by
  obtain ⟨c, k, i, f, a, cell, h1, h2, h3, h4, h5, h6, h7, h8, h9, h10⟩ := h
  exact ⟨c, k, i, f, a, cell, h1, h2, h3, h4, h5, h6, h7, h8, h9, fun z => h10 (hAB _ z)⟩
theorem vx_L.word {C n d : String} {A : Nat → Prop} {s : State} {args : Array Value} (h : vx_L C n d A s s.heap) : (Cond.laysStatic C n d).before args s = true := by
  obtain ⟨c, k, i, f, a, cell, h1, h2, h3, h4, h5, h6, h7, h8, h9, -⟩ := h
  show (Cond.laysStatic C n d).holds args s none s [] = true
  exact Cond.laysStatic_of h1 h2 h3 h4 h5 h6 h7 h8 h9
/-- .. and what it holds: null or some reference -/
def vx_Zq (C n d : String) (A : Nat → Prop) (U : State) (H : Heap) : Prop := va_Zq C n d A U H ∧ vx_L C n d A U H
theorem vx_Zq.moved {C n d : String} {A : Nat → Prop} {u U : State} {H : Heap} (hvm : u.vm.Alike U.vm) (h : vx_Zq C n d A u H) : vx_Zq C n d A U H := ⟨va_Zq.moved hvm h.1, vx_L.moved hvm h.2⟩
theorem vx_Zq.kept {C n d : String} {A : Nat → Prop} {U : State} {H H1 : Heap} (h : vx_Zq C n d A U H) (hq : ∀ a : Nat, a < H.size → ¬ A a → H1[a]? = H[a]?) : vx_Zq C n d A U H1 := ⟨va_Zq.kept h.1 hq, vx_L.kept h.2 hq⟩
theorem vx_Zq.narrow {C n d : String} {A B : Nat → Prop} {U : State} {H : Heap} (h : vx_Zq C n d A U H) (hAB : ∀ q, B q → A q) : vx_Zq C n d B U H := ⟨va_Zq.narrow h.1 hAB, vx_L.narrow h.2 hAB⟩
theorem vx_Zqof {args : Array Value} {s : State} {C n d : String} {A : Nat → Prop} (hl : (Cond.laysStatic C n d).before args s = true) (hini : (Cond.initialized C).before args s = true) (h : (Cond.isRef (.static C n d)).before args s = true) (hA : ∀ a : Nat, a < s.heap.size → ¬ A a) : vx_Zq C n d A s s.heap := by
  refine ⟨va_Zqof hl hini h hA, ?_⟩
  obtain ⟨c, k, i, f, a, cell, h1, h2, h3, h4, h5, h6, h7, h8, h9⟩ := Cond.laysStatic_spec hl
  exact ⟨c, k, i, f, a, cell, h1, h2, h3, h4, h5, h6, h7, h8, h9, hA a (Array.getElem?_eq_some_iff.mp h5).1⟩
theorem vx_isRef {C n d : String} {v : Value} {A : Nat → Prop} {s : State} {args : Array Value} (h : va_Z C n d v A s s.heap) (hv : v.isRef = true) : (Cond.isRef (.static C n d)).before args s = true := by
  obtain ⟨cf, kf, fi, f, a, cell, h1, h2, h3, h4, h5, h6, h7, -⟩ := h
  have he : (Term.static C n d).eval args s none [] s = some v := by
    simp [Term.eval, State.fieldNamed?, h1, h2, h4, h5, h6, h7]
  simp only [Cond.before, Cond.holds, Cond.value, he]
  cases v <;> simp_all [Value.isRef]
theorem vx_isRefq {C n d : String} {A : Nat → Prop} {s : State} {args : Array Value} (h : va_Zq C n d A s s.heap) : (Cond.isRef (.static C n d)).before args s = true := by
  rcases h with h | ⟨t, h⟩
  · exact vx_isRef h rfl
  · exact vx_isRef h rfl
/-- the same frame, seen from here: as if the method were called anew in this heap -/
theorem vx_rebase {T : State} (X : Stand p l e R s m args below meth c T locs cells slots) {R' : Room} (hf : R'.frames ≤ R.frames) (hl : R'.locals ≤ R.locals) (hc : cells + R'.cells ≤ R.cells) (hs : slots + R'.slots ≤ R.slots) :
    Stand p l e R' ((T.setVm s.vm).setFrames (.invoking m args :: below)) m args below meth c T [] 0 0 := by
  have htop : (T.setVm s.vm).topJava?.isSome := X.here.top
  have hF : ((T.setVm s.vm).setFrames (.invoking m args :: below)).frames = .invoking m args :: below := State.frames_setFrames _ (State.cur_lt_of_top htop)
  obtain ⟨g₀, hg0⟩ := Option.isSome_iff_exists.mp htop
  obtain ⟨r, hr⟩ := State.topJava?_eq_some.mp hg0
  have hl9 : e.platform.stackLimits (T.setVm s.vm).me = e.platform.stackLimits s.me := X.limits
  have hb9 : (T.setVm s.vm).me.stackBytes = s.me.stackBytes := X.bytes
  refine ⟨X.admits, X.cas, X.clock, hF, ?_, X.hears, X.method, X.code, X.here, X.tail, X.warmed, ?_, ?_, ?_⟩
  · have h := X.room
    have hU : ((T.setVm s.vm).setFrames (.invoking m args :: below)).localsInUse = s.localsInUse := by
      rw [State.localsInUse_invoking hF (meth := meth) (c := c) X.method X.code, State.localsInUse_invoking X.frames X.method X.code]
    simp only [State.hasRoom, Bool.and_eq_true, decide_eq_true_eq] at h ⊢
    obtain ⟨⟨⟨⟨h1, h2, h3, h4, h5, h6⟩, h7⟩, h8⟩, h9⟩ := h
    rw [X.frames, List.length_cons] at h2 h3
    have q1 := X.heapSize
    have q2 := X.used
    simp only [hF, hU, List.length_cons, State.stackLimits_setFrames, State.stackBytes_setFrames, hl9, hb9]
    refine ⟨⟨⟨⟨by omega, by omega, by omega, by omega, by omega, h6⟩, ?_⟩, ?_⟩, X.book⟩
    · show T.heap.size + R'.cells ≤ e.platform.maxCells
      omega
    · show T.slotsUsed + R'.slots ≤ e.platform.maxSlots
      omega
  · rw [State.stackLimits_setFrames]; rfl
  · rw [State.stackBytes_setFrames]; rfl
  · refine ⟨?_, Nat.le_refl _, Nat.le_refl _, ?_, ?_, fun a c9 h9 => ⟨c9, h9, rfl, rfl, fun _ _ => rfl⟩⟩
    · obtain ⟨t, ht, -⟩ := State.frames_cons hr
      show T.setVm s.vm = { ((T.setVm s.vm).setFrames (.invoking m args :: below)).setFrames (T.setVm s.vm).frames with heap := T.heap, slotsUsed := T.slotsUsed }
      rw [State.setFrames_setFrames, State.setFrames_self ht]
      rfl
    · show T.slotsUsed = T.slotsUsed + ((T.heap.toList.drop T.heap.size).map (·.slots.size)).sum
      rw [List.drop_eq_nil_of_le (Nat.le_of_eq Array.length_toList)]
      rfl
    · show ((T.heap.toList.drop T.heap.size).map (·.slots.size)).sum ≤ 0
      rw [List.drop_eq_nil_of_le (Nat.le_of_eq Array.length_toList)]
      exact Nat.le_refl _
/-- 'throw new E()': new; dup; invokespecial; athrow -/
theorem vx_throw0 {cc : ByteArray} {pc : Nat} (hexec : p.tables.exec = Jvm.exec) (hb : c.code = cc) (hl : l.stackTraces = false) {own cls : String} {names : List String} {ik ic mc ms : Nat} {A : Nat → Prop}
    (hown : s.vm.findClass own = some m.cls) (hcls : Bundle.fit cls = true) (hnames : ∀ n ∈ names, Bundle.fit n = true)
    (hk : (Cond.classLink own ik cls).before args s = true) (hini : (Cond.initialized cls).before args s = true) (hat : ∀ w ∈ vx_at0 own ic cls names, w.before args s = true)
    (hgood : ∀ w ∈ Cond.classLink own ik cls :: Cond.initialized cls :: vx_at0 own ic cls names, vx_ot w = true)
    (hU : vx_Zq Bundle.tN "UNASSIGNED_STACK" Bundle.steD A s s.heap) (hN : vx_Zq Bundle.tN "SUPPRESSED_SENTINEL" Bundle.listD A s s.heap) (hS : va_S A s.heap H locs) (hsize : ls.size = c.maxLocals)
    (d0 : decode cc pc = .ok (.new ik, 3)) (d3 : decode cc (pc + 3) = .ok (.dup, 1)) (d4 : decode cc (pc + 4) = .ok (.invokespecial ic, 3)) (d7 : decode cc (pc + 7) = .ok (.athrow, 1))
    (hout : ∀ x ∈ c.exceptionTable.toList, covers x (pc + 7) = false)
    (hRframes : names.length + 3 < R.frames) (hRlocals : (rest.map fun v => v.category).sum + (13 * (names.length + 1) + 42) ≤ R.locals) (hRcells : cells + 1 ≤ R.cells) (hRslots : slots + 6 ≤ R.slots) (hlocks : meth.locks = false)
    (hx : ∀ t : State, s.vm.Alike t.vm → H.size ≤ t.heap.size → (∀ q : Nat, q < H.size → t.heap[q]? = H[q]?) → XC cls s t)
    (hf : ∀ z ∈ locs, free z.base) (hc : cells + 1 ≤ mc) (hs : slots + 6 ≤ ms) :
    W p l e R s m args below meth c H locs cells slots (vx_MQ below Qc XC args s mc ms free) (F0 m pc ls rest) := by
  intro T hT X
  have htr : e.platform.stackTraces = false := (show e.platform.stackTraces = l.stackTraces by rw [X.admits.platform]).trans hl
  have Y := vx_rebase X (R' := { frames := R.frames, locals := R.locals, cells := 1, slots := 6 }) (Nat.le_refl _) (Nat.le_refl _) hRcells hRslots
  obtain ⟨s', hA⟩ : ∃ z, z = (T.setVm s.vm).setFrames (.invoking m args :: below) := ⟨_, rfl⟩
  rw [← hA] at Y
  have hvm : s'.vm = s.vm := by rw [hA]; rfl
  have hhp : s'.heap = H := by rw [hA]; exact hT
  have hW0 : s.WarmedH s'.vm := by rw [hvm]; exact State.WarmedH.refl s
  have hat' : ∀ w ∈ vx_at0 own ic cls names, w.before args s' = true := fun w hw => vx_ot_at hW0 hvm.symm (hgood w (List.mem_cons_of_mem _ (List.mem_cons_of_mem _ hw))) (hat w hw)
  have hk' : (Cond.classLink own ik cls).before args s' = true := vx_ot_at hW0 hvm.symm (hgood _ List.mem_cons_self) hk
  have hini' : (Cond.initialized cls).before args s' = true := vx_ot_at hW0 hvm.symm (hgood _ (List.mem_cons_of_mem _ List.mem_cons_self)) hini
  have hU' : vx_Zq Bundle.tN "UNASSIGNED_STACK" Bundle.steD A s' s'.heap := by rw [hhp]; exact vx_Zq.moved hW0.alike (hU.kept hS.2.1)
  have hN' : vx_Zq Bundle.tN "SUPPRESSED_SENTINEL" Bundle.listD A s' s'.heap := by rw [hhp]; exact vx_Zq.moved hW0.alike (hN.kept hS.2.1)
  have h : ∀ w ∈ Bundle.ownAtoms0 own ic cls names, w.before args s' = true := vx_own hat' (vx_isRefq hU'.1) (vx_isRefq hN'.1) hU'.2.word hN'.2.word
  have hown' : s'.vm.findClass own = some m.cls := by rw [hvm]; exact hown
  have hins : (Cond.instantiable cls 6).before args s' = true := h _ (by simp [Bundle.ownAtoms0])
  obtain ⟨vm₁, cX, kX, hfX, hkX, -, -, X₁, st1⟩ := Y.newCold hexec (own := own) (C := cls) (index := ik) (n := 6) hown' hk' hins hini'
    (g := F0 m pc ls rest) rfl (by rw [hb]; exact d0) (Nat.le_refl _) (Nat.le_refl _)
  generalize hT1 : (T.setVm vm₁).pushCell { cls := cX, slots := kX.instanceTypes.map defaultValue, vm := .none } = T1 at X₁ st1
  have hcat : (Value.ref T.heap.size).category = 1 := rfl
  have hcellA : T1.heap[T.heap.size]? = some (freshCell cX kX) := by rw [← hT1]; exact State.heap_pushCell_size _ _
  have d3' : decode c.code (pc + 3) = .ok (.dup, 1) := by rw [hb]; exact d3
  obtain ⟨U, hsteps, hrun, hend, hW, hsame, ce, hce, hO⟩ := X₁.ctorThrow0 hexec htr (own := own) (cls := cls) (names := names) (ic := ic) hown' hcls hnames h (fun x hx => nomatch hx) hfX hkX hcellA (by rw [hhp, hT]; exact Nat.le_refl _)
    (g := { method := m, pc := pc + 4, locals := ls, stack := .ref T.heap.size :: .ref T.heap.size :: rest, locked := none }) rfl hsize rfl rfl (rest := rest) rfl
    (by rw [hb]; exact d4) (by rw [hb]; exact d7) hout hRframes (by simp only [List.map_cons, List.sum_cons, hcat]; omega) hlocks
  obtain ⟨f1, f2⟩ := vx_frame hsame
  rw [hhp] at f1 f2
  have hWs : s.WarmedH U.vm := State.WarmedH.trans hW0 hW
  have hcl : s.vm.findClass cls = some ce.cls := by
    have h9 := hO.cls
    rw [hvm] at h9
    exact h9
  have hall : s.sameButNew ({ U with vm := s.vm } : State) locs mc ms := by
    subst hA
    obtain ⟨e1, e2⟩ := hsame
    rw [State.setFrames_setFrames] at e1
    have h2 : (T.setVm s.vm).sameButNew ({ U with vm := s.vm } : State) [] (0 + 1) (0 + 6) := ⟨e1, e2⟩
    have h3 := X.same.trans h2
    rw [List.append_nil] at h3
    exact h3.mono hc hs
  refine ⟨U, ?_, .threw T.heap.size, hrun, hend, Or.inr ⟨T.heap.size, rfl, cls, ce, locs, hx U hWs.alike f1 (fun q hq => f2 q hq (fun z hz => nomatch hz)), hce, hO.vm, hcl, hWs, hall, hf⟩⟩
  refine st1 _ ?_
  show Steps p.tables e below (T1.setTop { method := m, pc := pc + 3, locals := ls, stack := .ref T.heap.size :: rest, locked := none }) _
  jvm_step X₁.here [X₁.here.top, hexec, d3', Value.category]
  exact hsteps
/-- 'throw new E("text")': new; dup; ldc; invokespecial; athrow -/
theorem vx_throwS {cc : ByteArray} {pc : Nat} (hexec : p.tables.exec = Jvm.exec) (hb : c.code = cc) (hl : l.stackTraces = false) {own cls text : String} {names : List String} {ik is ic mc ms sa : Nat} {A : Nat → Prop}
    (hown : s.vm.findClass own = some m.cls) (hcls : Bundle.fit cls = true) (hnames : ∀ n ∈ names, Bundle.fit n = true)
    (hk : (Cond.classLink own ik cls).before args s = true) (hini : (Cond.initialized cls).before args s = true) (hstr : vk_R own is text sa s) (hat : ∀ w ∈ vx_atS own ic cls names, w.before args s = true)
    (hgood : ∀ w ∈ Cond.classLink own ik cls :: Cond.initialized cls :: vx_atS own ic cls names, vx_ot w = true)
    (hU : vx_Zq Bundle.tN "UNASSIGNED_STACK" Bundle.steD A s s.heap) (hN : vx_Zq Bundle.tN "SUPPRESSED_SENTINEL" Bundle.listD A s s.heap) (hS : va_S A s.heap H locs) (hsize : ls.size = c.maxLocals)
    (d0 : decode cc pc = .ok (.new ik, 3)) (d3 : decode cc (pc + 3) = .ok (.dup, 1)) (d4 : decode cc (pc + 4) = .ok (.ldc is, 2)) (d6 : decode cc (pc + 6) = .ok (.invokespecial ic, 3)) (d9 : decode cc (pc + 9) = .ok (.athrow, 1))
    (hout : ∀ x ∈ c.exceptionTable.toList, covers x (pc + 9) = false)
    (hRframes : names.length + 3 < R.frames) (hRlocals : (rest.map fun v => v.category).sum + (13 * (names.length + 1) + 43) ≤ R.locals) (hRcells : cells + 1 ≤ R.cells) (hRslots : slots + 6 ≤ R.slots) (hlocks : meth.locks = false)
    (hx : ∀ t : State, s.vm.Alike t.vm → H.size ≤ t.heap.size → (∀ q : Nat, q < H.size → t.heap[q]? = H[q]?) → XC cls s t)
    (hf : ∀ z ∈ locs, free z.base) (hc : cells + 1 ≤ mc) (hs : slots + 6 ≤ ms) :
    W p l e R s m args below meth c H locs cells slots (vx_MQ below Qc XC args s mc ms free) (F0 m pc ls rest) := by
  intro T hT X
  have htr : e.platform.stackTraces = false := (show e.platform.stackTraces = l.stackTraces by rw [X.admits.platform]).trans hl
  have Y := vx_rebase X (R' := { frames := R.frames, locals := R.locals, cells := 1, slots := 6 }) (Nat.le_refl _) (Nat.le_refl _) hRcells hRslots
  obtain ⟨s', hA⟩ : ∃ z, z = (T.setVm s.vm).setFrames (.invoking m args :: below) := ⟨_, rfl⟩
  rw [← hA] at Y
  have hvm : s'.vm = s.vm := by rw [hA]; rfl
  have hhp : s'.heap = H := by rw [hA]; exact hT
  have hW0 : s.WarmedH s'.vm := by rw [hvm]; exact State.WarmedH.refl s
  have hat' : ∀ w ∈ vx_atS own ic cls names, w.before args s' = true := fun w hw => vx_ot_at hW0 hvm.symm (hgood w (List.mem_cons_of_mem _ (List.mem_cons_of_mem _ hw))) (hat w hw)
  have hk' : (Cond.classLink own ik cls).before args s' = true := vx_ot_at hW0 hvm.symm (hgood _ List.mem_cons_self) hk
  have hini' : (Cond.initialized cls).before args s' = true := vx_ot_at hW0 hvm.symm (hgood _ (List.mem_cons_of_mem _ List.mem_cons_self)) hini
  have hU' : vx_Zq Bundle.tN "UNASSIGNED_STACK" Bundle.steD A s' s'.heap := by rw [hhp]; exact vx_Zq.moved hW0.alike (hU.kept hS.2.1)
  have hN' : vx_Zq Bundle.tN "SUPPRESSED_SENTINEL" Bundle.listD A s' s'.heap := by rw [hhp]; exact vx_Zq.moved hW0.alike (hN.kept hS.2.1)
  have h : ∀ w ∈ Bundle.ownAtoms own ic cls names, w.before args s' = true := vx_own hat' (vx_isRefq hU'.1) (vx_isRefq hN'.1) hU'.2.word hN'.2.word
  have hown' : s'.vm.findClass own = some m.cls := by rw [hvm]; exact hown
  have hins : (Cond.instantiable cls 6).before args s' = true := h _ (by simp [Bundle.ownAtoms])
  obtain ⟨vm₁, cX, kX, hfX, hkX, -, -, X₁, st1⟩ := Y.newCold hexec (own := own) (C := cls) (index := ik) (n := 6) hown' hk' hins hini'
    (g := F0 m pc ls rest) rfl (by rw [hb]; exact d0) (Nat.le_refl _) (Nat.le_refl _)
  generalize hT1 : (T.setVm vm₁).pushCell { cls := cX, slots := kX.instanceTypes.map defaultValue, vm := .none } = T1 at X₁ st1
  have hcat : (Value.ref T.heap.size).category = 1 := rfl
  have hcellA : T1.heap[T.heap.size]? = some (freshCell cX kX) := by rw [← hT1]; exact State.heap_pushCell_size _ _
  have d3' : decode c.code (pc + 3) = .ok (.dup, 1) := by rw [hb]; exact d3
  have d4' : decode c.code (pc + 4) = .ok (.ldc is, 2) := by rw [hb]; exact d4
  have hstr' : vk_R own is text sa s' := vk_R.warm hW0 hstr
  obtain ⟨U, hsteps, hrun, hend, hW, hsame, ce, hce, hO⟩ := X₁.ctorThrowS hexec htr (own := own) (cls := cls) (names := names) (ic := ic) hown' hcls hnames h (fun x hx => nomatch hx) hfX hkX hcellA (by rw [hhp, hT]; exact Nat.le_refl _) (msg := .ref sa) rfl
    (g := { method := m, pc := pc + 6, locals := ls, stack := .ref sa :: .ref T.heap.size :: .ref T.heap.size :: rest, locked := none }) rfl hsize rfl rfl (rest := rest) rfl
    (by rw [hb]; exact d6) (by rw [hb]; exact d9) hout hRframes (by simp only [List.map_cons, List.sum_cons, hcat]; omega) hlocks
  obtain ⟨f1, f2⟩ := vx_frame hsame
  rw [hhp] at f1 f2
  have hWs : s.WarmedH U.vm := State.WarmedH.trans hW0 hW
  have hcl : s.vm.findClass cls = some ce.cls := by
    have h9 := hO.cls
    rw [hvm] at h9
    exact h9
  have hall : s.sameButNew ({ U with vm := s.vm } : State) locs mc ms := by
    subst hA
    obtain ⟨e1, e2⟩ := hsame
    rw [State.setFrames_setFrames] at e1
    have h2 : (T.setVm s.vm).sameButNew ({ U with vm := s.vm } : State) [] (0 + 1) (0 + 6) := ⟨e1, e2⟩
    have h3 := X.same.trans h2
    rw [List.append_nil] at h3
    exact h3.mono hc hs
  refine ⟨U, ?_, .threw T.heap.size, hrun, hend, Or.inr ⟨T.heap.size, rfl, cls, ce, locs, hx U hWs.alike f1 (fun q hq => f2 q hq (fun z hz => nomatch hz)), hce, hO.vm, hcl, hWs, hall, hf⟩⟩
  refine st1 _ ?_
  show Steps p.tables e below (T1.setTop { method := m, pc := pc + 3, locals := ls, stack := .ref T.heap.size :: rest, locked := none }) _
  jvm_step X₁.here [X₁.here.top, hexec, d3', Value.category]
  exact X₁.ldcString hexec (own := own) (text := text) (index := is) (a := sa) hown' hstr'.1 hstr'.2
    (g := { method := m, pc := pc + 4, locals := ls, stack := .ref T.heap.size :: .ref T.heap.size :: rest, locked := none }) rfl d4' _ hsteps
/-- 'throw new E("text")', the text by a wide index -/
theorem vx_throwSW {cc : ByteArray} {pc : Nat} (hexec : p.tables.exec = Jvm.exec) (hb : c.code = cc) (hl : l.stackTraces = false) {own cls text : String} {names : List String} {ik is ic mc ms sa : Nat} {A : Nat → Prop}
    (hown : s.vm.findClass own = some m.cls) (hcls : Bundle.fit cls = true) (hnames : ∀ n ∈ names, Bundle.fit n = true)
    (hk : (Cond.classLink own ik cls).before args s = true) (hini : (Cond.initialized cls).before args s = true) (hstr : vk_R own is text sa s) (hat : ∀ w ∈ vx_atS own ic cls names, w.before args s = true)
    (hgood : ∀ w ∈ Cond.classLink own ik cls :: Cond.initialized cls :: vx_atS own ic cls names, vx_ot w = true)
    (hU : vx_Zq Bundle.tN "UNASSIGNED_STACK" Bundle.steD A s s.heap) (hN : vx_Zq Bundle.tN "SUPPRESSED_SENTINEL" Bundle.listD A s s.heap) (hS : va_S A s.heap H locs) (hsize : ls.size = c.maxLocals)
    (d0 : decode cc pc = .ok (.new ik, 3)) (d3 : decode cc (pc + 3) = .ok (.dup, 1)) (d4 : decode cc (pc + 4) = .ok (.ldc_w is, 3)) (d7 : decode cc (pc + 7) = .ok (.invokespecial ic, 3)) (d10 : decode cc (pc + 10) = .ok (.athrow, 1))
    (hout : ∀ x ∈ c.exceptionTable.toList, covers x (pc + 10) = false)
    (hRframes : names.length + 3 < R.frames) (hRlocals : (rest.map fun v => v.category).sum + (13 * (names.length + 1) + 43) ≤ R.locals) (hRcells : cells + 1 ≤ R.cells) (hRslots : slots + 6 ≤ R.slots) (hlocks : meth.locks = false)
    (hx : ∀ t : State, s.vm.Alike t.vm → H.size ≤ t.heap.size → (∀ q : Nat, q < H.size → t.heap[q]? = H[q]?) → XC cls s t)
    (hf : ∀ z ∈ locs, free z.base) (hc : cells + 1 ≤ mc) (hs : slots + 6 ≤ ms) :
    W p l e R s m args below meth c H locs cells slots (vx_MQ below Qc XC args s mc ms free) (F0 m pc ls rest) := by
  intro T hT X
  have htr : e.platform.stackTraces = false := (show e.platform.stackTraces = l.stackTraces by rw [X.admits.platform]).trans hl
  have Y := vx_rebase X (R' := { frames := R.frames, locals := R.locals, cells := 1, slots := 6 }) (Nat.le_refl _) (Nat.le_refl _) hRcells hRslots
  obtain ⟨s', hA⟩ : ∃ z, z = (T.setVm s.vm).setFrames (.invoking m args :: below) := ⟨_, rfl⟩
  rw [← hA] at Y
  have hvm : s'.vm = s.vm := by rw [hA]; rfl
  have hhp : s'.heap = H := by rw [hA]; exact hT
  have hW0 : s.WarmedH s'.vm := by rw [hvm]; exact State.WarmedH.refl s
  have hat' : ∀ w ∈ vx_atS own ic cls names, w.before args s' = true := fun w hw => vx_ot_at hW0 hvm.symm (hgood w (List.mem_cons_of_mem _ (List.mem_cons_of_mem _ hw))) (hat w hw)
  have hk' : (Cond.classLink own ik cls).before args s' = true := vx_ot_at hW0 hvm.symm (hgood _ List.mem_cons_self) hk
  have hini' : (Cond.initialized cls).before args s' = true := vx_ot_at hW0 hvm.symm (hgood _ (List.mem_cons_of_mem _ List.mem_cons_self)) hini
  have hU' : vx_Zq Bundle.tN "UNASSIGNED_STACK" Bundle.steD A s' s'.heap := by rw [hhp]; exact vx_Zq.moved hW0.alike (hU.kept hS.2.1)
  have hN' : vx_Zq Bundle.tN "SUPPRESSED_SENTINEL" Bundle.listD A s' s'.heap := by rw [hhp]; exact vx_Zq.moved hW0.alike (hN.kept hS.2.1)
  have h : ∀ w ∈ Bundle.ownAtoms own ic cls names, w.before args s' = true := vx_own hat' (vx_isRefq hU'.1) (vx_isRefq hN'.1) hU'.2.word hN'.2.word
  have hown' : s'.vm.findClass own = some m.cls := by rw [hvm]; exact hown
  have hins : (Cond.instantiable cls 6).before args s' = true := h _ (by simp [Bundle.ownAtoms])
  obtain ⟨vm₁, cX, kX, hfX, hkX, -, -, X₁, st1⟩ := Y.newCold hexec (own := own) (C := cls) (index := ik) (n := 6) hown' hk' hins hini'
    (g := F0 m pc ls rest) rfl (by rw [hb]; exact d0) (Nat.le_refl _) (Nat.le_refl _)
  generalize hT1 : (T.setVm vm₁).pushCell { cls := cX, slots := kX.instanceTypes.map defaultValue, vm := .none } = T1 at X₁ st1
  have hcat : (Value.ref T.heap.size).category = 1 := rfl
  have hcellA : T1.heap[T.heap.size]? = some (freshCell cX kX) := by rw [← hT1]; exact State.heap_pushCell_size _ _
  have d3' : decode c.code (pc + 3) = .ok (.dup, 1) := by rw [hb]; exact d3
  have d4' : decode c.code (pc + 4) = .ok (.ldc_w is, 3) := by rw [hb]; exact d4
  have hstr' : vk_R own is text sa s' := vk_R.warm hW0 hstr
  obtain ⟨U, hsteps, hrun, hend, hW, hsame, ce, hce, hO⟩ := X₁.ctorThrowS hexec htr (own := own) (cls := cls) (names := names) (ic := ic) hown' hcls hnames h (fun x hx => nomatch hx) hfX hkX hcellA (by rw [hhp, hT]; exact Nat.le_refl _) (msg := .ref sa) rfl
    (g := { method := m, pc := pc + 7, locals := ls, stack := .ref sa :: .ref T.heap.size :: .ref T.heap.size :: rest, locked := none }) rfl hsize rfl rfl (rest := rest) rfl
    (by rw [hb]; exact d7) (by rw [hb]; exact d10) hout hRframes (by simp only [List.map_cons, List.sum_cons, hcat]; omega) hlocks
  obtain ⟨f1, f2⟩ := vx_frame hsame
  rw [hhp] at f1 f2
  have hWs : s.WarmedH U.vm := State.WarmedH.trans hW0 hW
  have hcl : s.vm.findClass cls = some ce.cls := by
    have h9 := hO.cls
    rw [hvm] at h9
    exact h9
  have hall : s.sameButNew ({ U with vm := s.vm } : State) locs mc ms := by
    subst hA
    obtain ⟨e1, e2⟩ := hsame
    rw [State.setFrames_setFrames] at e1
    have h2 : (T.setVm s.vm).sameButNew ({ U with vm := s.vm } : State) [] (0 + 1) (0 + 6) := ⟨e1, e2⟩
    have h3 := X.same.trans h2
    rw [List.append_nil] at h3
    exact h3.mono hc hs
  refine ⟨U, ?_, .threw T.heap.size, hrun, hend, Or.inr ⟨T.heap.size, rfl, cls, ce, locs, hx U hWs.alike f1 (fun q hq => f2 q hq (fun z hz => nomatch hz)), hce, hO.vm, hcl, hWs, hall, hf⟩⟩
  refine st1 _ ?_
  show Steps p.tables e below (T1.setTop { method := m, pc := pc + 3, locals := ls, stack := .ref T.heap.size :: rest, locked := none }) _
  jvm_step X₁.here [X₁.here.top, hexec, d3', Value.category]
  exact X₁.ldcStringW hexec (own := own) (text := text) (index := is) (a := sa) hown' hstr'.1 hstr'.2
    (g := { method := m, pc := pc + 4, locals := ls, stack := .ref T.heap.size :: .ref T.heap.size :: rest, locked := none }) rfl d4' _ hsteps
end Ends
section Bodies
variable {l : Launch}
theorem vx_ofW {y : MethodName} {ws ws' : List Cond} {rm : Room} {Pc : Array Value → State → Prop} {Qc : Array Value → State → Outcome → State → Prop} {XC : String → State → State → Prop} {mc ms : Nat} {free : Addr → Prop} {cc : ByteArray} {maxL : Nat} {ret : Option FieldType}
    (hy : plainName y.cls = true) (hw : ws = Cond.code y cc maxL ret :: ws')
    (body : ∀ p e s m args below meth c s₁, BodyLoose p l y (headSpec ws rm) cc maxL ret e s m args below meth c s₁ → c.maxLocals = maxL → (∀ x ∈ c.exceptionTable.toList, False) → Pc args s →
      W p l e (headSpec ws rm).room s m args below meth c s.heap [] 0 0 (vx_MQ below Qc XC args s mc ms free) (entryFrame m args maxL)) : vx_Met l y ws rm Pc Qc XC mc ms free := by
  refine MetFree.of_bodyS (code := cc) (maxLocals := maxL) (ret := ret) hy ?_ ?_
  · intro args s m h hn
    obtain ⟨meth, c, h1, h2, h3, h4, h5, h6, -, -⟩ := Cond.code_spec hn (atoms_spec (ws := ws) h _ (by rw [hw]; exact List.mem_cons_self))
    exact ⟨meth, c, h1, h2, h3, h4, h5, h6⟩
  · intro p e s m args below meth c s₁ B hml hP _
    have hh0 : s₁.heap = s.heap := by rw [B.state]; rfl
    have ht : ∀ x ∈ c.exceptionTable.toList, False := by
      obtain ⟨meth9, c9, h1, h2, -, -, -, -, h7, -⟩ := Cond.code_spec B.named (atoms_spec (ws := ws) B.pre _ (by rw [hw]; exact List.mem_cons_self))
      cases Option.some.inj (h1.symm.trans B.method)
      cases Option.some.inj (h2.symm.trans (Stand.of_body B).code)
      intro x hx
      rw [Array.isEmpty_iff.mp h7] at hx
      cases hx
    obtain ⟨t, a1, o, b1, b2, b3⟩ := body p e s m args below meth c s₁ B hml ht hP s₁ hh0 (Stand.of_body B)
    exact ⟨t, o, a1, b1, b2, b3⟩
/-- the table of a body with handlers -/
theorem vx_table {p : Program} {x y : MethodName} {S : Spec} {cc bytes : ByteArray} {maxL maxL' : Nat} {ret ret' : Option FieldType} {e : Env} {s s₁ : State} {m : MethodId} {args : Array Value} {below : List Frame} {meth : Method} {c : Code} {hh : List (Nat × Nat × Nat × Nat)}
    (B : BodyLoose p l y S cc maxL ret e s m args below meth c s₁) (h : (Cond.codeWith y bytes maxL' ret' hh).before args s = true) : c.exceptionTable.toList = tableOf hh := by
  obtain ⟨m9, meth9, c9, hn9, h1, h2, -, -, h6, -⟩ := Cond.codeWith_spec h
  cases Option.some.inj (hn9.symm.trans B.named)
  cases Option.some.inj (h1.symm.trans B.method)
  cases Option.some.inj (h2.symm.trans (Stand.of_body B).code)
  rw [← h6, table_eq]
end Bodies
end VXA
/-! ===== END ===== -/
/-! ===== BEGIN a static call of a method with an exception table ===== -/
section VXS
variable {p : Program} {l : Launch} {e : Env} {R : Room} {s : State} {m : MethodId} {args : Array Value} {below : List Frame} {meth : Method} {c : Code} {T : State} {H : Heap} {locs : List Loc} {cells slots : Nat}
abbrev vx_CSW (R : Room) (s : State) (args : Array Value) (own : String) (index : Nat) (y : MethodName) (bytes : ByteArray) (maxL : Nat) (ret : Option FieldType) (hh : List (Nat × Nat × Nat × Nat)) (ws : List Cond) (rm : Room) (mc ms n : Nat) : Prop :=
  (rm.cells = mc ∧ rm.slots = ms ∧ rm.frames + 1 ≤ R.frames ∧ 8 + (maxL + 11) + rm.locals ≤ R.locals ∧ (∀ w ∈ ws, ∀ (a' : Array Value) (U : State), s.WarmedH U.vm → w.before a' U = true) ∧ Cond.codeWith y bytes maxL ret hh ∈ ws) ∧
  (Cond.codeWith y bytes maxL ret hh).before args s = true ∧ (Cond.initialized y.cls).before args s = true ∧ (y.cls ≠ "java/lang/invoke/MethodHandle" ∧ y.cls ≠ "java/lang/invoke/VarHandle") ∧
  (∀ sig, parseMethodDescriptor y.desc = some sig → n = sig.parameters.length) ∧ (Cond.methodLink own index y).before args s = true ∧ (Cond.static y).before args s = true
theorem vx_cwSW {own : String} {index maxL mc ms : Nat} {y : MethodName} {bytes : ByteArray} {ret : Option FieldType} {hh : List (Nat × Nat × Nat × Nat)} {Ts ws ws' : List Cond} {rm : Room} (n : Nat) (ht : ∀ w ∈ Ts, w.before args s = true) (hT : GoodIn Ts (va_wsS own index y ws)) (hw : ws = Cond.codeWith y bytes maxL ret hh :: ws') (hrc : rm.cells = mc) (hrs : rm.slots = ms)
    (hd : y.cls ≠ "java/lang/invoke/MethodHandle" ∧ y.cls ≠ "java/lang/invoke/VarHandle" ∧ (parseMethodDescriptor y.desc).map (fun d => d.parameters.length) = some n) (hR : rm.frames + 1 ≤ R.frames ∧ 8 + (maxL + 11) + rm.locals ≤ R.locals) :
    vx_CSW R s args own index y bytes maxL ret hh ws rm mc ms n := by
  have ok : ∀ w ∈ va_wsS own index y ws, w.before args s = true := fun w h => ht w (hT w h).1
  have hG : GoodIn Ts ws := fun w h => hT w (by unfold va_wsS; exact List.mem_append_right _ h)
  have hc : Cond.codeWith y bytes maxL ret hh ∈ ws := by rw [hw]; exact List.mem_cons_self
  refine ⟨⟨hrc, hrs, hR.1, hR.2, pay_in ht hG, hc⟩, ht _ (hG _ hc).1, ok _ (by simp [va_wsS]), ⟨hd.1, hd.2.1⟩, fun sig h => ?_, ok _ (by simp [va_wsS]), ok _ (by simp [va_wsS])⟩
  have h2 := hd.2.2
  rw [h] at h2
  exact (Option.some.inj h2).symm
theorem vx_callSW (X : Stand p l e R s m args below meth c T locs cells slots) (hexec : p.tables.exec = Jvm.exec) {own : String} {index : Nat} {y : MethodName} {bytes : ByteArray} {maxL : Nat} {ret : Option FieldType} {hh : List (Nat × Nat × Nat × Nat)}
    (hown : s.vm.findClass own = some m.cls) (hlink : (Cond.methodLink own index y).before args s = true) (hstat : (Cond.static y).before args s = true) (hinit : (Cond.initialized y.cls).before args s = true)
    (hcode : (Cond.codeWith y bytes maxL ret hh).before args s = true) (hy : y.cls ≠ "java/lang/invoke/MethodHandle" ∧ y.cls ≠ "java/lang/invoke/VarHandle")
    {W9 : Nat} {Pre : Pt → Array Value → Prop} {Post : Pt → Array Value → Option Value → Pt → Prop} (hK : Back l R p e below s args y 3 W9 Pre Post)
    {g : JFrame} (hg : g.method = m) (hsize : g.locals.size = c.maxLocals) {argsL rest : List Value} (hlen : ∀ sig, parseMethodDescriptor y.desc = some sig → argsL.length = sig.parameters.length)
    (hstack : g.stack = argsL.reverse ++ rest) (hW : 2 * g.monitorRoom + (rest.map fun v => v.category).sum ≤ W9) (hdg : decode c.code g.pc = .ok (.invokestatic index, 3))
    (hpre : ∀ vm₁, s.WarmedH vm₁ → Pre ⟨T.setVm vm₁, locs, cells, slots⟩ argsL.toArray) :
    ∃ (v : Option Value) (vm₁ : Vm) (B : Pt), s.WarmedH vm₁ ∧ Stand p l e R s m args below meth c B.U B.locs B.cells B.slots ∧ Post ⟨T.setVm vm₁, locs, cells, slots⟩ argsL.toArray v B ∧
      ∀ target, Steps p.tables e below (B.U.setTop { g with pc := g.pc + 3, stack := v.toList ++ rest }) target → Steps p.tables e below (T.setTop g) target := by
  obtain ⟨mk, methM, cM, hnamed, hmethM, -, -, -, -, -, -, hsigM⟩ := Cond.codeWith_spec hcode
  have hstatic : methM.isStatic = true := Cond.static_spec hnamed hmethM hstat
  obtain ⟨kP, hkP, -⟩ := className_of_methodNamed hnamed
  have hinitP : kP.init = .initialized := Cond.initialized_spec (findClass_of_methodNamed hnamed) hkP hinit
  obtain ⟨vm₁, X₁, hstep₁⟩ := X.invokestatic hexec hown hlink hnamed hmethM hstatic hkP hinitP hy (g := g) hg (argsL := argsL) (rest := rest) (hlen _ hsigM) hstack hdg
  obtain ⟨v, B, X', hpost, hsteps⟩ := hK m meth c ⟨T.setVm vm₁, locs, cells, slots⟩ { g with stack := rest } (.invokestatic index) mk argsL.toArray X₁ hg hsize hdg hW (X₁.named hnamed) (hpre vm₁ X₁.warmed)
  exact ⟨v, vm₁, B, X₁.warmed, X', hpost, fun target h => hstep₁ _ fun acts => by rw [doInvoke_state]; exact hsteps.trans h⟩
theorem vx_runSW {y : MethodName} {bytes cc : ByteArray} {maxL nL mc ms n index : Nat} {ret : Option FieldType} {hh : List (Nat × Nat × Nat × Nat)} {ws : List Cond} {rm : Room} {Pc : Array Value → State → Prop} {Qc : Array Value → State → Outcome → State → Prop} {free : Addr → Prop} {Ts : List Cond} {own : String} {As rest : List Value} {g : JFrame}
    (S : CallFix p m c cc nL s args Ts own) (hM : Met l y ws rm Pc Qc mc ms free) (cw : vx_CSW R s args own index y bytes maxL ret hh ws rm mc ms n) (hp : PreS s H Pc As)
    (hg : g.method = m) (hn : As.length = n) (hsize : g.locals.size = nL) (hstack : g.stack = As.reverse ++ rest) (hW : 2 * g.monitorRoom + (rest.map fun v => v.category).sum ≤ 8) (hdg : decode cc g.pc = .ok (.invokestatic index, 3)) (hf : cells + mc ≤ R.cells ∧ slots + ms ≤ R.slots) :
    va_Run p l e R s m args below meth c H locs cells slots mc ms g rest (Qc As.toArray) (free) := by
  obtain ⟨⟨hrc, hrs, hfr, hlo, hws, hcw⟩, hcode, hini, hy, hlen, hl, hstt⟩ := cw
  have hK : Back l R p e below s args y 3 8 (PreOf R mc ms Pc) (PostOf Qc mc ms free) := va_backW (hh := hh) (bytes := bytes) (maxL := maxL) (ret := ret) hM hp.1 hrc hrs hfr hlo hws hcw (fun a' U hW => word_at hW (Or.inl (by first | rfl | simp [Cond.onTables, Cond.keeps, Cond.steady])) hini)
  obtain ⟨hx, hb, hml, ho, -⟩ := S
  intro T hT X
  obtain ⟨v, vm₁, ⟨U', l2, c2, s2⟩, hW₁, X', ⟨g', mk, t, L, e1, e2, hq, h1, hL, h2, h3⟩, st⟩ := vx_callSW X hx (hh := hh) (bytes := bytes) (maxL := maxL) (ret := ret) ho hl hstt hini hcode hy hK hg (hsize.trans hml.symm) (argsL := As) (rest := rest) (fun sig h => hn.trans (hlen sig h)) hstack hW (by rw [hb]; exact hdg)
    (fun vm₁ hW₁ => ⟨hf.1, hf.2, hp.2 (T.setVm vm₁) hT hW₁⟩)
  dsimp only [Pt.U, Pt.locs, Pt.cells, Pt.slots] at X' e1 e2 h1 h2 h3 st
  subst h1; subst h2; subst h3
  exact ⟨v, (T.setVm vm₁).calling g' mk As.toArray, t, U', L, hT, X', hL, e1, e2, hq, st⟩
/-- not caught here, past rows that name other classes: it goes on to the caller -/
theorem vx_outP {p : Program} {l : Launch} {e : Env} {R : Room} {s : State} {m : MethodId} {args : Array Value} {below : List Frame} {meth : Method} {c : Code} {H : Heap} {locs : List Loc} {cells slots : Nat} {free : Addr → Prop} {ls : Array Slot} {rest : List Value} {Qc : Array Value → State → Outcome → State → Prop} {XC : String → State → State → Prop}
    {pc : Nat} {own E : String} {ce : Cell} {q : Addr} {mc ms : Nat} (hown : s.vm.findClass own = some m.cls) (hlocks : meth.locks = false)
    (hpass : ∀ z ∈ c.exceptionTable.toList, covers z pc = false ∨ (z.catchType ≠ 0 ∧ ∃ nm : String, (Cond.classLink own z.catchType nm).before args s = true ∧ va_Nc E nm s)) (hcell : H[q]? = some ce) (hv : ce.vm = .none) (hcl : s.vm.findClass E = some ce.cls)
    (hx : ∀ t : State, t.heap = H → s.vm.Alike t.vm → XC E s t) (hf : ∀ z ∈ locs, free z.base) (hc : cells ≤ mc) (hs : slots ≤ ms) :
    vx_W p l e R s m args below meth c H locs cells slots (vx_MQ below Qc XC args s mc ms free) (F0 m pc ls rest) q := by
  intro T hT X
  have hpl : e.platform.magicAccessors = ({} : Platform).magicAccessors := by rw [X.admits.platform]
  obtain ⟨vm', hW', X', st⟩ := X.outThrough hlocks q (g := F0 m pc ls rest) rfl rfl rfl (cell := ce) (by rw [hT]; exact hcell) (by rw [hv]; rfl)
    (by obtain ⟨k9, h9, -⟩ := Vm.findClass_spec hcl; exact ⟨k9, h9⟩) (fun z hz => by
      rcases hpass z hz with h | ⟨hz0, nm, hl1, hn1⟩
      · exact Or.inl h
      · obtain ⟨c6, hc6, hcl6⟩ := Cond.classLink_spec hown hl1 e.platform hpl
        obtain ⟨a8, b8, h1, h2, h3⟩ := hn1
        cases Option.some.inj (h1.symm.trans hcl)
        cases Option.some.inj (h2.symm.trans hc6)
        exact Or.inr ⟨hz0, _, hcl6, h3⟩)
  obtain ⟨g₀, hfr⟩ := X'.frames_eq
  have hcell9 : ((T.setVm vm').setFrames (.throwing q :: below)).heap[q]? = some ce := by
    show T.heap[q]? = some ce
    rw [hT]; exact hcell
  have hend : Ended ((T.setVm vm').setFrames (.throwing q :: below)) below (.threw q) := State.frames_setFrames _ (State.cur_lt_of_frames hfr)
  refine ⟨(T.setVm vm').setFrames (.throwing q :: below), ?_, .threw q, X'.here.running, hend, Or.inr ⟨q, rfl, E, ce, locs, hx _ hT (X'.ends _).1.alike, hcell9, hv, hcl, (X'.ends _).1, (X'.ends _).2.mono hc hs, hf⟩⟩
  rw [X.pushThrowing_eq]
  exact st
/-- a thing of a world lies in the heap -/
theorem vx_lt {D : va_G} {cl : List vw_C} {ws : va_W} {H1 : Heap} (h : va_P D cl ws H1) {k : Nat} {q : Nat × va_E} (hk : ws[k]? = some q) : q.1 < H1.size := (h k q hk).lt
end VXS
/-! ===== END ===== -/
/-! ===== BEGIN methods with a table of their own: called by a name, returning or throwing ===== -/
section VXH
/-! vx_backW, vx_callVX, vx_callSX, vx_callVW, vx_runVW, vx_runVX, vx_runSX, vx_ofWH follow the same proofs as their sisters above (Free/Laws.lean, Shelf42/LK1.lean); vx_outP calls Shelf42/NT130.lean (outThrough). -/
section
variable {l : Launch} {R : Room} {p : Program} {e : Env} {below : List Frame} {s : State} {sargs : Array Value} {y : MethodName} {len W9 : Nat}
theorem vx_backW {ws : List Cond} {rm : Room} {Pc : Array Value → State → Prop} {Qc : Array Value → State → Outcome → State → Prop} {XC : String → State → State → Prop} {mc ms : Nat} {free : Addr → Prop} {bytes : ByteArray} {maxL : Nat} {ret : Option FieldType} {hh : List (Nat × Nat × Nat × Nat)}
    (hM : vx_Met l y ws rm Pc Qc XC mc ms free) (hblind : FrameBlind Pc) (hrc : rm.cells = mc) (hrs : rm.slots = ms)
    (hframes : rm.frames + 1 ≤ R.frames) (hlocals : W9 + (maxL + 11) + rm.locals ≤ R.locals)
    (hws : ∀ w ∈ ws, ∀ a' U, s.WarmedH U.vm → w.before a' U = true) (hcode : Cond.codeWith y bytes maxL ret hh ∈ ws) (hinit : ∀ a' U, s.WarmedH U.vm → (Cond.initialized y.cls).before a' U = true) :
    vx_Back l R p e below s sargs y len W9 (PreOf R mc ms Pc) (PostOf Qc mc ms free) (vx_Post XC mc ms free) := by
  intro m meth c A g ig mk a X hg hsize hdg hW hn hp
  have h1 : (headSpec ws rm).pre.before a A.U = true := atoms_intro fun w hw => hws w hw _ _ X.warmed
  have h2 : (Cond.codeWith y bytes maxL ret hh).before a A.U = true := hws _ hcode _ _ X.warmed
  have h3 : (Cond.initialized y.cls).before a A.U = true := hinit _ _ X.warmed
  have h4 : A.cells + (headSpec ws rm).room.cells ≤ R.cells := by rw [show (headSpec ws rm).room.cells = mc from hrc]; exact hp.1
  have h5 : A.slots + (headSpec ws rm).room.slots ≤ R.slots := by rw [show (headSpec ws rm).room.slots = ms from hrs]; exact hp.2.1
  have hPc : Pc a (A.U.calling g mk a) := hblind _ _ _ _ hp.2.2
  obtain ⟨U, Ls, c0, s0⟩ := A
  dsimp only [Pt.U, Pt.locs, Pt.cells, Pt.slots] at h1 h2 h3 h4 h5 X hn hPc ⊢
  obtain ⟨m9, methY, cY, hn9, hmY, hcY, -, hlY, -⟩ := Cond.codeWith_spec h2
  cases Option.some.inj (hn9.symm.trans hn)
  obtain ⟨kY, hkY, -⟩ := className_of_methodNamed hn
  have hinitY : kY.init = .initialized := Cond.initialized_spec (findClass_of_methodNamed hn) hkY h3
  have h : At U g.method c below := by rw [hg]; exact X.here
  have hlocals9 : W9 + (maxL + 11) + (headSpec ws rm).room.locals ≤ R.locals := hlocals
  have happ : (headSpec ws rm).appliesLoose y e.platform (U.calling g mk a) = true :=
    Spec.appliesLoose_calling (g := g) h hdg hn hkY hinitY
      (X.room_calling (g := g) (R' := (headSpec ws rm).room) hsize hmY hcY hframes (by rw [hlY]; omega) h4 h5) h1
  obtain ⟨mid, hmid⟩ := h.above
  have hfr : (U.setTop g).frames = (.java g :: mid) ++ below := by rw [State.frames_setTop' g h.top, hmid]; rfl
  obtain ⟨o, s₂, hsteps, -, hend, hq⟩ := Steps.callFree hM p X.admits X.cas X.clock (acts := []) hfr happ hPc trivial
  have hq' : vx_Q Qc XC mc ms free a (U.calling g mk a) o s₂ := hq
  rw [State.frames_setTop' g h.top] at hend
  obtain ⟨g₀, hg0⟩ := Option.isSome_iff_exists.mp h.top
  obtain ⟨r, hr⟩ := State.topJava?_eq_some.mp hg0
  have hr' : (({ U with heap := s₂.heap, slotsUsed := s₂.slotsUsed } : State).setVm s₂.vm).frames = .java g₀ :: r := hr
  rcases hq' with ⟨hqc, L, hfe, hL⟩ | ⟨q, rfl, E, ce, L, hx, hce, hcv, hcl, hW₂, hsm, hL⟩
  · obtain ⟨⟨v, rfl⟩, hW₂, e2, q2, q3, q4, q5, q6⟩ := id hfe
    have e3 : s₂ = ({ (U.calling g mk a).setFrames s₂.frames with heap := s₂.heap, slotsUsed := s₂.slotsUsed } : State).setVm s₂.vm := by
      have : s₂ = ({ s₂ with vm := (U.calling g mk a).vm } : State).setVm s₂.vm := rfl
      rw [e2] at this
      exact this
    obtain ⟨c₂, i₂, len₂, hc₂, hd₂, hf₂⟩ := hend
    have hW' : U.WarmedH s₂.vm := hW₂
    have hcc : c₂ = c := by
      have h1 : s₂.code? g.method = U.code? g.method := by
        rw [State.code?_eq, State.code?_eq, hW'.alike.method?]
      exact Option.some.inj (hc₂.symm.trans (h1.trans h.code))
    subst hcc
    have hlen : len₂ = len := by rw [hdg] at hd₂; cases hd₂; rfl
    subst hlen
    have hs₂ : s₂ = (({ U with heap := s₂.heap, slotsUsed := s₂.slotsUsed } : State).setVm s₂.vm).setTop { g with pc := g.pc + len₂, stack := v.toList ++ g.stack } := by
      refine e3.trans ?_
      rw [hf₂, State.calling_eq h.top, State.setFrames_setFrames, State.setTop_of_frames _ hr', hr]
      rfl
    have hsame : U.sameButNew ({ U with heap := s₂.heap, slotsUsed := s₂.slotsUsed } : State) L mc ms := by
      refine ⟨?_, q2, q3, q4, q5, q6⟩
      obtain ⟨t, ht, -⟩ := State.frames_cons hr
      show ({ U with heap := s₂.heap, slotsUsed := s₂.slotsUsed } : State) = { U.setFrames U.frames with heap := s₂.heap, slotsUsed := s₂.slotsUsed }
      rw [State.setFrames_self ht]
    subst hg
    refine Or.inl ⟨v, ⟨(({ U with heap := s₂.heap, slotsUsed := s₂.slotsUsed } : State).setVm s₂.vm), Ls ++ L, c0 + mc, s0 + ms⟩,
      ⟨X.admits, X.cas, X.clock, X.frames, X.room, X.hears, X.method, X.code, (X.here.setHeapUsed s₂.heap s₂.slotsUsed).setVm hW'.alike, X.tail, State.WarmedH.trans X.warmed hW', X.limits, X.bytes, X.same.trans (hsame.setVm s.vm)⟩,
      ⟨g, mk, s₂, L, rfl, rfl, hqc, rfl, hL, rfl, rfl⟩, ?_⟩
    show Steps p.tables e below _ ((({ U with heap := s₂.heap, slotsUsed := s₂.slotsUsed } : State).setVm s₂.vm).setTop { g with pc := g.pc + len₂, stack := v.toList ++ g.stack })
    rw [← hs₂]
    exact hsteps
  · obtain ⟨e2, q2, q3, q4, q5, q6⟩ := id hsm
    have e3 : s₂ = ({ (U.calling g mk a).setFrames s₂.frames with heap := s₂.heap, slotsUsed := s₂.slotsUsed } : State).setVm s₂.vm := by
      have : s₂ = ({ s₂ with vm := (U.calling g mk a).vm } : State).setVm s₂.vm := rfl
      rw [e2] at this
      exact this
    have hf₂ : s₂.frames = .throwing q :: .java g :: U.frames.tail := hend
    have hW' : U.WarmedH s₂.vm := hW₂
    have hs₂ : s₂ = ((({ U with heap := s₂.heap, slotsUsed := s₂.slotsUsed } : State).setVm s₂.vm).setTop g).pushFrame (.throwing q) := by
      refine e3.trans ?_
      rw [hf₂, State.calling_eq h.top, State.setFrames_setFrames, State.pushFrame, State.frames_setTop _ hr', State.setTop_of_frames _ hr', State.setFrames_setFrames, hr]
      rfl
    have hsame : U.sameButNew ({ U with heap := s₂.heap, slotsUsed := s₂.slotsUsed } : State) L mc ms := by
      refine ⟨?_, q2, q3, q4, q5, q6⟩
      obtain ⟨t, ht, -⟩ := State.frames_cons hr
      show ({ U with heap := s₂.heap, slotsUsed := s₂.slotsUsed } : State) = { U.setFrames U.frames with heap := s₂.heap, slotsUsed := s₂.slotsUsed }
      rw [State.setFrames_self ht]
    subst hg
    refine Or.inr ⟨q, ⟨(({ U with heap := s₂.heap, slotsUsed := s₂.slotsUsed } : State).setVm s₂.vm), Ls ++ L, c0 + mc, s0 + ms⟩,
      ⟨X.admits, X.cas, X.clock, X.frames, X.room, X.hears, X.method, X.code, (X.here.setHeapUsed s₂.heap s₂.slotsUsed).setVm hW'.alike, X.tail, State.WarmedH.trans X.warmed hW', X.limits, X.bytes, X.same.trans (hsame.setVm s.vm)⟩,
      ⟨g, mk, s₂, L, E, ce, rfl, rfl, hx, hce, hcv, hcl, rfl, hL, rfl, rfl⟩, ?_⟩
    show Steps p.tables e below _ (((({ U with heap := s₂.heap, slotsUsed := s₂.slotsUsed } : State).setVm s₂.vm).setTop g).pushFrame (.throwing q))
    rw [← hs₂]
    exact hsteps
end
variable {p : Program} {l : Launch} {e : Env} {R : Room} {s : State} {m : MethodId} {args : Array Value} {below : List Frame} {meth : Method} {c : Code} {T : State} {H : Heap} {locs : List Loc} {cells slots : Nat}
theorem vx_callVX (X : Stand p l e R s m args below meth c T locs cells slots) (hexec : p.tables.exec = Jvm.exec) {own C : String} {index : Nat} {y : MethodName} {bytes : ByteArray} {maxL : Nat} {ret : Option FieldType} {hh : List (Nat × Nat × Nat × Nat)}
    (hown : s.vm.findClass own = some m.cls) (hlink : (Cond.methodLink own index y).before args s = true) (hinst : (Cond.instanceMethod y).before args s = true) (hsel : (Cond.selects C y y).before args s = true)
    (hcode : (Cond.codeWith y bytes maxL ret hh).before args s = true) (hy : y.cls ≠ "java/lang/invoke/MethodHandle" ∧ y.cls ≠ "java/lang/invoke/VarHandle")
    {W9 : Nat} {Pre : Pt → Array Value → Prop} {Post : Pt → Array Value → Option Value → Pt → Prop} {PostX : Pt → Array Value → Addr → Pt → Prop} (hK : vx_Back l R p e below s args y 3 W9 Pre Post PostX)
    {b : Addr} {cellB : Cell} (hcell : T.heap[b]? = some cellB) (hobj : cellB.vm.isStatics = false) (hcls : s.vm.findClass C = some cellB.cls)
    {g : JFrame} (hg : g.method = m) (hsize : g.locals.size = c.maxLocals) {argsL rest : List Value} (hlen : ∀ sig, parseMethodDescriptor y.desc = some sig → argsL.length = sig.parameters.length)
    (hstack : g.stack = argsL.reverse ++ .ref b :: rest) (hW : 2 * g.monitorRoom + (rest.map fun v => v.category).sum ≤ W9) (hdg : decode c.code g.pc = .ok (.invokevirtual index, 3))
    (hpre : ∀ vm₁, s.WarmedH vm₁ → Pre ⟨T.setVm vm₁, locs, cells, slots⟩ (Value.ref b :: argsL).toArray) :
    (∃ (v : Option Value) (vm₁ : Vm) (B : Pt), s.WarmedH vm₁ ∧ Stand p l e R s m args below meth c B.U B.locs B.cells B.slots ∧ Post ⟨T.setVm vm₁, locs, cells, slots⟩ (Value.ref b :: argsL).toArray v B ∧
      ∀ target, Steps p.tables e below (B.U.setTop { g with pc := g.pc + 3, stack := v.toList ++ rest }) target → Steps p.tables e below (T.setTop g) target) ∨
    (∃ (q : Addr) (vm₁ : Vm) (B : Pt), s.WarmedH vm₁ ∧ Stand p l e R s m args below meth c B.U B.locs B.cells B.slots ∧ PostX ⟨T.setVm vm₁, locs, cells, slots⟩ (Value.ref b :: argsL).toArray q B ∧
      Steps p.tables e below (T.setTop g) ((B.U.setTop { g with stack := rest }).pushFrame (.throwing q))) := by
  obtain ⟨mk, methM, hnamed, hmethM, hstM, habM⟩ := Cond.instanceMethod_spec hinst
  obtain ⟨m8, methM', cM, hn8, hmethM', -, -, -, -, -, -, hsigM⟩ := Cond.codeWith_spec hcode
  cases Option.some.inj (hn8.symm.trans hnamed)
  cases hmethM.symm.trans hmethM'
  obtain ⟨c2, r2, m2, q1, q2, q3, q4, kP, hkP, hkPi⟩ := Cond.selects_spec hsel
  cases hcls.symm.trans q1
  cases (State.methodFound?_of_named hnamed hy).symm.trans q2
  cases hnamed.symm.trans q3
  have hselP : selectMethod e.platform s.vm cellB.cls mk = .method mk := by rw [Launch.admits_selectMethod X.admits]; exact q4
  obtain ⟨vm₁, X₁, hstep₁⟩ := X.invokevirtual hexec hown hlink hnamed hmethM hstM hkP hkPi hy (a := b) (cell := cellB) hcell
    (fun z h => by rw [h] at hobj; cases hobj) hselP hmethM habM hkP hkPi (g := g) hg (argsL := argsL) (rest := rest) (hlen _ hsigM) hstack hdg
  rcases hK m meth c ⟨T.setVm vm₁, locs, cells, slots⟩ { g with stack := rest } (.invokevirtual index) mk (Value.ref b :: argsL).toArray X₁ hg hsize hdg hW (X₁.named hnamed) (hpre vm₁ X₁.warmed) with ⟨v, B, X', hpost, hsteps⟩ | ⟨q, B, X', hpost, hsteps⟩
  · exact Or.inl ⟨v, vm₁, B, X₁.warmed, X', hpost, fun target h => hstep₁ _ fun acts => by rw [doInvoke_state]; exact hsteps.trans h⟩
  · exact Or.inr ⟨q, vm₁, B, X₁.warmed, X', hpost, hstep₁ _ fun acts => by rw [doInvoke_state]; exact hsteps⟩
theorem vx_callSX (X : Stand p l e R s m args below meth c T locs cells slots) (hexec : p.tables.exec = Jvm.exec) {own : String} {index : Nat} {y : MethodName} {bytes : ByteArray} {maxL : Nat} {ret : Option FieldType} {hh : List (Nat × Nat × Nat × Nat)}
    (hown : s.vm.findClass own = some m.cls) (hlink : (Cond.methodLink own index y).before args s = true) (hstat : (Cond.static y).before args s = true) (hinit : (Cond.initialized y.cls).before args s = true)
    (hcode : (Cond.codeWith y bytes maxL ret hh).before args s = true) (hy : y.cls ≠ "java/lang/invoke/MethodHandle" ∧ y.cls ≠ "java/lang/invoke/VarHandle")
    {W9 : Nat} {Pre : Pt → Array Value → Prop} {Post : Pt → Array Value → Option Value → Pt → Prop} {PostX : Pt → Array Value → Addr → Pt → Prop} (hK : vx_Back l R p e below s args y 3 W9 Pre Post PostX)
    {g : JFrame} (hg : g.method = m) (hsize : g.locals.size = c.maxLocals) {argsL rest : List Value} (hlen : ∀ sig, parseMethodDescriptor y.desc = some sig → argsL.length = sig.parameters.length)
    (hstack : g.stack = argsL.reverse ++ rest) (hW : 2 * g.monitorRoom + (rest.map fun v => v.category).sum ≤ W9) (hdg : decode c.code g.pc = .ok (.invokestatic index, 3))
    (hpre : ∀ vm₁, s.WarmedH vm₁ → Pre ⟨T.setVm vm₁, locs, cells, slots⟩ argsL.toArray) :
    (∃ (v : Option Value) (vm₁ : Vm) (B : Pt), s.WarmedH vm₁ ∧ Stand p l e R s m args below meth c B.U B.locs B.cells B.slots ∧ Post ⟨T.setVm vm₁, locs, cells, slots⟩ argsL.toArray v B ∧
      ∀ target, Steps p.tables e below (B.U.setTop { g with pc := g.pc + 3, stack := v.toList ++ rest }) target → Steps p.tables e below (T.setTop g) target) ∨
    (∃ (q : Addr) (vm₁ : Vm) (B : Pt), s.WarmedH vm₁ ∧ Stand p l e R s m args below meth c B.U B.locs B.cells B.slots ∧ PostX ⟨T.setVm vm₁, locs, cells, slots⟩ argsL.toArray q B ∧
      Steps p.tables e below (T.setTop g) ((B.U.setTop { g with stack := rest }).pushFrame (.throwing q))) := by
  obtain ⟨mk, methM, cM, hnamed, hmethM, -, -, -, -, -, -, hsigM⟩ := Cond.codeWith_spec hcode
  have hstatic : methM.isStatic = true := Cond.static_spec hnamed hmethM hstat
  obtain ⟨kP, hkP, -⟩ := className_of_methodNamed hnamed
  have hinitP : kP.init = .initialized := Cond.initialized_spec (findClass_of_methodNamed hnamed) hkP hinit
  obtain ⟨vm₁, X₁, hstep₁⟩ := X.invokestatic hexec hown hlink hnamed hmethM hstatic hkP hinitP hy (g := g) hg (argsL := argsL) (rest := rest) (hlen _ hsigM) hstack hdg
  rcases hK m meth c ⟨T.setVm vm₁, locs, cells, slots⟩ { g with stack := rest } (.invokestatic index) mk argsL.toArray X₁ hg hsize hdg hW (X₁.named hnamed) (hpre vm₁ X₁.warmed) with ⟨v, B, X', hpost, hsteps⟩ | ⟨q, B, X', hpost, hsteps⟩
  · exact Or.inl ⟨v, vm₁, B, X₁.warmed, X', hpost, fun target h => hstep₁ _ fun acts => by rw [doInvoke_state]; exact hsteps.trans h⟩
  · exact Or.inr ⟨q, vm₁, B, X₁.warmed, X', hpost, hstep₁ _ fun acts => by rw [doInvoke_state]; exact hsteps⟩
theorem vx_callVW (X : Stand p l e R s m args below meth c T locs cells slots) (hexec : p.tables.exec = Jvm.exec) {own C : String} {index : Nat} {y : MethodName} {bytes : ByteArray} {maxL : Nat} {ret : Option FieldType} {hh : List (Nat × Nat × Nat × Nat)}
    (hown : s.vm.findClass own = some m.cls) (hlink : (Cond.methodLink own index y).before args s = true) (hinst : (Cond.instanceMethod y).before args s = true) (hsel : (Cond.selects C y y).before args s = true)
    (hcode : (Cond.codeWith y bytes maxL ret hh).before args s = true) (hy : y.cls ≠ "java/lang/invoke/MethodHandle" ∧ y.cls ≠ "java/lang/invoke/VarHandle")
    {W9 : Nat} {Pre : Pt → Array Value → Prop} {Post : Pt → Array Value → Option Value → Pt → Prop} (hK : Back l R p e below s args y 3 W9 Pre Post)
    {b : Addr} {cellB : Cell} (hcell : T.heap[b]? = some cellB) (hobj : cellB.vm.isStatics = false) (hcls : s.vm.findClass C = some cellB.cls)
    {g : JFrame} (hg : g.method = m) (hsize : g.locals.size = c.maxLocals) {argsL rest : List Value} (hlen : ∀ sig, parseMethodDescriptor y.desc = some sig → argsL.length = sig.parameters.length)
    (hstack : g.stack = argsL.reverse ++ .ref b :: rest) (hW : 2 * g.monitorRoom + (rest.map fun v => v.category).sum ≤ W9) (hdg : decode c.code g.pc = .ok (.invokevirtual index, 3))
    (hpre : ∀ vm₁, s.WarmedH vm₁ → Pre ⟨T.setVm vm₁, locs, cells, slots⟩ (Value.ref b :: argsL).toArray) :
    ∃ (v : Option Value) (vm₁ : Vm) (B : Pt), s.WarmedH vm₁ ∧ Stand p l e R s m args below meth c B.U B.locs B.cells B.slots ∧ Post ⟨T.setVm vm₁, locs, cells, slots⟩ (Value.ref b :: argsL).toArray v B ∧
      ∀ target, Steps p.tables e below (B.U.setTop { g with pc := g.pc + 3, stack := v.toList ++ rest }) target → Steps p.tables e below (T.setTop g) target := by
  obtain ⟨mk, methM, hnamed, hmethM, hstM, habM⟩ := Cond.instanceMethod_spec hinst
  obtain ⟨m8, methM', cM, hn8, hmethM', -, -, -, -, -, -, hsigM⟩ := Cond.codeWith_spec hcode
  cases Option.some.inj (hn8.symm.trans hnamed)
  cases hmethM.symm.trans hmethM'
  obtain ⟨c2, r2, m2, q1, q2, q3, q4, kP, hkP, hkPi⟩ := Cond.selects_spec hsel
  cases hcls.symm.trans q1
  cases (State.methodFound?_of_named hnamed hy).symm.trans q2
  cases hnamed.symm.trans q3
  have hselP : selectMethod e.platform s.vm cellB.cls mk = .method mk := by rw [Launch.admits_selectMethod X.admits]; exact q4
  obtain ⟨vm₁, X₁, hstep₁⟩ := X.invokevirtual hexec hown hlink hnamed hmethM hstM hkP hkPi hy (a := b) (cell := cellB) hcell
    (fun z h => by rw [h] at hobj; cases hobj) hselP hmethM habM hkP hkPi (g := g) hg (argsL := argsL) (rest := rest) (hlen _ hsigM) hstack hdg
  obtain ⟨v, B, X', hpost, hsteps⟩ := hK m meth c ⟨T.setVm vm₁, locs, cells, slots⟩ { g with stack := rest } (.invokevirtual index) mk (Value.ref b :: argsL).toArray X₁ hg hsize hdg hW (X₁.named hnamed) (hpre vm₁ X₁.warmed)
  exact ⟨v, vm₁, B, X₁.warmed, X', hpost, fun target h => hstep₁ _ fun acts => by rw [doInvoke_state]; exact hsteps.trans h⟩
abbrev vx_CVW (R : Room) (s : State) (args : Array Value) (own C : String) (index : Nat) (y : MethodName) (bytes : ByteArray) (maxL : Nat) (ret : Option FieldType) (hh : List (Nat × Nat × Nat × Nat)) (ws : List Cond) (rm : Room) (mc ms n : Nat) : Prop :=
  (rm.cells = mc ∧ rm.slots = ms ∧ rm.frames + 1 ≤ R.frames ∧ 8 + (maxL + 11) + rm.locals ≤ R.locals ∧ (∀ w ∈ ws, ∀ (a' : Array Value) (U : State), s.WarmedH U.vm → w.before a' U = true) ∧ Cond.codeWith y bytes maxL ret hh ∈ ws) ∧
  (Cond.codeWith y bytes maxL ret hh).before args s = true ∧ (Cond.initialized y.cls).before args s = true ∧ (y.cls ≠ "java/lang/invoke/MethodHandle" ∧ y.cls ≠ "java/lang/invoke/VarHandle") ∧
  (∀ sig, parseMethodDescriptor y.desc = some sig → n = sig.parameters.length) ∧ (Cond.methodLink own index y).before args s = true ∧ (Cond.instanceMethod y).before args s = true ∧ (Cond.selects C y y).before args s = true
theorem vx_cwVW {own C : String} {index maxL mc ms : Nat} {y : MethodName} {bytes : ByteArray} {ret : Option FieldType} {hh : List (Nat × Nat × Nat × Nat)} {Ts ws ws' : List Cond} {rm : Room} (n : Nat) (ht : ∀ w ∈ Ts, w.before args s = true) (hT : GoodIn Ts (wsV own index C y ws)) (hw : ws = Cond.codeWith y bytes maxL ret hh :: ws') (hrc : rm.cells = mc) (hrs : rm.slots = ms)
    (hd : y.cls = C ∧ y.cls ≠ "java/lang/invoke/MethodHandle" ∧ y.cls ≠ "java/lang/invoke/VarHandle" ∧ (parseMethodDescriptor y.desc).map (fun d => d.parameters.length) = some n) (hR : rm.frames + 1 ≤ R.frames ∧ 8 + (maxL + 11) + rm.locals ≤ R.locals) :
    vx_CVW R s args own C index y bytes maxL ret hh ws rm mc ms n := by
  obtain ⟨hC, hd⟩ := hd
  subst hC
  have ok : ∀ w ∈ wsV own index y.cls y ws, w.before args s = true := fun w h => ht w (hT w h).1
  have hG : GoodIn Ts ws := fun w h => hT w (by unfold wsV; exact List.mem_append_right _ h)
  have hc : Cond.codeWith y bytes maxL ret hh ∈ ws := by rw [hw]; exact List.mem_cons_self
  refine ⟨⟨hrc, hrs, hR.1, hR.2, pay_in ht hG, hc⟩, ht _ (hG _ hc).1, ok _ (by simp [wsV]), ⟨hd.1, hd.2.1⟩, fun sig h => ?_, ok _ (by simp [wsV]), ok _ (by simp [wsV]), ok _ (by simp [wsV])⟩
  have h2 := hd.2.2
  rw [h] at h2
  exact (Option.some.inj h2).symm
theorem vx_runVW {y : MethodName} {bytes cc : ByteArray} {maxL nL mc ms n index : Nat} {ret : Option FieldType} {hh : List (Nat × Nat × Nat × Nat)} {ws : List Cond} {rm : Room} {Pc : Array Value → State → Prop} {Qc : Array Value → State → Outcome → State → Prop} {free : Addr → Prop} {Ts : List Cond} {own C : String} {b : Addr} {As rest : List Value} {g : JFrame}
    (S : CallFix p m c cc nL s args Ts own) (hM : Met l y ws rm Pc Qc mc ms free) (cw : vx_CVW R s args own C index y bytes maxL ret hh ws rm mc ms n) (hp : PreV s H C b Pc As)
    (hg : g.method = m) (hn : As.length = n) (hsize : g.locals.size = nL) (hstack : g.stack = As.reverse ++ .ref b :: rest) (hW : 2 * g.monitorRoom + (rest.map fun v => v.category).sum ≤ 8) (hdg : decode cc g.pc = .ok (.invokevirtual index, 3)) (hf : cells + mc ≤ R.cells ∧ slots + ms ≤ R.slots) :
    va_Run p l e R s m args below meth c H locs cells slots mc ms g rest (Qc (Value.ref b :: As).toArray) free := by
  obtain ⟨⟨hrc, hrs, hfr, hlo, hws, hcw⟩, hcode, hini, hy, hlen, hl, hin, hse⟩ := cw
  have hK : Back l R p e below s args y 3 8 (PreOf R mc ms Pc) (PostOf Qc mc ms free) := va_backW (hh := hh) (bytes := bytes) (maxL := maxL) (ret := ret) hM hp.1 hrc hrs hfr hlo hws hcw (fun a' U hW => word_at hW (Or.inl (by first | rfl | simp [Cond.onTables, Cond.keeps, Cond.steady])) hini)
  obtain ⟨hx, hb, hml, ho, -⟩ := S
  obtain ⟨-, ⟨cellB, hcB, hoB, hclB⟩, hPc⟩ := hp
  intro T hT X
  obtain ⟨v, vm₁, ⟨U', l2, c2, s2⟩, hW₁, X', ⟨g', mk, t, L, e1, e2, hq, h1, hL, h2, h3⟩, st⟩ := vx_callVW X hx (C := C) (hh := hh) (bytes := bytes) (maxL := maxL) (ret := ret) ho hl hin hse hcode hy hK (by rw [hT]; exact hcB) hoB hclB hg (hsize.trans hml.symm) (argsL := As) (rest := rest) (fun sig h => hn.trans (hlen sig h)) hstack hW (by rw [hb]; exact hdg)
    (fun vm₁ hW₁ => ⟨hf.1, hf.2, hPc (T.setVm vm₁) hT hW₁⟩)
  dsimp only [Pt.U, Pt.locs, Pt.cells, Pt.slots] at X' e1 e2 h1 h2 h3 st
  subst h1; subst h2; subst h3
  exact ⟨v, (T.setVm vm₁).calling g' mk (Value.ref b :: As).toArray, t, U', L, hT, X', hL, e1, e2, hq, st⟩
section
variable {y : MethodName} {bytes cc : ByteArray} {maxL nL mc ms n index : Nat} {ret : Option FieldType} {ws : List Cond} {rm : Room} {Pc : Array Value → State → Prop} {Qc : Array Value → State → Outcome → State → Prop} {XC : String → State → State → Prop} {free : Addr → Prop} {Ts : List Cond} {own C : String} {b : Addr} {As rest : List Value} {g : JFrame}
theorem vx_runVX {hh : List (Nat × Nat × Nat × Nat)} (S : CallFix p m c cc nL s args Ts own) (hM : vx_Met l y ws rm Pc Qc XC mc ms free) (cw : vx_CVW R s args own C index y bytes maxL ret hh ws rm mc ms n) (hp : PreV s H C b Pc As)
    (hg : g.method = m) (hn : As.length = n) (hsize : g.locals.size = nL) (hstack : g.stack = As.reverse ++ .ref b :: rest) (hW : 2 * g.monitorRoom + (rest.map fun v => v.category).sum ≤ 8) (hdg : decode cc g.pc = .ok (.invokevirtual index, 3)) (hf : cells + mc ≤ R.cells ∧ slots + ms ≤ R.slots) :
    vx_Run p l e R s m args below meth c H locs cells slots mc ms g rest (Qc (Value.ref b :: As).toArray) XC free := by
  obtain ⟨⟨hrc, hrs, hfr, hlo, hws, hcw⟩, hcode, hini, hy, hlen, hl, hin, hse⟩ := cw
  have hK : vx_Back l R p e below s args y 3 8 (PreOf R mc ms Pc) (PostOf Qc mc ms free) (vx_Post XC mc ms free) := vx_backW (hh := hh) (bytes := bytes) (maxL := maxL) (ret := ret) hM hp.1 hrc hrs hfr hlo hws hcw (fun a' U hW => word_at hW (Or.inl (by first | rfl | simp [Cond.onTables, Cond.keeps, Cond.steady])) hini)
  obtain ⟨hx, hb, hml, ho, -⟩ := S
  obtain ⟨-, ⟨cellB, hcB, hoB, hclB⟩, hPc⟩ := hp
  intro T hT X
  rcases vx_callVX X hx (C := C) (hh := hh) (bytes := bytes) (maxL := maxL) (ret := ret) ho hl hin hse hcode hy hK (by rw [hT]; exact hcB) hoB hclB hg (hsize.trans hml.symm) (argsL := As) (rest := rest) (fun sig h => hn.trans (hlen sig h)) hstack hW (by rw [hb]; exact hdg)
    (fun vm₁ hW₁ => ⟨hf.1, hf.2, hPc (T.setVm vm₁) hT hW₁⟩) with ⟨v, vm₁, ⟨U', l2, c2, s2⟩, hW₁, X', ⟨g', mk, t, L, e1, e2, hq, h1, hL, h2, h3⟩, st⟩ | ⟨q, vm₁, ⟨U', l2, c2, s2⟩, hW₁, X', ⟨g', mk, t, L, E, ce, e1, e2, hq, hce, hcv, hcl, h1, hL, h2, h3⟩, st⟩
  · dsimp only [Pt.U, Pt.locs, Pt.cells, Pt.slots] at X' e1 e2 h1 h2 h3 st
    subst h1; subst h2; subst h3
    exact Or.inl ⟨v, (T.setVm vm₁).calling g' mk (Value.ref b :: As).toArray, t, U', L, hT, X', hL, e1, e2, hq, st⟩
  · dsimp only [Pt.U, Pt.locs, Pt.cells, Pt.slots] at X' e1 e2 h1 h2 h3 st hcl
    subst h1; subst h2; subst h3
    exact Or.inr ⟨q, (T.setVm vm₁).calling g' mk (Value.ref b :: As).toArray, t, U', L, E, ce, hT, X', hL, e1, e2, hq, hce, hcv, vx_cls hW₁ hcl, st⟩
theorem vx_runSX {hh : List (Nat × Nat × Nat × Nat)} (S : CallFix p m c cc nL s args Ts own) (hM : vx_Met l y ws rm Pc Qc XC mc ms free) (cw : vx_CSW R s args own index y bytes maxL ret hh ws rm mc ms n) (hp : PreS s H Pc As)
    (hg : g.method = m) (hn : As.length = n) (hsize : g.locals.size = nL) (hstack : g.stack = As.reverse ++ rest) (hW : 2 * g.monitorRoom + (rest.map fun v => v.category).sum ≤ 8) (hdg : decode cc g.pc = .ok (.invokestatic index, 3)) (hf : cells + mc ≤ R.cells ∧ slots + ms ≤ R.slots) :
    vx_Run p l e R s m args below meth c H locs cells slots mc ms g rest (Qc As.toArray) XC free := by
  obtain ⟨⟨hrc, hrs, hfr, hlo, hws, hcw⟩, hcode, hini, hy, hlen, hl, hstt⟩ := cw
  have hK : vx_Back l R p e below s args y 3 8 (PreOf R mc ms Pc) (PostOf Qc mc ms free) (vx_Post XC mc ms free) := vx_backW (hh := hh) (bytes := bytes) (maxL := maxL) (ret := ret) hM hp.1 hrc hrs hfr hlo hws hcw (fun a' U hW => word_at hW (Or.inl (by first | rfl | simp [Cond.onTables, Cond.keeps, Cond.steady])) hini)
  obtain ⟨hx, hb, hml, ho, -⟩ := S
  intro T hT X
  rcases vx_callSX X hx (hh := hh) (bytes := bytes) (maxL := maxL) (ret := ret) ho hl hstt hini hcode hy hK hg (hsize.trans hml.symm) (argsL := As) (rest := rest) (fun sig h => hn.trans (hlen sig h)) hstack hW (by rw [hb]; exact hdg)
    (fun vm₁ hW₁ => ⟨hf.1, hf.2, hp.2 (T.setVm vm₁) hT hW₁⟩) with ⟨v, vm₁, ⟨U', l2, c2, s2⟩, hW₁, X', ⟨g', mk, t, L, e1, e2, hq, h1, hL, h2, h3⟩, st⟩ | ⟨q, vm₁, ⟨U', l2, c2, s2⟩, hW₁, X', ⟨g', mk, t, L, E, ce, e1, e2, hq, hce, hcv, hcl, h1, hL, h2, h3⟩, st⟩
  · dsimp only [Pt.U, Pt.locs, Pt.cells, Pt.slots] at X' e1 e2 h1 h2 h3 st
    subst h1; subst h2; subst h3
    exact Or.inl ⟨v, (T.setVm vm₁).calling g' mk As.toArray, t, U', L, hT, X', hL, e1, e2, hq, st⟩
  · dsimp only [Pt.U, Pt.locs, Pt.cells, Pt.slots] at X' e1 e2 h1 h2 h3 st hcl
    subst h1; subst h2; subst h3
    exact Or.inr ⟨q, (T.setVm vm₁).calling g' mk As.toArray, t, U', L, E, ce, hT, X', hL, e1, e2, hq, hce, hcv, vx_cls hW₁ hcl, st⟩
end
end VXH
theorem vx_ofWH {l : Launch} {y : MethodName} {ws ws' : List Cond} {rm : Room} {Pc : Array Value → State → Prop} {Qc : Array Value → State → Outcome → State → Prop} {XC : String → State → State → Prop} {mc ms : Nat} {free : Addr → Prop} {cc : ByteArray} {maxL : Nat} {ret : Option FieldType} {hh : List (Nat × Nat × Nat × Nat)}
    (hy : plainName y.cls = true) (hw : ws = Cond.codeWith y cc maxL ret hh :: ws')
    (body : ∀ p e s m args below meth c s₁, BodyLoose p l y (headSpec ws rm) cc maxL ret e s m args below meth c s₁ → c.maxLocals = maxL → Pc args s →
      W p l e (headSpec ws rm).room s m args below meth c s.heap [] 0 0 (vx_MQ below Qc XC args s mc ms free) (entryFrame m args maxL)) : vx_Met l y ws rm Pc Qc XC mc ms free := by
  refine MetFree.of_bodyS (code := cc) (maxLocals := maxL) (ret := ret) hy ?_ ?_
  · intro args s m h hn
    obtain ⟨m9, meth, c, hn9, h1, h2, h3, h4, -, h5, h6, -⟩ := Cond.codeWith_spec (atoms_spec (ws := ws) h _ (by rw [hw]; exact List.mem_cons_self))
    cases hn.symm.trans hn9
    exact ⟨meth, c, h1, h2, h3, h4, h5, h6⟩
  · intro p e s m args below meth c s₁ B hml hP _
    have hh0 : s₁.heap = s.heap := by rw [B.state]; rfl
    obtain ⟨t, a1, o, b1, b2, b3⟩ := body p e s m args below meth c s₁ B hml hP s₁ hh0 (Stand.of_body B)
    exact ⟨t, o, a1, b1, b2, b3⟩
/-! ===== END ===== -/
end
section
/-! ===== BEGIN printed: names, fields, word lists, decode rows ===== -/
def RX0 : String := "LodgeProofs"
def TX0 : u_T := fun k => match k with
  | 0 => ("LodgeProofs", "taken", "[Z", true)
  | 1 => ("LodgeProofs", "lemmas", "I", false)
  | 2 => ("LodgeProofs", "proofs", "[I", true)
  | 3 => ("LodgeProofs", "steps", "[I", true)
  | 4 => ("LodgeProofs", "kinds", "[I", true)
  | 5 => ("LodgeProofs", "cited", "[I", true)
  | 6 => ("LodgeProofs", "open", "[I", true)
  | 7 => ("LodgeProofs", "withdrawn", "[Z", true)
  | 8 => ("LodgeProofs", "proved", "I", false)
  | 9 => ("LodgeProofs", "stages", "[I", true)
  | 10 => ("LodgeProofs", "lengths", "[I", true)
  | 11 => ("LodgeProofs", "prices", "[I", true)
  | 12 => ("LodgeProofs", "leads", "[I", true)
  | 13 => ("LodgeProofs", "circles", "[I", true)
  | _ => ("LodgeProofs", "trial", "[I", true)
def tyX0 : Nat → FieldType := fun k => match k with
  | 0 => .array .boolean
  | 1 => .int
  | 2 => .array .int
  | 3 => .array .int
  | 4 => .array .int
  | 5 => .array .int
  | 6 => .array .int
  | 7 => .array .boolean
  | 8 => .int
  | 9 => .array .int
  | 10 => .array .int
  | 11 => .array .int
  | 12 => .array .int
  | 13 => .array .int
  | _ => .array .int
abbrev wsX00 : List Cond := u_ws RX0 TX0 15
theorem nmX0 : ∀ a, a < 15 → ∀ b, b < 15 → a ≠ b → (TX0 a).2.1 ≠ (TX0 b).2.1 := by decide +kernel
theorem tyX0_ok : ∀ k, k < 15 → parseFieldDescriptor (TX0 k).2.2.1 = some (tyX0 k) := by decide +kernel
abbrev cX0_init : ByteArray := prog_1_method_1_code
def yX0_init : MethodName := ⟨RX0, "<init>", "()V"⟩
abbrev cX0_take : ByteArray := prog_1_method_2_code
def yX0_take : MethodName := ⟨RX0, "take", "(IZ)Z"⟩
abbrev cX0_lemma : ByteArray := prog_1_method_3_code
def yX0_lemma : MethodName := ⟨RX0, "lemma", "()I"⟩
abbrev cX0_proof : ByteArray := prog_1_method_4_code
def yX0_proof : MethodName := ⟨RX0, "proof", "(I)I"⟩
abbrev cX0_cite : ByteArray := prog_1_method_5_code
def yX0_cite : MethodName := ⟨RX0, "cite", "(IIII)I"⟩
abbrev cX0_patch : ByteArray := prog_1_method_6_code
def yX0_patch : MethodName := ⟨RX0, "patch", "(IIII)I"⟩
abbrev cX0_withdraw : ByteArray := prog_1_method_7_code
def yX0_withdraw : MethodName := ⟨RX0, "withdraw", "(III)Z"⟩
abbrev cX0_strike : ByteArray := prog_1_method_8_code
def yX0_strike : MethodName := ⟨RX0, "strike", "(II)I"⟩
abbrev cX0_told : ByteArray := prog_1_method_9_code
def yX0_told : MethodName := ⟨RX0, "told", "(II)I"⟩
abbrev cX0_step : ByteArray := prog_1_method_10_code
def yX0_step : MethodName := ⟨RX0, "step", "(IIII)I"⟩
abbrev cX0_about : ByteArray := prog_1_method_11_code
def yX0_about : MethodName := ⟨RX0, "about", "(III)I"⟩
abbrev cX0_count : ByteArray := prog_1_method_12_code
def yX0_count : MethodName := ⟨RX0, "count", "(I)I"⟩
abbrev cX0_best : ByteArray := prog_1_method_13_code
def yX0_best : MethodName := ⟨RX0, "best", "(I)I"⟩
abbrev cX0_without : ByteArray := prog_1_method_14_code
def yX0_without : MethodName := ⟨RX0, "without", "(I)I"⟩
abbrev cX0_needs : ByteArray := prog_1_method_15_code
def yX0_needs : MethodName := ⟨RX0, "needs", "(II)Z"⟩
abbrev cX0_advise : ByteArray := prog_1_method_16_code
def yX0_advise : MethodName := ⟨RX0, "advise", "()I"⟩
abbrev cX0_mean : ByteArray := prog_1_method_17_code
def yX0_mean : MethodName := ⟨RX0, "mean", "()D"⟩
abbrev cX0_digest : ByteArray := prog_1_method_18_code
def yX0_digest : MethodName := ⟨RX0, "digest", "()J"⟩
abbrev cX0_isAxiom : ByteArray := prog_1_method_19_code
def yX0_isAxiom : MethodName := ⟨RX0, "isAxiom", "(I)Z"⟩
abbrev cX0_isLemma : ByteArray := prog_1_method_20_code
def yX0_isLemma : MethodName := ⟨RX0, "isLemma", "(I)Z"⟩
abbrev cX0_requireAxiom : ByteArray := prog_1_method_21_code
def yX0_requireAxiom : MethodName := ⟨RX0, "requireAxiom", "(I)V"⟩
abbrev cX0_requireLemma : ByteArray := prog_1_method_22_code
def yX0_requireLemma : MethodName := ⟨RX0, "requireLemma", "(I)V"⟩
abbrev cX0_requireProof : ByteArray := prog_1_method_23_code
def yX0_requireProof : MethodName := ⟨RX0, "requireProof", "(II)V"⟩
abbrev cX0_requireStep : ByteArray := prog_1_method_24_code
def yX0_requireStep : MethodName := ⟨RX0, "requireStep", "(III)V"⟩
abbrev cX0_requireCitable : ByteArray := prog_1_method_25_code
def yX0_requireCitable : MethodName := ⟨RX0, "requireCitable", "(II)V"⟩
abbrev cX0_requireAsk : ByteArray := prog_1_method_26_code
def yX0_requireAsk : MethodName := ⟨RX0, "requireAsk", "(II)V"⟩
abbrev cX0_slotOf : ByteArray := prog_1_method_27_code
def yX0_slotOf : MethodName := ⟨RX0, "slotOf", "(II)I"⟩
abbrev cX0_firstStepOf : ByteArray := prog_1_method_28_code
def yX0_firstStepOf : MethodName := ⟨RX0, "firstStepOf", "(I)I"⟩
abbrev cX0_endOfSteps : ByteArray := prog_1_method_29_code
def yX0_endOfSteps : MethodName := ⟨RX0, "endOfSteps", "(I)I"⟩
abbrev cX0_stepAt : ByteArray := prog_1_method_30_code
def yX0_stepAt : MethodName := ⟨RX0, "stepAt", "(III)I"⟩
abbrev cX0_moveUp : ByteArray := prog_1_method_31_code
def yX0_moveUp : MethodName := ⟨RX0, "moveUp", "(I)V"⟩
abbrev cX0_settle : ByteArray := prog_1_method_32_code
def yX0_settle : MethodName := ⟨RX0, "settle", "()V"⟩
abbrev cX0_prove : ByteArray := prog_1_method_33_code
def yX0_prove : MethodName := ⟨RX0, "prove", "([II)I"⟩
abbrev cX0_hasProofAt : ByteArray := prog_1_method_34_code
def yX0_hasProofAt : MethodName := ⟨RX0, "hasProofAt", "(I[II)Z"⟩
abbrev cX0_holds : ByteArray := prog_1_method_35_code
def yX0_holds : MethodName := ⟨RX0, "holds", "(I[II)Z"⟩
abbrev cX0_isWhole : ByteArray := prog_1_method_36_code
def yX0_isWhole : MethodName := ⟨RX0, "isWhole", "(I)Z"⟩
abbrev cX0_stepHolds : ByteArray := prog_1_method_37_code
def yX0_stepHolds : MethodName := ⟨RX0, "stepHolds", "(I[II)Z"⟩
abbrev cX0_reckon : ByteArray := prog_1_method_38_code
def yX0_reckon : MethodName := ⟨RX0, "reckon", "([IZ)V"⟩
abbrev cX0_reckonRound : ByteArray := prog_1_method_39_code
def yX0_reckonRound : MethodName := ⟨RX0, "reckonRound", "([IZ)Z"⟩
abbrev cX0_costOfProof : ByteArray := prog_1_method_40_code
def yX0_costOfProof : MethodName := ⟨RX0, "costOfProof", "(I[IZ)I"⟩
abbrev cX0_costOfStep : ByteArray := prog_1_method_41_code
def yX0_costOfStep : MethodName := ⟨RX0, "costOfStep", "(I[IZ)I"⟩
abbrev cX0_orNone : ByteArray := prog_1_method_42_code
def yX0_orNone : MethodName := ⟨RX0, "orNone", "(I)I"⟩
abbrev cX0_lemmasCitedBy : ByteArray := prog_1_method_43_code
def yX0_lemmasCitedBy : MethodName := ⟨RX0, "lemmasCitedBy", "(I)I"⟩
abbrev cX0_lemmasCitedByAll : ByteArray := prog_1_method_44_code
def yX0_lemmasCitedByAll : MethodName := ⟨RX0, "lemmasCitedByAll", "(I)I"⟩
abbrev cX0_isIn : ByteArray := prog_1_method_45_code
def yX0_isIn : MethodName := ⟨RX0, "isIn", "(II)Z"⟩
abbrev cX0_citesToItself : ByteArray := prog_1_method_46_code
def yX0_citesToItself : MethodName := ⟨RX0, "citesToItself", "(I)I"⟩
abbrev cX0_lemmaTells : ByteArray := prog_1_method_47_code
def yX0_lemmaTells : MethodName := ⟨RX0, "lemmaTells", "(II)I"⟩
abbrev cX0_stepsOf : ByteArray := prog_1_method_48_code
def yX0_stepsOf : MethodName := ⟨RX0, "stepsOf", "(I)I"⟩
abbrev cX0_openOf : ByteArray := prog_1_method_49_code
def yX0_openOf : MethodName := ⟨RX0, "openOf", "(I)I"⟩
abbrev cX0_stepTells : ByteArray := prog_1_method_50_code
def yX0_stepTells : MethodName := ⟨RX0, "stepTells", "(II)I"⟩
abbrev cX0_countOf : ByteArray := prog_1_method_51_code
def yX0_countOf : MethodName := ⟨RX0, "countOf", "(I)I"⟩
abbrev cX0_axiomsTaken : ByteArray := prog_1_method_52_code
def yX0_axiomsTaken : MethodName := ⟨RX0, "axiomsTaken", "()I"⟩
abbrev cX0_overLemmas : ByteArray := prog_1_method_53_code
def yX0_overLemmas : MethodName := ⟨RX0, "overLemmas", "(I)I"⟩
abbrev cX0_lemmasInCircles : ByteArray := prog_1_method_54_code
def yX0_lemmasInCircles : MethodName := ⟨RX0, "lemmasInCircles", "()I"⟩
abbrev cX0_provedIfClosed : ByteArray := prog_1_method_55_code
def yX0_provedIfClosed : MethodName := ⟨RX0, "provedIfClosed", "(I)I"⟩
abbrev cX0_digestLemma : ByteArray := prog_1_method_56_code
def yX0_digestLemma : MethodName := ⟨RX0, "digestLemma", "(JI)J"⟩
abbrev cX0_digestProof : ByteArray := prog_1_method_57_code
def yX0_digestProof : MethodName := ⟨RX0, "digestProof", "(JI)J"⟩
def RX1 : String := "LodgeProofsModel"
def TX1 : u_T := fun k => match k with
  | 0 => ("LodgeProofsModel", "thrown", "I", false)
  | 1 => ("LodgeProofsModel", "lemmas", "I", false)
  | 2 => ("LodgeProofsModel", "taken", "[Z", true)
  | 3 => ("LodgeProofsModel", "proofs", "[I", true)
  | 4 => ("LodgeProofsModel", "steps", "[I", true)
  | 5 => ("LodgeProofsModel", "kind", "[I", true)
  | 6 => ("LodgeProofsModel", "cited", "[I", true)
  | 7 => ("LodgeProofsModel", "open", "[I", true)
  | 8 => ("LodgeProofsModel", "isOut", "[Z", true)
  | 9 => ("LodgeProofsModel", "stage", "[I", true)
  | 10 => ("LodgeProofsModel", "length", "[I", true)
  | 11 => ("LodgeProofsModel", "price", "[I", true)
  | _ => ("LodgeProofsModel", "far", "[I", true)
def tyX1 : Nat → FieldType := fun k => match k with
  | 0 => .int
  | 1 => .int
  | 2 => .array .boolean
  | 3 => .array .int
  | 4 => .array .int
  | 5 => .array .int
  | 6 => .array .int
  | 7 => .array .int
  | 8 => .array .boolean
  | 9 => .array .int
  | 10 => .array .int
  | 11 => .array .int
  | _ => .array .int
abbrev wsX10 : List Cond := u_ws RX1 TX1 13
theorem nmX1 : ∀ a, a < 13 → ∀ b, b < 13 → a ≠ b → (TX1 a).2.1 ≠ (TX1 b).2.1 := by decide +kernel
theorem tyX1_ok : ∀ k, k < 13 → parseFieldDescriptor (TX1 k).2.2.1 = some (tyX1 k) := by decide +kernel
abbrev cX1_init : ByteArray := prog_3_method_1_code
def yX1_init : MethodName := ⟨RX1, "<init>", "()V"⟩
abbrev cX1_thrown : ByteArray := prog_3_method_2_code
def yX1_thrown : MethodName := ⟨RX1, "thrown", "()I"⟩
abbrev cX1_no : ByteArray := prog_3_method_3_code
def yX1_no : MethodName := ⟨RX1, "no", "(I)I"⟩
abbrev cX1_isIn : ByteArray := prog_3_method_4_code
def yX1_isIn : MethodName := ⟨RX1, "isIn", "(III)Z"⟩
abbrev cX1_isAxiom : ByteArray := prog_3_method_5_code
def yX1_isAxiom : MethodName := ⟨RX1, "isAxiom", "(I)Z"⟩
abbrev cX1_isLemma : ByteArray := prog_3_method_6_code
def yX1_isLemma : MethodName := ⟨RX1, "isLemma", "(I)Z"⟩
abbrev cX1_isProof : ByteArray := prog_3_method_7_code
def yX1_isProof : MethodName := ⟨RX1, "isProof", "(II)Z"⟩
abbrev cX1_isStep : ByteArray := prog_3_method_8_code
def yX1_isStep : MethodName := ⟨RX1, "isStep", "(III)Z"⟩
abbrev cX1_at : ByteArray := prog_3_method_9_code
def yX1_at : MethodName := ⟨RX1, "at", "(III)I"⟩
abbrev cX1_isWhole : ByteArray := prog_3_method_10_code
def yX1_isWhole : MethodName := ⟨RX1, "isWhole", "(II)Z"⟩
abbrev cX1_does : ByteArray := prog_3_method_11_code
def yX1_does : MethodName := ⟨RX1, "does", "(III)Z"⟩
abbrev cX1_holds : ByteArray := prog_3_method_12_code
def yX1_holds : MethodName := ⟨RX1, "holds", "(IIII)Z"⟩
abbrev cX1_hasProof : ByteArray := prog_3_method_13_code
def yX1_hasProof : MethodName := ⟨RX1, "hasProof", "(III)Z"⟩
abbrev cX1_prove : ByteArray := prog_3_method_14_code
def yX1_prove : MethodName := ⟨RX1, "prove", "(I)I"⟩
abbrev cX1_lengthOf : ByteArray := prog_3_method_15_code
def yX1_lengthOf : MethodName := ⟨RX1, "lengthOf", "(II)I"⟩
abbrev cX1_priceOf : ByteArray := prog_3_method_16_code
def yX1_priceOf : MethodName := ⟨RX1, "priceOf", "(II)I"⟩
abbrev cX1_getsShorter : ByteArray := prog_3_method_17_code
def yX1_getsShorter : MethodName := ⟨RX1, "getsShorter", "(I)Z"⟩
abbrev cX1_getsCheaper : ByteArray := prog_3_method_18_code
def yX1_getsCheaper : MethodName := ⟨RX1, "getsCheaper", "(I)Z"⟩
abbrev cX1_measure : ByteArray := prog_3_method_19_code
def yX1_measure : MethodName := ⟨RX1, "measure", "()V"⟩
abbrev cX1_told : ByteArray := prog_3_method_20_code
def yX1_told : MethodName := ⟨RX1, "told", "(I)I"⟩
abbrev cX1_leads : ByteArray := prog_3_method_21_code
def yX1_leads : MethodName := ⟨RX1, "leads", "(II)Z"⟩
abbrev cX1_circle : ByteArray := prog_3_method_22_code
def yX1_circle : MethodName := ⟨RX1, "circle", "(I)I"⟩
abbrev cX1_take : ByteArray := prog_3_method_23_code
def yX1_take : MethodName := ⟨RX1, "take", "(IZ)Z"⟩
abbrev cX1_lemma : ByteArray := prog_3_method_24_code
def yX1_lemma : MethodName := ⟨RX1, "lemma", "()I"⟩
abbrev cX1_proof : ByteArray := prog_3_method_25_code
def yX1_proof : MethodName := ⟨RX1, "proof", "(I)I"⟩
abbrev cX1_cite : ByteArray := prog_3_method_26_code
def yX1_cite : MethodName := ⟨RX1, "cite", "(IIII)I"⟩
abbrev cX1_patch : ByteArray := prog_3_method_27_code
def yX1_patch : MethodName := ⟨RX1, "patch", "(IIII)I"⟩
abbrev cX1_withdraw : ByteArray := prog_3_method_28_code
def yX1_withdraw : MethodName := ⟨RX1, "withdraw", "(III)Z"⟩
abbrev cX1_layOver : ByteArray := prog_3_method_29_code
def yX1_layOver : MethodName := ⟨RX1, "layOver", "(II)V"⟩
abbrev cX1_strike : ByteArray := prog_3_method_30_code
def yX1_strike : MethodName := ⟨RX1, "strike", "(II)I"⟩
abbrev cX1_stepsOf : ByteArray := prog_3_method_31_code
def yX1_stepsOf : MethodName := ⟨RX1, "stepsOf", "(I)I"⟩
abbrev cX1_openOf : ByteArray := prog_3_method_32_code
def yX1_openOf : MethodName := ⟨RX1, "openOf", "(I)I"⟩
abbrev cX1_stageOf : ByteArray := prog_3_method_33_code
def yX1_stageOf : MethodName := ⟨RX1, "stageOf", "(I)I"⟩
abbrev cX1_lemmaTold : ByteArray := prog_3_method_34_code
def yX1_lemmaTold : MethodName := ⟨RX1, "lemmaTold", "(II)I"⟩
abbrev cX1_told_ : ByteArray := prog_3_method_35_code
def yX1_told_ : MethodName := ⟨RX1, "told", "(II)I"⟩
abbrev cX1_stepTold : ByteArray := prog_3_method_36_code
def yX1_stepTold : MethodName := ⟨RX1, "stepTold", "(II)I"⟩
abbrev cX1_step : ByteArray := prog_3_method_37_code
def yX1_step : MethodName := ⟨RX1, "step", "(IIII)I"⟩
abbrev cX1_proofTold : ByteArray := prog_3_method_38_code
def yX1_proofTold : MethodName := ⟨RX1, "proofTold", "(III)I"⟩
abbrev cX1_about : ByteArray := prog_3_method_39_code
def yX1_about : MethodName := ⟨RX1, "about", "(III)I"⟩
abbrev cX1_counted : ByteArray := prog_3_method_40_code
def yX1_counted : MethodName := ⟨RX1, "counted", "(I)I"⟩
abbrev cX1_count : ByteArray := prog_3_method_41_code
def yX1_count : MethodName := ⟨RX1, "count", "(I)I"⟩
abbrev cX1_bestOf : ByteArray := prog_3_method_42_code
def yX1_bestOf : MethodName := ⟨RX1, "bestOf", "(I)I"⟩
abbrev cX1_best : ByteArray := prog_3_method_43_code
def yX1_best : MethodName := ⟨RX1, "best", "(I)I"⟩
abbrev cX1_without : ByteArray := prog_3_method_44_code
def yX1_without : MethodName := ⟨RX1, "without", "(I)I"⟩
abbrev cX1_isNeeded : ByteArray := prog_3_method_45_code
def yX1_isNeeded : MethodName := ⟨RX1, "isNeeded", "(II)Z"⟩
abbrev cX1_needs : ByteArray := prog_3_method_46_code
def yX1_needs : MethodName := ⟨RX1, "needs", "(II)Z"⟩
abbrev cX1_provedBy : ByteArray := prog_3_method_47_code
def yX1_provedBy : MethodName := ⟨RX1, "provedBy", "(I)I"⟩
abbrev cX1_advise : ByteArray := prog_3_method_48_code
def yX1_advise : MethodName := ⟨RX1, "advise", "()I"⟩
abbrev cX1_mean : ByteArray := prog_3_method_49_code
def yX1_mean : MethodName := ⟨RX1, "mean", "()D"⟩
abbrev cX1_digest : ByteArray := prog_3_method_50_code
def yX1_digest : MethodName := ⟨RX1, "digest", "()J"⟩
def RJx145de : String := "java/io/Serializable"
def TJx145de : u_T := fun k => match k with
  | _ => ("", "", "", false)
def tyJx145de : Nat → FieldType := fun k => match k with
  | _ => .int
abbrev wsJx145de0 : List Cond := u_ws RJx145de TJx145de 0
theorem nmJx145de : ∀ a, a < 0 → ∀ b, b < 0 → a ≠ b → (TJx145de a).2.1 ≠ (TJx145de b).2.1 := by decide +kernel
theorem tyJx145de_ok : ∀ k, k < 0 → parseFieldDescriptor (TJx145de k).2.2.1 = some (tyJx145de k) := by decide +kernel
def RJ9 : String := "java/lang/Math"
def TJ9 : u_T := fun k => match k with
  | _ => ("", "", "", false)
def tyJ9 : Nat → FieldType := fun k => match k with
  | _ => .int
abbrev wsJ90 : List Cond := u_ws RJ9 TJ9 0
theorem nmJ9 : ∀ a, a < 0 → ∀ b, b < 0 → a ≠ b → (TJ9 a).2.1 ≠ (TJ9 b).2.1 := by decide +kernel
theorem tyJ9_ok : ∀ k, k < 0 → parseFieldDescriptor (TJ9 k).2.2.1 = some (tyJ9 k) := by decide +kernel
abbrev cJ9_max_7cf53 : ByteArray := prog_8_method_65_code
def yJ9_max_7cf53 : MethodName := ⟨RJ9, "max", "(II)I"⟩
abbrev cJ9_min_7cf53 : ByteArray := prog_8_method_69_code
def yJ9_min_7cf53 : MethodName := ⟨RJ9, "min", "(II)I"⟩
def RJ0 : String := "java/lang/String"
def TJ0 : u_T := fun k => match k with
  | _ => ("", "", "", false)
def tyJ0 : Nat → FieldType := fun k => match k with
  | _ => .int
abbrev wsJ00 : List Cond := u_ws RJ0 TJ0 0
theorem nmJ0 : ∀ a, a < 0 → ∀ b, b < 0 → a ≠ b → (TJ0 a).2.1 ≠ (TJ0 b).2.1 := by decide +kernel
theorem tyJ0_ok : ∀ k, k < 0 → parseFieldDescriptor (TJ0 k).2.2.1 = some (tyJ0 k) := by decide +kernel
def RJ10 : String := "java/lang/System"
def TJ10 : u_T := fun k => match k with
  | _ => ("", "", "", false)
def tyJ10 : Nat → FieldType := fun k => match k with
  | _ => .int
abbrev wsJ100 : List Cond := u_ws RJ10 TJ10 0
theorem nmJ10 : ∀ a, a < 0 → ∀ b, b < 0 → a ≠ b → (TJ10 a).2.1 ≠ (TJ10 b).2.1 := by decide +kernel
theorem tyJ10_ok : ∀ k, k < 0 → parseFieldDescriptor (TJ10 k).2.2.1 = some (tyJ10 k) := by decide +kernel
def RJ7 : String := "java/util/Arrays"
def TJ7 : u_T := fun k => match k with
  | _ => ("", "", "", false)
def tyJ7 : Nat → FieldType := fun k => match k with
  | _ => .int
abbrev wsJ70 : List Cond := u_ws RJ7 TJ7 0
theorem nmJ7 : ∀ a, a < 0 → ∀ b, b < 0 → a ≠ b → (TJ7 a).2.1 ≠ (TJ7 b).2.1 := by decide +kernel
theorem tyJ7_ok : ∀ k, k < 0 → parseFieldDescriptor (TJ7 k).2.2.1 = some (tyJ7 k) := by decide +kernel
abbrev cJ7_fill_53178 : ByteArray := prog_13_method_103_code
def yJ7_fill_53178 : MethodName := ⟨RJ7, "fill", "([II)V"⟩
def RL : String := "LodgeProofsLaw"
abbrev cL_take : ByteArray := method_3_code
def yL_take : MethodName := ⟨RL, "take", "(LLodgeProofs;IZ[J)I"⟩
abbrev cL_lemma : ByteArray := method_4_code
def yL_lemma : MethodName := ⟨RL, "lemma", "(LLodgeProofs;[J)I"⟩
abbrev cL_proof : ByteArray := method_5_code
def yL_proof : MethodName := ⟨RL, "proof", "(LLodgeProofs;I[J)I"⟩
abbrev cL_cite : ByteArray := method_6_code
def yL_cite : MethodName := ⟨RL, "cite", "(LLodgeProofs;IIII[J)I"⟩
abbrev cL_patch : ByteArray := method_7_code
def yL_patch : MethodName := ⟨RL, "patch", "(LLodgeProofs;IIII[J)I"⟩
abbrev cL_withdraw : ByteArray := method_8_code
def yL_withdraw : MethodName := ⟨RL, "withdraw", "(LLodgeProofs;III[J)I"⟩
abbrev cL_strike : ByteArray := method_9_code
def yL_strike : MethodName := ⟨RL, "strike", "(LLodgeProofs;II[J)I"⟩
abbrev cL_told : ByteArray := method_10_code
def yL_told : MethodName := ⟨RL, "told", "(LLodgeProofs;II[J)I"⟩
abbrev cL_step : ByteArray := method_11_code
def yL_step : MethodName := ⟨RL, "step", "(LLodgeProofs;IIII[J)I"⟩
abbrev cL_about : ByteArray := method_12_code
def yL_about : MethodName := ⟨RL, "about", "(LLodgeProofs;III[J)I"⟩
abbrev cL_count : ByteArray := method_13_code
def yL_count : MethodName := ⟨RL, "count", "(LLodgeProofs;I[J)I"⟩
abbrev cL_best : ByteArray := method_14_code
def yL_best : MethodName := ⟨RL, "best", "(LLodgeProofs;I[J)I"⟩
abbrev cL_without : ByteArray := method_15_code
def yL_without : MethodName := ⟨RL, "without", "(LLodgeProofs;I[J)I"⟩
abbrev cL_needs : ByteArray := method_16_code
def yL_needs : MethodName := ⟨RL, "needs", "(LLodgeProofs;II[J)I"⟩
abbrev cL_law : ByteArray := code
def yL_law : MethodName := ⟨RL, "law", "([I)Z"⟩
abbrev vwCl : List vw_C := [(RX0, TX0, 15), (RX1, TX1, 13)]
end
section
theorem dX0_init_0 : decode cX0_init 0 = .ok (.aload_n 0, 1) := by decide +kernel
theorem dX0_init_1 : decode cX0_init 1 = .ok (.invokespecial 1, 3) := by decide +kernel
theorem dX0_init_4 : decode cX0_init 4 = .ok (.aload_n 0, 1) := by decide +kernel
theorem dX0_init_5 : decode cX0_init 5 = .ok (.iconst 5, 1) := by decide +kernel
theorem dX0_init_6 : decode cX0_init 6 = .ok (.newarray .boolean, 2) := by decide +kernel
theorem dX0_init_8 : decode cX0_init 8 = .ok (.putfield 9, 3) := by decide +kernel
theorem dX0_init_11 : decode cX0_init 11 = .ok (.aload_n 0, 1) := by decide +kernel
theorem dX0_init_12 : decode cX0_init 12 = .ok (.bipush 12, 2) := by decide +kernel
theorem dX0_init_14 : decode cX0_init 14 = .ok (.newarray .int, 2) := by decide +kernel
theorem dX0_init_16 : decode cX0_init 16 = .ok (.putfield 13, 3) := by decide +kernel
theorem dX0_init_19 : decode cX0_init 19 = .ok (.aload_n 0, 1) := by decide +kernel
theorem dX0_init_20 : decode cX0_init 20 = .ok (.bipush 36, 2) := by decide +kernel
theorem dX0_init_22 : decode cX0_init 22 = .ok (.newarray .int, 2) := by decide +kernel
theorem dX0_init_24 : decode cX0_init 24 = .ok (.putfield 17, 3) := by decide +kernel
theorem dX0_init_27 : decode cX0_init 27 = .ok (.aload_n 0, 1) := by decide +kernel
theorem dX0_init_28 : decode cX0_init 28 = .ok (.sipush 180, 3) := by decide +kernel
theorem dX0_init_31 : decode cX0_init 31 = .ok (.newarray .int, 2) := by decide +kernel
theorem dX0_init_33 : decode cX0_init 33 = .ok (.putfield 20, 3) := by decide +kernel
theorem dX0_init_36 : decode cX0_init 36 = .ok (.aload_n 0, 1) := by decide +kernel
theorem dX0_init_37 : decode cX0_init 37 = .ok (.sipush 180, 3) := by decide +kernel
theorem dX0_init_40 : decode cX0_init 40 = .ok (.newarray .int, 2) := by decide +kernel
theorem dX0_init_42 : decode cX0_init 42 = .ok (.putfield 23, 3) := by decide +kernel
theorem dX0_init_45 : decode cX0_init 45 = .ok (.aload_n 0, 1) := by decide +kernel
theorem dX0_init_46 : decode cX0_init 46 = .ok (.sipush 180, 3) := by decide +kernel
theorem dX0_init_49 : decode cX0_init 49 = .ok (.newarray .int, 2) := by decide +kernel
theorem dX0_init_51 : decode cX0_init 51 = .ok (.putfield 26, 3) := by decide +kernel
theorem dX0_init_54 : decode cX0_init 54 = .ok (.aload_n 0, 1) := by decide +kernel
theorem dX0_init_55 : decode cX0_init 55 = .ok (.sipush 180, 3) := by decide +kernel
theorem dX0_init_58 : decode cX0_init 58 = .ok (.newarray .boolean, 2) := by decide +kernel
theorem dX0_init_60 : decode cX0_init 60 = .ok (.putfield 29, 3) := by decide +kernel
theorem dX0_init_63 : decode cX0_init 63 = .ok (.aload_n 0, 1) := by decide +kernel
theorem dX0_init_64 : decode cX0_init 64 = .ok (.bipush 12, 2) := by decide +kernel
theorem dX0_init_66 : decode cX0_init 66 = .ok (.newarray .int, 2) := by decide +kernel
theorem dX0_init_68 : decode cX0_init 68 = .ok (.putfield 32, 3) := by decide +kernel
theorem dX0_init_71 : decode cX0_init 71 = .ok (.aload_n 0, 1) := by decide +kernel
theorem dX0_init_72 : decode cX0_init 72 = .ok (.bipush 12, 2) := by decide +kernel
theorem dX0_init_74 : decode cX0_init 74 = .ok (.newarray .int, 2) := by decide +kernel
theorem dX0_init_76 : decode cX0_init 76 = .ok (.putfield 35, 3) := by decide +kernel
theorem dX0_init_79 : decode cX0_init 79 = .ok (.aload_n 0, 1) := by decide +kernel
theorem dX0_init_80 : decode cX0_init 80 = .ok (.bipush 12, 2) := by decide +kernel
theorem dX0_init_82 : decode cX0_init 82 = .ok (.newarray .int, 2) := by decide +kernel
theorem dX0_init_84 : decode cX0_init 84 = .ok (.putfield 38, 3) := by decide +kernel
theorem dX0_init_87 : decode cX0_init 87 = .ok (.aload_n 0, 1) := by decide +kernel
theorem dX0_init_88 : decode cX0_init 88 = .ok (.bipush 12, 2) := by decide +kernel
theorem dX0_init_90 : decode cX0_init 90 = .ok (.newarray .int, 2) := by decide +kernel
theorem dX0_init_92 : decode cX0_init 92 = .ok (.putfield 41, 3) := by decide +kernel
theorem dX0_init_95 : decode cX0_init 95 = .ok (.aload_n 0, 1) := by decide +kernel
theorem dX0_init_96 : decode cX0_init 96 = .ok (.bipush 12, 2) := by decide +kernel
theorem dX0_init_98 : decode cX0_init 98 = .ok (.newarray .int, 2) := by decide +kernel
theorem dX0_init_100 : decode cX0_init 100 = .ok (.putfield 44, 3) := by decide +kernel
theorem dX0_init_103 : decode cX0_init 103 = .ok (.aload_n 0, 1) := by decide +kernel
theorem dX0_init_104 : decode cX0_init 104 = .ok (.bipush 12, 2) := by decide +kernel
theorem dX0_init_106 : decode cX0_init 106 = .ok (.newarray .int, 2) := by decide +kernel
theorem dX0_init_108 : decode cX0_init 108 = .ok (.putfield 47, 3) := by decide +kernel
theorem dX0_init_111 : decode cX0_init 111 = .ok (.iconst 0, 1) := by decide +kernel
theorem dX0_init_112 : decode cX0_init 112 = .ok (.istore_n 1, 1) := by decide +kernel
theorem dX0_init_113 : decode cX0_init 113 = .ok (.iload_n 1, 1) := by decide +kernel
theorem dX0_init_114 : decode cX0_init 114 = .ok (.iconst 5, 1) := by decide +kernel
theorem dX0_init_115 : decode cX0_init 115 = .ok (.if_icmp .ge 16, 3) := by decide +kernel
theorem dX0_init_118 : decode cX0_init 118 = .ok (.aload_n 0, 1) := by decide +kernel
theorem dX0_init_119 : decode cX0_init 119 = .ok (.getfield 9, 3) := by decide +kernel
theorem dX0_init_122 : decode cX0_init 122 = .ok (.iload_n 1, 1) := by decide +kernel
theorem dX0_init_123 : decode cX0_init 123 = .ok (.iconst 1, 1) := by decide +kernel
theorem dX0_init_124 : decode cX0_init 124 = .ok (.bastore, 1) := by decide +kernel
theorem dX0_init_125 : decode cX0_init 125 = .ok (.iinc 1 1, 3) := by decide +kernel
theorem dX0_init_128 : decode cX0_init 128 = .ok (.goto (-15), 3) := by decide +kernel
theorem dX0_init_131 : decode cX0_init 131 = .ok (.return_, 1) := by decide +kernel
theorem dX0_take_0 : decode cX0_take 0 = .ok (.iload_n 1, 1) := by decide +kernel
theorem dX0_take_1 : decode cX0_take 1 = .ok (.invokestatic 50, 3) := by decide +kernel
theorem dX0_take_4 : decode cX0_take 4 = .ok (.aload_n 0, 1) := by decide +kernel
theorem dX0_take_5 : decode cX0_take 5 = .ok (.getfield 9, 3) := by decide +kernel
theorem dX0_take_8 : decode cX0_take 8 = .ok (.iload_n 1, 1) := by decide +kernel
theorem dX0_take_9 : decode cX0_take 9 = .ok (.baload, 1) := by decide +kernel
theorem dX0_take_10 : decode cX0_take 10 = .ok (.istore_n 3, 1) := by decide +kernel
theorem dX0_take_11 : decode cX0_take 11 = .ok (.aload_n 0, 1) := by decide +kernel
theorem dX0_take_12 : decode cX0_take 12 = .ok (.getfield 9, 3) := by decide +kernel
theorem dX0_take_15 : decode cX0_take 15 = .ok (.iload_n 1, 1) := by decide +kernel
theorem dX0_take_16 : decode cX0_take 16 = .ok (.iload_n 2, 1) := by decide +kernel
theorem dX0_take_17 : decode cX0_take 17 = .ok (.bastore, 1) := by decide +kernel
theorem dX0_take_18 : decode cX0_take 18 = .ok (.aload_n 0, 1) := by decide +kernel
theorem dX0_take_19 : decode cX0_take 19 = .ok (.invokevirtual 54, 3) := by decide +kernel
theorem dX0_take_22 : decode cX0_take 22 = .ok (.iload_n 3, 1) := by decide +kernel
theorem dX0_take_23 : decode cX0_take 23 = .ok (.ireturn, 1) := by decide +kernel
theorem dX0_lemma_0 : decode cX0_lemma 0 = .ok (.aload_n 0, 1) := by decide +kernel
theorem dX0_lemma_1 : decode cX0_lemma 1 = .ok (.getfield 57, 3) := by decide +kernel
theorem dX0_lemma_4 : decode cX0_lemma 4 = .ok (.bipush 12, 2) := by decide +kernel
theorem dX0_lemma_6 : decode cX0_lemma 6 = .ok (.if_icmp .lt 13, 3) := by decide +kernel
theorem dX0_lemma_9 : decode cX0_lemma 9 = .ok (.new 61, 3) := by decide +kernel
theorem dX0_lemma_12 : decode cX0_lemma 12 = .ok (.dup, 1) := by decide +kernel
theorem dX0_lemma_13 : decode cX0_lemma 13 = .ok (.ldc 63, 2) := by decide +kernel
theorem dX0_lemma_15 : decode cX0_lemma 15 = .ok (.invokespecial 65, 3) := by decide +kernel
theorem dX0_lemma_18 : decode cX0_lemma 18 = .ok (.athrow, 1) := by decide +kernel
theorem dX0_lemma_19 : decode cX0_lemma 19 = .ok (.aload_n 0, 1) := by decide +kernel
theorem dX0_lemma_20 : decode cX0_lemma 20 = .ok (.dup, 1) := by decide +kernel
theorem dX0_lemma_21 : decode cX0_lemma 21 = .ok (.getfield 57, 3) := by decide +kernel
theorem dX0_lemma_24 : decode cX0_lemma 24 = .ok (.iconst 1, 1) := by decide +kernel
theorem dX0_lemma_25 : decode cX0_lemma 25 = .ok (.iadd, 1) := by decide +kernel
theorem dX0_lemma_26 : decode cX0_lemma 26 = .ok (.putfield 57, 3) := by decide +kernel
theorem dX0_lemma_29 : decode cX0_lemma 29 = .ok (.aload_n 0, 1) := by decide +kernel
theorem dX0_lemma_30 : decode cX0_lemma 30 = .ok (.invokevirtual 54, 3) := by decide +kernel
theorem dX0_lemma_33 : decode cX0_lemma 33 = .ok (.aload_n 0, 1) := by decide +kernel
theorem dX0_lemma_34 : decode cX0_lemma 34 = .ok (.getfield 57, 3) := by decide +kernel
theorem dX0_lemma_37 : decode cX0_lemma 37 = .ok (.iconst 1, 1) := by decide +kernel
theorem dX0_lemma_38 : decode cX0_lemma 38 = .ok (.isub, 1) := by decide +kernel
theorem dX0_lemma_39 : decode cX0_lemma 39 = .ok (.ireturn, 1) := by decide +kernel
theorem dX0_proof_0 : decode cX0_proof 0 = .ok (.aload_n 0, 1) := by decide +kernel
theorem dX0_proof_1 : decode cX0_proof 1 = .ok (.iload_n 1, 1) := by decide +kernel
theorem dX0_proof_2 : decode cX0_proof 2 = .ok (.invokevirtual 68, 3) := by decide +kernel
theorem dX0_proof_5 : decode cX0_proof 5 = .ok (.aload_n 0, 1) := by decide +kernel
theorem dX0_proof_6 : decode cX0_proof 6 = .ok (.getfield 13, 3) := by decide +kernel
theorem dX0_proof_9 : decode cX0_proof 9 = .ok (.iload_n 1, 1) := by decide +kernel
theorem dX0_proof_10 : decode cX0_proof 10 = .ok (.iaload, 1) := by decide +kernel
theorem dX0_proof_11 : decode cX0_proof 11 = .ok (.istore_n 2, 1) := by decide +kernel
theorem dX0_proof_12 : decode cX0_proof 12 = .ok (.iload_n 2, 1) := by decide +kernel
theorem dX0_proof_13 : decode cX0_proof 13 = .ok (.iconst 3, 1) := by decide +kernel
theorem dX0_proof_14 : decode cX0_proof 14 = .ok (.if_icmp .lt 13, 3) := by decide +kernel
theorem dX0_proof_17 : decode cX0_proof 17 = .ok (.new 61, 3) := by decide +kernel
theorem dX0_proof_20 : decode cX0_proof 20 = .ok (.dup, 1) := by decide +kernel
theorem dX0_proof_21 : decode cX0_proof 21 = .ok (.ldc 71, 2) := by decide +kernel
theorem dX0_proof_23 : decode cX0_proof 23 = .ok (.invokespecial 65, 3) := by decide +kernel
theorem dX0_proof_26 : decode cX0_proof 26 = .ok (.athrow, 1) := by decide +kernel
theorem dX0_proof_27 : decode cX0_proof 27 = .ok (.aload_n 0, 1) := by decide +kernel
theorem dX0_proof_28 : decode cX0_proof 28 = .ok (.getfield 17, 3) := by decide +kernel
theorem dX0_proof_31 : decode cX0_proof 31 = .ok (.iload_n 1, 1) := by decide +kernel
theorem dX0_proof_32 : decode cX0_proof 32 = .ok (.iload_n 2, 1) := by decide +kernel
theorem dX0_proof_33 : decode cX0_proof 33 = .ok (.invokestatic 73, 3) := by decide +kernel
theorem dX0_proof_36 : decode cX0_proof 36 = .ok (.iconst 0, 1) := by decide +kernel
theorem dX0_proof_37 : decode cX0_proof 37 = .ok (.iastore, 1) := by decide +kernel
theorem dX0_proof_38 : decode cX0_proof 38 = .ok (.aload_n 0, 1) := by decide +kernel
theorem dX0_proof_39 : decode cX0_proof 39 = .ok (.getfield 13, 3) := by decide +kernel
theorem dX0_proof_42 : decode cX0_proof 42 = .ok (.iload_n 1, 1) := by decide +kernel
theorem dX0_proof_43 : decode cX0_proof 43 = .ok (.iload_n 2, 1) := by decide +kernel
theorem dX0_proof_44 : decode cX0_proof 44 = .ok (.iconst 1, 1) := by decide +kernel
theorem dX0_proof_45 : decode cX0_proof 45 = .ok (.iadd, 1) := by decide +kernel
theorem dX0_proof_46 : decode cX0_proof 46 = .ok (.iastore, 1) := by decide +kernel
theorem dX0_proof_47 : decode cX0_proof 47 = .ok (.aload_n 0, 1) := by decide +kernel
theorem dX0_proof_48 : decode cX0_proof 48 = .ok (.invokevirtual 54, 3) := by decide +kernel
theorem dX0_proof_51 : decode cX0_proof 51 = .ok (.iload_n 2, 1) := by decide +kernel
theorem dX0_proof_52 : decode cX0_proof 52 = .ok (.ireturn, 1) := by decide +kernel
theorem dX0_cite_0 : decode cX0_cite 0 = .ok (.aload_n 0, 1) := by decide +kernel
theorem dX0_cite_1 : decode cX0_cite 1 = .ok (.iload_n 1, 1) := by decide +kernel
theorem dX0_cite_2 : decode cX0_cite 2 = .ok (.iload_n 2, 1) := by decide +kernel
theorem dX0_cite_3 : decode cX0_cite 3 = .ok (.invokevirtual 77, 3) := by decide +kernel
theorem dX0_cite_6 : decode cX0_cite 6 = .ok (.aload_n 0, 1) := by decide +kernel
theorem dX0_cite_7 : decode cX0_cite 7 = .ok (.iload_n 3, 1) := by decide +kernel
theorem dX0_cite_8 : decode cX0_cite 8 = .ok (.iload 4, 2) := by decide +kernel
theorem dX0_cite_10 : decode cX0_cite 10 = .ok (.invokevirtual 81, 3) := by decide +kernel
theorem dX0_cite_13 : decode cX0_cite 13 = .ok (.iload_n 1, 1) := by decide +kernel
theorem dX0_cite_14 : decode cX0_cite 14 = .ok (.iload_n 2, 1) := by decide +kernel
theorem dX0_cite_15 : decode cX0_cite 15 = .ok (.invokestatic 73, 3) := by decide +kernel
theorem dX0_cite_18 : decode cX0_cite 18 = .ok (.istore 5, 2) := by decide +kernel
theorem dX0_cite_20 : decode cX0_cite 20 = .ok (.aload_n 0, 1) := by decide +kernel
theorem dX0_cite_21 : decode cX0_cite 21 = .ok (.getfield 17, 3) := by decide +kernel
theorem dX0_cite_24 : decode cX0_cite 24 = .ok (.iload 5, 2) := by decide +kernel
theorem dX0_cite_26 : decode cX0_cite 26 = .ok (.iaload, 1) := by decide +kernel
theorem dX0_cite_27 : decode cX0_cite 27 = .ok (.iconst 5, 1) := by decide +kernel
theorem dX0_cite_28 : decode cX0_cite 28 = .ok (.if_icmp .lt 13, 3) := by decide +kernel
theorem dX0_cite_31 : decode cX0_cite 31 = .ok (.new 61, 3) := by decide +kernel
theorem dX0_cite_34 : decode cX0_cite 34 = .ok (.dup, 1) := by decide +kernel
theorem dX0_cite_35 : decode cX0_cite 35 = .ok (.ldc 84, 2) := by decide +kernel
theorem dX0_cite_37 : decode cX0_cite 37 = .ok (.invokespecial 65, 3) := by decide +kernel
theorem dX0_cite_40 : decode cX0_cite 40 = .ok (.athrow, 1) := by decide +kernel
theorem dX0_cite_41 : decode cX0_cite 41 = .ok (.aload_n 0, 1) := by decide +kernel
theorem dX0_cite_42 : decode cX0_cite 42 = .ok (.iload 5, 2) := by decide +kernel
theorem dX0_cite_44 : decode cX0_cite 44 = .ok (.invokevirtual 86, 3) := by decide +kernel
theorem dX0_cite_47 : decode cX0_cite 47 = .ok (.istore 6, 2) := by decide +kernel
theorem dX0_cite_49 : decode cX0_cite 49 = .ok (.aload_n 0, 1) := by decide +kernel
theorem dX0_cite_50 : decode cX0_cite 50 = .ok (.getfield 20, 3) := by decide +kernel
theorem dX0_cite_53 : decode cX0_cite 53 = .ok (.iload 6, 2) := by decide +kernel
theorem dX0_cite_55 : decode cX0_cite 55 = .ok (.iload_n 3, 1) := by decide +kernel
theorem dX0_cite_56 : decode cX0_cite 56 = .ok (.iastore, 1) := by decide +kernel
theorem dX0_cite_57 : decode cX0_cite 57 = .ok (.aload_n 0, 1) := by decide +kernel
theorem dX0_cite_58 : decode cX0_cite 58 = .ok (.getfield 23, 3) := by decide +kernel
theorem dX0_cite_61 : decode cX0_cite 61 = .ok (.iload 6, 2) := by decide +kernel
theorem dX0_cite_63 : decode cX0_cite 63 = .ok (.iload 4, 2) := by decide +kernel
theorem dX0_cite_65 : decode cX0_cite 65 = .ok (.iastore, 1) := by decide +kernel
theorem dX0_cite_66 : decode cX0_cite 66 = .ok (.aload_n 0, 1) := by decide +kernel
theorem dX0_cite_67 : decode cX0_cite 67 = .ok (.getfield 26, 3) := by decide +kernel
theorem dX0_cite_70 : decode cX0_cite 70 = .ok (.iload 6, 2) := by decide +kernel
theorem dX0_cite_72 : decode cX0_cite 72 = .ok (.iload_n 3, 1) := by decide +kernel
theorem dX0_cite_73 : decode cX0_cite 73 = .ok (.iconst 2, 1) := by decide +kernel
theorem dX0_cite_74 : decode cX0_cite 74 = .ok (.if_icmp .ne 8, 3) := by decide +kernel
theorem dX0_cite_77 : decode cX0_cite 77 = .ok (.iload 4, 2) := by decide +kernel
theorem dX0_cite_79 : decode cX0_cite 79 = .ok (.goto 4, 3) := by decide +kernel
theorem dX0_cite_82 : decode cX0_cite 82 = .ok (.iconst 0, 1) := by decide +kernel
theorem dX0_cite_83 : decode cX0_cite 83 = .ok (.iastore, 1) := by decide +kernel
theorem dX0_cite_84 : decode cX0_cite 84 = .ok (.aload_n 0, 1) := by decide +kernel
theorem dX0_cite_85 : decode cX0_cite 85 = .ok (.getfield 29, 3) := by decide +kernel
theorem dX0_cite_88 : decode cX0_cite 88 = .ok (.iload 6, 2) := by decide +kernel
theorem dX0_cite_90 : decode cX0_cite 90 = .ok (.iconst 0, 1) := by decide +kernel
theorem dX0_cite_91 : decode cX0_cite 91 = .ok (.bastore, 1) := by decide +kernel
theorem dX0_cite_92 : decode cX0_cite 92 = .ok (.aload_n 0, 1) := by decide +kernel
theorem dX0_cite_93 : decode cX0_cite 93 = .ok (.getfield 17, 3) := by decide +kernel
theorem dX0_cite_96 : decode cX0_cite 96 = .ok (.iload 5, 2) := by decide +kernel
theorem dX0_cite_98 : decode cX0_cite 98 = .ok (.dup2, 1) := by decide +kernel
theorem dX0_cite_99 : decode cX0_cite 99 = .ok (.iaload, 1) := by decide +kernel
theorem dX0_cite_100 : decode cX0_cite 100 = .ok (.iconst 1, 1) := by decide +kernel
theorem dX0_cite_101 : decode cX0_cite 101 = .ok (.iadd, 1) := by decide +kernel
theorem dX0_cite_102 : decode cX0_cite 102 = .ok (.iastore, 1) := by decide +kernel
theorem dX0_cite_103 : decode cX0_cite 103 = .ok (.aload_n 0, 1) := by decide +kernel
theorem dX0_cite_104 : decode cX0_cite 104 = .ok (.invokevirtual 54, 3) := by decide +kernel
theorem dX0_cite_107 : decode cX0_cite 107 = .ok (.aload_n 0, 1) := by decide +kernel
theorem dX0_cite_108 : decode cX0_cite 108 = .ok (.getfield 17, 3) := by decide +kernel
theorem dX0_cite_111 : decode cX0_cite 111 = .ok (.iload 5, 2) := by decide +kernel
theorem dX0_cite_113 : decode cX0_cite 113 = .ok (.iaload, 1) := by decide +kernel
theorem dX0_cite_114 : decode cX0_cite 114 = .ok (.ireturn, 1) := by decide +kernel
theorem dX0_patch_0 : decode cX0_patch 0 = .ok (.aload_n 0, 1) := by decide +kernel
theorem dX0_patch_1 : decode cX0_patch 1 = .ok (.iload_n 1, 1) := by decide +kernel
theorem dX0_patch_2 : decode cX0_patch 2 = .ok (.iload_n 2, 1) := by decide +kernel
theorem dX0_patch_3 : decode cX0_patch 3 = .ok (.iload_n 3, 1) := by decide +kernel
theorem dX0_patch_4 : decode cX0_patch 4 = .ok (.invokevirtual 90, 3) := by decide +kernel
theorem dX0_patch_7 : decode cX0_patch 7 = .ok (.iload 4, 2) := by decide +kernel
theorem dX0_patch_9 : decode cX0_patch 9 = .ok (.iconst 1, 1) := by decide +kernel
theorem dX0_patch_10 : decode cX0_patch 10 = .ok (.if_icmp .lt 10, 3) := by decide +kernel
theorem dX0_patch_13 : decode cX0_patch 13 = .ok (.iload 4, 2) := by decide +kernel
theorem dX0_patch_15 : decode cX0_patch 15 = .ok (.bipush 9, 2) := by decide +kernel
theorem dX0_patch_17 : decode cX0_patch 17 = .ok (.if_icmp .le 13, 3) := by decide +kernel
theorem dX0_patch_20 : decode cX0_patch 20 = .ok (.new 94, 3) := by decide +kernel
theorem dX0_patch_23 : decode cX0_patch 23 = .ok (.dup, 1) := by decide +kernel
theorem dX0_patch_24 : decode cX0_patch 24 = .ok (.ldc 96, 2) := by decide +kernel
theorem dX0_patch_26 : decode cX0_patch 26 = .ok (.invokespecial 98, 3) := by decide +kernel
theorem dX0_patch_29 : decode cX0_patch 29 = .ok (.athrow, 1) := by decide +kernel
theorem dX0_patch_30 : decode cX0_patch 30 = .ok (.iload_n 1, 1) := by decide +kernel
theorem dX0_patch_31 : decode cX0_patch 31 = .ok (.iload_n 2, 1) := by decide +kernel
theorem dX0_patch_32 : decode cX0_patch 32 = .ok (.iload_n 3, 1) := by decide +kernel
theorem dX0_patch_33 : decode cX0_patch 33 = .ok (.invokestatic 99, 3) := by decide +kernel
theorem dX0_patch_36 : decode cX0_patch 36 = .ok (.istore 5, 2) := by decide +kernel
theorem dX0_patch_38 : decode cX0_patch 38 = .ok (.aload_n 0, 1) := by decide +kernel
theorem dX0_patch_39 : decode cX0_patch 39 = .ok (.getfield 26, 3) := by decide +kernel
theorem dX0_patch_42 : decode cX0_patch 42 = .ok (.iload 5, 2) := by decide +kernel
theorem dX0_patch_44 : decode cX0_patch 44 = .ok (.iaload, 1) := by decide +kernel
theorem dX0_patch_45 : decode cX0_patch 45 = .ok (.ifCond .ne 13, 3) := by decide +kernel
theorem dX0_patch_48 : decode cX0_patch 48 = .ok (.new 61, 3) := by decide +kernel
theorem dX0_patch_51 : decode cX0_patch 51 = .ok (.dup, 1) := by decide +kernel
theorem dX0_patch_52 : decode cX0_patch 52 = .ok (.ldc 103, 2) := by decide +kernel
theorem dX0_patch_54 : decode cX0_patch 54 = .ok (.invokespecial 65, 3) := by decide +kernel
theorem dX0_patch_57 : decode cX0_patch 57 = .ok (.athrow, 1) := by decide +kernel
theorem dX0_patch_58 : decode cX0_patch 58 = .ok (.aload_n 0, 1) := by decide +kernel
theorem dX0_patch_59 : decode cX0_patch 59 = .ok (.getfield 26, 3) := by decide +kernel
theorem dX0_patch_62 : decode cX0_patch 62 = .ok (.iload 5, 2) := by decide +kernel
theorem dX0_patch_64 : decode cX0_patch 64 = .ok (.aload_n 0, 1) := by decide +kernel
theorem dX0_patch_65 : decode cX0_patch 65 = .ok (.getfield 26, 3) := by decide +kernel
theorem dX0_patch_68 : decode cX0_patch 68 = .ok (.iload 5, 2) := by decide +kernel
theorem dX0_patch_70 : decode cX0_patch 70 = .ok (.iaload, 1) := by decide +kernel
theorem dX0_patch_71 : decode cX0_patch 71 = .ok (.iload 4, 2) := by decide +kernel
theorem dX0_patch_73 : decode cX0_patch 73 = .ok (.isub, 1) := by decide +kernel
theorem dX0_patch_74 : decode cX0_patch 74 = .ok (.iconst 0, 1) := by decide +kernel
theorem dX0_patch_75 : decode cX0_patch 75 = .ok (.invokestatic 105, 3) := by decide +kernel
theorem dX0_patch_78 : decode cX0_patch 78 = .ok (.iastore, 1) := by decide +kernel
theorem dX0_patch_79 : decode cX0_patch 79 = .ok (.aload_n 0, 1) := by decide +kernel
theorem dX0_patch_80 : decode cX0_patch 80 = .ok (.invokevirtual 54, 3) := by decide +kernel
theorem dX0_patch_83 : decode cX0_patch 83 = .ok (.aload_n 0, 1) := by decide +kernel
theorem dX0_patch_84 : decode cX0_patch 84 = .ok (.getfield 26, 3) := by decide +kernel
theorem dX0_patch_87 : decode cX0_patch 87 = .ok (.iload 5, 2) := by decide +kernel
theorem dX0_patch_89 : decode cX0_patch 89 = .ok (.iaload, 1) := by decide +kernel
theorem dX0_patch_90 : decode cX0_patch 90 = .ok (.ireturn, 1) := by decide +kernel
theorem dX0_withdraw_0 : decode cX0_withdraw 0 = .ok (.aload_n 0, 1) := by decide +kernel
theorem dX0_withdraw_1 : decode cX0_withdraw 1 = .ok (.iload_n 1, 1) := by decide +kernel
theorem dX0_withdraw_2 : decode cX0_withdraw 2 = .ok (.iload_n 2, 1) := by decide +kernel
theorem dX0_withdraw_3 : decode cX0_withdraw 3 = .ok (.iload_n 3, 1) := by decide +kernel
theorem dX0_withdraw_4 : decode cX0_withdraw 4 = .ok (.invokevirtual 90, 3) := by decide +kernel
theorem dX0_withdraw_7 : decode cX0_withdraw 7 = .ok (.iload_n 1, 1) := by decide +kernel
theorem dX0_withdraw_8 : decode cX0_withdraw 8 = .ok (.iload_n 2, 1) := by decide +kernel
theorem dX0_withdraw_9 : decode cX0_withdraw 9 = .ok (.iload_n 3, 1) := by decide +kernel
theorem dX0_withdraw_10 : decode cX0_withdraw 10 = .ok (.invokestatic 99, 3) := by decide +kernel
theorem dX0_withdraw_13 : decode cX0_withdraw 13 = .ok (.istore 4, 2) := by decide +kernel
theorem dX0_withdraw_15 : decode cX0_withdraw 15 = .ok (.aload_n 0, 1) := by decide +kernel
theorem dX0_withdraw_16 : decode cX0_withdraw 16 = .ok (.getfield 29, 3) := by decide +kernel
theorem dX0_withdraw_19 : decode cX0_withdraw 19 = .ok (.iload 4, 2) := by decide +kernel
theorem dX0_withdraw_21 : decode cX0_withdraw 21 = .ok (.aload_n 0, 1) := by decide +kernel
theorem dX0_withdraw_22 : decode cX0_withdraw 22 = .ok (.getfield 29, 3) := by decide +kernel
theorem dX0_withdraw_25 : decode cX0_withdraw 25 = .ok (.iload 4, 2) := by decide +kernel
theorem dX0_withdraw_27 : decode cX0_withdraw 27 = .ok (.baload, 1) := by decide +kernel
theorem dX0_withdraw_28 : decode cX0_withdraw 28 = .ok (.ifCond .ne 7, 3) := by decide +kernel
theorem dX0_withdraw_31 : decode cX0_withdraw 31 = .ok (.iconst 1, 1) := by decide +kernel
theorem dX0_withdraw_32 : decode cX0_withdraw 32 = .ok (.goto 4, 3) := by decide +kernel
theorem dX0_withdraw_35 : decode cX0_withdraw 35 = .ok (.iconst 0, 1) := by decide +kernel
theorem dX0_withdraw_36 : decode cX0_withdraw 36 = .ok (.bastore, 1) := by decide +kernel
theorem dX0_withdraw_37 : decode cX0_withdraw 37 = .ok (.aload_n 0, 1) := by decide +kernel
theorem dX0_withdraw_38 : decode cX0_withdraw 38 = .ok (.invokevirtual 54, 3) := by decide +kernel
theorem dX0_withdraw_41 : decode cX0_withdraw 41 = .ok (.aload_n 0, 1) := by decide +kernel
theorem dX0_withdraw_42 : decode cX0_withdraw 42 = .ok (.getfield 29, 3) := by decide +kernel
theorem dX0_withdraw_45 : decode cX0_withdraw 45 = .ok (.iload 4, 2) := by decide +kernel
theorem dX0_withdraw_47 : decode cX0_withdraw 47 = .ok (.baload, 1) := by decide +kernel
theorem dX0_withdraw_48 : decode cX0_withdraw 48 = .ok (.ireturn, 1) := by decide +kernel
theorem dX0_strike_0 : decode cX0_strike 0 = .ok (.aload_n 0, 1) := by decide +kernel
theorem dX0_strike_1 : decode cX0_strike 1 = .ok (.iload_n 1, 1) := by decide +kernel
theorem dX0_strike_2 : decode cX0_strike 2 = .ok (.iload_n 2, 1) := by decide +kernel
theorem dX0_strike_3 : decode cX0_strike 3 = .ok (.invokevirtual 77, 3) := by decide +kernel
theorem dX0_strike_6 : decode cX0_strike 6 = .ok (.aload_n 0, 1) := by decide +kernel
theorem dX0_strike_7 : decode cX0_strike 7 = .ok (.getfield 13, 3) := by decide +kernel
theorem dX0_strike_10 : decode cX0_strike 10 = .ok (.iload_n 1, 1) := by decide +kernel
theorem dX0_strike_11 : decode cX0_strike 11 = .ok (.dup2, 1) := by decide +kernel
theorem dX0_strike_12 : decode cX0_strike 12 = .ok (.iaload, 1) := by decide +kernel
theorem dX0_strike_13 : decode cX0_strike 13 = .ok (.iconst 1, 1) := by decide +kernel
theorem dX0_strike_14 : decode cX0_strike 14 = .ok (.isub, 1) := by decide +kernel
theorem dX0_strike_15 : decode cX0_strike 15 = .ok (.iastore, 1) := by decide +kernel
theorem dX0_strike_16 : decode cX0_strike 16 = .ok (.iload_n 2, 1) := by decide +kernel
theorem dX0_strike_17 : decode cX0_strike 17 = .ok (.istore_n 3, 1) := by decide +kernel
theorem dX0_strike_18 : decode cX0_strike 18 = .ok (.iload_n 3, 1) := by decide +kernel
theorem dX0_strike_19 : decode cX0_strike 19 = .ok (.aload_n 0, 1) := by decide +kernel
theorem dX0_strike_20 : decode cX0_strike 20 = .ok (.getfield 13, 3) := by decide +kernel
theorem dX0_strike_23 : decode cX0_strike 23 = .ok (.iload_n 1, 1) := by decide +kernel
theorem dX0_strike_24 : decode cX0_strike 24 = .ok (.iaload, 1) := by decide +kernel
theorem dX0_strike_25 : decode cX0_strike 25 = .ok (.if_icmp .ge 18, 3) := by decide +kernel
theorem dX0_strike_28 : decode cX0_strike 28 = .ok (.aload_n 0, 1) := by decide +kernel
theorem dX0_strike_29 : decode cX0_strike 29 = .ok (.iload_n 1, 1) := by decide +kernel
theorem dX0_strike_30 : decode cX0_strike 30 = .ok (.iload_n 3, 1) := by decide +kernel
theorem dX0_strike_31 : decode cX0_strike 31 = .ok (.invokestatic 73, 3) := by decide +kernel
theorem dX0_strike_34 : decode cX0_strike 34 = .ok (.invokevirtual 110, 3) := by decide +kernel
theorem dX0_strike_37 : decode cX0_strike 37 = .ok (.iinc 3 1, 3) := by decide +kernel
theorem dX0_strike_40 : decode cX0_strike 40 = .ok (.goto (-22), 3) := by decide +kernel
theorem dX0_strike_43 : decode cX0_strike 43 = .ok (.aload_n 0, 1) := by decide +kernel
theorem dX0_strike_44 : decode cX0_strike 44 = .ok (.invokevirtual 54, 3) := by decide +kernel
theorem dX0_strike_47 : decode cX0_strike 47 = .ok (.aload_n 0, 1) := by decide +kernel
theorem dX0_strike_48 : decode cX0_strike 48 = .ok (.getfield 13, 3) := by decide +kernel
theorem dX0_strike_51 : decode cX0_strike 51 = .ok (.iload_n 1, 1) := by decide +kernel
theorem dX0_strike_52 : decode cX0_strike 52 = .ok (.iaload, 1) := by decide +kernel
theorem dX0_strike_53 : decode cX0_strike 53 = .ok (.ireturn, 1) := by decide +kernel
theorem dX0_told_0 : decode cX0_told 0 = .ok (.aload_n 0, 1) := by decide +kernel
theorem dX0_told_1 : decode cX0_told 1 = .ok (.iload_n 1, 1) := by decide +kernel
theorem dX0_told_2 : decode cX0_told 2 = .ok (.invokevirtual 68, 3) := by decide +kernel
theorem dX0_told_5 : decode cX0_told 5 = .ok (.iload_n 2, 1) := by decide +kernel
theorem dX0_told_6 : decode cX0_told 6 = .ok (.bipush 7, 2) := by decide +kernel
theorem dX0_told_8 : decode cX0_told 8 = .ok (.invokestatic 113, 3) := by decide +kernel
theorem dX0_told_11 : decode cX0_told 11 = .ok (.aload_n 0, 1) := by decide +kernel
theorem dX0_told_12 : decode cX0_told 12 = .ok (.iload_n 1, 1) := by decide +kernel
theorem dX0_told_13 : decode cX0_told 13 = .ok (.iload_n 2, 1) := by decide +kernel
theorem dX0_told_14 : decode cX0_told 14 = .ok (.invokevirtual 116, 3) := by decide +kernel
theorem dX0_told_17 : decode cX0_told 17 = .ok (.ireturn, 1) := by decide +kernel
theorem dX0_step_0 : decode cX0_step 0 = .ok (.aload_n 0, 1) := by decide +kernel
theorem dX0_step_1 : decode cX0_step 1 = .ok (.iload_n 1, 1) := by decide +kernel
theorem dX0_step_2 : decode cX0_step 2 = .ok (.iload_n 2, 1) := by decide +kernel
theorem dX0_step_3 : decode cX0_step 3 = .ok (.iload_n 3, 1) := by decide +kernel
theorem dX0_step_4 : decode cX0_step 4 = .ok (.invokevirtual 90, 3) := by decide +kernel
theorem dX0_step_7 : decode cX0_step 7 = .ok (.iload 4, 2) := by decide +kernel
theorem dX0_step_9 : decode cX0_step 9 = .ok (.iconst 4, 1) := by decide +kernel
theorem dX0_step_10 : decode cX0_step 10 = .ok (.invokestatic 113, 3) := by decide +kernel
theorem dX0_step_13 : decode cX0_step 13 = .ok (.aload_n 0, 1) := by decide +kernel
theorem dX0_step_14 : decode cX0_step 14 = .ok (.iload_n 1, 1) := by decide +kernel
theorem dX0_step_15 : decode cX0_step 15 = .ok (.iload_n 2, 1) := by decide +kernel
theorem dX0_step_16 : decode cX0_step 16 = .ok (.iload_n 3, 1) := by decide +kernel
theorem dX0_step_17 : decode cX0_step 17 = .ok (.invokestatic 99, 3) := by decide +kernel
theorem dX0_step_20 : decode cX0_step 20 = .ok (.iload 4, 2) := by decide +kernel
theorem dX0_step_22 : decode cX0_step 22 = .ok (.invokevirtual 119, 3) := by decide +kernel
theorem dX0_step_25 : decode cX0_step 25 = .ok (.ireturn, 1) := by decide +kernel
theorem dX0_about_0 : decode cX0_about 0 = .ok (.aload_n 0, 1) := by decide +kernel
theorem dX0_about_1 : decode cX0_about 1 = .ok (.iload_n 1, 1) := by decide +kernel
theorem dX0_about_2 : decode cX0_about 2 = .ok (.iload_n 2, 1) := by decide +kernel
theorem dX0_about_3 : decode cX0_about 3 = .ok (.invokevirtual 77, 3) := by decide +kernel
theorem dX0_about_6 : decode cX0_about 6 = .ok (.iload_n 3, 1) := by decide +kernel
theorem dX0_about_7 : decode cX0_about 7 = .ok (.iconst 4, 1) := by decide +kernel
theorem dX0_about_8 : decode cX0_about 8 = .ok (.invokestatic 113, 3) := by decide +kernel
theorem dX0_about_11 : decode cX0_about 11 = .ok (.iload_n 1, 1) := by decide +kernel
theorem dX0_about_12 : decode cX0_about 12 = .ok (.iload_n 2, 1) := by decide +kernel
theorem dX0_about_13 : decode cX0_about 13 = .ok (.invokestatic 73, 3) := by decide +kernel
theorem dX0_about_16 : decode cX0_about 16 = .ok (.istore 4, 2) := by decide +kernel
theorem dX0_about_18 : decode cX0_about 18 = .ok (.iload_n 3, 1) := by decide +kernel
theorem dX0_about_19 : decode cX0_about 19 = .ok (.tableswitch 69 0 2 #[25, 33, 54], 25) := by decide +kernel
theorem dX0_about_44 : decode cX0_about 44 = .ok (.aload_n 0, 1) := by decide +kernel
theorem dX0_about_45 : decode cX0_about 45 = .ok (.getfield 17, 3) := by decide +kernel
theorem dX0_about_48 : decode cX0_about 48 = .ok (.iload 4, 2) := by decide +kernel
theorem dX0_about_50 : decode cX0_about 50 = .ok (.iaload, 1) := by decide +kernel
theorem dX0_about_51 : decode cX0_about 51 = .ok (.ireturn, 1) := by decide +kernel
theorem dX0_about_52 : decode cX0_about 52 = .ok (.aload_n 0, 1) := by decide +kernel
theorem dX0_about_53 : decode cX0_about 53 = .ok (.iload 4, 2) := by decide +kernel
theorem dX0_about_55 : decode cX0_about 55 = .ok (.aload_n 0, 1) := by decide +kernel
theorem dX0_about_56 : decode cX0_about 56 = .ok (.getfield 32, 3) := by decide +kernel
theorem dX0_about_59 : decode cX0_about 59 = .ok (.bipush 13, 2) := by decide +kernel
theorem dX0_about_61 : decode cX0_about 61 = .ok (.invokevirtual 122, 3) := by decide +kernel
theorem dX0_about_64 : decode cX0_about 64 = .ok (.ifCond .eq 7, 3) := by decide +kernel
theorem dX0_about_67 : decode cX0_about 67 = .ok (.iconst 1, 1) := by decide +kernel
theorem dX0_about_68 : decode cX0_about 68 = .ok (.goto 4, 3) := by decide +kernel
theorem dX0_about_71 : decode cX0_about 71 = .ok (.iconst 0, 1) := by decide +kernel
theorem dX0_about_72 : decode cX0_about 72 = .ok (.ireturn, 1) := by decide +kernel
theorem dX0_about_73 : decode cX0_about 73 = .ok (.aload_n 0, 1) := by decide +kernel
theorem dX0_about_74 : decode cX0_about 74 = .ok (.iload 4, 2) := by decide +kernel
theorem dX0_about_76 : decode cX0_about 76 = .ok (.aload_n 0, 1) := by decide +kernel
theorem dX0_about_77 : decode cX0_about 77 = .ok (.getfield 35, 3) := by decide +kernel
theorem dX0_about_80 : decode cX0_about 80 = .ok (.iconst 0, 1) := by decide +kernel
theorem dX0_about_81 : decode cX0_about 81 = .ok (.invokevirtual 126, 3) := by decide +kernel
theorem dX0_about_84 : decode cX0_about 84 = .ok (.invokestatic 130, 3) := by decide +kernel
theorem dX0_about_87 : decode cX0_about 87 = .ok (.ireturn, 1) := by decide +kernel
theorem dX0_about_88 : decode cX0_about 88 = .ok (.aload_n 0, 1) := by decide +kernel
theorem dX0_about_89 : decode cX0_about 89 = .ok (.iload 4, 2) := by decide +kernel
theorem dX0_about_91 : decode cX0_about 91 = .ok (.aload_n 0, 1) := by decide +kernel
theorem dX0_about_92 : decode cX0_about 92 = .ok (.getfield 38, 3) := by decide +kernel
theorem dX0_about_95 : decode cX0_about 95 = .ok (.iconst 1, 1) := by decide +kernel
theorem dX0_about_96 : decode cX0_about 96 = .ok (.invokevirtual 126, 3) := by decide +kernel
theorem dX0_about_99 : decode cX0_about 99 = .ok (.invokestatic 130, 3) := by decide +kernel
theorem dX0_about_102 : decode cX0_about 102 = .ok (.ireturn, 1) := by decide +kernel
theorem dX0_count_0 : decode cX0_count 0 = .ok (.iload_n 1, 1) := by decide +kernel
theorem dX0_count_1 : decode cX0_count 1 = .ok (.bipush 7, 2) := by decide +kernel
theorem dX0_count_3 : decode cX0_count 3 = .ok (.invokestatic 113, 3) := by decide +kernel
theorem dX0_count_6 : decode cX0_count 6 = .ok (.aload_n 0, 1) := by decide +kernel
theorem dX0_count_7 : decode cX0_count 7 = .ok (.iload_n 1, 1) := by decide +kernel
theorem dX0_count_8 : decode cX0_count 8 = .ok (.invokevirtual 133, 3) := by decide +kernel
theorem dX0_count_11 : decode cX0_count 11 = .ok (.ireturn, 1) := by decide +kernel
theorem dX0_best_0 : decode cX0_best 0 = .ok (.aload_n 0, 1) := by decide +kernel
theorem dX0_best_1 : decode cX0_best 1 = .ok (.iload_n 1, 1) := by decide +kernel
theorem dX0_best_2 : decode cX0_best 2 = .ok (.invokevirtual 68, 3) := by decide +kernel
theorem dX0_best_5 : decode cX0_best 5 = .ok (.iconst (-1), 1) := by decide +kernel
theorem dX0_best_6 : decode cX0_best 6 = .ok (.istore_n 2, 1) := by decide +kernel
theorem dX0_best_7 : decode cX0_best 7 = .ok (.sipush 9999, 3) := by decide +kernel
theorem dX0_best_10 : decode cX0_best 10 = .ok (.istore_n 3, 1) := by decide +kernel
theorem dX0_best_11 : decode cX0_best 11 = .ok (.iconst 0, 1) := by decide +kernel
theorem dX0_best_12 : decode cX0_best 12 = .ok (.istore 4, 2) := by decide +kernel
theorem dX0_best_14 : decode cX0_best 14 = .ok (.iload 4, 2) := by decide +kernel
theorem dX0_best_16 : decode cX0_best 16 = .ok (.aload_n 0, 1) := by decide +kernel
theorem dX0_best_17 : decode cX0_best 17 = .ok (.getfield 13, 3) := by decide +kernel
theorem dX0_best_20 : decode cX0_best 20 = .ok (.iload_n 1, 1) := by decide +kernel
theorem dX0_best_21 : decode cX0_best 21 = .ok (.iaload, 1) := by decide +kernel
theorem dX0_best_22 : decode cX0_best 22 = .ok (.if_icmp .ge 38, 3) := by decide +kernel
theorem dX0_best_25 : decode cX0_best 25 = .ok (.aload_n 0, 1) := by decide +kernel
theorem dX0_best_26 : decode cX0_best 26 = .ok (.iload_n 1, 1) := by decide +kernel
theorem dX0_best_27 : decode cX0_best 27 = .ok (.iload 4, 2) := by decide +kernel
theorem dX0_best_29 : decode cX0_best 29 = .ok (.invokestatic 73, 3) := by decide +kernel
theorem dX0_best_32 : decode cX0_best 32 = .ok (.aload_n 0, 1) := by decide +kernel
theorem dX0_best_33 : decode cX0_best 33 = .ok (.getfield 35, 3) := by decide +kernel
theorem dX0_best_36 : decode cX0_best 36 = .ok (.iconst 0, 1) := by decide +kernel
theorem dX0_best_37 : decode cX0_best 37 = .ok (.invokevirtual 126, 3) := by decide +kernel
theorem dX0_best_40 : decode cX0_best 40 = .ok (.istore 5, 2) := by decide +kernel
theorem dX0_best_42 : decode cX0_best 42 = .ok (.iload 5, 2) := by decide +kernel
theorem dX0_best_44 : decode cX0_best 44 = .ok (.iload_n 3, 1) := by decide +kernel
theorem dX0_best_45 : decode cX0_best 45 = .ok (.if_icmp .ge 9, 3) := by decide +kernel
theorem dX0_best_48 : decode cX0_best 48 = .ok (.iload 5, 2) := by decide +kernel
theorem dX0_best_50 : decode cX0_best 50 = .ok (.istore_n 3, 1) := by decide +kernel
theorem dX0_best_51 : decode cX0_best 51 = .ok (.iload 4, 2) := by decide +kernel
theorem dX0_best_53 : decode cX0_best 53 = .ok (.istore_n 2, 1) := by decide +kernel
theorem dX0_best_54 : decode cX0_best 54 = .ok (.iinc 4 1, 3) := by decide +kernel
theorem dX0_best_57 : decode cX0_best 57 = .ok (.goto (-43), 3) := by decide +kernel
theorem dX0_best_60 : decode cX0_best 60 = .ok (.iload_n 2, 1) := by decide +kernel
theorem dX0_best_61 : decode cX0_best 61 = .ok (.ireturn, 1) := by decide +kernel
theorem dX0_without_0 : decode cX0_without 0 = .ok (.aload_n 0, 1) := by decide +kernel
theorem dX0_without_1 : decode cX0_without 1 = .ok (.iload_n 1, 1) := by decide +kernel
theorem dX0_without_2 : decode cX0_without 2 = .ok (.invokevirtual 68, 3) := by decide +kernel
theorem dX0_without_5 : decode cX0_without 5 = .ok (.aload_n 0, 1) := by decide +kernel
theorem dX0_without_6 : decode cX0_without 6 = .ok (.aload_n 0, 1) := by decide +kernel
theorem dX0_without_7 : decode cX0_without 7 = .ok (.getfield 47, 3) := by decide +kernel
theorem dX0_without_10 : decode cX0_without 10 = .ok (.iload_n 1, 1) := by decide +kernel
theorem dX0_without_11 : decode cX0_without 11 = .ok (.invokevirtual 136, 3) := by decide +kernel
theorem dX0_without_14 : decode cX0_without 14 = .ok (.ireturn, 1) := by decide +kernel
theorem dX0_needs_0 : decode cX0_needs 0 = .ok (.aload_n 0, 1) := by decide +kernel
theorem dX0_needs_1 : decode cX0_needs 1 = .ok (.iload_n 1, 1) := by decide +kernel
theorem dX0_needs_2 : decode cX0_needs 2 = .ok (.invokevirtual 68, 3) := by decide +kernel
theorem dX0_needs_5 : decode cX0_needs 5 = .ok (.iload_n 2, 1) := by decide +kernel
theorem dX0_needs_6 : decode cX0_needs 6 = .ok (.invokestatic 50, 3) := by decide +kernel
theorem dX0_needs_9 : decode cX0_needs 9 = .ok (.aload_n 0, 1) := by decide +kernel
theorem dX0_needs_10 : decode cX0_needs 10 = .ok (.getfield 9, 3) := by decide +kernel
theorem dX0_needs_13 : decode cX0_needs 13 = .ok (.iload_n 2, 1) := by decide +kernel
theorem dX0_needs_14 : decode cX0_needs 14 = .ok (.baload, 1) := by decide +kernel
theorem dX0_needs_15 : decode cX0_needs 15 = .ok (.istore_n 3, 1) := by decide +kernel
theorem dX0_needs_16 : decode cX0_needs 16 = .ok (.aload_n 0, 1) := by decide +kernel
theorem dX0_needs_17 : decode cX0_needs 17 = .ok (.getfield 9, 3) := by decide +kernel
theorem dX0_needs_20 : decode cX0_needs 20 = .ok (.iload_n 2, 1) := by decide +kernel
theorem dX0_needs_21 : decode cX0_needs 21 = .ok (.iconst 0, 1) := by decide +kernel
theorem dX0_needs_22 : decode cX0_needs 22 = .ok (.bastore, 1) := by decide +kernel
theorem dX0_needs_23 : decode cX0_needs 23 = .ok (.aload_n 0, 1) := by decide +kernel
theorem dX0_needs_24 : decode cX0_needs 24 = .ok (.aload_n 0, 1) := by decide +kernel
theorem dX0_needs_25 : decode cX0_needs 25 = .ok (.getfield 47, 3) := by decide +kernel
theorem dX0_needs_28 : decode cX0_needs 28 = .ok (.iconst (-1), 1) := by decide +kernel
theorem dX0_needs_29 : decode cX0_needs 29 = .ok (.invokevirtual 136, 3) := by decide +kernel
theorem dX0_needs_32 : decode cX0_needs 32 = .ok (.pop, 1) := by decide +kernel
theorem dX0_needs_33 : decode cX0_needs 33 = .ok (.aload_n 0, 1) := by decide +kernel
theorem dX0_needs_34 : decode cX0_needs 34 = .ok (.getfield 9, 3) := by decide +kernel
theorem dX0_needs_37 : decode cX0_needs 37 = .ok (.iload_n 2, 1) := by decide +kernel
theorem dX0_needs_38 : decode cX0_needs 38 = .ok (.iload_n 3, 1) := by decide +kernel
theorem dX0_needs_39 : decode cX0_needs 39 = .ok (.bastore, 1) := by decide +kernel
theorem dX0_needs_40 : decode cX0_needs 40 = .ok (.aload_n 0, 1) := by decide +kernel
theorem dX0_needs_41 : decode cX0_needs 41 = .ok (.getfield 32, 3) := by decide +kernel
theorem dX0_needs_44 : decode cX0_needs 44 = .ok (.iload_n 1, 1) := by decide +kernel
theorem dX0_needs_45 : decode cX0_needs 45 = .ok (.iaload, 1) := by decide +kernel
theorem dX0_needs_46 : decode cX0_needs 46 = .ok (.ifCond .le 16, 3) := by decide +kernel
theorem dX0_needs_49 : decode cX0_needs 49 = .ok (.aload_n 0, 1) := by decide +kernel
theorem dX0_needs_50 : decode cX0_needs 50 = .ok (.getfield 47, 3) := by decide +kernel
theorem dX0_needs_53 : decode cX0_needs 53 = .ok (.iload_n 1, 1) := by decide +kernel
theorem dX0_needs_54 : decode cX0_needs 54 = .ok (.iaload, 1) := by decide +kernel
theorem dX0_needs_55 : decode cX0_needs 55 = .ok (.ifCond .ne 7, 3) := by decide +kernel
theorem dX0_needs_58 : decode cX0_needs 58 = .ok (.iconst 1, 1) := by decide +kernel
theorem dX0_needs_59 : decode cX0_needs 59 = .ok (.goto 4, 3) := by decide +kernel
theorem dX0_needs_62 : decode cX0_needs 62 = .ok (.iconst 0, 1) := by decide +kernel
theorem dX0_needs_63 : decode cX0_needs 63 = .ok (.ireturn, 1) := by decide +kernel
theorem dX0_advise_0 : decode cX0_advise 0 = .ok (.iconst (-1), 1) := by decide +kernel
theorem dX0_advise_1 : decode cX0_advise 1 = .ok (.istore_n 1, 1) := by decide +kernel
theorem dX0_advise_2 : decode cX0_advise 2 = .ok (.aload_n 0, 1) := by decide +kernel
theorem dX0_advise_3 : decode cX0_advise 3 = .ok (.getfield 140, 3) := by decide +kernel
theorem dX0_advise_6 : decode cX0_advise 6 = .ok (.istore_n 2, 1) := by decide +kernel
theorem dX0_advise_7 : decode cX0_advise 7 = .ok (.iconst 0, 1) := by decide +kernel
theorem dX0_advise_8 : decode cX0_advise 8 = .ok (.istore_n 3, 1) := by decide +kernel
theorem dX0_advise_9 : decode cX0_advise 9 = .ok (.iload_n 3, 1) := by decide +kernel
theorem dX0_advise_10 : decode cX0_advise 10 = .ok (.aload_n 0, 1) := by decide +kernel
theorem dX0_advise_11 : decode cX0_advise 11 = .ok (.getfield 57, 3) := by decide +kernel
theorem dX0_advise_14 : decode cX0_advise 14 = .ok (.if_icmp .ge 91, 3) := by decide +kernel
theorem dX0_advise_17 : decode cX0_advise 17 = .ok (.iconst 0, 1) := by decide +kernel
theorem dX0_advise_18 : decode cX0_advise 18 = .ok (.istore 4, 2) := by decide +kernel
theorem dX0_advise_20 : decode cX0_advise 20 = .ok (.iload 4, 2) := by decide +kernel
theorem dX0_advise_22 : decode cX0_advise 22 = .ok (.aload_n 0, 1) := by decide +kernel
theorem dX0_advise_23 : decode cX0_advise 23 = .ok (.getfield 13, 3) := by decide +kernel
theorem dX0_advise_26 : decode cX0_advise 26 = .ok (.iload_n 3, 1) := by decide +kernel
theorem dX0_advise_27 : decode cX0_advise 27 = .ok (.iaload, 1) := by decide +kernel
theorem dX0_advise_28 : decode cX0_advise 28 = .ok (.if_icmp .ge 71, 3) := by decide +kernel
theorem dX0_advise_31 : decode cX0_advise 31 = .ok (.iconst 0, 1) := by decide +kernel
theorem dX0_advise_32 : decode cX0_advise 32 = .ok (.istore 5, 2) := by decide +kernel
theorem dX0_advise_34 : decode cX0_advise 34 = .ok (.iload 5, 2) := by decide +kernel
theorem dX0_advise_36 : decode cX0_advise 36 = .ok (.aload_n 0, 1) := by decide +kernel
theorem dX0_advise_37 : decode cX0_advise 37 = .ok (.getfield 17, 3) := by decide +kernel
theorem dX0_advise_40 : decode cX0_advise 40 = .ok (.iload_n 3, 1) := by decide +kernel
theorem dX0_advise_41 : decode cX0_advise 41 = .ok (.iload 4, 2) := by decide +kernel
theorem dX0_advise_43 : decode cX0_advise 43 = .ok (.invokestatic 73, 3) := by decide +kernel
theorem dX0_advise_46 : decode cX0_advise 46 = .ok (.iaload, 1) := by decide +kernel
theorem dX0_advise_47 : decode cX0_advise 47 = .ok (.if_icmp .ge 46, 3) := by decide +kernel
theorem dX0_advise_50 : decode cX0_advise 50 = .ok (.aload_n 0, 1) := by decide +kernel
theorem dX0_advise_51 : decode cX0_advise 51 = .ok (.iload_n 3, 1) := by decide +kernel
theorem dX0_advise_52 : decode cX0_advise 52 = .ok (.iload 4, 2) := by decide +kernel
theorem dX0_advise_54 : decode cX0_advise 54 = .ok (.iload 5, 2) := by decide +kernel
theorem dX0_advise_56 : decode cX0_advise 56 = .ok (.invokestatic 99, 3) := by decide +kernel
theorem dX0_advise_59 : decode cX0_advise 59 = .ok (.invokevirtual 143, 3) := by decide +kernel
theorem dX0_advise_62 : decode cX0_advise 62 = .ok (.istore 6, 2) := by decide +kernel
theorem dX0_advise_64 : decode cX0_advise 64 = .ok (.iload 6, 2) := by decide +kernel
theorem dX0_advise_66 : decode cX0_advise 66 = .ok (.iload_n 2, 1) := by decide +kernel
theorem dX0_advise_67 : decode cX0_advise 67 = .ok (.if_icmp .le 20, 3) := by decide +kernel
theorem dX0_advise_70 : decode cX0_advise 70 = .ok (.iload 6, 2) := by decide +kernel
theorem dX0_advise_72 : decode cX0_advise 72 = .ok (.istore_n 2, 1) := by decide +kernel
theorem dX0_advise_73 : decode cX0_advise 73 = .ok (.bipush 100, 2) := by decide +kernel
theorem dX0_advise_75 : decode cX0_advise 75 = .ok (.iload_n 3, 1) := by decide +kernel
theorem dX0_advise_76 : decode cX0_advise 76 = .ok (.imul, 1) := by decide +kernel
theorem dX0_advise_77 : decode cX0_advise 77 = .ok (.bipush 10, 2) := by decide +kernel
theorem dX0_advise_79 : decode cX0_advise 79 = .ok (.iload 4, 2) := by decide +kernel
theorem dX0_advise_81 : decode cX0_advise 81 = .ok (.imul, 1) := by decide +kernel
theorem dX0_advise_82 : decode cX0_advise 82 = .ok (.iadd, 1) := by decide +kernel
theorem dX0_advise_83 : decode cX0_advise 83 = .ok (.iload 5, 2) := by decide +kernel
theorem dX0_advise_85 : decode cX0_advise 85 = .ok (.iadd, 1) := by decide +kernel
theorem dX0_advise_86 : decode cX0_advise 86 = .ok (.istore_n 1, 1) := by decide +kernel
theorem dX0_advise_87 : decode cX0_advise 87 = .ok (.iinc 5 1, 3) := by decide +kernel
theorem dX0_advise_90 : decode cX0_advise 90 = .ok (.goto (-56), 3) := by decide +kernel
theorem dX0_advise_93 : decode cX0_advise 93 = .ok (.iinc 4 1, 3) := by decide +kernel
theorem dX0_advise_96 : decode cX0_advise 96 = .ok (.goto (-76), 3) := by decide +kernel
theorem dX0_advise_99 : decode cX0_advise 99 = .ok (.iinc 3 1, 3) := by decide +kernel
theorem dX0_advise_102 : decode cX0_advise 102 = .ok (.goto (-93), 3) := by decide +kernel
theorem dX0_advise_105 : decode cX0_advise 105 = .ok (.iload_n 1, 1) := by decide +kernel
theorem dX0_advise_106 : decode cX0_advise 106 = .ok (.ireturn, 1) := by decide +kernel
theorem dX0_mean_0 : decode cX0_mean 0 = .ok (.aload_n 0, 1) := by decide +kernel
theorem dX0_mean_1 : decode cX0_mean 1 = .ok (.getfield 57, 3) := by decide +kernel
theorem dX0_mean_4 : decode cX0_mean 4 = .ok (.ifCond .ne 7, 3) := by decide +kernel
theorem dX0_mean_7 : decode cX0_mean 7 = .ok (.dconst 0, 1) := by decide +kernel
theorem dX0_mean_8 : decode cX0_mean 8 = .ok (.goto 15, 3) := by decide +kernel
theorem dX0_mean_11 : decode cX0_mean 11 = .ok (.aload_n 0, 1) := by decide +kernel
theorem dX0_mean_12 : decode cX0_mean 12 = .ok (.iconst 1, 1) := by decide +kernel
theorem dX0_mean_13 : decode cX0_mean 13 = .ok (.invokevirtual 146, 3) := by decide +kernel
theorem dX0_mean_16 : decode cX0_mean 16 = .ok (.i2d, 1) := by decide +kernel
theorem dX0_mean_17 : decode cX0_mean 17 = .ok (.aload_n 0, 1) := by decide +kernel
theorem dX0_mean_18 : decode cX0_mean 18 = .ok (.getfield 57, 3) := by decide +kernel
theorem dX0_mean_21 : decode cX0_mean 21 = .ok (.i2d, 1) := by decide +kernel
theorem dX0_mean_22 : decode cX0_mean 22 = .ok (.ddiv, 1) := by decide +kernel
theorem dX0_mean_23 : decode cX0_mean 23 = .ok (.dreturn, 1) := by decide +kernel
theorem dX0_digest_0 : decode cX0_digest 0 = .ok (.ldc2_w 149, 3) := by decide +kernel
theorem dX0_digest_3 : decode cX0_digest 3 = .ok (.lstore_n 1, 1) := by decide +kernel
theorem dX0_digest_4 : decode cX0_digest 4 = .ok (.iconst 0, 1) := by decide +kernel
theorem dX0_digest_5 : decode cX0_digest 5 = .ok (.istore_n 3, 1) := by decide +kernel
theorem dX0_digest_6 : decode cX0_digest 6 = .ok (.iload_n 3, 1) := by decide +kernel
theorem dX0_digest_7 : decode cX0_digest 7 = .ok (.bipush 7, 2) := by decide +kernel
theorem dX0_digest_9 : decode cX0_digest 9 = .ok (.if_icmp .ge 22, 3) := by decide +kernel
theorem dX0_digest_12 : decode cX0_digest 12 = .ok (.lload_n 1, 1) := by decide +kernel
theorem dX0_digest_13 : decode cX0_digest 13 = .ok (.ldc2_w 151, 3) := by decide +kernel
theorem dX0_digest_16 : decode cX0_digest 16 = .ok (.lmul, 1) := by decide +kernel
theorem dX0_digest_17 : decode cX0_digest 17 = .ok (.aload_n 0, 1) := by decide +kernel
theorem dX0_digest_18 : decode cX0_digest 18 = .ok (.iload_n 3, 1) := by decide +kernel
theorem dX0_digest_19 : decode cX0_digest 19 = .ok (.invokevirtual 133, 3) := by decide +kernel
theorem dX0_digest_22 : decode cX0_digest 22 = .ok (.i2l, 1) := by decide +kernel
theorem dX0_digest_23 : decode cX0_digest 23 = .ok (.ladd, 1) := by decide +kernel
theorem dX0_digest_24 : decode cX0_digest 24 = .ok (.lstore_n 1, 1) := by decide +kernel
theorem dX0_digest_25 : decode cX0_digest 25 = .ok (.iinc 3 1, 3) := by decide +kernel
theorem dX0_digest_28 : decode cX0_digest 28 = .ok (.goto (-22), 3) := by decide +kernel
theorem dX0_digest_31 : decode cX0_digest 31 = .ok (.iconst 0, 1) := by decide +kernel
theorem dX0_digest_32 : decode cX0_digest 32 = .ok (.istore_n 3, 1) := by decide +kernel
theorem dX0_digest_33 : decode cX0_digest 33 = .ok (.iload_n 3, 1) := by decide +kernel
theorem dX0_digest_34 : decode cX0_digest 34 = .ok (.iconst 5, 1) := by decide +kernel
theorem dX0_digest_35 : decode cX0_digest 35 = .ok (.if_icmp .ge 31, 3) := by decide +kernel
theorem dX0_digest_38 : decode cX0_digest 38 = .ok (.lload_n 1, 1) := by decide +kernel
theorem dX0_digest_39 : decode cX0_digest 39 = .ok (.ldc2_w 151, 3) := by decide +kernel
theorem dX0_digest_42 : decode cX0_digest 42 = .ok (.lmul, 1) := by decide +kernel
theorem dX0_digest_43 : decode cX0_digest 43 = .ok (.aload_n 0, 1) := by decide +kernel
theorem dX0_digest_44 : decode cX0_digest 44 = .ok (.getfield 9, 3) := by decide +kernel
theorem dX0_digest_47 : decode cX0_digest 47 = .ok (.iload_n 3, 1) := by decide +kernel
theorem dX0_digest_48 : decode cX0_digest 48 = .ok (.baload, 1) := by decide +kernel
theorem dX0_digest_49 : decode cX0_digest 49 = .ok (.ifCond .eq 7, 3) := by decide +kernel
theorem dX0_digest_52 : decode cX0_digest 52 = .ok (.iconst 1, 1) := by decide +kernel
theorem dX0_digest_53 : decode cX0_digest 53 = .ok (.goto 4, 3) := by decide +kernel
theorem dX0_digest_56 : decode cX0_digest 56 = .ok (.iconst 0, 1) := by decide +kernel
theorem dX0_digest_57 : decode cX0_digest 57 = .ok (.i2l, 1) := by decide +kernel
theorem dX0_digest_58 : decode cX0_digest 58 = .ok (.ladd, 1) := by decide +kernel
theorem dX0_digest_59 : decode cX0_digest 59 = .ok (.lstore_n 1, 1) := by decide +kernel
theorem dX0_digest_60 : decode cX0_digest 60 = .ok (.iinc 3 1, 3) := by decide +kernel
theorem dX0_digest_63 : decode cX0_digest 63 = .ok (.goto (-30), 3) := by decide +kernel
theorem dX0_digest_66 : decode cX0_digest 66 = .ok (.iconst 0, 1) := by decide +kernel
theorem dX0_digest_67 : decode cX0_digest 67 = .ok (.istore_n 3, 1) := by decide +kernel
theorem dX0_digest_68 : decode cX0_digest 68 = .ok (.iload_n 3, 1) := by decide +kernel
theorem dX0_digest_69 : decode cX0_digest 69 = .ok (.aload_n 0, 1) := by decide +kernel
theorem dX0_digest_70 : decode cX0_digest 70 = .ok (.getfield 57, 3) := by decide +kernel
theorem dX0_digest_73 : decode cX0_digest 73 = .ok (.if_icmp .ge 16, 3) := by decide +kernel
theorem dX0_digest_76 : decode cX0_digest 76 = .ok (.aload_n 0, 1) := by decide +kernel
theorem dX0_digest_77 : decode cX0_digest 77 = .ok (.lload_n 1, 1) := by decide +kernel
theorem dX0_digest_78 : decode cX0_digest 78 = .ok (.iload_n 3, 1) := by decide +kernel
theorem dX0_digest_79 : decode cX0_digest 79 = .ok (.invokevirtual 153, 3) := by decide +kernel
theorem dX0_digest_82 : decode cX0_digest 82 = .ok (.lstore_n 1, 1) := by decide +kernel
theorem dX0_digest_83 : decode cX0_digest 83 = .ok (.iinc 3 1, 3) := by decide +kernel
theorem dX0_digest_86 : decode cX0_digest 86 = .ok (.goto (-18), 3) := by decide +kernel
theorem dX0_digest_89 : decode cX0_digest 89 = .ok (.lload_n 1, 1) := by decide +kernel
theorem dX0_digest_90 : decode cX0_digest 90 = .ok (.lreturn, 1) := by decide +kernel
theorem dX0_isAxiom_0 : decode cX0_isAxiom 0 = .ok (.iload_n 0, 1) := by decide +kernel
theorem dX0_isAxiom_1 : decode cX0_isAxiom 1 = .ok (.ifCond .lt 12, 3) := by decide +kernel
theorem dX0_isAxiom_4 : decode cX0_isAxiom 4 = .ok (.iload_n 0, 1) := by decide +kernel
theorem dX0_isAxiom_5 : decode cX0_isAxiom 5 = .ok (.iconst 5, 1) := by decide +kernel
theorem dX0_isAxiom_6 : decode cX0_isAxiom 6 = .ok (.if_icmp .ge 7, 3) := by decide +kernel
theorem dX0_isAxiom_9 : decode cX0_isAxiom 9 = .ok (.iconst 1, 1) := by decide +kernel
theorem dX0_isAxiom_10 : decode cX0_isAxiom 10 = .ok (.goto 4, 3) := by decide +kernel
theorem dX0_isAxiom_13 : decode cX0_isAxiom 13 = .ok (.iconst 0, 1) := by decide +kernel
theorem dX0_isAxiom_14 : decode cX0_isAxiom 14 = .ok (.ireturn, 1) := by decide +kernel
theorem dX0_isLemma_0 : decode cX0_isLemma 0 = .ok (.iload_n 1, 1) := by decide +kernel
theorem dX0_isLemma_1 : decode cX0_isLemma 1 = .ok (.ifCond .lt 15, 3) := by decide +kernel
theorem dX0_isLemma_4 : decode cX0_isLemma 4 = .ok (.iload_n 1, 1) := by decide +kernel
theorem dX0_isLemma_5 : decode cX0_isLemma 5 = .ok (.aload_n 0, 1) := by decide +kernel
theorem dX0_isLemma_6 : decode cX0_isLemma 6 = .ok (.getfield 57, 3) := by decide +kernel
theorem dX0_isLemma_9 : decode cX0_isLemma 9 = .ok (.if_icmp .ge 7, 3) := by decide +kernel
theorem dX0_isLemma_12 : decode cX0_isLemma 12 = .ok (.iconst 1, 1) := by decide +kernel
theorem dX0_isLemma_13 : decode cX0_isLemma 13 = .ok (.goto 4, 3) := by decide +kernel
theorem dX0_isLemma_16 : decode cX0_isLemma 16 = .ok (.iconst 0, 1) := by decide +kernel
theorem dX0_isLemma_17 : decode cX0_isLemma 17 = .ok (.ireturn, 1) := by decide +kernel
theorem dX0_requireAxiom_0 : decode cX0_requireAxiom 0 = .ok (.iload_n 0, 1) := by decide +kernel
theorem dX0_requireAxiom_1 : decode cX0_requireAxiom 1 = .ok (.invokestatic 157, 3) := by decide +kernel
theorem dX0_requireAxiom_4 : decode cX0_requireAxiom 4 = .ok (.ifCond .ne 13, 3) := by decide +kernel
theorem dX0_requireAxiom_7 : decode cX0_requireAxiom 7 = .ok (.new 161, 3) := by decide +kernel
theorem dX0_requireAxiom_10 : decode cX0_requireAxiom 10 = .ok (.dup, 1) := by decide +kernel
theorem dX0_requireAxiom_11 : decode cX0_requireAxiom 11 = .ok (.ldc 163, 2) := by decide +kernel
theorem dX0_requireAxiom_13 : decode cX0_requireAxiom 13 = .ok (.invokespecial 165, 3) := by decide +kernel
theorem dX0_requireAxiom_16 : decode cX0_requireAxiom 16 = .ok (.athrow, 1) := by decide +kernel
theorem dX0_requireAxiom_17 : decode cX0_requireAxiom 17 = .ok (.return_, 1) := by decide +kernel
theorem dX0_requireLemma_0 : decode cX0_requireLemma 0 = .ok (.aload_n 0, 1) := by decide +kernel
theorem dX0_requireLemma_1 : decode cX0_requireLemma 1 = .ok (.iload_n 1, 1) := by decide +kernel
theorem dX0_requireLemma_2 : decode cX0_requireLemma 2 = .ok (.invokevirtual 166, 3) := by decide +kernel
theorem dX0_requireLemma_5 : decode cX0_requireLemma 5 = .ok (.ifCond .ne 13, 3) := by decide +kernel
theorem dX0_requireLemma_8 : decode cX0_requireLemma 8 = .ok (.new 161, 3) := by decide +kernel
theorem dX0_requireLemma_11 : decode cX0_requireLemma 11 = .ok (.dup, 1) := by decide +kernel
theorem dX0_requireLemma_12 : decode cX0_requireLemma 12 = .ok (.ldc 169, 2) := by decide +kernel
theorem dX0_requireLemma_14 : decode cX0_requireLemma 14 = .ok (.invokespecial 165, 3) := by decide +kernel
theorem dX0_requireLemma_17 : decode cX0_requireLemma 17 = .ok (.athrow, 1) := by decide +kernel
theorem dX0_requireLemma_18 : decode cX0_requireLemma 18 = .ok (.return_, 1) := by decide +kernel
theorem dX0_requireProof_0 : decode cX0_requireProof 0 = .ok (.aload_n 0, 1) := by decide +kernel
theorem dX0_requireProof_1 : decode cX0_requireProof 1 = .ok (.iload_n 1, 1) := by decide +kernel
theorem dX0_requireProof_2 : decode cX0_requireProof 2 = .ok (.invokevirtual 68, 3) := by decide +kernel
theorem dX0_requireProof_5 : decode cX0_requireProof 5 = .ok (.iload_n 2, 1) := by decide +kernel
theorem dX0_requireProof_6 : decode cX0_requireProof 6 = .ok (.ifCond .lt 13, 3) := by decide +kernel
theorem dX0_requireProof_9 : decode cX0_requireProof 9 = .ok (.iload_n 2, 1) := by decide +kernel
theorem dX0_requireProof_10 : decode cX0_requireProof 10 = .ok (.aload_n 0, 1) := by decide +kernel
theorem dX0_requireProof_11 : decode cX0_requireProof 11 = .ok (.getfield 13, 3) := by decide +kernel
theorem dX0_requireProof_14 : decode cX0_requireProof 14 = .ok (.iload_n 1, 1) := by decide +kernel
theorem dX0_requireProof_15 : decode cX0_requireProof 15 = .ok (.iaload, 1) := by decide +kernel
theorem dX0_requireProof_16 : decode cX0_requireProof 16 = .ok (.if_icmp .lt 13, 3) := by decide +kernel
theorem dX0_requireProof_19 : decode cX0_requireProof 19 = .ok (.new 161, 3) := by decide +kernel
theorem dX0_requireProof_22 : decode cX0_requireProof 22 = .ok (.dup, 1) := by decide +kernel
theorem dX0_requireProof_23 : decode cX0_requireProof 23 = .ok (.ldc 171, 2) := by decide +kernel
theorem dX0_requireProof_25 : decode cX0_requireProof 25 = .ok (.invokespecial 165, 3) := by decide +kernel
theorem dX0_requireProof_28 : decode cX0_requireProof 28 = .ok (.athrow, 1) := by decide +kernel
theorem dX0_requireProof_29 : decode cX0_requireProof 29 = .ok (.return_, 1) := by decide +kernel
theorem dX0_requireStep_0 : decode cX0_requireStep 0 = .ok (.aload_n 0, 1) := by decide +kernel
theorem dX0_requireStep_1 : decode cX0_requireStep 1 = .ok (.iload_n 1, 1) := by decide +kernel
theorem dX0_requireStep_2 : decode cX0_requireStep 2 = .ok (.iload_n 2, 1) := by decide +kernel
theorem dX0_requireStep_3 : decode cX0_requireStep 3 = .ok (.invokevirtual 77, 3) := by decide +kernel
theorem dX0_requireStep_6 : decode cX0_requireStep 6 = .ok (.iload_n 3, 1) := by decide +kernel
theorem dX0_requireStep_7 : decode cX0_requireStep 7 = .ok (.ifCond .lt 17, 3) := by decide +kernel
theorem dX0_requireStep_10 : decode cX0_requireStep 10 = .ok (.iload_n 3, 1) := by decide +kernel
theorem dX0_requireStep_11 : decode cX0_requireStep 11 = .ok (.aload_n 0, 1) := by decide +kernel
theorem dX0_requireStep_12 : decode cX0_requireStep 12 = .ok (.getfield 17, 3) := by decide +kernel
theorem dX0_requireStep_15 : decode cX0_requireStep 15 = .ok (.iload_n 1, 1) := by decide +kernel
theorem dX0_requireStep_16 : decode cX0_requireStep 16 = .ok (.iload_n 2, 1) := by decide +kernel
theorem dX0_requireStep_17 : decode cX0_requireStep 17 = .ok (.invokestatic 73, 3) := by decide +kernel
theorem dX0_requireStep_20 : decode cX0_requireStep 20 = .ok (.iaload, 1) := by decide +kernel
theorem dX0_requireStep_21 : decode cX0_requireStep 21 = .ok (.if_icmp .lt 13, 3) := by decide +kernel
theorem dX0_requireStep_24 : decode cX0_requireStep 24 = .ok (.new 161, 3) := by decide +kernel
theorem dX0_requireStep_27 : decode cX0_requireStep 27 = .ok (.dup, 1) := by decide +kernel
theorem dX0_requireStep_28 : decode cX0_requireStep 28 = .ok (.ldc 173, 2) := by decide +kernel
theorem dX0_requireStep_30 : decode cX0_requireStep 30 = .ok (.invokespecial 165, 3) := by decide +kernel
theorem dX0_requireStep_33 : decode cX0_requireStep 33 = .ok (.athrow, 1) := by decide +kernel
theorem dX0_requireStep_34 : decode cX0_requireStep 34 = .ok (.return_, 1) := by decide +kernel
theorem dX0_requireCitable_0 : decode cX0_requireCitable 0 = .ok (.iload_n 1, 1) := by decide +kernel
theorem dX0_requireCitable_1 : decode cX0_requireCitable 1 = .ok (.ifCond .lt 8, 3) := by decide +kernel
theorem dX0_requireCitable_4 : decode cX0_requireCitable 4 = .ok (.iload_n 1, 1) := by decide +kernel
theorem dX0_requireCitable_5 : decode cX0_requireCitable 5 = .ok (.iconst 2, 1) := by decide +kernel
theorem dX0_requireCitable_6 : decode cX0_requireCitable 6 = .ok (.if_icmp .le 13, 3) := by decide +kernel
theorem dX0_requireCitable_9 : decode cX0_requireCitable 9 = .ok (.new 161, 3) := by decide +kernel
theorem dX0_requireCitable_12 : decode cX0_requireCitable 12 = .ok (.dup, 1) := by decide +kernel
theorem dX0_requireCitable_13 : decode cX0_requireCitable 13 = .ok (.ldc 175, 2) := by decide +kernel
theorem dX0_requireCitable_15 : decode cX0_requireCitable 15 = .ok (.invokespecial 165, 3) := by decide +kernel
theorem dX0_requireCitable_18 : decode cX0_requireCitable 18 = .ok (.athrow, 1) := by decide +kernel
theorem dX0_requireCitable_19 : decode cX0_requireCitable 19 = .ok (.iload_n 1, 1) := by decide +kernel
theorem dX0_requireCitable_20 : decode cX0_requireCitable 20 = .ok (.ifCond .ne 10, 3) := by decide +kernel
theorem dX0_requireCitable_23 : decode cX0_requireCitable 23 = .ok (.iload_n 2, 1) := by decide +kernel
theorem dX0_requireCitable_24 : decode cX0_requireCitable 24 = .ok (.invokestatic 50, 3) := by decide +kernel
theorem dX0_requireCitable_27 : decode cX0_requireCitable 27 = .ok (.goto 37, 3) := by decide +kernel
theorem dX0_requireCitable_30 : decode cX0_requireCitable 30 = .ok (.iload_n 1, 1) := by decide +kernel
theorem dX0_requireCitable_31 : decode cX0_requireCitable 31 = .ok (.iconst 1, 1) := by decide +kernel
theorem dX0_requireCitable_32 : decode cX0_requireCitable 32 = .ok (.if_icmp .ne 11, 3) := by decide +kernel
theorem dX0_requireCitable_35 : decode cX0_requireCitable 35 = .ok (.aload_n 0, 1) := by decide +kernel
theorem dX0_requireCitable_36 : decode cX0_requireCitable 36 = .ok (.iload_n 2, 1) := by decide +kernel
theorem dX0_requireCitable_37 : decode cX0_requireCitable 37 = .ok (.invokevirtual 68, 3) := by decide +kernel
theorem dX0_requireCitable_40 : decode cX0_requireCitable 40 = .ok (.goto 24, 3) := by decide +kernel
theorem dX0_requireCitable_43 : decode cX0_requireCitable 43 = .ok (.iload_n 2, 1) := by decide +kernel
theorem dX0_requireCitable_44 : decode cX0_requireCitable 44 = .ok (.iconst 1, 1) := by decide +kernel
theorem dX0_requireCitable_45 : decode cX0_requireCitable 45 = .ok (.if_icmp .lt 9, 3) := by decide +kernel
theorem dX0_requireCitable_48 : decode cX0_requireCitable 48 = .ok (.iload_n 2, 1) := by decide +kernel
theorem dX0_requireCitable_49 : decode cX0_requireCitable 49 = .ok (.bipush 9, 2) := by decide +kernel
theorem dX0_requireCitable_51 : decode cX0_requireCitable 51 = .ok (.if_icmp .le 13, 3) := by decide +kernel
theorem dX0_requireCitable_54 : decode cX0_requireCitable 54 = .ok (.new 94, 3) := by decide +kernel
theorem dX0_requireCitable_57 : decode cX0_requireCitable 57 = .ok (.dup, 1) := by decide +kernel
theorem dX0_requireCitable_58 : decode cX0_requireCitable 58 = .ok (.ldc 177, 2) := by decide +kernel
theorem dX0_requireCitable_60 : decode cX0_requireCitable 60 = .ok (.invokespecial 98, 3) := by decide +kernel
theorem dX0_requireCitable_63 : decode cX0_requireCitable 63 = .ok (.athrow, 1) := by decide +kernel
theorem dX0_requireCitable_64 : decode cX0_requireCitable 64 = .ok (.return_, 1) := by decide +kernel
theorem dX0_requireAsk_0 : decode cX0_requireAsk 0 = .ok (.iload_n 0, 1) := by decide +kernel
theorem dX0_requireAsk_1 : decode cX0_requireAsk 1 = .ok (.ifCond .lt 8, 3) := by decide +kernel
theorem dX0_requireAsk_4 : decode cX0_requireAsk 4 = .ok (.iload_n 0, 1) := by decide +kernel
theorem dX0_requireAsk_5 : decode cX0_requireAsk 5 = .ok (.iload_n 1, 1) := by decide +kernel
theorem dX0_requireAsk_6 : decode cX0_requireAsk 6 = .ok (.if_icmp .lt 13, 3) := by decide +kernel
theorem dX0_requireAsk_9 : decode cX0_requireAsk 9 = .ok (.new 161, 3) := by decide +kernel
theorem dX0_requireAsk_12 : decode cX0_requireAsk 12 = .ok (.dup, 1) := by decide +kernel
theorem dX0_requireAsk_13 : decode cX0_requireAsk 13 = .ok (.ldc 179, 2) := by decide +kernel
theorem dX0_requireAsk_15 : decode cX0_requireAsk 15 = .ok (.invokespecial 165, 3) := by decide +kernel
theorem dX0_requireAsk_18 : decode cX0_requireAsk 18 = .ok (.athrow, 1) := by decide +kernel
theorem dX0_requireAsk_19 : decode cX0_requireAsk 19 = .ok (.return_, 1) := by decide +kernel
theorem dX0_slotOf_0 : decode cX0_slotOf 0 = .ok (.iload_n 0, 1) := by decide +kernel
theorem dX0_slotOf_1 : decode cX0_slotOf 1 = .ok (.iconst 3, 1) := by decide +kernel
theorem dX0_slotOf_2 : decode cX0_slotOf 2 = .ok (.imul, 1) := by decide +kernel
theorem dX0_slotOf_3 : decode cX0_slotOf 3 = .ok (.iload_n 1, 1) := by decide +kernel
theorem dX0_slotOf_4 : decode cX0_slotOf 4 = .ok (.iadd, 1) := by decide +kernel
theorem dX0_slotOf_5 : decode cX0_slotOf 5 = .ok (.ireturn, 1) := by decide +kernel
theorem dX0_firstStepOf_0 : decode cX0_firstStepOf 0 = .ok (.iload_n 0, 1) := by decide +kernel
theorem dX0_firstStepOf_1 : decode cX0_firstStepOf 1 = .ok (.iconst 5, 1) := by decide +kernel
theorem dX0_firstStepOf_2 : decode cX0_firstStepOf 2 = .ok (.imul, 1) := by decide +kernel
theorem dX0_firstStepOf_3 : decode cX0_firstStepOf 3 = .ok (.ireturn, 1) := by decide +kernel
theorem dX0_endOfSteps_0 : decode cX0_endOfSteps 0 = .ok (.iload_n 1, 1) := by decide +kernel
theorem dX0_endOfSteps_1 : decode cX0_endOfSteps 1 = .ok (.iconst 5, 1) := by decide +kernel
theorem dX0_endOfSteps_2 : decode cX0_endOfSteps 2 = .ok (.imul, 1) := by decide +kernel
theorem dX0_endOfSteps_3 : decode cX0_endOfSteps 3 = .ok (.aload_n 0, 1) := by decide +kernel
theorem dX0_endOfSteps_4 : decode cX0_endOfSteps 4 = .ok (.getfield 17, 3) := by decide +kernel
theorem dX0_endOfSteps_7 : decode cX0_endOfSteps 7 = .ok (.iload_n 1, 1) := by decide +kernel
theorem dX0_endOfSteps_8 : decode cX0_endOfSteps 8 = .ok (.iaload, 1) := by decide +kernel
theorem dX0_endOfSteps_9 : decode cX0_endOfSteps 9 = .ok (.iadd, 1) := by decide +kernel
theorem dX0_endOfSteps_10 : decode cX0_endOfSteps 10 = .ok (.ireturn, 1) := by decide +kernel
theorem dX0_stepAt_0 : decode cX0_stepAt 0 = .ok (.iload_n 0, 1) := by decide +kernel
theorem dX0_stepAt_1 : decode cX0_stepAt 1 = .ok (.iload_n 1, 1) := by decide +kernel
theorem dX0_stepAt_2 : decode cX0_stepAt 2 = .ok (.invokestatic 73, 3) := by decide +kernel
theorem dX0_stepAt_5 : decode cX0_stepAt 5 = .ok (.invokestatic 181, 3) := by decide +kernel
theorem dX0_stepAt_8 : decode cX0_stepAt 8 = .ok (.iload_n 2, 1) := by decide +kernel
theorem dX0_stepAt_9 : decode cX0_stepAt 9 = .ok (.iadd, 1) := by decide +kernel
theorem dX0_stepAt_10 : decode cX0_stepAt 10 = .ok (.ireturn, 1) := by decide +kernel
theorem dX0_moveUp_0 : decode cX0_moveUp 0 = .ok (.iload_n 1, 1) := by decide +kernel
theorem dX0_moveUp_1 : decode cX0_moveUp 1 = .ok (.iconst 1, 1) := by decide +kernel
theorem dX0_moveUp_2 : decode cX0_moveUp 2 = .ok (.iadd, 1) := by decide +kernel
theorem dX0_moveUp_3 : decode cX0_moveUp 3 = .ok (.istore_n 2, 1) := by decide +kernel
theorem dX0_moveUp_4 : decode cX0_moveUp 4 = .ok (.iload_n 2, 1) := by decide +kernel
theorem dX0_moveUp_5 : decode cX0_moveUp 5 = .ok (.invokestatic 181, 3) := by decide +kernel
theorem dX0_moveUp_8 : decode cX0_moveUp 8 = .ok (.iload_n 1, 1) := by decide +kernel
theorem dX0_moveUp_9 : decode cX0_moveUp 9 = .ok (.invokestatic 181, 3) := by decide +kernel
theorem dX0_moveUp_12 : decode cX0_moveUp 12 = .ok (.isub, 1) := by decide +kernel
theorem dX0_moveUp_13 : decode cX0_moveUp 13 = .ok (.istore_n 3, 1) := by decide +kernel
theorem dX0_moveUp_14 : decode cX0_moveUp 14 = .ok (.aload_n 0, 1) := by decide +kernel
theorem dX0_moveUp_15 : decode cX0_moveUp 15 = .ok (.getfield 17, 3) := by decide +kernel
theorem dX0_moveUp_18 : decode cX0_moveUp 18 = .ok (.iload_n 1, 1) := by decide +kernel
theorem dX0_moveUp_19 : decode cX0_moveUp 19 = .ok (.aload_n 0, 1) := by decide +kernel
theorem dX0_moveUp_20 : decode cX0_moveUp 20 = .ok (.getfield 17, 3) := by decide +kernel
theorem dX0_moveUp_23 : decode cX0_moveUp 23 = .ok (.iload_n 2, 1) := by decide +kernel
theorem dX0_moveUp_24 : decode cX0_moveUp 24 = .ok (.iaload, 1) := by decide +kernel
theorem dX0_moveUp_25 : decode cX0_moveUp 25 = .ok (.iastore, 1) := by decide +kernel
theorem dX0_moveUp_26 : decode cX0_moveUp 26 = .ok (.iload_n 1, 1) := by decide +kernel
theorem dX0_moveUp_27 : decode cX0_moveUp 27 = .ok (.invokestatic 181, 3) := by decide +kernel
theorem dX0_moveUp_30 : decode cX0_moveUp 30 = .ok (.istore 4, 2) := by decide +kernel
theorem dX0_moveUp_32 : decode cX0_moveUp 32 = .ok (.iload 4, 2) := by decide +kernel
theorem dX0_moveUp_34 : decode cX0_moveUp 34 = .ok (.aload_n 0, 1) := by decide +kernel
theorem dX0_moveUp_35 : decode cX0_moveUp 35 = .ok (.iload_n 1, 1) := by decide +kernel
theorem dX0_moveUp_36 : decode cX0_moveUp 36 = .ok (.invokevirtual 86, 3) := by decide +kernel
theorem dX0_moveUp_39 : decode cX0_moveUp 39 = .ok (.if_icmp .ge 73, 3) := by decide +kernel
theorem dX0_moveUp_42 : decode cX0_moveUp 42 = .ok (.aload_n 0, 1) := by decide +kernel
theorem dX0_moveUp_43 : decode cX0_moveUp 43 = .ok (.getfield 20, 3) := by decide +kernel
theorem dX0_moveUp_46 : decode cX0_moveUp 46 = .ok (.iload 4, 2) := by decide +kernel
theorem dX0_moveUp_48 : decode cX0_moveUp 48 = .ok (.aload_n 0, 1) := by decide +kernel
theorem dX0_moveUp_49 : decode cX0_moveUp 49 = .ok (.getfield 20, 3) := by decide +kernel
theorem dX0_moveUp_52 : decode cX0_moveUp 52 = .ok (.iload 4, 2) := by decide +kernel
theorem dX0_moveUp_54 : decode cX0_moveUp 54 = .ok (.iload_n 3, 1) := by decide +kernel
theorem dX0_moveUp_55 : decode cX0_moveUp 55 = .ok (.iadd, 1) := by decide +kernel
theorem dX0_moveUp_56 : decode cX0_moveUp 56 = .ok (.iaload, 1) := by decide +kernel
theorem dX0_moveUp_57 : decode cX0_moveUp 57 = .ok (.iastore, 1) := by decide +kernel
theorem dX0_moveUp_58 : decode cX0_moveUp 58 = .ok (.aload_n 0, 1) := by decide +kernel
theorem dX0_moveUp_59 : decode cX0_moveUp 59 = .ok (.getfield 23, 3) := by decide +kernel
theorem dX0_moveUp_62 : decode cX0_moveUp 62 = .ok (.iload 4, 2) := by decide +kernel
theorem dX0_moveUp_64 : decode cX0_moveUp 64 = .ok (.aload_n 0, 1) := by decide +kernel
theorem dX0_moveUp_65 : decode cX0_moveUp 65 = .ok (.getfield 23, 3) := by decide +kernel
theorem dX0_moveUp_68 : decode cX0_moveUp 68 = .ok (.iload 4, 2) := by decide +kernel
theorem dX0_moveUp_70 : decode cX0_moveUp 70 = .ok (.iload_n 3, 1) := by decide +kernel
theorem dX0_moveUp_71 : decode cX0_moveUp 71 = .ok (.iadd, 1) := by decide +kernel
theorem dX0_moveUp_72 : decode cX0_moveUp 72 = .ok (.iaload, 1) := by decide +kernel
theorem dX0_moveUp_73 : decode cX0_moveUp 73 = .ok (.iastore, 1) := by decide +kernel
theorem dX0_moveUp_74 : decode cX0_moveUp 74 = .ok (.aload_n 0, 1) := by decide +kernel
theorem dX0_moveUp_75 : decode cX0_moveUp 75 = .ok (.getfield 26, 3) := by decide +kernel
theorem dX0_moveUp_78 : decode cX0_moveUp 78 = .ok (.iload 4, 2) := by decide +kernel
theorem dX0_moveUp_80 : decode cX0_moveUp 80 = .ok (.aload_n 0, 1) := by decide +kernel
theorem dX0_moveUp_81 : decode cX0_moveUp 81 = .ok (.getfield 26, 3) := by decide +kernel
theorem dX0_moveUp_84 : decode cX0_moveUp 84 = .ok (.iload 4, 2) := by decide +kernel
theorem dX0_moveUp_86 : decode cX0_moveUp 86 = .ok (.iload_n 3, 1) := by decide +kernel
theorem dX0_moveUp_87 : decode cX0_moveUp 87 = .ok (.iadd, 1) := by decide +kernel
theorem dX0_moveUp_88 : decode cX0_moveUp 88 = .ok (.iaload, 1) := by decide +kernel
theorem dX0_moveUp_89 : decode cX0_moveUp 89 = .ok (.iastore, 1) := by decide +kernel
theorem dX0_moveUp_90 : decode cX0_moveUp 90 = .ok (.aload_n 0, 1) := by decide +kernel
theorem dX0_moveUp_91 : decode cX0_moveUp 91 = .ok (.getfield 29, 3) := by decide +kernel
theorem dX0_moveUp_94 : decode cX0_moveUp 94 = .ok (.iload 4, 2) := by decide +kernel
theorem dX0_moveUp_96 : decode cX0_moveUp 96 = .ok (.aload_n 0, 1) := by decide +kernel
theorem dX0_moveUp_97 : decode cX0_moveUp 97 = .ok (.getfield 29, 3) := by decide +kernel
theorem dX0_moveUp_100 : decode cX0_moveUp 100 = .ok (.iload 4, 2) := by decide +kernel
theorem dX0_moveUp_102 : decode cX0_moveUp 102 = .ok (.iload_n 3, 1) := by decide +kernel
theorem dX0_moveUp_103 : decode cX0_moveUp 103 = .ok (.iadd, 1) := by decide +kernel
theorem dX0_moveUp_104 : decode cX0_moveUp 104 = .ok (.baload, 1) := by decide +kernel
theorem dX0_moveUp_105 : decode cX0_moveUp 105 = .ok (.bastore, 1) := by decide +kernel
theorem dX0_moveUp_106 : decode cX0_moveUp 106 = .ok (.iinc 4 1, 3) := by decide +kernel
theorem dX0_moveUp_109 : decode cX0_moveUp 109 = .ok (.goto (-77), 3) := by decide +kernel
theorem dX0_moveUp_112 : decode cX0_moveUp 112 = .ok (.return_, 1) := by decide +kernel
theorem dX0_settle_0 : decode cX0_settle 0 = .ok (.aload_n 0, 1) := by decide +kernel
theorem dX0_settle_1 : decode cX0_settle 1 = .ok (.aload_n 0, 1) := by decide +kernel
theorem dX0_settle_2 : decode cX0_settle 2 = .ok (.aload_n 0, 1) := by decide +kernel
theorem dX0_settle_3 : decode cX0_settle 3 = .ok (.getfield 32, 3) := by decide +kernel
theorem dX0_settle_6 : decode cX0_settle 6 = .ok (.iconst (-1), 1) := by decide +kernel
theorem dX0_settle_7 : decode cX0_settle 7 = .ok (.invokevirtual 136, 3) := by decide +kernel
theorem dX0_settle_10 : decode cX0_settle 10 = .ok (.putfield 140, 3) := by decide +kernel
theorem dX0_settle_13 : decode cX0_settle 13 = .ok (.aload_n 0, 1) := by decide +kernel
theorem dX0_settle_14 : decode cX0_settle 14 = .ok (.aload_n 0, 1) := by decide +kernel
theorem dX0_settle_15 : decode cX0_settle 15 = .ok (.getfield 35, 3) := by decide +kernel
theorem dX0_settle_18 : decode cX0_settle 18 = .ok (.iconst 0, 1) := by decide +kernel
theorem dX0_settle_19 : decode cX0_settle 19 = .ok (.invokevirtual 184, 3) := by decide +kernel
theorem dX0_settle_22 : decode cX0_settle 22 = .ok (.aload_n 0, 1) := by decide +kernel
theorem dX0_settle_23 : decode cX0_settle 23 = .ok (.aload_n 0, 1) := by decide +kernel
theorem dX0_settle_24 : decode cX0_settle 24 = .ok (.getfield 38, 3) := by decide +kernel
theorem dX0_settle_27 : decode cX0_settle 27 = .ok (.iconst 1, 1) := by decide +kernel
theorem dX0_settle_28 : decode cX0_settle 28 = .ok (.invokevirtual 184, 3) := by decide +kernel
theorem dX0_settle_31 : decode cX0_settle 31 = .ok (.iconst 0, 1) := by decide +kernel
theorem dX0_settle_32 : decode cX0_settle 32 = .ok (.istore_n 1, 1) := by decide +kernel
theorem dX0_settle_33 : decode cX0_settle 33 = .ok (.iload_n 1, 1) := by decide +kernel
theorem dX0_settle_34 : decode cX0_settle 34 = .ok (.aload_n 0, 1) := by decide +kernel
theorem dX0_settle_35 : decode cX0_settle 35 = .ok (.getfield 57, 3) := by decide +kernel
theorem dX0_settle_38 : decode cX0_settle 38 = .ok (.if_icmp .ge 20, 3) := by decide +kernel
theorem dX0_settle_41 : decode cX0_settle 41 = .ok (.aload_n 0, 1) := by decide +kernel
theorem dX0_settle_42 : decode cX0_settle 42 = .ok (.getfield 41, 3) := by decide +kernel
theorem dX0_settle_45 : decode cX0_settle 45 = .ok (.iload_n 1, 1) := by decide +kernel
theorem dX0_settle_46 : decode cX0_settle 46 = .ok (.aload_n 0, 1) := by decide +kernel
theorem dX0_settle_47 : decode cX0_settle 47 = .ok (.iload_n 1, 1) := by decide +kernel
theorem dX0_settle_48 : decode cX0_settle 48 = .ok (.invokevirtual 188, 3) := by decide +kernel
theorem dX0_settle_51 : decode cX0_settle 51 = .ok (.iastore, 1) := by decide +kernel
theorem dX0_settle_52 : decode cX0_settle 52 = .ok (.iinc 1 1, 3) := by decide +kernel
theorem dX0_settle_55 : decode cX0_settle 55 = .ok (.goto (-22), 3) := by decide +kernel
theorem dX0_settle_58 : decode cX0_settle 58 = .ok (.iconst 0, 1) := by decide +kernel
theorem dX0_settle_59 : decode cX0_settle 59 = .ok (.istore_n 1, 1) := by decide +kernel
theorem dX0_settle_60 : decode cX0_settle 60 = .ok (.iload_n 1, 1) := by decide +kernel
theorem dX0_settle_61 : decode cX0_settle 61 = .ok (.aload_n 0, 1) := by decide +kernel
theorem dX0_settle_62 : decode cX0_settle 62 = .ok (.getfield 57, 3) := by decide +kernel
theorem dX0_settle_65 : decode cX0_settle 65 = .ok (.if_icmp .ge 20, 3) := by decide +kernel
theorem dX0_settle_68 : decode cX0_settle 68 = .ok (.aload_n 0, 1) := by decide +kernel
theorem dX0_settle_69 : decode cX0_settle 69 = .ok (.getfield 44, 3) := by decide +kernel
theorem dX0_settle_72 : decode cX0_settle 72 = .ok (.iload_n 1, 1) := by decide +kernel
theorem dX0_settle_73 : decode cX0_settle 73 = .ok (.aload_n 0, 1) := by decide +kernel
theorem dX0_settle_74 : decode cX0_settle 74 = .ok (.iload_n 1, 1) := by decide +kernel
theorem dX0_settle_75 : decode cX0_settle 75 = .ok (.invokevirtual 191, 3) := by decide +kernel
theorem dX0_settle_78 : decode cX0_settle 78 = .ok (.iastore, 1) := by decide +kernel
theorem dX0_settle_79 : decode cX0_settle 79 = .ok (.iinc 1 1, 3) := by decide +kernel
theorem dX0_settle_82 : decode cX0_settle 82 = .ok (.goto (-22), 3) := by decide +kernel
theorem dX0_settle_85 : decode cX0_settle 85 = .ok (.return_, 1) := by decide +kernel
theorem dX0_prove_0 : decode cX0_prove 0 = .ok (.aload_n 1, 1) := by decide +kernel
theorem dX0_prove_1 : decode cX0_prove 1 = .ok (.iconst 0, 1) := by decide +kernel
theorem dX0_prove_2 : decode cX0_prove 2 = .ok (.invokestatic 194, 3) := by decide +kernel
theorem dX0_prove_5 : decode cX0_prove 5 = .ok (.iconst 0, 1) := by decide +kernel
theorem dX0_prove_6 : decode cX0_prove 6 = .ok (.istore_n 3, 1) := by decide +kernel
theorem dX0_prove_7 : decode cX0_prove 7 = .ok (.iconst 1, 1) := by decide +kernel
theorem dX0_prove_8 : decode cX0_prove 8 = .ok (.istore 4, 2) := by decide +kernel
theorem dX0_prove_10 : decode cX0_prove 10 = .ok (.iload 4, 2) := by decide +kernel
theorem dX0_prove_12 : decode cX0_prove 12 = .ok (.aload_n 0, 1) := by decide +kernel
theorem dX0_prove_13 : decode cX0_prove 13 = .ok (.getfield 57, 3) := by decide +kernel
theorem dX0_prove_16 : decode cX0_prove 16 = .ok (.if_icmp .gt 73, 3) := by decide +kernel
theorem dX0_prove_19 : decode cX0_prove 19 = .ok (.iload_n 3, 1) := by decide +kernel
theorem dX0_prove_20 : decode cX0_prove 20 = .ok (.istore 5, 2) := by decide +kernel
theorem dX0_prove_22 : decode cX0_prove 22 = .ok (.iconst 0, 1) := by decide +kernel
theorem dX0_prove_23 : decode cX0_prove 23 = .ok (.istore 6, 2) := by decide +kernel
theorem dX0_prove_25 : decode cX0_prove 25 = .ok (.iload 6, 2) := by decide +kernel
theorem dX0_prove_27 : decode cX0_prove 27 = .ok (.aload_n 0, 1) := by decide +kernel
theorem dX0_prove_28 : decode cX0_prove 28 = .ok (.getfield 57, 3) := by decide +kernel
theorem dX0_prove_31 : decode cX0_prove 31 = .ok (.if_icmp .ge 43, 3) := by decide +kernel
theorem dX0_prove_34 : decode cX0_prove 34 = .ok (.iload 6, 2) := by decide +kernel
theorem dX0_prove_36 : decode cX0_prove 36 = .ok (.iload_n 2, 1) := by decide +kernel
theorem dX0_prove_37 : decode cX0_prove 37 = .ok (.if_icmp .eq 31, 3) := by decide +kernel
theorem dX0_prove_40 : decode cX0_prove 40 = .ok (.aload_n 1, 1) := by decide +kernel
theorem dX0_prove_41 : decode cX0_prove 41 = .ok (.iload 6, 2) := by decide +kernel
theorem dX0_prove_43 : decode cX0_prove 43 = .ok (.iaload, 1) := by decide +kernel
theorem dX0_prove_44 : decode cX0_prove 44 = .ok (.ifCond .ne 24, 3) := by decide +kernel
theorem dX0_prove_47 : decode cX0_prove 47 = .ok (.aload_n 0, 1) := by decide +kernel
theorem dX0_prove_48 : decode cX0_prove 48 = .ok (.iload 6, 2) := by decide +kernel
theorem dX0_prove_50 : decode cX0_prove 50 = .ok (.aload_n 1, 1) := by decide +kernel
theorem dX0_prove_51 : decode cX0_prove 51 = .ok (.iload 4, 2) := by decide +kernel
theorem dX0_prove_53 : decode cX0_prove 53 = .ok (.invokevirtual 200, 3) := by decide +kernel
theorem dX0_prove_56 : decode cX0_prove 56 = .ok (.ifCond .eq 12, 3) := by decide +kernel
theorem dX0_prove_59 : decode cX0_prove 59 = .ok (.aload_n 1, 1) := by decide +kernel
theorem dX0_prove_60 : decode cX0_prove 60 = .ok (.iload 6, 2) := by decide +kernel
theorem dX0_prove_62 : decode cX0_prove 62 = .ok (.iload 4, 2) := by decide +kernel
theorem dX0_prove_64 : decode cX0_prove 64 = .ok (.iastore, 1) := by decide +kernel
theorem dX0_prove_65 : decode cX0_prove 65 = .ok (.iinc 3 1, 3) := by decide +kernel
theorem dX0_prove_68 : decode cX0_prove 68 = .ok (.iinc 6 1, 3) := by decide +kernel
theorem dX0_prove_71 : decode cX0_prove 71 = .ok (.goto (-46), 3) := by decide +kernel
theorem dX0_prove_74 : decode cX0_prove 74 = .ok (.iload_n 3, 1) := by decide +kernel
theorem dX0_prove_75 : decode cX0_prove 75 = .ok (.iload 5, 2) := by decide +kernel
theorem dX0_prove_77 : decode cX0_prove 77 = .ok (.if_icmp .ne 6, 3) := by decide +kernel
theorem dX0_prove_80 : decode cX0_prove 80 = .ok (.goto 9, 3) := by decide +kernel
theorem dX0_prove_83 : decode cX0_prove 83 = .ok (.iinc 4 1, 3) := by decide +kernel
theorem dX0_prove_86 : decode cX0_prove 86 = .ok (.goto (-76), 3) := by decide +kernel
theorem dX0_prove_89 : decode cX0_prove 89 = .ok (.iload_n 3, 1) := by decide +kernel
theorem dX0_prove_90 : decode cX0_prove 90 = .ok (.ireturn, 1) := by decide +kernel
theorem dX0_hasProofAt_0 : decode cX0_hasProofAt 0 = .ok (.iconst 0, 1) := by decide +kernel
theorem dX0_hasProofAt_1 : decode cX0_hasProofAt 1 = .ok (.istore 4, 2) := by decide +kernel
theorem dX0_hasProofAt_3 : decode cX0_hasProofAt 3 = .ok (.iload 4, 2) := by decide +kernel
theorem dX0_hasProofAt_5 : decode cX0_hasProofAt 5 = .ok (.aload_n 0, 1) := by decide +kernel
theorem dX0_hasProofAt_6 : decode cX0_hasProofAt 6 = .ok (.getfield 13, 3) := by decide +kernel
theorem dX0_hasProofAt_9 : decode cX0_hasProofAt 9 = .ok (.iload_n 1, 1) := by decide +kernel
theorem dX0_hasProofAt_10 : decode cX0_hasProofAt 10 = .ok (.iaload, 1) := by decide +kernel
theorem dX0_hasProofAt_11 : decode cX0_hasProofAt 11 = .ok (.if_icmp .ge 26, 3) := by decide +kernel
theorem dX0_hasProofAt_14 : decode cX0_hasProofAt 14 = .ok (.aload_n 0, 1) := by decide +kernel
theorem dX0_hasProofAt_15 : decode cX0_hasProofAt 15 = .ok (.iload_n 1, 1) := by decide +kernel
theorem dX0_hasProofAt_16 : decode cX0_hasProofAt 16 = .ok (.iload 4, 2) := by decide +kernel
theorem dX0_hasProofAt_18 : decode cX0_hasProofAt 18 = .ok (.invokestatic 73, 3) := by decide +kernel
theorem dX0_hasProofAt_21 : decode cX0_hasProofAt 21 = .ok (.aload_n 2, 1) := by decide +kernel
theorem dX0_hasProofAt_22 : decode cX0_hasProofAt 22 = .ok (.iload_n 3, 1) := by decide +kernel
theorem dX0_hasProofAt_23 : decode cX0_hasProofAt 23 = .ok (.invokevirtual 122, 3) := by decide +kernel
theorem dX0_hasProofAt_26 : decode cX0_hasProofAt 26 = .ok (.ifCond .eq 5, 3) := by decide +kernel
theorem dX0_hasProofAt_29 : decode cX0_hasProofAt 29 = .ok (.iconst 1, 1) := by decide +kernel
theorem dX0_hasProofAt_30 : decode cX0_hasProofAt 30 = .ok (.ireturn, 1) := by decide +kernel
theorem dX0_hasProofAt_31 : decode cX0_hasProofAt 31 = .ok (.iinc 4 1, 3) := by decide +kernel
theorem dX0_hasProofAt_34 : decode cX0_hasProofAt 34 = .ok (.goto (-31), 3) := by decide +kernel
theorem dX0_hasProofAt_37 : decode cX0_hasProofAt 37 = .ok (.iconst 0, 1) := by decide +kernel
theorem dX0_hasProofAt_38 : decode cX0_hasProofAt 38 = .ok (.ireturn, 1) := by decide +kernel
theorem dX0_holds_0 : decode cX0_holds 0 = .ok (.aload_n 0, 1) := by decide +kernel
theorem dX0_holds_1 : decode cX0_holds 1 = .ok (.iload_n 1, 1) := by decide +kernel
theorem dX0_holds_2 : decode cX0_holds 2 = .ok (.invokevirtual 203, 3) := by decide +kernel
theorem dX0_holds_5 : decode cX0_holds 5 = .ok (.ifCond .ne 5, 3) := by decide +kernel
theorem dX0_holds_8 : decode cX0_holds 8 = .ok (.iconst 0, 1) := by decide +kernel
theorem dX0_holds_9 : decode cX0_holds 9 = .ok (.ireturn, 1) := by decide +kernel
theorem dX0_holds_10 : decode cX0_holds 10 = .ok (.iload_n 1, 1) := by decide +kernel
theorem dX0_holds_11 : decode cX0_holds 11 = .ok (.invokestatic 181, 3) := by decide +kernel
theorem dX0_holds_14 : decode cX0_holds 14 = .ok (.istore 4, 2) := by decide +kernel
theorem dX0_holds_16 : decode cX0_holds 16 = .ok (.iload 4, 2) := by decide +kernel
theorem dX0_holds_18 : decode cX0_holds 18 = .ok (.aload_n 0, 1) := by decide +kernel
theorem dX0_holds_19 : decode cX0_holds 19 = .ok (.iload_n 1, 1) := by decide +kernel
theorem dX0_holds_20 : decode cX0_holds 20 = .ok (.invokevirtual 86, 3) := by decide +kernel
theorem dX0_holds_23 : decode cX0_holds 23 = .ok (.if_icmp .ge 22, 3) := by decide +kernel
theorem dX0_holds_26 : decode cX0_holds 26 = .ok (.aload_n 0, 1) := by decide +kernel
theorem dX0_holds_27 : decode cX0_holds 27 = .ok (.iload 4, 2) := by decide +kernel
theorem dX0_holds_29 : decode cX0_holds 29 = .ok (.aload_n 2, 1) := by decide +kernel
theorem dX0_holds_30 : decode cX0_holds 30 = .ok (.iload_n 3, 1) := by decide +kernel
theorem dX0_holds_31 : decode cX0_holds 31 = .ok (.invokevirtual 206, 3) := by decide +kernel
theorem dX0_holds_34 : decode cX0_holds 34 = .ok (.ifCond .ne 5, 3) := by decide +kernel
theorem dX0_holds_37 : decode cX0_holds 37 = .ok (.iconst 0, 1) := by decide +kernel
theorem dX0_holds_38 : decode cX0_holds 38 = .ok (.ireturn, 1) := by decide +kernel
theorem dX0_holds_39 : decode cX0_holds 39 = .ok (.iinc 4 1, 3) := by decide +kernel
theorem dX0_holds_42 : decode cX0_holds 42 = .ok (.goto (-26), 3) := by decide +kernel
theorem dX0_holds_45 : decode cX0_holds 45 = .ok (.iconst 1, 1) := by decide +kernel
theorem dX0_holds_46 : decode cX0_holds 46 = .ok (.ireturn, 1) := by decide +kernel
theorem dX0_isWhole_0 : decode cX0_isWhole 0 = .ok (.iload_n 1, 1) := by decide +kernel
theorem dX0_isWhole_1 : decode cX0_isWhole 1 = .ok (.invokestatic 181, 3) := by decide +kernel
theorem dX0_isWhole_4 : decode cX0_isWhole 4 = .ok (.istore_n 2, 1) := by decide +kernel
theorem dX0_isWhole_5 : decode cX0_isWhole 5 = .ok (.iload_n 2, 1) := by decide +kernel
theorem dX0_isWhole_6 : decode cX0_isWhole 6 = .ok (.aload_n 0, 1) := by decide +kernel
theorem dX0_isWhole_7 : decode cX0_isWhole 7 = .ok (.iload_n 1, 1) := by decide +kernel
theorem dX0_isWhole_8 : decode cX0_isWhole 8 = .ok (.invokevirtual 86, 3) := by decide +kernel
theorem dX0_isWhole_11 : decode cX0_isWhole 11 = .ok (.if_icmp .ge 20, 3) := by decide +kernel
theorem dX0_isWhole_14 : decode cX0_isWhole 14 = .ok (.aload_n 0, 1) := by decide +kernel
theorem dX0_isWhole_15 : decode cX0_isWhole 15 = .ok (.getfield 29, 3) := by decide +kernel
theorem dX0_isWhole_18 : decode cX0_isWhole 18 = .ok (.iload_n 2, 1) := by decide +kernel
theorem dX0_isWhole_19 : decode cX0_isWhole 19 = .ok (.baload, 1) := by decide +kernel
theorem dX0_isWhole_20 : decode cX0_isWhole 20 = .ok (.ifCond .eq 5, 3) := by decide +kernel
theorem dX0_isWhole_23 : decode cX0_isWhole 23 = .ok (.iconst 0, 1) := by decide +kernel
theorem dX0_isWhole_24 : decode cX0_isWhole 24 = .ok (.ireturn, 1) := by decide +kernel
theorem dX0_isWhole_25 : decode cX0_isWhole 25 = .ok (.iinc 2 1, 3) := by decide +kernel
theorem dX0_isWhole_28 : decode cX0_isWhole 28 = .ok (.goto (-23), 3) := by decide +kernel
theorem dX0_isWhole_31 : decode cX0_isWhole 31 = .ok (.aload_n 0, 1) := by decide +kernel
theorem dX0_isWhole_32 : decode cX0_isWhole 32 = .ok (.getfield 17, 3) := by decide +kernel
theorem dX0_isWhole_35 : decode cX0_isWhole 35 = .ok (.iload_n 1, 1) := by decide +kernel
theorem dX0_isWhole_36 : decode cX0_isWhole 36 = .ok (.iaload, 1) := by decide +kernel
theorem dX0_isWhole_37 : decode cX0_isWhole 37 = .ok (.ifCond .le 7, 3) := by decide +kernel
theorem dX0_isWhole_40 : decode cX0_isWhole 40 = .ok (.iconst 1, 1) := by decide +kernel
theorem dX0_isWhole_41 : decode cX0_isWhole 41 = .ok (.goto 4, 3) := by decide +kernel
theorem dX0_isWhole_44 : decode cX0_isWhole 44 = .ok (.iconst 0, 1) := by decide +kernel
theorem dX0_isWhole_45 : decode cX0_isWhole 45 = .ok (.ireturn, 1) := by decide +kernel
theorem dX0_stepHolds_0 : decode cX0_stepHolds 0 = .ok (.aload_n 0, 1) := by decide +kernel
theorem dX0_stepHolds_1 : decode cX0_stepHolds 1 = .ok (.getfield 23, 3) := by decide +kernel
theorem dX0_stepHolds_4 : decode cX0_stepHolds 4 = .ok (.iload_n 1, 1) := by decide +kernel
theorem dX0_stepHolds_5 : decode cX0_stepHolds 5 = .ok (.iaload, 1) := by decide +kernel
theorem dX0_stepHolds_6 : decode cX0_stepHolds 6 = .ok (.istore 4, 2) := by decide +kernel
theorem dX0_stepHolds_8 : decode cX0_stepHolds 8 = .ok (.aload_n 0, 1) := by decide +kernel
theorem dX0_stepHolds_9 : decode cX0_stepHolds 9 = .ok (.getfield 20, 3) := by decide +kernel
theorem dX0_stepHolds_12 : decode cX0_stepHolds 12 = .ok (.iload_n 1, 1) := by decide +kernel
theorem dX0_stepHolds_13 : decode cX0_stepHolds 13 = .ok (.iaload, 1) := by decide +kernel
theorem dX0_stepHolds_14 : decode cX0_stepHolds 14 = .ok (.ifCond .ne 27, 3) := by decide +kernel
theorem dX0_stepHolds_17 : decode cX0_stepHolds 17 = .ok (.iload 4, 2) := by decide +kernel
theorem dX0_stepHolds_19 : decode cX0_stepHolds 19 = .ok (.invokestatic 157, 3) := by decide +kernel
theorem dX0_stepHolds_22 : decode cX0_stepHolds 22 = .ok (.ifCond .eq 17, 3) := by decide +kernel
theorem dX0_stepHolds_25 : decode cX0_stepHolds 25 = .ok (.aload_n 0, 1) := by decide +kernel
theorem dX0_stepHolds_26 : decode cX0_stepHolds 26 = .ok (.getfield 9, 3) := by decide +kernel
theorem dX0_stepHolds_29 : decode cX0_stepHolds 29 = .ok (.iload 4, 2) := by decide +kernel
theorem dX0_stepHolds_31 : decode cX0_stepHolds 31 = .ok (.baload, 1) := by decide +kernel
theorem dX0_stepHolds_32 : decode cX0_stepHolds 32 = .ok (.ifCond .eq 7, 3) := by decide +kernel
theorem dX0_stepHolds_35 : decode cX0_stepHolds 35 = .ok (.iconst 1, 1) := by decide +kernel
theorem dX0_stepHolds_36 : decode cX0_stepHolds 36 = .ok (.goto 4, 3) := by decide +kernel
theorem dX0_stepHolds_39 : decode cX0_stepHolds 39 = .ok (.iconst 0, 1) := by decide +kernel
theorem dX0_stepHolds_40 : decode cX0_stepHolds 40 = .ok (.ireturn, 1) := by decide +kernel
theorem dX0_stepHolds_41 : decode cX0_stepHolds 41 = .ok (.aload_n 0, 1) := by decide +kernel
theorem dX0_stepHolds_42 : decode cX0_stepHolds 42 = .ok (.getfield 20, 3) := by decide +kernel
theorem dX0_stepHolds_45 : decode cX0_stepHolds 45 = .ok (.iload_n 1, 1) := by decide +kernel
theorem dX0_stepHolds_46 : decode cX0_stepHolds 46 = .ok (.iaload, 1) := by decide +kernel
theorem dX0_stepHolds_47 : decode cX0_stepHolds 47 = .ok (.iconst 1, 1) := by decide +kernel
theorem dX0_stepHolds_48 : decode cX0_stepHolds 48 = .ok (.if_icmp .ne 33, 3) := by decide +kernel
theorem dX0_stepHolds_51 : decode cX0_stepHolds 51 = .ok (.aload_n 0, 1) := by decide +kernel
theorem dX0_stepHolds_52 : decode cX0_stepHolds 52 = .ok (.iload 4, 2) := by decide +kernel
theorem dX0_stepHolds_54 : decode cX0_stepHolds 54 = .ok (.invokevirtual 166, 3) := by decide +kernel
theorem dX0_stepHolds_57 : decode cX0_stepHolds 57 = .ok (.ifCond .eq 22, 3) := by decide +kernel
theorem dX0_stepHolds_60 : decode cX0_stepHolds 60 = .ok (.aload_n 2, 1) := by decide +kernel
theorem dX0_stepHolds_61 : decode cX0_stepHolds 61 = .ok (.iload 4, 2) := by decide +kernel
theorem dX0_stepHolds_63 : decode cX0_stepHolds 63 = .ok (.iaload, 1) := by decide +kernel
theorem dX0_stepHolds_64 : decode cX0_stepHolds 64 = .ok (.ifCond .le 15, 3) := by decide +kernel
theorem dX0_stepHolds_67 : decode cX0_stepHolds 67 = .ok (.aload_n 2, 1) := by decide +kernel
theorem dX0_stepHolds_68 : decode cX0_stepHolds 68 = .ok (.iload 4, 2) := by decide +kernel
theorem dX0_stepHolds_70 : decode cX0_stepHolds 70 = .ok (.iaload, 1) := by decide +kernel
theorem dX0_stepHolds_71 : decode cX0_stepHolds 71 = .ok (.iload_n 3, 1) := by decide +kernel
theorem dX0_stepHolds_72 : decode cX0_stepHolds 72 = .ok (.if_icmp .ge 7, 3) := by decide +kernel
theorem dX0_stepHolds_75 : decode cX0_stepHolds 75 = .ok (.iconst 1, 1) := by decide +kernel
theorem dX0_stepHolds_76 : decode cX0_stepHolds 76 = .ok (.goto 4, 3) := by decide +kernel
theorem dX0_stepHolds_79 : decode cX0_stepHolds 79 = .ok (.iconst 0, 1) := by decide +kernel
theorem dX0_stepHolds_80 : decode cX0_stepHolds 80 = .ok (.ireturn, 1) := by decide +kernel
theorem dX0_stepHolds_81 : decode cX0_stepHolds 81 = .ok (.aload_n 0, 1) := by decide +kernel
theorem dX0_stepHolds_82 : decode cX0_stepHolds 82 = .ok (.getfield 26, 3) := by decide +kernel
theorem dX0_stepHolds_85 : decode cX0_stepHolds 85 = .ok (.iload_n 1, 1) := by decide +kernel
theorem dX0_stepHolds_86 : decode cX0_stepHolds 86 = .ok (.iaload, 1) := by decide +kernel
theorem dX0_stepHolds_87 : decode cX0_stepHolds 87 = .ok (.ifCond .ne 7, 3) := by decide +kernel
theorem dX0_stepHolds_90 : decode cX0_stepHolds 90 = .ok (.iconst 1, 1) := by decide +kernel
theorem dX0_stepHolds_91 : decode cX0_stepHolds 91 = .ok (.goto 4, 3) := by decide +kernel
theorem dX0_stepHolds_94 : decode cX0_stepHolds 94 = .ok (.iconst 0, 1) := by decide +kernel
theorem dX0_stepHolds_95 : decode cX0_stepHolds 95 = .ok (.ireturn, 1) := by decide +kernel
theorem dX0_reckon_0 : decode cX0_reckon 0 = .ok (.aload_n 1, 1) := by decide +kernel
theorem dX0_reckon_1 : decode cX0_reckon 1 = .ok (.sipush 9999, 3) := by decide +kernel
theorem dX0_reckon_4 : decode cX0_reckon 4 = .ok (.invokestatic 194, 3) := by decide +kernel
theorem dX0_reckon_7 : decode cX0_reckon 7 = .ok (.iconst 0, 1) := by decide +kernel
theorem dX0_reckon_8 : decode cX0_reckon 8 = .ok (.istore_n 3, 1) := by decide +kernel
theorem dX0_reckon_9 : decode cX0_reckon 9 = .ok (.iload_n 3, 1) := by decide +kernel
theorem dX0_reckon_10 : decode cX0_reckon 10 = .ok (.aload_n 0, 1) := by decide +kernel
theorem dX0_reckon_11 : decode cX0_reckon 11 = .ok (.getfield 57, 3) := by decide +kernel
theorem dX0_reckon_14 : decode cX0_reckon 14 = .ok (.if_icmp .ge 21, 3) := by decide +kernel
theorem dX0_reckon_17 : decode cX0_reckon 17 = .ok (.aload_n 0, 1) := by decide +kernel
theorem dX0_reckon_18 : decode cX0_reckon 18 = .ok (.aload_n 1, 1) := by decide +kernel
theorem dX0_reckon_19 : decode cX0_reckon 19 = .ok (.iload_n 2, 1) := by decide +kernel
theorem dX0_reckon_20 : decode cX0_reckon 20 = .ok (.invokevirtual 209, 3) := by decide +kernel
theorem dX0_reckon_23 : decode cX0_reckon 23 = .ok (.ifCond .ne 6, 3) := by decide +kernel
theorem dX0_reckon_26 : decode cX0_reckon 26 = .ok (.goto 9, 3) := by decide +kernel
theorem dX0_reckon_29 : decode cX0_reckon 29 = .ok (.iinc 3 1, 3) := by decide +kernel
theorem dX0_reckon_32 : decode cX0_reckon 32 = .ok (.goto (-23), 3) := by decide +kernel
theorem dX0_reckon_35 : decode cX0_reckon 35 = .ok (.return_, 1) := by decide +kernel
theorem dX0_reckonRound_0 : decode cX0_reckonRound 0 = .ok (.iconst 0, 1) := by decide +kernel
theorem dX0_reckonRound_1 : decode cX0_reckonRound 1 = .ok (.istore_n 3, 1) := by decide +kernel
theorem dX0_reckonRound_2 : decode cX0_reckonRound 2 = .ok (.iconst 0, 1) := by decide +kernel
theorem dX0_reckonRound_3 : decode cX0_reckonRound 3 = .ok (.istore 4, 2) := by decide +kernel
theorem dX0_reckonRound_5 : decode cX0_reckonRound 5 = .ok (.iload 4, 2) := by decide +kernel
theorem dX0_reckonRound_7 : decode cX0_reckonRound 7 = .ok (.aload_n 0, 1) := by decide +kernel
theorem dX0_reckonRound_8 : decode cX0_reckonRound 8 = .ok (.getfield 57, 3) := by decide +kernel
theorem dX0_reckonRound_11 : decode cX0_reckonRound 11 = .ok (.if_icmp .ge 62, 3) := by decide +kernel
theorem dX0_reckonRound_14 : decode cX0_reckonRound 14 = .ok (.iconst 0, 1) := by decide +kernel
theorem dX0_reckonRound_15 : decode cX0_reckonRound 15 = .ok (.istore 5, 2) := by decide +kernel
theorem dX0_reckonRound_17 : decode cX0_reckonRound 17 = .ok (.iload 5, 2) := by decide +kernel
theorem dX0_reckonRound_19 : decode cX0_reckonRound 19 = .ok (.aload_n 0, 1) := by decide +kernel
theorem dX0_reckonRound_20 : decode cX0_reckonRound 20 = .ok (.getfield 13, 3) := by decide +kernel
theorem dX0_reckonRound_23 : decode cX0_reckonRound 23 = .ok (.iload 4, 2) := by decide +kernel
theorem dX0_reckonRound_25 : decode cX0_reckonRound 25 = .ok (.iaload, 1) := by decide +kernel
theorem dX0_reckonRound_26 : decode cX0_reckonRound 26 = .ok (.if_icmp .ge 41, 3) := by decide +kernel
theorem dX0_reckonRound_29 : decode cX0_reckonRound 29 = .ok (.aload_n 0, 1) := by decide +kernel
theorem dX0_reckonRound_30 : decode cX0_reckonRound 30 = .ok (.iload 4, 2) := by decide +kernel
theorem dX0_reckonRound_32 : decode cX0_reckonRound 32 = .ok (.iload 5, 2) := by decide +kernel
theorem dX0_reckonRound_34 : decode cX0_reckonRound 34 = .ok (.invokestatic 73, 3) := by decide +kernel
theorem dX0_reckonRound_37 : decode cX0_reckonRound 37 = .ok (.aload_n 1, 1) := by decide +kernel
theorem dX0_reckonRound_38 : decode cX0_reckonRound 38 = .ok (.iload_n 2, 1) := by decide +kernel
theorem dX0_reckonRound_39 : decode cX0_reckonRound 39 = .ok (.invokevirtual 126, 3) := by decide +kernel
theorem dX0_reckonRound_42 : decode cX0_reckonRound 42 = .ok (.istore 6, 2) := by decide +kernel
theorem dX0_reckonRound_44 : decode cX0_reckonRound 44 = .ok (.iload 6, 2) := by decide +kernel
theorem dX0_reckonRound_46 : decode cX0_reckonRound 46 = .ok (.aload_n 1, 1) := by decide +kernel
theorem dX0_reckonRound_47 : decode cX0_reckonRound 47 = .ok (.iload 4, 2) := by decide +kernel
theorem dX0_reckonRound_49 : decode cX0_reckonRound 49 = .ok (.iaload, 1) := by decide +kernel
theorem dX0_reckonRound_50 : decode cX0_reckonRound 50 = .ok (.if_icmp .ge 11, 3) := by decide +kernel
theorem dX0_reckonRound_53 : decode cX0_reckonRound 53 = .ok (.aload_n 1, 1) := by decide +kernel
theorem dX0_reckonRound_54 : decode cX0_reckonRound 54 = .ok (.iload 4, 2) := by decide +kernel
theorem dX0_reckonRound_56 : decode cX0_reckonRound 56 = .ok (.iload 6, 2) := by decide +kernel
theorem dX0_reckonRound_58 : decode cX0_reckonRound 58 = .ok (.iastore, 1) := by decide +kernel
theorem dX0_reckonRound_59 : decode cX0_reckonRound 59 = .ok (.iconst 1, 1) := by decide +kernel
theorem dX0_reckonRound_60 : decode cX0_reckonRound 60 = .ok (.istore_n 3, 1) := by decide +kernel
theorem dX0_reckonRound_61 : decode cX0_reckonRound 61 = .ok (.iinc 5 1, 3) := by decide +kernel
theorem dX0_reckonRound_64 : decode cX0_reckonRound 64 = .ok (.goto (-47), 3) := by decide +kernel
theorem dX0_reckonRound_67 : decode cX0_reckonRound 67 = .ok (.iinc 4 1, 3) := by decide +kernel
theorem dX0_reckonRound_70 : decode cX0_reckonRound 70 = .ok (.goto (-65), 3) := by decide +kernel
theorem dX0_reckonRound_73 : decode cX0_reckonRound 73 = .ok (.iload_n 3, 1) := by decide +kernel
theorem dX0_reckonRound_74 : decode cX0_reckonRound 74 = .ok (.ireturn, 1) := by decide +kernel
theorem dX0_costOfProof_0 : decode cX0_costOfProof 0 = .ok (.aload_n 0, 1) := by decide +kernel
theorem dX0_costOfProof_1 : decode cX0_costOfProof 1 = .ok (.iload_n 1, 1) := by decide +kernel
theorem dX0_costOfProof_2 : decode cX0_costOfProof 2 = .ok (.invokevirtual 203, 3) := by decide +kernel
theorem dX0_costOfProof_5 : decode cX0_costOfProof 5 = .ok (.ifCond .ne 7, 3) := by decide +kernel
theorem dX0_costOfProof_8 : decode cX0_costOfProof 8 = .ok (.sipush 9999, 3) := by decide +kernel
theorem dX0_costOfProof_11 : decode cX0_costOfProof 11 = .ok (.ireturn, 1) := by decide +kernel
theorem dX0_costOfProof_12 : decode cX0_costOfProof 12 = .ok (.iload_n 3, 1) := by decide +kernel
theorem dX0_costOfProof_13 : decode cX0_costOfProof 13 = .ok (.ifCond .eq 7, 3) := by decide +kernel
theorem dX0_costOfProof_16 : decode cX0_costOfProof 16 = .ok (.iconst 0, 1) := by decide +kernel
theorem dX0_costOfProof_17 : decode cX0_costOfProof 17 = .ok (.goto 9, 3) := by decide +kernel
theorem dX0_costOfProof_20 : decode cX0_costOfProof 20 = .ok (.aload_n 0, 1) := by decide +kernel
theorem dX0_costOfProof_21 : decode cX0_costOfProof 21 = .ok (.getfield 17, 3) := by decide +kernel
theorem dX0_costOfProof_24 : decode cX0_costOfProof 24 = .ok (.iload_n 1, 1) := by decide +kernel
theorem dX0_costOfProof_25 : decode cX0_costOfProof 25 = .ok (.iaload, 1) := by decide +kernel
theorem dX0_costOfProof_26 : decode cX0_costOfProof 26 = .ok (.istore 4, 2) := by decide +kernel
theorem dX0_costOfProof_28 : decode cX0_costOfProof 28 = .ok (.iload_n 1, 1) := by decide +kernel
theorem dX0_costOfProof_29 : decode cX0_costOfProof 29 = .ok (.invokestatic 181, 3) := by decide +kernel
theorem dX0_costOfProof_32 : decode cX0_costOfProof 32 = .ok (.istore 5, 2) := by decide +kernel
theorem dX0_costOfProof_34 : decode cX0_costOfProof 34 = .ok (.iload 5, 2) := by decide +kernel
theorem dX0_costOfProof_36 : decode cX0_costOfProof 36 = .ok (.aload_n 0, 1) := by decide +kernel
theorem dX0_costOfProof_37 : decode cX0_costOfProof 37 = .ok (.iload_n 1, 1) := by decide +kernel
theorem dX0_costOfProof_38 : decode cX0_costOfProof 38 = .ok (.invokevirtual 86, 3) := by decide +kernel
theorem dX0_costOfProof_41 : decode cX0_costOfProof 41 = .ok (.if_icmp .ge 22, 3) := by decide +kernel
theorem dX0_costOfProof_44 : decode cX0_costOfProof 44 = .ok (.iload 4, 2) := by decide +kernel
theorem dX0_costOfProof_46 : decode cX0_costOfProof 46 = .ok (.aload_n 0, 1) := by decide +kernel
theorem dX0_costOfProof_47 : decode cX0_costOfProof 47 = .ok (.iload 5, 2) := by decide +kernel
theorem dX0_costOfProof_49 : decode cX0_costOfProof 49 = .ok (.aload_n 2, 1) := by decide +kernel
theorem dX0_costOfProof_50 : decode cX0_costOfProof 50 = .ok (.iload_n 3, 1) := by decide +kernel
theorem dX0_costOfProof_51 : decode cX0_costOfProof 51 = .ok (.invokevirtual 213, 3) := by decide +kernel
theorem dX0_costOfProof_54 : decode cX0_costOfProof 54 = .ok (.iadd, 1) := by decide +kernel
theorem dX0_costOfProof_55 : decode cX0_costOfProof 55 = .ok (.istore 4, 2) := by decide +kernel
theorem dX0_costOfProof_57 : decode cX0_costOfProof 57 = .ok (.iinc 5 1, 3) := by decide +kernel
theorem dX0_costOfProof_60 : decode cX0_costOfProof 60 = .ok (.goto (-26), 3) := by decide +kernel
theorem dX0_costOfProof_63 : decode cX0_costOfProof 63 = .ok (.iload 4, 2) := by decide +kernel
theorem dX0_costOfProof_65 : decode cX0_costOfProof 65 = .ok (.sipush 9999, 3) := by decide +kernel
theorem dX0_costOfProof_68 : decode cX0_costOfProof 68 = .ok (.invokestatic 216, 3) := by decide +kernel
theorem dX0_costOfProof_71 : decode cX0_costOfProof 71 = .ok (.ireturn, 1) := by decide +kernel
theorem dX0_costOfStep_0 : decode cX0_costOfStep 0 = .ok (.aload_n 0, 1) := by decide +kernel
theorem dX0_costOfStep_1 : decode cX0_costOfStep 1 = .ok (.getfield 23, 3) := by decide +kernel
theorem dX0_costOfStep_4 : decode cX0_costOfStep 4 = .ok (.iload_n 1, 1) := by decide +kernel
theorem dX0_costOfStep_5 : decode cX0_costOfStep 5 = .ok (.iaload, 1) := by decide +kernel
theorem dX0_costOfStep_6 : decode cX0_costOfStep 6 = .ok (.istore 4, 2) := by decide +kernel
theorem dX0_costOfStep_8 : decode cX0_costOfStep 8 = .ok (.aload_n 0, 1) := by decide +kernel
theorem dX0_costOfStep_9 : decode cX0_costOfStep 9 = .ok (.getfield 20, 3) := by decide +kernel
theorem dX0_costOfStep_12 : decode cX0_costOfStep 12 = .ok (.iload_n 1, 1) := by decide +kernel
theorem dX0_costOfStep_13 : decode cX0_costOfStep 13 = .ok (.iaload, 1) := by decide +kernel
theorem dX0_costOfStep_14 : decode cX0_costOfStep 14 = .ok (.ifCond .ne 29, 3) := by decide +kernel
theorem dX0_costOfStep_17 : decode cX0_costOfStep 17 = .ok (.iload 4, 2) := by decide +kernel
theorem dX0_costOfStep_19 : decode cX0_costOfStep 19 = .ok (.invokestatic 157, 3) := by decide +kernel
theorem dX0_costOfStep_22 : decode cX0_costOfStep 22 = .ok (.ifCond .eq 17, 3) := by decide +kernel
theorem dX0_costOfStep_25 : decode cX0_costOfStep 25 = .ok (.aload_n 0, 1) := by decide +kernel
theorem dX0_costOfStep_26 : decode cX0_costOfStep 26 = .ok (.getfield 9, 3) := by decide +kernel
theorem dX0_costOfStep_29 : decode cX0_costOfStep 29 = .ok (.iload 4, 2) := by decide +kernel
theorem dX0_costOfStep_31 : decode cX0_costOfStep 31 = .ok (.baload, 1) := by decide +kernel
theorem dX0_costOfStep_32 : decode cX0_costOfStep 32 = .ok (.ifCond .eq 7, 3) := by decide +kernel
theorem dX0_costOfStep_35 : decode cX0_costOfStep 35 = .ok (.iconst 0, 1) := by decide +kernel
theorem dX0_costOfStep_36 : decode cX0_costOfStep 36 = .ok (.goto 6, 3) := by decide +kernel
theorem dX0_costOfStep_39 : decode cX0_costOfStep 39 = .ok (.sipush 9999, 3) := by decide +kernel
theorem dX0_costOfStep_42 : decode cX0_costOfStep 42 = .ok (.ireturn, 1) := by decide +kernel
theorem dX0_costOfStep_43 : decode cX0_costOfStep 43 = .ok (.aload_n 0, 1) := by decide +kernel
theorem dX0_costOfStep_44 : decode cX0_costOfStep 44 = .ok (.getfield 20, 3) := by decide +kernel
theorem dX0_costOfStep_47 : decode cX0_costOfStep 47 = .ok (.iload_n 1, 1) := by decide +kernel
theorem dX0_costOfStep_48 : decode cX0_costOfStep 48 = .ok (.iaload, 1) := by decide +kernel
theorem dX0_costOfStep_49 : decode cX0_costOfStep 49 = .ok (.iconst 1, 1) := by decide +kernel
theorem dX0_costOfStep_50 : decode cX0_costOfStep 50 = .ok (.if_icmp .ne 23, 3) := by decide +kernel
theorem dX0_costOfStep_53 : decode cX0_costOfStep 53 = .ok (.aload_n 0, 1) := by decide +kernel
theorem dX0_costOfStep_54 : decode cX0_costOfStep 54 = .ok (.iload 4, 2) := by decide +kernel
theorem dX0_costOfStep_56 : decode cX0_costOfStep 56 = .ok (.invokevirtual 166, 3) := by decide +kernel
theorem dX0_costOfStep_59 : decode cX0_costOfStep 59 = .ok (.ifCond .eq 10, 3) := by decide +kernel
theorem dX0_costOfStep_62 : decode cX0_costOfStep 62 = .ok (.aload_n 2, 1) := by decide +kernel
theorem dX0_costOfStep_63 : decode cX0_costOfStep 63 = .ok (.iload 4, 2) := by decide +kernel
theorem dX0_costOfStep_65 : decode cX0_costOfStep 65 = .ok (.iaload, 1) := by decide +kernel
theorem dX0_costOfStep_66 : decode cX0_costOfStep 66 = .ok (.goto 6, 3) := by decide +kernel
theorem dX0_costOfStep_69 : decode cX0_costOfStep 69 = .ok (.sipush 9999, 3) := by decide +kernel
theorem dX0_costOfStep_72 : decode cX0_costOfStep 72 = .ok (.ireturn, 1) := by decide +kernel
theorem dX0_costOfStep_73 : decode cX0_costOfStep 73 = .ok (.iload_n 3, 1) := by decide +kernel
theorem dX0_costOfStep_74 : decode cX0_costOfStep 74 = .ok (.ifCond .eq 10, 3) := by decide +kernel
theorem dX0_costOfStep_77 : decode cX0_costOfStep 77 = .ok (.aload_n 0, 1) := by decide +kernel
theorem dX0_costOfStep_78 : decode cX0_costOfStep 78 = .ok (.getfield 26, 3) := by decide +kernel
theorem dX0_costOfStep_81 : decode cX0_costOfStep 81 = .ok (.iload_n 1, 1) := by decide +kernel
theorem dX0_costOfStep_82 : decode cX0_costOfStep 82 = .ok (.iaload, 1) := by decide +kernel
theorem dX0_costOfStep_83 : decode cX0_costOfStep 83 = .ok (.ireturn, 1) := by decide +kernel
theorem dX0_costOfStep_84 : decode cX0_costOfStep 84 = .ok (.aload_n 0, 1) := by decide +kernel
theorem dX0_costOfStep_85 : decode cX0_costOfStep 85 = .ok (.getfield 26, 3) := by decide +kernel
theorem dX0_costOfStep_88 : decode cX0_costOfStep 88 = .ok (.iload_n 1, 1) := by decide +kernel
theorem dX0_costOfStep_89 : decode cX0_costOfStep 89 = .ok (.iaload, 1) := by decide +kernel
theorem dX0_costOfStep_90 : decode cX0_costOfStep 90 = .ok (.ifCond .ne 7, 3) := by decide +kernel
theorem dX0_costOfStep_93 : decode cX0_costOfStep 93 = .ok (.iconst 0, 1) := by decide +kernel
theorem dX0_costOfStep_94 : decode cX0_costOfStep 94 = .ok (.goto 6, 3) := by decide +kernel
theorem dX0_costOfStep_97 : decode cX0_costOfStep 97 = .ok (.sipush 9999, 3) := by decide +kernel
theorem dX0_costOfStep_100 : decode cX0_costOfStep 100 = .ok (.ireturn, 1) := by decide +kernel
theorem dX0_orNone_0 : decode cX0_orNone 0 = .ok (.iload_n 0, 1) := by decide +kernel
theorem dX0_orNone_1 : decode cX0_orNone 1 = .ok (.sipush 9999, 3) := by decide +kernel
theorem dX0_orNone_4 : decode cX0_orNone 4 = .ok (.if_icmp .lt 7, 3) := by decide +kernel
theorem dX0_orNone_7 : decode cX0_orNone 7 = .ok (.iconst (-1), 1) := by decide +kernel
theorem dX0_orNone_8 : decode cX0_orNone 8 = .ok (.goto 4, 3) := by decide +kernel
theorem dX0_orNone_11 : decode cX0_orNone 11 = .ok (.iload_n 0, 1) := by decide +kernel
theorem dX0_orNone_12 : decode cX0_orNone 12 = .ok (.ireturn, 1) := by decide +kernel
theorem dX0_lemmasCitedBy_0 : decode cX0_lemmasCitedBy 0 = .ok (.iconst 0, 1) := by decide +kernel
theorem dX0_lemmasCitedBy_1 : decode cX0_lemmasCitedBy 1 = .ok (.istore_n 2, 1) := by decide +kernel
theorem dX0_lemmasCitedBy_2 : decode cX0_lemmasCitedBy 2 = .ok (.iconst 0, 1) := by decide +kernel
theorem dX0_lemmasCitedBy_3 : decode cX0_lemmasCitedBy 3 = .ok (.istore_n 3, 1) := by decide +kernel
theorem dX0_lemmasCitedBy_4 : decode cX0_lemmasCitedBy 4 = .ok (.iload_n 3, 1) := by decide +kernel
theorem dX0_lemmasCitedBy_5 : decode cX0_lemmasCitedBy 5 = .ok (.aload_n 0, 1) := by decide +kernel
theorem dX0_lemmasCitedBy_6 : decode cX0_lemmasCitedBy 6 = .ok (.getfield 13, 3) := by decide +kernel
theorem dX0_lemmasCitedBy_9 : decode cX0_lemmasCitedBy 9 = .ok (.iload_n 1, 1) := by decide +kernel
theorem dX0_lemmasCitedBy_10 : decode cX0_lemmasCitedBy 10 = .ok (.iaload, 1) := by decide +kernel
theorem dX0_lemmasCitedBy_11 : decode cX0_lemmasCitedBy 11 = .ok (.if_icmp .ge 63, 3) := by decide +kernel
theorem dX0_lemmasCitedBy_14 : decode cX0_lemmasCitedBy 14 = .ok (.iload_n 1, 1) := by decide +kernel
theorem dX0_lemmasCitedBy_15 : decode cX0_lemmasCitedBy 15 = .ok (.iload_n 3, 1) := by decide +kernel
theorem dX0_lemmasCitedBy_16 : decode cX0_lemmasCitedBy 16 = .ok (.invokestatic 73, 3) := by decide +kernel
theorem dX0_lemmasCitedBy_19 : decode cX0_lemmasCitedBy 19 = .ok (.istore 4, 2) := by decide +kernel
theorem dX0_lemmasCitedBy_21 : decode cX0_lemmasCitedBy 21 = .ok (.iload 4, 2) := by decide +kernel
theorem dX0_lemmasCitedBy_23 : decode cX0_lemmasCitedBy 23 = .ok (.invokestatic 181, 3) := by decide +kernel
theorem dX0_lemmasCitedBy_26 : decode cX0_lemmasCitedBy 26 = .ok (.istore 5, 2) := by decide +kernel
theorem dX0_lemmasCitedBy_28 : decode cX0_lemmasCitedBy 28 = .ok (.iload 5, 2) := by decide +kernel
theorem dX0_lemmasCitedBy_30 : decode cX0_lemmasCitedBy 30 = .ok (.aload_n 0, 1) := by decide +kernel
theorem dX0_lemmasCitedBy_31 : decode cX0_lemmasCitedBy 31 = .ok (.iload 4, 2) := by decide +kernel
theorem dX0_lemmasCitedBy_33 : decode cX0_lemmasCitedBy 33 = .ok (.invokevirtual 86, 3) := by decide +kernel
theorem dX0_lemmasCitedBy_36 : decode cX0_lemmasCitedBy 36 = .ok (.if_icmp .ge 32, 3) := by decide +kernel
theorem dX0_lemmasCitedBy_39 : decode cX0_lemmasCitedBy 39 = .ok (.aload_n 0, 1) := by decide +kernel
theorem dX0_lemmasCitedBy_40 : decode cX0_lemmasCitedBy 40 = .ok (.getfield 20, 3) := by decide +kernel
theorem dX0_lemmasCitedBy_43 : decode cX0_lemmasCitedBy 43 = .ok (.iload 5, 2) := by decide +kernel
theorem dX0_lemmasCitedBy_45 : decode cX0_lemmasCitedBy 45 = .ok (.iaload, 1) := by decide +kernel
theorem dX0_lemmasCitedBy_46 : decode cX0_lemmasCitedBy 46 = .ok (.iconst 1, 1) := by decide +kernel
theorem dX0_lemmasCitedBy_47 : decode cX0_lemmasCitedBy 47 = .ok (.if_icmp .ne 15, 3) := by decide +kernel
theorem dX0_lemmasCitedBy_50 : decode cX0_lemmasCitedBy 50 = .ok (.iload_n 2, 1) := by decide +kernel
theorem dX0_lemmasCitedBy_51 : decode cX0_lemmasCitedBy 51 = .ok (.iconst 1, 1) := by decide +kernel
theorem dX0_lemmasCitedBy_52 : decode cX0_lemmasCitedBy 52 = .ok (.aload_n 0, 1) := by decide +kernel
theorem dX0_lemmasCitedBy_53 : decode cX0_lemmasCitedBy 53 = .ok (.getfield 23, 3) := by decide +kernel
theorem dX0_lemmasCitedBy_56 : decode cX0_lemmasCitedBy 56 = .ok (.iload 5, 2) := by decide +kernel
theorem dX0_lemmasCitedBy_58 : decode cX0_lemmasCitedBy 58 = .ok (.iaload, 1) := by decide +kernel
theorem dX0_lemmasCitedBy_59 : decode cX0_lemmasCitedBy 59 = .ok (.ishl, 1) := by decide +kernel
theorem dX0_lemmasCitedBy_60 : decode cX0_lemmasCitedBy 60 = .ok (.ior, 1) := by decide +kernel
theorem dX0_lemmasCitedBy_61 : decode cX0_lemmasCitedBy 61 = .ok (.istore_n 2, 1) := by decide +kernel
theorem dX0_lemmasCitedBy_62 : decode cX0_lemmasCitedBy 62 = .ok (.iinc 5 1, 3) := by decide +kernel
theorem dX0_lemmasCitedBy_65 : decode cX0_lemmasCitedBy 65 = .ok (.goto (-37), 3) := by decide +kernel
theorem dX0_lemmasCitedBy_68 : decode cX0_lemmasCitedBy 68 = .ok (.iinc 3 1, 3) := by decide +kernel
theorem dX0_lemmasCitedBy_71 : decode cX0_lemmasCitedBy 71 = .ok (.goto (-67), 3) := by decide +kernel
theorem dX0_lemmasCitedBy_74 : decode cX0_lemmasCitedBy 74 = .ok (.iload_n 2, 1) := by decide +kernel
theorem dX0_lemmasCitedBy_75 : decode cX0_lemmasCitedBy 75 = .ok (.ireturn, 1) := by decide +kernel
theorem dX0_lemmasCitedByAll_0 : decode cX0_lemmasCitedByAll 0 = .ok (.iconst 0, 1) := by decide +kernel
theorem dX0_lemmasCitedByAll_1 : decode cX0_lemmasCitedByAll 1 = .ok (.istore_n 2, 1) := by decide +kernel
theorem dX0_lemmasCitedByAll_2 : decode cX0_lemmasCitedByAll 2 = .ok (.iconst 0, 1) := by decide +kernel
theorem dX0_lemmasCitedByAll_3 : decode cX0_lemmasCitedByAll 3 = .ok (.istore_n 3, 1) := by decide +kernel
theorem dX0_lemmasCitedByAll_4 : decode cX0_lemmasCitedByAll 4 = .ok (.iload_n 3, 1) := by decide +kernel
theorem dX0_lemmasCitedByAll_5 : decode cX0_lemmasCitedByAll 5 = .ok (.aload_n 0, 1) := by decide +kernel
theorem dX0_lemmasCitedByAll_6 : decode cX0_lemmasCitedByAll 6 = .ok (.getfield 57, 3) := by decide +kernel
theorem dX0_lemmasCitedByAll_9 : decode cX0_lemmasCitedByAll 9 = .ok (.if_icmp .ge 26, 3) := by decide +kernel
theorem dX0_lemmasCitedByAll_12 : decode cX0_lemmasCitedByAll 12 = .ok (.iload_n 3, 1) := by decide +kernel
theorem dX0_lemmasCitedByAll_13 : decode cX0_lemmasCitedByAll 13 = .ok (.iload_n 1, 1) := by decide +kernel
theorem dX0_lemmasCitedByAll_14 : decode cX0_lemmasCitedByAll 14 = .ok (.invokestatic 219, 3) := by decide +kernel
theorem dX0_lemmasCitedByAll_17 : decode cX0_lemmasCitedByAll 17 = .ok (.ifCond .eq 12, 3) := by decide +kernel
theorem dX0_lemmasCitedByAll_20 : decode cX0_lemmasCitedByAll 20 = .ok (.iload_n 2, 1) := by decide +kernel
theorem dX0_lemmasCitedByAll_21 : decode cX0_lemmasCitedByAll 21 = .ok (.aload_n 0, 1) := by decide +kernel
theorem dX0_lemmasCitedByAll_22 : decode cX0_lemmasCitedByAll 22 = .ok (.getfield 41, 3) := by decide +kernel
theorem dX0_lemmasCitedByAll_25 : decode cX0_lemmasCitedByAll 25 = .ok (.iload_n 3, 1) := by decide +kernel
theorem dX0_lemmasCitedByAll_26 : decode cX0_lemmasCitedByAll 26 = .ok (.iaload, 1) := by decide +kernel
theorem dX0_lemmasCitedByAll_27 : decode cX0_lemmasCitedByAll 27 = .ok (.ior, 1) := by decide +kernel
theorem dX0_lemmasCitedByAll_28 : decode cX0_lemmasCitedByAll 28 = .ok (.istore_n 2, 1) := by decide +kernel
theorem dX0_lemmasCitedByAll_29 : decode cX0_lemmasCitedByAll 29 = .ok (.iinc 3 1, 3) := by decide +kernel
theorem dX0_lemmasCitedByAll_32 : decode cX0_lemmasCitedByAll 32 = .ok (.goto (-28), 3) := by decide +kernel
theorem dX0_lemmasCitedByAll_35 : decode cX0_lemmasCitedByAll 35 = .ok (.iload_n 2, 1) := by decide +kernel
theorem dX0_lemmasCitedByAll_36 : decode cX0_lemmasCitedByAll 36 = .ok (.ireturn, 1) := by decide +kernel
theorem dX0_isIn_0 : decode cX0_isIn 0 = .ok (.iload_n 1, 1) := by decide +kernel
theorem dX0_isIn_1 : decode cX0_isIn 1 = .ok (.iconst 1, 1) := by decide +kernel
theorem dX0_isIn_2 : decode cX0_isIn 2 = .ok (.iload_n 0, 1) := by decide +kernel
theorem dX0_isIn_3 : decode cX0_isIn 3 = .ok (.ishl, 1) := by decide +kernel
theorem dX0_isIn_4 : decode cX0_isIn 4 = .ok (.iand, 1) := by decide +kernel
theorem dX0_isIn_5 : decode cX0_isIn 5 = .ok (.ifCond .eq 7, 3) := by decide +kernel
theorem dX0_isIn_8 : decode cX0_isIn 8 = .ok (.iconst 1, 1) := by decide +kernel
theorem dX0_isIn_9 : decode cX0_isIn 9 = .ok (.goto 4, 3) := by decide +kernel
theorem dX0_isIn_12 : decode cX0_isIn 12 = .ok (.iconst 0, 1) := by decide +kernel
theorem dX0_isIn_13 : decode cX0_isIn 13 = .ok (.ireturn, 1) := by decide +kernel
theorem dX0_citesToItself_0 : decode cX0_citesToItself 0 = .ok (.aload_n 0, 1) := by decide +kernel
theorem dX0_citesToItself_1 : decode cX0_citesToItself 1 = .ok (.getfield 41, 3) := by decide +kernel
theorem dX0_citesToItself_4 : decode cX0_citesToItself 4 = .ok (.iload_n 1, 1) := by decide +kernel
theorem dX0_citesToItself_5 : decode cX0_citesToItself 5 = .ok (.iaload, 1) := by decide +kernel
theorem dX0_citesToItself_6 : decode cX0_citesToItself 6 = .ok (.istore_n 2, 1) := by decide +kernel
theorem dX0_citesToItself_7 : decode cX0_citesToItself 7 = .ok (.iconst 1, 1) := by decide +kernel
theorem dX0_citesToItself_8 : decode cX0_citesToItself 8 = .ok (.istore_n 3, 1) := by decide +kernel
theorem dX0_citesToItself_9 : decode cX0_citesToItself 9 = .ok (.iload_n 3, 1) := by decide +kernel
theorem dX0_citesToItself_10 : decode cX0_citesToItself 10 = .ok (.aload_n 0, 1) := by decide +kernel
theorem dX0_citesToItself_11 : decode cX0_citesToItself 11 = .ok (.getfield 57, 3) := by decide +kernel
theorem dX0_citesToItself_14 : decode cX0_citesToItself 14 = .ok (.if_icmp .gt 25, 3) := by decide +kernel
theorem dX0_citesToItself_17 : decode cX0_citesToItself 17 = .ok (.iload_n 1, 1) := by decide +kernel
theorem dX0_citesToItself_18 : decode cX0_citesToItself 18 = .ok (.iload_n 2, 1) := by decide +kernel
theorem dX0_citesToItself_19 : decode cX0_citesToItself 19 = .ok (.invokestatic 219, 3) := by decide +kernel
theorem dX0_citesToItself_22 : decode cX0_citesToItself 22 = .ok (.ifCond .eq 5, 3) := by decide +kernel
theorem dX0_citesToItself_25 : decode cX0_citesToItself 25 = .ok (.iload_n 3, 1) := by decide +kernel
theorem dX0_citesToItself_26 : decode cX0_citesToItself 26 = .ok (.ireturn, 1) := by decide +kernel
theorem dX0_citesToItself_27 : decode cX0_citesToItself 27 = .ok (.aload_n 0, 1) := by decide +kernel
theorem dX0_citesToItself_28 : decode cX0_citesToItself 28 = .ok (.iload_n 2, 1) := by decide +kernel
theorem dX0_citesToItself_29 : decode cX0_citesToItself 29 = .ok (.invokevirtual 223, 3) := by decide +kernel
theorem dX0_citesToItself_32 : decode cX0_citesToItself 32 = .ok (.istore_n 2, 1) := by decide +kernel
theorem dX0_citesToItself_33 : decode cX0_citesToItself 33 = .ok (.iinc 3 1, 3) := by decide +kernel
theorem dX0_citesToItself_36 : decode cX0_citesToItself 36 = .ok (.goto (-27), 3) := by decide +kernel
theorem dX0_citesToItself_39 : decode cX0_citesToItself 39 = .ok (.iconst 0, 1) := by decide +kernel
theorem dX0_citesToItself_40 : decode cX0_citesToItself 40 = .ok (.ireturn, 1) := by decide +kernel
theorem dX0_lemmaTells_0 : decode cX0_lemmaTells 0 = .ok (.iload_n 2, 1) := by decide +kernel
theorem dX0_lemmaTells_1 : decode cX0_lemmaTells 1 = .ok (.tableswitch 85 0 5 #[39, 46, 52, 59, 69, 79], 39) := by decide +kernel
theorem dX0_lemmaTells_40 : decode cX0_lemmaTells 40 = .ok (.aload_n 0, 1) := by decide +kernel
theorem dX0_lemmaTells_41 : decode cX0_lemmaTells 41 = .ok (.getfield 13, 3) := by decide +kernel
theorem dX0_lemmaTells_44 : decode cX0_lemmaTells 44 = .ok (.iload_n 1, 1) := by decide +kernel
theorem dX0_lemmaTells_45 : decode cX0_lemmaTells 45 = .ok (.iaload, 1) := by decide +kernel
theorem dX0_lemmaTells_46 : decode cX0_lemmaTells 46 = .ok (.ireturn, 1) := by decide +kernel
theorem dX0_lemmaTells_47 : decode cX0_lemmaTells 47 = .ok (.aload_n 0, 1) := by decide +kernel
theorem dX0_lemmaTells_48 : decode cX0_lemmaTells 48 = .ok (.iload_n 1, 1) := by decide +kernel
theorem dX0_lemmaTells_49 : decode cX0_lemmaTells 49 = .ok (.invokevirtual 226, 3) := by decide +kernel
theorem dX0_lemmaTells_52 : decode cX0_lemmaTells 52 = .ok (.ireturn, 1) := by decide +kernel
theorem dX0_lemmaTells_53 : decode cX0_lemmaTells 53 = .ok (.aload_n 0, 1) := by decide +kernel
theorem dX0_lemmaTells_54 : decode cX0_lemmaTells 54 = .ok (.getfield 32, 3) := by decide +kernel
theorem dX0_lemmaTells_57 : decode cX0_lemmaTells 57 = .ok (.iload_n 1, 1) := by decide +kernel
theorem dX0_lemmaTells_58 : decode cX0_lemmaTells 58 = .ok (.iaload, 1) := by decide +kernel
theorem dX0_lemmaTells_59 : decode cX0_lemmaTells 59 = .ok (.ireturn, 1) := by decide +kernel
theorem dX0_lemmaTells_60 : decode cX0_lemmaTells 60 = .ok (.aload_n 0, 1) := by decide +kernel
theorem dX0_lemmaTells_61 : decode cX0_lemmaTells 61 = .ok (.getfield 35, 3) := by decide +kernel
theorem dX0_lemmaTells_64 : decode cX0_lemmaTells 64 = .ok (.iload_n 1, 1) := by decide +kernel
theorem dX0_lemmaTells_65 : decode cX0_lemmaTells 65 = .ok (.iaload, 1) := by decide +kernel
theorem dX0_lemmaTells_66 : decode cX0_lemmaTells 66 = .ok (.invokestatic 130, 3) := by decide +kernel
theorem dX0_lemmaTells_69 : decode cX0_lemmaTells 69 = .ok (.ireturn, 1) := by decide +kernel
theorem dX0_lemmaTells_70 : decode cX0_lemmaTells 70 = .ok (.aload_n 0, 1) := by decide +kernel
theorem dX0_lemmaTells_71 : decode cX0_lemmaTells 71 = .ok (.getfield 38, 3) := by decide +kernel
theorem dX0_lemmaTells_74 : decode cX0_lemmaTells 74 = .ok (.iload_n 1, 1) := by decide +kernel
theorem dX0_lemmaTells_75 : decode cX0_lemmaTells 75 = .ok (.iaload, 1) := by decide +kernel
theorem dX0_lemmaTells_76 : decode cX0_lemmaTells 76 = .ok (.invokestatic 130, 3) := by decide +kernel
theorem dX0_lemmaTells_79 : decode cX0_lemmaTells 79 = .ok (.ireturn, 1) := by decide +kernel
theorem dX0_lemmaTells_80 : decode cX0_lemmaTells 80 = .ok (.aload_n 0, 1) := by decide +kernel
theorem dX0_lemmaTells_81 : decode cX0_lemmaTells 81 = .ok (.iload_n 1, 1) := by decide +kernel
theorem dX0_lemmaTells_82 : decode cX0_lemmaTells 82 = .ok (.invokevirtual 229, 3) := by decide +kernel
theorem dX0_lemmaTells_85 : decode cX0_lemmaTells 85 = .ok (.ireturn, 1) := by decide +kernel
theorem dX0_lemmaTells_86 : decode cX0_lemmaTells 86 = .ok (.aload_n 0, 1) := by decide +kernel
theorem dX0_lemmaTells_87 : decode cX0_lemmaTells 87 = .ok (.getfield 44, 3) := by decide +kernel
theorem dX0_lemmaTells_90 : decode cX0_lemmaTells 90 = .ok (.iload_n 1, 1) := by decide +kernel
theorem dX0_lemmaTells_91 : decode cX0_lemmaTells 91 = .ok (.iaload, 1) := by decide +kernel
theorem dX0_lemmaTells_92 : decode cX0_lemmaTells 92 = .ok (.ireturn, 1) := by decide +kernel
theorem dX0_stepsOf_0 : decode cX0_stepsOf 0 = .ok (.iconst 0, 1) := by decide +kernel
theorem dX0_stepsOf_1 : decode cX0_stepsOf 1 = .ok (.istore_n 2, 1) := by decide +kernel
theorem dX0_stepsOf_2 : decode cX0_stepsOf 2 = .ok (.iconst 0, 1) := by decide +kernel
theorem dX0_stepsOf_3 : decode cX0_stepsOf 3 = .ok (.istore_n 3, 1) := by decide +kernel
theorem dX0_stepsOf_4 : decode cX0_stepsOf 4 = .ok (.iload_n 3, 1) := by decide +kernel
theorem dX0_stepsOf_5 : decode cX0_stepsOf 5 = .ok (.aload_n 0, 1) := by decide +kernel
theorem dX0_stepsOf_6 : decode cX0_stepsOf 6 = .ok (.getfield 13, 3) := by decide +kernel
theorem dX0_stepsOf_9 : decode cX0_stepsOf 9 = .ok (.iload_n 1, 1) := by decide +kernel
theorem dX0_stepsOf_10 : decode cX0_stepsOf 10 = .ok (.iaload, 1) := by decide +kernel
theorem dX0_stepsOf_11 : decode cX0_stepsOf 11 = .ok (.if_icmp .ge 22, 3) := by decide +kernel
theorem dX0_stepsOf_14 : decode cX0_stepsOf 14 = .ok (.iload_n 2, 1) := by decide +kernel
theorem dX0_stepsOf_15 : decode cX0_stepsOf 15 = .ok (.aload_n 0, 1) := by decide +kernel
theorem dX0_stepsOf_16 : decode cX0_stepsOf 16 = .ok (.getfield 17, 3) := by decide +kernel
theorem dX0_stepsOf_19 : decode cX0_stepsOf 19 = .ok (.iload_n 1, 1) := by decide +kernel
theorem dX0_stepsOf_20 : decode cX0_stepsOf 20 = .ok (.iload_n 3, 1) := by decide +kernel
theorem dX0_stepsOf_21 : decode cX0_stepsOf 21 = .ok (.invokestatic 73, 3) := by decide +kernel
theorem dX0_stepsOf_24 : decode cX0_stepsOf 24 = .ok (.iaload, 1) := by decide +kernel
theorem dX0_stepsOf_25 : decode cX0_stepsOf 25 = .ok (.iadd, 1) := by decide +kernel
theorem dX0_stepsOf_26 : decode cX0_stepsOf 26 = .ok (.istore_n 2, 1) := by decide +kernel
theorem dX0_stepsOf_27 : decode cX0_stepsOf 27 = .ok (.iinc 3 1, 3) := by decide +kernel
theorem dX0_stepsOf_30 : decode cX0_stepsOf 30 = .ok (.goto (-26), 3) := by decide +kernel
theorem dX0_stepsOf_33 : decode cX0_stepsOf 33 = .ok (.iload_n 2, 1) := by decide +kernel
theorem dX0_stepsOf_34 : decode cX0_stepsOf 34 = .ok (.ireturn, 1) := by decide +kernel
theorem dX0_openOf_0 : decode cX0_openOf 0 = .ok (.iconst 0, 1) := by decide +kernel
theorem dX0_openOf_1 : decode cX0_openOf 1 = .ok (.istore_n 2, 1) := by decide +kernel
theorem dX0_openOf_2 : decode cX0_openOf 2 = .ok (.iconst 0, 1) := by decide +kernel
theorem dX0_openOf_3 : decode cX0_openOf 3 = .ok (.istore_n 3, 1) := by decide +kernel
theorem dX0_openOf_4 : decode cX0_openOf 4 = .ok (.iload_n 3, 1) := by decide +kernel
theorem dX0_openOf_5 : decode cX0_openOf 5 = .ok (.aload_n 0, 1) := by decide +kernel
theorem dX0_openOf_6 : decode cX0_openOf 6 = .ok (.getfield 13, 3) := by decide +kernel
theorem dX0_openOf_9 : decode cX0_openOf 9 = .ok (.iload_n 1, 1) := by decide +kernel
theorem dX0_openOf_10 : decode cX0_openOf 10 = .ok (.iaload, 1) := by decide +kernel
theorem dX0_openOf_11 : decode cX0_openOf 11 = .ok (.if_icmp .ge 50, 3) := by decide +kernel
theorem dX0_openOf_14 : decode cX0_openOf 14 = .ok (.iload_n 1, 1) := by decide +kernel
theorem dX0_openOf_15 : decode cX0_openOf 15 = .ok (.iload_n 3, 1) := by decide +kernel
theorem dX0_openOf_16 : decode cX0_openOf 16 = .ok (.invokestatic 73, 3) := by decide +kernel
theorem dX0_openOf_19 : decode cX0_openOf 19 = .ok (.istore 4, 2) := by decide +kernel
theorem dX0_openOf_21 : decode cX0_openOf 21 = .ok (.iload 4, 2) := by decide +kernel
theorem dX0_openOf_23 : decode cX0_openOf 23 = .ok (.invokestatic 181, 3) := by decide +kernel
theorem dX0_openOf_26 : decode cX0_openOf 26 = .ok (.istore 5, 2) := by decide +kernel
theorem dX0_openOf_28 : decode cX0_openOf 28 = .ok (.iload 5, 2) := by decide +kernel
theorem dX0_openOf_30 : decode cX0_openOf 30 = .ok (.aload_n 0, 1) := by decide +kernel
theorem dX0_openOf_31 : decode cX0_openOf 31 = .ok (.iload 4, 2) := by decide +kernel
theorem dX0_openOf_33 : decode cX0_openOf 33 = .ok (.invokevirtual 86, 3) := by decide +kernel
theorem dX0_openOf_36 : decode cX0_openOf 36 = .ok (.if_icmp .ge 19, 3) := by decide +kernel
theorem dX0_openOf_39 : decode cX0_openOf 39 = .ok (.iload_n 2, 1) := by decide +kernel
theorem dX0_openOf_40 : decode cX0_openOf 40 = .ok (.aload_n 0, 1) := by decide +kernel
theorem dX0_openOf_41 : decode cX0_openOf 41 = .ok (.getfield 26, 3) := by decide +kernel
theorem dX0_openOf_44 : decode cX0_openOf 44 = .ok (.iload 5, 2) := by decide +kernel
theorem dX0_openOf_46 : decode cX0_openOf 46 = .ok (.iaload, 1) := by decide +kernel
theorem dX0_openOf_47 : decode cX0_openOf 47 = .ok (.iadd, 1) := by decide +kernel
theorem dX0_openOf_48 : decode cX0_openOf 48 = .ok (.istore_n 2, 1) := by decide +kernel
theorem dX0_openOf_49 : decode cX0_openOf 49 = .ok (.iinc 5 1, 3) := by decide +kernel
theorem dX0_openOf_52 : decode cX0_openOf 52 = .ok (.goto (-24), 3) := by decide +kernel
theorem dX0_openOf_55 : decode cX0_openOf 55 = .ok (.iinc 3 1, 3) := by decide +kernel
theorem dX0_openOf_58 : decode cX0_openOf 58 = .ok (.goto (-54), 3) := by decide +kernel
theorem dX0_openOf_61 : decode cX0_openOf 61 = .ok (.iload_n 2, 1) := by decide +kernel
theorem dX0_openOf_62 : decode cX0_openOf 62 = .ok (.ireturn, 1) := by decide +kernel
theorem dX0_stepTells_0 : decode cX0_stepTells 0 = .ok (.iload_n 2, 1) := by decide +kernel
theorem dX0_stepTells_1 : decode cX0_stepTells 1 = .ok (.tableswitch 48 0 2 #[27, 34, 41], 27) := by decide +kernel
theorem dX0_stepTells_28 : decode cX0_stepTells 28 = .ok (.aload_n 0, 1) := by decide +kernel
theorem dX0_stepTells_29 : decode cX0_stepTells 29 = .ok (.getfield 20, 3) := by decide +kernel
theorem dX0_stepTells_32 : decode cX0_stepTells 32 = .ok (.iload_n 1, 1) := by decide +kernel
theorem dX0_stepTells_33 : decode cX0_stepTells 33 = .ok (.iaload, 1) := by decide +kernel
theorem dX0_stepTells_34 : decode cX0_stepTells 34 = .ok (.ireturn, 1) := by decide +kernel
theorem dX0_stepTells_35 : decode cX0_stepTells 35 = .ok (.aload_n 0, 1) := by decide +kernel
theorem dX0_stepTells_36 : decode cX0_stepTells 36 = .ok (.getfield 23, 3) := by decide +kernel
theorem dX0_stepTells_39 : decode cX0_stepTells 39 = .ok (.iload_n 1, 1) := by decide +kernel
theorem dX0_stepTells_40 : decode cX0_stepTells 40 = .ok (.iaload, 1) := by decide +kernel
theorem dX0_stepTells_41 : decode cX0_stepTells 41 = .ok (.ireturn, 1) := by decide +kernel
theorem dX0_stepTells_42 : decode cX0_stepTells 42 = .ok (.aload_n 0, 1) := by decide +kernel
theorem dX0_stepTells_43 : decode cX0_stepTells 43 = .ok (.getfield 26, 3) := by decide +kernel
theorem dX0_stepTells_46 : decode cX0_stepTells 46 = .ok (.iload_n 1, 1) := by decide +kernel
theorem dX0_stepTells_47 : decode cX0_stepTells 47 = .ok (.iaload, 1) := by decide +kernel
theorem dX0_stepTells_48 : decode cX0_stepTells 48 = .ok (.ireturn, 1) := by decide +kernel
theorem dX0_stepTells_49 : decode cX0_stepTells 49 = .ok (.aload_n 0, 1) := by decide +kernel
theorem dX0_stepTells_50 : decode cX0_stepTells 50 = .ok (.getfield 29, 3) := by decide +kernel
theorem dX0_stepTells_53 : decode cX0_stepTells 53 = .ok (.iload_n 1, 1) := by decide +kernel
theorem dX0_stepTells_54 : decode cX0_stepTells 54 = .ok (.baload, 1) := by decide +kernel
theorem dX0_stepTells_55 : decode cX0_stepTells 55 = .ok (.ifCond .eq 7, 3) := by decide +kernel
theorem dX0_stepTells_58 : decode cX0_stepTells 58 = .ok (.iconst 1, 1) := by decide +kernel
theorem dX0_stepTells_59 : decode cX0_stepTells 59 = .ok (.goto 4, 3) := by decide +kernel
theorem dX0_stepTells_62 : decode cX0_stepTells 62 = .ok (.iconst 0, 1) := by decide +kernel
theorem dX0_stepTells_63 : decode cX0_stepTells 63 = .ok (.ireturn, 1) := by decide +kernel
theorem dX0_countOf_0 : decode cX0_countOf 0 = .ok (.iload_n 1, 1) := by decide +kernel
theorem dX0_countOf_1 : decode cX0_countOf 1 = .ok (.tableswitch 72 0 5 #[39, 44, 49, 54, 60, 66], 39) := by decide +kernel
theorem dX0_countOf_40 : decode cX0_countOf 40 = .ok (.aload_n 0, 1) := by decide +kernel
theorem dX0_countOf_41 : decode cX0_countOf 41 = .ok (.getfield 57, 3) := by decide +kernel
theorem dX0_countOf_44 : decode cX0_countOf 44 = .ok (.ireturn, 1) := by decide +kernel
theorem dX0_countOf_45 : decode cX0_countOf 45 = .ok (.aload_n 0, 1) := by decide +kernel
theorem dX0_countOf_46 : decode cX0_countOf 46 = .ok (.getfield 140, 3) := by decide +kernel
theorem dX0_countOf_49 : decode cX0_countOf 49 = .ok (.ireturn, 1) := by decide +kernel
theorem dX0_countOf_50 : decode cX0_countOf 50 = .ok (.aload_n 0, 1) := by decide +kernel
theorem dX0_countOf_51 : decode cX0_countOf 51 = .ok (.invokevirtual 232, 3) := by decide +kernel
theorem dX0_countOf_54 : decode cX0_countOf 54 = .ok (.ireturn, 1) := by decide +kernel
theorem dX0_countOf_55 : decode cX0_countOf 55 = .ok (.aload_n 0, 1) := by decide +kernel
theorem dX0_countOf_56 : decode cX0_countOf 56 = .ok (.iconst 0, 1) := by decide +kernel
theorem dX0_countOf_57 : decode cX0_countOf 57 = .ok (.invokevirtual 146, 3) := by decide +kernel
theorem dX0_countOf_60 : decode cX0_countOf 60 = .ok (.ireturn, 1) := by decide +kernel
theorem dX0_countOf_61 : decode cX0_countOf 61 = .ok (.aload_n 0, 1) := by decide +kernel
theorem dX0_countOf_62 : decode cX0_countOf 62 = .ok (.iconst 1, 1) := by decide +kernel
theorem dX0_countOf_63 : decode cX0_countOf 63 = .ok (.invokevirtual 146, 3) := by decide +kernel
theorem dX0_countOf_66 : decode cX0_countOf 66 = .ok (.ireturn, 1) := by decide +kernel
theorem dX0_countOf_67 : decode cX0_countOf 67 = .ok (.aload_n 0, 1) := by decide +kernel
theorem dX0_countOf_68 : decode cX0_countOf 68 = .ok (.iconst 5, 1) := by decide +kernel
theorem dX0_countOf_69 : decode cX0_countOf 69 = .ok (.invokevirtual 146, 3) := by decide +kernel
theorem dX0_countOf_72 : decode cX0_countOf 72 = .ok (.ireturn, 1) := by decide +kernel
theorem dX0_countOf_73 : decode cX0_countOf 73 = .ok (.aload_n 0, 1) := by decide +kernel
theorem dX0_countOf_74 : decode cX0_countOf 74 = .ok (.invokevirtual 236, 3) := by decide +kernel
theorem dX0_countOf_77 : decode cX0_countOf 77 = .ok (.ireturn, 1) := by decide +kernel
theorem dX0_axiomsTaken_0 : decode cX0_axiomsTaken 0 = .ok (.iconst 0, 1) := by decide +kernel
theorem dX0_axiomsTaken_1 : decode cX0_axiomsTaken 1 = .ok (.istore_n 1, 1) := by decide +kernel
theorem dX0_axiomsTaken_2 : decode cX0_axiomsTaken 2 = .ok (.iconst 0, 1) := by decide +kernel
theorem dX0_axiomsTaken_3 : decode cX0_axiomsTaken 3 = .ok (.istore_n 2, 1) := by decide +kernel
theorem dX0_axiomsTaken_4 : decode cX0_axiomsTaken 4 = .ok (.iload_n 2, 1) := by decide +kernel
theorem dX0_axiomsTaken_5 : decode cX0_axiomsTaken 5 = .ok (.iconst 5, 1) := by decide +kernel
theorem dX0_axiomsTaken_6 : decode cX0_axiomsTaken 6 = .ok (.if_icmp .ge 21, 3) := by decide +kernel
theorem dX0_axiomsTaken_9 : decode cX0_axiomsTaken 9 = .ok (.aload_n 0, 1) := by decide +kernel
theorem dX0_axiomsTaken_10 : decode cX0_axiomsTaken 10 = .ok (.getfield 9, 3) := by decide +kernel
theorem dX0_axiomsTaken_13 : decode cX0_axiomsTaken 13 = .ok (.iload_n 2, 1) := by decide +kernel
theorem dX0_axiomsTaken_14 : decode cX0_axiomsTaken 14 = .ok (.baload, 1) := by decide +kernel
theorem dX0_axiomsTaken_15 : decode cX0_axiomsTaken 15 = .ok (.ifCond .eq 6, 3) := by decide +kernel
theorem dX0_axiomsTaken_18 : decode cX0_axiomsTaken 18 = .ok (.iinc 1 1, 3) := by decide +kernel
theorem dX0_axiomsTaken_21 : decode cX0_axiomsTaken 21 = .ok (.iinc 2 1, 3) := by decide +kernel
theorem dX0_axiomsTaken_24 : decode cX0_axiomsTaken 24 = .ok (.goto (-20), 3) := by decide +kernel
theorem dX0_axiomsTaken_27 : decode cX0_axiomsTaken 27 = .ok (.iload_n 1, 1) := by decide +kernel
theorem dX0_axiomsTaken_28 : decode cX0_axiomsTaken 28 = .ok (.ireturn, 1) := by decide +kernel
theorem dX0_overLemmas_0 : decode cX0_overLemmas 0 = .ok (.iconst 0, 1) := by decide +kernel
theorem dX0_overLemmas_1 : decode cX0_overLemmas 1 = .ok (.istore_n 2, 1) := by decide +kernel
theorem dX0_overLemmas_2 : decode cX0_overLemmas 2 = .ok (.iconst 0, 1) := by decide +kernel
theorem dX0_overLemmas_3 : decode cX0_overLemmas 3 = .ok (.istore_n 3, 1) := by decide +kernel
theorem dX0_overLemmas_4 : decode cX0_overLemmas 4 = .ok (.iload_n 3, 1) := by decide +kernel
theorem dX0_overLemmas_5 : decode cX0_overLemmas 5 = .ok (.aload_n 0, 1) := by decide +kernel
theorem dX0_overLemmas_6 : decode cX0_overLemmas 6 = .ok (.getfield 57, 3) := by decide +kernel
theorem dX0_overLemmas_9 : decode cX0_overLemmas 9 = .ok (.if_icmp .ge 18, 3) := by decide +kernel
theorem dX0_overLemmas_12 : decode cX0_overLemmas 12 = .ok (.iload_n 2, 1) := by decide +kernel
theorem dX0_overLemmas_13 : decode cX0_overLemmas 13 = .ok (.aload_n 0, 1) := by decide +kernel
theorem dX0_overLemmas_14 : decode cX0_overLemmas 14 = .ok (.iload_n 3, 1) := by decide +kernel
theorem dX0_overLemmas_15 : decode cX0_overLemmas 15 = .ok (.iload_n 1, 1) := by decide +kernel
theorem dX0_overLemmas_16 : decode cX0_overLemmas 16 = .ok (.invokevirtual 116, 3) := by decide +kernel
theorem dX0_overLemmas_19 : decode cX0_overLemmas 19 = .ok (.iadd, 1) := by decide +kernel
theorem dX0_overLemmas_20 : decode cX0_overLemmas 20 = .ok (.istore_n 2, 1) := by decide +kernel
theorem dX0_overLemmas_21 : decode cX0_overLemmas 21 = .ok (.iinc 3 1, 3) := by decide +kernel
theorem dX0_overLemmas_24 : decode cX0_overLemmas 24 = .ok (.goto (-20), 3) := by decide +kernel
theorem dX0_overLemmas_27 : decode cX0_overLemmas 27 = .ok (.iload_n 2, 1) := by decide +kernel
theorem dX0_overLemmas_28 : decode cX0_overLemmas 28 = .ok (.ireturn, 1) := by decide +kernel
theorem dX0_lemmasInCircles_0 : decode cX0_lemmasInCircles 0 = .ok (.iconst 0, 1) := by decide +kernel
theorem dX0_lemmasInCircles_1 : decode cX0_lemmasInCircles 1 = .ok (.istore_n 1, 1) := by decide +kernel
theorem dX0_lemmasInCircles_2 : decode cX0_lemmasInCircles 2 = .ok (.iconst 0, 1) := by decide +kernel
theorem dX0_lemmasInCircles_3 : decode cX0_lemmasInCircles 3 = .ok (.istore_n 2, 1) := by decide +kernel
theorem dX0_lemmasInCircles_4 : decode cX0_lemmasInCircles 4 = .ok (.iload_n 2, 1) := by decide +kernel
theorem dX0_lemmasInCircles_5 : decode cX0_lemmasInCircles 5 = .ok (.aload_n 0, 1) := by decide +kernel
theorem dX0_lemmasInCircles_6 : decode cX0_lemmasInCircles 6 = .ok (.getfield 57, 3) := by decide +kernel
theorem dX0_lemmasInCircles_9 : decode cX0_lemmasInCircles 9 = .ok (.if_icmp .ge 21, 3) := by decide +kernel
theorem dX0_lemmasInCircles_12 : decode cX0_lemmasInCircles 12 = .ok (.aload_n 0, 1) := by decide +kernel
theorem dX0_lemmasInCircles_13 : decode cX0_lemmasInCircles 13 = .ok (.getfield 44, 3) := by decide +kernel
theorem dX0_lemmasInCircles_16 : decode cX0_lemmasInCircles 16 = .ok (.iload_n 2, 1) := by decide +kernel
theorem dX0_lemmasInCircles_17 : decode cX0_lemmasInCircles 17 = .ok (.iaload, 1) := by decide +kernel
theorem dX0_lemmasInCircles_18 : decode cX0_lemmasInCircles 18 = .ok (.ifCond .le 6, 3) := by decide +kernel
theorem dX0_lemmasInCircles_21 : decode cX0_lemmasInCircles 21 = .ok (.iinc 1 1, 3) := by decide +kernel
theorem dX0_lemmasInCircles_24 : decode cX0_lemmasInCircles 24 = .ok (.iinc 2 1, 3) := by decide +kernel
theorem dX0_lemmasInCircles_27 : decode cX0_lemmasInCircles 27 = .ok (.goto (-23), 3) := by decide +kernel
theorem dX0_lemmasInCircles_30 : decode cX0_lemmasInCircles 30 = .ok (.iload_n 1, 1) := by decide +kernel
theorem dX0_lemmasInCircles_31 : decode cX0_lemmasInCircles 31 = .ok (.ireturn, 1) := by decide +kernel
theorem dX0_provedIfClosed_0 : decode cX0_provedIfClosed 0 = .ok (.aload_n 0, 1) := by decide +kernel
theorem dX0_provedIfClosed_1 : decode cX0_provedIfClosed 1 = .ok (.getfield 26, 3) := by decide +kernel
theorem dX0_provedIfClosed_4 : decode cX0_provedIfClosed 4 = .ok (.iload_n 1, 1) := by decide +kernel
theorem dX0_provedIfClosed_5 : decode cX0_provedIfClosed 5 = .ok (.iaload, 1) := by decide +kernel
theorem dX0_provedIfClosed_6 : decode cX0_provedIfClosed 6 = .ok (.istore_n 2, 1) := by decide +kernel
theorem dX0_provedIfClosed_7 : decode cX0_provedIfClosed 7 = .ok (.iload_n 2, 1) := by decide +kernel
theorem dX0_provedIfClosed_8 : decode cX0_provedIfClosed 8 = .ok (.ifCond .ne 8, 3) := by decide +kernel
theorem dX0_provedIfClosed_11 : decode cX0_provedIfClosed 11 = .ok (.aload_n 0, 1) := by decide +kernel
theorem dX0_provedIfClosed_12 : decode cX0_provedIfClosed 12 = .ok (.getfield 140, 3) := by decide +kernel
theorem dX0_provedIfClosed_15 : decode cX0_provedIfClosed 15 = .ok (.ireturn, 1) := by decide +kernel
theorem dX0_provedIfClosed_16 : decode cX0_provedIfClosed 16 = .ok (.aload_n 0, 1) := by decide +kernel
theorem dX0_provedIfClosed_17 : decode cX0_provedIfClosed 17 = .ok (.getfield 26, 3) := by decide +kernel
theorem dX0_provedIfClosed_20 : decode cX0_provedIfClosed 20 = .ok (.iload_n 1, 1) := by decide +kernel
theorem dX0_provedIfClosed_21 : decode cX0_provedIfClosed 21 = .ok (.iconst 0, 1) := by decide +kernel
theorem dX0_provedIfClosed_22 : decode cX0_provedIfClosed 22 = .ok (.iastore, 1) := by decide +kernel
theorem dX0_provedIfClosed_23 : decode cX0_provedIfClosed 23 = .ok (.aload_n 0, 1) := by decide +kernel
theorem dX0_provedIfClosed_24 : decode cX0_provedIfClosed 24 = .ok (.aload_n 0, 1) := by decide +kernel
theorem dX0_provedIfClosed_25 : decode cX0_provedIfClosed 25 = .ok (.getfield 47, 3) := by decide +kernel
theorem dX0_provedIfClosed_28 : decode cX0_provedIfClosed 28 = .ok (.iconst (-1), 1) := by decide +kernel
theorem dX0_provedIfClosed_29 : decode cX0_provedIfClosed 29 = .ok (.invokevirtual 136, 3) := by decide +kernel
theorem dX0_provedIfClosed_32 : decode cX0_provedIfClosed 32 = .ok (.istore_n 3, 1) := by decide +kernel
theorem dX0_provedIfClosed_33 : decode cX0_provedIfClosed 33 = .ok (.aload_n 0, 1) := by decide +kernel
theorem dX0_provedIfClosed_34 : decode cX0_provedIfClosed 34 = .ok (.getfield 26, 3) := by decide +kernel
theorem dX0_provedIfClosed_37 : decode cX0_provedIfClosed 37 = .ok (.iload_n 1, 1) := by decide +kernel
theorem dX0_provedIfClosed_38 : decode cX0_provedIfClosed 38 = .ok (.iload_n 2, 1) := by decide +kernel
theorem dX0_provedIfClosed_39 : decode cX0_provedIfClosed 39 = .ok (.iastore, 1) := by decide +kernel
theorem dX0_provedIfClosed_40 : decode cX0_provedIfClosed 40 = .ok (.iload_n 3, 1) := by decide +kernel
theorem dX0_provedIfClosed_41 : decode cX0_provedIfClosed 41 = .ok (.ireturn, 1) := by decide +kernel
theorem dX0_digestLemma_0 : decode cX0_digestLemma 0 = .ok (.lload_n 1, 1) := by decide +kernel
theorem dX0_digestLemma_1 : decode cX0_digestLemma 1 = .ok (.lstore 4, 2) := by decide +kernel
theorem dX0_digestLemma_3 : decode cX0_digestLemma 3 = .ok (.iconst 0, 1) := by decide +kernel
theorem dX0_digestLemma_4 : decode cX0_digestLemma 4 = .ok (.istore 6, 2) := by decide +kernel
theorem dX0_digestLemma_6 : decode cX0_digestLemma 6 = .ok (.iload 6, 2) := by decide +kernel
theorem dX0_digestLemma_8 : decode cX0_digestLemma 8 = .ok (.bipush 7, 2) := by decide +kernel
theorem dX0_digestLemma_10 : decode cX0_digestLemma 10 = .ok (.if_icmp .ge 26, 3) := by decide +kernel
theorem dX0_digestLemma_13 : decode cX0_digestLemma 13 = .ok (.lload 4, 2) := by decide +kernel
theorem dX0_digestLemma_15 : decode cX0_digestLemma 15 = .ok (.ldc2_w 151, 3) := by decide +kernel
theorem dX0_digestLemma_18 : decode cX0_digestLemma 18 = .ok (.lmul, 1) := by decide +kernel
theorem dX0_digestLemma_19 : decode cX0_digestLemma 19 = .ok (.aload_n 0, 1) := by decide +kernel
theorem dX0_digestLemma_20 : decode cX0_digestLemma 20 = .ok (.iload_n 3, 1) := by decide +kernel
theorem dX0_digestLemma_21 : decode cX0_digestLemma 21 = .ok (.iload 6, 2) := by decide +kernel
theorem dX0_digestLemma_23 : decode cX0_digestLemma 23 = .ok (.invokevirtual 116, 3) := by decide +kernel
theorem dX0_digestLemma_26 : decode cX0_digestLemma 26 = .ok (.i2l, 1) := by decide +kernel
theorem dX0_digestLemma_27 : decode cX0_digestLemma 27 = .ok (.ladd, 1) := by decide +kernel
theorem dX0_digestLemma_28 : decode cX0_digestLemma 28 = .ok (.lstore 4, 2) := by decide +kernel
theorem dX0_digestLemma_30 : decode cX0_digestLemma 30 = .ok (.iinc 6 1, 3) := by decide +kernel
theorem dX0_digestLemma_33 : decode cX0_digestLemma 33 = .ok (.goto (-27), 3) := by decide +kernel
theorem dX0_digestLemma_36 : decode cX0_digestLemma 36 = .ok (.iconst 0, 1) := by decide +kernel
theorem dX0_digestLemma_37 : decode cX0_digestLemma 37 = .ok (.istore 6, 2) := by decide +kernel
theorem dX0_digestLemma_39 : decode cX0_digestLemma 39 = .ok (.iload 6, 2) := by decide +kernel
theorem dX0_digestLemma_41 : decode cX0_digestLemma 41 = .ok (.aload_n 0, 1) := by decide +kernel
theorem dX0_digestLemma_42 : decode cX0_digestLemma 42 = .ok (.getfield 13, 3) := by decide +kernel
theorem dX0_digestLemma_45 : decode cX0_digestLemma 45 = .ok (.iload_n 3, 1) := by decide +kernel
theorem dX0_digestLemma_46 : decode cX0_digestLemma 46 = .ok (.iaload, 1) := by decide +kernel
theorem dX0_digestLemma_47 : decode cX0_digestLemma 47 = .ok (.if_icmp .ge 23, 3) := by decide +kernel
theorem dX0_digestLemma_50 : decode cX0_digestLemma 50 = .ok (.aload_n 0, 1) := by decide +kernel
theorem dX0_digestLemma_51 : decode cX0_digestLemma 51 = .ok (.lload 4, 2) := by decide +kernel
theorem dX0_digestLemma_53 : decode cX0_digestLemma 53 = .ok (.iload_n 3, 1) := by decide +kernel
theorem dX0_digestLemma_54 : decode cX0_digestLemma 54 = .ok (.iload 6, 2) := by decide +kernel
theorem dX0_digestLemma_56 : decode cX0_digestLemma 56 = .ok (.invokestatic 73, 3) := by decide +kernel
theorem dX0_digestLemma_59 : decode cX0_digestLemma 59 = .ok (.invokevirtual 239, 3) := by decide +kernel
theorem dX0_digestLemma_62 : decode cX0_digestLemma 62 = .ok (.lstore 4, 2) := by decide +kernel
theorem dX0_digestLemma_64 : decode cX0_digestLemma 64 = .ok (.iinc 6 1, 3) := by decide +kernel
theorem dX0_digestLemma_67 : decode cX0_digestLemma 67 = .ok (.goto (-28), 3) := by decide +kernel
theorem dX0_digestLemma_70 : decode cX0_digestLemma 70 = .ok (.lload 4, 2) := by decide +kernel
theorem dX0_digestLemma_72 : decode cX0_digestLemma 72 = .ok (.lreturn, 1) := by decide +kernel
theorem dX0_digestProof_0 : decode cX0_digestProof 0 = .ok (.lload_n 1, 1) := by decide +kernel
theorem dX0_digestProof_1 : decode cX0_digestProof 1 = .ok (.ldc2_w 151, 3) := by decide +kernel
theorem dX0_digestProof_4 : decode cX0_digestProof 4 = .ok (.lmul, 1) := by decide +kernel
theorem dX0_digestProof_5 : decode cX0_digestProof 5 = .ok (.aload_n 0, 1) := by decide +kernel
theorem dX0_digestProof_6 : decode cX0_digestProof 6 = .ok (.getfield 17, 3) := by decide +kernel
theorem dX0_digestProof_9 : decode cX0_digestProof 9 = .ok (.iload_n 3, 1) := by decide +kernel
theorem dX0_digestProof_10 : decode cX0_digestProof 10 = .ok (.iaload, 1) := by decide +kernel
theorem dX0_digestProof_11 : decode cX0_digestProof 11 = .ok (.i2l, 1) := by decide +kernel
theorem dX0_digestProof_12 : decode cX0_digestProof 12 = .ok (.ladd, 1) := by decide +kernel
theorem dX0_digestProof_13 : decode cX0_digestProof 13 = .ok (.lstore 4, 2) := by decide +kernel
theorem dX0_digestProof_15 : decode cX0_digestProof 15 = .ok (.iload_n 3, 1) := by decide +kernel
theorem dX0_digestProof_16 : decode cX0_digestProof 16 = .ok (.invokestatic 181, 3) := by decide +kernel
theorem dX0_digestProof_19 : decode cX0_digestProof 19 = .ok (.istore 6, 2) := by decide +kernel
theorem dX0_digestProof_21 : decode cX0_digestProof 21 = .ok (.iload 6, 2) := by decide +kernel
theorem dX0_digestProof_23 : decode cX0_digestProof 23 = .ok (.aload_n 0, 1) := by decide +kernel
theorem dX0_digestProof_24 : decode cX0_digestProof 24 = .ok (.iload_n 3, 1) := by decide +kernel
theorem dX0_digestProof_25 : decode cX0_digestProof 25 = .ok (.invokevirtual 86, 3) := by decide +kernel
theorem dX0_digestProof_28 : decode cX0_digestProof 28 = .ok (.if_icmp .ge 42, 3) := by decide +kernel
theorem dX0_digestProof_31 : decode cX0_digestProof 31 = .ok (.iconst 0, 1) := by decide +kernel
theorem dX0_digestProof_32 : decode cX0_digestProof 32 = .ok (.istore 7, 2) := by decide +kernel
theorem dX0_digestProof_34 : decode cX0_digestProof 34 = .ok (.iload 7, 2) := by decide +kernel
theorem dX0_digestProof_36 : decode cX0_digestProof 36 = .ok (.iconst 4, 1) := by decide +kernel
theorem dX0_digestProof_37 : decode cX0_digestProof 37 = .ok (.if_icmp .ge 27, 3) := by decide +kernel
theorem dX0_digestProof_40 : decode cX0_digestProof 40 = .ok (.lload 4, 2) := by decide +kernel
theorem dX0_digestProof_42 : decode cX0_digestProof 42 = .ok (.ldc2_w 151, 3) := by decide +kernel
theorem dX0_digestProof_45 : decode cX0_digestProof 45 = .ok (.lmul, 1) := by decide +kernel
theorem dX0_digestProof_46 : decode cX0_digestProof 46 = .ok (.aload_n 0, 1) := by decide +kernel
theorem dX0_digestProof_47 : decode cX0_digestProof 47 = .ok (.iload 6, 2) := by decide +kernel
theorem dX0_digestProof_49 : decode cX0_digestProof 49 = .ok (.iload 7, 2) := by decide +kernel
theorem dX0_digestProof_51 : decode cX0_digestProof 51 = .ok (.invokevirtual 119, 3) := by decide +kernel
theorem dX0_digestProof_54 : decode cX0_digestProof 54 = .ok (.i2l, 1) := by decide +kernel
theorem dX0_digestProof_55 : decode cX0_digestProof 55 = .ok (.ladd, 1) := by decide +kernel
theorem dX0_digestProof_56 : decode cX0_digestProof 56 = .ok (.lstore 4, 2) := by decide +kernel
theorem dX0_digestProof_58 : decode cX0_digestProof 58 = .ok (.iinc 7 1, 3) := by decide +kernel
theorem dX0_digestProof_61 : decode cX0_digestProof 61 = .ok (.goto (-27), 3) := by decide +kernel
theorem dX0_digestProof_64 : decode cX0_digestProof 64 = .ok (.iinc 6 1, 3) := by decide +kernel
theorem dX0_digestProof_67 : decode cX0_digestProof 67 = .ok (.goto (-46), 3) := by decide +kernel
theorem dX0_digestProof_70 : decode cX0_digestProof 70 = .ok (.lload 4, 2) := by decide +kernel
theorem dX0_digestProof_72 : decode cX0_digestProof 72 = .ok (.lreturn, 1) := by decide +kernel
theorem dX1_init_0 : decode cX1_init 0 = .ok (.aload_n 0, 1) := by decide +kernel
theorem dX1_init_1 : decode cX1_init 1 = .ok (.invokespecial 1, 3) := by decide +kernel
theorem dX1_init_4 : decode cX1_init 4 = .ok (.aload_n 0, 1) := by decide +kernel
theorem dX1_init_5 : decode cX1_init 5 = .ok (.iconst 5, 1) := by decide +kernel
theorem dX1_init_6 : decode cX1_init 6 = .ok (.newarray .boolean, 2) := by decide +kernel
theorem dX1_init_8 : decode cX1_init 8 = .ok (.putfield 9, 3) := by decide +kernel
theorem dX1_init_11 : decode cX1_init 11 = .ok (.aload_n 0, 1) := by decide +kernel
theorem dX1_init_12 : decode cX1_init 12 = .ok (.bipush 12, 2) := by decide +kernel
theorem dX1_init_14 : decode cX1_init 14 = .ok (.newarray .int, 2) := by decide +kernel
theorem dX1_init_16 : decode cX1_init 16 = .ok (.putfield 13, 3) := by decide +kernel
theorem dX1_init_19 : decode cX1_init 19 = .ok (.aload_n 0, 1) := by decide +kernel
theorem dX1_init_20 : decode cX1_init 20 = .ok (.bipush 36, 2) := by decide +kernel
theorem dX1_init_22 : decode cX1_init 22 = .ok (.newarray .int, 2) := by decide +kernel
theorem dX1_init_24 : decode cX1_init 24 = .ok (.putfield 17, 3) := by decide +kernel
theorem dX1_init_27 : decode cX1_init 27 = .ok (.aload_n 0, 1) := by decide +kernel
theorem dX1_init_28 : decode cX1_init 28 = .ok (.sipush 180, 3) := by decide +kernel
theorem dX1_init_31 : decode cX1_init 31 = .ok (.newarray .int, 2) := by decide +kernel
theorem dX1_init_33 : decode cX1_init 33 = .ok (.putfield 20, 3) := by decide +kernel
theorem dX1_init_36 : decode cX1_init 36 = .ok (.aload_n 0, 1) := by decide +kernel
theorem dX1_init_37 : decode cX1_init 37 = .ok (.sipush 180, 3) := by decide +kernel
theorem dX1_init_40 : decode cX1_init 40 = .ok (.newarray .int, 2) := by decide +kernel
theorem dX1_init_42 : decode cX1_init 42 = .ok (.putfield 23, 3) := by decide +kernel
theorem dX1_init_45 : decode cX1_init 45 = .ok (.aload_n 0, 1) := by decide +kernel
theorem dX1_init_46 : decode cX1_init 46 = .ok (.sipush 180, 3) := by decide +kernel
theorem dX1_init_49 : decode cX1_init 49 = .ok (.newarray .int, 2) := by decide +kernel
theorem dX1_init_51 : decode cX1_init 51 = .ok (.putfield 26, 3) := by decide +kernel
theorem dX1_init_54 : decode cX1_init 54 = .ok (.aload_n 0, 1) := by decide +kernel
theorem dX1_init_55 : decode cX1_init 55 = .ok (.sipush 180, 3) := by decide +kernel
theorem dX1_init_58 : decode cX1_init 58 = .ok (.newarray .boolean, 2) := by decide +kernel
theorem dX1_init_60 : decode cX1_init 60 = .ok (.putfield 29, 3) := by decide +kernel
theorem dX1_init_63 : decode cX1_init 63 = .ok (.aload_n 0, 1) := by decide +kernel
theorem dX1_init_64 : decode cX1_init 64 = .ok (.bipush 12, 2) := by decide +kernel
theorem dX1_init_66 : decode cX1_init 66 = .ok (.newarray .int, 2) := by decide +kernel
theorem dX1_init_68 : decode cX1_init 68 = .ok (.putfield 32, 3) := by decide +kernel
theorem dX1_init_71 : decode cX1_init 71 = .ok (.aload_n 0, 1) := by decide +kernel
theorem dX1_init_72 : decode cX1_init 72 = .ok (.bipush 12, 2) := by decide +kernel
theorem dX1_init_74 : decode cX1_init 74 = .ok (.newarray .int, 2) := by decide +kernel
theorem dX1_init_76 : decode cX1_init 76 = .ok (.putfield 35, 3) := by decide +kernel
theorem dX1_init_79 : decode cX1_init 79 = .ok (.aload_n 0, 1) := by decide +kernel
theorem dX1_init_80 : decode cX1_init 80 = .ok (.bipush 12, 2) := by decide +kernel
theorem dX1_init_82 : decode cX1_init 82 = .ok (.newarray .int, 2) := by decide +kernel
theorem dX1_init_84 : decode cX1_init 84 = .ok (.putfield 38, 3) := by decide +kernel
theorem dX1_init_87 : decode cX1_init 87 = .ok (.aload_n 0, 1) := by decide +kernel
theorem dX1_init_88 : decode cX1_init 88 = .ok (.bipush 12, 2) := by decide +kernel
theorem dX1_init_90 : decode cX1_init 90 = .ok (.newarray .int, 2) := by decide +kernel
theorem dX1_init_92 : decode cX1_init 92 = .ok (.putfield 41, 3) := by decide +kernel
theorem dX1_init_95 : decode cX1_init 95 = .ok (.iconst 0, 1) := by decide +kernel
theorem dX1_init_96 : decode cX1_init 96 = .ok (.istore_n 1, 1) := by decide +kernel
theorem dX1_init_97 : decode cX1_init 97 = .ok (.iload_n 1, 1) := by decide +kernel
theorem dX1_init_98 : decode cX1_init 98 = .ok (.iconst 5, 1) := by decide +kernel
theorem dX1_init_99 : decode cX1_init 99 = .ok (.if_icmp .ge 16, 3) := by decide +kernel
theorem dX1_init_102 : decode cX1_init 102 = .ok (.aload_n 0, 1) := by decide +kernel
theorem dX1_init_103 : decode cX1_init 103 = .ok (.getfield 9, 3) := by decide +kernel
theorem dX1_init_106 : decode cX1_init 106 = .ok (.iload_n 1, 1) := by decide +kernel
theorem dX1_init_107 : decode cX1_init 107 = .ok (.iconst 1, 1) := by decide +kernel
theorem dX1_init_108 : decode cX1_init 108 = .ok (.bastore, 1) := by decide +kernel
theorem dX1_init_109 : decode cX1_init 109 = .ok (.iinc 1 1, 3) := by decide +kernel
theorem dX1_init_112 : decode cX1_init 112 = .ok (.goto (-15), 3) := by decide +kernel
theorem dX1_init_115 : decode cX1_init 115 = .ok (.return_, 1) := by decide +kernel
theorem dX1_thrown_0 : decode cX1_thrown 0 = .ok (.aload_n 0, 1) := by decide +kernel
theorem dX1_thrown_1 : decode cX1_thrown 1 = .ok (.getfield 44, 3) := by decide +kernel
theorem dX1_thrown_4 : decode cX1_thrown 4 = .ok (.ireturn, 1) := by decide +kernel
theorem dX1_no_0 : decode cX1_no 0 = .ok (.aload_n 0, 1) := by decide +kernel
theorem dX1_no_1 : decode cX1_no 1 = .ok (.iload_n 1, 1) := by decide +kernel
theorem dX1_no_2 : decode cX1_no 2 = .ok (.putfield 44, 3) := by decide +kernel
theorem dX1_no_5 : decode cX1_no 5 = .ok (.iconst 0, 1) := by decide +kernel
theorem dX1_no_6 : decode cX1_no 6 = .ok (.ireturn, 1) := by decide +kernel
theorem dX1_isIn_0 : decode cX1_isIn 0 = .ok (.iload_n 0, 1) := by decide +kernel
theorem dX1_isIn_1 : decode cX1_isIn 1 = .ok (.iload_n 1, 1) := by decide +kernel
theorem dX1_isIn_2 : decode cX1_isIn 2 = .ok (.if_icmp .lt 12, 3) := by decide +kernel
theorem dX1_isIn_5 : decode cX1_isIn 5 = .ok (.iload_n 0, 1) := by decide +kernel
theorem dX1_isIn_6 : decode cX1_isIn 6 = .ok (.iload_n 2, 1) := by decide +kernel
theorem dX1_isIn_7 : decode cX1_isIn 7 = .ok (.if_icmp .gt 7, 3) := by decide +kernel
theorem dX1_isIn_10 : decode cX1_isIn 10 = .ok (.iconst 1, 1) := by decide +kernel
theorem dX1_isIn_11 : decode cX1_isIn 11 = .ok (.goto 4, 3) := by decide +kernel
theorem dX1_isIn_14 : decode cX1_isIn 14 = .ok (.iconst 0, 1) := by decide +kernel
theorem dX1_isIn_15 : decode cX1_isIn 15 = .ok (.ireturn, 1) := by decide +kernel
theorem dX1_isAxiom_0 : decode cX1_isAxiom 0 = .ok (.iload_n 0, 1) := by decide +kernel
theorem dX1_isAxiom_1 : decode cX1_isAxiom 1 = .ok (.iconst 0, 1) := by decide +kernel
theorem dX1_isAxiom_2 : decode cX1_isAxiom 2 = .ok (.iconst 4, 1) := by decide +kernel
theorem dX1_isAxiom_3 : decode cX1_isAxiom 3 = .ok (.invokestatic 48, 3) := by decide +kernel
theorem dX1_isAxiom_6 : decode cX1_isAxiom 6 = .ok (.ireturn, 1) := by decide +kernel
theorem dX1_isLemma_0 : decode cX1_isLemma 0 = .ok (.iload_n 1, 1) := by decide +kernel
theorem dX1_isLemma_1 : decode cX1_isLemma 1 = .ok (.iconst 0, 1) := by decide +kernel
theorem dX1_isLemma_2 : decode cX1_isLemma 2 = .ok (.aload_n 0, 1) := by decide +kernel
theorem dX1_isLemma_3 : decode cX1_isLemma 3 = .ok (.getfield 52, 3) := by decide +kernel
theorem dX1_isLemma_6 : decode cX1_isLemma 6 = .ok (.iconst 1, 1) := by decide +kernel
theorem dX1_isLemma_7 : decode cX1_isLemma 7 = .ok (.isub, 1) := by decide +kernel
theorem dX1_isLemma_8 : decode cX1_isLemma 8 = .ok (.invokestatic 48, 3) := by decide +kernel
theorem dX1_isLemma_11 : decode cX1_isLemma 11 = .ok (.ireturn, 1) := by decide +kernel
theorem dX1_isProof_0 : decode cX1_isProof 0 = .ok (.aload_n 0, 1) := by decide +kernel
theorem dX1_isProof_1 : decode cX1_isProof 1 = .ok (.iload_n 1, 1) := by decide +kernel
theorem dX1_isProof_2 : decode cX1_isProof 2 = .ok (.invokevirtual 55, 3) := by decide +kernel
theorem dX1_isProof_5 : decode cX1_isProof 5 = .ok (.ifCond .eq 23, 3) := by decide +kernel
theorem dX1_isProof_8 : decode cX1_isProof 8 = .ok (.iload_n 2, 1) := by decide +kernel
theorem dX1_isProof_9 : decode cX1_isProof 9 = .ok (.iconst 0, 1) := by decide +kernel
theorem dX1_isProof_10 : decode cX1_isProof 10 = .ok (.aload_n 0, 1) := by decide +kernel
theorem dX1_isProof_11 : decode cX1_isProof 11 = .ok (.getfield 13, 3) := by decide +kernel
theorem dX1_isProof_14 : decode cX1_isProof 14 = .ok (.iload_n 1, 1) := by decide +kernel
theorem dX1_isProof_15 : decode cX1_isProof 15 = .ok (.iaload, 1) := by decide +kernel
theorem dX1_isProof_16 : decode cX1_isProof 16 = .ok (.iconst 1, 1) := by decide +kernel
theorem dX1_isProof_17 : decode cX1_isProof 17 = .ok (.isub, 1) := by decide +kernel
theorem dX1_isProof_18 : decode cX1_isProof 18 = .ok (.invokestatic 48, 3) := by decide +kernel
theorem dX1_isProof_21 : decode cX1_isProof 21 = .ok (.ifCond .eq 7, 3) := by decide +kernel
theorem dX1_isProof_24 : decode cX1_isProof 24 = .ok (.iconst 1, 1) := by decide +kernel
theorem dX1_isProof_25 : decode cX1_isProof 25 = .ok (.goto 4, 3) := by decide +kernel
theorem dX1_isProof_28 : decode cX1_isProof 28 = .ok (.iconst 0, 1) := by decide +kernel
theorem dX1_isProof_29 : decode cX1_isProof 29 = .ok (.ireturn, 1) := by decide +kernel
theorem dX1_isStep_0 : decode cX1_isStep 0 = .ok (.aload_n 0, 1) := by decide +kernel
theorem dX1_isStep_1 : decode cX1_isStep 1 = .ok (.iload_n 1, 1) := by decide +kernel
theorem dX1_isStep_2 : decode cX1_isStep 2 = .ok (.iload_n 2, 1) := by decide +kernel
theorem dX1_isStep_3 : decode cX1_isStep 3 = .ok (.invokevirtual 59, 3) := by decide +kernel
theorem dX1_isStep_6 : decode cX1_isStep 6 = .ok (.ifCond .eq 27, 3) := by decide +kernel
theorem dX1_isStep_9 : decode cX1_isStep 9 = .ok (.iload_n 3, 1) := by decide +kernel
theorem dX1_isStep_10 : decode cX1_isStep 10 = .ok (.iconst 0, 1) := by decide +kernel
theorem dX1_isStep_11 : decode cX1_isStep 11 = .ok (.aload_n 0, 1) := by decide +kernel
theorem dX1_isStep_12 : decode cX1_isStep 12 = .ok (.getfield 17, 3) := by decide +kernel
theorem dX1_isStep_15 : decode cX1_isStep 15 = .ok (.iconst 3, 1) := by decide +kernel
theorem dX1_isStep_16 : decode cX1_isStep 16 = .ok (.iload_n 1, 1) := by decide +kernel
theorem dX1_isStep_17 : decode cX1_isStep 17 = .ok (.imul, 1) := by decide +kernel
theorem dX1_isStep_18 : decode cX1_isStep 18 = .ok (.iload_n 2, 1) := by decide +kernel
theorem dX1_isStep_19 : decode cX1_isStep 19 = .ok (.iadd, 1) := by decide +kernel
theorem dX1_isStep_20 : decode cX1_isStep 20 = .ok (.iaload, 1) := by decide +kernel
theorem dX1_isStep_21 : decode cX1_isStep 21 = .ok (.iconst 1, 1) := by decide +kernel
theorem dX1_isStep_22 : decode cX1_isStep 22 = .ok (.isub, 1) := by decide +kernel
theorem dX1_isStep_23 : decode cX1_isStep 23 = .ok (.invokestatic 48, 3) := by decide +kernel
theorem dX1_isStep_26 : decode cX1_isStep 26 = .ok (.ifCond .eq 7, 3) := by decide +kernel
theorem dX1_isStep_29 : decode cX1_isStep 29 = .ok (.iconst 1, 1) := by decide +kernel
theorem dX1_isStep_30 : decode cX1_isStep 30 = .ok (.goto 4, 3) := by decide +kernel
theorem dX1_isStep_33 : decode cX1_isStep 33 = .ok (.iconst 0, 1) := by decide +kernel
theorem dX1_isStep_34 : decode cX1_isStep 34 = .ok (.ireturn, 1) := by decide +kernel
theorem dX1_at_0 : decode cX1_at 0 = .ok (.iconst 5, 1) := by decide +kernel
theorem dX1_at_1 : decode cX1_at 1 = .ok (.iconst 3, 1) := by decide +kernel
theorem dX1_at_2 : decode cX1_at 2 = .ok (.iload_n 0, 1) := by decide +kernel
theorem dX1_at_3 : decode cX1_at 3 = .ok (.imul, 1) := by decide +kernel
theorem dX1_at_4 : decode cX1_at 4 = .ok (.iload_n 1, 1) := by decide +kernel
theorem dX1_at_5 : decode cX1_at 5 = .ok (.iadd, 1) := by decide +kernel
theorem dX1_at_6 : decode cX1_at 6 = .ok (.imul, 1) := by decide +kernel
theorem dX1_at_7 : decode cX1_at 7 = .ok (.iload_n 2, 1) := by decide +kernel
theorem dX1_at_8 : decode cX1_at 8 = .ok (.iadd, 1) := by decide +kernel
theorem dX1_at_9 : decode cX1_at 9 = .ok (.ireturn, 1) := by decide +kernel
theorem dX1_isWhole_0 : decode cX1_isWhole 0 = .ok (.iconst 0, 1) := by decide +kernel
theorem dX1_isWhole_1 : decode cX1_isWhole 1 = .ok (.istore_n 3, 1) := by decide +kernel
theorem dX1_isWhole_2 : decode cX1_isWhole 2 = .ok (.iload_n 3, 1) := by decide +kernel
theorem dX1_isWhole_3 : decode cX1_isWhole 3 = .ok (.aload_n 0, 1) := by decide +kernel
theorem dX1_isWhole_4 : decode cX1_isWhole 4 = .ok (.getfield 17, 3) := by decide +kernel
theorem dX1_isWhole_7 : decode cX1_isWhole 7 = .ok (.iconst 3, 1) := by decide +kernel
theorem dX1_isWhole_8 : decode cX1_isWhole 8 = .ok (.iload_n 1, 1) := by decide +kernel
theorem dX1_isWhole_9 : decode cX1_isWhole 9 = .ok (.imul, 1) := by decide +kernel
theorem dX1_isWhole_10 : decode cX1_isWhole 10 = .ok (.iload_n 2, 1) := by decide +kernel
theorem dX1_isWhole_11 : decode cX1_isWhole 11 = .ok (.iadd, 1) := by decide +kernel
theorem dX1_isWhole_12 : decode cX1_isWhole 12 = .ok (.iaload, 1) := by decide +kernel
theorem dX1_isWhole_13 : decode cX1_isWhole 13 = .ok (.if_icmp .ge 25, 3) := by decide +kernel
theorem dX1_isWhole_16 : decode cX1_isWhole 16 = .ok (.aload_n 0, 1) := by decide +kernel
theorem dX1_isWhole_17 : decode cX1_isWhole 17 = .ok (.getfield 29, 3) := by decide +kernel
theorem dX1_isWhole_20 : decode cX1_isWhole 20 = .ok (.iload_n 1, 1) := by decide +kernel
theorem dX1_isWhole_21 : decode cX1_isWhole 21 = .ok (.iload_n 2, 1) := by decide +kernel
theorem dX1_isWhole_22 : decode cX1_isWhole 22 = .ok (.iload_n 3, 1) := by decide +kernel
theorem dX1_isWhole_23 : decode cX1_isWhole 23 = .ok (.invokestatic 63, 3) := by decide +kernel
theorem dX1_isWhole_26 : decode cX1_isWhole 26 = .ok (.baload, 1) := by decide +kernel
theorem dX1_isWhole_27 : decode cX1_isWhole 27 = .ok (.ifCond .eq 5, 3) := by decide +kernel
theorem dX1_isWhole_30 : decode cX1_isWhole 30 = .ok (.iconst 0, 1) := by decide +kernel
theorem dX1_isWhole_31 : decode cX1_isWhole 31 = .ok (.ireturn, 1) := by decide +kernel
theorem dX1_isWhole_32 : decode cX1_isWhole 32 = .ok (.iinc 3 1, 3) := by decide +kernel
theorem dX1_isWhole_35 : decode cX1_isWhole 35 = .ok (.goto (-33), 3) := by decide +kernel
theorem dX1_isWhole_38 : decode cX1_isWhole 38 = .ok (.aload_n 0, 1) := by decide +kernel
theorem dX1_isWhole_39 : decode cX1_isWhole 39 = .ok (.getfield 17, 3) := by decide +kernel
theorem dX1_isWhole_42 : decode cX1_isWhole 42 = .ok (.iconst 3, 1) := by decide +kernel
theorem dX1_isWhole_43 : decode cX1_isWhole 43 = .ok (.iload_n 1, 1) := by decide +kernel
theorem dX1_isWhole_44 : decode cX1_isWhole 44 = .ok (.imul, 1) := by decide +kernel
theorem dX1_isWhole_45 : decode cX1_isWhole 45 = .ok (.iload_n 2, 1) := by decide +kernel
theorem dX1_isWhole_46 : decode cX1_isWhole 46 = .ok (.iadd, 1) := by decide +kernel
theorem dX1_isWhole_47 : decode cX1_isWhole 47 = .ok (.iaload, 1) := by decide +kernel
theorem dX1_isWhole_48 : decode cX1_isWhole 48 = .ok (.ifCond .le 7, 3) := by decide +kernel
theorem dX1_isWhole_51 : decode cX1_isWhole 51 = .ok (.iconst 1, 1) := by decide +kernel
theorem dX1_isWhole_52 : decode cX1_isWhole 52 = .ok (.goto 4, 3) := by decide +kernel
theorem dX1_isWhole_55 : decode cX1_isWhole 55 = .ok (.iconst 0, 1) := by decide +kernel
theorem dX1_isWhole_56 : decode cX1_isWhole 56 = .ok (.ireturn, 1) := by decide +kernel
theorem dX1_does_0 : decode cX1_does 0 = .ok (.aload_n 0, 1) := by decide +kernel
theorem dX1_does_1 : decode cX1_does 1 = .ok (.getfield 20, 3) := by decide +kernel
theorem dX1_does_4 : decode cX1_does 4 = .ok (.iload_n 1, 1) := by decide +kernel
theorem dX1_does_5 : decode cX1_does 5 = .ok (.iaload, 1) := by decide +kernel
theorem dX1_does_6 : decode cX1_does 6 = .ok (.lookupswitch 83 #[(0, 26), (1, 38)], 26) := by decide +kernel
theorem dX1_does_32 : decode cX1_does 32 = .ok (.aload_n 0, 1) := by decide +kernel
theorem dX1_does_33 : decode cX1_does 33 = .ok (.getfield 9, 3) := by decide +kernel
theorem dX1_does_36 : decode cX1_does 36 = .ok (.aload_n 0, 1) := by decide +kernel
theorem dX1_does_37 : decode cX1_does 37 = .ok (.getfield 23, 3) := by decide +kernel
theorem dX1_does_40 : decode cX1_does 40 = .ok (.iload_n 1, 1) := by decide +kernel
theorem dX1_does_41 : decode cX1_does 41 = .ok (.iaload, 1) := by decide +kernel
theorem dX1_does_42 : decode cX1_does 42 = .ok (.baload, 1) := by decide +kernel
theorem dX1_does_43 : decode cX1_does 43 = .ok (.ireturn, 1) := by decide +kernel
theorem dX1_does_44 : decode cX1_does 44 = .ok (.aload_n 0, 1) := by decide +kernel
theorem dX1_does_45 : decode cX1_does 45 = .ok (.getfield 23, 3) := by decide +kernel
theorem dX1_does_48 : decode cX1_does 48 = .ok (.iload_n 1, 1) := by decide +kernel
theorem dX1_does_49 : decode cX1_does 49 = .ok (.iaload, 1) := by decide +kernel
theorem dX1_does_50 : decode cX1_does 50 = .ok (.iload_n 3, 1) := by decide +kernel
theorem dX1_does_51 : decode cX1_does 51 = .ok (.if_icmp .eq 36, 3) := by decide +kernel
theorem dX1_does_54 : decode cX1_does 54 = .ok (.aload_n 0, 1) := by decide +kernel
theorem dX1_does_55 : decode cX1_does 55 = .ok (.getfield 32, 3) := by decide +kernel
theorem dX1_does_58 : decode cX1_does 58 = .ok (.aload_n 0, 1) := by decide +kernel
theorem dX1_does_59 : decode cX1_does 59 = .ok (.getfield 23, 3) := by decide +kernel
theorem dX1_does_62 : decode cX1_does 62 = .ok (.iload_n 1, 1) := by decide +kernel
theorem dX1_does_63 : decode cX1_does 63 = .ok (.iaload, 1) := by decide +kernel
theorem dX1_does_64 : decode cX1_does 64 = .ok (.iaload, 1) := by decide +kernel
theorem dX1_does_65 : decode cX1_does 65 = .ok (.ifCond .le 22, 3) := by decide +kernel
theorem dX1_does_68 : decode cX1_does 68 = .ok (.aload_n 0, 1) := by decide +kernel
theorem dX1_does_69 : decode cX1_does 69 = .ok (.getfield 32, 3) := by decide +kernel
theorem dX1_does_72 : decode cX1_does 72 = .ok (.aload_n 0, 1) := by decide +kernel
theorem dX1_does_73 : decode cX1_does 73 = .ok (.getfield 23, 3) := by decide +kernel
theorem dX1_does_76 : decode cX1_does 76 = .ok (.iload_n 1, 1) := by decide +kernel
theorem dX1_does_77 : decode cX1_does 77 = .ok (.iaload, 1) := by decide +kernel
theorem dX1_does_78 : decode cX1_does 78 = .ok (.iaload, 1) := by decide +kernel
theorem dX1_does_79 : decode cX1_does 79 = .ok (.iload_n 2, 1) := by decide +kernel
theorem dX1_does_80 : decode cX1_does 80 = .ok (.if_icmp .ge 7, 3) := by decide +kernel
theorem dX1_does_83 : decode cX1_does 83 = .ok (.iconst 1, 1) := by decide +kernel
theorem dX1_does_84 : decode cX1_does 84 = .ok (.goto 4, 3) := by decide +kernel
theorem dX1_does_87 : decode cX1_does 87 = .ok (.iconst 0, 1) := by decide +kernel
theorem dX1_does_88 : decode cX1_does 88 = .ok (.ireturn, 1) := by decide +kernel
theorem dX1_does_89 : decode cX1_does 89 = .ok (.aload_n 0, 1) := by decide +kernel
theorem dX1_does_90 : decode cX1_does 90 = .ok (.getfield 26, 3) := by decide +kernel
theorem dX1_does_93 : decode cX1_does 93 = .ok (.iload_n 1, 1) := by decide +kernel
theorem dX1_does_94 : decode cX1_does 94 = .ok (.iaload, 1) := by decide +kernel
theorem dX1_does_95 : decode cX1_does 95 = .ok (.ifCond .ne 7, 3) := by decide +kernel
theorem dX1_does_98 : decode cX1_does 98 = .ok (.iconst 1, 1) := by decide +kernel
theorem dX1_does_99 : decode cX1_does 99 = .ok (.goto 4, 3) := by decide +kernel
theorem dX1_does_102 : decode cX1_does 102 = .ok (.iconst 0, 1) := by decide +kernel
theorem dX1_does_103 : decode cX1_does 103 = .ok (.ireturn, 1) := by decide +kernel
theorem dX1_holds_0 : decode cX1_holds 0 = .ok (.aload_n 0, 1) := by decide +kernel
theorem dX1_holds_1 : decode cX1_holds 1 = .ok (.iload_n 1, 1) := by decide +kernel
theorem dX1_holds_2 : decode cX1_holds 2 = .ok (.iload_n 2, 1) := by decide +kernel
theorem dX1_holds_3 : decode cX1_holds 3 = .ok (.invokevirtual 67, 3) := by decide +kernel
theorem dX1_holds_6 : decode cX1_holds 6 = .ok (.ifCond .ne 5, 3) := by decide +kernel
theorem dX1_holds_9 : decode cX1_holds 9 = .ok (.iconst 0, 1) := by decide +kernel
theorem dX1_holds_10 : decode cX1_holds 10 = .ok (.ireturn, 1) := by decide +kernel
theorem dX1_holds_11 : decode cX1_holds 11 = .ok (.iconst 0, 1) := by decide +kernel
theorem dX1_holds_12 : decode cX1_holds 12 = .ok (.istore 5, 2) := by decide +kernel
theorem dX1_holds_14 : decode cX1_holds 14 = .ok (.iload 5, 2) := by decide +kernel
theorem dX1_holds_16 : decode cX1_holds 16 = .ok (.aload_n 0, 1) := by decide +kernel
theorem dX1_holds_17 : decode cX1_holds 17 = .ok (.getfield 17, 3) := by decide +kernel
theorem dX1_holds_20 : decode cX1_holds 20 = .ok (.iconst 3, 1) := by decide +kernel
theorem dX1_holds_21 : decode cX1_holds 21 = .ok (.iload_n 1, 1) := by decide +kernel
theorem dX1_holds_22 : decode cX1_holds 22 = .ok (.imul, 1) := by decide +kernel
theorem dX1_holds_23 : decode cX1_holds 23 = .ok (.iload_n 2, 1) := by decide +kernel
theorem dX1_holds_24 : decode cX1_holds 24 = .ok (.iadd, 1) := by decide +kernel
theorem dX1_holds_25 : decode cX1_holds 25 = .ok (.iaload, 1) := by decide +kernel
theorem dX1_holds_26 : decode cX1_holds 26 = .ok (.if_icmp .ge 28, 3) := by decide +kernel
theorem dX1_holds_29 : decode cX1_holds 29 = .ok (.aload_n 0, 1) := by decide +kernel
theorem dX1_holds_30 : decode cX1_holds 30 = .ok (.iload_n 1, 1) := by decide +kernel
theorem dX1_holds_31 : decode cX1_holds 31 = .ok (.iload_n 2, 1) := by decide +kernel
theorem dX1_holds_32 : decode cX1_holds 32 = .ok (.iload 5, 2) := by decide +kernel
theorem dX1_holds_34 : decode cX1_holds 34 = .ok (.invokestatic 63, 3) := by decide +kernel
theorem dX1_holds_37 : decode cX1_holds 37 = .ok (.iload_n 3, 1) := by decide +kernel
theorem dX1_holds_38 : decode cX1_holds 38 = .ok (.iload 4, 2) := by decide +kernel
theorem dX1_holds_40 : decode cX1_holds 40 = .ok (.invokevirtual 70, 3) := by decide +kernel
theorem dX1_holds_43 : decode cX1_holds 43 = .ok (.ifCond .ne 5, 3) := by decide +kernel
theorem dX1_holds_46 : decode cX1_holds 46 = .ok (.iconst 0, 1) := by decide +kernel
theorem dX1_holds_47 : decode cX1_holds 47 = .ok (.ireturn, 1) := by decide +kernel
theorem dX1_holds_48 : decode cX1_holds 48 = .ok (.iinc 5 1, 3) := by decide +kernel
theorem dX1_holds_51 : decode cX1_holds 51 = .ok (.goto (-37), 3) := by decide +kernel
theorem dX1_holds_54 : decode cX1_holds 54 = .ok (.iconst 1, 1) := by decide +kernel
theorem dX1_holds_55 : decode cX1_holds 55 = .ok (.ireturn, 1) := by decide +kernel
theorem dX1_hasProof_0 : decode cX1_hasProof 0 = .ok (.iconst 0, 1) := by decide +kernel
theorem dX1_hasProof_1 : decode cX1_hasProof 1 = .ok (.istore 4, 2) := by decide +kernel
theorem dX1_hasProof_3 : decode cX1_hasProof 3 = .ok (.iload 4, 2) := by decide +kernel
theorem dX1_hasProof_5 : decode cX1_hasProof 5 = .ok (.aload_n 0, 1) := by decide +kernel
theorem dX1_hasProof_6 : decode cX1_hasProof 6 = .ok (.getfield 13, 3) := by decide +kernel
theorem dX1_hasProof_9 : decode cX1_hasProof 9 = .ok (.iload_n 1, 1) := by decide +kernel
theorem dX1_hasProof_10 : decode cX1_hasProof 10 = .ok (.iaload, 1) := by decide +kernel
theorem dX1_hasProof_11 : decode cX1_hasProof 11 = .ok (.if_icmp .ge 23, 3) := by decide +kernel
theorem dX1_hasProof_14 : decode cX1_hasProof 14 = .ok (.aload_n 0, 1) := by decide +kernel
theorem dX1_hasProof_15 : decode cX1_hasProof 15 = .ok (.iload_n 1, 1) := by decide +kernel
theorem dX1_hasProof_16 : decode cX1_hasProof 16 = .ok (.iload 4, 2) := by decide +kernel
theorem dX1_hasProof_18 : decode cX1_hasProof 18 = .ok (.iload_n 2, 1) := by decide +kernel
theorem dX1_hasProof_19 : decode cX1_hasProof 19 = .ok (.iload_n 3, 1) := by decide +kernel
theorem dX1_hasProof_20 : decode cX1_hasProof 20 = .ok (.invokevirtual 73, 3) := by decide +kernel
theorem dX1_hasProof_23 : decode cX1_hasProof 23 = .ok (.ifCond .eq 5, 3) := by decide +kernel
theorem dX1_hasProof_26 : decode cX1_hasProof 26 = .ok (.iconst 1, 1) := by decide +kernel
theorem dX1_hasProof_27 : decode cX1_hasProof 27 = .ok (.ireturn, 1) := by decide +kernel
theorem dX1_hasProof_28 : decode cX1_hasProof 28 = .ok (.iinc 4 1, 3) := by decide +kernel
theorem dX1_hasProof_31 : decode cX1_hasProof 31 = .ok (.goto (-28), 3) := by decide +kernel
theorem dX1_hasProof_34 : decode cX1_hasProof 34 = .ok (.iconst 0, 1) := by decide +kernel
theorem dX1_hasProof_35 : decode cX1_hasProof 35 = .ok (.ireturn, 1) := by decide +kernel
theorem dX1_prove_0 : decode cX1_prove 0 = .ok (.iconst 0, 1) := by decide +kernel
theorem dX1_prove_1 : decode cX1_prove 1 = .ok (.istore_n 2, 1) := by decide +kernel
theorem dX1_prove_2 : decode cX1_prove 2 = .ok (.iload_n 2, 1) := by decide +kernel
theorem dX1_prove_3 : decode cX1_prove 3 = .ok (.aload_n 0, 1) := by decide +kernel
theorem dX1_prove_4 : decode cX1_prove 4 = .ok (.getfield 52, 3) := by decide +kernel
theorem dX1_prove_7 : decode cX1_prove 7 = .ok (.if_icmp .ge 16, 3) := by decide +kernel
theorem dX1_prove_10 : decode cX1_prove 10 = .ok (.aload_n 0, 1) := by decide +kernel
theorem dX1_prove_11 : decode cX1_prove 11 = .ok (.getfield 32, 3) := by decide +kernel
theorem dX1_prove_14 : decode cX1_prove 14 = .ok (.iload_n 2, 1) := by decide +kernel
theorem dX1_prove_15 : decode cX1_prove 15 = .ok (.iconst 0, 1) := by decide +kernel
theorem dX1_prove_16 : decode cX1_prove 16 = .ok (.iastore, 1) := by decide +kernel
theorem dX1_prove_17 : decode cX1_prove 17 = .ok (.iinc 2 1, 3) := by decide +kernel
theorem dX1_prove_20 : decode cX1_prove 20 = .ok (.goto (-18), 3) := by decide +kernel
theorem dX1_prove_23 : decode cX1_prove 23 = .ok (.iconst 0, 1) := by decide +kernel
theorem dX1_prove_24 : decode cX1_prove 24 = .ok (.istore_n 2, 1) := by decide +kernel
theorem dX1_prove_25 : decode cX1_prove 25 = .ok (.iconst (-1), 1) := by decide +kernel
theorem dX1_prove_26 : decode cX1_prove 26 = .ok (.istore_n 3, 1) := by decide +kernel
theorem dX1_prove_27 : decode cX1_prove 27 = .ok (.iconst 1, 1) := by decide +kernel
theorem dX1_prove_28 : decode cX1_prove 28 = .ok (.istore 4, 2) := by decide +kernel
theorem dX1_prove_30 : decode cX1_prove 30 = .ok (.iload_n 3, 1) := by decide +kernel
theorem dX1_prove_31 : decode cX1_prove 31 = .ok (.iload_n 2, 1) := by decide +kernel
theorem dX1_prove_32 : decode cX1_prove 32 = .ok (.if_icmp .eq 72, 3) := by decide +kernel
theorem dX1_prove_35 : decode cX1_prove 35 = .ok (.iload_n 2, 1) := by decide +kernel
theorem dX1_prove_36 : decode cX1_prove 36 = .ok (.istore_n 3, 1) := by decide +kernel
theorem dX1_prove_37 : decode cX1_prove 37 = .ok (.iconst 0, 1) := by decide +kernel
theorem dX1_prove_38 : decode cX1_prove 38 = .ok (.istore 5, 2) := by decide +kernel
theorem dX1_prove_40 : decode cX1_prove 40 = .ok (.iload 5, 2) := by decide +kernel
theorem dX1_prove_42 : decode cX1_prove 42 = .ok (.aload_n 0, 1) := by decide +kernel
theorem dX1_prove_43 : decode cX1_prove 43 = .ok (.getfield 52, 3) := by decide +kernel
theorem dX1_prove_46 : decode cX1_prove 46 = .ok (.if_icmp .ge 52, 3) := by decide +kernel
theorem dX1_prove_49 : decode cX1_prove 49 = .ok (.iload 5, 2) := by decide +kernel
theorem dX1_prove_51 : decode cX1_prove 51 = .ok (.iload_n 1, 1) := by decide +kernel
theorem dX1_prove_52 : decode cX1_prove 52 = .ok (.if_icmp .eq 40, 3) := by decide +kernel
theorem dX1_prove_55 : decode cX1_prove 55 = .ok (.aload_n 0, 1) := by decide +kernel
theorem dX1_prove_56 : decode cX1_prove 56 = .ok (.getfield 32, 3) := by decide +kernel
theorem dX1_prove_59 : decode cX1_prove 59 = .ok (.iload 5, 2) := by decide +kernel
theorem dX1_prove_61 : decode cX1_prove 61 = .ok (.iaload, 1) := by decide +kernel
theorem dX1_prove_62 : decode cX1_prove 62 = .ok (.ifCond .gt 30, 3) := by decide +kernel
theorem dX1_prove_65 : decode cX1_prove 65 = .ok (.aload_n 0, 1) := by decide +kernel
theorem dX1_prove_66 : decode cX1_prove 66 = .ok (.iload 5, 2) := by decide +kernel
theorem dX1_prove_68 : decode cX1_prove 68 = .ok (.iload 4, 2) := by decide +kernel
theorem dX1_prove_70 : decode cX1_prove 70 = .ok (.iload_n 1, 1) := by decide +kernel
theorem dX1_prove_71 : decode cX1_prove 71 = .ok (.invokevirtual 77, 3) := by decide +kernel
theorem dX1_prove_74 : decode cX1_prove 74 = .ok (.ifCond .ne 6, 3) := by decide +kernel
theorem dX1_prove_77 : decode cX1_prove 77 = .ok (.goto 15, 3) := by decide +kernel
theorem dX1_prove_80 : decode cX1_prove 80 = .ok (.aload_n 0, 1) := by decide +kernel
theorem dX1_prove_81 : decode cX1_prove 81 = .ok (.getfield 32, 3) := by decide +kernel
theorem dX1_prove_84 : decode cX1_prove 84 = .ok (.iload 5, 2) := by decide +kernel
theorem dX1_prove_86 : decode cX1_prove 86 = .ok (.iload 4, 2) := by decide +kernel
theorem dX1_prove_88 : decode cX1_prove 88 = .ok (.iastore, 1) := by decide +kernel
theorem dX1_prove_89 : decode cX1_prove 89 = .ok (.iinc 2 1, 3) := by decide +kernel
theorem dX1_prove_92 : decode cX1_prove 92 = .ok (.iinc 5 1, 3) := by decide +kernel
theorem dX1_prove_95 : decode cX1_prove 95 = .ok (.goto (-55), 3) := by decide +kernel
theorem dX1_prove_98 : decode cX1_prove 98 = .ok (.iinc 4 1, 3) := by decide +kernel
theorem dX1_prove_101 : decode cX1_prove 101 = .ok (.goto (-71), 3) := by decide +kernel
theorem dX1_prove_104 : decode cX1_prove 104 = .ok (.iload_n 2, 1) := by decide +kernel
theorem dX1_prove_105 : decode cX1_prove 105 = .ok (.ireturn, 1) := by decide +kernel
theorem dX1_lengthOf_0 : decode cX1_lengthOf 0 = .ok (.aload_n 0, 1) := by decide +kernel
theorem dX1_lengthOf_1 : decode cX1_lengthOf 1 = .ok (.iload_n 1, 1) := by decide +kernel
theorem dX1_lengthOf_2 : decode cX1_lengthOf 2 = .ok (.iload_n 2, 1) := by decide +kernel
theorem dX1_lengthOf_3 : decode cX1_lengthOf 3 = .ok (.invokevirtual 67, 3) := by decide +kernel
theorem dX1_lengthOf_6 : decode cX1_lengthOf 6 = .ok (.ifCond .ne 7, 3) := by decide +kernel
theorem dX1_lengthOf_9 : decode cX1_lengthOf 9 = .ok (.sipush 9999, 3) := by decide +kernel
theorem dX1_lengthOf_12 : decode cX1_lengthOf 12 = .ok (.ireturn, 1) := by decide +kernel
theorem dX1_lengthOf_13 : decode cX1_lengthOf 13 = .ok (.aload_n 0, 1) := by decide +kernel
theorem dX1_lengthOf_14 : decode cX1_lengthOf 14 = .ok (.getfield 17, 3) := by decide +kernel
theorem dX1_lengthOf_17 : decode cX1_lengthOf 17 = .ok (.iconst 3, 1) := by decide +kernel
theorem dX1_lengthOf_18 : decode cX1_lengthOf 18 = .ok (.iload_n 1, 1) := by decide +kernel
theorem dX1_lengthOf_19 : decode cX1_lengthOf 19 = .ok (.imul, 1) := by decide +kernel
theorem dX1_lengthOf_20 : decode cX1_lengthOf 20 = .ok (.iload_n 2, 1) := by decide +kernel
theorem dX1_lengthOf_21 : decode cX1_lengthOf 21 = .ok (.iadd, 1) := by decide +kernel
theorem dX1_lengthOf_22 : decode cX1_lengthOf 22 = .ok (.iaload, 1) := by decide +kernel
theorem dX1_lengthOf_23 : decode cX1_lengthOf 23 = .ok (.istore_n 3, 1) := by decide +kernel
theorem dX1_lengthOf_24 : decode cX1_lengthOf 24 = .ok (.iconst 0, 1) := by decide +kernel
theorem dX1_lengthOf_25 : decode cX1_lengthOf 25 = .ok (.istore 4, 2) := by decide +kernel
theorem dX1_lengthOf_27 : decode cX1_lengthOf 27 = .ok (.iload 4, 2) := by decide +kernel
theorem dX1_lengthOf_29 : decode cX1_lengthOf 29 = .ok (.aload_n 0, 1) := by decide +kernel
theorem dX1_lengthOf_30 : decode cX1_lengthOf 30 = .ok (.getfield 17, 3) := by decide +kernel
theorem dX1_lengthOf_33 : decode cX1_lengthOf 33 = .ok (.iconst 3, 1) := by decide +kernel
theorem dX1_lengthOf_34 : decode cX1_lengthOf 34 = .ok (.iload_n 1, 1) := by decide +kernel
theorem dX1_lengthOf_35 : decode cX1_lengthOf 35 = .ok (.imul, 1) := by decide +kernel
theorem dX1_lengthOf_36 : decode cX1_lengthOf 36 = .ok (.iload_n 2, 1) := by decide +kernel
theorem dX1_lengthOf_37 : decode cX1_lengthOf 37 = .ok (.iadd, 1) := by decide +kernel
theorem dX1_lengthOf_38 : decode cX1_lengthOf 38 = .ok (.iaload, 1) := by decide +kernel
theorem dX1_lengthOf_39 : decode cX1_lengthOf 39 = .ok (.if_icmp .ge 112, 3) := by decide +kernel
theorem dX1_lengthOf_42 : decode cX1_lengthOf 42 = .ok (.iload_n 1, 1) := by decide +kernel
theorem dX1_lengthOf_43 : decode cX1_lengthOf 43 = .ok (.iload_n 2, 1) := by decide +kernel
theorem dX1_lengthOf_44 : decode cX1_lengthOf 44 = .ok (.iload 4, 2) := by decide +kernel
theorem dX1_lengthOf_46 : decode cX1_lengthOf 46 = .ok (.invokestatic 63, 3) := by decide +kernel
theorem dX1_lengthOf_49 : decode cX1_lengthOf 49 = .ok (.istore 5, 2) := by decide +kernel
theorem dX1_lengthOf_51 : decode cX1_lengthOf 51 = .ok (.aload_n 0, 1) := by decide +kernel
theorem dX1_lengthOf_52 : decode cX1_lengthOf 52 = .ok (.getfield 20, 3) := by decide +kernel
theorem dX1_lengthOf_55 : decode cX1_lengthOf 55 = .ok (.iload 5, 2) := by decide +kernel
theorem dX1_lengthOf_57 : decode cX1_lengthOf 57 = .ok (.iaload, 1) := by decide +kernel
theorem dX1_lengthOf_58 : decode cX1_lengthOf 58 = .ok (.ifCond .ne 18, 3) := by decide +kernel
theorem dX1_lengthOf_61 : decode cX1_lengthOf 61 = .ok (.aload_n 0, 1) := by decide +kernel
theorem dX1_lengthOf_62 : decode cX1_lengthOf 62 = .ok (.getfield 9, 3) := by decide +kernel
theorem dX1_lengthOf_65 : decode cX1_lengthOf 65 = .ok (.aload_n 0, 1) := by decide +kernel
theorem dX1_lengthOf_66 : decode cX1_lengthOf 66 = .ok (.getfield 23, 3) := by decide +kernel
theorem dX1_lengthOf_69 : decode cX1_lengthOf 69 = .ok (.iload 5, 2) := by decide +kernel
theorem dX1_lengthOf_71 : decode cX1_lengthOf 71 = .ok (.iaload, 1) := by decide +kernel
theorem dX1_lengthOf_72 : decode cX1_lengthOf 72 = .ok (.baload, 1) := by decide +kernel
theorem dX1_lengthOf_73 : decode cX1_lengthOf 73 = .ok (.ifCond .eq 24, 3) := by decide +kernel
theorem dX1_lengthOf_76 : decode cX1_lengthOf 76 = .ok (.aload_n 0, 1) := by decide +kernel
theorem dX1_lengthOf_77 : decode cX1_lengthOf 77 = .ok (.getfield 20, 3) := by decide +kernel
theorem dX1_lengthOf_80 : decode cX1_lengthOf 80 = .ok (.iload 5, 2) := by decide +kernel
theorem dX1_lengthOf_82 : decode cX1_lengthOf 82 = .ok (.iaload, 1) := by decide +kernel
theorem dX1_lengthOf_83 : decode cX1_lengthOf 83 = .ok (.iconst 2, 1) := by decide +kernel
theorem dX1_lengthOf_84 : decode cX1_lengthOf 84 = .ok (.if_icmp .ne 17, 3) := by decide +kernel
theorem dX1_lengthOf_87 : decode cX1_lengthOf 87 = .ok (.aload_n 0, 1) := by decide +kernel
theorem dX1_lengthOf_88 : decode cX1_lengthOf 88 = .ok (.getfield 26, 3) := by decide +kernel
theorem dX1_lengthOf_91 : decode cX1_lengthOf 91 = .ok (.iload 5, 2) := by decide +kernel
theorem dX1_lengthOf_93 : decode cX1_lengthOf 93 = .ok (.iaload, 1) := by decide +kernel
theorem dX1_lengthOf_94 : decode cX1_lengthOf 94 = .ok (.ifCond .le 7, 3) := by decide +kernel
theorem dX1_lengthOf_97 : decode cX1_lengthOf 97 = .ok (.iconst 1, 1) := by decide +kernel
theorem dX1_lengthOf_98 : decode cX1_lengthOf 98 = .ok (.goto 4, 3) := by decide +kernel
theorem dX1_lengthOf_101 : decode cX1_lengthOf 101 = .ok (.iconst 0, 1) := by decide +kernel
theorem dX1_lengthOf_102 : decode cX1_lengthOf 102 = .ok (.istore 6, 2) := by decide +kernel
theorem dX1_lengthOf_104 : decode cX1_lengthOf 104 = .ok (.iload_n 3, 1) := by decide +kernel
theorem dX1_lengthOf_105 : decode cX1_lengthOf 105 = .ok (.iload 6, 2) := by decide +kernel
theorem dX1_lengthOf_107 : decode cX1_lengthOf 107 = .ok (.ifCond .eq 9, 3) := by decide +kernel
theorem dX1_lengthOf_110 : decode cX1_lengthOf 110 = .ok (.sipush 9999, 3) := by decide +kernel
theorem dX1_lengthOf_113 : decode cX1_lengthOf 113 = .ok (.goto 30, 3) := by decide +kernel
theorem dX1_lengthOf_116 : decode cX1_lengthOf 116 = .ok (.aload_n 0, 1) := by decide +kernel
theorem dX1_lengthOf_117 : decode cX1_lengthOf 117 = .ok (.getfield 20, 3) := by decide +kernel
theorem dX1_lengthOf_120 : decode cX1_lengthOf 120 = .ok (.iload 5, 2) := by decide +kernel
theorem dX1_lengthOf_122 : decode cX1_lengthOf 122 = .ok (.iaload, 1) := by decide +kernel
theorem dX1_lengthOf_123 : decode cX1_lengthOf 123 = .ok (.iconst 1, 1) := by decide +kernel
theorem dX1_lengthOf_124 : decode cX1_lengthOf 124 = .ok (.if_icmp .ne 18, 3) := by decide +kernel
theorem dX1_lengthOf_127 : decode cX1_lengthOf 127 = .ok (.aload_n 0, 1) := by decide +kernel
theorem dX1_lengthOf_128 : decode cX1_lengthOf 128 = .ok (.getfield 35, 3) := by decide +kernel
theorem dX1_lengthOf_131 : decode cX1_lengthOf 131 = .ok (.aload_n 0, 1) := by decide +kernel
theorem dX1_lengthOf_132 : decode cX1_lengthOf 132 = .ok (.getfield 23, 3) := by decide +kernel
theorem dX1_lengthOf_135 : decode cX1_lengthOf 135 = .ok (.iload 5, 2) := by decide +kernel
theorem dX1_lengthOf_137 : decode cX1_lengthOf 137 = .ok (.iaload, 1) := by decide +kernel
theorem dX1_lengthOf_138 : decode cX1_lengthOf 138 = .ok (.iaload, 1) := by decide +kernel
theorem dX1_lengthOf_139 : decode cX1_lengthOf 139 = .ok (.goto 4, 3) := by decide +kernel
theorem dX1_lengthOf_142 : decode cX1_lengthOf 142 = .ok (.iconst 0, 1) := by decide +kernel
theorem dX1_lengthOf_143 : decode cX1_lengthOf 143 = .ok (.iadd, 1) := by decide +kernel
theorem dX1_lengthOf_144 : decode cX1_lengthOf 144 = .ok (.istore_n 3, 1) := by decide +kernel
theorem dX1_lengthOf_145 : decode cX1_lengthOf 145 = .ok (.iinc 4 1, 3) := by decide +kernel
theorem dX1_lengthOf_148 : decode cX1_lengthOf 148 = .ok (.goto (-121), 3) := by decide +kernel
theorem dX1_lengthOf_151 : decode cX1_lengthOf 151 = .ok (.sipush 9999, 3) := by decide +kernel
theorem dX1_lengthOf_154 : decode cX1_lengthOf 154 = .ok (.iload_n 3, 1) := by decide +kernel
theorem dX1_lengthOf_155 : decode cX1_lengthOf 155 = .ok (.invokestatic 80, 3) := by decide +kernel
theorem dX1_lengthOf_158 : decode cX1_lengthOf 158 = .ok (.ireturn, 1) := by decide +kernel
theorem dX1_priceOf_0 : decode cX1_priceOf 0 = .ok (.aload_n 0, 1) := by decide +kernel
theorem dX1_priceOf_1 : decode cX1_priceOf 1 = .ok (.iload_n 1, 1) := by decide +kernel
theorem dX1_priceOf_2 : decode cX1_priceOf 2 = .ok (.iload_n 2, 1) := by decide +kernel
theorem dX1_priceOf_3 : decode cX1_priceOf 3 = .ok (.invokevirtual 67, 3) := by decide +kernel
theorem dX1_priceOf_6 : decode cX1_priceOf 6 = .ok (.ifCond .ne 5, 3) := by decide +kernel
theorem dX1_priceOf_9 : decode cX1_priceOf 9 = .ok (.iconst (-1), 1) := by decide +kernel
theorem dX1_priceOf_10 : decode cX1_priceOf 10 = .ok (.ireturn, 1) := by decide +kernel
theorem dX1_priceOf_11 : decode cX1_priceOf 11 = .ok (.iconst 0, 1) := by decide +kernel
theorem dX1_priceOf_12 : decode cX1_priceOf 12 = .ok (.istore_n 3, 1) := by decide +kernel
theorem dX1_priceOf_13 : decode cX1_priceOf 13 = .ok (.iconst 0, 1) := by decide +kernel
theorem dX1_priceOf_14 : decode cX1_priceOf 14 = .ok (.istore 4, 2) := by decide +kernel
theorem dX1_priceOf_16 : decode cX1_priceOf 16 = .ok (.iload 4, 2) := by decide +kernel
theorem dX1_priceOf_18 : decode cX1_priceOf 18 = .ok (.aload_n 0, 1) := by decide +kernel
theorem dX1_priceOf_19 : decode cX1_priceOf 19 = .ok (.getfield 17, 3) := by decide +kernel
theorem dX1_priceOf_22 : decode cX1_priceOf 22 = .ok (.iconst 3, 1) := by decide +kernel
theorem dX1_priceOf_23 : decode cX1_priceOf 23 = .ok (.iload_n 1, 1) := by decide +kernel
theorem dX1_priceOf_24 : decode cX1_priceOf 24 = .ok (.imul, 1) := by decide +kernel
theorem dX1_priceOf_25 : decode cX1_priceOf 25 = .ok (.iload_n 2, 1) := by decide +kernel
theorem dX1_priceOf_26 : decode cX1_priceOf 26 = .ok (.iadd, 1) := by decide +kernel
theorem dX1_priceOf_27 : decode cX1_priceOf 27 = .ok (.iaload, 1) := by decide +kernel
theorem dX1_priceOf_28 : decode cX1_priceOf 28 = .ok (.if_icmp .ge 125, 3) := by decide +kernel
theorem dX1_priceOf_31 : decode cX1_priceOf 31 = .ok (.iload_n 1, 1) := by decide +kernel
theorem dX1_priceOf_32 : decode cX1_priceOf 32 = .ok (.iload_n 2, 1) := by decide +kernel
theorem dX1_priceOf_33 : decode cX1_priceOf 33 = .ok (.iload 4, 2) := by decide +kernel
theorem dX1_priceOf_35 : decode cX1_priceOf 35 = .ok (.invokestatic 63, 3) := by decide +kernel
theorem dX1_priceOf_38 : decode cX1_priceOf 38 = .ok (.istore 5, 2) := by decide +kernel
theorem dX1_priceOf_40 : decode cX1_priceOf 40 = .ok (.aload_n 0, 1) := by decide +kernel
theorem dX1_priceOf_41 : decode cX1_priceOf 41 = .ok (.getfield 20, 3) := by decide +kernel
theorem dX1_priceOf_44 : decode cX1_priceOf 44 = .ok (.iload 5, 2) := by decide +kernel
theorem dX1_priceOf_46 : decode cX1_priceOf 46 = .ok (.iaload, 1) := by decide +kernel
theorem dX1_priceOf_47 : decode cX1_priceOf 47 = .ok (.ifCond .ne 18, 3) := by decide +kernel
theorem dX1_priceOf_50 : decode cX1_priceOf 50 = .ok (.aload_n 0, 1) := by decide +kernel
theorem dX1_priceOf_51 : decode cX1_priceOf 51 = .ok (.getfield 9, 3) := by decide +kernel
theorem dX1_priceOf_54 : decode cX1_priceOf 54 = .ok (.aload_n 0, 1) := by decide +kernel
theorem dX1_priceOf_55 : decode cX1_priceOf 55 = .ok (.getfield 23, 3) := by decide +kernel
theorem dX1_priceOf_58 : decode cX1_priceOf 58 = .ok (.iload 5, 2) := by decide +kernel
theorem dX1_priceOf_60 : decode cX1_priceOf 60 = .ok (.iaload, 1) := by decide +kernel
theorem dX1_priceOf_61 : decode cX1_priceOf 61 = .ok (.baload, 1) := by decide +kernel
theorem dX1_priceOf_62 : decode cX1_priceOf 62 = .ok (.ifCond .eq 32, 3) := by decide +kernel
theorem dX1_priceOf_65 : decode cX1_priceOf 65 = .ok (.aload_n 0, 1) := by decide +kernel
theorem dX1_priceOf_66 : decode cX1_priceOf 66 = .ok (.getfield 20, 3) := by decide +kernel
theorem dX1_priceOf_69 : decode cX1_priceOf 69 = .ok (.iload 5, 2) := by decide +kernel
theorem dX1_priceOf_71 : decode cX1_priceOf 71 = .ok (.iaload, 1) := by decide +kernel
theorem dX1_priceOf_72 : decode cX1_priceOf 72 = .ok (.iconst 1, 1) := by decide +kernel
theorem dX1_priceOf_73 : decode cX1_priceOf 73 = .ok (.if_icmp .ne 23, 3) := by decide +kernel
theorem dX1_priceOf_76 : decode cX1_priceOf 76 = .ok (.aload_n 0, 1) := by decide +kernel
theorem dX1_priceOf_77 : decode cX1_priceOf 77 = .ok (.getfield 38, 3) := by decide +kernel
theorem dX1_priceOf_80 : decode cX1_priceOf 80 = .ok (.aload_n 0, 1) := by decide +kernel
theorem dX1_priceOf_81 : decode cX1_priceOf 81 = .ok (.getfield 23, 3) := by decide +kernel
theorem dX1_priceOf_84 : decode cX1_priceOf 84 = .ok (.iload 5, 2) := by decide +kernel
theorem dX1_priceOf_86 : decode cX1_priceOf 86 = .ok (.iaload, 1) := by decide +kernel
theorem dX1_priceOf_87 : decode cX1_priceOf 87 = .ok (.iaload, 1) := by decide +kernel
theorem dX1_priceOf_88 : decode cX1_priceOf 88 = .ok (.sipush 9999, 3) := by decide +kernel
theorem dX1_priceOf_91 : decode cX1_priceOf 91 = .ok (.if_icmp .ne 5, 3) := by decide +kernel
theorem dX1_priceOf_94 : decode cX1_priceOf 94 = .ok (.iconst (-1), 1) := by decide +kernel
theorem dX1_priceOf_95 : decode cX1_priceOf 95 = .ok (.ireturn, 1) := by decide +kernel
theorem dX1_priceOf_96 : decode cX1_priceOf 96 = .ok (.iload_n 3, 1) := by decide +kernel
theorem dX1_priceOf_97 : decode cX1_priceOf 97 = .ok (.aload_n 0, 1) := by decide +kernel
theorem dX1_priceOf_98 : decode cX1_priceOf 98 = .ok (.getfield 20, 3) := by decide +kernel
theorem dX1_priceOf_101 : decode cX1_priceOf 101 = .ok (.iload 5, 2) := by decide +kernel
theorem dX1_priceOf_103 : decode cX1_priceOf 103 = .ok (.iaload, 1) := by decide +kernel
theorem dX1_priceOf_104 : decode cX1_priceOf 104 = .ok (.iconst 2, 1) := by decide +kernel
theorem dX1_priceOf_105 : decode cX1_priceOf 105 = .ok (.if_icmp .ne 13, 3) := by decide +kernel
theorem dX1_priceOf_108 : decode cX1_priceOf 108 = .ok (.aload_n 0, 1) := by decide +kernel
theorem dX1_priceOf_109 : decode cX1_priceOf 109 = .ok (.getfield 26, 3) := by decide +kernel
theorem dX1_priceOf_112 : decode cX1_priceOf 112 = .ok (.iload 5, 2) := by decide +kernel
theorem dX1_priceOf_114 : decode cX1_priceOf 114 = .ok (.iaload, 1) := by decide +kernel
theorem dX1_priceOf_115 : decode cX1_priceOf 115 = .ok (.goto 30, 3) := by decide +kernel
theorem dX1_priceOf_118 : decode cX1_priceOf 118 = .ok (.aload_n 0, 1) := by decide +kernel
theorem dX1_priceOf_119 : decode cX1_priceOf 119 = .ok (.getfield 20, 3) := by decide +kernel
theorem dX1_priceOf_122 : decode cX1_priceOf 122 = .ok (.iload 5, 2) := by decide +kernel
theorem dX1_priceOf_124 : decode cX1_priceOf 124 = .ok (.iaload, 1) := by decide +kernel
theorem dX1_priceOf_125 : decode cX1_priceOf 125 = .ok (.iconst 1, 1) := by decide +kernel
theorem dX1_priceOf_126 : decode cX1_priceOf 126 = .ok (.if_icmp .ne 18, 3) := by decide +kernel
theorem dX1_priceOf_129 : decode cX1_priceOf 129 = .ok (.aload_n 0, 1) := by decide +kernel
theorem dX1_priceOf_130 : decode cX1_priceOf 130 = .ok (.getfield 38, 3) := by decide +kernel
theorem dX1_priceOf_133 : decode cX1_priceOf 133 = .ok (.aload_n 0, 1) := by decide +kernel
theorem dX1_priceOf_134 : decode cX1_priceOf 134 = .ok (.getfield 23, 3) := by decide +kernel
theorem dX1_priceOf_137 : decode cX1_priceOf 137 = .ok (.iload 5, 2) := by decide +kernel
theorem dX1_priceOf_139 : decode cX1_priceOf 139 = .ok (.iaload, 1) := by decide +kernel
theorem dX1_priceOf_140 : decode cX1_priceOf 140 = .ok (.iaload, 1) := by decide +kernel
theorem dX1_priceOf_141 : decode cX1_priceOf 141 = .ok (.goto 4, 3) := by decide +kernel
theorem dX1_priceOf_144 : decode cX1_priceOf 144 = .ok (.iconst 0, 1) := by decide +kernel
theorem dX1_priceOf_145 : decode cX1_priceOf 145 = .ok (.iadd, 1) := by decide +kernel
theorem dX1_priceOf_146 : decode cX1_priceOf 146 = .ok (.istore_n 3, 1) := by decide +kernel
theorem dX1_priceOf_147 : decode cX1_priceOf 147 = .ok (.iinc 4 1, 3) := by decide +kernel
theorem dX1_priceOf_150 : decode cX1_priceOf 150 = .ok (.goto (-134), 3) := by decide +kernel
theorem dX1_priceOf_153 : decode cX1_priceOf 153 = .ok (.iload_n 3, 1) := by decide +kernel
theorem dX1_priceOf_154 : decode cX1_priceOf 154 = .ok (.sipush 9999, 3) := by decide +kernel
theorem dX1_priceOf_157 : decode cX1_priceOf 157 = .ok (.if_icmp .lt 7, 3) := by decide +kernel
theorem dX1_priceOf_160 : decode cX1_priceOf 160 = .ok (.iconst (-1), 1) := by decide +kernel
theorem dX1_priceOf_161 : decode cX1_priceOf 161 = .ok (.goto 4, 3) := by decide +kernel
theorem dX1_priceOf_164 : decode cX1_priceOf 164 = .ok (.iload_n 3, 1) := by decide +kernel
theorem dX1_priceOf_165 : decode cX1_priceOf 165 = .ok (.ireturn, 1) := by decide +kernel
theorem dX1_getsShorter_0 : decode cX1_getsShorter 0 = .ok (.aload_n 0, 1) := by decide +kernel
theorem dX1_getsShorter_1 : decode cX1_getsShorter 1 = .ok (.getfield 35, 3) := by decide +kernel
theorem dX1_getsShorter_4 : decode cX1_getsShorter 4 = .ok (.iload_n 1, 1) := by decide +kernel
theorem dX1_getsShorter_5 : decode cX1_getsShorter 5 = .ok (.iaload, 1) := by decide +kernel
theorem dX1_getsShorter_6 : decode cX1_getsShorter 6 = .ok (.istore_n 2, 1) := by decide +kernel
theorem dX1_getsShorter_7 : decode cX1_getsShorter 7 = .ok (.iconst 0, 1) := by decide +kernel
theorem dX1_getsShorter_8 : decode cX1_getsShorter 8 = .ok (.istore_n 3, 1) := by decide +kernel
theorem dX1_getsShorter_9 : decode cX1_getsShorter 9 = .ok (.iload_n 3, 1) := by decide +kernel
theorem dX1_getsShorter_10 : decode cX1_getsShorter 10 = .ok (.aload_n 0, 1) := by decide +kernel
theorem dX1_getsShorter_11 : decode cX1_getsShorter 11 = .ok (.getfield 13, 3) := by decide +kernel
theorem dX1_getsShorter_14 : decode cX1_getsShorter 14 = .ok (.iload_n 1, 1) := by decide +kernel
theorem dX1_getsShorter_15 : decode cX1_getsShorter 15 = .ok (.iaload, 1) := by decide +kernel
theorem dX1_getsShorter_16 : decode cX1_getsShorter 16 = .ok (.if_icmp .ge 20, 3) := by decide +kernel
theorem dX1_getsShorter_19 : decode cX1_getsShorter 19 = .ok (.iload_n 2, 1) := by decide +kernel
theorem dX1_getsShorter_20 : decode cX1_getsShorter 20 = .ok (.aload_n 0, 1) := by decide +kernel
theorem dX1_getsShorter_21 : decode cX1_getsShorter 21 = .ok (.iload_n 1, 1) := by decide +kernel
theorem dX1_getsShorter_22 : decode cX1_getsShorter 22 = .ok (.iload_n 3, 1) := by decide +kernel
theorem dX1_getsShorter_23 : decode cX1_getsShorter 23 = .ok (.invokevirtual 86, 3) := by decide +kernel
theorem dX1_getsShorter_26 : decode cX1_getsShorter 26 = .ok (.invokestatic 80, 3) := by decide +kernel
theorem dX1_getsShorter_29 : decode cX1_getsShorter 29 = .ok (.istore_n 2, 1) := by decide +kernel
theorem dX1_getsShorter_30 : decode cX1_getsShorter 30 = .ok (.iinc 3 1, 3) := by decide +kernel
theorem dX1_getsShorter_33 : decode cX1_getsShorter 33 = .ok (.goto (-24), 3) := by decide +kernel
theorem dX1_getsShorter_36 : decode cX1_getsShorter 36 = .ok (.iload_n 2, 1) := by decide +kernel
theorem dX1_getsShorter_37 : decode cX1_getsShorter 37 = .ok (.aload_n 0, 1) := by decide +kernel
theorem dX1_getsShorter_38 : decode cX1_getsShorter 38 = .ok (.getfield 35, 3) := by decide +kernel
theorem dX1_getsShorter_41 : decode cX1_getsShorter 41 = .ok (.iload_n 1, 1) := by decide +kernel
theorem dX1_getsShorter_42 : decode cX1_getsShorter 42 = .ok (.iaload, 1) := by decide +kernel
theorem dX1_getsShorter_43 : decode cX1_getsShorter 43 = .ok (.if_icmp .ge 7, 3) := by decide +kernel
theorem dX1_getsShorter_46 : decode cX1_getsShorter 46 = .ok (.iconst 1, 1) := by decide +kernel
theorem dX1_getsShorter_47 : decode cX1_getsShorter 47 = .ok (.goto 4, 3) := by decide +kernel
theorem dX1_getsShorter_50 : decode cX1_getsShorter 50 = .ok (.iconst 0, 1) := by decide +kernel
theorem dX1_getsShorter_51 : decode cX1_getsShorter 51 = .ok (.istore_n 3, 1) := by decide +kernel
theorem dX1_getsShorter_52 : decode cX1_getsShorter 52 = .ok (.aload_n 0, 1) := by decide +kernel
theorem dX1_getsShorter_53 : decode cX1_getsShorter 53 = .ok (.getfield 35, 3) := by decide +kernel
theorem dX1_getsShorter_56 : decode cX1_getsShorter 56 = .ok (.iload_n 1, 1) := by decide +kernel
theorem dX1_getsShorter_57 : decode cX1_getsShorter 57 = .ok (.iload_n 2, 1) := by decide +kernel
theorem dX1_getsShorter_58 : decode cX1_getsShorter 58 = .ok (.iastore, 1) := by decide +kernel
theorem dX1_getsShorter_59 : decode cX1_getsShorter 59 = .ok (.iload_n 3, 1) := by decide +kernel
theorem dX1_getsShorter_60 : decode cX1_getsShorter 60 = .ok (.ireturn, 1) := by decide +kernel
theorem dX1_getsCheaper_0 : decode cX1_getsCheaper 0 = .ok (.aload_n 0, 1) := by decide +kernel
theorem dX1_getsCheaper_1 : decode cX1_getsCheaper 1 = .ok (.getfield 38, 3) := by decide +kernel
theorem dX1_getsCheaper_4 : decode cX1_getsCheaper 4 = .ok (.iload_n 1, 1) := by decide +kernel
theorem dX1_getsCheaper_5 : decode cX1_getsCheaper 5 = .ok (.iaload, 1) := by decide +kernel
theorem dX1_getsCheaper_6 : decode cX1_getsCheaper 6 = .ok (.istore_n 2, 1) := by decide +kernel
theorem dX1_getsCheaper_7 : decode cX1_getsCheaper 7 = .ok (.iconst 0, 1) := by decide +kernel
theorem dX1_getsCheaper_8 : decode cX1_getsCheaper 8 = .ok (.istore_n 3, 1) := by decide +kernel
theorem dX1_getsCheaper_9 : decode cX1_getsCheaper 9 = .ok (.iload_n 3, 1) := by decide +kernel
theorem dX1_getsCheaper_10 : decode cX1_getsCheaper 10 = .ok (.aload_n 0, 1) := by decide +kernel
theorem dX1_getsCheaper_11 : decode cX1_getsCheaper 11 = .ok (.getfield 13, 3) := by decide +kernel
theorem dX1_getsCheaper_14 : decode cX1_getsCheaper 14 = .ok (.iload_n 1, 1) := by decide +kernel
theorem dX1_getsCheaper_15 : decode cX1_getsCheaper 15 = .ok (.iaload, 1) := by decide +kernel
theorem dX1_getsCheaper_16 : decode cX1_getsCheaper 16 = .ok (.if_icmp .ge 30, 3) := by decide +kernel
theorem dX1_getsCheaper_19 : decode cX1_getsCheaper 19 = .ok (.aload_n 0, 1) := by decide +kernel
theorem dX1_getsCheaper_20 : decode cX1_getsCheaper 20 = .ok (.iload_n 1, 1) := by decide +kernel
theorem dX1_getsCheaper_21 : decode cX1_getsCheaper 21 = .ok (.iload_n 3, 1) := by decide +kernel
theorem dX1_getsCheaper_22 : decode cX1_getsCheaper 22 = .ok (.invokevirtual 89, 3) := by decide +kernel
theorem dX1_getsCheaper_25 : decode cX1_getsCheaper 25 = .ok (.iconst (-1), 1) := by decide +kernel
theorem dX1_getsCheaper_26 : decode cX1_getsCheaper 26 = .ok (.if_icmp .eq 14, 3) := by decide +kernel
theorem dX1_getsCheaper_29 : decode cX1_getsCheaper 29 = .ok (.iload_n 2, 1) := by decide +kernel
theorem dX1_getsCheaper_30 : decode cX1_getsCheaper 30 = .ok (.aload_n 0, 1) := by decide +kernel
theorem dX1_getsCheaper_31 : decode cX1_getsCheaper 31 = .ok (.iload_n 1, 1) := by decide +kernel
theorem dX1_getsCheaper_32 : decode cX1_getsCheaper 32 = .ok (.iload_n 3, 1) := by decide +kernel
theorem dX1_getsCheaper_33 : decode cX1_getsCheaper 33 = .ok (.invokevirtual 89, 3) := by decide +kernel
theorem dX1_getsCheaper_36 : decode cX1_getsCheaper 36 = .ok (.invokestatic 80, 3) := by decide +kernel
theorem dX1_getsCheaper_39 : decode cX1_getsCheaper 39 = .ok (.istore_n 2, 1) := by decide +kernel
theorem dX1_getsCheaper_40 : decode cX1_getsCheaper 40 = .ok (.iinc 3 1, 3) := by decide +kernel
theorem dX1_getsCheaper_43 : decode cX1_getsCheaper 43 = .ok (.goto (-34), 3) := by decide +kernel
theorem dX1_getsCheaper_46 : decode cX1_getsCheaper 46 = .ok (.iload_n 2, 1) := by decide +kernel
theorem dX1_getsCheaper_47 : decode cX1_getsCheaper 47 = .ok (.aload_n 0, 1) := by decide +kernel
theorem dX1_getsCheaper_48 : decode cX1_getsCheaper 48 = .ok (.getfield 38, 3) := by decide +kernel
theorem dX1_getsCheaper_51 : decode cX1_getsCheaper 51 = .ok (.iload_n 1, 1) := by decide +kernel
theorem dX1_getsCheaper_52 : decode cX1_getsCheaper 52 = .ok (.iaload, 1) := by decide +kernel
theorem dX1_getsCheaper_53 : decode cX1_getsCheaper 53 = .ok (.if_icmp .ge 7, 3) := by decide +kernel
theorem dX1_getsCheaper_56 : decode cX1_getsCheaper 56 = .ok (.iconst 1, 1) := by decide +kernel
theorem dX1_getsCheaper_57 : decode cX1_getsCheaper 57 = .ok (.goto 4, 3) := by decide +kernel
theorem dX1_getsCheaper_60 : decode cX1_getsCheaper 60 = .ok (.iconst 0, 1) := by decide +kernel
theorem dX1_getsCheaper_61 : decode cX1_getsCheaper 61 = .ok (.istore_n 3, 1) := by decide +kernel
theorem dX1_getsCheaper_62 : decode cX1_getsCheaper 62 = .ok (.aload_n 0, 1) := by decide +kernel
theorem dX1_getsCheaper_63 : decode cX1_getsCheaper 63 = .ok (.getfield 38, 3) := by decide +kernel
theorem dX1_getsCheaper_66 : decode cX1_getsCheaper 66 = .ok (.iload_n 1, 1) := by decide +kernel
theorem dX1_getsCheaper_67 : decode cX1_getsCheaper 67 = .ok (.iload_n 2, 1) := by decide +kernel
theorem dX1_getsCheaper_68 : decode cX1_getsCheaper 68 = .ok (.iastore, 1) := by decide +kernel
theorem dX1_getsCheaper_69 : decode cX1_getsCheaper 69 = .ok (.iload_n 3, 1) := by decide +kernel
theorem dX1_getsCheaper_70 : decode cX1_getsCheaper 70 = .ok (.ireturn, 1) := by decide +kernel
theorem dX1_measure_0 : decode cX1_measure 0 = .ok (.iconst 0, 1) := by decide +kernel
theorem dX1_measure_1 : decode cX1_measure 1 = .ok (.istore_n 1, 1) := by decide +kernel
theorem dX1_measure_2 : decode cX1_measure 2 = .ok (.iload_n 1, 1) := by decide +kernel
theorem dX1_measure_3 : decode cX1_measure 3 = .ok (.aload_n 0, 1) := by decide +kernel
theorem dX1_measure_4 : decode cX1_measure 4 = .ok (.getfield 52, 3) := by decide +kernel
theorem dX1_measure_7 : decode cX1_measure 7 = .ok (.if_icmp .ge 27, 3) := by decide +kernel
theorem dX1_measure_10 : decode cX1_measure 10 = .ok (.aload_n 0, 1) := by decide +kernel
theorem dX1_measure_11 : decode cX1_measure 11 = .ok (.getfield 35, 3) := by decide +kernel
theorem dX1_measure_14 : decode cX1_measure 14 = .ok (.iload_n 1, 1) := by decide +kernel
theorem dX1_measure_15 : decode cX1_measure 15 = .ok (.sipush 9999, 3) := by decide +kernel
theorem dX1_measure_18 : decode cX1_measure 18 = .ok (.iastore, 1) := by decide +kernel
theorem dX1_measure_19 : decode cX1_measure 19 = .ok (.aload_n 0, 1) := by decide +kernel
theorem dX1_measure_20 : decode cX1_measure 20 = .ok (.getfield 38, 3) := by decide +kernel
theorem dX1_measure_23 : decode cX1_measure 23 = .ok (.iload_n 1, 1) := by decide +kernel
theorem dX1_measure_24 : decode cX1_measure 24 = .ok (.sipush 9999, 3) := by decide +kernel
theorem dX1_measure_27 : decode cX1_measure 27 = .ok (.iastore, 1) := by decide +kernel
theorem dX1_measure_28 : decode cX1_measure 28 = .ok (.iinc 1 1, 3) := by decide +kernel
theorem dX1_measure_31 : decode cX1_measure 31 = .ok (.goto (-29), 3) := by decide +kernel
theorem dX1_measure_34 : decode cX1_measure 34 = .ok (.iconst 1, 1) := by decide +kernel
theorem dX1_measure_35 : decode cX1_measure 35 = .ok (.istore_n 1, 1) := by decide +kernel
theorem dX1_measure_36 : decode cX1_measure 36 = .ok (.iload_n 1, 1) := by decide +kernel
theorem dX1_measure_37 : decode cX1_measure 37 = .ok (.ifCond .eq 40, 3) := by decide +kernel
theorem dX1_measure_40 : decode cX1_measure 40 = .ok (.iconst 0, 1) := by decide +kernel
theorem dX1_measure_41 : decode cX1_measure 41 = .ok (.istore_n 1, 1) := by decide +kernel
theorem dX1_measure_42 : decode cX1_measure 42 = .ok (.iconst 0, 1) := by decide +kernel
theorem dX1_measure_43 : decode cX1_measure 43 = .ok (.istore_n 2, 1) := by decide +kernel
theorem dX1_measure_44 : decode cX1_measure 44 = .ok (.iload_n 2, 1) := by decide +kernel
theorem dX1_measure_45 : decode cX1_measure 45 = .ok (.aload_n 0, 1) := by decide +kernel
theorem dX1_measure_46 : decode cX1_measure 46 = .ok (.getfield 52, 3) := by decide +kernel
theorem dX1_measure_49 : decode cX1_measure 49 = .ok (.if_icmp .ge 25, 3) := by decide +kernel
theorem dX1_measure_52 : decode cX1_measure 52 = .ok (.iload_n 1, 1) := by decide +kernel
theorem dX1_measure_53 : decode cX1_measure 53 = .ok (.aload_n 0, 1) := by decide +kernel
theorem dX1_measure_54 : decode cX1_measure 54 = .ok (.iload_n 2, 1) := by decide +kernel
theorem dX1_measure_55 : decode cX1_measure 55 = .ok (.invokevirtual 92, 3) := by decide +kernel
theorem dX1_measure_58 : decode cX1_measure 58 = .ok (.ior, 1) := by decide +kernel
theorem dX1_measure_59 : decode cX1_measure 59 = .ok (.istore_n 1, 1) := by decide +kernel
theorem dX1_measure_60 : decode cX1_measure 60 = .ok (.iload_n 1, 1) := by decide +kernel
theorem dX1_measure_61 : decode cX1_measure 61 = .ok (.aload_n 0, 1) := by decide +kernel
theorem dX1_measure_62 : decode cX1_measure 62 = .ok (.iload_n 2, 1) := by decide +kernel
theorem dX1_measure_63 : decode cX1_measure 63 = .ok (.invokevirtual 95, 3) := by decide +kernel
theorem dX1_measure_66 : decode cX1_measure 66 = .ok (.ior, 1) := by decide +kernel
theorem dX1_measure_67 : decode cX1_measure 67 = .ok (.istore_n 1, 1) := by decide +kernel
theorem dX1_measure_68 : decode cX1_measure 68 = .ok (.iinc 2 1, 3) := by decide +kernel
theorem dX1_measure_71 : decode cX1_measure 71 = .ok (.goto (-27), 3) := by decide +kernel
theorem dX1_measure_74 : decode cX1_measure 74 = .ok (.goto (-38), 3) := by decide +kernel
theorem dX1_measure_77 : decode cX1_measure 77 = .ok (.return_, 1) := by decide +kernel
theorem dX1_told_0 : decode cX1_told 0 = .ok (.iload_n 0, 1) := by decide +kernel
theorem dX1_told_1 : decode cX1_told 1 = .ok (.sipush 9999, 3) := by decide +kernel
theorem dX1_told_4 : decode cX1_told 4 = .ok (.if_icmp .ne 7, 3) := by decide +kernel
theorem dX1_told_7 : decode cX1_told 7 = .ok (.iconst (-1), 1) := by decide +kernel
theorem dX1_told_8 : decode cX1_told 8 = .ok (.goto 4, 3) := by decide +kernel
theorem dX1_told_11 : decode cX1_told 11 = .ok (.iload_n 0, 1) := by decide +kernel
theorem dX1_told_12 : decode cX1_told 12 = .ok (.ireturn, 1) := by decide +kernel
theorem dX1_leads_0 : decode cX1_leads 0 = .ok (.iconst 0, 1) := by decide +kernel
theorem dX1_leads_1 : decode cX1_leads 1 = .ok (.istore_n 3, 1) := by decide +kernel
theorem dX1_leads_2 : decode cX1_leads 2 = .ok (.iload_n 3, 1) := by decide +kernel
theorem dX1_leads_3 : decode cX1_leads 3 = .ok (.aload_n 0, 1) := by decide +kernel
theorem dX1_leads_4 : decode cX1_leads 4 = .ok (.getfield 13, 3) := by decide +kernel
theorem dX1_leads_7 : decode cX1_leads 7 = .ok (.iload_n 1, 1) := by decide +kernel
theorem dX1_leads_8 : decode cX1_leads 8 = .ok (.iaload, 1) := by decide +kernel
theorem dX1_leads_9 : decode cX1_leads 9 = .ok (.if_icmp .ge 67, 3) := by decide +kernel
theorem dX1_leads_12 : decode cX1_leads 12 = .ok (.iconst 0, 1) := by decide +kernel
theorem dX1_leads_13 : decode cX1_leads 13 = .ok (.istore 4, 2) := by decide +kernel
theorem dX1_leads_15 : decode cX1_leads 15 = .ok (.iload 4, 2) := by decide +kernel
theorem dX1_leads_17 : decode cX1_leads 17 = .ok (.aload_n 0, 1) := by decide +kernel
theorem dX1_leads_18 : decode cX1_leads 18 = .ok (.getfield 17, 3) := by decide +kernel
theorem dX1_leads_21 : decode cX1_leads 21 = .ok (.iconst 3, 1) := by decide +kernel
theorem dX1_leads_22 : decode cX1_leads 22 = .ok (.iload_n 1, 1) := by decide +kernel
theorem dX1_leads_23 : decode cX1_leads 23 = .ok (.imul, 1) := by decide +kernel
theorem dX1_leads_24 : decode cX1_leads 24 = .ok (.iload_n 3, 1) := by decide +kernel
theorem dX1_leads_25 : decode cX1_leads 25 = .ok (.iadd, 1) := by decide +kernel
theorem dX1_leads_26 : decode cX1_leads 26 = .ok (.iaload, 1) := by decide +kernel
theorem dX1_leads_27 : decode cX1_leads 27 = .ok (.if_icmp .ge 43, 3) := by decide +kernel
theorem dX1_leads_30 : decode cX1_leads 30 = .ok (.aload_n 0, 1) := by decide +kernel
theorem dX1_leads_31 : decode cX1_leads 31 = .ok (.getfield 20, 3) := by decide +kernel
theorem dX1_leads_34 : decode cX1_leads 34 = .ok (.iload_n 1, 1) := by decide +kernel
theorem dX1_leads_35 : decode cX1_leads 35 = .ok (.iload_n 3, 1) := by decide +kernel
theorem dX1_leads_36 : decode cX1_leads 36 = .ok (.iload 4, 2) := by decide +kernel
theorem dX1_leads_38 : decode cX1_leads 38 = .ok (.invokestatic 63, 3) := by decide +kernel
theorem dX1_leads_41 : decode cX1_leads 41 = .ok (.iaload, 1) := by decide +kernel
theorem dX1_leads_42 : decode cX1_leads 42 = .ok (.iconst 1, 1) := by decide +kernel
theorem dX1_leads_43 : decode cX1_leads 43 = .ok (.if_icmp .ne 21, 3) := by decide +kernel
theorem dX1_leads_46 : decode cX1_leads 46 = .ok (.aload_n 0, 1) := by decide +kernel
theorem dX1_leads_47 : decode cX1_leads 47 = .ok (.getfield 23, 3) := by decide +kernel
theorem dX1_leads_50 : decode cX1_leads 50 = .ok (.iload_n 1, 1) := by decide +kernel
theorem dX1_leads_51 : decode cX1_leads 51 = .ok (.iload_n 3, 1) := by decide +kernel
theorem dX1_leads_52 : decode cX1_leads 52 = .ok (.iload 4, 2) := by decide +kernel
theorem dX1_leads_54 : decode cX1_leads 54 = .ok (.invokestatic 63, 3) := by decide +kernel
theorem dX1_leads_57 : decode cX1_leads 57 = .ok (.iaload, 1) := by decide +kernel
theorem dX1_leads_58 : decode cX1_leads 58 = .ok (.iload_n 2, 1) := by decide +kernel
theorem dX1_leads_59 : decode cX1_leads 59 = .ok (.if_icmp .ne 5, 3) := by decide +kernel
theorem dX1_leads_62 : decode cX1_leads 62 = .ok (.iconst 1, 1) := by decide +kernel
theorem dX1_leads_63 : decode cX1_leads 63 = .ok (.ireturn, 1) := by decide +kernel
theorem dX1_leads_64 : decode cX1_leads 64 = .ok (.iinc 4 1, 3) := by decide +kernel
theorem dX1_leads_67 : decode cX1_leads 67 = .ok (.goto (-52), 3) := by decide +kernel
theorem dX1_leads_70 : decode cX1_leads 70 = .ok (.iinc 3 1, 3) := by decide +kernel
theorem dX1_leads_73 : decode cX1_leads 73 = .ok (.goto (-71), 3) := by decide +kernel
theorem dX1_leads_76 : decode cX1_leads 76 = .ok (.iconst 0, 1) := by decide +kernel
theorem dX1_leads_77 : decode cX1_leads 77 = .ok (.ireturn, 1) := by decide +kernel
theorem dX1_circle_0 : decode cX1_circle 0 = .ok (.iconst 0, 1) := by decide +kernel
theorem dX1_circle_1 : decode cX1_circle 1 = .ok (.istore_n 2, 1) := by decide +kernel
theorem dX1_circle_2 : decode cX1_circle 2 = .ok (.iload_n 2, 1) := by decide +kernel
theorem dX1_circle_3 : decode cX1_circle 3 = .ok (.aload_n 0, 1) := by decide +kernel
theorem dX1_circle_4 : decode cX1_circle 4 = .ok (.getfield 52, 3) := by decide +kernel
theorem dX1_circle_7 : decode cX1_circle 7 = .ok (.if_icmp .ge 29, 3) := by decide +kernel
theorem dX1_circle_10 : decode cX1_circle 10 = .ok (.aload_n 0, 1) := by decide +kernel
theorem dX1_circle_11 : decode cX1_circle 11 = .ok (.getfield 41, 3) := by decide +kernel
theorem dX1_circle_14 : decode cX1_circle 14 = .ok (.iload_n 2, 1) := by decide +kernel
theorem dX1_circle_15 : decode cX1_circle 15 = .ok (.aload_n 0, 1) := by decide +kernel
theorem dX1_circle_16 : decode cX1_circle 16 = .ok (.iload_n 1, 1) := by decide +kernel
theorem dX1_circle_17 : decode cX1_circle 17 = .ok (.iload_n 2, 1) := by decide +kernel
theorem dX1_circle_18 : decode cX1_circle 18 = .ok (.invokevirtual 98, 3) := by decide +kernel
theorem dX1_circle_21 : decode cX1_circle 21 = .ok (.ifCond .eq 7, 3) := by decide +kernel
theorem dX1_circle_24 : decode cX1_circle 24 = .ok (.iconst 1, 1) := by decide +kernel
theorem dX1_circle_25 : decode cX1_circle 25 = .ok (.goto 4, 3) := by decide +kernel
theorem dX1_circle_28 : decode cX1_circle 28 = .ok (.iconst 0, 1) := by decide +kernel
theorem dX1_circle_29 : decode cX1_circle 29 = .ok (.iastore, 1) := by decide +kernel
theorem dX1_circle_30 : decode cX1_circle 30 = .ok (.iinc 2 1, 3) := by decide +kernel
theorem dX1_circle_33 : decode cX1_circle 33 = .ok (.goto (-31), 3) := by decide +kernel
theorem dX1_circle_36 : decode cX1_circle 36 = .ok (.iconst 2, 1) := by decide +kernel
theorem dX1_circle_37 : decode cX1_circle 37 = .ok (.istore_n 2, 1) := by decide +kernel
theorem dX1_circle_38 : decode cX1_circle 38 = .ok (.iload_n 2, 1) := by decide +kernel
theorem dX1_circle_39 : decode cX1_circle 39 = .ok (.aload_n 0, 1) := by decide +kernel
theorem dX1_circle_40 : decode cX1_circle 40 = .ok (.getfield 52, 3) := by decide +kernel
theorem dX1_circle_43 : decode cX1_circle 43 = .ok (.if_icmp .gt 95, 3) := by decide +kernel
theorem dX1_circle_46 : decode cX1_circle 46 = .ok (.aload_n 0, 1) := by decide +kernel
theorem dX1_circle_47 : decode cX1_circle 47 = .ok (.getfield 41, 3) := by decide +kernel
theorem dX1_circle_50 : decode cX1_circle 50 = .ok (.iload_n 1, 1) := by decide +kernel
theorem dX1_circle_51 : decode cX1_circle 51 = .ok (.iaload, 1) := by decide +kernel
theorem dX1_circle_52 : decode cX1_circle 52 = .ok (.ifCond .ne 86, 3) := by decide +kernel
theorem dX1_circle_55 : decode cX1_circle 55 = .ok (.iconst 0, 1) := by decide +kernel
theorem dX1_circle_56 : decode cX1_circle 56 = .ok (.istore_n 3, 1) := by decide +kernel
theorem dX1_circle_57 : decode cX1_circle 57 = .ok (.iload_n 3, 1) := by decide +kernel
theorem dX1_circle_58 : decode cX1_circle 58 = .ok (.aload_n 0, 1) := by decide +kernel
theorem dX1_circle_59 : decode cX1_circle 59 = .ok (.getfield 52, 3) := by decide +kernel
theorem dX1_circle_62 : decode cX1_circle 62 = .ok (.if_icmp .ge 70, 3) := by decide +kernel
theorem dX1_circle_65 : decode cX1_circle 65 = .ok (.aload_n 0, 1) := by decide +kernel
theorem dX1_circle_66 : decode cX1_circle 66 = .ok (.getfield 41, 3) := by decide +kernel
theorem dX1_circle_69 : decode cX1_circle 69 = .ok (.iload_n 3, 1) := by decide +kernel
theorem dX1_circle_70 : decode cX1_circle 70 = .ok (.iaload, 1) := by decide +kernel
theorem dX1_circle_71 : decode cX1_circle 71 = .ok (.iload_n 2, 1) := by decide +kernel
theorem dX1_circle_72 : decode cX1_circle 72 = .ok (.iconst 1, 1) := by decide +kernel
theorem dX1_circle_73 : decode cX1_circle 73 = .ok (.isub, 1) := by decide +kernel
theorem dX1_circle_74 : decode cX1_circle 74 = .ok (.if_icmp .eq 6, 3) := by decide +kernel
theorem dX1_circle_77 : decode cX1_circle 77 = .ok (.goto 49, 3) := by decide +kernel
theorem dX1_circle_80 : decode cX1_circle 80 = .ok (.iconst 0, 1) := by decide +kernel
theorem dX1_circle_81 : decode cX1_circle 81 = .ok (.istore 4, 2) := by decide +kernel
theorem dX1_circle_83 : decode cX1_circle 83 = .ok (.iload 4, 2) := by decide +kernel
theorem dX1_circle_85 : decode cX1_circle 85 = .ok (.aload_n 0, 1) := by decide +kernel
theorem dX1_circle_86 : decode cX1_circle 86 = .ok (.getfield 52, 3) := by decide +kernel
theorem dX1_circle_89 : decode cX1_circle 89 = .ok (.if_icmp .ge 37, 3) := by decide +kernel
theorem dX1_circle_92 : decode cX1_circle 92 = .ok (.aload_n 0, 1) := by decide +kernel
theorem dX1_circle_93 : decode cX1_circle 93 = .ok (.getfield 41, 3) := by decide +kernel
theorem dX1_circle_96 : decode cX1_circle 96 = .ok (.iload 4, 2) := by decide +kernel
theorem dX1_circle_98 : decode cX1_circle 98 = .ok (.iaload, 1) := by decide +kernel
theorem dX1_circle_99 : decode cX1_circle 99 = .ok (.ifCond .ne 21, 3) := by decide +kernel
theorem dX1_circle_102 : decode cX1_circle 102 = .ok (.aload_n 0, 1) := by decide +kernel
theorem dX1_circle_103 : decode cX1_circle 103 = .ok (.iload_n 3, 1) := by decide +kernel
theorem dX1_circle_104 : decode cX1_circle 104 = .ok (.iload 4, 2) := by decide +kernel
theorem dX1_circle_106 : decode cX1_circle 106 = .ok (.invokevirtual 98, 3) := by decide +kernel
theorem dX1_circle_109 : decode cX1_circle 109 = .ok (.ifCond .eq 11, 3) := by decide +kernel
theorem dX1_circle_112 : decode cX1_circle 112 = .ok (.aload_n 0, 1) := by decide +kernel
theorem dX1_circle_113 : decode cX1_circle 113 = .ok (.getfield 41, 3) := by decide +kernel
theorem dX1_circle_116 : decode cX1_circle 116 = .ok (.iload 4, 2) := by decide +kernel
theorem dX1_circle_118 : decode cX1_circle 118 = .ok (.iload_n 2, 1) := by decide +kernel
theorem dX1_circle_119 : decode cX1_circle 119 = .ok (.iastore, 1) := by decide +kernel
theorem dX1_circle_120 : decode cX1_circle 120 = .ok (.iinc 4 1, 3) := by decide +kernel
theorem dX1_circle_123 : decode cX1_circle 123 = .ok (.goto (-40), 3) := by decide +kernel
theorem dX1_circle_126 : decode cX1_circle 126 = .ok (.iinc 3 1, 3) := by decide +kernel
theorem dX1_circle_129 : decode cX1_circle 129 = .ok (.goto (-72), 3) := by decide +kernel
theorem dX1_circle_132 : decode cX1_circle 132 = .ok (.iinc 2 1, 3) := by decide +kernel
theorem dX1_circle_135 : decode cX1_circle 135 = .ok (.goto (-97), 3) := by decide +kernel
theorem dX1_circle_138 : decode cX1_circle 138 = .ok (.aload_n 0, 1) := by decide +kernel
theorem dX1_circle_139 : decode cX1_circle 139 = .ok (.getfield 41, 3) := by decide +kernel
theorem dX1_circle_142 : decode cX1_circle 142 = .ok (.iload_n 1, 1) := by decide +kernel
theorem dX1_circle_143 : decode cX1_circle 143 = .ok (.iaload, 1) := by decide +kernel
theorem dX1_circle_144 : decode cX1_circle 144 = .ok (.ireturn, 1) := by decide +kernel
theorem dX1_take_0 : decode cX1_take 0 = .ok (.aload_n 0, 1) := by decide +kernel
theorem dX1_take_1 : decode cX1_take 1 = .ok (.iload_n 1, 1) := by decide +kernel
theorem dX1_take_2 : decode cX1_take 2 = .ok (.invokestatic 101, 3) := by decide +kernel
theorem dX1_take_5 : decode cX1_take 5 = .ok (.ifCond .eq 7, 3) := by decide +kernel
theorem dX1_take_8 : decode cX1_take 8 = .ok (.iconst 0, 1) := by decide +kernel
theorem dX1_take_9 : decode cX1_take 9 = .ok (.goto 4, 3) := by decide +kernel
theorem dX1_take_12 : decode cX1_take 12 = .ok (.iconst 1, 1) := by decide +kernel
theorem dX1_take_13 : decode cX1_take 13 = .ok (.putfield 44, 3) := by decide +kernel
theorem dX1_take_16 : decode cX1_take 16 = .ok (.aload_n 0, 1) := by decide +kernel
theorem dX1_take_17 : decode cX1_take 17 = .ok (.getfield 44, 3) := by decide +kernel
theorem dX1_take_20 : decode cX1_take 20 = .ok (.ifCond .le 5, 3) := by decide +kernel
theorem dX1_take_23 : decode cX1_take 23 = .ok (.iconst 0, 1) := by decide +kernel
theorem dX1_take_24 : decode cX1_take 24 = .ok (.ireturn, 1) := by decide +kernel
theorem dX1_take_25 : decode cX1_take 25 = .ok (.aload_n 0, 1) := by decide +kernel
theorem dX1_take_26 : decode cX1_take 26 = .ok (.getfield 9, 3) := by decide +kernel
theorem dX1_take_29 : decode cX1_take 29 = .ok (.iload_n 1, 1) := by decide +kernel
theorem dX1_take_30 : decode cX1_take 30 = .ok (.baload, 1) := by decide +kernel
theorem dX1_take_31 : decode cX1_take 31 = .ok (.istore_n 3, 1) := by decide +kernel
theorem dX1_take_32 : decode cX1_take 32 = .ok (.aload_n 0, 1) := by decide +kernel
theorem dX1_take_33 : decode cX1_take 33 = .ok (.getfield 9, 3) := by decide +kernel
theorem dX1_take_36 : decode cX1_take 36 = .ok (.iload_n 1, 1) := by decide +kernel
theorem dX1_take_37 : decode cX1_take 37 = .ok (.iload_n 2, 1) := by decide +kernel
theorem dX1_take_38 : decode cX1_take 38 = .ok (.bastore, 1) := by decide +kernel
theorem dX1_take_39 : decode cX1_take 39 = .ok (.iload_n 3, 1) := by decide +kernel
theorem dX1_take_40 : decode cX1_take 40 = .ok (.ireturn, 1) := by decide +kernel
theorem dX1_lemma_0 : decode cX1_lemma 0 = .ok (.aload_n 0, 1) := by decide +kernel
theorem dX1_lemma_1 : decode cX1_lemma 1 = .ok (.iconst 0, 1) := by decide +kernel
theorem dX1_lemma_2 : decode cX1_lemma 2 = .ok (.putfield 44, 3) := by decide +kernel
theorem dX1_lemma_5 : decode cX1_lemma 5 = .ok (.aload_n 0, 1) := by decide +kernel
theorem dX1_lemma_6 : decode cX1_lemma 6 = .ok (.getfield 52, 3) := by decide +kernel
theorem dX1_lemma_9 : decode cX1_lemma 9 = .ok (.bipush 12, 2) := by decide +kernel
theorem dX1_lemma_11 : decode cX1_lemma 11 = .ok (.if_icmp .ne 9, 3) := by decide +kernel
theorem dX1_lemma_14 : decode cX1_lemma 14 = .ok (.aload_n 0, 1) := by decide +kernel
theorem dX1_lemma_15 : decode cX1_lemma 15 = .ok (.iconst 1, 1) := by decide +kernel
theorem dX1_lemma_16 : decode cX1_lemma 16 = .ok (.invokevirtual 104, 3) := by decide +kernel
theorem dX1_lemma_19 : decode cX1_lemma 19 = .ok (.ireturn, 1) := by decide +kernel
theorem dX1_lemma_20 : decode cX1_lemma 20 = .ok (.aload_n 0, 1) := by decide +kernel
theorem dX1_lemma_21 : decode cX1_lemma 21 = .ok (.dup, 1) := by decide +kernel
theorem dX1_lemma_22 : decode cX1_lemma 22 = .ok (.getfield 52, 3) := by decide +kernel
theorem dX1_lemma_25 : decode cX1_lemma 25 = .ok (.iconst 1, 1) := by decide +kernel
theorem dX1_lemma_26 : decode cX1_lemma 26 = .ok (.iadd, 1) := by decide +kernel
theorem dX1_lemma_27 : decode cX1_lemma 27 = .ok (.putfield 52, 3) := by decide +kernel
theorem dX1_lemma_30 : decode cX1_lemma 30 = .ok (.aload_n 0, 1) := by decide +kernel
theorem dX1_lemma_31 : decode cX1_lemma 31 = .ok (.getfield 52, 3) := by decide +kernel
theorem dX1_lemma_34 : decode cX1_lemma 34 = .ok (.iconst 1, 1) := by decide +kernel
theorem dX1_lemma_35 : decode cX1_lemma 35 = .ok (.isub, 1) := by decide +kernel
theorem dX1_lemma_36 : decode cX1_lemma 36 = .ok (.ireturn, 1) := by decide +kernel
theorem dX1_proof_0 : decode cX1_proof 0 = .ok (.aload_n 0, 1) := by decide +kernel
theorem dX1_proof_1 : decode cX1_proof 1 = .ok (.iconst 0, 1) := by decide +kernel
theorem dX1_proof_2 : decode cX1_proof 2 = .ok (.putfield 44, 3) := by decide +kernel
theorem dX1_proof_5 : decode cX1_proof 5 = .ok (.aload_n 0, 1) := by decide +kernel
theorem dX1_proof_6 : decode cX1_proof 6 = .ok (.iload_n 1, 1) := by decide +kernel
theorem dX1_proof_7 : decode cX1_proof 7 = .ok (.invokevirtual 55, 3) := by decide +kernel
theorem dX1_proof_10 : decode cX1_proof 10 = .ok (.ifCond .ne 9, 3) := by decide +kernel
theorem dX1_proof_13 : decode cX1_proof 13 = .ok (.aload_n 0, 1) := by decide +kernel
theorem dX1_proof_14 : decode cX1_proof 14 = .ok (.iconst 1, 1) := by decide +kernel
theorem dX1_proof_15 : decode cX1_proof 15 = .ok (.invokevirtual 104, 3) := by decide +kernel
theorem dX1_proof_18 : decode cX1_proof 18 = .ok (.ireturn, 1) := by decide +kernel
theorem dX1_proof_19 : decode cX1_proof 19 = .ok (.aload_n 0, 1) := by decide +kernel
theorem dX1_proof_20 : decode cX1_proof 20 = .ok (.getfield 13, 3) := by decide +kernel
theorem dX1_proof_23 : decode cX1_proof 23 = .ok (.iload_n 1, 1) := by decide +kernel
theorem dX1_proof_24 : decode cX1_proof 24 = .ok (.iaload, 1) := by decide +kernel
theorem dX1_proof_25 : decode cX1_proof 25 = .ok (.iconst 3, 1) := by decide +kernel
theorem dX1_proof_26 : decode cX1_proof 26 = .ok (.if_icmp .ne 9, 3) := by decide +kernel
theorem dX1_proof_29 : decode cX1_proof 29 = .ok (.aload_n 0, 1) := by decide +kernel
theorem dX1_proof_30 : decode cX1_proof 30 = .ok (.iconst 2, 1) := by decide +kernel
theorem dX1_proof_31 : decode cX1_proof 31 = .ok (.invokevirtual 104, 3) := by decide +kernel
theorem dX1_proof_34 : decode cX1_proof 34 = .ok (.ireturn, 1) := by decide +kernel
theorem dX1_proof_35 : decode cX1_proof 35 = .ok (.aload_n 0, 1) := by decide +kernel
theorem dX1_proof_36 : decode cX1_proof 36 = .ok (.getfield 17, 3) := by decide +kernel
theorem dX1_proof_39 : decode cX1_proof 39 = .ok (.iconst 3, 1) := by decide +kernel
theorem dX1_proof_40 : decode cX1_proof 40 = .ok (.iload_n 1, 1) := by decide +kernel
theorem dX1_proof_41 : decode cX1_proof 41 = .ok (.imul, 1) := by decide +kernel
theorem dX1_proof_42 : decode cX1_proof 42 = .ok (.aload_n 0, 1) := by decide +kernel
theorem dX1_proof_43 : decode cX1_proof 43 = .ok (.getfield 13, 3) := by decide +kernel
theorem dX1_proof_46 : decode cX1_proof 46 = .ok (.iload_n 1, 1) := by decide +kernel
theorem dX1_proof_47 : decode cX1_proof 47 = .ok (.iaload, 1) := by decide +kernel
theorem dX1_proof_48 : decode cX1_proof 48 = .ok (.iadd, 1) := by decide +kernel
theorem dX1_proof_49 : decode cX1_proof 49 = .ok (.iconst 0, 1) := by decide +kernel
theorem dX1_proof_50 : decode cX1_proof 50 = .ok (.iastore, 1) := by decide +kernel
theorem dX1_proof_51 : decode cX1_proof 51 = .ok (.aload_n 0, 1) := by decide +kernel
theorem dX1_proof_52 : decode cX1_proof 52 = .ok (.getfield 13, 3) := by decide +kernel
theorem dX1_proof_55 : decode cX1_proof 55 = .ok (.iload_n 1, 1) := by decide +kernel
theorem dX1_proof_56 : decode cX1_proof 56 = .ok (.dup2, 1) := by decide +kernel
theorem dX1_proof_57 : decode cX1_proof 57 = .ok (.iaload, 1) := by decide +kernel
theorem dX1_proof_58 : decode cX1_proof 58 = .ok (.iconst 1, 1) := by decide +kernel
theorem dX1_proof_59 : decode cX1_proof 59 = .ok (.iadd, 1) := by decide +kernel
theorem dX1_proof_60 : decode cX1_proof 60 = .ok (.iastore, 1) := by decide +kernel
theorem dX1_proof_61 : decode cX1_proof 61 = .ok (.aload_n 0, 1) := by decide +kernel
theorem dX1_proof_62 : decode cX1_proof 62 = .ok (.getfield 13, 3) := by decide +kernel
theorem dX1_proof_65 : decode cX1_proof 65 = .ok (.iload_n 1, 1) := by decide +kernel
theorem dX1_proof_66 : decode cX1_proof 66 = .ok (.iaload, 1) := by decide +kernel
theorem dX1_proof_67 : decode cX1_proof 67 = .ok (.iconst 1, 1) := by decide +kernel
theorem dX1_proof_68 : decode cX1_proof 68 = .ok (.isub, 1) := by decide +kernel
theorem dX1_proof_69 : decode cX1_proof 69 = .ok (.ireturn, 1) := by decide +kernel
theorem dX1_cite_0 : decode cX1_cite 0 = .ok (.aload_n 0, 1) := by decide +kernel
theorem dX1_cite_1 : decode cX1_cite 1 = .ok (.iconst 0, 1) := by decide +kernel
theorem dX1_cite_2 : decode cX1_cite 2 = .ok (.putfield 44, 3) := by decide +kernel
theorem dX1_cite_5 : decode cX1_cite 5 = .ok (.aload_n 0, 1) := by decide +kernel
theorem dX1_cite_6 : decode cX1_cite 6 = .ok (.iload_n 1, 1) := by decide +kernel
theorem dX1_cite_7 : decode cX1_cite 7 = .ok (.iload_n 2, 1) := by decide +kernel
theorem dX1_cite_8 : decode cX1_cite 8 = .ok (.invokevirtual 59, 3) := by decide +kernel
theorem dX1_cite_11 : decode cX1_cite 11 = .ok (.ifCond .eq 38, 3) := by decide +kernel
theorem dX1_cite_14 : decode cX1_cite 14 = .ok (.iload_n 3, 1) := by decide +kernel
theorem dX1_cite_15 : decode cX1_cite 15 = .ok (.iconst 0, 1) := by decide +kernel
theorem dX1_cite_16 : decode cX1_cite 16 = .ok (.iconst 2, 1) := by decide +kernel
theorem dX1_cite_17 : decode cX1_cite 17 = .ok (.invokestatic 48, 3) := by decide +kernel
theorem dX1_cite_20 : decode cX1_cite 20 = .ok (.ifCond .eq 29, 3) := by decide +kernel
theorem dX1_cite_23 : decode cX1_cite 23 = .ok (.iload_n 3, 1) := by decide +kernel
theorem dX1_cite_24 : decode cX1_cite 24 = .ok (.ifCond .ne 11, 3) := by decide +kernel
theorem dX1_cite_27 : decode cX1_cite 27 = .ok (.iload 4, 2) := by decide +kernel
theorem dX1_cite_29 : decode cX1_cite 29 = .ok (.invokestatic 101, 3) := by decide +kernel
theorem dX1_cite_32 : decode cX1_cite 32 = .ok (.ifCond .eq 17, 3) := by decide +kernel
theorem dX1_cite_35 : decode cX1_cite 35 = .ok (.iload_n 3, 1) := by decide +kernel
theorem dX1_cite_36 : decode cX1_cite 36 = .ok (.iconst 1, 1) := by decide +kernel
theorem dX1_cite_37 : decode cX1_cite 37 = .ok (.if_icmp .ne 18, 3) := by decide +kernel
theorem dX1_cite_40 : decode cX1_cite 40 = .ok (.aload_n 0, 1) := by decide +kernel
theorem dX1_cite_41 : decode cX1_cite 41 = .ok (.iload 4, 2) := by decide +kernel
theorem dX1_cite_43 : decode cX1_cite 43 = .ok (.invokevirtual 55, 3) := by decide +kernel
theorem dX1_cite_46 : decode cX1_cite 46 = .ok (.ifCond .ne 9, 3) := by decide +kernel
theorem dX1_cite_49 : decode cX1_cite 49 = .ok (.aload_n 0, 1) := by decide +kernel
theorem dX1_cite_50 : decode cX1_cite 50 = .ok (.iconst 1, 1) := by decide +kernel
theorem dX1_cite_51 : decode cX1_cite 51 = .ok (.invokevirtual 104, 3) := by decide +kernel
theorem dX1_cite_54 : decode cX1_cite 54 = .ok (.ireturn, 1) := by decide +kernel
theorem dX1_cite_55 : decode cX1_cite 55 = .ok (.iload_n 3, 1) := by decide +kernel
theorem dX1_cite_56 : decode cX1_cite 56 = .ok (.iconst 2, 1) := by decide +kernel
theorem dX1_cite_57 : decode cX1_cite 57 = .ok (.if_icmp .ne 20, 3) := by decide +kernel
theorem dX1_cite_60 : decode cX1_cite 60 = .ok (.iload 4, 2) := by decide +kernel
theorem dX1_cite_62 : decode cX1_cite 62 = .ok (.iconst 1, 1) := by decide +kernel
theorem dX1_cite_63 : decode cX1_cite 63 = .ok (.bipush 9, 2) := by decide +kernel
theorem dX1_cite_65 : decode cX1_cite 65 = .ok (.invokestatic 48, 3) := by decide +kernel
theorem dX1_cite_68 : decode cX1_cite 68 = .ok (.ifCond .ne 9, 3) := by decide +kernel
theorem dX1_cite_71 : decode cX1_cite 71 = .ok (.aload_n 0, 1) := by decide +kernel
theorem dX1_cite_72 : decode cX1_cite 72 = .ok (.iconst 2, 1) := by decide +kernel
theorem dX1_cite_73 : decode cX1_cite 73 = .ok (.invokevirtual 104, 3) := by decide +kernel
theorem dX1_cite_76 : decode cX1_cite 76 = .ok (.ireturn, 1) := by decide +kernel
theorem dX1_cite_77 : decode cX1_cite 77 = .ok (.iconst 3, 1) := by decide +kernel
theorem dX1_cite_78 : decode cX1_cite 78 = .ok (.iload_n 1, 1) := by decide +kernel
theorem dX1_cite_79 : decode cX1_cite 79 = .ok (.imul, 1) := by decide +kernel
theorem dX1_cite_80 : decode cX1_cite 80 = .ok (.iload_n 2, 1) := by decide +kernel
theorem dX1_cite_81 : decode cX1_cite 81 = .ok (.iadd, 1) := by decide +kernel
theorem dX1_cite_82 : decode cX1_cite 82 = .ok (.istore 5, 2) := by decide +kernel
theorem dX1_cite_84 : decode cX1_cite 84 = .ok (.aload_n 0, 1) := by decide +kernel
theorem dX1_cite_85 : decode cX1_cite 85 = .ok (.getfield 17, 3) := by decide +kernel
theorem dX1_cite_88 : decode cX1_cite 88 = .ok (.iload 5, 2) := by decide +kernel
theorem dX1_cite_90 : decode cX1_cite 90 = .ok (.iaload, 1) := by decide +kernel
theorem dX1_cite_91 : decode cX1_cite 91 = .ok (.iconst 5, 1) := by decide +kernel
theorem dX1_cite_92 : decode cX1_cite 92 = .ok (.if_icmp .ne 9, 3) := by decide +kernel
theorem dX1_cite_95 : decode cX1_cite 95 = .ok (.aload_n 0, 1) := by decide +kernel
theorem dX1_cite_96 : decode cX1_cite 96 = .ok (.iconst 3, 1) := by decide +kernel
theorem dX1_cite_97 : decode cX1_cite 97 = .ok (.invokevirtual 104, 3) := by decide +kernel
theorem dX1_cite_100 : decode cX1_cite 100 = .ok (.ireturn, 1) := by decide +kernel
theorem dX1_cite_101 : decode cX1_cite 101 = .ok (.iload_n 1, 1) := by decide +kernel
theorem dX1_cite_102 : decode cX1_cite 102 = .ok (.iload_n 2, 1) := by decide +kernel
theorem dX1_cite_103 : decode cX1_cite 103 = .ok (.aload_n 0, 1) := by decide +kernel
theorem dX1_cite_104 : decode cX1_cite 104 = .ok (.getfield 17, 3) := by decide +kernel
theorem dX1_cite_107 : decode cX1_cite 107 = .ok (.iload 5, 2) := by decide +kernel
theorem dX1_cite_109 : decode cX1_cite 109 = .ok (.iaload, 1) := by decide +kernel
theorem dX1_cite_110 : decode cX1_cite 110 = .ok (.invokestatic 63, 3) := by decide +kernel
theorem dX1_cite_113 : decode cX1_cite 113 = .ok (.istore 6, 2) := by decide +kernel
theorem dX1_cite_115 : decode cX1_cite 115 = .ok (.aload_n 0, 1) := by decide +kernel
theorem dX1_cite_116 : decode cX1_cite 116 = .ok (.getfield 20, 3) := by decide +kernel
theorem dX1_cite_119 : decode cX1_cite 119 = .ok (.iload 6, 2) := by decide +kernel
theorem dX1_cite_121 : decode cX1_cite 121 = .ok (.iload_n 3, 1) := by decide +kernel
theorem dX1_cite_122 : decode cX1_cite 122 = .ok (.iastore, 1) := by decide +kernel
theorem dX1_cite_123 : decode cX1_cite 123 = .ok (.aload_n 0, 1) := by decide +kernel
theorem dX1_cite_124 : decode cX1_cite 124 = .ok (.getfield 23, 3) := by decide +kernel
theorem dX1_cite_127 : decode cX1_cite 127 = .ok (.iload 6, 2) := by decide +kernel
theorem dX1_cite_129 : decode cX1_cite 129 = .ok (.iload 4, 2) := by decide +kernel
theorem dX1_cite_131 : decode cX1_cite 131 = .ok (.iastore, 1) := by decide +kernel
theorem dX1_cite_132 : decode cX1_cite 132 = .ok (.aload_n 0, 1) := by decide +kernel
theorem dX1_cite_133 : decode cX1_cite 133 = .ok (.getfield 26, 3) := by decide +kernel
theorem dX1_cite_136 : decode cX1_cite 136 = .ok (.iload 6, 2) := by decide +kernel
theorem dX1_cite_138 : decode cX1_cite 138 = .ok (.iload_n 3, 1) := by decide +kernel
theorem dX1_cite_139 : decode cX1_cite 139 = .ok (.iconst 2, 1) := by decide +kernel
theorem dX1_cite_140 : decode cX1_cite 140 = .ok (.if_icmp .ne 8, 3) := by decide +kernel
theorem dX1_cite_143 : decode cX1_cite 143 = .ok (.iload 4, 2) := by decide +kernel
theorem dX1_cite_145 : decode cX1_cite 145 = .ok (.goto 4, 3) := by decide +kernel
theorem dX1_cite_148 : decode cX1_cite 148 = .ok (.iconst 0, 1) := by decide +kernel
theorem dX1_cite_149 : decode cX1_cite 149 = .ok (.iastore, 1) := by decide +kernel
theorem dX1_cite_150 : decode cX1_cite 150 = .ok (.aload_n 0, 1) := by decide +kernel
theorem dX1_cite_151 : decode cX1_cite 151 = .ok (.getfield 29, 3) := by decide +kernel
theorem dX1_cite_154 : decode cX1_cite 154 = .ok (.iload 6, 2) := by decide +kernel
theorem dX1_cite_156 : decode cX1_cite 156 = .ok (.iconst 0, 1) := by decide +kernel
theorem dX1_cite_157 : decode cX1_cite 157 = .ok (.bastore, 1) := by decide +kernel
theorem dX1_cite_158 : decode cX1_cite 158 = .ok (.aload_n 0, 1) := by decide +kernel
theorem dX1_cite_159 : decode cX1_cite 159 = .ok (.getfield 17, 3) := by decide +kernel
theorem dX1_cite_162 : decode cX1_cite 162 = .ok (.iload 5, 2) := by decide +kernel
theorem dX1_cite_164 : decode cX1_cite 164 = .ok (.dup2, 1) := by decide +kernel
theorem dX1_cite_165 : decode cX1_cite 165 = .ok (.iaload, 1) := by decide +kernel
theorem dX1_cite_166 : decode cX1_cite 166 = .ok (.iconst 1, 1) := by decide +kernel
theorem dX1_cite_167 : decode cX1_cite 167 = .ok (.iadd, 1) := by decide +kernel
theorem dX1_cite_168 : decode cX1_cite 168 = .ok (.iastore, 1) := by decide +kernel
theorem dX1_cite_169 : decode cX1_cite 169 = .ok (.aload_n 0, 1) := by decide +kernel
theorem dX1_cite_170 : decode cX1_cite 170 = .ok (.getfield 17, 3) := by decide +kernel
theorem dX1_cite_173 : decode cX1_cite 173 = .ok (.iload 5, 2) := by decide +kernel
theorem dX1_cite_175 : decode cX1_cite 175 = .ok (.iaload, 1) := by decide +kernel
theorem dX1_cite_176 : decode cX1_cite 176 = .ok (.ireturn, 1) := by decide +kernel
theorem dX1_patch_0 : decode cX1_patch 0 = .ok (.aload_n 0, 1) := by decide +kernel
theorem dX1_patch_1 : decode cX1_patch 1 = .ok (.iconst 0, 1) := by decide +kernel
theorem dX1_patch_2 : decode cX1_patch 2 = .ok (.putfield 44, 3) := by decide +kernel
theorem dX1_patch_5 : decode cX1_patch 5 = .ok (.aload_n 0, 1) := by decide +kernel
theorem dX1_patch_6 : decode cX1_patch 6 = .ok (.iload_n 1, 1) := by decide +kernel
theorem dX1_patch_7 : decode cX1_patch 7 = .ok (.iload_n 2, 1) := by decide +kernel
theorem dX1_patch_8 : decode cX1_patch 8 = .ok (.iload_n 3, 1) := by decide +kernel
theorem dX1_patch_9 : decode cX1_patch 9 = .ok (.invokevirtual 108, 3) := by decide +kernel
theorem dX1_patch_12 : decode cX1_patch 12 = .ok (.ifCond .ne 9, 3) := by decide +kernel
theorem dX1_patch_15 : decode cX1_patch 15 = .ok (.aload_n 0, 1) := by decide +kernel
theorem dX1_patch_16 : decode cX1_patch 16 = .ok (.iconst 1, 1) := by decide +kernel
theorem dX1_patch_17 : decode cX1_patch 17 = .ok (.invokevirtual 104, 3) := by decide +kernel
theorem dX1_patch_20 : decode cX1_patch 20 = .ok (.ireturn, 1) := by decide +kernel
theorem dX1_patch_21 : decode cX1_patch 21 = .ok (.iload 4, 2) := by decide +kernel
theorem dX1_patch_23 : decode cX1_patch 23 = .ok (.iconst 1, 1) := by decide +kernel
theorem dX1_patch_24 : decode cX1_patch 24 = .ok (.bipush 9, 2) := by decide +kernel
theorem dX1_patch_26 : decode cX1_patch 26 = .ok (.invokestatic 48, 3) := by decide +kernel
theorem dX1_patch_29 : decode cX1_patch 29 = .ok (.ifCond .ne 9, 3) := by decide +kernel
theorem dX1_patch_32 : decode cX1_patch 32 = .ok (.aload_n 0, 1) := by decide +kernel
theorem dX1_patch_33 : decode cX1_patch 33 = .ok (.iconst 2, 1) := by decide +kernel
theorem dX1_patch_34 : decode cX1_patch 34 = .ok (.invokevirtual 104, 3) := by decide +kernel
theorem dX1_patch_37 : decode cX1_patch 37 = .ok (.ireturn, 1) := by decide +kernel
theorem dX1_patch_38 : decode cX1_patch 38 = .ok (.iload_n 1, 1) := by decide +kernel
theorem dX1_patch_39 : decode cX1_patch 39 = .ok (.iload_n 2, 1) := by decide +kernel
theorem dX1_patch_40 : decode cX1_patch 40 = .ok (.iload_n 3, 1) := by decide +kernel
theorem dX1_patch_41 : decode cX1_patch 41 = .ok (.invokestatic 63, 3) := by decide +kernel
theorem dX1_patch_44 : decode cX1_patch 44 = .ok (.istore 5, 2) := by decide +kernel
theorem dX1_patch_46 : decode cX1_patch 46 = .ok (.aload_n 0, 1) := by decide +kernel
theorem dX1_patch_47 : decode cX1_patch 47 = .ok (.getfield 26, 3) := by decide +kernel
theorem dX1_patch_50 : decode cX1_patch 50 = .ok (.iload 5, 2) := by decide +kernel
theorem dX1_patch_52 : decode cX1_patch 52 = .ok (.iaload, 1) := by decide +kernel
theorem dX1_patch_53 : decode cX1_patch 53 = .ok (.ifCond .ne 9, 3) := by decide +kernel
theorem dX1_patch_56 : decode cX1_patch 56 = .ok (.aload_n 0, 1) := by decide +kernel
theorem dX1_patch_57 : decode cX1_patch 57 = .ok (.iconst 3, 1) := by decide +kernel
theorem dX1_patch_58 : decode cX1_patch 58 = .ok (.invokevirtual 104, 3) := by decide +kernel
theorem dX1_patch_61 : decode cX1_patch 61 = .ok (.ireturn, 1) := by decide +kernel
theorem dX1_patch_62 : decode cX1_patch 62 = .ok (.aload_n 0, 1) := by decide +kernel
theorem dX1_patch_63 : decode cX1_patch 63 = .ok (.getfield 26, 3) := by decide +kernel
theorem dX1_patch_66 : decode cX1_patch 66 = .ok (.iload 5, 2) := by decide +kernel
theorem dX1_patch_68 : decode cX1_patch 68 = .ok (.iconst 0, 1) := by decide +kernel
theorem dX1_patch_69 : decode cX1_patch 69 = .ok (.aload_n 0, 1) := by decide +kernel
theorem dX1_patch_70 : decode cX1_patch 70 = .ok (.getfield 26, 3) := by decide +kernel
theorem dX1_patch_73 : decode cX1_patch 73 = .ok (.iload 5, 2) := by decide +kernel
theorem dX1_patch_75 : decode cX1_patch 75 = .ok (.iaload, 1) := by decide +kernel
theorem dX1_patch_76 : decode cX1_patch 76 = .ok (.iload 4, 2) := by decide +kernel
theorem dX1_patch_78 : decode cX1_patch 78 = .ok (.isub, 1) := by decide +kernel
theorem dX1_patch_79 : decode cX1_patch 79 = .ok (.invokestatic 111, 3) := by decide +kernel
theorem dX1_patch_82 : decode cX1_patch 82 = .ok (.iastore, 1) := by decide +kernel
theorem dX1_patch_83 : decode cX1_patch 83 = .ok (.aload_n 0, 1) := by decide +kernel
theorem dX1_patch_84 : decode cX1_patch 84 = .ok (.getfield 26, 3) := by decide +kernel
theorem dX1_patch_87 : decode cX1_patch 87 = .ok (.iload 5, 2) := by decide +kernel
theorem dX1_patch_89 : decode cX1_patch 89 = .ok (.iaload, 1) := by decide +kernel
theorem dX1_patch_90 : decode cX1_patch 90 = .ok (.ireturn, 1) := by decide +kernel
theorem dX1_withdraw_0 : decode cX1_withdraw 0 = .ok (.aload_n 0, 1) := by decide +kernel
theorem dX1_withdraw_1 : decode cX1_withdraw 1 = .ok (.aload_n 0, 1) := by decide +kernel
theorem dX1_withdraw_2 : decode cX1_withdraw 2 = .ok (.iload_n 1, 1) := by decide +kernel
theorem dX1_withdraw_3 : decode cX1_withdraw 3 = .ok (.iload_n 2, 1) := by decide +kernel
theorem dX1_withdraw_4 : decode cX1_withdraw 4 = .ok (.iload_n 3, 1) := by decide +kernel
theorem dX1_withdraw_5 : decode cX1_withdraw 5 = .ok (.invokevirtual 108, 3) := by decide +kernel
theorem dX1_withdraw_8 : decode cX1_withdraw 8 = .ok (.ifCond .eq 7, 3) := by decide +kernel
theorem dX1_withdraw_11 : decode cX1_withdraw 11 = .ok (.iconst 0, 1) := by decide +kernel
theorem dX1_withdraw_12 : decode cX1_withdraw 12 = .ok (.goto 4, 3) := by decide +kernel
theorem dX1_withdraw_15 : decode cX1_withdraw 15 = .ok (.iconst 1, 1) := by decide +kernel
theorem dX1_withdraw_16 : decode cX1_withdraw 16 = .ok (.putfield 44, 3) := by decide +kernel
theorem dX1_withdraw_19 : decode cX1_withdraw 19 = .ok (.aload_n 0, 1) := by decide +kernel
theorem dX1_withdraw_20 : decode cX1_withdraw 20 = .ok (.getfield 44, 3) := by decide +kernel
theorem dX1_withdraw_23 : decode cX1_withdraw 23 = .ok (.ifCond .le 5, 3) := by decide +kernel
theorem dX1_withdraw_26 : decode cX1_withdraw 26 = .ok (.iconst 0, 1) := by decide +kernel
theorem dX1_withdraw_27 : decode cX1_withdraw 27 = .ok (.ireturn, 1) := by decide +kernel
theorem dX1_withdraw_28 : decode cX1_withdraw 28 = .ok (.iload_n 1, 1) := by decide +kernel
theorem dX1_withdraw_29 : decode cX1_withdraw 29 = .ok (.iload_n 2, 1) := by decide +kernel
theorem dX1_withdraw_30 : decode cX1_withdraw 30 = .ok (.iload_n 3, 1) := by decide +kernel
theorem dX1_withdraw_31 : decode cX1_withdraw 31 = .ok (.invokestatic 63, 3) := by decide +kernel
theorem dX1_withdraw_34 : decode cX1_withdraw 34 = .ok (.istore 4, 2) := by decide +kernel
theorem dX1_withdraw_36 : decode cX1_withdraw 36 = .ok (.aload_n 0, 1) := by decide +kernel
theorem dX1_withdraw_37 : decode cX1_withdraw 37 = .ok (.getfield 29, 3) := by decide +kernel
theorem dX1_withdraw_40 : decode cX1_withdraw 40 = .ok (.iload 4, 2) := by decide +kernel
theorem dX1_withdraw_42 : decode cX1_withdraw 42 = .ok (.aload_n 0, 1) := by decide +kernel
theorem dX1_withdraw_43 : decode cX1_withdraw 43 = .ok (.getfield 29, 3) := by decide +kernel
theorem dX1_withdraw_46 : decode cX1_withdraw 46 = .ok (.iload 4, 2) := by decide +kernel
theorem dX1_withdraw_48 : decode cX1_withdraw 48 = .ok (.baload, 1) := by decide +kernel
theorem dX1_withdraw_49 : decode cX1_withdraw 49 = .ok (.ifCond .ne 7, 3) := by decide +kernel
theorem dX1_withdraw_52 : decode cX1_withdraw 52 = .ok (.iconst 1, 1) := by decide +kernel
theorem dX1_withdraw_53 : decode cX1_withdraw 53 = .ok (.goto 4, 3) := by decide +kernel
theorem dX1_withdraw_56 : decode cX1_withdraw 56 = .ok (.iconst 0, 1) := by decide +kernel
theorem dX1_withdraw_57 : decode cX1_withdraw 57 = .ok (.bastore, 1) := by decide +kernel
theorem dX1_withdraw_58 : decode cX1_withdraw 58 = .ok (.aload_n 0, 1) := by decide +kernel
theorem dX1_withdraw_59 : decode cX1_withdraw 59 = .ok (.getfield 29, 3) := by decide +kernel
theorem dX1_withdraw_62 : decode cX1_withdraw 62 = .ok (.iload 4, 2) := by decide +kernel
theorem dX1_withdraw_64 : decode cX1_withdraw 64 = .ok (.baload, 1) := by decide +kernel
theorem dX1_withdraw_65 : decode cX1_withdraw 65 = .ok (.ireturn, 1) := by decide +kernel
theorem dX1_layOver_0 : decode cX1_layOver 0 = .ok (.aload_n 0, 1) := by decide +kernel
theorem dX1_layOver_1 : decode cX1_layOver 1 = .ok (.getfield 17, 3) := by decide +kernel
theorem dX1_layOver_4 : decode cX1_layOver 4 = .ok (.iload_n 2, 1) := by decide +kernel
theorem dX1_layOver_5 : decode cX1_layOver 5 = .ok (.aload_n 0, 1) := by decide +kernel
theorem dX1_layOver_6 : decode cX1_layOver 6 = .ok (.getfield 17, 3) := by decide +kernel
theorem dX1_layOver_9 : decode cX1_layOver 9 = .ok (.iload_n 1, 1) := by decide +kernel
theorem dX1_layOver_10 : decode cX1_layOver 10 = .ok (.iaload, 1) := by decide +kernel
theorem dX1_layOver_11 : decode cX1_layOver 11 = .ok (.iastore, 1) := by decide +kernel
theorem dX1_layOver_12 : decode cX1_layOver 12 = .ok (.aload_n 0, 1) := by decide +kernel
theorem dX1_layOver_13 : decode cX1_layOver 13 = .ok (.getfield 20, 3) := by decide +kernel
theorem dX1_layOver_16 : decode cX1_layOver 16 = .ok (.iconst 5, 1) := by decide +kernel
theorem dX1_layOver_17 : decode cX1_layOver 17 = .ok (.iload_n 1, 1) := by decide +kernel
theorem dX1_layOver_18 : decode cX1_layOver 18 = .ok (.imul, 1) := by decide +kernel
theorem dX1_layOver_19 : decode cX1_layOver 19 = .ok (.aload_n 0, 1) := by decide +kernel
theorem dX1_layOver_20 : decode cX1_layOver 20 = .ok (.getfield 20, 3) := by decide +kernel
theorem dX1_layOver_23 : decode cX1_layOver 23 = .ok (.iconst 5, 1) := by decide +kernel
theorem dX1_layOver_24 : decode cX1_layOver 24 = .ok (.iload_n 2, 1) := by decide +kernel
theorem dX1_layOver_25 : decode cX1_layOver 25 = .ok (.imul, 1) := by decide +kernel
theorem dX1_layOver_26 : decode cX1_layOver 26 = .ok (.iconst 5, 1) := by decide +kernel
theorem dX1_layOver_27 : decode cX1_layOver 27 = .ok (.invokestatic 114, 3) := by decide +kernel
theorem dX1_layOver_30 : decode cX1_layOver 30 = .ok (.aload_n 0, 1) := by decide +kernel
theorem dX1_layOver_31 : decode cX1_layOver 31 = .ok (.getfield 23, 3) := by decide +kernel
theorem dX1_layOver_34 : decode cX1_layOver 34 = .ok (.iconst 5, 1) := by decide +kernel
theorem dX1_layOver_35 : decode cX1_layOver 35 = .ok (.iload_n 1, 1) := by decide +kernel
theorem dX1_layOver_36 : decode cX1_layOver 36 = .ok (.imul, 1) := by decide +kernel
theorem dX1_layOver_37 : decode cX1_layOver 37 = .ok (.aload_n 0, 1) := by decide +kernel
theorem dX1_layOver_38 : decode cX1_layOver 38 = .ok (.getfield 23, 3) := by decide +kernel
theorem dX1_layOver_41 : decode cX1_layOver 41 = .ok (.iconst 5, 1) := by decide +kernel
theorem dX1_layOver_42 : decode cX1_layOver 42 = .ok (.iload_n 2, 1) := by decide +kernel
theorem dX1_layOver_43 : decode cX1_layOver 43 = .ok (.imul, 1) := by decide +kernel
theorem dX1_layOver_44 : decode cX1_layOver 44 = .ok (.iconst 5, 1) := by decide +kernel
theorem dX1_layOver_45 : decode cX1_layOver 45 = .ok (.invokestatic 114, 3) := by decide +kernel
theorem dX1_layOver_48 : decode cX1_layOver 48 = .ok (.aload_n 0, 1) := by decide +kernel
theorem dX1_layOver_49 : decode cX1_layOver 49 = .ok (.getfield 26, 3) := by decide +kernel
theorem dX1_layOver_52 : decode cX1_layOver 52 = .ok (.iconst 5, 1) := by decide +kernel
theorem dX1_layOver_53 : decode cX1_layOver 53 = .ok (.iload_n 1, 1) := by decide +kernel
theorem dX1_layOver_54 : decode cX1_layOver 54 = .ok (.imul, 1) := by decide +kernel
theorem dX1_layOver_55 : decode cX1_layOver 55 = .ok (.aload_n 0, 1) := by decide +kernel
theorem dX1_layOver_56 : decode cX1_layOver 56 = .ok (.getfield 26, 3) := by decide +kernel
theorem dX1_layOver_59 : decode cX1_layOver 59 = .ok (.iconst 5, 1) := by decide +kernel
theorem dX1_layOver_60 : decode cX1_layOver 60 = .ok (.iload_n 2, 1) := by decide +kernel
theorem dX1_layOver_61 : decode cX1_layOver 61 = .ok (.imul, 1) := by decide +kernel
theorem dX1_layOver_62 : decode cX1_layOver 62 = .ok (.iconst 5, 1) := by decide +kernel
theorem dX1_layOver_63 : decode cX1_layOver 63 = .ok (.invokestatic 114, 3) := by decide +kernel
theorem dX1_layOver_66 : decode cX1_layOver 66 = .ok (.aload_n 0, 1) := by decide +kernel
theorem dX1_layOver_67 : decode cX1_layOver 67 = .ok (.getfield 29, 3) := by decide +kernel
theorem dX1_layOver_70 : decode cX1_layOver 70 = .ok (.iconst 5, 1) := by decide +kernel
theorem dX1_layOver_71 : decode cX1_layOver 71 = .ok (.iload_n 1, 1) := by decide +kernel
theorem dX1_layOver_72 : decode cX1_layOver 72 = .ok (.imul, 1) := by decide +kernel
theorem dX1_layOver_73 : decode cX1_layOver 73 = .ok (.aload_n 0, 1) := by decide +kernel
theorem dX1_layOver_74 : decode cX1_layOver 74 = .ok (.getfield 29, 3) := by decide +kernel
theorem dX1_layOver_77 : decode cX1_layOver 77 = .ok (.iconst 5, 1) := by decide +kernel
theorem dX1_layOver_78 : decode cX1_layOver 78 = .ok (.iload_n 2, 1) := by decide +kernel
theorem dX1_layOver_79 : decode cX1_layOver 79 = .ok (.imul, 1) := by decide +kernel
theorem dX1_layOver_80 : decode cX1_layOver 80 = .ok (.iconst 5, 1) := by decide +kernel
theorem dX1_layOver_81 : decode cX1_layOver 81 = .ok (.invokestatic 114, 3) := by decide +kernel
theorem dX1_layOver_84 : decode cX1_layOver 84 = .ok (.return_, 1) := by decide +kernel
theorem dX1_strike_0 : decode cX1_strike 0 = .ok (.aload_n 0, 1) := by decide +kernel
theorem dX1_strike_1 : decode cX1_strike 1 = .ok (.iconst 0, 1) := by decide +kernel
theorem dX1_strike_2 : decode cX1_strike 2 = .ok (.putfield 44, 3) := by decide +kernel
theorem dX1_strike_5 : decode cX1_strike 5 = .ok (.aload_n 0, 1) := by decide +kernel
theorem dX1_strike_6 : decode cX1_strike 6 = .ok (.iload_n 1, 1) := by decide +kernel
theorem dX1_strike_7 : decode cX1_strike 7 = .ok (.iload_n 2, 1) := by decide +kernel
theorem dX1_strike_8 : decode cX1_strike 8 = .ok (.invokevirtual 59, 3) := by decide +kernel
theorem dX1_strike_11 : decode cX1_strike 11 = .ok (.ifCond .ne 9, 3) := by decide +kernel
theorem dX1_strike_14 : decode cX1_strike 14 = .ok (.aload_n 0, 1) := by decide +kernel
theorem dX1_strike_15 : decode cX1_strike 15 = .ok (.iconst 1, 1) := by decide +kernel
theorem dX1_strike_16 : decode cX1_strike 16 = .ok (.invokevirtual 104, 3) := by decide +kernel
theorem dX1_strike_19 : decode cX1_strike 19 = .ok (.ireturn, 1) := by decide +kernel
theorem dX1_strike_20 : decode cX1_strike 20 = .ok (.iload_n 2, 1) := by decide +kernel
theorem dX1_strike_21 : decode cX1_strike 21 = .ok (.istore_n 3, 1) := by decide +kernel
theorem dX1_strike_22 : decode cX1_strike 22 = .ok (.iload_n 3, 1) := by decide +kernel
theorem dX1_strike_23 : decode cX1_strike 23 = .ok (.iconst 1, 1) := by decide +kernel
theorem dX1_strike_24 : decode cX1_strike 24 = .ok (.iadd, 1) := by decide +kernel
theorem dX1_strike_25 : decode cX1_strike 25 = .ok (.aload_n 0, 1) := by decide +kernel
theorem dX1_strike_26 : decode cX1_strike 26 = .ok (.getfield 13, 3) := by decide +kernel
theorem dX1_strike_29 : decode cX1_strike 29 = .ok (.iload_n 1, 1) := by decide +kernel
theorem dX1_strike_30 : decode cX1_strike 30 = .ok (.iaload, 1) := by decide +kernel
theorem dX1_strike_31 : decode cX1_strike 31 = .ok (.if_icmp .ge 25, 3) := by decide +kernel
theorem dX1_strike_34 : decode cX1_strike 34 = .ok (.aload_n 0, 1) := by decide +kernel
theorem dX1_strike_35 : decode cX1_strike 35 = .ok (.iconst 3, 1) := by decide +kernel
theorem dX1_strike_36 : decode cX1_strike 36 = .ok (.iload_n 1, 1) := by decide +kernel
theorem dX1_strike_37 : decode cX1_strike 37 = .ok (.imul, 1) := by decide +kernel
theorem dX1_strike_38 : decode cX1_strike 38 = .ok (.iload_n 3, 1) := by decide +kernel
theorem dX1_strike_39 : decode cX1_strike 39 = .ok (.iadd, 1) := by decide +kernel
theorem dX1_strike_40 : decode cX1_strike 40 = .ok (.iconst 1, 1) := by decide +kernel
theorem dX1_strike_41 : decode cX1_strike 41 = .ok (.iadd, 1) := by decide +kernel
theorem dX1_strike_42 : decode cX1_strike 42 = .ok (.iconst 3, 1) := by decide +kernel
theorem dX1_strike_43 : decode cX1_strike 43 = .ok (.iload_n 1, 1) := by decide +kernel
theorem dX1_strike_44 : decode cX1_strike 44 = .ok (.imul, 1) := by decide +kernel
theorem dX1_strike_45 : decode cX1_strike 45 = .ok (.iload_n 3, 1) := by decide +kernel
theorem dX1_strike_46 : decode cX1_strike 46 = .ok (.iadd, 1) := by decide +kernel
theorem dX1_strike_47 : decode cX1_strike 47 = .ok (.invokevirtual 120, 3) := by decide +kernel
theorem dX1_strike_50 : decode cX1_strike 50 = .ok (.iinc 3 1, 3) := by decide +kernel
theorem dX1_strike_53 : decode cX1_strike 53 = .ok (.goto (-31), 3) := by decide +kernel
theorem dX1_strike_56 : decode cX1_strike 56 = .ok (.aload_n 0, 1) := by decide +kernel
theorem dX1_strike_57 : decode cX1_strike 57 = .ok (.getfield 13, 3) := by decide +kernel
theorem dX1_strike_60 : decode cX1_strike 60 = .ok (.iload_n 1, 1) := by decide +kernel
theorem dX1_strike_61 : decode cX1_strike 61 = .ok (.dup2, 1) := by decide +kernel
theorem dX1_strike_62 : decode cX1_strike 62 = .ok (.iaload, 1) := by decide +kernel
theorem dX1_strike_63 : decode cX1_strike 63 = .ok (.iconst 1, 1) := by decide +kernel
theorem dX1_strike_64 : decode cX1_strike 64 = .ok (.isub, 1) := by decide +kernel
theorem dX1_strike_65 : decode cX1_strike 65 = .ok (.iastore, 1) := by decide +kernel
theorem dX1_strike_66 : decode cX1_strike 66 = .ok (.aload_n 0, 1) := by decide +kernel
theorem dX1_strike_67 : decode cX1_strike 67 = .ok (.getfield 13, 3) := by decide +kernel
theorem dX1_strike_70 : decode cX1_strike 70 = .ok (.iload_n 1, 1) := by decide +kernel
theorem dX1_strike_71 : decode cX1_strike 71 = .ok (.iaload, 1) := by decide +kernel
theorem dX1_strike_72 : decode cX1_strike 72 = .ok (.ireturn, 1) := by decide +kernel
theorem dX1_stepsOf_0 : decode cX1_stepsOf 0 = .ok (.iconst 0, 1) := by decide +kernel
theorem dX1_stepsOf_1 : decode cX1_stepsOf 1 = .ok (.istore_n 2, 1) := by decide +kernel
theorem dX1_stepsOf_2 : decode cX1_stepsOf 2 = .ok (.iconst 0, 1) := by decide +kernel
theorem dX1_stepsOf_3 : decode cX1_stepsOf 3 = .ok (.istore_n 3, 1) := by decide +kernel
theorem dX1_stepsOf_4 : decode cX1_stepsOf 4 = .ok (.iload_n 3, 1) := by decide +kernel
theorem dX1_stepsOf_5 : decode cX1_stepsOf 5 = .ok (.aload_n 0, 1) := by decide +kernel
theorem dX1_stepsOf_6 : decode cX1_stepsOf 6 = .ok (.getfield 13, 3) := by decide +kernel
theorem dX1_stepsOf_9 : decode cX1_stepsOf 9 = .ok (.iload_n 1, 1) := by decide +kernel
theorem dX1_stepsOf_10 : decode cX1_stepsOf 10 = .ok (.iaload, 1) := by decide +kernel
theorem dX1_stepsOf_11 : decode cX1_stepsOf 11 = .ok (.if_icmp .ge 22, 3) := by decide +kernel
theorem dX1_stepsOf_14 : decode cX1_stepsOf 14 = .ok (.iload_n 2, 1) := by decide +kernel
theorem dX1_stepsOf_15 : decode cX1_stepsOf 15 = .ok (.aload_n 0, 1) := by decide +kernel
theorem dX1_stepsOf_16 : decode cX1_stepsOf 16 = .ok (.getfield 17, 3) := by decide +kernel
theorem dX1_stepsOf_19 : decode cX1_stepsOf 19 = .ok (.iconst 3, 1) := by decide +kernel
theorem dX1_stepsOf_20 : decode cX1_stepsOf 20 = .ok (.iload_n 1, 1) := by decide +kernel
theorem dX1_stepsOf_21 : decode cX1_stepsOf 21 = .ok (.imul, 1) := by decide +kernel
theorem dX1_stepsOf_22 : decode cX1_stepsOf 22 = .ok (.iload_n 3, 1) := by decide +kernel
theorem dX1_stepsOf_23 : decode cX1_stepsOf 23 = .ok (.iadd, 1) := by decide +kernel
theorem dX1_stepsOf_24 : decode cX1_stepsOf 24 = .ok (.iaload, 1) := by decide +kernel
theorem dX1_stepsOf_25 : decode cX1_stepsOf 25 = .ok (.iadd, 1) := by decide +kernel
theorem dX1_stepsOf_26 : decode cX1_stepsOf 26 = .ok (.istore_n 2, 1) := by decide +kernel
theorem dX1_stepsOf_27 : decode cX1_stepsOf 27 = .ok (.iinc 3 1, 3) := by decide +kernel
theorem dX1_stepsOf_30 : decode cX1_stepsOf 30 = .ok (.goto (-26), 3) := by decide +kernel
theorem dX1_stepsOf_33 : decode cX1_stepsOf 33 = .ok (.iload_n 2, 1) := by decide +kernel
theorem dX1_stepsOf_34 : decode cX1_stepsOf 34 = .ok (.ireturn, 1) := by decide +kernel
theorem dX1_openOf_0 : decode cX1_openOf 0 = .ok (.iconst 0, 1) := by decide +kernel
theorem dX1_openOf_1 : decode cX1_openOf 1 = .ok (.istore_n 2, 1) := by decide +kernel
theorem dX1_openOf_2 : decode cX1_openOf 2 = .ok (.iconst 0, 1) := by decide +kernel
theorem dX1_openOf_3 : decode cX1_openOf 3 = .ok (.istore_n 3, 1) := by decide +kernel
theorem dX1_openOf_4 : decode cX1_openOf 4 = .ok (.iload_n 3, 1) := by decide +kernel
theorem dX1_openOf_5 : decode cX1_openOf 5 = .ok (.aload_n 0, 1) := by decide +kernel
theorem dX1_openOf_6 : decode cX1_openOf 6 = .ok (.getfield 13, 3) := by decide +kernel
theorem dX1_openOf_9 : decode cX1_openOf 9 = .ok (.iload_n 1, 1) := by decide +kernel
theorem dX1_openOf_10 : decode cX1_openOf 10 = .ok (.iaload, 1) := by decide +kernel
theorem dX1_openOf_11 : decode cX1_openOf 11 = .ok (.if_icmp .ge 48, 3) := by decide +kernel
theorem dX1_openOf_14 : decode cX1_openOf 14 = .ok (.iconst 0, 1) := by decide +kernel
theorem dX1_openOf_15 : decode cX1_openOf 15 = .ok (.istore 4, 2) := by decide +kernel
theorem dX1_openOf_17 : decode cX1_openOf 17 = .ok (.iload 4, 2) := by decide +kernel
theorem dX1_openOf_19 : decode cX1_openOf 19 = .ok (.aload_n 0, 1) := by decide +kernel
theorem dX1_openOf_20 : decode cX1_openOf 20 = .ok (.getfield 17, 3) := by decide +kernel
theorem dX1_openOf_23 : decode cX1_openOf 23 = .ok (.iconst 3, 1) := by decide +kernel
theorem dX1_openOf_24 : decode cX1_openOf 24 = .ok (.iload_n 1, 1) := by decide +kernel
theorem dX1_openOf_25 : decode cX1_openOf 25 = .ok (.imul, 1) := by decide +kernel
theorem dX1_openOf_26 : decode cX1_openOf 26 = .ok (.iload_n 3, 1) := by decide +kernel
theorem dX1_openOf_27 : decode cX1_openOf 27 = .ok (.iadd, 1) := by decide +kernel
theorem dX1_openOf_28 : decode cX1_openOf 28 = .ok (.iaload, 1) := by decide +kernel
theorem dX1_openOf_29 : decode cX1_openOf 29 = .ok (.if_icmp .ge 24, 3) := by decide +kernel
theorem dX1_openOf_32 : decode cX1_openOf 32 = .ok (.iload_n 2, 1) := by decide +kernel
theorem dX1_openOf_33 : decode cX1_openOf 33 = .ok (.aload_n 0, 1) := by decide +kernel
theorem dX1_openOf_34 : decode cX1_openOf 34 = .ok (.getfield 26, 3) := by decide +kernel
theorem dX1_openOf_37 : decode cX1_openOf 37 = .ok (.iload_n 1, 1) := by decide +kernel
theorem dX1_openOf_38 : decode cX1_openOf 38 = .ok (.iload_n 3, 1) := by decide +kernel
theorem dX1_openOf_39 : decode cX1_openOf 39 = .ok (.iload 4, 2) := by decide +kernel
theorem dX1_openOf_41 : decode cX1_openOf 41 = .ok (.invokestatic 63, 3) := by decide +kernel
theorem dX1_openOf_44 : decode cX1_openOf 44 = .ok (.iaload, 1) := by decide +kernel
theorem dX1_openOf_45 : decode cX1_openOf 45 = .ok (.iadd, 1) := by decide +kernel
theorem dX1_openOf_46 : decode cX1_openOf 46 = .ok (.istore_n 2, 1) := by decide +kernel
theorem dX1_openOf_47 : decode cX1_openOf 47 = .ok (.iinc 4 1, 3) := by decide +kernel
theorem dX1_openOf_50 : decode cX1_openOf 50 = .ok (.goto (-33), 3) := by decide +kernel
theorem dX1_openOf_53 : decode cX1_openOf 53 = .ok (.iinc 3 1, 3) := by decide +kernel
theorem dX1_openOf_56 : decode cX1_openOf 56 = .ok (.goto (-52), 3) := by decide +kernel
theorem dX1_openOf_59 : decode cX1_openOf 59 = .ok (.iload_n 2, 1) := by decide +kernel
theorem dX1_openOf_60 : decode cX1_openOf 60 = .ok (.ireturn, 1) := by decide +kernel
theorem dX1_stageOf_0 : decode cX1_stageOf 0 = .ok (.aload_n 0, 1) := by decide +kernel
theorem dX1_stageOf_1 : decode cX1_stageOf 1 = .ok (.iconst (-1), 1) := by decide +kernel
theorem dX1_stageOf_2 : decode cX1_stageOf 2 = .ok (.invokevirtual 124, 3) := by decide +kernel
theorem dX1_stageOf_5 : decode cX1_stageOf 5 = .ok (.pop, 1) := by decide +kernel
theorem dX1_stageOf_6 : decode cX1_stageOf 6 = .ok (.aload_n 0, 1) := by decide +kernel
theorem dX1_stageOf_7 : decode cX1_stageOf 7 = .ok (.getfield 32, 3) := by decide +kernel
theorem dX1_stageOf_10 : decode cX1_stageOf 10 = .ok (.iload_n 1, 1) := by decide +kernel
theorem dX1_stageOf_11 : decode cX1_stageOf 11 = .ok (.iaload, 1) := by decide +kernel
theorem dX1_stageOf_12 : decode cX1_stageOf 12 = .ok (.ireturn, 1) := by decide +kernel
theorem dX1_lemmaTold_0 : decode cX1_lemmaTold 0 = .ok (.aload_n 0, 1) := by decide +kernel
theorem dX1_lemmaTold_1 : decode cX1_lemmaTold 1 = .ok (.invokevirtual 127, 3) := by decide +kernel
theorem dX1_lemmaTold_4 : decode cX1_lemmaTold 4 = .ok (.iload_n 2, 1) := by decide +kernel
theorem dX1_lemmaTold_5 : decode cX1_lemmaTold 5 = .ok (.tableswitch 84 0 5 #[39, 46, 52, 58, 68, 78], 39) := by decide +kernel
theorem dX1_lemmaTold_44 : decode cX1_lemmaTold 44 = .ok (.aload_n 0, 1) := by decide +kernel
theorem dX1_lemmaTold_45 : decode cX1_lemmaTold 45 = .ok (.getfield 13, 3) := by decide +kernel
theorem dX1_lemmaTold_48 : decode cX1_lemmaTold 48 = .ok (.iload_n 1, 1) := by decide +kernel
theorem dX1_lemmaTold_49 : decode cX1_lemmaTold 49 = .ok (.iaload, 1) := by decide +kernel
theorem dX1_lemmaTold_50 : decode cX1_lemmaTold 50 = .ok (.ireturn, 1) := by decide +kernel
theorem dX1_lemmaTold_51 : decode cX1_lemmaTold 51 = .ok (.aload_n 0, 1) := by decide +kernel
theorem dX1_lemmaTold_52 : decode cX1_lemmaTold 52 = .ok (.iload_n 1, 1) := by decide +kernel
theorem dX1_lemmaTold_53 : decode cX1_lemmaTold 53 = .ok (.invokevirtual 130, 3) := by decide +kernel
theorem dX1_lemmaTold_56 : decode cX1_lemmaTold 56 = .ok (.ireturn, 1) := by decide +kernel
theorem dX1_lemmaTold_57 : decode cX1_lemmaTold 57 = .ok (.aload_n 0, 1) := by decide +kernel
theorem dX1_lemmaTold_58 : decode cX1_lemmaTold 58 = .ok (.iload_n 1, 1) := by decide +kernel
theorem dX1_lemmaTold_59 : decode cX1_lemmaTold 59 = .ok (.invokevirtual 133, 3) := by decide +kernel
theorem dX1_lemmaTold_62 : decode cX1_lemmaTold 62 = .ok (.ireturn, 1) := by decide +kernel
theorem dX1_lemmaTold_63 : decode cX1_lemmaTold 63 = .ok (.aload_n 0, 1) := by decide +kernel
theorem dX1_lemmaTold_64 : decode cX1_lemmaTold 64 = .ok (.getfield 35, 3) := by decide +kernel
theorem dX1_lemmaTold_67 : decode cX1_lemmaTold 67 = .ok (.iload_n 1, 1) := by decide +kernel
theorem dX1_lemmaTold_68 : decode cX1_lemmaTold 68 = .ok (.iaload, 1) := by decide +kernel
theorem dX1_lemmaTold_69 : decode cX1_lemmaTold 69 = .ok (.invokestatic 136, 3) := by decide +kernel
theorem dX1_lemmaTold_72 : decode cX1_lemmaTold 72 = .ok (.ireturn, 1) := by decide +kernel
theorem dX1_lemmaTold_73 : decode cX1_lemmaTold 73 = .ok (.aload_n 0, 1) := by decide +kernel
theorem dX1_lemmaTold_74 : decode cX1_lemmaTold 74 = .ok (.getfield 38, 3) := by decide +kernel
theorem dX1_lemmaTold_77 : decode cX1_lemmaTold 77 = .ok (.iload_n 1, 1) := by decide +kernel
theorem dX1_lemmaTold_78 : decode cX1_lemmaTold 78 = .ok (.iaload, 1) := by decide +kernel
theorem dX1_lemmaTold_79 : decode cX1_lemmaTold 79 = .ok (.invokestatic 136, 3) := by decide +kernel
theorem dX1_lemmaTold_82 : decode cX1_lemmaTold 82 = .ok (.ireturn, 1) := by decide +kernel
theorem dX1_lemmaTold_83 : decode cX1_lemmaTold 83 = .ok (.aload_n 0, 1) := by decide +kernel
theorem dX1_lemmaTold_84 : decode cX1_lemmaTold 84 = .ok (.iload_n 1, 1) := by decide +kernel
theorem dX1_lemmaTold_85 : decode cX1_lemmaTold 85 = .ok (.invokevirtual 139, 3) := by decide +kernel
theorem dX1_lemmaTold_88 : decode cX1_lemmaTold 88 = .ok (.ireturn, 1) := by decide +kernel
theorem dX1_lemmaTold_89 : decode cX1_lemmaTold 89 = .ok (.aload_n 0, 1) := by decide +kernel
theorem dX1_lemmaTold_90 : decode cX1_lemmaTold 90 = .ok (.iload_n 1, 1) := by decide +kernel
theorem dX1_lemmaTold_91 : decode cX1_lemmaTold 91 = .ok (.invokevirtual 142, 3) := by decide +kernel
theorem dX1_lemmaTold_94 : decode cX1_lemmaTold 94 = .ok (.ireturn, 1) := by decide +kernel
theorem dX1_told__0 : decode cX1_told_ 0 = .ok (.aload_n 0, 1) := by decide +kernel
theorem dX1_told__1 : decode cX1_told_ 1 = .ok (.iconst 0, 1) := by decide +kernel
theorem dX1_told__2 : decode cX1_told_ 2 = .ok (.putfield 44, 3) := by decide +kernel
theorem dX1_told__5 : decode cX1_told_ 5 = .ok (.aload_n 0, 1) := by decide +kernel
theorem dX1_told__6 : decode cX1_told_ 6 = .ok (.iload_n 1, 1) := by decide +kernel
theorem dX1_told__7 : decode cX1_told_ 7 = .ok (.invokevirtual 55, 3) := by decide +kernel
theorem dX1_told__10 : decode cX1_told_ 10 = .ok (.ifCond .eq 22, 3) := by decide +kernel
theorem dX1_told__13 : decode cX1_told_ 13 = .ok (.iload_n 2, 1) := by decide +kernel
theorem dX1_told__14 : decode cX1_told_ 14 = .ok (.iconst 0, 1) := by decide +kernel
theorem dX1_told__15 : decode cX1_told_ 15 = .ok (.bipush 6, 2) := by decide +kernel
theorem dX1_told__17 : decode cX1_told_ 17 = .ok (.invokestatic 48, 3) := by decide +kernel
theorem dX1_told__20 : decode cX1_told_ 20 = .ok (.ifCond .eq 12, 3) := by decide +kernel
theorem dX1_told__23 : decode cX1_told_ 23 = .ok (.aload_n 0, 1) := by decide +kernel
theorem dX1_told__24 : decode cX1_told_ 24 = .ok (.iload_n 1, 1) := by decide +kernel
theorem dX1_told__25 : decode cX1_told_ 25 = .ok (.iload_n 2, 1) := by decide +kernel
theorem dX1_told__26 : decode cX1_told_ 26 = .ok (.invokevirtual 145, 3) := by decide +kernel
theorem dX1_told__29 : decode cX1_told_ 29 = .ok (.goto 8, 3) := by decide +kernel
theorem dX1_told__32 : decode cX1_told_ 32 = .ok (.aload_n 0, 1) := by decide +kernel
theorem dX1_told__33 : decode cX1_told_ 33 = .ok (.iconst 1, 1) := by decide +kernel
theorem dX1_told__34 : decode cX1_told_ 34 = .ok (.invokevirtual 104, 3) := by decide +kernel
theorem dX1_told__37 : decode cX1_told_ 37 = .ok (.ireturn, 1) := by decide +kernel
theorem dX1_stepTold_0 : decode cX1_stepTold 0 = .ok (.iload_n 2, 1) := by decide +kernel
theorem dX1_stepTold_1 : decode cX1_stepTold 1 = .ok (.ifCond .ne 12, 3) := by decide +kernel
theorem dX1_stepTold_4 : decode cX1_stepTold 4 = .ok (.aload_n 0, 1) := by decide +kernel
theorem dX1_stepTold_5 : decode cX1_stepTold 5 = .ok (.getfield 20, 3) := by decide +kernel
theorem dX1_stepTold_8 : decode cX1_stepTold 8 = .ok (.iload_n 1, 1) := by decide +kernel
theorem dX1_stepTold_9 : decode cX1_stepTold 9 = .ok (.iaload, 1) := by decide +kernel
theorem dX1_stepTold_10 : decode cX1_stepTold 10 = .ok (.goto 45, 3) := by decide +kernel
theorem dX1_stepTold_13 : decode cX1_stepTold 13 = .ok (.iload_n 2, 1) := by decide +kernel
theorem dX1_stepTold_14 : decode cX1_stepTold 14 = .ok (.iconst 1, 1) := by decide +kernel
theorem dX1_stepTold_15 : decode cX1_stepTold 15 = .ok (.if_icmp .ne 12, 3) := by decide +kernel
theorem dX1_stepTold_18 : decode cX1_stepTold 18 = .ok (.aload_n 0, 1) := by decide +kernel
theorem dX1_stepTold_19 : decode cX1_stepTold 19 = .ok (.getfield 23, 3) := by decide +kernel
theorem dX1_stepTold_22 : decode cX1_stepTold 22 = .ok (.iload_n 1, 1) := by decide +kernel
theorem dX1_stepTold_23 : decode cX1_stepTold 23 = .ok (.iaload, 1) := by decide +kernel
theorem dX1_stepTold_24 : decode cX1_stepTold 24 = .ok (.goto 31, 3) := by decide +kernel
theorem dX1_stepTold_27 : decode cX1_stepTold 27 = .ok (.iload_n 2, 1) := by decide +kernel
theorem dX1_stepTold_28 : decode cX1_stepTold 28 = .ok (.iconst 2, 1) := by decide +kernel
theorem dX1_stepTold_29 : decode cX1_stepTold 29 = .ok (.if_icmp .ne 12, 3) := by decide +kernel
theorem dX1_stepTold_32 : decode cX1_stepTold 32 = .ok (.aload_n 0, 1) := by decide +kernel
theorem dX1_stepTold_33 : decode cX1_stepTold 33 = .ok (.getfield 26, 3) := by decide +kernel
theorem dX1_stepTold_36 : decode cX1_stepTold 36 = .ok (.iload_n 1, 1) := by decide +kernel
theorem dX1_stepTold_37 : decode cX1_stepTold 37 = .ok (.iaload, 1) := by decide +kernel
theorem dX1_stepTold_38 : decode cX1_stepTold 38 = .ok (.goto 17, 3) := by decide +kernel
theorem dX1_stepTold_41 : decode cX1_stepTold 41 = .ok (.aload_n 0, 1) := by decide +kernel
theorem dX1_stepTold_42 : decode cX1_stepTold 42 = .ok (.getfield 29, 3) := by decide +kernel
theorem dX1_stepTold_45 : decode cX1_stepTold 45 = .ok (.iload_n 1, 1) := by decide +kernel
theorem dX1_stepTold_46 : decode cX1_stepTold 46 = .ok (.baload, 1) := by decide +kernel
theorem dX1_stepTold_47 : decode cX1_stepTold 47 = .ok (.ifCond .eq 7, 3) := by decide +kernel
theorem dX1_stepTold_50 : decode cX1_stepTold 50 = .ok (.iconst 1, 1) := by decide +kernel
theorem dX1_stepTold_51 : decode cX1_stepTold 51 = .ok (.goto 4, 3) := by decide +kernel
theorem dX1_stepTold_54 : decode cX1_stepTold 54 = .ok (.iconst 0, 1) := by decide +kernel
theorem dX1_stepTold_55 : decode cX1_stepTold 55 = .ok (.ireturn, 1) := by decide +kernel
theorem dX1_step_0 : decode cX1_step 0 = .ok (.aload_n 0, 1) := by decide +kernel
theorem dX1_step_1 : decode cX1_step 1 = .ok (.iconst 0, 1) := by decide +kernel
theorem dX1_step_2 : decode cX1_step 2 = .ok (.putfield 44, 3) := by decide +kernel
theorem dX1_step_5 : decode cX1_step 5 = .ok (.aload_n 0, 1) := by decide +kernel
theorem dX1_step_6 : decode cX1_step 6 = .ok (.iload_n 1, 1) := by decide +kernel
theorem dX1_step_7 : decode cX1_step 7 = .ok (.iload_n 2, 1) := by decide +kernel
theorem dX1_step_8 : decode cX1_step 8 = .ok (.iload_n 3, 1) := by decide +kernel
theorem dX1_step_9 : decode cX1_step 9 = .ok (.invokevirtual 108, 3) := by decide +kernel
theorem dX1_step_12 : decode cX1_step 12 = .ok (.ifCond .eq 28, 3) := by decide +kernel
theorem dX1_step_15 : decode cX1_step 15 = .ok (.iload 4, 2) := by decide +kernel
theorem dX1_step_17 : decode cX1_step 17 = .ok (.iconst 0, 1) := by decide +kernel
theorem dX1_step_18 : decode cX1_step 18 = .ok (.iconst 3, 1) := by decide +kernel
theorem dX1_step_19 : decode cX1_step 19 = .ok (.invokestatic 48, 3) := by decide +kernel
theorem dX1_step_22 : decode cX1_step 22 = .ok (.ifCond .eq 18, 3) := by decide +kernel
theorem dX1_step_25 : decode cX1_step 25 = .ok (.aload_n 0, 1) := by decide +kernel
theorem dX1_step_26 : decode cX1_step 26 = .ok (.iload_n 1, 1) := by decide +kernel
theorem dX1_step_27 : decode cX1_step 27 = .ok (.iload_n 2, 1) := by decide +kernel
theorem dX1_step_28 : decode cX1_step 28 = .ok (.iload_n 3, 1) := by decide +kernel
theorem dX1_step_29 : decode cX1_step 29 = .ok (.invokestatic 63, 3) := by decide +kernel
theorem dX1_step_32 : decode cX1_step 32 = .ok (.iload 4, 2) := by decide +kernel
theorem dX1_step_34 : decode cX1_step 34 = .ok (.invokevirtual 148, 3) := by decide +kernel
theorem dX1_step_37 : decode cX1_step 37 = .ok (.goto 8, 3) := by decide +kernel
theorem dX1_step_40 : decode cX1_step 40 = .ok (.aload_n 0, 1) := by decide +kernel
theorem dX1_step_41 : decode cX1_step 41 = .ok (.iconst 1, 1) := by decide +kernel
theorem dX1_step_42 : decode cX1_step 42 = .ok (.invokevirtual 104, 3) := by decide +kernel
theorem dX1_step_45 : decode cX1_step 45 = .ok (.ireturn, 1) := by decide +kernel
theorem dX1_proofTold_0 : decode cX1_proofTold 0 = .ok (.aload_n 0, 1) := by decide +kernel
theorem dX1_proofTold_1 : decode cX1_proofTold 1 = .ok (.invokevirtual 127, 3) := by decide +kernel
theorem dX1_proofTold_4 : decode cX1_proofTold 4 = .ok (.aload_n 0, 1) := by decide +kernel
theorem dX1_proofTold_5 : decode cX1_proofTold 5 = .ok (.iconst (-1), 1) := by decide +kernel
theorem dX1_proofTold_6 : decode cX1_proofTold 6 = .ok (.invokevirtual 124, 3) := by decide +kernel
theorem dX1_proofTold_9 : decode cX1_proofTold 9 = .ok (.pop, 1) := by decide +kernel
theorem dX1_proofTold_10 : decode cX1_proofTold 10 = .ok (.iload_n 3, 1) := by decide +kernel
theorem dX1_proofTold_11 : decode cX1_proofTold 11 = .ok (.tableswitch 68 0 2 #[25, 36, 58], 25) := by decide +kernel
theorem dX1_proofTold_36 : decode cX1_proofTold 36 = .ok (.aload_n 0, 1) := by decide +kernel
theorem dX1_proofTold_37 : decode cX1_proofTold 37 = .ok (.getfield 17, 3) := by decide +kernel
theorem dX1_proofTold_40 : decode cX1_proofTold 40 = .ok (.iconst 3, 1) := by decide +kernel
theorem dX1_proofTold_41 : decode cX1_proofTold 41 = .ok (.iload_n 1, 1) := by decide +kernel
theorem dX1_proofTold_42 : decode cX1_proofTold 42 = .ok (.imul, 1) := by decide +kernel
theorem dX1_proofTold_43 : decode cX1_proofTold 43 = .ok (.iload_n 2, 1) := by decide +kernel
theorem dX1_proofTold_44 : decode cX1_proofTold 44 = .ok (.iadd, 1) := by decide +kernel
theorem dX1_proofTold_45 : decode cX1_proofTold 45 = .ok (.iaload, 1) := by decide +kernel
theorem dX1_proofTold_46 : decode cX1_proofTold 46 = .ok (.ireturn, 1) := by decide +kernel
theorem dX1_proofTold_47 : decode cX1_proofTold 47 = .ok (.aload_n 0, 1) := by decide +kernel
theorem dX1_proofTold_48 : decode cX1_proofTold 48 = .ok (.iload_n 1, 1) := by decide +kernel
theorem dX1_proofTold_49 : decode cX1_proofTold 49 = .ok (.iload_n 2, 1) := by decide +kernel
theorem dX1_proofTold_50 : decode cX1_proofTold 50 = .ok (.aload_n 0, 1) := by decide +kernel
theorem dX1_proofTold_51 : decode cX1_proofTold 51 = .ok (.getfield 52, 3) := by decide +kernel
theorem dX1_proofTold_54 : decode cX1_proofTold 54 = .ok (.iconst 2, 1) := by decide +kernel
theorem dX1_proofTold_55 : decode cX1_proofTold 55 = .ok (.iadd, 1) := by decide +kernel
theorem dX1_proofTold_56 : decode cX1_proofTold 56 = .ok (.iconst (-1), 1) := by decide +kernel
theorem dX1_proofTold_57 : decode cX1_proofTold 57 = .ok (.invokevirtual 73, 3) := by decide +kernel
theorem dX1_proofTold_60 : decode cX1_proofTold 60 = .ok (.ifCond .eq 7, 3) := by decide +kernel
theorem dX1_proofTold_63 : decode cX1_proofTold 63 = .ok (.iconst 1, 1) := by decide +kernel
theorem dX1_proofTold_64 : decode cX1_proofTold 64 = .ok (.goto 4, 3) := by decide +kernel
theorem dX1_proofTold_67 : decode cX1_proofTold 67 = .ok (.iconst 0, 1) := by decide +kernel
theorem dX1_proofTold_68 : decode cX1_proofTold 68 = .ok (.ireturn, 1) := by decide +kernel
theorem dX1_proofTold_69 : decode cX1_proofTold 69 = .ok (.aload_n 0, 1) := by decide +kernel
theorem dX1_proofTold_70 : decode cX1_proofTold 70 = .ok (.iload_n 1, 1) := by decide +kernel
theorem dX1_proofTold_71 : decode cX1_proofTold 71 = .ok (.iload_n 2, 1) := by decide +kernel
theorem dX1_proofTold_72 : decode cX1_proofTold 72 = .ok (.invokevirtual 86, 3) := by decide +kernel
theorem dX1_proofTold_75 : decode cX1_proofTold 75 = .ok (.invokestatic 136, 3) := by decide +kernel
theorem dX1_proofTold_78 : decode cX1_proofTold 78 = .ok (.ireturn, 1) := by decide +kernel
theorem dX1_proofTold_79 : decode cX1_proofTold 79 = .ok (.aload_n 0, 1) := by decide +kernel
theorem dX1_proofTold_80 : decode cX1_proofTold 80 = .ok (.iload_n 1, 1) := by decide +kernel
theorem dX1_proofTold_81 : decode cX1_proofTold 81 = .ok (.iload_n 2, 1) := by decide +kernel
theorem dX1_proofTold_82 : decode cX1_proofTold 82 = .ok (.invokevirtual 89, 3) := by decide +kernel
theorem dX1_proofTold_85 : decode cX1_proofTold 85 = .ok (.ireturn, 1) := by decide +kernel
theorem dX1_about_0 : decode cX1_about 0 = .ok (.aload_n 0, 1) := by decide +kernel
theorem dX1_about_1 : decode cX1_about 1 = .ok (.iconst 0, 1) := by decide +kernel
theorem dX1_about_2 : decode cX1_about 2 = .ok (.putfield 44, 3) := by decide +kernel
theorem dX1_about_5 : decode cX1_about 5 = .ok (.aload_n 0, 1) := by decide +kernel
theorem dX1_about_6 : decode cX1_about 6 = .ok (.iload_n 1, 1) := by decide +kernel
theorem dX1_about_7 : decode cX1_about 7 = .ok (.iload_n 2, 1) := by decide +kernel
theorem dX1_about_8 : decode cX1_about 8 = .ok (.invokevirtual 59, 3) := by decide +kernel
theorem dX1_about_11 : decode cX1_about 11 = .ok (.ifCond .eq 22, 3) := by decide +kernel
theorem dX1_about_14 : decode cX1_about 14 = .ok (.iload_n 3, 1) := by decide +kernel
theorem dX1_about_15 : decode cX1_about 15 = .ok (.iconst 0, 1) := by decide +kernel
theorem dX1_about_16 : decode cX1_about 16 = .ok (.iconst 3, 1) := by decide +kernel
theorem dX1_about_17 : decode cX1_about 17 = .ok (.invokestatic 48, 3) := by decide +kernel
theorem dX1_about_20 : decode cX1_about 20 = .ok (.ifCond .eq 13, 3) := by decide +kernel
theorem dX1_about_23 : decode cX1_about 23 = .ok (.aload_n 0, 1) := by decide +kernel
theorem dX1_about_24 : decode cX1_about 24 = .ok (.iload_n 1, 1) := by decide +kernel
theorem dX1_about_25 : decode cX1_about 25 = .ok (.iload_n 2, 1) := by decide +kernel
theorem dX1_about_26 : decode cX1_about 26 = .ok (.iload_n 3, 1) := by decide +kernel
theorem dX1_about_27 : decode cX1_about 27 = .ok (.invokevirtual 151, 3) := by decide +kernel
theorem dX1_about_30 : decode cX1_about 30 = .ok (.goto 8, 3) := by decide +kernel
theorem dX1_about_33 : decode cX1_about 33 = .ok (.aload_n 0, 1) := by decide +kernel
theorem dX1_about_34 : decode cX1_about 34 = .ok (.iconst 1, 1) := by decide +kernel
theorem dX1_about_35 : decode cX1_about 35 = .ok (.invokevirtual 104, 3) := by decide +kernel
theorem dX1_about_38 : decode cX1_about 38 = .ok (.ireturn, 1) := by decide +kernel
theorem dX1_counted_0 : decode cX1_counted 0 = .ok (.iconst 0, 1) := by decide +kernel
theorem dX1_counted_1 : decode cX1_counted 1 = .ok (.istore_n 2, 1) := by decide +kernel
theorem dX1_counted_2 : decode cX1_counted 2 = .ok (.iload_n 1, 1) := by decide +kernel
theorem dX1_counted_3 : decode cX1_counted 3 = .ok (.tableswitch 82 0 2 #[25, 30, 36], 25) := by decide +kernel
theorem dX1_counted_28 : decode cX1_counted 28 = .ok (.aload_n 0, 1) := by decide +kernel
theorem dX1_counted_29 : decode cX1_counted 29 = .ok (.getfield 52, 3) := by decide +kernel
theorem dX1_counted_32 : decode cX1_counted 32 = .ok (.ireturn, 1) := by decide +kernel
theorem dX1_counted_33 : decode cX1_counted 33 = .ok (.aload_n 0, 1) := by decide +kernel
theorem dX1_counted_34 : decode cX1_counted 34 = .ok (.iconst (-1), 1) := by decide +kernel
theorem dX1_counted_35 : decode cX1_counted 35 = .ok (.invokevirtual 124, 3) := by decide +kernel
theorem dX1_counted_38 : decode cX1_counted 38 = .ok (.ireturn, 1) := by decide +kernel
theorem dX1_counted_39 : decode cX1_counted 39 = .ok (.aload_n 0, 1) := by decide +kernel
theorem dX1_counted_40 : decode cX1_counted 40 = .ok (.getfield 9, 3) := by decide +kernel
theorem dX1_counted_43 : decode cX1_counted 43 = .ok (.astore_n 3, 1) := by decide +kernel
theorem dX1_counted_44 : decode cX1_counted 44 = .ok (.aload_n 3, 1) := by decide +kernel
theorem dX1_counted_45 : decode cX1_counted 45 = .ok (.arraylength, 1) := by decide +kernel
theorem dX1_counted_46 : decode cX1_counted 46 = .ok (.istore 4, 2) := by decide +kernel
theorem dX1_counted_48 : decode cX1_counted 48 = .ok (.iconst 0, 1) := by decide +kernel
theorem dX1_counted_49 : decode cX1_counted 49 = .ok (.istore 5, 2) := by decide +kernel
theorem dX1_counted_51 : decode cX1_counted 51 = .ok (.iload 5, 2) := by decide +kernel
theorem dX1_counted_53 : decode cX1_counted 53 = .ok (.iload 4, 2) := by decide +kernel
theorem dX1_counted_55 : decode cX1_counted 55 = .ok (.if_icmp .ge 28, 3) := by decide +kernel
theorem dX1_counted_58 : decode cX1_counted 58 = .ok (.aload_n 3, 1) := by decide +kernel
theorem dX1_counted_59 : decode cX1_counted 59 = .ok (.iload 5, 2) := by decide +kernel
theorem dX1_counted_61 : decode cX1_counted 61 = .ok (.baload, 1) := by decide +kernel
theorem dX1_counted_62 : decode cX1_counted 62 = .ok (.istore 6, 2) := by decide +kernel
theorem dX1_counted_64 : decode cX1_counted 64 = .ok (.iload_n 2, 1) := by decide +kernel
theorem dX1_counted_65 : decode cX1_counted 65 = .ok (.iload 6, 2) := by decide +kernel
theorem dX1_counted_67 : decode cX1_counted 67 = .ok (.ifCond .eq 7, 3) := by decide +kernel
theorem dX1_counted_70 : decode cX1_counted 70 = .ok (.iconst 1, 1) := by decide +kernel
theorem dX1_counted_71 : decode cX1_counted 71 = .ok (.goto 4, 3) := by decide +kernel
theorem dX1_counted_74 : decode cX1_counted 74 = .ok (.iconst 0, 1) := by decide +kernel
theorem dX1_counted_75 : decode cX1_counted 75 = .ok (.iadd, 1) := by decide +kernel
theorem dX1_counted_76 : decode cX1_counted 76 = .ok (.istore_n 2, 1) := by decide +kernel
theorem dX1_counted_77 : decode cX1_counted 77 = .ok (.iinc 5 1, 3) := by decide +kernel
theorem dX1_counted_80 : decode cX1_counted 80 = .ok (.goto (-29), 3) := by decide +kernel
theorem dX1_counted_83 : decode cX1_counted 83 = .ok (.iload_n 2, 1) := by decide +kernel
theorem dX1_counted_84 : decode cX1_counted 84 = .ok (.ireturn, 1) := by decide +kernel
theorem dX1_counted_85 : decode cX1_counted 85 = .ok (.iconst 0, 1) := by decide +kernel
theorem dX1_counted_86 : decode cX1_counted 86 = .ok (.istore_n 3, 1) := by decide +kernel
theorem dX1_counted_87 : decode cX1_counted 87 = .ok (.iload_n 3, 1) := by decide +kernel
theorem dX1_counted_88 : decode cX1_counted 88 = .ok (.aload_n 0, 1) := by decide +kernel
theorem dX1_counted_89 : decode cX1_counted 89 = .ok (.getfield 52, 3) := by decide +kernel
theorem dX1_counted_92 : decode cX1_counted 92 = .ok (.if_icmp .ge 65, 3) := by decide +kernel
theorem dX1_counted_95 : decode cX1_counted 95 = .ok (.iload_n 2, 1) := by decide +kernel
theorem dX1_counted_96 : decode cX1_counted 96 = .ok (.iload_n 1, 1) := by decide +kernel
theorem dX1_counted_97 : decode cX1_counted 97 = .ok (.iconst 3, 1) := by decide +kernel
theorem dX1_counted_98 : decode cX1_counted 98 = .ok (.if_icmp .ne 12, 3) := by decide +kernel
theorem dX1_counted_101 : decode cX1_counted 101 = .ok (.aload_n 0, 1) := by decide +kernel
theorem dX1_counted_102 : decode cX1_counted 102 = .ok (.getfield 13, 3) := by decide +kernel
theorem dX1_counted_105 : decode cX1_counted 105 = .ok (.iload_n 3, 1) := by decide +kernel
theorem dX1_counted_106 : decode cX1_counted 106 = .ok (.iaload, 1) := by decide +kernel
theorem dX1_counted_107 : decode cX1_counted 107 = .ok (.goto 42, 3) := by decide +kernel
theorem dX1_counted_110 : decode cX1_counted 110 = .ok (.iload_n 1, 1) := by decide +kernel
theorem dX1_counted_111 : decode cX1_counted 111 = .ok (.iconst 4, 1) := by decide +kernel
theorem dX1_counted_112 : decode cX1_counted 112 = .ok (.if_icmp .ne 11, 3) := by decide +kernel
theorem dX1_counted_115 : decode cX1_counted 115 = .ok (.aload_n 0, 1) := by decide +kernel
theorem dX1_counted_116 : decode cX1_counted 116 = .ok (.iload_n 3, 1) := by decide +kernel
theorem dX1_counted_117 : decode cX1_counted 117 = .ok (.invokevirtual 130, 3) := by decide +kernel
theorem dX1_counted_120 : decode cX1_counted 120 = .ok (.goto 29, 3) := by decide +kernel
theorem dX1_counted_123 : decode cX1_counted 123 = .ok (.iload_n 1, 1) := by decide +kernel
theorem dX1_counted_124 : decode cX1_counted 124 = .ok (.iconst 5, 1) := by decide +kernel
theorem dX1_counted_125 : decode cX1_counted 125 = .ok (.if_icmp .ne 11, 3) := by decide +kernel
theorem dX1_counted_128 : decode cX1_counted 128 = .ok (.aload_n 0, 1) := by decide +kernel
theorem dX1_counted_129 : decode cX1_counted 129 = .ok (.iload_n 3, 1) := by decide +kernel
theorem dX1_counted_130 : decode cX1_counted 130 = .ok (.invokevirtual 139, 3) := by decide +kernel
theorem dX1_counted_133 : decode cX1_counted 133 = .ok (.goto 16, 3) := by decide +kernel
theorem dX1_counted_136 : decode cX1_counted 136 = .ok (.aload_n 0, 1) := by decide +kernel
theorem dX1_counted_137 : decode cX1_counted 137 = .ok (.iload_n 3, 1) := by decide +kernel
theorem dX1_counted_138 : decode cX1_counted 138 = .ok (.invokevirtual 142, 3) := by decide +kernel
theorem dX1_counted_141 : decode cX1_counted 141 = .ok (.ifCond .le 7, 3) := by decide +kernel
theorem dX1_counted_144 : decode cX1_counted 144 = .ok (.iconst 1, 1) := by decide +kernel
theorem dX1_counted_145 : decode cX1_counted 145 = .ok (.goto 4, 3) := by decide +kernel
theorem dX1_counted_148 : decode cX1_counted 148 = .ok (.iconst 0, 1) := by decide +kernel
theorem dX1_counted_149 : decode cX1_counted 149 = .ok (.iadd, 1) := by decide +kernel
theorem dX1_counted_150 : decode cX1_counted 150 = .ok (.istore_n 2, 1) := by decide +kernel
theorem dX1_counted_151 : decode cX1_counted 151 = .ok (.iinc 3 1, 3) := by decide +kernel
theorem dX1_counted_154 : decode cX1_counted 154 = .ok (.goto (-67), 3) := by decide +kernel
theorem dX1_counted_157 : decode cX1_counted 157 = .ok (.iload_n 2, 1) := by decide +kernel
theorem dX1_counted_158 : decode cX1_counted 158 = .ok (.ireturn, 1) := by decide +kernel
theorem dX1_count_0 : decode cX1_count 0 = .ok (.aload_n 0, 1) := by decide +kernel
theorem dX1_count_1 : decode cX1_count 1 = .ok (.iconst 0, 1) := by decide +kernel
theorem dX1_count_2 : decode cX1_count 2 = .ok (.putfield 44, 3) := by decide +kernel
theorem dX1_count_5 : decode cX1_count 5 = .ok (.iload_n 1, 1) := by decide +kernel
theorem dX1_count_6 : decode cX1_count 6 = .ok (.iconst 0, 1) := by decide +kernel
theorem dX1_count_7 : decode cX1_count 7 = .ok (.bipush 6, 2) := by decide +kernel
theorem dX1_count_9 : decode cX1_count 9 = .ok (.invokestatic 48, 3) := by decide +kernel
theorem dX1_count_12 : decode cX1_count 12 = .ok (.ifCond .eq 11, 3) := by decide +kernel
theorem dX1_count_15 : decode cX1_count 15 = .ok (.aload_n 0, 1) := by decide +kernel
theorem dX1_count_16 : decode cX1_count 16 = .ok (.iload_n 1, 1) := by decide +kernel
theorem dX1_count_17 : decode cX1_count 17 = .ok (.invokevirtual 154, 3) := by decide +kernel
theorem dX1_count_20 : decode cX1_count 20 = .ok (.goto 8, 3) := by decide +kernel
theorem dX1_count_23 : decode cX1_count 23 = .ok (.aload_n 0, 1) := by decide +kernel
theorem dX1_count_24 : decode cX1_count 24 = .ok (.iconst 1, 1) := by decide +kernel
theorem dX1_count_25 : decode cX1_count 25 = .ok (.invokevirtual 104, 3) := by decide +kernel
theorem dX1_count_28 : decode cX1_count 28 = .ok (.ireturn, 1) := by decide +kernel
theorem dX1_bestOf_0 : decode cX1_bestOf 0 = .ok (.aload_n 0, 1) := by decide +kernel
theorem dX1_bestOf_1 : decode cX1_bestOf 1 = .ok (.invokevirtual 127, 3) := by decide +kernel
theorem dX1_bestOf_4 : decode cX1_bestOf 4 = .ok (.iconst (-1), 1) := by decide +kernel
theorem dX1_bestOf_5 : decode cX1_bestOf 5 = .ok (.istore_n 2, 1) := by decide +kernel
theorem dX1_bestOf_6 : decode cX1_bestOf 6 = .ok (.iconst 0, 1) := by decide +kernel
theorem dX1_bestOf_7 : decode cX1_bestOf 7 = .ok (.istore_n 3, 1) := by decide +kernel
theorem dX1_bestOf_8 : decode cX1_bestOf 8 = .ok (.iload_n 3, 1) := by decide +kernel
theorem dX1_bestOf_9 : decode cX1_bestOf 9 = .ok (.aload_n 0, 1) := by decide +kernel
theorem dX1_bestOf_10 : decode cX1_bestOf 10 = .ok (.getfield 13, 3) := by decide +kernel
theorem dX1_bestOf_13 : decode cX1_bestOf 13 = .ok (.iload_n 1, 1) := by decide +kernel
theorem dX1_bestOf_14 : decode cX1_bestOf 14 = .ok (.iaload, 1) := by decide +kernel
theorem dX1_bestOf_15 : decode cX1_bestOf 15 = .ok (.if_icmp .ge 37, 3) := by decide +kernel
theorem dX1_bestOf_18 : decode cX1_bestOf 18 = .ok (.aload_n 0, 1) := by decide +kernel
theorem dX1_bestOf_19 : decode cX1_bestOf 19 = .ok (.iload_n 1, 1) := by decide +kernel
theorem dX1_bestOf_20 : decode cX1_bestOf 20 = .ok (.iload_n 3, 1) := by decide +kernel
theorem dX1_bestOf_21 : decode cX1_bestOf 21 = .ok (.invokevirtual 86, 3) := by decide +kernel
theorem dX1_bestOf_24 : decode cX1_bestOf 24 = .ok (.iload_n 2, 1) := by decide +kernel
theorem dX1_bestOf_25 : decode cX1_bestOf 25 = .ok (.iconst (-1), 1) := by decide +kernel
theorem dX1_bestOf_26 : decode cX1_bestOf 26 = .ok (.if_icmp .ne 9, 3) := by decide +kernel
theorem dX1_bestOf_29 : decode cX1_bestOf 29 = .ok (.sipush 9999, 3) := by decide +kernel
theorem dX1_bestOf_32 : decode cX1_bestOf 32 = .ok (.goto 9, 3) := by decide +kernel
theorem dX1_bestOf_35 : decode cX1_bestOf 35 = .ok (.aload_n 0, 1) := by decide +kernel
theorem dX1_bestOf_36 : decode cX1_bestOf 36 = .ok (.iload_n 1, 1) := by decide +kernel
theorem dX1_bestOf_37 : decode cX1_bestOf 37 = .ok (.iload_n 2, 1) := by decide +kernel
theorem dX1_bestOf_38 : decode cX1_bestOf 38 = .ok (.invokevirtual 86, 3) := by decide +kernel
theorem dX1_bestOf_41 : decode cX1_bestOf 41 = .ok (.if_icmp .ge 5, 3) := by decide +kernel
theorem dX1_bestOf_44 : decode cX1_bestOf 44 = .ok (.iload_n 3, 1) := by decide +kernel
theorem dX1_bestOf_45 : decode cX1_bestOf 45 = .ok (.istore_n 2, 1) := by decide +kernel
theorem dX1_bestOf_46 : decode cX1_bestOf 46 = .ok (.iinc 3 1, 3) := by decide +kernel
theorem dX1_bestOf_49 : decode cX1_bestOf 49 = .ok (.goto (-41), 3) := by decide +kernel
theorem dX1_bestOf_52 : decode cX1_bestOf 52 = .ok (.iload_n 2, 1) := by decide +kernel
theorem dX1_bestOf_53 : decode cX1_bestOf 53 = .ok (.ireturn, 1) := by decide +kernel
theorem dX1_best_0 : decode cX1_best 0 = .ok (.aload_n 0, 1) := by decide +kernel
theorem dX1_best_1 : decode cX1_best 1 = .ok (.iconst 0, 1) := by decide +kernel
theorem dX1_best_2 : decode cX1_best 2 = .ok (.putfield 44, 3) := by decide +kernel
theorem dX1_best_5 : decode cX1_best 5 = .ok (.aload_n 0, 1) := by decide +kernel
theorem dX1_best_6 : decode cX1_best 6 = .ok (.iload_n 1, 1) := by decide +kernel
theorem dX1_best_7 : decode cX1_best 7 = .ok (.invokevirtual 55, 3) := by decide +kernel
theorem dX1_best_10 : decode cX1_best 10 = .ok (.ifCond .eq 11, 3) := by decide +kernel
theorem dX1_best_13 : decode cX1_best 13 = .ok (.aload_n 0, 1) := by decide +kernel
theorem dX1_best_14 : decode cX1_best 14 = .ok (.iload_n 1, 1) := by decide +kernel
theorem dX1_best_15 : decode cX1_best 15 = .ok (.invokevirtual 157, 3) := by decide +kernel
theorem dX1_best_18 : decode cX1_best 18 = .ok (.goto 8, 3) := by decide +kernel
theorem dX1_best_21 : decode cX1_best 21 = .ok (.aload_n 0, 1) := by decide +kernel
theorem dX1_best_22 : decode cX1_best 22 = .ok (.iconst 1, 1) := by decide +kernel
theorem dX1_best_23 : decode cX1_best 23 = .ok (.invokevirtual 104, 3) := by decide +kernel
theorem dX1_best_26 : decode cX1_best 26 = .ok (.ireturn, 1) := by decide +kernel
theorem dX1_without_0 : decode cX1_without 0 = .ok (.aload_n 0, 1) := by decide +kernel
theorem dX1_without_1 : decode cX1_without 1 = .ok (.iconst 0, 1) := by decide +kernel
theorem dX1_without_2 : decode cX1_without 2 = .ok (.putfield 44, 3) := by decide +kernel
theorem dX1_without_5 : decode cX1_without 5 = .ok (.aload_n 0, 1) := by decide +kernel
theorem dX1_without_6 : decode cX1_without 6 = .ok (.iload_n 1, 1) := by decide +kernel
theorem dX1_without_7 : decode cX1_without 7 = .ok (.invokevirtual 55, 3) := by decide +kernel
theorem dX1_without_10 : decode cX1_without 10 = .ok (.ifCond .eq 11, 3) := by decide +kernel
theorem dX1_without_13 : decode cX1_without 13 = .ok (.aload_n 0, 1) := by decide +kernel
theorem dX1_without_14 : decode cX1_without 14 = .ok (.iload_n 1, 1) := by decide +kernel
theorem dX1_without_15 : decode cX1_without 15 = .ok (.invokevirtual 124, 3) := by decide +kernel
theorem dX1_without_18 : decode cX1_without 18 = .ok (.goto 8, 3) := by decide +kernel
theorem dX1_without_21 : decode cX1_without 21 = .ok (.aload_n 0, 1) := by decide +kernel
theorem dX1_without_22 : decode cX1_without 22 = .ok (.iconst 1, 1) := by decide +kernel
theorem dX1_without_23 : decode cX1_without 23 = .ok (.invokevirtual 104, 3) := by decide +kernel
theorem dX1_without_26 : decode cX1_without 26 = .ok (.ireturn, 1) := by decide +kernel
theorem dX1_isNeeded_0 : decode cX1_isNeeded 0 = .ok (.aload_n 0, 1) := by decide +kernel
theorem dX1_isNeeded_1 : decode cX1_isNeeded 1 = .ok (.getfield 9, 3) := by decide +kernel
theorem dX1_isNeeded_4 : decode cX1_isNeeded 4 = .ok (.iload_n 2, 1) := by decide +kernel
theorem dX1_isNeeded_5 : decode cX1_isNeeded 5 = .ok (.baload, 1) := by decide +kernel
theorem dX1_isNeeded_6 : decode cX1_isNeeded 6 = .ok (.ifCond .eq 11, 3) := by decide +kernel
theorem dX1_isNeeded_9 : decode cX1_isNeeded 9 = .ok (.aload_n 0, 1) := by decide +kernel
theorem dX1_isNeeded_10 : decode cX1_isNeeded 10 = .ok (.iload_n 1, 1) := by decide +kernel
theorem dX1_isNeeded_11 : decode cX1_isNeeded 11 = .ok (.invokevirtual 133, 3) := by decide +kernel
theorem dX1_isNeeded_14 : decode cX1_isNeeded 14 = .ok (.ifCond .ne 5, 3) := by decide +kernel
theorem dX1_isNeeded_17 : decode cX1_isNeeded 17 = .ok (.iconst 0, 1) := by decide +kernel
theorem dX1_isNeeded_18 : decode cX1_isNeeded 18 = .ok (.ireturn, 1) := by decide +kernel
theorem dX1_isNeeded_19 : decode cX1_isNeeded 19 = .ok (.aload_n 0, 1) := by decide +kernel
theorem dX1_isNeeded_20 : decode cX1_isNeeded 20 = .ok (.getfield 9, 3) := by decide +kernel
theorem dX1_isNeeded_23 : decode cX1_isNeeded 23 = .ok (.iload_n 2, 1) := by decide +kernel
theorem dX1_isNeeded_24 : decode cX1_isNeeded 24 = .ok (.iconst 0, 1) := by decide +kernel
theorem dX1_isNeeded_25 : decode cX1_isNeeded 25 = .ok (.bastore, 1) := by decide +kernel
theorem dX1_isNeeded_26 : decode cX1_isNeeded 26 = .ok (.aload_n 0, 1) := by decide +kernel
theorem dX1_isNeeded_27 : decode cX1_isNeeded 27 = .ok (.iload_n 1, 1) := by decide +kernel
theorem dX1_isNeeded_28 : decode cX1_isNeeded 28 = .ok (.invokevirtual 133, 3) := by decide +kernel
theorem dX1_isNeeded_31 : decode cX1_isNeeded 31 = .ok (.ifCond .ne 7, 3) := by decide +kernel
theorem dX1_isNeeded_34 : decode cX1_isNeeded 34 = .ok (.iconst 1, 1) := by decide +kernel
theorem dX1_isNeeded_35 : decode cX1_isNeeded 35 = .ok (.goto 4, 3) := by decide +kernel
theorem dX1_isNeeded_38 : decode cX1_isNeeded 38 = .ok (.iconst 0, 1) := by decide +kernel
theorem dX1_isNeeded_39 : decode cX1_isNeeded 39 = .ok (.istore_n 3, 1) := by decide +kernel
theorem dX1_isNeeded_40 : decode cX1_isNeeded 40 = .ok (.aload_n 0, 1) := by decide +kernel
theorem dX1_isNeeded_41 : decode cX1_isNeeded 41 = .ok (.getfield 9, 3) := by decide +kernel
theorem dX1_isNeeded_44 : decode cX1_isNeeded 44 = .ok (.iload_n 2, 1) := by decide +kernel
theorem dX1_isNeeded_45 : decode cX1_isNeeded 45 = .ok (.iconst 1, 1) := by decide +kernel
theorem dX1_isNeeded_46 : decode cX1_isNeeded 46 = .ok (.bastore, 1) := by decide +kernel
theorem dX1_isNeeded_47 : decode cX1_isNeeded 47 = .ok (.iload_n 3, 1) := by decide +kernel
theorem dX1_isNeeded_48 : decode cX1_isNeeded 48 = .ok (.ireturn, 1) := by decide +kernel
theorem dX1_needs_0 : decode cX1_needs 0 = .ok (.aload_n 0, 1) := by decide +kernel
theorem dX1_needs_1 : decode cX1_needs 1 = .ok (.aload_n 0, 1) := by decide +kernel
theorem dX1_needs_2 : decode cX1_needs 2 = .ok (.iload_n 1, 1) := by decide +kernel
theorem dX1_needs_3 : decode cX1_needs 3 = .ok (.invokevirtual 55, 3) := by decide +kernel
theorem dX1_needs_6 : decode cX1_needs 6 = .ok (.ifCond .eq 14, 3) := by decide +kernel
theorem dX1_needs_9 : decode cX1_needs 9 = .ok (.iload_n 2, 1) := by decide +kernel
theorem dX1_needs_10 : decode cX1_needs 10 = .ok (.invokestatic 101, 3) := by decide +kernel
theorem dX1_needs_13 : decode cX1_needs 13 = .ok (.ifCond .eq 7, 3) := by decide +kernel
theorem dX1_needs_16 : decode cX1_needs 16 = .ok (.iconst 0, 1) := by decide +kernel
theorem dX1_needs_17 : decode cX1_needs 17 = .ok (.goto 4, 3) := by decide +kernel
theorem dX1_needs_20 : decode cX1_needs 20 = .ok (.iconst 1, 1) := by decide +kernel
theorem dX1_needs_21 : decode cX1_needs 21 = .ok (.putfield 44, 3) := by decide +kernel
theorem dX1_needs_24 : decode cX1_needs 24 = .ok (.aload_n 0, 1) := by decide +kernel
theorem dX1_needs_25 : decode cX1_needs 25 = .ok (.getfield 44, 3) := by decide +kernel
theorem dX1_needs_28 : decode cX1_needs 28 = .ok (.ifCond .ne 16, 3) := by decide +kernel
theorem dX1_needs_31 : decode cX1_needs 31 = .ok (.aload_n 0, 1) := by decide +kernel
theorem dX1_needs_32 : decode cX1_needs 32 = .ok (.iload_n 1, 1) := by decide +kernel
theorem dX1_needs_33 : decode cX1_needs 33 = .ok (.iload_n 2, 1) := by decide +kernel
theorem dX1_needs_34 : decode cX1_needs 34 = .ok (.invokevirtual 160, 3) := by decide +kernel
theorem dX1_needs_37 : decode cX1_needs 37 = .ok (.ifCond .eq 7, 3) := by decide +kernel
theorem dX1_needs_40 : decode cX1_needs 40 = .ok (.iconst 1, 1) := by decide +kernel
theorem dX1_needs_41 : decode cX1_needs 41 = .ok (.goto 4, 3) := by decide +kernel
theorem dX1_needs_44 : decode cX1_needs 44 = .ok (.iconst 0, 1) := by decide +kernel
theorem dX1_needs_45 : decode cX1_needs 45 = .ok (.ireturn, 1) := by decide +kernel
theorem dX1_provedBy_0 : decode cX1_provedBy 0 = .ok (.aload_n 0, 1) := by decide +kernel
theorem dX1_provedBy_1 : decode cX1_provedBy 1 = .ok (.getfield 26, 3) := by decide +kernel
theorem dX1_provedBy_4 : decode cX1_provedBy 4 = .ok (.iload_n 1, 1) := by decide +kernel
theorem dX1_provedBy_5 : decode cX1_provedBy 5 = .ok (.iaload, 1) := by decide +kernel
theorem dX1_provedBy_6 : decode cX1_provedBy 6 = .ok (.istore_n 2, 1) := by decide +kernel
theorem dX1_provedBy_7 : decode cX1_provedBy 7 = .ok (.aload_n 0, 1) := by decide +kernel
theorem dX1_provedBy_8 : decode cX1_provedBy 8 = .ok (.getfield 26, 3) := by decide +kernel
theorem dX1_provedBy_11 : decode cX1_provedBy 11 = .ok (.iload_n 1, 1) := by decide +kernel
theorem dX1_provedBy_12 : decode cX1_provedBy 12 = .ok (.iconst 0, 1) := by decide +kernel
theorem dX1_provedBy_13 : decode cX1_provedBy 13 = .ok (.iastore, 1) := by decide +kernel
theorem dX1_provedBy_14 : decode cX1_provedBy 14 = .ok (.aload_n 0, 1) := by decide +kernel
theorem dX1_provedBy_15 : decode cX1_provedBy 15 = .ok (.iconst (-1), 1) := by decide +kernel
theorem dX1_provedBy_16 : decode cX1_provedBy 16 = .ok (.invokevirtual 124, 3) := by decide +kernel
theorem dX1_provedBy_19 : decode cX1_provedBy 19 = .ok (.istore_n 3, 1) := by decide +kernel
theorem dX1_provedBy_20 : decode cX1_provedBy 20 = .ok (.aload_n 0, 1) := by decide +kernel
theorem dX1_provedBy_21 : decode cX1_provedBy 21 = .ok (.getfield 26, 3) := by decide +kernel
theorem dX1_provedBy_24 : decode cX1_provedBy 24 = .ok (.iload_n 1, 1) := by decide +kernel
theorem dX1_provedBy_25 : decode cX1_provedBy 25 = .ok (.iload_n 2, 1) := by decide +kernel
theorem dX1_provedBy_26 : decode cX1_provedBy 26 = .ok (.iastore, 1) := by decide +kernel
theorem dX1_provedBy_27 : decode cX1_provedBy 27 = .ok (.iload_n 3, 1) := by decide +kernel
theorem dX1_provedBy_28 : decode cX1_provedBy 28 = .ok (.ireturn, 1) := by decide +kernel
theorem dX1_advise_0 : decode cX1_advise 0 = .ok (.aload_n 0, 1) := by decide +kernel
theorem dX1_advise_1 : decode cX1_advise 1 = .ok (.iconst 0, 1) := by decide +kernel
theorem dX1_advise_2 : decode cX1_advise 2 = .ok (.putfield 44, 3) := by decide +kernel
theorem dX1_advise_5 : decode cX1_advise 5 = .ok (.iconst (-1), 1) := by decide +kernel
theorem dX1_advise_6 : decode cX1_advise 6 = .ok (.istore_n 1, 1) := by decide +kernel
theorem dX1_advise_7 : decode cX1_advise 7 = .ok (.aload_n 0, 1) := by decide +kernel
theorem dX1_advise_8 : decode cX1_advise 8 = .ok (.iconst (-1), 1) := by decide +kernel
theorem dX1_advise_9 : decode cX1_advise 9 = .ok (.invokevirtual 124, 3) := by decide +kernel
theorem dX1_advise_12 : decode cX1_advise 12 = .ok (.istore_n 2, 1) := by decide +kernel
theorem dX1_advise_13 : decode cX1_advise 13 = .ok (.iconst 0, 1) := by decide +kernel
theorem dX1_advise_14 : decode cX1_advise 14 = .ok (.istore_n 3, 1) := by decide +kernel
theorem dX1_advise_15 : decode cX1_advise 15 = .ok (.iload_n 3, 1) := by decide +kernel
theorem dX1_advise_16 : decode cX1_advise 16 = .ok (.aload_n 0, 1) := by decide +kernel
theorem dX1_advise_17 : decode cX1_advise 17 = .ok (.getfield 52, 3) := by decide +kernel
theorem dX1_advise_20 : decode cX1_advise 20 = .ok (.if_icmp .ge 112, 3) := by decide +kernel
theorem dX1_advise_23 : decode cX1_advise 23 = .ok (.iconst 0, 1) := by decide +kernel
theorem dX1_advise_24 : decode cX1_advise 24 = .ok (.istore 4, 2) := by decide +kernel
theorem dX1_advise_26 : decode cX1_advise 26 = .ok (.iload 4, 2) := by decide +kernel
theorem dX1_advise_28 : decode cX1_advise 28 = .ok (.aload_n 0, 1) := by decide +kernel
theorem dX1_advise_29 : decode cX1_advise 29 = .ok (.getfield 13, 3) := by decide +kernel
theorem dX1_advise_32 : decode cX1_advise 32 = .ok (.iload_n 3, 1) := by decide +kernel
theorem dX1_advise_33 : decode cX1_advise 33 = .ok (.iaload, 1) := by decide +kernel
theorem dX1_advise_34 : decode cX1_advise 34 = .ok (.if_icmp .ge 92, 3) := by decide +kernel
theorem dX1_advise_37 : decode cX1_advise 37 = .ok (.iconst 0, 1) := by decide +kernel
theorem dX1_advise_38 : decode cX1_advise 38 = .ok (.istore 5, 2) := by decide +kernel
theorem dX1_advise_40 : decode cX1_advise 40 = .ok (.iload 5, 2) := by decide +kernel
theorem dX1_advise_42 : decode cX1_advise 42 = .ok (.aload_n 0, 1) := by decide +kernel
theorem dX1_advise_43 : decode cX1_advise 43 = .ok (.getfield 17, 3) := by decide +kernel
theorem dX1_advise_46 : decode cX1_advise 46 = .ok (.iconst 3, 1) := by decide +kernel
theorem dX1_advise_47 : decode cX1_advise 47 = .ok (.iload_n 3, 1) := by decide +kernel
theorem dX1_advise_48 : decode cX1_advise 48 = .ok (.imul, 1) := by decide +kernel
theorem dX1_advise_49 : decode cX1_advise 49 = .ok (.iload 4, 2) := by decide +kernel
theorem dX1_advise_51 : decode cX1_advise 51 = .ok (.iadd, 1) := by decide +kernel
theorem dX1_advise_52 : decode cX1_advise 52 = .ok (.iaload, 1) := by decide +kernel
theorem dX1_advise_53 : decode cX1_advise 53 = .ok (.if_icmp .ge 67, 3) := by decide +kernel
theorem dX1_advise_56 : decode cX1_advise 56 = .ok (.iload_n 3, 1) := by decide +kernel
theorem dX1_advise_57 : decode cX1_advise 57 = .ok (.iload 4, 2) := by decide +kernel
theorem dX1_advise_59 : decode cX1_advise 59 = .ok (.iload 5, 2) := by decide +kernel
theorem dX1_advise_61 : decode cX1_advise 61 = .ok (.invokestatic 63, 3) := by decide +kernel
theorem dX1_advise_64 : decode cX1_advise 64 = .ok (.istore 6, 2) := by decide +kernel
theorem dX1_advise_66 : decode cX1_advise 66 = .ok (.aload_n 0, 1) := by decide +kernel
theorem dX1_advise_67 : decode cX1_advise 67 = .ok (.getfield 26, 3) := by decide +kernel
theorem dX1_advise_70 : decode cX1_advise 70 = .ok (.iload 6, 2) := by decide +kernel
theorem dX1_advise_72 : decode cX1_advise 72 = .ok (.iaload, 1) := by decide +kernel
theorem dX1_advise_73 : decode cX1_advise 73 = .ok (.ifCond .le 12, 3) := by decide +kernel
theorem dX1_advise_76 : decode cX1_advise 76 = .ok (.aload_n 0, 1) := by decide +kernel
theorem dX1_advise_77 : decode cX1_advise 77 = .ok (.iload 6, 2) := by decide +kernel
theorem dX1_advise_79 : decode cX1_advise 79 = .ok (.invokevirtual 163, 3) := by decide +kernel
theorem dX1_advise_82 : decode cX1_advise 82 = .ok (.goto 4, 3) := by decide +kernel
theorem dX1_advise_85 : decode cX1_advise 85 = .ok (.iconst 0, 1) := by decide +kernel
theorem dX1_advise_86 : decode cX1_advise 86 = .ok (.istore 7, 2) := by decide +kernel
theorem dX1_advise_88 : decode cX1_advise 88 = .ok (.iload 7, 2) := by decide +kernel
theorem dX1_advise_90 : decode cX1_advise 90 = .ok (.iload_n 2, 1) := by decide +kernel
theorem dX1_advise_91 : decode cX1_advise 91 = .ok (.if_icmp .gt 6, 3) := by decide +kernel
theorem dX1_advise_94 : decode cX1_advise 94 = .ok (.goto 20, 3) := by decide +kernel
theorem dX1_advise_97 : decode cX1_advise 97 = .ok (.iload 7, 2) := by decide +kernel
theorem dX1_advise_99 : decode cX1_advise 99 = .ok (.istore_n 2, 1) := by decide +kernel
theorem dX1_advise_100 : decode cX1_advise 100 = .ok (.bipush 100, 2) := by decide +kernel
theorem dX1_advise_102 : decode cX1_advise 102 = .ok (.iload_n 3, 1) := by decide +kernel
theorem dX1_advise_103 : decode cX1_advise 103 = .ok (.imul, 1) := by decide +kernel
theorem dX1_advise_104 : decode cX1_advise 104 = .ok (.bipush 10, 2) := by decide +kernel
theorem dX1_advise_106 : decode cX1_advise 106 = .ok (.iload 4, 2) := by decide +kernel
theorem dX1_advise_108 : decode cX1_advise 108 = .ok (.imul, 1) := by decide +kernel
theorem dX1_advise_109 : decode cX1_advise 109 = .ok (.iadd, 1) := by decide +kernel
theorem dX1_advise_110 : decode cX1_advise 110 = .ok (.iload 5, 2) := by decide +kernel
theorem dX1_advise_112 : decode cX1_advise 112 = .ok (.iadd, 1) := by decide +kernel
theorem dX1_advise_113 : decode cX1_advise 113 = .ok (.istore_n 1, 1) := by decide +kernel
theorem dX1_advise_114 : decode cX1_advise 114 = .ok (.iinc 5 1, 3) := by decide +kernel
theorem dX1_advise_117 : decode cX1_advise 117 = .ok (.goto (-77), 3) := by decide +kernel
theorem dX1_advise_120 : decode cX1_advise 120 = .ok (.iinc 4 1, 3) := by decide +kernel
theorem dX1_advise_123 : decode cX1_advise 123 = .ok (.goto (-97), 3) := by decide +kernel
theorem dX1_advise_126 : decode cX1_advise 126 = .ok (.iinc 3 1, 3) := by decide +kernel
theorem dX1_advise_129 : decode cX1_advise 129 = .ok (.goto (-114), 3) := by decide +kernel
theorem dX1_advise_132 : decode cX1_advise 132 = .ok (.iload_n 1, 1) := by decide +kernel
theorem dX1_advise_133 : decode cX1_advise 133 = .ok (.ireturn, 1) := by decide +kernel
theorem dX1_mean_0 : decode cX1_mean 0 = .ok (.aload_n 0, 1) := by decide +kernel
theorem dX1_mean_1 : decode cX1_mean 1 = .ok (.iconst 0, 1) := by decide +kernel
theorem dX1_mean_2 : decode cX1_mean 2 = .ok (.putfield 44, 3) := by decide +kernel
theorem dX1_mean_5 : decode cX1_mean 5 = .ok (.aload_n 0, 1) := by decide +kernel
theorem dX1_mean_6 : decode cX1_mean 6 = .ok (.getfield 52, 3) := by decide +kernel
theorem dX1_mean_9 : decode cX1_mean 9 = .ok (.ifCond .ne 7, 3) := by decide +kernel
theorem dX1_mean_12 : decode cX1_mean 12 = .ok (.dconst 0, 1) := by decide +kernel
theorem dX1_mean_13 : decode cX1_mean 13 = .ok (.goto 15, 3) := by decide +kernel
theorem dX1_mean_16 : decode cX1_mean 16 = .ok (.aload_n 0, 1) := by decide +kernel
theorem dX1_mean_17 : decode cX1_mean 17 = .ok (.iconst 4, 1) := by decide +kernel
theorem dX1_mean_18 : decode cX1_mean 18 = .ok (.invokevirtual 154, 3) := by decide +kernel
theorem dX1_mean_21 : decode cX1_mean 21 = .ok (.i2d, 1) := by decide +kernel
theorem dX1_mean_22 : decode cX1_mean 22 = .ok (.aload_n 0, 1) := by decide +kernel
theorem dX1_mean_23 : decode cX1_mean 23 = .ok (.getfield 52, 3) := by decide +kernel
theorem dX1_mean_26 : decode cX1_mean 26 = .ok (.i2d, 1) := by decide +kernel
theorem dX1_mean_27 : decode cX1_mean 27 = .ok (.ddiv, 1) := by decide +kernel
theorem dX1_mean_28 : decode cX1_mean 28 = .ok (.dreturn, 1) := by decide +kernel
theorem dX1_digest_0 : decode cX1_digest 0 = .ok (.aload_n 0, 1) := by decide +kernel
theorem dX1_digest_1 : decode cX1_digest 1 = .ok (.iconst 0, 1) := by decide +kernel
theorem dX1_digest_2 : decode cX1_digest 2 = .ok (.putfield 44, 3) := by decide +kernel
theorem dX1_digest_5 : decode cX1_digest 5 = .ok (.ldc2_w 166, 3) := by decide +kernel
theorem dX1_digest_8 : decode cX1_digest 8 = .ok (.lstore_n 1, 1) := by decide +kernel
theorem dX1_digest_9 : decode cX1_digest 9 = .ok (.iconst 0, 1) := by decide +kernel
theorem dX1_digest_10 : decode cX1_digest 10 = .ok (.istore_n 3, 1) := by decide +kernel
theorem dX1_digest_11 : decode cX1_digest 11 = .ok (.iload_n 3, 1) := by decide +kernel
theorem dX1_digest_12 : decode cX1_digest 12 = .ok (.bipush 6, 2) := by decide +kernel
theorem dX1_digest_14 : decode cX1_digest 14 = .ok (.if_icmp .gt 22, 3) := by decide +kernel
theorem dX1_digest_17 : decode cX1_digest 17 = .ok (.lload_n 1, 1) := by decide +kernel
theorem dX1_digest_18 : decode cX1_digest 18 = .ok (.ldc2_w 168, 3) := by decide +kernel
theorem dX1_digest_21 : decode cX1_digest 21 = .ok (.lmul, 1) := by decide +kernel
theorem dX1_digest_22 : decode cX1_digest 22 = .ok (.aload_n 0, 1) := by decide +kernel
theorem dX1_digest_23 : decode cX1_digest 23 = .ok (.iload_n 3, 1) := by decide +kernel
theorem dX1_digest_24 : decode cX1_digest 24 = .ok (.invokevirtual 154, 3) := by decide +kernel
theorem dX1_digest_27 : decode cX1_digest 27 = .ok (.i2l, 1) := by decide +kernel
theorem dX1_digest_28 : decode cX1_digest 28 = .ok (.ladd, 1) := by decide +kernel
theorem dX1_digest_29 : decode cX1_digest 29 = .ok (.lstore_n 1, 1) := by decide +kernel
theorem dX1_digest_30 : decode cX1_digest 30 = .ok (.iinc 3 1, 3) := by decide +kernel
theorem dX1_digest_33 : decode cX1_digest 33 = .ok (.goto (-22), 3) := by decide +kernel
theorem dX1_digest_36 : decode cX1_digest 36 = .ok (.aload_n 0, 1) := by decide +kernel
theorem dX1_digest_37 : decode cX1_digest 37 = .ok (.getfield 9, 3) := by decide +kernel
theorem dX1_digest_40 : decode cX1_digest 40 = .ok (.astore_n 3, 1) := by decide +kernel
theorem dX1_digest_41 : decode cX1_digest 41 = .ok (.aload_n 3, 1) := by decide +kernel
theorem dX1_digest_42 : decode cX1_digest 42 = .ok (.arraylength, 1) := by decide +kernel
theorem dX1_digest_43 : decode cX1_digest 43 = .ok (.istore 4, 2) := by decide +kernel
theorem dX1_digest_45 : decode cX1_digest 45 = .ok (.iconst 0, 1) := by decide +kernel
theorem dX1_digest_46 : decode cX1_digest 46 = .ok (.istore 5, 2) := by decide +kernel
theorem dX1_digest_48 : decode cX1_digest 48 = .ok (.iload 5, 2) := by decide +kernel
theorem dX1_digest_50 : decode cX1_digest 50 = .ok (.iload 4, 2) := by decide +kernel
theorem dX1_digest_52 : decode cX1_digest 52 = .ok (.if_icmp .ge 33, 3) := by decide +kernel
theorem dX1_digest_55 : decode cX1_digest 55 = .ok (.aload_n 3, 1) := by decide +kernel
theorem dX1_digest_56 : decode cX1_digest 56 = .ok (.iload 5, 2) := by decide +kernel
theorem dX1_digest_58 : decode cX1_digest 58 = .ok (.baload, 1) := by decide +kernel
theorem dX1_digest_59 : decode cX1_digest 59 = .ok (.istore 6, 2) := by decide +kernel
theorem dX1_digest_61 : decode cX1_digest 61 = .ok (.lload_n 1, 1) := by decide +kernel
theorem dX1_digest_62 : decode cX1_digest 62 = .ok (.ldc2_w 168, 3) := by decide +kernel
theorem dX1_digest_65 : decode cX1_digest 65 = .ok (.lmul, 1) := by decide +kernel
theorem dX1_digest_66 : decode cX1_digest 66 = .ok (.iload 6, 2) := by decide +kernel
theorem dX1_digest_68 : decode cX1_digest 68 = .ok (.ifCond .eq 7, 3) := by decide +kernel
theorem dX1_digest_71 : decode cX1_digest 71 = .ok (.iconst 1, 1) := by decide +kernel
theorem dX1_digest_72 : decode cX1_digest 72 = .ok (.goto 4, 3) := by decide +kernel
theorem dX1_digest_75 : decode cX1_digest 75 = .ok (.iconst 0, 1) := by decide +kernel
theorem dX1_digest_76 : decode cX1_digest 76 = .ok (.i2l, 1) := by decide +kernel
theorem dX1_digest_77 : decode cX1_digest 77 = .ok (.ladd, 1) := by decide +kernel
theorem dX1_digest_78 : decode cX1_digest 78 = .ok (.lstore_n 1, 1) := by decide +kernel
theorem dX1_digest_79 : decode cX1_digest 79 = .ok (.iinc 5 1, 3) := by decide +kernel
theorem dX1_digest_82 : decode cX1_digest 82 = .ok (.goto (-34), 3) := by decide +kernel
theorem dX1_digest_85 : decode cX1_digest 85 = .ok (.iconst 0, 1) := by decide +kernel
theorem dX1_digest_86 : decode cX1_digest 86 = .ok (.istore_n 3, 1) := by decide +kernel
theorem dX1_digest_87 : decode cX1_digest 87 = .ok (.iload_n 3, 1) := by decide +kernel
theorem dX1_digest_88 : decode cX1_digest 88 = .ok (.aload_n 0, 1) := by decide +kernel
theorem dX1_digest_89 : decode cX1_digest 89 = .ok (.getfield 52, 3) := by decide +kernel
theorem dX1_digest_92 : decode cX1_digest 92 = .ok (.if_icmp .ge 141, 3) := by decide +kernel
theorem dX1_digest_95 : decode cX1_digest 95 = .ok (.iconst 0, 1) := by decide +kernel
theorem dX1_digest_96 : decode cX1_digest 96 = .ok (.istore 4, 2) := by decide +kernel
theorem dX1_digest_98 : decode cX1_digest 98 = .ok (.iload 4, 2) := by decide +kernel
theorem dX1_digest_100 : decode cX1_digest 100 = .ok (.bipush 6, 2) := by decide +kernel
theorem dX1_digest_102 : decode cX1_digest 102 = .ok (.if_icmp .gt 24, 3) := by decide +kernel
theorem dX1_digest_105 : decode cX1_digest 105 = .ok (.lload_n 1, 1) := by decide +kernel
theorem dX1_digest_106 : decode cX1_digest 106 = .ok (.ldc2_w 168, 3) := by decide +kernel
theorem dX1_digest_109 : decode cX1_digest 109 = .ok (.lmul, 1) := by decide +kernel
theorem dX1_digest_110 : decode cX1_digest 110 = .ok (.aload_n 0, 1) := by decide +kernel
theorem dX1_digest_111 : decode cX1_digest 111 = .ok (.iload_n 3, 1) := by decide +kernel
theorem dX1_digest_112 : decode cX1_digest 112 = .ok (.iload 4, 2) := by decide +kernel
theorem dX1_digest_114 : decode cX1_digest 114 = .ok (.invokevirtual 145, 3) := by decide +kernel
theorem dX1_digest_117 : decode cX1_digest 117 = .ok (.i2l, 1) := by decide +kernel
theorem dX1_digest_118 : decode cX1_digest 118 = .ok (.ladd, 1) := by decide +kernel
theorem dX1_digest_119 : decode cX1_digest 119 = .ok (.lstore_n 1, 1) := by decide +kernel
theorem dX1_digest_120 : decode cX1_digest 120 = .ok (.iinc 4 1, 3) := by decide +kernel
theorem dX1_digest_123 : decode cX1_digest 123 = .ok (.goto (-25), 3) := by decide +kernel
theorem dX1_digest_126 : decode cX1_digest 126 = .ok (.iconst 0, 1) := by decide +kernel
theorem dX1_digest_127 : decode cX1_digest 127 = .ok (.istore 4, 2) := by decide +kernel
theorem dX1_digest_129 : decode cX1_digest 129 = .ok (.iload 4, 2) := by decide +kernel
theorem dX1_digest_131 : decode cX1_digest 131 = .ok (.aload_n 0, 1) := by decide +kernel
theorem dX1_digest_132 : decode cX1_digest 132 = .ok (.getfield 13, 3) := by decide +kernel
theorem dX1_digest_135 : decode cX1_digest 135 = .ok (.iload_n 3, 1) := by decide +kernel
theorem dX1_digest_136 : decode cX1_digest 136 = .ok (.iaload, 1) := by decide +kernel
theorem dX1_digest_137 : decode cX1_digest 137 = .ok (.if_icmp .ge 90, 3) := by decide +kernel
theorem dX1_digest_140 : decode cX1_digest 140 = .ok (.lload_n 1, 1) := by decide +kernel
theorem dX1_digest_141 : decode cX1_digest 141 = .ok (.ldc2_w 168, 3) := by decide +kernel
theorem dX1_digest_144 : decode cX1_digest 144 = .ok (.lmul, 1) := by decide +kernel
theorem dX1_digest_145 : decode cX1_digest 145 = .ok (.aload_n 0, 1) := by decide +kernel
theorem dX1_digest_146 : decode cX1_digest 146 = .ok (.getfield 17, 3) := by decide +kernel
theorem dX1_digest_149 : decode cX1_digest 149 = .ok (.iconst 3, 1) := by decide +kernel
theorem dX1_digest_150 : decode cX1_digest 150 = .ok (.iload_n 3, 1) := by decide +kernel
theorem dX1_digest_151 : decode cX1_digest 151 = .ok (.imul, 1) := by decide +kernel
theorem dX1_digest_152 : decode cX1_digest 152 = .ok (.iload 4, 2) := by decide +kernel
theorem dX1_digest_154 : decode cX1_digest 154 = .ok (.iadd, 1) := by decide +kernel
theorem dX1_digest_155 : decode cX1_digest 155 = .ok (.iaload, 1) := by decide +kernel
theorem dX1_digest_156 : decode cX1_digest 156 = .ok (.i2l, 1) := by decide +kernel
theorem dX1_digest_157 : decode cX1_digest 157 = .ok (.ladd, 1) := by decide +kernel
theorem dX1_digest_158 : decode cX1_digest 158 = .ok (.lstore_n 1, 1) := by decide +kernel
theorem dX1_digest_159 : decode cX1_digest 159 = .ok (.iconst 0, 1) := by decide +kernel
theorem dX1_digest_160 : decode cX1_digest 160 = .ok (.istore 5, 2) := by decide +kernel
theorem dX1_digest_162 : decode cX1_digest 162 = .ok (.iload 5, 2) := by decide +kernel
theorem dX1_digest_164 : decode cX1_digest 164 = .ok (.aload_n 0, 1) := by decide +kernel
theorem dX1_digest_165 : decode cX1_digest 165 = .ok (.getfield 17, 3) := by decide +kernel
theorem dX1_digest_168 : decode cX1_digest 168 = .ok (.iconst 3, 1) := by decide +kernel
theorem dX1_digest_169 : decode cX1_digest 169 = .ok (.iload_n 3, 1) := by decide +kernel
theorem dX1_digest_170 : decode cX1_digest 170 = .ok (.imul, 1) := by decide +kernel
theorem dX1_digest_171 : decode cX1_digest 171 = .ok (.iload 4, 2) := by decide +kernel
theorem dX1_digest_173 : decode cX1_digest 173 = .ok (.iadd, 1) := by decide +kernel
theorem dX1_digest_174 : decode cX1_digest 174 = .ok (.iaload, 1) := by decide +kernel
theorem dX1_digest_175 : decode cX1_digest 175 = .ok (.if_icmp .ge 46, 3) := by decide +kernel
theorem dX1_digest_178 : decode cX1_digest 178 = .ok (.iconst 0, 1) := by decide +kernel
theorem dX1_digest_179 : decode cX1_digest 179 = .ok (.istore 6, 2) := by decide +kernel
theorem dX1_digest_181 : decode cX1_digest 181 = .ok (.iload 6, 2) := by decide +kernel
theorem dX1_digest_183 : decode cX1_digest 183 = .ok (.iconst 3, 1) := by decide +kernel
theorem dX1_digest_184 : decode cX1_digest 184 = .ok (.if_icmp .gt 31, 3) := by decide +kernel
theorem dX1_digest_187 : decode cX1_digest 187 = .ok (.lload_n 1, 1) := by decide +kernel
theorem dX1_digest_188 : decode cX1_digest 188 = .ok (.ldc2_w 168, 3) := by decide +kernel
theorem dX1_digest_191 : decode cX1_digest 191 = .ok (.lmul, 1) := by decide +kernel
theorem dX1_digest_192 : decode cX1_digest 192 = .ok (.aload_n 0, 1) := by decide +kernel
theorem dX1_digest_193 : decode cX1_digest 193 = .ok (.iload_n 3, 1) := by decide +kernel
theorem dX1_digest_194 : decode cX1_digest 194 = .ok (.iload 4, 2) := by decide +kernel
theorem dX1_digest_196 : decode cX1_digest 196 = .ok (.iload 5, 2) := by decide +kernel
theorem dX1_digest_198 : decode cX1_digest 198 = .ok (.invokestatic 63, 3) := by decide +kernel
theorem dX1_digest_201 : decode cX1_digest 201 = .ok (.iload 6, 2) := by decide +kernel
theorem dX1_digest_203 : decode cX1_digest 203 = .ok (.invokevirtual 148, 3) := by decide +kernel
theorem dX1_digest_206 : decode cX1_digest 206 = .ok (.i2l, 1) := by decide +kernel
theorem dX1_digest_207 : decode cX1_digest 207 = .ok (.ladd, 1) := by decide +kernel
theorem dX1_digest_208 : decode cX1_digest 208 = .ok (.lstore_n 1, 1) := by decide +kernel
theorem dX1_digest_209 : decode cX1_digest 209 = .ok (.iinc 6 1, 3) := by decide +kernel
theorem dX1_digest_212 : decode cX1_digest 212 = .ok (.goto (-31), 3) := by decide +kernel
theorem dX1_digest_215 : decode cX1_digest 215 = .ok (.iinc 5 1, 3) := by decide +kernel
theorem dX1_digest_218 : decode cX1_digest 218 = .ok (.goto (-56), 3) := by decide +kernel
theorem dX1_digest_221 : decode cX1_digest 221 = .ok (.iinc 4 1, 3) := by decide +kernel
theorem dX1_digest_224 : decode cX1_digest 224 = .ok (.goto (-95), 3) := by decide +kernel
theorem dX1_digest_227 : decode cX1_digest 227 = .ok (.iinc 3 1, 3) := by decide +kernel
theorem dX1_digest_230 : decode cX1_digest 230 = .ok (.goto (-143), 3) := by decide +kernel
theorem dX1_digest_233 : decode cX1_digest 233 = .ok (.lload_n 1, 1) := by decide +kernel
theorem dX1_digest_234 : decode cX1_digest 234 = .ok (.lreturn, 1) := by decide +kernel
theorem dJ9_max_7cf53_0 : decode cJ9_max_7cf53 0 = .ok (.iload_n 0, 1) := by decide +kernel
theorem dJ9_max_7cf53_1 : decode cJ9_max_7cf53 1 = .ok (.iload_n 1, 1) := by decide +kernel
theorem dJ9_max_7cf53_2 : decode cJ9_max_7cf53 2 = .ok (.if_icmp .lt 7, 3) := by decide +kernel
theorem dJ9_max_7cf53_5 : decode cJ9_max_7cf53 5 = .ok (.iload_n 0, 1) := by decide +kernel
theorem dJ9_max_7cf53_6 : decode cJ9_max_7cf53 6 = .ok (.goto 4, 3) := by decide +kernel
theorem dJ9_max_7cf53_9 : decode cJ9_max_7cf53 9 = .ok (.iload_n 1, 1) := by decide +kernel
theorem dJ9_max_7cf53_10 : decode cJ9_max_7cf53 10 = .ok (.ireturn, 1) := by decide +kernel
theorem dJ9_min_7cf53_0 : decode cJ9_min_7cf53 0 = .ok (.iload_n 0, 1) := by decide +kernel
theorem dJ9_min_7cf53_1 : decode cJ9_min_7cf53 1 = .ok (.iload_n 1, 1) := by decide +kernel
theorem dJ9_min_7cf53_2 : decode cJ9_min_7cf53 2 = .ok (.if_icmp .gt 7, 3) := by decide +kernel
theorem dJ9_min_7cf53_5 : decode cJ9_min_7cf53 5 = .ok (.iload_n 0, 1) := by decide +kernel
theorem dJ9_min_7cf53_6 : decode cJ9_min_7cf53 6 = .ok (.goto 4, 3) := by decide +kernel
theorem dJ9_min_7cf53_9 : decode cJ9_min_7cf53 9 = .ok (.iload_n 1, 1) := by decide +kernel
theorem dJ9_min_7cf53_10 : decode cJ9_min_7cf53 10 = .ok (.ireturn, 1) := by decide +kernel
theorem dJ7_fill_53178_0 : decode cJ7_fill_53178 0 = .ok (.iconst 0, 1) := by decide +kernel
theorem dJ7_fill_53178_1 : decode cJ7_fill_53178 1 = .ok (.istore_n 2, 1) := by decide +kernel
theorem dJ7_fill_53178_2 : decode cJ7_fill_53178 2 = .ok (.aload_n 0, 1) := by decide +kernel
theorem dJ7_fill_53178_3 : decode cJ7_fill_53178 3 = .ok (.arraylength, 1) := by decide +kernel
theorem dJ7_fill_53178_4 : decode cJ7_fill_53178 4 = .ok (.istore_n 3, 1) := by decide +kernel
theorem dJ7_fill_53178_5 : decode cJ7_fill_53178 5 = .ok (.iload_n 2, 1) := by decide +kernel
theorem dJ7_fill_53178_6 : decode cJ7_fill_53178 6 = .ok (.iload_n 3, 1) := by decide +kernel
theorem dJ7_fill_53178_7 : decode cJ7_fill_53178 7 = .ok (.if_icmp .ge 13, 3) := by decide +kernel
theorem dJ7_fill_53178_10 : decode cJ7_fill_53178 10 = .ok (.aload_n 0, 1) := by decide +kernel
theorem dJ7_fill_53178_11 : decode cJ7_fill_53178 11 = .ok (.iload_n 2, 1) := by decide +kernel
theorem dJ7_fill_53178_12 : decode cJ7_fill_53178 12 = .ok (.iload_n 1, 1) := by decide +kernel
theorem dJ7_fill_53178_13 : decode cJ7_fill_53178 13 = .ok (.iastore, 1) := by decide +kernel
theorem dJ7_fill_53178_14 : decode cJ7_fill_53178 14 = .ok (.iinc 2 1, 3) := by decide +kernel
theorem dJ7_fill_53178_17 : decode cJ7_fill_53178 17 = .ok (.goto (-12), 3) := by decide +kernel
theorem dJ7_fill_53178_20 : decode cJ7_fill_53178 20 = .ok (.return_, 1) := by decide +kernel
theorem dL_take_0 : decode cL_take 0 = .ok (.aload_n 3, 1) := by decide +kernel
theorem dL_take_1 : decode cL_take 1 = .ok (.iconst 0, 1) := by decide +kernel
theorem dL_take_2 : decode cL_take 2 = .ok (.aload_n 0, 1) := by decide +kernel
theorem dL_take_3 : decode cL_take 3 = .ok (.iload_n 1, 1) := by decide +kernel
theorem dL_take_4 : decode cL_take 4 = .ok (.iload_n 2, 1) := by decide +kernel
theorem dL_take_5 : decode cL_take 5 = .ok (.invokevirtual 7, 3) := by decide +kernel
theorem dL_take_8 : decode cL_take 8 = .ok (.ifCond .eq 7, 3) := by decide +kernel
theorem dL_take_11 : decode cL_take 11 = .ok (.lconst 1, 1) := by decide +kernel
theorem dL_take_12 : decode cL_take 12 = .ok (.goto 4, 3) := by decide +kernel
theorem dL_take_15 : decode cL_take 15 = .ok (.lconst 0, 1) := by decide +kernel
theorem dL_take_16 : decode cL_take 16 = .ok (.lastore, 1) := by decide +kernel
theorem dL_take_17 : decode cL_take 17 = .ok (.goto 7, 3) := by decide +kernel
theorem dL_take_20 : decode cL_take 20 = .ok (.astore 4, 2) := by decide +kernel
theorem dL_take_22 : decode cL_take 22 = .ok (.iconst 1, 1) := by decide +kernel
theorem dL_take_23 : decode cL_take 23 = .ok (.ireturn, 1) := by decide +kernel
theorem dL_take_24 : decode cL_take 24 = .ok (.iconst 0, 1) := by decide +kernel
theorem dL_take_25 : decode cL_take 25 = .ok (.ireturn, 1) := by decide +kernel
theorem dL_lemma_0 : decode cL_lemma 0 = .ok (.aload_n 1, 1) := by decide +kernel
theorem dL_lemma_1 : decode cL_lemma 1 = .ok (.iconst 0, 1) := by decide +kernel
theorem dL_lemma_2 : decode cL_lemma 2 = .ok (.aload_n 0, 1) := by decide +kernel
theorem dL_lemma_3 : decode cL_lemma 3 = .ok (.invokevirtual 15, 3) := by decide +kernel
theorem dL_lemma_6 : decode cL_lemma 6 = .ok (.i2l, 1) := by decide +kernel
theorem dL_lemma_7 : decode cL_lemma 7 = .ok (.lastore, 1) := by decide +kernel
theorem dL_lemma_8 : decode cL_lemma 8 = .ok (.goto 6, 3) := by decide +kernel
theorem dL_lemma_11 : decode cL_lemma 11 = .ok (.astore_n 2, 1) := by decide +kernel
theorem dL_lemma_12 : decode cL_lemma 12 = .ok (.iconst 1, 1) := by decide +kernel
theorem dL_lemma_13 : decode cL_lemma 13 = .ok (.ireturn, 1) := by decide +kernel
theorem dL_lemma_14 : decode cL_lemma 14 = .ok (.iconst 0, 1) := by decide +kernel
theorem dL_lemma_15 : decode cL_lemma 15 = .ok (.ireturn, 1) := by decide +kernel
theorem dL_proof_0 : decode cL_proof 0 = .ok (.aload_n 2, 1) := by decide +kernel
theorem dL_proof_1 : decode cL_proof 1 = .ok (.iconst 0, 1) := by decide +kernel
theorem dL_proof_2 : decode cL_proof 2 = .ok (.aload_n 0, 1) := by decide +kernel
theorem dL_proof_3 : decode cL_proof 3 = .ok (.iload_n 1, 1) := by decide +kernel
theorem dL_proof_4 : decode cL_proof 4 = .ok (.invokevirtual 21, 3) := by decide +kernel
theorem dL_proof_7 : decode cL_proof 7 = .ok (.i2l, 1) := by decide +kernel
theorem dL_proof_8 : decode cL_proof 8 = .ok (.lastore, 1) := by decide +kernel
theorem dL_proof_9 : decode cL_proof 9 = .ok (.goto 9, 3) := by decide +kernel
theorem dL_proof_12 : decode cL_proof 12 = .ok (.astore_n 3, 1) := by decide +kernel
theorem dL_proof_13 : decode cL_proof 13 = .ok (.iconst 1, 1) := by decide +kernel
theorem dL_proof_14 : decode cL_proof 14 = .ok (.ireturn, 1) := by decide +kernel
theorem dL_proof_15 : decode cL_proof 15 = .ok (.astore_n 3, 1) := by decide +kernel
theorem dL_proof_16 : decode cL_proof 16 = .ok (.iconst 2, 1) := by decide +kernel
theorem dL_proof_17 : decode cL_proof 17 = .ok (.ireturn, 1) := by decide +kernel
theorem dL_proof_18 : decode cL_proof 18 = .ok (.iconst 0, 1) := by decide +kernel
theorem dL_proof_19 : decode cL_proof 19 = .ok (.ireturn, 1) := by decide +kernel
theorem dL_cite_0 : decode cL_cite 0 = .ok (.aload 5, 2) := by decide +kernel
theorem dL_cite_2 : decode cL_cite 2 = .ok (.iconst 0, 1) := by decide +kernel
theorem dL_cite_3 : decode cL_cite 3 = .ok (.aload_n 0, 1) := by decide +kernel
theorem dL_cite_4 : decode cL_cite 4 = .ok (.iload_n 1, 1) := by decide +kernel
theorem dL_cite_5 : decode cL_cite 5 = .ok (.iload_n 2, 1) := by decide +kernel
theorem dL_cite_6 : decode cL_cite 6 = .ok (.iload_n 3, 1) := by decide +kernel
theorem dL_cite_7 : decode cL_cite 7 = .ok (.iload 4, 2) := by decide +kernel
theorem dL_cite_9 : decode cL_cite 9 = .ok (.invokevirtual 25, 3) := by decide +kernel
theorem dL_cite_12 : decode cL_cite 12 = .ok (.i2l, 1) := by decide +kernel
theorem dL_cite_13 : decode cL_cite 13 = .ok (.lastore, 1) := by decide +kernel
theorem dL_cite_14 : decode cL_cite 14 = .ok (.goto 15, 3) := by decide +kernel
theorem dL_cite_17 : decode cL_cite 17 = .ok (.astore 6, 2) := by decide +kernel
theorem dL_cite_19 : decode cL_cite 19 = .ok (.iconst 1, 1) := by decide +kernel
theorem dL_cite_20 : decode cL_cite 20 = .ok (.ireturn, 1) := by decide +kernel
theorem dL_cite_21 : decode cL_cite 21 = .ok (.astore 6, 2) := by decide +kernel
theorem dL_cite_23 : decode cL_cite 23 = .ok (.iconst 2, 1) := by decide +kernel
theorem dL_cite_24 : decode cL_cite 24 = .ok (.ireturn, 1) := by decide +kernel
theorem dL_cite_25 : decode cL_cite 25 = .ok (.astore 6, 2) := by decide +kernel
theorem dL_cite_27 : decode cL_cite 27 = .ok (.iconst 3, 1) := by decide +kernel
theorem dL_cite_28 : decode cL_cite 28 = .ok (.ireturn, 1) := by decide +kernel
theorem dL_cite_29 : decode cL_cite 29 = .ok (.iconst 0, 1) := by decide +kernel
theorem dL_cite_30 : decode cL_cite 30 = .ok (.ireturn, 1) := by decide +kernel
theorem dL_patch_0 : decode cL_patch 0 = .ok (.aload 5, 2) := by decide +kernel
theorem dL_patch_2 : decode cL_patch 2 = .ok (.iconst 0, 1) := by decide +kernel
theorem dL_patch_3 : decode cL_patch 3 = .ok (.aload_n 0, 1) := by decide +kernel
theorem dL_patch_4 : decode cL_patch 4 = .ok (.iload_n 1, 1) := by decide +kernel
theorem dL_patch_5 : decode cL_patch 5 = .ok (.iload_n 2, 1) := by decide +kernel
theorem dL_patch_6 : decode cL_patch 6 = .ok (.iload_n 3, 1) := by decide +kernel
theorem dL_patch_7 : decode cL_patch 7 = .ok (.iload 4, 2) := by decide +kernel
theorem dL_patch_9 : decode cL_patch 9 = .ok (.invokevirtual 31, 3) := by decide +kernel
theorem dL_patch_12 : decode cL_patch 12 = .ok (.i2l, 1) := by decide +kernel
theorem dL_patch_13 : decode cL_patch 13 = .ok (.lastore, 1) := by decide +kernel
theorem dL_patch_14 : decode cL_patch 14 = .ok (.goto 15, 3) := by decide +kernel
theorem dL_patch_17 : decode cL_patch 17 = .ok (.astore 6, 2) := by decide +kernel
theorem dL_patch_19 : decode cL_patch 19 = .ok (.iconst 1, 1) := by decide +kernel
theorem dL_patch_20 : decode cL_patch 20 = .ok (.ireturn, 1) := by decide +kernel
theorem dL_patch_21 : decode cL_patch 21 = .ok (.astore 6, 2) := by decide +kernel
theorem dL_patch_23 : decode cL_patch 23 = .ok (.iconst 2, 1) := by decide +kernel
theorem dL_patch_24 : decode cL_patch 24 = .ok (.ireturn, 1) := by decide +kernel
theorem dL_patch_25 : decode cL_patch 25 = .ok (.astore 6, 2) := by decide +kernel
theorem dL_patch_27 : decode cL_patch 27 = .ok (.iconst 3, 1) := by decide +kernel
theorem dL_patch_28 : decode cL_patch 28 = .ok (.ireturn, 1) := by decide +kernel
theorem dL_patch_29 : decode cL_patch 29 = .ok (.iconst 0, 1) := by decide +kernel
theorem dL_patch_30 : decode cL_patch 30 = .ok (.ireturn, 1) := by decide +kernel
theorem dL_withdraw_0 : decode cL_withdraw 0 = .ok (.aload 4, 2) := by decide +kernel
theorem dL_withdraw_2 : decode cL_withdraw 2 = .ok (.iconst 0, 1) := by decide +kernel
theorem dL_withdraw_3 : decode cL_withdraw 3 = .ok (.aload_n 0, 1) := by decide +kernel
theorem dL_withdraw_4 : decode cL_withdraw 4 = .ok (.iload_n 1, 1) := by decide +kernel
theorem dL_withdraw_5 : decode cL_withdraw 5 = .ok (.iload_n 2, 1) := by decide +kernel
theorem dL_withdraw_6 : decode cL_withdraw 6 = .ok (.iload_n 3, 1) := by decide +kernel
theorem dL_withdraw_7 : decode cL_withdraw 7 = .ok (.invokevirtual 34, 3) := by decide +kernel
theorem dL_withdraw_10 : decode cL_withdraw 10 = .ok (.ifCond .eq 7, 3) := by decide +kernel
theorem dL_withdraw_13 : decode cL_withdraw 13 = .ok (.lconst 1, 1) := by decide +kernel
theorem dL_withdraw_14 : decode cL_withdraw 14 = .ok (.goto 4, 3) := by decide +kernel
theorem dL_withdraw_17 : decode cL_withdraw 17 = .ok (.lconst 0, 1) := by decide +kernel
theorem dL_withdraw_18 : decode cL_withdraw 18 = .ok (.lastore, 1) := by decide +kernel
theorem dL_withdraw_19 : decode cL_withdraw 19 = .ok (.goto 7, 3) := by decide +kernel
theorem dL_withdraw_22 : decode cL_withdraw 22 = .ok (.astore 5, 2) := by decide +kernel
theorem dL_withdraw_24 : decode cL_withdraw 24 = .ok (.iconst 1, 1) := by decide +kernel
theorem dL_withdraw_25 : decode cL_withdraw 25 = .ok (.ireturn, 1) := by decide +kernel
theorem dL_withdraw_26 : decode cL_withdraw 26 = .ok (.iconst 0, 1) := by decide +kernel
theorem dL_withdraw_27 : decode cL_withdraw 27 = .ok (.ireturn, 1) := by decide +kernel
theorem dL_strike_0 : decode cL_strike 0 = .ok (.aload_n 3, 1) := by decide +kernel
theorem dL_strike_1 : decode cL_strike 1 = .ok (.iconst 0, 1) := by decide +kernel
theorem dL_strike_2 : decode cL_strike 2 = .ok (.aload_n 0, 1) := by decide +kernel
theorem dL_strike_3 : decode cL_strike 3 = .ok (.iload_n 1, 1) := by decide +kernel
theorem dL_strike_4 : decode cL_strike 4 = .ok (.iload_n 2, 1) := by decide +kernel
theorem dL_strike_5 : decode cL_strike 5 = .ok (.invokevirtual 38, 3) := by decide +kernel
theorem dL_strike_8 : decode cL_strike 8 = .ok (.i2l, 1) := by decide +kernel
theorem dL_strike_9 : decode cL_strike 9 = .ok (.lastore, 1) := by decide +kernel
theorem dL_strike_10 : decode cL_strike 10 = .ok (.goto 7, 3) := by decide +kernel
theorem dL_strike_13 : decode cL_strike 13 = .ok (.astore 4, 2) := by decide +kernel
theorem dL_strike_15 : decode cL_strike 15 = .ok (.iconst 1, 1) := by decide +kernel
theorem dL_strike_16 : decode cL_strike 16 = .ok (.ireturn, 1) := by decide +kernel
theorem dL_strike_17 : decode cL_strike 17 = .ok (.iconst 0, 1) := by decide +kernel
theorem dL_strike_18 : decode cL_strike 18 = .ok (.ireturn, 1) := by decide +kernel
theorem dL_told_0 : decode cL_told 0 = .ok (.aload_n 3, 1) := by decide +kernel
theorem dL_told_1 : decode cL_told 1 = .ok (.iconst 0, 1) := by decide +kernel
theorem dL_told_2 : decode cL_told 2 = .ok (.aload_n 0, 1) := by decide +kernel
theorem dL_told_3 : decode cL_told 3 = .ok (.iload_n 1, 1) := by decide +kernel
theorem dL_told_4 : decode cL_told 4 = .ok (.iload_n 2, 1) := by decide +kernel
theorem dL_told_5 : decode cL_told 5 = .ok (.invokevirtual 42, 3) := by decide +kernel
theorem dL_told_8 : decode cL_told 8 = .ok (.i2l, 1) := by decide +kernel
theorem dL_told_9 : decode cL_told 9 = .ok (.lastore, 1) := by decide +kernel
theorem dL_told_10 : decode cL_told 10 = .ok (.goto 7, 3) := by decide +kernel
theorem dL_told_13 : decode cL_told 13 = .ok (.astore 4, 2) := by decide +kernel
theorem dL_told_15 : decode cL_told 15 = .ok (.iconst 1, 1) := by decide +kernel
theorem dL_told_16 : decode cL_told 16 = .ok (.ireturn, 1) := by decide +kernel
theorem dL_told_17 : decode cL_told 17 = .ok (.iconst 0, 1) := by decide +kernel
theorem dL_told_18 : decode cL_told 18 = .ok (.ireturn, 1) := by decide +kernel
theorem dL_step_0 : decode cL_step 0 = .ok (.aload 5, 2) := by decide +kernel
theorem dL_step_2 : decode cL_step 2 = .ok (.iconst 0, 1) := by decide +kernel
theorem dL_step_3 : decode cL_step 3 = .ok (.aload_n 0, 1) := by decide +kernel
theorem dL_step_4 : decode cL_step 4 = .ok (.iload_n 1, 1) := by decide +kernel
theorem dL_step_5 : decode cL_step 5 = .ok (.iload_n 2, 1) := by decide +kernel
theorem dL_step_6 : decode cL_step 6 = .ok (.iload_n 3, 1) := by decide +kernel
theorem dL_step_7 : decode cL_step 7 = .ok (.iload 4, 2) := by decide +kernel
theorem dL_step_9 : decode cL_step 9 = .ok (.invokevirtual 45, 3) := by decide +kernel
theorem dL_step_12 : decode cL_step 12 = .ok (.i2l, 1) := by decide +kernel
theorem dL_step_13 : decode cL_step 13 = .ok (.lastore, 1) := by decide +kernel
theorem dL_step_14 : decode cL_step 14 = .ok (.goto 7, 3) := by decide +kernel
theorem dL_step_17 : decode cL_step 17 = .ok (.astore 6, 2) := by decide +kernel
theorem dL_step_19 : decode cL_step 19 = .ok (.iconst 1, 1) := by decide +kernel
theorem dL_step_20 : decode cL_step 20 = .ok (.ireturn, 1) := by decide +kernel
theorem dL_step_21 : decode cL_step 21 = .ok (.iconst 0, 1) := by decide +kernel
theorem dL_step_22 : decode cL_step 22 = .ok (.ireturn, 1) := by decide +kernel
theorem dL_about_0 : decode cL_about 0 = .ok (.aload 4, 2) := by decide +kernel
theorem dL_about_2 : decode cL_about 2 = .ok (.iconst 0, 1) := by decide +kernel
theorem dL_about_3 : decode cL_about 3 = .ok (.aload_n 0, 1) := by decide +kernel
theorem dL_about_4 : decode cL_about 4 = .ok (.iload_n 1, 1) := by decide +kernel
theorem dL_about_5 : decode cL_about 5 = .ok (.iload_n 2, 1) := by decide +kernel
theorem dL_about_6 : decode cL_about 6 = .ok (.iload_n 3, 1) := by decide +kernel
theorem dL_about_7 : decode cL_about 7 = .ok (.invokevirtual 48, 3) := by decide +kernel
theorem dL_about_10 : decode cL_about 10 = .ok (.i2l, 1) := by decide +kernel
theorem dL_about_11 : decode cL_about 11 = .ok (.lastore, 1) := by decide +kernel
theorem dL_about_12 : decode cL_about 12 = .ok (.goto 7, 3) := by decide +kernel
theorem dL_about_15 : decode cL_about 15 = .ok (.astore 5, 2) := by decide +kernel
theorem dL_about_17 : decode cL_about 17 = .ok (.iconst 1, 1) := by decide +kernel
theorem dL_about_18 : decode cL_about 18 = .ok (.ireturn, 1) := by decide +kernel
theorem dL_about_19 : decode cL_about 19 = .ok (.iconst 0, 1) := by decide +kernel
theorem dL_about_20 : decode cL_about 20 = .ok (.ireturn, 1) := by decide +kernel
theorem dL_count_0 : decode cL_count 0 = .ok (.aload_n 2, 1) := by decide +kernel
theorem dL_count_1 : decode cL_count 1 = .ok (.iconst 0, 1) := by decide +kernel
theorem dL_count_2 : decode cL_count 2 = .ok (.aload_n 0, 1) := by decide +kernel
theorem dL_count_3 : decode cL_count 3 = .ok (.iload_n 1, 1) := by decide +kernel
theorem dL_count_4 : decode cL_count 4 = .ok (.invokevirtual 52, 3) := by decide +kernel
theorem dL_count_7 : decode cL_count 7 = .ok (.i2l, 1) := by decide +kernel
theorem dL_count_8 : decode cL_count 8 = .ok (.lastore, 1) := by decide +kernel
theorem dL_count_9 : decode cL_count 9 = .ok (.goto 6, 3) := by decide +kernel
theorem dL_count_12 : decode cL_count 12 = .ok (.astore_n 3, 1) := by decide +kernel
theorem dL_count_13 : decode cL_count 13 = .ok (.iconst 1, 1) := by decide +kernel
theorem dL_count_14 : decode cL_count 14 = .ok (.ireturn, 1) := by decide +kernel
theorem dL_count_15 : decode cL_count 15 = .ok (.iconst 0, 1) := by decide +kernel
theorem dL_count_16 : decode cL_count 16 = .ok (.ireturn, 1) := by decide +kernel
theorem dL_best_0 : decode cL_best 0 = .ok (.aload_n 2, 1) := by decide +kernel
theorem dL_best_1 : decode cL_best 1 = .ok (.iconst 0, 1) := by decide +kernel
theorem dL_best_2 : decode cL_best 2 = .ok (.aload_n 0, 1) := by decide +kernel
theorem dL_best_3 : decode cL_best 3 = .ok (.iload_n 1, 1) := by decide +kernel
theorem dL_best_4 : decode cL_best 4 = .ok (.invokevirtual 55, 3) := by decide +kernel
theorem dL_best_7 : decode cL_best 7 = .ok (.i2l, 1) := by decide +kernel
theorem dL_best_8 : decode cL_best 8 = .ok (.lastore, 1) := by decide +kernel
theorem dL_best_9 : decode cL_best 9 = .ok (.goto 6, 3) := by decide +kernel
theorem dL_best_12 : decode cL_best 12 = .ok (.astore_n 3, 1) := by decide +kernel
theorem dL_best_13 : decode cL_best 13 = .ok (.iconst 1, 1) := by decide +kernel
theorem dL_best_14 : decode cL_best 14 = .ok (.ireturn, 1) := by decide +kernel
theorem dL_best_15 : decode cL_best 15 = .ok (.iconst 0, 1) := by decide +kernel
theorem dL_best_16 : decode cL_best 16 = .ok (.ireturn, 1) := by decide +kernel
theorem dL_without_0 : decode cL_without 0 = .ok (.aload_n 2, 1) := by decide +kernel
theorem dL_without_1 : decode cL_without 1 = .ok (.iconst 0, 1) := by decide +kernel
theorem dL_without_2 : decode cL_without 2 = .ok (.aload_n 0, 1) := by decide +kernel
theorem dL_without_3 : decode cL_without 3 = .ok (.iload_n 1, 1) := by decide +kernel
theorem dL_without_4 : decode cL_without 4 = .ok (.invokevirtual 58, 3) := by decide +kernel
theorem dL_without_7 : decode cL_without 7 = .ok (.i2l, 1) := by decide +kernel
theorem dL_without_8 : decode cL_without 8 = .ok (.lastore, 1) := by decide +kernel
theorem dL_without_9 : decode cL_without 9 = .ok (.goto 6, 3) := by decide +kernel
theorem dL_without_12 : decode cL_without 12 = .ok (.astore_n 3, 1) := by decide +kernel
theorem dL_without_13 : decode cL_without 13 = .ok (.iconst 1, 1) := by decide +kernel
theorem dL_without_14 : decode cL_without 14 = .ok (.ireturn, 1) := by decide +kernel
theorem dL_without_15 : decode cL_without 15 = .ok (.iconst 0, 1) := by decide +kernel
theorem dL_without_16 : decode cL_without 16 = .ok (.ireturn, 1) := by decide +kernel
theorem dL_needs_0 : decode cL_needs 0 = .ok (.aload_n 3, 1) := by decide +kernel
theorem dL_needs_1 : decode cL_needs 1 = .ok (.iconst 0, 1) := by decide +kernel
theorem dL_needs_2 : decode cL_needs 2 = .ok (.aload_n 0, 1) := by decide +kernel
theorem dL_needs_3 : decode cL_needs 3 = .ok (.iload_n 1, 1) := by decide +kernel
theorem dL_needs_4 : decode cL_needs 4 = .ok (.iload_n 2, 1) := by decide +kernel
theorem dL_needs_5 : decode cL_needs 5 = .ok (.invokevirtual 61, 3) := by decide +kernel
theorem dL_needs_8 : decode cL_needs 8 = .ok (.ifCond .eq 7, 3) := by decide +kernel
theorem dL_needs_11 : decode cL_needs 11 = .ok (.lconst 1, 1) := by decide +kernel
theorem dL_needs_12 : decode cL_needs 12 = .ok (.goto 4, 3) := by decide +kernel
theorem dL_needs_15 : decode cL_needs 15 = .ok (.lconst 0, 1) := by decide +kernel
theorem dL_needs_16 : decode cL_needs 16 = .ok (.lastore, 1) := by decide +kernel
theorem dL_needs_17 : decode cL_needs 17 = .ok (.goto 7, 3) := by decide +kernel
theorem dL_needs_20 : decode cL_needs 20 = .ok (.astore 4, 2) := by decide +kernel
theorem dL_needs_22 : decode cL_needs 22 = .ok (.iconst 1, 1) := by decide +kernel
theorem dL_needs_23 : decode cL_needs 23 = .ok (.ireturn, 1) := by decide +kernel
theorem dL_needs_24 : decode cL_needs 24 = .ok (.iconst 0, 1) := by decide +kernel
theorem dL_needs_25 : decode cL_needs 25 = .ok (.ireturn, 1) := by decide +kernel
theorem dL_law_0 : decode cL_law 0 = .ok (.new 8, 3) := by decide +kernel
theorem dL_law_3 : decode cL_law 3 = .ok (.dup, 1) := by decide +kernel
theorem dL_law_4 : decode cL_law 4 = .ok (.invokespecial 65, 3) := by decide +kernel
theorem dL_law_7 : decode cL_law 7 = .ok (.astore_n 1, 1) := by decide +kernel
theorem dL_law_8 : decode cL_law 8 = .ok (.new 66, 3) := by decide +kernel
theorem dL_law_11 : decode cL_law 11 = .ok (.dup, 1) := by decide +kernel
theorem dL_law_12 : decode cL_law 12 = .ok (.invokespecial 68, 3) := by decide +kernel
theorem dL_law_15 : decode cL_law 15 = .ok (.astore_n 2, 1) := by decide +kernel
theorem dL_law_16 : decode cL_law 16 = .ok (.iconst 1, 1) := by decide +kernel
theorem dL_law_17 : decode cL_law 17 = .ok (.newarray .long, 2) := by decide +kernel
theorem dL_law_19 : decode cL_law 19 = .ok (.astore_n 3, 1) := by decide +kernel
theorem dL_law_20 : decode cL_law 20 = .ok (.iconst 0, 1) := by decide +kernel
theorem dL_law_21 : decode cL_law 21 = .ok (.istore 4, 2) := by decide +kernel
theorem dL_law_23 : decode cL_law 23 = .ok (.iload 4, 2) := by decide +kernel
theorem dL_law_25 : decode cL_law 25 = .ok (.aload_n 0, 1) := by decide +kernel
theorem dL_law_26 : decode cL_law 26 = .ok (.arraylength, 1) := by decide +kernel
theorem dL_law_27 : decode cL_law 27 = .ok (.iconst 5, 1) := by decide +kernel
theorem dL_law_28 : decode cL_law 28 = .ok (.isub, 1) := by decide +kernel
theorem dL_law_29 : decode cL_law 29 = .ok (.if_icmp .gt 1178, 3) := by decide +kernel
theorem dL_law_32 : decode cL_law 32 = .ok (.aload_n 0, 1) := by decide +kernel
theorem dL_law_33 : decode cL_law 33 = .ok (.iload 4, 2) := by decide +kernel
theorem dL_law_35 : decode cL_law 35 = .ok (.iaload, 1) := by decide +kernel
theorem dL_law_36 : decode cL_law 36 = .ok (.bipush 31, 2) := by decide +kernel
theorem dL_law_38 : decode cL_law 38 = .ok (.iand, 1) := by decide +kernel
theorem dL_law_39 : decode cL_law 39 = .ok (.tableswitch 1162 0 16 #[81, 172, 216, 272, 364, 456, 543, 611, 679, 771, 851, 907, 963, 1019, 1094, 1107, 1148], 81) := by decide +kernel
theorem dL_law_120 : decode cL_law 120 = .ok (.aload_n 1, 1) := by decide +kernel
theorem dL_law_121 : decode cL_law 121 = .ok (.aload_n 0, 1) := by decide +kernel
theorem dL_law_122 : decode cL_law 122 = .ok (.iload 4, 2) := by decide +kernel
theorem dL_law_124 : decode cL_law 124 = .ok (.iconst 1, 1) := by decide +kernel
theorem dL_law_125 : decode cL_law 125 = .ok (.iadd, 1) := by decide +kernel
theorem dL_law_126 : decode cL_law 126 = .ok (.iaload, 1) := by decide +kernel
theorem dL_law_127 : decode cL_law 127 = .ok (.aload_n 0, 1) := by decide +kernel
theorem dL_law_128 : decode cL_law 128 = .ok (.iload 4, 2) := by decide +kernel
theorem dL_law_130 : decode cL_law 130 = .ok (.iconst 2, 1) := by decide +kernel
theorem dL_law_131 : decode cL_law 131 = .ok (.iadd, 1) := by decide +kernel
theorem dL_law_132 : decode cL_law 132 = .ok (.iaload, 1) := by decide +kernel
theorem dL_law_133 : decode cL_law 133 = .ok (.ifCond .eq 7, 3) := by decide +kernel
theorem dL_law_136 : decode cL_law 136 = .ok (.iconst 1, 1) := by decide +kernel
theorem dL_law_137 : decode cL_law 137 = .ok (.goto 4, 3) := by decide +kernel
theorem dL_law_140 : decode cL_law 140 = .ok (.iconst 0, 1) := by decide +kernel
theorem dL_law_141 : decode cL_law 141 = .ok (.aload_n 3, 1) := by decide +kernel
theorem dL_law_142 : decode cL_law 142 = .ok (.invokestatic 69, 3) := by decide +kernel
theorem dL_law_145 : decode cL_law 145 = .ok (.istore 5, 2) := by decide +kernel
theorem dL_law_147 : decode cL_law 147 = .ok (.aload_n 2, 1) := by decide +kernel
theorem dL_law_148 : decode cL_law 148 = .ok (.aload_n 0, 1) := by decide +kernel
theorem dL_law_149 : decode cL_law 149 = .ok (.iload 4, 2) := by decide +kernel
theorem dL_law_151 : decode cL_law 151 = .ok (.iconst 1, 1) := by decide +kernel
theorem dL_law_152 : decode cL_law 152 = .ok (.iadd, 1) := by decide +kernel
theorem dL_law_153 : decode cL_law 153 = .ok (.iaload, 1) := by decide +kernel
theorem dL_law_154 : decode cL_law 154 = .ok (.aload_n 0, 1) := by decide +kernel
theorem dL_law_155 : decode cL_law 155 = .ok (.iload 4, 2) := by decide +kernel
theorem dL_law_157 : decode cL_law 157 = .ok (.iconst 2, 1) := by decide +kernel
theorem dL_law_158 : decode cL_law 158 = .ok (.iadd, 1) := by decide +kernel
theorem dL_law_159 : decode cL_law 159 = .ok (.iaload, 1) := by decide +kernel
theorem dL_law_160 : decode cL_law 160 = .ok (.ifCond .eq 7, 3) := by decide +kernel
theorem dL_law_163 : decode cL_law 163 = .ok (.iconst 1, 1) := by decide +kernel
theorem dL_law_164 : decode cL_law 164 = .ok (.goto 4, 3) := by decide +kernel
theorem dL_law_167 : decode cL_law 167 = .ok (.iconst 0, 1) := by decide +kernel
theorem dL_law_168 : decode cL_law 168 = .ok (.invokevirtual 74, 3) := by decide +kernel
theorem dL_law_171 : decode cL_law 171 = .ok (.istore 6, 2) := by decide +kernel
theorem dL_law_173 : decode cL_law 173 = .ok (.aload_n 2, 1) := by decide +kernel
theorem dL_law_174 : decode cL_law 174 = .ok (.invokevirtual 75, 3) := by decide +kernel
theorem dL_law_177 : decode cL_law 177 = .ok (.iload 5, 2) := by decide +kernel
theorem dL_law_179 : decode cL_law 179 = .ok (.if_icmp .eq 5, 3) := by decide +kernel
theorem dL_law_182 : decode cL_law 182 = .ok (.iconst 0, 1) := by decide +kernel
theorem dL_law_183 : decode cL_law 183 = .ok (.ireturn, 1) := by decide +kernel
theorem dL_law_184 : decode cL_law 184 = .ok (.iload 5, 2) := by decide +kernel
theorem dL_law_186 : decode cL_law 186 = .ok (.ifCond .ne 22, 3) := by decide +kernel
theorem dL_law_189 : decode cL_law 189 = .ok (.aload_n 3, 1) := by decide +kernel
theorem dL_law_190 : decode cL_law 190 = .ok (.iconst 0, 1) := by decide +kernel
theorem dL_law_191 : decode cL_law 191 = .ok (.laload, 1) := by decide +kernel
theorem dL_law_192 : decode cL_law 192 = .ok (.iload 6, 2) := by decide +kernel
theorem dL_law_194 : decode cL_law 194 = .ok (.ifCond .eq 7, 3) := by decide +kernel
theorem dL_law_197 : decode cL_law 197 = .ok (.lconst 1, 1) := by decide +kernel
theorem dL_law_198 : decode cL_law 198 = .ok (.goto 4, 3) := by decide +kernel
theorem dL_law_201 : decode cL_law 201 = .ok (.lconst 0, 1) := by decide +kernel
theorem dL_law_202 : decode cL_law 202 = .ok (.lcmp, 1) := by decide +kernel
theorem dL_law_203 : decode cL_law 203 = .ok (.ifCond .eq 5, 3) := by decide +kernel
theorem dL_law_206 : decode cL_law 206 = .ok (.iconst 0, 1) := by decide +kernel
theorem dL_law_207 : decode cL_law 207 = .ok (.ireturn, 1) := by decide +kernel
theorem dL_law_208 : decode cL_law 208 = .ok (.goto 993, 3) := by decide +kernel
theorem dL_law_211 : decode cL_law 211 = .ok (.aload_n 1, 1) := by decide +kernel
theorem dL_law_212 : decode cL_law 212 = .ok (.aload_n 3, 1) := by decide +kernel
theorem dL_law_213 : decode cL_law 213 = .ok (.invokestatic 78, 3) := by decide +kernel
theorem dL_law_216 : decode cL_law 216 = .ok (.istore 5, 2) := by decide +kernel
theorem dL_law_218 : decode cL_law 218 = .ok (.aload_n 2, 1) := by decide +kernel
theorem dL_law_219 : decode cL_law 219 = .ok (.invokevirtual 81, 3) := by decide +kernel
theorem dL_law_222 : decode cL_law 222 = .ok (.istore 6, 2) := by decide +kernel
theorem dL_law_224 : decode cL_law 224 = .ok (.aload_n 2, 1) := by decide +kernel
theorem dL_law_225 : decode cL_law 225 = .ok (.invokevirtual 75, 3) := by decide +kernel
theorem dL_law_228 : decode cL_law 228 = .ok (.iload 5, 2) := by decide +kernel
theorem dL_law_230 : decode cL_law 230 = .ok (.if_icmp .eq 5, 3) := by decide +kernel
theorem dL_law_233 : decode cL_law 233 = .ok (.iconst 0, 1) := by decide +kernel
theorem dL_law_234 : decode cL_law 234 = .ok (.ireturn, 1) := by decide +kernel
theorem dL_law_235 : decode cL_law 235 = .ok (.iload 5, 2) := by decide +kernel
theorem dL_law_237 : decode cL_law 237 = .ok (.ifCond .ne 15, 3) := by decide +kernel
theorem dL_law_240 : decode cL_law 240 = .ok (.aload_n 3, 1) := by decide +kernel
theorem dL_law_241 : decode cL_law 241 = .ok (.iconst 0, 1) := by decide +kernel
theorem dL_law_242 : decode cL_law 242 = .ok (.laload, 1) := by decide +kernel
theorem dL_law_243 : decode cL_law 243 = .ok (.iload 6, 2) := by decide +kernel
theorem dL_law_245 : decode cL_law 245 = .ok (.i2l, 1) := by decide +kernel
theorem dL_law_246 : decode cL_law 246 = .ok (.lcmp, 1) := by decide +kernel
theorem dL_law_247 : decode cL_law 247 = .ok (.ifCond .eq 5, 3) := by decide +kernel
theorem dL_law_250 : decode cL_law 250 = .ok (.iconst 0, 1) := by decide +kernel
theorem dL_law_251 : decode cL_law 251 = .ok (.ireturn, 1) := by decide +kernel
theorem dL_law_252 : decode cL_law 252 = .ok (.goto 949, 3) := by decide +kernel
theorem dL_law_255 : decode cL_law 255 = .ok (.aload_n 1, 1) := by decide +kernel
theorem dL_law_256 : decode cL_law 256 = .ok (.aload_n 0, 1) := by decide +kernel
theorem dL_law_257 : decode cL_law 257 = .ok (.iload 4, 2) := by decide +kernel
theorem dL_law_259 : decode cL_law 259 = .ok (.iconst 1, 1) := by decide +kernel
theorem dL_law_260 : decode cL_law 260 = .ok (.iadd, 1) := by decide +kernel
theorem dL_law_261 : decode cL_law 261 = .ok (.iaload, 1) := by decide +kernel
theorem dL_law_262 : decode cL_law 262 = .ok (.aload_n 3, 1) := by decide +kernel
theorem dL_law_263 : decode cL_law 263 = .ok (.invokestatic 82, 3) := by decide +kernel
theorem dL_law_266 : decode cL_law 266 = .ok (.istore 5, 2) := by decide +kernel
theorem dL_law_268 : decode cL_law 268 = .ok (.aload_n 2, 1) := by decide +kernel
theorem dL_law_269 : decode cL_law 269 = .ok (.aload_n 0, 1) := by decide +kernel
theorem dL_law_270 : decode cL_law 270 = .ok (.iload 4, 2) := by decide +kernel
theorem dL_law_272 : decode cL_law 272 = .ok (.iconst 1, 1) := by decide +kernel
theorem dL_law_273 : decode cL_law 273 = .ok (.iadd, 1) := by decide +kernel
theorem dL_law_274 : decode cL_law 274 = .ok (.iaload, 1) := by decide +kernel
theorem dL_law_275 : decode cL_law 275 = .ok (.invokevirtual 85, 3) := by decide +kernel
theorem dL_law_278 : decode cL_law 278 = .ok (.istore 6, 2) := by decide +kernel
theorem dL_law_280 : decode cL_law 280 = .ok (.aload_n 2, 1) := by decide +kernel
theorem dL_law_281 : decode cL_law 281 = .ok (.invokevirtual 75, 3) := by decide +kernel
theorem dL_law_284 : decode cL_law 284 = .ok (.iload 5, 2) := by decide +kernel
theorem dL_law_286 : decode cL_law 286 = .ok (.if_icmp .eq 5, 3) := by decide +kernel
theorem dL_law_289 : decode cL_law 289 = .ok (.iconst 0, 1) := by decide +kernel
theorem dL_law_290 : decode cL_law 290 = .ok (.ireturn, 1) := by decide +kernel
theorem dL_law_291 : decode cL_law 291 = .ok (.iload 5, 2) := by decide +kernel
theorem dL_law_293 : decode cL_law 293 = .ok (.ifCond .ne 15, 3) := by decide +kernel
theorem dL_law_296 : decode cL_law 296 = .ok (.aload_n 3, 1) := by decide +kernel
theorem dL_law_297 : decode cL_law 297 = .ok (.iconst 0, 1) := by decide +kernel
theorem dL_law_298 : decode cL_law 298 = .ok (.laload, 1) := by decide +kernel
theorem dL_law_299 : decode cL_law 299 = .ok (.iload 6, 2) := by decide +kernel
theorem dL_law_301 : decode cL_law 301 = .ok (.i2l, 1) := by decide +kernel
theorem dL_law_302 : decode cL_law 302 = .ok (.lcmp, 1) := by decide +kernel
theorem dL_law_303 : decode cL_law 303 = .ok (.ifCond .eq 5, 3) := by decide +kernel
theorem dL_law_306 : decode cL_law 306 = .ok (.iconst 0, 1) := by decide +kernel
theorem dL_law_307 : decode cL_law 307 = .ok (.ireturn, 1) := by decide +kernel
theorem dL_law_308 : decode cL_law 308 = .ok (.goto 893, 3) := by decide +kernel
theorem dL_law_311 : decode cL_law 311 = .ok (.aload_n 1, 1) := by decide +kernel
theorem dL_law_312 : decode cL_law 312 = .ok (.aload_n 0, 1) := by decide +kernel
theorem dL_law_313 : decode cL_law 313 = .ok (.iload 4, 2) := by decide +kernel
theorem dL_law_315 : decode cL_law 315 = .ok (.iconst 1, 1) := by decide +kernel
theorem dL_law_316 : decode cL_law 316 = .ok (.iadd, 1) := by decide +kernel
theorem dL_law_317 : decode cL_law 317 = .ok (.iaload, 1) := by decide +kernel
theorem dL_law_318 : decode cL_law 318 = .ok (.aload_n 0, 1) := by decide +kernel
theorem dL_law_319 : decode cL_law 319 = .ok (.iload 4, 2) := by decide +kernel
theorem dL_law_321 : decode cL_law 321 = .ok (.iconst 2, 1) := by decide +kernel
theorem dL_law_322 : decode cL_law 322 = .ok (.iadd, 1) := by decide +kernel
theorem dL_law_323 : decode cL_law 323 = .ok (.iaload, 1) := by decide +kernel
theorem dL_law_324 : decode cL_law 324 = .ok (.aload_n 0, 1) := by decide +kernel
theorem dL_law_325 : decode cL_law 325 = .ok (.iload 4, 2) := by decide +kernel
theorem dL_law_327 : decode cL_law 327 = .ok (.iconst 3, 1) := by decide +kernel
theorem dL_law_328 : decode cL_law 328 = .ok (.iadd, 1) := by decide +kernel
theorem dL_law_329 : decode cL_law 329 = .ok (.iaload, 1) := by decide +kernel
theorem dL_law_330 : decode cL_law 330 = .ok (.aload_n 0, 1) := by decide +kernel
theorem dL_law_331 : decode cL_law 331 = .ok (.iload 4, 2) := by decide +kernel
theorem dL_law_333 : decode cL_law 333 = .ok (.iconst 4, 1) := by decide +kernel
theorem dL_law_334 : decode cL_law 334 = .ok (.iadd, 1) := by decide +kernel
theorem dL_law_335 : decode cL_law 335 = .ok (.iaload, 1) := by decide +kernel
theorem dL_law_336 : decode cL_law 336 = .ok (.aload_n 3, 1) := by decide +kernel
theorem dL_law_337 : decode cL_law 337 = .ok (.invokestatic 86, 3) := by decide +kernel
theorem dL_law_340 : decode cL_law 340 = .ok (.istore 5, 2) := by decide +kernel
theorem dL_law_342 : decode cL_law 342 = .ok (.aload_n 2, 1) := by decide +kernel
theorem dL_law_343 : decode cL_law 343 = .ok (.aload_n 0, 1) := by decide +kernel
theorem dL_law_344 : decode cL_law 344 = .ok (.iload 4, 2) := by decide +kernel
theorem dL_law_346 : decode cL_law 346 = .ok (.iconst 1, 1) := by decide +kernel
theorem dL_law_347 : decode cL_law 347 = .ok (.iadd, 1) := by decide +kernel
theorem dL_law_348 : decode cL_law 348 = .ok (.iaload, 1) := by decide +kernel
theorem dL_law_349 : decode cL_law 349 = .ok (.aload_n 0, 1) := by decide +kernel
theorem dL_law_350 : decode cL_law 350 = .ok (.iload 4, 2) := by decide +kernel
theorem dL_law_352 : decode cL_law 352 = .ok (.iconst 2, 1) := by decide +kernel
theorem dL_law_353 : decode cL_law 353 = .ok (.iadd, 1) := by decide +kernel
theorem dL_law_354 : decode cL_law 354 = .ok (.iaload, 1) := by decide +kernel
theorem dL_law_355 : decode cL_law 355 = .ok (.aload_n 0, 1) := by decide +kernel
theorem dL_law_356 : decode cL_law 356 = .ok (.iload 4, 2) := by decide +kernel
theorem dL_law_358 : decode cL_law 358 = .ok (.iconst 3, 1) := by decide +kernel
theorem dL_law_359 : decode cL_law 359 = .ok (.iadd, 1) := by decide +kernel
theorem dL_law_360 : decode cL_law 360 = .ok (.iaload, 1) := by decide +kernel
theorem dL_law_361 : decode cL_law 361 = .ok (.aload_n 0, 1) := by decide +kernel
theorem dL_law_362 : decode cL_law 362 = .ok (.iload 4, 2) := by decide +kernel
theorem dL_law_364 : decode cL_law 364 = .ok (.iconst 4, 1) := by decide +kernel
theorem dL_law_365 : decode cL_law 365 = .ok (.iadd, 1) := by decide +kernel
theorem dL_law_366 : decode cL_law 366 = .ok (.iaload, 1) := by decide +kernel
theorem dL_law_367 : decode cL_law 367 = .ok (.invokevirtual 89, 3) := by decide +kernel
theorem dL_law_370 : decode cL_law 370 = .ok (.istore 6, 2) := by decide +kernel
theorem dL_law_372 : decode cL_law 372 = .ok (.aload_n 2, 1) := by decide +kernel
theorem dL_law_373 : decode cL_law 373 = .ok (.invokevirtual 75, 3) := by decide +kernel
theorem dL_law_376 : decode cL_law 376 = .ok (.iload 5, 2) := by decide +kernel
theorem dL_law_378 : decode cL_law 378 = .ok (.if_icmp .eq 5, 3) := by decide +kernel
theorem dL_law_381 : decode cL_law 381 = .ok (.iconst 0, 1) := by decide +kernel
theorem dL_law_382 : decode cL_law 382 = .ok (.ireturn, 1) := by decide +kernel
theorem dL_law_383 : decode cL_law 383 = .ok (.iload 5, 2) := by decide +kernel
theorem dL_law_385 : decode cL_law 385 = .ok (.ifCond .ne 15, 3) := by decide +kernel
theorem dL_law_388 : decode cL_law 388 = .ok (.aload_n 3, 1) := by decide +kernel
theorem dL_law_389 : decode cL_law 389 = .ok (.iconst 0, 1) := by decide +kernel
theorem dL_law_390 : decode cL_law 390 = .ok (.laload, 1) := by decide +kernel
theorem dL_law_391 : decode cL_law 391 = .ok (.iload 6, 2) := by decide +kernel
theorem dL_law_393 : decode cL_law 393 = .ok (.i2l, 1) := by decide +kernel
theorem dL_law_394 : decode cL_law 394 = .ok (.lcmp, 1) := by decide +kernel
theorem dL_law_395 : decode cL_law 395 = .ok (.ifCond .eq 5, 3) := by decide +kernel
theorem dL_law_398 : decode cL_law 398 = .ok (.iconst 0, 1) := by decide +kernel
theorem dL_law_399 : decode cL_law 399 = .ok (.ireturn, 1) := by decide +kernel
theorem dL_law_400 : decode cL_law 400 = .ok (.goto 801, 3) := by decide +kernel
theorem dL_law_403 : decode cL_law 403 = .ok (.aload_n 1, 1) := by decide +kernel
theorem dL_law_404 : decode cL_law 404 = .ok (.aload_n 0, 1) := by decide +kernel
theorem dL_law_405 : decode cL_law 405 = .ok (.iload 4, 2) := by decide +kernel
theorem dL_law_407 : decode cL_law 407 = .ok (.iconst 1, 1) := by decide +kernel
theorem dL_law_408 : decode cL_law 408 = .ok (.iadd, 1) := by decide +kernel
theorem dL_law_409 : decode cL_law 409 = .ok (.iaload, 1) := by decide +kernel
theorem dL_law_410 : decode cL_law 410 = .ok (.aload_n 0, 1) := by decide +kernel
theorem dL_law_411 : decode cL_law 411 = .ok (.iload 4, 2) := by decide +kernel
theorem dL_law_413 : decode cL_law 413 = .ok (.iconst 2, 1) := by decide +kernel
theorem dL_law_414 : decode cL_law 414 = .ok (.iadd, 1) := by decide +kernel
theorem dL_law_415 : decode cL_law 415 = .ok (.iaload, 1) := by decide +kernel
theorem dL_law_416 : decode cL_law 416 = .ok (.aload_n 0, 1) := by decide +kernel
theorem dL_law_417 : decode cL_law 417 = .ok (.iload 4, 2) := by decide +kernel
theorem dL_law_419 : decode cL_law 419 = .ok (.iconst 3, 1) := by decide +kernel
theorem dL_law_420 : decode cL_law 420 = .ok (.iadd, 1) := by decide +kernel
theorem dL_law_421 : decode cL_law 421 = .ok (.iaload, 1) := by decide +kernel
theorem dL_law_422 : decode cL_law 422 = .ok (.aload_n 0, 1) := by decide +kernel
theorem dL_law_423 : decode cL_law 423 = .ok (.iload 4, 2) := by decide +kernel
theorem dL_law_425 : decode cL_law 425 = .ok (.iconst 4, 1) := by decide +kernel
theorem dL_law_426 : decode cL_law 426 = .ok (.iadd, 1) := by decide +kernel
theorem dL_law_427 : decode cL_law 427 = .ok (.iaload, 1) := by decide +kernel
theorem dL_law_428 : decode cL_law 428 = .ok (.aload_n 3, 1) := by decide +kernel
theorem dL_law_429 : decode cL_law 429 = .ok (.invokestatic 90, 3) := by decide +kernel
theorem dL_law_432 : decode cL_law 432 = .ok (.istore 5, 2) := by decide +kernel
theorem dL_law_434 : decode cL_law 434 = .ok (.aload_n 2, 1) := by decide +kernel
theorem dL_law_435 : decode cL_law 435 = .ok (.aload_n 0, 1) := by decide +kernel
theorem dL_law_436 : decode cL_law 436 = .ok (.iload 4, 2) := by decide +kernel
theorem dL_law_438 : decode cL_law 438 = .ok (.iconst 1, 1) := by decide +kernel
theorem dL_law_439 : decode cL_law 439 = .ok (.iadd, 1) := by decide +kernel
theorem dL_law_440 : decode cL_law 440 = .ok (.iaload, 1) := by decide +kernel
theorem dL_law_441 : decode cL_law 441 = .ok (.aload_n 0, 1) := by decide +kernel
theorem dL_law_442 : decode cL_law 442 = .ok (.iload 4, 2) := by decide +kernel
theorem dL_law_444 : decode cL_law 444 = .ok (.iconst 2, 1) := by decide +kernel
theorem dL_law_445 : decode cL_law 445 = .ok (.iadd, 1) := by decide +kernel
theorem dL_law_446 : decode cL_law 446 = .ok (.iaload, 1) := by decide +kernel
theorem dL_law_447 : decode cL_law 447 = .ok (.aload_n 0, 1) := by decide +kernel
theorem dL_law_448 : decode cL_law 448 = .ok (.iload 4, 2) := by decide +kernel
theorem dL_law_450 : decode cL_law 450 = .ok (.iconst 3, 1) := by decide +kernel
theorem dL_law_451 : decode cL_law 451 = .ok (.iadd, 1) := by decide +kernel
theorem dL_law_452 : decode cL_law 452 = .ok (.iaload, 1) := by decide +kernel
theorem dL_law_453 : decode cL_law 453 = .ok (.aload_n 0, 1) := by decide +kernel
theorem dL_law_454 : decode cL_law 454 = .ok (.iload 4, 2) := by decide +kernel
theorem dL_law_456 : decode cL_law 456 = .ok (.iconst 4, 1) := by decide +kernel
theorem dL_law_457 : decode cL_law 457 = .ok (.iadd, 1) := by decide +kernel
theorem dL_law_458 : decode cL_law 458 = .ok (.iaload, 1) := by decide +kernel
theorem dL_law_459 : decode cL_law 459 = .ok (.invokevirtual 92, 3) := by decide +kernel
theorem dL_law_462 : decode cL_law 462 = .ok (.istore 6, 2) := by decide +kernel
theorem dL_law_464 : decode cL_law 464 = .ok (.aload_n 2, 1) := by decide +kernel
theorem dL_law_465 : decode cL_law 465 = .ok (.invokevirtual 75, 3) := by decide +kernel
theorem dL_law_468 : decode cL_law 468 = .ok (.iload 5, 2) := by decide +kernel
theorem dL_law_470 : decode cL_law 470 = .ok (.if_icmp .eq 5, 3) := by decide +kernel
theorem dL_law_473 : decode cL_law 473 = .ok (.iconst 0, 1) := by decide +kernel
theorem dL_law_474 : decode cL_law 474 = .ok (.ireturn, 1) := by decide +kernel
theorem dL_law_475 : decode cL_law 475 = .ok (.iload 5, 2) := by decide +kernel
theorem dL_law_477 : decode cL_law 477 = .ok (.ifCond .ne 15, 3) := by decide +kernel
theorem dL_law_480 : decode cL_law 480 = .ok (.aload_n 3, 1) := by decide +kernel
theorem dL_law_481 : decode cL_law 481 = .ok (.iconst 0, 1) := by decide +kernel
theorem dL_law_482 : decode cL_law 482 = .ok (.laload, 1) := by decide +kernel
theorem dL_law_483 : decode cL_law 483 = .ok (.iload 6, 2) := by decide +kernel
theorem dL_law_485 : decode cL_law 485 = .ok (.i2l, 1) := by decide +kernel
theorem dL_law_486 : decode cL_law 486 = .ok (.lcmp, 1) := by decide +kernel
theorem dL_law_487 : decode cL_law 487 = .ok (.ifCond .eq 5, 3) := by decide +kernel
theorem dL_law_490 : decode cL_law 490 = .ok (.iconst 0, 1) := by decide +kernel
theorem dL_law_491 : decode cL_law 491 = .ok (.ireturn, 1) := by decide +kernel
theorem dL_law_492 : decode cL_law 492 = .ok (.goto 709, 3) := by decide +kernel
theorem dL_law_495 : decode cL_law 495 = .ok (.aload_n 1, 1) := by decide +kernel
theorem dL_law_496 : decode cL_law 496 = .ok (.aload_n 0, 1) := by decide +kernel
theorem dL_law_497 : decode cL_law 497 = .ok (.iload 4, 2) := by decide +kernel
theorem dL_law_499 : decode cL_law 499 = .ok (.iconst 1, 1) := by decide +kernel
theorem dL_law_500 : decode cL_law 500 = .ok (.iadd, 1) := by decide +kernel
theorem dL_law_501 : decode cL_law 501 = .ok (.iaload, 1) := by decide +kernel
theorem dL_law_502 : decode cL_law 502 = .ok (.aload_n 0, 1) := by decide +kernel
theorem dL_law_503 : decode cL_law 503 = .ok (.iload 4, 2) := by decide +kernel
theorem dL_law_505 : decode cL_law 505 = .ok (.iconst 2, 1) := by decide +kernel
theorem dL_law_506 : decode cL_law 506 = .ok (.iadd, 1) := by decide +kernel
theorem dL_law_507 : decode cL_law 507 = .ok (.iaload, 1) := by decide +kernel
theorem dL_law_508 : decode cL_law 508 = .ok (.aload_n 0, 1) := by decide +kernel
theorem dL_law_509 : decode cL_law 509 = .ok (.iload 4, 2) := by decide +kernel
theorem dL_law_511 : decode cL_law 511 = .ok (.iconst 3, 1) := by decide +kernel
theorem dL_law_512 : decode cL_law 512 = .ok (.iadd, 1) := by decide +kernel
theorem dL_law_513 : decode cL_law 513 = .ok (.iaload, 1) := by decide +kernel
theorem dL_law_514 : decode cL_law 514 = .ok (.aload_n 3, 1) := by decide +kernel
theorem dL_law_515 : decode cL_law 515 = .ok (.invokestatic 93, 3) := by decide +kernel
theorem dL_law_518 : decode cL_law 518 = .ok (.istore 5, 2) := by decide +kernel
theorem dL_law_520 : decode cL_law 520 = .ok (.aload_n 2, 1) := by decide +kernel
theorem dL_law_521 : decode cL_law 521 = .ok (.aload_n 0, 1) := by decide +kernel
theorem dL_law_522 : decode cL_law 522 = .ok (.iload 4, 2) := by decide +kernel
theorem dL_law_524 : decode cL_law 524 = .ok (.iconst 1, 1) := by decide +kernel
theorem dL_law_525 : decode cL_law 525 = .ok (.iadd, 1) := by decide +kernel
theorem dL_law_526 : decode cL_law 526 = .ok (.iaload, 1) := by decide +kernel
theorem dL_law_527 : decode cL_law 527 = .ok (.aload_n 0, 1) := by decide +kernel
theorem dL_law_528 : decode cL_law 528 = .ok (.iload 4, 2) := by decide +kernel
theorem dL_law_530 : decode cL_law 530 = .ok (.iconst 2, 1) := by decide +kernel
theorem dL_law_531 : decode cL_law 531 = .ok (.iadd, 1) := by decide +kernel
theorem dL_law_532 : decode cL_law 532 = .ok (.iaload, 1) := by decide +kernel
theorem dL_law_533 : decode cL_law 533 = .ok (.aload_n 0, 1) := by decide +kernel
theorem dL_law_534 : decode cL_law 534 = .ok (.iload 4, 2) := by decide +kernel
theorem dL_law_536 : decode cL_law 536 = .ok (.iconst 3, 1) := by decide +kernel
theorem dL_law_537 : decode cL_law 537 = .ok (.iadd, 1) := by decide +kernel
theorem dL_law_538 : decode cL_law 538 = .ok (.iaload, 1) := by decide +kernel
theorem dL_law_539 : decode cL_law 539 = .ok (.invokevirtual 96, 3) := by decide +kernel
theorem dL_law_542 : decode cL_law 542 = .ok (.istore 6, 2) := by decide +kernel
theorem dL_law_544 : decode cL_law 544 = .ok (.aload_n 2, 1) := by decide +kernel
theorem dL_law_545 : decode cL_law 545 = .ok (.invokevirtual 75, 3) := by decide +kernel
theorem dL_law_548 : decode cL_law 548 = .ok (.iload 5, 2) := by decide +kernel
theorem dL_law_550 : decode cL_law 550 = .ok (.if_icmp .eq 5, 3) := by decide +kernel
theorem dL_law_553 : decode cL_law 553 = .ok (.iconst 0, 1) := by decide +kernel
theorem dL_law_554 : decode cL_law 554 = .ok (.ireturn, 1) := by decide +kernel
theorem dL_law_555 : decode cL_law 555 = .ok (.iload 5, 2) := by decide +kernel
theorem dL_law_557 : decode cL_law 557 = .ok (.ifCond .ne 22, 3) := by decide +kernel
theorem dL_law_560 : decode cL_law 560 = .ok (.aload_n 3, 1) := by decide +kernel
theorem dL_law_561 : decode cL_law 561 = .ok (.iconst 0, 1) := by decide +kernel
theorem dL_law_562 : decode cL_law 562 = .ok (.laload, 1) := by decide +kernel
theorem dL_law_563 : decode cL_law 563 = .ok (.iload 6, 2) := by decide +kernel
theorem dL_law_565 : decode cL_law 565 = .ok (.ifCond .eq 7, 3) := by decide +kernel
theorem dL_law_568 : decode cL_law 568 = .ok (.lconst 1, 1) := by decide +kernel
theorem dL_law_569 : decode cL_law 569 = .ok (.goto 4, 3) := by decide +kernel
theorem dL_law_572 : decode cL_law 572 = .ok (.lconst 0, 1) := by decide +kernel
theorem dL_law_573 : decode cL_law 573 = .ok (.lcmp, 1) := by decide +kernel
theorem dL_law_574 : decode cL_law 574 = .ok (.ifCond .eq 5, 3) := by decide +kernel
theorem dL_law_577 : decode cL_law 577 = .ok (.iconst 0, 1) := by decide +kernel
theorem dL_law_578 : decode cL_law 578 = .ok (.ireturn, 1) := by decide +kernel
theorem dL_law_579 : decode cL_law 579 = .ok (.goto 622, 3) := by decide +kernel
theorem dL_law_582 : decode cL_law 582 = .ok (.aload_n 1, 1) := by decide +kernel
theorem dL_law_583 : decode cL_law 583 = .ok (.aload_n 0, 1) := by decide +kernel
theorem dL_law_584 : decode cL_law 584 = .ok (.iload 4, 2) := by decide +kernel
theorem dL_law_586 : decode cL_law 586 = .ok (.iconst 1, 1) := by decide +kernel
theorem dL_law_587 : decode cL_law 587 = .ok (.iadd, 1) := by decide +kernel
theorem dL_law_588 : decode cL_law 588 = .ok (.iaload, 1) := by decide +kernel
theorem dL_law_589 : decode cL_law 589 = .ok (.aload_n 0, 1) := by decide +kernel
theorem dL_law_590 : decode cL_law 590 = .ok (.iload 4, 2) := by decide +kernel
theorem dL_law_592 : decode cL_law 592 = .ok (.iconst 2, 1) := by decide +kernel
theorem dL_law_593 : decode cL_law 593 = .ok (.iadd, 1) := by decide +kernel
theorem dL_law_594 : decode cL_law 594 = .ok (.iaload, 1) := by decide +kernel
theorem dL_law_595 : decode cL_law 595 = .ok (.aload_n 3, 1) := by decide +kernel
theorem dL_law_596 : decode cL_law 596 = .ok (.invokestatic 97, 3) := by decide +kernel
theorem dL_law_599 : decode cL_law 599 = .ok (.istore 5, 2) := by decide +kernel
theorem dL_law_601 : decode cL_law 601 = .ok (.aload_n 2, 1) := by decide +kernel
theorem dL_law_602 : decode cL_law 602 = .ok (.aload_n 0, 1) := by decide +kernel
theorem dL_law_603 : decode cL_law 603 = .ok (.iload 4, 2) := by decide +kernel
theorem dL_law_605 : decode cL_law 605 = .ok (.iconst 1, 1) := by decide +kernel
theorem dL_law_606 : decode cL_law 606 = .ok (.iadd, 1) := by decide +kernel
theorem dL_law_607 : decode cL_law 607 = .ok (.iaload, 1) := by decide +kernel
theorem dL_law_608 : decode cL_law 608 = .ok (.aload_n 0, 1) := by decide +kernel
theorem dL_law_609 : decode cL_law 609 = .ok (.iload 4, 2) := by decide +kernel
theorem dL_law_611 : decode cL_law 611 = .ok (.iconst 2, 1) := by decide +kernel
theorem dL_law_612 : decode cL_law 612 = .ok (.iadd, 1) := by decide +kernel
theorem dL_law_613 : decode cL_law 613 = .ok (.iaload, 1) := by decide +kernel
theorem dL_law_614 : decode cL_law 614 = .ok (.invokevirtual 100, 3) := by decide +kernel
theorem dL_law_617 : decode cL_law 617 = .ok (.istore 6, 2) := by decide +kernel
theorem dL_law_619 : decode cL_law 619 = .ok (.aload_n 2, 1) := by decide +kernel
theorem dL_law_620 : decode cL_law 620 = .ok (.invokevirtual 75, 3) := by decide +kernel
theorem dL_law_623 : decode cL_law 623 = .ok (.iload 5, 2) := by decide +kernel
theorem dL_law_625 : decode cL_law 625 = .ok (.if_icmp .eq 5, 3) := by decide +kernel
theorem dL_law_628 : decode cL_law 628 = .ok (.iconst 0, 1) := by decide +kernel
theorem dL_law_629 : decode cL_law 629 = .ok (.ireturn, 1) := by decide +kernel
theorem dL_law_630 : decode cL_law 630 = .ok (.iload 5, 2) := by decide +kernel
theorem dL_law_632 : decode cL_law 632 = .ok (.ifCond .ne 15, 3) := by decide +kernel
theorem dL_law_635 : decode cL_law 635 = .ok (.aload_n 3, 1) := by decide +kernel
theorem dL_law_636 : decode cL_law 636 = .ok (.iconst 0, 1) := by decide +kernel
theorem dL_law_637 : decode cL_law 637 = .ok (.laload, 1) := by decide +kernel
theorem dL_law_638 : decode cL_law 638 = .ok (.iload 6, 2) := by decide +kernel
theorem dL_law_640 : decode cL_law 640 = .ok (.i2l, 1) := by decide +kernel
theorem dL_law_641 : decode cL_law 641 = .ok (.lcmp, 1) := by decide +kernel
theorem dL_law_642 : decode cL_law 642 = .ok (.ifCond .eq 5, 3) := by decide +kernel
theorem dL_law_645 : decode cL_law 645 = .ok (.iconst 0, 1) := by decide +kernel
theorem dL_law_646 : decode cL_law 646 = .ok (.ireturn, 1) := by decide +kernel
theorem dL_law_647 : decode cL_law 647 = .ok (.goto 554, 3) := by decide +kernel
theorem dL_law_650 : decode cL_law 650 = .ok (.aload_n 1, 1) := by decide +kernel
theorem dL_law_651 : decode cL_law 651 = .ok (.aload_n 0, 1) := by decide +kernel
theorem dL_law_652 : decode cL_law 652 = .ok (.iload 4, 2) := by decide +kernel
theorem dL_law_654 : decode cL_law 654 = .ok (.iconst 1, 1) := by decide +kernel
theorem dL_law_655 : decode cL_law 655 = .ok (.iadd, 1) := by decide +kernel
theorem dL_law_656 : decode cL_law 656 = .ok (.iaload, 1) := by decide +kernel
theorem dL_law_657 : decode cL_law 657 = .ok (.aload_n 0, 1) := by decide +kernel
theorem dL_law_658 : decode cL_law 658 = .ok (.iload 4, 2) := by decide +kernel
theorem dL_law_660 : decode cL_law 660 = .ok (.iconst 2, 1) := by decide +kernel
theorem dL_law_661 : decode cL_law 661 = .ok (.iadd, 1) := by decide +kernel
theorem dL_law_662 : decode cL_law 662 = .ok (.iaload, 1) := by decide +kernel
theorem dL_law_663 : decode cL_law 663 = .ok (.aload_n 3, 1) := by decide +kernel
theorem dL_law_664 : decode cL_law 664 = .ok (.invokestatic 101, 3) := by decide +kernel
theorem dL_law_667 : decode cL_law 667 = .ok (.istore 5, 2) := by decide +kernel
theorem dL_law_669 : decode cL_law 669 = .ok (.aload_n 2, 1) := by decide +kernel
theorem dL_law_670 : decode cL_law 670 = .ok (.aload_n 0, 1) := by decide +kernel
theorem dL_law_671 : decode cL_law 671 = .ok (.iload 4, 2) := by decide +kernel
theorem dL_law_673 : decode cL_law 673 = .ok (.iconst 1, 1) := by decide +kernel
theorem dL_law_674 : decode cL_law 674 = .ok (.iadd, 1) := by decide +kernel
theorem dL_law_675 : decode cL_law 675 = .ok (.iaload, 1) := by decide +kernel
theorem dL_law_676 : decode cL_law 676 = .ok (.aload_n 0, 1) := by decide +kernel
theorem dL_law_677 : decode cL_law 677 = .ok (.iload 4, 2) := by decide +kernel
theorem dL_law_679 : decode cL_law 679 = .ok (.iconst 2, 1) := by decide +kernel
theorem dL_law_680 : decode cL_law 680 = .ok (.iadd, 1) := by decide +kernel
theorem dL_law_681 : decode cL_law 681 = .ok (.iaload, 1) := by decide +kernel
theorem dL_law_682 : decode cL_law 682 = .ok (.invokevirtual 103, 3) := by decide +kernel
theorem dL_law_685 : decode cL_law 685 = .ok (.istore 6, 2) := by decide +kernel
theorem dL_law_687 : decode cL_law 687 = .ok (.aload_n 2, 1) := by decide +kernel
theorem dL_law_688 : decode cL_law 688 = .ok (.invokevirtual 75, 3) := by decide +kernel
theorem dL_law_691 : decode cL_law 691 = .ok (.iload 5, 2) := by decide +kernel
theorem dL_law_693 : decode cL_law 693 = .ok (.if_icmp .eq 5, 3) := by decide +kernel
theorem dL_law_696 : decode cL_law 696 = .ok (.iconst 0, 1) := by decide +kernel
theorem dL_law_697 : decode cL_law 697 = .ok (.ireturn, 1) := by decide +kernel
theorem dL_law_698 : decode cL_law 698 = .ok (.iload 5, 2) := by decide +kernel
theorem dL_law_700 : decode cL_law 700 = .ok (.ifCond .ne 15, 3) := by decide +kernel
theorem dL_law_703 : decode cL_law 703 = .ok (.aload_n 3, 1) := by decide +kernel
theorem dL_law_704 : decode cL_law 704 = .ok (.iconst 0, 1) := by decide +kernel
theorem dL_law_705 : decode cL_law 705 = .ok (.laload, 1) := by decide +kernel
theorem dL_law_706 : decode cL_law 706 = .ok (.iload 6, 2) := by decide +kernel
theorem dL_law_708 : decode cL_law 708 = .ok (.i2l, 1) := by decide +kernel
theorem dL_law_709 : decode cL_law 709 = .ok (.lcmp, 1) := by decide +kernel
theorem dL_law_710 : decode cL_law 710 = .ok (.ifCond .eq 5, 3) := by decide +kernel
theorem dL_law_713 : decode cL_law 713 = .ok (.iconst 0, 1) := by decide +kernel
theorem dL_law_714 : decode cL_law 714 = .ok (.ireturn, 1) := by decide +kernel
theorem dL_law_715 : decode cL_law 715 = .ok (.goto 486, 3) := by decide +kernel
theorem dL_law_718 : decode cL_law 718 = .ok (.aload_n 1, 1) := by decide +kernel
theorem dL_law_719 : decode cL_law 719 = .ok (.aload_n 0, 1) := by decide +kernel
theorem dL_law_720 : decode cL_law 720 = .ok (.iload 4, 2) := by decide +kernel
theorem dL_law_722 : decode cL_law 722 = .ok (.iconst 1, 1) := by decide +kernel
theorem dL_law_723 : decode cL_law 723 = .ok (.iadd, 1) := by decide +kernel
theorem dL_law_724 : decode cL_law 724 = .ok (.iaload, 1) := by decide +kernel
theorem dL_law_725 : decode cL_law 725 = .ok (.aload_n 0, 1) := by decide +kernel
theorem dL_law_726 : decode cL_law 726 = .ok (.iload 4, 2) := by decide +kernel
theorem dL_law_728 : decode cL_law 728 = .ok (.iconst 2, 1) := by decide +kernel
theorem dL_law_729 : decode cL_law 729 = .ok (.iadd, 1) := by decide +kernel
theorem dL_law_730 : decode cL_law 730 = .ok (.iaload, 1) := by decide +kernel
theorem dL_law_731 : decode cL_law 731 = .ok (.aload_n 0, 1) := by decide +kernel
theorem dL_law_732 : decode cL_law 732 = .ok (.iload 4, 2) := by decide +kernel
theorem dL_law_734 : decode cL_law 734 = .ok (.iconst 3, 1) := by decide +kernel
theorem dL_law_735 : decode cL_law 735 = .ok (.iadd, 1) := by decide +kernel
theorem dL_law_736 : decode cL_law 736 = .ok (.iaload, 1) := by decide +kernel
theorem dL_law_737 : decode cL_law 737 = .ok (.aload_n 0, 1) := by decide +kernel
theorem dL_law_738 : decode cL_law 738 = .ok (.iload 4, 2) := by decide +kernel
theorem dL_law_740 : decode cL_law 740 = .ok (.iconst 4, 1) := by decide +kernel
theorem dL_law_741 : decode cL_law 741 = .ok (.iadd, 1) := by decide +kernel
theorem dL_law_742 : decode cL_law 742 = .ok (.iaload, 1) := by decide +kernel
theorem dL_law_743 : decode cL_law 743 = .ok (.aload_n 3, 1) := by decide +kernel
theorem dL_law_744 : decode cL_law 744 = .ok (.invokestatic 104, 3) := by decide +kernel
theorem dL_law_747 : decode cL_law 747 = .ok (.istore 5, 2) := by decide +kernel
theorem dL_law_749 : decode cL_law 749 = .ok (.aload_n 2, 1) := by decide +kernel
theorem dL_law_750 : decode cL_law 750 = .ok (.aload_n 0, 1) := by decide +kernel
theorem dL_law_751 : decode cL_law 751 = .ok (.iload 4, 2) := by decide +kernel
theorem dL_law_753 : decode cL_law 753 = .ok (.iconst 1, 1) := by decide +kernel
theorem dL_law_754 : decode cL_law 754 = .ok (.iadd, 1) := by decide +kernel
theorem dL_law_755 : decode cL_law 755 = .ok (.iaload, 1) := by decide +kernel
theorem dL_law_756 : decode cL_law 756 = .ok (.aload_n 0, 1) := by decide +kernel
theorem dL_law_757 : decode cL_law 757 = .ok (.iload 4, 2) := by decide +kernel
theorem dL_law_759 : decode cL_law 759 = .ok (.iconst 2, 1) := by decide +kernel
theorem dL_law_760 : decode cL_law 760 = .ok (.iadd, 1) := by decide +kernel
theorem dL_law_761 : decode cL_law 761 = .ok (.iaload, 1) := by decide +kernel
theorem dL_law_762 : decode cL_law 762 = .ok (.aload_n 0, 1) := by decide +kernel
theorem dL_law_763 : decode cL_law 763 = .ok (.iload 4, 2) := by decide +kernel
theorem dL_law_765 : decode cL_law 765 = .ok (.iconst 3, 1) := by decide +kernel
theorem dL_law_766 : decode cL_law 766 = .ok (.iadd, 1) := by decide +kernel
theorem dL_law_767 : decode cL_law 767 = .ok (.iaload, 1) := by decide +kernel
theorem dL_law_768 : decode cL_law 768 = .ok (.aload_n 0, 1) := by decide +kernel
theorem dL_law_769 : decode cL_law 769 = .ok (.iload 4, 2) := by decide +kernel
theorem dL_law_771 : decode cL_law 771 = .ok (.iconst 4, 1) := by decide +kernel
theorem dL_law_772 : decode cL_law 772 = .ok (.iadd, 1) := by decide +kernel
theorem dL_law_773 : decode cL_law 773 = .ok (.iaload, 1) := by decide +kernel
theorem dL_law_774 : decode cL_law 774 = .ok (.invokevirtual 106, 3) := by decide +kernel
theorem dL_law_777 : decode cL_law 777 = .ok (.istore 6, 2) := by decide +kernel
theorem dL_law_779 : decode cL_law 779 = .ok (.aload_n 2, 1) := by decide +kernel
theorem dL_law_780 : decode cL_law 780 = .ok (.invokevirtual 75, 3) := by decide +kernel
theorem dL_law_783 : decode cL_law 783 = .ok (.iload 5, 2) := by decide +kernel
theorem dL_law_785 : decode cL_law 785 = .ok (.if_icmp .eq 5, 3) := by decide +kernel
theorem dL_law_788 : decode cL_law 788 = .ok (.iconst 0, 1) := by decide +kernel
theorem dL_law_789 : decode cL_law 789 = .ok (.ireturn, 1) := by decide +kernel
theorem dL_law_790 : decode cL_law 790 = .ok (.iload 5, 2) := by decide +kernel
theorem dL_law_792 : decode cL_law 792 = .ok (.ifCond .ne 15, 3) := by decide +kernel
theorem dL_law_795 : decode cL_law 795 = .ok (.aload_n 3, 1) := by decide +kernel
theorem dL_law_796 : decode cL_law 796 = .ok (.iconst 0, 1) := by decide +kernel
theorem dL_law_797 : decode cL_law 797 = .ok (.laload, 1) := by decide +kernel
theorem dL_law_798 : decode cL_law 798 = .ok (.iload 6, 2) := by decide +kernel
theorem dL_law_800 : decode cL_law 800 = .ok (.i2l, 1) := by decide +kernel
theorem dL_law_801 : decode cL_law 801 = .ok (.lcmp, 1) := by decide +kernel
theorem dL_law_802 : decode cL_law 802 = .ok (.ifCond .eq 5, 3) := by decide +kernel
theorem dL_law_805 : decode cL_law 805 = .ok (.iconst 0, 1) := by decide +kernel
theorem dL_law_806 : decode cL_law 806 = .ok (.ireturn, 1) := by decide +kernel
theorem dL_law_807 : decode cL_law 807 = .ok (.goto 394, 3) := by decide +kernel
theorem dL_law_810 : decode cL_law 810 = .ok (.aload_n 1, 1) := by decide +kernel
theorem dL_law_811 : decode cL_law 811 = .ok (.aload_n 0, 1) := by decide +kernel
theorem dL_law_812 : decode cL_law 812 = .ok (.iload 4, 2) := by decide +kernel
theorem dL_law_814 : decode cL_law 814 = .ok (.iconst 1, 1) := by decide +kernel
theorem dL_law_815 : decode cL_law 815 = .ok (.iadd, 1) := by decide +kernel
theorem dL_law_816 : decode cL_law 816 = .ok (.iaload, 1) := by decide +kernel
theorem dL_law_817 : decode cL_law 817 = .ok (.aload_n 0, 1) := by decide +kernel
theorem dL_law_818 : decode cL_law 818 = .ok (.iload 4, 2) := by decide +kernel
theorem dL_law_820 : decode cL_law 820 = .ok (.iconst 2, 1) := by decide +kernel
theorem dL_law_821 : decode cL_law 821 = .ok (.iadd, 1) := by decide +kernel
theorem dL_law_822 : decode cL_law 822 = .ok (.iaload, 1) := by decide +kernel
theorem dL_law_823 : decode cL_law 823 = .ok (.aload_n 0, 1) := by decide +kernel
theorem dL_law_824 : decode cL_law 824 = .ok (.iload 4, 2) := by decide +kernel
theorem dL_law_826 : decode cL_law 826 = .ok (.iconst 3, 1) := by decide +kernel
theorem dL_law_827 : decode cL_law 827 = .ok (.iadd, 1) := by decide +kernel
theorem dL_law_828 : decode cL_law 828 = .ok (.iaload, 1) := by decide +kernel
theorem dL_law_829 : decode cL_law 829 = .ok (.aload_n 3, 1) := by decide +kernel
theorem dL_law_830 : decode cL_law 830 = .ok (.invokestatic 107, 3) := by decide +kernel
theorem dL_law_833 : decode cL_law 833 = .ok (.istore 5, 2) := by decide +kernel
theorem dL_law_835 : decode cL_law 835 = .ok (.aload_n 2, 1) := by decide +kernel
theorem dL_law_836 : decode cL_law 836 = .ok (.aload_n 0, 1) := by decide +kernel
theorem dL_law_837 : decode cL_law 837 = .ok (.iload 4, 2) := by decide +kernel
theorem dL_law_839 : decode cL_law 839 = .ok (.iconst 1, 1) := by decide +kernel
theorem dL_law_840 : decode cL_law 840 = .ok (.iadd, 1) := by decide +kernel
theorem dL_law_841 : decode cL_law 841 = .ok (.iaload, 1) := by decide +kernel
theorem dL_law_842 : decode cL_law 842 = .ok (.aload_n 0, 1) := by decide +kernel
theorem dL_law_843 : decode cL_law 843 = .ok (.iload 4, 2) := by decide +kernel
theorem dL_law_845 : decode cL_law 845 = .ok (.iconst 2, 1) := by decide +kernel
theorem dL_law_846 : decode cL_law 846 = .ok (.iadd, 1) := by decide +kernel
theorem dL_law_847 : decode cL_law 847 = .ok (.iaload, 1) := by decide +kernel
theorem dL_law_848 : decode cL_law 848 = .ok (.aload_n 0, 1) := by decide +kernel
theorem dL_law_849 : decode cL_law 849 = .ok (.iload 4, 2) := by decide +kernel
theorem dL_law_851 : decode cL_law 851 = .ok (.iconst 3, 1) := by decide +kernel
theorem dL_law_852 : decode cL_law 852 = .ok (.iadd, 1) := by decide +kernel
theorem dL_law_853 : decode cL_law 853 = .ok (.iaload, 1) := by decide +kernel
theorem dL_law_854 : decode cL_law 854 = .ok (.invokevirtual 109, 3) := by decide +kernel
theorem dL_law_857 : decode cL_law 857 = .ok (.istore 6, 2) := by decide +kernel
theorem dL_law_859 : decode cL_law 859 = .ok (.aload_n 2, 1) := by decide +kernel
theorem dL_law_860 : decode cL_law 860 = .ok (.invokevirtual 75, 3) := by decide +kernel
theorem dL_law_863 : decode cL_law 863 = .ok (.iload 5, 2) := by decide +kernel
theorem dL_law_865 : decode cL_law 865 = .ok (.if_icmp .eq 5, 3) := by decide +kernel
theorem dL_law_868 : decode cL_law 868 = .ok (.iconst 0, 1) := by decide +kernel
theorem dL_law_869 : decode cL_law 869 = .ok (.ireturn, 1) := by decide +kernel
theorem dL_law_870 : decode cL_law 870 = .ok (.iload 5, 2) := by decide +kernel
theorem dL_law_872 : decode cL_law 872 = .ok (.ifCond .ne 15, 3) := by decide +kernel
theorem dL_law_875 : decode cL_law 875 = .ok (.aload_n 3, 1) := by decide +kernel
theorem dL_law_876 : decode cL_law 876 = .ok (.iconst 0, 1) := by decide +kernel
theorem dL_law_877 : decode cL_law 877 = .ok (.laload, 1) := by decide +kernel
theorem dL_law_878 : decode cL_law 878 = .ok (.iload 6, 2) := by decide +kernel
theorem dL_law_880 : decode cL_law 880 = .ok (.i2l, 1) := by decide +kernel
theorem dL_law_881 : decode cL_law 881 = .ok (.lcmp, 1) := by decide +kernel
theorem dL_law_882 : decode cL_law 882 = .ok (.ifCond .eq 5, 3) := by decide +kernel
theorem dL_law_885 : decode cL_law 885 = .ok (.iconst 0, 1) := by decide +kernel
theorem dL_law_886 : decode cL_law 886 = .ok (.ireturn, 1) := by decide +kernel
theorem dL_law_887 : decode cL_law 887 = .ok (.goto 314, 3) := by decide +kernel
theorem dL_law_890 : decode cL_law 890 = .ok (.aload_n 1, 1) := by decide +kernel
theorem dL_law_891 : decode cL_law 891 = .ok (.aload_n 0, 1) := by decide +kernel
theorem dL_law_892 : decode cL_law 892 = .ok (.iload 4, 2) := by decide +kernel
theorem dL_law_894 : decode cL_law 894 = .ok (.iconst 1, 1) := by decide +kernel
theorem dL_law_895 : decode cL_law 895 = .ok (.iadd, 1) := by decide +kernel
theorem dL_law_896 : decode cL_law 896 = .ok (.iaload, 1) := by decide +kernel
theorem dL_law_897 : decode cL_law 897 = .ok (.aload_n 3, 1) := by decide +kernel
theorem dL_law_898 : decode cL_law 898 = .ok (.invokestatic 110, 3) := by decide +kernel
theorem dL_law_901 : decode cL_law 901 = .ok (.istore 5, 2) := by decide +kernel
theorem dL_law_903 : decode cL_law 903 = .ok (.aload_n 2, 1) := by decide +kernel
theorem dL_law_904 : decode cL_law 904 = .ok (.aload_n 0, 1) := by decide +kernel
theorem dL_law_905 : decode cL_law 905 = .ok (.iload 4, 2) := by decide +kernel
theorem dL_law_907 : decode cL_law 907 = .ok (.iconst 1, 1) := by decide +kernel
theorem dL_law_908 : decode cL_law 908 = .ok (.iadd, 1) := by decide +kernel
theorem dL_law_909 : decode cL_law 909 = .ok (.iaload, 1) := by decide +kernel
theorem dL_law_910 : decode cL_law 910 = .ok (.invokevirtual 112, 3) := by decide +kernel
theorem dL_law_913 : decode cL_law 913 = .ok (.istore 6, 2) := by decide +kernel
theorem dL_law_915 : decode cL_law 915 = .ok (.aload_n 2, 1) := by decide +kernel
theorem dL_law_916 : decode cL_law 916 = .ok (.invokevirtual 75, 3) := by decide +kernel
theorem dL_law_919 : decode cL_law 919 = .ok (.iload 5, 2) := by decide +kernel
theorem dL_law_921 : decode cL_law 921 = .ok (.if_icmp .eq 5, 3) := by decide +kernel
theorem dL_law_924 : decode cL_law 924 = .ok (.iconst 0, 1) := by decide +kernel
theorem dL_law_925 : decode cL_law 925 = .ok (.ireturn, 1) := by decide +kernel
theorem dL_law_926 : decode cL_law 926 = .ok (.iload 5, 2) := by decide +kernel
theorem dL_law_928 : decode cL_law 928 = .ok (.ifCond .ne 15, 3) := by decide +kernel
theorem dL_law_931 : decode cL_law 931 = .ok (.aload_n 3, 1) := by decide +kernel
theorem dL_law_932 : decode cL_law 932 = .ok (.iconst 0, 1) := by decide +kernel
theorem dL_law_933 : decode cL_law 933 = .ok (.laload, 1) := by decide +kernel
theorem dL_law_934 : decode cL_law 934 = .ok (.iload 6, 2) := by decide +kernel
theorem dL_law_936 : decode cL_law 936 = .ok (.i2l, 1) := by decide +kernel
theorem dL_law_937 : decode cL_law 937 = .ok (.lcmp, 1) := by decide +kernel
theorem dL_law_938 : decode cL_law 938 = .ok (.ifCond .eq 5, 3) := by decide +kernel
theorem dL_law_941 : decode cL_law 941 = .ok (.iconst 0, 1) := by decide +kernel
theorem dL_law_942 : decode cL_law 942 = .ok (.ireturn, 1) := by decide +kernel
theorem dL_law_943 : decode cL_law 943 = .ok (.goto 258, 3) := by decide +kernel
theorem dL_law_946 : decode cL_law 946 = .ok (.aload_n 1, 1) := by decide +kernel
theorem dL_law_947 : decode cL_law 947 = .ok (.aload_n 0, 1) := by decide +kernel
theorem dL_law_948 : decode cL_law 948 = .ok (.iload 4, 2) := by decide +kernel
theorem dL_law_950 : decode cL_law 950 = .ok (.iconst 1, 1) := by decide +kernel
theorem dL_law_951 : decode cL_law 951 = .ok (.iadd, 1) := by decide +kernel
theorem dL_law_952 : decode cL_law 952 = .ok (.iaload, 1) := by decide +kernel
theorem dL_law_953 : decode cL_law 953 = .ok (.aload_n 3, 1) := by decide +kernel
theorem dL_law_954 : decode cL_law 954 = .ok (.invokestatic 113, 3) := by decide +kernel
theorem dL_law_957 : decode cL_law 957 = .ok (.istore 5, 2) := by decide +kernel
theorem dL_law_959 : decode cL_law 959 = .ok (.aload_n 2, 1) := by decide +kernel
theorem dL_law_960 : decode cL_law 960 = .ok (.aload_n 0, 1) := by decide +kernel
theorem dL_law_961 : decode cL_law 961 = .ok (.iload 4, 2) := by decide +kernel
theorem dL_law_963 : decode cL_law 963 = .ok (.iconst 1, 1) := by decide +kernel
theorem dL_law_964 : decode cL_law 964 = .ok (.iadd, 1) := by decide +kernel
theorem dL_law_965 : decode cL_law 965 = .ok (.iaload, 1) := by decide +kernel
theorem dL_law_966 : decode cL_law 966 = .ok (.invokevirtual 115, 3) := by decide +kernel
theorem dL_law_969 : decode cL_law 969 = .ok (.istore 6, 2) := by decide +kernel
theorem dL_law_971 : decode cL_law 971 = .ok (.aload_n 2, 1) := by decide +kernel
theorem dL_law_972 : decode cL_law 972 = .ok (.invokevirtual 75, 3) := by decide +kernel
theorem dL_law_975 : decode cL_law 975 = .ok (.iload 5, 2) := by decide +kernel
theorem dL_law_977 : decode cL_law 977 = .ok (.if_icmp .eq 5, 3) := by decide +kernel
theorem dL_law_980 : decode cL_law 980 = .ok (.iconst 0, 1) := by decide +kernel
theorem dL_law_981 : decode cL_law 981 = .ok (.ireturn, 1) := by decide +kernel
theorem dL_law_982 : decode cL_law 982 = .ok (.iload 5, 2) := by decide +kernel
theorem dL_law_984 : decode cL_law 984 = .ok (.ifCond .ne 15, 3) := by decide +kernel
theorem dL_law_987 : decode cL_law 987 = .ok (.aload_n 3, 1) := by decide +kernel
theorem dL_law_988 : decode cL_law 988 = .ok (.iconst 0, 1) := by decide +kernel
theorem dL_law_989 : decode cL_law 989 = .ok (.laload, 1) := by decide +kernel
theorem dL_law_990 : decode cL_law 990 = .ok (.iload 6, 2) := by decide +kernel
theorem dL_law_992 : decode cL_law 992 = .ok (.i2l, 1) := by decide +kernel
theorem dL_law_993 : decode cL_law 993 = .ok (.lcmp, 1) := by decide +kernel
theorem dL_law_994 : decode cL_law 994 = .ok (.ifCond .eq 5, 3) := by decide +kernel
theorem dL_law_997 : decode cL_law 997 = .ok (.iconst 0, 1) := by decide +kernel
theorem dL_law_998 : decode cL_law 998 = .ok (.ireturn, 1) := by decide +kernel
theorem dL_law_999 : decode cL_law 999 = .ok (.goto 202, 3) := by decide +kernel
theorem dL_law_1002 : decode cL_law 1002 = .ok (.aload_n 1, 1) := by decide +kernel
theorem dL_law_1003 : decode cL_law 1003 = .ok (.aload_n 0, 1) := by decide +kernel
theorem dL_law_1004 : decode cL_law 1004 = .ok (.iload 4, 2) := by decide +kernel
theorem dL_law_1006 : decode cL_law 1006 = .ok (.iconst 1, 1) := by decide +kernel
theorem dL_law_1007 : decode cL_law 1007 = .ok (.iadd, 1) := by decide +kernel
theorem dL_law_1008 : decode cL_law 1008 = .ok (.iaload, 1) := by decide +kernel
theorem dL_law_1009 : decode cL_law 1009 = .ok (.aload_n 3, 1) := by decide +kernel
theorem dL_law_1010 : decode cL_law 1010 = .ok (.invokestatic 116, 3) := by decide +kernel
theorem dL_law_1013 : decode cL_law 1013 = .ok (.istore 5, 2) := by decide +kernel
theorem dL_law_1015 : decode cL_law 1015 = .ok (.aload_n 2, 1) := by decide +kernel
theorem dL_law_1016 : decode cL_law 1016 = .ok (.aload_n 0, 1) := by decide +kernel
theorem dL_law_1017 : decode cL_law 1017 = .ok (.iload 4, 2) := by decide +kernel
theorem dL_law_1019 : decode cL_law 1019 = .ok (.iconst 1, 1) := by decide +kernel
theorem dL_law_1020 : decode cL_law 1020 = .ok (.iadd, 1) := by decide +kernel
theorem dL_law_1021 : decode cL_law 1021 = .ok (.iaload, 1) := by decide +kernel
theorem dL_law_1022 : decode cL_law 1022 = .ok (.invokevirtual 118, 3) := by decide +kernel
theorem dL_law_1025 : decode cL_law 1025 = .ok (.istore 6, 2) := by decide +kernel
theorem dL_law_1027 : decode cL_law 1027 = .ok (.aload_n 2, 1) := by decide +kernel
theorem dL_law_1028 : decode cL_law 1028 = .ok (.invokevirtual 75, 3) := by decide +kernel
theorem dL_law_1031 : decode cL_law 1031 = .ok (.iload 5, 2) := by decide +kernel
theorem dL_law_1033 : decode cL_law 1033 = .ok (.if_icmp .eq 5, 3) := by decide +kernel
theorem dL_law_1036 : decode cL_law 1036 = .ok (.iconst 0, 1) := by decide +kernel
theorem dL_law_1037 : decode cL_law 1037 = .ok (.ireturn, 1) := by decide +kernel
theorem dL_law_1038 : decode cL_law 1038 = .ok (.iload 5, 2) := by decide +kernel
theorem dL_law_1040 : decode cL_law 1040 = .ok (.ifCond .ne 15, 3) := by decide +kernel
theorem dL_law_1043 : decode cL_law 1043 = .ok (.aload_n 3, 1) := by decide +kernel
theorem dL_law_1044 : decode cL_law 1044 = .ok (.iconst 0, 1) := by decide +kernel
theorem dL_law_1045 : decode cL_law 1045 = .ok (.laload, 1) := by decide +kernel
theorem dL_law_1046 : decode cL_law 1046 = .ok (.iload 6, 2) := by decide +kernel
theorem dL_law_1048 : decode cL_law 1048 = .ok (.i2l, 1) := by decide +kernel
theorem dL_law_1049 : decode cL_law 1049 = .ok (.lcmp, 1) := by decide +kernel
theorem dL_law_1050 : decode cL_law 1050 = .ok (.ifCond .eq 5, 3) := by decide +kernel
theorem dL_law_1053 : decode cL_law 1053 = .ok (.iconst 0, 1) := by decide +kernel
theorem dL_law_1054 : decode cL_law 1054 = .ok (.ireturn, 1) := by decide +kernel
theorem dL_law_1055 : decode cL_law 1055 = .ok (.goto 146, 3) := by decide +kernel
theorem dL_law_1058 : decode cL_law 1058 = .ok (.aload_n 1, 1) := by decide +kernel
theorem dL_law_1059 : decode cL_law 1059 = .ok (.aload_n 0, 1) := by decide +kernel
theorem dL_law_1060 : decode cL_law 1060 = .ok (.iload 4, 2) := by decide +kernel
theorem dL_law_1062 : decode cL_law 1062 = .ok (.iconst 1, 1) := by decide +kernel
theorem dL_law_1063 : decode cL_law 1063 = .ok (.iadd, 1) := by decide +kernel
theorem dL_law_1064 : decode cL_law 1064 = .ok (.iaload, 1) := by decide +kernel
theorem dL_law_1065 : decode cL_law 1065 = .ok (.aload_n 0, 1) := by decide +kernel
theorem dL_law_1066 : decode cL_law 1066 = .ok (.iload 4, 2) := by decide +kernel
theorem dL_law_1068 : decode cL_law 1068 = .ok (.iconst 2, 1) := by decide +kernel
theorem dL_law_1069 : decode cL_law 1069 = .ok (.iadd, 1) := by decide +kernel
theorem dL_law_1070 : decode cL_law 1070 = .ok (.iaload, 1) := by decide +kernel
theorem dL_law_1071 : decode cL_law 1071 = .ok (.aload_n 3, 1) := by decide +kernel
theorem dL_law_1072 : decode cL_law 1072 = .ok (.invokestatic 119, 3) := by decide +kernel
theorem dL_law_1075 : decode cL_law 1075 = .ok (.istore 5, 2) := by decide +kernel
theorem dL_law_1077 : decode cL_law 1077 = .ok (.aload_n 2, 1) := by decide +kernel
theorem dL_law_1078 : decode cL_law 1078 = .ok (.aload_n 0, 1) := by decide +kernel
theorem dL_law_1079 : decode cL_law 1079 = .ok (.iload 4, 2) := by decide +kernel
theorem dL_law_1081 : decode cL_law 1081 = .ok (.iconst 1, 1) := by decide +kernel
theorem dL_law_1082 : decode cL_law 1082 = .ok (.iadd, 1) := by decide +kernel
theorem dL_law_1083 : decode cL_law 1083 = .ok (.iaload, 1) := by decide +kernel
theorem dL_law_1084 : decode cL_law 1084 = .ok (.aload_n 0, 1) := by decide +kernel
theorem dL_law_1085 : decode cL_law 1085 = .ok (.iload 4, 2) := by decide +kernel
theorem dL_law_1087 : decode cL_law 1087 = .ok (.iconst 2, 1) := by decide +kernel
theorem dL_law_1088 : decode cL_law 1088 = .ok (.iadd, 1) := by decide +kernel
theorem dL_law_1089 : decode cL_law 1089 = .ok (.iaload, 1) := by decide +kernel
theorem dL_law_1090 : decode cL_law 1090 = .ok (.invokevirtual 121, 3) := by decide +kernel
theorem dL_law_1093 : decode cL_law 1093 = .ok (.istore 6, 2) := by decide +kernel
theorem dL_law_1095 : decode cL_law 1095 = .ok (.aload_n 2, 1) := by decide +kernel
theorem dL_law_1096 : decode cL_law 1096 = .ok (.invokevirtual 75, 3) := by decide +kernel
theorem dL_law_1099 : decode cL_law 1099 = .ok (.iload 5, 2) := by decide +kernel
theorem dL_law_1101 : decode cL_law 1101 = .ok (.if_icmp .eq 5, 3) := by decide +kernel
theorem dL_law_1104 : decode cL_law 1104 = .ok (.iconst 0, 1) := by decide +kernel
theorem dL_law_1105 : decode cL_law 1105 = .ok (.ireturn, 1) := by decide +kernel
theorem dL_law_1106 : decode cL_law 1106 = .ok (.iload 5, 2) := by decide +kernel
theorem dL_law_1108 : decode cL_law 1108 = .ok (.ifCond .ne 22, 3) := by decide +kernel
theorem dL_law_1111 : decode cL_law 1111 = .ok (.aload_n 3, 1) := by decide +kernel
theorem dL_law_1112 : decode cL_law 1112 = .ok (.iconst 0, 1) := by decide +kernel
theorem dL_law_1113 : decode cL_law 1113 = .ok (.laload, 1) := by decide +kernel
theorem dL_law_1114 : decode cL_law 1114 = .ok (.iload 6, 2) := by decide +kernel
theorem dL_law_1116 : decode cL_law 1116 = .ok (.ifCond .eq 7, 3) := by decide +kernel
theorem dL_law_1119 : decode cL_law 1119 = .ok (.lconst 1, 1) := by decide +kernel
theorem dL_law_1120 : decode cL_law 1120 = .ok (.goto 4, 3) := by decide +kernel
theorem dL_law_1123 : decode cL_law 1123 = .ok (.lconst 0, 1) := by decide +kernel
theorem dL_law_1124 : decode cL_law 1124 = .ok (.lcmp, 1) := by decide +kernel
theorem dL_law_1125 : decode cL_law 1125 = .ok (.ifCond .eq 5, 3) := by decide +kernel
theorem dL_law_1128 : decode cL_law 1128 = .ok (.iconst 0, 1) := by decide +kernel
theorem dL_law_1129 : decode cL_law 1129 = .ok (.ireturn, 1) := by decide +kernel
theorem dL_law_1130 : decode cL_law 1130 = .ok (.goto 71, 3) := by decide +kernel
theorem dL_law_1133 : decode cL_law 1133 = .ok (.aload_n 1, 1) := by decide +kernel
theorem dL_law_1134 : decode cL_law 1134 = .ok (.invokevirtual 122, 3) := by decide +kernel
theorem dL_law_1137 : decode cL_law 1137 = .ok (.aload_n 2, 1) := by decide +kernel
theorem dL_law_1138 : decode cL_law 1138 = .ok (.invokevirtual 125, 3) := by decide +kernel
theorem dL_law_1141 : decode cL_law 1141 = .ok (.if_icmp .eq 60, 3) := by decide +kernel
theorem dL_law_1144 : decode cL_law 1144 = .ok (.iconst 0, 1) := by decide +kernel
theorem dL_law_1145 : decode cL_law 1145 = .ok (.ireturn, 1) := by decide +kernel
theorem dL_law_1146 : decode cL_law 1146 = .ok (.aload_n 1, 1) := by decide +kernel
theorem dL_law_1147 : decode cL_law 1147 = .ok (.invokevirtual 126, 3) := by decide +kernel
theorem dL_law_1150 : decode cL_law 1150 = .ok (.dstore 5, 2) := by decide +kernel
theorem dL_law_1152 : decode cL_law 1152 = .ok (.aload_n 2, 1) := by decide +kernel
theorem dL_law_1153 : decode cL_law 1153 = .ok (.invokevirtual 130, 3) := by decide +kernel
theorem dL_law_1156 : decode cL_law 1156 = .ok (.dstore 7, 2) := by decide +kernel
theorem dL_law_1158 : decode cL_law 1158 = .ok (.dload 5, 2) := by decide +kernel
theorem dL_law_1160 : decode cL_law 1160 = .ok (.dload 7, 2) := by decide +kernel
theorem dL_law_1162 : decode cL_law 1162 = .ok (.dcmp .l, 1) := by decide +kernel
theorem dL_law_1163 : decode cL_law 1163 = .ok (.ifCond .eq 21, 3) := by decide +kernel
theorem dL_law_1166 : decode cL_law 1166 = .ok (.dload 5, 2) := by decide +kernel
theorem dL_law_1168 : decode cL_law 1168 = .ok (.dload 5, 2) := by decide +kernel
theorem dL_law_1170 : decode cL_law 1170 = .ok (.dcmp .l, 1) := by decide +kernel
theorem dL_law_1171 : decode cL_law 1171 = .ok (.ifCond .eq 11, 3) := by decide +kernel
theorem dL_law_1174 : decode cL_law 1174 = .ok (.dload 7, 2) := by decide +kernel
theorem dL_law_1176 : decode cL_law 1176 = .ok (.dload 7, 2) := by decide +kernel
theorem dL_law_1178 : decode cL_law 1178 = .ok (.dcmp .l, 1) := by decide +kernel
theorem dL_law_1179 : decode cL_law 1179 = .ok (.ifCond .ne 5, 3) := by decide +kernel
theorem dL_law_1182 : decode cL_law 1182 = .ok (.iconst 0, 1) := by decide +kernel
theorem dL_law_1183 : decode cL_law 1183 = .ok (.ireturn, 1) := by decide +kernel
theorem dL_law_1184 : decode cL_law 1184 = .ok (.goto 17, 3) := by decide +kernel
theorem dL_law_1187 : decode cL_law 1187 = .ok (.aload_n 1, 1) := by decide +kernel
theorem dL_law_1188 : decode cL_law 1188 = .ok (.invokevirtual 131, 3) := by decide +kernel
theorem dL_law_1191 : decode cL_law 1191 = .ok (.aload_n 2, 1) := by decide +kernel
theorem dL_law_1192 : decode cL_law 1192 = .ok (.invokevirtual 135, 3) := by decide +kernel
theorem dL_law_1195 : decode cL_law 1195 = .ok (.lcmp, 1) := by decide +kernel
theorem dL_law_1196 : decode cL_law 1196 = .ok (.ifCond .eq 5, 3) := by decide +kernel
theorem dL_law_1199 : decode cL_law 1199 = .ok (.iconst 0, 1) := by decide +kernel
theorem dL_law_1200 : decode cL_law 1200 = .ok (.ireturn, 1) := by decide +kernel
theorem dL_law_1201 : decode cL_law 1201 = .ok (.iinc 4 5, 3) := by decide +kernel
theorem dL_law_1204 : decode cL_law 1204 = .ok (.goto (-1181), 3) := by decide +kernel
theorem dL_law_1207 : decode cL_law 1207 = .ok (.iconst 1, 1) := by decide +kernel
theorem dL_law_1208 : decode cL_law 1208 = .ok (.ireturn, 1) := by decide +kernel
end
section
/-! the good words of the law's table: ONE list for every contract; where each word stands in it -/
def WW : List Cond := lw_tbl.filter goodWord
theorem WW_in : ∀ w ∈ WW, w ∈ lw_tbl := fun _ h => (List.mem_filter.mp h).1
theorem WW_good : ∀ w ∈ WW, (w.onTables && w.keeps) = true ∨ ∃ ty, w = .arrayClass ty := fun _ h => good_of_word (List.mem_filter.mp h).2
theorem WW_of {w : Cond} (h : w ∈ lw_tbl) (g : goodWord w = true) : w ∈ WW := List.mem_filter.mpr ⟨h, g⟩
theorem WW_flt {L : List Cond} (h : ∀ w ∈ L.filter goodWord, w ∈ lw_tbl) : ∀ w ∈ L.filter goodWord, w ∈ WW := fun w hw => List.mem_filter.mpr ⟨h w hw, (List.mem_filter.mp hw).2⟩
set_option maxRecDepth 20000 in
theorem inWX0 : ∀ w ∈ wsX00, w ∈ WW := fun w h => WW_of ((by decide +kernel : ∀ w ∈ wsX00, w ∈ lw_tbl) w h) (List.all_eq_true.mp (by decide +kernel : wsX00.all goodWord = true) w h)
set_option maxRecDepth 20000 in
theorem inWX1 : ∀ w ∈ wsX10, w ∈ WW := fun w h => WW_of ((by decide +kernel : ∀ w ∈ wsX10, w ∈ lw_tbl) w h) (List.all_eq_true.mp (by decide +kernel : wsX10.all goodWord = true) w h)
theorem qS_X0_provedIfClosed : Cond.selects RX0 yX0_provedIfClosed yX0_provedIfClosed ∈ WW := List.mem_filter.mpr ⟨List.mem_append_left _ (List.mem_of_getElem? (i := 0) rfl), rfl⟩
theorem qS_X0_prove : Cond.selects RX0 yX0_prove yX0_prove ∈ WW := List.mem_filter.mpr ⟨List.mem_append_left _ (List.mem_of_getElem? (i := 1) rfl), rfl⟩
theorem qS_X0_hasProofAt : Cond.selects RX0 yX0_hasProofAt yX0_hasProofAt ∈ WW := List.mem_filter.mpr ⟨List.mem_append_left _ (List.mem_of_getElem? (i := 2) rfl), rfl⟩
theorem qS_X0_holds : Cond.selects RX0 yX0_holds yX0_holds ∈ WW := List.mem_filter.mpr ⟨List.mem_append_left _ (List.mem_of_getElem? (i := 3) rfl), rfl⟩
theorem qS_X0_isWhole : Cond.selects RX0 yX0_isWhole yX0_isWhole ∈ WW := List.mem_filter.mpr ⟨List.mem_append_left _ (List.mem_of_getElem? (i := 4) rfl), rfl⟩
theorem qS_X0_endOfSteps : Cond.selects RX0 yX0_endOfSteps yX0_endOfSteps ∈ WW := List.mem_filter.mpr ⟨List.mem_append_left _ (List.mem_of_getElem? (i := 5) rfl), rfl⟩
theorem qS_X0_stepHolds : Cond.selects RX0 yX0_stepHolds yX0_stepHolds ∈ WW := List.mem_filter.mpr ⟨List.mem_append_left _ (List.mem_of_getElem? (i := 6) rfl), rfl⟩
theorem qS_X0_isLemma : Cond.selects RX0 yX0_isLemma yX0_isLemma ∈ WW := List.mem_filter.mpr ⟨List.mem_append_left _ (List.mem_of_getElem? (i := 7) rfl), rfl⟩
theorem qS_X0_overLemmas : Cond.selects RX0 yX0_overLemmas yX0_overLemmas ∈ WW := List.mem_filter.mpr ⟨List.mem_append_left _ (List.mem_of_getElem? (i := 8) rfl), rfl⟩
theorem qS_X0_lemmaTells : Cond.selects RX0 yX0_lemmaTells yX0_lemmaTells ∈ WW := List.mem_filter.mpr ⟨List.mem_append_left _ (List.mem_of_getElem? (i := 9) rfl), rfl⟩
theorem qS_X0_stepsOf : Cond.selects RX0 yX0_stepsOf yX0_stepsOf ∈ WW := List.mem_filter.mpr ⟨List.mem_append_left _ (List.mem_of_getElem? (i := 10) rfl), rfl⟩
theorem qS_X0_openOf : Cond.selects RX0 yX0_openOf yX0_openOf ∈ WW := List.mem_filter.mpr ⟨List.mem_append_left _ (List.mem_of_getElem? (i := 11) rfl), rfl⟩
theorem qS_X0_countOf : Cond.selects RX0 yX0_countOf yX0_countOf ∈ WW := List.mem_filter.mpr ⟨List.mem_append_left _ (List.mem_of_getElem? (i := 12) rfl), rfl⟩
theorem qS_X0_axiomsTaken : Cond.selects RX0 yX0_axiomsTaken yX0_axiomsTaken ∈ WW := List.mem_filter.mpr ⟨List.mem_append_left _ (List.mem_of_getElem? (i := 13) rfl), rfl⟩
theorem qS_X0_lemmasInCircles : Cond.selects RX0 yX0_lemmasInCircles yX0_lemmasInCircles ∈ WW := List.mem_filter.mpr ⟨List.mem_append_left _ (List.mem_of_getElem? (i := 14) rfl), rfl⟩
theorem qS_X0_digestLemma : Cond.selects RX0 yX0_digestLemma yX0_digestLemma ∈ WW := List.mem_filter.mpr ⟨List.mem_append_left _ (List.mem_of_getElem? (i := 15) rfl), rfl⟩
theorem qS_X0_digestProof : Cond.selects RX0 yX0_digestProof yX0_digestProof ∈ WW := List.mem_filter.mpr ⟨List.mem_append_left _ (List.mem_of_getElem? (i := 16) rfl), rfl⟩
theorem qS_X0_stepTells : Cond.selects RX0 yX0_stepTells yX0_stepTells ∈ WW := List.mem_filter.mpr ⟨List.mem_append_left _ (List.mem_of_getElem? (i := 17) rfl), rfl⟩
theorem qS_X0_settle : Cond.selects RX0 yX0_settle yX0_settle ∈ WW := List.mem_filter.mpr ⟨List.mem_append_left _ (List.mem_of_getElem? (i := 19) rfl), rfl⟩
theorem qS_X0_reckon : Cond.selects RX0 yX0_reckon yX0_reckon ∈ WW := List.mem_filter.mpr ⟨List.mem_append_left _ (List.mem_of_getElem? (i := 20) rfl), rfl⟩
theorem qS_X0_reckonRound : Cond.selects RX0 yX0_reckonRound yX0_reckonRound ∈ WW := List.mem_filter.mpr ⟨List.mem_append_left _ (List.mem_of_getElem? (i := 21) rfl), rfl⟩
theorem qS_X0_costOfProof : Cond.selects RX0 yX0_costOfProof yX0_costOfProof ∈ WW := List.mem_filter.mpr ⟨List.mem_append_left _ (List.mem_of_getElem? (i := 22) rfl), rfl⟩
theorem qS_X0_costOfStep : Cond.selects RX0 yX0_costOfStep yX0_costOfStep ∈ WW := List.mem_filter.mpr ⟨List.mem_append_left _ (List.mem_of_getElem? (i := 23) rfl), rfl⟩
theorem qS_X0_lemmasCitedBy : Cond.selects RX0 yX0_lemmasCitedBy yX0_lemmasCitedBy ∈ WW := List.mem_filter.mpr ⟨List.mem_append_left _ (List.mem_of_getElem? (i := 24) rfl), rfl⟩
theorem qS_X0_citesToItself : Cond.selects RX0 yX0_citesToItself yX0_citesToItself ∈ WW := List.mem_filter.mpr ⟨List.mem_append_left _ (List.mem_of_getElem? (i := 25) rfl), rfl⟩
theorem qS_X0_lemmasCitedByAll : Cond.selects RX0 yX0_lemmasCitedByAll yX0_lemmasCitedByAll ∈ WW := List.mem_filter.mpr ⟨List.mem_append_left _ (List.mem_of_getElem? (i := 26) rfl), rfl⟩
theorem qS_X0_requireLemma : Cond.selects RX0 yX0_requireLemma yX0_requireLemma ∈ WW := List.mem_filter.mpr ⟨List.mem_append_left _ (List.mem_of_getElem? (i := 27) rfl), rfl⟩
theorem qS_X0_requireProof : Cond.selects RX0 yX0_requireProof yX0_requireProof ∈ WW := List.mem_filter.mpr ⟨List.mem_append_left _ (List.mem_of_getElem? (i := 28) rfl), rfl⟩
theorem qS_X0_requireCitable : Cond.selects RX0 yX0_requireCitable yX0_requireCitable ∈ WW := List.mem_filter.mpr ⟨List.mem_append_left _ (List.mem_of_getElem? (i := 29) rfl), rfl⟩
theorem qS_X0_requireStep : Cond.selects RX0 yX0_requireStep yX0_requireStep ∈ WW := List.mem_filter.mpr ⟨List.mem_append_left _ (List.mem_of_getElem? (i := 30) rfl), rfl⟩
theorem qS_X0_moveUp : Cond.selects RX0 yX0_moveUp yX0_moveUp ∈ WW := List.mem_filter.mpr ⟨List.mem_append_left _ (List.mem_of_getElem? (i := 31) rfl), rfl⟩
theorem qS_X1_no : Cond.selects RX1 yX1_no yX1_no ∈ WW := List.mem_filter.mpr ⟨List.mem_append_left _ (List.mem_of_getElem? (i := 32) rfl), rfl⟩
theorem qS_X1_isLemma : Cond.selects RX1 yX1_isLemma yX1_isLemma ∈ WW := List.mem_filter.mpr ⟨List.mem_append_left _ (List.mem_of_getElem? (i := 33) rfl), rfl⟩
theorem qS_X1_isProof : Cond.selects RX1 yX1_isProof yX1_isProof ∈ WW := List.mem_filter.mpr ⟨List.mem_append_left _ (List.mem_of_getElem? (i := 34) rfl), rfl⟩
theorem qS_X1_isStep : Cond.selects RX1 yX1_isStep yX1_isStep ∈ WW := List.mem_filter.mpr ⟨List.mem_append_left _ (List.mem_of_getElem? (i := 35) rfl), rfl⟩
theorem qS_X1_layOver : Cond.selects RX1 yX1_layOver yX1_layOver ∈ WW := List.mem_filter.mpr ⟨List.mem_append_left _ (List.mem_of_getElem? (i := 36) rfl), rfl⟩
theorem qS_X1_lemmaTold : Cond.selects RX1 yX1_lemmaTold yX1_lemmaTold ∈ WW := List.mem_filter.mpr ⟨List.mem_append_left _ (List.mem_of_getElem? (i := 37) rfl), rfl⟩
theorem qS_X1_measure : Cond.selects RX1 yX1_measure yX1_measure ∈ WW := List.mem_filter.mpr ⟨List.mem_append_left _ (List.mem_of_getElem? (i := 38) rfl), rfl⟩
theorem qS_X1_getsShorter : Cond.selects RX1 yX1_getsShorter yX1_getsShorter ∈ WW := List.mem_filter.mpr ⟨List.mem_append_left _ (List.mem_of_getElem? (i := 39) rfl), rfl⟩
theorem qS_X1_lengthOf : Cond.selects RX1 yX1_lengthOf yX1_lengthOf ∈ WW := List.mem_filter.mpr ⟨List.mem_append_left _ (List.mem_of_getElem? (i := 40) rfl), rfl⟩
theorem qS_X1_isWhole : Cond.selects RX1 yX1_isWhole yX1_isWhole ∈ WW := List.mem_filter.mpr ⟨List.mem_append_left _ (List.mem_of_getElem? (i := 41) rfl), rfl⟩
theorem qS_X1_getsCheaper : Cond.selects RX1 yX1_getsCheaper yX1_getsCheaper ∈ WW := List.mem_filter.mpr ⟨List.mem_append_left _ (List.mem_of_getElem? (i := 42) rfl), rfl⟩
theorem qS_X1_priceOf : Cond.selects RX1 yX1_priceOf yX1_priceOf ∈ WW := List.mem_filter.mpr ⟨List.mem_append_left _ (List.mem_of_getElem? (i := 43) rfl), rfl⟩
theorem qS_X1_stepsOf : Cond.selects RX1 yX1_stepsOf yX1_stepsOf ∈ WW := List.mem_filter.mpr ⟨List.mem_append_left _ (List.mem_of_getElem? (i := 44) rfl), rfl⟩
theorem qS_X1_stageOf : Cond.selects RX1 yX1_stageOf yX1_stageOf ∈ WW := List.mem_filter.mpr ⟨List.mem_append_left _ (List.mem_of_getElem? (i := 45) rfl), rfl⟩
theorem qS_X1_prove : Cond.selects RX1 yX1_prove yX1_prove ∈ WW := List.mem_filter.mpr ⟨List.mem_append_left _ (List.mem_of_getElem? (i := 46) rfl), rfl⟩
theorem qS_X1_hasProof : Cond.selects RX1 yX1_hasProof yX1_hasProof ∈ WW := List.mem_filter.mpr ⟨List.mem_append_left _ (List.mem_of_getElem? (i := 47) rfl), rfl⟩
theorem qS_X1_holds : Cond.selects RX1 yX1_holds yX1_holds ∈ WW := List.mem_filter.mpr ⟨List.mem_append_left _ (List.mem_of_getElem? (i := 48) rfl), rfl⟩
theorem qS_X1_does : Cond.selects RX1 yX1_does yX1_does ∈ WW := List.mem_filter.mpr ⟨List.mem_append_left _ (List.mem_of_getElem? (i := 49) rfl), rfl⟩
theorem qS_X1_openOf : Cond.selects RX1 yX1_openOf yX1_openOf ∈ WW := List.mem_filter.mpr ⟨List.mem_append_left _ (List.mem_of_getElem? (i := 50) rfl), rfl⟩
theorem qS_X1_circle : Cond.selects RX1 yX1_circle yX1_circle ∈ WW := List.mem_filter.mpr ⟨List.mem_append_left _ (List.mem_of_getElem? (i := 51) rfl), rfl⟩
theorem qS_X1_leads : Cond.selects RX1 yX1_leads yX1_leads ∈ WW := List.mem_filter.mpr ⟨List.mem_append_left _ (List.mem_of_getElem? (i := 52) rfl), rfl⟩
theorem qS_X1_stepTold : Cond.selects RX1 yX1_stepTold yX1_stepTold ∈ WW := List.mem_filter.mpr ⟨List.mem_append_left _ (List.mem_of_getElem? (i := 53) rfl), rfl⟩
theorem qS_X1_proofTold : Cond.selects RX1 yX1_proofTold yX1_proofTold ∈ WW := List.mem_filter.mpr ⟨List.mem_append_left _ (List.mem_of_getElem? (i := 54) rfl), rfl⟩
theorem qS_X1_counted : Cond.selects RX1 yX1_counted yX1_counted ∈ WW := List.mem_filter.mpr ⟨List.mem_append_left _ (List.mem_of_getElem? (i := 55) rfl), rfl⟩
theorem qS_X1_bestOf : Cond.selects RX1 yX1_bestOf yX1_bestOf ∈ WW := List.mem_filter.mpr ⟨List.mem_append_left _ (List.mem_of_getElem? (i := 56) rfl), rfl⟩
theorem qS_X1_isNeeded : Cond.selects RX1 yX1_isNeeded yX1_isNeeded ∈ WW := List.mem_filter.mpr ⟨List.mem_append_left _ (List.mem_of_getElem? (i := 57) rfl), rfl⟩
theorem qS_X1_provedBy : Cond.selects RX1 yX1_provedBy yX1_provedBy ∈ WW := List.mem_filter.mpr ⟨List.mem_append_left _ (List.mem_of_getElem? (i := 58) rfl), rfl⟩
theorem qN_L : Cond.initialized RL ∈ WW := List.mem_filter.mpr ⟨List.mem_append_right _ (List.mem_append_left _ (List.mem_of_getElem? (i := 0) rfl)), rfl⟩
theorem qN_X0 : Cond.initialized RX0 ∈ WW := List.mem_filter.mpr ⟨List.mem_append_right _ (List.mem_append_left _ (List.mem_of_getElem? (i := 1) rfl)), rfl⟩
theorem qN_X1 : Cond.initialized RX1 ∈ WW := List.mem_filter.mpr ⟨List.mem_append_right _ (List.mem_append_left _ (List.mem_of_getElem? (i := 2) rfl)), rfl⟩
theorem qN_Throwable : Cond.initialized "java/lang/Throwable" ∈ WW := List.mem_filter.mpr ⟨List.mem_append_right _ (List.mem_append_left _ (List.mem_of_getElem? (i := 3) rfl)), rfl⟩
theorem qN_Exception : Cond.initialized "java/lang/Exception" ∈ WW := List.mem_filter.mpr ⟨List.mem_append_right _ (List.mem_append_left _ (List.mem_of_getElem? (i := 4) rfl)), rfl⟩
theorem qN_RuntimeException : Cond.initialized "java/lang/RuntimeException" ∈ WW := List.mem_filter.mpr ⟨List.mem_append_right _ (List.mem_append_left _ (List.mem_of_getElem? (i := 5) rfl)), rfl⟩
theorem qN_IndexOutOfBoundsException : Cond.initialized "java/lang/IndexOutOfBoundsException" ∈ WW := List.mem_filter.mpr ⟨List.mem_append_right _ (List.mem_append_left _ (List.mem_of_getElem? (i := 6) rfl)), rfl⟩
theorem qN_J7 : Cond.initialized RJ7 ∈ WW := List.mem_filter.mpr ⟨List.mem_append_right _ (List.mem_append_left _ (List.mem_of_getElem? (i := 7) rfl)), rfl⟩
theorem qN_J9 : Cond.initialized RJ9 ∈ WW := List.mem_filter.mpr ⟨List.mem_append_right _ (List.mem_append_left _ (List.mem_of_getElem? (i := 8) rfl)), rfl⟩
theorem qN_IllegalStateException : Cond.initialized "java/lang/IllegalStateException" ∈ WW := List.mem_filter.mpr ⟨List.mem_append_right _ (List.mem_append_left _ (List.mem_of_getElem? (i := 9) rfl)), rfl⟩
theorem qN_IllegalArgumentException : Cond.initialized "java/lang/IllegalArgumentException" ∈ WW := List.mem_filter.mpr ⟨List.mem_append_right _ (List.mem_append_left _ (List.mem_of_getElem? (i := 10) rfl)), rfl⟩
theorem qN_J10 : Cond.initialized RJ10 ∈ WW := List.mem_filter.mpr ⟨List.mem_append_right _ (List.mem_append_left _ (List.mem_of_getElem? (i := 11) rfl)), rfl⟩
theorem qK_L_8 : Cond.classLink RL 8 RX0 ∈ WW := List.mem_filter.mpr ⟨List.mem_append_right _ (List.mem_append_left _ (List.mem_of_getElem? (i := 12) rfl)), rfl⟩
theorem qB_X0 : Cond.instantiable RX0 15 ∈ WW := List.mem_filter.mpr ⟨List.mem_append_right _ (List.mem_append_left _ (List.mem_of_getElem? (i := 13) rfl)), rfl⟩
theorem qM_L_65 : Cond.methodLink RL 65 yX0_init ∈ WW := List.mem_filter.mpr ⟨List.mem_append_right _ (List.mem_append_left _ (List.mem_of_getElem? (i := 14) rfl)), rfl⟩
theorem qI_X0_init : Cond.instanceMethod yX0_init ∈ WW := List.mem_filter.mpr ⟨List.mem_append_right _ (List.mem_append_left _ (List.mem_of_getElem? (i := 15) rfl)), rfl⟩
theorem qC_X0_init : Cond.code yX0_init cX0_init 2 none ∈ WW := List.mem_filter.mpr ⟨List.mem_append_right _ (List.mem_append_left _ (List.mem_of_getElem? (i := 16) rfl)), rfl⟩
theorem qM_X0_1 : Cond.methodLink RX0 1 objectInit ∈ WW := List.mem_filter.mpr ⟨List.mem_append_right _ (List.mem_append_left _ (List.mem_of_getElem? (i := 17) rfl)), rfl⟩
theorem qI_objinit : Cond.instanceMethod objectInit ∈ WW := List.mem_filter.mpr ⟨List.mem_append_right _ (List.mem_append_left _ (List.mem_of_getElem? (i := 18) rfl)), rfl⟩
theorem qC_objinit : Cond.code objectInit ⟨#[0xb1]⟩ 1 none ∈ WW := List.mem_filter.mpr ⟨List.mem_append_right _ (List.mem_append_left _ (List.mem_of_getElem? (i := 19) rfl)), rfl⟩
theorem qF_X0_9 : Cond.fieldLink RX0 9 "LodgeProofs" "taken" "[Z" ∈ WW := List.mem_filter.mpr ⟨List.mem_append_right _ (List.mem_append_left _ (List.mem_of_getElem? (i := 20) rfl)), rfl⟩
theorem qF_X0_57 : Cond.fieldLink RX0 57 "LodgeProofs" "lemmas" "I" ∈ WW := List.mem_filter.mpr ⟨List.mem_append_right _ (List.mem_append_left _ (List.mem_of_getElem? (i := 21) rfl)), rfl⟩
theorem qF_X0_13 : Cond.fieldLink RX0 13 "LodgeProofs" "proofs" "[I" ∈ WW := List.mem_filter.mpr ⟨List.mem_append_right _ (List.mem_append_left _ (List.mem_of_getElem? (i := 22) rfl)), rfl⟩
theorem qF_X0_17 : Cond.fieldLink RX0 17 "LodgeProofs" "steps" "[I" ∈ WW := List.mem_filter.mpr ⟨List.mem_append_right _ (List.mem_append_left _ (List.mem_of_getElem? (i := 23) rfl)), rfl⟩
theorem qF_X0_20 : Cond.fieldLink RX0 20 "LodgeProofs" "kinds" "[I" ∈ WW := List.mem_filter.mpr ⟨List.mem_append_right _ (List.mem_append_left _ (List.mem_of_getElem? (i := 24) rfl)), rfl⟩
theorem qF_X0_23 : Cond.fieldLink RX0 23 "LodgeProofs" "cited" "[I" ∈ WW := List.mem_filter.mpr ⟨List.mem_append_right _ (List.mem_append_left _ (List.mem_of_getElem? (i := 25) rfl)), rfl⟩
theorem qF_X0_26 : Cond.fieldLink RX0 26 "LodgeProofs" "open" "[I" ∈ WW := List.mem_filter.mpr ⟨List.mem_append_right _ (List.mem_append_left _ (List.mem_of_getElem? (i := 26) rfl)), rfl⟩
theorem qF_X0_29 : Cond.fieldLink RX0 29 "LodgeProofs" "withdrawn" "[Z" ∈ WW := List.mem_filter.mpr ⟨List.mem_append_right _ (List.mem_append_left _ (List.mem_of_getElem? (i := 27) rfl)), rfl⟩
theorem qF_X0_140 : Cond.fieldLink RX0 140 "LodgeProofs" "proved" "I" ∈ WW := List.mem_filter.mpr ⟨List.mem_append_right _ (List.mem_append_left _ (List.mem_of_getElem? (i := 28) rfl)), rfl⟩
theorem qF_X0_32 : Cond.fieldLink RX0 32 "LodgeProofs" "stages" "[I" ∈ WW := List.mem_filter.mpr ⟨List.mem_append_right _ (List.mem_append_left _ (List.mem_of_getElem? (i := 29) rfl)), rfl⟩
theorem qF_X0_35 : Cond.fieldLink RX0 35 "LodgeProofs" "lengths" "[I" ∈ WW := List.mem_filter.mpr ⟨List.mem_append_right _ (List.mem_append_left _ (List.mem_of_getElem? (i := 30) rfl)), rfl⟩
theorem qF_X0_38 : Cond.fieldLink RX0 38 "LodgeProofs" "prices" "[I" ∈ WW := List.mem_filter.mpr ⟨List.mem_append_right _ (List.mem_append_left _ (List.mem_of_getElem? (i := 31) rfl)), rfl⟩
theorem qF_X0_41 : Cond.fieldLink RX0 41 "LodgeProofs" "leads" "[I" ∈ WW := List.mem_filter.mpr ⟨List.mem_append_right _ (List.mem_append_left _ (List.mem_of_getElem? (i := 32) rfl)), rfl⟩
theorem qF_X0_44 : Cond.fieldLink RX0 44 "LodgeProofs" "circles" "[I" ∈ WW := List.mem_filter.mpr ⟨List.mem_append_right _ (List.mem_append_left _ (List.mem_of_getElem? (i := 33) rfl)), rfl⟩
theorem qF_X0_47 : Cond.fieldLink RX0 47 "LodgeProofs" "trial" "[I" ∈ WW := List.mem_filter.mpr ⟨List.mem_append_right _ (List.mem_append_left _ (List.mem_of_getElem? (i := 34) rfl)), rfl⟩
theorem qA_boolean : Cond.arrayClass .boolean ∈ WW := List.mem_filter.mpr ⟨List.mem_append_right _ (List.mem_append_left _ (List.mem_of_getElem? (i := 66) rfl)), rfl⟩
theorem qA_int : Cond.arrayClass .int ∈ WW := List.mem_filter.mpr ⟨List.mem_append_right _ (List.mem_append_left _ (List.mem_of_getElem? (i := 67) rfl)), rfl⟩
theorem qM_L_122 : Cond.methodLink RL 122 yX0_advise ∈ WW := List.mem_filter.mpr ⟨List.mem_append_right _ (List.mem_append_left _ (List.mem_of_getElem? (i := 68) rfl)), rfl⟩
theorem qI_X0_advise : Cond.instanceMethod yX0_advise ∈ WW := List.mem_filter.mpr ⟨List.mem_append_right _ (List.mem_append_left _ (List.mem_of_getElem? (i := 69) rfl)), rfl⟩
theorem qS_X0_advise : Cond.selects RX0 yX0_advise yX0_advise ∈ WW := List.mem_filter.mpr ⟨List.mem_append_right _ (List.mem_append_left _ (List.mem_of_getElem? (i := 70) rfl)), rfl⟩
theorem qC_X0_advise : Cond.code yX0_advise cX0_advise 7 (some .int) ∈ WW := List.mem_filter.mpr ⟨List.mem_append_right _ (List.mem_append_left _ (List.mem_of_getElem? (i := 71) rfl)), rfl⟩
theorem qM_X0_73 : Cond.methodLink RX0 73 yX0_slotOf ∈ WW := List.mem_filter.mpr ⟨List.mem_append_right _ (List.mem_append_left _ (List.mem_of_getElem? (i := 72) rfl)), rfl⟩
theorem qT_X0_slotOf : Cond.static yX0_slotOf ∈ WW := List.mem_filter.mpr ⟨List.mem_append_right _ (List.mem_append_left _ (List.mem_of_getElem? (i := 73) rfl)), rfl⟩
theorem qC_X0_slotOf : Cond.code yX0_slotOf cX0_slotOf 2 (some .int) ∈ WW := List.mem_filter.mpr ⟨List.mem_append_right _ (List.mem_append_left _ (List.mem_of_getElem? (i := 74) rfl)), rfl⟩
theorem qM_X0_99 : Cond.methodLink RX0 99 yX0_stepAt ∈ WW := List.mem_filter.mpr ⟨List.mem_append_right _ (List.mem_append_left _ (List.mem_of_getElem? (i := 75) rfl)), rfl⟩
theorem qT_X0_stepAt : Cond.static yX0_stepAt ∈ WW := List.mem_filter.mpr ⟨List.mem_append_right _ (List.mem_append_left _ (List.mem_of_getElem? (i := 76) rfl)), rfl⟩
theorem qC_X0_stepAt : Cond.code yX0_stepAt cX0_stepAt 3 (some .int) ∈ WW := List.mem_filter.mpr ⟨List.mem_append_right _ (List.mem_append_left _ (List.mem_of_getElem? (i := 77) rfl)), rfl⟩
theorem qM_X0_181 : Cond.methodLink RX0 181 yX0_firstStepOf ∈ WW := List.mem_filter.mpr ⟨List.mem_append_right _ (List.mem_append_left _ (List.mem_of_getElem? (i := 78) rfl)), rfl⟩
theorem qT_X0_firstStepOf : Cond.static yX0_firstStepOf ∈ WW := List.mem_filter.mpr ⟨List.mem_append_right _ (List.mem_append_left _ (List.mem_of_getElem? (i := 79) rfl)), rfl⟩
theorem qC_X0_firstStepOf : Cond.code yX0_firstStepOf cX0_firstStepOf 1 (some .int) ∈ WW := List.mem_filter.mpr ⟨List.mem_append_right _ (List.mem_append_left _ (List.mem_of_getElem? (i := 80) rfl)), rfl⟩
theorem qM_X0_143 : Cond.methodLink RX0 143 yX0_provedIfClosed ∈ WW := List.mem_filter.mpr ⟨List.mem_append_right _ (List.mem_append_left _ (List.mem_of_getElem? (i := 81) rfl)), rfl⟩
theorem qI_X0_provedIfClosed : Cond.instanceMethod yX0_provedIfClosed ∈ WW := List.mem_filter.mpr ⟨List.mem_append_right _ (List.mem_append_left _ (List.mem_of_getElem? (i := 83) rfl)), rfl⟩
theorem qC_X0_provedIfClosed : Cond.code yX0_provedIfClosed cX0_provedIfClosed 4 (some .int) ∈ WW := List.mem_filter.mpr ⟨List.mem_append_right _ (List.mem_append_left _ (List.mem_of_getElem? (i := 84) rfl)), rfl⟩
theorem qM_X0_136 : Cond.methodLink RX0 136 yX0_prove ∈ WW := List.mem_filter.mpr ⟨List.mem_append_right _ (List.mem_append_left _ (List.mem_of_getElem? (i := 85) rfl)), rfl⟩
theorem qI_X0_prove : Cond.instanceMethod yX0_prove ∈ WW := List.mem_filter.mpr ⟨List.mem_append_right _ (List.mem_append_left _ (List.mem_of_getElem? (i := 87) rfl)), rfl⟩
theorem qC_X0_prove : Cond.code yX0_prove cX0_prove 7 (some .int) ∈ WW := List.mem_filter.mpr ⟨List.mem_append_right _ (List.mem_append_left _ (List.mem_of_getElem? (i := 88) rfl)), rfl⟩
theorem qM_X0_194 : Cond.methodLink RX0 194 yJ7_fill_53178 ∈ WW := List.mem_filter.mpr ⟨List.mem_append_right _ (List.mem_append_left _ (List.mem_of_getElem? (i := 89) rfl)), rfl⟩
theorem qT_J7_fill_53178 : Cond.static yJ7_fill_53178 ∈ WW := List.mem_filter.mpr ⟨List.mem_append_right _ (List.mem_append_left _ (List.mem_of_getElem? (i := 90) rfl)), rfl⟩
theorem qC_J7_fill_53178 : Cond.code yJ7_fill_53178 cJ7_fill_53178 4 none ∈ WW := List.mem_filter.mpr ⟨List.mem_append_right _ (List.mem_append_left _ (List.mem_of_getElem? (i := 91) rfl)), rfl⟩
theorem qM_X0_200 : Cond.methodLink RX0 200 yX0_hasProofAt ∈ WW := List.mem_filter.mpr ⟨List.mem_append_right _ (List.mem_append_left _ (List.mem_of_getElem? (i := 92) rfl)), rfl⟩
theorem qI_X0_hasProofAt : Cond.instanceMethod yX0_hasProofAt ∈ WW := List.mem_filter.mpr ⟨List.mem_append_right _ (List.mem_append_left _ (List.mem_of_getElem? (i := 94) rfl)), rfl⟩
theorem qC_X0_hasProofAt : Cond.code yX0_hasProofAt cX0_hasProofAt 5 (some .boolean) ∈ WW := List.mem_filter.mpr ⟨List.mem_append_right _ (List.mem_append_left _ (List.mem_of_getElem? (i := 95) rfl)), rfl⟩
theorem qM_X0_122 : Cond.methodLink RX0 122 yX0_holds ∈ WW := List.mem_filter.mpr ⟨List.mem_append_right _ (List.mem_append_left _ (List.mem_of_getElem? (i := 96) rfl)), rfl⟩
theorem qI_X0_holds : Cond.instanceMethod yX0_holds ∈ WW := List.mem_filter.mpr ⟨List.mem_append_right _ (List.mem_append_left _ (List.mem_of_getElem? (i := 98) rfl)), rfl⟩
theorem qC_X0_holds : Cond.code yX0_holds cX0_holds 5 (some .boolean) ∈ WW := List.mem_filter.mpr ⟨List.mem_append_right _ (List.mem_append_left _ (List.mem_of_getElem? (i := 99) rfl)), rfl⟩
theorem qM_X0_203 : Cond.methodLink RX0 203 yX0_isWhole ∈ WW := List.mem_filter.mpr ⟨List.mem_append_right _ (List.mem_append_left _ (List.mem_of_getElem? (i := 100) rfl)), rfl⟩
theorem qI_X0_isWhole : Cond.instanceMethod yX0_isWhole ∈ WW := List.mem_filter.mpr ⟨List.mem_append_right _ (List.mem_append_left _ (List.mem_of_getElem? (i := 102) rfl)), rfl⟩
theorem qC_X0_isWhole : Cond.code yX0_isWhole cX0_isWhole 3 (some .boolean) ∈ WW := List.mem_filter.mpr ⟨List.mem_append_right _ (List.mem_append_left _ (List.mem_of_getElem? (i := 103) rfl)), rfl⟩
theorem qM_X0_86 : Cond.methodLink RX0 86 yX0_endOfSteps ∈ WW := List.mem_filter.mpr ⟨List.mem_append_right _ (List.mem_append_left _ (List.mem_of_getElem? (i := 104) rfl)), rfl⟩
theorem qI_X0_endOfSteps : Cond.instanceMethod yX0_endOfSteps ∈ WW := List.mem_filter.mpr ⟨List.mem_append_right _ (List.mem_append_left _ (List.mem_of_getElem? (i := 106) rfl)), rfl⟩
theorem qC_X0_endOfSteps : Cond.code yX0_endOfSteps cX0_endOfSteps 2 (some .int) ∈ WW := List.mem_filter.mpr ⟨List.mem_append_right _ (List.mem_append_left _ (List.mem_of_getElem? (i := 107) rfl)), rfl⟩
theorem qM_X0_206 : Cond.methodLink RX0 206 yX0_stepHolds ∈ WW := List.mem_filter.mpr ⟨List.mem_append_right _ (List.mem_append_left _ (List.mem_of_getElem? (i := 108) rfl)), rfl⟩
theorem qI_X0_stepHolds : Cond.instanceMethod yX0_stepHolds ∈ WW := List.mem_filter.mpr ⟨List.mem_append_right _ (List.mem_append_left _ (List.mem_of_getElem? (i := 110) rfl)), rfl⟩
theorem qC_X0_stepHolds : Cond.code yX0_stepHolds cX0_stepHolds 5 (some .boolean) ∈ WW := List.mem_filter.mpr ⟨List.mem_append_right _ (List.mem_append_left _ (List.mem_of_getElem? (i := 111) rfl)), rfl⟩
theorem qM_X0_157 : Cond.methodLink RX0 157 yX0_isAxiom ∈ WW := List.mem_filter.mpr ⟨List.mem_append_right _ (List.mem_append_left _ (List.mem_of_getElem? (i := 112) rfl)), rfl⟩
theorem qT_X0_isAxiom : Cond.static yX0_isAxiom ∈ WW := List.mem_filter.mpr ⟨List.mem_append_right _ (List.mem_append_left _ (List.mem_of_getElem? (i := 113) rfl)), rfl⟩
theorem qC_X0_isAxiom : Cond.code yX0_isAxiom cX0_isAxiom 1 (some .boolean) ∈ WW := List.mem_filter.mpr ⟨List.mem_append_right _ (List.mem_append_left _ (List.mem_of_getElem? (i := 114) rfl)), rfl⟩
theorem qM_X0_166 : Cond.methodLink RX0 166 yX0_isLemma ∈ WW := List.mem_filter.mpr ⟨List.mem_append_right _ (List.mem_append_left _ (List.mem_of_getElem? (i := 115) rfl)), rfl⟩
theorem qI_X0_isLemma : Cond.instanceMethod yX0_isLemma ∈ WW := List.mem_filter.mpr ⟨List.mem_append_right _ (List.mem_append_left _ (List.mem_of_getElem? (i := 117) rfl)), rfl⟩
theorem qC_X0_isLemma : Cond.code yX0_isLemma cX0_isLemma 2 (some .boolean) ∈ WW := List.mem_filter.mpr ⟨List.mem_append_right _ (List.mem_append_left _ (List.mem_of_getElem? (i := 118) rfl)), rfl⟩
theorem qM_L_126 : Cond.methodLink RL 126 yX0_mean ∈ WW := List.mem_filter.mpr ⟨List.mem_append_right _ (List.mem_append_left _ (List.mem_of_getElem? (i := 119) rfl)), rfl⟩
theorem qI_X0_mean : Cond.instanceMethod yX0_mean ∈ WW := List.mem_filter.mpr ⟨List.mem_append_right _ (List.mem_append_left _ (List.mem_of_getElem? (i := 120) rfl)), rfl⟩
theorem qS_X0_mean : Cond.selects RX0 yX0_mean yX0_mean ∈ WW := List.mem_filter.mpr ⟨List.mem_append_right _ (List.mem_append_left _ (List.mem_of_getElem? (i := 121) rfl)), rfl⟩
theorem qC_X0_mean : Cond.code yX0_mean cX0_mean 1 (some .double) ∈ WW := List.mem_filter.mpr ⟨List.mem_append_right _ (List.mem_append_left _ (List.mem_of_getElem? (i := 122) rfl)), rfl⟩
theorem qM_X0_146 : Cond.methodLink RX0 146 yX0_overLemmas ∈ WW := List.mem_filter.mpr ⟨List.mem_append_right _ (List.mem_append_left _ (List.mem_of_getElem? (i := 123) rfl)), rfl⟩
theorem qI_X0_overLemmas : Cond.instanceMethod yX0_overLemmas ∈ WW := List.mem_filter.mpr ⟨List.mem_append_right _ (List.mem_append_left _ (List.mem_of_getElem? (i := 125) rfl)), rfl⟩
theorem qC_X0_overLemmas : Cond.code yX0_overLemmas cX0_overLemmas 4 (some .int) ∈ WW := List.mem_filter.mpr ⟨List.mem_append_right _ (List.mem_append_left _ (List.mem_of_getElem? (i := 126) rfl)), rfl⟩
theorem qM_X0_116 : Cond.methodLink RX0 116 yX0_lemmaTells ∈ WW := List.mem_filter.mpr ⟨List.mem_append_right _ (List.mem_append_left _ (List.mem_of_getElem? (i := 127) rfl)), rfl⟩
theorem qI_X0_lemmaTells : Cond.instanceMethod yX0_lemmaTells ∈ WW := List.mem_filter.mpr ⟨List.mem_append_right _ (List.mem_append_left _ (List.mem_of_getElem? (i := 129) rfl)), rfl⟩
theorem qC_X0_lemmaTells : Cond.code yX0_lemmaTells cX0_lemmaTells 3 (some .int) ∈ WW := List.mem_filter.mpr ⟨List.mem_append_right _ (List.mem_append_left _ (List.mem_of_getElem? (i := 130) rfl)), rfl⟩
theorem qM_X0_226 : Cond.methodLink RX0 226 yX0_stepsOf ∈ WW := List.mem_filter.mpr ⟨List.mem_append_right _ (List.mem_append_left _ (List.mem_of_getElem? (i := 131) rfl)), rfl⟩
theorem qI_X0_stepsOf : Cond.instanceMethod yX0_stepsOf ∈ WW := List.mem_filter.mpr ⟨List.mem_append_right _ (List.mem_append_left _ (List.mem_of_getElem? (i := 133) rfl)), rfl⟩
theorem qC_X0_stepsOf : Cond.code yX0_stepsOf cX0_stepsOf 4 (some .int) ∈ WW := List.mem_filter.mpr ⟨List.mem_append_right _ (List.mem_append_left _ (List.mem_of_getElem? (i := 134) rfl)), rfl⟩
theorem qM_X0_130 : Cond.methodLink RX0 130 yX0_orNone ∈ WW := List.mem_filter.mpr ⟨List.mem_append_right _ (List.mem_append_left _ (List.mem_of_getElem? (i := 135) rfl)), rfl⟩
theorem qT_X0_orNone : Cond.static yX0_orNone ∈ WW := List.mem_filter.mpr ⟨List.mem_append_right _ (List.mem_append_left _ (List.mem_of_getElem? (i := 136) rfl)), rfl⟩
theorem qC_X0_orNone : Cond.code yX0_orNone cX0_orNone 1 (some .int) ∈ WW := List.mem_filter.mpr ⟨List.mem_append_right _ (List.mem_append_left _ (List.mem_of_getElem? (i := 137) rfl)), rfl⟩
theorem qM_X0_229 : Cond.methodLink RX0 229 yX0_openOf ∈ WW := List.mem_filter.mpr ⟨List.mem_append_right _ (List.mem_append_left _ (List.mem_of_getElem? (i := 138) rfl)), rfl⟩
theorem qI_X0_openOf : Cond.instanceMethod yX0_openOf ∈ WW := List.mem_filter.mpr ⟨List.mem_append_right _ (List.mem_append_left _ (List.mem_of_getElem? (i := 140) rfl)), rfl⟩
theorem qC_X0_openOf : Cond.code yX0_openOf cX0_openOf 6 (some .int) ∈ WW := List.mem_filter.mpr ⟨List.mem_append_right _ (List.mem_append_left _ (List.mem_of_getElem? (i := 141) rfl)), rfl⟩
theorem qM_L_131 : Cond.methodLink RL 131 yX0_digest ∈ WW := List.mem_filter.mpr ⟨List.mem_append_right _ (List.mem_append_left _ (List.mem_of_getElem? (i := 142) rfl)), rfl⟩
theorem qI_X0_digest : Cond.instanceMethod yX0_digest ∈ WW := List.mem_filter.mpr ⟨List.mem_append_right _ (List.mem_append_left _ (List.mem_of_getElem? (i := 143) rfl)), rfl⟩
theorem qS_X0_digest : Cond.selects RX0 yX0_digest yX0_digest ∈ WW := List.mem_filter.mpr ⟨List.mem_append_right _ (List.mem_append_left _ (List.mem_of_getElem? (i := 144) rfl)), rfl⟩
theorem qC_X0_digest : Cond.code yX0_digest cX0_digest 4 (some .long) ∈ WW := List.mem_filter.mpr ⟨List.mem_append_right _ (List.mem_append_left _ (List.mem_of_getElem? (i := 145) rfl)), rfl⟩
theorem qL_X0_149 : Cond.constantLong RX0 149 (1847) ∈ WW := List.mem_filter.mpr ⟨List.mem_append_right _ (List.mem_append_left _ (List.mem_of_getElem? (i := 146) rfl)), rfl⟩
theorem qL_X0_151 : Cond.constantLong RX0 151 (31) ∈ WW := List.mem_filter.mpr ⟨List.mem_append_right _ (List.mem_append_left _ (List.mem_of_getElem? (i := 147) rfl)), rfl⟩
theorem qM_X0_133 : Cond.methodLink RX0 133 yX0_countOf ∈ WW := List.mem_filter.mpr ⟨List.mem_append_right _ (List.mem_append_left _ (List.mem_of_getElem? (i := 148) rfl)), rfl⟩
theorem qI_X0_countOf : Cond.instanceMethod yX0_countOf ∈ WW := List.mem_filter.mpr ⟨List.mem_append_right _ (List.mem_append_left _ (List.mem_of_getElem? (i := 150) rfl)), rfl⟩
theorem qC_X0_countOf : Cond.code yX0_countOf cX0_countOf 2 (some .int) ∈ WW := List.mem_filter.mpr ⟨List.mem_append_right _ (List.mem_append_left _ (List.mem_of_getElem? (i := 151) rfl)), rfl⟩
theorem qM_X0_232 : Cond.methodLink RX0 232 yX0_axiomsTaken ∈ WW := List.mem_filter.mpr ⟨List.mem_append_right _ (List.mem_append_left _ (List.mem_of_getElem? (i := 152) rfl)), rfl⟩
theorem qI_X0_axiomsTaken : Cond.instanceMethod yX0_axiomsTaken ∈ WW := List.mem_filter.mpr ⟨List.mem_append_right _ (List.mem_append_left _ (List.mem_of_getElem? (i := 154) rfl)), rfl⟩
theorem qC_X0_axiomsTaken : Cond.code yX0_axiomsTaken cX0_axiomsTaken 3 (some .int) ∈ WW := List.mem_filter.mpr ⟨List.mem_append_right _ (List.mem_append_left _ (List.mem_of_getElem? (i := 155) rfl)), rfl⟩
theorem qM_X0_236 : Cond.methodLink RX0 236 yX0_lemmasInCircles ∈ WW := List.mem_filter.mpr ⟨List.mem_append_right _ (List.mem_append_left _ (List.mem_of_getElem? (i := 156) rfl)), rfl⟩
theorem qI_X0_lemmasInCircles : Cond.instanceMethod yX0_lemmasInCircles ∈ WW := List.mem_filter.mpr ⟨List.mem_append_right _ (List.mem_append_left _ (List.mem_of_getElem? (i := 158) rfl)), rfl⟩
theorem qC_X0_lemmasInCircles : Cond.code yX0_lemmasInCircles cX0_lemmasInCircles 3 (some .int) ∈ WW := List.mem_filter.mpr ⟨List.mem_append_right _ (List.mem_append_left _ (List.mem_of_getElem? (i := 159) rfl)), rfl⟩
theorem qM_X0_153 : Cond.methodLink RX0 153 yX0_digestLemma ∈ WW := List.mem_filter.mpr ⟨List.mem_append_right _ (List.mem_append_left _ (List.mem_of_getElem? (i := 160) rfl)), rfl⟩
theorem qI_X0_digestLemma : Cond.instanceMethod yX0_digestLemma ∈ WW := List.mem_filter.mpr ⟨List.mem_append_right _ (List.mem_append_left _ (List.mem_of_getElem? (i := 162) rfl)), rfl⟩
theorem qC_X0_digestLemma : Cond.code yX0_digestLemma cX0_digestLemma 7 (some .long) ∈ WW := List.mem_filter.mpr ⟨List.mem_append_right _ (List.mem_append_left _ (List.mem_of_getElem? (i := 163) rfl)), rfl⟩
theorem qM_X0_239 : Cond.methodLink RX0 239 yX0_digestProof ∈ WW := List.mem_filter.mpr ⟨List.mem_append_right _ (List.mem_append_left _ (List.mem_of_getElem? (i := 164) rfl)), rfl⟩
theorem qI_X0_digestProof : Cond.instanceMethod yX0_digestProof ∈ WW := List.mem_filter.mpr ⟨List.mem_append_right _ (List.mem_append_left _ (List.mem_of_getElem? (i := 166) rfl)), rfl⟩
theorem qC_X0_digestProof : Cond.code yX0_digestProof cX0_digestProof 8 (some .long) ∈ WW := List.mem_filter.mpr ⟨List.mem_append_right _ (List.mem_append_left _ (List.mem_of_getElem? (i := 167) rfl)), rfl⟩
theorem qM_X0_119 : Cond.methodLink RX0 119 yX0_stepTells ∈ WW := List.mem_filter.mpr ⟨List.mem_append_right _ (List.mem_append_left _ (List.mem_of_getElem? (i := 168) rfl)), rfl⟩
theorem qI_X0_stepTells : Cond.instanceMethod yX0_stepTells ∈ WW := List.mem_filter.mpr ⟨List.mem_append_right _ (List.mem_append_left _ (List.mem_of_getElem? (i := 170) rfl)), rfl⟩
theorem qC_X0_stepTells : Cond.code yX0_stepTells cX0_stepTells 3 (some .int) ∈ WW := List.mem_filter.mpr ⟨List.mem_append_right _ (List.mem_append_left _ (List.mem_of_getElem? (i := 171) rfl)), rfl⟩
theorem qM_L_69 : Cond.methodLink RL 69 yL_take ∈ WW := List.mem_filter.mpr ⟨List.mem_append_right _ (List.mem_append_left _ (List.mem_of_getElem? (i := 172) rfl)), rfl⟩
theorem qT_L_take : Cond.static yL_take ∈ WW := List.mem_filter.mpr ⟨List.mem_append_right _ (List.mem_append_left _ (List.mem_of_getElem? (i := 173) rfl)), rfl⟩
theorem qCW_L_take : Cond.codeWith yL_take cL_take 5 (some .int) [((0), (17), (20), (13))] ∈ WW := List.mem_filter.mpr ⟨List.mem_append_right _ (List.mem_append_left _ (List.mem_of_getElem? (i := 174) rfl)), rfl⟩
theorem qK_L_13 : Cond.classLink RL 13 "java/lang/IndexOutOfBoundsException" ∈ WW := List.mem_filter.mpr ⟨List.mem_append_right _ (List.mem_append_left _ (List.mem_of_getElem? (i := 175) rfl)), rfl⟩
theorem qM_L_7 : Cond.methodLink RL 7 yX0_take ∈ WW := List.mem_filter.mpr ⟨List.mem_append_right _ (List.mem_append_left _ (List.mem_of_getElem? (i := 176) rfl)), rfl⟩
theorem qI_X0_take : Cond.instanceMethod yX0_take ∈ WW := List.mem_filter.mpr ⟨List.mem_append_right _ (List.mem_append_left _ (List.mem_of_getElem? (i := 177) rfl)), rfl⟩
theorem qS_X0_take : Cond.selects RX0 yX0_take yX0_take ∈ WW := List.mem_filter.mpr ⟨List.mem_append_right _ (List.mem_append_left _ (List.mem_of_getElem? (i := 178) rfl)), rfl⟩
theorem qC_X0_take : Cond.code yX0_take cX0_take 4 (some .boolean) ∈ WW := List.mem_filter.mpr ⟨List.mem_append_right _ (List.mem_append_left _ (List.mem_of_getElem? (i := 179) rfl)), rfl⟩
theorem qM_X0_50 : Cond.methodLink RX0 50 yX0_requireAxiom ∈ WW := List.mem_filter.mpr ⟨List.mem_append_right _ (List.mem_append_left _ (List.mem_of_getElem? (i := 180) rfl)), rfl⟩
theorem qT_X0_requireAxiom : Cond.static yX0_requireAxiom ∈ WW := List.mem_filter.mpr ⟨List.mem_append_right _ (List.mem_append_left _ (List.mem_of_getElem? (i := 181) rfl)), rfl⟩
theorem qC_X0_requireAxiom : Cond.code yX0_requireAxiom cX0_requireAxiom 1 none ∈ WW := List.mem_filter.mpr ⟨List.mem_append_right _ (List.mem_append_left _ (List.mem_of_getElem? (i := 182) rfl)), rfl⟩
theorem qK_X0_161 : Cond.classLink RX0 161 "java/lang/IndexOutOfBoundsException" ∈ WW := List.mem_filter.mpr ⟨List.mem_append_right _ (List.mem_append_left _ (List.mem_of_getElem? (i := 183) rfl)), rfl⟩
theorem qX_IndexOutOfBoundsException : Cond.castable "java/lang/IndexOutOfBoundsException" "java/lang/IndexOutOfBoundsException" ∈ lw_tbl := List.mem_append_right _ (List.mem_append_left _ (List.mem_of_getElem? (i := 185) rfl))
theorem qA_byte : Cond.arrayClass .byte ∈ WW := List.mem_filter.mpr ⟨List.mem_append_right _ (List.mem_append_right _ (List.mem_append_left _ (List.mem_of_getElem? (i := 10) rfl))), rfl⟩
theorem qM_X0_54 : Cond.methodLink RX0 54 yX0_settle ∈ WW := List.mem_filter.mpr ⟨List.mem_append_right _ (List.mem_append_right _ (List.mem_append_left _ (List.mem_of_getElem? (i := 11) rfl))), rfl⟩
theorem qI_X0_settle : Cond.instanceMethod yX0_settle ∈ WW := List.mem_filter.mpr ⟨List.mem_append_right _ (List.mem_append_right _ (List.mem_append_left _ (List.mem_of_getElem? (i := 13) rfl))), rfl⟩
theorem qC_X0_settle : Cond.code yX0_settle cX0_settle 2 none ∈ WW := List.mem_filter.mpr ⟨List.mem_append_right _ (List.mem_append_right _ (List.mem_append_left _ (List.mem_of_getElem? (i := 14) rfl))), rfl⟩
theorem qM_X0_184 : Cond.methodLink RX0 184 yX0_reckon ∈ WW := List.mem_filter.mpr ⟨List.mem_append_right _ (List.mem_append_right _ (List.mem_append_left _ (List.mem_of_getElem? (i := 15) rfl))), rfl⟩
theorem qI_X0_reckon : Cond.instanceMethod yX0_reckon ∈ WW := List.mem_filter.mpr ⟨List.mem_append_right _ (List.mem_append_right _ (List.mem_append_left _ (List.mem_of_getElem? (i := 17) rfl))), rfl⟩
theorem qC_X0_reckon : Cond.code yX0_reckon cX0_reckon 4 none ∈ WW := List.mem_filter.mpr ⟨List.mem_append_right _ (List.mem_append_right _ (List.mem_append_left _ (List.mem_of_getElem? (i := 18) rfl))), rfl⟩
theorem qM_X0_209 : Cond.methodLink RX0 209 yX0_reckonRound ∈ WW := List.mem_filter.mpr ⟨List.mem_append_right _ (List.mem_append_right _ (List.mem_append_left _ (List.mem_of_getElem? (i := 19) rfl))), rfl⟩
theorem qI_X0_reckonRound : Cond.instanceMethod yX0_reckonRound ∈ WW := List.mem_filter.mpr ⟨List.mem_append_right _ (List.mem_append_right _ (List.mem_append_left _ (List.mem_of_getElem? (i := 21) rfl))), rfl⟩
theorem qC_X0_reckonRound : Cond.code yX0_reckonRound cX0_reckonRound 7 (some .boolean) ∈ WW := List.mem_filter.mpr ⟨List.mem_append_right _ (List.mem_append_right _ (List.mem_append_left _ (List.mem_of_getElem? (i := 22) rfl))), rfl⟩
theorem qM_X0_126 : Cond.methodLink RX0 126 yX0_costOfProof ∈ WW := List.mem_filter.mpr ⟨List.mem_append_right _ (List.mem_append_right _ (List.mem_append_left _ (List.mem_of_getElem? (i := 23) rfl))), rfl⟩
theorem qI_X0_costOfProof : Cond.instanceMethod yX0_costOfProof ∈ WW := List.mem_filter.mpr ⟨List.mem_append_right _ (List.mem_append_right _ (List.mem_append_left _ (List.mem_of_getElem? (i := 25) rfl))), rfl⟩
theorem qC_X0_costOfProof : Cond.code yX0_costOfProof cX0_costOfProof 6 (some .int) ∈ WW := List.mem_filter.mpr ⟨List.mem_append_right _ (List.mem_append_right _ (List.mem_append_left _ (List.mem_of_getElem? (i := 26) rfl))), rfl⟩
theorem qM_X0_213 : Cond.methodLink RX0 213 yX0_costOfStep ∈ WW := List.mem_filter.mpr ⟨List.mem_append_right _ (List.mem_append_right _ (List.mem_append_left _ (List.mem_of_getElem? (i := 27) rfl))), rfl⟩
theorem qI_X0_costOfStep : Cond.instanceMethod yX0_costOfStep ∈ WW := List.mem_filter.mpr ⟨List.mem_append_right _ (List.mem_append_right _ (List.mem_append_left _ (List.mem_of_getElem? (i := 29) rfl))), rfl⟩
theorem qC_X0_costOfStep : Cond.code yX0_costOfStep cX0_costOfStep 5 (some .int) ∈ WW := List.mem_filter.mpr ⟨List.mem_append_right _ (List.mem_append_right _ (List.mem_append_left _ (List.mem_of_getElem? (i := 30) rfl))), rfl⟩
theorem qM_X0_216 : Cond.methodLink RX0 216 Lib.Math.min.name ∈ WW := List.mem_filter.mpr ⟨List.mem_append_right _ (List.mem_append_right _ (List.mem_append_left _ (List.mem_of_getElem? (i := 31) rfl))), rfl⟩
theorem qT_mmin : Cond.static Lib.Math.min.name ∈ WW := List.mem_filter.mpr ⟨List.mem_append_right _ (List.mem_append_right _ (List.mem_append_left _ (List.mem_of_getElem? (i := 32) rfl))), rfl⟩
theorem qC_mmin : Cond.code Lib.Math.min.name Lib.Math.min.code 2 (some .int) ∈ WW := List.mem_filter.mpr ⟨List.mem_append_right _ (List.mem_append_right _ (List.mem_append_left _ (List.mem_of_getElem? (i := 33) rfl))), rfl⟩
theorem qM_X0_188 : Cond.methodLink RX0 188 yX0_lemmasCitedBy ∈ WW := List.mem_filter.mpr ⟨List.mem_append_right _ (List.mem_append_right _ (List.mem_append_left _ (List.mem_of_getElem? (i := 34) rfl))), rfl⟩
theorem qI_X0_lemmasCitedBy : Cond.instanceMethod yX0_lemmasCitedBy ∈ WW := List.mem_filter.mpr ⟨List.mem_append_right _ (List.mem_append_right _ (List.mem_append_left _ (List.mem_of_getElem? (i := 36) rfl))), rfl⟩
theorem qC_X0_lemmasCitedBy : Cond.code yX0_lemmasCitedBy cX0_lemmasCitedBy 6 (some .int) ∈ WW := List.mem_filter.mpr ⟨List.mem_append_right _ (List.mem_append_right _ (List.mem_append_left _ (List.mem_of_getElem? (i := 37) rfl))), rfl⟩
theorem qM_X0_191 : Cond.methodLink RX0 191 yX0_citesToItself ∈ WW := List.mem_filter.mpr ⟨List.mem_append_right _ (List.mem_append_right _ (List.mem_append_left _ (List.mem_of_getElem? (i := 38) rfl))), rfl⟩
theorem qI_X0_citesToItself : Cond.instanceMethod yX0_citesToItself ∈ WW := List.mem_filter.mpr ⟨List.mem_append_right _ (List.mem_append_right _ (List.mem_append_left _ (List.mem_of_getElem? (i := 40) rfl))), rfl⟩
theorem qC_X0_citesToItself : Cond.code yX0_citesToItself cX0_citesToItself 4 (some .int) ∈ WW := List.mem_filter.mpr ⟨List.mem_append_right _ (List.mem_append_right _ (List.mem_append_left _ (List.mem_of_getElem? (i := 41) rfl))), rfl⟩
theorem qM_X0_219 : Cond.methodLink RX0 219 yX0_isIn ∈ WW := List.mem_filter.mpr ⟨List.mem_append_right _ (List.mem_append_right _ (List.mem_append_left _ (List.mem_of_getElem? (i := 42) rfl))), rfl⟩
theorem qT_X0_isIn : Cond.static yX0_isIn ∈ WW := List.mem_filter.mpr ⟨List.mem_append_right _ (List.mem_append_right _ (List.mem_append_left _ (List.mem_of_getElem? (i := 43) rfl))), rfl⟩
theorem qC_X0_isIn : Cond.code yX0_isIn cX0_isIn 2 (some .boolean) ∈ WW := List.mem_filter.mpr ⟨List.mem_append_right _ (List.mem_append_right _ (List.mem_append_left _ (List.mem_of_getElem? (i := 44) rfl))), rfl⟩
theorem qM_X0_223 : Cond.methodLink RX0 223 yX0_lemmasCitedByAll ∈ WW := List.mem_filter.mpr ⟨List.mem_append_right _ (List.mem_append_right _ (List.mem_append_left _ (List.mem_of_getElem? (i := 45) rfl))), rfl⟩
theorem qI_X0_lemmasCitedByAll : Cond.instanceMethod yX0_lemmasCitedByAll ∈ WW := List.mem_filter.mpr ⟨List.mem_append_right _ (List.mem_append_right _ (List.mem_append_left _ (List.mem_of_getElem? (i := 47) rfl))), rfl⟩
theorem qC_X0_lemmasCitedByAll : Cond.code yX0_lemmasCitedByAll cX0_lemmasCitedByAll 4 (some .int) ∈ WW := List.mem_filter.mpr ⟨List.mem_append_right _ (List.mem_append_right _ (List.mem_append_left _ (List.mem_of_getElem? (i := 48) rfl))), rfl⟩
theorem qM_L_78 : Cond.methodLink RL 78 yL_lemma ∈ WW := List.mem_filter.mpr ⟨List.mem_append_right _ (List.mem_append_right _ (List.mem_append_left _ (List.mem_of_getElem? (i := 49) rfl))), rfl⟩
theorem qT_L_lemma : Cond.static yL_lemma ∈ WW := List.mem_filter.mpr ⟨List.mem_append_right _ (List.mem_append_right _ (List.mem_append_left _ (List.mem_of_getElem? (i := 50) rfl))), rfl⟩
theorem qCW_L_lemma : Cond.codeWith yL_lemma cL_lemma 3 (some .int) [((0), (8), (11), (19))] ∈ WW := List.mem_filter.mpr ⟨List.mem_append_right _ (List.mem_append_right _ (List.mem_append_left _ (List.mem_of_getElem? (i := 51) rfl))), rfl⟩
theorem qK_L_19 : Cond.classLink RL 19 "java/lang/IllegalStateException" ∈ WW := List.mem_filter.mpr ⟨List.mem_append_right _ (List.mem_append_right _ (List.mem_append_left _ (List.mem_of_getElem? (i := 52) rfl))), rfl⟩
theorem qM_L_15 : Cond.methodLink RL 15 yX0_lemma ∈ WW := List.mem_filter.mpr ⟨List.mem_append_right _ (List.mem_append_right _ (List.mem_append_left _ (List.mem_of_getElem? (i := 53) rfl))), rfl⟩
theorem qI_X0_lemma : Cond.instanceMethod yX0_lemma ∈ WW := List.mem_filter.mpr ⟨List.mem_append_right _ (List.mem_append_right _ (List.mem_append_left _ (List.mem_of_getElem? (i := 54) rfl))), rfl⟩
theorem qS_X0_lemma : Cond.selects RX0 yX0_lemma yX0_lemma ∈ WW := List.mem_filter.mpr ⟨List.mem_append_right _ (List.mem_append_right _ (List.mem_append_left _ (List.mem_of_getElem? (i := 55) rfl))), rfl⟩
theorem qC_X0_lemma : Cond.code yX0_lemma cX0_lemma 1 (some .int) ∈ WW := List.mem_filter.mpr ⟨List.mem_append_right _ (List.mem_append_right _ (List.mem_append_left _ (List.mem_of_getElem? (i := 56) rfl))), rfl⟩
theorem qK_X0_61 : Cond.classLink RX0 61 "java/lang/IllegalStateException" ∈ WW := List.mem_filter.mpr ⟨List.mem_append_right _ (List.mem_append_right _ (List.mem_append_left _ (List.mem_of_getElem? (i := 57) rfl))), rfl⟩
theorem qX_IllegalStateException : Cond.castable "java/lang/IllegalStateException" "java/lang/IllegalStateException" ∈ lw_tbl := List.mem_append_right _ (List.mem_append_right _ (List.mem_append_left _ (List.mem_of_getElem? (i := 59) rfl)))
theorem qM_L_82 : Cond.methodLink RL 82 yL_proof ∈ WW := List.mem_filter.mpr ⟨List.mem_append_right _ (List.mem_append_right _ (List.mem_append_left _ (List.mem_of_getElem? (i := 73) rfl))), rfl⟩
theorem qT_L_proof : Cond.static yL_proof ∈ WW := List.mem_filter.mpr ⟨List.mem_append_right _ (List.mem_append_right _ (List.mem_append_left _ (List.mem_of_getElem? (i := 74) rfl))), rfl⟩
theorem qCW_L_proof : Cond.codeWith yL_proof cL_proof 4 (some .int) [((0), (9), (12), (13)), ((0), (9), (15), (19))] ∈ WW := List.mem_filter.mpr ⟨List.mem_append_right _ (List.mem_append_right _ (List.mem_append_left _ (List.mem_of_getElem? (i := 75) rfl))), rfl⟩
theorem qM_L_21 : Cond.methodLink RL 21 yX0_proof ∈ WW := List.mem_filter.mpr ⟨List.mem_append_right _ (List.mem_append_right _ (List.mem_append_left _ (List.mem_of_getElem? (i := 76) rfl))), rfl⟩
theorem qI_X0_proof : Cond.instanceMethod yX0_proof ∈ WW := List.mem_filter.mpr ⟨List.mem_append_right _ (List.mem_append_right _ (List.mem_append_left _ (List.mem_of_getElem? (i := 77) rfl))), rfl⟩
theorem qS_X0_proof : Cond.selects RX0 yX0_proof yX0_proof ∈ WW := List.mem_filter.mpr ⟨List.mem_append_right _ (List.mem_append_right _ (List.mem_append_left _ (List.mem_of_getElem? (i := 78) rfl))), rfl⟩
theorem qC_X0_proof : Cond.code yX0_proof cX0_proof 3 (some .int) ∈ WW := List.mem_filter.mpr ⟨List.mem_append_right _ (List.mem_append_right _ (List.mem_append_left _ (List.mem_of_getElem? (i := 79) rfl))), rfl⟩
theorem qM_X0_68 : Cond.methodLink RX0 68 yX0_requireLemma ∈ WW := List.mem_filter.mpr ⟨List.mem_append_right _ (List.mem_append_right _ (List.mem_append_left _ (List.mem_of_getElem? (i := 80) rfl))), rfl⟩
theorem qI_X0_requireLemma : Cond.instanceMethod yX0_requireLemma ∈ WW := List.mem_filter.mpr ⟨List.mem_append_right _ (List.mem_append_right _ (List.mem_append_left _ (List.mem_of_getElem? (i := 82) rfl))), rfl⟩
theorem qC_X0_requireLemma : Cond.code yX0_requireLemma cX0_requireLemma 2 none ∈ WW := List.mem_filter.mpr ⟨List.mem_append_right _ (List.mem_append_right _ (List.mem_append_left _ (List.mem_of_getElem? (i := 83) rfl))), rfl⟩
theorem qM_L_86 : Cond.methodLink RL 86 yL_cite ∈ WW := List.mem_filter.mpr ⟨List.mem_append_right _ (List.mem_append_right _ (List.mem_append_left _ (List.mem_of_getElem? (i := 86) rfl))), rfl⟩
theorem qT_L_cite : Cond.static yL_cite ∈ WW := List.mem_filter.mpr ⟨List.mem_append_right _ (List.mem_append_right _ (List.mem_append_left _ (List.mem_of_getElem? (i := 87) rfl))), rfl⟩
theorem qCW_L_cite : Cond.codeWith yL_cite cL_cite 7 (some .int) [((0), (14), (17), (13)), ((0), (14), (21), (29)), ((0), (14), (25), (19))] ∈ WW := List.mem_filter.mpr ⟨List.mem_append_right _ (List.mem_append_right _ (List.mem_append_left _ (List.mem_of_getElem? (i := 88) rfl))), rfl⟩
theorem qK_L_29 : Cond.classLink RL 29 "java/lang/IllegalArgumentException" ∈ WW := List.mem_filter.mpr ⟨List.mem_append_right _ (List.mem_append_right _ (List.mem_append_left _ (List.mem_of_getElem? (i := 89) rfl))), rfl⟩
theorem qM_L_25 : Cond.methodLink RL 25 yX0_cite ∈ WW := List.mem_filter.mpr ⟨List.mem_append_right _ (List.mem_append_right _ (List.mem_append_left _ (List.mem_of_getElem? (i := 90) rfl))), rfl⟩
theorem qI_X0_cite : Cond.instanceMethod yX0_cite ∈ WW := List.mem_filter.mpr ⟨List.mem_append_right _ (List.mem_append_right _ (List.mem_append_left _ (List.mem_of_getElem? (i := 91) rfl))), rfl⟩
theorem qS_X0_cite : Cond.selects RX0 yX0_cite yX0_cite ∈ WW := List.mem_filter.mpr ⟨List.mem_append_right _ (List.mem_append_right _ (List.mem_append_left _ (List.mem_of_getElem? (i := 92) rfl))), rfl⟩
theorem qC_X0_cite : Cond.code yX0_cite cX0_cite 7 (some .int) ∈ WW := List.mem_filter.mpr ⟨List.mem_append_right _ (List.mem_append_right _ (List.mem_append_left _ (List.mem_of_getElem? (i := 93) rfl))), rfl⟩
theorem qM_X0_77 : Cond.methodLink RX0 77 yX0_requireProof ∈ WW := List.mem_filter.mpr ⟨List.mem_append_right _ (List.mem_append_right _ (List.mem_append_left _ (List.mem_of_getElem? (i := 94) rfl))), rfl⟩
theorem qI_X0_requireProof : Cond.instanceMethod yX0_requireProof ∈ WW := List.mem_filter.mpr ⟨List.mem_append_right _ (List.mem_append_right _ (List.mem_append_left _ (List.mem_of_getElem? (i := 96) rfl))), rfl⟩
theorem qC_X0_requireProof : Cond.code yX0_requireProof cX0_requireProof 3 none ∈ WW := List.mem_filter.mpr ⟨List.mem_append_right _ (List.mem_append_right _ (List.mem_append_left _ (List.mem_of_getElem? (i := 97) rfl))), rfl⟩
theorem qM_X0_81 : Cond.methodLink RX0 81 yX0_requireCitable ∈ WW := List.mem_filter.mpr ⟨List.mem_append_right _ (List.mem_append_right _ (List.mem_append_left _ (List.mem_of_getElem? (i := 99) rfl))), rfl⟩
theorem qI_X0_requireCitable : Cond.instanceMethod yX0_requireCitable ∈ WW := List.mem_filter.mpr ⟨List.mem_append_right _ (List.mem_append_right _ (List.mem_append_left _ (List.mem_of_getElem? (i := 101) rfl))), rfl⟩
theorem qC_X0_requireCitable : Cond.code yX0_requireCitable cX0_requireCitable 3 none ∈ WW := List.mem_filter.mpr ⟨List.mem_append_right _ (List.mem_append_right _ (List.mem_append_left _ (List.mem_of_getElem? (i := 102) rfl))), rfl⟩
theorem qK_X0_94 : Cond.classLink RX0 94 "java/lang/IllegalArgumentException" ∈ WW := List.mem_filter.mpr ⟨List.mem_append_right _ (List.mem_append_right _ (List.mem_append_left _ (List.mem_of_getElem? (i := 104) rfl))), rfl⟩
theorem qX_IllegalArgumentException : Cond.castable "java/lang/IllegalArgumentException" "java/lang/IllegalArgumentException" ∈ lw_tbl := List.mem_append_right _ (List.mem_append_right _ (List.mem_append_left _ (List.mem_of_getElem? (i := 106) rfl)))
theorem qM_L_90 : Cond.methodLink RL 90 yL_patch ∈ WW := List.mem_filter.mpr ⟨List.mem_append_right _ (List.mem_append_right _ (List.mem_append_left _ (List.mem_of_getElem? (i := 121) rfl))), rfl⟩
theorem qT_L_patch : Cond.static yL_patch ∈ WW := List.mem_filter.mpr ⟨List.mem_append_right _ (List.mem_append_right _ (List.mem_append_left _ (List.mem_of_getElem? (i := 122) rfl))), rfl⟩
theorem qCW_L_patch : Cond.codeWith yL_patch cL_patch 7 (some .int) [((0), (14), (17), (13)), ((0), (14), (21), (29)), ((0), (14), (25), (19))] ∈ WW := List.mem_filter.mpr ⟨List.mem_append_right _ (List.mem_append_right _ (List.mem_append_left _ (List.mem_of_getElem? (i := 123) rfl))), rfl⟩
theorem qM_L_31 : Cond.methodLink RL 31 yX0_patch ∈ WW := List.mem_filter.mpr ⟨List.mem_append_right _ (List.mem_append_right _ (List.mem_append_left _ (List.mem_of_getElem? (i := 124) rfl))), rfl⟩
theorem qI_X0_patch : Cond.instanceMethod yX0_patch ∈ WW := List.mem_filter.mpr ⟨List.mem_append_right _ (List.mem_append_right _ (List.mem_append_left _ (List.mem_of_getElem? (i := 125) rfl))), rfl⟩
theorem qS_X0_patch : Cond.selects RX0 yX0_patch yX0_patch ∈ WW := List.mem_filter.mpr ⟨List.mem_append_right _ (List.mem_append_right _ (List.mem_append_left _ (List.mem_of_getElem? (i := 126) rfl))), rfl⟩
theorem qC_X0_patch : Cond.code yX0_patch cX0_patch 6 (some .int) ∈ WW := List.mem_filter.mpr ⟨List.mem_append_right _ (List.mem_append_right _ (List.mem_append_left _ (List.mem_of_getElem? (i := 127) rfl))), rfl⟩
theorem qM_X0_90 : Cond.methodLink RX0 90 yX0_requireStep ∈ WW := List.mem_filter.mpr ⟨List.mem_append_right _ (List.mem_append_right _ (List.mem_append_left _ (List.mem_of_getElem? (i := 128) rfl))), rfl⟩
theorem qI_X0_requireStep : Cond.instanceMethod yX0_requireStep ∈ WW := List.mem_filter.mpr ⟨List.mem_append_right _ (List.mem_append_right _ (List.mem_append_left _ (List.mem_of_getElem? (i := 130) rfl))), rfl⟩
theorem qC_X0_requireStep : Cond.code yX0_requireStep cX0_requireStep 4 none ∈ WW := List.mem_filter.mpr ⟨List.mem_append_right _ (List.mem_append_right _ (List.mem_append_left _ (List.mem_of_getElem? (i := 131) rfl))), rfl⟩
theorem qM_X0_105 : Cond.methodLink RX0 105 Lib.Math.max.name ∈ WW := List.mem_filter.mpr ⟨List.mem_append_right _ (List.mem_append_right _ (List.mem_append_left _ (List.mem_of_getElem? (i := 135) rfl))), rfl⟩
theorem qT_mmax : Cond.static Lib.Math.max.name ∈ WW := List.mem_filter.mpr ⟨List.mem_append_right _ (List.mem_append_right _ (List.mem_append_left _ (List.mem_of_getElem? (i := 136) rfl))), rfl⟩
theorem qC_mmax : Cond.code Lib.Math.max.name Lib.Math.max.code 2 (some .int) ∈ WW := List.mem_filter.mpr ⟨List.mem_append_right _ (List.mem_append_right _ (List.mem_append_left _ (List.mem_of_getElem? (i := 137) rfl))), rfl⟩
theorem qM_L_93 : Cond.methodLink RL 93 yL_withdraw ∈ WW := List.mem_filter.mpr ⟨List.mem_append_right _ (List.mem_append_right _ (List.mem_append_left _ (List.mem_of_getElem? (i := 138) rfl))), rfl⟩
theorem qT_L_withdraw : Cond.static yL_withdraw ∈ WW := List.mem_filter.mpr ⟨List.mem_append_right _ (List.mem_append_right _ (List.mem_append_left _ (List.mem_of_getElem? (i := 139) rfl))), rfl⟩
theorem qCW_L_withdraw : Cond.codeWith yL_withdraw cL_withdraw 6 (some .int) [((0), (19), (22), (13))] ∈ WW := List.mem_filter.mpr ⟨List.mem_append_right _ (List.mem_append_right _ (List.mem_append_left _ (List.mem_of_getElem? (i := 140) rfl))), rfl⟩
theorem qM_L_34 : Cond.methodLink RL 34 yX0_withdraw ∈ WW := List.mem_filter.mpr ⟨List.mem_append_right _ (List.mem_append_right _ (List.mem_append_left _ (List.mem_of_getElem? (i := 141) rfl))), rfl⟩
theorem qI_X0_withdraw : Cond.instanceMethod yX0_withdraw ∈ WW := List.mem_filter.mpr ⟨List.mem_append_right _ (List.mem_append_right _ (List.mem_append_left _ (List.mem_of_getElem? (i := 142) rfl))), rfl⟩
theorem qS_X0_withdraw : Cond.selects RX0 yX0_withdraw yX0_withdraw ∈ WW := List.mem_filter.mpr ⟨List.mem_append_right _ (List.mem_append_right _ (List.mem_append_left _ (List.mem_of_getElem? (i := 143) rfl))), rfl⟩
theorem qC_X0_withdraw : Cond.code yX0_withdraw cX0_withdraw 5 (some .boolean) ∈ WW := List.mem_filter.mpr ⟨List.mem_append_right _ (List.mem_append_right _ (List.mem_append_left _ (List.mem_of_getElem? (i := 144) rfl))), rfl⟩
theorem qM_L_97 : Cond.methodLink RL 97 yL_strike ∈ WW := List.mem_filter.mpr ⟨List.mem_append_right _ (List.mem_append_right _ (List.mem_append_left _ (List.mem_of_getElem? (i := 145) rfl))), rfl⟩
theorem qT_L_strike : Cond.static yL_strike ∈ WW := List.mem_filter.mpr ⟨List.mem_append_right _ (List.mem_append_right _ (List.mem_append_left _ (List.mem_of_getElem? (i := 146) rfl))), rfl⟩
theorem qCW_L_strike : Cond.codeWith yL_strike cL_strike 5 (some .int) [((0), (10), (13), (13))] ∈ WW := List.mem_filter.mpr ⟨List.mem_append_right _ (List.mem_append_right _ (List.mem_append_left _ (List.mem_of_getElem? (i := 147) rfl))), rfl⟩
theorem qM_L_38 : Cond.methodLink RL 38 yX0_strike ∈ WW := List.mem_filter.mpr ⟨List.mem_append_right _ (List.mem_append_right _ (List.mem_append_left _ (List.mem_of_getElem? (i := 148) rfl))), rfl⟩
theorem qI_X0_strike : Cond.instanceMethod yX0_strike ∈ WW := List.mem_filter.mpr ⟨List.mem_append_right _ (List.mem_append_right _ (List.mem_append_left _ (List.mem_of_getElem? (i := 149) rfl))), rfl⟩
theorem qS_X0_strike : Cond.selects RX0 yX0_strike yX0_strike ∈ WW := List.mem_filter.mpr ⟨List.mem_append_right _ (List.mem_append_right _ (List.mem_append_left _ (List.mem_of_getElem? (i := 150) rfl))), rfl⟩
theorem qC_X0_strike : Cond.code yX0_strike cX0_strike 4 (some .int) ∈ WW := List.mem_filter.mpr ⟨List.mem_append_right _ (List.mem_append_right _ (List.mem_append_left _ (List.mem_of_getElem? (i := 151) rfl))), rfl⟩
theorem qM_X0_110 : Cond.methodLink RX0 110 yX0_moveUp ∈ WW := List.mem_filter.mpr ⟨List.mem_append_right _ (List.mem_append_right _ (List.mem_append_left _ (List.mem_of_getElem? (i := 152) rfl))), rfl⟩
theorem qI_X0_moveUp : Cond.instanceMethod yX0_moveUp ∈ WW := List.mem_filter.mpr ⟨List.mem_append_right _ (List.mem_append_right _ (List.mem_append_left _ (List.mem_of_getElem? (i := 154) rfl))), rfl⟩
theorem qC_X0_moveUp : Cond.code yX0_moveUp cX0_moveUp 5 none ∈ WW := List.mem_filter.mpr ⟨List.mem_append_right _ (List.mem_append_right _ (List.mem_append_left _ (List.mem_of_getElem? (i := 155) rfl))), rfl⟩
theorem qM_L_101 : Cond.methodLink RL 101 yL_told ∈ WW := List.mem_filter.mpr ⟨List.mem_append_right _ (List.mem_append_right _ (List.mem_append_left _ (List.mem_of_getElem? (i := 156) rfl))), rfl⟩
theorem qT_L_told : Cond.static yL_told ∈ WW := List.mem_filter.mpr ⟨List.mem_append_right _ (List.mem_append_right _ (List.mem_append_left _ (List.mem_of_getElem? (i := 157) rfl))), rfl⟩
theorem qCW_L_told : Cond.codeWith yL_told cL_told 5 (some .int) [((0), (10), (13), (13))] ∈ WW := List.mem_filter.mpr ⟨List.mem_append_right _ (List.mem_append_right _ (List.mem_append_left _ (List.mem_of_getElem? (i := 158) rfl))), rfl⟩
theorem qM_L_42 : Cond.methodLink RL 42 yX0_told ∈ WW := List.mem_filter.mpr ⟨List.mem_append_right _ (List.mem_append_right _ (List.mem_append_left _ (List.mem_of_getElem? (i := 159) rfl))), rfl⟩
theorem qI_X0_told : Cond.instanceMethod yX0_told ∈ WW := List.mem_filter.mpr ⟨List.mem_append_right _ (List.mem_append_right _ (List.mem_append_left _ (List.mem_of_getElem? (i := 160) rfl))), rfl⟩
theorem qS_X0_told : Cond.selects RX0 yX0_told yX0_told ∈ WW := List.mem_filter.mpr ⟨List.mem_append_right _ (List.mem_append_right _ (List.mem_append_left _ (List.mem_of_getElem? (i := 161) rfl))), rfl⟩
theorem qC_X0_told : Cond.code yX0_told cX0_told 3 (some .int) ∈ WW := List.mem_filter.mpr ⟨List.mem_append_right _ (List.mem_append_right _ (List.mem_append_left _ (List.mem_of_getElem? (i := 162) rfl))), rfl⟩
theorem qM_X0_113 : Cond.methodLink RX0 113 yX0_requireAsk ∈ WW := List.mem_filter.mpr ⟨List.mem_append_right _ (List.mem_append_right _ (List.mem_append_left _ (List.mem_of_getElem? (i := 163) rfl))), rfl⟩
theorem qT_X0_requireAsk : Cond.static yX0_requireAsk ∈ WW := List.mem_filter.mpr ⟨List.mem_append_right _ (List.mem_append_right _ (List.mem_append_left _ (List.mem_of_getElem? (i := 164) rfl))), rfl⟩
theorem qC_X0_requireAsk : Cond.code yX0_requireAsk cX0_requireAsk 2 none ∈ WW := List.mem_filter.mpr ⟨List.mem_append_right _ (List.mem_append_right _ (List.mem_append_left _ (List.mem_of_getElem? (i := 165) rfl))), rfl⟩
theorem qM_L_104 : Cond.methodLink RL 104 yL_step ∈ WW := List.mem_filter.mpr ⟨List.mem_append_right _ (List.mem_append_right _ (List.mem_append_left _ (List.mem_of_getElem? (i := 167) rfl))), rfl⟩
theorem qT_L_step : Cond.static yL_step ∈ WW := List.mem_filter.mpr ⟨List.mem_append_right _ (List.mem_append_right _ (List.mem_append_left _ (List.mem_of_getElem? (i := 168) rfl))), rfl⟩
theorem qCW_L_step : Cond.codeWith yL_step cL_step 7 (some .int) [((0), (14), (17), (13))] ∈ WW := List.mem_filter.mpr ⟨List.mem_append_right _ (List.mem_append_right _ (List.mem_append_left _ (List.mem_of_getElem? (i := 169) rfl))), rfl⟩
theorem qM_L_45 : Cond.methodLink RL 45 yX0_step ∈ WW := List.mem_filter.mpr ⟨List.mem_append_right _ (List.mem_append_right _ (List.mem_append_left _ (List.mem_of_getElem? (i := 170) rfl))), rfl⟩
theorem qI_X0_step : Cond.instanceMethod yX0_step ∈ WW := List.mem_filter.mpr ⟨List.mem_append_right _ (List.mem_append_right _ (List.mem_append_left _ (List.mem_of_getElem? (i := 171) rfl))), rfl⟩
theorem qS_X0_step : Cond.selects RX0 yX0_step yX0_step ∈ WW := List.mem_filter.mpr ⟨List.mem_append_right _ (List.mem_append_right _ (List.mem_append_left _ (List.mem_of_getElem? (i := 172) rfl))), rfl⟩
theorem qC_X0_step : Cond.code yX0_step cX0_step 5 (some .int) ∈ WW := List.mem_filter.mpr ⟨List.mem_append_right _ (List.mem_append_right _ (List.mem_append_left _ (List.mem_of_getElem? (i := 173) rfl))), rfl⟩
theorem qM_L_107 : Cond.methodLink RL 107 yL_about ∈ WW := List.mem_filter.mpr ⟨List.mem_append_right _ (List.mem_append_right _ (List.mem_append_left _ (List.mem_of_getElem? (i := 174) rfl))), rfl⟩
theorem qT_L_about : Cond.static yL_about ∈ WW := List.mem_filter.mpr ⟨List.mem_append_right _ (List.mem_append_right _ (List.mem_append_left _ (List.mem_of_getElem? (i := 175) rfl))), rfl⟩
theorem qCW_L_about : Cond.codeWith yL_about cL_about 6 (some .int) [((0), (12), (15), (13))] ∈ WW := List.mem_filter.mpr ⟨List.mem_append_right _ (List.mem_append_right _ (List.mem_append_left _ (List.mem_of_getElem? (i := 176) rfl))), rfl⟩
theorem qM_L_48 : Cond.methodLink RL 48 yX0_about ∈ WW := List.mem_filter.mpr ⟨List.mem_append_right _ (List.mem_append_right _ (List.mem_append_left _ (List.mem_of_getElem? (i := 177) rfl))), rfl⟩
theorem qI_X0_about : Cond.instanceMethod yX0_about ∈ WW := List.mem_filter.mpr ⟨List.mem_append_right _ (List.mem_append_right _ (List.mem_append_left _ (List.mem_of_getElem? (i := 178) rfl))), rfl⟩
theorem qS_X0_about : Cond.selects RX0 yX0_about yX0_about ∈ WW := List.mem_filter.mpr ⟨List.mem_append_right _ (List.mem_append_right _ (List.mem_append_left _ (List.mem_of_getElem? (i := 179) rfl))), rfl⟩
theorem qC_X0_about : Cond.code yX0_about cX0_about 5 (some .int) ∈ WW := List.mem_filter.mpr ⟨List.mem_append_right _ (List.mem_append_right _ (List.mem_append_left _ (List.mem_of_getElem? (i := 180) rfl))), rfl⟩
theorem qM_L_110 : Cond.methodLink RL 110 yL_count ∈ WW := List.mem_filter.mpr ⟨List.mem_append_right _ (List.mem_append_right _ (List.mem_append_left _ (List.mem_of_getElem? (i := 181) rfl))), rfl⟩
theorem qT_L_count : Cond.static yL_count ∈ WW := List.mem_filter.mpr ⟨List.mem_append_right _ (List.mem_append_right _ (List.mem_append_left _ (List.mem_of_getElem? (i := 182) rfl))), rfl⟩
theorem qCW_L_count : Cond.codeWith yL_count cL_count 4 (some .int) [((0), (9), (12), (13))] ∈ WW := List.mem_filter.mpr ⟨List.mem_append_right _ (List.mem_append_right _ (List.mem_append_left _ (List.mem_of_getElem? (i := 183) rfl))), rfl⟩
theorem qM_L_52 : Cond.methodLink RL 52 yX0_count ∈ WW := List.mem_filter.mpr ⟨List.mem_append_right _ (List.mem_append_right _ (List.mem_append_left _ (List.mem_of_getElem? (i := 184) rfl))), rfl⟩
theorem qI_X0_count : Cond.instanceMethod yX0_count ∈ WW := List.mem_filter.mpr ⟨List.mem_append_right _ (List.mem_append_right _ (List.mem_append_left _ (List.mem_of_getElem? (i := 185) rfl))), rfl⟩
theorem qS_X0_count : Cond.selects RX0 yX0_count yX0_count ∈ WW := List.mem_filter.mpr ⟨List.mem_append_right _ (List.mem_append_right _ (List.mem_append_left _ (List.mem_of_getElem? (i := 186) rfl))), rfl⟩
theorem qC_X0_count : Cond.code yX0_count cX0_count 2 (some .int) ∈ WW := List.mem_filter.mpr ⟨List.mem_append_right _ (List.mem_append_right _ (List.mem_append_left _ (List.mem_of_getElem? (i := 187) rfl))), rfl⟩
theorem qM_L_113 : Cond.methodLink RL 113 yL_best ∈ WW := List.mem_filter.mpr ⟨List.mem_append_right _ (List.mem_append_right _ (List.mem_append_left _ (List.mem_of_getElem? (i := 188) rfl))), rfl⟩
theorem qT_L_best : Cond.static yL_best ∈ WW := List.mem_filter.mpr ⟨List.mem_append_right _ (List.mem_append_right _ (List.mem_append_left _ (List.mem_of_getElem? (i := 189) rfl))), rfl⟩
theorem qCW_L_best : Cond.codeWith yL_best cL_best 4 (some .int) [((0), (9), (12), (13))] ∈ WW := List.mem_filter.mpr ⟨List.mem_append_right _ (List.mem_append_right _ (List.mem_append_left _ (List.mem_of_getElem? (i := 190) rfl))), rfl⟩
theorem qM_L_55 : Cond.methodLink RL 55 yX0_best ∈ WW := List.mem_filter.mpr ⟨List.mem_append_right _ (List.mem_append_right _ (List.mem_append_left _ (List.mem_of_getElem? (i := 191) rfl))), rfl⟩
theorem qI_X0_best : Cond.instanceMethod yX0_best ∈ WW := List.mem_filter.mpr ⟨List.mem_append_right _ (List.mem_append_right _ (List.mem_append_left _ (List.mem_of_getElem? (i := 192) rfl))), rfl⟩
theorem qS_X0_best : Cond.selects RX0 yX0_best yX0_best ∈ WW := List.mem_filter.mpr ⟨List.mem_append_right _ (List.mem_append_right _ (List.mem_append_left _ (List.mem_of_getElem? (i := 193) rfl))), rfl⟩
theorem qC_X0_best : Cond.code yX0_best cX0_best 6 (some .int) ∈ WW := List.mem_filter.mpr ⟨List.mem_append_right _ (List.mem_append_right _ (List.mem_append_left _ (List.mem_of_getElem? (i := 194) rfl))), rfl⟩
theorem qM_L_116 : Cond.methodLink RL 116 yL_without ∈ WW := List.mem_filter.mpr ⟨List.mem_append_right _ (List.mem_append_right _ (List.mem_append_left _ (List.mem_of_getElem? (i := 195) rfl))), rfl⟩
theorem qT_L_without : Cond.static yL_without ∈ WW := List.mem_filter.mpr ⟨List.mem_append_right _ (List.mem_append_right _ (List.mem_append_left _ (List.mem_of_getElem? (i := 196) rfl))), rfl⟩
theorem qCW_L_without : Cond.codeWith yL_without cL_without 4 (some .int) [((0), (9), (12), (13))] ∈ WW := List.mem_filter.mpr ⟨List.mem_append_right _ (List.mem_append_right _ (List.mem_append_left _ (List.mem_of_getElem? (i := 197) rfl))), rfl⟩
theorem qM_L_58 : Cond.methodLink RL 58 yX0_without ∈ WW := List.mem_filter.mpr ⟨List.mem_append_right _ (List.mem_append_right _ (List.mem_append_left _ (List.mem_of_getElem? (i := 198) rfl))), rfl⟩
theorem qI_X0_without : Cond.instanceMethod yX0_without ∈ WW := List.mem_filter.mpr ⟨List.mem_append_right _ (List.mem_append_right _ (List.mem_append_left _ (List.mem_of_getElem? (i := 199) rfl))), rfl⟩
theorem qS_X0_without : Cond.selects RX0 yX0_without yX0_without ∈ WW := List.mem_filter.mpr ⟨List.mem_append_right _ (List.mem_append_right _ (List.mem_append_left _ (List.mem_of_getElem? (i := 200) rfl))), rfl⟩
theorem qC_X0_without : Cond.code yX0_without cX0_without 2 (some .int) ∈ WW := List.mem_filter.mpr ⟨List.mem_append_right _ (List.mem_append_right _ (List.mem_append_left _ (List.mem_of_getElem? (i := 201) rfl))), rfl⟩
theorem qM_L_119 : Cond.methodLink RL 119 yL_needs ∈ WW := List.mem_filter.mpr ⟨List.mem_append_right _ (List.mem_append_right _ (List.mem_append_left _ (List.mem_of_getElem? (i := 202) rfl))), rfl⟩
theorem qT_L_needs : Cond.static yL_needs ∈ WW := List.mem_filter.mpr ⟨List.mem_append_right _ (List.mem_append_right _ (List.mem_append_left _ (List.mem_of_getElem? (i := 203) rfl))), rfl⟩
theorem qCW_L_needs : Cond.codeWith yL_needs cL_needs 5 (some .int) [((0), (17), (20), (13))] ∈ WW := List.mem_filter.mpr ⟨List.mem_append_right _ (List.mem_append_right _ (List.mem_append_left _ (List.mem_of_getElem? (i := 204) rfl))), rfl⟩
theorem qM_L_61 : Cond.methodLink RL 61 yX0_needs ∈ WW := List.mem_filter.mpr ⟨List.mem_append_right _ (List.mem_append_right _ (List.mem_append_left _ (List.mem_of_getElem? (i := 205) rfl))), rfl⟩
theorem qI_X0_needs : Cond.instanceMethod yX0_needs ∈ WW := List.mem_filter.mpr ⟨List.mem_append_right _ (List.mem_append_right _ (List.mem_append_left _ (List.mem_of_getElem? (i := 206) rfl))), rfl⟩
theorem qS_X0_needs : Cond.selects RX0 yX0_needs yX0_needs ∈ WW := List.mem_filter.mpr ⟨List.mem_append_right _ (List.mem_append_right _ (List.mem_append_left _ (List.mem_of_getElem? (i := 207) rfl))), rfl⟩
theorem qC_X0_needs : Cond.code yX0_needs cX0_needs 4 (some .boolean) ∈ WW := List.mem_filter.mpr ⟨List.mem_append_right _ (List.mem_append_right _ (List.mem_append_left _ (List.mem_of_getElem? (i := 208) rfl))), rfl⟩
theorem qK_L_66 : Cond.classLink RL 66 RX1 ∈ WW := List.mem_filter.mpr ⟨List.mem_append_right _ (List.mem_append_right _ (List.mem_append_left _ (List.mem_of_getElem? (i := 209) rfl))), rfl⟩
theorem qB_X1 : Cond.instantiable RX1 13 ∈ WW := List.mem_filter.mpr ⟨List.mem_append_right _ (List.mem_append_right _ (List.mem_append_left _ (List.mem_of_getElem? (i := 210) rfl))), rfl⟩
theorem qM_L_68 : Cond.methodLink RL 68 yX1_init ∈ WW := List.mem_filter.mpr ⟨List.mem_append_right _ (List.mem_append_right _ (List.mem_append_left _ (List.mem_of_getElem? (i := 211) rfl))), rfl⟩
theorem qI_X1_init : Cond.instanceMethod yX1_init ∈ WW := List.mem_filter.mpr ⟨List.mem_append_right _ (List.mem_append_right _ (List.mem_append_left _ (List.mem_of_getElem? (i := 212) rfl))), rfl⟩
theorem qC_X1_init : Cond.code yX1_init cX1_init 2 none ∈ WW := List.mem_filter.mpr ⟨List.mem_append_right _ (List.mem_append_right _ (List.mem_append_left _ (List.mem_of_getElem? (i := 213) rfl))), rfl⟩
theorem qM_X1_1 : Cond.methodLink RX1 1 objectInit ∈ WW := List.mem_filter.mpr ⟨List.mem_append_right _ (List.mem_append_right _ (List.mem_append_left _ (List.mem_of_getElem? (i := 214) rfl))), rfl⟩
theorem qF_X1_44 : Cond.fieldLink RX1 44 "LodgeProofsModel" "thrown" "I" ∈ WW := List.mem_filter.mpr ⟨List.mem_append_right _ (List.mem_append_right _ (List.mem_append_left _ (List.mem_of_getElem? (i := 215) rfl))), rfl⟩
theorem qF_X1_52 : Cond.fieldLink RX1 52 "LodgeProofsModel" "lemmas" "I" ∈ WW := List.mem_filter.mpr ⟨List.mem_append_right _ (List.mem_append_right _ (List.mem_append_left _ (List.mem_of_getElem? (i := 216) rfl))), rfl⟩
theorem qF_X1_9 : Cond.fieldLink RX1 9 "LodgeProofsModel" "taken" "[Z" ∈ WW := List.mem_filter.mpr ⟨List.mem_append_right _ (List.mem_append_right _ (List.mem_append_left _ (List.mem_of_getElem? (i := 217) rfl))), rfl⟩
theorem qF_X1_13 : Cond.fieldLink RX1 13 "LodgeProofsModel" "proofs" "[I" ∈ WW := List.mem_filter.mpr ⟨List.mem_append_right _ (List.mem_append_right _ (List.mem_append_left _ (List.mem_of_getElem? (i := 218) rfl))), rfl⟩
theorem qF_X1_17 : Cond.fieldLink RX1 17 "LodgeProofsModel" "steps" "[I" ∈ WW := List.mem_filter.mpr ⟨List.mem_append_right _ (List.mem_append_right _ (List.mem_append_left _ (List.mem_of_getElem? (i := 219) rfl))), rfl⟩
theorem qF_X1_20 : Cond.fieldLink RX1 20 "LodgeProofsModel" "kind" "[I" ∈ WW := List.mem_filter.mpr ⟨List.mem_append_right _ (List.mem_append_right _ (List.mem_append_left _ (List.mem_of_getElem? (i := 220) rfl))), rfl⟩
theorem qF_X1_23 : Cond.fieldLink RX1 23 "LodgeProofsModel" "cited" "[I" ∈ WW := List.mem_filter.mpr ⟨List.mem_append_right _ (List.mem_append_right _ (List.mem_append_left _ (List.mem_of_getElem? (i := 221) rfl))), rfl⟩
theorem qF_X1_26 : Cond.fieldLink RX1 26 "LodgeProofsModel" "open" "[I" ∈ WW := List.mem_filter.mpr ⟨List.mem_append_right _ (List.mem_append_right _ (List.mem_append_left _ (List.mem_of_getElem? (i := 222) rfl))), rfl⟩
theorem qF_X1_29 : Cond.fieldLink RX1 29 "LodgeProofsModel" "isOut" "[Z" ∈ WW := List.mem_filter.mpr ⟨List.mem_append_right _ (List.mem_append_right _ (List.mem_append_left _ (List.mem_of_getElem? (i := 223) rfl))), rfl⟩
theorem qF_X1_32 : Cond.fieldLink RX1 32 "LodgeProofsModel" "stage" "[I" ∈ WW := List.mem_filter.mpr ⟨List.mem_append_right _ (List.mem_append_right _ (List.mem_append_left _ (List.mem_of_getElem? (i := 224) rfl))), rfl⟩
theorem qF_X1_35 : Cond.fieldLink RX1 35 "LodgeProofsModel" "length" "[I" ∈ WW := List.mem_filter.mpr ⟨List.mem_append_right _ (List.mem_append_right _ (List.mem_append_left _ (List.mem_of_getElem? (i := 225) rfl))), rfl⟩
theorem qF_X1_38 : Cond.fieldLink RX1 38 "LodgeProofsModel" "price" "[I" ∈ WW := List.mem_filter.mpr ⟨List.mem_append_right _ (List.mem_append_right _ (List.mem_append_left _ (List.mem_of_getElem? (i := 226) rfl))), rfl⟩
theorem qF_X1_41 : Cond.fieldLink RX1 41 "LodgeProofsModel" "far" "[I" ∈ WW := List.mem_filter.mpr ⟨List.mem_append_right _ (List.mem_append_right _ (List.mem_append_left _ (List.mem_of_getElem? (i := 227) rfl))), rfl⟩
theorem qM_L_75 : Cond.methodLink RL 75 yX1_thrown ∈ WW := List.mem_filter.mpr ⟨List.mem_append_right _ (List.mem_append_right _ (List.mem_append_right _ (List.mem_of_getElem? (i := 15) rfl))), rfl⟩
theorem qI_X1_thrown : Cond.instanceMethod yX1_thrown ∈ WW := List.mem_filter.mpr ⟨List.mem_append_right _ (List.mem_append_right _ (List.mem_append_right _ (List.mem_of_getElem? (i := 16) rfl))), rfl⟩
theorem qS_X1_thrown : Cond.selects RX1 yX1_thrown yX1_thrown ∈ WW := List.mem_filter.mpr ⟨List.mem_append_right _ (List.mem_append_right _ (List.mem_append_right _ (List.mem_of_getElem? (i := 17) rfl))), rfl⟩
theorem qC_X1_thrown : Cond.code yX1_thrown cX1_thrown 1 (some .int) ∈ WW := List.mem_filter.mpr ⟨List.mem_append_right _ (List.mem_append_right _ (List.mem_append_right _ (List.mem_of_getElem? (i := 18) rfl))), rfl⟩
theorem qM_L_74 : Cond.methodLink RL 74 yX1_take ∈ WW := List.mem_filter.mpr ⟨List.mem_append_right _ (List.mem_append_right _ (List.mem_append_right _ (List.mem_of_getElem? (i := 19) rfl))), rfl⟩
theorem qI_X1_take : Cond.instanceMethod yX1_take ∈ WW := List.mem_filter.mpr ⟨List.mem_append_right _ (List.mem_append_right _ (List.mem_append_right _ (List.mem_of_getElem? (i := 20) rfl))), rfl⟩
theorem qS_X1_take : Cond.selects RX1 yX1_take yX1_take ∈ WW := List.mem_filter.mpr ⟨List.mem_append_right _ (List.mem_append_right _ (List.mem_append_right _ (List.mem_of_getElem? (i := 21) rfl))), rfl⟩
theorem qC_X1_take : Cond.code yX1_take cX1_take 4 (some .boolean) ∈ WW := List.mem_filter.mpr ⟨List.mem_append_right _ (List.mem_append_right _ (List.mem_append_right _ (List.mem_of_getElem? (i := 22) rfl))), rfl⟩
theorem qM_X1_101 : Cond.methodLink RX1 101 yX1_isAxiom ∈ WW := List.mem_filter.mpr ⟨List.mem_append_right _ (List.mem_append_right _ (List.mem_append_right _ (List.mem_of_getElem? (i := 23) rfl))), rfl⟩
theorem qT_X1_isAxiom : Cond.static yX1_isAxiom ∈ WW := List.mem_filter.mpr ⟨List.mem_append_right _ (List.mem_append_right _ (List.mem_append_right _ (List.mem_of_getElem? (i := 24) rfl))), rfl⟩
theorem qC_X1_isAxiom : Cond.code yX1_isAxiom cX1_isAxiom 1 (some .boolean) ∈ WW := List.mem_filter.mpr ⟨List.mem_append_right _ (List.mem_append_right _ (List.mem_append_right _ (List.mem_of_getElem? (i := 25) rfl))), rfl⟩
theorem qM_X1_48 : Cond.methodLink RX1 48 yX1_isIn ∈ WW := List.mem_filter.mpr ⟨List.mem_append_right _ (List.mem_append_right _ (List.mem_append_right _ (List.mem_of_getElem? (i := 26) rfl))), rfl⟩
theorem qT_X1_isIn : Cond.static yX1_isIn ∈ WW := List.mem_filter.mpr ⟨List.mem_append_right _ (List.mem_append_right _ (List.mem_append_right _ (List.mem_of_getElem? (i := 27) rfl))), rfl⟩
theorem qC_X1_isIn : Cond.code yX1_isIn cX1_isIn 3 (some .boolean) ∈ WW := List.mem_filter.mpr ⟨List.mem_append_right _ (List.mem_append_right _ (List.mem_append_right _ (List.mem_of_getElem? (i := 28) rfl))), rfl⟩
theorem qM_L_81 : Cond.methodLink RL 81 yX1_lemma ∈ WW := List.mem_filter.mpr ⟨List.mem_append_right _ (List.mem_append_right _ (List.mem_append_right _ (List.mem_of_getElem? (i := 29) rfl))), rfl⟩
theorem qI_X1_lemma : Cond.instanceMethod yX1_lemma ∈ WW := List.mem_filter.mpr ⟨List.mem_append_right _ (List.mem_append_right _ (List.mem_append_right _ (List.mem_of_getElem? (i := 30) rfl))), rfl⟩
theorem qS_X1_lemma : Cond.selects RX1 yX1_lemma yX1_lemma ∈ WW := List.mem_filter.mpr ⟨List.mem_append_right _ (List.mem_append_right _ (List.mem_append_right _ (List.mem_of_getElem? (i := 31) rfl))), rfl⟩
theorem qC_X1_lemma : Cond.code yX1_lemma cX1_lemma 1 (some .int) ∈ WW := List.mem_filter.mpr ⟨List.mem_append_right _ (List.mem_append_right _ (List.mem_append_right _ (List.mem_of_getElem? (i := 32) rfl))), rfl⟩
theorem qM_X1_104 : Cond.methodLink RX1 104 yX1_no ∈ WW := List.mem_filter.mpr ⟨List.mem_append_right _ (List.mem_append_right _ (List.mem_append_right _ (List.mem_of_getElem? (i := 33) rfl))), rfl⟩
theorem qI_X1_no : Cond.instanceMethod yX1_no ∈ WW := List.mem_filter.mpr ⟨List.mem_append_right _ (List.mem_append_right _ (List.mem_append_right _ (List.mem_of_getElem? (i := 35) rfl))), rfl⟩
theorem qC_X1_no : Cond.code yX1_no cX1_no 2 (some .int) ∈ WW := List.mem_filter.mpr ⟨List.mem_append_right _ (List.mem_append_right _ (List.mem_append_right _ (List.mem_of_getElem? (i := 36) rfl))), rfl⟩
theorem qM_L_85 : Cond.methodLink RL 85 yX1_proof ∈ WW := List.mem_filter.mpr ⟨List.mem_append_right _ (List.mem_append_right _ (List.mem_append_right _ (List.mem_of_getElem? (i := 37) rfl))), rfl⟩
theorem qI_X1_proof : Cond.instanceMethod yX1_proof ∈ WW := List.mem_filter.mpr ⟨List.mem_append_right _ (List.mem_append_right _ (List.mem_append_right _ (List.mem_of_getElem? (i := 38) rfl))), rfl⟩
theorem qS_X1_proof : Cond.selects RX1 yX1_proof yX1_proof ∈ WW := List.mem_filter.mpr ⟨List.mem_append_right _ (List.mem_append_right _ (List.mem_append_right _ (List.mem_of_getElem? (i := 39) rfl))), rfl⟩
theorem qC_X1_proof : Cond.code yX1_proof cX1_proof 2 (some .int) ∈ WW := List.mem_filter.mpr ⟨List.mem_append_right _ (List.mem_append_right _ (List.mem_append_right _ (List.mem_of_getElem? (i := 40) rfl))), rfl⟩
theorem qM_X1_55 : Cond.methodLink RX1 55 yX1_isLemma ∈ WW := List.mem_filter.mpr ⟨List.mem_append_right _ (List.mem_append_right _ (List.mem_append_right _ (List.mem_of_getElem? (i := 41) rfl))), rfl⟩
theorem qI_X1_isLemma : Cond.instanceMethod yX1_isLemma ∈ WW := List.mem_filter.mpr ⟨List.mem_append_right _ (List.mem_append_right _ (List.mem_append_right _ (List.mem_of_getElem? (i := 43) rfl))), rfl⟩
theorem qC_X1_isLemma : Cond.code yX1_isLemma cX1_isLemma 2 (some .boolean) ∈ WW := List.mem_filter.mpr ⟨List.mem_append_right _ (List.mem_append_right _ (List.mem_append_right _ (List.mem_of_getElem? (i := 44) rfl))), rfl⟩
theorem qM_L_89 : Cond.methodLink RL 89 yX1_cite ∈ WW := List.mem_filter.mpr ⟨List.mem_append_right _ (List.mem_append_right _ (List.mem_append_right _ (List.mem_of_getElem? (i := 45) rfl))), rfl⟩
theorem qI_X1_cite : Cond.instanceMethod yX1_cite ∈ WW := List.mem_filter.mpr ⟨List.mem_append_right _ (List.mem_append_right _ (List.mem_append_right _ (List.mem_of_getElem? (i := 46) rfl))), rfl⟩
theorem qS_X1_cite : Cond.selects RX1 yX1_cite yX1_cite ∈ WW := List.mem_filter.mpr ⟨List.mem_append_right _ (List.mem_append_right _ (List.mem_append_right _ (List.mem_of_getElem? (i := 47) rfl))), rfl⟩
theorem qC_X1_cite : Cond.code yX1_cite cX1_cite 7 (some .int) ∈ WW := List.mem_filter.mpr ⟨List.mem_append_right _ (List.mem_append_right _ (List.mem_append_right _ (List.mem_of_getElem? (i := 48) rfl))), rfl⟩
theorem qM_X1_59 : Cond.methodLink RX1 59 yX1_isProof ∈ WW := List.mem_filter.mpr ⟨List.mem_append_right _ (List.mem_append_right _ (List.mem_append_right _ (List.mem_of_getElem? (i := 49) rfl))), rfl⟩
theorem qI_X1_isProof : Cond.instanceMethod yX1_isProof ∈ WW := List.mem_filter.mpr ⟨List.mem_append_right _ (List.mem_append_right _ (List.mem_append_right _ (List.mem_of_getElem? (i := 51) rfl))), rfl⟩
theorem qC_X1_isProof : Cond.code yX1_isProof cX1_isProof 3 (some .boolean) ∈ WW := List.mem_filter.mpr ⟨List.mem_append_right _ (List.mem_append_right _ (List.mem_append_right _ (List.mem_of_getElem? (i := 52) rfl))), rfl⟩
theorem qM_X1_63 : Cond.methodLink RX1 63 yX1_at ∈ WW := List.mem_filter.mpr ⟨List.mem_append_right _ (List.mem_append_right _ (List.mem_append_right _ (List.mem_of_getElem? (i := 53) rfl))), rfl⟩
theorem qT_X1_at : Cond.static yX1_at ∈ WW := List.mem_filter.mpr ⟨List.mem_append_right _ (List.mem_append_right _ (List.mem_append_right _ (List.mem_of_getElem? (i := 54) rfl))), rfl⟩
theorem qC_X1_at : Cond.code yX1_at cX1_at 3 (some .int) ∈ WW := List.mem_filter.mpr ⟨List.mem_append_right _ (List.mem_append_right _ (List.mem_append_right _ (List.mem_of_getElem? (i := 55) rfl))), rfl⟩
theorem qM_L_92 : Cond.methodLink RL 92 yX1_patch ∈ WW := List.mem_filter.mpr ⟨List.mem_append_right _ (List.mem_append_right _ (List.mem_append_right _ (List.mem_of_getElem? (i := 56) rfl))), rfl⟩
theorem qI_X1_patch : Cond.instanceMethod yX1_patch ∈ WW := List.mem_filter.mpr ⟨List.mem_append_right _ (List.mem_append_right _ (List.mem_append_right _ (List.mem_of_getElem? (i := 57) rfl))), rfl⟩
theorem qS_X1_patch : Cond.selects RX1 yX1_patch yX1_patch ∈ WW := List.mem_filter.mpr ⟨List.mem_append_right _ (List.mem_append_right _ (List.mem_append_right _ (List.mem_of_getElem? (i := 58) rfl))), rfl⟩
theorem qC_X1_patch : Cond.code yX1_patch cX1_patch 6 (some .int) ∈ WW := List.mem_filter.mpr ⟨List.mem_append_right _ (List.mem_append_right _ (List.mem_append_right _ (List.mem_of_getElem? (i := 59) rfl))), rfl⟩
theorem qM_X1_108 : Cond.methodLink RX1 108 yX1_isStep ∈ WW := List.mem_filter.mpr ⟨List.mem_append_right _ (List.mem_append_right _ (List.mem_append_right _ (List.mem_of_getElem? (i := 60) rfl))), rfl⟩
theorem qI_X1_isStep : Cond.instanceMethod yX1_isStep ∈ WW := List.mem_filter.mpr ⟨List.mem_append_right _ (List.mem_append_right _ (List.mem_append_right _ (List.mem_of_getElem? (i := 62) rfl))), rfl⟩
theorem qC_X1_isStep : Cond.code yX1_isStep cX1_isStep 4 (some .boolean) ∈ WW := List.mem_filter.mpr ⟨List.mem_append_right _ (List.mem_append_right _ (List.mem_append_right _ (List.mem_of_getElem? (i := 63) rfl))), rfl⟩
theorem qM_X1_111 : Cond.methodLink RX1 111 Lib.Math.max.name ∈ WW := List.mem_filter.mpr ⟨List.mem_append_right _ (List.mem_append_right _ (List.mem_append_right _ (List.mem_of_getElem? (i := 64) rfl))), rfl⟩
theorem qM_L_96 : Cond.methodLink RL 96 yX1_withdraw ∈ WW := List.mem_filter.mpr ⟨List.mem_append_right _ (List.mem_append_right _ (List.mem_append_right _ (List.mem_of_getElem? (i := 65) rfl))), rfl⟩
theorem qI_X1_withdraw : Cond.instanceMethod yX1_withdraw ∈ WW := List.mem_filter.mpr ⟨List.mem_append_right _ (List.mem_append_right _ (List.mem_append_right _ (List.mem_of_getElem? (i := 66) rfl))), rfl⟩
theorem qS_X1_withdraw : Cond.selects RX1 yX1_withdraw yX1_withdraw ∈ WW := List.mem_filter.mpr ⟨List.mem_append_right _ (List.mem_append_right _ (List.mem_append_right _ (List.mem_of_getElem? (i := 67) rfl))), rfl⟩
theorem qC_X1_withdraw : Cond.code yX1_withdraw cX1_withdraw 5 (some .boolean) ∈ WW := List.mem_filter.mpr ⟨List.mem_append_right _ (List.mem_append_right _ (List.mem_append_right _ (List.mem_of_getElem? (i := 68) rfl))), rfl⟩
theorem qM_L_100 : Cond.methodLink RL 100 yX1_strike ∈ WW := List.mem_filter.mpr ⟨List.mem_append_right _ (List.mem_append_right _ (List.mem_append_right _ (List.mem_of_getElem? (i := 69) rfl))), rfl⟩
theorem qI_X1_strike : Cond.instanceMethod yX1_strike ∈ WW := List.mem_filter.mpr ⟨List.mem_append_right _ (List.mem_append_right _ (List.mem_append_right _ (List.mem_of_getElem? (i := 70) rfl))), rfl⟩
theorem qS_X1_strike : Cond.selects RX1 yX1_strike yX1_strike ∈ WW := List.mem_filter.mpr ⟨List.mem_append_right _ (List.mem_append_right _ (List.mem_append_right _ (List.mem_of_getElem? (i := 71) rfl))), rfl⟩
theorem qC_X1_strike : Cond.code yX1_strike cX1_strike 4 (some .int) ∈ WW := List.mem_filter.mpr ⟨List.mem_append_right _ (List.mem_append_right _ (List.mem_append_right _ (List.mem_of_getElem? (i := 72) rfl))), rfl⟩
theorem qM_X1_120 : Cond.methodLink RX1 120 yX1_layOver ∈ WW := List.mem_filter.mpr ⟨List.mem_append_right _ (List.mem_append_right _ (List.mem_append_right _ (List.mem_of_getElem? (i := 73) rfl))), rfl⟩
theorem qI_X1_layOver : Cond.instanceMethod yX1_layOver ∈ WW := List.mem_filter.mpr ⟨List.mem_append_right _ (List.mem_append_right _ (List.mem_append_right _ (List.mem_of_getElem? (i := 75) rfl))), rfl⟩
theorem qC_X1_layOver : Cond.code yX1_layOver cX1_layOver 3 none ∈ WW := List.mem_filter.mpr ⟨List.mem_append_right _ (List.mem_append_right _ (List.mem_append_right _ (List.mem_of_getElem? (i := 76) rfl))), rfl⟩
theorem qM_X1_114 : Cond.methodLink RX1 114 arraycopyName ∈ WW := List.mem_filter.mpr ⟨List.mem_append_right _ (List.mem_append_right _ (List.mem_append_right _ (List.mem_of_getElem? (i := 77) rfl))), rfl⟩
theorem qT_arraycopy : Cond.static arraycopyName ∈ WW := List.mem_filter.mpr ⟨List.mem_append_right _ (List.mem_append_right _ (List.mem_append_right _ (List.mem_of_getElem? (i := 78) rfl))), rfl⟩
theorem qV_arraycopy : Cond.native arraycopyName ∈ WW := List.mem_filter.mpr ⟨List.mem_append_right _ (List.mem_append_right _ (List.mem_append_right _ (List.mem_of_getElem? (i := 79) rfl))), rfl⟩
theorem qM_L_103 : Cond.methodLink RL 103 yX1_told_ ∈ WW := List.mem_filter.mpr ⟨List.mem_append_right _ (List.mem_append_right _ (List.mem_append_right _ (List.mem_of_getElem? (i := 80) rfl))), rfl⟩
theorem qI_X1_told_ : Cond.instanceMethod yX1_told_ ∈ WW := List.mem_filter.mpr ⟨List.mem_append_right _ (List.mem_append_right _ (List.mem_append_right _ (List.mem_of_getElem? (i := 81) rfl))), rfl⟩
theorem qS_X1_told_ : Cond.selects RX1 yX1_told_ yX1_told_ ∈ WW := List.mem_filter.mpr ⟨List.mem_append_right _ (List.mem_append_right _ (List.mem_append_right _ (List.mem_of_getElem? (i := 82) rfl))), rfl⟩
theorem qC_X1_told_ : Cond.code yX1_told_ cX1_told_ 3 (some .int) ∈ WW := List.mem_filter.mpr ⟨List.mem_append_right _ (List.mem_append_right _ (List.mem_append_right _ (List.mem_of_getElem? (i := 83) rfl))), rfl⟩
theorem qM_X1_145 : Cond.methodLink RX1 145 yX1_lemmaTold ∈ WW := List.mem_filter.mpr ⟨List.mem_append_right _ (List.mem_append_right _ (List.mem_append_right _ (List.mem_of_getElem? (i := 84) rfl))), rfl⟩
theorem qI_X1_lemmaTold : Cond.instanceMethod yX1_lemmaTold ∈ WW := List.mem_filter.mpr ⟨List.mem_append_right _ (List.mem_append_right _ (List.mem_append_right _ (List.mem_of_getElem? (i := 86) rfl))), rfl⟩
theorem qC_X1_lemmaTold : Cond.code yX1_lemmaTold cX1_lemmaTold 3 (some .int) ∈ WW := List.mem_filter.mpr ⟨List.mem_append_right _ (List.mem_append_right _ (List.mem_append_right _ (List.mem_of_getElem? (i := 87) rfl))), rfl⟩
theorem qM_X1_127 : Cond.methodLink RX1 127 yX1_measure ∈ WW := List.mem_filter.mpr ⟨List.mem_append_right _ (List.mem_append_right _ (List.mem_append_right _ (List.mem_of_getElem? (i := 88) rfl))), rfl⟩
theorem qI_X1_measure : Cond.instanceMethod yX1_measure ∈ WW := List.mem_filter.mpr ⟨List.mem_append_right _ (List.mem_append_right _ (List.mem_append_right _ (List.mem_of_getElem? (i := 90) rfl))), rfl⟩
theorem qC_X1_measure : Cond.code yX1_measure cX1_measure 3 none ∈ WW := List.mem_filter.mpr ⟨List.mem_append_right _ (List.mem_append_right _ (List.mem_append_right _ (List.mem_of_getElem? (i := 91) rfl))), rfl⟩
theorem qM_X1_92 : Cond.methodLink RX1 92 yX1_getsShorter ∈ WW := List.mem_filter.mpr ⟨List.mem_append_right _ (List.mem_append_right _ (List.mem_append_right _ (List.mem_of_getElem? (i := 92) rfl))), rfl⟩
theorem qI_X1_getsShorter : Cond.instanceMethod yX1_getsShorter ∈ WW := List.mem_filter.mpr ⟨List.mem_append_right _ (List.mem_append_right _ (List.mem_append_right _ (List.mem_of_getElem? (i := 94) rfl))), rfl⟩
theorem qC_X1_getsShorter : Cond.code yX1_getsShorter cX1_getsShorter 4 (some .boolean) ∈ WW := List.mem_filter.mpr ⟨List.mem_append_right _ (List.mem_append_right _ (List.mem_append_right _ (List.mem_of_getElem? (i := 95) rfl))), rfl⟩
theorem qM_X1_86 : Cond.methodLink RX1 86 yX1_lengthOf ∈ WW := List.mem_filter.mpr ⟨List.mem_append_right _ (List.mem_append_right _ (List.mem_append_right _ (List.mem_of_getElem? (i := 96) rfl))), rfl⟩
theorem qI_X1_lengthOf : Cond.instanceMethod yX1_lengthOf ∈ WW := List.mem_filter.mpr ⟨List.mem_append_right _ (List.mem_append_right _ (List.mem_append_right _ (List.mem_of_getElem? (i := 98) rfl))), rfl⟩
theorem qC_X1_lengthOf : Cond.code yX1_lengthOf cX1_lengthOf 7 (some .int) ∈ WW := List.mem_filter.mpr ⟨List.mem_append_right _ (List.mem_append_right _ (List.mem_append_right _ (List.mem_of_getElem? (i := 99) rfl))), rfl⟩
theorem qM_X1_67 : Cond.methodLink RX1 67 yX1_isWhole ∈ WW := List.mem_filter.mpr ⟨List.mem_append_right _ (List.mem_append_right _ (List.mem_append_right _ (List.mem_of_getElem? (i := 100) rfl))), rfl⟩
theorem qI_X1_isWhole : Cond.instanceMethod yX1_isWhole ∈ WW := List.mem_filter.mpr ⟨List.mem_append_right _ (List.mem_append_right _ (List.mem_append_right _ (List.mem_of_getElem? (i := 102) rfl))), rfl⟩
theorem qC_X1_isWhole : Cond.code yX1_isWhole cX1_isWhole 4 (some .boolean) ∈ WW := List.mem_filter.mpr ⟨List.mem_append_right _ (List.mem_append_right _ (List.mem_append_right _ (List.mem_of_getElem? (i := 103) rfl))), rfl⟩
theorem qM_X1_80 : Cond.methodLink RX1 80 Lib.Math.min.name ∈ WW := List.mem_filter.mpr ⟨List.mem_append_right _ (List.mem_append_right _ (List.mem_append_right _ (List.mem_of_getElem? (i := 104) rfl))), rfl⟩
theorem qM_X1_95 : Cond.methodLink RX1 95 yX1_getsCheaper ∈ WW := List.mem_filter.mpr ⟨List.mem_append_right _ (List.mem_append_right _ (List.mem_append_right _ (List.mem_of_getElem? (i := 105) rfl))), rfl⟩
theorem qI_X1_getsCheaper : Cond.instanceMethod yX1_getsCheaper ∈ WW := List.mem_filter.mpr ⟨List.mem_append_right _ (List.mem_append_right _ (List.mem_append_right _ (List.mem_of_getElem? (i := 107) rfl))), rfl⟩
theorem qC_X1_getsCheaper : Cond.code yX1_getsCheaper cX1_getsCheaper 4 (some .boolean) ∈ WW := List.mem_filter.mpr ⟨List.mem_append_right _ (List.mem_append_right _ (List.mem_append_right _ (List.mem_of_getElem? (i := 108) rfl))), rfl⟩
theorem qM_X1_89 : Cond.methodLink RX1 89 yX1_priceOf ∈ WW := List.mem_filter.mpr ⟨List.mem_append_right _ (List.mem_append_right _ (List.mem_append_right _ (List.mem_of_getElem? (i := 109) rfl))), rfl⟩
theorem qI_X1_priceOf : Cond.instanceMethod yX1_priceOf ∈ WW := List.mem_filter.mpr ⟨List.mem_append_right _ (List.mem_append_right _ (List.mem_append_right _ (List.mem_of_getElem? (i := 111) rfl))), rfl⟩
theorem qC_X1_priceOf : Cond.code yX1_priceOf cX1_priceOf 6 (some .int) ∈ WW := List.mem_filter.mpr ⟨List.mem_append_right _ (List.mem_append_right _ (List.mem_append_right _ (List.mem_of_getElem? (i := 112) rfl))), rfl⟩
theorem qM_X1_130 : Cond.methodLink RX1 130 yX1_stepsOf ∈ WW := List.mem_filter.mpr ⟨List.mem_append_right _ (List.mem_append_right _ (List.mem_append_right _ (List.mem_of_getElem? (i := 113) rfl))), rfl⟩
theorem qI_X1_stepsOf : Cond.instanceMethod yX1_stepsOf ∈ WW := List.mem_filter.mpr ⟨List.mem_append_right _ (List.mem_append_right _ (List.mem_append_right _ (List.mem_of_getElem? (i := 115) rfl))), rfl⟩
theorem qC_X1_stepsOf : Cond.code yX1_stepsOf cX1_stepsOf 4 (some .int) ∈ WW := List.mem_filter.mpr ⟨List.mem_append_right _ (List.mem_append_right _ (List.mem_append_right _ (List.mem_of_getElem? (i := 116) rfl))), rfl⟩
theorem qM_X1_133 : Cond.methodLink RX1 133 yX1_stageOf ∈ WW := List.mem_filter.mpr ⟨List.mem_append_right _ (List.mem_append_right _ (List.mem_append_right _ (List.mem_of_getElem? (i := 117) rfl))), rfl⟩
theorem qI_X1_stageOf : Cond.instanceMethod yX1_stageOf ∈ WW := List.mem_filter.mpr ⟨List.mem_append_right _ (List.mem_append_right _ (List.mem_append_right _ (List.mem_of_getElem? (i := 119) rfl))), rfl⟩
theorem qC_X1_stageOf : Cond.code yX1_stageOf cX1_stageOf 2 (some .int) ∈ WW := List.mem_filter.mpr ⟨List.mem_append_right _ (List.mem_append_right _ (List.mem_append_right _ (List.mem_of_getElem? (i := 120) rfl))), rfl⟩
theorem qM_X1_124 : Cond.methodLink RX1 124 yX1_prove ∈ WW := List.mem_filter.mpr ⟨List.mem_append_right _ (List.mem_append_right _ (List.mem_append_right _ (List.mem_of_getElem? (i := 121) rfl))), rfl⟩
theorem qI_X1_prove : Cond.instanceMethod yX1_prove ∈ WW := List.mem_filter.mpr ⟨List.mem_append_right _ (List.mem_append_right _ (List.mem_append_right _ (List.mem_of_getElem? (i := 123) rfl))), rfl⟩
theorem qC_X1_prove : Cond.code yX1_prove cX1_prove 6 (some .int) ∈ WW := List.mem_filter.mpr ⟨List.mem_append_right _ (List.mem_append_right _ (List.mem_append_right _ (List.mem_of_getElem? (i := 124) rfl))), rfl⟩
theorem qM_X1_77 : Cond.methodLink RX1 77 yX1_hasProof ∈ WW := List.mem_filter.mpr ⟨List.mem_append_right _ (List.mem_append_right _ (List.mem_append_right _ (List.mem_of_getElem? (i := 125) rfl))), rfl⟩
theorem qI_X1_hasProof : Cond.instanceMethod yX1_hasProof ∈ WW := List.mem_filter.mpr ⟨List.mem_append_right _ (List.mem_append_right _ (List.mem_append_right _ (List.mem_of_getElem? (i := 127) rfl))), rfl⟩
theorem qC_X1_hasProof : Cond.code yX1_hasProof cX1_hasProof 5 (some .boolean) ∈ WW := List.mem_filter.mpr ⟨List.mem_append_right _ (List.mem_append_right _ (List.mem_append_right _ (List.mem_of_getElem? (i := 128) rfl))), rfl⟩
theorem qM_X1_73 : Cond.methodLink RX1 73 yX1_holds ∈ WW := List.mem_filter.mpr ⟨List.mem_append_right _ (List.mem_append_right _ (List.mem_append_right _ (List.mem_of_getElem? (i := 129) rfl))), rfl⟩
theorem qI_X1_holds : Cond.instanceMethod yX1_holds ∈ WW := List.mem_filter.mpr ⟨List.mem_append_right _ (List.mem_append_right _ (List.mem_append_right _ (List.mem_of_getElem? (i := 131) rfl))), rfl⟩
theorem qC_X1_holds : Cond.code yX1_holds cX1_holds 6 (some .boolean) ∈ WW := List.mem_filter.mpr ⟨List.mem_append_right _ (List.mem_append_right _ (List.mem_append_right _ (List.mem_of_getElem? (i := 132) rfl))), rfl⟩
theorem qM_X1_70 : Cond.methodLink RX1 70 yX1_does ∈ WW := List.mem_filter.mpr ⟨List.mem_append_right _ (List.mem_append_right _ (List.mem_append_right _ (List.mem_of_getElem? (i := 133) rfl))), rfl⟩
theorem qI_X1_does : Cond.instanceMethod yX1_does ∈ WW := List.mem_filter.mpr ⟨List.mem_append_right _ (List.mem_append_right _ (List.mem_append_right _ (List.mem_of_getElem? (i := 135) rfl))), rfl⟩
theorem qC_X1_does : Cond.code yX1_does cX1_does 4 (some .boolean) ∈ WW := List.mem_filter.mpr ⟨List.mem_append_right _ (List.mem_append_right _ (List.mem_append_right _ (List.mem_of_getElem? (i := 136) rfl))), rfl⟩
theorem qM_X1_136 : Cond.methodLink RX1 136 yX1_told ∈ WW := List.mem_filter.mpr ⟨List.mem_append_right _ (List.mem_append_right _ (List.mem_append_right _ (List.mem_of_getElem? (i := 137) rfl))), rfl⟩
theorem qT_X1_told : Cond.static yX1_told ∈ WW := List.mem_filter.mpr ⟨List.mem_append_right _ (List.mem_append_right _ (List.mem_append_right _ (List.mem_of_getElem? (i := 138) rfl))), rfl⟩
theorem qC_X1_told : Cond.code yX1_told cX1_told 1 (some .int) ∈ WW := List.mem_filter.mpr ⟨List.mem_append_right _ (List.mem_append_right _ (List.mem_append_right _ (List.mem_of_getElem? (i := 139) rfl))), rfl⟩
theorem qM_X1_139 : Cond.methodLink RX1 139 yX1_openOf ∈ WW := List.mem_filter.mpr ⟨List.mem_append_right _ (List.mem_append_right _ (List.mem_append_right _ (List.mem_of_getElem? (i := 140) rfl))), rfl⟩
theorem qI_X1_openOf : Cond.instanceMethod yX1_openOf ∈ WW := List.mem_filter.mpr ⟨List.mem_append_right _ (List.mem_append_right _ (List.mem_append_right _ (List.mem_of_getElem? (i := 142) rfl))), rfl⟩
theorem qC_X1_openOf : Cond.code yX1_openOf cX1_openOf 5 (some .int) ∈ WW := List.mem_filter.mpr ⟨List.mem_append_right _ (List.mem_append_right _ (List.mem_append_right _ (List.mem_of_getElem? (i := 143) rfl))), rfl⟩
theorem qM_X1_142 : Cond.methodLink RX1 142 yX1_circle ∈ WW := List.mem_filter.mpr ⟨List.mem_append_right _ (List.mem_append_right _ (List.mem_append_right _ (List.mem_of_getElem? (i := 144) rfl))), rfl⟩
theorem qI_X1_circle : Cond.instanceMethod yX1_circle ∈ WW := List.mem_filter.mpr ⟨List.mem_append_right _ (List.mem_append_right _ (List.mem_append_right _ (List.mem_of_getElem? (i := 146) rfl))), rfl⟩
theorem qC_X1_circle : Cond.code yX1_circle cX1_circle 5 (some .int) ∈ WW := List.mem_filter.mpr ⟨List.mem_append_right _ (List.mem_append_right _ (List.mem_append_right _ (List.mem_of_getElem? (i := 147) rfl))), rfl⟩
theorem qM_X1_98 : Cond.methodLink RX1 98 yX1_leads ∈ WW := List.mem_filter.mpr ⟨List.mem_append_right _ (List.mem_append_right _ (List.mem_append_right _ (List.mem_of_getElem? (i := 148) rfl))), rfl⟩
theorem qI_X1_leads : Cond.instanceMethod yX1_leads ∈ WW := List.mem_filter.mpr ⟨List.mem_append_right _ (List.mem_append_right _ (List.mem_append_right _ (List.mem_of_getElem? (i := 150) rfl))), rfl⟩
theorem qC_X1_leads : Cond.code yX1_leads cX1_leads 5 (some .boolean) ∈ WW := List.mem_filter.mpr ⟨List.mem_append_right _ (List.mem_append_right _ (List.mem_append_right _ (List.mem_of_getElem? (i := 151) rfl))), rfl⟩
theorem qM_L_106 : Cond.methodLink RL 106 yX1_step ∈ WW := List.mem_filter.mpr ⟨List.mem_append_right _ (List.mem_append_right _ (List.mem_append_right _ (List.mem_of_getElem? (i := 152) rfl))), rfl⟩
theorem qI_X1_step : Cond.instanceMethod yX1_step ∈ WW := List.mem_filter.mpr ⟨List.mem_append_right _ (List.mem_append_right _ (List.mem_append_right _ (List.mem_of_getElem? (i := 153) rfl))), rfl⟩
theorem qS_X1_step : Cond.selects RX1 yX1_step yX1_step ∈ WW := List.mem_filter.mpr ⟨List.mem_append_right _ (List.mem_append_right _ (List.mem_append_right _ (List.mem_of_getElem? (i := 154) rfl))), rfl⟩
theorem qC_X1_step : Cond.code yX1_step cX1_step 5 (some .int) ∈ WW := List.mem_filter.mpr ⟨List.mem_append_right _ (List.mem_append_right _ (List.mem_append_right _ (List.mem_of_getElem? (i := 155) rfl))), rfl⟩
theorem qM_X1_148 : Cond.methodLink RX1 148 yX1_stepTold ∈ WW := List.mem_filter.mpr ⟨List.mem_append_right _ (List.mem_append_right _ (List.mem_append_right _ (List.mem_of_getElem? (i := 156) rfl))), rfl⟩
theorem qI_X1_stepTold : Cond.instanceMethod yX1_stepTold ∈ WW := List.mem_filter.mpr ⟨List.mem_append_right _ (List.mem_append_right _ (List.mem_append_right _ (List.mem_of_getElem? (i := 158) rfl))), rfl⟩
theorem qC_X1_stepTold : Cond.code yX1_stepTold cX1_stepTold 3 (some .int) ∈ WW := List.mem_filter.mpr ⟨List.mem_append_right _ (List.mem_append_right _ (List.mem_append_right _ (List.mem_of_getElem? (i := 159) rfl))), rfl⟩
theorem qM_L_109 : Cond.methodLink RL 109 yX1_about ∈ WW := List.mem_filter.mpr ⟨List.mem_append_right _ (List.mem_append_right _ (List.mem_append_right _ (List.mem_of_getElem? (i := 160) rfl))), rfl⟩
theorem qI_X1_about : Cond.instanceMethod yX1_about ∈ WW := List.mem_filter.mpr ⟨List.mem_append_right _ (List.mem_append_right _ (List.mem_append_right _ (List.mem_of_getElem? (i := 161) rfl))), rfl⟩
theorem qS_X1_about : Cond.selects RX1 yX1_about yX1_about ∈ WW := List.mem_filter.mpr ⟨List.mem_append_right _ (List.mem_append_right _ (List.mem_append_right _ (List.mem_of_getElem? (i := 162) rfl))), rfl⟩
theorem qC_X1_about : Cond.code yX1_about cX1_about 4 (some .int) ∈ WW := List.mem_filter.mpr ⟨List.mem_append_right _ (List.mem_append_right _ (List.mem_append_right _ (List.mem_of_getElem? (i := 163) rfl))), rfl⟩
theorem qM_X1_151 : Cond.methodLink RX1 151 yX1_proofTold ∈ WW := List.mem_filter.mpr ⟨List.mem_append_right _ (List.mem_append_right _ (List.mem_append_right _ (List.mem_of_getElem? (i := 164) rfl))), rfl⟩
theorem qI_X1_proofTold : Cond.instanceMethod yX1_proofTold ∈ WW := List.mem_filter.mpr ⟨List.mem_append_right _ (List.mem_append_right _ (List.mem_append_right _ (List.mem_of_getElem? (i := 166) rfl))), rfl⟩
theorem qC_X1_proofTold : Cond.code yX1_proofTold cX1_proofTold 4 (some .int) ∈ WW := List.mem_filter.mpr ⟨List.mem_append_right _ (List.mem_append_right _ (List.mem_append_right _ (List.mem_of_getElem? (i := 167) rfl))), rfl⟩
theorem qM_L_112 : Cond.methodLink RL 112 yX1_count ∈ WW := List.mem_filter.mpr ⟨List.mem_append_right _ (List.mem_append_right _ (List.mem_append_right _ (List.mem_of_getElem? (i := 168) rfl))), rfl⟩
theorem qI_X1_count : Cond.instanceMethod yX1_count ∈ WW := List.mem_filter.mpr ⟨List.mem_append_right _ (List.mem_append_right _ (List.mem_append_right _ (List.mem_of_getElem? (i := 169) rfl))), rfl⟩
theorem qS_X1_count : Cond.selects RX1 yX1_count yX1_count ∈ WW := List.mem_filter.mpr ⟨List.mem_append_right _ (List.mem_append_right _ (List.mem_append_right _ (List.mem_of_getElem? (i := 170) rfl))), rfl⟩
theorem qC_X1_count : Cond.code yX1_count cX1_count 2 (some .int) ∈ WW := List.mem_filter.mpr ⟨List.mem_append_right _ (List.mem_append_right _ (List.mem_append_right _ (List.mem_of_getElem? (i := 171) rfl))), rfl⟩
theorem qM_X1_154 : Cond.methodLink RX1 154 yX1_counted ∈ WW := List.mem_filter.mpr ⟨List.mem_append_right _ (List.mem_append_right _ (List.mem_append_right _ (List.mem_of_getElem? (i := 172) rfl))), rfl⟩
theorem qI_X1_counted : Cond.instanceMethod yX1_counted ∈ WW := List.mem_filter.mpr ⟨List.mem_append_right _ (List.mem_append_right _ (List.mem_append_right _ (List.mem_of_getElem? (i := 174) rfl))), rfl⟩
theorem qC_X1_counted : Cond.code yX1_counted cX1_counted 7 (some .int) ∈ WW := List.mem_filter.mpr ⟨List.mem_append_right _ (List.mem_append_right _ (List.mem_append_right _ (List.mem_of_getElem? (i := 175) rfl))), rfl⟩
theorem qM_L_115 : Cond.methodLink RL 115 yX1_best ∈ WW := List.mem_filter.mpr ⟨List.mem_append_right _ (List.mem_append_right _ (List.mem_append_right _ (List.mem_of_getElem? (i := 176) rfl))), rfl⟩
theorem qI_X1_best : Cond.instanceMethod yX1_best ∈ WW := List.mem_filter.mpr ⟨List.mem_append_right _ (List.mem_append_right _ (List.mem_append_right _ (List.mem_of_getElem? (i := 177) rfl))), rfl⟩
theorem qS_X1_best : Cond.selects RX1 yX1_best yX1_best ∈ WW := List.mem_filter.mpr ⟨List.mem_append_right _ (List.mem_append_right _ (List.mem_append_right _ (List.mem_of_getElem? (i := 178) rfl))), rfl⟩
theorem qC_X1_best : Cond.code yX1_best cX1_best 2 (some .int) ∈ WW := List.mem_filter.mpr ⟨List.mem_append_right _ (List.mem_append_right _ (List.mem_append_right _ (List.mem_of_getElem? (i := 179) rfl))), rfl⟩
theorem qM_X1_157 : Cond.methodLink RX1 157 yX1_bestOf ∈ WW := List.mem_filter.mpr ⟨List.mem_append_right _ (List.mem_append_right _ (List.mem_append_right _ (List.mem_of_getElem? (i := 180) rfl))), rfl⟩
theorem qI_X1_bestOf : Cond.instanceMethod yX1_bestOf ∈ WW := List.mem_filter.mpr ⟨List.mem_append_right _ (List.mem_append_right _ (List.mem_append_right _ (List.mem_of_getElem? (i := 182) rfl))), rfl⟩
theorem qC_X1_bestOf : Cond.code yX1_bestOf cX1_bestOf 4 (some .int) ∈ WW := List.mem_filter.mpr ⟨List.mem_append_right _ (List.mem_append_right _ (List.mem_append_right _ (List.mem_of_getElem? (i := 183) rfl))), rfl⟩
theorem qM_L_118 : Cond.methodLink RL 118 yX1_without ∈ WW := List.mem_filter.mpr ⟨List.mem_append_right _ (List.mem_append_right _ (List.mem_append_right _ (List.mem_of_getElem? (i := 184) rfl))), rfl⟩
theorem qI_X1_without : Cond.instanceMethod yX1_without ∈ WW := List.mem_filter.mpr ⟨List.mem_append_right _ (List.mem_append_right _ (List.mem_append_right _ (List.mem_of_getElem? (i := 185) rfl))), rfl⟩
theorem qS_X1_without : Cond.selects RX1 yX1_without yX1_without ∈ WW := List.mem_filter.mpr ⟨List.mem_append_right _ (List.mem_append_right _ (List.mem_append_right _ (List.mem_of_getElem? (i := 186) rfl))), rfl⟩
theorem qC_X1_without : Cond.code yX1_without cX1_without 2 (some .int) ∈ WW := List.mem_filter.mpr ⟨List.mem_append_right _ (List.mem_append_right _ (List.mem_append_right _ (List.mem_of_getElem? (i := 187) rfl))), rfl⟩
theorem qM_L_121 : Cond.methodLink RL 121 yX1_needs ∈ WW := List.mem_filter.mpr ⟨List.mem_append_right _ (List.mem_append_right _ (List.mem_append_right _ (List.mem_of_getElem? (i := 188) rfl))), rfl⟩
theorem qI_X1_needs : Cond.instanceMethod yX1_needs ∈ WW := List.mem_filter.mpr ⟨List.mem_append_right _ (List.mem_append_right _ (List.mem_append_right _ (List.mem_of_getElem? (i := 189) rfl))), rfl⟩
theorem qS_X1_needs : Cond.selects RX1 yX1_needs yX1_needs ∈ WW := List.mem_filter.mpr ⟨List.mem_append_right _ (List.mem_append_right _ (List.mem_append_right _ (List.mem_of_getElem? (i := 190) rfl))), rfl⟩
theorem qC_X1_needs : Cond.code yX1_needs cX1_needs 3 (some .boolean) ∈ WW := List.mem_filter.mpr ⟨List.mem_append_right _ (List.mem_append_right _ (List.mem_append_right _ (List.mem_of_getElem? (i := 191) rfl))), rfl⟩
theorem qM_X1_160 : Cond.methodLink RX1 160 yX1_isNeeded ∈ WW := List.mem_filter.mpr ⟨List.mem_append_right _ (List.mem_append_right _ (List.mem_append_right _ (List.mem_of_getElem? (i := 192) rfl))), rfl⟩
theorem qI_X1_isNeeded : Cond.instanceMethod yX1_isNeeded ∈ WW := List.mem_filter.mpr ⟨List.mem_append_right _ (List.mem_append_right _ (List.mem_append_right _ (List.mem_of_getElem? (i := 194) rfl))), rfl⟩
theorem qC_X1_isNeeded : Cond.code yX1_isNeeded cX1_isNeeded 4 (some .boolean) ∈ WW := List.mem_filter.mpr ⟨List.mem_append_right _ (List.mem_append_right _ (List.mem_append_right _ (List.mem_of_getElem? (i := 195) rfl))), rfl⟩
theorem qM_L_125 : Cond.methodLink RL 125 yX1_advise ∈ WW := List.mem_filter.mpr ⟨List.mem_append_right _ (List.mem_append_right _ (List.mem_append_right _ (List.mem_of_getElem? (i := 196) rfl))), rfl⟩
theorem qI_X1_advise : Cond.instanceMethod yX1_advise ∈ WW := List.mem_filter.mpr ⟨List.mem_append_right _ (List.mem_append_right _ (List.mem_append_right _ (List.mem_of_getElem? (i := 197) rfl))), rfl⟩
theorem qS_X1_advise : Cond.selects RX1 yX1_advise yX1_advise ∈ WW := List.mem_filter.mpr ⟨List.mem_append_right _ (List.mem_append_right _ (List.mem_append_right _ (List.mem_of_getElem? (i := 198) rfl))), rfl⟩
theorem qC_X1_advise : Cond.code yX1_advise cX1_advise 8 (some .int) ∈ WW := List.mem_filter.mpr ⟨List.mem_append_right _ (List.mem_append_right _ (List.mem_append_right _ (List.mem_of_getElem? (i := 199) rfl))), rfl⟩
theorem qM_X1_163 : Cond.methodLink RX1 163 yX1_provedBy ∈ WW := List.mem_filter.mpr ⟨List.mem_append_right _ (List.mem_append_right _ (List.mem_append_right _ (List.mem_of_getElem? (i := 200) rfl))), rfl⟩
theorem qI_X1_provedBy : Cond.instanceMethod yX1_provedBy ∈ WW := List.mem_filter.mpr ⟨List.mem_append_right _ (List.mem_append_right _ (List.mem_append_right _ (List.mem_of_getElem? (i := 202) rfl))), rfl⟩
theorem qC_X1_provedBy : Cond.code yX1_provedBy cX1_provedBy 4 (some .int) ∈ WW := List.mem_filter.mpr ⟨List.mem_append_right _ (List.mem_append_right _ (List.mem_append_right _ (List.mem_of_getElem? (i := 203) rfl))), rfl⟩
theorem qM_L_130 : Cond.methodLink RL 130 yX1_mean ∈ WW := List.mem_filter.mpr ⟨List.mem_append_right _ (List.mem_append_right _ (List.mem_append_right _ (List.mem_of_getElem? (i := 204) rfl))), rfl⟩
theorem qI_X1_mean : Cond.instanceMethod yX1_mean ∈ WW := List.mem_filter.mpr ⟨List.mem_append_right _ (List.mem_append_right _ (List.mem_append_right _ (List.mem_of_getElem? (i := 205) rfl))), rfl⟩
theorem qS_X1_mean : Cond.selects RX1 yX1_mean yX1_mean ∈ WW := List.mem_filter.mpr ⟨List.mem_append_right _ (List.mem_append_right _ (List.mem_append_right _ (List.mem_of_getElem? (i := 206) rfl))), rfl⟩
theorem qC_X1_mean : Cond.code yX1_mean cX1_mean 1 (some .double) ∈ WW := List.mem_filter.mpr ⟨List.mem_append_right _ (List.mem_append_right _ (List.mem_append_right _ (List.mem_of_getElem? (i := 207) rfl))), rfl⟩
theorem qM_L_135 : Cond.methodLink RL 135 yX1_digest ∈ WW := List.mem_filter.mpr ⟨List.mem_append_right _ (List.mem_append_right _ (List.mem_append_right _ (List.mem_of_getElem? (i := 208) rfl))), rfl⟩
theorem qI_X1_digest : Cond.instanceMethod yX1_digest ∈ WW := List.mem_filter.mpr ⟨List.mem_append_right _ (List.mem_append_right _ (List.mem_append_right _ (List.mem_of_getElem? (i := 209) rfl))), rfl⟩
theorem qS_X1_digest : Cond.selects RX1 yX1_digest yX1_digest ∈ WW := List.mem_filter.mpr ⟨List.mem_append_right _ (List.mem_append_right _ (List.mem_append_right _ (List.mem_of_getElem? (i := 210) rfl))), rfl⟩
theorem qC_X1_digest : Cond.code yX1_digest cX1_digest 7 (some .long) ∈ WW := List.mem_filter.mpr ⟨List.mem_append_right _ (List.mem_append_right _ (List.mem_append_right _ (List.mem_of_getElem? (i := 211) rfl))), rfl⟩
theorem qL_X1_166 : Cond.constantLong RX1 166 (1847) ∈ WW := List.mem_filter.mpr ⟨List.mem_append_right _ (List.mem_append_right _ (List.mem_append_right _ (List.mem_of_getElem? (i := 212) rfl))), rfl⟩
theorem qL_X1_168 : Cond.constantLong RX1 168 (31) ∈ WW := List.mem_filter.mpr ⟨List.mem_append_right _ (List.mem_append_right _ (List.mem_append_right _ (List.mem_of_getElem? (i := 213) rfl))), rfl⟩
theorem qA_long : Cond.arrayClass .long ∈ WW := List.mem_filter.mpr ⟨List.mem_append_right _ (List.mem_append_right _ (List.mem_append_right _ (List.mem_of_getElem? (i := 214) rfl))), rfl⟩
end
section
section TXA
/-! after the kit's rows for exceptions: the same, but a normal return counts nothing (k0 = n0 = 0), a throw counts mc cells of ms slots -/
def tx_Q (Qc : Array Value → State → Outcome → State → Prop) (XC : String → State → State → Prop) (mc ms : Nat) (free : Addr → Prop) : Array Value → State → Outcome → State → Prop := fun a st o t =>
  (Qc a st o t ∧ ∃ L, FrameEnd st o t L 0 0 ∧ ∀ q ∈ L, free q.base) ∨ ∃ q, o = .threw q ∧ vx_T XC st q t mc ms free
def tx_Met (l : Launch) (y : MethodName) (ws : List Cond) (rm : Room) (Pc : Array Value → State → Prop) (Qc : Array Value → State → Outcome → State → Prop) (XC : String → State → State → Prop) (mc ms : Nat) (free : Addr → Prop) : Prop :=
  MetFree l y (headSpec ws rm) Pc (fun _ _ _ _ _ => True) (tx_Q Qc XC mc ms free)
section Payer
variable {l : Launch} {R : Room} {p : Program} {e : Env} {below : List Frame} {s : State} {sargs : Array Value} {y : MethodName} {len W9 : Nat}
theorem tx_back {ws : List Cond} {rm : Room} {Pc : Array Value → State → Prop} {Qc : Array Value → State → Outcome → State → Prop} {XC : String → State → State → Prop} {mc ms : Nat} {free : Addr → Prop} {bytes : ByteArray} {maxL : Nat} {ret : Option FieldType}
    (hM : tx_Met l y ws rm Pc Qc XC mc ms free) (hblind : FrameBlind Pc) (hrc : rm.cells = mc) (hrs : rm.slots = ms)
    (hframes : rm.frames + 1 ≤ R.frames) (hlocals : W9 + (maxL + 11) + rm.locals ≤ R.locals)
    (hws : ∀ w ∈ ws, ∀ a' U, s.WarmedH U.vm → w.before a' U = true) (hcode : Cond.code y bytes maxL ret ∈ ws) (hinit : ∀ a' U, s.WarmedH U.vm → (Cond.initialized y.cls).before a' U = true) :
    vx_Back l R p e below s sargs y len W9 (PreOf R mc ms Pc) (PostOf Qc 0 0 free) (vx_Post XC mc ms free) := by
  intro m meth c A g ig mk a X hg hsize hdg hW hn hp
  have h1 : (headSpec ws rm).pre.before a A.U = true := atoms_intro fun w hw => hws w hw _ _ X.warmed
  have h2 : (Cond.code y bytes maxL ret).before a A.U = true := hws _ hcode _ _ X.warmed
  have h3 : (Cond.initialized y.cls).before a A.U = true := hinit _ _ X.warmed
  have h4 : A.cells + (headSpec ws rm).room.cells ≤ R.cells := by rw [show (headSpec ws rm).room.cells = mc from hrc]; exact hp.1
  have h5 : A.slots + (headSpec ws rm).room.slots ≤ R.slots := by rw [show (headSpec ws rm).room.slots = ms from hrs]; exact hp.2.1
  have hPc : Pc a (A.U.calling g mk a) := hblind _ _ _ _ hp.2.2
  obtain ⟨U, Ls, c0, s0⟩ := A
  dsimp only [Pt.U, Pt.locs, Pt.cells, Pt.slots] at h1 h2 h3 h4 h5 X hn hPc ⊢
  obtain ⟨methY, cY, hmY, hcY, -, hlY, -, -, -, -⟩ := Cond.code_spec hn h2
  obtain ⟨kY, hkY, -⟩ := className_of_methodNamed hn
  have hinitY : kY.init = .initialized := Cond.initialized_spec (findClass_of_methodNamed hn) hkY h3
  have h : At U g.method c below := by rw [hg]; exact X.here
  have hlocals9 : W9 + (maxL + 11) + (headSpec ws rm).room.locals ≤ R.locals := hlocals
  have happ : (headSpec ws rm).appliesLoose y e.platform (U.calling g mk a) = true :=
    Spec.appliesLoose_calling (g := g) h hdg hn hkY hinitY
      (X.room_calling (g := g) (R' := (headSpec ws rm).room) hsize hmY hcY hframes (by rw [hlY]; omega) h4 h5) h1
  obtain ⟨mid, hmid⟩ := h.above
  have hfr : (U.setTop g).frames = (.java g :: mid) ++ below := by rw [State.frames_setTop' g h.top, hmid]; rfl
  obtain ⟨o, s₂, hsteps, -, hend, hq⟩ := Steps.callFree hM p X.admits X.cas X.clock (acts := []) hfr happ hPc trivial
  have hq' : tx_Q Qc XC mc ms free a (U.calling g mk a) o s₂ := hq
  rw [State.frames_setTop' g h.top] at hend
  obtain ⟨g₀, hg0⟩ := Option.isSome_iff_exists.mp h.top
  obtain ⟨r, hr⟩ := State.topJava?_eq_some.mp hg0
  have hr' : (({ U with heap := s₂.heap, slotsUsed := s₂.slotsUsed } : State).setVm s₂.vm).frames = .java g₀ :: r := hr
  rcases hq' with ⟨hqc, L, hfe, hL⟩ | ⟨q, rfl, E, ce, L, hx, hce, hcv, hcl, hW₂, hsm, hL⟩
  · obtain ⟨⟨v, rfl⟩, hW₂, e2, q2, q3, q4, q5, q6⟩ := id hfe
    have e3 : s₂ = ({ (U.calling g mk a).setFrames s₂.frames with heap := s₂.heap, slotsUsed := s₂.slotsUsed } : State).setVm s₂.vm := by
      have : s₂ = ({ s₂ with vm := (U.calling g mk a).vm } : State).setVm s₂.vm := rfl
      rw [e2] at this
      exact this
    obtain ⟨c₂, i₂, len₂, hc₂, hd₂, hf₂⟩ := hend
    have hW' : U.WarmedH s₂.vm := hW₂
    have hcc : c₂ = c := by
      have h1 : s₂.code? g.method = U.code? g.method := by
        rw [State.code?_eq, State.code?_eq, hW'.alike.method?]
      exact Option.some.inj (hc₂.symm.trans (h1.trans h.code))
    subst hcc
    have hlen : len₂ = len := by rw [hdg] at hd₂; cases hd₂; rfl
    subst hlen
    have hs₂ : s₂ = (({ U with heap := s₂.heap, slotsUsed := s₂.slotsUsed } : State).setVm s₂.vm).setTop { g with pc := g.pc + len₂, stack := v.toList ++ g.stack } := by
      refine e3.trans ?_
      rw [hf₂, State.calling_eq h.top, State.setFrames_setFrames, State.setTop_of_frames _ hr', hr]
      rfl
    have hsame : U.sameButNew ({ U with heap := s₂.heap, slotsUsed := s₂.slotsUsed } : State) L 0 0 := by
      refine ⟨?_, q2, q3, q4, q5, q6⟩
      obtain ⟨t, ht, -⟩ := State.frames_cons hr
      show ({ U with heap := s₂.heap, slotsUsed := s₂.slotsUsed } : State) = { U.setFrames U.frames with heap := s₂.heap, slotsUsed := s₂.slotsUsed }
      rw [State.setFrames_self ht]
    subst hg
    refine Or.inl ⟨v, ⟨(({ U with heap := s₂.heap, slotsUsed := s₂.slotsUsed } : State).setVm s₂.vm), Ls ++ L, c0 + 0, s0 + 0⟩,
      ⟨X.admits, X.cas, X.clock, X.frames, X.room, X.hears, X.method, X.code, (X.here.setHeapUsed s₂.heap s₂.slotsUsed).setVm hW'.alike, X.tail, State.WarmedH.trans X.warmed hW', X.limits, X.bytes, X.same.trans (hsame.setVm s.vm)⟩,
      ⟨g, mk, s₂, L, rfl, rfl, hqc, rfl, hL, rfl, rfl⟩, ?_⟩
    show Steps p.tables e below _ ((({ U with heap := s₂.heap, slotsUsed := s₂.slotsUsed } : State).setVm s₂.vm).setTop { g with pc := g.pc + len₂, stack := v.toList ++ g.stack })
    rw [← hs₂]
    exact hsteps
  · obtain ⟨e2, q2, q3, q4, q5, q6⟩ := id hsm
    have e3 : s₂ = ({ (U.calling g mk a).setFrames s₂.frames with heap := s₂.heap, slotsUsed := s₂.slotsUsed } : State).setVm s₂.vm := by
      have : s₂ = ({ s₂ with vm := (U.calling g mk a).vm } : State).setVm s₂.vm := rfl
      rw [e2] at this
      exact this
    have hf₂ : s₂.frames = .throwing q :: .java g :: U.frames.tail := hend
    have hW' : U.WarmedH s₂.vm := hW₂
    have hs₂ : s₂ = ((({ U with heap := s₂.heap, slotsUsed := s₂.slotsUsed } : State).setVm s₂.vm).setTop g).pushFrame (.throwing q) := by
      refine e3.trans ?_
      rw [hf₂, State.calling_eq h.top, State.setFrames_setFrames, State.pushFrame, State.frames_setTop _ hr', State.setTop_of_frames _ hr', State.setFrames_setFrames, hr]
      rfl
    have hsame : U.sameButNew ({ U with heap := s₂.heap, slotsUsed := s₂.slotsUsed } : State) L mc ms := by
      refine ⟨?_, q2, q3, q4, q5, q6⟩
      obtain ⟨t, ht, -⟩ := State.frames_cons hr
      show ({ U with heap := s₂.heap, slotsUsed := s₂.slotsUsed } : State) = { U.setFrames U.frames with heap := s₂.heap, slotsUsed := s₂.slotsUsed }
      rw [State.setFrames_self ht]
    subst hg
    refine Or.inr ⟨q, ⟨(({ U with heap := s₂.heap, slotsUsed := s₂.slotsUsed } : State).setVm s₂.vm), Ls ++ L, c0 + mc, s0 + ms⟩,
      ⟨X.admits, X.cas, X.clock, X.frames, X.room, X.hears, X.method, X.code, (X.here.setHeapUsed s₂.heap s₂.slotsUsed).setVm hW'.alike, X.tail, State.WarmedH.trans X.warmed hW', X.limits, X.bytes, X.same.trans (hsame.setVm s.vm)⟩,
      ⟨g, mk, s₂, L, E, ce, rfl, rfl, hx, hce, hcv, hcl, rfl, hL, rfl, rfl⟩, ?_⟩
    show Steps p.tables e below _ (((({ U with heap := s₂.heap, slotsUsed := s₂.slotsUsed } : State).setVm s₂.vm).setTop g).pushFrame (.throwing q))
    rw [← hs₂]
    exact hsteps
end Payer
def tx_Run (p : Program) (l : Launch) (e : Env) (R : Room) (s : State) (m : MethodId) (args : Array Value) (below : List Frame) (meth : Method) (c : Code) (H : Heap) (locs : List Loc) (cells slots mc ms : Nat) (g : JFrame) (rest : List Value) (Qa : State → Outcome → State → Prop) (XC : String → State → State → Prop) (free : Addr → Prop) : Prop :=
  ∀ T : State, T.heap = H → Stand p l e R s m args below meth c T locs cells slots →
    (∃ (v : Option Value) (st₀ t T' : State) (L : List Loc), st₀.heap = H ∧ Stand p l e R s m args below meth c T' (locs ++ L) cells slots ∧ (∀ q ∈ L, free q.base) ∧ T'.heap = t.heap ∧ T'.vm = t.vm ∧ Qa st₀ (.returned v) t ∧
      Goes p e below T g T' { g with pc := g.pc + 3, stack := v.toList ++ rest }) ∨
    (∃ (q : Addr) (st₀ t T' : State) (L : List Loc) (E : String) (ce : Cell), st₀.heap = H ∧ Stand p l e R s m args below meth c T' (locs ++ L) (cells + mc) (slots + ms) ∧ (∀ z ∈ L, free z.base) ∧ T'.heap = t.heap ∧ T'.vm = t.vm ∧ XC E st₀ t ∧ t.heap[q]? = some ce ∧ ce.vm = .none ∧ s.vm.findClass E = some ce.cls ∧
      Steps p.tables e below (T.setTop g) ((T'.setTop { g with stack := rest }).pushFrame (.throwing q)))
section Runs
variable {p : Program} {l : Launch} {e : Env} {R : Room} {s : State} {m : MethodId} {args : Array Value} {below : List Frame} {meth : Method} {c : Code} {H : Heap} {locs : List Loc} {cells slots : Nat}
variable {y : MethodName} {bytes cc : ByteArray} {maxL nL mc ms n index : Nat} {ret : Option FieldType} {ws : List Cond} {rm : Room} {Pc : Array Value → State → Prop} {Qc : Array Value → State → Outcome → State → Prop} {XC : String → State → State → Prop} {free : Addr → Prop} {Ts : List Cond} {own C : String} {b : Addr} {As rest : List Value} {g : JFrame}
theorem tx_callBack (cb : CallB R s args own index y bytes maxL ret ws rm mc ms n) (hM : tx_Met l y ws rm Pc Qc XC mc ms free) (hbl : FrameBlind Pc) : vx_Back l R p e below s args y 3 8 (PreOf R mc ms Pc) (PostOf Qc 0 0 free) (vx_Post XC mc ms free) := by
  obtain ⟨hrc, hrs, hfr, hlo, hws, hcw, -, hini, -⟩ := cb
  exact tx_back (bytes := bytes) (maxL := maxL) (ret := ret) hM hbl hrc hrs hfr hlo hws hcw (fun a' U hW => word_at hW (Or.inl (by first | rfl | simp [Cond.onTables, Cond.keeps, Cond.steady])) hini)
theorem tx_runV (S : CallFix p m c cc nL s args Ts own) (hM : tx_Met l y ws rm Pc Qc XC mc ms free) (cw : CallW R s args own C index y bytes maxL ret ws rm mc ms n) (hp : PreV s H C b Pc As)
    (hg : g.method = m) (hn : As.length = n) (hsize : g.locals.size = nL) (hstack : g.stack = As.reverse ++ .ref b :: rest) (hW : 2 * g.monitorRoom + (rest.map fun v => v.category).sum ≤ 8) (hdg : decode cc g.pc = .ok (.invokevirtual index, 3)) (hf : cells + mc ≤ R.cells ∧ slots + ms ≤ R.slots) :
    tx_Run p l e R s m args below meth c H locs cells slots mc ms g rest (Qc (Value.ref b :: As).toArray) XC free := by
  have hK : vx_Back l R p e below s args y 3 8 (PreOf R mc ms Pc) (PostOf Qc 0 0 free) (vx_Post XC mc ms free) := tx_callBack cw.1 hM hp.1
  obtain ⟨⟨-, -, -, -, -, -, hcode, -, hy, hlen, hl⟩, hin, hse⟩ := cw
  obtain ⟨hx, hb, hml, ho, -⟩ := S
  obtain ⟨-, ⟨cellB, hcB, hoB, hclB⟩, hPc⟩ := hp
  intro T hT X
  rcases vx_callV X hx (C := C) (bytes := bytes) (maxL := maxL) (ret := ret) ho hl hin hse hcode hy hK (by rw [hT]; exact hcB) hoB hclB hg (hsize.trans hml.symm) (argsL := As) (rest := rest) (fun sig h => hn.trans (hlen sig h)) hstack hW (by rw [hb]; exact hdg)
    (fun vm₁ hW₁ => ⟨hf.1, hf.2, hPc (T.setVm vm₁) hT hW₁⟩) with ⟨v, vm₁, ⟨U', l2, c2, s2⟩, hW₁, X', ⟨g', mk, t, L, e1, e2, hq, h1, hL, h2, h3⟩, st⟩ | ⟨q, vm₁, ⟨U', l2, c2, s2⟩, hW₁, X', ⟨g', mk, t, L, E, ce, e1, e2, hq, hce, hcv, hcl, h1, hL, h2, h3⟩, st⟩
  · dsimp only [Pt.U, Pt.locs, Pt.cells, Pt.slots] at X' e1 e2 h1 h2 h3 st
    subst h1; subst h2; subst h3
    exact Or.inl ⟨v, (T.setVm vm₁).calling g' mk (Value.ref b :: As).toArray, t, U', L, hT, X', hL, e1, e2, hq, st⟩
  · dsimp only [Pt.U, Pt.locs, Pt.cells, Pt.slots] at X' e1 e2 h1 h2 h3 st hcl
    subst h1; subst h2; subst h3
    exact Or.inr ⟨q, (T.setVm vm₁).calling g' mk (Value.ref b :: As).toArray, t, U', L, E, ce, hT, X', hL, e1, e2, hq, hce, hcv, vx_cls hW₁ hcl, st⟩
theorem tx_runS (S : CallFix p m c cc nL s args Ts own) (hM : tx_Met l y ws rm Pc Qc XC mc ms free) (cw : CallB R s args own index y bytes maxL ret ws rm mc ms n ∧ (Cond.static y).before args s = true) (hp : PreS s H Pc As)
    (hg : g.method = m) (hn : As.length = n) (hsize : g.locals.size = nL) (hstack : g.stack = As.reverse ++ rest) (hW : 2 * g.monitorRoom + (rest.map fun v => v.category).sum ≤ 8) (hdg : decode cc g.pc = .ok (.invokestatic index, 3)) (hf : cells + mc ≤ R.cells ∧ slots + ms ≤ R.slots) :
    tx_Run p l e R s m args below meth c H locs cells slots mc ms g rest (Qc As.toArray) XC free := by
  have hK : vx_Back l R p e below s args y 3 8 (PreOf R mc ms Pc) (PostOf Qc 0 0 free) (vx_Post XC mc ms free) := tx_callBack cw.1 hM hp.1
  obtain ⟨⟨-, -, -, -, -, -, hcode, hini, hy, hlen, hl⟩, hstt⟩ := cw
  obtain ⟨hx, hb, hml, ho, -⟩ := S
  intro T hT X
  rcases vx_callS X hx (bytes := bytes) (maxL := maxL) (ret := ret) ho hl hstt hini hcode hy hK hg (hsize.trans hml.symm) (argsL := As) (rest := rest) (fun sig h => hn.trans (hlen sig h)) hstack hW (by rw [hb]; exact hdg)
    (fun vm₁ hW₁ => ⟨hf.1, hf.2, hp.2 (T.setVm vm₁) hT hW₁⟩) with ⟨v, vm₁, ⟨U', l2, c2, s2⟩, hW₁, X', ⟨g', mk, t, L, e1, e2, hq, h1, hL, h2, h3⟩, st⟩ | ⟨q, vm₁, ⟨U', l2, c2, s2⟩, hW₁, X', ⟨g', mk, t, L, E, ce, e1, e2, hq, hce, hcv, hcl, h1, hL, h2, h3⟩, st⟩
  · dsimp only [Pt.U, Pt.locs, Pt.cells, Pt.slots] at X' e1 e2 h1 h2 h3 st
    subst h1; subst h2; subst h3
    exact Or.inl ⟨v, (T.setVm vm₁).calling g' mk As.toArray, t, U', L, hT, X', hL, e1, e2, hq, st⟩
  · dsimp only [Pt.U, Pt.locs, Pt.cells, Pt.slots] at X' e1 e2 h1 h2 h3 st hcl
    subst h1; subst h2; subst h3
    exact Or.inr ⟨q, (T.setVm vm₁).calling g' mk As.toArray, t, U', L, E, ce, hT, X', hL, e1, e2, hq, hce, hcv, vx_cls hW₁ hcl, st⟩
end Runs
def tx_MQ (below : List Frame) (Qc : Array Value → State → Outcome → State → Prop) (XC : String → State → State → Prop) (a : Array Value) (s : State) (mc ms : Nat) (free : Addr → Prop) : State → Prop := fun t =>
  ∃ o, t.status = .running ∧ Ended t below o ∧ tx_Q Qc XC mc ms free a s o t
section Ends
variable {p : Program} {l : Launch} {e : Env} {R : Room} {s : State} {m : MethodId} {args : Array Value} {below : List Frame} {meth : Method} {c : Code} {H : Heap} {locs : List Loc} {cells slots : Nat}
variable {Qc : Array Value → State → Outcome → State → Prop} {XC : String → State → State → Prop} {mc ms : Nat} {free : Addr → Prop} {g : JFrame}
/-- a method's normal end: nothing made -/
theorem tx_ret (k : W p l e R s m args below meth c H locs cells slots (MQ below Qc args s 0 0 free) g) : W p l e R s m args below meth c H locs cells slots (tx_MQ below Qc XC args s mc ms free) g := by
  intro T hT X
  obtain ⟨t, a1, o, b1, b2, b3, b4⟩ := k T hT X
  exact ⟨t, a1, o, b1, b2, Or.inl ⟨b3, b4⟩⟩
/-- a method's throw -/
theorem tx_thr (k : W p l e R s m args below meth c H locs cells slots (vx_MQ below (fun _ _ _ _ => False) XC args s mc ms free) g) : W p l e R s m args below meth c H locs cells slots (tx_MQ below Qc XC args s mc ms free) g := by
  intro T hT X
  obtain ⟨t, a1, o, b1, b2, b3⟩ := k T hT X
  refine ⟨t, a1, o, b1, b2, ?_⟩
  rcases b3 with ⟨b3, -⟩ | b3
  · exact b3.elim
  · exact Or.inr b3
theorem tx_thrW {q : Addr} (k : vx_W p l e R s m args below meth c H locs cells slots (vx_MQ below (fun _ _ _ _ => False) XC args s mc ms free) g q) : vx_W p l e R s m args below meth c H locs cells slots (tx_MQ below Qc XC args s mc ms free) g q := by
  intro T hT X
  obtain ⟨t, a1, o, b1, b2, b3⟩ := k T hT X
  refine ⟨t, a1, o, b1, b2, ?_⟩
  rcases b3 with ⟨b3, -⟩ | b3
  · exact b3.elim
  · exact Or.inr b3
end Ends
section Bodies
variable {l : Launch}
theorem tx_ofW {y : MethodName} {ws ws' : List Cond} {rm : Room} {Pc : Array Value → State → Prop} {Qc : Array Value → State → Outcome → State → Prop} {XC : String → State → State → Prop} {mc ms : Nat} {free : Addr → Prop} {cc : ByteArray} {maxL : Nat} {ret : Option FieldType}
    (hy : plainName y.cls = true) (hw : ws = Cond.code y cc maxL ret :: ws')
    (body : ∀ p e s m args below meth c s₁, BodyLoose p l y (headSpec ws rm) cc maxL ret e s m args below meth c s₁ → c.maxLocals = maxL → (∀ x ∈ c.exceptionTable.toList, False) → Pc args s →
      W p l e (headSpec ws rm).room s m args below meth c s.heap [] 0 0 (tx_MQ below Qc XC args s mc ms free) (entryFrame m args maxL)) : tx_Met l y ws rm Pc Qc XC mc ms free := by
  refine MetFree.of_bodyS (code := cc) (maxLocals := maxL) (ret := ret) hy ?_ ?_
  · intro args s m h hn
    obtain ⟨meth, c, h1, h2, h3, h4, h5, h6, -, -⟩ := Cond.code_spec hn (atoms_spec (ws := ws) h _ (by rw [hw]; exact List.mem_cons_self))
    exact ⟨meth, c, h1, h2, h3, h4, h5, h6⟩
  · intro p e s m args below meth c s₁ B hml hP _
    have hh0 : s₁.heap = s.heap := by rw [B.state]; rfl
    have ht : ∀ x ∈ c.exceptionTable.toList, False := by
      obtain ⟨meth9, c9, h1, h2, -, -, -, -, h7, -⟩ := Cond.code_spec B.named (atoms_spec (ws := ws) B.pre _ (by rw [hw]; exact List.mem_cons_self))
      cases Option.some.inj (h1.symm.trans B.method)
      cases Option.some.inj (h2.symm.trans (Stand.of_body B).code)
      intro x hx
      rw [Array.isEmpty_iff.mp h7] at hx
      cases hx
    obtain ⟨t, a1, o, b1, b2, b3⟩ := body p e s m args below meth c s₁ B hml ht hP s₁ hh0 (Stand.of_body B)
    exact ⟨t, o, a1, b1, b2, b3⟩
end Bodies
theorem tx_ofWH {l : Launch} {y : MethodName} {ws ws' : List Cond} {rm : Room} {Pc : Array Value → State → Prop} {Qc : Array Value → State → Outcome → State → Prop} {XC : String → State → State → Prop} {mc ms : Nat} {free : Addr → Prop} {cc : ByteArray} {maxL : Nat} {ret : Option FieldType} {hh : List (Nat × Nat × Nat × Nat)}
    (hy : plainName y.cls = true) (hw : ws = Cond.codeWith y cc maxL ret hh :: ws')
    (body : ∀ p e s m args below meth c s₁, BodyLoose p l y (headSpec ws rm) cc maxL ret e s m args below meth c s₁ → c.maxLocals = maxL → Pc args s →
      W p l e (headSpec ws rm).room s m args below meth c s.heap [] 0 0 (tx_MQ below Qc XC args s mc ms free) (entryFrame m args maxL)) : tx_Met l y ws rm Pc Qc XC mc ms free := by
  refine MetFree.of_bodyS (code := cc) (maxLocals := maxL) (ret := ret) hy ?_ ?_
  · intro args s m h hn
    obtain ⟨m9, meth, c, hn9, h1, h2, h3, h4, -, h5, h6, -⟩ := Cond.codeWith_spec (atoms_spec (ws := ws) h _ (by rw [hw]; exact List.mem_cons_self))
    cases hn.symm.trans hn9
    exact ⟨meth, c, h1, h2, h3, h4, h5, h6⟩
  · intro p e s m args below meth c s₁ B hml hP _
    have hh0 : s₁.heap = s.heap := by rw [B.state]; rfl
    obtain ⟨t, a1, o, b1, b2, b3⟩ := body p e s m args below meth c s₁ B hml hP s₁ hh0 (Stand.of_body B)
    exact ⟨t, o, a1, b1, b2, b3⟩
end TXA
end
section
section KIT
/-! MIRRORS: what a method computes, as a function over numbers; none where an index is out of its row or a count runs out. The rows below walk a method along its mirror. -/
def rdA (f : Nat → Int32) (n : Nat) (i : Int32) : Option Int32 := if i < 0 ∨ n ≤ i.toNatClampNeg then none else some (f i.toNatClampNeg)
def rdL (f : Nat → Int64) (n : Nat) (i : Int32) : Option Int64 := if i < 0 ∨ n ≤ i.toNatClampNeg then none else some (f i.toNatClampNeg)
def wrA {ρ : Type} (n : Nat) (i : Int32) (k : Option ρ) : Option ρ := if i < 0 ∨ n ≤ i.toNatClampNeg then none else k
def gz {ρ : Type} (v : Int32) (k : Option ρ) : Option ρ := if v &&& 1 = v then k else none
def tb {α ρ : Type} (x : Option (α ⊕ Nat)) (K : α → Option (ρ ⊕ Nat)) : Option (ρ ⊕ Nat) := match x with
  | none => none
  | some (.inr e) => some (.inr e)
  | some (.inl v) => K v
def sU (S : Nat → Nat → Int32) (k : Nat) (f : Nat → Int32) : Nat → Nat → Int32 := fun j => if j = k then f else S j
def lmin (x y : Int32) : Int32 := if y < x then y else x
def itr1 {ρ A1 : Type} (F : (A1 → Option ρ) → A1 → Option ρ) : Nat → A1 → Option ρ
  | 0, _ => none
  | n + 1, a => F (itr1 F n) a
def itr2 {ρ A1 A2 : Type} (F : (A1 → A2 → Option ρ) → A1 → A2 → Option ρ) : Nat → A1 → A2 → Option ρ
  | 0, _, _ => none
  | n + 1, a, b => F (itr2 F n) a b
def itr3 {ρ A1 A2 A3 : Type} (F : (A1 → A2 → A3 → Option ρ) → A1 → A2 → A3 → Option ρ) : Nat → A1 → A2 → A3 → Option ρ
  | 0, _, _, _ => none
  | n + 1, a, b, c => F (itr3 F n) a b c
def itr4 {ρ A1 A2 A3 A4 : Type} (F : (A1 → A2 → A3 → A4 → Option ρ) → A1 → A2 → A3 → A4 → Option ρ) : Nat → A1 → A2 → A3 → A4 → Option ρ
  | 0, _, _, _, _ => none
  | n + 1, a, b, c, d => F (itr4 F n) a b c d
def itr5 {ρ A1 A2 A3 A4 A5 : Type} (F : (A1 → A2 → A3 → A4 → A5 → Option ρ) → A1 → A2 → A3 → A4 → A5 → Option ρ) : Nat → A1 → A2 → A3 → A4 → A5 → Option ρ
  | 0, _, _, _, _, _ => none
  | n + 1, a, b, c, d, e => F (itr5 F n) a b c d e
theorem itr1_ind {ρ A1 : Type} {F : (A1 → Option ρ) → A1 → Option ρ} {z : ρ} (P : A1 → Prop) (hs : ∀ ih : A1 → Option ρ, (∀ b, ih b = some z → P b) → ∀ a, F ih a = some z → P a) : ∀ n a, itr1 F n a = some z → P a := by
  intro n
  induction n with
  | zero => intro a h; cases h
  | succ n ih => intro a h; exact hs _ ih a h
theorem itr2_ind {ρ A1 A2 : Type} {F : (A1 → A2 → Option ρ) → A1 → A2 → Option ρ} {z : ρ} (P : A1 → A2 → Prop) (hs : ∀ ih : A1 → A2 → Option ρ, (∀ a b, ih a b = some z → P a b) → ∀ a b, F ih a b = some z → P a b) : ∀ n a b, itr2 F n a b = some z → P a b := by
  intro n
  induction n with
  | zero => intro a b h; cases h
  | succ n ih => intro a b h; exact hs _ ih a b h
theorem itr3_ind {ρ A1 A2 A3 : Type} {F : (A1 → A2 → A3 → Option ρ) → A1 → A2 → A3 → Option ρ} {z : ρ} (P : A1 → A2 → A3 → Prop) (hs : ∀ ih : A1 → A2 → A3 → Option ρ, (∀ a b c, ih a b c = some z → P a b c) → ∀ a b c, F ih a b c = some z → P a b c) : ∀ n a b c, itr3 F n a b c = some z → P a b c := by
  intro n
  induction n with
  | zero => intro a b c h; cases h
  | succ n ih => intro a b c h; exact hs _ ih a b c h
theorem itr4_ind {ρ A1 A2 A3 A4 : Type} {F : (A1 → A2 → A3 → A4 → Option ρ) → A1 → A2 → A3 → A4 → Option ρ} {z : ρ} (P : A1 → A2 → A3 → A4 → Prop) (hs : ∀ ih : A1 → A2 → A3 → A4 → Option ρ, (∀ a b c d, ih a b c d = some z → P a b c d) → ∀ a b c d, F ih a b c d = some z → P a b c d) : ∀ n a b c d, itr4 F n a b c d = some z → P a b c d := by
  intro n
  induction n with
  | zero => intro a b c d h; cases h
  | succ n ih => intro a b c d h; exact hs _ ih a b c d h
theorem itr5_ind {ρ A1 A2 A3 A4 A5 : Type} {F : (A1 → A2 → A3 → A4 → A5 → Option ρ) → A1 → A2 → A3 → A4 → A5 → Option ρ} {z : ρ} (P : A1 → A2 → A3 → A4 → A5 → Prop) (hs : ∀ ih : A1 → A2 → A3 → A4 → A5 → Option ρ, (∀ a b c d e, ih a b c d e = some z → P a b c d e) → ∀ a b c d e, F ih a b c d e = some z → P a b c d e) : ∀ n a b c d e, itr5 F n a b c d e = some z → P a b c d e := by
  intro n
  induction n with
  | zero => intro a b c d e h; cases h
  | succ n ih => intro a b c d e h; exact hs _ ih a b c d e h
theorem rdA_h {ρ : Type} {f : Nat → Int32} {n : Nat} {i : Int32} {K : Int32 → Option ρ} {z : ρ} (h : (rdA f n i).bind K = some z) : vp_in i n ∧ K (f i.toNatClampNeg) = some z := by
  unfold rdA at h
  by_cases c : i < 0 ∨ n ≤ i.toNatClampNeg
  · rw [if_pos c] at h; exact absurd h (by simp)
  · rw [if_neg c] at h; exact ⟨c, h⟩
theorem rdL_h {ρ : Type} {f : Nat → Int64} {n : Nat} {i : Int32} {K : Int64 → Option ρ} {z : ρ} (h : (rdL f n i).bind K = some z) : vp_in i n ∧ K (f i.toNatClampNeg) = some z := by
  unfold rdL at h
  by_cases c : i < 0 ∨ n ≤ i.toNatClampNeg
  · rw [if_pos c] at h; exact absurd h (by simp)
  · rw [if_neg c] at h; exact ⟨c, h⟩
theorem wrA_h {ρ : Type} {n : Nat} {i : Int32} {k : Option ρ} {z : ρ} (h : wrA n i k = some z) : vp_in i n ∧ k = some z := by
  unfold wrA at h
  by_cases c : i < 0 ∨ n ≤ i.toNatClampNeg
  · rw [if_pos c] at h; cases h
  · rw [if_neg c] at h; exact ⟨c, h⟩
theorem gz_h {ρ : Type} {v : Int32} {k : Option ρ} {z : ρ} (h : gz v k = some z) : v &&& 1 = v ∧ k = some z := by
  unfold gz at h
  by_cases c : v &&& 1 = v
  · rw [if_pos c] at h; exact ⟨c, h⟩
  · rw [if_neg c] at h; cases h
theorem ob_h {α ρ : Type} {x : Option α} {K : α → Option ρ} {z : ρ} (h : x.bind K = some z) : ∃ v, x = some v ∧ K v = some z := by
  cases x with
  | none => cases h
  | some v => exact ⟨v, rfl, h⟩
theorem tb_h {α ρ : Type} {x : Option (α ⊕ Nat)} {K : α → Option (ρ ⊕ Nat)} {z : ρ ⊕ Nat} (h : tb x K = some z) : (∃ v, x = some (.inl v) ∧ K v = some z) ∨ ∃ e, x = some (.inr e) ∧ z = .inr e := by
  match x, h with
  | some (.inl v), h => exact Or.inl ⟨v, rfl, h⟩
  | some (.inr e), h => exact Or.inr ⟨e, rfl, (Option.some.inj h).symm⟩
theorem it_h {ρ : Type} {c : Prop} {inst : Decidable c} {a b : Option ρ} {z : ρ} (h : @ite _ c inst a b = some z) (hc : c) : a = some z := (if_pos hc).symm.trans h
theorem if_h {ρ : Type} {c : Prop} {inst : Decidable c} {a b : Option ρ} {z : ρ} (h : @ite _ c inst a b = some z) (hc : ¬ c) : b = some z := (if_neg hc).symm.trans h
theorem i32_ne {x k : Int32} (h : ¬ x = k) : x.toInt ≠ k.toInt := fun e => h (Int32.toInt_inj.mp e)

/-- the words of a call: the callee's own code ahead of the one list -/
theorem gdV {own : String} {idx : Nat} {CL : String} {y : MethodName} {b : ByteArray} {n : Nat} {r : Option FieldType} (h1 : Cond.methodLink own idx y ∈ WW) (h2 : Cond.instanceMethod y ∈ WW) (h3 : Cond.selects CL y y ∈ WW) (h4 : Cond.initialized CL ∈ WW) (h5 : Cond.code y b n r ∈ WW) : GoodIn WW (wsV own idx CL y (Cond.code y b n r :: WW)) := by
  have k : ∀ w ∈ wsV own idx CL y (Cond.code y b n r :: WW), w ∈ WW := by
    intro w hw
    simp only [wsV, List.cons_append, List.nil_append, List.mem_cons] at hw
    rcases hw with rfl | rfl | rfl | rfl | rfl | hw
    · exact h1
    · exact h2
    · exact h3
    · exact h4
    · exact h5
    · exact hw
  exact fun w hw => ⟨k w hw, WW_good w (k w hw)⟩
theorem gdS {own : String} {idx : Nat} {y : MethodName} {b : ByteArray} {n : Nat} {r : Option FieldType} (h1 : Cond.methodLink own idx y ∈ WW) (h2 : Cond.static y ∈ WW) (h4 : Cond.initialized y.cls ∈ WW) (h5 : Cond.code y b n r ∈ WW) : GoodIn WW (va_wsS own idx y (Cond.code y b n r :: WW)) := by
  have k : ∀ w ∈ va_wsS own idx y (Cond.code y b n r :: WW), w ∈ WW := by
    intro w hw
    simp only [va_wsS, List.cons_append, List.nil_append, List.mem_cons] at hw
    rcases hw with rfl | rfl | rfl | rfl | hw
    · exact h1
    · exact h2
    · exact h4
    · exact h5
    · exact hw
  exact fun w hw => ⟨k w hw, WW_good w (k w hw)⟩
theorem gdI {y : MethodName} {b : ByteArray} {n : Nat} {r : Option FieldType} (h5 : Cond.code y b n r ∈ WW) : GoodIn WW (Cond.code y b n r :: WW) := by
  have k : ∀ w ∈ (Cond.code y b n r :: WW), w ∈ WW := fun w hw => (List.mem_cons.mp hw).elim (fun e => by rw [e]; exact h5) id
  exact fun w hw => ⟨k w hw, WW_good w (k w hw)⟩

/-- addresses apart: a matter of the addresses alone -/
theorem D_same {A : Nat → Prop} {w w' : va_W} (h : va_D A w) (e : w'.map Prod.fst = w.map Prod.fst) : va_D A w' := by
  have key : ∀ (k : Nat) (q : Nat × va_E), w'[k]? = some q → ∃ q', w[k]? = some q' ∧ q'.1 = q.1 := by
    intro k q hq
    have h1 : (w'.map Prod.fst)[k]? = some q.1 := by rw [List.getElem?_map, hq]; rfl
    rw [e, List.getElem?_map] at h1
    cases hw : w[k]? with
    | none => rw [hw] at h1; cases h1
    | some q' => rw [hw] at h1; exact ⟨q', rfl, Option.some.inj h1⟩
  refine ⟨fun i j p q hp hq hpq => ?_, fun k q hk => ?_⟩
  · obtain ⟨p', a1, a2⟩ := key i p hp
    obtain ⟨q', b1, b2⟩ := key j q hq
    exact h.1 i j p' q' a1 b1 (by rw [a2, b2]; exact hpq)
  · obtain ⟨q', a1, a2⟩ := key k q hk
    have := h.2 k q' a1
    rw [a2] at this
    exact this
theorem A_sub {A : Nat → Prop} {ws : va_W} {H0 H : Heap} {locs : List Loc} (hD : va_D A ws) (hS : va_S A H0 H locs) (hA : ∀ q, H0.size ≤ q → A q) : ∀ q, va_A ws H.size q → A q := by
  intro q hq
  rcases hq with ⟨k, e, hk⟩ | hq
  · exact hD.2 k _ hk
  · exact hA q (Nat.le_trans hS.1 hq)

/-- contracts: starts and ends -/
def roP (D : va_G) (ws : va_W) (tys : List (ClassId × FieldType)) : State → Prop := fun U => va_P D vwCl ws U.heap ∧ va_K D vwCl tys U
def rwP (D : va_G) (ws : va_W) (tys : List (ClassId × FieldType)) (sz : Nat) : State → Prop := fun U => U.heap.size = sz ∧ va_P D vwCl ws U.heap ∧ va_K D vwCl tys U ∧ va_D (fun _ => True) ws
theorem roP_blind {D : va_G} {ws : va_W} {tys : List (ClassId × FieldType)} {av : List Value} : FrameBlind (va_Pc av (roP D ws tys)) := fun a U g mk q => by
  obtain ⟨q0, qP, qK⟩ := q
  exact ⟨q0, qP, va_K.moved (u := U) (U := U.calling g mk a) (Vm.Alike.refl U.vm) qK⟩
theorem rwP_blind {D : va_G} {ws : va_W} {tys : List (ClassId × FieldType)} {sz : Nat} {av : List Value} : FrameBlind (va_Pc av (rwP D ws tys sz)) := fun a U g mk q => by
  obtain ⟨q0, q1, qP, qK, qD⟩ := q
  exact ⟨q0, q1, qP, va_K.moved (u := U) (U := U.calling g mk a) (Vm.Alike.refl U.vm) qK, qD⟩
theorem RO_of {l : Launch} {y : MethodName} {b : ByteArray} {mL : Nat} {ret : Option FieldType} {rm : Room} {D : va_G} {ws : va_W} {tys : List (ClassId × FieldType)} {av : List Value} {Qc : Array Value → State → Outcome → State → Prop} {own : String} (hy : plainName y.cls = true) (ho : y.cls = own) (hn : (lg_sl av).length ≤ mL)
    (body : ∀ p e s m args below meth c, args = av.toArray → CallFix p m c b mL s args WW own → meth.sig.returnType = ret → meth.locks = false → va_P D vwCl ws s.heap → va_K D vwCl tys s → ∀ ls : Array Slot, lv_has ls mL (lv_args 0 av) →
      W p l e rm s m args below meth c s.heap [] 0 0 (MQ below Qc args s 0 0 (fun _ => False)) (F0 m 0 ls [])) : Met l y (Cond.code y b mL ret :: WW) rm (va_Pc av (roP D ws tys)) Qc 0 0 (fun _ => False) := by
  refine Met.ofW (cc := b) (maxL := mL) (ret := ret) hy rfl ?_
  intro p e s m args below meth c s₁ B hml hv
  obtain ⟨rfl, hP, hK⟩ := hv
  have hts := atoms_spec (ws := Cond.code y b mL ret :: WW) B.pre
  have hl := lv_entry av hn
  rw [lg_entry_eq]
  exact body p e s m _ below meth c rfl ⟨B.exec, B.bytes, hml, ho ▸ findClass_of_methodNamed B.named, fun w h => hts w (List.mem_cons_of_mem _ h)⟩ B.returns B.notSynchronized hP hK _ hl
/-- a static method of numbers alone -/
theorem RS_of {l : Launch} {y : MethodName} {b : ByteArray} {mL : Nat} {ret : Option FieldType} {rm : Room} {av : List Value} {Qc : Array Value → State → Outcome → State → Prop} {own : String} (hy : plainName y.cls = true) (ho : y.cls = own) (hn : (lg_sl av).length ≤ mL)
    (body : ∀ p e s m args below meth c, args = av.toArray → CallFix p m c b mL s args WW own → meth.sig.returnType = ret → meth.locks = false → ∀ ls : Array Slot, lv_has ls mL (lv_args 0 av) →
      W p l e rm s m args below meth c s.heap [] 0 0 (MQ below Qc args s 0 0 (fun _ => False)) (F0 m 0 ls [])) : Met l y (Cond.code y b mL ret :: WW) rm (va_Pc av (fun _ => True)) Qc 0 0 (fun _ => False) := by
  refine Met.ofW (cc := b) (maxL := mL) (ret := ret) hy rfl ?_
  intro p e s m args below meth c s₁ B hml hv
  obtain ⟨rfl, -⟩ := hv
  have hts := atoms_spec (ws := Cond.code y b mL ret :: WW) B.pre
  have hl := lv_entry av hn
  rw [lg_entry_eq]
  exact body p e s m _ below meth c rfl ⟨B.exec, B.bytes, hml, ho ▸ findClass_of_methodNamed B.named, fun w h => hts w (List.mem_cons_of_mem _ h)⟩ B.returns B.notSynchronized _ hl
theorem RW_of {l : Launch} {y : MethodName} {b : ByteArray} {mL : Nat} {ret : Option FieldType} {rm : Room} {D : va_G} {ws : va_W} {tys : List (ClassId × FieldType)} {sz : Nat} {av : List Value} {Qc : (Nat → Prop) → Array Value → State → Outcome → State → Prop} {own : String} (hy : plainName y.cls = true) (ho : y.cls = own) (hn : (lg_sl av).length ≤ mL)
    (body : ∀ p e s m args below meth c A, args = av.toArray → CallFix p m c b mL s args WW own → meth.sig.returnType = ret → meth.locks = false → va_P D vwCl ws s.heap → va_K D vwCl tys s → va_D A ws → (∀ q, s.heap.size ≤ q → A q) → ∀ ls : Array Slot, lv_has ls mL (lv_args 0 av) →
      W p l e rm s m args below meth c s.heap [] 0 0 (MQ below (Qc A) args s 0 0 A) (F0 m 0 ls [])) : Met l y (Cond.code y b mL ret :: WW) rm (va_Pc av (rwP D ws tys sz)) (Qc (va_A ws sz)) 0 0 (va_A ws sz) := by
  refine Met.ofW (cc := b) (maxL := mL) (ret := ret) hy rfl ?_
  intro p e s m args below meth c s₁ B hml hv
  obtain ⟨rfl, hsz, hP, hK, hD0⟩ := hv
  have hts := atoms_spec (ws := Cond.code y b mL ret :: WW) B.pre
  have hl := lv_entry av hn
  rw [lg_entry_eq]
  subst hsz
  exact body p e s m _ below meth c _ rfl ⟨B.exec, B.bytes, hml, ho ▸ findClass_of_methodNamed B.named, fun w h => hts w (List.mem_cons_of_mem _ h)⟩ B.returns B.notSynchronized hP hK hD0.self (fun q h => Or.inr h) _ hl
end KIT
end
section
section KROWS
variable {p : Program} {l : Launch} {e : Env} {R : Room} {s : State} {m : MethodId} {args : Array Value} {below : List Frame} {meth : Method} {c : Code} {H : Heap} {locs : List Loc} {cells slots : Nat} {Q : State → Prop}
variable {pc nL : Nat} {ls : Array Slot} {rest : List Value} {cc : ByteArray} {own : String} {D : va_G} {ws : va_W} {tys : List (ClassId × FieldType)} {A : Nat → Prop} {H0 : Heap} {ρ : Type} {z : ρ}

theorem k_icmp_eq (C : CallFix p m c cc nL s args WW own) {x y : Int32} {off : Int} {tgt : Nat} (hdg : decode cc pc = .ok (.if_icmp .eq off, 3)) (ht : (pc : Int) + off = (tgt : Int)) {inst : Decidable (x = y)} {a b : Option ρ} (h : @ite _ (x = y) inst a b = some z)
    (kt : x = y → a = some z → W p l e R s m args below meth c H locs cells slots Q (F0 m tgt ls rest)) (kf : ¬ (x = y) → b = some z → W p l e R s m args below meth c H locs cells slots Q (F0 m (pc + 3) ls rest)) : W p l e R s m args below meth c H locs cells slots Q (F0 m pc ls (.int y :: .int x :: rest)) :=
  lv_icmp_eq C.1 C.2.1 hdg ht (fun q => kt q (it_h h q)) (fun q => kf q (if_h h q))
theorem k_if_eq (C : CallFix p m c cc nL s args WW own) {x : Int32} {off : Int} {tgt : Nat} (hdg : decode cc pc = .ok (.ifCond .eq off, 3)) (ht : (pc : Int) + off = (tgt : Int)) {inst : Decidable (x = 0)} {a b : Option ρ} (h : @ite _ (x = 0) inst a b = some z)
    (kt : x = 0 → a = some z → W p l e R s m args below meth c H locs cells slots Q (F0 m tgt ls rest)) (kf : ¬ (x = 0) → b = some z → W p l e R s m args below meth c H locs cells slots Q (F0 m (pc + 3) ls rest)) : W p l e R s m args below meth c H locs cells slots Q (F0 m pc ls (.int x :: rest)) :=
  lv_if_eq C.1 C.2.1 hdg ht (fun q => kt q (it_h h q)) (fun q => kf q (if_h h q))
theorem k_icmp_ne (C : CallFix p m c cc nL s args WW own) {x y : Int32} {off : Int} {tgt : Nat} (hdg : decode cc pc = .ok (.if_icmp .ne off, 3)) (ht : (pc : Int) + off = (tgt : Int)) {inst : Decidable (x = y)} {a b : Option ρ} (h : @ite _ (x = y) inst a b = some z)
    (kt : ¬ (x = y) → b = some z → W p l e R s m args below meth c H locs cells slots Q (F0 m tgt ls rest)) (kf : x = y → a = some z → W p l e R s m args below meth c H locs cells slots Q (F0 m (pc + 3) ls rest)) : W p l e R s m args below meth c H locs cells slots Q (F0 m pc ls (.int y :: .int x :: rest)) :=
  lv_icmp_ne C.1 C.2.1 hdg ht (fun q => kt q (if_h h q)) (fun q => kf q (it_h h q))
theorem k_if_ne (C : CallFix p m c cc nL s args WW own) {x : Int32} {off : Int} {tgt : Nat} (hdg : decode cc pc = .ok (.ifCond .ne off, 3)) (ht : (pc : Int) + off = (tgt : Int)) {inst : Decidable (x = 0)} {a b : Option ρ} (h : @ite _ (x = 0) inst a b = some z)
    (kt : ¬ (x = 0) → b = some z → W p l e R s m args below meth c H locs cells slots Q (F0 m tgt ls rest)) (kf : x = 0 → a = some z → W p l e R s m args below meth c H locs cells slots Q (F0 m (pc + 3) ls rest)) : W p l e R s m args below meth c H locs cells slots Q (F0 m pc ls (.int x :: rest)) :=
  lv_if_ne C.1 C.2.1 hdg ht (fun q => kt q (if_h h q)) (fun q => kf q (it_h h q))
theorem k_icmp_lt (C : CallFix p m c cc nL s args WW own) {x y : Int32} {off : Int} {tgt : Nat} (hdg : decode cc pc = .ok (.if_icmp .lt off, 3)) (ht : (pc : Int) + off = (tgt : Int)) {inst : Decidable (x < y)} {a b : Option ρ} (h : @ite _ (x < y) inst a b = some z)
    (kt : x < y → a = some z → W p l e R s m args below meth c H locs cells slots Q (F0 m tgt ls rest)) (kf : ¬ (x < y) → b = some z → W p l e R s m args below meth c H locs cells slots Q (F0 m (pc + 3) ls rest)) : W p l e R s m args below meth c H locs cells slots Q (F0 m pc ls (.int y :: .int x :: rest)) :=
  lv_icmp_lt C.1 C.2.1 hdg ht (fun q => kt q (it_h h q)) (fun q => kf q (if_h h q))
theorem k_if_lt (C : CallFix p m c cc nL s args WW own) {x : Int32} {off : Int} {tgt : Nat} (hdg : decode cc pc = .ok (.ifCond .lt off, 3)) (ht : (pc : Int) + off = (tgt : Int)) {inst : Decidable (x < 0)} {a b : Option ρ} (h : @ite _ (x < 0) inst a b = some z)
    (kt : x < 0 → a = some z → W p l e R s m args below meth c H locs cells slots Q (F0 m tgt ls rest)) (kf : ¬ (x < 0) → b = some z → W p l e R s m args below meth c H locs cells slots Q (F0 m (pc + 3) ls rest)) : W p l e R s m args below meth c H locs cells slots Q (F0 m pc ls (.int x :: rest)) :=
  lv_if_lt C.1 C.2.1 hdg ht (fun q => kt q (it_h h q)) (fun q => kf q (if_h h q))
theorem k_icmp_ge (C : CallFix p m c cc nL s args WW own) {x y : Int32} {off : Int} {tgt : Nat} (hdg : decode cc pc = .ok (.if_icmp .ge off, 3)) (ht : (pc : Int) + off = (tgt : Int)) {inst : Decidable (y ≤ x)} {a b : Option ρ} (h : @ite _ (y ≤ x) inst a b = some z)
    (kt : y ≤ x → a = some z → W p l e R s m args below meth c H locs cells slots Q (F0 m tgt ls rest)) (kf : ¬ (y ≤ x) → b = some z → W p l e R s m args below meth c H locs cells slots Q (F0 m (pc + 3) ls rest)) : W p l e R s m args below meth c H locs cells slots Q (F0 m pc ls (.int y :: .int x :: rest)) :=
  lv_icmp_ge C.1 C.2.1 hdg ht (fun q => kt q (it_h h q)) (fun q => kf q (if_h h q))
theorem k_if_ge (C : CallFix p m c cc nL s args WW own) {x : Int32} {off : Int} {tgt : Nat} (hdg : decode cc pc = .ok (.ifCond .ge off, 3)) (ht : (pc : Int) + off = (tgt : Int)) {inst : Decidable (0 ≤ x)} {a b : Option ρ} (h : @ite _ (0 ≤ x) inst a b = some z)
    (kt : 0 ≤ x → a = some z → W p l e R s m args below meth c H locs cells slots Q (F0 m tgt ls rest)) (kf : ¬ (0 ≤ x) → b = some z → W p l e R s m args below meth c H locs cells slots Q (F0 m (pc + 3) ls rest)) : W p l e R s m args below meth c H locs cells slots Q (F0 m pc ls (.int x :: rest)) :=
  lv_if_ge C.1 C.2.1 hdg ht (fun q => kt q (it_h h q)) (fun q => kf q (if_h h q))
theorem k_icmp_gt (C : CallFix p m c cc nL s args WW own) {x y : Int32} {off : Int} {tgt : Nat} (hdg : decode cc pc = .ok (.if_icmp .gt off, 3)) (ht : (pc : Int) + off = (tgt : Int)) {inst : Decidable (y < x)} {a b : Option ρ} (h : @ite _ (y < x) inst a b = some z)
    (kt : y < x → a = some z → W p l e R s m args below meth c H locs cells slots Q (F0 m tgt ls rest)) (kf : ¬ (y < x) → b = some z → W p l e R s m args below meth c H locs cells slots Q (F0 m (pc + 3) ls rest)) : W p l e R s m args below meth c H locs cells slots Q (F0 m pc ls (.int y :: .int x :: rest)) :=
  lv_icmp_gt C.1 C.2.1 hdg ht (fun q => kt q (it_h h q)) (fun q => kf q (if_h h q))
theorem k_if_gt (C : CallFix p m c cc nL s args WW own) {x : Int32} {off : Int} {tgt : Nat} (hdg : decode cc pc = .ok (.ifCond .gt off, 3)) (ht : (pc : Int) + off = (tgt : Int)) {inst : Decidable (0 < x)} {a b : Option ρ} (h : @ite _ (0 < x) inst a b = some z)
    (kt : 0 < x → a = some z → W p l e R s m args below meth c H locs cells slots Q (F0 m tgt ls rest)) (kf : ¬ (0 < x) → b = some z → W p l e R s m args below meth c H locs cells slots Q (F0 m (pc + 3) ls rest)) : W p l e R s m args below meth c H locs cells slots Q (F0 m pc ls (.int x :: rest)) :=
  lv_if_gt C.1 C.2.1 hdg ht (fun q => kt q (it_h h q)) (fun q => kf q (if_h h q))
theorem k_icmp_le (C : CallFix p m c cc nL s args WW own) {x y : Int32} {off : Int} {tgt : Nat} (hdg : decode cc pc = .ok (.if_icmp .le off, 3)) (ht : (pc : Int) + off = (tgt : Int)) {inst : Decidable (x ≤ y)} {a b : Option ρ} (h : @ite _ (x ≤ y) inst a b = some z)
    (kt : x ≤ y → a = some z → W p l e R s m args below meth c H locs cells slots Q (F0 m tgt ls rest)) (kf : ¬ (x ≤ y) → b = some z → W p l e R s m args below meth c H locs cells slots Q (F0 m (pc + 3) ls rest)) : W p l e R s m args below meth c H locs cells slots Q (F0 m pc ls (.int y :: .int x :: rest)) :=
  lv_icmp_le C.1 C.2.1 hdg ht (fun q => kt q (it_h h q)) (fun q => kf q (if_h h q))
theorem k_if_le (C : CallFix p m c cc nL s args WW own) {x : Int32} {off : Int} {tgt : Nat} (hdg : decode cc pc = .ok (.ifCond .le off, 3)) (ht : (pc : Int) + off = (tgt : Int)) {inst : Decidable (x ≤ 0)} {a b : Option ρ} (h : @ite _ (x ≤ 0) inst a b = some z)
    (kt : x ≤ 0 → a = some z → W p l e R s m args below meth c H locs cells slots Q (F0 m tgt ls rest)) (kf : ¬ (x ≤ 0) → b = some z → W p l e R s m args below meth c H locs cells slots Q (F0 m (pc + 3) ls rest)) : W p l e R s m args below meth c H locs cells slots Q (F0 m pc ls (.int x :: rest)) :=
  lv_if_le C.1 C.2.1 hdg ht (fun q => kt q (it_h h q)) (fun q => kf q (if_h h q))
theorem k_ld (C : CallFix p m c cc nL s args WW own) (hK : va_K D vwCl tys s) (hP : va_P D vwCl ws H) (q0 t0 : Nat) {a : Nat} {cA : ClassId} {n : Nat} {f : Nat → Int32} (ha : ws[q0]? = some (a, .inl (cA, n, .inl f))) (ht : tys[t0]? = some (cA, .int)) {i : Int32} {K : Int32 → Option ρ} (h : (rdA f n i).bind K = some z) (hdg : decode cc pc = .ok (.iaload, 1))
    (kk : K (f i.toNatClampNeg) = some z → W p l e R s m args below meth c H locs cells slots Q (F0 m (pc + 1) ls (.int (f i.toNatClampNeg) :: rest))) : W p l e R s m args below meth c H locs cells slots Q (F0 m pc ls (.int i :: .ref a :: rest)) :=
  va_iald C.1 C.2.1 hK hP q0 t0 ha ht (rdA_h h).1 hdg (kk (rdA_h h).2)
theorem k_zld (C : CallFix p m c cc nL s args WW own) (hK : va_K D vwCl tys s) (hP : va_P D vwCl ws H) (q0 t0 : Nat) {a : Nat} {cA : ClassId} {n : Nat} {f : Nat → Int32} (ha : ws[q0]? = some (a, .inl (cA, n, .inl f))) (ht : tys[t0]? = some (cA, .boolean)) {i : Int32} {K : Int32 → Option ρ} (h : (rdA f n i).bind K = some z) (hdg : decode cc pc = .ok (.baload, 1))
    (kk : K (f i.toNatClampNeg) = some z → W p l e R s m args below meth c H locs cells slots Q (F0 m (pc + 1) ls (.int (f i.toNatClampNeg) :: rest))) : W p l e R s m args below meth c H locs cells slots Q (F0 m pc ls (.int i :: .ref a :: rest)) :=
  va_zald C.1 C.2.1 hK hP q0 t0 ha ht (rdA_h h).1 hdg (kk (rdA_h h).2)
theorem k_lld (C : CallFix p m c cc nL s args WW own) (hK : va_K D vwCl tys s) (hP : va_P D vwCl ws H) (q0 t0 : Nat) {a : Nat} {cA : ClassId} {n : Nat} {f : Nat → Int64} (ha : ws[q0]? = some (a, .inl (cA, n, .inr (.inl f)))) (ht : tys[t0]? = some (cA, .long)) {i : Int32} {K : Int64 → Option ρ} (h : (rdL f n i).bind K = some z) (hdg : decode cc pc = .ok (.laload, 1))
    (kk : K (f i.toNatClampNeg) = some z → W p l e R s m args below meth c H locs cells slots Q (F0 m (pc + 1) ls (.long (f i.toNatClampNeg) :: rest))) : W p l e R s m args below meth c H locs cells slots Q (F0 m pc ls (.int i :: .ref a :: rest)) :=
  va_lald C.1 C.2.1 hK hP q0 t0 ha ht (rdL_h h).1 hdg (kk (rdL_h h).2)
def wrS {σ ρ : Type} (n : Nat) (i : Int32) (S' : σ) (K : σ → Option ρ) : Option ρ := if i < 0 ∨ n ≤ i.toNatClampNeg then none else K S'
def stS {σ ρ : Type} (S' : σ) (K : σ → Option ρ) : Option ρ := K S'
def rb {α σ ρ : Type} (x : Option (α × σ)) (K : α → σ → Option ρ) : Option ρ := match x with
  | none => none
  | some (v, s) => K v s
theorem wrS_h {σ ρ : Type} {n : Nat} {i : Int32} {S' : σ} {K : σ → Option ρ} {z : ρ} (h : wrS n i S' K = some z) : vp_in i n ∧ K S' = some z := by
  unfold wrS at h
  by_cases c : i < 0 ∨ n ≤ i.toNatClampNeg
  · rw [if_pos c] at h; cases h
  · rw [if_neg c] at h; exact ⟨c, h⟩
theorem rb_h {α σ ρ : Type} {x : Option (α × σ)} {K : α → σ → Option ρ} {z : ρ} (h : rb x K = some z) : ∃ v s, x = some (v, s) ∧ K v s = some z := by
  match x, h with
  | some (v, s), h => exact ⟨v, s, rfl, h⟩
theorem k_st (C : CallFix p m c cc nL s args WW own) (hK : va_K D vwCl tys s) (hP : va_P D vwCl ws H) (hD : va_D A ws) (hS : va_S A H0 H locs) (q0 t0 : Nat) {a : Nat} {cA : ClassId} {n : Nat} {f : Nat → Int32} (ha : ws[q0]? = some (a, .inl (cA, n, .inl f))) (ht : tys[t0]? = some (cA, .int)) {i x : Int32} (w : (Nat → Nat → Int32) → va_W) (S' : Nat → Nat → Int32) (hw : ws.set q0 (a, .inl (cA, n, .inl (upd f i.toNatClampNeg x))) = w S') {K : (Nat → Nat → Int32) → Option ρ} (h : wrS n i S' K = some z) (hdg : decode cc pc = .ok (.iastore, 1))
    (kk : ∀ (S1 : Nat → Nat → Int32) (H1 : Heap) (locs1 : List Loc), K S1 = some z → va_P D vwCl (w S1) H1 → va_D A (w S1) → va_S A H0 H1 locs1 → W p l e R s m args below meth c H1 locs1 cells slots Q (F0 m (pc + 1) ls rest)) : W p l e R s m args below meth c H locs cells slots Q (F0 m pc ls (.int x :: .int i :: .ref a :: rest)) :=
  va_iast C.1 C.2.1 hK hP hD hS q0 t0 ha ht (wrS_h h).1 hdg (fun H1 l1 p d q => kk S' H1 l1 (wrS_h h).2 (hw ▸ p) (hw ▸ d) q)
theorem k_zst (C : CallFix p m c cc nL s args WW own) (hK : va_K D vwCl tys s) (hP : va_P D vwCl ws H) (hD : va_D A ws) (hS : va_S A H0 H locs) (q0 t0 : Nat) {a : Nat} {cA : ClassId} {n : Nat} {f : Nat → Int32} (ha : ws[q0]? = some (a, .inl (cA, n, .inl f))) (ht : tys[t0]? = some (cA, .boolean)) {i x : Int32} (w : (Nat → Nat → Int32) → va_W) (S' : Nat → Nat → Int32) (hw : ws.set q0 (a, .inl (cA, n, .inl (upd f i.toNatClampNeg (x &&& 1)))) = w S') {K : (Nat → Nat → Int32) → Option ρ} (h : wrS n i S' K = some z) (hdg : decode cc pc = .ok (.bastore, 1))
    (kk : ∀ (S1 : Nat → Nat → Int32) (H1 : Heap) (locs1 : List Loc), K S1 = some z → va_P D vwCl (w S1) H1 → va_D A (w S1) → va_S A H0 H1 locs1 → W p l e R s m args below meth c H1 locs1 cells slots Q (F0 m (pc + 1) ls rest)) : W p l e R s m args below meth c H locs cells slots Q (F0 m pc ls (.int x :: .int i :: .ref a :: rest)) :=
  va_zast C.1 C.2.1 hK hP hD hS q0 t0 ha ht (wrS_h h).1 hdg (fun H1 l1 p d q => kk S' H1 l1 (wrS_h h).2 (hw ▸ p) (hw ▸ d) q)
/-- ends: the heap as it came, a number -/
theorem k_iret (C : CallFix p m c cc nL s args WW own) (hr : meth.sig.returnType = some .int) (hlocks : meth.locks = false) {v z : Int32} (h : some v = some z) (hdg : decode cc pc = .ok (.ireturn, 1)) :
    W p l e R s m args below meth c s.heap [] 0 0 (MQ below (vp_Si (fun r => r = z)) args s 0 0 (fun _ => False)) (F0 m pc ls [.int v]) :=
  W.iret (v := v) C.1 C.2.1 hr (fun t ht _ => ⟨v, rfl, Option.some.inj h, ht⟩) (fun q hq => absurd hq List.not_mem_nil) hdg hlocks
theorem k_zret (C : CallFix p m c cc nL s args WW own) (hr : meth.sig.returnType = some .boolean) (hlocks : meth.locks = false) {v z : Int32} (h : gz v (some v) = some z) (hdg : decode cc pc = .ok (.ireturn, 1)) :
    W p l e R s m args below meth c s.heap [] 0 0 (MQ below (vp_Si (fun r => r = z)) args s 0 0 (fun _ => False)) (F0 m pc ls [.int v]) :=
  W.zret (v := v) C.1 C.2.1 hr (by show Value.int (v &&& 1) = _; rw [(gz_h h).1]) (fun t ht _ => ⟨v, rfl, Option.some.inj (gz_h h).2, ht⟩) (fun q hq => absurd hq List.not_mem_nil) hdg hlocks
theorem k_lret (C : CallFix p m c cc nL s args WW own) (hr : meth.sig.returnType = some .long) (hlocks : meth.locks = false) {v z : Int64} (h : some v = some z) (hdg : decode cc pc = .ok (.lreturn, 1)) :
    W p l e R s m args below meth c s.heap [] 0 0 (MQ below (vp_Sl (fun r => r = z)) args s 0 0 (fun _ => False)) (F0 m pc ls [.long v]) :=
  W.lret (v := v) C.1 C.2.1 hr (fun t ht _ => ⟨v, rfl, Option.some.inj h, ht⟩) (fun q hq => absurd hq List.not_mem_nil) hdg hlocks
theorem k_dret (C : CallFix p m c cc nL s args WW own) (hr : meth.sig.returnType = some .double) (hlocks : meth.locks = false) {v z : UInt64} (h : some v = some z) (hdg : decode cc pc = .ok (.dreturn, 1)) :
    W p l e R s m args below meth c s.heap [] 0 0 (MQ below (vp_Sd (fun r => r = z)) args s 0 0 (fun _ => False)) (F0 m pc ls [.double v]) :=
  W.dret (v := v) C.1 C.2.1 hr (fun t ht _ => ⟨v, rfl, Option.some.inj h, ht⟩) (fun q hq => absurd hq List.not_mem_nil) hdg hlocks
/-- ends: the world written -/
abbrev rwQi (D : va_G) (w' : va_W) (v : Int32) (A : Nat → Prop) : Array Value → State → Outcome → State → Prop := va_Qi (fun (r : Int32) (_ : Unit) => r = v) (fun _ t => va_P D vwCl w' t.heap) A
abbrev rwQl (D : va_G) (w' : va_W) (v : Int64) (A : Nat → Prop) : Array Value → State → Outcome → State → Prop := va_Ql (fun (r : Int64) (_ : Unit) => r = v) (fun _ t => va_P D vwCl w' t.heap) A
abbrev rwQd (D : va_G) (w' : va_W) (v : UInt64) (A : Nat → Prop) : Array Value → State → Outcome → State → Prop := va_Qd (fun (r : UInt64) (_ : Unit) => r = v) (fun _ t => va_P D vwCl w' t.heap) A
abbrev rwQv (D : va_G) (w' : va_W) (A : Nat → Prop) : Array Value → State → Outcome → State → Prop := va_Qv (fun (_ : Unit) => True) (fun _ t => va_P D vwCl w' t.heap) A
theorem k_iretW (C : CallFix p m c cc nL s args WW own) (hr : meth.sig.returnType = some .int) (hlocks : meth.locks = false) {σ : Type} {w : σ → va_W} {v : Int32} {S1 : σ} {z : Int32 × σ} (h : some (v, S1) = some z) (hP : va_P D vwCl (w S1) H) (hS : va_S A s.heap H locs) (hdg : decode cc pc = .ok (.ireturn, 1)) :
    W p l e R s m args below meth c H locs 0 0 (MQ below (rwQi D (w z.2) z.1 A) args s 0 0 A) (F0 m pc ls [.int v]) := by
  cases h
  exact W.iret (v := v) C.1 C.2.1 hr (fun t ht _ => ⟨⟨v, (), rfl, rfl, (show va_P D vwCl (w S1) t.heap by rw [ht]; exact hP)⟩, hS.F ht⟩) hS.2.2 hdg hlocks
theorem k_zretW (C : CallFix p m c cc nL s args WW own) (hr : meth.sig.returnType = some .boolean) (hlocks : meth.locks = false) {σ : Type} {w : σ → va_W} {v : Int32} {S1 : σ} {z : Int32 × σ} (h : gz v (some (v, S1)) = some z) (hP : va_P D vwCl (w S1) H) (hS : va_S A s.heap H locs) (hdg : decode cc pc = .ok (.ireturn, 1)) :
    W p l e R s m args below meth c H locs 0 0 (MQ below (rwQi D (w z.2) z.1 A) args s 0 0 A) (F0 m pc ls [.int v]) := by
  obtain ⟨g, h⟩ := gz_h h
  cases h
  exact W.zret (v := v) C.1 C.2.1 hr (by show Value.int (v &&& 1) = _; rw [g]) (fun t ht _ => ⟨⟨v, (), rfl, rfl, (show va_P D vwCl (w S1) t.heap by rw [ht]; exact hP)⟩, hS.F ht⟩) hS.2.2 hdg hlocks
theorem k_lretW (C : CallFix p m c cc nL s args WW own) (hr : meth.sig.returnType = some .long) (hlocks : meth.locks = false) {σ : Type} {w : σ → va_W} {v : Int64} {S1 : σ} {z : Int64 × σ} (h : some (v, S1) = some z) (hP : va_P D vwCl (w S1) H) (hS : va_S A s.heap H locs) (hdg : decode cc pc = .ok (.lreturn, 1)) :
    W p l e R s m args below meth c H locs 0 0 (MQ below (rwQl D (w z.2) z.1 A) args s 0 0 A) (F0 m pc ls [.long v]) := by
  cases h
  exact W.lret (v := v) C.1 C.2.1 hr (fun t ht _ => ⟨⟨v, (), rfl, rfl, (show va_P D vwCl (w S1) t.heap by rw [ht]; exact hP)⟩, hS.F ht⟩) hS.2.2 hdg hlocks
theorem k_dretW (C : CallFix p m c cc nL s args WW own) (hr : meth.sig.returnType = some .double) (hlocks : meth.locks = false) {σ : Type} {w : σ → va_W} {v : UInt64} {S1 : σ} {z : UInt64 × σ} (h : some (v, S1) = some z) (hP : va_P D vwCl (w S1) H) (hS : va_S A s.heap H locs) (hdg : decode cc pc = .ok (.dreturn, 1)) :
    W p l e R s m args below meth c H locs 0 0 (MQ below (rwQd D (w z.2) z.1 A) args s 0 0 A) (F0 m pc ls [.double v]) := by
  cases h
  exact W.dret (v := v) C.1 C.2.1 hr (fun t ht _ => ⟨⟨v, (), rfl, rfl, (show va_P D vwCl (w S1) t.heap by rw [ht]; exact hP)⟩, hS.F ht⟩) hS.2.2 hdg hlocks
theorem k_vretW (C : CallFix p m c cc nL s args WW own) (hr : meth.sig.returnType = none) (hlocks : meth.locks = false) {σ : Type} {w : σ → va_W} {v : Int32} {S1 : σ} {z : Int32 × σ} (h : some (v, S1) = some z) (hP : va_P D vwCl (w S1) H) (hS : va_S A s.heap H locs) (hdg : decode cc pc = .ok (.return_, 1)) :
    W p l e R s m args below meth c H locs 0 0 (MQ below (rwQv D (w z.2) A) args s 0 0 A) (F0 m pc ls []) := by
  cases h
  exact W.vret C.1 C.2.1 hr (fun t ht _ => ⟨⟨(), rfl, trivial, (show va_P D vwCl (w S1) t.heap by rw [ht]; exact hP)⟩, hS.F ht⟩) hS.2.2 hdg hlocks
theorem k_roVi (C : CallFix p m c cc nL s args WW own) (hK : va_K D vwCl tys s) (hP : va_P D vwCl ws H) {CL : String} {idx n mL a0 : Nat} {y : MethodName} {b : ByteArray} {ret : Option FieldType} {rm : Room} (As : List Value) (hrv : ∃ cellB : Cell, H[a0]? = some cellB ∧ cellB.vm.isStatics = false ∧ s.vm.findClass CL = some cellB.cls) {f : Option Int32} {K : Int32 → Option ρ} (h : f.bind K = some z) (hM : ∀ v, f = some v → Met l y (Cond.code y b mL ret :: WW) rm (va_Pc (.ref a0 :: As) (roP D ws tys)) (vp_Si (fun r => r = v)) 0 0 (fun _ => False))
    (cw : CallW R s args own CL idx y b mL ret (Cond.code y b mL ret :: WW) rm 0 0 n) (hn : As.length = n) (hls : ls.size = nL) (hst : (rest.map fun v => v.category).sum ≤ 8) (hf : cells + 0 ≤ R.cells ∧ slots + 0 ≤ R.slots) (hdg : decode cc pc = .ok (.invokevirtual idx, 3)) {st : List Value} (hstk : st = As.reverse ++ .ref a0 :: rest)
    (kk : ∀ v, f = some v → K v = some z → W p l e R s m args below meth c H locs cells slots Q (F0 m (pc + 3) ls (.int v :: rest))) : W p l e R s m args below meth c H locs cells slots Q (F0 m pc ls st) := by
  obtain ⟨v, e1, e2⟩ := ob_h h
  exact vp_callSi (W.runV (As := As) (rest := rest) C (hM v e1) cw ⟨roP_blind, hrv, fun U hU hW => ⟨rfl, by rw [hU]; exact hP, hK.moved hW.alike⟩⟩ rfl hn hls hstk (lv_room hst) hdg hf) (fun r hr => by subst hr; exact kk _ e1 e2)
theorem k_roSi (C : CallFix p m c cc nL s args WW own) (hK : va_K D vwCl tys s) (hP : va_P D vwCl ws H) {CL : String} {idx n mL a0 : Nat} {y : MethodName} {b : ByteArray} {ret : Option FieldType} {rm : Room} (As : List Value) {f : Option Int32} {K : Int32 → Option ρ} (h : f.bind K = some z) (hM : ∀ v, f = some v → Met l y (Cond.code y b mL ret :: WW) rm (va_Pc As (roP D ws tys)) (vp_Si (fun r => r = v)) 0 0 (fun _ => False))
    (cw : CallB R s args own idx y b mL ret (Cond.code y b mL ret :: WW) rm 0 0 n ∧ (Cond.static y).before args s = true) (hn : As.length = n) (hls : ls.size = nL) (hst : (rest.map fun v => v.category).sum ≤ 8) (hf : cells + 0 ≤ R.cells ∧ slots + 0 ≤ R.slots) (hdg : decode cc pc = .ok (.invokestatic idx, 3)) {st : List Value} (hstk : st = As.reverse ++ rest)
    (kk : ∀ v, f = some v → K v = some z → W p l e R s m args below meth c H locs cells slots Q (F0 m (pc + 3) ls (.int v :: rest))) : W p l e R s m args below meth c H locs cells slots Q (F0 m pc ls st) := by
  obtain ⟨v, e1, e2⟩ := ob_h h
  exact vp_callSi (W.runS (As := As) (rest := rest) C (hM v e1) cw ⟨roP_blind, fun U hU hW => ⟨rfl, by rw [hU]; exact hP, hK.moved hW.alike⟩⟩ rfl hn hls hstk (lv_room hst) hdg hf) (fun r hr => by subst hr; exact kk _ e1 e2)
theorem k_roVl (C : CallFix p m c cc nL s args WW own) (hK : va_K D vwCl tys s) (hP : va_P D vwCl ws H) {CL : String} {idx n mL a0 : Nat} {y : MethodName} {b : ByteArray} {ret : Option FieldType} {rm : Room} (As : List Value) (hrv : ∃ cellB : Cell, H[a0]? = some cellB ∧ cellB.vm.isStatics = false ∧ s.vm.findClass CL = some cellB.cls) {f : Option Int64} {K : Int64 → Option ρ} (h : f.bind K = some z) (hM : ∀ v, f = some v → Met l y (Cond.code y b mL ret :: WW) rm (va_Pc (.ref a0 :: As) (roP D ws tys)) (vp_Sl (fun r => r = v)) 0 0 (fun _ => False))
    (cw : CallW R s args own CL idx y b mL ret (Cond.code y b mL ret :: WW) rm 0 0 n) (hn : As.length = n) (hls : ls.size = nL) (hst : (rest.map fun v => v.category).sum ≤ 8) (hf : cells + 0 ≤ R.cells ∧ slots + 0 ≤ R.slots) (hdg : decode cc pc = .ok (.invokevirtual idx, 3)) {st : List Value} (hstk : st = As.reverse ++ .ref a0 :: rest)
    (kk : ∀ v, f = some v → K v = some z → W p l e R s m args below meth c H locs cells slots Q (F0 m (pc + 3) ls (.long v :: rest))) : W p l e R s m args below meth c H locs cells slots Q (F0 m pc ls st) := by
  obtain ⟨v, e1, e2⟩ := ob_h h
  exact vp_callSl (W.runV (As := As) (rest := rest) C (hM v e1) cw ⟨roP_blind, hrv, fun U hU hW => ⟨rfl, by rw [hU]; exact hP, hK.moved hW.alike⟩⟩ rfl hn hls hstk (lv_room hst) hdg hf) (fun r hr => by subst hr; exact kk _ e1 e2)
theorem k_roSl (C : CallFix p m c cc nL s args WW own) (hK : va_K D vwCl tys s) (hP : va_P D vwCl ws H) {CL : String} {idx n mL a0 : Nat} {y : MethodName} {b : ByteArray} {ret : Option FieldType} {rm : Room} (As : List Value) {f : Option Int64} {K : Int64 → Option ρ} (h : f.bind K = some z) (hM : ∀ v, f = some v → Met l y (Cond.code y b mL ret :: WW) rm (va_Pc As (roP D ws tys)) (vp_Sl (fun r => r = v)) 0 0 (fun _ => False))
    (cw : CallB R s args own idx y b mL ret (Cond.code y b mL ret :: WW) rm 0 0 n ∧ (Cond.static y).before args s = true) (hn : As.length = n) (hls : ls.size = nL) (hst : (rest.map fun v => v.category).sum ≤ 8) (hf : cells + 0 ≤ R.cells ∧ slots + 0 ≤ R.slots) (hdg : decode cc pc = .ok (.invokestatic idx, 3)) {st : List Value} (hstk : st = As.reverse ++ rest)
    (kk : ∀ v, f = some v → K v = some z → W p l e R s m args below meth c H locs cells slots Q (F0 m (pc + 3) ls (.long v :: rest))) : W p l e R s m args below meth c H locs cells slots Q (F0 m pc ls st) := by
  obtain ⟨v, e1, e2⟩ := ob_h h
  exact vp_callSl (W.runS (As := As) (rest := rest) C (hM v e1) cw ⟨roP_blind, fun U hU hW => ⟨rfl, by rw [hU]; exact hP, hK.moved hW.alike⟩⟩ rfl hn hls hstk (lv_room hst) hdg hf) (fun r hr => by subst hr; exact kk _ e1 e2)
theorem k_roVd (C : CallFix p m c cc nL s args WW own) (hK : va_K D vwCl tys s) (hP : va_P D vwCl ws H) {CL : String} {idx n mL a0 : Nat} {y : MethodName} {b : ByteArray} {ret : Option FieldType} {rm : Room} (As : List Value) (hrv : ∃ cellB : Cell, H[a0]? = some cellB ∧ cellB.vm.isStatics = false ∧ s.vm.findClass CL = some cellB.cls) {f : Option UInt64} {K : UInt64 → Option ρ} (h : f.bind K = some z) (hM : ∀ v, f = some v → Met l y (Cond.code y b mL ret :: WW) rm (va_Pc (.ref a0 :: As) (roP D ws tys)) (vp_Sd (fun r => r = v)) 0 0 (fun _ => False))
    (cw : CallW R s args own CL idx y b mL ret (Cond.code y b mL ret :: WW) rm 0 0 n) (hn : As.length = n) (hls : ls.size = nL) (hst : (rest.map fun v => v.category).sum ≤ 8) (hf : cells + 0 ≤ R.cells ∧ slots + 0 ≤ R.slots) (hdg : decode cc pc = .ok (.invokevirtual idx, 3)) {st : List Value} (hstk : st = As.reverse ++ .ref a0 :: rest)
    (kk : ∀ v, f = some v → K v = some z → W p l e R s m args below meth c H locs cells slots Q (F0 m (pc + 3) ls (.double v :: rest))) : W p l e R s m args below meth c H locs cells slots Q (F0 m pc ls st) := by
  obtain ⟨v, e1, e2⟩ := ob_h h
  exact vp_callSd (W.runV (As := As) (rest := rest) C (hM v e1) cw ⟨roP_blind, hrv, fun U hU hW => ⟨rfl, by rw [hU]; exact hP, hK.moved hW.alike⟩⟩ rfl hn hls hstk (lv_room hst) hdg hf) (fun r hr => by subst hr; exact kk _ e1 e2)
theorem k_roSd (C : CallFix p m c cc nL s args WW own) (hK : va_K D vwCl tys s) (hP : va_P D vwCl ws H) {CL : String} {idx n mL a0 : Nat} {y : MethodName} {b : ByteArray} {ret : Option FieldType} {rm : Room} (As : List Value) {f : Option UInt64} {K : UInt64 → Option ρ} (h : f.bind K = some z) (hM : ∀ v, f = some v → Met l y (Cond.code y b mL ret :: WW) rm (va_Pc As (roP D ws tys)) (vp_Sd (fun r => r = v)) 0 0 (fun _ => False))
    (cw : CallB R s args own idx y b mL ret (Cond.code y b mL ret :: WW) rm 0 0 n ∧ (Cond.static y).before args s = true) (hn : As.length = n) (hls : ls.size = nL) (hst : (rest.map fun v => v.category).sum ≤ 8) (hf : cells + 0 ≤ R.cells ∧ slots + 0 ≤ R.slots) (hdg : decode cc pc = .ok (.invokestatic idx, 3)) {st : List Value} (hstk : st = As.reverse ++ rest)
    (kk : ∀ v, f = some v → K v = some z → W p l e R s m args below meth c H locs cells slots Q (F0 m (pc + 3) ls (.double v :: rest))) : W p l e R s m args below meth c H locs cells slots Q (F0 m pc ls st) := by
  obtain ⟨v, e1, e2⟩ := ob_h h
  exact vp_callSd (W.runS (As := As) (rest := rest) C (hM v e1) cw ⟨roP_blind, fun U hU hW => ⟨rfl, by rw [hU]; exact hP, hK.moved hW.alike⟩⟩ rfl hn hls hstk (lv_room hst) hdg hf) (fun r hr => by subst hr; exact kk _ e1 e2)
theorem k_prS (C : CallFix p m c cc nL s args WW own) {CL : String} {idx n mL a0 : Nat} {y : MethodName} {b : ByteArray} {ret : Option FieldType} {rm : Room} (As : List Value) {f : Option Int32} {K : Int32 → Option ρ} (h : f.bind K = some z) (hM : ∀ v, f = some v → Met l y (Cond.code y b mL ret :: WW) rm (va_Pc As (fun _ => True)) (vp_Si (fun r => r = v)) 0 0 (fun _ => False))
    (cw : CallB R s args own idx y b mL ret (Cond.code y b mL ret :: WW) rm 0 0 n ∧ (Cond.static y).before args s = true) (hn : As.length = n) (hls : ls.size = nL) (hst : (rest.map fun v => v.category).sum ≤ 8) (hf : cells + 0 ≤ R.cells ∧ slots + 0 ≤ R.slots) (hdg : decode cc pc = .ok (.invokestatic idx, 3)) {st : List Value} (hstk : st = As.reverse ++ rest)
    (kk : ∀ v, f = some v → K v = some z → W p l e R s m args below meth c H locs cells slots Q (F0 m (pc + 3) ls (.int v :: rest))) : W p l e R s m args below meth c H locs cells slots Q (F0 m pc ls st) := by
  obtain ⟨v, e1, e2⟩ := ob_h h
  exact vp_callSi (W.runS (As := As) (rest := rest) C (hM v e1) cw ⟨(fun _ _ _ _ q => q), fun U hU hW => ⟨rfl, trivial⟩⟩ rfl hn hls hstk (lv_room hst) hdg hf) (fun r hr => by subst hr; exact kk _ e1 e2)
theorem k_rwVi (C : CallFix p m c cc nL s args WW own) {w : (Nat → Nat → Int32) → va_W} {S : Nat → Nat → Int32} (hw : ∀ S2, (w S2).map Prod.fst = (w S).map Prod.fst) (hK : va_K D vwCl tys s) (hP : va_P D vwCl (w S) H) (hD : va_D A (w S)) (hS : va_S A H0 H locs) (hA : ∀ q, H0.size ≤ q → A q) {CL : String} {idx n mL a0 : Nat} {y : MethodName} {b : ByteArray} {ret : Option FieldType} {rm : Room} (As : List Value) (hrv : ∃ cellB : Cell, H[a0]? = some cellB ∧ cellB.vm.isStatics = false ∧ s.vm.findClass CL = some cellB.cls) {f : Option (Int32 × (Nat → Nat → Int32))} {K : Int32 → (Nat → Nat → Int32) → Option ρ} (h : rb f K = some z)
    (hM : ∀ v S2, f = some (v, S2) → Met l y (Cond.code y b mL ret :: WW) rm (va_Pc (.ref a0 :: As) (rwP D (w S) tys H.size)) (rwQi D (w S2) v (va_A (w S) H.size)) 0 0 (va_A (w S) H.size))
    (cw : CallW R s args own CL idx y b mL ret (Cond.code y b mL ret :: WW) rm 0 0 n) (hn : As.length = n) (hls : ls.size = nL) (hst : (rest.map fun v => v.category).sum ≤ 8) (hf : cells + 0 ≤ R.cells ∧ slots + 0 ≤ R.slots) (hdg : decode cc pc = .ok (.invokevirtual idx, 3)) {st : List Value} (hstk : st = As.reverse ++ .ref a0 :: rest)
    (kk : ∀ v S2 H1 locs1, f = some (v, S2) → K v S2 = some z → va_P D vwCl (w S2) H1 → va_D A (w S2) → va_S A H0 H1 locs1 → W p l e R s m args below meth c H1 locs1 cells slots Q (F0 m (pc + 3) ls (.int v :: rest))) : W p l e R s m args below meth c H locs cells slots Q (F0 m pc ls st) := by
  obtain ⟨v, S2, e1, e2⟩ := rb_h h
  have hF := A_sub hD hS hA
  refine va_calli (va_runV (As := As) (rest := rest) C (hM v S2 e1) cw ⟨rwP_blind, hrv, fun U hU hW => ⟨rfl, by rw [hU], by rw [hU]; exact hP, hK.moved hW.alike, hD.weaken (fun _ _ _ _ => trivial)⟩⟩ rfl hn hls hstk (lv_room hst) hdg hf) hS (fun q _ h => hF q h) hF (fun r u t H1 locs1 ht _ hw1 hB _ _ hS1 => ?_)
  subst hw1
  exact kk _ S2 H1 locs1 e1 e2 (ht ▸ hB) (D_same hD (hw S2)) hS1
theorem k_rwVl (C : CallFix p m c cc nL s args WW own) {w : (Nat → Nat → Int32) → va_W} {S : Nat → Nat → Int32} (hw : ∀ S2, (w S2).map Prod.fst = (w S).map Prod.fst) (hK : va_K D vwCl tys s) (hP : va_P D vwCl (w S) H) (hD : va_D A (w S)) (hS : va_S A H0 H locs) (hA : ∀ q, H0.size ≤ q → A q) {CL : String} {idx n mL a0 : Nat} {y : MethodName} {b : ByteArray} {ret : Option FieldType} {rm : Room} (As : List Value) (hrv : ∃ cellB : Cell, H[a0]? = some cellB ∧ cellB.vm.isStatics = false ∧ s.vm.findClass CL = some cellB.cls) {f : Option (Int64 × (Nat → Nat → Int32))} {K : Int64 → (Nat → Nat → Int32) → Option ρ} (h : rb f K = some z)
    (hM : ∀ v S2, f = some (v, S2) → Met l y (Cond.code y b mL ret :: WW) rm (va_Pc (.ref a0 :: As) (rwP D (w S) tys H.size)) (rwQl D (w S2) v (va_A (w S) H.size)) 0 0 (va_A (w S) H.size))
    (cw : CallW R s args own CL idx y b mL ret (Cond.code y b mL ret :: WW) rm 0 0 n) (hn : As.length = n) (hls : ls.size = nL) (hst : (rest.map fun v => v.category).sum ≤ 8) (hf : cells + 0 ≤ R.cells ∧ slots + 0 ≤ R.slots) (hdg : decode cc pc = .ok (.invokevirtual idx, 3)) {st : List Value} (hstk : st = As.reverse ++ .ref a0 :: rest)
    (kk : ∀ v S2 H1 locs1, f = some (v, S2) → K v S2 = some z → va_P D vwCl (w S2) H1 → va_D A (w S2) → va_S A H0 H1 locs1 → W p l e R s m args below meth c H1 locs1 cells slots Q (F0 m (pc + 3) ls (.long v :: rest))) : W p l e R s m args below meth c H locs cells slots Q (F0 m pc ls st) := by
  obtain ⟨v, S2, e1, e2⟩ := rb_h h
  have hF := A_sub hD hS hA
  refine va_calll (va_runV (As := As) (rest := rest) C (hM v S2 e1) cw ⟨rwP_blind, hrv, fun U hU hW => ⟨rfl, by rw [hU], by rw [hU]; exact hP, hK.moved hW.alike, hD.weaken (fun _ _ _ _ => trivial)⟩⟩ rfl hn hls hstk (lv_room hst) hdg hf) hS (fun q _ h => hF q h) hF (fun r u t H1 locs1 ht _ hw1 hB _ _ hS1 => ?_)
  subst hw1
  exact kk _ S2 H1 locs1 e1 e2 (ht ▸ hB) (D_same hD (hw S2)) hS1
theorem k_rwVd (C : CallFix p m c cc nL s args WW own) {w : (Nat → Nat → Int32) → va_W} {S : Nat → Nat → Int32} (hw : ∀ S2, (w S2).map Prod.fst = (w S).map Prod.fst) (hK : va_K D vwCl tys s) (hP : va_P D vwCl (w S) H) (hD : va_D A (w S)) (hS : va_S A H0 H locs) (hA : ∀ q, H0.size ≤ q → A q) {CL : String} {idx n mL a0 : Nat} {y : MethodName} {b : ByteArray} {ret : Option FieldType} {rm : Room} (As : List Value) (hrv : ∃ cellB : Cell, H[a0]? = some cellB ∧ cellB.vm.isStatics = false ∧ s.vm.findClass CL = some cellB.cls) {f : Option (UInt64 × (Nat → Nat → Int32))} {K : UInt64 → (Nat → Nat → Int32) → Option ρ} (h : rb f K = some z)
    (hM : ∀ v S2, f = some (v, S2) → Met l y (Cond.code y b mL ret :: WW) rm (va_Pc (.ref a0 :: As) (rwP D (w S) tys H.size)) (rwQd D (w S2) v (va_A (w S) H.size)) 0 0 (va_A (w S) H.size))
    (cw : CallW R s args own CL idx y b mL ret (Cond.code y b mL ret :: WW) rm 0 0 n) (hn : As.length = n) (hls : ls.size = nL) (hst : (rest.map fun v => v.category).sum ≤ 8) (hf : cells + 0 ≤ R.cells ∧ slots + 0 ≤ R.slots) (hdg : decode cc pc = .ok (.invokevirtual idx, 3)) {st : List Value} (hstk : st = As.reverse ++ .ref a0 :: rest)
    (kk : ∀ v S2 H1 locs1, f = some (v, S2) → K v S2 = some z → va_P D vwCl (w S2) H1 → va_D A (w S2) → va_S A H0 H1 locs1 → W p l e R s m args below meth c H1 locs1 cells slots Q (F0 m (pc + 3) ls (.double v :: rest))) : W p l e R s m args below meth c H locs cells slots Q (F0 m pc ls st) := by
  obtain ⟨v, S2, e1, e2⟩ := rb_h h
  have hF := A_sub hD hS hA
  refine va_calld (va_runV (As := As) (rest := rest) C (hM v S2 e1) cw ⟨rwP_blind, hrv, fun U hU hW => ⟨rfl, by rw [hU], by rw [hU]; exact hP, hK.moved hW.alike, hD.weaken (fun _ _ _ _ => trivial)⟩⟩ rfl hn hls hstk (lv_room hst) hdg hf) hS (fun q _ h => hF q h) hF (fun r u t H1 locs1 ht _ hw1 hB _ _ hS1 => ?_)
  subst hw1
  exact kk _ S2 H1 locs1 e1 e2 (ht ▸ hB) (D_same hD (hw S2)) hS1
theorem k_rwVv (C : CallFix p m c cc nL s args WW own) {w : (Nat → Nat → Int32) → va_W} {S : Nat → Nat → Int32} (hw : ∀ S2, (w S2).map Prod.fst = (w S).map Prod.fst) (hK : va_K D vwCl tys s) (hP : va_P D vwCl (w S) H) (hD : va_D A (w S)) (hS : va_S A H0 H locs) (hA : ∀ q, H0.size ≤ q → A q) {CL : String} {idx n mL a0 : Nat} {y : MethodName} {b : ByteArray} {ret : Option FieldType} {rm : Room} (As : List Value) (hrv : ∃ cellB : Cell, H[a0]? = some cellB ∧ cellB.vm.isStatics = false ∧ s.vm.findClass CL = some cellB.cls) {f : Option (Int32 × (Nat → Nat → Int32))} {K : Int32 → (Nat → Nat → Int32) → Option ρ} (h : rb f K = some z)
    (hM : ∀ v S2, f = some (v, S2) → Met l y (Cond.code y b mL ret :: WW) rm (va_Pc (.ref a0 :: As) (rwP D (w S) tys H.size)) (rwQv D (w S2) (va_A (w S) H.size)) 0 0 (va_A (w S) H.size))
    (cw : CallW R s args own CL idx y b mL ret (Cond.code y b mL ret :: WW) rm 0 0 n) (hn : As.length = n) (hls : ls.size = nL) (hst : (rest.map fun v => v.category).sum ≤ 8) (hf : cells + 0 ≤ R.cells ∧ slots + 0 ≤ R.slots) (hdg : decode cc pc = .ok (.invokevirtual idx, 3)) {st : List Value} (hstk : st = As.reverse ++ .ref a0 :: rest)
    (kk : ∀ v S2 H1 locs1, f = some (v, S2) → K v S2 = some z → va_P D vwCl (w S2) H1 → va_D A (w S2) → va_S A H0 H1 locs1 → W p l e R s m args below meth c H1 locs1 cells slots Q (F0 m (pc + 3) ls rest)) : W p l e R s m args below meth c H locs cells slots Q (F0 m pc ls st) := by
  obtain ⟨v, S2, e1, e2⟩ := rb_h h
  have hF := A_sub hD hS hA
  refine va_callv (va_runV (As := As) (rest := rest) C (hM v S2 e1) cw ⟨rwP_blind, hrv, fun U hU hW => ⟨rfl, by rw [hU], by rw [hU]; exact hP, hK.moved hW.alike, hD.weaken (fun _ _ _ _ => trivial)⟩⟩ rfl hn hls hstk (lv_room hst) hdg hf) hS (fun q _ h => hF q h) hF (fun u t H1 locs1 ht _ hw1 hB _ _ hS1 => ?_)
  exact kk _ S2 H1 locs1 e1 e2 (ht ▸ hB) (D_same hD (hw S2)) hS1
end KROWS
end
section
section WORLD
variable {p : Program} {l : Launch} {e : Env} {R : Room} {s : State} {m : MethodId} {args : Array Value} {below : List Frame} {meth : Method} {c : Code} {H : Heap} {locs : List Loc} {cells slots : Nat} {Q : State → Prop}
variable {pc nL : Nat} {ls : Array Slot} {rest : List Value} {cc : ByteArray} {D : va_G} {A : Nat → Prop} {H0 : Heap} {ρ : Type} {z : ρ}
variable {cI cZ : ClassId} {a : Nat → Nat} {S : Nat → Nat → Int32}
abbrev XS : Type := Nat → Nat → Int32
abbrev tyIZ (cI cZ : ClassId) : List (ClassId × FieldType) := [(cI, .int), (cZ, .boolean)]

def wX (cI cZ : ClassId) (a : Nat → Nat) (S : XS) : va_W := [(a 0, .inr (0, [.ref (a 1), .int (S 14 0), .ref (a 2), .ref (a 3), .ref (a 4), .ref (a 5), .ref (a 6), .ref (a 7), .int (S 15 0), .ref (a 8), .ref (a 9), .ref (a 10), .ref (a 11), .ref (a 12), .ref (a 13)])), (a 1, .inl (cZ, 5, .inl (S 1))), (a 2, .inl (cI, 12, .inl (S 2))), (a 3, .inl (cI, 36, .inl (S 3))), (a 4, .inl (cI, 180, .inl (S 4))), (a 5, .inl (cI, 180, .inl (S 5))), (a 6, .inl (cI, 180, .inl (S 6))), (a 7, .inl (cZ, 180, .inl (S 7))), (a 8, .inl (cI, 12, .inl (S 8))), (a 9, .inl (cI, 12, .inl (S 9))), (a 10, .inl (cI, 12, .inl (S 10))), (a 11, .inl (cI, 12, .inl (S 11))), (a 12, .inl (cI, 12, .inl (S 12))), (a 13, .inl (cI, 12, .inl (S 13)))]
theorem wX_ad (S S2 : XS) : (wX cI cZ a S2).map Prod.fst = (wX cI cZ a S).map Prod.fst := rfl
theorem wX_rv (hK : va_K D vwCl (tyIZ cI cZ) s) (hP : va_P D vwCl (wX cI cZ a S) H) : ∃ cell : Cell, H[a 0]? = some cell ∧ cell.vm.isStatics = false ∧ s.vm.findClass RX0 = some cell.cls := va_recv (q := (RX0, TX0, 15)) hK hP (ci := 0) (q0 := 0) rfl rfl
theorem wX_row {r : Nat} (hr : 8 ≤ r ∧ r ≤ 13) : (wX cI cZ a S)[r]? = some (a r, .inl (cI, 12, .inl (S r))) := by
  obtain ⟨h1, h2⟩ := hr
  rcases (show r = 8 ∨ r = 9 ∨ r = 10 ∨ r = 11 ∨ r = 12 ∨ r = 13 by omega) with rfl | rfl | rfl | rfl | rfl | rfl <;> rfl
theorem wX_srow {r : Nat} (hr : 8 ≤ r ∧ r ≤ 13) (f : Nat → Int32) : (wX cI cZ a S).set r (a r, .inl (cI, 12, .inl f)) = wX cI cZ a (sU S r f) := by
  obtain ⟨h1, h2⟩ := hr
  rcases (show r = 8 ∨ r = 9 ∨ r = 10 ∨ r = 11 ∨ r = 12 ∨ r = 13 by omega) with rfl | rfl | rfl | rfl | rfl | rfl <;> rfl
theorem gX0_taken (C : CallFix p m c cc nL s args WW RX0) (hK : va_K D vwCl (tyIZ cI cZ) s) (hP : va_P D vwCl (wX cI cZ a S) H) (hdg : decode cc pc = .ok (.getfield 9, 3)) (kk : W p l e R s m args below meth c H locs cells slots Q (F0 m (pc + 3) ls (.ref (a 1) :: rest))) : W p l e R s m args below meth c H locs cells slots Q (F0 m pc ls (.ref (a 0) :: rest)) := va_get (ci := 0) (C := RX0) (T := TX0) (N := 15) C.1 C.2.1 C.2.2.2.2 inWX0 C.2.2.2.1 hK hP 0 rfl rfl 0 (by decide) (C.2.2.2.2 _ qF_X0_9) (fun _ h => h) rfl hdg kk
theorem lX0_taken (C : CallFix p m c cc nL s args WW RX0) (hK : va_K D vwCl (tyIZ cI cZ) s) (hP : va_P D vwCl (wX cI cZ a S) H) {i : Int32} {K : Int32 → Option ρ} (h : (rdA (S 1) 5 i).bind K = some z) (hdg : decode cc pc = .ok (.baload, 1)) (kk : K (S 1 i.toNatClampNeg) = some z → W p l e R s m args below meth c H locs cells slots Q (F0 m (pc + 1) ls (.int (S 1 i.toNatClampNeg) :: rest))) : W p l e R s m args below meth c H locs cells slots Q (F0 m pc ls (.int i :: .ref (a 1) :: rest)) := k_zld C hK hP 1 1 rfl rfl h hdg kk
theorem sX0_taken (C : CallFix p m c cc nL s args WW RX0) (hK : va_K D vwCl (tyIZ cI cZ) s) (hP : va_P D vwCl (wX cI cZ a S) H) (hD : va_D A (wX cI cZ a S)) (hS : va_S A H0 H locs) {i x : Int32} {K : XS → Option ρ} (h : wrS 5 i (sU S 1 (upd (S 1) i.toNatClampNeg (x &&& 1))) K = some z) (hdg : decode cc pc = .ok (.bastore, 1)) (kk : ∀ (S1 : XS) (H1 : Heap) (locs1 : List Loc), K S1 = some z → va_P D vwCl (wX cI cZ a S1) H1 → va_D A (wX cI cZ a S1) → va_S A H0 H1 locs1 → W p l e R s m args below meth c H1 locs1 cells slots Q (F0 m (pc + 1) ls rest)) : W p l e R s m args below meth c H locs cells slots Q (F0 m pc ls (.int x :: .int i :: .ref (a 1) :: rest)) := k_zst C hK hP hD hS 1 1 rfl rfl (wX cI cZ a) _ rfl h hdg kk
theorem gX0_lemmas (C : CallFix p m c cc nL s args WW RX0) (hK : va_K D vwCl (tyIZ cI cZ) s) (hP : va_P D vwCl (wX cI cZ a S) H) (hdg : decode cc pc = .ok (.getfield 57, 3)) (kk : W p l e R s m args below meth c H locs cells slots Q (F0 m (pc + 3) ls (.int (S 14 0) :: rest))) : W p l e R s m args below meth c H locs cells slots Q (F0 m pc ls (.ref (a 0) :: rest)) := va_get (ci := 0) (C := RX0) (T := TX0) (N := 15) C.1 C.2.1 C.2.2.2.2 inWX0 C.2.2.2.1 hK hP 0 rfl rfl 1 (by decide) (C.2.2.2.2 _ qF_X0_57) (fun _ h => h) rfl hdg kk
theorem pX0_lemmas (C : CallFix p m c cc nL s args WW RX0) (hK : va_K D vwCl (tyIZ cI cZ) s) (hP : va_P D vwCl (wX cI cZ a S) H) (hD : va_D A (wX cI cZ a S)) (hS : va_S A H0 H locs) {v : Int32} {K : XS → Option ρ} (h : stS (sU S 14 (fun _ => v)) K = some z) (hdg : decode cc pc = .ok (.putfield 57, 3)) (kk : ∀ (S1 : XS) (H1 : Heap) (locs1 : List Loc), K S1 = some z → va_P D vwCl (wX cI cZ a S1) H1 → va_D A (wX cI cZ a S1) → va_S A H0 H1 locs1 → W p l e R s m args below meth c H1 locs1 cells slots Q (F0 m (pc + 3) ls rest)) : W p l e R s m args below meth c H locs cells slots Q (F0 m pc ls (.int v :: .ref (a 0) :: rest)) := va_put (ci := 0) (v := .int v) (ty := .int) (C := RX0) (T := TX0) (N := 15) C.1 C.2.1 C.2.2.2.2 inWX0 tyX0 tyX0_ok nmX0 C.2.2.2.1 hK hP hD hS 0 rfl rfl 1 (by decide) (C.2.2.2.2 _ qF_X0_57) (fun _ h => h) rfl (by decide +kernel) rfl rfl (Nat.le_of_ble_eq_true rfl) hdg (fun H1 l1 p d q => kk _ H1 l1 h p d q)
theorem gX0_proofs (C : CallFix p m c cc nL s args WW RX0) (hK : va_K D vwCl (tyIZ cI cZ) s) (hP : va_P D vwCl (wX cI cZ a S) H) (hdg : decode cc pc = .ok (.getfield 13, 3)) (kk : W p l e R s m args below meth c H locs cells slots Q (F0 m (pc + 3) ls (.ref (a 2) :: rest))) : W p l e R s m args below meth c H locs cells slots Q (F0 m pc ls (.ref (a 0) :: rest)) := va_get (ci := 0) (C := RX0) (T := TX0) (N := 15) C.1 C.2.1 C.2.2.2.2 inWX0 C.2.2.2.1 hK hP 0 rfl rfl 2 (by decide) (C.2.2.2.2 _ qF_X0_13) (fun _ h => h) rfl hdg kk
theorem lX0_proofs (C : CallFix p m c cc nL s args WW RX0) (hK : va_K D vwCl (tyIZ cI cZ) s) (hP : va_P D vwCl (wX cI cZ a S) H) {i : Int32} {K : Int32 → Option ρ} (h : (rdA (S 2) 12 i).bind K = some z) (hdg : decode cc pc = .ok (.iaload, 1)) (kk : K (S 2 i.toNatClampNeg) = some z → W p l e R s m args below meth c H locs cells slots Q (F0 m (pc + 1) ls (.int (S 2 i.toNatClampNeg) :: rest))) : W p l e R s m args below meth c H locs cells slots Q (F0 m pc ls (.int i :: .ref (a 2) :: rest)) := k_ld C hK hP 2 0 rfl rfl h hdg kk
theorem sX0_proofs (C : CallFix p m c cc nL s args WW RX0) (hK : va_K D vwCl (tyIZ cI cZ) s) (hP : va_P D vwCl (wX cI cZ a S) H) (hD : va_D A (wX cI cZ a S)) (hS : va_S A H0 H locs) {i x : Int32} {K : XS → Option ρ} (h : wrS 12 i (sU S 2 (upd (S 2) i.toNatClampNeg x)) K = some z) (hdg : decode cc pc = .ok (.iastore, 1)) (kk : ∀ (S1 : XS) (H1 : Heap) (locs1 : List Loc), K S1 = some z → va_P D vwCl (wX cI cZ a S1) H1 → va_D A (wX cI cZ a S1) → va_S A H0 H1 locs1 → W p l e R s m args below meth c H1 locs1 cells slots Q (F0 m (pc + 1) ls rest)) : W p l e R s m args below meth c H locs cells slots Q (F0 m pc ls (.int x :: .int i :: .ref (a 2) :: rest)) := k_st C hK hP hD hS 2 0 rfl rfl (wX cI cZ a) _ rfl h hdg kk
theorem gX0_steps (C : CallFix p m c cc nL s args WW RX0) (hK : va_K D vwCl (tyIZ cI cZ) s) (hP : va_P D vwCl (wX cI cZ a S) H) (hdg : decode cc pc = .ok (.getfield 17, 3)) (kk : W p l e R s m args below meth c H locs cells slots Q (F0 m (pc + 3) ls (.ref (a 3) :: rest))) : W p l e R s m args below meth c H locs cells slots Q (F0 m pc ls (.ref (a 0) :: rest)) := va_get (ci := 0) (C := RX0) (T := TX0) (N := 15) C.1 C.2.1 C.2.2.2.2 inWX0 C.2.2.2.1 hK hP 0 rfl rfl 3 (by decide) (C.2.2.2.2 _ qF_X0_17) (fun _ h => h) rfl hdg kk
theorem lX0_steps (C : CallFix p m c cc nL s args WW RX0) (hK : va_K D vwCl (tyIZ cI cZ) s) (hP : va_P D vwCl (wX cI cZ a S) H) {i : Int32} {K : Int32 → Option ρ} (h : (rdA (S 3) 36 i).bind K = some z) (hdg : decode cc pc = .ok (.iaload, 1)) (kk : K (S 3 i.toNatClampNeg) = some z → W p l e R s m args below meth c H locs cells slots Q (F0 m (pc + 1) ls (.int (S 3 i.toNatClampNeg) :: rest))) : W p l e R s m args below meth c H locs cells slots Q (F0 m pc ls (.int i :: .ref (a 3) :: rest)) := k_ld C hK hP 3 0 rfl rfl h hdg kk
theorem sX0_steps (C : CallFix p m c cc nL s args WW RX0) (hK : va_K D vwCl (tyIZ cI cZ) s) (hP : va_P D vwCl (wX cI cZ a S) H) (hD : va_D A (wX cI cZ a S)) (hS : va_S A H0 H locs) {i x : Int32} {K : XS → Option ρ} (h : wrS 36 i (sU S 3 (upd (S 3) i.toNatClampNeg x)) K = some z) (hdg : decode cc pc = .ok (.iastore, 1)) (kk : ∀ (S1 : XS) (H1 : Heap) (locs1 : List Loc), K S1 = some z → va_P D vwCl (wX cI cZ a S1) H1 → va_D A (wX cI cZ a S1) → va_S A H0 H1 locs1 → W p l e R s m args below meth c H1 locs1 cells slots Q (F0 m (pc + 1) ls rest)) : W p l e R s m args below meth c H locs cells slots Q (F0 m pc ls (.int x :: .int i :: .ref (a 3) :: rest)) := k_st C hK hP hD hS 3 0 rfl rfl (wX cI cZ a) _ rfl h hdg kk
theorem gX0_kinds (C : CallFix p m c cc nL s args WW RX0) (hK : va_K D vwCl (tyIZ cI cZ) s) (hP : va_P D vwCl (wX cI cZ a S) H) (hdg : decode cc pc = .ok (.getfield 20, 3)) (kk : W p l e R s m args below meth c H locs cells slots Q (F0 m (pc + 3) ls (.ref (a 4) :: rest))) : W p l e R s m args below meth c H locs cells slots Q (F0 m pc ls (.ref (a 0) :: rest)) := va_get (ci := 0) (C := RX0) (T := TX0) (N := 15) C.1 C.2.1 C.2.2.2.2 inWX0 C.2.2.2.1 hK hP 0 rfl rfl 4 (by decide) (C.2.2.2.2 _ qF_X0_20) (fun _ h => h) rfl hdg kk
theorem lX0_kinds (C : CallFix p m c cc nL s args WW RX0) (hK : va_K D vwCl (tyIZ cI cZ) s) (hP : va_P D vwCl (wX cI cZ a S) H) {i : Int32} {K : Int32 → Option ρ} (h : (rdA (S 4) 180 i).bind K = some z) (hdg : decode cc pc = .ok (.iaload, 1)) (kk : K (S 4 i.toNatClampNeg) = some z → W p l e R s m args below meth c H locs cells slots Q (F0 m (pc + 1) ls (.int (S 4 i.toNatClampNeg) :: rest))) : W p l e R s m args below meth c H locs cells slots Q (F0 m pc ls (.int i :: .ref (a 4) :: rest)) := k_ld C hK hP 4 0 rfl rfl h hdg kk
theorem sX0_kinds (C : CallFix p m c cc nL s args WW RX0) (hK : va_K D vwCl (tyIZ cI cZ) s) (hP : va_P D vwCl (wX cI cZ a S) H) (hD : va_D A (wX cI cZ a S)) (hS : va_S A H0 H locs) {i x : Int32} {K : XS → Option ρ} (h : wrS 180 i (sU S 4 (upd (S 4) i.toNatClampNeg x)) K = some z) (hdg : decode cc pc = .ok (.iastore, 1)) (kk : ∀ (S1 : XS) (H1 : Heap) (locs1 : List Loc), K S1 = some z → va_P D vwCl (wX cI cZ a S1) H1 → va_D A (wX cI cZ a S1) → va_S A H0 H1 locs1 → W p l e R s m args below meth c H1 locs1 cells slots Q (F0 m (pc + 1) ls rest)) : W p l e R s m args below meth c H locs cells slots Q (F0 m pc ls (.int x :: .int i :: .ref (a 4) :: rest)) := k_st C hK hP hD hS 4 0 rfl rfl (wX cI cZ a) _ rfl h hdg kk
theorem gX0_cited (C : CallFix p m c cc nL s args WW RX0) (hK : va_K D vwCl (tyIZ cI cZ) s) (hP : va_P D vwCl (wX cI cZ a S) H) (hdg : decode cc pc = .ok (.getfield 23, 3)) (kk : W p l e R s m args below meth c H locs cells slots Q (F0 m (pc + 3) ls (.ref (a 5) :: rest))) : W p l e R s m args below meth c H locs cells slots Q (F0 m pc ls (.ref (a 0) :: rest)) := va_get (ci := 0) (C := RX0) (T := TX0) (N := 15) C.1 C.2.1 C.2.2.2.2 inWX0 C.2.2.2.1 hK hP 0 rfl rfl 5 (by decide) (C.2.2.2.2 _ qF_X0_23) (fun _ h => h) rfl hdg kk
theorem lX0_cited (C : CallFix p m c cc nL s args WW RX0) (hK : va_K D vwCl (tyIZ cI cZ) s) (hP : va_P D vwCl (wX cI cZ a S) H) {i : Int32} {K : Int32 → Option ρ} (h : (rdA (S 5) 180 i).bind K = some z) (hdg : decode cc pc = .ok (.iaload, 1)) (kk : K (S 5 i.toNatClampNeg) = some z → W p l e R s m args below meth c H locs cells slots Q (F0 m (pc + 1) ls (.int (S 5 i.toNatClampNeg) :: rest))) : W p l e R s m args below meth c H locs cells slots Q (F0 m pc ls (.int i :: .ref (a 5) :: rest)) := k_ld C hK hP 5 0 rfl rfl h hdg kk
theorem sX0_cited (C : CallFix p m c cc nL s args WW RX0) (hK : va_K D vwCl (tyIZ cI cZ) s) (hP : va_P D vwCl (wX cI cZ a S) H) (hD : va_D A (wX cI cZ a S)) (hS : va_S A H0 H locs) {i x : Int32} {K : XS → Option ρ} (h : wrS 180 i (sU S 5 (upd (S 5) i.toNatClampNeg x)) K = some z) (hdg : decode cc pc = .ok (.iastore, 1)) (kk : ∀ (S1 : XS) (H1 : Heap) (locs1 : List Loc), K S1 = some z → va_P D vwCl (wX cI cZ a S1) H1 → va_D A (wX cI cZ a S1) → va_S A H0 H1 locs1 → W p l e R s m args below meth c H1 locs1 cells slots Q (F0 m (pc + 1) ls rest)) : W p l e R s m args below meth c H locs cells slots Q (F0 m pc ls (.int x :: .int i :: .ref (a 5) :: rest)) := k_st C hK hP hD hS 5 0 rfl rfl (wX cI cZ a) _ rfl h hdg kk
theorem gX0_open (C : CallFix p m c cc nL s args WW RX0) (hK : va_K D vwCl (tyIZ cI cZ) s) (hP : va_P D vwCl (wX cI cZ a S) H) (hdg : decode cc pc = .ok (.getfield 26, 3)) (kk : W p l e R s m args below meth c H locs cells slots Q (F0 m (pc + 3) ls (.ref (a 6) :: rest))) : W p l e R s m args below meth c H locs cells slots Q (F0 m pc ls (.ref (a 0) :: rest)) := va_get (ci := 0) (C := RX0) (T := TX0) (N := 15) C.1 C.2.1 C.2.2.2.2 inWX0 C.2.2.2.1 hK hP 0 rfl rfl 6 (by decide) (C.2.2.2.2 _ qF_X0_26) (fun _ h => h) rfl hdg kk
theorem lX0_open (C : CallFix p m c cc nL s args WW RX0) (hK : va_K D vwCl (tyIZ cI cZ) s) (hP : va_P D vwCl (wX cI cZ a S) H) {i : Int32} {K : Int32 → Option ρ} (h : (rdA (S 6) 180 i).bind K = some z) (hdg : decode cc pc = .ok (.iaload, 1)) (kk : K (S 6 i.toNatClampNeg) = some z → W p l e R s m args below meth c H locs cells slots Q (F0 m (pc + 1) ls (.int (S 6 i.toNatClampNeg) :: rest))) : W p l e R s m args below meth c H locs cells slots Q (F0 m pc ls (.int i :: .ref (a 6) :: rest)) := k_ld C hK hP 6 0 rfl rfl h hdg kk
theorem sX0_open (C : CallFix p m c cc nL s args WW RX0) (hK : va_K D vwCl (tyIZ cI cZ) s) (hP : va_P D vwCl (wX cI cZ a S) H) (hD : va_D A (wX cI cZ a S)) (hS : va_S A H0 H locs) {i x : Int32} {K : XS → Option ρ} (h : wrS 180 i (sU S 6 (upd (S 6) i.toNatClampNeg x)) K = some z) (hdg : decode cc pc = .ok (.iastore, 1)) (kk : ∀ (S1 : XS) (H1 : Heap) (locs1 : List Loc), K S1 = some z → va_P D vwCl (wX cI cZ a S1) H1 → va_D A (wX cI cZ a S1) → va_S A H0 H1 locs1 → W p l e R s m args below meth c H1 locs1 cells slots Q (F0 m (pc + 1) ls rest)) : W p l e R s m args below meth c H locs cells slots Q (F0 m pc ls (.int x :: .int i :: .ref (a 6) :: rest)) := k_st C hK hP hD hS 6 0 rfl rfl (wX cI cZ a) _ rfl h hdg kk
theorem gX0_withdrawn (C : CallFix p m c cc nL s args WW RX0) (hK : va_K D vwCl (tyIZ cI cZ) s) (hP : va_P D vwCl (wX cI cZ a S) H) (hdg : decode cc pc = .ok (.getfield 29, 3)) (kk : W p l e R s m args below meth c H locs cells slots Q (F0 m (pc + 3) ls (.ref (a 7) :: rest))) : W p l e R s m args below meth c H locs cells slots Q (F0 m pc ls (.ref (a 0) :: rest)) := va_get (ci := 0) (C := RX0) (T := TX0) (N := 15) C.1 C.2.1 C.2.2.2.2 inWX0 C.2.2.2.1 hK hP 0 rfl rfl 7 (by decide) (C.2.2.2.2 _ qF_X0_29) (fun _ h => h) rfl hdg kk
theorem lX0_withdrawn (C : CallFix p m c cc nL s args WW RX0) (hK : va_K D vwCl (tyIZ cI cZ) s) (hP : va_P D vwCl (wX cI cZ a S) H) {i : Int32} {K : Int32 → Option ρ} (h : (rdA (S 7) 180 i).bind K = some z) (hdg : decode cc pc = .ok (.baload, 1)) (kk : K (S 7 i.toNatClampNeg) = some z → W p l e R s m args below meth c H locs cells slots Q (F0 m (pc + 1) ls (.int (S 7 i.toNatClampNeg) :: rest))) : W p l e R s m args below meth c H locs cells slots Q (F0 m pc ls (.int i :: .ref (a 7) :: rest)) := k_zld C hK hP 7 1 rfl rfl h hdg kk
theorem sX0_withdrawn (C : CallFix p m c cc nL s args WW RX0) (hK : va_K D vwCl (tyIZ cI cZ) s) (hP : va_P D vwCl (wX cI cZ a S) H) (hD : va_D A (wX cI cZ a S)) (hS : va_S A H0 H locs) {i x : Int32} {K : XS → Option ρ} (h : wrS 180 i (sU S 7 (upd (S 7) i.toNatClampNeg (x &&& 1))) K = some z) (hdg : decode cc pc = .ok (.bastore, 1)) (kk : ∀ (S1 : XS) (H1 : Heap) (locs1 : List Loc), K S1 = some z → va_P D vwCl (wX cI cZ a S1) H1 → va_D A (wX cI cZ a S1) → va_S A H0 H1 locs1 → W p l e R s m args below meth c H1 locs1 cells slots Q (F0 m (pc + 1) ls rest)) : W p l e R s m args below meth c H locs cells slots Q (F0 m pc ls (.int x :: .int i :: .ref (a 7) :: rest)) := k_zst C hK hP hD hS 7 1 rfl rfl (wX cI cZ a) _ rfl h hdg kk
theorem gX0_proved (C : CallFix p m c cc nL s args WW RX0) (hK : va_K D vwCl (tyIZ cI cZ) s) (hP : va_P D vwCl (wX cI cZ a S) H) (hdg : decode cc pc = .ok (.getfield 140, 3)) (kk : W p l e R s m args below meth c H locs cells slots Q (F0 m (pc + 3) ls (.int (S 15 0) :: rest))) : W p l e R s m args below meth c H locs cells slots Q (F0 m pc ls (.ref (a 0) :: rest)) := va_get (ci := 0) (C := RX0) (T := TX0) (N := 15) C.1 C.2.1 C.2.2.2.2 inWX0 C.2.2.2.1 hK hP 0 rfl rfl 8 (by decide) (C.2.2.2.2 _ qF_X0_140) (fun _ h => h) rfl hdg kk
theorem pX0_proved (C : CallFix p m c cc nL s args WW RX0) (hK : va_K D vwCl (tyIZ cI cZ) s) (hP : va_P D vwCl (wX cI cZ a S) H) (hD : va_D A (wX cI cZ a S)) (hS : va_S A H0 H locs) {v : Int32} {K : XS → Option ρ} (h : stS (sU S 15 (fun _ => v)) K = some z) (hdg : decode cc pc = .ok (.putfield 140, 3)) (kk : ∀ (S1 : XS) (H1 : Heap) (locs1 : List Loc), K S1 = some z → va_P D vwCl (wX cI cZ a S1) H1 → va_D A (wX cI cZ a S1) → va_S A H0 H1 locs1 → W p l e R s m args below meth c H1 locs1 cells slots Q (F0 m (pc + 3) ls rest)) : W p l e R s m args below meth c H locs cells slots Q (F0 m pc ls (.int v :: .ref (a 0) :: rest)) := va_put (ci := 0) (v := .int v) (ty := .int) (C := RX0) (T := TX0) (N := 15) C.1 C.2.1 C.2.2.2.2 inWX0 tyX0 tyX0_ok nmX0 C.2.2.2.1 hK hP hD hS 0 rfl rfl 8 (by decide) (C.2.2.2.2 _ qF_X0_140) (fun _ h => h) rfl (by decide +kernel) rfl rfl (Nat.le_of_ble_eq_true rfl) hdg (fun H1 l1 p d q => kk _ H1 l1 h p d q)
theorem gX0_stages (C : CallFix p m c cc nL s args WW RX0) (hK : va_K D vwCl (tyIZ cI cZ) s) (hP : va_P D vwCl (wX cI cZ a S) H) (hdg : decode cc pc = .ok (.getfield 32, 3)) (kk : W p l e R s m args below meth c H locs cells slots Q (F0 m (pc + 3) ls (.ref (a 8) :: rest))) : W p l e R s m args below meth c H locs cells slots Q (F0 m pc ls (.ref (a 0) :: rest)) := va_get (ci := 0) (C := RX0) (T := TX0) (N := 15) C.1 C.2.1 C.2.2.2.2 inWX0 C.2.2.2.1 hK hP 0 rfl rfl 9 (by decide) (C.2.2.2.2 _ qF_X0_32) (fun _ h => h) rfl hdg kk
theorem lX0_stages (C : CallFix p m c cc nL s args WW RX0) (hK : va_K D vwCl (tyIZ cI cZ) s) (hP : va_P D vwCl (wX cI cZ a S) H) {i : Int32} {K : Int32 → Option ρ} (h : (rdA (S 8) 12 i).bind K = some z) (hdg : decode cc pc = .ok (.iaload, 1)) (kk : K (S 8 i.toNatClampNeg) = some z → W p l e R s m args below meth c H locs cells slots Q (F0 m (pc + 1) ls (.int (S 8 i.toNatClampNeg) :: rest))) : W p l e R s m args below meth c H locs cells slots Q (F0 m pc ls (.int i :: .ref (a 8) :: rest)) := k_ld C hK hP 8 0 rfl rfl h hdg kk
theorem sX0_stages (C : CallFix p m c cc nL s args WW RX0) (hK : va_K D vwCl (tyIZ cI cZ) s) (hP : va_P D vwCl (wX cI cZ a S) H) (hD : va_D A (wX cI cZ a S)) (hS : va_S A H0 H locs) {i x : Int32} {K : XS → Option ρ} (h : wrS 12 i (sU S 8 (upd (S 8) i.toNatClampNeg x)) K = some z) (hdg : decode cc pc = .ok (.iastore, 1)) (kk : ∀ (S1 : XS) (H1 : Heap) (locs1 : List Loc), K S1 = some z → va_P D vwCl (wX cI cZ a S1) H1 → va_D A (wX cI cZ a S1) → va_S A H0 H1 locs1 → W p l e R s m args below meth c H1 locs1 cells slots Q (F0 m (pc + 1) ls rest)) : W p l e R s m args below meth c H locs cells slots Q (F0 m pc ls (.int x :: .int i :: .ref (a 8) :: rest)) := k_st C hK hP hD hS 8 0 rfl rfl (wX cI cZ a) _ rfl h hdg kk
theorem gX0_lengths (C : CallFix p m c cc nL s args WW RX0) (hK : va_K D vwCl (tyIZ cI cZ) s) (hP : va_P D vwCl (wX cI cZ a S) H) (hdg : decode cc pc = .ok (.getfield 35, 3)) (kk : W p l e R s m args below meth c H locs cells slots Q (F0 m (pc + 3) ls (.ref (a 9) :: rest))) : W p l e R s m args below meth c H locs cells slots Q (F0 m pc ls (.ref (a 0) :: rest)) := va_get (ci := 0) (C := RX0) (T := TX0) (N := 15) C.1 C.2.1 C.2.2.2.2 inWX0 C.2.2.2.1 hK hP 0 rfl rfl 10 (by decide) (C.2.2.2.2 _ qF_X0_35) (fun _ h => h) rfl hdg kk
theorem lX0_lengths (C : CallFix p m c cc nL s args WW RX0) (hK : va_K D vwCl (tyIZ cI cZ) s) (hP : va_P D vwCl (wX cI cZ a S) H) {i : Int32} {K : Int32 → Option ρ} (h : (rdA (S 9) 12 i).bind K = some z) (hdg : decode cc pc = .ok (.iaload, 1)) (kk : K (S 9 i.toNatClampNeg) = some z → W p l e R s m args below meth c H locs cells slots Q (F0 m (pc + 1) ls (.int (S 9 i.toNatClampNeg) :: rest))) : W p l e R s m args below meth c H locs cells slots Q (F0 m pc ls (.int i :: .ref (a 9) :: rest)) := k_ld C hK hP 9 0 rfl rfl h hdg kk
theorem sX0_lengths (C : CallFix p m c cc nL s args WW RX0) (hK : va_K D vwCl (tyIZ cI cZ) s) (hP : va_P D vwCl (wX cI cZ a S) H) (hD : va_D A (wX cI cZ a S)) (hS : va_S A H0 H locs) {i x : Int32} {K : XS → Option ρ} (h : wrS 12 i (sU S 9 (upd (S 9) i.toNatClampNeg x)) K = some z) (hdg : decode cc pc = .ok (.iastore, 1)) (kk : ∀ (S1 : XS) (H1 : Heap) (locs1 : List Loc), K S1 = some z → va_P D vwCl (wX cI cZ a S1) H1 → va_D A (wX cI cZ a S1) → va_S A H0 H1 locs1 → W p l e R s m args below meth c H1 locs1 cells slots Q (F0 m (pc + 1) ls rest)) : W p l e R s m args below meth c H locs cells slots Q (F0 m pc ls (.int x :: .int i :: .ref (a 9) :: rest)) := k_st C hK hP hD hS 9 0 rfl rfl (wX cI cZ a) _ rfl h hdg kk
theorem gX0_prices (C : CallFix p m c cc nL s args WW RX0) (hK : va_K D vwCl (tyIZ cI cZ) s) (hP : va_P D vwCl (wX cI cZ a S) H) (hdg : decode cc pc = .ok (.getfield 38, 3)) (kk : W p l e R s m args below meth c H locs cells slots Q (F0 m (pc + 3) ls (.ref (a 10) :: rest))) : W p l e R s m args below meth c H locs cells slots Q (F0 m pc ls (.ref (a 0) :: rest)) := va_get (ci := 0) (C := RX0) (T := TX0) (N := 15) C.1 C.2.1 C.2.2.2.2 inWX0 C.2.2.2.1 hK hP 0 rfl rfl 11 (by decide) (C.2.2.2.2 _ qF_X0_38) (fun _ h => h) rfl hdg kk
theorem lX0_prices (C : CallFix p m c cc nL s args WW RX0) (hK : va_K D vwCl (tyIZ cI cZ) s) (hP : va_P D vwCl (wX cI cZ a S) H) {i : Int32} {K : Int32 → Option ρ} (h : (rdA (S 10) 12 i).bind K = some z) (hdg : decode cc pc = .ok (.iaload, 1)) (kk : K (S 10 i.toNatClampNeg) = some z → W p l e R s m args below meth c H locs cells slots Q (F0 m (pc + 1) ls (.int (S 10 i.toNatClampNeg) :: rest))) : W p l e R s m args below meth c H locs cells slots Q (F0 m pc ls (.int i :: .ref (a 10) :: rest)) := k_ld C hK hP 10 0 rfl rfl h hdg kk
theorem sX0_prices (C : CallFix p m c cc nL s args WW RX0) (hK : va_K D vwCl (tyIZ cI cZ) s) (hP : va_P D vwCl (wX cI cZ a S) H) (hD : va_D A (wX cI cZ a S)) (hS : va_S A H0 H locs) {i x : Int32} {K : XS → Option ρ} (h : wrS 12 i (sU S 10 (upd (S 10) i.toNatClampNeg x)) K = some z) (hdg : decode cc pc = .ok (.iastore, 1)) (kk : ∀ (S1 : XS) (H1 : Heap) (locs1 : List Loc), K S1 = some z → va_P D vwCl (wX cI cZ a S1) H1 → va_D A (wX cI cZ a S1) → va_S A H0 H1 locs1 → W p l e R s m args below meth c H1 locs1 cells slots Q (F0 m (pc + 1) ls rest)) : W p l e R s m args below meth c H locs cells slots Q (F0 m pc ls (.int x :: .int i :: .ref (a 10) :: rest)) := k_st C hK hP hD hS 10 0 rfl rfl (wX cI cZ a) _ rfl h hdg kk
theorem gX0_leads (C : CallFix p m c cc nL s args WW RX0) (hK : va_K D vwCl (tyIZ cI cZ) s) (hP : va_P D vwCl (wX cI cZ a S) H) (hdg : decode cc pc = .ok (.getfield 41, 3)) (kk : W p l e R s m args below meth c H locs cells slots Q (F0 m (pc + 3) ls (.ref (a 11) :: rest))) : W p l e R s m args below meth c H locs cells slots Q (F0 m pc ls (.ref (a 0) :: rest)) := va_get (ci := 0) (C := RX0) (T := TX0) (N := 15) C.1 C.2.1 C.2.2.2.2 inWX0 C.2.2.2.1 hK hP 0 rfl rfl 12 (by decide) (C.2.2.2.2 _ qF_X0_41) (fun _ h => h) rfl hdg kk
theorem lX0_leads (C : CallFix p m c cc nL s args WW RX0) (hK : va_K D vwCl (tyIZ cI cZ) s) (hP : va_P D vwCl (wX cI cZ a S) H) {i : Int32} {K : Int32 → Option ρ} (h : (rdA (S 11) 12 i).bind K = some z) (hdg : decode cc pc = .ok (.iaload, 1)) (kk : K (S 11 i.toNatClampNeg) = some z → W p l e R s m args below meth c H locs cells slots Q (F0 m (pc + 1) ls (.int (S 11 i.toNatClampNeg) :: rest))) : W p l e R s m args below meth c H locs cells slots Q (F0 m pc ls (.int i :: .ref (a 11) :: rest)) := k_ld C hK hP 11 0 rfl rfl h hdg kk
theorem sX0_leads (C : CallFix p m c cc nL s args WW RX0) (hK : va_K D vwCl (tyIZ cI cZ) s) (hP : va_P D vwCl (wX cI cZ a S) H) (hD : va_D A (wX cI cZ a S)) (hS : va_S A H0 H locs) {i x : Int32} {K : XS → Option ρ} (h : wrS 12 i (sU S 11 (upd (S 11) i.toNatClampNeg x)) K = some z) (hdg : decode cc pc = .ok (.iastore, 1)) (kk : ∀ (S1 : XS) (H1 : Heap) (locs1 : List Loc), K S1 = some z → va_P D vwCl (wX cI cZ a S1) H1 → va_D A (wX cI cZ a S1) → va_S A H0 H1 locs1 → W p l e R s m args below meth c H1 locs1 cells slots Q (F0 m (pc + 1) ls rest)) : W p l e R s m args below meth c H locs cells slots Q (F0 m pc ls (.int x :: .int i :: .ref (a 11) :: rest)) := k_st C hK hP hD hS 11 0 rfl rfl (wX cI cZ a) _ rfl h hdg kk
theorem gX0_circles (C : CallFix p m c cc nL s args WW RX0) (hK : va_K D vwCl (tyIZ cI cZ) s) (hP : va_P D vwCl (wX cI cZ a S) H) (hdg : decode cc pc = .ok (.getfield 44, 3)) (kk : W p l e R s m args below meth c H locs cells slots Q (F0 m (pc + 3) ls (.ref (a 12) :: rest))) : W p l e R s m args below meth c H locs cells slots Q (F0 m pc ls (.ref (a 0) :: rest)) := va_get (ci := 0) (C := RX0) (T := TX0) (N := 15) C.1 C.2.1 C.2.2.2.2 inWX0 C.2.2.2.1 hK hP 0 rfl rfl 13 (by decide) (C.2.2.2.2 _ qF_X0_44) (fun _ h => h) rfl hdg kk
theorem lX0_circles (C : CallFix p m c cc nL s args WW RX0) (hK : va_K D vwCl (tyIZ cI cZ) s) (hP : va_P D vwCl (wX cI cZ a S) H) {i : Int32} {K : Int32 → Option ρ} (h : (rdA (S 12) 12 i).bind K = some z) (hdg : decode cc pc = .ok (.iaload, 1)) (kk : K (S 12 i.toNatClampNeg) = some z → W p l e R s m args below meth c H locs cells slots Q (F0 m (pc + 1) ls (.int (S 12 i.toNatClampNeg) :: rest))) : W p l e R s m args below meth c H locs cells slots Q (F0 m pc ls (.int i :: .ref (a 12) :: rest)) := k_ld C hK hP 12 0 rfl rfl h hdg kk
theorem sX0_circles (C : CallFix p m c cc nL s args WW RX0) (hK : va_K D vwCl (tyIZ cI cZ) s) (hP : va_P D vwCl (wX cI cZ a S) H) (hD : va_D A (wX cI cZ a S)) (hS : va_S A H0 H locs) {i x : Int32} {K : XS → Option ρ} (h : wrS 12 i (sU S 12 (upd (S 12) i.toNatClampNeg x)) K = some z) (hdg : decode cc pc = .ok (.iastore, 1)) (kk : ∀ (S1 : XS) (H1 : Heap) (locs1 : List Loc), K S1 = some z → va_P D vwCl (wX cI cZ a S1) H1 → va_D A (wX cI cZ a S1) → va_S A H0 H1 locs1 → W p l e R s m args below meth c H1 locs1 cells slots Q (F0 m (pc + 1) ls rest)) : W p l e R s m args below meth c H locs cells slots Q (F0 m pc ls (.int x :: .int i :: .ref (a 12) :: rest)) := k_st C hK hP hD hS 12 0 rfl rfl (wX cI cZ a) _ rfl h hdg kk
theorem gX0_trial (C : CallFix p m c cc nL s args WW RX0) (hK : va_K D vwCl (tyIZ cI cZ) s) (hP : va_P D vwCl (wX cI cZ a S) H) (hdg : decode cc pc = .ok (.getfield 47, 3)) (kk : W p l e R s m args below meth c H locs cells slots Q (F0 m (pc + 3) ls (.ref (a 13) :: rest))) : W p l e R s m args below meth c H locs cells slots Q (F0 m pc ls (.ref (a 0) :: rest)) := va_get (ci := 0) (C := RX0) (T := TX0) (N := 15) C.1 C.2.1 C.2.2.2.2 inWX0 C.2.2.2.1 hK hP 0 rfl rfl 14 (by decide) (C.2.2.2.2 _ qF_X0_47) (fun _ h => h) rfl hdg kk
theorem lX0_trial (C : CallFix p m c cc nL s args WW RX0) (hK : va_K D vwCl (tyIZ cI cZ) s) (hP : va_P D vwCl (wX cI cZ a S) H) {i : Int32} {K : Int32 → Option ρ} (h : (rdA (S 13) 12 i).bind K = some z) (hdg : decode cc pc = .ok (.iaload, 1)) (kk : K (S 13 i.toNatClampNeg) = some z → W p l e R s m args below meth c H locs cells slots Q (F0 m (pc + 1) ls (.int (S 13 i.toNatClampNeg) :: rest))) : W p l e R s m args below meth c H locs cells slots Q (F0 m pc ls (.int i :: .ref (a 13) :: rest)) := k_ld C hK hP 13 0 rfl rfl h hdg kk
theorem sX0_trial (C : CallFix p m c cc nL s args WW RX0) (hK : va_K D vwCl (tyIZ cI cZ) s) (hP : va_P D vwCl (wX cI cZ a S) H) (hD : va_D A (wX cI cZ a S)) (hS : va_S A H0 H locs) {i x : Int32} {K : XS → Option ρ} (h : wrS 12 i (sU S 13 (upd (S 13) i.toNatClampNeg x)) K = some z) (hdg : decode cc pc = .ok (.iastore, 1)) (kk : ∀ (S1 : XS) (H1 : Heap) (locs1 : List Loc), K S1 = some z → va_P D vwCl (wX cI cZ a S1) H1 → va_D A (wX cI cZ a S1) → va_S A H0 H1 locs1 → W p l e R s m args below meth c H1 locs1 cells slots Q (F0 m (pc + 1) ls rest)) : W p l e R s m args below meth c H locs cells slots Q (F0 m pc ls (.int x :: .int i :: .ref (a 13) :: rest)) := k_st C hK hP hD hS 13 0 rfl rfl (wX cI cZ a) _ rfl h hdg kk
theorem lX0_row (C : CallFix p m c cc nL s args WW RX0) (hK : va_K D vwCl (tyIZ cI cZ) s) (hP : va_P D vwCl (wX cI cZ a S) H) {r : Nat} (hr : 8 ≤ r ∧ r ≤ 13) {i : Int32} {K : Int32 → Option ρ} (h : (rdA (S r) 12 i).bind K = some z) (hdg : decode cc pc = .ok (.iaload, 1)) (kk : K (S r i.toNatClampNeg) = some z → W p l e R s m args below meth c H locs cells slots Q (F0 m (pc + 1) ls (.int (S r i.toNatClampNeg) :: rest))) : W p l e R s m args below meth c H locs cells slots Q (F0 m pc ls (.int i :: .ref (a r) :: rest)) := k_ld C hK hP r 0 (wX_row hr) rfl h hdg kk
theorem sX0_row (C : CallFix p m c cc nL s args WW RX0) (hK : va_K D vwCl (tyIZ cI cZ) s) (hP : va_P D vwCl (wX cI cZ a S) H) (hD : va_D A (wX cI cZ a S)) (hS : va_S A H0 H locs) {r : Nat} (hr : 8 ≤ r ∧ r ≤ 13) {i x : Int32} {K : XS → Option ρ} (h : wrS 12 i (sU S r (upd (S r) i.toNatClampNeg x)) K = some z) (hdg : decode cc pc = .ok (.iastore, 1)) (kk : ∀ (S1 : XS) (H1 : Heap) (locs1 : List Loc), K S1 = some z → va_P D vwCl (wX cI cZ a S1) H1 → va_D A (wX cI cZ a S1) → va_S A H0 H1 locs1 → W p l e R s m args below meth c H1 locs1 cells slots Q (F0 m (pc + 1) ls rest)) : W p l e R s m args below meth c H locs cells slots Q (F0 m pc ls (.int x :: .int i :: .ref (a r) :: rest)) := k_st C hK hP hD hS r 0 (wX_row hr) rfl (wX cI cZ a) _ (wX_srow hr _) h hdg kk
def wM (cI cZ : ClassId) (a : Nat → Nat) (S : XS) : va_W := [(a 0, .inr (1, [.int (S 15 0), .int (S 14 0), .ref (a 1), .ref (a 2), .ref (a 3), .ref (a 4), .ref (a 5), .ref (a 6), .ref (a 7), .ref (a 8), .ref (a 9), .ref (a 10), .ref (a 11)])), (a 1, .inl (cZ, 5, .inl (S 1))), (a 2, .inl (cI, 12, .inl (S 2))), (a 3, .inl (cI, 36, .inl (S 3))), (a 4, .inl (cI, 180, .inl (S 4))), (a 5, .inl (cI, 180, .inl (S 5))), (a 6, .inl (cI, 180, .inl (S 6))), (a 7, .inl (cZ, 180, .inl (S 7))), (a 8, .inl (cI, 12, .inl (S 8))), (a 9, .inl (cI, 12, .inl (S 9))), (a 10, .inl (cI, 12, .inl (S 10))), (a 11, .inl (cI, 12, .inl (S 11)))]
theorem wM_ad (S S2 : XS) : (wM cI cZ a S2).map Prod.fst = (wM cI cZ a S).map Prod.fst := rfl
theorem wM_rv (hK : va_K D vwCl (tyIZ cI cZ) s) (hP : va_P D vwCl (wM cI cZ a S) H) : ∃ cell : Cell, H[a 0]? = some cell ∧ cell.vm.isStatics = false ∧ s.vm.findClass RX1 = some cell.cls := va_recv (q := (RX1, TX1, 13)) hK hP (ci := 1) (q0 := 0) rfl rfl
theorem gX1_thrown (C : CallFix p m c cc nL s args WW RX1) (hK : va_K D vwCl (tyIZ cI cZ) s) (hP : va_P D vwCl (wM cI cZ a S) H) (hdg : decode cc pc = .ok (.getfield 44, 3)) (kk : W p l e R s m args below meth c H locs cells slots Q (F0 m (pc + 3) ls (.int (S 15 0) :: rest))) : W p l e R s m args below meth c H locs cells slots Q (F0 m pc ls (.ref (a 0) :: rest)) := va_get (ci := 1) (C := RX1) (T := TX1) (N := 13) C.1 C.2.1 C.2.2.2.2 inWX1 C.2.2.2.1 hK hP 0 rfl rfl 0 (by decide) (C.2.2.2.2 _ qF_X1_44) (fun _ h => h) rfl hdg kk
theorem pX1_thrown (C : CallFix p m c cc nL s args WW RX1) (hK : va_K D vwCl (tyIZ cI cZ) s) (hP : va_P D vwCl (wM cI cZ a S) H) (hD : va_D A (wM cI cZ a S)) (hS : va_S A H0 H locs) {v : Int32} {K : XS → Option ρ} (h : stS (sU S 15 (fun _ => v)) K = some z) (hdg : decode cc pc = .ok (.putfield 44, 3)) (kk : ∀ (S1 : XS) (H1 : Heap) (locs1 : List Loc), K S1 = some z → va_P D vwCl (wM cI cZ a S1) H1 → va_D A (wM cI cZ a S1) → va_S A H0 H1 locs1 → W p l e R s m args below meth c H1 locs1 cells slots Q (F0 m (pc + 3) ls rest)) : W p l e R s m args below meth c H locs cells slots Q (F0 m pc ls (.int v :: .ref (a 0) :: rest)) := va_put (ci := 1) (v := .int v) (ty := .int) (C := RX1) (T := TX1) (N := 13) C.1 C.2.1 C.2.2.2.2 inWX1 tyX1 tyX1_ok nmX1 C.2.2.2.1 hK hP hD hS 0 rfl rfl 0 (by decide) (C.2.2.2.2 _ qF_X1_44) (fun _ h => h) rfl (by decide +kernel) rfl rfl (Nat.le_of_ble_eq_true rfl) hdg (fun H1 l1 p d q => kk _ H1 l1 h p d q)
theorem gX1_lemmas (C : CallFix p m c cc nL s args WW RX1) (hK : va_K D vwCl (tyIZ cI cZ) s) (hP : va_P D vwCl (wM cI cZ a S) H) (hdg : decode cc pc = .ok (.getfield 52, 3)) (kk : W p l e R s m args below meth c H locs cells slots Q (F0 m (pc + 3) ls (.int (S 14 0) :: rest))) : W p l e R s m args below meth c H locs cells slots Q (F0 m pc ls (.ref (a 0) :: rest)) := va_get (ci := 1) (C := RX1) (T := TX1) (N := 13) C.1 C.2.1 C.2.2.2.2 inWX1 C.2.2.2.1 hK hP 0 rfl rfl 1 (by decide) (C.2.2.2.2 _ qF_X1_52) (fun _ h => h) rfl hdg kk
theorem pX1_lemmas (C : CallFix p m c cc nL s args WW RX1) (hK : va_K D vwCl (tyIZ cI cZ) s) (hP : va_P D vwCl (wM cI cZ a S) H) (hD : va_D A (wM cI cZ a S)) (hS : va_S A H0 H locs) {v : Int32} {K : XS → Option ρ} (h : stS (sU S 14 (fun _ => v)) K = some z) (hdg : decode cc pc = .ok (.putfield 52, 3)) (kk : ∀ (S1 : XS) (H1 : Heap) (locs1 : List Loc), K S1 = some z → va_P D vwCl (wM cI cZ a S1) H1 → va_D A (wM cI cZ a S1) → va_S A H0 H1 locs1 → W p l e R s m args below meth c H1 locs1 cells slots Q (F0 m (pc + 3) ls rest)) : W p l e R s m args below meth c H locs cells slots Q (F0 m pc ls (.int v :: .ref (a 0) :: rest)) := va_put (ci := 1) (v := .int v) (ty := .int) (C := RX1) (T := TX1) (N := 13) C.1 C.2.1 C.2.2.2.2 inWX1 tyX1 tyX1_ok nmX1 C.2.2.2.1 hK hP hD hS 0 rfl rfl 1 (by decide) (C.2.2.2.2 _ qF_X1_52) (fun _ h => h) rfl (by decide +kernel) rfl rfl (Nat.le_of_ble_eq_true rfl) hdg (fun H1 l1 p d q => kk _ H1 l1 h p d q)
theorem gX1_taken (C : CallFix p m c cc nL s args WW RX1) (hK : va_K D vwCl (tyIZ cI cZ) s) (hP : va_P D vwCl (wM cI cZ a S) H) (hdg : decode cc pc = .ok (.getfield 9, 3)) (kk : W p l e R s m args below meth c H locs cells slots Q (F0 m (pc + 3) ls (.ref (a 1) :: rest))) : W p l e R s m args below meth c H locs cells slots Q (F0 m pc ls (.ref (a 0) :: rest)) := va_get (ci := 1) (C := RX1) (T := TX1) (N := 13) C.1 C.2.1 C.2.2.2.2 inWX1 C.2.2.2.1 hK hP 0 rfl rfl 2 (by decide) (C.2.2.2.2 _ qF_X1_9) (fun _ h => h) rfl hdg kk
theorem lX1_taken (C : CallFix p m c cc nL s args WW RX1) (hK : va_K D vwCl (tyIZ cI cZ) s) (hP : va_P D vwCl (wM cI cZ a S) H) {i : Int32} {K : Int32 → Option ρ} (h : (rdA (S 1) 5 i).bind K = some z) (hdg : decode cc pc = .ok (.baload, 1)) (kk : K (S 1 i.toNatClampNeg) = some z → W p l e R s m args below meth c H locs cells slots Q (F0 m (pc + 1) ls (.int (S 1 i.toNatClampNeg) :: rest))) : W p l e R s m args below meth c H locs cells slots Q (F0 m pc ls (.int i :: .ref (a 1) :: rest)) := k_zld C hK hP 1 1 rfl rfl h hdg kk
theorem sX1_taken (C : CallFix p m c cc nL s args WW RX1) (hK : va_K D vwCl (tyIZ cI cZ) s) (hP : va_P D vwCl (wM cI cZ a S) H) (hD : va_D A (wM cI cZ a S)) (hS : va_S A H0 H locs) {i x : Int32} {K : XS → Option ρ} (h : wrS 5 i (sU S 1 (upd (S 1) i.toNatClampNeg (x &&& 1))) K = some z) (hdg : decode cc pc = .ok (.bastore, 1)) (kk : ∀ (S1 : XS) (H1 : Heap) (locs1 : List Loc), K S1 = some z → va_P D vwCl (wM cI cZ a S1) H1 → va_D A (wM cI cZ a S1) → va_S A H0 H1 locs1 → W p l e R s m args below meth c H1 locs1 cells slots Q (F0 m (pc + 1) ls rest)) : W p l e R s m args below meth c H locs cells slots Q (F0 m pc ls (.int x :: .int i :: .ref (a 1) :: rest)) := k_zst C hK hP hD hS 1 1 rfl rfl (wM cI cZ a) _ rfl h hdg kk
theorem gX1_proofs (C : CallFix p m c cc nL s args WW RX1) (hK : va_K D vwCl (tyIZ cI cZ) s) (hP : va_P D vwCl (wM cI cZ a S) H) (hdg : decode cc pc = .ok (.getfield 13, 3)) (kk : W p l e R s m args below meth c H locs cells slots Q (F0 m (pc + 3) ls (.ref (a 2) :: rest))) : W p l e R s m args below meth c H locs cells slots Q (F0 m pc ls (.ref (a 0) :: rest)) := va_get (ci := 1) (C := RX1) (T := TX1) (N := 13) C.1 C.2.1 C.2.2.2.2 inWX1 C.2.2.2.1 hK hP 0 rfl rfl 3 (by decide) (C.2.2.2.2 _ qF_X1_13) (fun _ h => h) rfl hdg kk
theorem lX1_proofs (C : CallFix p m c cc nL s args WW RX1) (hK : va_K D vwCl (tyIZ cI cZ) s) (hP : va_P D vwCl (wM cI cZ a S) H) {i : Int32} {K : Int32 → Option ρ} (h : (rdA (S 2) 12 i).bind K = some z) (hdg : decode cc pc = .ok (.iaload, 1)) (kk : K (S 2 i.toNatClampNeg) = some z → W p l e R s m args below meth c H locs cells slots Q (F0 m (pc + 1) ls (.int (S 2 i.toNatClampNeg) :: rest))) : W p l e R s m args below meth c H locs cells slots Q (F0 m pc ls (.int i :: .ref (a 2) :: rest)) := k_ld C hK hP 2 0 rfl rfl h hdg kk
theorem sX1_proofs (C : CallFix p m c cc nL s args WW RX1) (hK : va_K D vwCl (tyIZ cI cZ) s) (hP : va_P D vwCl (wM cI cZ a S) H) (hD : va_D A (wM cI cZ a S)) (hS : va_S A H0 H locs) {i x : Int32} {K : XS → Option ρ} (h : wrS 12 i (sU S 2 (upd (S 2) i.toNatClampNeg x)) K = some z) (hdg : decode cc pc = .ok (.iastore, 1)) (kk : ∀ (S1 : XS) (H1 : Heap) (locs1 : List Loc), K S1 = some z → va_P D vwCl (wM cI cZ a S1) H1 → va_D A (wM cI cZ a S1) → va_S A H0 H1 locs1 → W p l e R s m args below meth c H1 locs1 cells slots Q (F0 m (pc + 1) ls rest)) : W p l e R s m args below meth c H locs cells slots Q (F0 m pc ls (.int x :: .int i :: .ref (a 2) :: rest)) := k_st C hK hP hD hS 2 0 rfl rfl (wM cI cZ a) _ rfl h hdg kk
theorem gX1_steps (C : CallFix p m c cc nL s args WW RX1) (hK : va_K D vwCl (tyIZ cI cZ) s) (hP : va_P D vwCl (wM cI cZ a S) H) (hdg : decode cc pc = .ok (.getfield 17, 3)) (kk : W p l e R s m args below meth c H locs cells slots Q (F0 m (pc + 3) ls (.ref (a 3) :: rest))) : W p l e R s m args below meth c H locs cells slots Q (F0 m pc ls (.ref (a 0) :: rest)) := va_get (ci := 1) (C := RX1) (T := TX1) (N := 13) C.1 C.2.1 C.2.2.2.2 inWX1 C.2.2.2.1 hK hP 0 rfl rfl 4 (by decide) (C.2.2.2.2 _ qF_X1_17) (fun _ h => h) rfl hdg kk
theorem lX1_steps (C : CallFix p m c cc nL s args WW RX1) (hK : va_K D vwCl (tyIZ cI cZ) s) (hP : va_P D vwCl (wM cI cZ a S) H) {i : Int32} {K : Int32 → Option ρ} (h : (rdA (S 3) 36 i).bind K = some z) (hdg : decode cc pc = .ok (.iaload, 1)) (kk : K (S 3 i.toNatClampNeg) = some z → W p l e R s m args below meth c H locs cells slots Q (F0 m (pc + 1) ls (.int (S 3 i.toNatClampNeg) :: rest))) : W p l e R s m args below meth c H locs cells slots Q (F0 m pc ls (.int i :: .ref (a 3) :: rest)) := k_ld C hK hP 3 0 rfl rfl h hdg kk
theorem sX1_steps (C : CallFix p m c cc nL s args WW RX1) (hK : va_K D vwCl (tyIZ cI cZ) s) (hP : va_P D vwCl (wM cI cZ a S) H) (hD : va_D A (wM cI cZ a S)) (hS : va_S A H0 H locs) {i x : Int32} {K : XS → Option ρ} (h : wrS 36 i (sU S 3 (upd (S 3) i.toNatClampNeg x)) K = some z) (hdg : decode cc pc = .ok (.iastore, 1)) (kk : ∀ (S1 : XS) (H1 : Heap) (locs1 : List Loc), K S1 = some z → va_P D vwCl (wM cI cZ a S1) H1 → va_D A (wM cI cZ a S1) → va_S A H0 H1 locs1 → W p l e R s m args below meth c H1 locs1 cells slots Q (F0 m (pc + 1) ls rest)) : W p l e R s m args below meth c H locs cells slots Q (F0 m pc ls (.int x :: .int i :: .ref (a 3) :: rest)) := k_st C hK hP hD hS 3 0 rfl rfl (wM cI cZ a) _ rfl h hdg kk
theorem gX1_kind (C : CallFix p m c cc nL s args WW RX1) (hK : va_K D vwCl (tyIZ cI cZ) s) (hP : va_P D vwCl (wM cI cZ a S) H) (hdg : decode cc pc = .ok (.getfield 20, 3)) (kk : W p l e R s m args below meth c H locs cells slots Q (F0 m (pc + 3) ls (.ref (a 4) :: rest))) : W p l e R s m args below meth c H locs cells slots Q (F0 m pc ls (.ref (a 0) :: rest)) := va_get (ci := 1) (C := RX1) (T := TX1) (N := 13) C.1 C.2.1 C.2.2.2.2 inWX1 C.2.2.2.1 hK hP 0 rfl rfl 5 (by decide) (C.2.2.2.2 _ qF_X1_20) (fun _ h => h) rfl hdg kk
theorem lX1_kind (C : CallFix p m c cc nL s args WW RX1) (hK : va_K D vwCl (tyIZ cI cZ) s) (hP : va_P D vwCl (wM cI cZ a S) H) {i : Int32} {K : Int32 → Option ρ} (h : (rdA (S 4) 180 i).bind K = some z) (hdg : decode cc pc = .ok (.iaload, 1)) (kk : K (S 4 i.toNatClampNeg) = some z → W p l e R s m args below meth c H locs cells slots Q (F0 m (pc + 1) ls (.int (S 4 i.toNatClampNeg) :: rest))) : W p l e R s m args below meth c H locs cells slots Q (F0 m pc ls (.int i :: .ref (a 4) :: rest)) := k_ld C hK hP 4 0 rfl rfl h hdg kk
theorem sX1_kind (C : CallFix p m c cc nL s args WW RX1) (hK : va_K D vwCl (tyIZ cI cZ) s) (hP : va_P D vwCl (wM cI cZ a S) H) (hD : va_D A (wM cI cZ a S)) (hS : va_S A H0 H locs) {i x : Int32} {K : XS → Option ρ} (h : wrS 180 i (sU S 4 (upd (S 4) i.toNatClampNeg x)) K = some z) (hdg : decode cc pc = .ok (.iastore, 1)) (kk : ∀ (S1 : XS) (H1 : Heap) (locs1 : List Loc), K S1 = some z → va_P D vwCl (wM cI cZ a S1) H1 → va_D A (wM cI cZ a S1) → va_S A H0 H1 locs1 → W p l e R s m args below meth c H1 locs1 cells slots Q (F0 m (pc + 1) ls rest)) : W p l e R s m args below meth c H locs cells slots Q (F0 m pc ls (.int x :: .int i :: .ref (a 4) :: rest)) := k_st C hK hP hD hS 4 0 rfl rfl (wM cI cZ a) _ rfl h hdg kk
theorem gX1_cited (C : CallFix p m c cc nL s args WW RX1) (hK : va_K D vwCl (tyIZ cI cZ) s) (hP : va_P D vwCl (wM cI cZ a S) H) (hdg : decode cc pc = .ok (.getfield 23, 3)) (kk : W p l e R s m args below meth c H locs cells slots Q (F0 m (pc + 3) ls (.ref (a 5) :: rest))) : W p l e R s m args below meth c H locs cells slots Q (F0 m pc ls (.ref (a 0) :: rest)) := va_get (ci := 1) (C := RX1) (T := TX1) (N := 13) C.1 C.2.1 C.2.2.2.2 inWX1 C.2.2.2.1 hK hP 0 rfl rfl 6 (by decide) (C.2.2.2.2 _ qF_X1_23) (fun _ h => h) rfl hdg kk
theorem lX1_cited (C : CallFix p m c cc nL s args WW RX1) (hK : va_K D vwCl (tyIZ cI cZ) s) (hP : va_P D vwCl (wM cI cZ a S) H) {i : Int32} {K : Int32 → Option ρ} (h : (rdA (S 5) 180 i).bind K = some z) (hdg : decode cc pc = .ok (.iaload, 1)) (kk : K (S 5 i.toNatClampNeg) = some z → W p l e R s m args below meth c H locs cells slots Q (F0 m (pc + 1) ls (.int (S 5 i.toNatClampNeg) :: rest))) : W p l e R s m args below meth c H locs cells slots Q (F0 m pc ls (.int i :: .ref (a 5) :: rest)) := k_ld C hK hP 5 0 rfl rfl h hdg kk
theorem sX1_cited (C : CallFix p m c cc nL s args WW RX1) (hK : va_K D vwCl (tyIZ cI cZ) s) (hP : va_P D vwCl (wM cI cZ a S) H) (hD : va_D A (wM cI cZ a S)) (hS : va_S A H0 H locs) {i x : Int32} {K : XS → Option ρ} (h : wrS 180 i (sU S 5 (upd (S 5) i.toNatClampNeg x)) K = some z) (hdg : decode cc pc = .ok (.iastore, 1)) (kk : ∀ (S1 : XS) (H1 : Heap) (locs1 : List Loc), K S1 = some z → va_P D vwCl (wM cI cZ a S1) H1 → va_D A (wM cI cZ a S1) → va_S A H0 H1 locs1 → W p l e R s m args below meth c H1 locs1 cells slots Q (F0 m (pc + 1) ls rest)) : W p l e R s m args below meth c H locs cells slots Q (F0 m pc ls (.int x :: .int i :: .ref (a 5) :: rest)) := k_st C hK hP hD hS 5 0 rfl rfl (wM cI cZ a) _ rfl h hdg kk
theorem gX1_open (C : CallFix p m c cc nL s args WW RX1) (hK : va_K D vwCl (tyIZ cI cZ) s) (hP : va_P D vwCl (wM cI cZ a S) H) (hdg : decode cc pc = .ok (.getfield 26, 3)) (kk : W p l e R s m args below meth c H locs cells slots Q (F0 m (pc + 3) ls (.ref (a 6) :: rest))) : W p l e R s m args below meth c H locs cells slots Q (F0 m pc ls (.ref (a 0) :: rest)) := va_get (ci := 1) (C := RX1) (T := TX1) (N := 13) C.1 C.2.1 C.2.2.2.2 inWX1 C.2.2.2.1 hK hP 0 rfl rfl 7 (by decide) (C.2.2.2.2 _ qF_X1_26) (fun _ h => h) rfl hdg kk
theorem lX1_open (C : CallFix p m c cc nL s args WW RX1) (hK : va_K D vwCl (tyIZ cI cZ) s) (hP : va_P D vwCl (wM cI cZ a S) H) {i : Int32} {K : Int32 → Option ρ} (h : (rdA (S 6) 180 i).bind K = some z) (hdg : decode cc pc = .ok (.iaload, 1)) (kk : K (S 6 i.toNatClampNeg) = some z → W p l e R s m args below meth c H locs cells slots Q (F0 m (pc + 1) ls (.int (S 6 i.toNatClampNeg) :: rest))) : W p l e R s m args below meth c H locs cells slots Q (F0 m pc ls (.int i :: .ref (a 6) :: rest)) := k_ld C hK hP 6 0 rfl rfl h hdg kk
theorem sX1_open (C : CallFix p m c cc nL s args WW RX1) (hK : va_K D vwCl (tyIZ cI cZ) s) (hP : va_P D vwCl (wM cI cZ a S) H) (hD : va_D A (wM cI cZ a S)) (hS : va_S A H0 H locs) {i x : Int32} {K : XS → Option ρ} (h : wrS 180 i (sU S 6 (upd (S 6) i.toNatClampNeg x)) K = some z) (hdg : decode cc pc = .ok (.iastore, 1)) (kk : ∀ (S1 : XS) (H1 : Heap) (locs1 : List Loc), K S1 = some z → va_P D vwCl (wM cI cZ a S1) H1 → va_D A (wM cI cZ a S1) → va_S A H0 H1 locs1 → W p l e R s m args below meth c H1 locs1 cells slots Q (F0 m (pc + 1) ls rest)) : W p l e R s m args below meth c H locs cells slots Q (F0 m pc ls (.int x :: .int i :: .ref (a 6) :: rest)) := k_st C hK hP hD hS 6 0 rfl rfl (wM cI cZ a) _ rfl h hdg kk
theorem gX1_isOut (C : CallFix p m c cc nL s args WW RX1) (hK : va_K D vwCl (tyIZ cI cZ) s) (hP : va_P D vwCl (wM cI cZ a S) H) (hdg : decode cc pc = .ok (.getfield 29, 3)) (kk : W p l e R s m args below meth c H locs cells slots Q (F0 m (pc + 3) ls (.ref (a 7) :: rest))) : W p l e R s m args below meth c H locs cells slots Q (F0 m pc ls (.ref (a 0) :: rest)) := va_get (ci := 1) (C := RX1) (T := TX1) (N := 13) C.1 C.2.1 C.2.2.2.2 inWX1 C.2.2.2.1 hK hP 0 rfl rfl 8 (by decide) (C.2.2.2.2 _ qF_X1_29) (fun _ h => h) rfl hdg kk
theorem lX1_isOut (C : CallFix p m c cc nL s args WW RX1) (hK : va_K D vwCl (tyIZ cI cZ) s) (hP : va_P D vwCl (wM cI cZ a S) H) {i : Int32} {K : Int32 → Option ρ} (h : (rdA (S 7) 180 i).bind K = some z) (hdg : decode cc pc = .ok (.baload, 1)) (kk : K (S 7 i.toNatClampNeg) = some z → W p l e R s m args below meth c H locs cells slots Q (F0 m (pc + 1) ls (.int (S 7 i.toNatClampNeg) :: rest))) : W p l e R s m args below meth c H locs cells slots Q (F0 m pc ls (.int i :: .ref (a 7) :: rest)) := k_zld C hK hP 7 1 rfl rfl h hdg kk
theorem sX1_isOut (C : CallFix p m c cc nL s args WW RX1) (hK : va_K D vwCl (tyIZ cI cZ) s) (hP : va_P D vwCl (wM cI cZ a S) H) (hD : va_D A (wM cI cZ a S)) (hS : va_S A H0 H locs) {i x : Int32} {K : XS → Option ρ} (h : wrS 180 i (sU S 7 (upd (S 7) i.toNatClampNeg (x &&& 1))) K = some z) (hdg : decode cc pc = .ok (.bastore, 1)) (kk : ∀ (S1 : XS) (H1 : Heap) (locs1 : List Loc), K S1 = some z → va_P D vwCl (wM cI cZ a S1) H1 → va_D A (wM cI cZ a S1) → va_S A H0 H1 locs1 → W p l e R s m args below meth c H1 locs1 cells slots Q (F0 m (pc + 1) ls rest)) : W p l e R s m args below meth c H locs cells slots Q (F0 m pc ls (.int x :: .int i :: .ref (a 7) :: rest)) := k_zst C hK hP hD hS 7 1 rfl rfl (wM cI cZ a) _ rfl h hdg kk
theorem gX1_stage (C : CallFix p m c cc nL s args WW RX1) (hK : va_K D vwCl (tyIZ cI cZ) s) (hP : va_P D vwCl (wM cI cZ a S) H) (hdg : decode cc pc = .ok (.getfield 32, 3)) (kk : W p l e R s m args below meth c H locs cells slots Q (F0 m (pc + 3) ls (.ref (a 8) :: rest))) : W p l e R s m args below meth c H locs cells slots Q (F0 m pc ls (.ref (a 0) :: rest)) := va_get (ci := 1) (C := RX1) (T := TX1) (N := 13) C.1 C.2.1 C.2.2.2.2 inWX1 C.2.2.2.1 hK hP 0 rfl rfl 9 (by decide) (C.2.2.2.2 _ qF_X1_32) (fun _ h => h) rfl hdg kk
theorem lX1_stage (C : CallFix p m c cc nL s args WW RX1) (hK : va_K D vwCl (tyIZ cI cZ) s) (hP : va_P D vwCl (wM cI cZ a S) H) {i : Int32} {K : Int32 → Option ρ} (h : (rdA (S 8) 12 i).bind K = some z) (hdg : decode cc pc = .ok (.iaload, 1)) (kk : K (S 8 i.toNatClampNeg) = some z → W p l e R s m args below meth c H locs cells slots Q (F0 m (pc + 1) ls (.int (S 8 i.toNatClampNeg) :: rest))) : W p l e R s m args below meth c H locs cells slots Q (F0 m pc ls (.int i :: .ref (a 8) :: rest)) := k_ld C hK hP 8 0 rfl rfl h hdg kk
theorem sX1_stage (C : CallFix p m c cc nL s args WW RX1) (hK : va_K D vwCl (tyIZ cI cZ) s) (hP : va_P D vwCl (wM cI cZ a S) H) (hD : va_D A (wM cI cZ a S)) (hS : va_S A H0 H locs) {i x : Int32} {K : XS → Option ρ} (h : wrS 12 i (sU S 8 (upd (S 8) i.toNatClampNeg x)) K = some z) (hdg : decode cc pc = .ok (.iastore, 1)) (kk : ∀ (S1 : XS) (H1 : Heap) (locs1 : List Loc), K S1 = some z → va_P D vwCl (wM cI cZ a S1) H1 → va_D A (wM cI cZ a S1) → va_S A H0 H1 locs1 → W p l e R s m args below meth c H1 locs1 cells slots Q (F0 m (pc + 1) ls rest)) : W p l e R s m args below meth c H locs cells slots Q (F0 m pc ls (.int x :: .int i :: .ref (a 8) :: rest)) := k_st C hK hP hD hS 8 0 rfl rfl (wM cI cZ a) _ rfl h hdg kk
theorem gX1_length (C : CallFix p m c cc nL s args WW RX1) (hK : va_K D vwCl (tyIZ cI cZ) s) (hP : va_P D vwCl (wM cI cZ a S) H) (hdg : decode cc pc = .ok (.getfield 35, 3)) (kk : W p l e R s m args below meth c H locs cells slots Q (F0 m (pc + 3) ls (.ref (a 9) :: rest))) : W p l e R s m args below meth c H locs cells slots Q (F0 m pc ls (.ref (a 0) :: rest)) := va_get (ci := 1) (C := RX1) (T := TX1) (N := 13) C.1 C.2.1 C.2.2.2.2 inWX1 C.2.2.2.1 hK hP 0 rfl rfl 10 (by decide) (C.2.2.2.2 _ qF_X1_35) (fun _ h => h) rfl hdg kk
theorem lX1_length (C : CallFix p m c cc nL s args WW RX1) (hK : va_K D vwCl (tyIZ cI cZ) s) (hP : va_P D vwCl (wM cI cZ a S) H) {i : Int32} {K : Int32 → Option ρ} (h : (rdA (S 9) 12 i).bind K = some z) (hdg : decode cc pc = .ok (.iaload, 1)) (kk : K (S 9 i.toNatClampNeg) = some z → W p l e R s m args below meth c H locs cells slots Q (F0 m (pc + 1) ls (.int (S 9 i.toNatClampNeg) :: rest))) : W p l e R s m args below meth c H locs cells slots Q (F0 m pc ls (.int i :: .ref (a 9) :: rest)) := k_ld C hK hP 9 0 rfl rfl h hdg kk
theorem sX1_length (C : CallFix p m c cc nL s args WW RX1) (hK : va_K D vwCl (tyIZ cI cZ) s) (hP : va_P D vwCl (wM cI cZ a S) H) (hD : va_D A (wM cI cZ a S)) (hS : va_S A H0 H locs) {i x : Int32} {K : XS → Option ρ} (h : wrS 12 i (sU S 9 (upd (S 9) i.toNatClampNeg x)) K = some z) (hdg : decode cc pc = .ok (.iastore, 1)) (kk : ∀ (S1 : XS) (H1 : Heap) (locs1 : List Loc), K S1 = some z → va_P D vwCl (wM cI cZ a S1) H1 → va_D A (wM cI cZ a S1) → va_S A H0 H1 locs1 → W p l e R s m args below meth c H1 locs1 cells slots Q (F0 m (pc + 1) ls rest)) : W p l e R s m args below meth c H locs cells slots Q (F0 m pc ls (.int x :: .int i :: .ref (a 9) :: rest)) := k_st C hK hP hD hS 9 0 rfl rfl (wM cI cZ a) _ rfl h hdg kk
theorem gX1_price (C : CallFix p m c cc nL s args WW RX1) (hK : va_K D vwCl (tyIZ cI cZ) s) (hP : va_P D vwCl (wM cI cZ a S) H) (hdg : decode cc pc = .ok (.getfield 38, 3)) (kk : W p l e R s m args below meth c H locs cells slots Q (F0 m (pc + 3) ls (.ref (a 10) :: rest))) : W p l e R s m args below meth c H locs cells slots Q (F0 m pc ls (.ref (a 0) :: rest)) := va_get (ci := 1) (C := RX1) (T := TX1) (N := 13) C.1 C.2.1 C.2.2.2.2 inWX1 C.2.2.2.1 hK hP 0 rfl rfl 11 (by decide) (C.2.2.2.2 _ qF_X1_38) (fun _ h => h) rfl hdg kk
theorem lX1_price (C : CallFix p m c cc nL s args WW RX1) (hK : va_K D vwCl (tyIZ cI cZ) s) (hP : va_P D vwCl (wM cI cZ a S) H) {i : Int32} {K : Int32 → Option ρ} (h : (rdA (S 10) 12 i).bind K = some z) (hdg : decode cc pc = .ok (.iaload, 1)) (kk : K (S 10 i.toNatClampNeg) = some z → W p l e R s m args below meth c H locs cells slots Q (F0 m (pc + 1) ls (.int (S 10 i.toNatClampNeg) :: rest))) : W p l e R s m args below meth c H locs cells slots Q (F0 m pc ls (.int i :: .ref (a 10) :: rest)) := k_ld C hK hP 10 0 rfl rfl h hdg kk
theorem sX1_price (C : CallFix p m c cc nL s args WW RX1) (hK : va_K D vwCl (tyIZ cI cZ) s) (hP : va_P D vwCl (wM cI cZ a S) H) (hD : va_D A (wM cI cZ a S)) (hS : va_S A H0 H locs) {i x : Int32} {K : XS → Option ρ} (h : wrS 12 i (sU S 10 (upd (S 10) i.toNatClampNeg x)) K = some z) (hdg : decode cc pc = .ok (.iastore, 1)) (kk : ∀ (S1 : XS) (H1 : Heap) (locs1 : List Loc), K S1 = some z → va_P D vwCl (wM cI cZ a S1) H1 → va_D A (wM cI cZ a S1) → va_S A H0 H1 locs1 → W p l e R s m args below meth c H1 locs1 cells slots Q (F0 m (pc + 1) ls rest)) : W p l e R s m args below meth c H locs cells slots Q (F0 m pc ls (.int x :: .int i :: .ref (a 10) :: rest)) := k_st C hK hP hD hS 10 0 rfl rfl (wM cI cZ a) _ rfl h hdg kk
theorem gX1_far (C : CallFix p m c cc nL s args WW RX1) (hK : va_K D vwCl (tyIZ cI cZ) s) (hP : va_P D vwCl (wM cI cZ a S) H) (hdg : decode cc pc = .ok (.getfield 41, 3)) (kk : W p l e R s m args below meth c H locs cells slots Q (F0 m (pc + 3) ls (.ref (a 11) :: rest))) : W p l e R s m args below meth c H locs cells slots Q (F0 m pc ls (.ref (a 0) :: rest)) := va_get (ci := 1) (C := RX1) (T := TX1) (N := 13) C.1 C.2.1 C.2.2.2.2 inWX1 C.2.2.2.1 hK hP 0 rfl rfl 12 (by decide) (C.2.2.2.2 _ qF_X1_41) (fun _ h => h) rfl hdg kk
theorem lX1_far (C : CallFix p m c cc nL s args WW RX1) (hK : va_K D vwCl (tyIZ cI cZ) s) (hP : va_P D vwCl (wM cI cZ a S) H) {i : Int32} {K : Int32 → Option ρ} (h : (rdA (S 11) 12 i).bind K = some z) (hdg : decode cc pc = .ok (.iaload, 1)) (kk : K (S 11 i.toNatClampNeg) = some z → W p l e R s m args below meth c H locs cells slots Q (F0 m (pc + 1) ls (.int (S 11 i.toNatClampNeg) :: rest))) : W p l e R s m args below meth c H locs cells slots Q (F0 m pc ls (.int i :: .ref (a 11) :: rest)) := k_ld C hK hP 11 0 rfl rfl h hdg kk
theorem sX1_far (C : CallFix p m c cc nL s args WW RX1) (hK : va_K D vwCl (tyIZ cI cZ) s) (hP : va_P D vwCl (wM cI cZ a S) H) (hD : va_D A (wM cI cZ a S)) (hS : va_S A H0 H locs) {i x : Int32} {K : XS → Option ρ} (h : wrS 12 i (sU S 11 (upd (S 11) i.toNatClampNeg x)) K = some z) (hdg : decode cc pc = .ok (.iastore, 1)) (kk : ∀ (S1 : XS) (H1 : Heap) (locs1 : List Loc), K S1 = some z → va_P D vwCl (wM cI cZ a S1) H1 → va_D A (wM cI cZ a S1) → va_S A H0 H1 locs1 → W p l e R s m args below meth c H1 locs1 cells slots Q (F0 m (pc + 1) ls rest)) : W p l e R s m args below meth c H locs cells slots Q (F0 m pc ls (.int x :: .int i :: .ref (a 11) :: rest)) := k_st C hK hP hD hS 11 0 rfl rfl (wM cI cZ a) _ rfl h hdg kk
end WORLD
end
section
section TXR
def exN : Nat → String
  | 1 => "java/lang/IndexOutOfBoundsException"
  | 2 => "java/lang/IllegalStateException"
  | _ => "java/lang/IllegalArgumentException"
def exL : List String := ["java/lang/IndexOutOfBoundsException", "java/lang/IllegalStateException", "java/lang/IllegalArgumentException"]
def dcL : List MethodName := [⟨"java/lang/RuntimeException", "<init>", "(Ljava/lang/String;)V"⟩, ⟨"java/lang/Exception", "<init>", "(Ljava/lang/String;)V"⟩, ⟨"java/lang/Throwable", "<init>", "(Ljava/lang/String;)V"⟩]
def strL : List (Nat × String) := [(163, "no such axiom"), (63, "there are 12 lemmas"), (169, "no such lemma"), (71, "the lemma has 3 proofs"), (171, "no such proof"), (175, "no such kind"), (177, "a gap is 1 to 9"), (84, "the proof has 5 steps"), (173, "no such step"), (96, "a patch is 1 to 9"), (103, "nothing is open there"), (179, "nothing such is told")]
/-- what a throw asks of the state beside the good words -/
def excU (U : State) : Prop := vx_Zq Bundle.tN "UNASSIGNED_STACK" Bundle.steD (fun _ => False) U U.heap ∧ vx_Zq Bundle.tN "SUPPRESSED_SENTINEL" Bundle.listD (fun _ => False) U U.heap ∧ (∀ q ∈ strL, ∃ a, vk_R RX0 q.1 q.2 a U) ∧ (∀ E ∈ exL, va_Nw (.castable E E) U) ∧ (∀ y ∈ dcL, va_Nw (.declares y) U)
theorem excU_warm {s U : State} (hW : s.WarmedH U.vm) (hU : U.heap = s.heap) (h : excU s) : excU U := by
  obtain ⟨h1, h2, h3, h4, h5⟩ := h
  refine ⟨by rw [hU]; exact vx_Zq.moved hW.alike h1, by rw [hU]; exact vx_Zq.moved hW.alike h2, fun q hq => ?_, fun E hE => va_Nw.warmC hW (h4 E hE), fun y hy => va_Nw.warmD hW (h5 y hy)⟩
  obtain ⟨a, ha⟩ := h3 q hq
  exact ⟨a, vk_R.warm hW ha⟩
theorem excU_calling {U : State} {g : JFrame} {mk : MethodId} {a : Array Value} (h : excU U) : excU (U.calling g mk a) := by
  obtain ⟨h1, h2, h3, h4, h5⟩ := h
  refine ⟨vx_Zq.moved (u := U) (U := U.calling g mk a) (Vm.Alike.refl U.vm) h1, vx_Zq.moved (u := U) (U := U.calling g mk a) (Vm.Alike.refl U.vm) h2, fun q hq => ?_, fun E hE => va_Nw.same (u := U) (U := U.calling g mk a) rfl rfl (h4 E hE), fun y hy => va_Nw.same (u := U) (U := U.calling g mk a) rfl rfl (h5 y hy)⟩
  obtain ⟨b, hb⟩ := h3 q hq
  exact ⟨b, vk_R.same (u := U) (U := U.calling g mk a) rfl hb⟩
def txX {α : Type} (z : α ⊕ Nat) : String → State → State → Prop := match z with
  | .inl _ => fun _ _ _ => False
  | .inr e => fun E st t => E = exN e ∧ st.heap.size ≤ t.heap.size ∧ ∀ q, q < st.heap.size → t.heap[q]? = st.heap[q]?
def tqv (z : Int32 ⊕ Nat) : Array Value → State → Outcome → State → Prop := match z with
  | .inl _ => va_Sv (fun _ => True)
  | .inr _ => fun _ _ _ _ => False
def tqi (z : Int32 ⊕ Nat) : Array Value → State → Outcome → State → Prop := match z with
  | .inl v => vp_Si (fun r => r = v)
  | .inr _ => fun _ _ _ _ => False
def tqiW {σ : Type} (D : va_G) (w : σ → va_W) (A : Nat → Prop) (z : (Int32 × σ) ⊕ Nat) : Array Value → State → Outcome → State → Prop := match z with
  | .inl q => rwQi D (w q.2) q.1 A
  | .inr _ => fun _ _ _ _ => False
def nwl (E : String) : List Cond := [.castable E E, .declares ⟨"java/lang/RuntimeException", "<init>", "(Ljava/lang/String;)V"⟩, .declares ⟨"java/lang/Exception", "<init>", "(Ljava/lang/String;)V"⟩, .declares ⟨"java/lang/Throwable", "<init>", "(Ljava/lang/String;)V"⟩]
theorem nwl_h {E : String} {s : State} {args : Array Value} (hE : E ∈ exL) (h : excU s) : ∀ w ∈ nwl E, w.before args s = true := by
  obtain ⟨-, -, -, h4, h5⟩ := h
  intro w hw
  simp only [nwl, List.mem_cons, List.not_mem_nil, or_false] at hw
  rcases hw with rfl | rfl | rfl | rfl
  · exact va_Nw.use rfl (h4 E hE)
  · exact va_Nw.use rfl (h5 _ (List.mem_of_getElem? (i := 0) rfl))
  · exact va_Nw.use rfl (h5 _ (List.mem_of_getElem? (i := 1) rfl))
  · exact va_Nw.use rfl (h5 _ (List.mem_of_getElem? (i := 2) rfl))
variable {p : Program} {l : Launch} {e : Env} {R : Room} {s : State} {m : MethodId} {args : Array Value} {below : List Frame} {meth : Method} {c : Code} {H : Heap} {locs : List Loc} {Q : State → Prop}
variable {pc nL : Nat} {ls : Array Slot} {rest : List Value} {cc : ByteArray} {own : String} {D : va_G} {ws : va_W} {tys : List (ClassId × FieldType)} {A : Nat → Prop} {α : Type} {z : α ⊕ Nat} {Qc : Array Value → State → Outcome → State → Prop} {free : Addr → Prop} {mc ms : Nat}
theorem xat1 : ∀ w ∈ (vx_atS RX0 165 "java/lang/IndexOutOfBoundsException" ["java/lang/RuntimeException", "java/lang/Exception"]).filter goodWord, w ∈ lw_tbl := by decide +kernel
theorem xnw1 : ∀ w ∈ (vx_atS RX0 165 "java/lang/IndexOutOfBoundsException" ["java/lang/RuntimeException", "java/lang/Exception"]).filter (fun w => !goodWord w), w ∈ nwl "java/lang/IndexOutOfBoundsException" := by decide +kernel
theorem xgd1 : ∀ w ∈ Cond.classLink RX0 161 "java/lang/IndexOutOfBoundsException" :: Cond.initialized "java/lang/IndexOutOfBoundsException" :: vx_atS RX0 165 "java/lang/IndexOutOfBoundsException" ["java/lang/RuntimeException", "java/lang/Exception"], vx_ot w = true := by decide +kernel
theorem k_throw1 (C : CallFix p m c cc nL s args WW RX0) (hl : l.stackTraces = false) (hE : excU s) (hlocks : meth.locks = false) (hout : ∀ x ∈ c.exceptionTable.toList, False) (h : (some (.inr 1) : Option (α ⊕ Nat)) = some z) {is : Nat} {text : String} (hstr : (is, text) ∈ strL) (hsz : ls.size = nL)
    (hRf : 5 < R.frames) (hRl : (rest.map fun v => v.category).sum + 82 ≤ R.locals) (hRc : 1 ≤ R.cells) (hRs : 6 ≤ R.slots)
    (d0 : decode cc pc = .ok (.new 161, 3)) (d3 : decode cc (pc + 3) = .ok (.dup, 1)) (d4 : decode cc (pc + 4) = .ok (.ldc is, 2)) (d6 : decode cc (pc + 6) = .ok (.invokespecial 165, 3)) (d9 : decode cc (pc + 9) = .ok (.athrow, 1)) :
    W p l e R s m args below meth c s.heap [] 0 0 (tx_MQ below Qc (txX z) args s 1 6 free) (F0 m pc ls rest) := by
  cases h
  obtain ⟨sa, hsa⟩ := hE.2.2.1 _ hstr
  have hin : exN 1 ∈ exL := List.mem_of_getElem? (i := 0) rfl
  refine tx_thr (vx_throwS (cls := "java/lang/IndexOutOfBoundsException") (text := text) (names := ["java/lang/RuntimeException", "java/lang/Exception"]) (ik := 161) (is := is) (ic := 165) (sa := sa) (A := fun _ => False) C.1 C.2.1 hl C.2.2.2.1 (by decide +kernel) (by decide +kernel) (C.2.2.2.2 _ qK_X0_161) (C.2.2.2.2 _ qN_IndexOutOfBoundsException) hsa (vx_hat (fun w hw => C.2.2.2.2 w (WW_flt xat1 w hw)) xnw1 (nwl_h hin hE)) xgd1 hE.1 hE.2.1 va_S.rf (hsz.trans C.2.2.1.symm) d0 d3 d4 d6 d9 (fun x hx => (hout x hx).elim) hRf hRl (by omega) (by omega) hlocks (fun t ht h1 h2 => ⟨rfl, h1, h2⟩) (fun q hq => absurd hq List.not_mem_nil) (Nat.le_refl _) (Nat.le_refl _))
theorem xat2 : ∀ w ∈ (vx_atS RX0 65 "java/lang/IllegalStateException" ["java/lang/RuntimeException", "java/lang/Exception"]).filter goodWord, w ∈ lw_tbl := by decide +kernel
theorem xnw2 : ∀ w ∈ (vx_atS RX0 65 "java/lang/IllegalStateException" ["java/lang/RuntimeException", "java/lang/Exception"]).filter (fun w => !goodWord w), w ∈ nwl "java/lang/IllegalStateException" := by decide +kernel
theorem xgd2 : ∀ w ∈ Cond.classLink RX0 61 "java/lang/IllegalStateException" :: Cond.initialized "java/lang/IllegalStateException" :: vx_atS RX0 65 "java/lang/IllegalStateException" ["java/lang/RuntimeException", "java/lang/Exception"], vx_ot w = true := by decide +kernel
theorem k_throw2 (C : CallFix p m c cc nL s args WW RX0) (hl : l.stackTraces = false) (hE : excU s) (hlocks : meth.locks = false) (hout : ∀ x ∈ c.exceptionTable.toList, False) (h : (some (.inr 2) : Option (α ⊕ Nat)) = some z) {is : Nat} {text : String} (hstr : (is, text) ∈ strL) (hsz : ls.size = nL)
    (hRf : 5 < R.frames) (hRl : (rest.map fun v => v.category).sum + 82 ≤ R.locals) (hRc : 1 ≤ R.cells) (hRs : 6 ≤ R.slots)
    (d0 : decode cc pc = .ok (.new 61, 3)) (d3 : decode cc (pc + 3) = .ok (.dup, 1)) (d4 : decode cc (pc + 4) = .ok (.ldc is, 2)) (d6 : decode cc (pc + 6) = .ok (.invokespecial 65, 3)) (d9 : decode cc (pc + 9) = .ok (.athrow, 1)) :
    W p l e R s m args below meth c s.heap [] 0 0 (tx_MQ below Qc (txX z) args s 1 6 free) (F0 m pc ls rest) := by
  cases h
  obtain ⟨sa, hsa⟩ := hE.2.2.1 _ hstr
  have hin : exN 2 ∈ exL := List.mem_of_getElem? (i := 1) rfl
  refine tx_thr (vx_throwS (cls := "java/lang/IllegalStateException") (text := text) (names := ["java/lang/RuntimeException", "java/lang/Exception"]) (ik := 61) (is := is) (ic := 65) (sa := sa) (A := fun _ => False) C.1 C.2.1 hl C.2.2.2.1 (by decide +kernel) (by decide +kernel) (C.2.2.2.2 _ qK_X0_61) (C.2.2.2.2 _ qN_IllegalStateException) hsa (vx_hat (fun w hw => C.2.2.2.2 w (WW_flt xat2 w hw)) xnw2 (nwl_h hin hE)) xgd2 hE.1 hE.2.1 va_S.rf (hsz.trans C.2.2.1.symm) d0 d3 d4 d6 d9 (fun x hx => (hout x hx).elim) hRf hRl (by omega) (by omega) hlocks (fun t ht h1 h2 => ⟨rfl, h1, h2⟩) (fun q hq => absurd hq List.not_mem_nil) (Nat.le_refl _) (Nat.le_refl _))
theorem xat3 : ∀ w ∈ (vx_atS RX0 98 "java/lang/IllegalArgumentException" ["java/lang/RuntimeException", "java/lang/Exception"]).filter goodWord, w ∈ lw_tbl := by decide +kernel
theorem xnw3 : ∀ w ∈ (vx_atS RX0 98 "java/lang/IllegalArgumentException" ["java/lang/RuntimeException", "java/lang/Exception"]).filter (fun w => !goodWord w), w ∈ nwl "java/lang/IllegalArgumentException" := by decide +kernel
theorem xgd3 : ∀ w ∈ Cond.classLink RX0 94 "java/lang/IllegalArgumentException" :: Cond.initialized "java/lang/IllegalArgumentException" :: vx_atS RX0 98 "java/lang/IllegalArgumentException" ["java/lang/RuntimeException", "java/lang/Exception"], vx_ot w = true := by decide +kernel
theorem k_throw3 (C : CallFix p m c cc nL s args WW RX0) (hl : l.stackTraces = false) (hE : excU s) (hlocks : meth.locks = false) (hout : ∀ x ∈ c.exceptionTable.toList, False) (h : (some (.inr 3) : Option (α ⊕ Nat)) = some z) {is : Nat} {text : String} (hstr : (is, text) ∈ strL) (hsz : ls.size = nL)
    (hRf : 5 < R.frames) (hRl : (rest.map fun v => v.category).sum + 82 ≤ R.locals) (hRc : 1 ≤ R.cells) (hRs : 6 ≤ R.slots)
    (d0 : decode cc pc = .ok (.new 94, 3)) (d3 : decode cc (pc + 3) = .ok (.dup, 1)) (d4 : decode cc (pc + 4) = .ok (.ldc is, 2)) (d6 : decode cc (pc + 6) = .ok (.invokespecial 98, 3)) (d9 : decode cc (pc + 9) = .ok (.athrow, 1)) :
    W p l e R s m args below meth c s.heap [] 0 0 (tx_MQ below Qc (txX z) args s 1 6 free) (F0 m pc ls rest) := by
  cases h
  obtain ⟨sa, hsa⟩ := hE.2.2.1 _ hstr
  have hin : exN 3 ∈ exL := List.mem_of_getElem? (i := 2) rfl
  refine tx_thr (vx_throwS (cls := "java/lang/IllegalArgumentException") (text := text) (names := ["java/lang/RuntimeException", "java/lang/Exception"]) (ik := 94) (is := is) (ic := 98) (sa := sa) (A := fun _ => False) C.1 C.2.1 hl C.2.2.2.1 (by decide +kernel) (by decide +kernel) (C.2.2.2.2 _ qK_X0_94) (C.2.2.2.2 _ qN_IllegalArgumentException) hsa (vx_hat (fun w hw => C.2.2.2.2 w (WW_flt xat3 w hw)) xnw3 (nwl_h hin hE)) xgd3 hE.1 hE.2.1 va_S.rf (hsz.trans C.2.2.1.symm) d0 d3 d4 d6 d9 (fun x hx => (hout x hx).elim) hRf hRl (by omega) (by omega) hlocks (fun t ht h1 h2 => ⟨rfl, h1, h2⟩) (fun q hq => absurd hq List.not_mem_nil) (Nat.le_refl _) (Nat.le_refl _))
theorem k_txV (C : CallFix p m c cc nL s args WW own) (hE : excU s) (hlocks : meth.locks = false) (hout : ∀ x ∈ c.exceptionTable.toList, False) {CL : String} {idx n mL a0 : Nat} {y : MethodName} {b : ByteArray} {ret : Option FieldType} {rm : Room} (hK : va_K D vwCl tys s) (hP : va_P D vwCl ws s.heap) (hrv : ∃ cellB : Cell, s.heap[a0]? = some cellB ∧ cellB.vm.isStatics = false ∧ s.vm.findClass CL = some cellB.cls) (As : List Value) {f : Option (Int32 ⊕ Nat)} {K : Int32 → Option (α ⊕ Nat)} (h : tb f K = some z)
    (hM : ∀ o, f = some o → tx_Met l y (Cond.code y b mL ret :: WW) rm (va_Pc (.ref a0 :: As) (fun U => roP D ws tys U ∧ excU U)) (tqv o) (txX o) 1 6 (fun _ => False))
    (cw : CallW R s args own CL idx y b mL ret (Cond.code y b mL ret :: WW) rm 1 6 n) (hn : As.length = n) (hls : ls.size = nL) (hst : (rest.map fun v => v.category).sum ≤ 8) (hf : 0 + 1 ≤ R.cells ∧ 0 + 6 ≤ R.slots) (hdg : decode cc pc = .ok (.invokevirtual idx, 3)) {st : List Value} (hstk : st = As.reverse ++ .ref a0 :: rest)
    (kk : ∀ v, f = some (.inl v) → K v = some z → W p l e R s m args below meth c s.heap [] 0 0 (tx_MQ below Qc (txX z) args s 1 6 free) (F0 m (pc + 3) ls rest)) : W p l e R s m args below meth c s.heap [] 0 0 (tx_MQ below Qc (txX z) args s 1 6 free) (F0 m pc ls st) := by
  rcases tb_h h with ⟨v, e1, e2⟩ | ⟨e', e1, rfl⟩
  · intro T hT X
    rcases tx_runV (As := As) (rest := rest) C (hM _ e1) cw ⟨(fun a U g mk q => ⟨q.1, ⟨q.2.1.1, va_K.moved (u := U) (U := U.calling g mk a) (Vm.Alike.refl U.vm) q.2.1.2⟩, excU_calling q.2.2⟩), hrv, fun U hU hW => ⟨rfl, ⟨by rw [hU]; exact hP, hK.moved hW.alike⟩, excU_warm hW hU hE⟩⟩ rfl hn hls hstk (lv_room hst) hdg hf T hT X with ⟨v', st₀, t, T', L, h0, X', hL, e3, e4, hq, st⟩ | ⟨q, st₀, t, T', L, E, ce, h0, X', hL, e3, e4, hx, -⟩
    · obtain ⟨hv, -, hh⟩ := hq
      cases hv
      obtain ⟨t2, a1, b1⟩ := kk v e1 e2 T' (by rw [e3, hh, h0]) (Stand.forget X' (fun q h => (hL q h).elim))
      exact ⟨t2, st t2 a1, b1⟩
    · exact hx.elim
  · intro T hT X
    rcases tx_runV (As := As) (rest := rest) C (hM _ e1) cw ⟨(fun a U g mk q => ⟨q.1, ⟨q.2.1.1, va_K.moved (u := U) (U := U.calling g mk a) (Vm.Alike.refl U.vm) q.2.1.2⟩, excU_calling q.2.2⟩), hrv, fun U hU hW => ⟨rfl, ⟨by rw [hU]; exact hP, hK.moved hW.alike⟩, excU_warm hW hU hE⟩⟩ rfl hn hls hstk (lv_room hst) hdg hf T hT X with ⟨v', st₀, t, T', L, h0, X', hL, e3, e4, hq, st⟩ | ⟨q, st₀, t, T', L, E, ce, h0, X', hL, e3, e4, hx, hce, hcv, hcl, st⟩
    · exact hq.elim
    · obtain ⟨x1, x2, x3⟩ := hx
      rw [h0] at x2 x3
      obtain ⟨t2, a1, b1⟩ := tx_thrW (Qc := Qc) (vx_out (XC := txX (.inr e' : α ⊕ Nat)) (mc := 1) (ms := 6) (free := free) (fun x hx => (hout x hx).elim) hlocks (by rw [e3]; exact hce) hcv hcl (fun t' ht' _ => ⟨x1, by rw [ht', e3]; exact x2, fun q hq => by rw [ht', e3]; exact x3 q hq⟩) (fun q hq => (hL q (by simpa using hq)).elim) (Nat.le_refl _) (Nat.le_refl _)) T' rfl X'
      exact ⟨t2, st.trans a1, b1⟩
theorem k_txS (C : CallFix p m c cc nL s args WW own) (hE : excU s) (hlocks : meth.locks = false) (hout : ∀ x ∈ c.exceptionTable.toList, False) {CL : String} {idx n mL a0 : Nat} {y : MethodName} {b : ByteArray} {ret : Option FieldType} {rm : Room} (As : List Value) {f : Option (Int32 ⊕ Nat)} {K : Int32 → Option (α ⊕ Nat)} (h : tb f K = some z)
    (hM : ∀ o, f = some o → tx_Met l y (Cond.code y b mL ret :: WW) rm (va_Pc As excU) (tqv o) (txX o) 1 6 (fun _ => False))
    (cw : CallB R s args own idx y b mL ret (Cond.code y b mL ret :: WW) rm 1 6 n ∧ (Cond.static y).before args s = true) (hn : As.length = n) (hls : ls.size = nL) (hst : (rest.map fun v => v.category).sum ≤ 8) (hf : 0 + 1 ≤ R.cells ∧ 0 + 6 ≤ R.slots) (hdg : decode cc pc = .ok (.invokestatic idx, 3)) {st : List Value} (hstk : st = As.reverse ++ rest)
    (kk : ∀ v, f = some (.inl v) → K v = some z → W p l e R s m args below meth c s.heap [] 0 0 (tx_MQ below Qc (txX z) args s 1 6 free) (F0 m (pc + 3) ls rest)) : W p l e R s m args below meth c s.heap [] 0 0 (tx_MQ below Qc (txX z) args s 1 6 free) (F0 m pc ls st) := by
  rcases tb_h h with ⟨v, e1, e2⟩ | ⟨e', e1, rfl⟩
  · intro T hT X
    rcases tx_runS (As := As) (rest := rest) C (hM _ e1) cw ⟨(fun a U g mk q => ⟨q.1, excU_calling q.2⟩), fun U hU hW => ⟨rfl, excU_warm hW hU hE⟩⟩ rfl hn hls hstk (lv_room hst) hdg hf T hT X with ⟨v', st₀, t, T', L, h0, X', hL, e3, e4, hq, st⟩ | ⟨q, st₀, t, T', L, E, ce, h0, X', hL, e3, e4, hx, -⟩
    · obtain ⟨hv, -, hh⟩ := hq
      cases hv
      obtain ⟨t2, a1, b1⟩ := kk v e1 e2 T' (by rw [e3, hh, h0]) (Stand.forget X' (fun q h => (hL q h).elim))
      exact ⟨t2, st t2 a1, b1⟩
    · exact hx.elim
  · intro T hT X
    rcases tx_runS (As := As) (rest := rest) C (hM _ e1) cw ⟨(fun a U g mk q => ⟨q.1, excU_calling q.2⟩), fun U hU hW => ⟨rfl, excU_warm hW hU hE⟩⟩ rfl hn hls hstk (lv_room hst) hdg hf T hT X with ⟨v', st₀, t, T', L, h0, X', hL, e3, e4, hq, st⟩ | ⟨q, st₀, t, T', L, E, ce, h0, X', hL, e3, e4, hx, hce, hcv, hcl, st⟩
    · exact hq.elim
    · obtain ⟨x1, x2, x3⟩ := hx
      rw [h0] at x2 x3
      obtain ⟨t2, a1, b1⟩ := tx_thrW (Qc := Qc) (vx_out (XC := txX (.inr e' : α ⊕ Nat)) (mc := 1) (ms := 6) (free := free) (fun x hx => (hout x hx).elim) hlocks (by rw [e3]; exact hce) hcv hcl (fun t' ht' _ => ⟨x1, by rw [ht', e3]; exact x2, fun q hq => by rw [ht', e3]; exact x3 q hq⟩) (fun q hq => (hL q (by simpa using hq)).elim) (Nat.le_refl _) (Nat.le_refl _)) T' rfl X'
      exact ⟨t2, st.trans a1, b1⟩
theorem TX_of {y : MethodName} {b : ByteArray} {mL : Nat} {ret : Option FieldType} {rm : Room} {av : List Value} {Pre : State → Prop} {XC : String → State → State → Prop} (hy : plainName y.cls = true) (ho : y.cls = own) (hn : (lg_sl av).length ≤ mL)
    (body : ∀ p e s m args below meth c, args = av.toArray → CallFix p m c b mL s args WW own → meth.sig.returnType = ret → meth.locks = false → (∀ x ∈ c.exceptionTable.toList, False) → Pre s → ∀ ls : Array Slot, lv_has ls mL (lv_args 0 av) →
      W p l e rm s m args below meth c s.heap [] 0 0 (tx_MQ below Qc XC args s mc ms free) (F0 m 0 ls [])) : tx_Met l y (Cond.code y b mL ret :: WW) rm (va_Pc av Pre) Qc XC mc ms free := by
  refine tx_ofW (cc := b) (maxL := mL) (ret := ret) hy rfl ?_
  intro p e s m args below meth c s₁ B hml ht hv
  obtain ⟨rfl, hp⟩ := hv
  have hts := atoms_spec (ws := Cond.code y b mL ret :: WW) B.pre
  have hl := lv_entry av hn
  rw [lg_entry_eq]
  exact body p e s m _ below meth c rfl ⟨B.exec, B.bytes, hml, ho ▸ findClass_of_methodNamed B.named, fun w h => hts w (List.mem_cons_of_mem _ h)⟩ B.returns B.notSynchronized ht hp _ hl
/-- a method that throws before it writes -/
theorem TXW_of {y : MethodName} {b : ByteArray} {mL : Nat} {ret : Option FieldType} {rm : Room} {av : List Value} {sz : Nat} {QF : (Nat → Prop) → Array Value → State → Outcome → State → Prop} {XC : String → State → State → Prop} (hy : plainName y.cls = true) (ho : y.cls = own) (hn : (lg_sl av).length ≤ mL)
    (body : ∀ p e s m args below meth c A, args = av.toArray → CallFix p m c b mL s args WW own → meth.sig.returnType = ret → meth.locks = false → (∀ x ∈ c.exceptionTable.toList, False) → va_P D vwCl ws s.heap → va_K D vwCl tys s → va_D A ws → (∀ q, s.heap.size ≤ q → A q) → excU s → ∀ ls : Array Slot, lv_has ls mL (lv_args 0 av) →
      W p l e rm s m args below meth c s.heap [] 0 0 (tx_MQ below (QF A) XC args s mc ms A) (F0 m 0 ls [])) : tx_Met l y (Cond.code y b mL ret :: WW) rm (va_Pc av (fun U => rwP D ws tys sz U ∧ excU U)) (QF (va_A ws sz)) XC mc ms (va_A ws sz) := by
  refine TX_of hy ho hn ?_
  intro p e s m args below meth c ha C hr hlk hout hpre ls hl
  obtain ⟨⟨hsz, hP, hK, hD0⟩, hE⟩ := hpre
  subst hsz
  exact body p e s m args below meth c _ ha C hr hlk hout hP hK hD0.self (fun q h => Or.inr h) hE ls hl
theorem k_iretT (C : CallFix p m c cc nL s args WW own) (hr : meth.sig.returnType = some .int) (hlocks : meth.locks = false) {v : Int32} {z : Int32 ⊕ Nat} (h : some (.inl v) = some z) (hdg : decode cc pc = .ok (.ireturn, 1)) :
    W p l e R s m args below meth c s.heap [] 0 0 (tx_MQ below (tqi z) (txX z) args s mc ms free) (F0 m pc ls [.int v]) := by
  cases h
  exact tx_ret (W.iret (v := v) C.1 C.2.1 hr (fun t ht _ => ⟨v, rfl, rfl, ht⟩) (fun q hq => absurd hq List.not_mem_nil) hdg hlocks)
theorem k_vretT (C : CallFix p m c cc nL s args WW own) (hr : meth.sig.returnType = none) (hlocks : meth.locks = false) {v : Int32} {z : Int32 ⊕ Nat} (h : some (.inl v) = some z) (hdg : decode cc pc = .ok (.return_, 1)) :
    W p l e R s m args below meth c s.heap [] 0 0 (tx_MQ below (tqv z) (txX z) args s mc ms free) (F0 m pc ls []) := by
  cases h
  exact tx_ret (W.vret C.1 C.2.1 hr (fun t ht _ => ⟨rfl, trivial, ht⟩) (fun q hq => absurd hq List.not_mem_nil) hdg hlocks)
theorem k_iretTW (C : CallFix p m c cc nL s args WW own) (hr : meth.sig.returnType = some .int) (hlocks : meth.locks = false) {σ : Type} {w : σ → va_W} {v : Int32} {S1 : σ} {z : (Int32 × σ) ⊕ Nat} (h : some (.inl (v, S1)) = some z) (hP : va_P D vwCl (w S1) H) (hS : va_S A s.heap H locs) (hdg : decode cc pc = .ok (.ireturn, 1)) :
    W p l e R s m args below meth c H locs 0 0 (tx_MQ below (tqiW D w A z) (txX z) args s mc ms A) (F0 m pc ls [.int v]) := by
  cases h
  exact tx_ret (W.iret (v := v) C.1 C.2.1 hr (fun t ht _ => ⟨⟨v, (), rfl, rfl, (show va_P D vwCl (w S1) t.heap by rw [ht]; exact hP)⟩, hS.F ht⟩) hS.2.2 hdg hlocks)
theorem k_zretTW (C : CallFix p m c cc nL s args WW own) (hr : meth.sig.returnType = some .boolean) (hlocks : meth.locks = false) {σ : Type} {w : σ → va_W} {v : Int32} {S1 : σ} {z : (Int32 × σ) ⊕ Nat} (h : gz v (some (.inl (v, S1))) = some z) (hP : va_P D vwCl (w S1) H) (hS : va_S A s.heap H locs) (hdg : decode cc pc = .ok (.ireturn, 1)) :
    W p l e R s m args below meth c H locs 0 0 (tx_MQ below (tqiW D w A z) (txX z) args s mc ms A) (F0 m pc ls [.int v]) := by
  obtain ⟨g, h⟩ := gz_h h
  cases h
  exact tx_ret (W.zret (v := v) C.1 C.2.1 hr (by show Value.int (v &&& 1) = _; rw [g]) (fun t ht _ => ⟨⟨v, (), rfl, rfl, (show va_P D vwCl (w S1) t.heap by rw [ht]; exact hP)⟩, hS.F ht⟩) hS.2.2 hdg hlocks)
theorem sw_ne {x k : Int32} {j : Int} (h : ¬ x = k) (e : k.toInt = j) : x.toInt ≠ j := fun q => h (Int32.toInt_inj.mp (q.trans e.symm))
end TXR
end
section
section MIR
def FUEL : Nat := 300000
def lmax (x y : Int32) : Int32 := if x < y then y else x
def ffill (n : Nat) (v : Int32) (f : Nat → Int32) : Nat → Int32 := fun j => if j < n then v else f j
def dvD (x y : UInt64) : Option UInt64 := if (FP.ddiv x y) &&& 0x7fffffffffffffff ≤ 0x7ff0000000000000 then some (FP.ddiv x y) else none
def cpI {σ ρ : Type} (n : Nat) (sp dp len : Int32) (f : Nat → Int32) (u : (Nat → Int32) → σ) (K : σ → Option ρ) : Option ρ := if sp < 0 ∨ dp < 0 ∨ len < 0 ∨ n < sp.toNatClampNeg + len.toNatClampNeg ∨ n < dp.toNatClampNeg + len.toNatClampNeg then none else K (u (va_cpy f f sp.toNatClampNeg dp.toNatClampNeg len.toNatClampNeg))
def cpZ {σ ρ : Type} (n : Nat) (sp dp len : Int32) (f : Nat → Int32) (u : (Nat → Int32) → σ) (K : σ → Option ρ) : Option ρ := if ((List.range len.toNatClampNeg).all fun i => f (sp.toNatClampNeg + i) == 0 || f (sp.toNatClampNeg + i) == 1) = true then cpI n sp dp len f u K else none
def mX_slotOf (v0 : Int32) (v1 : Int32) : Option Int32 :=
  some ((v0 * 3) + v1)
def mX_firstStepOf (v0 : Int32) : Option Int32 :=
  some (v0 * 5)
def mX_stepAt (v0 : Int32) (v1 : Int32) (v2 : Int32) : Option Int32 :=
  (mX_slotOf v0 v1).bind fun x2 =>
  (mX_firstStepOf x2).bind fun x5 =>
  some (x5 + v2)
def mX_endOfSteps (S : XS) (v1 : Int32) : Option Int32 :=
  (rdA (S 3) 36 v1).bind fun x8 =>
  some ((v1 * 5) + x8)
def mX_isWhole_F5 (S : XS) (v1 : Int32) (ih : Int32 → Option Int32) (v2 : Int32) : Option Int32 :=
  (mX_endOfSteps S v1).bind fun x8 =>
  (if (x8 : Int32) ≤ v2 then
  (rdA (S 3) 36 v1).bind fun x36 =>
  (if (x36 : Int32) ≤ 0 then
  gz 0 (some 0)
  else
  gz 1 (some 1))
  else
  (rdA (S 7) 180 v2).bind fun x19 =>
  (if (x19 : Int32) = 0 then
  ih (v2 + 1)
  else
  gz 0 (some 0)))
def mX_isWhole (S : XS) (v1 : Int32) : Option Int32 :=
  (mX_firstStepOf v1).bind fun x1 =>
  itr1 (mX_isWhole_F5 S v1) FUEL x1
def mX_isAxiom (v0 : Int32) : Option Int32 :=
  (if (v0 : Int32) < 0 then
  gz 0 (some 0)
  else
  (if (5 : Int32) ≤ v0 then
  gz 0 (some 0)
  else
  gz 1 (some 1)))
def mX_isLemma (S : XS) (v1 : Int32) : Option Int32 :=
  (if (v1 : Int32) < 0 then
  gz 0 (some 0)
  else
  (if ((S 14 0) : Int32) ≤ v1 then
  gz 0 (some 0)
  else
  gz 1 (some 1)))
def mX_stepHolds (S : XS) (v1 : Int32) (r2 : Nat) (v3 : Int32) : Option Int32 :=
  (rdA (S 5) 180 v1).bind fun x5 =>
  (rdA (S 4) 180 v1).bind fun x13 =>
  (if (x13 : Int32) = 0 then
  (mX_isAxiom x5).bind fun x19 =>
  (if (x19 : Int32) = 0 then
  gz 0 (some 0)
  else
  (rdA (S 1) 5 x5).bind fun x31 =>
  (if (x31 : Int32) = 0 then
  gz 0 (some 0)
  else
  gz 1 (some 1)))
  else
  (rdA (S 4) 180 v1).bind fun x46 =>
  (if (x46 : Int32) = 1 then
  (mX_isLemma S x5).bind fun x54 =>
  (if (x54 : Int32) = 0 then
  gz 0 (some 0)
  else
  (rdA (S r2) 12 x5).bind fun x63 =>
  (if (x63 : Int32) ≤ 0 then
  gz 0 (some 0)
  else
  (rdA (S r2) 12 x5).bind fun x70 =>
  (if (v3 : Int32) ≤ x70 then
  gz 0 (some 0)
  else
  gz 1 (some 1))))
  else
  (rdA (S 6) 180 v1).bind fun x86 =>
  (if (x86 : Int32) = 0 then
  gz 1 (some 1)
  else
  gz 0 (some 0))))
def mX_holds_F16 (S : XS) (r2 : Nat) (v1 : Int32) (v3 : Int32) (ih : Int32 → Option Int32) (v4 : Int32) : Option Int32 :=
  (mX_endOfSteps S v1).bind fun x20 =>
  (if (x20 : Int32) ≤ v4 then
  gz 1 (some 1)
  else
  (mX_stepHolds S v4 r2 v3).bind fun x31 =>
  (if (x31 : Int32) = 0 then
  gz 0 (some 0)
  else
  ih (v4 + 1)))
def mX_holds (S : XS) (v1 : Int32) (r2 : Nat) (v3 : Int32) : Option Int32 :=
  (mX_isWhole S v1).bind fun x2 =>
  (if (x2 : Int32) = 0 then
  gz 0 (some 0)
  else
  (mX_firstStepOf v1).bind fun x11 =>
  itr1 (mX_holds_F16 S r2 v1 v3) FUEL x11)
def mX_hasProofAt_F3 (S : XS) (r2 : Nat) (v1 : Int32) (v3 : Int32) (ih : Int32 → Option Int32) (v4 : Int32) : Option Int32 :=
  (rdA (S 2) 12 v1).bind fun x10 =>
  (if (x10 : Int32) ≤ v4 then
  gz 0 (some 0)
  else
  (mX_slotOf v1 v4).bind fun x18 =>
  (mX_holds S x18 r2 v3).bind fun x23 =>
  (if (x23 : Int32) = 0 then
  ih (v4 + 1)
  else
  gz 1 (some 1)))
def mX_hasProofAt (S : XS) (v1 : Int32) (r2 : Nat) (v3 : Int32) : Option Int32 :=
  itr1 (mX_hasProofAt_F3 S r2 v1 v3) FUEL 0
def mX_prove_F25 (r1 : Nat) (k : XS → Int32 → Int32 → Option (Int32 × XS)) (v2 : Int32) (v4 : Int32) (v5 : Int32) (ih : XS → Int32 → Int32 → Option (Int32 × XS)) (S : XS) (v3 : Int32) (v6 : Int32) : Option (Int32 × XS) :=
  (if ((S 14 0) : Int32) ≤ v6 then
  (if (v3 : Int32) = v5 then
  some (v3, S)
  else
  k S v3 (v4 + 1))
  else
  (if (v6 : Int32) = v2 then
  ih S v3 (v6 + 1)
  else
  (rdA (S r1) 12 v6).bind fun x43 =>
  (if (x43 : Int32) = 0 then
  (mX_hasProofAt S v6 r1 v4).bind fun x53 =>
  (if (x53 : Int32) = 0 then
  ih S v3 (v6 + 1)
  else
  wrS 12 v6 (sU S r1 (upd (S r1) (v6 : Int32).toNatClampNeg v4)) fun S64 =>
  ih S64 (v3 + 1) (v6 + 1))
  else
  ih S v3 (v6 + 1))))
def mX_prove_F10 (r1 : Nat) (v2 : Int32) (ih : XS → Int32 → Int32 → Option (Int32 × XS)) (S : XS) (v3 : Int32) (v4 : Int32) : Option (Int32 × XS) :=
  (if ((S 14 0) : Int32) < v4 then
  some (v3, S)
  else
  itr3 (mX_prove_F25 r1 ih v2 v4 v3) FUEL S v3 0)
def mX_prove (S : XS) (r1 : Nat) (v2 : Int32) : Option (Int32 × XS) :=
  stS (sU S r1 (ffill 12 0 (S r1))) fun S2 =>
  itr3 (mX_prove_F10 r1 v2) FUEL S2 0 1
def mX_provedIfClosed (S : XS) (v1 : Int32) : Option (Int32 × XS) :=
  (rdA (S 6) 180 v1).bind fun x5 =>
  (if (x5 : Int32) = 0 then
  some ((S 15 0), S)
  else
  wrS 180 v1 (sU S 6 (upd (S 6) (v1 : Int32).toNatClampNeg 0)) fun S22 =>
  rb (mX_prove S22 13 (-1)) fun x29 S29 =>
  wrS 180 v1 (sU S29 6 (upd (S29 6) (v1 : Int32).toNatClampNeg x5)) fun S39 =>
  some (x29, S39))
def mX_advise_F34 (k : XS → Int32 → Int32 → Int32 → Option (Int32 × XS)) (v3 : Int32) (v4 : Int32) (ih : XS → Int32 → Int32 → Int32 → Option (Int32 × XS)) (S : XS) (v1 : Int32) (v2 : Int32) (v5 : Int32) : Option (Int32 × XS) :=
  (mX_slotOf v3 v4).bind fun x43 =>
  (rdA (S 3) 36 x43).bind fun x46 =>
  (if (x46 : Int32) ≤ v5 then
  k S v1 v2 (v4 + 1)
  else
  (mX_stepAt v3 v4 v5).bind fun x56 =>
  rb (mX_provedIfClosed S x56) fun x59 S59 =>
  (if (x59 : Int32) ≤ v2 then
  ih S59 v1 v2 (v5 + 1)
  else
  ih S59 (((100 * v3) + (10 * v4)) + v5) x59 (v5 + 1)))
def mX_advise_F20 (k : XS → Int32 → Int32 → Int32 → Option (Int32 × XS)) (v3 : Int32) (ih : XS → Int32 → Int32 → Int32 → Option (Int32 × XS)) (S : XS) (v1 : Int32) (v2 : Int32) (v4 : Int32) : Option (Int32 × XS) :=
  (rdA (S 2) 12 v3).bind fun x27 =>
  (if (x27 : Int32) ≤ v4 then
  k S v1 v2 (v3 + 1)
  else
  itr4 (mX_advise_F34 ih v3 v4) FUEL S v1 v2 0)
def mX_advise_F9 (ih : XS → Int32 → Int32 → Int32 → Option (Int32 × XS)) (S : XS) (v1 : Int32) (v2 : Int32) (v3 : Int32) : Option (Int32 × XS) :=
  (if ((S 14 0) : Int32) ≤ v3 then
  some (v1, S)
  else
  itr4 (mX_advise_F20 ih v3) FUEL S v1 v2 0)
def mX_advise (S : XS) : Option (Int32 × XS) :=
  itr4 (mX_advise_F9) FUEL S (-1) (S 15 0) 0
def mX_stepsOf_F4 (S : XS) (v1 : Int32) (ih : Int32 → Int32 → Option Int32) (v2 : Int32) (v3 : Int32) : Option Int32 :=
  (rdA (S 2) 12 v1).bind fun x10 =>
  (if (x10 : Int32) ≤ v3 then
  some v2
  else
  (mX_slotOf v1 v3).bind fun x21 =>
  (rdA (S 3) 36 x21).bind fun x24 =>
  ih (v2 + x24) (v3 + 1))
def mX_stepsOf (S : XS) (v1 : Int32) : Option Int32 :=
  itr2 (mX_stepsOf_F4 S v1) FUEL 0 0
def mX_orNone (v0 : Int32) : Option Int32 :=
  (if (v0 : Int32) < 9999 then
  some v0
  else
  some (-1))
def mX_openOf_F28 (S : XS) (k : Int32 → Int32 → Option Int32) (v1 : Int32) (v3 : Int32) (v4 : Int32) (ih : Int32 → Int32 → Option Int32) (v2 : Int32) (v5 : Int32) : Option Int32 :=
  (mX_endOfSteps S v4).bind fun x33 =>
  (if (x33 : Int32) ≤ v5 then
  k v2 (v3 + 1)
  else
  (rdA (S 6) 180 v5).bind fun x46 =>
  ih (v2 + x46) (v5 + 1))
def mX_openOf_F4 (S : XS) (v1 : Int32) (ih : Int32 → Int32 → Option Int32) (v2 : Int32) (v3 : Int32) : Option Int32 :=
  (rdA (S 2) 12 v1).bind fun x10 =>
  (if (x10 : Int32) ≤ v3 then
  some v2
  else
  (mX_slotOf v1 v3).bind fun x16 =>
  (mX_firstStepOf x16).bind fun x23 =>
  itr2 (mX_openOf_F28 S ih v1 v3 x16) FUEL v2 x23)
def mX_openOf (S : XS) (v1 : Int32) : Option Int32 :=
  itr2 (mX_openOf_F4 S v1) FUEL 0 0
def mX_lemmaTells (S : XS) (v1 : Int32) (v2 : Int32) : Option Int32 :=
  (if (v2 : Int32) = 0 then
  (rdA (S 2) 12 v1).bind fun x45 =>
  some x45
  else
  if (v2 : Int32) = 1 then
  (mX_stepsOf S v1).bind fun x49 =>
  some x49
  else
  if (v2 : Int32) = 2 then
  (rdA (S 8) 12 v1).bind fun x58 =>
  some x58
  else
  if (v2 : Int32) = 3 then
  (rdA (S 9) 12 v1).bind fun x65 =>
  (mX_orNone x65).bind fun x66 =>
  some x66
  else
  if (v2 : Int32) = 4 then
  (rdA (S 10) 12 v1).bind fun x75 =>
  (mX_orNone x75).bind fun x76 =>
  some x76
  else
  if (v2 : Int32) = 5 then
  (mX_openOf S v1).bind fun x82 =>
  some x82
  else
  (rdA (S 12) 12 v1).bind fun x91 =>
  some x91)
def mX_overLemmas_F4 (S : XS) (v1 : Int32) (ih : Int32 → Int32 → Option Int32) (v2 : Int32) (v3 : Int32) : Option Int32 :=
  (if ((S 14 0) : Int32) ≤ v3 then
  some v2
  else
  (mX_lemmaTells S v3 v1).bind fun x16 =>
  ih (v2 + x16) (v3 + 1))
def mX_overLemmas (S : XS) (v1 : Int32) : Option Int32 :=
  itr2 (mX_overLemmas_F4 S v1) FUEL 0 0
def mX_mean (S : XS) : Option UInt64 :=
  (if ((S 14 0) : Int32) = 0 then
  some FP.dconst0
  else
  (mX_overLemmas S 1).bind fun x13 =>
  (dvD (FP.i2d x13) (FP.i2d (S 14 0))).bind fun x22 =>
  some x22)
def mX_axiomsTaken_F4 (S : XS) (ih : Int32 → Int32 → Option Int32) (v1 : Int32) (v2 : Int32) : Option Int32 :=
  (if (5 : Int32) ≤ v2 then
  some v1
  else
  (rdA (S 1) 5 v2).bind fun x14 =>
  (if (x14 : Int32) = 0 then
  ih v1 (v2 + 1)
  else
  ih (v1 + 1) (v2 + 1)))
def mX_axiomsTaken (S : XS) : Option Int32 :=
  itr2 (mX_axiomsTaken_F4 S) FUEL 0 0
def mX_lemmasInCircles_F4 (S : XS) (ih : Int32 → Int32 → Option Int32) (v1 : Int32) (v2 : Int32) : Option Int32 :=
  (if ((S 14 0) : Int32) ≤ v2 then
  some v1
  else
  (rdA (S 12) 12 v2).bind fun x17 =>
  (if (x17 : Int32) ≤ 0 then
  ih v1 (v2 + 1)
  else
  ih (v1 + 1) (v2 + 1)))
def mX_lemmasInCircles (S : XS) : Option Int32 :=
  itr2 (mX_lemmasInCircles_F4 S) FUEL 0 0
def mX_countOf (S : XS) (v1 : Int32) : Option Int32 :=
  (if (v1 : Int32) = 0 then
  some (S 14 0)
  else
  if (v1 : Int32) = 1 then
  some (S 15 0)
  else
  if (v1 : Int32) = 2 then
  (mX_axiomsTaken S).bind fun x51 =>
  some x51
  else
  if (v1 : Int32) = 3 then
  (mX_overLemmas S 0).bind fun x57 =>
  some x57
  else
  if (v1 : Int32) = 4 then
  (mX_overLemmas S 1).bind fun x63 =>
  some x63
  else
  if (v1 : Int32) = 5 then
  (mX_overLemmas S 5).bind fun x69 =>
  some x69
  else
  (mX_lemmasInCircles S).bind fun x74 =>
  some x74)
def mX_stepTells (S : XS) (v1 : Int32) (v2 : Int32) : Option Int32 :=
  (if (v2 : Int32) = 0 then
  (rdA (S 4) 180 v1).bind fun x33 =>
  some x33
  else
  if (v2 : Int32) = 1 then
  (rdA (S 5) 180 v1).bind fun x40 =>
  some x40
  else
  if (v2 : Int32) = 2 then
  (rdA (S 6) 180 v1).bind fun x47 =>
  some x47
  else
  (rdA (S 7) 180 v1).bind fun x54 =>
  (if (x54 : Int32) = 0 then
  some 0
  else
  some 1))
def mX_digestProof_F34 (S : XS) (k : Int64 → Int32 → Option Int64) (v3 : Int32) (v6 : Int32) (ih : Int64 → Int32 → Option Int64) (v4 : Int64) (v7 : Int32) : Option Int64 :=
  (if (4 : Int32) ≤ v7 then
  k v4 (v6 + 1)
  else
  (mX_stepTells S v6 v7).bind fun x51 =>
  ih ((v4 * 31) + (x51 : Int32).toInt64) (v7 + 1))
def mX_digestProof_F21 (S : XS) (v3 : Int32) (ih : Int64 → Int32 → Option Int64) (v4 : Int64) (v6 : Int32) : Option Int64 :=
  (mX_endOfSteps S v3).bind fun x25 =>
  (if (x25 : Int32) ≤ v6 then
  some v4
  else
  itr2 (mX_digestProof_F34 S ih v3 v6) FUEL v4 0)
def mX_digestProof (S : XS) (v1 : Int64) (v3 : Int32) : Option Int64 :=
  (rdA (S 3) 36 v3).bind fun x10 =>
  (mX_firstStepOf v3).bind fun x16 =>
  itr2 (mX_digestProof_F21 S v3) FUEL ((v1 * 31) + (x10 : Int32).toInt64) x16
def mX_digestLemma_F39 (S : XS) (v3 : Int32) (ih : Int64 → Int32 → Option Int64) (v4 : Int64) (v6 : Int32) : Option Int64 :=
  (rdA (S 2) 12 v3).bind fun x46 =>
  (if (x46 : Int32) ≤ v6 then
  some v4
  else
  (mX_slotOf v3 v6).bind fun x56 =>
  (mX_digestProof S v4 x56).bind fun x59 =>
  ih x59 (v6 + 1))
def mX_digestLemma_F6 (S : XS) (v3 : Int32) (ih : Int64 → Int32 → Option Int64) (v4 : Int64) (v6 : Int32) : Option Int64 :=
  (if (7 : Int32) ≤ v6 then
  itr2 (mX_digestLemma_F39 S v3) FUEL v4 0
  else
  (mX_lemmaTells S v3 v6).bind fun x23 =>
  ih ((v4 * 31) + (x23 : Int32).toInt64) (v6 + 1))
def mX_digestLemma (S : XS) (v1 : Int64) (v3 : Int32) : Option Int64 :=
  itr2 (mX_digestLemma_F6 S v3) FUEL v1 0
def mX_digest_F68 (S : XS) (ih : Int64 → Int32 → Option Int64) (v1 : Int64) (v3 : Int32) : Option Int64 :=
  (if ((S 14 0) : Int32) ≤ v3 then
  some v1
  else
  (mX_digestLemma S v1 v3).bind fun x79 =>
  ih x79 (v3 + 1))
def mX_digest_F33 (S : XS) (ih : Int64 → Int32 → Option Int64) (v1 : Int64) (v3 : Int32) : Option Int64 :=
  (if (5 : Int32) ≤ v3 then
  itr2 (mX_digest_F68 S) FUEL v1 0
  else
  (rdA (S 1) 5 v3).bind fun x48 =>
  (if (x48 : Int32) = 0 then
  ih ((v1 * 31) + (0 : Int32).toInt64) (v3 + 1)
  else
  ih ((v1 * 31) + (1 : Int32).toInt64) (v3 + 1)))
def mX_digest_F6 (S : XS) (ih : Int64 → Int32 → Option Int64) (v1 : Int64) (v3 : Int32) : Option Int64 :=
  (if (7 : Int32) ≤ v3 then
  itr2 (mX_digest_F33 S) FUEL v1 0
  else
  (mX_countOf S v3).bind fun x19 =>
  ih ((v1 * 31) + (x19 : Int32).toInt64) (v3 + 1))
def mX_digest (S : XS) : Option Int64 :=
  itr2 (mX_digest_F6 S) FUEL 1847 0
def mX_requireAxiom (v0 : Int32) : Option (Int32 ⊕ Nat) :=
  (mX_isAxiom v0).bind fun x1 =>
  (if (x1 : Int32) = 0 then
  some (.inr 1)
  else
  some (.inl 0))
def mX_costOfStep (S : XS) (v1 : Int32) (r2 : Nat) (v3 : Int32) : Option Int32 :=
  (rdA (S 5) 180 v1).bind fun x5 =>
  (rdA (S 4) 180 v1).bind fun x13 =>
  (if (x13 : Int32) = 0 then
  (mX_isAxiom x5).bind fun x19 =>
  (if (x19 : Int32) = 0 then
  some 9999
  else
  (rdA (S 1) 5 x5).bind fun x31 =>
  (if (x31 : Int32) = 0 then
  some 9999
  else
  some 0))
  else
  (rdA (S 4) 180 v1).bind fun x48 =>
  (if (x48 : Int32) = 1 then
  (mX_isLemma S x5).bind fun x56 =>
  (if (x56 : Int32) = 0 then
  some 9999
  else
  (rdA (S r2) 12 x5).bind fun x65 =>
  some x65)
  else
  (if (v3 : Int32) = 0 then
  (rdA (S 6) 180 v1).bind fun x89 =>
  (if (x89 : Int32) = 0 then
  some 0
  else
  some 9999)
  else
  (rdA (S 6) 180 v1).bind fun x82 =>
  some x82)))
def mX_costOfProof_F34 (S : XS) (r2 : Nat) (v1 : Int32) (v3 : Int32) (ih : Int32 → Int32 → Option Int32) (v4 : Int32) (v5 : Int32) : Option Int32 :=
  (mX_endOfSteps S v1).bind fun x38 =>
  (if (x38 : Int32) ≤ v5 then
  some (lmin v4 9999)
  else
  (mX_costOfStep S v5 r2 v3).bind fun x51 =>
  ih (v4 + x51) (v5 + 1))
def mX_costOfProof (S : XS) (v1 : Int32) (r2 : Nat) (v3 : Int32) : Option Int32 :=
  (mX_isWhole S v1).bind fun x2 =>
  (if (x2 : Int32) = 0 then
  some 9999
  else
  (if (v3 : Int32) = 0 then
  (rdA (S 3) 36 v1).bind fun x25 =>
  (mX_firstStepOf v1).bind fun x29 =>
  itr2 (mX_costOfProof_F34 S r2 v1 v3) FUEL x25 x29
  else
  (mX_firstStepOf v1).bind fun x29 =>
  itr2 (mX_costOfProof_F34 S r2 v1 v3) FUEL 0 x29))
def mX_reckonRound_F17 (r1 : Nat) (k : XS → Int32 → Int32 → Option (Int32 × XS)) (v2 : Int32) (v4 : Int32) (ih : XS → Int32 → Int32 → Option (Int32 × XS)) (S : XS) (v3 : Int32) (v5 : Int32) : Option (Int32 × XS) :=
  (rdA (S 2) 12 v4).bind fun x25 =>
  (if (x25 : Int32) ≤ v5 then
  k S v3 (v4 + 1)
  else
  (mX_slotOf v4 v5).bind fun x34 =>
  (mX_costOfProof S x34 r1 v2).bind fun x39 =>
  (rdA (S r1) 12 v4).bind fun x49 =>
  (if (x49 : Int32) ≤ x39 then
  ih S v3 (v5 + 1)
  else
  wrS 12 v4 (sU S r1 (upd (S r1) (v4 : Int32).toNatClampNeg x39)) fun S58 =>
  ih S58 1 (v5 + 1)))
def mX_reckonRound_F5 (r1 : Nat) (v2 : Int32) (ih : XS → Int32 → Int32 → Option (Int32 × XS)) (S : XS) (v3 : Int32) (v4 : Int32) : Option (Int32 × XS) :=
  (if ((S 14 0) : Int32) ≤ v4 then
  gz v3 (some (v3, S))
  else
  itr3 (mX_reckonRound_F17 r1 ih v2 v4) FUEL S v3 0)
def mX_reckonRound (S : XS) (r1 : Nat) (v2 : Int32) : Option (Int32 × XS) :=
  itr3 (mX_reckonRound_F5 r1 v2) FUEL S 0 0
def mX_reckon_F9 (r1 : Nat) (v2 : Int32) (ih : XS → Int32 → Option (Int32 × XS)) (S : XS) (v3 : Int32) : Option (Int32 × XS) :=
  (if ((S 14 0) : Int32) ≤ v3 then
  some (0, S)
  else
  rb (mX_reckonRound S r1 v2) fun x20 S20 =>
  (if (x20 : Int32) = 0 then
  some (0, S20)
  else
  ih S20 (v3 + 1)))
def mX_reckon (S : XS) (r1 : Nat) (v2 : Int32) : Option (Int32 × XS) :=
  stS (sU S r1 (ffill 12 9999 (S r1))) fun S4 =>
  itr2 (mX_reckon_F9 r1 v2) FUEL S4 0
def mX_lemmasCitedBy_F28 (S : XS) (k : Int32 → Int32 → Option Int32) (v1 : Int32) (v3 : Int32) (v4 : Int32) (ih : Int32 → Int32 → Option Int32) (v2 : Int32) (v5 : Int32) : Option Int32 :=
  (mX_endOfSteps S v4).bind fun x33 =>
  (if (x33 : Int32) ≤ v5 then
  k v2 (v3 + 1)
  else
  (rdA (S 4) 180 v5).bind fun x45 =>
  (if (x45 : Int32) = 1 then
  (rdA (S 5) 180 v5).bind fun x58 =>
  ih (v2 ||| (1 <<< (x58 &&& 31))) (v5 + 1)
  else
  ih v2 (v5 + 1)))
def mX_lemmasCitedBy_F4 (S : XS) (v1 : Int32) (ih : Int32 → Int32 → Option Int32) (v2 : Int32) (v3 : Int32) : Option Int32 :=
  (rdA (S 2) 12 v1).bind fun x10 =>
  (if (x10 : Int32) ≤ v3 then
  some v2
  else
  (mX_slotOf v1 v3).bind fun x16 =>
  (mX_firstStepOf x16).bind fun x23 =>
  itr2 (mX_lemmasCitedBy_F28 S ih v1 v3 x16) FUEL v2 x23)
def mX_lemmasCitedBy (S : XS) (v1 : Int32) : Option Int32 :=
  itr2 (mX_lemmasCitedBy_F4 S v1) FUEL 0 0
def mX_isIn (v0 : Int32) (v1 : Int32) : Option Int32 :=
  (if ((v1 &&& (1 <<< (v0 &&& 31))) : Int32) = 0 then
  gz 0 (some 0)
  else
  gz 1 (some 1))
def mX_lemmasCitedByAll_F4 (S : XS) (v1 : Int32) (ih : Int32 → Int32 → Option Int32) (v2 : Int32) (v3 : Int32) : Option Int32 :=
  (if ((S 14 0) : Int32) ≤ v3 then
  some v2
  else
  (mX_isIn v3 v1).bind fun x14 =>
  (if (x14 : Int32) = 0 then
  ih v2 (v3 + 1)
  else
  (rdA (S 11) 12 v3).bind fun x26 =>
  ih (v2 ||| x26) (v3 + 1)))
def mX_lemmasCitedByAll (S : XS) (v1 : Int32) : Option Int32 :=
  itr2 (mX_lemmasCitedByAll_F4 S v1) FUEL 0 0
def mX_citesToItself_F9 (S : XS) (v1 : Int32) (ih : Int32 → Int32 → Option Int32) (v2 : Int32) (v3 : Int32) : Option Int32 :=
  (if ((S 14 0) : Int32) < v3 then
  some 0
  else
  (mX_isIn v1 v2).bind fun x19 =>
  (if (x19 : Int32) = 0 then
  (mX_lemmasCitedByAll S v2).bind fun x29 =>
  ih x29 (v3 + 1)
  else
  some v3))
def mX_citesToItself (S : XS) (v1 : Int32) : Option Int32 :=
  (rdA (S 11) 12 v1).bind fun x5 =>
  itr2 (mX_citesToItself_F9 S v1) FUEL x5 1
def mX_settle_F60 (ih : XS → Int32 → Option (Int32 × XS)) (S : XS) (v1 : Int32) : Option (Int32 × XS) :=
  (if ((S 14 0) : Int32) ≤ v1 then
  some (0, S)
  else
  (mX_citesToItself S v1).bind fun x75 =>
  wrS 12 v1 (sU S 12 (upd (S 12) (v1 : Int32).toNatClampNeg x75)) fun S78 =>
  ih S78 (v1 + 1))
def mX_settle_F33 (ih : XS → Int32 → Option (Int32 × XS)) (S : XS) (v1 : Int32) : Option (Int32 × XS) :=
  (if ((S 14 0) : Int32) ≤ v1 then
  itr2 (mX_settle_F60) FUEL S 0
  else
  (mX_lemmasCitedBy S v1).bind fun x48 =>
  wrS 12 v1 (sU S 11 (upd (S 11) (v1 : Int32).toNatClampNeg x48)) fun S51 =>
  ih S51 (v1 + 1))
def mX_settle (S : XS) : Option (Int32 × XS) :=
  rb (mX_prove S 8 (-1)) fun x7 S7 =>
  stS (sU S7 15 (fun _ => x7)) fun S10 =>
  rb (mX_reckon S10 9 0) fun x19 S19 =>
  rb (mX_reckon S19 10 1) fun x28 S28 =>
  itr2 (mX_settle_F33) FUEL S28 0
def mX_take (S : XS) (v1 : Int32) (v2 : Int32) : Option ((Int32 × XS) ⊕ Nat) :=
  tb (mX_requireAxiom v1) fun x1 =>
  (rdA (S 1) 5 v1).bind fun x9 =>
  wrS 5 v1 (sU S 1 (upd (S 1) (v1 : Int32).toNatClampNeg (v2 &&& 1))) fun S17 =>
  rb (mX_settle S17) fun x19 S19 =>
  gz x9 (some (.inl (x9, S19)))
def mX_lemma (S : XS) : Option ((Int32 × XS) ⊕ Nat) :=
  (if ((S 14 0) : Int32) < 12 then
  stS (sU S 14 (fun _ => ((S 14 0) + 1))) fun S26 =>
  rb (mX_settle S26) fun x30 S30 =>
  some (.inl (((S30 14 0) - 1), S30))
  else
  some (.inr 2))
def mX_requireLemma (S : XS) (v1 : Int32) : Option (Int32 ⊕ Nat) :=
  (mX_isLemma S v1).bind fun x2 =>
  (if (x2 : Int32) = 0 then
  some (.inr 1)
  else
  some (.inl 0))
def mX_proof (S : XS) (v1 : Int32) : Option ((Int32 × XS) ⊕ Nat) :=
  tb (mX_requireLemma S v1) fun x2 =>
  (rdA (S 2) 12 v1).bind fun x10 =>
  (if (x10 : Int32) < 3 then
  (mX_slotOf v1 x10).bind fun x33 =>
  wrS 36 x33 (sU S 3 (upd (S 3) (x33 : Int32).toNatClampNeg 0)) fun S37 =>
  wrS 12 v1 (sU S37 2 (upd (S37 2) (v1 : Int32).toNatClampNeg (x10 + 1))) fun S46 =>
  rb (mX_settle S46) fun x48 S48 =>
  some (.inl (x10, S48))
  else
  some (.inr 2))
def mX_requireProof (S : XS) (v1 : Int32) (v2 : Int32) : Option (Int32 ⊕ Nat) :=
  tb (mX_requireLemma S v1) fun x2 =>
  (if (v2 : Int32) < 0 then
  some (.inr 1)
  else
  (rdA (S 2) 12 v1).bind fun x15 =>
  (if (v2 : Int32) < x15 then
  some (.inl 0)
  else
  some (.inr 1)))
def mX_requireCitable (S : XS) (v1 : Int32) (v2 : Int32) : Option (Int32 ⊕ Nat) :=
  (if (v1 : Int32) < 0 then
  some (.inr 1)
  else
  (if (v1 : Int32) ≤ 2 then
  (if (v1 : Int32) = 0 then
  tb (mX_requireAxiom v2) fun x24 =>
  some (.inl 0)
  else
  (if (v1 : Int32) = 1 then
  tb (mX_requireLemma S v2) fun x37 =>
  some (.inl 0)
  else
  (if (v2 : Int32) < 1 then
  some (.inr 3)
  else
  (if (v2 : Int32) ≤ 9 then
  some (.inl 0)
  else
  some (.inr 3)))))
  else
  some (.inr 1)))
def mX_cite_J83 (S : XS) (v5 : Int32) (v6 : Int32) (t0 : Int32) (t1 : Int32) : Option ((Int32 × XS) ⊕ Nat) :=
  wrS 180 t1 (sU S 6 (upd (S 6) (t1 : Int32).toNatClampNeg t0)) fun S83 =>
  wrS 180 v6 (sU S83 7 (upd (S83 7) (v6 : Int32).toNatClampNeg (0 &&& 1))) fun S91 =>
  (rdA (S91 3) 36 v5).bind fun x99 =>
  wrS 36 v5 (sU S91 3 (upd (S91 3) (v5 : Int32).toNatClampNeg (x99 + 1))) fun S102 =>
  rb (mX_settle S102) fun x104 S104 =>
  (rdA (S104 3) 36 v5).bind fun x113 =>
  some (.inl (x113, S104))
def mX_cite (S : XS) (v1 : Int32) (v2 : Int32) (v3 : Int32) (v4 : Int32) : Option ((Int32 × XS) ⊕ Nat) :=
  tb (mX_requireProof S v1 v2) fun x3 =>
  tb (mX_requireCitable S v3 v4) fun x10 =>
  (mX_slotOf v1 v2).bind fun x15 =>
  (rdA (S 3) 36 x15).bind fun x26 =>
  (if (x26 : Int32) < 5 then
  (mX_endOfSteps S x15).bind fun x44 =>
  wrS 180 x44 (sU S 4 (upd (S 4) (x44 : Int32).toNatClampNeg v3)) fun S56 =>
  wrS 180 x44 (sU S56 5 (upd (S56 5) (x44 : Int32).toNatClampNeg v4)) fun S65 =>
  (if (v3 : Int32) = 2 then
  mX_cite_J83 S65 x15 x44 v4 x44
  else
  mX_cite_J83 S65 x15 x44 0 x44)
  else
  some (.inr 2))
def mX_requireStep (S : XS) (v1 : Int32) (v2 : Int32) (v3 : Int32) : Option (Int32 ⊕ Nat) :=
  tb (mX_requireProof S v1 v2) fun x3 =>
  (if (v3 : Int32) < 0 then
  some (.inr 1)
  else
  (mX_slotOf v1 v2).bind fun x17 =>
  (rdA (S 3) 36 x17).bind fun x20 =>
  (if (v3 : Int32) < x20 then
  some (.inl 0)
  else
  some (.inr 1)))
def mX_patch (S : XS) (v1 : Int32) (v2 : Int32) (v3 : Int32) (v4 : Int32) : Option ((Int32 × XS) ⊕ Nat) :=
  tb (mX_requireStep S v1 v2 v3) fun x4 =>
  (if (v4 : Int32) < 1 then
  some (.inr 3)
  else
  (if (v4 : Int32) ≤ 9 then
  (mX_stepAt v1 v2 v3).bind fun x33 =>
  (rdA (S 6) 180 x33).bind fun x44 =>
  (if (x44 : Int32) = 0 then
  some (.inr 2)
  else
  (rdA (S 6) 180 x33).bind fun x70 =>
  wrS 180 x33 (sU S 6 (upd (S 6) (x33 : Int32).toNatClampNeg (lmax (x70 - v4) 0))) fun S78 =>
  rb (mX_settle S78) fun x80 S80 =>
  (rdA (S80 6) 180 x33).bind fun x89 =>
  some (.inl (x89, S80)))
  else
  some (.inr 3)))
def mX_withdraw (S : XS) (v1 : Int32) (v2 : Int32) (v3 : Int32) : Option ((Int32 × XS) ⊕ Nat) :=
  tb (mX_requireStep S v1 v2 v3) fun x4 =>
  (mX_stepAt v1 v2 v3).bind fun x10 =>
  (rdA (S 7) 180 x10).bind fun x27 =>
  (if (x27 : Int32) = 0 then
  wrS 180 x10 (sU S 7 (upd (S 7) (x10 : Int32).toNatClampNeg (1 &&& 1))) fun S36 =>
  rb (mX_settle S36) fun x38 S38 =>
  (rdA (S38 7) 180 x10).bind fun x47 =>
  gz x47 (some (.inl (x47, S38)))
  else
  wrS 180 x10 (sU S 7 (upd (S 7) (x10 : Int32).toNatClampNeg (0 &&& 1))) fun S36 =>
  rb (mX_settle S36) fun x38 S38 =>
  (rdA (S38 7) 180 x10).bind fun x47 =>
  gz x47 (some (.inl (x47, S38))))
def mX_moveUp_F32 (v1 : Int32) (v3 : Int32) (ih : XS → Int32 → Option (Int32 × XS)) (S : XS) (v4 : Int32) : Option (Int32 × XS) :=
  (mX_endOfSteps S v1).bind fun x36 =>
  (if (x36 : Int32) ≤ v4 then
  some (0, S)
  else
  (rdA (S 4) 180 (v4 + v3)).bind fun x56 =>
  wrS 180 v4 (sU S 4 (upd (S 4) (v4 : Int32).toNatClampNeg x56)) fun S57 =>
  (rdA (S57 5) 180 (v4 + v3)).bind fun x72 =>
  wrS 180 v4 (sU S57 5 (upd (S57 5) (v4 : Int32).toNatClampNeg x72)) fun S73 =>
  (rdA (S73 6) 180 (v4 + v3)).bind fun x88 =>
  wrS 180 v4 (sU S73 6 (upd (S73 6) (v4 : Int32).toNatClampNeg x88)) fun S89 =>
  (rdA (S89 7) 180 (v4 + v3)).bind fun x104 =>
  wrS 180 v4 (sU S89 7 (upd (S89 7) (v4 : Int32).toNatClampNeg (x104 &&& 1))) fun S105 =>
  ih S105 (v4 + 1))
def mX_moveUp (S : XS) (v1 : Int32) : Option (Int32 × XS) :=
  (mX_firstStepOf (v1 + 1)).bind fun x5 =>
  (mX_firstStepOf v1).bind fun x9 =>
  (rdA (S 3) 36 (v1 + 1)).bind fun x24 =>
  wrS 36 v1 (sU S 3 (upd (S 3) (v1 : Int32).toNatClampNeg x24)) fun S25 =>
  (mX_firstStepOf v1).bind fun x27 =>
  itr2 (mX_moveUp_F32 v1 (x5 - x9)) FUEL S25 x27
def mX_strike_F18 (v1 : Int32) (ih : XS → Int32 → Option ((Int32 × XS) ⊕ Nat)) (S : XS) (v3 : Int32) : Option ((Int32 × XS) ⊕ Nat) :=
  (rdA (S 2) 12 v1).bind fun x24 =>
  (if (x24 : Int32) ≤ v3 then
  rb (mX_settle S) fun x44 S44 =>
  (rdA (S44 2) 12 v1).bind fun x52 =>
  some (.inl (x52, S44))
  else
  (mX_slotOf v1 v3).bind fun x31 =>
  rb (mX_moveUp S x31) fun x34 S34 =>
  ih S34 (v3 + 1))
def mX_strike (S : XS) (v1 : Int32) (v2 : Int32) : Option ((Int32 × XS) ⊕ Nat) :=
  tb (mX_requireProof S v1 v2) fun x3 =>
  (rdA (S 2) 12 v1).bind fun x12 =>
  wrS 12 v1 (sU S 2 (upd (S 2) (v1 : Int32).toNatClampNeg (x12 - 1))) fun S15 =>
  itr2 (mX_strike_F18 v1) FUEL S15 v2
def mX_requireAsk (v0 : Int32) (v1 : Int32) : Option (Int32 ⊕ Nat) :=
  (if (v0 : Int32) < 0 then
  some (.inr 1)
  else
  (if (v0 : Int32) < v1 then
  some (.inl 0)
  else
  some (.inr 1)))
def mX_told (S : XS) (v1 : Int32) (v2 : Int32) : Option (Int32 ⊕ Nat) :=
  tb (mX_requireLemma S v1) fun x2 =>
  tb (mX_requireAsk v2 7) fun x8 =>
  (mX_lemmaTells S v1 v2).bind fun x14 =>
  some (.inl x14)
def mX_step (S : XS) (v1 : Int32) (v2 : Int32) (v3 : Int32) (v4 : Int32) : Option (Int32 ⊕ Nat) :=
  tb (mX_requireStep S v1 v2 v3) fun x4 =>
  tb (mX_requireAsk v4 4) fun x10 =>
  (mX_stepAt v1 v2 v3).bind fun x17 =>
  (mX_stepTells S x17 v4).bind fun x22 =>
  some (.inl x22)
def mX_about (S : XS) (v1 : Int32) (v2 : Int32) (v3 : Int32) : Option (Int32 ⊕ Nat) :=
  tb (mX_requireProof S v1 v2) fun x3 =>
  tb (mX_requireAsk v3 4) fun x8 =>
  (mX_slotOf v1 v2).bind fun x13 =>
  (if (v3 : Int32) = 0 then
  (rdA (S 3) 36 x13).bind fun x50 =>
  some (.inl x50)
  else
  if (v3 : Int32) = 1 then
  (mX_holds S x13 8 13).bind fun x61 =>
  (if (x61 : Int32) = 0 then
  some (.inl 0)
  else
  some (.inl 1))
  else
  if (v3 : Int32) = 2 then
  (mX_costOfProof S x13 9 0).bind fun x81 =>
  (mX_orNone x81).bind fun x84 =>
  some (.inl x84)
  else
  (mX_costOfProof S x13 10 1).bind fun x96 =>
  (mX_orNone x96).bind fun x99 =>
  some (.inl x99))
def mX_count (S : XS) (v1 : Int32) : Option (Int32 ⊕ Nat) :=
  tb (mX_requireAsk v1 7) fun x3 =>
  (mX_countOf S v1).bind fun x8 =>
  some (.inl x8)
def mX_best_F14 (S : XS) (v1 : Int32) (ih : Int32 → Int32 → Int32 → Option (Int32 ⊕ Nat)) (v2 : Int32) (v3 : Int32) (v4 : Int32) : Option (Int32 ⊕ Nat) :=
  (rdA (S 2) 12 v1).bind fun x21 =>
  (if (x21 : Int32) ≤ v4 then
  some (.inl v2)
  else
  (mX_slotOf v1 v4).bind fun x29 =>
  (mX_costOfProof S x29 9 0).bind fun x37 =>
  (if (v3 : Int32) ≤ x37 then
  ih v2 v3 (v4 + 1)
  else
  ih v4 x37 (v4 + 1)))
def mX_best (S : XS) (v1 : Int32) : Option (Int32 ⊕ Nat) :=
  tb (mX_requireLemma S v1) fun x2 =>
  itr3 (mX_best_F14 S v1) FUEL (-1) 9999 0
def mX_without (S : XS) (v1 : Int32) : Option ((Int32 × XS) ⊕ Nat) :=
  tb (mX_requireLemma S v1) fun x2 =>
  rb (mX_prove S 13 v1) fun x11 S11 =>
  some (.inl (x11, S11))
def mX_needs (S : XS) (v1 : Int32) (v2 : Int32) : Option ((Int32 × XS) ⊕ Nat) :=
  tb (mX_requireLemma S v1) fun x2 =>
  tb (mX_requireAxiom v2) fun x6 =>
  (rdA (S 1) 5 v2).bind fun x14 =>
  wrS 5 v2 (sU S 1 (upd (S 1) (v2 : Int32).toNatClampNeg (0 &&& 1))) fun S22 =>
  rb (mX_prove S22 13 (-1)) fun x29 S29 =>
  wrS 5 v2 (sU S29 1 (upd (S29 1) (v2 : Int32).toNatClampNeg (x14 &&& 1))) fun S39 =>
  (rdA (S39 8) 12 v1).bind fun x45 =>
  (if (x45 : Int32) ≤ 0 then
  gz 0 (some (.inl (0, S39)))
  else
  (rdA (S39 13) 12 v1).bind fun x54 =>
  (if (x54 : Int32) = 0 then
  gz 1 (some (.inl (1, S39)))
  else
  gz 0 (some (.inl (0, S39)))))
def mM_thrown (S : XS) : Option Int32 :=
  some (S 15 0)
def mM_isIn (v0 : Int32) (v1 : Int32) (v2 : Int32) : Option Int32 :=
  (if (v0 : Int32) < v1 then
  gz 0 (some 0)
  else
  (if (v2 : Int32) < v0 then
  gz 0 (some 0)
  else
  gz 1 (some 1)))
def mM_isAxiom (v0 : Int32) : Option Int32 :=
  (mM_isIn v0 0 4).bind fun x3 =>
  gz x3 (some x3)
def mM_take_J13 (S : XS) (v1 : Int32) (v2 : Int32) (t0 : Int32) : Option (Int32 × XS) :=
  stS (sU S 15 (fun _ => t0)) fun S13 =>
  (if ((S13 15 0) : Int32) ≤ 0 then
  (rdA (S13 1) 5 v1).bind fun x30 =>
  wrS 5 v1 (sU S13 1 (upd (S13 1) (v1 : Int32).toNatClampNeg (v2 &&& 1))) fun S38 =>
  gz x30 (some (x30, S38))
  else
  gz 0 (some (0, S13)))
def mM_take (S : XS) (v1 : Int32) (v2 : Int32) : Option (Int32 × XS) :=
  (mM_isAxiom v1).bind fun x2 =>
  (if (x2 : Int32) = 0 then
  mM_take_J13 S v1 v2 1
  else
  mM_take_J13 S v1 v2 0)
def mM_no (S : XS) (v1 : Int32) : Option (Int32 × XS) :=
  stS (sU S 15 (fun _ => v1)) fun S2 =>
  some (0, S2)
def mM_lemma (S : XS) : Option (Int32 × XS) :=
  stS (sU S 15 (fun _ => 0)) fun S2 =>
  (if ((S2 14 0) : Int32) = 12 then
  rb (mM_no S2 1) fun x16 S16 =>
  some (x16, S16)
  else
  stS (sU S2 14 (fun _ => ((S2 14 0) + 1))) fun S27 =>
  some (((S27 14 0) - 1), S27))
def mM_isLemma (S : XS) (v1 : Int32) : Option Int32 :=
  (mM_isIn v1 0 ((S 14 0) - 1)).bind fun x8 =>
  gz x8 (some x8)
def mM_proof (S : XS) (v1 : Int32) : Option (Int32 × XS) :=
  stS (sU S 15 (fun _ => 0)) fun S2 =>
  (mM_isLemma S2 v1).bind fun x7 =>
  (if (x7 : Int32) = 0 then
  rb (mM_no S2 1) fun x15 S15 =>
  some (x15, S15)
  else
  (rdA (S2 2) 12 v1).bind fun x24 =>
  (if (x24 : Int32) = 3 then
  rb (mM_no S2 2) fun x31 S31 =>
  some (x31, S31)
  else
  (rdA (S2 2) 12 v1).bind fun x47 =>
  wrS 36 ((3 * v1) + x47) (sU S2 3 (upd (S2 3) (((3 * v1) + x47) : Int32).toNatClampNeg 0)) fun S50 =>
  (rdA (S50 2) 12 v1).bind fun x57 =>
  wrS 12 v1 (sU S50 2 (upd (S50 2) (v1 : Int32).toNatClampNeg (x57 + 1))) fun S60 =>
  (rdA (S60 2) 12 v1).bind fun x66 =>
  some ((x66 - 1), S60)))
def mM_isProof (S : XS) (v1 : Int32) (v2 : Int32) : Option Int32 :=
  (mM_isLemma S v1).bind fun x2 =>
  (if (x2 : Int32) = 0 then
  gz 0 (some 0)
  else
  (rdA (S 2) 12 v1).bind fun x15 =>
  (mM_isIn v2 0 (x15 - 1)).bind fun x18 =>
  (if (x18 : Int32) = 0 then
  gz 0 (some 0)
  else
  gz 1 (some 1)))
def mM_at (v0 : Int32) (v1 : Int32) (v2 : Int32) : Option Int32 :=
  some ((5 * ((3 * v0) + v1)) + v2)
def mM_cite_J149 (S : XS) (v5 : Int32) (v6 : Int32) (t0 : Int32) (t1 : Int32) : Option (Int32 × XS) :=
  wrS 180 t1 (sU S 6 (upd (S 6) (t1 : Int32).toNatClampNeg t0)) fun S149 =>
  wrS 180 v6 (sU S149 7 (upd (S149 7) (v6 : Int32).toNatClampNeg (0 &&& 1))) fun S157 =>
  (rdA (S157 3) 36 v5).bind fun x165 =>
  wrS 36 v5 (sU S157 3 (upd (S157 3) (v5 : Int32).toNatClampNeg (x165 + 1))) fun S168 =>
  (rdA (S168 3) 36 v5).bind fun x175 =>
  some (x175, S168)
def mM_cite_J77 (S : XS) (v1 : Int32) (v2 : Int32) (v3 : Int32) (v4 : Int32) : Option (Int32 × XS) :=
  (rdA (S 3) 36 ((3 * v1) + v2)).bind fun x90 =>
  (if (x90 : Int32) = 5 then
  rb (mM_no S 3) fun x97 S97 =>
  some (x97, S97)
  else
  (rdA (S 3) 36 ((3 * v1) + v2)).bind fun x109 =>
  (mM_at v1 v2 x109).bind fun x110 =>
  wrS 180 x110 (sU S 4 (upd (S 4) (x110 : Int32).toNatClampNeg v3)) fun S122 =>
  wrS 180 x110 (sU S122 5 (upd (S122 5) (x110 : Int32).toNatClampNeg v4)) fun S131 =>
  (if (v3 : Int32) = 2 then
  mM_cite_J149 S131 ((3 * v1) + v2) x110 v4 x110
  else
  mM_cite_J149 S131 ((3 * v1) + v2) x110 0 x110))
def mM_cite_J55 (S : XS) (v1 : Int32) (v2 : Int32) (v3 : Int32) (v4 : Int32) : Option (Int32 × XS) :=
  (if (v3 : Int32) = 2 then
  (mM_isIn v4 1 9).bind fun x65 =>
  (if (x65 : Int32) = 0 then
  rb (mM_no S 2) fun x73 S73 =>
  some (x73, S73)
  else
  mM_cite_J77 S v1 v2 v3 v4)
  else
  mM_cite_J77 S v1 v2 v3 v4)
def mM_cite_J35 (S : XS) (v1 : Int32) (v2 : Int32) (v3 : Int32) (v4 : Int32) : Option (Int32 × XS) :=
  (if (v3 : Int32) = 1 then
  (mM_isLemma S v4).bind fun x43 =>
  (if (x43 : Int32) = 0 then
  rb (mM_no S 1) fun x51 S51 =>
  some (x51, S51)
  else
  mM_cite_J55 S v1 v2 v3 v4)
  else
  mM_cite_J55 S v1 v2 v3 v4)
def mM_cite (S : XS) (v1 : Int32) (v2 : Int32) (v3 : Int32) (v4 : Int32) : Option (Int32 × XS) :=
  stS (sU S 15 (fun _ => 0)) fun S2 =>
  (mM_isProof S2 v1 v2).bind fun x8 =>
  (if (x8 : Int32) = 0 then
  rb (mM_no S2 1) fun x51 S51 =>
  some (x51, S51)
  else
  (mM_isIn v3 0 2).bind fun x17 =>
  (if (x17 : Int32) = 0 then
  rb (mM_no S2 1) fun x51 S51 =>
  some (x51, S51)
  else
  (if (v3 : Int32) = 0 then
  (mM_isAxiom v4).bind fun x29 =>
  (if (x29 : Int32) = 0 then
  rb (mM_no S2 1) fun x51 S51 =>
  some (x51, S51)
  else
  mM_cite_J35 S2 v1 v2 v3 v4)
  else
  mM_cite_J35 S2 v1 v2 v3 v4)))
def mM_isStep (S : XS) (v1 : Int32) (v2 : Int32) (v3 : Int32) : Option Int32 :=
  (mM_isProof S v1 v2).bind fun x3 =>
  (if (x3 : Int32) = 0 then
  gz 0 (some 0)
  else
  (rdA (S 3) 36 ((3 * v1) + v2)).bind fun x20 =>
  (mM_isIn v3 0 (x20 - 1)).bind fun x23 =>
  (if (x23 : Int32) = 0 then
  gz 0 (some 0)
  else
  gz 1 (some 1)))
def mM_patch (S : XS) (v1 : Int32) (v2 : Int32) (v3 : Int32) (v4 : Int32) : Option (Int32 × XS) :=
  stS (sU S 15 (fun _ => 0)) fun S2 =>
  (mM_isStep S2 v1 v2 v3).bind fun x9 =>
  (if (x9 : Int32) = 0 then
  rb (mM_no S2 1) fun x17 S17 =>
  some (x17, S17)
  else
  (mM_isIn v4 1 9).bind fun x26 =>
  (if (x26 : Int32) = 0 then
  rb (mM_no S2 2) fun x34 S34 =>
  some (x34, S34)
  else
  (mM_at v1 v2 v3).bind fun x41 =>
  (rdA (S2 6) 180 x41).bind fun x52 =>
  (if (x52 : Int32) = 0 then
  rb (mM_no S2 3) fun x58 S58 =>
  some (x58, S58)
  else
  (rdA (S2 6) 180 x41).bind fun x75 =>
  wrS 180 x41 (sU S2 6 (upd (S2 6) (x41 : Int32).toNatClampNeg (lmax 0 (x75 - v4)))) fun S82 =>
  (rdA (S82 6) 180 x41).bind fun x89 =>
  some (x89, S82))))
def mM_withdraw_J16 (S : XS) (v1 : Int32) (v2 : Int32) (v3 : Int32) (t0 : Int32) : Option (Int32 × XS) :=
  stS (sU S 15 (fun _ => t0)) fun S16 =>
  (if ((S16 15 0) : Int32) ≤ 0 then
  (mM_at v1 v2 v3).bind fun x31 =>
  (rdA (S16 7) 180 x31).bind fun x48 =>
  (if (x48 : Int32) = 0 then
  wrS 180 x31 (sU S16 7 (upd (S16 7) (x31 : Int32).toNatClampNeg (1 &&& 1))) fun S57 =>
  (rdA (S57 7) 180 x31).bind fun x64 =>
  gz x64 (some (x64, S57))
  else
  wrS 180 x31 (sU S16 7 (upd (S16 7) (x31 : Int32).toNatClampNeg (0 &&& 1))) fun S57 =>
  (rdA (S57 7) 180 x31).bind fun x64 =>
  gz x64 (some (x64, S57)))
  else
  gz 0 (some (0, S16)))
def mM_withdraw (S : XS) (v1 : Int32) (v2 : Int32) (v3 : Int32) : Option (Int32 × XS) :=
  (mM_isStep S v1 v2 v3).bind fun x5 =>
  (if (x5 : Int32) = 0 then
  mM_withdraw_J16 S v1 v2 v3 1
  else
  mM_withdraw_J16 S v1 v2 v3 0)
def mM_layOver (S : XS) (v1 : Int32) (v2 : Int32) : Option (Int32 × XS) :=
  (rdA (S 3) 36 v1).bind fun x10 =>
  wrS 36 v2 (sU S 3 (upd (S 3) (v2 : Int32).toNatClampNeg x10)) fun S11 =>
  cpI 180 (5 * v1) (5 * v2) 5 (S11 4) (fun g => sU S11 4 g) fun S27 =>
  cpI 180 (5 * v1) (5 * v2) 5 (S27 5) (fun g => sU S27 5 g) fun S45 =>
  cpI 180 (5 * v1) (5 * v2) 5 (S45 6) (fun g => sU S45 6 g) fun S63 =>
  cpZ 180 (5 * v1) (5 * v2) 5 (S63 7) (fun g => sU S63 7 g) fun S81 =>
  some (0, S81)
def mM_strike_F22 (v1 : Int32) (ih : XS → Int32 → Option (Int32 × XS)) (S : XS) (v3 : Int32) : Option (Int32 × XS) :=
  (rdA (S 2) 12 v1).bind fun x30 =>
  (if (x30 : Int32) ≤ (v3 + 1) then
  (rdA (S 2) 12 v1).bind fun x62 =>
  wrS 12 v1 (sU S 2 (upd (S 2) (v1 : Int32).toNatClampNeg (x62 - 1))) fun S65 =>
  (rdA (S65 2) 12 v1).bind fun x71 =>
  some (x71, S65)
  else
  rb (mM_layOver S (((3 * v1) + v3) + 1) ((3 * v1) + v3)) fun x47 S47 =>
  ih S47 (v3 + 1))
def mM_strike (S : XS) (v1 : Int32) (v2 : Int32) : Option (Int32 × XS) :=
  stS (sU S 15 (fun _ => 0)) fun S2 =>
  (mM_isProof S2 v1 v2).bind fun x8 =>
  (if (x8 : Int32) = 0 then
  rb (mM_no S2 1) fun x16 S16 =>
  some (x16, S16)
  else
  itr2 (mM_strike_F22 v1) FUEL S2 v2)
def mM_isWhole_F2 (S : XS) (v1 : Int32) (v2 : Int32) (ih : Int32 → Option Int32) (v3 : Int32) : Option Int32 :=
  (rdA (S 3) 36 ((3 * v1) + v2)).bind fun x12 =>
  (if (x12 : Int32) ≤ v3 then
  (rdA (S 3) 36 ((3 * v1) + v2)).bind fun x47 =>
  (if (x47 : Int32) ≤ 0 then
  gz 0 (some 0)
  else
  gz 1 (some 1))
  else
  (mM_at v1 v2 v3).bind fun x23 =>
  (rdA (S 7) 180 x23).bind fun x26 =>
  (if (x26 : Int32) = 0 then
  ih (v3 + 1)
  else
  gz 0 (some 0)))
def mM_isWhole (S : XS) (v1 : Int32) (v2 : Int32) : Option Int32 :=
  itr1 (mM_isWhole_F2 S v1 v2) FUEL 0
def mM_lengthOf_J102 (S : XS) (k : Int32 → Int32 → Option Int32) (v1 : Int32) (v2 : Int32) (v3 : Int32) (v4 : Int32) (v5 : Int32) (t0 : Int32) : Option Int32 :=
  (if (t0 : Int32) = 0 then
  (rdA (S 4) 180 v5).bind fun x122 =>
  (if (x122 : Int32) = 1 then
  (rdA (S 5) 180 v5).bind fun x137 =>
  (rdA (S 9) 12 x137).bind fun x138 =>
  k (v3 + x138) (v4 + 1)
  else
  k (v3 + 0) (v4 + 1))
  else
  k (v3 + 9999) (v4 + 1))
def mM_lengthOf_J101 (S : XS) (k : Int32 → Int32 → Option Int32) (v1 : Int32) (v2 : Int32) (v3 : Int32) (v4 : Int32) (v5 : Int32) : Option Int32 :=
  mM_lengthOf_J102 S k v1 v2 v3 v4 v5 0
def mM_lengthOf_J97 (S : XS) (k : Int32 → Int32 → Option Int32) (v1 : Int32) (v2 : Int32) (v3 : Int32) (v4 : Int32) (v5 : Int32) : Option Int32 :=
  mM_lengthOf_J102 S k v1 v2 v3 v4 v5 1
def mM_lengthOf_J76 (S : XS) (k : Int32 → Int32 → Option Int32) (v1 : Int32) (v2 : Int32) (v3 : Int32) (v4 : Int32) (v5 : Int32) : Option Int32 :=
  (rdA (S 4) 180 v5).bind fun x82 =>
  (if (x82 : Int32) = 2 then
  (rdA (S 6) 180 v5).bind fun x93 =>
  (if (x93 : Int32) ≤ 0 then
  mM_lengthOf_J101 S k v1 v2 v3 v4 v5
  else
  mM_lengthOf_J97 S k v1 v2 v3 v4 v5)
  else
  mM_lengthOf_J101 S k v1 v2 v3 v4 v5)
def mM_lengthOf_F27 (S : XS) (v1 : Int32) (v2 : Int32) (ih : Int32 → Int32 → Option Int32) (v3 : Int32) (v4 : Int32) : Option Int32 :=
  (rdA (S 3) 36 ((3 * v1) + v2)).bind fun x38 =>
  (if (x38 : Int32) ≤ v4 then
  some (lmin 9999 v3)
  else
  (mM_at v1 v2 v4).bind fun x46 =>
  (rdA (S 4) 180 x46).bind fun x57 =>
  (if (x57 : Int32) = 0 then
  (rdA (S 5) 180 x46).bind fun x71 =>
  (rdA (S 1) 5 x71).bind fun x72 =>
  (if (x72 : Int32) = 0 then
  mM_lengthOf_J97 S ih v1 v2 v3 v4 x46
  else
  mM_lengthOf_J76 S ih v1 v2 v3 v4 x46)
  else
  mM_lengthOf_J76 S ih v1 v2 v3 v4 x46))
def mM_lengthOf (S : XS) (v1 : Int32) (v2 : Int32) : Option Int32 :=
  (mM_isWhole S v1 v2).bind fun x3 =>
  (if (x3 : Int32) = 0 then
  some 9999
  else
  (rdA (S 3) 36 ((3 * v1) + v2)).bind fun x22 =>
  itr2 (mM_lengthOf_F27 S v1 v2) FUEL x22 0)
def mM_getsShorter_F9 (S : XS) (v1 : Int32) (ih : Int32 → Int32 → Option (Int32 × XS)) (v2 : Int32) (v3 : Int32) : Option (Int32 × XS) :=
  (rdA (S 2) 12 v1).bind fun x15 =>
  (if (x15 : Int32) ≤ v3 then
  (rdA (S 9) 12 v1).bind fun x42 =>
  (if (x42 : Int32) ≤ v2 then
  wrS 12 v1 (sU S 9 (upd (S 9) (v1 : Int32).toNatClampNeg v2)) fun S58 =>
  gz 0 (some (0, S58))
  else
  wrS 12 v1 (sU S 9 (upd (S 9) (v1 : Int32).toNatClampNeg v2)) fun S58 =>
  gz 1 (some (1, S58)))
  else
  (mM_lengthOf S v1 v3).bind fun x23 =>
  ih (lmin v2 x23) (v3 + 1))
def mM_getsShorter (S : XS) (v1 : Int32) : Option (Int32 × XS) :=
  (rdA (S 9) 12 v1).bind fun x5 =>
  itr2 (mM_getsShorter_F9 S v1) FUEL x5 0
def mM_priceOf_J96 (S : XS) (k : Int32 → Int32 → Option Int32) (v1 : Int32) (v2 : Int32) (v3 : Int32) (v4 : Int32) (v5 : Int32) : Option Int32 :=
  (rdA (S 4) 180 v5).bind fun x103 =>
  (if (x103 : Int32) = 2 then
  (rdA (S 6) 180 v5).bind fun x114 =>
  k (v3 + x114) (v4 + 1)
  else
  (rdA (S 4) 180 v5).bind fun x124 =>
  (if (x124 : Int32) = 1 then
  (rdA (S 5) 180 v5).bind fun x139 =>
  (rdA (S 10) 12 x139).bind fun x140 =>
  k (v3 + x140) (v4 + 1)
  else
  k (v3 + 0) (v4 + 1)))
def mM_priceOf_J65 (S : XS) (k : Int32 → Int32 → Option Int32) (v1 : Int32) (v2 : Int32) (v3 : Int32) (v4 : Int32) (v5 : Int32) : Option Int32 :=
  (rdA (S 4) 180 v5).bind fun x71 =>
  (if (x71 : Int32) = 1 then
  (rdA (S 5) 180 v5).bind fun x86 =>
  (rdA (S 10) 12 x86).bind fun x87 =>
  (if (x87 : Int32) = 9999 then
  some (-1)
  else
  mM_priceOf_J96 S k v1 v2 v3 v4 v5)
  else
  mM_priceOf_J96 S k v1 v2 v3 v4 v5)
def mM_priceOf_F16 (S : XS) (v1 : Int32) (v2 : Int32) (ih : Int32 → Int32 → Option Int32) (v3 : Int32) (v4 : Int32) : Option Int32 :=
  (rdA (S 3) 36 ((3 * v1) + v2)).bind fun x27 =>
  (if (x27 : Int32) ≤ v4 then
  (if (v3 : Int32) < 9999 then
  some v3
  else
  some (-1))
  else
  (mM_at v1 v2 v4).bind fun x35 =>
  (rdA (S 4) 180 x35).bind fun x46 =>
  (if (x46 : Int32) = 0 then
  (rdA (S 5) 180 x35).bind fun x60 =>
  (rdA (S 1) 5 x60).bind fun x61 =>
  (if (x61 : Int32) = 0 then
  some (-1)
  else
  mM_priceOf_J65 S ih v1 v2 v3 v4 x35)
  else
  mM_priceOf_J65 S ih v1 v2 v3 v4 x35))
def mM_priceOf (S : XS) (v1 : Int32) (v2 : Int32) : Option Int32 :=
  (mM_isWhole S v1 v2).bind fun x3 =>
  (if (x3 : Int32) = 0 then
  some (-1)
  else
  itr2 (mM_priceOf_F16 S v1 v2) FUEL 0 0)
def mM_getsCheaper_F9 (S : XS) (v1 : Int32) (ih : Int32 → Int32 → Option (Int32 × XS)) (v2 : Int32) (v3 : Int32) : Option (Int32 × XS) :=
  (rdA (S 2) 12 v1).bind fun x15 =>
  (if (x15 : Int32) ≤ v3 then
  (rdA (S 10) 12 v1).bind fun x52 =>
  (if (x52 : Int32) ≤ v2 then
  wrS 12 v1 (sU S 10 (upd (S 10) (v1 : Int32).toNatClampNeg v2)) fun S68 =>
  gz 0 (some (0, S68))
  else
  wrS 12 v1 (sU S 10 (upd (S 10) (v1 : Int32).toNatClampNeg v2)) fun S68 =>
  gz 1 (some (1, S68)))
  else
  (mM_priceOf S v1 v3).bind fun x22 =>
  (if (x22 : Int32) = (-1) then
  ih v2 (v3 + 1)
  else
  (mM_priceOf S v1 v3).bind fun x33 =>
  ih (lmin v2 x33) (v3 + 1)))
def mM_getsCheaper (S : XS) (v1 : Int32) : Option (Int32 × XS) :=
  (rdA (S 10) 12 v1).bind fun x5 =>
  itr2 (mM_getsCheaper_F9 S v1) FUEL x5 0
def mM_measure_F44 (k : XS → Int32 → Option (Int32 × XS)) (ih : XS → Int32 → Int32 → Option (Int32 × XS)) (S : XS) (v1 : Int32) (v2 : Int32) : Option (Int32 × XS) :=
  (if ((S 14 0) : Int32) ≤ v2 then
  k S v1
  else
  rb (mM_getsShorter S v2) fun x55 S55 =>
  rb (mM_getsCheaper S55 v2) fun x63 S63 =>
  ih S63 ((v1 ||| x55) ||| x63) (v2 + 1))
def mM_measure_F36 (ih : XS → Int32 → Option (Int32 × XS)) (S : XS) (v1 : Int32) : Option (Int32 × XS) :=
  (if (v1 : Int32) = 0 then
  some (0, S)
  else
  itr3 (mM_measure_F44 ih) FUEL S 0 0)
def mM_measure_F2 (ih : XS → Int32 → Option (Int32 × XS)) (S : XS) (v1 : Int32) : Option (Int32 × XS) :=
  (if ((S 14 0) : Int32) ≤ v1 then
  itr2 (mM_measure_F36) FUEL S 1
  else
  wrS 12 v1 (sU S 9 (upd (S 9) (v1 : Int32).toNatClampNeg 9999)) fun S18 =>
  wrS 12 v1 (sU S18 10 (upd (S18 10) (v1 : Int32).toNatClampNeg 9999)) fun S27 =>
  ih S27 (v1 + 1))
def mM_measure (S : XS) : Option (Int32 × XS) :=
  itr2 (mM_measure_F2) FUEL S 0
def mM_stepsOf_F4 (S : XS) (v1 : Int32) (ih : Int32 → Int32 → Option Int32) (v2 : Int32) (v3 : Int32) : Option Int32 :=
  (rdA (S 2) 12 v1).bind fun x10 =>
  (if (x10 : Int32) ≤ v3 then
  some v2
  else
  (rdA (S 3) 36 ((3 * v1) + v3)).bind fun x24 =>
  ih (v2 + x24) (v3 + 1))
def mM_stepsOf (S : XS) (v1 : Int32) : Option Int32 :=
  itr2 (mM_stepsOf_F4 S v1) FUEL 0 0
def mM_does (S : XS) (v1 : Int32) (v2 : Int32) (v3 : Int32) : Option Int32 :=
  (rdA (S 4) 180 v1).bind fun x5 =>
  (if (x5 : Int32) = 0 then
  (rdA (S 5) 180 v1).bind fun x41 =>
  (rdA (S 1) 5 x41).bind fun x42 =>
  gz x42 (some x42)
  else
  if (x5 : Int32) = 1 then
  (rdA (S 5) 180 v1).bind fun x49 =>
  (if (x49 : Int32) = v3 then
  gz 0 (some 0)
  else
  (rdA (S 5) 180 v1).bind fun x63 =>
  (rdA (S 8) 12 x63).bind fun x64 =>
  (if (x64 : Int32) ≤ 0 then
  gz 0 (some 0)
  else
  (rdA (S 5) 180 v1).bind fun x77 =>
  (rdA (S 8) 12 x77).bind fun x78 =>
  (if (v2 : Int32) ≤ x78 then
  gz 0 (some 0)
  else
  gz 1 (some 1))))
  else
  (rdA (S 6) 180 v1).bind fun x94 =>
  (if (x94 : Int32) = 0 then
  gz 1 (some 1)
  else
  gz 0 (some 0)))
def mM_holds_F14 (S : XS) (v1 : Int32) (v2 : Int32) (v3 : Int32) (v4 : Int32) (ih : Int32 → Option Int32) (v5 : Int32) : Option Int32 :=
  (rdA (S 3) 36 ((3 * v1) + v2)).bind fun x25 =>
  (if (x25 : Int32) ≤ v5 then
  gz 1 (some 1)
  else
  (mM_at v1 v2 v5).bind fun x34 =>
  (mM_does S x34 v3 v4).bind fun x40 =>
  (if (x40 : Int32) = 0 then
  gz 0 (some 0)
  else
  ih (v5 + 1)))
def mM_holds (S : XS) (v1 : Int32) (v2 : Int32) (v3 : Int32) (v4 : Int32) : Option Int32 :=
  (mM_isWhole S v1 v2).bind fun x3 =>
  (if (x3 : Int32) = 0 then
  gz 0 (some 0)
  else
  itr1 (mM_holds_F14 S v1 v2 v3 v4) FUEL 0)
def mM_hasProof_F3 (S : XS) (v1 : Int32) (v2 : Int32) (v3 : Int32) (ih : Int32 → Option Int32) (v4 : Int32) : Option Int32 :=
  (rdA (S 2) 12 v1).bind fun x10 =>
  (if (x10 : Int32) ≤ v4 then
  gz 0 (some 0)
  else
  (mM_holds S v1 v4 v2 v3).bind fun x20 =>
  (if (x20 : Int32) = 0 then
  ih (v4 + 1)
  else
  gz 1 (some 1)))
def mM_hasProof (S : XS) (v1 : Int32) (v2 : Int32) (v3 : Int32) : Option Int32 :=
  itr1 (mM_hasProof_F3 S v1 v2 v3) FUEL 0
def mM_prove_F40 (k : XS → Int32 → Int32 → Int32 → Option (Int32 × XS)) (v1 : Int32) (v3 : Int32) (v4 : Int32) (ih : XS → Int32 → Int32 → Option (Int32 × XS)) (S : XS) (v2 : Int32) (v5 : Int32) : Option (Int32 × XS) :=
  (if ((S 14 0) : Int32) ≤ v5 then
  k S v2 v3 (v4 + 1)
  else
  (if (v5 : Int32) = v1 then
  ih S v2 (v5 + 1)
  else
  (rdA (S 8) 12 v5).bind fun x61 =>
  (if (0 : Int32) < x61 then
  ih S v2 (v5 + 1)
  else
  (mM_hasProof S v5 v4 v1).bind fun x71 =>
  (if (x71 : Int32) = 0 then
  ih S v2 (v5 + 1)
  else
  wrS 12 v5 (sU S 8 (upd (S 8) (v5 : Int32).toNatClampNeg v4)) fun S88 =>
  ih S88 (v2 + 1) (v5 + 1)))))
def mM_prove_F30 (v1 : Int32) (ih : XS → Int32 → Int32 → Int32 → Option (Int32 × XS)) (S : XS) (v2 : Int32) (v3 : Int32) (v4 : Int32) : Option (Int32 × XS) :=
  (if (v3 : Int32) = v2 then
  some (v2, S)
  else
  itr3 (mM_prove_F40 ih v1 v2 v4) FUEL S v2 0)
def mM_prove_F2 (v1 : Int32) (ih : XS → Int32 → Option (Int32 × XS)) (S : XS) (v2 : Int32) : Option (Int32 × XS) :=
  (if ((S 14 0) : Int32) ≤ v2 then
  itr4 (mM_prove_F30 v1) FUEL S 0 (-1) 1
  else
  wrS 12 v2 (sU S 8 (upd (S 8) (v2 : Int32).toNatClampNeg 0)) fun S16 =>
  ih S16 (v2 + 1))
def mM_prove (S : XS) (v1 : Int32) : Option (Int32 × XS) :=
  itr2 (mM_prove_F2 v1) FUEL S 0
def mM_stageOf (S : XS) (v1 : Int32) : Option (Int32 × XS) :=
  rb (mM_prove S (-1)) fun x2 S2 =>
  (rdA (S2 8) 12 v1).bind fun x11 =>
  some (x11, S2)
def mM_told (v0 : Int32) : Option Int32 :=
  (if (v0 : Int32) = 9999 then
  some (-1)
  else
  some v0)
def mM_openOf_F17 (S : XS) (k : Int32 → Int32 → Option Int32) (v1 : Int32) (v3 : Int32) (ih : Int32 → Int32 → Option Int32) (v2 : Int32) (v4 : Int32) : Option Int32 :=
  (rdA (S 3) 36 ((3 * v1) + v3)).bind fun x28 =>
  (if (x28 : Int32) ≤ v4 then
  k v2 (v3 + 1)
  else
  (mM_at v1 v3 v4).bind fun x41 =>
  (rdA (S 6) 180 x41).bind fun x44 =>
  ih (v2 + x44) (v4 + 1))
def mM_openOf_F4 (S : XS) (v1 : Int32) (ih : Int32 → Int32 → Option Int32) (v2 : Int32) (v3 : Int32) : Option Int32 :=
  (rdA (S 2) 12 v1).bind fun x10 =>
  (if (x10 : Int32) ≤ v3 then
  some v2
  else
  itr2 (mM_openOf_F17 S ih v1 v3) FUEL v2 0)
def mM_openOf (S : XS) (v1 : Int32) : Option Int32 :=
  itr2 (mM_openOf_F4 S v1) FUEL 0 0
def mM_leads_F15 (S : XS) (k : Int32 → Option Int32) (v1 : Int32) (v2 : Int32) (v3 : Int32) (ih : Int32 → Option Int32) (v4 : Int32) : Option Int32 :=
  (rdA (S 3) 36 ((3 * v1) + v3)).bind fun x26 =>
  (if (x26 : Int32) ≤ v4 then
  k (v3 + 1)
  else
  (mM_at v1 v3 v4).bind fun x38 =>
  (rdA (S 4) 180 x38).bind fun x41 =>
  (if (x41 : Int32) = 1 then
  (mM_at v1 v3 v4).bind fun x54 =>
  (rdA (S 5) 180 x54).bind fun x57 =>
  (if (x57 : Int32) = v2 then
  gz 1 (some 1)
  else
  ih (v4 + 1))
  else
  ih (v4 + 1)))
def mM_leads_F2 (S : XS) (v1 : Int32) (v2 : Int32) (ih : Int32 → Option Int32) (v3 : Int32) : Option Int32 :=
  (rdA (S 2) 12 v1).bind fun x8 =>
  (if (x8 : Int32) ≤ v3 then
  gz 0 (some 0)
  else
  itr1 (mM_leads_F15 S ih v1 v2 v3) FUEL 0)
def mM_leads (S : XS) (v1 : Int32) (v2 : Int32) : Option Int32 :=
  itr1 (mM_leads_F2 S v1 v2) FUEL 0
def mM_circle_F83 (k : XS → Int32 → Option (Int32 × XS)) (v1 : Int32) (v2 : Int32) (v3 : Int32) (ih : XS → Int32 → Option (Int32 × XS)) (S : XS) (v4 : Int32) : Option (Int32 × XS) :=
  (if ((S 14 0) : Int32) ≤ v4 then
  k S (v3 + 1)
  else
  (rdA (S 11) 12 v4).bind fun x98 =>
  (if (x98 : Int32) = 0 then
  (mM_leads S v3 v4).bind fun x106 =>
  (if (x106 : Int32) = 0 then
  ih S (v4 + 1)
  else
  wrS 12 v4 (sU S 11 (upd (S 11) (v4 : Int32).toNatClampNeg v2)) fun S119 =>
  ih S119 (v4 + 1))
  else
  ih S (v4 + 1)))
def mM_circle_F57 (k : XS → Int32 → Option (Int32 × XS)) (v1 : Int32) (v2 : Int32) (ih : XS → Int32 → Option (Int32 × XS)) (S : XS) (v3 : Int32) : Option (Int32 × XS) :=
  (if ((S 14 0) : Int32) ≤ v3 then
  k S (v2 + 1)
  else
  (rdA (S 11) 12 v3).bind fun x70 =>
  (if (x70 : Int32) = (v2 - 1) then
  itr2 (mM_circle_F83 ih v1 v2 v3) FUEL S 0
  else
  ih S (v3 + 1)))
def mM_circle_F38 (v1 : Int32) (ih : XS → Int32 → Option (Int32 × XS)) (S : XS) (v2 : Int32) : Option (Int32 × XS) :=
  (if ((S 14 0) : Int32) < v2 then
  (rdA (S 11) 12 v1).bind fun x143 =>
  some (x143, S)
  else
  (rdA (S 11) 12 v1).bind fun x51 =>
  (if (x51 : Int32) = 0 then
  itr2 (mM_circle_F57 ih v1 v2) FUEL S 0
  else
  (rdA (S 11) 12 v1).bind fun x143 =>
  some (x143, S)))
def mM_circle_F2 (v1 : Int32) (ih : XS → Int32 → Option (Int32 × XS)) (S : XS) (v2 : Int32) : Option (Int32 × XS) :=
  (if ((S 14 0) : Int32) ≤ v2 then
  itr2 (mM_circle_F38 v1) FUEL S 2
  else
  (mM_leads S v1 v2).bind fun x18 =>
  (if (x18 : Int32) = 0 then
  wrS 12 v2 (sU S 11 (upd (S 11) (v2 : Int32).toNatClampNeg 0)) fun S29 =>
  ih S29 (v2 + 1)
  else
  wrS 12 v2 (sU S 11 (upd (S 11) (v2 : Int32).toNatClampNeg 1)) fun S29 =>
  ih S29 (v2 + 1)))
def mM_circle (S : XS) (v1 : Int32) : Option (Int32 × XS) :=
  itr2 (mM_circle_F2 v1) FUEL S 0
def mM_lemmaTold (S : XS) (v1 : Int32) (v2 : Int32) : Option (Int32 × XS) :=
  rb (mM_measure S) fun x1 S1 =>
  (if (v2 : Int32) = 0 then
  (rdA (S1 2) 12 v1).bind fun x49 =>
  some (x49, S1)
  else
  if (v2 : Int32) = 1 then
  (mM_stepsOf S1 v1).bind fun x53 =>
  some (x53, S1)
  else
  if (v2 : Int32) = 2 then
  rb (mM_stageOf S1 v1) fun x59 S59 =>
  some (x59, S59)
  else
  if (v2 : Int32) = 3 then
  (rdA (S1 9) 12 v1).bind fun x68 =>
  (mM_told x68).bind fun x69 =>
  some (x69, S1)
  else
  if (v2 : Int32) = 4 then
  (rdA (S1 10) 12 v1).bind fun x78 =>
  (mM_told x78).bind fun x79 =>
  some (x79, S1)
  else
  if (v2 : Int32) = 5 then
  (mM_openOf S1 v1).bind fun x85 =>
  some (x85, S1)
  else
  rb (mM_circle S1 v1) fun x91 S91 =>
  some (x91, S91))
def mM_told_ (S : XS) (v1 : Int32) (v2 : Int32) : Option (Int32 × XS) :=
  stS (sU S 15 (fun _ => 0)) fun S2 =>
  (mM_isLemma S2 v1).bind fun x7 =>
  (if (x7 : Int32) = 0 then
  rb (mM_no S2 1) fun x34 S34 =>
  some (x34, S34)
  else
  (mM_isIn v2 0 6).bind fun x17 =>
  (if (x17 : Int32) = 0 then
  rb (mM_no S2 1) fun x34 S34 =>
  some (x34, S34)
  else
  rb (mM_lemmaTold S2 v1 v2) fun x26 S26 =>
  some (x26, S26)))
def mM_stepTold (S : XS) (v1 : Int32) (v2 : Int32) : Option Int32 :=
  (if (v2 : Int32) = 0 then
  (rdA (S 4) 180 v1).bind fun x9 =>
  some x9
  else
  (if (v2 : Int32) = 1 then
  (rdA (S 5) 180 v1).bind fun x23 =>
  some x23
  else
  (if (v2 : Int32) = 2 then
  (rdA (S 6) 180 v1).bind fun x37 =>
  some x37
  else
  (rdA (S 7) 180 v1).bind fun x46 =>
  (if (x46 : Int32) = 0 then
  some 0
  else
  some 1))))
def mM_step (S : XS) (v1 : Int32) (v2 : Int32) (v3 : Int32) (v4 : Int32) : Option (Int32 × XS) :=
  stS (sU S 15 (fun _ => 0)) fun S2 =>
  (mM_isStep S2 v1 v2 v3).bind fun x9 =>
  (if (x9 : Int32) = 0 then
  rb (mM_no S2 1) fun x42 S42 =>
  some (x42, S42)
  else
  (mM_isIn v4 0 3).bind fun x19 =>
  (if (x19 : Int32) = 0 then
  rb (mM_no S2 1) fun x42 S42 =>
  some (x42, S42)
  else
  (mM_at v1 v2 v3).bind fun x29 =>
  (mM_stepTold S2 x29 v4).bind fun x34 =>
  some (x34, S2)))
def mM_proofTold (S : XS) (v1 : Int32) (v2 : Int32) (v3 : Int32) : Option (Int32 × XS) :=
  rb (mM_measure S) fun x1 S1 =>
  rb (mM_prove S1 (-1)) fun x6 S6 =>
  (if (v3 : Int32) = 0 then
  (rdA (S6 3) 36 ((3 * v1) + v2)).bind fun x45 =>
  some (x45, S6)
  else
  if (v3 : Int32) = 1 then
  (mM_holds S6 v1 v2 ((S6 14 0) + 2) (-1)).bind fun x57 =>
  (if (x57 : Int32) = 0 then
  some (0, S6)
  else
  some (1, S6))
  else
  if (v3 : Int32) = 2 then
  (mM_lengthOf S6 v1 v2).bind fun x72 =>
  (mM_told x72).bind fun x75 =>
  some (x75, S6)
  else
  (mM_priceOf S6 v1 v2).bind fun x82 =>
  some (x82, S6))
def mM_about (S : XS) (v1 : Int32) (v2 : Int32) (v3 : Int32) : Option (Int32 × XS) :=
  stS (sU S 15 (fun _ => 0)) fun S2 =>
  (mM_isProof S2 v1 v2).bind fun x8 =>
  (if (x8 : Int32) = 0 then
  rb (mM_no S2 1) fun x35 S35 =>
  some (x35, S35)
  else
  (mM_isIn v3 0 3).bind fun x17 =>
  (if (x17 : Int32) = 0 then
  rb (mM_no S2 1) fun x35 S35 =>
  some (x35, S35)
  else
  rb (mM_proofTold S2 v1 v2 v3) fun x27 S27 =>
  some (x27, S27)))
def mM_counted_F51 (S : XS) (v4 : Int32) (ih : Int32 → Int32 → Option (Int32 × XS)) (v2 : Int32) (v5 : Int32) : Option (Int32 × XS) :=
  (if (v4 : Int32) ≤ v5 then
  some (v2, S)
  else
  (rdA (S 1) 5 v5).bind fun x61 =>
  (if (x61 : Int32) = 0 then
  ih (v2 + 0) (v5 + 1)
  else
  ih (v2 + 1) (v5 + 1)))
def mM_counted_F87 (v1 : Int32) (ih : XS → Int32 → Int32 → Option (Int32 × XS)) (S : XS) (v2 : Int32) (v3 : Int32) : Option (Int32 × XS) :=
  (if ((S 14 0) : Int32) ≤ v3 then
  some (v2, S)
  else
  (if (v1 : Int32) = 3 then
  (rdA (S 2) 12 v3).bind fun x106 =>
  ih S (v2 + x106) (v3 + 1)
  else
  (if (v1 : Int32) = 4 then
  (mM_stepsOf S v3).bind fun x117 =>
  ih S (v2 + x117) (v3 + 1)
  else
  (if (v1 : Int32) = 5 then
  (mM_openOf S v3).bind fun x130 =>
  ih S (v2 + x130) (v3 + 1)
  else
  rb (mM_circle S v3) fun x138 S138 =>
  (if (x138 : Int32) ≤ 0 then
  ih S138 (v2 + 0) (v3 + 1)
  else
  ih S138 (v2 + 1) (v3 + 1))))))
def mM_counted (S : XS) (v1 : Int32) : Option (Int32 × XS) :=
  (if (v1 : Int32) = 0 then
  some ((S 14 0), S)
  else
  if (v1 : Int32) = 1 then
  rb (mM_prove S (-1)) fun x35 S35 =>
  some (x35, S35)
  else
  if (v1 : Int32) = 2 then
  itr2 (mM_counted_F51 S 5) FUEL 0 0
  else
  itr3 (mM_counted_F87 v1) FUEL S 0 0)
def mM_count (S : XS) (v1 : Int32) : Option (Int32 × XS) :=
  stS (sU S 15 (fun _ => 0)) fun S2 =>
  (mM_isIn v1 0 6).bind fun x9 =>
  (if (x9 : Int32) = 0 then
  rb (mM_no S2 1) fun x25 S25 =>
  some (x25, S25)
  else
  rb (mM_counted S2 v1) fun x17 S17 =>
  some (x17, S17))
def mM_bestOf_F8 (S : XS) (v1 : Int32) (ih : Int32 → Int32 → Option (Int32 × XS)) (v2 : Int32) (v3 : Int32) : Option (Int32 × XS) :=
  (rdA (S 2) 12 v1).bind fun x14 =>
  (if (x14 : Int32) ≤ v3 then
  some (v2, S)
  else
  (mM_lengthOf S v1 v3).bind fun x21 =>
  (if (v2 : Int32) = (-1) then
  (if (9999 : Int32) ≤ x21 then
  ih v2 (v3 + 1)
  else
  ih v3 (v3 + 1))
  else
  (mM_lengthOf S v1 v2).bind fun x38 =>
  (if (x38 : Int32) ≤ x21 then
  ih v2 (v3 + 1)
  else
  ih v3 (v3 + 1))))
def mM_bestOf (S : XS) (v1 : Int32) : Option (Int32 × XS) :=
  rb (mM_measure S) fun x1 S1 =>
  itr2 (mM_bestOf_F8 S1 v1) FUEL (-1) 0
def mM_best (S : XS) (v1 : Int32) : Option (Int32 × XS) :=
  stS (sU S 15 (fun _ => 0)) fun S2 =>
  (mM_isLemma S2 v1).bind fun x7 =>
  (if (x7 : Int32) = 0 then
  rb (mM_no S2 1) fun x23 S23 =>
  some (x23, S23)
  else
  rb (mM_bestOf S2 v1) fun x15 S15 =>
  some (x15, S15))
def mM_without (S : XS) (v1 : Int32) : Option (Int32 × XS) :=
  stS (sU S 15 (fun _ => 0)) fun S2 =>
  (mM_isLemma S2 v1).bind fun x7 =>
  (if (x7 : Int32) = 0 then
  rb (mM_no S2 1) fun x23 S23 =>
  some (x23, S23)
  else
  rb (mM_prove S2 v1) fun x15 S15 =>
  some (x15, S15))
def mM_isNeeded (S : XS) (v1 : Int32) (v2 : Int32) : Option (Int32 × XS) :=
  (rdA (S 1) 5 v2).bind fun x5 =>
  (if (x5 : Int32) = 0 then
  gz 0 (some (0, S))
  else
  rb (mM_stageOf S v1) fun x11 S11 =>
  (if (x11 : Int32) = 0 then
  gz 0 (some (0, S11))
  else
  wrS 5 v2 (sU S11 1 (upd (S11 1) (v2 : Int32).toNatClampNeg (0 &&& 1))) fun S25 =>
  rb (mM_stageOf S25 v1) fun x28 S28 =>
  (if (x28 : Int32) = 0 then
  wrS 5 v2 (sU S28 1 (upd (S28 1) (v2 : Int32).toNatClampNeg (1 &&& 1))) fun S46 =>
  gz 1 (some (1, S46))
  else
  wrS 5 v2 (sU S28 1 (upd (S28 1) (v2 : Int32).toNatClampNeg (1 &&& 1))) fun S46 =>
  gz 0 (some (0, S46)))))
def mM_needs (S : XS) (v1 : Int32) (v2 : Int32) : Option (Int32 × XS) :=
  (mM_isLemma S v1).bind fun x3 =>
  (if (x3 : Int32) = 0 then
  stS (sU S 15 (fun _ => 1)) fun S21 =>
  (if ((S21 15 0) : Int32) = 0 then
  rb (mM_isNeeded S21 v1 v2) fun x34 S34 =>
  (if (x34 : Int32) = 0 then
  gz 0 (some (0, S34))
  else
  gz 1 (some (1, S34)))
  else
  gz 0 (some (0, S21)))
  else
  (mM_isAxiom v2).bind fun x10 =>
  (if (x10 : Int32) = 0 then
  stS (sU S 15 (fun _ => 1)) fun S21 =>
  (if ((S21 15 0) : Int32) = 0 then
  rb (mM_isNeeded S21 v1 v2) fun x34 S34 =>
  (if (x34 : Int32) = 0 then
  gz 0 (some (0, S34))
  else
  gz 1 (some (1, S34)))
  else
  gz 0 (some (0, S21)))
  else
  stS (sU S 15 (fun _ => 0)) fun S21 =>
  (if ((S21 15 0) : Int32) = 0 then
  rb (mM_isNeeded S21 v1 v2) fun x34 S34 =>
  (if (x34 : Int32) = 0 then
  gz 0 (some (0, S34))
  else
  gz 1 (some (1, S34)))
  else
  gz 0 (some (0, S21)))))
def mM_provedBy (S : XS) (v1 : Int32) : Option (Int32 × XS) :=
  (rdA (S 6) 180 v1).bind fun x5 =>
  wrS 180 v1 (sU S 6 (upd (S 6) (v1 : Int32).toNatClampNeg 0)) fun S13 =>
  rb (mM_prove S13 (-1)) fun x16 S16 =>
  wrS 180 v1 (sU S16 6 (upd (S16 6) (v1 : Int32).toNatClampNeg x5)) fun S26 =>
  some (x16, S26)
def mM_advise_J86 (S : XS) (k : XS → Int32 → Int32 → Int32 → Option (Int32 × XS)) (v1 : Int32) (v2 : Int32) (v3 : Int32) (v4 : Int32) (v5 : Int32) (t0 : Int32) : Option (Int32 × XS) :=
  (if (v2 : Int32) < t0 then
  k S (((100 * v3) + (10 * v4)) + v5) t0 (v5 + 1)
  else
  k S v1 v2 (v5 + 1))
def mM_advise_F40 (k : XS → Int32 → Int32 → Int32 → Option (Int32 × XS)) (v3 : Int32) (v4 : Int32) (ih : XS → Int32 → Int32 → Int32 → Option (Int32 × XS)) (S : XS) (v1 : Int32) (v2 : Int32) (v5 : Int32) : Option (Int32 × XS) :=
  (rdA (S 3) 36 ((3 * v3) + v4)).bind fun x52 =>
  (if (x52 : Int32) ≤ v5 then
  k S v1 v2 (v4 + 1)
  else
  (mM_at v3 v4 v5).bind fun x61 =>
  (rdA (S 6) 180 x61).bind fun x72 =>
  (if (x72 : Int32) ≤ 0 then
  mM_advise_J86 S ih v1 v2 v3 v4 v5 0
  else
  rb (mM_provedBy S x61) fun x79 S79 =>
  mM_advise_J86 S79 ih v1 v2 v3 v4 v5 x79))
def mM_advise_F26 (k : XS → Int32 → Int32 → Int32 → Option (Int32 × XS)) (v3 : Int32) (ih : XS → Int32 → Int32 → Int32 → Option (Int32 × XS)) (S : XS) (v1 : Int32) (v2 : Int32) (v4 : Int32) : Option (Int32 × XS) :=
  (rdA (S 2) 12 v3).bind fun x33 =>
  (if (x33 : Int32) ≤ v4 then
  k S v1 v2 (v3 + 1)
  else
  itr4 (mM_advise_F40 ih v3 v4) FUEL S v1 v2 0)
def mM_advise_F15 (ih : XS → Int32 → Int32 → Int32 → Option (Int32 × XS)) (S : XS) (v1 : Int32) (v2 : Int32) (v3 : Int32) : Option (Int32 × XS) :=
  (if ((S 14 0) : Int32) ≤ v3 then
  some (v1, S)
  else
  itr4 (mM_advise_F26 ih v3) FUEL S v1 v2 0)
def mM_advise (S : XS) : Option (Int32 × XS) :=
  stS (sU S 15 (fun _ => 0)) fun S2 =>
  rb (mM_prove S2 (-1)) fun x9 S9 =>
  itr4 (mM_advise_F15) FUEL S9 (-1) x9 0
def mM_mean (S : XS) : Option (UInt64 × XS) :=
  stS (sU S 15 (fun _ => 0)) fun S2 =>
  (if ((S2 14 0) : Int32) = 0 then
  some (FP.dconst0, S2)
  else
  rb (mM_counted S2 4) fun x18 S18 =>
  (dvD (FP.i2d x18) (FP.i2d (S18 14 0))).bind fun x27 =>
  some (x27, S18))
def mM_digest_F181 (S : XS) (k : Int64 → Int32 → Option (Int64 × XS)) (v3 : Int32) (v4 : Int32) (v5 : Int32) (ih : Int64 → Int32 → Option (Int64 × XS)) (v1 : Int64) (v6 : Int32) : Option (Int64 × XS) :=
  (if (3 : Int32) < v6 then
  k v1 (v5 + 1)
  else
  (mM_at v3 v4 v5).bind fun x198 =>
  (mM_stepTold S x198 v6).bind fun x203 =>
  ih ((v1 * 31) + (x203 : Int32).toInt64) (v6 + 1))
def mM_digest_F162 (S : XS) (k : Int64 → Int32 → Option (Int64 × XS)) (v3 : Int32) (v4 : Int32) (ih : Int64 → Int32 → Option (Int64 × XS)) (v1 : Int64) (v5 : Int32) : Option (Int64 × XS) :=
  (rdA (S 3) 36 ((3 * v3) + v4)).bind fun x174 =>
  (if (x174 : Int32) ≤ v5 then
  k v1 (v4 + 1)
  else
  itr2 (mM_digest_F181 S ih v3 v4 v5) FUEL v1 0)
def mM_digest_F129 (S : XS) (k : XS → Int64 → Int32 → Option (Int64 × XS)) (v3 : Int32) (ih : Int64 → Int32 → Option (Int64 × XS)) (v1 : Int64) (v4 : Int32) : Option (Int64 × XS) :=
  (rdA (S 2) 12 v3).bind fun x136 =>
  (if (x136 : Int32) ≤ v4 then
  k S v1 (v3 + 1)
  else
  (rdA (S 3) 36 ((3 * v3) + v4)).bind fun x155 =>
  itr2 (mM_digest_F162 S ih v3 v4) FUEL ((v1 * 31) + (x155 : Int32).toInt64) 0)
def mM_digest_F98 (k : XS → Int64 → Int32 → Option (Int64 × XS)) (v3 : Int32) (ih : XS → Int64 → Int32 → Option (Int64 × XS)) (S : XS) (v1 : Int64) (v4 : Int32) : Option (Int64 × XS) :=
  (if (6 : Int32) < v4 then
  itr2 (mM_digest_F129 S k v3) FUEL v1 0
  else
  rb (mM_lemmaTold S v3 v4) fun x114 S114 =>
  ih S114 ((v1 * 31) + (x114 : Int32).toInt64) (v4 + 1))
def mM_digest_F87 (ih : XS → Int64 → Int32 → Option (Int64 × XS)) (S : XS) (v1 : Int64) (v3 : Int32) : Option (Int64 × XS) :=
  (if ((S 14 0) : Int32) ≤ v3 then
  some (v1, S)
  else
  itr3 (mM_digest_F98 ih v3) FUEL S v1 0)
def mM_digest_F48 (S : XS) (v4 : Int32) (ih : Int64 → Int32 → Option (Int64 × XS)) (v1 : Int64) (v5 : Int32) : Option (Int64 × XS) :=
  (if (v4 : Int32) ≤ v5 then
  itr3 (mM_digest_F87) FUEL S v1 0
  else
  (rdA (S 1) 5 v5).bind fun x58 =>
  (if (x58 : Int32) = 0 then
  ih ((v1 * 31) + (0 : Int32).toInt64) (v5 + 1)
  else
  ih ((v1 * 31) + (1 : Int32).toInt64) (v5 + 1)))
def mM_digest_F11 (ih : XS → Int64 → Int32 → Option (Int64 × XS)) (S : XS) (v1 : Int64) (v3 : Int32) : Option (Int64 × XS) :=
  (if (6 : Int32) < v3 then
  itr2 (mM_digest_F48 S 5) FUEL v1 0
  else
  rb (mM_counted S v3) fun x24 S24 =>
  ih S24 ((v1 * 31) + (x24 : Int32).toInt64) (v3 + 1))
def mM_digest (S : XS) : Option (Int64 × XS) :=
  stS (sU S 15 (fun _ => 0)) fun S2 =>
  itr3 (mM_digest_F11) FUEL S2 1847 0
end MIR
end
section
section ROWS2
variable {p : Program} {l : Launch} {e : Env} {R : Room} {s : State} {m : MethodId} {args : Array Value} {below : List Frame} {meth : Method} {c : Code} {H : Heap} {locs : List Loc} {cells slots : Nat} {Q : State → Prop}
variable {pc nL : Nat} {ls : Array Slot} {rest : List Value} {cc : ByteArray} {own : String} {D : va_G} {A : Nat → Prop} {H0 : Heap} {ρ : Type} {z : ρ} {cI cZ : ClassId} {a : Nat → Nat} {S : XS}
theorem k_mmin (C : CallFix p m c cc nL s args WW own) (hls : ls.size = nL) {idx : Nat} (hlink : (Cond.methodLink own idx Lib.Math.min.name).before args s = true) (hfr : 1 ≤ R.frames) (hlo : (rest.map fun v => v.category).sum + 13 ≤ R.locals) (hc : cells ≤ R.cells) (hs : slots ≤ R.slots) {x y : Int32} (hdg : decode cc pc = .ok (.invokestatic idx, 3)) (kk : W p l e R s m args below meth c H locs cells slots Q (F0 m (pc + 3) ls (.int (lmin x y) :: rest))) : W p l e R s m args below meth c H locs cells slots Q (F0 m pc ls (.int y :: .int x :: rest)) :=
  va_mmin C.1 C.2.1 (C.2.2.1.trans hls.symm) C.2.2.2.1 hlink (C.2.2.2.2 _ qT_mmin) (C.2.2.2.2 _ qN_J9) (C.2.2.2.2 _ qC_mmin) hfr hlo hc hs hdg kk
theorem k_mmax (C : CallFix p m c cc nL s args WW own) (hls : ls.size = nL) {idx : Nat} (hlink : (Cond.methodLink own idx Lib.Math.max.name).before args s = true) (hfr : 1 ≤ R.frames) (hlo : (rest.map fun v => v.category).sum + 13 ≤ R.locals) (hc : cells ≤ R.cells) (hs : slots ≤ R.slots) {x y : Int32} (hdg : decode cc pc = .ok (.invokestatic idx, 3)) (kk : W p l e R s m args below meth c H locs cells slots Q (F0 m (pc + 3) ls (.int (lmax x y) :: rest))) : W p l e R s m args below meth c H locs cells slots Q (F0 m pc ls (.int y :: .int x :: rest)) :=
  va_mmax C.1 C.2.1 (C.2.2.1.trans hls.symm) C.2.2.2.1 hlink (C.2.2.2.2 _ qT_mmax) (C.2.2.2.2 _ qN_J9) (C.2.2.2.2 _ qC_mmax) hfr hlo hc hs hdg kk
theorem k_ddiv (C : CallFix p m c cc nL s args WW own) {x y : UInt64} {K : UInt64 → Option ρ} (h : (dvD x y).bind K = some z) (hdg : decode cc pc = .ok (.ddiv, 1)) (kk : K (FP.ddiv x y) = some z → W p l e R s m args below meth c H locs cells slots Q (F0 m (pc + 1) ls (.double (FP.ddiv x y) :: rest))) : W p l e R s m args below meth c H locs cells slots Q (F0 m pc ls (.double y :: .double x :: rest)) := by
  unfold dvD at h
  by_cases q : (FP.ddiv x y) &&& 0x7fffffffffffffff ≤ 0x7ff0000000000000
  · rw [if_pos q] at h
    exact lv_ddiv C.1 C.2.1 hdg q (kk h)
  · rw [if_neg q] at h
    exact absurd h (by simp)
theorem ffill_0 (v : Int32) (f : Nat → Int32) : ffill 0 v f = f := by funext j; simp [ffill]
theorem ffill_s (i : Nat) (v : Int32) (f : Nat → Int32) : upd (ffill i v f) i v = ffill (i + 1) v f := by
  funext j
  simp only [upd, ffill]
  by_cases h1 : j = i
  · subst h1; simp
  · rw [if_neg h1]
    by_cases h2 : j < i
    · rw [if_pos h2, if_pos (by omega)]
    · rw [if_neg h2, if_neg (by omega)]
set_option maxHeartbeats 4000000 in
set_option maxRecDepth 100000 in
theorem tJ_fill {l : Launch} {D : va_G} {cI : ClassId} {q : Nat} {f : Nat → Int32} {v : Int32} {sz : Nat} : Met l yJ7_fill_53178 (Cond.code yJ7_fill_53178 cJ7_fill_53178 4 none :: WW) ({ frames := 0, cells := 0, slots := 0, locals := 0 }) (va_Pc [.ref q, .int v] (rwP D [(q, .inl (cI, 12, .inl f))] [(cI, .int)] sz)) (rwQv D [(q, .inl (cI, 12, .inl (ffill 12 v f)))] (va_A [(q, .inl (cI, 12, .inl f))] sz)) 0 0 (va_A [(q, .inl (cI, 12, .inl f))] sz) := by
  refine RW_of (own := RJ7) (Qc := fun A => rwQv D [(q, .inl (cI, 12, .inl (ffill 12 v f)))] A) (by decide) rfl (Nat.le_of_ble_eq_true rfl) ?_
  intro p e s m args below meth c A ha C hr hlk hP hK hD hA ls hl
  have hS : va_S A s.heap s.heap [] := va_S.rf
  have hl : lv_has ls 4 [(0, .ref q), (1, .int v)] := hl
  have L : ∀ (n i : Nat), i + n = 12 → ∀ (H : Heap) (locs : List Loc), va_P D vwCl [(q, .inl (cI, 12, .inl (ffill i v f)))] H → va_D A [(q, .inl (cI, 12, .inl (ffill i v f)))] → va_S A s.heap H locs → ∀ ls : Array Slot, lv_has ls 4 [(0, .ref q), (1, .int v), (2, .int (nI i)), (3, .int 12)] → W p l e ({ frames := 0, cells := 0, slots := 0, locals := 0 }) s m args below meth c H locs 0 0 (MQ below (rwQv D [(q, .inl (cI, 12, .inl (ffill 12 v f)))] A) args s 0 0 A) (F0 m 5 ls []) := by
    intro n
    induction n with
    | zero =>
      intro i hi H locs hP hD hS ls hl
      have hi : i = 12 := by omega
      subst hi
      refine lv_iload_n C.1 C.2.1 dJ7_fill_53178_5 rfl (lv_at hl 2 rfl) ?_
      refine lv_iload_n C.1 C.2.1 dJ7_fill_53178_6 rfl (lv_at hl 3 rfl) ?_
      refine lv_icmp_ge (tgt := 20) C.1 C.2.1 dJ7_fill_53178_7 (by decide) (fun _ => ?_) (fun c7 => absurd (by decide) c7)
      exact W.vret C.1 C.2.1 hr (fun t ht _ => ⟨⟨(), rfl, trivial, (show va_P D vwCl _ t.heap by rw [ht]; exact hP)⟩, hS.F ht⟩) hS.2.2 dJ7_fill_53178_20 hlk
    | succ n ih =>
      intro i hi H locs hP hD hS ls hl
      have hlt : i < 12 := by omega
      refine lv_iload_n C.1 C.2.1 dJ7_fill_53178_5 rfl (lv_at hl 2 rfl) ?_
      refine lv_iload_n C.1 C.2.1 dJ7_fill_53178_6 rfl (lv_at hl 3 rfl) ?_
      refine lv_icmp_ge (tgt := 20) C.1 C.2.1 dJ7_fill_53178_7 (by decide) (fun c7 => absurd c7 (nI_ge (a := i) (b := 12) hlt (by decide))) (fun _ => ?_)
      refine lv_aload_n C.1 C.2.1 dJ7_fill_53178_10 rfl (lv_at hl 0 rfl) ?_
      refine lv_iload_n C.1 C.2.1 dJ7_fill_53178_11 rfl (lv_at hl 2 rfl) ?_
      refine lv_iload_n C.1 C.2.1 dJ7_fill_53178_12 rfl (lv_at hl 1 rfl) ?_
      have hin : vp_in (nI i) 12 := vp_in_nI hlt (by decide)
      refine va_iast C.1 C.2.1 hK hP hD hS 0 0 rfl rfl hin dJ7_fill_53178_13 (fun H locs hP hD hS => ?_)
      rw [nI_clamp (by omega : i < 2 ^ 31), ffill_s] at hP hD
      refine lv_iinc (v := nI i + 1) (lv' := [(2, .int (nI i + 1)), (0, .ref q), (1, .int v), (3, .int 12)]) C.1 C.2.1 dJ7_fill_53178_14 hl (k := 2) rfl rfl (by decide) rfl (fun ls hl => ?_)
      refine lv_goto (tgt := 5) C.1 C.2.1 dJ7_fill_53178_17 (by decide) ?_
      rw [nI_1] at hl
      exact ih (i + 1) (by omega) _ _ hP hD hS ls (lv_sub hl [1, 2, 0, 3] rfl)
  refine lv_iconst (v := 0) C.1 C.2.1 dJ7_fill_53178_0 (by decide) ?_
  refine lv_istore_n (lv' := [(2, .int 0), (0, .ref q), (1, .int v)]) C.1 C.2.1 dJ7_fill_53178_1 rfl hl (by decide) rfl (fun ls hl => ?_)
  refine lv_aload_n C.1 C.2.1 dJ7_fill_53178_2 rfl (lv_at hl 1 rfl) ?_
  refine va_alen C.1 C.2.1 hK hP 0 0 rfl rfl (v := 12) rfl dJ7_fill_53178_3 ?_
  refine lv_istore_n (lv' := [(3, .int 12), (2, .int 0), (0, .ref q), (1, .int v)]) C.1 C.2.1 dJ7_fill_53178_4 rfl hl (by decide) rfl (fun ls hl => ?_)
  exact L 12 0 rfl _ _ (by rw [ffill_0]; exact hP) (by rw [ffill_0]; exact hD) hS ls (lv_sub hl [2, 3, 1, 0] rfl)
theorem va_P_fill {D : va_G} {cl : List vw_C} {ws : va_W} {H H1 : Heap} {A : Nat → Prop} {r q : Nat} {e0 e1 : va_E} (hP : va_P D cl ws H) (hD : va_D A ws) (hr : ws[r]? = some (q, e0)) (h1 : va_at D cl (q, e1) H1) (hk : ∀ x : Nat, x < H.size → ¬ va_A [(q, e0)] H.size x → H1[x]? = H[x]?) : va_P D cl (ws.set r (q, e1)) H1 := by
  intro k x hx
  rw [List.getElem?_set] at hx
  by_cases hkr : r = k
  · subst hkr
    have hlt : r < ws.length := (List.getElem?_eq_some_iff.mp hr).1
    rw [if_pos rfl, if_pos hlt] at hx
    cases hx
    exact h1
  · rw [if_neg hkr] at hx
    have hx0 := hP k x hx
    refine hx0.kept (hk x.1 hx0.lt (fun hA => ?_))
    rcases hA with ⟨j, e, hj⟩ | hj
    · match j, hj with
      | 0, hj =>
        have e2 : q = x.1 := congrArg Prod.fst (Option.some.inj hj)
        exact hkr (hD.1 r k _ _ hr hx e2)
      | j + 1, hj => simp at hj
    · exact absurd hx0.lt (Nat.not_lt.mpr hj)
theorem k_fillX0 (C : CallFix p m c cc nL s args WW own) (hK : va_K D vwCl (tyIZ cI cZ) s) (hP : va_P D vwCl (wX cI cZ a S) H) (hD : va_D A (wX cI cZ a S)) (hS : va_S A H0 H locs) (hA : ∀ q, H0.size ≤ q → A q) {r : Nat} (hr : 8 ≤ r ∧ r ≤ 13) {v : Int32} {K : XS → Option ρ} (h : stS (sU S r (ffill 12 v (S r))) K = some z) {idx : Nat}
    (cw : CallB R s args own idx yJ7_fill_53178 cJ7_fill_53178 4 none (Cond.code yJ7_fill_53178 cJ7_fill_53178 4 none :: WW) ({ frames := 0, cells := 0, slots := 0, locals := 0 }) 0 0 2 ∧ (Cond.static yJ7_fill_53178).before args s = true) (hls : ls.size = nL) (hst : (rest.map fun v => v.category).sum ≤ 8) (hf : cells + 0 ≤ R.cells ∧ slots + 0 ≤ R.slots) (hdg : decode cc pc = .ok (.invokestatic idx, 3))
    (kk : ∀ (S1 : XS) (H1 : Heap) (locs1 : List Loc), K S1 = some z → va_P D vwCl (wX cI cZ a S1) H1 → va_D A (wX cI cZ a S1) → va_S A H0 H1 locs1 → W p l e R s m args below meth c H1 locs1 cells slots Q (F0 m (pc + 3) ls rest)) : W p l e R s m args below meth c H locs cells slots Q (F0 m pc ls (.int v :: .ref (a r) :: rest)) := by
  have hrow := wX_row (cI := cI) (cZ := cZ) (a := a) (S := S) hr
  have hPc : va_P D vwCl [(a r, .inl (cI, 12, .inl (S r)))] H := by
    intro k q hk
    match k, hk with
    | 0, hk => cases hk; exact hP r _ hrow
    | k + 1, hk => simp at hk
  have hDc : va_D A [(a r, .inl (cI, 12, .inl (S r)))] := by
    refine ⟨fun i j p q hp hq _ => ?_, fun k q hk => ?_⟩
    · match i, j, hp, hq with
      | 0, 0, _, _ => rfl
      | 0, j + 1, _, hq => simp at hq
      | i + 1, _, hp, _ => simp at hp
    · match k, hk with
      | 0, hk => cases hk; exact hD.2 r _ hrow
      | k + 1, hk => simp at hk
  have hKc : va_K D vwCl [(cI, .int)] s := hK.sub [0] rfl
  have hF := A_sub hDc hS hA
  refine va_callv (va_runS (As := [.ref (a r), .int v]) (rest := rest) C (tJ_fill (l := l) (D := D) (cI := cI) (q := a r) (f := S r) (v := v) (sz := H.size)) cw ⟨rwP_blind, fun U hU hW => ⟨rfl, by rw [hU], by rw [hU]; exact hPc, hKc.moved hW.alike, hDc.weaken (fun _ _ _ _ => trivial)⟩⟩ rfl rfl hls rfl (lv_room hst) hdg hf) hS (fun q _ h => hF q h) hF (fun u t H1 locs1 ht _ _ hB hz1 hk1 hS1 => ?_)
  have hB1 : va_P D vwCl [(a r, .inl (cI, 12, .inl (ffill 12 v (S r))))] H1 := ht ▸ hB
  have hP1 := va_P_fill hP hD hrow (hB1 0 _ rfl) hk1
  rw [wX_srow hr] at hP1
  exact kk _ H1 locs1 h hP1 (D_same hD (wX_ad _ _)) hS1
theorem cpI_h {σ ρ : Type} {z : ρ} {n : Nat} {sp dp len : Int32} {f : Nat → Int32} {u : (Nat → Int32) → σ} {K : σ → Option ρ} (h : cpI n sp dp len f u K = some z) : ¬ sp < 0 ∧ ¬ dp < 0 ∧ ¬ len < 0 ∧ sp.toNatClampNeg + len.toNatClampNeg ≤ n ∧ dp.toNatClampNeg + len.toNatClampNeg ≤ n ∧ K (u (va_cpy f f sp.toNatClampNeg dp.toNatClampNeg len.toNatClampNeg)) = some z := by
  unfold cpI at h
  by_cases c : sp < 0 ∨ dp < 0 ∨ len < 0 ∨ n < sp.toNatClampNeg + len.toNatClampNeg ∨ n < dp.toNatClampNeg + len.toNatClampNeg
  · rw [if_pos c] at h; cases h
  · rw [if_neg c] at h
    exact ⟨fun q => c (Or.inl q), fun q => c (Or.inr (Or.inl q)), fun q => c (Or.inr (Or.inr (Or.inl q))), Nat.not_lt.mp fun q => c (Or.inr (Or.inr (Or.inr (Or.inl q)))), Nat.not_lt.mp fun q => c (Or.inr (Or.inr (Or.inr (Or.inr q)))), h⟩
theorem cpZ_h {σ ρ : Type} {z : ρ} {n : Nat} {sp dp len : Int32} {f : Nat → Int32} {u : (Nat → Int32) → σ} {K : σ → Option ρ} (h : cpZ n sp dp len f u K = some z) : cpI n sp dp len f u K = some z := by
  unfold cpZ at h
  split at h
  · exact h
  · cases h
theorem cpZ_fit {σ ρ : Type} {z : ρ} {n : Nat} {sp dp len : Int32} {f : Nat → Int32} {u : (Nat → Int32) → σ} {K : σ → Option ρ} (h : cpZ n sp dp len f u K = some z) (i : Nat) (hi : i < len.toNatClampNeg) : fits .boolean (.int (f (sp.toNatClampNeg + i))) = true := by
  unfold cpZ at h
  split at h
  · rename_i hc
    exact List.all_eq_true.mp hc i (List.mem_range.mpr hi)
  · cases h
theorem cX1_kind (C : CallFix p m c cc nL s args WW RX1) (hK : va_K D vwCl (tyIZ cI cZ) s) (hP : va_P D vwCl (wM cI cZ a S) H) (hD : va_D A (wM cI cZ a S)) (hS : va_S A H0 H locs) (hls : ls.size = nL) (hfr : 1 ≤ R.frames) (hlo : (rest.map fun v => v.category).sum + (nativeFrameWords "java/lang/System" "arraycopy" 5 + 11) ≤ R.locals) {sp dp n : Int32} {K : XS → Option ρ} (h : cpI 180 sp dp n (S 4) (fun g => sU S 4 g) K = some z) (hdg : decode cc pc = .ok (.invokestatic 114, 3))
    (kk : ∀ (S1 : XS) (H1 : Heap) (locs1 : List Loc), K S1 = some z → va_P D vwCl (wM cI cZ a S1) H1 → va_D A (wM cI cZ a S1) → va_S A H0 H1 locs1 → W p l e R s m args below meth c H1 locs1 cells slots Q (F0 m (pc + 3) ls rest)) : W p l e R s m args below meth c H locs cells slots Q (F0 m pc ls (.int n :: .int dp :: .ref (a 4) :: .int sp :: .ref (a 4) :: rest)) := by
  obtain ⟨h1, h2, h3, h4, h5, h6⟩ := cpI_h h
  exact va_copyi C.1 C.2.1 (C.2.2.1.trans hls.symm) C.2.2.2.1 (C.2.2.2.2 _ qM_X1_114) (C.2.2.2.2 _ qV_arraycopy) (C.2.2.2.2 _ qT_arraycopy) (C.2.2.2.2 _ qN_J10) hK hP hD hS 4 4 0 0 rfl rfl rfl rfl rfl h1 h2 h3 h4 h5 (fun _ _ => rfl) hfr hlo hdg (fun H1 l1 p d q => kk _ H1 l1 h6 p d q)
theorem cX1_cited (C : CallFix p m c cc nL s args WW RX1) (hK : va_K D vwCl (tyIZ cI cZ) s) (hP : va_P D vwCl (wM cI cZ a S) H) (hD : va_D A (wM cI cZ a S)) (hS : va_S A H0 H locs) (hls : ls.size = nL) (hfr : 1 ≤ R.frames) (hlo : (rest.map fun v => v.category).sum + (nativeFrameWords "java/lang/System" "arraycopy" 5 + 11) ≤ R.locals) {sp dp n : Int32} {K : XS → Option ρ} (h : cpI 180 sp dp n (S 5) (fun g => sU S 5 g) K = some z) (hdg : decode cc pc = .ok (.invokestatic 114, 3))
    (kk : ∀ (S1 : XS) (H1 : Heap) (locs1 : List Loc), K S1 = some z → va_P D vwCl (wM cI cZ a S1) H1 → va_D A (wM cI cZ a S1) → va_S A H0 H1 locs1 → W p l e R s m args below meth c H1 locs1 cells slots Q (F0 m (pc + 3) ls rest)) : W p l e R s m args below meth c H locs cells slots Q (F0 m pc ls (.int n :: .int dp :: .ref (a 5) :: .int sp :: .ref (a 5) :: rest)) := by
  obtain ⟨h1, h2, h3, h4, h5, h6⟩ := cpI_h h
  exact va_copyi C.1 C.2.1 (C.2.2.1.trans hls.symm) C.2.2.2.1 (C.2.2.2.2 _ qM_X1_114) (C.2.2.2.2 _ qV_arraycopy) (C.2.2.2.2 _ qT_arraycopy) (C.2.2.2.2 _ qN_J10) hK hP hD hS 5 5 0 0 rfl rfl rfl rfl rfl h1 h2 h3 h4 h5 (fun _ _ => rfl) hfr hlo hdg (fun H1 l1 p d q => kk _ H1 l1 h6 p d q)
theorem cX1_open (C : CallFix p m c cc nL s args WW RX1) (hK : va_K D vwCl (tyIZ cI cZ) s) (hP : va_P D vwCl (wM cI cZ a S) H) (hD : va_D A (wM cI cZ a S)) (hS : va_S A H0 H locs) (hls : ls.size = nL) (hfr : 1 ≤ R.frames) (hlo : (rest.map fun v => v.category).sum + (nativeFrameWords "java/lang/System" "arraycopy" 5 + 11) ≤ R.locals) {sp dp n : Int32} {K : XS → Option ρ} (h : cpI 180 sp dp n (S 6) (fun g => sU S 6 g) K = some z) (hdg : decode cc pc = .ok (.invokestatic 114, 3))
    (kk : ∀ (S1 : XS) (H1 : Heap) (locs1 : List Loc), K S1 = some z → va_P D vwCl (wM cI cZ a S1) H1 → va_D A (wM cI cZ a S1) → va_S A H0 H1 locs1 → W p l e R s m args below meth c H1 locs1 cells slots Q (F0 m (pc + 3) ls rest)) : W p l e R s m args below meth c H locs cells slots Q (F0 m pc ls (.int n :: .int dp :: .ref (a 6) :: .int sp :: .ref (a 6) :: rest)) := by
  obtain ⟨h1, h2, h3, h4, h5, h6⟩ := cpI_h h
  exact va_copyi C.1 C.2.1 (C.2.2.1.trans hls.symm) C.2.2.2.1 (C.2.2.2.2 _ qM_X1_114) (C.2.2.2.2 _ qV_arraycopy) (C.2.2.2.2 _ qT_arraycopy) (C.2.2.2.2 _ qN_J10) hK hP hD hS 6 6 0 0 rfl rfl rfl rfl rfl h1 h2 h3 h4 h5 (fun _ _ => rfl) hfr hlo hdg (fun H1 l1 p d q => kk _ H1 l1 h6 p d q)
theorem cX1_isOut (C : CallFix p m c cc nL s args WW RX1) (hK : va_K D vwCl (tyIZ cI cZ) s) (hP : va_P D vwCl (wM cI cZ a S) H) (hD : va_D A (wM cI cZ a S)) (hS : va_S A H0 H locs) (hls : ls.size = nL) (hfr : 1 ≤ R.frames) (hlo : (rest.map fun v => v.category).sum + (nativeFrameWords "java/lang/System" "arraycopy" 5 + 11) ≤ R.locals) {sp dp n : Int32} {K : XS → Option ρ} (h : cpZ 180 sp dp n (S 7) (fun g => sU S 7 g) K = some z) (hdg : decode cc pc = .ok (.invokestatic 114, 3))
    (kk : ∀ (S1 : XS) (H1 : Heap) (locs1 : List Loc), K S1 = some z → va_P D vwCl (wM cI cZ a S1) H1 → va_D A (wM cI cZ a S1) → va_S A H0 H1 locs1 → W p l e R s m args below meth c H1 locs1 cells slots Q (F0 m (pc + 3) ls rest)) : W p l e R s m args below meth c H locs cells slots Q (F0 m pc ls (.int n :: .int dp :: .ref (a 7) :: .int sp :: .ref (a 7) :: rest)) := by
  obtain ⟨h1, h2, h3, h4, h5, h6⟩ := cpI_h (cpZ_h h)
  exact va_copyi C.1 C.2.1 (C.2.2.1.trans hls.symm) C.2.2.2.1 (C.2.2.2.2 _ qM_X1_114) (C.2.2.2.2 _ qV_arraycopy) (C.2.2.2.2 _ qT_arraycopy) (C.2.2.2.2 _ qN_J10) hK hP hD hS 7 7 1 1 rfl rfl rfl rfl rfl h1 h2 h3 h4 h5 (fun i hi => cpZ_fit h i hi) hfr hlo hdg (fun H1 l1 p d q => kk _ H1 l1 h6 p d q)
end ROWS2
end
section
theorem zz_look : True := trivial
end
