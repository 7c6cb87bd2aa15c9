section LAWBODY
set_option maxHeartbeats 16000000 in
set_option maxRecDepth 100000 in
theorem law_body {p : Program} {l : Launch} (hfl : l.stackTraces = false) {e : Env} {s : State} {m : MethodId} {below : List Frame} {meth : Method} {c : Code} {b L : Nat} {xs : Nat → Int32} (hL : L ≤ 260) (C : CallFix p m c cL_law 21 s #[Value.ref b] WW RL) (hr : meth.sig.returnType = ret) (hlk : meth.locks = false) (hX : va_X b L xs s s.heap) (hbl : b < s.heap.size) {D : va_G} {k : Nat → ClassId} {ax : Nat → Nat} (hK : va_K D vwCl (tyH k) s) (hB : hBX s) {A : Nat → Prop} (hA : ∀ q, s.heap.size ≤ q → A q) (hqA : ¬ A b) (hAf : ∀ q, A q → s.heap.size ≤ q) (hE : excA A s) : ∀ (S : XS) (Hp : HS), mL_law_J8 xs L S Hp = some 1 → ∀ (a : Nat → Nat) (H : Heap) (locs : List Loc) (cells slots : Nat) (hT : hST D k A s (wXk k ax S) (fun _ => 0) 0 a Hp H locs) (hc : cells + 157879 ≤ 500000) (hsl : slots ≤ 14 * cells + 1000) (ls : Array Slot), lv_has ls 21 [(0, .ref b), (1, .ref (ax 0))] → W p l e room_1 s m #[Value.ref b] below meth c H locs cells slots (lw_Z below #[Value.ref b] s) (F0 m 8 ls []) := by
  have J1029 : ∀ (n22 : Nat) (S : XS) (Hp : HS) (v2 : Nat) (v3 : Int32) (v5 : Int64) (v14 : Int32) (v16 : Int32) (v18 : Int32) (v19 : Int32) (kk : XS → HS → Int32 → Option Int32) (hk : ∀ (S : XS) (Hp : HS) (v3 : Int32), kk S Hp v3 = some 1 → ∀ (a : Nat → Nat) (H : Heap) (locs : List Loc) (cells slots : Nat) (hT : hST D k A s (wXk k ax S) (fun _ => 0) 0 a Hp H locs) (hc : cells + n22 * 4658 + 70516 ≤ 500000) (hsl : slots ≤ 14 * cells + 1000) (ls : Array Slot), lv_has ls 21 [(0, .ref b), (1, .ref (ax 0)), (2, .ref (a v2)), (3, .int v3)] → W p l e room_1 s m #[Value.ref b] below meth c H locs cells slots (lw_Z below #[Value.ref b] s) (F0 m 22 ls [])), mL_law_J1029 xs L kk S Hp v2 v3 v5 v14 v16 v18 v19 = some 1 → ∀ (a : Nat → Nat) (H : Heap) (locs : List Loc) (cells slots : Nat) (hT : hST D k A s (wXk k ax S) (fun _ => 0) 0 a Hp H locs) (hc : cells + 1 + n22 * 4658 + 70516 ≤ 500000) (hsl : slots ≤ 14 * cells + 1000) (ls : Array Slot), lv_has ls 21 [(0, .ref b), (1, .ref (ax 0)), (2, .ref (a v2)), (3, .int v3), (5, .long v5), (14, .int v14), (16, .int v16), (18, .int v18), (19, .int v19)] → W p l e room_1 s m #[Value.ref b] below meth c H locs cells slots (lw_Z below #[Value.ref b] s) (F0 m 1029 ls []) := by
    intro n22 S Hp v2 v3 v5 v14 v16 v18 v19 kk hk h a H locs cells slots hT hc hsl ls hl
    unfold mL_law_J1029 at h
    refine lv_aload_n C.1 C.2.1 dL_law_1029 rfl (lv_at hl 1 rfl) ?_
    refine lv_iload C.1 C.2.1 dL_law_1030 (lv_at hl 5 rfl) ?_
    refine lv_iload C.1 C.2.1 dL_law_1032 (lv_at hl 6 rfl) ?_
    refine lv_iload C.1 C.2.1 dL_law_1034 (lv_at hl 7 rfl) ?_
    refine x_TW C hK hA hE hT [.int v14, .int v16, .int v18] h (fun o e => tX0_withdraw hfl e) (cb_L_52 C.2.2.2.2 ⟨Nat.le_of_ble_eq_true rfl, Nat.le_of_ble_eq_true rfl⟩) rfl hl.1 (Nat.le_of_ble_eq_true rfl) ⟨(by show _ ≤ 600104; omega), (by show _ ≤ 7301314; omega)⟩ dL_law_1036 rfl (fun x1036 S1036 H locs h hT => ?_)
    refine lv_iload C.1 C.2.1 dL_law_1039 (lv_at hl 8 rfl) ?_
    refine k_icmp_ne (tgt := 1054) C dL_law_1041 (by decide) h (fun c1041 h => ?_) (fun c1041 h => ?_)
    · refine lv_iconst (v := 0) C.1 C.2.1 dL_law_1054 (by decide) ?_
      cases h
    · refine lv_aload_n C.1 C.2.1 dL_law_1044 rfl (lv_at hl 1 rfl) ?_
      refine x_ROl C hK hT [] h (fun v e => tX0_digest e) (cb_L_86 C.2.2.2.2 ⟨Nat.le_of_ble_eq_true rfl, Nat.le_of_ble_eq_true rfl⟩) rfl hl.1 (Nat.le_of_ble_eq_true rfl) ⟨(by show _ ≤ 600104; omega), (by show _ ≤ 7301314; omega)⟩ dL_law_1045 rfl (fun x1045 h => ?_)
      refine lv_lload C.1 C.2.1 dL_law_1048 (lv_at hl 4 rfl) ?_
      refine W.lcmp C.1 C.2.1 dL_law_1050 ?_
      refine k_if_eq (tgt := 1056) C dL_law_1051 (by decide) h (fun c1051 h => ?_) (fun c1051 h => ?_)
      · refine lv_iinc (v := (v3 + 1)) (lv' := [(3, .int (v3 + 1)), (0, .ref b), (1, .ref (ax 0)), (2, .ref (a v2)), (5, .long v5), (14, .int v14), (16, .int v16), (18, .int v18), (19, .int v19)]) C.1 C.2.1 dL_law_1056 hl (k := 3) rfl rfl (by decide) rfl (fun ls hl => ?_)
        refine lv_goto (tgt := 22) C.1 C.2.1 dL_law_1059 (by decide) ?_
        exact hk S1036 Hp (v3 + 1) h _ _ _ _ _ hT (by omega) (by omega) ls (lv_sub hl [1, 2, 3, 0] rfl)
      · refine lv_iconst (v := 0) C.1 C.2.1 dL_law_1054 (by decide) ?_
        cases h
  have J1009 : ∀ (n22 : Nat) (S : XS) (Hp : HS) (v2 : Nat) (v3 : Int32) (v5 : Int64) (v14 : Int32) (v16 : Int32) (v18 : Int32) (v19 : Int32) (t0 : Int32) (t1 : Int32) (kk : XS → HS → Int32 → Option Int32) (hk : ∀ (S : XS) (Hp : HS) (v3 : Int32), kk S Hp v3 = some 1 → ∀ (a : Nat → Nat) (H : Heap) (locs : List Loc) (cells slots : Nat) (hT : hST D k A s (wXk k ax S) (fun _ => 0) 0 a Hp H locs) (hc : cells + n22 * 4658 + 70516 ≤ 500000) (hsl : slots ≤ 14 * cells + 1000) (ls : Array Slot), lv_has ls 21 [(0, .ref b), (1, .ref (ax 0)), (2, .ref (a v2)), (3, .int v3)] → W p l e room_1 s m #[Value.ref b] below meth c H locs cells slots (lw_Z below #[Value.ref b] s) (F0 m 22 ls [])), mL_law_J1009 xs L kk S Hp v2 v3 v5 v14 v16 v18 v19 t0 t1 = some 1 → ∀ (a : Nat → Nat) (H : Heap) (locs : List Loc) (cells slots : Nat) (hT : hST D k A s (wXk k ax S) (fun _ => 0) 0 a Hp H locs) (hc : cells + 1 + n22 * 4658 + 70516 ≤ 500000) (hsl : slots ≤ 14 * cells + 1000) (ls : Array Slot), lv_has ls 21 [(0, .ref b), (1, .ref (ax 0)), (2, .ref (a v2)), (3, .int v3), (5, .long v5), (14, .int v14), (16, .int v16), (18, .int v18), (19, .int v19)] → W p l e room_1 s m #[Value.ref b] below meth c H locs cells slots (lw_Z below #[Value.ref b] s) (F0 m 1009 ls [.int t0, .int t1]) := by
    intro n22 S Hp v2 v3 v5 v14 v16 v18 v19 t0 t1 kk hk h a H locs cells slots hT hc hsl ls hl
    unfold mL_law_J1009 at h
    refine k_icmp_ne (tgt := 1054) C dL_law_1009 (by decide) h (fun c1009 h => ?_) (fun c1009 h => ?_)
    · refine lv_iconst (v := 0) C.1 C.2.1 dL_law_1054 (by decide) ?_
      cases h
    · refine lv_iload C.1 C.2.1 dL_law_1012 (lv_at hl 8 rfl) ?_
      refine k_if_ne (tgt := 1029) C dL_law_1014 (by decide) h (fun c1014 h => ?_) (fun c1014 h => ?_)
      · exact J1029 n22 S Hp v2 v3 v5 v14 v16 v18 v19 kk hk h _ _ _ _ _ hT (by omega) (by omega) ls (lv_sub hl [0, 1, 2, 3, 4, 5, 6, 7, 8] rfl)
      · refine lv_aload_n C.1 C.2.1 dL_law_1017 rfl (lv_at hl 1 rfl) ?_
        refine lv_iload C.1 C.2.1 dL_law_1018 (lv_at hl 5 rfl) ?_
        refine lv_iload C.1 C.2.1 dL_law_1020 (lv_at hl 6 rfl) ?_
        refine lv_iconst (v := 1) C.1 C.2.1 dL_law_1022 (by decide) ?_
        refine x_TR C hK hA hE hT [.int v14, .int v16, .int 1] h (fun o e => tX0_about hfl e) (cb_L_99 C.2.2.2.2 ⟨Nat.le_of_ble_eq_true rfl, Nat.le_of_ble_eq_true rfl⟩) rfl hl.1 (Nat.le_of_ble_eq_true rfl) ⟨(by show _ ≤ 600104; omega), (by show _ ≤ 7301314; omega)⟩ dL_law_1023 rfl (fun x1023 h => ?_)
        refine k_if_ne (tgt := 1054) C dL_law_1026 (by decide) h (fun c1026 h => ?_) (fun c1026 h => ?_)
        · refine lv_iconst (v := 0) C.1 C.2.1 dL_law_1054 (by decide) ?_
          cases h
        · exact J1029 n22 S Hp v2 v3 v5 v14 v16 v18 v19 kk hk h _ _ _ _ _ hT (by omega) (by omega) ls (lv_sub hl [0, 1, 2, 3, 4, 5, 6, 7, 8] rfl)
  have J971 : ∀ (n22 : Nat) (S : XS) (Hp : HS) (v2 : Nat) (v3 : Int32) (v5 : Int64) (v14 : Int32) (v16 : Int32) (v18 : Int32) (t0 : Int32) (kk : XS → HS → Int32 → Option Int32) (hk : ∀ (S : XS) (Hp : HS) (v3 : Int32), kk S Hp v3 = some 1 → ∀ (a : Nat → Nat) (H : Heap) (locs : List Loc) (cells slots : Nat) (hT : hST D k A s (wXk k ax S) (fun _ => 0) 0 a Hp H locs) (hc : cells + n22 * 4658 + 70516 ≤ 500000) (hsl : slots ≤ 14 * cells + 1000) (ls : Array Slot), lv_has ls 21 [(0, .ref b), (1, .ref (ax 0)), (2, .ref (a v2)), (3, .int v3)] → W p l e room_1 s m #[Value.ref b] below meth c H locs cells slots (lw_Z below #[Value.ref b] s) (F0 m 22 ls [])), mL_law_J971 xs L kk S Hp v2 v3 v5 v14 v16 v18 t0 = some 1 → ∀ (a : Nat → Nat) (H : Heap) (locs : List Loc) (cells slots : Nat) (hT : hST D k A s (wXk k ax S) (fun _ => 0) 0 a Hp H locs) (hc : cells + 1 + n22 * 4658 + 70516 ≤ 500000) (hsl : slots ≤ 14 * cells + 1000) (ls : Array Slot), lv_has ls 21 [(0, .ref b), (1, .ref (ax 0)), (2, .ref (a v2)), (3, .int v3), (5, .long v5), (14, .int v14), (16, .int v16), (18, .int v18)] → W p l e room_1 s m #[Value.ref b] below meth c H locs cells slots (lw_Z below #[Value.ref b] s) (F0 m 971 ls [.int t0]) := by
    intro n22 S Hp v2 v3 v5 v14 v16 v18 t0 kk hk h a H locs cells slots hT hc hsl ls hl
    unfold mL_law_J971 at h
    refine lv_istore (lv' := [(19, .int t0), (0, .ref b), (1, .ref (ax 0)), (2, .ref (a v2)), (3, .int v3), (5, .long v5), (14, .int v14), (16, .int v16), (18, .int v18)]) C.1 C.2.1 dL_law_971 hl (by decide) rfl (fun ls hl => ?_)
    refine lv_aload_n C.1 C.2.1 dL_law_973 rfl (lv_at hl 2 rfl) ?_
    refine lv_iload C.1 C.2.1 dL_law_974 (lv_at hl 6 rfl) ?_
    refine lv_iload C.1 C.2.1 dL_law_976 (lv_at hl 7 rfl) ?_
    refine lv_iload C.1 C.2.1 dL_law_978 (lv_at hl 8 rfl) ?_
    refine x_TW C hK hA hE hT [.int v14, .int v16, .int v18] h (fun o e => tX0_withdraw hfl e) (cb_L_52 C.2.2.2.2 ⟨Nat.le_of_ble_eq_true rfl, Nat.le_of_ble_eq_true rfl⟩) rfl hl.1 (Nat.le_of_ble_eq_true rfl) ⟨(by show _ ≤ 600104; omega), (by show _ ≤ 7301314; omega)⟩ dL_law_980 rfl (fun x980 S980 H locs h hT => ?_)
    refine lv_iload C.1 C.2.1 dL_law_983 (lv_at hl 0 rfl) ?_
    refine k_icmp_eq (tgt := 1054) C dL_law_985 (by decide) h (fun c985 h => ?_) (fun c985 h => ?_)
    · refine lv_iconst (v := 0) C.1 C.2.1 dL_law_1054 (by decide) ?_
      cases h
    · refine lv_aload_n C.1 C.2.1 dL_law_988 rfl (lv_at hl 2 rfl) ?_
      refine lv_iload C.1 C.2.1 dL_law_989 (lv_at hl 6 rfl) ?_
      refine lv_iload C.1 C.2.1 dL_law_991 (lv_at hl 7 rfl) ?_
      refine lv_iload C.1 C.2.1 dL_law_993 (lv_at hl 8 rfl) ?_
      refine lv_iconst (v := 3) C.1 C.2.1 dL_law_995 (by decide) ?_
      refine x_TR C hK hA hE hT [.int v14, .int v16, .int v18, .int 3] h (fun o e => tX0_step hfl e) (cb_L_103 C.2.2.2.2 ⟨Nat.le_of_ble_eq_true rfl, Nat.le_of_ble_eq_true rfl⟩) rfl hl.1 (Nat.le_of_ble_eq_true rfl) ⟨(by show _ ≤ 600104; omega), (by show _ ≤ 7301314; omega)⟩ dL_law_996 rfl (fun x996 h => ?_)
      refine lv_iload C.1 C.2.1 dL_law_999 (lv_at hl 0 rfl) ?_
      refine k_if_eq (tgt := 1008) C dL_law_1001 (by decide) h (fun c1001 h => ?_) (fun c1001 h => ?_)
      · refine lv_iconst (v := 1) C.1 C.2.1 dL_law_1008 (by decide) ?_
        exact J1009 n22 S980 Hp v2 v3 v5 v14 v16 v18 t0 1 x996 kk hk h _ _ _ _ _ hT (by omega) (by omega) ls (lv_sub hl [1, 2, 3, 4, 5, 6, 7, 8, 0] rfl)
      · refine lv_iconst (v := 0) C.1 C.2.1 dL_law_1004 (by decide) ?_
        refine lv_goto (tgt := 1009) C.1 C.2.1 dL_law_1005 (by decide) ?_
        exact J1009 n22 S980 Hp v2 v3 v5 v14 v16 v18 t0 0 x996 kk hk h _ _ _ _ _ hT (by omega) (by omega) ls (lv_sub hl [1, 2, 3, 4, 5, 6, 7, 8, 0] rfl)
  have J866 : ∀ (n22 : Nat) (S : XS) (Hp : HS) (v2 : Nat) (v3 : Int32) (v4 : Int32) (v7 : Int32) (v12 : Int32) (kk : XS → HS → Int32 → Option Int32) (hk : ∀ (S : XS) (Hp : HS) (v3 : Int32), kk S Hp v3 = some 1 → ∀ (a : Nat → Nat) (H : Heap) (locs : List Loc) (cells slots : Nat) (hT : hST D k A s (wXk k ax S) (fun _ => 0) 0 a Hp H locs) (hc : cells + n22 * 4658 + 70516 ≤ 500000) (hsl : slots ≤ 14 * cells + 1000) (ls : Array Slot), lv_has ls 21 [(0, .ref b), (1, .ref (ax 0)), (2, .ref (a v2)), (3, .int v3)] → W p l e room_1 s m #[Value.ref b] below meth c H locs cells slots (lw_Z below #[Value.ref b] s) (F0 m 22 ls [])), mL_law_J866 xs L kk S Hp v2 v3 v4 v7 v12 = some 1 → ∀ (a : Nat → Nat) (H : Heap) (locs : List Loc) (cells slots : Nat) (hT : hST D k A s (wXk k ax S) (fun _ => 0) 0 a Hp H locs) (hc : cells + 1 + n22 * 4658 + 70516 ≤ 500000) (hsl : slots ≤ 14 * cells + 1000) (ls : Array Slot), lv_has ls 21 [(0, .ref b), (1, .ref (ax 0)), (2, .ref (a v2)), (3, .int v3), (4, .int v4), (7, .int v7), (12, .int v12)] → W p l e room_1 s m #[Value.ref b] below meth c H locs cells slots (lw_Z below #[Value.ref b] s) (F0 m 866 ls []) := by
    intro n22 S Hp v2 v3 v4 v7 v12 kk hk h a H locs cells slots hT hc hsl ls hl
    unfold mL_law_J866 at h
    refine lv_aload_n C.1 C.2.1 dL_law_866 rfl (lv_at hl 2 rfl) ?_
    refine h_get0 C hK qF_L_21 hT.1 h dL_law_867 (fun x867 h => ?_)
    refine lv_iload C.1 C.2.1 dL_law_870 (lv_at hl 6 rfl) ?_
    refine lv_iconst (v := 1) C.1 C.2.1 dL_law_872 (by decide) ?_
    refine h_ist1 C hK hT h dL_law_873 (fun Hp873 H locs h hT => ?_)
    refine lv_aload_n C.1 C.2.1 dL_law_874 rfl (lv_at hl 1 rfl) ?_
    refine x_ROl C hK hT [] h (fun v e => tX0_digest e) (cb_L_86 C.2.2.2.2 ⟨Nat.le_of_ble_eq_true rfl, Nat.le_of_ble_eq_true rfl⟩) rfl hl.1 (Nat.le_of_ble_eq_true rfl) ⟨(by show _ ≤ 600104; omega), (by show _ ≤ 7301314; omega)⟩ dL_law_875 rfl (fun x875 h => ?_)
    refine lv_lstore (lv' := [(5, .long x875), (0, .ref b), (1, .ref (ax 0)), (2, .ref (a v2)), (3, .int v3), (4, .int v4), (7, .int v7), (12, .int v12)]) C.1 C.2.1 dL_law_878 hl (by decide) rfl (fun ls hl => ?_)
    refine lv_iload C.1 C.2.1 dL_law_880 (lv_at hl 5 rfl) ?_
    refine lv_iconst (v := 3) C.1 C.2.1 dL_law_882 (by decide) ?_
    refine lv_ishr C.1 C.2.1 dL_law_883 ?_
    refine lv_iload C.1 C.2.1 dL_law_884 (lv_at hl 6 rfl) ?_
    refine k_prS C [.int (v4 >>> (3 &&& 31)), .int v7] h (fun v e => tL_below e) (cb_L_15 C.2.2.2.2 ⟨Nat.le_of_ble_eq_true rfl, Nat.le_of_ble_eq_true rfl⟩) rfl hl.1 (Nat.le_of_ble_eq_true rfl) ⟨(by show _ ≤ 600104; omega), (by show _ ≤ 7301314; omega)⟩ dL_law_886 rfl (fun x886 _ h => ?_)
    refine lv_istore (lv' := [(14, .int x886), (5, .long x875), (0, .ref b), (1, .ref (ax 0)), (2, .ref (a v2)), (3, .int v3), (4, .int v4), (7, .int v7), (12, .int v12)]) C.1 C.2.1 dL_law_889 hl (by decide) rfl (fun ls hl => ?_)
    refine lv_aload_n C.1 C.2.1 dL_law_891 rfl (lv_at hl 3 rfl) ?_
    refine lv_iload C.1 C.2.1 dL_law_892 (lv_at hl 0 rfl) ?_
    refine lv_iconst (v := 0) C.1 C.2.1 dL_law_894 (by decide) ?_
    refine x_TR C hK hA hE hT [.int x886, .int 0] h (fun o e => tX0_told hfl e) (cb_L_93 C.2.2.2.2 ⟨Nat.le_of_ble_eq_true rfl, Nat.le_of_ble_eq_true rfl⟩) rfl hl.1 (Nat.le_of_ble_eq_true rfl) ⟨(by show _ ≤ 600104; omega), (by show _ ≤ 7301314; omega)⟩ dL_law_895 rfl (fun x895 h => ?_)
    refine lv_istore (lv' := [(15, .int x895), (14, .int x886), (5, .long x875), (0, .ref b), (1, .ref (ax 0)), (2, .ref (a v2)), (3, .int v3), (4, .int v4), (7, .int v7), (12, .int v12)]) C.1 C.2.1 dL_law_898 hl (by decide) rfl (fun ls hl => ?_)
    refine lv_iload C.1 C.2.1 dL_law_900 (lv_at hl 0 rfl) ?_
    refine k_if_ne (tgt := 908) C dL_law_902 (by decide) h (fun c902 h => ?_) (fun c902 h => ?_)
    · refine lv_iload C.1 C.2.1 dL_law_908 (lv_at hl 7 rfl) ?_
      refine lv_bipush (v := 6) C.1 C.2.1 dL_law_910 (by decide) ?_
      refine lv_ishr C.1 C.2.1 dL_law_912 ?_
      refine lv_iload C.1 C.2.1 dL_law_913 (lv_at hl 0 rfl) ?_
      refine k_prS C [.int (v4 >>> (6 &&& 31)), .int x895] h (fun v e => tL_below e) (cb_L_15 C.2.2.2.2 ⟨Nat.le_of_ble_eq_true rfl, Nat.le_of_ble_eq_true rfl⟩) rfl hl.1 (Nat.le_of_ble_eq_true rfl) ⟨(by show _ ≤ 600104; omega), (by show _ ≤ 7301314; omega)⟩ dL_law_915 rfl (fun x915 _ h => ?_)
      refine lv_istore (lv' := [(16, .int x915), (15, .int x895), (14, .int x886), (5, .long x875), (0, .ref b), (1, .ref (ax 0)), (2, .ref (a v2)), (3, .int v3), (4, .int v4), (7, .int v7), (12, .int v12)]) C.1 C.2.1 dL_law_918 hl (by decide) rfl (fun ls hl => ?_)
      refine lv_aload_n C.1 C.2.1 dL_law_920 rfl (lv_at hl 5 rfl) ?_
      refine lv_iload C.1 C.2.1 dL_law_921 (lv_at hl 2 rfl) ?_
      refine lv_iload C.1 C.2.1 dL_law_923 (lv_at hl 0 rfl) ?_
      refine lv_iconst (v := 0) C.1 C.2.1 dL_law_925 (by decide) ?_
      refine x_TR C hK hA hE hT [.int x886, .int x915, .int 0] h (fun o e => tX0_about hfl e) (cb_L_99 C.2.2.2.2 ⟨Nat.le_of_ble_eq_true rfl, Nat.le_of_ble_eq_true rfl⟩) rfl hl.1 (Nat.le_of_ble_eq_true rfl) ⟨(by show _ ≤ 600104; omega), (by show _ ≤ 7301314; omega)⟩ dL_law_926 rfl (fun x926 h => ?_)
      refine lv_istore (lv' := [(17, .int x926), (16, .int x915), (15, .int x895), (14, .int x886), (5, .long x875), (0, .ref b), (1, .ref (ax 0)), (2, .ref (a v2)), (3, .int v3), (4, .int v4), (7, .int v7), (12, .int v12)]) C.1 C.2.1 dL_law_929 hl (by decide) rfl (fun ls hl => ?_)
      refine lv_iload C.1 C.2.1 dL_law_931 (lv_at hl 0 rfl) ?_
      refine k_if_ne (tgt := 939) C dL_law_933 (by decide) h (fun c933 h => ?_) (fun c933 h => ?_)
      · refine lv_iload C.1 C.2.1 dL_law_939 (lv_at hl 9 rfl) ?_
        refine lv_bipush (v := 7) C.1 C.2.1 dL_law_941 (by decide) ?_
        refine lv_ishr C.1 C.2.1 dL_law_943 ?_
        refine lv_iload C.1 C.2.1 dL_law_944 (lv_at hl 0 rfl) ?_
        refine k_prS C [.int (v4 >>> (7 &&& 31)), .int x926] h (fun v e => tL_below e) (cb_L_15 C.2.2.2.2 ⟨Nat.le_of_ble_eq_true rfl, Nat.le_of_ble_eq_true rfl⟩) rfl hl.1 (Nat.le_of_ble_eq_true rfl) ⟨(by show _ ≤ 600104; omega), (by show _ ≤ 7301314; omega)⟩ dL_law_946 rfl (fun x946 _ h => ?_)
        refine lv_istore (lv' := [(18, .int x946), (17, .int x926), (16, .int x915), (15, .int x895), (14, .int x886), (5, .long x875), (0, .ref b), (1, .ref (ax 0)), (2, .ref (a v2)), (3, .int v3), (4, .int v4), (7, .int v7), (12, .int v12)]) C.1 C.2.1 dL_law_949 hl (by decide) rfl (fun ls hl => ?_)
        refine lv_aload_n C.1 C.2.1 dL_law_951 rfl (lv_at hl 7 rfl) ?_
        refine lv_iload C.1 C.2.1 dL_law_952 (lv_at hl 4 rfl) ?_
        refine lv_iload C.1 C.2.1 dL_law_954 (lv_at hl 2 rfl) ?_
        refine lv_iload C.1 C.2.1 dL_law_956 (lv_at hl 0 rfl) ?_
        refine lv_iconst (v := 3) C.1 C.2.1 dL_law_958 (by decide) ?_
        refine x_TR C hK hA hE hT [.int x886, .int x915, .int x946, .int 3] h (fun o e => tX0_step hfl e) (cb_L_103 C.2.2.2.2 ⟨Nat.le_of_ble_eq_true rfl, Nat.le_of_ble_eq_true rfl⟩) rfl hl.1 (Nat.le_of_ble_eq_true rfl) ⟨(by show _ ≤ 600104; omega), (by show _ ≤ 7301314; omega)⟩ dL_law_959 rfl (fun x959 h => ?_)
        refine lv_iconst (v := 1) C.1 C.2.1 dL_law_962 (by decide) ?_
        refine k_icmp_ne (tgt := 970) C dL_law_963 (by decide) h (fun c963 h => ?_) (fun c963 h => ?_)
        · refine lv_iconst (v := 0) C.1 C.2.1 dL_law_970 (by decide) ?_
          exact J971 n22 S Hp873 v2 v3 x875 x886 x915 x946 0 kk hk h _ _ _ _ _ hT (by omega) (by omega) ls (lv_sub hl [6, 7, 8, 9, 5, 4, 2, 0] rfl)
        · refine lv_iconst (v := 1) C.1 C.2.1 dL_law_966 (by decide) ?_
          refine lv_goto (tgt := 971) C.1 C.2.1 dL_law_967 (by decide) ?_
          exact J971 n22 S Hp873 v2 v3 x875 x886 x915 x946 1 kk hk h _ _ _ _ _ hT (by omega) (by omega) ls (lv_sub hl [6, 7, 8, 9, 5, 4, 2, 0] rfl)
      · refine lv_goto (tgt := 1056) C.1 C.2.1 dL_law_936 (by decide) ?_
        refine lv_iinc (v := (v3 + 1)) (lv' := [(3, .int (v3 + 1)), (17, .int x926), (16, .int x915), (15, .int x895), (14, .int x886), (5, .long x875), (0, .ref b), (1, .ref (ax 0)), (2, .ref (a v2)), (4, .int v4), (7, .int v7), (12, .int v12)]) C.1 C.2.1 dL_law_1056 hl (k := 8) rfl rfl (by decide) rfl (fun ls hl => ?_)
        refine lv_goto (tgt := 22) C.1 C.2.1 dL_law_1059 (by decide) ?_
        exact hk S Hp873 (v3 + 1) h _ _ _ _ _ hT (by omega) (by omega) ls (lv_sub hl [6, 7, 8, 0] rfl)
    · refine lv_goto (tgt := 1056) C.1 C.2.1 dL_law_905 (by decide) ?_
      refine lv_iinc (v := (v3 + 1)) (lv' := [(3, .int (v3 + 1)), (15, .int x895), (14, .int x886), (5, .long x875), (0, .ref b), (1, .ref (ax 0)), (2, .ref (a v2)), (4, .int v4), (7, .int v7), (12, .int v12)]) C.1 C.2.1 dL_law_1056 hl (k := 6) rfl rfl (by decide) rfl (fun ls hl => ?_)
      refine lv_goto (tgt := 22) C.1 C.2.1 dL_law_1059 (by decide) ?_
      exact hk S Hp873 (v3 + 1) h _ _ _ _ _ hT (by omega) (by omega) ls (lv_sub hl [4, 5, 6, 0] rfl)
  have J808 : ∀ (n22 : Nat) (S : XS) (Hp : HS) (v2 : Nat) (v3 : Int32) (v4 : Int32) (v5 : Int64) (v7 : Int32) (v8 : Int32) (kk : XS → HS → Int32 → Option Int32) (hk : ∀ (S : XS) (Hp : HS) (v3 : Int32), kk S Hp v3 = some 1 → ∀ (a : Nat → Nat) (H : Heap) (locs : List Loc) (cells slots : Nat) (hT : hST D k A s (wXk k ax S) (fun _ => 0) 0 a Hp H locs) (hc : cells + n22 * 4658 + 70516 ≤ 500000) (hsl : slots ≤ 14 * cells + 1000) (ls : Array Slot), lv_has ls 21 [(0, .ref b), (1, .ref (ax 0)), (2, .ref (a v2)), (3, .int v3)] → W p l e room_1 s m #[Value.ref b] below meth c H locs cells slots (lw_Z below #[Value.ref b] s) (F0 m 22 ls [])), mL_law_J808 xs L kk S Hp v2 v3 v4 v5 v7 v8 = some 1 → ∀ (a : Nat → Nat) (H : Heap) (locs : List Loc) (cells slots : Nat) (hT : hST D k A s (wXk k ax S) (fun _ => 0) 0 a Hp H locs) (hc : cells + 1 + n22 * 4658 + 70516 ≤ 500000) (hsl : slots ≤ 14 * cells + 1000) (ls : Array Slot), lv_has ls 21 [(0, .ref b), (1, .ref (ax 0)), (2, .ref (a v2)), (3, .int v3), (4, .int v4), (5, .long v5), (7, .int v7), (8, .int v8)] → W p l e room_1 s m #[Value.ref b] below meth c H locs cells slots (lw_Z below #[Value.ref b] s) (F0 m 808 ls []) := by
    intro n22 S Hp v2 v3 v4 v5 v7 v8 kk hk h a H locs cells slots hT hc hsl ls hl
    unfold mL_law_J808 at h
    refine lv_iload C.1 C.2.1 dL_law_808 (lv_at hl 4 rfl) ?_
    refine lv_iconst (v := 5) C.1 C.2.1 dL_law_810 (by decide) ?_
    refine lv_ishr C.1 C.2.1 dL_law_811 ?_
    refine lv_iconst (v := 5) C.1 C.2.1 dL_law_812 (by decide) ?_
    refine k_prS C [.int (v4 >>> (5 &&& 31)), .int 5] h (fun v e => tL_below e) (cb_L_15 C.2.2.2.2 ⟨Nat.le_of_ble_eq_true rfl, Nat.le_of_ble_eq_true rfl⟩) rfl hl.1 (Nat.le_of_ble_eq_true rfl) ⟨(by show _ ≤ 600104; omega), (by show _ ≤ 7301314; omega)⟩ dL_law_813 rfl (fun x813 _ h => ?_)
    refine lv_istore (lv' := [(12, .int x813), (0, .ref b), (1, .ref (ax 0)), (2, .ref (a v2)), (3, .int v3), (4, .int v4), (5, .long v5), (7, .int v7), (8, .int v8)]) C.1 C.2.1 dL_law_816 hl (by decide) rfl (fun ls hl => ?_)
    refine lv_aload_n C.1 C.2.1 dL_law_818 rfl (lv_at hl 2 rfl) ?_
    refine lv_iload C.1 C.2.1 dL_law_819 (lv_at hl 0 rfl) ?_
    refine lv_iconst (v := 1) C.1 C.2.1 dL_law_821 (by decide) ?_
    refine x_TW C hK hA hE hT [.int x813, .int 1] h (fun o e => tX0_take hfl e) (cb_L_25 C.2.2.2.2 ⟨Nat.le_of_ble_eq_true rfl, Nat.le_of_ble_eq_true rfl⟩) rfl hl.1 (Nat.le_of_ble_eq_true rfl) ⟨(by show _ ≤ 600104; omega), (by show _ ≤ 7301314; omega)⟩ dL_law_822 rfl (fun x822 S822 H locs h hT => ?_)
    refine lv_istore (lv' := [(13, .int x822), (12, .int x813), (0, .ref b), (1, .ref (ax 0)), (2, .ref (a v2)), (3, .int v3), (4, .int v4), (5, .long v5), (7, .int v7), (8, .int v8)]) C.1 C.2.1 dL_law_825 hl (by decide) rfl (fun ls hl => ?_)
    refine lv_iload C.1 C.2.1 dL_law_827 (lv_at hl 0 rfl) ?_
    refine lv_aload_n C.1 C.2.1 dL_law_829 rfl (lv_at hl 4 rfl) ?_
    refine h_get0 C hK qF_L_21 hT.1 h dL_law_830 (fun x830 h => ?_)
    refine lv_iload C.1 C.2.1 dL_law_833 (lv_at hl 1 rfl) ?_
    refine h_ild1 C hK hT.1 h dL_law_835 (fun x835 h => ?_)
    refine k_icmp_ne (tgt := 864) C dL_law_836 (by decide) h (fun c836 h => ?_) (fun c836 h => ?_)
    · refine lv_iconst (v := 0) C.1 C.2.1 dL_law_864 (by decide) ?_
      cases h
    · refine lv_aload_n C.1 C.2.1 dL_law_839 rfl (lv_at hl 3 rfl) ?_
      refine lv_iconst (v := 1) C.1 C.2.1 dL_law_840 (by decide) ?_
      refine x_TR C hK hA hE hT [.int 1] h (fun o e => tX0_count hfl e) (cb_L_90 C.2.2.2.2 ⟨Nat.le_of_ble_eq_true rfl, Nat.le_of_ble_eq_true rfl⟩) rfl hl.1 (Nat.le_of_ble_eq_true rfl) ⟨(by show _ ≤ 600104; omega), (by show _ ≤ 7301314; omega)⟩ dL_law_841 rfl (fun x841 h => ?_)
      refine lv_iload C.1 C.2.1 dL_law_844 (lv_at hl 9 rfl) ?_
      refine k_icmp_lt (tgt := 864) C dL_law_846 (by decide) h (fun c846 h => ?_) (fun c846 h => ?_)
      · refine lv_iconst (v := 0) C.1 C.2.1 dL_law_864 (by decide) ?_
        cases h
      · refine lv_iload C.1 C.2.1 dL_law_849 (lv_at hl 0 rfl) ?_
        refine k_if_eq (tgt := 866) C dL_law_851 (by decide) h (fun c851 h => ?_) (fun c851 h => ?_)
        · exact J866 n22 S822 Hp v2 v3 v4 v7 x813 kk hk h _ _ _ _ _ hT (by omega) (by omega) ls (lv_sub hl [2, 3, 4, 5, 6, 8, 1] rfl)
        · refine lv_aload_n C.1 C.2.1 dL_law_854 rfl (lv_at hl 3 rfl) ?_
          refine x_ROl C hK hT [] h (fun v e => tX0_digest e) (cb_L_86 C.2.2.2.2 ⟨Nat.le_of_ble_eq_true rfl, Nat.le_of_ble_eq_true rfl⟩) rfl hl.1 (Nat.le_of_ble_eq_true rfl) ⟨(by show _ ≤ 600104; omega), (by show _ ≤ 7301314; omega)⟩ dL_law_855 rfl (fun x855 h => ?_)
          refine lv_lload C.1 C.2.1 dL_law_858 (lv_at hl 7 rfl) ?_
          refine W.lcmp C.1 C.2.1 dL_law_860 ?_
          refine k_if_eq (tgt := 866) C dL_law_861 (by decide) h (fun c861 h => ?_) (fun c861 h => ?_)
          · exact J866 n22 S822 Hp v2 v3 v4 v7 x813 kk hk h _ _ _ _ _ hT (by omega) (by omega) ls (lv_sub hl [2, 3, 4, 5, 6, 8, 1] rfl)
          · refine lv_iconst (v := 0) C.1 C.2.1 dL_law_864 (by decide) ?_
            cases h
  have L623 : ∀ (n22 : Nat) (S : XS) (Hp : HS) (v2 : Nat) (v3 : Int32) (v4 : Int32) (v5 : Int64) (v7 : Int32) (v8 : Int32) (v9 : Nat) (v10 : Int32) (kk : XS → HS → Int32 → Option Int32) (hk : ∀ (S : XS) (Hp : HS) (v3 : Int32), kk S Hp v3 = some 1 → ∀ (a : Nat → Nat) (H : Heap) (locs : List Loc) (cells slots : Nat) (hT : hST D k A s (wXk k ax S) (fun _ => 0) 0 a Hp H locs) (hc : cells + n22 * 4658 + 70516 ≤ 500000) (hsl : slots ≤ 14 * cells + 1000) (ls : Array Slot), lv_has ls 21 [(0, .ref b), (1, .ref (ax 0)), (2, .ref (a v2)), (3, .int v3)] → W p l e room_1 s m #[Value.ref b] below meth c H locs cells slots (lw_Z below #[Value.ref b] s) (F0 m 22 ls [])) (n : Nat) (v11 : Int32), itr1 (mL_law_F623 xs L kk S Hp v2 v3 v4 v5 v7 v8 v9 v10) n v11 = some 1 → ∀ (a : Nat → Nat) (H : Heap) (locs : List Loc) (cells slots : Nat) (hT : hST D k A s (wXk k ax S) (fun _ => 0) 0 a Hp H locs) (hc : cells + 1 + n22 * 4658 + 70516 ≤ 500000) (hsl : slots ≤ 14 * cells + 1000) (ls : Array Slot), lv_has ls 21 [(0, .ref b), (1, .ref (ax 0)), (2, .ref (a v2)), (3, .int v3), (4, .int v4), (5, .long v5), (7, .int v7), (8, .int v8), (9, .ref (a v9)), (10, .int v10), (11, .int v11)] → W p l e room_1 s m #[Value.ref b] below meth c H locs cells slots (lw_Z below #[Value.ref b] s) (F0 m 623 ls []) := by
    intro n22 S Hp v2 v3 v4 v5 v7 v8 v9 v10 kk hk
    intro n
    refine itr1_indn (fun (n : Nat) (v11 : Int32) => ∀ (a : Nat → Nat) (H : Heap) (locs : List Loc) (cells slots : Nat) (hT : hST D k A s (wXk k ax S) (fun _ => 0) 0 a Hp H locs) (hc : cells + 1 + n22 * 4658 + 70516 ≤ 500000) (hsl : slots ≤ 14 * cells + 1000) (ls : Array Slot), lv_has ls 21 [(0, .ref b), (1, .ref (ax 0)), (2, .ref (a v2)), (3, .int v3), (4, .int v4), (5, .long v5), (7, .int v7), (8, .int v8), (9, .ref (a v9)), (10, .int v10), (11, .int v11)] → W p l e room_1 s m #[Value.ref b] below meth c H locs cells slots (lw_Z below #[Value.ref b] s) (F0 m 623 ls [])) ?_ n
    intro n623 ih hih v11 h a H locs cells slots hT hc hsl ls hl
    unfold mL_law_F623 at h
    refine lv_iload C.1 C.2.1 dL_law_623 (lv_at hl 10 rfl) ?_
    refine lv_iload C.1 C.2.1 dL_law_625 (lv_at hl 6 rfl) ?_
    refine k_icmp_gt (tgt := 656) C dL_law_627 (by decide) h (fun c627 h => ?_) (fun c627 h => ?_)
    · refine lv_iload C.1 C.2.1 dL_law_656 (lv_at hl 9 rfl) ?_
      refine lv_iload C.1 C.2.1 dL_law_658 (lv_at hl 7 rfl) ?_
      refine k_icmp_ne (tgt := 673) C dL_law_660 (by decide) h (fun c660 h => ?_) (fun c660 h => ?_)
      · refine lv_iconst (v := 0) C.1 C.2.1 dL_law_673 (by decide) ?_
        cases h
      · refine lv_aload_n C.1 C.2.1 dL_law_663 rfl (lv_at hl 1 rfl) ?_
        refine x_ROl C hK hT [] h (fun v e => tX0_digest e) (cb_L_86 C.2.2.2.2 ⟨Nat.le_of_ble_eq_true rfl, Nat.le_of_ble_eq_true rfl⟩) rfl hl.1 (Nat.le_of_ble_eq_true rfl) ⟨(by show _ ≤ 600104; omega), (by show _ ≤ 7301314; omega)⟩ dL_law_664 rfl (fun x664 h => ?_)
        refine lv_lload C.1 C.2.1 dL_law_667 (lv_at hl 5 rfl) ?_
        refine W.lcmp C.1 C.2.1 dL_law_669 ?_
        refine k_if_eq (tgt := 675) C dL_law_670 (by decide) h (fun c670 h => ?_) (fun c670 h => ?_)
        · refine lv_aload_n C.1 C.2.1 dL_law_675 rfl (lv_at hl 1 rfl) ?_
          refine x_RW C hK hA hT [] h (fun v S2 e => tX0_advise e) (cb_L_113 C.2.2.2.2 ⟨Nat.le_of_ble_eq_true rfl, Nat.le_of_ble_eq_true rfl⟩) rfl hl.1 (Nat.le_of_ble_eq_true rfl) ⟨(by show _ ≤ 600104; omega), (by show _ ≤ 7301314; omega)⟩ dL_law_676 rfl (fun x676 S676 H locs h hT => ?_)
          refine lv_istore (lv' := [(11, .int x676), (0, .ref b), (1, .ref (ax 0)), (2, .ref (a v2)), (3, .int v3), (4, .int v4), (5, .long v5), (7, .int v7), (8, .int v8), (9, .ref (a v9)), (10, .int v10)]) C.1 C.2.1 dL_law_679 hl (by decide) rfl (fun ls hl => ?_)
          refine lv_iload C.1 C.2.1 dL_law_681 (lv_at hl 0 rfl) ?_
          refine k_if_lt (tgt := 808) C dL_law_683 (by decide) h (fun c683 h => ?_) (fun c683 h => ?_)
          · exact J808 n22 S676 Hp v2 v3 v4 v5 v7 v8 kk hk h _ _ _ _ _ hT (by omega) (by omega) ls (lv_sub hl [1, 2, 3, 4, 5, 6, 7, 8] rfl)
          · refine lv_iload C.1 C.2.1 dL_law_686 (lv_at hl 0 rfl) ?_
            refine lv_bipush (v := 100) C.1 C.2.1 dL_law_688 (by decide) ?_
            refine k_idiv C h dL_law_690 (fun x690 h => ?_)
            refine lv_istore (lv' := [(12, .int x690), (11, .int x676), (0, .ref b), (1, .ref (ax 0)), (2, .ref (a v2)), (3, .int v3), (4, .int v4), (5, .long v5), (7, .int v7), (8, .int v8), (9, .ref (a v9)), (10, .int v10)]) C.1 C.2.1 dL_law_691 hl (by decide) rfl (fun ls hl => ?_)
            refine lv_iload C.1 C.2.1 dL_law_693 (lv_at hl 1 rfl) ?_
            refine lv_bipush (v := 10) C.1 C.2.1 dL_law_695 (by decide) ?_
            refine k_idiv C h dL_law_697 (fun x697 h => ?_)
            refine lv_bipush (v := 10) C.1 C.2.1 dL_law_698 (by decide) ?_
            refine k_irem C h dL_law_700 (fun x700 h => ?_)
            refine lv_istore (lv' := [(13, .int x700), (12, .int x690), (11, .int x676), (0, .ref b), (1, .ref (ax 0)), (2, .ref (a v2)), (3, .int v3), (4, .int v4), (5, .long v5), (7, .int v7), (8, .int v8), (9, .ref (a v9)), (10, .int v10)]) C.1 C.2.1 dL_law_701 hl (by decide) rfl (fun ls hl => ?_)
            refine lv_iload C.1 C.2.1 dL_law_703 (lv_at hl 2 rfl) ?_
            refine lv_bipush (v := 10) C.1 C.2.1 dL_law_705 (by decide) ?_
            refine k_irem C h dL_law_707 (fun x707 h => ?_)
            refine lv_istore (lv' := [(14, .int x707), (13, .int x700), (12, .int x690), (11, .int x676), (0, .ref b), (1, .ref (ax 0)), (2, .ref (a v2)), (3, .int v3), (4, .int v4), (5, .long v5), (7, .int v7), (8, .int v8), (9, .ref (a v9)), (10, .int v10)]) C.1 C.2.1 dL_law_708 hl (by decide) rfl (fun ls hl => ?_)
            refine lv_aload_n C.1 C.2.1 dL_law_710 rfl (lv_at hl 5 rfl) ?_
            refine lv_iload C.1 C.2.1 dL_law_711 (lv_at hl 2 rfl) ?_
            refine lv_iload C.1 C.2.1 dL_law_713 (lv_at hl 1 rfl) ?_
            refine lv_iload C.1 C.2.1 dL_law_715 (lv_at hl 0 rfl) ?_
            refine lv_iconst (v := 2) C.1 C.2.1 dL_law_717 (by decide) ?_
            refine x_TR C hK hA hE hT [.int x690, .int x700, .int x707, .int 2] h (fun o e => tX0_step hfl e) (cb_L_103 C.2.2.2.2 ⟨Nat.le_of_ble_eq_true rfl, Nat.le_of_ble_eq_true rfl⟩) rfl hl.1 (Nat.le_of_ble_eq_true rfl) ⟨(by show _ ≤ 600104; omega), (by show _ ≤ 7301314; omega)⟩ dL_law_718 rfl (fun x718 h => ?_)
            refine lv_istore (lv' := [(15, .int x718), (14, .int x707), (13, .int x700), (12, .int x690), (11, .int x676), (0, .ref b), (1, .ref (ax 0)), (2, .ref (a v2)), (3, .int v3), (4, .int v4), (5, .long v5), (7, .int v7), (8, .int v8), (9, .ref (a v9)), (10, .int v10)]) C.1 C.2.1 dL_law_721 hl (by decide) rfl (fun ls hl => ?_)
            refine lv_aload_n C.1 C.2.1 dL_law_723 rfl (lv_at hl 6 rfl) ?_
            refine lv_iload C.1 C.2.1 dL_law_724 (lv_at hl 3 rfl) ?_
            refine lv_iload C.1 C.2.1 dL_law_726 (lv_at hl 2 rfl) ?_
            refine lv_iload C.1 C.2.1 dL_law_728 (lv_at hl 1 rfl) ?_
            refine lv_iconst (v := 0) C.1 C.2.1 dL_law_730 (by decide) ?_
            refine x_TR C hK hA hE hT [.int x690, .int x700, .int x707, .int 0] h (fun o e => tX0_step hfl e) (cb_L_103 C.2.2.2.2 ⟨Nat.le_of_ble_eq_true rfl, Nat.le_of_ble_eq_true rfl⟩) rfl hl.1 (Nat.le_of_ble_eq_true rfl) ⟨(by show _ ≤ 600104; omega), (by show _ ≤ 7301314; omega)⟩ dL_law_731 rfl (fun x731 h => ?_)
            refine lv_iconst (v := 2) C.1 C.2.1 dL_law_734 (by decide) ?_
            refine k_icmp_ne (tgt := 777) C dL_law_735 (by decide) h (fun c735 h => ?_) (fun c735 h => ?_)
            · refine lv_iconst (v := 0) C.1 C.2.1 dL_law_777 (by decide) ?_
              cases h
            · refine lv_iload C.1 C.2.1 dL_law_738 (lv_at hl 0 rfl) ?_
              refine lv_iconst (v := 1) C.1 C.2.1 dL_law_740 (by decide) ?_
              refine k_icmp_lt (tgt := 777) C dL_law_741 (by decide) h (fun c741 h => ?_) (fun c741 h => ?_)
              · refine lv_iconst (v := 0) C.1 C.2.1 dL_law_777 (by decide) ?_
                cases h
              · refine lv_aload_n C.1 C.2.1 dL_law_744 rfl (lv_at hl 6 rfl) ?_
                refine lv_iload C.1 C.2.1 dL_law_745 (lv_at hl 3 rfl) ?_
                refine lv_iload C.1 C.2.1 dL_law_747 (lv_at hl 2 rfl) ?_
                refine lv_iload C.1 C.2.1 dL_law_749 (lv_at hl 1 rfl) ?_
                refine lv_bipush (v := 9) C.1 C.2.1 dL_law_751 (by decide) ?_
                refine x_TW C hK hA hE hT [.int x690, .int x700, .int x707, .int 9] h (fun o e => tX0_patch hfl e) (cb_L_61 C.2.2.2.2 ⟨Nat.le_of_ble_eq_true rfl, Nat.le_of_ble_eq_true rfl⟩) rfl hl.1 (Nat.le_of_ble_eq_true rfl) ⟨(by show _ ≤ 600104; omega), (by show _ ≤ 7301314; omega)⟩ dL_law_753 rfl (fun x753 S753 H locs h hT => ?_)
                refine k_if_ne (tgt := 777) C dL_law_756 (by decide) h (fun c756 h => ?_) (fun c756 h => ?_)
                · refine lv_iconst (v := 0) C.1 C.2.1 dL_law_777 (by decide) ?_
                  cases h
                · refine lv_aload_n C.1 C.2.1 dL_law_759 rfl (lv_at hl 6 rfl) ?_
                  refine lv_iconst (v := 1) C.1 C.2.1 dL_law_760 (by decide) ?_
                  refine x_TR C hK hA hE hT [.int 1] h (fun o e => tX0_count hfl e) (cb_L_90 C.2.2.2.2 ⟨Nat.le_of_ble_eq_true rfl, Nat.le_of_ble_eq_true rfl⟩) rfl hl.1 (Nat.le_of_ble_eq_true rfl) ⟨(by show _ ≤ 600104; omega), (by show _ ≤ 7301314; omega)⟩ dL_law_761 rfl (fun x761 h => ?_)
                  refine lv_iload C.1 C.2.1 dL_law_764 (lv_at hl 12 rfl) ?_
                  refine k_icmp_le (tgt := 777) C dL_law_766 (by decide) h (fun c766 h => ?_) (fun c766 h => ?_)
                  · refine lv_iconst (v := 0) C.1 C.2.1 dL_law_777 (by decide) ?_
                    cases h
                  · refine lv_aload_n C.1 C.2.1 dL_law_769 rfl (lv_at hl 6 rfl) ?_
                    refine lv_iconst (v := 5) C.1 C.2.1 dL_law_770 (by decide) ?_
                    refine x_TR C hK hA hE hT [.int 5] h (fun o e => tX0_count hfl e) (cb_L_90 C.2.2.2.2 ⟨Nat.le_of_ble_eq_true rfl, Nat.le_of_ble_eq_true rfl⟩) rfl hl.1 (Nat.le_of_ble_eq_true rfl) ⟨(by show _ ≤ 600104; omega), (by show _ ≤ 7301314; omega)⟩ dL_law_771 rfl (fun x771 h => ?_)
                    refine k_if_ge (tgt := 779) C dL_law_774 (by decide) h (fun c774 h => ?_) (fun c774 h => ?_)
                    · refine lv_aload_n C.1 C.2.1 dL_law_779 rfl (lv_at hl 7 rfl) ?_
                      refine h_get1 C hK qF_L_9 hT.1 h dL_law_780 (fun x780 h => ?_)
                      refine lv_iload C.1 C.2.1 dL_law_783 (lv_at hl 3 rfl) ?_
                      refine h_ald4 C hK hT.1 h dL_law_785 (fun x785 h => ?_)
                      refine lv_iload C.1 C.2.1 dL_law_786 (lv_at hl 2 rfl) ?_
                      refine h_ald3 C hK hT.1 h dL_law_788 (fun x788 h => ?_)
                      refine lv_iload C.1 C.2.1 dL_law_789 (lv_at hl 1 rfl) ?_
                      refine h_ald2 C hK hT.1 h dL_law_791 (fun x791 h => ?_)
                      refine lv_iconst (v := 2) C.1 C.2.1 dL_law_792 (by decide) ?_
                      refine lv_iconst (v := 0) C.1 C.2.1 dL_law_793 (by decide) ?_
                      refine h_ist0 C hK hT h dL_law_794 (fun Hp794 H locs h hT => ?_)
                      refine lv_aload_n C.1 C.2.1 dL_law_795 rfl (lv_at hl 6 rfl) ?_
                      refine lv_iconst (v := 1) C.1 C.2.1 dL_law_796 (by decide) ?_
                      refine x_TR C hK hA hE hT [.int 1] h (fun o e => tX0_count hfl e) (cb_L_90 C.2.2.2.2 ⟨Nat.le_of_ble_eq_true rfl, Nat.le_of_ble_eq_true rfl⟩) rfl hl.1 (Nat.le_of_ble_eq_true rfl) ⟨(by show _ ≤ 600104; omega), (by show _ ≤ 7301314; omega)⟩ dL_law_797 rfl (fun x797 h => ?_)
                      refine lv_istore (lv' := [(8, .int x797), (15, .int x718), (14, .int x707), (13, .int x700), (12, .int x690), (11, .int x676), (0, .ref b), (1, .ref (ax 0)), (2, .ref (a v2)), (3, .int v3), (4, .int v4), (5, .long v5), (7, .int v7), (9, .ref (a v9)), (10, .int v10)]) C.1 C.2.1 dL_law_800 hl (by decide) rfl (fun ls hl => ?_)
                      refine lv_aload_n C.1 C.2.1 dL_law_802 rfl (lv_at hl 7 rfl) ?_
                      refine x_ROl C hK hT [] h (fun v e => tX0_digest e) (cb_L_86 C.2.2.2.2 ⟨Nat.le_of_ble_eq_true rfl, Nat.le_of_ble_eq_true rfl⟩) rfl hl.1 (Nat.le_of_ble_eq_true rfl) ⟨(by show _ ≤ 600104; omega), (by show _ ≤ 7301314; omega)⟩ dL_law_803 rfl (fun x803 h => ?_)
                      refine lv_lstore (lv' := [(5, .long x803), (8, .int x797), (15, .int x718), (14, .int x707), (13, .int x700), (12, .int x690), (11, .int x676), (0, .ref b), (1, .ref (ax 0)), (2, .ref (a v2)), (3, .int v3), (4, .int v4), (7, .int v7), (9, .ref (a v9)), (10, .int v10)]) C.1 C.2.1 dL_law_806 hl (by decide) rfl (fun ls hl => ?_)
                      exact J808 n22 S753 Hp794 v2 v3 v4 x803 v7 x797 kk hk h _ _ _ _ _ hT (by omega) (by omega) ls (lv_sub hl [7, 8, 9, 10, 11, 0, 12, 1] rfl)
                    · refine lv_iconst (v := 0) C.1 C.2.1 dL_law_777 (by decide) ?_
                      cases h
        · refine lv_iconst (v := 0) C.1 C.2.1 dL_law_673 (by decide) ?_
          cases h
    · refine lv_aload C.1 C.2.1 dL_law_630 (lv_at hl 8 rfl) ?_
      refine lv_iload C.1 C.2.1 dL_law_632 (lv_at hl 10 rfl) ?_
      refine h_ild0 C hK hT.1 h dL_law_634 (fun x634 h => ?_)
      refine k_if_le (tgt := 650) C dL_law_635 (by decide) h (fun c635 h => ?_) (fun c635 h => ?_)
      · refine lv_iinc (v := (v11 + 1)) (lv' := [(11, .int (v11 + 1)), (0, .ref b), (1, .ref (ax 0)), (2, .ref (a v2)), (3, .int v3), (4, .int v4), (5, .long v5), (7, .int v7), (8, .int v8), (9, .ref (a v9)), (10, .int v10)]) C.1 C.2.1 dL_law_650 hl (k := 10) rfl rfl (by decide) rfl (fun ls hl => ?_)
        refine lv_goto (tgt := 623) C.1 C.2.1 dL_law_653 (by decide) ?_
        exact hih (v11 + 1) h _ _ _ _ _ hT (by omega) (by omega) ls (lv_sub hl [1, 2, 3, 4, 5, 6, 7, 8, 9, 10, 0] rfl)
      · refine lv_aload C.1 C.2.1 dL_law_638 (lv_at hl 8 rfl) ?_
        refine lv_iload C.1 C.2.1 dL_law_640 (lv_at hl 10 rfl) ?_
        refine lv_iconst (v := 1) C.1 C.2.1 dL_law_642 (by decide) ?_
        refine lv_isub C.1 C.2.1 dL_law_643 ?_
        refine h_ild0 C hK hT.1 h dL_law_644 (fun x644 h => ?_)
        refine k_if_ne (tgt := 650) C dL_law_645 (by decide) h (fun c645 h => ?_) (fun c645 h => ?_)
        · refine lv_iinc (v := (v11 + 1)) (lv' := [(11, .int (v11 + 1)), (0, .ref b), (1, .ref (ax 0)), (2, .ref (a v2)), (3, .int v3), (4, .int v4), (5, .long v5), (7, .int v7), (8, .int v8), (9, .ref (a v9)), (10, .int v10)]) C.1 C.2.1 dL_law_650 hl (k := 10) rfl rfl (by decide) rfl (fun ls hl => ?_)
          refine lv_goto (tgt := 623) C.1 C.2.1 dL_law_653 (by decide) ?_
          exact hih (v11 + 1) h _ _ _ _ _ hT (by omega) (by omega) ls (lv_sub hl [1, 2, 3, 4, 5, 6, 7, 8, 9, 10, 0] rfl)
        · refine lv_iconst (v := 0) C.1 C.2.1 dL_law_648 (by decide) ?_
          cases h
  have L574 : ∀ (n114 n22 : Nat) (Hp : HS) (v2 : Nat) (v3 : Int32) (v4 : Int32) (v5 : Int64) (v7 : Int32) (v8 : Int32) (v9 : Nat) (v10 : Int32) (v11 : Int32) (v12 : Int32) (kk : XS → HS → Int32 → Int32 → Option Int32) (hk : ∀ (S : XS) (Hp : HS) (v10 : Int32) (v11 : Int32), kk S Hp v10 v11 = some 1 → ∀ (a : Nat → Nat) (H : Heap) (locs : List Loc) (cells slots : Nat) (hT : hST D k A s (wXk k ax S) (fun _ => 0) 0 a Hp H locs) (hc : cells + n114 * 288 + 1 + n22 * 4658 + 70516 ≤ 500000) (hsl : slots ≤ 14 * cells + 1000) (ls : Array Slot), lv_has ls 21 [(0, .ref b), (1, .ref (ax 0)), (2, .ref (a v2)), (3, .int v3), (4, .int v4), (5, .long v5), (7, .int v7), (8, .int v8), (9, .ref (a v9)), (10, .int v10), (11, .int v11)] → W p l e room_1 s m #[Value.ref b] below meth c H locs cells slots (lw_Z below #[Value.ref b] s) (F0 m 114 ls [])) (n : Nat) (S : XS) (v18 : Int32), itr2 (mL_law_F574 xs L kk Hp v2 v3 v4 v5 v7 v8 v9 v10 v11 v12) n S v18 = some 1 → ∀ (a : Nat → Nat) (H : Heap) (locs : List Loc) (cells slots : Nat) (hT : hST D k A s (wXk k ax S) (fun _ => 0) 0 a Hp H locs) (hc : cells + n * 1 + n114 * 288 + 1 + n22 * 4658 + 70516 ≤ 500000) (hsl : slots ≤ 14 * cells + 1000) (ls : Array Slot), lv_has ls 21 [(0, .ref b), (1, .ref (ax 0)), (2, .ref (a v2)), (3, .int v3), (4, .int v4), (5, .long v5), (7, .int v7), (8, .int v8), (9, .ref (a v9)), (10, .int v10), (11, .int v11), (12, .int v12), (18, .int v18)] → W p l e room_1 s m #[Value.ref b] below meth c H locs cells slots (lw_Z below #[Value.ref b] s) (F0 m 574 ls []) := by
    intro n114 n22 Hp v2 v3 v4 v5 v7 v8 v9 v10 v11 v12 kk hk
    intro n
    refine itr2_indn (fun (n : Nat) (S : XS) (v18 : Int32) => ∀ (a : Nat → Nat) (H : Heap) (locs : List Loc) (cells slots : Nat) (hT : hST D k A s (wXk k ax S) (fun _ => 0) 0 a Hp H locs) (hc : cells + n * 1 + n114 * 288 + 1 + n22 * 4658 + 70516 ≤ 500000) (hsl : slots ≤ 14 * cells + 1000) (ls : Array Slot), lv_has ls 21 [(0, .ref b), (1, .ref (ax 0)), (2, .ref (a v2)), (3, .int v3), (4, .int v4), (5, .long v5), (7, .int v7), (8, .int v8), (9, .ref (a v9)), (10, .int v10), (11, .int v11), (12, .int v12), (18, .int v18)] → W p l e room_1 s m #[Value.ref b] below meth c H locs cells slots (lw_Z below #[Value.ref b] s) (F0 m 574 ls [])) ?_ n
    intro n574 ih hih S v18 h a H locs cells slots hT hc hsl ls hl
    unfold mL_law_F574 at h
    refine lv_iload C.1 C.2.1 dL_law_574 (lv_at hl 12 rfl) ?_
    refine lv_iconst (v := 5) C.1 C.2.1 dL_law_576 (by decide) ?_
    refine k_icmp_ge (tgt := 614) C dL_law_577 (by decide) h (fun c577 h => ?_) (fun c577 h => ?_)
    · refine lv_iinc (v := (v11 + 1)) (lv' := [(11, .int (v11 + 1)), (0, .ref b), (1, .ref (ax 0)), (2, .ref (a v2)), (3, .int v3), (4, .int v4), (5, .long v5), (7, .int v7), (8, .int v8), (9, .ref (a v9)), (10, .int v10), (12, .int v12), (18, .int v18)]) C.1 C.2.1 dL_law_614 hl (k := 10) rfl rfl (by decide) rfl (fun ls hl => ?_)
      refine lv_goto (tgt := 114) C.1 C.2.1 dL_law_617 (by decide) ?_
      exact hk S Hp v10 (v11 + 1) h _ _ _ _ _ hT (by omega) (by omega) ls (lv_sub hl [1, 2, 3, 4, 5, 6, 7, 8, 9, 10, 0] rfl)
    · refine lv_aload_n C.1 C.2.1 dL_law_580 rfl (lv_at hl 1 rfl) ?_
      refine lv_iload C.1 C.2.1 dL_law_581 (lv_at hl 10 rfl) ?_
      refine lv_iload C.1 C.2.1 dL_law_583 (lv_at hl 12 rfl) ?_
      refine x_TW C hK hA hE hT [.int v11, .int v18] h (fun o e => tX0_needs hfl e) (cb_L_109 C.2.2.2.2 ⟨Nat.le_of_ble_eq_true rfl, Nat.le_of_ble_eq_true rfl⟩) rfl hl.1 (Nat.le_of_ble_eq_true rfl) ⟨(by show _ ≤ 600104; omega), (by show _ ≤ 7301314; omega)⟩ dL_law_585 rfl (fun x585 S585 H locs h hT => ?_)
      refine k_if_eq (tgt := 608) C dL_law_588 (by decide) h (fun c588 h => ?_) (fun c588 h => ?_)
      · refine lv_iinc (v := (v18 + 1)) (lv' := [(18, .int (v18 + 1)), (0, .ref b), (1, .ref (ax 0)), (2, .ref (a v2)), (3, .int v3), (4, .int v4), (5, .long v5), (7, .int v7), (8, .int v8), (9, .ref (a v9)), (10, .int v10), (11, .int v11), (12, .int v12)]) C.1 C.2.1 dL_law_608 hl (k := 12) rfl rfl (by decide) rfl (fun ls hl => ?_)
        refine lv_goto (tgt := 574) C.1 C.2.1 dL_law_611 (by decide) ?_
        exact hih S585 (v18 + 1) h _ _ _ _ _ hT (by omega) (by omega) ls (lv_sub hl [1, 2, 3, 4, 5, 6, 7, 8, 9, 10, 11, 12, 0] rfl)
      · refine lv_iload C.1 C.2.1 dL_law_591 (lv_at hl 11 rfl) ?_
        refine k_if_eq (tgt := 606) C dL_law_593 (by decide) h (fun c593 h => ?_) (fun c593 h => ?_)
        · refine lv_iconst (v := 0) C.1 C.2.1 dL_law_606 (by decide) ?_
          cases h
        · refine lv_aload_n C.1 C.2.1 dL_law_596 rfl (lv_at hl 2 rfl) ?_
          refine h_get0 C hK qF_L_21 hT.1 h dL_law_597 (fun x597 h => ?_)
          refine lv_iload C.1 C.2.1 dL_law_600 (lv_at hl 12 rfl) ?_
          refine h_ild1 C hK hT.1 h dL_law_602 (fun x602 h => ?_)
          refine k_if_ne (tgt := 608) C dL_law_603 (by decide) h (fun c603 h => ?_) (fun c603 h => ?_)
          · refine lv_iinc (v := (v18 + 1)) (lv' := [(18, .int (v18 + 1)), (0, .ref b), (1, .ref (ax 0)), (2, .ref (a v2)), (3, .int v3), (4, .int v4), (5, .long v5), (7, .int v7), (8, .int v8), (9, .ref (a v9)), (10, .int v10), (11, .int v11), (12, .int v12)]) C.1 C.2.1 dL_law_608 hl (k := 12) rfl rfl (by decide) rfl (fun ls hl => ?_)
            refine lv_goto (tgt := 574) C.1 C.2.1 dL_law_611 (by decide) ?_
            exact hih S585 (v18 + 1) h _ _ _ _ _ hT (by omega) (by omega) ls (lv_sub hl [1, 2, 3, 4, 5, 6, 7, 8, 9, 10, 11, 12, 0] rfl)
          · refine lv_iconst (v := 0) C.1 C.2.1 dL_law_606 (by decide) ?_
            cases h
  have J511 : ∀ (n114 n22 : Nat) (S : XS) (Hp : HS) (v2 : Nat) (v3 : Int32) (v4 : Int32) (v5 : Int64) (v7 : Int32) (v8 : Int32) (v9 : Nat) (v10 : Int32) (v11 : Int32) (v12 : Int32) (kk : XS → HS → Int32 → Int32 → Option Int32) (hk : ∀ (S : XS) (Hp : HS) (v10 : Int32) (v11 : Int32), kk S Hp v10 v11 = some 1 → ∀ (a : Nat → Nat) (H : Heap) (locs : List Loc) (cells slots : Nat) (hT : hST D k A s (wXk k ax S) (fun _ => 0) 0 a Hp H locs) (hc : cells + n114 * 288 + 1 + n22 * 4658 + 70516 ≤ 500000) (hsl : slots ≤ 14 * cells + 1000) (ls : Array Slot), lv_has ls 21 [(0, .ref b), (1, .ref (ax 0)), (2, .ref (a v2)), (3, .int v3), (4, .int v4), (5, .long v5), (7, .int v7), (8, .int v8), (9, .ref (a v9)), (10, .int v10), (11, .int v11)] → W p l e room_1 s m #[Value.ref b] below meth c H locs cells slots (lw_Z below #[Value.ref b] s) (F0 m 114 ls [])), mL_law_J511 xs L kk S Hp v2 v3 v4 v5 v7 v8 v9 v10 v11 v12 = some 1 → ∀ (a : Nat → Nat) (H : Heap) (locs : List Loc) (cells slots : Nat) (hT : hST D k A s (wXk k ax S) (fun _ => 0) 0 a Hp H locs) (hc : cells + 16 + n114 * 288 + 1 + n22 * 4658 + 70516 ≤ 500000) (hsl : slots ≤ 14 * cells + 1000) (ls : Array Slot), lv_has ls 21 [(0, .ref b), (1, .ref (ax 0)), (2, .ref (a v2)), (3, .int v3), (4, .int v4), (5, .long v5), (7, .int v7), (8, .int v8), (9, .ref (a v9)), (10, .int v10), (11, .int v11), (12, .int v12)] → W p l e room_1 s m #[Value.ref b] below meth c H locs cells slots (lw_Z below #[Value.ref b] s) (F0 m 511 ls []) := by
    intro n114 n22 S Hp v2 v3 v4 v5 v7 v8 v9 v10 v11 v12 kk hk h a H locs cells slots hT hc hsl ls hl
    unfold mL_law_J511 at h
    refine lv_aload_n C.1 C.2.1 dL_law_511 rfl (lv_at hl 1 rfl) ?_
    refine lv_iload C.1 C.2.1 dL_law_512 (lv_at hl 10 rfl) ?_
    refine lv_iconst (v := 3) C.1 C.2.1 dL_law_514 (by decide) ?_
    refine x_TR C hK hA hE hT [.int v11, .int 3] h (fun o e => tX0_told hfl e) (cb_L_93 C.2.2.2.2 ⟨Nat.le_of_ble_eq_true rfl, Nat.le_of_ble_eq_true rfl⟩) rfl hl.1 (Nat.le_of_ble_eq_true rfl) ⟨(by show _ ≤ 600104; omega), (by show _ ≤ 7301314; omega)⟩ dL_law_515 rfl (fun x515 h => ?_)
    refine lv_sipush (v := 9998) C.1 C.2.1 dL_law_518 (by decide) ?_
    refine k_icmp_gt (tgt := 537) C dL_law_521 (by decide) h (fun c521 h => ?_) (fun c521 h => ?_)
    · refine lv_iconst (v := 0) C.1 C.2.1 dL_law_537 (by decide) ?_
      cases h
    · refine lv_aload_n C.1 C.2.1 dL_law_524 rfl (lv_at hl 1 rfl) ?_
      refine lv_iload C.1 C.2.1 dL_law_525 (lv_at hl 10 rfl) ?_
      refine lv_iconst (v := 4) C.1 C.2.1 dL_law_527 (by decide) ?_
      refine x_TR C hK hA hE hT [.int v11, .int 4] h (fun o e => tX0_told hfl e) (cb_L_93 C.2.2.2.2 ⟨Nat.le_of_ble_eq_true rfl, Nat.le_of_ble_eq_true rfl⟩) rfl hl.1 (Nat.le_of_ble_eq_true rfl) ⟨(by show _ ≤ 600104; omega), (by show _ ≤ 7301314; omega)⟩ dL_law_528 rfl (fun x528 h => ?_)
      refine lv_sipush (v := 9998) C.1 C.2.1 dL_law_531 (by decide) ?_
      refine k_icmp_le (tgt := 539) C dL_law_534 (by decide) h (fun c534 h => ?_) (fun c534 h => ?_)
      · refine lv_aload_n C.1 C.2.1 dL_law_539 rfl (lv_at hl 1 rfl) ?_
        refine lv_iload C.1 C.2.1 dL_law_540 (lv_at hl 10 rfl) ?_
        refine x_TW C hK hA hE hT [.int v11] h (fun o e => tX0_without hfl e) (cb_L_106 C.2.2.2.2 ⟨Nat.le_of_ble_eq_true rfl, Nat.le_of_ble_eq_true rfl⟩) rfl hl.1 (Nat.le_of_ble_eq_true rfl) ⟨(by show _ ≤ 600104; omega), (by show _ ≤ 7301314; omega)⟩ dL_law_542 rfl (fun x542 S542 H locs h hT => ?_)
        refine lv_istore (lv' := [(17, .int x542), (0, .ref b), (1, .ref (ax 0)), (2, .ref (a v2)), (3, .int v3), (4, .int v4), (5, .long v5), (7, .int v7), (8, .int v8), (9, .ref (a v9)), (10, .int v10), (11, .int v11), (12, .int v12)]) C.1 C.2.1 dL_law_545 hl (by decide) rfl (fun ls hl => ?_)
        refine lv_iload C.1 C.2.1 dL_law_547 (lv_at hl 12 rfl) ?_
        refine k_if_ne (tgt := 562) C dL_law_549 (by decide) h (fun c549 h => ?_) (fun c549 h => ?_)
        · refine lv_iload C.1 C.2.1 dL_law_562 (lv_at hl 0 rfl) ?_
          refine lv_iload C.1 C.2.1 dL_law_564 (lv_at hl 8 rfl) ?_
          refine k_icmp_lt (tgt := 571) C dL_law_566 (by decide) h (fun c566 h => ?_) (fun c566 h => ?_)
          · refine lv_iconst (v := 0) C.1 C.2.1 dL_law_571 (by decide) ?_
            refine lv_istore (lv' := [(18, .int 0), (17, .int x542), (0, .ref b), (1, .ref (ax 0)), (2, .ref (a v2)), (3, .int v3), (4, .int v4), (5, .long v5), (7, .int v7), (8, .int v8), (9, .ref (a v9)), (10, .int v10), (11, .int v11), (12, .int v12)]) C.1 C.2.1 dL_law_572 hl (by decide) rfl (fun ls hl => ?_)
            exact L574 n114 n22 Hp v2 v3 v4 v5 v7 v8 v9 v10 v11 v12 kk hk 16 S542 0 h _ _ _ _ _ hT (by omega) (by omega) ls (lv_sub hl [2, 3, 4, 5, 6, 7, 8, 9, 10, 11, 12, 13, 0] rfl)
          · refine lv_iconst (v := 0) C.1 C.2.1 dL_law_569 (by decide) ?_
            cases h
        · refine lv_iload C.1 C.2.1 dL_law_552 (lv_at hl 0 rfl) ?_
          refine lv_iload C.1 C.2.1 dL_law_554 (lv_at hl 8 rfl) ?_
          refine k_icmp_eq (tgt := 571) C dL_law_556 (by decide) h (fun c556 h => ?_) (fun c556 h => ?_)
          · refine lv_iconst (v := 0) C.1 C.2.1 dL_law_571 (by decide) ?_
            refine lv_istore (lv' := [(18, .int 0), (17, .int x542), (0, .ref b), (1, .ref (ax 0)), (2, .ref (a v2)), (3, .int v3), (4, .int v4), (5, .long v5), (7, .int v7), (8, .int v8), (9, .ref (a v9)), (10, .int v10), (11, .int v11), (12, .int v12)]) C.1 C.2.1 dL_law_572 hl (by decide) rfl (fun ls hl => ?_)
            exact L574 n114 n22 Hp v2 v3 v4 v5 v7 v8 v9 v10 v11 v12 kk hk 16 S542 0 h _ _ _ _ _ hT (by omega) (by omega) ls (lv_sub hl [2, 3, 4, 5, 6, 7, 8, 9, 10, 11, 12, 13, 0] rfl)
          · refine lv_goto (tgt := 569) C.1 C.2.1 dL_law_559 (by decide) ?_
            refine lv_iconst (v := 0) C.1 C.2.1 dL_law_569 (by decide) ?_
            cases h
      · refine lv_iconst (v := 0) C.1 C.2.1 dL_law_537 (by decide) ?_
        cases h
  have J489 : ∀ (n114 n22 : Nat) (S : XS) (Hp : HS) (v2 : Nat) (v3 : Int32) (v4 : Int32) (v5 : Int64) (v7 : Int32) (v8 : Int32) (v9 : Nat) (v10 : Int32) (v11 : Int32) (v12 : Int32) (v13 : Int32) (v16 : Int32) (t0 : Int32) (t1 : Int32) (kk : XS → HS → Int32 → Int32 → Option Int32) (hk : ∀ (S : XS) (Hp : HS) (v10 : Int32) (v11 : Int32), kk S Hp v10 v11 = some 1 → ∀ (a : Nat → Nat) (H : Heap) (locs : List Loc) (cells slots : Nat) (hT : hST D k A s (wXk k ax S) (fun _ => 0) 0 a Hp H locs) (hc : cells + n114 * 288 + 1 + n22 * 4658 + 70516 ≤ 500000) (hsl : slots ≤ 14 * cells + 1000) (ls : Array Slot), lv_has ls 21 [(0, .ref b), (1, .ref (ax 0)), (2, .ref (a v2)), (3, .int v3), (4, .int v4), (5, .long v5), (7, .int v7), (8, .int v8), (9, .ref (a v9)), (10, .int v10), (11, .int v11)] → W p l e room_1 s m #[Value.ref b] below meth c H locs cells slots (lw_Z below #[Value.ref b] s) (F0 m 114 ls [])), mL_law_J489 xs L kk S Hp v2 v3 v4 v5 v7 v8 v9 v10 v11 v12 v13 v16 t0 t1 = some 1 → ∀ (a : Nat → Nat) (H : Heap) (locs : List Loc) (cells slots : Nat) (hT : hST D k A s (wXk k ax S) (fun _ => 0) 0 a Hp H locs) (hc : cells + 16 + n114 * 288 + 1 + n22 * 4658 + 70516 ≤ 500000) (hsl : slots ≤ 14 * cells + 1000) (ls : Array Slot), lv_has ls 21 [(0, .ref b), (1, .ref (ax 0)), (2, .ref (a v2)), (3, .int v3), (4, .int v4), (5, .long v5), (7, .int v7), (8, .int v8), (9, .ref (a v9)), (10, .int v10), (11, .int v11), (12, .int v12), (13, .int v13), (16, .int v16)] → W p l e room_1 s m #[Value.ref b] below meth c H locs cells slots (lw_Z below #[Value.ref b] s) (F0 m 489 ls [.int t0, .int t1]) := by
    intro n114 n22 S Hp v2 v3 v4 v5 v7 v8 v9 v10 v11 v12 v13 v16 t0 t1 kk hk h a H locs cells slots hT hc hsl ls hl
    unfold mL_law_J489 at h
    refine k_icmp_ne (tgt := 537) C dL_law_489 (by decide) h (fun c489 h => ?_) (fun c489 h => ?_)
    · refine lv_iconst (v := 0) C.1 C.2.1 dL_law_537 (by decide) ?_
      cases h
    · refine lv_iload C.1 C.2.1 dL_law_492 (lv_at hl 12 rfl) ?_
      refine k_if_lt (tgt := 511) C dL_law_494 (by decide) h (fun c494 h => ?_) (fun c494 h => ?_)
      · exact J511 n114 n22 S Hp v2 v3 v4 v5 v7 v8 v9 v10 v11 v12 kk hk h _ _ _ _ _ hT (by omega) (by omega) ls (lv_sub hl [0, 1, 2, 3, 4, 5, 6, 7, 8, 9, 10, 11] rfl)
      · refine lv_aload_n C.1 C.2.1 dL_law_497 rfl (lv_at hl 1 rfl) ?_
        refine lv_iload C.1 C.2.1 dL_law_498 (lv_at hl 10 rfl) ?_
        refine lv_iload C.1 C.2.1 dL_law_500 (lv_at hl 12 rfl) ?_
        refine lv_iconst (v := 2) C.1 C.2.1 dL_law_502 (by decide) ?_
        refine x_TR C hK hA hE hT [.int v11, .int v13, .int 2] h (fun o e => tX0_about hfl e) (cb_L_99 C.2.2.2.2 ⟨Nat.le_of_ble_eq_true rfl, Nat.le_of_ble_eq_true rfl⟩) rfl hl.1 (Nat.le_of_ble_eq_true rfl) ⟨(by show _ ≤ 600104; omega), (by show _ ≤ 7301314; omega)⟩ dL_law_503 rfl (fun x503 h => ?_)
        refine lv_iload C.1 C.2.1 dL_law_506 (lv_at hl 13 rfl) ?_
        refine k_icmp_ne (tgt := 537) C dL_law_508 (by decide) h (fun c508 h => ?_) (fun c508 h => ?_)
        · refine lv_iconst (v := 0) C.1 C.2.1 dL_law_537 (by decide) ?_
          cases h
        · exact J511 n114 n22 S Hp v2 v3 v4 v5 v7 v8 v9 v10 v11 v12 kk hk h _ _ _ _ _ hT (by omega) (by omega) ls (lv_sub hl [0, 1, 2, 3, 4, 5, 6, 7, 8, 9, 10, 11] rfl)
  have J479 : ∀ (n114 n22 : Nat) (S : XS) (Hp : HS) (v2 : Nat) (v3 : Int32) (v4 : Int32) (v5 : Int64) (v7 : Int32) (v8 : Int32) (v9 : Nat) (v10 : Int32) (v11 : Int32) (v12 : Int32) (v13 : Int32) (v16 : Int32) (t0 : Int32) (kk : XS → HS → Int32 → Int32 → Option Int32) (hk : ∀ (S : XS) (Hp : HS) (v10 : Int32) (v11 : Int32), kk S Hp v10 v11 = some 1 → ∀ (a : Nat → Nat) (H : Heap) (locs : List Loc) (cells slots : Nat) (hT : hST D k A s (wXk k ax S) (fun _ => 0) 0 a Hp H locs) (hc : cells + n114 * 288 + 1 + n22 * 4658 + 70516 ≤ 500000) (hsl : slots ≤ 14 * cells + 1000) (ls : Array Slot), lv_has ls 21 [(0, .ref b), (1, .ref (ax 0)), (2, .ref (a v2)), (3, .int v3), (4, .int v4), (5, .long v5), (7, .int v7), (8, .int v8), (9, .ref (a v9)), (10, .int v10), (11, .int v11)] → W p l e room_1 s m #[Value.ref b] below meth c H locs cells slots (lw_Z below #[Value.ref b] s) (F0 m 114 ls [])), mL_law_J479 xs L kk S Hp v2 v3 v4 v5 v7 v8 v9 v10 v11 v12 v13 v16 t0 = some 1 → ∀ (a : Nat → Nat) (H : Heap) (locs : List Loc) (cells slots : Nat) (hT : hST D k A s (wXk k ax S) (fun _ => 0) 0 a Hp H locs) (hc : cells + 16 + n114 * 288 + 1 + n22 * 4658 + 70516 ≤ 500000) (hsl : slots ≤ 14 * cells + 1000) (ls : Array Slot), lv_has ls 21 [(0, .ref b), (1, .ref (ax 0)), (2, .ref (a v2)), (3, .int v3), (4, .int v4), (5, .long v5), (7, .int v7), (8, .int v8), (9, .ref (a v9)), (10, .int v10), (11, .int v11), (12, .int v12), (13, .int v13), (16, .int v16)] → W p l e room_1 s m #[Value.ref b] below meth c H locs cells slots (lw_Z below #[Value.ref b] s) (F0 m 479 ls [.int t0]) := by
    intro n114 n22 S Hp v2 v3 v4 v5 v7 v8 v9 v10 v11 v12 v13 v16 t0 kk hk h a H locs cells slots hT hc hsl ls hl
    unfold mL_law_J479 at h
    refine lv_iload C.1 C.2.1 dL_law_479 (lv_at hl 13 rfl) ?_
    refine k_if_ge (tgt := 488) C dL_law_481 (by decide) h (fun c481 h => ?_) (fun c481 h => ?_)
    · refine lv_iconst (v := 0) C.1 C.2.1 dL_law_488 (by decide) ?_
      exact J489 n114 n22 S Hp v2 v3 v4 v5 v7 v8 v9 v10 v11 v12 v13 v16 0 t0 kk hk h _ _ _ _ _ hT (by omega) (by omega) ls (lv_sub hl [0, 1, 2, 3, 4, 5, 6, 7, 8, 9, 10, 11, 12, 13] rfl)
    · refine lv_iconst (v := 1) C.1 C.2.1 dL_law_484 (by decide) ?_
      refine lv_goto (tgt := 489) C.1 C.2.1 dL_law_485 (by decide) ?_
      exact J489 n114 n22 S Hp v2 v3 v4 v5 v7 v8 v9 v10 v11 v12 v13 v16 1 t0 kk hk h _ _ _ _ _ hT (by omega) (by omega) ls (lv_sub hl [0, 1, 2, 3, 4, 5, 6, 7, 8, 9, 10, 11, 12, 13] rfl)
  have J464 : ∀ (n114 n22 : Nat) (S : XS) (Hp : HS) (v2 : Nat) (v3 : Int32) (v4 : Int32) (v5 : Int64) (v7 : Int32) (v8 : Int32) (v9 : Nat) (v10 : Int32) (v11 : Int32) (v12 : Int32) (v13 : Int32) (v16 : Int32) (t0 : Int32) (t1 : Int32) (kk : XS → HS → Int32 → Int32 → Option Int32) (hk : ∀ (S : XS) (Hp : HS) (v10 : Int32) (v11 : Int32), kk S Hp v10 v11 = some 1 → ∀ (a : Nat → Nat) (H : Heap) (locs : List Loc) (cells slots : Nat) (hT : hST D k A s (wXk k ax S) (fun _ => 0) 0 a Hp H locs) (hc : cells + n114 * 288 + 1 + n22 * 4658 + 70516 ≤ 500000) (hsl : slots ≤ 14 * cells + 1000) (ls : Array Slot), lv_has ls 21 [(0, .ref b), (1, .ref (ax 0)), (2, .ref (a v2)), (3, .int v3), (4, .int v4), (5, .long v5), (7, .int v7), (8, .int v8), (9, .ref (a v9)), (10, .int v10), (11, .int v11)] → W p l e room_1 s m #[Value.ref b] below meth c H locs cells slots (lw_Z below #[Value.ref b] s) (F0 m 114 ls [])), mL_law_J464 xs L kk S Hp v2 v3 v4 v5 v7 v8 v9 v10 v11 v12 v13 v16 t0 t1 = some 1 → ∀ (a : Nat → Nat) (H : Heap) (locs : List Loc) (cells slots : Nat) (hT : hST D k A s (wXk k ax S) (fun _ => 0) 0 a Hp H locs) (hc : cells + 16 + n114 * 288 + 1 + n22 * 4658 + 70516 ≤ 500000) (hsl : slots ≤ 14 * cells + 1000) (ls : Array Slot), lv_has ls 21 [(0, .ref b), (1, .ref (ax 0)), (2, .ref (a v2)), (3, .int v3), (4, .int v4), (5, .long v5), (7, .int v7), (8, .int v8), (9, .ref (a v9)), (10, .int v10), (11, .int v11), (12, .int v12), (13, .int v13), (16, .int v16)] → W p l e room_1 s m #[Value.ref b] below meth c H locs cells slots (lw_Z below #[Value.ref b] s) (F0 m 464 ls [.int t0, .int t1]) := by
    intro n114 n22 S Hp v2 v3 v4 v5 v7 v8 v9 v10 v11 v12 v13 v16 t0 t1 kk hk h a H locs cells slots hT hc hsl ls hl
    unfold mL_law_J464 at h
    refine k_icmp_eq (tgt := 469) C dL_law_464 (by decide) h (fun c464 h => ?_) (fun c464 h => ?_)
    · refine lv_iload C.1 C.2.1 dL_law_469 (lv_at hl 12 rfl) ?_
      refine k_if_ge (tgt := 478) C dL_law_471 (by decide) h (fun c471 h => ?_) (fun c471 h => ?_)
      · refine lv_iconst (v := 0) C.1 C.2.1 dL_law_478 (by decide) ?_
        exact J479 n114 n22 S Hp v2 v3 v4 v5 v7 v8 v9 v10 v11 v12 v13 v16 0 kk hk h _ _ _ _ _ hT (by omega) (by omega) ls (lv_sub hl [0, 1, 2, 3, 4, 5, 6, 7, 8, 9, 10, 11, 12, 13] rfl)
      · refine lv_iconst (v := 1) C.1 C.2.1 dL_law_474 (by decide) ?_
        refine lv_goto (tgt := 479) C.1 C.2.1 dL_law_475 (by decide) ?_
        exact J479 n114 n22 S Hp v2 v3 v4 v5 v7 v8 v9 v10 v11 v12 v13 v16 1 kk hk h _ _ _ _ _ hT (by omega) (by omega) ls (lv_sub hl [0, 1, 2, 3, 4, 5, 6, 7, 8, 9, 10, 11, 12, 13] rfl)
    · refine lv_iconst (v := 0) C.1 C.2.1 dL_law_467 (by decide) ?_
      cases h
  have J451 : ∀ (n114 n22 : Nat) (S : XS) (Hp : HS) (v2 : Nat) (v3 : Int32) (v4 : Int32) (v5 : Int64) (v7 : Int32) (v8 : Int32) (v9 : Nat) (v10 : Int32) (v11 : Int32) (v12 : Int32) (v13 : Int32) (v15 : Int32) (v16 : Int32) (kk : XS → HS → Int32 → Int32 → Option Int32) (hk : ∀ (S : XS) (Hp : HS) (v10 : Int32) (v11 : Int32), kk S Hp v10 v11 = some 1 → ∀ (a : Nat → Nat) (H : Heap) (locs : List Loc) (cells slots : Nat) (hT : hST D k A s (wXk k ax S) (fun _ => 0) 0 a Hp H locs) (hc : cells + n114 * 288 + 1 + n22 * 4658 + 70516 ≤ 500000) (hsl : slots ≤ 14 * cells + 1000) (ls : Array Slot), lv_has ls 21 [(0, .ref b), (1, .ref (ax 0)), (2, .ref (a v2)), (3, .int v3), (4, .int v4), (5, .long v5), (7, .int v7), (8, .int v8), (9, .ref (a v9)), (10, .int v10), (11, .int v11)] → W p l e room_1 s m #[Value.ref b] below meth c H locs cells slots (lw_Z below #[Value.ref b] s) (F0 m 114 ls [])), mL_law_J451 xs L kk S Hp v2 v3 v4 v5 v7 v8 v9 v10 v11 v12 v13 v15 v16 = some 1 → ∀ (a : Nat → Nat) (H : Heap) (locs : List Loc) (cells slots : Nat) (hT : hST D k A s (wXk k ax S) (fun _ => 0) 0 a Hp H locs) (hc : cells + 16 + n114 * 288 + 1 + n22 * 4658 + 70516 ≤ 500000) (hsl : slots ≤ 14 * cells + 1000) (ls : Array Slot), lv_has ls 21 [(0, .ref b), (1, .ref (ax 0)), (2, .ref (a v2)), (3, .int v3), (4, .int v4), (5, .long v5), (7, .int v7), (8, .int v8), (9, .ref (a v9)), (10, .int v10), (11, .int v11), (12, .int v12), (13, .int v13), (15, .int v15), (16, .int v16)] → W p l e room_1 s m #[Value.ref b] below meth c H locs cells slots (lw_Z below #[Value.ref b] s) (F0 m 451 ls []) := by
    intro n114 n22 S Hp v2 v3 v4 v5 v7 v8 v9 v10 v11 v12 v13 v15 v16 kk hk h a H locs cells slots hT hc hsl ls hl
    unfold mL_law_J451 at h
    refine lv_iload C.1 C.2.1 dL_law_451 (lv_at hl 13 rfl) ?_
    refine lv_iload C.1 C.2.1 dL_law_453 (lv_at hl 11 rfl) ?_
    refine lv_iconst (v := 1) C.1 C.2.1 dL_law_455 (by decide) ?_
    refine k_icmp_ne (tgt := 463) C dL_law_456 (by decide) h (fun c456 h => ?_) (fun c456 h => ?_)
    · refine lv_iconst (v := 0) C.1 C.2.1 dL_law_463 (by decide) ?_
      exact J464 n114 n22 S Hp v2 v3 v4 v5 v7 v8 v9 v10 v11 v12 v13 v16 0 v15 kk hk h _ _ _ _ _ hT (by omega) (by omega) ls (lv_sub hl [0, 1, 2, 3, 4, 5, 6, 7, 8, 9, 10, 11, 12, 14] rfl)
    · refine lv_iconst (v := 1) C.1 C.2.1 dL_law_459 (by decide) ?_
      refine lv_goto (tgt := 464) C.1 C.2.1 dL_law_460 (by decide) ?_
      exact J464 n114 n22 S Hp v2 v3 v4 v5 v7 v8 v9 v10 v11 v12 v13 v16 1 v15 kk hk h _ _ _ _ _ hT (by omega) (by omega) ls (lv_sub hl [0, 1, 2, 3, 4, 5, 6, 7, 8, 9, 10, 11, 12, 14] rfl)
  have J421 : ∀ (n114 n22 : Nat) (S : XS) (Hp : HS) (v2 : Nat) (v3 : Int32) (v4 : Int32) (v5 : Int64) (v7 : Int32) (v8 : Int32) (v9 : Nat) (v10 : Int32) (v11 : Int32) (v12 : Int32) (v13 : Int32) (v15 : Int32) (v16 : Int32) (t0 : Int32) (t1 : Int32) (kk : XS → HS → Int32 → Int32 → Option Int32) (hk : ∀ (S : XS) (Hp : HS) (v10 : Int32) (v11 : Int32), kk S Hp v10 v11 = some 1 → ∀ (a : Nat → Nat) (H : Heap) (locs : List Loc) (cells slots : Nat) (hT : hST D k A s (wXk k ax S) (fun _ => 0) 0 a Hp H locs) (hc : cells + n114 * 288 + 1 + n22 * 4658 + 70516 ≤ 500000) (hsl : slots ≤ 14 * cells + 1000) (ls : Array Slot), lv_has ls 21 [(0, .ref b), (1, .ref (ax 0)), (2, .ref (a v2)), (3, .int v3), (4, .int v4), (5, .long v5), (7, .int v7), (8, .int v8), (9, .ref (a v9)), (10, .int v10), (11, .int v11)] → W p l e room_1 s m #[Value.ref b] below meth c H locs cells slots (lw_Z below #[Value.ref b] s) (F0 m 114 ls [])), mL_law_J421 xs L kk S Hp v2 v3 v4 v5 v7 v8 v9 v10 v11 v12 v13 v15 v16 t0 t1 = some 1 → ∀ (a : Nat → Nat) (H : Heap) (locs : List Loc) (cells slots : Nat) (hT : hST D k A s (wXk k ax S) (fun _ => 0) 0 a Hp H locs) (hc : cells + 16 + n114 * 288 + 1 + n22 * 4658 + 70516 ≤ 500000) (hsl : slots ≤ 14 * cells + 1000) (ls : Array Slot), lv_has ls 21 [(0, .ref b), (1, .ref (ax 0)), (2, .ref (a v2)), (3, .int v3), (4, .int v4), (5, .long v5), (7, .int v7), (8, .int v8), (9, .ref (a v9)), (10, .int v10), (11, .int v11), (12, .int v12), (13, .int v13), (15, .int v15), (16, .int v16)] → W p l e room_1 s m #[Value.ref b] below meth c H locs cells slots (lw_Z below #[Value.ref b] s) (F0 m 421 ls [.int t0, .int t1]) := by
    intro n114 n22 S Hp v2 v3 v4 v5 v7 v8 v9 v10 v11 v12 v13 v15 v16 t0 t1 kk hk h a H locs cells slots hT hc hsl ls hl
    unfold mL_law_J421 at h
    refine k_icmp_ne (tgt := 467) C dL_law_421 (by decide) h (fun c421 h => ?_) (fun c421 h => ?_)
    · refine lv_iconst (v := 0) C.1 C.2.1 dL_law_467 (by decide) ?_
      cases h
    · refine lv_aload_n C.1 C.2.1 dL_law_424 rfl (lv_at hl 1 rfl) ?_
      refine lv_iload C.1 C.2.1 dL_law_425 (lv_at hl 10 rfl) ?_
      refine lv_iconst (v := 3) C.1 C.2.1 dL_law_427 (by decide) ?_
      refine x_TR C hK hA hE hT [.int v11, .int 3] h (fun o e => tX0_told hfl e) (cb_L_93 C.2.2.2.2 ⟨Nat.le_of_ble_eq_true rfl, Nat.le_of_ble_eq_true rfl⟩) rfl hl.1 (Nat.le_of_ble_eq_true rfl) ⟨(by show _ ≤ 600104; omega), (by show _ ≤ 7301314; omega)⟩ dL_law_428 rfl (fun x428 h => ?_)
      refine lv_iload C.1 C.2.1 dL_law_431 (lv_at hl 14 rfl) ?_
      refine k_icmp_ne (tgt := 467) C dL_law_433 (by decide) h (fun c433 h => ?_) (fun c433 h => ?_)
      · refine lv_iconst (v := 0) C.1 C.2.1 dL_law_467 (by decide) ?_
        cases h
      · refine lv_aload_n C.1 C.2.1 dL_law_436 rfl (lv_at hl 1 rfl) ?_
        refine lv_iload C.1 C.2.1 dL_law_437 (lv_at hl 10 rfl) ?_
        refine lv_iconst (v := 3) C.1 C.2.1 dL_law_439 (by decide) ?_
        refine x_TR C hK hA hE hT [.int v11, .int 3] h (fun o e => tX0_told hfl e) (cb_L_93 C.2.2.2.2 ⟨Nat.le_of_ble_eq_true rfl, Nat.le_of_ble_eq_true rfl⟩) rfl hl.1 (Nat.le_of_ble_eq_true rfl) ⟨(by show _ ≤ 600104; omega), (by show _ ≤ 7301314; omega)⟩ dL_law_440 rfl (fun x440 h => ?_)
        refine k_if_lt (tgt := 451) C dL_law_443 (by decide) h (fun c443 h => ?_) (fun c443 h => ?_)
        · exact J451 n114 n22 S Hp v2 v3 v4 v5 v7 v8 v9 v10 v11 v12 v13 v15 v16 kk hk h _ _ _ _ _ hT (by omega) (by omega) ls (lv_sub hl [0, 1, 2, 3, 4, 5, 6, 7, 8, 9, 10, 11, 12, 13, 14] rfl)
        · refine lv_iload C.1 C.2.1 dL_law_446 (lv_at hl 11 rfl) ?_
          refine k_if_eq (tgt := 467) C dL_law_448 (by decide) h (fun c448 h => ?_) (fun c448 h => ?_)
          · refine lv_iconst (v := 0) C.1 C.2.1 dL_law_467 (by decide) ?_
            cases h
          · exact J451 n114 n22 S Hp v2 v3 v4 v5 v7 v8 v9 v10 v11 v12 v13 v15 v16 kk hk h _ _ _ _ _ hT (by omega) (by omega) ls (lv_sub hl [0, 1, 2, 3, 4, 5, 6, 7, 8, 9, 10, 11, 12, 13, 14] rfl)
  have J411 : ∀ (n114 n22 : Nat) (S : XS) (Hp : HS) (v2 : Nat) (v3 : Int32) (v4 : Int32) (v5 : Int64) (v7 : Int32) (v8 : Int32) (v9 : Nat) (v10 : Int32) (v11 : Int32) (v12 : Int32) (v13 : Int32) (v15 : Int32) (v16 : Int32) (t0 : Int32) (kk : XS → HS → Int32 → Int32 → Option Int32) (hk : ∀ (S : XS) (Hp : HS) (v10 : Int32) (v11 : Int32), kk S Hp v10 v11 = some 1 → ∀ (a : Nat → Nat) (H : Heap) (locs : List Loc) (cells slots : Nat) (hT : hST D k A s (wXk k ax S) (fun _ => 0) 0 a Hp H locs) (hc : cells + n114 * 288 + 1 + n22 * 4658 + 70516 ≤ 500000) (hsl : slots ≤ 14 * cells + 1000) (ls : Array Slot), lv_has ls 21 [(0, .ref b), (1, .ref (ax 0)), (2, .ref (a v2)), (3, .int v3), (4, .int v4), (5, .long v5), (7, .int v7), (8, .int v8), (9, .ref (a v9)), (10, .int v10), (11, .int v11)] → W p l e room_1 s m #[Value.ref b] below meth c H locs cells slots (lw_Z below #[Value.ref b] s) (F0 m 114 ls [])), mL_law_J411 xs L kk S Hp v2 v3 v4 v5 v7 v8 v9 v10 v11 v12 v13 v15 v16 t0 = some 1 → ∀ (a : Nat → Nat) (H : Heap) (locs : List Loc) (cells slots : Nat) (hT : hST D k A s (wXk k ax S) (fun _ => 0) 0 a Hp H locs) (hc : cells + 16 + n114 * 288 + 1 + n22 * 4658 + 70516 ≤ 500000) (hsl : slots ≤ 14 * cells + 1000) (ls : Array Slot), lv_has ls 21 [(0, .ref b), (1, .ref (ax 0)), (2, .ref (a v2)), (3, .int v3), (4, .int v4), (5, .long v5), (7, .int v7), (8, .int v8), (9, .ref (a v9)), (10, .int v10), (11, .int v11), (12, .int v12), (13, .int v13), (15, .int v15), (16, .int v16)] → W p l e room_1 s m #[Value.ref b] below meth c H locs cells slots (lw_Z below #[Value.ref b] s) (F0 m 411 ls [.int t0]) := by
    intro n114 n22 S Hp v2 v3 v4 v5 v7 v8 v9 v10 v11 v12 v13 v15 v16 t0 kk hk h a H locs cells slots hT hc hsl ls hl
    unfold mL_law_J411 at h
    refine lv_iload C.1 C.2.1 dL_law_411 (lv_at hl 11 rfl) ?_
    refine k_if_le (tgt := 420) C dL_law_413 (by decide) h (fun c413 h => ?_) (fun c413 h => ?_)
    · refine lv_iconst (v := 0) C.1 C.2.1 dL_law_420 (by decide) ?_
      exact J421 n114 n22 S Hp v2 v3 v4 v5 v7 v8 v9 v10 v11 v12 v13 v15 v16 0 t0 kk hk h _ _ _ _ _ hT (by omega) (by omega) ls (lv_sub hl [0, 1, 2, 3, 4, 5, 6, 7, 8, 9, 10, 11, 12, 13, 14] rfl)
    · refine lv_iconst (v := 1) C.1 C.2.1 dL_law_416 (by decide) ?_
      refine lv_goto (tgt := 421) C.1 C.2.1 dL_law_417 (by decide) ?_
      exact J421 n114 n22 S Hp v2 v3 v4 v5 v7 v8 v9 v10 v11 v12 v13 v15 v16 1 t0 kk hk h _ _ _ _ _ hT (by omega) (by omega) ls (lv_sub hl [0, 1, 2, 3, 4, 5, 6, 7, 8, 9, 10, 11, 12, 13, 14] rfl)
  have J393 : ∀ (n114 n22 : Nat) (S : XS) (Hp : HS) (v2 : Nat) (v3 : Int32) (v4 : Int32) (v5 : Int64) (v7 : Int32) (v8 : Int32) (v9 : Nat) (v10 : Int32) (v11 : Int32) (v12 : Int32) (v13 : Int32) (v15 : Int32) (v16 : Int32) (t0 : Int32) (t1 : Int32) (kk : XS → HS → Int32 → Int32 → Option Int32) (hk : ∀ (S : XS) (Hp : HS) (v10 : Int32) (v11 : Int32), kk S Hp v10 v11 = some 1 → ∀ (a : Nat → Nat) (H : Heap) (locs : List Loc) (cells slots : Nat) (hT : hST D k A s (wXk k ax S) (fun _ => 0) 0 a Hp H locs) (hc : cells + n114 * 288 + 1 + n22 * 4658 + 70516 ≤ 500000) (hsl : slots ≤ 14 * cells + 1000) (ls : Array Slot), lv_has ls 21 [(0, .ref b), (1, .ref (ax 0)), (2, .ref (a v2)), (3, .int v3), (4, .int v4), (5, .long v5), (7, .int v7), (8, .int v8), (9, .ref (a v9)), (10, .int v10), (11, .int v11)] → W p l e room_1 s m #[Value.ref b] below meth c H locs cells slots (lw_Z below #[Value.ref b] s) (F0 m 114 ls [])), mL_law_J393 xs L kk S Hp v2 v3 v4 v5 v7 v8 v9 v10 v11 v12 v13 v15 v16 t0 t1 = some 1 → ∀ (a : Nat → Nat) (H : Heap) (locs : List Loc) (cells slots : Nat) (hT : hST D k A s (wXk k ax S) (fun _ => 0) 0 a Hp H locs) (hc : cells + 16 + n114 * 288 + 1 + n22 * 4658 + 70516 ≤ 500000) (hsl : slots ≤ 14 * cells + 1000) (ls : Array Slot), lv_has ls 21 [(0, .ref b), (1, .ref (ax 0)), (2, .ref (a v2)), (3, .int v3), (4, .int v4), (5, .long v5), (7, .int v7), (8, .int v8), (9, .ref (a v9)), (10, .int v10), (11, .int v11), (12, .int v12), (13, .int v13), (15, .int v15), (16, .int v16)] → W p l e room_1 s m #[Value.ref b] below meth c H locs cells slots (lw_Z below #[Value.ref b] s) (F0 m 393 ls [.int t0, .int t1]) := by
    intro n114 n22 S Hp v2 v3 v4 v5 v7 v8 v9 v10 v11 v12 v13 v15 v16 t0 t1 kk hk h a H locs cells slots hT hc hsl ls hl
    unfold mL_law_J393 at h
    refine k_icmp_ne (tgt := 467) C dL_law_393 (by decide) h (fun c393 h => ?_) (fun c393 h => ?_)
    · refine lv_iconst (v := 0) C.1 C.2.1 dL_law_467 (by decide) ?_
      cases h
    · refine lv_aload_n C.1 C.2.1 dL_law_396 rfl (lv_at hl 1 rfl) ?_
      refine lv_iload C.1 C.2.1 dL_law_397 (lv_at hl 10 rfl) ?_
      refine lv_iconst (v := 4) C.1 C.2.1 dL_law_399 (by decide) ?_
      refine x_TR C hK hA hE hT [.int v11, .int 4] h (fun o e => tX0_told hfl e) (cb_L_93 C.2.2.2.2 ⟨Nat.le_of_ble_eq_true rfl, Nat.le_of_ble_eq_true rfl⟩) rfl hl.1 (Nat.le_of_ble_eq_true rfl) ⟨(by show _ ≤ 600104; omega), (by show _ ≤ 7301314; omega)⟩ dL_law_400 rfl (fun x400 h => ?_)
      refine k_if_ne (tgt := 410) C dL_law_403 (by decide) h (fun c403 h => ?_) (fun c403 h => ?_)
      · refine lv_iconst (v := 0) C.1 C.2.1 dL_law_410 (by decide) ?_
        exact J411 n114 n22 S Hp v2 v3 v4 v5 v7 v8 v9 v10 v11 v12 v13 v15 v16 0 kk hk h _ _ _ _ _ hT (by omega) (by omega) ls (lv_sub hl [0, 1, 2, 3, 4, 5, 6, 7, 8, 9, 10, 11, 12, 13, 14] rfl)
      · refine lv_iconst (v := 1) C.1 C.2.1 dL_law_406 (by decide) ?_
        refine lv_goto (tgt := 411) C.1 C.2.1 dL_law_407 (by decide) ?_
        exact J411 n114 n22 S Hp v2 v3 v4 v5 v7 v8 v9 v10 v11 v12 v13 v15 v16 1 kk hk h _ _ _ _ _ hT (by omega) (by omega) ls (lv_sub hl [0, 1, 2, 3, 4, 5, 6, 7, 8, 9, 10, 11, 12, 13, 14] rfl)
  have J356 : ∀ (n188 n114 n22 : Nat) (S : XS) (Hp : HS) (v2 : Nat) (v3 : Int32) (v4 : Int32) (v5 : Int64) (v7 : Int32) (v8 : Int32) (v9 : Nat) (v10 : Int32) (v11 : Int32) (v12 : Int32) (v13 : Int32) (v14 : Int32) (v15 : Int32) (v16 : Int32) (v17 : Int32) (v18 : Int32) (kk : Int32 → Int32 → Int32 → Int32 → Option Int32) (hk : ∀ (v14 : Int32) (v15 : Int32) (v16 : Int32) (v17 : Int32), kk v14 v15 v16 v17 = some 1 → ∀ (a : Nat → Nat) (H : Heap) (locs : List Loc) (cells slots : Nat) (hT : hST D k A s (wXk k ax S) (fun _ => 0) 0 a Hp H locs) (hc : cells + n188 * 17 + 16 + n114 * 288 + 1 + n22 * 4658 + 70516 ≤ 500000) (hsl : slots ≤ 14 * cells + 1000) (ls : Array Slot), lv_has ls 21 [(0, .ref b), (1, .ref (ax 0)), (2, .ref (a v2)), (3, .int v3), (4, .int v4), (5, .long v5), (7, .int v7), (8, .int v8), (9, .ref (a v9)), (10, .int v10), (11, .int v11), (12, .int v12), (13, .int v13), (14, .int v14), (15, .int v15), (16, .int v16), (17, .int v17)] → W p l e room_1 s m #[Value.ref b] below meth c H locs cells slots (lw_Z below #[Value.ref b] s) (F0 m 188 ls [])), mL_law_J356 xs L kk S Hp v2 v3 v4 v5 v7 v8 v9 v10 v11 v12 v13 v14 v15 v16 v17 v18 = some 1 → ∀ (a : Nat → Nat) (H : Heap) (locs : List Loc) (cells slots : Nat) (hT : hST D k A s (wXk k ax S) (fun _ => 0) 0 a Hp H locs) (hc : cells + 1 + n188 * 17 + 16 + n114 * 288 + 1 + n22 * 4658 + 70516 ≤ 500000) (hsl : slots ≤ 14 * cells + 1000) (ls : Array Slot), lv_has ls 21 [(0, .ref b), (1, .ref (ax 0)), (2, .ref (a v2)), (3, .int v3), (4, .int v4), (5, .long v5), (7, .int v7), (8, .int v8), (9, .ref (a v9)), (10, .int v10), (11, .int v11), (12, .int v12), (13, .int v13), (14, .int v14), (15, .int v15), (16, .int v16), (17, .int v17), (18, .int v18)] → W p l e room_1 s m #[Value.ref b] below meth c H locs cells slots (lw_Z below #[Value.ref b] s) (F0 m 356 ls []) := by
    intro n188 n114 n22 S Hp v2 v3 v4 v5 v7 v8 v9 v10 v11 v12 v13 v14 v15 v16 v17 v18 kk hk h a H locs cells slots hT hc hsl ls hl
    unfold mL_law_J356 at h
    refine lv_iload C.1 C.2.1 dL_law_356 (lv_at hl 17 rfl) ?_
    refine k_if_eq (tgt := 375) C dL_law_358 (by decide) h (fun c358 h => ?_) (fun c358 h => ?_)
    · refine lv_iinc (v := (v17 + 1)) (lv' := [(17, .int (v17 + 1)), (0, .ref b), (1, .ref (ax 0)), (2, .ref (a v2)), (3, .int v3), (4, .int v4), (5, .long v5), (7, .int v7), (8, .int v8), (9, .ref (a v9)), (10, .int v10), (11, .int v11), (12, .int v12), (13, .int v13), (14, .int v14), (15, .int v15), (16, .int v16), (18, .int v18)]) C.1 C.2.1 dL_law_375 hl (k := 16) rfl rfl (by decide) rfl (fun ls hl => ?_)
      refine lv_goto (tgt := 188) C.1 C.2.1 dL_law_378 (by decide) ?_
      exact hk v14 v15 v16 (v17 + 1) h _ _ _ _ _ hT (by omega) (by omega) ls (lv_sub hl [1, 2, 3, 4, 5, 6, 7, 8, 9, 10, 11, 12, 13, 14, 15, 16, 0] rfl)
    · refine lv_aload_n C.1 C.2.1 dL_law_361 rfl (lv_at hl 1 rfl) ?_
      refine lv_iload C.1 C.2.1 dL_law_362 (lv_at hl 10 rfl) ?_
      refine lv_iload C.1 C.2.1 dL_law_364 (lv_at hl 16 rfl) ?_
      refine lv_iconst (v := 3) C.1 C.2.1 dL_law_366 (by decide) ?_
      refine x_TR C hK hA hE hT [.int v11, .int v17, .int 3] h (fun o e => tX0_about hfl e) (cb_L_99 C.2.2.2.2 ⟨Nat.le_of_ble_eq_true rfl, Nat.le_of_ble_eq_true rfl⟩) rfl hl.1 (Nat.le_of_ble_eq_true rfl) ⟨(by show _ ≤ 600104; omega), (by show _ ≤ 7301314; omega)⟩ dL_law_367 rfl (fun x367 h => ?_)
      refine k_if_eq (tgt := 375) C dL_law_370 (by decide) h (fun c370 h => ?_) (fun c370 h => ?_)
      · refine lv_iinc (v := (v17 + 1)) (lv' := [(17, .int (v17 + 1)), (0, .ref b), (1, .ref (ax 0)), (2, .ref (a v2)), (3, .int v3), (4, .int v4), (5, .long v5), (7, .int v7), (8, .int v8), (9, .ref (a v9)), (10, .int v10), (11, .int v11), (12, .int v12), (13, .int v13), (14, .int v14), (15, .int v15), (16, .int v16), (18, .int v18)]) C.1 C.2.1 dL_law_375 hl (k := 16) rfl rfl (by decide) rfl (fun ls hl => ?_)
        refine lv_goto (tgt := 188) C.1 C.2.1 dL_law_378 (by decide) ?_
        exact hk v14 v15 v16 (v17 + 1) h _ _ _ _ _ hT (by omega) (by omega) ls (lv_sub hl [1, 2, 3, 4, 5, 6, 7, 8, 9, 10, 11, 12, 13, 14, 15, 16, 0] rfl)
      · refine lv_iconst (v := 0) C.1 C.2.1 dL_law_373 (by decide) ?_
        cases h
  have J352 : ∀ (n188 n114 n22 : Nat) (S : XS) (Hp : HS) (v2 : Nat) (v3 : Int32) (v4 : Int32) (v5 : Int64) (v7 : Int32) (v8 : Int32) (v9 : Nat) (v10 : Int32) (v11 : Int32) (v12 : Int32) (v13 : Int32) (v14 : Int32) (v15 : Int32) (v17 : Int32) (v18 : Int32) (v20 : Int32) (kk : Int32 → Int32 → Int32 → Int32 → Option Int32) (hk : ∀ (v14 : Int32) (v15 : Int32) (v16 : Int32) (v17 : Int32), kk v14 v15 v16 v17 = some 1 → ∀ (a : Nat → Nat) (H : Heap) (locs : List Loc) (cells slots : Nat) (hT : hST D k A s (wXk k ax S) (fun _ => 0) 0 a Hp H locs) (hc : cells + n188 * 17 + 16 + n114 * 288 + 1 + n22 * 4658 + 70516 ≤ 500000) (hsl : slots ≤ 14 * cells + 1000) (ls : Array Slot), lv_has ls 21 [(0, .ref b), (1, .ref (ax 0)), (2, .ref (a v2)), (3, .int v3), (4, .int v4), (5, .long v5), (7, .int v7), (8, .int v8), (9, .ref (a v9)), (10, .int v10), (11, .int v11), (12, .int v12), (13, .int v13), (14, .int v14), (15, .int v15), (16, .int v16), (17, .int v17)] → W p l e room_1 s m #[Value.ref b] below meth c H locs cells slots (lw_Z below #[Value.ref b] s) (F0 m 188 ls [])), mL_law_J352 xs L kk S Hp v2 v3 v4 v5 v7 v8 v9 v10 v11 v12 v13 v14 v15 v17 v18 v20 = some 1 → ∀ (a : Nat → Nat) (H : Heap) (locs : List Loc) (cells slots : Nat) (hT : hST D k A s (wXk k ax S) (fun _ => 0) 0 a Hp H locs) (hc : cells + 1 + n188 * 17 + 16 + n114 * 288 + 1 + n22 * 4658 + 70516 ≤ 500000) (hsl : slots ≤ 14 * cells + 1000) (ls : Array Slot), lv_has ls 21 [(0, .ref b), (1, .ref (ax 0)), (2, .ref (a v2)), (3, .int v3), (4, .int v4), (5, .long v5), (7, .int v7), (8, .int v8), (9, .ref (a v9)), (10, .int v10), (11, .int v11), (12, .int v12), (13, .int v13), (14, .int v14), (15, .int v15), (17, .int v17), (18, .int v18), (20, .int v20)] → W p l e room_1 s m #[Value.ref b] below meth c H locs cells slots (lw_Z below #[Value.ref b] s) (F0 m 352 ls []) := by
    intro n188 n114 n22 S Hp v2 v3 v4 v5 v7 v8 v9 v10 v11 v12 v13 v14 v15 v17 v18 v20 kk hk h a H locs cells slots hT hc hsl ls hl
    unfold mL_law_J352 at h
    refine lv_iload C.1 C.2.1 dL_law_352 (lv_at hl 17 rfl) ?_
    refine lv_istore (lv' := [(16, .int v20), (0, .ref b), (1, .ref (ax 0)), (2, .ref (a v2)), (3, .int v3), (4, .int v4), (5, .long v5), (7, .int v7), (8, .int v8), (9, .ref (a v9)), (10, .int v10), (11, .int v11), (12, .int v12), (13, .int v13), (14, .int v14), (15, .int v15), (17, .int v17), (18, .int v18), (20, .int v20)]) C.1 C.2.1 dL_law_354 hl (by decide) rfl (fun ls hl => ?_)
    exact J356 n188 n114 n22 S Hp v2 v3 v4 v5 v7 v8 v9 v10 v11 v12 v13 v14 v15 v20 v17 v18 kk hk h _ _ _ _ _ hT (by omega) (by omega) ls (lv_sub hl [1, 2, 3, 4, 5, 6, 7, 8, 9, 10, 11, 12, 13, 14, 15, 0, 16, 17] rfl)
  have J335 : ∀ (n188 n114 n22 : Nat) (S : XS) (Hp : HS) (v2 : Nat) (v3 : Int32) (v4 : Int32) (v5 : Int64) (v7 : Int32) (v8 : Int32) (v9 : Nat) (v10 : Int32) (v11 : Int32) (v12 : Int32) (v13 : Int32) (v14 : Int32) (v15 : Int32) (v16 : Int32) (v17 : Int32) (v18 : Int32) (v20 : Int32) (kk : Int32 → Int32 → Int32 → Int32 → Option Int32) (hk : ∀ (v14 : Int32) (v15 : Int32) (v16 : Int32) (v17 : Int32), kk v14 v15 v16 v17 = some 1 → ∀ (a : Nat → Nat) (H : Heap) (locs : List Loc) (cells slots : Nat) (hT : hST D k A s (wXk k ax S) (fun _ => 0) 0 a Hp H locs) (hc : cells + n188 * 17 + 16 + n114 * 288 + 1 + n22 * 4658 + 70516 ≤ 500000) (hsl : slots ≤ 14 * cells + 1000) (ls : Array Slot), lv_has ls 21 [(0, .ref b), (1, .ref (ax 0)), (2, .ref (a v2)), (3, .int v3), (4, .int v4), (5, .long v5), (7, .int v7), (8, .int v8), (9, .ref (a v9)), (10, .int v10), (11, .int v11), (12, .int v12), (13, .int v13), (14, .int v14), (15, .int v15), (16, .int v16), (17, .int v17)] → W p l e room_1 s m #[Value.ref b] below meth c H locs cells slots (lw_Z below #[Value.ref b] s) (F0 m 188 ls [])), mL_law_J335 xs L kk S Hp v2 v3 v4 v5 v7 v8 v9 v10 v11 v12 v13 v14 v15 v16 v17 v18 v20 = some 1 → ∀ (a : Nat → Nat) (H : Heap) (locs : List Loc) (cells slots : Nat) (hT : hST D k A s (wXk k ax S) (fun _ => 0) 0 a Hp H locs) (hc : cells + 1 + n188 * 17 + 16 + n114 * 288 + 1 + n22 * 4658 + 70516 ≤ 500000) (hsl : slots ≤ 14 * cells + 1000) (ls : Array Slot), lv_has ls 21 [(0, .ref b), (1, .ref (ax 0)), (2, .ref (a v2)), (3, .int v3), (4, .int v4), (5, .long v5), (7, .int v7), (8, .int v8), (9, .ref (a v9)), (10, .int v10), (11, .int v11), (12, .int v12), (13, .int v13), (14, .int v14), (15, .int v15), (16, .int v16), (17, .int v17), (18, .int v18), (20, .int v20)] → W p l e room_1 s m #[Value.ref b] below meth c H locs cells slots (lw_Z below #[Value.ref b] s) (F0 m 335 ls []) := by
    intro n188 n114 n22 S Hp v2 v3 v4 v5 v7 v8 v9 v10 v11 v12 v13 v14 v15 v16 v17 v18 v20 kk hk h a H locs cells slots hT hc hsl ls hl
    unfold mL_law_J335 at h
    refine lv_iload C.1 C.2.1 dL_law_335 (lv_at hl 18 rfl) ?_
    refine k_if_lt (tgt := 356) C dL_law_337 (by decide) h (fun c337 h => ?_) (fun c337 h => ?_)
    · exact J356 n188 n114 n22 S Hp v2 v3 v4 v5 v7 v8 v9 v10 v11 v12 v13 v14 v15 v16 v17 v18 kk hk h _ _ _ _ _ hT (by omega) (by omega) ls (lv_sub hl [0, 1, 2, 3, 4, 5, 6, 7, 8, 9, 10, 11, 12, 13, 14, 15, 16, 17] rfl)
    · refine lv_iload C.1 C.2.1 dL_law_340 (lv_at hl 15 rfl) ?_
      refine k_if_lt (tgt := 352) C dL_law_342 (by decide) h (fun c342 h => ?_) (fun c342 h => ?_)
      · exact J352 n188 n114 n22 S Hp v2 v3 v4 v5 v7 v8 v9 v10 v11 v12 v13 v14 v15 v17 v18 v20 kk hk h _ _ _ _ _ hT (by omega) (by omega) ls (lv_sub hl [0, 1, 2, 3, 4, 5, 6, 7, 8, 9, 10, 11, 12, 13, 14, 16, 17, 18] rfl)
      · refine lv_iload C.1 C.2.1 dL_law_345 (lv_at hl 18 rfl) ?_
        refine lv_iload C.1 C.2.1 dL_law_347 (lv_at hl 15 rfl) ?_
        refine k_icmp_ge (tgt := 356) C dL_law_349 (by decide) h (fun c349 h => ?_) (fun c349 h => ?_)
        · exact J356 n188 n114 n22 S Hp v2 v3 v4 v5 v7 v8 v9 v10 v11 v12 v13 v14 v15 v16 v17 v18 kk hk h _ _ _ _ _ hT (by omega) (by omega) ls (lv_sub hl [0, 1, 2, 3, 4, 5, 6, 7, 8, 9, 10, 11, 12, 13, 14, 15, 16, 17] rfl)
        · exact J352 n188 n114 n22 S Hp v2 v3 v4 v5 v7 v8 v9 v10 v11 v12 v13 v14 v15 v17 v18 v20 kk hk h _ _ _ _ _ hT (by omega) (by omega) ls (lv_sub hl [0, 1, 2, 3, 4, 5, 6, 7, 8, 9, 10, 11, 12, 13, 14, 16, 17, 18] rfl)
  have J295 : ∀ (n188 n114 n22 : Nat) (S : XS) (Hp : HS) (v2 : Nat) (v3 : Int32) (v4 : Int32) (v5 : Int64) (v7 : Int32) (v8 : Int32) (v9 : Nat) (v10 : Int32) (v11 : Int32) (v12 : Int32) (v13 : Int32) (v14 : Int32) (v16 : Int32) (v17 : Int32) (v18 : Int32) (t0 : Int32) (t1 : Int32) (kk : Int32 → Int32 → Int32 → Int32 → Option Int32) (hk : ∀ (v14 : Int32) (v15 : Int32) (v16 : Int32) (v17 : Int32), kk v14 v15 v16 v17 = some 1 → ∀ (a : Nat → Nat) (H : Heap) (locs : List Loc) (cells slots : Nat) (hT : hST D k A s (wXk k ax S) (fun _ => 0) 0 a Hp H locs) (hc : cells + n188 * 17 + 16 + n114 * 288 + 1 + n22 * 4658 + 70516 ≤ 500000) (hsl : slots ≤ 14 * cells + 1000) (ls : Array Slot), lv_has ls 21 [(0, .ref b), (1, .ref (ax 0)), (2, .ref (a v2)), (3, .int v3), (4, .int v4), (5, .long v5), (7, .int v7), (8, .int v8), (9, .ref (a v9)), (10, .int v10), (11, .int v11), (12, .int v12), (13, .int v13), (14, .int v14), (15, .int v15), (16, .int v16), (17, .int v17)] → W p l e room_1 s m #[Value.ref b] below meth c H locs cells slots (lw_Z below #[Value.ref b] s) (F0 m 188 ls [])), mL_law_J295 xs L kk S Hp v2 v3 v4 v5 v7 v8 v9 v10 v11 v12 v13 v14 v16 v17 v18 t0 t1 = some 1 → ∀ (a : Nat → Nat) (H : Heap) (locs : List Loc) (cells slots : Nat) (hT : hST D k A s (wXk k ax S) (fun _ => 0) 0 a Hp H locs) (hc : cells + 1 + n188 * 17 + 16 + n114 * 288 + 1 + n22 * 4658 + 70516 ≤ 500000) (hsl : slots ≤ 14 * cells + 1000) (ls : Array Slot), lv_has ls 21 [(0, .ref b), (1, .ref (ax 0)), (2, .ref (a v2)), (3, .int v3), (4, .int v4), (5, .long v5), (7, .int v7), (8, .int v8), (9, .ref (a v9)), (10, .int v10), (11, .int v11), (12, .int v12), (13, .int v13), (14, .int v14), (16, .int v16), (17, .int v17), (18, .int v18)] → W p l e room_1 s m #[Value.ref b] below meth c H locs cells slots (lw_Z below #[Value.ref b] s) (F0 m 295 ls [.int t0, .int t1]) := by
    intro n188 n114 n22 S Hp v2 v3 v4 v5 v7 v8 v9 v10 v11 v12 v13 v14 v16 v17 v18 t0 t1 kk hk h a H locs cells slots hT hc hsl ls hl
    unfold mL_law_J295 at h
    refine lv_ior C.1 C.2.1 dL_law_295 ?_
    refine lv_istore (lv' := [(15, .int (t1 ||| t0)), (0, .ref b), (1, .ref (ax 0)), (2, .ref (a v2)), (3, .int v3), (4, .int v4), (5, .long v5), (7, .int v7), (8, .int v8), (9, .ref (a v9)), (10, .int v10), (11, .int v11), (12, .int v12), (13, .int v13), (14, .int v14), (16, .int v16), (17, .int v17), (18, .int v18)]) C.1 C.2.1 dL_law_296 hl (by decide) rfl (fun ls hl => ?_)
    refine lv_aload_n C.1 C.2.1 dL_law_298 rfl (lv_at hl 2 rfl) ?_
    refine lv_iload C.1 C.2.1 dL_law_299 (lv_at hl 11 rfl) ?_
    refine lv_iload C.1 C.2.1 dL_law_301 (lv_at hl 16 rfl) ?_
    refine lv_iconst (v := 2) C.1 C.2.1 dL_law_303 (by decide) ?_
    refine x_TR C hK hA hE hT [.int v11, .int v17, .int 2] h (fun o e => tX0_about hfl e) (cb_L_99 C.2.2.2.2 ⟨Nat.le_of_ble_eq_true rfl, Nat.le_of_ble_eq_true rfl⟩) rfl hl.1 (Nat.le_of_ble_eq_true rfl) ⟨(by show _ ≤ 600104; omega), (by show _ ≤ 7301314; omega)⟩ dL_law_304 rfl (fun x304 h => ?_)
    refine lv_istore (lv' := [(20, .int x304), (15, .int (t1 ||| t0)), (0, .ref b), (1, .ref (ax 0)), (2, .ref (a v2)), (3, .int v3), (4, .int v4), (5, .long v5), (7, .int v7), (8, .int v8), (9, .ref (a v9)), (10, .int v10), (11, .int v11), (12, .int v12), (13, .int v13), (14, .int v14), (16, .int v16), (17, .int v17), (18, .int v18)]) C.1 C.2.1 dL_law_307 hl (by decide) rfl (fun ls hl => ?_)
    refine lv_iload C.1 C.2.1 dL_law_309 (lv_at hl 0 rfl) ?_
    refine k_if_lt (tgt := 335) C dL_law_311 (by decide) h (fun c311 h => ?_) (fun c311 h => ?_)
    · exact J335 n188 n114 n22 S Hp v2 v3 v4 v5 v7 v8 v9 v10 v11 v12 v13 v14 (t1 ||| t0) v16 v17 v18 x304 kk hk h _ _ _ _ _ hT (by omega) (by omega) ls (lv_sub hl [2, 3, 4, 5, 6, 7, 8, 9, 10, 11, 12, 13, 14, 15, 1, 16, 17, 18, 0] rfl)
    · refine lv_iload C.1 C.2.1 dL_law_314 (lv_at hl 18 rfl) ?_
      refine k_if_eq (tgt := 333) C dL_law_316 (by decide) h (fun c316 h => ?_) (fun c316 h => ?_)
      · refine lv_iconst (v := 0) C.1 C.2.1 dL_law_333 (by decide) ?_
        cases h
      · refine lv_iload C.1 C.2.1 dL_law_319 (lv_at hl 0 rfl) ?_
        refine lv_aload_n C.1 C.2.1 dL_law_321 rfl (lv_at hl 3 rfl) ?_
        refine lv_iload C.1 C.2.1 dL_law_322 (lv_at hl 12 rfl) ?_
        refine lv_iload C.1 C.2.1 dL_law_324 (lv_at hl 17 rfl) ?_
        refine lv_iconst (v := 0) C.1 C.2.1 dL_law_326 (by decide) ?_
        refine x_TR C hK hA hE hT [.int v11, .int v17, .int 0] h (fun o e => tX0_about hfl e) (cb_L_99 C.2.2.2.2 ⟨Nat.le_of_ble_eq_true rfl, Nat.le_of_ble_eq_true rfl⟩) rfl hl.1 (Nat.le_of_ble_eq_true rfl) ⟨(by show _ ≤ 600104; omega), (by show _ ≤ 7301314; omega)⟩ dL_law_327 rfl (fun x327 h => ?_)
        refine k_icmp_ge (tgt := 335) C dL_law_330 (by decide) h (fun c330 h => ?_) (fun c330 h => ?_)
        · exact J335 n188 n114 n22 S Hp v2 v3 v4 v5 v7 v8 v9 v10 v11 v12 v13 v14 (t1 ||| t0) v16 v17 v18 x304 kk hk h _ _ _ _ _ hT (by omega) (by omega) ls (lv_sub hl [2, 3, 4, 5, 6, 7, 8, 9, 10, 11, 12, 13, 14, 15, 1, 16, 17, 18, 0] rfl)
        · refine lv_iconst (v := 0) C.1 C.2.1 dL_law_333 (by decide) ?_
          cases h
  have J294 : ∀ (n188 n114 n22 : Nat) (S : XS) (Hp : HS) (v2 : Nat) (v3 : Int32) (v4 : Int32) (v5 : Int64) (v7 : Int32) (v8 : Int32) (v9 : Nat) (v10 : Int32) (v11 : Int32) (v12 : Int32) (v13 : Int32) (v14 : Int32) (v16 : Int32) (v17 : Int32) (v18 : Int32) (t0 : Int32) (kk : Int32 → Int32 → Int32 → Int32 → Option Int32) (hk : ∀ (v14 : Int32) (v15 : Int32) (v16 : Int32) (v17 : Int32), kk v14 v15 v16 v17 = some 1 → ∀ (a : Nat → Nat) (H : Heap) (locs : List Loc) (cells slots : Nat) (hT : hST D k A s (wXk k ax S) (fun _ => 0) 0 a Hp H locs) (hc : cells + n188 * 17 + 16 + n114 * 288 + 1 + n22 * 4658 + 70516 ≤ 500000) (hsl : slots ≤ 14 * cells + 1000) (ls : Array Slot), lv_has ls 21 [(0, .ref b), (1, .ref (ax 0)), (2, .ref (a v2)), (3, .int v3), (4, .int v4), (5, .long v5), (7, .int v7), (8, .int v8), (9, .ref (a v9)), (10, .int v10), (11, .int v11), (12, .int v12), (13, .int v13), (14, .int v14), (15, .int v15), (16, .int v16), (17, .int v17)] → W p l e room_1 s m #[Value.ref b] below meth c H locs cells slots (lw_Z below #[Value.ref b] s) (F0 m 188 ls [])), mL_law_J294 xs L kk S Hp v2 v3 v4 v5 v7 v8 v9 v10 v11 v12 v13 v14 v16 v17 v18 t0 = some 1 → ∀ (a : Nat → Nat) (H : Heap) (locs : List Loc) (cells slots : Nat) (hT : hST D k A s (wXk k ax S) (fun _ => 0) 0 a Hp H locs) (hc : cells + 1 + n188 * 17 + 16 + n114 * 288 + 1 + n22 * 4658 + 70516 ≤ 500000) (hsl : slots ≤ 14 * cells + 1000) (ls : Array Slot), lv_has ls 21 [(0, .ref b), (1, .ref (ax 0)), (2, .ref (a v2)), (3, .int v3), (4, .int v4), (5, .long v5), (7, .int v7), (8, .int v8), (9, .ref (a v9)), (10, .int v10), (11, .int v11), (12, .int v12), (13, .int v13), (14, .int v14), (16, .int v16), (17, .int v17), (18, .int v18)] → W p l e room_1 s m #[Value.ref b] below meth c H locs cells slots (lw_Z below #[Value.ref b] s) (F0 m 294 ls [.int t0]) := by
    intro n188 n114 n22 S Hp v2 v3 v4 v5 v7 v8 v9 v10 v11 v12 v13 v14 v16 v17 v18 t0 kk hk h a H locs cells slots hT hc hsl ls hl
    unfold mL_law_J294 at h
    refine lv_iconst (v := 0) C.1 C.2.1 dL_law_294 (by decide) ?_
    exact J295 n188 n114 n22 S Hp v2 v3 v4 v5 v7 v8 v9 v10 v11 v12 v13 v14 v16 v17 v18 0 t0 kk hk h _ _ _ _ _ hT (by omega) (by omega) ls (lv_sub hl [0, 1, 2, 3, 4, 5, 6, 7, 8, 9, 10, 11, 12, 13, 14, 15, 16] rfl)
  have L233 : ∀ (n188 n114 n22 : Nat) (S : XS) (Hp : HS) (v2 : Nat) (v3 : Int32) (v4 : Int32) (v5 : Int64) (v7 : Int32) (v8 : Int32) (v9 : Nat) (v10 : Int32) (v11 : Int32) (v12 : Int32) (v13 : Int32) (v14 : Int32) (v15 : Int32) (v16 : Int32) (v17 : Int32) (v18 : Int32) (kk : Int32 → Int32 → Int32 → Int32 → Option Int32) (hk : ∀ (v14 : Int32) (v15 : Int32) (v16 : Int32) (v17 : Int32), kk v14 v15 v16 v17 = some 1 → ∀ (a : Nat → Nat) (H : Heap) (locs : List Loc) (cells slots : Nat) (hT : hST D k A s (wXk k ax S) (fun _ => 0) 0 a Hp H locs) (hc : cells + n188 * 17 + 16 + n114 * 288 + 1 + n22 * 4658 + 70516 ≤ 500000) (hsl : slots ≤ 14 * cells + 1000) (ls : Array Slot), lv_has ls 21 [(0, .ref b), (1, .ref (ax 0)), (2, .ref (a v2)), (3, .int v3), (4, .int v4), (5, .long v5), (7, .int v7), (8, .int v8), (9, .ref (a v9)), (10, .int v10), (11, .int v11), (12, .int v12), (13, .int v13), (14, .int v14), (15, .int v15), (16, .int v16), (17, .int v17)] → W p l e room_1 s m #[Value.ref b] below meth c H locs cells slots (lw_Z below #[Value.ref b] s) (F0 m 188 ls [])) (n : Nat) (v19 : Int32) (v20 : Int32), itr2 (mL_law_F233 xs L kk S Hp v2 v3 v4 v5 v7 v8 v9 v10 v11 v12 v13 v14 v15 v16 v17 v18) n v19 v20 = some 1 → ∀ (a : Nat → Nat) (H : Heap) (locs : List Loc) (cells slots : Nat) (hT : hST D k A s (wXk k ax S) (fun _ => 0) 0 a Hp H locs) (hc : cells + n * 1 + 1 + n188 * 17 + 16 + n114 * 288 + 1 + n22 * 4658 + 70516 ≤ 500000) (hsl : slots ≤ 14 * cells + 1000) (ls : Array Slot), lv_has ls 21 [(0, .ref b), (1, .ref (ax 0)), (2, .ref (a v2)), (3, .int v3), (4, .int v4), (5, .long v5), (7, .int v7), (8, .int v8), (9, .ref (a v9)), (10, .int v10), (11, .int v11), (12, .int v12), (13, .int v13), (14, .int v14), (15, .int v15), (16, .int v16), (17, .int v17), (18, .int v18), (19, .int v19), (20, .int v20)] → W p l e room_1 s m #[Value.ref b] below meth c H locs cells slots (lw_Z below #[Value.ref b] s) (F0 m 233 ls []) := by
    intro n188 n114 n22 S Hp v2 v3 v4 v5 v7 v8 v9 v10 v11 v12 v13 v14 v15 v16 v17 v18 kk hk
    intro n
    refine itr2_indn (fun (n : Nat) (v19 : Int32) (v20 : Int32) => ∀ (a : Nat → Nat) (H : Heap) (locs : List Loc) (cells slots : Nat) (hT : hST D k A s (wXk k ax S) (fun _ => 0) 0 a Hp H locs) (hc : cells + n * 1 + 1 + n188 * 17 + 16 + n114 * 288 + 1 + n22 * 4658 + 70516 ≤ 500000) (hsl : slots ≤ 14 * cells + 1000) (ls : Array Slot), lv_has ls 21 [(0, .ref b), (1, .ref (ax 0)), (2, .ref (a v2)), (3, .int v3), (4, .int v4), (5, .long v5), (7, .int v7), (8, .int v8), (9, .ref (a v9)), (10, .int v10), (11, .int v11), (12, .int v12), (13, .int v13), (14, .int v14), (15, .int v15), (16, .int v16), (17, .int v17), (18, .int v18), (19, .int v19), (20, .int v20)] → W p l e room_1 s m #[Value.ref b] below meth c H locs cells slots (lw_Z below #[Value.ref b] s) (F0 m 233 ls [])) ?_ n
    intro n233 ih hih v19 v20 h a H locs cells slots hT hc hsl ls hl
    unfold mL_law_F233 at h
    refine lv_iload C.1 C.2.1 dL_law_233 (lv_at hl 19 rfl) ?_
    refine lv_aload_n C.1 C.2.1 dL_law_235 rfl (lv_at hl 1 rfl) ?_
    refine lv_iload C.1 C.2.1 dL_law_236 (lv_at hl 10 rfl) ?_
    refine lv_iload C.1 C.2.1 dL_law_238 (lv_at hl 16 rfl) ?_
    refine lv_iconst (v := 0) C.1 C.2.1 dL_law_240 (by decide) ?_
    refine x_TR C hK hA hE hT [.int v11, .int v17, .int 0] h (fun o e => tX0_about hfl e) (cb_L_99 C.2.2.2.2 ⟨Nat.le_of_ble_eq_true rfl, Nat.le_of_ble_eq_true rfl⟩) rfl hl.1 (Nat.le_of_ble_eq_true rfl) ⟨(by show _ ≤ 600104; omega), (by show _ ≤ 7301314; omega)⟩ dL_law_241 rfl (fun x241 h => ?_)
    refine k_icmp_ge (tgt := 278) C dL_law_244 (by decide) h (fun c244 h => ?_) (fun c244 h => ?_)
    · refine lv_iload C.1 C.2.1 dL_law_278 (lv_at hl 14 rfl) ?_
      refine lv_iload C.1 C.2.1 dL_law_280 (lv_at hl 17 rfl) ?_
      refine k_if_eq (tgt := 294) C dL_law_282 (by decide) h (fun c282 h => ?_) (fun c282 h => ?_)
      · exact J294 n188 n114 n22 S Hp v2 v3 v4 v5 v7 v8 v9 v10 v11 v12 v13 v14 v16 v17 v18 v15 kk hk h _ _ _ _ _ hT (by omega) (by omega) ls (lv_sub hl [0, 1, 2, 3, 4, 5, 6, 7, 8, 9, 10, 11, 12, 13, 15, 16, 17] rfl)
      · refine lv_iload C.1 C.2.1 dL_law_285 (lv_at hl 18 rfl) ?_
        refine k_if_eq (tgt := 294) C dL_law_287 (by decide) h (fun c287 h => ?_) (fun c287 h => ?_)
        · exact J294 n188 n114 n22 S Hp v2 v3 v4 v5 v7 v8 v9 v10 v11 v12 v13 v14 v16 v17 v18 v15 kk hk h _ _ _ _ _ hT (by omega) (by omega) ls (lv_sub hl [0, 1, 2, 3, 4, 5, 6, 7, 8, 9, 10, 11, 12, 13, 15, 16, 17] rfl)
        · refine lv_iconst (v := 1) C.1 C.2.1 dL_law_290 (by decide) ?_
          refine lv_goto (tgt := 295) C.1 C.2.1 dL_law_291 (by decide) ?_
          exact J295 n188 n114 n22 S Hp v2 v3 v4 v5 v7 v8 v9 v10 v11 v12 v13 v14 v16 v17 v18 1 v15 kk hk h _ _ _ _ _ hT (by omega) (by omega) ls (lv_sub hl [0, 1, 2, 3, 4, 5, 6, 7, 8, 9, 10, 11, 12, 13, 15, 16, 17] rfl)
    · refine lv_iload C.1 C.2.1 dL_law_247 (lv_at hl 18 rfl) ?_
      refine lv_aload_n C.1 C.2.1 dL_law_249 rfl (lv_at hl 1 rfl) ?_
      refine lv_iload C.1 C.2.1 dL_law_250 (lv_at hl 10 rfl) ?_
      refine lv_iload C.1 C.2.1 dL_law_252 (lv_at hl 16 rfl) ?_
      refine lv_iload C.1 C.2.1 dL_law_254 (lv_at hl 19 rfl) ?_
      refine lv_iconst (v := 0) C.1 C.2.1 dL_law_256 (by decide) ?_
      refine x_TR C hK hA hE hT [.int v11, .int v17, .int v20, .int 0] h (fun o e => tX0_step hfl e) (cb_L_103 C.2.2.2.2 ⟨Nat.le_of_ble_eq_true rfl, Nat.le_of_ble_eq_true rfl⟩) rfl hl.1 (Nat.le_of_ble_eq_true rfl) ⟨(by show _ ≤ 600104; omega), (by show _ ≤ 7301314; omega)⟩ dL_law_257 rfl (fun x257 h => ?_)
      refine lv_iconst (v := 1) C.1 C.2.1 dL_law_260 (by decide) ?_
      refine k_icmp_eq (tgt := 268) C dL_law_261 (by decide) h (fun c261 h => ?_) (fun c261 h => ?_)
      · refine lv_iconst (v := 0) C.1 C.2.1 dL_law_268 (by decide) ?_
        refine lv_iand C.1 C.2.1 dL_law_269 ?_
        refine lv_istore (lv' := [(19, .int (v19 &&& 0)), (0, .ref b), (1, .ref (ax 0)), (2, .ref (a v2)), (3, .int v3), (4, .int v4), (5, .long v5), (7, .int v7), (8, .int v8), (9, .ref (a v9)), (10, .int v10), (11, .int v11), (12, .int v12), (13, .int v13), (14, .int v14), (15, .int v15), (16, .int v16), (17, .int v17), (18, .int v18), (20, .int v20)]) C.1 C.2.1 dL_law_270 hl (by decide) rfl (fun ls hl => ?_)
        refine lv_iinc (v := (v20 + 1)) (lv' := [(20, .int (v20 + 1)), (19, .int (v19 &&& 0)), (0, .ref b), (1, .ref (ax 0)), (2, .ref (a v2)), (3, .int v3), (4, .int v4), (5, .long v5), (7, .int v7), (8, .int v8), (9, .ref (a v9)), (10, .int v10), (11, .int v11), (12, .int v12), (13, .int v13), (14, .int v14), (15, .int v15), (16, .int v16), (17, .int v17), (18, .int v18)]) C.1 C.2.1 dL_law_272 hl (k := 19) rfl rfl (by decide) rfl (fun ls hl => ?_)
        refine lv_goto (tgt := 233) C.1 C.2.1 dL_law_275 (by decide) ?_
        exact hih (v19 &&& 0) (v20 + 1) h _ _ _ _ _ hT (by omega) (by omega) ls (lv_sub hl [2, 3, 4, 5, 6, 7, 8, 9, 10, 11, 12, 13, 14, 15, 16, 17, 18, 19, 1, 0] rfl)
      · refine lv_iconst (v := 1) C.1 C.2.1 dL_law_264 (by decide) ?_
        refine lv_goto (tgt := 269) C.1 C.2.1 dL_law_265 (by decide) ?_
        refine lv_iand C.1 C.2.1 dL_law_269 ?_
        refine lv_istore (lv' := [(19, .int (v19 &&& 1)), (0, .ref b), (1, .ref (ax 0)), (2, .ref (a v2)), (3, .int v3), (4, .int v4), (5, .long v5), (7, .int v7), (8, .int v8), (9, .ref (a v9)), (10, .int v10), (11, .int v11), (12, .int v12), (13, .int v13), (14, .int v14), (15, .int v15), (16, .int v16), (17, .int v17), (18, .int v18), (20, .int v20)]) C.1 C.2.1 dL_law_270 hl (by decide) rfl (fun ls hl => ?_)
        refine lv_iinc (v := (v20 + 1)) (lv' := [(20, .int (v20 + 1)), (19, .int (v19 &&& 1)), (0, .ref b), (1, .ref (ax 0)), (2, .ref (a v2)), (3, .int v3), (4, .int v4), (5, .long v5), (7, .int v7), (8, .int v8), (9, .ref (a v9)), (10, .int v10), (11, .int v11), (12, .int v12), (13, .int v13), (14, .int v14), (15, .int v15), (16, .int v16), (17, .int v17), (18, .int v18)]) C.1 C.2.1 dL_law_272 hl (k := 19) rfl rfl (by decide) rfl (fun ls hl => ?_)
        refine lv_goto (tgt := 233) C.1 C.2.1 dL_law_275 (by decide) ?_
        exact hih (v19 &&& 1) (v20 + 1) h _ _ _ _ _ hT (by omega) (by omega) ls (lv_sub hl [2, 3, 4, 5, 6, 7, 8, 9, 10, 11, 12, 13, 14, 15, 16, 17, 18, 19, 1, 0] rfl)
  have L188 : ∀ (n114 n22 : Nat) (S : XS) (Hp : HS) (v2 : Nat) (v3 : Int32) (v4 : Int32) (v5 : Int64) (v7 : Int32) (v8 : Int32) (v9 : Nat) (v10 : Int32) (v11 : Int32) (v12 : Int32) (v13 : Int32) (kk : XS → HS → Int32 → Int32 → Option Int32) (hk : ∀ (S : XS) (Hp : HS) (v10 : Int32) (v11 : Int32), kk S Hp v10 v11 = some 1 → ∀ (a : Nat → Nat) (H : Heap) (locs : List Loc) (cells slots : Nat) (hT : hST D k A s (wXk k ax S) (fun _ => 0) 0 a Hp H locs) (hc : cells + n114 * 288 + 1 + n22 * 4658 + 70516 ≤ 500000) (hsl : slots ≤ 14 * cells + 1000) (ls : Array Slot), lv_has ls 21 [(0, .ref b), (1, .ref (ax 0)), (2, .ref (a v2)), (3, .int v3), (4, .int v4), (5, .long v5), (7, .int v7), (8, .int v8), (9, .ref (a v9)), (10, .int v10), (11, .int v11)] → W p l e room_1 s m #[Value.ref b] below meth c H locs cells slots (lw_Z below #[Value.ref b] s) (F0 m 114 ls [])) (n : Nat) (v14 : Int32) (v15 : Int32) (v16 : Int32) (v17 : Int32), itr4 (mL_law_F188 xs L kk S Hp v2 v3 v4 v5 v7 v8 v9 v10 v11 v12 v13) n v14 v15 v16 v17 = some 1 → ∀ (a : Nat → Nat) (H : Heap) (locs : List Loc) (cells slots : Nat) (hT : hST D k A s (wXk k ax S) (fun _ => 0) 0 a Hp H locs) (hc : cells + n * 17 + 16 + n114 * 288 + 1 + n22 * 4658 + 70516 ≤ 500000) (hsl : slots ≤ 14 * cells + 1000) (ls : Array Slot), lv_has ls 21 [(0, .ref b), (1, .ref (ax 0)), (2, .ref (a v2)), (3, .int v3), (4, .int v4), (5, .long v5), (7, .int v7), (8, .int v8), (9, .ref (a v9)), (10, .int v10), (11, .int v11), (12, .int v12), (13, .int v13), (14, .int v14), (15, .int v15), (16, .int v16), (17, .int v17)] → W p l e room_1 s m #[Value.ref b] below meth c H locs cells slots (lw_Z below #[Value.ref b] s) (F0 m 188 ls []) := by
    intro n114 n22 S Hp v2 v3 v4 v5 v7 v8 v9 v10 v11 v12 v13 kk hk
    intro n
    refine itr4_indn (fun (n : Nat) (v14 : Int32) (v15 : Int32) (v16 : Int32) (v17 : Int32) => ∀ (a : Nat → Nat) (H : Heap) (locs : List Loc) (cells slots : Nat) (hT : hST D k A s (wXk k ax S) (fun _ => 0) 0 a Hp H locs) (hc : cells + n * 17 + 16 + n114 * 288 + 1 + n22 * 4658 + 70516 ≤ 500000) (hsl : slots ≤ 14 * cells + 1000) (ls : Array Slot), lv_has ls 21 [(0, .ref b), (1, .ref (ax 0)), (2, .ref (a v2)), (3, .int v3), (4, .int v4), (5, .long v5), (7, .int v7), (8, .int v8), (9, .ref (a v9)), (10, .int v10), (11, .int v11), (12, .int v12), (13, .int v13), (14, .int v14), (15, .int v15), (16, .int v16), (17, .int v17)] → W p l e room_1 s m #[Value.ref b] below meth c H locs cells slots (lw_Z below #[Value.ref b] s) (F0 m 188 ls [])) ?_ n
    intro n188 ih hih v14 v15 v16 v17 h a H locs cells slots hT hc hsl ls hl
    unfold mL_law_F188 at h
    refine lv_iload C.1 C.2.1 dL_law_188 (lv_at hl 16 rfl) ?_
    refine lv_aload_n C.1 C.2.1 dL_law_190 rfl (lv_at hl 1 rfl) ?_
    refine lv_iload C.1 C.2.1 dL_law_191 (lv_at hl 10 rfl) ?_
    refine lv_iconst (v := 0) C.1 C.2.1 dL_law_193 (by decide) ?_
    refine x_TR C hK hA hE hT [.int v11, .int 0] h (fun o e => tX0_told hfl e) (cb_L_93 C.2.2.2.2 ⟨Nat.le_of_ble_eq_true rfl, Nat.le_of_ble_eq_true rfl⟩) rfl hl.1 (Nat.le_of_ble_eq_true rfl) ⟨(by show _ ≤ 600104; omega), (by show _ ≤ 7301314; omega)⟩ dL_law_194 rfl (fun x194 h => ?_)
    refine k_icmp_ge (tgt := 381) C dL_law_197 (by decide) h (fun c197 h => ?_) (fun c197 h => ?_)
    · refine lv_iload C.1 C.2.1 dL_law_381 (lv_at hl 13 rfl) ?_
      refine lv_iload C.1 C.2.1 dL_law_383 (lv_at hl 11 rfl) ?_
      refine k_if_le (tgt := 392) C dL_law_385 (by decide) h (fun c385 h => ?_) (fun c385 h => ?_)
      · refine lv_iconst (v := 0) C.1 C.2.1 dL_law_392 (by decide) ?_
        exact J393 n114 n22 S Hp v2 v3 v4 v5 v7 v8 v9 v10 v11 v12 v13 v15 v16 0 v14 kk hk h _ _ _ _ _ hT (by omega) (by omega) ls (lv_sub hl [0, 1, 2, 3, 4, 5, 6, 7, 8, 9, 10, 11, 12, 14, 15] rfl)
      · refine lv_iconst (v := 1) C.1 C.2.1 dL_law_388 (by decide) ?_
        refine lv_goto (tgt := 393) C.1 C.2.1 dL_law_389 (by decide) ?_
        exact J393 n114 n22 S Hp v2 v3 v4 v5 v7 v8 v9 v10 v11 v12 v13 v15 v16 1 v14 kk hk h _ _ _ _ _ hT (by omega) (by omega) ls (lv_sub hl [0, 1, 2, 3, 4, 5, 6, 7, 8, 9, 10, 11, 12, 14, 15] rfl)
    · refine lv_aload_n C.1 C.2.1 dL_law_200 rfl (lv_at hl 1 rfl) ?_
      refine lv_iload C.1 C.2.1 dL_law_201 (lv_at hl 10 rfl) ?_
      refine lv_iload C.1 C.2.1 dL_law_203 (lv_at hl 16 rfl) ?_
      refine lv_iconst (v := 1) C.1 C.2.1 dL_law_205 (by decide) ?_
      refine x_TR C hK hA hE hT [.int v11, .int v17, .int 1] h (fun o e => tX0_about hfl e) (cb_L_99 C.2.2.2.2 ⟨Nat.le_of_ble_eq_true rfl, Nat.le_of_ble_eq_true rfl⟩) rfl hl.1 (Nat.le_of_ble_eq_true rfl) ⟨(by show _ ≤ 600104; omega), (by show _ ≤ 7301314; omega)⟩ dL_law_206 rfl (fun x206 h => ?_)
      refine lv_iconst (v := 1) C.1 C.2.1 dL_law_209 (by decide) ?_
      refine k_icmp_ne (tgt := 217) C dL_law_210 (by decide) h (fun c210 h => ?_) (fun c210 h => ?_)
      · refine lv_iconst (v := 0) C.1 C.2.1 dL_law_217 (by decide) ?_
        refine lv_istore (lv' := [(18, .int 0), (0, .ref b), (1, .ref (ax 0)), (2, .ref (a v2)), (3, .int v3), (4, .int v4), (5, .long v5), (7, .int v7), (8, .int v8), (9, .ref (a v9)), (10, .int v10), (11, .int v11), (12, .int v12), (13, .int v13), (14, .int v14), (15, .int v15), (16, .int v16), (17, .int v17)]) C.1 C.2.1 dL_law_218 hl (by decide) rfl (fun ls hl => ?_)
        refine lv_iload C.1 C.2.1 dL_law_220 (lv_at hl 14 rfl) ?_
        refine lv_iload C.1 C.2.1 dL_law_222 (lv_at hl 0 rfl) ?_
        refine lv_ior C.1 C.2.1 dL_law_224 ?_
        refine lv_istore (lv' := [(14, .int (v14 ||| 0)), (18, .int 0), (0, .ref b), (1, .ref (ax 0)), (2, .ref (a v2)), (3, .int v3), (4, .int v4), (5, .long v5), (7, .int v7), (8, .int v8), (9, .ref (a v9)), (10, .int v10), (11, .int v11), (12, .int v12), (13, .int v13), (15, .int v15), (16, .int v16), (17, .int v17)]) C.1 C.2.1 dL_law_225 hl (by decide) rfl (fun ls hl => ?_)
        refine lv_iconst (v := 1) C.1 C.2.1 dL_law_227 (by decide) ?_
        refine lv_istore (lv' := [(19, .int 1), (14, .int (v14 ||| 0)), (18, .int 0), (0, .ref b), (1, .ref (ax 0)), (2, .ref (a v2)), (3, .int v3), (4, .int v4), (5, .long v5), (7, .int v7), (8, .int v8), (9, .ref (a v9)), (10, .int v10), (11, .int v11), (12, .int v12), (13, .int v13), (15, .int v15), (16, .int v16), (17, .int v17)]) C.1 C.2.1 dL_law_228 hl (by decide) rfl (fun ls hl => ?_)
        refine lv_iconst (v := 0) C.1 C.2.1 dL_law_230 (by decide) ?_
        refine lv_istore (lv' := [(20, .int 0), (19, .int 1), (14, .int (v14 ||| 0)), (18, .int 0), (0, .ref b), (1, .ref (ax 0)), (2, .ref (a v2)), (3, .int v3), (4, .int v4), (5, .long v5), (7, .int v7), (8, .int v8), (9, .ref (a v9)), (10, .int v10), (11, .int v11), (12, .int v12), (13, .int v13), (15, .int v15), (16, .int v16), (17, .int v17)]) C.1 C.2.1 dL_law_231 hl (by decide) rfl (fun ls hl => ?_)
        exact L233 n188 n114 n22 S Hp v2 v3 v4 v5 v7 v8 v9 v10 v11 v12 v13 (v14 ||| 0) v15 v16 v17 0 ih hih 16 1 0 h _ _ _ _ _ hT (by omega) (by omega) ls (lv_sub hl [4, 5, 6, 7, 8, 9, 10, 11, 12, 13, 14, 15, 16, 2, 17, 18, 19, 3, 1, 0] rfl)
      · refine lv_iconst (v := 1) C.1 C.2.1 dL_law_213 (by decide) ?_
        refine lv_goto (tgt := 218) C.1 C.2.1 dL_law_214 (by decide) ?_
        refine lv_istore (lv' := [(18, .int 1), (0, .ref b), (1, .ref (ax 0)), (2, .ref (a v2)), (3, .int v3), (4, .int v4), (5, .long v5), (7, .int v7), (8, .int v8), (9, .ref (a v9)), (10, .int v10), (11, .int v11), (12, .int v12), (13, .int v13), (14, .int v14), (15, .int v15), (16, .int v16), (17, .int v17)]) C.1 C.2.1 dL_law_218 hl (by decide) rfl (fun ls hl => ?_)
        refine lv_iload C.1 C.2.1 dL_law_220 (lv_at hl 14 rfl) ?_
        refine lv_iload C.1 C.2.1 dL_law_222 (lv_at hl 0 rfl) ?_
        refine lv_ior C.1 C.2.1 dL_law_224 ?_
        refine lv_istore (lv' := [(14, .int (v14 ||| 1)), (18, .int 1), (0, .ref b), (1, .ref (ax 0)), (2, .ref (a v2)), (3, .int v3), (4, .int v4), (5, .long v5), (7, .int v7), (8, .int v8), (9, .ref (a v9)), (10, .int v10), (11, .int v11), (12, .int v12), (13, .int v13), (15, .int v15), (16, .int v16), (17, .int v17)]) C.1 C.2.1 dL_law_225 hl (by decide) rfl (fun ls hl => ?_)
        refine lv_iconst (v := 1) C.1 C.2.1 dL_law_227 (by decide) ?_
        refine lv_istore (lv' := [(19, .int 1), (14, .int (v14 ||| 1)), (18, .int 1), (0, .ref b), (1, .ref (ax 0)), (2, .ref (a v2)), (3, .int v3), (4, .int v4), (5, .long v5), (7, .int v7), (8, .int v8), (9, .ref (a v9)), (10, .int v10), (11, .int v11), (12, .int v12), (13, .int v13), (15, .int v15), (16, .int v16), (17, .int v17)]) C.1 C.2.1 dL_law_228 hl (by decide) rfl (fun ls hl => ?_)
        refine lv_iconst (v := 0) C.1 C.2.1 dL_law_230 (by decide) ?_
        refine lv_istore (lv' := [(20, .int 0), (19, .int 1), (14, .int (v14 ||| 1)), (18, .int 1), (0, .ref b), (1, .ref (ax 0)), (2, .ref (a v2)), (3, .int v3), (4, .int v4), (5, .long v5), (7, .int v7), (8, .int v8), (9, .ref (a v9)), (10, .int v10), (11, .int v11), (12, .int v12), (13, .int v13), (15, .int v15), (16, .int v16), (17, .int v17)]) C.1 C.2.1 dL_law_231 hl (by decide) rfl (fun ls hl => ?_)
        exact L233 n188 n114 n22 S Hp v2 v3 v4 v5 v7 v8 v9 v10 v11 v12 v13 (v14 ||| 1) v15 v16 v17 1 ih hih 16 1 0 h _ _ _ _ _ hT (by omega) (by omega) ls (lv_sub hl [4, 5, 6, 7, 8, 9, 10, 11, 12, 13, 14, 15, 16, 2, 17, 18, 19, 3, 1, 0] rfl)
  have J165 : ∀ (n114 n22 : Nat) (S : XS) (Hp : HS) (v2 : Nat) (v3 : Int32) (v4 : Int32) (v5 : Int64) (v7 : Int32) (v8 : Int32) (v9 : Nat) (v11 : Int32) (v12 : Int32) (t0 : Int32) (t1 : Int32) (kk : XS → HS → Int32 → Int32 → Option Int32) (hk : ∀ (S : XS) (Hp : HS) (v10 : Int32) (v11 : Int32), kk S Hp v10 v11 = some 1 → ∀ (a : Nat → Nat) (H : Heap) (locs : List Loc) (cells slots : Nat) (hT : hST D k A s (wXk k ax S) (fun _ => 0) 0 a Hp H locs) (hc : cells + n114 * 288 + 1 + n22 * 4658 + 70516 ≤ 500000) (hsl : slots ≤ 14 * cells + 1000) (ls : Array Slot), lv_has ls 21 [(0, .ref b), (1, .ref (ax 0)), (2, .ref (a v2)), (3, .int v3), (4, .int v4), (5, .long v5), (7, .int v7), (8, .int v8), (9, .ref (a v9)), (10, .int v10), (11, .int v11)] → W p l e room_1 s m #[Value.ref b] below meth c H locs cells slots (lw_Z below #[Value.ref b] s) (F0 m 114 ls [])), mL_law_J165 xs L kk S Hp v2 v3 v4 v5 v7 v8 v9 v11 v12 t0 t1 = some 1 → ∀ (a : Nat → Nat) (H : Heap) (locs : List Loc) (cells slots : Nat) (hT : hST D k A s (wXk k ax S) (fun _ => 0) 0 a Hp H locs) (hc : cells + 288 + n114 * 288 + 1 + n22 * 4658 + 70516 ≤ 500000) (hsl : slots ≤ 14 * cells + 1000) (ls : Array Slot), lv_has ls 21 [(0, .ref b), (1, .ref (ax 0)), (2, .ref (a v2)), (3, .int v3), (4, .int v4), (5, .long v5), (7, .int v7), (8, .int v8), (9, .ref (a v9)), (11, .int v11), (12, .int v12)] → W p l e room_1 s m #[Value.ref b] below meth c H locs cells slots (lw_Z below #[Value.ref b] s) (F0 m 165 ls [.int t0, .int t1]) := by
    intro n114 n22 S Hp v2 v3 v4 v5 v7 v8 v9 v11 v12 t0 t1 kk hk h a H locs cells slots hT hc hsl ls hl
    unfold mL_law_J165 at h
    refine lv_iadd C.1 C.2.1 dL_law_165 ?_
    refine lv_istore (lv' := [(10, .int (t1 + t0)), (0, .ref b), (1, .ref (ax 0)), (2, .ref (a v2)), (3, .int v3), (4, .int v4), (5, .long v5), (7, .int v7), (8, .int v8), (9, .ref (a v9)), (11, .int v11), (12, .int v12)]) C.1 C.2.1 dL_law_166 hl (by decide) rfl (fun ls hl => ?_)
    refine lv_aload_n C.1 C.2.1 dL_law_168 rfl (lv_at hl 2 rfl) ?_
    refine lv_iload C.1 C.2.1 dL_law_169 (lv_at hl 10 rfl) ?_
    refine x_TR C hK hA hE hT [.int v11] h (fun o e => tX0_best hfl e) (cb_L_96 C.2.2.2.2 ⟨Nat.le_of_ble_eq_true rfl, Nat.le_of_ble_eq_true rfl⟩) rfl hl.1 (Nat.le_of_ble_eq_true rfl) ⟨(by show _ ≤ 600104; omega), (by show _ ≤ 7301314; omega)⟩ dL_law_171 rfl (fun x171 h => ?_)
    refine lv_istore (lv' := [(13, .int x171), (10, .int (t1 + t0)), (0, .ref b), (1, .ref (ax 0)), (2, .ref (a v2)), (3, .int v3), (4, .int v4), (5, .long v5), (7, .int v7), (8, .int v8), (9, .ref (a v9)), (11, .int v11), (12, .int v12)]) C.1 C.2.1 dL_law_174 hl (by decide) rfl (fun ls hl => ?_)
    refine lv_iconst (v := 0) C.1 C.2.1 dL_law_176 (by decide) ?_
    refine lv_istore (lv' := [(14, .int 0), (13, .int x171), (10, .int (t1 + t0)), (0, .ref b), (1, .ref (ax 0)), (2, .ref (a v2)), (3, .int v3), (4, .int v4), (5, .long v5), (7, .int v7), (8, .int v8), (9, .ref (a v9)), (11, .int v11), (12, .int v12)]) C.1 C.2.1 dL_law_177 hl (by decide) rfl (fun ls hl => ?_)
    refine lv_iconst (v := 0) C.1 C.2.1 dL_law_179 (by decide) ?_
    refine lv_istore (lv' := [(15, .int 0), (14, .int 0), (13, .int x171), (10, .int (t1 + t0)), (0, .ref b), (1, .ref (ax 0)), (2, .ref (a v2)), (3, .int v3), (4, .int v4), (5, .long v5), (7, .int v7), (8, .int v8), (9, .ref (a v9)), (11, .int v11), (12, .int v12)]) C.1 C.2.1 dL_law_180 hl (by decide) rfl (fun ls hl => ?_)
    refine lv_iconst (v := (-1)) C.1 C.2.1 dL_law_182 (by decide) ?_
    refine lv_istore (lv' := [(16, .int (-1)), (15, .int 0), (14, .int 0), (13, .int x171), (10, .int (t1 + t0)), (0, .ref b), (1, .ref (ax 0)), (2, .ref (a v2)), (3, .int v3), (4, .int v4), (5, .long v5), (7, .int v7), (8, .int v8), (9, .ref (a v9)), (11, .int v11), (12, .int v12)]) C.1 C.2.1 dL_law_183 hl (by decide) rfl (fun ls hl => ?_)
    refine lv_iconst (v := 0) C.1 C.2.1 dL_law_185 (by decide) ?_
    refine lv_istore (lv' := [(17, .int 0), (16, .int (-1)), (15, .int 0), (14, .int 0), (13, .int x171), (10, .int (t1 + t0)), (0, .ref b), (1, .ref (ax 0)), (2, .ref (a v2)), (3, .int v3), (4, .int v4), (5, .long v5), (7, .int v7), (8, .int v8), (9, .ref (a v9)), (11, .int v11), (12, .int v12)]) C.1 C.2.1 dL_law_186 hl (by decide) rfl (fun ls hl => ?_)
    exact L188 n114 n22 S Hp v2 v3 v4 v5 v7 v8 v9 (t1 + t0) v11 v12 x171 kk hk 16 0 0 (-1) 0 h _ _ _ _ _ hT (by omega) (by omega) ls (lv_sub hl [6, 7, 8, 9, 10, 11, 12, 13, 14, 5, 15, 16, 4, 3, 2, 1, 0] rfl)
  have L114 : ∀ (n22 : Nat) (v2 : Nat) (v3 : Int32) (v4 : Int32) (v5 : Int64) (v7 : Int32) (v8 : Int32) (v9 : Nat) (kk : XS → HS → Int32 → Option Int32) (hk : ∀ (S : XS) (Hp : HS) (v3 : Int32), kk S Hp v3 = some 1 → ∀ (a : Nat → Nat) (H : Heap) (locs : List Loc) (cells slots : Nat) (hT : hST D k A s (wXk k ax S) (fun _ => 0) 0 a Hp H locs) (hc : cells + n22 * 4658 + 70516 ≤ 500000) (hsl : slots ≤ 14 * cells + 1000) (ls : Array Slot), lv_has ls 21 [(0, .ref b), (1, .ref (ax 0)), (2, .ref (a v2)), (3, .int v3)] → W p l e room_1 s m #[Value.ref b] below meth c H locs cells slots (lw_Z below #[Value.ref b] s) (F0 m 22 ls [])) (n : Nat) (S : XS) (Hp : HS) (v10 : Int32) (v11 : Int32), itr4 (mL_law_F114 xs L kk v2 v3 v4 v5 v7 v8 v9) n S Hp v10 v11 = some 1 → ∀ (a : Nat → Nat) (H : Heap) (locs : List Loc) (cells slots : Nat) (hT : hST D k A s (wXk k ax S) (fun _ => 0) 0 a Hp H locs) (hc : cells + n * 288 + 1 + n22 * 4658 + 70516 ≤ 500000) (hsl : slots ≤ 14 * cells + 1000) (ls : Array Slot), lv_has ls 21 [(0, .ref b), (1, .ref (ax 0)), (2, .ref (a v2)), (3, .int v3), (4, .int v4), (5, .long v5), (7, .int v7), (8, .int v8), (9, .ref (a v9)), (10, .int v10), (11, .int v11)] → W p l e room_1 s m #[Value.ref b] below meth c H locs cells slots (lw_Z below #[Value.ref b] s) (F0 m 114 ls []) := by
    intro n22 v2 v3 v4 v5 v7 v8 v9 kk hk
    intro n
    refine itr4_indn (fun (n : Nat) (S : XS) (Hp : HS) (v10 : Int32) (v11 : Int32) => ∀ (a : Nat → Nat) (H : Heap) (locs : List Loc) (cells slots : Nat) (hT : hST D k A s (wXk k ax S) (fun _ => 0) 0 a Hp H locs) (hc : cells + n * 288 + 1 + n22 * 4658 + 70516 ≤ 500000) (hsl : slots ≤ 14 * cells + 1000) (ls : Array Slot), lv_has ls 21 [(0, .ref b), (1, .ref (ax 0)), (2, .ref (a v2)), (3, .int v3), (4, .int v4), (5, .long v5), (7, .int v7), (8, .int v8), (9, .ref (a v9)), (10, .int v10), (11, .int v11)] → W p l e room_1 s m #[Value.ref b] below meth c H locs cells slots (lw_Z below #[Value.ref b] s) (F0 m 114 ls [])) ?_ n
    intro n114 ih hih S Hp v10 v11 h a H locs cells slots hT hc hsl ls hl
    unfold mL_law_F114 at h
    refine lv_iload C.1 C.2.1 dL_law_114 (lv_at hl 10 rfl) ?_
    refine lv_iload C.1 C.2.1 dL_law_116 (lv_at hl 6 rfl) ?_
    refine k_icmp_ge (tgt := 620) C dL_law_118 (by decide) h (fun c118 h => ?_) (fun c118 h => ?_)
    · refine lv_iconst (v := 2) C.1 C.2.1 dL_law_620 (by decide) ?_
      refine lv_istore (lv' := [(11, .int 2), (0, .ref b), (1, .ref (ax 0)), (2, .ref (a v2)), (3, .int v3), (4, .int v4), (5, .long v5), (7, .int v7), (8, .int v8), (9, .ref (a v9)), (10, .int v10)]) C.1 C.2.1 dL_law_621 hl (by decide) rfl (fun ls hl => ?_)
      exact L623 n22 S Hp v2 v3 v4 v5 v7 v8 v9 v10 kk hk 16 2 h _ _ _ _ _ hT (by omega) (by omega) ls (lv_sub hl [1, 2, 3, 4, 5, 6, 7, 8, 9, 10, 0] rfl)
    · refine lv_aload_n C.1 C.2.1 dL_law_121 rfl (lv_at hl 1 rfl) ?_
      refine lv_iload C.1 C.2.1 dL_law_122 (lv_at hl 10 rfl) ?_
      refine lv_iconst (v := 2) C.1 C.2.1 dL_law_124 (by decide) ?_
      refine x_TR C hK hA hE hT [.int v11, .int 2] h (fun o e => tX0_told hfl e) (cb_L_93 C.2.2.2.2 ⟨Nat.le_of_ble_eq_true rfl, Nat.le_of_ble_eq_true rfl⟩) rfl hl.1 (Nat.le_of_ble_eq_true rfl) ⟨(by show _ ≤ 600104; omega), (by show _ ≤ 7301314; omega)⟩ dL_law_125 rfl (fun x125 h => ?_)
      refine lv_istore (lv' := [(12, .int x125), (0, .ref b), (1, .ref (ax 0)), (2, .ref (a v2)), (3, .int v3), (4, .int v4), (5, .long v5), (7, .int v7), (8, .int v8), (9, .ref (a v9)), (10, .int v10), (11, .int v11)]) C.1 C.2.1 dL_law_128 hl (by decide) rfl (fun ls hl => ?_)
      refine lv_iload C.1 C.2.1 dL_law_130 (lv_at hl 0 rfl) ?_
      refine k_if_lt (tgt := 142) C dL_law_132 (by decide) h (fun c132 h => ?_) (fun c132 h => ?_)
      · refine lv_iconst (v := 0) C.1 C.2.1 dL_law_142 (by decide) ?_
        cases h
      · refine lv_iload C.1 C.2.1 dL_law_135 (lv_at hl 0 rfl) ?_
        refine lv_iload C.1 C.2.1 dL_law_137 (lv_at hl 7 rfl) ?_
        refine k_icmp_le (tgt := 144) C dL_law_139 (by decide) h (fun c139 h => ?_) (fun c139 h => ?_)
        · refine lv_aload C.1 C.2.1 dL_law_144 (lv_at hl 9 rfl) ?_
          refine lv_iload C.1 C.2.1 dL_law_146 (lv_at hl 0 rfl) ?_
          refine lv_dup2_11 C.1 C.2.1 dL_law_148 rfl rfl ?_
          refine h_ild0 C hK hT.1 h dL_law_149 (fun x149 h => ?_)
          refine lv_iconst (v := 1) C.1 C.2.1 dL_law_150 (by decide) ?_
          refine lv_iadd C.1 C.2.1 dL_law_151 ?_
          refine h_ist0 C hK hT h dL_law_152 (fun Hp152 H locs h hT => ?_)
          refine lv_iload C.1 C.2.1 dL_law_153 (lv_at hl 10 rfl) ?_
          refine lv_iload C.1 C.2.1 dL_law_155 (lv_at hl 0 rfl) ?_
          refine k_if_le (tgt := 164) C dL_law_157 (by decide) h (fun c157 h => ?_) (fun c157 h => ?_)
          · refine lv_iconst (v := 0) C.1 C.2.1 dL_law_164 (by decide) ?_
            exact J165 n114 n22 S Hp152 v2 v3 v4 v5 v7 v8 v9 v11 x125 0 v10 ih hih h _ _ _ _ _ hT (by omega) (by omega) ls (lv_sub hl [1, 2, 3, 4, 5, 6, 7, 8, 9, 11, 0] rfl)
          · refine lv_iconst (v := 1) C.1 C.2.1 dL_law_160 (by decide) ?_
            refine lv_goto (tgt := 165) C.1 C.2.1 dL_law_161 (by decide) ?_
            exact J165 n114 n22 S Hp152 v2 v3 v4 v5 v7 v8 v9 v11 x125 1 v10 ih hih h _ _ _ _ _ hT (by omega) (by omega) ls (lv_sub hl [1, 2, 3, 4, 5, 6, 7, 8, 9, 11, 0] rfl)
        · refine lv_iconst (v := 0) C.1 C.2.1 dL_law_142 (by decide) ?_
          cases h
  have L45 : ∀ (n22 : Nat) (v2 : Nat) (v3 : Int32) (v4 : Int32) (kk : XS → HS → Int32 → Option Int32) (hk : ∀ (S : XS) (Hp : HS) (v3 : Int32), kk S Hp v3 = some 1 → ∀ (a : Nat → Nat) (H : Heap) (locs : List Loc) (cells slots : Nat) (hT : hST D k A s (wXk k ax S) (fun _ => 0) 0 a Hp H locs) (hc : cells + n22 * 4658 + 70516 ≤ 500000) (hsl : slots ≤ 14 * cells + 1000) (ls : Array Slot), lv_has ls 21 [(0, .ref b), (1, .ref (ax 0)), (2, .ref (a v2)), (3, .int v3)] → W p l e room_1 s m #[Value.ref b] below meth c H locs cells slots (lw_Z below #[Value.ref b] s) (F0 m 22 ls [])) (n : Nat) (S : XS) (Hp : HS) (v5 : Int32), itr3 (mL_law_F45 xs L kk v2 v3 v4) n S Hp v5 = some 1 → ∀ (a : Nat → Nat) (H : Heap) (locs : List Loc) (cells slots : Nat) (hT : hST D k A s (wXk k ax S) (fun _ => 0) 0 a Hp H locs) (hc : cells + n * 3 + 4610 + n22 * 4658 + 70516 ≤ 500000) (hsl : slots ≤ 14 * cells + 1000) (ls : Array Slot), lv_has ls 21 [(0, .ref b), (1, .ref (ax 0)), (2, .ref (a v2)), (3, .int v3), (4, .int v4), (5, .int v5)] → W p l e room_1 s m #[Value.ref b] below meth c H locs cells slots (lw_Z below #[Value.ref b] s) (F0 m 45 ls []) := by
    intro n22 v2 v3 v4 kk hk
    intro n
    refine itr3_indn (fun (n : Nat) (S : XS) (Hp : HS) (v5 : Int32) => ∀ (a : Nat → Nat) (H : Heap) (locs : List Loc) (cells slots : Nat) (hT : hST D k A s (wXk k ax S) (fun _ => 0) 0 a Hp H locs) (hc : cells + n * 3 + 4610 + n22 * 4658 + 70516 ≤ 500000) (hsl : slots ≤ 14 * cells + 1000) (ls : Array Slot), lv_has ls 21 [(0, .ref b), (1, .ref (ax 0)), (2, .ref (a v2)), (3, .int v3), (4, .int v4), (5, .int v5)] → W p l e room_1 s m #[Value.ref b] below meth c H locs cells slots (lw_Z below #[Value.ref b] s) (F0 m 45 ls [])) ?_ n
    intro n45 ih hih S Hp v5 h a H locs cells slots hT hc hsl ls hl
    unfold mL_law_F45 at h
    refine lv_iload C.1 C.2.1 dL_law_45 (lv_at hl 5 rfl) ?_
    refine lv_iconst (v := 4) C.1 C.2.1 dL_law_47 (by decide) ?_
    refine k_icmp_ge (tgt := 80) C dL_law_48 (by decide) h (fun c48 h => ?_) (fun c48 h => ?_)
    · refine lv_aload_n C.1 C.2.1 dL_law_80 rfl (lv_at hl 1 rfl) ?_
      refine x_ROl C hK hT [] h (fun v e => tX0_digest e) (cb_L_86 C.2.2.2.2 ⟨Nat.le_of_ble_eq_true rfl, Nat.le_of_ble_eq_true rfl⟩) rfl hl.1 (Nat.le_of_ble_eq_true rfl) ⟨(by show _ ≤ 600104; omega), (by show _ ≤ 7301314; omega)⟩ dL_law_81 rfl (fun x81 h => ?_)
      refine lv_lstore (lv' := [(5, .long x81), (0, .ref b), (1, .ref (ax 0)), (2, .ref (a v2)), (3, .int v3), (4, .int v4)]) C.1 C.2.1 dL_law_84 hl (by decide) rfl (fun ls hl => ?_)
      refine lv_aload_n C.1 C.2.1 dL_law_86 rfl (lv_at hl 2 rfl) ?_
      refine lv_iconst (v := 0) C.1 C.2.1 dL_law_87 (by decide) ?_
      refine x_TR C hK hA hE hT [.int 0] h (fun o e => tX0_count hfl e) (cb_L_90 C.2.2.2.2 ⟨Nat.le_of_ble_eq_true rfl, Nat.le_of_ble_eq_true rfl⟩) rfl hl.1 (Nat.le_of_ble_eq_true rfl) ⟨(by show _ ≤ 600104; omega), (by show _ ≤ 7301314; omega)⟩ dL_law_88 rfl (fun x88 h => ?_)
      refine lv_istore (lv' := [(7, .int x88), (5, .long x81), (0, .ref b), (1, .ref (ax 0)), (2, .ref (a v2)), (3, .int v3), (4, .int v4)]) C.1 C.2.1 dL_law_91 hl (by decide) rfl (fun ls hl => ?_)
      refine lv_aload_n C.1 C.2.1 dL_law_93 rfl (lv_at hl 3 rfl) ?_
      refine lv_iconst (v := 1) C.1 C.2.1 dL_law_94 (by decide) ?_
      refine x_TR C hK hA hE hT [.int 1] h (fun o e => tX0_count hfl e) (cb_L_90 C.2.2.2.2 ⟨Nat.le_of_ble_eq_true rfl, Nat.le_of_ble_eq_true rfl⟩) rfl hl.1 (Nat.le_of_ble_eq_true rfl) ⟨(by show _ ≤ 600104; omega), (by show _ ≤ 7301314; omega)⟩ dL_law_95 rfl (fun x95 h => ?_)
      refine lv_istore (lv' := [(8, .int x95), (7, .int x88), (5, .long x81), (0, .ref b), (1, .ref (ax 0)), (2, .ref (a v2)), (3, .int v3), (4, .int v4)]) C.1 C.2.1 dL_law_98 hl (by decide) rfl (fun ls hl => ?_)
      refine lv_iload C.1 C.2.1 dL_law_100 (lv_at hl 1 rfl) ?_
      refine lv_iconst (v := 2) C.1 C.2.1 dL_law_102 (by decide) ?_
      refine lv_iadd C.1 C.2.1 dL_law_103 ?_
      refine h_nw0 C hK hT hA (by show _ ≤ 600104; omega) (by show _ ≤ 7301314; omega) h dL_law_104 (fun Hp104 x104 a104 H h hT hag hrs => ?_)
      have hl : lv_has ls 21 [(8, .int x95), (7, .int x88), (5, .long x81), (0, .ref b), (1, .ref (ax 0)), (2, .ref (a104 v2)), (3, .int v3), (4, .int v4)] := by
        have hl : lv_has ls 21 [(8, .int x95), (7, .int x88), (5, .long x81), (0, .ref b), (1, .ref (ax 0)), (2, .ref (a v2)), (3, .int v3), (4, .int v4)] := lv_sub hl [0, 1, 2, 3, 4, 5, 6, 7] rfl
        simpa only [hag _ (hrs _ (List.mem_of_getElem? (i := 0) rfl))] using hl
      refine lv_astore (lv' := [(9, .ref (a104 x104)), (8, .int x95), (7, .int x88), (5, .long x81), (0, .ref b), (1, .ref (ax 0)), (2, .ref (a104 v2)), (3, .int v3), (4, .int v4)]) C.1 C.2.1 dL_law_106 hl (by decide) rfl (fun ls hl => ?_)
      refine lv_iconst (v := 0) C.1 C.2.1 dL_law_108 (by decide) ?_
      refine lv_istore (lv' := [(10, .int 0), (9, .ref (a104 x104)), (8, .int x95), (7, .int x88), (5, .long x81), (0, .ref b), (1, .ref (ax 0)), (2, .ref (a104 v2)), (3, .int v3), (4, .int v4)]) C.1 C.2.1 dL_law_109 hl (by decide) rfl (fun ls hl => ?_)
      refine lv_iconst (v := 0) C.1 C.2.1 dL_law_111 (by decide) ?_
      refine lv_istore (lv' := [(11, .int 0), (10, .int 0), (9, .ref (a104 x104)), (8, .int x95), (7, .int x88), (5, .long x81), (0, .ref b), (1, .ref (ax 0)), (2, .ref (a104 v2)), (3, .int v3), (4, .int v4)]) C.1 C.2.1 dL_law_112 hl (by decide) rfl (fun ls hl => ?_)
      exact L114 n22 v2 v3 v4 x81 x88 x95 x104 kk hk 16 S Hp104 0 0 h _ _ _ _ _ hT (by omega) (by omega) ls (lv_sub hl [6, 7, 8, 9, 10, 5, 4, 3, 2, 1, 0] rfl)
    · refine lv_aload_n C.1 C.2.1 dL_law_51 rfl (lv_at hl 1 rfl) ?_
      refine lv_aload_n C.1 C.2.1 dL_law_52 rfl (lv_at hl 2 rfl) ?_
      refine lv_iload C.1 C.2.1 dL_law_53 (lv_at hl 4 rfl) ?_
      refine lv_iconst (v := 3) C.1 C.2.1 dL_law_55 (by decide) ?_
      refine lv_iload C.1 C.2.1 dL_law_56 (lv_at hl 5 rfl) ?_
      refine lv_imul C.1 C.2.1 dL_law_58 ?_
      refine lv_ishr C.1 C.2.1 dL_law_59 ?_
      refine lv_bipush (v := 29) C.1 C.2.1 dL_law_60 (by decide) ?_
      refine lv_iload C.1 C.2.1 dL_law_62 (lv_at hl 5 rfl) ?_
      refine lv_imul C.1 C.2.1 dL_law_64 ?_
      refine lv_iadd C.1 C.2.1 dL_law_65 ?_
      refine h_cLa C hK hB hA hE hT [.ref (ax 0), .ref (a v2), .int ((v4 >>> ((3 * v5) &&& 31)) + (29 * v5))] h (fun v S2 Hp2 e => tL_act hfl (z := (v, (S2, Hp2))) e) (cb_L_82 C.2.2.2.2 ⟨Nat.le_of_ble_eq_true rfl, Nat.le_of_ble_eq_true rfl⟩) rfl hl.1 (Nat.le_of_ble_eq_true rfl) ⟨(by show _ ≤ 600104; omega), (by show _ ≤ 7301314; omega)⟩ dL_law_66 rfl (fun x66 S66 Hp66 a66 H locs h hT hag hrs => ?_)
      have hl : lv_has ls 21 [(0, .ref b), (1, .ref (ax 0)), (2, .ref (a66 v2)), (3, .int v3), (4, .int v4), (5, .int v5)] := by
        have hl : lv_has ls 21 [(0, .ref b), (1, .ref (ax 0)), (2, .ref (a v2)), (3, .int v3), (4, .int v4), (5, .int v5)] := lv_sub hl [0, 1, 2, 3, 4, 5] rfl
        simpa only [hag _ (hrs _ (List.mem_of_getElem? (i := 0) rfl))] using hl
      refine k_if_ne (tgt := 74) C dL_law_69 (by decide) h (fun c69 h => ?_) (fun c69 h => ?_)
      · refine lv_iinc (v := (v5 + 1)) (lv' := [(5, .int (v5 + 1)), (0, .ref b), (1, .ref (ax 0)), (2, .ref (a66 v2)), (3, .int v3), (4, .int v4)]) C.1 C.2.1 dL_law_74 hl (k := 5) rfl rfl (by decide) rfl (fun ls hl => ?_)
        refine lv_goto (tgt := 45) C.1 C.2.1 dL_law_77 (by decide) ?_
        exact hih S66 Hp66 (v5 + 1) h _ _ _ _ _ hT (by omega) (by omega) ls (lv_sub hl [1, 2, 3, 4, 5, 0] rfl)
      · refine lv_iconst (v := 0) C.1 C.2.1 dL_law_72 (by decide) ?_
        cases h
  have L22 : ∀ (v2 : Nat) (n : Nat) (S : XS) (Hp : HS) (v3 : Int32), itr3 (mL_law_F22 xs L v2) n S Hp v3 = some 1 → ∀ (a : Nat → Nat) (H : Heap) (locs : List Loc) (cells slots : Nat) (hT : hST D k A s (wXk k ax S) (fun _ => 0) 0 a Hp H locs) (hc : cells + n * 4658 + 70516 ≤ 500000) (hsl : slots ≤ 14 * cells + 1000) (ls : Array Slot), lv_has ls 21 [(0, .ref b), (1, .ref (ax 0)), (2, .ref (a v2)), (3, .int v3)] → W p l e room_1 s m #[Value.ref b] below meth c H locs cells slots (lw_Z below #[Value.ref b] s) (F0 m 22 ls []) := by
    intro v2
    intro n
    refine itr3_indn (fun (n : Nat) (S : XS) (Hp : HS) (v3 : Int32) => ∀ (a : Nat → Nat) (H : Heap) (locs : List Loc) (cells slots : Nat) (hT : hST D k A s (wXk k ax S) (fun _ => 0) 0 a Hp H locs) (hc : cells + n * 4658 + 70516 ≤ 500000) (hsl : slots ≤ 14 * cells + 1000) (ls : Array Slot), lv_has ls 21 [(0, .ref b), (1, .ref (ax 0)), (2, .ref (a v2)), (3, .int v3)] → W p l e room_1 s m #[Value.ref b] below meth c H locs cells slots (lw_Z below #[Value.ref b] s) (F0 m 22 ls [])) ?_ n
    intro n22 ih hih S Hp v3 h a H locs cells slots hT hc hsl ls hl
    unfold mL_law_F22 at h
    refine lv_iload_n C.1 C.2.1 dL_law_22 rfl (lv_at hl 3 rfl) ?_
    refine lv_bipush (v := 10) C.1 C.2.1 dL_law_23 (by decide) ?_
    refine k_icmp_ge (tgt := 1062) C dL_law_25 (by decide) h (fun c25 h => ?_) (fun c25 h => ?_)
    · refine lv_aload_n C.1 C.2.1 dL_law_1062 rfl (lv_at hl 2 rfl) ?_
      refine lv_aload_n C.1 C.2.1 dL_law_1063 rfl (lv_at hl 1 rfl) ?_
      refine h_cLv C hK hB hA hE hT [.ref (ax 0)] h (fun v S2 Hp2 e => tS_isSame hfl (z := (v, (S2, Hp2))) e) (cb_L_116 C.2.2.2.2 ⟨Nat.le_of_ble_eq_true rfl, Nat.le_of_ble_eq_true rfl⟩) rfl hl.1 (Nat.le_of_ble_eq_true rfl) ⟨(by show _ ≤ 600104; omega), (by show _ ≤ 7301314; omega)⟩ dL_law_1064 rfl (fun x1064 S1064 Hp1064 a1064 H locs h hT hag hrs => ?_)
      have hl : lv_has ls 21 [] := by
        have hl : lv_has ls 21 [] := lv_sub hl [] rfl
        exact hl
      cases h
      refine va_forget (fun q hq => hAf _ (hT.2.2.1.2.2 q hq)) ?_
      refine W.widen (k := 600104) (n := 7301314) (by omega) (by omega) ?_
      exact lw_ret (d0 := s.drawn) (Drawn.sameBut.refl s.drawn lw_cs) C.1 C.2.1 hr hlk dL_law_1067
    · refine lv_aload_n C.1 C.2.1 dL_law_28 rfl (lv_at hl 0 rfl) ?_
      refine lv_iload_n C.1 C.2.1 dL_law_29 rfl (lv_at hl 3 rfl) ?_
      refine k_scr C hX hbl hqA hT.2.2.1 [.ref b, .int v3] h (fun v e => tL_cell hL e) (cb_L_73 C.2.2.2.2 ⟨Nat.le_of_ble_eq_true rfl, Nat.le_of_ble_eq_true rfl⟩) rfl hl.1 (Nat.le_of_ble_eq_true rfl) ⟨(by show _ ≤ 600104; omega), (by show _ ≤ 7301314; omega)⟩ dL_law_30 rfl (fun x30 h => ?_)
      refine lv_iconst (v := 2) C.1 C.2.1 dL_law_33 (by decide) ?_
      refine lv_ishr C.1 C.2.1 dL_law_34 ?_
      refine lv_bipush (v := 53) C.1 C.2.1 dL_law_35 (by decide) ?_
      refine lv_iload_n C.1 C.2.1 dL_law_37 rfl (lv_at hl 3 rfl) ?_
      refine lv_imul C.1 C.2.1 dL_law_38 ?_
      refine lv_iadd C.1 C.2.1 dL_law_39 ?_
      refine lv_istore (lv' := [(4, .int ((x30 >>> (2 &&& 31)) + (53 * v3))), (0, .ref b), (1, .ref (ax 0)), (2, .ref (a v2)), (3, .int v3)]) C.1 C.2.1 dL_law_40 hl (by decide) rfl (fun ls hl => ?_)
      refine lv_iconst (v := 0) C.1 C.2.1 dL_law_42 (by decide) ?_
      refine lv_istore (lv' := [(5, .int 0), (4, .int ((x30 >>> (2 &&& 31)) + (53 * v3))), (0, .ref b), (1, .ref (ax 0)), (2, .ref (a v2)), (3, .int v3)]) C.1 C.2.1 dL_law_43 hl (by decide) rfl (fun ls hl => ?_)
      exact L45 n22 v2 v3 ((x30 >>> (2 &&& 31)) + (53 * v3)) ih hih 16 S Hp 0 h _ _ _ _ _ hT (by omega) (by omega) ls (lv_sub hl [2, 3, 4, 5, 1, 0] rfl)
  have J8 : ∀ (S : XS) (Hp : HS), mL_law_J8 xs L S Hp = some 1 → ∀ (a : Nat → Nat) (H : Heap) (locs : List Loc) (cells slots : Nat) (hT : hST D k A s (wXk k ax S) (fun _ => 0) 0 a Hp H locs) (hc : cells + 157879 ≤ 500000) (hsl : slots ≤ 14 * cells + 1000) (ls : Array Slot), lv_has ls 21 [(0, .ref b), (1, .ref (ax 0))] → W p l e room_1 s m #[Value.ref b] below meth c H locs cells slots (lw_Z below #[Value.ref b] s) (F0 m 8 ls []) := by
    intro S Hp h a H locs cells slots hT hc hsl ls hl
    unfold mL_law_J8 at h
    refine lv_aload_n C.1 C.2.1 dL_law_8 rfl (lv_at hl 1 rfl) ?_
    refine lv_aload_n C.1 C.2.1 dL_law_9 rfl (lv_at hl 0 rfl) ?_
    refine h_cLb C hK hB hA hE hT hX hbl hqA [.ref (ax 0), .ref b] h (fun v S2 Hp2 e => tL_build hfl hL (z := (v, (S2, Hp2))) e) (cb_L_78 C.2.2.2.2 ⟨Nat.le_of_ble_eq_true rfl, Nat.le_of_ble_eq_true rfl⟩) rfl hl.1 (Nat.le_of_ble_eq_true rfl) ⟨(by show _ ≤ 600104; omega), (by show _ ≤ 7301314; omega)⟩ dL_law_10 rfl (fun x10 S10 Hp10 a10 H locs h hT hag hrs => ?_)
    have hl : lv_has ls 21 [(0, .ref b), (1, .ref (ax 0))] := by
      have hl : lv_has ls 21 [(0, .ref b), (1, .ref (ax 0))] := lv_sub hl [0, 1] rfl
      exact hl
    refine lv_astore_n (lv' := [(2, .ref (a10 x10)), (0, .ref b), (1, .ref (ax 0))]) C.1 C.2.1 dL_law_13 rfl hl (by decide) rfl (fun ls hl => ?_)
    refine lv_aload_n C.1 C.2.1 dL_law_14 rfl (lv_at hl 0 rfl) ?_
    refine lv_ifnonnull (tgt := 20) C.1 C.2.1 dL_law_15 (by decide) ?_
    refine lv_iconst (v := 0) C.1 C.2.1 dL_law_20 (by decide) ?_
    refine lv_istore_n (lv' := [(3, .int 0), (2, .ref (a10 x10)), (0, .ref b), (1, .ref (ax 0))]) C.1 C.2.1 dL_law_21 rfl hl (by decide) rfl (fun ls hl => ?_)
    exact L22 x10 16 S10 Hp10 0 h _ _ _ _ _ hT (by omega) (by omega) ls (lv_sub hl [2, 3, 1, 0] rfl)
  exact J8
end LAWBODY
