/-- the mirror of the law answers 1 on every script -/
theorem law_ok (xs : Nat → Int32) (L : Nat) (hL : L ≤ 2560) : mL_law xs L = some 1 := sorry
theorem whole_start {p : Program} {e : Env} {s : State} {m : MethodId} {below : List Frame} {meth : Method} {c : Code} (l : Launch) (hflags : l.flags = flags0) {b L : Nat} {xs : Nat → Int32} (hL : L ≤ 2560) (C0 : lw_At p s m meth c b L xs) : W p l e room_1 s m #[Value.ref b] below meth c s.heap [] 0 0 (lw_Z below #[Value.ref b] s) (entryFrame m ([Value.ref b] : List Value).toArray 9) := start_of l hflags hL C0 (law_ok xs L hL)
