theorem law_HT : ∀ (L : Nat) (xs : Nat → Int32), L ≤ 3072 → qT 40 330 18 [qa 91 0 0, qo 11 0, qo 12 0, qi 0] [] (h0 L xs) (fun v _ => v = some (qi 1)) := sorry
/-- the law, from its entry -/
theorem whole_start {p : Program} {e : Env} {s : State} {m : MethodId} {below : List Frame} {meth : Method} {c : Code} (l : Launch) {b L : Nat} {xs : Nat → Int32} (hL : L ≤ 3072) (C0 : lw_At p s m meth c b L xs) : W p l e room_1 s m #[Value.ref b] below meth c s.heap [] 0 0 (lw_Z below #[Value.ref b] s) (entryFrame m ([Value.ref b] : List Value).toArray 4) := law_open law_HT l hL C0
