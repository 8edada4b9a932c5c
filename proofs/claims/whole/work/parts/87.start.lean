/-! the law from its entry, given the check of every method -/
theorem whole_of {p : Program} {e : Env} {s : State} {m : MethodId} {below : List Frame} {meth : Method} {c : Code} (l : Launch) {b L : Nat} {xs : Nat → Int32} (hL : L ≤ 3072) (C0 : lw_At p s m meth c b L xs) (hall : ∀ y, y < 266 → iv_cm (iv_q y) = true) : W p l e room_1 s m #[Value.ref b] below meth c s.heap [] 0 0 (lw_Z below #[Value.ref b] s) (entryFrame m ([Value.ref b] : List Value).toArray 4) := by
  obtain ⟨g, ⟨g1, g2, g3, g4⟩, hV⟩ := lw_V C0
  exact lw_W l hL C0 hall g1 g2 g3 g4 hV
