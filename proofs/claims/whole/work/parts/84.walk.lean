/-! the law's walk, out of what its interpreter says -/
theorem iv_S_le : ∀ n, n < 73 → iv_S n ≤ 7302250 := by decide +kernel
theorem iv_tbl_in : ∀ w ∈ iv_tbl, w ∈ lw_tbl := fun w hw => (List.mem_filter.mp hw).1
theorem lw_q265 : (iv_q 265).2.2.1 = 4 ∧ (iv_q 265).2.2.2.1 = some .boolean ∧ iv_c (iv_q 265).2.2.2.2.1 = R_law ∧ (iv_q 265).1.name = "law" := by decide +kernel
theorem lw_code265 : (iv_q 265).2.1 = code := rfl
theorem lw_blk0 : (iv_lk (iv_Gb 265) 0).1 = [1, 0, 0, 0] := by decide +kernel
theorem iv_ck63 {bs : ByteArray} {o pc ia ib : Nat} {iz : Int} {its : List Nat} {rt : Option FieldType} {ini : Bool} (h : iv_ck bs o rt ini pc (63, ia, ib, iz, its) = true) : decode bs pc = .ok (.ireturn, 1) := by
  have h2 := Bool.and_eq_true_iff.mp (show (iv_dk bs pc .ireturn 1 && ((decide (ia = 0) && decide (rt = some .int)) || (decide (ia = 1) && decide (rt = some .boolean)))) = true from h)
  exact of_decide_eq_true h2.1
theorem lw_W {p : Program} {e : Env} {s : State} {m : MethodId} {below : List Frame} {meth : Method} {c : Code} (l : Launch) {b L : Nat} {xs : Nat → Int32} (hL : L ≤ 3072) (C0 : lw_At p s m meth c b L xs) (hall : ∀ y, y < 266 → iv_cm (iv_q y) = true) {g : iv_G} (g1 : g.2.2.1 = s.heap) (g2 : g.2.2.2.1 0 = b) (g3 : g.2.2.2.2.1 = L) (g4 : g.2.2.2.2.2 = xs) (hV : iv_V g s) : W p l e room_1 s m #[Value.ref b] below meth c s.heap [] 0 0 (lw_Z below #[Value.ref b] s) (entryFrame m ([Value.ref b] : List Value).toArray 4) := by
  obtain ⟨hx, hb, hr, hml, hown, hts, hX, hbl, hlocks, hgv⟩ := id C0
  obtain ⟨h', h72, e'⟩ := lw_all (xs := xs) hL
  obtain ⟨n, hrun⟩ := iv_sem_to (e' 0)
  obtain ⟨q1, q2, q3, q4⟩ := lw_q265
  have hini : decide ((iv_q 265).1.name = "<init>") = false := by rw [q4]; decide
  have hC : iv_Cx p m c s #[Value.ref b] room_1 meth g (iv_q 265).2.2.1 8 72 20 (iv_q 265).2.2.2.2.1 (decide ((iv_q 265).1.name = "<init>")) (iv_q 265).2.1 lw_tbl :=
    ⟨hx, hb, by rw [q1]; exact hml, by rw [q3]; exact hown, hts, iv_tbl_in, hV, by rw [g1]; rfl, Nat.le_refl 8, Nat.le_refl 72, ⟨by decide +kernel, by decide +kernel⟩, ⟨by decide +kernel, by decide +kernel⟩, fun q hq => by rw [g1], fun z => by rw [hini] at z; cases z⟩
  have K := iv_run_ok hall (iv_str_ok g l) n p e room_1 s m #[Value.ref b] below meth c (lw_Z below #[Value.ref b] s) 20 265 8 72 lw_tbl (some (.int 1)) h' (by omega) hC (by omega) (fun pc i ls st h hck hs hop => ?_) 0 _ [] (lw_h L xs) hrun
  · have e1 : ([Value.ref b] : List Value) = [Value.ref 0].map (iv_v g) := by
      show [Value.ref b] = [Value.ref (iv_a g 0)]
      rw [iv_a_old (by omega), g2]
    have hent := lv_entry ([Value.ref b]) (n := 4) (Nat.le_of_ble_eq_true rfl)
    rw [lg_entry_eq]
    have hL0 : iv_LR g 4 [some (.ref 0), none, none, none] (lg_sl [Value.ref b] ++ List.replicate (4 - (lg_sl [Value.ref b]).length) Slot.unset).toArray := by
      rw [e1] at hent ⊢
      exact iv_LR.msk2 (bs := [1, 0, 0, 0]) hent rfl (Nat.le_of_ble_eq_true rfl)
    have hI : iv_Inv g (lw_h L xs) s.heap := by
      refine ⟨⟨Nat.le_refl 8, by show 8 ≤ 72; omega, by rw [g1]; exact Nat.le_refl _⟩, fun q hq => by rw [g1], fun k q hk => ?_, ?_, fun j hj => ?_, fun j hj => rfl⟩
      · obtain ⟨a, -⟩ := iv_w_at hk
        have : (lw_h L xs).1 = 8 := rfl
        omega
      · rw [g3]; rfl
      · rw [g4]; rfl
    rw [q1] at K
    have K2 := K (Nat.le_refl 8) (by show 8 ≤ 72; omega) _ s.heap [] hL0 hI (fun q hq => by cases hq)
    exact K2
  · obtain ⟨op, ia, ib, iz, its⟩ := i
    rcases hop with hop | hop | hop
    · obtain rfl : op = 63 := hop
      have hs2 : iv_o63 (63, ia, ib, iz, its) ls st h = some (.inr (.inr (.inl (some (.int 1), h')))) := hs
      unfold iv_o63 at hs2
      split at hs2
      · split at hs2
        · have e9 := Option.some.inj hs2
          cases e9
          intro h0 h1 lsC H locs hL hI hl
          have dg : decode code pc = .ok (.ireturn, 1) := by rw [← lw_code265]; exact iv_ck63 hck
          have hS := iv_S_le h'.1 (by omega)
          refine va_forget (fun q hq => by have := hl q hq; unfold iv_new at this; rw [g1] at this; exact this) ?_
          refine W.widen (k := 600000) (n := 7302250) (by omega) (by omega) ?_
          exact lw_ret hx hb hr hlocks dg
        · cases hs2
      · cases hs2
    · obtain rfl : op = 64 := hop
      have hs2 : iv_o64 (64, ia, ib, iz, its) ls st h = some (.inr (.inr (.inl (some (.int 1), h')))) := hs
      unfold iv_o64 at hs2
      split at hs2
      · have e9 := Option.some.inj hs2
        cases e9
      · cases hs2
    · obtain rfl : op = 65 := hop
      have hs2 : iv_o65 (65, ia, ib, iz, its) ls st h = some (.inr (.inr (.inl (some (.int 1), h')))) := hs
      unfold iv_o65 at hs2
      split at hs2
      · have e9 := Option.some.inj hs2
        cases e9
      · cases hs2
