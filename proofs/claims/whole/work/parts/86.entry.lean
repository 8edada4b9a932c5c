/-! the law's entry -/
abbrev en_f : List Jvm.Cond := flatC (Jvm.Cond.and given_1 narrow_1)
theorem en_o : Cond.arrayOf (.static RX4 "OVER" "[I") .int ∈ en_f ∧ Cond.eq (.length (.static RX4 "OVER" "[I")) (.int (Int32.ofNat 6)) ∈ en_f ∧ (∀ j, j < 6 → Cond.eq (.elem (.static RX4 "OVER" "[I") (.int (Int32.ofNat j))) (.int (iv_ov.getD j 0)) ∈ en_f) ∧ Cond.eq (.static "java/lang/String" "COMPACT_STRINGS" "Z") (.int 1) ∈ en_f ∧ Cond.isRef (.static "jdk/internal/util/Preconditions" "SIOOBE_FORMATTER" "Ljava/util/function/BiFunction;") ∈ en_f := by decide +kernel
theorem en_x : (∀ i, i < 6 → Cond.exactly (en_t i) "java/lang/String" ∈ en_f) ∧ (∀ i, i < 6 → Cond.eq (.field (en_t i) "java/lang/String" "coder" "B") (.int 0) ∈ en_f) ∧ (∀ i, i < 6 → Cond.arrayOf (.field (en_t i) "java/lang/String" "value" "[B") .byte ∈ en_f) ∧ (∀ i, i < 6 → Cond.eq (.length (.field (en_t i) "java/lang/String" "value" "[B")) (.int (Int32.ofNat ([6, 5, 5, 5, 7, 6].getD i 0))) ∈ en_f) := by decide +kernel
theorem en_y : ∀ i, i < 6 → ∀ j, j < [6, 5, 5, 5, 7, 6].getD i 0 → Cond.eq (.elem (.field (en_t i) "java/lang/String" "value" "[B") (.int (Int32.ofNat j))) (.int ((iv_sl.getD i []).getD j 0)) ∈ en_f := by decide +kernel
theorem en_d : ∀ i, i < 6 → ∀ j, j < 6 → (decide (i = j) || decide (Cond.not (Cond.eq (en_t i) (en_t j)) ∈ en_f) || decide (Cond.not (Cond.eq (en_t j) (en_t i)) ∈ en_f)) = true := by decide +kernel
theorem en_e : Cond.eq (en_t 0) (.string RX5 145) ∈ en_f ∧ Cond.eq (en_t 4) (.string RX5 155) ∈ en_f ∧ Cond.eq (en_t 5) (.string RX5 157) ∈ en_f ∧ Cond.eq (en_t 1) (.string RX5 159) ∈ en_f ∧ Cond.eq (en_t 2) (.string RX5 161) ∈ en_f ∧ Cond.eq (en_t 3) (.string RX5 163) ∈ en_f := by decide +kernel
theorem lw_V {p : Program} {s : State} {m : MethodId} {meth : Method} {c : Code} {b L : Nat} {xs : Nat → Int32} (C0 : lw_At p s m meth c b L xs) : ∃ g : iv_G, (g.2.2.1 = s.heap ∧ g.2.2.2.1 0 = b ∧ g.2.2.2.2.1 = L ∧ g.2.2.2.2.2 = xs) ∧ iv_V g s := by
  obtain ⟨hx, hb, hr, hml, hown, hts, hX, hbl, hlocks, hgv⟩ := id C0
  have hs := flat_of_before _ hgv
  have hA : ∀ a, a < s.heap.size → ¬ (fun q : Nat => s.heap.size ≤ q) a := fun a h => Nat.not_le.mpr h
  obtain ⟨c0, i0, k0⟩ := u_known hts en_u0 (hts _ en_i.1)
  obtain ⟨c1, i1, k1⟩ := u_known hts en_u1 (hts _ en_i.2.1)
  obtain ⟨c2, i2, k2⟩ := u_known hts en_u2 (hts _ en_i.2.2.1)
  obtain ⟨c3, i3, k3⟩ := u_known hts en_u3 (hts _ en_i.2.2.2.1)
  obtain ⟨c4, i4, k4⟩ := u_known hts en_u4 (hts _ en_i.2.2.2.2.1)
  obtain ⟨c5, i5, k5⟩ := u_known hts en_u5 (hts _ en_i.2.2.2.2.2)
  obtain ⟨a6, r6, f6⟩ := en_arr (hts _ en_a.1)
  obtain ⟨a7, r7, f7⟩ := en_arr (hts _ en_a.2.1)
  obtain ⟨a8, r8, f8⟩ := en_arr (hts _ en_a.2.2.1)
  obtain ⟨p9, a9, q9, f9, -, h9, e9, n9⟩ := Cond.arrayOver_spec (hts _ en_a.2.2.2.1)
  obtain ⟨p10, a10, q10, f10, -, h10, e10, n10⟩ := arrayOverA_spec (hts _ en_a.2.2.2.2)
  obtain ⟨to, eo, wo⟩ := va_Tof (tm := .static RX4 "OVER" "[I") (ty := .int) (N := 6) (f := fun j => .int (iv_ov.getD j 0)) (A := fun q : Nat => s.heap.size ≤ q) (by decide) (hs _ en_o.1) (va_eqt (hs _ en_o.2.1)) (fun j hj => va_eqt (hs _ (en_o.2.2.1 j hj))) hA
  have zo := va_Zof (A := fun q : Nat => s.heap.size ≤ q) (hts _ en_z.1.1) (hts _ en_z.1.2) eo hA
  have zc := va_Zof (A := fun q : Nat => s.heap.size ≤ q) (hts _ en_z.2.1.1) (hts _ en_z.2.1.2) (va_eqi (hs _ en_o.2.2.2.1)) hA
  have zq := va_Zqof (A := fun q : Nat => s.heap.size ≤ q) (hts _ en_z.2.2.1) (hts _ en_z.2.2.2) (hs _ en_o.2.2.2.2) hA
  obtain ⟨adK, adV, S, tk⟩ := vk_Sof (args := #[Value.ref b]) (s := s) (N := 6) (tm := en_t) (len := [6, 5, 5, 5, 7, 6]) (byt := iv_sl) (A := fun q : Nat => s.heap.size ≤ q) (by decide) (fun i hi => hs _ (en_x.1 i hi)) (fun i hi => hs _ (en_x.2.1 i hi)) (fun i hi => hs _ (en_x.2.2.1 i hi)) (fun i hi => hs _ (en_x.2.2.2 i hi)) (fun i hi j hj => hs _ (en_y i hi j hj)) (fun i j hi hj ne => by
    have h := en_d i hi j hj
    rw [Bool.or_eq_true, Bool.or_eq_true] at h
    rcases h with (h | h) | h
    · exact absurd (of_decide_eq_true h) ne
    · exact Or.inl (hs _ (of_decide_eq_true h))
    · exact Or.inr (hs _ (of_decide_eq_true h))) hA
  refine ⟨((fun k => if k = 0 then c0 else if k = 1 then c1 else if k = 2 then c2 else if k = 3 then c3 else if k = 4 then c4 else c5, fun k => if k = 0 then i0 else if k = 1 then i1 else if k = 2 then i2 else if k = 3 then i3 else if k = 4 then i4 else i5), fun k => if k = 6 then a6 else if k = 7 then a7 else if k = 8 then a8 else if k = 9 then a9 else a10, s.heap, fun k => if k = 0 then b else if k = 1 then to else adK (k - 2), L, xs), ⟨rfl, rfl, rfl, rfl⟩, ⟨?_, ?_⟩, ?_, ?_, ⟨?_, ?_⟩, ⟨hX, zo, wo⟩, ⟨zc, adV, ?_⟩, hbl, zq⟩
  · intro k q hq
    match k, hq with
    | 0, hq => cases hq; exact k0
    | 1, hq => cases hq; exact k1
    | 2, hq => cases hq; exact k2
    | 3, hq => cases hq; exact k3
    | 4, hq => cases hq; exact k4
    | 5, hq => cases hq; exact k5
    | k + 6, hq => simp at hq
  · intro k q hq
    match k, hq with
    | 0, hq => cases hq; exact ⟨r6, f6⟩
    | 1, hq => cases hq; exact ⟨r7, f7⟩
    | 2, hq => cases hq; exact ⟨r8, f8⟩
    | 3, hq => cases hq; exact ⟨fun N z => ⟨(fun k h => by cases h), q9, h9, p9, e9⟩, q9, p9, h9, e9, f9, n9⟩
    | 4, hq => cases hq; exact ⟨fun N z => ⟨(fun k h => by cases h), q10, h10, p10, e10⟩, n10⟩
    | k + 5, hq => simp [iv_tys] at hq
  · intro w hw
    exact va_Nw.of (en_n w hw).2 (hts w (en_n w hw).1)
  · have R3 : ∀ i, i < 6 → ∀ {k : Nat} {tx : String}, Cond.stringRef RX3 k tx ∈ lw_tbl → en_t i = .string RX3 k → vk_R RX3 k tx (adK i) s := fun i hi k tx h1 h2 => vk_R.of (hts _ h1) (by rw [← h2]; exact tk i hi)
    have R5 : ∀ i, i < 6 → ∀ {k : Nat} {tx : String}, Cond.stringRef RX5 k tx ∈ lw_tbl → Cond.eq (en_t i) (.string RX5 k) ∈ en_f → vk_R RX5 k tx (adK i) s := fun i hi k tx h1 h2 => vk_R.of (hts _ h1) (eqv2 (hs _ h2) (tk i hi))
    have m := List.forall_mem_cons.mp en_s
    obtain ⟨m0, m⟩ := m
    obtain ⟨m1, m⟩ := List.forall_mem_cons.mp m
    obtain ⟨m2, m⟩ := List.forall_mem_cons.mp m
    obtain ⟨m3, m⟩ := List.forall_mem_cons.mp m
    obtain ⟨m4, m⟩ := List.forall_mem_cons.mp m
    obtain ⟨m5, m⟩ := List.forall_mem_cons.mp m
    obtain ⟨m6, m⟩ := List.forall_mem_cons.mp m
    obtain ⟨m7, m⟩ := List.forall_mem_cons.mp m
    obtain ⟨m8, m⟩ := List.forall_mem_cons.mp m
    obtain ⟨m9, m⟩ := List.forall_mem_cons.mp m
    obtain ⟨m10, m⟩ := List.forall_mem_cons.mp m
    obtain ⟨m11, m⟩ := List.forall_mem_cons.mp m
    obtain ⟨e0, e1, e2, e3, e4, e5⟩ := en_e
    exact List.forall_mem_cons.mpr ⟨R3 0 (by omega) m0 rfl, List.forall_mem_cons.mpr ⟨R3 1 (by omega) m1 rfl, List.forall_mem_cons.mpr ⟨R3 2 (by omega) m2 rfl, List.forall_mem_cons.mpr ⟨R3 3 (by omega) m3 rfl, List.forall_mem_cons.mpr ⟨R3 4 (by omega) m4 rfl, List.forall_mem_cons.mpr ⟨R3 5 (by omega) m5 rfl, List.forall_mem_cons.mpr ⟨R5 0 (by omega) m6 e0, List.forall_mem_cons.mpr ⟨R5 4 (by omega) m7 e1, List.forall_mem_cons.mpr ⟨R5 5 (by omega) m8 e2, List.forall_mem_cons.mpr ⟨R5 1 (by omega) m9 e3, List.forall_mem_cons.mpr ⟨R5 2 (by omega) m10 e4, List.forall_mem_cons.mpr ⟨R5 3 (by omega) m11 e5, fun _ h => absurd h List.not_mem_nil⟩⟩⟩⟩⟩⟩⟩⟩⟩⟩⟩⟩
  · exact va_AO.of (hts _ en_a.2.2.2.1)
  · exact hts _ en_a.2.2.2.2
  · have e : ∀ i, i < 6 → iv_a (((fun k => if k = 0 then c0 else if k = 1 then c1 else if k = 2 then c2 else if k = 3 then c3 else if k = 4 then c4 else c5, fun k => if k = 0 then i0 else if k = 1 then i1 else if k = 2 then i2 else if k = 3 then i3 else if k = 4 then i4 else i5), fun k => if k = 6 then a6 else if k = 7 then a7 else if k = 8 then a8 else if k = 9 then a9 else a10, s.heap, fun k => if k = 0 then b else if k = 1 then to else adK (k - 2), L, xs) : iv_G) (i + 2) = adK i := by
      intro i hi
      rw [iv_a_old (by omega)]
      show (if i + 2 = 0 then b else if i + 2 = 1 then to else adK (i + 2 - 2)) = adK i
      rw [if_neg (by omega), if_neg (by omega), Nat.add_sub_cancel]
    refine ⟨fun i hi => ?_, fun i j hi hj q => ?_⟩
    · have := S.1 i hi
      rw [← e i hi] at this
      exact this
    · have q' : adK i = adK j := by rw [← e i hi, ← e j hj]; exact q
      exact S.2 i j hi hj q'
