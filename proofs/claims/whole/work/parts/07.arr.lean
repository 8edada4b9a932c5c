/-! arrays -/
theorem iv_upd {f : Nat → Int32} {k : Nat} {x : Int32} : upd f k x = fun j => if j = k then x else f j := rfl
theorem iv_in_vp {x : Int32} {n : Nat} (h : iv_in x n) : vp_in x n := vp_in_iff.mpr h
section IVR
variable {p : Program} {l : Launch} {e : Env} {R : Room} {s : State} {m : MethodId} {args : Array Value} {below : List Frame} {meth : Method} {c : Code} {Q : State → Prop} {g : iv_G} {nL c0 cF : Nat} {cc : ByteArray} {pc : Nat} {i : iv_I} {ls : iv_L} {st : List Value} {h : iv_H} {a : iv_A} {Ts : List Cond}
theorem iv_c50 (hx : p.tables.exec = Jvm.exec) (hb : c.code = cc) (hd : decode cc pc = .ok (.iaload, 1)) (hV : iv_V g s) (hs : iv_o50 i ls st h = some a) (kn : ∀ ls2 st2 h2, a = .inl (ls2, st2, h2) → iv_W p l e R s m args below meth c Q g nL c0 cF (pc + 1) ls2 st2 h2) : iv_W p l e R s m args below meth c Q g nL c0 cF pc ls st h := by
  unfold iv_o50 at hs
  split at hs
  · rename_i x q st2
    split at hs
    · rename_i hcnd
      obtain ⟨⟨c1, c2⟩, c3⟩ := hcnd
      obtain rfl := Option.some.inj hs
      intro h0 h1 lsC H locs hL hI hl
      rcases c2 with c2 | c2
      · obtain ⟨k1, k2⟩ := iv_k_lo (p := q) (by omega)
        have hq0 : iv_ln h q = iv_n q := if_neg (by omega)
        rw [hq0] at c3
        have he : (iv_w g h)[q - 8]? = some (iv_a g q, .inl (g.2.1 6, iv_n q, .inl (h.2.1 q))) := by rw [iv_w_get k1 c1, iv_e_int c2 (Or.inl rfl)]
        exact va_iald hx hb hV.1 hI.2.2.1 (q - 8) 0 he rfl (iv_in_vp c3) hd (kn _ _ _ rfl h0 h1 lsC H locs hL hI hl)
      · have hq : q = 0 ∨ q = 1 := by
          have key : ∀ q, q < 72 → iv_k q = 11 → q = 0 ∨ q = 1 := by decide +kernel
          exact key q (Nat.lt_of_lt_of_le c1 hI.1.2.1) c2
        rcases hq with rfl | rfl
        · have hq0 : iv_ln h 0 = g.2.2.2.2.1 := by simp [iv_ln, hI.2.2.2.1]
          rw [hq0] at c3
          obtain ⟨-, -, -, -, ⟨hX, -⟩, -, hlt, -⟩ := hV
          have hj : x.toNatClampNeg < g.2.2.2.2.1 := by
            have := c3.2
            have := c3.1
            show x.toInt.toNat < _
            omega
          have K := kn _ _ _ rfl h0 h1 lsC H locs hL hI hl
          rw [hI.2.2.2.2.1 _ hj] at K
          exact va_sld hx hb hX hlt (fun z => by unfold iv_new at z; omega) (hI.S hl) (iv_in_vp c3) hd K
        · have hq0 : iv_ln h 1 = 6 := by simp [iv_ln]; decide
          rw [hq0] at c3
          obtain ⟨-, -, -, -, ⟨-, -, hT⟩, -⟩ := hV
          obtain ⟨cell, t1, t2, t3, t4, t5, t6, t7⟩ := hT
          have hj : x.toNatClampNeg < 6 := by
            have := c3.2
            have := c3.1
            show x.toInt.toNat < _
            omega
          have K := kn _ _ _ rfl h0 h1 lsC H locs hL hI hl
          rw [hI.2.2.2.2.2 _ hj] at K
          refine W.iald (v := .int (iv_ov.getD x.toNatClampNeg 0)) hx hb (by rw [hI.2.1 _ ((Array.getElem?_eq_some_iff.mp t1).1)]; exact t1) t2 t3 (fun z => ?_) (t6 _ hj) rfl rfl hd K
          rcases z with z | z
          · have := c3.1
            rw [Int32.lt_iff_toInt_lt] at z
            simp at z
            omega
          · omega
    · cases hs
  · cases hs
theorem iv_c51 (hx : p.tables.exec = Jvm.exec) (hb : c.code = cc) (hd : decode cc pc = .ok (.laload, 1)) (hV : iv_V g s) (hs : iv_o51 i ls st h = some a) (kn : ∀ ls2 st2 h2, a = .inl (ls2, st2, h2) → iv_W p l e R s m args below meth c Q g nL c0 cF (pc + 1) ls2 st2 h2) : iv_W p l e R s m args below meth c Q g nL c0 cF pc ls st h := by
  unfold iv_o51 at hs
  split at hs
  · rename_i x q st2
    split at hs
    · rename_i hcnd
      obtain ⟨⟨c1, c2⟩, c3⟩ := hcnd
      obtain rfl := Option.some.inj hs
      intro h0 h1 lsC H locs hL hI hl
      obtain ⟨k1, k2⟩ := iv_k_lo (p := q) (by omega)
      have he : (iv_w g h)[q - 8]? = some (iv_a g q, .inl (g.2.1 7, iv_n q, .inr (.inl (h.2.2.1 q)))) := by rw [iv_w_get k1 c1, iv_e_lng c2]
      exact va_lald hx hb hV.1 hI.2.2.1 (q - 8) 1 he rfl (iv_in_vp c3) hd (kn _ _ _ rfl h0 h1 lsC H locs hL hI hl)
    · cases hs
  · cases hs
theorem iv_c52 (hx : p.tables.exec = Jvm.exec) (hb : c.code = cc) (hd : decode cc pc = .ok (.baload, 1)) (hV : iv_V g s) (hs : iv_o52 i ls st h = some a) (kn : ∀ ls2 st2 h2, a = .inl (ls2, st2, h2) → iv_W p l e R s m args below meth c Q g nL c0 cF (pc + 1) ls2 st2 h2) : iv_W p l e R s m args below meth c Q g nL c0 cF pc ls st h := by
  unfold iv_o52 at hs
  split at hs
  · rename_i x q st2
    split at hs
    · rename_i hcnd
      obtain ⟨⟨c1, c2⟩, c3⟩ := hcnd
      obtain rfl := Option.some.inj hs
      intro h0 h1 lsC H locs hL hI hl
      obtain ⟨k1, k2⟩ := iv_k_lo (p := q) (by omega)
      have he : (iv_w g h)[q - 8]? = some (iv_a g q, .inl (g.2.1 8, iv_n q, .inl (h.2.1 q))) := by rw [iv_w_get k1 c1, iv_e_int c2 (Or.inr rfl)]
      exact va_zald hx hb hV.1 hI.2.2.1 (q - 8) 2 he rfl (iv_in_vp c3) hd (kn _ _ _ rfl h0 h1 lsC H locs hL hI hl)
    · cases hs
  · cases hs
theorem iv_c53 (hx : p.tables.exec = Jvm.exec) (hb : c.code = cc) (hd : decode cc pc = .ok (.aaload, 1)) (hV : iv_V g s) (hs : iv_o53 i ls st h = some a) (kn : ∀ ls2 st2 h2, a = .inl (ls2, st2, h2) → iv_W p l e R s m args below meth c Q g nL c0 cF (pc + 1) ls2 st2 h2) : iv_W p l e R s m args below meth c Q g nL c0 cF pc ls st h := by
  unfold iv_o53 at hs
  split at hs
  · rename_i x q st2
    split at hs
    · rename_i hcnd
      obtain ⟨⟨c1, c2⟩, c3⟩ := hcnd
      obtain rfl := Option.some.inj hs
      intro h0 h1 lsC H locs hL hI hl
      obtain ⟨k1, k2⟩ := iv_k_lo (p := q) (by omega)
      have K := kn _ _ _ rfl h0 h1 lsC H locs hL hI hl
      simp only [List.map_cons] at K
      rw [iv_rv_v] at K
      have hin := iv_in_vp c3
      have hlt : x.toNatClampNeg < iv_n q := Nat.not_le.mp fun z => hin (Or.inr z)
      rcases c2 with c2 | c2
      · have he : (iv_w g h)[q - 8]? = some (iv_a g q, .inl (g.2.1 9, iv_n q, .inr (.inr (.inr (.inr (iv_ar g h q)))))) := by rw [iv_w_get k1 c1, iv_e_ref c2 (Or.inl rfl)]
        exact W.aald (v := va_rf (iv_ar g h q x.toNatClampNeg)) (ty := .object RX2) hx hb (hI.2.2.1 (q - 8) _ he) ((hV.1.2 3 _ rfl).1 (iv_n q) (fun j => va_rf (iv_ar g h q j))) rfl (fun z => by cases z) (by show ¬ (x < 0 ∨ (arrV _ _ _).slots.size ≤ _); rw [arrV_size]; exact hin) (by show (arrV _ _ _).slots[_]? = _; rw [arrV_read _ _ hlt]) rfl rfl hd K
      · have he : (iv_w g h)[q - 8]? = some (iv_a g q, .inl (g.2.1 10, iv_n q, .inr (.inr (.inr (.inr (iv_ar g h q)))))) := by rw [iv_w_get k1 c1, iv_e_ref c2 (Or.inr rfl)]
        exact W.aald (v := va_rf (iv_ar g h q x.toNatClampNeg)) (ty := .array .int) hx hb (hI.2.2.1 (q - 8) _ he) ((hV.1.2 4 _ rfl).1 (iv_n q) (fun j => va_rf (iv_ar g h q j))) rfl (fun z => by cases z) (by show ¬ (x < 0 ∨ (arrV _ _ _).slots.size ≤ _); rw [arrV_size]; exact hin) (by show (arrV _ _ _).slots[_]? = _; rw [arrV_read _ _ hlt]) rfl rfl hd K
    · cases hs
  · cases hs
theorem iv_c54 (hx : p.tables.exec = Jvm.exec) (hb : c.code = cc) (hd : decode cc pc = .ok (.iastore, 1)) (hV : iv_V g s) (hs : iv_o54 i ls st h = some a) (kn : ∀ ls2 st2 h2, a = .inl (ls2, st2, h2) → iv_W p l e R s m args below meth c Q g nL c0 cF (pc + 1) ls2 st2 h2) : iv_W p l e R s m args below meth c Q g nL c0 cF pc ls st h := by
  unfold iv_o54 at hs
  split at hs
  · rename_i v x q st2
    split at hs
    · rename_i hcnd
      obtain ⟨⟨c1, c2⟩, c3⟩ := hcnd
      obtain rfl := Option.some.inj hs
      intro h0 h1 lsC H locs hL hI hl
      obtain ⟨k1, k2⟩ := iv_k_lo (p := q) (by omega)
      have he : (iv_w g h)[q - 8]? = some (iv_a g q, .inl (g.2.1 6, iv_n q, .inl (h.2.1 q))) := by rw [iv_w_get k1 c1, iv_e_int c2 (Or.inl rfl)]
      refine va_iast hx hb hV.1 hI.2.2.1 (iv_w_D g h) (H0 := H) ⟨Nat.le_refl _, fun _ _ _ => rfl, hl⟩ (q - 8) 0 he rfl (iv_in_vp c3) hd (fun H1 locs1 hP1 _ hS1 => ?_)
      have e1 : upd (h.2.1 q) x.toNatClampNeg v = (iv_uI h q x.toNatClampNeg v).2.1 q := by
        exact iv_up_eq.symm
      rw [e1, ← iv_e_int (g := g) (h := iv_uI h q x.toNatClampNeg v) c2 (Or.inl rfl), iv_w_set (h' := iv_uI h q x.toNatClampNeg v) k1 c1 rfl (fun z hz => iv_uI_o hz)] at hP1
      exact kn _ _ _ rfl h0 h1 lsC H1 locs1 hL (hI.step rfl hP1 hS1 rfl (iv_up_ne (by omega)) (iv_up_ne (by omega))) hS1.2.2
    · cases hs
  · cases hs
theorem iv_c55 (hx : p.tables.exec = Jvm.exec) (hb : c.code = cc) (hd : decode cc pc = .ok (.lastore, 1)) (hV : iv_V g s) (hs : iv_o55 i ls st h = some a) (kn : ∀ ls2 st2 h2, a = .inl (ls2, st2, h2) → iv_W p l e R s m args below meth c Q g nL c0 cF (pc + 1) ls2 st2 h2) : iv_W p l e R s m args below meth c Q g nL c0 cF pc ls st h := by
  unfold iv_o55 at hs
  split at hs
  · rename_i v x q st2
    split at hs
    · rename_i hcnd
      obtain ⟨⟨c1, c2⟩, c3⟩ := hcnd
      obtain rfl := Option.some.inj hs
      intro h0 h1 lsC H locs hL hI hl
      obtain ⟨k1, k2⟩ := iv_k_lo (p := q) (by omega)
      have he : (iv_w g h)[q - 8]? = some (iv_a g q, .inl (g.2.1 7, iv_n q, .inr (.inl (h.2.2.1 q)))) := by rw [iv_w_get k1 c1, iv_e_lng c2]
      refine va_last hx hb hV.1 hI.2.2.1 (iv_w_D g h) (H0 := H) ⟨Nat.le_refl _, fun _ _ _ => rfl, hl⟩ (q - 8) 1 he rfl (iv_in_vp c3) hd (fun H1 locs1 hP1 _ hS1 => ?_)
      have e1 : vp_updL (h.2.2.1 q) x.toNatClampNeg v = (iv_uJ h q x.toNatClampNeg v).2.2.1 q := by
        exact iv_up_eq.symm
      rw [e1, ← iv_e_lng (g := g) (h := iv_uJ h q x.toNatClampNeg v) c2, iv_w_set (h' := iv_uJ h q x.toNatClampNeg v) k1 c1 rfl (fun z hz => iv_uJ_o hz)] at hP1
      exact kn _ _ _ rfl h0 h1 lsC H1 locs1 hL (hI.step rfl hP1 hS1 rfl rfl rfl) hS1.2.2
    · cases hs
  · cases hs
theorem iv_c56 (hx : p.tables.exec = Jvm.exec) (hb : c.code = cc) (hd : decode cc pc = .ok (.bastore, 1)) (hV : iv_V g s) (hs : iv_o56 i ls st h = some a) (kn : ∀ ls2 st2 h2, a = .inl (ls2, st2, h2) → iv_W p l e R s m args below meth c Q g nL c0 cF (pc + 1) ls2 st2 h2) : iv_W p l e R s m args below meth c Q g nL c0 cF pc ls st h := by
  unfold iv_o56 at hs
  split at hs
  · rename_i v x q st2
    split at hs
    · rename_i hcnd
      obtain ⟨⟨⟨c1, c2⟩, c3⟩, c4⟩ := hcnd
      obtain rfl := Option.some.inj hs
      intro h0 h1 lsC H locs hL hI hl
      obtain ⟨k1, k2⟩ := iv_k_lo (p := q) (by omega)
      have he : (iv_w g h)[q - 8]? = some (iv_a g q, .inl (g.2.1 8, iv_n q, .inl (h.2.1 q))) := by rw [iv_w_get k1 c1, iv_e_int c2 (Or.inr rfl)]
      refine va_zast hx hb hV.1 hI.2.2.1 (iv_w_D g h) (H0 := H) ⟨Nat.le_refl _, fun _ _ _ => rfl, hl⟩ (q - 8) 2 he rfl (iv_in_vp c3) hd (fun H1 locs1 hP1 _ hS1 => ?_)
      have e1 : upd (h.2.1 q) x.toNatClampNeg (vp_nar .boolean v) = (iv_uI h q x.toNatClampNeg v).2.1 q := by
        rw [show vp_nar .boolean v = v by rcases c4 with z | z <;> (subst z; decide +kernel)]; exact iv_up_eq.symm
      rw [e1, ← iv_e_int (g := g) (h := iv_uI h q x.toNatClampNeg v) c2 (Or.inr rfl), iv_w_set (h' := iv_uI h q x.toNatClampNeg v) k1 c1 rfl (fun z hz => iv_uI_o hz)] at hP1
      exact kn _ _ _ rfl h0 h1 lsC H1 locs1 hL (hI.step rfl hP1 hS1 rfl (iv_up_ne (by omega)) (iv_up_ne (by omega))) hS1.2.2
    · cases hs
  · cases hs
theorem iv_c57 (hx : p.tables.exec = Jvm.exec) (hb : c.code = cc) (hd : decode cc pc = .ok (.aastore, 1)) (hV : iv_V g s) (hs : iv_o57 i ls st h = some a) (kn : ∀ ls2 st2 h2, a = .inl (ls2, st2, h2) → iv_W p l e R s m args below meth c Q g nL c0 cF (pc + 1) ls2 st2 h2) : iv_W p l e R s m args below meth c Q g nL c0 cF pc ls st h := by
  unfold iv_o57 at hs
  split at hs
  · rename_i v x q st2
    split at hs
    · rename_i hcnd
      obtain ⟨⟨⟨c1, c2⟩, c3⟩, c4, c5⟩ := hcnd
      obtain rfl := Option.some.inj hs
      intro h0 h1 lsC H locs hL hI hl
      obtain ⟨k1, k2⟩ := iv_k_lo (p := q) (by omega)
      obtain ⟨k3, k4⟩ := iv_k_lo (p := v) (by omega)
      have he : (iv_w g h)[q - 8]? = some (iv_a g q, .inl (g.2.1 9, iv_n q, .inr (.inr (.inr (.inr (iv_ar g h q)))))) := by rw [iv_w_get k1 c1, iv_e_ref c2 (Or.inl rfl)]
      have hv : (iv_w g h)[v - 8]? = some (iv_a g v, .inr (2, (List.range (iv_n v)).map (iv_fd g h v 2))) := by rw [iv_w_get k3 c4, iv_e_obj c5 (by omega)]
      refine va_astq hx hb hV.1 hI.2.2.1 (iv_w_D g h) (H0 := H) ⟨Nat.le_refl _, fun _ _ _ => rfl, hl⟩ (q - 8) 3 (v - 8) 2 (r := (RX2, TX2, 3)) he rfl hv rfl (iv_in_vp c3) hd (fun H1 locs1 hP1 _ hS1 => ?_)
      have e1 : va_up (iv_ar g h q) x.toNatClampNeg (some (iv_a g v)) = iv_ar g (iv_uR h q x.toNatClampNeg (some v)) q := by
        funext j
        by_cases hj : j = x.toNatClampNeg
        · subst hj; simp [va_up, iv_ar, iv_uR, iv_up]
        · simp [va_up, iv_ar, iv_uR, iv_up, hj]
      rw [e1, ← iv_e_ref (g := g) (h := iv_uR h q x.toNatClampNeg (some v)) c2 (Or.inl rfl), iv_w_set (h' := iv_uR h q x.toNatClampNeg (some v)) k1 c1 rfl (fun z hz => iv_uR_o hz)] at hP1
      exact kn _ _ _ rfl h0 h1 lsC H1 locs1 hL (hI.step rfl hP1 hS1 (iv_up_ne (by omega)) rfl rfl) hS1.2.2
    · cases hs
  · cases hs
theorem iv_c58 (hx : p.tables.exec = Jvm.exec) (hb : c.code = cc) (hd : decode cc pc = .ok (.arraylength, 1)) (hV : iv_V g s) (hs : iv_o58 i ls st h = some a) (kn : ∀ ls2 st2 h2, a = .inl (ls2, st2, h2) → iv_W p l e R s m args below meth c Q g nL c0 cF (pc + 1) ls2 st2 h2) : iv_W p l e R s m args below meth c Q g nL c0 cF pc ls st h := by
  unfold iv_o58 at hs
  split at hs
  · rename_i q st2
    split at hs
    · rename_i hcnd
      obtain ⟨c1, c2, c3⟩ := hcnd
      obtain rfl := Option.some.inj hs
      intro h0 h1 lsC H locs hL hI hl
      have K := kn _ _ _ rfl h0 h1 lsC H locs hL hI hl
      by_cases h11 : iv_k q = 11
      · have hq : q = 0 ∨ q = 1 := by
          have key : ∀ q, q < 72 → iv_k q = 11 → q = 0 ∨ q = 1 := by decide +kernel
          exact key q (Nat.lt_of_lt_of_le c1 hI.1.2.1) h11
        rcases hq with rfl | rfl
        · have hq0 : iv_ln h 0 = g.2.2.2.2.1 := by simp [iv_ln, hI.2.2.2.1]
          rw [hq0] at K
          obtain ⟨-, -, -, -, ⟨hX, -⟩, -, hlt, -⟩ := hV
          exact va_slen hx hb hX hlt (fun z => by unfold iv_new at z; omega) (hI.S hl) hd K
        · have hq0 : iv_ln h 1 = 6 := by simp [iv_ln]; decide
          rw [hq0] at K
          obtain ⟨-, -, -, -, ⟨-, -, hT⟩, -⟩ := hV
          obtain ⟨cell, t1, t2, t3, t4, t5, t6, t7⟩ := hT
          exact W.alen (n := Int32.ofNat 6) hx hb (by rw [hI.2.1 _ ((Array.getElem?_eq_some_iff.mp t1).1)]; exact t1) t2 t5 rfl rfl hd K
      · obtain ⟨k1, k2⟩ := iv_k_lo (p := q) (by omega)
        have hq0 : iv_ln h q = iv_n q := if_neg (by omega)
        rw [hq0] at K
        have hg := iv_w_get (g := g) k1 c1
        by_cases e6 : iv_k q = 6
        · rw [iv_e_int e6 (Or.inl rfl)] at hg
          exact va_alen hx hb hV.1 hI.2.2.1 (q - 8) 0 hg rfl rfl hd K
        by_cases e8 : iv_k q = 8
        · rw [iv_e_int e8 (Or.inr rfl)] at hg
          exact va_alen hx hb hV.1 hI.2.2.1 (q - 8) 2 hg rfl rfl hd K
        by_cases e7 : iv_k q = 7
        · rw [iv_e_lng e7] at hg
          exact va_alen hx hb hV.1 hI.2.2.1 (q - 8) 1 hg rfl rfl hd K
        by_cases e9 : iv_k q = 9
        · rw [iv_e_ref e9 (Or.inl rfl)] at hg
          exact va_alen hx hb hV.1 hI.2.2.1 (q - 8) 3 hg rfl rfl hd K
        · rw [iv_e_ref (k := 10) (by omega) (Or.inr rfl)] at hg
          exact va_alen hx hb hV.1 hI.2.2.1 (q - 8) 4 hg rfl rfl hd K
    · cases hs
  · cases hs
end IVR
