/-! conditions -/
theorem iv_cd_eq {x y : Int32} (h : iv_cd 0 x y = true) : x = y := of_decide_eq_true h
theorem iv_cf_eq {x y : Int32} (h : ¬ iv_cd 0 x y = true) : ¬ x = y := fun z => h (decide_eq_true z)
theorem iv_cd_ne {x y : Int32} (h : iv_cd 1 x y = true) : ¬ x = y := by simpa [iv_cd] using h
theorem iv_cf_ne {x y : Int32} (h : ¬ iv_cd 1 x y = true) : x = y := by simpa [iv_cd] using h
theorem iv_cd_lt {x y : Int32} (h : iv_cd 2 x y = true) : x < y := of_decide_eq_true h
theorem iv_cf_lt {x y : Int32} (h : ¬ iv_cd 2 x y = true) : ¬ x < y := fun z => h (decide_eq_true z)
theorem iv_cd_ge {x y : Int32} (h : iv_cd 3 x y = true) : y ≤ x := of_decide_eq_true h
theorem iv_cf_ge {x y : Int32} (h : ¬ iv_cd 3 x y = true) : ¬ y ≤ x := fun z => h (decide_eq_true z)
theorem iv_cd_gt {x y : Int32} (h : iv_cd 4 x y = true) : y < x := of_decide_eq_true h
theorem iv_cf_gt {x y : Int32} (h : ¬ iv_cd 4 x y = true) : ¬ y < x := fun z => h (decide_eq_true z)
theorem iv_cd_le {x y : Int32} (h : iv_cd 5 x y = true) : x ≤ y := of_decide_eq_true h
theorem iv_cf_le {x y : Int32} (h : ¬ iv_cd 5 x y = true) : ¬ x ≤ y := fun z => h (decide_eq_true z)
/-! soundness of the simple instructions: iv_W at pc from iv_W behind it -/
def iv_S (n : Nat) : Nat := (iv_nl.take n).sum
def iv_W (p : Program) (l : Launch) (e : Env) (R : Room) (s : State) (m : MethodId) (args : Array Value) (below : List Frame) (meth : Method) (c : Code) (Q : State → Prop) (g : iv_G) (nL c0 cF : Nat) (pc : Nat) (ls : iv_L) (st : List Value) (h : iv_H) : Prop :=
  c0 ≤ h.1 → h.1 ≤ cF → ∀ (lsC : Array Slot) (H : Heap) (locs : List Loc), iv_LR g nL ls lsC → iv_Inv g h H → (∀ q ∈ locs, iv_new g q.base) → W p l e R s m args below meth c H locs (h.1 - c0) (iv_S h.1 - iv_S c0) Q (F0 m pc lsC (st.map (iv_v g)))
section IVO
variable {p : Program} {l : Launch} {e : Env} {R : Room} {s : State} {m : MethodId} {args : Array Value} {below : List Frame} {meth : Method} {c : Code} {Q : State → Prop} {g : iv_G} {nL c0 cF : Nat} {cc : ByteArray} {pc : Nat} {i : iv_I} {ls : iv_L} {st : List Value} {h : iv_H} {a : iv_A}
theorem iv_c0 (hx : p.tables.exec = Jvm.exec) (hb : c.code = cc)  (hd : decode cc pc = .ok (.iconst i.2.2.2.1, 1)) (hs : iv_o0 i ls st h = some a) (kn : ∀ ls2 st2 h2, a = .inl (ls2, st2, h2) → iv_W p l e R s m args below meth c Q g nL c0 cF (pc + 1) ls2 st2 h2)  : iv_W p l e R s m args below meth c Q g nL c0 cF pc ls st h := by
  obtain rfl := Option.some.inj hs
  intro h0 h1 lsC H locs hL hI hl
  exact lv_iconst hx hb hd rfl (kn _ _ _ rfl h0 h1 lsC H locs hL hI hl)
theorem iv_c1 (hx : p.tables.exec = Jvm.exec) (hb : c.code = cc)  (hd : decode cc pc = .ok (.bipush i.2.2.2.1, 2)) (hs : iv_o1 i ls st h = some a) (kn : ∀ ls2 st2 h2, a = .inl (ls2, st2, h2) → iv_W p l e R s m args below meth c Q g nL c0 cF (pc + 2) ls2 st2 h2)  : iv_W p l e R s m args below meth c Q g nL c0 cF pc ls st h := by
  obtain rfl := Option.some.inj hs
  intro h0 h1 lsC H locs hL hI hl
  exact lv_bipush hx hb hd rfl (kn _ _ _ rfl h0 h1 lsC H locs hL hI hl)
theorem iv_c2 (hx : p.tables.exec = Jvm.exec) (hb : c.code = cc)  (hd : decode cc pc = .ok (.sipush i.2.2.2.1, 3)) (hs : iv_o2 i ls st h = some a) (kn : ∀ ls2 st2 h2, a = .inl (ls2, st2, h2) → iv_W p l e R s m args below meth c Q g nL c0 cF (pc + 3) ls2 st2 h2)  : iv_W p l e R s m args below meth c Q g nL c0 cF pc ls st h := by
  obtain rfl := Option.some.inj hs
  intro h0 h1 lsC H locs hL hI hl
  exact lv_sipush hx hb hd rfl (kn _ _ _ rfl h0 h1 lsC H locs hL hI hl)
theorem iv_c3 (hx : p.tables.exec = Jvm.exec) (hb : c.code = cc) {own : String} (hown : s.vm.findClass own = some m.cls) (hc : (Cond.constant own i.2.1 (Int32.ofInt i.2.2.2.1)).before args s = true) (hd : decode cc pc = .ok (.ldc i.2.1, 2)) (hs : iv_o0 i ls st h = some a) (kn : ∀ ls2 st2 h2, a = .inl (ls2, st2, h2) → iv_W p l e R s m args below meth c Q g nL c0 cF (pc + 2) ls2 st2 h2)  : iv_W p l e R s m args below meth c Q g nL c0 cF pc ls st h := by
  obtain rfl := Option.some.inj hs
  intro h0 h1 lsC H locs hL hI hl
  exact lv_ldc hx hb hown hc hd (kn _ _ _ rfl h0 h1 lsC H locs hL hI hl)
theorem iv_c4 (hx : p.tables.exec = Jvm.exec) (hb : c.code = cc) {own : String} (hown : s.vm.findClass own = some m.cls) (hc : (Cond.constant own i.2.1 (Int32.ofInt i.2.2.2.1)).before args s = true) (hd : decode cc pc = .ok (.ldc_w i.2.1, 3)) (hs : iv_o0 i ls st h = some a) (kn : ∀ ls2 st2 h2, a = .inl (ls2, st2, h2) → iv_W p l e R s m args below meth c Q g nL c0 cF (pc + 3) ls2 st2 h2)  : iv_W p l e R s m args below meth c Q g nL c0 cF pc ls st h := by
  obtain rfl := Option.some.inj hs
  intro h0 h1 lsC H locs hL hI hl
  exact lv_ldcw hx hb hown hc hd (kn _ _ _ rfl h0 h1 lsC H locs hL hI hl)
theorem iv_c5 (hx : p.tables.exec = Jvm.exec) (hb : c.code = cc) {k5 : Fin 2} (hk : Int64.ofNat (k5 : Nat) = Int64.ofInt i.2.2.2.1) (hd : decode cc pc = .ok (.lconst k5, 1)) (hs : iv_o5 i ls st h = some a) (kn : ∀ ls2 st2 h2, a = .inl (ls2, st2, h2) → iv_W p l e R s m args below meth c Q g nL c0 cF (pc + 1) ls2 st2 h2)  : iv_W p l e R s m args below meth c Q g nL c0 cF pc ls st h := by
  obtain rfl := Option.some.inj hs
  intro h0 h1 lsC H locs hL hI hl
  exact lv_lconst hx hb hd hk (kn _ _ _ rfl h0 h1 lsC H locs hL hI hl)
theorem iv_c6 (hx : p.tables.exec = Jvm.exec) (hb : c.code = cc) {own : String} (hown : s.vm.findClass own = some m.cls) (hc : (Cond.constantLong own i.2.1 (Int64.ofInt i.2.2.2.1)).before args s = true) (hd : decode cc pc = .ok (.ldc2_w i.2.1, 3)) (hs : iv_o5 i ls st h = some a) (kn : ∀ ls2 st2 h2, a = .inl (ls2, st2, h2) → iv_W p l e R s m args below meth c Q g nL c0 cF (pc + 3) ls2 st2 h2)  : iv_W p l e R s m args below meth c Q g nL c0 cF pc ls st h := by
  obtain rfl := Option.some.inj hs
  intro h0 h1 lsC H locs hL hI hl
  exact lv_ldc2 hx hb hown hc hd (kn _ _ _ rfl h0 h1 lsC H locs hL hI hl)
theorem iv_c7 (hx : p.tables.exec = Jvm.exec) (hb : c.code = cc) {own tx : String} (hown : s.vm.findClass own = some m.cls) (hc : vk_R own i.2.1 tx (iv_a g i.2.2.1) s) (hd : decode cc pc = .ok (.ldc i.2.1, 2)) (hs : iv_o7 i ls st h = some a) (kn : ∀ ls2 st2 h2, a = .inl (ls2, st2, h2) → iv_W p l e R s m args below meth c Q g nL c0 cF (pc + 2) ls2 st2 h2)  : iv_W p l e R s m args below meth c Q g nL c0 cF pc ls st h := by
  obtain rfl := Option.some.inj hs
  intro h0 h1 lsC H locs hL hI hl
  exact va_ldcS hx hb hown hc hd (kn _ _ _ rfl h0 h1 lsC H locs hL hI hl)
theorem iv_c8n (hx : p.tables.exec = Jvm.exec) (hb : c.code = cc) {k4 : Fin 4} (hk : (k4 : Nat) = i.2.1) (hd : decode cc pc = .ok (.iload_n k4, 1)) (hs : iv_o8 i ls st h = some a) (kn : ∀ ls2 st2 h2, a = .inl (ls2, st2, h2) → iv_W p l e R s m args below meth c Q g nL c0 cF (pc + 1) ls2 st2 h2)  : iv_W p l e R s m args below meth c Q g nL c0 cF pc ls st h := by
  unfold iv_o8 at hs
  split at hs
  · rename_i x hg
    obtain rfl := Option.some.inj hs
    intro h0 h1 lsC H locs hL hI hl
    exact lv_iload_n hx hb hd hk (hL.2.2 _ _ hg) (kn _ _ _ rfl h0 h1 lsC H locs hL hI hl)
  · cases hs
theorem iv_c8 (hx : p.tables.exec = Jvm.exec) (hb : c.code = cc)  (hd : decode cc pc = .ok (.iload i.2.1, 2)) (hs : iv_o8 i ls st h = some a) (kn : ∀ ls2 st2 h2, a = .inl (ls2, st2, h2) → iv_W p l e R s m args below meth c Q g nL c0 cF (pc + 2) ls2 st2 h2)  : iv_W p l e R s m args below meth c Q g nL c0 cF pc ls st h := by
  unfold iv_o8 at hs
  split at hs
  · rename_i x hg
    obtain rfl := Option.some.inj hs
    intro h0 h1 lsC H locs hL hI hl
    exact lv_iload hx hb hd (hL.2.2 _ _ hg) (kn _ _ _ rfl h0 h1 lsC H locs hL hI hl)
  · cases hs
theorem iv_c9n (hx : p.tables.exec = Jvm.exec) (hb : c.code = cc) {k4 : Fin 4} (hk : (k4 : Nat) = i.2.1) (hd : decode cc pc = .ok (.lload_n k4, 1)) (hs : iv_o9 i ls st h = some a) (kn : ∀ ls2 st2 h2, a = .inl (ls2, st2, h2) → iv_W p l e R s m args below meth c Q g nL c0 cF (pc + 1) ls2 st2 h2)  : iv_W p l e R s m args below meth c Q g nL c0 cF pc ls st h := by
  unfold iv_o9 at hs
  split at hs
  · rename_i x hg
    obtain rfl := Option.some.inj hs
    intro h0 h1 lsC H locs hL hI hl
    exact lv_lload_n hx hb hd hk (hL.2.2 _ _ hg) (kn _ _ _ rfl h0 h1 lsC H locs hL hI hl)
  · cases hs
theorem iv_c9 (hx : p.tables.exec = Jvm.exec) (hb : c.code = cc)  (hd : decode cc pc = .ok (.lload i.2.1, 2)) (hs : iv_o9 i ls st h = some a) (kn : ∀ ls2 st2 h2, a = .inl (ls2, st2, h2) → iv_W p l e R s m args below meth c Q g nL c0 cF (pc + 2) ls2 st2 h2)  : iv_W p l e R s m args below meth c Q g nL c0 cF pc ls st h := by
  unfold iv_o9 at hs
  split at hs
  · rename_i x hg
    obtain rfl := Option.some.inj hs
    intro h0 h1 lsC H locs hL hI hl
    exact lv_lload hx hb hd (hL.2.2 _ _ hg) (kn _ _ _ rfl h0 h1 lsC H locs hL hI hl)
  · cases hs
theorem iv_c10n (hx : p.tables.exec = Jvm.exec) (hb : c.code = cc) {k4 : Fin 4} (hk : (k4 : Nat) = i.2.1) (hd : decode cc pc = .ok (.aload_n k4, 1)) (hs : iv_o10 i ls st h = some a) (kn : ∀ ls2 st2 h2, a = .inl (ls2, st2, h2) → iv_W p l e R s m args below meth c Q g nL c0 cF (pc + 1) ls2 st2 h2)  : iv_W p l e R s m args below meth c Q g nL c0 cF pc ls st h := by
  unfold iv_o10 at hs
  split at hs
  · rename_i x hg
    obtain rfl := Option.some.inj hs
    intro h0 h1 lsC H locs hL hI hl
    exact lv_aload_n hx hb hd hk (hL.2.2 _ _ hg) (kn _ _ _ rfl h0 h1 lsC H locs hL hI hl)
  · cases hs
theorem iv_c10 (hx : p.tables.exec = Jvm.exec) (hb : c.code = cc)  (hd : decode cc pc = .ok (.aload i.2.1, 2)) (hs : iv_o10 i ls st h = some a) (kn : ∀ ls2 st2 h2, a = .inl (ls2, st2, h2) → iv_W p l e R s m args below meth c Q g nL c0 cF (pc + 2) ls2 st2 h2)  : iv_W p l e R s m args below meth c Q g nL c0 cF pc ls st h := by
  unfold iv_o10 at hs
  split at hs
  · rename_i x hg
    obtain rfl := Option.some.inj hs
    intro h0 h1 lsC H locs hL hI hl
    exact lv_aload hx hb hd (hL.2.2 _ _ hg) (kn _ _ _ rfl h0 h1 lsC H locs hL hI hl)
  · cases hs
theorem iv_c11n (hx : p.tables.exec = Jvm.exec) (hb : c.code = cc) {k4 : Fin 4} (hk : (k4 : Nat) = i.2.1) (hd : decode cc pc = .ok (.istore_n k4, 1)) (hs : iv_o11 i ls st h = some a) (kn : ∀ ls2 st2 h2, a = .inl (ls2, st2, h2) → iv_W p l e R s m args below meth c Q g nL c0 cF (pc + 1) ls2 st2 h2)  : iv_W p l e R s m args below meth c Q g nL c0 cF pc ls st h := by
  unfold iv_o11 at hs
  split at hs
  · rename_i x st2
    split at hs
    · rename_i hlt
      obtain rfl := Option.some.inj hs
      intro h0 h1 lsC H locs hL hI hl
      rw [hL.1.2] at hlt
      exact lv_istore_n hx hb hd hk hL.has hlt rfl (fun ls2 hh => kn _ _ _ rfl h0 h1 ls2 H locs (hL.st1 (v := .int x) hlt hh) hI hl)
    · cases hs
  · cases hs
theorem iv_c11 (hx : p.tables.exec = Jvm.exec) (hb : c.code = cc)  (hd : decode cc pc = .ok (.istore i.2.1, 2)) (hs : iv_o11 i ls st h = some a) (kn : ∀ ls2 st2 h2, a = .inl (ls2, st2, h2) → iv_W p l e R s m args below meth c Q g nL c0 cF (pc + 2) ls2 st2 h2)  : iv_W p l e R s m args below meth c Q g nL c0 cF pc ls st h := by
  unfold iv_o11 at hs
  split at hs
  · rename_i x st2
    split at hs
    · rename_i hlt
      obtain rfl := Option.some.inj hs
      intro h0 h1 lsC H locs hL hI hl
      rw [hL.1.2] at hlt
      exact lv_istore hx hb hd hL.has hlt rfl (fun ls2 hh => kn _ _ _ rfl h0 h1 ls2 H locs (hL.st1 (v := .int x) hlt hh) hI hl)
    · cases hs
  · cases hs
theorem iv_c12n (hx : p.tables.exec = Jvm.exec) (hb : c.code = cc) {k4 : Fin 4} (hk : (k4 : Nat) = i.2.1) (hd : decode cc pc = .ok (.lstore_n k4, 1)) (hs : iv_o12 i ls st h = some a) (kn : ∀ ls2 st2 h2, a = .inl (ls2, st2, h2) → iv_W p l e R s m args below meth c Q g nL c0 cF (pc + 1) ls2 st2 h2)  : iv_W p l e R s m args below meth c Q g nL c0 cF pc ls st h := by
  unfold iv_o12 at hs
  split at hs
  · rename_i x st2
    split at hs
    · rename_i hlt
      obtain rfl := Option.some.inj hs
      intro h0 h1 lsC H locs hL hI hl
      rw [hL.1.2] at hlt
      exact lv_lstore_n hx hb hd hk hL.has hlt rfl (fun ls2 hh => kn _ _ _ rfl h0 h1 ls2 H locs (hL.st2 (v := .long x) hlt hh) hI hl)
    · cases hs
  · cases hs
theorem iv_c12 (hx : p.tables.exec = Jvm.exec) (hb : c.code = cc)  (hd : decode cc pc = .ok (.lstore i.2.1, 2)) (hs : iv_o12 i ls st h = some a) (kn : ∀ ls2 st2 h2, a = .inl (ls2, st2, h2) → iv_W p l e R s m args below meth c Q g nL c0 cF (pc + 2) ls2 st2 h2)  : iv_W p l e R s m args below meth c Q g nL c0 cF pc ls st h := by
  unfold iv_o12 at hs
  split at hs
  · rename_i x st2
    split at hs
    · rename_i hlt
      obtain rfl := Option.some.inj hs
      intro h0 h1 lsC H locs hL hI hl
      rw [hL.1.2] at hlt
      exact lv_lstore hx hb hd hL.has hlt rfl (fun ls2 hh => kn _ _ _ rfl h0 h1 ls2 H locs (hL.st2 (v := .long x) hlt hh) hI hl)
    · cases hs
  · cases hs
theorem iv_c13n (hx : p.tables.exec = Jvm.exec) (hb : c.code = cc) {k4 : Fin 4} (hk : (k4 : Nat) = i.2.1) (hd : decode cc pc = .ok (.astore_n k4, 1)) (hs : iv_o13 i ls st h = some a) (kn : ∀ ls2 st2 h2, a = .inl (ls2, st2, h2) → iv_W p l e R s m args below meth c Q g nL c0 cF (pc + 1) ls2 st2 h2)  : iv_W p l e R s m args below meth c Q g nL c0 cF pc ls st h := by
  unfold iv_o13 at hs
  split at hs
  · rename_i x st2
    split at hs
    · rename_i hlt
      obtain rfl := Option.some.inj hs
      intro h0 h1 lsC H locs hL hI hl
      rw [hL.1.2] at hlt
      exact lv_astore_n hx hb hd hk hL.has hlt rfl (fun ls2 hh => kn _ _ _ rfl h0 h1 ls2 H locs (hL.st1 (v := .ref x) hlt hh) hI hl)
    · cases hs
  · cases hs
theorem iv_c13 (hx : p.tables.exec = Jvm.exec) (hb : c.code = cc)  (hd : decode cc pc = .ok (.astore i.2.1, 2)) (hs : iv_o13 i ls st h = some a) (kn : ∀ ls2 st2 h2, a = .inl (ls2, st2, h2) → iv_W p l e R s m args below meth c Q g nL c0 cF (pc + 2) ls2 st2 h2)  : iv_W p l e R s m args below meth c Q g nL c0 cF pc ls st h := by
  unfold iv_o13 at hs
  split at hs
  · rename_i x st2
    split at hs
    · rename_i hlt
      obtain rfl := Option.some.inj hs
      intro h0 h1 lsC H locs hL hI hl
      rw [hL.1.2] at hlt
      exact lv_astore hx hb hd hL.has hlt rfl (fun ls2 hh => kn _ _ _ rfl h0 h1 ls2 H locs (hL.st1 (v := .ref x) hlt hh) hI hl)
    · cases hs
  · cases hs
theorem iv_c14 (hx : p.tables.exec = Jvm.exec) (hb : c.code = cc)  (hd : decode cc pc = .ok (.iinc i.2.1 i.2.2.2.1, 3)) (hs : iv_o14 i ls st h = some a) (kn : ∀ ls2 st2 h2, a = .inl (ls2, st2, h2) → iv_W p l e R s m args below meth c Q g nL c0 cF (pc + 3) ls2 st2 h2)  : iv_W p l e R s m args below meth c Q g nL c0 cF pc ls st h := by
  unfold iv_o14 at hs
  split at hs
  · rename_i x hg
    obtain rfl := Option.some.inj hs
    intro h0 h1 lsC H locs hL hI hl
    have hlt : i.2.1 < nL := by rw [← hL.1.2]; exact (List.getElem?_eq_some_iff.mp hg).1
    obtain ⟨k9, hk9⟩ := List.getElem?_of_mem (iv_ps_mem (g := g) hg)
    exact lv_iinc hx hb hd hL.has hk9 rfl hlt rfl (fun ls2 hh => kn _ _ _ rfl h0 h1 ls2 H locs (hL.st1 (v := .int (x + Int32.ofInt i.2.2.2.1)) hlt hh) hI hl)
  · cases hs
theorem iv_c15 (hx : p.tables.exec = Jvm.exec) (hb : c.code = cc)  (hd : decode cc pc = .ok (.iadd, 1)) (hs : (iv_bin (fun x y => x + y)) i ls st h = some a) (kn : ∀ ls2 st2 h2, a = .inl (ls2, st2, h2) → iv_W p l e R s m args below meth c Q g nL c0 cF (pc + 1) ls2 st2 h2)  : iv_W p l e R s m args below meth c Q g nL c0 cF pc ls st h := by
  unfold iv_bin at hs
  split at hs
  · obtain rfl := Option.some.inj hs
    intro h0 h1 lsC H locs hL hI hl
    exact lv_iadd hx hb hd (kn _ _ _ rfl h0 h1 lsC H locs hL hI hl)
  · cases hs
theorem iv_c16 (hx : p.tables.exec = Jvm.exec) (hb : c.code = cc)  (hd : decode cc pc = .ok (.isub, 1)) (hs : (iv_bin (fun x y => x - y)) i ls st h = some a) (kn : ∀ ls2 st2 h2, a = .inl (ls2, st2, h2) → iv_W p l e R s m args below meth c Q g nL c0 cF (pc + 1) ls2 st2 h2)  : iv_W p l e R s m args below meth c Q g nL c0 cF pc ls st h := by
  unfold iv_bin at hs
  split at hs
  · obtain rfl := Option.some.inj hs
    intro h0 h1 lsC H locs hL hI hl
    exact lv_isub hx hb hd (kn _ _ _ rfl h0 h1 lsC H locs hL hI hl)
  · cases hs
theorem iv_c17 (hx : p.tables.exec = Jvm.exec) (hb : c.code = cc)  (hd : decode cc pc = .ok (.imul, 1)) (hs : (iv_bin (fun x y => x * y)) i ls st h = some a) (kn : ∀ ls2 st2 h2, a = .inl (ls2, st2, h2) → iv_W p l e R s m args below meth c Q g nL c0 cF (pc + 1) ls2 st2 h2)  : iv_W p l e R s m args below meth c Q g nL c0 cF pc ls st h := by
  unfold iv_bin at hs
  split at hs
  · obtain rfl := Option.some.inj hs
    intro h0 h1 lsC H locs hL hI hl
    exact lv_imul hx hb hd (kn _ _ _ rfl h0 h1 lsC H locs hL hI hl)
  · cases hs
theorem iv_c21 (hx : p.tables.exec = Jvm.exec) (hb : c.code = cc)  (hd : decode cc pc = .ok (.iand, 1)) (hs : (iv_bin (fun x y => x &&& y)) i ls st h = some a) (kn : ∀ ls2 st2 h2, a = .inl (ls2, st2, h2) → iv_W p l e R s m args below meth c Q g nL c0 cF (pc + 1) ls2 st2 h2)  : iv_W p l e R s m args below meth c Q g nL c0 cF pc ls st h := by
  unfold iv_bin at hs
  split at hs
  · obtain rfl := Option.some.inj hs
    intro h0 h1 lsC H locs hL hI hl
    exact lv_iand hx hb hd (kn _ _ _ rfl h0 h1 lsC H locs hL hI hl)
  · cases hs
theorem iv_c22 (hx : p.tables.exec = Jvm.exec) (hb : c.code = cc)  (hd : decode cc pc = .ok (.ior, 1)) (hs : (iv_bin (fun x y => x ||| y)) i ls st h = some a) (kn : ∀ ls2 st2 h2, a = .inl (ls2, st2, h2) → iv_W p l e R s m args below meth c Q g nL c0 cF (pc + 1) ls2 st2 h2)  : iv_W p l e R s m args below meth c Q g nL c0 cF pc ls st h := by
  unfold iv_bin at hs
  split at hs
  · obtain rfl := Option.some.inj hs
    intro h0 h1 lsC H locs hL hI hl
    exact lv_ior hx hb hd (kn _ _ _ rfl h0 h1 lsC H locs hL hI hl)
  · cases hs
theorem iv_c23 (hx : p.tables.exec = Jvm.exec) (hb : c.code = cc)  (hd : decode cc pc = .ok (.ixor, 1)) (hs : (iv_bin (fun x y => x ^^^ y)) i ls st h = some a) (kn : ∀ ls2 st2 h2, a = .inl (ls2, st2, h2) → iv_W p l e R s m args below meth c Q g nL c0 cF (pc + 1) ls2 st2 h2)  : iv_W p l e R s m args below meth c Q g nL c0 cF pc ls st h := by
  unfold iv_bin at hs
  split at hs
  · obtain rfl := Option.some.inj hs
    intro h0 h1 lsC H locs hL hI hl
    exact lv_ixor hx hb hd (kn _ _ _ rfl h0 h1 lsC H locs hL hI hl)
  · cases hs
theorem iv_c24 (hx : p.tables.exec = Jvm.exec) (hb : c.code = cc)  (hd : decode cc pc = .ok (.ishl, 1)) (hs : (iv_bin (fun x y => x <<< (y &&& 31))) i ls st h = some a) (kn : ∀ ls2 st2 h2, a = .inl (ls2, st2, h2) → iv_W p l e R s m args below meth c Q g nL c0 cF (pc + 1) ls2 st2 h2)  : iv_W p l e R s m args below meth c Q g nL c0 cF pc ls st h := by
  unfold iv_bin at hs
  split at hs
  · obtain rfl := Option.some.inj hs
    intro h0 h1 lsC H locs hL hI hl
    exact lv_ishl hx hb hd (kn _ _ _ rfl h0 h1 lsC H locs hL hI hl)
  · cases hs
theorem iv_c25 (hx : p.tables.exec = Jvm.exec) (hb : c.code = cc)  (hd : decode cc pc = .ok (.ishr, 1)) (hs : (iv_bin (fun x y => x >>> (y &&& 31))) i ls st h = some a) (kn : ∀ ls2 st2 h2, a = .inl (ls2, st2, h2) → iv_W p l e R s m args below meth c Q g nL c0 cF (pc + 1) ls2 st2 h2)  : iv_W p l e R s m args below meth c Q g nL c0 cF pc ls st h := by
  unfold iv_bin at hs
  split at hs
  · obtain rfl := Option.some.inj hs
    intro h0 h1 lsC H locs hL hI hl
    exact lv_ishr hx hb hd (kn _ _ _ rfl h0 h1 lsC H locs hL hI hl)
  · cases hs
theorem iv_c26 (hx : p.tables.exec = Jvm.exec) (hb : c.code = cc)  (hd : decode cc pc = .ok (.iushr, 1)) (hs : (iv_bin (fun x y => (x.toUInt32 >>> (y.toUInt32 &&& Int32.toUInt32 31)).toInt32)) i ls st h = some a) (kn : ∀ ls2 st2 h2, a = .inl (ls2, st2, h2) → iv_W p l e R s m args below meth c Q g nL c0 cF (pc + 1) ls2 st2 h2)  : iv_W p l e R s m args below meth c Q g nL c0 cF pc ls st h := by
  unfold iv_bin at hs
  split at hs
  · obtain rfl := Option.some.inj hs
    intro h0 h1 lsC H locs hL hI hl
    exact lv_iushr hx hb hd rfl (kn _ _ _ rfl h0 h1 lsC H locs hL hI hl)
  · cases hs
theorem iv_c20 (hx : p.tables.exec = Jvm.exec) (hb : c.code = cc)  (hd : decode cc pc = .ok (.ineg, 1)) (hs : (iv_un (fun x => -x)) i ls st h = some a) (kn : ∀ ls2 st2 h2, a = .inl (ls2, st2, h2) → iv_W p l e R s m args below meth c Q g nL c0 cF (pc + 1) ls2 st2 h2)  : iv_W p l e R s m args below meth c Q g nL c0 cF pc ls st h := by
  unfold iv_un at hs
  split at hs
  · obtain rfl := Option.some.inj hs
    intro h0 h1 lsC H locs hL hI hl
    exact lv_ineg hx hb hd (kn _ _ _ rfl h0 h1 lsC H locs hL hI hl)
  · cases hs
theorem iv_c36 (hx : p.tables.exec = Jvm.exec) (hb : c.code = cc)  (hd : decode cc pc = .ok (.i2b, 1)) (hs : (iv_un (fun x => x.toInt8.toInt32)) i ls st h = some a) (kn : ∀ ls2 st2 h2, a = .inl (ls2, st2, h2) → iv_W p l e R s m args below meth c Q g nL c0 cF (pc + 1) ls2 st2 h2)  : iv_W p l e R s m args below meth c Q g nL c0 cF pc ls st h := by
  unfold iv_un at hs
  split at hs
  · obtain rfl := Option.some.inj hs
    intro h0 h1 lsC H locs hL hI hl
    exact lv_i2b hx hb hd rfl (kn _ _ _ rfl h0 h1 lsC H locs hL hI hl)
  · cases hs
theorem iv_c37 (hx : p.tables.exec = Jvm.exec) (hb : c.code = cc)  (hd : decode cc pc = .ok (.i2s, 1)) (hs : (iv_un (fun x => x.toInt16.toInt32)) i ls st h = some a) (kn : ∀ ls2 st2 h2, a = .inl (ls2, st2, h2) → iv_W p l e R s m args below meth c Q g nL c0 cF (pc + 1) ls2 st2 h2)  : iv_W p l e R s m args below meth c Q g nL c0 cF pc ls st h := by
  unfold iv_un at hs
  split at hs
  · obtain rfl := Option.some.inj hs
    intro h0 h1 lsC H locs hL hI hl
    exact lv_i2s hx hb hd rfl (kn _ _ _ rfl h0 h1 lsC H locs hL hI hl)
  · cases hs
theorem iv_c18 (hx : p.tables.exec = Jvm.exec) (hb : c.code = cc)  (hd : decode cc pc = .ok (.idiv, 1)) (hs : iv_o18 i ls st h = some a) (kn : ∀ ls2 st2 h2, a = .inl (ls2, st2, h2) → iv_W p l e R s m args below meth c Q g nL c0 cF (pc + 1) ls2 st2 h2)  : iv_W p l e R s m args below meth c Q g nL c0 cF pc ls st h := by
  unfold iv_o18 at hs
  split at hs
  · split at hs
    · cases hs
    · rename_i hne
      obtain rfl := Option.some.inj hs
      intro h0 h1 lsC H locs hL hI hl
      exact lv_idiv hx hb hd hne (kn _ _ _ rfl h0 h1 lsC H locs hL hI hl)
  · cases hs
theorem iv_c19 (hx : p.tables.exec = Jvm.exec) (hb : c.code = cc)  (hd : decode cc pc = .ok (.irem, 1)) (hs : iv_o19 i ls st h = some a) (kn : ∀ ls2 st2 h2, a = .inl (ls2, st2, h2) → iv_W p l e R s m args below meth c Q g nL c0 cF (pc + 1) ls2 st2 h2)  : iv_W p l e R s m args below meth c Q g nL c0 cF pc ls st h := by
  unfold iv_o19 at hs
  split at hs
  · split at hs
    · cases hs
    · rename_i hne
      obtain rfl := Option.some.inj hs
      intro h0 h1 lsC H locs hL hI hl
      exact lv_irem hx hb hd hne (kn _ _ _ rfl h0 h1 lsC H locs hL hI hl)
  · cases hs
theorem iv_c27 (hx : p.tables.exec = Jvm.exec) (hb : c.code = cc)  (hd : decode cc pc = .ok (.ladd, 1)) (hs : (iv_binL (fun x y => x + y)) i ls st h = some a) (kn : ∀ ls2 st2 h2, a = .inl (ls2, st2, h2) → iv_W p l e R s m args below meth c Q g nL c0 cF (pc + 1) ls2 st2 h2)  : iv_W p l e R s m args below meth c Q g nL c0 cF pc ls st h := by
  unfold iv_binL at hs
  split at hs
  · obtain rfl := Option.some.inj hs
    intro h0 h1 lsC H locs hL hI hl
    exact lv_ladd hx hb hd (kn _ _ _ rfl h0 h1 lsC H locs hL hI hl)
  · cases hs
theorem iv_c28 (hx : p.tables.exec = Jvm.exec) (hb : c.code = cc)  (hd : decode cc pc = .ok (.lmul, 1)) (hs : (iv_binL (fun x y => x * y)) i ls st h = some a) (kn : ∀ ls2 st2 h2, a = .inl (ls2, st2, h2) → iv_W p l e R s m args below meth c Q g nL c0 cF (pc + 1) ls2 st2 h2)  : iv_W p l e R s m args below meth c Q g nL c0 cF pc ls st h := by
  unfold iv_binL at hs
  split at hs
  · obtain rfl := Option.some.inj hs
    intro h0 h1 lsC H locs hL hI hl
    exact lv_lmul hx hb hd (kn _ _ _ rfl h0 h1 lsC H locs hL hI hl)
  · cases hs
theorem iv_c29 (hx : p.tables.exec = Jvm.exec) (hb : c.code = cc)  (hd : decode cc pc = .ok (.land, 1)) (hs : (iv_binL (fun x y => x &&& y)) i ls st h = some a) (kn : ∀ ls2 st2 h2, a = .inl (ls2, st2, h2) → iv_W p l e R s m args below meth c Q g nL c0 cF (pc + 1) ls2 st2 h2)  : iv_W p l e R s m args below meth c Q g nL c0 cF pc ls st h := by
  unfold iv_binL at hs
  split at hs
  · obtain rfl := Option.some.inj hs
    intro h0 h1 lsC H locs hL hI hl
    exact lv_land hx hb hd (kn _ _ _ rfl h0 h1 lsC H locs hL hI hl)
  · cases hs
theorem iv_c30 (hx : p.tables.exec = Jvm.exec) (hb : c.code = cc)  (hd : decode cc pc = .ok (.lor, 1)) (hs : (iv_binL (fun x y => x ||| y)) i ls st h = some a) (kn : ∀ ls2 st2 h2, a = .inl (ls2, st2, h2) → iv_W p l e R s m args below meth c Q g nL c0 cF (pc + 1) ls2 st2 h2)  : iv_W p l e R s m args below meth c Q g nL c0 cF pc ls st h := by
  unfold iv_binL at hs
  split at hs
  · obtain rfl := Option.some.inj hs
    intro h0 h1 lsC H locs hL hI hl
    exact lv_lor hx hb hd (kn _ _ _ rfl h0 h1 lsC H locs hL hI hl)
  · cases hs
theorem iv_c31 (hx : p.tables.exec = Jvm.exec) (hb : c.code = cc)  (hd : decode cc pc = .ok (.lshl, 1)) (hs : (iv_shL (fun x y => x <<< y)) i ls st h = some a) (kn : ∀ ls2 st2 h2, a = .inl (ls2, st2, h2) → iv_W p l e R s m args below meth c Q g nL c0 cF (pc + 1) ls2 st2 h2)  : iv_W p l e R s m args below meth c Q g nL c0 cF pc ls st h := by
  unfold iv_shL at hs
  split at hs
  · obtain rfl := Option.some.inj hs
    intro h0 h1 lsC H locs hL hI hl
    exact lv_lshl hx hb hd rfl (kn _ _ _ rfl h0 h1 lsC H locs hL hI hl)
  · cases hs
theorem iv_c32 (hx : p.tables.exec = Jvm.exec) (hb : c.code = cc)  (hd : decode cc pc = .ok (.lshr, 1)) (hs : (iv_shL (fun x y => x >>> y)) i ls st h = some a) (kn : ∀ ls2 st2 h2, a = .inl (ls2, st2, h2) → iv_W p l e R s m args below meth c Q g nL c0 cF (pc + 1) ls2 st2 h2)  : iv_W p l e R s m args below meth c Q g nL c0 cF pc ls st h := by
  unfold iv_shL at hs
  split at hs
  · obtain rfl := Option.some.inj hs
    intro h0 h1 lsC H locs hL hI hl
    exact lv_lshr hx hb hd rfl (kn _ _ _ rfl h0 h1 lsC H locs hL hI hl)
  · cases hs
theorem iv_c33 (hx : p.tables.exec = Jvm.exec) (hb : c.code = cc)  (hd : decode cc pc = .ok (.lcmp, 1)) (hs : iv_o33 i ls st h = some a) (kn : ∀ ls2 st2 h2, a = .inl (ls2, st2, h2) → iv_W p l e R s m args below meth c Q g nL c0 cF (pc + 1) ls2 st2 h2)  : iv_W p l e R s m args below meth c Q g nL c0 cF pc ls st h := by
  unfold iv_o33 at hs
  split at hs
  · obtain rfl := Option.some.inj hs
    intro h0 h1 lsC H locs hL hI hl
    exact W.lcmp hx hb hd (kn _ _ _ rfl h0 h1 lsC H locs hL hI hl)
  · cases hs
theorem iv_c34 (hx : p.tables.exec = Jvm.exec) (hb : c.code = cc)  (hd : decode cc pc = .ok (.i2l, 1)) (hs : iv_o34 i ls st h = some a) (kn : ∀ ls2 st2 h2, a = .inl (ls2, st2, h2) → iv_W p l e R s m args below meth c Q g nL c0 cF (pc + 1) ls2 st2 h2)  : iv_W p l e R s m args below meth c Q g nL c0 cF pc ls st h := by
  unfold iv_o34 at hs
  split at hs
  · obtain rfl := Option.some.inj hs
    intro h0 h1 lsC H locs hL hI hl
    exact lv_i2l hx hb hd rfl (kn _ _ _ rfl h0 h1 lsC H locs hL hI hl)
  · cases hs
theorem iv_c35 (hx : p.tables.exec = Jvm.exec) (hb : c.code = cc)  (hd : decode cc pc = .ok (.l2i, 1)) (hs : iv_o35 i ls st h = some a) (kn : ∀ ls2 st2 h2, a = .inl (ls2, st2, h2) → iv_W p l e R s m args below meth c Q g nL c0 cF (pc + 1) ls2 st2 h2)  : iv_W p l e R s m args below meth c Q g nL c0 cF pc ls st h := by
  unfold iv_o35 at hs
  split at hs
  · obtain rfl := Option.some.inj hs
    intro h0 h1 lsC H locs hL hI hl
    exact lv_l2i hx hb hd rfl (kn _ _ _ rfl h0 h1 lsC H locs hL hI hl)
  · cases hs
theorem iv_c38 (hx : p.tables.exec = Jvm.exec) (hb : c.code = cc)  (hd : decode cc pc = .ok (.dup, 1)) (hs : iv_o38 i ls st h = some a) (kn : ∀ ls2 st2 h2, a = .inl (ls2, st2, h2) → iv_W p l e R s m args below meth c Q g nL c0 cF (pc + 1) ls2 st2 h2)  : iv_W p l e R s m args below meth c Q g nL c0 cF pc ls st h := by
  unfold iv_o38 at hs
  split at hs
  · split at hs
    · rename_i hcat
      obtain rfl := Option.some.inj hs
      intro h0 h1 lsC H locs hL hI hl
      exact lv_dup hx hb hd (by rw [iv_cat]; exact hcat) (kn _ _ _ rfl h0 h1 lsC H locs hL hI hl)
    · cases hs
  · cases hs
theorem iv_c39 (hx : p.tables.exec = Jvm.exec) (hb : c.code = cc)  (hd : decode cc pc = .ok (.pop, 1)) (hs : iv_o39 i ls st h = some a) (kn : ∀ ls2 st2 h2, a = .inl (ls2, st2, h2) → iv_W p l e R s m args below meth c Q g nL c0 cF (pc + 1) ls2 st2 h2)  : iv_W p l e R s m args below meth c Q g nL c0 cF pc ls st h := by
  unfold iv_o39 at hs
  split at hs
  · split at hs
    · rename_i hcat
      obtain rfl := Option.some.inj hs
      intro h0 h1 lsC H locs hL hI hl
      exact lv_pop hx hb hd (by rw [iv_cat]; exact hcat) (kn _ _ _ rfl h0 h1 lsC H locs hL hI hl)
    · cases hs
  · cases hs
theorem iv_c40 (hx : p.tables.exec = Jvm.exec) (hb : c.code = cc)  (hd : decode cc pc = .ok (.dup_x1, 1)) (hs : iv_o40 i ls st h = some a) (kn : ∀ ls2 st2 h2, a = .inl (ls2, st2, h2) → iv_W p l e R s m args below meth c Q g nL c0 cF (pc + 1) ls2 st2 h2)  : iv_W p l e R s m args below meth c Q g nL c0 cF pc ls st h := by
  unfold iv_o40 at hs
  split at hs
  · split at hs
    · rename_i hcat
      obtain rfl := Option.some.inj hs
      intro h0 h1 lsC H locs hL hI hl
      exact lv_dup_x1 hx hb hd (by rw [iv_cat]; exact hcat.1) (by rw [iv_cat]; exact hcat.2) (kn _ _ _ rfl h0 h1 lsC H locs hL hI hl)
    · cases hs
  · cases hs
theorem iv_c41 (hx : p.tables.exec = Jvm.exec) (hb : c.code = cc)  (hd : decode cc pc = .ok (.dup2, 1)) (hs : iv_o41 i ls st h = some a) (kn : ∀ ls2 st2 h2, a = .inl (ls2, st2, h2) → iv_W p l e R s m args below meth c Q g nL c0 cF (pc + 1) ls2 st2 h2)  : iv_W p l e R s m args below meth c Q g nL c0 cF pc ls st h := by
  unfold iv_o41 at hs
  split at hs
  · split at hs
    · rename_i hcat
      obtain rfl := Option.some.inj hs
      intro h0 h1 lsC H locs hL hI hl
      exact lv_dup2_11 hx hb hd (by rw [iv_cat]; exact hcat.1) (by rw [iv_cat]; exact hcat.2) (kn _ _ _ rfl h0 h1 lsC H locs hL hI hl)
    · cases hs
  · cases hs
theorem iv_c42 (hx : p.tables.exec = Jvm.exec) (hb : c.code = cc) (hd : decode cc pc = .ok (.goto i.2.2.2.1, 3)) (ht : (pc : Int) + i.2.2.2.1 = (i.2.1 : Int)) (hs : iv_o42 i ls st h = some a) (kj : ∀ pc2 ls2 st2 h2, a = .inr (.inl (pc2, ls2, st2, h2)) → iv_W p l e R s m args below meth c Q g nL c0 cF pc2 ls2 st2 h2) : iv_W p l e R s m args below meth c Q g nL c0 cF pc ls st h := by
  obtain rfl := Option.some.inj hs
  intro h0 h1 lsC H locs hL hI hl
  exact lv_goto hx hb hd ht (kj _ _ _ _ rfl h0 h1 lsC H locs hL hI hl)
theorem iv_c43eq (hx : p.tables.exec = Jvm.exec) (hb : c.code = cc) (hbb : i.2.2.1 = 0) (ht : (pc : Int) + i.2.2.2.1 = (i.2.1 : Int)) (hd : decode cc pc = .ok (.ifCond .eq i.2.2.2.1, 3)) (hs : iv_o43 i ls st h = some a) (kn : ∀ ls2 st2 h2, a = .inl (ls2, st2, h2) → iv_W p l e R s m args below meth c Q g nL c0 cF (pc + 3) ls2 st2 h2) (kj : ∀ pc2 ls2 st2 h2, a = .inr (.inl (pc2, ls2, st2, h2)) → iv_W p l e R s m args below meth c Q g nL c0 cF pc2 ls2 st2 h2) : iv_W p l e R s m args below meth c Q g nL c0 cF pc ls st h := by
  unfold iv_o43 at hs
  split at hs
  · rw [hbb] at hs
    split at hs
    · rename_i hcd
      obtain rfl := Option.some.inj hs
      have hcd2 := iv_cd_eq hcd
      intro h0 h1 lsC H locs hL hI hl
      exact lv_if_eq hx hb hd ht (fun _ => kj _ _ _ _ rfl h0 h1 lsC H locs hL hI hl) (fun z => absurd hcd2 z)
    · rename_i hcd
      obtain rfl := Option.some.inj hs
      have hcd2 := iv_cf_eq hcd
      intro h0 h1 lsC H locs hL hI hl
      exact lv_if_eq hx hb hd ht (fun z => absurd z hcd2) (fun _ => kn _ _ _ rfl h0 h1 lsC H locs hL hI hl)
  · cases hs
theorem iv_c44eq (hx : p.tables.exec = Jvm.exec) (hb : c.code = cc) (hbb : i.2.2.1 = 0) (ht : (pc : Int) + i.2.2.2.1 = (i.2.1 : Int)) (hd : decode cc pc = .ok (.if_icmp .eq i.2.2.2.1, 3)) (hs : iv_o44 i ls st h = some a) (kn : ∀ ls2 st2 h2, a = .inl (ls2, st2, h2) → iv_W p l e R s m args below meth c Q g nL c0 cF (pc + 3) ls2 st2 h2) (kj : ∀ pc2 ls2 st2 h2, a = .inr (.inl (pc2, ls2, st2, h2)) → iv_W p l e R s m args below meth c Q g nL c0 cF pc2 ls2 st2 h2) : iv_W p l e R s m args below meth c Q g nL c0 cF pc ls st h := by
  unfold iv_o44 at hs
  split at hs
  · rw [hbb] at hs
    split at hs
    · rename_i hcd
      obtain rfl := Option.some.inj hs
      have hcd2 := iv_cd_eq hcd
      intro h0 h1 lsC H locs hL hI hl
      exact lv_icmp_eq hx hb hd ht (fun _ => kj _ _ _ _ rfl h0 h1 lsC H locs hL hI hl) (fun z => absurd hcd2 z)
    · rename_i hcd
      obtain rfl := Option.some.inj hs
      have hcd2 := iv_cf_eq hcd
      intro h0 h1 lsC H locs hL hI hl
      exact lv_icmp_eq hx hb hd ht (fun z => absurd z hcd2) (fun _ => kn _ _ _ rfl h0 h1 lsC H locs hL hI hl)
  · cases hs
theorem iv_c43ne (hx : p.tables.exec = Jvm.exec) (hb : c.code = cc) (hbb : i.2.2.1 = 1) (ht : (pc : Int) + i.2.2.2.1 = (i.2.1 : Int)) (hd : decode cc pc = .ok (.ifCond .ne i.2.2.2.1, 3)) (hs : iv_o43 i ls st h = some a) (kn : ∀ ls2 st2 h2, a = .inl (ls2, st2, h2) → iv_W p l e R s m args below meth c Q g nL c0 cF (pc + 3) ls2 st2 h2) (kj : ∀ pc2 ls2 st2 h2, a = .inr (.inl (pc2, ls2, st2, h2)) → iv_W p l e R s m args below meth c Q g nL c0 cF pc2 ls2 st2 h2) : iv_W p l e R s m args below meth c Q g nL c0 cF pc ls st h := by
  unfold iv_o43 at hs
  split at hs
  · rw [hbb] at hs
    split at hs
    · rename_i hcd
      obtain rfl := Option.some.inj hs
      have hcd2 := iv_cd_ne hcd
      intro h0 h1 lsC H locs hL hI hl
      exact lv_if_ne hx hb hd ht (fun _ => kj _ _ _ _ rfl h0 h1 lsC H locs hL hI hl) (fun z => absurd z hcd2)
    · rename_i hcd
      obtain rfl := Option.some.inj hs
      have hcd2 := iv_cf_ne hcd
      intro h0 h1 lsC H locs hL hI hl
      exact lv_if_ne hx hb hd ht (fun z => absurd hcd2 z) (fun _ => kn _ _ _ rfl h0 h1 lsC H locs hL hI hl)
  · cases hs
theorem iv_c44ne (hx : p.tables.exec = Jvm.exec) (hb : c.code = cc) (hbb : i.2.2.1 = 1) (ht : (pc : Int) + i.2.2.2.1 = (i.2.1 : Int)) (hd : decode cc pc = .ok (.if_icmp .ne i.2.2.2.1, 3)) (hs : iv_o44 i ls st h = some a) (kn : ∀ ls2 st2 h2, a = .inl (ls2, st2, h2) → iv_W p l e R s m args below meth c Q g nL c0 cF (pc + 3) ls2 st2 h2) (kj : ∀ pc2 ls2 st2 h2, a = .inr (.inl (pc2, ls2, st2, h2)) → iv_W p l e R s m args below meth c Q g nL c0 cF pc2 ls2 st2 h2) : iv_W p l e R s m args below meth c Q g nL c0 cF pc ls st h := by
  unfold iv_o44 at hs
  split at hs
  · rw [hbb] at hs
    split at hs
    · rename_i hcd
      obtain rfl := Option.some.inj hs
      have hcd2 := iv_cd_ne hcd
      intro h0 h1 lsC H locs hL hI hl
      exact lv_icmp_ne hx hb hd ht (fun _ => kj _ _ _ _ rfl h0 h1 lsC H locs hL hI hl) (fun z => absurd z hcd2)
    · rename_i hcd
      obtain rfl := Option.some.inj hs
      have hcd2 := iv_cf_ne hcd
      intro h0 h1 lsC H locs hL hI hl
      exact lv_icmp_ne hx hb hd ht (fun z => absurd hcd2 z) (fun _ => kn _ _ _ rfl h0 h1 lsC H locs hL hI hl)
  · cases hs
theorem iv_c43lt (hx : p.tables.exec = Jvm.exec) (hb : c.code = cc) (hbb : i.2.2.1 = 2) (ht : (pc : Int) + i.2.2.2.1 = (i.2.1 : Int)) (hd : decode cc pc = .ok (.ifCond .lt i.2.2.2.1, 3)) (hs : iv_o43 i ls st h = some a) (kn : ∀ ls2 st2 h2, a = .inl (ls2, st2, h2) → iv_W p l e R s m args below meth c Q g nL c0 cF (pc + 3) ls2 st2 h2) (kj : ∀ pc2 ls2 st2 h2, a = .inr (.inl (pc2, ls2, st2, h2)) → iv_W p l e R s m args below meth c Q g nL c0 cF pc2 ls2 st2 h2) : iv_W p l e R s m args below meth c Q g nL c0 cF pc ls st h := by
  unfold iv_o43 at hs
  split at hs
  · rw [hbb] at hs
    split at hs
    · rename_i hcd
      obtain rfl := Option.some.inj hs
      have hcd2 := iv_cd_lt hcd
      intro h0 h1 lsC H locs hL hI hl
      exact lv_if_lt hx hb hd ht (fun _ => kj _ _ _ _ rfl h0 h1 lsC H locs hL hI hl) (fun z => absurd hcd2 z)
    · rename_i hcd
      obtain rfl := Option.some.inj hs
      have hcd2 := iv_cf_lt hcd
      intro h0 h1 lsC H locs hL hI hl
      exact lv_if_lt hx hb hd ht (fun z => absurd z hcd2) (fun _ => kn _ _ _ rfl h0 h1 lsC H locs hL hI hl)
  · cases hs
theorem iv_c44lt (hx : p.tables.exec = Jvm.exec) (hb : c.code = cc) (hbb : i.2.2.1 = 2) (ht : (pc : Int) + i.2.2.2.1 = (i.2.1 : Int)) (hd : decode cc pc = .ok (.if_icmp .lt i.2.2.2.1, 3)) (hs : iv_o44 i ls st h = some a) (kn : ∀ ls2 st2 h2, a = .inl (ls2, st2, h2) → iv_W p l e R s m args below meth c Q g nL c0 cF (pc + 3) ls2 st2 h2) (kj : ∀ pc2 ls2 st2 h2, a = .inr (.inl (pc2, ls2, st2, h2)) → iv_W p l e R s m args below meth c Q g nL c0 cF pc2 ls2 st2 h2) : iv_W p l e R s m args below meth c Q g nL c0 cF pc ls st h := by
  unfold iv_o44 at hs
  split at hs
  · rw [hbb] at hs
    split at hs
    · rename_i hcd
      obtain rfl := Option.some.inj hs
      have hcd2 := iv_cd_lt hcd
      intro h0 h1 lsC H locs hL hI hl
      exact lv_icmp_lt hx hb hd ht (fun _ => kj _ _ _ _ rfl h0 h1 lsC H locs hL hI hl) (fun z => absurd hcd2 z)
    · rename_i hcd
      obtain rfl := Option.some.inj hs
      have hcd2 := iv_cf_lt hcd
      intro h0 h1 lsC H locs hL hI hl
      exact lv_icmp_lt hx hb hd ht (fun z => absurd z hcd2) (fun _ => kn _ _ _ rfl h0 h1 lsC H locs hL hI hl)
  · cases hs
theorem iv_c43ge (hx : p.tables.exec = Jvm.exec) (hb : c.code = cc) (hbb : i.2.2.1 = 3) (ht : (pc : Int) + i.2.2.2.1 = (i.2.1 : Int)) (hd : decode cc pc = .ok (.ifCond .ge i.2.2.2.1, 3)) (hs : iv_o43 i ls st h = some a) (kn : ∀ ls2 st2 h2, a = .inl (ls2, st2, h2) → iv_W p l e R s m args below meth c Q g nL c0 cF (pc + 3) ls2 st2 h2) (kj : ∀ pc2 ls2 st2 h2, a = .inr (.inl (pc2, ls2, st2, h2)) → iv_W p l e R s m args below meth c Q g nL c0 cF pc2 ls2 st2 h2) : iv_W p l e R s m args below meth c Q g nL c0 cF pc ls st h := by
  unfold iv_o43 at hs
  split at hs
  · rw [hbb] at hs
    split at hs
    · rename_i hcd
      obtain rfl := Option.some.inj hs
      have hcd2 := iv_cd_ge hcd
      intro h0 h1 lsC H locs hL hI hl
      exact lv_if_ge hx hb hd ht (fun _ => kj _ _ _ _ rfl h0 h1 lsC H locs hL hI hl) (fun z => absurd hcd2 z)
    · rename_i hcd
      obtain rfl := Option.some.inj hs
      have hcd2 := iv_cf_ge hcd
      intro h0 h1 lsC H locs hL hI hl
      exact lv_if_ge hx hb hd ht (fun z => absurd z hcd2) (fun _ => kn _ _ _ rfl h0 h1 lsC H locs hL hI hl)
  · cases hs
theorem iv_c44ge (hx : p.tables.exec = Jvm.exec) (hb : c.code = cc) (hbb : i.2.2.1 = 3) (ht : (pc : Int) + i.2.2.2.1 = (i.2.1 : Int)) (hd : decode cc pc = .ok (.if_icmp .ge i.2.2.2.1, 3)) (hs : iv_o44 i ls st h = some a) (kn : ∀ ls2 st2 h2, a = .inl (ls2, st2, h2) → iv_W p l e R s m args below meth c Q g nL c0 cF (pc + 3) ls2 st2 h2) (kj : ∀ pc2 ls2 st2 h2, a = .inr (.inl (pc2, ls2, st2, h2)) → iv_W p l e R s m args below meth c Q g nL c0 cF pc2 ls2 st2 h2) : iv_W p l e R s m args below meth c Q g nL c0 cF pc ls st h := by
  unfold iv_o44 at hs
  split at hs
  · rw [hbb] at hs
    split at hs
    · rename_i hcd
      obtain rfl := Option.some.inj hs
      have hcd2 := iv_cd_ge hcd
      intro h0 h1 lsC H locs hL hI hl
      exact lv_icmp_ge hx hb hd ht (fun _ => kj _ _ _ _ rfl h0 h1 lsC H locs hL hI hl) (fun z => absurd hcd2 z)
    · rename_i hcd
      obtain rfl := Option.some.inj hs
      have hcd2 := iv_cf_ge hcd
      intro h0 h1 lsC H locs hL hI hl
      exact lv_icmp_ge hx hb hd ht (fun z => absurd z hcd2) (fun _ => kn _ _ _ rfl h0 h1 lsC H locs hL hI hl)
  · cases hs
theorem iv_c43gt (hx : p.tables.exec = Jvm.exec) (hb : c.code = cc) (hbb : i.2.2.1 = 4) (ht : (pc : Int) + i.2.2.2.1 = (i.2.1 : Int)) (hd : decode cc pc = .ok (.ifCond .gt i.2.2.2.1, 3)) (hs : iv_o43 i ls st h = some a) (kn : ∀ ls2 st2 h2, a = .inl (ls2, st2, h2) → iv_W p l e R s m args below meth c Q g nL c0 cF (pc + 3) ls2 st2 h2) (kj : ∀ pc2 ls2 st2 h2, a = .inr (.inl (pc2, ls2, st2, h2)) → iv_W p l e R s m args below meth c Q g nL c0 cF pc2 ls2 st2 h2) : iv_W p l e R s m args below meth c Q g nL c0 cF pc ls st h := by
  unfold iv_o43 at hs
  split at hs
  · rw [hbb] at hs
    split at hs
    · rename_i hcd
      obtain rfl := Option.some.inj hs
      have hcd2 := iv_cd_gt hcd
      intro h0 h1 lsC H locs hL hI hl
      exact lv_if_gt hx hb hd ht (fun _ => kj _ _ _ _ rfl h0 h1 lsC H locs hL hI hl) (fun z => absurd hcd2 z)
    · rename_i hcd
      obtain rfl := Option.some.inj hs
      have hcd2 := iv_cf_gt hcd
      intro h0 h1 lsC H locs hL hI hl
      exact lv_if_gt hx hb hd ht (fun z => absurd z hcd2) (fun _ => kn _ _ _ rfl h0 h1 lsC H locs hL hI hl)
  · cases hs
theorem iv_c44gt (hx : p.tables.exec = Jvm.exec) (hb : c.code = cc) (hbb : i.2.2.1 = 4) (ht : (pc : Int) + i.2.2.2.1 = (i.2.1 : Int)) (hd : decode cc pc = .ok (.if_icmp .gt i.2.2.2.1, 3)) (hs : iv_o44 i ls st h = some a) (kn : ∀ ls2 st2 h2, a = .inl (ls2, st2, h2) → iv_W p l e R s m args below meth c Q g nL c0 cF (pc + 3) ls2 st2 h2) (kj : ∀ pc2 ls2 st2 h2, a = .inr (.inl (pc2, ls2, st2, h2)) → iv_W p l e R s m args below meth c Q g nL c0 cF pc2 ls2 st2 h2) : iv_W p l e R s m args below meth c Q g nL c0 cF pc ls st h := by
  unfold iv_o44 at hs
  split at hs
  · rw [hbb] at hs
    split at hs
    · rename_i hcd
      obtain rfl := Option.some.inj hs
      have hcd2 := iv_cd_gt hcd
      intro h0 h1 lsC H locs hL hI hl
      exact lv_icmp_gt hx hb hd ht (fun _ => kj _ _ _ _ rfl h0 h1 lsC H locs hL hI hl) (fun z => absurd hcd2 z)
    · rename_i hcd
      obtain rfl := Option.some.inj hs
      have hcd2 := iv_cf_gt hcd
      intro h0 h1 lsC H locs hL hI hl
      exact lv_icmp_gt hx hb hd ht (fun z => absurd z hcd2) (fun _ => kn _ _ _ rfl h0 h1 lsC H locs hL hI hl)
  · cases hs
theorem iv_c43le (hx : p.tables.exec = Jvm.exec) (hb : c.code = cc) (hbb : i.2.2.1 = 5) (ht : (pc : Int) + i.2.2.2.1 = (i.2.1 : Int)) (hd : decode cc pc = .ok (.ifCond .le i.2.2.2.1, 3)) (hs : iv_o43 i ls st h = some a) (kn : ∀ ls2 st2 h2, a = .inl (ls2, st2, h2) → iv_W p l e R s m args below meth c Q g nL c0 cF (pc + 3) ls2 st2 h2) (kj : ∀ pc2 ls2 st2 h2, a = .inr (.inl (pc2, ls2, st2, h2)) → iv_W p l e R s m args below meth c Q g nL c0 cF pc2 ls2 st2 h2) : iv_W p l e R s m args below meth c Q g nL c0 cF pc ls st h := by
  unfold iv_o43 at hs
  split at hs
  · rw [hbb] at hs
    split at hs
    · rename_i hcd
      obtain rfl := Option.some.inj hs
      have hcd2 := iv_cd_le hcd
      intro h0 h1 lsC H locs hL hI hl
      exact lv_if_le hx hb hd ht (fun _ => kj _ _ _ _ rfl h0 h1 lsC H locs hL hI hl) (fun z => absurd hcd2 z)
    · rename_i hcd
      obtain rfl := Option.some.inj hs
      have hcd2 := iv_cf_le hcd
      intro h0 h1 lsC H locs hL hI hl
      exact lv_if_le hx hb hd ht (fun z => absurd z hcd2) (fun _ => kn _ _ _ rfl h0 h1 lsC H locs hL hI hl)
  · cases hs
theorem iv_c44le (hx : p.tables.exec = Jvm.exec) (hb : c.code = cc) (hbb : i.2.2.1 = 5) (ht : (pc : Int) + i.2.2.2.1 = (i.2.1 : Int)) (hd : decode cc pc = .ok (.if_icmp .le i.2.2.2.1, 3)) (hs : iv_o44 i ls st h = some a) (kn : ∀ ls2 st2 h2, a = .inl (ls2, st2, h2) → iv_W p l e R s m args below meth c Q g nL c0 cF (pc + 3) ls2 st2 h2) (kj : ∀ pc2 ls2 st2 h2, a = .inr (.inl (pc2, ls2, st2, h2)) → iv_W p l e R s m args below meth c Q g nL c0 cF pc2 ls2 st2 h2) : iv_W p l e R s m args below meth c Q g nL c0 cF pc ls st h := by
  unfold iv_o44 at hs
  split at hs
  · rw [hbb] at hs
    split at hs
    · rename_i hcd
      obtain rfl := Option.some.inj hs
      have hcd2 := iv_cd_le hcd
      intro h0 h1 lsC H locs hL hI hl
      exact lv_icmp_le hx hb hd ht (fun _ => kj _ _ _ _ rfl h0 h1 lsC H locs hL hI hl) (fun z => absurd hcd2 z)
    · rename_i hcd
      obtain rfl := Option.some.inj hs
      have hcd2 := iv_cf_le hcd
      intro h0 h1 lsC H locs hL hI hl
      exact lv_icmp_le hx hb hd ht (fun z => absurd z hcd2) (fun _ => kn _ _ _ rfl h0 h1 lsC H locs hL hI hl)
  · cases hs
end IVO
