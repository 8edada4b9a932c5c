/-- all that holds throughout a method's body -/
def iv_Cx (p : Program) (m : MethodId) (c : Code) (s : State) (args : Array Value) (R : Room) (meth : Method) (g : iv_G) (nL c0 cF D o : Nat) (ini : Bool) (bs : ByteArray) (Ts : List Cond) : Prop :=
  p.tables.exec = Jvm.exec ∧ c.code = bs ∧ c.maxLocals = nL ∧ s.vm.findClass (iv_c o) = some m.cls ∧ (∀ w ∈ Ts, w.before args s = true) ∧ (∀ w ∈ iv_tbl, w ∈ Ts) ∧ iv_V g s ∧ s.heap.size = g.2.2.1.size + (c0 - 8) ∧ 8 ≤ c0 ∧ cF ≤ 72 ∧ iv_Rm R c0 cF ∧ (D + 1 ≤ R.frames ∧ 200 * (D + 1) ≤ R.locals) ∧ (∀ q, q < g.2.2.1.size → s.heap[q]? = g.2.2.1[q]?) ∧ (ini = true → meth.name = "<init>")
/-- the contract of a callee by its number -/
def iv_yn (y : Nat) : iv_Q := if y = 1000 then (⟨"java/lang/String", "length", "()I"⟩, prog_10_method_54_code, 1, some .int, 99, 0, []) else if y = 1001 then (⟨"java/lang/String", "charAt", "(I)C"⟩, prog_10_method_56_code, 2, some .char, 99, 1, []) else iv_q y
section IVD
variable {p : Program} {l : Launch} {e : Env} {R : Room} {s : State} {m : MethodId} {args : Array Value} {below : List Frame} {meth : Method} {c : Code} {Q : State → Prop} {g : iv_G} {nL c0 cF D o : Nat} {bs : ByteArray} {pc : Nat} {i : iv_I} {ls : iv_L} {st : List Value} {h : iv_H} {a : iv_A} {Ts : List Cond} {rt : Option FieldType} {ini : Bool}
theorem iv_ret63 {i : iv_I} {ls : iv_L} {st : List Value} {h : iv_H} {a : iv_A} (hs : iv_o63 i ls st h = some a) : ∃ r, a = .inr (.inr (.inl (r, h))) := by
  unfold iv_o63 at hs
  split at hs
  · split at hs
    · exact ⟨_, (Option.some.inj hs).symm⟩
    · cases hs
  · cases hs
theorem iv_ret64 {i : iv_I} {ls : iv_L} {st : List Value} {h : iv_H} {a : iv_A} (hs : iv_o64 i ls st h = some a) : ∃ r, a = .inr (.inr (.inl (r, h))) := by
  unfold iv_o64 at hs
  split at hs
  · exact ⟨_, (Option.some.inj hs).symm⟩
  · cases hs
theorem iv_ret65 {i : iv_I} {ls : iv_L} {st : List Value} {h : iv_H} {a : iv_A} (hs : iv_o65 i ls st h = some a) : ∃ r, a = .inr (.inr (.inl (r, h))) := by
  unfold iv_o65 at hs
  split at hs
  · exact ⟨_, (Option.some.inj hs).symm⟩
  · cases hs
theorem iv_call66 {i : iv_I} {k : Nat} {ls : iv_L} {st : List Value} {h : iv_H} {a : iv_A} (hs : iv_cv k i ls st h = some a) : ∃ as ls2 st2 h2, a = .inr (.inr (.inr (i.2.1, as, ls2, st2, h2))) := by
  unfold iv_cv at hs
  split at hs
  · split at hs
    · exact ⟨_, _, _, _, (Option.some.inj hs).symm⟩
    · cases hs
  · cases hs
theorem iv_call67 {i : iv_I} {ls : iv_L} {st : List Value} {h : iv_H} {a : iv_A} (hs : iv_o67 i ls st h = some a) : ∃ as ls2 st2 h2, a = .inr (.inr (.inr (i.2.1, as, ls2, st2, h2))) := by
  unfold iv_o67 at hs
  split at hs
  · exact ⟨_, _, _, _, (Option.some.inj hs).symm⟩
  · cases hs
set_option maxHeartbeats 1000000 in
theorem iv_d0 {ia ib : Nat} {iz : Int} {its : List Nat} (Cx : iv_Cx p m c s args R meth g nL c0 cF D o ini bs Ts) (hck : iv_ck bs o rt ini pc (0, ia, ib, iz, its) = true) (hs : iv_s (0, ia, ib, iz, its) ls st h = some a)
    (hlt : ∀ ls2 st2 h2, a = .inl (ls2, st2, h2) → h2.1 ≤ cF)
    (kn : ∀ ls2 st2 h2, a = .inl (ls2, st2, h2) → iv_W p l e R s m args below meth c Q g nL c0 cF (pc + iv_len (0, ia, ib, iz, its)) ls2 st2 h2)
    (kj : ∀ pc2 ls2 st2 h2, a = .inr (.inl (pc2, ls2, st2, h2)) → iv_W p l e R s m args below meth c Q g nL c0 cF pc2 ls2 st2 h2)
    (kr : ∀ r h2, a = .inr (.inr (.inl (r, h2))) → (0 = 63 ∨ 0 = 64 ∨ 0 = 65) → iv_W p l e R s m args below meth c Q g nL c0 cF pc ls st h)
    (kc : ∀ y as ls2 st2 h2, a = .inr (.inr (.inr (y, as, ls2, st2, h2))) → ∃ d rv h', D = d + 1 ∧ iv_Met g l (iv_yn y).1 (iv_yw (iv_yn y)) d as h2 rv h' ∧ h'.1 ≤ cF ∧ iv_W p l e R s m args below meth c Q g nL c0 cF (pc + iv_len (0, ia, ib, iz, its)) ls2 (rv.toList ++ st2) h') : iv_W p l e R s m args below meth c Q g nL c0 cF pc ls st h := by
  obtain ⟨hx, hb, hml, hown, hts, hT, hV, hsz, hc8, hcF, hRm, ⟨hRf, hRl⟩, hsh, hin⟩ := Cx
  exact iv_c0 (i := (0, ia, ib, iz, its)) hx hb (of_decide_eq_true hck) hs kn
set_option maxHeartbeats 1000000 in
theorem iv_d1 {ia ib : Nat} {iz : Int} {its : List Nat} (Cx : iv_Cx p m c s args R meth g nL c0 cF D o ini bs Ts) (hck : iv_ck bs o rt ini pc (1, ia, ib, iz, its) = true) (hs : iv_s (1, ia, ib, iz, its) ls st h = some a)
    (hlt : ∀ ls2 st2 h2, a = .inl (ls2, st2, h2) → h2.1 ≤ cF)
    (kn : ∀ ls2 st2 h2, a = .inl (ls2, st2, h2) → iv_W p l e R s m args below meth c Q g nL c0 cF (pc + iv_len (1, ia, ib, iz, its)) ls2 st2 h2)
    (kj : ∀ pc2 ls2 st2 h2, a = .inr (.inl (pc2, ls2, st2, h2)) → iv_W p l e R s m args below meth c Q g nL c0 cF pc2 ls2 st2 h2)
    (kr : ∀ r h2, a = .inr (.inr (.inl (r, h2))) → (1 = 63 ∨ 1 = 64 ∨ 1 = 65) → iv_W p l e R s m args below meth c Q g nL c0 cF pc ls st h)
    (kc : ∀ y as ls2 st2 h2, a = .inr (.inr (.inr (y, as, ls2, st2, h2))) → ∃ d rv h', D = d + 1 ∧ iv_Met g l (iv_yn y).1 (iv_yw (iv_yn y)) d as h2 rv h' ∧ h'.1 ≤ cF ∧ iv_W p l e R s m args below meth c Q g nL c0 cF (pc + iv_len (1, ia, ib, iz, its)) ls2 (rv.toList ++ st2) h') : iv_W p l e R s m args below meth c Q g nL c0 cF pc ls st h := by
  obtain ⟨hx, hb, hml, hown, hts, hT, hV, hsz, hc8, hcF, hRm, ⟨hRf, hRl⟩, hsh, hin⟩ := Cx
  exact iv_c1 (i := (1, ia, ib, iz, its)) hx hb (of_decide_eq_true hck) hs kn
set_option maxHeartbeats 1000000 in
theorem iv_d2 {ia ib : Nat} {iz : Int} {its : List Nat} (Cx : iv_Cx p m c s args R meth g nL c0 cF D o ini bs Ts) (hck : iv_ck bs o rt ini pc (2, ia, ib, iz, its) = true) (hs : iv_s (2, ia, ib, iz, its) ls st h = some a)
    (hlt : ∀ ls2 st2 h2, a = .inl (ls2, st2, h2) → h2.1 ≤ cF)
    (kn : ∀ ls2 st2 h2, a = .inl (ls2, st2, h2) → iv_W p l e R s m args below meth c Q g nL c0 cF (pc + iv_len (2, ia, ib, iz, its)) ls2 st2 h2)
    (kj : ∀ pc2 ls2 st2 h2, a = .inr (.inl (pc2, ls2, st2, h2)) → iv_W p l e R s m args below meth c Q g nL c0 cF pc2 ls2 st2 h2)
    (kr : ∀ r h2, a = .inr (.inr (.inl (r, h2))) → (2 = 63 ∨ 2 = 64 ∨ 2 = 65) → iv_W p l e R s m args below meth c Q g nL c0 cF pc ls st h)
    (kc : ∀ y as ls2 st2 h2, a = .inr (.inr (.inr (y, as, ls2, st2, h2))) → ∃ d rv h', D = d + 1 ∧ iv_Met g l (iv_yn y).1 (iv_yw (iv_yn y)) d as h2 rv h' ∧ h'.1 ≤ cF ∧ iv_W p l e R s m args below meth c Q g nL c0 cF (pc + iv_len (2, ia, ib, iz, its)) ls2 (rv.toList ++ st2) h') : iv_W p l e R s m args below meth c Q g nL c0 cF pc ls st h := by
  obtain ⟨hx, hb, hml, hown, hts, hT, hV, hsz, hc8, hcF, hRm, ⟨hRf, hRl⟩, hsh, hin⟩ := Cx
  exact iv_c2 (i := (2, ia, ib, iz, its)) hx hb (of_decide_eq_true hck) hs kn
set_option maxHeartbeats 1000000 in
theorem iv_d3 {ia ib : Nat} {iz : Int} {its : List Nat} (Cx : iv_Cx p m c s args R meth g nL c0 cF D o ini bs Ts) (hck : iv_ck bs o rt ini pc (3, ia, ib, iz, its) = true) (hs : iv_s (3, ia, ib, iz, its) ls st h = some a)
    (hlt : ∀ ls2 st2 h2, a = .inl (ls2, st2, h2) → h2.1 ≤ cF)
    (kn : ∀ ls2 st2 h2, a = .inl (ls2, st2, h2) → iv_W p l e R s m args below meth c Q g nL c0 cF (pc + iv_len (3, ia, ib, iz, its)) ls2 st2 h2)
    (kj : ∀ pc2 ls2 st2 h2, a = .inr (.inl (pc2, ls2, st2, h2)) → iv_W p l e R s m args below meth c Q g nL c0 cF pc2 ls2 st2 h2)
    (kr : ∀ r h2, a = .inr (.inr (.inl (r, h2))) → (3 = 63 ∨ 3 = 64 ∨ 3 = 65) → iv_W p l e R s m args below meth c Q g nL c0 cF pc ls st h)
    (kc : ∀ y as ls2 st2 h2, a = .inr (.inr (.inr (y, as, ls2, st2, h2))) → ∃ d rv h', D = d + 1 ∧ iv_Met g l (iv_yn y).1 (iv_yw (iv_yn y)) d as h2 rv h' ∧ h'.1 ≤ cF ∧ iv_W p l e R s m args below meth c Q g nL c0 cF (pc + iv_len (3, ia, ib, iz, its)) ls2 (rv.toList ++ st2) h') : iv_W p l e R s m args below meth c Q g nL c0 cF pc ls st h := by
  obtain ⟨hx, hb, hml, hown, hts, hT, hV, hsz, hc8, hcF, hRm, ⟨hRf, hRl⟩, hsh, hin⟩ := Cx
  have h2 := Bool.and_eq_true_iff.mp hck
  exact iv_c3 (i := (3, ia, ib, iz, its)) hx hb hown (hts _ (hT _ (iv_cst_in _ (List.mem_map.mpr ⟨_, of_decide_eq_true h2.2, rfl⟩)))) (of_decide_eq_true h2.1) hs kn
set_option maxHeartbeats 1000000 in
theorem iv_d4 {ia ib : Nat} {iz : Int} {its : List Nat} (Cx : iv_Cx p m c s args R meth g nL c0 cF D o ini bs Ts) (hck : iv_ck bs o rt ini pc (4, ia, ib, iz, its) = true) (hs : iv_s (4, ia, ib, iz, its) ls st h = some a)
    (hlt : ∀ ls2 st2 h2, a = .inl (ls2, st2, h2) → h2.1 ≤ cF)
    (kn : ∀ ls2 st2 h2, a = .inl (ls2, st2, h2) → iv_W p l e R s m args below meth c Q g nL c0 cF (pc + iv_len (4, ia, ib, iz, its)) ls2 st2 h2)
    (kj : ∀ pc2 ls2 st2 h2, a = .inr (.inl (pc2, ls2, st2, h2)) → iv_W p l e R s m args below meth c Q g nL c0 cF pc2 ls2 st2 h2)
    (kr : ∀ r h2, a = .inr (.inr (.inl (r, h2))) → (4 = 63 ∨ 4 = 64 ∨ 4 = 65) → iv_W p l e R s m args below meth c Q g nL c0 cF pc ls st h)
    (kc : ∀ y as ls2 st2 h2, a = .inr (.inr (.inr (y, as, ls2, st2, h2))) → ∃ d rv h', D = d + 1 ∧ iv_Met g l (iv_yn y).1 (iv_yw (iv_yn y)) d as h2 rv h' ∧ h'.1 ≤ cF ∧ iv_W p l e R s m args below meth c Q g nL c0 cF (pc + iv_len (4, ia, ib, iz, its)) ls2 (rv.toList ++ st2) h') : iv_W p l e R s m args below meth c Q g nL c0 cF pc ls st h := by
  obtain ⟨hx, hb, hml, hown, hts, hT, hV, hsz, hc8, hcF, hRm, ⟨hRf, hRl⟩, hsh, hin⟩ := Cx
  have h2 := Bool.and_eq_true_iff.mp hck
  exact iv_c4 (i := (4, ia, ib, iz, its)) hx hb hown (hts _ (hT _ (iv_cst_in _ (List.mem_map.mpr ⟨_, of_decide_eq_true h2.2, rfl⟩)))) (of_decide_eq_true h2.1) hs kn
set_option maxHeartbeats 1000000 in
theorem iv_d5 {ia ib : Nat} {iz : Int} {its : List Nat} (Cx : iv_Cx p m c s args R meth g nL c0 cF D o ini bs Ts) (hck : iv_ck bs o rt ini pc (5, ia, ib, iz, its) = true) (hs : iv_s (5, ia, ib, iz, its) ls st h = some a)
    (hlt : ∀ ls2 st2 h2, a = .inl (ls2, st2, h2) → h2.1 ≤ cF)
    (kn : ∀ ls2 st2 h2, a = .inl (ls2, st2, h2) → iv_W p l e R s m args below meth c Q g nL c0 cF (pc + iv_len (5, ia, ib, iz, its)) ls2 st2 h2)
    (kj : ∀ pc2 ls2 st2 h2, a = .inr (.inl (pc2, ls2, st2, h2)) → iv_W p l e R s m args below meth c Q g nL c0 cF pc2 ls2 st2 h2)
    (kr : ∀ r h2, a = .inr (.inr (.inl (r, h2))) → (5 = 63 ∨ 5 = 64 ∨ 5 = 65) → iv_W p l e R s m args below meth c Q g nL c0 cF pc ls st h)
    (kc : ∀ y as ls2 st2 h2, a = .inr (.inr (.inr (y, as, ls2, st2, h2))) → ∃ d rv h', D = d + 1 ∧ iv_Met g l (iv_yn y).1 (iv_yw (iv_yn y)) d as h2 rv h' ∧ h'.1 ≤ cF ∧ iv_W p l e R s m args below meth c Q g nL c0 cF (pc + iv_len (5, ia, ib, iz, its)) ls2 (rv.toList ++ st2) h') : iv_W p l e R s m args below meth c Q g nL c0 cF pc ls st h := by
  obtain ⟨hx, hb, hml, hown, hts, hT, hV, hsz, hc8, hcF, hRm, ⟨hRf, hRl⟩, hsh, hin⟩ := Cx
  rcases Bool.or_eq_true_iff.mp hck with h2 | h2
  · have h3 := Bool.and_eq_true_iff.mp h2
    have e5 : iz = 0 := of_decide_eq_true h3.1
    subst e5
    exact iv_c5 (i := (5, ia, ib, 0, its)) (k5 := 0) hx hb rfl (of_decide_eq_true h3.2) hs kn
  · have h3 := Bool.and_eq_true_iff.mp h2
    have e5 : iz = 1 := of_decide_eq_true h3.1
    subst e5
    exact iv_c5 (i := (5, ia, ib, 1, its)) (k5 := 1) hx hb rfl (of_decide_eq_true h3.2) hs kn
set_option maxHeartbeats 1000000 in
theorem iv_d6 {ia ib : Nat} {iz : Int} {its : List Nat} (Cx : iv_Cx p m c s args R meth g nL c0 cF D o ini bs Ts) (hck : iv_ck bs o rt ini pc (6, ia, ib, iz, its) = true) (hs : iv_s (6, ia, ib, iz, its) ls st h = some a)
    (hlt : ∀ ls2 st2 h2, a = .inl (ls2, st2, h2) → h2.1 ≤ cF)
    (kn : ∀ ls2 st2 h2, a = .inl (ls2, st2, h2) → iv_W p l e R s m args below meth c Q g nL c0 cF (pc + iv_len (6, ia, ib, iz, its)) ls2 st2 h2)
    (kj : ∀ pc2 ls2 st2 h2, a = .inr (.inl (pc2, ls2, st2, h2)) → iv_W p l e R s m args below meth c Q g nL c0 cF pc2 ls2 st2 h2)
    (kr : ∀ r h2, a = .inr (.inr (.inl (r, h2))) → (6 = 63 ∨ 6 = 64 ∨ 6 = 65) → iv_W p l e R s m args below meth c Q g nL c0 cF pc ls st h)
    (kc : ∀ y as ls2 st2 h2, a = .inr (.inr (.inr (y, as, ls2, st2, h2))) → ∃ d rv h', D = d + 1 ∧ iv_Met g l (iv_yn y).1 (iv_yw (iv_yn y)) d as h2 rv h' ∧ h'.1 ≤ cF ∧ iv_W p l e R s m args below meth c Q g nL c0 cF (pc + iv_len (6, ia, ib, iz, its)) ls2 (rv.toList ++ st2) h') : iv_W p l e R s m args below meth c Q g nL c0 cF pc ls st h := by
  obtain ⟨hx, hb, hml, hown, hts, hT, hV, hsz, hc8, hcF, hRm, ⟨hRf, hRl⟩, hsh, hin⟩ := Cx
  have h2 := Bool.and_eq_true_iff.mp hck
  exact iv_c6 (i := (6, ia, ib, iz, its)) hx hb hown (hts _ (hT _ (iv_clt_in _ (List.mem_map.mpr ⟨_, of_decide_eq_true h2.2, rfl⟩)))) (of_decide_eq_true h2.1) hs kn
set_option maxHeartbeats 1000000 in
theorem iv_d7 {ia ib : Nat} {iz : Int} {its : List Nat} (Cx : iv_Cx p m c s args R meth g nL c0 cF D o ini bs Ts) (hck : iv_ck bs o rt ini pc (7, ia, ib, iz, its) = true) (hs : iv_s (7, ia, ib, iz, its) ls st h = some a)
    (hlt : ∀ ls2 st2 h2, a = .inl (ls2, st2, h2) → h2.1 ≤ cF)
    (kn : ∀ ls2 st2 h2, a = .inl (ls2, st2, h2) → iv_W p l e R s m args below meth c Q g nL c0 cF (pc + iv_len (7, ia, ib, iz, its)) ls2 st2 h2)
    (kj : ∀ pc2 ls2 st2 h2, a = .inr (.inl (pc2, ls2, st2, h2)) → iv_W p l e R s m args below meth c Q g nL c0 cF pc2 ls2 st2 h2)
    (kr : ∀ r h2, a = .inr (.inr (.inl (r, h2))) → (7 = 63 ∨ 7 = 64 ∨ 7 = 65) → iv_W p l e R s m args below meth c Q g nL c0 cF pc ls st h)
    (kc : ∀ y as ls2 st2 h2, a = .inr (.inr (.inr (y, as, ls2, st2, h2))) → ∃ d rv h', D = d + 1 ∧ iv_Met g l (iv_yn y).1 (iv_yw (iv_yn y)) d as h2 rv h' ∧ h'.1 ≤ cF ∧ iv_W p l e R s m args below meth c Q g nL c0 cF (pc + iv_len (7, ia, ib, iz, its)) ls2 (rv.toList ++ st2) h') : iv_W p l e R s m args below meth c Q g nL c0 cF pc ls st h := by
  obtain ⟨hx, hb, hml, hown, hts, hT, hV, hsz, hc8, hcF, hRm, ⟨hRf, hRl⟩, hsh, hin⟩ := Cx
  have h2 := Bool.and_eq_true_iff.mp hck
  obtain ⟨tx, htx⟩ := iv_st_in _ (of_decide_eq_true h2.2)
  exact iv_c7 (i := (7, ia, ib, iz, its)) hx hb hown (hV.2.2.1 _ htx) (of_decide_eq_true h2.1) hs kn
set_option maxHeartbeats 1000000 in
theorem iv_d8 {ia ib : Nat} {iz : Int} {its : List Nat} (Cx : iv_Cx p m c s args R meth g nL c0 cF D o ini bs Ts) (hck : iv_ck bs o rt ini pc (8, ia, ib, iz, its) = true) (hs : iv_s (8, ia, ib, iz, its) ls st h = some a)
    (hlt : ∀ ls2 st2 h2, a = .inl (ls2, st2, h2) → h2.1 ≤ cF)
    (kn : ∀ ls2 st2 h2, a = .inl (ls2, st2, h2) → iv_W p l e R s m args below meth c Q g nL c0 cF (pc + iv_len (8, ia, ib, iz, its)) ls2 st2 h2)
    (kj : ∀ pc2 ls2 st2 h2, a = .inr (.inl (pc2, ls2, st2, h2)) → iv_W p l e R s m args below meth c Q g nL c0 cF pc2 ls2 st2 h2)
    (kr : ∀ r h2, a = .inr (.inr (.inl (r, h2))) → (8 = 63 ∨ 8 = 64 ∨ 8 = 65) → iv_W p l e R s m args below meth c Q g nL c0 cF pc ls st h)
    (kc : ∀ y as ls2 st2 h2, a = .inr (.inr (.inr (y, as, ls2, st2, h2))) → ∃ d rv h', D = d + 1 ∧ iv_Met g l (iv_yn y).1 (iv_yw (iv_yn y)) d as h2 rv h' ∧ h'.1 ≤ cF ∧ iv_W p l e R s m args below meth c Q g nL c0 cF (pc + iv_len (8, ia, ib, iz, its)) ls2 (rv.toList ++ st2) h') : iv_W p l e R s m args below meth c Q g nL c0 cF pc ls st h := by
  obtain ⟨hx, hb, hml, hown, hts, hT, hV, hsz, hc8, hcF, hRm, ⟨hRf, hRl⟩, hsh, hin⟩ := Cx
  have hck2 : (if ib = 1 then _ else _) = true := hck
  by_cases e1 : ib = 1
  · rw [if_pos e1] at hck2
    have h3 := Bool.and_eq_true_iff.mp hck2
    subst e1
    exact iv_c8n  (k4 := iv_f4 ia) hx hb (Nat.mod_eq_of_lt (of_decide_eq_true h3.1)) (of_decide_eq_true h3.2) hs kn
  · rw [if_neg e1] at hck2
    have h3 := Bool.and_eq_true_iff.mp hck2
    have e2 : ib = 2 := of_decide_eq_true h3.1
    subst e2
    exact iv_c8  hx hb (of_decide_eq_true h3.2) hs kn
set_option maxHeartbeats 1000000 in
theorem iv_d9 {ia ib : Nat} {iz : Int} {its : List Nat} (Cx : iv_Cx p m c s args R meth g nL c0 cF D o ini bs Ts) (hck : iv_ck bs o rt ini pc (9, ia, ib, iz, its) = true) (hs : iv_s (9, ia, ib, iz, its) ls st h = some a)
    (hlt : ∀ ls2 st2 h2, a = .inl (ls2, st2, h2) → h2.1 ≤ cF)
    (kn : ∀ ls2 st2 h2, a = .inl (ls2, st2, h2) → iv_W p l e R s m args below meth c Q g nL c0 cF (pc + iv_len (9, ia, ib, iz, its)) ls2 st2 h2)
    (kj : ∀ pc2 ls2 st2 h2, a = .inr (.inl (pc2, ls2, st2, h2)) → iv_W p l e R s m args below meth c Q g nL c0 cF pc2 ls2 st2 h2)
    (kr : ∀ r h2, a = .inr (.inr (.inl (r, h2))) → (9 = 63 ∨ 9 = 64 ∨ 9 = 65) → iv_W p l e R s m args below meth c Q g nL c0 cF pc ls st h)
    (kc : ∀ y as ls2 st2 h2, a = .inr (.inr (.inr (y, as, ls2, st2, h2))) → ∃ d rv h', D = d + 1 ∧ iv_Met g l (iv_yn y).1 (iv_yw (iv_yn y)) d as h2 rv h' ∧ h'.1 ≤ cF ∧ iv_W p l e R s m args below meth c Q g nL c0 cF (pc + iv_len (9, ia, ib, iz, its)) ls2 (rv.toList ++ st2) h') : iv_W p l e R s m args below meth c Q g nL c0 cF pc ls st h := by
  obtain ⟨hx, hb, hml, hown, hts, hT, hV, hsz, hc8, hcF, hRm, ⟨hRf, hRl⟩, hsh, hin⟩ := Cx
  have hck2 : (if ib = 1 then _ else _) = true := hck
  by_cases e1 : ib = 1
  · rw [if_pos e1] at hck2
    have h3 := Bool.and_eq_true_iff.mp hck2
    subst e1
    exact iv_c9n  (k4 := iv_f4 ia) hx hb (Nat.mod_eq_of_lt (of_decide_eq_true h3.1)) (of_decide_eq_true h3.2) hs kn
  · rw [if_neg e1] at hck2
    have h3 := Bool.and_eq_true_iff.mp hck2
    have e2 : ib = 2 := of_decide_eq_true h3.1
    subst e2
    exact iv_c9  hx hb (of_decide_eq_true h3.2) hs kn
set_option maxHeartbeats 1000000 in
theorem iv_d10 {ia ib : Nat} {iz : Int} {its : List Nat} (Cx : iv_Cx p m c s args R meth g nL c0 cF D o ini bs Ts) (hck : iv_ck bs o rt ini pc (10, ia, ib, iz, its) = true) (hs : iv_s (10, ia, ib, iz, its) ls st h = some a)
    (hlt : ∀ ls2 st2 h2, a = .inl (ls2, st2, h2) → h2.1 ≤ cF)
    (kn : ∀ ls2 st2 h2, a = .inl (ls2, st2, h2) → iv_W p l e R s m args below meth c Q g nL c0 cF (pc + iv_len (10, ia, ib, iz, its)) ls2 st2 h2)
    (kj : ∀ pc2 ls2 st2 h2, a = .inr (.inl (pc2, ls2, st2, h2)) → iv_W p l e R s m args below meth c Q g nL c0 cF pc2 ls2 st2 h2)
    (kr : ∀ r h2, a = .inr (.inr (.inl (r, h2))) → (10 = 63 ∨ 10 = 64 ∨ 10 = 65) → iv_W p l e R s m args below meth c Q g nL c0 cF pc ls st h)
    (kc : ∀ y as ls2 st2 h2, a = .inr (.inr (.inr (y, as, ls2, st2, h2))) → ∃ d rv h', D = d + 1 ∧ iv_Met g l (iv_yn y).1 (iv_yw (iv_yn y)) d as h2 rv h' ∧ h'.1 ≤ cF ∧ iv_W p l e R s m args below meth c Q g nL c0 cF (pc + iv_len (10, ia, ib, iz, its)) ls2 (rv.toList ++ st2) h') : iv_W p l e R s m args below meth c Q g nL c0 cF pc ls st h := by
  obtain ⟨hx, hb, hml, hown, hts, hT, hV, hsz, hc8, hcF, hRm, ⟨hRf, hRl⟩, hsh, hin⟩ := Cx
  have hck2 : (if ib = 1 then _ else _) = true := hck
  by_cases e1 : ib = 1
  · rw [if_pos e1] at hck2
    have h3 := Bool.and_eq_true_iff.mp hck2
    subst e1
    exact iv_c10n  (k4 := iv_f4 ia) hx hb (Nat.mod_eq_of_lt (of_decide_eq_true h3.1)) (of_decide_eq_true h3.2) hs kn
  · rw [if_neg e1] at hck2
    have h3 := Bool.and_eq_true_iff.mp hck2
    have e2 : ib = 2 := of_decide_eq_true h3.1
    subst e2
    exact iv_c10  hx hb (of_decide_eq_true h3.2) hs kn
set_option maxHeartbeats 1000000 in
theorem iv_d11 {ia ib : Nat} {iz : Int} {its : List Nat} (Cx : iv_Cx p m c s args R meth g nL c0 cF D o ini bs Ts) (hck : iv_ck bs o rt ini pc (11, ia, ib, iz, its) = true) (hs : iv_s (11, ia, ib, iz, its) ls st h = some a)
    (hlt : ∀ ls2 st2 h2, a = .inl (ls2, st2, h2) → h2.1 ≤ cF)
    (kn : ∀ ls2 st2 h2, a = .inl (ls2, st2, h2) → iv_W p l e R s m args below meth c Q g nL c0 cF (pc + iv_len (11, ia, ib, iz, its)) ls2 st2 h2)
    (kj : ∀ pc2 ls2 st2 h2, a = .inr (.inl (pc2, ls2, st2, h2)) → iv_W p l e R s m args below meth c Q g nL c0 cF pc2 ls2 st2 h2)
    (kr : ∀ r h2, a = .inr (.inr (.inl (r, h2))) → (11 = 63 ∨ 11 = 64 ∨ 11 = 65) → iv_W p l e R s m args below meth c Q g nL c0 cF pc ls st h)
    (kc : ∀ y as ls2 st2 h2, a = .inr (.inr (.inr (y, as, ls2, st2, h2))) → ∃ d rv h', D = d + 1 ∧ iv_Met g l (iv_yn y).1 (iv_yw (iv_yn y)) d as h2 rv h' ∧ h'.1 ≤ cF ∧ iv_W p l e R s m args below meth c Q g nL c0 cF (pc + iv_len (11, ia, ib, iz, its)) ls2 (rv.toList ++ st2) h') : iv_W p l e R s m args below meth c Q g nL c0 cF pc ls st h := by
  obtain ⟨hx, hb, hml, hown, hts, hT, hV, hsz, hc8, hcF, hRm, ⟨hRf, hRl⟩, hsh, hin⟩ := Cx
  have hck2 : (if ib = 1 then _ else _) = true := hck
  by_cases e1 : ib = 1
  · rw [if_pos e1] at hck2
    have h3 := Bool.and_eq_true_iff.mp hck2
    subst e1
    exact iv_c11n  (k4 := iv_f4 ia) hx hb (Nat.mod_eq_of_lt (of_decide_eq_true h3.1)) (of_decide_eq_true h3.2) hs kn
  · rw [if_neg e1] at hck2
    have h3 := Bool.and_eq_true_iff.mp hck2
    have e2 : ib = 2 := of_decide_eq_true h3.1
    subst e2
    exact iv_c11  hx hb (of_decide_eq_true h3.2) hs kn
set_option maxHeartbeats 1000000 in
theorem iv_d12 {ia ib : Nat} {iz : Int} {its : List Nat} (Cx : iv_Cx p m c s args R meth g nL c0 cF D o ini bs Ts) (hck : iv_ck bs o rt ini pc (12, ia, ib, iz, its) = true) (hs : iv_s (12, ia, ib, iz, its) ls st h = some a)
    (hlt : ∀ ls2 st2 h2, a = .inl (ls2, st2, h2) → h2.1 ≤ cF)
    (kn : ∀ ls2 st2 h2, a = .inl (ls2, st2, h2) → iv_W p l e R s m args below meth c Q g nL c0 cF (pc + iv_len (12, ia, ib, iz, its)) ls2 st2 h2)
    (kj : ∀ pc2 ls2 st2 h2, a = .inr (.inl (pc2, ls2, st2, h2)) → iv_W p l e R s m args below meth c Q g nL c0 cF pc2 ls2 st2 h2)
    (kr : ∀ r h2, a = .inr (.inr (.inl (r, h2))) → (12 = 63 ∨ 12 = 64 ∨ 12 = 65) → iv_W p l e R s m args below meth c Q g nL c0 cF pc ls st h)
    (kc : ∀ y as ls2 st2 h2, a = .inr (.inr (.inr (y, as, ls2, st2, h2))) → ∃ d rv h', D = d + 1 ∧ iv_Met g l (iv_yn y).1 (iv_yw (iv_yn y)) d as h2 rv h' ∧ h'.1 ≤ cF ∧ iv_W p l e R s m args below meth c Q g nL c0 cF (pc + iv_len (12, ia, ib, iz, its)) ls2 (rv.toList ++ st2) h') : iv_W p l e R s m args below meth c Q g nL c0 cF pc ls st h := by
  obtain ⟨hx, hb, hml, hown, hts, hT, hV, hsz, hc8, hcF, hRm, ⟨hRf, hRl⟩, hsh, hin⟩ := Cx
  have hck2 : (if ib = 1 then _ else _) = true := hck
  by_cases e1 : ib = 1
  · rw [if_pos e1] at hck2
    have h3 := Bool.and_eq_true_iff.mp hck2
    subst e1
    exact iv_c12n  (k4 := iv_f4 ia) hx hb (Nat.mod_eq_of_lt (of_decide_eq_true h3.1)) (of_decide_eq_true h3.2) hs kn
  · rw [if_neg e1] at hck2
    have h3 := Bool.and_eq_true_iff.mp hck2
    have e2 : ib = 2 := of_decide_eq_true h3.1
    subst e2
    exact iv_c12  hx hb (of_decide_eq_true h3.2) hs kn
set_option maxHeartbeats 1000000 in
theorem iv_d13 {ia ib : Nat} {iz : Int} {its : List Nat} (Cx : iv_Cx p m c s args R meth g nL c0 cF D o ini bs Ts) (hck : iv_ck bs o rt ini pc (13, ia, ib, iz, its) = true) (hs : iv_s (13, ia, ib, iz, its) ls st h = some a)
    (hlt : ∀ ls2 st2 h2, a = .inl (ls2, st2, h2) → h2.1 ≤ cF)
    (kn : ∀ ls2 st2 h2, a = .inl (ls2, st2, h2) → iv_W p l e R s m args below meth c Q g nL c0 cF (pc + iv_len (13, ia, ib, iz, its)) ls2 st2 h2)
    (kj : ∀ pc2 ls2 st2 h2, a = .inr (.inl (pc2, ls2, st2, h2)) → iv_W p l e R s m args below meth c Q g nL c0 cF pc2 ls2 st2 h2)
    (kr : ∀ r h2, a = .inr (.inr (.inl (r, h2))) → (13 = 63 ∨ 13 = 64 ∨ 13 = 65) → iv_W p l e R s m args below meth c Q g nL c0 cF pc ls st h)
    (kc : ∀ y as ls2 st2 h2, a = .inr (.inr (.inr (y, as, ls2, st2, h2))) → ∃ d rv h', D = d + 1 ∧ iv_Met g l (iv_yn y).1 (iv_yw (iv_yn y)) d as h2 rv h' ∧ h'.1 ≤ cF ∧ iv_W p l e R s m args below meth c Q g nL c0 cF (pc + iv_len (13, ia, ib, iz, its)) ls2 (rv.toList ++ st2) h') : iv_W p l e R s m args below meth c Q g nL c0 cF pc ls st h := by
  obtain ⟨hx, hb, hml, hown, hts, hT, hV, hsz, hc8, hcF, hRm, ⟨hRf, hRl⟩, hsh, hin⟩ := Cx
  have hck2 : (if ib = 1 then _ else _) = true := hck
  by_cases e1 : ib = 1
  · rw [if_pos e1] at hck2
    have h3 := Bool.and_eq_true_iff.mp hck2
    subst e1
    exact iv_c13n  (k4 := iv_f4 ia) hx hb (Nat.mod_eq_of_lt (of_decide_eq_true h3.1)) (of_decide_eq_true h3.2) hs kn
  · rw [if_neg e1] at hck2
    have h3 := Bool.and_eq_true_iff.mp hck2
    have e2 : ib = 2 := of_decide_eq_true h3.1
    subst e2
    exact iv_c13  hx hb (of_decide_eq_true h3.2) hs kn
set_option maxHeartbeats 1000000 in
theorem iv_d14 {ia ib : Nat} {iz : Int} {its : List Nat} (Cx : iv_Cx p m c s args R meth g nL c0 cF D o ini bs Ts) (hck : iv_ck bs o rt ini pc (14, ia, ib, iz, its) = true) (hs : iv_s (14, ia, ib, iz, its) ls st h = some a)
    (hlt : ∀ ls2 st2 h2, a = .inl (ls2, st2, h2) → h2.1 ≤ cF)
    (kn : ∀ ls2 st2 h2, a = .inl (ls2, st2, h2) → iv_W p l e R s m args below meth c Q g nL c0 cF (pc + iv_len (14, ia, ib, iz, its)) ls2 st2 h2)
    (kj : ∀ pc2 ls2 st2 h2, a = .inr (.inl (pc2, ls2, st2, h2)) → iv_W p l e R s m args below meth c Q g nL c0 cF pc2 ls2 st2 h2)
    (kr : ∀ r h2, a = .inr (.inr (.inl (r, h2))) → (14 = 63 ∨ 14 = 64 ∨ 14 = 65) → iv_W p l e R s m args below meth c Q g nL c0 cF pc ls st h)
    (kc : ∀ y as ls2 st2 h2, a = .inr (.inr (.inr (y, as, ls2, st2, h2))) → ∃ d rv h', D = d + 1 ∧ iv_Met g l (iv_yn y).1 (iv_yw (iv_yn y)) d as h2 rv h' ∧ h'.1 ≤ cF ∧ iv_W p l e R s m args below meth c Q g nL c0 cF (pc + iv_len (14, ia, ib, iz, its)) ls2 (rv.toList ++ st2) h') : iv_W p l e R s m args below meth c Q g nL c0 cF pc ls st h := by
  obtain ⟨hx, hb, hml, hown, hts, hT, hV, hsz, hc8, hcF, hRm, ⟨hRf, hRl⟩, hsh, hin⟩ := Cx
  exact iv_c14 (i := (14, ia, ib, iz, its)) hx hb (of_decide_eq_true hck) hs kn
set_option maxHeartbeats 1000000 in
theorem iv_d15 {ia ib : Nat} {iz : Int} {its : List Nat} (Cx : iv_Cx p m c s args R meth g nL c0 cF D o ini bs Ts) (hck : iv_ck bs o rt ini pc (15, ia, ib, iz, its) = true) (hs : iv_s (15, ia, ib, iz, its) ls st h = some a)
    (hlt : ∀ ls2 st2 h2, a = .inl (ls2, st2, h2) → h2.1 ≤ cF)
    (kn : ∀ ls2 st2 h2, a = .inl (ls2, st2, h2) → iv_W p l e R s m args below meth c Q g nL c0 cF (pc + iv_len (15, ia, ib, iz, its)) ls2 st2 h2)
    (kj : ∀ pc2 ls2 st2 h2, a = .inr (.inl (pc2, ls2, st2, h2)) → iv_W p l e R s m args below meth c Q g nL c0 cF pc2 ls2 st2 h2)
    (kr : ∀ r h2, a = .inr (.inr (.inl (r, h2))) → (15 = 63 ∨ 15 = 64 ∨ 15 = 65) → iv_W p l e R s m args below meth c Q g nL c0 cF pc ls st h)
    (kc : ∀ y as ls2 st2 h2, a = .inr (.inr (.inr (y, as, ls2, st2, h2))) → ∃ d rv h', D = d + 1 ∧ iv_Met g l (iv_yn y).1 (iv_yw (iv_yn y)) d as h2 rv h' ∧ h'.1 ≤ cF ∧ iv_W p l e R s m args below meth c Q g nL c0 cF (pc + iv_len (15, ia, ib, iz, its)) ls2 (rv.toList ++ st2) h') : iv_W p l e R s m args below meth c Q g nL c0 cF pc ls st h := by
  obtain ⟨hx, hb, hml, hown, hts, hT, hV, hsz, hc8, hcF, hRm, ⟨hRf, hRl⟩, hsh, hin⟩ := Cx
  exact iv_c15 (i := (15, ia, ib, iz, its)) hx hb (of_decide_eq_true hck) hs kn
set_option maxHeartbeats 1000000 in
theorem iv_d16 {ia ib : Nat} {iz : Int} {its : List Nat} (Cx : iv_Cx p m c s args R meth g nL c0 cF D o ini bs Ts) (hck : iv_ck bs o rt ini pc (16, ia, ib, iz, its) = true) (hs : iv_s (16, ia, ib, iz, its) ls st h = some a)
    (hlt : ∀ ls2 st2 h2, a = .inl (ls2, st2, h2) → h2.1 ≤ cF)
    (kn : ∀ ls2 st2 h2, a = .inl (ls2, st2, h2) → iv_W p l e R s m args below meth c Q g nL c0 cF (pc + iv_len (16, ia, ib, iz, its)) ls2 st2 h2)
    (kj : ∀ pc2 ls2 st2 h2, a = .inr (.inl (pc2, ls2, st2, h2)) → iv_W p l e R s m args below meth c Q g nL c0 cF pc2 ls2 st2 h2)
    (kr : ∀ r h2, a = .inr (.inr (.inl (r, h2))) → (16 = 63 ∨ 16 = 64 ∨ 16 = 65) → iv_W p l e R s m args below meth c Q g nL c0 cF pc ls st h)
    (kc : ∀ y as ls2 st2 h2, a = .inr (.inr (.inr (y, as, ls2, st2, h2))) → ∃ d rv h', D = d + 1 ∧ iv_Met g l (iv_yn y).1 (iv_yw (iv_yn y)) d as h2 rv h' ∧ h'.1 ≤ cF ∧ iv_W p l e R s m args below meth c Q g nL c0 cF (pc + iv_len (16, ia, ib, iz, its)) ls2 (rv.toList ++ st2) h') : iv_W p l e R s m args below meth c Q g nL c0 cF pc ls st h := by
  obtain ⟨hx, hb, hml, hown, hts, hT, hV, hsz, hc8, hcF, hRm, ⟨hRf, hRl⟩, hsh, hin⟩ := Cx
  exact iv_c16 (i := (16, ia, ib, iz, its)) hx hb (of_decide_eq_true hck) hs kn
set_option maxHeartbeats 1000000 in
theorem iv_d17 {ia ib : Nat} {iz : Int} {its : List Nat} (Cx : iv_Cx p m c s args R meth g nL c0 cF D o ini bs Ts) (hck : iv_ck bs o rt ini pc (17, ia, ib, iz, its) = true) (hs : iv_s (17, ia, ib, iz, its) ls st h = some a)
    (hlt : ∀ ls2 st2 h2, a = .inl (ls2, st2, h2) → h2.1 ≤ cF)
    (kn : ∀ ls2 st2 h2, a = .inl (ls2, st2, h2) → iv_W p l e R s m args below meth c Q g nL c0 cF (pc + iv_len (17, ia, ib, iz, its)) ls2 st2 h2)
    (kj : ∀ pc2 ls2 st2 h2, a = .inr (.inl (pc2, ls2, st2, h2)) → iv_W p l e R s m args below meth c Q g nL c0 cF pc2 ls2 st2 h2)
    (kr : ∀ r h2, a = .inr (.inr (.inl (r, h2))) → (17 = 63 ∨ 17 = 64 ∨ 17 = 65) → iv_W p l e R s m args below meth c Q g nL c0 cF pc ls st h)
    (kc : ∀ y as ls2 st2 h2, a = .inr (.inr (.inr (y, as, ls2, st2, h2))) → ∃ d rv h', D = d + 1 ∧ iv_Met g l (iv_yn y).1 (iv_yw (iv_yn y)) d as h2 rv h' ∧ h'.1 ≤ cF ∧ iv_W p l e R s m args below meth c Q g nL c0 cF (pc + iv_len (17, ia, ib, iz, its)) ls2 (rv.toList ++ st2) h') : iv_W p l e R s m args below meth c Q g nL c0 cF pc ls st h := by
  obtain ⟨hx, hb, hml, hown, hts, hT, hV, hsz, hc8, hcF, hRm, ⟨hRf, hRl⟩, hsh, hin⟩ := Cx
  exact iv_c17 (i := (17, ia, ib, iz, its)) hx hb (of_decide_eq_true hck) hs kn
set_option maxHeartbeats 1000000 in
theorem iv_d18 {ia ib : Nat} {iz : Int} {its : List Nat} (Cx : iv_Cx p m c s args R meth g nL c0 cF D o ini bs Ts) (hck : iv_ck bs o rt ini pc (18, ia, ib, iz, its) = true) (hs : iv_s (18, ia, ib, iz, its) ls st h = some a)
    (hlt : ∀ ls2 st2 h2, a = .inl (ls2, st2, h2) → h2.1 ≤ cF)
    (kn : ∀ ls2 st2 h2, a = .inl (ls2, st2, h2) → iv_W p l e R s m args below meth c Q g nL c0 cF (pc + iv_len (18, ia, ib, iz, its)) ls2 st2 h2)
    (kj : ∀ pc2 ls2 st2 h2, a = .inr (.inl (pc2, ls2, st2, h2)) → iv_W p l e R s m args below meth c Q g nL c0 cF pc2 ls2 st2 h2)
    (kr : ∀ r h2, a = .inr (.inr (.inl (r, h2))) → (18 = 63 ∨ 18 = 64 ∨ 18 = 65) → iv_W p l e R s m args below meth c Q g nL c0 cF pc ls st h)
    (kc : ∀ y as ls2 st2 h2, a = .inr (.inr (.inr (y, as, ls2, st2, h2))) → ∃ d rv h', D = d + 1 ∧ iv_Met g l (iv_yn y).1 (iv_yw (iv_yn y)) d as h2 rv h' ∧ h'.1 ≤ cF ∧ iv_W p l e R s m args below meth c Q g nL c0 cF (pc + iv_len (18, ia, ib, iz, its)) ls2 (rv.toList ++ st2) h') : iv_W p l e R s m args below meth c Q g nL c0 cF pc ls st h := by
  obtain ⟨hx, hb, hml, hown, hts, hT, hV, hsz, hc8, hcF, hRm, ⟨hRf, hRl⟩, hsh, hin⟩ := Cx
  exact iv_c18 (i := (18, ia, ib, iz, its)) hx hb (of_decide_eq_true hck) hs kn
set_option maxHeartbeats 1000000 in
theorem iv_d19 {ia ib : Nat} {iz : Int} {its : List Nat} (Cx : iv_Cx p m c s args R meth g nL c0 cF D o ini bs Ts) (hck : iv_ck bs o rt ini pc (19, ia, ib, iz, its) = true) (hs : iv_s (19, ia, ib, iz, its) ls st h = some a)
    (hlt : ∀ ls2 st2 h2, a = .inl (ls2, st2, h2) → h2.1 ≤ cF)
    (kn : ∀ ls2 st2 h2, a = .inl (ls2, st2, h2) → iv_W p l e R s m args below meth c Q g nL c0 cF (pc + iv_len (19, ia, ib, iz, its)) ls2 st2 h2)
    (kj : ∀ pc2 ls2 st2 h2, a = .inr (.inl (pc2, ls2, st2, h2)) → iv_W p l e R s m args below meth c Q g nL c0 cF pc2 ls2 st2 h2)
    (kr : ∀ r h2, a = .inr (.inr (.inl (r, h2))) → (19 = 63 ∨ 19 = 64 ∨ 19 = 65) → iv_W p l e R s m args below meth c Q g nL c0 cF pc ls st h)
    (kc : ∀ y as ls2 st2 h2, a = .inr (.inr (.inr (y, as, ls2, st2, h2))) → ∃ d rv h', D = d + 1 ∧ iv_Met g l (iv_yn y).1 (iv_yw (iv_yn y)) d as h2 rv h' ∧ h'.1 ≤ cF ∧ iv_W p l e R s m args below meth c Q g nL c0 cF (pc + iv_len (19, ia, ib, iz, its)) ls2 (rv.toList ++ st2) h') : iv_W p l e R s m args below meth c Q g nL c0 cF pc ls st h := by
  obtain ⟨hx, hb, hml, hown, hts, hT, hV, hsz, hc8, hcF, hRm, ⟨hRf, hRl⟩, hsh, hin⟩ := Cx
  exact iv_c19 (i := (19, ia, ib, iz, its)) hx hb (of_decide_eq_true hck) hs kn
set_option maxHeartbeats 1000000 in
theorem iv_d20 {ia ib : Nat} {iz : Int} {its : List Nat} (Cx : iv_Cx p m c s args R meth g nL c0 cF D o ini bs Ts) (hck : iv_ck bs o rt ini pc (20, ia, ib, iz, its) = true) (hs : iv_s (20, ia, ib, iz, its) ls st h = some a)
    (hlt : ∀ ls2 st2 h2, a = .inl (ls2, st2, h2) → h2.1 ≤ cF)
    (kn : ∀ ls2 st2 h2, a = .inl (ls2, st2, h2) → iv_W p l e R s m args below meth c Q g nL c0 cF (pc + iv_len (20, ia, ib, iz, its)) ls2 st2 h2)
    (kj : ∀ pc2 ls2 st2 h2, a = .inr (.inl (pc2, ls2, st2, h2)) → iv_W p l e R s m args below meth c Q g nL c0 cF pc2 ls2 st2 h2)
    (kr : ∀ r h2, a = .inr (.inr (.inl (r, h2))) → (20 = 63 ∨ 20 = 64 ∨ 20 = 65) → iv_W p l e R s m args below meth c Q g nL c0 cF pc ls st h)
    (kc : ∀ y as ls2 st2 h2, a = .inr (.inr (.inr (y, as, ls2, st2, h2))) → ∃ d rv h', D = d + 1 ∧ iv_Met g l (iv_yn y).1 (iv_yw (iv_yn y)) d as h2 rv h' ∧ h'.1 ≤ cF ∧ iv_W p l e R s m args below meth c Q g nL c0 cF (pc + iv_len (20, ia, ib, iz, its)) ls2 (rv.toList ++ st2) h') : iv_W p l e R s m args below meth c Q g nL c0 cF pc ls st h := by
  obtain ⟨hx, hb, hml, hown, hts, hT, hV, hsz, hc8, hcF, hRm, ⟨hRf, hRl⟩, hsh, hin⟩ := Cx
  exact iv_c20 (i := (20, ia, ib, iz, its)) hx hb (of_decide_eq_true hck) hs kn
set_option maxHeartbeats 1000000 in
theorem iv_d21 {ia ib : Nat} {iz : Int} {its : List Nat} (Cx : iv_Cx p m c s args R meth g nL c0 cF D o ini bs Ts) (hck : iv_ck bs o rt ini pc (21, ia, ib, iz, its) = true) (hs : iv_s (21, ia, ib, iz, its) ls st h = some a)
    (hlt : ∀ ls2 st2 h2, a = .inl (ls2, st2, h2) → h2.1 ≤ cF)
    (kn : ∀ ls2 st2 h2, a = .inl (ls2, st2, h2) → iv_W p l e R s m args below meth c Q g nL c0 cF (pc + iv_len (21, ia, ib, iz, its)) ls2 st2 h2)
    (kj : ∀ pc2 ls2 st2 h2, a = .inr (.inl (pc2, ls2, st2, h2)) → iv_W p l e R s m args below meth c Q g nL c0 cF pc2 ls2 st2 h2)
    (kr : ∀ r h2, a = .inr (.inr (.inl (r, h2))) → (21 = 63 ∨ 21 = 64 ∨ 21 = 65) → iv_W p l e R s m args below meth c Q g nL c0 cF pc ls st h)
    (kc : ∀ y as ls2 st2 h2, a = .inr (.inr (.inr (y, as, ls2, st2, h2))) → ∃ d rv h', D = d + 1 ∧ iv_Met g l (iv_yn y).1 (iv_yw (iv_yn y)) d as h2 rv h' ∧ h'.1 ≤ cF ∧ iv_W p l e R s m args below meth c Q g nL c0 cF (pc + iv_len (21, ia, ib, iz, its)) ls2 (rv.toList ++ st2) h') : iv_W p l e R s m args below meth c Q g nL c0 cF pc ls st h := by
  obtain ⟨hx, hb, hml, hown, hts, hT, hV, hsz, hc8, hcF, hRm, ⟨hRf, hRl⟩, hsh, hin⟩ := Cx
  exact iv_c21 (i := (21, ia, ib, iz, its)) hx hb (of_decide_eq_true hck) hs kn
set_option maxHeartbeats 1000000 in
theorem iv_d22 {ia ib : Nat} {iz : Int} {its : List Nat} (Cx : iv_Cx p m c s args R meth g nL c0 cF D o ini bs Ts) (hck : iv_ck bs o rt ini pc (22, ia, ib, iz, its) = true) (hs : iv_s (22, ia, ib, iz, its) ls st h = some a)
    (hlt : ∀ ls2 st2 h2, a = .inl (ls2, st2, h2) → h2.1 ≤ cF)
    (kn : ∀ ls2 st2 h2, a = .inl (ls2, st2, h2) → iv_W p l e R s m args below meth c Q g nL c0 cF (pc + iv_len (22, ia, ib, iz, its)) ls2 st2 h2)
    (kj : ∀ pc2 ls2 st2 h2, a = .inr (.inl (pc2, ls2, st2, h2)) → iv_W p l e R s m args below meth c Q g nL c0 cF pc2 ls2 st2 h2)
    (kr : ∀ r h2, a = .inr (.inr (.inl (r, h2))) → (22 = 63 ∨ 22 = 64 ∨ 22 = 65) → iv_W p l e R s m args below meth c Q g nL c0 cF pc ls st h)
    (kc : ∀ y as ls2 st2 h2, a = .inr (.inr (.inr (y, as, ls2, st2, h2))) → ∃ d rv h', D = d + 1 ∧ iv_Met g l (iv_yn y).1 (iv_yw (iv_yn y)) d as h2 rv h' ∧ h'.1 ≤ cF ∧ iv_W p l e R s m args below meth c Q g nL c0 cF (pc + iv_len (22, ia, ib, iz, its)) ls2 (rv.toList ++ st2) h') : iv_W p l e R s m args below meth c Q g nL c0 cF pc ls st h := by
  obtain ⟨hx, hb, hml, hown, hts, hT, hV, hsz, hc8, hcF, hRm, ⟨hRf, hRl⟩, hsh, hin⟩ := Cx
  exact iv_c22 (i := (22, ia, ib, iz, its)) hx hb (of_decide_eq_true hck) hs kn
set_option maxHeartbeats 1000000 in
theorem iv_d23 {ia ib : Nat} {iz : Int} {its : List Nat} (Cx : iv_Cx p m c s args R meth g nL c0 cF D o ini bs Ts) (hck : iv_ck bs o rt ini pc (23, ia, ib, iz, its) = true) (hs : iv_s (23, ia, ib, iz, its) ls st h = some a)
    (hlt : ∀ ls2 st2 h2, a = .inl (ls2, st2, h2) → h2.1 ≤ cF)
    (kn : ∀ ls2 st2 h2, a = .inl (ls2, st2, h2) → iv_W p l e R s m args below meth c Q g nL c0 cF (pc + iv_len (23, ia, ib, iz, its)) ls2 st2 h2)
    (kj : ∀ pc2 ls2 st2 h2, a = .inr (.inl (pc2, ls2, st2, h2)) → iv_W p l e R s m args below meth c Q g nL c0 cF pc2 ls2 st2 h2)
    (kr : ∀ r h2, a = .inr (.inr (.inl (r, h2))) → (23 = 63 ∨ 23 = 64 ∨ 23 = 65) → iv_W p l e R s m args below meth c Q g nL c0 cF pc ls st h)
    (kc : ∀ y as ls2 st2 h2, a = .inr (.inr (.inr (y, as, ls2, st2, h2))) → ∃ d rv h', D = d + 1 ∧ iv_Met g l (iv_yn y).1 (iv_yw (iv_yn y)) d as h2 rv h' ∧ h'.1 ≤ cF ∧ iv_W p l e R s m args below meth c Q g nL c0 cF (pc + iv_len (23, ia, ib, iz, its)) ls2 (rv.toList ++ st2) h') : iv_W p l e R s m args below meth c Q g nL c0 cF pc ls st h := by
  obtain ⟨hx, hb, hml, hown, hts, hT, hV, hsz, hc8, hcF, hRm, ⟨hRf, hRl⟩, hsh, hin⟩ := Cx
  exact iv_c23 (i := (23, ia, ib, iz, its)) hx hb (of_decide_eq_true hck) hs kn
set_option maxHeartbeats 1000000 in
theorem iv_d24 {ia ib : Nat} {iz : Int} {its : List Nat} (Cx : iv_Cx p m c s args R meth g nL c0 cF D o ini bs Ts) (hck : iv_ck bs o rt ini pc (24, ia, ib, iz, its) = true) (hs : iv_s (24, ia, ib, iz, its) ls st h = some a)
    (hlt : ∀ ls2 st2 h2, a = .inl (ls2, st2, h2) → h2.1 ≤ cF)
    (kn : ∀ ls2 st2 h2, a = .inl (ls2, st2, h2) → iv_W p l e R s m args below meth c Q g nL c0 cF (pc + iv_len (24, ia, ib, iz, its)) ls2 st2 h2)
    (kj : ∀ pc2 ls2 st2 h2, a = .inr (.inl (pc2, ls2, st2, h2)) → iv_W p l e R s m args below meth c Q g nL c0 cF pc2 ls2 st2 h2)
    (kr : ∀ r h2, a = .inr (.inr (.inl (r, h2))) → (24 = 63 ∨ 24 = 64 ∨ 24 = 65) → iv_W p l e R s m args below meth c Q g nL c0 cF pc ls st h)
    (kc : ∀ y as ls2 st2 h2, a = .inr (.inr (.inr (y, as, ls2, st2, h2))) → ∃ d rv h', D = d + 1 ∧ iv_Met g l (iv_yn y).1 (iv_yw (iv_yn y)) d as h2 rv h' ∧ h'.1 ≤ cF ∧ iv_W p l e R s m args below meth c Q g nL c0 cF (pc + iv_len (24, ia, ib, iz, its)) ls2 (rv.toList ++ st2) h') : iv_W p l e R s m args below meth c Q g nL c0 cF pc ls st h := by
  obtain ⟨hx, hb, hml, hown, hts, hT, hV, hsz, hc8, hcF, hRm, ⟨hRf, hRl⟩, hsh, hin⟩ := Cx
  exact iv_c24 (i := (24, ia, ib, iz, its)) hx hb (of_decide_eq_true hck) hs kn
set_option maxHeartbeats 1000000 in
theorem iv_d25 {ia ib : Nat} {iz : Int} {its : List Nat} (Cx : iv_Cx p m c s args R meth g nL c0 cF D o ini bs Ts) (hck : iv_ck bs o rt ini pc (25, ia, ib, iz, its) = true) (hs : iv_s (25, ia, ib, iz, its) ls st h = some a)
    (hlt : ∀ ls2 st2 h2, a = .inl (ls2, st2, h2) → h2.1 ≤ cF)
    (kn : ∀ ls2 st2 h2, a = .inl (ls2, st2, h2) → iv_W p l e R s m args below meth c Q g nL c0 cF (pc + iv_len (25, ia, ib, iz, its)) ls2 st2 h2)
    (kj : ∀ pc2 ls2 st2 h2, a = .inr (.inl (pc2, ls2, st2, h2)) → iv_W p l e R s m args below meth c Q g nL c0 cF pc2 ls2 st2 h2)
    (kr : ∀ r h2, a = .inr (.inr (.inl (r, h2))) → (25 = 63 ∨ 25 = 64 ∨ 25 = 65) → iv_W p l e R s m args below meth c Q g nL c0 cF pc ls st h)
    (kc : ∀ y as ls2 st2 h2, a = .inr (.inr (.inr (y, as, ls2, st2, h2))) → ∃ d rv h', D = d + 1 ∧ iv_Met g l (iv_yn y).1 (iv_yw (iv_yn y)) d as h2 rv h' ∧ h'.1 ≤ cF ∧ iv_W p l e R s m args below meth c Q g nL c0 cF (pc + iv_len (25, ia, ib, iz, its)) ls2 (rv.toList ++ st2) h') : iv_W p l e R s m args below meth c Q g nL c0 cF pc ls st h := by
  obtain ⟨hx, hb, hml, hown, hts, hT, hV, hsz, hc8, hcF, hRm, ⟨hRf, hRl⟩, hsh, hin⟩ := Cx
  exact iv_c25 (i := (25, ia, ib, iz, its)) hx hb (of_decide_eq_true hck) hs kn
set_option maxHeartbeats 1000000 in
theorem iv_d26 {ia ib : Nat} {iz : Int} {its : List Nat} (Cx : iv_Cx p m c s args R meth g nL c0 cF D o ini bs Ts) (hck : iv_ck bs o rt ini pc (26, ia, ib, iz, its) = true) (hs : iv_s (26, ia, ib, iz, its) ls st h = some a)
    (hlt : ∀ ls2 st2 h2, a = .inl (ls2, st2, h2) → h2.1 ≤ cF)
    (kn : ∀ ls2 st2 h2, a = .inl (ls2, st2, h2) → iv_W p l e R s m args below meth c Q g nL c0 cF (pc + iv_len (26, ia, ib, iz, its)) ls2 st2 h2)
    (kj : ∀ pc2 ls2 st2 h2, a = .inr (.inl (pc2, ls2, st2, h2)) → iv_W p l e R s m args below meth c Q g nL c0 cF pc2 ls2 st2 h2)
    (kr : ∀ r h2, a = .inr (.inr (.inl (r, h2))) → (26 = 63 ∨ 26 = 64 ∨ 26 = 65) → iv_W p l e R s m args below meth c Q g nL c0 cF pc ls st h)
    (kc : ∀ y as ls2 st2 h2, a = .inr (.inr (.inr (y, as, ls2, st2, h2))) → ∃ d rv h', D = d + 1 ∧ iv_Met g l (iv_yn y).1 (iv_yw (iv_yn y)) d as h2 rv h' ∧ h'.1 ≤ cF ∧ iv_W p l e R s m args below meth c Q g nL c0 cF (pc + iv_len (26, ia, ib, iz, its)) ls2 (rv.toList ++ st2) h') : iv_W p l e R s m args below meth c Q g nL c0 cF pc ls st h := by
  obtain ⟨hx, hb, hml, hown, hts, hT, hV, hsz, hc8, hcF, hRm, ⟨hRf, hRl⟩, hsh, hin⟩ := Cx
  exact iv_c26 (i := (26, ia, ib, iz, its)) hx hb (of_decide_eq_true hck) hs kn
set_option maxHeartbeats 1000000 in
theorem iv_d27 {ia ib : Nat} {iz : Int} {its : List Nat} (Cx : iv_Cx p m c s args R meth g nL c0 cF D o ini bs Ts) (hck : iv_ck bs o rt ini pc (27, ia, ib, iz, its) = true) (hs : iv_s (27, ia, ib, iz, its) ls st h = some a)
    (hlt : ∀ ls2 st2 h2, a = .inl (ls2, st2, h2) → h2.1 ≤ cF)
    (kn : ∀ ls2 st2 h2, a = .inl (ls2, st2, h2) → iv_W p l e R s m args below meth c Q g nL c0 cF (pc + iv_len (27, ia, ib, iz, its)) ls2 st2 h2)
    (kj : ∀ pc2 ls2 st2 h2, a = .inr (.inl (pc2, ls2, st2, h2)) → iv_W p l e R s m args below meth c Q g nL c0 cF pc2 ls2 st2 h2)
    (kr : ∀ r h2, a = .inr (.inr (.inl (r, h2))) → (27 = 63 ∨ 27 = 64 ∨ 27 = 65) → iv_W p l e R s m args below meth c Q g nL c0 cF pc ls st h)
    (kc : ∀ y as ls2 st2 h2, a = .inr (.inr (.inr (y, as, ls2, st2, h2))) → ∃ d rv h', D = d + 1 ∧ iv_Met g l (iv_yn y).1 (iv_yw (iv_yn y)) d as h2 rv h' ∧ h'.1 ≤ cF ∧ iv_W p l e R s m args below meth c Q g nL c0 cF (pc + iv_len (27, ia, ib, iz, its)) ls2 (rv.toList ++ st2) h') : iv_W p l e R s m args below meth c Q g nL c0 cF pc ls st h := by
  obtain ⟨hx, hb, hml, hown, hts, hT, hV, hsz, hc8, hcF, hRm, ⟨hRf, hRl⟩, hsh, hin⟩ := Cx
  exact iv_c27 (i := (27, ia, ib, iz, its)) hx hb (of_decide_eq_true hck) hs kn
set_option maxHeartbeats 1000000 in
theorem iv_d28 {ia ib : Nat} {iz : Int} {its : List Nat} (Cx : iv_Cx p m c s args R meth g nL c0 cF D o ini bs Ts) (hck : iv_ck bs o rt ini pc (28, ia, ib, iz, its) = true) (hs : iv_s (28, ia, ib, iz, its) ls st h = some a)
    (hlt : ∀ ls2 st2 h2, a = .inl (ls2, st2, h2) → h2.1 ≤ cF)
    (kn : ∀ ls2 st2 h2, a = .inl (ls2, st2, h2) → iv_W p l e R s m args below meth c Q g nL c0 cF (pc + iv_len (28, ia, ib, iz, its)) ls2 st2 h2)
    (kj : ∀ pc2 ls2 st2 h2, a = .inr (.inl (pc2, ls2, st2, h2)) → iv_W p l e R s m args below meth c Q g nL c0 cF pc2 ls2 st2 h2)
    (kr : ∀ r h2, a = .inr (.inr (.inl (r, h2))) → (28 = 63 ∨ 28 = 64 ∨ 28 = 65) → iv_W p l e R s m args below meth c Q g nL c0 cF pc ls st h)
    (kc : ∀ y as ls2 st2 h2, a = .inr (.inr (.inr (y, as, ls2, st2, h2))) → ∃ d rv h', D = d + 1 ∧ iv_Met g l (iv_yn y).1 (iv_yw (iv_yn y)) d as h2 rv h' ∧ h'.1 ≤ cF ∧ iv_W p l e R s m args below meth c Q g nL c0 cF (pc + iv_len (28, ia, ib, iz, its)) ls2 (rv.toList ++ st2) h') : iv_W p l e R s m args below meth c Q g nL c0 cF pc ls st h := by
  obtain ⟨hx, hb, hml, hown, hts, hT, hV, hsz, hc8, hcF, hRm, ⟨hRf, hRl⟩, hsh, hin⟩ := Cx
  exact iv_c28 (i := (28, ia, ib, iz, its)) hx hb (of_decide_eq_true hck) hs kn
set_option maxHeartbeats 1000000 in
theorem iv_d29 {ia ib : Nat} {iz : Int} {its : List Nat} (Cx : iv_Cx p m c s args R meth g nL c0 cF D o ini bs Ts) (hck : iv_ck bs o rt ini pc (29, ia, ib, iz, its) = true) (hs : iv_s (29, ia, ib, iz, its) ls st h = some a)
    (hlt : ∀ ls2 st2 h2, a = .inl (ls2, st2, h2) → h2.1 ≤ cF)
    (kn : ∀ ls2 st2 h2, a = .inl (ls2, st2, h2) → iv_W p l e R s m args below meth c Q g nL c0 cF (pc + iv_len (29, ia, ib, iz, its)) ls2 st2 h2)
    (kj : ∀ pc2 ls2 st2 h2, a = .inr (.inl (pc2, ls2, st2, h2)) → iv_W p l e R s m args below meth c Q g nL c0 cF pc2 ls2 st2 h2)
    (kr : ∀ r h2, a = .inr (.inr (.inl (r, h2))) → (29 = 63 ∨ 29 = 64 ∨ 29 = 65) → iv_W p l e R s m args below meth c Q g nL c0 cF pc ls st h)
    (kc : ∀ y as ls2 st2 h2, a = .inr (.inr (.inr (y, as, ls2, st2, h2))) → ∃ d rv h', D = d + 1 ∧ iv_Met g l (iv_yn y).1 (iv_yw (iv_yn y)) d as h2 rv h' ∧ h'.1 ≤ cF ∧ iv_W p l e R s m args below meth c Q g nL c0 cF (pc + iv_len (29, ia, ib, iz, its)) ls2 (rv.toList ++ st2) h') : iv_W p l e R s m args below meth c Q g nL c0 cF pc ls st h := by
  obtain ⟨hx, hb, hml, hown, hts, hT, hV, hsz, hc8, hcF, hRm, ⟨hRf, hRl⟩, hsh, hin⟩ := Cx
  exact iv_c29 (i := (29, ia, ib, iz, its)) hx hb (of_decide_eq_true hck) hs kn
set_option maxHeartbeats 1000000 in
theorem iv_d30 {ia ib : Nat} {iz : Int} {its : List Nat} (Cx : iv_Cx p m c s args R meth g nL c0 cF D o ini bs Ts) (hck : iv_ck bs o rt ini pc (30, ia, ib, iz, its) = true) (hs : iv_s (30, ia, ib, iz, its) ls st h = some a)
    (hlt : ∀ ls2 st2 h2, a = .inl (ls2, st2, h2) → h2.1 ≤ cF)
    (kn : ∀ ls2 st2 h2, a = .inl (ls2, st2, h2) → iv_W p l e R s m args below meth c Q g nL c0 cF (pc + iv_len (30, ia, ib, iz, its)) ls2 st2 h2)
    (kj : ∀ pc2 ls2 st2 h2, a = .inr (.inl (pc2, ls2, st2, h2)) → iv_W p l e R s m args below meth c Q g nL c0 cF pc2 ls2 st2 h2)
    (kr : ∀ r h2, a = .inr (.inr (.inl (r, h2))) → (30 = 63 ∨ 30 = 64 ∨ 30 = 65) → iv_W p l e R s m args below meth c Q g nL c0 cF pc ls st h)
    (kc : ∀ y as ls2 st2 h2, a = .inr (.inr (.inr (y, as, ls2, st2, h2))) → ∃ d rv h', D = d + 1 ∧ iv_Met g l (iv_yn y).1 (iv_yw (iv_yn y)) d as h2 rv h' ∧ h'.1 ≤ cF ∧ iv_W p l e R s m args below meth c Q g nL c0 cF (pc + iv_len (30, ia, ib, iz, its)) ls2 (rv.toList ++ st2) h') : iv_W p l e R s m args below meth c Q g nL c0 cF pc ls st h := by
  obtain ⟨hx, hb, hml, hown, hts, hT, hV, hsz, hc8, hcF, hRm, ⟨hRf, hRl⟩, hsh, hin⟩ := Cx
  exact iv_c30 (i := (30, ia, ib, iz, its)) hx hb (of_decide_eq_true hck) hs kn
set_option maxHeartbeats 1000000 in
theorem iv_d31 {ia ib : Nat} {iz : Int} {its : List Nat} (Cx : iv_Cx p m c s args R meth g nL c0 cF D o ini bs Ts) (hck : iv_ck bs o rt ini pc (31, ia, ib, iz, its) = true) (hs : iv_s (31, ia, ib, iz, its) ls st h = some a)
    (hlt : ∀ ls2 st2 h2, a = .inl (ls2, st2, h2) → h2.1 ≤ cF)
    (kn : ∀ ls2 st2 h2, a = .inl (ls2, st2, h2) → iv_W p l e R s m args below meth c Q g nL c0 cF (pc + iv_len (31, ia, ib, iz, its)) ls2 st2 h2)
    (kj : ∀ pc2 ls2 st2 h2, a = .inr (.inl (pc2, ls2, st2, h2)) → iv_W p l e R s m args below meth c Q g nL c0 cF pc2 ls2 st2 h2)
    (kr : ∀ r h2, a = .inr (.inr (.inl (r, h2))) → (31 = 63 ∨ 31 = 64 ∨ 31 = 65) → iv_W p l e R s m args below meth c Q g nL c0 cF pc ls st h)
    (kc : ∀ y as ls2 st2 h2, a = .inr (.inr (.inr (y, as, ls2, st2, h2))) → ∃ d rv h', D = d + 1 ∧ iv_Met g l (iv_yn y).1 (iv_yw (iv_yn y)) d as h2 rv h' ∧ h'.1 ≤ cF ∧ iv_W p l e R s m args below meth c Q g nL c0 cF (pc + iv_len (31, ia, ib, iz, its)) ls2 (rv.toList ++ st2) h') : iv_W p l e R s m args below meth c Q g nL c0 cF pc ls st h := by
  obtain ⟨hx, hb, hml, hown, hts, hT, hV, hsz, hc8, hcF, hRm, ⟨hRf, hRl⟩, hsh, hin⟩ := Cx
  exact iv_c31 (i := (31, ia, ib, iz, its)) hx hb (of_decide_eq_true hck) hs kn
set_option maxHeartbeats 1000000 in
theorem iv_d32 {ia ib : Nat} {iz : Int} {its : List Nat} (Cx : iv_Cx p m c s args R meth g nL c0 cF D o ini bs Ts) (hck : iv_ck bs o rt ini pc (32, ia, ib, iz, its) = true) (hs : iv_s (32, ia, ib, iz, its) ls st h = some a)
    (hlt : ∀ ls2 st2 h2, a = .inl (ls2, st2, h2) → h2.1 ≤ cF)
    (kn : ∀ ls2 st2 h2, a = .inl (ls2, st2, h2) → iv_W p l e R s m args below meth c Q g nL c0 cF (pc + iv_len (32, ia, ib, iz, its)) ls2 st2 h2)
    (kj : ∀ pc2 ls2 st2 h2, a = .inr (.inl (pc2, ls2, st2, h2)) → iv_W p l e R s m args below meth c Q g nL c0 cF pc2 ls2 st2 h2)
    (kr : ∀ r h2, a = .inr (.inr (.inl (r, h2))) → (32 = 63 ∨ 32 = 64 ∨ 32 = 65) → iv_W p l e R s m args below meth c Q g nL c0 cF pc ls st h)
    (kc : ∀ y as ls2 st2 h2, a = .inr (.inr (.inr (y, as, ls2, st2, h2))) → ∃ d rv h', D = d + 1 ∧ iv_Met g l (iv_yn y).1 (iv_yw (iv_yn y)) d as h2 rv h' ∧ h'.1 ≤ cF ∧ iv_W p l e R s m args below meth c Q g nL c0 cF (pc + iv_len (32, ia, ib, iz, its)) ls2 (rv.toList ++ st2) h') : iv_W p l e R s m args below meth c Q g nL c0 cF pc ls st h := by
  obtain ⟨hx, hb, hml, hown, hts, hT, hV, hsz, hc8, hcF, hRm, ⟨hRf, hRl⟩, hsh, hin⟩ := Cx
  exact iv_c32 (i := (32, ia, ib, iz, its)) hx hb (of_decide_eq_true hck) hs kn
set_option maxHeartbeats 1000000 in
theorem iv_d33 {ia ib : Nat} {iz : Int} {its : List Nat} (Cx : iv_Cx p m c s args R meth g nL c0 cF D o ini bs Ts) (hck : iv_ck bs o rt ini pc (33, ia, ib, iz, its) = true) (hs : iv_s (33, ia, ib, iz, its) ls st h = some a)
    (hlt : ∀ ls2 st2 h2, a = .inl (ls2, st2, h2) → h2.1 ≤ cF)
    (kn : ∀ ls2 st2 h2, a = .inl (ls2, st2, h2) → iv_W p l e R s m args below meth c Q g nL c0 cF (pc + iv_len (33, ia, ib, iz, its)) ls2 st2 h2)
    (kj : ∀ pc2 ls2 st2 h2, a = .inr (.inl (pc2, ls2, st2, h2)) → iv_W p l e R s m args below meth c Q g nL c0 cF pc2 ls2 st2 h2)
    (kr : ∀ r h2, a = .inr (.inr (.inl (r, h2))) → (33 = 63 ∨ 33 = 64 ∨ 33 = 65) → iv_W p l e R s m args below meth c Q g nL c0 cF pc ls st h)
    (kc : ∀ y as ls2 st2 h2, a = .inr (.inr (.inr (y, as, ls2, st2, h2))) → ∃ d rv h', D = d + 1 ∧ iv_Met g l (iv_yn y).1 (iv_yw (iv_yn y)) d as h2 rv h' ∧ h'.1 ≤ cF ∧ iv_W p l e R s m args below meth c Q g nL c0 cF (pc + iv_len (33, ia, ib, iz, its)) ls2 (rv.toList ++ st2) h') : iv_W p l e R s m args below meth c Q g nL c0 cF pc ls st h := by
  obtain ⟨hx, hb, hml, hown, hts, hT, hV, hsz, hc8, hcF, hRm, ⟨hRf, hRl⟩, hsh, hin⟩ := Cx
  exact iv_c33 (i := (33, ia, ib, iz, its)) hx hb (of_decide_eq_true hck) hs kn
set_option maxHeartbeats 1000000 in
theorem iv_d34 {ia ib : Nat} {iz : Int} {its : List Nat} (Cx : iv_Cx p m c s args R meth g nL c0 cF D o ini bs Ts) (hck : iv_ck bs o rt ini pc (34, ia, ib, iz, its) = true) (hs : iv_s (34, ia, ib, iz, its) ls st h = some a)
    (hlt : ∀ ls2 st2 h2, a = .inl (ls2, st2, h2) → h2.1 ≤ cF)
    (kn : ∀ ls2 st2 h2, a = .inl (ls2, st2, h2) → iv_W p l e R s m args below meth c Q g nL c0 cF (pc + iv_len (34, ia, ib, iz, its)) ls2 st2 h2)
    (kj : ∀ pc2 ls2 st2 h2, a = .inr (.inl (pc2, ls2, st2, h2)) → iv_W p l e R s m args below meth c Q g nL c0 cF pc2 ls2 st2 h2)
    (kr : ∀ r h2, a = .inr (.inr (.inl (r, h2))) → (34 = 63 ∨ 34 = 64 ∨ 34 = 65) → iv_W p l e R s m args below meth c Q g nL c0 cF pc ls st h)
    (kc : ∀ y as ls2 st2 h2, a = .inr (.inr (.inr (y, as, ls2, st2, h2))) → ∃ d rv h', D = d + 1 ∧ iv_Met g l (iv_yn y).1 (iv_yw (iv_yn y)) d as h2 rv h' ∧ h'.1 ≤ cF ∧ iv_W p l e R s m args below meth c Q g nL c0 cF (pc + iv_len (34, ia, ib, iz, its)) ls2 (rv.toList ++ st2) h') : iv_W p l e R s m args below meth c Q g nL c0 cF pc ls st h := by
  obtain ⟨hx, hb, hml, hown, hts, hT, hV, hsz, hc8, hcF, hRm, ⟨hRf, hRl⟩, hsh, hin⟩ := Cx
  exact iv_c34 (i := (34, ia, ib, iz, its)) hx hb (of_decide_eq_true hck) hs kn
set_option maxHeartbeats 1000000 in
theorem iv_d35 {ia ib : Nat} {iz : Int} {its : List Nat} (Cx : iv_Cx p m c s args R meth g nL c0 cF D o ini bs Ts) (hck : iv_ck bs o rt ini pc (35, ia, ib, iz, its) = true) (hs : iv_s (35, ia, ib, iz, its) ls st h = some a)
    (hlt : ∀ ls2 st2 h2, a = .inl (ls2, st2, h2) → h2.1 ≤ cF)
    (kn : ∀ ls2 st2 h2, a = .inl (ls2, st2, h2) → iv_W p l e R s m args below meth c Q g nL c0 cF (pc + iv_len (35, ia, ib, iz, its)) ls2 st2 h2)
    (kj : ∀ pc2 ls2 st2 h2, a = .inr (.inl (pc2, ls2, st2, h2)) → iv_W p l e R s m args below meth c Q g nL c0 cF pc2 ls2 st2 h2)
    (kr : ∀ r h2, a = .inr (.inr (.inl (r, h2))) → (35 = 63 ∨ 35 = 64 ∨ 35 = 65) → iv_W p l e R s m args below meth c Q g nL c0 cF pc ls st h)
    (kc : ∀ y as ls2 st2 h2, a = .inr (.inr (.inr (y, as, ls2, st2, h2))) → ∃ d rv h', D = d + 1 ∧ iv_Met g l (iv_yn y).1 (iv_yw (iv_yn y)) d as h2 rv h' ∧ h'.1 ≤ cF ∧ iv_W p l e R s m args below meth c Q g nL c0 cF (pc + iv_len (35, ia, ib, iz, its)) ls2 (rv.toList ++ st2) h') : iv_W p l e R s m args below meth c Q g nL c0 cF pc ls st h := by
  obtain ⟨hx, hb, hml, hown, hts, hT, hV, hsz, hc8, hcF, hRm, ⟨hRf, hRl⟩, hsh, hin⟩ := Cx
  exact iv_c35 (i := (35, ia, ib, iz, its)) hx hb (of_decide_eq_true hck) hs kn
set_option maxHeartbeats 1000000 in
theorem iv_d36 {ia ib : Nat} {iz : Int} {its : List Nat} (Cx : iv_Cx p m c s args R meth g nL c0 cF D o ini bs Ts) (hck : iv_ck bs o rt ini pc (36, ia, ib, iz, its) = true) (hs : iv_s (36, ia, ib, iz, its) ls st h = some a)
    (hlt : ∀ ls2 st2 h2, a = .inl (ls2, st2, h2) → h2.1 ≤ cF)
    (kn : ∀ ls2 st2 h2, a = .inl (ls2, st2, h2) → iv_W p l e R s m args below meth c Q g nL c0 cF (pc + iv_len (36, ia, ib, iz, its)) ls2 st2 h2)
    (kj : ∀ pc2 ls2 st2 h2, a = .inr (.inl (pc2, ls2, st2, h2)) → iv_W p l e R s m args below meth c Q g nL c0 cF pc2 ls2 st2 h2)
    (kr : ∀ r h2, a = .inr (.inr (.inl (r, h2))) → (36 = 63 ∨ 36 = 64 ∨ 36 = 65) → iv_W p l e R s m args below meth c Q g nL c0 cF pc ls st h)
    (kc : ∀ y as ls2 st2 h2, a = .inr (.inr (.inr (y, as, ls2, st2, h2))) → ∃ d rv h', D = d + 1 ∧ iv_Met g l (iv_yn y).1 (iv_yw (iv_yn y)) d as h2 rv h' ∧ h'.1 ≤ cF ∧ iv_W p l e R s m args below meth c Q g nL c0 cF (pc + iv_len (36, ia, ib, iz, its)) ls2 (rv.toList ++ st2) h') : iv_W p l e R s m args below meth c Q g nL c0 cF pc ls st h := by
  obtain ⟨hx, hb, hml, hown, hts, hT, hV, hsz, hc8, hcF, hRm, ⟨hRf, hRl⟩, hsh, hin⟩ := Cx
  exact iv_c36 (i := (36, ia, ib, iz, its)) hx hb (of_decide_eq_true hck) hs kn
set_option maxHeartbeats 1000000 in
theorem iv_d37 {ia ib : Nat} {iz : Int} {its : List Nat} (Cx : iv_Cx p m c s args R meth g nL c0 cF D o ini bs Ts) (hck : iv_ck bs o rt ini pc (37, ia, ib, iz, its) = true) (hs : iv_s (37, ia, ib, iz, its) ls st h = some a)
    (hlt : ∀ ls2 st2 h2, a = .inl (ls2, st2, h2) → h2.1 ≤ cF)
    (kn : ∀ ls2 st2 h2, a = .inl (ls2, st2, h2) → iv_W p l e R s m args below meth c Q g nL c0 cF (pc + iv_len (37, ia, ib, iz, its)) ls2 st2 h2)
    (kj : ∀ pc2 ls2 st2 h2, a = .inr (.inl (pc2, ls2, st2, h2)) → iv_W p l e R s m args below meth c Q g nL c0 cF pc2 ls2 st2 h2)
    (kr : ∀ r h2, a = .inr (.inr (.inl (r, h2))) → (37 = 63 ∨ 37 = 64 ∨ 37 = 65) → iv_W p l e R s m args below meth c Q g nL c0 cF pc ls st h)
    (kc : ∀ y as ls2 st2 h2, a = .inr (.inr (.inr (y, as, ls2, st2, h2))) → ∃ d rv h', D = d + 1 ∧ iv_Met g l (iv_yn y).1 (iv_yw (iv_yn y)) d as h2 rv h' ∧ h'.1 ≤ cF ∧ iv_W p l e R s m args below meth c Q g nL c0 cF (pc + iv_len (37, ia, ib, iz, its)) ls2 (rv.toList ++ st2) h') : iv_W p l e R s m args below meth c Q g nL c0 cF pc ls st h := by
  obtain ⟨hx, hb, hml, hown, hts, hT, hV, hsz, hc8, hcF, hRm, ⟨hRf, hRl⟩, hsh, hin⟩ := Cx
  exact iv_c37 (i := (37, ia, ib, iz, its)) hx hb (of_decide_eq_true hck) hs kn
set_option maxHeartbeats 1000000 in
theorem iv_d38 {ia ib : Nat} {iz : Int} {its : List Nat} (Cx : iv_Cx p m c s args R meth g nL c0 cF D o ini bs Ts) (hck : iv_ck bs o rt ini pc (38, ia, ib, iz, its) = true) (hs : iv_s (38, ia, ib, iz, its) ls st h = some a)
    (hlt : ∀ ls2 st2 h2, a = .inl (ls2, st2, h2) → h2.1 ≤ cF)
    (kn : ∀ ls2 st2 h2, a = .inl (ls2, st2, h2) → iv_W p l e R s m args below meth c Q g nL c0 cF (pc + iv_len (38, ia, ib, iz, its)) ls2 st2 h2)
    (kj : ∀ pc2 ls2 st2 h2, a = .inr (.inl (pc2, ls2, st2, h2)) → iv_W p l e R s m args below meth c Q g nL c0 cF pc2 ls2 st2 h2)
    (kr : ∀ r h2, a = .inr (.inr (.inl (r, h2))) → (38 = 63 ∨ 38 = 64 ∨ 38 = 65) → iv_W p l e R s m args below meth c Q g nL c0 cF pc ls st h)
    (kc : ∀ y as ls2 st2 h2, a = .inr (.inr (.inr (y, as, ls2, st2, h2))) → ∃ d rv h', D = d + 1 ∧ iv_Met g l (iv_yn y).1 (iv_yw (iv_yn y)) d as h2 rv h' ∧ h'.1 ≤ cF ∧ iv_W p l e R s m args below meth c Q g nL c0 cF (pc + iv_len (38, ia, ib, iz, its)) ls2 (rv.toList ++ st2) h') : iv_W p l e R s m args below meth c Q g nL c0 cF pc ls st h := by
  obtain ⟨hx, hb, hml, hown, hts, hT, hV, hsz, hc8, hcF, hRm, ⟨hRf, hRl⟩, hsh, hin⟩ := Cx
  exact iv_c38 (i := (38, ia, ib, iz, its)) hx hb (of_decide_eq_true hck) hs kn
set_option maxHeartbeats 1000000 in
theorem iv_d39 {ia ib : Nat} {iz : Int} {its : List Nat} (Cx : iv_Cx p m c s args R meth g nL c0 cF D o ini bs Ts) (hck : iv_ck bs o rt ini pc (39, ia, ib, iz, its) = true) (hs : iv_s (39, ia, ib, iz, its) ls st h = some a)
    (hlt : ∀ ls2 st2 h2, a = .inl (ls2, st2, h2) → h2.1 ≤ cF)
    (kn : ∀ ls2 st2 h2, a = .inl (ls2, st2, h2) → iv_W p l e R s m args below meth c Q g nL c0 cF (pc + iv_len (39, ia, ib, iz, its)) ls2 st2 h2)
    (kj : ∀ pc2 ls2 st2 h2, a = .inr (.inl (pc2, ls2, st2, h2)) → iv_W p l e R s m args below meth c Q g nL c0 cF pc2 ls2 st2 h2)
    (kr : ∀ r h2, a = .inr (.inr (.inl (r, h2))) → (39 = 63 ∨ 39 = 64 ∨ 39 = 65) → iv_W p l e R s m args below meth c Q g nL c0 cF pc ls st h)
    (kc : ∀ y as ls2 st2 h2, a = .inr (.inr (.inr (y, as, ls2, st2, h2))) → ∃ d rv h', D = d + 1 ∧ iv_Met g l (iv_yn y).1 (iv_yw (iv_yn y)) d as h2 rv h' ∧ h'.1 ≤ cF ∧ iv_W p l e R s m args below meth c Q g nL c0 cF (pc + iv_len (39, ia, ib, iz, its)) ls2 (rv.toList ++ st2) h') : iv_W p l e R s m args below meth c Q g nL c0 cF pc ls st h := by
  obtain ⟨hx, hb, hml, hown, hts, hT, hV, hsz, hc8, hcF, hRm, ⟨hRf, hRl⟩, hsh, hin⟩ := Cx
  exact iv_c39 (i := (39, ia, ib, iz, its)) hx hb (of_decide_eq_true hck) hs kn
set_option maxHeartbeats 1000000 in
theorem iv_d40 {ia ib : Nat} {iz : Int} {its : List Nat} (Cx : iv_Cx p m c s args R meth g nL c0 cF D o ini bs Ts) (hck : iv_ck bs o rt ini pc (40, ia, ib, iz, its) = true) (hs : iv_s (40, ia, ib, iz, its) ls st h = some a)
    (hlt : ∀ ls2 st2 h2, a = .inl (ls2, st2, h2) → h2.1 ≤ cF)
    (kn : ∀ ls2 st2 h2, a = .inl (ls2, st2, h2) → iv_W p l e R s m args below meth c Q g nL c0 cF (pc + iv_len (40, ia, ib, iz, its)) ls2 st2 h2)
    (kj : ∀ pc2 ls2 st2 h2, a = .inr (.inl (pc2, ls2, st2, h2)) → iv_W p l e R s m args below meth c Q g nL c0 cF pc2 ls2 st2 h2)
    (kr : ∀ r h2, a = .inr (.inr (.inl (r, h2))) → (40 = 63 ∨ 40 = 64 ∨ 40 = 65) → iv_W p l e R s m args below meth c Q g nL c0 cF pc ls st h)
    (kc : ∀ y as ls2 st2 h2, a = .inr (.inr (.inr (y, as, ls2, st2, h2))) → ∃ d rv h', D = d + 1 ∧ iv_Met g l (iv_yn y).1 (iv_yw (iv_yn y)) d as h2 rv h' ∧ h'.1 ≤ cF ∧ iv_W p l e R s m args below meth c Q g nL c0 cF (pc + iv_len (40, ia, ib, iz, its)) ls2 (rv.toList ++ st2) h') : iv_W p l e R s m args below meth c Q g nL c0 cF pc ls st h := by
  obtain ⟨hx, hb, hml, hown, hts, hT, hV, hsz, hc8, hcF, hRm, ⟨hRf, hRl⟩, hsh, hin⟩ := Cx
  exact iv_c40 (i := (40, ia, ib, iz, its)) hx hb (of_decide_eq_true hck) hs kn
set_option maxHeartbeats 1000000 in
theorem iv_d41 {ia ib : Nat} {iz : Int} {its : List Nat} (Cx : iv_Cx p m c s args R meth g nL c0 cF D o ini bs Ts) (hck : iv_ck bs o rt ini pc (41, ia, ib, iz, its) = true) (hs : iv_s (41, ia, ib, iz, its) ls st h = some a)
    (hlt : ∀ ls2 st2 h2, a = .inl (ls2, st2, h2) → h2.1 ≤ cF)
    (kn : ∀ ls2 st2 h2, a = .inl (ls2, st2, h2) → iv_W p l e R s m args below meth c Q g nL c0 cF (pc + iv_len (41, ia, ib, iz, its)) ls2 st2 h2)
    (kj : ∀ pc2 ls2 st2 h2, a = .inr (.inl (pc2, ls2, st2, h2)) → iv_W p l e R s m args below meth c Q g nL c0 cF pc2 ls2 st2 h2)
    (kr : ∀ r h2, a = .inr (.inr (.inl (r, h2))) → (41 = 63 ∨ 41 = 64 ∨ 41 = 65) → iv_W p l e R s m args below meth c Q g nL c0 cF pc ls st h)
    (kc : ∀ y as ls2 st2 h2, a = .inr (.inr (.inr (y, as, ls2, st2, h2))) → ∃ d rv h', D = d + 1 ∧ iv_Met g l (iv_yn y).1 (iv_yw (iv_yn y)) d as h2 rv h' ∧ h'.1 ≤ cF ∧ iv_W p l e R s m args below meth c Q g nL c0 cF (pc + iv_len (41, ia, ib, iz, its)) ls2 (rv.toList ++ st2) h') : iv_W p l e R s m args below meth c Q g nL c0 cF pc ls st h := by
  obtain ⟨hx, hb, hml, hown, hts, hT, hV, hsz, hc8, hcF, hRm, ⟨hRf, hRl⟩, hsh, hin⟩ := Cx
  exact iv_c41 (i := (41, ia, ib, iz, its)) hx hb (of_decide_eq_true hck) hs kn
set_option maxHeartbeats 1000000 in
theorem iv_d42 {ia ib : Nat} {iz : Int} {its : List Nat} (Cx : iv_Cx p m c s args R meth g nL c0 cF D o ini bs Ts) (hck : iv_ck bs o rt ini pc (42, ia, ib, iz, its) = true) (hs : iv_s (42, ia, ib, iz, its) ls st h = some a)
    (hlt : ∀ ls2 st2 h2, a = .inl (ls2, st2, h2) → h2.1 ≤ cF)
    (kn : ∀ ls2 st2 h2, a = .inl (ls2, st2, h2) → iv_W p l e R s m args below meth c Q g nL c0 cF (pc + iv_len (42, ia, ib, iz, its)) ls2 st2 h2)
    (kj : ∀ pc2 ls2 st2 h2, a = .inr (.inl (pc2, ls2, st2, h2)) → iv_W p l e R s m args below meth c Q g nL c0 cF pc2 ls2 st2 h2)
    (kr : ∀ r h2, a = .inr (.inr (.inl (r, h2))) → (42 = 63 ∨ 42 = 64 ∨ 42 = 65) → iv_W p l e R s m args below meth c Q g nL c0 cF pc ls st h)
    (kc : ∀ y as ls2 st2 h2, a = .inr (.inr (.inr (y, as, ls2, st2, h2))) → ∃ d rv h', D = d + 1 ∧ iv_Met g l (iv_yn y).1 (iv_yw (iv_yn y)) d as h2 rv h' ∧ h'.1 ≤ cF ∧ iv_W p l e R s m args below meth c Q g nL c0 cF (pc + iv_len (42, ia, ib, iz, its)) ls2 (rv.toList ++ st2) h') : iv_W p l e R s m args below meth c Q g nL c0 cF pc ls st h := by
  obtain ⟨hx, hb, hml, hown, hts, hT, hV, hsz, hc8, hcF, hRm, ⟨hRf, hRl⟩, hsh, hin⟩ := Cx
  have h2 := Bool.and_eq_true_iff.mp hck
  exact iv_c42 (i := (42, ia, ib, iz, its)) hx hb (of_decide_eq_true h2.1) (of_decide_eq_true h2.2) hs kj
set_option maxHeartbeats 1000000 in
theorem iv_d43 {ia ib : Nat} {iz : Int} {its : List Nat} (Cx : iv_Cx p m c s args R meth g nL c0 cF D o ini bs Ts) (hck : iv_ck bs o rt ini pc (43, ia, ib, iz, its) = true) (hs : iv_s (43, ia, ib, iz, its) ls st h = some a)
    (hlt : ∀ ls2 st2 h2, a = .inl (ls2, st2, h2) → h2.1 ≤ cF)
    (kn : ∀ ls2 st2 h2, a = .inl (ls2, st2, h2) → iv_W p l e R s m args below meth c Q g nL c0 cF (pc + iv_len (43, ia, ib, iz, its)) ls2 st2 h2)
    (kj : ∀ pc2 ls2 st2 h2, a = .inr (.inl (pc2, ls2, st2, h2)) → iv_W p l e R s m args below meth c Q g nL c0 cF pc2 ls2 st2 h2)
    (kr : ∀ r h2, a = .inr (.inr (.inl (r, h2))) → (43 = 63 ∨ 43 = 64 ∨ 43 = 65) → iv_W p l e R s m args below meth c Q g nL c0 cF pc ls st h)
    (kc : ∀ y as ls2 st2 h2, a = .inr (.inr (.inr (y, as, ls2, st2, h2))) → ∃ d rv h', D = d + 1 ∧ iv_Met g l (iv_yn y).1 (iv_yw (iv_yn y)) d as h2 rv h' ∧ h'.1 ≤ cF ∧ iv_W p l e R s m args below meth c Q g nL c0 cF (pc + iv_len (43, ia, ib, iz, its)) ls2 (rv.toList ++ st2) h') : iv_W p l e R s m args below meth c Q g nL c0 cF pc ls st h := by
  obtain ⟨hx, hb, hml, hown, hts, hT, hV, hsz, hc8, hcF, hRm, ⟨hRf, hRl⟩, hsh, hin⟩ := Cx
  have h2 := Bool.and_eq_true_iff.mp hck
  have h3 := Bool.and_eq_true_iff.mp h2.2
  have hb6 : ib < 6 := of_decide_eq_true h3.1
  have hd := of_decide_eq_true h3.2
  have ht := of_decide_eq_true h2.1
  match ib, hb6, hd, hs, kn with
  | 0, _, hd, hs, kn => exact iv_c43eq (i := (43, ia, 0, iz, its)) hx hb rfl ht hd hs kn kj
  | 1, _, hd, hs, kn => exact iv_c43ne (i := (43, ia, 1, iz, its)) hx hb rfl ht hd hs kn kj
  | 2, _, hd, hs, kn => exact iv_c43lt (i := (43, ia, 2, iz, its)) hx hb rfl ht hd hs kn kj
  | 3, _, hd, hs, kn => exact iv_c43ge (i := (43, ia, 3, iz, its)) hx hb rfl ht hd hs kn kj
  | 4, _, hd, hs, kn => exact iv_c43gt (i := (43, ia, 4, iz, its)) hx hb rfl ht hd hs kn kj
  | 5, _, hd, hs, kn => exact iv_c43le (i := (43, ia, 5, iz, its)) hx hb rfl ht hd hs kn kj
  | n + 6, h6, _, _, _ => omega
set_option maxHeartbeats 1000000 in
theorem iv_d44 {ia ib : Nat} {iz : Int} {its : List Nat} (Cx : iv_Cx p m c s args R meth g nL c0 cF D o ini bs Ts) (hck : iv_ck bs o rt ini pc (44, ia, ib, iz, its) = true) (hs : iv_s (44, ia, ib, iz, its) ls st h = some a)
    (hlt : ∀ ls2 st2 h2, a = .inl (ls2, st2, h2) → h2.1 ≤ cF)
    (kn : ∀ ls2 st2 h2, a = .inl (ls2, st2, h2) → iv_W p l e R s m args below meth c Q g nL c0 cF (pc + iv_len (44, ia, ib, iz, its)) ls2 st2 h2)
    (kj : ∀ pc2 ls2 st2 h2, a = .inr (.inl (pc2, ls2, st2, h2)) → iv_W p l e R s m args below meth c Q g nL c0 cF pc2 ls2 st2 h2)
    (kr : ∀ r h2, a = .inr (.inr (.inl (r, h2))) → (44 = 63 ∨ 44 = 64 ∨ 44 = 65) → iv_W p l e R s m args below meth c Q g nL c0 cF pc ls st h)
    (kc : ∀ y as ls2 st2 h2, a = .inr (.inr (.inr (y, as, ls2, st2, h2))) → ∃ d rv h', D = d + 1 ∧ iv_Met g l (iv_yn y).1 (iv_yw (iv_yn y)) d as h2 rv h' ∧ h'.1 ≤ cF ∧ iv_W p l e R s m args below meth c Q g nL c0 cF (pc + iv_len (44, ia, ib, iz, its)) ls2 (rv.toList ++ st2) h') : iv_W p l e R s m args below meth c Q g nL c0 cF pc ls st h := by
  obtain ⟨hx, hb, hml, hown, hts, hT, hV, hsz, hc8, hcF, hRm, ⟨hRf, hRl⟩, hsh, hin⟩ := Cx
  have h2 := Bool.and_eq_true_iff.mp hck
  have h3 := Bool.and_eq_true_iff.mp h2.2
  have hb6 : ib < 6 := of_decide_eq_true h3.1
  have hd := of_decide_eq_true h3.2
  have ht := of_decide_eq_true h2.1
  match ib, hb6, hd, hs, kn with
  | 0, _, hd, hs, kn => exact iv_c44eq (i := (44, ia, 0, iz, its)) hx hb rfl ht hd hs kn kj
  | 1, _, hd, hs, kn => exact iv_c44ne (i := (44, ia, 1, iz, its)) hx hb rfl ht hd hs kn kj
  | 2, _, hd, hs, kn => exact iv_c44lt (i := (44, ia, 2, iz, its)) hx hb rfl ht hd hs kn kj
  | 3, _, hd, hs, kn => exact iv_c44ge (i := (44, ia, 3, iz, its)) hx hb rfl ht hd hs kn kj
  | 4, _, hd, hs, kn => exact iv_c44gt (i := (44, ia, 4, iz, its)) hx hb rfl ht hd hs kn kj
  | 5, _, hd, hs, kn => exact iv_c44le (i := (44, ia, 5, iz, its)) hx hb rfl ht hd hs kn kj
  | n + 6, h6, _, _, _ => omega
set_option maxHeartbeats 1000000 in
theorem iv_d45 {ia ib : Nat} {iz : Int} {its : List Nat} (Cx : iv_Cx p m c s args R meth g nL c0 cF D o ini bs Ts) (hck : iv_ck bs o rt ini pc (45, ia, ib, iz, its) = true) (hs : iv_s (45, ia, ib, iz, its) ls st h = some a)
    (hlt : ∀ ls2 st2 h2, a = .inl (ls2, st2, h2) → h2.1 ≤ cF)
    (kn : ∀ ls2 st2 h2, a = .inl (ls2, st2, h2) → iv_W p l e R s m args below meth c Q g nL c0 cF (pc + iv_len (45, ia, ib, iz, its)) ls2 st2 h2)
    (kj : ∀ pc2 ls2 st2 h2, a = .inr (.inl (pc2, ls2, st2, h2)) → iv_W p l e R s m args below meth c Q g nL c0 cF pc2 ls2 st2 h2)
    (kr : ∀ r h2, a = .inr (.inr (.inl (r, h2))) → (45 = 63 ∨ 45 = 64 ∨ 45 = 65) → iv_W p l e R s m args below meth c Q g nL c0 cF pc ls st h)
    (kc : ∀ y as ls2 st2 h2, a = .inr (.inr (.inr (y, as, ls2, st2, h2))) → ∃ d rv h', D = d + 1 ∧ iv_Met g l (iv_yn y).1 (iv_yw (iv_yn y)) d as h2 rv h' ∧ h'.1 ≤ cF ∧ iv_W p l e R s m args below meth c Q g nL c0 cF (pc + iv_len (45, ia, ib, iz, its)) ls2 (rv.toList ++ st2) h') : iv_W p l e R s m args below meth c Q g nL c0 cF pc ls st h := by
  obtain ⟨hx, hb, hml, hown, hts, hT, hV, hsz, hc8, hcF, hRm, ⟨hRf, hRl⟩, hsh, hin⟩ := Cx
  exact iv_c45 (i := (45, ia, ib, iz, its)) hx hb (of_decide_eq_true hck) (by show (pc : Int) + ((ia : Int) - (pc : Int)) = (ia : Int); omega) rfl rfl (by simp) hs kj
set_option maxHeartbeats 1000000 in
theorem iv_d46 {ia ib : Nat} {iz : Int} {its : List Nat} (Cx : iv_Cx p m c s args R meth g nL c0 cF D o ini bs Ts) (hck : iv_ck bs o rt ini pc (46, ia, ib, iz, its) = true) (hs : iv_s (46, ia, ib, iz, its) ls st h = some a)
    (hlt : ∀ ls2 st2 h2, a = .inl (ls2, st2, h2) → h2.1 ≤ cF)
    (kn : ∀ ls2 st2 h2, a = .inl (ls2, st2, h2) → iv_W p l e R s m args below meth c Q g nL c0 cF (pc + iv_len (46, ia, ib, iz, its)) ls2 st2 h2)
    (kj : ∀ pc2 ls2 st2 h2, a = .inr (.inl (pc2, ls2, st2, h2)) → iv_W p l e R s m args below meth c Q g nL c0 cF pc2 ls2 st2 h2)
    (kr : ∀ r h2, a = .inr (.inr (.inl (r, h2))) → (46 = 63 ∨ 46 = 64 ∨ 46 = 65) → iv_W p l e R s m args below meth c Q g nL c0 cF pc ls st h)
    (kc : ∀ y as ls2 st2 h2, a = .inr (.inr (.inr (y, as, ls2, st2, h2))) → ∃ d rv h', D = d + 1 ∧ iv_Met g l (iv_yn y).1 (iv_yw (iv_yn y)) d as h2 rv h' ∧ h'.1 ≤ cF ∧ iv_W p l e R s m args below meth c Q g nL c0 cF (pc + iv_len (46, ia, ib, iz, its)) ls2 (rv.toList ++ st2) h') : iv_W p l e R s m args below meth c Q g nL c0 cF pc ls st h := by
  obtain ⟨hx, hb, hml, hown, hts, hT, hV, hsz, hc8, hcF, hRm, ⟨hRf, hRl⟩, hsh, hin⟩ := Cx
  have h2 := Bool.and_eq_true_iff.mp hck
  have h3 := Bool.and_eq_true_iff.mp h2.2
  have h4 := Bool.and_eq_true_iff.mp h3.2
  have h5 := Bool.and_eq_true_iff.mp h4.2
  have h6 : ia < 6 := of_decide_eq_true h4.1
  have hk : ib < (iv_cr ia).2.2 := of_decide_eq_true h5.1
  have hlk := hts _ (hT _ (iv_fl_in _ (List.mem_map.mpr ⟨_, of_decide_eq_true h3.1, rfl⟩)))
  have hd := of_decide_eq_true h2.1
  obtain ⟨hr, hrc⟩ := iv_cr_ok ia h6
  have hfo := iv_fd_ok ia h6 ib hk
  have huin : ∀ w ∈ u_ws (iv_cr ia).1 (iv_cr ia).2.1 (iv_cr ia).2.2, w ∈ Ts := fun w hw => hT w (iv_u_in ia h6 w hw)
  exact iv_c46 (i := (46, ia, ib, iz, its)) hx hb hd hown hts hV hr huin hk hlk hfo.1 h6 (of_decide_eq_true h5.2) hs kn
set_option maxHeartbeats 1000000 in
theorem iv_d47 {ia ib : Nat} {iz : Int} {its : List Nat} (Cx : iv_Cx p m c s args R meth g nL c0 cF D o ini bs Ts) (hck : iv_ck bs o rt ini pc (47, ia, ib, iz, its) = true) (hs : iv_s (47, ia, ib, iz, its) ls st h = some a)
    (hlt : ∀ ls2 st2 h2, a = .inl (ls2, st2, h2) → h2.1 ≤ cF)
    (kn : ∀ ls2 st2 h2, a = .inl (ls2, st2, h2) → iv_W p l e R s m args below meth c Q g nL c0 cF (pc + iv_len (47, ia, ib, iz, its)) ls2 st2 h2)
    (kj : ∀ pc2 ls2 st2 h2, a = .inr (.inl (pc2, ls2, st2, h2)) → iv_W p l e R s m args below meth c Q g nL c0 cF pc2 ls2 st2 h2)
    (kr : ∀ r h2, a = .inr (.inr (.inl (r, h2))) → (47 = 63 ∨ 47 = 64 ∨ 47 = 65) → iv_W p l e R s m args below meth c Q g nL c0 cF pc ls st h)
    (kc : ∀ y as ls2 st2 h2, a = .inr (.inr (.inr (y, as, ls2, st2, h2))) → ∃ d rv h', D = d + 1 ∧ iv_Met g l (iv_yn y).1 (iv_yw (iv_yn y)) d as h2 rv h' ∧ h'.1 ≤ cF ∧ iv_W p l e R s m args below meth c Q g nL c0 cF (pc + iv_len (47, ia, ib, iz, its)) ls2 (rv.toList ++ st2) h') : iv_W p l e R s m args below meth c Q g nL c0 cF pc ls st h := by
  obtain ⟨hx, hb, hml, hown, hts, hT, hV, hsz, hc8, hcF, hRm, ⟨hRf, hRl⟩, hsh, hin⟩ := Cx
  have h2 := Bool.and_eq_true_iff.mp hck
  have h3 := Bool.and_eq_true_iff.mp h2.2
  have h4 := Bool.and_eq_true_iff.mp h3.2
  have h5 := Bool.and_eq_true_iff.mp h4.2
  have h6 : ia < 6 := of_decide_eq_true h4.1
  have hk : ib < (iv_cr ia).2.2 := of_decide_eq_true h5.1
  have hlk := hts _ (hT _ (iv_fl_in _ (List.mem_map.mpr ⟨_, of_decide_eq_true h3.1, rfl⟩)))
  have hd := of_decide_eq_true h2.1
  obtain ⟨hr, hrc⟩ := iv_cr_ok ia h6
  have hfo := iv_fd_ok ia h6 ib hk
  have huin : ∀ w ∈ u_ws (iv_cr ia).1 (iv_cr ia).2.1 (iv_cr ia).2.2, w ∈ Ts := fun w hw => hT w (iv_u_in ia h6 w hw)
  exact iv_c47 (i := (47, ia, ib, iz, its)) hx hb hd hown hts hV hr huin hk hlk hfo.1 h6 (by simpa using h5.2) hs kn
set_option maxHeartbeats 1000000 in
theorem iv_d48 {ia ib : Nat} {iz : Int} {its : List Nat} (Cx : iv_Cx p m c s args R meth g nL c0 cF D o ini bs Ts) (hck : iv_ck bs o rt ini pc (48, ia, ib, iz, its) = true) (hs : iv_s (48, ia, ib, iz, its) ls st h = some a)
    (hlt : ∀ ls2 st2 h2, a = .inl (ls2, st2, h2) → h2.1 ≤ cF)
    (kn : ∀ ls2 st2 h2, a = .inl (ls2, st2, h2) → iv_W p l e R s m args below meth c Q g nL c0 cF (pc + iv_len (48, ia, ib, iz, its)) ls2 st2 h2)
    (kj : ∀ pc2 ls2 st2 h2, a = .inr (.inl (pc2, ls2, st2, h2)) → iv_W p l e R s m args below meth c Q g nL c0 cF pc2 ls2 st2 h2)
    (kr : ∀ r h2, a = .inr (.inr (.inl (r, h2))) → (48 = 63 ∨ 48 = 64 ∨ 48 = 65) → iv_W p l e R s m args below meth c Q g nL c0 cF pc ls st h)
    (kc : ∀ y as ls2 st2 h2, a = .inr (.inr (.inr (y, as, ls2, st2, h2))) → ∃ d rv h', D = d + 1 ∧ iv_Met g l (iv_yn y).1 (iv_yw (iv_yn y)) d as h2 rv h' ∧ h'.1 ≤ cF ∧ iv_W p l e R s m args below meth c Q g nL c0 cF (pc + iv_len (48, ia, ib, iz, its)) ls2 (rv.toList ++ st2) h') : iv_W p l e R s m args below meth c Q g nL c0 cF pc ls st h := by
  obtain ⟨hx, hb, hml, hown, hts, hT, hV, hsz, hc8, hcF, hRm, ⟨hRf, hRl⟩, hsh, hin⟩ := Cx
  have h2 := Bool.and_eq_true_iff.mp hck
  have h3 := Bool.and_eq_true_iff.mp h2.2
  have h4 := Bool.and_eq_true_iff.mp h3.2
  have h5 := Bool.and_eq_true_iff.mp h4.2
  have h6 : ia < 6 := of_decide_eq_true h4.1
  have hk : ib < (iv_cr ia).2.2 := of_decide_eq_true h5.1
  have hlk := hts _ (hT _ (iv_fl_in _ (List.mem_map.mpr ⟨_, of_decide_eq_true h3.1, rfl⟩)))
  have hd := of_decide_eq_true h2.1
  obtain ⟨hr, hrc⟩ := iv_cr_ok ia h6
  have hfo := iv_fd_ok ia h6 ib hk
  have huin : ∀ w ∈ u_ws (iv_cr ia).1 (iv_cr ia).2.1 (iv_cr ia).2.2, w ∈ Ts := fun w hw => hT w (iv_u_in ia h6 w hw)
  have hf : iv_f ia ib = 0 := of_decide_eq_true h5.2
  exact iv_c48 (i := (48, ia, ib, iz, its)) hx hb hd hown hts hV hr huin hk hlk hfo.1 h6 (iv_ty ia) (iv_ty_ok ia h6).1 (iv_ty_ok ia h6).2.2 (hfo.2.1 hf).1 (hfo.2.1 hf).2 (by show ¬ iv_f ia ib = 2; omega) hs kn
set_option maxHeartbeats 1000000 in
theorem iv_d49 {ia ib : Nat} {iz : Int} {its : List Nat} (Cx : iv_Cx p m c s args R meth g nL c0 cF D o ini bs Ts) (hck : iv_ck bs o rt ini pc (49, ia, ib, iz, its) = true) (hs : iv_s (49, ia, ib, iz, its) ls st h = some a)
    (hlt : ∀ ls2 st2 h2, a = .inl (ls2, st2, h2) → h2.1 ≤ cF)
    (kn : ∀ ls2 st2 h2, a = .inl (ls2, st2, h2) → iv_W p l e R s m args below meth c Q g nL c0 cF (pc + iv_len (49, ia, ib, iz, its)) ls2 st2 h2)
    (kj : ∀ pc2 ls2 st2 h2, a = .inr (.inl (pc2, ls2, st2, h2)) → iv_W p l e R s m args below meth c Q g nL c0 cF pc2 ls2 st2 h2)
    (kr : ∀ r h2, a = .inr (.inr (.inl (r, h2))) → (49 = 63 ∨ 49 = 64 ∨ 49 = 65) → iv_W p l e R s m args below meth c Q g nL c0 cF pc ls st h)
    (kc : ∀ y as ls2 st2 h2, a = .inr (.inr (.inr (y, as, ls2, st2, h2))) → ∃ d rv h', D = d + 1 ∧ iv_Met g l (iv_yn y).1 (iv_yw (iv_yn y)) d as h2 rv h' ∧ h'.1 ≤ cF ∧ iv_W p l e R s m args below meth c Q g nL c0 cF (pc + iv_len (49, ia, ib, iz, its)) ls2 (rv.toList ++ st2) h') : iv_W p l e R s m args below meth c Q g nL c0 cF pc ls st h := by
  obtain ⟨hx, hb, hml, hown, hts, hT, hV, hsz, hc8, hcF, hRm, ⟨hRf, hRl⟩, hsh, hin⟩ := Cx
  have h2 := Bool.and_eq_true_iff.mp hck
  have h3 := Bool.and_eq_true_iff.mp h2.2
  have e1 : o = 4 := of_decide_eq_true h3.1
  have e2 : iz = 306 := of_decide_eq_true h3.2
  subst e1
  subst e2
  exact iv_c49 (i := (49, ia, ib, 306, its)) hx hb (of_decide_eq_true h2.1) hown hV hsh hsz (hts _ (hT _ (iv_ac_in _ (List.mem_of_getElem? (i := 4) rfl)))) hs kn
set_option maxHeartbeats 1000000 in
theorem iv_d50 {ia ib : Nat} {iz : Int} {its : List Nat} (Cx : iv_Cx p m c s args R meth g nL c0 cF D o ini bs Ts) (hck : iv_ck bs o rt ini pc (50, ia, ib, iz, its) = true) (hs : iv_s (50, ia, ib, iz, its) ls st h = some a)
    (hlt : ∀ ls2 st2 h2, a = .inl (ls2, st2, h2) → h2.1 ≤ cF)
    (kn : ∀ ls2 st2 h2, a = .inl (ls2, st2, h2) → iv_W p l e R s m args below meth c Q g nL c0 cF (pc + iv_len (50, ia, ib, iz, its)) ls2 st2 h2)
    (kj : ∀ pc2 ls2 st2 h2, a = .inr (.inl (pc2, ls2, st2, h2)) → iv_W p l e R s m args below meth c Q g nL c0 cF pc2 ls2 st2 h2)
    (kr : ∀ r h2, a = .inr (.inr (.inl (r, h2))) → (50 = 63 ∨ 50 = 64 ∨ 50 = 65) → iv_W p l e R s m args below meth c Q g nL c0 cF pc ls st h)
    (kc : ∀ y as ls2 st2 h2, a = .inr (.inr (.inr (y, as, ls2, st2, h2))) → ∃ d rv h', D = d + 1 ∧ iv_Met g l (iv_yn y).1 (iv_yw (iv_yn y)) d as h2 rv h' ∧ h'.1 ≤ cF ∧ iv_W p l e R s m args below meth c Q g nL c0 cF (pc + iv_len (50, ia, ib, iz, its)) ls2 (rv.toList ++ st2) h') : iv_W p l e R s m args below meth c Q g nL c0 cF pc ls st h := by
  obtain ⟨hx, hb, hml, hown, hts, hT, hV, hsz, hc8, hcF, hRm, ⟨hRf, hRl⟩, hsh, hin⟩ := Cx
  exact iv_c50 (i := (50, ia, ib, iz, its)) hx hb (of_decide_eq_true hck) hV hs kn
set_option maxHeartbeats 1000000 in
theorem iv_d51 {ia ib : Nat} {iz : Int} {its : List Nat} (Cx : iv_Cx p m c s args R meth g nL c0 cF D o ini bs Ts) (hck : iv_ck bs o rt ini pc (51, ia, ib, iz, its) = true) (hs : iv_s (51, ia, ib, iz, its) ls st h = some a)
    (hlt : ∀ ls2 st2 h2, a = .inl (ls2, st2, h2) → h2.1 ≤ cF)
    (kn : ∀ ls2 st2 h2, a = .inl (ls2, st2, h2) → iv_W p l e R s m args below meth c Q g nL c0 cF (pc + iv_len (51, ia, ib, iz, its)) ls2 st2 h2)
    (kj : ∀ pc2 ls2 st2 h2, a = .inr (.inl (pc2, ls2, st2, h2)) → iv_W p l e R s m args below meth c Q g nL c0 cF pc2 ls2 st2 h2)
    (kr : ∀ r h2, a = .inr (.inr (.inl (r, h2))) → (51 = 63 ∨ 51 = 64 ∨ 51 = 65) → iv_W p l e R s m args below meth c Q g nL c0 cF pc ls st h)
    (kc : ∀ y as ls2 st2 h2, a = .inr (.inr (.inr (y, as, ls2, st2, h2))) → ∃ d rv h', D = d + 1 ∧ iv_Met g l (iv_yn y).1 (iv_yw (iv_yn y)) d as h2 rv h' ∧ h'.1 ≤ cF ∧ iv_W p l e R s m args below meth c Q g nL c0 cF (pc + iv_len (51, ia, ib, iz, its)) ls2 (rv.toList ++ st2) h') : iv_W p l e R s m args below meth c Q g nL c0 cF pc ls st h := by
  obtain ⟨hx, hb, hml, hown, hts, hT, hV, hsz, hc8, hcF, hRm, ⟨hRf, hRl⟩, hsh, hin⟩ := Cx
  exact iv_c51 (i := (51, ia, ib, iz, its)) hx hb (of_decide_eq_true hck) hV hs kn
set_option maxHeartbeats 1000000 in
theorem iv_d52 {ia ib : Nat} {iz : Int} {its : List Nat} (Cx : iv_Cx p m c s args R meth g nL c0 cF D o ini bs Ts) (hck : iv_ck bs o rt ini pc (52, ia, ib, iz, its) = true) (hs : iv_s (52, ia, ib, iz, its) ls st h = some a)
    (hlt : ∀ ls2 st2 h2, a = .inl (ls2, st2, h2) → h2.1 ≤ cF)
    (kn : ∀ ls2 st2 h2, a = .inl (ls2, st2, h2) → iv_W p l e R s m args below meth c Q g nL c0 cF (pc + iv_len (52, ia, ib, iz, its)) ls2 st2 h2)
    (kj : ∀ pc2 ls2 st2 h2, a = .inr (.inl (pc2, ls2, st2, h2)) → iv_W p l e R s m args below meth c Q g nL c0 cF pc2 ls2 st2 h2)
    (kr : ∀ r h2, a = .inr (.inr (.inl (r, h2))) → (52 = 63 ∨ 52 = 64 ∨ 52 = 65) → iv_W p l e R s m args below meth c Q g nL c0 cF pc ls st h)
    (kc : ∀ y as ls2 st2 h2, a = .inr (.inr (.inr (y, as, ls2, st2, h2))) → ∃ d rv h', D = d + 1 ∧ iv_Met g l (iv_yn y).1 (iv_yw (iv_yn y)) d as h2 rv h' ∧ h'.1 ≤ cF ∧ iv_W p l e R s m args below meth c Q g nL c0 cF (pc + iv_len (52, ia, ib, iz, its)) ls2 (rv.toList ++ st2) h') : iv_W p l e R s m args below meth c Q g nL c0 cF pc ls st h := by
  obtain ⟨hx, hb, hml, hown, hts, hT, hV, hsz, hc8, hcF, hRm, ⟨hRf, hRl⟩, hsh, hin⟩ := Cx
  exact iv_c52 (i := (52, ia, ib, iz, its)) hx hb (of_decide_eq_true hck) hV hs kn
set_option maxHeartbeats 1000000 in
theorem iv_d53 {ia ib : Nat} {iz : Int} {its : List Nat} (Cx : iv_Cx p m c s args R meth g nL c0 cF D o ini bs Ts) (hck : iv_ck bs o rt ini pc (53, ia, ib, iz, its) = true) (hs : iv_s (53, ia, ib, iz, its) ls st h = some a)
    (hlt : ∀ ls2 st2 h2, a = .inl (ls2, st2, h2) → h2.1 ≤ cF)
    (kn : ∀ ls2 st2 h2, a = .inl (ls2, st2, h2) → iv_W p l e R s m args below meth c Q g nL c0 cF (pc + iv_len (53, ia, ib, iz, its)) ls2 st2 h2)
    (kj : ∀ pc2 ls2 st2 h2, a = .inr (.inl (pc2, ls2, st2, h2)) → iv_W p l e R s m args below meth c Q g nL c0 cF pc2 ls2 st2 h2)
    (kr : ∀ r h2, a = .inr (.inr (.inl (r, h2))) → (53 = 63 ∨ 53 = 64 ∨ 53 = 65) → iv_W p l e R s m args below meth c Q g nL c0 cF pc ls st h)
    (kc : ∀ y as ls2 st2 h2, a = .inr (.inr (.inr (y, as, ls2, st2, h2))) → ∃ d rv h', D = d + 1 ∧ iv_Met g l (iv_yn y).1 (iv_yw (iv_yn y)) d as h2 rv h' ∧ h'.1 ≤ cF ∧ iv_W p l e R s m args below meth c Q g nL c0 cF (pc + iv_len (53, ia, ib, iz, its)) ls2 (rv.toList ++ st2) h') : iv_W p l e R s m args below meth c Q g nL c0 cF pc ls st h := by
  obtain ⟨hx, hb, hml, hown, hts, hT, hV, hsz, hc8, hcF, hRm, ⟨hRf, hRl⟩, hsh, hin⟩ := Cx
  exact iv_c53 (i := (53, ia, ib, iz, its)) hx hb (of_decide_eq_true hck) hV hs kn
set_option maxHeartbeats 1000000 in
theorem iv_d54 {ia ib : Nat} {iz : Int} {its : List Nat} (Cx : iv_Cx p m c s args R meth g nL c0 cF D o ini bs Ts) (hck : iv_ck bs o rt ini pc (54, ia, ib, iz, its) = true) (hs : iv_s (54, ia, ib, iz, its) ls st h = some a)
    (hlt : ∀ ls2 st2 h2, a = .inl (ls2, st2, h2) → h2.1 ≤ cF)
    (kn : ∀ ls2 st2 h2, a = .inl (ls2, st2, h2) → iv_W p l e R s m args below meth c Q g nL c0 cF (pc + iv_len (54, ia, ib, iz, its)) ls2 st2 h2)
    (kj : ∀ pc2 ls2 st2 h2, a = .inr (.inl (pc2, ls2, st2, h2)) → iv_W p l e R s m args below meth c Q g nL c0 cF pc2 ls2 st2 h2)
    (kr : ∀ r h2, a = .inr (.inr (.inl (r, h2))) → (54 = 63 ∨ 54 = 64 ∨ 54 = 65) → iv_W p l e R s m args below meth c Q g nL c0 cF pc ls st h)
    (kc : ∀ y as ls2 st2 h2, a = .inr (.inr (.inr (y, as, ls2, st2, h2))) → ∃ d rv h', D = d + 1 ∧ iv_Met g l (iv_yn y).1 (iv_yw (iv_yn y)) d as h2 rv h' ∧ h'.1 ≤ cF ∧ iv_W p l e R s m args below meth c Q g nL c0 cF (pc + iv_len (54, ia, ib, iz, its)) ls2 (rv.toList ++ st2) h') : iv_W p l e R s m args below meth c Q g nL c0 cF pc ls st h := by
  obtain ⟨hx, hb, hml, hown, hts, hT, hV, hsz, hc8, hcF, hRm, ⟨hRf, hRl⟩, hsh, hin⟩ := Cx
  exact iv_c54 (i := (54, ia, ib, iz, its)) hx hb (of_decide_eq_true hck) hV hs kn
set_option maxHeartbeats 1000000 in
theorem iv_d55 {ia ib : Nat} {iz : Int} {its : List Nat} (Cx : iv_Cx p m c s args R meth g nL c0 cF D o ini bs Ts) (hck : iv_ck bs o rt ini pc (55, ia, ib, iz, its) = true) (hs : iv_s (55, ia, ib, iz, its) ls st h = some a)
    (hlt : ∀ ls2 st2 h2, a = .inl (ls2, st2, h2) → h2.1 ≤ cF)
    (kn : ∀ ls2 st2 h2, a = .inl (ls2, st2, h2) → iv_W p l e R s m args below meth c Q g nL c0 cF (pc + iv_len (55, ia, ib, iz, its)) ls2 st2 h2)
    (kj : ∀ pc2 ls2 st2 h2, a = .inr (.inl (pc2, ls2, st2, h2)) → iv_W p l e R s m args below meth c Q g nL c0 cF pc2 ls2 st2 h2)
    (kr : ∀ r h2, a = .inr (.inr (.inl (r, h2))) → (55 = 63 ∨ 55 = 64 ∨ 55 = 65) → iv_W p l e R s m args below meth c Q g nL c0 cF pc ls st h)
    (kc : ∀ y as ls2 st2 h2, a = .inr (.inr (.inr (y, as, ls2, st2, h2))) → ∃ d rv h', D = d + 1 ∧ iv_Met g l (iv_yn y).1 (iv_yw (iv_yn y)) d as h2 rv h' ∧ h'.1 ≤ cF ∧ iv_W p l e R s m args below meth c Q g nL c0 cF (pc + iv_len (55, ia, ib, iz, its)) ls2 (rv.toList ++ st2) h') : iv_W p l e R s m args below meth c Q g nL c0 cF pc ls st h := by
  obtain ⟨hx, hb, hml, hown, hts, hT, hV, hsz, hc8, hcF, hRm, ⟨hRf, hRl⟩, hsh, hin⟩ := Cx
  exact iv_c55 (i := (55, ia, ib, iz, its)) hx hb (of_decide_eq_true hck) hV hs kn
set_option maxHeartbeats 1000000 in
theorem iv_d56 {ia ib : Nat} {iz : Int} {its : List Nat} (Cx : iv_Cx p m c s args R meth g nL c0 cF D o ini bs Ts) (hck : iv_ck bs o rt ini pc (56, ia, ib, iz, its) = true) (hs : iv_s (56, ia, ib, iz, its) ls st h = some a)
    (hlt : ∀ ls2 st2 h2, a = .inl (ls2, st2, h2) → h2.1 ≤ cF)
    (kn : ∀ ls2 st2 h2, a = .inl (ls2, st2, h2) → iv_W p l e R s m args below meth c Q g nL c0 cF (pc + iv_len (56, ia, ib, iz, its)) ls2 st2 h2)
    (kj : ∀ pc2 ls2 st2 h2, a = .inr (.inl (pc2, ls2, st2, h2)) → iv_W p l e R s m args below meth c Q g nL c0 cF pc2 ls2 st2 h2)
    (kr : ∀ r h2, a = .inr (.inr (.inl (r, h2))) → (56 = 63 ∨ 56 = 64 ∨ 56 = 65) → iv_W p l e R s m args below meth c Q g nL c0 cF pc ls st h)
    (kc : ∀ y as ls2 st2 h2, a = .inr (.inr (.inr (y, as, ls2, st2, h2))) → ∃ d rv h', D = d + 1 ∧ iv_Met g l (iv_yn y).1 (iv_yw (iv_yn y)) d as h2 rv h' ∧ h'.1 ≤ cF ∧ iv_W p l e R s m args below meth c Q g nL c0 cF (pc + iv_len (56, ia, ib, iz, its)) ls2 (rv.toList ++ st2) h') : iv_W p l e R s m args below meth c Q g nL c0 cF pc ls st h := by
  obtain ⟨hx, hb, hml, hown, hts, hT, hV, hsz, hc8, hcF, hRm, ⟨hRf, hRl⟩, hsh, hin⟩ := Cx
  exact iv_c56 (i := (56, ia, ib, iz, its)) hx hb (of_decide_eq_true hck) hV hs kn
set_option maxHeartbeats 1000000 in
theorem iv_d57 {ia ib : Nat} {iz : Int} {its : List Nat} (Cx : iv_Cx p m c s args R meth g nL c0 cF D o ini bs Ts) (hck : iv_ck bs o rt ini pc (57, ia, ib, iz, its) = true) (hs : iv_s (57, ia, ib, iz, its) ls st h = some a)
    (hlt : ∀ ls2 st2 h2, a = .inl (ls2, st2, h2) → h2.1 ≤ cF)
    (kn : ∀ ls2 st2 h2, a = .inl (ls2, st2, h2) → iv_W p l e R s m args below meth c Q g nL c0 cF (pc + iv_len (57, ia, ib, iz, its)) ls2 st2 h2)
    (kj : ∀ pc2 ls2 st2 h2, a = .inr (.inl (pc2, ls2, st2, h2)) → iv_W p l e R s m args below meth c Q g nL c0 cF pc2 ls2 st2 h2)
    (kr : ∀ r h2, a = .inr (.inr (.inl (r, h2))) → (57 = 63 ∨ 57 = 64 ∨ 57 = 65) → iv_W p l e R s m args below meth c Q g nL c0 cF pc ls st h)
    (kc : ∀ y as ls2 st2 h2, a = .inr (.inr (.inr (y, as, ls2, st2, h2))) → ∃ d rv h', D = d + 1 ∧ iv_Met g l (iv_yn y).1 (iv_yw (iv_yn y)) d as h2 rv h' ∧ h'.1 ≤ cF ∧ iv_W p l e R s m args below meth c Q g nL c0 cF (pc + iv_len (57, ia, ib, iz, its)) ls2 (rv.toList ++ st2) h') : iv_W p l e R s m args below meth c Q g nL c0 cF pc ls st h := by
  obtain ⟨hx, hb, hml, hown, hts, hT, hV, hsz, hc8, hcF, hRm, ⟨hRf, hRl⟩, hsh, hin⟩ := Cx
  exact iv_c57 (i := (57, ia, ib, iz, its)) hx hb (of_decide_eq_true hck) hV hs kn
set_option maxHeartbeats 1000000 in
theorem iv_d58 {ia ib : Nat} {iz : Int} {its : List Nat} (Cx : iv_Cx p m c s args R meth g nL c0 cF D o ini bs Ts) (hck : iv_ck bs o rt ini pc (58, ia, ib, iz, its) = true) (hs : iv_s (58, ia, ib, iz, its) ls st h = some a)
    (hlt : ∀ ls2 st2 h2, a = .inl (ls2, st2, h2) → h2.1 ≤ cF)
    (kn : ∀ ls2 st2 h2, a = .inl (ls2, st2, h2) → iv_W p l e R s m args below meth c Q g nL c0 cF (pc + iv_len (58, ia, ib, iz, its)) ls2 st2 h2)
    (kj : ∀ pc2 ls2 st2 h2, a = .inr (.inl (pc2, ls2, st2, h2)) → iv_W p l e R s m args below meth c Q g nL c0 cF pc2 ls2 st2 h2)
    (kr : ∀ r h2, a = .inr (.inr (.inl (r, h2))) → (58 = 63 ∨ 58 = 64 ∨ 58 = 65) → iv_W p l e R s m args below meth c Q g nL c0 cF pc ls st h)
    (kc : ∀ y as ls2 st2 h2, a = .inr (.inr (.inr (y, as, ls2, st2, h2))) → ∃ d rv h', D = d + 1 ∧ iv_Met g l (iv_yn y).1 (iv_yw (iv_yn y)) d as h2 rv h' ∧ h'.1 ≤ cF ∧ iv_W p l e R s m args below meth c Q g nL c0 cF (pc + iv_len (58, ia, ib, iz, its)) ls2 (rv.toList ++ st2) h') : iv_W p l e R s m args below meth c Q g nL c0 cF pc ls st h := by
  obtain ⟨hx, hb, hml, hown, hts, hT, hV, hsz, hc8, hcF, hRm, ⟨hRf, hRl⟩, hsh, hin⟩ := Cx
  exact iv_c58 (i := (58, ia, ib, iz, its)) hx hb (of_decide_eq_true hck) hV hs kn
set_option maxHeartbeats 1000000 in
theorem iv_d59 {ia ib : Nat} {iz : Int} {its : List Nat} (Cx : iv_Cx p m c s args R meth g nL c0 cF D o ini bs Ts) (hck : iv_ck bs o rt ini pc (59, ia, ib, iz, its) = true) (hs : iv_s (59, ia, ib, iz, its) ls st h = some a)
    (hlt : ∀ ls2 st2 h2, a = .inl (ls2, st2, h2) → h2.1 ≤ cF)
    (kn : ∀ ls2 st2 h2, a = .inl (ls2, st2, h2) → iv_W p l e R s m args below meth c Q g nL c0 cF (pc + iv_len (59, ia, ib, iz, its)) ls2 st2 h2)
    (kj : ∀ pc2 ls2 st2 h2, a = .inr (.inl (pc2, ls2, st2, h2)) → iv_W p l e R s m args below meth c Q g nL c0 cF pc2 ls2 st2 h2)
    (kr : ∀ r h2, a = .inr (.inr (.inl (r, h2))) → (59 = 63 ∨ 59 = 64 ∨ 59 = 65) → iv_W p l e R s m args below meth c Q g nL c0 cF pc ls st h)
    (kc : ∀ y as ls2 st2 h2, a = .inr (.inr (.inr (y, as, ls2, st2, h2))) → ∃ d rv h', D = d + 1 ∧ iv_Met g l (iv_yn y).1 (iv_yw (iv_yn y)) d as h2 rv h' ∧ h'.1 ≤ cF ∧ iv_W p l e R s m args below meth c Q g nL c0 cF (pc + iv_len (59, ia, ib, iz, its)) ls2 (rv.toList ++ st2) h') : iv_W p l e R s m args below meth c Q g nL c0 cF pc ls st h := by
  obtain ⟨hx, hb, hml, hown, hts, hT, hV, hsz, hc8, hcF, hRm, ⟨hRf, hRl⟩, hsh, hin⟩ := Cx
  have h2 := Bool.and_eq_true_iff.mp hck
  have h3 := Bool.and_eq_true_iff.mp h2.2
  have h6 : ia < 6 := of_decide_eq_true h3.2
  obtain ⟨hr, hrc⟩ := iv_cr_ok ia h6
  refine iv_c59 (i := (59, ia, ib, iz, its)) hx hb (of_decide_eq_true h2.1) hown hts hV hr (fun w hw => hT w (iv_u_in ia h6 w hw)) (hts _ (hT _ (iv_cl_in _ (List.mem_map.mpr ⟨_, of_decide_eq_true h3.1, rfl⟩)))) (hts _ (hT _ (iv_nw_in _ (List.mem_map.mpr ⟨_, List.mem_of_getElem? hr, rfl⟩)))) ?_ (iv_ty ia) (iv_ty_ok ia h6).1 (iv_ty_ok ia h6).2.1 hsz hc8 hcF hRm hlt hs kn
  rw [hrc]
  exact hts _ (hT _ (iv_ini_c (by omega)))
set_option maxHeartbeats 1000000 in
theorem iv_d60 {ia ib : Nat} {iz : Int} {its : List Nat} (Cx : iv_Cx p m c s args R meth g nL c0 cF D o ini bs Ts) (hck : iv_ck bs o rt ini pc (60, ia, ib, iz, its) = true) (hs : iv_s (60, ia, ib, iz, its) ls st h = some a)
    (hlt : ∀ ls2 st2 h2, a = .inl (ls2, st2, h2) → h2.1 ≤ cF)
    (kn : ∀ ls2 st2 h2, a = .inl (ls2, st2, h2) → iv_W p l e R s m args below meth c Q g nL c0 cF (pc + iv_len (60, ia, ib, iz, its)) ls2 st2 h2)
    (kj : ∀ pc2 ls2 st2 h2, a = .inr (.inl (pc2, ls2, st2, h2)) → iv_W p l e R s m args below meth c Q g nL c0 cF pc2 ls2 st2 h2)
    (kr : ∀ r h2, a = .inr (.inr (.inl (r, h2))) → (60 = 63 ∨ 60 = 64 ∨ 60 = 65) → iv_W p l e R s m args below meth c Q g nL c0 cF pc ls st h)
    (kc : ∀ y as ls2 st2 h2, a = .inr (.inr (.inr (y, as, ls2, st2, h2))) → ∃ d rv h', D = d + 1 ∧ iv_Met g l (iv_yn y).1 (iv_yw (iv_yn y)) d as h2 rv h' ∧ h'.1 ≤ cF ∧ iv_W p l e R s m args below meth c Q g nL c0 cF (pc + iv_len (60, ia, ib, iz, its)) ls2 (rv.toList ++ st2) h') : iv_W p l e R s m args below meth c Q g nL c0 cF pc ls st h := by
  obtain ⟨hx, hb, hml, hown, hts, hT, hV, hsz, hc8, hcF, hRm, ⟨hRf, hRl⟩, hsh, hin⟩ := Cx
  rcases Bool.or_eq_true_iff.mp hck with h2 | h2
  · have h3 := Bool.and_eq_true_iff.mp h2
    exact iv_c60_6 (i := (60, ia, ib, iz, its)) hx hb (of_decide_eq_true h3.2) hV (hts _ (hT _ (iv_ac_in _ (List.mem_of_getElem? (i := 7) rfl)))) (of_decide_eq_true h3.1) hsz hc8 hcF hRm hlt hs kn
  · rcases Bool.or_eq_true_iff.mp h2 with h2 | h2
    · have h3 := Bool.and_eq_true_iff.mp h2
      exact iv_c60_7 (i := (60, ia, ib, iz, its)) hx hb (of_decide_eq_true h3.2) hV (hts _ (hT _ (iv_ac_in _ (List.mem_of_getElem? (i := 8) rfl)))) (of_decide_eq_true h3.1) hsz hc8 hcF hRm hlt hs kn
    · have h3 := Bool.and_eq_true_iff.mp h2
      exact iv_c60_8 (i := (60, ia, ib, iz, its)) hx hb (of_decide_eq_true h3.2) hV (hts _ (hT _ (iv_ac_in _ (List.mem_of_getElem? (i := 9) rfl)))) (of_decide_eq_true h3.1) hsz hc8 hcF hRm hlt hs kn
set_option maxHeartbeats 1000000 in
theorem iv_d61 {ia ib : Nat} {iz : Int} {its : List Nat} (Cx : iv_Cx p m c s args R meth g nL c0 cF D o ini bs Ts) (hck : iv_ck bs o rt ini pc (61, ia, ib, iz, its) = true) (hs : iv_s (61, ia, ib, iz, its) ls st h = some a)
    (hlt : ∀ ls2 st2 h2, a = .inl (ls2, st2, h2) → h2.1 ≤ cF)
    (kn : ∀ ls2 st2 h2, a = .inl (ls2, st2, h2) → iv_W p l e R s m args below meth c Q g nL c0 cF (pc + iv_len (61, ia, ib, iz, its)) ls2 st2 h2)
    (kj : ∀ pc2 ls2 st2 h2, a = .inr (.inl (pc2, ls2, st2, h2)) → iv_W p l e R s m args below meth c Q g nL c0 cF pc2 ls2 st2 h2)
    (kr : ∀ r h2, a = .inr (.inr (.inl (r, h2))) → (61 = 63 ∨ 61 = 64 ∨ 61 = 65) → iv_W p l e R s m args below meth c Q g nL c0 cF pc ls st h)
    (kc : ∀ y as ls2 st2 h2, a = .inr (.inr (.inr (y, as, ls2, st2, h2))) → ∃ d rv h', D = d + 1 ∧ iv_Met g l (iv_yn y).1 (iv_yw (iv_yn y)) d as h2 rv h' ∧ h'.1 ≤ cF ∧ iv_W p l e R s m args below meth c Q g nL c0 cF (pc + iv_len (61, ia, ib, iz, its)) ls2 (rv.toList ++ st2) h') : iv_W p l e R s m args below meth c Q g nL c0 cF pc ls st h := by
  obtain ⟨hx, hb, hml, hown, hts, hT, hV, hsz, hc8, hcF, hRm, ⟨hRf, hRl⟩, hsh, hin⟩ := Cx
  have h2 := Bool.and_eq_true_iff.mp hck
  have h3 := Bool.and_eq_true_iff.mp h2.2
  have e1 : o = 4 := of_decide_eq_true h3.1
  have e2 : iz = 36 := of_decide_eq_true h3.2
  subst e1
  subst e2
  exact iv_c61 (i := (61, ia, ib, 36, its)) hx hb (of_decide_eq_true h2.1) hown hV (hts _ (hT _ (iv_ac_in _ (List.mem_of_getElem? (i := 5) rfl)))) hsz hc8 hcF hRm hlt hs kn
set_option maxHeartbeats 1000000 in
theorem iv_d62 {ia ib : Nat} {iz : Int} {its : List Nat} (Cx : iv_Cx p m c s args R meth g nL c0 cF D o ini bs Ts) (hck : iv_ck bs o rt ini pc (62, ia, ib, iz, its) = true) (hs : iv_s (62, ia, ib, iz, its) ls st h = some a)
    (hlt : ∀ ls2 st2 h2, a = .inl (ls2, st2, h2) → h2.1 ≤ cF)
    (kn : ∀ ls2 st2 h2, a = .inl (ls2, st2, h2) → iv_W p l e R s m args below meth c Q g nL c0 cF (pc + iv_len (62, ia, ib, iz, its)) ls2 st2 h2)
    (kj : ∀ pc2 ls2 st2 h2, a = .inr (.inl (pc2, ls2, st2, h2)) → iv_W p l e R s m args below meth c Q g nL c0 cF pc2 ls2 st2 h2)
    (kr : ∀ r h2, a = .inr (.inr (.inl (r, h2))) → (62 = 63 ∨ 62 = 64 ∨ 62 = 65) → iv_W p l e R s m args below meth c Q g nL c0 cF pc ls st h)
    (kc : ∀ y as ls2 st2 h2, a = .inr (.inr (.inr (y, as, ls2, st2, h2))) → ∃ d rv h', D = d + 1 ∧ iv_Met g l (iv_yn y).1 (iv_yw (iv_yn y)) d as h2 rv h' ∧ h'.1 ≤ cF ∧ iv_W p l e R s m args below meth c Q g nL c0 cF (pc + iv_len (62, ia, ib, iz, its)) ls2 (rv.toList ++ st2) h') : iv_W p l e R s m args below meth c Q g nL c0 cF pc ls st h := by
  obtain ⟨hx, hb, hml, hown, hts, hT, hV, hsz, hc8, hcF, hRm, ⟨hRf, hRl⟩, hsh, hin⟩ := Cx
  have h2 := Bool.and_eq_true_iff.mp hck
  have h3 := Bool.and_eq_true_iff.mp h2.2
  have e1 : o = 0 := of_decide_eq_true h3.1
  have e2 : iz = 15 := of_decide_eq_true h3.2
  subst e1
  subst e2
  exact iv_c62 (i := (62, ia, ib, 15, its)) hx hb (of_decide_eq_true h2.1) hown hV (hts _ (hT _ (iv_ac_in _ (List.mem_of_getElem? (i := 6) rfl)))) (hts _ (hT _ (iv_ac_in _ (List.mem_of_getElem? (i := 7) rfl)))) hsz hc8 hcF hRm hlt hs kn
set_option maxHeartbeats 1000000 in
theorem iv_d63 {ia ib : Nat} {iz : Int} {its : List Nat} (Cx : iv_Cx p m c s args R meth g nL c0 cF D o ini bs Ts) (hck : iv_ck bs o rt ini pc (63, ia, ib, iz, its) = true) (hs : iv_s (63, ia, ib, iz, its) ls st h = some a)
    (hlt : ∀ ls2 st2 h2, a = .inl (ls2, st2, h2) → h2.1 ≤ cF)
    (kn : ∀ ls2 st2 h2, a = .inl (ls2, st2, h2) → iv_W p l e R s m args below meth c Q g nL c0 cF (pc + iv_len (63, ia, ib, iz, its)) ls2 st2 h2)
    (kj : ∀ pc2 ls2 st2 h2, a = .inr (.inl (pc2, ls2, st2, h2)) → iv_W p l e R s m args below meth c Q g nL c0 cF pc2 ls2 st2 h2)
    (kr : ∀ r h2, a = .inr (.inr (.inl (r, h2))) → (63 = 63 ∨ 63 = 64 ∨ 63 = 65) → iv_W p l e R s m args below meth c Q g nL c0 cF pc ls st h)
    (kc : ∀ y as ls2 st2 h2, a = .inr (.inr (.inr (y, as, ls2, st2, h2))) → ∃ d rv h', D = d + 1 ∧ iv_Met g l (iv_yn y).1 (iv_yw (iv_yn y)) d as h2 rv h' ∧ h'.1 ≤ cF ∧ iv_W p l e R s m args below meth c Q g nL c0 cF (pc + iv_len (63, ia, ib, iz, its)) ls2 (rv.toList ++ st2) h') : iv_W p l e R s m args below meth c Q g nL c0 cF pc ls st h := by
  obtain ⟨hx, hb, hml, hown, hts, hT, hV, hsz, hc8, hcF, hRm, ⟨hRf, hRl⟩, hsh, hin⟩ := Cx
  have e1 : ∃ r, a = .inr (.inr (.inl (r, h))) := iv_ret63 (i := (63, ia, ib, iz, its)) (ls := ls) hs
  obtain ⟨r, e1⟩ := e1
  exact kr r h e1 (Or.inl rfl)
set_option maxHeartbeats 1000000 in
theorem iv_d64 {ia ib : Nat} {iz : Int} {its : List Nat} (Cx : iv_Cx p m c s args R meth g nL c0 cF D o ini bs Ts) (hck : iv_ck bs o rt ini pc (64, ia, ib, iz, its) = true) (hs : iv_s (64, ia, ib, iz, its) ls st h = some a)
    (hlt : ∀ ls2 st2 h2, a = .inl (ls2, st2, h2) → h2.1 ≤ cF)
    (kn : ∀ ls2 st2 h2, a = .inl (ls2, st2, h2) → iv_W p l e R s m args below meth c Q g nL c0 cF (pc + iv_len (64, ia, ib, iz, its)) ls2 st2 h2)
    (kj : ∀ pc2 ls2 st2 h2, a = .inr (.inl (pc2, ls2, st2, h2)) → iv_W p l e R s m args below meth c Q g nL c0 cF pc2 ls2 st2 h2)
    (kr : ∀ r h2, a = .inr (.inr (.inl (r, h2))) → (64 = 63 ∨ 64 = 64 ∨ 64 = 65) → iv_W p l e R s m args below meth c Q g nL c0 cF pc ls st h)
    (kc : ∀ y as ls2 st2 h2, a = .inr (.inr (.inr (y, as, ls2, st2, h2))) → ∃ d rv h', D = d + 1 ∧ iv_Met g l (iv_yn y).1 (iv_yw (iv_yn y)) d as h2 rv h' ∧ h'.1 ≤ cF ∧ iv_W p l e R s m args below meth c Q g nL c0 cF (pc + iv_len (64, ia, ib, iz, its)) ls2 (rv.toList ++ st2) h') : iv_W p l e R s m args below meth c Q g nL c0 cF pc ls st h := by
  obtain ⟨hx, hb, hml, hown, hts, hT, hV, hsz, hc8, hcF, hRm, ⟨hRf, hRl⟩, hsh, hin⟩ := Cx
  have e1 : ∃ r, a = .inr (.inr (.inl (r, h))) := iv_ret64 (i := (64, ia, ib, iz, its)) (ls := ls) hs
  obtain ⟨r, e1⟩ := e1
  exact kr r h e1 (Or.inr (Or.inl rfl))
set_option maxHeartbeats 1000000 in
theorem iv_d65 {ia ib : Nat} {iz : Int} {its : List Nat} (Cx : iv_Cx p m c s args R meth g nL c0 cF D o ini bs Ts) (hck : iv_ck bs o rt ini pc (65, ia, ib, iz, its) = true) (hs : iv_s (65, ia, ib, iz, its) ls st h = some a)
    (hlt : ∀ ls2 st2 h2, a = .inl (ls2, st2, h2) → h2.1 ≤ cF)
    (kn : ∀ ls2 st2 h2, a = .inl (ls2, st2, h2) → iv_W p l e R s m args below meth c Q g nL c0 cF (pc + iv_len (65, ia, ib, iz, its)) ls2 st2 h2)
    (kj : ∀ pc2 ls2 st2 h2, a = .inr (.inl (pc2, ls2, st2, h2)) → iv_W p l e R s m args below meth c Q g nL c0 cF pc2 ls2 st2 h2)
    (kr : ∀ r h2, a = .inr (.inr (.inl (r, h2))) → (65 = 63 ∨ 65 = 64 ∨ 65 = 65) → iv_W p l e R s m args below meth c Q g nL c0 cF pc ls st h)
    (kc : ∀ y as ls2 st2 h2, a = .inr (.inr (.inr (y, as, ls2, st2, h2))) → ∃ d rv h', D = d + 1 ∧ iv_Met g l (iv_yn y).1 (iv_yw (iv_yn y)) d as h2 rv h' ∧ h'.1 ≤ cF ∧ iv_W p l e R s m args below meth c Q g nL c0 cF (pc + iv_len (65, ia, ib, iz, its)) ls2 (rv.toList ++ st2) h') : iv_W p l e R s m args below meth c Q g nL c0 cF pc ls st h := by
  obtain ⟨hx, hb, hml, hown, hts, hT, hV, hsz, hc8, hcF, hRm, ⟨hRf, hRl⟩, hsh, hin⟩ := Cx
  have e1 : ∃ r, a = .inr (.inr (.inl (r, h))) := iv_ret65 (i := (65, ia, ib, iz, its)) (ls := ls) hs
  obtain ⟨r, e1⟩ := e1
  exact kr r h e1 (Or.inr (Or.inr rfl))
set_option maxHeartbeats 1000000 in
theorem iv_d66 {ia ib : Nat} {iz : Int} {its : List Nat} (Cx : iv_Cx p m c s args R meth g nL c0 cF D o ini bs Ts) (hck : iv_ck bs o rt ini pc (66, ia, ib, iz, its) = true) (hs : iv_s (66, ia, ib, iz, its) ls st h = some a)
    (hlt : ∀ ls2 st2 h2, a = .inl (ls2, st2, h2) → h2.1 ≤ cF)
    (kn : ∀ ls2 st2 h2, a = .inl (ls2, st2, h2) → iv_W p l e R s m args below meth c Q g nL c0 cF (pc + iv_len (66, ia, ib, iz, its)) ls2 st2 h2)
    (kj : ∀ pc2 ls2 st2 h2, a = .inr (.inl (pc2, ls2, st2, h2)) → iv_W p l e R s m args below meth c Q g nL c0 cF pc2 ls2 st2 h2)
    (kr : ∀ r h2, a = .inr (.inr (.inl (r, h2))) → (66 = 63 ∨ 66 = 64 ∨ 66 = 65) → iv_W p l e R s m args below meth c Q g nL c0 cF pc ls st h)
    (kc : ∀ y as ls2 st2 h2, a = .inr (.inr (.inr (y, as, ls2, st2, h2))) → ∃ d rv h', D = d + 1 ∧ iv_Met g l (iv_yn y).1 (iv_yw (iv_yn y)) d as h2 rv h' ∧ h'.1 ≤ cF ∧ iv_W p l e R s m args below meth c Q g nL c0 cF (pc + iv_len (66, ia, ib, iz, its)) ls2 (rv.toList ++ st2) h') : iv_W p l e R s m args below meth c Q g nL c0 cF pc ls st h := by
  obtain ⟨hx, hb, hml, hown, hts, hT, hV, hsz, hc8, hcF, hRm, ⟨hRf, hRl⟩, hsh, hin⟩ := Cx
  have h2 := Bool.and_eq_true_iff.mp hck
  have h3 := Bool.and_eq_true_iff.mp h2.2
  have h4 := Bool.and_eq_true_iff.mp h3.2
  have h5 := Bool.and_eq_true_iff.mp h4.2
  have h6 := Bool.and_eq_true_iff.mp h5.2
  have hoc := Bool.and_eq_true_iff.mp (show (decide (ia < 265) && decide ((iv_q ia).2.2.2.2.2.1 = ib)) = true from h5.1)
  have hy : ia < 265 := of_decide_eq_true hoc.1
  have hna : (iv_q ia).2.2.2.2.2.1 = ib := of_decide_eq_true hoc.2
  obtain ⟨o1, o2, o3, o4, o5, o6⟩ := iv_mt_ok ia (by omega)
  rw [hna] at o3
  have hyn : iv_yn ia = iv_q ia := by unfold iv_yn; rw [if_neg (by omega), if_neg (by omega)]
  have hk6 : (iv_q ia).2.2.2.2.1 < 6 := of_decide_eq_true h6.2
  have hts1 : its = [(iv_q ia).2.2.2.2.1] := of_decide_eq_true h6.1
  subst hts1
  obtain ⟨hr, hrc⟩ := iv_cr_ok _ hk6
  have hcall : ∃ as ls2 st2 h2, a = .inr (.inr (.inr (ia, as, ls2, st2, h2))) := iv_call66 hs
  obtain ⟨as, ls2, st2, h2', ea⟩ := hcall
  obtain ⟨d, rv, h', eD, hM, hle, hK⟩ := kc _ _ _ _ _ ea
  rw [hyn] at hM
  have kc2 : ∀ as3 ls3 st3 h3, a = .inr (.inr (.inr (ia, as3, ls3, st3, h3))) → iv_Met g l (iv_q ia).1 (iv_yw (iv_q ia)) d as3 h3 rv h' ∧ h'.1 ≤ cF ∧ iv_W p l e R s m args below meth c Q g nL c0 cF (pc + 3) ls3 (rv.toList ++ st3) h' := by
    intro as3 ls3 st3 h3 e3
    rw [ea] at e3
    cases e3
    exact ⟨hM, hle, hK⟩
  subst eD
  refine iv_c66 (i := (66, ia, ib, iz, [(iv_q ia).2.2.2.2.1])) hx hb hml (of_decide_eq_true h2.1) hown hts hV hsz hc8 hcF hRm hRf hRl hr hk6 ?_ rfl o2 ⟨by rw [hrc]; exact o1.symm, o4.1, o4.2, o3⟩ hs kc2
  refine iv_good_app hT (fun w hw => ?_) (iv_wc_in hy hT)
  simp only [List.mem_cons, List.not_mem_nil, or_false] at hw
  rw [hrc, o1] at hw
  rcases hw with rfl | rfl | rfl | rfl
  · exact iv_ml_in _ (List.mem_map.mpr ⟨_, of_decide_eq_true h3.1, rfl⟩)
  · exact iv_vl_in _ (List.mem_map.mpr ⟨_, of_decide_eq_true h4.1, rfl⟩)
  · exact iv_vs_in _ (List.mem_map.mpr ⟨_, of_decide_eq_true h4.1, rfl⟩)
  · rw [← o1]; exact iv_ini_c o6
set_option maxHeartbeats 1000000 in
theorem iv_d67 {ia ib : Nat} {iz : Int} {its : List Nat} (Cx : iv_Cx p m c s args R meth g nL c0 cF D o ini bs Ts) (hck : iv_ck bs o rt ini pc (67, ia, ib, iz, its) = true) (hs : iv_s (67, ia, ib, iz, its) ls st h = some a)
    (hlt : ∀ ls2 st2 h2, a = .inl (ls2, st2, h2) → h2.1 ≤ cF)
    (kn : ∀ ls2 st2 h2, a = .inl (ls2, st2, h2) → iv_W p l e R s m args below meth c Q g nL c0 cF (pc + iv_len (67, ia, ib, iz, its)) ls2 st2 h2)
    (kj : ∀ pc2 ls2 st2 h2, a = .inr (.inl (pc2, ls2, st2, h2)) → iv_W p l e R s m args below meth c Q g nL c0 cF pc2 ls2 st2 h2)
    (kr : ∀ r h2, a = .inr (.inr (.inl (r, h2))) → (67 = 63 ∨ 67 = 64 ∨ 67 = 65) → iv_W p l e R s m args below meth c Q g nL c0 cF pc ls st h)
    (kc : ∀ y as ls2 st2 h2, a = .inr (.inr (.inr (y, as, ls2, st2, h2))) → ∃ d rv h', D = d + 1 ∧ iv_Met g l (iv_yn y).1 (iv_yw (iv_yn y)) d as h2 rv h' ∧ h'.1 ≤ cF ∧ iv_W p l e R s m args below meth c Q g nL c0 cF (pc + iv_len (67, ia, ib, iz, its)) ls2 (rv.toList ++ st2) h') : iv_W p l e R s m args below meth c Q g nL c0 cF pc ls st h := by
  obtain ⟨hx, hb, hml, hown, hts, hT, hV, hsz, hc8, hcF, hRm, ⟨hRf, hRl⟩, hsh, hin⟩ := Cx
  have h2 := Bool.and_eq_true_iff.mp hck
  have h3 := Bool.and_eq_true_iff.mp h2.2
  have h4 := Bool.and_eq_true_iff.mp h3.2
  have hoc := Bool.and_eq_true_iff.mp (show (decide (ia < 265) && decide ((iv_q ia).2.2.2.2.2.1 = ib)) = true from h4.2)
  have hy : ia < 265 := of_decide_eq_true hoc.1
  have hna : (iv_q ia).2.2.2.2.2.1 = ib := of_decide_eq_true hoc.2
  obtain ⟨o1, o2, o3, o4, o5, o6⟩ := iv_mt_ok ia (by omega)
  rw [hna] at o3
  have hyn : iv_yn ia = iv_q ia := by unfold iv_yn; rw [if_neg (by omega), if_neg (by omega)]
  have hcall : ∃ as ls2 st2 h2, a = .inr (.inr (.inr (ia, as, ls2, st2, h2))) := iv_call67 hs
  obtain ⟨as, ls2, st2, h2', ea⟩ := hcall
  obtain ⟨d, rv, h', eD, hM, hle, hK⟩ := kc _ _ _ _ _ ea
  rw [hyn] at hM
  have kc2 : ∀ as3 ls3 st3 h3, a = .inr (.inr (.inr (ia, as3, ls3, st3, h3))) → iv_Met g l (iv_q ia).1 (iv_yw (iv_q ia)) d as3 h3 rv h' ∧ h'.1 ≤ cF ∧ iv_W p l e R s m args below meth c Q g nL c0 cF (pc + 3) ls3 (rv.toList ++ st3) h' := by
    intro as3 ls3 st3 h3 e3
    rw [ea] at e3
    cases e3
    exact ⟨hM, hle, hK⟩
  subst eD
  refine iv_c67 (i := (67, ia, ib, iz, its)) hx hb hml (of_decide_eq_true h2.1) hown hts hV hsz hc8 hcF hRm hRf hRl ?_ rfl o2 ⟨o4.1, o4.2, o3⟩ hs kc2
  refine iv_good_app hT (fun w hw => ?_) (iv_wc_in hy hT)
  simp only [List.mem_cons, List.not_mem_nil, or_false] at hw
  rcases hw with rfl | rfl | rfl
  · exact iv_ml_in _ (List.mem_map.mpr ⟨_, of_decide_eq_true h3.1, rfl⟩)
  · exact iv_sl_in _ (List.mem_map.mpr ⟨_, of_decide_eq_true h4.1, rfl⟩)
  · rw [← o1]; exact iv_ini_c o6
set_option maxHeartbeats 1000000 in
theorem iv_d68 {ia ib : Nat} {iz : Int} {its : List Nat} (Cx : iv_Cx p m c s args R meth g nL c0 cF D o ini bs Ts) (hck : iv_ck bs o rt ini pc (68, ia, ib, iz, its) = true) (hs : iv_s (68, ia, ib, iz, its) ls st h = some a)
    (hlt : ∀ ls2 st2 h2, a = .inl (ls2, st2, h2) → h2.1 ≤ cF)
    (kn : ∀ ls2 st2 h2, a = .inl (ls2, st2, h2) → iv_W p l e R s m args below meth c Q g nL c0 cF (pc + iv_len (68, ia, ib, iz, its)) ls2 st2 h2)
    (kj : ∀ pc2 ls2 st2 h2, a = .inr (.inl (pc2, ls2, st2, h2)) → iv_W p l e R s m args below meth c Q g nL c0 cF pc2 ls2 st2 h2)
    (kr : ∀ r h2, a = .inr (.inr (.inl (r, h2))) → (68 = 63 ∨ 68 = 64 ∨ 68 = 65) → iv_W p l e R s m args below meth c Q g nL c0 cF pc ls st h)
    (kc : ∀ y as ls2 st2 h2, a = .inr (.inr (.inr (y, as, ls2, st2, h2))) → ∃ d rv h', D = d + 1 ∧ iv_Met g l (iv_yn y).1 (iv_yw (iv_yn y)) d as h2 rv h' ∧ h'.1 ≤ cF ∧ iv_W p l e R s m args below meth c Q g nL c0 cF (pc + iv_len (68, ia, ib, iz, its)) ls2 (rv.toList ++ st2) h') : iv_W p l e R s m args below meth c Q g nL c0 cF pc ls st h := by
  obtain ⟨hx, hb, hml, hown, hts, hT, hV, hsz, hc8, hcF, hRm, ⟨hRf, hRl⟩, hsh, hin⟩ := Cx
  have h2 := Bool.and_eq_true_iff.mp hck
  have h3 := Bool.and_eq_true_iff.mp h2.2
  have h4 := Bool.and_eq_true_iff.mp h3.2
  have h5 := Bool.and_eq_true_iff.mp h4.2
  have h6 := Bool.and_eq_true_iff.mp h5.2
  have hoc := Bool.and_eq_true_iff.mp (show (decide (ia < 265) && decide ((iv_q ia).2.2.2.2.2.1 = ib)) = true from h5.1)
  have hy : ia < 265 := of_decide_eq_true hoc.1
  have hna : (iv_q ia).2.2.2.2.2.1 = ib := of_decide_eq_true hoc.2
  obtain ⟨o1, o2, o3, o4, o5, o6⟩ := iv_mt_ok ia (by omega)
  rw [hna] at o3
  have hyn : iv_yn ia = iv_q ia := by unfold iv_yn; rw [if_neg (by omega), if_neg (by omega)]
  have hcall : ∃ as ls2 st2 h2, a = .inr (.inr (.inr (ia, as, ls2, st2, h2))) := iv_call66 hs
  obtain ⟨as, ls2, st2, h2', ea⟩ := hcall
  obtain ⟨d, rv, h', eD, hM, hle, hK⟩ := kc _ _ _ _ _ ea
  rw [hyn] at hM
  have kc2 : ∀ as3 ls3 st3 h3, a = .inr (.inr (.inr (ia, as3, ls3, st3, h3))) → iv_Met g l (iv_q ia).1 (iv_yw (iv_q ia)) d as3 h3 rv h' ∧ h'.1 ≤ cF ∧ iv_W p l e R s m args below meth c Q g nL c0 cF (pc + 3) ls3 (rv.toList ++ st3) h' := by
    intro as3 ls3 st3 h3 e3
    rw [ea] at e3
    cases e3
    exact ⟨hM, hle, hK⟩
  subst eD
  have hrn : (iv_q ia).2.2.2.1 = none := of_decide_eq_true h6.2
  exact iv_c68 (i := (68, ia, ib, iz, its)) (bytes := (iv_q ia).2.1) (maxL := (iv_q ia).2.2.1) (ws' := iv_tbl) hx hb hml (of_decide_eq_true h2.1) hown hts hV hsz hc8 hcF hRm hRf hRl (iv_wc_in hy hT) (hts _ (hT _ (iv_ml_in _ (List.mem_map.mpr ⟨_, of_decide_eq_true h3.1, rfl⟩)))) (by rw [← o1]; exact hts _ (hT _ (iv_ini_c o6))) (hts _ (hT _ (iv_il_in _ (List.mem_map.mpr ⟨_, of_decide_eq_true h4.1, rfl⟩)))) (of_decide_eq_true h6.1) (by unfold iv_yw iv_wc; rw [hrn]) o2 ⟨o4.1, o4.2, o3⟩ hs kc2
set_option maxHeartbeats 1000000 in
theorem iv_d69 {ia ib : Nat} {iz : Int} {its : List Nat} (Cx : iv_Cx p m c s args R meth g nL c0 cF D o ini bs Ts) (hck : iv_ck bs o rt ini pc (69, ia, ib, iz, its) = true) (hs : iv_s (69, ia, ib, iz, its) ls st h = some a)
    (hlt : ∀ ls2 st2 h2, a = .inl (ls2, st2, h2) → h2.1 ≤ cF)
    (kn : ∀ ls2 st2 h2, a = .inl (ls2, st2, h2) → iv_W p l e R s m args below meth c Q g nL c0 cF (pc + iv_len (69, ia, ib, iz, its)) ls2 st2 h2)
    (kj : ∀ pc2 ls2 st2 h2, a = .inr (.inl (pc2, ls2, st2, h2)) → iv_W p l e R s m args below meth c Q g nL c0 cF pc2 ls2 st2 h2)
    (kr : ∀ r h2, a = .inr (.inr (.inl (r, h2))) → (69 = 63 ∨ 69 = 64 ∨ 69 = 65) → iv_W p l e R s m args below meth c Q g nL c0 cF pc ls st h)
    (kc : ∀ y as ls2 st2 h2, a = .inr (.inr (.inr (y, as, ls2, st2, h2))) → ∃ d rv h', D = d + 1 ∧ iv_Met g l (iv_yn y).1 (iv_yw (iv_yn y)) d as h2 rv h' ∧ h'.1 ≤ cF ∧ iv_W p l e R s m args below meth c Q g nL c0 cF (pc + iv_len (69, ia, ib, iz, its)) ls2 (rv.toList ++ st2) h') : iv_W p l e R s m args below meth c Q g nL c0 cF pc ls st h := by
  obtain ⟨hx, hb, hml, hown, hts, hT, hV, hsz, hc8, hcF, hRm, ⟨hRf, hRl⟩, hsh, hin⟩ := Cx
  have h2 := Bool.and_eq_true_iff.mp hck
  exact iv_c69 (i := (69, ia, ib, iz, its)) hx hb hml (of_decide_eq_true h2.1) hown (hts _ (hT _ (iv_ob_in _ (List.mem_map.mpr ⟨_, of_decide_eq_true h2.2, rfl⟩)))) (hts _ (hT _ (iv_oi_in _ (List.mem_of_getElem? (i := 0) rfl)))) (hts _ (hT _ (iv_oi_in _ (List.mem_of_getElem? (i := 1) rfl)))) (by omega) (by omega) hs kn
set_option maxHeartbeats 1000000 in
theorem iv_d70 {ia ib : Nat} {iz : Int} {its : List Nat} (Cx : iv_Cx p m c s args R meth g nL c0 cF D o ini bs Ts) (hck : iv_ck bs o rt ini pc (70, ia, ib, iz, its) = true) (hs : iv_s (70, ia, ib, iz, its) ls st h = some a)
    (hlt : ∀ ls2 st2 h2, a = .inl (ls2, st2, h2) → h2.1 ≤ cF)
    (kn : ∀ ls2 st2 h2, a = .inl (ls2, st2, h2) → iv_W p l e R s m args below meth c Q g nL c0 cF (pc + iv_len (70, ia, ib, iz, its)) ls2 st2 h2)
    (kj : ∀ pc2 ls2 st2 h2, a = .inr (.inl (pc2, ls2, st2, h2)) → iv_W p l e R s m args below meth c Q g nL c0 cF pc2 ls2 st2 h2)
    (kr : ∀ r h2, a = .inr (.inr (.inl (r, h2))) → (70 = 63 ∨ 70 = 64 ∨ 70 = 65) → iv_W p l e R s m args below meth c Q g nL c0 cF pc ls st h)
    (kc : ∀ y as ls2 st2 h2, a = .inr (.inr (.inr (y, as, ls2, st2, h2))) → ∃ d rv h', D = d + 1 ∧ iv_Met g l (iv_yn y).1 (iv_yw (iv_yn y)) d as h2 rv h' ∧ h'.1 ≤ cF ∧ iv_W p l e R s m args below meth c Q g nL c0 cF (pc + iv_len (70, ia, ib, iz, its)) ls2 (rv.toList ++ st2) h') : iv_W p l e R s m args below meth c Q g nL c0 cF pc ls st h := by
  obtain ⟨hx, hb, hml, hown, hts, hT, hV, hsz, hc8, hcF, hRm, ⟨hRf, hRl⟩, hsh, hin⟩ := Cx
  have h2 := Bool.and_eq_true_iff.mp hck
  have h3 := Bool.and_eq_true_iff.mp h2.2
  have e1 : o = 4 := of_decide_eq_true h3.1
  have e2 : iz = 86 := of_decide_eq_true h3.2
  subst e1
  subst e2
  have hnf : 8 + (nativeFrameWords "java/lang/System" "arraycopy" 5 + 11) ≤ 200 := by decide +kernel
  exact iv_c70 (i := (70, ia, ib, 86, its)) hx hb hml (of_decide_eq_true h2.1) hown hV (hts _ (hT _ (iv_ac_in _ (List.mem_of_getElem? (i := 0) rfl)))) (hts _ (hT _ (iv_ac_in _ (List.mem_of_getElem? (i := 1) rfl)))) (hts _ (hT _ (iv_ac_in _ (List.mem_of_getElem? (i := 2) rfl)))) (hts _ (hT _ (iv_ac_in _ (List.mem_of_getElem? (i := 3) rfl)))) (by omega) (by omega) hs kn
set_option maxHeartbeats 1000000 in
theorem iv_d71 {ia ib : Nat} {iz : Int} {its : List Nat} (Cx : iv_Cx p m c s args R meth g nL c0 cF D o ini bs Ts) (hck : iv_ck bs o rt ini pc (71, ia, ib, iz, its) = true) (hs : iv_s (71, ia, ib, iz, its) ls st h = some a)
    (hlt : ∀ ls2 st2 h2, a = .inl (ls2, st2, h2) → h2.1 ≤ cF)
    (kn : ∀ ls2 st2 h2, a = .inl (ls2, st2, h2) → iv_W p l e R s m args below meth c Q g nL c0 cF (pc + iv_len (71, ia, ib, iz, its)) ls2 st2 h2)
    (kj : ∀ pc2 ls2 st2 h2, a = .inr (.inl (pc2, ls2, st2, h2)) → iv_W p l e R s m args below meth c Q g nL c0 cF pc2 ls2 st2 h2)
    (kr : ∀ r h2, a = .inr (.inr (.inl (r, h2))) → (71 = 63 ∨ 71 = 64 ∨ 71 = 65) → iv_W p l e R s m args below meth c Q g nL c0 cF pc ls st h)
    (kc : ∀ y as ls2 st2 h2, a = .inr (.inr (.inr (y, as, ls2, st2, h2))) → ∃ d rv h', D = d + 1 ∧ iv_Met g l (iv_yn y).1 (iv_yw (iv_yn y)) d as h2 rv h' ∧ h'.1 ≤ cF ∧ iv_W p l e R s m args below meth c Q g nL c0 cF (pc + iv_len (71, ia, ib, iz, its)) ls2 (rv.toList ++ st2) h') : iv_W p l e R s m args below meth c Q g nL c0 cF pc ls st h := by
  obtain ⟨hx, hb, hml, hown, hts, hT, hV, hsz, hc8, hcF, hRm, ⟨hRf, hRl⟩, hsh, hin⟩ := Cx
  have e1 : ia = pc := of_decide_eq_true hck
  obtain rfl := Option.some.inj hs
  rw [← e1]
  exact kj _ _ _ _ rfl
set_option maxHeartbeats 1000000 in
theorem iv_d72 {ia ib : Nat} {iz : Int} {its : List Nat} (Cx : iv_Cx p m c s args R meth g nL c0 cF D o ini bs Ts) (hck : iv_ck bs o rt ini pc (72, ia, ib, iz, its) = true) (hs : iv_s (72, ia, ib, iz, its) ls st h = some a)
    (hlt : ∀ ls2 st2 h2, a = .inl (ls2, st2, h2) → h2.1 ≤ cF)
    (kn : ∀ ls2 st2 h2, a = .inl (ls2, st2, h2) → iv_W p l e R s m args below meth c Q g nL c0 cF (pc + iv_len (72, ia, ib, iz, its)) ls2 st2 h2)
    (kj : ∀ pc2 ls2 st2 h2, a = .inr (.inl (pc2, ls2, st2, h2)) → iv_W p l e R s m args below meth c Q g nL c0 cF pc2 ls2 st2 h2)
    (kr : ∀ r h2, a = .inr (.inr (.inl (r, h2))) → (72 = 63 ∨ 72 = 64 ∨ 72 = 65) → iv_W p l e R s m args below meth c Q g nL c0 cF pc ls st h)
    (kc : ∀ y as ls2 st2 h2, a = .inr (.inr (.inr (y, as, ls2, st2, h2))) → ∃ d rv h', D = d + 1 ∧ iv_Met g l (iv_yn y).1 (iv_yw (iv_yn y)) d as h2 rv h' ∧ h'.1 ≤ cF ∧ iv_W p l e R s m args below meth c Q g nL c0 cF (pc + iv_len (72, ia, ib, iz, its)) ls2 (rv.toList ++ st2) h') : iv_W p l e R s m args below meth c Q g nL c0 cF pc ls st h := by
  obtain ⟨hx, hb, hml, hown, hts, hT, hV, hsz, hc8, hcF, hRm, ⟨hRf, hRl⟩, hsh, hin⟩ := Cx
  have h2 := Bool.and_eq_true_iff.mp hck
  have h3 := Bool.and_eq_true_iff.mp h2.2
  have h4 := Bool.and_eq_true_iff.mp h3.2
  have hoc := Bool.and_eq_true_iff.mp (show (decide (ia < 265) && decide ((iv_q ia).2.2.2.2.2.1 = ib)) = true from h4.1)
  have hy : ia < 265 := of_decide_eq_true hoc.1
  have hna : (iv_q ia).2.2.2.2.2.1 = ib := of_decide_eq_true hoc.2
  obtain ⟨o1, o2, o3, o4, o5, o6⟩ := iv_mt_ok ia (by omega)
  rw [hna] at o3
  have hyn : iv_yn ia = iv_q ia := by unfold iv_yn; rw [if_neg (by omega), if_neg (by omega)]
  have hcall : ∃ as ls2 st2 h2, a = .inr (.inr (.inr (ia, as, ls2, st2, h2))) := iv_call67 hs
  obtain ⟨as, ls2, st2, h2', ea⟩ := hcall
  obtain ⟨d, rv, h', eD, hM, hle, hK⟩ := kc _ _ _ _ _ ea
  rw [hyn] at hM
  have kc2 : ∀ as3 ls3 st3 h3, a = .inr (.inr (.inr (ia, as3, ls3, st3, h3))) → iv_Met g l (iv_q ia).1 (iv_yw (iv_q ia)) d as3 h3 rv h' ∧ h'.1 ≤ cF ∧ iv_W p l e R s m args below meth c Q g nL c0 cF (pc + 3) ls3 (rv.toList ++ st3) h' := by
    intro as3 ls3 st3 h3 e3
    rw [ea] at e3
    cases e3
    exact ⟨hM, hle, hK⟩
  subst eD
  exact iv_c72 (i := (72, ia, ib, iz, its)) (host := RX4) hx hb hml (of_decide_eq_true h2.1) hown hts hV hsz hc8 hcF hRm hRf hRl (iv_wc_in hy hT) (hV.2.1 _ (of_decide_eq_true h4.2)) (by rw [← o1]; exact hts _ (hT _ (iv_ini_c o6))) (hts _ (hT _ (iv_sl_in _ (List.mem_map.mpr ⟨_, of_decide_eq_true h3.1, rfl⟩)))) rfl o2 ⟨o4.1, o4.2, o3⟩ hs kc2
set_option maxHeartbeats 1000000 in
theorem iv_d73 {ia ib : Nat} {iz : Int} {its : List Nat} (Cx : iv_Cx p m c s args R meth g nL c0 cF D o ini bs Ts) (hck : iv_ck bs o rt ini pc (73, ia, ib, iz, its) = true) (hs : iv_s (73, ia, ib, iz, its) ls st h = some a)
    (hlt : ∀ ls2 st2 h2, a = .inl (ls2, st2, h2) → h2.1 ≤ cF)
    (kn : ∀ ls2 st2 h2, a = .inl (ls2, st2, h2) → iv_W p l e R s m args below meth c Q g nL c0 cF (pc + iv_len (73, ia, ib, iz, its)) ls2 st2 h2)
    (kj : ∀ pc2 ls2 st2 h2, a = .inr (.inl (pc2, ls2, st2, h2)) → iv_W p l e R s m args below meth c Q g nL c0 cF pc2 ls2 st2 h2)
    (kr : ∀ r h2, a = .inr (.inr (.inl (r, h2))) → (73 = 63 ∨ 73 = 64 ∨ 73 = 65) → iv_W p l e R s m args below meth c Q g nL c0 cF pc ls st h)
    (kc : ∀ y as ls2 st2 h2, a = .inr (.inr (.inr (y, as, ls2, st2, h2))) → ∃ d rv h', D = d + 1 ∧ iv_Met g l (iv_yn y).1 (iv_yw (iv_yn y)) d as h2 rv h' ∧ h'.1 ≤ cF ∧ iv_W p l e R s m args below meth c Q g nL c0 cF (pc + iv_len (73, ia, ib, iz, its)) ls2 (rv.toList ++ st2) h') : iv_W p l e R s m args below meth c Q g nL c0 cF pc ls st h := by
  obtain ⟨hx, hb, hml, hown, hts, hT, hV, hsz, hc8, hcF, hRm, ⟨hRf, hRl⟩, hsh, hin⟩ := Cx
  have h2 := Bool.and_eq_true_iff.mp hck
  have h3 := Bool.and_eq_true_iff.mp h2.2
  have h4 := Bool.and_eq_true_iff.mp h3.2
  have hm : (o, iz.toNat, ia) ∈ iv_strl := of_decide_eq_true h3.1
  have hib : ib = ia - 1000 := of_decide_eq_true h4.1
  have hts1 : its = [12] := of_decide_eq_true h4.2
  subst hts1
  have hcall : ∃ as ls2 st2 h2, a = .inr (.inr (.inr (ia, as, ls2, st2, h2))) := iv_call66 hs
  obtain ⟨as, ls2, st2, h2', ea⟩ := hcall
  obtain ⟨d, rv, h', eD, hM, hle, hK⟩ := kc _ _ _ _ _ ea
  have kc2 : ∀ as3 ls3 st3 h3, a = .inr (.inr (.inr (ia, as3, ls3, st3, h3))) → iv_Met g l (iv_yn ia).1 (iv_yw (iv_yn ia)) d as3 h3 rv h' ∧ h'.1 ≤ cF ∧ iv_W p l e R s m args below meth c Q g nL c0 cF (pc + 3) ls3 (rv.toList ++ st3) h' := by
    intro as3 ls3 st3 h3 e3
    rw [ea] at e3
    cases e3
    exact ⟨hM, hle, hK⟩
  subst eD
  have hm2 : (o = 3 ∧ iz.toNat = 107 ∧ ia = 1000) ∨ (o = 5 ∧ iz.toNat = 130 ∧ ia = 1000) ∨ (o = 3 ∧ iz.toNat = 112 ∧ ia = 1001) ∨ (o = 5 ∧ iz.toNat = 135 ∧ ia = 1001) := by
    simpa [iv_strl] using hm
  have hd := of_decide_eq_true h2.1
  rcases hm2 with ⟨e1, e2, e3⟩ | ⟨e1, e2, e3⟩ | ⟨e1, e2, e3⟩ | ⟨e1, e2, e3⟩
  · subst e1
    subst e3
    subst hib
    refine iv_c73 hx hb hml hd hown hts hV hsz hc8 hcF hRm hRf hRl ?_ rfl (by decide) ⟨rfl, by decide, by decide, (by decide +kernel : (parseMethodDescriptor (iv_yn 1000).1.desc).map (fun d => d.parameters.length) = some (1000 - 1000))⟩ hs kc2
    refine iv_good_app hT (fun w hw => ?_) (iv_wsg iv_wyl_in hT)
    simp only [List.mem_cons, List.not_mem_nil, or_false] at hw
    rcases hw with rfl | rfl | rfl | rfl
    · exact (show Cond.methodLink RX3 iz.toNat iv_yl ∈ iv_tbl by rw [e2]; exact iv_sws_in _ (List.mem_of_getElem? (i := 23) rfl))
    · exact iv_sws_in _ (List.mem_of_getElem? (i := 19) rfl)
    · exact iv_sws_in _ (List.mem_of_getElem? (i := 20) rfl)
    · exact iv_sws_in _ (List.mem_of_getElem? (i := 7) rfl)
  · subst e1
    subst e3
    subst hib
    refine iv_c73 hx hb hml hd hown hts hV hsz hc8 hcF hRm hRf hRl ?_ rfl (by decide) ⟨rfl, by decide, by decide, (by decide +kernel : (parseMethodDescriptor (iv_yn 1000).1.desc).map (fun d => d.parameters.length) = some (1000 - 1000))⟩ hs kc2
    refine iv_good_app hT (fun w hw => ?_) (iv_wsg iv_wyl_in hT)
    simp only [List.mem_cons, List.not_mem_nil, or_false] at hw
    rcases hw with rfl | rfl | rfl | rfl
    · exact (show Cond.methodLink RX5 iz.toNat iv_yl ∈ iv_tbl by rw [e2]; exact iv_sws_in _ (List.mem_of_getElem? (i := 24) rfl))
    · exact iv_sws_in _ (List.mem_of_getElem? (i := 19) rfl)
    · exact iv_sws_in _ (List.mem_of_getElem? (i := 20) rfl)
    · exact iv_sws_in _ (List.mem_of_getElem? (i := 7) rfl)
  · subst e1
    subst e3
    subst hib
    refine iv_c73 hx hb hml hd hown hts hV hsz hc8 hcF hRm hRf hRl ?_ rfl (by decide) ⟨rfl, by decide, by decide, (by decide +kernel : (parseMethodDescriptor (iv_yn 1001).1.desc).map (fun d => d.parameters.length) = some (1001 - 1000))⟩ hs kc2
    refine iv_good_app hT (fun w hw => ?_) (iv_wsg iv_wyc_in hT)
    simp only [List.mem_cons, List.not_mem_nil, or_false] at hw
    rcases hw with rfl | rfl | rfl | rfl
    · exact (show Cond.methodLink RX3 iz.toNat iv_yc ∈ iv_tbl by rw [e2]; exact iv_sws_in _ (List.mem_of_getElem? (i := 25) rfl))
    · exact iv_sws_in _ (List.mem_of_getElem? (i := 21) rfl)
    · exact iv_sws_in _ (List.mem_of_getElem? (i := 22) rfl)
    · exact iv_sws_in _ (List.mem_of_getElem? (i := 7) rfl)
  · subst e1
    subst e3
    subst hib
    refine iv_c73 hx hb hml hd hown hts hV hsz hc8 hcF hRm hRf hRl ?_ rfl (by decide) ⟨rfl, by decide, by decide, (by decide +kernel : (parseMethodDescriptor (iv_yn 1001).1.desc).map (fun d => d.parameters.length) = some (1001 - 1000))⟩ hs kc2
    refine iv_good_app hT (fun w hw => ?_) (iv_wsg iv_wyc_in hT)
    simp only [List.mem_cons, List.not_mem_nil, or_false] at hw
    rcases hw with rfl | rfl | rfl | rfl
    · exact (show Cond.methodLink RX5 iz.toNat iv_yc ∈ iv_tbl by rw [e2]; exact iv_sws_in _ (List.mem_of_getElem? (i := 26) rfl))
    · exact iv_sws_in _ (List.mem_of_getElem? (i := 21) rfl)
    · exact iv_sws_in _ (List.mem_of_getElem? (i := 22) rfl)
    · exact iv_sws_in _ (List.mem_of_getElem? (i := 7) rfl)
set_option maxHeartbeats 1000000 in
theorem iv_d74 {ia ib : Nat} {iz : Int} {its : List Nat} (Cx : iv_Cx p m c s args R meth g nL c0 cF D o ini bs Ts) (hck : iv_ck bs o rt ini pc (74, ia, ib, iz, its) = true) (hs : iv_s (74, ia, ib, iz, its) ls st h = some a)
    (hlt : ∀ ls2 st2 h2, a = .inl (ls2, st2, h2) → h2.1 ≤ cF)
    (kn : ∀ ls2 st2 h2, a = .inl (ls2, st2, h2) → iv_W p l e R s m args below meth c Q g nL c0 cF (pc + iv_len (74, ia, ib, iz, its)) ls2 st2 h2)
    (kj : ∀ pc2 ls2 st2 h2, a = .inr (.inl (pc2, ls2, st2, h2)) → iv_W p l e R s m args below meth c Q g nL c0 cF pc2 ls2 st2 h2)
    (kr : ∀ r h2, a = .inr (.inr (.inl (r, h2))) → (74 = 63 ∨ 74 = 64 ∨ 74 = 65) → iv_W p l e R s m args below meth c Q g nL c0 cF pc ls st h)
    (kc : ∀ y as ls2 st2 h2, a = .inr (.inr (.inr (y, as, ls2, st2, h2))) → ∃ d rv h', D = d + 1 ∧ iv_Met g l (iv_yn y).1 (iv_yw (iv_yn y)) d as h2 rv h' ∧ h'.1 ≤ cF ∧ iv_W p l e R s m args below meth c Q g nL c0 cF (pc + iv_len (74, ia, ib, iz, its)) ls2 (rv.toList ++ st2) h') : iv_W p l e R s m args below meth c Q g nL c0 cF pc ls st h := by
  obtain ⟨hx, hb, hml, hown, hts, hT, hV, hsz, hc8, hcF, hRm, ⟨hRf, hRl⟩, hsh, hin⟩ := Cx
  cases hck
set_option maxHeartbeats 1000000 in
theorem iv_d75 {ia ib : Nat} {iz : Int} {its : List Nat} (Cx : iv_Cx p m c s args R meth g nL c0 cF D o ini bs Ts) (hck : iv_ck bs o rt ini pc (75, ia, ib, iz, its) = true) (hs : iv_s (75, ia, ib, iz, its) ls st h = some a)
    (hlt : ∀ ls2 st2 h2, a = .inl (ls2, st2, h2) → h2.1 ≤ cF)
    (kn : ∀ ls2 st2 h2, a = .inl (ls2, st2, h2) → iv_W p l e R s m args below meth c Q g nL c0 cF (pc + iv_len (75, ia, ib, iz, its)) ls2 st2 h2)
    (kj : ∀ pc2 ls2 st2 h2, a = .inr (.inl (pc2, ls2, st2, h2)) → iv_W p l e R s m args below meth c Q g nL c0 cF pc2 ls2 st2 h2)
    (kr : ∀ r h2, a = .inr (.inr (.inl (r, h2))) → (75 = 63 ∨ 75 = 64 ∨ 75 = 65) → iv_W p l e R s m args below meth c Q g nL c0 cF pc ls st h)
    (kc : ∀ y as ls2 st2 h2, a = .inr (.inr (.inr (y, as, ls2, st2, h2))) → ∃ d rv h', D = d + 1 ∧ iv_Met g l (iv_yn y).1 (iv_yw (iv_yn y)) d as h2 rv h' ∧ h'.1 ≤ cF ∧ iv_W p l e R s m args below meth c Q g nL c0 cF (pc + iv_len (75, ia, ib, iz, its)) ls2 (rv.toList ++ st2) h') : iv_W p l e R s m args below meth c Q g nL c0 cF pc ls st h := by
  obtain ⟨hx, hb, hml, hown, hts, hT, hV, hsz, hc8, hcF, hRm, ⟨hRf, hRl⟩, hsh, hin⟩ := Cx
  have h2 := Bool.and_eq_true_iff.mp hck
  have h3 := Bool.and_eq_true_iff.mp h2.2
  have h4 := Bool.and_eq_true_iff.mp h3.2
  have h5 := Bool.and_eq_true_iff.mp h4.2
  have h6 := Bool.and_eq_true_iff.mp h5.2
  have hoc := Bool.and_eq_true_iff.mp (show (decide (ia < 265) && decide ((iv_q ia).2.2.2.2.2.1 = ib)) = true from h4.1)
  have hy : ia < 265 := of_decide_eq_true hoc.1
  have hna : (iv_q ia).2.2.2.2.2.1 = ib := of_decide_eq_true hoc.2
  obtain ⟨o1, o2, o3, o4, o5, o6⟩ := iv_mt_ok ia (by omega)
  rw [hna] at o3
  have hyn : iv_yn ia = iv_q ia := by unfold iv_yn; rw [if_neg (by omega), if_neg (by omega)]
  have hcall : ∃ as ls2 st2 h2, a = .inr (.inr (.inr (ia, as, ls2, st2, h2))) := iv_call66 hs
  obtain ⟨as, ls2, st2, h2', ea⟩ := hcall
  obtain ⟨d, rv, h', eD, hM, hle, hK⟩ := kc _ _ _ _ _ ea
  rw [hyn] at hM
  have kc2 : ∀ as3 ls3 st3 h3, a = .inr (.inr (.inr (ia, as3, ls3, st3, h3))) → iv_Met g l (iv_q ia).1 (iv_yw (iv_q ia)) d as3 h3 rv h' ∧ h'.1 ≤ cF ∧ iv_W p l e R s m args below meth c Q g nL c0 cF (pc + 3) ls3 (rv.toList ++ st3) h' := by
    intro as3 ls3 st3 h3 e3
    rw [ea] at e3
    cases e3
    exact ⟨hM, hle, hK⟩
  subst eD
  have hrn : (iv_q ia).2.2.2.1 = none := of_decide_eq_true h6.1
  exact iv_c75 (i := (75, ia, ib, iz, its)) (host := RX4) (bytes := (iv_q ia).2.1) (maxL := (iv_q ia).2.2.1) (ws' := iv_tbl) hx hb hml (of_decide_eq_true h2.1) hown hts hV hsz hc8 hcF hRm hRf hRl (iv_wc_in hy hT) (hV.2.1 _ (of_decide_eq_true h6.2)) (by rw [← o1]; exact hts _ (hT _ (iv_ini_c o6))) (hts _ (hT _ (iv_il_in _ (List.mem_map.mpr ⟨_, of_decide_eq_true h3.1, rfl⟩)))) (of_decide_eq_true h5.1) (by unfold iv_yw iv_wc; rw [hrn]) o2 ⟨o4.1, o4.2, o3⟩ hs kc2
set_option maxHeartbeats 1000000 in
theorem iv_d76 {ia ib : Nat} {iz : Int} {its : List Nat} (Cx : iv_Cx p m c s args R meth g nL c0 cF D o ini bs Ts) (hck : iv_ck bs o rt ini pc (76, ia, ib, iz, its) = true) (hs : iv_s (76, ia, ib, iz, its) ls st h = some a)
    (hlt : ∀ ls2 st2 h2, a = .inl (ls2, st2, h2) → h2.1 ≤ cF)
    (kn : ∀ ls2 st2 h2, a = .inl (ls2, st2, h2) → iv_W p l e R s m args below meth c Q g nL c0 cF (pc + iv_len (76, ia, ib, iz, its)) ls2 st2 h2)
    (kj : ∀ pc2 ls2 st2 h2, a = .inr (.inl (pc2, ls2, st2, h2)) → iv_W p l e R s m args below meth c Q g nL c0 cF pc2 ls2 st2 h2)
    (kr : ∀ r h2, a = .inr (.inr (.inl (r, h2))) → (76 = 63 ∨ 76 = 64 ∨ 76 = 65) → iv_W p l e R s m args below meth c Q g nL c0 cF pc ls st h)
    (kc : ∀ y as ls2 st2 h2, a = .inr (.inr (.inr (y, as, ls2, st2, h2))) → ∃ d rv h', D = d + 1 ∧ iv_Met g l (iv_yn y).1 (iv_yw (iv_yn y)) d as h2 rv h' ∧ h'.1 ≤ cF ∧ iv_W p l e R s m args below meth c Q g nL c0 cF (pc + iv_len (76, ia, ib, iz, its)) ls2 (rv.toList ++ st2) h') : iv_W p l e R s m args below meth c Q g nL c0 cF pc ls st h := by
  obtain ⟨hx, hb, hml, hown, hts, hT, hV, hsz, hc8, hcF, hRm, ⟨hRf, hRl⟩, hsh, hin⟩ := Cx
  have h2 := Bool.and_eq_true_iff.mp hck
  have h3 := Bool.and_eq_true_iff.mp h2.2
  have h4 := Bool.and_eq_true_iff.mp h3.2
  have h5 := Bool.and_eq_true_iff.mp h4.2
  have h6 : ia < 6 := of_decide_eq_true h4.1
  have hk : ib < (iv_cr ia).2.2 := of_decide_eq_true h5.1
  have hlk := hts _ (hT _ (iv_fl_in _ (List.mem_map.mpr ⟨_, of_decide_eq_true h3.1, rfl⟩)))
  have hd := of_decide_eq_true h2.1
  obtain ⟨hr, hrc⟩ := iv_cr_ok ia h6
  have hfo := iv_fd_ok ia h6 ib hk
  have huin : ∀ w ∈ u_ws (iv_cr ia).1 (iv_cr ia).2.1 (iv_cr ia).2.2, w ∈ Ts := fun w hw => hT w (iv_u_in ia h6 w hw)
  have hf : iv_f ia ib = 1 := of_decide_eq_true h5.2
  exact iv_c76 (i := (76, ia, ib, iz, its)) hx hb hd hown hts hV hr huin hk hlk hfo.1 h6 (iv_ty ia) (iv_ty_ok ia h6).1 (iv_ty_ok ia h6).2.2 (hfo.2.2 hf).1 (hfo.2.2 hf).2 (by show ¬ iv_f ia ib = 2; omega) hs kn
set_option maxHeartbeats 1000000 in
theorem iv_d77 {ia ib : Nat} {iz : Int} {its : List Nat} (Cx : iv_Cx p m c s args R meth g nL c0 cF D o ini bs Ts) (hck : iv_ck bs o rt ini pc (77, ia, ib, iz, its) = true) (hs : iv_s (77, ia, ib, iz, its) ls st h = some a)
    (hlt : ∀ ls2 st2 h2, a = .inl (ls2, st2, h2) → h2.1 ≤ cF)
    (kn : ∀ ls2 st2 h2, a = .inl (ls2, st2, h2) → iv_W p l e R s m args below meth c Q g nL c0 cF (pc + iv_len (77, ia, ib, iz, its)) ls2 st2 h2)
    (kj : ∀ pc2 ls2 st2 h2, a = .inr (.inl (pc2, ls2, st2, h2)) → iv_W p l e R s m args below meth c Q g nL c0 cF pc2 ls2 st2 h2)
    (kr : ∀ r h2, a = .inr (.inr (.inl (r, h2))) → (77 = 63 ∨ 77 = 64 ∨ 77 = 65) → iv_W p l e R s m args below meth c Q g nL c0 cF pc ls st h)
    (kc : ∀ y as ls2 st2 h2, a = .inr (.inr (.inr (y, as, ls2, st2, h2))) → ∃ d rv h', D = d + 1 ∧ iv_Met g l (iv_yn y).1 (iv_yw (iv_yn y)) d as h2 rv h' ∧ h'.1 ≤ cF ∧ iv_W p l e R s m args below meth c Q g nL c0 cF (pc + iv_len (77, ia, ib, iz, its)) ls2 (rv.toList ++ st2) h') : iv_W p l e R s m args below meth c Q g nL c0 cF pc ls st h := by
  obtain ⟨hx, hb, hml, hown, hts, hT, hV, hsz, hc8, hcF, hRm, ⟨hRf, hRl⟩, hsh, hin⟩ := Cx
  have h2 := Bool.and_eq_true_iff.mp hck
  have h3 := Bool.and_eq_true_iff.mp h2.2
  have h4 := Bool.and_eq_true_iff.mp h3.2
  have h5 := Bool.and_eq_true_iff.mp h4.2
  have h6 : ia < 6 := of_decide_eq_true h4.1
  have hk : ib < (iv_cr ia).2.2 := of_decide_eq_true h5.1
  have hlk := hts _ (hT _ (iv_fl_in _ (List.mem_map.mpr ⟨_, of_decide_eq_true h3.1, rfl⟩)))
  have hd := of_decide_eq_true h2.1
  obtain ⟨hr, hrc⟩ := iv_cr_ok ia h6
  have hfo := iv_fd_ok ia h6 ib hk
  have huin : ∀ w ∈ u_ws (iv_cr ia).1 (iv_cr ia).2.1 (iv_cr ia).2.2, w ∈ Ts := fun w hw => hT w (iv_u_in ia h6 w hw)
  have h7 := Bool.and_eq_true_iff.mp h5.2
  have h8 := Bool.and_eq_true_iff.mp h7.2
  have hf : iv_f ia ib = 2 := of_decide_eq_true h7.1
  have hoa : o = ia := of_decide_eq_true h8.2
  obtain ⟨r1, r2⟩ := iv_rf_ok ia h6 ib hk hf
  exact iv_c77 (i := (77, ia, ib, iz, its)) hx hb hd hown hts hV hr huin hk hlk hfo.1 h6 (iv_ty ia) (iv_ty_ok ia h6).1 (iv_ty_ok ia h6).2.2 r1 (hin h8.1) (by rw [hoa, ← hrc]; exact hfo.1) ((iv_ty_ok ia h6).1 ib hk) (fun q => iv_ref_fit r2 q) hf hs kn
set_option maxHeartbeats 4000000 in
theorem iv_step (Cx : iv_Cx p m c s args R meth g nL c0 cF D o ini bs Ts) (hck : iv_ck bs o rt ini pc i = true) (hs : iv_s i ls st h = some a)
    (hlt : ∀ ls2 st2 h2, a = .inl (ls2, st2, h2) → h2.1 ≤ cF)
    (kn : ∀ ls2 st2 h2, a = .inl (ls2, st2, h2) → iv_W p l e R s m args below meth c Q g nL c0 cF (pc + iv_len i) ls2 st2 h2)
    (kj : ∀ pc2 ls2 st2 h2, a = .inr (.inl (pc2, ls2, st2, h2)) → iv_W p l e R s m args below meth c Q g nL c0 cF pc2 ls2 st2 h2)
    (kr : ∀ r h2, a = .inr (.inr (.inl (r, h2))) → (i.1 = 63 ∨ i.1 = 64 ∨ i.1 = 65) → iv_W p l e R s m args below meth c Q g nL c0 cF pc ls st h)
    (kc : ∀ y as ls2 st2 h2, a = .inr (.inr (.inr (y, as, ls2, st2, h2))) → ∃ d rv h', D = d + 1 ∧ iv_Met g l (iv_yn y).1 (iv_yw (iv_yn y)) d as h2 rv h' ∧ h'.1 ≤ cF ∧ iv_W p l e R s m args below meth c Q g nL c0 cF (pc + iv_len i) ls2 (rv.toList ++ st2) h') : iv_W p l e R s m args below meth c Q g nL c0 cF pc ls st h := by
  obtain ⟨op, ia, ib, iz, its⟩ := i
  by_cases e0 : op = 0
  · subst e0; exact iv_d0 Cx hck hs hlt kn kj kr kc
  by_cases e1 : op = 1
  · subst e1; exact iv_d1 Cx hck hs hlt kn kj kr kc
  by_cases e2 : op = 2
  · subst e2; exact iv_d2 Cx hck hs hlt kn kj kr kc
  by_cases e3 : op = 3
  · subst e3; exact iv_d3 Cx hck hs hlt kn kj kr kc
  by_cases e4 : op = 4
  · subst e4; exact iv_d4 Cx hck hs hlt kn kj kr kc
  by_cases e5 : op = 5
  · subst e5; exact iv_d5 Cx hck hs hlt kn kj kr kc
  by_cases e6 : op = 6
  · subst e6; exact iv_d6 Cx hck hs hlt kn kj kr kc
  by_cases e7 : op = 7
  · subst e7; exact iv_d7 Cx hck hs hlt kn kj kr kc
  by_cases e8 : op = 8
  · subst e8; exact iv_d8 Cx hck hs hlt kn kj kr kc
  by_cases e9 : op = 9
  · subst e9; exact iv_d9 Cx hck hs hlt kn kj kr kc
  by_cases e10 : op = 10
  · subst e10; exact iv_d10 Cx hck hs hlt kn kj kr kc
  by_cases e11 : op = 11
  · subst e11; exact iv_d11 Cx hck hs hlt kn kj kr kc
  by_cases e12 : op = 12
  · subst e12; exact iv_d12 Cx hck hs hlt kn kj kr kc
  by_cases e13 : op = 13
  · subst e13; exact iv_d13 Cx hck hs hlt kn kj kr kc
  by_cases e14 : op = 14
  · subst e14; exact iv_d14 Cx hck hs hlt kn kj kr kc
  by_cases e15 : op = 15
  · subst e15; exact iv_d15 Cx hck hs hlt kn kj kr kc
  by_cases e16 : op = 16
  · subst e16; exact iv_d16 Cx hck hs hlt kn kj kr kc
  by_cases e17 : op = 17
  · subst e17; exact iv_d17 Cx hck hs hlt kn kj kr kc
  by_cases e18 : op = 18
  · subst e18; exact iv_d18 Cx hck hs hlt kn kj kr kc
  by_cases e19 : op = 19
  · subst e19; exact iv_d19 Cx hck hs hlt kn kj kr kc
  by_cases e20 : op = 20
  · subst e20; exact iv_d20 Cx hck hs hlt kn kj kr kc
  by_cases e21 : op = 21
  · subst e21; exact iv_d21 Cx hck hs hlt kn kj kr kc
  by_cases e22 : op = 22
  · subst e22; exact iv_d22 Cx hck hs hlt kn kj kr kc
  by_cases e23 : op = 23
  · subst e23; exact iv_d23 Cx hck hs hlt kn kj kr kc
  by_cases e24 : op = 24
  · subst e24; exact iv_d24 Cx hck hs hlt kn kj kr kc
  by_cases e25 : op = 25
  · subst e25; exact iv_d25 Cx hck hs hlt kn kj kr kc
  by_cases e26 : op = 26
  · subst e26; exact iv_d26 Cx hck hs hlt kn kj kr kc
  by_cases e27 : op = 27
  · subst e27; exact iv_d27 Cx hck hs hlt kn kj kr kc
  by_cases e28 : op = 28
  · subst e28; exact iv_d28 Cx hck hs hlt kn kj kr kc
  by_cases e29 : op = 29
  · subst e29; exact iv_d29 Cx hck hs hlt kn kj kr kc
  by_cases e30 : op = 30
  · subst e30; exact iv_d30 Cx hck hs hlt kn kj kr kc
  by_cases e31 : op = 31
  · subst e31; exact iv_d31 Cx hck hs hlt kn kj kr kc
  by_cases e32 : op = 32
  · subst e32; exact iv_d32 Cx hck hs hlt kn kj kr kc
  by_cases e33 : op = 33
  · subst e33; exact iv_d33 Cx hck hs hlt kn kj kr kc
  by_cases e34 : op = 34
  · subst e34; exact iv_d34 Cx hck hs hlt kn kj kr kc
  by_cases e35 : op = 35
  · subst e35; exact iv_d35 Cx hck hs hlt kn kj kr kc
  by_cases e36 : op = 36
  · subst e36; exact iv_d36 Cx hck hs hlt kn kj kr kc
  by_cases e37 : op = 37
  · subst e37; exact iv_d37 Cx hck hs hlt kn kj kr kc
  by_cases e38 : op = 38
  · subst e38; exact iv_d38 Cx hck hs hlt kn kj kr kc
  by_cases e39 : op = 39
  · subst e39; exact iv_d39 Cx hck hs hlt kn kj kr kc
  by_cases e40 : op = 40
  · subst e40; exact iv_d40 Cx hck hs hlt kn kj kr kc
  by_cases e41 : op = 41
  · subst e41; exact iv_d41 Cx hck hs hlt kn kj kr kc
  by_cases e42 : op = 42
  · subst e42; exact iv_d42 Cx hck hs hlt kn kj kr kc
  by_cases e43 : op = 43
  · subst e43; exact iv_d43 Cx hck hs hlt kn kj kr kc
  by_cases e44 : op = 44
  · subst e44; exact iv_d44 Cx hck hs hlt kn kj kr kc
  by_cases e45 : op = 45
  · subst e45; exact iv_d45 Cx hck hs hlt kn kj kr kc
  by_cases e46 : op = 46
  · subst e46; exact iv_d46 Cx hck hs hlt kn kj kr kc
  by_cases e47 : op = 47
  · subst e47; exact iv_d47 Cx hck hs hlt kn kj kr kc
  by_cases e48 : op = 48
  · subst e48; exact iv_d48 Cx hck hs hlt kn kj kr kc
  by_cases e49 : op = 49
  · subst e49; exact iv_d49 Cx hck hs hlt kn kj kr kc
  by_cases e50 : op = 50
  · subst e50; exact iv_d50 Cx hck hs hlt kn kj kr kc
  by_cases e51 : op = 51
  · subst e51; exact iv_d51 Cx hck hs hlt kn kj kr kc
  by_cases e52 : op = 52
  · subst e52; exact iv_d52 Cx hck hs hlt kn kj kr kc
  by_cases e53 : op = 53
  · subst e53; exact iv_d53 Cx hck hs hlt kn kj kr kc
  by_cases e54 : op = 54
  · subst e54; exact iv_d54 Cx hck hs hlt kn kj kr kc
  by_cases e55 : op = 55
  · subst e55; exact iv_d55 Cx hck hs hlt kn kj kr kc
  by_cases e56 : op = 56
  · subst e56; exact iv_d56 Cx hck hs hlt kn kj kr kc
  by_cases e57 : op = 57
  · subst e57; exact iv_d57 Cx hck hs hlt kn kj kr kc
  by_cases e58 : op = 58
  · subst e58; exact iv_d58 Cx hck hs hlt kn kj kr kc
  by_cases e59 : op = 59
  · subst e59; exact iv_d59 Cx hck hs hlt kn kj kr kc
  by_cases e60 : op = 60
  · subst e60; exact iv_d60 Cx hck hs hlt kn kj kr kc
  by_cases e61 : op = 61
  · subst e61; exact iv_d61 Cx hck hs hlt kn kj kr kc
  by_cases e62 : op = 62
  · subst e62; exact iv_d62 Cx hck hs hlt kn kj kr kc
  by_cases e63 : op = 63
  · subst e63; exact iv_d63 Cx hck hs hlt kn kj kr kc
  by_cases e64 : op = 64
  · subst e64; exact iv_d64 Cx hck hs hlt kn kj kr kc
  by_cases e65 : op = 65
  · subst e65; exact iv_d65 Cx hck hs hlt kn kj kr kc
  by_cases e66 : op = 66
  · subst e66; exact iv_d66 Cx hck hs hlt kn kj kr kc
  by_cases e67 : op = 67
  · subst e67; exact iv_d67 Cx hck hs hlt kn kj kr kc
  by_cases e68 : op = 68
  · subst e68; exact iv_d68 Cx hck hs hlt kn kj kr kc
  by_cases e69 : op = 69
  · subst e69; exact iv_d69 Cx hck hs hlt kn kj kr kc
  by_cases e70 : op = 70
  · subst e70; exact iv_d70 Cx hck hs hlt kn kj kr kc
  by_cases e71 : op = 71
  · subst e71; exact iv_d71 Cx hck hs hlt kn kj kr kc
  by_cases e72 : op = 72
  · subst e72; exact iv_d72 Cx hck hs hlt kn kj kr kc
  by_cases e73 : op = 73
  · subst e73; exact iv_d73 Cx hck hs hlt kn kj kr kc
  by_cases e74 : op = 74
  · subst e74; exact iv_d74 Cx hck hs hlt kn kj kr kc
  by_cases e75 : op = 75
  · subst e75; exact iv_d75 Cx hck hs hlt kn kj kr kc
  by_cases e76 : op = 76
  · subst e76; exact iv_d76 Cx hck hs hlt kn kj kr kc
  by_cases e77 : op = 77
  · subst e77; exact iv_d77 Cx hck hs hlt kn kj kr kc
  exfalso
  have hl : iv_hs.length ≤ op := by show 78 ≤ op; omega
  have : iv_ck bs o rt ini pc (op, ia, ib, iz, its) = false := by
    unfold iv_ck
    rw [List.getD_eq_getElem?_getD, List.getElem?_eq_none hl]
    rfl
  rw [this] at hck
  cases hck
end IVD
