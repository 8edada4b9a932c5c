/-! the shape of an answer -/
def iv_nr (f : iv_O) : Prop := ∀ i ls st h (r : iv_R), f i ls st h = some (.inr (.inr (.inl r))) → False
theorem nr_o0 : iv_nr iv_o0 := by
  intro i ls st h r e
  unfold iv_o0 iv_cst at e
  repeat' (split at e)
  all_goals first | (simp [iv_go, iv_jp, iv_cl] at e; done) | cases e
theorem nr_o1 : iv_nr iv_o1 := by
  intro i ls st h r e
  unfold iv_o1 iv_cst at e
  repeat' (split at e)
  all_goals first | (simp [iv_go, iv_jp, iv_cl] at e; done) | cases e
theorem nr_o2 : iv_nr iv_o2 := by
  intro i ls st h r e
  unfold iv_o2 iv_cst at e
  repeat' (split at e)
  all_goals first | (simp [iv_go, iv_jp, iv_cl] at e; done) | cases e
theorem nr_o5 : iv_nr iv_o5 := by
  intro i ls st h r e
  unfold iv_o5 iv_cst at e
  repeat' (split at e)
  all_goals first | (simp [iv_go, iv_jp, iv_cl] at e; done) | cases e
theorem nr_o7 : iv_nr iv_o7 := by
  intro i ls st h r e
  unfold iv_o7 iv_cst at e
  repeat' (split at e)
  all_goals first | (simp [iv_go, iv_jp, iv_cl] at e; done) | cases e
theorem nr_o8 : iv_nr iv_o8 := by
  intro i ls st h r e
  unfold iv_o8 at e
  repeat' (split at e)
  all_goals first | (simp [iv_go, iv_jp, iv_cl] at e; done) | cases e
theorem nr_o9 : iv_nr iv_o9 := by
  intro i ls st h r e
  unfold iv_o9 at e
  repeat' (split at e)
  all_goals first | (simp [iv_go, iv_jp, iv_cl] at e; done) | cases e
theorem nr_o10 : iv_nr iv_o10 := by
  intro i ls st h r e
  unfold iv_o10 at e
  repeat' (split at e)
  all_goals first | (simp [iv_go, iv_jp, iv_cl] at e; done) | cases e
theorem nr_o11 : iv_nr iv_o11 := by
  intro i ls st h r e
  unfold iv_o11 at e
  repeat' (split at e)
  all_goals first | (simp [iv_go, iv_jp, iv_cl] at e; done) | cases e
theorem nr_o12 : iv_nr iv_o12 := by
  intro i ls st h r e
  unfold iv_o12 at e
  repeat' (split at e)
  all_goals first | (simp [iv_go, iv_jp, iv_cl] at e; done) | cases e
theorem nr_o13 : iv_nr iv_o13 := by
  intro i ls st h r e
  unfold iv_o13 at e
  repeat' (split at e)
  all_goals first | (simp [iv_go, iv_jp, iv_cl] at e; done) | cases e
theorem nr_o14 : iv_nr iv_o14 := by
  intro i ls st h r e
  unfold iv_o14 at e
  repeat' (split at e)
  all_goals first | (simp [iv_go, iv_jp, iv_cl] at e; done) | cases e
theorem nr_bin (f : Int32 → Int32 → Int32) : iv_nr (iv_bin f) := by
  intro i ls st h r e
  unfold iv_bin at e
  repeat' (split at e)
  all_goals first | (simp [iv_go, iv_jp, iv_cl] at e; done) | cases e
theorem nr_o18 : iv_nr iv_o18 := by
  intro i ls st h r e
  unfold iv_o18 at e
  repeat' (split at e)
  all_goals first | (simp [iv_go, iv_jp, iv_cl] at e; done) | cases e
theorem nr_o19 : iv_nr iv_o19 := by
  intro i ls st h r e
  unfold iv_o19 at e
  repeat' (split at e)
  all_goals first | (simp [iv_go, iv_jp, iv_cl] at e; done) | cases e
theorem nr_un (f : Int32 → Int32) : iv_nr (iv_un f) := by
  intro i ls st h r e
  unfold iv_un at e
  repeat' (split at e)
  all_goals first | (simp [iv_go, iv_jp, iv_cl] at e; done) | cases e
theorem nr_binL (f : Int64 → Int64 → Int64) : iv_nr (iv_binL f) := by
  intro i ls st h r e
  unfold iv_binL at e
  repeat' (split at e)
  all_goals first | (simp [iv_go, iv_jp, iv_cl] at e; done) | cases e
theorem nr_shL (f : Int64 → Int64 → Int64) : iv_nr (iv_shL f) := by
  intro i ls st h r e
  unfold iv_shL at e
  repeat' (split at e)
  all_goals first | (simp [iv_go, iv_jp, iv_cl] at e; done) | cases e
theorem nr_o33 : iv_nr iv_o33 := by
  intro i ls st h r e
  unfold iv_o33 at e
  repeat' (split at e)
  all_goals first | (simp [iv_go, iv_jp, iv_cl] at e; done) | cases e
theorem nr_o34 : iv_nr iv_o34 := by
  intro i ls st h r e
  unfold iv_o34 at e
  repeat' (split at e)
  all_goals first | (simp [iv_go, iv_jp, iv_cl] at e; done) | cases e
theorem nr_o35 : iv_nr iv_o35 := by
  intro i ls st h r e
  unfold iv_o35 at e
  repeat' (split at e)
  all_goals first | (simp [iv_go, iv_jp, iv_cl] at e; done) | cases e
theorem nr_o38 : iv_nr iv_o38 := by
  intro i ls st h r e
  unfold iv_o38 at e
  repeat' (split at e)
  all_goals first | (simp [iv_go, iv_jp, iv_cl] at e; done) | cases e
theorem nr_o39 : iv_nr iv_o39 := by
  intro i ls st h r e
  unfold iv_o39 at e
  repeat' (split at e)
  all_goals first | (simp [iv_go, iv_jp, iv_cl] at e; done) | cases e
theorem nr_o40 : iv_nr iv_o40 := by
  intro i ls st h r e
  unfold iv_o40 at e
  repeat' (split at e)
  all_goals first | (simp [iv_go, iv_jp, iv_cl] at e; done) | cases e
theorem nr_o41 : iv_nr iv_o41 := by
  intro i ls st h r e
  unfold iv_o41 at e
  repeat' (split at e)
  all_goals first | (simp [iv_go, iv_jp, iv_cl] at e; done) | cases e
theorem nr_o42 : iv_nr iv_o42 := by
  intro i ls st h r e
  simp [iv_o42, iv_go, iv_jp] at e
theorem nr_o43 : iv_nr iv_o43 := by
  intro i ls st h r e
  unfold iv_o43 at e
  repeat' (split at e)
  all_goals first | (simp [iv_go, iv_jp, iv_cl] at e; done) | cases e
theorem nr_o44 : iv_nr iv_o44 := by
  intro i ls st h r e
  unfold iv_o44 at e
  repeat' (split at e)
  all_goals first | (simp [iv_go, iv_jp, iv_cl] at e; done) | cases e
theorem nr_o45 : iv_nr iv_o45 := by
  intro i ls st h r e
  unfold iv_o45 at e
  repeat' (split at e)
  all_goals first | (simp [iv_go, iv_jp, iv_cl] at e; done) | cases e
theorem nr_o46 : iv_nr iv_o46 := by
  intro i ls st h r e
  unfold iv_o46 at e
  repeat' (split at e)
  all_goals first | (simp [iv_go, iv_jp, iv_cl] at e; done) | cases e
theorem nr_o47 : iv_nr iv_o47 := by
  intro i ls st h r e
  unfold iv_o47 at e
  repeat' (split at e)
  all_goals first | (simp [iv_go, iv_jp, iv_cl] at e; done) | cases e
theorem nr_o48 : iv_nr iv_o48 := by
  intro i ls st h r e
  unfold iv_o48 at e
  repeat' (split at e)
  all_goals first | (simp [iv_go, iv_jp, iv_cl] at e; done) | cases e
theorem nr_o49 : iv_nr iv_o49 := by
  intro i ls st h r e
  simp [iv_o49, iv_go, iv_jp] at e
theorem nr_o50 : iv_nr iv_o50 := by
  intro i ls st h r e
  unfold iv_o50 at e
  repeat' (split at e)
  all_goals first | (simp [iv_go, iv_jp, iv_cl] at e; done) | cases e
theorem nr_o51 : iv_nr iv_o51 := by
  intro i ls st h r e
  unfold iv_o51 at e
  repeat' (split at e)
  all_goals first | (simp [iv_go, iv_jp, iv_cl] at e; done) | cases e
theorem nr_o52 : iv_nr iv_o52 := by
  intro i ls st h r e
  unfold iv_o52 at e
  repeat' (split at e)
  all_goals first | (simp [iv_go, iv_jp, iv_cl] at e; done) | cases e
theorem nr_o53 : iv_nr iv_o53 := by
  intro i ls st h r e
  unfold iv_o53 at e
  repeat' (split at e)
  all_goals first | (simp [iv_go, iv_jp, iv_cl] at e; done) | cases e
theorem nr_o54 : iv_nr iv_o54 := by
  intro i ls st h r e
  unfold iv_o54 at e
  repeat' (split at e)
  all_goals first | (simp [iv_go, iv_jp, iv_cl] at e; done) | cases e
theorem nr_o55 : iv_nr iv_o55 := by
  intro i ls st h r e
  unfold iv_o55 at e
  repeat' (split at e)
  all_goals first | (simp [iv_go, iv_jp, iv_cl] at e; done) | cases e
theorem nr_o56 : iv_nr iv_o56 := by
  intro i ls st h r e
  unfold iv_o56 at e
  repeat' (split at e)
  all_goals first | (simp [iv_go, iv_jp, iv_cl] at e; done) | cases e
theorem nr_o57 : iv_nr iv_o57 := by
  intro i ls st h r e
  unfold iv_o57 at e
  repeat' (split at e)
  all_goals first | (simp [iv_go, iv_jp, iv_cl] at e; done) | cases e
theorem nr_o58 : iv_nr iv_o58 := by
  intro i ls st h r e
  unfold iv_o58 at e
  repeat' (split at e)
  all_goals first | (simp [iv_go, iv_jp, iv_cl] at e; done) | cases e
theorem nr_o59 : iv_nr iv_o59 := by
  intro i ls st h r e
  unfold iv_o59 at e
  repeat' (split at e)
  all_goals first | (simp [iv_go, iv_jp, iv_cl] at e; done) | cases e
theorem nr_o60 : iv_nr iv_o60 := by
  intro i ls st h r e
  unfold iv_o60 at e
  repeat' (split at e)
  all_goals first | (simp [iv_go, iv_jp, iv_cl] at e; done) | cases e
theorem nr_o61 : iv_nr iv_o61 := by
  intro i ls st h r e
  unfold iv_o61 at e
  repeat' (split at e)
  all_goals first | (simp [iv_go, iv_jp, iv_cl] at e; done) | cases e
theorem nr_o62 : iv_nr iv_o62 := by
  intro i ls st h r e
  unfold iv_o62 at e
  repeat' (split at e)
  all_goals first | (simp [iv_go, iv_jp, iv_cl] at e; done) | cases e
theorem nr_o66 : iv_nr iv_o66 := by
  intro i ls st h r e
  unfold iv_o66 iv_cv at e
  repeat' (split at e)
  all_goals first | (simp [iv_go, iv_jp, iv_cl] at e; done) | cases e
theorem nr_o67 : iv_nr iv_o67 := by
  intro i ls st h r e
  unfold iv_o67 at e
  repeat' (split at e)
  all_goals first | (simp [iv_go, iv_jp, iv_cl] at e; done) | cases e
theorem nr_o69 : iv_nr iv_o69 := by
  intro i ls st h r e
  unfold iv_o69 at e
  repeat' (split at e)
  all_goals first | (simp [iv_go, iv_jp, iv_cl] at e; done) | cases e
theorem nr_o70 : iv_nr iv_o70 := by
  intro i ls st h r e
  unfold iv_o70 at e
  repeat' (split at e)
  all_goals first | (simp [iv_go, iv_jp, iv_cl] at e; done) | cases e
theorem nr_o71 : iv_nr iv_o71 := by
  intro i ls st h r e
  simp [iv_o71, iv_go, iv_jp] at e
theorem nr_no : iv_nr iv_no := by
  intro i ls st h r e
  cases e
theorem nr_o76 : iv_nr iv_o76 := by
  intro i ls st h r e
  unfold iv_o76 at e
  repeat' (split at e)
  all_goals first | (simp [iv_go, iv_jp, iv_cl] at e; done) | cases e
theorem nr_o77 : iv_nr iv_o77 := by
  intro i ls st h r e
  unfold iv_o77 at e
  repeat' (split at e)
  all_goals first | (simp [iv_go, iv_jp, iv_cl] at e; done) | cases e
def iv_ops2 : List iv_O := ((iv_ops.set 63 iv_no).set 64 iv_no).set 65 iv_no
theorem iv_ops2_nr : ∀ f ∈ iv_ops2, iv_nr f := List.forall_mem_cons.mpr ⟨nr_o0, List.forall_mem_cons.mpr ⟨nr_o1, List.forall_mem_cons.mpr ⟨nr_o2, List.forall_mem_cons.mpr ⟨nr_o0, List.forall_mem_cons.mpr ⟨nr_o0, List.forall_mem_cons.mpr ⟨nr_o5, List.forall_mem_cons.mpr ⟨nr_o5, List.forall_mem_cons.mpr ⟨nr_o7, List.forall_mem_cons.mpr ⟨nr_o8, List.forall_mem_cons.mpr ⟨nr_o9, List.forall_mem_cons.mpr ⟨nr_o10, List.forall_mem_cons.mpr ⟨nr_o11, List.forall_mem_cons.mpr ⟨nr_o12, List.forall_mem_cons.mpr ⟨nr_o13, List.forall_mem_cons.mpr ⟨nr_o14, List.forall_mem_cons.mpr ⟨nr_bin _, List.forall_mem_cons.mpr ⟨nr_bin _, List.forall_mem_cons.mpr ⟨nr_bin _, List.forall_mem_cons.mpr ⟨nr_o18, List.forall_mem_cons.mpr ⟨nr_o19, List.forall_mem_cons.mpr ⟨nr_un _, List.forall_mem_cons.mpr ⟨nr_bin _, List.forall_mem_cons.mpr ⟨nr_bin _, List.forall_mem_cons.mpr ⟨nr_bin _, List.forall_mem_cons.mpr ⟨nr_bin _, List.forall_mem_cons.mpr ⟨nr_bin _, List.forall_mem_cons.mpr ⟨nr_bin _, List.forall_mem_cons.mpr ⟨nr_binL _, List.forall_mem_cons.mpr ⟨nr_binL _, List.forall_mem_cons.mpr ⟨nr_binL _, List.forall_mem_cons.mpr ⟨nr_binL _, List.forall_mem_cons.mpr ⟨nr_shL _, List.forall_mem_cons.mpr ⟨nr_shL _, List.forall_mem_cons.mpr ⟨nr_o33, List.forall_mem_cons.mpr ⟨nr_o34, List.forall_mem_cons.mpr ⟨nr_o35, List.forall_mem_cons.mpr ⟨nr_un _, List.forall_mem_cons.mpr ⟨nr_un _, List.forall_mem_cons.mpr ⟨nr_o38, List.forall_mem_cons.mpr ⟨nr_o39, List.forall_mem_cons.mpr ⟨nr_o40, List.forall_mem_cons.mpr ⟨nr_o41, List.forall_mem_cons.mpr ⟨nr_o42, List.forall_mem_cons.mpr ⟨nr_o43, List.forall_mem_cons.mpr ⟨nr_o44, List.forall_mem_cons.mpr ⟨nr_o45, List.forall_mem_cons.mpr ⟨nr_o46, List.forall_mem_cons.mpr ⟨nr_o47, List.forall_mem_cons.mpr ⟨nr_o48, List.forall_mem_cons.mpr ⟨nr_o49, List.forall_mem_cons.mpr ⟨nr_o50, List.forall_mem_cons.mpr ⟨nr_o51, List.forall_mem_cons.mpr ⟨nr_o52, List.forall_mem_cons.mpr ⟨nr_o53, List.forall_mem_cons.mpr ⟨nr_o54, List.forall_mem_cons.mpr ⟨nr_o55, List.forall_mem_cons.mpr ⟨nr_o56, List.forall_mem_cons.mpr ⟨nr_o57, List.forall_mem_cons.mpr ⟨nr_o58, List.forall_mem_cons.mpr ⟨nr_o59, List.forall_mem_cons.mpr ⟨nr_o60, List.forall_mem_cons.mpr ⟨nr_o61, List.forall_mem_cons.mpr ⟨nr_o62, List.forall_mem_cons.mpr ⟨nr_no, List.forall_mem_cons.mpr ⟨nr_no, List.forall_mem_cons.mpr ⟨nr_no, List.forall_mem_cons.mpr ⟨nr_o66, List.forall_mem_cons.mpr ⟨nr_o67, List.forall_mem_cons.mpr ⟨nr_o66, List.forall_mem_cons.mpr ⟨nr_o69, List.forall_mem_cons.mpr ⟨nr_o70, List.forall_mem_cons.mpr ⟨nr_o71, List.forall_mem_cons.mpr ⟨nr_o67, List.forall_mem_cons.mpr ⟨nr_o66, List.forall_mem_cons.mpr ⟨nr_no, List.forall_mem_cons.mpr ⟨nr_o66, List.forall_mem_cons.mpr ⟨nr_o76, List.forall_mem_cons.mpr ⟨nr_o77, fun _ h => absurd h List.not_mem_nil⟩⟩⟩⟩⟩⟩⟩⟩⟩⟩⟩⟩⟩⟩⟩⟩⟩⟩⟩⟩⟩⟩⟩⟩⟩⟩⟩⟩⟩⟩⟩⟩⟩⟩⟩⟩⟩⟩⟩⟩⟩⟩⟩⟩⟩⟩⟩⟩⟩⟩⟩⟩⟩⟩⟩⟩⟩⟩⟩⟩⟩⟩⟩⟩⟩⟩⟩⟩⟩⟩⟩⟩⟩⟩⟩⟩⟩⟩
theorem iv_ret3 {i : iv_I} {ls : iv_L} {st : List Value} {h : iv_H} {r : iv_R} (e : iv_s i ls st h = some (.inr (.inr (.inl r)))) : (i.1 = 63 ∧ ∃ x, r.1 = some (.int x)) ∨ (i.1 = 64 ∧ ∃ x, r.1 = some (.long x)) ∨ i.1 = 65 := by
  unfold iv_s at e
  by_cases a : i.1 = 63
  · refine Or.inl ⟨a, ?_⟩
    rw [a] at e
    change iv_o63 i ls st h = _ at e
    unfold iv_o63 at e
    split at e
    · split at e
      · cases e
        exact ⟨_, rfl⟩
      · cases e
    · cases e
  · by_cases b : i.1 = 64
    · refine Or.inr (Or.inl ⟨b, ?_⟩)
      rw [b] at e
      change iv_o64 i ls st h = _ at e
      unfold iv_o64 at e
      split at e
      · cases e
        exact ⟨_, rfl⟩
      · cases e
    · by_cases c : i.1 = 65
      · exact Or.inr (Or.inr c)
      · exfalso
        have g : iv_ops.getD i.1 iv_no = iv_ops2.getD i.1 iv_no := by
          unfold iv_ops2
          rw [List.getD_eq_getElem?_getD, List.getD_eq_getElem?_getD, List.getElem?_set_ne (fun q => c q.symm), List.getElem?_set_ne (fun q => b q.symm), List.getElem?_set_ne (fun q => a q.symm)]
        rw [g, List.getD_eq_getElem?_getD] at e
        cases q : iv_ops2[i.1]? with
        | none => rw [q] at e; cases e
        | some f =>
          rw [q] at e
          exact iv_ops2_nr f (List.mem_of_getElem? q) _ _ _ _ _ e
/-- the answer is an int (q = 64) or a long (q = 63) -/
def iv_sh (q : Nat) (o : Option Value) : Prop := (q = 64 ∧ ∃ x, o = some (.int x)) ∨ (q = 63 ∧ ∃ x, o = some (.long x))
theorem iv_x_sh {q : Nat} (hq : q = 63 ∨ q = 64) {K : Nat → iv_L → List Value → iv_H → Option iv_R} {C : Nat → List Value → iv_H → Option iv_R} (hK : ∀ pc ls st h r, K pc ls st h = some r → iv_sh q r.1) : ∀ (is : List iv_I), (∀ i ∈ is, i.1 ≠ q ∧ i.1 ≠ 65) → ∀ ls st h r, iv_x is ls st h K C = some r → iv_sh q r.1
  | [], _, ls, st, h, r, hx => by cases hx
  | i :: is, ha, ls, st, h, r, hx => by
    unfold iv_x at hx
    have hi := ha i List.mem_cons_self
    have hs := fun j hj => ha j (List.mem_cons_of_mem _ hj)
    split at hx
    · cases hx
    · exact iv_x_sh hq hK is hs _ _ _ _ hx
    · exact hK _ _ _ _ _ hx
    · rename_i r' e
      cases hx
      rcases iv_ret3 e with ⟨a, b⟩ | ⟨a, b⟩ | a
      · exact Or.inl ⟨by omega, b⟩
      · exact Or.inr ⟨by omega, b⟩
      · exact absurd a hi.2
    · split at hx
      · cases hx
      · exact iv_x_sh hq hK is hs _ _ _ _ hx
def iv_rI (q y : Nat) : Bool := (iv_Gb y).all (fun b => b.2.2.all (fun i => i.1 != q && i.1 != 65))
theorem iv_lk_all {q : Nat} : ∀ (B : iv_B), B.all (fun b => b.2.2.all (fun i => i.1 != q && i.1 != 65)) = true → ∀ pc, ∀ i ∈ (iv_lk B pc).2, i.1 ≠ q ∧ i.1 ≠ 65
  | [], _, pc, i, hi => by cases hi
  | (p, b) :: r, h, pc, i, hi => by
    rw [List.all_cons, Bool.and_eq_true] at h
    unfold iv_lk at hi
    split at hi
    · have := List.all_eq_true.mp h.1 i hi
      simpa using this
    · exact iv_lk_all r h.2 pc i hi
theorem iv_run_sh {q y : Nat} (hq : q = 63 ∨ q = 64) (hy : iv_rI q y = true) : ∀ n d pc ls st h r, iv_run iv_Gb n d y pc ls st h = some r → iv_sh q r.1
  | 0, d, pc, ls, st, h, r, hx => by cases hx
  | n + 1, d, pc, ls, st, h, r, hx => by
    unfold iv_run at hx
    exact iv_x_sh hq (fun pc' ls' st' h' r' hk => iv_run_sh hq hy n _ _ _ _ _ _ hk) _ (iv_lk_all _ hy pc) _ _ _ _ hx
theorem iv_call_sh {q y d : Nat} {as : List Value} {h : iv_H} {r : iv_R} (hq : q = 63 ∨ q = 64) (hy : iv_rI q y = true) (h1 : y < 265) (hx : iv_call (d + 1) y as h = some r) : iv_sh q r.1 := by
  change (if 1000 ≤ y then _ else _) = _ at hx
  rw [if_neg (by omega)] at hx
  split at hx
  · obtain ⟨n, hr⟩ := iv_sem_to hx
    exact iv_run_sh hq hy _ _ _ _ _ _ _ hr
  · cases hx
/-- what a pair of calls gives the law -/
def iT' (q y z : Nat) (as : List Value) : Prop := ∀ (n : Nat) (P I : Nat → Nat → Int32) (J : Nat → Nat → Int64), iR n P I J →
  ∃ (v : Value) (I1 : Nat → Nat → Int32) (J1 : Nat → Nat → Int64) (I2 : Nat → Nat → Int32) (J2 : Nat → Nat → Int64) (n' : Nat) (P' : Nat → Nat → Int32), iv_sh q (some v) ∧
    (∀ d L : Nat, iv_call (d + 20) y (.ref 8 :: as) (iv_mk L I J) = some (some v, iv_mk L I1 J1)) ∧
    (∀ d L : Nat, iv_call (d + 20) z (.ref 56 :: as) (iv_mk L I1 J1) = some (some v, iv_mk L I2 J2)) ∧ (iR n' P' I2 J2 ∧ I1 0 = I 0 ∧ I2 0 = I 0)
theorem iT_sh {q y z : Nat} {as : List Value} (T : iT y z as) (hq : q = 63 ∨ q = 64) (h1 : y < 265) (hy : iv_rI q y = true) : iT' q y z as := by
  intro n P I J R
  obtain ⟨v, I1, J1, I2, J2, n', P', e1, e2, r⟩ := T n P I J R
  exact ⟨v, I1, J1, I2, J2, n', P', iv_call_sh hq hy h1 (e1 0 0), e1, e2, r⟩
