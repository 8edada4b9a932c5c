/-! the number of places never falls -/
def iv_ac (h : iv_H) (a : iv_A) : Prop := match a with
  | .inl x => h.1 ≤ x.2.2.1
  | .inr (.inl x) => h.1 ≤ x.2.2.2.1
  | .inr (.inr (.inl x)) => h.1 ≤ x.2.1
  | .inr (.inr (.inr x)) => h.1 ≤ x.2.2.2.2.1
def iv_mo (f : iv_O) : Prop := ∀ i ls st h a, f i ls st h = some a → iv_ac h a
theorem iv_mr_le (h : iv_H) : h.1 ≤ (iv_mr 8 (iv_nw h)).1 := by rw [iv_mr_c]; show h.1 ≤ h.1 + 1 + 8; omega
theorem iv_o0_mo : iv_mo iv_o0 := by
  intro i ls st h a hs
  unfold iv_o0 at hs
  repeat' split at hs
  all_goals first
    | (cases hs; done)
    | (obtain rfl := Option.some.inj hs; first | exact Nat.le_refl _ | exact Nat.le_succ _ | exact iv_mr_le h)
theorem iv_o1_mo : iv_mo iv_o1 := by
  intro i ls st h a hs
  unfold iv_o1 at hs
  repeat' split at hs
  all_goals first
    | (cases hs; done)
    | (obtain rfl := Option.some.inj hs; first | exact Nat.le_refl _ | exact Nat.le_succ _ | exact iv_mr_le h)
theorem iv_o2_mo : iv_mo iv_o2 := by
  intro i ls st h a hs
  unfold iv_o2 at hs
  repeat' split at hs
  all_goals first
    | (cases hs; done)
    | (obtain rfl := Option.some.inj hs; first | exact Nat.le_refl _ | exact Nat.le_succ _ | exact iv_mr_le h)
theorem iv_o5_mo : iv_mo iv_o5 := by
  intro i ls st h a hs
  unfold iv_o5 at hs
  repeat' split at hs
  all_goals first
    | (cases hs; done)
    | (obtain rfl := Option.some.inj hs; first | exact Nat.le_refl _ | exact Nat.le_succ _ | exact iv_mr_le h)
theorem iv_o7_mo : iv_mo iv_o7 := by
  intro i ls st h a hs
  unfold iv_o7 at hs
  repeat' split at hs
  all_goals first
    | (cases hs; done)
    | (obtain rfl := Option.some.inj hs; first | exact Nat.le_refl _ | exact Nat.le_succ _ | exact iv_mr_le h)
theorem iv_o8_mo : iv_mo iv_o8 := by
  intro i ls st h a hs
  unfold iv_o8 at hs
  repeat' split at hs
  all_goals first
    | (cases hs; done)
    | (obtain rfl := Option.some.inj hs; first | exact Nat.le_refl _ | exact Nat.le_succ _ | exact iv_mr_le h)
theorem iv_o9_mo : iv_mo iv_o9 := by
  intro i ls st h a hs
  unfold iv_o9 at hs
  repeat' split at hs
  all_goals first
    | (cases hs; done)
    | (obtain rfl := Option.some.inj hs; first | exact Nat.le_refl _ | exact Nat.le_succ _ | exact iv_mr_le h)
theorem iv_o10_mo : iv_mo iv_o10 := by
  intro i ls st h a hs
  unfold iv_o10 at hs
  repeat' split at hs
  all_goals first
    | (cases hs; done)
    | (obtain rfl := Option.some.inj hs; first | exact Nat.le_refl _ | exact Nat.le_succ _ | exact iv_mr_le h)
theorem iv_o11_mo : iv_mo iv_o11 := by
  intro i ls st h a hs
  unfold iv_o11 at hs
  repeat' split at hs
  all_goals first
    | (cases hs; done)
    | (obtain rfl := Option.some.inj hs; first | exact Nat.le_refl _ | exact Nat.le_succ _ | exact iv_mr_le h)
theorem iv_o12_mo : iv_mo iv_o12 := by
  intro i ls st h a hs
  unfold iv_o12 at hs
  repeat' split at hs
  all_goals first
    | (cases hs; done)
    | (obtain rfl := Option.some.inj hs; first | exact Nat.le_refl _ | exact Nat.le_succ _ | exact iv_mr_le h)
theorem iv_o13_mo : iv_mo iv_o13 := by
  intro i ls st h a hs
  unfold iv_o13 at hs
  repeat' split at hs
  all_goals first
    | (cases hs; done)
    | (obtain rfl := Option.some.inj hs; first | exact Nat.le_refl _ | exact Nat.le_succ _ | exact iv_mr_le h)
theorem iv_o14_mo : iv_mo iv_o14 := by
  intro i ls st h a hs
  unfold iv_o14 at hs
  repeat' split at hs
  all_goals first
    | (cases hs; done)
    | (obtain rfl := Option.some.inj hs; first | exact Nat.le_refl _ | exact Nat.le_succ _ | exact iv_mr_le h)
theorem iv_o18_mo : iv_mo iv_o18 := by
  intro i ls st h a hs
  unfold iv_o18 at hs
  repeat' split at hs
  all_goals first
    | (cases hs; done)
    | (obtain rfl := Option.some.inj hs; first | exact Nat.le_refl _ | exact Nat.le_succ _ | exact iv_mr_le h)
theorem iv_o19_mo : iv_mo iv_o19 := by
  intro i ls st h a hs
  unfold iv_o19 at hs
  repeat' split at hs
  all_goals first
    | (cases hs; done)
    | (obtain rfl := Option.some.inj hs; first | exact Nat.le_refl _ | exact Nat.le_succ _ | exact iv_mr_le h)
theorem iv_o33_mo : iv_mo iv_o33 := by
  intro i ls st h a hs
  unfold iv_o33 at hs
  repeat' split at hs
  all_goals first
    | (cases hs; done)
    | (obtain rfl := Option.some.inj hs; first | exact Nat.le_refl _ | exact Nat.le_succ _ | exact iv_mr_le h)
theorem iv_o34_mo : iv_mo iv_o34 := by
  intro i ls st h a hs
  unfold iv_o34 at hs
  repeat' split at hs
  all_goals first
    | (cases hs; done)
    | (obtain rfl := Option.some.inj hs; first | exact Nat.le_refl _ | exact Nat.le_succ _ | exact iv_mr_le h)
theorem iv_o35_mo : iv_mo iv_o35 := by
  intro i ls st h a hs
  unfold iv_o35 at hs
  repeat' split at hs
  all_goals first
    | (cases hs; done)
    | (obtain rfl := Option.some.inj hs; first | exact Nat.le_refl _ | exact Nat.le_succ _ | exact iv_mr_le h)
theorem iv_o38_mo : iv_mo iv_o38 := by
  intro i ls st h a hs
  unfold iv_o38 at hs
  repeat' split at hs
  all_goals first
    | (cases hs; done)
    | (obtain rfl := Option.some.inj hs; first | exact Nat.le_refl _ | exact Nat.le_succ _ | exact iv_mr_le h)
theorem iv_o39_mo : iv_mo iv_o39 := by
  intro i ls st h a hs
  unfold iv_o39 at hs
  repeat' split at hs
  all_goals first
    | (cases hs; done)
    | (obtain rfl := Option.some.inj hs; first | exact Nat.le_refl _ | exact Nat.le_succ _ | exact iv_mr_le h)
theorem iv_o40_mo : iv_mo iv_o40 := by
  intro i ls st h a hs
  unfold iv_o40 at hs
  repeat' split at hs
  all_goals first
    | (cases hs; done)
    | (obtain rfl := Option.some.inj hs; first | exact Nat.le_refl _ | exact Nat.le_succ _ | exact iv_mr_le h)
theorem iv_o41_mo : iv_mo iv_o41 := by
  intro i ls st h a hs
  unfold iv_o41 at hs
  repeat' split at hs
  all_goals first
    | (cases hs; done)
    | (obtain rfl := Option.some.inj hs; first | exact Nat.le_refl _ | exact Nat.le_succ _ | exact iv_mr_le h)
theorem iv_o42_mo : iv_mo iv_o42 := by
  intro i ls st h a hs
  unfold iv_o42 at hs
  repeat' split at hs
  all_goals first
    | (cases hs; done)
    | (obtain rfl := Option.some.inj hs; first | exact Nat.le_refl _ | exact Nat.le_succ _ | exact iv_mr_le h)
theorem iv_o43_mo : iv_mo iv_o43 := by
  intro i ls st h a hs
  unfold iv_o43 at hs
  repeat' split at hs
  all_goals first
    | (cases hs; done)
    | (obtain rfl := Option.some.inj hs; first | exact Nat.le_refl _ | exact Nat.le_succ _ | exact iv_mr_le h)
theorem iv_o44_mo : iv_mo iv_o44 := by
  intro i ls st h a hs
  unfold iv_o44 at hs
  repeat' split at hs
  all_goals first
    | (cases hs; done)
    | (obtain rfl := Option.some.inj hs; first | exact Nat.le_refl _ | exact Nat.le_succ _ | exact iv_mr_le h)
theorem iv_o45_mo : iv_mo iv_o45 := by
  intro i ls st h a hs
  unfold iv_o45 at hs
  repeat' split at hs
  all_goals first
    | (cases hs; done)
    | (obtain rfl := Option.some.inj hs; first | exact Nat.le_refl _ | exact Nat.le_succ _ | exact iv_mr_le h)
theorem iv_o46_mo : iv_mo iv_o46 := by
  intro i ls st h a hs
  unfold iv_o46 at hs
  repeat' split at hs
  all_goals first
    | (cases hs; done)
    | (obtain rfl := Option.some.inj hs; first | exact Nat.le_refl _ | exact Nat.le_succ _ | exact iv_mr_le h)
theorem iv_o47_mo : iv_mo iv_o47 := by
  intro i ls st h a hs
  unfold iv_o47 at hs
  repeat' split at hs
  all_goals first
    | (cases hs; done)
    | (obtain rfl := Option.some.inj hs; first | exact Nat.le_refl _ | exact Nat.le_succ _ | exact iv_mr_le h)
theorem iv_o48_mo : iv_mo iv_o48 := by
  intro i ls st h a hs
  unfold iv_o48 at hs
  repeat' split at hs
  all_goals first
    | (cases hs; done)
    | (obtain rfl := Option.some.inj hs; first | exact Nat.le_refl _ | exact Nat.le_succ _ | exact iv_mr_le h)
theorem iv_o49_mo : iv_mo iv_o49 := by
  intro i ls st h a hs
  unfold iv_o49 at hs
  repeat' split at hs
  all_goals first
    | (cases hs; done)
    | (obtain rfl := Option.some.inj hs; first | exact Nat.le_refl _ | exact Nat.le_succ _ | exact iv_mr_le h)
theorem iv_o50_mo : iv_mo iv_o50 := by
  intro i ls st h a hs
  unfold iv_o50 at hs
  repeat' split at hs
  all_goals first
    | (cases hs; done)
    | (obtain rfl := Option.some.inj hs; first | exact Nat.le_refl _ | exact Nat.le_succ _ | exact iv_mr_le h)
theorem iv_o51_mo : iv_mo iv_o51 := by
  intro i ls st h a hs
  unfold iv_o51 at hs
  repeat' split at hs
  all_goals first
    | (cases hs; done)
    | (obtain rfl := Option.some.inj hs; first | exact Nat.le_refl _ | exact Nat.le_succ _ | exact iv_mr_le h)
theorem iv_o52_mo : iv_mo iv_o52 := by
  intro i ls st h a hs
  unfold iv_o52 at hs
  repeat' split at hs
  all_goals first
    | (cases hs; done)
    | (obtain rfl := Option.some.inj hs; first | exact Nat.le_refl _ | exact Nat.le_succ _ | exact iv_mr_le h)
theorem iv_o53_mo : iv_mo iv_o53 := by
  intro i ls st h a hs
  unfold iv_o53 at hs
  repeat' split at hs
  all_goals first
    | (cases hs; done)
    | (obtain rfl := Option.some.inj hs; first | exact Nat.le_refl _ | exact Nat.le_succ _ | exact iv_mr_le h)
theorem iv_o54_mo : iv_mo iv_o54 := by
  intro i ls st h a hs
  unfold iv_o54 at hs
  repeat' split at hs
  all_goals first
    | (cases hs; done)
    | (obtain rfl := Option.some.inj hs; first | exact Nat.le_refl _ | exact Nat.le_succ _ | exact iv_mr_le h)
theorem iv_o55_mo : iv_mo iv_o55 := by
  intro i ls st h a hs
  unfold iv_o55 at hs
  repeat' split at hs
  all_goals first
    | (cases hs; done)
    | (obtain rfl := Option.some.inj hs; first | exact Nat.le_refl _ | exact Nat.le_succ _ | exact iv_mr_le h)
theorem iv_o56_mo : iv_mo iv_o56 := by
  intro i ls st h a hs
  unfold iv_o56 at hs
  repeat' split at hs
  all_goals first
    | (cases hs; done)
    | (obtain rfl := Option.some.inj hs; first | exact Nat.le_refl _ | exact Nat.le_succ _ | exact iv_mr_le h)
theorem iv_o57_mo : iv_mo iv_o57 := by
  intro i ls st h a hs
  unfold iv_o57 at hs
  repeat' split at hs
  all_goals first
    | (cases hs; done)
    | (obtain rfl := Option.some.inj hs; first | exact Nat.le_refl _ | exact Nat.le_succ _ | exact iv_mr_le h)
theorem iv_o58_mo : iv_mo iv_o58 := by
  intro i ls st h a hs
  unfold iv_o58 at hs
  repeat' split at hs
  all_goals first
    | (cases hs; done)
    | (obtain rfl := Option.some.inj hs; first | exact Nat.le_refl _ | exact Nat.le_succ _ | exact iv_mr_le h)
theorem iv_o59_mo : iv_mo iv_o59 := by
  intro i ls st h a hs
  unfold iv_o59 at hs
  repeat' split at hs
  all_goals first
    | (cases hs; done)
    | (obtain rfl := Option.some.inj hs; first | exact Nat.le_refl _ | exact Nat.le_succ _ | exact iv_mr_le h)
theorem iv_o60_mo : iv_mo iv_o60 := by
  intro i ls st h a hs
  unfold iv_o60 at hs
  repeat' split at hs
  all_goals first
    | (cases hs; done)
    | (obtain rfl := Option.some.inj hs; first | exact Nat.le_refl _ | exact Nat.le_succ _ | exact iv_mr_le h)
theorem iv_o61_mo : iv_mo iv_o61 := by
  intro i ls st h a hs
  unfold iv_o61 at hs
  repeat' split at hs
  all_goals first
    | (cases hs; done)
    | (obtain rfl := Option.some.inj hs; first | exact Nat.le_refl _ | exact Nat.le_succ _ | exact iv_mr_le h)
theorem iv_o62_mo : iv_mo iv_o62 := by
  intro i ls st h a hs
  unfold iv_o62 at hs
  repeat' split at hs
  all_goals first
    | (cases hs; done)
    | (obtain rfl := Option.some.inj hs; first | exact Nat.le_refl _ | exact Nat.le_succ _ | exact iv_mr_le h)
theorem iv_o63_mo : iv_mo iv_o63 := by
  intro i ls st h a hs
  unfold iv_o63 at hs
  repeat' split at hs
  all_goals first
    | (cases hs; done)
    | (obtain rfl := Option.some.inj hs; first | exact Nat.le_refl _ | exact Nat.le_succ _ | exact iv_mr_le h)
theorem iv_o64_mo : iv_mo iv_o64 := by
  intro i ls st h a hs
  unfold iv_o64 at hs
  repeat' split at hs
  all_goals first
    | (cases hs; done)
    | (obtain rfl := Option.some.inj hs; first | exact Nat.le_refl _ | exact Nat.le_succ _ | exact iv_mr_le h)
theorem iv_o65_mo : iv_mo iv_o65 := by
  intro i ls st h a hs
  unfold iv_o65 at hs
  repeat' split at hs
  all_goals first
    | (cases hs; done)
    | (obtain rfl := Option.some.inj hs; first | exact Nat.le_refl _ | exact Nat.le_succ _ | exact iv_mr_le h)
theorem iv_o67_mo : iv_mo iv_o67 := by
  intro i ls st h a hs
  unfold iv_o67 at hs
  repeat' split at hs
  all_goals first
    | (cases hs; done)
    | (obtain rfl := Option.some.inj hs; first | exact Nat.le_refl _ | exact Nat.le_succ _ | exact iv_mr_le h)
theorem iv_o69_mo : iv_mo iv_o69 := by
  intro i ls st h a hs
  unfold iv_o69 at hs
  repeat' split at hs
  all_goals first
    | (cases hs; done)
    | (obtain rfl := Option.some.inj hs; first | exact Nat.le_refl _ | exact Nat.le_succ _ | exact iv_mr_le h)
theorem iv_o70_mo : iv_mo iv_o70 := by
  intro i ls st h a hs
  unfold iv_o70 at hs
  repeat' split at hs
  all_goals first
    | (cases hs; done)
    | (obtain rfl := Option.some.inj hs; first | exact Nat.le_refl _ | exact Nat.le_succ _ | exact iv_mr_le h)
theorem iv_o71_mo : iv_mo iv_o71 := by
  intro i ls st h a hs
  unfold iv_o71 at hs
  repeat' split at hs
  all_goals first
    | (cases hs; done)
    | (obtain rfl := Option.some.inj hs; first | exact Nat.le_refl _ | exact Nat.le_succ _ | exact iv_mr_le h)
theorem iv_o76_mo : iv_mo iv_o76 := by
  intro i ls st h a hs
  unfold iv_o76 at hs
  repeat' split at hs
  all_goals first
    | (cases hs; done)
    | (obtain rfl := Option.some.inj hs; first | exact Nat.le_refl _ | exact Nat.le_succ _ | exact iv_mr_le h)
theorem iv_o77_mo : iv_mo iv_o77 := by
  intro i ls st h a hs
  unfold iv_o77 at hs
  repeat' split at hs
  all_goals first
    | (cases hs; done)
    | (obtain rfl := Option.some.inj hs; first | exact Nat.le_refl _ | exact Nat.le_succ _ | exact iv_mr_le h)
theorem iv_bin_mo (f : Int32 → Int32 → Int32) : iv_mo (iv_bin f) := by
  intro i ls st h a hs
  unfold iv_bin at hs
  repeat' split at hs
  all_goals first
    | (cases hs; done)
    | (obtain rfl := Option.some.inj hs; exact Nat.le_refl _)
theorem iv_un_mo (f : Int32 → Int32) : iv_mo (iv_un f) := by
  intro i ls st h a hs
  unfold iv_un at hs
  repeat' split at hs
  all_goals first
    | (cases hs; done)
    | (obtain rfl := Option.some.inj hs; exact Nat.le_refl _)
theorem iv_binL_mo (f : Int64 → Int64 → Int64) : iv_mo (iv_binL f) := by
  intro i ls st h a hs
  unfold iv_binL at hs
  repeat' split at hs
  all_goals first
    | (cases hs; done)
    | (obtain rfl := Option.some.inj hs; exact Nat.le_refl _)
theorem iv_shL_mo (f : Int64 → Int64 → Int64) : iv_mo (iv_shL f) := by
  intro i ls st h a hs
  unfold iv_shL at hs
  repeat' split at hs
  all_goals first
    | (cases hs; done)
    | (obtain rfl := Option.some.inj hs; exact Nat.le_refl _)
theorem iv_cv_mo (f : Nat) : iv_mo (iv_cv f) := by
  intro i ls st h a hs
  unfold iv_cv at hs
  repeat' split at hs
  all_goals first
    | (cases hs; done)
    | (obtain rfl := Option.some.inj hs; exact Nat.le_refl _)
theorem iv_o66_mo : iv_mo iv_o66 := fun i ls st h a hs => iv_cv_mo _ i ls st h a hs
theorem iv_no_mo : iv_mo iv_no := fun i ls st h a hs => by cases hs
theorem iv_ops_mo : ∀ f ∈ iv_ops, iv_mo f := by
  unfold iv_ops
  repeat' (first
    | exact (fun _ hz => absurd hz List.not_mem_nil)
    | refine List.forall_mem_cons.mpr ⟨?_, ?_⟩)
  all_goals first
    | exact iv_bin_mo _ | exact iv_un_mo _ | exact iv_binL_mo _ | exact iv_shL_mo _ | exact iv_o66_mo | exact iv_no_mo
    | exact iv_o0_mo
    | exact iv_o1_mo
    | exact iv_o2_mo
    | exact iv_o5_mo
    | exact iv_o7_mo
    | exact iv_o8_mo
    | exact iv_o9_mo
    | exact iv_o10_mo
    | exact iv_o11_mo
    | exact iv_o12_mo
    | exact iv_o13_mo
    | exact iv_o14_mo
    | exact iv_o18_mo
    | exact iv_o19_mo
    | exact iv_o33_mo
    | exact iv_o34_mo
    | exact iv_o35_mo
    | exact iv_o38_mo
    | exact iv_o39_mo
    | exact iv_o40_mo
    | exact iv_o41_mo
    | exact iv_o42_mo
    | exact iv_o43_mo
    | exact iv_o44_mo
    | exact iv_o45_mo
    | exact iv_o46_mo
    | exact iv_o47_mo
    | exact iv_o48_mo
    | exact iv_o49_mo
    | exact iv_o50_mo
    | exact iv_o51_mo
    | exact iv_o52_mo
    | exact iv_o53_mo
    | exact iv_o54_mo
    | exact iv_o55_mo
    | exact iv_o56_mo
    | exact iv_o57_mo
    | exact iv_o58_mo
    | exact iv_o59_mo
    | exact iv_o60_mo
    | exact iv_o61_mo
    | exact iv_o62_mo
    | exact iv_o63_mo
    | exact iv_o64_mo
    | exact iv_o65_mo
    | exact iv_o67_mo
    | exact iv_o69_mo
    | exact iv_o70_mo
    | exact iv_o71_mo
    | exact iv_o76_mo
    | exact iv_o77_mo
theorem iv_s_mo {i : iv_I} {ls : iv_L} {st : List Value} {h : iv_H} {a : iv_A} (hs : iv_s i ls st h = some a) : iv_ac h a := by
  unfold iv_s at hs
  rw [List.getD_eq_getElem?_getD] at hs
  cases hg : iv_ops[i.1]? with
  | none => rw [hg] at hs; cases hs
  | some f => rw [hg] at hs; exact iv_ops_mo f (List.mem_of_getElem? hg) i ls st h a hs
theorem iv_x_mo {K : Nat → iv_L → List Value → iv_H → Option iv_R} {C : Nat → List Value → iv_H → Option iv_R} {r : Option Value} {hF : iv_H} (hK : ∀ pc ls st h, K pc ls st h = some (r, hF) → h.1 ≤ hF.1) (hC : ∀ y as h r1 h1, C y as h = some (r1, h1) → h.1 ≤ h1.1) : ∀ (is : List iv_I) (ls : iv_L) (st : List Value) (h : iv_H), iv_x is ls st h K C = some (r, hF) → h.1 ≤ hF.1
  | [], ls, st, h, hx => by cases hx
  | i :: is, ls, st, h, hx => by
    unfold iv_x at hx
    split at hx
    · cases hx
    · rename_i ls' st' h' hs
      exact Nat.le_trans (iv_s_mo hs) (iv_x_mo hK hC is _ _ _ hx)
    · rename_i pc ls' st' h' hs
      exact Nat.le_trans (iv_s_mo hs) (hK _ _ _ _ hx)
    · rename_i r1 hs
      have := iv_s_mo hs
      cases hx
      exact this
    · rename_i y as ls' st' h' hs
      split at hx
      · cases hx
      · rename_i r1 h1 hc
        exact Nat.le_trans (iv_s_mo hs) (Nat.le_trans (hC _ _ _ _ _ hc) (iv_x_mo hK hC is _ _ _ hx))
theorem iv_pr_h {y : Nat} {as : List Value} {h : iv_H} {r : iv_R} (hp : iv_pr y as h = some r) : r.2 = h := by
  unfold iv_pr at hp
  repeat' split at hp
  all_goals first
    | (cases hp; done)
    | (cases hp; rfl)
theorem iv_run_mo (G : Nat → iv_B) : ∀ (n d y pc : Nat) (ls : iv_L) (st : List Value) (h : iv_H) (r : Option Value) (hF : iv_H), iv_run G n d y pc ls st h = some (r, hF) → h.1 ≤ hF.1
  | 0, d, y, pc, ls, st, h, r, hF, hx => by cases hx
  | n + 1, d, y, pc, ls, st, h, r, hF, hx => by
    unfold iv_run at hx
    refine iv_x_mo (fun pc' ls' st' h' hk => iv_run_mo G n _ _ _ _ _ _ _ _ hk) (fun y' as h' r1 h1 hc => ?_) _ _ _ _ hx
    split at hc
    · cases hc
    · split at hc
      · split at hc
        · rw [show h1 = h' from iv_pr_h hc]; exact Nat.le_refl _
        · cases hc
      · split at hc
        · exact iv_run_mo G n _ _ _ _ _ _ _ _ hc
        · cases hc
section IVX
variable {p : Program} {l : Launch} {e : Env} {R : Room} {s : State} {m : MethodId} {args : Array Value} {below : List Frame} {meth : Method} {c : Code} {Q : State → Prop} {g : iv_G} {nL c0 cF D o : Nat} {bs : ByteArray} {Ts : List Cond} {rt : Option FieldType} {ini : Bool}
/-- a block -/
theorem iv_x_ok {K : Nat → iv_L → List Value → iv_H → Option iv_R} {C : Nat → List Value → iv_H → Option iv_R} {r : Option Value} {hF : iv_H} (Cx : iv_Cx p m c s args R meth g nL c0 cF D o ini bs Ts) (hFc : hF.1 ≤ cF)
    (hKm : ∀ pc ls st h, K pc ls st h = some (r, hF) → h.1 ≤ hF.1) (hCm : ∀ y as h r1 h1, C y as h = some (r1, h1) → h.1 ≤ h1.1)
    (hK : ∀ pc ls st h, K pc ls st h = some (r, hF) → iv_W p l e R s m args below meth c Q g nL c0 cF pc ls st h)
    (hC : ∀ y as h r1 h1, C y as h = some (r1, h1) → h1.1 ≤ cF → ∃ d, D = d + 1 ∧ iv_Met g l (iv_yn y).1 (iv_yw (iv_yn y)) d as h r1 h1)
    (hR : ∀ pc (i : iv_I) ls st h, iv_ck bs o rt ini pc i = true → iv_s i ls st h = some (.inr (.inr (.inl (r, hF)))) → (i.1 = 63 ∨ i.1 = 64 ∨ i.1 = 65) → iv_W p l e R s m args below meth c Q g nL c0 cF pc ls st h) :
    ∀ (is : List iv_I) (pc : Nat) (ls : iv_L) (st : List Value) (h : iv_H), iv_cb bs o rt ini pc is = true → iv_x is ls st h K C = some (r, hF) → iv_W p l e R s m args below meth c Q g nL c0 cF pc ls st h
  | [], pc, ls, st, h, _, hx => by cases hx
  | i :: is, pc, ls, st, h, hcb, hx => by
    have hcb2 := Bool.and_eq_true_iff.mp (show (iv_ck bs o rt ini pc i && iv_cb bs o rt ini (pc + iv_len i) is) = true from hcb)
    unfold iv_x at hx
    split at hx
    · cases hx
    · rename_i ls' st' h' hs
      have ih := iv_x_ok Cx hFc hKm hCm hK hC hR is (pc + iv_len i) ls' st' h' hcb2.2 hx
      have hle := iv_x_mo hKm hCm is ls' st' h' hx
      refine iv_step Cx hcb2.1 hs (fun _ _ _ e9 => ?_) (fun _ _ _ e9 => ?_) (fun _ _ _ _ e9 => by cases e9) (fun _ _ e9 _ => by cases e9) (fun _ _ _ _ _ e9 => by cases e9)
      · cases e9; exact Nat.le_trans hle hFc
      · cases e9; exact ih
    · rename_i pc' ls' st' h' hs
      refine iv_step Cx hcb2.1 hs (fun _ _ _ e9 => by cases e9) (fun _ _ _ e9 => by cases e9) (fun _ _ _ _ e9 => ?_) (fun _ _ e9 _ => by cases e9) (fun _ _ _ _ _ e9 => by cases e9)
      cases e9
      exact hK _ _ _ _ hx
    · rename_i r1 hs
      cases hx
      refine iv_step Cx hcb2.1 hs (fun _ _ _ e9 => by cases e9) (fun _ _ _ e9 => by cases e9) (fun _ _ _ _ e9 => by cases e9) (fun _ _ e9 hop => ?_) (fun _ _ _ _ _ e9 => by cases e9)
      exact hR pc i ls st h hcb2.1 hs hop
    · rename_i y as ls' st' h' hs
      split at hx
      · cases hx
      · rename_i r1 h1 hc
        have hle := iv_x_mo hKm hCm is _ _ _ hx
        have ih := iv_x_ok Cx hFc hKm hCm hK hC hR is (pc + iv_len i) ls' _ h1 hcb2.2 hx
        obtain ⟨d, eD, hM⟩ := hC _ _ _ _ _ hc (Nat.le_trans hle hFc)
        refine iv_step Cx hcb2.1 hs (fun _ _ _ e9 => by cases e9) (fun _ _ _ e9 => by cases e9) (fun _ _ _ _ e9 => by cases e9) (fun _ _ e9 _ => by cases e9) (fun _ _ _ _ _ e9 => ?_)
        cases e9
        exact ⟨d, r1, h1, eD, hM, Nat.le_trans hle hFc, ih⟩
theorem iv_W_msk {pc : Nat} {ls : iv_L} {st : List Value} {h : iv_H} {mk : List Nat} (hm : mk.length = nL) (k : iv_W p l e R s m args below meth c Q g nL c0 cF pc (iv_m mk ls) st h) : iv_W p l e R s m args below meth c Q g nL c0 cF pc ls st h :=
  fun h0 h1 lsC H locs hL hI hl => k h0 h1 lsC H locs (hL.msk hm) hI hl
end IVX
def iv_Gb (y : Nat) : iv_B := (iv_q y).2.2.2.2.2.2
theorem iv_lk_ok {q : iv_Q} (h : iv_cm q = true) (pc : Nat) : iv_lk q.2.2.2.2.2.2 pc = ([], []) ∨ ((iv_lk q.2.2.2.2.2.2 pc).1.length = q.2.2.1 ∧ iv_cb q.2.1 q.2.2.2.2.1 q.2.2.2.1 (decide (q.1.name = "<init>")) pc (iv_lk q.2.2.2.2.2.2 pc).2 = true) := by
  have key : ∀ bl : iv_B, bl.all (fun b => decide (b.2.1.length = q.2.2.1) && iv_cb q.2.1 q.2.2.2.2.1 q.2.2.2.1 (decide (q.1.name = "<init>")) b.1 b.2.2) = true → iv_lk bl pc = ([], []) ∨ ((iv_lk bl pc).1.length = q.2.2.1 ∧ iv_cb q.2.1 q.2.2.2.2.1 q.2.2.2.1 (decide (q.1.name = "<init>")) pc (iv_lk bl pc).2 = true) := by
    intro bl
    induction bl with
    | nil => intro _; exact Or.inl rfl
    | cons b bl ih =>
      intro hb
      rw [List.all_cons, Bool.and_eq_true_iff] at hb
      obtain ⟨h1, h2⟩ := hb
      rw [Bool.and_eq_true_iff] at h1
      obtain ⟨k, mk, is⟩ := b
      unfold iv_lk
      by_cases e : k = pc
      · rw [if_pos e]
        subst e
        exact Or.inr ⟨of_decide_eq_true h1.1, h1.2⟩
      · rw [if_neg e]
        exact ih h2
  exact key _ h
theorem iv_lay_at {g : iv_G} : ∀ (as : List Value) (k i : Nat) (v : Value), (iv_lay as)[i]? = some (some v) → (k + i, iv_v g v) ∈ lv_args k (as.map (iv_v g))
  | [], k, i, v, h => by simp [iv_lay] at h
  | w :: as, k, i, v, h => by
    rw [List.map_cons, lv_args, iv_cat]
    unfold iv_lay at h
    by_cases hc : w.category = 2
    · rw [if_pos hc] at h ⊢
      match i, h with
      | 0, h => simp at h; rw [← h]; exact List.mem_cons_self
      | 1, h => simp at h
      | j + 2, h =>
        simp only [List.getElem?_cons_succ] at h
        have := iv_lay_at (g := g) as (k + 2) j v h
        rw [show k + (j + 2) = k + 2 + j by omega]
        exact List.mem_cons_of_mem _ this
    · rw [if_neg hc] at h ⊢
      match i, h with
      | 0, h => simp at h; rw [← h]; exact List.mem_cons_self
      | j + 1, h =>
        simp only [List.getElem?_cons_succ] at h
        have := iv_lay_at (g := g) as (k + 1) j v h
        rw [show k + (j + 1) = k + 1 + j by omega]
        exact List.mem_cons_of_mem _ this
theorem iv_lay_len (g : iv_G) : ∀ as : List Value, (lg_sl (as.map (iv_v g))).length = (iv_lay as).length
  | [] => rfl
  | v :: as => by
    have ih := iv_lay_len g as
    unfold lg_sl at ih ⊢
    rw [List.map_cons, List.flatMap_cons, List.length_append, ih, iv_cat]
    have e : iv_lay (v :: as) = if v.category = 2 then some v :: none :: iv_lay as else some v :: iv_lay as := rfl
    rw [e]
    split <;> simp <;> omega
