/-! TONIGHT: the reference's search, whole -/
theorem pr_iff {I I' : Nat → Nat → Int32} {c c' : Prop} {m : Nat} {W : Nat → Int32} (h : pr_post I I' c m W) (e : c ↔ c') : pr_post I I' c' m W := ⟨h.1, fun q => h.2.1 (e.mpr q), fun q => h.2.2 (fun z => q (e.mp z))⟩
theorem pr_m {I I' : Nat → Nat → Int32} {c : Prop} {m m' : Nat} {W W' : Nat → Int32} (h : pr_post I I' c m W) (e : c → m = m' ∧ W = W') : pr_post I I' c m' W' := ⟨h.1, fun q => by obtain ⟨rfl, rfl⟩ := e q; exact h.2.1 q, h.2.2⟩
theorem pr_step {I s s1 s2 s3 : Nat → Nat → Int32} {t v mo moc sum : Nat} {R0 R1 : Nat → Int32} (h : pr_post I s (t ≠ 0 ∧ mo < t + sum) (t + sum) R0) (hI : I 56 24 = oI mo) (hs1 : ∀ p, p ≠ 70 → s1 p = s p) (h2 : pr_post s1 s2 (v ≠ 0 ∧ moc < v + sum) (v + sum) R1) (hs3 : ∀ p, p ≠ 70 → s3 p = s2 p) (h70 : s3 70 = I 70) (hmoc : moc = if t ≠ 0 ∧ mo < t + sum then t + sum else mo) : pr_post I s3 (mx t v ≠ 0 ∧ mo < mx t v + sum) (mx t v + sum) (if t < v then R1 else R0) := by
  obtain ⟨⟨a1, a2⟩, a3, a4⟩ := h
  obtain ⟨⟨b1, b2⟩, b3, b4⟩ := h2
  refine ⟨⟨fun p h1 h2 => ?_, fun j hj => ?_⟩, ?_, ?_⟩
  · by_cases c : p = 70
    · rw [c]; exact h70
    · rw [hs3 p c, b1 p h1 h2, hs1 p c, a1 p h1 h2]
  · rw [hs3 56 (by omega), b2 j hj, hs1 56 (by omega), a2 j hj]
  · rintro ⟨c1, c2⟩
    unfold mx at c1 c2 ⊢
    by_cases tv : t < v
    · rw [if_pos tv] at c1 c2 ⊢
      rw [if_pos tv]
      have cc : v ≠ 0 ∧ moc < v + sum := by
        refine ⟨c1, ?_⟩
        rw [hmoc]
        split <;> omega
      rw [hs3 56 (by omega), hs3 71 (by omega)]
      exact b3 cc
    · rw [if_neg tv] at c1 c2 ⊢
      rw [if_neg tv]
      have cc : ¬ (v ≠ 0 ∧ moc < v + sum) := by
        rintro ⟨-, z⟩
        rw [hmoc, if_pos ⟨c1, c2⟩] at z
        omega
      obtain ⟨x1, x2⟩ := b4 cc
      obtain ⟨y1, y2⟩ := a3 ⟨c1, c2⟩
      rw [hs3 56 (by omega), hs3 71 (by omega), x1, x2, hs1 56 (by omega), hs1 71 (by omega)]
      exact ⟨y1, y2⟩
  · intro c
    have ct : ¬ (t ≠ 0 ∧ mo < t + sum) := by
      rintro ⟨z1, z2⟩
      apply c
      unfold mx
      split <;> omega
    have cv : ¬ (v ≠ 0 ∧ moc < v + sum) := by
      rintro ⟨z1, z2⟩
      rw [hmoc, if_neg ct] at z2
      apply c
      unfold mx
      split <;> omega
    obtain ⟨x1, x2⟩ := b4 cv
    obtain ⟨y1, y2⟩ := a4 ct
    rw [hs3 56 (by omega), hs3 71 (by omega), x1, x2, hs1 56 (by omega), hs1 71 (by omega), y1, y2]
    exact ⟨rfl, rfl⟩
/-- the most so far, and who was the first to reach it -/
def rfs (V : Nat → Nat) (y : Nat) (s : Nat × Nat) : Nat × Nat := if s.1 < V y then (V y, y) else s
def rf (V : Nat → Nat) (p q : Nat) : Nat × Nat := it_fold (rfs V) (q - p) p (0, p)
theorem rf_s {V : Nat → Nat} {p q : Nat} (h : p ≤ q) : rf V p (q + 1) = rfs V q (rf V p q) := by
  unfold rf
  have e : q + 1 - p = (q - p) + 1 := by omega
  rw [e, it_foldS]
  have e2 : p + (q - p) = q := by omega
  rw [e2]
theorem rf_1 {V : Nat → Nat} {p q : Nat} (h : p ≤ q) : (rf V p (q + 1)).1 = mx (rf V p q).1 (V q) := by
  rw [rf_s h]
  unfold rfs mx
  split <;> rfl
theorem rf_top {V : Nat → Nat} {p : Nat} : ∀ m, (it_fold (rfs V) m p (0, p)).1 = it_fold (fun y top => mx top (V y)) m p 0
  | 0 => rfl
  | m + 1 => by
    rw [it_foldS, it_foldS, ← rf_top m]
    unfold rfs mx
    split <;> rfl
theorem rf_inv {V : Nat → Nat} {p : Nat} : ∀ m, (∀ i, p ≤ i → i < p + m → V i ≤ (it_fold (rfs V) m p (0, p)).1) ∧ ((it_fold (rfs V) m p (0, p)).1 ≠ 0 → (p ≤ (it_fold (rfs V) m p (0, p)).2 ∧ (it_fold (rfs V) m p (0, p)).2 < p + m) ∧ V (it_fold (rfs V) m p (0, p)).2 = (it_fold (rfs V) m p (0, p)).1 ∧ ∀ i, p ≤ i → i < (it_fold (rfs V) m p (0, p)).2 → V i < (it_fold (rfs V) m p (0, p)).1)
  | 0 => ⟨fun i h1 h2 => absurd h1 (by omega), fun h => absurd rfl h⟩
  | m + 1 => by
    obtain ⟨h1, h2⟩ := rf_inv (V := V) (p := p) m
    rw [it_foldS]
    generalize it_fold (rfs V) m p (0, p) = s at h1 h2
    obtain ⟨t, y⟩ := s
    simp only at h1 h2
    unfold rfs
    by_cases c : t < V (p + m)
    · simp only [c, if_true]
      refine ⟨fun i a b => ?_, fun _ => ⟨⟨by omega, by omega⟩, trivial, fun i a b => ?_⟩⟩
      · by_cases e : i = p + m
        · rw [e]; exact Nat.le_refl _
        · have := h1 i a (by omega); omega
      · have := h1 i a (by omega); omega
    · simp only [c, if_false]
      refine ⟨fun i a b => ?_, fun z => ?_⟩
      · by_cases e : i = p + m
        · rw [e]; omega
        · exact h1 i a (by omega)
      · obtain ⟨⟨a, b⟩, x⟩ := h2 z
        exact ⟨⟨a, by omega⟩, x⟩
theorem fy_first {q : Nat → Bool} {z y : Nat} : ∀ m a, a ≤ y → y < a + m → q y = true → (∀ i, a ≤ i → i < y → q i = false) → fy q z m a = y
  | 0, a, h1, h2, _, _ => absurd h1 (by omega)
  | m + 1, a, h1, h2, h3, h4 => by
    unfold fy
    by_cases c : a = y
    · subst c; rw [if_pos h3]
    · rw [h4 a (Nat.le_refl a) (by omega), if_neg (by decide)]
      exact fy_first m (a + 1) (by omega) (by omega) h3 (fun i x y => h4 i (by omega) y)
theorem rf_le {V : Nat → Nat} {p c : Nat} (h : ∀ y, V y ≤ c) : ∀ m, (it_fold (rfs V) m p (0, p)).1 ≤ c
  | 0 => Nat.zero_le c
  | m + 1 => by
    rw [it_foldS]
    unfold rfs
    split
    · exact h _
    · exact rf_le h m
theorem wr_b1 {k q : Nat} (hk : k < 256) (hq : q < 8) : ((nI k >>> (nI q &&& 31)) &&& 1 = 1) = (it_wr (nI k) q = 1) := by
  rw [tw_1' hk hq, ib_wr k hk q hq]
  cases k.testBit q <;> simp
section
variable {n bv A : Nat} {P : Nat → Nat → Int32} {J : Nat → Nat → Int64}
theorem m_pairs (ok : ip_ok n P) (hv : bv < 2) (hA : A < 256) : ∀ (k p S sum mo si : Nat) (I : Nat → Nat → Int32), k + p = n → ip_Mr I P → (I 56 25 = nI A ∧ I 56 26 = nI bv) → (S < 2 ^ n ∧ (∀ i, i < p → S.testBit i = false) ∧ ∀ i, p ≤ i → i < n → (S.testBit i = true ↔ (A.testBit i = false ∧ I 70 i = -1))) → si = pp S % 2 → sum ≤ 40 * p → (mo ≤ 1000 ∧ I 56 24 = oI mo) →
    ∃ I', (∀ d L : Nat, iv_call (d + k + 3) 201 [.ref 56, .int (nI p), .int (nI si), .int (nI sum)] (iv_mk L I J) = some (none, iv_mk L I' J)) ∧ pr_post I I' (mm (ip_T P bv) n k S ≠ 0 ∧ mo < mm (ip_T P bv) n k S + sum) (mm (ip_T P bv) n k S + sum) (cg (ip_T P bv) n k S (I 70))
  | 0, p, S, sum, mo, si, I, hp, hM, hf, hS, hsi, hsum, hmo => by
    have h8 := ip_n8 ok
    have : p = n := by omega
    subst this
    obtain ⟨I', e, h⟩ := m_pairs0 (J := J) (d := 0) (si := nI si) hM ok (sum := sum) (mo := mo) (by omega) (by omega) hmo.2
    refine ⟨I', e, ?_⟩
    rw [mm_0]
    exact pr_iff h ⟨fun q => ⟨by decide, q⟩, fun q => q.2⟩
  | k + 1, p, S, sum, mo, si, I, hp, hM, ⟨hfA, hfb⟩, ⟨hS, hz, hin⟩, hsi, hsum, hmo => by
    have h8 := ip_n8 ok
    have p2 := p2_le h8
    have hS' : S < 256 := by omega
    have hp8 : p < 8 := by omega
    have ep : n - (k + 1) = p := by omega
    have hne : ¬ nI p = nI n := fun q => absurd ((nI_eq (by omega) (by omega)).mp q) (by omega)
    have nn := ip_nn ok
    cases hb : S.testBit p with
    | false =>
      have IH := m_pairs ok hv hA k (p + 1) S sum mo si I (by omega) hM ⟨hfA, hfb⟩ ⟨hS, fun i hi => by
        by_cases c : i = p
        · rw [c]; exact hb
        · exact hz i (by omega), fun i h1 h2 => hin i (by omega) h2⟩ hsi (by omega) hmo
      obtain ⟨I', e, h⟩ := IH
      refine ⟨I', fun d L => ?_, ?_⟩
      · have e' := e d L
        have hno : A.testBit p = true ∨ (A.testBit p = false ∧ ¬ I 70 p = -1) := by
          cases ha : A.testBit p with
          | true => exact Or.inl rfl
          | false =>
            refine Or.inr ⟨rfl, fun q => ?_⟩
            have := (hin p (by omega) (by omega)).mpr ⟨ha, q⟩
            rw [hb] at this
            exact absurd this (by decide)
        have ed : d + (k + 1) + 3 = (d + k + 3) + 1 := by omega
        rw [ed]
        rcases hno with ha | ⟨ha, hw⟩
        · refine (ivc_201).trans ((ivs_201_0).trans ?_)
          simp (decide := true) only [ivf_201_17, ivf_201_52, ivf_201_53, ivf_201_71, ivf_201_81, ivf_201_108, ivf_201_167, ivf_201_223, ivf_201_229, ivj_201_25, ivj_201_113, ivx_0, ivx_1, ivx_2, ivx_3, ivx_4, ivx_5, ivx_6, ivx_7, ivx_8, ivx_9, ivx_10, ivx_11, ivx_12, ivx_13, ivx_14, ivx_15, ivx_16, ivx_17, ivx_21, ivx_22, ivx_23, ivx_24, ivx_25, ivx_26, ivx_20, ivx_36, ivx_37, ivx_18, ivx_19, ivx_27, ivx_28, ivx_29, ivx_30, ivx_31, ivx_32, ivx_33, ivx_34, ivx_35, ivx_38int, ivx_39int, ivx_40intint, ivx_41intint, ivx_40intref, ivx_41intref, ivx_38ref, ivx_39ref, ivx_40refint, ivx_41refint, ivx_40refref, ivx_41refref, ivx_42, ivx_71, ivx_43eq, ivx_44eq, ivx_43ne, ivx_44ne, ivx_43lt, ivx_44lt, ivx_43ge, ivx_44ge, ivx_43gt, ivx_44gt, ivx_43le, ivx_44le, ivx_45, ivx_46, ivx_47, ivx_48, ivx_76, ivx_77, ivx_49, ivx_50, ivx_51, ivx_52, ivx_53, ivx_54, ivx_55, ivx_56, ivx_57, ivx_58, ivx_63, ivx_63b, ivx_64, ivx_65, ivx_66_0, ivx_66_1, ivx_66_2, ivx_66_3, ivx_66_4, ivx_66_5, ivx_68_0, ivx_68_1, ivx_68_2, ivx_68_3, ivx_68_4, ivx_68_5, ivx_73_0, ivx_73_1, ivx_73_2, ivx_73_3, ivx_73_4, ivx_73_5, ivx_75_0, ivx_75_1, ivx_75_2, ivx_75_3, ivx_75_4, ivx_75_5, ivx_67_1, ivx_67_2, ivx_67_3, ivx_67_4, ivx_72_1, ivx_72_2, ivx_72_3, ivx_72_4, iv_ld8_s, iv_ld9_s, iv_ld10_s, List.getElem?_cons_zero, List.getElem?_cons_succ, List.length_cons, List.length_nil, iv_mk_c, iv_mk_I, iv_mk_J, iv_mk_R, iv_mk_uI, iv_mk_uJ, iv_rv_s, iv_cc_s, Option.toList_some, Option.toList_none, List.cons_append, List.nil_append, iv_st1, iv_st2, iv_kill, List.set_cons_zero, List.set_cons_succ, Value.category, ivq0_m1, ivq0_0, ivq0_1, ivq0_2, ivq0_3, ivq0_4, ivq0_5, ivq0_6, ivq0_252645135, ivq0_858993459, ivq0_1103515245, ivq0_1431655765, ivq1_m20, ivq1_m6, ivq1_m5, ivq1_m4, ivq1_m3, ivq1_m2, ivq1_6, ivq1_7, ivq1_8, ivq1_9, ivq1_10, ivq1_12, ivq1_16, ivq1_20, ivq1_24, ivq1_32, ivq1_40, ivq1_41, ivq1_42, ivq1_43, ivq1_44, ivq1_45, ivq1_48, ivq1_57, ivq1_59, ivq1_60, ivq1_61, ivq1_63, ivq1_97, ivq1_99, ivq1_100, ivq1_101, ivq1_119, ivq1_120, ivq1_122, ivq1_127, ivq2_250, ivq2_255, ivq2_256, ivq2_320, ivq2_999, ivq2_1000, ivq2_12345, ivqL_0, ivqL_1, ivqL_8, ivqL_4294967295, ivz_2, ivz_10, ivz_12, eq_self, Nat.reduceLT, Nat.reduceLeDiff, Nat.reduceAdd, Nat.reduceEqDiff, reduceIte, and_self, and_true, true_and, or_true, true_or, or_self, ite_self, if_true, if_false, ite_not, it_b10, it_b01, it_in8, it_cl8, Nat.reduceEqDiff, Int32.reduceLT, Int32.reduceLE, Int64.reduceLT, Int64.reduceLE, Nat.reduceMul, Nat.reduceSub, ivt_0, ivt_1, ivt_2, ivt_3, ivt_4, ivt_5, ivt_6, ivt_7, ivt_8, ivt_40, ivt_41, ivt_42, ivt_43, ivt_44, ivl_0, ivl_1, ivl_2, ivl_3, ivl_4, ivl_5, ivl_6, ivl_7, ivl_8, ivl_40, ivl_41, ivl_42, ivl_43, ivl_44, ivd_2, ivd_3, ivd_4, ivd_5, ivd_6, ivn2_1, ivn2_2, ivn2_3, ivn2_4, ivn2_5, ivn2_6, it_b11, it_nos, up_app, nI_1, Nat.add_left_cancel_iff, and_false, false_and, Nat.add_eq_left, Nat.left_eq_add, not_true_eq_false, not_false_eq_true, ivr_8_0, ivr_8_1, ivr_8_2, ivr_8_3, ivr_8_4, ivr_8_5, ivr_8_6, ivr_9_0, ivr_9_1, ivr_9_2, ivr_9_3, ivr_14_0, ivr_14_1, ivr_14_2, ivr_14_3, ivr_19_0, ivr_19_1, ivr_19_2, ivr_19_3, ivr_24_0, ivr_24_1, ivr_24_2, ivr_26_0, ivr_26_1, ivr_26_2, ivr_26_3, ivr_26_4, ivr_26_5, ivr_26_6, ivr_26_7, ivr_36_0, ivr_38_0, ivr_38_1, ivr_38_2, ivr_38_3, ivr_38_4, ivr_38_5, ivr_38_6, ivr_38_7, ivr_40_2, ivr_42_2, ivr_44_2, ivr_46_2, ivr_48_2, ivr_50_2, ivr_52_2, ivr_54_2, ivr_56_1, ivr_56_2, ivr_56_3, ivr_56_4, ivr_56_5, ivr_56_6, ivr_56_10, ivr_56_15, ivr_56_16, ivr_56_17, ivr_56_18, ivr_56_20, ivr_56_21, ivr_56_22, ivr_56_23, ivp_0, ivn_0, ivp_1, ivn_1, ivp_2, ivn_2, ivp_3, ivn_3, ivp_4, ivn_4, ivp_5, ivn_5, ivp_6, ivn_6, ivp_7, ivn_7, ivp_8, ivn_8, ivp_9, ivn_9, ivp_10, ivn_10, ivp_11, ivn_11, ivp_12, ivn_12, ivp_13, ivn_13, ivp_14, ivn_14, ivp_15, ivn_15, ivp_16, ivn_16, ivp_17, ivn_17, ivp_18, ivn_18, ivp_19, ivn_19, ivp_20, ivn_20, ivp_21, ivn_21, ivp_22, ivn_22, ivp_23, ivn_23, ivp_24, ivn_24, ivp_25, ivn_25, ivp_26, ivn_26, ivp_27, ivn_27, ivp_28, ivn_28, ivp_29, ivn_29, ivp_30, ivn_30, ivp_31, ivn_31, ivp_32, ivn_32, ivp_33, ivn_33, ivp_34, ivn_34, ivp_35, ivn_35, ivp_36, ivn_36, ivp_37, ivn_37, ivp_38, ivn_38, ivp_39, ivn_39, ivp_40, ivn_40, ivp_41, ivn_41, ivp_42, ivn_42, ivp_43, ivn_43, ivp_44, ivn_44, ivp_45, ivn_45, ivp_46, ivn_46, ivp_47, ivn_47, ivp_48, ivn_48, ivp_49, ivn_49, ivp_50, ivn_50, ivp_51, ivn_51, ivp_52, ivn_52, ivp_53, ivn_53, ivp_54, ivn_54, ivp_55, ivn_55, ivp_56, ivn_56, ivp_57, ivn_57, ivp_58, ivn_58, ivp_59, ivn_59, ivp_60, ivn_60, ivp_61, ivn_61, ivp_62, ivn_62, ivp_63, ivn_63, ivp_64, ivn_64, ivp_65, ivn_65, ivp_66, ivn_66, ivp_67, ivn_67, ivp_68, ivn_68, ivp_69, ivn_69, ivp_70, ivn_70, ivp_71, ivn_71, iv_mk_ln, iv_mk_l0, ne_eq, not_false_eq_true, not_true_eq_false, mr_c hM, nn, hne, m_there hA hfA hp8, ha, nI_1, e']
        · refine (ivc_201).trans ((ivs_201_0).trans ?_)
          simp (decide := true) only [ivf_201_17, ivf_201_52, ivf_201_53, ivf_201_71, ivf_201_81, ivf_201_108, ivf_201_167, ivf_201_223, ivf_201_229, ivj_201_25, ivj_201_113, ivx_0, ivx_1, ivx_2, ivx_3, ivx_4, ivx_5, ivx_6, ivx_7, ivx_8, ivx_9, ivx_10, ivx_11, ivx_12, ivx_13, ivx_14, ivx_15, ivx_16, ivx_17, ivx_21, ivx_22, ivx_23, ivx_24, ivx_25, ivx_26, ivx_20, ivx_36, ivx_37, ivx_18, ivx_19, ivx_27, ivx_28, ivx_29, ivx_30, ivx_31, ivx_32, ivx_33, ivx_34, ivx_35, ivx_38int, ivx_39int, ivx_40intint, ivx_41intint, ivx_40intref, ivx_41intref, ivx_38ref, ivx_39ref, ivx_40refint, ivx_41refint, ivx_40refref, ivx_41refref, ivx_42, ivx_71, ivx_43eq, ivx_44eq, ivx_43ne, ivx_44ne, ivx_43lt, ivx_44lt, ivx_43ge, ivx_44ge, ivx_43gt, ivx_44gt, ivx_43le, ivx_44le, ivx_45, ivx_46, ivx_47, ivx_48, ivx_76, ivx_77, ivx_49, ivx_50, ivx_51, ivx_52, ivx_53, ivx_54, ivx_55, ivx_56, ivx_57, ivx_58, ivx_63, ivx_63b, ivx_64, ivx_65, ivx_66_0, ivx_66_1, ivx_66_2, ivx_66_3, ivx_66_4, ivx_66_5, ivx_68_0, ivx_68_1, ivx_68_2, ivx_68_3, ivx_68_4, ivx_68_5, ivx_73_0, ivx_73_1, ivx_73_2, ivx_73_3, ivx_73_4, ivx_73_5, ivx_75_0, ivx_75_1, ivx_75_2, ivx_75_3, ivx_75_4, ivx_75_5, ivx_67_1, ivx_67_2, ivx_67_3, ivx_67_4, ivx_72_1, ivx_72_2, ivx_72_3, ivx_72_4, iv_ld8_s, iv_ld9_s, iv_ld10_s, List.getElem?_cons_zero, List.getElem?_cons_succ, List.length_cons, List.length_nil, iv_mk_c, iv_mk_I, iv_mk_J, iv_mk_R, iv_mk_uI, iv_mk_uJ, iv_rv_s, iv_cc_s, Option.toList_some, Option.toList_none, List.cons_append, List.nil_append, iv_st1, iv_st2, iv_kill, List.set_cons_zero, List.set_cons_succ, Value.category, ivq0_m1, ivq0_0, ivq0_1, ivq0_2, ivq0_3, ivq0_4, ivq0_5, ivq0_6, ivq0_252645135, ivq0_858993459, ivq0_1103515245, ivq0_1431655765, ivq1_m20, ivq1_m6, ivq1_m5, ivq1_m4, ivq1_m3, ivq1_m2, ivq1_6, ivq1_7, ivq1_8, ivq1_9, ivq1_10, ivq1_12, ivq1_16, ivq1_20, ivq1_24, ivq1_32, ivq1_40, ivq1_41, ivq1_42, ivq1_43, ivq1_44, ivq1_45, ivq1_48, ivq1_57, ivq1_59, ivq1_60, ivq1_61, ivq1_63, ivq1_97, ivq1_99, ivq1_100, ivq1_101, ivq1_119, ivq1_120, ivq1_122, ivq1_127, ivq2_250, ivq2_255, ivq2_256, ivq2_320, ivq2_999, ivq2_1000, ivq2_12345, ivqL_0, ivqL_1, ivqL_8, ivqL_4294967295, ivz_2, ivz_10, ivz_12, eq_self, Nat.reduceLT, Nat.reduceLeDiff, Nat.reduceAdd, Nat.reduceEqDiff, reduceIte, and_self, and_true, true_and, or_true, true_or, or_self, ite_self, if_true, if_false, ite_not, it_b10, it_b01, it_in8, it_cl8, Nat.reduceEqDiff, Int32.reduceLT, Int32.reduceLE, Int64.reduceLT, Int64.reduceLE, Nat.reduceMul, Nat.reduceSub, ivt_0, ivt_1, ivt_2, ivt_3, ivt_4, ivt_5, ivt_6, ivt_7, ivt_8, ivt_40, ivt_41, ivt_42, ivt_43, ivt_44, ivl_0, ivl_1, ivl_2, ivl_3, ivl_4, ivl_5, ivl_6, ivl_7, ivl_8, ivl_40, ivl_41, ivl_42, ivl_43, ivl_44, ivd_2, ivd_3, ivd_4, ivd_5, ivd_6, ivn2_1, ivn2_2, ivn2_3, ivn2_4, ivn2_5, ivn2_6, it_b11, it_nos, up_app, nI_1, Nat.add_left_cancel_iff, and_false, false_and, Nat.add_eq_left, Nat.left_eq_add, not_true_eq_false, not_false_eq_true, ivr_8_0, ivr_8_1, ivr_8_2, ivr_8_3, ivr_8_4, ivr_8_5, ivr_8_6, ivr_9_0, ivr_9_1, ivr_9_2, ivr_9_3, ivr_14_0, ivr_14_1, ivr_14_2, ivr_14_3, ivr_19_0, ivr_19_1, ivr_19_2, ivr_19_3, ivr_24_0, ivr_24_1, ivr_24_2, ivr_26_0, ivr_26_1, ivr_26_2, ivr_26_3, ivr_26_4, ivr_26_5, ivr_26_6, ivr_26_7, ivr_36_0, ivr_38_0, ivr_38_1, ivr_38_2, ivr_38_3, ivr_38_4, ivr_38_5, ivr_38_6, ivr_38_7, ivr_40_2, ivr_42_2, ivr_44_2, ivr_46_2, ivr_48_2, ivr_50_2, ivr_52_2, ivr_54_2, ivr_56_1, ivr_56_2, ivr_56_3, ivr_56_4, ivr_56_5, ivr_56_6, ivr_56_10, ivr_56_15, ivr_56_16, ivr_56_17, ivr_56_18, ivr_56_20, ivr_56_21, ivr_56_22, ivr_56_23, ivp_0, ivn_0, ivp_1, ivn_1, ivp_2, ivn_2, ivp_3, ivn_3, ivp_4, ivn_4, ivp_5, ivn_5, ivp_6, ivn_6, ivp_7, ivn_7, ivp_8, ivn_8, ivp_9, ivn_9, ivp_10, ivn_10, ivp_11, ivn_11, ivp_12, ivn_12, ivp_13, ivn_13, ivp_14, ivn_14, ivp_15, ivn_15, ivp_16, ivn_16, ivp_17, ivn_17, ivp_18, ivn_18, ivp_19, ivn_19, ivp_20, ivn_20, ivp_21, ivn_21, ivp_22, ivn_22, ivp_23, ivn_23, ivp_24, ivn_24, ivp_25, ivn_25, ivp_26, ivn_26, ivp_27, ivn_27, ivp_28, ivn_28, ivp_29, ivn_29, ivp_30, ivn_30, ivp_31, ivn_31, ivp_32, ivn_32, ivp_33, ivn_33, ivp_34, ivn_34, ivp_35, ivn_35, ivp_36, ivn_36, ivp_37, ivn_37, ivp_38, ivn_38, ivp_39, ivn_39, ivp_40, ivn_40, ivp_41, ivn_41, ivp_42, ivn_42, ivp_43, ivn_43, ivp_44, ivn_44, ivp_45, ivn_45, ivp_46, ivn_46, ivp_47, ivn_47, ivp_48, ivn_48, ivp_49, ivn_49, ivp_50, ivn_50, ivp_51, ivn_51, ivp_52, ivn_52, ivp_53, ivn_53, ivp_54, ivn_54, ivp_55, ivn_55, ivp_56, ivn_56, ivp_57, ivn_57, ivp_58, ivn_58, ivp_59, ivn_59, ivp_60, ivn_60, ivp_61, ivn_61, ivp_62, ivn_62, ivp_63, ivn_63, ivp_64, ivn_64, ivp_65, ivn_65, ivp_66, ivn_66, ivp_67, ivn_67, ivp_68, ivn_68, ivp_69, ivn_69, ivp_70, ivn_70, ivp_71, ivn_71, iv_mk_ln, iv_mk_l0, ne_eq, not_false_eq_true, not_true_eq_false, mr_c hM, nn, hne, m_there hA hfA hp8, ha, hp8, hw, nI_1, e']
      · have m1 : mm (ip_T P bv) n (k + 1) S = mm (ip_T P bv) n k S := mm_out (by rw [ep]; exact hb)
        have c1 : cg (ip_T P bv) n (k + 1) S (I 70) = cg (ip_T P bv) n k S (I 70) := cg_out (by rw [ep]; exact hb)
        rw [m1, c1]
        exact h
    | true =>
      obtain ⟨ha, hw⟩ := (hin p (by omega) (by omega)).mp hb
      have hT : ∀ x y, ip_T P bv x y ≤ 41 := fun x y => T_le
      have sub : ∀ y, p ≤ y → y < n → ∀ i, p + 1 ≤ i → i < n → ((rm S p y).testBit i = true ↔ (A.testBit i = false ∧ upd (upd (I 70) p (nI y)) y (nI p) i = -1)) := by
        intro y hy1 hy2 i h1 h2
        rw [rm_t hp8 (by omega) (by omega)]
        by_cases c : i = y
        · subst c
          rw [pk_us]
          simp [ik_nm hp8]
        · have c2 : i ≠ p := by omega
          rw [pk_un c, pk_un c2]
          have := hin i (by omega) h2
          simp only [c, c2, decide_false, Bool.not_false, Bool.and_self, Bool.and_true]
          exact this
      have lo : ∀ y, y < n → ∀ i, i < p + 1 → (rm S p y).testBit i = false := by
        intro y hy i hi
        rw [rm_t hp8 (by omega) (by omega)]
        by_cases c : i = p
        · simp [c]
        · rw [hz i (by omega)]; simp
      have Vle : ∀ y, mwv (ip_T P bv) p y S (mm (ip_T P bv) n k (rm S p y)) ≤ 41 * k + 42 := fun y => by
        have := mwv_le (x := p) (y := y) (S := S) hT (mm_le (n := n) hT k (rm S p y))
        omega
      generalize hV : (fun y => mwv (ip_T P bv) p y S (mm (ip_T P bv) n k (rm S p y))) = V at *
      have Ve : ∀ y, mwv (ip_T P bv) p y S (mm (ip_T P bv) n k (rm S p y)) = V y := fun y => by rw [← hV]
      have Vle' : ∀ y, V y ≤ 41 * k + 42 := fun y => by rw [← Ve]; exact Vle y
      have rfle : ∀ q, (rf V p q).1 ≤ 41 * k + 42 := fun q => rf_le Vle' _
      -- one who sits out
      have first : ∃ s, (∀ d L : Nat, iv_sem (d + k + 3) 201 81 [some (.ref 56), some (.int (nI p)), some (.int (nI si)), some (.int (nI sum)), none] [] (iv_mk L I J) = iv_sem (d + k + 3) 201 113 [some (.ref 56), some (.int (nI p)), some (.int (nI si)), some (.int (nI sum)), some (.int (nI (p + 1)))] [] (iv_mk L s J)) ∧ pr_post I s ((rf V p (p + 1)).1 ≠ 0 ∧ mo < (rf V p (p + 1)).1 + sum) ((rf V p (p + 1)).1 + sum) (cg (ip_T P bv) n k (rm S p (rf V p (p + 1)).2) (upd (upd (I 70) p (nI (rf V p (p + 1)).2)) (rf V p (p + 1)).2 (nI p))) := by
        have r0 : rf V p p = (0, p) := by
          unfold rf
          rw [Nat.sub_self]
          rfl
        by_cases c : si = 0
        · have v0 : V p = 0 := by
            rw [← Ve]
            unfold mwv
            rw [if_pos hb, if_pos rfl, if_neg (by omega)]
          have r1 : rf V p (p + 1) = (0, p) := by
            rw [rf_s (Nat.le_refl p), r0]
            unfold rfs
            rw [v0, if_neg (by omega)]
          have z : nI si = 0 := by rw [c, nI_0]
          rw [r1]
          refine ⟨I, fun d L => ?_, ⟨⟨fun _ _ _ => rfl, fun _ _ => rfl⟩, fun q => absurd rfl q.1, fun _ => ⟨rfl, rfl⟩⟩⟩
          refine (ivs_201_81).trans ?_
          simp (decide := true) only [ivf_201_17, ivf_201_52, ivf_201_53, ivf_201_71, ivf_201_81, ivf_201_108, ivf_201_167, ivf_201_223, ivf_201_229, ivj_201_25, ivj_201_113, ivx_0, ivx_1, ivx_2, ivx_3, ivx_4, ivx_5, ivx_6, ivx_7, ivx_8, ivx_9, ivx_10, ivx_11, ivx_12, ivx_13, ivx_14, ivx_15, ivx_16, ivx_17, ivx_21, ivx_22, ivx_23, ivx_24, ivx_25, ivx_26, ivx_20, ivx_36, ivx_37, ivx_18, ivx_19, ivx_27, ivx_28, ivx_29, ivx_30, ivx_31, ivx_32, ivx_33, ivx_34, ivx_35, ivx_38int, ivx_39int, ivx_40intint, ivx_41intint, ivx_40intref, ivx_41intref, ivx_38ref, ivx_39ref, ivx_40refint, ivx_41refint, ivx_40refref, ivx_41refref, ivx_42, ivx_71, ivx_43eq, ivx_44eq, ivx_43ne, ivx_44ne, ivx_43lt, ivx_44lt, ivx_43ge, ivx_44ge, ivx_43gt, ivx_44gt, ivx_43le, ivx_44le, ivx_45, ivx_46, ivx_47, ivx_48, ivx_76, ivx_77, ivx_49, ivx_50, ivx_51, ivx_52, ivx_53, ivx_54, ivx_55, ivx_56, ivx_57, ivx_58, ivx_63, ivx_63b, ivx_64, ivx_65, ivx_66_0, ivx_66_1, ivx_66_2, ivx_66_3, ivx_66_4, ivx_66_5, ivx_68_0, ivx_68_1, ivx_68_2, ivx_68_3, ivx_68_4, ivx_68_5, ivx_73_0, ivx_73_1, ivx_73_2, ivx_73_3, ivx_73_4, ivx_73_5, ivx_75_0, ivx_75_1, ivx_75_2, ivx_75_3, ivx_75_4, ivx_75_5, ivx_67_1, ivx_67_2, ivx_67_3, ivx_67_4, ivx_72_1, ivx_72_2, ivx_72_3, ivx_72_4, iv_ld8_s, iv_ld9_s, iv_ld10_s, List.getElem?_cons_zero, List.getElem?_cons_succ, List.length_cons, List.length_nil, iv_mk_c, iv_mk_I, iv_mk_J, iv_mk_R, iv_mk_uI, iv_mk_uJ, iv_rv_s, iv_cc_s, Option.toList_some, Option.toList_none, List.cons_append, List.nil_append, iv_st1, iv_st2, iv_kill, List.set_cons_zero, List.set_cons_succ, Value.category, ivq0_m1, ivq0_0, ivq0_1, ivq0_2, ivq0_3, ivq0_4, ivq0_5, ivq0_6, ivq0_252645135, ivq0_858993459, ivq0_1103515245, ivq0_1431655765, ivq1_m20, ivq1_m6, ivq1_m5, ivq1_m4, ivq1_m3, ivq1_m2, ivq1_6, ivq1_7, ivq1_8, ivq1_9, ivq1_10, ivq1_12, ivq1_16, ivq1_20, ivq1_24, ivq1_32, ivq1_40, ivq1_41, ivq1_42, ivq1_43, ivq1_44, ivq1_45, ivq1_48, ivq1_57, ivq1_59, ivq1_60, ivq1_61, ivq1_63, ivq1_97, ivq1_99, ivq1_100, ivq1_101, ivq1_119, ivq1_120, ivq1_122, ivq1_127, ivq2_250, ivq2_255, ivq2_256, ivq2_320, ivq2_999, ivq2_1000, ivq2_12345, ivqL_0, ivqL_1, ivqL_8, ivqL_4294967295, ivz_2, ivz_10, ivz_12, eq_self, Nat.reduceLT, Nat.reduceLeDiff, Nat.reduceAdd, Nat.reduceEqDiff, reduceIte, and_self, and_true, true_and, or_true, true_or, or_self, ite_self, if_true, if_false, ite_not, it_b10, it_b01, it_in8, it_cl8, Nat.reduceEqDiff, Int32.reduceLT, Int32.reduceLE, Int64.reduceLT, Int64.reduceLE, Nat.reduceMul, Nat.reduceSub, ivt_0, ivt_1, ivt_2, ivt_3, ivt_4, ivt_5, ivt_6, ivt_7, ivt_8, ivt_40, ivt_41, ivt_42, ivt_43, ivt_44, ivl_0, ivl_1, ivl_2, ivl_3, ivl_4, ivl_5, ivl_6, ivl_7, ivl_8, ivl_40, ivl_41, ivl_42, ivl_43, ivl_44, ivd_2, ivd_3, ivd_4, ivd_5, ivd_6, ivn2_1, ivn2_2, ivn2_3, ivn2_4, ivn2_5, ivn2_6, it_b11, it_nos, up_app, nI_1, Nat.add_left_cancel_iff, and_false, false_and, Nat.add_eq_left, Nat.left_eq_add, not_true_eq_false, not_false_eq_true, ivr_8_0, ivr_8_1, ivr_8_2, ivr_8_3, ivr_8_4, ivr_8_5, ivr_8_6, ivr_9_0, ivr_9_1, ivr_9_2, ivr_9_3, ivr_14_0, ivr_14_1, ivr_14_2, ivr_14_3, ivr_19_0, ivr_19_1, ivr_19_2, ivr_19_3, ivr_24_0, ivr_24_1, ivr_24_2, ivr_26_0, ivr_26_1, ivr_26_2, ivr_26_3, ivr_26_4, ivr_26_5, ivr_26_6, ivr_26_7, ivr_36_0, ivr_38_0, ivr_38_1, ivr_38_2, ivr_38_3, ivr_38_4, ivr_38_5, ivr_38_6, ivr_38_7, ivr_40_2, ivr_42_2, ivr_44_2, ivr_46_2, ivr_48_2, ivr_50_2, ivr_52_2, ivr_54_2, ivr_56_1, ivr_56_2, ivr_56_3, ivr_56_4, ivr_56_5, ivr_56_6, ivr_56_10, ivr_56_15, ivr_56_16, ivr_56_17, ivr_56_18, ivr_56_20, ivr_56_21, ivr_56_22, ivr_56_23, ivp_0, ivn_0, ivp_1, ivn_1, ivp_2, ivn_2, ivp_3, ivn_3, ivp_4, ivn_4, ivp_5, ivn_5, ivp_6, ivn_6, ivp_7, ivn_7, ivp_8, ivn_8, ivp_9, ivn_9, ivp_10, ivn_10, ivp_11, ivn_11, ivp_12, ivn_12, ivp_13, ivn_13, ivp_14, ivn_14, ivp_15, ivn_15, ivp_16, ivn_16, ivp_17, ivn_17, ivp_18, ivn_18, ivp_19, ivn_19, ivp_20, ivn_20, ivp_21, ivn_21, ivp_22, ivn_22, ivp_23, ivn_23, ivp_24, ivn_24, ivp_25, ivn_25, ivp_26, ivn_26, ivp_27, ivn_27, ivp_28, ivn_28, ivp_29, ivn_29, ivp_30, ivn_30, ivp_31, ivn_31, ivp_32, ivn_32, ivp_33, ivn_33, ivp_34, ivn_34, ivp_35, ivn_35, ivp_36, ivn_36, ivp_37, ivn_37, ivp_38, ivn_38, ivp_39, ivn_39, ivp_40, ivn_40, ivp_41, ivn_41, ivp_42, ivn_42, ivp_43, ivn_43, ivp_44, ivn_44, ivp_45, ivn_45, ivp_46, ivn_46, ivp_47, ivn_47, ivp_48, ivn_48, ivp_49, ivn_49, ivp_50, ivn_50, ivp_51, ivn_51, ivp_52, ivn_52, ivp_53, ivn_53, ivp_54, ivn_54, ivp_55, ivn_55, ivp_56, ivn_56, ivp_57, ivn_57, ivp_58, ivn_58, ivp_59, ivn_59, ivp_60, ivn_60, ivp_61, ivn_61, ivp_62, ivn_62, ivp_63, ivn_63, ivp_64, ivn_64, ivp_65, ivn_65, ivp_66, ivn_66, ivp_67, ivn_67, ivp_68, ivn_68, ivp_69, ivn_69, ivp_70, ivn_70, ivp_71, ivn_71, iv_mk_ln, iv_mk_l0, ne_eq, not_false_eq_true, not_true_eq_false, z, nI_1]
        · have si1 : si = 1 := by omega
          have z : ¬ nI si = 0 := nI_ne0 (by omega) (by omega)
          have le := rm_le S p p
          have pe := pp_1 S hS' p hp8 hb
          have u70 : (iv_up I 70 p (nI p)) 70 = upd (upd (I 70) p (nI p)) p (nI p) := by
            funext i
            rw [up_app]
            unfold upd
            by_cases q : i = p
            · rw [if_pos ⟨rfl, q⟩, if_pos q]
            · rw [if_neg (fun z => q z.2), if_neg q, if_neg q]
          have IH := m_pairs ok hv hA k (p + 1) (rm S p p) sum mo 0 (iv_up I 70 p (nI p)) (by omega) (mr_cong hM (fun q h1 h2 => up_row (by omega))) ⟨by rw [up_row (by omega)]; exact hfA, by rw [up_row (by omega)]; exact hfb⟩ ⟨by omega, lo p (by omega), fun i h1 h2 => by rw [u70]; exact sub p (Nat.le_refl p) (by omega) i h1 h2⟩ (by omega) (by omega) ⟨hmo.1, by rw [up_row (by omega)]; exact hmo.2⟩
          obtain ⟨s2, e, h⟩ := IH
          have v1 : V p = mm (ip_T P bv) n k (rm S p p) := by
            rw [← Ve]
            unfold mwv
            rw [if_pos hb, if_pos rfl, if_pos (by omega)]
          rw [← v1, u70] at h
          have st := pr_step (I := I) (s := I) (t := 0) (R0 := fun _ => 0) (s1 := iv_up I 70 p (nI p)) (s3 := iv_up s2 70 p (-1)) ⟨⟨fun _ _ _ => rfl, fun _ _ => rfl⟩, fun q => absurd rfl q.1, fun _ => ⟨rfl, rfl⟩⟩ hmo.2 (fun q hq => up_row hq) h (fun q hq => up_row hq) (by
            funext i
            rw [up_app]
            by_cases q : i = p
            · rw [if_pos ⟨rfl, q⟩, q, hw]
            · rw [if_neg (fun z => q z.2), h.1.1 70 (by omega) (by omega), up_app, if_neg (fun z => q z.2)]) (by rw [if_neg (fun q => q.1 rfl)])
          refine ⟨iv_up s2 70 p (-1), fun d L => ?_, ?_⟩
          · have e' := e d L
            rw [nI_0] at e'
            refine (ivs_201_81).trans ?_
            simp (decide := true) only [ivf_201_17, ivf_201_52, ivf_201_53, ivf_201_71, ivf_201_81, ivf_201_108, ivf_201_167, ivf_201_223, ivf_201_229, ivj_201_25, ivj_201_113, ivx_0, ivx_1, ivx_2, ivx_3, ivx_4, ivx_5, ivx_6, ivx_7, ivx_8, ivx_9, ivx_10, ivx_11, ivx_12, ivx_13, ivx_14, ivx_15, ivx_16, ivx_17, ivx_21, ivx_22, ivx_23, ivx_24, ivx_25, ivx_26, ivx_20, ivx_36, ivx_37, ivx_18, ivx_19, ivx_27, ivx_28, ivx_29, ivx_30, ivx_31, ivx_32, ivx_33, ivx_34, ivx_35, ivx_38int, ivx_39int, ivx_40intint, ivx_41intint, ivx_40intref, ivx_41intref, ivx_38ref, ivx_39ref, ivx_40refint, ivx_41refint, ivx_40refref, ivx_41refref, ivx_42, ivx_71, ivx_43eq, ivx_44eq, ivx_43ne, ivx_44ne, ivx_43lt, ivx_44lt, ivx_43ge, ivx_44ge, ivx_43gt, ivx_44gt, ivx_43le, ivx_44le, ivx_45, ivx_46, ivx_47, ivx_48, ivx_76, ivx_77, ivx_49, ivx_50, ivx_51, ivx_52, ivx_53, ivx_54, ivx_55, ivx_56, ivx_57, ivx_58, ivx_63, ivx_63b, ivx_64, ivx_65, ivx_66_0, ivx_66_1, ivx_66_2, ivx_66_3, ivx_66_4, ivx_66_5, ivx_68_0, ivx_68_1, ivx_68_2, ivx_68_3, ivx_68_4, ivx_68_5, ivx_73_0, ivx_73_1, ivx_73_2, ivx_73_3, ivx_73_4, ivx_73_5, ivx_75_0, ivx_75_1, ivx_75_2, ivx_75_3, ivx_75_4, ivx_75_5, ivx_67_1, ivx_67_2, ivx_67_3, ivx_67_4, ivx_72_1, ivx_72_2, ivx_72_3, ivx_72_4, iv_ld8_s, iv_ld9_s, iv_ld10_s, List.getElem?_cons_zero, List.getElem?_cons_succ, List.length_cons, List.length_nil, iv_mk_c, iv_mk_I, iv_mk_J, iv_mk_R, iv_mk_uI, iv_mk_uJ, iv_rv_s, iv_cc_s, Option.toList_some, Option.toList_none, List.cons_append, List.nil_append, iv_st1, iv_st2, iv_kill, List.set_cons_zero, List.set_cons_succ, Value.category, ivq0_m1, ivq0_0, ivq0_1, ivq0_2, ivq0_3, ivq0_4, ivq0_5, ivq0_6, ivq0_252645135, ivq0_858993459, ivq0_1103515245, ivq0_1431655765, ivq1_m20, ivq1_m6, ivq1_m5, ivq1_m4, ivq1_m3, ivq1_m2, ivq1_6, ivq1_7, ivq1_8, ivq1_9, ivq1_10, ivq1_12, ivq1_16, ivq1_20, ivq1_24, ivq1_32, ivq1_40, ivq1_41, ivq1_42, ivq1_43, ivq1_44, ivq1_45, ivq1_48, ivq1_57, ivq1_59, ivq1_60, ivq1_61, ivq1_63, ivq1_97, ivq1_99, ivq1_100, ivq1_101, ivq1_119, ivq1_120, ivq1_122, ivq1_127, ivq2_250, ivq2_255, ivq2_256, ivq2_320, ivq2_999, ivq2_1000, ivq2_12345, ivqL_0, ivqL_1, ivqL_8, ivqL_4294967295, ivz_2, ivz_10, ivz_12, eq_self, Nat.reduceLT, Nat.reduceLeDiff, Nat.reduceAdd, Nat.reduceEqDiff, reduceIte, and_self, and_true, true_and, or_true, true_or, or_self, ite_self, if_true, if_false, ite_not, it_b10, it_b01, it_in8, it_cl8, Nat.reduceEqDiff, Int32.reduceLT, Int32.reduceLE, Int64.reduceLT, Int64.reduceLE, Nat.reduceMul, Nat.reduceSub, ivt_0, ivt_1, ivt_2, ivt_3, ivt_4, ivt_5, ivt_6, ivt_7, ivt_8, ivt_40, ivt_41, ivt_42, ivt_43, ivt_44, ivl_0, ivl_1, ivl_2, ivl_3, ivl_4, ivl_5, ivl_6, ivl_7, ivl_8, ivl_40, ivl_41, ivl_42, ivl_43, ivl_44, ivd_2, ivd_3, ivd_4, ivd_5, ivd_6, ivn2_1, ivn2_2, ivn2_3, ivn2_4, ivn2_5, ivn2_6, it_b11, it_nos, up_app, nI_1, Nat.add_left_cancel_iff, and_false, false_and, Nat.add_eq_left, Nat.left_eq_add, not_true_eq_false, not_false_eq_true, ivr_8_0, ivr_8_1, ivr_8_2, ivr_8_3, ivr_8_4, ivr_8_5, ivr_8_6, ivr_9_0, ivr_9_1, ivr_9_2, ivr_9_3, ivr_14_0, ivr_14_1, ivr_14_2, ivr_14_3, ivr_19_0, ivr_19_1, ivr_19_2, ivr_19_3, ivr_24_0, ivr_24_1, ivr_24_2, ivr_26_0, ivr_26_1, ivr_26_2, ivr_26_3, ivr_26_4, ivr_26_5, ivr_26_6, ivr_26_7, ivr_36_0, ivr_38_0, ivr_38_1, ivr_38_2, ivr_38_3, ivr_38_4, ivr_38_5, ivr_38_6, ivr_38_7, ivr_40_2, ivr_42_2, ivr_44_2, ivr_46_2, ivr_48_2, ivr_50_2, ivr_52_2, ivr_54_2, ivr_56_1, ivr_56_2, ivr_56_3, ivr_56_4, ivr_56_5, ivr_56_6, ivr_56_10, ivr_56_15, ivr_56_16, ivr_56_17, ivr_56_18, ivr_56_20, ivr_56_21, ivr_56_22, ivr_56_23, ivp_0, ivn_0, ivp_1, ivn_1, ivp_2, ivn_2, ivp_3, ivn_3, ivp_4, ivn_4, ivp_5, ivn_5, ivp_6, ivn_6, ivp_7, ivn_7, ivp_8, ivn_8, ivp_9, ivn_9, ivp_10, ivn_10, ivp_11, ivn_11, ivp_12, ivn_12, ivp_13, ivn_13, ivp_14, ivn_14, ivp_15, ivn_15, ivp_16, ivn_16, ivp_17, ivn_17, ivp_18, ivn_18, ivp_19, ivn_19, ivp_20, ivn_20, ivp_21, ivn_21, ivp_22, ivn_22, ivp_23, ivn_23, ivp_24, ivn_24, ivp_25, ivn_25, ivp_26, ivn_26, ivp_27, ivn_27, ivp_28, ivn_28, ivp_29, ivn_29, ivp_30, ivn_30, ivp_31, ivn_31, ivp_32, ivn_32, ivp_33, ivn_33, ivp_34, ivn_34, ivp_35, ivn_35, ivp_36, ivn_36, ivp_37, ivn_37, ivp_38, ivn_38, ivp_39, ivn_39, ivp_40, ivn_40, ivp_41, ivn_41, ivp_42, ivn_42, ivp_43, ivn_43, ivp_44, ivn_44, ivp_45, ivn_45, ivp_46, ivn_46, ivp_47, ivn_47, ivp_48, ivn_48, ivp_49, ivn_49, ivp_50, ivn_50, ivp_51, ivn_51, ivp_52, ivn_52, ivp_53, ivn_53, ivp_54, ivn_54, ivp_55, ivn_55, ivp_56, ivn_56, ivp_57, ivn_57, ivp_58, ivn_58, ivp_59, ivn_59, ivp_60, ivn_60, ivp_61, ivn_61, ivp_62, ivn_62, ivp_63, ivn_63, ivp_64, ivn_64, ivp_65, ivn_65, ivp_66, ivn_66, ivp_67, ivn_67, ivp_68, ivn_68, ivp_69, ivn_69, ivp_70, ivn_70, ivp_71, ivn_71, iv_mk_ln, iv_mk_l0, ne_eq, not_false_eq_true, not_true_eq_false, z, hp8, nI_1, e']
          · have f1 := rf_1 (V := V) (Nat.le_refl p)
            rw [r0] at f1
            rw [f1]
            refine pr_m st (fun c => ⟨rfl, ?_⟩)
            have vp : 0 < V p := by
              have := c.1
              unfold mx at this
              split at this <;> omega
            have r1 : rf V p (p + 1) = (V p, p) := by
              rw [rf_s (Nat.le_refl p), r0]
              unfold rfs
              rw [if_pos vp]
            rw [if_pos vp, r1]
      obtain ⟨s0, ef, hf0⟩ := first
      obtain ⟨s', el, hfin⟩ := it_loopS (n := n) (f := fun q (s : Nat → Nat → Int32) (t : Nat × Nat) => iv_sem (t.1 + k + 3) 201 113 [some (.ref 56), some (.int (nI p)), some (.int (nI si)), some (.int (nI sum)), some (.int (nI q))] [] (iv_mk t.2 s J)) (R := fun q s => p < q ∧ pr_post I s ((rf V p q).1 ≠ 0 ∧ mo < (rf V p q).1 + sum) ((rf V p q).1 + sum) (cg (ip_T P bv) n k (rm S p (rf V p q).2) (upd (upd (I 70) p (nI (rf V p q).2)) (rf V p q).2 (nI p)))) (by
        intro q s hq ⟨hpq, hs⟩
        have hq8 : q < 8 := by omega
        have e : ¬ nI n ≤ nI q := nI_ge (by omega) (by omega)
        have s70 : s 70 = I 70 := hs.1.1 70 (by omega) (by omega)
        have sM : ip_Mr s P := mr_cong2 hM (fun x h1 h2 => hs.1.1 x (by omega) (by omega)) (hs.1.2 0 (by omega)) (hs.1.2 7 (by omega)) (hs.1.2 8 (by omega))
        have sA : s 56 25 = nI A := by rw [hs.1.2 25 (by omega)]; exact hfA
        have sb : s 56 26 = nI bv := by rw [hs.1.2 26 (by omega)]; exact hfb
        have skip : V q = 0 → (p < q + 1 ∧ pr_post I s ((rf V p (q + 1)).1 ≠ 0 ∧ mo < (rf V p (q + 1)).1 + sum) ((rf V p (q + 1)).1 + sum) (cg (ip_T P bv) n k (rm S p (rf V p (q + 1)).2) (upd (upd (I 70) p (nI (rf V p (q + 1)).2)) (rf V p (q + 1)).2 (nI p)))) := by
          intro v0
          have r1 : rf V p (q + 1) = rf V p q := by
            rw [rf_s (by omega)]
            unfold rfs
            rw [v0, if_neg (by omega)]
          rw [r1]
          exact ⟨by omega, hs⟩
        cases hbq : S.testBit q with
        | false =>
          have v0 : V q = 0 := by
            rw [← Ve]
            unfold mwv
            rw [if_neg (by rw [hbq]; decide)]
          refine ⟨s, fun t => ?_, skip v0⟩
          refine (ivs_201_113).trans ?_
          cases haq : A.testBit q with
          | true => simp (decide := true) only [ivf_201_17, ivf_201_52, ivf_201_53, ivf_201_71, ivf_201_81, ivf_201_108, ivf_201_167, ivf_201_223, ivf_201_229, ivj_201_25, ivj_201_113, ivx_0, ivx_1, ivx_2, ivx_3, ivx_4, ivx_5, ivx_6, ivx_7, ivx_8, ivx_9, ivx_10, ivx_11, ivx_12, ivx_13, ivx_14, ivx_15, ivx_16, ivx_17, ivx_21, ivx_22, ivx_23, ivx_24, ivx_25, ivx_26, ivx_20, ivx_36, ivx_37, ivx_18, ivx_19, ivx_27, ivx_28, ivx_29, ivx_30, ivx_31, ivx_32, ivx_33, ivx_34, ivx_35, ivx_38int, ivx_39int, ivx_40intint, ivx_41intint, ivx_40intref, ivx_41intref, ivx_38ref, ivx_39ref, ivx_40refint, ivx_41refint, ivx_40refref, ivx_41refref, ivx_42, ivx_71, ivx_43eq, ivx_44eq, ivx_43ne, ivx_44ne, ivx_43lt, ivx_44lt, ivx_43ge, ivx_44ge, ivx_43gt, ivx_44gt, ivx_43le, ivx_44le, ivx_45, ivx_46, ivx_47, ivx_48, ivx_76, ivx_77, ivx_49, ivx_50, ivx_51, ivx_52, ivx_53, ivx_54, ivx_55, ivx_56, ivx_57, ivx_58, ivx_63, ivx_63b, ivx_64, ivx_65, ivx_66_0, ivx_66_1, ivx_66_2, ivx_66_3, ivx_66_4, ivx_66_5, ivx_68_0, ivx_68_1, ivx_68_2, ivx_68_3, ivx_68_4, ivx_68_5, ivx_73_0, ivx_73_1, ivx_73_2, ivx_73_3, ivx_73_4, ivx_73_5, ivx_75_0, ivx_75_1, ivx_75_2, ivx_75_3, ivx_75_4, ivx_75_5, ivx_67_1, ivx_67_2, ivx_67_3, ivx_67_4, ivx_72_1, ivx_72_2, ivx_72_3, ivx_72_4, iv_ld8_s, iv_ld9_s, iv_ld10_s, List.getElem?_cons_zero, List.getElem?_cons_succ, List.length_cons, List.length_nil, iv_mk_c, iv_mk_I, iv_mk_J, iv_mk_R, iv_mk_uI, iv_mk_uJ, iv_rv_s, iv_cc_s, Option.toList_some, Option.toList_none, List.cons_append, List.nil_append, iv_st1, iv_st2, iv_kill, List.set_cons_zero, List.set_cons_succ, Value.category, ivq0_m1, ivq0_0, ivq0_1, ivq0_2, ivq0_3, ivq0_4, ivq0_5, ivq0_6, ivq0_252645135, ivq0_858993459, ivq0_1103515245, ivq0_1431655765, ivq1_m20, ivq1_m6, ivq1_m5, ivq1_m4, ivq1_m3, ivq1_m2, ivq1_6, ivq1_7, ivq1_8, ivq1_9, ivq1_10, ivq1_12, ivq1_16, ivq1_20, ivq1_24, ivq1_32, ivq1_40, ivq1_41, ivq1_42, ivq1_43, ivq1_44, ivq1_45, ivq1_48, ivq1_57, ivq1_59, ivq1_60, ivq1_61, ivq1_63, ivq1_97, ivq1_99, ivq1_100, ivq1_101, ivq1_119, ivq1_120, ivq1_122, ivq1_127, ivq2_250, ivq2_255, ivq2_256, ivq2_320, ivq2_999, ivq2_1000, ivq2_12345, ivqL_0, ivqL_1, ivqL_8, ivqL_4294967295, ivz_2, ivz_10, ivz_12, eq_self, Nat.reduceLT, Nat.reduceLeDiff, Nat.reduceAdd, Nat.reduceEqDiff, reduceIte, and_self, and_true, true_and, or_true, true_or, or_self, ite_self, if_true, if_false, ite_not, it_b10, it_b01, it_in8, it_cl8, Nat.reduceEqDiff, Int32.reduceLT, Int32.reduceLE, Int64.reduceLT, Int64.reduceLE, Nat.reduceMul, Nat.reduceSub, ivt_0, ivt_1, ivt_2, ivt_3, ivt_4, ivt_5, ivt_6, ivt_7, ivt_8, ivt_40, ivt_41, ivt_42, ivt_43, ivt_44, ivl_0, ivl_1, ivl_2, ivl_3, ivl_4, ivl_5, ivl_6, ivl_7, ivl_8, ivl_40, ivl_41, ivl_42, ivl_43, ivl_44, ivd_2, ivd_3, ivd_4, ivd_5, ivd_6, ivn2_1, ivn2_2, ivn2_3, ivn2_4, ivn2_5, ivn2_6, it_b11, it_nos, up_app, nI_1, Nat.add_left_cancel_iff, and_false, false_and, Nat.add_eq_left, Nat.left_eq_add, not_true_eq_false, not_false_eq_true, ivr_8_0, ivr_8_1, ivr_8_2, ivr_8_3, ivr_8_4, ivr_8_5, ivr_8_6, ivr_9_0, ivr_9_1, ivr_9_2, ivr_9_3, ivr_14_0, ivr_14_1, ivr_14_2, ivr_14_3, ivr_19_0, ivr_19_1, ivr_19_2, ivr_19_3, ivr_24_0, ivr_24_1, ivr_24_2, ivr_26_0, ivr_26_1, ivr_26_2, ivr_26_3, ivr_26_4, ivr_26_5, ivr_26_6, ivr_26_7, ivr_36_0, ivr_38_0, ivr_38_1, ivr_38_2, ivr_38_3, ivr_38_4, ivr_38_5, ivr_38_6, ivr_38_7, ivr_40_2, ivr_42_2, ivr_44_2, ivr_46_2, ivr_48_2, ivr_50_2, ivr_52_2, ivr_54_2, ivr_56_1, ivr_56_2, ivr_56_3, ivr_56_4, ivr_56_5, ivr_56_6, ivr_56_10, ivr_56_15, ivr_56_16, ivr_56_17, ivr_56_18, ivr_56_20, ivr_56_21, ivr_56_22, ivr_56_23, ivp_0, ivn_0, ivp_1, ivn_1, ivp_2, ivn_2, ivp_3, ivn_3, ivp_4, ivn_4, ivp_5, ivn_5, ivp_6, ivn_6, ivp_7, ivn_7, ivp_8, ivn_8, ivp_9, ivn_9, ivp_10, ivn_10, ivp_11, ivn_11, ivp_12, ivn_12, ivp_13, ivn_13, ivp_14, ivn_14, ivp_15, ivn_15, ivp_16, ivn_16, ivp_17, ivn_17, ivp_18, ivn_18, ivp_19, ivn_19, ivp_20, ivn_20, ivp_21, ivn_21, ivp_22, ivn_22, ivp_23, ivn_23, ivp_24, ivn_24, ivp_25, ivn_25, ivp_26, ivn_26, ivp_27, ivn_27, ivp_28, ivn_28, ivp_29, ivn_29, ivp_30, ivn_30, ivp_31, ivn_31, ivp_32, ivn_32, ivp_33, ivn_33, ivp_34, ivn_34, ivp_35, ivn_35, ivp_36, ivn_36, ivp_37, ivn_37, ivp_38, ivn_38, ivp_39, ivn_39, ivp_40, ivn_40, ivp_41, ivn_41, ivp_42, ivn_42, ivp_43, ivn_43, ivp_44, ivn_44, ivp_45, ivn_45, ivp_46, ivn_46, ivp_47, ivn_47, ivp_48, ivn_48, ivp_49, ivn_49, ivp_50, ivn_50, ivp_51, ivn_51, ivp_52, ivn_52, ivp_53, ivn_53, ivp_54, ivn_54, ivp_55, ivn_55, ivp_56, ivn_56, ivp_57, ivn_57, ivp_58, ivn_58, ivp_59, ivn_59, ivp_60, ivn_60, ivp_61, ivn_61, ivp_62, ivn_62, ivp_63, ivn_63, ivp_64, ivn_64, ivp_65, ivn_65, ivp_66, ivn_66, ivp_67, ivn_67, ivp_68, ivn_68, ivp_69, ivn_69, ivp_70, ivn_70, ivp_71, ivn_71, iv_mk_ln, iv_mk_l0, ne_eq, not_false_eq_true, not_true_eq_false, mr_c sM, nn, e, m_there hA sA hq8, haq]
          | false =>
            have hwq : ¬ s 70 q = -1 := by
              rw [s70]
              intro z
              have := (hin q (by omega) hq).mpr ⟨haq, z⟩
              rw [hbq] at this
              exact absurd this (by decide)
            simp (decide := true) only [ivf_201_17, ivf_201_52, ivf_201_53, ivf_201_71, ivf_201_81, ivf_201_108, ivf_201_167, ivf_201_223, ivf_201_229, ivj_201_25, ivj_201_113, ivx_0, ivx_1, ivx_2, ivx_3, ivx_4, ivx_5, ivx_6, ivx_7, ivx_8, ivx_9, ivx_10, ivx_11, ivx_12, ivx_13, ivx_14, ivx_15, ivx_16, ivx_17, ivx_21, ivx_22, ivx_23, ivx_24, ivx_25, ivx_26, ivx_20, ivx_36, ivx_37, ivx_18, ivx_19, ivx_27, ivx_28, ivx_29, ivx_30, ivx_31, ivx_32, ivx_33, ivx_34, ivx_35, ivx_38int, ivx_39int, ivx_40intint, ivx_41intint, ivx_40intref, ivx_41intref, ivx_38ref, ivx_39ref, ivx_40refint, ivx_41refint, ivx_40refref, ivx_41refref, ivx_42, ivx_71, ivx_43eq, ivx_44eq, ivx_43ne, ivx_44ne, ivx_43lt, ivx_44lt, ivx_43ge, ivx_44ge, ivx_43gt, ivx_44gt, ivx_43le, ivx_44le, ivx_45, ivx_46, ivx_47, ivx_48, ivx_76, ivx_77, ivx_49, ivx_50, ivx_51, ivx_52, ivx_53, ivx_54, ivx_55, ivx_56, ivx_57, ivx_58, ivx_63, ivx_63b, ivx_64, ivx_65, ivx_66_0, ivx_66_1, ivx_66_2, ivx_66_3, ivx_66_4, ivx_66_5, ivx_68_0, ivx_68_1, ivx_68_2, ivx_68_3, ivx_68_4, ivx_68_5, ivx_73_0, ivx_73_1, ivx_73_2, ivx_73_3, ivx_73_4, ivx_73_5, ivx_75_0, ivx_75_1, ivx_75_2, ivx_75_3, ivx_75_4, ivx_75_5, ivx_67_1, ivx_67_2, ivx_67_3, ivx_67_4, ivx_72_1, ivx_72_2, ivx_72_3, ivx_72_4, iv_ld8_s, iv_ld9_s, iv_ld10_s, List.getElem?_cons_zero, List.getElem?_cons_succ, List.length_cons, List.length_nil, iv_mk_c, iv_mk_I, iv_mk_J, iv_mk_R, iv_mk_uI, iv_mk_uJ, iv_rv_s, iv_cc_s, Option.toList_some, Option.toList_none, List.cons_append, List.nil_append, iv_st1, iv_st2, iv_kill, List.set_cons_zero, List.set_cons_succ, Value.category, ivq0_m1, ivq0_0, ivq0_1, ivq0_2, ivq0_3, ivq0_4, ivq0_5, ivq0_6, ivq0_252645135, ivq0_858993459, ivq0_1103515245, ivq0_1431655765, ivq1_m20, ivq1_m6, ivq1_m5, ivq1_m4, ivq1_m3, ivq1_m2, ivq1_6, ivq1_7, ivq1_8, ivq1_9, ivq1_10, ivq1_12, ivq1_16, ivq1_20, ivq1_24, ivq1_32, ivq1_40, ivq1_41, ivq1_42, ivq1_43, ivq1_44, ivq1_45, ivq1_48, ivq1_57, ivq1_59, ivq1_60, ivq1_61, ivq1_63, ivq1_97, ivq1_99, ivq1_100, ivq1_101, ivq1_119, ivq1_120, ivq1_122, ivq1_127, ivq2_250, ivq2_255, ivq2_256, ivq2_320, ivq2_999, ivq2_1000, ivq2_12345, ivqL_0, ivqL_1, ivqL_8, ivqL_4294967295, ivz_2, ivz_10, ivz_12, eq_self, Nat.reduceLT, Nat.reduceLeDiff, Nat.reduceAdd, Nat.reduceEqDiff, reduceIte, and_self, and_true, true_and, or_true, true_or, or_self, ite_self, if_true, if_false, ite_not, it_b10, it_b01, it_in8, it_cl8, Nat.reduceEqDiff, Int32.reduceLT, Int32.reduceLE, Int64.reduceLT, Int64.reduceLE, Nat.reduceMul, Nat.reduceSub, ivt_0, ivt_1, ivt_2, ivt_3, ivt_4, ivt_5, ivt_6, ivt_7, ivt_8, ivt_40, ivt_41, ivt_42, ivt_43, ivt_44, ivl_0, ivl_1, ivl_2, ivl_3, ivl_4, ivl_5, ivl_6, ivl_7, ivl_8, ivl_40, ivl_41, ivl_42, ivl_43, ivl_44, ivd_2, ivd_3, ivd_4, ivd_5, ivd_6, ivn2_1, ivn2_2, ivn2_3, ivn2_4, ivn2_5, ivn2_6, it_b11, it_nos, up_app, nI_1, Nat.add_left_cancel_iff, and_false, false_and, Nat.add_eq_left, Nat.left_eq_add, not_true_eq_false, not_false_eq_true, ivr_8_0, ivr_8_1, ivr_8_2, ivr_8_3, ivr_8_4, ivr_8_5, ivr_8_6, ivr_9_0, ivr_9_1, ivr_9_2, ivr_9_3, ivr_14_0, ivr_14_1, ivr_14_2, ivr_14_3, ivr_19_0, ivr_19_1, ivr_19_2, ivr_19_3, ivr_24_0, ivr_24_1, ivr_24_2, ivr_26_0, ivr_26_1, ivr_26_2, ivr_26_3, ivr_26_4, ivr_26_5, ivr_26_6, ivr_26_7, ivr_36_0, ivr_38_0, ivr_38_1, ivr_38_2, ivr_38_3, ivr_38_4, ivr_38_5, ivr_38_6, ivr_38_7, ivr_40_2, ivr_42_2, ivr_44_2, ivr_46_2, ivr_48_2, ivr_50_2, ivr_52_2, ivr_54_2, ivr_56_1, ivr_56_2, ivr_56_3, ivr_56_4, ivr_56_5, ivr_56_6, ivr_56_10, ivr_56_15, ivr_56_16, ivr_56_17, ivr_56_18, ivr_56_20, ivr_56_21, ivr_56_22, ivr_56_23, ivp_0, ivn_0, ivp_1, ivn_1, ivp_2, ivn_2, ivp_3, ivn_3, ivp_4, ivn_4, ivp_5, ivn_5, ivp_6, ivn_6, ivp_7, ivn_7, ivp_8, ivn_8, ivp_9, ivn_9, ivp_10, ivn_10, ivp_11, ivn_11, ivp_12, ivn_12, ivp_13, ivn_13, ivp_14, ivn_14, ivp_15, ivn_15, ivp_16, ivn_16, ivp_17, ivn_17, ivp_18, ivn_18, ivp_19, ivn_19, ivp_20, ivn_20, ivp_21, ivn_21, ivp_22, ivn_22, ivp_23, ivn_23, ivp_24, ivn_24, ivp_25, ivn_25, ivp_26, ivn_26, ivp_27, ivn_27, ivp_28, ivn_28, ivp_29, ivn_29, ivp_30, ivn_30, ivp_31, ivn_31, ivp_32, ivn_32, ivp_33, ivn_33, ivp_34, ivn_34, ivp_35, ivn_35, ivp_36, ivn_36, ivp_37, ivn_37, ivp_38, ivn_38, ivp_39, ivn_39, ivp_40, ivn_40, ivp_41, ivn_41, ivp_42, ivn_42, ivp_43, ivn_43, ivp_44, ivn_44, ivp_45, ivn_45, ivp_46, ivn_46, ivp_47, ivn_47, ivp_48, ivn_48, ivp_49, ivn_49, ivp_50, ivn_50, ivp_51, ivn_51, ivp_52, ivn_52, ivp_53, ivn_53, ivp_54, ivn_54, ivp_55, ivn_55, ivp_56, ivn_56, ivp_57, ivn_57, ivp_58, ivn_58, ivp_59, ivn_59, ivp_60, ivn_60, ivp_61, ivn_61, ivp_62, ivn_62, ivp_63, ivn_63, ivp_64, ivn_64, ivp_65, ivn_65, ivp_66, ivn_66, ivp_67, ivn_67, ivp_68, ivn_68, ivp_69, ivn_69, ivp_70, ivn_70, ivp_71, ivn_71, iv_mk_ln, iv_mk_l0, ne_eq, not_false_eq_true, not_true_eq_false, mr_c sM, nn, e, m_there hA sA hq8, haq, hq8, hwq]
        | true =>
          obtain ⟨haq, hwq⟩ := (hin q (by omega) hq).mp hbq
          have hwq' : s 70 q = -1 := by rw [s70]; exact hwq
          obtain ⟨mk, hmk, emk⟩ := ip_met ok p
          have hmk' : mk < 256 := Nat.lt_of_lt_of_le hmk (ib_n ok)
          have wb : ((P 5 p >>> (nI q &&& 31)) &&& 1 = 1) = (it_wr (P 5 p) q = 1) := by rw [emk]; exact wr_b1 hmk' hq8
          by_cases bar : bv = 1 ∧ it_wr (P 5 p) q = 1
          · have v0 : V q = 0 := by
              rw [← Ve]
              unfold mwv
              rw [if_pos hbq, if_neg (by omega), T_0 bar]
              split <;> rfl
            refine ⟨s, fun t => ?_, skip v0⟩
            have nb : ¬ nI bv = 0 := nI_ne0 (by omega) (by omega)
            have w1 := bar.2
            refine (ivs_201_113).trans ?_
            simp (decide := true) only [ivf_201_17, ivf_201_52, ivf_201_53, ivf_201_71, ivf_201_81, ivf_201_108, ivf_201_167, ivf_201_223, ivf_201_229, ivj_201_25, ivj_201_113, ivx_0, ivx_1, ivx_2, ivx_3, ivx_4, ivx_5, ivx_6, ivx_7, ivx_8, ivx_9, ivx_10, ivx_11, ivx_12, ivx_13, ivx_14, ivx_15, ivx_16, ivx_17, ivx_21, ivx_22, ivx_23, ivx_24, ivx_25, ivx_26, ivx_20, ivx_36, ivx_37, ivx_18, ivx_19, ivx_27, ivx_28, ivx_29, ivx_30, ivx_31, ivx_32, ivx_33, ivx_34, ivx_35, ivx_38int, ivx_39int, ivx_40intint, ivx_41intint, ivx_40intref, ivx_41intref, ivx_38ref, ivx_39ref, ivx_40refint, ivx_41refint, ivx_40refref, ivx_41refref, ivx_42, ivx_71, ivx_43eq, ivx_44eq, ivx_43ne, ivx_44ne, ivx_43lt, ivx_44lt, ivx_43ge, ivx_44ge, ivx_43gt, ivx_44gt, ivx_43le, ivx_44le, ivx_45, ivx_46, ivx_47, ivx_48, ivx_76, ivx_77, ivx_49, ivx_50, ivx_51, ivx_52, ivx_53, ivx_54, ivx_55, ivx_56, ivx_57, ivx_58, ivx_63, ivx_63b, ivx_64, ivx_65, ivx_66_0, ivx_66_1, ivx_66_2, ivx_66_3, ivx_66_4, ivx_66_5, ivx_68_0, ivx_68_1, ivx_68_2, ivx_68_3, ivx_68_4, ivx_68_5, ivx_73_0, ivx_73_1, ivx_73_2, ivx_73_3, ivx_73_4, ivx_73_5, ivx_75_0, ivx_75_1, ivx_75_2, ivx_75_3, ivx_75_4, ivx_75_5, ivx_67_1, ivx_67_2, ivx_67_3, ivx_67_4, ivx_72_1, ivx_72_2, ivx_72_3, ivx_72_4, iv_ld8_s, iv_ld9_s, iv_ld10_s, List.getElem?_cons_zero, List.getElem?_cons_succ, List.length_cons, List.length_nil, iv_mk_c, iv_mk_I, iv_mk_J, iv_mk_R, iv_mk_uI, iv_mk_uJ, iv_rv_s, iv_cc_s, Option.toList_some, Option.toList_none, List.cons_append, List.nil_append, iv_st1, iv_st2, iv_kill, List.set_cons_zero, List.set_cons_succ, Value.category, ivq0_m1, ivq0_0, ivq0_1, ivq0_2, ivq0_3, ivq0_4, ivq0_5, ivq0_6, ivq0_252645135, ivq0_858993459, ivq0_1103515245, ivq0_1431655765, ivq1_m20, ivq1_m6, ivq1_m5, ivq1_m4, ivq1_m3, ivq1_m2, ivq1_6, ivq1_7, ivq1_8, ivq1_9, ivq1_10, ivq1_12, ivq1_16, ivq1_20, ivq1_24, ivq1_32, ivq1_40, ivq1_41, ivq1_42, ivq1_43, ivq1_44, ivq1_45, ivq1_48, ivq1_57, ivq1_59, ivq1_60, ivq1_61, ivq1_63, ivq1_97, ivq1_99, ivq1_100, ivq1_101, ivq1_119, ivq1_120, ivq1_122, ivq1_127, ivq2_250, ivq2_255, ivq2_256, ivq2_320, ivq2_999, ivq2_1000, ivq2_12345, ivqL_0, ivqL_1, ivqL_8, ivqL_4294967295, ivz_2, ivz_10, ivz_12, eq_self, Nat.reduceLT, Nat.reduceLeDiff, Nat.reduceAdd, Nat.reduceEqDiff, reduceIte, and_self, and_true, true_and, or_true, true_or, or_self, ite_self, if_true, if_false, ite_not, it_b10, it_b01, it_in8, it_cl8, Nat.reduceEqDiff, Int32.reduceLT, Int32.reduceLE, Int64.reduceLT, Int64.reduceLE, Nat.reduceMul, Nat.reduceSub, ivt_0, ivt_1, ivt_2, ivt_3, ivt_4, ivt_5, ivt_6, ivt_7, ivt_8, ivt_40, ivt_41, ivt_42, ivt_43, ivt_44, ivl_0, ivl_1, ivl_2, ivl_3, ivl_4, ivl_5, ivl_6, ivl_7, ivl_8, ivl_40, ivl_41, ivl_42, ivl_43, ivl_44, ivd_2, ivd_3, ivd_4, ivd_5, ivd_6, ivn2_1, ivn2_2, ivn2_3, ivn2_4, ivn2_5, ivn2_6, it_b11, it_nos, up_app, nI_1, Nat.add_left_cancel_iff, and_false, false_and, Nat.add_eq_left, Nat.left_eq_add, not_true_eq_false, not_false_eq_true, ivr_8_0, ivr_8_1, ivr_8_2, ivr_8_3, ivr_8_4, ivr_8_5, ivr_8_6, ivr_9_0, ivr_9_1, ivr_9_2, ivr_9_3, ivr_14_0, ivr_14_1, ivr_14_2, ivr_14_3, ivr_19_0, ivr_19_1, ivr_19_2, ivr_19_3, ivr_24_0, ivr_24_1, ivr_24_2, ivr_26_0, ivr_26_1, ivr_26_2, ivr_26_3, ivr_26_4, ivr_26_5, ivr_26_6, ivr_26_7, ivr_36_0, ivr_38_0, ivr_38_1, ivr_38_2, ivr_38_3, ivr_38_4, ivr_38_5, ivr_38_6, ivr_38_7, ivr_40_2, ivr_42_2, ivr_44_2, ivr_46_2, ivr_48_2, ivr_50_2, ivr_52_2, ivr_54_2, ivr_56_1, ivr_56_2, ivr_56_3, ivr_56_4, ivr_56_5, ivr_56_6, ivr_56_10, ivr_56_15, ivr_56_16, ivr_56_17, ivr_56_18, ivr_56_20, ivr_56_21, ivr_56_22, ivr_56_23, ivp_0, ivn_0, ivp_1, ivn_1, ivp_2, ivn_2, ivp_3, ivn_3, ivp_4, ivn_4, ivp_5, ivn_5, ivp_6, ivn_6, ivp_7, ivn_7, ivp_8, ivn_8, ivp_9, ivn_9, ivp_10, ivn_10, ivp_11, ivn_11, ivp_12, ivn_12, ivp_13, ivn_13, ivp_14, ivn_14, ivp_15, ivn_15, ivp_16, ivn_16, ivp_17, ivn_17, ivp_18, ivn_18, ivp_19, ivn_19, ivp_20, ivn_20, ivp_21, ivn_21, ivp_22, ivn_22, ivp_23, ivn_23, ivp_24, ivn_24, ivp_25, ivn_25, ivp_26, ivn_26, ivp_27, ivn_27, ivp_28, ivn_28, ivp_29, ivn_29, ivp_30, ivn_30, ivp_31, ivn_31, ivp_32, ivn_32, ivp_33, ivn_33, ivp_34, ivn_34, ivp_35, ivn_35, ivp_36, ivn_36, ivp_37, ivn_37, ivp_38, ivn_38, ivp_39, ivn_39, ivp_40, ivn_40, ivp_41, ivn_41, ivp_42, ivn_42, ivp_43, ivn_43, ivp_44, ivn_44, ivp_45, ivn_45, ivp_46, ivn_46, ivp_47, ivn_47, ivp_48, ivn_48, ivp_49, ivn_49, ivp_50, ivn_50, ivp_51, ivn_51, ivp_52, ivn_52, ivp_53, ivn_53, ivp_54, ivn_54, ivp_55, ivn_55, ivp_56, ivn_56, ivp_57, ivn_57, ivp_58, ivn_58, ivp_59, ivn_59, ivp_60, ivn_60, ivp_61, ivn_61, ivp_62, ivn_62, ivp_63, ivn_63, ivp_64, ivn_64, ivp_65, ivn_65, ivp_66, ivn_66, ivp_67, ivn_67, ivp_68, ivn_68, ivp_69, ivn_69, ivp_70, ivn_70, ivp_71, ivn_71, iv_mk_ln, iv_mk_l0, ne_eq, not_false_eq_true, not_true_eq_false, mr_c sM, nn, e, m_there hA sA hq8, haq, hq8, hp8, hwq', sb, nb, mr_5 sM, wb, w1]
          · have g1 := G_e ok hp8 hq8
            have g2 := G_e ok hq8 hp8
            have ts := T_s ok hp8 hq8 bar
            have le := rm_le S p q
            have pe := pp_2 hS' hp8 hq8 (by omega) hb hbq
            have u70 : (iv_up (iv_up s 70 p (nI q)) 70 q (nI p)) 70 = upd (upd (I 70) p (nI q)) q (nI p) := by
              funext i
              rw [up_app, up_app, s70]
              unfold upd
              simp only [true_and]
            generalize hmoc : (if (rf V p q).1 ≠ 0 ∧ mo < (rf V p q).1 + sum then (rf V p q).1 + sum else mo) = moc
            have smo : s 56 24 = oI moc := by
              rw [← hmoc]
              by_cases c : (rf V p q).1 ≠ 0 ∧ mo < (rf V p q).1 + sum
              · rw [if_pos c]; exact (hs.2.1 c).1
              · rw [if_neg c, (hs.2.2 c).1]; exact hmo.2
            have mle : moc ≤ 1000 := by
              have := rfle q
              rw [← hmoc]
              split <;> omega
            have IH := m_pairs ok hv hA k (p + 1) (rm S p q) (sum + (ip_G P p q + ip_G P q p)) moc si (iv_up (iv_up s 70 p (nI q)) 70 q (nI p)) (by omega) (mr_cong sM (fun x h1 h2 => by rw [up_row (by omega), up_row (by omega)])) ⟨by rw [up_row (by omega), up_row (by omega)]; exact sA, by rw [up_row (by omega), up_row (by omega)]; exact sb⟩ ⟨by omega, lo q hq, fun i h1 h2 => by rw [u70]; exact sub q (by omega) hq i h1 h2⟩ (by omega) (by omega) ⟨mle, by rw [up_row (by omega), up_row (by omega)]; exact smo⟩
            obtain ⟨s2, e2, h2⟩ := IH
            have vq : V q = if mm (ip_T P bv) n k (rm S p q) = 0 then 0 else mm (ip_T P bv) n k (rm S p q) + (ip_G P p q + ip_G P q p) := by
              rw [← Ve]
              unfold mwv
              rw [if_pos hbq, if_neg (by omega), ts]
              by_cases r0 : mm (ip_T P bv) n k (rm S p q) = 0
              · rw [if_pos r0, if_pos r0]
              · rw [if_neg r0, if_neg r0, if_neg (by omega)]
                omega
            rw [u70] at h2
            have h3 : pr_post (iv_up (iv_up s 70 p (nI q)) 70 q (nI p)) s2 (V q ≠ 0 ∧ moc < V q + sum) (V q + sum) (cg (ip_T P bv) n k (rm S p q) (upd (upd (I 70) p (nI q)) q (nI p))) := by
              by_cases r0 : mm (ip_T P bv) n k (rm S p q) = 0
              · rw [if_pos r0] at vq
                exact pr_m (pr_iff h2 ⟨fun c => absurd r0 c.1, fun c => absurd vq c.1⟩) (fun c => absurd vq c.1)
              · rw [if_neg r0] at vq
                refine pr_m (pr_iff h2 ?_) (fun _ => ⟨by omega, rfl⟩)
                rw [vq]
                constructor
                · rintro ⟨a, b⟩
                  exact ⟨by omega, by omega⟩
                · rintro ⟨a, b⟩
                  exact ⟨r0, by omega⟩
            have st := pr_step (s3 := iv_up (iv_up s2 70 p (-1)) 70 q (-1)) hs hmo.2 (fun x hx => by rw [up_row hx, up_row hx]) h3 (fun x hx => by rw [up_row hx, up_row hx]) (by
              funext i
              rw [up_app, up_app, h2.1.1 70 (by omega) (by omega), u70]
              unfold upd
              by_cases c1 : i = q
              · simp [c1, hwq]
              · by_cases c2 : i = p
                · simp [c1, c2, hw]
                · simp [c1, c2]) hmoc.symm
            have ge : nI sum + ip_gn P p q + ip_gn P q p = nI (sum + (ip_G P p q + ip_G P q p)) := by rw [g1.1, g2.1, nI_add, nI_add, Nat.add_assoc]
            have sM2 : ip_Mr (iv_up (iv_up s 70 p (nI q)) 70 q (nI p)) P := mr_cong sM (fun x h1 h2 => by rw [up_row (by omega), up_row (by omega)])
            refine ⟨iv_up (iv_up s2 70 p (-1)) 70 q (-1), fun t => ?_, by omega, ?_⟩
            · refine (ivs_201_113).trans ?_
              have e2' := e2 t.1 t.2
              by_cases nb : nI bv = 0
              · simp (decide := true) only [ivf_201_17, ivf_201_52, ivf_201_53, ivf_201_71, ivf_201_81, ivf_201_108, ivf_201_167, ivf_201_223, ivf_201_229, ivj_201_25, ivj_201_113, ivx_0, ivx_1, ivx_2, ivx_3, ivx_4, ivx_5, ivx_6, ivx_7, ivx_8, ivx_9, ivx_10, ivx_11, ivx_12, ivx_13, ivx_14, ivx_15, ivx_16, ivx_17, ivx_21, ivx_22, ivx_23, ivx_24, ivx_25, ivx_26, ivx_20, ivx_36, ivx_37, ivx_18, ivx_19, ivx_27, ivx_28, ivx_29, ivx_30, ivx_31, ivx_32, ivx_33, ivx_34, ivx_35, ivx_38int, ivx_39int, ivx_40intint, ivx_41intint, ivx_40intref, ivx_41intref, ivx_38ref, ivx_39ref, ivx_40refint, ivx_41refint, ivx_40refref, ivx_41refref, ivx_42, ivx_71, ivx_43eq, ivx_44eq, ivx_43ne, ivx_44ne, ivx_43lt, ivx_44lt, ivx_43ge, ivx_44ge, ivx_43gt, ivx_44gt, ivx_43le, ivx_44le, ivx_45, ivx_46, ivx_47, ivx_48, ivx_76, ivx_77, ivx_49, ivx_50, ivx_51, ivx_52, ivx_53, ivx_54, ivx_55, ivx_56, ivx_57, ivx_58, ivx_63, ivx_63b, ivx_64, ivx_65, ivx_66_0, ivx_66_1, ivx_66_2, ivx_66_3, ivx_66_4, ivx_66_5, ivx_68_0, ivx_68_1, ivx_68_2, ivx_68_3, ivx_68_4, ivx_68_5, ivx_73_0, ivx_73_1, ivx_73_2, ivx_73_3, ivx_73_4, ivx_73_5, ivx_75_0, ivx_75_1, ivx_75_2, ivx_75_3, ivx_75_4, ivx_75_5, ivx_67_1, ivx_67_2, ivx_67_3, ivx_67_4, ivx_72_1, ivx_72_2, ivx_72_3, ivx_72_4, iv_ld8_s, iv_ld9_s, iv_ld10_s, List.getElem?_cons_zero, List.getElem?_cons_succ, List.length_cons, List.length_nil, iv_mk_c, iv_mk_I, iv_mk_J, iv_mk_R, iv_mk_uI, iv_mk_uJ, iv_rv_s, iv_cc_s, Option.toList_some, Option.toList_none, List.cons_append, List.nil_append, iv_st1, iv_st2, iv_kill, List.set_cons_zero, List.set_cons_succ, Value.category, ivq0_m1, ivq0_0, ivq0_1, ivq0_2, ivq0_3, ivq0_4, ivq0_5, ivq0_6, ivq0_252645135, ivq0_858993459, ivq0_1103515245, ivq0_1431655765, ivq1_m20, ivq1_m6, ivq1_m5, ivq1_m4, ivq1_m3, ivq1_m2, ivq1_6, ivq1_7, ivq1_8, ivq1_9, ivq1_10, ivq1_12, ivq1_16, ivq1_20, ivq1_24, ivq1_32, ivq1_40, ivq1_41, ivq1_42, ivq1_43, ivq1_44, ivq1_45, ivq1_48, ivq1_57, ivq1_59, ivq1_60, ivq1_61, ivq1_63, ivq1_97, ivq1_99, ivq1_100, ivq1_101, ivq1_119, ivq1_120, ivq1_122, ivq1_127, ivq2_250, ivq2_255, ivq2_256, ivq2_320, ivq2_999, ivq2_1000, ivq2_12345, ivqL_0, ivqL_1, ivqL_8, ivqL_4294967295, ivz_2, ivz_10, ivz_12, eq_self, Nat.reduceLT, Nat.reduceLeDiff, Nat.reduceAdd, Nat.reduceEqDiff, reduceIte, and_self, and_true, true_and, or_true, true_or, or_self, ite_self, if_true, if_false, ite_not, it_b10, it_b01, it_in8, it_cl8, Nat.reduceEqDiff, Int32.reduceLT, Int32.reduceLE, Int64.reduceLT, Int64.reduceLE, Nat.reduceMul, Nat.reduceSub, ivt_0, ivt_1, ivt_2, ivt_3, ivt_4, ivt_5, ivt_6, ivt_7, ivt_8, ivt_40, ivt_41, ivt_42, ivt_43, ivt_44, ivl_0, ivl_1, ivl_2, ivl_3, ivl_4, ivl_5, ivl_6, ivl_7, ivl_8, ivl_40, ivl_41, ivl_42, ivl_43, ivl_44, ivd_2, ivd_3, ivd_4, ivd_5, ivd_6, ivn2_1, ivn2_2, ivn2_3, ivn2_4, ivn2_5, ivn2_6, it_b11, it_nos, up_app, nI_1, Nat.add_left_cancel_iff, and_false, false_and, Nat.add_eq_left, Nat.left_eq_add, not_true_eq_false, not_false_eq_true, ivr_8_0, ivr_8_1, ivr_8_2, ivr_8_3, ivr_8_4, ivr_8_5, ivr_8_6, ivr_9_0, ivr_9_1, ivr_9_2, ivr_9_3, ivr_14_0, ivr_14_1, ivr_14_2, ivr_14_3, ivr_19_0, ivr_19_1, ivr_19_2, ivr_19_3, ivr_24_0, ivr_24_1, ivr_24_2, ivr_26_0, ivr_26_1, ivr_26_2, ivr_26_3, ivr_26_4, ivr_26_5, ivr_26_6, ivr_26_7, ivr_36_0, ivr_38_0, ivr_38_1, ivr_38_2, ivr_38_3, ivr_38_4, ivr_38_5, ivr_38_6, ivr_38_7, ivr_40_2, ivr_42_2, ivr_44_2, ivr_46_2, ivr_48_2, ivr_50_2, ivr_52_2, ivr_54_2, ivr_56_1, ivr_56_2, ivr_56_3, ivr_56_4, ivr_56_5, ivr_56_6, ivr_56_10, ivr_56_15, ivr_56_16, ivr_56_17, ivr_56_18, ivr_56_20, ivr_56_21, ivr_56_22, ivr_56_23, ivp_0, ivn_0, ivp_1, ivn_1, ivp_2, ivn_2, ivp_3, ivn_3, ivp_4, ivn_4, ivp_5, ivn_5, ivp_6, ivn_6, ivp_7, ivn_7, ivp_8, ivn_8, ivp_9, ivn_9, ivp_10, ivn_10, ivp_11, ivn_11, ivp_12, ivn_12, ivp_13, ivn_13, ivp_14, ivn_14, ivp_15, ivn_15, ivp_16, ivn_16, ivp_17, ivn_17, ivp_18, ivn_18, ivp_19, ivn_19, ivp_20, ivn_20, ivp_21, ivn_21, ivp_22, ivn_22, ivp_23, ivn_23, ivp_24, ivn_24, ivp_25, ivn_25, ivp_26, ivn_26, ivp_27, ivn_27, ivp_28, ivn_28, ivp_29, ivn_29, ivp_30, ivn_30, ivp_31, ivn_31, ivp_32, ivn_32, ivp_33, ivn_33, ivp_34, ivn_34, ivp_35, ivn_35, ivp_36, ivn_36, ivp_37, ivn_37, ivp_38, ivn_38, ivp_39, ivn_39, ivp_40, ivn_40, ivp_41, ivn_41, ivp_42, ivn_42, ivp_43, ivn_43, ivp_44, ivn_44, ivp_45, ivn_45, ivp_46, ivn_46, ivp_47, ivn_47, ivp_48, ivn_48, ivp_49, ivn_49, ivp_50, ivn_50, ivp_51, ivn_51, ivp_52, ivn_52, ivp_53, ivn_53, ivp_54, ivn_54, ivp_55, ivn_55, ivp_56, ivn_56, ivp_57, ivn_57, ivp_58, ivn_58, ivp_59, ivn_59, ivp_60, ivn_60, ivp_61, ivn_61, ivp_62, ivn_62, ivp_63, ivn_63, ivp_64, ivn_64, ivp_65, ivn_65, ivp_66, ivn_66, ivp_67, ivn_67, ivp_68, ivn_68, ivp_69, ivn_69, ivp_70, ivn_70, ivp_71, ivn_71, iv_mk_ln, iv_mk_l0, ne_eq, not_false_eq_true, not_true_eq_false, mr_c sM, nn, e, m_there hA sA hq8, haq, hq8, hp8, hwq', sb, nb, im_learnt sM2 ok hp8 hq8, im_learnt sM2 ok hq8 hp8, ge, e2']
              · have bv1 : bv = 1 := by
                  have : bv = 0 ∨ bv = 1 := by omega
                  rcases this with rfl | rfl
                  · exact absurd n01_0 nb
                  · rfl
                have w1 : ¬ it_wr (P 5 p) q = 1 := fun z => bar ⟨bv1, z⟩
                simp (decide := true) only [ivf_201_17, ivf_201_52, ivf_201_53, ivf_201_71, ivf_201_81, ivf_201_108, ivf_201_167, ivf_201_223, ivf_201_229, ivj_201_25, ivj_201_113, ivx_0, ivx_1, ivx_2, ivx_3, ivx_4, ivx_5, ivx_6, ivx_7, ivx_8, ivx_9, ivx_10, ivx_11, ivx_12, ivx_13, ivx_14, ivx_15, ivx_16, ivx_17, ivx_21, ivx_22, ivx_23, ivx_24, ivx_25, ivx_26, ivx_20, ivx_36, ivx_37, ivx_18, ivx_19, ivx_27, ivx_28, ivx_29, ivx_30, ivx_31, ivx_32, ivx_33, ivx_34, ivx_35, ivx_38int, ivx_39int, ivx_40intint, ivx_41intint, ivx_40intref, ivx_41intref, ivx_38ref, ivx_39ref, ivx_40refint, ivx_41refint, ivx_40refref, ivx_41refref, ivx_42, ivx_71, ivx_43eq, ivx_44eq, ivx_43ne, ivx_44ne, ivx_43lt, ivx_44lt, ivx_43ge, ivx_44ge, ivx_43gt, ivx_44gt, ivx_43le, ivx_44le, ivx_45, ivx_46, ivx_47, ivx_48, ivx_76, ivx_77, ivx_49, ivx_50, ivx_51, ivx_52, ivx_53, ivx_54, ivx_55, ivx_56, ivx_57, ivx_58, ivx_63, ivx_63b, ivx_64, ivx_65, ivx_66_0, ivx_66_1, ivx_66_2, ivx_66_3, ivx_66_4, ivx_66_5, ivx_68_0, ivx_68_1, ivx_68_2, ivx_68_3, ivx_68_4, ivx_68_5, ivx_73_0, ivx_73_1, ivx_73_2, ivx_73_3, ivx_73_4, ivx_73_5, ivx_75_0, ivx_75_1, ivx_75_2, ivx_75_3, ivx_75_4, ivx_75_5, ivx_67_1, ivx_67_2, ivx_67_3, ivx_67_4, ivx_72_1, ivx_72_2, ivx_72_3, ivx_72_4, iv_ld8_s, iv_ld9_s, iv_ld10_s, List.getElem?_cons_zero, List.getElem?_cons_succ, List.length_cons, List.length_nil, iv_mk_c, iv_mk_I, iv_mk_J, iv_mk_R, iv_mk_uI, iv_mk_uJ, iv_rv_s, iv_cc_s, Option.toList_some, Option.toList_none, List.cons_append, List.nil_append, iv_st1, iv_st2, iv_kill, List.set_cons_zero, List.set_cons_succ, Value.category, ivq0_m1, ivq0_0, ivq0_1, ivq0_2, ivq0_3, ivq0_4, ivq0_5, ivq0_6, ivq0_252645135, ivq0_858993459, ivq0_1103515245, ivq0_1431655765, ivq1_m20, ivq1_m6, ivq1_m5, ivq1_m4, ivq1_m3, ivq1_m2, ivq1_6, ivq1_7, ivq1_8, ivq1_9, ivq1_10, ivq1_12, ivq1_16, ivq1_20, ivq1_24, ivq1_32, ivq1_40, ivq1_41, ivq1_42, ivq1_43, ivq1_44, ivq1_45, ivq1_48, ivq1_57, ivq1_59, ivq1_60, ivq1_61, ivq1_63, ivq1_97, ivq1_99, ivq1_100, ivq1_101, ivq1_119, ivq1_120, ivq1_122, ivq1_127, ivq2_250, ivq2_255, ivq2_256, ivq2_320, ivq2_999, ivq2_1000, ivq2_12345, ivqL_0, ivqL_1, ivqL_8, ivqL_4294967295, ivz_2, ivz_10, ivz_12, eq_self, Nat.reduceLT, Nat.reduceLeDiff, Nat.reduceAdd, Nat.reduceEqDiff, reduceIte, and_self, and_true, true_and, or_true, true_or, or_self, ite_self, if_true, if_false, ite_not, it_b10, it_b01, it_in8, it_cl8, Nat.reduceEqDiff, Int32.reduceLT, Int32.reduceLE, Int64.reduceLT, Int64.reduceLE, Nat.reduceMul, Nat.reduceSub, ivt_0, ivt_1, ivt_2, ivt_3, ivt_4, ivt_5, ivt_6, ivt_7, ivt_8, ivt_40, ivt_41, ivt_42, ivt_43, ivt_44, ivl_0, ivl_1, ivl_2, ivl_3, ivl_4, ivl_5, ivl_6, ivl_7, ivl_8, ivl_40, ivl_41, ivl_42, ivl_43, ivl_44, ivd_2, ivd_3, ivd_4, ivd_5, ivd_6, ivn2_1, ivn2_2, ivn2_3, ivn2_4, ivn2_5, ivn2_6, it_b11, it_nos, up_app, nI_1, Nat.add_left_cancel_iff, and_false, false_and, Nat.add_eq_left, Nat.left_eq_add, not_true_eq_false, not_false_eq_true, ivr_8_0, ivr_8_1, ivr_8_2, ivr_8_3, ivr_8_4, ivr_8_5, ivr_8_6, ivr_9_0, ivr_9_1, ivr_9_2, ivr_9_3, ivr_14_0, ivr_14_1, ivr_14_2, ivr_14_3, ivr_19_0, ivr_19_1, ivr_19_2, ivr_19_3, ivr_24_0, ivr_24_1, ivr_24_2, ivr_26_0, ivr_26_1, ivr_26_2, ivr_26_3, ivr_26_4, ivr_26_5, ivr_26_6, ivr_26_7, ivr_36_0, ivr_38_0, ivr_38_1, ivr_38_2, ivr_38_3, ivr_38_4, ivr_38_5, ivr_38_6, ivr_38_7, ivr_40_2, ivr_42_2, ivr_44_2, ivr_46_2, ivr_48_2, ivr_50_2, ivr_52_2, ivr_54_2, ivr_56_1, ivr_56_2, ivr_56_3, ivr_56_4, ivr_56_5, ivr_56_6, ivr_56_10, ivr_56_15, ivr_56_16, ivr_56_17, ivr_56_18, ivr_56_20, ivr_56_21, ivr_56_22, ivr_56_23, ivp_0, ivn_0, ivp_1, ivn_1, ivp_2, ivn_2, ivp_3, ivn_3, ivp_4, ivn_4, ivp_5, ivn_5, ivp_6, ivn_6, ivp_7, ivn_7, ivp_8, ivn_8, ivp_9, ivn_9, ivp_10, ivn_10, ivp_11, ivn_11, ivp_12, ivn_12, ivp_13, ivn_13, ivp_14, ivn_14, ivp_15, ivn_15, ivp_16, ivn_16, ivp_17, ivn_17, ivp_18, ivn_18, ivp_19, ivn_19, ivp_20, ivn_20, ivp_21, ivn_21, ivp_22, ivn_22, ivp_23, ivn_23, ivp_24, ivn_24, ivp_25, ivn_25, ivp_26, ivn_26, ivp_27, ivn_27, ivp_28, ivn_28, ivp_29, ivn_29, ivp_30, ivn_30, ivp_31, ivn_31, ivp_32, ivn_32, ivp_33, ivn_33, ivp_34, ivn_34, ivp_35, ivn_35, ivp_36, ivn_36, ivp_37, ivn_37, ivp_38, ivn_38, ivp_39, ivn_39, ivp_40, ivn_40, ivp_41, ivn_41, ivp_42, ivn_42, ivp_43, ivn_43, ivp_44, ivn_44, ivp_45, ivn_45, ivp_46, ivn_46, ivp_47, ivn_47, ivp_48, ivn_48, ivp_49, ivn_49, ivp_50, ivn_50, ivp_51, ivn_51, ivp_52, ivn_52, ivp_53, ivn_53, ivp_54, ivn_54, ivp_55, ivn_55, ivp_56, ivn_56, ivp_57, ivn_57, ivp_58, ivn_58, ivp_59, ivn_59, ivp_60, ivn_60, ivp_61, ivn_61, ivp_62, ivn_62, ivp_63, ivn_63, ivp_64, ivn_64, ivp_65, ivn_65, ivp_66, ivn_66, ivp_67, ivn_67, ivp_68, ivn_68, ivp_69, ivn_69, ivp_70, ivn_70, ivp_71, ivn_71, iv_mk_ln, iv_mk_l0, ne_eq, not_false_eq_true, not_true_eq_false, mr_c sM, nn, e, m_there hA sA hq8, haq, hq8, hp8, hwq', sb, nb, mr_5 sM, wb, w1, im_learnt sM2 ok hp8 hq8, im_learnt sM2 ok hq8 hp8, ge, e2']
            · rw [rf_1 (by omega)]
              refine pr_m st (fun c => ⟨rfl, ?_⟩)
              rw [rf_s (by omega)]
              unfold rfs
              by_cases tv : (rf V p q).1 < V q
              · rw [if_pos tv, if_pos tv]
              · rw [if_neg tv, if_neg tv]) (n - (p + 1)) (p + 1) s0 (by omega) ⟨by omega, hf0⟩
      refine ⟨s', fun d L => ?_, ?_⟩
      · have ef' := ef d L
        have el' := el (d, L)
        have e9 : nI n ≤ nI n := nI_le (by omega) (by omega)
        have ed : d + (k + 1) + 3 = (d + k + 3) + 1 := by omega
        have sM : ip_Mr s' P := mr_cong2 hM (fun x h1 h2 => hfin.2.1.1 x (by omega) (by omega)) (hfin.2.1.2 0 (by omega)) (hfin.2.1.2 7 (by omega)) (hfin.2.1.2 8 (by omega))
        rw [ed]
        refine Eq.trans (b := iv_sem (d + k + 3) 201 81 [some (.ref 56), some (.int (nI p)), some (.int (nI si)), some (.int (nI sum)), none] [] (iv_mk L I J)) ?_ (ef'.trans (el'.trans ((ivs_201_113).trans ?_)))
        · simp (decide := true) only [ivc_201, ivs_201_0, ivf_201_17, ivf_201_52, ivf_201_53, ivf_201_71, ivj_201_81, ivx_0, ivx_1, ivx_2, ivx_3, ivx_4, ivx_5, ivx_6, ivx_7, ivx_8, ivx_9, ivx_10, ivx_11, ivx_12, ivx_13, ivx_14, ivx_15, ivx_16, ivx_17, ivx_21, ivx_22, ivx_23, ivx_24, ivx_25, ivx_26, ivx_20, ivx_36, ivx_37, ivx_18, ivx_19, ivx_27, ivx_28, ivx_29, ivx_30, ivx_31, ivx_32, ivx_33, ivx_34, ivx_35, ivx_38int, ivx_39int, ivx_40intint, ivx_41intint, ivx_40intref, ivx_41intref, ivx_38ref, ivx_39ref, ivx_40refint, ivx_41refint, ivx_40refref, ivx_41refref, ivx_42, ivx_71, ivx_43eq, ivx_44eq, ivx_43ne, ivx_44ne, ivx_43lt, ivx_44lt, ivx_43ge, ivx_44ge, ivx_43gt, ivx_44gt, ivx_43le, ivx_44le, ivx_45, ivx_46, ivx_47, ivx_48, ivx_76, ivx_77, ivx_49, ivx_50, ivx_51, ivx_52, ivx_53, ivx_54, ivx_55, ivx_56, ivx_57, ivx_58, ivx_63, ivx_63b, ivx_64, ivx_65, ivx_66_0, ivx_66_1, ivx_66_2, ivx_66_3, ivx_66_4, ivx_66_5, ivx_68_0, ivx_68_1, ivx_68_2, ivx_68_3, ivx_68_4, ivx_68_5, ivx_73_0, ivx_73_1, ivx_73_2, ivx_73_3, ivx_73_4, ivx_73_5, ivx_75_0, ivx_75_1, ivx_75_2, ivx_75_3, ivx_75_4, ivx_75_5, ivx_67_1, ivx_67_2, ivx_67_3, ivx_67_4, ivx_72_1, ivx_72_2, ivx_72_3, ivx_72_4, iv_ld8_s, iv_ld9_s, iv_ld10_s, List.getElem?_cons_zero, List.getElem?_cons_succ, List.length_cons, List.length_nil, iv_mk_c, iv_mk_I, iv_mk_J, iv_mk_R, iv_mk_uI, iv_mk_uJ, iv_rv_s, iv_cc_s, Option.toList_some, Option.toList_none, List.cons_append, List.nil_append, iv_st1, iv_st2, iv_kill, List.set_cons_zero, List.set_cons_succ, Value.category, ivq0_m1, ivq0_0, ivq0_1, ivq0_2, ivq0_3, ivq0_4, ivq0_5, ivq0_6, ivq0_252645135, ivq0_858993459, ivq0_1103515245, ivq0_1431655765, ivq1_m20, ivq1_m6, ivq1_m5, ivq1_m4, ivq1_m3, ivq1_m2, ivq1_6, ivq1_7, ivq1_8, ivq1_9, ivq1_10, ivq1_12, ivq1_16, ivq1_20, ivq1_24, ivq1_32, ivq1_40, ivq1_41, ivq1_42, ivq1_43, ivq1_44, ivq1_45, ivq1_48, ivq1_57, ivq1_59, ivq1_60, ivq1_61, ivq1_63, ivq1_97, ivq1_99, ivq1_100, ivq1_101, ivq1_119, ivq1_120, ivq1_122, ivq1_127, ivq2_250, ivq2_255, ivq2_256, ivq2_320, ivq2_999, ivq2_1000, ivq2_12345, ivqL_0, ivqL_1, ivqL_8, ivqL_4294967295, ivz_2, ivz_10, ivz_12, eq_self, Nat.reduceLT, Nat.reduceLeDiff, Nat.reduceAdd, Nat.reduceEqDiff, reduceIte, and_self, and_true, true_and, or_true, true_or, or_self, ite_self, if_true, if_false, ite_not, it_b10, it_b01, it_in8, it_cl8, Nat.reduceEqDiff, it_b11, it_nos, ivr_8_0, ivr_8_1, ivr_8_2, ivr_8_3, ivr_8_4, ivr_8_5, ivr_8_6, ivr_9_0, ivr_9_1, ivr_9_2, ivr_9_3, ivr_14_0, ivr_14_1, ivr_14_2, ivr_14_3, ivr_19_0, ivr_19_1, ivr_19_2, ivr_19_3, ivr_24_0, ivr_24_1, ivr_24_2, ivr_26_0, ivr_26_1, ivr_26_2, ivr_26_3, ivr_26_4, ivr_26_5, ivr_26_6, ivr_26_7, ivr_36_0, ivr_38_0, ivr_38_1, ivr_38_2, ivr_38_3, ivr_38_4, ivr_38_5, ivr_38_6, ivr_38_7, ivr_40_2, ivr_42_2, ivr_44_2, ivr_46_2, ivr_48_2, ivr_50_2, ivr_52_2, ivr_54_2, ivr_56_1, ivr_56_2, ivr_56_3, ivr_56_4, ivr_56_5, ivr_56_6, ivr_56_10, ivr_56_15, ivr_56_16, ivr_56_17, ivr_56_18, ivr_56_20, ivr_56_21, ivr_56_22, ivr_56_23, ivp_0, ivn_0, ivp_1, ivn_1, ivp_2, ivn_2, ivp_3, ivn_3, ivp_4, ivn_4, ivp_5, ivn_5, ivp_6, ivn_6, ivp_7, ivn_7, ivp_8, ivn_8, ivp_9, ivn_9, ivp_10, ivn_10, ivp_11, ivn_11, ivp_12, ivn_12, ivp_13, ivn_13, ivp_14, ivn_14, ivp_15, ivn_15, ivp_16, ivn_16, ivp_17, ivn_17, ivp_18, ivn_18, ivp_19, ivn_19, ivp_20, ivn_20, ivp_21, ivn_21, ivp_22, ivn_22, ivp_23, ivn_23, ivp_24, ivn_24, ivp_25, ivn_25, ivp_26, ivn_26, ivp_27, ivn_27, ivp_28, ivn_28, ivp_29, ivn_29, ivp_30, ivn_30, ivp_31, ivn_31, ivp_32, ivn_32, ivp_33, ivn_33, ivp_34, ivn_34, ivp_35, ivn_35, ivp_36, ivn_36, ivp_37, ivn_37, ivp_38, ivn_38, ivp_39, ivn_39, ivp_40, ivn_40, ivp_41, ivn_41, ivp_42, ivn_42, ivp_43, ivn_43, ivp_44, ivn_44, ivp_45, ivn_45, ivp_46, ivn_46, ivp_47, ivn_47, ivp_48, ivn_48, ivp_49, ivn_49, ivp_50, ivn_50, ivp_51, ivn_51, ivp_52, ivn_52, ivp_53, ivn_53, ivp_54, ivn_54, ivp_55, ivn_55, ivp_56, ivn_56, ivp_57, ivn_57, ivp_58, ivn_58, ivp_59, ivn_59, ivp_60, ivn_60, ivp_61, ivn_61, ivp_62, ivn_62, ivp_63, ivn_63, ivp_64, ivn_64, ivp_65, ivn_65, ivp_66, ivn_66, ivp_67, ivn_67, ivp_68, ivn_68, ivp_69, ivn_69, ivp_70, ivn_70, ivp_71, ivn_71, iv_mk_ln, iv_mk_l0, ne_eq, not_false_eq_true, not_true_eq_false, mr_c hM, nn, hne, m_there hA hfA hp8, ha, hp8, hw, Bool.false_eq_true]
        · simp (decide := true) only [ivf_201_17, ivf_201_52, ivf_201_53, ivf_201_71, ivf_201_81, ivf_201_108, ivf_201_167, ivf_201_223, ivf_201_229, ivj_201_25, ivj_201_113, ivx_0, ivx_1, ivx_2, ivx_3, ivx_4, ivx_5, ivx_6, ivx_7, ivx_8, ivx_9, ivx_10, ivx_11, ivx_12, ivx_13, ivx_14, ivx_15, ivx_16, ivx_17, ivx_21, ivx_22, ivx_23, ivx_24, ivx_25, ivx_26, ivx_20, ivx_36, ivx_37, ivx_18, ivx_19, ivx_27, ivx_28, ivx_29, ivx_30, ivx_31, ivx_32, ivx_33, ivx_34, ivx_35, ivx_38int, ivx_39int, ivx_40intint, ivx_41intint, ivx_40intref, ivx_41intref, ivx_38ref, ivx_39ref, ivx_40refint, ivx_41refint, ivx_40refref, ivx_41refref, ivx_42, ivx_71, ivx_43eq, ivx_44eq, ivx_43ne, ivx_44ne, ivx_43lt, ivx_44lt, ivx_43ge, ivx_44ge, ivx_43gt, ivx_44gt, ivx_43le, ivx_44le, ivx_45, ivx_46, ivx_47, ivx_48, ivx_76, ivx_77, ivx_49, ivx_50, ivx_51, ivx_52, ivx_53, ivx_54, ivx_55, ivx_56, ivx_57, ivx_58, ivx_63, ivx_63b, ivx_64, ivx_65, ivx_66_0, ivx_66_1, ivx_66_2, ivx_66_3, ivx_66_4, ivx_66_5, ivx_68_0, ivx_68_1, ivx_68_2, ivx_68_3, ivx_68_4, ivx_68_5, ivx_73_0, ivx_73_1, ivx_73_2, ivx_73_3, ivx_73_4, ivx_73_5, ivx_75_0, ivx_75_1, ivx_75_2, ivx_75_3, ivx_75_4, ivx_75_5, ivx_67_1, ivx_67_2, ivx_67_3, ivx_67_4, ivx_72_1, ivx_72_2, ivx_72_3, ivx_72_4, iv_ld8_s, iv_ld9_s, iv_ld10_s, List.getElem?_cons_zero, List.getElem?_cons_succ, List.length_cons, List.length_nil, iv_mk_c, iv_mk_I, iv_mk_J, iv_mk_R, iv_mk_uI, iv_mk_uJ, iv_rv_s, iv_cc_s, Option.toList_some, Option.toList_none, List.cons_append, List.nil_append, iv_st1, iv_st2, iv_kill, List.set_cons_zero, List.set_cons_succ, Value.category, ivq0_m1, ivq0_0, ivq0_1, ivq0_2, ivq0_3, ivq0_4, ivq0_5, ivq0_6, ivq0_252645135, ivq0_858993459, ivq0_1103515245, ivq0_1431655765, ivq1_m20, ivq1_m6, ivq1_m5, ivq1_m4, ivq1_m3, ivq1_m2, ivq1_6, ivq1_7, ivq1_8, ivq1_9, ivq1_10, ivq1_12, ivq1_16, ivq1_20, ivq1_24, ivq1_32, ivq1_40, ivq1_41, ivq1_42, ivq1_43, ivq1_44, ivq1_45, ivq1_48, ivq1_57, ivq1_59, ivq1_60, ivq1_61, ivq1_63, ivq1_97, ivq1_99, ivq1_100, ivq1_101, ivq1_119, ivq1_120, ivq1_122, ivq1_127, ivq2_250, ivq2_255, ivq2_256, ivq2_320, ivq2_999, ivq2_1000, ivq2_12345, ivqL_0, ivqL_1, ivqL_8, ivqL_4294967295, ivz_2, ivz_10, ivz_12, eq_self, Nat.reduceLT, Nat.reduceLeDiff, Nat.reduceAdd, Nat.reduceEqDiff, reduceIte, and_self, and_true, true_and, or_true, true_or, or_self, ite_self, if_true, if_false, ite_not, it_b10, it_b01, it_in8, it_cl8, Nat.reduceEqDiff, Int32.reduceLT, Int32.reduceLE, Int64.reduceLT, Int64.reduceLE, Nat.reduceMul, Nat.reduceSub, ivt_0, ivt_1, ivt_2, ivt_3, ivt_4, ivt_5, ivt_6, ivt_7, ivt_8, ivt_40, ivt_41, ivt_42, ivt_43, ivt_44, ivl_0, ivl_1, ivl_2, ivl_3, ivl_4, ivl_5, ivl_6, ivl_7, ivl_8, ivl_40, ivl_41, ivl_42, ivl_43, ivl_44, ivd_2, ivd_3, ivd_4, ivd_5, ivd_6, ivn2_1, ivn2_2, ivn2_3, ivn2_4, ivn2_5, ivn2_6, it_b11, it_nos, up_app, nI_1, Nat.add_left_cancel_iff, and_false, false_and, Nat.add_eq_left, Nat.left_eq_add, not_true_eq_false, not_false_eq_true, ivr_8_0, ivr_8_1, ivr_8_2, ivr_8_3, ivr_8_4, ivr_8_5, ivr_8_6, ivr_9_0, ivr_9_1, ivr_9_2, ivr_9_3, ivr_14_0, ivr_14_1, ivr_14_2, ivr_14_3, ivr_19_0, ivr_19_1, ivr_19_2, ivr_19_3, ivr_24_0, ivr_24_1, ivr_24_2, ivr_26_0, ivr_26_1, ivr_26_2, ivr_26_3, ivr_26_4, ivr_26_5, ivr_26_6, ivr_26_7, ivr_36_0, ivr_38_0, ivr_38_1, ivr_38_2, ivr_38_3, ivr_38_4, ivr_38_5, ivr_38_6, ivr_38_7, ivr_40_2, ivr_42_2, ivr_44_2, ivr_46_2, ivr_48_2, ivr_50_2, ivr_52_2, ivr_54_2, ivr_56_1, ivr_56_2, ivr_56_3, ivr_56_4, ivr_56_5, ivr_56_6, ivr_56_10, ivr_56_15, ivr_56_16, ivr_56_17, ivr_56_18, ivr_56_20, ivr_56_21, ivr_56_22, ivr_56_23, ivp_0, ivn_0, ivp_1, ivn_1, ivp_2, ivn_2, ivp_3, ivn_3, ivp_4, ivn_4, ivp_5, ivn_5, ivp_6, ivn_6, ivp_7, ivn_7, ivp_8, ivn_8, ivp_9, ivn_9, ivp_10, ivn_10, ivp_11, ivn_11, ivp_12, ivn_12, ivp_13, ivn_13, ivp_14, ivn_14, ivp_15, ivn_15, ivp_16, ivn_16, ivp_17, ivn_17, ivp_18, ivn_18, ivp_19, ivn_19, ivp_20, ivn_20, ivp_21, ivn_21, ivp_22, ivn_22, ivp_23, ivn_23, ivp_24, ivn_24, ivp_25, ivn_25, ivp_26, ivn_26, ivp_27, ivn_27, ivp_28, ivn_28, ivp_29, ivn_29, ivp_30, ivn_30, ivp_31, ivn_31, ivp_32, ivn_32, ivp_33, ivn_33, ivp_34, ivn_34, ivp_35, ivn_35, ivp_36, ivn_36, ivp_37, ivn_37, ivp_38, ivn_38, ivp_39, ivn_39, ivp_40, ivn_40, ivp_41, ivn_41, ivp_42, ivn_42, ivp_43, ivn_43, ivp_44, ivn_44, ivp_45, ivn_45, ivp_46, ivn_46, ivp_47, ivn_47, ivp_48, ivn_48, ivp_49, ivn_49, ivp_50, ivn_50, ivp_51, ivn_51, ivp_52, ivn_52, ivp_53, ivn_53, ivp_54, ivn_54, ivp_55, ivn_55, ivp_56, ivn_56, ivp_57, ivn_57, ivp_58, ivn_58, ivp_59, ivn_59, ivp_60, ivn_60, ivp_61, ivn_61, ivp_62, ivn_62, ivp_63, ivn_63, ivp_64, ivn_64, ivp_65, ivn_65, ivp_66, ivn_66, ivp_67, ivn_67, ivp_68, ivn_68, ivp_69, ivn_69, ivp_70, ivn_70, ivp_71, ivn_71, iv_mk_ln, iv_mk_l0, ne_eq, not_false_eq_true, not_true_eq_false, mr_c sM, nn, e9]
      · have hm : mm (ip_T P bv) n (k + 1) S = (rf V p n).1 := by
          rw [mm_in (by rw [ep]; exact hb), ep]
          unfold rf
          rw [rf_top]
          have : n - p = k + 1 := by omega
          rw [this, ← hV]
        rw [hm]
        refine pr_m hfin.2 (fun c => ⟨rfl, ?_⟩)
        rw [cg_in (by rw [ep]; exact hb), ep]
        have fe : fyv (ip_T P bv) n k S = (rf V p n).2 := by
          unfold fyv
          rw [ep, hm]
          have inv := rf_inv (V := V) (p := p) (n - p)
          have := inv.2 c.1
          obtain ⟨⟨y1, y2⟩, y3, y4⟩ := this
          refine fy_first (k + 1) p y1 (by
            have : n - p = k + 1 := by omega
            rw [← this]
            exact y2) (by rw [Ve]; exact decide_eq_true y3) (fun i h1 h2 => ?_)
          rw [Ve]
          have := y4 i h1 h2
          exact decide_eq_false (Nat.ne_of_lt this)
        rw [fe]
end
