/-! THE TAPE: STATEMENTS -/
theorem tC_w {k l : Nat} : (nI (tC k l) = 119) = (k = 1) := by
  have := tC_lt k l
  refine propext (((nI_eq (a := tC k l) (b := 119) (by omega) (by omega)) : nI (tC k l) = 119 ↔ _).trans ?_)
  unfold tC
  constructor
  · intro h
    split at h
    · omega
    · split at h
      · assumption
      · split at h
        · split at h <;> omega
        · split at h <;> omega
  · intro h
    subst h
    rfl
theorem tC_n {k l : Nat} : (nI (tC k l) = 48) = (k = 2 ∧ l ≤ 2) := by
  have := tC_lt k l
  refine propext (((nI_eq (a := tC k l) (b := 48) (by omega) (by omega)) : nI (tC k l) = 48 ↔ _).trans ?_)
  unfold tC
  constructor
  · intro h
    split at h
    · omega
    · split at h
      · omega
      · split at h
        · split at h
          · exact ⟨by assumption, by assumption⟩
          · omega
        · split at h <;> omega
  · rintro ⟨h, q⟩
    subst h
    simp [q]
theorem tC_e {k l : Nat} : (nI (tC k l) = 101) = (k = 0) := by
  have := tC_lt k l
  refine propext (((nI_eq (a := tC k l) (b := 101) (by omega) (by omega)) : nI (tC k l) = 101 ↔ _).trans ?_)
  unfold tC
  constructor
  · intro h
    split at h
    · assumption
    · split at h
      · omega
      · split at h
        · split at h <;> omega
        · split at h <;> omega
  · intro h
    subst h
    rfl
theorem tC_s {k l : Nat} : (nI (tC k l) = 59) = (k = 3) := by
  have := tC_lt k l
  refine propext (((nI_eq (a := tC k l) (b := 59) (by omega) (by omega)) : nI (tC k l) = 59 ↔ _).trans ?_)
  unfold tC
  constructor
  · intro h
    split at h
    · omega
    · split at h
      · omega
      · split at h
        · split at h <;> omega
        · split at h
          · assumption
          · omega
  · intro h
    subst h
    rfl
section
variable {c : Nat → Nat} {t e : Nat} {I : Nat → Nat → Int32} {J : Nat → Nat → Int64}
theorem m_isWord (hT : tpM I c t) (he : e ≤ t) (hH : thM I c t e) {q : Nat} (hq : q < 6) {d L : Nat} : (isW c t e q → iv_call (d + 5) 176 [.ref 56, .ref (2 + q)] (iv_mk L I J) = some (some (.int (1)), iv_mk L I J)) ∧ (¬ isW c t e q → iv_call (d + 5) 176 [.ref 56, .ref (2 + q)] (iv_mk L I J) = some (some (.int (0)), iv_mk L I J)) := by
  obtain ⟨⟨t1, t2⟩, t3⟩ := hT
  obtain ⟨⟨h1, h2⟩, h3, -⟩ := hH
  have ep := tE_p (c := c) he
  have ap := tA_p (c := c) he
  have w7 := wl_le q hq
  have kq := st_k q hq
  have l72 : (2 + q < 72) = True := eq_true (by omega)
  have sb : nI (tE c t e) - nI (tA c t e) = nI (tE c t e - tA c t e) := pk_sub (by omega)
  have tw := tC_w (k := tK c t e) (l := tE c t e - tA c t e)
  by_cases k1 : tK c t e = 1 ∧ tE c t e = tA c t e + wl q
  · have k1' : nI (tC (tK c t e) (tE c t e - tA c t e)) = 119 := by rw [tw]; exact k1.1
    have le : nI (tE c t e - tA c t e) = nI (wl q) := by
      congr 1
      omega
    have step : ∀ i, i < wl q → iv_sem (d + 4) 176 29 [some (.ref 56), some (.ref (2 + q)), some (.int (nI i))] [] (iv_mk L I J) = if c (tA c t e + i) = wc q i then iv_sem (d + 4) 176 29 [some (.ref 56), some (.ref (2 + q)), some (.int (nI (i + 1)))] [] (iv_mk L I J) else some (some (.int (0)), iv_mk L I J) := by
      intro i hi
      have e1 : ¬ nI (wl q) ≤ nI i := nI_ge hi (by omega)
      have i1 := ik_in (j := tA c t e + i) (n := 250) (by omega) (by omega)
      have c1 := nI_clamp (n := tA c t e + i) (by omega)
      have g := t3 (tA c t e + i) (by omega)
      have wlt := wc_lt q hq i (by omega)
      have g1 := g.1
      refine (ivs_176_29).trans ?_
      by_cases z : c (tA c t e + i) = wc q i
      · have z' : nI (c (tA c t e + i)) = nI (wc q i) := by rw [z]
        rw [z'] at g1
        simp (decide := true) only [ivf_176_25, ivf_176_27, ivf_176_58, ivf_176_64, ivj_176_29, ivx_0, ivx_1, ivx_2, ivx_3, ivx_4, ivx_5, ivx_6, ivx_7, ivx_8, ivx_9, ivx_10, ivx_11, ivx_12, ivx_13, ivx_14, ivx_15, ivx_16, ivx_17, ivx_21, ivx_22, ivx_23, ivx_24, ivx_25, ivx_26, ivx_20, ivx_36, ivx_37, ivx_18, ivx_19, ivx_27, ivx_28, ivx_29, ivx_30, ivx_31, ivx_32, ivx_33, ivx_34, ivx_35, ivx_38int, ivx_39int, ivx_40intint, ivx_41intint, ivx_40intref, ivx_41intref, ivx_38ref, ivx_39ref, ivx_40refint, ivx_41refint, ivx_40refref, ivx_41refref, ivx_42, ivx_71, ivx_43eq, ivx_44eq, ivx_43ne, ivx_44ne, ivx_43lt, ivx_44lt, ivx_43ge, ivx_44ge, ivx_43gt, ivx_44gt, ivx_43le, ivx_44le, ivx_45, ivx_46, ivx_47, ivx_48, ivx_76, ivx_77, ivx_49, ivx_50, ivx_51, ivx_52, ivx_53, ivx_54, ivx_55, ivx_56, ivx_57, ivx_58, ivx_63, ivx_63b, ivx_64, ivx_65, ivx_66_0, ivx_66_1, ivx_66_2, ivx_66_3, ivx_66_4, ivx_66_5, ivx_68_0, ivx_68_1, ivx_68_2, ivx_68_3, ivx_68_4, ivx_68_5, ivx_73_0, ivx_73_1, ivx_73_2, ivx_73_3, ivx_73_4, ivx_73_5, ivx_75_0, ivx_75_1, ivx_75_2, ivx_75_3, ivx_75_4, ivx_75_5, ivx_67_1, ivx_67_2, ivx_67_3, ivx_67_4, ivx_72_1, ivx_72_2, ivx_72_3, ivx_72_4, iv_ld8_s, iv_ld9_s, iv_ld10_s, List.getElem?_cons_zero, List.getElem?_cons_succ, List.length_cons, List.length_nil, iv_mk_c, iv_mk_I, iv_mk_J, iv_mk_R, iv_mk_uI, iv_mk_uJ, iv_rv_s, iv_cc_s, Option.toList_some, Option.toList_none, List.cons_append, List.nil_append, iv_st1, iv_st2, iv_kill, List.set_cons_zero, List.set_cons_succ, Value.category, ivq0_m1, ivq0_0, ivq0_1, ivq0_2, ivq0_3, ivq0_4, ivq0_5, ivq0_6, ivq0_252645135, ivq0_858993459, ivq0_1103515245, ivq0_1431655765, ivq1_m20, ivq1_m6, ivq1_m5, ivq1_m4, ivq1_m3, ivq1_m2, ivq1_6, ivq1_7, ivq1_8, ivq1_9, ivq1_10, ivq1_12, ivq1_16, ivq1_20, ivq1_24, ivq1_32, ivq1_40, ivq1_41, ivq1_42, ivq1_43, ivq1_44, ivq1_45, ivq1_48, ivq1_57, ivq1_59, ivq1_60, ivq1_61, ivq1_63, ivq1_97, ivq1_99, ivq1_100, ivq1_101, ivq1_119, ivq1_120, ivq1_122, ivq1_127, ivq2_250, ivq2_255, ivq2_256, ivq2_320, ivq2_999, ivq2_1000, ivq2_12345, ivqL_0, ivqL_1, ivqL_8, ivqL_4294967295, ivz_2, ivz_10, ivz_12, eq_self, Nat.reduceLT, Nat.reduceLeDiff, Nat.reduceAdd, Nat.reduceEqDiff, reduceIte, and_self, and_true, true_and, or_true, true_or, or_self, ite_self, if_true, if_false, ite_not, it_b10, it_b01, it_in8, it_cl8, Nat.reduceEqDiff, Int32.reduceLT, Int32.reduceLE, Int64.reduceLT, Int64.reduceLE, Nat.reduceMul, Nat.reduceSub, ivt_0, ivt_1, ivt_2, ivt_3, ivt_4, ivt_5, ivt_6, ivt_7, ivt_8, ivt_40, ivt_41, ivt_42, ivt_43, ivt_44, ivl_0, ivl_1, ivl_2, ivl_3, ivl_4, ivl_5, ivl_6, ivl_7, ivl_8, ivl_40, ivl_41, ivl_42, ivl_43, ivl_44, ivd_2, ivd_3, ivd_4, ivd_5, ivd_6, ivn2_1, ivn2_2, ivn2_3, ivn2_4, ivn2_5, ivn2_6, it_b11, it_nos, up_app, nI_1, Nat.add_left_cancel_iff, and_false, false_and, Nat.add_eq_left, Nat.left_eq_add, not_true_eq_false, not_false_eq_true, ivr_8_0, ivr_8_1, ivr_8_2, ivr_8_3, ivr_8_4, ivr_8_5, ivr_8_6, ivr_9_0, ivr_9_1, ivr_9_2, ivr_9_3, ivr_14_0, ivr_14_1, ivr_14_2, ivr_14_3, ivr_19_0, ivr_19_1, ivr_19_2, ivr_19_3, ivr_24_0, ivr_24_1, ivr_24_2, ivr_26_0, ivr_26_1, ivr_26_2, ivr_26_3, ivr_26_4, ivr_26_5, ivr_26_6, ivr_26_7, ivr_36_0, ivr_38_0, ivr_38_1, ivr_38_2, ivr_38_3, ivr_38_4, ivr_38_5, ivr_38_6, ivr_38_7, ivr_40_2, ivr_42_2, ivr_44_2, ivr_46_2, ivr_48_2, ivr_50_2, ivr_52_2, ivr_54_2, ivr_56_1, ivr_56_2, ivr_56_3, ivr_56_4, ivr_56_5, ivr_56_6, ivr_56_10, ivr_56_15, ivr_56_16, ivr_56_17, ivr_56_18, ivr_56_20, ivr_56_21, ivr_56_22, ivr_56_23, ivp_0, ivn_0, ivp_1, ivn_1, ivp_2, ivn_2, ivp_3, ivn_3, ivp_4, ivn_4, ivp_5, ivn_5, ivp_6, ivn_6, ivp_7, ivn_7, ivp_8, ivn_8, ivp_9, ivn_9, ivp_10, ivn_10, ivp_11, ivn_11, ivp_12, ivn_12, ivp_13, ivn_13, ivp_14, ivn_14, ivp_15, ivn_15, ivp_16, ivn_16, ivp_17, ivn_17, ivp_18, ivn_18, ivp_19, ivn_19, ivp_20, ivn_20, ivp_21, ivn_21, ivp_22, ivn_22, ivp_23, ivn_23, ivp_24, ivn_24, ivp_25, ivn_25, ivp_26, ivn_26, ivp_27, ivn_27, ivp_28, ivn_28, ivp_29, ivn_29, ivp_30, ivn_30, ivp_31, ivn_31, ivp_32, ivn_32, ivp_33, ivn_33, ivp_34, ivn_34, ivp_35, ivn_35, ivp_36, ivn_36, ivp_37, ivn_37, ivp_38, ivn_38, ivp_39, ivn_39, ivp_40, ivn_40, ivp_41, ivn_41, ivp_42, ivn_42, ivp_43, ivn_43, ivp_44, ivn_44, ivp_45, ivn_45, ivp_46, ivn_46, ivp_47, ivn_47, ivp_48, ivn_48, ivp_49, ivn_49, ivp_50, ivn_50, ivp_51, ivn_51, ivp_52, ivn_52, ivp_53, ivn_53, ivp_54, ivn_54, ivp_55, ivn_55, ivp_56, ivn_56, ivp_57, ivn_57, ivp_58, ivn_58, ivp_59, ivn_59, ivp_60, ivn_60, ivp_61, ivn_61, ivp_62, ivn_62, ivp_63, ivn_63, ivp_64, ivn_64, ivp_65, ivn_65, ivp_66, ivn_66, ivp_67, ivn_67, ivp_68, ivn_68, ivp_69, ivn_69, ivp_70, ivn_70, ivp_71, ivn_71, iv_mk_ln, iv_mk_l0, ne_eq, not_false_eq_true, not_true_eq_false, kq, l72, st_len hq, st_chr hq hi, h1, e1, nI_add, i1, c1, g1, z]
      · have z' : ¬ nI (c (tA c t e + i)) = nI (wc q i) := fun y => z ((nI_eq (by omega) (by omega)).mp y)
        simp (decide := true) only [ivf_176_25, ivf_176_27, ivf_176_58, ivf_176_64, ivj_176_29, ivx_0, ivx_1, ivx_2, ivx_3, ivx_4, ivx_5, ivx_6, ivx_7, ivx_8, ivx_9, ivx_10, ivx_11, ivx_12, ivx_13, ivx_14, ivx_15, ivx_16, ivx_17, ivx_21, ivx_22, ivx_23, ivx_24, ivx_25, ivx_26, ivx_20, ivx_36, ivx_37, ivx_18, ivx_19, ivx_27, ivx_28, ivx_29, ivx_30, ivx_31, ivx_32, ivx_33, ivx_34, ivx_35, ivx_38int, ivx_39int, ivx_40intint, ivx_41intint, ivx_40intref, ivx_41intref, ivx_38ref, ivx_39ref, ivx_40refint, ivx_41refint, ivx_40refref, ivx_41refref, ivx_42, ivx_71, ivx_43eq, ivx_44eq, ivx_43ne, ivx_44ne, ivx_43lt, ivx_44lt, ivx_43ge, ivx_44ge, ivx_43gt, ivx_44gt, ivx_43le, ivx_44le, ivx_45, ivx_46, ivx_47, ivx_48, ivx_76, ivx_77, ivx_49, ivx_50, ivx_51, ivx_52, ivx_53, ivx_54, ivx_55, ivx_56, ivx_57, ivx_58, ivx_63, ivx_63b, ivx_64, ivx_65, ivx_66_0, ivx_66_1, ivx_66_2, ivx_66_3, ivx_66_4, ivx_66_5, ivx_68_0, ivx_68_1, ivx_68_2, ivx_68_3, ivx_68_4, ivx_68_5, ivx_73_0, ivx_73_1, ivx_73_2, ivx_73_3, ivx_73_4, ivx_73_5, ivx_75_0, ivx_75_1, ivx_75_2, ivx_75_3, ivx_75_4, ivx_75_5, ivx_67_1, ivx_67_2, ivx_67_3, ivx_67_4, ivx_72_1, ivx_72_2, ivx_72_3, ivx_72_4, iv_ld8_s, iv_ld9_s, iv_ld10_s, List.getElem?_cons_zero, List.getElem?_cons_succ, List.length_cons, List.length_nil, iv_mk_c, iv_mk_I, iv_mk_J, iv_mk_R, iv_mk_uI, iv_mk_uJ, iv_rv_s, iv_cc_s, Option.toList_some, Option.toList_none, List.cons_append, List.nil_append, iv_st1, iv_st2, iv_kill, List.set_cons_zero, List.set_cons_succ, Value.category, ivq0_m1, ivq0_0, ivq0_1, ivq0_2, ivq0_3, ivq0_4, ivq0_5, ivq0_6, ivq0_252645135, ivq0_858993459, ivq0_1103515245, ivq0_1431655765, ivq1_m20, ivq1_m6, ivq1_m5, ivq1_m4, ivq1_m3, ivq1_m2, ivq1_6, ivq1_7, ivq1_8, ivq1_9, ivq1_10, ivq1_12, ivq1_16, ivq1_20, ivq1_24, ivq1_32, ivq1_40, ivq1_41, ivq1_42, ivq1_43, ivq1_44, ivq1_45, ivq1_48, ivq1_57, ivq1_59, ivq1_60, ivq1_61, ivq1_63, ivq1_97, ivq1_99, ivq1_100, ivq1_101, ivq1_119, ivq1_120, ivq1_122, ivq1_127, ivq2_250, ivq2_255, ivq2_256, ivq2_320, ivq2_999, ivq2_1000, ivq2_12345, ivqL_0, ivqL_1, ivqL_8, ivqL_4294967295, ivz_2, ivz_10, ivz_12, eq_self, Nat.reduceLT, Nat.reduceLeDiff, Nat.reduceAdd, Nat.reduceEqDiff, reduceIte, and_self, and_true, true_and, or_true, true_or, or_self, ite_self, if_true, if_false, ite_not, it_b10, it_b01, it_in8, it_cl8, Nat.reduceEqDiff, Int32.reduceLT, Int32.reduceLE, Int64.reduceLT, Int64.reduceLE, Nat.reduceMul, Nat.reduceSub, ivt_0, ivt_1, ivt_2, ivt_3, ivt_4, ivt_5, ivt_6, ivt_7, ivt_8, ivt_40, ivt_41, ivt_42, ivt_43, ivt_44, ivl_0, ivl_1, ivl_2, ivl_3, ivl_4, ivl_5, ivl_6, ivl_7, ivl_8, ivl_40, ivl_41, ivl_42, ivl_43, ivl_44, ivd_2, ivd_3, ivd_4, ivd_5, ivd_6, ivn2_1, ivn2_2, ivn2_3, ivn2_4, ivn2_5, ivn2_6, it_b11, it_nos, up_app, nI_1, Nat.add_left_cancel_iff, and_false, false_and, Nat.add_eq_left, Nat.left_eq_add, not_true_eq_false, not_false_eq_true, ivr_8_0, ivr_8_1, ivr_8_2, ivr_8_3, ivr_8_4, ivr_8_5, ivr_8_6, ivr_9_0, ivr_9_1, ivr_9_2, ivr_9_3, ivr_14_0, ivr_14_1, ivr_14_2, ivr_14_3, ivr_19_0, ivr_19_1, ivr_19_2, ivr_19_3, ivr_24_0, ivr_24_1, ivr_24_2, ivr_26_0, ivr_26_1, ivr_26_2, ivr_26_3, ivr_26_4, ivr_26_5, ivr_26_6, ivr_26_7, ivr_36_0, ivr_38_0, ivr_38_1, ivr_38_2, ivr_38_3, ivr_38_4, ivr_38_5, ivr_38_6, ivr_38_7, ivr_40_2, ivr_42_2, ivr_44_2, ivr_46_2, ivr_48_2, ivr_50_2, ivr_52_2, ivr_54_2, ivr_56_1, ivr_56_2, ivr_56_3, ivr_56_4, ivr_56_5, ivr_56_6, ivr_56_10, ivr_56_15, ivr_56_16, ivr_56_17, ivr_56_18, ivr_56_20, ivr_56_21, ivr_56_22, ivr_56_23, ivp_0, ivn_0, ivp_1, ivn_1, ivp_2, ivn_2, ivp_3, ivn_3, ivp_4, ivn_4, ivp_5, ivn_5, ivp_6, ivn_6, ivp_7, ivn_7, ivp_8, ivn_8, ivp_9, ivn_9, ivp_10, ivn_10, ivp_11, ivn_11, ivp_12, ivn_12, ivp_13, ivn_13, ivp_14, ivn_14, ivp_15, ivn_15, ivp_16, ivn_16, ivp_17, ivn_17, ivp_18, ivn_18, ivp_19, ivn_19, ivp_20, ivn_20, ivp_21, ivn_21, ivp_22, ivn_22, ivp_23, ivn_23, ivp_24, ivn_24, ivp_25, ivn_25, ivp_26, ivn_26, ivp_27, ivn_27, ivp_28, ivn_28, ivp_29, ivn_29, ivp_30, ivn_30, ivp_31, ivn_31, ivp_32, ivn_32, ivp_33, ivn_33, ivp_34, ivn_34, ivp_35, ivn_35, ivp_36, ivn_36, ivp_37, ivn_37, ivp_38, ivn_38, ivp_39, ivn_39, ivp_40, ivn_40, ivp_41, ivn_41, ivp_42, ivn_42, ivp_43, ivn_43, ivp_44, ivn_44, ivp_45, ivn_45, ivp_46, ivn_46, ivp_47, ivn_47, ivp_48, ivn_48, ivp_49, ivn_49, ivp_50, ivn_50, ivp_51, ivn_51, ivp_52, ivn_52, ivp_53, ivn_53, ivp_54, ivn_54, ivp_55, ivn_55, ivp_56, ivn_56, ivp_57, ivn_57, ivp_58, ivn_58, ivp_59, ivn_59, ivp_60, ivn_60, ivp_61, ivn_61, ivp_62, ivn_62, ivp_63, ivn_63, ivp_64, ivn_64, ivp_65, ivn_65, ivp_66, ivn_66, ivp_67, ivn_67, ivp_68, ivn_68, ivp_69, ivn_69, ivp_70, ivn_70, ivp_71, ivn_71, iv_mk_ln, iv_mk_l0, ne_eq, not_false_eq_true, not_true_eq_false, kq, l72, st_len hq, st_chr hq hi, h1, e1, nI_add, i1, c1, g1, z, z']
    have run : ∀ m, m ≤ wl q → (∀ i, i < m → c (tA c t e + i) = wc q i) → iv_sem (d + 4) 176 29 [some (.ref 56), some (.ref (2 + q)), some (.int (nI 0))] [] (iv_mk L I J) = iv_sem (d + 4) 176 29 [some (.ref 56), some (.ref (2 + q)), some (.int (nI m))] [] (iv_mk L I J) := by
      intro m
      induction m with
      | zero => intro _ _; rfl
      | succ m ih =>
        intro hm hc
        rw [ih (by omega) (fun i hi => hc i (by omega)), step m (by omega), if_pos (hc m (by omega))]
    have ent : iv_call (d + 5) 176 [.ref 56, .ref (2 + q)] (iv_mk L I J) = iv_sem (d + 4) 176 29 [some (.ref 56), some (.ref (2 + q)), some (.int (nI 0))] [] (iv_mk L I J) := by
      simp (decide := true) only [ivc_176, ivs_176_0, ivf_176_25, ivf_176_27, ivf_176_58, ivf_176_64, ivx_0, ivx_1, ivx_2, ivx_3, ivx_4, ivx_5, ivx_6, ivx_7, ivx_8, ivx_9, ivx_10, ivx_11, ivx_12, ivx_13, ivx_14, ivx_15, ivx_16, ivx_17, ivx_21, ivx_22, ivx_23, ivx_24, ivx_25, ivx_26, ivx_20, ivx_36, ivx_37, ivx_18, ivx_19, ivx_27, ivx_28, ivx_29, ivx_30, ivx_31, ivx_32, ivx_33, ivx_34, ivx_35, ivx_38int, ivx_39int, ivx_40intint, ivx_41intint, ivx_40intref, ivx_41intref, ivx_38ref, ivx_39ref, ivx_40refint, ivx_41refint, ivx_40refref, ivx_41refref, ivx_42, ivx_71, ivx_43eq, ivx_44eq, ivx_43ne, ivx_44ne, ivx_43lt, ivx_44lt, ivx_43ge, ivx_44ge, ivx_43gt, ivx_44gt, ivx_43le, ivx_44le, ivx_45, ivx_46, ivx_47, ivx_48, ivx_76, ivx_77, ivx_49, ivx_50, ivx_51, ivx_52, ivx_53, ivx_54, ivx_55, ivx_56, ivx_57, ivx_58, ivx_63, ivx_63b, ivx_64, ivx_65, ivx_66_0, ivx_66_1, ivx_66_2, ivx_66_3, ivx_66_4, ivx_66_5, ivx_68_0, ivx_68_1, ivx_68_2, ivx_68_3, ivx_68_4, ivx_68_5, ivx_73_0, ivx_73_1, ivx_73_2, ivx_73_3, ivx_73_4, ivx_73_5, ivx_75_0, ivx_75_1, ivx_75_2, ivx_75_3, ivx_75_4, ivx_75_5, ivx_67_1, ivx_67_2, ivx_67_3, ivx_67_4, ivx_72_1, ivx_72_2, ivx_72_3, ivx_72_4, iv_ld8_s, iv_ld9_s, iv_ld10_s, List.getElem?_cons_zero, List.getElem?_cons_succ, List.length_cons, List.length_nil, iv_mk_c, iv_mk_I, iv_mk_J, iv_mk_R, iv_mk_uI, iv_mk_uJ, iv_rv_s, iv_cc_s, Option.toList_some, Option.toList_none, List.cons_append, List.nil_append, iv_st1, iv_st2, iv_kill, List.set_cons_zero, List.set_cons_succ, Value.category, ivq0_m1, ivq0_0, ivq0_1, ivq0_2, ivq0_3, ivq0_4, ivq0_5, ivq0_6, ivq0_252645135, ivq0_858993459, ivq0_1103515245, ivq0_1431655765, ivq1_m20, ivq1_m6, ivq1_m5, ivq1_m4, ivq1_m3, ivq1_m2, ivq1_6, ivq1_7, ivq1_8, ivq1_9, ivq1_10, ivq1_12, ivq1_16, ivq1_20, ivq1_24, ivq1_32, ivq1_40, ivq1_41, ivq1_42, ivq1_43, ivq1_44, ivq1_45, ivq1_48, ivq1_57, ivq1_59, ivq1_60, ivq1_61, ivq1_63, ivq1_97, ivq1_99, ivq1_100, ivq1_101, ivq1_119, ivq1_120, ivq1_122, ivq1_127, ivq2_250, ivq2_255, ivq2_256, ivq2_320, ivq2_999, ivq2_1000, ivq2_12345, ivqL_0, ivqL_1, ivqL_8, ivqL_4294967295, ivz_2, ivz_10, ivz_12, eq_self, Nat.reduceLT, Nat.reduceLeDiff, Nat.reduceAdd, Nat.reduceEqDiff, reduceIte, and_self, and_true, true_and, or_true, true_or, or_self, ite_self, if_true, if_false, ite_not, it_b10, it_b01, it_in8, it_cl8, Nat.reduceEqDiff, Int32.reduceLT, Int32.reduceLE, Int64.reduceLT, Int64.reduceLE, Nat.reduceMul, Nat.reduceSub, ivt_0, ivt_1, ivt_2, ivt_3, ivt_4, ivt_5, ivt_6, ivt_7, ivt_8, ivt_40, ivt_41, ivt_42, ivt_43, ivt_44, ivl_0, ivl_1, ivl_2, ivl_3, ivl_4, ivl_5, ivl_6, ivl_7, ivl_8, ivl_40, ivl_41, ivl_42, ivl_43, ivl_44, ivd_2, ivd_3, ivd_4, ivd_5, ivd_6, ivn2_1, ivn2_2, ivn2_3, ivn2_4, ivn2_5, ivn2_6, it_b11, it_nos, up_app, nI_1, Nat.add_left_cancel_iff, and_false, false_and, Nat.add_eq_left, Nat.left_eq_add, not_true_eq_false, not_false_eq_true, ivr_8_0, ivr_8_1, ivr_8_2, ivr_8_3, ivr_8_4, ivr_8_5, ivr_8_6, ivr_9_0, ivr_9_1, ivr_9_2, ivr_9_3, ivr_14_0, ivr_14_1, ivr_14_2, ivr_14_3, ivr_19_0, ivr_19_1, ivr_19_2, ivr_19_3, ivr_24_0, ivr_24_1, ivr_24_2, ivr_26_0, ivr_26_1, ivr_26_2, ivr_26_3, ivr_26_4, ivr_26_5, ivr_26_6, ivr_26_7, ivr_36_0, ivr_38_0, ivr_38_1, ivr_38_2, ivr_38_3, ivr_38_4, ivr_38_5, ivr_38_6, ivr_38_7, ivr_40_2, ivr_42_2, ivr_44_2, ivr_46_2, ivr_48_2, ivr_50_2, ivr_52_2, ivr_54_2, ivr_56_1, ivr_56_2, ivr_56_3, ivr_56_4, ivr_56_5, ivr_56_6, ivr_56_10, ivr_56_15, ivr_56_16, ivr_56_17, ivr_56_18, ivr_56_20, ivr_56_21, ivr_56_22, ivr_56_23, ivp_0, ivn_0, ivp_1, ivn_1, ivp_2, ivn_2, ivp_3, ivn_3, ivp_4, ivn_4, ivp_5, ivn_5, ivp_6, ivn_6, ivp_7, ivn_7, ivp_8, ivn_8, ivp_9, ivn_9, ivp_10, ivn_10, ivp_11, ivn_11, ivp_12, ivn_12, ivp_13, ivn_13, ivp_14, ivn_14, ivp_15, ivn_15, ivp_16, ivn_16, ivp_17, ivn_17, ivp_18, ivn_18, ivp_19, ivn_19, ivp_20, ivn_20, ivp_21, ivn_21, ivp_22, ivn_22, ivp_23, ivn_23, ivp_24, ivn_24, ivp_25, ivn_25, ivp_26, ivn_26, ivp_27, ivn_27, ivp_28, ivn_28, ivp_29, ivn_29, ivp_30, ivn_30, ivp_31, ivn_31, ivp_32, ivn_32, ivp_33, ivn_33, ivp_34, ivn_34, ivp_35, ivn_35, ivp_36, ivn_36, ivp_37, ivn_37, ivp_38, ivn_38, ivp_39, ivn_39, ivp_40, ivn_40, ivp_41, ivn_41, ivp_42, ivn_42, ivp_43, ivn_43, ivp_44, ivn_44, ivp_45, ivn_45, ivp_46, ivn_46, ivp_47, ivn_47, ivp_48, ivn_48, ivp_49, ivn_49, ivp_50, ivn_50, ivp_51, ivn_51, ivp_52, ivn_52, ivp_53, ivn_53, ivp_54, ivn_54, ivp_55, ivn_55, ivp_56, ivn_56, ivp_57, ivn_57, ivp_58, ivn_58, ivp_59, ivn_59, ivp_60, ivn_60, ivp_61, ivn_61, ivp_62, ivn_62, ivp_63, ivn_63, ivp_64, ivn_64, ivp_65, ivn_65, ivp_66, ivn_66, ivp_67, ivn_67, ivp_68, ivn_68, ivp_69, ivn_69, ivp_70, ivn_70, ivp_71, ivn_71, iv_mk_ln, iv_mk_l0, ne_eq, not_false_eq_true, not_true_eq_false, kq, l72, st_len hq, h1, h2, h3, k1', sb, le, nI_0, ivj_176_29]
    rw [ent]
    constructor
    · intro hw
      rw [run (wl q) (Nat.le_refl _) hw.2]
      have e1 : nI (wl q) ≤ nI (wl q) := nI_le (by omega) (by omega)
      refine (ivs_176_29).trans ?_
      simp (decide := true) only [ivf_176_25, ivf_176_27, ivf_176_58, ivf_176_64, ivj_176_29, ivx_0, ivx_1, ivx_2, ivx_3, ivx_4, ivx_5, ivx_6, ivx_7, ivx_8, ivx_9, ivx_10, ivx_11, ivx_12, ivx_13, ivx_14, ivx_15, ivx_16, ivx_17, ivx_21, ivx_22, ivx_23, ivx_24, ivx_25, ivx_26, ivx_20, ivx_36, ivx_37, ivx_18, ivx_19, ivx_27, ivx_28, ivx_29, ivx_30, ivx_31, ivx_32, ivx_33, ivx_34, ivx_35, ivx_38int, ivx_39int, ivx_40intint, ivx_41intint, ivx_40intref, ivx_41intref, ivx_38ref, ivx_39ref, ivx_40refint, ivx_41refint, ivx_40refref, ivx_41refref, ivx_42, ivx_71, ivx_43eq, ivx_44eq, ivx_43ne, ivx_44ne, ivx_43lt, ivx_44lt, ivx_43ge, ivx_44ge, ivx_43gt, ivx_44gt, ivx_43le, ivx_44le, ivx_45, ivx_46, ivx_47, ivx_48, ivx_76, ivx_77, ivx_49, ivx_50, ivx_51, ivx_52, ivx_53, ivx_54, ivx_55, ivx_56, ivx_57, ivx_58, ivx_63, ivx_63b, ivx_64, ivx_65, ivx_66_0, ivx_66_1, ivx_66_2, ivx_66_3, ivx_66_4, ivx_66_5, ivx_68_0, ivx_68_1, ivx_68_2, ivx_68_3, ivx_68_4, ivx_68_5, ivx_73_0, ivx_73_1, ivx_73_2, ivx_73_3, ivx_73_4, ivx_73_5, ivx_75_0, ivx_75_1, ivx_75_2, ivx_75_3, ivx_75_4, ivx_75_5, ivx_67_1, ivx_67_2, ivx_67_3, ivx_67_4, ivx_72_1, ivx_72_2, ivx_72_3, ivx_72_4, iv_ld8_s, iv_ld9_s, iv_ld10_s, List.getElem?_cons_zero, List.getElem?_cons_succ, List.length_cons, List.length_nil, iv_mk_c, iv_mk_I, iv_mk_J, iv_mk_R, iv_mk_uI, iv_mk_uJ, iv_rv_s, iv_cc_s, Option.toList_some, Option.toList_none, List.cons_append, List.nil_append, iv_st1, iv_st2, iv_kill, List.set_cons_zero, List.set_cons_succ, Value.category, ivq0_m1, ivq0_0, ivq0_1, ivq0_2, ivq0_3, ivq0_4, ivq0_5, ivq0_6, ivq0_252645135, ivq0_858993459, ivq0_1103515245, ivq0_1431655765, ivq1_m20, ivq1_m6, ivq1_m5, ivq1_m4, ivq1_m3, ivq1_m2, ivq1_6, ivq1_7, ivq1_8, ivq1_9, ivq1_10, ivq1_12, ivq1_16, ivq1_20, ivq1_24, ivq1_32, ivq1_40, ivq1_41, ivq1_42, ivq1_43, ivq1_44, ivq1_45, ivq1_48, ivq1_57, ivq1_59, ivq1_60, ivq1_61, ivq1_63, ivq1_97, ivq1_99, ivq1_100, ivq1_101, ivq1_119, ivq1_120, ivq1_122, ivq1_127, ivq2_250, ivq2_255, ivq2_256, ivq2_320, ivq2_999, ivq2_1000, ivq2_12345, ivqL_0, ivqL_1, ivqL_8, ivqL_4294967295, ivz_2, ivz_10, ivz_12, eq_self, Nat.reduceLT, Nat.reduceLeDiff, Nat.reduceAdd, Nat.reduceEqDiff, reduceIte, and_self, and_true, true_and, or_true, true_or, or_self, ite_self, if_true, if_false, ite_not, it_b10, it_b01, it_in8, it_cl8, Nat.reduceEqDiff, Int32.reduceLT, Int32.reduceLE, Int64.reduceLT, Int64.reduceLE, Nat.reduceMul, Nat.reduceSub, ivt_0, ivt_1, ivt_2, ivt_3, ivt_4, ivt_5, ivt_6, ivt_7, ivt_8, ivt_40, ivt_41, ivt_42, ivt_43, ivt_44, ivl_0, ivl_1, ivl_2, ivl_3, ivl_4, ivl_5, ivl_6, ivl_7, ivl_8, ivl_40, ivl_41, ivl_42, ivl_43, ivl_44, ivd_2, ivd_3, ivd_4, ivd_5, ivd_6, ivn2_1, ivn2_2, ivn2_3, ivn2_4, ivn2_5, ivn2_6, it_b11, it_nos, up_app, nI_1, Nat.add_left_cancel_iff, and_false, false_and, Nat.add_eq_left, Nat.left_eq_add, not_true_eq_false, not_false_eq_true, ivr_8_0, ivr_8_1, ivr_8_2, ivr_8_3, ivr_8_4, ivr_8_5, ivr_8_6, ivr_9_0, ivr_9_1, ivr_9_2, ivr_9_3, ivr_14_0, ivr_14_1, ivr_14_2, ivr_14_3, ivr_19_0, ivr_19_1, ivr_19_2, ivr_19_3, ivr_24_0, ivr_24_1, ivr_24_2, ivr_26_0, ivr_26_1, ivr_26_2, ivr_26_3, ivr_26_4, ivr_26_5, ivr_26_6, ivr_26_7, ivr_36_0, ivr_38_0, ivr_38_1, ivr_38_2, ivr_38_3, ivr_38_4, ivr_38_5, ivr_38_6, ivr_38_7, ivr_40_2, ivr_42_2, ivr_44_2, ivr_46_2, ivr_48_2, ivr_50_2, ivr_52_2, ivr_54_2, ivr_56_1, ivr_56_2, ivr_56_3, ivr_56_4, ivr_56_5, ivr_56_6, ivr_56_10, ivr_56_15, ivr_56_16, ivr_56_17, ivr_56_18, ivr_56_20, ivr_56_21, ivr_56_22, ivr_56_23, ivp_0, ivn_0, ivp_1, ivn_1, ivp_2, ivn_2, ivp_3, ivn_3, ivp_4, ivn_4, ivp_5, ivn_5, ivp_6, ivn_6, ivp_7, ivn_7, ivp_8, ivn_8, ivp_9, ivn_9, ivp_10, ivn_10, ivp_11, ivn_11, ivp_12, ivn_12, ivp_13, ivn_13, ivp_14, ivn_14, ivp_15, ivn_15, ivp_16, ivn_16, ivp_17, ivn_17, ivp_18, ivn_18, ivp_19, ivn_19, ivp_20, ivn_20, ivp_21, ivn_21, ivp_22, ivn_22, ivp_23, ivn_23, ivp_24, ivn_24, ivp_25, ivn_25, ivp_26, ivn_26, ivp_27, ivn_27, ivp_28, ivn_28, ivp_29, ivn_29, ivp_30, ivn_30, ivp_31, ivn_31, ivp_32, ivn_32, ivp_33, ivn_33, ivp_34, ivn_34, ivp_35, ivn_35, ivp_36, ivn_36, ivp_37, ivn_37, ivp_38, ivn_38, ivp_39, ivn_39, ivp_40, ivn_40, ivp_41, ivn_41, ivp_42, ivn_42, ivp_43, ivn_43, ivp_44, ivn_44, ivp_45, ivn_45, ivp_46, ivn_46, ivp_47, ivn_47, ivp_48, ivn_48, ivp_49, ivn_49, ivp_50, ivn_50, ivp_51, ivn_51, ivp_52, ivn_52, ivp_53, ivn_53, ivp_54, ivn_54, ivp_55, ivn_55, ivp_56, ivn_56, ivp_57, ivn_57, ivp_58, ivn_58, ivp_59, ivn_59, ivp_60, ivn_60, ivp_61, ivn_61, ivp_62, ivn_62, ivp_63, ivn_63, ivp_64, ivn_64, ivp_65, ivn_65, ivp_66, ivn_66, ivp_67, ivn_67, ivp_68, ivn_68, ivp_69, ivn_69, ivp_70, ivn_70, ivp_71, ivn_71, iv_mk_ln, iv_mk_l0, ne_eq, not_false_eq_true, not_true_eq_false, kq, l72, st_len hq, e1]
    · intro hw
      have ex : ∃ i, i < wl q ∧ ¬ c (tA c t e + i) = wc q i := by
        apply Classical.byContradiction
        intro n
        exact hw ⟨k1, fun i hi => Classical.byContradiction (fun z => n ⟨i, hi, z⟩)⟩
      obtain ⟨i, ⟨i1, i2⟩, i3⟩ := pk_least (fun i => i < wl q ∧ ¬ c (tA c t e + i) = wc q i) ex
      rw [run i (by omega) (fun j hj => Classical.byContradiction (fun z => i3 j hj ⟨by omega, z⟩)), step i i1, if_neg i2]
  · refine ⟨fun hw => absurd hw.1 k1, fun _ => ?_⟩
    by_cases k2 : tK c t e = 1
    · have k1' : nI (tC (tK c t e) (tE c t e - tA c t e)) = 119 := by rw [tw]; exact k2
      have le : ¬ nI (tE c t e - tA c t e) = nI (wl q) := fun y => by
        have := (nI_eq (by omega) (by omega)).mp y
        exact k1 ⟨k2, by omega⟩
      simp (decide := true) only [ivc_176, ivs_176_0, ivf_176_25, ivf_176_27, ivf_176_58, ivf_176_64, ivx_0, ivx_1, ivx_2, ivx_3, ivx_4, ivx_5, ivx_6, ivx_7, ivx_8, ivx_9, ivx_10, ivx_11, ivx_12, ivx_13, ivx_14, ivx_15, ivx_16, ivx_17, ivx_21, ivx_22, ivx_23, ivx_24, ivx_25, ivx_26, ivx_20, ivx_36, ivx_37, ivx_18, ivx_19, ivx_27, ivx_28, ivx_29, ivx_30, ivx_31, ivx_32, ivx_33, ivx_34, ivx_35, ivx_38int, ivx_39int, ivx_40intint, ivx_41intint, ivx_40intref, ivx_41intref, ivx_38ref, ivx_39ref, ivx_40refint, ivx_41refint, ivx_40refref, ivx_41refref, ivx_42, ivx_71, ivx_43eq, ivx_44eq, ivx_43ne, ivx_44ne, ivx_43lt, ivx_44lt, ivx_43ge, ivx_44ge, ivx_43gt, ivx_44gt, ivx_43le, ivx_44le, ivx_45, ivx_46, ivx_47, ivx_48, ivx_76, ivx_77, ivx_49, ivx_50, ivx_51, ivx_52, ivx_53, ivx_54, ivx_55, ivx_56, ivx_57, ivx_58, ivx_63, ivx_63b, ivx_64, ivx_65, ivx_66_0, ivx_66_1, ivx_66_2, ivx_66_3, ivx_66_4, ivx_66_5, ivx_68_0, ivx_68_1, ivx_68_2, ivx_68_3, ivx_68_4, ivx_68_5, ivx_73_0, ivx_73_1, ivx_73_2, ivx_73_3, ivx_73_4, ivx_73_5, ivx_75_0, ivx_75_1, ivx_75_2, ivx_75_3, ivx_75_4, ivx_75_5, ivx_67_1, ivx_67_2, ivx_67_3, ivx_67_4, ivx_72_1, ivx_72_2, ivx_72_3, ivx_72_4, iv_ld8_s, iv_ld9_s, iv_ld10_s, List.getElem?_cons_zero, List.getElem?_cons_succ, List.length_cons, List.length_nil, iv_mk_c, iv_mk_I, iv_mk_J, iv_mk_R, iv_mk_uI, iv_mk_uJ, iv_rv_s, iv_cc_s, Option.toList_some, Option.toList_none, List.cons_append, List.nil_append, iv_st1, iv_st2, iv_kill, List.set_cons_zero, List.set_cons_succ, Value.category, ivq0_m1, ivq0_0, ivq0_1, ivq0_2, ivq0_3, ivq0_4, ivq0_5, ivq0_6, ivq0_252645135, ivq0_858993459, ivq0_1103515245, ivq0_1431655765, ivq1_m20, ivq1_m6, ivq1_m5, ivq1_m4, ivq1_m3, ivq1_m2, ivq1_6, ivq1_7, ivq1_8, ivq1_9, ivq1_10, ivq1_12, ivq1_16, ivq1_20, ivq1_24, ivq1_32, ivq1_40, ivq1_41, ivq1_42, ivq1_43, ivq1_44, ivq1_45, ivq1_48, ivq1_57, ivq1_59, ivq1_60, ivq1_61, ivq1_63, ivq1_97, ivq1_99, ivq1_100, ivq1_101, ivq1_119, ivq1_120, ivq1_122, ivq1_127, ivq2_250, ivq2_255, ivq2_256, ivq2_320, ivq2_999, ivq2_1000, ivq2_12345, ivqL_0, ivqL_1, ivqL_8, ivqL_4294967295, ivz_2, ivz_10, ivz_12, eq_self, Nat.reduceLT, Nat.reduceLeDiff, Nat.reduceAdd, Nat.reduceEqDiff, reduceIte, and_self, and_true, true_and, or_true, true_or, or_self, ite_self, if_true, if_false, ite_not, it_b10, it_b01, it_in8, it_cl8, Nat.reduceEqDiff, Int32.reduceLT, Int32.reduceLE, Int64.reduceLT, Int64.reduceLE, Nat.reduceMul, Nat.reduceSub, ivt_0, ivt_1, ivt_2, ivt_3, ivt_4, ivt_5, ivt_6, ivt_7, ivt_8, ivt_40, ivt_41, ivt_42, ivt_43, ivt_44, ivl_0, ivl_1, ivl_2, ivl_3, ivl_4, ivl_5, ivl_6, ivl_7, ivl_8, ivl_40, ivl_41, ivl_42, ivl_43, ivl_44, ivd_2, ivd_3, ivd_4, ivd_5, ivd_6, ivn2_1, ivn2_2, ivn2_3, ivn2_4, ivn2_5, ivn2_6, it_b11, it_nos, up_app, nI_1, Nat.add_left_cancel_iff, and_false, false_and, Nat.add_eq_left, Nat.left_eq_add, not_true_eq_false, not_false_eq_true, ivr_8_0, ivr_8_1, ivr_8_2, ivr_8_3, ivr_8_4, ivr_8_5, ivr_8_6, ivr_9_0, ivr_9_1, ivr_9_2, ivr_9_3, ivr_14_0, ivr_14_1, ivr_14_2, ivr_14_3, ivr_19_0, ivr_19_1, ivr_19_2, ivr_19_3, ivr_24_0, ivr_24_1, ivr_24_2, ivr_26_0, ivr_26_1, ivr_26_2, ivr_26_3, ivr_26_4, ivr_26_5, ivr_26_6, ivr_26_7, ivr_36_0, ivr_38_0, ivr_38_1, ivr_38_2, ivr_38_3, ivr_38_4, ivr_38_5, ivr_38_6, ivr_38_7, ivr_40_2, ivr_42_2, ivr_44_2, ivr_46_2, ivr_48_2, ivr_50_2, ivr_52_2, ivr_54_2, ivr_56_1, ivr_56_2, ivr_56_3, ivr_56_4, ivr_56_5, ivr_56_6, ivr_56_10, ivr_56_15, ivr_56_16, ivr_56_17, ivr_56_18, ivr_56_20, ivr_56_21, ivr_56_22, ivr_56_23, ivp_0, ivn_0, ivp_1, ivn_1, ivp_2, ivn_2, ivp_3, ivn_3, ivp_4, ivn_4, ivp_5, ivn_5, ivp_6, ivn_6, ivp_7, ivn_7, ivp_8, ivn_8, ivp_9, ivn_9, ivp_10, ivn_10, ivp_11, ivn_11, ivp_12, ivn_12, ivp_13, ivn_13, ivp_14, ivn_14, ivp_15, ivn_15, ivp_16, ivn_16, ivp_17, ivn_17, ivp_18, ivn_18, ivp_19, ivn_19, ivp_20, ivn_20, ivp_21, ivn_21, ivp_22, ivn_22, ivp_23, ivn_23, ivp_24, ivn_24, ivp_25, ivn_25, ivp_26, ivn_26, ivp_27, ivn_27, ivp_28, ivn_28, ivp_29, ivn_29, ivp_30, ivn_30, ivp_31, ivn_31, ivp_32, ivn_32, ivp_33, ivn_33, ivp_34, ivn_34, ivp_35, ivn_35, ivp_36, ivn_36, ivp_37, ivn_37, ivp_38, ivn_38, ivp_39, ivn_39, ivp_40, ivn_40, ivp_41, ivn_41, ivp_42, ivn_42, ivp_43, ivn_43, ivp_44, ivn_44, ivp_45, ivn_45, ivp_46, ivn_46, ivp_47, ivn_47, ivp_48, ivn_48, ivp_49, ivn_49, ivp_50, ivn_50, ivp_51, ivn_51, ivp_52, ivn_52, ivp_53, ivn_53, ivp_54, ivn_54, ivp_55, ivn_55, ivp_56, ivn_56, ivp_57, ivn_57, ivp_58, ivn_58, ivp_59, ivn_59, ivp_60, ivn_60, ivp_61, ivn_61, ivp_62, ivn_62, ivp_63, ivn_63, ivp_64, ivn_64, ivp_65, ivn_65, ivp_66, ivn_66, ivp_67, ivn_67, ivp_68, ivn_68, ivp_69, ivn_69, ivp_70, ivn_70, ivp_71, ivn_71, iv_mk_ln, iv_mk_l0, ne_eq, not_false_eq_true, not_true_eq_false, kq, l72, st_len hq, h1, h2, h3, k1', sb, le]
    · have k1' : ¬ nI (tC (tK c t e) (tE c t e - tA c t e)) = 119 := by rw [tw]; exact k2
      simp (decide := true) only [ivc_176, ivs_176_0, ivf_176_25, ivf_176_27, ivf_176_58, ivf_176_64, ivx_0, ivx_1, ivx_2, ivx_3, ivx_4, ivx_5, ivx_6, ivx_7, ivx_8, ivx_9, ivx_10, ivx_11, ivx_12, ivx_13, ivx_14, ivx_15, ivx_16, ivx_17, ivx_21, ivx_22, ivx_23, ivx_24, ivx_25, ivx_26, ivx_20, ivx_36, ivx_37, ivx_18, ivx_19, ivx_27, ivx_28, ivx_29, ivx_30, ivx_31, ivx_32, ivx_33, ivx_34, ivx_35, ivx_38int, ivx_39int, ivx_40intint, ivx_41intint, ivx_40intref, ivx_41intref, ivx_38ref, ivx_39ref, ivx_40refint, ivx_41refint, ivx_40refref, ivx_41refref, ivx_42, ivx_71, ivx_43eq, ivx_44eq, ivx_43ne, ivx_44ne, ivx_43lt, ivx_44lt, ivx_43ge, ivx_44ge, ivx_43gt, ivx_44gt, ivx_43le, ivx_44le, ivx_45, ivx_46, ivx_47, ivx_48, ivx_76, ivx_77, ivx_49, ivx_50, ivx_51, ivx_52, ivx_53, ivx_54, ivx_55, ivx_56, ivx_57, ivx_58, ivx_63, ivx_63b, ivx_64, ivx_65, ivx_66_0, ivx_66_1, ivx_66_2, ivx_66_3, ivx_66_4, ivx_66_5, ivx_68_0, ivx_68_1, ivx_68_2, ivx_68_3, ivx_68_4, ivx_68_5, ivx_73_0, ivx_73_1, ivx_73_2, ivx_73_3, ivx_73_4, ivx_73_5, ivx_75_0, ivx_75_1, ivx_75_2, ivx_75_3, ivx_75_4, ivx_75_5, ivx_67_1, ivx_67_2, ivx_67_3, ivx_67_4, ivx_72_1, ivx_72_2, ivx_72_3, ivx_72_4, iv_ld8_s, iv_ld9_s, iv_ld10_s, List.getElem?_cons_zero, List.getElem?_cons_succ, List.length_cons, List.length_nil, iv_mk_c, iv_mk_I, iv_mk_J, iv_mk_R, iv_mk_uI, iv_mk_uJ, iv_rv_s, iv_cc_s, Option.toList_some, Option.toList_none, List.cons_append, List.nil_append, iv_st1, iv_st2, iv_kill, List.set_cons_zero, List.set_cons_succ, Value.category, ivq0_m1, ivq0_0, ivq0_1, ivq0_2, ivq0_3, ivq0_4, ivq0_5, ivq0_6, ivq0_252645135, ivq0_858993459, ivq0_1103515245, ivq0_1431655765, ivq1_m20, ivq1_m6, ivq1_m5, ivq1_m4, ivq1_m3, ivq1_m2, ivq1_6, ivq1_7, ivq1_8, ivq1_9, ivq1_10, ivq1_12, ivq1_16, ivq1_20, ivq1_24, ivq1_32, ivq1_40, ivq1_41, ivq1_42, ivq1_43, ivq1_44, ivq1_45, ivq1_48, ivq1_57, ivq1_59, ivq1_60, ivq1_61, ivq1_63, ivq1_97, ivq1_99, ivq1_100, ivq1_101, ivq1_119, ivq1_120, ivq1_122, ivq1_127, ivq2_250, ivq2_255, ivq2_256, ivq2_320, ivq2_999, ivq2_1000, ivq2_12345, ivqL_0, ivqL_1, ivqL_8, ivqL_4294967295, ivz_2, ivz_10, ivz_12, eq_self, Nat.reduceLT, Nat.reduceLeDiff, Nat.reduceAdd, Nat.reduceEqDiff, reduceIte, and_self, and_true, true_and, or_true, true_or, or_self, ite_self, if_true, if_false, ite_not, it_b10, it_b01, it_in8, it_cl8, Nat.reduceEqDiff, Int32.reduceLT, Int32.reduceLE, Int64.reduceLT, Int64.reduceLE, Nat.reduceMul, Nat.reduceSub, ivt_0, ivt_1, ivt_2, ivt_3, ivt_4, ivt_5, ivt_6, ivt_7, ivt_8, ivt_40, ivt_41, ivt_42, ivt_43, ivt_44, ivl_0, ivl_1, ivl_2, ivl_3, ivl_4, ivl_5, ivl_6, ivl_7, ivl_8, ivl_40, ivl_41, ivl_42, ivl_43, ivl_44, ivd_2, ivd_3, ivd_4, ivd_5, ivd_6, ivn2_1, ivn2_2, ivn2_3, ivn2_4, ivn2_5, ivn2_6, it_b11, it_nos, up_app, nI_1, Nat.add_left_cancel_iff, and_false, false_and, Nat.add_eq_left, Nat.left_eq_add, not_true_eq_false, not_false_eq_true, ivr_8_0, ivr_8_1, ivr_8_2, ivr_8_3, ivr_8_4, ivr_8_5, ivr_8_6, ivr_9_0, ivr_9_1, ivr_9_2, ivr_9_3, ivr_14_0, ivr_14_1, ivr_14_2, ivr_14_3, ivr_19_0, ivr_19_1, ivr_19_2, ivr_19_3, ivr_24_0, ivr_24_1, ivr_24_2, ivr_26_0, ivr_26_1, ivr_26_2, ivr_26_3, ivr_26_4, ivr_26_5, ivr_26_6, ivr_26_7, ivr_36_0, ivr_38_0, ivr_38_1, ivr_38_2, ivr_38_3, ivr_38_4, ivr_38_5, ivr_38_6, ivr_38_7, ivr_40_2, ivr_42_2, ivr_44_2, ivr_46_2, ivr_48_2, ivr_50_2, ivr_52_2, ivr_54_2, ivr_56_1, ivr_56_2, ivr_56_3, ivr_56_4, ivr_56_5, ivr_56_6, ivr_56_10, ivr_56_15, ivr_56_16, ivr_56_17, ivr_56_18, ivr_56_20, ivr_56_21, ivr_56_22, ivr_56_23, ivp_0, ivn_0, ivp_1, ivn_1, ivp_2, ivn_2, ivp_3, ivn_3, ivp_4, ivn_4, ivp_5, ivn_5, ivp_6, ivn_6, ivp_7, ivn_7, ivp_8, ivn_8, ivp_9, ivn_9, ivp_10, ivn_10, ivp_11, ivn_11, ivp_12, ivn_12, ivp_13, ivn_13, ivp_14, ivn_14, ivp_15, ivn_15, ivp_16, ivn_16, ivp_17, ivn_17, ivp_18, ivn_18, ivp_19, ivn_19, ivp_20, ivn_20, ivp_21, ivn_21, ivp_22, ivn_22, ivp_23, ivn_23, ivp_24, ivn_24, ivp_25, ivn_25, ivp_26, ivn_26, ivp_27, ivn_27, ivp_28, ivn_28, ivp_29, ivn_29, ivp_30, ivn_30, ivp_31, ivn_31, ivp_32, ivn_32, ivp_33, ivn_33, ivp_34, ivn_34, ivp_35, ivn_35, ivp_36, ivn_36, ivp_37, ivn_37, ivp_38, ivn_38, ivp_39, ivn_39, ivp_40, ivn_40, ivp_41, ivn_41, ivp_42, ivn_42, ivp_43, ivn_43, ivp_44, ivn_44, ivp_45, ivn_45, ivp_46, ivn_46, ivp_47, ivn_47, ivp_48, ivn_48, ivp_49, ivn_49, ivp_50, ivn_50, ivp_51, ivn_51, ivp_52, ivn_52, ivp_53, ivn_53, ivp_54, ivn_54, ivp_55, ivn_55, ivp_56, ivn_56, ivp_57, ivn_57, ivp_58, ivn_58, ivp_59, ivn_59, ivp_60, ivn_60, ivp_61, ivn_61, ivp_62, ivn_62, ivp_63, ivn_63, ivp_64, ivn_64, ivp_65, ivn_65, ivp_66, ivn_66, ivp_67, ivn_67, ivp_68, ivn_68, ivp_69, ivn_69, ivp_70, ivn_70, ivp_71, ivn_71, iv_mk_ln, iv_mk_l0, ne_eq, not_false_eq_true, not_true_eq_false, h3, k1']
def onm (o : Option Nat) : Int32 := match o with
  | some v => nI v
  | none => -1
theorem m_number (hT : tpM I c t) (he : e ≤ t) (hE : I 56 12 = nI e) {lo hi : Nat} {l h : Int32} (hh : ∀ v, v ≤ 99 → ((l ≤ nI v ∧ nI v ≤ h) ↔ (lo ≤ v ∧ v < hi))) : ∃ I', f56 I I' ∧ thM I' c t e ∧ ∀ (d L : Nat) (J : Nat → Nat → Int64), iv_call (d + 3) 177 [.ref 56, .int l, .int h] (iv_mk L I J) = some (some (.int (onm (nm c t e lo hi))), iv_mk L I' J) := by
  obtain ⟨I', e', f, th'⟩ := m_next hT he hE
  have ep := tE_p (c := c) he
  refine ⟨I', f, th', fun d L J => ?_⟩
  obtain ⟨⟨h1, h2⟩, h3, h4⟩ := th'
  have tn := tC_n (k := tK c t e) (l := tE c t e - tA c t e)
  by_cases k : nok c t e
  · have z1 : nI (tC (tK c t e) (tE c t e - tA c t e)) = 48 := by
      rw [tn]
      exact ⟨k.1, by have := k.2; omega⟩
    have z2 := h4 k.1
    have n99 := nv_le he k
    by_cases g : lo ≤ nvv c (tA c t e) (tE c t e) ∧ nvv c (tA c t e) (tE c t e) < hi
    · have g' := (hh _ n99).mpr g
      have o : onm (nm c t e lo hi) = nI (nvv c (tA c t e) (tE c t e)) := by
        unfold nm
        rw [if_pos ⟨k, g⟩]
        rfl
      rw [o]
      simp (decide := true) only [ivc_177, ivs_177_0, ivf_177_32, ivf_177_33, ivx_0, ivx_1, ivx_2, ivx_3, ivx_4, ivx_5, ivx_6, ivx_7, ivx_8, ivx_9, ivx_10, ivx_11, ivx_12, ivx_13, ivx_14, ivx_15, ivx_16, ivx_17, ivx_21, ivx_22, ivx_23, ivx_24, ivx_25, ivx_26, ivx_20, ivx_36, ivx_37, ivx_18, ivx_19, ivx_27, ivx_28, ivx_29, ivx_30, ivx_31, ivx_32, ivx_33, ivx_34, ivx_35, ivx_38int, ivx_39int, ivx_40intint, ivx_41intint, ivx_40intref, ivx_41intref, ivx_38ref, ivx_39ref, ivx_40refint, ivx_41refint, ivx_40refref, ivx_41refref, ivx_42, ivx_71, ivx_43eq, ivx_44eq, ivx_43ne, ivx_44ne, ivx_43lt, ivx_44lt, ivx_43ge, ivx_44ge, ivx_43gt, ivx_44gt, ivx_43le, ivx_44le, ivx_45, ivx_46, ivx_47, ivx_48, ivx_76, ivx_77, ivx_49, ivx_50, ivx_51, ivx_52, ivx_53, ivx_54, ivx_55, ivx_56, ivx_57, ivx_58, ivx_63, ivx_63b, ivx_64, ivx_65, ivx_66_0, ivx_66_1, ivx_66_2, ivx_66_3, ivx_66_4, ivx_66_5, ivx_68_0, ivx_68_1, ivx_68_2, ivx_68_3, ivx_68_4, ivx_68_5, ivx_73_0, ivx_73_1, ivx_73_2, ivx_73_3, ivx_73_4, ivx_73_5, ivx_75_0, ivx_75_1, ivx_75_2, ivx_75_3, ivx_75_4, ivx_75_5, ivx_67_1, ivx_67_2, ivx_67_3, ivx_67_4, ivx_72_1, ivx_72_2, ivx_72_3, ivx_72_4, iv_ld8_s, iv_ld9_s, iv_ld10_s, List.getElem?_cons_zero, List.getElem?_cons_succ, List.length_cons, List.length_nil, iv_mk_c, iv_mk_I, iv_mk_J, iv_mk_R, iv_mk_uI, iv_mk_uJ, iv_rv_s, iv_cc_s, Option.toList_some, Option.toList_none, List.cons_append, List.nil_append, iv_st1, iv_st2, iv_kill, List.set_cons_zero, List.set_cons_succ, Value.category, ivq0_m1, ivq0_0, ivq0_1, ivq0_2, ivq0_3, ivq0_4, ivq0_5, ivq0_6, ivq0_252645135, ivq0_858993459, ivq0_1103515245, ivq0_1431655765, ivq1_m20, ivq1_m6, ivq1_m5, ivq1_m4, ivq1_m3, ivq1_m2, ivq1_6, ivq1_7, ivq1_8, ivq1_9, ivq1_10, ivq1_12, ivq1_16, ivq1_20, ivq1_24, ivq1_32, ivq1_40, ivq1_41, ivq1_42, ivq1_43, ivq1_44, ivq1_45, ivq1_48, ivq1_57, ivq1_59, ivq1_60, ivq1_61, ivq1_63, ivq1_97, ivq1_99, ivq1_100, ivq1_101, ivq1_119, ivq1_120, ivq1_122, ivq1_127, ivq2_250, ivq2_255, ivq2_256, ivq2_320, ivq2_999, ivq2_1000, ivq2_12345, ivqL_0, ivqL_1, ivqL_8, ivqL_4294967295, ivz_2, ivz_10, ivz_12, eq_self, Nat.reduceLT, Nat.reduceLeDiff, Nat.reduceAdd, Nat.reduceEqDiff, reduceIte, and_self, and_true, true_and, or_true, true_or, or_self, ite_self, if_true, if_false, ite_not, it_b10, it_b01, it_in8, it_cl8, Nat.reduceEqDiff, Int32.reduceLT, Int32.reduceLE, Int64.reduceLT, Int64.reduceLE, Nat.reduceMul, Nat.reduceSub, ivt_0, ivt_1, ivt_2, ivt_3, ivt_4, ivt_5, ivt_6, ivt_7, ivt_8, ivt_40, ivt_41, ivt_42, ivt_43, ivt_44, ivl_0, ivl_1, ivl_2, ivl_3, ivl_4, ivl_5, ivl_6, ivl_7, ivl_8, ivl_40, ivl_41, ivl_42, ivl_43, ivl_44, ivd_2, ivd_3, ivd_4, ivd_5, ivd_6, ivn2_1, ivn2_2, ivn2_3, ivn2_4, ivn2_5, ivn2_6, it_b11, it_nos, up_app, nI_1, Nat.add_left_cancel_iff, and_false, false_and, Nat.add_eq_left, Nat.left_eq_add, not_true_eq_false, not_false_eq_true, ivr_8_0, ivr_8_1, ivr_8_2, ivr_8_3, ivr_8_4, ivr_8_5, ivr_8_6, ivr_9_0, ivr_9_1, ivr_9_2, ivr_9_3, ivr_14_0, ivr_14_1, ivr_14_2, ivr_14_3, ivr_19_0, ivr_19_1, ivr_19_2, ivr_19_3, ivr_24_0, ivr_24_1, ivr_24_2, ivr_26_0, ivr_26_1, ivr_26_2, ivr_26_3, ivr_26_4, ivr_26_5, ivr_26_6, ivr_26_7, ivr_36_0, ivr_38_0, ivr_38_1, ivr_38_2, ivr_38_3, ivr_38_4, ivr_38_5, ivr_38_6, ivr_38_7, ivr_40_2, ivr_42_2, ivr_44_2, ivr_46_2, ivr_48_2, ivr_50_2, ivr_52_2, ivr_54_2, ivr_56_1, ivr_56_2, ivr_56_3, ivr_56_4, ivr_56_5, ivr_56_6, ivr_56_10, ivr_56_15, ivr_56_16, ivr_56_17, ivr_56_18, ivr_56_20, ivr_56_21, ivr_56_22, ivr_56_23, ivp_0, ivn_0, ivp_1, ivn_1, ivp_2, ivn_2, ivp_3, ivn_3, ivp_4, ivn_4, ivp_5, ivn_5, ivp_6, ivn_6, ivp_7, ivn_7, ivp_8, ivn_8, ivp_9, ivn_9, ivp_10, ivn_10, ivp_11, ivn_11, ivp_12, ivn_12, ivp_13, ivn_13, ivp_14, ivn_14, ivp_15, ivn_15, ivp_16, ivn_16, ivp_17, ivn_17, ivp_18, ivn_18, ivp_19, ivn_19, ivp_20, ivn_20, ivp_21, ivn_21, ivp_22, ivn_22, ivp_23, ivn_23, ivp_24, ivn_24, ivp_25, ivn_25, ivp_26, ivn_26, ivp_27, ivn_27, ivp_28, ivn_28, ivp_29, ivn_29, ivp_30, ivn_30, ivp_31, ivn_31, ivp_32, ivn_32, ivp_33, ivn_33, ivp_34, ivn_34, ivp_35, ivn_35, ivp_36, ivn_36, ivp_37, ivn_37, ivp_38, ivn_38, ivp_39, ivn_39, ivp_40, ivn_40, ivp_41, ivn_41, ivp_42, ivn_42, ivp_43, ivn_43, ivp_44, ivn_44, ivp_45, ivn_45, ivp_46, ivn_46, ivp_47, ivn_47, ivp_48, ivn_48, ivp_49, ivn_49, ivp_50, ivn_50, ivp_51, ivn_51, ivp_52, ivn_52, ivp_53, ivn_53, ivp_54, ivn_54, ivp_55, ivn_55, ivp_56, ivn_56, ivp_57, ivn_57, ivp_58, ivn_58, ivp_59, ivn_59, ivp_60, ivn_60, ivp_61, ivn_61, ivp_62, ivn_62, ivp_63, ivn_63, ivp_64, ivn_64, ivp_65, ivn_65, ivp_66, ivn_66, ivp_67, ivn_67, ivp_68, ivn_68, ivp_69, ivn_69, ivp_70, ivn_70, ivp_71, ivn_71, iv_mk_ln, iv_mk_l0, ne_eq, not_false_eq_true, not_true_eq_false, e', h3, z1, z2, wm1 g']
    · have g' : ¬ (l ≤ nI (nvv c (tA c t e) (tE c t e)) ∧ nI (nvv c (tA c t e) (tE c t e)) ≤ h) := fun q => g ((hh _ n99).mp q)
      have o : onm (nm c t e lo hi) = -1 := by
        unfold nm
        rw [if_neg (fun q => g q.2)]
        rfl
      rw [o]
      simp (decide := true) only [ivc_177, ivs_177_0, ivf_177_32, ivf_177_33, ivx_0, ivx_1, ivx_2, ivx_3, ivx_4, ivx_5, ivx_6, ivx_7, ivx_8, ivx_9, ivx_10, ivx_11, ivx_12, ivx_13, ivx_14, ivx_15, ivx_16, ivx_17, ivx_21, ivx_22, ivx_23, ivx_24, ivx_25, ivx_26, ivx_20, ivx_36, ivx_37, ivx_18, ivx_19, ivx_27, ivx_28, ivx_29, ivx_30, ivx_31, ivx_32, ivx_33, ivx_34, ivx_35, ivx_38int, ivx_39int, ivx_40intint, ivx_41intint, ivx_40intref, ivx_41intref, ivx_38ref, ivx_39ref, ivx_40refint, ivx_41refint, ivx_40refref, ivx_41refref, ivx_42, ivx_71, ivx_43eq, ivx_44eq, ivx_43ne, ivx_44ne, ivx_43lt, ivx_44lt, ivx_43ge, ivx_44ge, ivx_43gt, ivx_44gt, ivx_43le, ivx_44le, ivx_45, ivx_46, ivx_47, ivx_48, ivx_76, ivx_77, ivx_49, ivx_50, ivx_51, ivx_52, ivx_53, ivx_54, ivx_55, ivx_56, ivx_57, ivx_58, ivx_63, ivx_63b, ivx_64, ivx_65, ivx_66_0, ivx_66_1, ivx_66_2, ivx_66_3, ivx_66_4, ivx_66_5, ivx_68_0, ivx_68_1, ivx_68_2, ivx_68_3, ivx_68_4, ivx_68_5, ivx_73_0, ivx_73_1, ivx_73_2, ivx_73_3, ivx_73_4, ivx_73_5, ivx_75_0, ivx_75_1, ivx_75_2, ivx_75_3, ivx_75_4, ivx_75_5, ivx_67_1, ivx_67_2, ivx_67_3, ivx_67_4, ivx_72_1, ivx_72_2, ivx_72_3, ivx_72_4, iv_ld8_s, iv_ld9_s, iv_ld10_s, List.getElem?_cons_zero, List.getElem?_cons_succ, List.length_cons, List.length_nil, iv_mk_c, iv_mk_I, iv_mk_J, iv_mk_R, iv_mk_uI, iv_mk_uJ, iv_rv_s, iv_cc_s, Option.toList_some, Option.toList_none, List.cons_append, List.nil_append, iv_st1, iv_st2, iv_kill, List.set_cons_zero, List.set_cons_succ, Value.category, ivq0_m1, ivq0_0, ivq0_1, ivq0_2, ivq0_3, ivq0_4, ivq0_5, ivq0_6, ivq0_252645135, ivq0_858993459, ivq0_1103515245, ivq0_1431655765, ivq1_m20, ivq1_m6, ivq1_m5, ivq1_m4, ivq1_m3, ivq1_m2, ivq1_6, ivq1_7, ivq1_8, ivq1_9, ivq1_10, ivq1_12, ivq1_16, ivq1_20, ivq1_24, ivq1_32, ivq1_40, ivq1_41, ivq1_42, ivq1_43, ivq1_44, ivq1_45, ivq1_48, ivq1_57, ivq1_59, ivq1_60, ivq1_61, ivq1_63, ivq1_97, ivq1_99, ivq1_100, ivq1_101, ivq1_119, ivq1_120, ivq1_122, ivq1_127, ivq2_250, ivq2_255, ivq2_256, ivq2_320, ivq2_999, ivq2_1000, ivq2_12345, ivqL_0, ivqL_1, ivqL_8, ivqL_4294967295, ivz_2, ivz_10, ivz_12, eq_self, Nat.reduceLT, Nat.reduceLeDiff, Nat.reduceAdd, Nat.reduceEqDiff, reduceIte, and_self, and_true, true_and, or_true, true_or, or_self, ite_self, if_true, if_false, ite_not, it_b10, it_b01, it_in8, it_cl8, Nat.reduceEqDiff, Int32.reduceLT, Int32.reduceLE, Int64.reduceLT, Int64.reduceLE, Nat.reduceMul, Nat.reduceSub, ivt_0, ivt_1, ivt_2, ivt_3, ivt_4, ivt_5, ivt_6, ivt_7, ivt_8, ivt_40, ivt_41, ivt_42, ivt_43, ivt_44, ivl_0, ivl_1, ivl_2, ivl_3, ivl_4, ivl_5, ivl_6, ivl_7, ivl_8, ivl_40, ivl_41, ivl_42, ivl_43, ivl_44, ivd_2, ivd_3, ivd_4, ivd_5, ivd_6, ivn2_1, ivn2_2, ivn2_3, ivn2_4, ivn2_5, ivn2_6, it_b11, it_nos, up_app, nI_1, Nat.add_left_cancel_iff, and_false, false_and, Nat.add_eq_left, Nat.left_eq_add, not_true_eq_false, not_false_eq_true, ivr_8_0, ivr_8_1, ivr_8_2, ivr_8_3, ivr_8_4, ivr_8_5, ivr_8_6, ivr_9_0, ivr_9_1, ivr_9_2, ivr_9_3, ivr_14_0, ivr_14_1, ivr_14_2, ivr_14_3, ivr_19_0, ivr_19_1, ivr_19_2, ivr_19_3, ivr_24_0, ivr_24_1, ivr_24_2, ivr_26_0, ivr_26_1, ivr_26_2, ivr_26_3, ivr_26_4, ivr_26_5, ivr_26_6, ivr_26_7, ivr_36_0, ivr_38_0, ivr_38_1, ivr_38_2, ivr_38_3, ivr_38_4, ivr_38_5, ivr_38_6, ivr_38_7, ivr_40_2, ivr_42_2, ivr_44_2, ivr_46_2, ivr_48_2, ivr_50_2, ivr_52_2, ivr_54_2, ivr_56_1, ivr_56_2, ivr_56_3, ivr_56_4, ivr_56_5, ivr_56_6, ivr_56_10, ivr_56_15, ivr_56_16, ivr_56_17, ivr_56_18, ivr_56_20, ivr_56_21, ivr_56_22, ivr_56_23, ivp_0, ivn_0, ivp_1, ivn_1, ivp_2, ivn_2, ivp_3, ivn_3, ivp_4, ivn_4, ivp_5, ivn_5, ivp_6, ivn_6, ivp_7, ivn_7, ivp_8, ivn_8, ivp_9, ivn_9, ivp_10, ivn_10, ivp_11, ivn_11, ivp_12, ivn_12, ivp_13, ivn_13, ivp_14, ivn_14, ivp_15, ivn_15, ivp_16, ivn_16, ivp_17, ivn_17, ivp_18, ivn_18, ivp_19, ivn_19, ivp_20, ivn_20, ivp_21, ivn_21, ivp_22, ivn_22, ivp_23, ivn_23, ivp_24, ivn_24, ivp_25, ivn_25, ivp_26, ivn_26, ivp_27, ivn_27, ivp_28, ivn_28, ivp_29, ivn_29, ivp_30, ivn_30, ivp_31, ivn_31, ivp_32, ivn_32, ivp_33, ivn_33, ivp_34, ivn_34, ivp_35, ivn_35, ivp_36, ivn_36, ivp_37, ivn_37, ivp_38, ivn_38, ivp_39, ivn_39, ivp_40, ivn_40, ivp_41, ivn_41, ivp_42, ivn_42, ivp_43, ivn_43, ivp_44, ivn_44, ivp_45, ivn_45, ivp_46, ivn_46, ivp_47, ivn_47, ivp_48, ivn_48, ivp_49, ivn_49, ivp_50, ivn_50, ivp_51, ivn_51, ivp_52, ivn_52, ivp_53, ivn_53, ivp_54, ivn_54, ivp_55, ivn_55, ivp_56, ivn_56, ivp_57, ivn_57, ivp_58, ivn_58, ivp_59, ivn_59, ivp_60, ivn_60, ivp_61, ivn_61, ivp_62, ivn_62, ivp_63, ivn_63, ivp_64, ivn_64, ivp_65, ivn_65, ivp_66, ivn_66, ivp_67, ivn_67, ivp_68, ivn_68, ivp_69, ivn_69, ivp_70, ivn_70, ivp_71, ivn_71, iv_mk_ln, iv_mk_l0, ne_eq, not_false_eq_true, not_true_eq_false, e', h3, z1, z2, wm0 g']
  · have z1 : ¬ nI (tC (tK c t e) (tE c t e - tA c t e)) = 48 := by
      rw [tn]
      exact fun q => k ⟨q.1, by omega⟩
    have o : onm (nm c t e lo hi) = -1 := by
      unfold nm
      rw [if_neg (fun q => k q.1)]
      rfl
    rw [o]
    simp (decide := true) only [ivc_177, ivs_177_0, ivf_177_32, ivf_177_33, ivx_0, ivx_1, ivx_2, ivx_3, ivx_4, ivx_5, ivx_6, ivx_7, ivx_8, ivx_9, ivx_10, ivx_11, ivx_12, ivx_13, ivx_14, ivx_15, ivx_16, ivx_17, ivx_21, ivx_22, ivx_23, ivx_24, ivx_25, ivx_26, ivx_20, ivx_36, ivx_37, ivx_18, ivx_19, ivx_27, ivx_28, ivx_29, ivx_30, ivx_31, ivx_32, ivx_33, ivx_34, ivx_35, ivx_38int, ivx_39int, ivx_40intint, ivx_41intint, ivx_40intref, ivx_41intref, ivx_38ref, ivx_39ref, ivx_40refint, ivx_41refint, ivx_40refref, ivx_41refref, ivx_42, ivx_71, ivx_43eq, ivx_44eq, ivx_43ne, ivx_44ne, ivx_43lt, ivx_44lt, ivx_43ge, ivx_44ge, ivx_43gt, ivx_44gt, ivx_43le, ivx_44le, ivx_45, ivx_46, ivx_47, ivx_48, ivx_76, ivx_77, ivx_49, ivx_50, ivx_51, ivx_52, ivx_53, ivx_54, ivx_55, ivx_56, ivx_57, ivx_58, ivx_63, ivx_63b, ivx_64, ivx_65, ivx_66_0, ivx_66_1, ivx_66_2, ivx_66_3, ivx_66_4, ivx_66_5, ivx_68_0, ivx_68_1, ivx_68_2, ivx_68_3, ivx_68_4, ivx_68_5, ivx_73_0, ivx_73_1, ivx_73_2, ivx_73_3, ivx_73_4, ivx_73_5, ivx_75_0, ivx_75_1, ivx_75_2, ivx_75_3, ivx_75_4, ivx_75_5, ivx_67_1, ivx_67_2, ivx_67_3, ivx_67_4, ivx_72_1, ivx_72_2, ivx_72_3, ivx_72_4, iv_ld8_s, iv_ld9_s, iv_ld10_s, List.getElem?_cons_zero, List.getElem?_cons_succ, List.length_cons, List.length_nil, iv_mk_c, iv_mk_I, iv_mk_J, iv_mk_R, iv_mk_uI, iv_mk_uJ, iv_rv_s, iv_cc_s, Option.toList_some, Option.toList_none, List.cons_append, List.nil_append, iv_st1, iv_st2, iv_kill, List.set_cons_zero, List.set_cons_succ, Value.category, ivq0_m1, ivq0_0, ivq0_1, ivq0_2, ivq0_3, ivq0_4, ivq0_5, ivq0_6, ivq0_252645135, ivq0_858993459, ivq0_1103515245, ivq0_1431655765, ivq1_m20, ivq1_m6, ivq1_m5, ivq1_m4, ivq1_m3, ivq1_m2, ivq1_6, ivq1_7, ivq1_8, ivq1_9, ivq1_10, ivq1_12, ivq1_16, ivq1_20, ivq1_24, ivq1_32, ivq1_40, ivq1_41, ivq1_42, ivq1_43, ivq1_44, ivq1_45, ivq1_48, ivq1_57, ivq1_59, ivq1_60, ivq1_61, ivq1_63, ivq1_97, ivq1_99, ivq1_100, ivq1_101, ivq1_119, ivq1_120, ivq1_122, ivq1_127, ivq2_250, ivq2_255, ivq2_256, ivq2_320, ivq2_999, ivq2_1000, ivq2_12345, ivqL_0, ivqL_1, ivqL_8, ivqL_4294967295, ivz_2, ivz_10, ivz_12, eq_self, Nat.reduceLT, Nat.reduceLeDiff, Nat.reduceAdd, Nat.reduceEqDiff, reduceIte, and_self, and_true, true_and, or_true, true_or, or_self, ite_self, if_true, if_false, ite_not, it_b10, it_b01, it_in8, it_cl8, Nat.reduceEqDiff, Int32.reduceLT, Int32.reduceLE, Int64.reduceLT, Int64.reduceLE, Nat.reduceMul, Nat.reduceSub, ivt_0, ivt_1, ivt_2, ivt_3, ivt_4, ivt_5, ivt_6, ivt_7, ivt_8, ivt_40, ivt_41, ivt_42, ivt_43, ivt_44, ivl_0, ivl_1, ivl_2, ivl_3, ivl_4, ivl_5, ivl_6, ivl_7, ivl_8, ivl_40, ivl_41, ivl_42, ivl_43, ivl_44, ivd_2, ivd_3, ivd_4, ivd_5, ivd_6, ivn2_1, ivn2_2, ivn2_3, ivn2_4, ivn2_5, ivn2_6, it_b11, it_nos, up_app, nI_1, Nat.add_left_cancel_iff, and_false, false_and, Nat.add_eq_left, Nat.left_eq_add, not_true_eq_false, not_false_eq_true, ivr_8_0, ivr_8_1, ivr_8_2, ivr_8_3, ivr_8_4, ivr_8_5, ivr_8_6, ivr_9_0, ivr_9_1, ivr_9_2, ivr_9_3, ivr_14_0, ivr_14_1, ivr_14_2, ivr_14_3, ivr_19_0, ivr_19_1, ivr_19_2, ivr_19_3, ivr_24_0, ivr_24_1, ivr_24_2, ivr_26_0, ivr_26_1, ivr_26_2, ivr_26_3, ivr_26_4, ivr_26_5, ivr_26_6, ivr_26_7, ivr_36_0, ivr_38_0, ivr_38_1, ivr_38_2, ivr_38_3, ivr_38_4, ivr_38_5, ivr_38_6, ivr_38_7, ivr_40_2, ivr_42_2, ivr_44_2, ivr_46_2, ivr_48_2, ivr_50_2, ivr_52_2, ivr_54_2, ivr_56_1, ivr_56_2, ivr_56_3, ivr_56_4, ivr_56_5, ivr_56_6, ivr_56_10, ivr_56_15, ivr_56_16, ivr_56_17, ivr_56_18, ivr_56_20, ivr_56_21, ivr_56_22, ivr_56_23, ivp_0, ivn_0, ivp_1, ivn_1, ivp_2, ivn_2, ivp_3, ivn_3, ivp_4, ivn_4, ivp_5, ivn_5, ivp_6, ivn_6, ivp_7, ivn_7, ivp_8, ivn_8, ivp_9, ivn_9, ivp_10, ivn_10, ivp_11, ivn_11, ivp_12, ivn_12, ivp_13, ivn_13, ivp_14, ivn_14, ivp_15, ivn_15, ivp_16, ivn_16, ivp_17, ivn_17, ivp_18, ivn_18, ivp_19, ivn_19, ivp_20, ivn_20, ivp_21, ivn_21, ivp_22, ivn_22, ivp_23, ivn_23, ivp_24, ivn_24, ivp_25, ivn_25, ivp_26, ivn_26, ivp_27, ivn_27, ivp_28, ivn_28, ivp_29, ivn_29, ivp_30, ivn_30, ivp_31, ivn_31, ivp_32, ivn_32, ivp_33, ivn_33, ivp_34, ivn_34, ivp_35, ivn_35, ivp_36, ivn_36, ivp_37, ivn_37, ivp_38, ivn_38, ivp_39, ivn_39, ivp_40, ivn_40, ivp_41, ivn_41, ivp_42, ivn_42, ivp_43, ivn_43, ivp_44, ivn_44, ivp_45, ivn_45, ivp_46, ivn_46, ivp_47, ivn_47, ivp_48, ivn_48, ivp_49, ivn_49, ivp_50, ivn_50, ivp_51, ivn_51, ivp_52, ivn_52, ivp_53, ivn_53, ivp_54, ivn_54, ivp_55, ivn_55, ivp_56, ivn_56, ivp_57, ivn_57, ivp_58, ivn_58, ivp_59, ivn_59, ivp_60, ivn_60, ivp_61, ivn_61, ivp_62, ivn_62, ivp_63, ivn_63, ivp_64, ivn_64, ivp_65, ivn_65, ivp_66, ivn_66, ivp_67, ivn_67, ivp_68, ivn_68, ivp_69, ivn_69, ivp_70, ivn_70, ivp_71, ivn_71, iv_mk_ln, iv_mk_l0, ne_eq, not_false_eq_true, not_true_eq_false, e', h3, z1]
end
/-- the word of the TOKEN from e on; 6: none -/
noncomputable def wq (c : Nat → Nat) (t e : Nat) : Nat := @dite _ (∃ q, q < 6 ∧ isW c t e q) (Classical.propDecidable _) (fun h => Classical.choose h) (fun _ => 6)
theorem wq_c (c : Nat → Nat) (t e : Nat) : (wq c t e < 6 ∧ isW c t e (wq c t e) ∧ ∀ r, r < 6 → r ≠ wq c t e → ¬ isW c t e r) ∨ (wq c t e = 6 ∧ ∀ r, r < 6 → ¬ isW c t e r) := by
  by_cases h : ∃ q, q < 6 ∧ isW c t e q
  · have e1 : wq c t e = Classical.choose h := dif_pos h
    have s := Classical.choose_spec h
    rw [← e1] at s
    exact Or.inl ⟨s.1, s.2, fun r hr ne q => ne (wd_un hr s.1 q s.2)⟩
  · have e1 : wq c t e = 6 := dif_neg h
    exact Or.inr ⟨e1, fun r hr q => h ⟨r, hr, q⟩⟩
/-- a STATEMENT with the word q at e: whether it goes; where it ends, or fails; PEOPLE behind it -/
noncomputable def gq (c : Nat → Nat) (t e n : Nat) (P : Nat → Nat → Int32) : Nat → Bool × Nat × Nat × (Nat → Nat → Int32)
  | 0 => if 8 ≤ n then (false, e, n, P) else match nm c t (tE c t e) 0 6 with
    | none => (false, tE c t e, n, P)
    | some k => match nm c t (tE c t (tE c t e)) 0 10 with
      | none => (false, tE c t (tE c t e), n, P)
      | some a => match nm c t (tE c t (tE c t (tE c t e))) 0 100 with
        | none => (false, tE c t (tE c t (tE c t e)), n, P)
        | some w => (true, tE c t (tE c t (tE c t (tE c t e))), n + 1, ip_add P n (nI k) (nI a) (nI w))
  | 1 => match nm c t (tE c t e) 0 n with
    | none => (false, tE c t e, n, P)
    | some x => if P 1 x = 5 then (false, tE c t e, n, P) else (true, tE c t (tE c t e), n, iv_up P 4 x 1)
  | 2 => match nm c t (tE c t e) 0 n with
    | none => (false, tE c t e, n, P)
    | some x => (true, tE c t (tE c t e), n, iv_up P 4 x 0)
  | 3 => match nm c t (tE c t e) 0 n with
    | none => (false, tE c t e, n, P)
    | some x => match nm c t (tE c t (tE c t e)) 0 100 with
      | none => (false, tE c t (tE c t e), n, P)
      | some w => (true, tE c t (tE c t (tE c t e)), n, iv_up P 3 x (nI w))
  | 4 => match nm c t (tE c t e) 1 10 with
    | none => (false, tE c t e, n, P)
    | some v => (true, tE c t (tE c t e), n, iv_up P 0 1 (nI v))
  | 5 => match nm c t (tE c t e) 0 13 with
    | none => (false, tE c t e, n, P)
    | some v => (true, tE c t (tE c t e), n, iv_up P 0 2 (nI v))
  | _ => (false, e, n, P)
section
variable {c : Nat → Nat} {t e n : Nat} {P I I' : Nat → Nat → Int32}
theorem nm_lt {lo hi v : Nat} (h : nm c t e lo hi = some v) : lo ≤ v ∧ v < hi := by
  unfold nm at h
  split at h
  · rename_i q
    cases h
    exact q.2
  · cases h
theorem gq0a (hn : 8 ≤ n) : gq c t e n P 0 = (false, e, n, P) := by
  simp only [gq, hn, if_true, if_false, reduceIte]
theorem gq0b (hn : ¬ 8 ≤ n) (h1 : nm c t (tE c t e) 0 6 = none) : gq c t e n P 0 = (false, tE c t e, n, P) := by
  simp only [gq, hn, h1, if_true, if_false, reduceIte]
theorem gq0c {k : Nat} (hn : ¬ 8 ≤ n) (h1 : nm c t (tE c t e) 0 6 = some k) (h2 : nm c t (tE c t (tE c t e)) 0 10 = none) : gq c t e n P 0 = (false, tE c t (tE c t e), n, P) := by
  simp only [gq, hn, h1, h2, if_true, if_false, reduceIte]
theorem gq0d {k a : Nat} (hn : ¬ 8 ≤ n) (h1 : nm c t (tE c t e) 0 6 = some k) (h2 : nm c t (tE c t (tE c t e)) 0 10 = some a) (h3 : nm c t (tE c t (tE c t (tE c t e))) 0 100 = none) : gq c t e n P 0 = (false, tE c t (tE c t (tE c t e)), n, P) := by
  simp only [gq, hn, h1, h2, h3, if_true, if_false, reduceIte]
theorem gq0e {k a w : Nat} (hn : ¬ 8 ≤ n) (h1 : nm c t (tE c t e) 0 6 = some k) (h2 : nm c t (tE c t (tE c t e)) 0 10 = some a) (h3 : nm c t (tE c t (tE c t (tE c t e))) 0 100 = some w) : gq c t e n P 0 = (true, tE c t (tE c t (tE c t (tE c t e))), n + 1, ip_add P n (nI k) (nI a) (nI w)) := by
  simp only [gq, hn, h1, h2, h3, if_true, if_false, reduceIte]
theorem gq1a (h1 : nm c t (tE c t e) 0 n = none) : gq c t e n P 1 = (false, tE c t e, n, P) := by
  simp only [gq, h1, if_true, if_false, reduceIte]
theorem gq1b {x : Nat} (h1 : nm c t (tE c t e) 0 n = some x) (g : P 1 x = 5) : gq c t e n P 1 = (false, tE c t e, n, P) := by
  simp only [gq, h1, g, if_true, if_false, reduceIte]
theorem gq1c {x : Nat} (h1 : nm c t (tE c t e) 0 n = some x) (g : ¬ P 1 x = 5) : gq c t e n P 1 = (true, tE c t (tE c t e), n, iv_up P 4 x 1) := by
  simp only [gq, h1, g, if_true, if_false, reduceIte]
theorem gq2a (h1 : nm c t (tE c t e) 0 n = none) : gq c t e n P 2 = (false, tE c t e, n, P) := by
  simp only [gq, h1, if_true, if_false, reduceIte]
theorem gq2b {x : Nat} (h1 : nm c t (tE c t e) 0 n = some x) : gq c t e n P 2 = (true, tE c t (tE c t e), n, iv_up P 4 x 0) := by
  simp only [gq, h1, if_true, if_false, reduceIte]
theorem gq3a (h1 : nm c t (tE c t e) 0 n = none) : gq c t e n P 3 = (false, tE c t e, n, P) := by
  simp only [gq, h1, if_true, if_false, reduceIte]
theorem gq3b {x : Nat} (h1 : nm c t (tE c t e) 0 n = some x) (h2 : nm c t (tE c t (tE c t e)) 0 100 = none) : gq c t e n P 3 = (false, tE c t (tE c t e), n, P) := by
  simp only [gq, h1, h2, if_true, if_false, reduceIte]
theorem gq3c {x w : Nat} (h1 : nm c t (tE c t e) 0 n = some x) (h2 : nm c t (tE c t (tE c t e)) 0 100 = some w) : gq c t e n P 3 = (true, tE c t (tE c t (tE c t e)), n, iv_up P 3 x (nI w)) := by
  simp only [gq, h1, h2, if_true, if_false, reduceIte]
theorem gq4a (h1 : nm c t (tE c t e) 1 10 = none) : gq c t e n P 4 = (false, tE c t e, n, P) := by
  simp only [gq, h1, if_true, if_false, reduceIte]
theorem gq4b {v : Nat} (h1 : nm c t (tE c t e) 1 10 = some v) : gq c t e n P 4 = (true, tE c t (tE c t e), n, iv_up P 0 1 (nI v)) := by
  simp only [gq, h1, if_true, if_false, reduceIte]
theorem gq5a (h1 : nm c t (tE c t e) 0 13 = none) : gq c t e n P 5 = (false, tE c t e, n, P) := by
  simp only [gq, h1, if_true, if_false, reduceIte]
theorem gq5b {v : Nat} (h1 : nm c t (tE c t e) 0 13 = some v) : gq c t e n P 5 = (true, tE c t (tE c t e), n, iv_up P 0 2 (nI v)) := by
  simp only [gq, h1, if_true, if_false, reduceIte]
theorem gq6 : gq c t e n P 6 = (false, e, n, P) := rfl
/-- what a STATEMENT keeps -/
theorem gq_ok (ok : ip_ok n P) (q : Nat) (hq : q ≤ 6) : (gq c t e n P q).1 = true → ip_ok (gq c t e n P q).2.2.1 (gq c t e n P q).2.2.2 ∧ n ≤ (gq c t e n P q).2.2.1 := by
  have h8 := ip_n8 ok
  by_cases q0 : q = 0
  · subst q0
    by_cases hn : 8 ≤ n
    · rw [gq0a hn]
      exact fun h => Bool.noConfusion h
    · cases h1 : nm c t (tE c t e) 0 6 with
      | none =>
        rw [gq0b hn h1]
        exact fun h => Bool.noConfusion h
      | some k =>
        cases h2 : nm c t (tE c t (tE c t e)) 0 10 with
        | none =>
          rw [gq0c hn h1 h2]
          exact fun h => Bool.noConfusion h
        | some a =>
          cases h3 : nm c t (tE c t (tE c t (tE c t e))) 0 100 with
          | none =>
            rw [gq0d hn h1 h2 h3]
            exact fun h => Bool.noConfusion h
          | some w =>
            rw [gq0e hn h1 h2 h3]
            exact fun _ => ⟨ok_add ok (by omega) (nm_lt h1).2 (a := a) (by have := (nm_lt h2).2; omega) (w := w) (by have := (nm_lt h3).2; omega), Nat.le_succ n⟩
  · by_cases q1 : q = 1
    · subst q1
      cases h1 : nm c t (tE c t e) 0 n with
      | none =>
        rw [gq1a h1]
        exact fun h => Bool.noConfusion h
      | some x =>
        by_cases g : P 1 x = 5
        · rw [gq1b h1 g]
          exact fun h => Bool.noConfusion h
        · rw [gq1c h1 g]
          exact fun _ => ⟨ok_wr ok (nm_lt h1).2 (Or.inr rfl) (fun q => absurd q g), Nat.le_refl n⟩
    · by_cases q2 : q = 2
      · subst q2
        cases h1 : nm c t (tE c t e) 0 n with
        | none =>
          rw [gq2a h1]
          exact fun h => Bool.noConfusion h
        | some x =>
          rw [gq2b h1]
          exact fun _ => ⟨ok_wr ok (nm_lt h1).2 (Or.inl rfl) (fun _ => rfl), Nat.le_refl n⟩
      · by_cases q3 : q = 3
        · subst q3
          cases h1 : nm c t (tE c t e) 0 n with
          | none =>
            rw [gq3a h1]
            exact fun h => Bool.noConfusion h
          | some x =>
            cases h2 : nm c t (tE c t (tE c t e)) 0 100 with
            | none =>
              rw [gq3b h1 h2]
              exact fun h => Bool.noConfusion h
            | some w =>
              rw [gq3c h1 h2]
              exact fun _ => ⟨ok_w ok (i := x) (k := w) (by have := (nm_lt h2).2; omega), Nat.le_refl n⟩
        · by_cases q4 : q = 4
          · subst q4
            cases h1 : nm c t (tE c t e) 1 10 with
            | none =>
              rw [gq4a h1]
              exact fun h => Bool.noConfusion h
            | some v =>
              rw [gq4b h1]
              exact fun _ => ⟨ok_mi ok (nm_lt h1).1 (by have := (nm_lt h1).2; omega), Nat.le_refl n⟩
          · by_cases q5 : q = 5
            · subst q5
              cases h1 : nm c t (tE c t e) 0 13 with
              | none =>
                rw [gq5a h1]
                exact fun h => Bool.noConfusion h
              | some v =>
                rw [gq5b h1]
                exact fun _ => ⟨ok_ab ok (by have := (nm_lt h1).2; omega), Nat.le_refl n⟩
            · have q6 : q = 6 := by omega
              subst q6
              rw [gq6]
              exact fun h => Bool.noConfusion h
theorem tE_le (he : e ≤ t) : e ≤ tE c t e ∧ tE c t e ≤ t := by
  have a := tA_p (c := c) he
  have b := tE_p (c := c) he
  omega
theorem gq_e (he : e ≤ t) (q : Nat) (hq : q ≤ 6) : ((gq c t e n P q).1 = true → tE c t e ≤ (gq c t e n P q).2.1) ∧ (e ≤ (gq c t e n P q).2.1 ∧ (gq c t e n P q).2.1 ≤ t) := by
  have a1 := tE_le (c := c) he
  have a2 := tE_le (c := c) a1.2
  have a3 := tE_le (c := c) a2.2
  have a4 := tE_le (c := c) a3.2
  by_cases q0 : q = 0
  · subst q0
    by_cases hn : 8 ≤ n
    · rw [gq0a hn]
      exact ⟨fun h => Bool.noConfusion h, by dsimp only; omega, by dsimp only; omega⟩
    · cases h1 : nm c t (tE c t e) 0 6 with
      | none =>
        rw [gq0b hn h1]
        exact ⟨fun h => Bool.noConfusion h, by dsimp only; omega, by dsimp only; omega⟩
      | some k =>
        cases h2 : nm c t (tE c t (tE c t e)) 0 10 with
        | none =>
          rw [gq0c hn h1 h2]
          exact ⟨fun h => Bool.noConfusion h, by dsimp only; omega, by dsimp only; omega⟩
        | some a =>
          cases h3 : nm c t (tE c t (tE c t (tE c t e))) 0 100 with
          | none =>
            rw [gq0d hn h1 h2 h3]
            exact ⟨fun h => Bool.noConfusion h, by dsimp only; omega, by dsimp only; omega⟩
          | some w =>
            rw [gq0e hn h1 h2 h3]
            exact ⟨fun _ => by dsimp only; omega, by dsimp only; omega, by dsimp only; omega⟩
  · by_cases q1 : q = 1
    · subst q1
      cases h1 : nm c t (tE c t e) 0 n with
      | none =>
        rw [gq1a h1]
        exact ⟨fun h => Bool.noConfusion h, by dsimp only; omega, by dsimp only; omega⟩
      | some x =>
        by_cases g : P 1 x = 5
        · rw [gq1b h1 g]
          exact ⟨fun h => Bool.noConfusion h, by dsimp only; omega, by dsimp only; omega⟩
        · rw [gq1c h1 g]
          exact ⟨fun _ => by dsimp only; omega, by dsimp only; omega, by dsimp only; omega⟩
    · by_cases q2 : q = 2
      · subst q2
        cases h1 : nm c t (tE c t e) 0 n with
        | none =>
          rw [gq2a h1]
          exact ⟨fun h => Bool.noConfusion h, by dsimp only; omega, by dsimp only; omega⟩
        | some x =>
          rw [gq2b h1]
          exact ⟨fun _ => by dsimp only; omega, by dsimp only; omega, by dsimp only; omega⟩
      · by_cases q3 : q = 3
        · subst q3
          cases h1 : nm c t (tE c t e) 0 n with
          | none =>
            rw [gq3a h1]
            exact ⟨fun h => Bool.noConfusion h, by dsimp only; omega, by dsimp only; omega⟩
          | some x =>
            cases h2 : nm c t (tE c t (tE c t e)) 0 100 with
            | none =>
              rw [gq3b h1 h2]
              exact ⟨fun h => Bool.noConfusion h, by dsimp only; omega, by dsimp only; omega⟩
            | some w =>
              rw [gq3c h1 h2]
              exact ⟨fun _ => by dsimp only; omega, by dsimp only; omega, by dsimp only; omega⟩
        · by_cases q4 : q = 4
          · subst q4
            cases h1 : nm c t (tE c t e) 1 10 with
            | none =>
              rw [gq4a h1]
              exact ⟨fun h => Bool.noConfusion h, by dsimp only; omega, by dsimp only; omega⟩
            | some v =>
              rw [gq4b h1]
              exact ⟨fun _ => by dsimp only; omega, by dsimp only; omega, by dsimp only; omega⟩
          · by_cases q5 : q = 5
            · subst q5
              cases h1 : nm c t (tE c t e) 0 13 with
              | none =>
                rw [gq5a h1]
                exact ⟨fun h => Bool.noConfusion h, by dsimp only; omega, by dsimp only; omega⟩
              | some v =>
                rw [gq5b h1]
                exact ⟨fun _ => by dsimp only; omega, by dsimp only; omega, by dsimp only; omega⟩
            · have q6 : q = 6 := by omega
              subst q6
              rw [gq6]
              exact ⟨fun h => Bool.noConfusion h, by dsimp only; omega, by dsimp only; omega⟩
end
