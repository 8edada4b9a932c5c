/-! the words of the tables that the code needs -/
def iv_tbl : List Cond := lw_tbl.filter goodWord
theorem iv_inl (ws : List Cond) (ps : List Nat) (e : ws = ps.filterMap (fun i => lw_tbl[i]?)) (hg : ws.all goodWord = true) : ∀ w ∈ ws, w ∈ iv_tbl := by
  intro w hw
  have h1 := List.all_eq_true.mp hg w hw
  rw [e] at hw
  obtain ⟨i, -, hi⟩ := List.mem_filterMap.mp hw
  exact List.mem_filter.mpr ⟨List.mem_of_getElem? hi, h1⟩
theorem iv_tbl_good : ∀ w ∈ iv_tbl, (w.onTables && w.keeps) = true ∨ ∃ ty, w = .arrayClass ty := fun _ h => good_of_word (List.mem_filter.mp h).2
def iv_cr (k : Nat) : vw_C := vwCl.getD k (RX0, TX0, 4)
def iv_c (o : Nat) : String := iv_cn.getD o ""
def iv_q0 : iv_Q := (⟨"", "", ""⟩, ⟨#[]⟩, 0, none, 99, 0, [])
def iv_q (y : Nat) : iv_Q := iv_mt.getD y iv_q0
def iv_wf (q : Nat × Nat × Nat × Nat) : Cond := .fieldLink (iv_c q.1) q.2.1 (iv_cr q.2.2.1).1 ((iv_cr q.2.2.1).2.1 q.2.2.2).2.1 ((iv_cr q.2.2.1).2.1 q.2.2.2).2.2.1
set_option maxRecDepth 100000 in
theorem iv_fl_in : ∀ w ∈ iv_fls.map iv_wf, w ∈ iv_tbl := iv_inl _ iv_fli (by decide +kernel) (by decide +kernel)
def iv_wm (q : Nat × Nat × Nat) : Cond := .methodLink (iv_c q.1) q.2.1 (iv_q q.2.2).1
set_option maxRecDepth 100000 in
theorem iv_ml_in : ∀ w ∈ iv_mls.map iv_wm, w ∈ iv_tbl := iv_inl _ iv_mli (by decide +kernel) (by decide +kernel)
set_option maxRecDepth 100000 in
theorem iv_vl_in : ∀ w ∈ iv_vls.map (fun y => Cond.instanceMethod (iv_q y).1), w ∈ iv_tbl := iv_inl _ iv_vli (by decide +kernel) (by decide +kernel)
set_option maxRecDepth 100000 in
theorem iv_vs_in : ∀ w ∈ iv_vls.map (fun y => Cond.selects (iv_q y).1.cls (iv_q y).1 (iv_q y).1), w ∈ iv_tbl := iv_inl _ iv_vsi (by decide +kernel) (by decide +kernel)
set_option maxRecDepth 100000 in
theorem iv_sl_in : ∀ w ∈ iv_sls.map (fun y => Cond.static (iv_q y).1), w ∈ iv_tbl := iv_inl _ iv_sli (by decide +kernel) (by decide +kernel)
set_option maxRecDepth 100000 in
theorem iv_il_in : ∀ w ∈ iv_ils.map (fun y => Cond.instanceMethod (iv_q y).1), w ∈ iv_tbl := iv_inl _ iv_ili (by decide +kernel) (by decide +kernel)
set_option maxRecDepth 100000 in
theorem iv_ini_in : ∀ w ∈ iv_cn.map Cond.initialized, w ∈ iv_tbl := iv_inl _ iv_ini (by decide +kernel) (by decide +kernel)
def iv_wc (q : iv_Q) : Cond := .code q.1 q.2.1 q.2.2.1 q.2.2.2.1
set_option maxRecDepth 100000 in
theorem iv_cd_good : ((iv_mt.take 265).map iv_wc).all goodWord = true := by decide +kernel
def iv_csts : List (Nat × Nat × Int) := [(1, 104, 1103515245), (5, 274, 1103515245), (7, 265, 1431655765), (7, 266, 858993459), (7, 267, 252645135)]
def iv_clts : List (Nat × Nat × Int) := [(4, 315, 8), (6, 18, 4294967295)]
def iv_sts : List (Nat × Nat × Nat) := [(3, 32, 2), (3, 41, 3), (3, 46, 4), (3, 51, 5), (3, 56, 6), (3, 61, 7), (5, 145, 2), (5, 155, 6), (5, 157, 7), (5, 159, 3), (5, 161, 4), (5, 163, 5)]
theorem iv_cst_in : ∀ w ∈ iv_csts.map (fun q => Cond.constant (iv_c q.1) q.2.1 (Int32.ofInt q.2.2)), w ∈ iv_tbl := iv_inl _ [887, 1426, 723, 724, 725] (by decide +kernel) (by decide +kernel)
theorem iv_clt_in : ∀ w ∈ iv_clts.map (fun q => Cond.constantLong (iv_c q.1) q.2.1 (Int64.ofInt q.2.2)), w ∈ iv_tbl := iv_inl _ [859, 1443] (by decide +kernel) (by decide +kernel)
theorem iv_st_in : ∀ q ∈ iv_sts, ∃ tx, (iv_c q.1, q.2.1, tx, q.2.2) ∈ iv_strs := by
  have h : ∀ q ∈ iv_sts, (iv_strs.any fun z => decide (z.1 = iv_c q.1) && (decide (z.2.1 = q.2.1) && decide (z.2.2.2 = q.2.2))) = true := by decide +kernel
  intro q hq
  obtain ⟨z, hz, e⟩ := List.any_eq_true.mp (h q hq)
  simp only [Bool.and_eq_true, decide_eq_true_eq] at e
  obtain ⟨e1, e2, e3⟩ := e
  exact ⟨z.2.2.1, by rw [← e1, ← e2, ← e3]; exact hz⟩
def iv_cls : List (Nat × Nat × Nat) := [(4, 7, 1), (4, 22, 0), (4, 29, 3), (4, 36, 2), (6, 7, 4), (6, 10, 5)]
theorem iv_cl_in : ∀ w ∈ iv_cls.map (fun q => Cond.classLink (iv_c q.1) q.2.1 (iv_cr q.2.2).1), w ∈ iv_tbl := iv_inl _ [89, 143, 165, 189, 81, 904] (by decide +kernel) (by decide +kernel)
theorem iv_nw_in : ∀ w ∈ vwCl.map (fun r => Cond.instantiable r.1 r.2.2), w ∈ iv_tbl := iv_inl _ [144, 90, 191, 166, 82, 905] (by decide +kernel) (by decide +kernel)
def iv_obs : List (Nat × Nat) := [(0, 3), (1, 3), (2, 3), (3, 3), (4, 1), (5, 1)]
theorem iv_ob_in : ∀ w ∈ iv_obs.map (fun q => Cond.methodLink (iv_c q.1) q.2 Lib.objectInit), w ∈ iv_tbl := iv_inl _ [148, 94, 195, 170, 86, 909] (by decide +kernel) (by decide +kernel)
theorem iv_oi_in : ∀ w ∈ [Cond.instanceMethod Lib.objectInit, Cond.code Lib.objectInit ⟨#[0xb1]⟩ 1 none], w ∈ iv_tbl := iv_inl _ [87, 88] (by decide +kernel) (by decide +kernel)
theorem iv_ac_in : ∀ w ∈ [Cond.methodLink RX4 86 arraycopyName, Cond.native arraycopyName, Cond.static arraycopyName, Cond.initialized "java/lang/System", Cond.fieldLink RX4 306 RX4 "OVER" "[I", Cond.classLink RX4 36 RX2, Cond.classLink RX0 15 "[[I", Cond.arrayClass .int, Cond.arrayClass .long, Cond.arrayClass .boolean], w ∈ iv_tbl := iv_inl _ [296, 298, 297, 74, 329, 189, 149, 142, 209, 992] (by decide +kernel) (by decide +kernel)
theorem iv_u0_in : ∀ w ∈ u_ws RX0 TX0 4, w ∈ iv_tbl := iv_inl _ [156, 158, 160, 162] (by decide +kernel) (by decide +kernel)
theorem iv_u1_in : ∀ w ∈ u_ws RX1 TX1 10, w ∈ iv_tbl := iv_inl _ [121, 123, 125, 127, 129, 131, 133, 135, 137, 139] (by decide +kernel) (by decide +kernel)
theorem iv_u2_in : ∀ w ∈ u_ws RX2 TX2 3, w ∈ iv_tbl := iv_inl _ [202, 204, 206] (by decide +kernel) (by decide +kernel)
theorem iv_u3_in : ∀ w ∈ u_ws RX3 TX3 5, w ∈ iv_tbl := iv_inl _ [178, 180, 182, 184, 186] (by decide +kernel) (by decide +kernel)
theorem iv_u4_in : ∀ w ∈ u_ws RX4 TX4 8, w ∈ iv_tbl := iv_inl _ [218, 220, 222, 224, 226, 228, 230, 232] (by decide +kernel) (by decide +kernel)
theorem iv_u5_in : ∀ w ∈ u_ws RX5 TX5 27, w ∈ iv_tbl := iv_inl _ [937, 939, 941, 943, 945, 947, 949, 951, 953, 955, 957, 959, 961, 963, 965, 967, 969, 971, 973, 975, 977, 979, 981, 983, 985, 987, 989] (by decide +kernel) (by decide +kernel)
theorem iv_u_in : ∀ k, k < 6 → ∀ w ∈ u_ws (iv_cr k).1 (iv_cr k).2.1 (iv_cr k).2.2, w ∈ iv_tbl := by
  intro k hk
  match k, hk with
  | 0, _ => exact iv_u0_in
  | 1, _ => exact iv_u1_in
  | 2, _ => exact iv_u2_in
  | 3, _ => exact iv_u3_in
  | 4, _ => exact iv_u4_in
  | 5, _ => exact iv_u5_in
  | n + 6, h => omega
