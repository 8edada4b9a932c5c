/-! String.length and String.charAt of the constants, by hand -/
theorem iv_dl0 : decode prog_10_method_54_code 0 = .ok (.aload_n 0, 1) := by decide +kernel
theorem iv_dl1 : decode prog_10_method_54_code 1 = .ok (.getfield 9, 3) := by decide +kernel
theorem iv_dl4 : decode prog_10_method_54_code 4 = .ok (.arraylength, 1) := by decide +kernel
theorem iv_dl5 : decode prog_10_method_54_code 5 = .ok (.aload_n 0, 1) := by decide +kernel
theorem iv_dl6 : decode prog_10_method_54_code 6 = .ok (.invokevirtual 335, 3) := by decide +kernel
theorem iv_dl9 : decode prog_10_method_54_code 9 = .ok (.ishr, 1) := by decide +kernel
theorem iv_dl10 : decode prog_10_method_54_code 10 = .ok (.ireturn, 1) := by decide +kernel
theorem iv_dc0 : decode prog_10_method_56_code 0 = .ok (.aload_n 0, 1) := by decide +kernel
theorem iv_dc1 : decode prog_10_method_56_code 1 = .ok (.invokevirtual 492, 3) := by decide +kernel
theorem iv_dc4 : decode prog_10_method_56_code 4 = .ok (.ifCond .eq 12, 3) := by decide +kernel
theorem iv_dc7 : decode prog_10_method_56_code 7 = .ok (.aload_n 0, 1) := by decide +kernel
theorem iv_dc8 : decode prog_10_method_56_code 8 = .ok (.getfield 9, 3) := by decide +kernel
theorem iv_dc11 : decode prog_10_method_56_code 11 = .ok (.iload_n 1, 1) := by decide +kernel
theorem iv_dc12 : decode prog_10_method_56_code 12 = .ok (.invokestatic 495, 3) := by decide +kernel
theorem iv_dc15 : decode prog_10_method_56_code 15 = .ok (.ireturn, 1) := by decide +kernel
theorem iv_dc16 : decode prog_10_method_56_code 16 = .ok (.aload_n 0, 1) := by decide +kernel
theorem iv_dc17 : decode prog_10_method_56_code 17 = .ok (.getfield 9, 3) := by decide +kernel
theorem iv_dc20 : decode prog_10_method_56_code 20 = .ok (.iload_n 1, 1) := by decide +kernel
theorem iv_dc21 : decode prog_10_method_56_code 21 = .ok (.invokestatic 498, 3) := by decide +kernel
theorem iv_dc24 : decode prog_10_method_56_code 24 = .ok (.ireturn, 1) := by decide +kernel
theorem iv_do0 : decode prog_10_method_152_code 0 = .ok (.getstatic 38, 3) := by decide +kernel
theorem iv_do3 : decode prog_10_method_152_code 3 = .ok (.ifCond .eq 10, 3) := by decide +kernel
theorem iv_do6 : decode prog_10_method_152_code 6 = .ok (.aload_n 0, 1) := by decide +kernel
theorem iv_do7 : decode prog_10_method_152_code 7 = .ok (.getfield 15, 3) := by decide +kernel
theorem iv_do10 : decode prog_10_method_152_code 10 = .ok (.goto 4, 3) := by decide +kernel
theorem iv_do13 : decode prog_10_method_152_code 13 = .ok (.iconst 1, 1) := by decide +kernel
theorem iv_do14 : decode prog_10_method_152_code 14 = .ok (.ireturn, 1) := by decide +kernel
theorem iv_di0 : decode prog_10_method_154_code 0 = .ok (.getstatic 38, 3) := by decide +kernel
theorem iv_di3 : decode prog_10_method_154_code 3 = .ok (.ifCond .eq 14, 3) := by decide +kernel
theorem iv_di6 : decode prog_10_method_154_code 6 = .ok (.aload_n 0, 1) := by decide +kernel
theorem iv_di7 : decode prog_10_method_154_code 7 = .ok (.getfield 15, 3) := by decide +kernel
theorem iv_di10 : decode prog_10_method_154_code 10 = .ok (.ifCond .ne 7, 3) := by decide +kernel
theorem iv_di13 : decode prog_10_method_154_code 13 = .ok (.iconst 1, 1) := by decide +kernel
theorem iv_di14 : decode prog_10_method_154_code 14 = .ok (.goto 4, 3) := by decide +kernel
theorem iv_di17 : decode prog_10_method_154_code 17 = .ok (.iconst 0, 1) := by decide +kernel
theorem iv_di18 : decode prog_10_method_154_code 18 = .ok (.ireturn, 1) := by decide +kernel
theorem iv_dx0 : decode prog_10_method_155_code 0 = .ok (.iload_n 0, 1) := by decide +kernel
theorem iv_dx1 : decode prog_10_method_155_code 1 = .ok (.iload_n 1, 1) := by decide +kernel
theorem iv_dx2 : decode prog_10_method_155_code 2 = .ok (.getstatic 1053, 3) := by decide +kernel
theorem iv_dx5 : decode prog_10_method_155_code 5 = .ok (.invokestatic 1059, 3) := by decide +kernel
theorem iv_dx8 : decode prog_10_method_155_code 8 = .ok (.pop, 1) := by decide +kernel
theorem iv_dx9 : decode prog_10_method_155_code 9 = .ok (.return_, 1) := by decide +kernel
theorem iv_da0 : decode prog_11_method_2_code 0 = .ok (.iload_n 1, 1) := by decide +kernel
theorem iv_da1 : decode prog_11_method_2_code 1 = .ok (.aload_n 0, 1) := by decide +kernel
theorem iv_da2 : decode prog_11_method_2_code 2 = .ok (.arraylength, 1) := by decide +kernel
theorem iv_da3 : decode prog_11_method_2_code 3 = .ok (.invokestatic 9, 3) := by decide +kernel
theorem iv_da6 : decode prog_11_method_2_code 6 = .ok (.aload_n 0, 1) := by decide +kernel
theorem iv_da7 : decode prog_11_method_2_code 7 = .ok (.iload_n 1, 1) := by decide +kernel
theorem iv_da8 : decode prog_11_method_2_code 8 = .ok (.baload, 1) := by decide +kernel
theorem iv_da9 : decode prog_11_method_2_code 9 = .ok (.sipush 255, 3) := by decide +kernel
theorem iv_da12 : decode prog_11_method_2_code 12 = .ok (.iand, 1) := by decide +kernel
theorem iv_da13 : decode prog_11_method_2_code 13 = .ok (.i2c, 1) := by decide +kernel
theorem iv_da14 : decode prog_11_method_2_code 14 = .ok (.ireturn, 1) := by decide +kernel
theorem iv_dp0 : decode prog_14_method_11_code 0 = .ok (.iload_n 0, 1) := by decide +kernel
theorem iv_dp1 : decode prog_14_method_11_code 1 = .ok (.ifCond .lt 8, 3) := by decide +kernel
theorem iv_dp4 : decode prog_14_method_11_code 4 = .ok (.iload_n 0, 1) := by decide +kernel
theorem iv_dp5 : decode prog_14_method_11_code 5 = .ok (.iload_n 1, 1) := by decide +kernel
theorem iv_dp6 : decode prog_14_method_11_code 6 = .ok (.if_icmp .lt 10, 3) := by decide +kernel
theorem iv_dp9 : decode prog_14_method_11_code 9 = .ok (.aload_n 2, 1) := by decide +kernel
theorem iv_dp10 : decode prog_14_method_11_code 10 = .ok (.iload_n 0, 1) := by decide +kernel
theorem iv_dp11 : decode prog_14_method_11_code 11 = .ok (.iload_n 1, 1) := by decide +kernel
theorem iv_dp12 : decode prog_14_method_11_code 12 = .ok (.invokestatic 95, 3) := by decide +kernel
theorem iv_dp15 : decode prog_14_method_11_code 15 = .ok (.athrow, 1) := by decide +kernel
theorem iv_dp16 : decode prog_14_method_11_code 16 = .ok (.iload_n 0, 1) := by decide +kernel
theorem iv_dp17 : decode prog_14_method_11_code 17 = .ok (.ireturn, 1) := by decide +kernel
def iv_Ps (g : iv_G) (vs : List Value) (h : iv_H) : Array Value → State → Prop := fun a U => a = vs.toArray ∧ iv_V g U ∧ iv_Inv g h U.heap ∧ U.heap.size = g.2.2.1.size + (h.1 - 8)
def iv_Qs (g : iv_G) (rv : Option Value) (h : iv_H) : Array Value → State → Outcome → State → Prop := fun _ _ o t => o = .returned rv ∧ iv_Inv g h t.heap
theorem iv_Ps.blind (g : iv_G) (vs : List Value) (h : iv_H) : FrameBlind (iv_Ps g vs h) := by
  intro a U fr mk q
  obtain ⟨q1, q2, q3, q4⟩ := q
  exact ⟨q1, iv_V.warm (s := U) (U := U.calling fr mk a) (State.WarmedH.refl U) q2, q3, q4⟩
def iv_yl : MethodName := ⟨"java/lang/String", "length", "()I"⟩
def iv_yc : MethodName := ⟨"java/lang/String", "charAt", "(I)C"⟩
def iv_yo : MethodName := ⟨"java/lang/String", "coder", "()B"⟩
def iv_yi : MethodName := ⟨"java/lang/String", "isLatin1", "()Z"⟩
def iv_yx : MethodName := ⟨"java/lang/String", "checkIndex", "(II)V"⟩
def iv_y1 : MethodName := ⟨"java/lang/StringLatin1", "charAt", "([BI)C"⟩
def iv_yp : MethodName := ⟨"jdk/internal/util/Preconditions", "checkIndex", "(IILjava/util/function/BiFunction;)I"⟩
abbrev iv_wyl : Cond := .code iv_yl prog_10_method_54_code 1 (some .int)
theorem iv_wyl_in : iv_wyl ∈ iv_tbl := List.mem_filter.mpr ⟨List.mem_append_right _ (List.mem_append_right _ (List.mem_append_left _ (List.mem_of_getElem? (i := 109) rfl))), rfl⟩
abbrev iv_wyc : Cond := .code iv_yc prog_10_method_56_code 2 (some .char)
theorem iv_wyc_in : iv_wyc ∈ iv_tbl := List.mem_filter.mpr ⟨List.mem_append_right _ (List.mem_append_right _ (List.mem_append_left _ (List.mem_of_getElem? (i := 119) rfl))), rfl⟩
abbrev iv_wyo : Cond := .code iv_yo prog_10_method_152_code 1 (some .byte)
theorem iv_wyo_in : iv_wyo ∈ iv_tbl := List.mem_filter.mpr ⟨List.mem_append_right _ (List.mem_append_right _ (List.mem_append_left _ (List.mem_of_getElem? (i := 113) rfl))), rfl⟩
abbrev iv_wyi : Cond := .code iv_yi prog_10_method_154_code 1 (some .boolean)
theorem iv_wyi_in : iv_wyi ∈ iv_tbl := List.mem_filter.mpr ⟨List.mem_append_right _ (List.mem_append_right _ (List.mem_append_left _ (List.mem_of_getElem? (i := 123) rfl))), rfl⟩
abbrev iv_wyx : Cond := .code iv_yx prog_10_method_155_code 2 none
theorem iv_wyx_in : iv_wyx ∈ iv_tbl := List.mem_filter.mpr ⟨List.mem_append_right _ (List.mem_append_right _ (List.mem_append_left _ (List.mem_of_getElem? (i := 129) rfl))), rfl⟩
abbrev iv_wy1 : Cond := .code iv_y1 prog_11_method_2_code 2 (some .char)
theorem iv_wy1_in : iv_wy1 ∈ iv_tbl := List.mem_filter.mpr ⟨List.mem_append_right _ (List.mem_append_right _ (List.mem_append_left _ (List.mem_of_getElem? (i := 126) rfl))), rfl⟩
abbrev iv_wyp : Cond := .code iv_yp prog_14_method_11_code 3 (some .int)
theorem iv_wyp_in : iv_wyp ∈ iv_tbl := List.mem_filter.mpr ⟨List.mem_append_right _ (List.mem_append_right _ (List.mem_append_left _ (List.mem_of_getElem? (i := 134) rfl))), rfl⟩
def iv_sws : List Cond := [Cond.fieldLink "java/lang/String" 38 "java/lang/String" "COMPACT_STRINGS" "Z", Cond.fieldLink "java/lang/String" 15 "java/lang/String" "coder" "B", Cond.fieldLink "java/lang/String" 9 "java/lang/String" "value" "[B", Cond.fieldLink "java/lang/String" 1053 "jdk/internal/util/Preconditions" "SIOOBE_FORMATTER" "Ljava/util/function/BiFunction;", Cond.methodLink "java/lang/String" 335 iv_yo, Cond.instanceMethod iv_yo, Cond.selects "java/lang/String" iv_yo iv_yo, Cond.initialized "java/lang/String", Cond.methodLink "java/lang/String" 492 iv_yi, Cond.instanceMethod iv_yi, Cond.selects "java/lang/String" iv_yi iv_yi, Cond.methodLink "java/lang/String" 495 iv_y1, Cond.static iv_y1, Cond.initialized "java/lang/StringLatin1", Cond.methodLink "java/lang/StringLatin1" 9 iv_yx, Cond.static iv_yx, Cond.methodLink "java/lang/String" 1059 iv_yp, Cond.static iv_yp, Cond.initialized "jdk/internal/util/Preconditions", Cond.instanceMethod iv_yl, Cond.selects "java/lang/String" iv_yl iv_yl, Cond.instanceMethod iv_yc, Cond.selects "java/lang/String" iv_yc iv_yc, Cond.methodLink RX3 107 iv_yl, Cond.methodLink RX5 130 iv_yl, Cond.methodLink RX3 112 iv_yc, Cond.methodLink RX5 135 iv_yc]
set_option maxRecDepth 100000 in
theorem iv_sws_in : ∀ w ∈ iv_sws, w ∈ iv_tbl := iv_inl _ [421, 1445, 1444, 437, 417, 418, 419, 75, 427, 428, 429, 431, 432, 76, 434, 435, 439, 440, 77, 414, 415, 424, 425, 413, 1111, 423, 1112] (by decide +kernel) (by decide +kernel)
theorem iv_vaS {g : iv_G} {h : iv_H} {H : Heap} {locs : List Loc} {s : State} (hI : iv_Inv g h H) (hsz : s.heap.size = g.2.2.1.size + (h.1 - 8)) (hsh : ∀ q, q < g.2.2.1.size → s.heap[q]? = g.2.2.1[q]?) (hl : ∀ q ∈ locs, iv_new g q.base) : va_S (iv_new g) s.heap H locs := by
  obtain ⟨⟨a1, a2, a3⟩, b, -⟩ := hI
  refine ⟨by omega, fun q h1 h2 => ?_, hl⟩
  unfold iv_new at h2
  rw [b q (by omega), hsh q (by omega)]
section IVS
variable {p : Program} {l : Launch} {e : Env} {R : Room} {s : State} {m : MethodId} {args : Array Value} {below : List Frame} {meth : Method} {c : Code} {H : Heap} {locs : List Loc} {Q : State → Prop} {g : iv_G} {h : iv_H}
/-- behind a call that makes nothing -/
theorem iv_backS {pc : Nat} {ls : Array Slot} {st0 rest : List Value} {rv : Option Value} {as : Array Value} (hl : ∀ q ∈ locs, iv_new g q.base)
    (hr : va_Run p l e R s m args below meth c H locs 0 0 0 0 (F0 m pc ls st0) rest (iv_Qs g rv h as) (iv_new g))
    (kk : ∀ (H1 : Heap) (locs1 : List Loc), iv_Inv g h H1 → (∀ q ∈ locs1, iv_new g q.base) → W p l e R s m args below meth c H1 locs1 0 0 Q (F0 m (pc + 3) ls (rv.toList ++ rest))) : W p l e R s m args below meth c H locs 0 0 Q (F0 m pc ls st0) := by
  intro T hT X
  obtain ⟨v, st₀, t, T', L, -, X', hL2, e1, -, ⟨hv, hI2⟩, hgo⟩ := hr T hT X
  have hv2 : v = rv := Outcome.returned.inj hv
  subst hv2
  obtain ⟨t2, a1, b1⟩ := kk t.heap (locs ++ L) hI2 (fun q hq => (List.mem_append.mp hq).elim (hl q) (hL2 q)) T' e1 X'
  exact ⟨t2, hgo t2 a1, b1⟩
theorem iv_preS {vs : List Value} (hV : iv_V g s) (hI : iv_Inv g h H) (hz : H.size = g.2.2.1.size + (h.1 - 8)) : ∀ U : State, U.heap = H → s.WarmedH U.vm → iv_Ps g vs h vs.toArray U := by
  intro U hU hW
  exact ⟨rfl, iv_V.warm hW hV, by rw [hU]; exact hI, by rw [hU]; exact hz⟩
theorem iv_sizeS {fr : JFrame} (hsz : s.heap.size = g.2.2.1.size + (h.1 - 8)) (hI : iv_Inv g h H) (k : H.size = g.2.2.1.size + (h.1 - 8) → W p l e R s m args below meth c H locs 0 0 Q fr) : W p l e R s m args below meth c H locs 0 0 Q fr := by
  intro T hT X
  have h1 := X.heapSize
  rw [hT] at h1
  obtain ⟨⟨a1, a2, a3⟩, -⟩ := hI
  exact k (by omega) T hT X
end IVS
theorem iv_wsg {w0 : Cond} (hw : w0 ∈ iv_tbl) {Ts : List Cond} (hT : ∀ w ∈ iv_tbl, w ∈ Ts) : GoodIn Ts (w0 :: iv_tbl) := by
  intro w hw2
  have h : w ∈ iv_tbl := by
    rcases List.mem_cons.mp hw2 with rfl | h
    · exact hw
    · exact h
  exact ⟨hT w h, iv_tbl_good w h⟩
theorem iv_good_app0 {Ts a b : List Cond} (hT : ∀ w ∈ iv_tbl, w ∈ Ts) (ha : ∀ w ∈ a, w ∈ iv_tbl) (hb : GoodIn Ts b) : GoodIn Ts (a ++ b) := by
  intro w hw
  rcases List.mem_append.mp hw with h | h
  · exact ⟨hT w (ha w h), iv_tbl_good w (ha w h)⟩
  · exact hb w h
theorem iv_mp (g : iv_G) (l : Launch) (h : iv_H) (d : Nat) (i n : Nat) (hin : i < n) (hn : n < 2 ^ 31) (f : Nat) : Met l iv_yp (iv_wyp :: iv_tbl) (iv_rm d 0 0) (iv_Ps g [.int (nI i), .int (nI n), .ref f] h) (iv_Qs g (some (.int (nI i))) h) 0 0 (iv_new g) := by
  refine va_MetF (cc := prog_14_method_11_code) (maxL := 3) (ret := (some .int)) (by decide +kernel) rfl ?_
  intro p e s m args below meth c s₁ B hml hv
  obtain ⟨rfl, hV, hI, hsz⟩ := hv
  have hx := B.exec
  have hb := B.bytes
  have hr := B.returns
  have hlocks := B.notSynchronized
  have hts := atoms_spec (ws := iv_wyp :: iv_tbl) B.pre
  have hT : ∀ w ∈ iv_tbl, w.before [.int (nI i), .int (nI n), .ref f].toArray s = true := fun w hw => hts w (List.mem_cons_of_mem _ hw)
  have hT2 : ∀ w ∈ iv_tbl, w ∈ (iv_wyp :: iv_tbl) := fun w hw => List.mem_cons_of_mem _ hw
  have hown : s.vm.findClass "jdk/internal/util/Preconditions" = some m.cls := findClass_of_methodNamed B.named
  have hl := lv_entry ([.int (nI i), .int (nI n), .ref f]) (n := 3) (Nat.le_of_ble_eq_true rfl)
  rw [lg_entry_eq]
  generalize (lg_sl ([.int (nI i), .int (nI n), .ref f]) ++ List.replicate (3 - (lg_sl ([.int (nI i), .int (nI n), .ref f])).length) Slot.unset).toArray = ls at hl ⊢
  have hsh : ∀ q, q < g.2.2.1.size → s.heap[q]? = g.2.2.1[q]? := hI.2.1
  have hl0 : ∀ q ∈ ([] : List Loc), iv_new g q.base := fun q hq => by cases hq
  have hS := iv_vaS (locs := []) hI hsz hsh hl0
  have hl : lv_has ls 3 [(0, .int (nI i)), (1, .int (nI n)), (2, .ref f)] := hl
  refine lv_iload_n hx hb iv_dp0 rfl (lv_at hl 0 rfl) ?_
  refine lv_if_lt (tgt := 9) hx hb iv_dp1 rfl (fun z => absurd z (nI_pos (by omega))) (fun _ => ?_)
  refine lv_iload_n hx hb iv_dp4 rfl (lv_at hl 0 rfl) ?_
  refine lv_iload_n hx hb iv_dp5 rfl (lv_at hl 1 rfl) ?_
  refine lv_icmp_lt (tgt := 16) hx hb iv_dp6 rfl (fun _ => ?_) (fun z => absurd (nI_lt hin hn) z)
  refine lv_iload_n hx hb iv_dp16 rfl (lv_at hl 0 rfl) ?_
  exact W.iret hx hb hr (fun t ht _ => ⟨rfl, by rw [ht]; exact hI⟩) hl0 iv_dp17 hlocks
theorem iv_mp0 (g : iv_G) (l : Launch) (h : iv_H) (d : Nat) (i n : Nat) (hin : i < n) (hn : n < 2 ^ 31) : Met l iv_yp (iv_wyp :: iv_tbl) (iv_rm d 0 0) (iv_Ps g [.int (nI i), .int (nI n), .null] h) (iv_Qs g (some (.int (nI i))) h) 0 0 (iv_new g) := by
  refine va_MetF (cc := prog_14_method_11_code) (maxL := 3) (ret := (some .int)) (by decide +kernel) rfl ?_
  intro p e s m args below meth c s₁ B hml hv
  obtain ⟨rfl, hV, hI, hsz⟩ := hv
  have hx := B.exec
  have hb := B.bytes
  have hr := B.returns
  have hlocks := B.notSynchronized
  have hts := atoms_spec (ws := iv_wyp :: iv_tbl) B.pre
  have hT : ∀ w ∈ iv_tbl, w.before [.int (nI i), .int (nI n), .null].toArray s = true := fun w hw => hts w (List.mem_cons_of_mem _ hw)
  have hT2 : ∀ w ∈ iv_tbl, w ∈ (iv_wyp :: iv_tbl) := fun w hw => List.mem_cons_of_mem _ hw
  have hown : s.vm.findClass "jdk/internal/util/Preconditions" = some m.cls := findClass_of_methodNamed B.named
  have hl := lv_entry ([.int (nI i), .int (nI n), .null]) (n := 3) (Nat.le_of_ble_eq_true rfl)
  rw [lg_entry_eq]
  generalize (lg_sl ([.int (nI i), .int (nI n), .null]) ++ List.replicate (3 - (lg_sl ([.int (nI i), .int (nI n), .null])).length) Slot.unset).toArray = ls at hl ⊢
  have hsh : ∀ q, q < g.2.2.1.size → s.heap[q]? = g.2.2.1[q]? := hI.2.1
  have hl0 : ∀ q ∈ ([] : List Loc), iv_new g q.base := fun q hq => by cases hq
  have hS := iv_vaS (locs := []) hI hsz hsh hl0
  have hl : lv_has ls 3 [(0, .int (nI i)), (1, .int (nI n)), (2, .null)] := hl
  refine lv_iload_n hx hb iv_dp0 rfl (lv_at hl 0 rfl) ?_
  refine lv_if_lt (tgt := 9) hx hb iv_dp1 rfl (fun z => absurd z (nI_pos (by omega))) (fun _ => ?_)
  refine lv_iload_n hx hb iv_dp4 rfl (lv_at hl 0 rfl) ?_
  refine lv_iload_n hx hb iv_dp5 rfl (lv_at hl 1 rfl) ?_
  refine lv_icmp_lt (tgt := 16) hx hb iv_dp6 rfl (fun _ => ?_) (fun z => absurd (nI_lt hin hn) z)
  refine lv_iload_n hx hb iv_dp16 rfl (lv_at hl 0 rfl) ?_
  exact W.iret hx hb hr (fun t ht _ => ⟨rfl, by rw [ht]; exact hI⟩) hl0 iv_dp17 hlocks
theorem iv_mx (g : iv_G) (l : Launch) (h : iv_H) (d : Nat) (i n : Nat) (hin : i < n) (hn : n < 2 ^ 31) : Met l iv_yx (iv_wyx :: iv_tbl) (iv_rm (d + 1) 0 0) (iv_Ps g [.int (nI i), .int (nI n)] h) (iv_Qs g none h) 0 0 (iv_new g) := by
  refine va_MetF (cc := prog_10_method_155_code) (maxL := 2) (ret := none) (by decide +kernel) rfl ?_
  intro p e s m args below meth c s₁ B hml hv
  obtain ⟨rfl, hV, hI, hsz⟩ := hv
  have hx := B.exec
  have hb := B.bytes
  have hr := B.returns
  have hlocks := B.notSynchronized
  have hts := atoms_spec (ws := iv_wyx :: iv_tbl) B.pre
  have hT : ∀ w ∈ iv_tbl, w.before [.int (nI i), .int (nI n)].toArray s = true := fun w hw => hts w (List.mem_cons_of_mem _ hw)
  have hT2 : ∀ w ∈ iv_tbl, w ∈ (iv_wyx :: iv_tbl) := fun w hw => List.mem_cons_of_mem _ hw
  have hown : s.vm.findClass "java/lang/String" = some m.cls := findClass_of_methodNamed B.named
  have hl := lv_entry ([.int (nI i), .int (nI n)]) (n := 2) (Nat.le_of_ble_eq_true rfl)
  rw [lg_entry_eq]
  generalize (lg_sl ([.int (nI i), .int (nI n)]) ++ List.replicate (2 - (lg_sl ([.int (nI i), .int (nI n)])).length) Slot.unset).toArray = ls at hl ⊢
  have hsh : ∀ q, q < g.2.2.1.size → s.heap[q]? = g.2.2.1[q]? := hI.2.1
  have hl0 : ∀ q ∈ ([] : List Loc), iv_new g q.base := fun q hq => by cases hq
  have hS := iv_vaS (locs := []) hI hsz hsh hl0
  have hl : lv_has ls 2 [(0, .int (nI i)), (1, .int (nI n))] := hl
  refine lv_iload_n hx hb iv_dx0 rfl (lv_at hl 0 rfl) ?_
  refine lv_iload_n hx hb iv_dx1 rfl (lv_at hl 1 rfl) ?_
  obtain ⟨-, -, -, -, -, -, -, hZ⟩ := id hV
  rcases hZ with hZ | ⟨f, hZ⟩
  · refine va_gets (v := .null) hx hb (hZ.kept (fun q h1 _ => hsh q h1)) hS hown (hT _ (iv_sws_in _ (List.mem_of_getElem? (i := 3) rfl))) (fun _ z => z) iv_dx2 ?_
    refine iv_sizeS hsz hI (fun hz => ?_)
    refine iv_backS (rv := some (.int (nI i))) (as := ([.int (nI i), .int (nI n), .null] : List Value).toArray) (rest := []) hl0 (va_runS (As := [.int (nI i), .int (nI n), .null]) ⟨hx, hb, hml, hown, hts⟩ (iv_mp0 g l h d i n hin hn) (va_cwS 3 hts (iv_good_app0 hT2 (fun w hw => by
        simp only [List.mem_cons, List.not_mem_nil, or_false] at hw
        rcases hw with rfl | rfl | rfl
        · exact iv_sws_in _ (List.mem_of_getElem? (i := 16) rfl)
        · exact iv_sws_in _ (List.mem_of_getElem? (i := 17) rfl)
        · exact iv_sws_in _ (List.mem_of_getElem? (i := 18) rfl)) (iv_wsg iv_wyp_in hT2)) rfl rfl rfl (by decide +kernel) ⟨by show d + 1 + 1 ≤ d + 1 + 1; omega, by show 8 + (3 + 11) + 200 * (d + 1) ≤ 200 * (d + 1 + 1); omega⟩) ⟨iv_Ps.blind g _ h, iv_preS hV hI hz⟩ rfl rfl hl.1 rfl (lv_room (Nat.le_of_ble_eq_true rfl)) iv_dx5 ⟨Nat.zero_le _, Nat.zero_le _⟩) (fun H1 locs1 hI hl1 => ?_)
    refine lv_pop hx hb iv_dx8 rfl ?_
    exact W.vret hx hb hr (fun t ht _ => ⟨rfl, by rw [ht]; exact hI⟩) hl1 iv_dx9 hlocks
  · refine va_gets (v := .ref f) hx hb (hZ.kept (fun q h1 _ => hsh q h1)) hS hown (hT _ (iv_sws_in _ (List.mem_of_getElem? (i := 3) rfl))) (fun _ z => z) iv_dx2 ?_
    refine iv_sizeS hsz hI (fun hz => ?_)
    refine iv_backS (rv := some (.int (nI i))) (as := ([.int (nI i), .int (nI n), .ref f] : List Value).toArray) (rest := []) hl0 (va_runS (As := [.int (nI i), .int (nI n), .ref f]) ⟨hx, hb, hml, hown, hts⟩ (iv_mp g l h d i n hin hn f) (va_cwS 3 hts (iv_good_app0 hT2 (fun w hw => by
        simp only [List.mem_cons, List.not_mem_nil, or_false] at hw
        rcases hw with rfl | rfl | rfl
        · exact iv_sws_in _ (List.mem_of_getElem? (i := 16) rfl)
        · exact iv_sws_in _ (List.mem_of_getElem? (i := 17) rfl)
        · exact iv_sws_in _ (List.mem_of_getElem? (i := 18) rfl)) (iv_wsg iv_wyp_in hT2)) rfl rfl rfl (by decide +kernel) ⟨by show d + 1 + 1 ≤ d + 1 + 1; omega, by show 8 + (3 + 11) + 200 * (d + 1) ≤ 200 * (d + 1 + 1); omega⟩) ⟨iv_Ps.blind g _ h, iv_preS hV hI hz⟩ rfl rfl hl.1 rfl (lv_room (Nat.le_of_ble_eq_true rfl)) iv_dx5 ⟨Nat.zero_le _, Nat.zero_le _⟩) (fun H1 locs1 hI hl1 => ?_)
    refine lv_pop hx hb iv_dx8 rfl ?_
    exact W.vret hx hb hr (fun t ht _ => ⟨rfl, by rw [ht]; exact hI⟩) hl1 iv_dx9 hlocks
def iv_Pt (g : iv_G) (vs : List Value) (h : iv_H) (av n : Nat) (f : Nat → Int32) : Array Value → State → Prop := fun a U => iv_Ps g vs h a U ∧ va_T .byte av n (fun j => .int (f j)) (iv_new g) U g.2.2.1
theorem iv_Pt.blind (g : iv_G) (vs : List Value) (h : iv_H) (av n : Nat) (f : Nat → Int32) : FrameBlind (iv_Pt g vs h av n f) := by
  intro a U fr mk q
  exact ⟨iv_Ps.blind g vs h a U fr mk q.1, va_T.moved (u := U) (U := U.calling fr mk a) (Vm.Alike.refl U.vm) q.2⟩
theorem iv_ma (g : iv_G) (l : Launch) (h : iv_H) (d : Nat) (av i n : Nat) (f : Nat → Int32) (hin : i < n) (hn : n < 2 ^ 31) (hf1 : ((f i &&& 255).toUInt32 % 65536).toInt32 = f i) (hf2 : narrow .char (.int (f i)) = .int (f i)) : Met l iv_y1 (iv_wy1 :: iv_tbl) (iv_rm (d + 2) 0 0) (iv_Pt g [.ref av, .int (nI i)] h av n f) (iv_Qs g (some (.int (f i))) h) 0 0 (iv_new g) := by
  refine va_MetF (cc := prog_11_method_2_code) (maxL := 2) (ret := (some .char)) (by decide +kernel) rfl ?_
  intro p e s m args below meth c s₁ B hml hv
  obtain ⟨⟨rfl, hV, hI, hsz⟩, hTb⟩ := hv
  have hx := B.exec
  have hb := B.bytes
  have hr := B.returns
  have hlocks := B.notSynchronized
  have hts := atoms_spec (ws := iv_wy1 :: iv_tbl) B.pre
  have hT2 : ∀ w ∈ iv_tbl, w ∈ (iv_wy1 :: iv_tbl) := fun w hw => List.mem_cons_of_mem _ hw
  have hown : s.vm.findClass "java/lang/StringLatin1" = some m.cls := findClass_of_methodNamed B.named
  have hl := lv_entry ([.ref av, .int (nI i)]) (n := 2) (Nat.le_of_ble_eq_true rfl)
  rw [lg_entry_eq]
  generalize (lg_sl ([.ref av, .int (nI i)]) ++ List.replicate (2 - (lg_sl ([.ref av, .int (nI i)])).length) Slot.unset).toArray = ls at hl ⊢
  have hl0 : ∀ q ∈ ([] : List Loc), iv_new g q.base := fun q hq => by cases hq
  have hl : lv_has ls 2 [(0, .ref av), (1, .int (nI i))] := hl
  obtain ⟨cell, t1, t2, t3, t4, t5, t6, t7⟩ := hTb
  have hcell : ∀ H1 : Heap, iv_Inv g h H1 → H1[av]? = some cell := fun H1 hI1 => by rw [hI1.2.1 _ (Array.getElem?_eq_some_iff.mp t1).1]; exact t1
  refine lv_iload_n hx hb iv_da0 rfl (lv_at hl 1 rfl) ?_
  refine lv_aload_n hx hb iv_da1 rfl (lv_at hl 0 rfl) ?_
  refine W.alen (n := nI n) hx hb (hcell _ hI) t2 t5 rfl rfl iv_da2 ?_
  refine W.eq (g2 := F0 m 3 ls [.int (nI n), .int (nI i)]) rfl ?_
  refine iv_sizeS hsz hI (fun hz => ?_)
  refine iv_backS (rv := none) (as := ([.int (nI i), .int (nI n)] : List Value).toArray) (rest := []) hl0 (va_runS (As := [.int (nI i), .int (nI n)]) ⟨hx, hb, hml, hown, hts⟩ (iv_mx g l h d i n hin hn) (va_cwS 2 hts (iv_good_app0 hT2 (fun w hw => by
      simp only [List.mem_cons, List.not_mem_nil, or_false] at hw
      rcases hw with rfl | rfl | rfl
      · exact iv_sws_in _ (List.mem_of_getElem? (i := 14) rfl)
      · exact iv_sws_in _ (List.mem_of_getElem? (i := 15) rfl)
      · exact iv_sws_in _ (List.mem_of_getElem? (i := 7) rfl)) (iv_wsg iv_wyx_in hT2)) rfl rfl rfl (by decide +kernel) ⟨by show d + 1 + 1 + 1 ≤ d + 2 + 1; omega, by show 8 + (2 + 11) + 200 * (d + 1 + 1) ≤ 200 * (d + 2 + 1); omega⟩) ⟨iv_Ps.blind g _ h, iv_preS hV hI hz⟩ rfl rfl hl.1 rfl (lv_room (Nat.le_of_ble_eq_true rfl)) iv_da3 ⟨Nat.zero_le _, Nat.zero_le _⟩) (fun H1 locs1 hI hl1 => ?_)
  refine lv_aload_n hx hb iv_da6 rfl (lv_at hl 0 rfl) ?_
  refine lv_iload_n hx hb iv_da7 rfl (lv_at hl 1 rfl) ?_
  refine W.bald (v := .int (f i)) hx hb (hcell _ hI) t2 t3 (fun z => ?_) (by rw [nI_clamp (by omega)]; exact t6 i hin) rfl rfl iv_da8 ?_
  · rcases z with z | z
    · exact nI_pos (by omega) z
    · rw [nI_clamp (by omega)] at z
      omega
  refine W.eq (g2 := F0 m 9 ls [.int (f i)]) rfl ?_
  refine lv_sipush (v := 255) hx hb iv_da9 (by decide +kernel) ?_
  refine lv_iand hx hb iv_da12 ?_
  refine lv_i2c (v := f i) hx hb iv_da13 hf1 ?_
  exact W.zret (ty := .char) hx hb hr hf2 (fun t ht _ => ⟨rfl, by rw [ht]; exact hI⟩) hl1 iv_da14 hlocks
theorem iv_mi (g : iv_G) (l : Launch) (h : iv_H) (d : Nat) (j : Nat) (hj : j < 6) : Met l iv_yi (iv_wyi :: iv_tbl) (iv_rm d 0 0) (iv_Ps g [.ref (iv_a g (j + 2))] h) (iv_Qs g (some (.int 1)) h) 0 0 (iv_new g) := by
  refine va_MetF (cc := prog_10_method_154_code) (maxL := 1) (ret := (some .boolean)) (by decide +kernel) rfl ?_
  intro p e s m args below meth c s₁ B hml hv
  obtain ⟨rfl, hV, hI, hsz⟩ := hv
  have hx := B.exec
  have hb := B.bytes
  have hr := B.returns
  have hlocks := B.notSynchronized
  have hts := atoms_spec (ws := iv_wyi :: iv_tbl) B.pre
  have hT : ∀ w ∈ iv_tbl, w.before [.ref (iv_a g (j + 2))].toArray s = true := fun w hw => hts w (List.mem_cons_of_mem _ hw)
  have hT2 : ∀ w ∈ iv_tbl, w ∈ (iv_wyi :: iv_tbl) := fun w hw => List.mem_cons_of_mem _ hw
  have hown : s.vm.findClass "java/lang/String" = some m.cls := findClass_of_methodNamed B.named
  have hl := lv_entry ([.ref (iv_a g (j + 2))]) (n := 1) (Nat.le_of_ble_eq_true rfl)
  rw [lg_entry_eq]
  generalize (lg_sl ([.ref (iv_a g (j + 2))]) ++ List.replicate (1 - (lg_sl ([.ref (iv_a g (j + 2))])).length) Slot.unset).toArray = ls at hl ⊢
  have hsh : ∀ q, q < g.2.2.1.size → s.heap[q]? = g.2.2.1[q]? := hI.2.1
  have hl0 : ∀ q ∈ ([] : List Loc), iv_new g q.base := fun q hq => by cases hq
  have hS := iv_vaS (locs := []) hI hsz hsh hl0
  have hl : lv_has ls 1 [(0, .ref (iv_a g (j + 2)))] := hl
  obtain ⟨-, -, -, -, -, ⟨hZ, adV, hSS⟩, -⟩ := id hV
  obtain ⟨s1, s2, s3, s4⟩ := hSS.1 j hj
  refine va_gets (v := .int 1) hx hb (hZ.kept (fun q h1 _ => hsh q h1)) hS hown (hT _ (iv_sws_in _ (List.mem_of_getElem? (i := 0) rfl))) (fun _ z => z) iv_di0 ?_
  refine lv_if_eq (tgt := 17) hx hb iv_di3 rfl (fun z => absurd z (by decide)) (fun _ => ?_)
  refine lv_aload_n hx hb iv_di6 rfl (lv_at hl 0 rfl) ?_
  refine vk_getf (v := .int 0) hx hb (s2.kept (fun q h1 _ => hsh q h1)) hS hown (hT _ (iv_sws_in _ (List.mem_of_getElem? (i := 1) rfl))) (fun _ z => z) iv_di7 ?_
  refine lv_if_ne (tgt := 17) hx hb iv_di10 rfl (fun z => absurd rfl z) (fun _ => ?_)
  refine lv_iconst (v := 1) hx hb iv_di13 (by decide) ?_
  refine lv_goto (tgt := 18) hx hb iv_di14 rfl ?_
  exact W.zret (ty := .boolean) hx hb hr (by decide +kernel) (fun t ht _ => ⟨rfl, by rw [ht]; exact hI⟩) hl0 iv_di18 hlocks
theorem iv_mo1 (g : iv_G) (l : Launch) (h : iv_H) (d : Nat) (j : Nat) (hj : j < 6) : Met l iv_yo (iv_wyo :: iv_tbl) (iv_rm d 0 0) (iv_Ps g [.ref (iv_a g (j + 2))] h) (iv_Qs g (some (.int 0)) h) 0 0 (iv_new g) := by
  refine va_MetF (cc := prog_10_method_152_code) (maxL := 1) (ret := (some .byte)) (by decide +kernel) rfl ?_
  intro p e s m args below meth c s₁ B hml hv
  obtain ⟨rfl, hV, hI, hsz⟩ := hv
  have hx := B.exec
  have hb := B.bytes
  have hr := B.returns
  have hlocks := B.notSynchronized
  have hts := atoms_spec (ws := iv_wyo :: iv_tbl) B.pre
  have hT : ∀ w ∈ iv_tbl, w.before [.ref (iv_a g (j + 2))].toArray s = true := fun w hw => hts w (List.mem_cons_of_mem _ hw)
  have hT2 : ∀ w ∈ iv_tbl, w ∈ (iv_wyo :: iv_tbl) := fun w hw => List.mem_cons_of_mem _ hw
  have hown : s.vm.findClass "java/lang/String" = some m.cls := findClass_of_methodNamed B.named
  have hl := lv_entry ([.ref (iv_a g (j + 2))]) (n := 1) (Nat.le_of_ble_eq_true rfl)
  rw [lg_entry_eq]
  generalize (lg_sl ([.ref (iv_a g (j + 2))]) ++ List.replicate (1 - (lg_sl ([.ref (iv_a g (j + 2))])).length) Slot.unset).toArray = ls at hl ⊢
  have hsh : ∀ q, q < g.2.2.1.size → s.heap[q]? = g.2.2.1[q]? := hI.2.1
  have hl0 : ∀ q ∈ ([] : List Loc), iv_new g q.base := fun q hq => by cases hq
  have hS := iv_vaS (locs := []) hI hsz hsh hl0
  have hl : lv_has ls 1 [(0, .ref (iv_a g (j + 2)))] := hl
  obtain ⟨-, -, -, -, -, ⟨hZ, adV, hSS⟩, -⟩ := id hV
  obtain ⟨s1, s2, s3, s4⟩ := hSS.1 j hj
  refine va_gets (v := .int 1) hx hb (hZ.kept (fun q h1 _ => hsh q h1)) hS hown (hT _ (iv_sws_in _ (List.mem_of_getElem? (i := 0) rfl))) (fun _ z => z) iv_do0 ?_
  refine lv_if_eq (tgt := 13) hx hb iv_do3 rfl (fun z => absurd z (by decide)) (fun _ => ?_)
  refine lv_aload_n hx hb iv_do6 rfl (lv_at hl 0 rfl) ?_
  refine vk_getf (v := .int 0) hx hb (s2.kept (fun q h1 _ => hsh q h1)) hS hown (hT _ (iv_sws_in _ (List.mem_of_getElem? (i := 1) rfl))) (fun _ z => z) iv_do7 ?_
  refine lv_goto (tgt := 14) hx hb iv_do10 rfl ?_
  exact W.zret (ty := .byte) hx hb hr (by decide +kernel) (fun t ht _ => ⟨rfl, by rw [ht]; exact hI⟩) hl0 iv_do14 hlocks
theorem iv_ml1 (g : iv_G) (l : Launch) (h : iv_H) (d : Nat) (j : Nat) (hj : j < 6) : Met l iv_yl (iv_wyl :: iv_tbl) (iv_rm (d + 1) 0 0) (iv_Ps g [.ref (iv_a g (j + 2))] h) (iv_Qs g (some (.int (nI ([6, 5, 5, 5, 7, 6].getD j 0)))) h) 0 0 (iv_new g) := by
  refine va_MetF (cc := prog_10_method_54_code) (maxL := 1) (ret := (some .int)) (by decide +kernel) rfl ?_
  intro p e s m args below meth c s₁ B hml hv
  obtain ⟨rfl, hV, hI, hsz⟩ := hv
  have hx := B.exec
  have hb := B.bytes
  have hr := B.returns
  have hlocks := B.notSynchronized
  have hts := atoms_spec (ws := iv_wyl :: iv_tbl) B.pre
  have hT : ∀ w ∈ iv_tbl, w.before [.ref (iv_a g (j + 2))].toArray s = true := fun w hw => hts w (List.mem_cons_of_mem _ hw)
  have hT2 : ∀ w ∈ iv_tbl, w ∈ (iv_wyl :: iv_tbl) := fun w hw => List.mem_cons_of_mem _ hw
  have hown : s.vm.findClass "java/lang/String" = some m.cls := findClass_of_methodNamed B.named
  have hl := lv_entry ([.ref (iv_a g (j + 2))]) (n := 1) (Nat.le_of_ble_eq_true rfl)
  rw [lg_entry_eq]
  generalize (lg_sl ([.ref (iv_a g (j + 2))]) ++ List.replicate (1 - (lg_sl ([.ref (iv_a g (j + 2))])).length) Slot.unset).toArray = ls at hl ⊢
  have hsh : ∀ q, q < g.2.2.1.size → s.heap[q]? = g.2.2.1[q]? := hI.2.1
  have hl0 : ∀ q ∈ ([] : List Loc), iv_new g q.base := fun q hq => by cases hq
  have hS := iv_vaS (locs := []) hI hsz hsh hl0
  have hl : lv_has ls 1 [(0, .ref (iv_a g (j + 2)))] := hl
  obtain ⟨-, -, -, -, -, ⟨hZ, adV, hSS⟩, -⟩ := id hV
  obtain ⟨s1, s2, s3, s4⟩ := hSS.1 j hj
  have hrc : ∃ cellB : Cell, s.heap[iv_a g (j + 2)]? = some cellB ∧ cellB.vm.isStatics = false ∧ s.vm.findClass "java/lang/String" = some cellB.cls := by
    obtain ⟨cl, r1, r2, r3, -⟩ := s1.kept (H1 := s.heap) (fun q h1 _ => hsh q h1)
    exact ⟨cl, r1, r2, r3⟩
  refine lv_aload_n hx hb iv_dl0 rfl (lv_at hl 0 rfl) ?_
  refine vk_getf (v := .ref (adV j)) hx hb (s3.kept (fun q h1 _ => hsh q h1)) hS hown (hT _ (iv_sws_in _ (List.mem_of_getElem? (i := 2) rfl))) (fun _ z => z) iv_dl1 ?_
  obtain ⟨cell, t1, t2, t3, t4, t5, t6, t7⟩ := s4
  refine W.alen (n := nI ([6, 5, 5, 5, 7, 6].getD j 0)) hx hb (by rw [hsh _ (Array.getElem?_eq_some_iff.mp t1).1]; exact t1) t2 t5 rfl rfl iv_dl4 ?_
  refine W.eq (g2 := F0 m 5 ls [.int (nI ([6, 5, 5, 5, 7, 6].getD j 0))]) rfl ?_
  refine lv_aload_n hx hb iv_dl5 rfl (lv_at hl 0 rfl) ?_
  refine iv_sizeS hsz hI (fun hz => ?_)
  refine iv_backS (rv := some (.int 0)) (as := ([.ref (iv_a g (j + 2))] : List Value).toArray) (rest := [.int (nI ([6, 5, 5, 5, 7, 6].getD j 0))]) hl0 (va_runV (C := "java/lang/String") (As := []) (b := iv_a g (j + 2)) ⟨hx, hb, hml, hown, hts⟩ (iv_mo1 g l h d j hj) (cwV 0 hts (iv_good_app0 hT2 (fun w hw => by
      simp only [List.mem_cons, List.not_mem_nil, or_false] at hw
      rcases hw with rfl | rfl | rfl | rfl
      · exact iv_sws_in _ (List.mem_of_getElem? (i := 4) rfl)
      · exact iv_sws_in _ (List.mem_of_getElem? (i := 5) rfl)
      · exact iv_sws_in _ (List.mem_of_getElem? (i := 6) rfl)
      · exact iv_sws_in _ (List.mem_of_getElem? (i := 7) rfl)) (iv_wsg iv_wyo_in hT2)) rfl rfl rfl (by decide +kernel) ⟨by show d + 1 + 1 ≤ d + 1 + 1; omega, by show 8 + (1 + 11) + 200 * (d + 1) ≤ 200 * (d + 1 + 1); omega⟩) ⟨iv_Ps.blind g _ h, hrc, iv_preS hV hI hz⟩ rfl rfl hl.1 rfl (lv_room (Nat.le_of_ble_eq_true rfl)) iv_dl6 ⟨Nat.zero_le _, Nat.zero_le _⟩) (fun H1 locs1 hI hl1 => ?_)
  refine lv_ishr hx hb iv_dl9 ?_
  have e0 : nI ([6, 5, 5, 5, 7, 6].getD j 0) >>> ((0 : Int32) &&& 31) = nI ([6, 5, 5, 5, 7, 6].getD j 0) := sb_shr0 _
  rw [e0]
  exact W.iret hx hb hr (fun t ht _ => ⟨rfl, by rw [ht]; exact hI⟩) hl1 iv_dl10 hlocks
theorem iv_mc1 (g : iv_G) (l : Launch) (h : iv_H) (d : Nat) (j i : Nat) (hj : j < 6) (hi : i < [6, 5, 5, 5, 7, 6].getD j 0) : Met l iv_yc (iv_wyc :: iv_tbl) (iv_rm (d + 3) 0 0) (iv_Ps g [.ref (iv_a g (j + 2)), .int (nI i)] h) (iv_Qs g (some (.int ((iv_sl.getD j []).getD i 0))) h) 0 0 (iv_new g) := by
  refine va_MetF (cc := prog_10_method_56_code) (maxL := 2) (ret := (some .char)) (by decide +kernel) rfl ?_
  intro p e s m args below meth c s₁ B hml hv
  obtain ⟨rfl, hV, hI, hsz⟩ := hv
  have hx := B.exec
  have hb := B.bytes
  have hr := B.returns
  have hlocks := B.notSynchronized
  have hts := atoms_spec (ws := iv_wyc :: iv_tbl) B.pre
  have hT : ∀ w ∈ iv_tbl, w.before [.ref (iv_a g (j + 2)), .int (nI i)].toArray s = true := fun w hw => hts w (List.mem_cons_of_mem _ hw)
  have hT2 : ∀ w ∈ iv_tbl, w ∈ (iv_wyc :: iv_tbl) := fun w hw => List.mem_cons_of_mem _ hw
  have hown : s.vm.findClass "java/lang/String" = some m.cls := findClass_of_methodNamed B.named
  have hl := lv_entry ([.ref (iv_a g (j + 2)), .int (nI i)]) (n := 2) (Nat.le_of_ble_eq_true rfl)
  rw [lg_entry_eq]
  generalize (lg_sl ([.ref (iv_a g (j + 2)), .int (nI i)]) ++ List.replicate (2 - (lg_sl ([.ref (iv_a g (j + 2)), .int (nI i)])).length) Slot.unset).toArray = ls at hl ⊢
  have hsh : ∀ q, q < g.2.2.1.size → s.heap[q]? = g.2.2.1[q]? := hI.2.1
  have hl0 : ∀ q ∈ ([] : List Loc), iv_new g q.base := fun q hq => by cases hq
  have hS := iv_vaS (locs := []) hI hsz hsh hl0
  have hl : lv_has ls 2 [(0, .ref (iv_a g (j + 2))), (1, .int (nI i))] := hl
  obtain ⟨-, -, -, -, -, ⟨hZ, adV, hSS⟩, -⟩ := id hV
  obtain ⟨s1, s2, s3, s4⟩ := hSS.1 j hj
  have hrc : ∃ cellB : Cell, s.heap[iv_a g (j + 2)]? = some cellB ∧ cellB.vm.isStatics = false ∧ s.vm.findClass "java/lang/String" = some cellB.cls := by
    obtain ⟨cl, r1, r2, r3, -⟩ := s1.kept (H1 := s.heap) (fun q h1 _ => hsh q h1)
    exact ⟨cl, r1, r2, r3⟩
  have hby : ∀ j, j < 6 → [6, 5, 5, 5, 7, 6].getD j 0 < 2 ^ 31 ∧ ∀ i, i < [6, 5, 5, 5, 7, 6].getD j 0 → ((((iv_sl.getD j []).getD i 0 &&& 255).toUInt32 % 65536).toInt32 = (iv_sl.getD j []).getD i 0 ∧ narrow .char (.int ((iv_sl.getD j []).getD i 0)) = .int ((iv_sl.getD j []).getD i 0)) := by decide +kernel
  obtain ⟨b1, b2⟩ := hby j hj
  obtain ⟨b3, b4⟩ := b2 i hi
  refine lv_aload_n hx hb iv_dc0 rfl (lv_at hl 0 rfl) ?_
  refine iv_sizeS hsz hI (fun hz => ?_)
  refine iv_backS (rv := some (.int 1)) (as := ([.ref (iv_a g (j + 2))] : List Value).toArray) (rest := []) hl0 (va_runV (C := "java/lang/String") (As := []) (b := iv_a g (j + 2)) ⟨hx, hb, hml, hown, hts⟩ (iv_mi g l h d j hj) (cwV 0 hts (iv_good_app0 hT2 (fun w hw => by
      simp only [List.mem_cons, List.not_mem_nil, or_false] at hw
      rcases hw with rfl | rfl | rfl | rfl
      · exact iv_sws_in _ (List.mem_of_getElem? (i := 8) rfl)
      · exact iv_sws_in _ (List.mem_of_getElem? (i := 9) rfl)
      · exact iv_sws_in _ (List.mem_of_getElem? (i := 10) rfl)
      · exact iv_sws_in _ (List.mem_of_getElem? (i := 7) rfl)) (iv_wsg iv_wyi_in hT2)) rfl rfl rfl (by decide +kernel) ⟨by show d + 1 + 1 ≤ d + 3 + 1; omega, by show 8 + (1 + 11) + 200 * (d + 1) ≤ 200 * (d + 3 + 1); omega⟩) ⟨iv_Ps.blind g _ h, hrc, iv_preS hV hI hz⟩ rfl rfl hl.1 rfl (lv_room (Nat.le_of_ble_eq_true rfl)) iv_dc1 ⟨Nat.zero_le _, Nat.zero_le _⟩) (fun H1 locs1 hI hl1 => ?_)
  have hS := iv_vaS hI hsz hsh hl1
  refine lv_if_eq (tgt := 16) hx hb iv_dc4 rfl (fun z => absurd z (by decide)) (fun _ => ?_)
  refine lv_aload_n hx hb iv_dc7 rfl (lv_at hl 0 rfl) ?_
  refine vk_getf (v := .ref (adV j)) hx hb (s3.kept (fun q h1 _ => hsh q h1)) hS hown (hT _ (iv_sws_in _ (List.mem_of_getElem? (i := 2) rfl))) (fun _ z => z) iv_dc8 ?_
  refine lv_iload_n hx hb iv_dc11 rfl (lv_at hl 1 rfl) ?_
  refine iv_sizeS hsz hI (fun hz => ?_)
  refine iv_backS (rv := some (.int ((iv_sl.getD j []).getD i 0))) (as := ([.ref (adV j), .int (nI i)] : List Value).toArray) (rest := []) hl1 (va_runS (As := [.ref (adV j), .int (nI i)]) ⟨hx, hb, hml, hown, hts⟩ (iv_ma g l h d (adV j) i ([6, 5, 5, 5, 7, 6].getD j 0) (fun k => (iv_sl.getD j []).getD k 0) hi b1 b3 b4) (va_cwS 2 hts (iv_good_app0 hT2 (fun w hw => by
      simp only [List.mem_cons, List.not_mem_nil, or_false] at hw
      rcases hw with rfl | rfl | rfl
      · exact iv_sws_in _ (List.mem_of_getElem? (i := 11) rfl)
      · exact iv_sws_in _ (List.mem_of_getElem? (i := 12) rfl)
      · exact iv_sws_in _ (List.mem_of_getElem? (i := 13) rfl)) (iv_wsg iv_wy1_in hT2)) rfl rfl rfl (by decide +kernel) ⟨by show d + 2 + 1 + 1 ≤ d + 3 + 1; omega, by show 8 + (2 + 11) + 200 * (d + 2 + 1) ≤ 200 * (d + 3 + 1); omega⟩) ⟨iv_Pt.blind g _ h _ _ _, fun U hU hW => ⟨iv_preS hV hI hz U hU hW, va_T.moved hW.alike s4⟩⟩ rfl rfl hl.1 rfl (lv_room (Nat.le_of_ble_eq_true rfl)) iv_dc12 ⟨Nat.zero_le _, Nat.zero_le _⟩) (fun H1 locs1 hI hl2 => ?_)
  exact W.zret (ty := .char) hx hb hr b4 (fun t ht _ => ⟨rfl, by rw [ht]; exact hI⟩) hl2 iv_dc15 hlocks
section IVT
variable {p : Program} {l : Launch} {e : Env} {R : Room} {s : State} {m : MethodId} {args : Array Value} {below : List Frame} {meth : Method} {c : Code} {Q : State → Prop} {g : iv_G} {nL c0 cF : Nat} {cc : ByteArray} {pc : Nat} {i : iv_I} {ls : iv_L} {st : List Value} {h : iv_H} {a : iv_A} {Ts : List Cond} {y : MethodName} {bytes : ByteArray} {maxL : Nat} {ret : Option FieldType} {ws ws' : List Cond} {own : String} {d : Nat} {rv : Option Value} {h' : iv_H}
theorem iv_recvS {q : Nat} {H : Heap} (hV : iv_V g s) (hI : iv_Inv g h H) (h1 : q < 72) (h2 : iv_k q = 12) : ∃ cell : Cell, H[iv_a g q]? = some cell ∧ cell.vm.isStatics = false ∧ s.vm.findClass "java/lang/String" = some cell.cls := by
  have key : ∀ q, q < 72 → iv_k q = 12 → 2 ≤ q ∧ q < 8 := by decide +kernel
  obtain ⟨k1, k2⟩ := key q h1 h2
  obtain ⟨-, -, -, -, -, ⟨-, adV, hSS⟩, -⟩ := hV
  obtain ⟨s1, -⟩ := hSS.1 (q - 2) (by omega)
  obtain ⟨cl, r1, r2, r3, -⟩ := s1.kept (H1 := H) (fun z h1 _ => hI.2.1 z h1)
  have r4 : H[iv_a g (q - 2 + 2)]? = some cl := r1
  rw [show q - 2 + 2 = q by omega] at r4
  exact ⟨cl, r4, r2, r3⟩
theorem iv_c73 (hx : p.tables.exec = Jvm.exec) (hb : c.code = cc) (hml : c.maxLocals = nL) (hd : decode cc pc = .ok (.invokevirtual i.2.2.2.1.toNat, 3)) (hown : s.vm.findClass own = some m.cls) (hts : ∀ w ∈ Ts, w.before args s = true) (hV : iv_V g s)
    (hsz : s.heap.size = g.2.2.1.size + (c0 - 8)) (hc8 : 8 ≤ c0) (hcF : cF ≤ 72) (hRm : iv_Rm R c0 cF) (hRf : d + 2 ≤ R.frames) (hRl : 200 * (d + 2) ≤ R.locals)
    (hG : GoodIn Ts (wsV own i.2.2.2.1.toNat "java/lang/String" y ws)) (hw : ws = Cond.code y bytes maxL ret :: ws') (hmL : maxL ≤ 100)
    (hy : y.cls = "java/lang/String" ∧ y.cls ≠ "java/lang/invoke/MethodHandle" ∧ y.cls ≠ "java/lang/invoke/VarHandle" ∧ (parseMethodDescriptor y.desc).map (fun d => d.parameters.length) = some i.2.2.1)
    (hs : iv_cv 12 i ls st h = some a)
    (kc : ∀ as ls2 st2 h2, a = .inr (.inr (.inr (i.2.1, as, ls2, st2, h2))) → iv_Met g l y ws d as h2 rv h' ∧ h'.1 ≤ cF ∧ iv_W p l e R s m args below meth c Q g nL c0 cF (pc + 3) ls2 (rv.toList ++ st2) h') : iv_W p l e R s m args below meth c Q g nL c0 cF pc ls st h := by
  unfold iv_cv at hs
  split at hs
  · rename_i q st2 hdr
    split at hs
    · rename_i hcnd
      obtain ⟨⟨c1, c2⟩, c3⟩ := hcnd
      obtain rfl := Option.some.inj hs
      obtain ⟨⟨m1, m2, hM⟩, m3, kk⟩ := kc _ _ _ _ rfl
      intro h0 h1 lsC H locs hL hI hl
      refine iv_bysize hsz hc8 h0 hI (fun hz => ?_)
      obtain ⟨⟨n1, n2⟩, n3⟩ := iv_counts hcF h0 m1 m3 hRm
      refine iv_back (as := (Value.ref (iv_a g q) :: (st.take i.2.2.1).reverse.map (iv_v g)).toArray) hl hL n1 n2 (Nat.le_trans h0 m1) m3 ?_ kk
      exact va_runV (As := ((st.take i.2.2.1).reverse.map (iv_v g))) (b := iv_a g q) (rest := st2.map (iv_v g)) ⟨hx, hb, hml, hown, hts⟩ hM (cwV i.2.2.1 hts hG hw rfl rfl hy (iv_room hRf hRl hmL))
        ⟨iv_Pc.blind g _ h, iv_recvS hV hI (Nat.lt_of_lt_of_le c1 hI.1.2.1) c2, iv_pre (as := .ref q :: (st.take i.2.2.1).reverse) hV hI hz⟩ rfl (iv_as_len (iv_drop_le hdr)) hL.1.1 (iv_split hdr) (lv_room (iv_sum4 g st2 c3)) hd n3
    · cases hs
  · cases hs
end IVT
