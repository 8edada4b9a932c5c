/-! new int[8][8] -/
theorem iv_outer (cA : ClassId) (N h0 : Nat) : ∀ k : Nat, Jvm.Free.Multi.outerC cA N h0 k = arrV cA N (fun j => va_rf (if j < k then some (h0 + 1 + j) else none))
  | 0 => by
    show ({ cls := cA, slots := Array.replicate N .null, vm := .none } : Cell) = _
    rw [arrV_new]
    exact congrArg (arrV cA N) (funext fun j => by simp [va_rf])
  | k + 1 => by
    show (Jvm.Free.Multi.outerC cA N h0 k).setSlot k (.ref (h0 + 1 + k)) = _
    rw [iv_outer cA N h0 k, arrV_store]
    refine congrArg (arrV cA N) (funext fun j => ?_)
    rcases Nat.lt_trichotomy j k with hj | hj | hj
    · simp [updV, Nat.ne_of_lt hj, hj, Nat.lt_succ_of_lt hj]
    · subst hj; simp [updV, va_rf]
    · simp [updV, Nat.ne_of_gt hj, show ¬ j < k by omega, show ¬ j < k + 1 by omega]
theorem iv_mr_c (h : iv_H) : ∀ k, (iv_mr k h).1 = h.1 + k
  | 0 => rfl
  | k + 1 => by show (iv_mr k h).1 + 1 = _; rw [iv_mr_c h k]; omega
theorem iv_mr_I (h : iv_H) : ∀ k q, (iv_mr k h).2.1 q = if h.1 ≤ q ∧ q < h.1 + k then (fun _ => 0) else h.2.1 q
  | 0, q => by rw [if_neg (by omega)]; rfl
  | k + 1, q => by
    show iv_zr (iv_mr k h).2.1 (iv_mr k h).1 0 q = _
    rw [iv_mr_c]
    by_cases e : q = h.1 + k
    · subst e
      rw [iv_zr_eq, if_pos (by omega)]
    · rw [iv_zr_ne e, iv_mr_I h k q]
      by_cases e2 : h.1 ≤ q ∧ q < h.1 + k
      · rw [if_pos e2, if_pos (by omega)]
      · rw [if_neg e2, if_neg (by omega)]
theorem iv_mr_J (h : iv_H) : ∀ k q, q < h.1 → (iv_mr k h).2.2.1 q = h.2.2.1 q
  | 0, q, _ => rfl
  | k + 1, q, hq => by
    show iv_zr (iv_mr k h).2.2.1 (iv_mr k h).1 0 q = _
    rw [iv_mr_c, iv_zr_ne (by omega), iv_mr_J h k q hq]
theorem iv_mr_R (h : iv_H) : ∀ k q, q < h.1 → (iv_mr k h).2.2.2 q = fun j => if q = 26 ∧ j < k then some (27 + j) else h.2.2.2 q j
  | 0, q, _ => by funext j; rw [if_neg (by omega)]; rfl
  | k + 1, q, hq => by
    show iv_up (iv_zr (iv_mr k h).2.2.2 (iv_mr k h).1 none) 26 k (some (27 + k)) q = _
    funext j
    by_cases e : q = 26
    · subst e
      rw [iv_up_eq]
      by_cases e2 : j = k
      · subst e2; simp
      · simp only [e2, if_false]
        rw [iv_mr_c, iv_zr_ne (by omega), iv_mr_R h k 26 hq]
        by_cases e3 : j < k
        · simp [e3, Nat.lt_succ_of_lt e3]
        · simp [e3, show ¬ j < k + 1 by omega]
    · rw [iv_up_ne e, iv_mr_c, iv_zr_ne (by omega), iv_mr_R h k q hq]
      simp [e]
theorem iv_sl3 {A B C F r : Nat} (e : C = A + 8 + 64) (hBA : B ≤ A) (hCF : C ≤ F) (hr : F - B ≤ r) : A - B + (8 + 8 * 8) ≤ r := by omega
theorem iv_sl4 {A B C : Nat} (e : C = A + 8 + 64) (hBA : B ≤ A) : A - B + 8 + 8 * 8 ≤ C - B := by omega
section IVM
variable {p : Program} {l : Launch} {e : Env} {R : Room} {s : State} {m : MethodId} {args : Array Value} {below : List Frame} {meth : Method} {c : Code} {Q : State → Prop} {g : iv_G} {nL c0 cF : Nat} {cc : ByteArray} {pc : Nat} {i : iv_I} {ls : iv_L} {st : List Value} {h : iv_H} {a : iv_A} {Ts : List Cond}
theorem iv_c62 (hx : p.tables.exec = Jvm.exec) (hb : c.code = cc) (hd : decode cc pc = .ok (.multianewarray i.2.2.2.1.toNat 2, 4)) {own : String} (hown : s.vm.findClass own = some m.cls) (hV : iv_V g s) (hclink : (Cond.classLink own i.2.2.2.1.toNat "[[I").before args s = true) (harr : (Cond.arrayClass .int).before args s = true) (hsz : s.heap.size = g.2.2.1.size + (c0 - 8)) (hc8 : 8 ≤ c0) (hcF : cF ≤ 72) (hRm : iv_Rm R c0 cF) (hlt : ∀ ls2 st2 h2, a = .inl (ls2, st2, h2) → h2.1 ≤ cF) (hs : iv_o62 i ls st h = some a) (kn : ∀ ls2 st2 h2, a = .inl (ls2, st2, h2) → iv_W p l e R s m args below meth c Q g nL c0 cF (pc + 4) ls2 st2 h2) : iv_W p l e R s m args below meth c Q g nL c0 cF pc ls st h := by
  unfold iv_o62 at hs
  split at hs
  · rename_i k n st2
    split at hs
    · rename_i hcnd
      obtain ⟨e26, rfl, rfl⟩ := hcnd
      obtain rfl := Option.some.inj hs
      intro h0 h1 lsC H locs hL hI hl
      refine iv_bysize hsz hc8 h0 hI (fun hz => ?_)
      have hl1 : (iv_mr 8 (iv_nw h)).1 ≤ cF := hlt _ _ _ rfl
      have hc : (iv_mr 8 (iv_nw h)).1 = 35 := by rw [iv_mr_c]; show h.1 + 1 + 8 = 35; omega
      have hnc : (iv_nw h).1 = 27 := by show h.1 + 1 = 27; omega
      have hl2 : 35 ≤ cF := by omega
      have hS1 : iv_S 35 = iv_S 26 + 8 + 64 := by decide +kernel
      have hS2 : iv_S c0 ≤ iv_S 26 := iv_S_mono (by omega) (by decide)
      have hS3 : iv_S 35 ≤ iv_S cF := iv_S_mono hl2 hcF
      obtain ⟨r1, r2⟩ := hRm
      have q1 : h.1 - c0 + (1 + 8) ≤ R.cells := by rw [e26]; clear hS1 hS2 hS3 r2; omega
      have q2 : iv_S h.1 - iv_S c0 + (8 + 8 * 8) ≤ R.slots := by rw [e26]; exact iv_sl3 hS1 hS2 hS3 r2
      have q3 : h.1 - c0 + 1 + 8 ≤ (iv_mr 8 (iv_nw h)).1 - c0 := by rw [hc, e26]; clear hS1 hS2 hS3 r2 q2; omega
      have q4 : iv_S h.1 - iv_S c0 + 8 + 8 * 8 ≤ iv_S (iv_mr 8 (iv_nw h)).1 - iv_S c0 := by rw [hc, e26]; exact iv_sl4 hS1 hS2
      clear hS1 hS2 hS3 r2
      intro T hT X
      obtain ⟨vm₁, cA, comp, -, fA, fC, -, -, X', step⟩ := X.multianewarray2F hx (ty := .int) hown hclink (show (Cond.arrayOver (.array .int)).before args s = true from hV.2.2.2.1.2) harr (g := F0 m pc lsC (List.map (iv_v g) (.int 8 :: .int 8 :: st2))) rfl (by rw [hb]; exact hd) rfl (by decide) (by decide) (by decide) (by decide) (by decide) rfl rfl q1 q2
      have e8 : (8 : Int32).toNatClampNeg = 8 := by decide
      rw [e8] at X' step
      have hcA : cA = g.2.1 10 := Option.some.inj (fA.symm.trans (hV.1.2 4 _ rfl).2)
      have hcm : comp = g.2.1 6 := Option.some.inj (fC.symm.trans (hV.1.2 0 _ rfl).2)
      subst hcA
      subst hcm
      have hTh : (T.setVm vm₁).heap = H := hT
      obtain ⟨f1, f2, -, -⟩ := Jvm.Free.Multi.fill_facts (T.setVm vm₁) (g.2.1 10) (g.2.1 6) 8 8 (defaultValue .int) 8
      have hold : ∀ x : Nat, x < H.size → (Jvm.Free.Multi.fill (T.setVm vm₁) (g.2.1 10) (g.2.1 6) 8 8 (defaultValue .int) 8).heap[x]? = H[x]? := fun x hx9 => by
        have := Jvm.Free.Multi.fill_old (T.setVm vm₁) (g.2.1 10) (g.2.1 6) 8 8 (defaultValue .int) (a := x) (by rw [hTh]; exact hx9) 8
        rw [this, hTh]
      have hrow : ∀ j : Nat, j < 8 → (Jvm.Free.Multi.fill (T.setVm vm₁) (g.2.1 10) (g.2.1 6) 8 8 (defaultValue .int) 8).heap[H.size + 1 + j]? = some (Jvm.Free.Multi.innerC (g.2.1 6) 8 (defaultValue .int)) := fun j hj => by
        have := Jvm.Free.Multi.fill_inner (T.setVm vm₁) (g.2.1 10) (g.2.1 6) 8 8 (defaultValue .int) 8 j hj
        rw [hTh] at this
        exact this
      rw [hTh] at f1 f2
      generalize hF : Jvm.Free.Multi.fill (T.setVm vm₁) (g.2.1 10) (g.2.1 6) 8 8 (defaultValue .int) 8 = F at X' step f1 f2 hold hrow
      have hI2 : iv_Inv g (iv_mr 8 (iv_nw h)) F.heap := by
        obtain ⟨⟨a1, a2, a3⟩, b, hP, d1, d2, d3⟩ := hI
        have eo : ∀ q, q < 26 → iv_e g (iv_mr 8 (iv_nw h)) q = iv_e g h q := fun q hq => iv_e_of
          (by rw [iv_mr_I, if_neg (by omega)]; exact iv_zr_ne (by omega)) (by rw [iv_mr_J _ _ _ (by omega)]; exact iv_zr_ne (by omega))
          (by rw [iv_mr_R _ _ _ (by omega)]; funext j; rw [if_neg (by omega)]; exact congrFun (iv_zr_ne (by omega)) j)
        refine ⟨⟨by omega, by omega, by rw [hc, f1]; omega⟩, fun q hq => by rw [hold q (by omega)]; exact b q hq, fun k q hq => ?_, ?_, fun j hj => ?_, fun j hj => ?_⟩
        · obtain ⟨hk, rfl⟩ := iv_w_at hq
          rw [hc] at hk
          by_cases k1 : k + 8 < 26
          · rw [eo _ k1]
            have hg := iv_w_get (g := g) (h := h) (p := k + 8) (by omega) (by omega)
            rw [show k + 8 - 8 = k by omega, iv_a_new (by omega), show k + 8 - 8 = k by omega] at hg
            exact (hP k _ hg).kept (hold _ (by show g.2.2.1.size + k < H.size; omega))
          · by_cases k2 : k = 18
            · subst k2
              rw [iv_e_ref (k := 10) (by decide) (Or.inr rfl)]
              show F.heap[_]? = some (vp_cell _ _)
              rw [show g.2.2.1.size + 18 = H.size by omega, f2, iv_outer, vp_cell_q, show iv_n (18 + 8) = 8 by decide]
              congr 2
              funext j
              rw [iv_ar, iv_mr_R _ _ _ (by omega)]
              by_cases hj : j < 8
              · simp only [hj, if_true, Option.map_some, true_and]
                rw [iv_a_new (by omega)]
                congr 2
                omega
              · simp only [hj, if_false, and_false, Option.map_none]
                have : (iv_nw h).2.2.2 26 j = none := by show iv_zr h.2.2.2 h.1 none 26 j = none; rw [e26, iv_zr_eq]
                simp [this]
            · have hk6 : iv_k (k + 8) = 6 := by
                have key : ∀ q, q < 35 → 27 ≤ q → iv_k q = 6 := by decide +kernel
                exact key _ (by omega) (by omega)
              have hk8 : iv_n (k + 8) = 8 := by
                have key : ∀ q, q < 35 → 27 ≤ q → iv_n q = 8 := by decide +kernel
                exact key _ (by omega) (by omega)
              rw [iv_e_int hk6 (Or.inl rfl)]
              show F.heap[_]? = some (vp_cell _ _)
              rw [show g.2.2.1.size + k = H.size + 1 + (k - 19) by omega, hrow _ (by omega), vp_cell_i, hk8, iv_mr_I, if_pos (by omega)]
              show some ({ cls := _, slots := Array.replicate 8 _, vm := .none } : Cell) = _
              rw [arrV_new]
              rfl
        · rw [iv_mr_R _ _ _ (by omega)]
          simp only [show ¬ ((0 : Nat) = 26 ∧ 0 < 8) by omega, if_false]
          exact (congrFun (iv_zr_ne (by omega)) 0).trans d1
        · rw [iv_mr_I, if_neg (by omega)]
          exact (congrFun (iv_zr_ne (by omega)) j).trans (d2 j hj)
        · rw [iv_mr_I, if_neg (by omega)]
          exact (congrFun (iv_zr_ne (by omega)) j).trans (d3 j hj)
      have K := kn _ _ _ rfl (by omega) hl1 lsC F.heap locs hL hI2 hl
      obtain ⟨t, b1, b2⟩ := W.widen q3 q4 K F rfl X'
      refine ⟨t, step t ?_, b2⟩
      rw [List.map_cons, show iv_v g (.ref 26) = .ref T.heap.size by show Value.ref (iv_a g 26) = _; rw [iv_a_new (by omega), hT, hz, e26]] at b1
      exact b1
    · cases hs
  · cases hs
end IVM
/-! contracts -/
def iv_rm (d mc ms : Nat) : Room := { frames := d + 1, cells := mc, slots := ms, locals := 200 * (d + 1) }
def iv_Pc (g : iv_G) (as : List Value) (h : iv_H) : Array Value → State → Prop := fun a U => a = (as.map (iv_v g)).toArray ∧ iv_V g U ∧ iv_Inv g h U.heap ∧ U.heap.size = g.2.2.1.size + (h.1 - 8)
def iv_Qc (g : iv_G) (r : Option Value) (h : iv_H) : Array Value → State → Outcome → State → Prop := fun _ _ o t => o = .returned (r.map (iv_v g)) ∧ iv_Inv g h t.heap
def iv_Met (g : iv_G) (l : Launch) (y : MethodName) (ws : List Cond) (d : Nat) (as : List Value) (h : iv_H) (r : Option Value) (h' : iv_H) : Prop :=
  h.1 ≤ h'.1 ∧ h'.1 ≤ 72 ∧ Met l y ws (iv_rm d (h'.1 - h.1) (iv_S h'.1 - iv_S h.1)) (iv_Pc g as h) (iv_Qc g r h') (h'.1 - h.1) (iv_S h'.1 - iv_S h.1) (iv_new g)
theorem iv_Pc.blind (g : iv_G) (as : List Value) (h : iv_H) : FrameBlind (iv_Pc g as h) := by
  intro a U fr mk q
  obtain ⟨q1, q2, q3, q4⟩ := q
  exact ⟨q1, iv_V.warm (s := U) (U := U.calling fr mk a) (State.WarmedH.refl U) q2, q3, q4⟩
section IVC
variable {p : Program} {l : Launch} {e : Env} {R : Room} {s : State} {m : MethodId} {args : Array Value} {below : List Frame} {meth : Method} {c : Code} {Q : State → Prop} {g : iv_G} {nL c0 cF : Nat} {cc : ByteArray} {pc : Nat} {i : iv_I} {ls : iv_L} {st : List Value} {h : iv_H} {a : iv_A} {Ts : List Cond}
theorem iv_sl5 {A B C : Nat} (h1 : B ≤ A) (h2 : A ≤ C) : A - B + (C - A) ≤ C - B := by omega
theorem iv_sl6 {A B C F r : Nat} (h1 : B ≤ A) (h2 : A ≤ C) (h3 : C ≤ F) (hr : F - B ≤ r) : A - B + (C - A) ≤ r := by omega
/-- behind a call -/
theorem iv_back {mc ms : Nat} {rest : List Value} {r : Option Value} {h' : iv_H} {as : Array Value} {lsC : Array Slot} {H : Heap} {locs : List Loc} {st0 : List Value} (hl : ∀ q ∈ locs, iv_new g q.base) (hL : iv_LR g nL ls lsC)
    (hmc : h.1 - c0 + mc ≤ h'.1 - c0) (hms : iv_S h.1 - iv_S c0 + ms ≤ iv_S h'.1 - iv_S c0) (h0 : c0 ≤ h'.1) (h1 : h'.1 ≤ cF)
    (hr : va_Run p l e R s m args below meth c H locs (h.1 - c0) (iv_S h.1 - iv_S c0) mc ms (F0 m pc lsC st0) (rest.map (iv_v g)) (iv_Qc g r h' as) (iv_new g))
    (kk : iv_W p l e R s m args below meth c Q g nL c0 cF (pc + 3) ls (r.toList ++ rest) h') : W p l e R s m args below meth c H locs (h.1 - c0) (iv_S h.1 - iv_S c0) Q (F0 m pc lsC st0) := by
  intro T hT X
  obtain ⟨v, st₀, t, T', L, -, X', hL2, e1, -, ⟨hv, hI2⟩, hgo⟩ := hr T hT X
  have hv2 : v = r.map (iv_v g) := Outcome.returned.inj hv
  subst hv2
  have hl2 : ∀ q ∈ locs ++ L, iv_new g q.base := fun q hq => (List.mem_append.mp hq).elim (hl q) (hL2 q)
  have K := kk h0 h1 lsC t.heap (locs ++ L) hL hI2 hl2
  have est : (r.toList ++ rest).map (iv_v g) = (r.map (iv_v g)).toList ++ rest.map (iv_v g) := by cases r <;> simp
  rw [est] at K
  obtain ⟨t2, a1, b1⟩ := W.widen hmc hms K T' e1 X'
  exact ⟨t2, hgo t2 a1, b1⟩
theorem iv_split {st : List Value} {b : Nat} {q : Nat} {st2 : List Value} (h : st.drop b = .ref q :: st2) : st.map (iv_v g) = ((st.take b).reverse.map (iv_v g)).reverse ++ .ref (iv_a g q) :: st2.map (iv_v g) := by
  have e := (List.take_append_drop b st).symm
  rw [h] at e
  conv => lhs; rw [e]
  simp [List.map_reverse, iv_v]
theorem iv_as_len {st : List Value} {b : Nat} (h : b ≤ st.length) : ((st.take b).reverse.map (iv_v g)).length = b := by simp; omega
theorem iv_drop_le {st : List Value} {b : Nat} {q : Nat} {st2 : List Value} (h : st.drop b = .ref q :: st2) : b ≤ st.length := by
  rcases Nat.lt_or_ge st.length b with z | z
  · rw [List.drop_eq_nil_of_le (by omega)] at h; cases h
  · exact z
/-- the receiver of a call is there -/
theorem iv_recv {k q : Nat} {H : Heap} {r : vw_C} (hV : iv_V g s) (hI : iv_Inv g h H) (hr : vwCl[k]? = some r) (h6 : k < 6) (h1 : q < h.1) (h2 : iv_k q = k) : ∃ cell : Cell, H[iv_a g q]? = some cell ∧ cell.vm.isStatics = false ∧ s.vm.findClass r.1 = some cell.cls := by
  obtain ⟨k1, k2⟩ := iv_k_lo (p := q) (by omega)
  have he : (iv_w g h)[q - 8]? = some (iv_a g q, .inr (k, (List.range (iv_n q)).map (iv_fd g h q k))) := by rw [iv_w_get k1 h1, iv_e_obj h2 h6]
  exact va_recv hV.1 hI.2.2.1 hr he
variable {y : MethodName} {bytes : ByteArray} {maxL : Nat} {ret : Option FieldType} {ws ws' : List Cond} {own : String} {d : Nat} {rv : Option Value} {h' : iv_H}
/-- room and counts of a call -/
theorem iv_counts (hc : cF ≤ 72) (h0 : c0 ≤ h.1) (m1 : h.1 ≤ h'.1) (m2 : h'.1 ≤ cF) (hRm : iv_Rm R c0 cF) : (h.1 - c0 + (h'.1 - h.1) ≤ h'.1 - c0 ∧ iv_S h.1 - iv_S c0 + (iv_S h'.1 - iv_S h.1) ≤ iv_S h'.1 - iv_S c0) ∧ h.1 - c0 + (h'.1 - h.1) ≤ R.cells ∧ iv_S h.1 - iv_S c0 + (iv_S h'.1 - iv_S h.1) ≤ R.slots := by
  have a1 := iv_S_mono h0 (Nat.le_trans (Nat.le_trans m1 m2) hc)
  have a2 := iv_S_mono m1 (Nat.le_trans m2 hc)
  have a3 := iv_S_mono m2 hc
  exact ⟨⟨iv_sl5 h0 m1, iv_sl5 a1 a2⟩, iv_sl6 h0 m1 m2 hRm.1, iv_sl6 a1 a2 a3 hRm.2⟩
theorem iv_room (hRf : d + 2 ≤ R.frames) (hRl : 200 * (d + 2) ≤ R.locals) (hmL : maxL ≤ 100) {mc ms : Nat} : (iv_rm d mc ms).frames + 1 ≤ R.frames ∧ 8 + (maxL + 11) + (iv_rm d mc ms).locals ≤ R.locals := by
  show d + 1 + 1 ≤ R.frames ∧ 8 + (maxL + 11) + 200 * (d + 1) ≤ R.locals
  omega
theorem iv_pre {H : Heap} {as : List Value} (hV : iv_V g s) (hI : iv_Inv g h H) (hz : H.size = g.2.2.1.size + (h.1 - 8)) : ∀ U : State, U.heap = H → s.WarmedH U.vm → iv_Pc g as h (as.map (iv_v g)).toArray U := by
  intro U hU hW
  exact ⟨rfl, iv_V.warm hW hV, by rw [hU]; exact hI, by rw [hU]; exact hz⟩
theorem iv_c66 (hx : p.tables.exec = Jvm.exec) (hb : c.code = cc) (hml : c.maxLocals = nL) (hd : decode cc pc = .ok (.invokevirtual i.2.2.2.1.toNat, 3)) (hown : s.vm.findClass own = some m.cls) (hts : ∀ w ∈ Ts, w.before args s = true) (hV : iv_V g s)
    (hsz : s.heap.size = g.2.2.1.size + (c0 - 8)) (hc8 : 8 ≤ c0) (hcF : cF ≤ 72) (hRm : iv_Rm R c0 cF) (hRf : d + 2 ≤ R.frames) (hRl : 200 * (d + 2) ≤ R.locals)
    {k : Nat} {r : vw_C} (hr : vwCl[k]? = some r) (h6 : k < 6) (hG : GoodIn Ts (wsV own i.2.2.2.1.toNat r.1 y ws)) (hw : ws = Cond.code y bytes maxL ret :: ws') (hmL : maxL ≤ 100)
    (hy : y.cls = r.1 ∧ y.cls ≠ "java/lang/invoke/MethodHandle" ∧ y.cls ≠ "java/lang/invoke/VarHandle" ∧ (parseMethodDescriptor y.desc).map (fun d => d.parameters.length) = some i.2.2.1)
    (hs : iv_cv k i ls st h = some a)
    (kc : ∀ as ls2 st2 h2, a = .inr (.inr (.inr (i.2.1, as, ls2, st2, h2))) → iv_Met g l y ws d as h2 rv h' ∧ h'.1 ≤ cF ∧ iv_W p l e R s m args below meth c Q g nL c0 cF (pc + 3) ls2 (rv.toList ++ st2) h') : iv_W p l e R s m args below meth c Q g nL c0 cF pc ls st h := by
  unfold iv_cv at hs
  split at hs
  · rename_i q st2 hdr
    split at hs
    · rename_i hcnd
      obtain ⟨⟨c1, c2⟩, c3⟩ := hcnd
      obtain rfl := Option.some.inj hs
      obtain ⟨⟨m1, m2, hM⟩, m3, kk⟩ := kc _ _ _ _ rfl
      intro h0 h1 lsC H locs hL hI hl
      refine iv_bysize hsz hc8 h0 hI (fun hz => ?_)
      obtain ⟨⟨n1, n2⟩, n3⟩ := iv_counts hcF h0 m1 m3 hRm
      refine iv_back (as := (Value.ref (iv_a g q) :: (st.take i.2.2.1).reverse.map (iv_v g)).toArray) hl hL n1 n2 (Nat.le_trans h0 m1) m3 ?_ kk
      exact va_runV (As := ((st.take i.2.2.1).reverse.map (iv_v g))) (b := iv_a g q) (rest := st2.map (iv_v g)) ⟨hx, hb, hml, hown, hts⟩ hM (cwV i.2.2.1 hts hG hw rfl rfl hy (iv_room hRf hRl hmL))
        ⟨iv_Pc.blind g _ h, iv_recv hV hI hr h6 c1 c2, iv_pre (as := .ref q :: (st.take i.2.2.1).reverse) hV hI hz⟩ rfl (iv_as_len (iv_drop_le hdr)) hL.1.1 (iv_split hdr) (lv_room (iv_sum4 g st2 c3)) hd n3
    · cases hs
  · cases hs
theorem iv_c67 (hx : p.tables.exec = Jvm.exec) (hb : c.code = cc) (hml : c.maxLocals = nL) (hd : decode cc pc = .ok (.invokestatic i.2.2.2.1.toNat, 3)) (hown : s.vm.findClass own = some m.cls) (hts : ∀ w ∈ Ts, w.before args s = true) (hV : iv_V g s)
    (hsz : s.heap.size = g.2.2.1.size + (c0 - 8)) (hc8 : 8 ≤ c0) (hcF : cF ≤ 72) (hRm : iv_Rm R c0 cF) (hRf : d + 2 ≤ R.frames) (hRl : 200 * (d + 2) ≤ R.locals)
    (hG : GoodIn Ts (va_wsS own i.2.2.2.1.toNat y ws)) (hw : ws = Cond.code y bytes maxL ret :: ws') (hmL : maxL ≤ 100)
    (hy : y.cls ≠ "java/lang/invoke/MethodHandle" ∧ y.cls ≠ "java/lang/invoke/VarHandle" ∧ (parseMethodDescriptor y.desc).map (fun d => d.parameters.length) = some i.2.2.1)
    (hs : iv_o67 i ls st h = some a)
    (kc : ∀ as ls2 st2 h2, a = .inr (.inr (.inr (i.2.1, as, ls2, st2, h2))) → iv_Met g l y ws d as h2 rv h' ∧ h'.1 ≤ cF ∧ iv_W p l e R s m args below meth c Q g nL c0 cF (pc + 3) ls2 (rv.toList ++ st2) h') : iv_W p l e R s m args below meth c Q g nL c0 cF pc ls st h := by
  unfold iv_o67 at hs
  split at hs
  · rename_i hcnd
    obtain ⟨c1, c3⟩ := hcnd
    obtain rfl := Option.some.inj hs
    obtain ⟨⟨m1, m2, hM⟩, m3, kk⟩ := kc _ _ _ _ rfl
    intro h0 h1 lsC H locs hL hI hl
    refine iv_bysize hsz hc8 h0 hI (fun hz => ?_)
    obtain ⟨⟨n1, n2⟩, n3⟩ := iv_counts hcF h0 m1 m3 hRm
    refine iv_back (as := ((st.take i.2.2.1).reverse.map (iv_v g)).toArray) hl hL n1 n2 (Nat.le_trans h0 m1) m3 ?_ kk
    refine va_runS (As := ((st.take i.2.2.1).reverse.map (iv_v g))) (rest := (st.drop i.2.2.1).map (iv_v g)) ⟨hx, hb, hml, hown, hts⟩ hM (va_cwS i.2.2.1 hts hG hw rfl rfl hy (iv_room hRf hRl hmL))
        ⟨iv_Pc.blind g _ h, iv_pre (as := (st.take i.2.2.1).reverse) hV hI hz⟩ rfl (iv_as_len c1) hL.1.1 ?_ (lv_room (iv_sum4 g _ c3)) hd n3
    show st.map (iv_v g) = _
    conv => lhs; rw [← List.take_append_drop i.2.2.1 st]
    simp [List.map_reverse]
  · cases hs
theorem iv_c72 {host : String} (hx : p.tables.exec = Jvm.exec) (hb : c.code = cc) (hml : c.maxLocals = nL) (hd : decode cc pc = .ok (.invokestatic i.2.2.2.1.toNat, 3)) (hown : s.vm.findClass own = some m.cls) (hts : ∀ w ∈ Ts, w.before args s = true) (hV : iv_V g s)
    (hsz : s.heap.size = g.2.2.1.size + (c0 - 8)) (hc8 : 8 ≤ c0) (hcF : cF ≤ 72) (hRm : iv_Rm R c0 cF) (hRf : d + 2 ≤ R.frames) (hRl : 200 * (d + 2) ≤ R.locals)
    (hG : GoodIn Ts ws) (hnw : va_Nw (.methodLinkNest own i.2.2.2.1.toNat y host) s) (hini : (Cond.initialized y.cls).before args s = true) (hstt : (Cond.static y).before args s = true) (hw : ws = Cond.code y bytes maxL ret :: ws') (hmL : maxL ≤ 100)
    (hy : y.cls ≠ "java/lang/invoke/MethodHandle" ∧ y.cls ≠ "java/lang/invoke/VarHandle" ∧ (parseMethodDescriptor y.desc).map (fun d => d.parameters.length) = some i.2.2.1)
    (hs : iv_o67 i ls st h = some a)
    (kc : ∀ as ls2 st2 h2, a = .inr (.inr (.inr (i.2.1, as, ls2, st2, h2))) → iv_Met g l y ws d as h2 rv h' ∧ h'.1 ≤ cF ∧ iv_W p l e R s m args below meth c Q g nL c0 cF (pc + 3) ls2 (rv.toList ++ st2) h') : iv_W p l e R s m args below meth c Q g nL c0 cF pc ls st h := by
  unfold iv_o67 at hs
  split at hs
  · rename_i hcnd
    obtain ⟨c1, c3⟩ := hcnd
    obtain rfl := Option.some.inj hs
    obtain ⟨⟨m1, m2, hM⟩, m3, kk⟩ := kc _ _ _ _ rfl
    intro h0 h1 lsC H locs hL hI hl
    refine iv_bysize hsz hc8 h0 hI (fun hz => ?_)
    obtain ⟨⟨n1, n2⟩, n3⟩ := iv_counts hcF h0 m1 m3 hRm
    refine iv_back (as := ((st.take i.2.2.1).reverse.map (iv_v g)).toArray) hl hL n1 n2 (Nat.le_trans h0 m1) m3 ?_ kk
    refine va_runSN (As := ((st.take i.2.2.1).reverse.map (iv_v g))) (rest := (st.drop i.2.2.1).map (iv_v g)) ⟨hx, hb, hml, hown, hts⟩ hM ⟨va_cnB i.2.2.1 hts hG hw rfl rfl hnw hini hy (iv_room hRf hRl hmL), hstt, trivial⟩
        ⟨iv_Pc.blind g _ h, iv_pre (as := (st.take i.2.2.1).reverse) hV hI hz⟩ rfl (iv_as_len c1) hL.1.1 ?_ (lv_room (iv_sum4 g _ c3)) hd n3
    show st.map (iv_v g) = _
    conv => lhs; rw [← List.take_append_drop i.2.2.1 st]
    simp [List.map_reverse]
  · cases hs
theorem iv_c68 (hx : p.tables.exec = Jvm.exec) (hb : c.code = cc) (hml : c.maxLocals = nL) (hd : decode cc pc = .ok (.invokespecial i.2.2.2.1.toNat, 3)) (hown : s.vm.findClass own = some m.cls) (hts : ∀ w ∈ Ts, w.before args s = true) (hV : iv_V g s)
    (hsz : s.heap.size = g.2.2.1.size + (c0 - 8)) (hc8 : 8 ≤ c0) (hcF : cF ≤ 72) (hRm : iv_Rm R c0 cF) (hRf : d + 2 ≤ R.frames) (hRl : 200 * (d + 2) ≤ R.locals)
    {k : Nat} (hG : GoodIn Ts ws) (hlk : (Cond.methodLink own i.2.2.2.1.toNat y).before args s = true) (hini : (Cond.initialized y.cls).before args s = true) (hins : (Cond.instanceMethod y).before args s = true) (hin : y.name = "<init>") (hw : ws = Cond.code y bytes maxL none :: ws') (hmL : maxL ≤ 100)
    (hy : y.cls ≠ "java/lang/invoke/MethodHandle" ∧ y.cls ≠ "java/lang/invoke/VarHandle" ∧ (parseMethodDescriptor y.desc).map (fun d => d.parameters.length) = some i.2.2.1)
    (hs : iv_cv k i ls st h = some a)
    (kc : ∀ as ls2 st2 h2, a = .inr (.inr (.inr (i.2.1, as, ls2, st2, h2))) → iv_Met g l y ws d as h2 rv h' ∧ h'.1 ≤ cF ∧ iv_W p l e R s m args below meth c Q g nL c0 cF (pc + 3) ls2 (rv.toList ++ st2) h') : iv_W p l e R s m args below meth c Q g nL c0 cF pc ls st h := by
  unfold iv_cv at hs
  split at hs
  · rename_i q st2 hdr
    split at hs
    · rename_i hcnd
      obtain ⟨⟨c1, c2⟩, c3⟩ := hcnd
      obtain rfl := Option.some.inj hs
      obtain ⟨⟨m1, m2, hM⟩, m3, kk⟩ := kc _ _ _ _ rfl
      intro h0 h1 lsC H locs hL hI hl
      refine iv_bysize hsz hc8 h0 hI (fun hz => ?_)
      obtain ⟨⟨n1, n2⟩, n3⟩ := iv_counts hcF h0 m1 m3 hRm
      refine iv_back (as := (Value.ref (iv_a g q) :: (st.take i.2.2.1).reverse.map (iv_v g)).toArray) hl hL n1 n2 (Nat.le_trans h0 m1) m3 ?_ kk
      exact va_runI (As := ((st.take i.2.2.1).reverse.map (iv_v g))) (b := iv_a g q) (rest := st2.map (iv_v g)) ⟨hx, hb, hml, hown, hts⟩ hM (cwI i.2.2.1 hts hG hw rfl rfl hini hlk hins hin hy (iv_room hRf hRl hmL))
        ⟨iv_Pc.blind g _ h, iv_pre (as := .ref q :: (st.take i.2.2.1).reverse) hV hI hz⟩ rfl (iv_as_len (iv_drop_le hdr)) hL.1.1 (iv_split hdr) (lv_room (iv_sum4 g st2 c3)) hd n3
    · cases hs
  · cases hs
theorem iv_c75 {host : String} (hx : p.tables.exec = Jvm.exec) (hb : c.code = cc) (hml : c.maxLocals = nL) (hd : decode cc pc = .ok (.invokespecial i.2.2.2.1.toNat, 3)) (hown : s.vm.findClass own = some m.cls) (hts : ∀ w ∈ Ts, w.before args s = true) (hV : iv_V g s)
    (hsz : s.heap.size = g.2.2.1.size + (c0 - 8)) (hc8 : 8 ≤ c0) (hcF : cF ≤ 72) (hRm : iv_Rm R c0 cF) (hRf : d + 2 ≤ R.frames) (hRl : 200 * (d + 2) ≤ R.locals)
    {k : Nat} (hG : GoodIn Ts ws) (hnw : va_Nw (.methodLinkNest own i.2.2.2.1.toNat y host) s) (hini : (Cond.initialized y.cls).before args s = true) (hins : (Cond.instanceMethod y).before args s = true) (hin : y.name = "<init>") (hw : ws = Cond.code y bytes maxL none :: ws') (hmL : maxL ≤ 100)
    (hy : y.cls ≠ "java/lang/invoke/MethodHandle" ∧ y.cls ≠ "java/lang/invoke/VarHandle" ∧ (parseMethodDescriptor y.desc).map (fun d => d.parameters.length) = some i.2.2.1)
    (hs : iv_cv k i ls st h = some a)
    (kc : ∀ as ls2 st2 h2, a = .inr (.inr (.inr (i.2.1, as, ls2, st2, h2))) → iv_Met g l y ws d as h2 rv h' ∧ h'.1 ≤ cF ∧ iv_W p l e R s m args below meth c Q g nL c0 cF (pc + 3) ls2 (rv.toList ++ st2) h') : iv_W p l e R s m args below meth c Q g nL c0 cF pc ls st h := by
  unfold iv_cv at hs
  split at hs
  · rename_i q st2 hdr
    split at hs
    · rename_i hcnd
      obtain ⟨⟨c1, c2⟩, c3⟩ := hcnd
      obtain rfl := Option.some.inj hs
      obtain ⟨⟨m1, m2, hM⟩, m3, kk⟩ := kc _ _ _ _ rfl
      intro h0 h1 lsC H locs hL hI hl
      refine iv_bysize hsz hc8 h0 hI (fun hz => ?_)
      obtain ⟨⟨n1, n2⟩, n3⟩ := iv_counts hcF h0 m1 m3 hRm
      refine iv_back (as := (Value.ref (iv_a g q) :: (st.take i.2.2.1).reverse.map (iv_v g)).toArray) hl hL n1 n2 (Nat.le_trans h0 m1) m3 ?_ kk
      exact va_runIN (As := ((st.take i.2.2.1).reverse.map (iv_v g))) (b := iv_a g q) (rest := st2.map (iv_v g)) ⟨hx, hb, hml, hown, hts⟩ hM ⟨va_cnB i.2.2.1 hts hG hw rfl rfl hnw hini hy (iv_room hRf hRl hmL), hin, hins⟩
        ⟨iv_Pc.blind g _ h, iv_pre (as := .ref q :: (st.take i.2.2.1).reverse) hV hI hz⟩ rfl (iv_as_len (iv_drop_le hdr)) hL.1.1 (iv_split hdr) (lv_room (iv_sum4 g st2 c3)) hd n3
    · cases hs
  · cases hs
end IVC
