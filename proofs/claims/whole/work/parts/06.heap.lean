/-! what the tables say, in a form that goes along with calls -/
def iv_tys (g : iv_G) : List (ClassId × FieldType) := [(g.2.1 6, .int), (g.2.1 7, .long), (g.2.1 8, .boolean), (g.2.1 9, .object RX2), (g.2.1 10, .array .int)]
def iv_nests : List Cond := [.methodLinkNest RX4 9 ⟨RX1, "<init>", "()V"⟩ RX4, .methodLinkNest RX4 24 ⟨RX0, "<init>", "()V"⟩ RX4, .methodLinkNest RX4 31 ⟨RX3, "<init>", "()V"⟩ RX4, .methodLinkNest RX4 46 ⟨RX2, "<init>", "()V"⟩ RX4, .methodLinkNest RX2 26 ⟨RX4, "asNumber", "(Z)I"⟩ RX4, .methodLinkNest RX1 51 ⟨RX4, "asNumber", "(Z)I"⟩ RX4]
/-- a String constant: class, entry, text, place -/
def iv_strs : List (String × Nat × String × Nat) := [(RX3, 32, "person", 2), (RX3, 41, "wrong", 3), (RX3, 46, "right", 4), (RX3, 51, "words", 5), (RX3, 56, "minutes", 6), (RX3, 61, "absent", 7), (RX5, 145, "person", 2), (RX5, 155, "minutes", 6), (RX5, 157, "absent", 7), (RX5, 159, "wrong", 3), (RX5, 161, "right", 4), (RX5, 163, "words", 5)]
def iv_AOA (U : State) : Prop := (Cond.arrayOver (.array .int)).before #[] U = true
theorem iv_AOA.moved {u U : State} (hvm : u.vm.Alike U.vm) (h : iv_AOA u) : iv_AOA U := by
  have h0 := h
  unfold iv_AOA Cond.before Cond.holds at h0
  simp only [Cond.value] at h0
  have e0 : U.vm.findClass (FieldType.array .int).toString = u.vm.findClass (FieldType.array .int).toString := by rw [hvm.findClass]
  cases hc : u.vm.findClass (FieldType.array .int).toString with
  | none => rw [hc] at h0; cases h0
  | some comp =>
    rw [hc, Option.bind_some] at h0
    cases hi : (u.vm.classes.findIdx? fun (x : Class) => match x.kind with | .array component _ => component == comp | _ => false) with
    | none =>
      have h1 : ((none : Option Nat).bind (fun c => (u.vm.classes[c]?).map fun (k : Class) => match k.kind with | .array _ ty => decide (ty = FieldType.array .int) && decide (u.vm.findClass ("[" ++ (FieldType.array .int).toString) = some c) | _ => false) == some true) = true := (congrArg (fun o : Option Nat => (o.bind (fun c => (u.vm.classes[c]?).map fun (k : Class) => match k.kind with | .array _ ty => decide (ty = FieldType.array .int) && decide (u.vm.findClass ("[" ++ (FieldType.array .int).toString) = some c) | _ => false) == some true)) hi).symm.trans h0
      cases h1
    | some c =>
      have h1 : ((some c : Option Nat).bind (fun c => (u.vm.classes[c]?).map fun (k : Class) => match k.kind with | .array _ ty => decide (ty = FieldType.array .int) && decide (u.vm.findClass ("[" ++ (FieldType.array .int).toString) = some c) | _ => false) == some true) = true := (congrArg (fun o : Option Nat => (o.bind (fun c => (u.vm.classes[c]?).map fun (k : Class) => match k.kind with | .array _ ty => decide (ty = FieldType.array .int) && decide (u.vm.findClass ("[" ++ (FieldType.array .int).toString) = some c) | _ => false) == some true)) hi).symm.trans h0
      rw [Option.bind_some] at h1
      cases hk : u.vm.classes[c]? with
      | none => rw [hk] at h1; cases h1
      | some k =>
        obtain ⟨k', hk', he⟩ := hvm.2.2 _ _ hk
        rw [hk, Option.map_some] at h1
        have hkk : k'.kind = k.kind := by rw [he]
        have hi2 : (U.vm.classes.findIdx? fun (x : Class) => match x.kind with | .array component _ => component == comp | _ => false) = some c := by
          have b1 := va_idx_bare U.vm comp
          have b2 := va_idx_bare u.vm comp
          have b3 : U.vm.bare = u.vm.bare := by first | exact hvm.bare_eq | exact hvm.bare_eq.symm
          rw [b3] at b1
          exact b1.symm.trans (b2.trans hi)
        have f2 : U.vm.findClass ("[" ++ (FieldType.array .int).toString) = u.vm.findClass ("[" ++ (FieldType.array .int).toString) := by rw [hvm.findClass]
        unfold iv_AOA Cond.before Cond.holds
        simp only [Cond.value]
        rw [e0, hc, Option.bind_some]
        refine (congrArg (fun o : Option Nat => (o.bind (fun c => (U.vm.classes[c]?).map fun (k : Class) => match k.kind with | .array _ ty => decide (ty = FieldType.array .int) && decide (U.vm.findClass ("[" ++ (FieldType.array .int).toString) = some c) | _ => false) == some true)) hi2).trans ?_
        rw [Option.bind_some, hk', Option.map_some, hkk, f2]
        exact h1
def iv_V (g : iv_G) (U : State) : Prop := va_K g.1 vwCl (iv_tys g) U ∧ (∀ w ∈ iv_nests, va_Nw w U) ∧ (∀ q ∈ iv_strs, vk_R q.1 q.2.1 q.2.2.1 (iv_a g q.2.2.2) U) ∧ (va_AO RX2 U ∧ iv_AOA U) ∧
  (va_X (iv_a g 0) g.2.2.2.2.1 g.2.2.2.2.2 U g.2.2.1 ∧ va_Z RX4 "OVER" "[I" (.ref (iv_a g 1)) (iv_new g) U g.2.2.1 ∧ va_T .int (iv_a g 1) 6 (fun j => .int (iv_ov.getD j 0)) (iv_new g) U g.2.2.1) ∧
  (va_Z "java/lang/String" "COMPACT_STRINGS" "Z" (.int 1) (iv_new g) U g.2.2.1 ∧ ∃ adV : Nat → Nat, vk_S 6 [6, 5, 5, 5, 7, 6] iv_sl (fun k => iv_a g (k + 2)) adV (iv_new g) U g.2.2.1) ∧ iv_a g 0 < g.2.2.1.size ∧ va_Zq "jdk/internal/util/Preconditions" "SIOOBE_FORMATTER" "Ljava/util/function/BiFunction;" (iv_new g) U g.2.2.1
theorem iv_nests_warm {s U : State} (hW : s.WarmedH U.vm) {w : Cond} (hw : w ∈ iv_nests) (h : va_Nw w s) : va_Nw w U := by
  simp only [iv_nests, List.mem_cons, List.not_mem_nil, or_false] at hw
  rcases hw with rfl | rfl | rfl | rfl | rfl | rfl <;> exact va_Nw.warmM hW h
theorem iv_V.warm {g : iv_G} {s U : State} (hW : s.WarmedH U.vm) (h : iv_V g s) : iv_V g U := by
  obtain ⟨h1, h2, h3, ⟨h4, h5⟩, ⟨h6, h7, h8⟩, ⟨h9, adV, h10⟩, h11, h12⟩ := h
  exact ⟨va_K.moved hW.alike h1, fun w hw => iv_nests_warm hW hw (h2 w hw), fun q hq => vk_R.warm hW (h3 q hq), ⟨h4.moved hW.alike, h5.moved hW.alike⟩, ⟨h6.moved hW.alike, va_Z.moved hW.alike h7, h8.moved hW.alike⟩, ⟨va_Z.moved hW.alike h9, adV, h10.moved hW.alike⟩, h11, h12.moved hW.alike⟩
theorem iv_k_lo {p : Nat} (h : iv_k p ≤ 10) : 8 ≤ p ∧ p < 72 := by
  have key : ∀ p, p < 72 → iv_k p ≤ 10 → 8 ≤ p := by decide +kernel
  rcases Nat.lt_or_ge p 72 with q | q
  · exact ⟨key p q h, q⟩
  · exfalso
    have : iv_k p = 99 := by
      unfold iv_k
      rw [List.getD_eq_getElem?_getD, List.getElem?_eq_none (by show iv_kl.length ≤ p; exact q)]
      rfl
    omega
theorem iv_rv_v (g : iv_G) (h : iv_H) (p i : Nat) : iv_v g (iv_rv (h.2.2.2 p i)) = va_rf (iv_ar g h p i) := by
  unfold iv_ar
  cases h.2.2.2 p i <;> rfl
theorem iv_Inv.S {g : iv_G} {h : iv_H} {H : Heap} {locs : List Loc} (hI : iv_Inv g h H) (hl : ∀ q ∈ locs, iv_new g q.base) : va_S (iv_new g) g.2.2.1 H locs := by
  obtain ⟨⟨a1, a2, a3⟩, b, -⟩ := hI
  exact ⟨by omega, fun q h1 _ => b q h1, hl⟩
/-- one cell is written, no cell is made -/
theorem iv_Inv.step {g : iv_G} {h h' : iv_H} {H H1 : Heap} {locs1 : List Loc} (hI : iv_Inv g h H) (hc : h'.1 = h.1) (hP : va_P g.1 vwCl (iv_w g h') H1) (hS : va_S (iv_new g) H H1 locs1) (h0R : h'.2.2.2 0 = h.2.2.2 0) (h0 : h'.2.1 0 = h.2.1 0) (h1 : h'.2.1 1 = h.2.1 1) : iv_Inv g h' H1 := by
  obtain ⟨⟨a1, a2, a3⟩, b, -, d1, d2, d3⟩ := hI
  refine ⟨⟨by omega, by omega, ?_⟩, fun q hq => ?_, hP, by rw [h0R]; exact d1, fun j hj => by rw [h0]; exact d2 j hj, fun j hj => by rw [h1]; exact d3 j hj⟩
  · rw [hc]; exact Nat.le_trans a3 hS.1
  · rw [hS.2.1 q (by omega) (fun z => by unfold iv_new at z; omega)]
    exact b q hq
theorem iv_set_map {n k : Nat} {f f' : Nat → Value} {x : Value} (h1 : f' k = x) (h2 : ∀ j, j ≠ k → f' j = f j) : ((List.range n).map f).set k x = (List.range n).map f' := by
  apply List.ext_getElem?
  intro j
  by_cases hj : j < n
  · by_cases e : j = k
    · subst e
      rw [List.getElem?_set_self (by simpa using hj)]
      simp [List.getElem?_range hj, h1]
    · rw [List.getElem?_set_ne (Ne.symm e)]
      simp [List.getElem?_range hj, h2 j e]
  · rw [List.getElem?_eq_none (by simp; omega), List.getElem?_eq_none (by simp; omega)]
section IVH
variable {p : Program} {l : Launch} {e : Env} {R : Room} {s : State} {m : MethodId} {args : Array Value} {below : List Frame} {meth : Method} {c : Code} {Q : State → Prop} {g : iv_G} {nL c0 cF : Nat} {cc : ByteArray} {pc : Nat} {i : iv_I} {ls : iv_L} {st : List Value} {h : iv_H} {a : iv_A} {Ts : List Cond}
theorem iv_c45 (hx : p.tables.exec = Jvm.exec) (hb : c.code = cc) {dflt lo hi : Int} {offs : Array Int} {len : Nat} (hd : decode cc pc = .ok (.tableswitch dflt lo hi offs, len)) (ht : (pc : Int) + dflt = (i.2.1 : Int)) (hlo : lo = (i.2.2.1 : Int)) (hhi : hi = lo + (i.2.2.2.2.length : Int) - 1) (hof : offs.toList = i.2.2.2.2.map (fun (t : Nat) => (t : Int) - (pc : Int))) (hs : iv_o45 i ls st h = some a) (kj : ∀ pc2 ls2 st2 h2, a = .inr (.inl (pc2, ls2, st2, h2)) → iv_W p l e R s m args below meth c Q g nL c0 cF pc2 ls2 st2 h2) : iv_W p l e R s m args below meth c Q g nL c0 cF pc ls st h := by
  unfold iv_o45 at hs
  split at hs
  · rename_i x st2
    obtain rfl := Option.some.inj hs
    intro h0 h1 lsC H locs hL hI hl
    have K := kj _ _ _ _ rfl h0 h1 lsC H locs hL hI hl
    unfold iv_tg at K
    by_cases hx1 : x.toInt < (i.2.2.1 : Int)
    · rw [if_pos hx1] at K
      exact lv_tableOut hx hb hd (Or.inl (by rw [hlo]; exact hx1)) ht K
    · rw [if_neg hx1] at K
      by_cases hx2 : (x.toInt - (i.2.2.1 : Int)).toNat < i.2.2.2.2.length
      · have hg : i.2.2.2.2[(x.toInt - (i.2.2.1 : Int)).toNat]? = some (i.2.2.2.2[(x.toInt - (i.2.2.1 : Int)).toNat]) := List.getElem?_eq_getElem hx2
        rw [List.getD_eq_getElem?_getD, hg, Option.getD_some] at K
        refine lv_tableIn (off := ((i.2.2.2.2[(x.toInt - (i.2.2.1 : Int)).toNat] : Nat) : Int) - (pc : Int)) hx hb hd (by rw [hlo]; exact hx1) (by omega) ?_ (by omega) K
        rw [← Array.getElem?_toList, hof, List.getElem?_map, hlo, hg]
        rfl
      · rw [List.getD_eq_getElem?_getD, List.getElem?_eq_none (by omega), Option.getD_none] at K
        exact lv_tableOut hx hb hd (Or.inr (by omega)) ht K
  · cases hs
theorem iv_c46 (hx : p.tables.exec = Jvm.exec) (hb : c.code = cc) (hd : decode cc pc = .ok (.getfield i.2.2.2.1.toNat, 3)) {own : String} (hown : s.vm.findClass own = some m.cls) (hts : ∀ w ∈ Ts, w.before args s = true) (hV : iv_V g s) {r : vw_C} (hr : vwCl[i.2.1]? = some r) (hin : ∀ w ∈ u_ws r.1 r.2.1 r.2.2, w ∈ Ts) (hk : i.2.2.1 < r.2.2) (hlink : (Cond.fieldLink own i.2.2.2.1.toNat r.1 (r.2.1 i.2.2.1).2.1 (r.2.1 i.2.2.1).2.2.1).before args s = true) (hsm : (r.2.1 i.2.2.1).1 = r.1) (h6 : i.2.1 < 6) (hf : iv_f i.2.1 i.2.2.1 = 2) (hs : iv_o46 i ls st h = some a) (kn : ∀ ls2 st2 h2, a = .inl (ls2, st2, h2) → iv_W p l e R s m args below meth c Q g nL c0 cF (pc + 3) ls2 st2 h2) : iv_W p l e R s m args below meth c Q g nL c0 cF pc ls st h := by
  unfold iv_o46 at hs
  split at hs
  · rename_i q st2
    split at hs
    · rename_i hcnd
      obtain rfl := Option.some.inj hs
      intro h0 h1 lsC H locs hL hI hl
      have hk6 : iv_k q ≤ 10 := by omega
      obtain ⟨k1, k2⟩ := iv_k_lo hk6
      obtain ⟨r2, hr2, hn2⟩ := (iv_k_ok q k2 k1).2 (by omega)
      have hrr : r2 = r := Option.some.inj (hr2.symm.trans (by rw [hcnd.2]; exact hr))
      subst hrr
      have he : (iv_w g h)[q - 8]? = some (iv_a g q, .inr (i.2.1, (List.range (iv_n q)).map (iv_fd g h q i.2.1))) := by rw [iv_w_get k1 hcnd.1, iv_e_obj hcnd.2 h6]
      refine va_get (v := iv_v g (iv_rv (h.2.2.2 q i.2.2.1))) hx hb hts hin hown hV.1 hI.2.2.1 (q - 8) he hr i.2.2.1 hk hlink (fun x hx9 => by rw [hsm] at hx9; exact hx9) ?_ hd (kn _ _ _ rfl h0 h1 lsC H locs hL hI hl)
      rw [List.getElem?_map, List.getElem?_range (by rw [← hn2]; exact hk)]
      rw [iv_rv_v]; simp [iv_fd, hf]
    · cases hs
  · cases hs
theorem iv_c47 (hx : p.tables.exec = Jvm.exec) (hb : c.code = cc) (hd : decode cc pc = .ok (.getfield i.2.2.2.1.toNat, 3)) {own : String} (hown : s.vm.findClass own = some m.cls) (hts : ∀ w ∈ Ts, w.before args s = true) (hV : iv_V g s) {r : vw_C} (hr : vwCl[i.2.1]? = some r) (hin : ∀ w ∈ u_ws r.1 r.2.1 r.2.2, w ∈ Ts) (hk : i.2.2.1 < r.2.2) (hlink : (Cond.fieldLink own i.2.2.2.1.toNat r.1 (r.2.1 i.2.2.1).2.1 (r.2.1 i.2.2.1).2.2.1).before args s = true) (hsm : (r.2.1 i.2.2.1).1 = r.1) (h6 : i.2.1 < 6) (hf : ¬ iv_f i.2.1 i.2.2.1 = 2) (hs : iv_o47 i ls st h = some a) (kn : ∀ ls2 st2 h2, a = .inl (ls2, st2, h2) → iv_W p l e R s m args below meth c Q g nL c0 cF (pc + 3) ls2 st2 h2) : iv_W p l e R s m args below meth c Q g nL c0 cF pc ls st h := by
  unfold iv_o47 at hs
  split at hs
  · rename_i q st2
    split at hs
    · rename_i hcnd
      obtain rfl := Option.some.inj hs
      intro h0 h1 lsC H locs hL hI hl
      have hk6 : iv_k q ≤ 10 := by omega
      obtain ⟨k1, k2⟩ := iv_k_lo hk6
      obtain ⟨r2, hr2, hn2⟩ := (iv_k_ok q k2 k1).2 (by omega)
      have hrr : r2 = r := Option.some.inj (hr2.symm.trans (by rw [hcnd.2]; exact hr))
      subst hrr
      have he : (iv_w g h)[q - 8]? = some (iv_a g q, .inr (i.2.1, (List.range (iv_n q)).map (iv_fd g h q i.2.1))) := by rw [iv_w_get k1 hcnd.1, iv_e_obj hcnd.2 h6]
      refine va_get (v := .int (h.2.1 q i.2.2.1)) hx hb hts hin hown hV.1 hI.2.2.1 (q - 8) he hr i.2.2.1 hk hlink (fun x hx9 => by rw [hsm] at hx9; exact hx9) ?_ hd (kn _ _ _ rfl h0 h1 lsC H locs hL hI hl)
      rw [List.getElem?_map, List.getElem?_range (by rw [← hn2]; exact hk)]
      simp [iv_fd, hf]
    · cases hs
  · cases hs
theorem iv_c48 (hx : p.tables.exec = Jvm.exec) (hb : c.code = cc) (hd : decode cc pc = .ok (.putfield i.2.2.2.1.toNat, 3)) {own : String} (hown : s.vm.findClass own = some m.cls) (hts : ∀ w ∈ Ts, w.before args s = true) (hV : iv_V g s) {r : vw_C} (hr : vwCl[i.2.1]? = some r) (hin : ∀ w ∈ u_ws r.1 r.2.1 r.2.2, w ∈ Ts) (hk : i.2.2.1 < r.2.2) (hlink : (Cond.fieldLink own i.2.2.2.1.toNat r.1 (r.2.1 i.2.2.1).2.1 (r.2.1 i.2.2.1).2.2.1).before args s = true) (hsm : (r.2.1 i.2.2.1).1 = r.1) (h6 : i.2.1 < 6) (ty0 : Nat → FieldType) (hty : ∀ k, k < r.2.2 → parseFieldDescriptor (r.2.1 k).2.2.1 = some (ty0 k)) (hnm : ∀ a, a < r.2.2 → ∀ b, b < r.2.2 → a ≠ b → (r.2.1 a).2.1 ≠ (r.2.1 b).2.1) (hfin : (r.2.1 i.2.2.1).2.2.2 = false) (hpt : parseFieldDescriptor (r.2.1 i.2.2.1).2.2.1 = some .int) (hf : ¬ iv_f i.2.1 i.2.2.1 = 2) (hs : iv_o48 i ls st h = some a) (kn : ∀ ls2 st2 h2, a = .inl (ls2, st2, h2) → iv_W p l e R s m args below meth c Q g nL c0 cF (pc + 3) ls2 st2 h2) : iv_W p l e R s m args below meth c Q g nL c0 cF pc ls st h := by
  unfold iv_o48 at hs
  split at hs
  · rename_i v q st2
    split at hs
    · rename_i hcnd
      obtain rfl := Option.some.inj hs
      intro h0 h1 lsC H locs hL hI hl
      have hk6 : iv_k q ≤ 10 := by omega
      obtain ⟨k1, k2⟩ := iv_k_lo hk6
      obtain ⟨r2, hr2, hn2⟩ := (iv_k_ok q k2 k1).2 (by omega)
      have hrr : r2 = r := Option.some.inj (hr2.symm.trans (by rw [hcnd.2]; exact hr))
      subst hrr
      have he : (iv_w g h)[q - 8]? = some (iv_a g q, .inr (i.2.1, (List.range (iv_n q)).map (iv_fd g h q i.2.1))) := by rw [iv_w_get k1 hcnd.1, iv_e_obj hcnd.2 h6]
      refine va_put (ty := .int) (v := .int v) hx hb hts hin ty0 hty hnm hown hV.1 hI.2.2.1 (iv_w_D g h) (H0 := H) ⟨Nat.le_refl _, fun _ _ _ => rfl, hl⟩ (q - 8) he hr i.2.2.1 hk hlink (fun x hx9 => by rw [hsm] at hx9; exact hx9) hfin hpt rfl rfl (by simp; rw [← hn2]; exact hk) hd (fun H1 locs1 hP1 _ hS1 => ?_)
      have e1 : ((List.range (iv_n q)).map (iv_fd g h q i.2.1)).set i.2.2.1 (.int v) = (List.range (iv_n q)).map (iv_fd g (iv_uI h q i.2.2.1 v) q i.2.1) := iv_set_map (by simp [iv_fd, hf, iv_uI, iv_up]) (fun j hj => by simp [iv_fd, iv_ar, iv_uI, iv_up, hj])
      rw [e1, ← iv_e_obj (g := g) (h := iv_uI h q i.2.2.1 v) hcnd.2 h6, iv_w_set (h' := iv_uI h q i.2.2.1 v) k1 hcnd.1 rfl (fun z hz => iv_uI_o hz)] at hP1
      exact kn _ _ _ rfl h0 h1 lsC H1 locs1 hL (hI.step rfl hP1 hS1 rfl (iv_up_ne (by omega)) (iv_up_ne (by omega))) hS1.2.2
    · cases hs
  · cases hs
theorem iv_c76 (hx : p.tables.exec = Jvm.exec) (hb : c.code = cc) (hd : decode cc pc = .ok (.putfield i.2.2.2.1.toNat, 3)) {own : String} (hown : s.vm.findClass own = some m.cls) (hts : ∀ w ∈ Ts, w.before args s = true) (hV : iv_V g s) {r : vw_C} (hr : vwCl[i.2.1]? = some r) (hin : ∀ w ∈ u_ws r.1 r.2.1 r.2.2, w ∈ Ts) (hk : i.2.2.1 < r.2.2) (hlink : (Cond.fieldLink own i.2.2.2.1.toNat r.1 (r.2.1 i.2.2.1).2.1 (r.2.1 i.2.2.1).2.2.1).before args s = true) (hsm : (r.2.1 i.2.2.1).1 = r.1) (h6 : i.2.1 < 6) (ty0 : Nat → FieldType) (hty : ∀ k, k < r.2.2 → parseFieldDescriptor (r.2.1 k).2.2.1 = some (ty0 k)) (hnm : ∀ a, a < r.2.2 → ∀ b, b < r.2.2 → a ≠ b → (r.2.1 a).2.1 ≠ (r.2.1 b).2.1) (hfin : (r.2.1 i.2.2.1).2.2.2 = false) (hpt : parseFieldDescriptor (r.2.1 i.2.2.1).2.2.1 = some .boolean) (hf : ¬ iv_f i.2.1 i.2.2.1 = 2) (hs : iv_o76 i ls st h = some a) (kn : ∀ ls2 st2 h2, a = .inl (ls2, st2, h2) → iv_W p l e R s m args below meth c Q g nL c0 cF (pc + 3) ls2 st2 h2) : iv_W p l e R s m args below meth c Q g nL c0 cF pc ls st h := by
  unfold iv_o76 at hs
  split at hs
  · rename_i v q st2
    split at hs
    · rename_i hcnd2
      obtain ⟨hcnd, hbv⟩ := hcnd2
      obtain rfl := Option.some.inj hs
      intro h0 h1 lsC H locs hL hI hl
      have hk6 : iv_k q ≤ 10 := by omega
      obtain ⟨k1, k2⟩ := iv_k_lo hk6
      obtain ⟨r2, hr2, hn2⟩ := (iv_k_ok q k2 k1).2 (by omega)
      have hrr : r2 = r := Option.some.inj (hr2.symm.trans (by rw [hcnd.2]; exact hr))
      subst hrr
      have he : (iv_w g h)[q - 8]? = some (iv_a g q, .inr (i.2.1, (List.range (iv_n q)).map (iv_fd g h q i.2.1))) := by rw [iv_w_get k1 hcnd.1, iv_e_obj hcnd.2 h6]
      refine va_put (ty := .boolean) (v := .int v) hx hb hts hin ty0 hty hnm hown hV.1 hI.2.2.1 (iv_w_D g h) (H0 := H) ⟨Nat.le_refl _, fun _ _ _ => rfl, hl⟩ (q - 8) he hr i.2.2.1 hk hlink (fun x hx9 => by rw [hsm] at hx9; exact hx9) hfin hpt (by rcases hbv with z | z <;> (subst z; decide +kernel)) (by rcases hbv with z | z <;> (subst z; decide +kernel)) (by simp; rw [← hn2]; exact hk) hd (fun H1 locs1 hP1 _ hS1 => ?_)
      have e1 : ((List.range (iv_n q)).map (iv_fd g h q i.2.1)).set i.2.2.1 (.int v) = (List.range (iv_n q)).map (iv_fd g (iv_uI h q i.2.2.1 v) q i.2.1) := iv_set_map (by simp [iv_fd, hf, iv_uI, iv_up]) (fun j hj => by simp [iv_fd, iv_ar, iv_uI, iv_up, hj])
      rw [e1, ← iv_e_obj (g := g) (h := iv_uI h q i.2.2.1 v) hcnd.2 h6, iv_w_set (h' := iv_uI h q i.2.2.1 v) k1 hcnd.1 rfl (fun z hz => iv_uI_o hz)] at hP1
      exact kn _ _ _ rfl h0 h1 lsC H1 locs1 hL (hI.step rfl hP1 hS1 rfl (iv_up_ne (by omega)) (iv_up_ne (by omega))) hS1.2.2
    · cases hs
  · cases hs
theorem iv_c77 (hx : p.tables.exec = Jvm.exec) (hb : c.code = cc) (hd : decode cc pc = .ok (.putfield i.2.2.2.1.toNat, 3)) {own : String} (hown : s.vm.findClass own = some m.cls) (hts : ∀ w ∈ Ts, w.before args s = true) (hV : iv_V g s) {r : vw_C} (hr : vwCl[i.2.1]? = some r) (hin : ∀ w ∈ u_ws r.1 r.2.1 r.2.2, w ∈ Ts) (hk : i.2.2.1 < r.2.2) (hlink : (Cond.fieldLink own i.2.2.2.1.toNat r.1 (r.2.1 i.2.2.1).2.1 (r.2.1 i.2.2.1).2.2.1).before args s = true) (hsm : (r.2.1 i.2.2.1).1 = r.1) (h6 : i.2.1 < 6) (ty0 : Nat → FieldType) (hty : ∀ k, k < r.2.2 → parseFieldDescriptor (r.2.1 k).2.2.1 = some (ty0 k)) (hnm : ∀ a, a < r.2.2 → ∀ b, b < r.2.2 → a ≠ b → (r.2.1 a).2.1 ≠ (r.2.1 b).2.1) (hfin : (r.2.1 i.2.2.1).2.2.2 = true) (hin2 : meth.name = "<init>") (hdecl : (r.2.1 i.2.2.1).1 = own) {ty : FieldType} (hpt : parseFieldDescriptor (r.2.1 i.2.2.1).2.2.1 = some ty) (hnar : ∀ q : Nat, narrow ty (.ref q) = .ref q ∧ fits ty (.ref q) = true) (hf : iv_f i.2.1 i.2.2.1 = 2) (hs : iv_o77 i ls st h = some a) (kn : ∀ ls2 st2 h2, a = .inl (ls2, st2, h2) → iv_W p l e R s m args below meth c Q g nL c0 cF (pc + 3) ls2 st2 h2) : iv_W p l e R s m args below meth c Q g nL c0 cF pc ls st h := by
  unfold iv_o77 at hs
  split at hs
  · rename_i v q st2
    split at hs
    · rename_i hcnd2
      obtain ⟨hcnd, hbv⟩ := hcnd2
      obtain rfl := Option.some.inj hs
      intro h0 h1 lsC H locs hL hI hl
      have hk6 : iv_k q ≤ 10 := by omega
      obtain ⟨k1, k2⟩ := iv_k_lo hk6
      obtain ⟨r2, hr2, hn2⟩ := (iv_k_ok q k2 k1).2 (by omega)
      have hrr : r2 = r := Option.some.inj (hr2.symm.trans (by rw [hcnd.2]; exact hr))
      subst hrr
      have he : (iv_w g h)[q - 8]? = some (iv_a g q, .inr (i.2.1, (List.range (iv_n q)).map (iv_fd g h q i.2.1))) := by rw [iv_w_get k1 hcnd.1, iv_e_obj hcnd.2 h6]
      refine va_putF (ty := ty) (v := .ref (iv_a g v)) hx hb hts hin ty0 hty hnm hown hV.1 hI.2.2.1 (iv_w_D g h) (H0 := H) ⟨Nat.le_refl _, fun _ _ _ => rfl, hl⟩ (q - 8) he hr i.2.2.1 hk hlink (fun x hx9 => by rw [hsm] at hx9; exact hx9) hfin hin2 hdecl hpt (hnar _).1 (hnar _).2 (by simp; rw [← hn2]; exact hk) hd (fun H1 locs1 hP1 _ hS1 => ?_)
      have e1 : ((List.range (iv_n q)).map (iv_fd g h q i.2.1)).set i.2.2.1 (.ref (iv_a g v)) = (List.range (iv_n q)).map (iv_fd g (iv_uR h q i.2.2.1 (some v)) q i.2.1) := iv_set_map (by simp [iv_fd, hf, iv_uR, iv_up, iv_ar, va_rf]) (fun j hj => by simp [iv_fd, iv_ar, iv_uR, iv_up, hj])
      rw [e1, ← iv_e_obj (g := g) (h := iv_uR h q i.2.2.1 (some v)) hcnd.2 h6, iv_w_set (h' := iv_uR h q i.2.2.1 (some v)) k1 hcnd.1 rfl (fun z hz => iv_uR_o hz)] at hP1
      exact kn _ _ _ rfl h0 h1 lsC H1 locs1 hL (hI.step rfl hP1 hS1 (iv_up_ne (by omega)) rfl rfl) hS1.2.2
    · cases hs
  · cases hs
theorem iv_c49 (hx : p.tables.exec = Jvm.exec) (hb : c.code = cc) (hd : decode cc pc = .ok (.getstatic i.2.2.2.1.toNat, 3)) {own : String} (hown : s.vm.findClass own = some m.cls) (hV : iv_V g s) (hsh : ∀ q, q < g.2.2.1.size → s.heap[q]? = g.2.2.1[q]?) (hsz : s.heap.size = g.2.2.1.size + (c0 - 8)) (hlink : (Cond.fieldLink own i.2.2.2.1.toNat RX4 "OVER" "[I").before args s = true) (hs : iv_o49 i ls st h = some a) (kn : ∀ ls2 st2 h2, a = .inl (ls2, st2, h2) → iv_W p l e R s m args below meth c Q g nL c0 cF (pc + 3) ls2 st2 h2) : iv_W p l e R s m args below meth c Q g nL c0 cF pc ls st h := by
  obtain rfl := Option.some.inj hs
  intro h0 h1 lsC H locs hL hI hl
  obtain ⟨-, -, -, -, ⟨-, hZ, -⟩, -⟩ := hV
  refine va_gets hx hb (hZ.kept (fun q h1 _ => hsh q h1)) (A := iv_new g) (H := H) (locs := locs) ⟨?_, fun q h1 h2 => ?_, hl⟩ hown hlink (fun _ z => z) hd (kn _ _ _ rfl h0 h1 lsC H locs hL hI hl)
  · obtain ⟨⟨a1, a2, a3⟩, -⟩ := hI
    omega
  · unfold iv_new at h2
    rw [hI.2.1 q (by omega), hsh q (by omega)]
end IVH
