/-! new cells -/
theorem iv_S_succ : ∀ k, k < 72 → iv_S (k + 1) = iv_S k + iv_n k := by decide +kernel
theorem iv_S_mono {a b : Nat} (h : a ≤ b) (hb : b ≤ 72) : iv_S a ≤ iv_S b := by
  induction b with
  | zero => rw [show a = 0 by omega]; exact Nat.le_refl _
  | succ b ih =>
    by_cases e : a = b + 1
    · rw [e]; exact Nat.le_refl _
    · rw [iv_S_succ b (by omega)]
      exact Nat.le_trans (ih (by omega) (by omega)) (Nat.le_add_right _ _)
theorem iv_sum4 (g : iv_G) (st : List Value) (h : st.length ≤ 4) : ((st.map (iv_v g)).map fun v => v.category).sum ≤ 8 := by
  have key : ∀ l : List Value, ((l.map (iv_v g)).map fun v => v.category).sum ≤ 2 * l.length := by
    intro l
    induction l with
    | nil => exact Nat.le_refl _
    | cons v l ih =>
      simp only [List.map_cons, List.sum_cons, List.length_cons]
      have := lv_cat (iv_v g v)
      omega
  exact Nat.le_trans (key st) (by omega)
/-- what is left of the room, up to cF places -/
def iv_Rm (R : Room) (c0 cF : Nat) : Prop := cF - c0 ≤ R.cells ∧ iv_S cF - iv_S c0 ≤ R.slots
theorem iv_Inv.push {g : iv_G} {h : iv_H} {H H1 : Heap} {e : va_E} (hI : iv_Inv g h H) (hk : h.1 < 72) (hz : H.size = g.2.2.1.size + (h.1 - 8)) (he : e = iv_e g (iv_nw h) h.1) (z1 : H1.size = H.size + 1) (o1 : ∀ q, q < H.size → H1[q]? = H[q]?) (n1 : va_at g.1 vwCl (iv_a g h.1, e) H1) : iv_Inv g (iv_nw h) H1 := by
  obtain ⟨⟨a1, a2, a3⟩, b, hP, d1, d2, d3⟩ := hI
  refine ⟨⟨by show 8 ≤ h.1 + 1; omega, by show h.1 + 1 ≤ 72; omega, by show _ + (h.1 + 1 - 8) ≤ _; omega⟩, fun q hq => by rw [o1 q (by omega)]; exact b q hq, ?_, ?_, fun j hj => ?_, fun j hj => ?_⟩
  · rw [← iv_w_push (h := h) (h' := iv_nw h) a1 rfl (fun q hq => iv_nw_o (by omega)), ← he]
    refine va_P.app (hP.kept (fun k x hx => ?_)) (fun k x hx => ?_)
    · obtain ⟨hk2, rfl⟩ := iv_w_at hx
      exact o1 _ (by show g.2.2.1.size + k < H.size; omega)
    · have hz2 : k < 1 := (List.getElem?_eq_some_iff.mp hx).1
      rw [show k = 0 by omega] at hx
      cases hx
      exact n1
  · show iv_zr h.2.2.2 h.1 none 0 0 = _
    rw [iv_zr_ne (by omega)]; exact d1
  · show iv_zr h.2.1 h.1 0 0 j = _
    rw [iv_zr_ne (by omega)]; exact d2 j hj
  · show iv_zr h.2.1 h.1 0 1 j = _
    rw [iv_zr_ne (by omega)]; exact d3 j hj
theorem iv_cl1 {a c0 cF r : Nat} (h0 : c0 ≤ a) (h : a + 1 ≤ cF) (hr : cF - c0 ≤ r) : a - c0 + 1 ≤ r := by omega
theorem iv_sl1 {A B C F n r : Nat} (e : C = A + n) (hBA : B ≤ A) (hCF : C ≤ F) (hr : F - B ≤ r) : A - B + n ≤ r := by omega
theorem iv_sl2 {A B C n m : Nat} (e : C = A + n) (hBA : B ≤ A) (hn : m = n) : A - B + m ≤ C - B := by omega
theorem iv_w1 {h : iv_H} {c0 : Nat} (h0 : c0 ≤ h.1) : h.1 - c0 + 1 ≤ (iv_nw h).1 - c0 := by
  show h.1 - c0 + 1 ≤ h.1 + 1 - c0
  omega
theorem iv_w2 {h : iv_H} {c0 n : Nat} (hS1 : iv_S (h.1 + 1) = iv_S h.1 + iv_n h.1) (hS2 : iv_S c0 ≤ iv_S h.1) (hn : n = iv_n h.1) : iv_S h.1 - iv_S c0 + n ≤ iv_S (iv_nw h).1 - iv_S c0 := by
  exact iv_sl2 hS1 hS2 hn
section IVN
variable {p : Program} {l : Launch} {e : Env} {R : Room} {s : State} {m : MethodId} {args : Array Value} {below : List Frame} {meth : Method} {c : Code} {Q : State → Prop} {g : iv_G} {nL c0 cF : Nat} {cc : ByteArray} {pc : Nat} {i : iv_I} {ls : iv_L} {st : List Value} {h : iv_H} {a : iv_A} {Ts : List Cond}
theorem iv_size {T : State} {H : Heap} {locs : List Loc} {sl : Nat} (hsz : s.heap.size = g.2.2.1.size + (c0 - 8)) (hc8 : 8 ≤ c0) (h0 : c0 ≤ h.1) (hI : iv_Inv g h H) (hT : T.heap = H) (X : Stand p l e R s m args below meth c T locs (h.1 - c0) sl) : H.size = g.2.2.1.size + (h.1 - 8) := by
  have := X.heapSize
  rw [hT] at this
  obtain ⟨⟨a1, a2, a3⟩, -⟩ := hI
  omega
theorem iv_bysize {H : Heap} {locs : List Loc} {sl : Nat} {fr : JFrame} (hsz : s.heap.size = g.2.2.1.size + (c0 - 8)) (hc8 : 8 ≤ c0) (h0 : c0 ≤ h.1) (hI : iv_Inv g h H) (k : H.size = g.2.2.1.size + (h.1 - 8) → W p l e R s m args below meth c H locs (h.1 - c0) sl Q fr) : W p l e R s m args below meth c H locs (h.1 - c0) sl Q fr := fun T hT X => k (iv_size hsz hc8 h0 hI hT X) T hT X
theorem iv_c59 (hx : p.tables.exec = Jvm.exec) (hb : c.code = cc) (hd : decode cc pc = .ok (.new i.2.2.2.1.toNat, 3)) {own : String} (hown : s.vm.findClass own = some m.cls) (hts : ∀ w ∈ Ts, w.before args s = true) (hV : iv_V g s) {r : vw_C} (hr : vwCl[i.2.1]? = some r) (hin : ∀ w ∈ u_ws r.1 r.2.1 r.2.2, w ∈ Ts) (hclink : (Cond.classLink own i.2.2.2.1.toNat r.1).before args s = true) (hinst : (Cond.instantiable r.1 r.2.2).before args s = true) (hini : (Cond.initialized r.1).before args s = true) (ty0 : Nat → FieldType) (hty : ∀ k, k < r.2.2 → parseFieldDescriptor (r.2.1 k).2.2.1 = some (ty0 k)) (hdef : ∀ k, k < r.2.2 → defaultValue (ty0 k) = if iv_f i.2.1 k = 2 then .null else .int 0) (hsz : s.heap.size = g.2.2.1.size + (c0 - 8)) (hc8 : 8 ≤ c0) (hcF : cF ≤ 72) (hRm : iv_Rm R c0 cF) (hlt : ∀ ls2 st2 h2, a = .inl (ls2, st2, h2) → h2.1 ≤ cF) (hs : iv_o59 i ls st h = some a) (kn : ∀ ls2 st2 h2, a = .inl (ls2, st2, h2) → iv_W p l e R s m args below meth c Q g nL c0 cF (pc + 3) ls2 st2 h2) : iv_W p l e R s m args below meth c Q g nL c0 cF pc ls st h := by
  unfold iv_o59 at hs
  split at hs
  · rename_i hcnd
    obtain rfl := Option.some.inj hs
    intro h0 h1 lsC H locs hL hI hl
    refine iv_bysize hsz hc8 h0 hI (fun hz => ?_)
    have hlt1 : h.1 + 1 ≤ cF := hlt _ _ _ rfl
    have h72 : h.1 < 72 := by omega
    have h73 : h.1 ≤ 72 := by omega
    obtain ⟨k1, k2⟩ : 8 ≤ h.1 ∧ h.1 < 72 := ⟨hI.1.1, h72⟩
    skip
    have hS1 := iv_S_succ h.1 h72
    have hS2 := iv_S_mono h0 h73
    have hS3 := iv_S_mono hlt1 hcF
    obtain ⟨r1, r2⟩ := hRm
    have g1 := iv_cl1 h0 hlt1 r1
    have g2 := iv_sl1 hS1 hS2 hS3 r2
    obtain ⟨r2', hr2, hn2⟩ := (iv_k_ok h.1 k2 k1).2 hcnd.2
    have hrr : r2' = r := Option.some.inj (hr2.symm.trans (by rw [hcnd.1]; exact hr))
    subst hrr
    have hKn := hV.1.1 i.2.1 _ hr
    refine W.newcK (h := g.2.2.1.size + (h.1 - 8)) hx hb hown hclink hinst hini rfl hd g1 (by rw [hn2]; exact g2) hKn.2.1 hz (fun H1 kC hkC e1 z1 o1 => ?_)
    have w1 : h.1 - c0 + 1 ≤ (iv_nw h).1 - c0 := iv_w1 h0
    have w2 : iv_S h.1 - iv_S c0 + r2'.2.2 ≤ iv_S (iv_nw h).1 - iv_S c0 := iv_w2 hS1 hS2 hn2
    have e2 : iv_e g (iv_nw h) h.1 = .inr (i.2.1, (List.range (iv_n h.1)).map (iv_fd g (iv_nw h) h.1 i.2.1)) := iv_e_obj hcnd.1 (by rw [← hcnd.1]; exact hcnd.2)
    have K := kn _ _ _ rfl (Nat.le_succ_of_le h0) hlt1 lsC H1 locs hL (hI.push k2 hz e2.symm (by rw [hz]; exact z1) (fun q hq => o1 q (by rw [← hz]; exact hq)) ⟨_, hr, by
      rw [iv_a_new k1]
      refine (u_born ty0 hts hin hKn hkC e1 hty).to (fun j hj => ?_)
      rw [hdef j hj]
      have hj2 : j < iv_n h.1 := by rw [← hn2]; exact hj
      simp only [vp_V, List.getD_eq_getElem?_getD, List.getElem?_map, List.getElem?_range hj2, Option.map_some, Option.getD_some, iv_fd, iv_ar, iv_nw, iv_zr_eq]
      split <;> rfl⟩) hl
    rw [List.map_cons, show iv_v g (.ref h.1) = .ref (g.2.2.1.size + (h.1 - 8)) by show Value.ref (iv_a g h.1) = _; rw [iv_a_new k1]] at K
    exact W.widen w1 w2 K
  · cases hs
theorem iv_c60_6 (hx : p.tables.exec = Jvm.exec) (hb : c.code = cc) (hd : decode cc pc = .ok (.newarray .int, 2)) (hV : iv_V g s) (harr : (Cond.arrayClass .int).before args s = true) (hk : i.2.1 = 6) (hsz : s.heap.size = g.2.2.1.size + (c0 - 8)) (hc8 : 8 ≤ c0) (hcF : cF ≤ 72) (hRm : iv_Rm R c0 cF) (hlt : ∀ ls2 st2 h2, a = .inl (ls2, st2, h2) → h2.1 ≤ cF) (hs : iv_o60 i ls st h = some a) (kn : ∀ ls2 st2 h2, a = .inl (ls2, st2, h2) → iv_W p l e R s m args below meth c Q g nL c0 cF (pc + 2) ls2 st2 h2) : iv_W p l e R s m args below meth c Q g nL c0 cF pc ls st h := by
  unfold iv_o60 at hs
  split at hs
  · rename_i n st2
    split at hs
    · rename_i hcnd
      obtain rfl := Option.some.inj hs
      intro h0 h1 lsC H locs hL hI hl
      refine iv_bysize hsz hc8 h0 hI (fun hz => ?_)
      have hlt1 : h.1 + 1 ≤ cF := hlt _ _ _ rfl
      have h72 : h.1 < 72 := by omega
      have h73 : h.1 ≤ 72 := by omega
      obtain ⟨k1, k2⟩ : 8 ≤ h.1 ∧ h.1 < 72 := ⟨hI.1.1, h72⟩
      have hn0 : ¬ n < 0 := by
        intro z
        rw [Int32.lt_iff_toInt_lt] at z
        simp at z
        omega
      have hnn : n.toNatClampNeg = iv_n h.1 := by show n.toInt.toNat = _; omega
      have hbig : iv_n h.1 ≤ 400 := by
        have key : ∀ p, p < 72 → iv_n p ≤ 400 := by decide +kernel
        exact key _ k2
      have hb8 : iv_n h.1 * 8 ≤ 536870912 := by omega
      have hb4 : iv_n h.1 * 4 ≤ 536870912 := by omega
      have hb1 : iv_n h.1 * 1 ≤ 536870912 := by omega
      have hS1 := iv_S_succ h.1 h72
      have hS2 := iv_S_mono h0 h73
      have hS3 := iv_S_mono hlt1 hcF
      obtain ⟨r1, r2⟩ := hRm
      have g1 := iv_cl1 h0 hlt1 r1
      have g2 := iv_sl1 hS1 hS2 hS3 r2
      have hkk : iv_k h.1 = 6 := by rw [hcnd.1, hk]
      refine va_newaK (atype := .int) (h := g.2.2.1.size + (h.1 - 8)) hx hb harr rfl hd rfl hn0 hnn (by first | exact hb4 | exact hb8 | exact hb1) g1 g2 hz (fun H1 cA e1 z1 o1 hAr hNm => ?_)
      have hcA : cA = g.2.1 6 := Option.some.inj (hNm.symm.trans (hV.1.2 0 _ rfl).2)
      subst hcA
      have w1 : h.1 - c0 + 1 ≤ (iv_nw h).1 - c0 := iv_w1 h0
      have w2 : iv_S h.1 - iv_S c0 + iv_n h.1 ≤ iv_S (iv_nw h).1 - iv_S c0 := iv_w2 hS1 hS2 rfl
      have e2 : iv_e g (iv_nw h) h.1 = .inl (g.2.1 6, iv_n h.1, .inl ((iv_nw h).2.1 h.1)) := iv_e_int hkk (Or.inl rfl)
      have K := kn _ _ _ rfl (Nat.le_succ_of_le h0) hlt1 lsC H1 locs hL (hI.push k2 hz e2.symm (by rw [hz]; exact z1) (fun q hq => o1 q (by rw [← hz]; exact hq)) (by
        rw [iv_a_new k1]
        show H1[_]? = some (vp_cell _ _)
        rw [e1]
        simp only [vp_cell, iv_nw, iv_zr_eq]
        rfl)) hl
      rw [List.map_cons, show iv_v g (.ref h.1) = .ref (g.2.2.1.size + (h.1 - 8)) by show Value.ref (iv_a g h.1) = _; rw [iv_a_new k1]] at K
      exact W.widen w1 w2 K
    · cases hs
  · cases hs
theorem iv_c60_7 (hx : p.tables.exec = Jvm.exec) (hb : c.code = cc) (hd : decode cc pc = .ok (.newarray .long, 2)) (hV : iv_V g s) (harr : (Cond.arrayClass .long).before args s = true) (hk : i.2.1 = 7) (hsz : s.heap.size = g.2.2.1.size + (c0 - 8)) (hc8 : 8 ≤ c0) (hcF : cF ≤ 72) (hRm : iv_Rm R c0 cF) (hlt : ∀ ls2 st2 h2, a = .inl (ls2, st2, h2) → h2.1 ≤ cF) (hs : iv_o60 i ls st h = some a) (kn : ∀ ls2 st2 h2, a = .inl (ls2, st2, h2) → iv_W p l e R s m args below meth c Q g nL c0 cF (pc + 2) ls2 st2 h2) : iv_W p l e R s m args below meth c Q g nL c0 cF pc ls st h := by
  unfold iv_o60 at hs
  split at hs
  · rename_i n st2
    split at hs
    · rename_i hcnd
      obtain rfl := Option.some.inj hs
      intro h0 h1 lsC H locs hL hI hl
      refine iv_bysize hsz hc8 h0 hI (fun hz => ?_)
      have hlt1 : h.1 + 1 ≤ cF := hlt _ _ _ rfl
      have h72 : h.1 < 72 := by omega
      have h73 : h.1 ≤ 72 := by omega
      obtain ⟨k1, k2⟩ : 8 ≤ h.1 ∧ h.1 < 72 := ⟨hI.1.1, h72⟩
      have hn0 : ¬ n < 0 := by
        intro z
        rw [Int32.lt_iff_toInt_lt] at z
        simp at z
        omega
      have hnn : n.toNatClampNeg = iv_n h.1 := by show n.toInt.toNat = _; omega
      have hbig : iv_n h.1 ≤ 400 := by
        have key : ∀ p, p < 72 → iv_n p ≤ 400 := by decide +kernel
        exact key _ k2
      have hb8 : iv_n h.1 * 8 ≤ 536870912 := by omega
      have hb4 : iv_n h.1 * 4 ≤ 536870912 := by omega
      have hb1 : iv_n h.1 * 1 ≤ 536870912 := by omega
      have hS1 := iv_S_succ h.1 h72
      have hS2 := iv_S_mono h0 h73
      have hS3 := iv_S_mono hlt1 hcF
      obtain ⟨r1, r2⟩ := hRm
      have g1 := iv_cl1 h0 hlt1 r1
      have g2 := iv_sl1 hS1 hS2 hS3 r2
      have hkk : iv_k h.1 = 7 := by rw [hcnd.1, hk]
      refine va_newaK (atype := .long) (h := g.2.2.1.size + (h.1 - 8)) hx hb harr rfl hd rfl hn0 hnn (by first | exact hb4 | exact hb8 | exact hb1) g1 g2 hz (fun H1 cA e1 z1 o1 hAr hNm => ?_)
      have hcA : cA = g.2.1 7 := Option.some.inj (hNm.symm.trans (hV.1.2 1 _ rfl).2)
      subst hcA
      have w1 : h.1 - c0 + 1 ≤ (iv_nw h).1 - c0 := iv_w1 h0
      have w2 : iv_S h.1 - iv_S c0 + iv_n h.1 ≤ iv_S (iv_nw h).1 - iv_S c0 := iv_w2 hS1 hS2 rfl
      have e2 : iv_e g (iv_nw h) h.1 = .inl (g.2.1 7, iv_n h.1, .inr (.inl ((iv_nw h).2.2.1 h.1))) := iv_e_lng hkk
      have K := kn _ _ _ rfl (Nat.le_succ_of_le h0) hlt1 lsC H1 locs hL (hI.push k2 hz e2.symm (by rw [hz]; exact z1) (fun q hq => o1 q (by rw [← hz]; exact hq)) (by
        rw [iv_a_new k1]
        show H1[_]? = some (vp_cell _ _)
        rw [e1]
        simp only [vp_cell, iv_nw, iv_zr_eq]
        rfl)) hl
      rw [List.map_cons, show iv_v g (.ref h.1) = .ref (g.2.2.1.size + (h.1 - 8)) by show Value.ref (iv_a g h.1) = _; rw [iv_a_new k1]] at K
      exact W.widen w1 w2 K
    · cases hs
  · cases hs
theorem iv_c60_8 (hx : p.tables.exec = Jvm.exec) (hb : c.code = cc) (hd : decode cc pc = .ok (.newarray .boolean, 2)) (hV : iv_V g s) (harr : (Cond.arrayClass .boolean).before args s = true) (hk : i.2.1 = 8) (hsz : s.heap.size = g.2.2.1.size + (c0 - 8)) (hc8 : 8 ≤ c0) (hcF : cF ≤ 72) (hRm : iv_Rm R c0 cF) (hlt : ∀ ls2 st2 h2, a = .inl (ls2, st2, h2) → h2.1 ≤ cF) (hs : iv_o60 i ls st h = some a) (kn : ∀ ls2 st2 h2, a = .inl (ls2, st2, h2) → iv_W p l e R s m args below meth c Q g nL c0 cF (pc + 2) ls2 st2 h2) : iv_W p l e R s m args below meth c Q g nL c0 cF pc ls st h := by
  unfold iv_o60 at hs
  split at hs
  · rename_i n st2
    split at hs
    · rename_i hcnd
      obtain rfl := Option.some.inj hs
      intro h0 h1 lsC H locs hL hI hl
      refine iv_bysize hsz hc8 h0 hI (fun hz => ?_)
      have hlt1 : h.1 + 1 ≤ cF := hlt _ _ _ rfl
      have h72 : h.1 < 72 := by omega
      have h73 : h.1 ≤ 72 := by omega
      obtain ⟨k1, k2⟩ : 8 ≤ h.1 ∧ h.1 < 72 := ⟨hI.1.1, h72⟩
      have hn0 : ¬ n < 0 := by
        intro z
        rw [Int32.lt_iff_toInt_lt] at z
        simp at z
        omega
      have hnn : n.toNatClampNeg = iv_n h.1 := by show n.toInt.toNat = _; omega
      have hbig : iv_n h.1 ≤ 400 := by
        have key : ∀ p, p < 72 → iv_n p ≤ 400 := by decide +kernel
        exact key _ k2
      have hb8 : iv_n h.1 * 8 ≤ 536870912 := by omega
      have hb4 : iv_n h.1 * 4 ≤ 536870912 := by omega
      have hb1 : iv_n h.1 * 1 ≤ 536870912 := by omega
      have hS1 := iv_S_succ h.1 h72
      have hS2 := iv_S_mono h0 h73
      have hS3 := iv_S_mono hlt1 hcF
      obtain ⟨r1, r2⟩ := hRm
      have g1 := iv_cl1 h0 hlt1 r1
      have g2 := iv_sl1 hS1 hS2 hS3 r2
      have hkk : iv_k h.1 = 8 := by rw [hcnd.1, hk]
      refine va_newaK (atype := .boolean) (h := g.2.2.1.size + (h.1 - 8)) hx hb harr rfl hd rfl hn0 hnn (by first | exact hb4 | exact hb8 | exact hb1) g1 g2 hz (fun H1 cA e1 z1 o1 hAr hNm => ?_)
      have hcA : cA = g.2.1 8 := Option.some.inj (hNm.symm.trans (hV.1.2 2 _ rfl).2)
      subst hcA
      have w1 : h.1 - c0 + 1 ≤ (iv_nw h).1 - c0 := iv_w1 h0
      have w2 : iv_S h.1 - iv_S c0 + iv_n h.1 ≤ iv_S (iv_nw h).1 - iv_S c0 := iv_w2 hS1 hS2 rfl
      have e2 : iv_e g (iv_nw h) h.1 = .inl (g.2.1 8, iv_n h.1, .inl ((iv_nw h).2.1 h.1)) := iv_e_int hkk (Or.inr rfl)
      have K := kn _ _ _ rfl (Nat.le_succ_of_le h0) hlt1 lsC H1 locs hL (hI.push k2 hz e2.symm (by rw [hz]; exact z1) (fun q hq => o1 q (by rw [← hz]; exact hq)) (by
        rw [iv_a_new k1]
        show H1[_]? = some (vp_cell _ _)
        rw [e1]
        simp only [vp_cell, iv_nw, iv_zr_eq]
        rfl)) hl
      rw [List.map_cons, show iv_v g (.ref h.1) = .ref (g.2.2.1.size + (h.1 - 8)) by show Value.ref (iv_a g h.1) = _; rw [iv_a_new k1]] at K
      exact W.widen w1 w2 K
    · cases hs
  · cases hs
theorem iv_c61 (hx : p.tables.exec = Jvm.exec) (hb : c.code = cc) (hd : decode cc pc = .ok (.anewarray i.2.2.2.1.toNat, 3)) {own : String} (hown : s.vm.findClass own = some m.cls) (hV : iv_V g s) (hclink : (Cond.classLink own i.2.2.2.1.toNat RX2).before args s = true) (hsz : s.heap.size = g.2.2.1.size + (c0 - 8)) (hc8 : 8 ≤ c0) (hcF : cF ≤ 72) (hRm : iv_Rm R c0 cF) (hlt : ∀ ls2 st2 h2, a = .inl (ls2, st2, h2) → h2.1 ≤ cF) (hs : iv_o61 i ls st h = some a) (kn : ∀ ls2 st2 h2, a = .inl (ls2, st2, h2) → iv_W p l e R s m args below meth c Q g nL c0 cF (pc + 3) ls2 st2 h2) : iv_W p l e R s m args below meth c Q g nL c0 cF pc ls st h := by
  unfold iv_o61 at hs
  split at hs
  · rename_i n st2
    split at hs
    · rename_i hcnd
      obtain rfl := Option.some.inj hs
      intro h0 h1 lsC H locs hL hI hl
      refine iv_bysize hsz hc8 h0 hI (fun hz => ?_)
      have hlt1 : h.1 + 1 ≤ cF := hlt _ _ _ rfl
      have h72 : h.1 < 72 := by omega
      have h73 : h.1 ≤ 72 := by omega
      obtain ⟨k1, k2⟩ : 8 ≤ h.1 ∧ h.1 < 72 := ⟨hI.1.1, h72⟩
      have hn0 : ¬ n < 0 := by
        intro z
        rw [Int32.lt_iff_toInt_lt] at z
        simp at z
        omega
      have hnn : n.toNatClampNeg = iv_n h.1 := by show n.toInt.toNat = _; omega
      have hbig : iv_n h.1 ≤ 400 := by
        have key : ∀ p, p < 72 → iv_n p ≤ 400 := by decide +kernel
        exact key _ k2
      have hb8 : iv_n h.1 * 8 ≤ 536870912 := by omega
      have hb4 : iv_n h.1 * 4 ≤ 536870912 := by omega
      have hb1 : iv_n h.1 * 1 ≤ 536870912 := by omega
      have hS1 := iv_S_succ h.1 h72
      have hS2 := iv_S_mono h0 h73
      have hS3 := iv_S_mono hlt1 hcF
      obtain ⟨r1, r2⟩ := hRm
      have g1 := iv_cl1 h0 hlt1 r1
      have g2 := iv_sl1 hS1 hS2 hS3 r2
      have hkk : iv_k h.1 = 9 := hcnd.1
      refine W.anew hx hb hown hclink (va_AO.use hV.2.2.2.1.1) rfl hd rfl hn0 (by rw [hnn]; exact hb4) g1 (by rw [hnn]; exact g2) (fun cA kA comp f1 f2 f3 f4 => ?_)
      obtain ⟨kA2, comp2, q1, q2, q3, q4⟩ := (hV.1.2 3 _ rfl).2
      have hcA : cA = g.2.1 9 := Option.some.inj (f1.symm.trans q4)
      subst hcA
      generalize hH1 : H.push ({ cls := g.2.1 9, slots := Array.replicate n.toNatClampNeg .null, vm := .none } : Cell) = H1
      have z1 : H1.size = H.size + 1 := by rw [← hH1, Array.size_push]
      have e1 : H1[H.size]? = some (arrV (g.2.1 9) n.toNatClampNeg (fun _ => .null)) := by rw [← hH1, Array.getElem?_push_size, ← arrV_new]
      have o1 : ∀ q : Nat, q < H.size → H1[q]? = H[q]? := fun q hq => by rw [← hH1, Array.getElem?_push, if_neg (Nat.ne_of_lt hq)]
      have w1 : h.1 - c0 + 1 ≤ (iv_nw h).1 - c0 := iv_w1 h0
      have w2 : iv_S h.1 - iv_S c0 + n.toNatClampNeg ≤ iv_S (iv_nw h).1 - iv_S c0 := iv_w2 hS1 hS2 hnn
      have e2 : iv_e g (iv_nw h) h.1 = .inl (g.2.1 9, iv_n h.1, .inr (.inr (.inr (.inr (iv_ar g (iv_nw h) h.1))))) := iv_e_ref hkk (Or.inl rfl)
      have K := kn _ _ _ rfl (Nat.le_succ_of_le h0) hlt1 lsC H1 locs hL (hI.push k2 hz e2.symm z1 o1 (by
        rw [iv_a_new k1, ← hz]
        show H1[_]? = some (vp_cell _ _)
        rw [e1, hnn]
        simp only [vp_cell, iv_ar, iv_nw, iv_zr_eq]
        rfl)) hl
      rw [List.map_cons, show iv_v g (.ref h.1) = .ref H.size by show Value.ref (iv_a g h.1) = _; rw [iv_a_new k1, hz]] at K
      exact W.widen w1 w2 K
    · cases hs
  · cases hs
theorem iv_c69 (hx : p.tables.exec = Jvm.exec) (hb : c.code = cc) (hml : c.maxLocals = nL) (hd : decode cc pc = .ok (.invokespecial i.2.2.2.1.toNat, 3)) {own : String} (hown : s.vm.findClass own = some m.cls) (hlink : (Cond.methodLink own i.2.2.2.1.toNat Lib.objectInit).before args s = true) (hinst : (Cond.instanceMethod Lib.objectInit).before args s = true) (hcode : (Cond.code Lib.objectInit ⟨#[0xb1]⟩ 1 none).before args s = true) (hfr : 1 ≤ R.frames) (hlo : 20 ≤ R.locals) (hs : iv_o69 i ls st h = some a) (kn : ∀ ls2 st2 h2, a = .inl (ls2, st2, h2) → iv_W p l e R s m args below meth c Q g nL c0 cF (pc + 3) ls2 st2 h2) : iv_W p l e R s m args below meth c Q g nL c0 cF pc ls st h := by
  unfold iv_o69 at hs
  split at hs
  · rename_i q st2
    split at hs
    · rename_i hcnd
      obtain rfl := Option.some.inj hs
      intro h0 h1 lsC H locs hL hI hl
      have h4 := lv_room (m := m) (pc := pc) (ls := lsC) (rest := []) (iv_sum4 g st2 hcnd)
      refine W.objInit hx hb hown hlink hinst hcode rfl (by rw [hml]; exact hL.1.1) rfl hd hfr ?_ (kn _ _ _ rfl h0 h1 lsC H locs hL hI hl)
      have h5 : (F0 m pc lsC (List.map (iv_v g) (.ref q :: st2))).monitorRoom = (F0 m pc lsC []).monitorRoom := rfl
      rw [h5]
      omega
    · cases hs
  · cases hs
theorem iv_c70 (hx : p.tables.exec = Jvm.exec) (hb : c.code = cc) (hml : c.maxLocals = nL) (hd : decode cc pc = .ok (.invokestatic i.2.2.2.1.toNat, 3)) {own : String} (hown : s.vm.findClass own = some m.cls) (hV : iv_V g s) (hlink : (Cond.methodLink own i.2.2.2.1.toNat arraycopyName).before args s = true) (hnat : (Cond.native arraycopyName).before args s = true) (hstat : (Cond.static arraycopyName).before args s = true) (hini : (Cond.initialized "java/lang/System").before args s = true) (hfr : 1 ≤ R.frames) (hlo : 8 + (nativeFrameWords "java/lang/System" "arraycopy" 5 + 11) ≤ R.locals) (hs : iv_o70 i ls st h = some a) (kn : ∀ ls2 st2 h2, a = .inl (ls2, st2, h2) → iv_W p l e R s m args below meth c Q g nL c0 cF (pc + 3) ls2 st2 h2) : iv_W p l e R s m args below meth c Q g nL c0 cF pc ls st h := by
  unfold iv_o70 at hs
  split at hs
  · rename_i n d q sp q0 st2
    split at hs
    · rename_i hcnd
      obtain ⟨⟨⟨c1, c2⟩, c3, c4⟩, ⟨⟨n1, n2, n3⟩, n4, n5⟩, c5⟩ := hcnd
      obtain rfl := Option.some.inj hs
      intro h0 h1 lsC H locs hL hI hl
      have ng : ∀ z : Int32, 0 ≤ z.toInt → ¬ z < 0 := by
        intro z hz z2
        rw [Int32.lt_iff_toInt_lt] at z2
        simp at z2
        omega
      have tn : ∀ z : Int32, 0 ≤ z.toInt → (z.toNatClampNeg : Int) = z.toInt := by
        intro z hz
        show ((z.toInt.toNat : Nat) : Int) = _
        omega
      obtain ⟨k1, k2⟩ := iv_k_lo (p := q0) (by omega)
      obtain ⟨k3, k4⟩ := iv_k_lo (p := q) (by omega)
      have he0 : (iv_w g h)[q0 - 8]? = some (iv_a g q0, .inl (g.2.1 7, iv_n q0, .inr (.inl (h.2.2.1 q0)))) := by rw [iv_w_get k1 c1, iv_e_lng c2]
      have he1 : (iv_w g h)[q - 8]? = some (iv_a g q, .inl (g.2.1 7, iv_n q, .inr (.inl (h.2.2.1 q)))) := by rw [iv_w_get k3 c3, iv_e_lng c4]
      have t1 := tn n n1
      have t2 := tn d n2
      have t3 := tn sp n3
      refine va_copyl (ty := .long) hx hb (by rw [hml]; exact hL.1.1.symm) hown hlink hnat hstat hini hV.1 hI.2.2.1 (iv_w_D g h) (H0 := H) ⟨Nat.le_refl _, fun _ _ _ => rfl, hl⟩ (q0 - 8) (q - 8) 1 1 he0 he1 rfl rfl rfl (ng _ n3) (ng _ n2) (ng _ n1) (by omega) (by omega) (fun _ _ => rfl) hfr ?_ hd (fun H1 locs1 hP1 _ hS1 => ?_)
      · have := iv_sum4 g st2 c5
        omega
      · let h' : iv_H := (h.1, h.2.1, iv_cpJ h.2.2.1 q0 q sp.toNatClampNeg d.toNatClampNeg n.toNatClampNeg, h.2.2.2)
        have e1 : va_cpy (h.2.2.1 q0) (h.2.2.1 q) sp.toNatClampNeg d.toNatClampNeg n.toNatClampNeg = h'.2.2.1 q := by
          show _ = iv_cpJ h.2.2.1 q0 q sp.toNatClampNeg d.toNatClampNeg n.toNatClampNeg q
          simp [iv_cpJ]
        rw [e1, ← iv_e_lng (g := g) (h := h') c4, iv_w_set (h' := h') k3 c3 rfl (fun z hz => iv_e_of rfl (by show iv_cpJ _ _ _ _ _ _ z = _; simp [iv_cpJ, hz]) rfl)] at hP1
        exact kn _ _ _ rfl h0 h1 lsC H1 locs1 hL (hI.step rfl hP1 hS1 rfl rfl rfl) hS1.2.2
    · cases hs
  · cases hs
end IVN
