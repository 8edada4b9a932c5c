/-! the interpreter's heap against the machine's -/
/-- the fixed data: class numbers and slots; array classes by kind; the heap at the law's start; the old cells' addresses; the script -/
abbrev iv_G : Type := va_G × (Nat → ClassId) × Heap × (Nat → Nat) × Nat × (Nat → Int32)
def iv_a (g : iv_G) (p : Nat) : Nat := if p < 8 then g.2.2.2.1 p else g.2.2.1.size + (p - 8)
def iv_v (g : iv_G) (v : Value) : Value := match v with
  | .ref p => .ref (iv_a g p)
  | v => v
def iv_ar (g : iv_G) (h : iv_H) (p : Nat) : Nat → Option Nat := fun i => (h.2.2.2 p i).map (iv_a g)
def iv_fd (g : iv_G) (h : iv_H) (p k s : Nat) : Value := if iv_f k s = 2 then va_rf (iv_ar g h p s) else .int (h.2.1 p s)
def iv_ek (g : iv_G) (h : iv_H) (p k : Nat) : va_E :=
  if k < 6 then .inr (k, (List.range (iv_n p)).map (iv_fd g h p k))
  else if k = 6 ∨ k = 8 then .inl (g.2.1 k, iv_n p, .inl (h.2.1 p))
  else if k = 7 then .inl (g.2.1 7, iv_n p, .inr (.inl (h.2.2.1 p)))
  else .inl (g.2.1 k, iv_n p, .inr (.inr (.inr (.inr (iv_ar g h p)))))
def iv_e (g : iv_G) (h : iv_H) (p : Nat) : va_E := iv_ek g h p (iv_k p)
def iv_w (g : iv_G) (h : iv_H) : va_W := (List.range (h.1 - 8)).map (fun k => (g.2.2.1.size + k, iv_e g h (k + 8)))
def iv_new (g : iv_G) (q : Nat) : Prop := g.2.2.1.size ≤ q
def iv_ov : List Int32 := [-1, 0, 0, 1, 2, 0]
def iv_Inv (g : iv_G) (h : iv_H) (H : Heap) : Prop := (8 ≤ h.1 ∧ h.1 ≤ 72 ∧ g.2.2.1.size + (h.1 - 8) ≤ H.size) ∧ (∀ q, q < g.2.2.1.size → H[q]? = g.2.2.1[q]?) ∧ va_P g.1 vwCl (iv_w g h) H ∧
  (h.2.2.2 0 0 = some g.2.2.2.2.1 ∧ (∀ j, j < g.2.2.2.2.1 → h.2.1 0 j = g.2.2.2.2.2 j) ∧ ∀ j, j < 6 → h.2.1 1 j = iv_ov.getD j 0)
theorem iv_a_old {g : iv_G} {p : Nat} (h : p < 8) : iv_a g p = g.2.2.2.1 p := if_pos h
theorem iv_a_new {g : iv_G} {p : Nat} (h : 8 ≤ p) : iv_a g p = g.2.2.1.size + (p - 8) := if_neg (by omega)
theorem iv_w_get {g : iv_G} {h : iv_H} {p : Nat} (h1 : 8 ≤ p) (h2 : p < h.1) : (iv_w g h)[p - 8]? = some (iv_a g p, iv_e g h p) := by
  have hl : p - 8 < h.1 - 8 := by omega
  simp only [iv_w, List.getElem?_map, List.getElem?_range hl, Option.map_some, iv_a_new h1]
  rw [show p - 8 + 8 = p by omega]
theorem iv_w_len (g : iv_G) (h : iv_H) : (iv_w g h).length = h.1 - 8 := by simp [iv_w]
theorem iv_w_at {g : iv_G} {h : iv_H} {k : Nat} {q : Nat × va_E} (hq : (iv_w g h)[k]? = some q) : k < h.1 - 8 ∧ q = (g.2.2.1.size + k, iv_e g h (k + 8)) := by
  have hk : k < h.1 - 8 := by rw [← iv_w_len g h]; exact (List.getElem?_eq_some_iff.mp hq).1
  simp only [iv_w, List.getElem?_map, List.getElem?_range hk, Option.map_some] at hq
  exact ⟨hk, (Option.some.inj hq).symm⟩
theorem iv_w_D (g : iv_G) (h : iv_H) : va_D (iv_new g) (iv_w g h) := by
  refine ⟨fun i j p q hi hj e => ?_, fun k q hk => ?_⟩
  · obtain ⟨-, rfl⟩ := iv_w_at hi
    obtain ⟨-, rfl⟩ := iv_w_at hj
    simp only at e
    omega
  · obtain ⟨-, rfl⟩ := iv_w_at hk
    exact Nat.le_add_right _ _
/-- one cell changes -/
theorem iv_w_set {g : iv_G} {h h' : iv_H} {p : Nat} (h1 : 8 ≤ p) (h2 : p < h.1) (hc : h'.1 = h.1) (ho : ∀ q, q ≠ p → iv_e g h' q = iv_e g h q) : (iv_w g h).set (p - 8) (iv_a g p, iv_e g h' p) = iv_w g h' := by
  apply List.ext_getElem?
  intro k
  by_cases hk : k < h.1 - 8
  · by_cases he : k = p - 8
    · subst he
      rw [List.getElem?_set_self (by rw [iv_w_len]; exact hk), iv_w_get h1 (by omega)]
    · rw [List.getElem?_set_ne (Ne.symm he)]
      have a := iv_w_get (g := g) (h := h) (p := k + 8) (by omega) (by omega)
      have b := iv_w_get (g := g) (h := h') (p := k + 8) (by omega) (by omega)
      rw [show k + 8 - 8 = k by omega] at a b
      rw [a, b, ho (k + 8) (by omega)]
  · rw [List.getElem?_eq_none (by rw [List.length_set, iv_w_len]; omega), List.getElem?_eq_none (by rw [iv_w_len, hc]; omega)]
/-- a new cell -/
theorem iv_w_push {g : iv_G} {h h' : iv_H} (h1 : 8 ≤ h.1) (hc : h'.1 = h.1 + 1) (ho : ∀ q, q < h.1 → iv_e g h' q = iv_e g h q) : iv_w g h ++ [(iv_a g h.1, iv_e g h' h.1)] = iv_w g h' := by
  apply List.ext_getElem?
  intro k
  by_cases hk : k < h.1 - 8
  · rw [List.getElem?_append_left (by rw [iv_w_len]; exact hk)]
    have a := iv_w_get (g := g) (h := h) (p := k + 8) (by omega) (by omega)
    have b := iv_w_get (g := g) (h := h') (p := k + 8) (by omega) (by omega)
    rw [show k + 8 - 8 = k by omega] at a b
    rw [a, b, ho (k + 8) (by omega)]
  · rw [List.getElem?_append_right (by rw [iv_w_len]; omega), iv_w_len]
    by_cases he : k = h.1 - 8
    · subst he
      have b := iv_w_get (g := g) (h := h') (p := h.1) h1 (by omega)
      rw [b]
      simp
    · rw [List.getElem?_eq_none (by simp; omega), List.getElem?_eq_none (by rw [iv_w_len, hc]; omega)]
theorem iv_cat (g : iv_G) (v : Value) : (iv_v g v).category = v.category := by cases v <;> rfl
/-- what an update does to the other cells -/
theorem iv_up_ne {α : Type} {F : Nat → Nat → α} {p i q : Nat} {v : α} (h : q ≠ p) : iv_up F p i v q = F q := by
  funext j
  simp [iv_up, h]
theorem iv_up_eq {α : Type} {F : Nat → Nat → α} {p i : Nat} {v : α} : iv_up F p i v p = fun j => if j = i then v else F p j := by
  funext j
  simp [iv_up]
theorem iv_zr_ne {α : Type} {F : Nat → Nat → α} {p q : Nat} {v : α} (h : q ≠ p) : iv_zr F p v q = F q := by
  funext j
  simp [iv_zr, h]
theorem iv_zr_eq {α : Type} {F : Nat → Nat → α} {p : Nat} {v : α} : iv_zr F p v p = fun _ => v := by
  funext j
  simp [iv_zr]
theorem iv_e_of {g : iv_G} {h h' : iv_H} {q : Nat} (hI : h'.2.1 q = h.2.1 q) (hJ : h'.2.2.1 q = h.2.2.1 q) (hR : h'.2.2.2 q = h.2.2.2 q) : iv_e g h' q = iv_e g h q := by
  have e1 : iv_ar g h' q = iv_ar g h q := by funext i; simp [iv_ar, hR]
  have e2 : ∀ k, iv_fd g h' q k = iv_fd g h q k := by intro k; funext s; simp [iv_fd, e1, hI]
  simp [iv_e, iv_ek, e1, e2, hI, hJ]
theorem iv_uI_o {g : iv_G} {h : iv_H} {p i q : Nat} {v : Int32} (hq : q ≠ p) : iv_e g (iv_uI h p i v) q = iv_e g h q := iv_e_of (iv_up_ne hq) rfl rfl
theorem iv_uJ_o {g : iv_G} {h : iv_H} {p i q : Nat} {v : Int64} (hq : q ≠ p) : iv_e g (iv_uJ h p i v) q = iv_e g h q := iv_e_of rfl (iv_up_ne hq) rfl
theorem iv_uR_o {g : iv_G} {h : iv_H} {p i q : Nat} {v : Option Nat} (hq : q ≠ p) : iv_e g (iv_uR h p i v) q = iv_e g h q := iv_e_of rfl rfl (iv_up_ne hq)
theorem iv_nw_o {g : iv_G} {h : iv_H} {q : Nat} (hq : q ≠ h.1) : iv_e g (iv_nw h) q = iv_e g h q := iv_e_of (iv_zr_ne hq) (iv_zr_ne hq) (iv_zr_ne hq)
/-- every place from 8 on has a kind up to 10; and the objects' places have their class's number of fields -/
theorem iv_k_ok : ∀ p, p < 72 → 8 ≤ p → iv_k p ≤ 10 ∧ (iv_k p < 6 → ∃ r, vwCl[iv_k p]? = some r ∧ r.2.2 = iv_n p) := by
  have h : ∀ p, p < 72 → 8 ≤ p → iv_k p ≤ 10 ∧ (iv_k p < 6 → (vwCl.map (fun r => r.2.2))[iv_k p]? = some (iv_n p)) := by decide +kernel
  intro p h1 h2
  obtain ⟨a, b⟩ := h p h1 h2
  refine ⟨a, fun hk => ?_⟩
  have c := b hk
  rw [List.getElem?_map] at c
  cases hv : vwCl[iv_k p]? with
  | none => rw [hv] at c; cases c
  | some r => rw [hv] at c; exact ⟨r, rfl, Option.some.inj c⟩
theorem iv_e_obj {g : iv_G} {h : iv_H} {p k : Nat} (hk : iv_k p = k) (hl : k < 6) : iv_e g h p = .inr (k, (List.range (iv_n p)).map (iv_fd g h p k)) := by
  subst hk
  simp [iv_e, iv_ek, hl]
theorem iv_e_int {g : iv_G} {h : iv_H} {p k : Nat} (hk : iv_k p = k) (hl : k = 6 ∨ k = 8) : iv_e g h p = .inl (g.2.1 k, iv_n p, .inl (h.2.1 p)) := by
  subst hk
  have h1 : ¬ iv_k p < 6 := by omega
  simp [iv_e, iv_ek, hl, h1]
theorem iv_e_lng {g : iv_G} {h : iv_H} {p : Nat} (hk : iv_k p = 7) : iv_e g h p = .inl (g.2.1 7, iv_n p, .inr (.inl (h.2.2.1 p))) := by
  simp [iv_e, iv_ek, hk]
theorem iv_e_ref {g : iv_G} {h : iv_H} {p k : Nat} (hk : iv_k p = k) (hl : k = 9 ∨ k = 10) : iv_e g h p = .inl (g.2.1 k, iv_n p, .inr (.inr (.inr (.inr (iv_ar g h p))))) := by
  subst hk
  have h1 : ¬ iv_k p < 6 := by omega
  have h2 : ¬ (iv_k p = 6 ∨ iv_k p = 8) := by omega
  have h3 : ¬ iv_k p = 7 := by omega
  simp [iv_e, iv_ek, h1, h2, h3]
/-- the locals -/
def iv_LR (g : iv_G) (nL : Nat) (ls : iv_L) (lsC : Array Slot) : Prop := (lsC.size = nL ∧ ls.length = nL) ∧ lv_wf lsC ∧ ∀ (i : Nat) (v : Value), ls[i]? = some (some v) → lsC[i]? = some (.val (iv_v g v))
def iv_ps (g : iv_G) (ls : iv_L) : List (Nat × Value) := (List.range ls.length).filterMap (fun i => match ls[i]? with
  | some (some v) => some (i, iv_v g v)
  | _ => none)
theorem iv_ps_mem {g : iv_G} {ls : iv_L} {i : Nat} {v : Value} (h : ls[i]? = some (some v)) : (i, iv_v g v) ∈ iv_ps g ls := by
  have hl : i < ls.length := (List.getElem?_eq_some_iff.mp h).1
  exact List.mem_filterMap.mpr ⟨i, List.mem_range.mpr hl, by simp [h]⟩
theorem iv_ps_of {g : iv_G} {ls : iv_L} {q : Nat × Value} (h : q ∈ iv_ps g ls) : ∃ v, ls[q.1]? = some (some v) ∧ q.2 = iv_v g v := by
  obtain ⟨i, -, hi⟩ := List.mem_filterMap.mp h
  split at hi
  · rename_i v hv
    cases hi
    exact ⟨v, hv, rfl⟩
  · cases hi
theorem iv_LR.has {g : iv_G} {nL : Nat} {ls : iv_L} {lsC : Array Slot} (h : iv_LR g nL ls lsC) : lv_has lsC nL (iv_ps g ls) := ⟨h.1.1, h.2.1, fun q hq => by
  obtain ⟨v, h1, h2⟩ := iv_ps_of hq
  rw [h2]
  exact h.2.2 _ _ h1⟩
theorem iv_LR.msk {g : iv_G} {nL : Nat} {ls : iv_L} {lsC : Array Slot} (h : iv_LR g nL ls lsC) {bs : List Nat} (hb : bs.length = nL) : iv_LR g nL (iv_m bs ls) lsC := by
  have key : ∀ (bs : List Nat) (ls : iv_L), (iv_m bs ls).length = bs.length ∧ ∀ (i : Nat) (v : Value), (iv_m bs ls)[i]? = some (some v) → ls[i]? = some (some v) := by
    intro bs
    induction bs with
    | nil => intro ls; exact ⟨by simp [iv_m], fun i v hv => by simp [iv_m] at hv⟩
    | cons b bs ih =>
      intro ls
      cases ls with
      | nil =>
        obtain ⟨a1, a2⟩ := ih []
        refine ⟨by simp [iv_m, a1], fun i v hv => ?_⟩
        cases i with
        | zero => simp [iv_m] at hv
        | succ i => simp only [iv_m, List.getElem?_cons_succ] at hv; have := a2 i v hv; simp at this
      | cons w ws =>
        obtain ⟨a1, a2⟩ := ih ws
        refine ⟨by simp [iv_m, a1], fun i v hv => ?_⟩
        cases i with
        | zero =>
          simp only [iv_m, List.getElem?_cons_zero] at hv ⊢
          by_cases hb1 : b = 1
          · rw [if_pos hb1] at hv; exact hv
          · rw [if_neg hb1] at hv; cases hv
        | succ i => simp only [iv_m, List.getElem?_cons_succ] at hv ⊢; exact a2 i v hv
  obtain ⟨k1, k2⟩ := key bs ls
  exact ⟨⟨h.1.1, by rw [k1, hb]⟩, h.2.1, fun i v hv => h.2.2 i v (k2 i v hv)⟩
theorem iv_kill_len (ls : iv_L) (i : Nat) : (iv_kill ls i).length = ls.length := by
  cases i with
  | zero => rfl
  | succ k =>
    simp only [iv_kill]
    split
    · split <;> simp
    · rfl
theorem iv_kill_at {ls : iv_L} {i j : Nat} {v : Value} (h : (iv_kill ls i)[j]? = some (some v)) : ls[j]? = some (some v) ∧ ¬ (j + 1 = i ∧ v.category = 2) := by
  cases i with
  | zero => exact ⟨h, fun q => by omega⟩
  | succ k =>
    simp only [iv_kill] at h
    split at h
    · rename_i w hw
      split at h
      · rename_i hc
        by_cases hj : j = k
        · subst hj
          rw [List.getElem?_set_self (List.getElem?_eq_some_iff.mp hw).1] at h
          cases h
        · rw [List.getElem?_set_ne (Ne.symm hj)] at h
          exact ⟨h, fun q => hj (by omega)⟩
      · rename_i hc
        refine ⟨h, fun q => ?_⟩
        have hj : j = k := by omega
        subst hj
        rw [hw] at h
        cases h
        exact hc q.2
    · rename_i hn
      refine ⟨h, fun q => ?_⟩
      have hj : j = k := by omega
      subst hj
      exact hn v h
theorem iv_LR.st1 {g : iv_G} {nL : Nat} {ls : iv_L} {lsC ls' : Array Slot} {i : Nat} {v : Value} (h : iv_LR g nL ls lsC) (hi : i < nL) (h' : lv_has ls' nL ((i, iv_v g v) :: (iv_ps g ls).filter (fun q => !(q.1 == i) && !(q.1 + 1 == i && q.2.category == 2)))) : iv_LR g nL (iv_st1 ls i v) ls' := by
  refine ⟨⟨h'.1, by simp [iv_st1, iv_kill_len, h.1.2]⟩, h'.2.1, fun j w hw => ?_⟩
  by_cases hj : j = i
  · subst hj
    rw [iv_st1, List.getElem?_set_self (by rw [iv_kill_len, h.1.2]; exact hi)] at hw
    cases hw
    exact h'.2.2 _ List.mem_cons_self
  · rw [iv_st1, List.getElem?_set_ne (Ne.symm hj)] at hw
    obtain ⟨a1, a2⟩ := iv_kill_at hw
    refine h'.2.2 (j, iv_v g w) (List.mem_cons_of_mem _ (List.mem_filter.mpr ⟨iv_ps_mem a1, ?_⟩))
    simp only [iv_cat, Bool.and_eq_true, Bool.not_eq_true', beq_eq_false_iff_ne, ne_eq, Bool.and_eq_false_iff, beq_iff_eq]
    refine ⟨hj, ?_⟩
    by_cases q : j + 1 = i
    · exact Or.inr (fun z => a2 ⟨q, z⟩)
    · exact Or.inl q
theorem iv_LR.st2 {g : iv_G} {nL : Nat} {ls : iv_L} {lsC ls' : Array Slot} {i : Nat} {v : Value} (h : iv_LR g nL ls lsC) (hi : i + 1 < nL) (h' : lv_has ls' nL ((i, iv_v g v) :: (iv_ps g ls).filter (fun q => !(q.1 == i) && (!(q.1 == i + 1) && !(q.1 + 1 == i && q.2.category == 2))))) : iv_LR g nL (iv_st2 ls i v) ls' := by
  refine ⟨⟨h'.1, by simp [iv_st2, iv_kill_len, h.1.2]⟩, h'.2.1, fun j w hw => ?_⟩
  rw [iv_st2] at hw
  by_cases hj1 : j = i + 1
  · subst hj1
    rw [List.getElem?_set_self (by rw [List.length_set, iv_kill_len, h.1.2]; exact hi)] at hw
    cases hw
  · rw [List.getElem?_set_ne (Ne.symm hj1)] at hw
    by_cases hj : j = i
    · subst hj
      rw [List.getElem?_set_self (by rw [iv_kill_len, h.1.2]; omega)] at hw
      cases hw
      exact h'.2.2 _ List.mem_cons_self
    · rw [List.getElem?_set_ne (Ne.symm hj)] at hw
      obtain ⟨a1, a2⟩ := iv_kill_at hw
      refine h'.2.2 (j, iv_v g w) (List.mem_cons_of_mem _ (List.mem_filter.mpr ⟨iv_ps_mem a1, ?_⟩))
      simp only [iv_cat, Bool.and_eq_true, Bool.not_eq_true', beq_eq_false_iff_ne, ne_eq, Bool.and_eq_false_iff, beq_iff_eq]
      refine ⟨hj, hj1, ?_⟩
      by_cases q : j + 1 = i
      · exact Or.inr (fun z => a2 ⟨q, z⟩)
      · exact Or.inl q
