/-! the start: what the constructors made -/
theorem ich_c {p : Nat} : ∀ (l : List (Nat × Nat × Int32)) (B B' : Nat → Nat → Int32), B p = B' p → ich l B p = ich l B' p
  | [], B, B', h => h
  | e :: l, B, B', h => by
    show ich l (iv_up B e.1 e.2.1 e.2.2) p = ich l (iv_up B' e.1 e.2.1 e.2.2) p
    refine ich_c l _ _ ?_
    funext j
    unfold iv_up
    split
    · rfl
    · rw [h]
def iK : Nat → Nat → Int32 := ich il5 (ich il4 (fun _ _ => 0))
def iP : Nat → Nat → Int32 := ip_C 9 iK
theorem iP_k : (∀ x, x < 8 → iP 1 x = 0 ∧ iP 2 x = 0 ∧ iP 3 x = 0 ∧ iP 4 x = 0 ∧ iP 5 x = 0) ∧ iP 0 0 = 0 ∧ iP 0 1 = 4 ∧ iP 0 2 = 1 := by decide
theorem iP_z (j x : Nat) (hj : 1 ≤ j ∧ j ≤ 5) : iP j x = 0 := by
  by_cases h : 8 ≤ x
  · unfold iP ip_C
    rw [if_pos h]
  · obtain ⟨a, b, c, d, e⟩ := iP_k.1 x (by omega)
    have : j = 1 ∨ j = 2 ∨ j = 3 ∨ j = 4 ∨ j = 5 := by omega
    rcases this with rfl | rfl | rfl | rfl | rfl <;> assumption
theorem iP_ok : ip_ok 0 iP := by
  have w0 : ∀ x, x < 8 → it_wr 0 x = 0 := by decide
  refine ⟨⟨by omega, iP_k.2.1.trans nI_0.symm, fun x _ => Or.inl (iP_z 1 x (by omega))⟩, ⟨fun x _ => ⟨0, by omega, (iP_z 2 x (by omega)).trans nI_0.symm⟩, fun x _ => ⟨0, by omega, (iP_z 3 x (by omega)).trans nI_0.symm⟩, fun x => Or.inl (iP_z 4 x (by omega))⟩, ⟨⟨4, by omega, iP_k.2.2.1⟩, 1, by omega, iP_k.2.2.2⟩, ⟨fun x _ => iP_z 4 x (by omega), fun x _ => iP_z 4 x (by omega)⟩, fun x => ⟨0, by decide, (iP_z 5 x (by omega)).trans nI_0.symm⟩, fun x hx => ?_, fun x _ => iP_z 5 x (by omega), fun x y hx hy => ?_⟩
  · rw [iP_z 5 x (by omega)]
    exact w0 x hx
  · rw [iP_z 5 x (by omega), iP_z 5 y (by omega), w0 x hx, w0 y hy]
theorem iK_M : ip_M iK = iP := by
  have a : ∀ i, i < 8 → ip_M iK 0 i = iP 0 i ∧ ip_M iK 1 i = iP 1 i ∧ ip_M iK 2 i = iP 2 i ∧ ip_M iK 3 i = iP 3 i ∧ ip_M iK 4 i = iP 4 i ∧ ip_M iK 5 i = iP 5 i := by decide
  funext j i
  by_cases h : 8 ≤ i
  · unfold ip_M iP ip_C
    rw [if_pos h, if_pos h]
  · obtain ⟨a0, a1, a2, a3, a4, a5⟩ := a i (by omega)
    match j with
    | 0 => exact a0
    | 1 => exact a1
    | 2 => exact a2
    | 3 => exact a3
    | 4 => exact a4
    | 5 => exact a5
    | k + 6 =>
      unfold ip_M iP ip_C
      rw [if_neg h, if_neg h]
      rfl
theorem iK_e : (iK 8 7 = 0 ∧ iK 56 19 = 0) ∧ (iK 36 1 = 0 ∧ iK 56 9 = 0) ∧ (∀ s, s < 8 → iK (40 + 2 * s) 0 = -1 ∧ iK 64 s = -1 ∧ iK (40 + 2 * s) 1 = 0 ∧ iK 65 s = 0) ∧ (∀ k, k < 5 → iK 39 k = 0 ∧ iK 67 (k + 2) = 0) ∧ iK 9 4 = 0 := by decide
theorem iR_0 {I : Nat → Nat → Int32} {J : Nat → Nat → Int64} (zI : z0 I 0) (zJ : ∀ p i, J p i = 0) (hO : ∀ j, j < 6 → I 1 j = iv_ov.getD j 0) : iR 0 iP (ich il5 (ich il4 I)) J := by
  have k : ∀ p, 8 ≤ p → ich il5 (ich il4 I) p = iK p := fun p hp => ich_c _ _ _ (ich_c _ _ _ (zI p hp))
  have k1 : ich il5 (ich il4 I) 1 = I 1 := by
    rw [ich_o il5 _ (by decide), ich_o il4 _ (by decide)]
  obtain ⟨⟨e1, e2⟩, ⟨e3, e4⟩, e5, e6, e7⟩ := iK_e
  generalize ich il5 (ich il4 I) = I1 at k k1
  have c9 : ip_Cr 9 I1 iP := by
    refine ⟨?_, 0, by omega, by rw [k 9 (by omega), e7, nI_0]⟩
    unfold iP ip_C
    rw [k 9 (by omega), k (9 + 1) (by omega), k (9 + 2) (by omega), k (9 + 3) (by omega), k (9 + 4) (by omega)]
  have cM : ip_Mr I1 iP := by
    unfold ip_Mr
    rw [← iK_M]
    unfold ip_M
    rw [k 56 (by omega), k 57 (by omega), k 58 (by omega), k 59 (by omega), k 60 (by omega), k 61 (by omega), k 62 (by omega)]
  refine ⟨⟨iP_ok, c9, cM⟩, Or.inl ⟨by rw [k 8 (by omega)]; exact e1, by rw [k 56 (by omega)]; exact e2⟩, ⟨0, by omega, by rw [k 36 (by omega), e3, nI_0], by rw [k 56 (by omega), e4, nI_0], fun _ h => absurd h (by omega)⟩, fun s hs => ?_, fun j hj => ?_, ?_⟩
  · obtain ⟨a, b, c, d⟩ := e5 s hs
    refine ⟨⟨by rw [k (40 + 2 * s) (by omega), k 64 (by omega), a, b], by rw [k (40 + 2 * s) (by omega), k 65 (by omega), c, d], fun i _ => by rw [zJ, zJ]⟩, ⟨0, by omega, by rw [k 65 (by omega), d, nI_0]⟩, Or.inl (by rw [k 64 (by omega)]; exact b)⟩
  · rw [k 39 (by omega), k 67 (by omega), (e6 j hj).1, (e6 j hj).2]
  · rw [k1]
    exact ⟨⟨(hO 0 (by omega)).trans rfl, (hO 1 (by omega)).trans rfl, (hO 2 (by omega)).trans rfl⟩, (hO 3 (by omega)).trans rfl, (hO 4 (by omega)).trans rfl, (hO 5 (by omega)).trans rfl⟩
/-- the references -/
def bR (L : Nat) : Nat → Nat → Option Nat := fun p k => if p = 0 ∧ k = 0 then some L else none
theorem rch_c {p k : Nat} : ∀ (l : List (Nat × Nat × Nat)) (B B' : Nat → Nat → Option Nat), B p k = B' p k → rch l B p k = rch l B' p k
  | [], B, B', h => h
  | e :: l, B, B', h => by
    show rch l (iv_up B e.1 e.2.1 (some e.2.2)) p k = rch l (iv_up B' e.1 e.2.1 (some e.2.2)) p k
    refine rch_c l _ _ ?_
    unfold iv_up
    split
    · rfl
    · exact h
theorem rch_n {p k : Nat} : ∀ (l : List (Nat × Nat × Nat)) (B : Nat → Nat → Option Nat), (∀ e ∈ l, ¬ (p = e.1 ∧ k = e.2.1)) → rch l B p k = B p k
  | [], B, h => rfl
  | e :: l, B, h => by
    show rch l (iv_up B e.1 e.2.1 (some e.2.2)) p k = B p k
    rw [rch_n l _ (fun x hx => h x (List.mem_cons_of_mem _ hx))]
    exact if_neg (h e List.mem_cons_self)
theorem rch_eq (L : Nat) : rch rl5 (rch rl4 (bR L)) = iv_R0 L := by
  have b4 : ∀ e ∈ rl4, 8 ≤ e.1 ∧ e.1 < 72 ∧ e.2.1 < 27 := by decide
  have b5 : ∀ e ∈ rl5, 8 ≤ e.1 ∧ e.1 < 72 ∧ e.2.1 < 27 := by decide
  have bl : ∀ l ∈ iv_rl, l.length ≤ 27 := by decide
  have ll : iv_rl.length = 72 := by decide
  have fin : ∀ p, p < 72 → ∀ k, k < 27 → rch rl5 (rch rl4 (fun _ _ => none)) p k = (iv_rl.getD p []).getD k none := by decide +kernel
  funext p k
  by_cases p0 : p = 0
  · subst p0
    rw [rch_n rl5 _ (fun e he q => by have := b5 e he; omega), rch_n rl4 _ (fun e he q => by have := b4 e he; omega)]
    unfold bR iv_R0
    by_cases k0 : k = 0 <;> simp [k0]
  · have e0 : iv_R0 L p k = (iv_rl.getD p []).getD k none := if_neg p0
    rw [e0]
    by_cases h : p < 72 ∧ k < 27
    · rw [← fin p h.1 k h.2]
      refine rch_c _ _ _ (rch_c _ _ _ ?_)
      exact if_neg (fun q => p0 q.1)
    · rw [rch_n rl5 _ (fun e he q => by have := b5 e he; omega), rch_n rl4 _ (fun e he q => by have := b4 e he; omega)]
      have n1 : bR L p k = none := if_neg (fun q => p0 q.1)
      rw [n1]
      cases q : iv_rl[p]? with
      | none =>
        rw [List.getD_eq_getElem?_getD, List.getD_eq_getElem?_getD, q]
        simp
      | some l =>
        have m := List.mem_of_getElem? q
        have pl : p < 72 := by
          have := (List.getElem?_eq_some_iff.mp q).1
          omega
        have hk := bl l m
        rw [List.getD_eq_getElem?_getD, List.getD_eq_getElem?_getD, q]
        simp
        rw [List.getElem?_eq_none (by omega)]
        rfl
/-- the heap at the law's start -/
def lw_h (L : Nat) (xs : Nat → Int32) : iv_H := (8, fun p j => if p = 0 then xs j else if p = 1 then iv_ov.getD j 0 else 0, fun _ _ => 0, bR L)
theorem lw_all {L : Nat} {xs : Nat → Int32} (hL : L ≤ 3072) : ∃ h', h'.1 = 72 ∧ ∀ d, iv_sem (d + 20) 265 0 [some (.ref 0), none, none, none] [] (lw_h L xs) = some (some (.int 1), h') := by
  have zI : z0 (fun p j => if p = 0 then xs j else if p = 1 then iv_ov.getD j 0 else 0) (0 : Int32) := fun p hp => by
    funext j
    show (if p = 0 then xs j else if p = 1 then iv_ov.getD j 0 else 0) = 0
    rw [if_neg (by omega), if_neg (by omega)]
  have zJ : z0 (fun (_ _ : Nat) => (0 : Int64)) 0 := fun _ _ => rfl
  have zR : z0 (bR L) none := fun p hp => by
    funext j
    exact if_neg (by omega)
  obtain ⟨h', h7, e⟩ := lw_run hL L 0 0 iP _ (fun _ _ => (0 : Int64)) (by omega) (by omega) (iR_0 zI (fun _ _ => rfl) (fun j _ => rfl))
  refine ⟨h', h7, fun d => ?_⟩
  refine (lw_in zI zJ zR).trans ?_
  rw [rch_eq]
  exact e d
