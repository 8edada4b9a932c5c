/-! norms of conditions; updates; frames; bits of sets of PEOPLE -/
theorem ivt_0 : (0 : Int32).toInt = 0 := by decide
theorem ivl_0 : (0 : Int32).toNatClampNeg = 0 := by decide
theorem ivt_1 : (1 : Int32).toInt = 1 := by decide
theorem ivl_1 : (1 : Int32).toNatClampNeg = 1 := by decide
theorem ivt_2 : (2 : Int32).toInt = 2 := by decide
theorem ivl_2 : (2 : Int32).toNatClampNeg = 2 := by decide
theorem ivt_3 : (3 : Int32).toInt = 3 := by decide
theorem ivl_3 : (3 : Int32).toNatClampNeg = 3 := by decide
theorem ivt_4 : (4 : Int32).toInt = 4 := by decide
theorem ivl_4 : (4 : Int32).toNatClampNeg = 4 := by decide
theorem ivt_5 : (5 : Int32).toInt = 5 := by decide
theorem ivl_5 : (5 : Int32).toNatClampNeg = 5 := by decide
theorem ivt_6 : (6 : Int32).toInt = 6 := by decide
theorem ivl_6 : (6 : Int32).toNatClampNeg = 6 := by decide
theorem ivt_7 : (7 : Int32).toInt = 7 := by decide
theorem ivl_7 : (7 : Int32).toNatClampNeg = 7 := by decide
theorem ivt_8 : (8 : Int32).toInt = 8 := by decide
theorem ivl_8 : (8 : Int32).toNatClampNeg = 8 := by decide
theorem ivt_40 : (40 : Int32).toInt = 40 := by decide
theorem ivl_40 : (40 : Int32).toNatClampNeg = 40 := by decide
theorem ivt_41 : (41 : Int32).toInt = 41 := by decide
theorem ivl_41 : (41 : Int32).toNatClampNeg = 41 := by decide
theorem ivt_42 : (42 : Int32).toInt = 42 := by decide
theorem ivl_42 : (42 : Int32).toNatClampNeg = 42 := by decide
theorem ivt_43 : (43 : Int32).toInt = 43 := by decide
theorem ivl_43 : (43 : Int32).toNatClampNeg = 43 := by decide
theorem ivt_44 : (44 : Int32).toInt = 44 := by decide
theorem ivl_44 : (44 : Int32).toNatClampNeg = 44 := by decide
theorem ivd_2 : (-2 : Int32) - (-2) = 0 := by decide
theorem ivd_3 : (-2 : Int32) - (-3) = 1 := by decide
theorem ivd_4 : (-2 : Int32) - (-4) = 2 := by decide
theorem ivd_5 : (-2 : Int32) - (-5) = 3 := by decide
theorem ivd_6 : (-2 : Int32) - (-6) = 4 := by decide
theorem ivn2_1 : -(-1 : Int32) = 1 := by decide
theorem ivn2_2 : -(-2 : Int32) = 2 := by decide
theorem ivn2_3 : -(-3 : Int32) = 3 := by decide
theorem ivn2_4 : -(-4 : Int32) = 4 := by decide
theorem ivn2_5 : -(-5 : Int32) = 5 := by decide
theorem ivn2_6 : -(-6 : Int32) = 6 := by decide
theorem it_le32 (a b : Int32) : (a ≤ b) = ¬ (b < a) := propext Int32.not_lt.symm
theorem it_iand {α : Type} {p q : Prop} [Decidable (p ∧ q)] [Decidable p] [Decidable q] {a b : α} : (if p ∧ q then a else b) = if p then (if q then a else b) else b := by
  by_cases h : p
  · by_cases k : q
    · rw [if_pos ⟨h, k⟩, if_pos h, if_pos k]
    · rw [if_neg (fun e => k e.2), if_pos h, if_neg k]
  · rw [if_neg (fun e => h e.1), if_neg h]
theorem it_ior {α : Type} {p q : Prop} [Decidable (p ∨ q)] [Decidable p] [Decidable q] {a b : α} : (if p ∨ q then a else b) = if p then a else if q then a else b := by
  by_cases h : p
  · rw [if_pos (Or.inl h), if_pos h]
  · by_cases k : q
    · rw [if_pos (Or.inr k), if_neg h, if_pos k]
    · rw [if_neg (fun e => e.elim h k), if_neg h, if_neg k]
theorem it_push {c : Prop} [Decidable c] {a b : Int32} {h : iv_H} : (some (some (Value.int (if c then a else b)), h) : Option iv_R) = if c then some (some (Value.int a), h) else some (some (Value.int b), h) := by
  by_cases e : c
  · rw [if_pos e, if_pos e]
  · rw [if_neg e, if_neg e]
theorem it_b11 {c : Prop} [Decidable c] : ((if c then (1 : Int32) else 0) = 1) = c := by
  by_cases h : c
  · rw [if_pos h]; exact propext ⟨fun _ => h, fun _ => rfl⟩
  · rw [if_neg h]; exact propext ⟨fun e => absurd e (by decide), fun e => absurd e h⟩
theorem it_nos {c : Prop} : (¬ c ∨ c) = True := eq_true ((Classical.em c).symm)
theorem up_app {α : Type} {F : Nat → Nat → α} {p i q j : Nat} {v : α} : iv_up F p i v q j = if q = p ∧ j = i then v else F q j := rfl
theorem up_row {α : Type} {F : Nat → Nat → α} {p i q : Nat} {v : α} (h : q ≠ p) : iv_up F p i v q = F q := by
  funext j
  exact if_neg (fun e => h e.1)
theorem it_foldS {α : Type} (f : Nat → α → α) : ∀ (m k : Nat) (s : α), it_fold f (m + 1) k s = f (k + m) (it_fold f m k s)
  | 0, k, s => rfl
  | m + 1, k, s => by
    show it_fold f (m + 1) (k + 1) (f k s) = _
    rw [it_foldS f m (k + 1) (f k s), Nat.add_right_comm k 1 m]
    rfl
theorem it_fold1 {α : Type} (f : Nat → α → α) (m : Nat) (s : α) : it_fold f (m + 1) 0 s = f m (it_fold f m 0 s) := by rw [it_foldS, Nat.zero_add]
theorem it_foldC {α : Type} {f g : Nat → α → α} : ∀ (m k : Nat) (s : α), (∀ j t, k ≤ j → j < k + m → f j t = g j t) → it_fold f m k s = it_fold g m k s
  | 0, k, s, h => rfl
  | m + 1, k, s, h => by
    show it_fold f m (k + 1) (f k s) = it_fold g m (k + 1) (g k s)
    rw [h k s (Nat.le_refl _) (by omega)]
    exact it_foldC m (k + 1) _ (fun j t h1 h2 => h j t (by omega) (by omega))
/-- a loop over states: t is what stays -/
theorem it_loopS {σ τ ρ : Type} {f : Nat → σ → τ → ρ} {R : Nat → σ → Prop} {n : Nat} (hs : ∀ k s, k < n → R k s → ∃ s', (∀ t, f k s t = f (k + 1) s' t) ∧ R (k + 1) s') : ∀ (m k : Nat) (s : σ), k + m = n → R k s → ∃ s', (∀ t, f k s t = f n s' t) ∧ R n s'
  | 0, k, s, h, r => by
    have : k = n := by omega
    subst this
    exact ⟨s, fun _ => rfl, r⟩
  | m + 1, k, s, h, r => by
    obtain ⟨s1, e1, r1⟩ := hs k s (by omega) r
    obtain ⟨s2, e2, r2⟩ := it_loopS hs m (k + 1) s1 (by omega) r1
    exact ⟨s2, fun t => (e1 t).trans (e2 t), r2⟩
/-- what is not PEOPLE at b stays -/
def fr (b : Nat) (I I' : Nat → Nat → Int32) : Prop := ∀ p, (p < b ∨ b + 4 < p) → I' p = I p
section
variable {b c p i : Nat} {I I' I'' P Q : Nat → Nat → Int32} {v : Int32}
theorem fr_rfl : fr b I I := fun _ _ => rfl
theorem fr_tr (h : fr b I I') (k : fr b I' I'') : fr b I I'' := fun p e => (k p e).trans (h p e)
theorem fr_up (h : fr b I I') (k : b ≤ p ∧ p ≤ b + 4) : fr b I (iv_up I' p i v) := fun q e => (up_row (by omega)).trans (h q e)
theorem cr_cong (h : ip_Cr c I Q) (e : ∀ p, c ≤ p → p ≤ c + 4 → I' p = I p) : ip_Cr c I' Q := by
  have e0 := e c (by omega) (by omega)
  have e1 := e (c + 1) (by omega) (by omega)
  have e2 := e (c + 2) (by omega) (by omega)
  have e3 := e (c + 3) (by omega) (by omega)
  have e4 := e (c + 4) (by omega) (by omega)
  obtain ⟨rfl, k, hk, h4⟩ := h
  refine ⟨?_, k, hk, by rw [e0]; exact h4⟩
  funext j i
  unfold ip_C
  rw [e0, e1, e2, e3, e4]
theorem cr_fr (hb : iv_pb b) (hc : iv_pb c) (hbc : b ≠ c) (h : ip_Cr c I Q) (f : fr b I I') : ip_Cr c I' Q := by
  refine cr_cong h (fun p h1 h2 => f p ?_)
  rcases hb with rfl | rfl | rfl <;> rcases hc with rfl | rfl | rfl <;> omega
end
/-! bits -/
theorem ib_clr : ∀ k, k < 256 → ∀ x, x < 8 → nI k &&& (((1 : Int32) <<< (nI x &&& 31)) ^^^ (-1)) = nI (k &&& (255 - 2 ^ x)) := by decide +kernel
theorem ib_set : ∀ k, k < 256 → ∀ x, x < 8 → nI k ||| (1 : Int32) <<< (nI x &&& 31) = nI (k ||| 2 ^ x) := by decide +kernel
theorem ib_wr : ∀ k, k < 256 → ∀ i, i < 8 → it_wr (nI k) i = if k.testBit i then 1 else 0 := by decide +kernel
theorem ib_m : ∀ x, x < 8 → ∀ i, i < 8 → (255 - 2 ^ x).testBit i = !decide (i = x) := by decide +kernel
theorem ib_2 : ∀ x, x < 8 → 2 ^ x < 256 := by decide
theorem ib_or {k x : Nat} (hk : k < 256) (hx : x < 8) : k ||| 2 ^ x < 256 := Nat.or_lt_two_pow (n := 8) hk (ib_2 x hx)
theorem ib_and {k m : Nat} (hk : k < 256) : k &&& m < 256 := Nat.lt_of_le_of_lt Nat.and_le_left hk
theorem ib_tc (k : Nat) {x i : Nat} (hx : x < 8) (hi : i < 8) : (k &&& (255 - 2 ^ x)).testBit i = (k.testBit i && !decide (i = x)) := by rw [Nat.testBit_and, ib_m x hx i hi]
theorem ib_ts (k : Nat) {x i : Nat} : (k ||| 2 ^ x).testBit i = (k.testBit i || decide (i = x)) := by
  rw [Nat.testBit_or, Nat.testBit_two_pow]
  congr 1
  exact decide_eq_decide.mpr ⟨Eq.symm, Eq.symm⟩
/-! the class's PEOPLE, a cell set -/
section
variable {b x : Nat} {I P : Nat → Nat → Int32} {v : Int32}
theorem up_1 (hC : ip_Cr b I P) (hx : x < 8) : ip_Cr b (iv_up I (b + 1) x v) (iv_up P 1 x v) := by
  obtain ⟨rfl, k, hk, e⟩ := hC
  refine ⟨?_, k, hk, by simp [iv_up, e]⟩
  funext j i
  by_cases hi : 8 ≤ i
  · have : ¬ i = x := by omega
    simp [ip_C, iv_up, hi, this]
  · rcases j with _ | _ | _ | _ | _ | _ | j <;> simp [ip_C, iv_up, hi]
theorem up_2 (hC : ip_Cr b I P) (hx : x < 8) : ip_Cr b (iv_up I (b + 2) x v) (iv_up P 2 x v) := by
  obtain ⟨rfl, k, hk, e⟩ := hC
  refine ⟨?_, k, hk, by simp [iv_up, e]⟩
  funext j i
  by_cases hi : 8 ≤ i
  · have : ¬ i = x := by omega
    simp [ip_C, iv_up, hi, this]
  · rcases j with _ | _ | _ | _ | _ | _ | j <;> simp [ip_C, iv_up, hi]
theorem up_3 (hC : ip_Cr b I P) (hx : x < 8) : ip_Cr b (iv_up I (b + 3) x v) (iv_up P 3 x v) := by
  obtain ⟨rfl, k, hk, e⟩ := hC
  refine ⟨?_, k, hk, by simp [iv_up, e]⟩
  funext j i
  by_cases hi : 8 ≤ i
  · have : ¬ i = x := by omega
    simp [ip_C, iv_up, hi, this]
  · rcases j with _ | _ | _ | _ | _ | _ | j <;> simp [ip_C, iv_up, hi]
theorem up_5 (hC : ip_Cr b I P) (hx : x < 8) : ip_Cr b (iv_up I (b + 4) x v) (iv_up P 5 x v) := by
  obtain ⟨rfl, k, hk, e⟩ := hC
  refine ⟨?_, k, hk, by simp [iv_up, e]⟩
  funext j i
  by_cases hi : 8 ≤ i
  · have : ¬ i = x := by omega
    simp [ip_C, iv_up, hi, this]
  · rcases j with _ | _ | _ | _ | _ | _ | j <;> simp [ip_C, iv_up, hi]
theorem up_0 (hC : ip_Cr b I P) (hx : x < 5) : ip_Cr b (iv_up I b (5 + x) v) (iv_up P 0 x v) := by
  obtain ⟨rfl, k, hk, e⟩ := hC
  refine ⟨?_, k, hk, by
    show (if b = b ∧ 4 = 5 + x then v else I b 4) = nI k
    rw [if_neg (by omega)]; exact e⟩
  funext j i
  by_cases hi : 8 ≤ i
  · have : ¬ i = x := by omega
    simp [ip_C, iv_up, hi, this]
  · rcases j with _ | _ | _ | _ | _ | _ | j
    · have hi2 : i < 8 := by omega
      have hx2 : x = 0 ∨ x = 1 ∨ x = 2 ∨ x = 3 ∨ x = 4 := by omega
      have hi3 : i = 0 ∨ i = 1 ∨ i = 2 ∨ i = 3 ∨ i = 4 ∨ i = 5 ∨ i = 6 ∨ i = 7 := by omega
      rcases hx2 with rfl | rfl | rfl | rfl | rfl <;> rcases hi3 with rfl | rfl | rfl | rfl | rfl | rfl | rfl | rfl <;> simp [ip_C, iv_up]
    · simp [ip_C, iv_up, hi]
    · simp [ip_C, iv_up, hi]
    · simp [ip_C, iv_up, hi]
    · have : ¬ 4 = 5 + x := by omega
      simp [ip_C, iv_up, hi, this]
    · simp [ip_C, iv_up, hi]
    · simp [ip_C, iv_up, hi]
/-- the word of WRONG ones, set anew -/
theorem up_w (hC : ip_Cr b I P) {m : Nat} (hm : m < 256) {Q : Nat → Nat → Int32} (h1 : ∀ j, j ≠ 4 → Q j = P j) (h2 : ∀ i, i < 8 → Q 4 i = if m.testBit i then 1 else 0) (h3 : ∀ i, 8 ≤ i → Q 4 i = 0) : ip_Cr b (iv_up I b 4 (nI m)) Q := by
  obtain ⟨rfl, k, hk, e⟩ := hC
  refine ⟨?_, m, hm, by simp [iv_up]⟩
  funext j i
  by_cases h4 : j = 4
  · subst h4
    by_cases hi : 8 ≤ i
    · rw [h3 i hi]; simp [ip_C, hi]
    · rw [h2 i (by omega), ← ib_wr m hm i (by omega)]; simp [ip_C, iv_up, hi]
  · rw [h1 j h4]
    by_cases hi : 8 ≤ i
    · simp [ip_C, hi]
    · rcases j with _ | _ | _ | _ | _ | _ | j
      · simp [ip_C, iv_up, hi]
      · simp [ip_C, iv_up, hi]
      · simp [ip_C, iv_up, hi]
      · simp [ip_C, iv_up, hi]
      · exact absurd rfl h4
      · simp [ip_C, iv_up, hi]
      · simp [ip_C, iv_up, hi]
theorem up_4 (hC : ip_Cr b I P) (hx : x < 8) (hv : v = 0 ∨ v = 1) : ip_Cr b (iv_up I b 4 (if v = 0 then I b 4 &&& ((1 <<< (nI x &&& 31)) ^^^ (-1)) else I b 4 ||| 1 <<< (nI x &&& 31))) (iv_up P 4 x v) := by
  have h := hC
  obtain ⟨e0, k, hk, e⟩ := hC
  have hP : ∀ i, i < 8 → P 4 i = if k.testBit i then 1 else 0 := by
    intro i hi
    rw [← e0, ← ib_wr k hk i hi, ← e]
    exact if_neg (by omega)
  have hP8 : ∀ i, 8 ≤ i → P 4 i = 0 := by
    intro i hi
    rw [← e0]
    exact if_pos hi
  rcases hv with rfl | rfl
  · rw [if_pos rfl, e, ib_clr k hk x hx]
    refine up_w h (ib_and hk) (fun j hj => up_row hj) (fun i hi => ?_) (fun i hi => ?_)
    · rw [ib_tc k hx hi, up_app, hP i hi]
      by_cases hix : i = x
      · simp [hix]
      · simp [hix]
    · rw [up_app, if_neg (by omega)]; exact hP8 i hi
  · rw [if_neg (by decide), e, ib_set k hk x hx]
    refine up_w h (ib_or hk hx) (fun j hj => up_row hj) (fun i hi => ?_) (fun i hi => ?_)
    · rw [ib_ts k, up_app, hP i hi]
      by_cases hix : i = x
      · simp [hix]
      · simp [hix]
    · rw [up_app, if_neg (by omega)]; exact hP8 i hi
end
