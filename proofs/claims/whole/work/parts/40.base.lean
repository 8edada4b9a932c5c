/-! PEOPLE as a pure table P: 0 = [count, MINUTES, ABSENT, EVENINGS, SEED], 1 KIND, 2 a, 3 WORDS, 4 WRONG (0, 1), 5 who has met whom -/
theorem it_b10 {c : Prop} [Decidable c] : ((if c then (1 : Int32) else 0) = 0) = (¬ c) := by
  by_cases h : c
  · rw [if_pos h]; exact propext ⟨fun e => absurd e (by decide), fun e => absurd h e⟩
  · rw [if_neg h]; exact propext ⟨fun _ => h, fun _ => rfl⟩
theorem it_b01 {c : Prop} [Decidable c] : ((if c then (0 : Int32) else 1) = 0) = c := by
  by_cases h : c
  · rw [if_pos h]; exact propext ⟨fun _ => h, fun _ => rfl⟩
  · rw [if_neg h]; exact propext ⟨fun e => absurd e (by decide), fun e => absurd e h⟩
theorem it_in8 {x : Nat} (h : x < 8) : iv_in (nI x) 8 = True := iv_inE h (by decide)
theorem it_cl8 {x : Nat} (h : x < 8) : (nI x).toNatClampNeg = x := nI_clamp (by omega)
theorem it_le8 {x y : Nat} (h : x ≤ 8) (k : y ≤ 8) : (nI x ≤ nI y) = (x ≤ y) := propext (nI_leI (by omega) (by omega))
theorem it_lt8 {x y : Nat} (h : x ≤ 8) (k : y ≤ 8) : (nI x < nI y) = (x < y) := propext (nI_ltI (by omega) (by omega))
theorem it_eq8 {x y : Nat} (h : x ≤ 8) (k : y ≤ 8) : (nI x = nI y) = (x = y) := propext (nI_eq (by omega) (by omega))
theorem it_ix {v : Int32} {n : Nat} (hn : n ≤ 8) (h : 0 ≤ v ∧ v < nI n) : ∃ x, x < n ∧ v = nI x := by
  obtain ⟨j, h1, h2⟩ := nI_of (Int32.not_lt.mpr h.1)
  subst h2
  exact ⟨j, (nI_ltI h1 (by omega)).mp h.2, rfl⟩
theorem it_ix' {x n : Nat} (hn : n ≤ 8) (h : x < n) : (0 ≤ nI x ∧ nI x < nI n) = True := eq_true ⟨nI_pos' (by omega), nI_lt h (by omega)⟩
/-- f from k on, m times -/
def it_fold {α : Type} (f : Nat → α → α) : Nat → Nat → α → α
  | 0, _, s => s
  | m + 1, k, s => it_fold f m (k + 1) (f k s)
theorem it_loop {α ρ : Type} {f : Nat → α → ρ} {F : Nat → α → α} {n : Nat} (hs : ∀ k s, k < n → f k s = f (k + 1) (F k s)) : ∀ (m k : Nat) (s : α), k + m = n → f k s = f n (it_fold F m k s)
  | 0, k, s, h => by
    have : k = n := by omega
    subst this
    rfl
  | m + 1, k, s, h => by rw [hs k s (by omega)]; exact it_loop hs m (k + 1) _ (by omega)
/-- WRONG as Java has it -/
def it_wr (w : Int32) (x : Nat) : Int32 := if (w >>> (nI x &&& 31)) &&& 1 = 0 then 0 else 1
theorem it_wr_01 (w : Int32) (x : Nat) : it_wr w x = 0 ∨ it_wr w x = 1 := by
  unfold it_wr
  split
  · exact Or.inl rfl
  · exact Or.inr rfl
def it_kd (k : Int32) : Prop := k = 0 ∨ k = 1 ∨ k = 2 ∨ k = 3 ∨ k = 4 ∨ k = 5
def ip_C (b : Nat) (I : Nat → Nat → Int32) : Nat → Nat → Int32 := fun j i => if 8 ≤ i then 0 else match j with
  | 0 => [I b 5, I b 6, I b 7, I b 8, I b 9].getD i 0
  | 1 => I (b + 1) i
  | 2 => I (b + 2) i
  | 3 => I (b + 3) i
  | 4 => it_wr (I b 4) i
  | 5 => I (b + 4) i
  | _ => 0
/-- the class's PEOPLE at place b are P -/
def ip_Cr (b : Nat) (I P : Nat → Nat → Int32) : Prop := ip_C b I = P ∧ ∃ k, k < 256 ∧ I b 4 = nI k
/-- a table that may be, of n PEOPLE -/
def ip_ok (n : Nat) (P : Nat → Nat → Int32) : Prop := (n ≤ 8 ∧ P 0 0 = nI n ∧ (∀ x, x < 8 → it_kd (P 1 x))) ∧ ((∀ x, x < 8 → ∃ k, k ≤ 9 ∧ P 2 x = nI k) ∧ (∀ x, x < 8 → ∃ k, k ≤ 99 ∧ P 3 x = nI k) ∧ (∀ x, P 4 x = 0 ∨ P 4 x = 1)) ∧ ((∃ k, (1 ≤ k ∧ k ≤ 9) ∧ P 0 1 = nI k) ∧ ∃ k, k ≤ 12 ∧ P 0 2 = nI k) ∧ ((∀ x, P 1 x = 5 → P 4 x = 0) ∧ (∀ x, n ≤ x → P 4 x = 0)) ∧ ((∀ x, ∃ k, k < 2 ^ n ∧ P 5 x = nI k) ∧ (∀ x, x < 8 → it_wr (P 5 x) x = 0) ∧ (∀ x, n ≤ x → P 5 x = 0) ∧ ∀ x y, x < 8 → y < 8 → it_wr (P 5 x) y = it_wr (P 5 y) x)
def iv_pb (b : Nat) : Prop := b = 9 ∨ b = 14 ∨ b = 19
section
variable {L b n : Nat} {I P : Nat → Nat → Int32} {J : Nat → Nat → Int64}
theorem ip_n8 (h : ip_ok n P) : n ≤ 8 := h.1.1
theorem ip_nn (h : ip_ok n P) : P 0 0 = nI n := h.1.2.1
theorem ip_kd (h : ip_ok n P) : ∀ x, x < 8 → it_kd (P 1 x) := h.1.2.2
theorem ip_a (h : ip_ok n P) : ∀ x, x < 8 → ∃ k, k ≤ 9 ∧ P 2 x = nI k := h.2.1.1
theorem ip_w (h : ip_ok n P) : ∀ x, x < 8 → ∃ k, k ≤ 99 ∧ P 3 x = nI k := h.2.1.2.1
theorem ip_01 (h : ip_ok n P) : ∀ x, P 4 x = 0 ∨ P 4 x = 1 := h.2.1.2.2
theorem ip_mi (h : ip_ok n P) : ∃ k, (1 ≤ k ∧ k ≤ 9) ∧ P 0 1 = nI k := h.2.2.1.1
theorem ip_ab (h : ip_ok n P) : ∃ k, k ≤ 12 ∧ P 0 2 = nI k := h.2.2.1.2
theorem pb_lt (h : iv_pb b) : (b < 72) = True := by rcases h with rfl | rfl | rfl <;> exact eq_true (by decide)
theorem pb_l1 (h : iv_pb b) : (b + 1 < 72) = True := by rcases h with rfl | rfl | rfl <;> exact eq_true (by decide)
theorem pb_l2 (h : iv_pb b) : (b + 2 < 72) = True := by rcases h with rfl | rfl | rfl <;> exact eq_true (by decide)
theorem pb_l3 (h : iv_pb b) : (b + 3 < 72) = True := by rcases h with rfl | rfl | rfl <;> exact eq_true (by decide)
theorem pb_l4 (h : iv_pb b) : (b + 4 < 72) = True := by rcases h with rfl | rfl | rfl <;> exact eq_true (by decide)
theorem pb_k (h : iv_pb b) : iv_k b = 1 := by rcases h with rfl | rfl | rfl <;> rfl
theorem pb_k1 (h : iv_pb b) : iv_k (b + 1) = 6 := by rcases h with rfl | rfl | rfl <;> rfl
theorem pb_k2 (h : iv_pb b) : iv_k (b + 2) = 6 := by rcases h with rfl | rfl | rfl <;> rfl
theorem pb_k3 (h : iv_pb b) : iv_k (b + 3) = 6 := by rcases h with rfl | rfl | rfl <;> rfl
theorem pb_k4 (h : iv_pb b) : iv_k (b + 4) = 6 := by rcases h with rfl | rfl | rfl <;> rfl
theorem pb_n1 (h : iv_pb b) : iv_n (b + 1) = 8 := by rcases h with rfl | rfl | rfl <;> rfl
theorem pb_n2 (h : iv_pb b) : iv_n (b + 2) = 8 := by rcases h with rfl | rfl | rfl <;> rfl
theorem pb_n3 (h : iv_pb b) : iv_n (b + 3) = 8 := by rcases h with rfl | rfl | rfl <;> rfl
theorem pb_n4 (h : iv_pb b) : iv_n (b + 4) = 8 := by rcases h with rfl | rfl | rfl <;> rfl
theorem pb_r0 (h : iv_pb b) : iv_R0 L b 0 = some (b + 1) := by rcases h with rfl | rfl | rfl <;> rfl
theorem pb_r1 (h : iv_pb b) : iv_R0 L b 1 = some (b + 2) := by rcases h with rfl | rfl | rfl <;> rfl
theorem pb_r2 (h : iv_pb b) : iv_R0 L b 2 = some (b + 3) := by rcases h with rfl | rfl | rfl <;> rfl
theorem pb_r3 (h : iv_pb b) : iv_R0 L b 3 = some (b + 4) := by rcases h with rfl | rfl | rfl <;> rfl
theorem pb_e1 (b : Nat) : (b + 1 = 0) = False := eq_false (by omega)
theorem pb_e2 (b : Nat) : (b + 2 = 0) = False := eq_false (by omega)
theorem pb_e3 (b : Nat) : (b + 3 = 0) = False := eq_false (by omega)
theorem pb_e4 (b : Nat) : (b + 4 = 0) = False := eq_false (by omega)
theorem pr_c (h : ip_Cr b I P) : I b 5 = P 0 0 := by rw [← h.1]; rfl
theorem pr_mi (h : ip_Cr b I P) : I b 6 = P 0 1 := by rw [← h.1]; rfl
theorem pr_ab (h : ip_Cr b I P) : I b 7 = P 0 2 := by rw [← h.1]; rfl
theorem pr_ev (h : ip_Cr b I P) : I b 8 = P 0 3 := by rw [← h.1]; rfl
theorem pr_se (h : ip_Cr b I P) : I b 9 = P 0 4 := by rw [← h.1]; rfl
theorem pr_1 (h : ip_Cr b I P) {x : Nat} (hx : x < 8) : I (b + 1) x = P 1 x := by rw [← h.1]; exact (if_neg (Nat.not_le.mpr hx)).symm
theorem pr_2 (h : ip_Cr b I P) {x : Nat} (hx : x < 8) : I (b + 2) x = P 2 x := by rw [← h.1]; exact (if_neg (Nat.not_le.mpr hx)).symm
theorem pr_3 (h : ip_Cr b I P) {x : Nat} (hx : x < 8) : I (b + 3) x = P 3 x := by rw [← h.1]; exact (if_neg (Nat.not_le.mpr hx)).symm
theorem pr_4 (h : ip_Cr b I P) {x : Nat} (hx : x < 8) : (if (I b 4 >>> (nI x &&& 31)) &&& 1 = 0 then (0 : Int32) else 1) = P 4 x := by rw [← h.1]; exact (if_neg (Nat.not_le.mpr hx)).symm
theorem pr_5 (h : ip_Cr b I P) {x : Nat} (hx : x < 8) : I (b + 4) x = P 5 x := by rw [← h.1]; exact (if_neg (Nat.not_le.mpr hx)).symm
end
