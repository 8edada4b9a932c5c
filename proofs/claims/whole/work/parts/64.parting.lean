/-! TONIGHT: the pure side. 0: it can't be; m + 1: m is learned -/
def oI (m : Nat) : Int32 := if m = 0 then -1 else nI (m - 1)
theorem oI_t {m : Nat} (h : m < 2 ^ 31) : (oI m).toInt = (m : Int) - 1 := by
  unfold oI
  split
  · rename_i e; subst e; decide
  · rw [nI_toInt (by omega)]; omega
theorem oI_lt {a b : Nat} (ha : a < 2 ^ 31) (hb : b < 2 ^ 31) : (oI a < oI b) = (a < b) := by
  rw [Int32.lt_iff_toInt_lt, oI_t ha, oI_t hb]
  exact propext (by omega)
theorem oI_eq {a b : Nat} (ha : a < 2 ^ 31) (hb : b < 2 ^ 31) : (oI a = oI b) = (a = b) := by
  rw [← Int32.toInt_inj, oI_t ha, oI_t hb]
  exact propext (by omega)
theorem oI_0 : oI 0 = -1 := rfl
theorem oI_s (a : Nat) : oI (a + 1) = nI a := rfl
theorem oI_m {a : Nat} (ha : a < 2 ^ 31) : (oI a = -1) = (a = 0) := by
  rw [← oI_0, oI_eq ha (by omega)]
theorem oI_add {a t : Nat} (h : a ≠ 0) : oI a + nI t = oI (a + t) := by
  unfold oI
  rw [if_neg h, if_neg (by omega), nI_add]
  congr 1
  omega
/-- how many bits -/
def pp (S : Nat) : Nat := sm (fun q => if it_wr (nI S) q = 0 then 0 else 1) 0 8
theorem pp_k (k : Nat) (hk : k < 256) : ibc (nI k) = nI (pp k) := pop_k k hk
/-- a set without two -/
def rm (S x y : Nat) : Nat := S &&& (255 - (2 ^ x ||| 2 ^ y))
theorem rm_e : ∀ S, S < 256 → ∀ x, x < 8 → ∀ y, y < 8 → nI S &&& (((1 : Int32) <<< (nI x &&& 31) ||| (1 : Int32) <<< (nI y &&& 31)) ^^^ (-1)) = nI (rm S x y) := by decide +kernel
theorem rm_m : ∀ x, x < 8 → ∀ y, y < 8 → ∀ i, i < 8 → (255 - (2 ^ x ||| 2 ^ y)).testBit i = (!decide (i = x) && !decide (i = y)) := by decide +kernel
theorem rm_t {S x y i : Nat} (hx : x < 8) (hy : y < 8) (hi : i < 8) : (rm S x y).testBit i = (S.testBit i && (!decide (i = x) && !decide (i = y))) := by
  unfold rm
  rw [Nat.testBit_and, rm_m x hx y hy i hi]
theorem rm_le (S x y : Nat) : rm S x y ≤ S := Nat.and_le_left
theorem rm_lt {S x y : Nat} (hx : x < 8) (hy : y < 8) (h : S.testBit x = true) : rm S x y < S := by
  rcases Nat.lt_or_eq_of_le (rm_le S x y) with h1 | h1
  · exact h1
  · exfalso
    have := rm_t (S := S) hx hy hx
    rw [h1, h] at this
    simp at this
theorem hi_bit {S i : Nat} (hS : S < 256) (hi : 8 ≤ i) : S.testBit i = false := Nat.testBit_lt_two_pow (Nat.lt_of_lt_of_le hS (Nat.pow_le_pow_right (n := 2) (by omega) hi))
theorem rm_rm {S x y : Nat} (hS : S < 256) (hx : x < 8) (hy : y < 8) : rm S x y = rm (rm S x x) y y := by
  apply Nat.eq_of_testBit_eq
  intro i
  by_cases hi : i < 8
  · rw [rm_t hx hy hi, rm_t hy hy hi, rm_t hx hx hi]
    simp only [Bool.and_self, Bool.and_assoc]
  · have a := rm_le S x y
    have b := rm_le (rm S x x) y y
    have c := rm_le S x x
    rw [hi_bit (by omega) (by omega), hi_bit (by omega) (by omega)]
theorem pp_1 : ∀ S, S < 256 → ∀ x, x < 8 → S.testBit x = true → pp (rm S x x) + 1 = pp S := by decide +kernel
theorem pp_2 {S x y : Nat} (hS : S < 256) (hx : x < 8) (hy : y < 8) (hxy : x ≠ y) (h1 : S.testBit x = true) (h2 : S.testBit y = true) : pp (rm S x y) + 2 = pp S := by
  have c := rm_le S x x
  have a := pp_1 S hS x hx h1
  have t : (rm S x x).testBit y = true := by
    have hyx : ¬ y = x := fun e => hxy e.symm
    rw [rm_t hx hx hy, h2]
    simp [hyx]
  have b := pp_1 (rm S x x) (by omega) y hy t
  rw [rm_rm hS hx hy]
  omega
def mx (a b : Nat) : Nat := if a < b then b else a
/-- the most for a set in which x has y -/
def mwv (T : Nat → Nat → Nat) (x y S r : Nat) : Nat := if S.testBit y = true then (if x = y then (if pp S % 2 = 1 then r else 0) else if r = 0 then 0 else if T x y = 0 then 0 else r + T x y - 1) else 0
/-- the most for a set, its first k places from behind -/
def mm (T : Nat → Nat → Nat) (n : Nat) : Nat → Nat → Nat
  | 0, _ => 1
  | k + 1, S => if S.testBit (n - (k + 1)) = true then it_fold (fun y top => mx top (mwv T (n - (k + 1)) y S (mm T n k (rm S (n - (k + 1)) y)))) (k + 1) (n - (k + 1)) 0 else mm T n k S
/-- the first with q, of m from a on -/
def fy (q : Nat → Bool) (z : Nat) : Nat → Nat → Nat
  | 0, _ => z
  | m + 1, a => if q a = true then a else fy q z m (a + 1)
def fyv (T : Nat → Nat → Nat) (n k S : Nat) : Nat := fy (fun y => decide (mwv T (n - (k + 1)) y S (mm T n k (rm S (n - (k + 1)) y)) = mm T n (k + 1) S)) (n - (k + 1)) (k + 1) (n - (k + 1))
/-- the first row of partners -/
def cg (T : Nat → Nat → Nat) (n : Nat) : Nat → Nat → (Nat → Int32) → Nat → Int32
  | 0, _, W => W
  | k + 1, S, W => if S.testBit (n - (k + 1)) = true then cg T n k (rm S (n - (k + 1)) (fyv T n k S)) (upd (upd W (n - (k + 1)) (nI (fyv T n k S))) (fyv T n k S) (nI (n - (k + 1)))) else cg T n k S W
section
variable {T : Nat → Nat → Nat} {n k S x y : Nat}
theorem mx_le {a b c : Nat} (h1 : a ≤ c) (h2 : b ≤ c) : mx a b ≤ c := by unfold mx; split <;> omega
theorem mm_0 : mm T n 0 S = 1 := rfl
theorem mm_in (h : S.testBit (n - (k + 1)) = true) : mm T n (k + 1) S = it_fold (fun y top => mx top (mwv T (n - (k + 1)) y S (mm T n k (rm S (n - (k + 1)) y)))) (k + 1) (n - (k + 1)) 0 := by
  show (if S.testBit (n - (k + 1)) = true then _ else _) = _
  rw [if_pos h]
theorem mm_out (h : S.testBit (n - (k + 1)) = false) : mm T n (k + 1) S = mm T n k S := by
  show (if S.testBit (n - (k + 1)) = true then _ else _) = _
  rw [if_neg (by rw [h]; decide)]
theorem cg_in (h : S.testBit (n - (k + 1)) = true) {W : Nat → Int32} : cg T n (k + 1) S W = cg T n k (rm S (n - (k + 1)) (fyv T n k S)) (upd (upd W (n - (k + 1)) (nI (fyv T n k S))) (fyv T n k S) (nI (n - (k + 1)))) := by
  show (if S.testBit (n - (k + 1)) = true then _ else _) = _
  rw [if_pos h]
theorem cg_out (h : S.testBit (n - (k + 1)) = false) {W : Nat → Int32} : cg T n (k + 1) S W = cg T n k S W := by
  show (if S.testBit (n - (k + 1)) = true then _ else _) = _
  rw [if_neg (by rw [h]; decide)]
theorem mwv_le {r c : Nat} (hT : ∀ x y, T x y ≤ 41) (hr : r ≤ c) : mwv T x y S r ≤ c + 41 := by
  have := hT x y
  unfold mwv
  split
  · split
    · split <;> omega
    · split
      · omega
      · split <;> omega
  · omega
theorem mm_le (hT : ∀ x y, T x y ≤ 41) : ∀ k S, mm T n k S ≤ 41 * k + 1
  | 0, S => Nat.le_refl 1
  | k + 1, S => by
    cases h : S.testBit (n - (k + 1)) with
    | false => rw [mm_out h]; have := mm_le hT k S; omega
    | true =>
      rw [mm_in h]
      refine it_foldI (R := fun _ t => t ≤ 41 * (k + 1) + 1) (k + 1) (n - (k + 1)) 0 (by omega) (fun j s _ _ hs => mx_le hs ?_)
      have := mwv_le (x := n - (k + 1)) (y := j) (S := S) hT (mm_le hT k (rm S (n - (k + 1)) j))
      omega
/-- where the first x are not in the set -/
theorem mm_skip : ∀ x, x ≤ n → (∀ i, i < x → S.testBit i = false) → mm T n n S = mm T n (n - x) S
  | 0, _, _ => rfl
  | x + 1, h, hz => by
    rw [mm_skip x (by omega) (fun i hi => hz i (by omega))]
    have e : n - x = (n - (x + 1)) + 1 := by omega
    rw [e]
    refine mm_out ?_
    have e2 : n - (n - (x + 1) + 1) = x := by omega
    rw [e2]
    exact hz x (by omega)
theorem cg_skip : ∀ x, x ≤ n → (∀ i, i < x → S.testBit i = false) → ∀ W, cg T n n S W = cg T n (n - x) S W
  | 0, _, _, _ => rfl
  | x + 1, h, hz, W => by
    rw [cg_skip x (by omega) (fun i hi => hz i (by omega)) W]
    have e : n - x = (n - (x + 1)) + 1 := by omega
    rw [e]
    refine cg_out ?_
    have e2 : n - (n - (x + 1) + 1) = x := by omega
    rw [e2]
    exact hz x (by omega)
/-- the set's least is x: the class's own recursion -/
theorem mm_least (hn : n ≤ 8) (hS : S < 256) (hx : x < n) (hz : ∀ i, i < x → S.testBit i = false) (h : S.testBit x = true) : mm T n n S = it_fold (fun y top => mx top (mwv T x y S (mm T n n (rm S x y)))) (n - x) x 0 := by
  rw [mm_skip x (by omega) hz]
  have e : n - x = (n - x - 1) + 1 := by omega
  have e2 : n - (n - x - 1 + 1) = x := by omega
  rw [e, mm_in (by rw [e2]; exact h), e2]
  refine it_foldC _ _ _ (fun j t h1 h2 => ?_)
  have hz' : ∀ i, i < x + 1 → (rm S x j).testBit i = false := by
    intro i hi
    rw [rm_t (by omega) (by omega) (by omega)]
    by_cases c : i = x
    · simp [c]
    · rw [hz i (by omega)]; simp
  rw [mm_skip (S := rm S x j) (x + 1) (by omega) hz']
  have e3 : n - (x + 1) = n - x - 1 := by omega
  rw [e3]
theorem fy_le {q : Nat → Bool} {z : Nat} : ∀ m a, fy q z m a = z ∨ (a ≤ fy q z m a ∧ fy q z m a < a + m)
  | 0, a => Or.inl rfl
  | m + 1, a => by
    unfold fy
    split
    · exact Or.inr ⟨Nat.le_refl a, by omega⟩
    · rcases fy_le m (a + 1) (q := q) (z := z) with h | h
      · exact Or.inl h
      · exact Or.inr ⟨by omega, by omega⟩
theorem fyv_lt (hk : k < n) : n - (k + 1) ≤ fyv T n k S ∧ fyv T n k S < n := by
  unfold fyv
  rcases fy_le (k + 1) (n - (k + 1)) (q := fun y => decide (mwv T (n - (k + 1)) y S (mm T n k (rm S (n - (k + 1)) y)) = mm T n (k + 1) S)) (z := n - (k + 1)) with h | h
  · rw [h]; omega
  · omega
theorem fy_c {q q' : Nat → Bool} {z : Nat} : ∀ m a, (∀ j, a ≤ j → j < a + m → q j = q' j) → fy q z m a = fy q' z m a
  | 0, _, _ => rfl
  | m + 1, a, h => by
    unfold fy
    rw [h a (by omega) (by omega), fy_c m (a + 1) (fun j h1 h2 => h j (by omega) (by omega))]
/-- all who are in the set, or have one, have one -/
theorem cg_ok (hn : n ≤ 8) : ∀ (k S : Nat) (W : Nat → Int32), k ≤ n → S < 256 → (∀ i, i < n - k → S.testBit i = false) → (∀ i, i < n → S.testBit i = true ∨ ∃ y, y < n ∧ W i = nI y) → ∀ i, i < n → ∃ y, y < n ∧ cg T n k S W i = nI y
  | 0, S, W, _, _, hz, h, i, hi => by
    rcases h i hi with c | c
    · rw [hz i (by omega)] at c; exact absurd c (by decide)
    · exact c
  | k + 1, S, W, hk, hS, hz, h, i, hi => by
    cases hp : S.testBit (n - (k + 1)) with
    | false =>
      rw [cg_out hp]
      refine cg_ok hn k S W (by omega) hS (fun j hj => ?_) h i hi
      by_cases c : j = n - (k + 1)
      · rw [c]; exact hp
      · exact hz j (by omega)
    | true =>
      rw [cg_in hp]
      have hy := fyv_lt (T := T) (n := n) (k := k) (S := S) (by omega)
      generalize fyv T n k S = y at hy
      have le := rm_le S (n - (k + 1)) y
      refine cg_ok hn k _ _ (by omega) (by omega) (fun j hj => ?_) (fun j hj => ?_) i hi
      · rw [rm_t (by omega) (by omega) (by omega)]
        by_cases c : j = n - (k + 1)
        · simp [c]
        · rw [hz j (by omega)]; simp
      · rw [rm_t (by omega) (by omega) (by omega)]
        by_cases c1 : j = y
        · subst c1
          right
          rw [pk_us]
          exact ⟨_, by omega, rfl⟩
        · by_cases c2 : j = n - (k + 1)
          · subst c2
            right
            rw [pk_un c1, pk_us]
            exact ⟨_, hy.2, rfl⟩
          · rw [pk_un c1, pk_un c2]
            rcases h j hj with q | q
            · left; simp [q, c1, c2]
            · right; exact q
/-- where nobody is barred it can be -/
theorem mm_pos (hn : n ≤ 8) (hT : ∀ x y, x < 8 → y < 8 → T x y ≠ 0) : ∀ (k S : Nat), k ≤ n → S < 2 ^ n → (∀ i, i < n - k → S.testBit i = false) → mm T n k S ≠ 0
  | 0, S, _, _, _ => by rw [mm_0]; decide
  | k + 1, S, hk, hS, hz => by
    have h256 : 2 ^ n ≤ 256 := Nat.pow_le_pow_right (n := 2) (j := 8) (by omega) hn
    cases hp : S.testBit (n - (k + 1)) with
    | false =>
      rw [mm_out hp]
      refine mm_pos hn hT k S (by omega) hS (fun j hj => ?_)
      by_cases c : j = n - (k + 1)
      · rw [c]; exact hp
      · exact hz j (by omega)
    | true =>
      rw [mm_in hp]
      have sub : ∀ y, y < n → mm T n k (rm S (n - (k + 1)) y) ≠ 0 := by
        intro y hy
        have le := rm_le S (n - (k + 1)) y
        refine mm_pos hn hT k _ (by omega) (by omega) (fun j hj => ?_)
        rw [rm_t (by omega) (by omega) (by omega)]
        by_cases c : j = n - (k + 1)
        · simp [c]
        · rw [hz j (by omega)]; simp
      have ex : ∃ y, n - (k + 1) ≤ y ∧ y < n ∧ mwv T (n - (k + 1)) y S (mm T n k (rm S (n - (k + 1)) y)) ≠ 0 := by
        by_cases odd : pp S % 2 = 1
        · refine ⟨n - (k + 1), by omega, by omega, ?_⟩
          unfold mwv
          rw [if_pos hp, if_pos rfl, if_pos odd]
          exact sub _ (by omega)
        · have ex2 : ∃ y, y < 8 ∧ (rm S (n - (k + 1)) (n - (k + 1))).testBit y = true := by
            apply Classical.byContradiction
            intro c
            have z : rm S (n - (k + 1)) (n - (k + 1)) = 0 := by
              apply Nat.eq_of_testBit_eq
              intro i
              rw [Nat.zero_testBit]
              by_cases hi : i < 8
              · cases q : (rm S (n - (k + 1)) (n - (k + 1))).testBit i with
                | false => rfl
                | true => exact absurd ⟨i, hi, q⟩ c
              · have := rm_le S (n - (k + 1)) (n - (k + 1))
                exact hi_bit (by omega) (by omega)
            have p1 := pp_1 S (by omega) (n - (k + 1)) (by omega) hp
            rw [z] at p1
            have : pp 0 = 0 := by decide +kernel
            omega
          obtain ⟨y, hy8, hy⟩ := ex2
          rw [rm_t (by omega) (by omega) hy8] at hy
          simp only [Bool.and_self, Bool.and_eq_true, Bool.not_eq_true', decide_eq_false_iff_not] at hy
          obtain ⟨h1, h2⟩ := hy
          have hyn : y < n := by
            apply Classical.byContradiction
            intro c
            have := Nat.testBit_lt_two_pow (Nat.lt_of_lt_of_le hS (Nat.pow_le_pow_right (n := 2) (by omega) (by omega : n ≤ y)))
            rw [this] at h1
            exact absurd h1 (by decide)
          have hyp : n - (k + 1) ≤ y := by
            apply Classical.byContradiction
            intro c
            rw [hz y (by omega)] at h1
            exact absurd h1 (by decide)
          refine ⟨y, hyp, hyn, ?_⟩
          have s := sub y hyn
          have t := hT (n - (k + 1)) y (by omega) hy8
          unfold mwv
          rw [if_pos h1, if_neg (fun e => h2 e.symm), if_neg s, if_neg t]
          omega
      obtain ⟨y, h1, h2, h3⟩ := ex
      have mono : ∀ (g : Nat → Nat) (m a t : Nat), t ≤ it_fold (fun y top => mx top (g y)) m a t ∧ ∀ y, a ≤ y → y < a + m → g y ≤ it_fold (fun y top => mx top (g y)) m a t := by
        intro g m
        induction m with
        | zero => intro a t; exact ⟨Nat.le_refl t, fun y h1 h2 => absurd h1 (by omega)⟩
        | succ m ih =>
          intro a t
          obtain ⟨i1, i2⟩ := ih (a + 1) (mx t (g a))
          have t1 : t ≤ mx t (g a) := by unfold mx; split <;> omega
          have t2 : g a ≤ mx t (g a) := by unfold mx; split <;> omega
          refine ⟨Nat.le_trans t1 i1, fun y h1 h2 => ?_⟩
          by_cases c : y = a
          · subst c; exact Nat.le_trans t2 i1
          · exact i2 y (by omega) (by omega)
      have := (mono (fun y => mwv T (n - (k + 1)) y S (mm T n k (rm S (n - (k + 1)) y))) (k + 1) (n - (k + 1)) 0).2 y h1 (by omega)
      omega
end
/-- what two LEARN together; 0: they may not -/
def ip_G (P : Nat → Nat → Int32) (x y : Nat) : Nat := (ip_gn P x y).toNatClampNeg
def ip_T (P : Nat → Nat → Int32) (bv x y : Nat) : Nat := if bv = 1 ∧ it_wr (P 5 x) y = 1 then 0 else if ip_G P x y + ip_G P y x ≤ 40 then ip_G P x y + ip_G P y x + 1 else 1
section
variable {n : Nat} {P : Nat → Nat → Int32} {x y bv : Nat}
theorem G_e (ok : ip_ok n P) (hx : x < 8) (hy : y < 8) : ip_gn P x y = nI (ip_G P x y) ∧ ip_G P x y ≤ 20 := by
  obtain ⟨k, hk, e⟩ := gn_ok ok hx hy
  unfold ip_G
  rw [e, nI_clamp (by omega)]
  exact ⟨rfl, hk⟩
theorem T_le : ip_T P bv x y ≤ 41 := by
  unfold ip_T
  split
  · omega
  · split <;> omega
theorem T_0 (h : bv = 1 ∧ it_wr (P 5 x) y = 1) : ip_T P bv x y = 0 := if_pos h
theorem T_s (ok : ip_ok n P) (hx : x < 8) (hy : y < 8) (h : ¬ (bv = 1 ∧ it_wr (P 5 x) y = 1)) : ip_T P bv x y = ip_G P x y + ip_G P y x + 1 := by
  have a := (G_e ok hx hy).2
  have b := (G_e ok hy hx).2
  unfold ip_T
  rw [if_neg h, if_pos (by omega)]
theorem T_e (ok : ip_ok n P) (hx : x < 8) (hy : y < 8) (h : ¬ (bv = 1 ∧ it_wr (P 5 x) y = 1)) : oI (ip_T P bv x y) = ip_gn P x y + ip_gn P y x := by
  rw [T_s ok hx hy h, oI_s, (G_e ok hx hy).1, (G_e ok hy hx).1, nI_add]
end
