/-! bounds of what is SPOKEN and LEARNED; a TALK keeps a table that may be -/
abbrev it_T : Type := Nat × Nat × (Nat → Nat → Int64)
section
variable {n x y : Nat} {P : Nat → Nat → Int32}
theorem ik_10 : (10 : Int32) = nI 10 := by decide
theorem ik_5 : (5 : Int32) = nI 5 := by decide
theorem ik_2 : (2 : Int32) = nI 2 := by decide
theorem ik_99 : (99 : Int32) = nI 99 := by decide
theorem sp_ok (ok : ip_ok n P) (hx : x < 8) : ∃ k, k ≤ 135 ∧ ip_sp P x y = nI k := by
  obtain ⟨m, ⟨-, hm⟩, em⟩ := ip_mi ok
  obtain ⟨a, ha, ea⟩ := ip_a ok x hx
  obtain ⟨w, hw, ew⟩ := ip_w ok x hx
  have p : nI m * (5 + nI w / 10) = nI (m * (5 + w / 10)) := by rw [ik_10, pk_div (by omega) (by omega) (by omega), ik_5, nI_add, pk_mul]
  have b : m * (5 + w / 10) ≤ 126 := Nat.mul_le_mul (n₁ := m) (n₂ := 9) (m₁ := 5 + w / 10) (m₂ := 14) hm (by omega)
  have q : ∀ j : Nat, j ≤ 200 → nI j / 2 = nI (j / 2) := fun j hj => by rw [ik_2, pk_div (by omega) (by omega) (by omega)]
  unfold ip_sp it_sp
  rw [em, ea, ew, p]
  rcases ip_kd ok x hx with h | h | h | h | h | h
  · rw [h]; exact ⟨_, by omega, rfl⟩
  · rw [h]; exact ⟨_, by omega, q _ (by omega)⟩
  · rw [h]; exact ⟨m * (5 + w / 10) + a, by omega, by rw [← nI_add]; rfl⟩
  · rw [h]
    by_cases c : 20 + nI a < P 3 y - nI w
    · exact ⟨0, by omega, by simp [c, nI_0]⟩
    · exact ⟨m * (5 + w / 10) / 2, by omega, by rw [← q _ (by omega)]; simp [c]⟩
  · rw [h]
    by_cases c : 10 + nI a < nI w - P 3 y
    · refine ⟨(m * (5 + w / 10) + a) / 2, by omega, ?_⟩
      rw [← q _ (by omega), ← nI_add]
      simp [c]
    · refine ⟨m * (5 + w / 10) + a, by omega, ?_⟩
      rw [← nI_add]
      simp [c]
  · rw [h]; exact ⟨m * 10, by omega, (pk_mul m 10).symm ▸ rfl⟩
theorem gn_ok (ok : ip_ok n P) (hx : x < 8) (hy : y < 8) : ∃ k, k ≤ 20 ∧ ip_gn P x y = nI k := by
  obtain ⟨a, ha, ea⟩ := sp_ok (y := y) ok hx
  obtain ⟨c, hc, ec⟩ := sp_ok (y := x) ok hy
  have q : ∀ j : Nat, j ≤ 300 → nI j / 2 = nI (j / 2) := fun j hj => by rw [ik_2, pk_div (by omega) (by omega) (by omega)]
  have t : (nI a + nI c / 2) / 10 = nI ((a + c / 2) / 10) := by rw [q c (by omega), nI_add, ik_10, pk_div (by omega) (by omega) (by omega)]
  unfold ip_gn it_gn
  rw [ea, ec, t, q _ (by omega)]
  by_cases h5 : P 1 x = 5
  · exact ⟨0, by omega, by rw [if_pos h5, nI_0]⟩
  · rw [if_neg h5]
    generalize (if P 3 x - P 3 y < 0 then -(P 3 x - P 3 y) else P 3 x - P 3 y) = ab
    split
    · exact ⟨(a + c / 2) / 10 / 2, by omega, rfl⟩
    · exact ⟨(a + c / 2) / 10, by omega, rfl⟩
theorem bh_01 (ok : ip_ok n P) : ip_bh P x y = 0 ∨ ip_bh P x y = 1 := by
  unfold ip_bh it_bh
  split
  · exact ip_01 ok x
  · split
    · exact Or.inl rfl
    · exact Or.inr rfl
theorem bh_g (ok : ip_ok n P) (h : P 1 x = 5) : ip_bh P x y = 0 := by
  unfold ip_bh it_bh
  split
  · exact ok.2.2.2.1.1 x h
  · rw [if_pos (Or.inr h)]
/-- 99 at most -/
def ip_99 (v : Int32) : Int32 := if v < 99 then v else 99
theorem i99_ok {w g : Nat} (hw : w ≤ 99) (hg : g ≤ 20) : ∃ k, k ≤ 99 ∧ ip_99 (nI w + nI g) = nI k := by
  unfold ip_99
  rw [nI_add, ik_99]
  by_cases h : w + g < 99
  · exact ⟨w + g, by omega, if_pos (nI_lt h (by omega))⟩
  · exact ⟨99, by omega, if_neg (nI_nlt (by omega) (by omega))⟩
/-- a TALK -/
def ip_meet (P : Nat → Nat → Int32) (x y : Nat) : Nat → Nat → Int32 := iv_up (iv_up (iv_up (iv_up (iv_up (iv_up P 4 x (ip_bh P x y)) 4 y (ip_bh P y x)) 3 x (ip_99 (P 3 x + ip_gn P x y))) 3 y (ip_99 (P 3 y + ip_gn P y x))) 5 x (P 5 x ||| 1 <<< (nI y &&& 31))) 5 y (P 5 y ||| 1 <<< (nI x &&& 31))
theorem ip_met (ok : ip_ok n P) (x : Nat) : ∃ k, k < 2 ^ n ∧ P 5 x = nI k := ok.2.2.2.2.1 x
theorem ib_n (ok : ip_ok n P) : 2 ^ n ≤ 256 := Nat.pow_le_pow_right (n := 2) (j := 8) (by omega) (ip_n8 ok)
theorem meet_1 {P : Nat → Nat → Int32} {x y j : Nat} (h3 : j ≠ 3) (h4 : j ≠ 4) (h5 : j ≠ 5) : ip_meet P x y j = P j := by
  unfold ip_meet
  rw [up_row h5, up_row h5, up_row h3, up_row h3, up_row h4, up_row h4]
theorem meet_3 (hxy : x ≠ y) (z : Nat) : ip_meet P x y 3 z = if z = x then ip_99 (P 3 x + ip_gn P x y) else if z = y then ip_99 (P 3 y + ip_gn P y x) else P 3 z := by
  unfold ip_meet
  rw [up_row (by decide), up_row (by decide)]
  simp only [up_app]
  by_cases h : z = x
  · subst h; simp [hxy]
  · by_cases k : z = y
    · subst k; simp [h]
    · simp [h, k]
theorem meet_4 (hxy : x ≠ y) (z : Nat) : ip_meet P x y 4 z = if z = x then ip_bh P x y else if z = y then ip_bh P y x else P 4 z := by
  unfold ip_meet
  rw [up_row (by decide), up_row (by decide), up_row (by decide), up_row (by decide)]
  simp only [up_app]
  by_cases h : z = x
  · subst h; simp [hxy]
  · by_cases k : z = y
    · subst k; simp [h]
    · simp [h, k]
theorem meet_5 (hxy : x ≠ y) (z : Nat) : ip_meet P x y 5 z = if z = x then P 5 x ||| 1 <<< (nI y &&& 31) else if z = y then P 5 y ||| 1 <<< (nI x &&& 31) else P 5 z := by
  unfold ip_meet
  simp only [up_app]
  by_cases h : z = x
  · subst h; simp [hxy]
  · by_cases k : z = y
    · subst k; simp [h]
    · simp [h, k]
theorem met_w (ok : ip_ok n P) (hx : x < 8) (hy : y < 8) {z i : Nat} (hi : i < 8) (h : z = x) : it_wr (P 5 z ||| 1 <<< (nI y &&& 31)) i = if i = y then 1 else it_wr (P 5 z) i := by
  obtain ⟨k, hk, e⟩ := ip_met ok z
  have hk' : k < 256 := Nat.lt_of_lt_of_le hk (ib_n ok)
  rw [e, ib_set k hk' y hy, ib_wr _ (ib_or hk' hy) i hi, ib_wr k hk' i hi, ib_ts]
  by_cases c : i = y
  · simp [c]
  · simp [c]
theorem meet_w (ok : ip_ok n P) (hx : x < 8) (hy : y < 8) (hxy : x ≠ y) (z : Nat) {i : Nat} (hi : i < 8) : it_wr (ip_meet P x y 5 z) i = if (z = x ∧ i = y) ∨ (z = y ∧ i = x) then 1 else it_wr (P 5 z) i := by
  rw [meet_5 hxy]
  by_cases h : z = x
  · subst h
    rw [if_pos rfl, met_w ok hx hy hi rfl]
    by_cases c : i = y
    · simp [c]
    · simp [c, hxy]
  · rw [if_neg h]
    by_cases k : z = y
    · subst k
      rw [if_pos rfl, met_w ok hy hx hi rfl]
      by_cases c : i = x
      · simp [c]
      · simp [c, h]
    · rw [if_neg k]
      simp [h, k]
theorem meet_ok (ok : ip_ok n P) (hx : x < n) (hy : y < n) (hxy : x ≠ y) : ip_ok n (ip_meet P x y) := by
  have h8 := ip_n8 ok
  have hx8 : x < 8 := by omega
  have hy8 : y < 8 := by omega
  have m0 : ip_meet P x y 0 = P 0 := meet_1 (by decide) (by decide) (by decide)
  have m1 : ip_meet P x y 1 = P 1 := meet_1 (by decide) (by decide) (by decide)
  have m2 : ip_meet P x y 2 = P 2 := meet_1 (by decide) (by decide) (by decide)
  have w99 : ∀ u v, u < 8 → v < 8 → ∃ k, k ≤ 99 ∧ ip_99 (P 3 u + ip_gn P u v) = nI k := by
    intro u v hu hv
    obtain ⟨w, hw, ew⟩ := ip_w ok u hu
    obtain ⟨g, hg, eg⟩ := gn_ok ok hu hv
    rw [ew, eg]
    exact i99_ok hw hg
  refine ⟨⟨h8, by rw [m0]; exact ip_nn ok, by rw [m1]; exact ip_kd ok⟩, ⟨by rw [m2]; exact ip_a ok, fun z hz => ?_, fun z => ?_⟩, ⟨by rw [m0]; exact ip_mi ok, by rw [m0]; exact ip_ab ok⟩, ⟨fun z => ?_, fun z hz => ?_⟩, fun z => ?_, fun z hz => ?_, fun z hz => ?_, fun z u hz hu => ?_⟩
  · rw [meet_3 hxy]
    split
    · exact w99 x y hx8 hy8
    · split
      · exact w99 y x hy8 hx8
      · exact ip_w ok z hz
  · rw [meet_4 hxy]
    split
    · exact bh_01 ok
    · split
      · exact bh_01 ok
      · exact ip_01 ok z
  · rw [m1, meet_4 hxy]
    intro hz
    split
    · rename_i e; subst e; exact bh_g ok hz
    · split
      · rename_i e; subst e; exact bh_g ok hz
      · exact ok.2.2.2.1.1 z hz
  · rw [meet_4 hxy, if_neg (by omega), if_neg (by omega)]
    exact ok.2.2.2.1.2 z hz
  · have st : ∀ u v, v < n → ∃ k, k < 2 ^ n ∧ P 5 u ||| 1 <<< (nI v &&& 31) = nI k := by
      intro u v hv
      obtain ⟨k, hk, e⟩ := ip_met ok u
      have hk' : k < 256 := Nat.lt_of_lt_of_le hk (ib_n ok)
      exact ⟨k ||| 2 ^ v, Nat.or_lt_two_pow hk (Nat.pow_lt_pow_right (by omega) hv), by rw [e, ib_set k hk' v (by omega)]⟩
    rw [meet_5 hxy]
    split
    · exact st x y hy
    · split
      · exact st y x hx
      · exact ip_met ok z
  · rw [meet_w ok hx8 hy8 hxy z hz, if_neg (by omega)]
    exact ok.2.2.2.2.2.1 z hz
  · rw [meet_5 hxy, if_neg (by omega), if_neg (by omega)]
    exact ok.2.2.2.2.2.2.1 z hz
  · rw [meet_w ok hx8 hy8 hxy z hu, meet_w ok hx8 hy8 hxy u hz]
    have s := ok.2.2.2.2.2.2.2 z u hz hu
    by_cases c : (z = x ∧ u = y) ∨ (z = y ∧ u = x)
    · rw [if_pos c, if_pos (by omega)]
    · rw [if_neg c, if_neg (by omega), s]
end
