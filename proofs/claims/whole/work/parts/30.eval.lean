/-! symbolic execution: a simp row an op -/
section
variable {i : iv_I} {is : List iv_I} {ls ls' : iv_L} {st st' : List Value} {h h' : iv_H} {K : Nat → iv_L → List Value → iv_H → Option iv_R} {C : Nat → List Value → iv_H → Option iv_R}
/-- a call's answer goes on the stack -/
def iv_cc (o : Option iv_R) (k : Option Value → iv_H → Option iv_R) : Option iv_R := match o with
  | none => none
  | some (r, h) => k r h
theorem iv_cc_s {r : Option Value} {k : Option Value → iv_H → Option iv_R} : iv_cc (some (r, h)) k = k r h := rfl
theorem ivy_go (e : iv_s i ls st h = some (.inl (ls', st', h'))) : iv_x (i :: is) ls st h K C = iv_x is ls' st' h' K C := by
  rw [iv_x, e]
theorem ivy_no (e : iv_s i ls st h = none) : iv_x (i :: is) ls st h K C = none := by
  rw [iv_x, e]
theorem ivy_jp {pc : Nat} (e : iv_s i ls st h = some (.inr (.inl (pc, ls', st', h')))) : iv_x (i :: is) ls st h K C = K pc ls' st' h' := by
  rw [iv_x, e]
theorem ivy_rt {r : iv_R} (e : iv_s i ls st h = some (.inr (.inr (.inl r)))) : iv_x (i :: is) ls st h K C = some r := by
  rw [iv_x, e]
theorem ivy_cl {y : Nat} {as : List Value} (e : iv_s i ls st h = some (.inr (.inr (.inr (y, as, ls', st', h'))))) : iv_x (i :: is) ls st h K C = iv_cc (C y as h') (fun r h2 => iv_x is ls' (r.toList ++ st') h2 K C) := by
  rw [iv_x, e]
  show (match C y as h' with
    | none => none
    | some (r, h'') => iv_x is ls' (r.toList ++ st') h'' K C) = _
  cases C y as h' with
  | none => rfl
  | some v => obtain ⟨r, h2⟩ := v; rfl
end
def iv_ld8 (o : Option (Option Value)) (k : Int32 → Option iv_R) : Option iv_R := match o with
  | some (some (.int x)) => k x
  | _ => none
theorem iv_ld8_s {x : Int32} {k : Int32 → Option iv_R} : iv_ld8 (some (some (.int x))) k = k x := rfl
def iv_ld9 (o : Option (Option Value)) (k : Int64 → Option iv_R) : Option iv_R := match o with
  | some (some (.long x)) => k x
  | _ => none
theorem iv_ld9_s {x : Int64} {k : Int64 → Option iv_R} : iv_ld9 (some (some (.long x))) k = k x := rfl
def iv_ld10 (o : Option (Option Value)) (k : Nat → Option iv_R) : Option iv_R := match o with
  | some (some (.ref x)) => k x
  | _ => none
theorem iv_ld10_s {x : Nat} {k : Nat → Option iv_R} : iv_ld10 (some (some (.ref x))) k = k x := rfl
theorem ivx_0 {a b : Nat} {z : Int} {ts : List Nat} {is : List iv_I} {ls : iv_L} {h : iv_H} {K : Nat → iv_L → List Value → iv_H → Option iv_R} {C : Nat → List Value → iv_H → Option iv_R} {st : List Value} : iv_x ((0, a, b, z, ts) :: is) ls st h K C = iv_x is ls (.int (Int32.ofInt z) :: st) h K C := rfl
theorem ivx_1 {a b : Nat} {z : Int} {ts : List Nat} {is : List iv_I} {ls : iv_L} {h : iv_H} {K : Nat → iv_L → List Value → iv_H → Option iv_R} {C : Nat → List Value → iv_H → Option iv_R} {st : List Value} : iv_x ((1, a, b, z, ts) :: is) ls st h K C = iv_x is ls (.int (Int8.ofInt z).toInt32 :: st) h K C := rfl
theorem ivx_2 {a b : Nat} {z : Int} {ts : List Nat} {is : List iv_I} {ls : iv_L} {h : iv_H} {K : Nat → iv_L → List Value → iv_H → Option iv_R} {C : Nat → List Value → iv_H → Option iv_R} {st : List Value} : iv_x ((2, a, b, z, ts) :: is) ls st h K C = iv_x is ls (.int (Int16.ofInt z).toInt32 :: st) h K C := rfl
theorem ivx_3 {a b : Nat} {z : Int} {ts : List Nat} {is : List iv_I} {ls : iv_L} {h : iv_H} {K : Nat → iv_L → List Value → iv_H → Option iv_R} {C : Nat → List Value → iv_H → Option iv_R} {st : List Value} : iv_x ((3, a, b, z, ts) :: is) ls st h K C = iv_x is ls (.int (Int32.ofInt z) :: st) h K C := rfl
theorem ivx_4 {a b : Nat} {z : Int} {ts : List Nat} {is : List iv_I} {ls : iv_L} {h : iv_H} {K : Nat → iv_L → List Value → iv_H → Option iv_R} {C : Nat → List Value → iv_H → Option iv_R} {st : List Value} : iv_x ((4, a, b, z, ts) :: is) ls st h K C = iv_x is ls (.int (Int32.ofInt z) :: st) h K C := rfl
theorem ivx_5 {a b : Nat} {z : Int} {ts : List Nat} {is : List iv_I} {ls : iv_L} {h : iv_H} {K : Nat → iv_L → List Value → iv_H → Option iv_R} {C : Nat → List Value → iv_H → Option iv_R} {st : List Value} : iv_x ((5, a, b, z, ts) :: is) ls st h K C = iv_x is ls (.long (Int64.ofInt z) :: st) h K C := rfl
theorem ivx_6 {a b : Nat} {z : Int} {ts : List Nat} {is : List iv_I} {ls : iv_L} {h : iv_H} {K : Nat → iv_L → List Value → iv_H → Option iv_R} {C : Nat → List Value → iv_H → Option iv_R} {st : List Value} : iv_x ((6, a, b, z, ts) :: is) ls st h K C = iv_x is ls (.long (Int64.ofInt z) :: st) h K C := rfl
theorem ivx_7 {a b : Nat} {z : Int} {ts : List Nat} {is : List iv_I} {ls : iv_L} {h : iv_H} {K : Nat → iv_L → List Value → iv_H → Option iv_R} {C : Nat → List Value → iv_H → Option iv_R} {st : List Value} : iv_x ((7, a, b, z, ts) :: is) ls st h K C = iv_x is ls (.ref b :: st) h K C := rfl
theorem ivx_8 {a b : Nat} {z : Int} {ts : List Nat} {is : List iv_I} {ls : iv_L} {st : List Value} {h : iv_H} {K : Nat → iv_L → List Value → iv_H → Option iv_R} {C : Nat → List Value → iv_H → Option iv_R} : iv_x ((8, a, b, z, ts) :: is) ls st h K C = iv_ld8 ls[a]? (fun x => iv_x is ls (.int x :: st) h K C) := by
  unfold iv_ld8
  split
  · rename_i x hg
    refine ivy_go ?_
    show iv_o8 (8, a, b, z, ts) ls st h = _
    unfold iv_o8
    simp only [hg]
    rfl
  · rename_i hg
    refine ivy_no ?_
    show iv_o8 (8, a, b, z, ts) ls st h = none
    unfold iv_o8
    split
    · rename_i x h2
      exact absurd h2 (hg x)
    · rfl
theorem ivx_9 {a b : Nat} {z : Int} {ts : List Nat} {is : List iv_I} {ls : iv_L} {st : List Value} {h : iv_H} {K : Nat → iv_L → List Value → iv_H → Option iv_R} {C : Nat → List Value → iv_H → Option iv_R} : iv_x ((9, a, b, z, ts) :: is) ls st h K C = iv_ld9 ls[a]? (fun x => iv_x is ls (.long x :: st) h K C) := by
  unfold iv_ld9
  split
  · rename_i x hg
    refine ivy_go ?_
    show iv_o9 (9, a, b, z, ts) ls st h = _
    unfold iv_o9
    simp only [hg]
    rfl
  · rename_i hg
    refine ivy_no ?_
    show iv_o9 (9, a, b, z, ts) ls st h = none
    unfold iv_o9
    split
    · rename_i x h2
      exact absurd h2 (hg x)
    · rfl
theorem ivx_10 {a b : Nat} {z : Int} {ts : List Nat} {is : List iv_I} {ls : iv_L} {st : List Value} {h : iv_H} {K : Nat → iv_L → List Value → iv_H → Option iv_R} {C : Nat → List Value → iv_H → Option iv_R} : iv_x ((10, a, b, z, ts) :: is) ls st h K C = iv_ld10 ls[a]? (fun x => iv_x is ls (.ref x :: st) h K C) := by
  unfold iv_ld10
  split
  · rename_i x hg
    refine ivy_go ?_
    show iv_o10 (10, a, b, z, ts) ls st h = _
    unfold iv_o10
    simp only [hg]
    rfl
  · rename_i hg
    refine ivy_no ?_
    show iv_o10 (10, a, b, z, ts) ls st h = none
    unfold iv_o10
    split
    · rename_i x h2
      exact absurd h2 (hg x)
    · rfl
theorem ivx_11 {a b : Nat} {z : Int} {ts : List Nat} {is : List iv_I} {ls : iv_L} {h : iv_H} {K : Nat → iv_L → List Value → iv_H → Option iv_R} {C : Nat → List Value → iv_H → Option iv_R} {st : List Value} {x : Int32} : iv_x ((11, a, b, z, ts) :: is) ls (.int x :: st) h K C = if a < ls.length then iv_x is (iv_st1 ls a (.int x)) st h K C else none := by
  by_cases hc : a < ls.length
  · rw [if_pos hc]
    exact ivy_go (if_pos hc)
  · rw [if_neg hc]
    exact ivy_no (if_neg hc)
theorem ivx_12 {a b : Nat} {z : Int} {ts : List Nat} {is : List iv_I} {ls : iv_L} {h : iv_H} {K : Nat → iv_L → List Value → iv_H → Option iv_R} {C : Nat → List Value → iv_H → Option iv_R} {st : List Value} {x : Int64} : iv_x ((12, a, b, z, ts) :: is) ls (.long x :: st) h K C = if a + 1 < ls.length then iv_x is (iv_st2 ls a (.long x)) st h K C else none := by
  by_cases hc : a + 1 < ls.length
  · rw [if_pos hc]
    exact ivy_go (if_pos hc)
  · rw [if_neg hc]
    exact ivy_no (if_neg hc)
theorem ivx_13 {a b : Nat} {z : Int} {ts : List Nat} {is : List iv_I} {ls : iv_L} {h : iv_H} {K : Nat → iv_L → List Value → iv_H → Option iv_R} {C : Nat → List Value → iv_H → Option iv_R} {st : List Value} {x : Nat} : iv_x ((13, a, b, z, ts) :: is) ls (.ref x :: st) h K C = if a < ls.length then iv_x is (iv_st1 ls a (.ref x)) st h K C else none := by
  by_cases hc : a < ls.length
  · rw [if_pos hc]
    exact ivy_go (if_pos hc)
  · rw [if_neg hc]
    exact ivy_no (if_neg hc)
theorem ivx_14 {a b : Nat} {z : Int} {ts : List Nat} {is : List iv_I} {ls : iv_L} {st : List Value} {h : iv_H} {K : Nat → iv_L → List Value → iv_H → Option iv_R} {C : Nat → List Value → iv_H → Option iv_R} : iv_x ((14, a, b, z, ts) :: is) ls st h K C = iv_ld8 ls[a]? (fun x => iv_x is (iv_st1 ls a (.int (x + Int32.ofInt z))) st h K C) := by
  unfold iv_ld8
  split
  · rename_i x hg
    refine ivy_go ?_
    show iv_o14 (14, a, b, z, ts) ls st h = _
    unfold iv_o14
    simp only [hg]
    rfl
  · rename_i hg
    refine ivy_no ?_
    show iv_o14 (14, a, b, z, ts) ls st h = none
    unfold iv_o14
    split
    · rename_i x h2
      exact absurd h2 (hg x)
    · rfl
theorem ivx_15 {a b : Nat} {z : Int} {ts : List Nat} {is : List iv_I} {ls : iv_L} {h : iv_H} {K : Nat → iv_L → List Value → iv_H → Option iv_R} {C : Nat → List Value → iv_H → Option iv_R} {st : List Value} {x y : Int32} : iv_x ((15, a, b, z, ts) :: is) ls (.int y :: .int x :: st) h K C = iv_x is ls (.int (x + y) :: st) h K C := rfl
theorem ivx_16 {a b : Nat} {z : Int} {ts : List Nat} {is : List iv_I} {ls : iv_L} {h : iv_H} {K : Nat → iv_L → List Value → iv_H → Option iv_R} {C : Nat → List Value → iv_H → Option iv_R} {st : List Value} {x y : Int32} : iv_x ((16, a, b, z, ts) :: is) ls (.int y :: .int x :: st) h K C = iv_x is ls (.int (x - y) :: st) h K C := rfl
theorem ivx_17 {a b : Nat} {z : Int} {ts : List Nat} {is : List iv_I} {ls : iv_L} {h : iv_H} {K : Nat → iv_L → List Value → iv_H → Option iv_R} {C : Nat → List Value → iv_H → Option iv_R} {st : List Value} {x y : Int32} : iv_x ((17, a, b, z, ts) :: is) ls (.int y :: .int x :: st) h K C = iv_x is ls (.int (x * y) :: st) h K C := rfl
theorem ivx_21 {a b : Nat} {z : Int} {ts : List Nat} {is : List iv_I} {ls : iv_L} {h : iv_H} {K : Nat → iv_L → List Value → iv_H → Option iv_R} {C : Nat → List Value → iv_H → Option iv_R} {st : List Value} {x y : Int32} : iv_x ((21, a, b, z, ts) :: is) ls (.int y :: .int x :: st) h K C = iv_x is ls (.int (x &&& y) :: st) h K C := rfl
theorem ivx_22 {a b : Nat} {z : Int} {ts : List Nat} {is : List iv_I} {ls : iv_L} {h : iv_H} {K : Nat → iv_L → List Value → iv_H → Option iv_R} {C : Nat → List Value → iv_H → Option iv_R} {st : List Value} {x y : Int32} : iv_x ((22, a, b, z, ts) :: is) ls (.int y :: .int x :: st) h K C = iv_x is ls (.int (x ||| y) :: st) h K C := rfl
theorem ivx_23 {a b : Nat} {z : Int} {ts : List Nat} {is : List iv_I} {ls : iv_L} {h : iv_H} {K : Nat → iv_L → List Value → iv_H → Option iv_R} {C : Nat → List Value → iv_H → Option iv_R} {st : List Value} {x y : Int32} : iv_x ((23, a, b, z, ts) :: is) ls (.int y :: .int x :: st) h K C = iv_x is ls (.int (x ^^^ y) :: st) h K C := rfl
theorem ivx_24 {a b : Nat} {z : Int} {ts : List Nat} {is : List iv_I} {ls : iv_L} {h : iv_H} {K : Nat → iv_L → List Value → iv_H → Option iv_R} {C : Nat → List Value → iv_H → Option iv_R} {st : List Value} {x y : Int32} : iv_x ((24, a, b, z, ts) :: is) ls (.int y :: .int x :: st) h K C = iv_x is ls (.int (x <<< (y &&& 31)) :: st) h K C := rfl
theorem ivx_25 {a b : Nat} {z : Int} {ts : List Nat} {is : List iv_I} {ls : iv_L} {h : iv_H} {K : Nat → iv_L → List Value → iv_H → Option iv_R} {C : Nat → List Value → iv_H → Option iv_R} {st : List Value} {x y : Int32} : iv_x ((25, a, b, z, ts) :: is) ls (.int y :: .int x :: st) h K C = iv_x is ls (.int (x >>> (y &&& 31)) :: st) h K C := rfl
theorem ivx_26 {a b : Nat} {z : Int} {ts : List Nat} {is : List iv_I} {ls : iv_L} {h : iv_H} {K : Nat → iv_L → List Value → iv_H → Option iv_R} {C : Nat → List Value → iv_H → Option iv_R} {st : List Value} {x y : Int32} : iv_x ((26, a, b, z, ts) :: is) ls (.int y :: .int x :: st) h K C = iv_x is ls (.int ((x.toUInt32 >>> (y.toUInt32 &&& Int32.toUInt32 31)).toInt32) :: st) h K C := rfl
theorem ivx_20 {a b : Nat} {z : Int} {ts : List Nat} {is : List iv_I} {ls : iv_L} {h : iv_H} {K : Nat → iv_L → List Value → iv_H → Option iv_R} {C : Nat → List Value → iv_H → Option iv_R} {st : List Value} {x : Int32} : iv_x ((20, a, b, z, ts) :: is) ls (.int x :: st) h K C = iv_x is ls (.int (-x) :: st) h K C := rfl
theorem ivx_36 {a b : Nat} {z : Int} {ts : List Nat} {is : List iv_I} {ls : iv_L} {h : iv_H} {K : Nat → iv_L → List Value → iv_H → Option iv_R} {C : Nat → List Value → iv_H → Option iv_R} {st : List Value} {x : Int32} : iv_x ((36, a, b, z, ts) :: is) ls (.int x :: st) h K C = iv_x is ls (.int (x.toInt8.toInt32) :: st) h K C := rfl
theorem ivx_37 {a b : Nat} {z : Int} {ts : List Nat} {is : List iv_I} {ls : iv_L} {h : iv_H} {K : Nat → iv_L → List Value → iv_H → Option iv_R} {C : Nat → List Value → iv_H → Option iv_R} {st : List Value} {x : Int32} : iv_x ((37, a, b, z, ts) :: is) ls (.int x :: st) h K C = iv_x is ls (.int (x.toInt16.toInt32) :: st) h K C := rfl
theorem ivx_18 {a b : Nat} {z : Int} {ts : List Nat} {is : List iv_I} {ls : iv_L} {h : iv_H} {K : Nat → iv_L → List Value → iv_H → Option iv_R} {C : Nat → List Value → iv_H → Option iv_R} {st : List Value} {x y : Int32} : iv_x ((18, a, b, z, ts) :: is) ls (.int y :: .int x :: st) h K C = if y = 0 then none else iv_x is ls (.int (x / y) :: st) h K C := by
  by_cases hc : y = 0
  · rw [if_pos hc]
    exact ivy_no (if_pos hc)
  · rw [if_neg hc]
    exact ivy_go (if_neg hc)
theorem ivx_19 {a b : Nat} {z : Int} {ts : List Nat} {is : List iv_I} {ls : iv_L} {h : iv_H} {K : Nat → iv_L → List Value → iv_H → Option iv_R} {C : Nat → List Value → iv_H → Option iv_R} {st : List Value} {x y : Int32} : iv_x ((19, a, b, z, ts) :: is) ls (.int y :: .int x :: st) h K C = if y = 0 then none else iv_x is ls (.int (x - (x / y) * y) :: st) h K C := by
  by_cases hc : y = 0
  · rw [if_pos hc]
    exact ivy_no (if_pos hc)
  · rw [if_neg hc]
    exact ivy_go (if_neg hc)
theorem ivx_27 {a b : Nat} {z : Int} {ts : List Nat} {is : List iv_I} {ls : iv_L} {h : iv_H} {K : Nat → iv_L → List Value → iv_H → Option iv_R} {C : Nat → List Value → iv_H → Option iv_R} {st : List Value} {x y : Int64} : iv_x ((27, a, b, z, ts) :: is) ls (.long y :: .long x :: st) h K C = iv_x is ls (.long (x + y) :: st) h K C := rfl
theorem ivx_28 {a b : Nat} {z : Int} {ts : List Nat} {is : List iv_I} {ls : iv_L} {h : iv_H} {K : Nat → iv_L → List Value → iv_H → Option iv_R} {C : Nat → List Value → iv_H → Option iv_R} {st : List Value} {x y : Int64} : iv_x ((28, a, b, z, ts) :: is) ls (.long y :: .long x :: st) h K C = iv_x is ls (.long (x * y) :: st) h K C := rfl
theorem ivx_29 {a b : Nat} {z : Int} {ts : List Nat} {is : List iv_I} {ls : iv_L} {h : iv_H} {K : Nat → iv_L → List Value → iv_H → Option iv_R} {C : Nat → List Value → iv_H → Option iv_R} {st : List Value} {x y : Int64} : iv_x ((29, a, b, z, ts) :: is) ls (.long y :: .long x :: st) h K C = iv_x is ls (.long (x &&& y) :: st) h K C := rfl
theorem ivx_30 {a b : Nat} {z : Int} {ts : List Nat} {is : List iv_I} {ls : iv_L} {h : iv_H} {K : Nat → iv_L → List Value → iv_H → Option iv_R} {C : Nat → List Value → iv_H → Option iv_R} {st : List Value} {x y : Int64} : iv_x ((30, a, b, z, ts) :: is) ls (.long y :: .long x :: st) h K C = iv_x is ls (.long (x ||| y) :: st) h K C := rfl
theorem ivx_31 {a b : Nat} {z : Int} {ts : List Nat} {is : List iv_I} {ls : iv_L} {h : iv_H} {K : Nat → iv_L → List Value → iv_H → Option iv_R} {C : Nat → List Value → iv_H → Option iv_R} {st : List Value} {x : Int64} {y : Int32} : iv_x ((31, a, b, z, ts) :: is) ls (.int y :: .long x :: st) h K C = iv_x is ls (.long (x <<< (y.toInt64 &&& 63)) :: st) h K C := rfl
theorem ivx_32 {a b : Nat} {z : Int} {ts : List Nat} {is : List iv_I} {ls : iv_L} {h : iv_H} {K : Nat → iv_L → List Value → iv_H → Option iv_R} {C : Nat → List Value → iv_H → Option iv_R} {st : List Value} {x : Int64} {y : Int32} : iv_x ((32, a, b, z, ts) :: is) ls (.int y :: .long x :: st) h K C = iv_x is ls (.long (x >>> (y.toInt64 &&& 63)) :: st) h K C := rfl
theorem ivx_33 {a b : Nat} {z : Int} {ts : List Nat} {is : List iv_I} {ls : iv_L} {h : iv_H} {K : Nat → iv_L → List Value → iv_H → Option iv_R} {C : Nat → List Value → iv_H → Option iv_R} {st : List Value} {x y : Int64} : iv_x ((33, a, b, z, ts) :: is) ls (.long y :: .long x :: st) h K C = iv_x is ls (.int (lg_cmp x y) :: st) h K C := rfl
theorem ivx_34 {a b : Nat} {z : Int} {ts : List Nat} {is : List iv_I} {ls : iv_L} {h : iv_H} {K : Nat → iv_L → List Value → iv_H → Option iv_R} {C : Nat → List Value → iv_H → Option iv_R} {st : List Value} {x : Int32} : iv_x ((34, a, b, z, ts) :: is) ls (.int x :: st) h K C = iv_x is ls (.long x.toInt64 :: st) h K C := rfl
theorem ivx_35 {a b : Nat} {z : Int} {ts : List Nat} {is : List iv_I} {ls : iv_L} {h : iv_H} {K : Nat → iv_L → List Value → iv_H → Option iv_R} {C : Nat → List Value → iv_H → Option iv_R} {st : List Value} {x : Int64} : iv_x ((35, a, b, z, ts) :: is) ls (.long x :: st) h K C = iv_x is ls (.int x.toInt32 :: st) h K C := rfl
theorem ivx_38int {a b : Nat} {z : Int} {ts : List Nat} {is : List iv_I} {ls : iv_L} {h : iv_H} {K : Nat → iv_L → List Value → iv_H → Option iv_R} {C : Nat → List Value → iv_H → Option iv_R} {st : List Value} {x : Int32} : iv_x ((38, a, b, z, ts) :: is) ls (.int x :: st) h K C = iv_x is ls (.int x :: .int x :: st) h K C := rfl
theorem ivx_39int {a b : Nat} {z : Int} {ts : List Nat} {is : List iv_I} {ls : iv_L} {h : iv_H} {K : Nat → iv_L → List Value → iv_H → Option iv_R} {C : Nat → List Value → iv_H → Option iv_R} {st : List Value} {x : Int32} : iv_x ((39, a, b, z, ts) :: is) ls (.int x :: st) h K C = iv_x is ls (st) h K C := rfl
theorem ivx_40intint {a b : Nat} {z : Int} {ts : List Nat} {is : List iv_I} {ls : iv_L} {h : iv_H} {K : Nat → iv_L → List Value → iv_H → Option iv_R} {C : Nat → List Value → iv_H → Option iv_R} {st : List Value} {x : Int32} {y : Int32} : iv_x ((40, a, b, z, ts) :: is) ls (.int x :: .int y :: st) h K C = iv_x is ls (.int x :: .int y :: .int x :: st) h K C := rfl
theorem ivx_41intint {a b : Nat} {z : Int} {ts : List Nat} {is : List iv_I} {ls : iv_L} {h : iv_H} {K : Nat → iv_L → List Value → iv_H → Option iv_R} {C : Nat → List Value → iv_H → Option iv_R} {st : List Value} {x : Int32} {y : Int32} : iv_x ((41, a, b, z, ts) :: is) ls (.int x :: .int y :: st) h K C = iv_x is ls (.int x :: .int y :: .int x :: .int y :: st) h K C := rfl
theorem ivx_40intref {a b : Nat} {z : Int} {ts : List Nat} {is : List iv_I} {ls : iv_L} {h : iv_H} {K : Nat → iv_L → List Value → iv_H → Option iv_R} {C : Nat → List Value → iv_H → Option iv_R} {st : List Value} {x : Int32} {y : Nat} : iv_x ((40, a, b, z, ts) :: is) ls (.int x :: .ref y :: st) h K C = iv_x is ls (.int x :: .ref y :: .int x :: st) h K C := rfl
theorem ivx_41intref {a b : Nat} {z : Int} {ts : List Nat} {is : List iv_I} {ls : iv_L} {h : iv_H} {K : Nat → iv_L → List Value → iv_H → Option iv_R} {C : Nat → List Value → iv_H → Option iv_R} {st : List Value} {x : Int32} {y : Nat} : iv_x ((41, a, b, z, ts) :: is) ls (.int x :: .ref y :: st) h K C = iv_x is ls (.int x :: .ref y :: .int x :: .ref y :: st) h K C := rfl
theorem ivx_38ref {a b : Nat} {z : Int} {ts : List Nat} {is : List iv_I} {ls : iv_L} {h : iv_H} {K : Nat → iv_L → List Value → iv_H → Option iv_R} {C : Nat → List Value → iv_H → Option iv_R} {st : List Value} {x : Nat} : iv_x ((38, a, b, z, ts) :: is) ls (.ref x :: st) h K C = iv_x is ls (.ref x :: .ref x :: st) h K C := rfl
theorem ivx_39ref {a b : Nat} {z : Int} {ts : List Nat} {is : List iv_I} {ls : iv_L} {h : iv_H} {K : Nat → iv_L → List Value → iv_H → Option iv_R} {C : Nat → List Value → iv_H → Option iv_R} {st : List Value} {x : Nat} : iv_x ((39, a, b, z, ts) :: is) ls (.ref x :: st) h K C = iv_x is ls (st) h K C := rfl
theorem ivx_40refint {a b : Nat} {z : Int} {ts : List Nat} {is : List iv_I} {ls : iv_L} {h : iv_H} {K : Nat → iv_L → List Value → iv_H → Option iv_R} {C : Nat → List Value → iv_H → Option iv_R} {st : List Value} {x : Nat} {y : Int32} : iv_x ((40, a, b, z, ts) :: is) ls (.ref x :: .int y :: st) h K C = iv_x is ls (.ref x :: .int y :: .ref x :: st) h K C := rfl
theorem ivx_41refint {a b : Nat} {z : Int} {ts : List Nat} {is : List iv_I} {ls : iv_L} {h : iv_H} {K : Nat → iv_L → List Value → iv_H → Option iv_R} {C : Nat → List Value → iv_H → Option iv_R} {st : List Value} {x : Nat} {y : Int32} : iv_x ((41, a, b, z, ts) :: is) ls (.ref x :: .int y :: st) h K C = iv_x is ls (.ref x :: .int y :: .ref x :: .int y :: st) h K C := rfl
theorem ivx_40refref {a b : Nat} {z : Int} {ts : List Nat} {is : List iv_I} {ls : iv_L} {h : iv_H} {K : Nat → iv_L → List Value → iv_H → Option iv_R} {C : Nat → List Value → iv_H → Option iv_R} {st : List Value} {x : Nat} {y : Nat} : iv_x ((40, a, b, z, ts) :: is) ls (.ref x :: .ref y :: st) h K C = iv_x is ls (.ref x :: .ref y :: .ref x :: st) h K C := rfl
theorem ivx_41refref {a b : Nat} {z : Int} {ts : List Nat} {is : List iv_I} {ls : iv_L} {h : iv_H} {K : Nat → iv_L → List Value → iv_H → Option iv_R} {C : Nat → List Value → iv_H → Option iv_R} {st : List Value} {x : Nat} {y : Nat} : iv_x ((41, a, b, z, ts) :: is) ls (.ref x :: .ref y :: st) h K C = iv_x is ls (.ref x :: .ref y :: .ref x :: .ref y :: st) h K C := rfl
theorem ivx_42 {a b : Nat} {z : Int} {ts : List Nat} {is : List iv_I} {ls : iv_L} {h : iv_H} {K : Nat → iv_L → List Value → iv_H → Option iv_R} {C : Nat → List Value → iv_H → Option iv_R} {st : List Value} : iv_x ((42, a, b, z, ts) :: is) ls st h K C = K a ls st h := rfl
theorem ivx_71 {a b : Nat} {z : Int} {ts : List Nat} {is : List iv_I} {ls : iv_L} {h : iv_H} {K : Nat → iv_L → List Value → iv_H → Option iv_R} {C : Nat → List Value → iv_H → Option iv_R} {st : List Value} : iv_x ((71, a, b, z, ts) :: is) ls st h K C = K a ls st h := rfl
theorem ivx_43eq {a : Nat} {z : Int} {ts : List Nat} {is : List iv_I} {ls : iv_L} {h : iv_H} {K : Nat → iv_L → List Value → iv_H → Option iv_R} {C : Nat → List Value → iv_H → Option iv_R} {st : List Value} {x : Int32} : iv_x ((43, a, 0, z, ts) :: is) ls (.int x :: st) h K C = if x = (0 : Int32) then K a ls st h else iv_x is ls st h K C := by
  by_cases hc : x = (0 : Int32)
  · rw [if_pos hc]
    exact ivy_jp (if_pos (show iv_cd 0 x 0 = true by simpa [iv_cd] using hc))
  · rw [if_neg hc]
    exact ivy_go (if_neg (show ¬ iv_cd 0 x 0 = true by simpa [iv_cd] using hc))
theorem ivx_44eq {a : Nat} {z : Int} {ts : List Nat} {is : List iv_I} {ls : iv_L} {h : iv_H} {K : Nat → iv_L → List Value → iv_H → Option iv_R} {C : Nat → List Value → iv_H → Option iv_R} {st : List Value} {x y : Int32} : iv_x ((44, a, 0, z, ts) :: is) ls (.int y :: .int x :: st) h K C = if x = y then K a ls st h else iv_x is ls st h K C := by
  by_cases hc : x = y
  · rw [if_pos hc]
    exact ivy_jp (if_pos (show iv_cd 0 x y = true by simpa [iv_cd] using hc))
  · rw [if_neg hc]
    exact ivy_go (if_neg (show ¬ iv_cd 0 x y = true by simpa [iv_cd] using hc))
theorem ivx_43ne {a : Nat} {z : Int} {ts : List Nat} {is : List iv_I} {ls : iv_L} {h : iv_H} {K : Nat → iv_L → List Value → iv_H → Option iv_R} {C : Nat → List Value → iv_H → Option iv_R} {st : List Value} {x : Int32} : iv_x ((43, a, 1, z, ts) :: is) ls (.int x :: st) h K C = if ¬ x = (0 : Int32) then K a ls st h else iv_x is ls st h K C := by
  by_cases hc : ¬ x = (0 : Int32)
  · rw [if_pos hc]
    exact ivy_jp (if_pos (show iv_cd 1 x 0 = true by simpa [iv_cd] using hc))
  · rw [if_neg hc]
    exact ivy_go (if_neg (show ¬ iv_cd 1 x 0 = true by simpa [iv_cd] using hc))
theorem ivx_44ne {a : Nat} {z : Int} {ts : List Nat} {is : List iv_I} {ls : iv_L} {h : iv_H} {K : Nat → iv_L → List Value → iv_H → Option iv_R} {C : Nat → List Value → iv_H → Option iv_R} {st : List Value} {x y : Int32} : iv_x ((44, a, 1, z, ts) :: is) ls (.int y :: .int x :: st) h K C = if ¬ x = y then K a ls st h else iv_x is ls st h K C := by
  by_cases hc : ¬ x = y
  · rw [if_pos hc]
    exact ivy_jp (if_pos (show iv_cd 1 x y = true by simpa [iv_cd] using hc))
  · rw [if_neg hc]
    exact ivy_go (if_neg (show ¬ iv_cd 1 x y = true by simpa [iv_cd] using hc))
theorem ivx_43lt {a : Nat} {z : Int} {ts : List Nat} {is : List iv_I} {ls : iv_L} {h : iv_H} {K : Nat → iv_L → List Value → iv_H → Option iv_R} {C : Nat → List Value → iv_H → Option iv_R} {st : List Value} {x : Int32} : iv_x ((43, a, 2, z, ts) :: is) ls (.int x :: st) h K C = if x < (0 : Int32) then K a ls st h else iv_x is ls st h K C := by
  by_cases hc : x < (0 : Int32)
  · rw [if_pos hc]
    exact ivy_jp (if_pos (show iv_cd 2 x 0 = true by simpa [iv_cd] using hc))
  · rw [if_neg hc]
    exact ivy_go (if_neg (show ¬ iv_cd 2 x 0 = true by simpa [iv_cd] using hc))
theorem ivx_44lt {a : Nat} {z : Int} {ts : List Nat} {is : List iv_I} {ls : iv_L} {h : iv_H} {K : Nat → iv_L → List Value → iv_H → Option iv_R} {C : Nat → List Value → iv_H → Option iv_R} {st : List Value} {x y : Int32} : iv_x ((44, a, 2, z, ts) :: is) ls (.int y :: .int x :: st) h K C = if x < y then K a ls st h else iv_x is ls st h K C := by
  by_cases hc : x < y
  · rw [if_pos hc]
    exact ivy_jp (if_pos (show iv_cd 2 x y = true by simpa [iv_cd] using hc))
  · rw [if_neg hc]
    exact ivy_go (if_neg (show ¬ iv_cd 2 x y = true by simpa [iv_cd] using hc))
theorem ivx_43ge {a : Nat} {z : Int} {ts : List Nat} {is : List iv_I} {ls : iv_L} {h : iv_H} {K : Nat → iv_L → List Value → iv_H → Option iv_R} {C : Nat → List Value → iv_H → Option iv_R} {st : List Value} {x : Int32} : iv_x ((43, a, 3, z, ts) :: is) ls (.int x :: st) h K C = if (0 : Int32) ≤ x then K a ls st h else iv_x is ls st h K C := by
  by_cases hc : (0 : Int32) ≤ x
  · rw [if_pos hc]
    exact ivy_jp (if_pos (show iv_cd 3 x 0 = true by simpa [iv_cd] using hc))
  · rw [if_neg hc]
    exact ivy_go (if_neg (show ¬ iv_cd 3 x 0 = true by simpa [iv_cd] using hc))
theorem ivx_44ge {a : Nat} {z : Int} {ts : List Nat} {is : List iv_I} {ls : iv_L} {h : iv_H} {K : Nat → iv_L → List Value → iv_H → Option iv_R} {C : Nat → List Value → iv_H → Option iv_R} {st : List Value} {x y : Int32} : iv_x ((44, a, 3, z, ts) :: is) ls (.int y :: .int x :: st) h K C = if y ≤ x then K a ls st h else iv_x is ls st h K C := by
  by_cases hc : y ≤ x
  · rw [if_pos hc]
    exact ivy_jp (if_pos (show iv_cd 3 x y = true by simpa [iv_cd] using hc))
  · rw [if_neg hc]
    exact ivy_go (if_neg (show ¬ iv_cd 3 x y = true by simpa [iv_cd] using hc))
theorem ivx_43gt {a : Nat} {z : Int} {ts : List Nat} {is : List iv_I} {ls : iv_L} {h : iv_H} {K : Nat → iv_L → List Value → iv_H → Option iv_R} {C : Nat → List Value → iv_H → Option iv_R} {st : List Value} {x : Int32} : iv_x ((43, a, 4, z, ts) :: is) ls (.int x :: st) h K C = if (0 : Int32) < x then K a ls st h else iv_x is ls st h K C := by
  by_cases hc : (0 : Int32) < x
  · rw [if_pos hc]
    exact ivy_jp (if_pos (show iv_cd 4 x 0 = true by simpa [iv_cd] using hc))
  · rw [if_neg hc]
    exact ivy_go (if_neg (show ¬ iv_cd 4 x 0 = true by simpa [iv_cd] using hc))
theorem ivx_44gt {a : Nat} {z : Int} {ts : List Nat} {is : List iv_I} {ls : iv_L} {h : iv_H} {K : Nat → iv_L → List Value → iv_H → Option iv_R} {C : Nat → List Value → iv_H → Option iv_R} {st : List Value} {x y : Int32} : iv_x ((44, a, 4, z, ts) :: is) ls (.int y :: .int x :: st) h K C = if y < x then K a ls st h else iv_x is ls st h K C := by
  by_cases hc : y < x
  · rw [if_pos hc]
    exact ivy_jp (if_pos (show iv_cd 4 x y = true by simpa [iv_cd] using hc))
  · rw [if_neg hc]
    exact ivy_go (if_neg (show ¬ iv_cd 4 x y = true by simpa [iv_cd] using hc))
theorem ivx_43le {a : Nat} {z : Int} {ts : List Nat} {is : List iv_I} {ls : iv_L} {h : iv_H} {K : Nat → iv_L → List Value → iv_H → Option iv_R} {C : Nat → List Value → iv_H → Option iv_R} {st : List Value} {x : Int32} : iv_x ((43, a, 5, z, ts) :: is) ls (.int x :: st) h K C = if x ≤ (0 : Int32) then K a ls st h else iv_x is ls st h K C := by
  by_cases hc : x ≤ (0 : Int32)
  · rw [if_pos hc]
    exact ivy_jp (if_pos (show iv_cd 5 x 0 = true by simpa [iv_cd] using hc))
  · rw [if_neg hc]
    exact ivy_go (if_neg (show ¬ iv_cd 5 x 0 = true by simpa [iv_cd] using hc))
theorem ivx_44le {a : Nat} {z : Int} {ts : List Nat} {is : List iv_I} {ls : iv_L} {h : iv_H} {K : Nat → iv_L → List Value → iv_H → Option iv_R} {C : Nat → List Value → iv_H → Option iv_R} {st : List Value} {x y : Int32} : iv_x ((44, a, 5, z, ts) :: is) ls (.int y :: .int x :: st) h K C = if x ≤ y then K a ls st h else iv_x is ls st h K C := by
  by_cases hc : x ≤ y
  · rw [if_pos hc]
    exact ivy_jp (if_pos (show iv_cd 5 x y = true by simpa [iv_cd] using hc))
  · rw [if_neg hc]
    exact ivy_go (if_neg (show ¬ iv_cd 5 x y = true by simpa [iv_cd] using hc))
theorem ivx_45 {a b : Nat} {z : Int} {ts : List Nat} {is : List iv_I} {ls : iv_L} {h : iv_H} {K : Nat → iv_L → List Value → iv_H → Option iv_R} {C : Nat → List Value → iv_H → Option iv_R} {st : List Value} {x : Int32} : iv_x ((45, a, b, z, ts) :: is) ls (.int x :: st) h K C = K (iv_tg a b ts x.toInt) ls st h := rfl
theorem ivx_46 {a b : Nat} {z : Int} {ts : List Nat} {is : List iv_I} {ls : iv_L} {h : iv_H} {K : Nat → iv_L → List Value → iv_H → Option iv_R} {C : Nat → List Value → iv_H → Option iv_R} {st : List Value} {p : Nat} : iv_x ((46, a, b, z, ts) :: is) ls (.ref p :: st) h K C = if p < h.1 ∧ iv_k p = a then iv_x is ls (iv_rv (h.2.2.2 p b) :: st) h K C else none := by
  by_cases hc : p < h.1 ∧ iv_k p = a
  · rw [if_pos hc]
    exact ivy_go (if_pos hc)
  · rw [if_neg hc]
    exact ivy_no (if_neg hc)
theorem ivx_47 {a b : Nat} {z : Int} {ts : List Nat} {is : List iv_I} {ls : iv_L} {h : iv_H} {K : Nat → iv_L → List Value → iv_H → Option iv_R} {C : Nat → List Value → iv_H → Option iv_R} {st : List Value} {p : Nat} : iv_x ((47, a, b, z, ts) :: is) ls (.ref p :: st) h K C = if p < h.1 ∧ iv_k p = a then iv_x is ls (.int (h.2.1 p b) :: st) h K C else none := by
  by_cases hc : p < h.1 ∧ iv_k p = a
  · rw [if_pos hc]
    exact ivy_go (if_pos hc)
  · rw [if_neg hc]
    exact ivy_no (if_neg hc)
theorem ivx_48 {a b : Nat} {z : Int} {ts : List Nat} {is : List iv_I} {ls : iv_L} {h : iv_H} {K : Nat → iv_L → List Value → iv_H → Option iv_R} {C : Nat → List Value → iv_H → Option iv_R} {st : List Value} {p : Nat} {v : Int32} : iv_x ((48, a, b, z, ts) :: is) ls (.int v :: .ref p :: st) h K C = if p < h.1 ∧ iv_k p = a then iv_x is ls st (iv_uI h p b v) K C else none := by
  by_cases hc : p < h.1 ∧ iv_k p = a
  · rw [if_pos hc]
    exact ivy_go (if_pos hc)
  · rw [if_neg hc]
    exact ivy_no (if_neg hc)
theorem ivx_76 {a b : Nat} {z : Int} {ts : List Nat} {is : List iv_I} {ls : iv_L} {h : iv_H} {K : Nat → iv_L → List Value → iv_H → Option iv_R} {C : Nat → List Value → iv_H → Option iv_R} {st : List Value} {p : Nat} {v : Int32} : iv_x ((76, a, b, z, ts) :: is) ls (.int v :: .ref p :: st) h K C = if (p < h.1 ∧ iv_k p = a) ∧ (v = 0 ∨ v = 1) then iv_x is ls st (iv_uI h p b v) K C else none := by
  by_cases hc : (p < h.1 ∧ iv_k p = a) ∧ (v = 0 ∨ v = 1)
  · rw [if_pos hc]
    exact ivy_go (if_pos hc)
  · rw [if_neg hc]
    exact ivy_no (if_neg hc)
theorem ivx_77 {a b : Nat} {z : Int} {ts : List Nat} {is : List iv_I} {ls : iv_L} {h : iv_H} {K : Nat → iv_L → List Value → iv_H → Option iv_R} {C : Nat → List Value → iv_H → Option iv_R} {st : List Value} {p v : Nat} : iv_x ((77, a, b, z, ts) :: is) ls (.ref v :: .ref p :: st) h K C = if (p < h.1 ∧ iv_k p = a) ∧ (8 ≤ v ∧ v < h.1) then iv_x is ls st (iv_uR h p b (some v)) K C else none := by
  by_cases hc : (p < h.1 ∧ iv_k p = a) ∧ (8 ≤ v ∧ v < h.1)
  · rw [if_pos hc]
    exact ivy_go (if_pos hc)
  · rw [if_neg hc]
    exact ivy_no (if_neg hc)
theorem ivx_49 {a b : Nat} {z : Int} {ts : List Nat} {is : List iv_I} {ls : iv_L} {h : iv_H} {K : Nat → iv_L → List Value → iv_H → Option iv_R} {C : Nat → List Value → iv_H → Option iv_R} {st : List Value} : iv_x ((49, a, b, z, ts) :: is) ls st h K C = iv_x is ls (.ref 1 :: st) h K C := rfl
theorem ivx_50 {a b : Nat} {z : Int} {ts : List Nat} {is : List iv_I} {ls : iv_L} {h : iv_H} {K : Nat → iv_L → List Value → iv_H → Option iv_R} {C : Nat → List Value → iv_H → Option iv_R} {st : List Value} {p : Nat} {x : Int32} : iv_x ((50, a, b, z, ts) :: is) ls (.int x :: .ref p :: st) h K C = if (p < h.1 ∧ (iv_k p = 6 ∨ iv_k p = 11)) ∧ iv_in x (iv_ln h p) then iv_x is ls (.int (h.2.1 p x.toNatClampNeg) :: st) h K C else none := by
  by_cases hc : (p < h.1 ∧ (iv_k p = 6 ∨ iv_k p = 11)) ∧ iv_in x (iv_ln h p)
  · rw [if_pos hc]
    exact ivy_go (if_pos hc)
  · rw [if_neg hc]
    exact ivy_no (if_neg hc)
theorem ivx_51 {a b : Nat} {z : Int} {ts : List Nat} {is : List iv_I} {ls : iv_L} {h : iv_H} {K : Nat → iv_L → List Value → iv_H → Option iv_R} {C : Nat → List Value → iv_H → Option iv_R} {st : List Value} {p : Nat} {x : Int32} : iv_x ((51, a, b, z, ts) :: is) ls (.int x :: .ref p :: st) h K C = if (p < h.1 ∧ iv_k p = 7) ∧ iv_in x (iv_n p) then iv_x is ls (.long (h.2.2.1 p x.toNatClampNeg) :: st) h K C else none := by
  by_cases hc : (p < h.1 ∧ iv_k p = 7) ∧ iv_in x (iv_n p)
  · rw [if_pos hc]
    exact ivy_go (if_pos hc)
  · rw [if_neg hc]
    exact ivy_no (if_neg hc)
theorem ivx_52 {a b : Nat} {z : Int} {ts : List Nat} {is : List iv_I} {ls : iv_L} {h : iv_H} {K : Nat → iv_L → List Value → iv_H → Option iv_R} {C : Nat → List Value → iv_H → Option iv_R} {st : List Value} {p : Nat} {x : Int32} : iv_x ((52, a, b, z, ts) :: is) ls (.int x :: .ref p :: st) h K C = if (p < h.1 ∧ iv_k p = 8) ∧ iv_in x (iv_n p) then iv_x is ls (.int (h.2.1 p x.toNatClampNeg) :: st) h K C else none := by
  by_cases hc : (p < h.1 ∧ iv_k p = 8) ∧ iv_in x (iv_n p)
  · rw [if_pos hc]
    exact ivy_go (if_pos hc)
  · rw [if_neg hc]
    exact ivy_no (if_neg hc)
theorem ivx_53 {a b : Nat} {z : Int} {ts : List Nat} {is : List iv_I} {ls : iv_L} {h : iv_H} {K : Nat → iv_L → List Value → iv_H → Option iv_R} {C : Nat → List Value → iv_H → Option iv_R} {st : List Value} {p : Nat} {x : Int32} : iv_x ((53, a, b, z, ts) :: is) ls (.int x :: .ref p :: st) h K C = if (p < h.1 ∧ (iv_k p = 9 ∨ iv_k p = 10)) ∧ iv_in x (iv_n p) then iv_x is ls (iv_rv (h.2.2.2 p x.toNatClampNeg) :: st) h K C else none := by
  by_cases hc : (p < h.1 ∧ (iv_k p = 9 ∨ iv_k p = 10)) ∧ iv_in x (iv_n p)
  · rw [if_pos hc]
    exact ivy_go (if_pos hc)
  · rw [if_neg hc]
    exact ivy_no (if_neg hc)
theorem ivx_54 {a b : Nat} {z : Int} {ts : List Nat} {is : List iv_I} {ls : iv_L} {h : iv_H} {K : Nat → iv_L → List Value → iv_H → Option iv_R} {C : Nat → List Value → iv_H → Option iv_R} {st : List Value} {p : Nat} {x v : Int32} : iv_x ((54, a, b, z, ts) :: is) ls (.int v :: .int x :: .ref p :: st) h K C = if (p < h.1 ∧ iv_k p = 6) ∧ iv_in x (iv_n p) then iv_x is ls st (iv_uI h p x.toNatClampNeg v) K C else none := by
  by_cases hc : (p < h.1 ∧ iv_k p = 6) ∧ iv_in x (iv_n p)
  · rw [if_pos hc]
    exact ivy_go (if_pos hc)
  · rw [if_neg hc]
    exact ivy_no (if_neg hc)
theorem ivx_55 {a b : Nat} {z : Int} {ts : List Nat} {is : List iv_I} {ls : iv_L} {h : iv_H} {K : Nat → iv_L → List Value → iv_H → Option iv_R} {C : Nat → List Value → iv_H → Option iv_R} {st : List Value} {p : Nat} {x : Int32} {v : Int64} : iv_x ((55, a, b, z, ts) :: is) ls (.long v :: .int x :: .ref p :: st) h K C = if (p < h.1 ∧ iv_k p = 7) ∧ iv_in x (iv_n p) then iv_x is ls st (iv_uJ h p x.toNatClampNeg v) K C else none := by
  by_cases hc : (p < h.1 ∧ iv_k p = 7) ∧ iv_in x (iv_n p)
  · rw [if_pos hc]
    exact ivy_go (if_pos hc)
  · rw [if_neg hc]
    exact ivy_no (if_neg hc)
theorem ivx_56 {a b : Nat} {z : Int} {ts : List Nat} {is : List iv_I} {ls : iv_L} {h : iv_H} {K : Nat → iv_L → List Value → iv_H → Option iv_R} {C : Nat → List Value → iv_H → Option iv_R} {st : List Value} {p : Nat} {x v : Int32} : iv_x ((56, a, b, z, ts) :: is) ls (.int v :: .int x :: .ref p :: st) h K C = if ((p < h.1 ∧ iv_k p = 8) ∧ iv_in x (iv_n p)) ∧ (v = 0 ∨ v = 1) then iv_x is ls st (iv_uI h p x.toNatClampNeg v) K C else none := by
  by_cases hc : ((p < h.1 ∧ iv_k p = 8) ∧ iv_in x (iv_n p)) ∧ (v = 0 ∨ v = 1)
  · rw [if_pos hc]
    exact ivy_go (if_pos hc)
  · rw [if_neg hc]
    exact ivy_no (if_neg hc)
theorem ivx_57 {a b : Nat} {z : Int} {ts : List Nat} {is : List iv_I} {ls : iv_L} {h : iv_H} {K : Nat → iv_L → List Value → iv_H → Option iv_R} {C : Nat → List Value → iv_H → Option iv_R} {st : List Value} {p v : Nat} {x : Int32} : iv_x ((57, a, b, z, ts) :: is) ls (.ref v :: .int x :: .ref p :: st) h K C = if ((p < h.1 ∧ iv_k p = 9) ∧ iv_in x (iv_n p)) ∧ (v < h.1 ∧ iv_k v = 2) then iv_x is ls st (iv_uR h p x.toNatClampNeg (some v)) K C else none := by
  by_cases hc : ((p < h.1 ∧ iv_k p = 9) ∧ iv_in x (iv_n p)) ∧ (v < h.1 ∧ iv_k v = 2)
  · rw [if_pos hc]
    exact ivy_go (if_pos hc)
  · rw [if_neg hc]
    exact ivy_no (if_neg hc)
theorem ivx_58 {a b : Nat} {z : Int} {ts : List Nat} {is : List iv_I} {ls : iv_L} {h : iv_H} {K : Nat → iv_L → List Value → iv_H → Option iv_R} {C : Nat → List Value → iv_H → Option iv_R} {st : List Value} {p : Nat} : iv_x ((58, a, b, z, ts) :: is) ls (.ref p :: st) h K C = if p < h.1 ∧ (6 ≤ iv_k p ∧ iv_k p ≤ 11) then iv_x is ls (.int (Int32.ofNat (iv_ln h p)) :: st) h K C else none := by
  by_cases hc : p < h.1 ∧ (6 ≤ iv_k p ∧ iv_k p ≤ 11)
  · rw [if_pos hc]
    exact ivy_go (if_pos hc)
  · rw [if_neg hc]
    exact ivy_no (if_neg hc)
theorem ivx_63 {b : Nat} {z : Int} {ts : List Nat} {is : List iv_I} {ls : iv_L} {h : iv_H} {K : Nat → iv_L → List Value → iv_H → Option iv_R} {C : Nat → List Value → iv_H → Option iv_R} {x : Int32} : iv_x ((63, 0, b, z, ts) :: is) ls [.int x] h K C = some (some (.int x), h) := rfl
theorem ivx_63b {b : Nat} {z : Int} {ts : List Nat} {is : List iv_I} {ls : iv_L} {h : iv_H} {K : Nat → iv_L → List Value → iv_H → Option iv_R} {C : Nat → List Value → iv_H → Option iv_R} {x : Int32} : iv_x ((63, 1, b, z, ts) :: is) ls [.int x] h K C = if x = 0 ∨ x = 1 then some (some (.int x), h) else none := by
  by_cases hc : x = 0 ∨ x = 1
  · rw [if_pos hc]
    exact ivy_rt (if_pos (Or.inr hc))
  · rw [if_neg hc]
    exact ivy_no (if_neg (fun z => z.elim (fun q => by cases q) hc))
theorem ivx_64 {a b : Nat} {z : Int} {ts : List Nat} {is : List iv_I} {ls : iv_L} {h : iv_H} {K : Nat → iv_L → List Value → iv_H → Option iv_R} {C : Nat → List Value → iv_H → Option iv_R} {x : Int64} : iv_x ((64, a, b, z, ts) :: is) ls [.long x] h K C = some (some (.long x), h) := rfl
theorem ivx_65 {a b : Nat} {z : Int} {ts : List Nat} {is : List iv_I} {ls : iv_L} {h : iv_H} {K : Nat → iv_L → List Value → iv_H → Option iv_R} {C : Nat → List Value → iv_H → Option iv_R} : iv_x ((65, a, b, z, ts) :: is) ls [] h K C = some (none, h) := rfl
theorem ivx_66_0 {a c : Nat} {z : Int} {ts : List Nat} {is : List iv_I} {ls : iv_L} {st : List Value} {p : Nat}  {h : iv_H} {K : Nat → iv_L → List Value → iv_H → Option iv_R} {C : Nat → List Value → iv_H → Option iv_R} : iv_x ((66, a, 0, z, c :: ts) :: is) ls (.ref p :: st) h K C = if (p < h.1 ∧ iv_k p = c) ∧ st.length ≤ 4 then iv_cc (C a [.ref p] h) (fun r h2 => iv_x is ls (r.toList ++ st) h2 K C) else none := by
  by_cases hc : (p < h.1 ∧ iv_k p = c) ∧ st.length ≤ 4
  · rw [if_pos hc]
    exact ivy_cl (if_pos hc)
  · rw [if_neg hc]
    exact ivy_no (if_neg hc)
theorem ivx_66_1 {a c : Nat} {z : Int} {ts : List Nat} {is : List iv_I} {ls : iv_L} {st : List Value} {p : Nat} {v0 : Value} {h : iv_H} {K : Nat → iv_L → List Value → iv_H → Option iv_R} {C : Nat → List Value → iv_H → Option iv_R} : iv_x ((66, a, 1, z, c :: ts) :: is) ls (v0 :: .ref p :: st) h K C = if (p < h.1 ∧ iv_k p = c) ∧ st.length ≤ 4 then iv_cc (C a [.ref p, v0] h) (fun r h2 => iv_x is ls (r.toList ++ st) h2 K C) else none := by
  by_cases hc : (p < h.1 ∧ iv_k p = c) ∧ st.length ≤ 4
  · rw [if_pos hc]
    exact ivy_cl (if_pos hc)
  · rw [if_neg hc]
    exact ivy_no (if_neg hc)
theorem ivx_66_2 {a c : Nat} {z : Int} {ts : List Nat} {is : List iv_I} {ls : iv_L} {st : List Value} {p : Nat} {v0 : Value} {v1 : Value} {h : iv_H} {K : Nat → iv_L → List Value → iv_H → Option iv_R} {C : Nat → List Value → iv_H → Option iv_R} : iv_x ((66, a, 2, z, c :: ts) :: is) ls (v0 :: v1 :: .ref p :: st) h K C = if (p < h.1 ∧ iv_k p = c) ∧ st.length ≤ 4 then iv_cc (C a [.ref p, v1, v0] h) (fun r h2 => iv_x is ls (r.toList ++ st) h2 K C) else none := by
  by_cases hc : (p < h.1 ∧ iv_k p = c) ∧ st.length ≤ 4
  · rw [if_pos hc]
    exact ivy_cl (if_pos hc)
  · rw [if_neg hc]
    exact ivy_no (if_neg hc)
theorem ivx_66_3 {a c : Nat} {z : Int} {ts : List Nat} {is : List iv_I} {ls : iv_L} {st : List Value} {p : Nat} {v0 : Value} {v1 : Value} {v2 : Value} {h : iv_H} {K : Nat → iv_L → List Value → iv_H → Option iv_R} {C : Nat → List Value → iv_H → Option iv_R} : iv_x ((66, a, 3, z, c :: ts) :: is) ls (v0 :: v1 :: v2 :: .ref p :: st) h K C = if (p < h.1 ∧ iv_k p = c) ∧ st.length ≤ 4 then iv_cc (C a [.ref p, v2, v1, v0] h) (fun r h2 => iv_x is ls (r.toList ++ st) h2 K C) else none := by
  by_cases hc : (p < h.1 ∧ iv_k p = c) ∧ st.length ≤ 4
  · rw [if_pos hc]
    exact ivy_cl (if_pos hc)
  · rw [if_neg hc]
    exact ivy_no (if_neg hc)
theorem ivx_66_4 {a c : Nat} {z : Int} {ts : List Nat} {is : List iv_I} {ls : iv_L} {st : List Value} {p : Nat} {v0 : Value} {v1 : Value} {v2 : Value} {v3 : Value} {h : iv_H} {K : Nat → iv_L → List Value → iv_H → Option iv_R} {C : Nat → List Value → iv_H → Option iv_R} : iv_x ((66, a, 4, z, c :: ts) :: is) ls (v0 :: v1 :: v2 :: v3 :: .ref p :: st) h K C = if (p < h.1 ∧ iv_k p = c) ∧ st.length ≤ 4 then iv_cc (C a [.ref p, v3, v2, v1, v0] h) (fun r h2 => iv_x is ls (r.toList ++ st) h2 K C) else none := by
  by_cases hc : (p < h.1 ∧ iv_k p = c) ∧ st.length ≤ 4
  · rw [if_pos hc]
    exact ivy_cl (if_pos hc)
  · rw [if_neg hc]
    exact ivy_no (if_neg hc)
theorem ivx_66_5 {a c : Nat} {z : Int} {ts : List Nat} {is : List iv_I} {ls : iv_L} {st : List Value} {p : Nat} {v0 : Value} {v1 : Value} {v2 : Value} {v3 : Value} {v4 : Value} {h : iv_H} {K : Nat → iv_L → List Value → iv_H → Option iv_R} {C : Nat → List Value → iv_H → Option iv_R} : iv_x ((66, a, 5, z, c :: ts) :: is) ls (v0 :: v1 :: v2 :: v3 :: v4 :: .ref p :: st) h K C = if (p < h.1 ∧ iv_k p = c) ∧ st.length ≤ 4 then iv_cc (C a [.ref p, v4, v3, v2, v1, v0] h) (fun r h2 => iv_x is ls (r.toList ++ st) h2 K C) else none := by
  by_cases hc : (p < h.1 ∧ iv_k p = c) ∧ st.length ≤ 4
  · rw [if_pos hc]
    exact ivy_cl (if_pos hc)
  · rw [if_neg hc]
    exact ivy_no (if_neg hc)
theorem ivx_68_0 {a c : Nat} {z : Int} {ts : List Nat} {is : List iv_I} {ls : iv_L} {st : List Value} {p : Nat}  {h : iv_H} {K : Nat → iv_L → List Value → iv_H → Option iv_R} {C : Nat → List Value → iv_H → Option iv_R} : iv_x ((68, a, 0, z, c :: ts) :: is) ls (.ref p :: st) h K C = if (p < h.1 ∧ iv_k p = c) ∧ st.length ≤ 4 then iv_cc (C a [.ref p] h) (fun r h2 => iv_x is ls (r.toList ++ st) h2 K C) else none := by
  by_cases hc : (p < h.1 ∧ iv_k p = c) ∧ st.length ≤ 4
  · rw [if_pos hc]
    exact ivy_cl (if_pos hc)
  · rw [if_neg hc]
    exact ivy_no (if_neg hc)
theorem ivx_68_1 {a c : Nat} {z : Int} {ts : List Nat} {is : List iv_I} {ls : iv_L} {st : List Value} {p : Nat} {v0 : Value} {h : iv_H} {K : Nat → iv_L → List Value → iv_H → Option iv_R} {C : Nat → List Value → iv_H → Option iv_R} : iv_x ((68, a, 1, z, c :: ts) :: is) ls (v0 :: .ref p :: st) h K C = if (p < h.1 ∧ iv_k p = c) ∧ st.length ≤ 4 then iv_cc (C a [.ref p, v0] h) (fun r h2 => iv_x is ls (r.toList ++ st) h2 K C) else none := by
  by_cases hc : (p < h.1 ∧ iv_k p = c) ∧ st.length ≤ 4
  · rw [if_pos hc]
    exact ivy_cl (if_pos hc)
  · rw [if_neg hc]
    exact ivy_no (if_neg hc)
theorem ivx_68_2 {a c : Nat} {z : Int} {ts : List Nat} {is : List iv_I} {ls : iv_L} {st : List Value} {p : Nat} {v0 : Value} {v1 : Value} {h : iv_H} {K : Nat → iv_L → List Value → iv_H → Option iv_R} {C : Nat → List Value → iv_H → Option iv_R} : iv_x ((68, a, 2, z, c :: ts) :: is) ls (v0 :: v1 :: .ref p :: st) h K C = if (p < h.1 ∧ iv_k p = c) ∧ st.length ≤ 4 then iv_cc (C a [.ref p, v1, v0] h) (fun r h2 => iv_x is ls (r.toList ++ st) h2 K C) else none := by
  by_cases hc : (p < h.1 ∧ iv_k p = c) ∧ st.length ≤ 4
  · rw [if_pos hc]
    exact ivy_cl (if_pos hc)
  · rw [if_neg hc]
    exact ivy_no (if_neg hc)
theorem ivx_68_3 {a c : Nat} {z : Int} {ts : List Nat} {is : List iv_I} {ls : iv_L} {st : List Value} {p : Nat} {v0 : Value} {v1 : Value} {v2 : Value} {h : iv_H} {K : Nat → iv_L → List Value → iv_H → Option iv_R} {C : Nat → List Value → iv_H → Option iv_R} : iv_x ((68, a, 3, z, c :: ts) :: is) ls (v0 :: v1 :: v2 :: .ref p :: st) h K C = if (p < h.1 ∧ iv_k p = c) ∧ st.length ≤ 4 then iv_cc (C a [.ref p, v2, v1, v0] h) (fun r h2 => iv_x is ls (r.toList ++ st) h2 K C) else none := by
  by_cases hc : (p < h.1 ∧ iv_k p = c) ∧ st.length ≤ 4
  · rw [if_pos hc]
    exact ivy_cl (if_pos hc)
  · rw [if_neg hc]
    exact ivy_no (if_neg hc)
theorem ivx_68_4 {a c : Nat} {z : Int} {ts : List Nat} {is : List iv_I} {ls : iv_L} {st : List Value} {p : Nat} {v0 : Value} {v1 : Value} {v2 : Value} {v3 : Value} {h : iv_H} {K : Nat → iv_L → List Value → iv_H → Option iv_R} {C : Nat → List Value → iv_H → Option iv_R} : iv_x ((68, a, 4, z, c :: ts) :: is) ls (v0 :: v1 :: v2 :: v3 :: .ref p :: st) h K C = if (p < h.1 ∧ iv_k p = c) ∧ st.length ≤ 4 then iv_cc (C a [.ref p, v3, v2, v1, v0] h) (fun r h2 => iv_x is ls (r.toList ++ st) h2 K C) else none := by
  by_cases hc : (p < h.1 ∧ iv_k p = c) ∧ st.length ≤ 4
  · rw [if_pos hc]
    exact ivy_cl (if_pos hc)
  · rw [if_neg hc]
    exact ivy_no (if_neg hc)
theorem ivx_68_5 {a c : Nat} {z : Int} {ts : List Nat} {is : List iv_I} {ls : iv_L} {st : List Value} {p : Nat} {v0 : Value} {v1 : Value} {v2 : Value} {v3 : Value} {v4 : Value} {h : iv_H} {K : Nat → iv_L → List Value → iv_H → Option iv_R} {C : Nat → List Value → iv_H → Option iv_R} : iv_x ((68, a, 5, z, c :: ts) :: is) ls (v0 :: v1 :: v2 :: v3 :: v4 :: .ref p :: st) h K C = if (p < h.1 ∧ iv_k p = c) ∧ st.length ≤ 4 then iv_cc (C a [.ref p, v4, v3, v2, v1, v0] h) (fun r h2 => iv_x is ls (r.toList ++ st) h2 K C) else none := by
  by_cases hc : (p < h.1 ∧ iv_k p = c) ∧ st.length ≤ 4
  · rw [if_pos hc]
    exact ivy_cl (if_pos hc)
  · rw [if_neg hc]
    exact ivy_no (if_neg hc)
theorem ivx_73_0 {a c : Nat} {z : Int} {ts : List Nat} {is : List iv_I} {ls : iv_L} {st : List Value} {p : Nat}  {h : iv_H} {K : Nat → iv_L → List Value → iv_H → Option iv_R} {C : Nat → List Value → iv_H → Option iv_R} : iv_x ((73, a, 0, z, c :: ts) :: is) ls (.ref p :: st) h K C = if (p < h.1 ∧ iv_k p = c) ∧ st.length ≤ 4 then iv_cc (C a [.ref p] h) (fun r h2 => iv_x is ls (r.toList ++ st) h2 K C) else none := by
  by_cases hc : (p < h.1 ∧ iv_k p = c) ∧ st.length ≤ 4
  · rw [if_pos hc]
    exact ivy_cl (if_pos hc)
  · rw [if_neg hc]
    exact ivy_no (if_neg hc)
theorem ivx_73_1 {a c : Nat} {z : Int} {ts : List Nat} {is : List iv_I} {ls : iv_L} {st : List Value} {p : Nat} {v0 : Value} {h : iv_H} {K : Nat → iv_L → List Value → iv_H → Option iv_R} {C : Nat → List Value → iv_H → Option iv_R} : iv_x ((73, a, 1, z, c :: ts) :: is) ls (v0 :: .ref p :: st) h K C = if (p < h.1 ∧ iv_k p = c) ∧ st.length ≤ 4 then iv_cc (C a [.ref p, v0] h) (fun r h2 => iv_x is ls (r.toList ++ st) h2 K C) else none := by
  by_cases hc : (p < h.1 ∧ iv_k p = c) ∧ st.length ≤ 4
  · rw [if_pos hc]
    exact ivy_cl (if_pos hc)
  · rw [if_neg hc]
    exact ivy_no (if_neg hc)
theorem ivx_73_2 {a c : Nat} {z : Int} {ts : List Nat} {is : List iv_I} {ls : iv_L} {st : List Value} {p : Nat} {v0 : Value} {v1 : Value} {h : iv_H} {K : Nat → iv_L → List Value → iv_H → Option iv_R} {C : Nat → List Value → iv_H → Option iv_R} : iv_x ((73, a, 2, z, c :: ts) :: is) ls (v0 :: v1 :: .ref p :: st) h K C = if (p < h.1 ∧ iv_k p = c) ∧ st.length ≤ 4 then iv_cc (C a [.ref p, v1, v0] h) (fun r h2 => iv_x is ls (r.toList ++ st) h2 K C) else none := by
  by_cases hc : (p < h.1 ∧ iv_k p = c) ∧ st.length ≤ 4
  · rw [if_pos hc]
    exact ivy_cl (if_pos hc)
  · rw [if_neg hc]
    exact ivy_no (if_neg hc)
theorem ivx_73_3 {a c : Nat} {z : Int} {ts : List Nat} {is : List iv_I} {ls : iv_L} {st : List Value} {p : Nat} {v0 : Value} {v1 : Value} {v2 : Value} {h : iv_H} {K : Nat → iv_L → List Value → iv_H → Option iv_R} {C : Nat → List Value → iv_H → Option iv_R} : iv_x ((73, a, 3, z, c :: ts) :: is) ls (v0 :: v1 :: v2 :: .ref p :: st) h K C = if (p < h.1 ∧ iv_k p = c) ∧ st.length ≤ 4 then iv_cc (C a [.ref p, v2, v1, v0] h) (fun r h2 => iv_x is ls (r.toList ++ st) h2 K C) else none := by
  by_cases hc : (p < h.1 ∧ iv_k p = c) ∧ st.length ≤ 4
  · rw [if_pos hc]
    exact ivy_cl (if_pos hc)
  · rw [if_neg hc]
    exact ivy_no (if_neg hc)
theorem ivx_73_4 {a c : Nat} {z : Int} {ts : List Nat} {is : List iv_I} {ls : iv_L} {st : List Value} {p : Nat} {v0 : Value} {v1 : Value} {v2 : Value} {v3 : Value} {h : iv_H} {K : Nat → iv_L → List Value → iv_H → Option iv_R} {C : Nat → List Value → iv_H → Option iv_R} : iv_x ((73, a, 4, z, c :: ts) :: is) ls (v0 :: v1 :: v2 :: v3 :: .ref p :: st) h K C = if (p < h.1 ∧ iv_k p = c) ∧ st.length ≤ 4 then iv_cc (C a [.ref p, v3, v2, v1, v0] h) (fun r h2 => iv_x is ls (r.toList ++ st) h2 K C) else none := by
  by_cases hc : (p < h.1 ∧ iv_k p = c) ∧ st.length ≤ 4
  · rw [if_pos hc]
    exact ivy_cl (if_pos hc)
  · rw [if_neg hc]
    exact ivy_no (if_neg hc)
theorem ivx_73_5 {a c : Nat} {z : Int} {ts : List Nat} {is : List iv_I} {ls : iv_L} {st : List Value} {p : Nat} {v0 : Value} {v1 : Value} {v2 : Value} {v3 : Value} {v4 : Value} {h : iv_H} {K : Nat → iv_L → List Value → iv_H → Option iv_R} {C : Nat → List Value → iv_H → Option iv_R} : iv_x ((73, a, 5, z, c :: ts) :: is) ls (v0 :: v1 :: v2 :: v3 :: v4 :: .ref p :: st) h K C = if (p < h.1 ∧ iv_k p = c) ∧ st.length ≤ 4 then iv_cc (C a [.ref p, v4, v3, v2, v1, v0] h) (fun r h2 => iv_x is ls (r.toList ++ st) h2 K C) else none := by
  by_cases hc : (p < h.1 ∧ iv_k p = c) ∧ st.length ≤ 4
  · rw [if_pos hc]
    exact ivy_cl (if_pos hc)
  · rw [if_neg hc]
    exact ivy_no (if_neg hc)
theorem ivx_75_0 {a c : Nat} {z : Int} {ts : List Nat} {is : List iv_I} {ls : iv_L} {st : List Value} {p : Nat}  {h : iv_H} {K : Nat → iv_L → List Value → iv_H → Option iv_R} {C : Nat → List Value → iv_H → Option iv_R} : iv_x ((75, a, 0, z, c :: ts) :: is) ls (.ref p :: st) h K C = if (p < h.1 ∧ iv_k p = c) ∧ st.length ≤ 4 then iv_cc (C a [.ref p] h) (fun r h2 => iv_x is ls (r.toList ++ st) h2 K C) else none := by
  by_cases hc : (p < h.1 ∧ iv_k p = c) ∧ st.length ≤ 4
  · rw [if_pos hc]
    exact ivy_cl (if_pos hc)
  · rw [if_neg hc]
    exact ivy_no (if_neg hc)
theorem ivx_75_1 {a c : Nat} {z : Int} {ts : List Nat} {is : List iv_I} {ls : iv_L} {st : List Value} {p : Nat} {v0 : Value} {h : iv_H} {K : Nat → iv_L → List Value → iv_H → Option iv_R} {C : Nat → List Value → iv_H → Option iv_R} : iv_x ((75, a, 1, z, c :: ts) :: is) ls (v0 :: .ref p :: st) h K C = if (p < h.1 ∧ iv_k p = c) ∧ st.length ≤ 4 then iv_cc (C a [.ref p, v0] h) (fun r h2 => iv_x is ls (r.toList ++ st) h2 K C) else none := by
  by_cases hc : (p < h.1 ∧ iv_k p = c) ∧ st.length ≤ 4
  · rw [if_pos hc]
    exact ivy_cl (if_pos hc)
  · rw [if_neg hc]
    exact ivy_no (if_neg hc)
theorem ivx_75_2 {a c : Nat} {z : Int} {ts : List Nat} {is : List iv_I} {ls : iv_L} {st : List Value} {p : Nat} {v0 : Value} {v1 : Value} {h : iv_H} {K : Nat → iv_L → List Value → iv_H → Option iv_R} {C : Nat → List Value → iv_H → Option iv_R} : iv_x ((75, a, 2, z, c :: ts) :: is) ls (v0 :: v1 :: .ref p :: st) h K C = if (p < h.1 ∧ iv_k p = c) ∧ st.length ≤ 4 then iv_cc (C a [.ref p, v1, v0] h) (fun r h2 => iv_x is ls (r.toList ++ st) h2 K C) else none := by
  by_cases hc : (p < h.1 ∧ iv_k p = c) ∧ st.length ≤ 4
  · rw [if_pos hc]
    exact ivy_cl (if_pos hc)
  · rw [if_neg hc]
    exact ivy_no (if_neg hc)
theorem ivx_75_3 {a c : Nat} {z : Int} {ts : List Nat} {is : List iv_I} {ls : iv_L} {st : List Value} {p : Nat} {v0 : Value} {v1 : Value} {v2 : Value} {h : iv_H} {K : Nat → iv_L → List Value → iv_H → Option iv_R} {C : Nat → List Value → iv_H → Option iv_R} : iv_x ((75, a, 3, z, c :: ts) :: is) ls (v0 :: v1 :: v2 :: .ref p :: st) h K C = if (p < h.1 ∧ iv_k p = c) ∧ st.length ≤ 4 then iv_cc (C a [.ref p, v2, v1, v0] h) (fun r h2 => iv_x is ls (r.toList ++ st) h2 K C) else none := by
  by_cases hc : (p < h.1 ∧ iv_k p = c) ∧ st.length ≤ 4
  · rw [if_pos hc]
    exact ivy_cl (if_pos hc)
  · rw [if_neg hc]
    exact ivy_no (if_neg hc)
theorem ivx_75_4 {a c : Nat} {z : Int} {ts : List Nat} {is : List iv_I} {ls : iv_L} {st : List Value} {p : Nat} {v0 : Value} {v1 : Value} {v2 : Value} {v3 : Value} {h : iv_H} {K : Nat → iv_L → List Value → iv_H → Option iv_R} {C : Nat → List Value → iv_H → Option iv_R} : iv_x ((75, a, 4, z, c :: ts) :: is) ls (v0 :: v1 :: v2 :: v3 :: .ref p :: st) h K C = if (p < h.1 ∧ iv_k p = c) ∧ st.length ≤ 4 then iv_cc (C a [.ref p, v3, v2, v1, v0] h) (fun r h2 => iv_x is ls (r.toList ++ st) h2 K C) else none := by
  by_cases hc : (p < h.1 ∧ iv_k p = c) ∧ st.length ≤ 4
  · rw [if_pos hc]
    exact ivy_cl (if_pos hc)
  · rw [if_neg hc]
    exact ivy_no (if_neg hc)
theorem ivx_75_5 {a c : Nat} {z : Int} {ts : List Nat} {is : List iv_I} {ls : iv_L} {st : List Value} {p : Nat} {v0 : Value} {v1 : Value} {v2 : Value} {v3 : Value} {v4 : Value} {h : iv_H} {K : Nat → iv_L → List Value → iv_H → Option iv_R} {C : Nat → List Value → iv_H → Option iv_R} : iv_x ((75, a, 5, z, c :: ts) :: is) ls (v0 :: v1 :: v2 :: v3 :: v4 :: .ref p :: st) h K C = if (p < h.1 ∧ iv_k p = c) ∧ st.length ≤ 4 then iv_cc (C a [.ref p, v4, v3, v2, v1, v0] h) (fun r h2 => iv_x is ls (r.toList ++ st) h2 K C) else none := by
  by_cases hc : (p < h.1 ∧ iv_k p = c) ∧ st.length ≤ 4
  · rw [if_pos hc]
    exact ivy_cl (if_pos hc)
  · rw [if_neg hc]
    exact ivy_no (if_neg hc)
theorem ivx_67_1 {a : Nat} {z : Int} {ts : List Nat} {is : List iv_I} {ls : iv_L} {st : List Value} {v0 : Value} {h : iv_H} {K : Nat → iv_L → List Value → iv_H → Option iv_R} {C : Nat → List Value → iv_H → Option iv_R} : iv_x ((67, a, 1, z, ts) :: is) ls (v0 :: st) h K C = if st.length ≤ 4 then iv_cc (C a [v0] h) (fun r h2 => iv_x is ls (r.toList ++ st) h2 K C) else none := by
  by_cases hc : st.length ≤ 4
  · rw [if_pos hc]
    exact ivy_cl (if_pos ⟨by simp, hc⟩)
  · rw [if_neg hc]
    exact ivy_no (if_neg (fun q => hc q.2))
theorem ivx_67_2 {a : Nat} {z : Int} {ts : List Nat} {is : List iv_I} {ls : iv_L} {st : List Value} {v0 : Value} {v1 : Value} {h : iv_H} {K : Nat → iv_L → List Value → iv_H → Option iv_R} {C : Nat → List Value → iv_H → Option iv_R} : iv_x ((67, a, 2, z, ts) :: is) ls (v0 :: v1 :: st) h K C = if st.length ≤ 4 then iv_cc (C a [v1, v0] h) (fun r h2 => iv_x is ls (r.toList ++ st) h2 K C) else none := by
  by_cases hc : st.length ≤ 4
  · rw [if_pos hc]
    exact ivy_cl (if_pos ⟨by simp, hc⟩)
  · rw [if_neg hc]
    exact ivy_no (if_neg (fun q => hc q.2))
theorem ivx_67_3 {a : Nat} {z : Int} {ts : List Nat} {is : List iv_I} {ls : iv_L} {st : List Value} {v0 : Value} {v1 : Value} {v2 : Value} {h : iv_H} {K : Nat → iv_L → List Value → iv_H → Option iv_R} {C : Nat → List Value → iv_H → Option iv_R} : iv_x ((67, a, 3, z, ts) :: is) ls (v0 :: v1 :: v2 :: st) h K C = if st.length ≤ 4 then iv_cc (C a [v2, v1, v0] h) (fun r h2 => iv_x is ls (r.toList ++ st) h2 K C) else none := by
  by_cases hc : st.length ≤ 4
  · rw [if_pos hc]
    exact ivy_cl (if_pos ⟨by simp, hc⟩)
  · rw [if_neg hc]
    exact ivy_no (if_neg (fun q => hc q.2))
theorem ivx_67_4 {a : Nat} {z : Int} {ts : List Nat} {is : List iv_I} {ls : iv_L} {st : List Value} {v0 : Value} {v1 : Value} {v2 : Value} {v3 : Value} {h : iv_H} {K : Nat → iv_L → List Value → iv_H → Option iv_R} {C : Nat → List Value → iv_H → Option iv_R} : iv_x ((67, a, 4, z, ts) :: is) ls (v0 :: v1 :: v2 :: v3 :: st) h K C = if st.length ≤ 4 then iv_cc (C a [v3, v2, v1, v0] h) (fun r h2 => iv_x is ls (r.toList ++ st) h2 K C) else none := by
  by_cases hc : st.length ≤ 4
  · rw [if_pos hc]
    exact ivy_cl (if_pos ⟨by simp, hc⟩)
  · rw [if_neg hc]
    exact ivy_no (if_neg (fun q => hc q.2))
theorem ivx_72_1 {a : Nat} {z : Int} {ts : List Nat} {is : List iv_I} {ls : iv_L} {st : List Value} {v0 : Value} {h : iv_H} {K : Nat → iv_L → List Value → iv_H → Option iv_R} {C : Nat → List Value → iv_H → Option iv_R} : iv_x ((72, a, 1, z, ts) :: is) ls (v0 :: st) h K C = if st.length ≤ 4 then iv_cc (C a [v0] h) (fun r h2 => iv_x is ls (r.toList ++ st) h2 K C) else none := by
  by_cases hc : st.length ≤ 4
  · rw [if_pos hc]
    exact ivy_cl (if_pos ⟨by simp, hc⟩)
  · rw [if_neg hc]
    exact ivy_no (if_neg (fun q => hc q.2))
theorem ivx_72_2 {a : Nat} {z : Int} {ts : List Nat} {is : List iv_I} {ls : iv_L} {st : List Value} {v0 : Value} {v1 : Value} {h : iv_H} {K : Nat → iv_L → List Value → iv_H → Option iv_R} {C : Nat → List Value → iv_H → Option iv_R} : iv_x ((72, a, 2, z, ts) :: is) ls (v0 :: v1 :: st) h K C = if st.length ≤ 4 then iv_cc (C a [v1, v0] h) (fun r h2 => iv_x is ls (r.toList ++ st) h2 K C) else none := by
  by_cases hc : st.length ≤ 4
  · rw [if_pos hc]
    exact ivy_cl (if_pos ⟨by simp, hc⟩)
  · rw [if_neg hc]
    exact ivy_no (if_neg (fun q => hc q.2))
theorem ivx_72_3 {a : Nat} {z : Int} {ts : List Nat} {is : List iv_I} {ls : iv_L} {st : List Value} {v0 : Value} {v1 : Value} {v2 : Value} {h : iv_H} {K : Nat → iv_L → List Value → iv_H → Option iv_R} {C : Nat → List Value → iv_H → Option iv_R} : iv_x ((72, a, 3, z, ts) :: is) ls (v0 :: v1 :: v2 :: st) h K C = if st.length ≤ 4 then iv_cc (C a [v2, v1, v0] h) (fun r h2 => iv_x is ls (r.toList ++ st) h2 K C) else none := by
  by_cases hc : st.length ≤ 4
  · rw [if_pos hc]
    exact ivy_cl (if_pos ⟨by simp, hc⟩)
  · rw [if_neg hc]
    exact ivy_no (if_neg (fun q => hc q.2))
theorem ivx_72_4 {a : Nat} {z : Int} {ts : List Nat} {is : List iv_I} {ls : iv_L} {st : List Value} {v0 : Value} {v1 : Value} {v2 : Value} {v3 : Value} {h : iv_H} {K : Nat → iv_L → List Value → iv_H → Option iv_R} {C : Nat → List Value → iv_H → Option iv_R} : iv_x ((72, a, 4, z, ts) :: is) ls (v0 :: v1 :: v2 :: v3 :: st) h K C = if st.length ≤ 4 then iv_cc (C a [v3, v2, v1, v0] h) (fun r h2 => iv_x is ls (r.toList ++ st) h2 K C) else none := by
  by_cases hc : st.length ≤ 4
  · rw [if_pos hc]
    exact ivy_cl (if_pos ⟨by simp, hc⟩)
  · rw [if_neg hc]
    exact ivy_no (if_neg (fun q => hc q.2))
