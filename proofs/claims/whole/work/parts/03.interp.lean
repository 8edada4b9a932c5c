/-! A small interpreter of my own over an abstract heap of PLACES; proved sound over the machine behind. -/
abbrev iv_H : Type := Nat × (Nat → Nat → Int32) × (Nat → Nat → Int64) × (Nat → Nat → Option Nat)
abbrev iv_L : Type := List (Option Value)
abbrev iv_I : Type := Nat × Nat × Nat × Int × List Nat
abbrev iv_R : Type := Option Value × iv_H
abbrev iv_A : Type := (iv_L × List Value × iv_H) ⊕ ((Nat × iv_L × List Value × iv_H) ⊕ (iv_R ⊕ (Nat × List Value × iv_L × List Value × iv_H)))
def iv_go (ls : iv_L) (st : List Value) (h : iv_H) : Option iv_A := some (.inl (ls, st, h))
def iv_jp (pc : Nat) (ls : iv_L) (st : List Value) (h : iv_H) : Option iv_A := some (.inr (.inl (pc, ls, st, h)))
def iv_rt (r : Option Value) (h : iv_H) : Option iv_A := some (.inr (.inr (.inl (r, h))))
def iv_cl (y : Nat) (as : List Value) (ls : iv_L) (st : List Value) (h : iv_H) : Option iv_A := some (.inr (.inr (.inr (y, as, ls, st, h))))
/-- the kinds of the places: 0..5 objects by vwCl, 6 int[], 7 long[], 8 boolean[], 9 Shelf[], 10 int[][], 11 an old int[], 12 a String constant -/
def iv_kl : List Nat := [11, 11, 12, 12, 12, 12, 12, 12, 4, 1, 6, 6, 6, 6, 1, 6, 6, 6, 6, 1, 6, 6, 6, 6, 0, 6, 10, 6, 6, 6, 6, 6, 6, 6, 6, 6, 3, 6, 9, 6, 2, 7, 2, 7, 2, 7, 2, 7, 2, 7, 2, 7, 2, 7, 2, 7, 5, 6, 6, 6, 8, 6, 6, 6, 6, 6, 7, 6, 6, 6, 6, 6]
/-- their lengths (an object's: its fields) -/
def iv_nl : List Nat := [0, 6, 0, 0, 0, 0, 0, 0, 8, 10, 8, 8, 8, 8, 10, 8, 8, 8, 8, 10, 8, 8, 8, 8, 4, 8, 8, 8, 8, 8, 8, 8, 8, 8, 8, 256, 5, 250, 8, 5, 3, 40, 3, 40, 3, 40, 3, 40, 3, 40, 3, 40, 3, 40, 3, 40, 27, 8, 8, 8, 8, 8, 2, 250, 8, 8, 320, 7, 45, 45, 8, 8]
def iv_k (p : Nat) : Nat := iv_kl.getD p 99
def iv_n (p : Nat) : Nat := iv_nl.getD p 0
def iv_fl : List (List Nat) := [[2, 2, 2, 0], [2, 2, 2, 2, 0, 0, 0, 0, 0, 0], [0, 0, 2], [2, 0, 0, 0, 0], [2, 2, 2, 2, 2, 2, 2, 1], [0, 2, 2, 2, 2, 2, 2, 0, 0, 0, 2, 0, 0, 0, 0, 2, 2, 2, 2, 1, 2, 2, 2, 2, 0, 0, 1]]
/-- a field's sort: 0 int, 1 boolean, 2 a reference -/
def iv_f (k s : Nat) : Nat := (iv_fl.getD k []).getD s 9
def iv_up {α : Type} (F : Nat → Nat → α) (p i : Nat) (v : α) : Nat → Nat → α := fun q j => if q = p ∧ j = i then v else F q j
def iv_zr {α : Type} (F : Nat → Nat → α) (p : Nat) (v : α) : Nat → Nat → α := fun q j => if q = p then v else F q j
def iv_uI (h : iv_H) (p i : Nat) (v : Int32) : iv_H := (h.1, iv_up h.2.1 p i v, h.2.2.1, h.2.2.2)
def iv_uJ (h : iv_H) (p i : Nat) (v : Int64) : iv_H := (h.1, h.2.1, iv_up h.2.2.1 p i v, h.2.2.2)
def iv_uR (h : iv_H) (p i : Nat) (v : Option Nat) : iv_H := (h.1, h.2.1, h.2.2.1, iv_up h.2.2.2 p i v)
/-- a new cell at the next place: all 0 and null -/
def iv_nw (h : iv_H) : iv_H := (h.1 + 1, iv_zr h.2.1 h.1 0, iv_zr h.2.2.1 h.1 0, iv_zr h.2.2.2 h.1 none)
def iv_rv (r : Option Nat) : Value := match r with
  | some p => .ref p
  | none => .null
abbrev iv_in (i : Int32) (n : Nat) : Prop := 0 ≤ i.toInt ∧ i.toInt < n
abbrev iv_O : Type := iv_I → iv_L → List Value → iv_H → Option iv_A
def iv_kill (ls : iv_L) (i : Nat) : iv_L := match i with
  | 0 => ls
  | k + 1 => match ls[k]? with
    | some (some v) => if v.category = 2 then ls.set k none else ls
    | _ => ls
/-- a local is set -/
def iv_st1 (ls : iv_L) (i : Nat) (v : Value) : iv_L := (iv_kill ls i).set i (some v)
def iv_st2 (ls : iv_L) (i : Nat) (v : Value) : iv_L := ((iv_kill ls i).set i (some v)).set (i + 1) none
def iv_cst (v : Value) (ls : iv_L) (st : List Value) (h : iv_H) : Option iv_A := iv_go ls (v :: st) h
def iv_o0 : iv_O := fun i ls st h => iv_cst (.int (Int32.ofInt i.2.2.2.1)) ls st h
def iv_o1 : iv_O := fun i ls st h => iv_cst (.int (Int8.ofInt i.2.2.2.1).toInt32) ls st h
def iv_o2 : iv_O := fun i ls st h => iv_cst (.int (Int16.ofInt i.2.2.2.1).toInt32) ls st h
def iv_o5 : iv_O := fun i ls st h => iv_cst (.long (Int64.ofInt i.2.2.2.1)) ls st h
def iv_o7 : iv_O := fun i ls st h => iv_cst (.ref i.2.2.1) ls st h
def iv_o8 : iv_O := fun i ls st h => match ls[i.2.1]? with
  | some (some (.int x)) => iv_go ls (.int x :: st) h
  | _ => none
def iv_o9 : iv_O := fun i ls st h => match ls[i.2.1]? with
  | some (some (.long x)) => iv_go ls (.long x :: st) h
  | _ => none
def iv_o10 : iv_O := fun i ls st h => match ls[i.2.1]? with
  | some (some (.ref x)) => iv_go ls (.ref x :: st) h
  | _ => none
def iv_o11 : iv_O := fun i ls st h => match st with
  | .int x :: st' => if i.2.1 < ls.length then iv_go (iv_st1 ls i.2.1 (.int x)) st' h else none
  | _ => none
def iv_o12 : iv_O := fun i ls st h => match st with
  | .long x :: st' => if i.2.1 + 1 < ls.length then iv_go (iv_st2 ls i.2.1 (.long x)) st' h else none
  | _ => none
def iv_o13 : iv_O := fun i ls st h => match st with
  | .ref x :: st' => if i.2.1 < ls.length then iv_go (iv_st1 ls i.2.1 (.ref x)) st' h else none
  | _ => none
def iv_o14 : iv_O := fun i ls st h => match ls[i.2.1]? with
  | some (some (.int x)) => iv_go (iv_st1 ls i.2.1 (.int (x + Int32.ofInt i.2.2.2.1))) st h
  | _ => none
def iv_bin (f : Int32 → Int32 → Int32) : iv_O := fun _ ls st h => match st with
  | .int y :: .int x :: st' => iv_go ls (.int (f x y) :: st') h
  | _ => none
def iv_un (f : Int32 → Int32) : iv_O := fun _ ls st h => match st with
  | .int x :: st' => iv_go ls (.int (f x) :: st') h
  | _ => none
def iv_binL (f : Int64 → Int64 → Int64) : iv_O := fun _ ls st h => match st with
  | .long y :: .long x :: st' => iv_go ls (.long (f x y) :: st') h
  | _ => none
def iv_o18 : iv_O := fun _ ls st h => match st with
  | .int y :: .int x :: st' => if y = 0 then none else iv_go ls (.int (x / y) :: st') h
  | _ => none
def iv_o19 : iv_O := fun _ ls st h => match st with
  | .int y :: .int x :: st' => if y = 0 then none else iv_go ls (.int (x - (x / y) * y) :: st') h
  | _ => none
def iv_shL (f : Int64 → Int64 → Int64) : iv_O := fun _ ls st h => match st with
  | .int y :: .long x :: st' => iv_go ls (.long (f x (y.toInt64 &&& 63)) :: st') h
  | _ => none
def iv_o33 : iv_O := fun _ ls st h => match st with
  | .long y :: .long x :: st' => iv_go ls (.int (lg_cmp x y) :: st') h
  | _ => none
def iv_o34 : iv_O := fun _ ls st h => match st with
  | .int x :: st' => iv_go ls (.long x.toInt64 :: st') h
  | _ => none
def iv_o35 : iv_O := fun _ ls st h => match st with
  | .long x :: st' => iv_go ls (.int x.toInt32 :: st') h
  | _ => none
def iv_o38 : iv_O := fun _ ls st h => match st with
  | v :: st' => if v.category = 1 then iv_go ls (v :: v :: st') h else none
  | _ => none
def iv_o39 : iv_O := fun _ ls st h => match st with
  | v :: st' => if v.category = 1 then iv_go ls st' h else none
  | _ => none
def iv_o40 : iv_O := fun _ ls st h => match st with
  | v :: w :: st' => if v.category = 1 ∧ w.category = 1 then iv_go ls (v :: w :: v :: st') h else none
  | _ => none
def iv_o41 : iv_O := fun _ ls st h => match st with
  | v :: w :: st' => if v.category = 1 ∧ w.category = 1 then iv_go ls (v :: w :: v :: w :: st') h else none
  | _ => none
def iv_o42 : iv_O := fun i ls st h => iv_jp i.2.1 ls st h
/-- a condition by its number: eq ne lt ge gt le -/
def iv_cd (b : Nat) (x y : Int32) : Bool := match b with
  | 0 => decide (x = y)
  | 1 => !decide (x = y)
  | 2 => decide (x < y)
  | 3 => decide (y ≤ x)
  | 4 => decide (y < x)
  | _ => decide (x ≤ y)
def iv_o43 : iv_O := fun i ls st h => match st with
  | .int x :: st' => if iv_cd i.2.2.1 x 0 = true then iv_jp i.2.1 ls st' h else iv_go ls st' h
  | _ => none
def iv_o44 : iv_O := fun i ls st h => match st with
  | .int y :: .int x :: st' => if iv_cd i.2.2.1 x y = true then iv_jp i.2.1 ls st' h else iv_go ls st' h
  | _ => none
/-- tableswitch from b on -/
def iv_tg (d b : Nat) (ts : List Nat) (x : Int) : Nat := if x < b then d else ts.getD (x - b).toNat d
def iv_o45 : iv_O := fun i ls st h => match st with
  | .int x :: st' => iv_jp (iv_tg i.2.1 i.2.2.1 i.2.2.2.2 x.toInt) ls st' h
  | _ => none
def iv_o46 : iv_O := fun i ls st h => match st with
  | .ref p :: st' => if p < h.1 ∧ iv_k p = i.2.1 then iv_go ls (iv_rv (h.2.2.2 p i.2.2.1) :: st') h else none
  | _ => none
def iv_o47 : iv_O := fun i ls st h => match st with
  | .ref p :: st' => if p < h.1 ∧ iv_k p = i.2.1 then iv_go ls (.int (h.2.1 p i.2.2.1) :: st') h else none
  | _ => none
def iv_o48 : iv_O := fun i ls st h => match st with
  | .int v :: .ref p :: st' => if p < h.1 ∧ iv_k p = i.2.1 then iv_go ls st' (iv_uI h p i.2.2.1 v) else none
  | _ => none
def iv_o76 : iv_O := fun i ls st h => match st with
  | .int v :: .ref p :: st' => if (p < h.1 ∧ iv_k p = i.2.1) ∧ (v = 0 ∨ v = 1) then iv_go ls st' (iv_uI h p i.2.2.1 v) else none
  | _ => none
def iv_o77 : iv_O := fun i ls st h => match st with
  | .ref v :: .ref p :: st' => if (p < h.1 ∧ iv_k p = i.2.1) ∧ (8 ≤ v ∧ v < h.1) then iv_go ls st' (iv_uR h p i.2.2.1 (some v)) else none
  | _ => none
def iv_o49 : iv_O := fun _ ls st h => iv_go ls (.ref 1 :: st) h
/-- the length of an array at a place, and its int kinds -/
def iv_ln (h : iv_H) (p : Nat) : Nat := if p = 0 then (h.2.2.2 0 0).getD 0 else iv_n p
def iv_o50 : iv_O := fun _ ls st h => match st with
  | .int i :: .ref p :: st' => if (p < h.1 ∧ (iv_k p = 6 ∨ iv_k p = 11)) ∧ iv_in i (iv_ln h p) then iv_go ls (.int (h.2.1 p i.toNatClampNeg) :: st') h else none
  | _ => none
def iv_o51 : iv_O := fun _ ls st h => match st with
  | .int i :: .ref p :: st' => if (p < h.1 ∧ iv_k p = 7) ∧ iv_in i (iv_n p) then iv_go ls (.long (h.2.2.1 p i.toNatClampNeg) :: st') h else none
  | _ => none
def iv_o52 : iv_O := fun _ ls st h => match st with
  | .int i :: .ref p :: st' => if (p < h.1 ∧ iv_k p = 8) ∧ iv_in i (iv_n p) then iv_go ls (.int (h.2.1 p i.toNatClampNeg) :: st') h else none
  | _ => none
def iv_o53 : iv_O := fun _ ls st h => match st with
  | .int i :: .ref p :: st' => if (p < h.1 ∧ (iv_k p = 9 ∨ iv_k p = 10)) ∧ iv_in i (iv_n p) then iv_go ls (iv_rv (h.2.2.2 p i.toNatClampNeg) :: st') h else none
  | _ => none
def iv_o54 : iv_O := fun _ ls st h => match st with
  | .int v :: .int i :: .ref p :: st' => if (p < h.1 ∧ iv_k p = 6) ∧ iv_in i (iv_n p) then iv_go ls st' (iv_uI h p i.toNatClampNeg v) else none
  | _ => none
def iv_o55 : iv_O := fun _ ls st h => match st with
  | .long v :: .int i :: .ref p :: st' => if (p < h.1 ∧ iv_k p = 7) ∧ iv_in i (iv_n p) then iv_go ls st' (iv_uJ h p i.toNatClampNeg v) else none
  | _ => none
def iv_o56 : iv_O := fun _ ls st h => match st with
  | .int v :: .int i :: .ref p :: st' => if ((p < h.1 ∧ iv_k p = 8) ∧ iv_in i (iv_n p)) ∧ (v = 0 ∨ v = 1) then iv_go ls st' (iv_uI h p i.toNatClampNeg v) else none
  | _ => none
def iv_o57 : iv_O := fun _ ls st h => match st with
  | .ref v :: .int i :: .ref p :: st' => if ((p < h.1 ∧ iv_k p = 9) ∧ iv_in i (iv_n p)) ∧ (v < h.1 ∧ iv_k v = 2) then iv_go ls st' (iv_uR h p i.toNatClampNeg (some v)) else none
  | _ => none
def iv_o58 : iv_O := fun _ ls st h => match st with
  | .ref p :: st' => if p < h.1 ∧ (6 ≤ iv_k p ∧ iv_k p ≤ 11) then iv_go ls (.int (Int32.ofNat (iv_ln h p)) :: st') h else none
  | _ => none
def iv_o59 : iv_O := fun i ls st h => if iv_k h.1 = i.2.1 ∧ iv_k h.1 < 6 then iv_go ls (.ref h.1 :: st) (iv_nw h) else none
def iv_o60 : iv_O := fun i ls st h => match st with
  | .int n :: st' => if iv_k h.1 = i.2.1 ∧ n.toInt = iv_n h.1 then iv_go ls (.ref h.1 :: st') (iv_nw h) else none
  | _ => none
def iv_o61 : iv_O := fun _ ls st h => match st with
  | .int n :: st' => if iv_k h.1 = 9 ∧ n.toInt = iv_n h.1 then iv_go ls (.ref h.1 :: st') (iv_nw h) else none
  | _ => none
/-- new int[8][8]: at place 26 alone -/
def iv_mr : Nat → iv_H → iv_H
  | 0, h => h
  | k + 1, h => iv_uR (iv_nw (iv_mr k h)) 26 k (some (27 + k))
def iv_o62 : iv_O := fun _ ls st h => match st with
  | .int m :: .int n :: st' => if h.1 = 26 ∧ m = 8 ∧ n = 8 then iv_go ls (.ref 26 :: st') (iv_mr 8 (iv_nw h)) else none
  | _ => none
def iv_o63 : iv_O := fun i _ st h => match st with
  | [.int v] => if i.2.1 = 0 ∨ (v = 0 ∨ v = 1) then iv_rt (some (.int v)) h else none
  | _ => none
def iv_o64 : iv_O := fun _ _ st h => match st with
  | [.long v] => iv_rt (some (.long v)) h
  | _ => none
def iv_o65 : iv_O := fun _ _ st h => match st with
  | [] => iv_rt none h
  | _ => none
/-- a call with a receiver of kind c and b arguments -/
def iv_cv (c : Nat) : iv_O := fun i ls st h => match st.drop i.2.2.1 with
  | .ref p :: st' => if (p < h.1 ∧ iv_k p = c) ∧ st'.length ≤ 4 then iv_cl i.2.1 (.ref p :: (st.take i.2.2.1).reverse) ls st' h else none
  | _ => none
def iv_o67 : iv_O := fun i ls st h => if i.2.2.1 ≤ st.length ∧ (st.drop i.2.2.1).length ≤ 4 then iv_cl i.2.1 (st.take i.2.2.1).reverse ls (st.drop i.2.2.1) h else none
def iv_o69 : iv_O := fun _ ls st h => match st with
  | .ref _ :: st' => if st'.length ≤ 4 then iv_go ls st' h else none
  | _ => none
def iv_cpJ (J : Nat → Nat → Int64) (p q s d n : Nat) : Nat → Nat → Int64 := fun r => if r = q then va_cpy (J p) (J q) s d n else J r
def iv_o70 : iv_O := fun _ ls st h => match st with
  | .int n :: .int d :: .ref q :: .int s :: .ref p :: st' => if ((p < h.1 ∧ iv_k p = 7) ∧ (q < h.1 ∧ iv_k q = 7)) ∧ ((0 ≤ n.toInt ∧ 0 ≤ d.toInt ∧ 0 ≤ s.toInt) ∧ (s.toInt + n.toInt ≤ iv_n p ∧ d.toInt + n.toInt ≤ iv_n q)) ∧ st'.length ≤ 4 then
      iv_go ls st' (h.1, h.2.1, iv_cpJ h.2.2.1 p q s.toNatClampNeg d.toNatClampNeg n.toNatClampNeg, h.2.2.2) else none
  | _ => none
def iv_o71 : iv_O := fun i ls st h => iv_jp i.2.1 ls st h
def iv_no : iv_O := fun _ _ _ _ => none
/-- the receiver's kind of a call is in its list of targets -/
def iv_o66 : iv_O := fun i => iv_cv (i.2.2.2.2.headD 99) i
def iv_ops : List iv_O := [iv_o0, iv_o1, iv_o2, iv_o0, iv_o0, iv_o5, iv_o5, iv_o7, iv_o8, iv_o9, iv_o10, iv_o11, iv_o12, iv_o13, iv_o14,
  iv_bin (fun x y => x + y), iv_bin (fun x y => x - y), iv_bin (fun x y => x * y), iv_o18, iv_o19, iv_un (fun x => -x), iv_bin (fun x y => x &&& y), iv_bin (fun x y => x ||| y), iv_bin (fun x y => x ^^^ y),
  iv_bin (fun x y => x <<< (y &&& 31)), iv_bin (fun x y => x >>> (y &&& 31)), iv_bin (fun x y => (x.toUInt32 >>> (y.toUInt32 &&& Int32.toUInt32 31)).toInt32),
  iv_binL (fun x y => x + y), iv_binL (fun x y => x * y), iv_binL (fun x y => x &&& y), iv_binL (fun x y => x ||| y), iv_shL (fun x y => x <<< y), iv_shL (fun x y => x >>> y), iv_o33, iv_o34, iv_o35,
  iv_un (fun x => x.toInt8.toInt32), iv_un (fun x => x.toInt16.toInt32), iv_o38, iv_o39, iv_o40, iv_o41, iv_o42, iv_o43, iv_o44, iv_o45, iv_o46, iv_o47, iv_o48, iv_o49, iv_o50, iv_o51, iv_o52, iv_o53, iv_o54, iv_o55, iv_o56, iv_o57, iv_o58, iv_o59, iv_o60, iv_o61, iv_o62, iv_o63, iv_o64, iv_o65,
  iv_o66, iv_o67, iv_o66, iv_o69, iv_o70, iv_o71, iv_o67, iv_o66, iv_no, iv_o66, iv_o76, iv_o77]
def iv_s (i : iv_I) : iv_L → List Value → iv_H → Option iv_A := (iv_ops.getD i.1 iv_no) i
def iv_x : List iv_I → iv_L → List Value → iv_H → (Nat → iv_L → List Value → iv_H → Option iv_R) → (Nat → List Value → iv_H → Option iv_R) → Option iv_R
  | [], _, _, _, _, _ => none
  | i :: is, ls, st, h, K, C => match iv_s i ls st h with
    | none => none
    | some (.inl (ls', st', h')) => iv_x is ls' st' h' K C
    | some (.inr (.inl (pc, ls', st', h'))) => K pc ls' st' h'
    | some (.inr (.inr (.inl r))) => some r
    | some (.inr (.inr (.inr (y, as, ls', st', h')))) => match C y as h' with
      | none => none
      | some (r, h'') => iv_x is ls' (r.toList ++ st') h'' K C
/-- only the live locals -/
def iv_m : List Nat → iv_L → iv_L
  | b :: bs, v :: vs => (if b = 1 then v else none) :: iv_m bs vs
  | b :: bs, [] => none :: iv_m bs []
  | [], _ => []
/-- arguments as locals -/
def iv_lay : List Value → iv_L
  | [] => []
  | v :: vs => if v.category = 2 then some v :: none :: iv_lay vs else some v :: iv_lay vs
/-- the String constants: their bytes -/
def iv_sl : List (List Int32) := [[112, 101, 114, 115, 111, 110], [119, 114, 111, 110, 103], [114, 105, 103, 104, 116], [119, 111, 114, 100, 115], [109, 105, 110, 117, 116, 101, 115], [97, 98, 115, 101, 110, 116]]
/-- String.length and String.charAt -/
def iv_pr (y : Nat) (as : List Value) (h : iv_H) : Option iv_R := match y, as with
  | 1000, [.ref p] => if 2 ≤ p ∧ p < 8 then some (some (.int (Int32.ofNat (iv_sl.getD (p - 2) []).length)), h) else none
  | 1001, [.ref p, .int i] => if (2 ≤ p ∧ p < 8) ∧ iv_in i (iv_sl.getD (p - 2) []).length then some (some (.int ((iv_sl.getD (p - 2) []).getD i.toNatClampNeg 0)), h) else none
  | _, _ => none
abbrev iv_B : Type := List (Nat × List Nat × List iv_I)
def iv_lk : iv_B → Nat → List Nat × List iv_I
  | [], _ => ([], [])
  | (q, b) :: r, pc => if q = pc then b else iv_lk r pc
/-- a program: the blocks of each method -/
def iv_run (G : Nat → iv_B) : Nat → Nat → Nat → Nat → iv_L → List Value → iv_H → Option iv_R
  | 0, _, _, _, _, _, _ => none
  | n + 1, d, y, pc, ls, st, h => iv_x (iv_lk (G y) pc).2 ls st h (fun pc' ls' st' h' => iv_run G n d y pc' (iv_m (iv_lk (G y) pc').1 ls') st' h')
      (fun y' as h' => match d with
        | 0 => none
        | e + 1 => if 1000 ≤ y' then (if 3 ≤ e then iv_pr y' as h' else none) else if y' < 265 ∧ (iv_lay as).length ≤ (iv_lk (G y') 0).1.length then iv_run G n e y' 0 (iv_m (iv_lk (G y') 0).1 (iv_lay as)) [] h' else none)
