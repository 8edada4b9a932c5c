/-! the references of the places, once all is made -/
def iv_rl : List (List (Option Nat)) := [[], [], [], [], [], [], [], [], [some 9, some 14, some 19, some 24, some 36, some 38, some 39], [some 10, some 11, some 12, some 13], [], [], [], [], [some 15, some 16, some 17, some 18], [], [], [], [], [some 20, some 21, some 22, some 23], [], [], [], [], [some 25, some 26, some 35], [], [some 27, some 28, some 29, some 30, some 31, some 32, some 33, some 34], [], [], [], [], [], [], [], [], [], [some 37], [], [some 40, some 42, some 44, some 46, some 48, some 50, some 52, some 54], [], [none, none, some 41], [], [none, none, some 43], [], [none, none, some 45], [], [none, none, some 47], [], [none, none, some 49], [], [none, none, some 51], [], [none, none, some 53], [], [none, none, some 55], [], [none, some 57, some 58, some 59, some 60, some 61, some 62, none, none, none, some 63, none, none, none, none, some 64, some 65, some 66, some 67, none, some 68, some 69, some 70, some 71], [], [], [], [], [], [], [], [], [], [], [], [], [], [], []]
def iv_R0 (L p k : Nat) : Option Nat := if p = 0 then (if k = 0 then some L else none) else (iv_rl.getD p []).getD k none
/-- the heap once all is made: the script's length, the ints, the longs -/
def iv_mk (L : Nat) (I : Nat → Nat → Int32) (J : Nat → Nat → Int64) : iv_H := (72, I, J, iv_R0 L)
section
variable {L : Nat} {I : Nat → Nat → Int32} {J : Nat → Nat → Int64}
theorem iv_mk_c : (iv_mk L I J).1 = 72 := rfl
theorem iv_mk_I : (iv_mk L I J).2.1 = I := rfl
theorem iv_mk_J : (iv_mk L I J).2.2.1 = J := rfl
theorem iv_mk_R : (iv_mk L I J).2.2.2 = iv_R0 L := rfl
theorem iv_mk_uI {p i : Nat} {v : Int32} : iv_uI (iv_mk L I J) p i v = iv_mk L (iv_up I p i v) J := rfl
theorem iv_mk_uJ {p i : Nat} {v : Int64} : iv_uJ (iv_mk L I J) p i v = iv_mk L I (iv_up J p i v) := rfl
theorem iv_mk_ln {p : Nat} (h : p ≠ 0) : iv_ln (iv_mk L I J) p = iv_n p := if_neg h
theorem iv_mk_l0 : iv_ln (iv_mk L I J) 0 = L := rfl
theorem ivr_8_0 : iv_R0 L 8 0 = some 9 := rfl
theorem ivr_8_1 : iv_R0 L 8 1 = some 14 := rfl
theorem ivr_8_2 : iv_R0 L 8 2 = some 19 := rfl
theorem ivr_8_3 : iv_R0 L 8 3 = some 24 := rfl
theorem ivr_8_4 : iv_R0 L 8 4 = some 36 := rfl
theorem ivr_8_5 : iv_R0 L 8 5 = some 38 := rfl
theorem ivr_8_6 : iv_R0 L 8 6 = some 39 := rfl
theorem ivr_9_0 : iv_R0 L 9 0 = some 10 := rfl
theorem ivr_9_1 : iv_R0 L 9 1 = some 11 := rfl
theorem ivr_9_2 : iv_R0 L 9 2 = some 12 := rfl
theorem ivr_9_3 : iv_R0 L 9 3 = some 13 := rfl
theorem ivr_14_0 : iv_R0 L 14 0 = some 15 := rfl
theorem ivr_14_1 : iv_R0 L 14 1 = some 16 := rfl
theorem ivr_14_2 : iv_R0 L 14 2 = some 17 := rfl
theorem ivr_14_3 : iv_R0 L 14 3 = some 18 := rfl
theorem ivr_19_0 : iv_R0 L 19 0 = some 20 := rfl
theorem ivr_19_1 : iv_R0 L 19 1 = some 21 := rfl
theorem ivr_19_2 : iv_R0 L 19 2 = some 22 := rfl
theorem ivr_19_3 : iv_R0 L 19 3 = some 23 := rfl
theorem ivr_24_0 : iv_R0 L 24 0 = some 25 := rfl
theorem ivr_24_1 : iv_R0 L 24 1 = some 26 := rfl
theorem ivr_24_2 : iv_R0 L 24 2 = some 35 := rfl
theorem ivr_26_0 : iv_R0 L 26 0 = some 27 := rfl
theorem ivr_26_1 : iv_R0 L 26 1 = some 28 := rfl
theorem ivr_26_2 : iv_R0 L 26 2 = some 29 := rfl
theorem ivr_26_3 : iv_R0 L 26 3 = some 30 := rfl
theorem ivr_26_4 : iv_R0 L 26 4 = some 31 := rfl
theorem ivr_26_5 : iv_R0 L 26 5 = some 32 := rfl
theorem ivr_26_6 : iv_R0 L 26 6 = some 33 := rfl
theorem ivr_26_7 : iv_R0 L 26 7 = some 34 := rfl
theorem ivr_36_0 : iv_R0 L 36 0 = some 37 := rfl
theorem ivr_38_0 : iv_R0 L 38 0 = some 40 := rfl
theorem ivr_38_1 : iv_R0 L 38 1 = some 42 := rfl
theorem ivr_38_2 : iv_R0 L 38 2 = some 44 := rfl
theorem ivr_38_3 : iv_R0 L 38 3 = some 46 := rfl
theorem ivr_38_4 : iv_R0 L 38 4 = some 48 := rfl
theorem ivr_38_5 : iv_R0 L 38 5 = some 50 := rfl
theorem ivr_38_6 : iv_R0 L 38 6 = some 52 := rfl
theorem ivr_38_7 : iv_R0 L 38 7 = some 54 := rfl
theorem ivr_40_2 : iv_R0 L 40 2 = some 41 := rfl
theorem ivr_42_2 : iv_R0 L 42 2 = some 43 := rfl
theorem ivr_44_2 : iv_R0 L 44 2 = some 45 := rfl
theorem ivr_46_2 : iv_R0 L 46 2 = some 47 := rfl
theorem ivr_48_2 : iv_R0 L 48 2 = some 49 := rfl
theorem ivr_50_2 : iv_R0 L 50 2 = some 51 := rfl
theorem ivr_52_2 : iv_R0 L 52 2 = some 53 := rfl
theorem ivr_54_2 : iv_R0 L 54 2 = some 55 := rfl
theorem ivr_56_1 : iv_R0 L 56 1 = some 57 := rfl
theorem ivr_56_2 : iv_R0 L 56 2 = some 58 := rfl
theorem ivr_56_3 : iv_R0 L 56 3 = some 59 := rfl
theorem ivr_56_4 : iv_R0 L 56 4 = some 60 := rfl
theorem ivr_56_5 : iv_R0 L 56 5 = some 61 := rfl
theorem ivr_56_6 : iv_R0 L 56 6 = some 62 := rfl
theorem ivr_56_10 : iv_R0 L 56 10 = some 63 := rfl
theorem ivr_56_15 : iv_R0 L 56 15 = some 64 := rfl
theorem ivr_56_16 : iv_R0 L 56 16 = some 65 := rfl
theorem ivr_56_17 : iv_R0 L 56 17 = some 66 := rfl
theorem ivr_56_18 : iv_R0 L 56 18 = some 67 := rfl
theorem ivr_56_20 : iv_R0 L 56 20 = some 68 := rfl
theorem ivr_56_21 : iv_R0 L 56 21 = some 69 := rfl
theorem ivr_56_22 : iv_R0 L 56 22 = some 70 := rfl
theorem ivr_56_23 : iv_R0 L 56 23 = some 71 := rfl
theorem ivp_0 : iv_k 0 = 11 := rfl
theorem ivn_0 : iv_n 0 = 0 := rfl
theorem ivp_1 : iv_k 1 = 11 := rfl
theorem ivn_1 : iv_n 1 = 6 := rfl
theorem ivp_2 : iv_k 2 = 12 := rfl
theorem ivn_2 : iv_n 2 = 0 := rfl
theorem ivp_3 : iv_k 3 = 12 := rfl
theorem ivn_3 : iv_n 3 = 0 := rfl
theorem ivp_4 : iv_k 4 = 12 := rfl
theorem ivn_4 : iv_n 4 = 0 := rfl
theorem ivp_5 : iv_k 5 = 12 := rfl
theorem ivn_5 : iv_n 5 = 0 := rfl
theorem ivp_6 : iv_k 6 = 12 := rfl
theorem ivn_6 : iv_n 6 = 0 := rfl
theorem ivp_7 : iv_k 7 = 12 := rfl
theorem ivn_7 : iv_n 7 = 0 := rfl
theorem ivp_8 : iv_k 8 = 4 := rfl
theorem ivn_8 : iv_n 8 = 8 := rfl
theorem ivp_9 : iv_k 9 = 1 := rfl
theorem ivn_9 : iv_n 9 = 10 := rfl
theorem ivp_10 : iv_k 10 = 6 := rfl
theorem ivn_10 : iv_n 10 = 8 := rfl
theorem ivp_11 : iv_k 11 = 6 := rfl
theorem ivn_11 : iv_n 11 = 8 := rfl
theorem ivp_12 : iv_k 12 = 6 := rfl
theorem ivn_12 : iv_n 12 = 8 := rfl
theorem ivp_13 : iv_k 13 = 6 := rfl
theorem ivn_13 : iv_n 13 = 8 := rfl
theorem ivp_14 : iv_k 14 = 1 := rfl
theorem ivn_14 : iv_n 14 = 10 := rfl
theorem ivp_15 : iv_k 15 = 6 := rfl
theorem ivn_15 : iv_n 15 = 8 := rfl
theorem ivp_16 : iv_k 16 = 6 := rfl
theorem ivn_16 : iv_n 16 = 8 := rfl
theorem ivp_17 : iv_k 17 = 6 := rfl
theorem ivn_17 : iv_n 17 = 8 := rfl
theorem ivp_18 : iv_k 18 = 6 := rfl
theorem ivn_18 : iv_n 18 = 8 := rfl
theorem ivp_19 : iv_k 19 = 1 := rfl
theorem ivn_19 : iv_n 19 = 10 := rfl
theorem ivp_20 : iv_k 20 = 6 := rfl
theorem ivn_20 : iv_n 20 = 8 := rfl
theorem ivp_21 : iv_k 21 = 6 := rfl
theorem ivn_21 : iv_n 21 = 8 := rfl
theorem ivp_22 : iv_k 22 = 6 := rfl
theorem ivn_22 : iv_n 22 = 8 := rfl
theorem ivp_23 : iv_k 23 = 6 := rfl
theorem ivn_23 : iv_n 23 = 8 := rfl
theorem ivp_24 : iv_k 24 = 0 := rfl
theorem ivn_24 : iv_n 24 = 4 := rfl
theorem ivp_25 : iv_k 25 = 6 := rfl
theorem ivn_25 : iv_n 25 = 8 := rfl
theorem ivp_26 : iv_k 26 = 10 := rfl
theorem ivn_26 : iv_n 26 = 8 := rfl
theorem ivp_27 : iv_k 27 = 6 := rfl
theorem ivn_27 : iv_n 27 = 8 := rfl
theorem ivp_28 : iv_k 28 = 6 := rfl
theorem ivn_28 : iv_n 28 = 8 := rfl
theorem ivp_29 : iv_k 29 = 6 := rfl
theorem ivn_29 : iv_n 29 = 8 := rfl
theorem ivp_30 : iv_k 30 = 6 := rfl
theorem ivn_30 : iv_n 30 = 8 := rfl
theorem ivp_31 : iv_k 31 = 6 := rfl
theorem ivn_31 : iv_n 31 = 8 := rfl
theorem ivp_32 : iv_k 32 = 6 := rfl
theorem ivn_32 : iv_n 32 = 8 := rfl
theorem ivp_33 : iv_k 33 = 6 := rfl
theorem ivn_33 : iv_n 33 = 8 := rfl
theorem ivp_34 : iv_k 34 = 6 := rfl
theorem ivn_34 : iv_n 34 = 8 := rfl
theorem ivp_35 : iv_k 35 = 6 := rfl
theorem ivn_35 : iv_n 35 = 256 := rfl
theorem ivp_36 : iv_k 36 = 3 := rfl
theorem ivn_36 : iv_n 36 = 5 := rfl
theorem ivp_37 : iv_k 37 = 6 := rfl
theorem ivn_37 : iv_n 37 = 250 := rfl
theorem ivp_38 : iv_k 38 = 9 := rfl
theorem ivn_38 : iv_n 38 = 8 := rfl
theorem ivp_39 : iv_k 39 = 6 := rfl
theorem ivn_39 : iv_n 39 = 5 := rfl
theorem ivp_40 : iv_k 40 = 2 := rfl
theorem ivn_40 : iv_n 40 = 3 := rfl
theorem ivp_41 : iv_k 41 = 7 := rfl
theorem ivn_41 : iv_n 41 = 40 := rfl
theorem ivp_42 : iv_k 42 = 2 := rfl
theorem ivn_42 : iv_n 42 = 3 := rfl
theorem ivp_43 : iv_k 43 = 7 := rfl
theorem ivn_43 : iv_n 43 = 40 := rfl
theorem ivp_44 : iv_k 44 = 2 := rfl
theorem ivn_44 : iv_n 44 = 3 := rfl
theorem ivp_45 : iv_k 45 = 7 := rfl
theorem ivn_45 : iv_n 45 = 40 := rfl
theorem ivp_46 : iv_k 46 = 2 := rfl
theorem ivn_46 : iv_n 46 = 3 := rfl
theorem ivp_47 : iv_k 47 = 7 := rfl
theorem ivn_47 : iv_n 47 = 40 := rfl
theorem ivp_48 : iv_k 48 = 2 := rfl
theorem ivn_48 : iv_n 48 = 3 := rfl
theorem ivp_49 : iv_k 49 = 7 := rfl
theorem ivn_49 : iv_n 49 = 40 := rfl
theorem ivp_50 : iv_k 50 = 2 := rfl
theorem ivn_50 : iv_n 50 = 3 := rfl
theorem ivp_51 : iv_k 51 = 7 := rfl
theorem ivn_51 : iv_n 51 = 40 := rfl
theorem ivp_52 : iv_k 52 = 2 := rfl
theorem ivn_52 : iv_n 52 = 3 := rfl
theorem ivp_53 : iv_k 53 = 7 := rfl
theorem ivn_53 : iv_n 53 = 40 := rfl
theorem ivp_54 : iv_k 54 = 2 := rfl
theorem ivn_54 : iv_n 54 = 3 := rfl
theorem ivp_55 : iv_k 55 = 7 := rfl
theorem ivn_55 : iv_n 55 = 40 := rfl
theorem ivp_56 : iv_k 56 = 5 := rfl
theorem ivn_56 : iv_n 56 = 27 := rfl
theorem ivp_57 : iv_k 57 = 6 := rfl
theorem ivn_57 : iv_n 57 = 8 := rfl
theorem ivp_58 : iv_k 58 = 6 := rfl
theorem ivn_58 : iv_n 58 = 8 := rfl
theorem ivp_59 : iv_k 59 = 6 := rfl
theorem ivn_59 : iv_n 59 = 8 := rfl
theorem ivp_60 : iv_k 60 = 8 := rfl
theorem ivn_60 : iv_n 60 = 8 := rfl
theorem ivp_61 : iv_k 61 = 6 := rfl
theorem ivn_61 : iv_n 61 = 8 := rfl
theorem ivp_62 : iv_k 62 = 6 := rfl
theorem ivn_62 : iv_n 62 = 2 := rfl
theorem ivp_63 : iv_k 63 = 6 := rfl
theorem ivn_63 : iv_n 63 = 250 := rfl
theorem ivp_64 : iv_k 64 = 6 := rfl
theorem ivn_64 : iv_n 64 = 8 := rfl
theorem ivp_65 : iv_k 65 = 6 := rfl
theorem ivn_65 : iv_n 65 = 8 := rfl
theorem ivp_66 : iv_k 66 = 7 := rfl
theorem ivn_66 : iv_n 66 = 320 := rfl
theorem ivp_67 : iv_k 67 = 6 := rfl
theorem ivn_67 : iv_n 67 = 7 := rfl
theorem ivp_68 : iv_k 68 = 6 := rfl
theorem ivn_68 : iv_n 68 = 45 := rfl
theorem ivp_69 : iv_k 69 = 6 := rfl
theorem ivn_69 : iv_n 69 = 45 := rfl
theorem ivp_70 : iv_k 70 = 6 := rfl
theorem ivn_70 : iv_n 70 = 8 := rfl
theorem ivp_71 : iv_k 71 = 6 := rfl
theorem ivn_71 : iv_n 71 = 8 := rfl
end
