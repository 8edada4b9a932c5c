/-! constants -/
theorem ivq0_m1 : Int32.ofInt (-1) = (-1) := by decide
theorem ivq0_0 : Int32.ofInt 0 = 0 := by decide
theorem ivq0_1 : Int32.ofInt 1 = 1 := by decide
theorem ivq0_2 : Int32.ofInt 2 = 2 := by decide
theorem ivq0_3 : Int32.ofInt 3 = 3 := by decide
theorem ivq0_4 : Int32.ofInt 4 = 4 := by decide
theorem ivq0_5 : Int32.ofInt 5 = 5 := by decide
theorem ivq0_6 : Int32.ofInt 6 = 6 := by decide
theorem ivq0_252645135 : Int32.ofInt 252645135 = 252645135 := by decide
theorem ivq0_858993459 : Int32.ofInt 858993459 = 858993459 := by decide
theorem ivq0_1103515245 : Int32.ofInt 1103515245 = 1103515245 := by decide
theorem ivq0_1431655765 : Int32.ofInt 1431655765 = 1431655765 := by decide
theorem ivq1_m20 : (Int8.ofInt (-20)).toInt32 = (-20) := by decide
theorem ivq1_m6 : (Int8.ofInt (-6)).toInt32 = (-6) := by decide
theorem ivq1_m5 : (Int8.ofInt (-5)).toInt32 = (-5) := by decide
theorem ivq1_m4 : (Int8.ofInt (-4)).toInt32 = (-4) := by decide
theorem ivq1_m3 : (Int8.ofInt (-3)).toInt32 = (-3) := by decide
theorem ivq1_m2 : (Int8.ofInt (-2)).toInt32 = (-2) := by decide
theorem ivq1_6 : (Int8.ofInt 6).toInt32 = 6 := by decide
theorem ivq1_7 : (Int8.ofInt 7).toInt32 = 7 := by decide
theorem ivq1_8 : (Int8.ofInt 8).toInt32 = 8 := by decide
theorem ivq1_9 : (Int8.ofInt 9).toInt32 = 9 := by decide
theorem ivq1_10 : (Int8.ofInt 10).toInt32 = 10 := by decide
theorem ivq1_12 : (Int8.ofInt 12).toInt32 = 12 := by decide
theorem ivq1_16 : (Int8.ofInt 16).toInt32 = 16 := by decide
theorem ivq1_20 : (Int8.ofInt 20).toInt32 = 20 := by decide
theorem ivq1_24 : (Int8.ofInt 24).toInt32 = 24 := by decide
theorem ivq1_32 : (Int8.ofInt 32).toInt32 = 32 := by decide
theorem ivq1_40 : (Int8.ofInt 40).toInt32 = 40 := by decide
theorem ivq1_41 : (Int8.ofInt 41).toInt32 = 41 := by decide
theorem ivq1_42 : (Int8.ofInt 42).toInt32 = 42 := by decide
theorem ivq1_43 : (Int8.ofInt 43).toInt32 = 43 := by decide
theorem ivq1_44 : (Int8.ofInt 44).toInt32 = 44 := by decide
theorem ivq1_45 : (Int8.ofInt 45).toInt32 = 45 := by decide
theorem ivq1_48 : (Int8.ofInt 48).toInt32 = 48 := by decide
theorem ivq1_57 : (Int8.ofInt 57).toInt32 = 57 := by decide
theorem ivq1_59 : (Int8.ofInt 59).toInt32 = 59 := by decide
theorem ivq1_60 : (Int8.ofInt 60).toInt32 = 60 := by decide
theorem ivq1_61 : (Int8.ofInt 61).toInt32 = 61 := by decide
theorem ivq1_63 : (Int8.ofInt 63).toInt32 = 63 := by decide
theorem ivq1_97 : (Int8.ofInt 97).toInt32 = 97 := by decide
theorem ivq1_99 : (Int8.ofInt 99).toInt32 = 99 := by decide
theorem ivq1_100 : (Int8.ofInt 100).toInt32 = 100 := by decide
theorem ivq1_101 : (Int8.ofInt 101).toInt32 = 101 := by decide
theorem ivq1_119 : (Int8.ofInt 119).toInt32 = 119 := by decide
theorem ivq1_120 : (Int8.ofInt 120).toInt32 = 120 := by decide
theorem ivq1_122 : (Int8.ofInt 122).toInt32 = 122 := by decide
theorem ivq1_127 : (Int8.ofInt 127).toInt32 = 127 := by decide
theorem ivq2_250 : (Int16.ofInt 250).toInt32 = 250 := by decide
theorem ivq2_255 : (Int16.ofInt 255).toInt32 = 255 := by decide
theorem ivq2_256 : (Int16.ofInt 256).toInt32 = 256 := by decide
theorem ivq2_320 : (Int16.ofInt 320).toInt32 = 320 := by decide
theorem ivq2_999 : (Int16.ofInt 999).toInt32 = 999 := by decide
theorem ivq2_1000 : (Int16.ofInt 1000).toInt32 = 1000 := by decide
theorem ivq2_12345 : (Int16.ofInt 12345).toInt32 = 12345 := by decide
theorem ivqL_0 : Int64.ofInt 0 = 0 := by decide
theorem ivqL_1 : Int64.ofInt 1 = 1 := by decide
theorem ivqL_8 : Int64.ofInt 8 = 8 := by decide
theorem ivqL_4294967295 : Int64.ofInt 4294967295 = 4294967295 := by decide
theorem iv_rv_s {p : Nat} : iv_rv (some p) = .ref p := rfl
theorem ivz_2 : ((2 : Int32) = 0) = False := eq_false (by decide)
theorem ivz_10 : ((10 : Int32) = 0) = False := eq_false (by decide)
theorem ivz_12 : ((12 : Int32) = 0) = False := eq_false (by decide)
theorem iv_inE {x n : Nat} (h : x < n) (hn : n < 2 ^ 31) : iv_in (nI x) n = True := eq_true (by show 0 ≤ (nI x).toInt ∧ (nI x).toInt < n; rw [nI_toInt (by omega)]; omega)
theorem iv_st1_0 {l : iv_L} {x : Option Value} {v : Value} : iv_st1 (x :: l) 0 v = some v :: l := rfl
