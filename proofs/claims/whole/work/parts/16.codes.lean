/-! the code words, each by its place -/
theorem iv_cd0 : iv_wc (iv_mt.getD 0 iv_q0) ∈ tables_1 := List.mem_append_left _ (List.mem_of_getElem? (i := 80) rfl)
theorem iv_cd1 : iv_wc (iv_mt.getD 1 iv_q0) ∈ tables_1 := List.mem_append_right _ (List.mem_append_right _ (List.mem_append_left _ (List.mem_of_getElem? (i := 198) rfl)))
theorem iv_cd2 : iv_wc (iv_mt.getD 2 iv_q0) ∈ tables_1 := List.mem_append_right _ (List.mem_append_right _ (List.mem_append_left _ (List.mem_of_getElem? (i := 229) rfl)))
theorem iv_cd3 : iv_wc (iv_mt.getD 3 iv_q0) ∈ tables_1 := List.mem_append_right _ (List.mem_append_right _ (List.mem_append_left _ (List.mem_of_getElem? (i := 233) rfl)))
theorem iv_cd4 : iv_wc (iv_mt.getD 4 iv_q0) ∈ tables_1 := List.mem_append_right _ (List.mem_append_right _ (List.mem_append_left _ (List.mem_of_getElem? (i := 207) rfl)))
theorem iv_cd5 : iv_wc (iv_mt.getD 5 iv_q0) ∈ tables_1 := List.mem_append_right _ (List.mem_append_right _ (List.mem_append_left _ (List.mem_of_getElem? (i := 238) rfl)))
theorem iv_cd6 : iv_wc (iv_mt.getD 6 iv_q0) ∈ tables_1 := List.mem_append_right _ (List.mem_append_right _ (List.mem_append_left _ (List.mem_of_getElem? (i := 215) rfl)))
theorem iv_cd7 : iv_wc (iv_mt.getD 7 iv_q0) ∈ tables_1 := List.mem_append_right _ (List.mem_append_right _ (List.mem_append_left _ (List.mem_of_getElem? (i := 211) rfl)))
theorem iv_cd8 : iv_wc (iv_mt.getD 8 iv_q0) ∈ tables_1 := List.mem_append_left _ (List.mem_of_getElem? (i := 26) rfl)
theorem iv_cd9 : iv_wc (iv_mt.getD 9 iv_q0) ∈ tables_1 := List.mem_append_right _ (List.mem_append_left _ (List.mem_of_getElem? (i := 85) rfl))
theorem iv_cd10 : iv_wc (iv_mt.getD 10 iv_q0) ∈ tables_1 := List.mem_append_right _ (List.mem_append_left _ (List.mem_of_getElem? (i := 11) rfl))
theorem iv_cd11 : iv_wc (iv_mt.getD 11 iv_q0) ∈ tables_1 := List.mem_append_right _ (List.mem_append_left _ (List.mem_of_getElem? (i := 207) rfl))
theorem iv_cd12 : iv_wc (iv_mt.getD 12 iv_q0) ∈ tables_1 := List.mem_append_right _ (List.mem_append_left _ (List.mem_of_getElem? (i := 39) rfl))
theorem iv_cd13 : iv_wc (iv_mt.getD 13 iv_q0) ∈ tables_1 := List.mem_append_right _ (List.mem_append_left _ (List.mem_of_getElem? (i := 43) rfl))
theorem iv_cd14 : iv_wc (iv_mt.getD 14 iv_q0) ∈ tables_1 := List.mem_append_right _ (List.mem_append_left _ (List.mem_of_getElem? (i := 59) rfl))
theorem iv_cd15 : iv_wc (iv_mt.getD 15 iv_q0) ∈ tables_1 := List.mem_append_right _ (List.mem_append_left _ (List.mem_of_getElem? (i := 47) rfl))
theorem iv_cd16 : iv_wc (iv_mt.getD 16 iv_q0) ∈ tables_1 := List.mem_append_right _ (List.mem_append_right _ (List.mem_append_left _ (List.mem_of_getElem? (i := 202) rfl)))
theorem iv_cd17 : iv_wc (iv_mt.getD 17 iv_q0) ∈ tables_1 := List.mem_append_right _ (List.mem_append_right _ (List.mem_append_left _ (List.mem_of_getElem? (i := 225) rfl)))
theorem iv_cd18 : iv_wc (iv_mt.getD 18 iv_q0) ∈ tables_1 := List.mem_append_right _ (List.mem_append_right _ (List.mem_append_left _ (List.mem_of_getElem? (i := 190) rfl)))
theorem iv_cd19 : iv_wc (iv_mt.getD 19 iv_q0) ∈ tables_1 := List.mem_append_right _ (List.mem_append_right _ (List.mem_append_right _ (List.mem_append_left _ (List.mem_of_getElem? (i := 43) rfl))))
theorem iv_cd20 : iv_wc (iv_mt.getD 20 iv_q0) ∈ tables_1 := List.mem_append_right _ (List.mem_append_left _ (List.mem_of_getElem? (i := 31) rfl))
theorem iv_cd21 : iv_wc (iv_mt.getD 21 iv_q0) ∈ tables_1 := List.mem_append_right _ (List.mem_append_left _ (List.mem_of_getElem? (i := 27) rfl))
theorem iv_cd22 : iv_wc (iv_mt.getD 22 iv_q0) ∈ tables_1 := List.mem_append_right _ (List.mem_append_left _ (List.mem_of_getElem? (i := 216) rfl))
theorem iv_cd23 : iv_wc (iv_mt.getD 23 iv_q0) ∈ tables_1 := List.mem_append_right _ (List.mem_append_right _ (List.mem_append_left _ (List.mem_of_getElem? (i := 51) rfl)))
theorem iv_cd24 : iv_wc (iv_mt.getD 24 iv_q0) ∈ tables_1 := List.mem_append_right _ (List.mem_append_left _ (List.mem_of_getElem? (i := 228) rfl))
theorem iv_cd25 : iv_wc (iv_mt.getD 25 iv_q0) ∈ tables_1 := List.mem_append_right _ (List.mem_append_right _ (List.mem_append_left _ (List.mem_of_getElem? (i := 22) rfl)))
theorem iv_cd26 : iv_wc (iv_mt.getD 26 iv_q0) ∈ tables_1 := List.mem_append_right _ (List.mem_append_right _ (List.mem_append_left _ (List.mem_of_getElem? (i := 59) rfl)))
theorem iv_cd27 : iv_wc (iv_mt.getD 27 iv_q0) ∈ tables_1 := List.mem_append_right _ (List.mem_append_right _ (List.mem_append_left _ (List.mem_of_getElem? (i := 67) rfl)))
theorem iv_cd28 : iv_wc (iv_mt.getD 28 iv_q0) ∈ tables_1 := List.mem_append_right _ (List.mem_append_right _ (List.mem_append_left _ (List.mem_of_getElem? (i := 72) rfl)))
theorem iv_cd29 : iv_wc (iv_mt.getD 29 iv_q0) ∈ tables_1 := List.mem_append_right _ (List.mem_append_right _ (List.mem_append_left _ (List.mem_of_getElem? (i := 124) rfl)))
theorem iv_cd30 : iv_wc (iv_mt.getD 30 iv_q0) ∈ tables_1 := List.mem_append_right _ (List.mem_append_right _ (List.mem_append_left _ (List.mem_of_getElem? (i := 95) rfl)))
theorem iv_cd31 : iv_wc (iv_mt.getD 31 iv_q0) ∈ tables_1 := List.mem_append_right _ (List.mem_append_right _ (List.mem_append_left _ (List.mem_of_getElem? (i := 108) rfl)))
theorem iv_cd32 : iv_wc (iv_mt.getD 32 iv_q0) ∈ tables_1 := List.mem_append_right _ (List.mem_append_right _ (List.mem_append_left _ (List.mem_of_getElem? (i := 153) rfl)))
theorem iv_cd33 : iv_wc (iv_mt.getD 33 iv_q0) ∈ tables_1 := List.mem_append_right _ (List.mem_append_right _ (List.mem_append_left _ (List.mem_of_getElem? (i := 162) rfl)))
theorem iv_cd34 : iv_wc (iv_mt.getD 34 iv_q0) ∈ tables_1 := List.mem_append_right _ (List.mem_append_right _ (List.mem_append_right _ (List.mem_append_left _ (List.mem_of_getElem? (i := 99) rfl))))
theorem iv_cd35 : iv_wc (iv_mt.getD 35 iv_q0) ∈ tables_1 := List.mem_append_right _ (List.mem_append_right _ (List.mem_append_right _ (List.mem_append_left _ (List.mem_of_getElem? (i := 95) rfl))))
theorem iv_cd36 : iv_wc (iv_mt.getD 36 iv_q0) ∈ tables_1 := List.mem_append_right _ (List.mem_append_right _ (List.mem_append_right _ (List.mem_append_left _ (List.mem_of_getElem? (i := 104) rfl))))
theorem iv_cd37 : iv_wc (iv_mt.getD 37 iv_q0) ∈ tables_1 := List.mem_append_left _ (List.mem_of_getElem? (i := 127) rfl)
theorem iv_cd38 : iv_wc (iv_mt.getD 38 iv_q0) ∈ tables_1 := List.mem_append_left _ (List.mem_of_getElem? (i := 197) rfl)
theorem iv_cd39 : iv_wc (iv_mt.getD 39 iv_q0) ∈ tables_1 := List.mem_append_left _ (List.mem_of_getElem? (i := 201) rfl)
theorem iv_cd40 : iv_wc (iv_mt.getD 40 iv_q0) ∈ tables_1 := List.mem_append_left _ (List.mem_of_getElem? (i := 224) rfl)
theorem iv_cd41 : iv_wc (iv_mt.getD 41 iv_q0) ∈ tables_1 := List.mem_append_left _ (List.mem_of_getElem? (i := 185) rfl)
theorem iv_cd42 : iv_wc (iv_mt.getD 42 iv_q0) ∈ tables_1 := List.mem_append_left _ (List.mem_of_getElem? (i := 205) rfl)
theorem iv_cd43 : iv_wc (iv_mt.getD 43 iv_q0) ∈ tables_1 := List.mem_append_left _ (List.mem_of_getElem? (i := 228) rfl)
theorem iv_cd44 : iv_wc (iv_mt.getD 44 iv_q0) ∈ tables_1 := List.mem_append_left _ (List.mem_of_getElem? (i := 209) rfl)
theorem iv_cd45 : iv_wc (iv_mt.getD 45 iv_q0) ∈ tables_1 := List.mem_append_left _ (List.mem_of_getElem? (i := 102) rfl)
theorem iv_cd46 : iv_wc (iv_mt.getD 46 iv_q0) ∈ tables_1 := List.mem_append_right _ (List.mem_append_left _ (List.mem_of_getElem? (i := 73) rfl))
theorem iv_cd47 : iv_wc (iv_mt.getD 47 iv_q0) ∈ tables_1 := List.mem_append_right _ (List.mem_append_left _ (List.mem_of_getElem? (i := 89) rfl))
theorem iv_cd48 : iv_wc (iv_mt.getD 48 iv_q0) ∈ tables_1 := List.mem_append_right _ (List.mem_append_left _ (List.mem_of_getElem? (i := 100) rfl))
theorem iv_cd49 : iv_wc (iv_mt.getD 49 iv_q0) ∈ tables_1 := List.mem_append_right _ (List.mem_append_left _ (List.mem_of_getElem? (i := 157) rfl))
theorem iv_cd50 : iv_wc (iv_mt.getD 50 iv_q0) ∈ tables_1 := List.mem_append_right _ (List.mem_append_left _ (List.mem_of_getElem? (i := 172) rfl))
theorem iv_cd51 : iv_wc (iv_mt.getD 51 iv_q0) ∈ tables_1 := List.mem_append_right _ (List.mem_append_left _ (List.mem_of_getElem? (i := 179) rfl))
theorem iv_cd52 : iv_wc (iv_mt.getD 52 iv_q0) ∈ tables_1 := List.mem_append_right _ (List.mem_append_left _ (List.mem_of_getElem? (i := 184) rfl))
theorem iv_cd53 : iv_wc (iv_mt.getD 53 iv_q0) ∈ tables_1 := List.mem_append_right _ (List.mem_append_left _ (List.mem_of_getElem? (i := 189) rfl))
theorem iv_cd54 : iv_wc (iv_mt.getD 54 iv_q0) ∈ tables_1 := List.mem_append_right _ (List.mem_append_left _ (List.mem_of_getElem? (i := 194) rfl))
theorem iv_cd55 : iv_wc (iv_mt.getD 55 iv_q0) ∈ tables_1 := List.mem_append_right _ (List.mem_append_left _ (List.mem_of_getElem? (i := 162) rfl))
theorem iv_cd56 : iv_wc (iv_mt.getD 56 iv_q0) ∈ tables_1 := List.mem_append_right _ (List.mem_append_left _ (List.mem_of_getElem? (i := 166) rfl))
theorem iv_cd57 : iv_wc (iv_mt.getD 57 iv_q0) ∈ tables_1 := List.mem_append_right _ (List.mem_append_left _ (List.mem_of_getElem? (i := 105) rfl))
theorem iv_cd58 : iv_wc (iv_mt.getD 58 iv_q0) ∈ tables_1 := List.mem_append_right _ (List.mem_append_left _ (List.mem_of_getElem? (i := 93) rfl))
theorem iv_cd59 : iv_wc (iv_mt.getD 59 iv_q0) ∈ tables_1 := List.mem_append_right _ (List.mem_append_left _ (List.mem_of_getElem? (i := 96) rfl))
theorem iv_cd60 : iv_wc (iv_mt.getD 60 iv_q0) ∈ tables_1 := List.mem_append_left _ (List.mem_of_getElem? (i := 18) rfl)
theorem iv_cd61 : iv_wc (iv_mt.getD 61 iv_q0) ∈ tables_1 := List.mem_append_left _ (List.mem_of_getElem? (i := 171) rfl)
theorem iv_cd62 : iv_wc (iv_mt.getD 62 iv_q0) ∈ tables_1 := List.mem_append_left _ (List.mem_of_getElem? (i := 189) rfl)
theorem iv_cd63 : iv_wc (iv_mt.getD 63 iv_q0) ∈ tables_1 := List.mem_append_left _ (List.mem_of_getElem? (i := 216) rfl)
theorem iv_cd64 : iv_wc (iv_mt.getD 64 iv_q0) ∈ tables_1 := List.mem_append_left _ (List.mem_of_getElem? (i := 235) rfl)
theorem iv_cd65 : iv_wc (iv_mt.getD 65 iv_q0) ∈ tables_1 := List.mem_append_left _ (List.mem_of_getElem? (i := 239) rfl)
theorem iv_cd66 : iv_wc (iv_mt.getD 66 iv_q0) ∈ tables_1 := List.mem_append_right _ (List.mem_append_left _ (List.mem_of_getElem? (i := 3) rfl))
theorem iv_cd67 : iv_wc (iv_mt.getD 67 iv_q0) ∈ tables_1 := List.mem_append_right _ (List.mem_append_left _ (List.mem_of_getElem? (i := 15) rfl))
theorem iv_cd68 : iv_wc (iv_mt.getD 68 iv_q0) ∈ tables_1 := List.mem_append_right _ (List.mem_append_left _ (List.mem_of_getElem? (i := 35) rfl))
theorem iv_cd69 : iv_wc (iv_mt.getD 69 iv_q0) ∈ tables_1 := List.mem_append_right _ (List.mem_append_left _ (List.mem_of_getElem? (i := 51) rfl))
theorem iv_cd70 : iv_wc (iv_mt.getD 70 iv_q0) ∈ tables_1 := List.mem_append_right _ (List.mem_append_left _ (List.mem_of_getElem? (i := 55) rfl))
theorem iv_cd71 : iv_wc (iv_mt.getD 71 iv_q0) ∈ tables_1 := List.mem_append_right _ (List.mem_append_left _ (List.mem_of_getElem? (i := 65) rfl))
theorem iv_cd72 : iv_wc (iv_mt.getD 72 iv_q0) ∈ tables_1 := List.mem_append_right _ (List.mem_append_left _ (List.mem_of_getElem? (i := 69) rfl))
theorem iv_cd73 : iv_wc (iv_mt.getD 73 iv_q0) ∈ tables_1 := List.mem_append_right _ (List.mem_append_left _ (List.mem_of_getElem? (i := 77) rfl))
theorem iv_cd74 : iv_wc (iv_mt.getD 74 iv_q0) ∈ tables_1 := List.mem_append_right _ (List.mem_append_left _ (List.mem_of_getElem? (i := 81) rfl))
theorem iv_cd75 : iv_wc (iv_mt.getD 75 iv_q0) ∈ tables_1 := List.mem_append_right _ (List.mem_append_left _ (List.mem_of_getElem? (i := 199) rfl))
theorem iv_cd76 : iv_wc (iv_mt.getD 76 iv_q0) ∈ tables_1 := List.mem_append_right _ (List.mem_append_left _ (List.mem_of_getElem? (i := 203) rfl))
theorem iv_cd77 : iv_wc (iv_mt.getD 77 iv_q0) ∈ tables_1 := List.mem_append_right _ (List.mem_append_left _ (List.mem_of_getElem? (i := 212) rfl))
theorem iv_cd78 : iv_wc (iv_mt.getD 78 iv_q0) ∈ tables_1 := List.mem_append_right _ (List.mem_append_left _ (List.mem_of_getElem? (i := 224) rfl))
theorem iv_cd79 : iv_wc (iv_mt.getD 79 iv_q0) ∈ tables_1 := List.mem_append_right _ (List.mem_append_left _ (List.mem_of_getElem? (i := 233) rfl))
theorem iv_cd80 : iv_wc (iv_mt.getD 80 iv_q0) ∈ tables_1 := List.mem_append_right _ (List.mem_append_left _ (List.mem_of_getElem? (i := 237) rfl))
theorem iv_cd81 : iv_wc (iv_mt.getD 81 iv_q0) ∈ tables_1 := List.mem_append_right _ (List.mem_append_right _ (List.mem_append_left _ (List.mem_of_getElem? (i := 1) rfl)))
theorem iv_cd82 : iv_wc (iv_mt.getD 82 iv_q0) ∈ tables_1 := List.mem_append_right _ (List.mem_append_right _ (List.mem_append_left _ (List.mem_of_getElem? (i := 5) rfl)))
theorem iv_cd83 : iv_wc (iv_mt.getD 83 iv_q0) ∈ tables_1 := List.mem_append_right _ (List.mem_append_right _ (List.mem_append_left _ (List.mem_of_getElem? (i := 10) rfl)))
theorem iv_cd84 : iv_wc (iv_mt.getD 84 iv_q0) ∈ tables_1 := List.mem_append_right _ (List.mem_append_right _ (List.mem_append_left _ (List.mem_of_getElem? (i := 14) rfl)))
theorem iv_cd85 : iv_wc (iv_mt.getD 85 iv_q0) ∈ tables_1 := List.mem_append_right _ (List.mem_append_right _ (List.mem_append_left _ (List.mem_of_getElem? (i := 18) rfl)))
theorem iv_cd86 : iv_wc (iv_mt.getD 86 iv_q0) ∈ tables_1 := List.mem_append_right _ (List.mem_append_right _ (List.mem_append_left _ (List.mem_of_getElem? (i := 31) rfl)))
theorem iv_cd87 : iv_wc (iv_mt.getD 87 iv_q0) ∈ tables_1 := List.mem_append_right _ (List.mem_append_right _ (List.mem_append_left _ (List.mem_of_getElem? (i := 39) rfl)))
theorem iv_cd88 : iv_wc (iv_mt.getD 88 iv_q0) ∈ tables_1 := List.mem_append_right _ (List.mem_append_right _ (List.mem_append_left _ (List.mem_of_getElem? (i := 47) rfl)))
theorem iv_cd89 : iv_wc (iv_mt.getD 89 iv_q0) ∈ tables_1 := List.mem_append_right _ (List.mem_append_right _ (List.mem_append_left _ (List.mem_of_getElem? (i := 55) rfl)))
theorem iv_cd90 : iv_wc (iv_mt.getD 90 iv_q0) ∈ tables_1 := List.mem_append_right _ (List.mem_append_right _ (List.mem_append_left _ (List.mem_of_getElem? (i := 63) rfl)))
theorem iv_cd91 : iv_wc (iv_mt.getD 91 iv_q0) ∈ tables_1 := List.mem_append_right _ (List.mem_append_right _ (List.mem_append_left _ (List.mem_of_getElem? (i := 79) rfl)))
theorem iv_cd92 : iv_wc (iv_mt.getD 92 iv_q0) ∈ tables_1 := List.mem_append_right _ (List.mem_append_right _ (List.mem_append_left _ (List.mem_of_getElem? (i := 83) rfl)))
theorem iv_cd93 : iv_wc (iv_mt.getD 93 iv_q0) ∈ tables_1 := List.mem_append_right _ (List.mem_append_right _ (List.mem_append_left _ (List.mem_of_getElem? (i := 91) rfl)))
theorem iv_cd94 : iv_wc (iv_mt.getD 94 iv_q0) ∈ tables_1 := List.mem_append_right _ (List.mem_append_right _ (List.mem_append_left _ (List.mem_of_getElem? (i := 100) rfl)))
theorem iv_cd95 : iv_wc (iv_mt.getD 95 iv_q0) ∈ tables_1 := List.mem_append_right _ (List.mem_append_right _ (List.mem_append_left _ (List.mem_of_getElem? (i := 104) rfl)))
theorem iv_cd96 : iv_wc (iv_mt.getD 96 iv_q0) ∈ tables_1 := List.mem_append_right _ (List.mem_append_right _ (List.mem_append_left _ (List.mem_of_getElem? (i := 113) rfl)))
theorem iv_cd97 : iv_wc (iv_mt.getD 97 iv_q0) ∈ tables_1 := List.mem_append_right _ (List.mem_append_right _ (List.mem_append_left _ (List.mem_of_getElem? (i := 120) rfl)))
theorem iv_cd98 : iv_wc (iv_mt.getD 98 iv_q0) ∈ tables_1 := List.mem_append_right _ (List.mem_append_right _ (List.mem_append_left _ (List.mem_of_getElem? (i := 128) rfl)))
theorem iv_cd99 : iv_wc (iv_mt.getD 99 iv_q0) ∈ tables_1 := List.mem_append_right _ (List.mem_append_right _ (List.mem_append_left _ (List.mem_of_getElem? (i := 140) rfl)))
theorem iv_cd100 : iv_wc (iv_mt.getD 100 iv_q0) ∈ tables_1 := List.mem_append_right _ (List.mem_append_right _ (List.mem_append_left _ (List.mem_of_getElem? (i := 145) rfl)))
theorem iv_cd101 : iv_wc (iv_mt.getD 101 iv_q0) ∈ tables_1 := List.mem_append_right _ (List.mem_append_right _ (List.mem_append_left _ (List.mem_of_getElem? (i := 149) rfl)))
theorem iv_cd102 : iv_wc (iv_mt.getD 102 iv_q0) ∈ tables_1 := List.mem_append_right _ (List.mem_append_right _ (List.mem_append_left _ (List.mem_of_getElem? (i := 158) rfl)))
theorem iv_cd103 : iv_wc (iv_mt.getD 103 iv_q0) ∈ tables_1 := List.mem_append_right _ (List.mem_append_right _ (List.mem_append_left _ (List.mem_of_getElem? (i := 168) rfl)))
theorem iv_cd104 : iv_wc (iv_mt.getD 104 iv_q0) ∈ tables_1 := List.mem_append_right _ (List.mem_append_right _ (List.mem_append_left _ (List.mem_of_getElem? (i := 172) rfl)))
theorem iv_cd105 : iv_wc (iv_mt.getD 105 iv_q0) ∈ tables_1 := List.mem_append_right _ (List.mem_append_right _ (List.mem_append_left _ (List.mem_of_getElem? (i := 182) rfl)))
theorem iv_cd106 : iv_wc (iv_mt.getD 106 iv_q0) ∈ tables_1 := List.mem_append_right _ (List.mem_append_right _ (List.mem_append_left _ (List.mem_of_getElem? (i := 186) rfl)))
theorem iv_cd107 : iv_wc (iv_mt.getD 107 iv_q0) ∈ tables_1 := List.mem_append_right _ (List.mem_append_right _ (List.mem_append_left _ (List.mem_of_getElem? (i := 194) rfl)))
theorem iv_cd108 : iv_wc (iv_mt.getD 108 iv_q0) ∈ tables_1 := List.mem_append_right _ (List.mem_append_right _ (List.mem_append_right _ (List.mem_append_left _ (List.mem_of_getElem? (i := 2) rfl))))
theorem iv_cd109 : iv_wc (iv_mt.getD 109 iv_q0) ∈ tables_1 := List.mem_append_right _ (List.mem_append_right _ (List.mem_append_right _ (List.mem_append_left _ (List.mem_of_getElem? (i := 6) rfl))))
theorem iv_cd110 : iv_wc (iv_mt.getD 110 iv_q0) ∈ tables_1 := List.mem_append_right _ (List.mem_append_right _ (List.mem_append_right _ (List.mem_append_left _ (List.mem_of_getElem? (i := 14) rfl))))
theorem iv_cd111 : iv_wc (iv_mt.getD 111 iv_q0) ∈ tables_1 := List.mem_append_right _ (List.mem_append_right _ (List.mem_append_right _ (List.mem_append_left _ (List.mem_of_getElem? (i := 18) rfl))))
theorem iv_cd112 : iv_wc (iv_mt.getD 112 iv_q0) ∈ tables_1 := List.mem_append_right _ (List.mem_append_right _ (List.mem_append_right _ (List.mem_append_left _ (List.mem_of_getElem? (i := 22) rfl))))
theorem iv_cd113 : iv_wc (iv_mt.getD 113 iv_q0) ∈ tables_1 := List.mem_append_right _ (List.mem_append_right _ (List.mem_append_right _ (List.mem_append_left _ (List.mem_of_getElem? (i := 26) rfl))))
theorem iv_cd114 : iv_wc (iv_mt.getD 114 iv_q0) ∈ tables_1 := List.mem_append_right _ (List.mem_append_right _ (List.mem_append_right _ (List.mem_append_left _ (List.mem_of_getElem? (i := 30) rfl))))
theorem iv_cd115 : iv_wc (iv_mt.getD 115 iv_q0) ∈ tables_1 := List.mem_append_right _ (List.mem_append_right _ (List.mem_append_right _ (List.mem_append_left _ (List.mem_of_getElem? (i := 34) rfl))))
theorem iv_cd116 : iv_wc (iv_mt.getD 116 iv_q0) ∈ tables_1 := List.mem_append_right _ (List.mem_append_right _ (List.mem_append_right _ (List.mem_append_left _ (List.mem_of_getElem? (i := 39) rfl))))
theorem iv_cd117 : iv_wc (iv_mt.getD 117 iv_q0) ∈ tables_1 := List.mem_append_right _ (List.mem_append_right _ (List.mem_append_right _ (List.mem_append_left _ (List.mem_of_getElem? (i := 48) rfl))))
theorem iv_cd118 : iv_wc (iv_mt.getD 118 iv_q0) ∈ tables_1 := List.mem_append_right _ (List.mem_append_right _ (List.mem_append_right _ (List.mem_append_left _ (List.mem_of_getElem? (i := 52) rfl))))
theorem iv_cd119 : iv_wc (iv_mt.getD 119 iv_q0) ∈ tables_1 := List.mem_append_right _ (List.mem_append_right _ (List.mem_append_right _ (List.mem_append_left _ (List.mem_of_getElem? (i := 60) rfl))))
theorem iv_cd120 : iv_wc (iv_mt.getD 120 iv_q0) ∈ tables_1 := List.mem_append_right _ (List.mem_append_right _ (List.mem_append_right _ (List.mem_append_left _ (List.mem_of_getElem? (i := 79) rfl))))
theorem iv_cd121 : iv_wc (iv_mt.getD 121 iv_q0) ∈ tables_1 := List.mem_append_right _ (List.mem_append_right _ (List.mem_append_right _ (List.mem_append_left _ (List.mem_of_getElem? (i := 83) rfl))))
theorem iv_cd122 : iv_wc (iv_mt.getD 122 iv_q0) ∈ tables_1 := List.mem_append_right _ (List.mem_append_right _ (List.mem_append_right _ (List.mem_append_left _ (List.mem_of_getElem? (i := 87) rfl))))
theorem iv_cd123 : iv_wc (iv_mt.getD 123 iv_q0) ∈ tables_1 := List.mem_append_right _ (List.mem_append_right _ (List.mem_append_right _ (List.mem_append_left _ (List.mem_of_getElem? (i := 91) rfl))))
theorem iv_cd124 : iv_wc (iv_mt.getD 124 iv_q0) ∈ tables_1 := List.mem_append_right _ (List.mem_append_right _ (List.mem_append_right _ (List.mem_append_left _ (List.mem_of_getElem? (i := 108) rfl))))
theorem iv_cd125 : iv_wc (iv_mt.getD 125 iv_q0) ∈ tables_1 := List.mem_append_right _ (List.mem_append_right _ (List.mem_append_right _ (List.mem_append_left _ (List.mem_of_getElem? (i := 112) rfl))))
theorem iv_cd126 : iv_wc (iv_mt.getD 126 iv_q0) ∈ tables_1 := List.mem_append_right _ (List.mem_append_right _ (List.mem_append_right _ (List.mem_append_left _ (List.mem_of_getElem? (i := 116) rfl))))
theorem iv_cd127 : iv_wc (iv_mt.getD 127 iv_q0) ∈ tables_1 := List.mem_append_left _ (List.mem_of_getElem? (i := 181) rfl)
theorem iv_cd128 : iv_wc (iv_mt.getD 128 iv_q0) ∈ tables_1 := List.mem_append_left _ (List.mem_of_getElem? (i := 177) rfl)
theorem iv_cd129 : iv_wc (iv_mt.getD 129 iv_q0) ∈ tables_1 := List.mem_append_left _ (List.mem_of_getElem? (i := 212) rfl)
theorem iv_cd130 : iv_wc (iv_mt.getD 130 iv_q0) ∈ tables_1 := List.mem_append_left _ (List.mem_of_getElem? (i := 174) rfl)
theorem iv_cd131 : iv_wc (iv_mt.getD 131 iv_q0) ∈ tables_1 := List.mem_append_right _ (List.mem_append_left _ (List.mem_of_getElem? (i := 18) rfl))
theorem iv_cd132 : iv_wc (iv_mt.getD 132 iv_q0) ∈ tables_1 := List.mem_append_right _ (List.mem_append_left _ (List.mem_of_getElem? (i := 7) rfl))
theorem iv_cd133 : iv_wc (iv_mt.getD 133 iv_q0) ∈ tables_1 := List.mem_append_right _ (List.mem_append_left _ (List.mem_of_getElem? (i := 21) rfl))
theorem iv_cd134 : iv_wc (iv_mt.getD 134 iv_q0) ∈ tables_1 := List.mem_append_left _ (List.mem_of_getElem? (i := 193) rfl)
theorem iv_cd135 : iv_wc (iv_mt.getD 135 iv_q0) ∈ tables_1 := List.mem_append_left _ (List.mem_of_getElem? (i := 220) rfl)
theorem iv_cd136 : iv_wc (iv_mt.getD 136 iv_q0) ∈ tables_1 := List.mem_append_right _ (List.mem_append_right _ (List.mem_append_right _ (List.mem_append_left _ (List.mem_of_getElem? (i := 64) rfl))))
theorem iv_cd137 : iv_wc (iv_mt.getD 137 iv_q0) ∈ tables_1 := List.mem_append_right _ (List.mem_append_right _ (List.mem_append_right _ (List.mem_append_left _ (List.mem_of_getElem? (i := 56) rfl))))
theorem iv_cd138 : iv_wc (iv_mt.getD 138 iv_q0) ∈ tables_1 := List.mem_append_right _ (List.mem_append_right _ (List.mem_append_left _ (List.mem_of_getElem? (i := 35) rfl)))
theorem iv_cd139 : iv_wc (iv_mt.getD 139 iv_q0) ∈ tables_1 := List.mem_append_right _ (List.mem_append_right _ (List.mem_append_left _ (List.mem_of_getElem? (i := 43) rfl)))
theorem iv_cd140 : iv_wc (iv_mt.getD 140 iv_q0) ∈ tables_1 := List.mem_append_right _ (List.mem_append_right _ (List.mem_append_left _ (List.mem_of_getElem? (i := 87) rfl)))
theorem iv_cd141 : iv_wc (iv_mt.getD 141 iv_q0) ∈ tables_1 := List.mem_append_right _ (List.mem_append_right _ (List.mem_append_left _ (List.mem_of_getElem? (i := 132) rfl)))
theorem iv_cd142 : iv_wc (iv_mt.getD 142 iv_q0) ∈ tables_1 := List.mem_append_right _ (List.mem_append_right _ (List.mem_append_left _ (List.mem_of_getElem? (i := 136) rfl)))
theorem iv_cd143 : iv_wc (iv_mt.getD 143 iv_q0) ∈ tables_1 := List.mem_append_right _ (List.mem_append_right _ (List.mem_append_left _ (List.mem_of_getElem? (i := 221) rfl)))
theorem iv_cd144 : iv_wc (iv_mt.getD 144 iv_q0) ∈ tables_1 := List.mem_append_right _ (List.mem_append_right _ (List.mem_append_right _ (List.mem_append_left _ (List.mem_of_getElem? (i := 10) rfl))))
theorem iv_cd145 : iv_wc (iv_mt.getD 145 iv_q0) ∈ tables_1 := List.mem_append_right _ (List.mem_append_right _ (List.mem_append_right _ (List.mem_append_left _ (List.mem_of_getElem? (i := 68) rfl))))
theorem iv_cd146 : iv_wc (iv_mt.getD 146 iv_q0) ∈ tables_1 := List.mem_append_right _ (List.mem_append_right _ (List.mem_append_right _ (List.mem_append_left _ (List.mem_of_getElem? (i := 121) rfl))))
theorem iv_cd147 : iv_wc (iv_mt.getD 147 iv_q0) ∈ tables_1 := List.mem_append_right _ (List.mem_append_right _ (List.mem_append_right _ (List.mem_append_left _ (List.mem_of_getElem? (i := 219) rfl))))
theorem iv_cd148 : iv_wc (iv_mt.getD 148 iv_q0) ∈ tables_1 := List.mem_append_right _ (List.mem_append_right _ (List.mem_append_right _ (List.mem_append_left _ (List.mem_of_getElem? (i := 215) rfl))))
theorem iv_cd149 : iv_wc (iv_mt.getD 149 iv_q0) ∈ tables_1 := List.mem_append_right _ (List.mem_append_right _ (List.mem_append_right _ (List.mem_append_right _ (List.mem_append_left _ (List.mem_of_getElem? (i := 14) rfl)))))
theorem iv_cd150 : iv_wc (iv_mt.getD 150 iv_q0) ∈ tables_1 := List.mem_append_right _ (List.mem_append_right _ (List.mem_append_right _ (List.mem_append_right _ (List.mem_append_left _ (List.mem_of_getElem? (i := 114) rfl)))))
theorem iv_cd151 : iv_wc (iv_mt.getD 151 iv_q0) ∈ tables_1 := List.mem_append_right _ (List.mem_append_right _ (List.mem_append_right _ (List.mem_append_right _ (List.mem_append_left _ (List.mem_of_getElem? (i := 152) rfl)))))
theorem iv_cd152 : iv_wc (iv_mt.getD 152 iv_q0) ∈ tables_1 := List.mem_append_right _ (List.mem_append_right _ (List.mem_append_right _ (List.mem_append_right _ (List.mem_append_left _ (List.mem_of_getElem? (i := 209) rfl)))))
theorem iv_cd153 : iv_wc (iv_mt.getD 153 iv_q0) ∈ tables_1 := List.mem_append_right _ (List.mem_append_right _ (List.mem_append_right _ (List.mem_append_left _ (List.mem_of_getElem? (i := 212) rfl))))
theorem iv_cd154 : iv_wc (iv_mt.getD 154 iv_q0) ∈ tables_1 := List.mem_append_right _ (List.mem_append_right _ (List.mem_append_right _ (List.mem_append_left _ (List.mem_of_getElem? (i := 227) rfl))))
theorem iv_cd155 : iv_wc (iv_mt.getD 155 iv_q0) ∈ tables_1 := List.mem_append_right _ (List.mem_append_right _ (List.mem_append_right _ (List.mem_append_left _ (List.mem_of_getElem? (i := 209) rfl))))
theorem iv_cd156 : iv_wc (iv_mt.getD 156 iv_q0) ∈ tables_1 := List.mem_append_right _ (List.mem_append_right _ (List.mem_append_right _ (List.mem_append_left _ (List.mem_of_getElem? (i := 231) rfl))))
theorem iv_cd157 : iv_wc (iv_mt.getD 157 iv_q0) ∈ tables_1 := List.mem_append_right _ (List.mem_append_right _ (List.mem_append_right _ (List.mem_append_left _ (List.mem_of_getElem? (i := 234) rfl))))
theorem iv_cd158 : iv_wc (iv_mt.getD 158 iv_q0) ∈ tables_1 := List.mem_append_right _ (List.mem_append_right _ (List.mem_append_right _ (List.mem_append_left _ (List.mem_of_getElem? (i := 223) rfl))))
theorem iv_cd159 : iv_wc (iv_mt.getD 159 iv_q0) ∈ tables_1 := List.mem_append_right _ (List.mem_append_right _ (List.mem_append_right _ (List.mem_append_left _ (List.mem_of_getElem? (i := 238) rfl))))
theorem iv_cd160 : iv_wc (iv_mt.getD 160 iv_q0) ∈ tables_1 := List.mem_append_right _ (List.mem_append_right _ (List.mem_append_right _ (List.mem_append_right _ (List.mem_append_left _ (List.mem_of_getElem? (i := 2) rfl)))))
theorem iv_cd161 : iv_wc (iv_mt.getD 161 iv_q0) ∈ tables_1 := List.mem_append_right _ (List.mem_append_right _ (List.mem_append_right _ (List.mem_append_right _ (List.mem_append_left _ (List.mem_of_getElem? (i := 6) rfl)))))
theorem iv_cd162 : iv_wc (iv_mt.getD 162 iv_q0) ∈ tables_1 := List.mem_append_right _ (List.mem_append_right _ (List.mem_append_right _ (List.mem_append_right _ (List.mem_append_left _ (List.mem_of_getElem? (i := 10) rfl)))))
theorem iv_cd163 : iv_wc (iv_mt.getD 163 iv_q0) ∈ tables_1 := List.mem_append_right _ (List.mem_append_right _ (List.mem_append_right _ (List.mem_append_right _ (List.mem_append_left _ (List.mem_of_getElem? (i := 21) rfl)))))
theorem iv_cd164 : iv_wc (iv_mt.getD 164 iv_q0) ∈ tables_1 := List.mem_append_right _ (List.mem_append_right _ (List.mem_append_right _ (List.mem_append_right _ (List.mem_append_left _ (List.mem_of_getElem? (i := 18) rfl)))))
theorem iv_cd165 : iv_wc (iv_mt.getD 165 iv_q0) ∈ tables_1 := List.mem_append_right _ (List.mem_append_right _ (List.mem_append_right _ (List.mem_append_right _ (List.mem_append_left _ (List.mem_of_getElem? (i := 33) rfl)))))
theorem iv_cd166 : iv_wc (iv_mt.getD 166 iv_q0) ∈ tables_1 := List.mem_append_right _ (List.mem_append_right _ (List.mem_append_right _ (List.mem_append_right _ (List.mem_append_left _ (List.mem_of_getElem? (i := 29) rfl)))))
theorem iv_cd167 : iv_wc (iv_mt.getD 167 iv_q0) ∈ tables_1 := List.mem_append_right _ (List.mem_append_right _ (List.mem_append_right _ (List.mem_append_right _ (List.mem_append_left _ (List.mem_of_getElem? (i := 37) rfl)))))
theorem iv_cd168 : iv_wc (iv_mt.getD 168 iv_q0) ∈ tables_1 := List.mem_append_right _ (List.mem_append_right _ (List.mem_append_right _ (List.mem_append_right _ (List.mem_append_left _ (List.mem_of_getElem? (i := 41) rfl)))))
theorem iv_cd169 : iv_wc (iv_mt.getD 169 iv_q0) ∈ tables_1 := List.mem_append_right _ (List.mem_append_right _ (List.mem_append_right _ (List.mem_append_right _ (List.mem_append_left _ (List.mem_of_getElem? (i := 48) rfl)))))
theorem iv_cd170 : iv_wc (iv_mt.getD 170 iv_q0) ∈ tables_1 := List.mem_append_right _ (List.mem_append_right _ (List.mem_append_right _ (List.mem_append_right _ (List.mem_append_left _ (List.mem_of_getElem? (i := 45) rfl)))))
theorem iv_cd171 : iv_wc (iv_mt.getD 171 iv_q0) ∈ tables_1 := List.mem_append_right _ (List.mem_append_right _ (List.mem_append_right _ (List.mem_append_right _ (List.mem_append_left _ (List.mem_of_getElem? (i := 52) rfl)))))
theorem iv_cd172 : iv_wc (iv_mt.getD 172 iv_q0) ∈ tables_1 := List.mem_append_right _ (List.mem_append_right _ (List.mem_append_right _ (List.mem_append_right _ (List.mem_append_left _ (List.mem_of_getElem? (i := 56) rfl)))))
theorem iv_cd173 : iv_wc (iv_mt.getD 173 iv_q0) ∈ tables_1 := List.mem_append_right _ (List.mem_append_right _ (List.mem_append_right _ (List.mem_append_right _ (List.mem_append_left _ (List.mem_of_getElem? (i := 71) rfl)))))
theorem iv_cd174 : iv_wc (iv_mt.getD 174 iv_q0) ∈ tables_1 := List.mem_append_right _ (List.mem_append_right _ (List.mem_append_right _ (List.mem_append_right _ (List.mem_append_left _ (List.mem_of_getElem? (i := 74) rfl)))))
theorem iv_cd175 : iv_wc (iv_mt.getD 175 iv_q0) ∈ tables_1 := List.mem_append_right _ (List.mem_append_right _ (List.mem_append_right _ (List.mem_append_right _ (List.mem_append_left _ (List.mem_of_getElem? (i := 68) rfl)))))
theorem iv_cd176 : iv_wc (iv_mt.getD 176 iv_q0) ∈ tables_1 := List.mem_append_right _ (List.mem_append_right _ (List.mem_append_right _ (List.mem_append_right _ (List.mem_append_left _ (List.mem_of_getElem? (i := 83) rfl)))))
theorem iv_cd177 : iv_wc (iv_mt.getD 177 iv_q0) ∈ tables_1 := List.mem_append_right _ (List.mem_append_right _ (List.mem_append_right _ (List.mem_append_right _ (List.mem_append_left _ (List.mem_of_getElem? (i := 93) rfl)))))
theorem iv_cd178 : iv_wc (iv_mt.getD 178 iv_q0) ∈ tables_1 := List.mem_append_right _ (List.mem_append_right _ (List.mem_append_right _ (List.mem_append_right _ (List.mem_append_left _ (List.mem_of_getElem? (i := 89) rfl)))))
theorem iv_cd179 : iv_wc (iv_mt.getD 179 iv_q0) ∈ tables_1 := List.mem_append_right _ (List.mem_append_right _ (List.mem_append_right _ (List.mem_append_right _ (List.mem_append_left _ (List.mem_of_getElem? (i := 78) rfl)))))
theorem iv_cd180 : iv_wc (iv_mt.getD 180 iv_q0) ∈ tables_1 := List.mem_append_right _ (List.mem_append_right _ (List.mem_append_right _ (List.mem_append_right _ (List.mem_append_left _ (List.mem_of_getElem? (i := 60) rfl)))))
theorem iv_cd181 : iv_wc (iv_mt.getD 181 iv_q0) ∈ tables_1 := List.mem_append_right _ (List.mem_append_right _ (List.mem_append_right _ (List.mem_append_right _ (List.mem_append_left _ (List.mem_of_getElem? (i := 106) rfl)))))
theorem iv_cd182 : iv_wc (iv_mt.getD 182 iv_q0) ∈ tables_1 := List.mem_append_right _ (List.mem_append_right _ (List.mem_append_right _ (List.mem_append_right _ (List.mem_append_left _ (List.mem_of_getElem? (i := 25) rfl)))))
theorem iv_cd183 : iv_wc (iv_mt.getD 183 iv_q0) ∈ tables_1 := List.mem_append_right _ (List.mem_append_right _ (List.mem_append_right _ (List.mem_append_right _ (List.mem_append_left _ (List.mem_of_getElem? (i := 122) rfl)))))
theorem iv_cd184 : iv_wc (iv_mt.getD 184 iv_q0) ∈ tables_1 := List.mem_append_right _ (List.mem_append_right _ (List.mem_append_right _ (List.mem_append_right _ (List.mem_append_left _ (List.mem_of_getElem? (i := 131) rfl)))))
theorem iv_cd185 : iv_wc (iv_mt.getD 185 iv_q0) ∈ tables_1 := List.mem_append_right _ (List.mem_append_right _ (List.mem_append_right _ (List.mem_append_right _ (List.mem_append_left _ (List.mem_of_getElem? (i := 110) rfl)))))
theorem iv_cd186 : iv_wc (iv_mt.getD 186 iv_q0) ∈ tables_1 := List.mem_append_right _ (List.mem_append_right _ (List.mem_append_right _ (List.mem_append_right _ (List.mem_append_left _ (List.mem_of_getElem? (i := 118) rfl)))))
theorem iv_cd187 : iv_wc (iv_mt.getD 187 iv_q0) ∈ tables_1 := List.mem_append_right _ (List.mem_append_right _ (List.mem_append_right _ (List.mem_append_right _ (List.mem_append_left _ (List.mem_of_getElem? (i := 127) rfl)))))
theorem iv_cd188 : iv_wc (iv_mt.getD 188 iv_q0) ∈ tables_1 := List.mem_append_right _ (List.mem_append_right _ (List.mem_append_right _ (List.mem_append_right _ (List.mem_append_left _ (List.mem_of_getElem? (i := 135) rfl)))))
theorem iv_cd189 : iv_wc (iv_mt.getD 189 iv_q0) ∈ tables_1 := List.mem_append_right _ (List.mem_append_right _ (List.mem_append_right _ (List.mem_append_right _ (List.mem_append_left _ (List.mem_of_getElem? (i := 225) rfl)))))
theorem iv_cd190 : iv_wc (iv_mt.getD 190 iv_q0) ∈ tables_1 := List.mem_append_right _ (List.mem_append_right _ (List.mem_append_right _ (List.mem_append_right _ (List.mem_append_left _ (List.mem_of_getElem? (i := 143) rfl)))))
theorem iv_cd191 : iv_wc (iv_mt.getD 191 iv_q0) ∈ tables_1 := List.mem_append_right _ (List.mem_append_right _ (List.mem_append_right _ (List.mem_append_right _ (List.mem_append_left _ (List.mem_of_getElem? (i := 139) rfl)))))
theorem iv_cd192 : iv_wc (iv_mt.getD 192 iv_q0) ∈ tables_1 := List.mem_append_right _ (List.mem_append_right _ (List.mem_append_right _ (List.mem_append_right _ (List.mem_append_left _ (List.mem_of_getElem? (i := 157) rfl)))))
theorem iv_cd193 : iv_wc (iv_mt.getD 193 iv_q0) ∈ tables_1 := List.mem_append_right _ (List.mem_append_right _ (List.mem_append_right _ (List.mem_append_right _ (List.mem_append_left _ (List.mem_of_getElem? (i := 148) rfl)))))
theorem iv_cd194 : iv_wc (iv_mt.getD 194 iv_q0) ∈ tables_1 := List.mem_append_right _ (List.mem_append_right _ (List.mem_append_right _ (List.mem_append_right _ (List.mem_append_left _ (List.mem_of_getElem? (i := 161) rfl)))))
theorem iv_cd195 : iv_wc (iv_mt.getD 195 iv_q0) ∈ tables_1 := List.mem_append_right _ (List.mem_append_right _ (List.mem_append_right _ (List.mem_append_right _ (List.mem_append_left _ (List.mem_of_getElem? (i := 202) rfl)))))
theorem iv_cd196 : iv_wc (iv_mt.getD 196 iv_q0) ∈ tables_1 := List.mem_append_right _ (List.mem_append_right _ (List.mem_append_right _ (List.mem_append_right _ (List.mem_append_left _ (List.mem_of_getElem? (i := 221) rfl)))))
theorem iv_cd197 : iv_wc (iv_mt.getD 197 iv_q0) ∈ tables_1 := List.mem_append_right _ (List.mem_append_right _ (List.mem_append_right _ (List.mem_append_right _ (List.mem_append_left _ (List.mem_of_getElem? (i := 217) rfl)))))
theorem iv_cd198 : iv_wc (iv_mt.getD 198 iv_q0) ∈ tables_1 := List.mem_append_right _ (List.mem_append_right _ (List.mem_append_right _ (List.mem_append_right _ (List.mem_append_left _ (List.mem_of_getElem? (i := 234) rfl)))))
theorem iv_cd199 : iv_wc (iv_mt.getD 199 iv_q0) ∈ tables_1 := List.mem_append_right _ (List.mem_append_right _ (List.mem_append_right _ (List.mem_append_right _ (List.mem_append_right _ (List.mem_of_getElem? (i := 6) rfl)))))
theorem iv_cd200 : iv_wc (iv_mt.getD 200 iv_q0) ∈ tables_1 := List.mem_append_right _ (List.mem_append_right _ (List.mem_append_right _ (List.mem_append_right _ (List.mem_append_left _ (List.mem_of_getElem? (i := 178) rfl)))))
theorem iv_cd201 : iv_wc (iv_mt.getD 201 iv_q0) ∈ tables_1 := List.mem_append_right _ (List.mem_append_right _ (List.mem_append_right _ (List.mem_append_right _ (List.mem_append_left _ (List.mem_of_getElem? (i := 174) rfl)))))
theorem iv_cd202 : iv_wc (iv_mt.getD 202 iv_q0) ∈ tables_1 := List.mem_append_right _ (List.mem_append_right _ (List.mem_append_right _ (List.mem_append_right _ (List.mem_append_left _ (List.mem_of_getElem? (i := 169) rfl)))))
theorem iv_cd203 : iv_wc (iv_mt.getD 203 iv_q0) ∈ tables_1 := List.mem_append_right _ (List.mem_append_right _ (List.mem_append_right _ (List.mem_append_right _ (List.mem_append_left _ (List.mem_of_getElem? (i := 165) rfl)))))
theorem iv_cd204 : iv_wc (iv_mt.getD 204 iv_q0) ∈ tables_1 := List.mem_append_right _ (List.mem_append_right _ (List.mem_append_right _ (List.mem_append_right _ (List.mem_append_left _ (List.mem_of_getElem? (i := 182) rfl)))))
theorem iv_cd205 : iv_wc (iv_mt.getD 205 iv_q0) ∈ tables_1 := List.mem_append_right _ (List.mem_append_right _ (List.mem_append_right _ (List.mem_append_right _ (List.mem_append_left _ (List.mem_of_getElem? (i := 190) rfl)))))
theorem iv_cd206 : iv_wc (iv_mt.getD 206 iv_q0) ∈ tables_1 := List.mem_append_right _ (List.mem_append_right _ (List.mem_append_right _ (List.mem_append_right _ (List.mem_append_left _ (List.mem_of_getElem? (i := 186) rfl)))))
theorem iv_cd207 : iv_wc (iv_mt.getD 207 iv_q0) ∈ tables_1 := List.mem_append_right _ (List.mem_append_right _ (List.mem_append_right _ (List.mem_append_right _ (List.mem_append_left _ (List.mem_of_getElem? (i := 194) rfl)))))
theorem iv_cd208 : iv_wc (iv_mt.getD 208 iv_q0) ∈ tables_1 := List.mem_append_right _ (List.mem_append_right _ (List.mem_append_right _ (List.mem_append_right _ (List.mem_append_left _ (List.mem_of_getElem? (i := 198) rfl)))))
theorem iv_cd209 : iv_wc (iv_mt.getD 209 iv_q0) ∈ tables_1 := List.mem_append_right _ (List.mem_append_right _ (List.mem_append_right _ (List.mem_append_right _ (List.mem_append_left _ (List.mem_of_getElem? (i := 206) rfl)))))
theorem iv_cd210 : iv_wc (iv_mt.getD 210 iv_q0) ∈ tables_1 := List.mem_append_right _ (List.mem_append_right _ (List.mem_append_right _ (List.mem_append_right _ (List.mem_append_left _ (List.mem_of_getElem? (i := 213) rfl)))))
theorem iv_cd211 : iv_wc (iv_mt.getD 211 iv_q0) ∈ tables_1 := List.mem_append_right _ (List.mem_append_right _ (List.mem_append_right _ (List.mem_append_right _ (List.mem_append_left _ (List.mem_of_getElem? (i := 230) rfl)))))
theorem iv_cd212 : iv_wc (iv_mt.getD 212 iv_q0) ∈ tables_1 := List.mem_append_right _ (List.mem_append_right _ (List.mem_append_right _ (List.mem_append_right _ (List.mem_append_left _ (List.mem_of_getElem? (i := 238) rfl)))))
theorem iv_cd213 : iv_wc (iv_mt.getD 213 iv_q0) ∈ tables_1 := List.mem_append_right _ (List.mem_append_right _ (List.mem_append_right _ (List.mem_append_right _ (List.mem_append_right _ (List.mem_of_getElem? (i := 2) rfl)))))
theorem iv_cd214 : iv_wc (iv_mt.getD 214 iv_q0) ∈ tables_1 := List.mem_append_right _ (List.mem_append_right _ (List.mem_append_right _ (List.mem_append_right _ (List.mem_append_right _ (List.mem_of_getElem? (i := 10) rfl)))))
theorem iv_cd215 : iv_wc (iv_mt.getD 215 iv_q0) ∈ tables_1 := List.mem_append_right _ (List.mem_append_right _ (List.mem_append_right _ (List.mem_append_right _ (List.mem_append_right _ (List.mem_of_getElem? (i := 14) rfl)))))
theorem iv_cd216 : iv_wc (iv_mt.getD 216 iv_q0) ∈ tables_1 := List.mem_append_right _ (List.mem_append_right _ (List.mem_append_right _ (List.mem_append_right _ (List.mem_append_right _ (List.mem_of_getElem? (i := 18) rfl)))))
theorem iv_cd217 : iv_wc (iv_mt.getD 217 iv_q0) ∈ tables_1 := List.mem_append_right _ (List.mem_append_right _ (List.mem_append_right _ (List.mem_append_right _ (List.mem_append_right _ (List.mem_of_getElem? (i := 26) rfl)))))
theorem iv_cd218 : iv_wc (iv_mt.getD 218 iv_q0) ∈ tables_1 := List.mem_append_right _ (List.mem_append_right _ (List.mem_append_right _ (List.mem_append_right _ (List.mem_append_right _ (List.mem_of_getElem? (i := 22) rfl)))))
theorem iv_cd219 : iv_wc (iv_mt.getD 219 iv_q0) ∈ tables_1 := List.mem_append_right _ (List.mem_append_right _ (List.mem_append_right _ (List.mem_append_right _ (List.mem_append_right _ (List.mem_of_getElem? (i := 30) rfl)))))
theorem iv_cd220 : iv_wc (iv_mt.getD 220 iv_q0) ∈ tables_1 := List.mem_append_right _ (List.mem_append_right _ (List.mem_append_right _ (List.mem_append_right _ (List.mem_append_right _ (List.mem_of_getElem? (i := 34) rfl)))))
theorem iv_cd221 : iv_wc (iv_mt.getD 221 iv_q0) ∈ tables_1 := List.mem_append_right _ (List.mem_append_right _ (List.mem_append_right _ (List.mem_append_right _ (List.mem_append_right _ (List.mem_of_getElem? (i := 38) rfl)))))
theorem iv_cd222 : iv_wc (iv_mt.getD 222 iv_q0) ∈ tables_1 := List.mem_append_right _ (List.mem_append_right _ (List.mem_append_right _ (List.mem_append_right _ (List.mem_append_right _ (List.mem_of_getElem? (i := 42) rfl)))))
theorem iv_cd223 : iv_wc (iv_mt.getD 223 iv_q0) ∈ tables_1 := List.mem_append_right _ (List.mem_append_right _ (List.mem_append_right _ (List.mem_append_right _ (List.mem_append_right _ (List.mem_of_getElem? (i := 46) rfl)))))
theorem iv_cd224 : iv_wc (iv_mt.getD 224 iv_q0) ∈ tables_1 := List.mem_append_right _ (List.mem_append_right _ (List.mem_append_right _ (List.mem_append_right _ (List.mem_append_right _ (List.mem_of_getElem? (i := 50) rfl)))))
theorem iv_cd225 : iv_wc (iv_mt.getD 225 iv_q0) ∈ tables_1 := List.mem_append_right _ (List.mem_append_right _ (List.mem_append_right _ (List.mem_append_right _ (List.mem_append_right _ (List.mem_of_getElem? (i := 58) rfl)))))
theorem iv_cd226 : iv_wc (iv_mt.getD 226 iv_q0) ∈ tables_1 := List.mem_append_right _ (List.mem_append_right _ (List.mem_append_right _ (List.mem_append_right _ (List.mem_append_right _ (List.mem_of_getElem? (i := 54) rfl)))))
theorem iv_cd227 : iv_wc (iv_mt.getD 227 iv_q0) ∈ tables_1 := List.mem_append_right _ (List.mem_append_right _ (List.mem_append_right _ (List.mem_append_right _ (List.mem_append_right _ (List.mem_of_getElem? (i := 62) rfl)))))
theorem iv_cd228 : iv_wc (iv_mt.getD 228 iv_q0) ∈ tables_1 := List.mem_append_right _ (List.mem_append_right _ (List.mem_append_right _ (List.mem_append_right _ (List.mem_append_right _ (List.mem_of_getElem? (i := 66) rfl)))))
theorem iv_cd229 : iv_wc (iv_mt.getD 229 iv_q0) ∈ tables_1 := List.mem_append_right _ (List.mem_append_right _ (List.mem_append_right _ (List.mem_append_right _ (List.mem_append_right _ (List.mem_of_getElem? (i := 70) rfl)))))
theorem iv_cd230 : iv_wc (iv_mt.getD 230 iv_q0) ∈ tables_1 := List.mem_append_right _ (List.mem_append_right _ (List.mem_append_right _ (List.mem_append_right _ (List.mem_append_right _ (List.mem_of_getElem? (i := 74) rfl)))))
theorem iv_cd231 : iv_wc (iv_mt.getD 231 iv_q0) ∈ tables_1 := List.mem_append_right _ (List.mem_append_right _ (List.mem_append_right _ (List.mem_append_right _ (List.mem_append_right _ (List.mem_of_getElem? (i := 78) rfl)))))
theorem iv_cd232 : iv_wc (iv_mt.getD 232 iv_q0) ∈ tables_1 := List.mem_append_right _ (List.mem_append_right _ (List.mem_append_right _ (List.mem_append_right _ (List.mem_append_right _ (List.mem_of_getElem? (i := 82) rfl)))))
theorem iv_cd233 : iv_wc (iv_mt.getD 233 iv_q0) ∈ tables_1 := List.mem_append_right _ (List.mem_append_right _ (List.mem_append_right _ (List.mem_append_right _ (List.mem_append_right _ (List.mem_of_getElem? (i := 86) rfl)))))
theorem iv_cd234 : iv_wc (iv_mt.getD 234 iv_q0) ∈ tables_1 := List.mem_append_right _ (List.mem_append_right _ (List.mem_append_right _ (List.mem_append_right _ (List.mem_append_right _ (List.mem_of_getElem? (i := 90) rfl)))))
theorem iv_cd235 : iv_wc (iv_mt.getD 235 iv_q0) ∈ tables_1 := List.mem_append_right _ (List.mem_append_right _ (List.mem_append_right _ (List.mem_append_right _ (List.mem_append_right _ (List.mem_of_getElem? (i := 94) rfl)))))
theorem iv_cd236 : iv_wc (iv_mt.getD 236 iv_q0) ∈ tables_1 := List.mem_append_right _ (List.mem_append_right _ (List.mem_append_right _ (List.mem_append_right _ (List.mem_append_right _ (List.mem_of_getElem? (i := 98) rfl)))))
theorem iv_cd237 : iv_wc (iv_mt.getD 237 iv_q0) ∈ tables_1 := List.mem_append_right _ (List.mem_append_right _ (List.mem_append_right _ (List.mem_append_right _ (List.mem_append_right _ (List.mem_of_getElem? (i := 102) rfl)))))
theorem iv_cd238 : iv_wc (iv_mt.getD 238 iv_q0) ∈ tables_1 := List.mem_append_right _ (List.mem_append_right _ (List.mem_append_right _ (List.mem_append_right _ (List.mem_append_right _ (List.mem_of_getElem? (i := 106) rfl)))))
theorem iv_cd239 : iv_wc (iv_mt.getD 239 iv_q0) ∈ tables_1 := List.mem_append_right _ (List.mem_append_right _ (List.mem_append_right _ (List.mem_append_right _ (List.mem_append_right _ (List.mem_of_getElem? (i := 110) rfl)))))
theorem iv_cd240 : iv_wc (iv_mt.getD 240 iv_q0) ∈ tables_1 := List.mem_append_right _ (List.mem_append_right _ (List.mem_append_right _ (List.mem_append_right _ (List.mem_append_right _ (List.mem_of_getElem? (i := 118) rfl)))))
theorem iv_cd241 : iv_wc (iv_mt.getD 241 iv_q0) ∈ tables_1 := List.mem_append_right _ (List.mem_append_right _ (List.mem_append_right _ (List.mem_append_right _ (List.mem_append_right _ (List.mem_of_getElem? (i := 114) rfl)))))
theorem iv_cd242 : iv_wc (iv_mt.getD 242 iv_q0) ∈ tables_1 := List.mem_append_right _ (List.mem_append_right _ (List.mem_append_right _ (List.mem_append_right _ (List.mem_append_right _ (List.mem_of_getElem? (i := 134) rfl)))))
theorem iv_cd243 : iv_wc (iv_mt.getD 243 iv_q0) ∈ tables_1 := List.mem_append_right _ (List.mem_append_right _ (List.mem_append_right _ (List.mem_append_right _ (List.mem_append_right _ (List.mem_of_getElem? (i := 126) rfl)))))
theorem iv_cd244 : iv_wc (iv_mt.getD 244 iv_q0) ∈ tables_1 := List.mem_append_right _ (List.mem_append_right _ (List.mem_append_right _ (List.mem_append_right _ (List.mem_append_right _ (List.mem_of_getElem? (i := 130) rfl)))))
theorem iv_cd245 : iv_wc (iv_mt.getD 245 iv_q0) ∈ tables_1 := List.mem_append_right _ (List.mem_append_right _ (List.mem_append_right _ (List.mem_append_right _ (List.mem_append_right _ (List.mem_of_getElem? (i := 122) rfl)))))
theorem iv_cd246 : iv_wc (iv_mt.getD 246 iv_q0) ∈ tables_1 := List.mem_append_right _ (List.mem_append_right _ (List.mem_append_right _ (List.mem_append_right _ (List.mem_append_right _ (List.mem_of_getElem? (i := 138) rfl)))))
theorem iv_cd247 : iv_wc (iv_mt.getD 247 iv_q0) ∈ tables_1 := List.mem_append_right _ (List.mem_append_right _ (List.mem_append_right _ (List.mem_append_right _ (List.mem_append_right _ (List.mem_of_getElem? (i := 142) rfl)))))
theorem iv_cd248 : iv_wc (iv_mt.getD 248 iv_q0) ∈ tables_1 := List.mem_append_right _ (List.mem_append_right _ (List.mem_append_right _ (List.mem_append_right _ (List.mem_append_right _ (List.mem_of_getElem? (i := 146) rfl)))))
theorem iv_cd249 : iv_wc (iv_mt.getD 249 iv_q0) ∈ tables_1 := List.mem_append_right _ (List.mem_append_right _ (List.mem_append_right _ (List.mem_append_right _ (List.mem_append_right _ (List.mem_of_getElem? (i := 158) rfl)))))
theorem iv_cd250 : iv_wc (iv_mt.getD 250 iv_q0) ∈ tables_1 := List.mem_append_right _ (List.mem_append_right _ (List.mem_append_right _ (List.mem_append_right _ (List.mem_append_right _ (List.mem_of_getElem? (i := 154) rfl)))))
theorem iv_cd251 : iv_wc (iv_mt.getD 251 iv_q0) ∈ tables_1 := List.mem_append_right _ (List.mem_append_right _ (List.mem_append_right _ (List.mem_append_right _ (List.mem_append_right _ (List.mem_of_getElem? (i := 150) rfl)))))
theorem iv_cd252 : iv_wc (iv_mt.getD 252 iv_q0) ∈ tables_1 := List.mem_append_right _ (List.mem_append_right _ (List.mem_append_right _ (List.mem_append_right _ (List.mem_append_right _ (List.mem_of_getElem? (i := 163) rfl)))))
theorem iv_cd253 : iv_wc (iv_mt.getD 253 iv_q0) ∈ tables_1 := List.mem_append_right _ (List.mem_append_right _ (List.mem_append_right _ (List.mem_append_right _ (List.mem_append_left _ (List.mem_of_getElem? (i := 64) rfl)))))
theorem iv_cd254 : iv_wc (iv_mt.getD 254 iv_q0) ∈ tables_1 := List.mem_append_right _ (List.mem_append_right _ (List.mem_append_right _ (List.mem_append_right _ (List.mem_append_left _ (List.mem_of_getElem? (i := 102) rfl)))))
theorem iv_cd255 : iv_wc (iv_mt.getD 255 iv_q0) ∈ tables_1 := List.mem_append_right _ (List.mem_append_right _ (List.mem_append_right _ (List.mem_append_right _ (List.mem_append_right _ (List.mem_of_getElem? (i := 167) rfl)))))
theorem iv_cd256 : iv_wc (iv_mt.getD 256 iv_q0) ∈ tables_1 := List.mem_append_right _ (List.mem_append_right _ (List.mem_append_right _ (List.mem_append_right _ (List.mem_append_right _ (List.mem_of_getElem? (i := 171) rfl)))))
theorem iv_cd257 : iv_wc (iv_mt.getD 257 iv_q0) ∈ tables_1 := List.mem_append_right _ (List.mem_append_right _ (List.mem_append_right _ (List.mem_append_right _ (List.mem_append_right _ (List.mem_of_getElem? (i := 175) rfl)))))
theorem iv_cd258 : iv_wc (iv_mt.getD 258 iv_q0) ∈ tables_1 := List.mem_append_right _ (List.mem_append_right _ (List.mem_append_left _ (List.mem_of_getElem? (i := 175) rfl)))
theorem iv_cd259 : iv_wc (iv_mt.getD 259 iv_q0) ∈ tables_1 := List.mem_append_right _ (List.mem_append_right _ (List.mem_append_left _ (List.mem_of_getElem? (i := 75) rfl)))
theorem iv_cd260 : iv_wc (iv_mt.getD 260 iv_q0) ∈ tables_1 := List.mem_append_right _ (List.mem_append_left _ (List.mem_of_getElem? (i := 220) rfl))
theorem iv_cd261 : iv_wc (iv_mt.getD 261 iv_q0) ∈ tables_1 := List.mem_append_right _ (List.mem_append_right _ (List.mem_append_left _ (List.mem_of_getElem? (i := 116) rfl)))
theorem iv_cd262 : iv_wc (iv_mt.getD 262 iv_q0) ∈ tables_1 := List.mem_append_right _ (List.mem_append_right _ (List.mem_append_right _ (List.mem_append_left _ (List.mem_of_getElem? (i := 75) rfl))))
theorem iv_cd263 : iv_wc (iv_mt.getD 263 iv_q0) ∈ tables_1 := List.mem_append_right _ (List.mem_append_right _ (List.mem_append_left _ (List.mem_of_getElem? (i := 27) rfl)))
theorem iv_cd264 : iv_wc (iv_mt.getD 264 iv_q0) ∈ tables_1 := List.mem_append_right _ (List.mem_append_right _ (List.mem_append_right _ (List.mem_append_left _ (List.mem_of_getElem? (i := 71) rfl))))
theorem iv_cd_mem : ∀ y, y < 265 → iv_wc (iv_q y) ∈ tables_1 := by
  intro y hy
  match y, hy with
  | 0, _ => exact iv_cd0
  | 1, _ => exact iv_cd1
  | 2, _ => exact iv_cd2
  | 3, _ => exact iv_cd3
  | 4, _ => exact iv_cd4
  | 5, _ => exact iv_cd5
  | 6, _ => exact iv_cd6
  | 7, _ => exact iv_cd7
  | 8, _ => exact iv_cd8
  | 9, _ => exact iv_cd9
  | 10, _ => exact iv_cd10
  | 11, _ => exact iv_cd11
  | 12, _ => exact iv_cd12
  | 13, _ => exact iv_cd13
  | 14, _ => exact iv_cd14
  | 15, _ => exact iv_cd15
  | 16, _ => exact iv_cd16
  | 17, _ => exact iv_cd17
  | 18, _ => exact iv_cd18
  | 19, _ => exact iv_cd19
  | 20, _ => exact iv_cd20
  | 21, _ => exact iv_cd21
  | 22, _ => exact iv_cd22
  | 23, _ => exact iv_cd23
  | 24, _ => exact iv_cd24
  | 25, _ => exact iv_cd25
  | 26, _ => exact iv_cd26
  | 27, _ => exact iv_cd27
  | 28, _ => exact iv_cd28
  | 29, _ => exact iv_cd29
  | 30, _ => exact iv_cd30
  | 31, _ => exact iv_cd31
  | 32, _ => exact iv_cd32
  | 33, _ => exact iv_cd33
  | 34, _ => exact iv_cd34
  | 35, _ => exact iv_cd35
  | 36, _ => exact iv_cd36
  | 37, _ => exact iv_cd37
  | 38, _ => exact iv_cd38
  | 39, _ => exact iv_cd39
  | 40, _ => exact iv_cd40
  | 41, _ => exact iv_cd41
  | 42, _ => exact iv_cd42
  | 43, _ => exact iv_cd43
  | 44, _ => exact iv_cd44
  | 45, _ => exact iv_cd45
  | 46, _ => exact iv_cd46
  | 47, _ => exact iv_cd47
  | 48, _ => exact iv_cd48
  | 49, _ => exact iv_cd49
  | 50, _ => exact iv_cd50
  | 51, _ => exact iv_cd51
  | 52, _ => exact iv_cd52
  | 53, _ => exact iv_cd53
  | 54, _ => exact iv_cd54
  | 55, _ => exact iv_cd55
  | 56, _ => exact iv_cd56
  | 57, _ => exact iv_cd57
  | 58, _ => exact iv_cd58
  | 59, _ => exact iv_cd59
  | 60, _ => exact iv_cd60
  | 61, _ => exact iv_cd61
  | 62, _ => exact iv_cd62
  | 63, _ => exact iv_cd63
  | 64, _ => exact iv_cd64
  | 65, _ => exact iv_cd65
  | 66, _ => exact iv_cd66
  | 67, _ => exact iv_cd67
  | 68, _ => exact iv_cd68
  | 69, _ => exact iv_cd69
  | 70, _ => exact iv_cd70
  | 71, _ => exact iv_cd71
  | 72, _ => exact iv_cd72
  | 73, _ => exact iv_cd73
  | 74, _ => exact iv_cd74
  | 75, _ => exact iv_cd75
  | 76, _ => exact iv_cd76
  | 77, _ => exact iv_cd77
  | 78, _ => exact iv_cd78
  | 79, _ => exact iv_cd79
  | 80, _ => exact iv_cd80
  | 81, _ => exact iv_cd81
  | 82, _ => exact iv_cd82
  | 83, _ => exact iv_cd83
  | 84, _ => exact iv_cd84
  | 85, _ => exact iv_cd85
  | 86, _ => exact iv_cd86
  | 87, _ => exact iv_cd87
  | 88, _ => exact iv_cd88
  | 89, _ => exact iv_cd89
  | 90, _ => exact iv_cd90
  | 91, _ => exact iv_cd91
  | 92, _ => exact iv_cd92
  | 93, _ => exact iv_cd93
  | 94, _ => exact iv_cd94
  | 95, _ => exact iv_cd95
  | 96, _ => exact iv_cd96
  | 97, _ => exact iv_cd97
  | 98, _ => exact iv_cd98
  | 99, _ => exact iv_cd99
  | 100, _ => exact iv_cd100
  | 101, _ => exact iv_cd101
  | 102, _ => exact iv_cd102
  | 103, _ => exact iv_cd103
  | 104, _ => exact iv_cd104
  | 105, _ => exact iv_cd105
  | 106, _ => exact iv_cd106
  | 107, _ => exact iv_cd107
  | 108, _ => exact iv_cd108
  | 109, _ => exact iv_cd109
  | 110, _ => exact iv_cd110
  | 111, _ => exact iv_cd111
  | 112, _ => exact iv_cd112
  | 113, _ => exact iv_cd113
  | 114, _ => exact iv_cd114
  | 115, _ => exact iv_cd115
  | 116, _ => exact iv_cd116
  | 117, _ => exact iv_cd117
  | 118, _ => exact iv_cd118
  | 119, _ => exact iv_cd119
  | 120, _ => exact iv_cd120
  | 121, _ => exact iv_cd121
  | 122, _ => exact iv_cd122
  | 123, _ => exact iv_cd123
  | 124, _ => exact iv_cd124
  | 125, _ => exact iv_cd125
  | 126, _ => exact iv_cd126
  | 127, _ => exact iv_cd127
  | 128, _ => exact iv_cd128
  | 129, _ => exact iv_cd129
  | 130, _ => exact iv_cd130
  | 131, _ => exact iv_cd131
  | 132, _ => exact iv_cd132
  | 133, _ => exact iv_cd133
  | 134, _ => exact iv_cd134
  | 135, _ => exact iv_cd135
  | 136, _ => exact iv_cd136
  | 137, _ => exact iv_cd137
  | 138, _ => exact iv_cd138
  | 139, _ => exact iv_cd139
  | 140, _ => exact iv_cd140
  | 141, _ => exact iv_cd141
  | 142, _ => exact iv_cd142
  | 143, _ => exact iv_cd143
  | 144, _ => exact iv_cd144
  | 145, _ => exact iv_cd145
  | 146, _ => exact iv_cd146
  | 147, _ => exact iv_cd147
  | 148, _ => exact iv_cd148
  | 149, _ => exact iv_cd149
  | 150, _ => exact iv_cd150
  | 151, _ => exact iv_cd151
  | 152, _ => exact iv_cd152
  | 153, _ => exact iv_cd153
  | 154, _ => exact iv_cd154
  | 155, _ => exact iv_cd155
  | 156, _ => exact iv_cd156
  | 157, _ => exact iv_cd157
  | 158, _ => exact iv_cd158
  | 159, _ => exact iv_cd159
  | 160, _ => exact iv_cd160
  | 161, _ => exact iv_cd161
  | 162, _ => exact iv_cd162
  | 163, _ => exact iv_cd163
  | 164, _ => exact iv_cd164
  | 165, _ => exact iv_cd165
  | 166, _ => exact iv_cd166
  | 167, _ => exact iv_cd167
  | 168, _ => exact iv_cd168
  | 169, _ => exact iv_cd169
  | 170, _ => exact iv_cd170
  | 171, _ => exact iv_cd171
  | 172, _ => exact iv_cd172
  | 173, _ => exact iv_cd173
  | 174, _ => exact iv_cd174
  | 175, _ => exact iv_cd175
  | 176, _ => exact iv_cd176
  | 177, _ => exact iv_cd177
  | 178, _ => exact iv_cd178
  | 179, _ => exact iv_cd179
  | 180, _ => exact iv_cd180
  | 181, _ => exact iv_cd181
  | 182, _ => exact iv_cd182
  | 183, _ => exact iv_cd183
  | 184, _ => exact iv_cd184
  | 185, _ => exact iv_cd185
  | 186, _ => exact iv_cd186
  | 187, _ => exact iv_cd187
  | 188, _ => exact iv_cd188
  | 189, _ => exact iv_cd189
  | 190, _ => exact iv_cd190
  | 191, _ => exact iv_cd191
  | 192, _ => exact iv_cd192
  | 193, _ => exact iv_cd193
  | 194, _ => exact iv_cd194
  | 195, _ => exact iv_cd195
  | 196, _ => exact iv_cd196
  | 197, _ => exact iv_cd197
  | 198, _ => exact iv_cd198
  | 199, _ => exact iv_cd199
  | 200, _ => exact iv_cd200
  | 201, _ => exact iv_cd201
  | 202, _ => exact iv_cd202
  | 203, _ => exact iv_cd203
  | 204, _ => exact iv_cd204
  | 205, _ => exact iv_cd205
  | 206, _ => exact iv_cd206
  | 207, _ => exact iv_cd207
  | 208, _ => exact iv_cd208
  | 209, _ => exact iv_cd209
  | 210, _ => exact iv_cd210
  | 211, _ => exact iv_cd211
  | 212, _ => exact iv_cd212
  | 213, _ => exact iv_cd213
  | 214, _ => exact iv_cd214
  | 215, _ => exact iv_cd215
  | 216, _ => exact iv_cd216
  | 217, _ => exact iv_cd217
  | 218, _ => exact iv_cd218
  | 219, _ => exact iv_cd219
  | 220, _ => exact iv_cd220
  | 221, _ => exact iv_cd221
  | 222, _ => exact iv_cd222
  | 223, _ => exact iv_cd223
  | 224, _ => exact iv_cd224
  | 225, _ => exact iv_cd225
  | 226, _ => exact iv_cd226
  | 227, _ => exact iv_cd227
  | 228, _ => exact iv_cd228
  | 229, _ => exact iv_cd229
  | 230, _ => exact iv_cd230
  | 231, _ => exact iv_cd231
  | 232, _ => exact iv_cd232
  | 233, _ => exact iv_cd233
  | 234, _ => exact iv_cd234
  | 235, _ => exact iv_cd235
  | 236, _ => exact iv_cd236
  | 237, _ => exact iv_cd237
  | 238, _ => exact iv_cd238
  | 239, _ => exact iv_cd239
  | 240, _ => exact iv_cd240
  | 241, _ => exact iv_cd241
  | 242, _ => exact iv_cd242
  | 243, _ => exact iv_cd243
  | 244, _ => exact iv_cd244
  | 245, _ => exact iv_cd245
  | 246, _ => exact iv_cd246
  | 247, _ => exact iv_cd247
  | 248, _ => exact iv_cd248
  | 249, _ => exact iv_cd249
  | 250, _ => exact iv_cd250
  | 251, _ => exact iv_cd251
  | 252, _ => exact iv_cd252
  | 253, _ => exact iv_cd253
  | 254, _ => exact iv_cd254
  | 255, _ => exact iv_cd255
  | 256, _ => exact iv_cd256
  | 257, _ => exact iv_cd257
  | 258, _ => exact iv_cd258
  | 259, _ => exact iv_cd259
  | 260, _ => exact iv_cd260
  | 261, _ => exact iv_cd261
  | 262, _ => exact iv_cd262
  | 263, _ => exact iv_cd263
  | 264, _ => exact iv_cd264
  | n + 265, h => omega
theorem iv_cd_in (y : Nat) (hy : y < 265) : iv_wc (iv_q y) ∈ iv_tbl := by
  refine List.mem_filter.mpr ⟨List.mem_append_right _ (iv_cd_mem y hy), ?_⟩
  have h := List.all_eq_true.mp iv_cd_good
  refine h _ (List.mem_map.mpr ⟨iv_q y, ?_, rfl⟩)
  have hl : iv_mt.length = 266 := by decide +kernel
  have h1 : iv_mt[y]? = some (iv_q y) := by
    unfold iv_q
    rw [List.getD_eq_getElem?_getD, List.getElem?_eq_getElem (by omega)]
    rfl
  refine List.mem_of_getElem? (i := y) ?_
  rw [List.getElem?_take, if_pos hy, h1]
