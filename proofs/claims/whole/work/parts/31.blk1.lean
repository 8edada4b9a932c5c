/-! rows a block and a call, printed by wip/gen/blk.py -/
/-- X0_init -/
theorem iv_g0 : iv_Gb 0 = iv_b0 := rfl
theorem ivk_0_0 : iv_lk (iv_Gb 0) 0 = ([1], [(10,0,1,0,[]), (69,0,0,3,[]), (10,0,1,0,[]), (1,0,0,8,[]), (60,6,0,0,[]), (77,0,0,9,[]), (10,0,1,0,[]), (1,0,0,8,[]), (1,0,0,8,[]), (62,0,0,15,[]), (77,0,1,17,[]), (10,0,1,0,[]), (2,0,0,256,[]), (60,6,0,0,[]), (77,0,2,20,[]), (65,0,0,0,[])]) := by rw [iv_g0]; rfl
theorem ivj_0_0 {d : Nat} {st : List Value} {h : iv_H} {l0 : Option Value} : iv_K d 0 0 [l0] st h = iv_sem d 0 0 [l0] st h := iv_Kof ivk_0_0
theorem ivs_0_0 {d : Nat} {st : List Value} {h : iv_H} {ls : iv_L} : iv_sem d 0 0 ls st h = iv_x [(10,0,1,0,[]), (69,0,0,3,[]), (10,0,1,0,[]), (1,0,0,8,[]), (60,6,0,0,[]), (77,0,0,9,[]), (10,0,1,0,[]), (1,0,0,8,[]), (1,0,0,8,[]), (62,0,0,15,[]), (77,0,1,17,[]), (10,0,1,0,[]), (2,0,0,256,[]), (60,6,0,0,[]), (77,0,2,20,[]), (65,0,0,0,[])] ls st h (iv_K d 0) (iv_call d) := iv_Sof ivk_0_0
theorem ivc_0 {d : Nat} {h : iv_H} {p : Nat} : iv_call (d + 1) 0 [.ref p] h = iv_sem d 0 0 [some (.ref p)] [] h := iv_Cof (by decide) ivk_0_0 (Nat.le_of_ble_eq_true rfl)
/-- X0_weigh -/
theorem iv_g1 : iv_Gb 1 = iv_b1 := rfl
theorem ivk_1_0 : iv_lk (iv_Gb 1) 0 = ([1, 1, 1, 0, 0, 0], [(10,0,1,0,[]), (10,1,1,0,[]), (47,1,5,23,[]), (48,0,3,29,[]), (0,0,0,0,[]), (11,3,1,0,[]), (71,10,0,0,[])]) := by rw [iv_g1]; rfl
theorem ivj_1_0 {d : Nat} {st : List Value} {h : iv_H} {l0 l1 l2 l3 l4 l5 : Option Value} : iv_K d 1 0 [l0, l1, l2, l3, l4, l5] st h = iv_sem d 1 0 [l0, l1, l2, none, none, none] st h := iv_Kof ivk_1_0
theorem ivs_1_0 {d : Nat} {st : List Value} {h : iv_H} {ls : iv_L} : iv_sem d 1 0 ls st h = iv_x [(10,0,1,0,[]), (10,1,1,0,[]), (47,1,5,23,[]), (48,0,3,29,[]), (0,0,0,0,[]), (11,3,1,0,[]), (71,10,0,0,[])] ls st h (iv_K d 1) (iv_call d) := iv_Sof ivk_1_0
theorem ivk_1_10 : iv_lk (iv_Gb 1) 10 = ([1, 1, 1, 1, 0, 0], [(8,3,1,0,[]), (10,0,1,0,[]), (47,0,3,29,[]), (44,90,3,75,[]), (8,3,1,0,[]), (0,0,0,1,[]), (15,0,0,0,[]), (11,4,2,0,[]), (71,23,0,0,[])]) := by rw [iv_g1]; rfl
theorem ivj_1_10 {d : Nat} {st : List Value} {h : iv_H} {l0 l1 l2 l3 l4 l5 : Option Value} : iv_K d 1 10 [l0, l1, l2, l3, l4, l5] st h = iv_sem d 1 10 [l0, l1, l2, l3, none, none] st h := iv_Kof ivk_1_10
theorem ivs_1_10 {d : Nat} {st : List Value} {h : iv_H} {ls : iv_L} : iv_sem d 1 10 ls st h = iv_x [(8,3,1,0,[]), (10,0,1,0,[]), (47,0,3,29,[]), (44,90,3,75,[]), (8,3,1,0,[]), (0,0,0,1,[]), (15,0,0,0,[]), (11,4,2,0,[]), (71,23,0,0,[])] ls st h (iv_K d 1) (iv_call d) := iv_Sof ivk_1_10
theorem ivk_1_23 : iv_lk (iv_Gb 1) 23 = ([1, 1, 1, 1, 1, 0], [(8,4,2,0,[]), (10,0,1,0,[]), (47,0,3,29,[]), (44,84,3,55,[]), (8,2,1,0,[]), (43,50,0,17,[]), (10,1,1,0,[]), (8,3,1,0,[]), (8,4,2,0,[]), (66,16,2,30,[1]), (43,50,0,7,[]), (0,0,0,1,[]), (42,51,0,4,[])]) := by rw [iv_g1]; rfl
theorem ivj_1_23 {d : Nat} {st : List Value} {h : iv_H} {l0 l1 l2 l3 l4 l5 : Option Value} : iv_K d 1 23 [l0, l1, l2, l3, l4, l5] st h = iv_sem d 1 23 [l0, l1, l2, l3, l4, none] st h := iv_Kof ivk_1_23
theorem ivs_1_23 {d : Nat} {st : List Value} {h : iv_H} {ls : iv_L} : iv_sem d 1 23 ls st h = iv_x [(8,4,2,0,[]), (10,0,1,0,[]), (47,0,3,29,[]), (44,84,3,55,[]), (8,2,1,0,[]), (43,50,0,17,[]), (10,1,1,0,[]), (8,3,1,0,[]), (8,4,2,0,[]), (66,16,2,30,[1]), (43,50,0,7,[]), (0,0,0,1,[]), (42,51,0,4,[])] ls st h (iv_K d 1) (iv_call d) := iv_Sof ivk_1_23
theorem ivk_1_50 : iv_lk (iv_Gb 1) 50 = ([1, 1, 1, 1, 1, 0], [(0,0,0,0,[]), (71,51,0,0,[])]) := by rw [iv_g1]; rfl
theorem ivj_1_50 {d : Nat} {st : List Value} {h : iv_H} {l0 l1 l2 l3 l4 l5 : Option Value} : iv_K d 1 50 [l0, l1, l2, l3, l4, l5] st h = iv_sem d 1 50 [l0, l1, l2, l3, l4, none] st h := iv_Kof ivk_1_50
theorem ivs_1_50 {d : Nat} {st : List Value} {h : iv_H} {ls : iv_L} : iv_sem d 1 50 ls st h = iv_x [(0,0,0,0,[]), (71,51,0,0,[])] ls st h (iv_K d 1) (iv_call d) := iv_Sof ivk_1_50
theorem ivf_1_50 {d : Nat} {st : List Value} {h : iv_H} {l0 l1 l2 l3 l4 l5 : Option Value} : iv_K d 1 50 [l0, l1, l2, l3, l4, l5] st h = iv_x [(0,0,0,0,[]), (71,51,0,0,[])] [l0, l1, l2, l3, l4, none] st h (iv_K d 1) (iv_call d) := (iv_Kof ivk_1_50).trans (iv_Sof ivk_1_50)
theorem ivk_1_51 : iv_lk (iv_Gb 1) 51 = ([1, 1, 1, 1, 1, 0], [(11,5,2,0,[]), (10,0,1,0,[]), (46,0,1,17,[]), (8,3,1,0,[]), (53,0,0,0,[]), (8,4,2,0,[]), (8,5,2,0,[]), (43,70,0,7,[]), (0,0,0,-1,[]), (42,77,0,10,[])]) := by rw [iv_g1]; rfl
theorem ivj_1_51 {d : Nat} {st : List Value} {h : iv_H} {l0 l1 l2 l3 l4 l5 : Option Value} : iv_K d 1 51 [l0, l1, l2, l3, l4, l5] st h = iv_sem d 1 51 [l0, l1, l2, l3, l4, none] st h := iv_Kof ivk_1_51
theorem ivs_1_51 {d : Nat} {st : List Value} {h : iv_H} {ls : iv_L} : iv_sem d 1 51 ls st h = iv_x [(11,5,2,0,[]), (10,0,1,0,[]), (46,0,1,17,[]), (8,3,1,0,[]), (53,0,0,0,[]), (8,4,2,0,[]), (8,5,2,0,[]), (43,70,0,7,[]), (0,0,0,-1,[]), (42,77,0,10,[])] ls st h (iv_K d 1) (iv_call d) := iv_Sof ivk_1_51
theorem ivf_1_51 {d : Nat} {st : List Value} {h : iv_H} {l0 l1 l2 l3 l4 l5 : Option Value} : iv_K d 1 51 [l0, l1, l2, l3, l4, l5] st h = iv_x [(11,5,2,0,[]), (10,0,1,0,[]), (46,0,1,17,[]), (8,3,1,0,[]), (53,0,0,0,[]), (8,4,2,0,[]), (8,5,2,0,[]), (43,70,0,7,[]), (0,0,0,-1,[]), (42,77,0,10,[])] [l0, l1, l2, l3, l4, none] st h (iv_K d 1) (iv_call d) := (iv_Kof ivk_1_51).trans (iv_Sof ivk_1_51)
theorem ivk_1_70 : iv_lk (iv_Gb 1) 70 = ([1, 1, 1, 1, 1, 0], [(10,1,1,0,[]), (8,3,1,0,[]), (8,4,2,0,[]), (66,23,2,34,[1]), (71,77,0,0,[])]) := by rw [iv_g1]; rfl
theorem ivj_1_70 {d : Nat} {st : List Value} {h : iv_H} {l0 l1 l2 l3 l4 l5 : Option Value} : iv_K d 1 70 [l0, l1, l2, l3, l4, l5] st h = iv_sem d 1 70 [l0, l1, l2, l3, l4, none] st h := iv_Kof ivk_1_70
theorem ivs_1_70 {d : Nat} {st : List Value} {h : iv_H} {ls : iv_L} : iv_sem d 1 70 ls st h = iv_x [(10,1,1,0,[]), (8,3,1,0,[]), (8,4,2,0,[]), (66,23,2,34,[1]), (71,77,0,0,[])] ls st h (iv_K d 1) (iv_call d) := iv_Sof ivk_1_70
theorem ivf_1_70 {d : Nat} {st : List Value} {h : iv_H} {l0 l1 l2 l3 l4 l5 : Option Value} : iv_K d 1 70 [l0, l1, l2, l3, l4, l5] st h = iv_x [(10,1,1,0,[]), (8,3,1,0,[]), (8,4,2,0,[]), (66,23,2,34,[1]), (71,77,0,0,[])] [l0, l1, l2, l3, l4, none] st h (iv_K d 1) (iv_call d) := (iv_Kof ivk_1_70).trans (iv_Sof ivk_1_70)
theorem ivk_1_77 : iv_lk (iv_Gb 1) 77 = ([1, 1, 1, 1, 1, 0], [(54,0,0,0,[]), (14,4,0,1,[]), (42,23,0,-58,[])]) := by rw [iv_g1]; rfl
theorem ivj_1_77 {d : Nat} {st : List Value} {h : iv_H} {l0 l1 l2 l3 l4 l5 : Option Value} : iv_K d 1 77 [l0, l1, l2, l3, l4, l5] st h = iv_sem d 1 77 [l0, l1, l2, l3, l4, none] st h := iv_Kof ivk_1_77
theorem ivs_1_77 {d : Nat} {st : List Value} {h : iv_H} {ls : iv_L} : iv_sem d 1 77 ls st h = iv_x [(54,0,0,0,[]), (14,4,0,1,[]), (42,23,0,-58,[])] ls st h (iv_K d 1) (iv_call d) := iv_Sof ivk_1_77
theorem ivf_1_77 {d : Nat} {st : List Value} {h : iv_H} {l0 l1 l2 l3 l4 l5 : Option Value} : iv_K d 1 77 [l0, l1, l2, l3, l4, l5] st h = iv_x [(54,0,0,0,[]), (14,4,0,1,[]), (42,23,0,-58,[])] [l0, l1, l2, l3, l4, none] st h (iv_K d 1) (iv_call d) := (iv_Kof ivk_1_77).trans (iv_Sof ivk_1_77)
theorem ivk_1_84 : iv_lk (iv_Gb 1) 84 = ([1, 1, 1, 1, 0, 0], [(14,3,0,1,[]), (42,10,0,-77,[])]) := by rw [iv_g1]; rfl
theorem ivj_1_84 {d : Nat} {st : List Value} {h : iv_H} {l0 l1 l2 l3 l4 l5 : Option Value} : iv_K d 1 84 [l0, l1, l2, l3, l4, l5] st h = iv_sem d 1 84 [l0, l1, l2, l3, none, none] st h := iv_Kof ivk_1_84
theorem ivs_1_84 {d : Nat} {st : List Value} {h : iv_H} {ls : iv_L} : iv_sem d 1 84 ls st h = iv_x [(14,3,0,1,[]), (42,10,0,-77,[])] ls st h (iv_K d 1) (iv_call d) := iv_Sof ivk_1_84
theorem ivf_1_84 {d : Nat} {st : List Value} {h : iv_H} {l0 l1 l2 l3 l4 l5 : Option Value} : iv_K d 1 84 [l0, l1, l2, l3, l4, l5] st h = iv_x [(14,3,0,1,[]), (42,10,0,-77,[])] [l0, l1, l2, l3, none, none] st h (iv_K d 1) (iv_call d) := (iv_Kof ivk_1_84).trans (iv_Sof ivk_1_84)
theorem ivk_1_90 : iv_lk (iv_Gb 1) 90 = ([1, 0, 0, 0, 0, 0], [(10,0,1,0,[]), (46,0,2,20,[]), (0,0,0,0,[]), (0,0,0,0,[]), (54,0,0,0,[]), (0,0,0,1,[]), (11,3,1,0,[]), (71,99,0,0,[])]) := by rw [iv_g1]; rfl
theorem ivj_1_90 {d : Nat} {st : List Value} {h : iv_H} {l0 l1 l2 l3 l4 l5 : Option Value} : iv_K d 1 90 [l0, l1, l2, l3, l4, l5] st h = iv_sem d 1 90 [l0, none, none, none, none, none] st h := iv_Kof ivk_1_90
theorem ivs_1_90 {d : Nat} {st : List Value} {h : iv_H} {ls : iv_L} : iv_sem d 1 90 ls st h = iv_x [(10,0,1,0,[]), (46,0,2,20,[]), (0,0,0,0,[]), (0,0,0,0,[]), (54,0,0,0,[]), (0,0,0,1,[]), (11,3,1,0,[]), (71,99,0,0,[])] ls st h (iv_K d 1) (iv_call d) := iv_Sof ivk_1_90
theorem ivf_1_90 {d : Nat} {st : List Value} {h : iv_H} {l0 l1 l2 l3 l4 l5 : Option Value} : iv_K d 1 90 [l0, l1, l2, l3, l4, l5] st h = iv_x [(10,0,1,0,[]), (46,0,2,20,[]), (0,0,0,0,[]), (0,0,0,0,[]), (54,0,0,0,[]), (0,0,0,1,[]), (11,3,1,0,[]), (71,99,0,0,[])] [l0, none, none, none, none, none] st h (iv_K d 1) (iv_call d) := (iv_Kof ivk_1_90).trans (iv_Sof ivk_1_90)
theorem ivk_1_99 : iv_lk (iv_Gb 1) 99 = ([1, 0, 0, 1, 0, 0], [(8,3,1,0,[]), (0,0,0,1,[]), (10,0,1,0,[]), (47,0,3,29,[]), (24,0,0,0,[]), (44,126,3,20,[]), (10,0,1,0,[]), (46,0,2,20,[]), (8,3,1,0,[]), (10,0,1,0,[]), (8,3,1,0,[]), (66,4,1,38,[0]), (54,0,0,0,[]), (14,3,0,1,[]), (42,99,0,-24,[])]) := by rw [iv_g1]; rfl
theorem ivj_1_99 {d : Nat} {st : List Value} {h : iv_H} {l0 l1 l2 l3 l4 l5 : Option Value} : iv_K d 1 99 [l0, l1, l2, l3, l4, l5] st h = iv_sem d 1 99 [l0, none, none, l3, none, none] st h := iv_Kof ivk_1_99
theorem ivs_1_99 {d : Nat} {st : List Value} {h : iv_H} {ls : iv_L} : iv_sem d 1 99 ls st h = iv_x [(8,3,1,0,[]), (0,0,0,1,[]), (10,0,1,0,[]), (47,0,3,29,[]), (24,0,0,0,[]), (44,126,3,20,[]), (10,0,1,0,[]), (46,0,2,20,[]), (8,3,1,0,[]), (10,0,1,0,[]), (8,3,1,0,[]), (66,4,1,38,[0]), (54,0,0,0,[]), (14,3,0,1,[]), (42,99,0,-24,[])] ls st h (iv_K d 1) (iv_call d) := iv_Sof ivk_1_99
theorem ivk_1_126 : iv_lk (iv_Gb 1) 126 = ([0, 0, 0, 0, 0, 0], [(65,0,0,0,[])]) := by rw [iv_g1]; rfl
theorem ivj_1_126 {d : Nat} {st : List Value} {h : iv_H} {l0 l1 l2 l3 l4 l5 : Option Value} : iv_K d 1 126 [l0, l1, l2, l3, l4, l5] st h = iv_sem d 1 126 [none, none, none, none, none, none] st h := iv_Kof ivk_1_126
theorem ivs_1_126 {d : Nat} {st : List Value} {h : iv_H} {ls : iv_L} : iv_sem d 1 126 ls st h = iv_x [(65,0,0,0,[])] ls st h (iv_K d 1) (iv_call d) := iv_Sof ivk_1_126
theorem ivf_1_126 {d : Nat} {st : List Value} {h : iv_H} {l0 l1 l2 l3 l4 l5 : Option Value} : iv_K d 1 126 [l0, l1, l2, l3, l4, l5] st h = iv_x [(65,0,0,0,[])] [none, none, none, none, none, none] st h (iv_K d 1) (iv_call d) := (iv_Kof ivk_1_126).trans (iv_Sof ivk_1_126)
theorem ivc_1 {d : Nat} {h : iv_H} {p : Nat} {q0 : Nat} {x1 : Int32} : iv_call (d + 1) 1 [.ref p, .ref q0, .int x1] h = iv_sem d 1 0 [some (.ref p), some (.ref q0), some (.int x1), none, none, none] [] h := iv_Cof (by decide) ivk_1_0 (Nat.le_of_ble_eq_true rfl)
/-- X0_mostOf -/
theorem iv_g2 : iv_Gb 2 = iv_b2 := rfl
theorem ivk_2_0 : iv_lk (iv_Gb 2) 0 = ([1, 1], [(8,1,1,0,[]), (43,22,2,21,[]), (8,1,1,0,[]), (10,0,1,0,[]), (46,0,2,20,[]), (58,0,0,0,[]), (44,22,3,12,[]), (10,0,1,0,[]), (46,0,2,20,[]), (8,1,1,0,[]), (50,0,0,0,[]), (42,23,0,4,[])]) := by rw [iv_g2]; rfl
theorem ivj_2_0 {d : Nat} {st : List Value} {h : iv_H} {l0 l1 : Option Value} : iv_K d 2 0 [l0, l1] st h = iv_sem d 2 0 [l0, l1] st h := iv_Kof ivk_2_0
theorem ivs_2_0 {d : Nat} {st : List Value} {h : iv_H} {ls : iv_L} : iv_sem d 2 0 ls st h = iv_x [(8,1,1,0,[]), (43,22,2,21,[]), (8,1,1,0,[]), (10,0,1,0,[]), (46,0,2,20,[]), (58,0,0,0,[]), (44,22,3,12,[]), (10,0,1,0,[]), (46,0,2,20,[]), (8,1,1,0,[]), (50,0,0,0,[]), (42,23,0,4,[])] ls st h (iv_K d 2) (iv_call d) := iv_Sof ivk_2_0
theorem ivk_2_22 : iv_lk (iv_Gb 2) 22 = ([0, 0], [(0,0,0,-1,[]), (71,23,0,0,[])]) := by rw [iv_g2]; rfl
theorem ivj_2_22 {d : Nat} {st : List Value} {h : iv_H} {l0 l1 : Option Value} : iv_K d 2 22 [l0, l1] st h = iv_sem d 2 22 [none, none] st h := iv_Kof ivk_2_22
theorem ivs_2_22 {d : Nat} {st : List Value} {h : iv_H} {ls : iv_L} : iv_sem d 2 22 ls st h = iv_x [(0,0,0,-1,[]), (71,23,0,0,[])] ls st h (iv_K d 2) (iv_call d) := iv_Sof ivk_2_22
theorem ivf_2_22 {d : Nat} {st : List Value} {h : iv_H} {l0 l1 : Option Value} : iv_K d 2 22 [l0, l1] st h = iv_x [(0,0,0,-1,[]), (71,23,0,0,[])] [none, none] st h (iv_K d 2) (iv_call d) := (iv_Kof ivk_2_22).trans (iv_Sof ivk_2_22)
theorem ivk_2_23 : iv_lk (iv_Gb 2) 23 = ([0, 0], [(63,0,0,0,[])]) := by rw [iv_g2]; rfl
theorem ivj_2_23 {d : Nat} {st : List Value} {h : iv_H} {l0 l1 : Option Value} : iv_K d 2 23 [l0, l1] st h = iv_sem d 2 23 [none, none] st h := iv_Kof ivk_2_23
theorem ivs_2_23 {d : Nat} {st : List Value} {h : iv_H} {ls : iv_L} : iv_sem d 2 23 ls st h = iv_x [(63,0,0,0,[])] ls st h (iv_K d 2) (iv_call d) := iv_Sof ivk_2_23
theorem ivf_2_23 {d : Nat} {st : List Value} {h : iv_H} {l0 l1 : Option Value} : iv_K d 2 23 [l0, l1] st h = iv_x [(63,0,0,0,[])] [none, none] st h (iv_K d 2) (iv_call d) := (iv_Kof ivk_2_23).trans (iv_Sof ivk_2_23)
theorem ivc_2 {d : Nat} {h : iv_H} {p : Nat} {x0 : Int32} : iv_call (d + 1) 2 [.ref p, .int x0] h = iv_sem d 2 0 [some (.ref p), some (.int x0)] [] h := iv_Cof (by decide) ivk_2_0 (Nat.le_of_ble_eq_true rfl)
/-- X0_choose -/
theorem iv_g3 : iv_Gb 3 = iv_b3 := rfl
theorem ivk_3_0 : iv_lk (iv_Gb 3) 0 = ([1, 1, 0, 0, 0], [(0,0,0,0,[]), (11,2,1,0,[]), (71,2,0,0,[])]) := by rw [iv_g3]; rfl
theorem ivj_3_0 {d : Nat} {st : List Value} {h : iv_H} {l0 l1 l2 l3 l4 : Option Value} : iv_K d 3 0 [l0, l1, l2, l3, l4] st h = iv_sem d 3 0 [l0, l1, none, none, none] st h := iv_Kof ivk_3_0
theorem ivs_3_0 {d : Nat} {st : List Value} {h : iv_H} {ls : iv_L} : iv_sem d 3 0 ls st h = iv_x [(0,0,0,0,[]), (11,2,1,0,[]), (71,2,0,0,[])] ls st h (iv_K d 3) (iv_call d) := iv_Sof ivk_3_0
theorem ivk_3_2 : iv_lk (iv_Gb 3) 2 = ([1, 1, 1, 0, 0], [(8,2,1,0,[]), (1,0,0,8,[]), (44,21,3,16,[]), (10,0,1,0,[]), (46,0,0,9,[]), (8,2,1,0,[]), (0,0,0,-1,[]), (54,0,0,0,[]), (14,2,0,1,[]), (42,2,0,-16,[])]) := by rw [iv_g3]; rfl
theorem ivj_3_2 {d : Nat} {st : List Value} {h : iv_H} {l0 l1 l2 l3 l4 : Option Value} : iv_K d 3 2 [l0, l1, l2, l3, l4] st h = iv_sem d 3 2 [l0, l1, l2, none, none] st h := iv_Kof ivk_3_2
theorem ivs_3_2 {d : Nat} {st : List Value} {h : iv_H} {ls : iv_L} : iv_sem d 3 2 ls st h = iv_x [(8,2,1,0,[]), (1,0,0,8,[]), (44,21,3,16,[]), (10,0,1,0,[]), (46,0,0,9,[]), (8,2,1,0,[]), (0,0,0,-1,[]), (54,0,0,0,[]), (14,2,0,1,[]), (42,2,0,-16,[])] ls st h (iv_K d 3) (iv_call d) := iv_Sof ivk_3_2
theorem ivk_3_21 : iv_lk (iv_Gb 3) 21 = ([1, 1, 0, 0, 0], [(10,0,1,0,[]), (8,1,1,0,[]), (66,2,1,42,[0]), (0,0,0,-1,[]), (44,31,1,4,[]), (65,0,0,0,[])]) := by rw [iv_g3]; rfl
theorem ivj_3_21 {d : Nat} {st : List Value} {h : iv_H} {l0 l1 l2 l3 l4 : Option Value} : iv_K d 3 21 [l0, l1, l2, l3, l4] st h = iv_sem d 3 21 [l0, l1, none, none, none] st h := iv_Kof ivk_3_21
theorem ivs_3_21 {d : Nat} {st : List Value} {h : iv_H} {ls : iv_L} : iv_sem d 3 21 ls st h = iv_x [(10,0,1,0,[]), (8,1,1,0,[]), (66,2,1,42,[0]), (0,0,0,-1,[]), (44,31,1,4,[]), (65,0,0,0,[])] ls st h (iv_K d 3) (iv_call d) := iv_Sof ivk_3_21
theorem ivf_3_21 {d : Nat} {st : List Value} {h : iv_H} {l0 l1 l2 l3 l4 : Option Value} : iv_K d 3 21 [l0, l1, l2, l3, l4] st h = iv_x [(10,0,1,0,[]), (8,1,1,0,[]), (66,2,1,42,[0]), (0,0,0,-1,[]), (44,31,1,4,[]), (65,0,0,0,[])] [l0, l1, none, none, none] st h (iv_K d 3) (iv_call d) := (iv_Kof ivk_3_21).trans (iv_Sof ivk_3_21)
theorem ivk_3_31 : iv_lk (iv_Gb 3) 31 = ([1, 1, 0, 0, 0], [(8,1,1,0,[]), (11,2,1,0,[]), (0,0,0,0,[]), (11,3,1,0,[]), (71,35,0,0,[])]) := by rw [iv_g3]; rfl
theorem ivj_3_31 {d : Nat} {st : List Value} {h : iv_H} {l0 l1 l2 l3 l4 : Option Value} : iv_K d 3 31 [l0, l1, l2, l3, l4] st h = iv_sem d 3 31 [l0, l1, none, none, none] st h := iv_Kof ivk_3_31
theorem ivs_3_31 {d : Nat} {st : List Value} {h : iv_H} {ls : iv_L} : iv_sem d 3 31 ls st h = iv_x [(8,1,1,0,[]), (11,2,1,0,[]), (0,0,0,0,[]), (11,3,1,0,[]), (71,35,0,0,[])] ls st h (iv_K d 3) (iv_call d) := iv_Sof ivk_3_31
theorem ivf_3_31 {d : Nat} {st : List Value} {h : iv_H} {l0 l1 l2 l3 l4 : Option Value} : iv_K d 3 31 [l0, l1, l2, l3, l4] st h = iv_x [(8,1,1,0,[]), (11,2,1,0,[]), (0,0,0,0,[]), (11,3,1,0,[]), (71,35,0,0,[])] [l0, l1, none, none, none] st h (iv_K d 3) (iv_call d) := (iv_Kof ivk_3_31).trans (iv_Sof ivk_3_31)
theorem ivk_3_35 : iv_lk (iv_Gb 3) 35 = ([1, 0, 1, 1, 0], [(8,3,1,0,[]), (10,0,1,0,[]), (47,0,3,29,[]), (44,94,3,54,[]), (8,2,1,0,[]), (8,3,1,0,[]), (25,0,0,0,[]), (0,0,0,1,[]), (21,0,0,0,[]), (43,88,0,40,[]), (10,0,1,0,[]), (8,3,1,0,[]), (8,2,1,0,[]), (66,5,2,45,[0]), (11,4,2,0,[]), (10,0,1,0,[]), (46,0,0,9,[]), (8,3,1,0,[]), (8,4,2,0,[]), (54,0,0,0,[]), (10,0,1,0,[]), (46,0,0,9,[]), (8,4,2,0,[]), (8,3,1,0,[]), (54,0,0,0,[]), (8,2,1,0,[]), (0,0,0,1,[]), (8,3,1,0,[]), (24,0,0,0,[]), (0,0,0,1,[]), (8,4,2,0,[]), (24,0,0,0,[]), (22,0,0,0,[]), (0,0,0,-1,[]), (23,0,0,0,[]), (21,0,0,0,[]), (11,2,1,0,[]), (71,88,0,0,[])]) := by rw [iv_g3]; rfl
theorem ivj_3_35 {d : Nat} {st : List Value} {h : iv_H} {l0 l1 l2 l3 l4 : Option Value} : iv_K d 3 35 [l0, l1, l2, l3, l4] st h = iv_sem d 3 35 [l0, none, l2, l3, none] st h := iv_Kof ivk_3_35
theorem ivs_3_35 {d : Nat} {st : List Value} {h : iv_H} {ls : iv_L} : iv_sem d 3 35 ls st h = iv_x [(8,3,1,0,[]), (10,0,1,0,[]), (47,0,3,29,[]), (44,94,3,54,[]), (8,2,1,0,[]), (8,3,1,0,[]), (25,0,0,0,[]), (0,0,0,1,[]), (21,0,0,0,[]), (43,88,0,40,[]), (10,0,1,0,[]), (8,3,1,0,[]), (8,2,1,0,[]), (66,5,2,45,[0]), (11,4,2,0,[]), (10,0,1,0,[]), (46,0,0,9,[]), (8,3,1,0,[]), (8,4,2,0,[]), (54,0,0,0,[]), (10,0,1,0,[]), (46,0,0,9,[]), (8,4,2,0,[]), (8,3,1,0,[]), (54,0,0,0,[]), (8,2,1,0,[]), (0,0,0,1,[]), (8,3,1,0,[]), (24,0,0,0,[]), (0,0,0,1,[]), (8,4,2,0,[]), (24,0,0,0,[]), (22,0,0,0,[]), (0,0,0,-1,[]), (23,0,0,0,[]), (21,0,0,0,[]), (11,2,1,0,[]), (71,88,0,0,[])] ls st h (iv_K d 3) (iv_call d) := iv_Sof ivk_3_35
theorem ivk_3_88 : iv_lk (iv_Gb 3) 88 = ([1, 0, 1, 1, 0], [(14,3,0,1,[]), (42,35,0,-56,[])]) := by rw [iv_g3]; rfl
theorem ivj_3_88 {d : Nat} {st : List Value} {h : iv_H} {l0 l1 l2 l3 l4 : Option Value} : iv_K d 3 88 [l0, l1, l2, l3, l4] st h = iv_sem d 3 88 [l0, none, l2, l3, none] st h := iv_Kof ivk_3_88
theorem ivs_3_88 {d : Nat} {st : List Value} {h : iv_H} {ls : iv_L} : iv_sem d 3 88 ls st h = iv_x [(14,3,0,1,[]), (42,35,0,-56,[])] ls st h (iv_K d 3) (iv_call d) := iv_Sof ivk_3_88
theorem ivf_3_88 {d : Nat} {st : List Value} {h : iv_H} {l0 l1 l2 l3 l4 : Option Value} : iv_K d 3 88 [l0, l1, l2, l3, l4] st h = iv_x [(14,3,0,1,[]), (42,35,0,-56,[])] [l0, none, l2, l3, none] st h (iv_K d 3) (iv_call d) := (iv_Kof ivk_3_88).trans (iv_Sof ivk_3_88)
theorem ivk_3_94 : iv_lk (iv_Gb 3) 94 = ([0, 0, 0, 0, 0], [(65,0,0,0,[])]) := by rw [iv_g3]; rfl
theorem ivj_3_94 {d : Nat} {st : List Value} {h : iv_H} {l0 l1 l2 l3 l4 : Option Value} : iv_K d 3 94 [l0, l1, l2, l3, l4] st h = iv_sem d 3 94 [none, none, none, none, none] st h := iv_Kof ivk_3_94
theorem ivs_3_94 {d : Nat} {st : List Value} {h : iv_H} {ls : iv_L} : iv_sem d 3 94 ls st h = iv_x [(65,0,0,0,[])] ls st h (iv_K d 3) (iv_call d) := iv_Sof ivk_3_94
theorem ivf_3_94 {d : Nat} {st : List Value} {h : iv_H} {l0 l1 l2 l3 l4 : Option Value} : iv_K d 3 94 [l0, l1, l2, l3, l4] st h = iv_x [(65,0,0,0,[])] [none, none, none, none, none] st h (iv_K d 3) (iv_call d) := (iv_Kof ivk_3_94).trans (iv_Sof ivk_3_94)
theorem ivc_3 {d : Nat} {h : iv_H} {p : Nat} {x0 : Int32} : iv_call (d + 1) 3 [.ref p, .int x0] h = iv_sem d 3 0 [some (.ref p), some (.int x0), none, none, none] [] h := iv_Cof (by decide) ivk_3_0 (Nat.le_of_ble_eq_true rfl)
/-- X0_mostByLeast -/
theorem iv_g4 : iv_Gb 4 = iv_b4 := rfl
theorem ivk_4_0 : iv_lk (iv_Gb 4) 0 = ([1, 1, 0, 0, 0], [(10,0,1,0,[]), (8,1,1,0,[]), (66,7,1,48,[0]), (11,2,1,0,[]), (0,0,0,-1,[]), (11,3,1,0,[]), (8,2,1,0,[]), (11,4,2,0,[]), (71,11,0,0,[])]) := by rw [iv_g4]; rfl
theorem ivj_4_0 {d : Nat} {st : List Value} {h : iv_H} {l0 l1 l2 l3 l4 : Option Value} : iv_K d 4 0 [l0, l1, l2, l3, l4] st h = iv_sem d 4 0 [l0, l1, none, none, none] st h := iv_Kof ivk_4_0
theorem ivs_4_0 {d : Nat} {st : List Value} {h : iv_H} {ls : iv_L} : iv_sem d 4 0 ls st h = iv_x [(10,0,1,0,[]), (8,1,1,0,[]), (66,7,1,48,[0]), (11,2,1,0,[]), (0,0,0,-1,[]), (11,3,1,0,[]), (8,2,1,0,[]), (11,4,2,0,[]), (71,11,0,0,[])] ls st h (iv_K d 4) (iv_call d) := iv_Sof ivk_4_0
theorem ivk_4_11 : iv_lk (iv_Gb 4) 11 = ([1, 1, 1, 1, 1], [(8,4,2,0,[]), (10,0,1,0,[]), (47,0,3,29,[]), (44,39,3,22,[]), (8,3,1,0,[]), (10,0,1,0,[]), (8,2,1,0,[]), (8,4,2,0,[]), (8,1,1,0,[]), (66,6,3,51,[0]), (67,261,2,55,[]), (11,3,1,0,[]), (14,4,0,1,[]), (42,11,0,-25,[])]) := by rw [iv_g4]; rfl
theorem ivj_4_11 {d : Nat} {st : List Value} {h : iv_H} {l0 l1 l2 l3 l4 : Option Value} : iv_K d 4 11 [l0, l1, l2, l3, l4] st h = iv_sem d 4 11 [l0, l1, l2, l3, l4] st h := iv_Kof ivk_4_11
theorem ivs_4_11 {d : Nat} {st : List Value} {h : iv_H} {ls : iv_L} : iv_sem d 4 11 ls st h = iv_x [(8,4,2,0,[]), (10,0,1,0,[]), (47,0,3,29,[]), (44,39,3,22,[]), (8,3,1,0,[]), (10,0,1,0,[]), (8,2,1,0,[]), (8,4,2,0,[]), (8,1,1,0,[]), (66,6,3,51,[0]), (67,261,2,55,[]), (11,3,1,0,[]), (14,4,0,1,[]), (42,11,0,-25,[])] ls st h (iv_K d 4) (iv_call d) := iv_Sof ivk_4_11
theorem ivk_4_39 : iv_lk (iv_Gb 4) 39 = ([0, 0, 0, 1, 0], [(8,3,1,0,[]), (63,0,0,0,[])]) := by rw [iv_g4]; rfl
theorem ivj_4_39 {d : Nat} {st : List Value} {h : iv_H} {l0 l1 l2 l3 l4 : Option Value} : iv_K d 4 39 [l0, l1, l2, l3, l4] st h = iv_sem d 4 39 [none, none, none, l3, none] st h := iv_Kof ivk_4_39
theorem ivs_4_39 {d : Nat} {st : List Value} {h : iv_H} {ls : iv_L} : iv_sem d 4 39 ls st h = iv_x [(8,3,1,0,[]), (63,0,0,0,[])] ls st h (iv_K d 4) (iv_call d) := iv_Sof ivk_4_39
theorem ivf_4_39 {d : Nat} {st : List Value} {h : iv_H} {l0 l1 l2 l3 l4 : Option Value} : iv_K d 4 39 [l0, l1, l2, l3, l4] st h = iv_x [(8,3,1,0,[]), (63,0,0,0,[])] [none, none, none, l3, none] st h (iv_K d 4) (iv_call d) := (iv_Kof ivk_4_39).trans (iv_Sof ivk_4_39)
theorem ivc_4 {d : Nat} {h : iv_H} {p : Nat} {x0 : Int32} : iv_call (d + 1) 4 [.ref p, .int x0] h = iv_sem d 4 0 [some (.ref p), some (.int x0), none, none, none] [] h := iv_Cof (by decide) ivk_4_0 (Nat.le_of_ble_eq_true rfl)
/-- X0_mateOfLeast -/
theorem iv_g5 : iv_Gb 5 = iv_b5 := rfl
theorem ivk_5_0 : iv_lk (iv_Gb 5) 0 = ([1, 1, 1, 0], [(8,1,1,0,[]), (11,3,1,0,[]), (71,2,0,0,[])]) := by rw [iv_g5]; rfl
theorem ivj_5_0 {d : Nat} {st : List Value} {h : iv_H} {l0 l1 l2 l3 : Option Value} : iv_K d 5 0 [l0, l1, l2, l3] st h = iv_sem d 5 0 [l0, l1, l2, none] st h := iv_Kof ivk_5_0
theorem ivs_5_0 {d : Nat} {st : List Value} {h : iv_H} {ls : iv_L} : iv_sem d 5 0 ls st h = iv_x [(8,1,1,0,[]), (11,3,1,0,[]), (71,2,0,0,[])] ls st h (iv_K d 5) (iv_call d) := iv_Sof ivk_5_0
theorem ivk_5_2 : iv_lk (iv_Gb 5) 2 = ([1, 1, 1, 1], [(8,3,1,0,[]), (10,0,1,0,[]), (47,0,3,29,[]), (44,34,3,27,[]), (10,0,1,0,[]), (8,1,1,0,[]), (8,3,1,0,[]), (8,2,1,0,[]), (66,6,3,51,[0]), (10,0,1,0,[]), (46,0,2,20,[]), (8,2,1,0,[]), (50,0,0,0,[]), (44,28,1,5,[]), (8,3,1,0,[]), (63,0,0,0,[])]) := by rw [iv_g5]; rfl
theorem ivj_5_2 {d : Nat} {st : List Value} {h : iv_H} {l0 l1 l2 l3 : Option Value} : iv_K d 5 2 [l0, l1, l2, l3] st h = iv_sem d 5 2 [l0, l1, l2, l3] st h := iv_Kof ivk_5_2
theorem ivs_5_2 {d : Nat} {st : List Value} {h : iv_H} {ls : iv_L} : iv_sem d 5 2 ls st h = iv_x [(8,3,1,0,[]), (10,0,1,0,[]), (47,0,3,29,[]), (44,34,3,27,[]), (10,0,1,0,[]), (8,1,1,0,[]), (8,3,1,0,[]), (8,2,1,0,[]), (66,6,3,51,[0]), (10,0,1,0,[]), (46,0,2,20,[]), (8,2,1,0,[]), (50,0,0,0,[]), (44,28,1,5,[]), (8,3,1,0,[]), (63,0,0,0,[])] ls st h (iv_K d 5) (iv_call d) := iv_Sof ivk_5_2
theorem ivk_5_28 : iv_lk (iv_Gb 5) 28 = ([1, 1, 1, 1], [(14,3,0,1,[]), (42,2,0,-29,[])]) := by rw [iv_g5]; rfl
theorem ivj_5_28 {d : Nat} {st : List Value} {h : iv_H} {l0 l1 l2 l3 : Option Value} : iv_K d 5 28 [l0, l1, l2, l3] st h = iv_sem d 5 28 [l0, l1, l2, l3] st h := iv_Kof ivk_5_28
theorem ivs_5_28 {d : Nat} {st : List Value} {h : iv_H} {ls : iv_L} : iv_sem d 5 28 ls st h = iv_x [(14,3,0,1,[]), (42,2,0,-29,[])] ls st h (iv_K d 5) (iv_call d) := iv_Sof ivk_5_28
theorem ivf_5_28 {d : Nat} {st : List Value} {h : iv_H} {l0 l1 l2 l3 : Option Value} : iv_K d 5 28 [l0, l1, l2, l3] st h = iv_x [(14,3,0,1,[]), (42,2,0,-29,[])] [l0, l1, l2, l3] st h (iv_K d 5) (iv_call d) := (iv_Kof ivk_5_28).trans (iv_Sof ivk_5_28)
theorem ivk_5_34 : iv_lk (iv_Gb 5) 34 = ([0, 1, 0, 0], [(8,1,1,0,[]), (63,0,0,0,[])]) := by rw [iv_g5]; rfl
theorem ivj_5_34 {d : Nat} {st : List Value} {h : iv_H} {l0 l1 l2 l3 : Option Value} : iv_K d 5 34 [l0, l1, l2, l3] st h = iv_sem d 5 34 [none, l1, none, none] st h := iv_Kof ivk_5_34
theorem ivs_5_34 {d : Nat} {st : List Value} {h : iv_H} {ls : iv_L} : iv_sem d 5 34 ls st h = iv_x [(8,1,1,0,[]), (63,0,0,0,[])] ls st h (iv_K d 5) (iv_call d) := iv_Sof ivk_5_34
theorem ivf_5_34 {d : Nat} {st : List Value} {h : iv_H} {l0 l1 l2 l3 : Option Value} : iv_K d 5 34 [l0, l1, l2, l3] st h = iv_x [(8,1,1,0,[]), (63,0,0,0,[])] [none, l1, none, none] st h (iv_K d 5) (iv_call d) := (iv_Kof ivk_5_34).trans (iv_Sof ivk_5_34)
theorem ivc_5 {d : Nat} {h : iv_H} {p : Nat} {x0 : Int32} {x1 : Int32} : iv_call (d + 1) 5 [.ref p, .int x0, .int x1] h = iv_sem d 5 0 [some (.ref p), some (.int x0), some (.int x1), none] [] h := iv_Cof (by decide) ivk_5_0 (Nat.le_of_ble_eq_true rfl)
/-- X0_mostWith -/
theorem iv_g6 : iv_Gb 6 = iv_b6 := rfl
theorem ivk_6_0 : iv_lk (iv_Gb 6) 0 = ([1, 1, 1, 1, 0], [(8,3,1,0,[]), (8,2,1,0,[]), (25,0,0,0,[]), (0,0,0,1,[]), (21,0,0,0,[]), (43,10,1,5,[]), (0,0,0,-1,[]), (63,0,0,0,[])]) := by rw [iv_g6]; rfl
theorem ivj_6_0 {d : Nat} {st : List Value} {h : iv_H} {l0 l1 l2 l3 l4 : Option Value} : iv_K d 6 0 [l0, l1, l2, l3, l4] st h = iv_sem d 6 0 [l0, l1, l2, l3, none] st h := iv_Kof ivk_6_0
theorem ivs_6_0 {d : Nat} {st : List Value} {h : iv_H} {ls : iv_L} : iv_sem d 6 0 ls st h = iv_x [(8,3,1,0,[]), (8,2,1,0,[]), (25,0,0,0,[]), (0,0,0,1,[]), (21,0,0,0,[]), (43,10,1,5,[]), (0,0,0,-1,[]), (63,0,0,0,[])] ls st h (iv_K d 6) (iv_call d) := iv_Sof ivk_6_0
theorem ivk_6_10 : iv_lk (iv_Gb 6) 10 = ([1, 1, 1, 1, 0], [(10,0,1,0,[]), (46,0,2,20,[]), (8,3,1,0,[]), (0,0,0,1,[]), (8,1,1,0,[]), (24,0,0,0,[]), (0,0,0,1,[]), (8,2,1,0,[]), (24,0,0,0,[]), (22,0,0,0,[]), (0,0,0,-1,[]), (23,0,0,0,[]), (21,0,0,0,[]), (50,0,0,0,[]), (11,4,2,0,[]), (8,1,1,0,[]), (8,2,1,0,[]), (44,50,1,20,[]), (8,3,1,0,[]), (67,258,1,60,[]), (0,0,0,2,[]), (19,0,0,0,[]), (0,0,0,1,[]), (44,48,1,8,[]), (8,4,2,0,[]), (42,49,0,4,[])]) := by rw [iv_g6]; rfl
theorem ivj_6_10 {d : Nat} {st : List Value} {h : iv_H} {l0 l1 l2 l3 l4 : Option Value} : iv_K d 6 10 [l0, l1, l2, l3, l4] st h = iv_sem d 6 10 [l0, l1, l2, l3, none] st h := iv_Kof ivk_6_10
theorem ivs_6_10 {d : Nat} {st : List Value} {h : iv_H} {ls : iv_L} : iv_sem d 6 10 ls st h = iv_x [(10,0,1,0,[]), (46,0,2,20,[]), (8,3,1,0,[]), (0,0,0,1,[]), (8,1,1,0,[]), (24,0,0,0,[]), (0,0,0,1,[]), (8,2,1,0,[]), (24,0,0,0,[]), (22,0,0,0,[]), (0,0,0,-1,[]), (23,0,0,0,[]), (21,0,0,0,[]), (50,0,0,0,[]), (11,4,2,0,[]), (8,1,1,0,[]), (8,2,1,0,[]), (44,50,1,20,[]), (8,3,1,0,[]), (67,258,1,60,[]), (0,0,0,2,[]), (19,0,0,0,[]), (0,0,0,1,[]), (44,48,1,8,[]), (8,4,2,0,[]), (42,49,0,4,[])] ls st h (iv_K d 6) (iv_call d) := iv_Sof ivk_6_10
theorem ivf_6_10 {d : Nat} {st : List Value} {h : iv_H} {l0 l1 l2 l3 l4 : Option Value} : iv_K d 6 10 [l0, l1, l2, l3, l4] st h = iv_x [(10,0,1,0,[]), (46,0,2,20,[]), (8,3,1,0,[]), (0,0,0,1,[]), (8,1,1,0,[]), (24,0,0,0,[]), (0,0,0,1,[]), (8,2,1,0,[]), (24,0,0,0,[]), (22,0,0,0,[]), (0,0,0,-1,[]), (23,0,0,0,[]), (21,0,0,0,[]), (50,0,0,0,[]), (11,4,2,0,[]), (8,1,1,0,[]), (8,2,1,0,[]), (44,50,1,20,[]), (8,3,1,0,[]), (67,258,1,60,[]), (0,0,0,2,[]), (19,0,0,0,[]), (0,0,0,1,[]), (44,48,1,8,[]), (8,4,2,0,[]), (42,49,0,4,[])] [l0, l1, l2, l3, none] st h (iv_K d 6) (iv_call d) := (iv_Kof ivk_6_10).trans (iv_Sof ivk_6_10)
theorem ivk_6_48 : iv_lk (iv_Gb 6) 48 = ([0, 0, 0, 0, 0], [(0,0,0,-1,[]), (71,49,0,0,[])]) := by rw [iv_g6]; rfl
theorem ivj_6_48 {d : Nat} {st : List Value} {h : iv_H} {l0 l1 l2 l3 l4 : Option Value} : iv_K d 6 48 [l0, l1, l2, l3, l4] st h = iv_sem d 6 48 [none, none, none, none, none] st h := iv_Kof ivk_6_48
theorem ivs_6_48 {d : Nat} {st : List Value} {h : iv_H} {ls : iv_L} : iv_sem d 6 48 ls st h = iv_x [(0,0,0,-1,[]), (71,49,0,0,[])] ls st h (iv_K d 6) (iv_call d) := iv_Sof ivk_6_48
theorem ivf_6_48 {d : Nat} {st : List Value} {h : iv_H} {l0 l1 l2 l3 l4 : Option Value} : iv_K d 6 48 [l0, l1, l2, l3, l4] st h = iv_x [(0,0,0,-1,[]), (71,49,0,0,[])] [none, none, none, none, none] st h (iv_K d 6) (iv_call d) := (iv_Kof ivk_6_48).trans (iv_Sof ivk_6_48)
theorem ivk_6_49 : iv_lk (iv_Gb 6) 49 = ([0, 0, 0, 0, 0], [(63,0,0,0,[])]) := by rw [iv_g6]; rfl
theorem ivj_6_49 {d : Nat} {st : List Value} {h : iv_H} {l0 l1 l2 l3 l4 : Option Value} : iv_K d 6 49 [l0, l1, l2, l3, l4] st h = iv_sem d 6 49 [none, none, none, none, none] st h := iv_Kof ivk_6_49
theorem ivs_6_49 {d : Nat} {st : List Value} {h : iv_H} {ls : iv_L} : iv_sem d 6 49 ls st h = iv_x [(63,0,0,0,[])] ls st h (iv_K d 6) (iv_call d) := iv_Sof ivk_6_49
theorem ivf_6_49 {d : Nat} {st : List Value} {h : iv_H} {l0 l1 l2 l3 l4 : Option Value} : iv_K d 6 49 [l0, l1, l2, l3, l4] st h = iv_x [(63,0,0,0,[])] [none, none, none, none, none] st h (iv_K d 6) (iv_call d) := (iv_Kof ivk_6_49).trans (iv_Sof ivk_6_49)
theorem ivk_6_50 : iv_lk (iv_Gb 6) 50 = ([1, 1, 1, 0, 1], [(8,4,2,0,[]), (0,0,0,-1,[]), (44,68,0,15,[]), (10,0,1,0,[]), (46,0,1,17,[]), (8,1,1,0,[]), (53,0,0,0,[]), (8,2,1,0,[]), (50,0,0,0,[]), (0,0,0,-1,[]), (44,72,1,7,[]), (71,68,0,0,[])]) := by rw [iv_g6]; rfl
theorem ivj_6_50 {d : Nat} {st : List Value} {h : iv_H} {l0 l1 l2 l3 l4 : Option Value} : iv_K d 6 50 [l0, l1, l2, l3, l4] st h = iv_sem d 6 50 [l0, l1, l2, none, l4] st h := iv_Kof ivk_6_50
theorem ivs_6_50 {d : Nat} {st : List Value} {h : iv_H} {ls : iv_L} : iv_sem d 6 50 ls st h = iv_x [(8,4,2,0,[]), (0,0,0,-1,[]), (44,68,0,15,[]), (10,0,1,0,[]), (46,0,1,17,[]), (8,1,1,0,[]), (53,0,0,0,[]), (8,2,1,0,[]), (50,0,0,0,[]), (0,0,0,-1,[]), (44,72,1,7,[]), (71,68,0,0,[])] ls st h (iv_K d 6) (iv_call d) := iv_Sof ivk_6_50
theorem ivf_6_50 {d : Nat} {st : List Value} {h : iv_H} {l0 l1 l2 l3 l4 : Option Value} : iv_K d 6 50 [l0, l1, l2, l3, l4] st h = iv_x [(8,4,2,0,[]), (0,0,0,-1,[]), (44,68,0,15,[]), (10,0,1,0,[]), (46,0,1,17,[]), (8,1,1,0,[]), (53,0,0,0,[]), (8,2,1,0,[]), (50,0,0,0,[]), (0,0,0,-1,[]), (44,72,1,7,[]), (71,68,0,0,[])] [l0, l1, l2, none, l4] st h (iv_K d 6) (iv_call d) := (iv_Kof ivk_6_50).trans (iv_Sof ivk_6_50)
theorem ivk_6_68 : iv_lk (iv_Gb 6) 68 = ([0, 0, 0, 0, 0], [(0,0,0,-1,[]), (42,83,0,14,[])]) := by rw [iv_g6]; rfl
theorem ivj_6_68 {d : Nat} {st : List Value} {h : iv_H} {l0 l1 l2 l3 l4 : Option Value} : iv_K d 6 68 [l0, l1, l2, l3, l4] st h = iv_sem d 6 68 [none, none, none, none, none] st h := iv_Kof ivk_6_68
theorem ivs_6_68 {d : Nat} {st : List Value} {h : iv_H} {ls : iv_L} : iv_sem d 6 68 ls st h = iv_x [(0,0,0,-1,[]), (42,83,0,14,[])] ls st h (iv_K d 6) (iv_call d) := iv_Sof ivk_6_68
theorem ivf_6_68 {d : Nat} {st : List Value} {h : iv_H} {l0 l1 l2 l3 l4 : Option Value} : iv_K d 6 68 [l0, l1, l2, l3, l4] st h = iv_x [(0,0,0,-1,[]), (42,83,0,14,[])] [none, none, none, none, none] st h (iv_K d 6) (iv_call d) := (iv_Kof ivk_6_68).trans (iv_Sof ivk_6_68)
theorem ivk_6_72 : iv_lk (iv_Gb 6) 72 = ([1, 1, 1, 0, 1], [(8,4,2,0,[]), (10,0,1,0,[]), (46,0,1,17,[]), (8,1,1,0,[]), (53,0,0,0,[]), (8,2,1,0,[]), (50,0,0,0,[]), (15,0,0,0,[]), (71,83,0,0,[])]) := by rw [iv_g6]; rfl
theorem ivj_6_72 {d : Nat} {st : List Value} {h : iv_H} {l0 l1 l2 l3 l4 : Option Value} : iv_K d 6 72 [l0, l1, l2, l3, l4] st h = iv_sem d 6 72 [l0, l1, l2, none, l4] st h := iv_Kof ivk_6_72
theorem ivs_6_72 {d : Nat} {st : List Value} {h : iv_H} {ls : iv_L} : iv_sem d 6 72 ls st h = iv_x [(8,4,2,0,[]), (10,0,1,0,[]), (46,0,1,17,[]), (8,1,1,0,[]), (53,0,0,0,[]), (8,2,1,0,[]), (50,0,0,0,[]), (15,0,0,0,[]), (71,83,0,0,[])] ls st h (iv_K d 6) (iv_call d) := iv_Sof ivk_6_72
theorem ivf_6_72 {d : Nat} {st : List Value} {h : iv_H} {l0 l1 l2 l3 l4 : Option Value} : iv_K d 6 72 [l0, l1, l2, l3, l4] st h = iv_x [(8,4,2,0,[]), (10,0,1,0,[]), (46,0,1,17,[]), (8,1,1,0,[]), (53,0,0,0,[]), (8,2,1,0,[]), (50,0,0,0,[]), (15,0,0,0,[]), (71,83,0,0,[])] [l0, l1, l2, none, l4] st h (iv_K d 6) (iv_call d) := (iv_Kof ivk_6_72).trans (iv_Sof ivk_6_72)
theorem ivk_6_83 : iv_lk (iv_Gb 6) 83 = ([0, 0, 0, 0, 0], [(63,0,0,0,[])]) := by rw [iv_g6]; rfl
theorem ivj_6_83 {d : Nat} {st : List Value} {h : iv_H} {l0 l1 l2 l3 l4 : Option Value} : iv_K d 6 83 [l0, l1, l2, l3, l4] st h = iv_sem d 6 83 [none, none, none, none, none] st h := iv_Kof ivk_6_83
theorem ivs_6_83 {d : Nat} {st : List Value} {h : iv_H} {ls : iv_L} : iv_sem d 6 83 ls st h = iv_x [(63,0,0,0,[])] ls st h (iv_K d 6) (iv_call d) := iv_Sof ivk_6_83
theorem ivf_6_83 {d : Nat} {st : List Value} {h : iv_H} {l0 l1 l2 l3 l4 : Option Value} : iv_K d 6 83 [l0, l1, l2, l3, l4] st h = iv_x [(63,0,0,0,[])] [none, none, none, none, none] st h (iv_K d 6) (iv_call d) := (iv_Kof ivk_6_83).trans (iv_Sof ivk_6_83)
theorem ivc_6 {d : Nat} {h : iv_H} {p : Nat} {x0 : Int32} {x1 : Int32} {x2 : Int32} : iv_call (d + 1) 6 [.ref p, .int x0, .int x1, .int x2] h = iv_sem d 6 0 [some (.ref p), some (.int x0), some (.int x1), some (.int x2), none] [] h := iv_Cof (by decide) ivk_6_0 (Nat.le_of_ble_eq_true rfl)
/-- X0_leastOf -/
theorem iv_g7 : iv_Gb 7 = iv_b7 := rfl
theorem ivk_7_0 : iv_lk (iv_Gb 7) 0 = ([1, 1, 0], [(0,0,0,0,[]), (11,2,1,0,[]), (71,2,0,0,[])]) := by rw [iv_g7]; rfl
theorem ivj_7_0 {d : Nat} {st : List Value} {h : iv_H} {l0 l1 l2 : Option Value} : iv_K d 7 0 [l0, l1, l2] st h = iv_sem d 7 0 [l0, l1, none] st h := iv_Kof ivk_7_0
theorem ivs_7_0 {d : Nat} {st : List Value} {h : iv_H} {ls : iv_L} : iv_sem d 7 0 ls st h = iv_x [(0,0,0,0,[]), (11,2,1,0,[]), (71,2,0,0,[])] ls st h (iv_K d 7) (iv_call d) := iv_Sof ivk_7_0
theorem ivk_7_2 : iv_lk (iv_Gb 7) 2 = ([1, 1, 1], [(8,2,1,0,[]), (10,0,1,0,[]), (47,0,3,29,[]), (44,24,3,17,[]), (8,1,1,0,[]), (8,2,1,0,[]), (25,0,0,0,[]), (0,0,0,1,[]), (21,0,0,0,[]), (43,24,1,9,[]), (14,2,0,1,[]), (42,2,0,-19,[])]) := by rw [iv_g7]; rfl
theorem ivj_7_2 {d : Nat} {st : List Value} {h : iv_H} {l0 l1 l2 : Option Value} : iv_K d 7 2 [l0, l1, l2] st h = iv_sem d 7 2 [l0, l1, l2] st h := iv_Kof ivk_7_2
theorem ivs_7_2 {d : Nat} {st : List Value} {h : iv_H} {ls : iv_L} : iv_sem d 7 2 ls st h = iv_x [(8,2,1,0,[]), (10,0,1,0,[]), (47,0,3,29,[]), (44,24,3,17,[]), (8,1,1,0,[]), (8,2,1,0,[]), (25,0,0,0,[]), (0,0,0,1,[]), (21,0,0,0,[]), (43,24,1,9,[]), (14,2,0,1,[]), (42,2,0,-19,[])] ls st h (iv_K d 7) (iv_call d) := iv_Sof ivk_7_2
theorem ivk_7_24 : iv_lk (iv_Gb 7) 24 = ([0, 0, 1], [(8,2,1,0,[]), (63,0,0,0,[])]) := by rw [iv_g7]; rfl
theorem ivj_7_24 {d : Nat} {st : List Value} {h : iv_H} {l0 l1 l2 : Option Value} : iv_K d 7 24 [l0, l1, l2] st h = iv_sem d 7 24 [none, none, l2] st h := iv_Kof ivk_7_24
theorem ivs_7_24 {d : Nat} {st : List Value} {h : iv_H} {ls : iv_L} : iv_sem d 7 24 ls st h = iv_x [(8,2,1,0,[]), (63,0,0,0,[])] ls st h (iv_K d 7) (iv_call d) := iv_Sof ivk_7_24
theorem ivf_7_24 {d : Nat} {st : List Value} {h : iv_H} {l0 l1 l2 : Option Value} : iv_K d 7 24 [l0, l1, l2] st h = iv_x [(8,2,1,0,[]), (63,0,0,0,[])] [none, none, l2] st h (iv_K d 7) (iv_call d) := (iv_Kof ivk_7_24).trans (iv_Sof ivk_7_24)
theorem ivc_7 {d : Nat} {h : iv_H} {p : Nat} {x0 : Int32} : iv_call (d + 1) 7 [.ref p, .int x0] h = iv_sem d 7 0 [some (.ref p), some (.int x0), none] [] h := iv_Cof (by decide) ivk_7_0 (Nat.le_of_ble_eq_true rfl)
/-- X1_init -/
theorem iv_g8 : iv_Gb 8 = iv_b8 := rfl
theorem ivk_8_0 : iv_lk (iv_Gb 8) 0 = ([1], [(10,0,1,0,[]), (69,0,0,3,[]), (10,0,1,0,[]), (1,0,0,8,[]), (60,6,0,0,[]), (77,1,0,9,[]), (10,0,1,0,[]), (1,0,0,8,[]), (60,6,0,0,[]), (77,1,1,15,[]), (10,0,1,0,[]), (1,0,0,8,[]), (60,6,0,0,[]), (77,1,2,18,[]), (10,0,1,0,[]), (1,0,0,8,[]), (60,6,0,0,[]), (77,1,3,21,[]), (10,0,1,0,[]), (0,0,0,4,[]), (48,1,6,24,[]), (10,0,1,0,[]), (0,0,0,1,[]), (48,1,7,28,[]), (10,0,1,0,[]), (0,0,0,1,[]), (48,1,9,31,[]), (65,0,0,0,[])]) := by rw [iv_g8]; rfl
theorem ivj_8_0 {d : Nat} {st : List Value} {h : iv_H} {l0 : Option Value} : iv_K d 8 0 [l0] st h = iv_sem d 8 0 [l0] st h := iv_Kof ivk_8_0
theorem ivs_8_0 {d : Nat} {st : List Value} {h : iv_H} {ls : iv_L} : iv_sem d 8 0 ls st h = iv_x [(10,0,1,0,[]), (69,0,0,3,[]), (10,0,1,0,[]), (1,0,0,8,[]), (60,6,0,0,[]), (77,1,0,9,[]), (10,0,1,0,[]), (1,0,0,8,[]), (60,6,0,0,[]), (77,1,1,15,[]), (10,0,1,0,[]), (1,0,0,8,[]), (60,6,0,0,[]), (77,1,2,18,[]), (10,0,1,0,[]), (1,0,0,8,[]), (60,6,0,0,[]), (77,1,3,21,[]), (10,0,1,0,[]), (0,0,0,4,[]), (48,1,6,24,[]), (10,0,1,0,[]), (0,0,0,1,[]), (48,1,7,28,[]), (10,0,1,0,[]), (0,0,0,1,[]), (48,1,9,31,[]), (65,0,0,0,[])] ls st h (iv_K d 8) (iv_call d) := iv_Sof ivk_8_0
theorem ivc_8 {d : Nat} {h : iv_H} {p : Nat} : iv_call (d + 1) 8 [.ref p] h = iv_sem d 8 0 [some (.ref p)] [] h := iv_Cof (by decide) ivk_8_0 (Nat.le_of_ble_eq_true rfl)
/-- X1_takeFrom -/
theorem iv_g9 : iv_Gb 9 = iv_b9 := rfl
theorem ivk_9_0 : iv_lk (iv_Gb 9) 0 = ([1, 1, 0], [(0,0,0,0,[]), (11,2,1,0,[]), (71,2,0,0,[])]) := by rw [iv_g9]; rfl
theorem ivj_9_0 {d : Nat} {st : List Value} {h : iv_H} {l0 l1 l2 : Option Value} : iv_K d 9 0 [l0, l1, l2] st h = iv_sem d 9 0 [l0, l1, none] st h := iv_Kof ivk_9_0
theorem ivs_9_0 {d : Nat} {st : List Value} {h : iv_H} {ls : iv_L} : iv_sem d 9 0 ls st h = iv_x [(0,0,0,0,[]), (11,2,1,0,[]), (71,2,0,0,[])] ls st h (iv_K d 9) (iv_call d) := iv_Sof ivk_9_0
theorem ivk_9_2 : iv_lk (iv_Gb 9) 2 = ([1, 1, 1], [(8,2,1,0,[]), (1,0,0,8,[]), (44,62,3,57,[]), (10,0,1,0,[]), (46,1,0,9,[]), (8,2,1,0,[]), (10,1,1,0,[]), (46,1,0,9,[]), (8,2,1,0,[]), (50,0,0,0,[]), (54,0,0,0,[]), (10,0,1,0,[]), (46,1,1,15,[]), (8,2,1,0,[]), (10,1,1,0,[]), (46,1,1,15,[]), (8,2,1,0,[]), (50,0,0,0,[]), (54,0,0,0,[]), (10,0,1,0,[]), (46,1,2,18,[]), (8,2,1,0,[]), (10,1,1,0,[]), (46,1,2,18,[]), (8,2,1,0,[]), (50,0,0,0,[]), (54,0,0,0,[]), (10,0,1,0,[]), (46,1,3,21,[]), (8,2,1,0,[]), (10,1,1,0,[]), (46,1,3,21,[]), (8,2,1,0,[]), (50,0,0,0,[]), (54,0,0,0,[]), (14,2,0,1,[]), (42,2,0,-57,[])]) := by rw [iv_g9]; rfl
theorem ivj_9_2 {d : Nat} {st : List Value} {h : iv_H} {l0 l1 l2 : Option Value} : iv_K d 9 2 [l0, l1, l2] st h = iv_sem d 9 2 [l0, l1, l2] st h := iv_Kof ivk_9_2
theorem ivs_9_2 {d : Nat} {st : List Value} {h : iv_H} {ls : iv_L} : iv_sem d 9 2 ls st h = iv_x [(8,2,1,0,[]), (1,0,0,8,[]), (44,62,3,57,[]), (10,0,1,0,[]), (46,1,0,9,[]), (8,2,1,0,[]), (10,1,1,0,[]), (46,1,0,9,[]), (8,2,1,0,[]), (50,0,0,0,[]), (54,0,0,0,[]), (10,0,1,0,[]), (46,1,1,15,[]), (8,2,1,0,[]), (10,1,1,0,[]), (46,1,1,15,[]), (8,2,1,0,[]), (50,0,0,0,[]), (54,0,0,0,[]), (10,0,1,0,[]), (46,1,2,18,[]), (8,2,1,0,[]), (10,1,1,0,[]), (46,1,2,18,[]), (8,2,1,0,[]), (50,0,0,0,[]), (54,0,0,0,[]), (10,0,1,0,[]), (46,1,3,21,[]), (8,2,1,0,[]), (10,1,1,0,[]), (46,1,3,21,[]), (8,2,1,0,[]), (50,0,0,0,[]), (54,0,0,0,[]), (14,2,0,1,[]), (42,2,0,-57,[])] ls st h (iv_K d 9) (iv_call d) := iv_Sof ivk_9_2
theorem ivk_9_62 : iv_lk (iv_Gb 9) 62 = ([1, 1, 0], [(10,0,1,0,[]), (10,1,1,0,[]), (47,1,4,34,[]), (48,1,4,34,[]), (10,0,1,0,[]), (10,1,1,0,[]), (47,1,5,37,[]), (48,1,5,37,[]), (10,0,1,0,[]), (10,1,1,0,[]), (47,1,6,24,[]), (48,1,6,24,[]), (10,0,1,0,[]), (10,1,1,0,[]), (47,1,7,28,[]), (48,1,7,28,[]), (10,0,1,0,[]), (10,1,1,0,[]), (47,1,8,40,[]), (48,1,8,40,[]), (10,0,1,0,[]), (10,1,1,0,[]), (47,1,9,31,[]), (48,1,9,31,[]), (65,0,0,0,[])]) := by rw [iv_g9]; rfl
theorem ivj_9_62 {d : Nat} {st : List Value} {h : iv_H} {l0 l1 l2 : Option Value} : iv_K d 9 62 [l0, l1, l2] st h = iv_sem d 9 62 [l0, l1, none] st h := iv_Kof ivk_9_62
theorem ivs_9_62 {d : Nat} {st : List Value} {h : iv_H} {ls : iv_L} : iv_sem d 9 62 ls st h = iv_x [(10,0,1,0,[]), (10,1,1,0,[]), (47,1,4,34,[]), (48,1,4,34,[]), (10,0,1,0,[]), (10,1,1,0,[]), (47,1,5,37,[]), (48,1,5,37,[]), (10,0,1,0,[]), (10,1,1,0,[]), (47,1,6,24,[]), (48,1,6,24,[]), (10,0,1,0,[]), (10,1,1,0,[]), (47,1,7,28,[]), (48,1,7,28,[]), (10,0,1,0,[]), (10,1,1,0,[]), (47,1,8,40,[]), (48,1,8,40,[]), (10,0,1,0,[]), (10,1,1,0,[]), (47,1,9,31,[]), (48,1,9,31,[]), (65,0,0,0,[])] ls st h (iv_K d 9) (iv_call d) := iv_Sof ivk_9_62
theorem ivf_9_62 {d : Nat} {st : List Value} {h : iv_H} {l0 l1 l2 : Option Value} : iv_K d 9 62 [l0, l1, l2] st h = iv_x [(10,0,1,0,[]), (10,1,1,0,[]), (47,1,4,34,[]), (48,1,4,34,[]), (10,0,1,0,[]), (10,1,1,0,[]), (47,1,5,37,[]), (48,1,5,37,[]), (10,0,1,0,[]), (10,1,1,0,[]), (47,1,6,24,[]), (48,1,6,24,[]), (10,0,1,0,[]), (10,1,1,0,[]), (47,1,7,28,[]), (48,1,7,28,[]), (10,0,1,0,[]), (10,1,1,0,[]), (47,1,8,40,[]), (48,1,8,40,[]), (10,0,1,0,[]), (10,1,1,0,[]), (47,1,9,31,[]), (48,1,9,31,[]), (65,0,0,0,[])] [l0, l1, none] st h (iv_K d 9) (iv_call d) := (iv_Kof ivk_9_62).trans (iv_Sof ivk_9_62)
theorem ivc_9 {d : Nat} {h : iv_H} {p : Nat} {q0 : Nat} : iv_call (d + 1) 9 [.ref p, .ref q0] h = iv_sem d 9 0 [some (.ref p), some (.ref q0), none] [] h := iv_Cof (by decide) ivk_9_0 (Nat.le_of_ble_eq_true rfl)
/-- X1_has -/
theorem iv_g10 : iv_Gb 10 = iv_b10 := rfl
theorem ivk_10_0 : iv_lk (iv_Gb 10) 0 = ([1, 1], [(8,1,1,0,[]), (43,16,2,15,[]), (8,1,1,0,[]), (10,0,1,0,[]), (47,1,5,37,[]), (44,16,3,7,[]), (0,0,0,1,[]), (42,17,0,4,[])]) := by rw [iv_g10]; rfl
theorem ivj_10_0 {d : Nat} {st : List Value} {h : iv_H} {l0 l1 : Option Value} : iv_K d 10 0 [l0, l1] st h = iv_sem d 10 0 [l0, l1] st h := iv_Kof ivk_10_0
theorem ivs_10_0 {d : Nat} {st : List Value} {h : iv_H} {ls : iv_L} : iv_sem d 10 0 ls st h = iv_x [(8,1,1,0,[]), (43,16,2,15,[]), (8,1,1,0,[]), (10,0,1,0,[]), (47,1,5,37,[]), (44,16,3,7,[]), (0,0,0,1,[]), (42,17,0,4,[])] ls st h (iv_K d 10) (iv_call d) := iv_Sof ivk_10_0
theorem ivk_10_16 : iv_lk (iv_Gb 10) 16 = ([0, 0], [(0,0,0,0,[]), (71,17,0,0,[])]) := by rw [iv_g10]; rfl
theorem ivj_10_16 {d : Nat} {st : List Value} {h : iv_H} {l0 l1 : Option Value} : iv_K d 10 16 [l0, l1] st h = iv_sem d 10 16 [none, none] st h := iv_Kof ivk_10_16
theorem ivs_10_16 {d : Nat} {st : List Value} {h : iv_H} {ls : iv_L} : iv_sem d 10 16 ls st h = iv_x [(0,0,0,0,[]), (71,17,0,0,[])] ls st h (iv_K d 10) (iv_call d) := iv_Sof ivk_10_16
theorem ivf_10_16 {d : Nat} {st : List Value} {h : iv_H} {l0 l1 : Option Value} : iv_K d 10 16 [l0, l1] st h = iv_x [(0,0,0,0,[]), (71,17,0,0,[])] [none, none] st h (iv_K d 10) (iv_call d) := (iv_Kof ivk_10_16).trans (iv_Sof ivk_10_16)
theorem ivk_10_17 : iv_lk (iv_Gb 10) 17 = ([0, 0], [(63,1,0,0,[])]) := by rw [iv_g10]; rfl
theorem ivj_10_17 {d : Nat} {st : List Value} {h : iv_H} {l0 l1 : Option Value} : iv_K d 10 17 [l0, l1] st h = iv_sem d 10 17 [none, none] st h := iv_Kof ivk_10_17
theorem ivs_10_17 {d : Nat} {st : List Value} {h : iv_H} {ls : iv_L} : iv_sem d 10 17 ls st h = iv_x [(63,1,0,0,[])] ls st h (iv_K d 10) (iv_call d) := iv_Sof ivk_10_17
theorem ivf_10_17 {d : Nat} {st : List Value} {h : iv_H} {l0 l1 : Option Value} : iv_K d 10 17 [l0, l1] st h = iv_x [(63,1,0,0,[])] [none, none] st h (iv_K d 10) (iv_call d) := (iv_Kof ivk_10_17).trans (iv_Sof ivk_10_17)
theorem ivc_10 {d : Nat} {h : iv_H} {p : Nat} {x0 : Int32} : iv_call (d + 1) 10 [.ref p, .int x0] h = iv_sem d 10 0 [some (.ref p), some (.int x0)] [] h := iv_Cof (by decide) ivk_10_0 (Nat.le_of_ble_eq_true rfl)
/-- X1_areTwo -/
theorem iv_g11 : iv_Gb 11 = iv_b11 := rfl
theorem ivk_11_0 : iv_lk (iv_Gb 11) 0 = ([1, 1, 1], [(10,0,1,0,[]), (8,1,1,0,[]), (66,10,1,43,[1]), (43,25,0,20,[]), (10,0,1,0,[]), (8,2,1,0,[]), (66,10,1,43,[1]), (43,25,0,12,[]), (8,1,1,0,[]), (8,2,1,0,[]), (44,25,0,7,[]), (0,0,0,1,[]), (42,26,0,4,[])]) := by rw [iv_g11]; rfl
theorem ivj_11_0 {d : Nat} {st : List Value} {h : iv_H} {l0 l1 l2 : Option Value} : iv_K d 11 0 [l0, l1, l2] st h = iv_sem d 11 0 [l0, l1, l2] st h := iv_Kof ivk_11_0
theorem ivs_11_0 {d : Nat} {st : List Value} {h : iv_H} {ls : iv_L} : iv_sem d 11 0 ls st h = iv_x [(10,0,1,0,[]), (8,1,1,0,[]), (66,10,1,43,[1]), (43,25,0,20,[]), (10,0,1,0,[]), (8,2,1,0,[]), (66,10,1,43,[1]), (43,25,0,12,[]), (8,1,1,0,[]), (8,2,1,0,[]), (44,25,0,7,[]), (0,0,0,1,[]), (42,26,0,4,[])] ls st h (iv_K d 11) (iv_call d) := iv_Sof ivk_11_0
theorem ivk_11_25 : iv_lk (iv_Gb 11) 25 = ([0, 0, 0], [(0,0,0,0,[]), (71,26,0,0,[])]) := by rw [iv_g11]; rfl
theorem ivj_11_25 {d : Nat} {st : List Value} {h : iv_H} {l0 l1 l2 : Option Value} : iv_K d 11 25 [l0, l1, l2] st h = iv_sem d 11 25 [none, none, none] st h := iv_Kof ivk_11_25
theorem ivs_11_25 {d : Nat} {st : List Value} {h : iv_H} {ls : iv_L} : iv_sem d 11 25 ls st h = iv_x [(0,0,0,0,[]), (71,26,0,0,[])] ls st h (iv_K d 11) (iv_call d) := iv_Sof ivk_11_25
theorem ivf_11_25 {d : Nat} {st : List Value} {h : iv_H} {l0 l1 l2 : Option Value} : iv_K d 11 25 [l0, l1, l2] st h = iv_x [(0,0,0,0,[]), (71,26,0,0,[])] [none, none, none] st h (iv_K d 11) (iv_call d) := (iv_Kof ivk_11_25).trans (iv_Sof ivk_11_25)
theorem ivk_11_26 : iv_lk (iv_Gb 11) 26 = ([0, 0, 0], [(63,1,0,0,[])]) := by rw [iv_g11]; rfl
theorem ivj_11_26 {d : Nat} {st : List Value} {h : iv_H} {l0 l1 l2 : Option Value} : iv_K d 11 26 [l0, l1, l2] st h = iv_sem d 11 26 [none, none, none] st h := iv_Kof ivk_11_26
theorem ivs_11_26 {d : Nat} {st : List Value} {h : iv_H} {ls : iv_L} : iv_sem d 11 26 ls st h = iv_x [(63,1,0,0,[])] ls st h (iv_K d 11) (iv_call d) := iv_Sof ivk_11_26
theorem ivf_11_26 {d : Nat} {st : List Value} {h : iv_H} {l0 l1 l2 : Option Value} : iv_K d 11 26 [l0, l1, l2] st h = iv_x [(63,1,0,0,[])] [none, none, none] st h (iv_K d 11) (iv_call d) := (iv_Kof ivk_11_26).trans (iv_Sof ivk_11_26)
theorem ivc_11 {d : Nat} {h : iv_H} {p : Nat} {x0 : Int32} {x1 : Int32} : iv_call (d + 1) 11 [.ref p, .int x0, .int x1] h = iv_sem d 11 0 [some (.ref p), some (.int x0), some (.int x1)] [] h := iv_Cof (by decide) ivk_11_0 (Nat.le_of_ble_eq_true rfl)
/-- X1_isFull -/
theorem iv_g12 : iv_Gb 12 = iv_b12 := rfl
theorem ivk_12_0 : iv_lk (iv_Gb 12) 0 = ([1], [(10,0,1,0,[]), (47,1,5,37,[]), (1,0,0,8,[]), (44,13,2,7,[]), (0,0,0,1,[]), (42,14,0,4,[])]) := by rw [iv_g12]; rfl
theorem ivj_12_0 {d : Nat} {st : List Value} {h : iv_H} {l0 : Option Value} : iv_K d 12 0 [l0] st h = iv_sem d 12 0 [l0] st h := iv_Kof ivk_12_0
theorem ivs_12_0 {d : Nat} {st : List Value} {h : iv_H} {ls : iv_L} : iv_sem d 12 0 ls st h = iv_x [(10,0,1,0,[]), (47,1,5,37,[]), (1,0,0,8,[]), (44,13,2,7,[]), (0,0,0,1,[]), (42,14,0,4,[])] ls st h (iv_K d 12) (iv_call d) := iv_Sof ivk_12_0
theorem ivk_12_13 : iv_lk (iv_Gb 12) 13 = ([0], [(0,0,0,0,[]), (71,14,0,0,[])]) := by rw [iv_g12]; rfl
theorem ivj_12_13 {d : Nat} {st : List Value} {h : iv_H} {l0 : Option Value} : iv_K d 12 13 [l0] st h = iv_sem d 12 13 [none] st h := iv_Kof ivk_12_13
theorem ivs_12_13 {d : Nat} {st : List Value} {h : iv_H} {ls : iv_L} : iv_sem d 12 13 ls st h = iv_x [(0,0,0,0,[]), (71,14,0,0,[])] ls st h (iv_K d 12) (iv_call d) := iv_Sof ivk_12_13
theorem ivf_12_13 {d : Nat} {st : List Value} {h : iv_H} {l0 : Option Value} : iv_K d 12 13 [l0] st h = iv_x [(0,0,0,0,[]), (71,14,0,0,[])] [none] st h (iv_K d 12) (iv_call d) := (iv_Kof ivk_12_13).trans (iv_Sof ivk_12_13)
theorem ivk_12_14 : iv_lk (iv_Gb 12) 14 = ([0], [(63,1,0,0,[])]) := by rw [iv_g12]; rfl
theorem ivj_12_14 {d : Nat} {st : List Value} {h : iv_H} {l0 : Option Value} : iv_K d 12 14 [l0] st h = iv_sem d 12 14 [none] st h := iv_Kof ivk_12_14
theorem ivs_12_14 {d : Nat} {st : List Value} {h : iv_H} {ls : iv_L} : iv_sem d 12 14 ls st h = iv_x [(63,1,0,0,[])] ls st h (iv_K d 12) (iv_call d) := iv_Sof ivk_12_14
theorem ivf_12_14 {d : Nat} {st : List Value} {h : iv_H} {l0 : Option Value} : iv_K d 12 14 [l0] st h = iv_x [(63,1,0,0,[])] [none] st h (iv_K d 12) (iv_call d) := (iv_Kof ivk_12_14).trans (iv_Sof ivk_12_14)
theorem ivc_12 {d : Nat} {h : iv_H} {p : Nat} : iv_call (d + 1) 12 [.ref p] h = iv_sem d 12 0 [some (.ref p)] [] h := iv_Cof (by decide) ivk_12_0 (Nat.le_of_ble_eq_true rfl)
/-- X1_add -/
theorem iv_g13 : iv_Gb 13 = iv_b13 := rfl
theorem ivk_13_0 : iv_lk (iv_Gb 13) 0 = ([1, 1, 1, 1, 0], [(10,0,1,0,[]), (47,1,5,37,[]), (11,4,2,0,[]), (10,0,1,0,[]), (46,1,0,9,[]), (8,4,2,0,[]), (8,1,1,0,[]), (54,0,0,0,[]), (10,0,1,0,[]), (46,1,1,15,[]), (8,4,2,0,[]), (8,2,1,0,[]), (54,0,0,0,[]), (10,0,1,0,[]), (46,1,2,18,[]), (8,4,2,0,[]), (8,3,1,0,[]), (54,0,0,0,[]), (10,0,1,0,[]), (46,1,3,21,[]), (8,4,2,0,[]), (0,0,0,0,[]), (54,0,0,0,[]), (10,0,1,0,[]), (8,4,2,0,[]), (0,0,0,0,[]), (66,15,2,47,[1]), (10,0,1,0,[]), (38,0,0,0,[]), (47,1,5,37,[]), (0,0,0,1,[]), (15,0,0,0,[]), (48,1,5,37,[]), (8,4,2,0,[]), (63,0,0,0,[])]) := by rw [iv_g13]; rfl
theorem ivj_13_0 {d : Nat} {st : List Value} {h : iv_H} {l0 l1 l2 l3 l4 : Option Value} : iv_K d 13 0 [l0, l1, l2, l3, l4] st h = iv_sem d 13 0 [l0, l1, l2, l3, none] st h := iv_Kof ivk_13_0
theorem ivs_13_0 {d : Nat} {st : List Value} {h : iv_H} {ls : iv_L} : iv_sem d 13 0 ls st h = iv_x [(10,0,1,0,[]), (47,1,5,37,[]), (11,4,2,0,[]), (10,0,1,0,[]), (46,1,0,9,[]), (8,4,2,0,[]), (8,1,1,0,[]), (54,0,0,0,[]), (10,0,1,0,[]), (46,1,1,15,[]), (8,4,2,0,[]), (8,2,1,0,[]), (54,0,0,0,[]), (10,0,1,0,[]), (46,1,2,18,[]), (8,4,2,0,[]), (8,3,1,0,[]), (54,0,0,0,[]), (10,0,1,0,[]), (46,1,3,21,[]), (8,4,2,0,[]), (0,0,0,0,[]), (54,0,0,0,[]), (10,0,1,0,[]), (8,4,2,0,[]), (0,0,0,0,[]), (66,15,2,47,[1]), (10,0,1,0,[]), (38,0,0,0,[]), (47,1,5,37,[]), (0,0,0,1,[]), (15,0,0,0,[]), (48,1,5,37,[]), (8,4,2,0,[]), (63,0,0,0,[])] ls st h (iv_K d 13) (iv_call d) := iv_Sof ivk_13_0
theorem ivc_13 {d : Nat} {h : iv_H} {p : Nat} {x0 : Int32} {x1 : Int32} {x2 : Int32} : iv_call (d + 1) 13 [.ref p, .int x0, .int x1, .int x2] h = iv_sem d 13 0 [some (.ref p), some (.int x0), some (.int x1), some (.int x2), none] [] h := iv_Cof (by decide) ivk_13_0 (Nat.le_of_ble_eq_true rfl)
/-- X1_isWrong -/
theorem iv_g14 : iv_Gb 14 = iv_b14 := rfl
theorem ivk_14_0 : iv_lk (iv_Gb 14) 0 = ([1, 1], [(10,0,1,0,[]), (47,1,4,34,[]), (8,1,1,0,[]), (25,0,0,0,[]), (0,0,0,1,[]), (21,0,0,0,[]), (43,15,0,7,[]), (0,0,0,1,[]), (42,16,0,4,[])]) := by rw [iv_g14]; rfl
theorem ivj_14_0 {d : Nat} {st : List Value} {h : iv_H} {l0 l1 : Option Value} : iv_K d 14 0 [l0, l1] st h = iv_sem d 14 0 [l0, l1] st h := iv_Kof ivk_14_0
theorem ivs_14_0 {d : Nat} {st : List Value} {h : iv_H} {ls : iv_L} : iv_sem d 14 0 ls st h = iv_x [(10,0,1,0,[]), (47,1,4,34,[]), (8,1,1,0,[]), (25,0,0,0,[]), (0,0,0,1,[]), (21,0,0,0,[]), (43,15,0,7,[]), (0,0,0,1,[]), (42,16,0,4,[])] ls st h (iv_K d 14) (iv_call d) := iv_Sof ivk_14_0
theorem ivk_14_15 : iv_lk (iv_Gb 14) 15 = ([0, 0], [(0,0,0,0,[]), (71,16,0,0,[])]) := by rw [iv_g14]; rfl
theorem ivj_14_15 {d : Nat} {st : List Value} {h : iv_H} {l0 l1 : Option Value} : iv_K d 14 15 [l0, l1] st h = iv_sem d 14 15 [none, none] st h := iv_Kof ivk_14_15
theorem ivs_14_15 {d : Nat} {st : List Value} {h : iv_H} {ls : iv_L} : iv_sem d 14 15 ls st h = iv_x [(0,0,0,0,[]), (71,16,0,0,[])] ls st h (iv_K d 14) (iv_call d) := iv_Sof ivk_14_15
theorem ivf_14_15 {d : Nat} {st : List Value} {h : iv_H} {l0 l1 : Option Value} : iv_K d 14 15 [l0, l1] st h = iv_x [(0,0,0,0,[]), (71,16,0,0,[])] [none, none] st h (iv_K d 14) (iv_call d) := (iv_Kof ivk_14_15).trans (iv_Sof ivk_14_15)
theorem ivk_14_16 : iv_lk (iv_Gb 14) 16 = ([0, 0], [(63,1,0,0,[])]) := by rw [iv_g14]; rfl
theorem ivj_14_16 {d : Nat} {st : List Value} {h : iv_H} {l0 l1 : Option Value} : iv_K d 14 16 [l0, l1] st h = iv_sem d 14 16 [none, none] st h := iv_Kof ivk_14_16
theorem ivs_14_16 {d : Nat} {st : List Value} {h : iv_H} {ls : iv_L} : iv_sem d 14 16 ls st h = iv_x [(63,1,0,0,[])] ls st h (iv_K d 14) (iv_call d) := iv_Sof ivk_14_16
theorem ivf_14_16 {d : Nat} {st : List Value} {h : iv_H} {l0 l1 : Option Value} : iv_K d 14 16 [l0, l1] st h = iv_x [(63,1,0,0,[])] [none, none] st h (iv_K d 14) (iv_call d) := (iv_Kof ivk_14_16).trans (iv_Sof ivk_14_16)
theorem ivc_14 {d : Nat} {h : iv_H} {p : Nat} {x0 : Int32} : iv_call (d + 1) 14 [.ref p, .int x0] h = iv_sem d 14 0 [some (.ref p), some (.int x0)] [] h := iv_Cof (by decide) ivk_14_0 (Nat.le_of_ble_eq_true rfl)
/-- X1_makeWrong -/
theorem iv_g15 : iv_Gb 15 = iv_b15 := rfl
theorem ivk_15_0 : iv_lk (iv_Gb 15) 0 = ([1, 1, 1], [(10,0,1,0,[]), (8,2,1,0,[]), (43,16,0,14,[]), (10,0,1,0,[]), (47,1,4,34,[]), (0,0,0,1,[]), (8,1,1,0,[]), (24,0,0,0,[]), (22,0,0,0,[]), (42,26,0,13,[])]) := by rw [iv_g15]; rfl
theorem ivj_15_0 {d : Nat} {st : List Value} {h : iv_H} {l0 l1 l2 : Option Value} : iv_K d 15 0 [l0, l1, l2] st h = iv_sem d 15 0 [l0, l1, l2] st h := iv_Kof ivk_15_0
theorem ivs_15_0 {d : Nat} {st : List Value} {h : iv_H} {ls : iv_L} : iv_sem d 15 0 ls st h = iv_x [(10,0,1,0,[]), (8,2,1,0,[]), (43,16,0,14,[]), (10,0,1,0,[]), (47,1,4,34,[]), (0,0,0,1,[]), (8,1,1,0,[]), (24,0,0,0,[]), (22,0,0,0,[]), (42,26,0,13,[])] ls st h (iv_K d 15) (iv_call d) := iv_Sof ivk_15_0
theorem ivk_15_16 : iv_lk (iv_Gb 15) 16 = ([1, 1, 0], [(10,0,1,0,[]), (47,1,4,34,[]), (0,0,0,1,[]), (8,1,1,0,[]), (24,0,0,0,[]), (0,0,0,-1,[]), (23,0,0,0,[]), (21,0,0,0,[]), (71,26,0,0,[])]) := by rw [iv_g15]; rfl
theorem ivj_15_16 {d : Nat} {st : List Value} {h : iv_H} {l0 l1 l2 : Option Value} : iv_K d 15 16 [l0, l1, l2] st h = iv_sem d 15 16 [l0, l1, none] st h := iv_Kof ivk_15_16
theorem ivs_15_16 {d : Nat} {st : List Value} {h : iv_H} {ls : iv_L} : iv_sem d 15 16 ls st h = iv_x [(10,0,1,0,[]), (47,1,4,34,[]), (0,0,0,1,[]), (8,1,1,0,[]), (24,0,0,0,[]), (0,0,0,-1,[]), (23,0,0,0,[]), (21,0,0,0,[]), (71,26,0,0,[])] ls st h (iv_K d 15) (iv_call d) := iv_Sof ivk_15_16
theorem ivf_15_16 {d : Nat} {st : List Value} {h : iv_H} {l0 l1 l2 : Option Value} : iv_K d 15 16 [l0, l1, l2] st h = iv_x [(10,0,1,0,[]), (47,1,4,34,[]), (0,0,0,1,[]), (8,1,1,0,[]), (24,0,0,0,[]), (0,0,0,-1,[]), (23,0,0,0,[]), (21,0,0,0,[]), (71,26,0,0,[])] [l0, l1, none] st h (iv_K d 15) (iv_call d) := (iv_Kof ivk_15_16).trans (iv_Sof ivk_15_16)
theorem ivk_15_26 : iv_lk (iv_Gb 15) 26 = ([0, 0, 0], [(48,1,4,34,[]), (65,0,0,0,[])]) := by rw [iv_g15]; rfl
theorem ivj_15_26 {d : Nat} {st : List Value} {h : iv_H} {l0 l1 l2 : Option Value} : iv_K d 15 26 [l0, l1, l2] st h = iv_sem d 15 26 [none, none, none] st h := iv_Kof ivk_15_26
theorem ivs_15_26 {d : Nat} {st : List Value} {h : iv_H} {ls : iv_L} : iv_sem d 15 26 ls st h = iv_x [(48,1,4,34,[]), (65,0,0,0,[])] ls st h (iv_K d 15) (iv_call d) := iv_Sof ivk_15_26
theorem ivf_15_26 {d : Nat} {st : List Value} {h : iv_H} {l0 l1 l2 : Option Value} : iv_K d 15 26 [l0, l1, l2] st h = iv_x [(48,1,4,34,[]), (65,0,0,0,[])] [none, none, none] st h (iv_K d 15) (iv_call d) := (iv_Kof ivk_15_26).trans (iv_Sof ivk_15_26)
theorem ivc_15 {d : Nat} {h : iv_H} {p : Nat} {x0 : Int32} {x1 : Int32} : iv_call (d + 1) 15 [.ref p, .int x0, .int x1] h = iv_sem d 15 0 [some (.ref p), some (.int x0), some (.int x1)] [] h := iv_Cof (by decide) ivk_15_0 (Nat.le_of_ble_eq_true rfl)
/-- X1_haveMet -/
theorem iv_g16 : iv_Gb 16 = iv_b16 := rfl
theorem ivk_16_0 : iv_lk (iv_Gb 16) 0 = ([1, 1, 1], [(10,0,1,0,[]), (46,1,3,21,[]), (8,1,1,0,[]), (50,0,0,0,[]), (8,2,1,0,[]), (25,0,0,0,[]), (0,0,0,1,[]), (21,0,0,0,[]), (43,17,0,7,[]), (0,0,0,1,[]), (42,18,0,4,[])]) := by rw [iv_g16]; rfl
theorem ivj_16_0 {d : Nat} {st : List Value} {h : iv_H} {l0 l1 l2 : Option Value} : iv_K d 16 0 [l0, l1, l2] st h = iv_sem d 16 0 [l0, l1, l2] st h := iv_Kof ivk_16_0
theorem ivs_16_0 {d : Nat} {st : List Value} {h : iv_H} {ls : iv_L} : iv_sem d 16 0 ls st h = iv_x [(10,0,1,0,[]), (46,1,3,21,[]), (8,1,1,0,[]), (50,0,0,0,[]), (8,2,1,0,[]), (25,0,0,0,[]), (0,0,0,1,[]), (21,0,0,0,[]), (43,17,0,7,[]), (0,0,0,1,[]), (42,18,0,4,[])] ls st h (iv_K d 16) (iv_call d) := iv_Sof ivk_16_0
theorem ivk_16_17 : iv_lk (iv_Gb 16) 17 = ([0, 0, 0], [(0,0,0,0,[]), (71,18,0,0,[])]) := by rw [iv_g16]; rfl
theorem ivj_16_17 {d : Nat} {st : List Value} {h : iv_H} {l0 l1 l2 : Option Value} : iv_K d 16 17 [l0, l1, l2] st h = iv_sem d 16 17 [none, none, none] st h := iv_Kof ivk_16_17
theorem ivs_16_17 {d : Nat} {st : List Value} {h : iv_H} {ls : iv_L} : iv_sem d 16 17 ls st h = iv_x [(0,0,0,0,[]), (71,18,0,0,[])] ls st h (iv_K d 16) (iv_call d) := iv_Sof ivk_16_17
theorem ivf_16_17 {d : Nat} {st : List Value} {h : iv_H} {l0 l1 l2 : Option Value} : iv_K d 16 17 [l0, l1, l2] st h = iv_x [(0,0,0,0,[]), (71,18,0,0,[])] [none, none, none] st h (iv_K d 16) (iv_call d) := (iv_Kof ivk_16_17).trans (iv_Sof ivk_16_17)
theorem ivk_16_18 : iv_lk (iv_Gb 16) 18 = ([0, 0, 0], [(63,1,0,0,[])]) := by rw [iv_g16]; rfl
theorem ivj_16_18 {d : Nat} {st : List Value} {h : iv_H} {l0 l1 l2 : Option Value} : iv_K d 16 18 [l0, l1, l2] st h = iv_sem d 16 18 [none, none, none] st h := iv_Kof ivk_16_18
theorem ivs_16_18 {d : Nat} {st : List Value} {h : iv_H} {ls : iv_L} : iv_sem d 16 18 ls st h = iv_x [(63,1,0,0,[])] ls st h (iv_K d 16) (iv_call d) := iv_Sof ivk_16_18
theorem ivf_16_18 {d : Nat} {st : List Value} {h : iv_H} {l0 l1 l2 : Option Value} : iv_K d 16 18 [l0, l1, l2] st h = iv_x [(63,1,0,0,[])] [none, none, none] st h (iv_K d 16) (iv_call d) := (iv_Kof ivk_16_18).trans (iv_Sof ivk_16_18)
theorem ivc_16 {d : Nat} {h : iv_H} {p : Nat} {x0 : Int32} {x1 : Int32} : iv_call (d + 1) 16 [.ref p, .int x0, .int x1] h = iv_sem d 16 0 [some (.ref p), some (.int x0), some (.int x1)] [] h := iv_Cof (by decide) ivk_16_0 (Nat.le_of_ble_eq_true rfl)
/-- X1_everybody -/
theorem iv_g17 : iv_Gb 17 = iv_b17 := rfl
theorem ivk_17_0 : iv_lk (iv_Gb 17) 0 = ([1], [(0,0,0,1,[]), (10,0,1,0,[]), (47,1,5,37,[]), (24,0,0,0,[]), (0,0,0,1,[]), (16,0,0,0,[]), (63,0,0,0,[])]) := by rw [iv_g17]; rfl
theorem ivj_17_0 {d : Nat} {st : List Value} {h : iv_H} {l0 : Option Value} : iv_K d 17 0 [l0] st h = iv_sem d 17 0 [l0] st h := iv_Kof ivk_17_0
theorem ivs_17_0 {d : Nat} {st : List Value} {h : iv_H} {ls : iv_L} : iv_sem d 17 0 ls st h = iv_x [(0,0,0,1,[]), (10,0,1,0,[]), (47,1,5,37,[]), (24,0,0,0,[]), (0,0,0,1,[]), (16,0,0,0,[]), (63,0,0,0,[])] ls st h (iv_K d 17) (iv_call d) := iv_Sof ivk_17_0
theorem ivc_17 {d : Nat} {h : iv_H} {p : Nat} : iv_call (d + 1) 17 [.ref p] h = iv_sem d 17 0 [some (.ref p)] [] h := iv_Cof (by decide) ivk_17_0 (Nat.le_of_ble_eq_true rfl)
/-- X1_allWords -/
theorem iv_g18 : iv_Gb 18 = iv_b18 := rfl
theorem ivk_18_0 : iv_lk (iv_Gb 18) 0 = ([1, 0, 0], [(0,0,0,0,[]), (11,1,1,0,[]), (0,0,0,0,[]), (11,2,1,0,[]), (71,4,0,0,[])]) := by rw [iv_g18]; rfl
theorem ivj_18_0 {d : Nat} {st : List Value} {h : iv_H} {l0 l1 l2 : Option Value} : iv_K d 18 0 [l0, l1, l2] st h = iv_sem d 18 0 [l0, none, none] st h := iv_Kof ivk_18_0
theorem ivs_18_0 {d : Nat} {st : List Value} {h : iv_H} {ls : iv_L} : iv_sem d 18 0 ls st h = iv_x [(0,0,0,0,[]), (11,1,1,0,[]), (0,0,0,0,[]), (11,2,1,0,[]), (71,4,0,0,[])] ls st h (iv_K d 18) (iv_call d) := iv_Sof ivk_18_0
theorem ivk_18_4 : iv_lk (iv_Gb 18) 4 = ([1, 1, 1], [(8,2,1,0,[]), (10,0,1,0,[]), (47,1,5,37,[]), (44,27,3,18,[]), (8,1,1,0,[]), (10,0,1,0,[]), (46,1,2,18,[]), (8,2,1,0,[]), (50,0,0,0,[]), (15,0,0,0,[]), (11,1,1,0,[]), (14,2,0,1,[]), (42,4,0,-20,[])]) := by rw [iv_g18]; rfl
theorem ivj_18_4 {d : Nat} {st : List Value} {h : iv_H} {l0 l1 l2 : Option Value} : iv_K d 18 4 [l0, l1, l2] st h = iv_sem d 18 4 [l0, l1, l2] st h := iv_Kof ivk_18_4
theorem ivs_18_4 {d : Nat} {st : List Value} {h : iv_H} {ls : iv_L} : iv_sem d 18 4 ls st h = iv_x [(8,2,1,0,[]), (10,0,1,0,[]), (47,1,5,37,[]), (44,27,3,18,[]), (8,1,1,0,[]), (10,0,1,0,[]), (46,1,2,18,[]), (8,2,1,0,[]), (50,0,0,0,[]), (15,0,0,0,[]), (11,1,1,0,[]), (14,2,0,1,[]), (42,4,0,-20,[])] ls st h (iv_K d 18) (iv_call d) := iv_Sof ivk_18_4
theorem ivk_18_27 : iv_lk (iv_Gb 18) 27 = ([0, 1, 0], [(8,1,1,0,[]), (63,0,0,0,[])]) := by rw [iv_g18]; rfl
theorem ivj_18_27 {d : Nat} {st : List Value} {h : iv_H} {l0 l1 l2 : Option Value} : iv_K d 18 27 [l0, l1, l2] st h = iv_sem d 18 27 [none, l1, none] st h := iv_Kof ivk_18_27
theorem ivs_18_27 {d : Nat} {st : List Value} {h : iv_H} {ls : iv_L} : iv_sem d 18 27 ls st h = iv_x [(8,1,1,0,[]), (63,0,0,0,[])] ls st h (iv_K d 18) (iv_call d) := iv_Sof ivk_18_27
theorem ivf_18_27 {d : Nat} {st : List Value} {h : iv_H} {l0 l1 l2 : Option Value} : iv_K d 18 27 [l0, l1, l2] st h = iv_x [(8,1,1,0,[]), (63,0,0,0,[])] [none, l1, none] st h (iv_K d 18) (iv_call d) := (iv_Kof ivk_18_27).trans (iv_Sof ivk_18_27)
theorem ivc_18 {d : Nat} {h : iv_H} {p : Nat} : iv_call (d + 1) 18 [.ref p] h = iv_sem d 18 0 [some (.ref p), none, none] [] h := iv_Cof (by decide) ivk_18_0 (Nat.le_of_ble_eq_true rfl)
/-- X1_countOfKind -/
theorem iv_g19 : iv_Gb 19 = iv_b19 := rfl
theorem ivk_19_0 : iv_lk (iv_Gb 19) 0 = ([1, 1, 0, 0], [(0,0,0,0,[]), (11,2,1,0,[]), (0,0,0,0,[]), (11,3,1,0,[]), (71,4,0,0,[])]) := by rw [iv_g19]; rfl
theorem ivj_19_0 {d : Nat} {st : List Value} {h : iv_H} {l0 l1 l2 l3 : Option Value} : iv_K d 19 0 [l0, l1, l2, l3] st h = iv_sem d 19 0 [l0, l1, none, none] st h := iv_Kof ivk_19_0
theorem ivs_19_0 {d : Nat} {st : List Value} {h : iv_H} {ls : iv_L} : iv_sem d 19 0 ls st h = iv_x [(0,0,0,0,[]), (11,2,1,0,[]), (0,0,0,0,[]), (11,3,1,0,[]), (71,4,0,0,[])] ls st h (iv_K d 19) (iv_call d) := iv_Sof ivk_19_0
theorem ivk_19_4 : iv_lk (iv_Gb 19) 4 = ([1, 1, 1, 1], [(8,3,1,0,[]), (10,0,1,0,[]), (47,1,5,37,[]), (44,39,3,30,[]), (8,2,1,0,[]), (10,0,1,0,[]), (46,1,0,9,[]), (8,3,1,0,[]), (50,0,0,0,[]), (8,1,1,0,[]), (44,27,1,7,[]), (0,0,0,1,[]), (42,28,0,4,[])]) := by rw [iv_g19]; rfl
theorem ivj_19_4 {d : Nat} {st : List Value} {h : iv_H} {l0 l1 l2 l3 : Option Value} : iv_K d 19 4 [l0, l1, l2, l3] st h = iv_sem d 19 4 [l0, l1, l2, l3] st h := iv_Kof ivk_19_4
theorem ivs_19_4 {d : Nat} {st : List Value} {h : iv_H} {ls : iv_L} : iv_sem d 19 4 ls st h = iv_x [(8,3,1,0,[]), (10,0,1,0,[]), (47,1,5,37,[]), (44,39,3,30,[]), (8,2,1,0,[]), (10,0,1,0,[]), (46,1,0,9,[]), (8,3,1,0,[]), (50,0,0,0,[]), (8,1,1,0,[]), (44,27,1,7,[]), (0,0,0,1,[]), (42,28,0,4,[])] ls st h (iv_K d 19) (iv_call d) := iv_Sof ivk_19_4
theorem ivk_19_27 : iv_lk (iv_Gb 19) 27 = ([1, 1, 0, 1], [(0,0,0,0,[]), (71,28,0,0,[])]) := by rw [iv_g19]; rfl
theorem ivj_19_27 {d : Nat} {st : List Value} {h : iv_H} {l0 l1 l2 l3 : Option Value} : iv_K d 19 27 [l0, l1, l2, l3] st h = iv_sem d 19 27 [l0, l1, none, l3] st h := iv_Kof ivk_19_27
theorem ivs_19_27 {d : Nat} {st : List Value} {h : iv_H} {ls : iv_L} : iv_sem d 19 27 ls st h = iv_x [(0,0,0,0,[]), (71,28,0,0,[])] ls st h (iv_K d 19) (iv_call d) := iv_Sof ivk_19_27
theorem ivf_19_27 {d : Nat} {st : List Value} {h : iv_H} {l0 l1 l2 l3 : Option Value} : iv_K d 19 27 [l0, l1, l2, l3] st h = iv_x [(0,0,0,0,[]), (71,28,0,0,[])] [l0, l1, none, l3] st h (iv_K d 19) (iv_call d) := (iv_Kof ivk_19_27).trans (iv_Sof ivk_19_27)
theorem ivk_19_28 : iv_lk (iv_Gb 19) 28 = ([1, 1, 0, 1], [(72,129,1,51,[]), (15,0,0,0,[]), (11,2,1,0,[]), (14,3,0,1,[]), (42,4,0,-32,[])]) := by rw [iv_g19]; rfl
theorem ivj_19_28 {d : Nat} {st : List Value} {h : iv_H} {l0 l1 l2 l3 : Option Value} : iv_K d 19 28 [l0, l1, l2, l3] st h = iv_sem d 19 28 [l0, l1, none, l3] st h := iv_Kof ivk_19_28
theorem ivs_19_28 {d : Nat} {st : List Value} {h : iv_H} {ls : iv_L} : iv_sem d 19 28 ls st h = iv_x [(72,129,1,51,[]), (15,0,0,0,[]), (11,2,1,0,[]), (14,3,0,1,[]), (42,4,0,-32,[])] ls st h (iv_K d 19) (iv_call d) := iv_Sof ivk_19_28
theorem ivf_19_28 {d : Nat} {st : List Value} {h : iv_H} {l0 l1 l2 l3 : Option Value} : iv_K d 19 28 [l0, l1, l2, l3] st h = iv_x [(72,129,1,51,[]), (15,0,0,0,[]), (11,2,1,0,[]), (14,3,0,1,[]), (42,4,0,-32,[])] [l0, l1, none, l3] st h (iv_K d 19) (iv_call d) := (iv_Kof ivk_19_28).trans (iv_Sof ivk_19_28)
theorem ivk_19_39 : iv_lk (iv_Gb 19) 39 = ([0, 0, 1, 0], [(8,2,1,0,[]), (63,0,0,0,[])]) := by rw [iv_g19]; rfl
theorem ivj_19_39 {d : Nat} {st : List Value} {h : iv_H} {l0 l1 l2 l3 : Option Value} : iv_K d 19 39 [l0, l1, l2, l3] st h = iv_sem d 19 39 [none, none, l2, none] st h := iv_Kof ivk_19_39
theorem ivs_19_39 {d : Nat} {st : List Value} {h : iv_H} {ls : iv_L} : iv_sem d 19 39 ls st h = iv_x [(8,2,1,0,[]), (63,0,0,0,[])] ls st h (iv_K d 19) (iv_call d) := iv_Sof ivk_19_39
theorem ivf_19_39 {d : Nat} {st : List Value} {h : iv_H} {l0 l1 l2 l3 : Option Value} : iv_K d 19 39 [l0, l1, l2, l3] st h = iv_x [(8,2,1,0,[]), (63,0,0,0,[])] [none, none, l2, none] st h (iv_K d 19) (iv_call d) := (iv_Kof ivk_19_39).trans (iv_Sof ivk_19_39)
theorem ivc_19 {d : Nat} {h : iv_H} {p : Nat} {x0 : Int32} : iv_call (d + 1) 19 [.ref p, .int x0] h = iv_sem d 19 0 [some (.ref p), some (.int x0), none, none] [] h := iv_Cof (by decide) ivk_19_0 (Nat.le_of_ble_eq_true rfl)
/-- X1_spokenAs -/
theorem iv_g20 : iv_Gb 20 = iv_b20 := rfl
theorem ivk_20_0 : iv_lk (iv_Gb 20) 0 = ([1, 1, 1, 1, 1, 0], [(10,0,1,0,[]), (47,1,6,24,[]), (0,0,0,5,[]), (8,3,1,0,[]), (1,0,0,10,[]), (18,0,0,0,[]), (15,0,0,0,[]), (17,0,0,0,[]), (11,5,2,0,[]), (8,1,1,0,[]), (45,136,1,34,[48,78,53,88,128])]) := by rw [iv_g20]; rfl
theorem ivj_20_0 {d : Nat} {st : List Value} {h : iv_H} {l0 l1 l2 l3 l4 l5 : Option Value} : iv_K d 20 0 [l0, l1, l2, l3, l4, l5] st h = iv_sem d 20 0 [l0, l1, l2, l3, l4, none] st h := iv_Kof ivk_20_0
theorem ivs_20_0 {d : Nat} {st : List Value} {h : iv_H} {ls : iv_L} : iv_sem d 20 0 ls st h = iv_x [(10,0,1,0,[]), (47,1,6,24,[]), (0,0,0,5,[]), (8,3,1,0,[]), (1,0,0,10,[]), (18,0,0,0,[]), (15,0,0,0,[]), (17,0,0,0,[]), (11,5,2,0,[]), (8,1,1,0,[]), (45,136,1,34,[48,78,53,88,128])] ls st h (iv_K d 20) (iv_call d) := iv_Sof ivk_20_0
theorem ivk_20_48 : iv_lk (iv_Gb 20) 48 = ([0, 0, 0, 0, 0, 1], [(8,5,2,0,[]), (0,0,0,2,[]), (18,0,0,0,[]), (63,0,0,0,[])]) := by rw [iv_g20]; rfl
theorem ivj_20_48 {d : Nat} {st : List Value} {h : iv_H} {l0 l1 l2 l3 l4 l5 : Option Value} : iv_K d 20 48 [l0, l1, l2, l3, l4, l5] st h = iv_sem d 20 48 [none, none, none, none, none, l5] st h := iv_Kof ivk_20_48
theorem ivs_20_48 {d : Nat} {st : List Value} {h : iv_H} {ls : iv_L} : iv_sem d 20 48 ls st h = iv_x [(8,5,2,0,[]), (0,0,0,2,[]), (18,0,0,0,[]), (63,0,0,0,[])] ls st h (iv_K d 20) (iv_call d) := iv_Sof ivk_20_48
theorem ivf_20_48 {d : Nat} {st : List Value} {h : iv_H} {l0 l1 l2 l3 l4 l5 : Option Value} : iv_K d 20 48 [l0, l1, l2, l3, l4, l5] st h = iv_x [(8,5,2,0,[]), (0,0,0,2,[]), (18,0,0,0,[]), (63,0,0,0,[])] [none, none, none, none, none, l5] st h (iv_K d 20) (iv_call d) := (iv_Kof ivk_20_48).trans (iv_Sof ivk_20_48)
theorem ivk_20_53 : iv_lk (iv_Gb 20) 53 = ([1, 0, 1, 1, 1, 1], [(8,4,2,0,[]), (8,3,1,0,[]), (16,0,0,0,[]), (1,0,0,20,[]), (10,0,1,0,[]), (46,1,1,15,[]), (8,2,1,0,[]), (50,0,0,0,[]), (15,0,0,0,[]), (44,73,5,7,[]), (0,0,0,0,[]), (42,77,0,7,[])]) := by rw [iv_g20]; rfl
theorem ivj_20_53 {d : Nat} {st : List Value} {h : iv_H} {l0 l1 l2 l3 l4 l5 : Option Value} : iv_K d 20 53 [l0, l1, l2, l3, l4, l5] st h = iv_sem d 20 53 [l0, none, l2, l3, l4, l5] st h := iv_Kof ivk_20_53
theorem ivs_20_53 {d : Nat} {st : List Value} {h : iv_H} {ls : iv_L} : iv_sem d 20 53 ls st h = iv_x [(8,4,2,0,[]), (8,3,1,0,[]), (16,0,0,0,[]), (1,0,0,20,[]), (10,0,1,0,[]), (46,1,1,15,[]), (8,2,1,0,[]), (50,0,0,0,[]), (15,0,0,0,[]), (44,73,5,7,[]), (0,0,0,0,[]), (42,77,0,7,[])] ls st h (iv_K d 20) (iv_call d) := iv_Sof ivk_20_53
theorem ivf_20_53 {d : Nat} {st : List Value} {h : iv_H} {l0 l1 l2 l3 l4 l5 : Option Value} : iv_K d 20 53 [l0, l1, l2, l3, l4, l5] st h = iv_x [(8,4,2,0,[]), (8,3,1,0,[]), (16,0,0,0,[]), (1,0,0,20,[]), (10,0,1,0,[]), (46,1,1,15,[]), (8,2,1,0,[]), (50,0,0,0,[]), (15,0,0,0,[]), (44,73,5,7,[]), (0,0,0,0,[]), (42,77,0,7,[])] [l0, none, l2, l3, l4, l5] st h (iv_K d 20) (iv_call d) := (iv_Kof ivk_20_53).trans (iv_Sof ivk_20_53)
theorem ivk_20_73 : iv_lk (iv_Gb 20) 73 = ([0, 0, 0, 0, 0, 1], [(8,5,2,0,[]), (0,0,0,2,[]), (18,0,0,0,[]), (71,77,0,0,[])]) := by rw [iv_g20]; rfl
theorem ivj_20_73 {d : Nat} {st : List Value} {h : iv_H} {l0 l1 l2 l3 l4 l5 : Option Value} : iv_K d 20 73 [l0, l1, l2, l3, l4, l5] st h = iv_sem d 20 73 [none, none, none, none, none, l5] st h := iv_Kof ivk_20_73
theorem ivs_20_73 {d : Nat} {st : List Value} {h : iv_H} {ls : iv_L} : iv_sem d 20 73 ls st h = iv_x [(8,5,2,0,[]), (0,0,0,2,[]), (18,0,0,0,[]), (71,77,0,0,[])] ls st h (iv_K d 20) (iv_call d) := iv_Sof ivk_20_73
theorem ivf_20_73 {d : Nat} {st : List Value} {h : iv_H} {l0 l1 l2 l3 l4 l5 : Option Value} : iv_K d 20 73 [l0, l1, l2, l3, l4, l5] st h = iv_x [(8,5,2,0,[]), (0,0,0,2,[]), (18,0,0,0,[]), (71,77,0,0,[])] [none, none, none, none, none, l5] st h (iv_K d 20) (iv_call d) := (iv_Kof ivk_20_73).trans (iv_Sof ivk_20_73)
theorem ivk_20_77 : iv_lk (iv_Gb 20) 77 = ([0, 0, 0, 0, 0, 0], [(63,0,0,0,[])]) := by rw [iv_g20]; rfl
theorem ivj_20_77 {d : Nat} {st : List Value} {h : iv_H} {l0 l1 l2 l3 l4 l5 : Option Value} : iv_K d 20 77 [l0, l1, l2, l3, l4, l5] st h = iv_sem d 20 77 [none, none, none, none, none, none] st h := iv_Kof ivk_20_77
theorem ivs_20_77 {d : Nat} {st : List Value} {h : iv_H} {ls : iv_L} : iv_sem d 20 77 ls st h = iv_x [(63,0,0,0,[])] ls st h (iv_K d 20) (iv_call d) := iv_Sof ivk_20_77
theorem ivf_20_77 {d : Nat} {st : List Value} {h : iv_H} {l0 l1 l2 l3 l4 l5 : Option Value} : iv_K d 20 77 [l0, l1, l2, l3, l4, l5] st h = iv_x [(63,0,0,0,[])] [none, none, none, none, none, none] st h (iv_K d 20) (iv_call d) := (iv_Kof ivk_20_77).trans (iv_Sof ivk_20_77)
theorem ivk_20_78 : iv_lk (iv_Gb 20) 78 = ([1, 0, 1, 0, 0, 1], [(8,5,2,0,[]), (10,0,1,0,[]), (46,1,1,15,[]), (8,2,1,0,[]), (50,0,0,0,[]), (15,0,0,0,[]), (63,0,0,0,[])]) := by rw [iv_g20]; rfl
theorem ivj_20_78 {d : Nat} {st : List Value} {h : iv_H} {l0 l1 l2 l3 l4 l5 : Option Value} : iv_K d 20 78 [l0, l1, l2, l3, l4, l5] st h = iv_sem d 20 78 [l0, none, l2, none, none, l5] st h := iv_Kof ivk_20_78
theorem ivs_20_78 {d : Nat} {st : List Value} {h : iv_H} {ls : iv_L} : iv_sem d 20 78 ls st h = iv_x [(8,5,2,0,[]), (10,0,1,0,[]), (46,1,1,15,[]), (8,2,1,0,[]), (50,0,0,0,[]), (15,0,0,0,[]), (63,0,0,0,[])] ls st h (iv_K d 20) (iv_call d) := iv_Sof ivk_20_78
theorem ivf_20_78 {d : Nat} {st : List Value} {h : iv_H} {l0 l1 l2 l3 l4 l5 : Option Value} : iv_K d 20 78 [l0, l1, l2, l3, l4, l5] st h = iv_x [(8,5,2,0,[]), (10,0,1,0,[]), (46,1,1,15,[]), (8,2,1,0,[]), (50,0,0,0,[]), (15,0,0,0,[]), (63,0,0,0,[])] [l0, none, l2, none, none, l5] st h (iv_K d 20) (iv_call d) := (iv_Kof ivk_20_78).trans (iv_Sof ivk_20_78)
theorem ivk_20_88 : iv_lk (iv_Gb 20) 88 = ([1, 0, 1, 1, 1, 1], [(8,3,1,0,[]), (8,4,2,0,[]), (16,0,0,0,[]), (1,0,0,10,[]), (10,0,1,0,[]), (46,1,1,15,[]), (8,2,1,0,[]), (50,0,0,0,[]), (15,0,0,0,[]), (44,118,5,17,[]), (8,5,2,0,[]), (10,0,1,0,[]), (46,1,1,15,[]), (8,2,1,0,[]), (50,0,0,0,[]), (15,0,0,0,[]), (0,0,0,2,[]), (18,0,0,0,[]), (42,127,0,12,[])]) := by rw [iv_g20]; rfl
theorem ivj_20_88 {d : Nat} {st : List Value} {h : iv_H} {l0 l1 l2 l3 l4 l5 : Option Value} : iv_K d 20 88 [l0, l1, l2, l3, l4, l5] st h = iv_sem d 20 88 [l0, none, l2, l3, l4, l5] st h := iv_Kof ivk_20_88
theorem ivs_20_88 {d : Nat} {st : List Value} {h : iv_H} {ls : iv_L} : iv_sem d 20 88 ls st h = iv_x [(8,3,1,0,[]), (8,4,2,0,[]), (16,0,0,0,[]), (1,0,0,10,[]), (10,0,1,0,[]), (46,1,1,15,[]), (8,2,1,0,[]), (50,0,0,0,[]), (15,0,0,0,[]), (44,118,5,17,[]), (8,5,2,0,[]), (10,0,1,0,[]), (46,1,1,15,[]), (8,2,1,0,[]), (50,0,0,0,[]), (15,0,0,0,[]), (0,0,0,2,[]), (18,0,0,0,[]), (42,127,0,12,[])] ls st h (iv_K d 20) (iv_call d) := iv_Sof ivk_20_88
theorem ivf_20_88 {d : Nat} {st : List Value} {h : iv_H} {l0 l1 l2 l3 l4 l5 : Option Value} : iv_K d 20 88 [l0, l1, l2, l3, l4, l5] st h = iv_x [(8,3,1,0,[]), (8,4,2,0,[]), (16,0,0,0,[]), (1,0,0,10,[]), (10,0,1,0,[]), (46,1,1,15,[]), (8,2,1,0,[]), (50,0,0,0,[]), (15,0,0,0,[]), (44,118,5,17,[]), (8,5,2,0,[]), (10,0,1,0,[]), (46,1,1,15,[]), (8,2,1,0,[]), (50,0,0,0,[]), (15,0,0,0,[]), (0,0,0,2,[]), (18,0,0,0,[]), (42,127,0,12,[])] [l0, none, l2, l3, l4, l5] st h (iv_K d 20) (iv_call d) := (iv_Kof ivk_20_88).trans (iv_Sof ivk_20_88)
theorem ivk_20_118 : iv_lk (iv_Gb 20) 118 = ([1, 0, 1, 0, 0, 1], [(8,5,2,0,[]), (10,0,1,0,[]), (46,1,1,15,[]), (8,2,1,0,[]), (50,0,0,0,[]), (15,0,0,0,[]), (71,127,0,0,[])]) := by rw [iv_g20]; rfl
theorem ivj_20_118 {d : Nat} {st : List Value} {h : iv_H} {l0 l1 l2 l3 l4 l5 : Option Value} : iv_K d 20 118 [l0, l1, l2, l3, l4, l5] st h = iv_sem d 20 118 [l0, none, l2, none, none, l5] st h := iv_Kof ivk_20_118
theorem ivs_20_118 {d : Nat} {st : List Value} {h : iv_H} {ls : iv_L} : iv_sem d 20 118 ls st h = iv_x [(8,5,2,0,[]), (10,0,1,0,[]), (46,1,1,15,[]), (8,2,1,0,[]), (50,0,0,0,[]), (15,0,0,0,[]), (71,127,0,0,[])] ls st h (iv_K d 20) (iv_call d) := iv_Sof ivk_20_118
theorem ivf_20_118 {d : Nat} {st : List Value} {h : iv_H} {l0 l1 l2 l3 l4 l5 : Option Value} : iv_K d 20 118 [l0, l1, l2, l3, l4, l5] st h = iv_x [(8,5,2,0,[]), (10,0,1,0,[]), (46,1,1,15,[]), (8,2,1,0,[]), (50,0,0,0,[]), (15,0,0,0,[]), (71,127,0,0,[])] [l0, none, l2, none, none, l5] st h (iv_K d 20) (iv_call d) := (iv_Kof ivk_20_118).trans (iv_Sof ivk_20_118)
theorem ivk_20_127 : iv_lk (iv_Gb 20) 127 = ([0, 0, 0, 0, 0, 0], [(63,0,0,0,[])]) := by rw [iv_g20]; rfl
theorem ivj_20_127 {d : Nat} {st : List Value} {h : iv_H} {l0 l1 l2 l3 l4 l5 : Option Value} : iv_K d 20 127 [l0, l1, l2, l3, l4, l5] st h = iv_sem d 20 127 [none, none, none, none, none, none] st h := iv_Kof ivk_20_127
theorem ivs_20_127 {d : Nat} {st : List Value} {h : iv_H} {ls : iv_L} : iv_sem d 20 127 ls st h = iv_x [(63,0,0,0,[])] ls st h (iv_K d 20) (iv_call d) := iv_Sof ivk_20_127
theorem ivf_20_127 {d : Nat} {st : List Value} {h : iv_H} {l0 l1 l2 l3 l4 l5 : Option Value} : iv_K d 20 127 [l0, l1, l2, l3, l4, l5] st h = iv_x [(63,0,0,0,[])] [none, none, none, none, none, none] st h (iv_K d 20) (iv_call d) := (iv_Kof ivk_20_127).trans (iv_Sof ivk_20_127)
theorem ivk_20_128 : iv_lk (iv_Gb 20) 128 = ([1, 0, 0, 0, 0, 0], [(10,0,1,0,[]), (47,1,6,24,[]), (1,0,0,10,[]), (17,0,0,0,[]), (63,0,0,0,[])]) := by rw [iv_g20]; rfl
theorem ivj_20_128 {d : Nat} {st : List Value} {h : iv_H} {l0 l1 l2 l3 l4 l5 : Option Value} : iv_K d 20 128 [l0, l1, l2, l3, l4, l5] st h = iv_sem d 20 128 [l0, none, none, none, none, none] st h := iv_Kof ivk_20_128
theorem ivs_20_128 {d : Nat} {st : List Value} {h : iv_H} {ls : iv_L} : iv_sem d 20 128 ls st h = iv_x [(10,0,1,0,[]), (47,1,6,24,[]), (1,0,0,10,[]), (17,0,0,0,[]), (63,0,0,0,[])] ls st h (iv_K d 20) (iv_call d) := iv_Sof ivk_20_128
theorem ivf_20_128 {d : Nat} {st : List Value} {h : iv_H} {l0 l1 l2 l3 l4 l5 : Option Value} : iv_K d 20 128 [l0, l1, l2, l3, l4, l5] st h = iv_x [(10,0,1,0,[]), (47,1,6,24,[]), (1,0,0,10,[]), (17,0,0,0,[]), (63,0,0,0,[])] [l0, none, none, none, none, none] st h (iv_K d 20) (iv_call d) := (iv_Kof ivk_20_128).trans (iv_Sof ivk_20_128)
theorem ivk_20_136 : iv_lk (iv_Gb 20) 136 = ([0, 0, 0, 0, 0, 1], [(8,5,2,0,[]), (63,0,0,0,[])]) := by rw [iv_g20]; rfl
theorem ivj_20_136 {d : Nat} {st : List Value} {h : iv_H} {l0 l1 l2 l3 l4 l5 : Option Value} : iv_K d 20 136 [l0, l1, l2, l3, l4, l5] st h = iv_sem d 20 136 [none, none, none, none, none, l5] st h := iv_Kof ivk_20_136
theorem ivs_20_136 {d : Nat} {st : List Value} {h : iv_H} {ls : iv_L} : iv_sem d 20 136 ls st h = iv_x [(8,5,2,0,[]), (63,0,0,0,[])] ls st h (iv_K d 20) (iv_call d) := iv_Sof ivk_20_136
theorem ivf_20_136 {d : Nat} {st : List Value} {h : iv_H} {l0 l1 l2 l3 l4 l5 : Option Value} : iv_K d 20 136 [l0, l1, l2, l3, l4, l5] st h = iv_x [(8,5,2,0,[]), (63,0,0,0,[])] [none, none, none, none, none, l5] st h (iv_K d 20) (iv_call d) := (iv_Kof ivk_20_136).trans (iv_Sof ivk_20_136)
theorem ivc_20 {d : Nat} {h : iv_H} {p : Nat} {x0 : Int32} {x1 : Int32} {x2 : Int32} {x3 : Int32} : iv_call (d + 1) 20 [.ref p, .int x0, .int x1, .int x2, .int x3] h = iv_sem d 20 0 [some (.ref p), some (.int x0), some (.int x1), some (.int x2), some (.int x3), none] [] h := iv_Cof (by decide) ivk_20_0 (Nat.le_of_ble_eq_true rfl)
/-- X1_spoken -/
theorem iv_g21 : iv_Gb 21 = iv_b21 := rfl
theorem ivk_21_0 : iv_lk (iv_Gb 21) 0 = ([1, 1, 1], [(10,0,1,0,[]), (10,0,1,0,[]), (46,1,0,9,[]), (8,1,1,0,[]), (50,0,0,0,[]), (8,1,1,0,[]), (10,0,1,0,[]), (46,1,2,18,[]), (8,1,1,0,[]), (50,0,0,0,[]), (10,0,1,0,[]), (46,1,2,18,[]), (8,2,1,0,[]), (50,0,0,0,[]), (66,20,4,55,[1]), (63,0,0,0,[])]) := by rw [iv_g21]; rfl
theorem ivj_21_0 {d : Nat} {st : List Value} {h : iv_H} {l0 l1 l2 : Option Value} : iv_K d 21 0 [l0, l1, l2] st h = iv_sem d 21 0 [l0, l1, l2] st h := iv_Kof ivk_21_0
theorem ivs_21_0 {d : Nat} {st : List Value} {h : iv_H} {ls : iv_L} : iv_sem d 21 0 ls st h = iv_x [(10,0,1,0,[]), (10,0,1,0,[]), (46,1,0,9,[]), (8,1,1,0,[]), (50,0,0,0,[]), (8,1,1,0,[]), (10,0,1,0,[]), (46,1,2,18,[]), (8,1,1,0,[]), (50,0,0,0,[]), (10,0,1,0,[]), (46,1,2,18,[]), (8,2,1,0,[]), (50,0,0,0,[]), (66,20,4,55,[1]), (63,0,0,0,[])] ls st h (iv_K d 21) (iv_call d) := iv_Sof ivk_21_0
theorem ivc_21 {d : Nat} {h : iv_H} {p : Nat} {x0 : Int32} {x1 : Int32} : iv_call (d + 1) 21 [.ref p, .int x0, .int x1] h = iv_sem d 21 0 [some (.ref p), some (.int x0), some (.int x1)] [] h := iv_Cof (by decide) ivk_21_0 (Nat.le_of_ble_eq_true rfl)
/-- X1_gained -/
theorem iv_g22 : iv_Gb 22 = iv_b22 := rfl
theorem ivk_22_0 : iv_lk (iv_Gb 22) 0 = ([1, 1, 1, 0], [(10,0,1,0,[]), (46,1,0,9,[]), (8,1,1,0,[]), (50,0,0,0,[]), (0,0,0,5,[]), (44,12,1,5,[]), (0,0,0,0,[]), (63,0,0,0,[])]) := by rw [iv_g22]; rfl
theorem ivj_22_0 {d : Nat} {st : List Value} {h : iv_H} {l0 l1 l2 l3 : Option Value} : iv_K d 22 0 [l0, l1, l2, l3] st h = iv_sem d 22 0 [l0, l1, l2, none] st h := iv_Kof ivk_22_0
theorem ivs_22_0 {d : Nat} {st : List Value} {h : iv_H} {ls : iv_L} : iv_sem d 22 0 ls st h = iv_x [(10,0,1,0,[]), (46,1,0,9,[]), (8,1,1,0,[]), (50,0,0,0,[]), (0,0,0,5,[]), (44,12,1,5,[]), (0,0,0,0,[]), (63,0,0,0,[])] ls st h (iv_K d 22) (iv_call d) := iv_Sof ivk_22_0
theorem ivk_22_12 : iv_lk (iv_Gb 22) 12 = ([1, 1, 1, 0], [(10,0,1,0,[]), (8,1,1,0,[]), (8,2,1,0,[]), (66,21,2,59,[1]), (10,0,1,0,[]), (8,2,1,0,[]), (8,1,1,0,[]), (66,21,2,59,[1]), (0,0,0,2,[]), (18,0,0,0,[]), (15,0,0,0,[]), (1,0,0,10,[]), (18,0,0,0,[]), (11,3,1,0,[]), (10,0,1,0,[]), (46,1,2,18,[]), (8,1,1,0,[]), (50,0,0,0,[]), (10,0,1,0,[]), (46,1,2,18,[]), (8,2,1,0,[]), (50,0,0,0,[]), (16,0,0,0,[]), (67,260,1,63,[]), (1,0,0,40,[]), (44,58,5,9,[]), (8,3,1,0,[]), (0,0,0,2,[]), (18,0,0,0,[]), (42,59,0,4,[])]) := by rw [iv_g22]; rfl
theorem ivj_22_12 {d : Nat} {st : List Value} {h : iv_H} {l0 l1 l2 l3 : Option Value} : iv_K d 22 12 [l0, l1, l2, l3] st h = iv_sem d 22 12 [l0, l1, l2, none] st h := iv_Kof ivk_22_12
theorem ivs_22_12 {d : Nat} {st : List Value} {h : iv_H} {ls : iv_L} : iv_sem d 22 12 ls st h = iv_x [(10,0,1,0,[]), (8,1,1,0,[]), (8,2,1,0,[]), (66,21,2,59,[1]), (10,0,1,0,[]), (8,2,1,0,[]), (8,1,1,0,[]), (66,21,2,59,[1]), (0,0,0,2,[]), (18,0,0,0,[]), (15,0,0,0,[]), (1,0,0,10,[]), (18,0,0,0,[]), (11,3,1,0,[]), (10,0,1,0,[]), (46,1,2,18,[]), (8,1,1,0,[]), (50,0,0,0,[]), (10,0,1,0,[]), (46,1,2,18,[]), (8,2,1,0,[]), (50,0,0,0,[]), (16,0,0,0,[]), (67,260,1,63,[]), (1,0,0,40,[]), (44,58,5,9,[]), (8,3,1,0,[]), (0,0,0,2,[]), (18,0,0,0,[]), (42,59,0,4,[])] ls st h (iv_K d 22) (iv_call d) := iv_Sof ivk_22_12
theorem ivf_22_12 {d : Nat} {st : List Value} {h : iv_H} {l0 l1 l2 l3 : Option Value} : iv_K d 22 12 [l0, l1, l2, l3] st h = iv_x [(10,0,1,0,[]), (8,1,1,0,[]), (8,2,1,0,[]), (66,21,2,59,[1]), (10,0,1,0,[]), (8,2,1,0,[]), (8,1,1,0,[]), (66,21,2,59,[1]), (0,0,0,2,[]), (18,0,0,0,[]), (15,0,0,0,[]), (1,0,0,10,[]), (18,0,0,0,[]), (11,3,1,0,[]), (10,0,1,0,[]), (46,1,2,18,[]), (8,1,1,0,[]), (50,0,0,0,[]), (10,0,1,0,[]), (46,1,2,18,[]), (8,2,1,0,[]), (50,0,0,0,[]), (16,0,0,0,[]), (67,260,1,63,[]), (1,0,0,40,[]), (44,58,5,9,[]), (8,3,1,0,[]), (0,0,0,2,[]), (18,0,0,0,[]), (42,59,0,4,[])] [l0, l1, l2, none] st h (iv_K d 22) (iv_call d) := (iv_Kof ivk_22_12).trans (iv_Sof ivk_22_12)
theorem ivk_22_58 : iv_lk (iv_Gb 22) 58 = ([0, 0, 0, 1], [(8,3,1,0,[]), (71,59,0,0,[])]) := by rw [iv_g22]; rfl
theorem ivj_22_58 {d : Nat} {st : List Value} {h : iv_H} {l0 l1 l2 l3 : Option Value} : iv_K d 22 58 [l0, l1, l2, l3] st h = iv_sem d 22 58 [none, none, none, l3] st h := iv_Kof ivk_22_58
theorem ivs_22_58 {d : Nat} {st : List Value} {h : iv_H} {ls : iv_L} : iv_sem d 22 58 ls st h = iv_x [(8,3,1,0,[]), (71,59,0,0,[])] ls st h (iv_K d 22) (iv_call d) := iv_Sof ivk_22_58
theorem ivf_22_58 {d : Nat} {st : List Value} {h : iv_H} {l0 l1 l2 l3 : Option Value} : iv_K d 22 58 [l0, l1, l2, l3] st h = iv_x [(8,3,1,0,[]), (71,59,0,0,[])] [none, none, none, l3] st h (iv_K d 22) (iv_call d) := (iv_Kof ivk_22_58).trans (iv_Sof ivk_22_58)
theorem ivk_22_59 : iv_lk (iv_Gb 22) 59 = ([0, 0, 0, 0], [(63,0,0,0,[])]) := by rw [iv_g22]; rfl
theorem ivj_22_59 {d : Nat} {st : List Value} {h : iv_H} {l0 l1 l2 l3 : Option Value} : iv_K d 22 59 [l0, l1, l2, l3] st h = iv_sem d 22 59 [none, none, none, none] st h := iv_Kof ivk_22_59
theorem ivs_22_59 {d : Nat} {st : List Value} {h : iv_H} {ls : iv_L} : iv_sem d 22 59 ls st h = iv_x [(63,0,0,0,[])] ls st h (iv_K d 22) (iv_call d) := iv_Sof ivk_22_59
theorem ivf_22_59 {d : Nat} {st : List Value} {h : iv_H} {l0 l1 l2 l3 : Option Value} : iv_K d 22 59 [l0, l1, l2, l3] st h = iv_x [(63,0,0,0,[])] [none, none, none, none] st h (iv_K d 22) (iv_call d) := (iv_Kof ivk_22_59).trans (iv_Sof ivk_22_59)
theorem ivc_22 {d : Nat} {h : iv_H} {p : Nat} {x0 : Int32} {x1 : Int32} : iv_call (d + 1) 22 [.ref p, .int x0, .int x1] h = iv_sem d 22 0 [some (.ref p), some (.int x0), some (.int x1), none] [] h := iv_Cof (by decide) ivk_22_0 (Nat.le_of_ble_eq_true rfl)
/-- X1_gainedByBoth -/
theorem iv_g23 : iv_Gb 23 = iv_b23 := rfl
theorem ivk_23_0 : iv_lk (iv_Gb 23) 0 = ([1, 1, 1], [(10,0,1,0,[]), (8,1,1,0,[]), (8,2,1,0,[]), (66,22,2,69,[1]), (10,0,1,0,[]), (8,2,1,0,[]), (8,1,1,0,[]), (66,22,2,69,[1]), (15,0,0,0,[]), (63,0,0,0,[])]) := by rw [iv_g23]; rfl
theorem ivj_23_0 {d : Nat} {st : List Value} {h : iv_H} {l0 l1 l2 : Option Value} : iv_K d 23 0 [l0, l1, l2] st h = iv_sem d 23 0 [l0, l1, l2] st h := iv_Kof ivk_23_0
theorem ivs_23_0 {d : Nat} {st : List Value} {h : iv_H} {ls : iv_L} : iv_sem d 23 0 ls st h = iv_x [(10,0,1,0,[]), (8,1,1,0,[]), (8,2,1,0,[]), (66,22,2,69,[1]), (10,0,1,0,[]), (8,2,1,0,[]), (8,1,1,0,[]), (66,22,2,69,[1]), (15,0,0,0,[]), (63,0,0,0,[])] ls st h (iv_K d 23) (iv_call d) := iv_Sof ivk_23_0
theorem ivc_23 {d : Nat} {h : iv_H} {p : Nat} {x0 : Int32} {x1 : Int32} : iv_call (d + 1) 23 [.ref p, .int x0, .int x1] h = iv_sem d 23 0 [some (.ref p), some (.int x0), some (.int x1)] [] h := iv_Cof (by decide) ivk_23_0 (Nat.le_of_ble_eq_true rfl)
/-- X1_isWrongBehind -/
theorem iv_g24 : iv_Gb 24 = iv_b24 := rfl
theorem ivk_24_0 : iv_lk (iv_Gb 24) 0 = ([1, 1, 1], [(10,0,1,0,[]), (8,1,1,0,[]), (66,14,1,72,[1]), (10,0,1,0,[]), (8,2,1,0,[]), (66,14,1,72,[1]), (44,28,0,18,[]), (10,0,1,0,[]), (8,1,1,0,[]), (8,2,1,0,[]), (66,21,2,59,[1]), (10,0,1,0,[]), (8,2,1,0,[]), (8,1,1,0,[]), (66,21,2,59,[1]), (44,34,2,9,[]), (71,28,0,0,[])]) := by rw [iv_g24]; rfl
theorem ivj_24_0 {d : Nat} {st : List Value} {h : iv_H} {l0 l1 l2 : Option Value} : iv_K d 24 0 [l0, l1, l2] st h = iv_sem d 24 0 [l0, l1, l2] st h := iv_Kof ivk_24_0
theorem ivs_24_0 {d : Nat} {st : List Value} {h : iv_H} {ls : iv_L} : iv_sem d 24 0 ls st h = iv_x [(10,0,1,0,[]), (8,1,1,0,[]), (66,14,1,72,[1]), (10,0,1,0,[]), (8,2,1,0,[]), (66,14,1,72,[1]), (44,28,0,18,[]), (10,0,1,0,[]), (8,1,1,0,[]), (8,2,1,0,[]), (66,21,2,59,[1]), (10,0,1,0,[]), (8,2,1,0,[]), (8,1,1,0,[]), (66,21,2,59,[1]), (44,34,2,9,[]), (71,28,0,0,[])] ls st h (iv_K d 24) (iv_call d) := iv_Sof ivk_24_0
theorem ivk_24_28 : iv_lk (iv_Gb 24) 28 = ([1, 1, 0], [(10,0,1,0,[]), (8,1,1,0,[]), (66,14,1,72,[1]), (63,1,0,0,[])]) := by rw [iv_g24]; rfl
theorem ivj_24_28 {d : Nat} {st : List Value} {h : iv_H} {l0 l1 l2 : Option Value} : iv_K d 24 28 [l0, l1, l2] st h = iv_sem d 24 28 [l0, l1, none] st h := iv_Kof ivk_24_28
theorem ivs_24_28 {d : Nat} {st : List Value} {h : iv_H} {ls : iv_L} : iv_sem d 24 28 ls st h = iv_x [(10,0,1,0,[]), (8,1,1,0,[]), (66,14,1,72,[1]), (63,1,0,0,[])] ls st h (iv_K d 24) (iv_call d) := iv_Sof ivk_24_28
theorem ivf_24_28 {d : Nat} {st : List Value} {h : iv_H} {l0 l1 l2 : Option Value} : iv_K d 24 28 [l0, l1, l2] st h = iv_x [(10,0,1,0,[]), (8,1,1,0,[]), (66,14,1,72,[1]), (63,1,0,0,[])] [l0, l1, none] st h (iv_K d 24) (iv_call d) := (iv_Kof ivk_24_28).trans (iv_Sof ivk_24_28)
theorem ivk_24_34 : iv_lk (iv_Gb 24) 34 = ([1, 1, 1], [(10,0,1,0,[]), (8,2,1,0,[]), (66,14,1,72,[1]), (43,56,0,17,[]), (10,0,1,0,[]), (46,1,0,9,[]), (8,1,1,0,[]), (50,0,0,0,[]), (0,0,0,5,[]), (44,56,0,7,[]), (0,0,0,1,[]), (42,57,0,4,[])]) := by rw [iv_g24]; rfl
theorem ivj_24_34 {d : Nat} {st : List Value} {h : iv_H} {l0 l1 l2 : Option Value} : iv_K d 24 34 [l0, l1, l2] st h = iv_sem d 24 34 [l0, l1, l2] st h := iv_Kof ivk_24_34
theorem ivs_24_34 {d : Nat} {st : List Value} {h : iv_H} {ls : iv_L} : iv_sem d 24 34 ls st h = iv_x [(10,0,1,0,[]), (8,2,1,0,[]), (66,14,1,72,[1]), (43,56,0,17,[]), (10,0,1,0,[]), (46,1,0,9,[]), (8,1,1,0,[]), (50,0,0,0,[]), (0,0,0,5,[]), (44,56,0,7,[]), (0,0,0,1,[]), (42,57,0,4,[])] ls st h (iv_K d 24) (iv_call d) := iv_Sof ivk_24_34
theorem ivf_24_34 {d : Nat} {st : List Value} {h : iv_H} {l0 l1 l2 : Option Value} : iv_K d 24 34 [l0, l1, l2] st h = iv_x [(10,0,1,0,[]), (8,2,1,0,[]), (66,14,1,72,[1]), (43,56,0,17,[]), (10,0,1,0,[]), (46,1,0,9,[]), (8,1,1,0,[]), (50,0,0,0,[]), (0,0,0,5,[]), (44,56,0,7,[]), (0,0,0,1,[]), (42,57,0,4,[])] [l0, l1, l2] st h (iv_K d 24) (iv_call d) := (iv_Kof ivk_24_34).trans (iv_Sof ivk_24_34)
theorem ivk_24_56 : iv_lk (iv_Gb 24) 56 = ([0, 0, 0], [(0,0,0,0,[]), (71,57,0,0,[])]) := by rw [iv_g24]; rfl
theorem ivj_24_56 {d : Nat} {st : List Value} {h : iv_H} {l0 l1 l2 : Option Value} : iv_K d 24 56 [l0, l1, l2] st h = iv_sem d 24 56 [none, none, none] st h := iv_Kof ivk_24_56
theorem ivs_24_56 {d : Nat} {st : List Value} {h : iv_H} {ls : iv_L} : iv_sem d 24 56 ls st h = iv_x [(0,0,0,0,[]), (71,57,0,0,[])] ls st h (iv_K d 24) (iv_call d) := iv_Sof ivk_24_56
theorem ivf_24_56 {d : Nat} {st : List Value} {h : iv_H} {l0 l1 l2 : Option Value} : iv_K d 24 56 [l0, l1, l2] st h = iv_x [(0,0,0,0,[]), (71,57,0,0,[])] [none, none, none] st h (iv_K d 24) (iv_call d) := (iv_Kof ivk_24_56).trans (iv_Sof ivk_24_56)
theorem ivk_24_57 : iv_lk (iv_Gb 24) 57 = ([0, 0, 0], [(63,1,0,0,[])]) := by rw [iv_g24]; rfl
theorem ivj_24_57 {d : Nat} {st : List Value} {h : iv_H} {l0 l1 l2 : Option Value} : iv_K d 24 57 [l0, l1, l2] st h = iv_sem d 24 57 [none, none, none] st h := iv_Kof ivk_24_57
theorem ivs_24_57 {d : Nat} {st : List Value} {h : iv_H} {ls : iv_L} : iv_sem d 24 57 ls st h = iv_x [(63,1,0,0,[])] ls st h (iv_K d 24) (iv_call d) := iv_Sof ivk_24_57
theorem ivf_24_57 {d : Nat} {st : List Value} {h : iv_H} {l0 l1 l2 : Option Value} : iv_K d 24 57 [l0, l1, l2] st h = iv_x [(63,1,0,0,[])] [none, none, none] st h (iv_K d 24) (iv_call d) := (iv_Kof ivk_24_57).trans (iv_Sof ivk_24_57)
theorem ivc_24 {d : Nat} {h : iv_H} {p : Nat} {x0 : Int32} {x1 : Int32} : iv_call (d + 1) 24 [.ref p, .int x0, .int x1] h = iv_sem d 24 0 [some (.ref p), some (.int x0), some (.int x1)] [] h := iv_Cof (by decide) ivk_24_0 (Nat.le_of_ble_eq_true rfl)
/-- X1_meet -/
theorem iv_g25 : iv_Gb 25 = iv_b25 := rfl
theorem ivk_25_0 : iv_lk (iv_Gb 25) 0 = ([1, 1, 1, 0, 0, 0, 0], [(10,0,1,0,[]), (8,1,1,0,[]), (8,2,1,0,[]), (66,22,2,69,[1]), (11,3,1,0,[]), (10,0,1,0,[]), (8,2,1,0,[]), (8,1,1,0,[]), (66,22,2,69,[1]), (11,4,2,0,[]), (10,0,1,0,[]), (8,1,1,0,[]), (8,2,1,0,[]), (66,24,2,75,[1]), (11,5,2,0,[]), (10,0,1,0,[]), (8,2,1,0,[]), (8,1,1,0,[]), (66,24,2,75,[1]), (11,6,2,0,[]), (10,0,1,0,[]), (8,1,1,0,[]), (8,5,2,0,[]), (66,15,2,47,[1]), (10,0,1,0,[]), (8,2,1,0,[]), (8,6,2,0,[]), (66,15,2,47,[1]), (10,0,1,0,[]), (46,1,2,18,[]), (8,1,1,0,[]), (1,0,0,99,[]), (10,0,1,0,[]), (46,1,2,18,[]), (8,1,1,0,[]), (50,0,0,0,[]), (8,3,1,0,[]), (15,0,0,0,[]), (67,263,2,79,[]), (54,0,0,0,[]), (10,0,1,0,[]), (46,1,2,18,[]), (8,2,1,0,[]), (1,0,0,99,[]), (10,0,1,0,[]), (46,1,2,18,[]), (8,2,1,0,[]), (50,0,0,0,[]), (8,4,2,0,[]), (15,0,0,0,[]), (67,263,2,79,[]), (54,0,0,0,[]), (10,0,1,0,[]), (46,1,3,21,[]), (8,1,1,0,[]), (41,0,0,0,[]), (50,0,0,0,[]), (0,0,0,1,[]), (8,2,1,0,[]), (24,0,0,0,[]), (22,0,0,0,[]), (54,0,0,0,[]), (10,0,1,0,[]), (46,1,3,21,[]), (8,2,1,0,[]), (41,0,0,0,[]), (50,0,0,0,[]), (0,0,0,1,[]), (8,1,1,0,[]), (24,0,0,0,[]), (22,0,0,0,[]), (54,0,0,0,[]), (8,3,1,0,[]), (8,4,2,0,[]), (15,0,0,0,[]), (63,0,0,0,[])]) := by rw [iv_g25]; rfl
theorem ivj_25_0 {d : Nat} {st : List Value} {h : iv_H} {l0 l1 l2 l3 l4 l5 l6 : Option Value} : iv_K d 25 0 [l0, l1, l2, l3, l4, l5, l6] st h = iv_sem d 25 0 [l0, l1, l2, none, none, none, none] st h := iv_Kof ivk_25_0
theorem ivs_25_0 {d : Nat} {st : List Value} {h : iv_H} {ls : iv_L} : iv_sem d 25 0 ls st h = iv_x [(10,0,1,0,[]), (8,1,1,0,[]), (8,2,1,0,[]), (66,22,2,69,[1]), (11,3,1,0,[]), (10,0,1,0,[]), (8,2,1,0,[]), (8,1,1,0,[]), (66,22,2,69,[1]), (11,4,2,0,[]), (10,0,1,0,[]), (8,1,1,0,[]), (8,2,1,0,[]), (66,24,2,75,[1]), (11,5,2,0,[]), (10,0,1,0,[]), (8,2,1,0,[]), (8,1,1,0,[]), (66,24,2,75,[1]), (11,6,2,0,[]), (10,0,1,0,[]), (8,1,1,0,[]), (8,5,2,0,[]), (66,15,2,47,[1]), (10,0,1,0,[]), (8,2,1,0,[]), (8,6,2,0,[]), (66,15,2,47,[1]), (10,0,1,0,[]), (46,1,2,18,[]), (8,1,1,0,[]), (1,0,0,99,[]), (10,0,1,0,[]), (46,1,2,18,[]), (8,1,1,0,[]), (50,0,0,0,[]), (8,3,1,0,[]), (15,0,0,0,[]), (67,263,2,79,[]), (54,0,0,0,[]), (10,0,1,0,[]), (46,1,2,18,[]), (8,2,1,0,[]), (1,0,0,99,[]), (10,0,1,0,[]), (46,1,2,18,[]), (8,2,1,0,[]), (50,0,0,0,[]), (8,4,2,0,[]), (15,0,0,0,[]), (67,263,2,79,[]), (54,0,0,0,[]), (10,0,1,0,[]), (46,1,3,21,[]), (8,1,1,0,[]), (41,0,0,0,[]), (50,0,0,0,[]), (0,0,0,1,[]), (8,2,1,0,[]), (24,0,0,0,[]), (22,0,0,0,[]), (54,0,0,0,[]), (10,0,1,0,[]), (46,1,3,21,[]), (8,2,1,0,[]), (41,0,0,0,[]), (50,0,0,0,[]), (0,0,0,1,[]), (8,1,1,0,[]), (24,0,0,0,[]), (22,0,0,0,[]), (54,0,0,0,[]), (8,3,1,0,[]), (8,4,2,0,[]), (15,0,0,0,[]), (63,0,0,0,[])] ls st h (iv_K d 25) (iv_call d) := iv_Sof ivk_25_0
theorem ivc_25 {d : Nat} {h : iv_H} {p : Nat} {x0 : Int32} {x1 : Int32} : iv_call (d + 1) 25 [.ref p, .int x0, .int x1] h = iv_sem d 25 0 [some (.ref p), some (.int x0), some (.int x1), none, none, none, none] [] h := iv_Cof (by decide) ivk_25_0 (Nat.le_of_ble_eq_true rfl)
/-- X1_roundCount -/
theorem iv_g26 : iv_Gb 26 = iv_b26 := rfl
theorem ivk_26_0 : iv_lk (iv_Gb 26) 0 = ([1], [(10,0,1,0,[]), (47,1,5,37,[]), (43,11,1,7,[]), (0,0,0,0,[]), (42,24,0,16,[])]) := by rw [iv_g26]; rfl
theorem ivj_26_0 {d : Nat} {st : List Value} {h : iv_H} {l0 : Option Value} : iv_K d 26 0 [l0] st h = iv_sem d 26 0 [l0] st h := iv_Kof ivk_26_0
theorem ivs_26_0 {d : Nat} {st : List Value} {h : iv_H} {ls : iv_L} : iv_sem d 26 0 ls st h = iv_x [(10,0,1,0,[]), (47,1,5,37,[]), (43,11,1,7,[]), (0,0,0,0,[]), (42,24,0,16,[])] ls st h (iv_K d 26) (iv_call d) := iv_Sof ivk_26_0
theorem ivk_26_11 : iv_lk (iv_Gb 26) 11 = ([1], [(10,0,1,0,[]), (47,1,5,37,[]), (10,0,1,0,[]), (47,1,5,37,[]), (0,0,0,2,[]), (19,0,0,0,[]), (15,0,0,0,[]), (0,0,0,1,[]), (16,0,0,0,[]), (71,24,0,0,[])]) := by rw [iv_g26]; rfl
theorem ivj_26_11 {d : Nat} {st : List Value} {h : iv_H} {l0 : Option Value} : iv_K d 26 11 [l0] st h = iv_sem d 26 11 [l0] st h := iv_Kof ivk_26_11
theorem ivs_26_11 {d : Nat} {st : List Value} {h : iv_H} {ls : iv_L} : iv_sem d 26 11 ls st h = iv_x [(10,0,1,0,[]), (47,1,5,37,[]), (10,0,1,0,[]), (47,1,5,37,[]), (0,0,0,2,[]), (19,0,0,0,[]), (15,0,0,0,[]), (0,0,0,1,[]), (16,0,0,0,[]), (71,24,0,0,[])] ls st h (iv_K d 26) (iv_call d) := iv_Sof ivk_26_11
theorem ivf_26_11 {d : Nat} {st : List Value} {h : iv_H} {l0 : Option Value} : iv_K d 26 11 [l0] st h = iv_x [(10,0,1,0,[]), (47,1,5,37,[]), (10,0,1,0,[]), (47,1,5,37,[]), (0,0,0,2,[]), (19,0,0,0,[]), (15,0,0,0,[]), (0,0,0,1,[]), (16,0,0,0,[]), (71,24,0,0,[])] [l0] st h (iv_K d 26) (iv_call d) := (iv_Kof ivk_26_11).trans (iv_Sof ivk_26_11)
theorem ivk_26_24 : iv_lk (iv_Gb 26) 24 = ([0], [(63,0,0,0,[])]) := by rw [iv_g26]; rfl
theorem ivj_26_24 {d : Nat} {st : List Value} {h : iv_H} {l0 : Option Value} : iv_K d 26 24 [l0] st h = iv_sem d 26 24 [none] st h := iv_Kof ivk_26_24
theorem ivs_26_24 {d : Nat} {st : List Value} {h : iv_H} {ls : iv_L} : iv_sem d 26 24 ls st h = iv_x [(63,0,0,0,[])] ls st h (iv_K d 26) (iv_call d) := iv_Sof ivk_26_24
theorem ivf_26_24 {d : Nat} {st : List Value} {h : iv_H} {l0 : Option Value} : iv_K d 26 24 [l0] st h = iv_x [(63,0,0,0,[])] [none] st h (iv_K d 26) (iv_call d) := (iv_Kof ivk_26_24).trans (iv_Sof ivk_26_24)
theorem ivc_26 {d : Nat} {h : iv_H} {p : Nat} : iv_call (d + 1) 26 [.ref p] h = iv_sem d 26 0 [some (.ref p)] [] h := iv_Cof (by decide) ivk_26_0 (Nat.le_of_ble_eq_true rfl)
/-- X1_isRound -/
theorem iv_g27 : iv_Gb 27 = iv_b27 := rfl
theorem ivk_27_0 : iv_lk (iv_Gb 27) 0 = ([1, 1], [(8,1,1,0,[]), (43,16,2,15,[]), (8,1,1,0,[]), (10,0,1,0,[]), (66,26,0,82,[1]), (44,16,3,7,[]), (0,0,0,1,[]), (42,17,0,4,[])]) := by rw [iv_g27]; rfl
theorem ivj_27_0 {d : Nat} {st : List Value} {h : iv_H} {l0 l1 : Option Value} : iv_K d 27 0 [l0, l1] st h = iv_sem d 27 0 [l0, l1] st h := iv_Kof ivk_27_0
theorem ivs_27_0 {d : Nat} {st : List Value} {h : iv_H} {ls : iv_L} : iv_sem d 27 0 ls st h = iv_x [(8,1,1,0,[]), (43,16,2,15,[]), (8,1,1,0,[]), (10,0,1,0,[]), (66,26,0,82,[1]), (44,16,3,7,[]), (0,0,0,1,[]), (42,17,0,4,[])] ls st h (iv_K d 27) (iv_call d) := iv_Sof ivk_27_0
theorem ivk_27_16 : iv_lk (iv_Gb 27) 16 = ([0, 0], [(0,0,0,0,[]), (71,17,0,0,[])]) := by rw [iv_g27]; rfl
theorem ivj_27_16 {d : Nat} {st : List Value} {h : iv_H} {l0 l1 : Option Value} : iv_K d 27 16 [l0, l1] st h = iv_sem d 27 16 [none, none] st h := iv_Kof ivk_27_16
theorem ivs_27_16 {d : Nat} {st : List Value} {h : iv_H} {ls : iv_L} : iv_sem d 27 16 ls st h = iv_x [(0,0,0,0,[]), (71,17,0,0,[])] ls st h (iv_K d 27) (iv_call d) := iv_Sof ivk_27_16
theorem ivf_27_16 {d : Nat} {st : List Value} {h : iv_H} {l0 l1 : Option Value} : iv_K d 27 16 [l0, l1] st h = iv_x [(0,0,0,0,[]), (71,17,0,0,[])] [none, none] st h (iv_K d 27) (iv_call d) := (iv_Kof ivk_27_16).trans (iv_Sof ivk_27_16)
theorem ivk_27_17 : iv_lk (iv_Gb 27) 17 = ([0, 0], [(63,1,0,0,[])]) := by rw [iv_g27]; rfl
theorem ivj_27_17 {d : Nat} {st : List Value} {h : iv_H} {l0 l1 : Option Value} : iv_K d 27 17 [l0, l1] st h = iv_sem d 27 17 [none, none] st h := iv_Kof ivk_27_17
theorem ivs_27_17 {d : Nat} {st : List Value} {h : iv_H} {ls : iv_L} : iv_sem d 27 17 ls st h = iv_x [(63,1,0,0,[])] ls st h (iv_K d 27) (iv_call d) := iv_Sof ivk_27_17
theorem ivf_27_17 {d : Nat} {st : List Value} {h : iv_H} {l0 l1 : Option Value} : iv_K d 27 17 [l0, l1] st h = iv_x [(63,1,0,0,[])] [none, none] st h (iv_K d 27) (iv_call d) := (iv_Kof ivk_27_17).trans (iv_Sof ivk_27_17)
theorem ivc_27 {d : Nat} {h : iv_H} {p : Nat} {x0 : Int32} : iv_call (d + 1) 27 [.ref p, .int x0] h = iv_sem d 27 0 [some (.ref p), some (.int x0)] [] h := iv_Cof (by decide) ivk_27_0 (Nat.le_of_ble_eq_true rfl)
/-- X1_mateIn -/
theorem iv_g28 : iv_Gb 28 = iv_b28 := rfl
theorem ivk_28_0 : iv_lk (iv_Gb 28) 0 = ([1, 1, 1, 0, 0], [(10,0,1,0,[]), (66,26,0,82,[1]), (11,3,1,0,[]), (8,3,1,0,[]), (0,0,0,1,[]), (44,12,3,5,[]), (0,0,0,-1,[]), (63,0,0,0,[])]) := by rw [iv_g28]; rfl
theorem ivj_28_0 {d : Nat} {st : List Value} {h : iv_H} {l0 l1 l2 l3 l4 : Option Value} : iv_K d 28 0 [l0, l1, l2, l3, l4] st h = iv_sem d 28 0 [l0, l1, l2, none, none] st h := iv_Kof ivk_28_0
theorem ivs_28_0 {d : Nat} {st : List Value} {h : iv_H} {ls : iv_L} : iv_sem d 28 0 ls st h = iv_x [(10,0,1,0,[]), (66,26,0,82,[1]), (11,3,1,0,[]), (8,3,1,0,[]), (0,0,0,1,[]), (44,12,3,5,[]), (0,0,0,-1,[]), (63,0,0,0,[])] ls st h (iv_K d 28) (iv_call d) := iv_Sof ivk_28_0
theorem ivk_28_12 : iv_lk (iv_Gb 28) 12 = ([1, 1, 1, 1, 0], [(8,2,1,0,[]), (8,3,1,0,[]), (44,21,1,7,[]), (8,1,1,0,[]), (42,30,0,12,[])]) := by rw [iv_g28]; rfl
theorem ivj_28_12 {d : Nat} {st : List Value} {h : iv_H} {l0 l1 l2 l3 l4 : Option Value} : iv_K d 28 12 [l0, l1, l2, l3, l4] st h = iv_sem d 28 12 [l0, l1, l2, l3, none] st h := iv_Kof ivk_28_12
theorem ivs_28_12 {d : Nat} {st : List Value} {h : iv_H} {ls : iv_L} : iv_sem d 28 12 ls st h = iv_x [(8,2,1,0,[]), (8,3,1,0,[]), (44,21,1,7,[]), (8,1,1,0,[]), (42,30,0,12,[])] ls st h (iv_K d 28) (iv_call d) := iv_Sof ivk_28_12
theorem ivf_28_12 {d : Nat} {st : List Value} {h : iv_H} {l0 l1 l2 l3 l4 : Option Value} : iv_K d 28 12 [l0, l1, l2, l3, l4] st h = iv_x [(8,2,1,0,[]), (8,3,1,0,[]), (44,21,1,7,[]), (8,1,1,0,[]), (42,30,0,12,[])] [l0, l1, l2, l3, none] st h (iv_K d 28) (iv_call d) := (iv_Kof ivk_28_12).trans (iv_Sof ivk_28_12)
theorem ivk_28_21 : iv_lk (iv_Gb 28) 21 = ([1, 1, 1, 1, 0], [(0,0,0,2,[]), (8,1,1,0,[]), (17,0,0,0,[]), (8,2,1,0,[]), (16,0,0,0,[]), (8,3,1,0,[]), (67,259,2,86,[]), (71,30,0,0,[])]) := by rw [iv_g28]; rfl
theorem ivj_28_21 {d : Nat} {st : List Value} {h : iv_H} {l0 l1 l2 l3 l4 : Option Value} : iv_K d 28 21 [l0, l1, l2, l3, l4] st h = iv_sem d 28 21 [l0, l1, l2, l3, none] st h := iv_Kof ivk_28_21
theorem ivs_28_21 {d : Nat} {st : List Value} {h : iv_H} {ls : iv_L} : iv_sem d 28 21 ls st h = iv_x [(0,0,0,2,[]), (8,1,1,0,[]), (17,0,0,0,[]), (8,2,1,0,[]), (16,0,0,0,[]), (8,3,1,0,[]), (67,259,2,86,[]), (71,30,0,0,[])] ls st h (iv_K d 28) (iv_call d) := iv_Sof ivk_28_21
theorem ivf_28_21 {d : Nat} {st : List Value} {h : iv_H} {l0 l1 l2 l3 l4 : Option Value} : iv_K d 28 21 [l0, l1, l2, l3, l4] st h = iv_x [(0,0,0,2,[]), (8,1,1,0,[]), (17,0,0,0,[]), (8,2,1,0,[]), (16,0,0,0,[]), (8,3,1,0,[]), (67,259,2,86,[]), (71,30,0,0,[])] [l0, l1, l2, l3, none] st h (iv_K d 28) (iv_call d) := (iv_Kof ivk_28_21).trans (iv_Sof ivk_28_21)
theorem ivk_28_30 : iv_lk (iv_Gb 28) 30 = ([1, 0, 1, 1, 0], [(11,4,2,0,[]), (8,4,2,0,[]), (8,2,1,0,[]), (44,41,1,6,[]), (8,3,1,0,[]), (11,4,2,0,[]), (71,41,0,0,[])]) := by rw [iv_g28]; rfl
theorem ivj_28_30 {d : Nat} {st : List Value} {h : iv_H} {l0 l1 l2 l3 l4 : Option Value} : iv_K d 28 30 [l0, l1, l2, l3, l4] st h = iv_sem d 28 30 [l0, none, l2, l3, none] st h := iv_Kof ivk_28_30
theorem ivs_28_30 {d : Nat} {st : List Value} {h : iv_H} {ls : iv_L} : iv_sem d 28 30 ls st h = iv_x [(11,4,2,0,[]), (8,4,2,0,[]), (8,2,1,0,[]), (44,41,1,6,[]), (8,3,1,0,[]), (11,4,2,0,[]), (71,41,0,0,[])] ls st h (iv_K d 28) (iv_call d) := iv_Sof ivk_28_30
theorem ivf_28_30 {d : Nat} {st : List Value} {h : iv_H} {l0 l1 l2 l3 l4 : Option Value} : iv_K d 28 30 [l0, l1, l2, l3, l4] st h = iv_x [(11,4,2,0,[]), (8,4,2,0,[]), (8,2,1,0,[]), (44,41,1,6,[]), (8,3,1,0,[]), (11,4,2,0,[]), (71,41,0,0,[])] [l0, none, l2, l3, none] st h (iv_K d 28) (iv_call d) := (iv_Kof ivk_28_30).trans (iv_Sof ivk_28_30)
theorem ivk_28_41 : iv_lk (iv_Gb 28) 41 = ([1, 0, 0, 0, 1], [(8,4,2,0,[]), (10,0,1,0,[]), (47,1,5,37,[]), (44,55,3,8,[]), (8,4,2,0,[]), (42,56,0,4,[])]) := by rw [iv_g28]; rfl
theorem ivj_28_41 {d : Nat} {st : List Value} {h : iv_H} {l0 l1 l2 l3 l4 : Option Value} : iv_K d 28 41 [l0, l1, l2, l3, l4] st h = iv_sem d 28 41 [l0, none, none, none, l4] st h := iv_Kof ivk_28_41
theorem ivs_28_41 {d : Nat} {st : List Value} {h : iv_H} {ls : iv_L} : iv_sem d 28 41 ls st h = iv_x [(8,4,2,0,[]), (10,0,1,0,[]), (47,1,5,37,[]), (44,55,3,8,[]), (8,4,2,0,[]), (42,56,0,4,[])] ls st h (iv_K d 28) (iv_call d) := iv_Sof ivk_28_41
theorem ivf_28_41 {d : Nat} {st : List Value} {h : iv_H} {l0 l1 l2 l3 l4 : Option Value} : iv_K d 28 41 [l0, l1, l2, l3, l4] st h = iv_x [(8,4,2,0,[]), (10,0,1,0,[]), (47,1,5,37,[]), (44,55,3,8,[]), (8,4,2,0,[]), (42,56,0,4,[])] [l0, none, none, none, l4] st h (iv_K d 28) (iv_call d) := (iv_Kof ivk_28_41).trans (iv_Sof ivk_28_41)
theorem ivk_28_55 : iv_lk (iv_Gb 28) 55 = ([0, 0, 0, 0, 0], [(0,0,0,-1,[]), (71,56,0,0,[])]) := by rw [iv_g28]; rfl
theorem ivj_28_55 {d : Nat} {st : List Value} {h : iv_H} {l0 l1 l2 l3 l4 : Option Value} : iv_K d 28 55 [l0, l1, l2, l3, l4] st h = iv_sem d 28 55 [none, none, none, none, none] st h := iv_Kof ivk_28_55
theorem ivs_28_55 {d : Nat} {st : List Value} {h : iv_H} {ls : iv_L} : iv_sem d 28 55 ls st h = iv_x [(0,0,0,-1,[]), (71,56,0,0,[])] ls st h (iv_K d 28) (iv_call d) := iv_Sof ivk_28_55
theorem ivf_28_55 {d : Nat} {st : List Value} {h : iv_H} {l0 l1 l2 l3 l4 : Option Value} : iv_K d 28 55 [l0, l1, l2, l3, l4] st h = iv_x [(0,0,0,-1,[]), (71,56,0,0,[])] [none, none, none, none, none] st h (iv_K d 28) (iv_call d) := (iv_Kof ivk_28_55).trans (iv_Sof ivk_28_55)
theorem ivk_28_56 : iv_lk (iv_Gb 28) 56 = ([0, 0, 0, 0, 0], [(63,0,0,0,[])]) := by rw [iv_g28]; rfl
theorem ivj_28_56 {d : Nat} {st : List Value} {h : iv_H} {l0 l1 l2 l3 l4 : Option Value} : iv_K d 28 56 [l0, l1, l2, l3, l4] st h = iv_sem d 28 56 [none, none, none, none, none] st h := iv_Kof ivk_28_56
theorem ivs_28_56 {d : Nat} {st : List Value} {h : iv_H} {ls : iv_L} : iv_sem d 28 56 ls st h = iv_x [(63,0,0,0,[])] ls st h (iv_K d 28) (iv_call d) := iv_Sof ivk_28_56
theorem ivf_28_56 {d : Nat} {st : List Value} {h : iv_H} {l0 l1 l2 l3 l4 : Option Value} : iv_K d 28 56 [l0, l1, l2, l3, l4] st h = iv_x [(63,0,0,0,[])] [none, none, none, none, none] st h (iv_K d 28) (iv_call d) := (iv_Kof ivk_28_56).trans (iv_Sof ivk_28_56)
theorem ivc_28 {d : Nat} {h : iv_H} {p : Nat} {x0 : Int32} {x1 : Int32} : iv_call (d + 1) 28 [.ref p, .int x0, .int x1] h = iv_sem d 28 0 [some (.ref p), some (.int x0), some (.int x1), none, none] [] h := iv_Cof (by decide) ivk_28_0 (Nat.le_of_ble_eq_true rfl)
/-- X1_spokenIn -/
theorem iv_g29 : iv_Gb 29 = iv_b29 := rfl
theorem ivk_29_0 : iv_lk (iv_Gb 29) 0 = ([1, 1, 1, 0], [(10,0,1,0,[]), (8,1,1,0,[]), (8,2,1,0,[]), (66,28,2,89,[1]), (11,3,1,0,[]), (8,3,1,0,[]), (0,0,0,-1,[]), (44,16,1,7,[]), (0,0,0,0,[]), (42,22,0,9,[])]) := by rw [iv_g29]; rfl
theorem ivj_29_0 {d : Nat} {st : List Value} {h : iv_H} {l0 l1 l2 l3 : Option Value} : iv_K d 29 0 [l0, l1, l2, l3] st h = iv_sem d 29 0 [l0, l1, l2, none] st h := iv_Kof ivk_29_0
theorem ivs_29_0 {d : Nat} {st : List Value} {h : iv_H} {ls : iv_L} : iv_sem d 29 0 ls st h = iv_x [(10,0,1,0,[]), (8,1,1,0,[]), (8,2,1,0,[]), (66,28,2,89,[1]), (11,3,1,0,[]), (8,3,1,0,[]), (0,0,0,-1,[]), (44,16,1,7,[]), (0,0,0,0,[]), (42,22,0,9,[])] ls st h (iv_K d 29) (iv_call d) := iv_Sof ivk_29_0
theorem ivk_29_16 : iv_lk (iv_Gb 29) 16 = ([1, 0, 1, 1], [(10,0,1,0,[]), (8,2,1,0,[]), (8,3,1,0,[]), (66,21,2,59,[1]), (71,22,0,0,[])]) := by rw [iv_g29]; rfl
theorem ivj_29_16 {d : Nat} {st : List Value} {h : iv_H} {l0 l1 l2 l3 : Option Value} : iv_K d 29 16 [l0, l1, l2, l3] st h = iv_sem d 29 16 [l0, none, l2, l3] st h := iv_Kof ivk_29_16
theorem ivs_29_16 {d : Nat} {st : List Value} {h : iv_H} {ls : iv_L} : iv_sem d 29 16 ls st h = iv_x [(10,0,1,0,[]), (8,2,1,0,[]), (8,3,1,0,[]), (66,21,2,59,[1]), (71,22,0,0,[])] ls st h (iv_K d 29) (iv_call d) := iv_Sof ivk_29_16
theorem ivf_29_16 {d : Nat} {st : List Value} {h : iv_H} {l0 l1 l2 l3 : Option Value} : iv_K d 29 16 [l0, l1, l2, l3] st h = iv_x [(10,0,1,0,[]), (8,2,1,0,[]), (8,3,1,0,[]), (66,21,2,59,[1]), (71,22,0,0,[])] [l0, none, l2, l3] st h (iv_K d 29) (iv_call d) := (iv_Kof ivk_29_16).trans (iv_Sof ivk_29_16)
theorem ivk_29_22 : iv_lk (iv_Gb 29) 22 = ([0, 0, 0, 0], [(63,0,0,0,[])]) := by rw [iv_g29]; rfl
theorem ivj_29_22 {d : Nat} {st : List Value} {h : iv_H} {l0 l1 l2 l3 : Option Value} : iv_K d 29 22 [l0, l1, l2, l3] st h = iv_sem d 29 22 [none, none, none, none] st h := iv_Kof ivk_29_22
theorem ivs_29_22 {d : Nat} {st : List Value} {h : iv_H} {ls : iv_L} : iv_sem d 29 22 ls st h = iv_x [(63,0,0,0,[])] ls st h (iv_K d 29) (iv_call d) := iv_Sof ivk_29_22
theorem ivf_29_22 {d : Nat} {st : List Value} {h : iv_H} {l0 l1 l2 l3 : Option Value} : iv_K d 29 22 [l0, l1, l2, l3] st h = iv_x [(63,0,0,0,[])] [none, none, none, none] st h (iv_K d 29) (iv_call d) := (iv_Kof ivk_29_22).trans (iv_Sof ivk_29_22)
theorem ivc_29 {d : Nat} {h : iv_H} {p : Nat} {x0 : Int32} {x1 : Int32} : iv_call (d + 1) 29 [.ref p, .int x0, .int x1] h = iv_sem d 29 0 [some (.ref p), some (.int x0), some (.int x1), none] [] h := iv_Cof (by decide) ivk_29_0 (Nat.le_of_ble_eq_true rfl)
/-- X1_gainedIn -/
theorem iv_g30 : iv_Gb 30 = iv_b30 := rfl
theorem ivk_30_0 : iv_lk (iv_Gb 30) 0 = ([1, 1, 1, 0], [(10,0,1,0,[]), (8,1,1,0,[]), (8,2,1,0,[]), (66,28,2,89,[1]), (11,3,1,0,[]), (8,3,1,0,[]), (0,0,0,-1,[]), (44,16,1,7,[]), (0,0,0,0,[]), (42,22,0,9,[])]) := by rw [iv_g30]; rfl
theorem ivj_30_0 {d : Nat} {st : List Value} {h : iv_H} {l0 l1 l2 l3 : Option Value} : iv_K d 30 0 [l0, l1, l2, l3] st h = iv_sem d 30 0 [l0, l1, l2, none] st h := iv_Kof ivk_30_0
theorem ivs_30_0 {d : Nat} {st : List Value} {h : iv_H} {ls : iv_L} : iv_sem d 30 0 ls st h = iv_x [(10,0,1,0,[]), (8,1,1,0,[]), (8,2,1,0,[]), (66,28,2,89,[1]), (11,3,1,0,[]), (8,3,1,0,[]), (0,0,0,-1,[]), (44,16,1,7,[]), (0,0,0,0,[]), (42,22,0,9,[])] ls st h (iv_K d 30) (iv_call d) := iv_Sof ivk_30_0
theorem ivk_30_16 : iv_lk (iv_Gb 30) 16 = ([1, 0, 1, 1], [(10,0,1,0,[]), (8,2,1,0,[]), (8,3,1,0,[]), (66,22,2,69,[1]), (71,22,0,0,[])]) := by rw [iv_g30]; rfl
theorem ivj_30_16 {d : Nat} {st : List Value} {h : iv_H} {l0 l1 l2 l3 : Option Value} : iv_K d 30 16 [l0, l1, l2, l3] st h = iv_sem d 30 16 [l0, none, l2, l3] st h := iv_Kof ivk_30_16
theorem ivs_30_16 {d : Nat} {st : List Value} {h : iv_H} {ls : iv_L} : iv_sem d 30 16 ls st h = iv_x [(10,0,1,0,[]), (8,2,1,0,[]), (8,3,1,0,[]), (66,22,2,69,[1]), (71,22,0,0,[])] ls st h (iv_K d 30) (iv_call d) := iv_Sof ivk_30_16
theorem ivf_30_16 {d : Nat} {st : List Value} {h : iv_H} {l0 l1 l2 l3 : Option Value} : iv_K d 30 16 [l0, l1, l2, l3] st h = iv_x [(10,0,1,0,[]), (8,2,1,0,[]), (8,3,1,0,[]), (66,22,2,69,[1]), (71,22,0,0,[])] [l0, none, l2, l3] st h (iv_K d 30) (iv_call d) := (iv_Kof ivk_30_16).trans (iv_Sof ivk_30_16)
theorem ivk_30_22 : iv_lk (iv_Gb 30) 22 = ([0, 0, 0, 0], [(63,0,0,0,[])]) := by rw [iv_g30]; rfl
theorem ivj_30_22 {d : Nat} {st : List Value} {h : iv_H} {l0 l1 l2 l3 : Option Value} : iv_K d 30 22 [l0, l1, l2, l3] st h = iv_sem d 30 22 [none, none, none, none] st h := iv_Kof ivk_30_22
theorem ivs_30_22 {d : Nat} {st : List Value} {h : iv_H} {ls : iv_L} : iv_sem d 30 22 ls st h = iv_x [(63,0,0,0,[])] ls st h (iv_K d 30) (iv_call d) := iv_Sof ivk_30_22
theorem ivf_30_22 {d : Nat} {st : List Value} {h : iv_H} {l0 l1 l2 l3 : Option Value} : iv_K d 30 22 [l0, l1, l2, l3] st h = iv_x [(63,0,0,0,[])] [none, none, none, none] st h (iv_K d 30) (iv_call d) := (iv_Kof ivk_30_22).trans (iv_Sof ivk_30_22)
theorem ivc_30 {d : Nat} {h : iv_H} {p : Nat} {x0 : Int32} {x1 : Int32} : iv_call (d + 1) 30 [.ref p, .int x0, .int x1] h = iv_sem d 30 0 [some (.ref p), some (.int x0), some (.int x1), none] [] h := iv_Cof (by decide) ivk_30_0 (Nat.le_of_ble_eq_true rfl)
/-- X1_gainedByAllIn -/
theorem iv_g31 : iv_Gb 31 = iv_b31 := rfl
theorem ivk_31_0 : iv_lk (iv_Gb 31) 0 = ([1, 1, 0, 0], [(0,0,0,0,[]), (11,2,1,0,[]), (0,0,0,0,[]), (11,3,1,0,[]), (71,4,0,0,[])]) := by rw [iv_g31]; rfl
theorem ivj_31_0 {d : Nat} {st : List Value} {h : iv_H} {l0 l1 l2 l3 : Option Value} : iv_K d 31 0 [l0, l1, l2, l3] st h = iv_sem d 31 0 [l0, l1, none, none] st h := iv_Kof ivk_31_0
theorem ivs_31_0 {d : Nat} {st : List Value} {h : iv_H} {ls : iv_L} : iv_sem d 31 0 ls st h = iv_x [(0,0,0,0,[]), (11,2,1,0,[]), (0,0,0,0,[]), (11,3,1,0,[]), (71,4,0,0,[])] ls st h (iv_K d 31) (iv_call d) := iv_Sof ivk_31_0
theorem ivk_31_4 : iv_lk (iv_Gb 31) 4 = ([1, 1, 1, 1], [(8,3,1,0,[]), (10,0,1,0,[]), (47,1,5,37,[]), (44,27,3,18,[]), (8,2,1,0,[]), (10,0,1,0,[]), (8,1,1,0,[]), (8,3,1,0,[]), (66,30,2,92,[1]), (15,0,0,0,[]), (11,2,1,0,[]), (14,3,0,1,[]), (42,4,0,-20,[])]) := by rw [iv_g31]; rfl
theorem ivj_31_4 {d : Nat} {st : List Value} {h : iv_H} {l0 l1 l2 l3 : Option Value} : iv_K d 31 4 [l0, l1, l2, l3] st h = iv_sem d 31 4 [l0, l1, l2, l3] st h := iv_Kof ivk_31_4
theorem ivs_31_4 {d : Nat} {st : List Value} {h : iv_H} {ls : iv_L} : iv_sem d 31 4 ls st h = iv_x [(8,3,1,0,[]), (10,0,1,0,[]), (47,1,5,37,[]), (44,27,3,18,[]), (8,2,1,0,[]), (10,0,1,0,[]), (8,1,1,0,[]), (8,3,1,0,[]), (66,30,2,92,[1]), (15,0,0,0,[]), (11,2,1,0,[]), (14,3,0,1,[]), (42,4,0,-20,[])] ls st h (iv_K d 31) (iv_call d) := iv_Sof ivk_31_4
theorem ivk_31_27 : iv_lk (iv_Gb 31) 27 = ([0, 0, 1, 0], [(8,2,1,0,[]), (63,0,0,0,[])]) := by rw [iv_g31]; rfl
theorem ivj_31_27 {d : Nat} {st : List Value} {h : iv_H} {l0 l1 l2 l3 : Option Value} : iv_K d 31 27 [l0, l1, l2, l3] st h = iv_sem d 31 27 [none, none, l2, none] st h := iv_Kof ivk_31_27
theorem ivs_31_27 {d : Nat} {st : List Value} {h : iv_H} {ls : iv_L} : iv_sem d 31 27 ls st h = iv_x [(8,2,1,0,[]), (63,0,0,0,[])] ls st h (iv_K d 31) (iv_call d) := iv_Sof ivk_31_27
theorem ivf_31_27 {d : Nat} {st : List Value} {h : iv_H} {l0 l1 l2 l3 : Option Value} : iv_K d 31 27 [l0, l1, l2, l3] st h = iv_x [(8,2,1,0,[]), (63,0,0,0,[])] [none, none, l2, none] st h (iv_K d 31) (iv_call d) := (iv_Kof ivk_31_27).trans (iv_Sof ivk_31_27)
theorem ivc_31 {d : Nat} {h : iv_H} {p : Nat} {x0 : Int32} : iv_call (d + 1) 31 [.ref p, .int x0] h = iv_sem d 31 0 [some (.ref p), some (.int x0), none, none] [] h := iv_Cof (by decide) ivk_31_0 (Nat.le_of_ble_eq_true rfl)
/-- X1_playRound -/
theorem iv_g32 : iv_Gb 32 = iv_b32 := rfl
theorem ivk_32_0 : iv_lk (iv_Gb 32) 0 = ([1, 1, 0, 0, 0], [(0,0,0,0,[]), (11,2,1,0,[]), (0,0,0,0,[]), (11,3,1,0,[]), (71,4,0,0,[])]) := by rw [iv_g32]; rfl
theorem ivj_32_0 {d : Nat} {st : List Value} {h : iv_H} {l0 l1 l2 l3 l4 : Option Value} : iv_K d 32 0 [l0, l1, l2, l3, l4] st h = iv_sem d 32 0 [l0, l1, none, none, none] st h := iv_Kof ivk_32_0
theorem ivs_32_0 {d : Nat} {st : List Value} {h : iv_H} {ls : iv_L} : iv_sem d 32 0 ls st h = iv_x [(0,0,0,0,[]), (11,2,1,0,[]), (0,0,0,0,[]), (11,3,1,0,[]), (71,4,0,0,[])] ls st h (iv_K d 32) (iv_call d) := iv_Sof ivk_32_0
theorem ivk_32_4 : iv_lk (iv_Gb 32) 4 = ([1, 1, 1, 1, 0], [(8,3,1,0,[]), (10,0,1,0,[]), (47,1,5,37,[]), (44,42,3,33,[]), (10,0,1,0,[]), (8,1,1,0,[]), (8,3,1,0,[]), (66,28,2,89,[1]), (11,4,2,0,[]), (8,4,2,0,[]), (8,3,1,0,[]), (44,36,5,13,[]), (8,2,1,0,[]), (10,0,1,0,[]), (8,3,1,0,[]), (8,4,2,0,[]), (66,25,2,95,[1]), (15,0,0,0,[]), (11,2,1,0,[]), (71,36,0,0,[])]) := by rw [iv_g32]; rfl
theorem ivj_32_4 {d : Nat} {st : List Value} {h : iv_H} {l0 l1 l2 l3 l4 : Option Value} : iv_K d 32 4 [l0, l1, l2, l3, l4] st h = iv_sem d 32 4 [l0, l1, l2, l3, none] st h := iv_Kof ivk_32_4
theorem ivs_32_4 {d : Nat} {st : List Value} {h : iv_H} {ls : iv_L} : iv_sem d 32 4 ls st h = iv_x [(8,3,1,0,[]), (10,0,1,0,[]), (47,1,5,37,[]), (44,42,3,33,[]), (10,0,1,0,[]), (8,1,1,0,[]), (8,3,1,0,[]), (66,28,2,89,[1]), (11,4,2,0,[]), (8,4,2,0,[]), (8,3,1,0,[]), (44,36,5,13,[]), (8,2,1,0,[]), (10,0,1,0,[]), (8,3,1,0,[]), (8,4,2,0,[]), (66,25,2,95,[1]), (15,0,0,0,[]), (11,2,1,0,[]), (71,36,0,0,[])] ls st h (iv_K d 32) (iv_call d) := iv_Sof ivk_32_4
theorem ivk_32_36 : iv_lk (iv_Gb 32) 36 = ([1, 1, 1, 1, 0], [(14,3,0,1,[]), (42,4,0,-35,[])]) := by rw [iv_g32]; rfl
theorem ivj_32_36 {d : Nat} {st : List Value} {h : iv_H} {l0 l1 l2 l3 l4 : Option Value} : iv_K d 32 36 [l0, l1, l2, l3, l4] st h = iv_sem d 32 36 [l0, l1, l2, l3, none] st h := iv_Kof ivk_32_36
theorem ivs_32_36 {d : Nat} {st : List Value} {h : iv_H} {ls : iv_L} : iv_sem d 32 36 ls st h = iv_x [(14,3,0,1,[]), (42,4,0,-35,[])] ls st h (iv_K d 32) (iv_call d) := iv_Sof ivk_32_36
theorem ivf_32_36 {d : Nat} {st : List Value} {h : iv_H} {l0 l1 l2 l3 l4 : Option Value} : iv_K d 32 36 [l0, l1, l2, l3, l4] st h = iv_x [(14,3,0,1,[]), (42,4,0,-35,[])] [l0, l1, l2, l3, none] st h (iv_K d 32) (iv_call d) := (iv_Kof ivk_32_36).trans (iv_Sof ivk_32_36)
theorem ivk_32_42 : iv_lk (iv_Gb 32) 42 = ([0, 0, 1, 0, 0], [(8,2,1,0,[]), (63,0,0,0,[])]) := by rw [iv_g32]; rfl
theorem ivj_32_42 {d : Nat} {st : List Value} {h : iv_H} {l0 l1 l2 l3 l4 : Option Value} : iv_K d 32 42 [l0, l1, l2, l3, l4] st h = iv_sem d 32 42 [none, none, l2, none, none] st h := iv_Kof ivk_32_42
theorem ivs_32_42 {d : Nat} {st : List Value} {h : iv_H} {ls : iv_L} : iv_sem d 32 42 ls st h = iv_x [(8,2,1,0,[]), (63,0,0,0,[])] ls st h (iv_K d 32) (iv_call d) := iv_Sof ivk_32_42
theorem ivf_32_42 {d : Nat} {st : List Value} {h : iv_H} {l0 l1 l2 l3 l4 : Option Value} : iv_K d 32 42 [l0, l1, l2, l3, l4] st h = iv_x [(8,2,1,0,[]), (63,0,0,0,[])] [none, none, l2, none, none] st h (iv_K d 32) (iv_call d) := (iv_Kof ivk_32_42).trans (iv_Sof ivk_32_42)
theorem ivc_32 {d : Nat} {h : iv_H} {p : Nat} {x0 : Int32} : iv_call (d + 1) 32 [.ref p, .int x0] h = iv_sem d 32 0 [some (.ref p), some (.int x0), none, none, none] [] h := iv_Cof (by decide) ivk_32_0 (Nat.le_of_ble_eq_true rfl)
/-- X1_playRounds -/
theorem iv_g33 : iv_Gb 33 = iv_b33 := rfl
theorem ivk_33_0 : iv_lk (iv_Gb 33) 0 = ([1, 1, 0, 0], [(0,0,0,0,[]), (11,2,1,0,[]), (0,0,0,0,[]), (11,3,1,0,[]), (71,4,0,0,[])]) := by rw [iv_g33]; rfl
theorem ivj_33_0 {d : Nat} {st : List Value} {h : iv_H} {l0 l1 l2 l3 : Option Value} : iv_K d 33 0 [l0, l1, l2, l3] st h = iv_sem d 33 0 [l0, l1, none, none] st h := iv_Kof ivk_33_0
theorem ivs_33_0 {d : Nat} {st : List Value} {h : iv_H} {ls : iv_L} : iv_sem d 33 0 ls st h = iv_x [(0,0,0,0,[]), (11,2,1,0,[]), (0,0,0,0,[]), (11,3,1,0,[]), (71,4,0,0,[])] ls st h (iv_K d 33) (iv_call d) := iv_Sof ivk_33_0
theorem ivk_33_4 : iv_lk (iv_Gb 33) 4 = ([1, 1, 1, 1], [(8,3,1,0,[]), (8,1,1,0,[]), (44,31,3,25,[]), (10,0,1,0,[]), (8,3,1,0,[]), (66,27,1,98,[1]), (43,31,0,17,[]), (8,2,1,0,[]), (10,0,1,0,[]), (8,3,1,0,[]), (66,32,1,101,[1]), (15,0,0,0,[]), (11,2,1,0,[]), (14,3,0,1,[]), (42,4,0,-24,[])]) := by rw [iv_g33]; rfl
theorem ivj_33_4 {d : Nat} {st : List Value} {h : iv_H} {l0 l1 l2 l3 : Option Value} : iv_K d 33 4 [l0, l1, l2, l3] st h = iv_sem d 33 4 [l0, l1, l2, l3] st h := iv_Kof ivk_33_4
theorem ivs_33_4 {d : Nat} {st : List Value} {h : iv_H} {ls : iv_L} : iv_sem d 33 4 ls st h = iv_x [(8,3,1,0,[]), (8,1,1,0,[]), (44,31,3,25,[]), (10,0,1,0,[]), (8,3,1,0,[]), (66,27,1,98,[1]), (43,31,0,17,[]), (8,2,1,0,[]), (10,0,1,0,[]), (8,3,1,0,[]), (66,32,1,101,[1]), (15,0,0,0,[]), (11,2,1,0,[]), (14,3,0,1,[]), (42,4,0,-24,[])] ls st h (iv_K d 33) (iv_call d) := iv_Sof ivk_33_4
theorem ivk_33_31 : iv_lk (iv_Gb 33) 31 = ([0, 0, 1, 0], [(8,2,1,0,[]), (63,0,0,0,[])]) := by rw [iv_g33]; rfl
theorem ivj_33_31 {d : Nat} {st : List Value} {h : iv_H} {l0 l1 l2 l3 : Option Value} : iv_K d 33 31 [l0, l1, l2, l3] st h = iv_sem d 33 31 [none, none, l2, none] st h := iv_Kof ivk_33_31
theorem ivs_33_31 {d : Nat} {st : List Value} {h : iv_H} {ls : iv_L} : iv_sem d 33 31 ls st h = iv_x [(8,2,1,0,[]), (63,0,0,0,[])] ls st h (iv_K d 33) (iv_call d) := iv_Sof ivk_33_31
theorem ivf_33_31 {d : Nat} {st : List Value} {h : iv_H} {l0 l1 l2 l3 : Option Value} : iv_K d 33 31 [l0, l1, l2, l3] st h = iv_x [(8,2,1,0,[]), (63,0,0,0,[])] [none, none, l2, none] st h (iv_K d 33) (iv_call d) := (iv_Kof ivk_33_31).trans (iv_Sof ivk_33_31)
theorem ivc_33 {d : Nat} {h : iv_H} {p : Nat} {x0 : Int32} : iv_call (d + 1) 33 [.ref p, .int x0] h = iv_sem d 33 0 [some (.ref p), some (.int x0), none, none] [] h := iv_Cof (by decide) ivk_33_0 (Nat.le_of_ble_eq_true rfl)
/-- X1_draw -/
theorem iv_g34 : iv_Gb 34 = iv_b34 := rfl
theorem ivk_34_0 : iv_lk (iv_Gb 34) 0 = ([1], [(10,0,1,0,[]), (10,0,1,0,[]), (47,1,9,31,[]), (3,104,0,1103515245,[]), (17,0,0,0,[]), (2,0,0,12345,[]), (15,0,0,0,[]), (48,1,9,31,[]), (10,0,1,0,[]), (47,1,9,31,[]), (1,0,0,16,[]), (26,0,0,0,[]), (1,0,0,12,[]), (19,0,0,0,[]), (63,0,0,0,[])]) := by rw [iv_g34]; rfl
theorem ivj_34_0 {d : Nat} {st : List Value} {h : iv_H} {l0 : Option Value} : iv_K d 34 0 [l0] st h = iv_sem d 34 0 [l0] st h := iv_Kof ivk_34_0
theorem ivs_34_0 {d : Nat} {st : List Value} {h : iv_H} {ls : iv_L} : iv_sem d 34 0 ls st h = iv_x [(10,0,1,0,[]), (10,0,1,0,[]), (47,1,9,31,[]), (3,104,0,1103515245,[]), (17,0,0,0,[]), (2,0,0,12345,[]), (15,0,0,0,[]), (48,1,9,31,[]), (10,0,1,0,[]), (47,1,9,31,[]), (1,0,0,16,[]), (26,0,0,0,[]), (1,0,0,12,[]), (19,0,0,0,[]), (63,0,0,0,[])] ls st h (iv_K d 34) (iv_call d) := iv_Sof ivk_34_0
theorem ivc_34 {d : Nat} {h : iv_H} {p : Nat} : iv_call (d + 1) 34 [.ref p] h = iv_sem d 34 0 [some (.ref p)] [] h := iv_Cof (by decide) ivk_34_0 (Nat.le_of_ble_eq_true rfl)
/-- X1_drawWhoIsThere -/
theorem iv_g35 : iv_Gb 35 = iv_b35 := rfl
theorem ivk_35_0 : iv_lk (iv_Gb 35) 0 = ([1, 0, 0], [(0,0,0,0,[]), (11,1,1,0,[]), (0,0,0,0,[]), (11,2,1,0,[]), (71,4,0,0,[])]) := by rw [iv_g35]; rfl
theorem ivj_35_0 {d : Nat} {st : List Value} {h : iv_H} {l0 l1 l2 : Option Value} : iv_K d 35 0 [l0, l1, l2] st h = iv_sem d 35 0 [l0, none, none] st h := iv_Kof ivk_35_0
theorem ivs_35_0 {d : Nat} {st : List Value} {h : iv_H} {ls : iv_L} : iv_sem d 35 0 ls st h = iv_x [(0,0,0,0,[]), (11,1,1,0,[]), (0,0,0,0,[]), (11,2,1,0,[]), (71,4,0,0,[])] ls st h (iv_K d 35) (iv_call d) := iv_Sof ivk_35_0
theorem ivk_35_4 : iv_lk (iv_Gb 35) 4 = ([1, 1, 1], [(8,2,1,0,[]), (10,0,1,0,[]), (47,1,5,37,[]), (44,35,3,26,[]), (10,0,1,0,[]), (66,34,0,105,[1]), (10,0,1,0,[]), (47,1,7,28,[]), (44,29,2,9,[]), (8,1,1,0,[]), (0,0,0,1,[]), (8,2,1,0,[]), (24,0,0,0,[]), (22,0,0,0,[]), (11,1,1,0,[]), (71,29,0,0,[])]) := by rw [iv_g35]; rfl
theorem ivj_35_4 {d : Nat} {st : List Value} {h : iv_H} {l0 l1 l2 : Option Value} : iv_K d 35 4 [l0, l1, l2] st h = iv_sem d 35 4 [l0, l1, l2] st h := iv_Kof ivk_35_4
theorem ivs_35_4 {d : Nat} {st : List Value} {h : iv_H} {ls : iv_L} : iv_sem d 35 4 ls st h = iv_x [(8,2,1,0,[]), (10,0,1,0,[]), (47,1,5,37,[]), (44,35,3,26,[]), (10,0,1,0,[]), (66,34,0,105,[1]), (10,0,1,0,[]), (47,1,7,28,[]), (44,29,2,9,[]), (8,1,1,0,[]), (0,0,0,1,[]), (8,2,1,0,[]), (24,0,0,0,[]), (22,0,0,0,[]), (11,1,1,0,[]), (71,29,0,0,[])] ls st h (iv_K d 35) (iv_call d) := iv_Sof ivk_35_4
theorem ivk_35_29 : iv_lk (iv_Gb 35) 29 = ([1, 1, 1], [(14,2,0,1,[]), (42,4,0,-28,[])]) := by rw [iv_g35]; rfl
theorem ivj_35_29 {d : Nat} {st : List Value} {h : iv_H} {l0 l1 l2 : Option Value} : iv_K d 35 29 [l0, l1, l2] st h = iv_sem d 35 29 [l0, l1, l2] st h := iv_Kof ivk_35_29
theorem ivs_35_29 {d : Nat} {st : List Value} {h : iv_H} {ls : iv_L} : iv_sem d 35 29 ls st h = iv_x [(14,2,0,1,[]), (42,4,0,-28,[])] ls st h (iv_K d 35) (iv_call d) := iv_Sof ivk_35_29
theorem ivf_35_29 {d : Nat} {st : List Value} {h : iv_H} {l0 l1 l2 : Option Value} : iv_K d 35 29 [l0, l1, l2] st h = iv_x [(14,2,0,1,[]), (42,4,0,-28,[])] [l0, l1, l2] st h (iv_K d 35) (iv_call d) := (iv_Kof ivk_35_29).trans (iv_Sof ivk_35_29)
theorem ivk_35_35 : iv_lk (iv_Gb 35) 35 = ([0, 1, 0], [(8,1,1,0,[]), (63,0,0,0,[])]) := by rw [iv_g35]; rfl
theorem ivj_35_35 {d : Nat} {st : List Value} {h : iv_H} {l0 l1 l2 : Option Value} : iv_K d 35 35 [l0, l1, l2] st h = iv_sem d 35 35 [none, l1, none] st h := iv_Kof ivk_35_35
theorem ivs_35_35 {d : Nat} {st : List Value} {h : iv_H} {ls : iv_L} : iv_sem d 35 35 ls st h = iv_x [(8,1,1,0,[]), (63,0,0,0,[])] ls st h (iv_K d 35) (iv_call d) := iv_Sof ivk_35_35
theorem ivf_35_35 {d : Nat} {st : List Value} {h : iv_H} {l0 l1 l2 : Option Value} : iv_K d 35 35 [l0, l1, l2] st h = iv_x [(8,1,1,0,[]), (63,0,0,0,[])] [none, l1, none] st h (iv_K d 35) (iv_call d) := (iv_Kof ivk_35_35).trans (iv_Sof ivk_35_35)
theorem ivc_35 {d : Nat} {h : iv_H} {p : Nat} : iv_call (d + 1) 35 [.ref p] h = iv_sem d 35 0 [some (.ref p), none, none] [] h := iv_Cof (by decide) ivk_35_0 (Nat.le_of_ble_eq_true rfl)
/-- X1_meetByTwos -/
theorem iv_g36 : iv_Gb 36 = iv_b36 := rfl
theorem ivk_36_0 : iv_lk (iv_Gb 36) 0 = ([1, 1, 0, 0, 0], [(0,0,0,0,[]), (11,2,1,0,[]), (0,0,0,-1,[]), (11,3,1,0,[]), (0,0,0,0,[]), (11,4,2,0,[]), (71,7,0,0,[])]) := by rw [iv_g36]; rfl
theorem ivj_36_0 {d : Nat} {st : List Value} {h : iv_H} {l0 l1 l2 l3 l4 : Option Value} : iv_K d 36 0 [l0, l1, l2, l3, l4] st h = iv_sem d 36 0 [l0, l1, none, none, none] st h := iv_Kof ivk_36_0
theorem ivs_36_0 {d : Nat} {st : List Value} {h : iv_H} {ls : iv_L} : iv_sem d 36 0 ls st h = iv_x [(0,0,0,0,[]), (11,2,1,0,[]), (0,0,0,-1,[]), (11,3,1,0,[]), (0,0,0,0,[]), (11,4,2,0,[]), (71,7,0,0,[])] ls st h (iv_K d 36) (iv_call d) := iv_Sof ivk_36_0
theorem ivk_36_7 : iv_lk (iv_Gb 36) 7 = ([1, 1, 1, 1, 1], [(8,4,2,0,[]), (10,0,1,0,[]), (47,1,5,37,[]), (44,57,3,44,[]), (8,1,1,0,[]), (8,4,2,0,[]), (25,0,0,0,[]), (0,0,0,1,[]), (21,0,0,0,[]), (43,28,1,6,[]), (42,51,0,26,[])]) := by rw [iv_g36]; rfl
theorem ivj_36_7 {d : Nat} {st : List Value} {h : iv_H} {l0 l1 l2 l3 l4 : Option Value} : iv_K d 36 7 [l0, l1, l2, l3, l4] st h = iv_sem d 36 7 [l0, l1, l2, l3, l4] st h := iv_Kof ivk_36_7
theorem ivs_36_7 {d : Nat} {st : List Value} {h : iv_H} {ls : iv_L} : iv_sem d 36 7 ls st h = iv_x [(8,4,2,0,[]), (10,0,1,0,[]), (47,1,5,37,[]), (44,57,3,44,[]), (8,1,1,0,[]), (8,4,2,0,[]), (25,0,0,0,[]), (0,0,0,1,[]), (21,0,0,0,[]), (43,28,1,6,[]), (42,51,0,26,[])] ls st h (iv_K d 36) (iv_call d) := iv_Sof ivk_36_7
theorem ivk_36_28 : iv_lk (iv_Gb 36) 28 = ([1, 1, 1, 1, 1], [(8,3,1,0,[]), (0,0,0,-1,[]), (44,39,1,9,[]), (8,4,2,0,[]), (11,3,1,0,[]), (42,51,0,15,[])]) := by rw [iv_g36]; rfl
theorem ivj_36_28 {d : Nat} {st : List Value} {h : iv_H} {l0 l1 l2 l3 l4 : Option Value} : iv_K d 36 28 [l0, l1, l2, l3, l4] st h = iv_sem d 36 28 [l0, l1, l2, l3, l4] st h := iv_Kof ivk_36_28
theorem ivs_36_28 {d : Nat} {st : List Value} {h : iv_H} {ls : iv_L} : iv_sem d 36 28 ls st h = iv_x [(8,3,1,0,[]), (0,0,0,-1,[]), (44,39,1,9,[]), (8,4,2,0,[]), (11,3,1,0,[]), (42,51,0,15,[])] ls st h (iv_K d 36) (iv_call d) := iv_Sof ivk_36_28
theorem ivf_36_28 {d : Nat} {st : List Value} {h : iv_H} {l0 l1 l2 l3 l4 : Option Value} : iv_K d 36 28 [l0, l1, l2, l3, l4] st h = iv_x [(8,3,1,0,[]), (0,0,0,-1,[]), (44,39,1,9,[]), (8,4,2,0,[]), (11,3,1,0,[]), (42,51,0,15,[])] [l0, l1, l2, l3, l4] st h (iv_K d 36) (iv_call d) := (iv_Kof ivk_36_28).trans (iv_Sof ivk_36_28)
theorem ivk_36_39 : iv_lk (iv_Gb 36) 39 = ([1, 1, 1, 1, 1], [(8,2,1,0,[]), (10,0,1,0,[]), (8,3,1,0,[]), (8,4,2,0,[]), (66,25,2,95,[1]), (15,0,0,0,[]), (11,2,1,0,[]), (0,0,0,-1,[]), (11,3,1,0,[]), (71,51,0,0,[])]) := by rw [iv_g36]; rfl
theorem ivj_36_39 {d : Nat} {st : List Value} {h : iv_H} {l0 l1 l2 l3 l4 : Option Value} : iv_K d 36 39 [l0, l1, l2, l3, l4] st h = iv_sem d 36 39 [l0, l1, l2, l3, l4] st h := iv_Kof ivk_36_39
theorem ivs_36_39 {d : Nat} {st : List Value} {h : iv_H} {ls : iv_L} : iv_sem d 36 39 ls st h = iv_x [(8,2,1,0,[]), (10,0,1,0,[]), (8,3,1,0,[]), (8,4,2,0,[]), (66,25,2,95,[1]), (15,0,0,0,[]), (11,2,1,0,[]), (0,0,0,-1,[]), (11,3,1,0,[]), (71,51,0,0,[])] ls st h (iv_K d 36) (iv_call d) := iv_Sof ivk_36_39
theorem ivf_36_39 {d : Nat} {st : List Value} {h : iv_H} {l0 l1 l2 l3 l4 : Option Value} : iv_K d 36 39 [l0, l1, l2, l3, l4] st h = iv_x [(8,2,1,0,[]), (10,0,1,0,[]), (8,3,1,0,[]), (8,4,2,0,[]), (66,25,2,95,[1]), (15,0,0,0,[]), (11,2,1,0,[]), (0,0,0,-1,[]), (11,3,1,0,[]), (71,51,0,0,[])] [l0, l1, l2, l3, l4] st h (iv_K d 36) (iv_call d) := (iv_Kof ivk_36_39).trans (iv_Sof ivk_36_39)
theorem ivk_36_51 : iv_lk (iv_Gb 36) 51 = ([1, 1, 1, 1, 1], [(14,4,0,1,[]), (42,7,0,-47,[])]) := by rw [iv_g36]; rfl
theorem ivj_36_51 {d : Nat} {st : List Value} {h : iv_H} {l0 l1 l2 l3 l4 : Option Value} : iv_K d 36 51 [l0, l1, l2, l3, l4] st h = iv_sem d 36 51 [l0, l1, l2, l3, l4] st h := iv_Kof ivk_36_51
theorem ivs_36_51 {d : Nat} {st : List Value} {h : iv_H} {ls : iv_L} : iv_sem d 36 51 ls st h = iv_x [(14,4,0,1,[]), (42,7,0,-47,[])] ls st h (iv_K d 36) (iv_call d) := iv_Sof ivk_36_51
theorem ivf_36_51 {d : Nat} {st : List Value} {h : iv_H} {l0 l1 l2 l3 l4 : Option Value} : iv_K d 36 51 [l0, l1, l2, l3, l4] st h = iv_x [(14,4,0,1,[]), (42,7,0,-47,[])] [l0, l1, l2, l3, l4] st h (iv_K d 36) (iv_call d) := (iv_Kof ivk_36_51).trans (iv_Sof ivk_36_51)
theorem ivk_36_57 : iv_lk (iv_Gb 36) 57 = ([0, 0, 1, 0, 0], [(8,2,1,0,[]), (63,0,0,0,[])]) := by rw [iv_g36]; rfl
theorem ivj_36_57 {d : Nat} {st : List Value} {h : iv_H} {l0 l1 l2 l3 l4 : Option Value} : iv_K d 36 57 [l0, l1, l2, l3, l4] st h = iv_sem d 36 57 [none, none, l2, none, none] st h := iv_Kof ivk_36_57
theorem ivs_36_57 {d : Nat} {st : List Value} {h : iv_H} {ls : iv_L} : iv_sem d 36 57 ls st h = iv_x [(8,2,1,0,[]), (63,0,0,0,[])] ls st h (iv_K d 36) (iv_call d) := iv_Sof ivk_36_57
theorem ivf_36_57 {d : Nat} {st : List Value} {h : iv_H} {l0 l1 l2 l3 l4 : Option Value} : iv_K d 36 57 [l0, l1, l2, l3, l4] st h = iv_x [(8,2,1,0,[]), (63,0,0,0,[])] [none, none, l2, none, none] st h (iv_K d 36) (iv_call d) := (iv_Kof ivk_36_57).trans (iv_Sof ivk_36_57)
theorem ivc_36 {d : Nat} {h : iv_H} {p : Nat} {x0 : Int32} : iv_call (d + 1) 36 [.ref p, .int x0] h = iv_sem d 36 0 [some (.ref p), some (.int x0), none, none, none] [] h := iv_Cof (by decide) ivk_36_0 (Nat.le_of_ble_eq_true rfl)
/-- X2_init -/
theorem iv_g37 : iv_Gb 37 = iv_b37 := rfl
theorem ivk_37_0 : iv_lk (iv_Gb 37) 0 = ([1], [(10,0,1,0,[]), (69,0,0,3,[]), (10,0,1,0,[]), (0,0,0,-1,[]), (48,2,0,9,[]), (10,0,1,0,[]), (1,0,0,40,[]), (60,7,0,0,[]), (77,2,2,15,[]), (65,0,0,0,[])]) := by rw [iv_g37]; rfl
theorem ivj_37_0 {d : Nat} {st : List Value} {h : iv_H} {l0 : Option Value} : iv_K d 37 0 [l0] st h = iv_sem d 37 0 [l0] st h := iv_Kof ivk_37_0
theorem ivs_37_0 {d : Nat} {st : List Value} {h : iv_H} {ls : iv_L} : iv_sem d 37 0 ls st h = iv_x [(10,0,1,0,[]), (69,0,0,3,[]), (10,0,1,0,[]), (0,0,0,-1,[]), (48,2,0,9,[]), (10,0,1,0,[]), (1,0,0,40,[]), (60,7,0,0,[]), (77,2,2,15,[]), (65,0,0,0,[])] ls st h (iv_K d 37) (iv_call d) := iv_Sof ivk_37_0
theorem ivc_37 {d : Nat} {h : iv_H} {p : Nat} : iv_call (d + 1) 37 [.ref p] h = iv_sem d 37 0 [some (.ref p)] [] h := iv_Cof (by decide) ivk_37_0 (Nat.le_of_ble_eq_true rfl)
/-- X2_isEmpty -/
theorem iv_g38 : iv_Gb 38 = iv_b38 := rfl
theorem ivk_38_0 : iv_lk (iv_Gb 38) 0 = ([1], [(10,0,1,0,[]), (47,2,0,9,[]), (0,0,0,-1,[]), (44,12,1,7,[]), (0,0,0,1,[]), (42,13,0,4,[])]) := by rw [iv_g38]; rfl
theorem ivj_38_0 {d : Nat} {st : List Value} {h : iv_H} {l0 : Option Value} : iv_K d 38 0 [l0] st h = iv_sem d 38 0 [l0] st h := iv_Kof ivk_38_0
theorem ivs_38_0 {d : Nat} {st : List Value} {h : iv_H} {ls : iv_L} : iv_sem d 38 0 ls st h = iv_x [(10,0,1,0,[]), (47,2,0,9,[]), (0,0,0,-1,[]), (44,12,1,7,[]), (0,0,0,1,[]), (42,13,0,4,[])] ls st h (iv_K d 38) (iv_call d) := iv_Sof ivk_38_0
theorem ivk_38_12 : iv_lk (iv_Gb 38) 12 = ([0], [(0,0,0,0,[]), (71,13,0,0,[])]) := by rw [iv_g38]; rfl
theorem ivj_38_12 {d : Nat} {st : List Value} {h : iv_H} {l0 : Option Value} : iv_K d 38 12 [l0] st h = iv_sem d 38 12 [none] st h := iv_Kof ivk_38_12
theorem ivs_38_12 {d : Nat} {st : List Value} {h : iv_H} {ls : iv_L} : iv_sem d 38 12 ls st h = iv_x [(0,0,0,0,[]), (71,13,0,0,[])] ls st h (iv_K d 38) (iv_call d) := iv_Sof ivk_38_12
theorem ivf_38_12 {d : Nat} {st : List Value} {h : iv_H} {l0 : Option Value} : iv_K d 38 12 [l0] st h = iv_x [(0,0,0,0,[]), (71,13,0,0,[])] [none] st h (iv_K d 38) (iv_call d) := (iv_Kof ivk_38_12).trans (iv_Sof ivk_38_12)
theorem ivk_38_13 : iv_lk (iv_Gb 38) 13 = ([0], [(63,1,0,0,[])]) := by rw [iv_g38]; rfl
theorem ivj_38_13 {d : Nat} {st : List Value} {h : iv_H} {l0 : Option Value} : iv_K d 38 13 [l0] st h = iv_sem d 38 13 [none] st h := iv_Kof ivk_38_13
theorem ivs_38_13 {d : Nat} {st : List Value} {h : iv_H} {ls : iv_L} : iv_sem d 38 13 ls st h = iv_x [(63,1,0,0,[])] ls st h (iv_K d 38) (iv_call d) := iv_Sof ivk_38_13
theorem ivf_38_13 {d : Nat} {st : List Value} {h : iv_H} {l0 : Option Value} : iv_K d 38 13 [l0] st h = iv_x [(63,1,0,0,[])] [none] st h (iv_K d 38) (iv_call d) := (iv_Kof ivk_38_13).trans (iv_Sof ivk_38_13)
theorem ivc_38 {d : Nat} {h : iv_H} {p : Nat} : iv_call (d + 1) 38 [.ref p] h = iv_sem d 38 0 [some (.ref p)] [] h := iv_Cof (by decide) ivk_38_0 (Nat.le_of_ble_eq_true rfl)
/-- X2_isRow -/
theorem iv_g39 : iv_Gb 39 = iv_b39 := rfl
theorem ivk_39_0 : iv_lk (iv_Gb 39) 0 = ([1], [(10,0,1,0,[]), (47,2,0,9,[]), (43,19,2,15,[]), (10,0,1,0,[]), (47,2,0,9,[]), (0,0,0,5,[]), (44,19,3,7,[]), (0,0,0,1,[]), (42,20,0,4,[])]) := by rw [iv_g39]; rfl
theorem ivj_39_0 {d : Nat} {st : List Value} {h : iv_H} {l0 : Option Value} : iv_K d 39 0 [l0] st h = iv_sem d 39 0 [l0] st h := iv_Kof ivk_39_0
theorem ivs_39_0 {d : Nat} {st : List Value} {h : iv_H} {ls : iv_L} : iv_sem d 39 0 ls st h = iv_x [(10,0,1,0,[]), (47,2,0,9,[]), (43,19,2,15,[]), (10,0,1,0,[]), (47,2,0,9,[]), (0,0,0,5,[]), (44,19,3,7,[]), (0,0,0,1,[]), (42,20,0,4,[])] ls st h (iv_K d 39) (iv_call d) := iv_Sof ivk_39_0
theorem ivk_39_19 : iv_lk (iv_Gb 39) 19 = ([0], [(0,0,0,0,[]), (71,20,0,0,[])]) := by rw [iv_g39]; rfl
theorem ivj_39_19 {d : Nat} {st : List Value} {h : iv_H} {l0 : Option Value} : iv_K d 39 19 [l0] st h = iv_sem d 39 19 [none] st h := iv_Kof ivk_39_19
theorem ivs_39_19 {d : Nat} {st : List Value} {h : iv_H} {ls : iv_L} : iv_sem d 39 19 ls st h = iv_x [(0,0,0,0,[]), (71,20,0,0,[])] ls st h (iv_K d 39) (iv_call d) := iv_Sof ivk_39_19
theorem ivf_39_19 {d : Nat} {st : List Value} {h : iv_H} {l0 : Option Value} : iv_K d 39 19 [l0] st h = iv_x [(0,0,0,0,[]), (71,20,0,0,[])] [none] st h (iv_K d 39) (iv_call d) := (iv_Kof ivk_39_19).trans (iv_Sof ivk_39_19)
theorem ivk_39_20 : iv_lk (iv_Gb 39) 20 = ([0], [(63,1,0,0,[])]) := by rw [iv_g39]; rfl
theorem ivj_39_20 {d : Nat} {st : List Value} {h : iv_H} {l0 : Option Value} : iv_K d 39 20 [l0] st h = iv_sem d 39 20 [none] st h := iv_Kof ivk_39_20
theorem ivs_39_20 {d : Nat} {st : List Value} {h : iv_H} {ls : iv_L} : iv_sem d 39 20 ls st h = iv_x [(63,1,0,0,[])] ls st h (iv_K d 39) (iv_call d) := iv_Sof ivk_39_20
theorem ivf_39_20 {d : Nat} {st : List Value} {h : iv_H} {l0 : Option Value} : iv_K d 39 20 [l0] st h = iv_x [(63,1,0,0,[])] [none] st h (iv_K d 39) (iv_call d) := (iv_Kof ivk_39_20).trans (iv_Sof ivk_39_20)
theorem ivc_39 {d : Nat} {h : iv_H} {p : Nat} : iv_call (d + 1) 39 [.ref p] h = iv_sem d 39 0 [some (.ref p)] [] h := iv_Cof (by decide) ivk_39_0 (Nat.le_of_ble_eq_true rfl)
/-- X2_personHeld -/
theorem iv_g40 : iv_Gb 40 = iv_b40 := rfl
theorem ivk_40_0 : iv_lk (iv_Gb 40) 0 = ([1], [(10,0,1,0,[]), (47,2,0,9,[]), (1,0,0,10,[]), (44,19,2,13,[]), (10,0,1,0,[]), (47,2,0,9,[]), (1,0,0,10,[]), (16,0,0,0,[]), (42,20,0,4,[])]) := by rw [iv_g40]; rfl
theorem ivj_40_0 {d : Nat} {st : List Value} {h : iv_H} {l0 : Option Value} : iv_K d 40 0 [l0] st h = iv_sem d 40 0 [l0] st h := iv_Kof ivk_40_0
theorem ivs_40_0 {d : Nat} {st : List Value} {h : iv_H} {ls : iv_L} : iv_sem d 40 0 ls st h = iv_x [(10,0,1,0,[]), (47,2,0,9,[]), (1,0,0,10,[]), (44,19,2,13,[]), (10,0,1,0,[]), (47,2,0,9,[]), (1,0,0,10,[]), (16,0,0,0,[]), (42,20,0,4,[])] ls st h (iv_K d 40) (iv_call d) := iv_Sof ivk_40_0
theorem ivk_40_19 : iv_lk (iv_Gb 40) 19 = ([0], [(0,0,0,-1,[]), (71,20,0,0,[])]) := by rw [iv_g40]; rfl
theorem ivj_40_19 {d : Nat} {st : List Value} {h : iv_H} {l0 : Option Value} : iv_K d 40 19 [l0] st h = iv_sem d 40 19 [none] st h := iv_Kof ivk_40_19
theorem ivs_40_19 {d : Nat} {st : List Value} {h : iv_H} {ls : iv_L} : iv_sem d 40 19 ls st h = iv_x [(0,0,0,-1,[]), (71,20,0,0,[])] ls st h (iv_K d 40) (iv_call d) := iv_Sof ivk_40_19
theorem ivf_40_19 {d : Nat} {st : List Value} {h : iv_H} {l0 : Option Value} : iv_K d 40 19 [l0] st h = iv_x [(0,0,0,-1,[]), (71,20,0,0,[])] [none] st h (iv_K d 40) (iv_call d) := (iv_Kof ivk_40_19).trans (iv_Sof ivk_40_19)
theorem ivk_40_20 : iv_lk (iv_Gb 40) 20 = ([0], [(63,0,0,0,[])]) := by rw [iv_g40]; rfl
theorem ivj_40_20 {d : Nat} {st : List Value} {h : iv_H} {l0 : Option Value} : iv_K d 40 20 [l0] st h = iv_sem d 40 20 [none] st h := iv_Kof ivk_40_20
theorem ivs_40_20 {d : Nat} {st : List Value} {h : iv_H} {ls : iv_L} : iv_sem d 40 20 ls st h = iv_x [(63,0,0,0,[])] ls st h (iv_K d 40) (iv_call d) := iv_Sof ivk_40_20
theorem ivf_40_20 {d : Nat} {st : List Value} {h : iv_H} {l0 : Option Value} : iv_K d 40 20 [l0] st h = iv_x [(63,0,0,0,[])] [none] st h (iv_K d 40) (iv_call d) := (iv_Kof ivk_40_20).trans (iv_Sof ivk_40_20)
theorem ivc_40 {d : Nat} {h : iv_H} {p : Nat} : iv_call (d + 1) 40 [.ref p] h = iv_sem d 40 0 [some (.ref p)] [] h := iv_Cof (by decide) ivk_40_0 (Nat.le_of_ble_eq_true rfl)
/-- X2_becomeRow -/
theorem iv_g41 : iv_Gb 41 = iv_b41 := rfl
theorem ivk_41_0 : iv_lk (iv_Gb 41) 0 = ([1, 1, 1, 0], [(10,0,1,0,[]), (8,1,1,0,[]), (48,2,0,9,[]), (10,0,1,0,[]), (8,2,1,0,[]), (48,2,1,19,[]), (0,0,0,0,[]), (11,3,1,0,[]), (71,12,0,0,[])]) := by rw [iv_g41]; rfl
theorem ivj_41_0 {d : Nat} {st : List Value} {h : iv_H} {l0 l1 l2 l3 : Option Value} : iv_K d 41 0 [l0, l1, l2, l3] st h = iv_sem d 41 0 [l0, l1, l2, none] st h := iv_Kof ivk_41_0
theorem ivs_41_0 {d : Nat} {st : List Value} {h : iv_H} {ls : iv_L} : iv_sem d 41 0 ls st h = iv_x [(10,0,1,0,[]), (8,1,1,0,[]), (48,2,0,9,[]), (10,0,1,0,[]), (8,2,1,0,[]), (48,2,1,19,[]), (0,0,0,0,[]), (11,3,1,0,[]), (71,12,0,0,[])] ls st h (iv_K d 41) (iv_call d) := iv_Sof ivk_41_0
theorem ivk_41_12 : iv_lk (iv_Gb 41) 12 = ([1, 0, 0, 1], [(8,3,1,0,[]), (1,0,0,40,[]), (44,31,3,16,[]), (10,0,1,0,[]), (46,2,2,15,[]), (8,3,1,0,[]), (5,0,0,0,[]), (55,0,0,0,[]), (14,3,0,1,[]), (42,12,0,-16,[])]) := by rw [iv_g41]; rfl
theorem ivj_41_12 {d : Nat} {st : List Value} {h : iv_H} {l0 l1 l2 l3 : Option Value} : iv_K d 41 12 [l0, l1, l2, l3] st h = iv_sem d 41 12 [l0, none, none, l3] st h := iv_Kof ivk_41_12
theorem ivs_41_12 {d : Nat} {st : List Value} {h : iv_H} {ls : iv_L} : iv_sem d 41 12 ls st h = iv_x [(8,3,1,0,[]), (1,0,0,40,[]), (44,31,3,16,[]), (10,0,1,0,[]), (46,2,2,15,[]), (8,3,1,0,[]), (5,0,0,0,[]), (55,0,0,0,[]), (14,3,0,1,[]), (42,12,0,-16,[])] ls st h (iv_K d 41) (iv_call d) := iv_Sof ivk_41_12
theorem ivk_41_31 : iv_lk (iv_Gb 41) 31 = ([0, 0, 0, 0], [(65,0,0,0,[])]) := by rw [iv_g41]; rfl
theorem ivj_41_31 {d : Nat} {st : List Value} {h : iv_H} {l0 l1 l2 l3 : Option Value} : iv_K d 41 31 [l0, l1, l2, l3] st h = iv_sem d 41 31 [none, none, none, none] st h := iv_Kof ivk_41_31
theorem ivs_41_31 {d : Nat} {st : List Value} {h : iv_H} {ls : iv_L} : iv_sem d 41 31 ls st h = iv_x [(65,0,0,0,[])] ls st h (iv_K d 41) (iv_call d) := iv_Sof ivk_41_31
theorem ivf_41_31 {d : Nat} {st : List Value} {h : iv_H} {l0 l1 l2 l3 : Option Value} : iv_K d 41 31 [l0, l1, l2, l3] st h = iv_x [(65,0,0,0,[])] [none, none, none, none] st h (iv_K d 41) (iv_call d) := (iv_Kof ivk_41_31).trans (iv_Sof ivk_41_31)
theorem ivc_41 {d : Nat} {h : iv_H} {p : Nat} {x0 : Int32} {x1 : Int32} : iv_call (d + 1) 41 [.ref p, .int x0, .int x1] h = iv_sem d 41 0 [some (.ref p), some (.int x0), some (.int x1), none] [] h := iv_Cof (by decide) ivk_41_0 (Nat.le_of_ble_eq_true rfl)
/-- X2_put -/
theorem iv_g42 : iv_Gb 42 = iv_b42 := rfl
theorem ivk_42_0 : iv_lk (iv_Gb 42) 0 = ([1, 1, 1, 0], [(10,0,1,0,[]), (46,2,2,15,[]), (8,1,1,0,[]), (10,0,1,0,[]), (9,2,1,0,[]), (66,44,1,22,[2]), (55,0,0,0,[]), (65,0,0,0,[])]) := by rw [iv_g42]; rfl
theorem ivj_42_0 {d : Nat} {st : List Value} {h : iv_H} {l0 l1 l2 l3 : Option Value} : iv_K d 42 0 [l0, l1, l2, l3] st h = iv_sem d 42 0 [l0, l1, l2, none] st h := iv_Kof ivk_42_0
theorem ivs_42_0 {d : Nat} {st : List Value} {h : iv_H} {ls : iv_L} : iv_sem d 42 0 ls st h = iv_x [(10,0,1,0,[]), (46,2,2,15,[]), (8,1,1,0,[]), (10,0,1,0,[]), (9,2,1,0,[]), (66,44,1,22,[2]), (55,0,0,0,[]), (65,0,0,0,[])] ls st h (iv_K d 42) (iv_call d) := iv_Sof ivk_42_0
theorem ivc_42 {d : Nat} {h : iv_H} {p : Nat} {x0 : Int32} {x1 : Int64} : iv_call (d + 1) 42 [.ref p, .int x0, .long x1] h = iv_sem d 42 0 [some (.ref p), some (.int x0), some (.long x1), none] [] h := iv_Cof (by decide) ivk_42_0 (Nat.le_of_ble_eq_true rfl)
/-- X2_hasPlaces -/
theorem iv_g43 : iv_Gb 43 = iv_b43 := rfl
theorem ivk_43_0 : iv_lk (iv_Gb 43) 0 = ([1, 1, 1], [(8,1,1,0,[]), (43,30,2,29,[]), (8,2,1,0,[]), (43,30,2,25,[]), (8,1,1,0,[]), (10,0,1,0,[]), (47,2,1,19,[]), (44,30,4,17,[]), (8,2,1,0,[]), (10,0,1,0,[]), (47,2,1,19,[]), (8,1,1,0,[]), (16,0,0,0,[]), (44,30,4,7,[]), (0,0,0,1,[]), (42,31,0,4,[])]) := by rw [iv_g43]; rfl
theorem ivj_43_0 {d : Nat} {st : List Value} {h : iv_H} {l0 l1 l2 : Option Value} : iv_K d 43 0 [l0, l1, l2] st h = iv_sem d 43 0 [l0, l1, l2] st h := iv_Kof ivk_43_0
theorem ivs_43_0 {d : Nat} {st : List Value} {h : iv_H} {ls : iv_L} : iv_sem d 43 0 ls st h = iv_x [(8,1,1,0,[]), (43,30,2,29,[]), (8,2,1,0,[]), (43,30,2,25,[]), (8,1,1,0,[]), (10,0,1,0,[]), (47,2,1,19,[]), (44,30,4,17,[]), (8,2,1,0,[]), (10,0,1,0,[]), (47,2,1,19,[]), (8,1,1,0,[]), (16,0,0,0,[]), (44,30,4,7,[]), (0,0,0,1,[]), (42,31,0,4,[])] ls st h (iv_K d 43) (iv_call d) := iv_Sof ivk_43_0
theorem ivk_43_30 : iv_lk (iv_Gb 43) 30 = ([0, 0, 0], [(0,0,0,0,[]), (71,31,0,0,[])]) := by rw [iv_g43]; rfl
theorem ivj_43_30 {d : Nat} {st : List Value} {h : iv_H} {l0 l1 l2 : Option Value} : iv_K d 43 30 [l0, l1, l2] st h = iv_sem d 43 30 [none, none, none] st h := iv_Kof ivk_43_30
theorem ivs_43_30 {d : Nat} {st : List Value} {h : iv_H} {ls : iv_L} : iv_sem d 43 30 ls st h = iv_x [(0,0,0,0,[]), (71,31,0,0,[])] ls st h (iv_K d 43) (iv_call d) := iv_Sof ivk_43_30
theorem ivf_43_30 {d : Nat} {st : List Value} {h : iv_H} {l0 l1 l2 : Option Value} : iv_K d 43 30 [l0, l1, l2] st h = iv_x [(0,0,0,0,[]), (71,31,0,0,[])] [none, none, none] st h (iv_K d 43) (iv_call d) := (iv_Kof ivk_43_30).trans (iv_Sof ivk_43_30)
theorem ivk_43_31 : iv_lk (iv_Gb 43) 31 = ([0, 0, 0], [(63,1,0,0,[])]) := by rw [iv_g43]; rfl
theorem ivj_43_31 {d : Nat} {st : List Value} {h : iv_H} {l0 l1 l2 : Option Value} : iv_K d 43 31 [l0, l1, l2] st h = iv_sem d 43 31 [none, none, none] st h := iv_Kof ivk_43_31
theorem ivs_43_31 {d : Nat} {st : List Value} {h : iv_H} {ls : iv_L} : iv_sem d 43 31 ls st h = iv_x [(63,1,0,0,[])] ls st h (iv_K d 43) (iv_call d) := iv_Sof ivk_43_31
theorem ivf_43_31 {d : Nat} {st : List Value} {h : iv_H} {l0 l1 l2 : Option Value} : iv_K d 43 31 [l0, l1, l2] st h = iv_x [(63,1,0,0,[])] [none, none, none] st h (iv_K d 43) (iv_call d) := (iv_Kof ivk_43_31).trans (iv_Sof ivk_43_31)
theorem ivc_43 {d : Nat} {h : iv_H} {p : Nat} {x0 : Int32} {x1 : Int32} : iv_call (d + 1) 43 [.ref p, .int x0, .int x1] h = iv_sem d 43 0 [some (.ref p), some (.int x0), some (.int x1)] [] h := iv_Cof (by decide) ivk_43_0 (Nat.le_of_ble_eq_true rfl)
/-- X2_asHeld -/
theorem iv_g44 : iv_Gb 44 = iv_b44 := rfl
theorem ivk_44_0 : iv_lk (iv_Gb 44) 0 = ([1, 1, 0], [(10,0,1,0,[]), (47,2,0,9,[]), (45,70,0,36,[40,45,50,70,54])]) := by rw [iv_g44]; rfl
theorem ivj_44_0 {d : Nat} {st : List Value} {h : iv_H} {l0 l1 l2 : Option Value} : iv_K d 44 0 [l0, l1, l2] st h = iv_sem d 44 0 [l0, l1, none] st h := iv_Kof ivk_44_0
theorem ivs_44_0 {d : Nat} {st : List Value} {h : iv_H} {ls : iv_L} : iv_sem d 44 0 ls st h = iv_x [(10,0,1,0,[]), (47,2,0,9,[]), (45,70,0,36,[40,45,50,70,54])] ls st h (iv_K d 44) (iv_call d) := iv_Sof ivk_44_0
theorem ivk_44_40 : iv_lk (iv_Gb 44) 40 = ([0, 1, 0], [(9,1,1,0,[]), (35,0,0,0,[]), (36,0,0,0,[]), (34,0,0,0,[]), (64,0,0,0,[])]) := by rw [iv_g44]; rfl
theorem ivj_44_40 {d : Nat} {st : List Value} {h : iv_H} {l0 l1 l2 : Option Value} : iv_K d 44 40 [l0, l1, l2] st h = iv_sem d 44 40 [none, l1, none] st h := iv_Kof ivk_44_40
theorem ivs_44_40 {d : Nat} {st : List Value} {h : iv_H} {ls : iv_L} : iv_sem d 44 40 ls st h = iv_x [(9,1,1,0,[]), (35,0,0,0,[]), (36,0,0,0,[]), (34,0,0,0,[]), (64,0,0,0,[])] ls st h (iv_K d 44) (iv_call d) := iv_Sof ivk_44_40
theorem ivf_44_40 {d : Nat} {st : List Value} {h : iv_H} {l0 l1 l2 : Option Value} : iv_K d 44 40 [l0, l1, l2] st h = iv_x [(9,1,1,0,[]), (35,0,0,0,[]), (36,0,0,0,[]), (34,0,0,0,[]), (64,0,0,0,[])] [none, l1, none] st h (iv_K d 44) (iv_call d) := (iv_Kof ivk_44_40).trans (iv_Sof ivk_44_40)
theorem ivk_44_45 : iv_lk (iv_Gb 44) 45 = ([0, 1, 0], [(9,1,1,0,[]), (35,0,0,0,[]), (37,0,0,0,[]), (34,0,0,0,[]), (64,0,0,0,[])]) := by rw [iv_g44]; rfl
theorem ivj_44_45 {d : Nat} {st : List Value} {h : iv_H} {l0 l1 l2 : Option Value} : iv_K d 44 45 [l0, l1, l2] st h = iv_sem d 44 45 [none, l1, none] st h := iv_Kof ivk_44_45
theorem ivs_44_45 {d : Nat} {st : List Value} {h : iv_H} {ls : iv_L} : iv_sem d 44 45 ls st h = iv_x [(9,1,1,0,[]), (35,0,0,0,[]), (37,0,0,0,[]), (34,0,0,0,[]), (64,0,0,0,[])] ls st h (iv_K d 44) (iv_call d) := iv_Sof ivk_44_45
theorem ivf_44_45 {d : Nat} {st : List Value} {h : iv_H} {l0 l1 l2 : Option Value} : iv_K d 44 45 [l0, l1, l2] st h = iv_x [(9,1,1,0,[]), (35,0,0,0,[]), (37,0,0,0,[]), (34,0,0,0,[]), (64,0,0,0,[])] [none, l1, none] st h (iv_K d 44) (iv_call d) := (iv_Kof ivk_44_45).trans (iv_Sof ivk_44_45)
theorem ivk_44_50 : iv_lk (iv_Gb 44) 50 = ([0, 1, 0], [(9,1,1,0,[]), (35,0,0,0,[]), (34,0,0,0,[]), (64,0,0,0,[])]) := by rw [iv_g44]; rfl
theorem ivj_44_50 {d : Nat} {st : List Value} {h : iv_H} {l0 l1 l2 : Option Value} : iv_K d 44 50 [l0, l1, l2] st h = iv_sem d 44 50 [none, l1, none] st h := iv_Kof ivk_44_50
theorem ivs_44_50 {d : Nat} {st : List Value} {h : iv_H} {ls : iv_L} : iv_sem d 44 50 ls st h = iv_x [(9,1,1,0,[]), (35,0,0,0,[]), (34,0,0,0,[]), (64,0,0,0,[])] ls st h (iv_K d 44) (iv_call d) := iv_Sof ivk_44_50
theorem ivf_44_50 {d : Nat} {st : List Value} {h : iv_H} {l0 l1 l2 : Option Value} : iv_K d 44 50 [l0, l1, l2] st h = iv_x [(9,1,1,0,[]), (35,0,0,0,[]), (34,0,0,0,[]), (64,0,0,0,[])] [none, l1, none] st h (iv_K d 44) (iv_call d) := (iv_Kof ivk_44_50).trans (iv_Sof ivk_44_50)
theorem ivk_44_54 : iv_lk (iv_Gb 44) 54 = ([0, 1, 0], [(9,1,1,0,[]), (5,0,0,0,[]), (33,0,0,0,[]), (43,64,0,7,[]), (0,0,0,1,[]), (42,65,0,4,[])]) := by rw [iv_g44]; rfl
theorem ivj_44_54 {d : Nat} {st : List Value} {h : iv_H} {l0 l1 l2 : Option Value} : iv_K d 44 54 [l0, l1, l2] st h = iv_sem d 44 54 [none, l1, none] st h := iv_Kof ivk_44_54
theorem ivs_44_54 {d : Nat} {st : List Value} {h : iv_H} {ls : iv_L} : iv_sem d 44 54 ls st h = iv_x [(9,1,1,0,[]), (5,0,0,0,[]), (33,0,0,0,[]), (43,64,0,7,[]), (0,0,0,1,[]), (42,65,0,4,[])] ls st h (iv_K d 44) (iv_call d) := iv_Sof ivk_44_54
theorem ivf_44_54 {d : Nat} {st : List Value} {h : iv_H} {l0 l1 l2 : Option Value} : iv_K d 44 54 [l0, l1, l2] st h = iv_x [(9,1,1,0,[]), (5,0,0,0,[]), (33,0,0,0,[]), (43,64,0,7,[]), (0,0,0,1,[]), (42,65,0,4,[])] [none, l1, none] st h (iv_K d 44) (iv_call d) := (iv_Kof ivk_44_54).trans (iv_Sof ivk_44_54)
theorem ivk_44_64 : iv_lk (iv_Gb 44) 64 = ([0, 0, 0], [(0,0,0,0,[]), (71,65,0,0,[])]) := by rw [iv_g44]; rfl
theorem ivj_44_64 {d : Nat} {st : List Value} {h : iv_H} {l0 l1 l2 : Option Value} : iv_K d 44 64 [l0, l1, l2] st h = iv_sem d 44 64 [none, none, none] st h := iv_Kof ivk_44_64
theorem ivs_44_64 {d : Nat} {st : List Value} {h : iv_H} {ls : iv_L} : iv_sem d 44 64 ls st h = iv_x [(0,0,0,0,[]), (71,65,0,0,[])] ls st h (iv_K d 44) (iv_call d) := iv_Sof ivk_44_64
theorem ivf_44_64 {d : Nat} {st : List Value} {h : iv_H} {l0 l1 l2 : Option Value} : iv_K d 44 64 [l0, l1, l2] st h = iv_x [(0,0,0,0,[]), (71,65,0,0,[])] [none, none, none] st h (iv_K d 44) (iv_call d) := (iv_Kof ivk_44_64).trans (iv_Sof ivk_44_64)
theorem ivk_44_65 : iv_lk (iv_Gb 44) 65 = ([0, 0, 0], [(72,129,1,26,[]), (34,0,0,0,[]), (64,0,0,0,[])]) := by rw [iv_g44]; rfl
theorem ivj_44_65 {d : Nat} {st : List Value} {h : iv_H} {l0 l1 l2 : Option Value} : iv_K d 44 65 [l0, l1, l2] st h = iv_sem d 44 65 [none, none, none] st h := iv_Kof ivk_44_65
theorem ivs_44_65 {d : Nat} {st : List Value} {h : iv_H} {ls : iv_L} : iv_sem d 44 65 ls st h = iv_x [(72,129,1,26,[]), (34,0,0,0,[]), (64,0,0,0,[])] ls st h (iv_K d 44) (iv_call d) := iv_Sof ivk_44_65
theorem ivf_44_65 {d : Nat} {st : List Value} {h : iv_H} {l0 l1 l2 : Option Value} : iv_K d 44 65 [l0, l1, l2] st h = iv_x [(72,129,1,26,[]), (34,0,0,0,[]), (64,0,0,0,[])] [none, none, none] st h (iv_K d 44) (iv_call d) := (iv_Kof ivk_44_65).trans (iv_Sof ivk_44_65)
theorem ivk_44_70 : iv_lk (iv_Gb 44) 70 = ([0, 1, 0], [(9,1,1,0,[]), (64,0,0,0,[])]) := by rw [iv_g44]; rfl
theorem ivj_44_70 {d : Nat} {st : List Value} {h : iv_H} {l0 l1 l2 : Option Value} : iv_K d 44 70 [l0, l1, l2] st h = iv_sem d 44 70 [none, l1, none] st h := iv_Kof ivk_44_70
theorem ivs_44_70 {d : Nat} {st : List Value} {h : iv_H} {ls : iv_L} : iv_sem d 44 70 ls st h = iv_x [(9,1,1,0,[]), (64,0,0,0,[])] ls st h (iv_K d 44) (iv_call d) := iv_Sof ivk_44_70
theorem ivf_44_70 {d : Nat} {st : List Value} {h : iv_H} {l0 l1 l2 : Option Value} : iv_K d 44 70 [l0, l1, l2] st h = iv_x [(9,1,1,0,[]), (64,0,0,0,[])] [none, l1, none] st h (iv_K d 44) (iv_call d) := (iv_Kof ivk_44_70).trans (iv_Sof ivk_44_70)
theorem ivc_44 {d : Nat} {h : iv_H} {p : Nat} {x0 : Int64} : iv_call (d + 1) 44 [.ref p, .long x0] h = iv_sem d 44 0 [some (.ref p), some (.long x0), none] [] h := iv_Cof (by decide) ivk_44_0 (Nat.le_of_ble_eq_true rfl)
/-- X3_init -/
theorem iv_g45 : iv_Gb 45 = iv_b45 := rfl
theorem ivk_45_0 : iv_lk (iv_Gb 45) 0 = ([1], [(10,0,1,0,[]), (69,0,0,3,[]), (10,0,1,0,[]), (2,0,0,250,[]), (60,6,0,0,[]), (77,3,0,9,[]), (65,0,0,0,[])]) := by rw [iv_g45]; rfl
theorem ivj_45_0 {d : Nat} {st : List Value} {h : iv_H} {l0 : Option Value} : iv_K d 45 0 [l0] st h = iv_sem d 45 0 [l0] st h := iv_Kof ivk_45_0
theorem ivs_45_0 {d : Nat} {st : List Value} {h : iv_H} {ls : iv_L} : iv_sem d 45 0 ls st h = iv_x [(10,0,1,0,[]), (69,0,0,3,[]), (10,0,1,0,[]), (2,0,0,250,[]), (60,6,0,0,[]), (77,3,0,9,[]), (65,0,0,0,[])] ls st h (iv_K d 45) (iv_call d) := iv_Sof ivk_45_0
theorem ivc_45 {d : Nat} {h : iv_H} {p : Nat} : iv_call (d + 1) 45 [.ref p] h = iv_sem d 45 0 [some (.ref p)] [] h := iv_Cof (by decide) ivk_45_0 (Nat.le_of_ble_eq_true rfl)
/-- X3_append -/
theorem iv_g46 : iv_Gb 46 = iv_b46 := rfl
theorem ivk_46_0 : iv_lk (iv_Gb 46) 0 = ([1, 1], [(10,0,1,0,[]), (47,3,1,15,[]), (2,0,0,250,[]), (44,30,3,23,[]), (10,0,1,0,[]), (46,3,0,9,[]), (10,0,1,0,[]), (47,3,1,15,[]), (8,1,1,0,[]), (54,0,0,0,[]), (10,0,1,0,[]), (38,0,0,0,[]), (47,3,1,15,[]), (0,0,0,1,[]), (15,0,0,0,[]), (48,3,1,15,[]), (71,30,0,0,[])]) := by rw [iv_g46]; rfl
theorem ivj_46_0 {d : Nat} {st : List Value} {h : iv_H} {l0 l1 : Option Value} : iv_K d 46 0 [l0, l1] st h = iv_sem d 46 0 [l0, l1] st h := iv_Kof ivk_46_0
theorem ivs_46_0 {d : Nat} {st : List Value} {h : iv_H} {ls : iv_L} : iv_sem d 46 0 ls st h = iv_x [(10,0,1,0,[]), (47,3,1,15,[]), (2,0,0,250,[]), (44,30,3,23,[]), (10,0,1,0,[]), (46,3,0,9,[]), (10,0,1,0,[]), (47,3,1,15,[]), (8,1,1,0,[]), (54,0,0,0,[]), (10,0,1,0,[]), (38,0,0,0,[]), (47,3,1,15,[]), (0,0,0,1,[]), (15,0,0,0,[]), (48,3,1,15,[]), (71,30,0,0,[])] ls st h (iv_K d 46) (iv_call d) := iv_Sof ivk_46_0
theorem ivk_46_30 : iv_lk (iv_Gb 46) 30 = ([0, 0], [(65,0,0,0,[])]) := by rw [iv_g46]; rfl
theorem ivj_46_30 {d : Nat} {st : List Value} {h : iv_H} {l0 l1 : Option Value} : iv_K d 46 30 [l0, l1] st h = iv_sem d 46 30 [none, none] st h := iv_Kof ivk_46_30
theorem ivs_46_30 {d : Nat} {st : List Value} {h : iv_H} {ls : iv_L} : iv_sem d 46 30 ls st h = iv_x [(65,0,0,0,[])] ls st h (iv_K d 46) (iv_call d) := iv_Sof ivk_46_30
theorem ivf_46_30 {d : Nat} {st : List Value} {h : iv_H} {l0 l1 : Option Value} : iv_K d 46 30 [l0, l1] st h = iv_x [(65,0,0,0,[])] [none, none] st h (iv_K d 46) (iv_call d) := (iv_Kof ivk_46_30).trans (iv_Sof ivk_46_30)
theorem ivc_46 {d : Nat} {h : iv_H} {p : Nat} {x0 : Int32} : iv_call (d + 1) 46 [.ref p, .int x0] h = iv_sem d 46 0 [some (.ref p), some (.int x0)] [] h := iv_Cof (by decide) ivk_46_0 (Nat.le_of_ble_eq_true rfl)
/-- X3_readInto -/
theorem iv_g47 : iv_Gb 47 = iv_b47 := rfl
theorem ivk_47_0 : iv_lk (iv_Gb 47) 0 = ([1, 1, 0], [(10,0,1,0,[]), (0,0,0,0,[]), (48,3,3,19,[]), (10,0,1,0,[]), (66,58,0,22,[3]), (0,0,0,1,[]), (11,2,1,0,[]), (71,11,0,0,[])]) := by rw [iv_g47]; rfl
theorem ivj_47_0 {d : Nat} {st : List Value} {h : iv_H} {l0 l1 l2 : Option Value} : iv_K d 47 0 [l0, l1, l2] st h = iv_sem d 47 0 [l0, l1, none] st h := iv_Kof ivk_47_0
theorem ivs_47_0 {d : Nat} {st : List Value} {h : iv_H} {ls : iv_L} : iv_sem d 47 0 ls st h = iv_x [(10,0,1,0,[]), (0,0,0,0,[]), (48,3,3,19,[]), (10,0,1,0,[]), (66,58,0,22,[3]), (0,0,0,1,[]), (11,2,1,0,[]), (71,11,0,0,[])] ls st h (iv_K d 47) (iv_call d) := iv_Sof ivk_47_0
theorem ivk_47_11 : iv_lk (iv_Gb 47) 11 = ([1, 1, 1], [(8,2,1,0,[]), (2,0,0,250,[]), (44,57,4,42,[]), (10,0,1,0,[]), (10,1,1,0,[]), (66,48,1,25,[3]), (43,28,1,5,[]), (0,0,0,-1,[]), (63,0,0,0,[])]) := by rw [iv_g47]; rfl
theorem ivj_47_11 {d : Nat} {st : List Value} {h : iv_H} {l0 l1 l2 : Option Value} : iv_K d 47 11 [l0, l1, l2] st h = iv_sem d 47 11 [l0, l1, l2] st h := iv_Kof ivk_47_11
theorem ivs_47_11 {d : Nat} {st : List Value} {h : iv_H} {ls : iv_L} : iv_sem d 47 11 ls st h = iv_x [(8,2,1,0,[]), (2,0,0,250,[]), (44,57,4,42,[]), (10,0,1,0,[]), (10,1,1,0,[]), (66,48,1,25,[3]), (43,28,1,5,[]), (0,0,0,-1,[]), (63,0,0,0,[])] ls st h (iv_K d 47) (iv_call d) := iv_Sof ivk_47_11
theorem ivk_47_28 : iv_lk (iv_Gb 47) 28 = ([1, 1, 1], [(10,0,1,0,[]), (47,3,4,29,[]), (43,37,1,5,[]), (8,2,1,0,[]), (63,0,0,0,[])]) := by rw [iv_g47]; rfl
theorem ivj_47_28 {d : Nat} {st : List Value} {h : iv_H} {l0 l1 l2 : Option Value} : iv_K d 47 28 [l0, l1, l2] st h = iv_sem d 47 28 [l0, l1, l2] st h := iv_Kof ivk_47_28
theorem ivs_47_28 {d : Nat} {st : List Value} {h : iv_H} {ls : iv_L} : iv_sem d 47 28 ls st h = iv_x [(10,0,1,0,[]), (47,3,4,29,[]), (43,37,1,5,[]), (8,2,1,0,[]), (63,0,0,0,[])] ls st h (iv_K d 47) (iv_call d) := iv_Sof ivk_47_28
theorem ivf_47_28 {d : Nat} {st : List Value} {h : iv_H} {l0 l1 l2 : Option Value} : iv_K d 47 28 [l0, l1, l2] st h = iv_x [(10,0,1,0,[]), (47,3,4,29,[]), (43,37,1,5,[]), (8,2,1,0,[]), (63,0,0,0,[])] [l0, l1, l2] st h (iv_K d 47) (iv_call d) := (iv_Kof ivk_47_28).trans (iv_Sof ivk_47_28)
theorem ivk_47_37 : iv_lk (iv_Gb 47) 37 = ([1, 1, 1], [(10,0,1,0,[]), (47,3,4,29,[]), (0,0,0,3,[]), (44,47,0,5,[]), (0,0,0,-1,[]), (63,0,0,0,[])]) := by rw [iv_g47]; rfl
theorem ivj_47_37 {d : Nat} {st : List Value} {h : iv_H} {l0 l1 l2 : Option Value} : iv_K d 47 37 [l0, l1, l2] st h = iv_sem d 47 37 [l0, l1, l2] st h := iv_Kof ivk_47_37
theorem ivs_47_37 {d : Nat} {st : List Value} {h : iv_H} {ls : iv_L} : iv_sem d 47 37 ls st h = iv_x [(10,0,1,0,[]), (47,3,4,29,[]), (0,0,0,3,[]), (44,47,0,5,[]), (0,0,0,-1,[]), (63,0,0,0,[])] ls st h (iv_K d 47) (iv_call d) := iv_Sof ivk_47_37
theorem ivf_47_37 {d : Nat} {st : List Value} {h : iv_H} {l0 l1 l2 : Option Value} : iv_K d 47 37 [l0, l1, l2] st h = iv_x [(10,0,1,0,[]), (47,3,4,29,[]), (0,0,0,3,[]), (44,47,0,5,[]), (0,0,0,-1,[]), (63,0,0,0,[])] [l0, l1, l2] st h (iv_K d 47) (iv_call d) := (iv_Kof ivk_47_37).trans (iv_Sof ivk_47_37)
theorem ivk_47_47 : iv_lk (iv_Gb 47) 47 = ([1, 1, 1], [(10,0,1,0,[]), (66,58,0,22,[3]), (14,2,0,1,[]), (42,11,0,-43,[])]) := by rw [iv_g47]; rfl
theorem ivj_47_47 {d : Nat} {st : List Value} {h : iv_H} {l0 l1 l2 : Option Value} : iv_K d 47 47 [l0, l1, l2] st h = iv_sem d 47 47 [l0, l1, l2] st h := iv_Kof ivk_47_47
theorem ivs_47_47 {d : Nat} {st : List Value} {h : iv_H} {ls : iv_L} : iv_sem d 47 47 ls st h = iv_x [(10,0,1,0,[]), (66,58,0,22,[3]), (14,2,0,1,[]), (42,11,0,-43,[])] ls st h (iv_K d 47) (iv_call d) := iv_Sof ivk_47_47
theorem ivf_47_47 {d : Nat} {st : List Value} {h : iv_H} {l0 l1 l2 : Option Value} : iv_K d 47 47 [l0, l1, l2] st h = iv_x [(10,0,1,0,[]), (66,58,0,22,[3]), (14,2,0,1,[]), (42,11,0,-43,[])] [l0, l1, l2] st h (iv_K d 47) (iv_call d) := (iv_Kof ivk_47_47).trans (iv_Sof ivk_47_47)
theorem ivk_47_57 : iv_lk (iv_Gb 47) 57 = ([0, 0, 0], [(0,0,0,-1,[]), (63,0,0,0,[])]) := by rw [iv_g47]; rfl
theorem ivj_47_57 {d : Nat} {st : List Value} {h : iv_H} {l0 l1 l2 : Option Value} : iv_K d 47 57 [l0, l1, l2] st h = iv_sem d 47 57 [none, none, none] st h := iv_Kof ivk_47_57
theorem ivs_47_57 {d : Nat} {st : List Value} {h : iv_H} {ls : iv_L} : iv_sem d 47 57 ls st h = iv_x [(0,0,0,-1,[]), (63,0,0,0,[])] ls st h (iv_K d 47) (iv_call d) := iv_Sof ivk_47_57
theorem ivf_47_57 {d : Nat} {st : List Value} {h : iv_H} {l0 l1 l2 : Option Value} : iv_K d 47 57 [l0, l1, l2] st h = iv_x [(0,0,0,-1,[]), (63,0,0,0,[])] [none, none, none] st h (iv_K d 47) (iv_call d) := (iv_Kof ivk_47_57).trans (iv_Sof ivk_47_57)
theorem ivc_47 {d : Nat} {h : iv_H} {p : Nat} {q0 : Nat} : iv_call (d + 1) 47 [.ref p, .ref q0] h = iv_sem d 47 0 [some (.ref p), some (.ref q0), none] [] h := iv_Cof (by decide) ivk_47_0 (Nat.le_of_ble_eq_true rfl)
/-- X3_readStatement -/
theorem iv_g48 : iv_Gb 48 = iv_b48 := rfl
theorem ivk_48_0 : iv_lk (iv_Gb 48) 0 = ([1, 1], [(10,0,1,0,[]), (7,32,2,0,[]), (66,57,1,34,[3]), (43,15,0,9,[]), (10,0,1,0,[]), (10,1,1,0,[]), (66,49,1,38,[3]), (63,1,0,0,[])]) := by rw [iv_g48]; rfl
theorem ivj_48_0 {d : Nat} {st : List Value} {h : iv_H} {l0 l1 : Option Value} : iv_K d 48 0 [l0, l1] st h = iv_sem d 48 0 [l0, l1] st h := iv_Kof ivk_48_0
theorem ivs_48_0 {d : Nat} {st : List Value} {h : iv_H} {ls : iv_L} : iv_sem d 48 0 ls st h = iv_x [(10,0,1,0,[]), (7,32,2,0,[]), (66,57,1,34,[3]), (43,15,0,9,[]), (10,0,1,0,[]), (10,1,1,0,[]), (66,49,1,38,[3]), (63,1,0,0,[])] ls st h (iv_K d 48) (iv_call d) := iv_Sof ivk_48_0
theorem ivk_48_15 : iv_lk (iv_Gb 48) 15 = ([1, 1], [(10,0,1,0,[]), (7,41,3,0,[]), (66,57,1,34,[3]), (43,30,0,9,[]), (10,0,1,0,[]), (10,1,1,0,[]), (66,50,1,43,[3]), (63,1,0,0,[])]) := by rw [iv_g48]; rfl
theorem ivj_48_15 {d : Nat} {st : List Value} {h : iv_H} {l0 l1 : Option Value} : iv_K d 48 15 [l0, l1] st h = iv_sem d 48 15 [l0, l1] st h := iv_Kof ivk_48_15
theorem ivs_48_15 {d : Nat} {st : List Value} {h : iv_H} {ls : iv_L} : iv_sem d 48 15 ls st h = iv_x [(10,0,1,0,[]), (7,41,3,0,[]), (66,57,1,34,[3]), (43,30,0,9,[]), (10,0,1,0,[]), (10,1,1,0,[]), (66,50,1,43,[3]), (63,1,0,0,[])] ls st h (iv_K d 48) (iv_call d) := iv_Sof ivk_48_15
theorem ivf_48_15 {d : Nat} {st : List Value} {h : iv_H} {l0 l1 : Option Value} : iv_K d 48 15 [l0, l1] st h = iv_x [(10,0,1,0,[]), (7,41,3,0,[]), (66,57,1,34,[3]), (43,30,0,9,[]), (10,0,1,0,[]), (10,1,1,0,[]), (66,50,1,43,[3]), (63,1,0,0,[])] [l0, l1] st h (iv_K d 48) (iv_call d) := (iv_Kof ivk_48_15).trans (iv_Sof ivk_48_15)
theorem ivk_48_30 : iv_lk (iv_Gb 48) 30 = ([1, 1], [(10,0,1,0,[]), (7,46,4,0,[]), (66,57,1,34,[3]), (43,45,0,9,[]), (10,0,1,0,[]), (10,1,1,0,[]), (66,51,1,48,[3]), (63,1,0,0,[])]) := by rw [iv_g48]; rfl
theorem ivj_48_30 {d : Nat} {st : List Value} {h : iv_H} {l0 l1 : Option Value} : iv_K d 48 30 [l0, l1] st h = iv_sem d 48 30 [l0, l1] st h := iv_Kof ivk_48_30
theorem ivs_48_30 {d : Nat} {st : List Value} {h : iv_H} {ls : iv_L} : iv_sem d 48 30 ls st h = iv_x [(10,0,1,0,[]), (7,46,4,0,[]), (66,57,1,34,[3]), (43,45,0,9,[]), (10,0,1,0,[]), (10,1,1,0,[]), (66,51,1,48,[3]), (63,1,0,0,[])] ls st h (iv_K d 48) (iv_call d) := iv_Sof ivk_48_30
theorem ivf_48_30 {d : Nat} {st : List Value} {h : iv_H} {l0 l1 : Option Value} : iv_K d 48 30 [l0, l1] st h = iv_x [(10,0,1,0,[]), (7,46,4,0,[]), (66,57,1,34,[3]), (43,45,0,9,[]), (10,0,1,0,[]), (10,1,1,0,[]), (66,51,1,48,[3]), (63,1,0,0,[])] [l0, l1] st h (iv_K d 48) (iv_call d) := (iv_Kof ivk_48_30).trans (iv_Sof ivk_48_30)
theorem ivk_48_45 : iv_lk (iv_Gb 48) 45 = ([1, 1], [(10,0,1,0,[]), (7,51,5,0,[]), (66,57,1,34,[3]), (43,60,0,9,[]), (10,0,1,0,[]), (10,1,1,0,[]), (66,52,1,53,[3]), (63,1,0,0,[])]) := by rw [iv_g48]; rfl
theorem ivj_48_45 {d : Nat} {st : List Value} {h : iv_H} {l0 l1 : Option Value} : iv_K d 48 45 [l0, l1] st h = iv_sem d 48 45 [l0, l1] st h := iv_Kof ivk_48_45
theorem ivs_48_45 {d : Nat} {st : List Value} {h : iv_H} {ls : iv_L} : iv_sem d 48 45 ls st h = iv_x [(10,0,1,0,[]), (7,51,5,0,[]), (66,57,1,34,[3]), (43,60,0,9,[]), (10,0,1,0,[]), (10,1,1,0,[]), (66,52,1,53,[3]), (63,1,0,0,[])] ls st h (iv_K d 48) (iv_call d) := iv_Sof ivk_48_45
theorem ivf_48_45 {d : Nat} {st : List Value} {h : iv_H} {l0 l1 : Option Value} : iv_K d 48 45 [l0, l1] st h = iv_x [(10,0,1,0,[]), (7,51,5,0,[]), (66,57,1,34,[3]), (43,60,0,9,[]), (10,0,1,0,[]), (10,1,1,0,[]), (66,52,1,53,[3]), (63,1,0,0,[])] [l0, l1] st h (iv_K d 48) (iv_call d) := (iv_Kof ivk_48_45).trans (iv_Sof ivk_48_45)
theorem ivk_48_60 : iv_lk (iv_Gb 48) 60 = ([1, 1], [(10,0,1,0,[]), (7,56,6,0,[]), (66,57,1,34,[3]), (43,75,0,9,[]), (10,0,1,0,[]), (10,1,1,0,[]), (66,53,1,58,[3]), (63,1,0,0,[])]) := by rw [iv_g48]; rfl
theorem ivj_48_60 {d : Nat} {st : List Value} {h : iv_H} {l0 l1 : Option Value} : iv_K d 48 60 [l0, l1] st h = iv_sem d 48 60 [l0, l1] st h := iv_Kof ivk_48_60
theorem ivs_48_60 {d : Nat} {st : List Value} {h : iv_H} {ls : iv_L} : iv_sem d 48 60 ls st h = iv_x [(10,0,1,0,[]), (7,56,6,0,[]), (66,57,1,34,[3]), (43,75,0,9,[]), (10,0,1,0,[]), (10,1,1,0,[]), (66,53,1,58,[3]), (63,1,0,0,[])] ls st h (iv_K d 48) (iv_call d) := iv_Sof ivk_48_60
theorem ivf_48_60 {d : Nat} {st : List Value} {h : iv_H} {l0 l1 : Option Value} : iv_K d 48 60 [l0, l1] st h = iv_x [(10,0,1,0,[]), (7,56,6,0,[]), (66,57,1,34,[3]), (43,75,0,9,[]), (10,0,1,0,[]), (10,1,1,0,[]), (66,53,1,58,[3]), (63,1,0,0,[])] [l0, l1] st h (iv_K d 48) (iv_call d) := (iv_Kof ivk_48_60).trans (iv_Sof ivk_48_60)
theorem ivk_48_75 : iv_lk (iv_Gb 48) 75 = ([1, 1], [(10,0,1,0,[]), (7,61,7,0,[]), (66,57,1,34,[3]), (43,96,0,15,[]), (10,0,1,0,[]), (10,1,1,0,[]), (66,54,1,63,[3]), (43,96,0,7,[]), (0,0,0,1,[]), (42,97,0,4,[])]) := by rw [iv_g48]; rfl
theorem ivj_48_75 {d : Nat} {st : List Value} {h : iv_H} {l0 l1 : Option Value} : iv_K d 48 75 [l0, l1] st h = iv_sem d 48 75 [l0, l1] st h := iv_Kof ivk_48_75
theorem ivs_48_75 {d : Nat} {st : List Value} {h : iv_H} {ls : iv_L} : iv_sem d 48 75 ls st h = iv_x [(10,0,1,0,[]), (7,61,7,0,[]), (66,57,1,34,[3]), (43,96,0,15,[]), (10,0,1,0,[]), (10,1,1,0,[]), (66,54,1,63,[3]), (43,96,0,7,[]), (0,0,0,1,[]), (42,97,0,4,[])] ls st h (iv_K d 48) (iv_call d) := iv_Sof ivk_48_75
theorem ivf_48_75 {d : Nat} {st : List Value} {h : iv_H} {l0 l1 : Option Value} : iv_K d 48 75 [l0, l1] st h = iv_x [(10,0,1,0,[]), (7,61,7,0,[]), (66,57,1,34,[3]), (43,96,0,15,[]), (10,0,1,0,[]), (10,1,1,0,[]), (66,54,1,63,[3]), (43,96,0,7,[]), (0,0,0,1,[]), (42,97,0,4,[])] [l0, l1] st h (iv_K d 48) (iv_call d) := (iv_Kof ivk_48_75).trans (iv_Sof ivk_48_75)
theorem ivk_48_96 : iv_lk (iv_Gb 48) 96 = ([0, 0], [(0,0,0,0,[]), (71,97,0,0,[])]) := by rw [iv_g48]; rfl
theorem ivj_48_96 {d : Nat} {st : List Value} {h : iv_H} {l0 l1 : Option Value} : iv_K d 48 96 [l0, l1] st h = iv_sem d 48 96 [none, none] st h := iv_Kof ivk_48_96
theorem ivs_48_96 {d : Nat} {st : List Value} {h : iv_H} {ls : iv_L} : iv_sem d 48 96 ls st h = iv_x [(0,0,0,0,[]), (71,97,0,0,[])] ls st h (iv_K d 48) (iv_call d) := iv_Sof ivk_48_96
theorem ivf_48_96 {d : Nat} {st : List Value} {h : iv_H} {l0 l1 : Option Value} : iv_K d 48 96 [l0, l1] st h = iv_x [(0,0,0,0,[]), (71,97,0,0,[])] [none, none] st h (iv_K d 48) (iv_call d) := (iv_Kof ivk_48_96).trans (iv_Sof ivk_48_96)
theorem ivk_48_97 : iv_lk (iv_Gb 48) 97 = ([0, 0], [(63,1,0,0,[])]) := by rw [iv_g48]; rfl
theorem ivj_48_97 {d : Nat} {st : List Value} {h : iv_H} {l0 l1 : Option Value} : iv_K d 48 97 [l0, l1] st h = iv_sem d 48 97 [none, none] st h := iv_Kof ivk_48_97
theorem ivs_48_97 {d : Nat} {st : List Value} {h : iv_H} {ls : iv_L} : iv_sem d 48 97 ls st h = iv_x [(63,1,0,0,[])] ls st h (iv_K d 48) (iv_call d) := iv_Sof ivk_48_97
theorem ivf_48_97 {d : Nat} {st : List Value} {h : iv_H} {l0 l1 : Option Value} : iv_K d 48 97 [l0, l1] st h = iv_x [(63,1,0,0,[])] [none, none] st h (iv_K d 48) (iv_call d) := (iv_Kof ivk_48_97).trans (iv_Sof ivk_48_97)
theorem ivc_48 {d : Nat} {h : iv_H} {p : Nat} {q0 : Nat} : iv_call (d + 1) 48 [.ref p, .ref q0] h = iv_sem d 48 0 [some (.ref p), some (.ref q0)] [] h := iv_Cof (by decide) ivk_48_0 (Nat.le_of_ble_eq_true rfl)
/-- X3_readPerson -/
theorem iv_g49 : iv_Gb 49 = iv_b49 := rfl
theorem ivk_49_0 : iv_lk (iv_Gb 49) 0 = ([1, 1, 0, 0, 0], [(10,1,1,0,[]), (66,12,0,66,[1]), (43,9,0,5,[]), (0,0,0,0,[]), (63,1,0,0,[])]) := by rw [iv_g49]; rfl
theorem ivj_49_0 {d : Nat} {st : List Value} {h : iv_H} {l0 l1 l2 l3 l4 : Option Value} : iv_K d 49 0 [l0, l1, l2, l3, l4] st h = iv_sem d 49 0 [l0, l1, none, none, none] st h := iv_Kof ivk_49_0
theorem ivs_49_0 {d : Nat} {st : List Value} {h : iv_H} {ls : iv_L} : iv_sem d 49 0 ls st h = iv_x [(10,1,1,0,[]), (66,12,0,66,[1]), (43,9,0,5,[]), (0,0,0,0,[]), (63,1,0,0,[])] ls st h (iv_K d 49) (iv_call d) := iv_Sof ivk_49_0
theorem ivk_49_9 : iv_lk (iv_Gb 49) 9 = ([1, 1, 0, 0, 0], [(10,0,1,0,[]), (66,58,0,22,[3]), (10,0,1,0,[]), (0,0,0,0,[]), (0,0,0,5,[]), (66,55,2,72,[3]), (11,2,1,0,[]), (8,2,1,0,[]), (0,0,0,-1,[]), (44,29,1,7,[]), (0,0,0,-1,[]), (42,36,0,10,[])]) := by rw [iv_g49]; rfl
theorem ivj_49_9 {d : Nat} {st : List Value} {h : iv_H} {l0 l1 l2 l3 l4 : Option Value} : iv_K d 49 9 [l0, l1, l2, l3, l4] st h = iv_sem d 49 9 [l0, l1, none, none, none] st h := iv_Kof ivk_49_9
theorem ivs_49_9 {d : Nat} {st : List Value} {h : iv_H} {ls : iv_L} : iv_sem d 49 9 ls st h = iv_x [(10,0,1,0,[]), (66,58,0,22,[3]), (10,0,1,0,[]), (0,0,0,0,[]), (0,0,0,5,[]), (66,55,2,72,[3]), (11,2,1,0,[]), (8,2,1,0,[]), (0,0,0,-1,[]), (44,29,1,7,[]), (0,0,0,-1,[]), (42,36,0,10,[])] ls st h (iv_K d 49) (iv_call d) := iv_Sof ivk_49_9
theorem ivf_49_9 {d : Nat} {st : List Value} {h : iv_H} {l0 l1 l2 l3 l4 : Option Value} : iv_K d 49 9 [l0, l1, l2, l3, l4] st h = iv_x [(10,0,1,0,[]), (66,58,0,22,[3]), (10,0,1,0,[]), (0,0,0,0,[]), (0,0,0,5,[]), (66,55,2,72,[3]), (11,2,1,0,[]), (8,2,1,0,[]), (0,0,0,-1,[]), (44,29,1,7,[]), (0,0,0,-1,[]), (42,36,0,10,[])] [l0, l1, none, none, none] st h (iv_K d 49) (iv_call d) := (iv_Kof ivk_49_9).trans (iv_Sof ivk_49_9)
theorem ivk_49_29 : iv_lk (iv_Gb 49) 29 = ([1, 1, 1, 0, 0], [(10,0,1,0,[]), (0,0,0,0,[]), (1,0,0,9,[]), (66,55,2,72,[3]), (71,36,0,0,[])]) := by rw [iv_g49]; rfl
theorem ivj_49_29 {d : Nat} {st : List Value} {h : iv_H} {l0 l1 l2 l3 l4 : Option Value} : iv_K d 49 29 [l0, l1, l2, l3, l4] st h = iv_sem d 49 29 [l0, l1, l2, none, none] st h := iv_Kof ivk_49_29
theorem ivs_49_29 {d : Nat} {st : List Value} {h : iv_H} {ls : iv_L} : iv_sem d 49 29 ls st h = iv_x [(10,0,1,0,[]), (0,0,0,0,[]), (1,0,0,9,[]), (66,55,2,72,[3]), (71,36,0,0,[])] ls st h (iv_K d 49) (iv_call d) := iv_Sof ivk_49_29
theorem ivf_49_29 {d : Nat} {st : List Value} {h : iv_H} {l0 l1 l2 l3 l4 : Option Value} : iv_K d 49 29 [l0, l1, l2, l3, l4] st h = iv_x [(10,0,1,0,[]), (0,0,0,0,[]), (1,0,0,9,[]), (66,55,2,72,[3]), (71,36,0,0,[])] [l0, l1, l2, none, none] st h (iv_K d 49) (iv_call d) := (iv_Kof ivk_49_29).trans (iv_Sof ivk_49_29)
theorem ivk_49_36 : iv_lk (iv_Gb 49) 36 = ([1, 1, 1, 0, 0], [(11,3,1,0,[]), (8,3,1,0,[]), (0,0,0,-1,[]), (44,46,1,7,[]), (0,0,0,-1,[]), (42,53,0,10,[])]) := by rw [iv_g49]; rfl
theorem ivj_49_36 {d : Nat} {st : List Value} {h : iv_H} {l0 l1 l2 l3 l4 : Option Value} : iv_K d 49 36 [l0, l1, l2, l3, l4] st h = iv_sem d 49 36 [l0, l1, l2, none, none] st h := iv_Kof ivk_49_36
theorem ivs_49_36 {d : Nat} {st : List Value} {h : iv_H} {ls : iv_L} : iv_sem d 49 36 ls st h = iv_x [(11,3,1,0,[]), (8,3,1,0,[]), (0,0,0,-1,[]), (44,46,1,7,[]), (0,0,0,-1,[]), (42,53,0,10,[])] ls st h (iv_K d 49) (iv_call d) := iv_Sof ivk_49_36
theorem ivf_49_36 {d : Nat} {st : List Value} {h : iv_H} {l0 l1 l2 l3 l4 : Option Value} : iv_K d 49 36 [l0, l1, l2, l3, l4] st h = iv_x [(11,3,1,0,[]), (8,3,1,0,[]), (0,0,0,-1,[]), (44,46,1,7,[]), (0,0,0,-1,[]), (42,53,0,10,[])] [l0, l1, l2, none, none] st h (iv_K d 49) (iv_call d) := (iv_Kof ivk_49_36).trans (iv_Sof ivk_49_36)
theorem ivk_49_46 : iv_lk (iv_Gb 49) 46 = ([1, 1, 1, 1, 0], [(10,0,1,0,[]), (0,0,0,0,[]), (1,0,0,99,[]), (66,55,2,72,[3]), (71,53,0,0,[])]) := by rw [iv_g49]; rfl
theorem ivj_49_46 {d : Nat} {st : List Value} {h : iv_H} {l0 l1 l2 l3 l4 : Option Value} : iv_K d 49 46 [l0, l1, l2, l3, l4] st h = iv_sem d 49 46 [l0, l1, l2, l3, none] st h := iv_Kof ivk_49_46
theorem ivs_49_46 {d : Nat} {st : List Value} {h : iv_H} {ls : iv_L} : iv_sem d 49 46 ls st h = iv_x [(10,0,1,0,[]), (0,0,0,0,[]), (1,0,0,99,[]), (66,55,2,72,[3]), (71,53,0,0,[])] ls st h (iv_K d 49) (iv_call d) := iv_Sof ivk_49_46
theorem ivf_49_46 {d : Nat} {st : List Value} {h : iv_H} {l0 l1 l2 l3 l4 : Option Value} : iv_K d 49 46 [l0, l1, l2, l3, l4] st h = iv_x [(10,0,1,0,[]), (0,0,0,0,[]), (1,0,0,99,[]), (66,55,2,72,[3]), (71,53,0,0,[])] [l0, l1, l2, l3, none] st h (iv_K d 49) (iv_call d) := (iv_Kof ivk_49_46).trans (iv_Sof ivk_49_46)
theorem ivk_49_53 : iv_lk (iv_Gb 49) 53 = ([0, 1, 1, 1, 0], [(11,4,2,0,[]), (8,4,2,0,[]), (0,0,0,-1,[]), (44,63,1,5,[]), (0,0,0,0,[]), (63,1,0,0,[])]) := by rw [iv_g49]; rfl
theorem ivj_49_53 {d : Nat} {st : List Value} {h : iv_H} {l0 l1 l2 l3 l4 : Option Value} : iv_K d 49 53 [l0, l1, l2, l3, l4] st h = iv_sem d 49 53 [none, l1, l2, l3, none] st h := iv_Kof ivk_49_53
theorem ivs_49_53 {d : Nat} {st : List Value} {h : iv_H} {ls : iv_L} : iv_sem d 49 53 ls st h = iv_x [(11,4,2,0,[]), (8,4,2,0,[]), (0,0,0,-1,[]), (44,63,1,5,[]), (0,0,0,0,[]), (63,1,0,0,[])] ls st h (iv_K d 49) (iv_call d) := iv_Sof ivk_49_53
theorem ivf_49_53 {d : Nat} {st : List Value} {h : iv_H} {l0 l1 l2 l3 l4 : Option Value} : iv_K d 49 53 [l0, l1, l2, l3, l4] st h = iv_x [(11,4,2,0,[]), (8,4,2,0,[]), (0,0,0,-1,[]), (44,63,1,5,[]), (0,0,0,0,[]), (63,1,0,0,[])] [none, l1, l2, l3, none] st h (iv_K d 49) (iv_call d) := (iv_Kof ivk_49_53).trans (iv_Sof ivk_49_53)
theorem ivk_49_63 : iv_lk (iv_Gb 49) 63 = ([0, 1, 1, 1, 1], [(10,1,1,0,[]), (8,2,1,0,[]), (8,3,1,0,[]), (8,4,2,0,[]), (66,13,3,76,[1]), (39,0,0,0,[]), (0,0,0,1,[]), (63,1,0,0,[])]) := by rw [iv_g49]; rfl
theorem ivj_49_63 {d : Nat} {st : List Value} {h : iv_H} {l0 l1 l2 l3 l4 : Option Value} : iv_K d 49 63 [l0, l1, l2, l3, l4] st h = iv_sem d 49 63 [none, l1, l2, l3, l4] st h := iv_Kof ivk_49_63
theorem ivs_49_63 {d : Nat} {st : List Value} {h : iv_H} {ls : iv_L} : iv_sem d 49 63 ls st h = iv_x [(10,1,1,0,[]), (8,2,1,0,[]), (8,3,1,0,[]), (8,4,2,0,[]), (66,13,3,76,[1]), (39,0,0,0,[]), (0,0,0,1,[]), (63,1,0,0,[])] ls st h (iv_K d 49) (iv_call d) := iv_Sof ivk_49_63
theorem ivf_49_63 {d : Nat} {st : List Value} {h : iv_H} {l0 l1 l2 l3 l4 : Option Value} : iv_K d 49 63 [l0, l1, l2, l3, l4] st h = iv_x [(10,1,1,0,[]), (8,2,1,0,[]), (8,3,1,0,[]), (8,4,2,0,[]), (66,13,3,76,[1]), (39,0,0,0,[]), (0,0,0,1,[]), (63,1,0,0,[])] [none, l1, l2, l3, l4] st h (iv_K d 49) (iv_call d) := (iv_Kof ivk_49_63).trans (iv_Sof ivk_49_63)
theorem ivc_49 {d : Nat} {h : iv_H} {p : Nat} {q0 : Nat} : iv_call (d + 1) 49 [.ref p, .ref q0] h = iv_sem d 49 0 [some (.ref p), some (.ref q0), none, none, none] [] h := iv_Cof (by decide) ivk_49_0 (Nat.le_of_ble_eq_true rfl)
/-- X3_readWrong -/
theorem iv_g50 : iv_Gb 50 = iv_b50 := rfl
theorem ivk_50_0 : iv_lk (iv_Gb 50) 0 = ([1, 1, 0], [(10,0,1,0,[]), (66,58,0,22,[3]), (10,0,1,0,[]), (66,56,0,80,[3]), (11,2,1,0,[]), (10,1,1,0,[]), (8,2,1,0,[]), (66,10,1,84,[1]), (43,27,0,13,[]), (10,1,1,0,[]), (46,1,0,88,[]), (8,2,1,0,[]), (50,0,0,0,[]), (0,0,0,5,[]), (44,29,1,5,[]), (71,27,0,0,[])]) := by rw [iv_g50]; rfl
theorem ivj_50_0 {d : Nat} {st : List Value} {h : iv_H} {l0 l1 l2 : Option Value} : iv_K d 50 0 [l0, l1, l2] st h = iv_sem d 50 0 [l0, l1, none] st h := iv_Kof ivk_50_0
theorem ivs_50_0 {d : Nat} {st : List Value} {h : iv_H} {ls : iv_L} : iv_sem d 50 0 ls st h = iv_x [(10,0,1,0,[]), (66,58,0,22,[3]), (10,0,1,0,[]), (66,56,0,80,[3]), (11,2,1,0,[]), (10,1,1,0,[]), (8,2,1,0,[]), (66,10,1,84,[1]), (43,27,0,13,[]), (10,1,1,0,[]), (46,1,0,88,[]), (8,2,1,0,[]), (50,0,0,0,[]), (0,0,0,5,[]), (44,29,1,5,[]), (71,27,0,0,[])] ls st h (iv_K d 50) (iv_call d) := iv_Sof ivk_50_0
theorem ivk_50_27 : iv_lk (iv_Gb 50) 27 = ([0, 0, 0], [(0,0,0,0,[]), (63,1,0,0,[])]) := by rw [iv_g50]; rfl
theorem ivj_50_27 {d : Nat} {st : List Value} {h : iv_H} {l0 l1 l2 : Option Value} : iv_K d 50 27 [l0, l1, l2] st h = iv_sem d 50 27 [none, none, none] st h := iv_Kof ivk_50_27
theorem ivs_50_27 {d : Nat} {st : List Value} {h : iv_H} {ls : iv_L} : iv_sem d 50 27 ls st h = iv_x [(0,0,0,0,[]), (63,1,0,0,[])] ls st h (iv_K d 50) (iv_call d) := iv_Sof ivk_50_27
theorem ivf_50_27 {d : Nat} {st : List Value} {h : iv_H} {l0 l1 l2 : Option Value} : iv_K d 50 27 [l0, l1, l2] st h = iv_x [(0,0,0,0,[]), (63,1,0,0,[])] [none, none, none] st h (iv_K d 50) (iv_call d) := (iv_Kof ivk_50_27).trans (iv_Sof ivk_50_27)
theorem ivk_50_29 : iv_lk (iv_Gb 50) 29 = ([1, 1, 1], [(10,1,1,0,[]), (8,2,1,0,[]), (0,0,0,1,[]), (66,15,2,91,[1]), (10,0,1,0,[]), (66,58,0,22,[3]), (0,0,0,1,[]), (63,1,0,0,[])]) := by rw [iv_g50]; rfl
theorem ivj_50_29 {d : Nat} {st : List Value} {h : iv_H} {l0 l1 l2 : Option Value} : iv_K d 50 29 [l0, l1, l2] st h = iv_sem d 50 29 [l0, l1, l2] st h := iv_Kof ivk_50_29
theorem ivs_50_29 {d : Nat} {st : List Value} {h : iv_H} {ls : iv_L} : iv_sem d 50 29 ls st h = iv_x [(10,1,1,0,[]), (8,2,1,0,[]), (0,0,0,1,[]), (66,15,2,91,[1]), (10,0,1,0,[]), (66,58,0,22,[3]), (0,0,0,1,[]), (63,1,0,0,[])] ls st h (iv_K d 50) (iv_call d) := iv_Sof ivk_50_29
theorem ivf_50_29 {d : Nat} {st : List Value} {h : iv_H} {l0 l1 l2 : Option Value} : iv_K d 50 29 [l0, l1, l2] st h = iv_x [(10,1,1,0,[]), (8,2,1,0,[]), (0,0,0,1,[]), (66,15,2,91,[1]), (10,0,1,0,[]), (66,58,0,22,[3]), (0,0,0,1,[]), (63,1,0,0,[])] [l0, l1, l2] st h (iv_K d 50) (iv_call d) := (iv_Kof ivk_50_29).trans (iv_Sof ivk_50_29)
theorem ivc_50 {d : Nat} {h : iv_H} {p : Nat} {q0 : Nat} : iv_call (d + 1) 50 [.ref p, .ref q0] h = iv_sem d 50 0 [some (.ref p), some (.ref q0), none] [] h := iv_Cof (by decide) ivk_50_0 (Nat.le_of_ble_eq_true rfl)
/-- X3_readRight -/
theorem iv_g51 : iv_Gb 51 = iv_b51 := rfl
theorem ivk_51_0 : iv_lk (iv_Gb 51) 0 = ([1, 1, 0], [(10,0,1,0,[]), (66,58,0,22,[3]), (10,0,1,0,[]), (0,0,0,0,[]), (10,1,1,0,[]), (47,1,5,95,[]), (0,0,0,1,[]), (16,0,0,0,[]), (66,55,2,72,[3]), (11,2,1,0,[]), (8,2,1,0,[]), (0,0,0,-1,[]), (44,23,1,5,[]), (0,0,0,0,[]), (63,1,0,0,[])]) := by rw [iv_g51]; rfl
theorem ivj_51_0 {d : Nat} {st : List Value} {h : iv_H} {l0 l1 l2 : Option Value} : iv_K d 51 0 [l0, l1, l2] st h = iv_sem d 51 0 [l0, l1, none] st h := iv_Kof ivk_51_0
theorem ivs_51_0 {d : Nat} {st : List Value} {h : iv_H} {ls : iv_L} : iv_sem d 51 0 ls st h = iv_x [(10,0,1,0,[]), (66,58,0,22,[3]), (10,0,1,0,[]), (0,0,0,0,[]), (10,1,1,0,[]), (47,1,5,95,[]), (0,0,0,1,[]), (16,0,0,0,[]), (66,55,2,72,[3]), (11,2,1,0,[]), (8,2,1,0,[]), (0,0,0,-1,[]), (44,23,1,5,[]), (0,0,0,0,[]), (63,1,0,0,[])] ls st h (iv_K d 51) (iv_call d) := iv_Sof ivk_51_0
theorem ivk_51_23 : iv_lk (iv_Gb 51) 23 = ([0, 1, 1], [(10,1,1,0,[]), (8,2,1,0,[]), (0,0,0,0,[]), (66,15,2,91,[1]), (0,0,0,1,[]), (63,1,0,0,[])]) := by rw [iv_g51]; rfl
theorem ivj_51_23 {d : Nat} {st : List Value} {h : iv_H} {l0 l1 l2 : Option Value} : iv_K d 51 23 [l0, l1, l2] st h = iv_sem d 51 23 [none, l1, l2] st h := iv_Kof ivk_51_23
theorem ivs_51_23 {d : Nat} {st : List Value} {h : iv_H} {ls : iv_L} : iv_sem d 51 23 ls st h = iv_x [(10,1,1,0,[]), (8,2,1,0,[]), (0,0,0,0,[]), (66,15,2,91,[1]), (0,0,0,1,[]), (63,1,0,0,[])] ls st h (iv_K d 51) (iv_call d) := iv_Sof ivk_51_23
theorem ivf_51_23 {d : Nat} {st : List Value} {h : iv_H} {l0 l1 l2 : Option Value} : iv_K d 51 23 [l0, l1, l2] st h = iv_x [(10,1,1,0,[]), (8,2,1,0,[]), (0,0,0,0,[]), (66,15,2,91,[1]), (0,0,0,1,[]), (63,1,0,0,[])] [none, l1, l2] st h (iv_K d 51) (iv_call d) := (iv_Kof ivk_51_23).trans (iv_Sof ivk_51_23)
theorem ivc_51 {d : Nat} {h : iv_H} {p : Nat} {q0 : Nat} : iv_call (d + 1) 51 [.ref p, .ref q0] h = iv_sem d 51 0 [some (.ref p), some (.ref q0), none] [] h := iv_Cof (by decide) ivk_51_0 (Nat.le_of_ble_eq_true rfl)
/-- X3_readWords -/
theorem iv_g52 : iv_Gb 52 = iv_b52 := rfl
theorem ivk_52_0 : iv_lk (iv_Gb 52) 0 = ([1, 1, 0, 0], [(10,0,1,0,[]), (66,58,0,22,[3]), (10,0,1,0,[]), (0,0,0,0,[]), (10,1,1,0,[]), (47,1,5,95,[]), (0,0,0,1,[]), (16,0,0,0,[]), (66,55,2,72,[3]), (11,2,1,0,[]), (8,2,1,0,[]), (0,0,0,-1,[]), (44,25,1,7,[]), (0,0,0,-1,[]), (42,32,0,10,[])]) := by rw [iv_g52]; rfl
theorem ivj_52_0 {d : Nat} {st : List Value} {h : iv_H} {l0 l1 l2 l3 : Option Value} : iv_K d 52 0 [l0, l1, l2, l3] st h = iv_sem d 52 0 [l0, l1, none, none] st h := iv_Kof ivk_52_0
theorem ivs_52_0 {d : Nat} {st : List Value} {h : iv_H} {ls : iv_L} : iv_sem d 52 0 ls st h = iv_x [(10,0,1,0,[]), (66,58,0,22,[3]), (10,0,1,0,[]), (0,0,0,0,[]), (10,1,1,0,[]), (47,1,5,95,[]), (0,0,0,1,[]), (16,0,0,0,[]), (66,55,2,72,[3]), (11,2,1,0,[]), (8,2,1,0,[]), (0,0,0,-1,[]), (44,25,1,7,[]), (0,0,0,-1,[]), (42,32,0,10,[])] ls st h (iv_K d 52) (iv_call d) := iv_Sof ivk_52_0
theorem ivk_52_25 : iv_lk (iv_Gb 52) 25 = ([1, 1, 1, 0], [(10,0,1,0,[]), (0,0,0,0,[]), (1,0,0,99,[]), (66,55,2,72,[3]), (71,32,0,0,[])]) := by rw [iv_g52]; rfl
theorem ivj_52_25 {d : Nat} {st : List Value} {h : iv_H} {l0 l1 l2 l3 : Option Value} : iv_K d 52 25 [l0, l1, l2, l3] st h = iv_sem d 52 25 [l0, l1, l2, none] st h := iv_Kof ivk_52_25
theorem ivs_52_25 {d : Nat} {st : List Value} {h : iv_H} {ls : iv_L} : iv_sem d 52 25 ls st h = iv_x [(10,0,1,0,[]), (0,0,0,0,[]), (1,0,0,99,[]), (66,55,2,72,[3]), (71,32,0,0,[])] ls st h (iv_K d 52) (iv_call d) := iv_Sof ivk_52_25
theorem ivf_52_25 {d : Nat} {st : List Value} {h : iv_H} {l0 l1 l2 l3 : Option Value} : iv_K d 52 25 [l0, l1, l2, l3] st h = iv_x [(10,0,1,0,[]), (0,0,0,0,[]), (1,0,0,99,[]), (66,55,2,72,[3]), (71,32,0,0,[])] [l0, l1, l2, none] st h (iv_K d 52) (iv_call d) := (iv_Kof ivk_52_25).trans (iv_Sof ivk_52_25)
theorem ivk_52_32 : iv_lk (iv_Gb 52) 32 = ([0, 1, 1, 0], [(11,3,1,0,[]), (8,3,1,0,[]), (0,0,0,-1,[]), (44,40,1,5,[]), (0,0,0,0,[]), (63,1,0,0,[])]) := by rw [iv_g52]; rfl
theorem ivj_52_32 {d : Nat} {st : List Value} {h : iv_H} {l0 l1 l2 l3 : Option Value} : iv_K d 52 32 [l0, l1, l2, l3] st h = iv_sem d 52 32 [none, l1, l2, none] st h := iv_Kof ivk_52_32
theorem ivs_52_32 {d : Nat} {st : List Value} {h : iv_H} {ls : iv_L} : iv_sem d 52 32 ls st h = iv_x [(11,3,1,0,[]), (8,3,1,0,[]), (0,0,0,-1,[]), (44,40,1,5,[]), (0,0,0,0,[]), (63,1,0,0,[])] ls st h (iv_K d 52) (iv_call d) := iv_Sof ivk_52_32
theorem ivf_52_32 {d : Nat} {st : List Value} {h : iv_H} {l0 l1 l2 l3 : Option Value} : iv_K d 52 32 [l0, l1, l2, l3] st h = iv_x [(11,3,1,0,[]), (8,3,1,0,[]), (0,0,0,-1,[]), (44,40,1,5,[]), (0,0,0,0,[]), (63,1,0,0,[])] [none, l1, l2, none] st h (iv_K d 52) (iv_call d) := (iv_Kof ivk_52_32).trans (iv_Sof ivk_52_32)
theorem ivk_52_40 : iv_lk (iv_Gb 52) 40 = ([0, 1, 1, 1], [(10,1,1,0,[]), (46,1,2,98,[]), (8,2,1,0,[]), (8,3,1,0,[]), (54,0,0,0,[]), (0,0,0,1,[]), (63,1,0,0,[])]) := by rw [iv_g52]; rfl
theorem ivj_52_40 {d : Nat} {st : List Value} {h : iv_H} {l0 l1 l2 l3 : Option Value} : iv_K d 52 40 [l0, l1, l2, l3] st h = iv_sem d 52 40 [none, l1, l2, l3] st h := iv_Kof ivk_52_40
theorem ivs_52_40 {d : Nat} {st : List Value} {h : iv_H} {ls : iv_L} : iv_sem d 52 40 ls st h = iv_x [(10,1,1,0,[]), (46,1,2,98,[]), (8,2,1,0,[]), (8,3,1,0,[]), (54,0,0,0,[]), (0,0,0,1,[]), (63,1,0,0,[])] ls st h (iv_K d 52) (iv_call d) := iv_Sof ivk_52_40
theorem ivf_52_40 {d : Nat} {st : List Value} {h : iv_H} {l0 l1 l2 l3 : Option Value} : iv_K d 52 40 [l0, l1, l2, l3] st h = iv_x [(10,1,1,0,[]), (46,1,2,98,[]), (8,2,1,0,[]), (8,3,1,0,[]), (54,0,0,0,[]), (0,0,0,1,[]), (63,1,0,0,[])] [none, l1, l2, l3] st h (iv_K d 52) (iv_call d) := (iv_Kof ivk_52_40).trans (iv_Sof ivk_52_40)
theorem ivc_52 {d : Nat} {h : iv_H} {p : Nat} {q0 : Nat} : iv_call (d + 1) 52 [.ref p, .ref q0] h = iv_sem d 52 0 [some (.ref p), some (.ref q0), none, none] [] h := iv_Cof (by decide) ivk_52_0 (Nat.le_of_ble_eq_true rfl)
/-- X3_readMinutes -/
theorem iv_g53 : iv_Gb 53 = iv_b53 := rfl
theorem ivk_53_0 : iv_lk (iv_Gb 53) 0 = ([1, 1, 0], [(10,0,1,0,[]), (66,58,0,22,[3]), (10,0,1,0,[]), (0,0,0,1,[]), (1,0,0,9,[]), (66,55,2,72,[3]), (11,2,1,0,[]), (8,2,1,0,[]), (0,0,0,-1,[]), (44,19,1,5,[]), (0,0,0,0,[]), (63,1,0,0,[])]) := by rw [iv_g53]; rfl
theorem ivj_53_0 {d : Nat} {st : List Value} {h : iv_H} {l0 l1 l2 : Option Value} : iv_K d 53 0 [l0, l1, l2] st h = iv_sem d 53 0 [l0, l1, none] st h := iv_Kof ivk_53_0
theorem ivs_53_0 {d : Nat} {st : List Value} {h : iv_H} {ls : iv_L} : iv_sem d 53 0 ls st h = iv_x [(10,0,1,0,[]), (66,58,0,22,[3]), (10,0,1,0,[]), (0,0,0,1,[]), (1,0,0,9,[]), (66,55,2,72,[3]), (11,2,1,0,[]), (8,2,1,0,[]), (0,0,0,-1,[]), (44,19,1,5,[]), (0,0,0,0,[]), (63,1,0,0,[])] ls st h (iv_K d 53) (iv_call d) := iv_Sof ivk_53_0
theorem ivk_53_19 : iv_lk (iv_Gb 53) 19 = ([0, 1, 1], [(10,1,1,0,[]), (8,2,1,0,[]), (48,1,6,100,[]), (0,0,0,1,[]), (63,1,0,0,[])]) := by rw [iv_g53]; rfl
theorem ivj_53_19 {d : Nat} {st : List Value} {h : iv_H} {l0 l1 l2 : Option Value} : iv_K d 53 19 [l0, l1, l2] st h = iv_sem d 53 19 [none, l1, l2] st h := iv_Kof ivk_53_19
theorem ivs_53_19 {d : Nat} {st : List Value} {h : iv_H} {ls : iv_L} : iv_sem d 53 19 ls st h = iv_x [(10,1,1,0,[]), (8,2,1,0,[]), (48,1,6,100,[]), (0,0,0,1,[]), (63,1,0,0,[])] ls st h (iv_K d 53) (iv_call d) := iv_Sof ivk_53_19
theorem ivf_53_19 {d : Nat} {st : List Value} {h : iv_H} {l0 l1 l2 : Option Value} : iv_K d 53 19 [l0, l1, l2] st h = iv_x [(10,1,1,0,[]), (8,2,1,0,[]), (48,1,6,100,[]), (0,0,0,1,[]), (63,1,0,0,[])] [none, l1, l2] st h (iv_K d 53) (iv_call d) := (iv_Kof ivk_53_19).trans (iv_Sof ivk_53_19)
theorem ivc_53 {d : Nat} {h : iv_H} {p : Nat} {q0 : Nat} : iv_call (d + 1) 53 [.ref p, .ref q0] h = iv_sem d 53 0 [some (.ref p), some (.ref q0), none] [] h := iv_Cof (by decide) ivk_53_0 (Nat.le_of_ble_eq_true rfl)
/-- X3_readAbsent -/
theorem iv_g54 : iv_Gb 54 = iv_b54 := rfl
theorem ivk_54_0 : iv_lk (iv_Gb 54) 0 = ([1, 1, 0], [(10,0,1,0,[]), (66,58,0,22,[3]), (10,0,1,0,[]), (0,0,0,0,[]), (1,0,0,12,[]), (66,55,2,72,[3]), (11,2,1,0,[]), (8,2,1,0,[]), (0,0,0,-1,[]), (44,19,1,5,[]), (0,0,0,0,[]), (63,1,0,0,[])]) := by rw [iv_g54]; rfl
theorem ivj_54_0 {d : Nat} {st : List Value} {h : iv_H} {l0 l1 l2 : Option Value} : iv_K d 54 0 [l0, l1, l2] st h = iv_sem d 54 0 [l0, l1, none] st h := iv_Kof ivk_54_0
theorem ivs_54_0 {d : Nat} {st : List Value} {h : iv_H} {ls : iv_L} : iv_sem d 54 0 ls st h = iv_x [(10,0,1,0,[]), (66,58,0,22,[3]), (10,0,1,0,[]), (0,0,0,0,[]), (1,0,0,12,[]), (66,55,2,72,[3]), (11,2,1,0,[]), (8,2,1,0,[]), (0,0,0,-1,[]), (44,19,1,5,[]), (0,0,0,0,[]), (63,1,0,0,[])] ls st h (iv_K d 54) (iv_call d) := iv_Sof ivk_54_0
theorem ivk_54_19 : iv_lk (iv_Gb 54) 19 = ([0, 1, 1], [(10,1,1,0,[]), (8,2,1,0,[]), (48,1,7,102,[]), (0,0,0,1,[]), (63,1,0,0,[])]) := by rw [iv_g54]; rfl
theorem ivj_54_19 {d : Nat} {st : List Value} {h : iv_H} {l0 l1 l2 : Option Value} : iv_K d 54 19 [l0, l1, l2] st h = iv_sem d 54 19 [none, l1, l2] st h := iv_Kof ivk_54_19
theorem ivs_54_19 {d : Nat} {st : List Value} {h : iv_H} {ls : iv_L} : iv_sem d 54 19 ls st h = iv_x [(10,1,1,0,[]), (8,2,1,0,[]), (48,1,7,102,[]), (0,0,0,1,[]), (63,1,0,0,[])] ls st h (iv_K d 54) (iv_call d) := iv_Sof ivk_54_19
theorem ivf_54_19 {d : Nat} {st : List Value} {h : iv_H} {l0 l1 l2 : Option Value} : iv_K d 54 19 [l0, l1, l2] st h = iv_x [(10,1,1,0,[]), (8,2,1,0,[]), (48,1,7,102,[]), (0,0,0,1,[]), (63,1,0,0,[])] [none, l1, l2] st h (iv_K d 54) (iv_call d) := (iv_Kof ivk_54_19).trans (iv_Sof ivk_54_19)
theorem ivc_54 {d : Nat} {h : iv_H} {p : Nat} {q0 : Nat} : iv_call (d + 1) 54 [.ref p, .ref q0] h = iv_sem d 54 0 [some (.ref p), some (.ref q0), none] [] h := iv_Cof (by decide) ivk_54_0 (Nat.le_of_ble_eq_true rfl)
/-- X3_takeNumber -/
theorem iv_g55 : iv_Gb 55 = iv_b55 := rfl
theorem ivk_55_0 : iv_lk (iv_Gb 55) 0 = ([1, 1, 1, 0], [(10,0,1,0,[]), (66,56,0,80,[3]), (11,3,1,0,[]), (8,3,1,0,[]), (8,1,1,0,[]), (44,15,2,8,[]), (8,3,1,0,[]), (8,2,1,0,[]), (44,17,5,5,[]), (71,15,0,0,[])]) := by rw [iv_g55]; rfl
theorem ivj_55_0 {d : Nat} {st : List Value} {h : iv_H} {l0 l1 l2 l3 : Option Value} : iv_K d 55 0 [l0, l1, l2, l3] st h = iv_sem d 55 0 [l0, l1, l2, none] st h := iv_Kof ivk_55_0
theorem ivs_55_0 {d : Nat} {st : List Value} {h : iv_H} {ls : iv_L} : iv_sem d 55 0 ls st h = iv_x [(10,0,1,0,[]), (66,56,0,80,[3]), (11,3,1,0,[]), (8,3,1,0,[]), (8,1,1,0,[]), (44,15,2,8,[]), (8,3,1,0,[]), (8,2,1,0,[]), (44,17,5,5,[]), (71,15,0,0,[])] ls st h (iv_K d 55) (iv_call d) := iv_Sof ivk_55_0
theorem ivk_55_15 : iv_lk (iv_Gb 55) 15 = ([0, 0, 0, 0], [(0,0,0,-1,[]), (63,0,0,0,[])]) := by rw [iv_g55]; rfl
theorem ivj_55_15 {d : Nat} {st : List Value} {h : iv_H} {l0 l1 l2 l3 : Option Value} : iv_K d 55 15 [l0, l1, l2, l3] st h = iv_sem d 55 15 [none, none, none, none] st h := iv_Kof ivk_55_15
theorem ivs_55_15 {d : Nat} {st : List Value} {h : iv_H} {ls : iv_L} : iv_sem d 55 15 ls st h = iv_x [(0,0,0,-1,[]), (63,0,0,0,[])] ls st h (iv_K d 55) (iv_call d) := iv_Sof ivk_55_15
theorem ivf_55_15 {d : Nat} {st : List Value} {h : iv_H} {l0 l1 l2 l3 : Option Value} : iv_K d 55 15 [l0, l1, l2, l3] st h = iv_x [(0,0,0,-1,[]), (63,0,0,0,[])] [none, none, none, none] st h (iv_K d 55) (iv_call d) := (iv_Kof ivk_55_15).trans (iv_Sof ivk_55_15)
theorem ivk_55_17 : iv_lk (iv_Gb 55) 17 = ([1, 0, 0, 1], [(10,0,1,0,[]), (66,58,0,22,[3]), (8,3,1,0,[]), (63,0,0,0,[])]) := by rw [iv_g55]; rfl
theorem ivj_55_17 {d : Nat} {st : List Value} {h : iv_H} {l0 l1 l2 l3 : Option Value} : iv_K d 55 17 [l0, l1, l2, l3] st h = iv_sem d 55 17 [l0, none, none, l3] st h := iv_Kof ivk_55_17
theorem ivs_55_17 {d : Nat} {st : List Value} {h : iv_H} {ls : iv_L} : iv_sem d 55 17 ls st h = iv_x [(10,0,1,0,[]), (66,58,0,22,[3]), (8,3,1,0,[]), (63,0,0,0,[])] ls st h (iv_K d 55) (iv_call d) := iv_Sof ivk_55_17
theorem ivf_55_17 {d : Nat} {st : List Value} {h : iv_H} {l0 l1 l2 l3 : Option Value} : iv_K d 55 17 [l0, l1, l2, l3] st h = iv_x [(10,0,1,0,[]), (66,58,0,22,[3]), (8,3,1,0,[]), (63,0,0,0,[])] [l0, none, none, l3] st h (iv_K d 55) (iv_call d) := (iv_Kof ivk_55_17).trans (iv_Sof ivk_55_17)
theorem ivc_55 {d : Nat} {h : iv_H} {p : Nat} {x0 : Int32} {x1 : Int32} : iv_call (d + 1) 55 [.ref p, .int x0, .int x1] h = iv_sem d 55 0 [some (.ref p), some (.int x0), some (.int x1), none] [] h := iv_Cof (by decide) ivk_55_0 (Nat.le_of_ble_eq_true rfl)
/-- X3_numberAtHand -/
theorem iv_g56 : iv_Gb 56 = iv_b56 := rfl
theorem ivk_56_0 : iv_lk (iv_Gb 56) 0 = ([1, 0, 0], [(10,0,1,0,[]), (47,3,4,29,[]), (0,0,0,2,[]), (44,21,1,16,[]), (10,0,1,0,[]), (47,3,3,19,[]), (10,0,1,0,[]), (47,3,2,104,[]), (16,0,0,0,[]), (0,0,0,2,[]), (44,23,5,5,[]), (71,21,0,0,[])]) := by rw [iv_g56]; rfl
theorem ivj_56_0 {d : Nat} {st : List Value} {h : iv_H} {l0 l1 l2 : Option Value} : iv_K d 56 0 [l0, l1, l2] st h = iv_sem d 56 0 [l0, none, none] st h := iv_Kof ivk_56_0
theorem ivs_56_0 {d : Nat} {st : List Value} {h : iv_H} {ls : iv_L} : iv_sem d 56 0 ls st h = iv_x [(10,0,1,0,[]), (47,3,4,29,[]), (0,0,0,2,[]), (44,21,1,16,[]), (10,0,1,0,[]), (47,3,3,19,[]), (10,0,1,0,[]), (47,3,2,104,[]), (16,0,0,0,[]), (0,0,0,2,[]), (44,23,5,5,[]), (71,21,0,0,[])] ls st h (iv_K d 56) (iv_call d) := iv_Sof ivk_56_0
theorem ivk_56_21 : iv_lk (iv_Gb 56) 21 = ([0, 0, 0], [(0,0,0,-1,[]), (63,0,0,0,[])]) := by rw [iv_g56]; rfl
theorem ivj_56_21 {d : Nat} {st : List Value} {h : iv_H} {l0 l1 l2 : Option Value} : iv_K d 56 21 [l0, l1, l2] st h = iv_sem d 56 21 [none, none, none] st h := iv_Kof ivk_56_21
theorem ivs_56_21 {d : Nat} {st : List Value} {h : iv_H} {ls : iv_L} : iv_sem d 56 21 ls st h = iv_x [(0,0,0,-1,[]), (63,0,0,0,[])] ls st h (iv_K d 56) (iv_call d) := iv_Sof ivk_56_21
theorem ivf_56_21 {d : Nat} {st : List Value} {h : iv_H} {l0 l1 l2 : Option Value} : iv_K d 56 21 [l0, l1, l2] st h = iv_x [(0,0,0,-1,[]), (63,0,0,0,[])] [none, none, none] st h (iv_K d 56) (iv_call d) := (iv_Kof ivk_56_21).trans (iv_Sof ivk_56_21)
theorem ivk_56_23 : iv_lk (iv_Gb 56) 23 = ([1, 0, 0], [(0,0,0,0,[]), (11,1,1,0,[]), (10,0,1,0,[]), (47,3,2,104,[]), (11,2,1,0,[]), (71,30,0,0,[])]) := by rw [iv_g56]; rfl
theorem ivj_56_23 {d : Nat} {st : List Value} {h : iv_H} {l0 l1 l2 : Option Value} : iv_K d 56 23 [l0, l1, l2] st h = iv_sem d 56 23 [l0, none, none] st h := iv_Kof ivk_56_23
theorem ivs_56_23 {d : Nat} {st : List Value} {h : iv_H} {ls : iv_L} : iv_sem d 56 23 ls st h = iv_x [(0,0,0,0,[]), (11,1,1,0,[]), (10,0,1,0,[]), (47,3,2,104,[]), (11,2,1,0,[]), (71,30,0,0,[])] ls st h (iv_K d 56) (iv_call d) := iv_Sof ivk_56_23
theorem ivf_56_23 {d : Nat} {st : List Value} {h : iv_H} {l0 l1 l2 : Option Value} : iv_K d 56 23 [l0, l1, l2] st h = iv_x [(0,0,0,0,[]), (11,1,1,0,[]), (10,0,1,0,[]), (47,3,2,104,[]), (11,2,1,0,[]), (71,30,0,0,[])] [l0, none, none] st h (iv_K d 56) (iv_call d) := (iv_Kof ivk_56_23).trans (iv_Sof ivk_56_23)
theorem ivk_56_30 : iv_lk (iv_Gb 56) 30 = ([1, 1, 1], [(8,2,1,0,[]), (10,0,1,0,[]), (47,3,3,19,[]), (44,59,3,24,[]), (1,0,0,10,[]), (8,1,1,0,[]), (17,0,0,0,[]), (10,0,1,0,[]), (46,3,0,9,[]), (8,2,1,0,[]), (50,0,0,0,[]), (15,0,0,0,[]), (1,0,0,48,[]), (16,0,0,0,[]), (11,1,1,0,[]), (14,2,0,1,[]), (42,30,0,-26,[])]) := by rw [iv_g56]; rfl
theorem ivj_56_30 {d : Nat} {st : List Value} {h : iv_H} {l0 l1 l2 : Option Value} : iv_K d 56 30 [l0, l1, l2] st h = iv_sem d 56 30 [l0, l1, l2] st h := iv_Kof ivk_56_30
theorem ivs_56_30 {d : Nat} {st : List Value} {h : iv_H} {ls : iv_L} : iv_sem d 56 30 ls st h = iv_x [(8,2,1,0,[]), (10,0,1,0,[]), (47,3,3,19,[]), (44,59,3,24,[]), (1,0,0,10,[]), (8,1,1,0,[]), (17,0,0,0,[]), (10,0,1,0,[]), (46,3,0,9,[]), (8,2,1,0,[]), (50,0,0,0,[]), (15,0,0,0,[]), (1,0,0,48,[]), (16,0,0,0,[]), (11,1,1,0,[]), (14,2,0,1,[]), (42,30,0,-26,[])] ls st h (iv_K d 56) (iv_call d) := iv_Sof ivk_56_30
theorem ivk_56_59 : iv_lk (iv_Gb 56) 59 = ([0, 1, 0], [(8,1,1,0,[]), (63,0,0,0,[])]) := by rw [iv_g56]; rfl
theorem ivj_56_59 {d : Nat} {st : List Value} {h : iv_H} {l0 l1 l2 : Option Value} : iv_K d 56 59 [l0, l1, l2] st h = iv_sem d 56 59 [none, l1, none] st h := iv_Kof ivk_56_59
theorem ivs_56_59 {d : Nat} {st : List Value} {h : iv_H} {ls : iv_L} : iv_sem d 56 59 ls st h = iv_x [(8,1,1,0,[]), (63,0,0,0,[])] ls st h (iv_K d 56) (iv_call d) := iv_Sof ivk_56_59
theorem ivf_56_59 {d : Nat} {st : List Value} {h : iv_H} {l0 l1 l2 : Option Value} : iv_K d 56 59 [l0, l1, l2] st h = iv_x [(8,1,1,0,[]), (63,0,0,0,[])] [none, l1, none] st h (iv_K d 56) (iv_call d) := (iv_Kof ivk_56_59).trans (iv_Sof ivk_56_59)
theorem ivc_56 {d : Nat} {h : iv_H} {p : Nat} : iv_call (d + 1) 56 [.ref p] h = iv_sem d 56 0 [some (.ref p), none, none] [] h := iv_Cof (by decide) ivk_56_0 (Nat.le_of_ble_eq_true rfl)
/-- X3_isWord -/
theorem iv_g57 : iv_Gb 57 = iv_b57 := rfl
theorem ivk_57_0 : iv_lk (iv_Gb 57) 0 = ([1, 1, 0], [(10,0,1,0,[]), (47,3,4,29,[]), (0,0,0,1,[]), (44,24,1,19,[]), (10,0,1,0,[]), (47,3,3,19,[]), (10,0,1,0,[]), (47,3,2,104,[]), (16,0,0,0,[]), (10,1,1,0,[]), (73,1000,0,107,[12]), (44,26,0,5,[]), (71,24,0,0,[])]) := by rw [iv_g57]; rfl
theorem ivj_57_0 {d : Nat} {st : List Value} {h : iv_H} {l0 l1 l2 : Option Value} : iv_K d 57 0 [l0, l1, l2] st h = iv_sem d 57 0 [l0, l1, none] st h := iv_Kof ivk_57_0
theorem ivs_57_0 {d : Nat} {st : List Value} {h : iv_H} {ls : iv_L} : iv_sem d 57 0 ls st h = iv_x [(10,0,1,0,[]), (47,3,4,29,[]), (0,0,0,1,[]), (44,24,1,19,[]), (10,0,1,0,[]), (47,3,3,19,[]), (10,0,1,0,[]), (47,3,2,104,[]), (16,0,0,0,[]), (10,1,1,0,[]), (73,1000,0,107,[12]), (44,26,0,5,[]), (71,24,0,0,[])] ls st h (iv_K d 57) (iv_call d) := iv_Sof ivk_57_0
theorem ivk_57_24 : iv_lk (iv_Gb 57) 24 = ([0, 0, 0], [(0,0,0,0,[]), (63,1,0,0,[])]) := by rw [iv_g57]; rfl
theorem ivj_57_24 {d : Nat} {st : List Value} {h : iv_H} {l0 l1 l2 : Option Value} : iv_K d 57 24 [l0, l1, l2] st h = iv_sem d 57 24 [none, none, none] st h := iv_Kof ivk_57_24
theorem ivs_57_24 {d : Nat} {st : List Value} {h : iv_H} {ls : iv_L} : iv_sem d 57 24 ls st h = iv_x [(0,0,0,0,[]), (63,1,0,0,[])] ls st h (iv_K d 57) (iv_call d) := iv_Sof ivk_57_24
theorem ivf_57_24 {d : Nat} {st : List Value} {h : iv_H} {l0 l1 l2 : Option Value} : iv_K d 57 24 [l0, l1, l2] st h = iv_x [(0,0,0,0,[]), (63,1,0,0,[])] [none, none, none] st h (iv_K d 57) (iv_call d) := (iv_Kof ivk_57_24).trans (iv_Sof ivk_57_24)
theorem ivk_57_26 : iv_lk (iv_Gb 57) 26 = ([1, 1, 0], [(0,0,0,0,[]), (11,2,1,0,[]), (71,28,0,0,[])]) := by rw [iv_g57]; rfl
theorem ivj_57_26 {d : Nat} {st : List Value} {h : iv_H} {l0 l1 l2 : Option Value} : iv_K d 57 26 [l0, l1, l2] st h = iv_sem d 57 26 [l0, l1, none] st h := iv_Kof ivk_57_26
theorem ivs_57_26 {d : Nat} {st : List Value} {h : iv_H} {ls : iv_L} : iv_sem d 57 26 ls st h = iv_x [(0,0,0,0,[]), (11,2,1,0,[]), (71,28,0,0,[])] ls st h (iv_K d 57) (iv_call d) := iv_Sof ivk_57_26
theorem ivf_57_26 {d : Nat} {st : List Value} {h : iv_H} {l0 l1 l2 : Option Value} : iv_K d 57 26 [l0, l1, l2] st h = iv_x [(0,0,0,0,[]), (11,2,1,0,[]), (71,28,0,0,[])] [l0, l1, none] st h (iv_K d 57) (iv_call d) := (iv_Kof ivk_57_26).trans (iv_Sof ivk_57_26)
theorem ivk_57_28 : iv_lk (iv_Gb 57) 28 = ([1, 1, 1], [(8,2,1,0,[]), (10,1,1,0,[]), (73,1000,0,107,[12]), (44,63,3,30,[]), (10,0,1,0,[]), (46,3,0,9,[]), (10,0,1,0,[]), (47,3,2,104,[]), (8,2,1,0,[]), (15,0,0,0,[]), (50,0,0,0,[]), (10,1,1,0,[]), (8,2,1,0,[]), (73,1001,1,112,[12]), (44,57,0,5,[]), (0,0,0,0,[]), (63,1,0,0,[])]) := by rw [iv_g57]; rfl
theorem ivj_57_28 {d : Nat} {st : List Value} {h : iv_H} {l0 l1 l2 : Option Value} : iv_K d 57 28 [l0, l1, l2] st h = iv_sem d 57 28 [l0, l1, l2] st h := iv_Kof ivk_57_28
theorem ivs_57_28 {d : Nat} {st : List Value} {h : iv_H} {ls : iv_L} : iv_sem d 57 28 ls st h = iv_x [(8,2,1,0,[]), (10,1,1,0,[]), (73,1000,0,107,[12]), (44,63,3,30,[]), (10,0,1,0,[]), (46,3,0,9,[]), (10,0,1,0,[]), (47,3,2,104,[]), (8,2,1,0,[]), (15,0,0,0,[]), (50,0,0,0,[]), (10,1,1,0,[]), (8,2,1,0,[]), (73,1001,1,112,[12]), (44,57,0,5,[]), (0,0,0,0,[]), (63,1,0,0,[])] ls st h (iv_K d 57) (iv_call d) := iv_Sof ivk_57_28
theorem ivk_57_57 : iv_lk (iv_Gb 57) 57 = ([1, 1, 1], [(14,2,0,1,[]), (42,28,0,-32,[])]) := by rw [iv_g57]; rfl
theorem ivj_57_57 {d : Nat} {st : List Value} {h : iv_H} {l0 l1 l2 : Option Value} : iv_K d 57 57 [l0, l1, l2] st h = iv_sem d 57 57 [l0, l1, l2] st h := iv_Kof ivk_57_57
theorem ivs_57_57 {d : Nat} {st : List Value} {h : iv_H} {ls : iv_L} : iv_sem d 57 57 ls st h = iv_x [(14,2,0,1,[]), (42,28,0,-32,[])] ls st h (iv_K d 57) (iv_call d) := iv_Sof ivk_57_57
theorem ivf_57_57 {d : Nat} {st : List Value} {h : iv_H} {l0 l1 l2 : Option Value} : iv_K d 57 57 [l0, l1, l2] st h = iv_x [(14,2,0,1,[]), (42,28,0,-32,[])] [l0, l1, l2] st h (iv_K d 57) (iv_call d) := (iv_Kof ivk_57_57).trans (iv_Sof ivk_57_57)
theorem ivk_57_63 : iv_lk (iv_Gb 57) 63 = ([0, 0, 0], [(0,0,0,1,[]), (63,1,0,0,[])]) := by rw [iv_g57]; rfl
theorem ivj_57_63 {d : Nat} {st : List Value} {h : iv_H} {l0 l1 l2 : Option Value} : iv_K d 57 63 [l0, l1, l2] st h = iv_sem d 57 63 [none, none, none] st h := iv_Kof ivk_57_63
theorem ivs_57_63 {d : Nat} {st : List Value} {h : iv_H} {ls : iv_L} : iv_sem d 57 63 ls st h = iv_x [(0,0,0,1,[]), (63,1,0,0,[])] ls st h (iv_K d 57) (iv_call d) := iv_Sof ivk_57_63
theorem ivf_57_63 {d : Nat} {st : List Value} {h : iv_H} {l0 l1 l2 : Option Value} : iv_K d 57 63 [l0, l1, l2] st h = iv_x [(0,0,0,1,[]), (63,1,0,0,[])] [none, none, none] st h (iv_K d 57) (iv_call d) := (iv_Kof ivk_57_63).trans (iv_Sof ivk_57_63)
theorem ivc_57 {d : Nat} {h : iv_H} {p : Nat} {q0 : Nat} : iv_call (d + 1) 57 [.ref p, .ref q0] h = iv_sem d 57 0 [some (.ref p), some (.ref q0), none] [] h := iv_Cof (by decide) ivk_57_0 (Nat.le_of_ble_eq_true rfl)
/-- X3_advance -/
theorem iv_g58 : iv_Gb 58 = iv_b58 := rfl
theorem ivk_58_0 : iv_lk (iv_Gb 58) 0 = ([1], [(10,0,1,0,[]), (10,0,1,0,[]), (47,3,3,19,[]), (48,3,2,104,[]), (71,8,0,0,[])]) := by rw [iv_g58]; rfl
theorem ivj_58_0 {d : Nat} {st : List Value} {h : iv_H} {l0 : Option Value} : iv_K d 58 0 [l0] st h = iv_sem d 58 0 [l0] st h := iv_Kof ivk_58_0
theorem ivs_58_0 {d : Nat} {st : List Value} {h : iv_H} {ls : iv_L} : iv_sem d 58 0 ls st h = iv_x [(10,0,1,0,[]), (10,0,1,0,[]), (47,3,3,19,[]), (48,3,2,104,[]), (71,8,0,0,[])] ls st h (iv_K d 58) (iv_call d) := iv_Sof ivk_58_0
theorem ivk_58_8 : iv_lk (iv_Gb 58) 8 = ([1], [(10,0,1,0,[]), (47,3,2,104,[]), (10,0,1,0,[]), (47,3,1,15,[]), (44,46,3,30,[]), (10,0,1,0,[]), (46,3,0,9,[]), (10,0,1,0,[]), (47,3,2,104,[]), (50,0,0,0,[]), (1,0,0,32,[]), (44,46,1,16,[]), (10,0,1,0,[]), (38,0,0,0,[]), (47,3,2,104,[]), (0,0,0,1,[]), (15,0,0,0,[]), (48,3,2,104,[]), (42,8,0,-35,[])]) := by rw [iv_g58]; rfl
theorem ivj_58_8 {d : Nat} {st : List Value} {h : iv_H} {l0 : Option Value} : iv_K d 58 8 [l0] st h = iv_sem d 58 8 [l0] st h := iv_Kof ivk_58_8
theorem ivs_58_8 {d : Nat} {st : List Value} {h : iv_H} {ls : iv_L} : iv_sem d 58 8 ls st h = iv_x [(10,0,1,0,[]), (47,3,2,104,[]), (10,0,1,0,[]), (47,3,1,15,[]), (44,46,3,30,[]), (10,0,1,0,[]), (46,3,0,9,[]), (10,0,1,0,[]), (47,3,2,104,[]), (50,0,0,0,[]), (1,0,0,32,[]), (44,46,1,16,[]), (10,0,1,0,[]), (38,0,0,0,[]), (47,3,2,104,[]), (0,0,0,1,[]), (15,0,0,0,[]), (48,3,2,104,[]), (42,8,0,-35,[])] ls st h (iv_K d 58) (iv_call d) := iv_Sof ivk_58_8
theorem ivk_58_46 : iv_lk (iv_Gb 58) 46 = ([1], [(10,0,1,0,[]), (10,0,1,0,[]), (47,3,2,104,[]), (10,0,1,0,[]), (47,3,1,15,[]), (44,73,3,18,[]), (10,0,1,0,[]), (46,3,0,9,[]), (10,0,1,0,[]), (47,3,2,104,[]), (50,0,0,0,[]), (67,59,1,116,[]), (42,74,0,4,[])]) := by rw [iv_g58]; rfl
theorem ivj_58_46 {d : Nat} {st : List Value} {h : iv_H} {l0 : Option Value} : iv_K d 58 46 [l0] st h = iv_sem d 58 46 [l0] st h := iv_Kof ivk_58_46
theorem ivs_58_46 {d : Nat} {st : List Value} {h : iv_H} {ls : iv_L} : iv_sem d 58 46 ls st h = iv_x [(10,0,1,0,[]), (10,0,1,0,[]), (47,3,2,104,[]), (10,0,1,0,[]), (47,3,1,15,[]), (44,73,3,18,[]), (10,0,1,0,[]), (46,3,0,9,[]), (10,0,1,0,[]), (47,3,2,104,[]), (50,0,0,0,[]), (67,59,1,116,[]), (42,74,0,4,[])] ls st h (iv_K d 58) (iv_call d) := iv_Sof ivk_58_46
theorem ivf_58_46 {d : Nat} {st : List Value} {h : iv_H} {l0 : Option Value} : iv_K d 58 46 [l0] st h = iv_x [(10,0,1,0,[]), (10,0,1,0,[]), (47,3,2,104,[]), (10,0,1,0,[]), (47,3,1,15,[]), (44,73,3,18,[]), (10,0,1,0,[]), (46,3,0,9,[]), (10,0,1,0,[]), (47,3,2,104,[]), (50,0,0,0,[]), (67,59,1,116,[]), (42,74,0,4,[])] [l0] st h (iv_K d 58) (iv_call d) := (iv_Kof ivk_58_46).trans (iv_Sof ivk_58_46)
theorem ivk_58_73 : iv_lk (iv_Gb 58) 73 = ([1], [(0,0,0,0,[]), (71,74,0,0,[])]) := by rw [iv_g58]; rfl
theorem ivj_58_73 {d : Nat} {st : List Value} {h : iv_H} {l0 : Option Value} : iv_K d 58 73 [l0] st h = iv_sem d 58 73 [l0] st h := iv_Kof ivk_58_73
theorem ivs_58_73 {d : Nat} {st : List Value} {h : iv_H} {ls : iv_L} : iv_sem d 58 73 ls st h = iv_x [(0,0,0,0,[]), (71,74,0,0,[])] ls st h (iv_K d 58) (iv_call d) := iv_Sof ivk_58_73
theorem ivf_58_73 {d : Nat} {st : List Value} {h : iv_H} {l0 : Option Value} : iv_K d 58 73 [l0] st h = iv_x [(0,0,0,0,[]), (71,74,0,0,[])] [l0] st h (iv_K d 58) (iv_call d) := (iv_Kof ivk_58_73).trans (iv_Sof ivk_58_73)
theorem ivk_58_74 : iv_lk (iv_Gb 58) 74 = ([1], [(48,3,4,29,[]), (10,0,1,0,[]), (10,0,1,0,[]), (47,3,2,104,[]), (10,0,1,0,[]), (47,3,1,15,[]), (44,98,3,12,[]), (10,0,1,0,[]), (47,3,2,104,[]), (0,0,0,1,[]), (15,0,0,0,[]), (42,102,0,7,[])]) := by rw [iv_g58]; rfl
theorem ivj_58_74 {d : Nat} {st : List Value} {h : iv_H} {l0 : Option Value} : iv_K d 58 74 [l0] st h = iv_sem d 58 74 [l0] st h := iv_Kof ivk_58_74
theorem ivs_58_74 {d : Nat} {st : List Value} {h : iv_H} {ls : iv_L} : iv_sem d 58 74 ls st h = iv_x [(48,3,4,29,[]), (10,0,1,0,[]), (10,0,1,0,[]), (47,3,2,104,[]), (10,0,1,0,[]), (47,3,1,15,[]), (44,98,3,12,[]), (10,0,1,0,[]), (47,3,2,104,[]), (0,0,0,1,[]), (15,0,0,0,[]), (42,102,0,7,[])] ls st h (iv_K d 58) (iv_call d) := iv_Sof ivk_58_74
theorem ivf_58_74 {d : Nat} {st : List Value} {h : iv_H} {l0 : Option Value} : iv_K d 58 74 [l0] st h = iv_x [(48,3,4,29,[]), (10,0,1,0,[]), (10,0,1,0,[]), (47,3,2,104,[]), (10,0,1,0,[]), (47,3,1,15,[]), (44,98,3,12,[]), (10,0,1,0,[]), (47,3,2,104,[]), (0,0,0,1,[]), (15,0,0,0,[]), (42,102,0,7,[])] [l0] st h (iv_K d 58) (iv_call d) := (iv_Kof ivk_58_74).trans (iv_Sof ivk_58_74)
theorem ivk_58_98 : iv_lk (iv_Gb 58) 98 = ([1], [(10,0,1,0,[]), (47,3,2,104,[]), (71,102,0,0,[])]) := by rw [iv_g58]; rfl
theorem ivj_58_98 {d : Nat} {st : List Value} {h : iv_H} {l0 : Option Value} : iv_K d 58 98 [l0] st h = iv_sem d 58 98 [l0] st h := iv_Kof ivk_58_98
theorem ivs_58_98 {d : Nat} {st : List Value} {h : iv_H} {ls : iv_L} : iv_sem d 58 98 ls st h = iv_x [(10,0,1,0,[]), (47,3,2,104,[]), (71,102,0,0,[])] ls st h (iv_K d 58) (iv_call d) := iv_Sof ivk_58_98
theorem ivf_58_98 {d : Nat} {st : List Value} {h : iv_H} {l0 : Option Value} : iv_K d 58 98 [l0] st h = iv_x [(10,0,1,0,[]), (47,3,2,104,[]), (71,102,0,0,[])] [l0] st h (iv_K d 58) (iv_call d) := (iv_Kof ivk_58_98).trans (iv_Sof ivk_58_98)
theorem ivk_58_102 : iv_lk (iv_Gb 58) 102 = ([1], [(48,3,3,19,[]), (10,0,1,0,[]), (47,3,4,29,[]), (0,0,0,1,[]), (44,121,0,11,[]), (10,0,1,0,[]), (47,3,4,29,[]), (0,0,0,2,[]), (44,164,1,46,[]), (71,121,0,0,[])]) := by rw [iv_g58]; rfl
theorem ivj_58_102 {d : Nat} {st : List Value} {h : iv_H} {l0 : Option Value} : iv_K d 58 102 [l0] st h = iv_sem d 58 102 [l0] st h := iv_Kof ivk_58_102
theorem ivs_58_102 {d : Nat} {st : List Value} {h : iv_H} {ls : iv_L} : iv_sem d 58 102 ls st h = iv_x [(48,3,3,19,[]), (10,0,1,0,[]), (47,3,4,29,[]), (0,0,0,1,[]), (44,121,0,11,[]), (10,0,1,0,[]), (47,3,4,29,[]), (0,0,0,2,[]), (44,164,1,46,[]), (71,121,0,0,[])] ls st h (iv_K d 58) (iv_call d) := iv_Sof ivk_58_102
theorem ivf_58_102 {d : Nat} {st : List Value} {h : iv_H} {l0 : Option Value} : iv_K d 58 102 [l0] st h = iv_x [(48,3,3,19,[]), (10,0,1,0,[]), (47,3,4,29,[]), (0,0,0,1,[]), (44,121,0,11,[]), (10,0,1,0,[]), (47,3,4,29,[]), (0,0,0,2,[]), (44,164,1,46,[]), (71,121,0,0,[])] [l0] st h (iv_K d 58) (iv_call d) := (iv_Kof ivk_58_102).trans (iv_Sof ivk_58_102)
theorem ivk_58_121 : iv_lk (iv_Gb 58) 121 = ([1], [(10,0,1,0,[]), (47,3,3,19,[]), (10,0,1,0,[]), (47,3,1,15,[]), (44,164,3,35,[]), (10,0,1,0,[]), (46,3,0,9,[]), (10,0,1,0,[]), (47,3,3,19,[]), (50,0,0,0,[]), (67,59,1,116,[]), (10,0,1,0,[]), (47,3,4,29,[]), (44,164,1,16,[]), (10,0,1,0,[]), (38,0,0,0,[]), (47,3,3,19,[]), (0,0,0,1,[]), (15,0,0,0,[]), (48,3,3,19,[]), (42,121,0,-40,[])]) := by rw [iv_g58]; rfl
theorem ivj_58_121 {d : Nat} {st : List Value} {h : iv_H} {l0 : Option Value} : iv_K d 58 121 [l0] st h = iv_sem d 58 121 [l0] st h := iv_Kof ivk_58_121
theorem ivs_58_121 {d : Nat} {st : List Value} {h : iv_H} {ls : iv_L} : iv_sem d 58 121 ls st h = iv_x [(10,0,1,0,[]), (47,3,3,19,[]), (10,0,1,0,[]), (47,3,1,15,[]), (44,164,3,35,[]), (10,0,1,0,[]), (46,3,0,9,[]), (10,0,1,0,[]), (47,3,3,19,[]), (50,0,0,0,[]), (67,59,1,116,[]), (10,0,1,0,[]), (47,3,4,29,[]), (44,164,1,16,[]), (10,0,1,0,[]), (38,0,0,0,[]), (47,3,3,19,[]), (0,0,0,1,[]), (15,0,0,0,[]), (48,3,3,19,[]), (42,121,0,-40,[])] ls st h (iv_K d 58) (iv_call d) := iv_Sof ivk_58_121
theorem ivk_58_164 : iv_lk (iv_Gb 58) 164 = ([0], [(65,0,0,0,[])]) := by rw [iv_g58]; rfl
theorem ivj_58_164 {d : Nat} {st : List Value} {h : iv_H} {l0 : Option Value} : iv_K d 58 164 [l0] st h = iv_sem d 58 164 [none] st h := iv_Kof ivk_58_164
theorem ivs_58_164 {d : Nat} {st : List Value} {h : iv_H} {ls : iv_L} : iv_sem d 58 164 ls st h = iv_x [(65,0,0,0,[])] ls st h (iv_K d 58) (iv_call d) := iv_Sof ivk_58_164
theorem ivf_58_164 {d : Nat} {st : List Value} {h : iv_H} {l0 : Option Value} : iv_K d 58 164 [l0] st h = iv_x [(65,0,0,0,[])] [none] st h (iv_K d 58) (iv_call d) := (iv_Kof ivk_58_164).trans (iv_Sof ivk_58_164)
theorem ivc_58 {d : Nat} {h : iv_H} {p : Nat} : iv_call (d + 1) 58 [.ref p] h = iv_sem d 58 0 [some (.ref p)] [] h := iv_Cof (by decide) ivk_58_0 (Nat.le_of_ble_eq_true rfl)
/-- X3_tokenOf -/
theorem iv_g59 : iv_Gb 59 = iv_b59 := rfl
theorem ivk_59_0 : iv_lk (iv_Gb 59) 0 = ([1], [(8,0,1,0,[]), (1,0,0,97,[]), (44,14,2,11,[]), (8,0,1,0,[]), (1,0,0,122,[]), (44,14,4,5,[]), (0,0,0,1,[]), (63,0,0,0,[])]) := by rw [iv_g59]; rfl
theorem ivj_59_0 {d : Nat} {st : List Value} {h : iv_H} {l0 : Option Value} : iv_K d 59 0 [l0] st h = iv_sem d 59 0 [l0] st h := iv_Kof ivk_59_0
theorem ivs_59_0 {d : Nat} {st : List Value} {h : iv_H} {ls : iv_L} : iv_sem d 59 0 ls st h = iv_x [(8,0,1,0,[]), (1,0,0,97,[]), (44,14,2,11,[]), (8,0,1,0,[]), (1,0,0,122,[]), (44,14,4,5,[]), (0,0,0,1,[]), (63,0,0,0,[])] ls st h (iv_K d 59) (iv_call d) := iv_Sof ivk_59_0
theorem ivk_59_14 : iv_lk (iv_Gb 59) 14 = ([1], [(8,0,1,0,[]), (1,0,0,48,[]), (44,28,2,11,[]), (8,0,1,0,[]), (1,0,0,57,[]), (44,28,4,5,[]), (0,0,0,2,[]), (63,0,0,0,[])]) := by rw [iv_g59]; rfl
theorem ivj_59_14 {d : Nat} {st : List Value} {h : iv_H} {l0 : Option Value} : iv_K d 59 14 [l0] st h = iv_sem d 59 14 [l0] st h := iv_Kof ivk_59_14
theorem ivs_59_14 {d : Nat} {st : List Value} {h : iv_H} {ls : iv_L} : iv_sem d 59 14 ls st h = iv_x [(8,0,1,0,[]), (1,0,0,48,[]), (44,28,2,11,[]), (8,0,1,0,[]), (1,0,0,57,[]), (44,28,4,5,[]), (0,0,0,2,[]), (63,0,0,0,[])] ls st h (iv_K d 59) (iv_call d) := iv_Sof ivk_59_14
theorem ivf_59_14 {d : Nat} {st : List Value} {h : iv_H} {l0 : Option Value} : iv_K d 59 14 [l0] st h = iv_x [(8,0,1,0,[]), (1,0,0,48,[]), (44,28,2,11,[]), (8,0,1,0,[]), (1,0,0,57,[]), (44,28,4,5,[]), (0,0,0,2,[]), (63,0,0,0,[])] [l0] st h (iv_K d 59) (iv_call d) := (iv_Kof ivk_59_14).trans (iv_Sof ivk_59_14)
theorem ivk_59_28 : iv_lk (iv_Gb 59) 28 = ([1], [(8,0,1,0,[]), (1,0,0,59,[]), (44,38,1,7,[]), (0,0,0,3,[]), (42,39,0,4,[])]) := by rw [iv_g59]; rfl
theorem ivj_59_28 {d : Nat} {st : List Value} {h : iv_H} {l0 : Option Value} : iv_K d 59 28 [l0] st h = iv_sem d 59 28 [l0] st h := iv_Kof ivk_59_28
theorem ivs_59_28 {d : Nat} {st : List Value} {h : iv_H} {ls : iv_L} : iv_sem d 59 28 ls st h = iv_x [(8,0,1,0,[]), (1,0,0,59,[]), (44,38,1,7,[]), (0,0,0,3,[]), (42,39,0,4,[])] ls st h (iv_K d 59) (iv_call d) := iv_Sof ivk_59_28
theorem ivf_59_28 {d : Nat} {st : List Value} {h : iv_H} {l0 : Option Value} : iv_K d 59 28 [l0] st h = iv_x [(8,0,1,0,[]), (1,0,0,59,[]), (44,38,1,7,[]), (0,0,0,3,[]), (42,39,0,4,[])] [l0] st h (iv_K d 59) (iv_call d) := (iv_Kof ivk_59_28).trans (iv_Sof ivk_59_28)
theorem ivk_59_38 : iv_lk (iv_Gb 59) 38 = ([0], [(0,0,0,4,[]), (71,39,0,0,[])]) := by rw [iv_g59]; rfl
theorem ivj_59_38 {d : Nat} {st : List Value} {h : iv_H} {l0 : Option Value} : iv_K d 59 38 [l0] st h = iv_sem d 59 38 [none] st h := iv_Kof ivk_59_38
theorem ivs_59_38 {d : Nat} {st : List Value} {h : iv_H} {ls : iv_L} : iv_sem d 59 38 ls st h = iv_x [(0,0,0,4,[]), (71,39,0,0,[])] ls st h (iv_K d 59) (iv_call d) := iv_Sof ivk_59_38
theorem ivf_59_38 {d : Nat} {st : List Value} {h : iv_H} {l0 : Option Value} : iv_K d 59 38 [l0] st h = iv_x [(0,0,0,4,[]), (71,39,0,0,[])] [none] st h (iv_K d 59) (iv_call d) := (iv_Kof ivk_59_38).trans (iv_Sof ivk_59_38)
theorem ivk_59_39 : iv_lk (iv_Gb 59) 39 = ([0], [(63,0,0,0,[])]) := by rw [iv_g59]; rfl
theorem ivj_59_39 {d : Nat} {st : List Value} {h : iv_H} {l0 : Option Value} : iv_K d 59 39 [l0] st h = iv_sem d 59 39 [none] st h := iv_Kof ivk_59_39
theorem ivs_59_39 {d : Nat} {st : List Value} {h : iv_H} {ls : iv_L} : iv_sem d 59 39 ls st h = iv_x [(63,0,0,0,[])] ls st h (iv_K d 59) (iv_call d) := iv_Sof ivk_59_39
theorem ivf_59_39 {d : Nat} {st : List Value} {h : iv_H} {l0 : Option Value} : iv_K d 59 39 [l0] st h = iv_x [(63,0,0,0,[])] [none] st h (iv_K d 59) (iv_call d) := (iv_Kof ivk_59_39).trans (iv_Sof ivk_59_39)
theorem ivc_59 {d : Nat} {h : iv_H} {x0 : Int32} : iv_call (d + 1) 59 [.int x0] h = iv_sem d 59 0 [some (.int x0)] [] h := iv_Cof (by decide) ivk_59_0 (Nat.le_of_ble_eq_true rfl)
/-- J6_bitCount_0f7a4 -/
theorem iv_g258 : iv_Gb 258 = iv_b258 := rfl
theorem ivk_258_0 : iv_lk (iv_Gb 258) 0 = ([1], [(8,0,1,0,[]), (8,0,1,0,[]), (0,0,0,1,[]), (26,0,0,0,[]), (4,265,0,1431655765,[]), (21,0,0,0,[]), (16,0,0,0,[]), (11,0,1,0,[]), (8,0,1,0,[]), (4,266,0,858993459,[]), (21,0,0,0,[]), (8,0,1,0,[]), (0,0,0,2,[]), (26,0,0,0,[]), (4,266,0,858993459,[]), (21,0,0,0,[]), (15,0,0,0,[]), (11,0,1,0,[]), (8,0,1,0,[]), (8,0,1,0,[]), (0,0,0,4,[]), (26,0,0,0,[]), (15,0,0,0,[]), (4,267,0,252645135,[]), (21,0,0,0,[]), (11,0,1,0,[]), (8,0,1,0,[]), (8,0,1,0,[]), (1,0,0,8,[]), (26,0,0,0,[]), (15,0,0,0,[]), (11,0,1,0,[]), (8,0,1,0,[]), (8,0,1,0,[]), (1,0,0,16,[]), (26,0,0,0,[]), (15,0,0,0,[]), (11,0,1,0,[]), (8,0,1,0,[]), (1,0,0,63,[]), (21,0,0,0,[]), (63,0,0,0,[])]) := by rw [iv_g258]; rfl
theorem ivj_258_0 {d : Nat} {st : List Value} {h : iv_H} {l0 : Option Value} : iv_K d 258 0 [l0] st h = iv_sem d 258 0 [l0] st h := iv_Kof ivk_258_0
theorem ivs_258_0 {d : Nat} {st : List Value} {h : iv_H} {ls : iv_L} : iv_sem d 258 0 ls st h = iv_x [(8,0,1,0,[]), (8,0,1,0,[]), (0,0,0,1,[]), (26,0,0,0,[]), (4,265,0,1431655765,[]), (21,0,0,0,[]), (16,0,0,0,[]), (11,0,1,0,[]), (8,0,1,0,[]), (4,266,0,858993459,[]), (21,0,0,0,[]), (8,0,1,0,[]), (0,0,0,2,[]), (26,0,0,0,[]), (4,266,0,858993459,[]), (21,0,0,0,[]), (15,0,0,0,[]), (11,0,1,0,[]), (8,0,1,0,[]), (8,0,1,0,[]), (0,0,0,4,[]), (26,0,0,0,[]), (15,0,0,0,[]), (4,267,0,252645135,[]), (21,0,0,0,[]), (11,0,1,0,[]), (8,0,1,0,[]), (8,0,1,0,[]), (1,0,0,8,[]), (26,0,0,0,[]), (15,0,0,0,[]), (11,0,1,0,[]), (8,0,1,0,[]), (8,0,1,0,[]), (1,0,0,16,[]), (26,0,0,0,[]), (15,0,0,0,[]), (11,0,1,0,[]), (8,0,1,0,[]), (1,0,0,63,[]), (21,0,0,0,[]), (63,0,0,0,[])] ls st h (iv_K d 258) (iv_call d) := iv_Sof ivk_258_0
theorem ivc_258 {d : Nat} {h : iv_H} {x0 : Int32} : iv_call (d + 1) 258 [.int x0] h = iv_sem d 258 0 [some (.int x0)] [] h := iv_Cof (by decide) ivk_258_0 (Nat.le_of_ble_eq_true rfl)
/-- J9_floorMod_7cf53 -/
theorem iv_g259 : iv_Gb 259 = iv_b259 := rfl
theorem ivk_259_0 : iv_lk (iv_Gb 259) 0 = ([1, 1, 0], [(8,0,1,0,[]), (8,1,1,0,[]), (19,0,0,0,[]), (11,2,1,0,[]), (8,0,1,0,[]), (8,1,1,0,[]), (23,0,0,0,[]), (43,18,3,11,[]), (8,2,1,0,[]), (43,18,0,7,[]), (8,2,1,0,[]), (8,1,1,0,[]), (15,0,0,0,[]), (63,0,0,0,[])]) := by rw [iv_g259]; rfl
theorem ivj_259_0 {d : Nat} {st : List Value} {h : iv_H} {l0 l1 l2 : Option Value} : iv_K d 259 0 [l0, l1, l2] st h = iv_sem d 259 0 [l0, l1, none] st h := iv_Kof ivk_259_0
theorem ivs_259_0 {d : Nat} {st : List Value} {h : iv_H} {ls : iv_L} : iv_sem d 259 0 ls st h = iv_x [(8,0,1,0,[]), (8,1,1,0,[]), (19,0,0,0,[]), (11,2,1,0,[]), (8,0,1,0,[]), (8,1,1,0,[]), (23,0,0,0,[]), (43,18,3,11,[]), (8,2,1,0,[]), (43,18,0,7,[]), (8,2,1,0,[]), (8,1,1,0,[]), (15,0,0,0,[]), (63,0,0,0,[])] ls st h (iv_K d 259) (iv_call d) := iv_Sof ivk_259_0
theorem ivk_259_18 : iv_lk (iv_Gb 259) 18 = ([0, 0, 1], [(8,2,1,0,[]), (63,0,0,0,[])]) := by rw [iv_g259]; rfl
theorem ivj_259_18 {d : Nat} {st : List Value} {h : iv_H} {l0 l1 l2 : Option Value} : iv_K d 259 18 [l0, l1, l2] st h = iv_sem d 259 18 [none, none, l2] st h := iv_Kof ivk_259_18
theorem ivs_259_18 {d : Nat} {st : List Value} {h : iv_H} {ls : iv_L} : iv_sem d 259 18 ls st h = iv_x [(8,2,1,0,[]), (63,0,0,0,[])] ls st h (iv_K d 259) (iv_call d) := iv_Sof ivk_259_18
theorem ivf_259_18 {d : Nat} {st : List Value} {h : iv_H} {l0 l1 l2 : Option Value} : iv_K d 259 18 [l0, l1, l2] st h = iv_x [(8,2,1,0,[]), (63,0,0,0,[])] [none, none, l2] st h (iv_K d 259) (iv_call d) := (iv_Kof ivk_259_18).trans (iv_Sof ivk_259_18)
theorem ivc_259 {d : Nat} {h : iv_H} {x0 : Int32} {x1 : Int32} : iv_call (d + 1) 259 [.int x0, .int x1] h = iv_sem d 259 0 [some (.int x0), some (.int x1), none] [] h := iv_Cof (by decide) ivk_259_0 (Nat.le_of_ble_eq_true rfl)
/-- J9_abs_0f7a4 -/
theorem iv_g260 : iv_Gb 260 = iv_b260 := rfl
theorem ivk_260_0 : iv_lk (iv_Gb 260) 0 = ([1], [(8,0,1,0,[]), (43,9,3,8,[]), (8,0,1,0,[]), (20,0,0,0,[]), (42,10,0,4,[])]) := by rw [iv_g260]; rfl
theorem ivj_260_0 {d : Nat} {st : List Value} {h : iv_H} {l0 : Option Value} : iv_K d 260 0 [l0] st h = iv_sem d 260 0 [l0] st h := iv_Kof ivk_260_0
theorem ivs_260_0 {d : Nat} {st : List Value} {h : iv_H} {ls : iv_L} : iv_sem d 260 0 ls st h = iv_x [(8,0,1,0,[]), (43,9,3,8,[]), (8,0,1,0,[]), (20,0,0,0,[]), (42,10,0,4,[])] ls st h (iv_K d 260) (iv_call d) := iv_Sof ivk_260_0
theorem ivk_260_9 : iv_lk (iv_Gb 260) 9 = ([1], [(8,0,1,0,[]), (71,10,0,0,[])]) := by rw [iv_g260]; rfl
theorem ivj_260_9 {d : Nat} {st : List Value} {h : iv_H} {l0 : Option Value} : iv_K d 260 9 [l0] st h = iv_sem d 260 9 [l0] st h := iv_Kof ivk_260_9
theorem ivs_260_9 {d : Nat} {st : List Value} {h : iv_H} {ls : iv_L} : iv_sem d 260 9 ls st h = iv_x [(8,0,1,0,[]), (71,10,0,0,[])] ls st h (iv_K d 260) (iv_call d) := iv_Sof ivk_260_9
theorem ivf_260_9 {d : Nat} {st : List Value} {h : iv_H} {l0 : Option Value} : iv_K d 260 9 [l0] st h = iv_x [(8,0,1,0,[]), (71,10,0,0,[])] [l0] st h (iv_K d 260) (iv_call d) := (iv_Kof ivk_260_9).trans (iv_Sof ivk_260_9)
theorem ivk_260_10 : iv_lk (iv_Gb 260) 10 = ([0], [(63,0,0,0,[])]) := by rw [iv_g260]; rfl
theorem ivj_260_10 {d : Nat} {st : List Value} {h : iv_H} {l0 : Option Value} : iv_K d 260 10 [l0] st h = iv_sem d 260 10 [none] st h := iv_Kof ivk_260_10
theorem ivs_260_10 {d : Nat} {st : List Value} {h : iv_H} {ls : iv_L} : iv_sem d 260 10 ls st h = iv_x [(63,0,0,0,[])] ls st h (iv_K d 260) (iv_call d) := iv_Sof ivk_260_10
theorem ivf_260_10 {d : Nat} {st : List Value} {h : iv_H} {l0 : Option Value} : iv_K d 260 10 [l0] st h = iv_x [(63,0,0,0,[])] [none] st h (iv_K d 260) (iv_call d) := (iv_Kof ivk_260_10).trans (iv_Sof ivk_260_10)
theorem ivc_260 {d : Nat} {h : iv_H} {x0 : Int32} : iv_call (d + 1) 260 [.int x0] h = iv_sem d 260 0 [some (.int x0)] [] h := iv_Cof (by decide) ivk_260_0 (Nat.le_of_ble_eq_true rfl)
/-- J9_max_7cf53 -/
theorem iv_g261 : iv_Gb 261 = iv_b261 := rfl
theorem ivk_261_0 : iv_lk (iv_Gb 261) 0 = ([1, 1], [(8,0,1,0,[]), (8,1,1,0,[]), (44,9,2,7,[]), (8,0,1,0,[]), (42,10,0,4,[])]) := by rw [iv_g261]; rfl
theorem ivj_261_0 {d : Nat} {st : List Value} {h : iv_H} {l0 l1 : Option Value} : iv_K d 261 0 [l0, l1] st h = iv_sem d 261 0 [l0, l1] st h := iv_Kof ivk_261_0
theorem ivs_261_0 {d : Nat} {st : List Value} {h : iv_H} {ls : iv_L} : iv_sem d 261 0 ls st h = iv_x [(8,0,1,0,[]), (8,1,1,0,[]), (44,9,2,7,[]), (8,0,1,0,[]), (42,10,0,4,[])] ls st h (iv_K d 261) (iv_call d) := iv_Sof ivk_261_0
theorem ivk_261_9 : iv_lk (iv_Gb 261) 9 = ([0, 1], [(8,1,1,0,[]), (71,10,0,0,[])]) := by rw [iv_g261]; rfl
theorem ivj_261_9 {d : Nat} {st : List Value} {h : iv_H} {l0 l1 : Option Value} : iv_K d 261 9 [l0, l1] st h = iv_sem d 261 9 [none, l1] st h := iv_Kof ivk_261_9
theorem ivs_261_9 {d : Nat} {st : List Value} {h : iv_H} {ls : iv_L} : iv_sem d 261 9 ls st h = iv_x [(8,1,1,0,[]), (71,10,0,0,[])] ls st h (iv_K d 261) (iv_call d) := iv_Sof ivk_261_9
theorem ivf_261_9 {d : Nat} {st : List Value} {h : iv_H} {l0 l1 : Option Value} : iv_K d 261 9 [l0, l1] st h = iv_x [(8,1,1,0,[]), (71,10,0,0,[])] [none, l1] st h (iv_K d 261) (iv_call d) := (iv_Kof ivk_261_9).trans (iv_Sof ivk_261_9)
theorem ivk_261_10 : iv_lk (iv_Gb 261) 10 = ([0, 0], [(63,0,0,0,[])]) := by rw [iv_g261]; rfl
theorem ivj_261_10 {d : Nat} {st : List Value} {h : iv_H} {l0 l1 : Option Value} : iv_K d 261 10 [l0, l1] st h = iv_sem d 261 10 [none, none] st h := iv_Kof ivk_261_10
theorem ivs_261_10 {d : Nat} {st : List Value} {h : iv_H} {ls : iv_L} : iv_sem d 261 10 ls st h = iv_x [(63,0,0,0,[])] ls st h (iv_K d 261) (iv_call d) := iv_Sof ivk_261_10
theorem ivf_261_10 {d : Nat} {st : List Value} {h : iv_H} {l0 l1 : Option Value} : iv_K d 261 10 [l0, l1] st h = iv_x [(63,0,0,0,[])] [none, none] st h (iv_K d 261) (iv_call d) := (iv_Kof ivk_261_10).trans (iv_Sof ivk_261_10)
theorem ivc_261 {d : Nat} {h : iv_H} {x0 : Int32} {x1 : Int32} : iv_call (d + 1) 261 [.int x0, .int x1] h = iv_sem d 261 0 [some (.int x0), some (.int x1)] [] h := iv_Cof (by decide) ivk_261_0 (Nat.le_of_ble_eq_true rfl)
/-- J9_max_f86c9 -/
theorem iv_g262 : iv_Gb 262 = iv_b262 := rfl
theorem ivk_262_0 : iv_lk (iv_Gb 262) 0 = ([1, 0, 1, 0], [(9,0,1,0,[]), (9,2,1,0,[]), (33,0,0,0,[]), (43,10,2,7,[]), (9,0,1,0,[]), (42,11,0,4,[])]) := by rw [iv_g262]; rfl
theorem ivj_262_0 {d : Nat} {st : List Value} {h : iv_H} {l0 l1 l2 l3 : Option Value} : iv_K d 262 0 [l0, l1, l2, l3] st h = iv_sem d 262 0 [l0, none, l2, none] st h := iv_Kof ivk_262_0
theorem ivs_262_0 {d : Nat} {st : List Value} {h : iv_H} {ls : iv_L} : iv_sem d 262 0 ls st h = iv_x [(9,0,1,0,[]), (9,2,1,0,[]), (33,0,0,0,[]), (43,10,2,7,[]), (9,0,1,0,[]), (42,11,0,4,[])] ls st h (iv_K d 262) (iv_call d) := iv_Sof ivk_262_0
theorem ivk_262_10 : iv_lk (iv_Gb 262) 10 = ([0, 0, 1, 0], [(9,2,1,0,[]), (71,11,0,0,[])]) := by rw [iv_g262]; rfl
theorem ivj_262_10 {d : Nat} {st : List Value} {h : iv_H} {l0 l1 l2 l3 : Option Value} : iv_K d 262 10 [l0, l1, l2, l3] st h = iv_sem d 262 10 [none, none, l2, none] st h := iv_Kof ivk_262_10
theorem ivs_262_10 {d : Nat} {st : List Value} {h : iv_H} {ls : iv_L} : iv_sem d 262 10 ls st h = iv_x [(9,2,1,0,[]), (71,11,0,0,[])] ls st h (iv_K d 262) (iv_call d) := iv_Sof ivk_262_10
theorem ivf_262_10 {d : Nat} {st : List Value} {h : iv_H} {l0 l1 l2 l3 : Option Value} : iv_K d 262 10 [l0, l1, l2, l3] st h = iv_x [(9,2,1,0,[]), (71,11,0,0,[])] [none, none, l2, none] st h (iv_K d 262) (iv_call d) := (iv_Kof ivk_262_10).trans (iv_Sof ivk_262_10)
theorem ivk_262_11 : iv_lk (iv_Gb 262) 11 = ([0, 0, 0, 0], [(64,0,0,0,[])]) := by rw [iv_g262]; rfl
theorem ivj_262_11 {d : Nat} {st : List Value} {h : iv_H} {l0 l1 l2 l3 : Option Value} : iv_K d 262 11 [l0, l1, l2, l3] st h = iv_sem d 262 11 [none, none, none, none] st h := iv_Kof ivk_262_11
theorem ivs_262_11 {d : Nat} {st : List Value} {h : iv_H} {ls : iv_L} : iv_sem d 262 11 ls st h = iv_x [(64,0,0,0,[])] ls st h (iv_K d 262) (iv_call d) := iv_Sof ivk_262_11
theorem ivf_262_11 {d : Nat} {st : List Value} {h : iv_H} {l0 l1 l2 l3 : Option Value} : iv_K d 262 11 [l0, l1, l2, l3] st h = iv_x [(64,0,0,0,[])] [none, none, none, none] st h (iv_K d 262) (iv_call d) := (iv_Kof ivk_262_11).trans (iv_Sof ivk_262_11)
theorem ivc_262 {d : Nat} {h : iv_H} {x0 : Int64} {x1 : Int64} : iv_call (d + 1) 262 [.long x0, .long x1] h = iv_sem d 262 0 [some (.long x0), none, some (.long x1), none] [] h := iv_Cof (by decide) ivk_262_0 (Nat.le_of_ble_eq_true rfl)
/-- J9_min_7cf53 -/
theorem iv_g263 : iv_Gb 263 = iv_b263 := rfl
theorem ivk_263_0 : iv_lk (iv_Gb 263) 0 = ([1, 1], [(8,0,1,0,[]), (8,1,1,0,[]), (44,9,4,7,[]), (8,0,1,0,[]), (42,10,0,4,[])]) := by rw [iv_g263]; rfl
theorem ivj_263_0 {d : Nat} {st : List Value} {h : iv_H} {l0 l1 : Option Value} : iv_K d 263 0 [l0, l1] st h = iv_sem d 263 0 [l0, l1] st h := iv_Kof ivk_263_0
theorem ivs_263_0 {d : Nat} {st : List Value} {h : iv_H} {ls : iv_L} : iv_sem d 263 0 ls st h = iv_x [(8,0,1,0,[]), (8,1,1,0,[]), (44,9,4,7,[]), (8,0,1,0,[]), (42,10,0,4,[])] ls st h (iv_K d 263) (iv_call d) := iv_Sof ivk_263_0
theorem ivk_263_9 : iv_lk (iv_Gb 263) 9 = ([0, 1], [(8,1,1,0,[]), (71,10,0,0,[])]) := by rw [iv_g263]; rfl
theorem ivj_263_9 {d : Nat} {st : List Value} {h : iv_H} {l0 l1 : Option Value} : iv_K d 263 9 [l0, l1] st h = iv_sem d 263 9 [none, l1] st h := iv_Kof ivk_263_9
theorem ivs_263_9 {d : Nat} {st : List Value} {h : iv_H} {ls : iv_L} : iv_sem d 263 9 ls st h = iv_x [(8,1,1,0,[]), (71,10,0,0,[])] ls st h (iv_K d 263) (iv_call d) := iv_Sof ivk_263_9
theorem ivf_263_9 {d : Nat} {st : List Value} {h : iv_H} {l0 l1 : Option Value} : iv_K d 263 9 [l0, l1] st h = iv_x [(8,1,1,0,[]), (71,10,0,0,[])] [none, l1] st h (iv_K d 263) (iv_call d) := (iv_Kof ivk_263_9).trans (iv_Sof ivk_263_9)
theorem ivk_263_10 : iv_lk (iv_Gb 263) 10 = ([0, 0], [(63,0,0,0,[])]) := by rw [iv_g263]; rfl
theorem ivj_263_10 {d : Nat} {st : List Value} {h : iv_H} {l0 l1 : Option Value} : iv_K d 263 10 [l0, l1] st h = iv_sem d 263 10 [none, none] st h := iv_Kof ivk_263_10
theorem ivs_263_10 {d : Nat} {st : List Value} {h : iv_H} {ls : iv_L} : iv_sem d 263 10 ls st h = iv_x [(63,0,0,0,[])] ls st h (iv_K d 263) (iv_call d) := iv_Sof ivk_263_10
theorem ivf_263_10 {d : Nat} {st : List Value} {h : iv_H} {l0 l1 : Option Value} : iv_K d 263 10 [l0, l1] st h = iv_x [(63,0,0,0,[])] [none, none] st h (iv_K d 263) (iv_call d) := (iv_Kof ivk_263_10).trans (iv_Sof ivk_263_10)
theorem ivc_263 {d : Nat} {h : iv_H} {x0 : Int32} {x1 : Int32} : iv_call (d + 1) 263 [.int x0, .int x1] h = iv_sem d 263 0 [some (.int x0), some (.int x1)] [] h := iv_Cof (by decide) ivk_263_0 (Nat.le_of_ble_eq_true rfl)
/-- J9_min_f86c9 -/
theorem iv_g264 : iv_Gb 264 = iv_b264 := rfl
theorem ivk_264_0 : iv_lk (iv_Gb 264) 0 = ([1, 0, 1, 0], [(9,0,1,0,[]), (9,2,1,0,[]), (33,0,0,0,[]), (43,10,4,7,[]), (9,0,1,0,[]), (42,11,0,4,[])]) := by rw [iv_g264]; rfl
theorem ivj_264_0 {d : Nat} {st : List Value} {h : iv_H} {l0 l1 l2 l3 : Option Value} : iv_K d 264 0 [l0, l1, l2, l3] st h = iv_sem d 264 0 [l0, none, l2, none] st h := iv_Kof ivk_264_0
theorem ivs_264_0 {d : Nat} {st : List Value} {h : iv_H} {ls : iv_L} : iv_sem d 264 0 ls st h = iv_x [(9,0,1,0,[]), (9,2,1,0,[]), (33,0,0,0,[]), (43,10,4,7,[]), (9,0,1,0,[]), (42,11,0,4,[])] ls st h (iv_K d 264) (iv_call d) := iv_Sof ivk_264_0
theorem ivk_264_10 : iv_lk (iv_Gb 264) 10 = ([0, 0, 1, 0], [(9,2,1,0,[]), (71,11,0,0,[])]) := by rw [iv_g264]; rfl
theorem ivj_264_10 {d : Nat} {st : List Value} {h : iv_H} {l0 l1 l2 l3 : Option Value} : iv_K d 264 10 [l0, l1, l2, l3] st h = iv_sem d 264 10 [none, none, l2, none] st h := iv_Kof ivk_264_10
theorem ivs_264_10 {d : Nat} {st : List Value} {h : iv_H} {ls : iv_L} : iv_sem d 264 10 ls st h = iv_x [(9,2,1,0,[]), (71,11,0,0,[])] ls st h (iv_K d 264) (iv_call d) := iv_Sof ivk_264_10
theorem ivf_264_10 {d : Nat} {st : List Value} {h : iv_H} {l0 l1 l2 l3 : Option Value} : iv_K d 264 10 [l0, l1, l2, l3] st h = iv_x [(9,2,1,0,[]), (71,11,0,0,[])] [none, none, l2, none] st h (iv_K d 264) (iv_call d) := (iv_Kof ivk_264_10).trans (iv_Sof ivk_264_10)
theorem ivk_264_11 : iv_lk (iv_Gb 264) 11 = ([0, 0, 0, 0], [(64,0,0,0,[])]) := by rw [iv_g264]; rfl
theorem ivj_264_11 {d : Nat} {st : List Value} {h : iv_H} {l0 l1 l2 l3 : Option Value} : iv_K d 264 11 [l0, l1, l2, l3] st h = iv_sem d 264 11 [none, none, none, none] st h := iv_Kof ivk_264_11
theorem ivs_264_11 {d : Nat} {st : List Value} {h : iv_H} {ls : iv_L} : iv_sem d 264 11 ls st h = iv_x [(64,0,0,0,[])] ls st h (iv_K d 264) (iv_call d) := iv_Sof ivk_264_11
theorem ivf_264_11 {d : Nat} {st : List Value} {h : iv_H} {l0 l1 l2 l3 : Option Value} : iv_K d 264 11 [l0, l1, l2, l3] st h = iv_x [(64,0,0,0,[])] [none, none, none, none] st h (iv_K d 264) (iv_call d) := (iv_Kof ivk_264_11).trans (iv_Sof ivk_264_11)
theorem ivc_264 {d : Nat} {h : iv_H} {x0 : Int64} {x1 : Int64} : iv_call (d + 1) 264 [.long x0, .long x1] h = iv_sem d 264 0 [some (.long x0), none, some (.long x1), none] [] h := iv_Cof (by decide) ivk_264_0 (Nat.le_of_ble_eq_true rfl)
