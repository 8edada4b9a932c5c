/-! the static check of an instruction -/
def iv_dk (bs : ByteArray) (pc : Nat) (x : Instr) (n : Nat) : Bool := decide (decode bs pc = .ok (x, n))
def iv_f4 (a : Nat) : Fin 4 := ⟨a % 4, Nat.mod_lt _ (by decide)⟩
def iv_strl : List (Nat × Nat × Nat) := [(3, 107, 1000), (5, 130, 1000), (3, 112, 1001), (5, 135, 1001)]
def iv_cnd (b : Nat) : Jvm.ClassFile.Cond := match b with
  | 0 => .eq
  | 1 => .ne
  | 2 => .lt
  | 3 => .ge
  | 4 => .gt
  | _ => .le
def iv_okc (y b : Nat) : Bool := decide (y < 265) && decide ((iv_q y).2.2.2.2.2.1 = b)
def iv_h0 (bs : ByteArray) (o : Nat) (rt : Option FieldType) (ini : Bool) (pc a b : Nat) (z : Int) (ts : List Nat) : Bool := iv_dk bs pc (.iconst z) 1
def iv_h1 (bs : ByteArray) (o : Nat) (rt : Option FieldType) (ini : Bool) (pc a b : Nat) (z : Int) (ts : List Nat) : Bool := iv_dk bs pc (.bipush z) 2
def iv_h2 (bs : ByteArray) (o : Nat) (rt : Option FieldType) (ini : Bool) (pc a b : Nat) (z : Int) (ts : List Nat) : Bool := iv_dk bs pc (.sipush z) 3
def iv_h3 (bs : ByteArray) (o : Nat) (rt : Option FieldType) (ini : Bool) (pc a b : Nat) (z : Int) (ts : List Nat) : Bool := iv_dk bs pc (.ldc a) 2 && decide ((o, a, z) ∈ iv_csts)
def iv_h4 (bs : ByteArray) (o : Nat) (rt : Option FieldType) (ini : Bool) (pc a b : Nat) (z : Int) (ts : List Nat) : Bool := iv_dk bs pc (.ldc_w a) 3 && decide ((o, a, z) ∈ iv_csts)
def iv_h5 (bs : ByteArray) (o : Nat) (rt : Option FieldType) (ini : Bool) (pc a b : Nat) (z : Int) (ts : List Nat) : Bool := (decide (z = 0) && iv_dk bs pc (.lconst 0) 1) || (decide (z = 1) && iv_dk bs pc (.lconst 1) 1)
def iv_h6 (bs : ByteArray) (o : Nat) (rt : Option FieldType) (ini : Bool) (pc a b : Nat) (z : Int) (ts : List Nat) : Bool := iv_dk bs pc (.ldc2_w a) 3 && decide ((o, a, z) ∈ iv_clts)
def iv_h7 (bs : ByteArray) (o : Nat) (rt : Option FieldType) (ini : Bool) (pc a b : Nat) (z : Int) (ts : List Nat) : Bool := iv_dk bs pc (.ldc a) 2 && decide ((o, a, b) ∈ iv_sts)
def iv_h8 (bs : ByteArray) (o : Nat) (rt : Option FieldType) (ini : Bool) (pc a b : Nat) (z : Int) (ts : List Nat) : Bool := if b = 1 then decide (a < 4) && iv_dk bs pc (.iload_n (iv_f4 a)) 1 else decide (b = 2) && iv_dk bs pc (.iload a) 2
def iv_h9 (bs : ByteArray) (o : Nat) (rt : Option FieldType) (ini : Bool) (pc a b : Nat) (z : Int) (ts : List Nat) : Bool := if b = 1 then decide (a < 4) && iv_dk bs pc (.lload_n (iv_f4 a)) 1 else decide (b = 2) && iv_dk bs pc (.lload a) 2
def iv_h10 (bs : ByteArray) (o : Nat) (rt : Option FieldType) (ini : Bool) (pc a b : Nat) (z : Int) (ts : List Nat) : Bool := if b = 1 then decide (a < 4) && iv_dk bs pc (.aload_n (iv_f4 a)) 1 else decide (b = 2) && iv_dk bs pc (.aload a) 2
def iv_h11 (bs : ByteArray) (o : Nat) (rt : Option FieldType) (ini : Bool) (pc a b : Nat) (z : Int) (ts : List Nat) : Bool := if b = 1 then decide (a < 4) && iv_dk bs pc (.istore_n (iv_f4 a)) 1 else decide (b = 2) && iv_dk bs pc (.istore a) 2
def iv_h12 (bs : ByteArray) (o : Nat) (rt : Option FieldType) (ini : Bool) (pc a b : Nat) (z : Int) (ts : List Nat) : Bool := if b = 1 then decide (a < 4) && iv_dk bs pc (.lstore_n (iv_f4 a)) 1 else decide (b = 2) && iv_dk bs pc (.lstore a) 2
def iv_h13 (bs : ByteArray) (o : Nat) (rt : Option FieldType) (ini : Bool) (pc a b : Nat) (z : Int) (ts : List Nat) : Bool := if b = 1 then decide (a < 4) && iv_dk bs pc (.astore_n (iv_f4 a)) 1 else decide (b = 2) && iv_dk bs pc (.astore a) 2
def iv_h14 (bs : ByteArray) (o : Nat) (rt : Option FieldType) (ini : Bool) (pc a b : Nat) (z : Int) (ts : List Nat) : Bool := iv_dk bs pc (.iinc a z) 3
def iv_h15 (bs : ByteArray) (o : Nat) (rt : Option FieldType) (ini : Bool) (pc a b : Nat) (z : Int) (ts : List Nat) : Bool := iv_dk bs pc .iadd 1
def iv_h16 (bs : ByteArray) (o : Nat) (rt : Option FieldType) (ini : Bool) (pc a b : Nat) (z : Int) (ts : List Nat) : Bool := iv_dk bs pc .isub 1
def iv_h17 (bs : ByteArray) (o : Nat) (rt : Option FieldType) (ini : Bool) (pc a b : Nat) (z : Int) (ts : List Nat) : Bool := iv_dk bs pc .imul 1
def iv_h18 (bs : ByteArray) (o : Nat) (rt : Option FieldType) (ini : Bool) (pc a b : Nat) (z : Int) (ts : List Nat) : Bool := iv_dk bs pc .idiv 1
def iv_h19 (bs : ByteArray) (o : Nat) (rt : Option FieldType) (ini : Bool) (pc a b : Nat) (z : Int) (ts : List Nat) : Bool := iv_dk bs pc .irem 1
def iv_h20 (bs : ByteArray) (o : Nat) (rt : Option FieldType) (ini : Bool) (pc a b : Nat) (z : Int) (ts : List Nat) : Bool := iv_dk bs pc .ineg 1
def iv_h21 (bs : ByteArray) (o : Nat) (rt : Option FieldType) (ini : Bool) (pc a b : Nat) (z : Int) (ts : List Nat) : Bool := iv_dk bs pc .iand 1
def iv_h22 (bs : ByteArray) (o : Nat) (rt : Option FieldType) (ini : Bool) (pc a b : Nat) (z : Int) (ts : List Nat) : Bool := iv_dk bs pc .ior 1
def iv_h23 (bs : ByteArray) (o : Nat) (rt : Option FieldType) (ini : Bool) (pc a b : Nat) (z : Int) (ts : List Nat) : Bool := iv_dk bs pc .ixor 1
def iv_h24 (bs : ByteArray) (o : Nat) (rt : Option FieldType) (ini : Bool) (pc a b : Nat) (z : Int) (ts : List Nat) : Bool := iv_dk bs pc .ishl 1
def iv_h25 (bs : ByteArray) (o : Nat) (rt : Option FieldType) (ini : Bool) (pc a b : Nat) (z : Int) (ts : List Nat) : Bool := iv_dk bs pc .ishr 1
def iv_h26 (bs : ByteArray) (o : Nat) (rt : Option FieldType) (ini : Bool) (pc a b : Nat) (z : Int) (ts : List Nat) : Bool := iv_dk bs pc .iushr 1
def iv_h27 (bs : ByteArray) (o : Nat) (rt : Option FieldType) (ini : Bool) (pc a b : Nat) (z : Int) (ts : List Nat) : Bool := iv_dk bs pc .ladd 1
def iv_h28 (bs : ByteArray) (o : Nat) (rt : Option FieldType) (ini : Bool) (pc a b : Nat) (z : Int) (ts : List Nat) : Bool := iv_dk bs pc .lmul 1
def iv_h29 (bs : ByteArray) (o : Nat) (rt : Option FieldType) (ini : Bool) (pc a b : Nat) (z : Int) (ts : List Nat) : Bool := iv_dk bs pc .land 1
def iv_h30 (bs : ByteArray) (o : Nat) (rt : Option FieldType) (ini : Bool) (pc a b : Nat) (z : Int) (ts : List Nat) : Bool := iv_dk bs pc .lor 1
def iv_h31 (bs : ByteArray) (o : Nat) (rt : Option FieldType) (ini : Bool) (pc a b : Nat) (z : Int) (ts : List Nat) : Bool := iv_dk bs pc .lshl 1
def iv_h32 (bs : ByteArray) (o : Nat) (rt : Option FieldType) (ini : Bool) (pc a b : Nat) (z : Int) (ts : List Nat) : Bool := iv_dk bs pc .lshr 1
def iv_h33 (bs : ByteArray) (o : Nat) (rt : Option FieldType) (ini : Bool) (pc a b : Nat) (z : Int) (ts : List Nat) : Bool := iv_dk bs pc .lcmp 1
def iv_h34 (bs : ByteArray) (o : Nat) (rt : Option FieldType) (ini : Bool) (pc a b : Nat) (z : Int) (ts : List Nat) : Bool := iv_dk bs pc .i2l 1
def iv_h35 (bs : ByteArray) (o : Nat) (rt : Option FieldType) (ini : Bool) (pc a b : Nat) (z : Int) (ts : List Nat) : Bool := iv_dk bs pc .l2i 1
def iv_h36 (bs : ByteArray) (o : Nat) (rt : Option FieldType) (ini : Bool) (pc a b : Nat) (z : Int) (ts : List Nat) : Bool := iv_dk bs pc .i2b 1
def iv_h37 (bs : ByteArray) (o : Nat) (rt : Option FieldType) (ini : Bool) (pc a b : Nat) (z : Int) (ts : List Nat) : Bool := iv_dk bs pc .i2s 1
def iv_h38 (bs : ByteArray) (o : Nat) (rt : Option FieldType) (ini : Bool) (pc a b : Nat) (z : Int) (ts : List Nat) : Bool := iv_dk bs pc .dup 1
def iv_h39 (bs : ByteArray) (o : Nat) (rt : Option FieldType) (ini : Bool) (pc a b : Nat) (z : Int) (ts : List Nat) : Bool := iv_dk bs pc .pop 1
def iv_h40 (bs : ByteArray) (o : Nat) (rt : Option FieldType) (ini : Bool) (pc a b : Nat) (z : Int) (ts : List Nat) : Bool := iv_dk bs pc .dup_x1 1
def iv_h41 (bs : ByteArray) (o : Nat) (rt : Option FieldType) (ini : Bool) (pc a b : Nat) (z : Int) (ts : List Nat) : Bool := iv_dk bs pc .dup2 1
def iv_h42 (bs : ByteArray) (o : Nat) (rt : Option FieldType) (ini : Bool) (pc a b : Nat) (z : Int) (ts : List Nat) : Bool := iv_dk bs pc (.goto z) 3 && decide ((pc : Int) + z = (a : Int))
def iv_h43 (bs : ByteArray) (o : Nat) (rt : Option FieldType) (ini : Bool) (pc a b : Nat) (z : Int) (ts : List Nat) : Bool := decide ((pc : Int) + z = (a : Int)) && (decide (b < 6) && iv_dk bs pc (.ifCond (iv_cnd b) z) 3)
def iv_h44 (bs : ByteArray) (o : Nat) (rt : Option FieldType) (ini : Bool) (pc a b : Nat) (z : Int) (ts : List Nat) : Bool := decide ((pc : Int) + z = (a : Int)) && (decide (b < 6) && iv_dk bs pc (.if_icmp (iv_cnd b) z) 3)
def iv_h45 (bs : ByteArray) (o : Nat) (rt : Option FieldType) (ini : Bool) (pc a b : Nat) (z : Int) (ts : List Nat) : Bool := iv_dk bs pc (.tableswitch ((a : Int) - (pc : Int)) (b : Int) ((b : Int) + (ts.length : Int) - 1) (ts.map (fun (t : Nat) => (t : Int) - (pc : Int))).toArray) z.toNat
def iv_h46 (bs : ByteArray) (o : Nat) (rt : Option FieldType) (ini : Bool) (pc a b : Nat) (z : Int) (ts : List Nat) : Bool := iv_dk bs pc (.getfield z.toNat) 3 && (decide ((o, z.toNat, a, b) ∈ iv_fls) && (decide (a < 6) && (decide (b < (iv_cr a).2.2) && decide (iv_f a b = 2))))
def iv_h47 (bs : ByteArray) (o : Nat) (rt : Option FieldType) (ini : Bool) (pc a b : Nat) (z : Int) (ts : List Nat) : Bool := iv_dk bs pc (.getfield z.toNat) 3 && (decide ((o, z.toNat, a, b) ∈ iv_fls) && (decide (a < 6) && (decide (b < (iv_cr a).2.2) && !decide (iv_f a b = 2))))
def iv_h48 (bs : ByteArray) (o : Nat) (rt : Option FieldType) (ini : Bool) (pc a b : Nat) (z : Int) (ts : List Nat) : Bool := iv_dk bs pc (.putfield z.toNat) 3 && (decide ((o, z.toNat, a, b) ∈ iv_fls) && (decide (a < 6) && (decide (b < (iv_cr a).2.2) && decide (iv_f a b = 0))))
def iv_h49 (bs : ByteArray) (o : Nat) (rt : Option FieldType) (ini : Bool) (pc a b : Nat) (z : Int) (ts : List Nat) : Bool := iv_dk bs pc (.getstatic z.toNat) 3 && (decide (o = 4) && decide (z = 306))
def iv_h50 (bs : ByteArray) (o : Nat) (rt : Option FieldType) (ini : Bool) (pc a b : Nat) (z : Int) (ts : List Nat) : Bool := iv_dk bs pc .iaload 1
def iv_h51 (bs : ByteArray) (o : Nat) (rt : Option FieldType) (ini : Bool) (pc a b : Nat) (z : Int) (ts : List Nat) : Bool := iv_dk bs pc .laload 1
def iv_h52 (bs : ByteArray) (o : Nat) (rt : Option FieldType) (ini : Bool) (pc a b : Nat) (z : Int) (ts : List Nat) : Bool := iv_dk bs pc .baload 1
def iv_h53 (bs : ByteArray) (o : Nat) (rt : Option FieldType) (ini : Bool) (pc a b : Nat) (z : Int) (ts : List Nat) : Bool := iv_dk bs pc .aaload 1
def iv_h54 (bs : ByteArray) (o : Nat) (rt : Option FieldType) (ini : Bool) (pc a b : Nat) (z : Int) (ts : List Nat) : Bool := iv_dk bs pc .iastore 1
def iv_h55 (bs : ByteArray) (o : Nat) (rt : Option FieldType) (ini : Bool) (pc a b : Nat) (z : Int) (ts : List Nat) : Bool := iv_dk bs pc .lastore 1
def iv_h56 (bs : ByteArray) (o : Nat) (rt : Option FieldType) (ini : Bool) (pc a b : Nat) (z : Int) (ts : List Nat) : Bool := iv_dk bs pc .bastore 1
def iv_h57 (bs : ByteArray) (o : Nat) (rt : Option FieldType) (ini : Bool) (pc a b : Nat) (z : Int) (ts : List Nat) : Bool := iv_dk bs pc .aastore 1
def iv_h58 (bs : ByteArray) (o : Nat) (rt : Option FieldType) (ini : Bool) (pc a b : Nat) (z : Int) (ts : List Nat) : Bool := iv_dk bs pc .arraylength 1
def iv_h59 (bs : ByteArray) (o : Nat) (rt : Option FieldType) (ini : Bool) (pc a b : Nat) (z : Int) (ts : List Nat) : Bool := iv_dk bs pc (.new z.toNat) 3 && (decide ((o, z.toNat, a) ∈ iv_cls) && decide (a < 6))
def iv_h60 (bs : ByteArray) (o : Nat) (rt : Option FieldType) (ini : Bool) (pc a b : Nat) (z : Int) (ts : List Nat) : Bool := (decide (a = 6) && iv_dk bs pc (.newarray .int) 2) || ((decide (a = 7) && iv_dk bs pc (.newarray .long) 2) || (decide (a = 8) && iv_dk bs pc (.newarray .boolean) 2))
def iv_h61 (bs : ByteArray) (o : Nat) (rt : Option FieldType) (ini : Bool) (pc a b : Nat) (z : Int) (ts : List Nat) : Bool := iv_dk bs pc (.anewarray z.toNat) 3 && (decide (o = 4) && decide (z = 36))
def iv_h62 (bs : ByteArray) (o : Nat) (rt : Option FieldType) (ini : Bool) (pc a b : Nat) (z : Int) (ts : List Nat) : Bool := iv_dk bs pc (.multianewarray z.toNat 2) 4 && (decide (o = 0) && decide (z = 15))
def iv_h63 (bs : ByteArray) (o : Nat) (rt : Option FieldType) (ini : Bool) (pc a b : Nat) (z : Int) (ts : List Nat) : Bool := iv_dk bs pc .ireturn 1 && ((decide (a = 0) && decide (rt = some .int)) || (decide (a = 1) && decide (rt = some .boolean)))
def iv_h64 (bs : ByteArray) (o : Nat) (rt : Option FieldType) (ini : Bool) (pc a b : Nat) (z : Int) (ts : List Nat) : Bool := iv_dk bs pc .lreturn 1 && decide (rt = some .long)
def iv_h65 (bs : ByteArray) (o : Nat) (rt : Option FieldType) (ini : Bool) (pc a b : Nat) (z : Int) (ts : List Nat) : Bool := iv_dk bs pc .return_ 1 && decide (rt = none)
def iv_h66 (bs : ByteArray) (o : Nat) (rt : Option FieldType) (ini : Bool) (pc a b : Nat) (z : Int) (ts : List Nat) : Bool := iv_dk bs pc (.invokevirtual z.toNat) 3 && (decide ((o, z.toNat, a) ∈ iv_mls) && (decide (a ∈ iv_vls) && (iv_okc a b && (decide (ts = [(iv_q a).2.2.2.2.1]) && decide ((iv_q a).2.2.2.2.1 < 6)))))
def iv_h67 (bs : ByteArray) (o : Nat) (rt : Option FieldType) (ini : Bool) (pc a b : Nat) (z : Int) (ts : List Nat) : Bool := iv_dk bs pc (.invokestatic z.toNat) 3 && (decide ((o, z.toNat, a) ∈ iv_mls) && (decide (a ∈ iv_sls) && iv_okc a b))
def iv_h68 (bs : ByteArray) (o : Nat) (rt : Option FieldType) (ini : Bool) (pc a b : Nat) (z : Int) (ts : List Nat) : Bool := iv_dk bs pc (.invokespecial z.toNat) 3 && (decide ((o, z.toNat, a) ∈ iv_mls) && (decide (a ∈ iv_ils) && (iv_okc a b && (decide ((iv_q a).1.name = "<init>") && decide ((iv_q a).2.2.2.1 = none)))))
def iv_h69 (bs : ByteArray) (o : Nat) (rt : Option FieldType) (ini : Bool) (pc a b : Nat) (z : Int) (ts : List Nat) : Bool := iv_dk bs pc (.invokespecial z.toNat) 3 && decide ((o, z.toNat) ∈ iv_obs)
def iv_h70 (bs : ByteArray) (o : Nat) (rt : Option FieldType) (ini : Bool) (pc a b : Nat) (z : Int) (ts : List Nat) : Bool := iv_dk bs pc (.invokestatic z.toNat) 3 && (decide (o = 4) && decide (z = 86))
def iv_h71 (bs : ByteArray) (o : Nat) (rt : Option FieldType) (ini : Bool) (pc a b : Nat) (z : Int) (ts : List Nat) : Bool := decide (a = pc)
def iv_h72 (bs : ByteArray) (o : Nat) (rt : Option FieldType) (ini : Bool) (pc a b : Nat) (z : Int) (ts : List Nat) : Bool := iv_dk bs pc (.invokestatic z.toNat) 3 && (decide (a ∈ iv_sls) && (iv_okc a b && decide (Cond.methodLinkNest (iv_c o) z.toNat (iv_q a).1 RX4 ∈ iv_nests)))
def iv_h73 (bs : ByteArray) (o : Nat) (rt : Option FieldType) (ini : Bool) (pc a b : Nat) (z : Int) (ts : List Nat) : Bool := iv_dk bs pc (.invokevirtual z.toNat) 3 && (decide ((o, z.toNat, a) ∈ iv_strl) && (decide (b = a - 1000) && decide (ts = [12])))
def iv_h75 (bs : ByteArray) (o : Nat) (rt : Option FieldType) (ini : Bool) (pc a b : Nat) (z : Int) (ts : List Nat) : Bool := iv_dk bs pc (.invokespecial z.toNat) 3 && (decide (a ∈ iv_ils) && (iv_okc a b && (decide ((iv_q a).1.name = "<init>") && (decide ((iv_q a).2.2.2.1 = none) && decide (Cond.methodLinkNest (iv_c o) z.toNat (iv_q a).1 RX4 ∈ iv_nests)))))
def iv_h76 (bs : ByteArray) (o : Nat) (rt : Option FieldType) (ini : Bool) (pc a b : Nat) (z : Int) (ts : List Nat) : Bool := iv_dk bs pc (.putfield z.toNat) 3 && (decide ((o, z.toNat, a, b) ∈ iv_fls) && (decide (a < 6) && (decide (b < (iv_cr a).2.2) && decide (iv_f a b = 1))))
def iv_h77 (bs : ByteArray) (o : Nat) (rt : Option FieldType) (ini : Bool) (pc a b : Nat) (z : Int) (ts : List Nat) : Bool := iv_dk bs pc (.putfield z.toNat) 3 && (decide ((o, z.toNat, a, b) ∈ iv_fls) && (decide (a < 6) && (decide (b < (iv_cr a).2.2) && (decide (iv_f a b = 2) && (ini && decide (o = a))))))
def iv_hs : List (ByteArray → Nat → Option FieldType → Bool → Nat → Nat → Nat → Int → List Nat → Bool) := [iv_h0, iv_h1, iv_h2, iv_h3, iv_h4, iv_h5, iv_h6, iv_h7, iv_h8, iv_h9, iv_h10, iv_h11, iv_h12, iv_h13, iv_h14, iv_h15, iv_h16, iv_h17, iv_h18, iv_h19, iv_h20, iv_h21, iv_h22, iv_h23, iv_h24, iv_h25, iv_h26, iv_h27, iv_h28, iv_h29, iv_h30, iv_h31, iv_h32, iv_h33, iv_h34, iv_h35, iv_h36, iv_h37, iv_h38, iv_h39, iv_h40, iv_h41, iv_h42, iv_h43, iv_h44, iv_h45, iv_h46, iv_h47, iv_h48, iv_h49, iv_h50, iv_h51, iv_h52, iv_h53, iv_h54, iv_h55, iv_h56, iv_h57, iv_h58, iv_h59, iv_h60, iv_h61, iv_h62, iv_h63, iv_h64, iv_h65, iv_h66, iv_h67, iv_h68, iv_h69, iv_h70, iv_h71, iv_h72, iv_h73, (fun _ _ _ _ _ _ _ _ _ => false), iv_h75, iv_h76, iv_h77]
def iv_ck (bs : ByteArray) (o : Nat) (rt : Option FieldType) (ini : Bool) (pc : Nat) (i : iv_I) : Bool := (iv_hs.getD i.1 (fun _ _ _ _ _ _ _ _ _ => false)) bs o rt ini pc i.2.1 i.2.2.1 i.2.2.2.1 i.2.2.2.2
def iv_lens : List Nat := [1, 2, 3, 2, 3, 1, 3, 2, 99, 99, 99, 99, 99, 99, 3, 1, 1, 1, 1, 1, 1, 1, 1, 1, 1, 1, 1, 1, 1, 1, 1, 1, 1, 1, 1, 1, 1, 1, 1, 1, 1, 1, 3, 3, 3, 1, 3, 3, 3, 3, 1, 1, 1, 1, 1, 1, 1, 1, 1, 3, 2, 3, 4, 1, 1, 1, 3, 3, 3, 3, 3, 0, 3, 3, 1, 3, 3, 3]
def iv_len (i : iv_I) : Nat := if 8 ≤ i.1 ∧ i.1 ≤ 13 then i.2.2.1 else iv_lens.getD i.1 0
def iv_cb (bs : ByteArray) (o : Nat) (rt : Option FieldType) (ini : Bool) : Nat → List iv_I → Bool
  | _, [] => true
  | pc, i :: is => iv_ck bs o rt ini pc i && iv_cb bs o rt ini (pc + iv_len i) is
/-- the check of a method -/
def iv_cm (q : iv_Q) : Bool := q.2.2.2.2.2.2.all (fun b => decide (b.2.1.length = q.2.2.1) && iv_cb q.2.1 q.2.2.2.2.1 q.2.2.2.1 (decide (q.1.name = "<init>")) b.1 b.2.2)
def iv_rok (q : iv_Q) : Bool := decide (iv_c q.2.2.2.2.1 = q.1.cls) && (decide (q.2.2.1 ≤ 100) && (decide ((parseMethodDescriptor q.1.desc).map (fun d => d.parameters.length) = some q.2.2.2.2.2.1) && (decide (q.2.2.2.2.1 < 9) && plainFor q.1)))
theorem iv_rows_ok : iv_mt.all iv_rok = true := by decide +kernel
theorem iv_c_ok : ∀ o, o < 9 → (iv_c o ≠ "java/lang/invoke/MethodHandle" ∧ iv_c o ≠ "java/lang/invoke/VarHandle") ∧ True := by decide +kernel
theorem iv_q_mem {y : Nat} (h : y < 266) : iv_q y ∈ iv_mt := by
  have hl : iv_mt.length = 266 := by decide +kernel
  unfold iv_q
  rw [List.getD_eq_getElem?_getD, List.getElem?_eq_getElem (by omega)]
  exact List.getElem_mem _
theorem iv_mt_ok : ∀ y, y < 266 → iv_c (iv_q y).2.2.2.2.1 = (iv_q y).1.cls ∧ (iv_q y).2.2.1 ≤ 100 ∧ (parseMethodDescriptor (iv_q y).1.desc).map (fun d => d.parameters.length) = some (iv_q y).2.2.2.2.2.1 ∧ ((iv_q y).1.cls ≠ "java/lang/invoke/MethodHandle" ∧ (iv_q y).1.cls ≠ "java/lang/invoke/VarHandle") ∧ plainFor (iv_q y).1 = true ∧ (iv_q y).2.2.2.2.1 < 9 := by
  intro y hy
  have h := List.all_eq_true.mp iv_rows_ok _ (iv_q_mem hy)
  unfold iv_rok at h
  simp only [Bool.and_eq_true, decide_eq_true_eq] at h
  obtain ⟨h1, h2, h3, h4, h6⟩ := h
  obtain ⟨h5, -⟩ := iv_c_ok _ h4
  rw [h1] at h5
  exact ⟨h1, h2, h3, h5, h6, h4⟩
def iv_yw (q : iv_Q) : List Cond := iv_wc q :: iv_tbl
theorem iv_cr_ok : ∀ k, k < 6 → vwCl[k]? = some (iv_cr k) ∧ (iv_cr k).1 = iv_c k := by
  intro k hk
  match k, hk with
  | 0, _ => exact ⟨rfl, rfl⟩
  | 1, _ => exact ⟨rfl, rfl⟩
  | 2, _ => exact ⟨rfl, rfl⟩
  | 3, _ => exact ⟨rfl, rfl⟩
  | 4, _ => exact ⟨rfl, rfl⟩
  | 5, _ => exact ⟨rfl, rfl⟩
  | n + 6, h => omega
theorem iv_fd_ok : ∀ k, k < 6 → ∀ s, s < (iv_cr k).2.2 → ((iv_cr k).2.1 s).1 = (iv_cr k).1 ∧ (iv_f k s = 0 → ((iv_cr k).2.1 s).2.2.2 = false ∧ parseFieldDescriptor ((iv_cr k).2.1 s).2.2.1 = some .int) ∧ (iv_f k s = 1 → ((iv_cr k).2.1 s).2.2.2 = false ∧ parseFieldDescriptor ((iv_cr k).2.1 s).2.2.1 = some .boolean) := by decide +kernel
def iv_ty (k : Nat) : Nat → FieldType := match k with
  | 0 => tyX0
  | 1 => tyX1
  | 2 => tyX2
  | 3 => tyX3
  | 4 => tyX4
  | _ => tyX5
theorem iv_ty_ok : ∀ k, k < 6 → (∀ s, s < (iv_cr k).2.2 → parseFieldDescriptor ((iv_cr k).2.1 s).2.2.1 = some (iv_ty k s)) ∧ (∀ s, s < (iv_cr k).2.2 → defaultValue (iv_ty k s) = if iv_f k s = 2 then .null else .int 0) ∧ (∀ a, a < (iv_cr k).2.2 → ∀ b, b < (iv_cr k).2.2 → a ≠ b → ((iv_cr k).2.1 a).2.1 ≠ ((iv_cr k).2.1 b).2.1) := by decide +kernel
theorem iv_rf_ok : ∀ k, k < 6 → ∀ s, s < (iv_cr k).2.2 → iv_f k s = 2 → ((iv_cr k).2.1 s).2.2.2 = true ∧ ((∃ n, iv_ty k s = .object n) ∨ ∃ t, iv_ty k s = .array t) := by
  have h : ∀ k, k < 6 → ∀ s, s < (iv_cr k).2.2 → iv_f k s = 2 → ((iv_cr k).2.1 s).2.2.2 = true ∧ (iv_ty k s).isReference = true := by decide +kernel
  intro k hk s hs hf
  obtain ⟨h1, h2⟩ := h k hk s hs hf
  refine ⟨h1, ?_⟩
  cases ht : iv_ty k s <;> rw [ht] at h2 <;> first | exact Or.inl ⟨_, rfl⟩ | exact Or.inr ⟨_, rfl⟩ | cases h2
theorem iv_ref_fit {ty : FieldType} (h : (∃ n, ty = .object n) ∨ ∃ t, ty = .array t) (q : Nat) : narrow ty (.ref q) = .ref q ∧ fits ty (.ref q) = true := by
  rcases h with ⟨n, rfl⟩ | ⟨t, rfl⟩ <;> exact ⟨rfl, rfl⟩
theorem iv_wc_in {y : Nat} (hy : y < 265) {Ts : List Cond} (hT : ∀ w ∈ iv_tbl, w ∈ Ts) : GoodIn Ts (iv_yw (iv_q y)) := by
  intro w hw
  have h : w ∈ iv_tbl := by
    rcases List.mem_cons.mp hw with rfl | h
    · exact iv_cd_in y hy
    · exact h
  exact ⟨hT w h, iv_tbl_good w h⟩
theorem iv_good_app {Ts a b : List Cond} (hT : ∀ w ∈ iv_tbl, w ∈ Ts) (ha : ∀ w ∈ a, w ∈ iv_tbl) (hb : GoodIn Ts b) : GoodIn Ts (a ++ b) := by
  intro w hw
  rcases List.mem_append.mp hw with h | h
  · exact ⟨hT w (ha w h), iv_tbl_good w (ha w h)⟩
  · exact hb w h
theorem iv_ini_c {o : Nat} (h : o < 9) : Cond.initialized (iv_c o) ∈ iv_tbl := by
  refine iv_ini_in _ (List.mem_map.mpr ⟨iv_c o, ?_, rfl⟩)
  have key : ∀ o, o < 9 → iv_c o ∈ iv_cn := by decide +kernel
  exact key o h
