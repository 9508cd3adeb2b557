/-! the law's loop -/
theorem x_sub {a b : Nat} (h : a < 4096) (hb : b < 4096) : (Int32.ofNat a - Int32.ofNat b).toInt = (a : Int) - b := by
  rw [Int32.toInt_sub, Int32.toInt_ofNat_of_lt (by omega), Int32.toInt_ofNat_of_lt (by omega), Int.bmod_eq_of_le_mul_two (by omega) (by omega)]
theorem x_add {a b : Nat} (h : a < 4096) (hb : b < 4096) : Int32.ofNat a + Int32.ofNat b = Int32.ofNat (a + b) := by
  apply Int32.toInt_inj.mp
  rw [Int32.toInt_add, Int32.toInt_ofNat_of_lt (by omega), Int32.toInt_ofNat_of_lt (by omega), Int32.toInt_ofNat_of_lt (by omega), Int.bmod_eq_of_le_mul_two (by omega) (by omega)]
  omega
theorem x_in {a L : Nat} (h : a + 4 ≤ L) (hL : L < 4096) : ¬ Int32.ofNat L - 4 < Int32.ofNat a := by
  rw [Int32.lt_iff_toInt_lt, show (4 : Int32) = Int32.ofNat 4 from rfl, x_sub hL (by decide), Int32.toInt_ofNat_of_lt (by omega)]
  omega
theorem x_out {a L : Nat} (h : L < a + 4) (hL : L < 4096) (ha : a < 4096) : Int32.ofNat L - 4 < Int32.ofNat a := by
  rw [Int32.lt_iff_toInt_lt, show (4 : Int32) = Int32.ofNat 4 from rfl, x_sub hL (by decide), Int32.toInt_ofNat_of_lt (by omega)]
  omega
theorem x_ix {a L : Nat} (h : a < L) (hL : L < 4096) : ix (Int32.ofNat a) L := by
  rintro (h1 | h1)
  · rw [Int32.lt_iff_toInt_lt, Int32.toInt_ofNat_of_lt (by omega)] at h1
    have : (0 : Int32).toInt = 0 := by decide
    omega
  · rw [Int32.toNatClampNeg_ofNat_of_lt (by omega)] at h1
    omega
/-- one turn of the law -/
def f_law (x mo o d : Nat) (xs : Nat → Int32) (L : Nat) (x5 : Int32) (M : Mem) : Option Mem :=
  if xs x5.toNatClampNeg &&& 31 = 0 then f_law_0 x mo o d xs L x5 M else
  if xs x5.toNatClampNeg &&& 31 = 1 then f_law_1 x mo o d xs L x5 M else
  if xs x5.toNatClampNeg &&& 31 = 2 then f_law_2 x mo o d xs L x5 M else
  if xs x5.toNatClampNeg &&& 31 = 3 then f_law_3 x mo o d xs L x5 M else
  if xs x5.toNatClampNeg &&& 31 = 4 then f_law_4 x mo o d xs L x5 M else
  if xs x5.toNatClampNeg &&& 31 = 5 then f_law_5 x mo o d xs L x5 M else
  if xs x5.toNatClampNeg &&& 31 = 6 then f_law_6 x mo o d xs L x5 M else
  if xs x5.toNatClampNeg &&& 31 = 7 then f_law_7 x mo o d xs L x5 M else
  if xs x5.toNatClampNeg &&& 31 = 8 then f_law_8 x mo o d xs L x5 M else
  if xs x5.toNatClampNeg &&& 31 = 9 then f_law_9 x mo o d xs L x5 M else
  if xs x5.toNatClampNeg &&& 31 = 10 then f_law_10 x mo o d xs L x5 M else
  if xs x5.toNatClampNeg &&& 31 = 11 then f_law_11 x mo o d xs L x5 M else
  if xs x5.toNatClampNeg &&& 31 = 12 then f_law_12 x mo o d xs L x5 M else
  if xs x5.toNatClampNeg &&& 31 = 13 then f_law_13 x mo o d xs L x5 M else
  if xs x5.toNatClampNeg &&& 31 = 14 then f_law_14 x mo o d xs L x5 M else
  if xs x5.toNatClampNeg &&& 31 = 15 then f_law_15 x mo o d xs L x5 M else
  if xs x5.toNatClampNeg &&& 31 = 16 then f_law_16 x mo o d xs L x5 M else
  if xs x5.toNatClampNeg &&& 31 = 17 then f_law_17 x mo o d xs L x5 M else
  if xs x5.toNatClampNeg &&& 31 = 18 then f_law_18 x mo o d xs L x5 M else
  if xs x5.toNatClampNeg &&& 31 = 19 then f_law_19 x mo o d xs L x5 M else
  if xs x5.toNatClampNeg &&& 31 = 20 then f_law_20 x mo o d xs L x5 M else
  if xs x5.toNatClampNeg &&& 31 = 21 then f_law_21 x mo o d xs L x5 M else
  if xs x5.toNatClampNeg &&& 31 = 22 then f_law_22 x mo o d xs L x5 M else
  if xs x5.toNatClampNeg &&& 31 = 23 then f_law_23 x mo o d xs L x5 M else
  if xs x5.toNatClampNeg &&& 31 = 24 then f_law_24 x mo o d xs L x5 M else some M
set_option maxHeartbeats 4000000 in
set_option maxRecDepth 100000 in
theorem law_turn {p : Program} {e : Env} {s : State} {m : MethodId} {below : List Frame} {meth : Method} {c : Code} {b L : Nat} {xs : Nat → Int32} {Q : State → Prop} {C S : Nat} (G : Gt) (hG : gOK G) (hN0 : gNc G) (l : Launch) (hfl : l.stackTraces = false) (hx : p.tables.exec = Jvm.exec) (hb : c.code = cL_law) (hml : c.maxLocals = 10) (hown : s.vm.findClass "FoldedVoicesLaw" = some m.cls) (hts : KK s) (hV : (gS G).vm.Alike s.vm) (hX : va_X b L xs s s.heap) (hbl : b < s.heap.size) (hbA : ¬ gA G b) (x mo o d : Nat) (h1 : gK G x = 9) (h2 : gK G mo = 10) (h3 : gK G o = 9001) (h4 : gK G d = 10001) (x5 : Int32) (hc0 : C ≤ room_1.cells ∧ S ≤ room_1.slots) (hc1 : C + 1 ≤ room_1.cells ∧ S + 6 ≤ room_1.slots) (hlt : ¬ Int32.ofNat L - 4 < x5) (hin : ix x5 L) {M M' : Mem} (hf : f_law x mo o d xs L x5 M = some M') (hk : ∀ (H : Heap) (locs : List Loc) (ls : Array Slot), Mh G M' H → va_S (gA G) s.heap H locs → lv_has ls 10 [(0, .ref b), (1, .ref x), (2, .ref mo), (3, .ref o), (4, .ref d), (5, .int x5)] → W p l e room_1 s m #[Value.ref b] below meth c H locs (C + 1) (S + 6) Q (F0 m 1493 ls [])) : ∀ (H : Heap) (locs : List Loc) (ls : Array Slot), Mh G M H → va_S (gA G) s.heap H locs → lv_has ls 10 [(0, .ref b), (1, .ref x), (2, .ref mo), (3, .ref o), (4, .ref d), (5, .int x5)] → W p l e room_1 s m #[Value.ref b] below meth c H locs C S Q (F0 m 28 ls []) := by
  intro H locs ls hM hS hl
  refine lv_iload hx hb dL_law_28 (lv_at hl 5 rfl) ?_
  refine lv_aload_n hx hb dL_law_30 rfl (lv_at hl 0 rfl) ?_
  refine va_slen hx hb hX hbl hbA hS dL_law_31 ?_
  refine lv_iconst (v := 4) hx hb dL_law_32 (by decide) ?_
  refine lv_isub hx hb dL_law_33 ?_
  refine lv_icmp_gt (tgt := 1499) hx hb dL_law_34 (by decide) (fun g => absurd g hlt) (fun _ => ?_)
  refine lv_aload_n hx hb dL_law_37 rfl (lv_at hl 0 rfl) ?_
  refine lv_iload hx hb dL_law_38 (lv_at hl 5 rfl) ?_
  refine va_sld hx hb hX hbl hbA hS hin dL_law_40 ?_
  refine lv_bipush (v := 31) hx hb dL_law_41 (by decide) ?_
  refine lv_iand hx hb dL_law_43 ?_
  unfold f_law at hf
  generalize xs x5.toNatClampNeg &&& 31 = q at hf ⊢
  by_cases g0 : q = 0
  · rw [if_pos g0] at hf
    refine lv_tableIn (off := 116) (tgt := 160) hx hb dL_law_44 (by rw [g0]; decide) (by rw [g0]; decide) (by rw [g0]; rfl) (by decide) ?_
    exact law_c0 G hG hN0 l hfl hx hb hml hown hts hV hX hbl hbA x mo o d h1 h2 h3 h4 x5 hc0 hc1 hf hk H locs ls hM hS hl
  rw [if_neg g0] at hf
  have t0 := lv_neT g0 (show (0 : Int32).toInt = 0 from by decide)
  by_cases g1 : q = 1
  · rw [if_pos g1] at hf
    refine lv_tableIn (off := 184) (tgt := 228) hx hb dL_law_44 (by rw [g1]; decide) (by rw [g1]; decide) (by rw [g1]; rfl) (by decide) ?_
    exact law_c1 G hG hN0 l hfl hx hb hml hown hts hV hX hbl hbA x mo o d h1 h2 h3 h4 x5 hc0 hc1 hf hk H locs ls hM hS hl
  rw [if_neg g1] at hf
  have t1 := lv_neT g1 (show (1 : Int32).toInt = 1 from by decide)
  by_cases g2 : q = 2
  · rw [if_pos g2] at hf
    refine lv_tableIn (off := 240) (tgt := 284) hx hb dL_law_44 (by rw [g2]; decide) (by rw [g2]; decide) (by rw [g2]; rfl) (by decide) ?_
    exact law_c2 G hG hN0 l hfl hx hb hml hown hts hV hX hbl hbA x mo o d h1 h2 h3 h4 x5 hc0 hc1 hf hk H locs ls hM hS hl
  rw [if_neg g2] at hf
  have t2 := lv_neT g2 (show (2 : Int32).toInt = 2 from by decide)
  by_cases g3 : q = 3
  · rw [if_pos g3] at hf
    refine lv_tableIn (off := 296) (tgt := 340) hx hb dL_law_44 (by rw [g3]; decide) (by rw [g3]; decide) (by rw [g3]; rfl) (by decide) ?_
    exact law_c3 G hG hN0 l hfl hx hb hml hown hts hV hX hbl hbA x mo o d h1 h2 h3 h4 x5 hc0 hc1 hf hk H locs ls hM hS hl
  rw [if_neg g3] at hf
  have t3 := lv_neT g3 (show (3 : Int32).toInt = 3 from by decide)
  by_cases g4 : q = 4
  · rw [if_pos g4] at hf
    refine lv_tableIn (off := 352) (tgt := 396) hx hb dL_law_44 (by rw [g4]; decide) (by rw [g4]; decide) (by rw [g4]; rfl) (by decide) ?_
    exact law_c4 G hG hN0 l hfl hx hb hml hown hts hV hX hbl hbA x mo o d h1 h2 h3 h4 x5 hc0 hc1 hf hk H locs ls hM hS hl
  rw [if_neg g4] at hf
  have t4 := lv_neT g4 (show (4 : Int32).toInt = 4 from by decide)
  by_cases g5 : q = 5
  · rw [if_pos g5] at hf
    refine lv_tableIn (off := 408) (tgt := 452) hx hb dL_law_44 (by rw [g5]; decide) (by rw [g5]; decide) (by rw [g5]; rfl) (by decide) ?_
    exact law_c5 G hG hN0 l hfl hx hb hml hown hts hV hX hbl hbA x mo o d h1 h2 h3 h4 x5 hc0 hc1 hf hk H locs ls hM hS hl
  rw [if_neg g5] at hf
  have t5 := lv_neT g5 (show (5 : Int32).toInt = 5 from by decide)
  by_cases g6 : q = 6
  · rw [if_pos g6] at hf
    refine lv_tableIn (off := 476) (tgt := 520) hx hb dL_law_44 (by rw [g6]; decide) (by rw [g6]; decide) (by rw [g6]; rfl) (by decide) ?_
    exact law_c6 G hG hN0 l hfl hx hb hml hown hts hV hX hbl hbA x mo o d h1 h2 h3 h4 x5 hc0 hc1 hf hk H locs ls hM hS hl
  rw [if_neg g6] at hf
  have t6 := lv_neT g6 (show (6 : Int32).toInt = 6 from by decide)
  by_cases g7 : q = 7
  · rw [if_pos g7] at hf
    refine lv_tableIn (off := 532) (tgt := 576) hx hb dL_law_44 (by rw [g7]; decide) (by rw [g7]; decide) (by rw [g7]; rfl) (by decide) ?_
    exact law_c7 G hG hN0 l hfl hx hb hml hown hts hV hX hbl hbA x mo o d h1 h2 h3 h4 x5 hc0 hc1 hf hk H locs ls hM hS hl
  rw [if_neg g7] at hf
  have t7 := lv_neT g7 (show (7 : Int32).toInt = 7 from by decide)
  by_cases g8 : q = 8
  · rw [if_pos g8] at hf
    refine lv_tableIn (off := 545) (tgt := 589) hx hb dL_law_44 (by rw [g8]; decide) (by rw [g8]; decide) (by rw [g8]; rfl) (by decide) ?_
    exact law_c8 G hG hN0 l hfl hx hb hml hown hts hV hX hbl hbA x mo o d h1 h2 h3 h4 x5 hc0 hc1 hf hk H locs ls hM hS hl
  rw [if_neg g8] at hf
  have t8 := lv_neT g8 (show (8 : Int32).toInt = 8 from by decide)
  by_cases g9 : q = 9
  · rw [if_pos g9] at hf
    refine lv_tableIn (off := 558) (tgt := 602) hx hb dL_law_44 (by rw [g9]; decide) (by rw [g9]; decide) (by rw [g9]; rfl) (by decide) ?_
    exact law_c9 G hG hN0 l hfl hx hb hml hown hts hV hX hbl hbA x mo o d h1 h2 h3 h4 x5 hc0 hc1 hf hk H locs ls hM hS hl
  rw [if_neg g9] at hf
  have t9 := lv_neT g9 (show (9 : Int32).toInt = 9 from by decide)
  by_cases g10 : q = 10
  · rw [if_pos g10] at hf
    refine lv_tableIn (off := 602) (tgt := 646) hx hb dL_law_44 (by rw [g10]; decide) (by rw [g10]; decide) (by rw [g10]; rfl) (by decide) ?_
    exact law_c10 G hG hN0 l hfl hx hb hml hown hts hV hX hbl hbA x mo o d h1 h2 h3 h4 x5 hc0 hc1 hf hk H locs ls hM hS hl
  rw [if_neg g10] at hf
  have t10 := lv_neT g10 (show (10 : Int32).toInt = 10 from by decide)
  by_cases g11 : q = 11
  · rw [if_pos g11] at hf
    refine lv_tableIn (off := 615) (tgt := 659) hx hb dL_law_44 (by rw [g11]; decide) (by rw [g11]; decide) (by rw [g11]; rfl) (by decide) ?_
    exact law_c11 G hG hN0 l hfl hx hb hml hown hts hV hX hbl hbA x mo o d h1 h2 h3 h4 x5 hc0 hc1 hf hk H locs ls hM hS hl
  rw [if_neg g11] at hf
  have t11 := lv_neT g11 (show (11 : Int32).toInt = 11 from by decide)
  by_cases g12 : q = 12
  · rw [if_pos g12] at hf
    refine lv_tableIn (off := 659) (tgt := 703) hx hb dL_law_44 (by rw [g12]; decide) (by rw [g12]; decide) (by rw [g12]; rfl) (by decide) ?_
    exact law_c12 G hG hN0 l hfl hx hb hml hown hts hV hX hbl hbA x mo o d h1 h2 h3 h4 x5 hc0 hc1 hf hk H locs ls hM hS hl
  rw [if_neg g12] at hf
  have t12 := lv_neT g12 (show (12 : Int32).toInt = 12 from by decide)
  by_cases g13 : q = 13
  · rw [if_pos g13] at hf
    refine lv_tableIn (off := 703) (tgt := 747) hx hb dL_law_44 (by rw [g13]; decide) (by rw [g13]; decide) (by rw [g13]; rfl) (by decide) ?_
    exact law_c13 G hG hN0 l hfl hx hb hml hown hts hV hX hbl hbA x mo o d h1 h2 h3 h4 x5 hc0 hc1 hf hk H locs ls hM hS hl
  rw [if_neg g13] at hf
  have t13 := lv_neT g13 (show (13 : Int32).toInt = 13 from by decide)
  by_cases g14 : q = 14
  · rw [if_pos g14] at hf
    refine lv_tableIn (off := 771) (tgt := 815) hx hb dL_law_44 (by rw [g14]; decide) (by rw [g14]; decide) (by rw [g14]; rfl) (by decide) ?_
    exact law_c14 G hG hN0 l hfl hx hb hml hown hts hV hX hbl hbA x mo o d h1 h2 h3 h4 x5 hc0 hc1 hf hk H locs ls hM hS hl
  rw [if_neg g14] at hf
  have t14 := lv_neT g14 (show (14 : Int32).toInt = 14 from by decide)
  by_cases g15 : q = 15
  · rw [if_pos g15] at hf
    refine lv_tableIn (off := 839) (tgt := 883) hx hb dL_law_44 (by rw [g15]; decide) (by rw [g15]; decide) (by rw [g15]; rfl) (by decide) ?_
    exact law_c15 G hG hN0 l hfl hx hb hml hown hts hV hX hbl hbA x mo o d h1 h2 h3 h4 x5 hc0 hc1 hf hk H locs ls hM hS hl
  rw [if_neg g15] at hf
  have t15 := lv_neT g15 (show (15 : Int32).toInt = 15 from by decide)
  by_cases g16 : q = 16
  · rw [if_pos g16] at hf
    refine lv_tableIn (off := 919) (tgt := 963) hx hb dL_law_44 (by rw [g16]; decide) (by rw [g16]; decide) (by rw [g16]; rfl) (by decide) ?_
    exact law_c16 G hG hN0 l hfl hx hb hml hown hts hV hX hbl hbA x mo o d h1 h2 h3 h4 x5 hc0 hc1 hf hk H locs ls hM hS hl
  rw [if_neg g16] at hf
  have t16 := lv_neT g16 (show (16 : Int32).toInt = 16 from by decide)
  by_cases g17 : q = 17
  · rw [if_pos g17] at hf
    refine lv_tableIn (off := 975) (tgt := 1019) hx hb dL_law_44 (by rw [g17]; decide) (by rw [g17]; decide) (by rw [g17]; rfl) (by decide) ?_
    exact law_c17 G hG hN0 l hfl hx hb hml hown hts hV hX hbl hbA x mo o d h1 h2 h3 h4 x5 hc0 hc1 hf hk H locs ls hM hS hl
  rw [if_neg g17] at hf
  have t17 := lv_neT g17 (show (17 : Int32).toInt = 17 from by decide)
  by_cases g18 : q = 18
  · rw [if_pos g18] at hf
    refine lv_tableIn (off := 1031) (tgt := 1075) hx hb dL_law_44 (by rw [g18]; decide) (by rw [g18]; decide) (by rw [g18]; rfl) (by decide) ?_
    exact law_c18 G hG hN0 l hfl hx hb hml hown hts hV hX hbl hbA x mo o d h1 h2 h3 h4 x5 hc0 hc1 hf hk H locs ls hM hS hl
  rw [if_neg g18] at hf
  have t18 := lv_neT g18 (show (18 : Int32).toInt = 18 from by decide)
  by_cases g19 : q = 19
  · rw [if_pos g19] at hf
    refine lv_tableIn (off := 1087) (tgt := 1131) hx hb dL_law_44 (by rw [g19]; decide) (by rw [g19]; decide) (by rw [g19]; rfl) (by decide) ?_
    exact law_c19 G hG hN0 l hfl hx hb hml hown hts hV hX hbl hbA x mo o d h1 h2 h3 h4 x5 hc0 hc1 hf hk H locs ls hM hS hl
  rw [if_neg g19] at hf
  have t19 := lv_neT g19 (show (19 : Int32).toInt = 19 from by decide)
  by_cases g20 : q = 20
  · rw [if_pos g20] at hf
    refine lv_tableIn (off := 1167) (tgt := 1211) hx hb dL_law_44 (by rw [g20]; decide) (by rw [g20]; decide) (by rw [g20]; rfl) (by decide) ?_
    exact law_c20 G hG hN0 l hfl hx hb hml hown hts hV hX hbl hbA x mo o d h1 h2 h3 h4 x5 hc0 hc1 hf hk H locs ls hM hS hl
  rw [if_neg g20] at hf
  have t20 := lv_neT g20 (show (20 : Int32).toInt = 20 from by decide)
  by_cases g21 : q = 21
  · rw [if_pos g21] at hf
    refine lv_tableIn (off := 1247) (tgt := 1291) hx hb dL_law_44 (by rw [g21]; decide) (by rw [g21]; decide) (by rw [g21]; rfl) (by decide) ?_
    exact law_c21 G hG hN0 l hfl hx hb hml hown hts hV hX hbl hbA x mo o d h1 h2 h3 h4 x5 hc0 hc1 hf hk H locs ls hM hS hl
  rw [if_neg g21] at hf
  have t21 := lv_neT g21 (show (21 : Int32).toInt = 21 from by decide)
  by_cases g22 : q = 22
  · rw [if_pos g22] at hf
    refine lv_tableIn (off := 1315) (tgt := 1359) hx hb dL_law_44 (by rw [g22]; decide) (by rw [g22]; decide) (by rw [g22]; rfl) (by decide) ?_
    exact law_c22 G hG hN0 l hfl hx hb hml hown hts hV hX hbl hbA x mo o d h1 h2 h3 h4 x5 hc0 hc1 hf hk H locs ls hM hS hl
  rw [if_neg g22] at hf
  have t22 := lv_neT g22 (show (22 : Int32).toInt = 22 from by decide)
  by_cases g23 : q = 23
  · rw [if_pos g23] at hf
    refine lv_tableIn (off := 1392) (tgt := 1436) hx hb dL_law_44 (by rw [g23]; decide) (by rw [g23]; decide) (by rw [g23]; rfl) (by decide) ?_
    exact law_c23 G hG hN0 l hfl hx hb hml hown hts hV hX hbl hbA x mo o d h1 h2 h3 h4 x5 hc0 hc1 hf hk H locs ls hM hS hl
  rw [if_neg g23] at hf
  have t23 := lv_neT g23 (show (23 : Int32).toInt = 23 from by decide)
  by_cases g24 : q = 24
  · rw [if_pos g24] at hf
    refine lv_tableIn (off := 1435) (tgt := 1479) hx hb dL_law_44 (by rw [g24]; decide) (by rw [g24]; decide) (by rw [g24]; rfl) (by decide) ?_
    exact law_c24 G hG hN0 l hfl hx hb hml hown hts hV hX hbl hbA x mo o d h1 h2 h3 h4 x5 hc0 hc1 hf hk H locs ls hM hS hl
  rw [if_neg g24] at hf
  have t24 := lv_neT g24 (show (24 : Int32).toInt = 24 from by decide)
  cases hf
  refine lv_tableOut (tgt := 1493) hx hb dL_law_44 (by omega) (by decide) ?_
  exact W.widen (by omega) (by omega) (hk H locs ls hM hS hl)
theorem law_loop {p : Program} {e : Env} {s : State} {m : MethodId} {below : List Frame} {meth : Method} {c : Code} {b L : Nat} {xs : Nat → Int32} {Q : State → Prop} (G : Gt) (hG : gOK G) (hN0 : gNc G) (l : Launch) (hfl : l.stackTraces = false) (hx : p.tables.exec = Jvm.exec) (hb : c.code = cL_law) (hml : c.maxLocals = 10) (hown : s.vm.findClass "FoldedVoicesLaw" = some m.cls) (hts : KK s) (hV : (gS G).vm.Alike s.vm) (hX : va_X b L xs s s.heap) (hbl : b < s.heap.size) (hbA : ¬ gA G b) (x mo o d : Nat) (h1 : gK G x = 9) (h2 : gK G mo = 10) (h3 : gK G o = 9001) (h4 : gK G d = 10001) (hL : L ≤ 2048) (Inv : Nat → Mem → Prop) (hstep : ∀ (k : Nat) (M : Mem), 4 * k + 4 ≤ L → Inv k M → ∃ M' : Mem, f_law x mo o d xs L (Int32.ofNat (4 * k)) M = some M' ∧ Inv (k + 1) M') (hend : ∀ (H : Heap) (locs : List Loc) (ls : Array Slot) (C S : Nat), C ≤ 601024 → S ≤ 7293034 → va_S (gA G) s.heap H locs → W p l e room_1 s m #[Value.ref b] below meth c H locs C S Q (F0 m 1499 ls [])) : ∀ (n k : Nat) (M : Mem) (C S : Nat), k + n = L / 4 → C + n ≤ 601024 → S + 6 * n ≤ 7293034 → Inv k M → ∀ (H : Heap) (locs : List Loc) (ls : Array Slot), Mh G M H → va_S (gA G) s.heap H locs → lv_has ls 10 [(0, .ref b), (1, .ref x), (2, .ref mo), (3, .ref o), (4, .ref d), (5, .int (Int32.ofNat (4 * k)))] → W p l e room_1 s m #[Value.ref b] below meth c H locs C S Q (F0 m 28 ls []) := by
  intro n
  induction n with
  | zero =>
    intro k M C S hk hC hS0 hI H locs ls hM hS hl
    refine lv_iload hx hb dL_law_28 (lv_at hl 5 rfl) ?_
    refine lv_aload_n hx hb dL_law_30 rfl (lv_at hl 0 rfl) ?_
    refine va_slen hx hb hX hbl hbA hS dL_law_31 ?_
    refine lv_iconst (v := 4) hx hb dL_law_32 (by decide) ?_
    refine lv_isub hx hb dL_law_33 ?_
    refine lv_icmp_gt (tgt := 1499) hx hb dL_law_34 (by decide) (fun _ => ?_) (fun g => absurd (x_out (by omega) (by omega) (by omega)) g)
    exact hend H locs ls C S (by omega) (by omega) hS
  | succ n ih =>
    intro k M C S hk hC hS0 hI H locs ls hM hS hl
    obtain ⟨M', hf, hI2⟩ := hstep k M (by omega) hI
    have r1 : room_1.cells = 601024 := rfl
    have r2 : room_1.slots = 7293034 := rfl
    refine law_turn G hG hN0 l hfl hx hb hml hown hts hV hX hbl hbA x mo o d h1 h2 h3 h4 (Int32.ofNat (4 * k)) (by omega) (by omega) (x_in (by omega) (by omega)) (x_ix (by omega) (by omega)) hf (fun H locs ls hM hS hl => ?_) H locs ls hM hS hl
    refine lv_iinc (v := Int32.ofNat (4 * (k + 1))) (lv' := [(5, .int (Int32.ofNat (4 * (k + 1)))), (0, .ref b), (1, .ref x), (2, .ref mo), (3, .ref o), (4, .ref d)]) hx hb dL_law_1493 hl (k := 5) rfl ((x_add (a := 4 * k) (b := 4) (by omega) (by omega)).trans (congrArg Int32.ofNat (by omega))) (by decide) rfl (fun ls hl => ?_)
    refine lv_goto (tgt := 28) hx hb dL_law_1496 (by decide) ?_
    exact ih (k + 1) M' (C + 1) (S + 6) (by omega) (by omega) (by omega) hI2 H locs ls hM hS (lv_sub hl [1, 2, 3, 4, 5, 0] rfl)
