def f_L_isVoice_b648 (a0 : Nat) (a1 : Nat) (a2 : Nat) (a3 : Nat) (a4 : Nat) (p5 : Int32) (xs0 : UInt64) (xs1 : UInt64) (M : Mem) : Option (Int32 × Mem) := gd ((Op.cmpValue (FP.dcmp xs1 xs0) .l) = 0) <| some (1, M)
def f_L_isVoice_b426 (a0 : Nat) (a1 : Nat) (a2 : Nat) (a3 : Nat) (a4 : Nat) (p5 : Int32) (k403 : Int32 → Int32 → Int32 → Mem → Option (Int32 × Mem)) : Nat → Int32 → Int32 → Int32 → Int32 → Mem → Option (Int32 × Mem)
  | 0, _, _, _, _, _ => none
  | n + 1, x6, x8, x9, x10, M => gd (ix (((16 : Int32) * x8) + 1) 64) <| if (mI M a4 (((16 : Int32) * x8) + 1).toNatClampNeg) ≤ x10 then (zb (f_X8_packet a0 p5 x8 0 M) fun r5 M6 => gd (ix ((16 : Int32) * x8) 64) <| gd (r5 = (mI M6 a4 ((16 : Int32) * x8).toNatClampNeg)) <| zb (f_X8_packet a0 p5 x8 1 M6) fun r10 M11 => gd (ix (((16 : Int32) * x8) + 1) 64) <| gd (r10 = (mI M11 a4 (((16 : Int32) * x8) + 1).toNatClampNeg)) <| zb (f_X8_packet a0 p5 x8 2 M11) fun r15 M16 => gd (ix (((16 : Int32) * x8) + 2) 64) <| gd (r15 = (mI M16 a4 (((16 : Int32) * x8) + 2).toNatClampNeg)) <| zb (f_X8_packet a0 p5 x8 3 M16) fun r20 M21 => gd (ix (((16 : Int32) * x8) + 3) 64) <| gd (r20 = (mI M21 a4 (((16 : Int32) * x8) + 3).toNatClampNeg)) <| zb (f_X8_packet a0 p5 x8 4 M21) fun r25 M26 => gd (ix (((16 : Int32) * x8) + 4) 64) <| gd (r25 = (mI M26 a4 (((16 : Int32) * x8) + 4).toNatClampNeg)) <| zb (f_X8_packet a0 p5 x8 5 M26) fun r30 M31 => gd (r30 = x9) <| nb (x8 + 1) fun y33 => k403 x6 1 y33 M31) else (gd (ix ((((16 : Int32) * x8) + 5) + x10) 64) <| gd (¬ (65536 : Int32) = 0) <| nb (((16 : Int32) * x9) + ((mI M a4 ((((16 : Int32) * x8) + 5) + x10).toNatClampNeg) / (65536 : Int32))) fun y36 => nb (x10 + 1) fun y37 => f_L_isVoice_b426 a0 a1 a2 a3 a4 p5 k403 n x6 x8 y36 y37 M)
def f_L_isVoice_b403 (a0 : Nat) (a1 : Nat) (a2 : Nat) (a3 : Nat) (a4 : Nat) (p5 : Int32) : Nat → Int32 → Int32 → Int32 → Mem → Option (Int32 × Mem)
  | 0, _, _, _, _ => none
  | n + 1, x6, x7, x8, M => gd (ix (x6 + 19) 60) <| if (mI M a1 (x6 + 19).toNatClampNeg) ≤ x8 then (gd (¬ (x7 = 0)) <| zb (f_X8_meanError a0 p5 M) fun r42 M43 => gd (ix (x6 + 13) 60) <| if (mI M43 a1 (x6 + 13).toNatClampNeg) = 0 then (f_L_isVoice_b648 a0 a1 a2 a3 a4 p5 FP.dconst0 r42 M43) else (gd (ix (x6 + 17) 60) <| gd (ix (x6 + 13) 60) <| gd ((FP.ddiv (FP.i2d (mI M43 a1 (x6 + 17).toNatClampNeg)) (FP.i2d (mI M43 a1 (x6 + 13).toNatClampNeg))) &&& 0x7fffffffffffffff ≤ 0x7ff0000000000000) <| f_L_isVoice_b648 a0 a1 a2 a3 a4 p5 (FP.ddiv (FP.i2d (mI M43 a1 (x6 + 17).toNatClampNeg)) (FP.i2d (mI M43 a1 (x6 + 13).toNatClampNeg))) r42 M43)) else (gd (¬ (x7 = 0)) <| f_L_isVoice_b426 a0 a1 a2 a3 a4 p5 (f_L_isVoice_b403 a0 a1 a2 a3 a4 p5 n) lfuel x6 x8 0 0 M)
def f_L_isVoice (a0 : Nat) (a1 : Nat) (a2 : Nat) (a3 : Nat) (a4 : Nat) (p5 : Int32) (M : Mem) : Option (Int32 × Mem) := nb ((20 : Int32) * p5) fun y50 => zb (f_X8_saying a0 p5 0 M) fun r52 M53 => gd (ix y50 60) <| gd (r52 = (mI M53 a1 y50.toNatClampNeg)) <| zb (f_X8_saying a0 p5 1 M53) fun r57 M58 => gd (ix (y50 + 1) 60) <| gd (r57 = (mI M58 a1 (y50 + 1).toNatClampNeg)) <| zb (f_X8_saying a0 p5 2 M58) fun r62 M63 => gd (ix (y50 + 1) 60) <| vb (f_L_step (mI M63 a1 (y50 + 1).toNatClampNeg) M63) fun r66 => gd (r62 = r66) <| zb (f_X8_saying a0 p5 3 M63) fun r69 M70 => gd (ix (y50 + 2) 60) <| gd (r69 = (mI M70 a1 (y50 + 2).toNatClampNeg)) <| zb (f_X8_saying a0 p5 4 M70) fun r74 M75 => gd (ix (y50 + 3) 60) <| gd (r74 = (mI M75 a1 (y50 + 3).toNatClampNeg)) <| zb (f_X8_saying a0 p5 5 M75) fun r79 M80 => gd (ix (y50 + 4) 60) <| gd (r79 = (mI M80 a1 (y50 + 4).toNatClampNeg)) <| zb (f_X8_saying a0 p5 6 M80) fun r84 M85 => gd (ix (y50 + 5) 60) <| gd (r84 = (mI M85 a1 (y50 + 5).toNatClampNeg)) <| zb (f_X8_saying a0 p5 7 M85) fun r89 M90 => gd (ix (y50 + 6) 60) <| gd (r89 = (mI M90 a1 (y50 + 6).toNatClampNeg)) <| zb (f_X8_saying a0 p5 8 M90) fun r94 M95 => gd (ix y50 60) <| gd (r94 = (mI M95 a1 y50.toNatClampNeg)) <| zb (f_X8_saying a0 p5 9 M95) fun r99 M100 => gd (ix (y50 + 19) 60) <| gd (r99 = (mI M100 a1 (y50 + 19).toNatClampNeg)) <| gd (¬ ((1 : Int32) = 0)) <| zb (f_X8_hearing a0 p5 0 M100) fun r105 M106 => gd (ix (y50 + 10) 60) <| gd (r105 = (mI M106 a1 (y50 + 10).toNatClampNeg)) <| zb (f_X8_hearing a0 p5 1 M106) fun r110 M111 => gd (ix (y50 + 11) 60) <| gd (r110 = (mI M111 a1 (y50 + 11).toNatClampNeg)) <| zb (f_X8_hearing a0 p5 2 M111) fun r115 M116 => gd (ix (y50 + 11) 60) <| vb (f_L_step (mI M116 a1 (y50 + 11).toNatClampNeg) M116) fun r119 => gd (r115 = r119) <| zb (f_X8_hearing a0 p5 3 M116) fun r122 M123 => gd (ix (y50 + 12) 60) <| gd (r122 = (mI M123 a1 (y50 + 12).toNatClampNeg)) <| zb (f_X8_hearing a0 p5 4 M123) fun r127 M128 => gd (ix (y50 + 13) 60) <| gd (r127 = (mI M128 a1 (y50 + 13).toNatClampNeg)) <| zb (f_X8_hearing a0 p5 5 M128) fun r132 M133 => gd (ix (y50 + 14) 60) <| gd (r132 = (mI M133 a1 (y50 + 14).toNatClampNeg)) <| zb (f_X8_hearing a0 p5 6 M133) fun r137 M138 => gd (ix (y50 + 15) 60) <| gd (r137 = (mI M138 a1 (y50 + 15).toNatClampNeg)) <| zb (f_X8_hearing a0 p5 7 M138) fun r142 M143 => gd (ix (y50 + 16) 60) <| gd (r142 = (mI M143 a1 (y50 + 16).toNatClampNeg)) <| zb (f_X8_hearing a0 p5 8 M143) fun r147 M148 => gd (ix (y50 + 17) 60) <| gd (r147 = (mI M148 a1 (y50 + 17).toNatClampNeg)) <| zb (f_X8_hearing a0 p5 9 M148) fun r152 M153 => gd (ix (y50 + 18) 60) <| gd (r152 = (mI M153 a1 (y50 + 18).toNatClampNeg)) <| zb (f_X8_hearing a0 p5 10 M153) fun r157 M158 => gd (ix p5 14) <| gd (r157 = (mI M158 a2 p5.toNatClampNeg)) <| zb (f_X8_hearing a0 p5 11 M158) fun r162 M163 => gd (ix ((3 : Int32) + p5) 14) <| gd (r162 = (mI M163 a2 ((3 : Int32) + p5).toNatClampNeg)) <| f_L_isVoice_b403 a0 a1 a2 a3 a4 p5 lfuel y50 1 0 M163
set_option maxHeartbeats 4000000 in
set_option maxRecDepth 100000 in
theorem k_L_isVoice (G : Gt) (hG : gOK G) (l : Launch) (a0 : Nat) (h0 : gK G a0 = 9) (a1 : Nat) (h1 : gK G a1 = 1060) (a2 : Nat) (h2 : gK G a2 = 1014) (a3 : Nat) (h3 : gK G a3 = 1024) (a4 : Nat) (h4 : gK G a4 = 1064) (p5 : Int32) (M : Mem) {r : Int32} {M' : Mem} (hf : f_L_isVoice a0 a1 a2 a3 a4 p5 M = some (r, M')) : Kc G l yL_isVoice cL_isVoice 11 (some .boolean) ({ frames := 8, cells := 0, slots := 0, locals := 157 } : Room) [.ref a0, .ref a1, .ref a2, .ref a3, .ref a4, .int p5] M (some (.int r)) M' := by
  refine start (by decide) (Nat.le_of_ble_eq_true rfl) ?_
  intro p e s m args below meth c ls hx hb hr hown hml hlocks hts hV hM hl
  have hown : s.vm.findClass "FoldedVoicesLaw" = some m.cls := hown
  have hK := hG.1.moved hV
  have hS : va_S (gA G) s.heap s.heap [] := va_S.rf
  have hl : lv_has ls 11 [(0, .ref a0), (1, .ref a1), (2, .ref a2), (3, .ref a3), (4, .ref a4), (5, .int p5)] := hl
  have hM0 := hM
  have b648 : ∀ (xs0 : UInt64) (xs1 : UInt64) (M : Mem) (H : Heap) (locs : List Loc) (ls : Array Slot), Mh G M H → va_S (gA G) s.heap H locs → lv_has ls 11 [(0, .ref a0), (1, .ref a1), (2, .ref a2), (3, .ref a3), (4, .ref a4), (5, .int p5)] → f_L_isVoice_b648 a0 a1 a2 a3 a4 p5 xs0 xs1 M = some (r, M') → W p l e ({ frames := 8, cells := 0, slots := 0, locals := 157 } : Room) s m args below meth c H locs 0 0 (MQ below (QV G (some (.int r)) M') args s 0 0 (gA G)) (F0 m 648 ls [.double xs0, .double xs1]) := by
    intro xs0 xs1 M H locs ls hM hS hl hf
    rw [f_L_isVoice_b648] at hf
    refine lv_dcmp hx hb dL_isVoice_648 ?_
    obtain ⟨h_1, hf⟩ := gd_e hf
    refine lv_if_ne (tgt := 656) hx hb dL_isVoice_649 (by decide) (fun g => absurd h_1 g) (fun _ => ?_)
    refine lv_iconst (v := 1) hx hb dL_isVoice_652 (by decide) ?_
    refine lv_goto (tgt := 657) hx hb dL_isVoice_653 (by decide) ?_
    exact ef_zm hx hb hr hlocks hM hS (nz_n (Or.inr rfl)) hf dL_isVoice_657
  have b426 : ∀ (k403 : Int32 → Int32 → Int32 → Mem → Option (Int32 × Mem)), (∀ (x6 : Int32) (x7 : Int32) (x8 : Int32) (M : Mem) (H : Heap) (locs : List Loc) (ls : Array Slot), Mh G M H → va_S (gA G) s.heap H locs → lv_has ls 11 [(0, .ref a0), (1, .ref a1), (2, .ref a2), (3, .ref a3), (4, .ref a4), (5, .int p5), (6, .int x6), (7, .int x7), (8, .int x8)] → k403 x6 x7 x8 M = some (r, M') → W p l e ({ frames := 8, cells := 0, slots := 0, locals := 157 } : Room) s m args below meth c H locs 0 0 (MQ below (QV G (some (.int r)) M') args s 0 0 (gA G)) (F0 m 403 ls [])) → ∀ (n : Nat), ∀ (x6 : Int32) (x8 : Int32) (x9 : Int32) (x10 : Int32) (M : Mem) (H : Heap) (locs : List Loc) (ls : Array Slot), Mh G M H → va_S (gA G) s.heap H locs → lv_has ls 11 [(0, .ref a0), (1, .ref a1), (2, .ref a2), (3, .ref a3), (4, .ref a4), (5, .int p5), (6, .int x6), (8, .int x8), (9, .int x9), (10, .int x10)] → f_L_isVoice_b426 a0 a1 a2 a3 a4 p5 k403 n x6 x8 x9 x10 M = some (r, M') → W p l e ({ frames := 8, cells := 0, slots := 0, locals := 157 } : Room) s m args below meth c H locs 0 0 (MQ below (QV G (some (.int r)) M') args s 0 0 (gA G)) (F0 m 426 ls []) := by
    intro k403 hk403
    intro n
    induction n with
    | zero =>
      intro x6 x8 x9 x10 M H locs ls hM hS hl hf
      rw [f_L_isVoice_b426] at hf
      cases hf
    | succ n ih =>
      intro x6 x8 x9 x10 M H locs ls hM hS hl hf
      rw [f_L_isVoice_b426] at hf
      refine lv_iload hx hb dL_isVoice_426 (lv_at hl 9 rfl) ?_
      refine lv_aload hx hb dL_isVoice_428 (lv_at hl 4 rfl) ?_
      refine lv_bipush (v := 16) hx hb dL_isVoice_430 (by decide) ?_
      refine lv_iload hx hb dL_isVoice_432 (lv_at hl 7 rfl) ?_
      refine lv_imul hx hb dL_isVoice_434 ?_
      refine lv_iconst (v := 1) hx hb dL_isVoice_435 (by decide) ?_
      refine lv_iadd hx hb dL_isVoice_436 ?_
      obtain ⟨h_2, hf⟩ := gd_e hf
      refine s_iald 64 hx hb hK hM h4 (by decide) h_2 dL_isVoice_437 ?_
      refine lv_icmp_ge (tgt := 471) hx hb dL_isVoice_438 (by decide) (fun g_3 => ?_) (fun g_3 => ?_)
      · rw [if_pos g_3] at hf
        refine lv_aload_n hx hb dL_isVoice_471 rfl (lv_at hl 0 rfl) ?_
        refine lv_iload hx hb dL_isVoice_472 (lv_at hl 5 rfl) ?_
        refine lv_iload hx hb dL_isVoice_474 (lv_at hl 7 rfl) ?_
        refine lv_iconst (v := 0) hx hb dL_isVoice_476 (by decide) ?_
        obtain ⟨r5, M6, e_4, hf⟩ := zb_e hf
        refine c_Vi hx hb hml hown hts hV hK hM hS (As := [.int p5, .int x8, .int 0]) (rest := []) (k_X8_packet G hG l a0 h0 p5 x8 0 M e_4) w_X8_packet (tk_456 hts) (c_9 h0) rfl rfl ⟨⟨rfl, rfl⟩, Nat.le_of_ble_eq_true rfl, Nat.le_of_ble_eq_true rfl⟩ ⟨Nat.zero_le _, Nat.zero_le _⟩ rfl hl.1 rfl (Nat.le_of_ble_eq_true rfl) dL_isVoice_477 (fun H locs hM hS => ?_)
        refine lv_aload hx hb dL_isVoice_480 (lv_at hl 4 rfl) ?_
        refine lv_bipush (v := 16) hx hb dL_isVoice_482 (by decide) ?_
        refine lv_iload hx hb dL_isVoice_484 (lv_at hl 7 rfl) ?_
        refine lv_imul hx hb dL_isVoice_486 ?_
        obtain ⟨h_7, hf⟩ := gd_e hf
        refine s_iald 64 hx hb hK hM h4 (by decide) h_7 dL_isVoice_487 ?_
        obtain ⟨h_8, hf⟩ := gd_e hf
        refine lv_icmp_ne (tgt := 597) hx hb dL_isVoice_488 (by decide) (fun g => absurd h_8 g) (fun _ => ?_)
        refine lv_aload_n hx hb dL_isVoice_491 rfl (lv_at hl 0 rfl) ?_
        refine lv_iload hx hb dL_isVoice_492 (lv_at hl 5 rfl) ?_
        refine lv_iload hx hb dL_isVoice_494 (lv_at hl 7 rfl) ?_
        refine lv_iconst (v := 1) hx hb dL_isVoice_496 (by decide) ?_
        obtain ⟨r10, M11, e_9, hf⟩ := zb_e hf
        refine c_Vi hx hb hml hown hts hV hK hM hS (As := [.int p5, .int x8, .int 1]) (rest := []) (k_X8_packet G hG l a0 h0 p5 x8 1 M6 e_9) w_X8_packet (tk_456 hts) (c_9 h0) rfl rfl ⟨⟨rfl, rfl⟩, Nat.le_of_ble_eq_true rfl, Nat.le_of_ble_eq_true rfl⟩ ⟨Nat.zero_le _, Nat.zero_le _⟩ rfl hl.1 rfl (Nat.le_of_ble_eq_true rfl) dL_isVoice_497 (fun H locs hM hS => ?_)
        refine lv_aload hx hb dL_isVoice_500 (lv_at hl 4 rfl) ?_
        refine lv_bipush (v := 16) hx hb dL_isVoice_502 (by decide) ?_
        refine lv_iload hx hb dL_isVoice_504 (lv_at hl 7 rfl) ?_
        refine lv_imul hx hb dL_isVoice_506 ?_
        refine lv_iconst (v := 1) hx hb dL_isVoice_507 (by decide) ?_
        refine lv_iadd hx hb dL_isVoice_508 ?_
        obtain ⟨h_12, hf⟩ := gd_e hf
        refine s_iald 64 hx hb hK hM h4 (by decide) h_12 dL_isVoice_509 ?_
        obtain ⟨h_13, hf⟩ := gd_e hf
        refine lv_icmp_ne (tgt := 597) hx hb dL_isVoice_510 (by decide) (fun g => absurd h_13 g) (fun _ => ?_)
        refine lv_aload_n hx hb dL_isVoice_513 rfl (lv_at hl 0 rfl) ?_
        refine lv_iload hx hb dL_isVoice_514 (lv_at hl 5 rfl) ?_
        refine lv_iload hx hb dL_isVoice_516 (lv_at hl 7 rfl) ?_
        refine lv_iconst (v := 2) hx hb dL_isVoice_518 (by decide) ?_
        obtain ⟨r15, M16, e_14, hf⟩ := zb_e hf
        refine c_Vi hx hb hml hown hts hV hK hM hS (As := [.int p5, .int x8, .int 2]) (rest := []) (k_X8_packet G hG l a0 h0 p5 x8 2 M11 e_14) w_X8_packet (tk_456 hts) (c_9 h0) rfl rfl ⟨⟨rfl, rfl⟩, Nat.le_of_ble_eq_true rfl, Nat.le_of_ble_eq_true rfl⟩ ⟨Nat.zero_le _, Nat.zero_le _⟩ rfl hl.1 rfl (Nat.le_of_ble_eq_true rfl) dL_isVoice_519 (fun H locs hM hS => ?_)
        refine lv_aload hx hb dL_isVoice_522 (lv_at hl 4 rfl) ?_
        refine lv_bipush (v := 16) hx hb dL_isVoice_524 (by decide) ?_
        refine lv_iload hx hb dL_isVoice_526 (lv_at hl 7 rfl) ?_
        refine lv_imul hx hb dL_isVoice_528 ?_
        refine lv_iconst (v := 2) hx hb dL_isVoice_529 (by decide) ?_
        refine lv_iadd hx hb dL_isVoice_530 ?_
        obtain ⟨h_17, hf⟩ := gd_e hf
        refine s_iald 64 hx hb hK hM h4 (by decide) h_17 dL_isVoice_531 ?_
        obtain ⟨h_18, hf⟩ := gd_e hf
        refine lv_icmp_ne (tgt := 597) hx hb dL_isVoice_532 (by decide) (fun g => absurd h_18 g) (fun _ => ?_)
        refine lv_aload_n hx hb dL_isVoice_535 rfl (lv_at hl 0 rfl) ?_
        refine lv_iload hx hb dL_isVoice_536 (lv_at hl 5 rfl) ?_
        refine lv_iload hx hb dL_isVoice_538 (lv_at hl 7 rfl) ?_
        refine lv_iconst (v := 3) hx hb dL_isVoice_540 (by decide) ?_
        obtain ⟨r20, M21, e_19, hf⟩ := zb_e hf
        refine c_Vi hx hb hml hown hts hV hK hM hS (As := [.int p5, .int x8, .int 3]) (rest := []) (k_X8_packet G hG l a0 h0 p5 x8 3 M16 e_19) w_X8_packet (tk_456 hts) (c_9 h0) rfl rfl ⟨⟨rfl, rfl⟩, Nat.le_of_ble_eq_true rfl, Nat.le_of_ble_eq_true rfl⟩ ⟨Nat.zero_le _, Nat.zero_le _⟩ rfl hl.1 rfl (Nat.le_of_ble_eq_true rfl) dL_isVoice_541 (fun H locs hM hS => ?_)
        refine lv_aload hx hb dL_isVoice_544 (lv_at hl 4 rfl) ?_
        refine lv_bipush (v := 16) hx hb dL_isVoice_546 (by decide) ?_
        refine lv_iload hx hb dL_isVoice_548 (lv_at hl 7 rfl) ?_
        refine lv_imul hx hb dL_isVoice_550 ?_
        refine lv_iconst (v := 3) hx hb dL_isVoice_551 (by decide) ?_
        refine lv_iadd hx hb dL_isVoice_552 ?_
        obtain ⟨h_22, hf⟩ := gd_e hf
        refine s_iald 64 hx hb hK hM h4 (by decide) h_22 dL_isVoice_553 ?_
        obtain ⟨h_23, hf⟩ := gd_e hf
        refine lv_icmp_ne (tgt := 597) hx hb dL_isVoice_554 (by decide) (fun g => absurd h_23 g) (fun _ => ?_)
        refine lv_aload_n hx hb dL_isVoice_557 rfl (lv_at hl 0 rfl) ?_
        refine lv_iload hx hb dL_isVoice_558 (lv_at hl 5 rfl) ?_
        refine lv_iload hx hb dL_isVoice_560 (lv_at hl 7 rfl) ?_
        refine lv_iconst (v := 4) hx hb dL_isVoice_562 (by decide) ?_
        obtain ⟨r25, M26, e_24, hf⟩ := zb_e hf
        refine c_Vi hx hb hml hown hts hV hK hM hS (As := [.int p5, .int x8, .int 4]) (rest := []) (k_X8_packet G hG l a0 h0 p5 x8 4 M21 e_24) w_X8_packet (tk_456 hts) (c_9 h0) rfl rfl ⟨⟨rfl, rfl⟩, Nat.le_of_ble_eq_true rfl, Nat.le_of_ble_eq_true rfl⟩ ⟨Nat.zero_le _, Nat.zero_le _⟩ rfl hl.1 rfl (Nat.le_of_ble_eq_true rfl) dL_isVoice_563 (fun H locs hM hS => ?_)
        refine lv_aload hx hb dL_isVoice_566 (lv_at hl 4 rfl) ?_
        refine lv_bipush (v := 16) hx hb dL_isVoice_568 (by decide) ?_
        refine lv_iload hx hb dL_isVoice_570 (lv_at hl 7 rfl) ?_
        refine lv_imul hx hb dL_isVoice_572 ?_
        refine lv_iconst (v := 4) hx hb dL_isVoice_573 (by decide) ?_
        refine lv_iadd hx hb dL_isVoice_574 ?_
        obtain ⟨h_27, hf⟩ := gd_e hf
        refine s_iald 64 hx hb hK hM h4 (by decide) h_27 dL_isVoice_575 ?_
        obtain ⟨h_28, hf⟩ := gd_e hf
        refine lv_icmp_ne (tgt := 597) hx hb dL_isVoice_576 (by decide) (fun g => absurd h_28 g) (fun _ => ?_)
        refine lv_aload_n hx hb dL_isVoice_579 rfl (lv_at hl 0 rfl) ?_
        refine lv_iload hx hb dL_isVoice_580 (lv_at hl 5 rfl) ?_
        refine lv_iload hx hb dL_isVoice_582 (lv_at hl 7 rfl) ?_
        refine lv_iconst (v := 5) hx hb dL_isVoice_584 (by decide) ?_
        obtain ⟨r30, M31, e_29, hf⟩ := zb_e hf
        refine c_Vi hx hb hml hown hts hV hK hM hS (As := [.int p5, .int x8, .int 5]) (rest := []) (k_X8_packet G hG l a0 h0 p5 x8 5 M26 e_29) w_X8_packet (tk_456 hts) (c_9 h0) rfl rfl ⟨⟨rfl, rfl⟩, Nat.le_of_ble_eq_true rfl, Nat.le_of_ble_eq_true rfl⟩ ⟨Nat.zero_le _, Nat.zero_le _⟩ rfl hl.1 rfl (Nat.le_of_ble_eq_true rfl) dL_isVoice_585 (fun H locs hM hS => ?_)
        refine lv_iload hx hb dL_isVoice_588 (lv_at hl 8 rfl) ?_
        obtain ⟨h_32, hf⟩ := gd_e hf
        refine lv_icmp_ne (tgt := 597) hx hb dL_isVoice_590 (by decide) (fun g => absurd h_32 g) (fun _ => ?_)
        refine lv_iconst (v := 1) hx hb dL_isVoice_593 (by decide) ?_
        refine lv_goto (tgt := 598) hx hb dL_isVoice_594 (by decide) ?_
        refine lv_istore (lv' := [(7, .int 1), (0, .ref a0), (1, .ref a1), (2, .ref a2), (3, .ref a3), (4, .ref a4), (5, .int p5), (6, .int x6), (8, .int x8), (9, .int x9), (10, .int x10)]) hx hb dL_isVoice_598 hl (by decide) rfl (fun ls hl => ?_)
        obtain ⟨y33, ey33, hf⟩ := nb_e hf
        refine lv_iinc (v := y33) (lv' := [(8, .int y33), (7, .int 1), (0, .ref a0), (1, .ref a1), (2, .ref a2), (3, .ref a3), (4, .ref a4), (5, .int p5), (6, .int x6), (9, .int x9), (10, .int x10)]) hx hb dL_isVoice_600 hl (k := 8) rfl (by rw [← ey33]; rfl) (by decide) rfl (fun ls hl => ?_)
        refine lv_goto (tgt := 403) hx hb dL_isVoice_603 (by decide) ?_
        exact hk403 x6 1 y33 _ H locs ls hM hS (lv_sub hl [2, 3, 4, 5, 6, 7, 8, 1, 0] rfl) hf
      · rw [if_neg g_3] at hf
        refine lv_bipush (v := 16) hx hb dL_isVoice_441 (by decide) ?_
        refine lv_iload hx hb dL_isVoice_443 (lv_at hl 8 rfl) ?_
        refine lv_imul hx hb dL_isVoice_445 ?_
        refine lv_aload hx hb dL_isVoice_446 (lv_at hl 4 rfl) ?_
        refine lv_bipush (v := 16) hx hb dL_isVoice_448 (by decide) ?_
        refine lv_iload hx hb dL_isVoice_450 (lv_at hl 7 rfl) ?_
        refine lv_imul hx hb dL_isVoice_452 ?_
        refine lv_iconst (v := 5) hx hb dL_isVoice_453 (by decide) ?_
        refine lv_iadd hx hb dL_isVoice_454 ?_
        refine lv_iload hx hb dL_isVoice_455 (lv_at hl 9 rfl) ?_
        refine lv_iadd hx hb dL_isVoice_457 ?_
        obtain ⟨h_34, hf⟩ := gd_e hf
        refine s_iald 64 hx hb hK hM h4 (by decide) h_34 dL_isVoice_458 ?_
        refine lv_ldc hx hb hown (tk_455 hts) dL_isVoice_459 ?_
        obtain ⟨h_35, hf⟩ := gd_e hf
        refine lv_idiv hx hb dL_isVoice_461 h_35 ?_
        refine lv_iadd hx hb dL_isVoice_462 ?_
        obtain ⟨y36, ey36, hf⟩ := nb_e hf
        refine s_nm ey36 ?_
        refine lv_istore (lv' := [(9, .int y36), (0, .ref a0), (1, .ref a1), (2, .ref a2), (3, .ref a3), (4, .ref a4), (5, .int p5), (6, .int x6), (8, .int x8), (10, .int x10)]) hx hb dL_isVoice_463 hl (by decide) rfl (fun ls hl => ?_)
        obtain ⟨y37, ey37, hf⟩ := nb_e hf
        refine lv_iinc (v := y37) (lv' := [(10, .int y37), (9, .int y36), (0, .ref a0), (1, .ref a1), (2, .ref a2), (3, .ref a3), (4, .ref a4), (5, .int p5), (6, .int x6), (8, .int x8)]) hx hb dL_isVoice_465 hl (k := 9) rfl (by rw [← ey37]; rfl) (by decide) rfl (fun ls hl => ?_)
        refine lv_goto (tgt := 426) hx hb dL_isVoice_468 (by decide) ?_
        exact ih x6 x8 y36 y37 _ H locs ls hM hS (lv_sub hl [2, 3, 4, 5, 6, 7, 8, 9, 1, 0] rfl) hf
  have b403 : ∀ (n : Nat), ∀ (x6 : Int32) (x7 : Int32) (x8 : Int32) (M : Mem) (H : Heap) (locs : List Loc) (ls : Array Slot), Mh G M H → va_S (gA G) s.heap H locs → lv_has ls 11 [(0, .ref a0), (1, .ref a1), (2, .ref a2), (3, .ref a3), (4, .ref a4), (5, .int p5), (6, .int x6), (7, .int x7), (8, .int x8)] → f_L_isVoice_b403 a0 a1 a2 a3 a4 p5 n x6 x7 x8 M = some (r, M') → W p l e ({ frames := 8, cells := 0, slots := 0, locals := 157 } : Room) s m args below meth c H locs 0 0 (MQ below (QV G (some (.int r)) M') args s 0 0 (gA G)) (F0 m 403 ls []) := by
    intro n
    induction n with
    | zero =>
      intro x6 x7 x8 M H locs ls hM hS hl hf
      rw [f_L_isVoice_b403] at hf
      cases hf
    | succ n ih =>
      intro x6 x7 x8 M H locs ls hM hS hl hf
      rw [f_L_isVoice_b403] at hf
      refine lv_iload hx hb dL_isVoice_403 (lv_at hl 8 rfl) ?_
      refine lv_aload_n hx hb dL_isVoice_405 rfl (lv_at hl 1 rfl) ?_
      refine lv_iload hx hb dL_isVoice_406 (lv_at hl 6 rfl) ?_
      refine lv_bipush (v := 19) hx hb dL_isVoice_408 (by decide) ?_
      refine lv_iadd hx hb dL_isVoice_410 ?_
      obtain ⟨h_38, hf⟩ := gd_e hf
      refine s_iald 60 hx hb hK hM h1 (by decide) h_38 dL_isVoice_411 ?_
      refine lv_icmp_ge (tgt := 606) hx hb dL_isVoice_412 (by decide) (fun g_39 => ?_) (fun g_39 => ?_)
      · rw [if_pos g_39] at hf
        refine lv_iload hx hb dL_isVoice_606 (lv_at hl 7 rfl) ?_
        obtain ⟨h_40, hf⟩ := gd_e hf
        refine lv_if_eq (tgt := 656) hx hb dL_isVoice_608 (by decide) (fun g => absurd g h_40) (fun _ => ?_)
        refine lv_aload_n hx hb dL_isVoice_611 rfl (lv_at hl 0 rfl) ?_
        refine lv_iload hx hb dL_isVoice_612 (lv_at hl 5 rfl) ?_
        obtain ⟨r42, M43, e_41, hf⟩ := zb_e hf
        refine c_Vd hx hb hml hown hts hV hK hM hS (As := [.int p5]) (rest := []) (k_X8_meanError G hG l a0 h0 p5 M e_41) w_X8_meanError (tk_474 hts) (c_9 h0) rfl rfl ⟨⟨rfl, rfl⟩, Nat.le_of_ble_eq_true rfl, Nat.le_of_ble_eq_true rfl⟩ ⟨Nat.zero_le _, Nat.zero_le _⟩ rfl hl.1 rfl (Nat.le_of_ble_eq_true rfl) dL_isVoice_614 (fun H locs hM hS => ?_)
        refine lv_aload_n hx hb dL_isVoice_617 rfl (lv_at hl 1 rfl) ?_
        refine lv_iload hx hb dL_isVoice_618 (lv_at hl 6 rfl) ?_
        refine lv_bipush (v := 13) hx hb dL_isVoice_620 (by decide) ?_
        refine lv_iadd hx hb dL_isVoice_622 ?_
        obtain ⟨h_44, hf⟩ := gd_e hf
        refine s_iald 60 hx hb hK hM h1 (by decide) h_44 dL_isVoice_623 ?_
        refine lv_if_ne (tgt := 631) hx hb dL_isVoice_624 (by decide) (fun g_45 => ?_) (fun g_45 => ?_)
        · rw [if_neg g_45] at hf
          refine lv_aload_n hx hb dL_isVoice_631 rfl (lv_at hl 1 rfl) ?_
          refine lv_iload hx hb dL_isVoice_632 (lv_at hl 6 rfl) ?_
          refine lv_bipush (v := 17) hx hb dL_isVoice_634 (by decide) ?_
          refine lv_iadd hx hb dL_isVoice_636 ?_
          obtain ⟨h_46, hf⟩ := gd_e hf
          refine s_iald 60 hx hb hK hM h1 (by decide) h_46 dL_isVoice_637 ?_
          refine lv_i2d hx hb dL_isVoice_638 ?_
          refine lv_aload_n hx hb dL_isVoice_639 rfl (lv_at hl 1 rfl) ?_
          refine lv_iload hx hb dL_isVoice_640 (lv_at hl 6 rfl) ?_
          refine lv_bipush (v := 13) hx hb dL_isVoice_642 (by decide) ?_
          refine lv_iadd hx hb dL_isVoice_644 ?_
          obtain ⟨h_47, hf⟩ := gd_e hf
          refine s_iald 60 hx hb hK hM h1 (by decide) h_47 dL_isVoice_645 ?_
          refine lv_i2d hx hb dL_isVoice_646 ?_
          obtain ⟨h_48, hf⟩ := gd_e hf
          refine lv_ddiv hx hb dL_isVoice_647 h_48 ?_
          exact b648 (FP.ddiv (FP.i2d (mI M43 a1 (x6 + 17).toNatClampNeg)) (FP.i2d (mI M43 a1 (x6 + 13).toNatClampNeg))) r42 _ H locs ls hM hS (lv_sub hl [0, 1, 2, 3, 4, 5] rfl) hf
        · rw [if_pos g_45] at hf
          refine lv_dconst0 hx hb dL_isVoice_627 ?_
          refine lv_goto (tgt := 648) hx hb dL_isVoice_628 (by decide) ?_
          exact b648 FP.dconst0 r42 _ H locs ls hM hS (lv_sub hl [0, 1, 2, 3, 4, 5] rfl) hf
      · rw [if_neg g_39] at hf
        refine lv_iload hx hb dL_isVoice_415 (lv_at hl 7 rfl) ?_
        obtain ⟨h_49, hf⟩ := gd_e hf
        refine lv_if_eq (tgt := 606) hx hb dL_isVoice_417 (by decide) (fun g => absurd g h_49) (fun _ => ?_)
        refine lv_iconst (v := 0) hx hb dL_isVoice_420 (by decide) ?_
        refine lv_istore (lv' := [(9, .int 0), (0, .ref a0), (1, .ref a1), (2, .ref a2), (3, .ref a3), (4, .ref a4), (5, .int p5), (6, .int x6), (7, .int x7), (8, .int x8)]) hx hb dL_isVoice_421 hl (by decide) rfl (fun ls hl => ?_)
        refine lv_iconst (v := 0) hx hb dL_isVoice_423 (by decide) ?_
        refine lv_istore (lv' := [(10, .int 0), (9, .int 0), (0, .ref a0), (1, .ref a1), (2, .ref a2), (3, .ref a3), (4, .ref a4), (5, .int p5), (6, .int x6), (7, .int x7), (8, .int x8)]) hx hb dL_isVoice_424 hl (by decide) rfl (fun ls hl => ?_)
        exact b426 _ ih _ x6 x8 0 0 _ H locs ls hM hS (lv_sub hl [2, 3, 4, 5, 6, 7, 8, 10, 1, 0] rfl) hf
  rw [f_L_isVoice] at hf
  obtain ⟨H, hHe⟩ : ∃ H, H = s.heap := ⟨_, rfl⟩
  obtain ⟨locs, hLe⟩ : ∃ L : List Loc, L = [] := ⟨_, rfl⟩
  rw [← hHe] at hM
  have hS : va_S (gA G) s.heap H locs := by rw [hHe, hLe]; exact va_S.rf
  suffices hW : W p l e ({ frames := 8, cells := 0, slots := 0, locals := 157 } : Room) s m args below meth c H locs 0 0 (MQ below (QV G (some (.int r)) M') args s 0 0 (gA G)) (F0 m 0 ls []) by rw [hHe, hLe] at hW; exact hW
  refine lv_bipush (v := 20) hx hb dL_isVoice_0 (by decide) ?_
  refine lv_iload hx hb dL_isVoice_2 (lv_at hl 5 rfl) ?_
  refine lv_imul hx hb dL_isVoice_4 ?_
  obtain ⟨y50, ey50, hf⟩ := nb_e hf
  refine s_nm ey50 ?_
  refine lv_istore (lv' := [(6, .int y50), (0, .ref a0), (1, .ref a1), (2, .ref a2), (3, .ref a3), (4, .ref a4), (5, .int p5)]) hx hb dL_isVoice_5 hl (by decide) rfl (fun ls hl => ?_)
  refine lv_aload_n hx hb dL_isVoice_7 rfl (lv_at hl 1 rfl) ?_
  refine lv_iload hx hb dL_isVoice_8 (lv_at hl 6 rfl) ?_
  refine lv_iconst (v := 0) hx hb dL_isVoice_10 (by decide) ?_
  obtain ⟨r52, M53, e_51, hf⟩ := zb_e hf
  refine c_Vi hx hb hml hown hts hV hK hM hS (As := [.int p5, .int 0]) (rest := []) (k_X8_saying G hG l a0 h0 p5 0 M e_51) w_X8_saying (tk_302 hts) (c_9 h0) rfl rfl ⟨⟨rfl, rfl⟩, Nat.le_of_ble_eq_true rfl, Nat.le_of_ble_eq_true rfl⟩ ⟨Nat.zero_le _, Nat.zero_le _⟩ rfl hl.1 rfl (Nat.le_of_ble_eq_true rfl) dL_isVoice_11 (fun H locs hM hS => ?_)
  refine lv_aload_n hx hb dL_isVoice_14 rfl (lv_at hl 2 rfl) ?_
  refine lv_iload hx hb dL_isVoice_15 (lv_at hl 0 rfl) ?_
  obtain ⟨h_54, hf⟩ := gd_e hf
  refine s_iald 60 hx hb hK hM h1 (by decide) h_54 dL_isVoice_17 ?_
  obtain ⟨h_55, hf⟩ := gd_e hf
  refine lv_icmp_ne (tgt := 176) hx hb dL_isVoice_18 (by decide) (fun g => absurd h_55 g) (fun _ => ?_)
  refine lv_aload_n hx hb dL_isVoice_21 rfl (lv_at hl 1 rfl) ?_
  refine lv_iload hx hb dL_isVoice_22 (lv_at hl 6 rfl) ?_
  refine lv_iconst (v := 1) hx hb dL_isVoice_24 (by decide) ?_
  obtain ⟨r57, M58, e_56, hf⟩ := zb_e hf
  refine c_Vi hx hb hml hown hts hV hK hM hS (As := [.int p5, .int 1]) (rest := []) (k_X8_saying G hG l a0 h0 p5 1 M53 e_56) w_X8_saying (tk_302 hts) (c_9 h0) rfl rfl ⟨⟨rfl, rfl⟩, Nat.le_of_ble_eq_true rfl, Nat.le_of_ble_eq_true rfl⟩ ⟨Nat.zero_le _, Nat.zero_le _⟩ rfl hl.1 rfl (Nat.le_of_ble_eq_true rfl) dL_isVoice_25 (fun H locs hM hS => ?_)
  refine lv_aload_n hx hb dL_isVoice_28 rfl (lv_at hl 2 rfl) ?_
  refine lv_iload hx hb dL_isVoice_29 (lv_at hl 0 rfl) ?_
  refine lv_iconst (v := 1) hx hb dL_isVoice_31 (by decide) ?_
  refine lv_iadd hx hb dL_isVoice_32 ?_
  obtain ⟨h_59, hf⟩ := gd_e hf
  refine s_iald 60 hx hb hK hM h1 (by decide) h_59 dL_isVoice_33 ?_
  obtain ⟨h_60, hf⟩ := gd_e hf
  refine lv_icmp_ne (tgt := 176) hx hb dL_isVoice_34 (by decide) (fun g => absurd h_60 g) (fun _ => ?_)
  refine lv_aload_n hx hb dL_isVoice_37 rfl (lv_at hl 1 rfl) ?_
  refine lv_iload hx hb dL_isVoice_38 (lv_at hl 6 rfl) ?_
  refine lv_iconst (v := 2) hx hb dL_isVoice_40 (by decide) ?_
  obtain ⟨r62, M63, e_61, hf⟩ := zb_e hf
  refine c_Vi hx hb hml hown hts hV hK hM hS (As := [.int p5, .int 2]) (rest := []) (k_X8_saying G hG l a0 h0 p5 2 M58 e_61) w_X8_saying (tk_302 hts) (c_9 h0) rfl rfl ⟨⟨rfl, rfl⟩, Nat.le_of_ble_eq_true rfl, Nat.le_of_ble_eq_true rfl⟩ ⟨Nat.zero_le _, Nat.zero_le _⟩ rfl hl.1 rfl (Nat.le_of_ble_eq_true rfl) dL_isVoice_41 (fun H locs hM hS => ?_)
  refine lv_aload_n hx hb dL_isVoice_44 rfl (lv_at hl 2 rfl) ?_
  refine lv_iload hx hb dL_isVoice_45 (lv_at hl 0 rfl) ?_
  refine lv_iconst (v := 1) hx hb dL_isVoice_47 (by decide) ?_
  refine lv_iadd hx hb dL_isVoice_48 ?_
  obtain ⟨h_64, hf⟩ := gd_e hf
  refine s_iald 60 hx hb hK hM h1 (by decide) h_64 dL_isVoice_49 ?_
  obtain ⟨r66, e_65, hf⟩ := vb_e hf
  refine c_Si hx hb hml hown hts hV hM hS (As := [.int (mI M63 a1 (y50 + 1).toNatClampNeg)]) (rest := [.int r62]) (k_L_step G hG l (mI M63 a1 (y50 + 1).toNatClampNeg) M63 e_65) w_L_step (tk_439 hts) ⟨⟨rfl, rfl⟩, Nat.le_of_ble_eq_true rfl, Nat.le_of_ble_eq_true rfl⟩ ⟨Nat.zero_le _, Nat.zero_le _⟩ rfl hl.1 rfl (Nat.le_of_ble_eq_true rfl) dL_isVoice_50 (fun H locs hM hS => ?_)
  obtain ⟨h_67, hf⟩ := gd_e hf
  refine lv_icmp_ne (tgt := 176) hx hb dL_isVoice_53 (by decide) (fun g => absurd h_67 g) (fun _ => ?_)
  refine lv_aload_n hx hb dL_isVoice_56 rfl (lv_at hl 1 rfl) ?_
  refine lv_iload hx hb dL_isVoice_57 (lv_at hl 6 rfl) ?_
  refine lv_iconst (v := 3) hx hb dL_isVoice_59 (by decide) ?_
  obtain ⟨r69, M70, e_68, hf⟩ := zb_e hf
  refine c_Vi hx hb hml hown hts hV hK hM hS (As := [.int p5, .int 3]) (rest := []) (k_X8_saying G hG l a0 h0 p5 3 M63 e_68) w_X8_saying (tk_302 hts) (c_9 h0) rfl rfl ⟨⟨rfl, rfl⟩, Nat.le_of_ble_eq_true rfl, Nat.le_of_ble_eq_true rfl⟩ ⟨Nat.zero_le _, Nat.zero_le _⟩ rfl hl.1 rfl (Nat.le_of_ble_eq_true rfl) dL_isVoice_60 (fun H locs hM hS => ?_)
  refine lv_aload_n hx hb dL_isVoice_63 rfl (lv_at hl 2 rfl) ?_
  refine lv_iload hx hb dL_isVoice_64 (lv_at hl 0 rfl) ?_
  refine lv_iconst (v := 2) hx hb dL_isVoice_66 (by decide) ?_
  refine lv_iadd hx hb dL_isVoice_67 ?_
  obtain ⟨h_71, hf⟩ := gd_e hf
  refine s_iald 60 hx hb hK hM h1 (by decide) h_71 dL_isVoice_68 ?_
  obtain ⟨h_72, hf⟩ := gd_e hf
  refine lv_icmp_ne (tgt := 176) hx hb dL_isVoice_69 (by decide) (fun g => absurd h_72 g) (fun _ => ?_)
  refine lv_aload_n hx hb dL_isVoice_72 rfl (lv_at hl 1 rfl) ?_
  refine lv_iload hx hb dL_isVoice_73 (lv_at hl 6 rfl) ?_
  refine lv_iconst (v := 4) hx hb dL_isVoice_75 (by decide) ?_
  obtain ⟨r74, M75, e_73, hf⟩ := zb_e hf
  refine c_Vi hx hb hml hown hts hV hK hM hS (As := [.int p5, .int 4]) (rest := []) (k_X8_saying G hG l a0 h0 p5 4 M70 e_73) w_X8_saying (tk_302 hts) (c_9 h0) rfl rfl ⟨⟨rfl, rfl⟩, Nat.le_of_ble_eq_true rfl, Nat.le_of_ble_eq_true rfl⟩ ⟨Nat.zero_le _, Nat.zero_le _⟩ rfl hl.1 rfl (Nat.le_of_ble_eq_true rfl) dL_isVoice_76 (fun H locs hM hS => ?_)
  refine lv_aload_n hx hb dL_isVoice_79 rfl (lv_at hl 2 rfl) ?_
  refine lv_iload hx hb dL_isVoice_80 (lv_at hl 0 rfl) ?_
  refine lv_iconst (v := 3) hx hb dL_isVoice_82 (by decide) ?_
  refine lv_iadd hx hb dL_isVoice_83 ?_
  obtain ⟨h_76, hf⟩ := gd_e hf
  refine s_iald 60 hx hb hK hM h1 (by decide) h_76 dL_isVoice_84 ?_
  obtain ⟨h_77, hf⟩ := gd_e hf
  refine lv_icmp_ne (tgt := 176) hx hb dL_isVoice_85 (by decide) (fun g => absurd h_77 g) (fun _ => ?_)
  refine lv_aload_n hx hb dL_isVoice_88 rfl (lv_at hl 1 rfl) ?_
  refine lv_iload hx hb dL_isVoice_89 (lv_at hl 6 rfl) ?_
  refine lv_iconst (v := 5) hx hb dL_isVoice_91 (by decide) ?_
  obtain ⟨r79, M80, e_78, hf⟩ := zb_e hf
  refine c_Vi hx hb hml hown hts hV hK hM hS (As := [.int p5, .int 5]) (rest := []) (k_X8_saying G hG l a0 h0 p5 5 M75 e_78) w_X8_saying (tk_302 hts) (c_9 h0) rfl rfl ⟨⟨rfl, rfl⟩, Nat.le_of_ble_eq_true rfl, Nat.le_of_ble_eq_true rfl⟩ ⟨Nat.zero_le _, Nat.zero_le _⟩ rfl hl.1 rfl (Nat.le_of_ble_eq_true rfl) dL_isVoice_92 (fun H locs hM hS => ?_)
  refine lv_aload_n hx hb dL_isVoice_95 rfl (lv_at hl 2 rfl) ?_
  refine lv_iload hx hb dL_isVoice_96 (lv_at hl 0 rfl) ?_
  refine lv_iconst (v := 4) hx hb dL_isVoice_98 (by decide) ?_
  refine lv_iadd hx hb dL_isVoice_99 ?_
  obtain ⟨h_81, hf⟩ := gd_e hf
  refine s_iald 60 hx hb hK hM h1 (by decide) h_81 dL_isVoice_100 ?_
  obtain ⟨h_82, hf⟩ := gd_e hf
  refine lv_icmp_ne (tgt := 176) hx hb dL_isVoice_101 (by decide) (fun g => absurd h_82 g) (fun _ => ?_)
  refine lv_aload_n hx hb dL_isVoice_104 rfl (lv_at hl 1 rfl) ?_
  refine lv_iload hx hb dL_isVoice_105 (lv_at hl 6 rfl) ?_
  refine lv_bipush (v := 6) hx hb dL_isVoice_107 (by decide) ?_
  obtain ⟨r84, M85, e_83, hf⟩ := zb_e hf
  refine c_Vi hx hb hml hown hts hV hK hM hS (As := [.int p5, .int 6]) (rest := []) (k_X8_saying G hG l a0 h0 p5 6 M80 e_83) w_X8_saying (tk_302 hts) (c_9 h0) rfl rfl ⟨⟨rfl, rfl⟩, Nat.le_of_ble_eq_true rfl, Nat.le_of_ble_eq_true rfl⟩ ⟨Nat.zero_le _, Nat.zero_le _⟩ rfl hl.1 rfl (Nat.le_of_ble_eq_true rfl) dL_isVoice_109 (fun H locs hM hS => ?_)
  refine lv_aload_n hx hb dL_isVoice_112 rfl (lv_at hl 2 rfl) ?_
  refine lv_iload hx hb dL_isVoice_113 (lv_at hl 0 rfl) ?_
  refine lv_iconst (v := 5) hx hb dL_isVoice_115 (by decide) ?_
  refine lv_iadd hx hb dL_isVoice_116 ?_
  obtain ⟨h_86, hf⟩ := gd_e hf
  refine s_iald 60 hx hb hK hM h1 (by decide) h_86 dL_isVoice_117 ?_
  obtain ⟨h_87, hf⟩ := gd_e hf
  refine lv_icmp_ne (tgt := 176) hx hb dL_isVoice_118 (by decide) (fun g => absurd h_87 g) (fun _ => ?_)
  refine lv_aload_n hx hb dL_isVoice_121 rfl (lv_at hl 1 rfl) ?_
  refine lv_iload hx hb dL_isVoice_122 (lv_at hl 6 rfl) ?_
  refine lv_bipush (v := 7) hx hb dL_isVoice_124 (by decide) ?_
  obtain ⟨r89, M90, e_88, hf⟩ := zb_e hf
  refine c_Vi hx hb hml hown hts hV hK hM hS (As := [.int p5, .int 7]) (rest := []) (k_X8_saying G hG l a0 h0 p5 7 M85 e_88) w_X8_saying (tk_302 hts) (c_9 h0) rfl rfl ⟨⟨rfl, rfl⟩, Nat.le_of_ble_eq_true rfl, Nat.le_of_ble_eq_true rfl⟩ ⟨Nat.zero_le _, Nat.zero_le _⟩ rfl hl.1 rfl (Nat.le_of_ble_eq_true rfl) dL_isVoice_126 (fun H locs hM hS => ?_)
  refine lv_aload_n hx hb dL_isVoice_129 rfl (lv_at hl 2 rfl) ?_
  refine lv_iload hx hb dL_isVoice_130 (lv_at hl 0 rfl) ?_
  refine lv_bipush (v := 6) hx hb dL_isVoice_132 (by decide) ?_
  refine lv_iadd hx hb dL_isVoice_134 ?_
  obtain ⟨h_91, hf⟩ := gd_e hf
  refine s_iald 60 hx hb hK hM h1 (by decide) h_91 dL_isVoice_135 ?_
  obtain ⟨h_92, hf⟩ := gd_e hf
  refine lv_icmp_ne (tgt := 176) hx hb dL_isVoice_136 (by decide) (fun g => absurd h_92 g) (fun _ => ?_)
  refine lv_aload_n hx hb dL_isVoice_139 rfl (lv_at hl 1 rfl) ?_
  refine lv_iload hx hb dL_isVoice_140 (lv_at hl 6 rfl) ?_
  refine lv_bipush (v := 8) hx hb dL_isVoice_142 (by decide) ?_
  obtain ⟨r94, M95, e_93, hf⟩ := zb_e hf
  refine c_Vi hx hb hml hown hts hV hK hM hS (As := [.int p5, .int 8]) (rest := []) (k_X8_saying G hG l a0 h0 p5 8 M90 e_93) w_X8_saying (tk_302 hts) (c_9 h0) rfl rfl ⟨⟨rfl, rfl⟩, Nat.le_of_ble_eq_true rfl, Nat.le_of_ble_eq_true rfl⟩ ⟨Nat.zero_le _, Nat.zero_le _⟩ rfl hl.1 rfl (Nat.le_of_ble_eq_true rfl) dL_isVoice_144 (fun H locs hM hS => ?_)
  refine lv_aload_n hx hb dL_isVoice_147 rfl (lv_at hl 2 rfl) ?_
  refine lv_iload hx hb dL_isVoice_148 (lv_at hl 0 rfl) ?_
  obtain ⟨h_96, hf⟩ := gd_e hf
  refine s_iald 60 hx hb hK hM h1 (by decide) h_96 dL_isVoice_150 ?_
  obtain ⟨h_97, hf⟩ := gd_e hf
  refine lv_icmp_ne (tgt := 176) hx hb dL_isVoice_151 (by decide) (fun g => absurd h_97 g) (fun _ => ?_)
  refine lv_aload_n hx hb dL_isVoice_154 rfl (lv_at hl 1 rfl) ?_
  refine lv_iload hx hb dL_isVoice_155 (lv_at hl 6 rfl) ?_
  refine lv_bipush (v := 9) hx hb dL_isVoice_157 (by decide) ?_
  obtain ⟨r99, M100, e_98, hf⟩ := zb_e hf
  refine c_Vi hx hb hml hown hts hV hK hM hS (As := [.int p5, .int 9]) (rest := []) (k_X8_saying G hG l a0 h0 p5 9 M95 e_98) w_X8_saying (tk_302 hts) (c_9 h0) rfl rfl ⟨⟨rfl, rfl⟩, Nat.le_of_ble_eq_true rfl, Nat.le_of_ble_eq_true rfl⟩ ⟨Nat.zero_le _, Nat.zero_le _⟩ rfl hl.1 rfl (Nat.le_of_ble_eq_true rfl) dL_isVoice_159 (fun H locs hM hS => ?_)
  refine lv_aload_n hx hb dL_isVoice_162 rfl (lv_at hl 2 rfl) ?_
  refine lv_iload hx hb dL_isVoice_163 (lv_at hl 0 rfl) ?_
  refine lv_bipush (v := 19) hx hb dL_isVoice_165 (by decide) ?_
  refine lv_iadd hx hb dL_isVoice_167 ?_
  obtain ⟨h_101, hf⟩ := gd_e hf
  refine s_iald 60 hx hb hK hM h1 (by decide) h_101 dL_isVoice_168 ?_
  obtain ⟨h_102, hf⟩ := gd_e hf
  refine lv_icmp_ne (tgt := 176) hx hb dL_isVoice_169 (by decide) (fun g => absurd h_102 g) (fun _ => ?_)
  refine lv_iconst (v := 1) hx hb dL_isVoice_172 (by decide) ?_
  refine lv_goto (tgt := 177) hx hb dL_isVoice_173 (by decide) ?_
  refine lv_istore (lv' := [(7, .int 1), (6, .int y50), (0, .ref a0), (1, .ref a1), (2, .ref a2), (3, .ref a3), (4, .ref a4), (5, .int p5)]) hx hb dL_isVoice_177 hl (by decide) rfl (fun ls hl => ?_)
  refine lv_iload hx hb dL_isVoice_179 (lv_at hl 0 rfl) ?_
  obtain ⟨h_103, hf⟩ := gd_e hf
  refine lv_if_eq (tgt := 397) hx hb dL_isVoice_181 (by decide) (fun g => absurd g h_103) (fun _ => ?_)
  refine lv_aload_n hx hb dL_isVoice_184 rfl (lv_at hl 2 rfl) ?_
  refine lv_iload hx hb dL_isVoice_185 (lv_at hl 7 rfl) ?_
  refine lv_iconst (v := 0) hx hb dL_isVoice_187 (by decide) ?_
  obtain ⟨r105, M106, e_104, hf⟩ := zb_e hf
  refine c_Vi hx hb hml hown hts hV hK hM hS (As := [.int p5, .int 0]) (rest := []) (k_X8_hearing G hG l a0 h0 p5 0 M100 e_104) w_X8_hearing (tk_442 hts) (c_9 h0) rfl rfl ⟨⟨rfl, rfl⟩, Nat.le_of_ble_eq_true rfl, Nat.le_of_ble_eq_true rfl⟩ ⟨Nat.zero_le _, Nat.zero_le _⟩ rfl hl.1 rfl (Nat.le_of_ble_eq_true rfl) dL_isVoice_188 (fun H locs hM hS => ?_)
  refine lv_aload_n hx hb dL_isVoice_191 rfl (lv_at hl 3 rfl) ?_
  refine lv_iload hx hb dL_isVoice_192 (lv_at hl 1 rfl) ?_
  refine lv_bipush (v := 10) hx hb dL_isVoice_194 (by decide) ?_
  refine lv_iadd hx hb dL_isVoice_196 ?_
  obtain ⟨h_107, hf⟩ := gd_e hf
  refine s_iald 60 hx hb hK hM h1 (by decide) h_107 dL_isVoice_197 ?_
  obtain ⟨h_108, hf⟩ := gd_e hf
  refine lv_icmp_ne (tgt := 397) hx hb dL_isVoice_198 (by decide) (fun g => absurd h_108 g) (fun _ => ?_)
  refine lv_aload_n hx hb dL_isVoice_201 rfl (lv_at hl 2 rfl) ?_
  refine lv_iload hx hb dL_isVoice_202 (lv_at hl 7 rfl) ?_
  refine lv_iconst (v := 1) hx hb dL_isVoice_204 (by decide) ?_
  obtain ⟨r110, M111, e_109, hf⟩ := zb_e hf
  refine c_Vi hx hb hml hown hts hV hK hM hS (As := [.int p5, .int 1]) (rest := []) (k_X8_hearing G hG l a0 h0 p5 1 M106 e_109) w_X8_hearing (tk_442 hts) (c_9 h0) rfl rfl ⟨⟨rfl, rfl⟩, Nat.le_of_ble_eq_true rfl, Nat.le_of_ble_eq_true rfl⟩ ⟨Nat.zero_le _, Nat.zero_le _⟩ rfl hl.1 rfl (Nat.le_of_ble_eq_true rfl) dL_isVoice_205 (fun H locs hM hS => ?_)
  refine lv_aload_n hx hb dL_isVoice_208 rfl (lv_at hl 3 rfl) ?_
  refine lv_iload hx hb dL_isVoice_209 (lv_at hl 1 rfl) ?_
  refine lv_bipush (v := 11) hx hb dL_isVoice_211 (by decide) ?_
  refine lv_iadd hx hb dL_isVoice_213 ?_
  obtain ⟨h_112, hf⟩ := gd_e hf
  refine s_iald 60 hx hb hK hM h1 (by decide) h_112 dL_isVoice_214 ?_
  obtain ⟨h_113, hf⟩ := gd_e hf
  refine lv_icmp_ne (tgt := 397) hx hb dL_isVoice_215 (by decide) (fun g => absurd h_113 g) (fun _ => ?_)
  refine lv_aload_n hx hb dL_isVoice_218 rfl (lv_at hl 2 rfl) ?_
  refine lv_iload hx hb dL_isVoice_219 (lv_at hl 7 rfl) ?_
  refine lv_iconst (v := 2) hx hb dL_isVoice_221 (by decide) ?_
  obtain ⟨r115, M116, e_114, hf⟩ := zb_e hf
  refine c_Vi hx hb hml hown hts hV hK hM hS (As := [.int p5, .int 2]) (rest := []) (k_X8_hearing G hG l a0 h0 p5 2 M111 e_114) w_X8_hearing (tk_442 hts) (c_9 h0) rfl rfl ⟨⟨rfl, rfl⟩, Nat.le_of_ble_eq_true rfl, Nat.le_of_ble_eq_true rfl⟩ ⟨Nat.zero_le _, Nat.zero_le _⟩ rfl hl.1 rfl (Nat.le_of_ble_eq_true rfl) dL_isVoice_222 (fun H locs hM hS => ?_)
  refine lv_aload_n hx hb dL_isVoice_225 rfl (lv_at hl 3 rfl) ?_
  refine lv_iload hx hb dL_isVoice_226 (lv_at hl 1 rfl) ?_
  refine lv_bipush (v := 11) hx hb dL_isVoice_228 (by decide) ?_
  refine lv_iadd hx hb dL_isVoice_230 ?_
  obtain ⟨h_117, hf⟩ := gd_e hf
  refine s_iald 60 hx hb hK hM h1 (by decide) h_117 dL_isVoice_231 ?_
  obtain ⟨r119, e_118, hf⟩ := vb_e hf
  refine c_Si hx hb hml hown hts hV hM hS (As := [.int (mI M116 a1 (y50 + 11).toNatClampNeg)]) (rest := [.int r115]) (k_L_step G hG l (mI M116 a1 (y50 + 11).toNatClampNeg) M116 e_118) w_L_step (tk_439 hts) ⟨⟨rfl, rfl⟩, Nat.le_of_ble_eq_true rfl, Nat.le_of_ble_eq_true rfl⟩ ⟨Nat.zero_le _, Nat.zero_le _⟩ rfl hl.1 rfl (Nat.le_of_ble_eq_true rfl) dL_isVoice_232 (fun H locs hM hS => ?_)
  obtain ⟨h_120, hf⟩ := gd_e hf
  refine lv_icmp_ne (tgt := 397) hx hb dL_isVoice_235 (by decide) (fun g => absurd h_120 g) (fun _ => ?_)
  refine lv_aload_n hx hb dL_isVoice_238 rfl (lv_at hl 2 rfl) ?_
  refine lv_iload hx hb dL_isVoice_239 (lv_at hl 7 rfl) ?_
  refine lv_iconst (v := 3) hx hb dL_isVoice_241 (by decide) ?_
  obtain ⟨r122, M123, e_121, hf⟩ := zb_e hf
  refine c_Vi hx hb hml hown hts hV hK hM hS (As := [.int p5, .int 3]) (rest := []) (k_X8_hearing G hG l a0 h0 p5 3 M116 e_121) w_X8_hearing (tk_442 hts) (c_9 h0) rfl rfl ⟨⟨rfl, rfl⟩, Nat.le_of_ble_eq_true rfl, Nat.le_of_ble_eq_true rfl⟩ ⟨Nat.zero_le _, Nat.zero_le _⟩ rfl hl.1 rfl (Nat.le_of_ble_eq_true rfl) dL_isVoice_242 (fun H locs hM hS => ?_)
  refine lv_aload_n hx hb dL_isVoice_245 rfl (lv_at hl 3 rfl) ?_
  refine lv_iload hx hb dL_isVoice_246 (lv_at hl 1 rfl) ?_
  refine lv_bipush (v := 12) hx hb dL_isVoice_248 (by decide) ?_
  refine lv_iadd hx hb dL_isVoice_250 ?_
  obtain ⟨h_124, hf⟩ := gd_e hf
  refine s_iald 60 hx hb hK hM h1 (by decide) h_124 dL_isVoice_251 ?_
  obtain ⟨h_125, hf⟩ := gd_e hf
  refine lv_icmp_ne (tgt := 397) hx hb dL_isVoice_252 (by decide) (fun g => absurd h_125 g) (fun _ => ?_)
  refine lv_aload_n hx hb dL_isVoice_255 rfl (lv_at hl 2 rfl) ?_
  refine lv_iload hx hb dL_isVoice_256 (lv_at hl 7 rfl) ?_
  refine lv_iconst (v := 4) hx hb dL_isVoice_258 (by decide) ?_
  obtain ⟨r127, M128, e_126, hf⟩ := zb_e hf
  refine c_Vi hx hb hml hown hts hV hK hM hS (As := [.int p5, .int 4]) (rest := []) (k_X8_hearing G hG l a0 h0 p5 4 M123 e_126) w_X8_hearing (tk_442 hts) (c_9 h0) rfl rfl ⟨⟨rfl, rfl⟩, Nat.le_of_ble_eq_true rfl, Nat.le_of_ble_eq_true rfl⟩ ⟨Nat.zero_le _, Nat.zero_le _⟩ rfl hl.1 rfl (Nat.le_of_ble_eq_true rfl) dL_isVoice_259 (fun H locs hM hS => ?_)
  refine lv_aload_n hx hb dL_isVoice_262 rfl (lv_at hl 3 rfl) ?_
  refine lv_iload hx hb dL_isVoice_263 (lv_at hl 1 rfl) ?_
  refine lv_bipush (v := 13) hx hb dL_isVoice_265 (by decide) ?_
  refine lv_iadd hx hb dL_isVoice_267 ?_
  obtain ⟨h_129, hf⟩ := gd_e hf
  refine s_iald 60 hx hb hK hM h1 (by decide) h_129 dL_isVoice_268 ?_
  obtain ⟨h_130, hf⟩ := gd_e hf
  refine lv_icmp_ne (tgt := 397) hx hb dL_isVoice_269 (by decide) (fun g => absurd h_130 g) (fun _ => ?_)
  refine lv_aload_n hx hb dL_isVoice_272 rfl (lv_at hl 2 rfl) ?_
  refine lv_iload hx hb dL_isVoice_273 (lv_at hl 7 rfl) ?_
  refine lv_iconst (v := 5) hx hb dL_isVoice_275 (by decide) ?_
  obtain ⟨r132, M133, e_131, hf⟩ := zb_e hf
  refine c_Vi hx hb hml hown hts hV hK hM hS (As := [.int p5, .int 5]) (rest := []) (k_X8_hearing G hG l a0 h0 p5 5 M128 e_131) w_X8_hearing (tk_442 hts) (c_9 h0) rfl rfl ⟨⟨rfl, rfl⟩, Nat.le_of_ble_eq_true rfl, Nat.le_of_ble_eq_true rfl⟩ ⟨Nat.zero_le _, Nat.zero_le _⟩ rfl hl.1 rfl (Nat.le_of_ble_eq_true rfl) dL_isVoice_276 (fun H locs hM hS => ?_)
  refine lv_aload_n hx hb dL_isVoice_279 rfl (lv_at hl 3 rfl) ?_
  refine lv_iload hx hb dL_isVoice_280 (lv_at hl 1 rfl) ?_
  refine lv_bipush (v := 14) hx hb dL_isVoice_282 (by decide) ?_
  refine lv_iadd hx hb dL_isVoice_284 ?_
  obtain ⟨h_134, hf⟩ := gd_e hf
  refine s_iald 60 hx hb hK hM h1 (by decide) h_134 dL_isVoice_285 ?_
  obtain ⟨h_135, hf⟩ := gd_e hf
  refine lv_icmp_ne (tgt := 397) hx hb dL_isVoice_286 (by decide) (fun g => absurd h_135 g) (fun _ => ?_)
  refine lv_aload_n hx hb dL_isVoice_289 rfl (lv_at hl 2 rfl) ?_
  refine lv_iload hx hb dL_isVoice_290 (lv_at hl 7 rfl) ?_
  refine lv_bipush (v := 6) hx hb dL_isVoice_292 (by decide) ?_
  obtain ⟨r137, M138, e_136, hf⟩ := zb_e hf
  refine c_Vi hx hb hml hown hts hV hK hM hS (As := [.int p5, .int 6]) (rest := []) (k_X8_hearing G hG l a0 h0 p5 6 M133 e_136) w_X8_hearing (tk_442 hts) (c_9 h0) rfl rfl ⟨⟨rfl, rfl⟩, Nat.le_of_ble_eq_true rfl, Nat.le_of_ble_eq_true rfl⟩ ⟨Nat.zero_le _, Nat.zero_le _⟩ rfl hl.1 rfl (Nat.le_of_ble_eq_true rfl) dL_isVoice_294 (fun H locs hM hS => ?_)
  refine lv_aload_n hx hb dL_isVoice_297 rfl (lv_at hl 3 rfl) ?_
  refine lv_iload hx hb dL_isVoice_298 (lv_at hl 1 rfl) ?_
  refine lv_bipush (v := 15) hx hb dL_isVoice_300 (by decide) ?_
  refine lv_iadd hx hb dL_isVoice_302 ?_
  obtain ⟨h_139, hf⟩ := gd_e hf
  refine s_iald 60 hx hb hK hM h1 (by decide) h_139 dL_isVoice_303 ?_
  obtain ⟨h_140, hf⟩ := gd_e hf
  refine lv_icmp_ne (tgt := 397) hx hb dL_isVoice_304 (by decide) (fun g => absurd h_140 g) (fun _ => ?_)
  refine lv_aload_n hx hb dL_isVoice_307 rfl (lv_at hl 2 rfl) ?_
  refine lv_iload hx hb dL_isVoice_308 (lv_at hl 7 rfl) ?_
  refine lv_bipush (v := 7) hx hb dL_isVoice_310 (by decide) ?_
  obtain ⟨r142, M143, e_141, hf⟩ := zb_e hf
  refine c_Vi hx hb hml hown hts hV hK hM hS (As := [.int p5, .int 7]) (rest := []) (k_X8_hearing G hG l a0 h0 p5 7 M138 e_141) w_X8_hearing (tk_442 hts) (c_9 h0) rfl rfl ⟨⟨rfl, rfl⟩, Nat.le_of_ble_eq_true rfl, Nat.le_of_ble_eq_true rfl⟩ ⟨Nat.zero_le _, Nat.zero_le _⟩ rfl hl.1 rfl (Nat.le_of_ble_eq_true rfl) dL_isVoice_312 (fun H locs hM hS => ?_)
  refine lv_aload_n hx hb dL_isVoice_315 rfl (lv_at hl 3 rfl) ?_
  refine lv_iload hx hb dL_isVoice_316 (lv_at hl 1 rfl) ?_
  refine lv_bipush (v := 16) hx hb dL_isVoice_318 (by decide) ?_
  refine lv_iadd hx hb dL_isVoice_320 ?_
  obtain ⟨h_144, hf⟩ := gd_e hf
  refine s_iald 60 hx hb hK hM h1 (by decide) h_144 dL_isVoice_321 ?_
  obtain ⟨h_145, hf⟩ := gd_e hf
  refine lv_icmp_ne (tgt := 397) hx hb dL_isVoice_322 (by decide) (fun g => absurd h_145 g) (fun _ => ?_)
  refine lv_aload_n hx hb dL_isVoice_325 rfl (lv_at hl 2 rfl) ?_
  refine lv_iload hx hb dL_isVoice_326 (lv_at hl 7 rfl) ?_
  refine lv_bipush (v := 8) hx hb dL_isVoice_328 (by decide) ?_
  obtain ⟨r147, M148, e_146, hf⟩ := zb_e hf
  refine c_Vi hx hb hml hown hts hV hK hM hS (As := [.int p5, .int 8]) (rest := []) (k_X8_hearing G hG l a0 h0 p5 8 M143 e_146) w_X8_hearing (tk_442 hts) (c_9 h0) rfl rfl ⟨⟨rfl, rfl⟩, Nat.le_of_ble_eq_true rfl, Nat.le_of_ble_eq_true rfl⟩ ⟨Nat.zero_le _, Nat.zero_le _⟩ rfl hl.1 rfl (Nat.le_of_ble_eq_true rfl) dL_isVoice_330 (fun H locs hM hS => ?_)
  refine lv_aload_n hx hb dL_isVoice_333 rfl (lv_at hl 3 rfl) ?_
  refine lv_iload hx hb dL_isVoice_334 (lv_at hl 1 rfl) ?_
  refine lv_bipush (v := 17) hx hb dL_isVoice_336 (by decide) ?_
  refine lv_iadd hx hb dL_isVoice_338 ?_
  obtain ⟨h_149, hf⟩ := gd_e hf
  refine s_iald 60 hx hb hK hM h1 (by decide) h_149 dL_isVoice_339 ?_
  obtain ⟨h_150, hf⟩ := gd_e hf
  refine lv_icmp_ne (tgt := 397) hx hb dL_isVoice_340 (by decide) (fun g => absurd h_150 g) (fun _ => ?_)
  refine lv_aload_n hx hb dL_isVoice_343 rfl (lv_at hl 2 rfl) ?_
  refine lv_iload hx hb dL_isVoice_344 (lv_at hl 7 rfl) ?_
  refine lv_bipush (v := 9) hx hb dL_isVoice_346 (by decide) ?_
  obtain ⟨r152, M153, e_151, hf⟩ := zb_e hf
  refine c_Vi hx hb hml hown hts hV hK hM hS (As := [.int p5, .int 9]) (rest := []) (k_X8_hearing G hG l a0 h0 p5 9 M148 e_151) w_X8_hearing (tk_442 hts) (c_9 h0) rfl rfl ⟨⟨rfl, rfl⟩, Nat.le_of_ble_eq_true rfl, Nat.le_of_ble_eq_true rfl⟩ ⟨Nat.zero_le _, Nat.zero_le _⟩ rfl hl.1 rfl (Nat.le_of_ble_eq_true rfl) dL_isVoice_348 (fun H locs hM hS => ?_)
  refine lv_aload_n hx hb dL_isVoice_351 rfl (lv_at hl 3 rfl) ?_
  refine lv_iload hx hb dL_isVoice_352 (lv_at hl 1 rfl) ?_
  refine lv_bipush (v := 18) hx hb dL_isVoice_354 (by decide) ?_
  refine lv_iadd hx hb dL_isVoice_356 ?_
  obtain ⟨h_154, hf⟩ := gd_e hf
  refine s_iald 60 hx hb hK hM h1 (by decide) h_154 dL_isVoice_357 ?_
  obtain ⟨h_155, hf⟩ := gd_e hf
  refine lv_icmp_ne (tgt := 397) hx hb dL_isVoice_358 (by decide) (fun g => absurd h_155 g) (fun _ => ?_)
  refine lv_aload_n hx hb dL_isVoice_361 rfl (lv_at hl 2 rfl) ?_
  refine lv_iload hx hb dL_isVoice_362 (lv_at hl 7 rfl) ?_
  refine lv_bipush (v := 10) hx hb dL_isVoice_364 (by decide) ?_
  obtain ⟨r157, M158, e_156, hf⟩ := zb_e hf
  refine c_Vi hx hb hml hown hts hV hK hM hS (As := [.int p5, .int 10]) (rest := []) (k_X8_hearing G hG l a0 h0 p5 10 M153 e_156) w_X8_hearing (tk_442 hts) (c_9 h0) rfl rfl ⟨⟨rfl, rfl⟩, Nat.le_of_ble_eq_true rfl, Nat.le_of_ble_eq_true rfl⟩ ⟨Nat.zero_le _, Nat.zero_le _⟩ rfl hl.1 rfl (Nat.le_of_ble_eq_true rfl) dL_isVoice_366 (fun H locs hM hS => ?_)
  refine lv_aload_n hx hb dL_isVoice_369 rfl (lv_at hl 4 rfl) ?_
  refine lv_iload hx hb dL_isVoice_370 (lv_at hl 7 rfl) ?_
  obtain ⟨h_159, hf⟩ := gd_e hf
  refine s_iald 14 hx hb hK hM h2 (by decide) h_159 dL_isVoice_372 ?_
  obtain ⟨h_160, hf⟩ := gd_e hf
  refine lv_icmp_ne (tgt := 397) hx hb dL_isVoice_373 (by decide) (fun g => absurd h_160 g) (fun _ => ?_)
  refine lv_aload_n hx hb dL_isVoice_376 rfl (lv_at hl 2 rfl) ?_
  refine lv_iload hx hb dL_isVoice_377 (lv_at hl 7 rfl) ?_
  refine lv_bipush (v := 11) hx hb dL_isVoice_379 (by decide) ?_
  obtain ⟨r162, M163, e_161, hf⟩ := zb_e hf
  refine c_Vi hx hb hml hown hts hV hK hM hS (As := [.int p5, .int 11]) (rest := []) (k_X8_hearing G hG l a0 h0 p5 11 M158 e_161) w_X8_hearing (tk_442 hts) (c_9 h0) rfl rfl ⟨⟨rfl, rfl⟩, Nat.le_of_ble_eq_true rfl, Nat.le_of_ble_eq_true rfl⟩ ⟨Nat.zero_le _, Nat.zero_le _⟩ rfl hl.1 rfl (Nat.le_of_ble_eq_true rfl) dL_isVoice_381 (fun H locs hM hS => ?_)
  refine lv_aload_n hx hb dL_isVoice_384 rfl (lv_at hl 4 rfl) ?_
  refine lv_iconst (v := 3) hx hb dL_isVoice_385 (by decide) ?_
  refine lv_iload hx hb dL_isVoice_386 (lv_at hl 7 rfl) ?_
  refine lv_iadd hx hb dL_isVoice_388 ?_
  obtain ⟨h_164, hf⟩ := gd_e hf
  refine s_iald 14 hx hb hK hM h2 (by decide) h_164 dL_isVoice_389 ?_
  obtain ⟨h_165, hf⟩ := gd_e hf
  refine lv_icmp_ne (tgt := 397) hx hb dL_isVoice_390 (by decide) (fun g => absurd h_165 g) (fun _ => ?_)
  refine lv_iconst (v := 1) hx hb dL_isVoice_393 (by decide) ?_
  refine lv_goto (tgt := 398) hx hb dL_isVoice_394 (by decide) ?_
  refine lv_istore (lv' := [(7, .int 1), (6, .int y50), (0, .ref a0), (1, .ref a1), (2, .ref a2), (3, .ref a3), (4, .ref a4), (5, .int p5)]) hx hb dL_isVoice_398 hl (by decide) rfl (fun ls hl => ?_)
  refine lv_iconst (v := 0) hx hb dL_isVoice_400 (by decide) ?_
  refine lv_istore (lv' := [(8, .int 0), (7, .int 1), (6, .int y50), (0, .ref a0), (1, .ref a1), (2, .ref a2), (3, .ref a3), (4, .ref a4), (5, .int p5)]) hx hb dL_isVoice_401 hl (by decide) rfl (fun ls hl => ?_)
  exact b403 _ y50 1 0 _ H locs ls hM hS (lv_sub hl [3, 4, 5, 6, 7, 8, 2, 1, 0] rfl) hf
def f_L_copy_b2 (n0 : Nat) (n1 : Nat) (a0 : Nat) (a1 : Nat) (p2 : Int32) : Nat → Int32 → Mem → Option Mem
  | 0, _, _ => none
  | n + 1, x3, M => if p2 ≤ x3 then (some M) else (gd (ix x3 n0) <| gd (ix x3 n1) <| nb (sI M a1 x3.toNatClampNeg (mI M a0 x3.toNatClampNeg)) fun M4 => nb (x3 + 1) fun y5 => f_L_copy_b2 n0 n1 a0 a1 p2 n y5 M4)
def f_L_copy (n0 : Nat) (n1 : Nat) (a0 : Nat) (a1 : Nat) (p2 : Int32) (M : Mem) : Option Mem := f_L_copy_b2 n0 n1 a0 a1 p2 lfuel 0 M
set_option maxHeartbeats 4000000 in
set_option maxRecDepth 100000 in
theorem k_L_copy (G : Gt) (hG : gOK G) (l : Launch) (n0 : Nat) (hn0 : n0 < 4000) (n1 : Nat) (hn1 : n1 < 4000) (a0 : Nat) (h0 : gK G a0 = 1000 + n0) (a1 : Nat) (h1 : gK G a1 = 1000 + n1) (p2 : Int32) (M : Mem) {M' : Mem} (hf : f_L_copy n0 n1 a0 a1 p2 M = some M') : Kc G l yL_copy cL_copy 4 none ({ frames := 0, cells := 0, slots := 0, locals := 0 } : Room) [.ref a0, .ref a1, .int p2] M none M' := by
  refine start (by decide) (Nat.le_of_ble_eq_true rfl) ?_
  intro p e s m args below meth c ls hx hb hr hown hml hlocks hts hV hM hl
  have hown : s.vm.findClass "FoldedVoicesLaw" = some m.cls := hown
  have hK := hG.1.moved hV
  have hS : va_S (gA G) s.heap s.heap [] := va_S.rf
  have hl : lv_has ls 4 [(0, .ref a0), (1, .ref a1), (2, .int p2)] := hl
  have hM0 := hM
  have b2 : ∀ (n : Nat), ∀ (x3 : Int32) (M : Mem) (H : Heap) (locs : List Loc) (ls : Array Slot), Mh G M H → va_S (gA G) s.heap H locs → lv_has ls 4 [(0, .ref a0), (1, .ref a1), (2, .int p2), (3, .int x3)] → f_L_copy_b2 n0 n1 a0 a1 p2 n x3 M = some M' → W p l e ({ frames := 0, cells := 0, slots := 0, locals := 0 } : Room) s m args below meth c H locs 0 0 (MQ below (QV G none M') args s 0 0 (gA G)) (F0 m 2 ls []) := by
    intro n
    induction n with
    | zero =>
      intro x3 M H locs ls hM hS hl hf
      rw [f_L_copy_b2] at hf
      cases hf
    | succ n ih =>
      intro x3 M H locs ls hM hS hl hf
      rw [f_L_copy_b2] at hf
      refine lv_iload_n hx hb dL_copy_2 rfl (lv_at hl 3 rfl) ?_
      refine lv_iload_n hx hb dL_copy_3 rfl (lv_at hl 2 rfl) ?_
      refine lv_icmp_ge (tgt := 19) hx hb dL_copy_4 (by decide) (fun g_1 => ?_) (fun g_1 => ?_)
      · rw [if_pos g_1] at hf
        exact ef_v hx hb hr hlocks hM hS hf dL_copy_19
      · rw [if_neg g_1] at hf
        refine lv_aload_n hx hb dL_copy_7 rfl (lv_at hl 1 rfl) ?_
        refine lv_iload_n hx hb dL_copy_8 rfl (lv_at hl 3 rfl) ?_
        refine lv_aload_n hx hb dL_copy_9 rfl (lv_at hl 0 rfl) ?_
        refine lv_iload_n hx hb dL_copy_10 rfl (lv_at hl 3 rfl) ?_
        obtain ⟨h_2, hf⟩ := gd_e hf
        refine s_iald n0 hx hb hK hM h0 hn0 h_2 dL_copy_11 ?_
        obtain ⟨h_3, hf⟩ := gd_e hf
        obtain ⟨M4, eM4, hf⟩ := nb_e hf
        refine s_iast n1 hx hb hK hM hS h1 hn1 (ky_b hG h1 (by omega)) h_3 dL_copy_12 (fun H locs hM hS => ?_)
        rw [eM4] at hM
        obtain ⟨y5, ey5, hf⟩ := nb_e hf
        refine lv_iinc (v := y5) (lv' := [(3, .int y5), (0, .ref a0), (1, .ref a1), (2, .int p2)]) hx hb dL_copy_13 hl (k := 3) rfl (by rw [← ey5]; rfl) (by decide) rfl (fun ls hl => ?_)
        refine lv_goto (tgt := 2) hx hb dL_copy_16 (by decide) ?_
        exact ih y5 _ H locs ls hM hS (lv_sub hl [1, 2, 3, 0] rfl) hf
  rw [f_L_copy] at hf
  obtain ⟨H, hHe⟩ : ∃ H, H = s.heap := ⟨_, rfl⟩
  obtain ⟨locs, hLe⟩ : ∃ L : List Loc, L = [] := ⟨_, rfl⟩
  rw [← hHe] at hM
  have hS : va_S (gA G) s.heap H locs := by rw [hHe, hLe]; exact va_S.rf
  suffices hW : W p l e ({ frames := 0, cells := 0, slots := 0, locals := 0 } : Room) s m args below meth c H locs 0 0 (MQ below (QV G none M') args s 0 0 (gA G)) (F0 m 0 ls []) by rw [hHe, hLe] at hW; exact hW
  refine lv_iconst (v := 0) hx hb dL_copy_0 (by decide) ?_
  refine lv_istore_n (lv' := [(3, .int 0), (0, .ref a0), (1, .ref a1), (2, .int p2)]) hx hb dL_copy_1 rfl hl (by decide) rfl (fun ls hl => ?_)
  exact b2 _ 0 _ H locs ls hM hS (lv_sub hl [1, 2, 3, 0] rfl) hf
