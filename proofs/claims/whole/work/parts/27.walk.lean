def f_X9_ofPacket_b100 (a0 : Nat) (p1 : Int32) (p2 : Int32) (p3 : Int32) : Nat → Int32 → Int32 → Int32 → Mem → Option Int32
  | 0, _, _, _, _ => none
  | n + 1, x4, x5, x6, M => gd (ix (x4 + 1) 626) <| if (mI M (a0 + 1) (x4 + 1).toNatClampNeg) ≤ x6 then (some x5) else (gd (ix ((x4 + 5) + x6) 626) <| nb (((16 : Int32) * x5) + (mI M (a0 + 1) ((x4 + 5) + x6).toNatClampNeg)) fun y4 => nb (x6 + 1) fun y5 => f_X9_ofPacket_b100 a0 p1 p2 p3 n x4 y4 y5 M)
def f_X9_ofPacket (a0 : Nat) (p1 : Int32) (p2 : Int32) (p3 : Int32) (M : Mem) : Option Int32 := vb (f_X9_packetAt p1 p2 M) fun r7 => if p3 = 0 then (gd (ix (r7 + 0) 626) <| some (mI M (a0 + 1) (r7 + 0).toNatClampNeg)) else (if p3 = 1 then (gd (ix (r7 + 1) 626) <| some (mI M (a0 + 1) (r7 + 1).toNatClampNeg)) else (if p3 = 2 then (gd (ix (r7 + 2) 626) <| some (mI M (a0 + 1) (r7 + 2).toNatClampNeg)) else (if p3 = 3 then (gd (ix (r7 + 3) 626) <| some (mI M (a0 + 1) (r7 + 3).toNatClampNeg)) else (if p3 = 4 then (gd (ix (r7 + 4) 626) <| some (mI M (a0 + 1) (r7 + 4).toNatClampNeg)) else (f_X9_ofPacket_b100 a0 p1 p2 p3 lfuel r7 0 0 M)))))
set_option maxHeartbeats 4000000 in
set_option maxRecDepth 100000 in
theorem k_X9_ofPacket (G : Gt) (hG : gOK G) (l : Launch) (a0 : Nat) (h0 : gK G a0 = 10) (p1 : Int32) (p2 : Int32) (p3 : Int32) (M : Mem) {r : Int32} (hf : f_X9_ofPacket a0 p1 p2 p3 M = some r) : Kc G l yX9_ofPacket cX9_ofPacket 7 (some .int) ({ frames := 1, cells := 0, slots := 0, locals := 21 } : Room) [.ref a0, .int p1, .int p2, .int p3] M (some (.int r)) M := by
  refine start (by decide) (Nat.le_of_ble_eq_true rfl) ?_
  intro p e s m args below meth c ls hx hb hr hown hml hlocks hts hV hM hl
  have hown : s.vm.findClass "FoldedVoicesModel" = some m.cls := hown
  have hK := hG.1.moved hV
  have hS : va_S (gA G) s.heap s.heap [] := va_S.rf
  have hl : lv_has ls 7 [(0, .ref a0), (1, .int p1), (2, .int p2), (3, .int p3)] := hl
  have hM0 := hM
  have b100 : ∀ (n : Nat), ∀ (x4 : Int32) (x5 : Int32) (x6 : Int32) (M : Mem) (H : Heap) (locs : List Loc) (ls : Array Slot), Mh G M H → va_S (gA G) s.heap H locs → lv_has ls 7 [(0, .ref a0), (1, .int p1), (2, .int p2), (3, .int p3), (4, .int x4), (5, .int x5), (6, .int x6)] → f_X9_ofPacket_b100 a0 p1 p2 p3 n x4 x5 x6 M = some r → W p l e ({ frames := 1, cells := 0, slots := 0, locals := 21 } : Room) s m args below meth c H locs 0 0 (MQ below (QV G (some (.int r)) M) args s 0 0 (gA G)) (F0 m 100 ls []) := by
    intro n
    induction n with
    | zero =>
      intro x4 x5 x6 M H locs ls hM hS hl hf
      rw [f_X9_ofPacket_b100] at hf
      cases hf
    | succ n ih =>
      intro x4 x5 x6 M H locs ls hM hS hl hf
      rw [f_X9_ofPacket_b100] at hf
      refine lv_iload hx hb dX9_ofPacket_100 (lv_at hl 6 rfl) ?_
      refine lv_aload_n hx hb dX9_ofPacket_102 rfl (lv_at hl 0 rfl) ?_
      refine s_get hx hb (lay_9 hts) hown hK hM (c_10 h0) rfl 0 (by decide) rfl rfl (tk_963 hts) dX9_ofPacket_103 ?_
      refine lv_iload hx hb dX9_ofPacket_106 (lv_at hl 4 rfl) ?_
      refine lv_iconst (v := 1) hx hb dX9_ofPacket_108 (by decide) ?_
      refine lv_iadd hx hb dX9_ofPacket_109 ?_
      obtain ⟨h_1, hf⟩ := gd_e hf
      refine s_iald 626 hx hb hK hM (ky_10_0 hG h0) (by decide) h_1 dX9_ofPacket_110 ?_
      refine lv_icmp_ge (tgt := 140) hx hb dX9_ofPacket_111 (by decide) (fun g_2 => ?_) (fun g_2 => ?_)
      · rw [if_pos g_2] at hf
        refine lv_iload hx hb dX9_ofPacket_140 (lv_at hl 5 rfl) ?_
        exact ef_ip hx hb hr hlocks hM hS hf dX9_ofPacket_142
      · rw [if_neg g_2] at hf
        refine lv_bipush (v := 16) hx hb dX9_ofPacket_114 (by decide) ?_
        refine lv_iload hx hb dX9_ofPacket_116 (lv_at hl 5 rfl) ?_
        refine lv_imul hx hb dX9_ofPacket_118 ?_
        refine lv_aload_n hx hb dX9_ofPacket_119 rfl (lv_at hl 0 rfl) ?_
        refine s_get hx hb (lay_9 hts) hown hK hM (c_10 h0) rfl 0 (by decide) rfl rfl (tk_963 hts) dX9_ofPacket_120 ?_
        refine lv_iload hx hb dX9_ofPacket_123 (lv_at hl 4 rfl) ?_
        refine lv_iconst (v := 5) hx hb dX9_ofPacket_125 (by decide) ?_
        refine lv_iadd hx hb dX9_ofPacket_126 ?_
        refine lv_iload hx hb dX9_ofPacket_127 (lv_at hl 6 rfl) ?_
        refine lv_iadd hx hb dX9_ofPacket_129 ?_
        obtain ⟨h_3, hf⟩ := gd_e hf
        refine s_iald 626 hx hb hK hM (ky_10_0 hG h0) (by decide) h_3 dX9_ofPacket_130 ?_
        refine lv_iadd hx hb dX9_ofPacket_131 ?_
        obtain ⟨y4, ey4, hf⟩ := nb_e hf
        refine s_nm ey4 ?_
        refine lv_istore (lv' := [(5, .int y4), (0, .ref a0), (1, .int p1), (2, .int p2), (3, .int p3), (4, .int x4), (6, .int x6)]) hx hb dX9_ofPacket_132 hl (by decide) rfl (fun ls hl => ?_)
        obtain ⟨y5, ey5, hf⟩ := nb_e hf
        refine lv_iinc (v := y5) (lv' := [(6, .int y5), (5, .int y4), (0, .ref a0), (1, .int p1), (2, .int p2), (3, .int p3), (4, .int x4)]) hx hb dX9_ofPacket_134 hl (k := 6) rfl (by rw [← ey5]; rfl) (by decide) rfl (fun ls hl => ?_)
        refine lv_goto (tgt := 100) hx hb dX9_ofPacket_137 (by decide) ?_
        exact ih x4 y4 y5 _ H locs ls hM hS (lv_sub hl [2, 3, 4, 5, 6, 1, 0] rfl) hf
  rw [f_X9_ofPacket] at hf
  obtain ⟨H, hHe⟩ : ∃ H, H = s.heap := ⟨_, rfl⟩
  obtain ⟨locs, hLe⟩ : ∃ L : List Loc, L = [] := ⟨_, rfl⟩
  rw [← hHe] at hM
  have hS : va_S (gA G) s.heap H locs := by rw [hHe, hLe]; exact va_S.rf
  suffices hW : W p l e ({ frames := 1, cells := 0, slots := 0, locals := 21 } : Room) s m args below meth c H locs 0 0 (MQ below (QV G (some (.int r)) M) args s 0 0 (gA G)) (F0 m 0 ls []) by rw [hHe, hLe] at hW; exact hW
  refine lv_iload_n hx hb dX9_ofPacket_0 rfl (lv_at hl 1 rfl) ?_
  refine lv_iload_n hx hb dX9_ofPacket_1 rfl (lv_at hl 2 rfl) ?_
  obtain ⟨r7, e_6, hf⟩ := vb_e hf
  refine c_Si hx hb hml hown hts hV hM hS (As := [.int p1, .int p2]) (rest := []) (k_X9_packetAt G hG l p1 p2 M e_6) w_X9_packetAt (tk_1087 hts) ⟨⟨rfl, rfl⟩, Nat.le_of_ble_eq_true rfl, Nat.le_of_ble_eq_true rfl⟩ ⟨Nat.zero_le _, Nat.zero_le _⟩ rfl hl.1 rfl (Nat.le_of_ble_eq_true rfl) dX9_ofPacket_2 (fun H locs hM hS => ?_)
  refine lv_istore (lv' := [(4, .int r7), (0, .ref a0), (1, .int p1), (2, .int p2), (3, .int p3)]) hx hb dX9_ofPacket_5 hl (by decide) rfl (fun ls hl => ?_)
  refine lv_iload_n hx hb dX9_ofPacket_7 rfl (lv_at hl 4 rfl) ?_
  by_cases g_8 : p3 = 0
  · rw [if_pos g_8] at hf
    refine lv_tableIn (off := 36) (tgt := 44) hx hb dX9_ofPacket_8 (by rw [g_8]; decide) (by rw [g_8]; decide) (by rw [g_8]; rfl) (by decide) ?_
    refine lv_aload_n hx hb dX9_ofPacket_44 rfl (lv_at hl 1 rfl) ?_
    refine s_get hx hb (lay_9 hts) hown hK hM (c_10 h0) rfl 0 (by decide) rfl rfl (tk_963 hts) dX9_ofPacket_45 ?_
    refine lv_iload hx hb dX9_ofPacket_48 (lv_at hl 0 rfl) ?_
    refine lv_iconst (v := 0) hx hb dX9_ofPacket_50 (by decide) ?_
    refine lv_iadd hx hb dX9_ofPacket_51 ?_
    obtain ⟨h_9, hf⟩ := gd_e hf
    refine s_iald 626 hx hb hK hM (ky_10_0 hG h0) (by decide) h_9 dX9_ofPacket_52 ?_
    exact ef_ip hx hb hr hlocks hM hS hf dX9_ofPacket_53
  rw [if_neg g_8] at hf
  by_cases g_10 : p3 = 1
  · rw [if_pos g_10] at hf
    refine lv_tableIn (off := 46) (tgt := 54) hx hb dX9_ofPacket_8 (by rw [g_10]; decide) (by rw [g_10]; decide) (by rw [g_10]; rfl) (by decide) ?_
    refine lv_aload_n hx hb dX9_ofPacket_54 rfl (lv_at hl 1 rfl) ?_
    refine s_get hx hb (lay_9 hts) hown hK hM (c_10 h0) rfl 0 (by decide) rfl rfl (tk_963 hts) dX9_ofPacket_55 ?_
    refine lv_iload hx hb dX9_ofPacket_58 (lv_at hl 0 rfl) ?_
    refine lv_iconst (v := 1) hx hb dX9_ofPacket_60 (by decide) ?_
    refine lv_iadd hx hb dX9_ofPacket_61 ?_
    obtain ⟨h_11, hf⟩ := gd_e hf
    refine s_iald 626 hx hb hK hM (ky_10_0 hG h0) (by decide) h_11 dX9_ofPacket_62 ?_
    exact ef_ip hx hb hr hlocks hM hS hf dX9_ofPacket_63
  rw [if_neg g_10] at hf
  by_cases g_12 : p3 = 2
  · rw [if_pos g_12] at hf
    refine lv_tableIn (off := 56) (tgt := 64) hx hb dX9_ofPacket_8 (by rw [g_12]; decide) (by rw [g_12]; decide) (by rw [g_12]; rfl) (by decide) ?_
    refine lv_aload_n hx hb dX9_ofPacket_64 rfl (lv_at hl 1 rfl) ?_
    refine s_get hx hb (lay_9 hts) hown hK hM (c_10 h0) rfl 0 (by decide) rfl rfl (tk_963 hts) dX9_ofPacket_65 ?_
    refine lv_iload hx hb dX9_ofPacket_68 (lv_at hl 0 rfl) ?_
    refine lv_iconst (v := 2) hx hb dX9_ofPacket_70 (by decide) ?_
    refine lv_iadd hx hb dX9_ofPacket_71 ?_
    obtain ⟨h_13, hf⟩ := gd_e hf
    refine s_iald 626 hx hb hK hM (ky_10_0 hG h0) (by decide) h_13 dX9_ofPacket_72 ?_
    exact ef_ip hx hb hr hlocks hM hS hf dX9_ofPacket_73
  rw [if_neg g_12] at hf
  by_cases g_14 : p3 = 3
  · rw [if_pos g_14] at hf
    refine lv_tableIn (off := 66) (tgt := 74) hx hb dX9_ofPacket_8 (by rw [g_14]; decide) (by rw [g_14]; decide) (by rw [g_14]; rfl) (by decide) ?_
    refine lv_aload_n hx hb dX9_ofPacket_74 rfl (lv_at hl 1 rfl) ?_
    refine s_get hx hb (lay_9 hts) hown hK hM (c_10 h0) rfl 0 (by decide) rfl rfl (tk_963 hts) dX9_ofPacket_75 ?_
    refine lv_iload hx hb dX9_ofPacket_78 (lv_at hl 0 rfl) ?_
    refine lv_iconst (v := 3) hx hb dX9_ofPacket_80 (by decide) ?_
    refine lv_iadd hx hb dX9_ofPacket_81 ?_
    obtain ⟨h_15, hf⟩ := gd_e hf
    refine s_iald 626 hx hb hK hM (ky_10_0 hG h0) (by decide) h_15 dX9_ofPacket_82 ?_
    exact ef_ip hx hb hr hlocks hM hS hf dX9_ofPacket_83
  rw [if_neg g_14] at hf
  by_cases g_16 : p3 = 4
  · rw [if_pos g_16] at hf
    refine lv_tableIn (off := 76) (tgt := 84) hx hb dX9_ofPacket_8 (by rw [g_16]; decide) (by rw [g_16]; decide) (by rw [g_16]; rfl) (by decide) ?_
    refine lv_aload_n hx hb dX9_ofPacket_84 rfl (lv_at hl 1 rfl) ?_
    refine s_get hx hb (lay_9 hts) hown hK hM (c_10 h0) rfl 0 (by decide) rfl rfl (tk_963 hts) dX9_ofPacket_85 ?_
    refine lv_iload hx hb dX9_ofPacket_88 (lv_at hl 0 rfl) ?_
    refine lv_iconst (v := 4) hx hb dX9_ofPacket_90 (by decide) ?_
    refine lv_iadd hx hb dX9_ofPacket_91 ?_
    obtain ⟨h_17, hf⟩ := gd_e hf
    refine s_iald 626 hx hb hK hM (ky_10_0 hG h0) (by decide) h_17 dX9_ofPacket_92 ?_
    exact ef_ip hx hb hr hlocks hM hS hf dX9_ofPacket_93
  rw [if_neg g_16] at hf
  have tg_8 := lv_neT g_8 (show (0 : Int32).toInt = 0 from by decide)
  have tg_10 := lv_neT g_10 (show (1 : Int32).toInt = 1 from by decide)
  have tg_12 := lv_neT g_12 (show (2 : Int32).toInt = 2 from by decide)
  have tg_14 := lv_neT g_14 (show (3 : Int32).toInt = 3 from by decide)
  have tg_16 := lv_neT g_16 (show (4 : Int32).toInt = 4 from by decide)
  refine lv_tableOut (tgt := 94) hx hb dX9_ofPacket_8 (by omega) (by decide) ?_
  refine lv_iconst (v := 0) hx hb dX9_ofPacket_94 (by decide) ?_
  refine lv_istore (lv' := [(5, .int 0), (4, .int r7), (0, .ref a0), (1, .int p1), (2, .int p2), (3, .int p3)]) hx hb dX9_ofPacket_95 hl (by decide) rfl (fun ls hl => ?_)
  refine lv_iconst (v := 0) hx hb dX9_ofPacket_97 (by decide) ?_
  refine lv_istore (lv' := [(6, .int 0), (5, .int 0), (4, .int r7), (0, .ref a0), (1, .int p1), (2, .int p2), (3, .int p3)]) hx hb dX9_ofPacket_98 hl (by decide) rfl (fun ls hl => ?_)
  exact b100 _ r7 0 0 _ H locs ls hM hS (lv_sub hl [3, 4, 5, 6, 2, 1, 0] rfl) hf
def f_X9_packet_b29 (a0 : Nat) (p1 : Int32) (p2 : Int32) (p3 : Int32) (M : Mem) : Option (Int32 × Mem) := cb (f_X9_fails a0 1 M) fun r2 M3 => some (r2, M3)
def f_X9_packet (a0 : Nat) (p1 : Int32) (p2 : Int32) (p3 : Int32) (M : Mem) : Option (Int32 × Mem) := nb (sI M a0 7 0) fun M4 => vb (f_X9_isVoice p1 M4) fun r6 => if r6 = 0 then (f_X9_packet_b29 a0 p1 p2 p3 M4) else (vb (f_X9_of a0 p1 38 M4) fun r9 => vb (f_X9_in p2 0 (r9 - 1) M4) fun r11 => if r11 = 0 then (f_X9_packet_b29 a0 p1 p2 p3 M4) else (vb (f_X9_in p3 0 5 M4) fun r14 => if r14 = 0 then (cb (f_X9_fails a0 2 M4) fun r17 M18 => some (r17, M18)) else (vb (f_X9_ofPacket a0 p1 p2 p3 M4) fun r20 => some (r20, M4))))
set_option maxHeartbeats 4000000 in
set_option maxRecDepth 100000 in
theorem k_X9_packet (G : Gt) (hG : gOK G) (l : Launch) (a0 : Nat) (h0 : gK G a0 = 10) (p1 : Int32) (p2 : Int32) (p3 : Int32) (M : Mem) {r : Int32} {M' : Mem} (hf : f_X9_packet a0 p1 p2 p3 M = some (r, M')) : Kc G l yX9_packet cX9_packet 4 (some .int) ({ frames := 2, cells := 0, slots := 0, locals := 47 } : Room) [.ref a0, .int p1, .int p2, .int p3] M (some (.int r)) M' := by
  refine start (by decide) (Nat.le_of_ble_eq_true rfl) ?_
  intro p e s m args below meth c ls hx hb hr hown hml hlocks hts hV hM hl
  have hown : s.vm.findClass "FoldedVoicesModel" = some m.cls := hown
  have hK := hG.1.moved hV
  have hS : va_S (gA G) s.heap s.heap [] := va_S.rf
  have hl : lv_has ls 4 [(0, .ref a0), (1, .int p1), (2, .int p2), (3, .int p3)] := hl
  have hM0 := hM
  have b29 : ∀ (M : Mem) (H : Heap) (locs : List Loc) (ls : Array Slot), Mh G M H → va_S (gA G) s.heap H locs → lv_has ls 4 [(0, .ref a0), (1, .int p1), (2, .int p2), (3, .int p3)] → f_X9_packet_b29 a0 p1 p2 p3 M = some (r, M') → W p l e ({ frames := 2, cells := 0, slots := 0, locals := 47 } : Room) s m args below meth c H locs 0 0 (MQ below (QV G (some (.int r)) M') args s 0 0 (gA G)) (F0 m 29 ls []) := by
    intro M H locs ls hM hS hl hf
    rw [f_X9_packet_b29] at hf
    refine lv_aload_n hx hb dX9_packet_29 rfl (lv_at hl 0 rfl) ?_
    refine lv_iconst (v := 1) hx hb dX9_packet_30 (by decide) ?_
    obtain ⟨r2, M3, e_1, hf⟩ := cb_e hf
    refine c_Vi hx hb hml hown hts hV hK hM hS (As := [.int 1]) (rest := []) (k_X9_fails G hG l a0 h0 1 M e_1) w_X9_fails (tk_1026 hts) (c_10 h0) rfl rfl ⟨⟨rfl, rfl⟩, Nat.le_of_ble_eq_true rfl, Nat.le_of_ble_eq_true rfl⟩ ⟨Nat.zero_le _, Nat.zero_le _⟩ rfl hl.1 rfl (Nat.le_of_ble_eq_true rfl) dX9_packet_31 (fun H locs hM hS => ?_)
    exact ef_im hx hb hr hlocks hM hS hf dX9_packet_34
  rw [f_X9_packet] at hf
  obtain ⟨H, hHe⟩ : ∃ H, H = s.heap := ⟨_, rfl⟩
  obtain ⟨locs, hLe⟩ : ∃ L : List Loc, L = [] := ⟨_, rfl⟩
  rw [← hHe] at hM
  have hS : va_S (gA G) s.heap H locs := by rw [hHe, hLe]; exact va_S.rf
  suffices hW : W p l e ({ frames := 2, cells := 0, slots := 0, locals := 47 } : Room) s m args below meth c H locs 0 0 (MQ below (QV G (some (.int r)) M') args s 0 0 (gA G)) (F0 m 0 ls []) by rw [hHe, hLe] at hW; exact hW
  refine lv_aload_n hx hb dX9_packet_0 rfl (lv_at hl 0 rfl) ?_
  refine lv_iconst (v := 0) hx hb dX9_packet_1 (by decide) ?_
  obtain ⟨M4, eM4, hf⟩ := nb_e hf
  refine s_put tyX9 hx hb (lay_9 hts) tyX9_ok nmX9 hown hK hM hS (ky_b hG h0) (c_10 h0) rfl 7 (by decide) rfl rfl rfl (Nat.le_of_ble_eq_true rfl) (cp_9_7 h0) (fun _ h9 => cel_sI _ h9) hM.2.2.sI rfl (tk_970 hts) dX9_packet_2 (fun H locs hM hS => ?_)
  rw [eM4] at hM
  refine lv_iload_n hx hb dX9_packet_5 rfl (lv_at hl 1 rfl) ?_
  obtain ⟨r6, e_5, hf⟩ := vb_e hf
  refine c_Si hx hb hml hown hts hV hM hS (As := [.int p1]) (rest := []) (k_X9_isVoice G hG l p1 M4 e_5) w_X9_isVoice (tk_1020 hts) ⟨⟨rfl, rfl⟩, Nat.le_of_ble_eq_true rfl, Nat.le_of_ble_eq_true rfl⟩ ⟨Nat.zero_le _, Nat.zero_le _⟩ rfl hl.1 rfl (Nat.le_of_ble_eq_true rfl) dX9_packet_6 (fun H locs hM hS => ?_)
  refine lv_if_eq (tgt := 29) hx hb dX9_packet_9 (by decide) (fun g_7 => ?_) (fun g_7 => ?_)
  · rw [if_pos g_7] at hf
    exact b29 _ H locs ls hM hS (lv_sub hl [0, 1, 2, 3] rfl) hf
  · rw [if_neg g_7] at hf
    refine lv_iload_n hx hb dX9_packet_12 rfl (lv_at hl 2 rfl) ?_
    refine lv_iconst (v := 0) hx hb dX9_packet_13 (by decide) ?_
    refine lv_aload_n hx hb dX9_packet_14 rfl (lv_at hl 0 rfl) ?_
    refine lv_iload_n hx hb dX9_packet_15 rfl (lv_at hl 1 rfl) ?_
    refine lv_bipush (v := 38) hx hb dX9_packet_16 (by decide) ?_
    obtain ⟨r9, e_8, hf⟩ := vb_e hf
    refine c_Vi hx hb hml hown hts hV hK hM hS (As := [.int p1, .int 38]) (rest := [.int 0, .int p2]) (k_X9_of G hG l a0 h0 p1 38 M4 e_8) w_X9_of (tk_1037 hts) (c_10 h0) rfl rfl ⟨⟨rfl, rfl⟩, Nat.le_of_ble_eq_true rfl, Nat.le_of_ble_eq_true rfl⟩ ⟨Nat.zero_le _, Nat.zero_le _⟩ rfl hl.1 rfl (Nat.le_of_ble_eq_true rfl) dX9_packet_18 (fun H locs hM hS => ?_)
    refine lv_iconst (v := 1) hx hb dX9_packet_21 (by decide) ?_
    refine lv_isub hx hb dX9_packet_22 ?_
    obtain ⟨r11, e_10, hf⟩ := vb_e hf
    refine c_Si hx hb hml hown hts hV hM hS (As := [.int p2, .int 0, .int (r9 - 1)]) (rest := []) (k_X9_in G hG l p2 0 (r9 - 1) M4 e_10) w_X9_in (tk_1023 hts) ⟨⟨rfl, rfl⟩, Nat.le_of_ble_eq_true rfl, Nat.le_of_ble_eq_true rfl⟩ ⟨Nat.zero_le _, Nat.zero_le _⟩ rfl hl.1 rfl (Nat.le_of_ble_eq_true rfl) dX9_packet_23 (fun H locs hM hS => ?_)
    refine lv_if_ne (tgt := 35) hx hb dX9_packet_26 (by decide) (fun g_12 => ?_) (fun g_12 => ?_)
    · rw [if_neg g_12] at hf
      refine lv_iload_n hx hb dX9_packet_35 rfl (lv_at hl 3 rfl) ?_
      refine lv_iconst (v := 0) hx hb dX9_packet_36 (by decide) ?_
      refine lv_iconst (v := 5) hx hb dX9_packet_37 (by decide) ?_
      obtain ⟨r14, e_13, hf⟩ := vb_e hf
      refine c_Si hx hb hml hown hts hV hM hS (As := [.int p3, .int 0, .int 5]) (rest := []) (k_X9_in G hG l p3 0 5 M4 e_13) w_X9_in (tk_1023 hts) ⟨⟨rfl, rfl⟩, Nat.le_of_ble_eq_true rfl, Nat.le_of_ble_eq_true rfl⟩ ⟨Nat.zero_le _, Nat.zero_le _⟩ rfl hl.1 rfl (Nat.le_of_ble_eq_true rfl) dX9_packet_38 (fun H locs hM hS => ?_)
      refine lv_if_eq (tgt := 54) hx hb dX9_packet_41 (by decide) (fun g_15 => ?_) (fun g_15 => ?_)
      · rw [if_pos g_15] at hf
        refine lv_aload_n hx hb dX9_packet_54 rfl (lv_at hl 0 rfl) ?_
        refine lv_iconst (v := 2) hx hb dX9_packet_55 (by decide) ?_
        obtain ⟨r17, M18, e_16, hf⟩ := cb_e hf
        refine c_Vi hx hb hml hown hts hV hK hM hS (As := [.int 2]) (rest := []) (k_X9_fails G hG l a0 h0 2 M4 e_16) w_X9_fails (tk_1026 hts) (c_10 h0) rfl rfl ⟨⟨rfl, rfl⟩, Nat.le_of_ble_eq_true rfl, Nat.le_of_ble_eq_true rfl⟩ ⟨Nat.zero_le _, Nat.zero_le _⟩ rfl hl.1 rfl (Nat.le_of_ble_eq_true rfl) dX9_packet_56 (fun H locs hM hS => ?_)
        exact ef_im hx hb hr hlocks hM hS hf dX9_packet_59
      · rw [if_neg g_15] at hf
        refine lv_aload_n hx hb dX9_packet_44 rfl (lv_at hl 0 rfl) ?_
        refine lv_iload_n hx hb dX9_packet_45 rfl (lv_at hl 1 rfl) ?_
        refine lv_iload_n hx hb dX9_packet_46 rfl (lv_at hl 2 rfl) ?_
        refine lv_iload_n hx hb dX9_packet_47 rfl (lv_at hl 3 rfl) ?_
        obtain ⟨r20, e_19, hf⟩ := vb_e hf
        refine c_Vi hx hb hml hown hts hV hK hM hS (As := [.int p1, .int p2, .int p3]) (rest := []) (k_X9_ofPacket G hG l a0 h0 p1 p2 p3 M4 e_19) w_X9_ofPacket (tk_1221 hts) (c_10 h0) rfl rfl ⟨⟨rfl, rfl⟩, Nat.le_of_ble_eq_true rfl, Nat.le_of_ble_eq_true rfl⟩ ⟨Nat.zero_le _, Nat.zero_le _⟩ rfl hl.1 rfl (Nat.le_of_ble_eq_true rfl) dX9_packet_48 (fun H locs hM hS => ?_)
        refine lv_goto (tgt := 59) hx hb dX9_packet_51 (by decide) ?_
        exact ef_im hx hb hr hlocks hM hS hf dX9_packet_59
    · rw [if_pos g_12] at hf
      exact b29 _ H locs ls hM hS (lv_sub hl [0, 1, 2, 3] rfl) hf
def f_X9_deliverAll_b0 (a0 : Nat) (p1 : Int32) : Nat → Mem → Option Mem
  | 0, _ => none
  | n + 1, M => vb (f_X9_of a0 p1 38 M) fun r2 => if r2 ≤ 0 then (some M) else (cb (f_X9_deliverNow a0 p1 M) fun r5 M6 => f_X9_deliverAll_b0 a0 p1 n M6)
def f_X9_deliverAll (a0 : Nat) (p1 : Int32) (M : Mem) : Option Mem := f_X9_deliverAll_b0 a0 p1 lfuel M
set_option maxHeartbeats 4000000 in
set_option maxRecDepth 100000 in
theorem k_X9_deliverAll (G : Gt) (hG : gOK G) (l : Launch) (a0 : Nat) (h0 : gK G a0 = 10) (p1 : Int32) (M : Mem) {M' : Mem} (hf : f_X9_deliverAll a0 p1 M = some M') : Kc G l yX9_deliverAll cX9_deliverAll 3 none ({ frames := 4, cells := 0, slots := 0, locals := 100 } : Room) [.ref a0, .int p1] M none M' := by
  refine start (by decide) (Nat.le_of_ble_eq_true rfl) ?_
  intro p e s m args below meth c ls hx hb hr hown hml hlocks hts hV hM hl
  have hown : s.vm.findClass "FoldedVoicesModel" = some m.cls := hown
  have hK := hG.1.moved hV
  have hS : va_S (gA G) s.heap s.heap [] := va_S.rf
  have hl : lv_has ls 3 [(0, .ref a0), (1, .int p1)] := hl
  have hM0 := hM
  have b0 : ∀ (n : Nat), ∀ (M : Mem) (H : Heap) (locs : List Loc) (ls : Array Slot), Mh G M H → va_S (gA G) s.heap H locs → lv_has ls 3 [(0, .ref a0), (1, .int p1)] → f_X9_deliverAll_b0 a0 p1 n M = some M' → W p l e ({ frames := 4, cells := 0, slots := 0, locals := 100 } : Room) s m args below meth c H locs 0 0 (MQ below (QV G none M') args s 0 0 (gA G)) (F0 m 0 ls []) := by
    intro n
    induction n with
    | zero =>
      intro M H locs ls hM hS hl hf
      rw [f_X9_deliverAll_b0] at hf
      cases hf
    | succ n ih =>
      intro M H locs ls hM hS hl hf
      rw [f_X9_deliverAll_b0] at hf
      refine lv_aload_n hx hb dX9_deliverAll_0 rfl (lv_at hl 0 rfl) ?_
      refine lv_iload_n hx hb dX9_deliverAll_1 rfl (lv_at hl 1 rfl) ?_
      refine lv_bipush (v := 38) hx hb dX9_deliverAll_2 (by decide) ?_
      obtain ⟨r2, e_1, hf⟩ := vb_e hf
      refine c_Vi hx hb hml hown hts hV hK hM hS (As := [.int p1, .int 38]) (rest := []) (k_X9_of G hG l a0 h0 p1 38 M e_1) w_X9_of (tk_1037 hts) (c_10 h0) rfl rfl ⟨⟨rfl, rfl⟩, Nat.le_of_ble_eq_true rfl, Nat.le_of_ble_eq_true rfl⟩ ⟨Nat.zero_le _, Nat.zero_le _⟩ rfl hl.1 rfl (Nat.le_of_ble_eq_true rfl) dX9_deliverAll_4 (fun H locs hM hS => ?_)
      refine lv_if_le (tgt := 19) hx hb dX9_deliverAll_7 (by decide) (fun g_3 => ?_) (fun g_3 => ?_)
      · rw [if_pos g_3] at hf
        exact ef_v hx hb hr hlocks hM hS hf dX9_deliverAll_19
      · rw [if_neg g_3] at hf
        refine lv_aload_n hx hb dX9_deliverAll_10 rfl (lv_at hl 0 rfl) ?_
        refine lv_iload_n hx hb dX9_deliverAll_11 rfl (lv_at hl 1 rfl) ?_
        obtain ⟨r5, M6, e_4, hf⟩ := cb_e hf
        refine c_Vi hx hb hml hown hts hV hK hM hS (As := [.int p1]) (rest := []) (k_X9_deliverNow G hG l a0 h0 p1 M e_4) w_X9_deliverNow (tk_1098 hts) (c_10 h0) rfl rfl ⟨⟨rfl, rfl⟩, Nat.le_of_ble_eq_true rfl, Nat.le_of_ble_eq_true rfl⟩ ⟨Nat.zero_le _, Nat.zero_le _⟩ rfl hl.1 rfl (Nat.le_of_ble_eq_true rfl) dX9_deliverAll_12 (fun H locs hM hS => ?_)
        refine lv_istore_n (lv' := [(2, .int r5), (0, .ref a0), (1, .int p1)]) hx hb dX9_deliverAll_15 rfl hl (by decide) rfl (fun ls hl => ?_)
        refine lv_goto (tgt := 0) hx hb dX9_deliverAll_16 (by decide) ?_
        exact ih _ H locs ls hM hS (lv_sub hl [1, 2] rfl) hf
  rw [f_X9_deliverAll] at hf
  obtain ⟨H, hHe⟩ : ∃ H, H = s.heap := ⟨_, rfl⟩
  obtain ⟨locs, hLe⟩ : ∃ L : List Loc, L = [] := ⟨_, rfl⟩
  rw [← hHe] at hM
  have hS : va_S (gA G) s.heap H locs := by rw [hHe, hLe]; exact va_S.rf
  suffices hW : W p l e ({ frames := 4, cells := 0, slots := 0, locals := 100 } : Room) s m args below meth c H locs 0 0 (MQ below (QV G none M') args s 0 0 (gA G)) (F0 m 0 ls []) by rw [hHe, hLe] at hW; exact hW
  exact b0 _ _ H locs ls hM hS (lv_sub hl [0, 1] rfl) hf
def f_X9_reason_b144 (a0 : Nat) (p1 : Int32) (x4 : Int32) (xs0 : Int32) (M : Mem) : Option (Int32 × Mem) := vb (f_X9_putBack a0 M) fun M2 => if xs0 = 0 then (if x4 = 0 then (some (2, M2)) else (some (1, M2))) else (some (0, M2))
def f_X9_reason_b143 (a0 : Nat) (p1 : Int32) (x4 : Int32) (M : Mem) : Option (Int32 × Mem) := f_X9_reason_b144 a0 p1 x4 0 M
def f_X9_reason_b74 (a0 : Nat) (p1 : Int32) : Nat → Int32 → Int32 → Mem → Option (Int32 × Mem)
  | 0, _, _, _ => none
  | n + 1, x4, x5, M => vb (f_X9_of a0 p1 4 M) fun r6 => if r6 ≤ x5 then (vb (f_X9_of a0 p1 26 M) fun r9 => vb (f_X9_of a0 p1 0 M) fun r11 => if r9 = r11 then (vb (f_X9_of a0 p1 27 M) fun r14 => vb (f_X9_of a0 p1 1 M) fun r16 => if r14 = r16 then (f_X9_reason_b144 a0 p1 x4 1 M) else (f_X9_reason_b143 a0 p1 x4 M)) else (f_X9_reason_b143 a0 p1 x4 M)) else (vb (f_X9_of a0 p1 ((5 : Int32) + x5) M) fun r19 => vb (f_X9_follow a0 p1 26 r19 M) fun M21 => nb (x5 + 1) fun y22 => f_X9_reason_b74 a0 p1 n x4 y22 M21)
def f_X9_reason_b69 (a0 : Nat) (p1 : Int32) (xs0 : Int32) (M : Mem) : Option (Int32 × Mem) := f_X9_reason_b74 a0 p1 lfuel xs0 0 M
def f_X9_reason_b64 (a0 : Nat) (p1 : Int32) (M : Mem) : Option (Int32 × Mem) := f_X9_reason_b69 a0 p1 1 M
def f_X9_reason (a0 : Nat) (p1 : Int32) (M : Mem) : Option (Int32 × Mem) := vb (f_X9_putAside a0 M) fun M24 => vb (f_X9_of a0 p1 31 M24) fun r26 => vb (f_X9_of a0 p1 30 M24) fun r28 => vb (f_X9_deliverAll a0 p1 M24) fun M30 => vb (f_X9_of a0 p1 31 M30) fun r32 => if r26 < r32 then (f_X9_reason_b64 a0 p1 M30) else (vb (f_X9_of a0 p1 30 M30) fun r35 => if r28 < r35 then (f_X9_reason_b64 a0 p1 M30) else (vb (f_X9_of a0 p1 28 M30) fun r38 => vb (f_X9_of a0 p1 21 M30) fun r40 => if r38 = r40 then (f_X9_reason_b69 a0 p1 0 M30) else (f_X9_reason_b64 a0 p1 M30)))
set_option maxHeartbeats 4000000 in
set_option maxRecDepth 100000 in
theorem k_X9_reason (G : Gt) (hG : gOK G) (l : Launch) (a0 : Nat) (h0 : gK G a0 = 10) (p1 : Int32) (M : Mem) {r : Int32} {M' : Mem} (hf : f_X9_reason a0 p1 M = some (r, M')) : Kc G l yX9_reason cX9_reason 6 (some .int) ({ frames := 5, cells := 0, slots := 0, locals := 122 } : Room) [.ref a0, .int p1] M (some (.int r)) M' := by
  refine start (by decide) (Nat.le_of_ble_eq_true rfl) ?_
  intro p e s m args below meth c ls hx hb hr hown hml hlocks hts hV hM hl
  have hown : s.vm.findClass "FoldedVoicesModel" = some m.cls := hown
  have hK := hG.1.moved hV
  have hS : va_S (gA G) s.heap s.heap [] := va_S.rf
  have hl : lv_has ls 6 [(0, .ref a0), (1, .int p1)] := hl
  have hM0 := hM
  have b144 : ∀ (x4 : Int32) (xs0 : Int32) (M : Mem) (H : Heap) (locs : List Loc) (ls : Array Slot), Mh G M H → va_S (gA G) s.heap H locs → lv_has ls 6 [(0, .ref a0), (1, .int p1), (4, .int x4)] → f_X9_reason_b144 a0 p1 x4 xs0 M = some (r, M') → W p l e ({ frames := 5, cells := 0, slots := 0, locals := 122 } : Room) s m args below meth c H locs 0 0 (MQ below (QV G (some (.int r)) M') args s 0 0 (gA G)) (F0 m 144 ls [.int xs0]) := by
    intro x4 xs0 M H locs ls hM hS hl hf
    rw [f_X9_reason_b144] at hf
    refine lv_istore (lv' := [(5, .int xs0), (0, .ref a0), (1, .int p1), (4, .int x4)]) hx hb dX9_reason_144 hl (by decide) rfl (fun ls hl => ?_)
    refine lv_aload_n hx hb dX9_reason_146 rfl (lv_at hl 1 rfl) ?_
    obtain ⟨M2, e_1, hf⟩ := vb_e hf
    refine c_Vv hx hb hml hown hts hV hK hM hS (As := []) (rest := []) (k_X9_putBack G hG l a0 h0 M e_1) w_X9_putBack (tk_1241 hts) (c_10 h0) rfl rfl ⟨⟨rfl, rfl⟩, Nat.le_of_ble_eq_true rfl, Nat.le_of_ble_eq_true rfl⟩ ⟨Nat.zero_le _, Nat.zero_le _⟩ rfl hl.1 rfl (Nat.le_of_ble_eq_true rfl) dX9_reason_147 (fun H locs hM hS => ?_)
    refine lv_iload hx hb dX9_reason_150 (lv_at hl 0 rfl) ?_
    refine lv_if_eq (tgt := 159) hx hb dX9_reason_152 (by decide) (fun g_3 => ?_) (fun g_3 => ?_)
    · rw [if_pos g_3] at hf
      refine lv_iload hx hb dX9_reason_159 (lv_at hl 3 rfl) ?_
      refine lv_if_eq (tgt := 168) hx hb dX9_reason_161 (by decide) (fun g_4 => ?_) (fun g_4 => ?_)
      · rw [if_pos g_4] at hf
        refine lv_iconst (v := 2) hx hb dX9_reason_168 (by decide) ?_
        exact ef_im hx hb hr hlocks hM hS hf dX9_reason_169
      · rw [if_neg g_4] at hf
        refine lv_iconst (v := 1) hx hb dX9_reason_164 (by decide) ?_
        refine lv_goto (tgt := 169) hx hb dX9_reason_165 (by decide) ?_
        exact ef_im hx hb hr hlocks hM hS hf dX9_reason_169
    · rw [if_neg g_3] at hf
      refine lv_iconst (v := 0) hx hb dX9_reason_155 (by decide) ?_
      refine lv_goto (tgt := 169) hx hb dX9_reason_156 (by decide) ?_
      exact ef_im hx hb hr hlocks hM hS hf dX9_reason_169
  have b143 : ∀ (x4 : Int32) (M : Mem) (H : Heap) (locs : List Loc) (ls : Array Slot), Mh G M H → va_S (gA G) s.heap H locs → lv_has ls 6 [(0, .ref a0), (1, .int p1), (4, .int x4)] → f_X9_reason_b143 a0 p1 x4 M = some (r, M') → W p l e ({ frames := 5, cells := 0, slots := 0, locals := 122 } : Room) s m args below meth c H locs 0 0 (MQ below (QV G (some (.int r)) M') args s 0 0 (gA G)) (F0 m 143 ls []) := by
    intro x4 M H locs ls hM hS hl hf
    rw [f_X9_reason_b143] at hf
    refine lv_iconst (v := 0) hx hb dX9_reason_143 (by decide) ?_
    exact b144 x4 0 _ H locs ls hM hS (lv_sub hl [0, 1, 2] rfl) hf
  have b74 : ∀ (n : Nat), ∀ (x4 : Int32) (x5 : Int32) (M : Mem) (H : Heap) (locs : List Loc) (ls : Array Slot), Mh G M H → va_S (gA G) s.heap H locs → lv_has ls 6 [(0, .ref a0), (1, .int p1), (4, .int x4), (5, .int x5)] → f_X9_reason_b74 a0 p1 n x4 x5 M = some (r, M') → W p l e ({ frames := 5, cells := 0, slots := 0, locals := 122 } : Room) s m args below meth c H locs 0 0 (MQ below (QV G (some (.int r)) M') args s 0 0 (gA G)) (F0 m 74 ls []) := by
    intro n
    induction n with
    | zero =>
      intro x4 x5 M H locs ls hM hS hl hf
      rw [f_X9_reason_b74] at hf
      cases hf
    | succ n ih =>
      intro x4 x5 M H locs ls hM hS hl hf
      rw [f_X9_reason_b74] at hf
      refine lv_iload hx hb dX9_reason_74 (lv_at hl 3 rfl) ?_
      refine lv_aload_n hx hb dX9_reason_76 rfl (lv_at hl 0 rfl) ?_
      refine lv_iload_n hx hb dX9_reason_77 rfl (lv_at hl 1 rfl) ?_
      refine lv_iconst (v := 4) hx hb dX9_reason_78 (by decide) ?_
      obtain ⟨r6, e_5, hf⟩ := vb_e hf
      refine c_Vi hx hb hml hown hts hV hK hM hS (As := [.int p1, .int 4]) (rest := [.int x5]) (k_X9_of G hG l a0 h0 p1 4 M e_5) w_X9_of (tk_1037 hts) (c_10 h0) rfl rfl ⟨⟨rfl, rfl⟩, Nat.le_of_ble_eq_true rfl, Nat.le_of_ble_eq_true rfl⟩ ⟨Nat.zero_le _, Nat.zero_le _⟩ rfl hl.1 rfl (Nat.le_of_ble_eq_true rfl) dX9_reason_79 (fun H locs hM hS => ?_)
      refine lv_icmp_ge (tgt := 107) hx hb dX9_reason_82 (by decide) (fun g_7 => ?_) (fun g_7 => ?_)
      · rw [if_pos g_7] at hf
        refine lv_aload_n hx hb dX9_reason_107 rfl (lv_at hl 0 rfl) ?_
        refine lv_iload_n hx hb dX9_reason_108 rfl (lv_at hl 1 rfl) ?_
        refine lv_bipush (v := 26) hx hb dX9_reason_109 (by decide) ?_
        obtain ⟨r9, e_8, hf⟩ := vb_e hf
        refine c_Vi hx hb hml hown hts hV hK hM hS (As := [.int p1, .int 26]) (rest := []) (k_X9_of G hG l a0 h0 p1 26 M e_8) w_X9_of (tk_1037 hts) (c_10 h0) rfl rfl ⟨⟨rfl, rfl⟩, Nat.le_of_ble_eq_true rfl, Nat.le_of_ble_eq_true rfl⟩ ⟨Nat.zero_le _, Nat.zero_le _⟩ rfl hl.1 rfl (Nat.le_of_ble_eq_true rfl) dX9_reason_111 (fun H locs hM hS => ?_)
        refine lv_aload_n hx hb dX9_reason_114 rfl (lv_at hl 0 rfl) ?_
        refine lv_iload_n hx hb dX9_reason_115 rfl (lv_at hl 1 rfl) ?_
        refine lv_iconst (v := 0) hx hb dX9_reason_116 (by decide) ?_
        obtain ⟨r11, e_10, hf⟩ := vb_e hf
        refine c_Vi hx hb hml hown hts hV hK hM hS (As := [.int p1, .int 0]) (rest := [.int r9]) (k_X9_of G hG l a0 h0 p1 0 M e_10) w_X9_of (tk_1037 hts) (c_10 h0) rfl rfl ⟨⟨rfl, rfl⟩, Nat.le_of_ble_eq_true rfl, Nat.le_of_ble_eq_true rfl⟩ ⟨Nat.zero_le _, Nat.zero_le _⟩ rfl hl.1 rfl (Nat.le_of_ble_eq_true rfl) dX9_reason_117 (fun H locs hM hS => ?_)
        refine lv_icmp_ne (tgt := 143) hx hb dX9_reason_120 (by decide) (fun g_12 => ?_) (fun g_12 => ?_)
        · rw [if_neg g_12] at hf
          exact b143 x4 _ H locs ls hM hS (lv_sub hl [0, 1, 2] rfl) hf
        · rw [if_pos g_12] at hf
          refine lv_aload_n hx hb dX9_reason_123 rfl (lv_at hl 0 rfl) ?_
          refine lv_iload_n hx hb dX9_reason_124 rfl (lv_at hl 1 rfl) ?_
          refine lv_bipush (v := 27) hx hb dX9_reason_125 (by decide) ?_
          obtain ⟨r14, e_13, hf⟩ := vb_e hf
          refine c_Vi hx hb hml hown hts hV hK hM hS (As := [.int p1, .int 27]) (rest := []) (k_X9_of G hG l a0 h0 p1 27 M e_13) w_X9_of (tk_1037 hts) (c_10 h0) rfl rfl ⟨⟨rfl, rfl⟩, Nat.le_of_ble_eq_true rfl, Nat.le_of_ble_eq_true rfl⟩ ⟨Nat.zero_le _, Nat.zero_le _⟩ rfl hl.1 rfl (Nat.le_of_ble_eq_true rfl) dX9_reason_127 (fun H locs hM hS => ?_)
          refine lv_aload_n hx hb dX9_reason_130 rfl (lv_at hl 0 rfl) ?_
          refine lv_iload_n hx hb dX9_reason_131 rfl (lv_at hl 1 rfl) ?_
          refine lv_iconst (v := 1) hx hb dX9_reason_132 (by decide) ?_
          obtain ⟨r16, e_15, hf⟩ := vb_e hf
          refine c_Vi hx hb hml hown hts hV hK hM hS (As := [.int p1, .int 1]) (rest := [.int r14]) (k_X9_of G hG l a0 h0 p1 1 M e_15) w_X9_of (tk_1037 hts) (c_10 h0) rfl rfl ⟨⟨rfl, rfl⟩, Nat.le_of_ble_eq_true rfl, Nat.le_of_ble_eq_true rfl⟩ ⟨Nat.zero_le _, Nat.zero_le _⟩ rfl hl.1 rfl (Nat.le_of_ble_eq_true rfl) dX9_reason_133 (fun H locs hM hS => ?_)
          refine lv_icmp_ne (tgt := 143) hx hb dX9_reason_136 (by decide) (fun g_17 => ?_) (fun g_17 => ?_)
          · rw [if_neg g_17] at hf
            exact b143 x4 _ H locs ls hM hS (lv_sub hl [0, 1, 2] rfl) hf
          · rw [if_pos g_17] at hf
            refine lv_iconst (v := 1) hx hb dX9_reason_139 (by decide) ?_
            refine lv_goto (tgt := 144) hx hb dX9_reason_140 (by decide) ?_
            exact b144 x4 1 _ H locs ls hM hS (lv_sub hl [0, 1, 2] rfl) hf
      · rw [if_neg g_7] at hf
        refine lv_aload_n hx hb dX9_reason_85 rfl (lv_at hl 0 rfl) ?_
        refine lv_iload_n hx hb dX9_reason_86 rfl (lv_at hl 1 rfl) ?_
        refine lv_bipush (v := 26) hx hb dX9_reason_87 (by decide) ?_
        refine lv_aload_n hx hb dX9_reason_89 rfl (lv_at hl 0 rfl) ?_
        refine lv_iload_n hx hb dX9_reason_90 rfl (lv_at hl 1 rfl) ?_
        refine lv_iconst (v := 5) hx hb dX9_reason_91 (by decide) ?_
        refine lv_iload hx hb dX9_reason_92 (lv_at hl 3 rfl) ?_
        refine lv_iadd hx hb dX9_reason_94 ?_
        obtain ⟨r19, e_18, hf⟩ := vb_e hf
        refine c_Vi hx hb hml hown hts hV hK hM hS (As := [.int p1, .int ((5 : Int32) + x5)]) (rest := [.int 26, .int p1, .ref a0]) (k_X9_of G hG l a0 h0 p1 ((5 : Int32) + x5) M e_18) w_X9_of (tk_1037 hts) (c_10 h0) rfl rfl ⟨⟨rfl, rfl⟩, Nat.le_of_ble_eq_true rfl, Nat.le_of_ble_eq_true rfl⟩ ⟨Nat.zero_le _, Nat.zero_le _⟩ rfl hl.1 rfl (Nat.le_of_ble_eq_true rfl) dX9_reason_95 (fun H locs hM hS => ?_)
        obtain ⟨M21, e_20, hf⟩ := vb_e hf
        refine c_Vv hx hb hml hown hts hV hK hM hS (As := [.int p1, .int 26, .int r19]) (rest := []) (k_X9_follow G hG l a0 h0 p1 26 r19 M e_20) w_X9_follow (tk_1072 hts) (c_10 h0) rfl rfl ⟨⟨rfl, rfl⟩, Nat.le_of_ble_eq_true rfl, Nat.le_of_ble_eq_true rfl⟩ ⟨Nat.zero_le _, Nat.zero_le _⟩ rfl hl.1 rfl (Nat.le_of_ble_eq_true rfl) dX9_reason_98 (fun H locs hM hS => ?_)
        obtain ⟨y22, ey22, hf⟩ := nb_e hf
        refine lv_iinc (v := y22) (lv' := [(5, .int y22), (0, .ref a0), (1, .int p1), (4, .int x4)]) hx hb dX9_reason_101 hl (k := 3) rfl (by rw [← ey22]; rfl) (by decide) rfl (fun ls hl => ?_)
        refine lv_goto (tgt := 74) hx hb dX9_reason_104 (by decide) ?_
        exact ih x4 y22 _ H locs ls hM hS (lv_sub hl [1, 2, 3, 0] rfl) hf
  have b69 : ∀ (xs0 : Int32) (M : Mem) (H : Heap) (locs : List Loc) (ls : Array Slot), Mh G M H → va_S (gA G) s.heap H locs → lv_has ls 6 [(0, .ref a0), (1, .int p1)] → f_X9_reason_b69 a0 p1 xs0 M = some (r, M') → W p l e ({ frames := 5, cells := 0, slots := 0, locals := 122 } : Room) s m args below meth c H locs 0 0 (MQ below (QV G (some (.int r)) M') args s 0 0 (gA G)) (F0 m 69 ls [.int xs0]) := by
    intro xs0 M H locs ls hM hS hl hf
    rw [f_X9_reason_b69] at hf
    refine lv_istore (lv' := [(4, .int xs0), (0, .ref a0), (1, .int p1)]) hx hb dX9_reason_69 hl (by decide) rfl (fun ls hl => ?_)
    refine lv_iconst (v := 0) hx hb dX9_reason_71 (by decide) ?_
    refine lv_istore (lv' := [(5, .int 0), (4, .int xs0), (0, .ref a0), (1, .int p1)]) hx hb dX9_reason_72 hl (by decide) rfl (fun ls hl => ?_)
    exact b74 _ xs0 0 _ H locs ls hM hS (lv_sub hl [2, 3, 1, 0] rfl) hf
  have b64 : ∀ (M : Mem) (H : Heap) (locs : List Loc) (ls : Array Slot), Mh G M H → va_S (gA G) s.heap H locs → lv_has ls 6 [(0, .ref a0), (1, .int p1)] → f_X9_reason_b64 a0 p1 M = some (r, M') → W p l e ({ frames := 5, cells := 0, slots := 0, locals := 122 } : Room) s m args below meth c H locs 0 0 (MQ below (QV G (some (.int r)) M') args s 0 0 (gA G)) (F0 m 64 ls []) := by
    intro M H locs ls hM hS hl hf
    rw [f_X9_reason_b64] at hf
    refine lv_iconst (v := 1) hx hb dX9_reason_64 (by decide) ?_
    refine lv_goto (tgt := 69) hx hb dX9_reason_65 (by decide) ?_
    exact b69 1 _ H locs ls hM hS (lv_sub hl [0, 1] rfl) hf
  rw [f_X9_reason] at hf
  obtain ⟨H, hHe⟩ : ∃ H, H = s.heap := ⟨_, rfl⟩
  obtain ⟨locs, hLe⟩ : ∃ L : List Loc, L = [] := ⟨_, rfl⟩
  rw [← hHe] at hM
  have hS : va_S (gA G) s.heap H locs := by rw [hHe, hLe]; exact va_S.rf
  suffices hW : W p l e ({ frames := 5, cells := 0, slots := 0, locals := 122 } : Room) s m args below meth c H locs 0 0 (MQ below (QV G (some (.int r)) M') args s 0 0 (gA G)) (F0 m 0 ls []) by rw [hHe, hLe] at hW; exact hW
  refine lv_aload_n hx hb dX9_reason_0 rfl (lv_at hl 0 rfl) ?_
  obtain ⟨M24, e_23, hf⟩ := vb_e hf
  refine c_Vv hx hb hml hown hts hV hK hM hS (As := []) (rest := []) (k_X9_putAside G hG l a0 h0 M e_23) w_X9_putAside (tk_1233 hts) (c_10 h0) rfl rfl ⟨⟨rfl, rfl⟩, Nat.le_of_ble_eq_true rfl, Nat.le_of_ble_eq_true rfl⟩ ⟨Nat.zero_le _, Nat.zero_le _⟩ rfl hl.1 rfl (Nat.le_of_ble_eq_true rfl) dX9_reason_1 (fun H locs hM hS => ?_)
  refine lv_aload_n hx hb dX9_reason_4 rfl (lv_at hl 0 rfl) ?_
  refine lv_iload_n hx hb dX9_reason_5 rfl (lv_at hl 1 rfl) ?_
  refine lv_bipush (v := 31) hx hb dX9_reason_6 (by decide) ?_
  obtain ⟨r26, e_25, hf⟩ := vb_e hf
  refine c_Vi hx hb hml hown hts hV hK hM hS (As := [.int p1, .int 31]) (rest := []) (k_X9_of G hG l a0 h0 p1 31 M24 e_25) w_X9_of (tk_1037 hts) (c_10 h0) rfl rfl ⟨⟨rfl, rfl⟩, Nat.le_of_ble_eq_true rfl, Nat.le_of_ble_eq_true rfl⟩ ⟨Nat.zero_le _, Nat.zero_le _⟩ rfl hl.1 rfl (Nat.le_of_ble_eq_true rfl) dX9_reason_8 (fun H locs hM hS => ?_)
  refine lv_istore_n (lv' := [(2, .int r26), (0, .ref a0), (1, .int p1)]) hx hb dX9_reason_11 rfl hl (by decide) rfl (fun ls hl => ?_)
  refine lv_aload_n hx hb dX9_reason_12 rfl (lv_at hl 1 rfl) ?_
  refine lv_iload_n hx hb dX9_reason_13 rfl (lv_at hl 2 rfl) ?_
  refine lv_bipush (v := 30) hx hb dX9_reason_14 (by decide) ?_
  obtain ⟨r28, e_27, hf⟩ := vb_e hf
  refine c_Vi hx hb hml hown hts hV hK hM hS (As := [.int p1, .int 30]) (rest := []) (k_X9_of G hG l a0 h0 p1 30 M24 e_27) w_X9_of (tk_1037 hts) (c_10 h0) rfl rfl ⟨⟨rfl, rfl⟩, Nat.le_of_ble_eq_true rfl, Nat.le_of_ble_eq_true rfl⟩ ⟨Nat.zero_le _, Nat.zero_le _⟩ rfl hl.1 rfl (Nat.le_of_ble_eq_true rfl) dX9_reason_16 (fun H locs hM hS => ?_)
  refine lv_istore_n (lv' := [(3, .int r28), (2, .int r26), (0, .ref a0), (1, .int p1)]) hx hb dX9_reason_19 rfl hl (by decide) rfl (fun ls hl => ?_)
  refine lv_aload_n hx hb dX9_reason_20 rfl (lv_at hl 2 rfl) ?_
  refine lv_iload_n hx hb dX9_reason_21 rfl (lv_at hl 3 rfl) ?_
  obtain ⟨M30, e_29, hf⟩ := vb_e hf
  refine c_Vv hx hb hml hown hts hV hK hM hS (As := [.int p1]) (rest := []) (k_X9_deliverAll G hG l a0 h0 p1 M24 e_29) w_X9_deliverAll (tk_1237 hts) (c_10 h0) rfl rfl ⟨⟨rfl, rfl⟩, Nat.le_of_ble_eq_true rfl, Nat.le_of_ble_eq_true rfl⟩ ⟨Nat.zero_le _, Nat.zero_le _⟩ rfl hl.1 rfl (Nat.le_of_ble_eq_true rfl) dX9_reason_22 (fun H locs hM hS => ?_)
  refine lv_aload_n hx hb dX9_reason_25 rfl (lv_at hl 2 rfl) ?_
  refine lv_iload_n hx hb dX9_reason_26 rfl (lv_at hl 3 rfl) ?_
  refine lv_bipush (v := 31) hx hb dX9_reason_27 (by decide) ?_
  obtain ⟨r32, e_31, hf⟩ := vb_e hf
  refine c_Vi hx hb hml hown hts hV hK hM hS (As := [.int p1, .int 31]) (rest := []) (k_X9_of G hG l a0 h0 p1 31 M30 e_31) w_X9_of (tk_1037 hts) (c_10 h0) rfl rfl ⟨⟨rfl, rfl⟩, Nat.le_of_ble_eq_true rfl, Nat.le_of_ble_eq_true rfl⟩ ⟨Nat.zero_le _, Nat.zero_le _⟩ rfl hl.1 rfl (Nat.le_of_ble_eq_true rfl) dX9_reason_29 (fun H locs hM hS => ?_)
  refine lv_iload_n hx hb dX9_reason_32 rfl (lv_at hl 1 rfl) ?_
  refine lv_icmp_gt (tgt := 64) hx hb dX9_reason_33 (by decide) (fun g_33 => ?_) (fun g_33 => ?_)
  · rw [if_pos g_33] at hf
    exact b64 _ H locs ls hM hS (lv_sub hl [2, 3] rfl) hf
  · rw [if_neg g_33] at hf
    refine lv_aload_n hx hb dX9_reason_36 rfl (lv_at hl 2 rfl) ?_
    refine lv_iload_n hx hb dX9_reason_37 rfl (lv_at hl 3 rfl) ?_
    refine lv_bipush (v := 30) hx hb dX9_reason_38 (by decide) ?_
    obtain ⟨r35, e_34, hf⟩ := vb_e hf
    refine c_Vi hx hb hml hown hts hV hK hM hS (As := [.int p1, .int 30]) (rest := []) (k_X9_of G hG l a0 h0 p1 30 M30 e_34) w_X9_of (tk_1037 hts) (c_10 h0) rfl rfl ⟨⟨rfl, rfl⟩, Nat.le_of_ble_eq_true rfl, Nat.le_of_ble_eq_true rfl⟩ ⟨Nat.zero_le _, Nat.zero_le _⟩ rfl hl.1 rfl (Nat.le_of_ble_eq_true rfl) dX9_reason_40 (fun H locs hM hS => ?_)
    refine lv_iload_n hx hb dX9_reason_43 rfl (lv_at hl 0 rfl) ?_
    refine lv_icmp_gt (tgt := 64) hx hb dX9_reason_44 (by decide) (fun g_36 => ?_) (fun g_36 => ?_)
    · rw [if_pos g_36] at hf
      exact b64 _ H locs ls hM hS (lv_sub hl [2, 3] rfl) hf
    · rw [if_neg g_36] at hf
      refine lv_aload_n hx hb dX9_reason_47 rfl (lv_at hl 2 rfl) ?_
      refine lv_iload_n hx hb dX9_reason_48 rfl (lv_at hl 3 rfl) ?_
      refine lv_bipush (v := 28) hx hb dX9_reason_49 (by decide) ?_
      obtain ⟨r38, e_37, hf⟩ := vb_e hf
      refine c_Vi hx hb hml hown hts hV hK hM hS (As := [.int p1, .int 28]) (rest := []) (k_X9_of G hG l a0 h0 p1 28 M30 e_37) w_X9_of (tk_1037 hts) (c_10 h0) rfl rfl ⟨⟨rfl, rfl⟩, Nat.le_of_ble_eq_true rfl, Nat.le_of_ble_eq_true rfl⟩ ⟨Nat.zero_le _, Nat.zero_le _⟩ rfl hl.1 rfl (Nat.le_of_ble_eq_true rfl) dX9_reason_51 (fun H locs hM hS => ?_)
      refine lv_aload_n hx hb dX9_reason_54 rfl (lv_at hl 2 rfl) ?_
      refine lv_iload_n hx hb dX9_reason_55 rfl (lv_at hl 3 rfl) ?_
      refine lv_bipush (v := 21) hx hb dX9_reason_56 (by decide) ?_
      obtain ⟨r40, e_39, hf⟩ := vb_e hf
      refine c_Vi hx hb hml hown hts hV hK hM hS (As := [.int p1, .int 21]) (rest := [.int r38]) (k_X9_of G hG l a0 h0 p1 21 M30 e_39) w_X9_of (tk_1037 hts) (c_10 h0) rfl rfl ⟨⟨rfl, rfl⟩, Nat.le_of_ble_eq_true rfl, Nat.le_of_ble_eq_true rfl⟩ ⟨Nat.zero_le _, Nat.zero_le _⟩ rfl hl.1 rfl (Nat.le_of_ble_eq_true rfl) dX9_reason_58 (fun H locs hM hS => ?_)
      refine lv_icmp_eq (tgt := 68) hx hb dX9_reason_61 (by decide) (fun g_41 => ?_) (fun g_41 => ?_)
      · rw [if_pos g_41] at hf
        refine lv_iconst (v := 0) hx hb dX9_reason_68 (by decide) ?_
        exact b69 0 _ H locs ls hM hS (lv_sub hl [2, 3] rfl) hf
      · rw [if_neg g_41] at hf
        exact b64 _ H locs ls hM hS (lv_sub hl [2, 3] rfl) hf
def f_X9_why (a0 : Nat) (p1 : Int32) (M : Mem) : Option (Int32 × Mem) := nb (sI M a0 7 0) fun M1 => vb (f_X9_isVoice p1 M1) fun r3 => if r3 = 0 then (cb (f_X9_fails a0 1 M1) fun r6 M7 => some (r6, M7)) else (cb (f_X9_reason a0 p1 M1) fun r9 M10 => some (r9, M10))
set_option maxHeartbeats 4000000 in
set_option maxRecDepth 100000 in
theorem k_X9_why (G : Gt) (hG : gOK G) (l : Launch) (a0 : Nat) (h0 : gK G a0 = 10) (p1 : Int32) (M : Mem) {r : Int32} {M' : Mem} (hf : f_X9_why a0 p1 M = some (r, M')) : Kc G l yX9_why cX9_why 2 (some .int) ({ frames := 6, cells := 0, slots := 0, locals := 147 } : Room) [.ref a0, .int p1] M (some (.int r)) M' := by
  refine start (by decide) (Nat.le_of_ble_eq_true rfl) ?_
  intro p e s m args below meth c ls hx hb hr hown hml hlocks hts hV hM hl
  have hown : s.vm.findClass "FoldedVoicesModel" = some m.cls := hown
  have hK := hG.1.moved hV
  have hS : va_S (gA G) s.heap s.heap [] := va_S.rf
  have hl : lv_has ls 2 [(0, .ref a0), (1, .int p1)] := hl
  have hM0 := hM
  rw [f_X9_why] at hf
  refine lv_aload_n hx hb dX9_why_0 rfl (lv_at hl 0 rfl) ?_
  refine lv_iconst (v := 0) hx hb dX9_why_1 (by decide) ?_
  obtain ⟨M1, eM1, hf⟩ := nb_e hf
  refine s_put tyX9 hx hb (lay_9 hts) tyX9_ok nmX9 hown hK hM hS (ky_b hG h0) (c_10 h0) rfl 7 (by decide) rfl rfl rfl (Nat.le_of_ble_eq_true rfl) (cp_9_7 h0) (fun _ h9 => cel_sI _ h9) hM.2.2.sI rfl (tk_970 hts) dX9_why_2 (fun H locs hM hS => ?_)
  rw [eM1] at hM
  refine lv_iload_n hx hb dX9_why_5 rfl (lv_at hl 1 rfl) ?_
  obtain ⟨r3, e_2, hf⟩ := vb_e hf
  refine c_Si hx hb hml hown hts hV hM hS (As := [.int p1]) (rest := []) (k_X9_isVoice G hG l p1 M1 e_2) w_X9_isVoice (tk_1020 hts) ⟨⟨rfl, rfl⟩, Nat.le_of_ble_eq_true rfl, Nat.le_of_ble_eq_true rfl⟩ ⟨Nat.zero_le _, Nat.zero_le _⟩ rfl hl.1 rfl (Nat.le_of_ble_eq_true rfl) dX9_why_6 (fun H locs hM hS => ?_)
  refine lv_if_eq (tgt := 20) hx hb dX9_why_9 (by decide) (fun g_4 => ?_) (fun g_4 => ?_)
  · rw [if_pos g_4] at hf
    refine lv_aload_n hx hb dX9_why_20 rfl (lv_at hl 0 rfl) ?_
    refine lv_iconst (v := 1) hx hb dX9_why_21 (by decide) ?_
    obtain ⟨r6, M7, e_5, hf⟩ := cb_e hf
    refine c_Vi hx hb hml hown hts hV hK hM hS (As := [.int 1]) (rest := []) (k_X9_fails G hG l a0 h0 1 M1 e_5) w_X9_fails (tk_1026 hts) (c_10 h0) rfl rfl ⟨⟨rfl, rfl⟩, Nat.le_of_ble_eq_true rfl, Nat.le_of_ble_eq_true rfl⟩ ⟨Nat.zero_le _, Nat.zero_le _⟩ rfl hl.1 rfl (Nat.le_of_ble_eq_true rfl) dX9_why_22 (fun H locs hM hS => ?_)
    exact ef_im hx hb hr hlocks hM hS hf dX9_why_25
  · rw [if_neg g_4] at hf
    refine lv_aload_n hx hb dX9_why_12 rfl (lv_at hl 0 rfl) ?_
    refine lv_iload_n hx hb dX9_why_13 rfl (lv_at hl 1 rfl) ?_
    obtain ⟨r9, M10, e_8, hf⟩ := cb_e hf
    refine c_Vi hx hb hml hown hts hV hK hM hS (As := [.int p1]) (rest := []) (k_X9_reason G hG l a0 h0 p1 M1 e_8) w_X9_reason (tk_1229 hts) (c_10 h0) rfl rfl ⟨⟨rfl, rfl⟩, Nat.le_of_ble_eq_true rfl, Nat.le_of_ble_eq_true rfl⟩ ⟨Nat.zero_le _, Nat.zero_le _⟩ rfl hl.1 rfl (Nat.le_of_ble_eq_true rfl) dX9_why_14 (fun H locs hM hS => ?_)
    refine lv_goto (tgt := 25) hx hb dX9_why_17 (by decide) ?_
    exact ef_im hx hb hr hlocks hM hS hf dX9_why_25
def f_X9_sum (a0 : Nat) (p1 : Int32) (M : Mem) : Option Int32 := vb (f_X9_of a0 0 p1 M) fun r2 => vb (f_X9_of a0 1 p1 M) fun r4 => vb (f_X9_of a0 2 p1 M) fun r6 => some ((r2 + r4) + r6)
set_option maxHeartbeats 4000000 in
set_option maxRecDepth 100000 in
theorem k_X9_sum (G : Gt) (hG : gOK G) (l : Launch) (a0 : Nat) (h0 : gK G a0 = 10) (p1 : Int32) (M : Mem) {r : Int32} (hf : f_X9_sum a0 p1 M = some r) : Kc G l yX9_sum cX9_sum 2 (some .int) ({ frames := 1, cells := 0, slots := 0, locals := 22 } : Room) [.ref a0, .int p1] M (some (.int r)) M := by
  refine start (by decide) (Nat.le_of_ble_eq_true rfl) ?_
  intro p e s m args below meth c ls hx hb hr hown hml hlocks hts hV hM hl
  have hown : s.vm.findClass "FoldedVoicesModel" = some m.cls := hown
  have hK := hG.1.moved hV
  have hS : va_S (gA G) s.heap s.heap [] := va_S.rf
  have hl : lv_has ls 2 [(0, .ref a0), (1, .int p1)] := hl
  have hM0 := hM
  rw [f_X9_sum] at hf
  refine lv_aload_n hx hb dX9_sum_0 rfl (lv_at hl 0 rfl) ?_
  refine lv_iconst (v := 0) hx hb dX9_sum_1 (by decide) ?_
  refine lv_iload_n hx hb dX9_sum_2 rfl (lv_at hl 1 rfl) ?_
  obtain ⟨r2, e_1, hf⟩ := vb_e hf
  refine c_Vi hx hb hml hown hts hV hK hM hS (As := [.int 0, .int p1]) (rest := []) (k_X9_of G hG l a0 h0 0 p1 M e_1) w_X9_of (tk_1037 hts) (c_10 h0) rfl rfl ⟨⟨rfl, rfl⟩, Nat.le_of_ble_eq_true rfl, Nat.le_of_ble_eq_true rfl⟩ ⟨Nat.zero_le _, Nat.zero_le _⟩ rfl hl.1 rfl (Nat.le_of_ble_eq_true rfl) dX9_sum_3 (fun H locs hM hS => ?_)
  refine lv_aload_n hx hb dX9_sum_6 rfl (lv_at hl 0 rfl) ?_
  refine lv_iconst (v := 1) hx hb dX9_sum_7 (by decide) ?_
  refine lv_iload_n hx hb dX9_sum_8 rfl (lv_at hl 1 rfl) ?_
  obtain ⟨r4, e_3, hf⟩ := vb_e hf
  refine c_Vi hx hb hml hown hts hV hK hM hS (As := [.int 1, .int p1]) (rest := [.int r2]) (k_X9_of G hG l a0 h0 1 p1 M e_3) w_X9_of (tk_1037 hts) (c_10 h0) rfl rfl ⟨⟨rfl, rfl⟩, Nat.le_of_ble_eq_true rfl, Nat.le_of_ble_eq_true rfl⟩ ⟨Nat.zero_le _, Nat.zero_le _⟩ rfl hl.1 rfl (Nat.le_of_ble_eq_true rfl) dX9_sum_9 (fun H locs hM hS => ?_)
  refine lv_iadd hx hb dX9_sum_12 ?_
  refine lv_aload_n hx hb dX9_sum_13 rfl (lv_at hl 0 rfl) ?_
  refine lv_iconst (v := 2) hx hb dX9_sum_14 (by decide) ?_
  refine lv_iload_n hx hb dX9_sum_15 rfl (lv_at hl 1 rfl) ?_
  obtain ⟨r6, e_5, hf⟩ := vb_e hf
  refine c_Vi hx hb hml hown hts hV hK hM hS (As := [.int 2, .int p1]) (rest := [.int (r2 + r4)]) (k_X9_of G hG l a0 h0 2 p1 M e_5) w_X9_of (tk_1037 hts) (c_10 h0) rfl rfl ⟨⟨rfl, rfl⟩, Nat.le_of_ble_eq_true rfl, Nat.le_of_ble_eq_true rfl⟩ ⟨Nat.zero_le _, Nat.zero_le _⟩ rfl hl.1 rfl (Nat.le_of_ble_eq_true rfl) dX9_sum_16 (fun H locs hM hS => ?_)
  refine lv_iadd hx hb dX9_sum_19 ?_
  exact ef_ip hx hb hr hlocks hM hS hf dX9_sum_20
def f_X9_agreeing_b23 (a0 : Nat) (k4 : Int32 → Int32 → Mem → Option (Int32 × Mem)) (x2 : Int32) (xs0 : Int32) (xs1 : Int32) (M : Mem) : Option (Int32 × Mem) := nb (xs1 + xs0) fun y1 => nb (x2 + 1) fun y2 => k4 y1 y2 M
def f_X9_agreeing_b4 (a0 : Nat) : Nat → Int32 → Int32 → Mem → Option (Int32 × Mem)
  | 0, _, _, _ => none
  | n + 1, x1, x2, M => if (3 : Int32) ≤ x2 then (some (x1, M)) else (cb (f_X9_reason a0 x2 M) fun r5 M6 => if r5 = 0 then (f_X9_agreeing_b23 a0 (f_X9_agreeing_b4 a0 n) x2 1 x1 M6) else (f_X9_agreeing_b23 a0 (f_X9_agreeing_b4 a0 n) x2 0 x1 M6))
def f_X9_agreeing (a0 : Nat) (M : Mem) : Option (Int32 × Mem) := f_X9_agreeing_b4 a0 lfuel 0 0 M
set_option maxHeartbeats 4000000 in
set_option maxRecDepth 100000 in
theorem k_X9_agreeing (G : Gt) (hG : gOK G) (l : Launch) (a0 : Nat) (h0 : gK G a0 = 10) (M : Mem) {r : Int32} {M' : Mem} (hf : f_X9_agreeing a0 M = some (r, M')) : Kc G l yX9_agreeing cX9_agreeing 3 (some .int) ({ frames := 6, cells := 0, slots := 0, locals := 147 } : Room) [.ref a0] M (some (.int r)) M' := by
  refine start (by decide) (Nat.le_of_ble_eq_true rfl) ?_
  intro p e s m args below meth c ls hx hb hr hown hml hlocks hts hV hM hl
  have hown : s.vm.findClass "FoldedVoicesModel" = some m.cls := hown
  have hK := hG.1.moved hV
  have hS : va_S (gA G) s.heap s.heap [] := va_S.rf
  have hl : lv_has ls 3 [(0, .ref a0)] := hl
  have hM0 := hM
  have b23 : ∀ (k4 : Int32 → Int32 → Mem → Option (Int32 × Mem)), (∀ (x1 : Int32) (x2 : Int32) (M : Mem) (H : Heap) (locs : List Loc) (ls : Array Slot), Mh G M H → va_S (gA G) s.heap H locs → lv_has ls 3 [(0, .ref a0), (1, .int x1), (2, .int x2)] → k4 x1 x2 M = some (r, M') → W p l e ({ frames := 6, cells := 0, slots := 0, locals := 147 } : Room) s m args below meth c H locs 0 0 (MQ below (QV G (some (.int r)) M') args s 0 0 (gA G)) (F0 m 4 ls [])) → ∀ (x2 : Int32) (xs0 : Int32) (xs1 : Int32) (M : Mem) (H : Heap) (locs : List Loc) (ls : Array Slot), Mh G M H → va_S (gA G) s.heap H locs → lv_has ls 3 [(0, .ref a0), (2, .int x2)] → f_X9_agreeing_b23 a0 k4 x2 xs0 xs1 M = some (r, M') → W p l e ({ frames := 6, cells := 0, slots := 0, locals := 147 } : Room) s m args below meth c H locs 0 0 (MQ below (QV G (some (.int r)) M') args s 0 0 (gA G)) (F0 m 23 ls [.int xs0, .int xs1]) := by
    intro k4 hk4
    intro x2 xs0 xs1 M H locs ls hM hS hl hf
    rw [f_X9_agreeing_b23] at hf
    refine lv_iadd hx hb dX9_agreeing_23 ?_
    obtain ⟨y1, ey1, hf⟩ := nb_e hf
    refine s_nm ey1 ?_
    refine lv_istore_n (lv' := [(1, .int y1), (0, .ref a0), (2, .int x2)]) hx hb dX9_agreeing_24 rfl hl (by decide) rfl (fun ls hl => ?_)
    obtain ⟨y2, ey2, hf⟩ := nb_e hf
    refine lv_iinc (v := y2) (lv' := [(2, .int y2), (1, .int y1), (0, .ref a0)]) hx hb dX9_agreeing_25 hl (k := 2) rfl (by rw [← ey2]; rfl) (by decide) rfl (fun ls hl => ?_)
    refine lv_goto (tgt := 4) hx hb dX9_agreeing_28 (by decide) ?_
    exact hk4 y1 y2 _ H locs ls hM hS (lv_sub hl [2, 1, 0] rfl) hf
  have b4 : ∀ (n : Nat), ∀ (x1 : Int32) (x2 : Int32) (M : Mem) (H : Heap) (locs : List Loc) (ls : Array Slot), Mh G M H → va_S (gA G) s.heap H locs → lv_has ls 3 [(0, .ref a0), (1, .int x1), (2, .int x2)] → f_X9_agreeing_b4 a0 n x1 x2 M = some (r, M') → W p l e ({ frames := 6, cells := 0, slots := 0, locals := 147 } : Room) s m args below meth c H locs 0 0 (MQ below (QV G (some (.int r)) M') args s 0 0 (gA G)) (F0 m 4 ls []) := by
    intro n
    induction n with
    | zero =>
      intro x1 x2 M H locs ls hM hS hl hf
      rw [f_X9_agreeing_b4] at hf
      cases hf
    | succ n ih =>
      intro x1 x2 M H locs ls hM hS hl hf
      rw [f_X9_agreeing_b4] at hf
      refine lv_iload_n hx hb dX9_agreeing_4 rfl (lv_at hl 2 rfl) ?_
      refine lv_iconst (v := 3) hx hb dX9_agreeing_5 (by decide) ?_
      refine lv_icmp_ge (tgt := 31) hx hb dX9_agreeing_6 (by decide) (fun g_3 => ?_) (fun g_3 => ?_)
      · rw [if_pos g_3] at hf
        refine lv_iload_n hx hb dX9_agreeing_31 rfl (lv_at hl 1 rfl) ?_
        exact ef_im hx hb hr hlocks hM hS hf dX9_agreeing_32
      · rw [if_neg g_3] at hf
        refine lv_iload_n hx hb dX9_agreeing_9 rfl (lv_at hl 1 rfl) ?_
        refine lv_aload_n hx hb dX9_agreeing_10 rfl (lv_at hl 0 rfl) ?_
        refine lv_iload_n hx hb dX9_agreeing_11 rfl (lv_at hl 2 rfl) ?_
        obtain ⟨r5, M6, e_4, hf⟩ := cb_e hf
        refine c_Vi hx hb hml hown hts hV hK hM hS (As := [.int x2]) (rest := [.int x1]) (k_X9_reason G hG l a0 h0 x2 M e_4) w_X9_reason (tk_1229 hts) (c_10 h0) rfl rfl ⟨⟨rfl, rfl⟩, Nat.le_of_ble_eq_true rfl, Nat.le_of_ble_eq_true rfl⟩ ⟨Nat.zero_le _, Nat.zero_le _⟩ rfl hl.1 rfl (Nat.le_of_ble_eq_true rfl) dX9_agreeing_12 (fun H locs hM hS => ?_)
        refine lv_if_ne (tgt := 22) hx hb dX9_agreeing_15 (by decide) (fun g_7 => ?_) (fun g_7 => ?_)
        · rw [if_neg g_7] at hf
          refine lv_iconst (v := 0) hx hb dX9_agreeing_22 (by decide) ?_
          exact b23 _ ih x2 0 x1 _ H locs ls hM hS (lv_sub hl [0, 2] rfl) hf
        · rw [if_pos g_7] at hf
          refine lv_iconst (v := 1) hx hb dX9_agreeing_18 (by decide) ?_
          refine lv_goto (tgt := 23) hx hb dX9_agreeing_19 (by decide) ?_
          exact b23 _ ih x2 1 x1 _ H locs ls hM hS (lv_sub hl [0, 2] rfl) hf
  rw [f_X9_agreeing] at hf
  obtain ⟨H, hHe⟩ : ∃ H, H = s.heap := ⟨_, rfl⟩
  obtain ⟨locs, hLe⟩ : ∃ L : List Loc, L = [] := ⟨_, rfl⟩
  rw [← hHe] at hM
  have hS : va_S (gA G) s.heap H locs := by rw [hHe, hLe]; exact va_S.rf
  suffices hW : W p l e ({ frames := 6, cells := 0, slots := 0, locals := 147 } : Room) s m args below meth c H locs 0 0 (MQ below (QV G (some (.int r)) M') args s 0 0 (gA G)) (F0 m 0 ls []) by rw [hHe, hLe] at hW; exact hW
  refine lv_iconst (v := 0) hx hb dX9_agreeing_0 (by decide) ?_
  refine lv_istore_n (lv' := [(1, .int 0), (0, .ref a0)]) hx hb dX9_agreeing_1 rfl hl (by decide) rfl (fun ls hl => ?_)
  refine lv_iconst (v := 0) hx hb dX9_agreeing_2 (by decide) ?_
  refine lv_istore_n (lv' := [(2, .int 0), (1, .int 0), (0, .ref a0)]) hx hb dX9_agreeing_3 rfl hl (by decide) rfl (fun ls hl => ?_)
  exact b4 _ 0 0 _ H locs ls hM hS (lv_sub hl [2, 1, 0] rfl) hf
def f_X9_number (a0 : Nat) (p1 : Int32) (M : Mem) : Option (Int32 × Mem) := if p1 = 0 then (gd (ix (4 : Int32) 626) <| some (mI M (a0 + 1) (4 : Int32).toNatClampNeg, M)) else (if p1 = 1 then (vb (f_X9_sum a0 22 M) fun r5 => some (r5, M)) else (if p1 = 2 then (vb (f_X9_sum a0 21 M) fun r8 => some (r8, M)) else (if p1 = 3 then (vb (f_X9_sum a0 38 M) fun r11 => some (r11, M)) else (if p1 = 4 then (vb (f_X9_sum a0 36 M) fun r14 => some (r14, M)) else (if p1 = 5 then (vb (f_X9_sum a0 37 M) fun r17 => some (r17, M)) else (if p1 = 6 then (cb (f_X9_agreeing a0 M) fun r20 M21 => some (r20, M21)) else (some (mI M a0 2, M))))))))
set_option maxHeartbeats 4000000 in
set_option maxRecDepth 100000 in
theorem k_X9_number (G : Gt) (hG : gOK G) (l : Launch) (a0 : Nat) (h0 : gK G a0 = 10) (p1 : Int32) (M : Mem) {r : Int32} {M' : Mem} (hf : f_X9_number a0 p1 M = some (r, M')) : Kc G l yX9_number cX9_number 2 (some .int) ({ frames := 7, cells := 0, slots := 0, locals := 169 } : Room) [.ref a0, .int p1] M (some (.int r)) M' := by
  refine start (by decide) (Nat.le_of_ble_eq_true rfl) ?_
  intro p e s m args below meth c ls hx hb hr hown hml hlocks hts hV hM hl
  have hown : s.vm.findClass "FoldedVoicesModel" = some m.cls := hown
  have hK := hG.1.moved hV
  have hS : va_S (gA G) s.heap s.heap [] := va_S.rf
  have hl : lv_has ls 2 [(0, .ref a0), (1, .int p1)] := hl
  have hM0 := hM
  rw [f_X9_number] at hf
  refine lv_iload_n hx hb dX9_number_0 rfl (lv_at hl 1 rfl) ?_
  by_cases g_1 : p1 = 0
  · rw [if_pos g_1] at hf
    refine lv_tableIn (off := 43) (tgt := 44) hx hb dX9_number_1 (by rw [g_1]; decide) (by rw [g_1]; decide) (by rw [g_1]; rfl) (by decide) ?_
    refine lv_aload_n hx hb dX9_number_44 rfl (lv_at hl 0 rfl) ?_
    refine s_get hx hb (lay_9 hts) hown hK hM (c_10 h0) rfl 0 (by decide) rfl rfl (tk_963 hts) dX9_number_45 ?_
    refine lv_iconst (v := 4) hx hb dX9_number_48 (by decide) ?_
    obtain ⟨h_2, hf⟩ := gd_e hf
    refine s_iald 626 hx hb hK hM (ky_10_0 hG h0) (by decide) h_2 dX9_number_49 ?_
    exact ef_im hx hb hr hlocks hM hS hf dX9_number_50
  rw [if_neg g_1] at hf
  by_cases g_3 : p1 = 1
  · rw [if_pos g_3] at hf
    refine lv_tableIn (off := 50) (tgt := 51) hx hb dX9_number_1 (by rw [g_3]; decide) (by rw [g_3]; decide) (by rw [g_3]; rfl) (by decide) ?_
    refine lv_aload_n hx hb dX9_number_51 rfl (lv_at hl 0 rfl) ?_
    refine lv_bipush (v := 22) hx hb dX9_number_52 (by decide) ?_
    obtain ⟨r5, e_4, hf⟩ := vb_e hf
    refine c_Vi hx hb hml hown hts hV hK hM hS (As := [.int 22]) (rest := []) (k_X9_sum G hG l a0 h0 22 M e_4) w_X9_sum (tk_1253 hts) (c_10 h0) rfl rfl ⟨⟨rfl, rfl⟩, Nat.le_of_ble_eq_true rfl, Nat.le_of_ble_eq_true rfl⟩ ⟨Nat.zero_le _, Nat.zero_le _⟩ rfl hl.1 rfl (Nat.le_of_ble_eq_true rfl) dX9_number_54 (fun H locs hM hS => ?_)
    exact ef_im hx hb hr hlocks hM hS hf dX9_number_57
  rw [if_neg g_3] at hf
  by_cases g_6 : p1 = 2
  · rw [if_pos g_6] at hf
    refine lv_tableIn (off := 57) (tgt := 58) hx hb dX9_number_1 (by rw [g_6]; decide) (by rw [g_6]; decide) (by rw [g_6]; rfl) (by decide) ?_
    refine lv_aload_n hx hb dX9_number_58 rfl (lv_at hl 0 rfl) ?_
    refine lv_bipush (v := 21) hx hb dX9_number_59 (by decide) ?_
    obtain ⟨r8, e_7, hf⟩ := vb_e hf
    refine c_Vi hx hb hml hown hts hV hK hM hS (As := [.int 21]) (rest := []) (k_X9_sum G hG l a0 h0 21 M e_7) w_X9_sum (tk_1253 hts) (c_10 h0) rfl rfl ⟨⟨rfl, rfl⟩, Nat.le_of_ble_eq_true rfl, Nat.le_of_ble_eq_true rfl⟩ ⟨Nat.zero_le _, Nat.zero_le _⟩ rfl hl.1 rfl (Nat.le_of_ble_eq_true rfl) dX9_number_61 (fun H locs hM hS => ?_)
    exact ef_im hx hb hr hlocks hM hS hf dX9_number_64
  rw [if_neg g_6] at hf
  by_cases g_9 : p1 = 3
  · rw [if_pos g_9] at hf
    refine lv_tableIn (off := 64) (tgt := 65) hx hb dX9_number_1 (by rw [g_9]; decide) (by rw [g_9]; decide) (by rw [g_9]; rfl) (by decide) ?_
    refine lv_aload_n hx hb dX9_number_65 rfl (lv_at hl 0 rfl) ?_
    refine lv_bipush (v := 38) hx hb dX9_number_66 (by decide) ?_
    obtain ⟨r11, e_10, hf⟩ := vb_e hf
    refine c_Vi hx hb hml hown hts hV hK hM hS (As := [.int 38]) (rest := []) (k_X9_sum G hG l a0 h0 38 M e_10) w_X9_sum (tk_1253 hts) (c_10 h0) rfl rfl ⟨⟨rfl, rfl⟩, Nat.le_of_ble_eq_true rfl, Nat.le_of_ble_eq_true rfl⟩ ⟨Nat.zero_le _, Nat.zero_le _⟩ rfl hl.1 rfl (Nat.le_of_ble_eq_true rfl) dX9_number_68 (fun H locs hM hS => ?_)
    exact ef_im hx hb hr hlocks hM hS hf dX9_number_71
  rw [if_neg g_9] at hf
  by_cases g_12 : p1 = 4
  · rw [if_pos g_12] at hf
    refine lv_tableIn (off := 71) (tgt := 72) hx hb dX9_number_1 (by rw [g_12]; decide) (by rw [g_12]; decide) (by rw [g_12]; rfl) (by decide) ?_
    refine lv_aload_n hx hb dX9_number_72 rfl (lv_at hl 0 rfl) ?_
    refine lv_bipush (v := 36) hx hb dX9_number_73 (by decide) ?_
    obtain ⟨r14, e_13, hf⟩ := vb_e hf
    refine c_Vi hx hb hml hown hts hV hK hM hS (As := [.int 36]) (rest := []) (k_X9_sum G hG l a0 h0 36 M e_13) w_X9_sum (tk_1253 hts) (c_10 h0) rfl rfl ⟨⟨rfl, rfl⟩, Nat.le_of_ble_eq_true rfl, Nat.le_of_ble_eq_true rfl⟩ ⟨Nat.zero_le _, Nat.zero_le _⟩ rfl hl.1 rfl (Nat.le_of_ble_eq_true rfl) dX9_number_75 (fun H locs hM hS => ?_)
    exact ef_im hx hb hr hlocks hM hS hf dX9_number_78
  rw [if_neg g_12] at hf
  by_cases g_15 : p1 = 5
  · rw [if_pos g_15] at hf
    refine lv_tableIn (off := 78) (tgt := 79) hx hb dX9_number_1 (by rw [g_15]; decide) (by rw [g_15]; decide) (by rw [g_15]; rfl) (by decide) ?_
    refine lv_aload_n hx hb dX9_number_79 rfl (lv_at hl 0 rfl) ?_
    refine lv_bipush (v := 37) hx hb dX9_number_80 (by decide) ?_
    obtain ⟨r17, e_16, hf⟩ := vb_e hf
    refine c_Vi hx hb hml hown hts hV hK hM hS (As := [.int 37]) (rest := []) (k_X9_sum G hG l a0 h0 37 M e_16) w_X9_sum (tk_1253 hts) (c_10 h0) rfl rfl ⟨⟨rfl, rfl⟩, Nat.le_of_ble_eq_true rfl, Nat.le_of_ble_eq_true rfl⟩ ⟨Nat.zero_le _, Nat.zero_le _⟩ rfl hl.1 rfl (Nat.le_of_ble_eq_true rfl) dX9_number_82 (fun H locs hM hS => ?_)
    exact ef_im hx hb hr hlocks hM hS hf dX9_number_85
  rw [if_neg g_15] at hf
  by_cases g_18 : p1 = 6
  · rw [if_pos g_18] at hf
    refine lv_tableIn (off := 85) (tgt := 86) hx hb dX9_number_1 (by rw [g_18]; decide) (by rw [g_18]; decide) (by rw [g_18]; rfl) (by decide) ?_
    refine lv_aload_n hx hb dX9_number_86 rfl (lv_at hl 0 rfl) ?_
    obtain ⟨r20, M21, e_19, hf⟩ := cb_e hf
    refine c_Vi hx hb hml hown hts hV hK hM hS (As := []) (rest := []) (k_X9_agreeing G hG l a0 h0 M e_19) w_X9_agreeing (tk_1257 hts) (c_10 h0) rfl rfl ⟨⟨rfl, rfl⟩, Nat.le_of_ble_eq_true rfl, Nat.le_of_ble_eq_true rfl⟩ ⟨Nat.zero_le _, Nat.zero_le _⟩ rfl hl.1 rfl (Nat.le_of_ble_eq_true rfl) dX9_number_87 (fun H locs hM hS => ?_)
    exact ef_im hx hb hr hlocks hM hS hf dX9_number_90
  rw [if_neg g_18] at hf
  have tg_1 := lv_neT g_1 (show (0 : Int32).toInt = 0 from by decide)
  have tg_3 := lv_neT g_3 (show (1 : Int32).toInt = 1 from by decide)
  have tg_6 := lv_neT g_6 (show (2 : Int32).toInt = 2 from by decide)
  have tg_9 := lv_neT g_9 (show (3 : Int32).toInt = 3 from by decide)
  have tg_12 := lv_neT g_12 (show (4 : Int32).toInt = 4 from by decide)
  have tg_15 := lv_neT g_15 (show (5 : Int32).toInt = 5 from by decide)
  have tg_18 := lv_neT g_18 (show (6 : Int32).toInt = 6 from by decide)
  refine lv_tableOut (tgt := 91) hx hb dX9_number_1 (by omega) (by decide) ?_
  refine lv_aload_n hx hb dX9_number_91 rfl (lv_at hl 0 rfl) ?_
  refine s_get hx hb (lay_9 hts) hown hK hM (c_10 h0) rfl 2 (by decide) rfl rfl (tk_965 hts) dX9_number_92 ?_
  exact ef_im hx hb hr hlocks hM hS hf dX9_number_95
def f_X9_count (a0 : Nat) (p1 : Int32) (M : Mem) : Option (Int32 × Mem) := nb (sI M a0 7 0) fun M1 => vb (f_X9_in p1 0 7 M1) fun r3 => if r3 = 0 then (cb (f_X9_fails a0 1 M1) fun r6 M7 => some (r6, M7)) else (cb (f_X9_number a0 p1 M1) fun r9 M10 => some (r9, M10))
set_option maxHeartbeats 4000000 in
set_option maxRecDepth 100000 in
theorem k_X9_count (G : Gt) (hG : gOK G) (l : Launch) (a0 : Nat) (h0 : gK G a0 = 10) (p1 : Int32) (M : Mem) {r : Int32} {M' : Mem} (hf : f_X9_count a0 p1 M = some (r, M')) : Kc G l yX9_count cX9_count 2 (some .int) ({ frames := 8, cells := 0, slots := 0, locals := 190 } : Room) [.ref a0, .int p1] M (some (.int r)) M' := by
  refine start (by decide) (Nat.le_of_ble_eq_true rfl) ?_
  intro p e s m args below meth c ls hx hb hr hown hml hlocks hts hV hM hl
  have hown : s.vm.findClass "FoldedVoicesModel" = some m.cls := hown
  have hK := hG.1.moved hV
  have hS : va_S (gA G) s.heap s.heap [] := va_S.rf
  have hl : lv_has ls 2 [(0, .ref a0), (1, .int p1)] := hl
  have hM0 := hM
  rw [f_X9_count] at hf
  refine lv_aload_n hx hb dX9_count_0 rfl (lv_at hl 0 rfl) ?_
  refine lv_iconst (v := 0) hx hb dX9_count_1 (by decide) ?_
  obtain ⟨M1, eM1, hf⟩ := nb_e hf
  refine s_put tyX9 hx hb (lay_9 hts) tyX9_ok nmX9 hown hK hM hS (ky_b hG h0) (c_10 h0) rfl 7 (by decide) rfl rfl rfl (Nat.le_of_ble_eq_true rfl) (cp_9_7 h0) (fun _ h9 => cel_sI _ h9) hM.2.2.sI rfl (tk_970 hts) dX9_count_2 (fun H locs hM hS => ?_)
  rw [eM1] at hM
  refine lv_iload_n hx hb dX9_count_5 rfl (lv_at hl 1 rfl) ?_
  refine lv_iconst (v := 0) hx hb dX9_count_6 (by decide) ?_
  refine lv_bipush (v := 7) hx hb dX9_count_7 (by decide) ?_
  obtain ⟨r3, e_2, hf⟩ := vb_e hf
  refine c_Si hx hb hml hown hts hV hM hS (As := [.int p1, .int 0, .int 7]) (rest := []) (k_X9_in G hG l p1 0 7 M1 e_2) w_X9_in (tk_1023 hts) ⟨⟨rfl, rfl⟩, Nat.le_of_ble_eq_true rfl, Nat.le_of_ble_eq_true rfl⟩ ⟨Nat.zero_le _, Nat.zero_le _⟩ rfl hl.1 rfl (Nat.le_of_ble_eq_true rfl) dX9_count_9 (fun H locs hM hS => ?_)
  refine lv_if_eq (tgt := 23) hx hb dX9_count_12 (by decide) (fun g_4 => ?_) (fun g_4 => ?_)
  · rw [if_pos g_4] at hf
    refine lv_aload_n hx hb dX9_count_23 rfl (lv_at hl 0 rfl) ?_
    refine lv_iconst (v := 1) hx hb dX9_count_24 (by decide) ?_
    obtain ⟨r6, M7, e_5, hf⟩ := cb_e hf
    refine c_Vi hx hb hml hown hts hV hK hM hS (As := [.int 1]) (rest := []) (k_X9_fails G hG l a0 h0 1 M1 e_5) w_X9_fails (tk_1026 hts) (c_10 h0) rfl rfl ⟨⟨rfl, rfl⟩, Nat.le_of_ble_eq_true rfl, Nat.le_of_ble_eq_true rfl⟩ ⟨Nat.zero_le _, Nat.zero_le _⟩ rfl hl.1 rfl (Nat.le_of_ble_eq_true rfl) dX9_count_25 (fun H locs hM hS => ?_)
    exact ef_im hx hb hr hlocks hM hS hf dX9_count_28
  · rw [if_neg g_4] at hf
    refine lv_aload_n hx hb dX9_count_15 rfl (lv_at hl 0 rfl) ?_
    refine lv_iload_n hx hb dX9_count_16 rfl (lv_at hl 1 rfl) ?_
    obtain ⟨r9, M10, e_8, hf⟩ := cb_e hf
    refine c_Vi hx hb hml hown hts hV hK hM hS (As := [.int p1]) (rest := []) (k_X9_number G hG l a0 h0 p1 M1 e_8) w_X9_number (tk_1249 hts) (c_10 h0) rfl rfl ⟨⟨rfl, rfl⟩, Nat.le_of_ble_eq_true rfl, Nat.le_of_ble_eq_true rfl⟩ ⟨Nat.zero_le _, Nat.zero_le _⟩ rfl hl.1 rfl (Nat.le_of_ble_eq_true rfl) dX9_count_17 (fun H locs hM hS => ?_)
    refine lv_goto (tgt := 28) hx hb dX9_count_20 (by decide) ?_
    exact ef_im hx hb hr hlocks hM hS hf dX9_count_28
def f_X9_setting (a0 : Nat) (p1 : Int32) (M : Mem) : Option (Int32 × Mem) := nb (sI M a0 7 0) fun M1 => vb (f_X9_in p1 0 3 M1) fun r3 => if r3 = 0 then (cb (f_X9_fails a0 1 M1) fun r6 M7 => some (r6, M7)) else (gd (ix p1 626) <| some (mI M1 (a0 + 1) p1.toNatClampNeg, M1))
set_option maxHeartbeats 4000000 in
set_option maxRecDepth 100000 in
theorem k_X9_setting (G : Gt) (hG : gOK G) (l : Launch) (a0 : Nat) (h0 : gK G a0 = 10) (p1 : Int32) (M : Mem) {r : Int32} {M' : Mem} (hf : f_X9_setting a0 p1 M = some (r, M')) : Kc G l yX9_setting cX9_setting 2 (some .int) ({ frames := 1, cells := 0, slots := 0, locals := 22 } : Room) [.ref a0, .int p1] M (some (.int r)) M' := by
  refine start (by decide) (Nat.le_of_ble_eq_true rfl) ?_
  intro p e s m args below meth c ls hx hb hr hown hml hlocks hts hV hM hl
  have hown : s.vm.findClass "FoldedVoicesModel" = some m.cls := hown
  have hK := hG.1.moved hV
  have hS : va_S (gA G) s.heap s.heap [] := va_S.rf
  have hl : lv_has ls 2 [(0, .ref a0), (1, .int p1)] := hl
  have hM0 := hM
  rw [f_X9_setting] at hf
  refine lv_aload_n hx hb dX9_setting_0 rfl (lv_at hl 0 rfl) ?_
  refine lv_iconst (v := 0) hx hb dX9_setting_1 (by decide) ?_
  obtain ⟨M1, eM1, hf⟩ := nb_e hf
  refine s_put tyX9 hx hb (lay_9 hts) tyX9_ok nmX9 hown hK hM hS (ky_b hG h0) (c_10 h0) rfl 7 (by decide) rfl rfl rfl (Nat.le_of_ble_eq_true rfl) (cp_9_7 h0) (fun _ h9 => cel_sI _ h9) hM.2.2.sI rfl (tk_970 hts) dX9_setting_2 (fun H locs hM hS => ?_)
  rw [eM1] at hM
  refine lv_iload_n hx hb dX9_setting_5 rfl (lv_at hl 1 rfl) ?_
  refine lv_iconst (v := 0) hx hb dX9_setting_6 (by decide) ?_
  refine lv_iconst (v := 3) hx hb dX9_setting_7 (by decide) ?_
  obtain ⟨r3, e_2, hf⟩ := vb_e hf
  refine c_Si hx hb hml hown hts hV hM hS (As := [.int p1, .int 0, .int 3]) (rest := []) (k_X9_in G hG l p1 0 3 M1 e_2) w_X9_in (tk_1023 hts) ⟨⟨rfl, rfl⟩, Nat.le_of_ble_eq_true rfl, Nat.le_of_ble_eq_true rfl⟩ ⟨Nat.zero_le _, Nat.zero_le _⟩ rfl hl.1 rfl (Nat.le_of_ble_eq_true rfl) dX9_setting_8 (fun H locs hM hS => ?_)
  refine lv_if_eq (tgt := 23) hx hb dX9_setting_11 (by decide) (fun g_4 => ?_) (fun g_4 => ?_)
  · rw [if_pos g_4] at hf
    refine lv_aload_n hx hb dX9_setting_23 rfl (lv_at hl 0 rfl) ?_
    refine lv_iconst (v := 1) hx hb dX9_setting_24 (by decide) ?_
    obtain ⟨r6, M7, e_5, hf⟩ := cb_e hf
    refine c_Vi hx hb hml hown hts hV hK hM hS (As := [.int 1]) (rest := []) (k_X9_fails G hG l a0 h0 1 M1 e_5) w_X9_fails (tk_1026 hts) (c_10 h0) rfl rfl ⟨⟨rfl, rfl⟩, Nat.le_of_ble_eq_true rfl, Nat.le_of_ble_eq_true rfl⟩ ⟨Nat.zero_le _, Nat.zero_le _⟩ rfl hl.1 rfl (Nat.le_of_ble_eq_true rfl) dX9_setting_25 (fun H locs hM hS => ?_)
    exact ef_im hx hb hr hlocks hM hS hf dX9_setting_28
  · rw [if_neg g_4] at hf
    refine lv_aload_n hx hb dX9_setting_14 rfl (lv_at hl 0 rfl) ?_
    refine s_get hx hb (lay_9 hts) hown hK hM (c_10 h0) rfl 0 (by decide) rfl rfl (tk_963 hts) dX9_setting_15 ?_
    refine lv_iload_n hx hb dX9_setting_18 rfl (lv_at hl 1 rfl) ?_
    obtain ⟨h_8, hf⟩ := gd_e hf
    refine s_iald 626 hx hb hK hM (ky_10_0 hG h0) (by decide) h_8 dX9_setting_19 ?_
    refine lv_goto (tgt := 28) hx hb dX9_setting_20 (by decide) ?_
    exact ef_im hx hb hr hlocks hM hS hf dX9_setting_28
