def f_X9_makeCode_b104 (a0 : Nat) (p1 : Int32) (x2 : Int32) (x3 : Int32) (x4 : Int32) (M : Mem) : Option (Int32 × Mem) := vb (f_X9_put a0 p1 ((5 : Int32) + x4) x3 M) fun M2 => vb (f_X9_put a0 p1 ((13 : Int32) + x4) x2 M2) fun M4 => vb (f_X9_put a0 p1 4 (x4 + 1) M4) fun M6 => vb (f_X9_add a0 p1 22 1 M6) fun M8 => vb (f_X9_follow a0 p1 0 x3 M8) fun M10 => some (x3, M10)
def f_X9_makeCode_b32 (a0 : Nat) (p1 : Int32) (xs0 : Int32) (M : Mem) : Option (Int32 × Mem) := vb (f_X9_put a0 p1 3 0 M) fun M12 => vb (f_X9_put a0 p1 2 0 M12) fun M14 => vb (f_X9_of a0 p1 0 M14) fun r16 => vb (f_X9_of a0 p1 1 M14) fun r18 => vb (f_X9_codeOf a0 xs0 r16 r18 M14) fun r20 => vb (f_X9_of a0 p1 4 M14) fun r22 => if r22 = 0 then (vb (f_X9_of a0 p1 0 M14) fun r25 => vb (f_X9_put a0 p1 24 r25 M14) fun M27 => vb (f_X9_of a0 p1 1 M27) fun r29 => vb (f_X9_put a0 p1 25 r29 M27) fun M31 => f_X9_makeCode_b104 a0 p1 xs0 r20 r22 M31) else (f_X9_makeCode_b104 a0 p1 xs0 r20 r22 M14)
def f_X9_makeCode (a0 : Nat) (p1 : Int32) (M : Mem) : Option (Int32 × Mem) := vb (f_X9_of a0 p1 3 M) fun r33 => vb (f_X9_of a0 p1 2 M) fun r35 => gd (¬ r35 = 0) <| nb (r33 / r35) fun y37 => vb (f_X9_size y37 M) fun r39 => gd (ix (1 : Int32) 626) <| if (mI M (a0 + 1) (1 : Int32).toNatClampNeg) ≤ r39 then (f_X9_makeCode_b32 a0 p1 y37 M) else (f_X9_makeCode_b32 a0 p1 0 M)
set_option maxHeartbeats 4000000 in
set_option maxRecDepth 100000 in
theorem k_X9_makeCode (G : Gt) (hG : gOK G) (l : Launch) (a0 : Nat) (h0 : gK G a0 = 10) (p1 : Int32) (M : Mem) {r : Int32} {M' : Mem} (hf : f_X9_makeCode a0 p1 M = some (r, M')) : Kc G l yX9_makeCode cX9_makeCode 5 (some .int) ({ frames := 2, cells := 0, slots := 0, locals := 50 } : Room) [.ref a0, .int p1] M (some (.int r)) M' := by
  refine start (by decide) (Nat.le_of_ble_eq_true rfl) ?_
  intro p e s m args below meth c ls hx hb hr hown hml hlocks hts hV hM hl
  have hown : s.vm.findClass "FoldedVoicesModel" = some m.cls := hown
  have hK := hG.1.moved hV
  have hS : va_S (gA G) s.heap s.heap [] := va_S.rf
  have hl : lv_has ls 5 [(0, .ref a0), (1, .int p1)] := hl
  have hM0 := hM
  have b104 : ∀ (x2 : Int32) (x3 : Int32) (x4 : Int32) (M : Mem) (H : Heap) (locs : List Loc) (ls : Array Slot), Mh G M H → va_S (gA G) s.heap H locs → lv_has ls 5 [(0, .ref a0), (1, .int p1), (2, .int x2), (3, .int x3), (4, .int x4)] → f_X9_makeCode_b104 a0 p1 x2 x3 x4 M = some (r, M') → W p l e ({ frames := 2, cells := 0, slots := 0, locals := 50 } : Room) s m args below meth c H locs 0 0 (MQ below (QV G (some (.int r)) M') args s 0 0 (gA G)) (F0 m 104 ls []) := by
    intro x2 x3 x4 M H locs ls hM hS hl hf
    rw [f_X9_makeCode_b104] at hf
    refine lv_aload_n hx hb dX9_makeCode_104 rfl (lv_at hl 0 rfl) ?_
    refine lv_iload_n hx hb dX9_makeCode_105 rfl (lv_at hl 1 rfl) ?_
    refine lv_iconst (v := 5) hx hb dX9_makeCode_106 (by decide) ?_
    refine lv_iload hx hb dX9_makeCode_107 (lv_at hl 4 rfl) ?_
    refine lv_iadd hx hb dX9_makeCode_109 ?_
    refine lv_iload_n hx hb dX9_makeCode_110 rfl (lv_at hl 3 rfl) ?_
    obtain ⟨M2, e_1, hf⟩ := vb_e hf
    refine c_Vv hx hb hml hown hts hV hK hM hS (As := [.int p1, .int ((5 : Int32) + x4), .int x3]) (rest := []) (k_X9_put G hG l a0 h0 p1 ((5 : Int32) + x4) x3 M e_1) w_X9_put (tk_1064 hts) (c_10 h0) rfl rfl ⟨⟨rfl, rfl⟩, Nat.le_of_ble_eq_true rfl, Nat.le_of_ble_eq_true rfl⟩ ⟨Nat.zero_le _, Nat.zero_le _⟩ rfl hl.1 rfl (Nat.le_of_ble_eq_true rfl) dX9_makeCode_111 (fun H locs hM hS => ?_)
    refine lv_aload_n hx hb dX9_makeCode_114 rfl (lv_at hl 0 rfl) ?_
    refine lv_iload_n hx hb dX9_makeCode_115 rfl (lv_at hl 1 rfl) ?_
    refine lv_bipush (v := 13) hx hb dX9_makeCode_116 (by decide) ?_
    refine lv_iload hx hb dX9_makeCode_118 (lv_at hl 4 rfl) ?_
    refine lv_iadd hx hb dX9_makeCode_120 ?_
    refine lv_iload_n hx hb dX9_makeCode_121 rfl (lv_at hl 2 rfl) ?_
    obtain ⟨M4, e_3, hf⟩ := vb_e hf
    refine c_Vv hx hb hml hown hts hV hK hM hS (As := [.int p1, .int ((13 : Int32) + x4), .int x2]) (rest := []) (k_X9_put G hG l a0 h0 p1 ((13 : Int32) + x4) x2 M2 e_3) w_X9_put (tk_1064 hts) (c_10 h0) rfl rfl ⟨⟨rfl, rfl⟩, Nat.le_of_ble_eq_true rfl, Nat.le_of_ble_eq_true rfl⟩ ⟨Nat.zero_le _, Nat.zero_le _⟩ rfl hl.1 rfl (Nat.le_of_ble_eq_true rfl) dX9_makeCode_122 (fun H locs hM hS => ?_)
    refine lv_aload_n hx hb dX9_makeCode_125 rfl (lv_at hl 0 rfl) ?_
    refine lv_iload_n hx hb dX9_makeCode_126 rfl (lv_at hl 1 rfl) ?_
    refine lv_iconst (v := 4) hx hb dX9_makeCode_127 (by decide) ?_
    refine lv_iload hx hb dX9_makeCode_128 (lv_at hl 4 rfl) ?_
    refine lv_iconst (v := 1) hx hb dX9_makeCode_130 (by decide) ?_
    refine lv_iadd hx hb dX9_makeCode_131 ?_
    obtain ⟨M6, e_5, hf⟩ := vb_e hf
    refine c_Vv hx hb hml hown hts hV hK hM hS (As := [.int p1, .int 4, .int (x4 + 1)]) (rest := []) (k_X9_put G hG l a0 h0 p1 4 (x4 + 1) M4 e_5) w_X9_put (tk_1064 hts) (c_10 h0) rfl rfl ⟨⟨rfl, rfl⟩, Nat.le_of_ble_eq_true rfl, Nat.le_of_ble_eq_true rfl⟩ ⟨Nat.zero_le _, Nat.zero_le _⟩ rfl hl.1 rfl (Nat.le_of_ble_eq_true rfl) dX9_makeCode_132 (fun H locs hM hS => ?_)
    refine lv_aload_n hx hb dX9_makeCode_135 rfl (lv_at hl 0 rfl) ?_
    refine lv_iload_n hx hb dX9_makeCode_136 rfl (lv_at hl 1 rfl) ?_
    refine lv_bipush (v := 22) hx hb dX9_makeCode_137 (by decide) ?_
    refine lv_iconst (v := 1) hx hb dX9_makeCode_139 (by decide) ?_
    obtain ⟨M8, e_7, hf⟩ := vb_e hf
    refine c_Vv hx hb hml hown hts hV hK hM hS (As := [.int p1, .int 22, .int 1]) (rest := []) (k_X9_add G hG l a0 h0 p1 22 1 M6 e_7) w_X9_add (tk_1053 hts) (c_10 h0) rfl rfl ⟨⟨rfl, rfl⟩, Nat.le_of_ble_eq_true rfl, Nat.le_of_ble_eq_true rfl⟩ ⟨Nat.zero_le _, Nat.zero_le _⟩ rfl hl.1 rfl (Nat.le_of_ble_eq_true rfl) dX9_makeCode_140 (fun H locs hM hS => ?_)
    refine lv_aload_n hx hb dX9_makeCode_143 rfl (lv_at hl 0 rfl) ?_
    refine lv_iload_n hx hb dX9_makeCode_144 rfl (lv_at hl 1 rfl) ?_
    refine lv_iconst (v := 0) hx hb dX9_makeCode_145 (by decide) ?_
    refine lv_iload_n hx hb dX9_makeCode_146 rfl (lv_at hl 3 rfl) ?_
    obtain ⟨M10, e_9, hf⟩ := vb_e hf
    refine c_Vv hx hb hml hown hts hV hK hM hS (As := [.int p1, .int 0, .int x3]) (rest := []) (k_X9_follow G hG l a0 h0 p1 0 x3 M8 e_9) w_X9_follow (tk_1072 hts) (c_10 h0) rfl rfl ⟨⟨rfl, rfl⟩, Nat.le_of_ble_eq_true rfl, Nat.le_of_ble_eq_true rfl⟩ ⟨Nat.zero_le _, Nat.zero_le _⟩ rfl hl.1 rfl (Nat.le_of_ble_eq_true rfl) dX9_makeCode_147 (fun H locs hM hS => ?_)
    refine lv_iload_n hx hb dX9_makeCode_150 rfl (lv_at hl 3 rfl) ?_
    exact ef_im hx hb hr hlocks hM hS hf dX9_makeCode_151
  have b32 : ∀ (xs0 : Int32) (M : Mem) (H : Heap) (locs : List Loc) (ls : Array Slot), Mh G M H → va_S (gA G) s.heap H locs → lv_has ls 5 [(0, .ref a0), (1, .int p1)] → f_X9_makeCode_b32 a0 p1 xs0 M = some (r, M') → W p l e ({ frames := 2, cells := 0, slots := 0, locals := 50 } : Room) s m args below meth c H locs 0 0 (MQ below (QV G (some (.int r)) M') args s 0 0 (gA G)) (F0 m 32 ls [.int xs0]) := by
    intro xs0 M H locs ls hM hS hl hf
    rw [f_X9_makeCode_b32] at hf
    refine lv_istore_n (lv' := [(2, .int xs0), (0, .ref a0), (1, .int p1)]) hx hb dX9_makeCode_32 rfl hl (by decide) rfl (fun ls hl => ?_)
    refine lv_aload_n hx hb dX9_makeCode_33 rfl (lv_at hl 1 rfl) ?_
    refine lv_iload_n hx hb dX9_makeCode_34 rfl (lv_at hl 2 rfl) ?_
    refine lv_iconst (v := 3) hx hb dX9_makeCode_35 (by decide) ?_
    refine lv_iconst (v := 0) hx hb dX9_makeCode_36 (by decide) ?_
    obtain ⟨M12, e_11, hf⟩ := vb_e hf
    refine c_Vv hx hb hml hown hts hV hK hM hS (As := [.int p1, .int 3, .int 0]) (rest := []) (k_X9_put G hG l a0 h0 p1 3 0 M e_11) w_X9_put (tk_1064 hts) (c_10 h0) rfl rfl ⟨⟨rfl, rfl⟩, Nat.le_of_ble_eq_true rfl, Nat.le_of_ble_eq_true rfl⟩ ⟨Nat.zero_le _, Nat.zero_le _⟩ rfl hl.1 rfl (Nat.le_of_ble_eq_true rfl) dX9_makeCode_37 (fun H locs hM hS => ?_)
    refine lv_aload_n hx hb dX9_makeCode_40 rfl (lv_at hl 1 rfl) ?_
    refine lv_iload_n hx hb dX9_makeCode_41 rfl (lv_at hl 2 rfl) ?_
    refine lv_iconst (v := 2) hx hb dX9_makeCode_42 (by decide) ?_
    refine lv_iconst (v := 0) hx hb dX9_makeCode_43 (by decide) ?_
    obtain ⟨M14, e_13, hf⟩ := vb_e hf
    refine c_Vv hx hb hml hown hts hV hK hM hS (As := [.int p1, .int 2, .int 0]) (rest := []) (k_X9_put G hG l a0 h0 p1 2 0 M12 e_13) w_X9_put (tk_1064 hts) (c_10 h0) rfl rfl ⟨⟨rfl, rfl⟩, Nat.le_of_ble_eq_true rfl, Nat.le_of_ble_eq_true rfl⟩ ⟨Nat.zero_le _, Nat.zero_le _⟩ rfl hl.1 rfl (Nat.le_of_ble_eq_true rfl) dX9_makeCode_44 (fun H locs hM hS => ?_)
    refine lv_aload_n hx hb dX9_makeCode_47 rfl (lv_at hl 1 rfl) ?_
    refine lv_iload_n hx hb dX9_makeCode_48 rfl (lv_at hl 0 rfl) ?_
    refine lv_aload_n hx hb dX9_makeCode_49 rfl (lv_at hl 1 rfl) ?_
    refine lv_iload_n hx hb dX9_makeCode_50 rfl (lv_at hl 2 rfl) ?_
    refine lv_iconst (v := 0) hx hb dX9_makeCode_51 (by decide) ?_
    obtain ⟨r16, e_15, hf⟩ := vb_e hf
    refine c_Vi hx hb hml hown hts hV hK hM hS (As := [.int p1, .int 0]) (rest := [.int xs0, .ref a0]) (k_X9_of G hG l a0 h0 p1 0 M14 e_15) w_X9_of (tk_1037 hts) (c_10 h0) rfl rfl ⟨⟨rfl, rfl⟩, Nat.le_of_ble_eq_true rfl, Nat.le_of_ble_eq_true rfl⟩ ⟨Nat.zero_le _, Nat.zero_le _⟩ rfl hl.1 rfl (Nat.le_of_ble_eq_true rfl) dX9_makeCode_52 (fun H locs hM hS => ?_)
    refine lv_aload_n hx hb dX9_makeCode_55 rfl (lv_at hl 1 rfl) ?_
    refine lv_iload_n hx hb dX9_makeCode_56 rfl (lv_at hl 2 rfl) ?_
    refine lv_iconst (v := 1) hx hb dX9_makeCode_57 (by decide) ?_
    obtain ⟨r18, e_17, hf⟩ := vb_e hf
    refine c_Vi hx hb hml hown hts hV hK hM hS (As := [.int p1, .int 1]) (rest := [.int r16, .int xs0, .ref a0]) (k_X9_of G hG l a0 h0 p1 1 M14 e_17) w_X9_of (tk_1037 hts) (c_10 h0) rfl rfl ⟨⟨rfl, rfl⟩, Nat.le_of_ble_eq_true rfl, Nat.le_of_ble_eq_true rfl⟩ ⟨Nat.zero_le _, Nat.zero_le _⟩ rfl hl.1 rfl (Nat.le_of_ble_eq_true rfl) dX9_makeCode_58 (fun H locs hM hS => ?_)
    obtain ⟨r20, e_19, hf⟩ := vb_e hf
    refine c_Vi hx hb hml hown hts hV hK hM hS (As := [.int xs0, .int r16, .int r18]) (rest := []) (k_X9_codeOf G hG l a0 h0 xs0 r16 r18 M14 e_19) w_X9_codeOf (tk_1068 hts) (c_10 h0) rfl rfl ⟨⟨rfl, rfl⟩, Nat.le_of_ble_eq_true rfl, Nat.le_of_ble_eq_true rfl⟩ ⟨Nat.zero_le _, Nat.zero_le _⟩ rfl hl.1 rfl (Nat.le_of_ble_eq_true rfl) dX9_makeCode_61 (fun H locs hM hS => ?_)
    refine lv_istore_n (lv' := [(3, .int r20), (2, .int xs0), (0, .ref a0), (1, .int p1)]) hx hb dX9_makeCode_64 rfl hl (by decide) rfl (fun ls hl => ?_)
    refine lv_aload_n hx hb dX9_makeCode_65 rfl (lv_at hl 2 rfl) ?_
    refine lv_iload_n hx hb dX9_makeCode_66 rfl (lv_at hl 3 rfl) ?_
    refine lv_iconst (v := 4) hx hb dX9_makeCode_67 (by decide) ?_
    obtain ⟨r22, e_21, hf⟩ := vb_e hf
    refine c_Vi hx hb hml hown hts hV hK hM hS (As := [.int p1, .int 4]) (rest := []) (k_X9_of G hG l a0 h0 p1 4 M14 e_21) w_X9_of (tk_1037 hts) (c_10 h0) rfl rfl ⟨⟨rfl, rfl⟩, Nat.le_of_ble_eq_true rfl, Nat.le_of_ble_eq_true rfl⟩ ⟨Nat.zero_le _, Nat.zero_le _⟩ rfl hl.1 rfl (Nat.le_of_ble_eq_true rfl) dX9_makeCode_68 (fun H locs hM hS => ?_)
    refine lv_istore (lv' := [(4, .int r22), (3, .int r20), (2, .int xs0), (0, .ref a0), (1, .int p1)]) hx hb dX9_makeCode_71 hl (by decide) rfl (fun ls hl => ?_)
    refine lv_iload hx hb dX9_makeCode_73 (lv_at hl 0 rfl) ?_
    refine lv_if_ne (tgt := 104) hx hb dX9_makeCode_75 (by decide) (fun g_23 => ?_) (fun g_23 => ?_)
    · rw [if_neg g_23] at hf
      exact b104 xs0 r20 r22 _ H locs ls hM hS (lv_sub hl [3, 4, 2, 1, 0] rfl) hf
    · rw [if_pos g_23] at hf
      refine lv_aload_n hx hb dX9_makeCode_78 rfl (lv_at hl 3 rfl) ?_
      refine lv_iload_n hx hb dX9_makeCode_79 rfl (lv_at hl 4 rfl) ?_
      refine lv_bipush (v := 24) hx hb dX9_makeCode_80 (by decide) ?_
      refine lv_aload_n hx hb dX9_makeCode_82 rfl (lv_at hl 3 rfl) ?_
      refine lv_iload_n hx hb dX9_makeCode_83 rfl (lv_at hl 4 rfl) ?_
      refine lv_iconst (v := 0) hx hb dX9_makeCode_84 (by decide) ?_
      obtain ⟨r25, e_24, hf⟩ := vb_e hf
      refine c_Vi hx hb hml hown hts hV hK hM hS (As := [.int p1, .int 0]) (rest := [.int 24, .int p1, .ref a0]) (k_X9_of G hG l a0 h0 p1 0 M14 e_24) w_X9_of (tk_1037 hts) (c_10 h0) rfl rfl ⟨⟨rfl, rfl⟩, Nat.le_of_ble_eq_true rfl, Nat.le_of_ble_eq_true rfl⟩ ⟨Nat.zero_le _, Nat.zero_le _⟩ rfl hl.1 rfl (Nat.le_of_ble_eq_true rfl) dX9_makeCode_85 (fun H locs hM hS => ?_)
      obtain ⟨M27, e_26, hf⟩ := vb_e hf
      refine c_Vv hx hb hml hown hts hV hK hM hS (As := [.int p1, .int 24, .int r25]) (rest := []) (k_X9_put G hG l a0 h0 p1 24 r25 M14 e_26) w_X9_put (tk_1064 hts) (c_10 h0) rfl rfl ⟨⟨rfl, rfl⟩, Nat.le_of_ble_eq_true rfl, Nat.le_of_ble_eq_true rfl⟩ ⟨Nat.zero_le _, Nat.zero_le _⟩ rfl hl.1 rfl (Nat.le_of_ble_eq_true rfl) dX9_makeCode_88 (fun H locs hM hS => ?_)
      refine lv_aload_n hx hb dX9_makeCode_91 rfl (lv_at hl 3 rfl) ?_
      refine lv_iload_n hx hb dX9_makeCode_92 rfl (lv_at hl 4 rfl) ?_
      refine lv_bipush (v := 25) hx hb dX9_makeCode_93 (by decide) ?_
      refine lv_aload_n hx hb dX9_makeCode_95 rfl (lv_at hl 3 rfl) ?_
      refine lv_iload_n hx hb dX9_makeCode_96 rfl (lv_at hl 4 rfl) ?_
      refine lv_iconst (v := 1) hx hb dX9_makeCode_97 (by decide) ?_
      obtain ⟨r29, e_28, hf⟩ := vb_e hf
      refine c_Vi hx hb hml hown hts hV hK hM hS (As := [.int p1, .int 1]) (rest := [.int 25, .int p1, .ref a0]) (k_X9_of G hG l a0 h0 p1 1 M27 e_28) w_X9_of (tk_1037 hts) (c_10 h0) rfl rfl ⟨⟨rfl, rfl⟩, Nat.le_of_ble_eq_true rfl, Nat.le_of_ble_eq_true rfl⟩ ⟨Nat.zero_le _, Nat.zero_le _⟩ rfl hl.1 rfl (Nat.le_of_ble_eq_true rfl) dX9_makeCode_98 (fun H locs hM hS => ?_)
      obtain ⟨M31, e_30, hf⟩ := vb_e hf
      refine c_Vv hx hb hml hown hts hV hK hM hS (As := [.int p1, .int 25, .int r29]) (rest := []) (k_X9_put G hG l a0 h0 p1 25 r29 M27 e_30) w_X9_put (tk_1064 hts) (c_10 h0) rfl rfl ⟨⟨rfl, rfl⟩, Nat.le_of_ble_eq_true rfl, Nat.le_of_ble_eq_true rfl⟩ ⟨Nat.zero_le _, Nat.zero_le _⟩ rfl hl.1 rfl (Nat.le_of_ble_eq_true rfl) dX9_makeCode_101 (fun H locs hM hS => ?_)
      exact b104 xs0 r20 r22 _ H locs ls hM hS (lv_sub hl [3, 4, 2, 1, 0] rfl) hf
  rw [f_X9_makeCode] at hf
  obtain ⟨H, hHe⟩ : ∃ H, H = s.heap := ⟨_, rfl⟩
  obtain ⟨locs, hLe⟩ : ∃ L : List Loc, L = [] := ⟨_, rfl⟩
  rw [← hHe] at hM
  have hS : va_S (gA G) s.heap H locs := by rw [hHe, hLe]; exact va_S.rf
  suffices hW : W p l e ({ frames := 2, cells := 0, slots := 0, locals := 50 } : Room) s m args below meth c H locs 0 0 (MQ below (QV G (some (.int r)) M') args s 0 0 (gA G)) (F0 m 0 ls []) by rw [hHe, hLe] at hW; exact hW
  refine lv_aload_n hx hb dX9_makeCode_0 rfl (lv_at hl 0 rfl) ?_
  refine lv_iload_n hx hb dX9_makeCode_1 rfl (lv_at hl 1 rfl) ?_
  refine lv_iconst (v := 3) hx hb dX9_makeCode_2 (by decide) ?_
  obtain ⟨r33, e_32, hf⟩ := vb_e hf
  refine c_Vi hx hb hml hown hts hV hK hM hS (As := [.int p1, .int 3]) (rest := []) (k_X9_of G hG l a0 h0 p1 3 M e_32) w_X9_of (tk_1037 hts) (c_10 h0) rfl rfl ⟨⟨rfl, rfl⟩, Nat.le_of_ble_eq_true rfl, Nat.le_of_ble_eq_true rfl⟩ ⟨Nat.zero_le _, Nat.zero_le _⟩ rfl hl.1 rfl (Nat.le_of_ble_eq_true rfl) dX9_makeCode_3 (fun H locs hM hS => ?_)
  refine lv_aload_n hx hb dX9_makeCode_6 rfl (lv_at hl 0 rfl) ?_
  refine lv_iload_n hx hb dX9_makeCode_7 rfl (lv_at hl 1 rfl) ?_
  refine lv_iconst (v := 2) hx hb dX9_makeCode_8 (by decide) ?_
  obtain ⟨r35, e_34, hf⟩ := vb_e hf
  refine c_Vi hx hb hml hown hts hV hK hM hS (As := [.int p1, .int 2]) (rest := [.int r33]) (k_X9_of G hG l a0 h0 p1 2 M e_34) w_X9_of (tk_1037 hts) (c_10 h0) rfl rfl ⟨⟨rfl, rfl⟩, Nat.le_of_ble_eq_true rfl, Nat.le_of_ble_eq_true rfl⟩ ⟨Nat.zero_le _, Nat.zero_le _⟩ rfl hl.1 rfl (Nat.le_of_ble_eq_true rfl) dX9_makeCode_9 (fun H locs hM hS => ?_)
  obtain ⟨h_36, hf⟩ := gd_e hf
  refine lv_idiv hx hb dX9_makeCode_12 h_36 ?_
  obtain ⟨y37, ey37, hf⟩ := nb_e hf
  refine s_nm ey37 ?_
  refine lv_istore_n (lv' := [(2, .int y37), (0, .ref a0), (1, .int p1)]) hx hb dX9_makeCode_13 rfl hl (by decide) rfl (fun ls hl => ?_)
  refine lv_iload_n hx hb dX9_makeCode_14 rfl (lv_at hl 0 rfl) ?_
  obtain ⟨r39, e_38, hf⟩ := vb_e hf
  refine c_Si hx hb hml hown hts hV hM hS (As := [.int y37]) (rest := []) (k_X9_size G hG l y37 M e_38) w_X9_size (tk_1061 hts) ⟨⟨rfl, rfl⟩, Nat.le_of_ble_eq_true rfl, Nat.le_of_ble_eq_true rfl⟩ ⟨Nat.zero_le _, Nat.zero_le _⟩ rfl hl.1 rfl (Nat.le_of_ble_eq_true rfl) dX9_makeCode_15 (fun H locs hM hS => ?_)
  refine lv_aload_n hx hb dX9_makeCode_18 rfl (lv_at hl 1 rfl) ?_
  refine s_get hx hb (lay_9 hts) hown hK hM (c_10 h0) rfl 0 (by decide) rfl rfl (tk_963 hts) dX9_makeCode_19 ?_
  refine lv_iconst (v := 1) hx hb dX9_makeCode_22 (by decide) ?_
  obtain ⟨h_40, hf⟩ := gd_e hf
  refine s_iald 626 hx hb hK hM (ky_10_0 hG h0) (by decide) h_40 dX9_makeCode_23 ?_
  refine lv_icmp_ge (tgt := 31) hx hb dX9_makeCode_24 (by decide) (fun g_41 => ?_) (fun g_41 => ?_)
  · rw [if_pos g_41] at hf
    refine lv_iload_n hx hb dX9_makeCode_31 rfl (lv_at hl 0 rfl) ?_
    exact b32 y37 _ H locs ls hM hS (lv_sub hl [1, 2] rfl) hf
  · rw [if_neg g_41] at hf
    refine lv_iconst (v := 0) hx hb dX9_makeCode_27 (by decide) ?_
    refine lv_goto (tgt := 32) hx hb dX9_makeCode_28 (by decide) ?_
    exact b32 0 _ H locs ls hM hS (lv_sub hl [1, 2] rfl) hf
def f_X9_sayNow_b45 (a0 : Nat) (p1 : Int32) (p2 : Int32) (xs0 : Int32) (M : Mem) : Option (Int32 × Mem) := vb (f_X9_of a0 p1 4 M) fun r2 => gd (ix (2 : Int32) 626) <| if r2 < (mI M (a0 + 1) (2 : Int32).toNatClampNeg) then (some (xs0, M)) else (vb (f_X9_makePacket a0 p1 M) fun M6 => some (xs0, M6))
def f_X9_sayNow (a0 : Nat) (p1 : Int32) (p2 : Int32) (M : Mem) : Option (Int32 × Mem) := vb (f_X9_makesCode a0 p1 M) fun r8 => vb (f_X9_add a0 p1 3 p2 M) fun M10 => vb (f_X9_add a0 p1 2 1 M10) fun M12 => gd (ix (4 : Int32) 626) <| gd (ix (4 : Int32) 626) <| nb (sI M12 (a0 + 1) (4 : Int32).toNatClampNeg ((mI M12 (a0 + 1) (4 : Int32).toNatClampNeg) + 1)) fun M15 => if r8 = 0 then (f_X9_sayNow_b45 a0 p1 p2 (-10000) M15) else (cb (f_X9_makeCode a0 p1 M15) fun r18 M19 => f_X9_sayNow_b45 a0 p1 p2 r18 M19)
set_option maxHeartbeats 4000000 in
set_option maxRecDepth 100000 in
theorem k_X9_sayNow (G : Gt) (hG : gOK G) (l : Launch) (a0 : Nat) (h0 : gK G a0 = 10) (p1 : Int32) (p2 : Int32) (M : Mem) {r : Int32} {M' : Mem} (hf : f_X9_sayNow a0 p1 p2 M = some (r, M')) : Kc G l yX9_sayNow cX9_sayNow 5 (some .int) ({ frames := 3, cells := 0, slots := 0, locals := 74 } : Room) [.ref a0, .int p1, .int p2] M (some (.int r)) M' := by
  refine start (by decide) (Nat.le_of_ble_eq_true rfl) ?_
  intro p e s m args below meth c ls hx hb hr hown hml hlocks hts hV hM hl
  have hown : s.vm.findClass "FoldedVoicesModel" = some m.cls := hown
  have hK := hG.1.moved hV
  have hS : va_S (gA G) s.heap s.heap [] := va_S.rf
  have hl : lv_has ls 5 [(0, .ref a0), (1, .int p1), (2, .int p2)] := hl
  have hM0 := hM
  have b45 : ∀ (xs0 : Int32) (M : Mem) (H : Heap) (locs : List Loc) (ls : Array Slot), Mh G M H → va_S (gA G) s.heap H locs → lv_has ls 5 [(0, .ref a0), (1, .int p1), (2, .int p2)] → f_X9_sayNow_b45 a0 p1 p2 xs0 M = some (r, M') → W p l e ({ frames := 3, cells := 0, slots := 0, locals := 74 } : Room) s m args below meth c H locs 0 0 (MQ below (QV G (some (.int r)) M') args s 0 0 (gA G)) (F0 m 45 ls [.int xs0]) := by
    intro xs0 M H locs ls hM hS hl hf
    rw [f_X9_sayNow_b45] at hf
    refine lv_istore (lv' := [(4, .int xs0), (0, .ref a0), (1, .int p1), (2, .int p2)]) hx hb dX9_sayNow_45 hl (by decide) rfl (fun ls hl => ?_)
    refine lv_aload_n hx hb dX9_sayNow_47 rfl (lv_at hl 1 rfl) ?_
    refine lv_iload_n hx hb dX9_sayNow_48 rfl (lv_at hl 2 rfl) ?_
    refine lv_iconst (v := 4) hx hb dX9_sayNow_49 (by decide) ?_
    obtain ⟨r2, e_1, hf⟩ := vb_e hf
    refine c_Vi hx hb hml hown hts hV hK hM hS (As := [.int p1, .int 4]) (rest := []) (k_X9_of G hG l a0 h0 p1 4 M e_1) w_X9_of (tk_1037 hts) (c_10 h0) rfl rfl ⟨⟨rfl, rfl⟩, Nat.le_of_ble_eq_true rfl, Nat.le_of_ble_eq_true rfl⟩ ⟨Nat.zero_le _, Nat.zero_le _⟩ rfl hl.1 rfl (Nat.le_of_ble_eq_true rfl) dX9_sayNow_50 (fun H locs hM hS => ?_)
    refine lv_aload_n hx hb dX9_sayNow_53 rfl (lv_at hl 1 rfl) ?_
    refine s_get hx hb (lay_9 hts) hown hK hM (c_10 h0) rfl 0 (by decide) rfl rfl (tk_963 hts) dX9_sayNow_54 ?_
    refine lv_iconst (v := 2) hx hb dX9_sayNow_57 (by decide) ?_
    obtain ⟨h_3, hf⟩ := gd_e hf
    refine s_iald 626 hx hb hK hM (ky_10_0 hG h0) (by decide) h_3 dX9_sayNow_58 ?_
    refine lv_icmp_lt (tgt := 67) hx hb dX9_sayNow_59 (by decide) (fun g_4 => ?_) (fun g_4 => ?_)
    · rw [if_pos g_4] at hf
      refine lv_iload hx hb dX9_sayNow_67 (lv_at hl 0 rfl) ?_
      exact ef_im hx hb hr hlocks hM hS hf dX9_sayNow_69
    · rw [if_neg g_4] at hf
      refine lv_aload_n hx hb dX9_sayNow_62 rfl (lv_at hl 1 rfl) ?_
      refine lv_iload_n hx hb dX9_sayNow_63 rfl (lv_at hl 2 rfl) ?_
      obtain ⟨M6, e_5, hf⟩ := vb_e hf
      refine c_Vv hx hb hml hown hts hV hK hM hS (As := [.int p1]) (rest := []) (k_X9_makePacket G hG l a0 h0 p1 M e_5) w_X9_makePacket (tk_1083 hts) (c_10 h0) rfl rfl ⟨⟨rfl, rfl⟩, Nat.le_of_ble_eq_true rfl, Nat.le_of_ble_eq_true rfl⟩ ⟨Nat.zero_le _, Nat.zero_le _⟩ rfl hl.1 rfl (Nat.le_of_ble_eq_true rfl) dX9_sayNow_64 (fun H locs hM hS => ?_)
      refine lv_iload hx hb dX9_sayNow_67 (lv_at hl 0 rfl) ?_
      exact ef_im hx hb hr hlocks hM hS hf dX9_sayNow_69
  rw [f_X9_sayNow] at hf
  obtain ⟨H, hHe⟩ : ∃ H, H = s.heap := ⟨_, rfl⟩
  obtain ⟨locs, hLe⟩ : ∃ L : List Loc, L = [] := ⟨_, rfl⟩
  rw [← hHe] at hM
  have hS : va_S (gA G) s.heap H locs := by rw [hHe, hLe]; exact va_S.rf
  suffices hW : W p l e ({ frames := 3, cells := 0, slots := 0, locals := 74 } : Room) s m args below meth c H locs 0 0 (MQ below (QV G (some (.int r)) M') args s 0 0 (gA G)) (F0 m 0 ls []) by rw [hHe, hLe] at hW; exact hW
  refine lv_aload_n hx hb dX9_sayNow_0 rfl (lv_at hl 0 rfl) ?_
  refine lv_iload_n hx hb dX9_sayNow_1 rfl (lv_at hl 1 rfl) ?_
  obtain ⟨r8, e_7, hf⟩ := vb_e hf
  refine c_Vi hx hb hml hown hts hV hK hM hS (As := [.int p1]) (rest := []) (k_X9_makesCode G hG l a0 h0 p1 M e_7) w_X9_makesCode (tk_1041 hts) (c_10 h0) rfl rfl ⟨⟨rfl, rfl⟩, Nat.le_of_ble_eq_true rfl, Nat.le_of_ble_eq_true rfl⟩ ⟨Nat.zero_le _, Nat.zero_le _⟩ rfl hl.1 rfl (Nat.le_of_ble_eq_true rfl) dX9_sayNow_2 (fun H locs hM hS => ?_)
  refine lv_istore_n (lv' := [(3, .int r8), (0, .ref a0), (1, .int p1), (2, .int p2)]) hx hb dX9_sayNow_5 rfl hl (by decide) rfl (fun ls hl => ?_)
  refine lv_aload_n hx hb dX9_sayNow_6 rfl (lv_at hl 1 rfl) ?_
  refine lv_iload_n hx hb dX9_sayNow_7 rfl (lv_at hl 2 rfl) ?_
  refine lv_iconst (v := 3) hx hb dX9_sayNow_8 (by decide) ?_
  refine lv_iload_n hx hb dX9_sayNow_9 rfl (lv_at hl 3 rfl) ?_
  obtain ⟨M10, e_9, hf⟩ := vb_e hf
  refine c_Vv hx hb hml hown hts hV hK hM hS (As := [.int p1, .int 3, .int p2]) (rest := []) (k_X9_add G hG l a0 h0 p1 3 p2 M e_9) w_X9_add (tk_1053 hts) (c_10 h0) rfl rfl ⟨⟨rfl, rfl⟩, Nat.le_of_ble_eq_true rfl, Nat.le_of_ble_eq_true rfl⟩ ⟨Nat.zero_le _, Nat.zero_le _⟩ rfl hl.1 rfl (Nat.le_of_ble_eq_true rfl) dX9_sayNow_10 (fun H locs hM hS => ?_)
  refine lv_aload_n hx hb dX9_sayNow_13 rfl (lv_at hl 1 rfl) ?_
  refine lv_iload_n hx hb dX9_sayNow_14 rfl (lv_at hl 2 rfl) ?_
  refine lv_iconst (v := 2) hx hb dX9_sayNow_15 (by decide) ?_
  refine lv_iconst (v := 1) hx hb dX9_sayNow_16 (by decide) ?_
  obtain ⟨M12, e_11, hf⟩ := vb_e hf
  refine c_Vv hx hb hml hown hts hV hK hM hS (As := [.int p1, .int 2, .int 1]) (rest := []) (k_X9_add G hG l a0 h0 p1 2 1 M10 e_11) w_X9_add (tk_1053 hts) (c_10 h0) rfl rfl ⟨⟨rfl, rfl⟩, Nat.le_of_ble_eq_true rfl, Nat.le_of_ble_eq_true rfl⟩ ⟨Nat.zero_le _, Nat.zero_le _⟩ rfl hl.1 rfl (Nat.le_of_ble_eq_true rfl) dX9_sayNow_17 (fun H locs hM hS => ?_)
  refine lv_aload_n hx hb dX9_sayNow_20 rfl (lv_at hl 1 rfl) ?_
  refine s_get hx hb (lay_9 hts) hown hK hM (c_10 h0) rfl 0 (by decide) rfl rfl (tk_963 hts) dX9_sayNow_21 ?_
  refine lv_iconst (v := 4) hx hb dX9_sayNow_24 (by decide) ?_
  refine lv_dup2_11 hx hb dX9_sayNow_25 rfl rfl ?_
  obtain ⟨h_13, hf⟩ := gd_e hf
  refine s_iald 626 hx hb hK hM (ky_10_0 hG h0) (by decide) h_13 dX9_sayNow_26 ?_
  refine lv_iconst (v := 1) hx hb dX9_sayNow_27 (by decide) ?_
  refine lv_iadd hx hb dX9_sayNow_28 ?_
  obtain ⟨h_14, hf⟩ := gd_e hf
  obtain ⟨M15, eM15, hf⟩ := nb_e hf
  refine s_iast 626 hx hb hK hM hS (ky_10_0 hG h0) (by decide) (ky_b hG (ky_10_0 hG h0)) h_14 dX9_sayNow_29 (fun H locs hM hS => ?_)
  rw [eM15] at hM
  refine lv_iload_n hx hb dX9_sayNow_30 rfl (lv_at hl 0 rfl) ?_
  refine lv_if_eq (tgt := 42) hx hb dX9_sayNow_31 (by decide) (fun g_16 => ?_) (fun g_16 => ?_)
  · rw [if_pos g_16] at hf
    refine lv_sipush (v := (-10000)) hx hb dX9_sayNow_42 (by decide) ?_
    exact b45 (-10000) _ H locs ls hM hS (lv_sub hl [1, 2, 3] rfl) hf
  · rw [if_neg g_16] at hf
    refine lv_aload_n hx hb dX9_sayNow_34 rfl (lv_at hl 1 rfl) ?_
    refine lv_iload_n hx hb dX9_sayNow_35 rfl (lv_at hl 2 rfl) ?_
    obtain ⟨r18, M19, e_17, hf⟩ := cb_e hf
    refine c_Vi hx hb hml hown hts hV hK hM hS (As := [.int p1]) (rest := []) (k_X9_makeCode G hG l a0 h0 p1 M15 e_17) w_X9_makeCode (tk_1057 hts) (c_10 h0) rfl rfl ⟨⟨rfl, rfl⟩, Nat.le_of_ble_eq_true rfl, Nat.le_of_ble_eq_true rfl⟩ ⟨Nat.zero_le _, Nat.zero_le _⟩ rfl hl.1 rfl (Nat.le_of_ble_eq_true rfl) dX9_sayNow_36 (fun H locs hM hS => ?_)
    refine lv_goto (tgt := 45) hx hb dX9_sayNow_39 (by decide) ?_
    exact b45 r18 _ H locs ls hM hS (lv_sub hl [1, 2, 3] rfl) hf
def f_X9_say (a0 : Nat) (p1 : Int32) (p2 : Int32) (M : Mem) : Option (Int32 × Mem) := nb (sI M a0 7 0) fun M1 => vb (f_X9_isVoice p1 M1) fun r3 => if r3 = 0 then (cb (f_X9_fails a0 1 M1) fun r23 M24 => some (r23, M24)) else (vb (f_X9_isSample p2 M1) fun r6 => if r6 = 0 then (cb (f_X9_fails a0 2 M1) fun r20 M21 => some (r20, M21)) else (vb (f_X9_canSay a0 p1 M1) fun r9 => if r9 = 0 then (cb (f_X9_fails a0 3 M1) fun r17 M18 => some (r17, M18)) else (vb (f_X9_save a0 M1) fun M12 => cb (f_X9_sayNow a0 p1 p2 M12) fun r14 M15 => some (r14, M15))))
set_option maxHeartbeats 4000000 in
set_option maxRecDepth 100000 in
theorem k_X9_say (G : Gt) (hG : gOK G) (l : Launch) (a0 : Nat) (h0 : gK G a0 = 10) (p1 : Int32) (p2 : Int32) (M : Mem) {r : Int32} {M' : Mem} (hf : f_X9_say a0 p1 p2 M = some (r, M')) : Kc G l yX9_say cX9_say 3 (some .int) ({ frames := 4, cells := 0, slots := 0, locals := 98 } : Room) [.ref a0, .int p1, .int p2] M (some (.int r)) M' := by
  refine start (by decide) (Nat.le_of_ble_eq_true rfl) ?_
  intro p e s m args below meth c ls hx hb hr hown hml hlocks hts hV hM hl
  have hown : s.vm.findClass "FoldedVoicesModel" = some m.cls := hown
  have hK := hG.1.moved hV
  have hS : va_S (gA G) s.heap s.heap [] := va_S.rf
  have hl : lv_has ls 3 [(0, .ref a0), (1, .int p1), (2, .int p2)] := hl
  have hM0 := hM
  rw [f_X9_say] at hf
  refine lv_aload_n hx hb dX9_say_0 rfl (lv_at hl 0 rfl) ?_
  refine lv_iconst (v := 0) hx hb dX9_say_1 (by decide) ?_
  obtain ⟨M1, eM1, hf⟩ := nb_e hf
  refine s_put tyX9 hx hb (lay_9 hts) tyX9_ok nmX9 hown hK hM hS (ky_b hG h0) (c_10 h0) rfl 7 (by decide) rfl rfl rfl (Nat.le_of_ble_eq_true rfl) (cp_9_7 h0) (fun _ h9 => cel_sI _ h9) hM.2.2.sI rfl (tk_970 hts) dX9_say_2 (fun H locs hM hS => ?_)
  rw [eM1] at hM
  refine lv_iload_n hx hb dX9_say_5 rfl (lv_at hl 1 rfl) ?_
  obtain ⟨r3, e_2, hf⟩ := vb_e hf
  refine c_Si hx hb hml hown hts hV hM hS (As := [.int p1]) (rest := []) (k_X9_isVoice G hG l p1 M1 e_2) w_X9_isVoice (tk_1020 hts) ⟨⟨rfl, rfl⟩, Nat.le_of_ble_eq_true rfl, Nat.le_of_ble_eq_true rfl⟩ ⟨Nat.zero_le _, Nat.zero_le _⟩ rfl hl.1 rfl (Nat.le_of_ble_eq_true rfl) dX9_say_6 (fun H locs hM hS => ?_)
  refine lv_if_ne (tgt := 18) hx hb dX9_say_9 (by decide) (fun g_4 => ?_) (fun g_4 => ?_)
  · rw [if_neg g_4] at hf
    refine lv_iload_n hx hb dX9_say_18 rfl (lv_at hl 2 rfl) ?_
    obtain ⟨r6, e_5, hf⟩ := vb_e hf
    refine c_Si hx hb hml hown hts hV hM hS (As := [.int p2]) (rest := []) (k_X9_isSample G hG l p2 M1 e_5) w_X9_isSample (tk_1030 hts) ⟨⟨rfl, rfl⟩, Nat.le_of_ble_eq_true rfl, Nat.le_of_ble_eq_true rfl⟩ ⟨Nat.zero_le _, Nat.zero_le _⟩ rfl hl.1 rfl (Nat.le_of_ble_eq_true rfl) dX9_say_19 (fun H locs hM hS => ?_)
    refine lv_if_ne (tgt := 31) hx hb dX9_say_22 (by decide) (fun g_7 => ?_) (fun g_7 => ?_)
    · rw [if_neg g_7] at hf
      refine lv_aload_n hx hb dX9_say_31 rfl (lv_at hl 0 rfl) ?_
      refine lv_iload_n hx hb dX9_say_32 rfl (lv_at hl 1 rfl) ?_
      obtain ⟨r9, e_8, hf⟩ := vb_e hf
      refine c_Vi hx hb hml hown hts hV hK hM hS (As := [.int p1]) (rest := []) (k_X9_canSay G hG l a0 h0 p1 M1 e_8) w_X9_canSay (tk_1033 hts) (c_10 h0) rfl rfl ⟨⟨rfl, rfl⟩, Nat.le_of_ble_eq_true rfl, Nat.le_of_ble_eq_true rfl⟩ ⟨Nat.zero_le _, Nat.zero_le _⟩ rfl hl.1 rfl (Nat.le_of_ble_eq_true rfl) dX9_say_33 (fun H locs hM hS => ?_)
      refine lv_if_ne (tgt := 45) hx hb dX9_say_36 (by decide) (fun g_10 => ?_) (fun g_10 => ?_)
      · rw [if_neg g_10] at hf
        refine lv_aload_n hx hb dX9_say_45 rfl (lv_at hl 0 rfl) ?_
        obtain ⟨M12, e_11, hf⟩ := vb_e hf
        refine c_Vv hx hb hml hown hts hV hK hM hS (As := []) (rest := []) (k_X9_save G hG l a0 h0 M1 e_11) w_X9_save (tk_1045 hts) (c_10 h0) rfl rfl ⟨⟨rfl, rfl⟩, Nat.le_of_ble_eq_true rfl, Nat.le_of_ble_eq_true rfl⟩ ⟨Nat.zero_le _, Nat.zero_le _⟩ rfl hl.1 rfl (Nat.le_of_ble_eq_true rfl) dX9_say_46 (fun H locs hM hS => ?_)
        refine lv_aload_n hx hb dX9_say_49 rfl (lv_at hl 0 rfl) ?_
        refine lv_iload_n hx hb dX9_say_50 rfl (lv_at hl 1 rfl) ?_
        refine lv_iload_n hx hb dX9_say_51 rfl (lv_at hl 2 rfl) ?_
        obtain ⟨r14, M15, e_13, hf⟩ := cb_e hf
        refine c_Vi hx hb hml hown hts hV hK hM hS (As := [.int p1, .int p2]) (rest := []) (k_X9_sayNow G hG l a0 h0 p1 p2 M12 e_13) w_X9_sayNow (tk_1049 hts) (c_10 h0) rfl rfl ⟨⟨rfl, rfl⟩, Nat.le_of_ble_eq_true rfl, Nat.le_of_ble_eq_true rfl⟩ ⟨Nat.zero_le _, Nat.zero_le _⟩ rfl hl.1 rfl (Nat.le_of_ble_eq_true rfl) dX9_say_52 (fun H locs hM hS => ?_)
        exact ef_im hx hb hr hlocks hM hS hf dX9_say_55
      · rw [if_pos g_10] at hf
        refine lv_aload_n hx hb dX9_say_39 rfl (lv_at hl 0 rfl) ?_
        refine lv_iconst (v := 3) hx hb dX9_say_40 (by decide) ?_
        obtain ⟨r17, M18, e_16, hf⟩ := cb_e hf
        refine c_Vi hx hb hml hown hts hV hK hM hS (As := [.int 3]) (rest := []) (k_X9_fails G hG l a0 h0 3 M1 e_16) w_X9_fails (tk_1026 hts) (c_10 h0) rfl rfl ⟨⟨rfl, rfl⟩, Nat.le_of_ble_eq_true rfl, Nat.le_of_ble_eq_true rfl⟩ ⟨Nat.zero_le _, Nat.zero_le _⟩ rfl hl.1 rfl (Nat.le_of_ble_eq_true rfl) dX9_say_41 (fun H locs hM hS => ?_)
        exact ef_im hx hb hr hlocks hM hS hf dX9_say_44
    · rw [if_pos g_7] at hf
      refine lv_aload_n hx hb dX9_say_25 rfl (lv_at hl 0 rfl) ?_
      refine lv_iconst (v := 2) hx hb dX9_say_26 (by decide) ?_
      obtain ⟨r20, M21, e_19, hf⟩ := cb_e hf
      refine c_Vi hx hb hml hown hts hV hK hM hS (As := [.int 2]) (rest := []) (k_X9_fails G hG l a0 h0 2 M1 e_19) w_X9_fails (tk_1026 hts) (c_10 h0) rfl rfl ⟨⟨rfl, rfl⟩, Nat.le_of_ble_eq_true rfl, Nat.le_of_ble_eq_true rfl⟩ ⟨Nat.zero_le _, Nat.zero_le _⟩ rfl hl.1 rfl (Nat.le_of_ble_eq_true rfl) dX9_say_27 (fun H locs hM hS => ?_)
      exact ef_im hx hb hr hlocks hM hS hf dX9_say_30
  · rw [if_pos g_4] at hf
    refine lv_aload_n hx hb dX9_say_12 rfl (lv_at hl 0 rfl) ?_
    refine lv_iconst (v := 1) hx hb dX9_say_13 (by decide) ?_
    obtain ⟨r23, M24, e_22, hf⟩ := cb_e hf
    refine c_Vi hx hb hml hown hts hV hK hM hS (As := [.int 1]) (rest := []) (k_X9_fails G hG l a0 h0 1 M1 e_22) w_X9_fails (tk_1026 hts) (c_10 h0) rfl rfl ⟨⟨rfl, rfl⟩, Nat.le_of_ble_eq_true rfl, Nat.le_of_ble_eq_true rfl⟩ ⟨Nat.zero_le _, Nat.zero_le _⟩ rfl hl.1 rfl (Nat.le_of_ble_eq_true rfl) dX9_say_14 (fun H locs hM hS => ?_)
    exact ef_im hx hb hr hlocks hM hS hf dX9_say_17
def f_X9_flush_b39 (a0 : Nat) (p1 : Int32) (M : Mem) : Option (Int32 × Mem) := cb (f_X9_fails a0 2 M) fun r2 M3 => some (r2, M3)
def f_X9_flush (a0 : Nat) (p1 : Int32) (M : Mem) : Option (Int32 × Mem) := nb (sI M a0 7 0) fun M4 => vb (f_X9_isVoice p1 M4) fun r6 => if r6 = 0 then (cb (f_X9_fails a0 1 M4) fun r21 M22 => some (r21, M22)) else (vb (f_X9_of a0 p1 4 M4) fun r9 => if r9 = 0 then (f_X9_flush_b39 a0 p1 M4) else (vb (f_X9_of a0 p1 38 M4) fun r12 => if r12 = (8 : Int32) then (f_X9_flush_b39 a0 p1 M4) else (vb (f_X9_save a0 M4) fun M15 => vb (f_X9_of a0 p1 4 M15) fun r17 => vb (f_X9_makePacket a0 p1 M15) fun M19 => some (r17, M19))))
set_option maxHeartbeats 4000000 in
set_option maxRecDepth 100000 in
theorem k_X9_flush (G : Gt) (hG : gOK G) (l : Launch) (a0 : Nat) (h0 : gK G a0 = 10) (p1 : Int32) (M : Mem) {r : Int32} {M' : Mem} (hf : f_X9_flush a0 p1 M = some (r, M')) : Kc G l yX9_flush cX9_flush 3 (some .int) ({ frames := 2, cells := 0, slots := 0, locals := 47 } : Room) [.ref a0, .int p1] M (some (.int r)) M' := by
  refine start (by decide) (Nat.le_of_ble_eq_true rfl) ?_
  intro p e s m args below meth c ls hx hb hr hown hml hlocks hts hV hM hl
  have hown : s.vm.findClass "FoldedVoicesModel" = some m.cls := hown
  have hK := hG.1.moved hV
  have hS : va_S (gA G) s.heap s.heap [] := va_S.rf
  have hl : lv_has ls 3 [(0, .ref a0), (1, .int p1)] := hl
  have hM0 := hM
  have b39 : ∀ (M : Mem) (H : Heap) (locs : List Loc) (ls : Array Slot), Mh G M H → va_S (gA G) s.heap H locs → lv_has ls 3 [(0, .ref a0), (1, .int p1)] → f_X9_flush_b39 a0 p1 M = some (r, M') → W p l e ({ frames := 2, cells := 0, slots := 0, locals := 47 } : Room) s m args below meth c H locs 0 0 (MQ below (QV G (some (.int r)) M') args s 0 0 (gA G)) (F0 m 39 ls []) := by
    intro M H locs ls hM hS hl hf
    rw [f_X9_flush_b39] at hf
    refine lv_aload_n hx hb dX9_flush_39 rfl (lv_at hl 0 rfl) ?_
    refine lv_iconst (v := 2) hx hb dX9_flush_40 (by decide) ?_
    obtain ⟨r2, M3, e_1, hf⟩ := cb_e hf
    refine c_Vi hx hb hml hown hts hV hK hM hS (As := [.int 2]) (rest := []) (k_X9_fails G hG l a0 h0 2 M e_1) w_X9_fails (tk_1026 hts) (c_10 h0) rfl rfl ⟨⟨rfl, rfl⟩, Nat.le_of_ble_eq_true rfl, Nat.le_of_ble_eq_true rfl⟩ ⟨Nat.zero_le _, Nat.zero_le _⟩ rfl hl.1 rfl (Nat.le_of_ble_eq_true rfl) dX9_flush_41 (fun H locs hM hS => ?_)
    exact ef_im hx hb hr hlocks hM hS hf dX9_flush_44
  rw [f_X9_flush] at hf
  obtain ⟨H, hHe⟩ : ∃ H, H = s.heap := ⟨_, rfl⟩
  obtain ⟨locs, hLe⟩ : ∃ L : List Loc, L = [] := ⟨_, rfl⟩
  rw [← hHe] at hM
  have hS : va_S (gA G) s.heap H locs := by rw [hHe, hLe]; exact va_S.rf
  suffices hW : W p l e ({ frames := 2, cells := 0, slots := 0, locals := 47 } : Room) s m args below meth c H locs 0 0 (MQ below (QV G (some (.int r)) M') args s 0 0 (gA G)) (F0 m 0 ls []) by rw [hHe, hLe] at hW; exact hW
  refine lv_aload_n hx hb dX9_flush_0 rfl (lv_at hl 0 rfl) ?_
  refine lv_iconst (v := 0) hx hb dX9_flush_1 (by decide) ?_
  obtain ⟨M4, eM4, hf⟩ := nb_e hf
  refine s_put tyX9 hx hb (lay_9 hts) tyX9_ok nmX9 hown hK hM hS (ky_b hG h0) (c_10 h0) rfl 7 (by decide) rfl rfl rfl (Nat.le_of_ble_eq_true rfl) (cp_9_7 h0) (fun _ h9 => cel_sI _ h9) hM.2.2.sI rfl (tk_970 hts) dX9_flush_2 (fun H locs hM hS => ?_)
  rw [eM4] at hM
  refine lv_iload_n hx hb dX9_flush_5 rfl (lv_at hl 1 rfl) ?_
  obtain ⟨r6, e_5, hf⟩ := vb_e hf
  refine c_Si hx hb hml hown hts hV hM hS (As := [.int p1]) (rest := []) (k_X9_isVoice G hG l p1 M4 e_5) w_X9_isVoice (tk_1020 hts) ⟨⟨rfl, rfl⟩, Nat.le_of_ble_eq_true rfl, Nat.le_of_ble_eq_true rfl⟩ ⟨Nat.zero_le _, Nat.zero_le _⟩ rfl hl.1 rfl (Nat.le_of_ble_eq_true rfl) dX9_flush_6 (fun H locs hM hS => ?_)
  refine lv_if_ne (tgt := 18) hx hb dX9_flush_9 (by decide) (fun g_7 => ?_) (fun g_7 => ?_)
  · rw [if_neg g_7] at hf
    refine lv_aload_n hx hb dX9_flush_18 rfl (lv_at hl 0 rfl) ?_
    refine lv_iload_n hx hb dX9_flush_19 rfl (lv_at hl 1 rfl) ?_
    refine lv_iconst (v := 4) hx hb dX9_flush_20 (by decide) ?_
    obtain ⟨r9, e_8, hf⟩ := vb_e hf
    refine c_Vi hx hb hml hown hts hV hK hM hS (As := [.int p1, .int 4]) (rest := []) (k_X9_of G hG l a0 h0 p1 4 M4 e_8) w_X9_of (tk_1037 hts) (c_10 h0) rfl rfl ⟨⟨rfl, rfl⟩, Nat.le_of_ble_eq_true rfl, Nat.le_of_ble_eq_true rfl⟩ ⟨Nat.zero_le _, Nat.zero_le _⟩ rfl hl.1 rfl (Nat.le_of_ble_eq_true rfl) dX9_flush_21 (fun H locs hM hS => ?_)
    refine lv_if_eq (tgt := 39) hx hb dX9_flush_24 (by decide) (fun g_10 => ?_) (fun g_10 => ?_)
    · rw [if_pos g_10] at hf
      exact b39 _ H locs ls hM hS (lv_sub hl [0, 1] rfl) hf
    · rw [if_neg g_10] at hf
      refine lv_aload_n hx hb dX9_flush_27 rfl (lv_at hl 0 rfl) ?_
      refine lv_iload_n hx hb dX9_flush_28 rfl (lv_at hl 1 rfl) ?_
      refine lv_bipush (v := 38) hx hb dX9_flush_29 (by decide) ?_
      obtain ⟨r12, e_11, hf⟩ := vb_e hf
      refine c_Vi hx hb hml hown hts hV hK hM hS (As := [.int p1, .int 38]) (rest := []) (k_X9_of G hG l a0 h0 p1 38 M4 e_11) w_X9_of (tk_1037 hts) (c_10 h0) rfl rfl ⟨⟨rfl, rfl⟩, Nat.le_of_ble_eq_true rfl, Nat.le_of_ble_eq_true rfl⟩ ⟨Nat.zero_le _, Nat.zero_le _⟩ rfl hl.1 rfl (Nat.le_of_ble_eq_true rfl) dX9_flush_31 (fun H locs hM hS => ?_)
      refine lv_bipush (v := 8) hx hb dX9_flush_34 (by decide) ?_
      refine lv_icmp_ne (tgt := 45) hx hb dX9_flush_36 (by decide) (fun g_13 => ?_) (fun g_13 => ?_)
      · rw [if_neg g_13] at hf
        refine lv_aload_n hx hb dX9_flush_45 rfl (lv_at hl 0 rfl) ?_
        obtain ⟨M15, e_14, hf⟩ := vb_e hf
        refine c_Vv hx hb hml hown hts hV hK hM hS (As := []) (rest := []) (k_X9_save G hG l a0 h0 M4 e_14) w_X9_save (tk_1045 hts) (c_10 h0) rfl rfl ⟨⟨rfl, rfl⟩, Nat.le_of_ble_eq_true rfl, Nat.le_of_ble_eq_true rfl⟩ ⟨Nat.zero_le _, Nat.zero_le _⟩ rfl hl.1 rfl (Nat.le_of_ble_eq_true rfl) dX9_flush_46 (fun H locs hM hS => ?_)
        refine lv_aload_n hx hb dX9_flush_49 rfl (lv_at hl 0 rfl) ?_
        refine lv_iload_n hx hb dX9_flush_50 rfl (lv_at hl 1 rfl) ?_
        refine lv_iconst (v := 4) hx hb dX9_flush_51 (by decide) ?_
        obtain ⟨r17, e_16, hf⟩ := vb_e hf
        refine c_Vi hx hb hml hown hts hV hK hM hS (As := [.int p1, .int 4]) (rest := []) (k_X9_of G hG l a0 h0 p1 4 M15 e_16) w_X9_of (tk_1037 hts) (c_10 h0) rfl rfl ⟨⟨rfl, rfl⟩, Nat.le_of_ble_eq_true rfl, Nat.le_of_ble_eq_true rfl⟩ ⟨Nat.zero_le _, Nat.zero_le _⟩ rfl hl.1 rfl (Nat.le_of_ble_eq_true rfl) dX9_flush_52 (fun H locs hM hS => ?_)
        refine lv_istore_n (lv' := [(2, .int r17), (0, .ref a0), (1, .int p1)]) hx hb dX9_flush_55 rfl hl (by decide) rfl (fun ls hl => ?_)
        refine lv_aload_n hx hb dX9_flush_56 rfl (lv_at hl 1 rfl) ?_
        refine lv_iload_n hx hb dX9_flush_57 rfl (lv_at hl 2 rfl) ?_
        obtain ⟨M19, e_18, hf⟩ := vb_e hf
        refine c_Vv hx hb hml hown hts hV hK hM hS (As := [.int p1]) (rest := []) (k_X9_makePacket G hG l a0 h0 p1 M15 e_18) w_X9_makePacket (tk_1083 hts) (c_10 h0) rfl rfl ⟨⟨rfl, rfl⟩, Nat.le_of_ble_eq_true rfl, Nat.le_of_ble_eq_true rfl⟩ ⟨Nat.zero_le _, Nat.zero_le _⟩ rfl hl.1 rfl (Nat.le_of_ble_eq_true rfl) dX9_flush_58 (fun H locs hM hS => ?_)
        refine lv_iload_n hx hb dX9_flush_61 rfl (lv_at hl 0 rfl) ?_
        exact ef_im hx hb hr hlocks hM hS hf dX9_flush_62
      · rw [if_pos g_13] at hf
        exact b39 _ H locs ls hM hS (lv_sub hl [0, 1] rfl) hf
  · rw [if_pos g_7] at hf
    refine lv_aload_n hx hb dX9_flush_12 rfl (lv_at hl 0 rfl) ?_
    refine lv_iconst (v := 1) hx hb dX9_flush_13 (by decide) ?_
    obtain ⟨r21, M22, e_20, hf⟩ := cb_e hf
    refine c_Vi hx hb hml hown hts hV hK hM hS (As := [.int 1]) (rest := []) (k_X9_fails G hG l a0 h0 1 M4 e_20) w_X9_fails (tk_1026 hts) (c_10 h0) rfl rfl ⟨⟨rfl, rfl⟩, Nat.le_of_ble_eq_true rfl, Nat.le_of_ble_eq_true rfl⟩ ⟨Nat.zero_le _, Nat.zero_le _⟩ rfl hl.1 rfl (Nat.le_of_ble_eq_true rfl) dX9_flush_14 (fun H locs hM hS => ?_)
    exact ef_im hx hb hr hlocks hM hS hf dX9_flush_17
def f_X9_takeFirst_b54 (a0 : Nat) (p1 : Int32) : Nat → Int32 → Int32 → Mem → Option Mem
  | 0, _, _, _ => none
  | n + 1, x2, x3, M => if (x2 + 21) ≤ x3 then (some M) else (gd (ix x3 626) <| nb (sI M (a0 + 1) x3.toNatClampNeg 0) fun M3 => nb (x3 + 1) fun y4 => f_X9_takeFirst_b54 a0 p1 n x2 y4 M3)
def f_X9_takeFirst_b26 (a0 : Nat) (p1 : Int32) : Nat → Int32 → Int32 → Mem → Option Mem
  | 0, _, _, _ => none
  | n + 1, x2, x3, M => if x2 ≤ x3 then (f_X9_takeFirst_b54 a0 p1 lfuel x2 x2 M) else (gd (ix (x3 + 21) 626) <| gd (ix x3 626) <| nb (sI M (a0 + 1) x3.toNatClampNeg (mI M (a0 + 1) (x3 + 21).toNatClampNeg)) fun M8 => nb (x3 + 1) fun y9 => f_X9_takeFirst_b26 a0 p1 n x2 y9 M8)
def f_X9_takeFirst (a0 : Nat) (p1 : Int32) (M : Mem) : Option Mem := vb (f_X9_add a0 p1 38 (-1) M) fun M11 => vb (f_X9_of a0 p1 38 M11) fun r13 => vb (f_X9_packetAt p1 r13 M11) fun r15 => vb (f_X9_packetAt p1 0 M11) fun r17 => f_X9_takeFirst_b26 a0 p1 lfuel r15 r17 M11
set_option maxHeartbeats 4000000 in
set_option maxRecDepth 100000 in
theorem k_X9_takeFirst (G : Gt) (hG : gOK G) (l : Launch) (a0 : Nat) (h0 : gK G a0 = 10) (p1 : Int32) (M : Mem) {M' : Mem} (hf : f_X9_takeFirst a0 p1 M = some M') : Kc G l yX9_takeFirst cX9_takeFirst 4 none ({ frames := 1, cells := 0, slots := 0, locals := 23 } : Room) [.ref a0, .int p1] M none M' := by
  refine start (by decide) (Nat.le_of_ble_eq_true rfl) ?_
  intro p e s m args below meth c ls hx hb hr hown hml hlocks hts hV hM hl
  have hown : s.vm.findClass "FoldedVoicesModel" = some m.cls := hown
  have hK := hG.1.moved hV
  have hS : va_S (gA G) s.heap s.heap [] := va_S.rf
  have hl : lv_has ls 4 [(0, .ref a0), (1, .int p1)] := hl
  have hM0 := hM
  have b54 : ∀ (n : Nat), ∀ (x2 : Int32) (x3 : Int32) (M : Mem) (H : Heap) (locs : List Loc) (ls : Array Slot), Mh G M H → va_S (gA G) s.heap H locs → lv_has ls 4 [(0, .ref a0), (1, .int p1), (2, .int x2), (3, .int x3)] → f_X9_takeFirst_b54 a0 p1 n x2 x3 M = some M' → W p l e ({ frames := 1, cells := 0, slots := 0, locals := 23 } : Room) s m args below meth c H locs 0 0 (MQ below (QV G none M') args s 0 0 (gA G)) (F0 m 54 ls []) := by
    intro n
    induction n with
    | zero =>
      intro x2 x3 M H locs ls hM hS hl hf
      rw [f_X9_takeFirst_b54] at hf
      cases hf
    | succ n ih =>
      intro x2 x3 M H locs ls hM hS hl hf
      rw [f_X9_takeFirst_b54] at hf
      refine lv_iload_n hx hb dX9_takeFirst_54 rfl (lv_at hl 3 rfl) ?_
      refine lv_iload_n hx hb dX9_takeFirst_55 rfl (lv_at hl 2 rfl) ?_
      refine lv_bipush (v := 21) hx hb dX9_takeFirst_56 (by decide) ?_
      refine lv_iadd hx hb dX9_takeFirst_58 ?_
      refine lv_icmp_ge (tgt := 75) hx hb dX9_takeFirst_59 (by decide) (fun g_1 => ?_) (fun g_1 => ?_)
      · rw [if_pos g_1] at hf
        exact ef_v hx hb hr hlocks hM hS hf dX9_takeFirst_75
      · rw [if_neg g_1] at hf
        refine lv_aload_n hx hb dX9_takeFirst_62 rfl (lv_at hl 0 rfl) ?_
        refine s_get hx hb (lay_9 hts) hown hK hM (c_10 h0) rfl 0 (by decide) rfl rfl (tk_963 hts) dX9_takeFirst_63 ?_
        refine lv_iload_n hx hb dX9_takeFirst_66 rfl (lv_at hl 3 rfl) ?_
        refine lv_iconst (v := 0) hx hb dX9_takeFirst_67 (by decide) ?_
        obtain ⟨h_2, hf⟩ := gd_e hf
        obtain ⟨M3, eM3, hf⟩ := nb_e hf
        refine s_iast 626 hx hb hK hM hS (ky_10_0 hG h0) (by decide) (ky_b hG (ky_10_0 hG h0)) h_2 dX9_takeFirst_68 (fun H locs hM hS => ?_)
        rw [eM3] at hM
        obtain ⟨y4, ey4, hf⟩ := nb_e hf
        refine lv_iinc (v := y4) (lv' := [(3, .int y4), (0, .ref a0), (1, .int p1), (2, .int x2)]) hx hb dX9_takeFirst_69 hl (k := 3) rfl (by rw [← ey4]; rfl) (by decide) rfl (fun ls hl => ?_)
        refine lv_goto (tgt := 54) hx hb dX9_takeFirst_72 (by decide) ?_
        exact ih x2 y4 _ H locs ls hM hS (lv_sub hl [1, 2, 3, 0] rfl) hf
  have b26 : ∀ (n : Nat), ∀ (x2 : Int32) (x3 : Int32) (M : Mem) (H : Heap) (locs : List Loc) (ls : Array Slot), Mh G M H → va_S (gA G) s.heap H locs → lv_has ls 4 [(0, .ref a0), (1, .int p1), (2, .int x2), (3, .int x3)] → f_X9_takeFirst_b26 a0 p1 n x2 x3 M = some M' → W p l e ({ frames := 1, cells := 0, slots := 0, locals := 23 } : Room) s m args below meth c H locs 0 0 (MQ below (QV G none M') args s 0 0 (gA G)) (F0 m 26 ls []) := by
    intro n
    induction n with
    | zero =>
      intro x2 x3 M H locs ls hM hS hl hf
      rw [f_X9_takeFirst_b26] at hf
      cases hf
    | succ n ih =>
      intro x2 x3 M H locs ls hM hS hl hf
      rw [f_X9_takeFirst_b26] at hf
      refine lv_iload_n hx hb dX9_takeFirst_26 rfl (lv_at hl 3 rfl) ?_
      refine lv_iload_n hx hb dX9_takeFirst_27 rfl (lv_at hl 2 rfl) ?_
      refine lv_icmp_ge (tgt := 52) hx hb dX9_takeFirst_28 (by decide) (fun g_5 => ?_) (fun g_5 => ?_)
      · rw [if_pos g_5] at hf
        refine lv_iload_n hx hb dX9_takeFirst_52 rfl (lv_at hl 2 rfl) ?_
        refine lv_istore_n (lv' := [(3, .int x2), (0, .ref a0), (1, .int p1), (2, .int x2)]) hx hb dX9_takeFirst_53 rfl hl (by decide) rfl (fun ls hl => ?_)
        exact b54 _ x2 x2 _ H locs ls hM hS (lv_sub hl [1, 2, 3, 0] rfl) hf
      · rw [if_neg g_5] at hf
        refine lv_aload_n hx hb dX9_takeFirst_31 rfl (lv_at hl 0 rfl) ?_
        refine s_get hx hb (lay_9 hts) hown hK hM (c_10 h0) rfl 0 (by decide) rfl rfl (tk_963 hts) dX9_takeFirst_32 ?_
        refine lv_iload_n hx hb dX9_takeFirst_35 rfl (lv_at hl 3 rfl) ?_
        refine lv_aload_n hx hb dX9_takeFirst_36 rfl (lv_at hl 0 rfl) ?_
        refine s_get hx hb (lay_9 hts) hown hK hM (c_10 h0) rfl 0 (by decide) rfl rfl (tk_963 hts) dX9_takeFirst_37 ?_
        refine lv_iload_n hx hb dX9_takeFirst_40 rfl (lv_at hl 3 rfl) ?_
        refine lv_bipush (v := 21) hx hb dX9_takeFirst_41 (by decide) ?_
        refine lv_iadd hx hb dX9_takeFirst_43 ?_
        obtain ⟨h_6, hf⟩ := gd_e hf
        refine s_iald 626 hx hb hK hM (ky_10_0 hG h0) (by decide) h_6 dX9_takeFirst_44 ?_
        obtain ⟨h_7, hf⟩ := gd_e hf
        obtain ⟨M8, eM8, hf⟩ := nb_e hf
        refine s_iast 626 hx hb hK hM hS (ky_10_0 hG h0) (by decide) (ky_b hG (ky_10_0 hG h0)) h_7 dX9_takeFirst_45 (fun H locs hM hS => ?_)
        rw [eM8] at hM
        obtain ⟨y9, ey9, hf⟩ := nb_e hf
        refine lv_iinc (v := y9) (lv' := [(3, .int y9), (0, .ref a0), (1, .int p1), (2, .int x2)]) hx hb dX9_takeFirst_46 hl (k := 3) rfl (by rw [← ey9]; rfl) (by decide) rfl (fun ls hl => ?_)
        refine lv_goto (tgt := 26) hx hb dX9_takeFirst_49 (by decide) ?_
        exact ih x2 y9 _ H locs ls hM hS (lv_sub hl [1, 2, 3, 0] rfl) hf
  rw [f_X9_takeFirst] at hf
  obtain ⟨H, hHe⟩ : ∃ H, H = s.heap := ⟨_, rfl⟩
  obtain ⟨locs, hLe⟩ : ∃ L : List Loc, L = [] := ⟨_, rfl⟩
  rw [← hHe] at hM
  have hS : va_S (gA G) s.heap H locs := by rw [hHe, hLe]; exact va_S.rf
  suffices hW : W p l e ({ frames := 1, cells := 0, slots := 0, locals := 23 } : Room) s m args below meth c H locs 0 0 (MQ below (QV G none M') args s 0 0 (gA G)) (F0 m 0 ls []) by rw [hHe, hLe] at hW; exact hW
  refine lv_aload_n hx hb dX9_takeFirst_0 rfl (lv_at hl 0 rfl) ?_
  refine lv_iload_n hx hb dX9_takeFirst_1 rfl (lv_at hl 1 rfl) ?_
  refine lv_bipush (v := 38) hx hb dX9_takeFirst_2 (by decide) ?_
  refine lv_iconst (v := (-1)) hx hb dX9_takeFirst_4 (by decide) ?_
  obtain ⟨M11, e_10, hf⟩ := vb_e hf
  refine c_Vv hx hb hml hown hts hV hK hM hS (As := [.int p1, .int 38, .int (-1)]) (rest := []) (k_X9_add G hG l a0 h0 p1 38 (-1) M e_10) w_X9_add (tk_1053 hts) (c_10 h0) rfl rfl ⟨⟨rfl, rfl⟩, Nat.le_of_ble_eq_true rfl, Nat.le_of_ble_eq_true rfl⟩ ⟨Nat.zero_le _, Nat.zero_le _⟩ rfl hl.1 rfl (Nat.le_of_ble_eq_true rfl) dX9_takeFirst_5 (fun H locs hM hS => ?_)
  refine lv_iload_n hx hb dX9_takeFirst_8 rfl (lv_at hl 1 rfl) ?_
  refine lv_aload_n hx hb dX9_takeFirst_9 rfl (lv_at hl 0 rfl) ?_
  refine lv_iload_n hx hb dX9_takeFirst_10 rfl (lv_at hl 1 rfl) ?_
  refine lv_bipush (v := 38) hx hb dX9_takeFirst_11 (by decide) ?_
  obtain ⟨r13, e_12, hf⟩ := vb_e hf
  refine c_Vi hx hb hml hown hts hV hK hM hS (As := [.int p1, .int 38]) (rest := [.int p1]) (k_X9_of G hG l a0 h0 p1 38 M11 e_12) w_X9_of (tk_1037 hts) (c_10 h0) rfl rfl ⟨⟨rfl, rfl⟩, Nat.le_of_ble_eq_true rfl, Nat.le_of_ble_eq_true rfl⟩ ⟨Nat.zero_le _, Nat.zero_le _⟩ rfl hl.1 rfl (Nat.le_of_ble_eq_true rfl) dX9_takeFirst_13 (fun H locs hM hS => ?_)
  obtain ⟨r15, e_14, hf⟩ := vb_e hf
  refine c_Si hx hb hml hown hts hV hM hS (As := [.int p1, .int r13]) (rest := []) (k_X9_packetAt G hG l p1 r13 M11 e_14) w_X9_packetAt (tk_1087 hts) ⟨⟨rfl, rfl⟩, Nat.le_of_ble_eq_true rfl, Nat.le_of_ble_eq_true rfl⟩ ⟨Nat.zero_le _, Nat.zero_le _⟩ rfl hl.1 rfl (Nat.le_of_ble_eq_true rfl) dX9_takeFirst_16 (fun H locs hM hS => ?_)
  refine lv_istore_n (lv' := [(2, .int r15), (0, .ref a0), (1, .int p1)]) hx hb dX9_takeFirst_19 rfl hl (by decide) rfl (fun ls hl => ?_)
  refine lv_iload_n hx hb dX9_takeFirst_20 rfl (lv_at hl 2 rfl) ?_
  refine lv_iconst (v := 0) hx hb dX9_takeFirst_21 (by decide) ?_
  obtain ⟨r17, e_16, hf⟩ := vb_e hf
  refine c_Si hx hb hml hown hts hV hM hS (As := [.int p1, .int 0]) (rest := []) (k_X9_packetAt G hG l p1 0 M11 e_16) w_X9_packetAt (tk_1087 hts) ⟨⟨rfl, rfl⟩, Nat.le_of_ble_eq_true rfl, Nat.le_of_ble_eq_true rfl⟩ ⟨Nat.zero_le _, Nat.zero_le _⟩ rfl hl.1 rfl (Nat.le_of_ble_eq_true rfl) dX9_takeFirst_22 (fun H locs hM hS => ?_)
  refine lv_istore_n (lv' := [(3, .int r17), (2, .int r15), (0, .ref a0), (1, .int p1)]) hx hb dX9_takeFirst_25 rfl hl (by decide) rfl (fun ls hl => ?_)
  exact b26 _ r15 r17 _ H locs ls hM hS (lv_sub hl [2, 3, 1, 0] rfl) hf
def f_X9_hear_b80 (a0 : Nat) (p1 : Int32) (p2 : Int32) (p3 : Int32) (xs0 : Int32) (xs1 : Int32) (xs2 : Int32) (qs3 : Nat) (M : Mem) : Option Mem := vb (f_X9_put qs3 xs2 xs1 xs0 M) fun M2 => some M2
def f_X9_hear (a0 : Nat) (p1 : Int32) (p2 : Int32) (p3 : Int32) (M : Mem) : Option Mem := vb (f_X9_follow a0 p1 26 p2 M) fun M4 => vb (f_X9_of a0 p1 26 M4) fun r6 => vb (f_X9_size (r6 - p3) M4) fun r8 => vb (f_X9_add a0 p1 29 1 M4) fun M10 => vb (f_X9_add a0 p1 33 r8 M10) fun M12 => vb (f_X9_add a0 p1 35 r6 M12) fun M14 => vb (f_X9_of a0 p1 34 M14) fun r16 => if r8 ≤ r16 then (vb (f_X9_of a0 p1 34 M14) fun r19 => f_X9_hear_b80 a0 p1 p2 p3 r19 34 p1 a0 M14) else (f_X9_hear_b80 a0 p1 p2 p3 r8 34 p1 a0 M14)
set_option maxHeartbeats 4000000 in
set_option maxRecDepth 100000 in
theorem k_X9_hear (G : Gt) (hG : gOK G) (l : Launch) (a0 : Nat) (h0 : gK G a0 = 10) (p1 : Int32) (p2 : Int32) (p3 : Int32) (M : Mem) {M' : Mem} (hf : f_X9_hear a0 p1 p2 p3 M = some M') : Kc G l yX9_hear cX9_hear 6 none ({ frames := 2, cells := 0, slots := 0, locals := 50 } : Room) [.ref a0, .int p1, .int p2, .int p3] M none M' := by
  refine start (by decide) (Nat.le_of_ble_eq_true rfl) ?_
  intro p e s m args below meth c ls hx hb hr hown hml hlocks hts hV hM hl
  have hown : s.vm.findClass "FoldedVoicesModel" = some m.cls := hown
  have hK := hG.1.moved hV
  have hS : va_S (gA G) s.heap s.heap [] := va_S.rf
  have hl : lv_has ls 6 [(0, .ref a0), (1, .int p1), (2, .int p2), (3, .int p3)] := hl
  have hM0 := hM
  have b80 : ∀ (xs0 : Int32) (xs1 : Int32) (xs2 : Int32) (qs3 : Nat) (M : Mem) (H : Heap) (locs : List Loc) (ls : Array Slot), gK G qs3 = 10 → Mh G M H → va_S (gA G) s.heap H locs → lv_has ls 6 [(0, .ref a0), (1, .int p1), (2, .int p2), (3, .int p3)] → f_X9_hear_b80 a0 p1 p2 p3 xs0 xs1 xs2 qs3 M = some M' → W p l e ({ frames := 2, cells := 0, slots := 0, locals := 50 } : Room) s m args below meth c H locs 0 0 (MQ below (QV G none M') args s 0 0 (gA G)) (F0 m 80 ls [.int xs0, .int xs1, .int xs2, .ref qs3]) := by
    intro xs0 xs1 xs2 qs3 M H locs ls h_qs3 hM hS hl hf
    rw [f_X9_hear_b80] at hf
    obtain ⟨M2, e_1, hf⟩ := vb_e hf
    refine c_Vv hx hb hml hown hts hV hK hM hS (As := [.int xs2, .int xs1, .int xs0]) (rest := []) (k_X9_put G hG l qs3 h_qs3 xs2 xs1 xs0 M e_1) w_X9_put (tk_1064 hts) (c_10 h_qs3) rfl rfl ⟨⟨rfl, rfl⟩, Nat.le_of_ble_eq_true rfl, Nat.le_of_ble_eq_true rfl⟩ ⟨Nat.zero_le _, Nat.zero_le _⟩ rfl hl.1 rfl (Nat.le_of_ble_eq_true rfl) dX9_hear_80 (fun H locs hM hS => ?_)
    exact ef_v hx hb hr hlocks hM hS hf dX9_hear_83
  rw [f_X9_hear] at hf
  obtain ⟨H, hHe⟩ : ∃ H, H = s.heap := ⟨_, rfl⟩
  obtain ⟨locs, hLe⟩ : ∃ L : List Loc, L = [] := ⟨_, rfl⟩
  rw [← hHe] at hM
  have hS : va_S (gA G) s.heap H locs := by rw [hHe, hLe]; exact va_S.rf
  suffices hW : W p l e ({ frames := 2, cells := 0, slots := 0, locals := 50 } : Room) s m args below meth c H locs 0 0 (MQ below (QV G none M') args s 0 0 (gA G)) (F0 m 0 ls []) by rw [hHe, hLe] at hW; exact hW
  refine lv_aload_n hx hb dX9_hear_0 rfl (lv_at hl 0 rfl) ?_
  refine lv_iload_n hx hb dX9_hear_1 rfl (lv_at hl 1 rfl) ?_
  refine lv_bipush (v := 26) hx hb dX9_hear_2 (by decide) ?_
  refine lv_iload_n hx hb dX9_hear_4 rfl (lv_at hl 2 rfl) ?_
  obtain ⟨M4, e_3, hf⟩ := vb_e hf
  refine c_Vv hx hb hml hown hts hV hK hM hS (As := [.int p1, .int 26, .int p2]) (rest := []) (k_X9_follow G hG l a0 h0 p1 26 p2 M e_3) w_X9_follow (tk_1072 hts) (c_10 h0) rfl rfl ⟨⟨rfl, rfl⟩, Nat.le_of_ble_eq_true rfl, Nat.le_of_ble_eq_true rfl⟩ ⟨Nat.zero_le _, Nat.zero_le _⟩ rfl hl.1 rfl (Nat.le_of_ble_eq_true rfl) dX9_hear_5 (fun H locs hM hS => ?_)
  refine lv_aload_n hx hb dX9_hear_8 rfl (lv_at hl 0 rfl) ?_
  refine lv_iload_n hx hb dX9_hear_9 rfl (lv_at hl 1 rfl) ?_
  refine lv_bipush (v := 26) hx hb dX9_hear_10 (by decide) ?_
  obtain ⟨r6, e_5, hf⟩ := vb_e hf
  refine c_Vi hx hb hml hown hts hV hK hM hS (As := [.int p1, .int 26]) (rest := []) (k_X9_of G hG l a0 h0 p1 26 M4 e_5) w_X9_of (tk_1037 hts) (c_10 h0) rfl rfl ⟨⟨rfl, rfl⟩, Nat.le_of_ble_eq_true rfl, Nat.le_of_ble_eq_true rfl⟩ ⟨Nat.zero_le _, Nat.zero_le _⟩ rfl hl.1 rfl (Nat.le_of_ble_eq_true rfl) dX9_hear_12 (fun H locs hM hS => ?_)
  refine lv_istore (lv' := [(4, .int r6), (0, .ref a0), (1, .int p1), (2, .int p2), (3, .int p3)]) hx hb dX9_hear_15 hl (by decide) rfl (fun ls hl => ?_)
  refine lv_iload hx hb dX9_hear_17 (lv_at hl 0 rfl) ?_
  refine lv_iload_n hx hb dX9_hear_19 rfl (lv_at hl 4 rfl) ?_
  refine lv_isub hx hb dX9_hear_20 ?_
  obtain ⟨r8, e_7, hf⟩ := vb_e hf
  refine c_Si hx hb hml hown hts hV hM hS (As := [.int (r6 - p3)]) (rest := []) (k_X9_size G hG l (r6 - p3) M4 e_7) w_X9_size (tk_1061 hts) ⟨⟨rfl, rfl⟩, Nat.le_of_ble_eq_true rfl, Nat.le_of_ble_eq_true rfl⟩ ⟨Nat.zero_le _, Nat.zero_le _⟩ rfl hl.1 rfl (Nat.le_of_ble_eq_true rfl) dX9_hear_21 (fun H locs hM hS => ?_)
  refine lv_istore (lv' := [(5, .int r8), (4, .int r6), (0, .ref a0), (1, .int p1), (2, .int p2), (3, .int p3)]) hx hb dX9_hear_24 hl (by decide) rfl (fun ls hl => ?_)
  refine lv_aload_n hx hb dX9_hear_26 rfl (lv_at hl 2 rfl) ?_
  refine lv_iload_n hx hb dX9_hear_27 rfl (lv_at hl 3 rfl) ?_
  refine lv_bipush (v := 29) hx hb dX9_hear_28 (by decide) ?_
  refine lv_iconst (v := 1) hx hb dX9_hear_30 (by decide) ?_
  obtain ⟨M10, e_9, hf⟩ := vb_e hf
  refine c_Vv hx hb hml hown hts hV hK hM hS (As := [.int p1, .int 29, .int 1]) (rest := []) (k_X9_add G hG l a0 h0 p1 29 1 M4 e_9) w_X9_add (tk_1053 hts) (c_10 h0) rfl rfl ⟨⟨rfl, rfl⟩, Nat.le_of_ble_eq_true rfl, Nat.le_of_ble_eq_true rfl⟩ ⟨Nat.zero_le _, Nat.zero_le _⟩ rfl hl.1 rfl (Nat.le_of_ble_eq_true rfl) dX9_hear_31 (fun H locs hM hS => ?_)
  refine lv_aload_n hx hb dX9_hear_34 rfl (lv_at hl 2 rfl) ?_
  refine lv_iload_n hx hb dX9_hear_35 rfl (lv_at hl 3 rfl) ?_
  refine lv_bipush (v := 33) hx hb dX9_hear_36 (by decide) ?_
  refine lv_iload hx hb dX9_hear_38 (lv_at hl 0 rfl) ?_
  obtain ⟨M12, e_11, hf⟩ := vb_e hf
  refine c_Vv hx hb hml hown hts hV hK hM hS (As := [.int p1, .int 33, .int r8]) (rest := []) (k_X9_add G hG l a0 h0 p1 33 r8 M10 e_11) w_X9_add (tk_1053 hts) (c_10 h0) rfl rfl ⟨⟨rfl, rfl⟩, Nat.le_of_ble_eq_true rfl, Nat.le_of_ble_eq_true rfl⟩ ⟨Nat.zero_le _, Nat.zero_le _⟩ rfl hl.1 rfl (Nat.le_of_ble_eq_true rfl) dX9_hear_40 (fun H locs hM hS => ?_)
  refine lv_aload_n hx hb dX9_hear_43 rfl (lv_at hl 2 rfl) ?_
  refine lv_iload_n hx hb dX9_hear_44 rfl (lv_at hl 3 rfl) ?_
  refine lv_bipush (v := 35) hx hb dX9_hear_45 (by decide) ?_
  refine lv_iload hx hb dX9_hear_47 (lv_at hl 1 rfl) ?_
  obtain ⟨M14, e_13, hf⟩ := vb_e hf
  refine c_Vv hx hb hml hown hts hV hK hM hS (As := [.int p1, .int 35, .int r6]) (rest := []) (k_X9_add G hG l a0 h0 p1 35 r6 M12 e_13) w_X9_add (tk_1053 hts) (c_10 h0) rfl rfl ⟨⟨rfl, rfl⟩, Nat.le_of_ble_eq_true rfl, Nat.le_of_ble_eq_true rfl⟩ ⟨Nat.zero_le _, Nat.zero_le _⟩ rfl hl.1 rfl (Nat.le_of_ble_eq_true rfl) dX9_hear_49 (fun H locs hM hS => ?_)
  refine lv_aload_n hx hb dX9_hear_52 rfl (lv_at hl 2 rfl) ?_
  refine lv_iload_n hx hb dX9_hear_53 rfl (lv_at hl 3 rfl) ?_
  refine lv_bipush (v := 34) hx hb dX9_hear_54 (by decide) ?_
  refine lv_iload hx hb dX9_hear_56 (lv_at hl 0 rfl) ?_
  refine lv_aload_n hx hb dX9_hear_58 rfl (lv_at hl 2 rfl) ?_
  refine lv_iload_n hx hb dX9_hear_59 rfl (lv_at hl 3 rfl) ?_
  refine lv_bipush (v := 34) hx hb dX9_hear_60 (by decide) ?_
  obtain ⟨r16, e_15, hf⟩ := vb_e hf
  refine c_Vi hx hb hml hown hts hV hK hM hS (As := [.int p1, .int 34]) (rest := [.int r8, .int 34, .int p1, .ref a0]) (k_X9_of G hG l a0 h0 p1 34 M14 e_15) w_X9_of (tk_1037 hts) (c_10 h0) rfl rfl ⟨⟨rfl, rfl⟩, Nat.le_of_ble_eq_true rfl, Nat.le_of_ble_eq_true rfl⟩ ⟨Nat.zero_le _, Nat.zero_le _⟩ rfl hl.1 rfl (Nat.le_of_ble_eq_true rfl) dX9_hear_62 (fun H locs hM hS => ?_)
  refine lv_icmp_le (tgt := 73) hx hb dX9_hear_65 (by decide) (fun g_17 => ?_) (fun g_17 => ?_)
  · rw [if_pos g_17] at hf
    refine lv_aload_n hx hb dX9_hear_73 rfl (lv_at hl 2 rfl) ?_
    refine lv_iload_n hx hb dX9_hear_74 rfl (lv_at hl 3 rfl) ?_
    refine lv_bipush (v := 34) hx hb dX9_hear_75 (by decide) ?_
    obtain ⟨r19, e_18, hf⟩ := vb_e hf
    refine c_Vi hx hb hml hown hts hV hK hM hS (As := [.int p1, .int 34]) (rest := [.int 34, .int p1, .ref a0]) (k_X9_of G hG l a0 h0 p1 34 M14 e_18) w_X9_of (tk_1037 hts) (c_10 h0) rfl rfl ⟨⟨rfl, rfl⟩, Nat.le_of_ble_eq_true rfl, Nat.le_of_ble_eq_true rfl⟩ ⟨Nat.zero_le _, Nat.zero_le _⟩ rfl hl.1 rfl (Nat.le_of_ble_eq_true rfl) dX9_hear_77 (fun H locs hM hS => ?_)
    exact b80 r19 34 p1 a0 _ H locs ls h0 hM hS (lv_sub hl [2, 3, 4, 5] rfl) hf
  · rw [if_neg g_17] at hf
    refine lv_iload hx hb dX9_hear_68 (lv_at hl 0 rfl) ?_
    refine lv_goto (tgt := 80) hx hb dX9_hear_70 (by decide) ?_
    exact b80 r8 34 p1 a0 _ H locs ls h0 hM hS (lv_sub hl [2, 3, 4, 5] rfl) hf
def f_X9_takeHead_b43 (a0 : Nat) (p1 : Int32) (p2 : Int32) (p3 : Int32) (xs0 : Int32) (xs1 : Int32) (xs2 : Int32) (qs3 : Nat) (M : Mem) : Option Mem := vb (f_X9_add qs3 xs2 xs1 xs0 M) fun M2 => vb (f_X9_put a0 p1 26 p2 M2) fun M4 => vb (f_X9_put a0 p1 27 p3 M4) fun M6 => some M6
def f_X9_takeHead_b27 (a0 : Nat) (p1 : Int32) (p2 : Int32) (p3 : Int32) (xs0 : Int32) (M : Mem) : Option Mem := if xs0 = 0 then (f_X9_takeHead_b43 a0 p1 p2 p3 0 32 p1 a0 M) else (f_X9_takeHead_b43 a0 p1 p2 p3 1 32 p1 a0 M)
def f_X9_takeHead_b22 (a0 : Nat) (p1 : Int32) (p2 : Int32) (p3 : Int32) (M : Mem) : Option Mem := f_X9_takeHead_b27 a0 p1 p2 p3 1 M
def f_X9_takeHead (a0 : Nat) (p1 : Int32) (p2 : Int32) (p3 : Int32) (M : Mem) : Option Mem := vb (f_X9_of a0 p1 26 M) fun r9 => if r9 = p2 then (vb (f_X9_of a0 p1 27 M) fun r12 => if r12 = p3 then (f_X9_takeHead_b27 a0 p1 p2 p3 0 M) else (f_X9_takeHead_b22 a0 p1 p2 p3 M)) else (f_X9_takeHead_b22 a0 p1 p2 p3 M)
set_option maxHeartbeats 4000000 in
set_option maxRecDepth 100000 in
theorem k_X9_takeHead (G : Gt) (hG : gOK G) (l : Launch) (a0 : Nat) (h0 : gK G a0 = 10) (p1 : Int32) (p2 : Int32) (p3 : Int32) (M : Mem) {M' : Mem} (hf : f_X9_takeHead a0 p1 p2 p3 M = some M') : Kc G l yX9_takeHead cX9_takeHead 5 none ({ frames := 1, cells := 0, slots := 0, locals := 23 } : Room) [.ref a0, .int p1, .int p2, .int p3] M none M' := by
  refine start (by decide) (Nat.le_of_ble_eq_true rfl) ?_
  intro p e s m args below meth c ls hx hb hr hown hml hlocks hts hV hM hl
  have hown : s.vm.findClass "FoldedVoicesModel" = some m.cls := hown
  have hK := hG.1.moved hV
  have hS : va_S (gA G) s.heap s.heap [] := va_S.rf
  have hl : lv_has ls 5 [(0, .ref a0), (1, .int p1), (2, .int p2), (3, .int p3)] := hl
  have hM0 := hM
  have b43 : ∀ (xs0 : Int32) (xs1 : Int32) (xs2 : Int32) (qs3 : Nat) (M : Mem) (H : Heap) (locs : List Loc) (ls : Array Slot), gK G qs3 = 10 → Mh G M H → va_S (gA G) s.heap H locs → lv_has ls 5 [(0, .ref a0), (1, .int p1), (2, .int p2), (3, .int p3)] → f_X9_takeHead_b43 a0 p1 p2 p3 xs0 xs1 xs2 qs3 M = some M' → W p l e ({ frames := 1, cells := 0, slots := 0, locals := 23 } : Room) s m args below meth c H locs 0 0 (MQ below (QV G none M') args s 0 0 (gA G)) (F0 m 43 ls [.int xs0, .int xs1, .int xs2, .ref qs3]) := by
    intro xs0 xs1 xs2 qs3 M H locs ls h_qs3 hM hS hl hf
    rw [f_X9_takeHead_b43] at hf
    obtain ⟨M2, e_1, hf⟩ := vb_e hf
    refine c_Vv hx hb hml hown hts hV hK hM hS (As := [.int xs2, .int xs1, .int xs0]) (rest := []) (k_X9_add G hG l qs3 h_qs3 xs2 xs1 xs0 M e_1) w_X9_add (tk_1053 hts) (c_10 h_qs3) rfl rfl ⟨⟨rfl, rfl⟩, Nat.le_of_ble_eq_true rfl, Nat.le_of_ble_eq_true rfl⟩ ⟨Nat.zero_le _, Nat.zero_le _⟩ rfl hl.1 rfl (Nat.le_of_ble_eq_true rfl) dX9_takeHead_43 (fun H locs hM hS => ?_)
    refine lv_aload_n hx hb dX9_takeHead_46 rfl (lv_at hl 0 rfl) ?_
    refine lv_iload_n hx hb dX9_takeHead_47 rfl (lv_at hl 1 rfl) ?_
    refine lv_bipush (v := 26) hx hb dX9_takeHead_48 (by decide) ?_
    refine lv_iload_n hx hb dX9_takeHead_50 rfl (lv_at hl 2 rfl) ?_
    obtain ⟨M4, e_3, hf⟩ := vb_e hf
    refine c_Vv hx hb hml hown hts hV hK hM hS (As := [.int p1, .int 26, .int p2]) (rest := []) (k_X9_put G hG l a0 h0 p1 26 p2 M2 e_3) w_X9_put (tk_1064 hts) (c_10 h0) rfl rfl ⟨⟨rfl, rfl⟩, Nat.le_of_ble_eq_true rfl, Nat.le_of_ble_eq_true rfl⟩ ⟨Nat.zero_le _, Nat.zero_le _⟩ rfl hl.1 rfl (Nat.le_of_ble_eq_true rfl) dX9_takeHead_51 (fun H locs hM hS => ?_)
    refine lv_aload_n hx hb dX9_takeHead_54 rfl (lv_at hl 0 rfl) ?_
    refine lv_iload_n hx hb dX9_takeHead_55 rfl (lv_at hl 1 rfl) ?_
    refine lv_bipush (v := 27) hx hb dX9_takeHead_56 (by decide) ?_
    refine lv_iload_n hx hb dX9_takeHead_58 rfl (lv_at hl 3 rfl) ?_
    obtain ⟨M6, e_5, hf⟩ := vb_e hf
    refine c_Vv hx hb hml hown hts hV hK hM hS (As := [.int p1, .int 27, .int p3]) (rest := []) (k_X9_put G hG l a0 h0 p1 27 p3 M4 e_5) w_X9_put (tk_1064 hts) (c_10 h0) rfl rfl ⟨⟨rfl, rfl⟩, Nat.le_of_ble_eq_true rfl, Nat.le_of_ble_eq_true rfl⟩ ⟨Nat.zero_le _, Nat.zero_le _⟩ rfl hl.1 rfl (Nat.le_of_ble_eq_true rfl) dX9_takeHead_59 (fun H locs hM hS => ?_)
    exact ef_v hx hb hr hlocks hM hS hf dX9_takeHead_62
  have b27 : ∀ (xs0 : Int32) (M : Mem) (H : Heap) (locs : List Loc) (ls : Array Slot), Mh G M H → va_S (gA G) s.heap H locs → lv_has ls 5 [(0, .ref a0), (1, .int p1), (2, .int p2), (3, .int p3)] → f_X9_takeHead_b27 a0 p1 p2 p3 xs0 M = some M' → W p l e ({ frames := 1, cells := 0, slots := 0, locals := 23 } : Room) s m args below meth c H locs 0 0 (MQ below (QV G none M') args s 0 0 (gA G)) (F0 m 27 ls [.int xs0]) := by
    intro xs0 M H locs ls hM hS hl hf
    rw [f_X9_takeHead_b27] at hf
    refine lv_istore (lv' := [(4, .int xs0), (0, .ref a0), (1, .int p1), (2, .int p2), (3, .int p3)]) hx hb dX9_takeHead_27 hl (by decide) rfl (fun ls hl => ?_)
    refine lv_aload_n hx hb dX9_takeHead_29 rfl (lv_at hl 1 rfl) ?_
    refine lv_iload_n hx hb dX9_takeHead_30 rfl (lv_at hl 2 rfl) ?_
    refine lv_bipush (v := 32) hx hb dX9_takeHead_31 (by decide) ?_
    refine lv_iload hx hb dX9_takeHead_33 (lv_at hl 0 rfl) ?_
    refine lv_if_eq (tgt := 42) hx hb dX9_takeHead_35 (by decide) (fun g_7 => ?_) (fun g_7 => ?_)
    · rw [if_pos g_7] at hf
      refine lv_iconst (v := 0) hx hb dX9_takeHead_42 (by decide) ?_
      exact b43 0 32 p1 a0 _ H locs ls h0 hM hS (lv_sub hl [1, 2, 3, 4] rfl) hf
    · rw [if_neg g_7] at hf
      refine lv_iconst (v := 1) hx hb dX9_takeHead_38 (by decide) ?_
      refine lv_goto (tgt := 43) hx hb dX9_takeHead_39 (by decide) ?_
      exact b43 1 32 p1 a0 _ H locs ls h0 hM hS (lv_sub hl [1, 2, 3, 4] rfl) hf
  have b22 : ∀ (M : Mem) (H : Heap) (locs : List Loc) (ls : Array Slot), Mh G M H → va_S (gA G) s.heap H locs → lv_has ls 5 [(0, .ref a0), (1, .int p1), (2, .int p2), (3, .int p3)] → f_X9_takeHead_b22 a0 p1 p2 p3 M = some M' → W p l e ({ frames := 1, cells := 0, slots := 0, locals := 23 } : Room) s m args below meth c H locs 0 0 (MQ below (QV G none M') args s 0 0 (gA G)) (F0 m 22 ls []) := by
    intro M H locs ls hM hS hl hf
    rw [f_X9_takeHead_b22] at hf
    refine lv_iconst (v := 1) hx hb dX9_takeHead_22 (by decide) ?_
    refine lv_goto (tgt := 27) hx hb dX9_takeHead_23 (by decide) ?_
    exact b27 1 _ H locs ls hM hS (lv_sub hl [0, 1, 2, 3] rfl) hf
  rw [f_X9_takeHead] at hf
  obtain ⟨H, hHe⟩ : ∃ H, H = s.heap := ⟨_, rfl⟩
  obtain ⟨locs, hLe⟩ : ∃ L : List Loc, L = [] := ⟨_, rfl⟩
  rw [← hHe] at hM
  have hS : va_S (gA G) s.heap H locs := by rw [hHe, hLe]; exact va_S.rf
  suffices hW : W p l e ({ frames := 1, cells := 0, slots := 0, locals := 23 } : Room) s m args below meth c H locs 0 0 (MQ below (QV G none M') args s 0 0 (gA G)) (F0 m 0 ls []) by rw [hHe, hLe] at hW; exact hW
  refine lv_aload_n hx hb dX9_takeHead_0 rfl (lv_at hl 0 rfl) ?_
  refine lv_iload_n hx hb dX9_takeHead_1 rfl (lv_at hl 1 rfl) ?_
  refine lv_bipush (v := 26) hx hb dX9_takeHead_2 (by decide) ?_
  obtain ⟨r9, e_8, hf⟩ := vb_e hf
  refine c_Vi hx hb hml hown hts hV hK hM hS (As := [.int p1, .int 26]) (rest := []) (k_X9_of G hG l a0 h0 p1 26 M e_8) w_X9_of (tk_1037 hts) (c_10 h0) rfl rfl ⟨⟨rfl, rfl⟩, Nat.le_of_ble_eq_true rfl, Nat.le_of_ble_eq_true rfl⟩ ⟨Nat.zero_le _, Nat.zero_le _⟩ rfl hl.1 rfl (Nat.le_of_ble_eq_true rfl) dX9_takeHead_4 (fun H locs hM hS => ?_)
  refine lv_iload_n hx hb dX9_takeHead_7 rfl (lv_at hl 2 rfl) ?_
  refine lv_icmp_ne (tgt := 22) hx hb dX9_takeHead_8 (by decide) (fun g_10 => ?_) (fun g_10 => ?_)
  · rw [if_neg g_10] at hf
    exact b22 _ H locs ls hM hS (lv_sub hl [0, 1, 2, 3] rfl) hf
  · rw [if_pos g_10] at hf
    refine lv_aload_n hx hb dX9_takeHead_11 rfl (lv_at hl 0 rfl) ?_
    refine lv_iload_n hx hb dX9_takeHead_12 rfl (lv_at hl 1 rfl) ?_
    refine lv_bipush (v := 27) hx hb dX9_takeHead_13 (by decide) ?_
    obtain ⟨r12, e_11, hf⟩ := vb_e hf
    refine c_Vi hx hb hml hown hts hV hK hM hS (As := [.int p1, .int 27]) (rest := []) (k_X9_of G hG l a0 h0 p1 27 M e_11) w_X9_of (tk_1037 hts) (c_10 h0) rfl rfl ⟨⟨rfl, rfl⟩, Nat.le_of_ble_eq_true rfl, Nat.le_of_ble_eq_true rfl⟩ ⟨Nat.zero_le _, Nat.zero_le _⟩ rfl hl.1 rfl (Nat.le_of_ble_eq_true rfl) dX9_takeHead_15 (fun H locs hM hS => ?_)
    refine lv_iload_n hx hb dX9_takeHead_18 rfl (lv_at hl 3 rfl) ?_
    refine lv_icmp_eq (tgt := 26) hx hb dX9_takeHead_19 (by decide) (fun g_13 => ?_) (fun g_13 => ?_)
    · rw [if_pos g_13] at hf
      refine lv_iconst (v := 0) hx hb dX9_takeHead_26 (by decide) ?_
      exact b27 0 _ H locs ls hM hS (lv_sub hl [0, 1, 2, 3] rfl) hf
    · rw [if_neg g_13] at hf
      exact b22 _ H locs ls hM hS (lv_sub hl [0, 1, 2, 3] rfl) hf
