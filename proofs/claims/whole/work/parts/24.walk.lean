def f_X9_deliverNow_b141 (a0 : Nat) (p1 : Int32) : Nat → Int32 → Int32 → Int32 → Int32 → Mem → Option (Int32 × Mem)
  | 0, _, _, _, _, _ => none
  | n + 1, x2, x3, x4, x5, M => gd (ix (x2 + 1) 626) <| if (mI M (a0 + 1) (x2 + 1).toNatClampNeg) ≤ x5 then (vb (f_X9_put a0 p1 28 (x3 + 1) M) fun M4 => vb (f_X9_takeFirst a0 p1 M4) fun M6 => some (x4, M6)) else (gd (ix ((x2 + 5) + x5) 626) <| gd (ix ((x2 + 13) + x5) 626) <| vb (f_X9_hear a0 p1 (mI M (a0 + 1) ((x2 + 5) + x5).toNatClampNeg) (mI M (a0 + 1) ((x2 + 13) + x5).toNatClampNeg) M) fun M10 => nb (x5 + 1) fun y11 => f_X9_deliverNow_b141 a0 p1 n x2 x3 x4 y11 M10)
def f_X9_deliverNow_b138 (a0 : Nat) (p1 : Int32) (x2 : Int32) (x3 : Int32) (x4 : Int32) (M : Mem) : Option (Int32 × Mem) := f_X9_deliverNow_b141 a0 p1 lfuel x2 x3 x4 0 M
def f_X9_deliverNow_b65 (a0 : Nat) (p1 : Int32) : Nat → Int32 → Int32 → Int32 → Int32 → Mem → Option (Int32 × Mem)
  | 0, _, _, _, _, _ => none
  | n + 1, x2, x3, x4, x5, M => if x4 ≤ x5 then (vb (f_X9_add a0 p1 30 x4 M) fun M14 => gd (ix (x2 + 2) 626) <| if (mI M14 (a0 + 1) (x2 + 2).toNatClampNeg) = (1 : Int32) then (gd (ix (x2 + 3) 626) <| gd (ix (x2 + 4) 626) <| vb (f_X9_takeHead a0 p1 (mI M14 (a0 + 1) (x2 + 3).toNatClampNeg) (mI M14 (a0 + 1) (x2 + 4).toNatClampNeg) M14) fun M20 => f_X9_deliverNow_b138 a0 p1 x2 x3 x4 M20) else (f_X9_deliverNow_b138 a0 p1 x2 x3 x4 M14)) else (vb (f_X9_of a0 p1 26 M) fun r22 => vb (f_X9_put a0 p1 26 (((3 : Int32) * r22) / 4) M) fun M24 => nb (x5 + 1) fun y25 => f_X9_deliverNow_b65 a0 p1 n x2 x3 x4 y25 M24)
def f_X9_deliverNow (a0 : Nat) (p1 : Int32) (M : Mem) : Option (Int32 × Mem) := vb (f_X9_packetAt p1 0 M) fun r27 => gd (ix (r27 + 0) 626) <| nb (mI M (a0 + 1) (r27 + 0).toNatClampNeg) fun y29 => vb (f_X9_add a0 p1 37 1 M) fun M31 => vb (f_X9_of a0 p1 28 M31) fun r33 => if r33 ≤ y29 then (vb (f_X9_of a0 p1 28 M31) fun r36 => nb (y29 - r36) fun y37 => f_X9_deliverNow_b65 a0 p1 lfuel r27 y29 y37 0 M31) else (vb (f_X9_add a0 p1 31 1 M31) fun M39 => vb (f_X9_takeFirst a0 p1 M39) fun M41 => some ((-10000), M41))
set_option maxHeartbeats 4000000 in
set_option maxRecDepth 100000 in
theorem k_X9_deliverNow (G : Gt) (hG : gOK G) (l : Launch) (a0 : Nat) (h0 : gK G a0 = 10) (p1 : Int32) (M : Mem) {r : Int32} {M' : Mem} (hf : f_X9_deliverNow a0 p1 M = some (r, M')) : Kc G l yX9_deliverNow cX9_deliverNow 6 (some .int) ({ frames := 3, cells := 0, slots := 0, locals := 75 } : Room) [.ref a0, .int p1] M (some (.int r)) M' := by
  refine start (by decide) (Nat.le_of_ble_eq_true rfl) ?_
  intro p e s m args below meth c ls hx hb hr hown hml hlocks hts hV hM hl
  have hown : s.vm.findClass "FoldedVoicesModel" = some m.cls := hown
  have hK := hG.1.moved hV
  have hS : va_S (gA G) s.heap s.heap [] := va_S.rf
  have hl : lv_has ls 6 [(0, .ref a0), (1, .int p1)] := hl
  have hM0 := hM
  have b141 : ∀ (n : Nat), ∀ (x2 : Int32) (x3 : Int32) (x4 : Int32) (x5 : Int32) (M : Mem) (H : Heap) (locs : List Loc) (ls : Array Slot), Mh G M H → va_S (gA G) s.heap H locs → lv_has ls 6 [(0, .ref a0), (1, .int p1), (2, .int x2), (3, .int x3), (4, .int x4), (5, .int x5)] → f_X9_deliverNow_b141 a0 p1 n x2 x3 x4 x5 M = some (r, M') → W p l e ({ frames := 3, cells := 0, slots := 0, locals := 75 } : Room) s m args below meth c H locs 0 0 (MQ below (QV G (some (.int r)) M') args s 0 0 (gA G)) (F0 m 141 ls []) := by
    intro n
    induction n with
    | zero =>
      intro x2 x3 x4 x5 M H locs ls hM hS hl hf
      rw [f_X9_deliverNow_b141] at hf
      cases hf
    | succ n ih =>
      intro x2 x3 x4 x5 M H locs ls hM hS hl hf
      rw [f_X9_deliverNow_b141] at hf
      refine lv_iload hx hb dX9_deliverNow_141 (lv_at hl 5 rfl) ?_
      refine lv_aload_n hx hb dX9_deliverNow_143 rfl (lv_at hl 0 rfl) ?_
      refine s_get hx hb (lay_9 hts) hown hK hM (c_10 h0) rfl 0 (by decide) rfl rfl (tk_963 hts) dX9_deliverNow_144 ?_
      refine lv_iload_n hx hb dX9_deliverNow_147 rfl (lv_at hl 2 rfl) ?_
      refine lv_iconst (v := 1) hx hb dX9_deliverNow_148 (by decide) ?_
      refine lv_iadd hx hb dX9_deliverNow_149 ?_
      obtain ⟨h_1, hf⟩ := gd_e hf
      refine s_iald 626 hx hb hK hM (ky_10_0 hG h0) (by decide) h_1 dX9_deliverNow_150 ?_
      refine lv_icmp_ge (tgt := 188) hx hb dX9_deliverNow_151 (by decide) (fun g_2 => ?_) (fun g_2 => ?_)
      · rw [if_pos g_2] at hf
        refine lv_aload_n hx hb dX9_deliverNow_188 rfl (lv_at hl 0 rfl) ?_
        refine lv_iload_n hx hb dX9_deliverNow_189 rfl (lv_at hl 1 rfl) ?_
        refine lv_bipush (v := 28) hx hb dX9_deliverNow_190 (by decide) ?_
        refine lv_iload_n hx hb dX9_deliverNow_192 rfl (lv_at hl 3 rfl) ?_
        refine lv_iconst (v := 1) hx hb dX9_deliverNow_193 (by decide) ?_
        refine lv_iadd hx hb dX9_deliverNow_194 ?_
        obtain ⟨M4, e_3, hf⟩ := vb_e hf
        refine c_Vv hx hb hml hown hts hV hK hM hS (As := [.int p1, .int 28, .int (x3 + 1)]) (rest := []) (k_X9_put G hG l a0 h0 p1 28 (x3 + 1) M e_3) w_X9_put (tk_1064 hts) (c_10 h0) rfl rfl ⟨⟨rfl, rfl⟩, Nat.le_of_ble_eq_true rfl, Nat.le_of_ble_eq_true rfl⟩ ⟨Nat.zero_le _, Nat.zero_le _⟩ rfl hl.1 rfl (Nat.le_of_ble_eq_true rfl) dX9_deliverNow_195 (fun H locs hM hS => ?_)
        refine lv_aload_n hx hb dX9_deliverNow_198 rfl (lv_at hl 0 rfl) ?_
        refine lv_iload_n hx hb dX9_deliverNow_199 rfl (lv_at hl 1 rfl) ?_
        obtain ⟨M6, e_5, hf⟩ := vb_e hf
        refine c_Vv hx hb hml hown hts hV hK hM hS (As := [.int p1]) (rest := []) (k_X9_takeFirst G hG l a0 h0 p1 M4 e_5) w_X9_takeFirst (tk_1102 hts) (c_10 h0) rfl rfl ⟨⟨rfl, rfl⟩, Nat.le_of_ble_eq_true rfl, Nat.le_of_ble_eq_true rfl⟩ ⟨Nat.zero_le _, Nat.zero_le _⟩ rfl hl.1 rfl (Nat.le_of_ble_eq_true rfl) dX9_deliverNow_200 (fun H locs hM hS => ?_)
        refine lv_iload hx hb dX9_deliverNow_203 (lv_at hl 4 rfl) ?_
        exact ef_im hx hb hr hlocks hM hS hf dX9_deliverNow_205
      · rw [if_neg g_2] at hf
        refine lv_aload_n hx hb dX9_deliverNow_154 rfl (lv_at hl 0 rfl) ?_
        refine lv_iload_n hx hb dX9_deliverNow_155 rfl (lv_at hl 1 rfl) ?_
        refine lv_aload_n hx hb dX9_deliverNow_156 rfl (lv_at hl 0 rfl) ?_
        refine s_get hx hb (lay_9 hts) hown hK hM (c_10 h0) rfl 0 (by decide) rfl rfl (tk_963 hts) dX9_deliverNow_157 ?_
        refine lv_iload_n hx hb dX9_deliverNow_160 rfl (lv_at hl 2 rfl) ?_
        refine lv_iconst (v := 5) hx hb dX9_deliverNow_161 (by decide) ?_
        refine lv_iadd hx hb dX9_deliverNow_162 ?_
        refine lv_iload hx hb dX9_deliverNow_163 (lv_at hl 5 rfl) ?_
        refine lv_iadd hx hb dX9_deliverNow_165 ?_
        obtain ⟨h_7, hf⟩ := gd_e hf
        refine s_iald 626 hx hb hK hM (ky_10_0 hG h0) (by decide) h_7 dX9_deliverNow_166 ?_
        refine lv_aload_n hx hb dX9_deliverNow_167 rfl (lv_at hl 0 rfl) ?_
        refine s_get hx hb (lay_9 hts) hown hK hM (c_10 h0) rfl 0 (by decide) rfl rfl (tk_963 hts) dX9_deliverNow_168 ?_
        refine lv_iload_n hx hb dX9_deliverNow_171 rfl (lv_at hl 2 rfl) ?_
        refine lv_bipush (v := 13) hx hb dX9_deliverNow_172 (by decide) ?_
        refine lv_iadd hx hb dX9_deliverNow_174 ?_
        refine lv_iload hx hb dX9_deliverNow_175 (lv_at hl 5 rfl) ?_
        refine lv_iadd hx hb dX9_deliverNow_177 ?_
        obtain ⟨h_8, hf⟩ := gd_e hf
        refine s_iald 626 hx hb hK hM (ky_10_0 hG h0) (by decide) h_8 dX9_deliverNow_178 ?_
        obtain ⟨M10, e_9, hf⟩ := vb_e hf
        refine c_Vv hx hb hml hown hts hV hK hM hS (As := [.int p1, .int (mI M (a0 + 1) ((x2 + 5) + x5).toNatClampNeg), .int (mI M (a0 + 1) ((x2 + 13) + x5).toNatClampNeg)]) (rest := []) (k_X9_hear G hG l a0 h0 p1 (mI M (a0 + 1) ((x2 + 5) + x5).toNatClampNeg) (mI M (a0 + 1) ((x2 + 13) + x5).toNatClampNeg) M e_9) w_X9_hear (tk_1110 hts) (c_10 h0) rfl rfl ⟨⟨rfl, rfl⟩, Nat.le_of_ble_eq_true rfl, Nat.le_of_ble_eq_true rfl⟩ ⟨Nat.zero_le _, Nat.zero_le _⟩ rfl hl.1 rfl (Nat.le_of_ble_eq_true rfl) dX9_deliverNow_179 (fun H locs hM hS => ?_)
        obtain ⟨y11, ey11, hf⟩ := nb_e hf
        refine lv_iinc (v := y11) (lv' := [(5, .int y11), (0, .ref a0), (1, .int p1), (2, .int x2), (3, .int x3), (4, .int x4)]) hx hb dX9_deliverNow_182 hl (k := 5) rfl (by rw [← ey11]; rfl) (by decide) rfl (fun ls hl => ?_)
        refine lv_goto (tgt := 141) hx hb dX9_deliverNow_185 (by decide) ?_
        exact ih x2 x3 x4 y11 _ H locs ls hM hS (lv_sub hl [1, 2, 3, 4, 5, 0] rfl) hf
  have b138 : ∀ (x2 : Int32) (x3 : Int32) (x4 : Int32) (M : Mem) (H : Heap) (locs : List Loc) (ls : Array Slot), Mh G M H → va_S (gA G) s.heap H locs → lv_has ls 6 [(0, .ref a0), (1, .int p1), (2, .int x2), (3, .int x3), (4, .int x4)] → f_X9_deliverNow_b138 a0 p1 x2 x3 x4 M = some (r, M') → W p l e ({ frames := 3, cells := 0, slots := 0, locals := 75 } : Room) s m args below meth c H locs 0 0 (MQ below (QV G (some (.int r)) M') args s 0 0 (gA G)) (F0 m 138 ls []) := by
    intro x2 x3 x4 M H locs ls hM hS hl hf
    rw [f_X9_deliverNow_b138] at hf
    refine lv_iconst (v := 0) hx hb dX9_deliverNow_138 (by decide) ?_
    refine lv_istore (lv' := [(5, .int 0), (0, .ref a0), (1, .int p1), (2, .int x2), (3, .int x3), (4, .int x4)]) hx hb dX9_deliverNow_139 hl (by decide) rfl (fun ls hl => ?_)
    exact b141 _ x2 x3 x4 0 _ H locs ls hM hS (lv_sub hl [1, 2, 3, 4, 5, 0] rfl) hf
  have b65 : ∀ (n : Nat), ∀ (x2 : Int32) (x3 : Int32) (x4 : Int32) (x5 : Int32) (M : Mem) (H : Heap) (locs : List Loc) (ls : Array Slot), Mh G M H → va_S (gA G) s.heap H locs → lv_has ls 6 [(0, .ref a0), (1, .int p1), (2, .int x2), (3, .int x3), (4, .int x4), (5, .int x5)] → f_X9_deliverNow_b65 a0 p1 n x2 x3 x4 x5 M = some (r, M') → W p l e ({ frames := 3, cells := 0, slots := 0, locals := 75 } : Room) s m args below meth c H locs 0 0 (MQ below (QV G (some (.int r)) M') args s 0 0 (gA G)) (F0 m 65 ls []) := by
    intro n
    induction n with
    | zero =>
      intro x2 x3 x4 x5 M H locs ls hM hS hl hf
      rw [f_X9_deliverNow_b65] at hf
      cases hf
    | succ n ih =>
      intro x2 x3 x4 x5 M H locs ls hM hS hl hf
      rw [f_X9_deliverNow_b65] at hf
      refine lv_iload hx hb dX9_deliverNow_65 (lv_at hl 5 rfl) ?_
      refine lv_iload hx hb dX9_deliverNow_67 (lv_at hl 4 rfl) ?_
      refine lv_icmp_ge (tgt := 96) hx hb dX9_deliverNow_69 (by decide) (fun g_12 => ?_) (fun g_12 => ?_)
      · rw [if_pos g_12] at hf
        refine lv_aload_n hx hb dX9_deliverNow_96 rfl (lv_at hl 0 rfl) ?_
        refine lv_iload_n hx hb dX9_deliverNow_97 rfl (lv_at hl 1 rfl) ?_
        refine lv_bipush (v := 30) hx hb dX9_deliverNow_98 (by decide) ?_
        refine lv_iload hx hb dX9_deliverNow_100 (lv_at hl 4 rfl) ?_
        obtain ⟨M14, e_13, hf⟩ := vb_e hf
        refine c_Vv hx hb hml hown hts hV hK hM hS (As := [.int p1, .int 30, .int x4]) (rest := []) (k_X9_add G hG l a0 h0 p1 30 x4 M e_13) w_X9_add (tk_1053 hts) (c_10 h0) rfl rfl ⟨⟨rfl, rfl⟩, Nat.le_of_ble_eq_true rfl, Nat.le_of_ble_eq_true rfl⟩ ⟨Nat.zero_le _, Nat.zero_le _⟩ rfl hl.1 rfl (Nat.le_of_ble_eq_true rfl) dX9_deliverNow_102 (fun H locs hM hS => ?_)
        refine lv_aload_n hx hb dX9_deliverNow_105 rfl (lv_at hl 0 rfl) ?_
        refine s_get hx hb (lay_9 hts) hown hK hM (c_10 h0) rfl 0 (by decide) rfl rfl (tk_963 hts) dX9_deliverNow_106 ?_
        refine lv_iload_n hx hb dX9_deliverNow_109 rfl (lv_at hl 2 rfl) ?_
        refine lv_iconst (v := 2) hx hb dX9_deliverNow_110 (by decide) ?_
        refine lv_iadd hx hb dX9_deliverNow_111 ?_
        obtain ⟨h_15, hf⟩ := gd_e hf
        refine s_iald 626 hx hb hK hM (ky_10_0 hG h0) (by decide) h_15 dX9_deliverNow_112 ?_
        refine lv_iconst (v := 1) hx hb dX9_deliverNow_113 (by decide) ?_
        refine lv_icmp_ne (tgt := 138) hx hb dX9_deliverNow_114 (by decide) (fun g_16 => ?_) (fun g_16 => ?_)
        · rw [if_neg g_16] at hf
          exact b138 x2 x3 x4 _ H locs ls hM hS (lv_sub hl [0, 1, 2, 3, 4] rfl) hf
        · rw [if_pos g_16] at hf
          refine lv_aload_n hx hb dX9_deliverNow_117 rfl (lv_at hl 0 rfl) ?_
          refine lv_iload_n hx hb dX9_deliverNow_118 rfl (lv_at hl 1 rfl) ?_
          refine lv_aload_n hx hb dX9_deliverNow_119 rfl (lv_at hl 0 rfl) ?_
          refine s_get hx hb (lay_9 hts) hown hK hM (c_10 h0) rfl 0 (by decide) rfl rfl (tk_963 hts) dX9_deliverNow_120 ?_
          refine lv_iload_n hx hb dX9_deliverNow_123 rfl (lv_at hl 2 rfl) ?_
          refine lv_iconst (v := 3) hx hb dX9_deliverNow_124 (by decide) ?_
          refine lv_iadd hx hb dX9_deliverNow_125 ?_
          obtain ⟨h_17, hf⟩ := gd_e hf
          refine s_iald 626 hx hb hK hM (ky_10_0 hG h0) (by decide) h_17 dX9_deliverNow_126 ?_
          refine lv_aload_n hx hb dX9_deliverNow_127 rfl (lv_at hl 0 rfl) ?_
          refine s_get hx hb (lay_9 hts) hown hK hM (c_10 h0) rfl 0 (by decide) rfl rfl (tk_963 hts) dX9_deliverNow_128 ?_
          refine lv_iload_n hx hb dX9_deliverNow_131 rfl (lv_at hl 2 rfl) ?_
          refine lv_iconst (v := 4) hx hb dX9_deliverNow_132 (by decide) ?_
          refine lv_iadd hx hb dX9_deliverNow_133 ?_
          obtain ⟨h_18, hf⟩ := gd_e hf
          refine s_iald 626 hx hb hK hM (ky_10_0 hG h0) (by decide) h_18 dX9_deliverNow_134 ?_
          obtain ⟨M20, e_19, hf⟩ := vb_e hf
          refine c_Vv hx hb hml hown hts hV hK hM hS (As := [.int p1, .int (mI M14 (a0 + 1) (x2 + 3).toNatClampNeg), .int (mI M14 (a0 + 1) (x2 + 4).toNatClampNeg)]) (rest := []) (k_X9_takeHead G hG l a0 h0 p1 (mI M14 (a0 + 1) (x2 + 3).toNatClampNeg) (mI M14 (a0 + 1) (x2 + 4).toNatClampNeg) M14 e_19) w_X9_takeHead (tk_1106 hts) (c_10 h0) rfl rfl ⟨⟨rfl, rfl⟩, Nat.le_of_ble_eq_true rfl, Nat.le_of_ble_eq_true rfl⟩ ⟨Nat.zero_le _, Nat.zero_le _⟩ rfl hl.1 rfl (Nat.le_of_ble_eq_true rfl) dX9_deliverNow_135 (fun H locs hM hS => ?_)
          exact b138 x2 x3 x4 _ H locs ls hM hS (lv_sub hl [0, 1, 2, 3, 4] rfl) hf
      · rw [if_neg g_12] at hf
        refine lv_aload_n hx hb dX9_deliverNow_72 rfl (lv_at hl 0 rfl) ?_
        refine lv_iload_n hx hb dX9_deliverNow_73 rfl (lv_at hl 1 rfl) ?_
        refine lv_bipush (v := 26) hx hb dX9_deliverNow_74 (by decide) ?_
        refine lv_iconst (v := 3) hx hb dX9_deliverNow_76 (by decide) ?_
        refine lv_aload_n hx hb dX9_deliverNow_77 rfl (lv_at hl 0 rfl) ?_
        refine lv_iload_n hx hb dX9_deliverNow_78 rfl (lv_at hl 1 rfl) ?_
        refine lv_bipush (v := 26) hx hb dX9_deliverNow_79 (by decide) ?_
        obtain ⟨r22, e_21, hf⟩ := vb_e hf
        refine c_Vi hx hb hml hown hts hV hK hM hS (As := [.int p1, .int 26]) (rest := [.int 3, .int 26, .int p1, .ref a0]) (k_X9_of G hG l a0 h0 p1 26 M e_21) w_X9_of (tk_1037 hts) (c_10 h0) rfl rfl ⟨⟨rfl, rfl⟩, Nat.le_of_ble_eq_true rfl, Nat.le_of_ble_eq_true rfl⟩ ⟨Nat.zero_le _, Nat.zero_le _⟩ rfl hl.1 rfl (Nat.le_of_ble_eq_true rfl) dX9_deliverNow_81 (fun H locs hM hS => ?_)
        refine lv_imul hx hb dX9_deliverNow_84 ?_
        refine lv_iconst (v := 4) hx hb dX9_deliverNow_85 (by decide) ?_
        refine lv_idiv hx hb dX9_deliverNow_86 (by decide) ?_
        obtain ⟨M24, e_23, hf⟩ := vb_e hf
        refine c_Vv hx hb hml hown hts hV hK hM hS (As := [.int p1, .int 26, .int (((3 : Int32) * r22) / 4)]) (rest := []) (k_X9_put G hG l a0 h0 p1 26 (((3 : Int32) * r22) / 4) M e_23) w_X9_put (tk_1064 hts) (c_10 h0) rfl rfl ⟨⟨rfl, rfl⟩, Nat.le_of_ble_eq_true rfl, Nat.le_of_ble_eq_true rfl⟩ ⟨Nat.zero_le _, Nat.zero_le _⟩ rfl hl.1 rfl (Nat.le_of_ble_eq_true rfl) dX9_deliverNow_87 (fun H locs hM hS => ?_)
        obtain ⟨y25, ey25, hf⟩ := nb_e hf
        refine lv_iinc (v := y25) (lv' := [(5, .int y25), (0, .ref a0), (1, .int p1), (2, .int x2), (3, .int x3), (4, .int x4)]) hx hb dX9_deliverNow_90 hl (k := 5) rfl (by rw [← ey25]; rfl) (by decide) rfl (fun ls hl => ?_)
        refine lv_goto (tgt := 65) hx hb dX9_deliverNow_93 (by decide) ?_
        exact ih x2 x3 x4 y25 _ H locs ls hM hS (lv_sub hl [1, 2, 3, 4, 5, 0] rfl) hf
  rw [f_X9_deliverNow] at hf
  obtain ⟨H, hHe⟩ : ∃ H, H = s.heap := ⟨_, rfl⟩
  obtain ⟨locs, hLe⟩ : ∃ L : List Loc, L = [] := ⟨_, rfl⟩
  rw [← hHe] at hM
  have hS : va_S (gA G) s.heap H locs := by rw [hHe, hLe]; exact va_S.rf
  suffices hW : W p l e ({ frames := 3, cells := 0, slots := 0, locals := 75 } : Room) s m args below meth c H locs 0 0 (MQ below (QV G (some (.int r)) M') args s 0 0 (gA G)) (F0 m 0 ls []) by rw [hHe, hLe] at hW; exact hW
  refine lv_iload_n hx hb dX9_deliverNow_0 rfl (lv_at hl 1 rfl) ?_
  refine lv_iconst (v := 0) hx hb dX9_deliverNow_1 (by decide) ?_
  obtain ⟨r27, e_26, hf⟩ := vb_e hf
  refine c_Si hx hb hml hown hts hV hM hS (As := [.int p1, .int 0]) (rest := []) (k_X9_packetAt G hG l p1 0 M e_26) w_X9_packetAt (tk_1087 hts) ⟨⟨rfl, rfl⟩, Nat.le_of_ble_eq_true rfl, Nat.le_of_ble_eq_true rfl⟩ ⟨Nat.zero_le _, Nat.zero_le _⟩ rfl hl.1 rfl (Nat.le_of_ble_eq_true rfl) dX9_deliverNow_2 (fun H locs hM hS => ?_)
  refine lv_istore_n (lv' := [(2, .int r27), (0, .ref a0), (1, .int p1)]) hx hb dX9_deliverNow_5 rfl hl (by decide) rfl (fun ls hl => ?_)
  refine lv_aload_n hx hb dX9_deliverNow_6 rfl (lv_at hl 1 rfl) ?_
  refine s_get hx hb (lay_9 hts) hown hK hM (c_10 h0) rfl 0 (by decide) rfl rfl (tk_963 hts) dX9_deliverNow_7 ?_
  refine lv_iload_n hx hb dX9_deliverNow_10 rfl (lv_at hl 0 rfl) ?_
  refine lv_iconst (v := 0) hx hb dX9_deliverNow_11 (by decide) ?_
  refine lv_iadd hx hb dX9_deliverNow_12 ?_
  obtain ⟨h_28, hf⟩ := gd_e hf
  refine s_iald 626 hx hb hK hM (ky_10_0 hG h0) (by decide) h_28 dX9_deliverNow_13 ?_
  obtain ⟨y29, ey29, hf⟩ := nb_e hf
  refine s_nm ey29 ?_
  refine lv_istore_n (lv' := [(3, .int y29), (2, .int r27), (0, .ref a0), (1, .int p1)]) hx hb dX9_deliverNow_14 rfl hl (by decide) rfl (fun ls hl => ?_)
  refine lv_aload_n hx hb dX9_deliverNow_15 rfl (lv_at hl 2 rfl) ?_
  refine lv_iload_n hx hb dX9_deliverNow_16 rfl (lv_at hl 3 rfl) ?_
  refine lv_bipush (v := 37) hx hb dX9_deliverNow_17 (by decide) ?_
  refine lv_iconst (v := 1) hx hb dX9_deliverNow_19 (by decide) ?_
  obtain ⟨M31, e_30, hf⟩ := vb_e hf
  refine c_Vv hx hb hml hown hts hV hK hM hS (As := [.int p1, .int 37, .int 1]) (rest := []) (k_X9_add G hG l a0 h0 p1 37 1 M e_30) w_X9_add (tk_1053 hts) (c_10 h0) rfl rfl ⟨⟨rfl, rfl⟩, Nat.le_of_ble_eq_true rfl, Nat.le_of_ble_eq_true rfl⟩ ⟨Nat.zero_le _, Nat.zero_le _⟩ rfl hl.1 rfl (Nat.le_of_ble_eq_true rfl) dX9_deliverNow_20 (fun H locs hM hS => ?_)
  refine lv_iload_n hx hb dX9_deliverNow_23 rfl (lv_at hl 0 rfl) ?_
  refine lv_aload_n hx hb dX9_deliverNow_24 rfl (lv_at hl 2 rfl) ?_
  refine lv_iload_n hx hb dX9_deliverNow_25 rfl (lv_at hl 3 rfl) ?_
  refine lv_bipush (v := 28) hx hb dX9_deliverNow_26 (by decide) ?_
  obtain ⟨r33, e_32, hf⟩ := vb_e hf
  refine c_Vi hx hb hml hown hts hV hK hM hS (As := [.int p1, .int 28]) (rest := [.int y29]) (k_X9_of G hG l a0 h0 p1 28 M31 e_32) w_X9_of (tk_1037 hts) (c_10 h0) rfl rfl ⟨⟨rfl, rfl⟩, Nat.le_of_ble_eq_true rfl, Nat.le_of_ble_eq_true rfl⟩ ⟨Nat.zero_le _, Nat.zero_le _⟩ rfl hl.1 rfl (Nat.le_of_ble_eq_true rfl) dX9_deliverNow_28 (fun H locs hM hS => ?_)
  refine lv_icmp_ge (tgt := 51) hx hb dX9_deliverNow_31 (by decide) (fun g_34 => ?_) (fun g_34 => ?_)
  · rw [if_pos g_34] at hf
    refine lv_iload_n hx hb dX9_deliverNow_51 rfl (lv_at hl 0 rfl) ?_
    refine lv_aload_n hx hb dX9_deliverNow_52 rfl (lv_at hl 2 rfl) ?_
    refine lv_iload_n hx hb dX9_deliverNow_53 rfl (lv_at hl 3 rfl) ?_
    refine lv_bipush (v := 28) hx hb dX9_deliverNow_54 (by decide) ?_
    obtain ⟨r36, e_35, hf⟩ := vb_e hf
    refine c_Vi hx hb hml hown hts hV hK hM hS (As := [.int p1, .int 28]) (rest := [.int y29]) (k_X9_of G hG l a0 h0 p1 28 M31 e_35) w_X9_of (tk_1037 hts) (c_10 h0) rfl rfl ⟨⟨rfl, rfl⟩, Nat.le_of_ble_eq_true rfl, Nat.le_of_ble_eq_true rfl⟩ ⟨Nat.zero_le _, Nat.zero_le _⟩ rfl hl.1 rfl (Nat.le_of_ble_eq_true rfl) dX9_deliverNow_56 (fun H locs hM hS => ?_)
    refine lv_isub hx hb dX9_deliverNow_59 ?_
    obtain ⟨y37, ey37, hf⟩ := nb_e hf
    refine s_nm ey37 ?_
    refine lv_istore (lv' := [(4, .int y37), (3, .int y29), (2, .int r27), (0, .ref a0), (1, .int p1)]) hx hb dX9_deliverNow_60 hl (by decide) rfl (fun ls hl => ?_)
    refine lv_iconst (v := 0) hx hb dX9_deliverNow_62 (by decide) ?_
    refine lv_istore (lv' := [(5, .int 0), (4, .int y37), (3, .int y29), (2, .int r27), (0, .ref a0), (1, .int p1)]) hx hb dX9_deliverNow_63 hl (by decide) rfl (fun ls hl => ?_)
    exact b65 _ r27 y29 y37 0 _ H locs ls hM hS (lv_sub hl [4, 5, 3, 2, 1, 0] rfl) hf
  · rw [if_neg g_34] at hf
    refine lv_aload_n hx hb dX9_deliverNow_34 rfl (lv_at hl 2 rfl) ?_
    refine lv_iload_n hx hb dX9_deliverNow_35 rfl (lv_at hl 3 rfl) ?_
    refine lv_bipush (v := 31) hx hb dX9_deliverNow_36 (by decide) ?_
    refine lv_iconst (v := 1) hx hb dX9_deliverNow_38 (by decide) ?_
    obtain ⟨M39, e_38, hf⟩ := vb_e hf
    refine c_Vv hx hb hml hown hts hV hK hM hS (As := [.int p1, .int 31, .int 1]) (rest := []) (k_X9_add G hG l a0 h0 p1 31 1 M31 e_38) w_X9_add (tk_1053 hts) (c_10 h0) rfl rfl ⟨⟨rfl, rfl⟩, Nat.le_of_ble_eq_true rfl, Nat.le_of_ble_eq_true rfl⟩ ⟨Nat.zero_le _, Nat.zero_le _⟩ rfl hl.1 rfl (Nat.le_of_ble_eq_true rfl) dX9_deliverNow_39 (fun H locs hM hS => ?_)
    refine lv_aload_n hx hb dX9_deliverNow_42 rfl (lv_at hl 2 rfl) ?_
    refine lv_iload_n hx hb dX9_deliverNow_43 rfl (lv_at hl 3 rfl) ?_
    obtain ⟨M41, e_40, hf⟩ := vb_e hf
    refine c_Vv hx hb hml hown hts hV hK hM hS (As := [.int p1]) (rest := []) (k_X9_takeFirst G hG l a0 h0 p1 M39 e_40) w_X9_takeFirst (tk_1102 hts) (c_10 h0) rfl rfl ⟨⟨rfl, rfl⟩, Nat.le_of_ble_eq_true rfl, Nat.le_of_ble_eq_true rfl⟩ ⟨Nat.zero_le _, Nat.zero_le _⟩ rfl hl.1 rfl (Nat.le_of_ble_eq_true rfl) dX9_deliverNow_44 (fun H locs hM hS => ?_)
    refine lv_sipush (v := (-10000)) hx hb dX9_deliverNow_47 (by decide) ?_
    exact ef_im hx hb hr hlocks hM hS hf dX9_deliverNow_50
def f_X9_deliver (a0 : Nat) (p1 : Int32) (M : Mem) : Option (Int32 × Mem) := nb (sI M a0 7 0) fun M1 => vb (f_X9_isVoice p1 M1) fun r3 => if r3 = 0 then (cb (f_X9_fails a0 1 M1) fun r17 M18 => some (r17, M18)) else (vb (f_X9_of a0 p1 38 M1) fun r6 => if r6 = 0 then (cb (f_X9_fails a0 2 M1) fun r14 M15 => some (r14, M15)) else (vb (f_X9_save a0 M1) fun M9 => cb (f_X9_deliverNow a0 p1 M9) fun r11 M12 => some (r11, M12)))
set_option maxHeartbeats 4000000 in
set_option maxRecDepth 100000 in
theorem k_X9_deliver (G : Gt) (hG : gOK G) (l : Launch) (a0 : Nat) (h0 : gK G a0 = 10) (p1 : Int32) (M : Mem) {r : Int32} {M' : Mem} (hf : f_X9_deliver a0 p1 M = some (r, M')) : Kc G l yX9_deliver cX9_deliver 2 (some .int) ({ frames := 4, cells := 0, slots := 0, locals := 100 } : Room) [.ref a0, .int p1] M (some (.int r)) M' := by
  refine start (by decide) (Nat.le_of_ble_eq_true rfl) ?_
  intro p e s m args below meth c ls hx hb hr hown hml hlocks hts hV hM hl
  have hown : s.vm.findClass "FoldedVoicesModel" = some m.cls := hown
  have hK := hG.1.moved hV
  have hS : va_S (gA G) s.heap s.heap [] := va_S.rf
  have hl : lv_has ls 2 [(0, .ref a0), (1, .int p1)] := hl
  have hM0 := hM
  rw [f_X9_deliver] at hf
  refine lv_aload_n hx hb dX9_deliver_0 rfl (lv_at hl 0 rfl) ?_
  refine lv_iconst (v := 0) hx hb dX9_deliver_1 (by decide) ?_
  obtain ⟨M1, eM1, hf⟩ := nb_e hf
  refine s_put tyX9 hx hb (lay_9 hts) tyX9_ok nmX9 hown hK hM hS (ky_b hG h0) (c_10 h0) rfl 7 (by decide) rfl rfl rfl (Nat.le_of_ble_eq_true rfl) (cp_9_7 h0) (fun _ h9 => cel_sI _ h9) hM.2.2.sI rfl (tk_970 hts) dX9_deliver_2 (fun H locs hM hS => ?_)
  rw [eM1] at hM
  refine lv_iload_n hx hb dX9_deliver_5 rfl (lv_at hl 1 rfl) ?_
  obtain ⟨r3, e_2, hf⟩ := vb_e hf
  refine c_Si hx hb hml hown hts hV hM hS (As := [.int p1]) (rest := []) (k_X9_isVoice G hG l p1 M1 e_2) w_X9_isVoice (tk_1020 hts) ⟨⟨rfl, rfl⟩, Nat.le_of_ble_eq_true rfl, Nat.le_of_ble_eq_true rfl⟩ ⟨Nat.zero_le _, Nat.zero_le _⟩ rfl hl.1 rfl (Nat.le_of_ble_eq_true rfl) dX9_deliver_6 (fun H locs hM hS => ?_)
  refine lv_if_ne (tgt := 18) hx hb dX9_deliver_9 (by decide) (fun g_4 => ?_) (fun g_4 => ?_)
  · rw [if_neg g_4] at hf
    refine lv_aload_n hx hb dX9_deliver_18 rfl (lv_at hl 0 rfl) ?_
    refine lv_iload_n hx hb dX9_deliver_19 rfl (lv_at hl 1 rfl) ?_
    refine lv_bipush (v := 38) hx hb dX9_deliver_20 (by decide) ?_
    obtain ⟨r6, e_5, hf⟩ := vb_e hf
    refine c_Vi hx hb hml hown hts hV hK hM hS (As := [.int p1, .int 38]) (rest := []) (k_X9_of G hG l a0 h0 p1 38 M1 e_5) w_X9_of (tk_1037 hts) (c_10 h0) rfl rfl ⟨⟨rfl, rfl⟩, Nat.le_of_ble_eq_true rfl, Nat.le_of_ble_eq_true rfl⟩ ⟨Nat.zero_le _, Nat.zero_le _⟩ rfl hl.1 rfl (Nat.le_of_ble_eq_true rfl) dX9_deliver_22 (fun H locs hM hS => ?_)
    refine lv_if_ne (tgt := 34) hx hb dX9_deliver_25 (by decide) (fun g_7 => ?_) (fun g_7 => ?_)
    · rw [if_neg g_7] at hf
      refine lv_aload_n hx hb dX9_deliver_34 rfl (lv_at hl 0 rfl) ?_
      obtain ⟨M9, e_8, hf⟩ := vb_e hf
      refine c_Vv hx hb hml hown hts hV hK hM hS (As := []) (rest := []) (k_X9_save G hG l a0 h0 M1 e_8) w_X9_save (tk_1045 hts) (c_10 h0) rfl rfl ⟨⟨rfl, rfl⟩, Nat.le_of_ble_eq_true rfl, Nat.le_of_ble_eq_true rfl⟩ ⟨Nat.zero_le _, Nat.zero_le _⟩ rfl hl.1 rfl (Nat.le_of_ble_eq_true rfl) dX9_deliver_35 (fun H locs hM hS => ?_)
      refine lv_aload_n hx hb dX9_deliver_38 rfl (lv_at hl 0 rfl) ?_
      refine lv_iload_n hx hb dX9_deliver_39 rfl (lv_at hl 1 rfl) ?_
      obtain ⟨r11, M12, e_10, hf⟩ := cb_e hf
      refine c_Vi hx hb hml hown hts hV hK hM hS (As := [.int p1]) (rest := []) (k_X9_deliverNow G hG l a0 h0 p1 M9 e_10) w_X9_deliverNow (tk_1098 hts) (c_10 h0) rfl rfl ⟨⟨rfl, rfl⟩, Nat.le_of_ble_eq_true rfl, Nat.le_of_ble_eq_true rfl⟩ ⟨Nat.zero_le _, Nat.zero_le _⟩ rfl hl.1 rfl (Nat.le_of_ble_eq_true rfl) dX9_deliver_40 (fun H locs hM hS => ?_)
      exact ef_im hx hb hr hlocks hM hS hf dX9_deliver_43
    · rw [if_pos g_7] at hf
      refine lv_aload_n hx hb dX9_deliver_28 rfl (lv_at hl 0 rfl) ?_
      refine lv_iconst (v := 2) hx hb dX9_deliver_29 (by decide) ?_
      obtain ⟨r14, M15, e_13, hf⟩ := cb_e hf
      refine c_Vi hx hb hml hown hts hV hK hM hS (As := [.int 2]) (rest := []) (k_X9_fails G hG l a0 h0 2 M1 e_13) w_X9_fails (tk_1026 hts) (c_10 h0) rfl rfl ⟨⟨rfl, rfl⟩, Nat.le_of_ble_eq_true rfl, Nat.le_of_ble_eq_true rfl⟩ ⟨Nat.zero_le _, Nat.zero_le _⟩ rfl hl.1 rfl (Nat.le_of_ble_eq_true rfl) dX9_deliver_30 (fun H locs hM hS => ?_)
      exact ef_im hx hb hr hlocks hM hS hf dX9_deliver_33
  · rw [if_pos g_4] at hf
    refine lv_aload_n hx hb dX9_deliver_12 rfl (lv_at hl 0 rfl) ?_
    refine lv_iconst (v := 1) hx hb dX9_deliver_13 (by decide) ?_
    obtain ⟨r17, M18, e_16, hf⟩ := cb_e hf
    refine c_Vi hx hb hml hown hts hV hK hM hS (As := [.int 1]) (rest := []) (k_X9_fails G hG l a0 h0 1 M1 e_16) w_X9_fails (tk_1026 hts) (c_10 h0) rfl rfl ⟨⟨rfl, rfl⟩, Nat.le_of_ble_eq_true rfl, Nat.le_of_ble_eq_true rfl⟩ ⟨Nat.zero_le _, Nat.zero_le _⟩ rfl hl.1 rfl (Nat.le_of_ble_eq_true rfl) dX9_deliver_14 (fun H locs hM hS => ?_)
    exact ef_im hx hb hr hlocks hM hS hf dX9_deliver_17
def f_X9_loseNow (a0 : Nat) (p1 : Int32) (M : Mem) : Option (Int32 × Mem) := vb (f_X9_packetAt p1 0 M) fun r2 => gd (ix (r2 + 0) 626) <| nb (mI M (a0 + 1) (r2 + 0).toNatClampNeg) fun y4 => vb (f_X9_takeFirst a0 p1 M) fun M6 => vb (f_X9_add a0 p1 36 1 M6) fun M8 => some (y4, M8)
set_option maxHeartbeats 4000000 in
set_option maxRecDepth 100000 in
theorem k_X9_loseNow (G : Gt) (hG : gOK G) (l : Launch) (a0 : Nat) (h0 : gK G a0 = 10) (p1 : Int32) (M : Mem) {r : Int32} {M' : Mem} (hf : f_X9_loseNow a0 p1 M = some (r, M')) : Kc G l yX9_loseNow cX9_loseNow 3 (some .int) ({ frames := 2, cells := 0, slots := 0, locals := 46 } : Room) [.ref a0, .int p1] M (some (.int r)) M' := by
  refine start (by decide) (Nat.le_of_ble_eq_true rfl) ?_
  intro p e s m args below meth c ls hx hb hr hown hml hlocks hts hV hM hl
  have hown : s.vm.findClass "FoldedVoicesModel" = some m.cls := hown
  have hK := hG.1.moved hV
  have hS : va_S (gA G) s.heap s.heap [] := va_S.rf
  have hl : lv_has ls 3 [(0, .ref a0), (1, .int p1)] := hl
  have hM0 := hM
  rw [f_X9_loseNow] at hf
  refine lv_aload_n hx hb dX9_loseNow_0 rfl (lv_at hl 0 rfl) ?_
  refine s_get hx hb (lay_9 hts) hown hK hM (c_10 h0) rfl 0 (by decide) rfl rfl (tk_963 hts) dX9_loseNow_1 ?_
  refine lv_iload_n hx hb dX9_loseNow_4 rfl (lv_at hl 1 rfl) ?_
  refine lv_iconst (v := 0) hx hb dX9_loseNow_5 (by decide) ?_
  obtain ⟨r2, e_1, hf⟩ := vb_e hf
  refine c_Si hx hb hml hown hts hV hM hS (As := [.int p1, .int 0]) (rest := [.ref (a0 + 1)]) (k_X9_packetAt G hG l p1 0 M e_1) w_X9_packetAt (tk_1087 hts) ⟨⟨rfl, rfl⟩, Nat.le_of_ble_eq_true rfl, Nat.le_of_ble_eq_true rfl⟩ ⟨Nat.zero_le _, Nat.zero_le _⟩ rfl hl.1 rfl (Nat.le_of_ble_eq_true rfl) dX9_loseNow_6 (fun H locs hM hS => ?_)
  refine lv_iconst (v := 0) hx hb dX9_loseNow_9 (by decide) ?_
  refine lv_iadd hx hb dX9_loseNow_10 ?_
  obtain ⟨h_3, hf⟩ := gd_e hf
  refine s_iald 626 hx hb hK hM (ky_10_0 hG h0) (by decide) h_3 dX9_loseNow_11 ?_
  obtain ⟨y4, ey4, hf⟩ := nb_e hf
  refine s_nm ey4 ?_
  refine lv_istore_n (lv' := [(2, .int y4), (0, .ref a0), (1, .int p1)]) hx hb dX9_loseNow_12 rfl hl (by decide) rfl (fun ls hl => ?_)
  refine lv_aload_n hx hb dX9_loseNow_13 rfl (lv_at hl 1 rfl) ?_
  refine lv_iload_n hx hb dX9_loseNow_14 rfl (lv_at hl 2 rfl) ?_
  obtain ⟨M6, e_5, hf⟩ := vb_e hf
  refine c_Vv hx hb hml hown hts hV hK hM hS (As := [.int p1]) (rest := []) (k_X9_takeFirst G hG l a0 h0 p1 M e_5) w_X9_takeFirst (tk_1102 hts) (c_10 h0) rfl rfl ⟨⟨rfl, rfl⟩, Nat.le_of_ble_eq_true rfl, Nat.le_of_ble_eq_true rfl⟩ ⟨Nat.zero_le _, Nat.zero_le _⟩ rfl hl.1 rfl (Nat.le_of_ble_eq_true rfl) dX9_loseNow_15 (fun H locs hM hS => ?_)
  refine lv_aload_n hx hb dX9_loseNow_18 rfl (lv_at hl 1 rfl) ?_
  refine lv_iload_n hx hb dX9_loseNow_19 rfl (lv_at hl 2 rfl) ?_
  refine lv_bipush (v := 36) hx hb dX9_loseNow_20 (by decide) ?_
  refine lv_iconst (v := 1) hx hb dX9_loseNow_22 (by decide) ?_
  obtain ⟨M8, e_7, hf⟩ := vb_e hf
  refine c_Vv hx hb hml hown hts hV hK hM hS (As := [.int p1, .int 36, .int 1]) (rest := []) (k_X9_add G hG l a0 h0 p1 36 1 M6 e_7) w_X9_add (tk_1053 hts) (c_10 h0) rfl rfl ⟨⟨rfl, rfl⟩, Nat.le_of_ble_eq_true rfl, Nat.le_of_ble_eq_true rfl⟩ ⟨Nat.zero_le _, Nat.zero_le _⟩ rfl hl.1 rfl (Nat.le_of_ble_eq_true rfl) dX9_loseNow_23 (fun H locs hM hS => ?_)
  refine lv_iload_n hx hb dX9_loseNow_26 rfl (lv_at hl 0 rfl) ?_
  exact ef_im hx hb hr hlocks hM hS hf dX9_loseNow_27
def f_X9_lose (a0 : Nat) (p1 : Int32) (M : Mem) : Option (Int32 × Mem) := nb (sI M a0 7 0) fun M1 => vb (f_X9_isVoice p1 M1) fun r3 => if r3 = 0 then (cb (f_X9_fails a0 1 M1) fun r17 M18 => some (r17, M18)) else (vb (f_X9_of a0 p1 38 M1) fun r6 => if r6 = 0 then (cb (f_X9_fails a0 2 M1) fun r14 M15 => some (r14, M15)) else (vb (f_X9_save a0 M1) fun M9 => cb (f_X9_loseNow a0 p1 M9) fun r11 M12 => some (r11, M12)))
set_option maxHeartbeats 4000000 in
set_option maxRecDepth 100000 in
theorem k_X9_lose (G : Gt) (hG : gOK G) (l : Launch) (a0 : Nat) (h0 : gK G a0 = 10) (p1 : Int32) (M : Mem) {r : Int32} {M' : Mem} (hf : f_X9_lose a0 p1 M = some (r, M')) : Kc G l yX9_lose cX9_lose 2 (some .int) ({ frames := 3, cells := 0, slots := 0, locals := 68 } : Room) [.ref a0, .int p1] M (some (.int r)) M' := by
  refine start (by decide) (Nat.le_of_ble_eq_true rfl) ?_
  intro p e s m args below meth c ls hx hb hr hown hml hlocks hts hV hM hl
  have hown : s.vm.findClass "FoldedVoicesModel" = some m.cls := hown
  have hK := hG.1.moved hV
  have hS : va_S (gA G) s.heap s.heap [] := va_S.rf
  have hl : lv_has ls 2 [(0, .ref a0), (1, .int p1)] := hl
  have hM0 := hM
  rw [f_X9_lose] at hf
  refine lv_aload_n hx hb dX9_lose_0 rfl (lv_at hl 0 rfl) ?_
  refine lv_iconst (v := 0) hx hb dX9_lose_1 (by decide) ?_
  obtain ⟨M1, eM1, hf⟩ := nb_e hf
  refine s_put tyX9 hx hb (lay_9 hts) tyX9_ok nmX9 hown hK hM hS (ky_b hG h0) (c_10 h0) rfl 7 (by decide) rfl rfl rfl (Nat.le_of_ble_eq_true rfl) (cp_9_7 h0) (fun _ h9 => cel_sI _ h9) hM.2.2.sI rfl (tk_970 hts) dX9_lose_2 (fun H locs hM hS => ?_)
  rw [eM1] at hM
  refine lv_iload_n hx hb dX9_lose_5 rfl (lv_at hl 1 rfl) ?_
  obtain ⟨r3, e_2, hf⟩ := vb_e hf
  refine c_Si hx hb hml hown hts hV hM hS (As := [.int p1]) (rest := []) (k_X9_isVoice G hG l p1 M1 e_2) w_X9_isVoice (tk_1020 hts) ⟨⟨rfl, rfl⟩, Nat.le_of_ble_eq_true rfl, Nat.le_of_ble_eq_true rfl⟩ ⟨Nat.zero_le _, Nat.zero_le _⟩ rfl hl.1 rfl (Nat.le_of_ble_eq_true rfl) dX9_lose_6 (fun H locs hM hS => ?_)
  refine lv_if_ne (tgt := 18) hx hb dX9_lose_9 (by decide) (fun g_4 => ?_) (fun g_4 => ?_)
  · rw [if_neg g_4] at hf
    refine lv_aload_n hx hb dX9_lose_18 rfl (lv_at hl 0 rfl) ?_
    refine lv_iload_n hx hb dX9_lose_19 rfl (lv_at hl 1 rfl) ?_
    refine lv_bipush (v := 38) hx hb dX9_lose_20 (by decide) ?_
    obtain ⟨r6, e_5, hf⟩ := vb_e hf
    refine c_Vi hx hb hml hown hts hV hK hM hS (As := [.int p1, .int 38]) (rest := []) (k_X9_of G hG l a0 h0 p1 38 M1 e_5) w_X9_of (tk_1037 hts) (c_10 h0) rfl rfl ⟨⟨rfl, rfl⟩, Nat.le_of_ble_eq_true rfl, Nat.le_of_ble_eq_true rfl⟩ ⟨Nat.zero_le _, Nat.zero_le _⟩ rfl hl.1 rfl (Nat.le_of_ble_eq_true rfl) dX9_lose_22 (fun H locs hM hS => ?_)
    refine lv_if_ne (tgt := 34) hx hb dX9_lose_25 (by decide) (fun g_7 => ?_) (fun g_7 => ?_)
    · rw [if_neg g_7] at hf
      refine lv_aload_n hx hb dX9_lose_34 rfl (lv_at hl 0 rfl) ?_
      obtain ⟨M9, e_8, hf⟩ := vb_e hf
      refine c_Vv hx hb hml hown hts hV hK hM hS (As := []) (rest := []) (k_X9_save G hG l a0 h0 M1 e_8) w_X9_save (tk_1045 hts) (c_10 h0) rfl rfl ⟨⟨rfl, rfl⟩, Nat.le_of_ble_eq_true rfl, Nat.le_of_ble_eq_true rfl⟩ ⟨Nat.zero_le _, Nat.zero_le _⟩ rfl hl.1 rfl (Nat.le_of_ble_eq_true rfl) dX9_lose_35 (fun H locs hM hS => ?_)
      refine lv_aload_n hx hb dX9_lose_38 rfl (lv_at hl 0 rfl) ?_
      refine lv_iload_n hx hb dX9_lose_39 rfl (lv_at hl 1 rfl) ?_
      obtain ⟨r11, M12, e_10, hf⟩ := cb_e hf
      refine c_Vi hx hb hml hown hts hV hK hM hS (As := [.int p1]) (rest := []) (k_X9_loseNow G hG l a0 h0 p1 M9 e_10) w_X9_loseNow (tk_1118 hts) (c_10 h0) rfl rfl ⟨⟨rfl, rfl⟩, Nat.le_of_ble_eq_true rfl, Nat.le_of_ble_eq_true rfl⟩ ⟨Nat.zero_le _, Nat.zero_le _⟩ rfl hl.1 rfl (Nat.le_of_ble_eq_true rfl) dX9_lose_40 (fun H locs hM hS => ?_)
      exact ef_im hx hb hr hlocks hM hS hf dX9_lose_43
    · rw [if_pos g_7] at hf
      refine lv_aload_n hx hb dX9_lose_28 rfl (lv_at hl 0 rfl) ?_
      refine lv_iconst (v := 2) hx hb dX9_lose_29 (by decide) ?_
      obtain ⟨r14, M15, e_13, hf⟩ := cb_e hf
      refine c_Vi hx hb hml hown hts hV hK hM hS (As := [.int 2]) (rest := []) (k_X9_fails G hG l a0 h0 2 M1 e_13) w_X9_fails (tk_1026 hts) (c_10 h0) rfl rfl ⟨⟨rfl, rfl⟩, Nat.le_of_ble_eq_true rfl, Nat.le_of_ble_eq_true rfl⟩ ⟨Nat.zero_le _, Nat.zero_le _⟩ rfl hl.1 rfl (Nat.le_of_ble_eq_true rfl) dX9_lose_30 (fun H locs hM hS => ?_)
      exact ef_im hx hb hr hlocks hM hS hf dX9_lose_33
  · rw [if_pos g_4] at hf
    refine lv_aload_n hx hb dX9_lose_12 rfl (lv_at hl 0 rfl) ?_
    refine lv_iconst (v := 1) hx hb dX9_lose_13 (by decide) ?_
    obtain ⟨r17, M18, e_16, hf⟩ := cb_e hf
    refine c_Vi hx hb hml hown hts hV hK hM hS (As := [.int 1]) (rest := []) (k_X9_fails G hG l a0 h0 1 M1 e_16) w_X9_fails (tk_1026 hts) (c_10 h0) rfl rfl ⟨⟨rfl, rfl⟩, Nat.le_of_ble_eq_true rfl, Nat.le_of_ble_eq_true rfl⟩ ⟨Nat.zero_le _, Nat.zero_le _⟩ rfl hl.1 rfl (Nat.le_of_ble_eq_true rfl) dX9_lose_14 (fun H locs hM hS => ?_)
    exact ef_im hx hb hr hlocks hM hS hf dX9_lose_17
def f_X9_swapNow_b8 (a0 : Nat) (p1 : Int32) : Nat → Int32 → Int32 → Mem → Option (Int32 × Mem)
  | 0, _, _, _ => none
  | n + 1, x2, x3, M => if (x2 + 21) ≤ x3 then (gd (ix (x2 + 0) 626) <| some (mI M (a0 + 1) (x2 + 0).toNatClampNeg, M)) else (gd (ix x3 626) <| nb (mI M (a0 + 1) x3.toNatClampNeg) fun y4 => gd (ix (x3 + 21) 626) <| gd (ix x3 626) <| nb (sI M (a0 + 1) x3.toNatClampNeg (mI M (a0 + 1) (x3 + 21).toNatClampNeg)) fun M7 => gd (ix (x3 + 21) 626) <| nb (sI M7 (a0 + 1) (x3 + 21).toNatClampNeg y4) fun M9 => nb (x3 + 1) fun y10 => f_X9_swapNow_b8 a0 p1 n x2 y10 M9)
def f_X9_swapNow (a0 : Nat) (p1 : Int32) (M : Mem) : Option (Int32 × Mem) := vb (f_X9_packetAt p1 0 M) fun r12 => f_X9_swapNow_b8 a0 p1 lfuel r12 r12 M
set_option maxHeartbeats 4000000 in
set_option maxRecDepth 100000 in
theorem k_X9_swapNow (G : Gt) (hG : gOK G) (l : Launch) (a0 : Nat) (h0 : gK G a0 = 10) (p1 : Int32) (M : Mem) {r : Int32} {M' : Mem} (hf : f_X9_swapNow a0 p1 M = some (r, M')) : Kc G l yX9_swapNow cX9_swapNow 5 (some .int) ({ frames := 1, cells := 0, slots := 0, locals := 21 } : Room) [.ref a0, .int p1] M (some (.int r)) M' := by
  refine start (by decide) (Nat.le_of_ble_eq_true rfl) ?_
  intro p e s m args below meth c ls hx hb hr hown hml hlocks hts hV hM hl
  have hown : s.vm.findClass "FoldedVoicesModel" = some m.cls := hown
  have hK := hG.1.moved hV
  have hS : va_S (gA G) s.heap s.heap [] := va_S.rf
  have hl : lv_has ls 5 [(0, .ref a0), (1, .int p1)] := hl
  have hM0 := hM
  have b8 : ∀ (n : Nat), ∀ (x2 : Int32) (x3 : Int32) (M : Mem) (H : Heap) (locs : List Loc) (ls : Array Slot), Mh G M H → va_S (gA G) s.heap H locs → lv_has ls 5 [(0, .ref a0), (1, .int p1), (2, .int x2), (3, .int x3)] → f_X9_swapNow_b8 a0 p1 n x2 x3 M = some (r, M') → W p l e ({ frames := 1, cells := 0, slots := 0, locals := 21 } : Room) s m args below meth c H locs 0 0 (MQ below (QV G (some (.int r)) M') args s 0 0 (gA G)) (F0 m 8 ls []) := by
    intro n
    induction n with
    | zero =>
      intro x2 x3 M H locs ls hM hS hl hf
      rw [f_X9_swapNow_b8] at hf
      cases hf
    | succ n ih =>
      intro x2 x3 M H locs ls hM hS hl hf
      rw [f_X9_swapNow_b8] at hf
      refine lv_iload_n hx hb dX9_swapNow_8 rfl (lv_at hl 3 rfl) ?_
      refine lv_iload_n hx hb dX9_swapNow_9 rfl (lv_at hl 2 rfl) ?_
      refine lv_bipush (v := 21) hx hb dX9_swapNow_10 (by decide) ?_
      refine lv_iadd hx hb dX9_swapNow_12 ?_
      refine lv_icmp_ge (tgt := 56) hx hb dX9_swapNow_13 (by decide) (fun g_1 => ?_) (fun g_1 => ?_)
      · rw [if_pos g_1] at hf
        refine lv_aload_n hx hb dX9_swapNow_56 rfl (lv_at hl 0 rfl) ?_
        refine s_get hx hb (lay_9 hts) hown hK hM (c_10 h0) rfl 0 (by decide) rfl rfl (tk_963 hts) dX9_swapNow_57 ?_
        refine lv_iload_n hx hb dX9_swapNow_60 rfl (lv_at hl 2 rfl) ?_
        refine lv_iconst (v := 0) hx hb dX9_swapNow_61 (by decide) ?_
        refine lv_iadd hx hb dX9_swapNow_62 ?_
        obtain ⟨h_2, hf⟩ := gd_e hf
        refine s_iald 626 hx hb hK hM (ky_10_0 hG h0) (by decide) h_2 dX9_swapNow_63 ?_
        exact ef_im hx hb hr hlocks hM hS hf dX9_swapNow_64
      · rw [if_neg g_1] at hf
        refine lv_aload_n hx hb dX9_swapNow_16 rfl (lv_at hl 0 rfl) ?_
        refine s_get hx hb (lay_9 hts) hown hK hM (c_10 h0) rfl 0 (by decide) rfl rfl (tk_963 hts) dX9_swapNow_17 ?_
        refine lv_iload_n hx hb dX9_swapNow_20 rfl (lv_at hl 3 rfl) ?_
        obtain ⟨h_3, hf⟩ := gd_e hf
        refine s_iald 626 hx hb hK hM (ky_10_0 hG h0) (by decide) h_3 dX9_swapNow_21 ?_
        obtain ⟨y4, ey4, hf⟩ := nb_e hf
        refine s_nm ey4 ?_
        refine lv_istore (lv' := [(4, .int y4), (0, .ref a0), (1, .int p1), (2, .int x2), (3, .int x3)]) hx hb dX9_swapNow_22 hl (by decide) rfl (fun ls hl => ?_)
        refine lv_aload_n hx hb dX9_swapNow_24 rfl (lv_at hl 1 rfl) ?_
        refine s_get hx hb (lay_9 hts) hown hK hM (c_10 h0) rfl 0 (by decide) rfl rfl (tk_963 hts) dX9_swapNow_25 ?_
        refine lv_iload_n hx hb dX9_swapNow_28 rfl (lv_at hl 4 rfl) ?_
        refine lv_aload_n hx hb dX9_swapNow_29 rfl (lv_at hl 1 rfl) ?_
        refine s_get hx hb (lay_9 hts) hown hK hM (c_10 h0) rfl 0 (by decide) rfl rfl (tk_963 hts) dX9_swapNow_30 ?_
        refine lv_iload_n hx hb dX9_swapNow_33 rfl (lv_at hl 4 rfl) ?_
        refine lv_bipush (v := 21) hx hb dX9_swapNow_34 (by decide) ?_
        refine lv_iadd hx hb dX9_swapNow_36 ?_
        obtain ⟨h_5, hf⟩ := gd_e hf
        refine s_iald 626 hx hb hK hM (ky_10_0 hG h0) (by decide) h_5 dX9_swapNow_37 ?_
        obtain ⟨h_6, hf⟩ := gd_e hf
        obtain ⟨M7, eM7, hf⟩ := nb_e hf
        refine s_iast 626 hx hb hK hM hS (ky_10_0 hG h0) (by decide) (ky_b hG (ky_10_0 hG h0)) h_6 dX9_swapNow_38 (fun H locs hM hS => ?_)
        rw [eM7] at hM
        refine lv_aload_n hx hb dX9_swapNow_39 rfl (lv_at hl 1 rfl) ?_
        refine s_get hx hb (lay_9 hts) hown hK hM (c_10 h0) rfl 0 (by decide) rfl rfl (tk_963 hts) dX9_swapNow_40 ?_
        refine lv_iload_n hx hb dX9_swapNow_43 rfl (lv_at hl 4 rfl) ?_
        refine lv_bipush (v := 21) hx hb dX9_swapNow_44 (by decide) ?_
        refine lv_iadd hx hb dX9_swapNow_46 ?_
        refine lv_iload hx hb dX9_swapNow_47 (lv_at hl 0 rfl) ?_
        obtain ⟨h_8, hf⟩ := gd_e hf
        obtain ⟨M9, eM9, hf⟩ := nb_e hf
        refine s_iast 626 hx hb hK hM hS (ky_10_0 hG h0) (by decide) (ky_b hG (ky_10_0 hG h0)) h_8 dX9_swapNow_49 (fun H locs hM hS => ?_)
        rw [eM9] at hM
        obtain ⟨y10, ey10, hf⟩ := nb_e hf
        refine lv_iinc (v := y10) (lv' := [(3, .int y10), (4, .int y4), (0, .ref a0), (1, .int p1), (2, .int x2)]) hx hb dX9_swapNow_50 hl (k := 4) rfl (by rw [← ey10]; rfl) (by decide) rfl (fun ls hl => ?_)
        refine lv_goto (tgt := 8) hx hb dX9_swapNow_53 (by decide) ?_
        exact ih x2 y10 _ H locs ls hM hS (lv_sub hl [2, 3, 4, 0] rfl) hf
  rw [f_X9_swapNow] at hf
  obtain ⟨H, hHe⟩ : ∃ H, H = s.heap := ⟨_, rfl⟩
  obtain ⟨locs, hLe⟩ : ∃ L : List Loc, L = [] := ⟨_, rfl⟩
  rw [← hHe] at hM
  have hS : va_S (gA G) s.heap H locs := by rw [hHe, hLe]; exact va_S.rf
  suffices hW : W p l e ({ frames := 1, cells := 0, slots := 0, locals := 21 } : Room) s m args below meth c H locs 0 0 (MQ below (QV G (some (.int r)) M') args s 0 0 (gA G)) (F0 m 0 ls []) by rw [hHe, hLe] at hW; exact hW
  refine lv_iload_n hx hb dX9_swapNow_0 rfl (lv_at hl 1 rfl) ?_
  refine lv_iconst (v := 0) hx hb dX9_swapNow_1 (by decide) ?_
  obtain ⟨r12, e_11, hf⟩ := vb_e hf
  refine c_Si hx hb hml hown hts hV hM hS (As := [.int p1, .int 0]) (rest := []) (k_X9_packetAt G hG l p1 0 M e_11) w_X9_packetAt (tk_1087 hts) ⟨⟨rfl, rfl⟩, Nat.le_of_ble_eq_true rfl, Nat.le_of_ble_eq_true rfl⟩ ⟨Nat.zero_le _, Nat.zero_le _⟩ rfl hl.1 rfl (Nat.le_of_ble_eq_true rfl) dX9_swapNow_2 (fun H locs hM hS => ?_)
  refine lv_istore_n (lv' := [(2, .int r12), (0, .ref a0), (1, .int p1)]) hx hb dX9_swapNow_5 rfl hl (by decide) rfl (fun ls hl => ?_)
  refine lv_iload_n hx hb dX9_swapNow_6 rfl (lv_at hl 0 rfl) ?_
  refine lv_istore_n (lv' := [(3, .int r12), (2, .int r12), (0, .ref a0), (1, .int p1)]) hx hb dX9_swapNow_7 rfl hl (by decide) rfl (fun ls hl => ?_)
  exact b8 _ r12 r12 _ H locs ls hM hS (lv_sub hl [2, 3, 1, 0] rfl) hf
def f_X9_swap (a0 : Nat) (p1 : Int32) (M : Mem) : Option (Int32 × Mem) := nb (sI M a0 7 0) fun M1 => vb (f_X9_isVoice p1 M1) fun r3 => if r3 = 0 then (cb (f_X9_fails a0 1 M1) fun r17 M18 => some (r17, M18)) else (vb (f_X9_of a0 p1 38 M1) fun r6 => if (2 : Int32) ≤ r6 then (vb (f_X9_save a0 M1) fun M9 => cb (f_X9_swapNow a0 p1 M9) fun r11 M12 => some (r11, M12)) else (cb (f_X9_fails a0 2 M1) fun r14 M15 => some (r14, M15)))
set_option maxHeartbeats 4000000 in
set_option maxRecDepth 100000 in
theorem k_X9_swap (G : Gt) (hG : gOK G) (l : Launch) (a0 : Nat) (h0 : gK G a0 = 10) (p1 : Int32) (M : Mem) {r : Int32} {M' : Mem} (hf : f_X9_swap a0 p1 M = some (r, M')) : Kc G l yX9_swap cX9_swap 2 (some .int) ({ frames := 2, cells := 0, slots := 0, locals := 45 } : Room) [.ref a0, .int p1] M (some (.int r)) M' := by
  refine start (by decide) (Nat.le_of_ble_eq_true rfl) ?_
  intro p e s m args below meth c ls hx hb hr hown hml hlocks hts hV hM hl
  have hown : s.vm.findClass "FoldedVoicesModel" = some m.cls := hown
  have hK := hG.1.moved hV
  have hS : va_S (gA G) s.heap s.heap [] := va_S.rf
  have hl : lv_has ls 2 [(0, .ref a0), (1, .int p1)] := hl
  have hM0 := hM
  rw [f_X9_swap] at hf
  refine lv_aload_n hx hb dX9_swap_0 rfl (lv_at hl 0 rfl) ?_
  refine lv_iconst (v := 0) hx hb dX9_swap_1 (by decide) ?_
  obtain ⟨M1, eM1, hf⟩ := nb_e hf
  refine s_put tyX9 hx hb (lay_9 hts) tyX9_ok nmX9 hown hK hM hS (ky_b hG h0) (c_10 h0) rfl 7 (by decide) rfl rfl rfl (Nat.le_of_ble_eq_true rfl) (cp_9_7 h0) (fun _ h9 => cel_sI _ h9) hM.2.2.sI rfl (tk_970 hts) dX9_swap_2 (fun H locs hM hS => ?_)
  rw [eM1] at hM
  refine lv_iload_n hx hb dX9_swap_5 rfl (lv_at hl 1 rfl) ?_
  obtain ⟨r3, e_2, hf⟩ := vb_e hf
  refine c_Si hx hb hml hown hts hV hM hS (As := [.int p1]) (rest := []) (k_X9_isVoice G hG l p1 M1 e_2) w_X9_isVoice (tk_1020 hts) ⟨⟨rfl, rfl⟩, Nat.le_of_ble_eq_true rfl, Nat.le_of_ble_eq_true rfl⟩ ⟨Nat.zero_le _, Nat.zero_le _⟩ rfl hl.1 rfl (Nat.le_of_ble_eq_true rfl) dX9_swap_6 (fun H locs hM hS => ?_)
  refine lv_if_ne (tgt := 18) hx hb dX9_swap_9 (by decide) (fun g_4 => ?_) (fun g_4 => ?_)
  · rw [if_neg g_4] at hf
    refine lv_aload_n hx hb dX9_swap_18 rfl (lv_at hl 0 rfl) ?_
    refine lv_iload_n hx hb dX9_swap_19 rfl (lv_at hl 1 rfl) ?_
    refine lv_bipush (v := 38) hx hb dX9_swap_20 (by decide) ?_
    obtain ⟨r6, e_5, hf⟩ := vb_e hf
    refine c_Vi hx hb hml hown hts hV hK hM hS (As := [.int p1, .int 38]) (rest := []) (k_X9_of G hG l a0 h0 p1 38 M1 e_5) w_X9_of (tk_1037 hts) (c_10 h0) rfl rfl ⟨⟨rfl, rfl⟩, Nat.le_of_ble_eq_true rfl, Nat.le_of_ble_eq_true rfl⟩ ⟨Nat.zero_le _, Nat.zero_le _⟩ rfl hl.1 rfl (Nat.le_of_ble_eq_true rfl) dX9_swap_22 (fun H locs hM hS => ?_)
    refine lv_iconst (v := 2) hx hb dX9_swap_25 (by decide) ?_
    refine lv_icmp_ge (tgt := 35) hx hb dX9_swap_26 (by decide) (fun g_7 => ?_) (fun g_7 => ?_)
    · rw [if_pos g_7] at hf
      refine lv_aload_n hx hb dX9_swap_35 rfl (lv_at hl 0 rfl) ?_
      obtain ⟨M9, e_8, hf⟩ := vb_e hf
      refine c_Vv hx hb hml hown hts hV hK hM hS (As := []) (rest := []) (k_X9_save G hG l a0 h0 M1 e_8) w_X9_save (tk_1045 hts) (c_10 h0) rfl rfl ⟨⟨rfl, rfl⟩, Nat.le_of_ble_eq_true rfl, Nat.le_of_ble_eq_true rfl⟩ ⟨Nat.zero_le _, Nat.zero_le _⟩ rfl hl.1 rfl (Nat.le_of_ble_eq_true rfl) dX9_swap_36 (fun H locs hM hS => ?_)
      refine lv_aload_n hx hb dX9_swap_39 rfl (lv_at hl 0 rfl) ?_
      refine lv_iload_n hx hb dX9_swap_40 rfl (lv_at hl 1 rfl) ?_
      obtain ⟨r11, M12, e_10, hf⟩ := cb_e hf
      refine c_Vi hx hb hml hown hts hV hK hM hS (As := [.int p1]) (rest := []) (k_X9_swapNow G hG l a0 h0 p1 M9 e_10) w_X9_swapNow (tk_1126 hts) (c_10 h0) rfl rfl ⟨⟨rfl, rfl⟩, Nat.le_of_ble_eq_true rfl, Nat.le_of_ble_eq_true rfl⟩ ⟨Nat.zero_le _, Nat.zero_le _⟩ rfl hl.1 rfl (Nat.le_of_ble_eq_true rfl) dX9_swap_41 (fun H locs hM hS => ?_)
      exact ef_im hx hb hr hlocks hM hS hf dX9_swap_44
    · rw [if_neg g_7] at hf
      refine lv_aload_n hx hb dX9_swap_29 rfl (lv_at hl 0 rfl) ?_
      refine lv_iconst (v := 2) hx hb dX9_swap_30 (by decide) ?_
      obtain ⟨r14, M15, e_13, hf⟩ := cb_e hf
      refine c_Vi hx hb hml hown hts hV hK hM hS (As := [.int 2]) (rest := []) (k_X9_fails G hG l a0 h0 2 M1 e_13) w_X9_fails (tk_1026 hts) (c_10 h0) rfl rfl ⟨⟨rfl, rfl⟩, Nat.le_of_ble_eq_true rfl, Nat.le_of_ble_eq_true rfl⟩ ⟨Nat.zero_le _, Nat.zero_le _⟩ rfl hl.1 rfl (Nat.le_of_ble_eq_true rfl) dX9_swap_31 (fun H locs hM hS => ?_)
      exact ef_im hx hb hr hlocks hM hS hf dX9_swap_34
  · rw [if_pos g_4] at hf
    refine lv_aload_n hx hb dX9_swap_12 rfl (lv_at hl 0 rfl) ?_
    refine lv_iconst (v := 1) hx hb dX9_swap_13 (by decide) ?_
    obtain ⟨r17, M18, e_16, hf⟩ := cb_e hf
    refine c_Vi hx hb hml hown hts hV hK hM hS (As := [.int 1]) (rest := []) (k_X9_fails G hG l a0 h0 1 M1 e_16) w_X9_fails (tk_1026 hts) (c_10 h0) rfl rfl ⟨⟨rfl, rfl⟩, Nat.le_of_ble_eq_true rfl, Nat.le_of_ble_eq_true rfl⟩ ⟨Nat.zero_le _, Nat.zero_le _⟩ rfl hl.1 rfl (Nat.le_of_ble_eq_true rfl) dX9_swap_14 (fun H locs hM hS => ?_)
    exact ef_im hx hb hr hlocks hM hS hf dX9_swap_17
def f_X9_maySet (p0 : Int32) (p1 : Int32) (M : Mem) : Option Int32 := if p0 = 0 then (vb (f_X9_in p1 1 4 M) fun r14 => gd (r14 = 0 ∨ r14 = 1) <| some r14) else (if p0 = (1 : Int32) then (vb (f_X9_in p1 0 99 M) fun r11 => gd (r11 = 0 ∨ r11 = 1) <| some r11) else (if p0 = (2 : Int32) then (vb (f_X9_in p1 1 8 M) fun r8 => gd (r8 = 0 ∨ r8 = 1) <| some r8) else (vb (f_X9_in p1 1 9 M) fun r5 => gd (r5 = 0 ∨ r5 = 1) <| some r5)))
set_option maxHeartbeats 4000000 in
set_option maxRecDepth 100000 in
theorem k_X9_maySet (G : Gt) (hG : gOK G) (l : Launch) (p0 : Int32) (p1 : Int32) (M : Mem) {r : Int32} (hf : f_X9_maySet p0 p1 M = some r) : Kc G l yX9_maySet cX9_maySet 2 (some .boolean) ({ frames := 1, cells := 0, slots := 0, locals := 22 } : Room) [.int p0, .int p1] M (some (.int r)) M := by
  refine start (by decide) (Nat.le_of_ble_eq_true rfl) ?_
  intro p e s m args below meth c ls hx hb hr hown hml hlocks hts hV hM hl
  have hown : s.vm.findClass "FoldedVoicesModel" = some m.cls := hown
  have hK := hG.1.moved hV
  have hS : va_S (gA G) s.heap s.heap [] := va_S.rf
  have hl : lv_has ls 2 [(0, .int p0), (1, .int p1)] := hl
  have hM0 := hM
  rw [f_X9_maySet] at hf
  refine lv_iload_n hx hb dX9_maySet_0 rfl (lv_at hl 0 rfl) ?_
  refine lv_if_ne (tgt := 13) hx hb dX9_maySet_1 (by decide) (fun g_1 => ?_) (fun g_1 => ?_)
  · rw [if_neg g_1] at hf
    refine lv_iload_n hx hb dX9_maySet_13 rfl (lv_at hl 0 rfl) ?_
    refine lv_iconst (v := 1) hx hb dX9_maySet_14 (by decide) ?_
    refine lv_icmp_ne (tgt := 28) hx hb dX9_maySet_15 (by decide) (fun g_2 => ?_) (fun g_2 => ?_)
    · rw [if_neg g_2] at hf
      refine lv_iload_n hx hb dX9_maySet_28 rfl (lv_at hl 0 rfl) ?_
      refine lv_iconst (v := 2) hx hb dX9_maySet_29 (by decide) ?_
      refine lv_icmp_ne (tgt := 43) hx hb dX9_maySet_30 (by decide) (fun g_3 => ?_) (fun g_3 => ?_)
      · rw [if_neg g_3] at hf
        refine lv_iload_n hx hb dX9_maySet_43 rfl (lv_at hl 1 rfl) ?_
        refine lv_iconst (v := 1) hx hb dX9_maySet_44 (by decide) ?_
        refine lv_bipush (v := 9) hx hb dX9_maySet_45 (by decide) ?_
        obtain ⟨r5, e_4, hf⟩ := vb_e hf
        refine c_Si hx hb hml hown hts hV hM hS (As := [.int p1, .int 1, .int 9]) (rest := []) (k_X9_in G hG l p1 1 9 M e_4) w_X9_in (tk_1023 hts) ⟨⟨rfl, rfl⟩, Nat.le_of_ble_eq_true rfl, Nat.le_of_ble_eq_true rfl⟩ ⟨Nat.zero_le _, Nat.zero_le _⟩ rfl hl.1 rfl (Nat.le_of_ble_eq_true rfl) dX9_maySet_47 (fun H locs hM hS => ?_)
        obtain ⟨h_6, hf⟩ := gd_e hf
        exact ef_zp hx hb hr hlocks hM hS (nz_n h_6) hf dX9_maySet_50
      · rw [if_pos g_3] at hf
        refine lv_iload_n hx hb dX9_maySet_33 rfl (lv_at hl 1 rfl) ?_
        refine lv_iconst (v := 1) hx hb dX9_maySet_34 (by decide) ?_
        refine lv_bipush (v := 8) hx hb dX9_maySet_35 (by decide) ?_
        obtain ⟨r8, e_7, hf⟩ := vb_e hf
        refine c_Si hx hb hml hown hts hV hM hS (As := [.int p1, .int 1, .int 8]) (rest := []) (k_X9_in G hG l p1 1 8 M e_7) w_X9_in (tk_1023 hts) ⟨⟨rfl, rfl⟩, Nat.le_of_ble_eq_true rfl, Nat.le_of_ble_eq_true rfl⟩ ⟨Nat.zero_le _, Nat.zero_le _⟩ rfl hl.1 rfl (Nat.le_of_ble_eq_true rfl) dX9_maySet_37 (fun H locs hM hS => ?_)
        refine lv_goto (tgt := 50) hx hb dX9_maySet_40 (by decide) ?_
        obtain ⟨h_9, hf⟩ := gd_e hf
        exact ef_zp hx hb hr hlocks hM hS (nz_n h_9) hf dX9_maySet_50
    · rw [if_pos g_2] at hf
      refine lv_iload_n hx hb dX9_maySet_18 rfl (lv_at hl 1 rfl) ?_
      refine lv_iconst (v := 0) hx hb dX9_maySet_19 (by decide) ?_
      refine lv_bipush (v := 99) hx hb dX9_maySet_20 (by decide) ?_
      obtain ⟨r11, e_10, hf⟩ := vb_e hf
      refine c_Si hx hb hml hown hts hV hM hS (As := [.int p1, .int 0, .int 99]) (rest := []) (k_X9_in G hG l p1 0 99 M e_10) w_X9_in (tk_1023 hts) ⟨⟨rfl, rfl⟩, Nat.le_of_ble_eq_true rfl, Nat.le_of_ble_eq_true rfl⟩ ⟨Nat.zero_le _, Nat.zero_le _⟩ rfl hl.1 rfl (Nat.le_of_ble_eq_true rfl) dX9_maySet_22 (fun H locs hM hS => ?_)
      refine lv_goto (tgt := 50) hx hb dX9_maySet_25 (by decide) ?_
      obtain ⟨h_12, hf⟩ := gd_e hf
      exact ef_zp hx hb hr hlocks hM hS (nz_n h_12) hf dX9_maySet_50
  · rw [if_pos g_1] at hf
    refine lv_iload_n hx hb dX9_maySet_4 rfl (lv_at hl 1 rfl) ?_
    refine lv_iconst (v := 1) hx hb dX9_maySet_5 (by decide) ?_
    refine lv_iconst (v := 4) hx hb dX9_maySet_6 (by decide) ?_
    obtain ⟨r14, e_13, hf⟩ := vb_e hf
    refine c_Si hx hb hml hown hts hV hM hS (As := [.int p1, .int 1, .int 4]) (rest := []) (k_X9_in G hG l p1 1 4 M e_13) w_X9_in (tk_1023 hts) ⟨⟨rfl, rfl⟩, Nat.le_of_ble_eq_true rfl, Nat.le_of_ble_eq_true rfl⟩ ⟨Nat.zero_le _, Nat.zero_le _⟩ rfl hl.1 rfl (Nat.le_of_ble_eq_true rfl) dX9_maySet_7 (fun H locs hM hS => ?_)
    refine lv_goto (tgt := 50) hx hb dX9_maySet_10 (by decide) ?_
    obtain ⟨h_15, hf⟩ := gd_e hf
    exact ef_zp hx hb hr hlocks hM hS (nz_n h_15) hf dX9_maySet_50
def f_X9_set (a0 : Nat) (p1 : Int32) (p2 : Int32) (M : Mem) : Option (Int32 × Mem) := nb (sI M a0 7 0) fun M1 => vb (f_X9_in p1 0 3 M1) fun r3 => if r3 = 0 then (cb (f_X9_fails a0 1 M1) fun r18 M19 => some (r18, M19)) else (vb (f_X9_maySet p1 p2 M1) fun r6 => if r6 = 0 then (cb (f_X9_fails a0 2 M1) fun r15 M16 => some (r15, M16)) else (vb (f_X9_save a0 M1) fun M9 => gd (ix p1 626) <| nb (mI M9 (a0 + 1) p1.toNatClampNeg) fun y11 => gd (ix p1 626) <| nb (sI M9 (a0 + 1) p1.toNatClampNeg p2) fun M13 => some (y11, M13)))
set_option maxHeartbeats 4000000 in
set_option maxRecDepth 100000 in
theorem k_X9_set (G : Gt) (hG : gOK G) (l : Launch) (a0 : Nat) (h0 : gK G a0 = 10) (p1 : Int32) (p2 : Int32) (M : Mem) {r : Int32} {M' : Mem} (hf : f_X9_set a0 p1 p2 M = some (r, M')) : Kc G l yX9_set cX9_set 4 (some .int) ({ frames := 2, cells := 0, slots := 0, locals := 43 } : Room) [.ref a0, .int p1, .int p2] M (some (.int r)) M' := by
  refine start (by decide) (Nat.le_of_ble_eq_true rfl) ?_
  intro p e s m args below meth c ls hx hb hr hown hml hlocks hts hV hM hl
  have hown : s.vm.findClass "FoldedVoicesModel" = some m.cls := hown
  have hK := hG.1.moved hV
  have hS : va_S (gA G) s.heap s.heap [] := va_S.rf
  have hl : lv_has ls 4 [(0, .ref a0), (1, .int p1), (2, .int p2)] := hl
  have hM0 := hM
  rw [f_X9_set] at hf
  refine lv_aload_n hx hb dX9_set_0 rfl (lv_at hl 0 rfl) ?_
  refine lv_iconst (v := 0) hx hb dX9_set_1 (by decide) ?_
  obtain ⟨M1, eM1, hf⟩ := nb_e hf
  refine s_put tyX9 hx hb (lay_9 hts) tyX9_ok nmX9 hown hK hM hS (ky_b hG h0) (c_10 h0) rfl 7 (by decide) rfl rfl rfl (Nat.le_of_ble_eq_true rfl) (cp_9_7 h0) (fun _ h9 => cel_sI _ h9) hM.2.2.sI rfl (tk_970 hts) dX9_set_2 (fun H locs hM hS => ?_)
  rw [eM1] at hM
  refine lv_iload_n hx hb dX9_set_5 rfl (lv_at hl 1 rfl) ?_
  refine lv_iconst (v := 0) hx hb dX9_set_6 (by decide) ?_
  refine lv_iconst (v := 3) hx hb dX9_set_7 (by decide) ?_
  obtain ⟨r3, e_2, hf⟩ := vb_e hf
  refine c_Si hx hb hml hown hts hV hM hS (As := [.int p1, .int 0, .int 3]) (rest := []) (k_X9_in G hG l p1 0 3 M1 e_2) w_X9_in (tk_1023 hts) ⟨⟨rfl, rfl⟩, Nat.le_of_ble_eq_true rfl, Nat.le_of_ble_eq_true rfl⟩ ⟨Nat.zero_le _, Nat.zero_le _⟩ rfl hl.1 rfl (Nat.le_of_ble_eq_true rfl) dX9_set_8 (fun H locs hM hS => ?_)
  refine lv_if_ne (tgt := 20) hx hb dX9_set_11 (by decide) (fun g_4 => ?_) (fun g_4 => ?_)
  · rw [if_neg g_4] at hf
    refine lv_iload_n hx hb dX9_set_20 rfl (lv_at hl 1 rfl) ?_
    refine lv_iload_n hx hb dX9_set_21 rfl (lv_at hl 2 rfl) ?_
    obtain ⟨r6, e_5, hf⟩ := vb_e hf
    refine c_Si hx hb hml hown hts hV hM hS (As := [.int p1, .int p2]) (rest := []) (k_X9_maySet G hG l p1 p2 M1 e_5) w_X9_maySet (tk_1134 hts) ⟨⟨rfl, rfl⟩, Nat.le_of_ble_eq_true rfl, Nat.le_of_ble_eq_true rfl⟩ ⟨Nat.zero_le _, Nat.zero_le _⟩ rfl hl.1 rfl (Nat.le_of_ble_eq_true rfl) dX9_set_22 (fun H locs hM hS => ?_)
    refine lv_if_ne (tgt := 34) hx hb dX9_set_25 (by decide) (fun g_7 => ?_) (fun g_7 => ?_)
    · rw [if_neg g_7] at hf
      refine lv_aload_n hx hb dX9_set_34 rfl (lv_at hl 0 rfl) ?_
      obtain ⟨M9, e_8, hf⟩ := vb_e hf
      refine c_Vv hx hb hml hown hts hV hK hM hS (As := []) (rest := []) (k_X9_save G hG l a0 h0 M1 e_8) w_X9_save (tk_1045 hts) (c_10 h0) rfl rfl ⟨⟨rfl, rfl⟩, Nat.le_of_ble_eq_true rfl, Nat.le_of_ble_eq_true rfl⟩ ⟨Nat.zero_le _, Nat.zero_le _⟩ rfl hl.1 rfl (Nat.le_of_ble_eq_true rfl) dX9_set_35 (fun H locs hM hS => ?_)
      refine lv_aload_n hx hb dX9_set_38 rfl (lv_at hl 0 rfl) ?_
      refine s_get hx hb (lay_9 hts) hown hK hM (c_10 h0) rfl 0 (by decide) rfl rfl (tk_963 hts) dX9_set_39 ?_
      refine lv_iload_n hx hb dX9_set_42 rfl (lv_at hl 1 rfl) ?_
      obtain ⟨h_10, hf⟩ := gd_e hf
      refine s_iald 626 hx hb hK hM (ky_10_0 hG h0) (by decide) h_10 dX9_set_43 ?_
      obtain ⟨y11, ey11, hf⟩ := nb_e hf
      refine s_nm ey11 ?_
      refine lv_istore_n (lv' := [(3, .int y11), (0, .ref a0), (1, .int p1), (2, .int p2)]) hx hb dX9_set_44 rfl hl (by decide) rfl (fun ls hl => ?_)
      refine lv_aload_n hx hb dX9_set_45 rfl (lv_at hl 1 rfl) ?_
      refine s_get hx hb (lay_9 hts) hown hK hM (c_10 h0) rfl 0 (by decide) rfl rfl (tk_963 hts) dX9_set_46 ?_
      refine lv_iload_n hx hb dX9_set_49 rfl (lv_at hl 2 rfl) ?_
      refine lv_iload_n hx hb dX9_set_50 rfl (lv_at hl 3 rfl) ?_
      obtain ⟨h_12, hf⟩ := gd_e hf
      obtain ⟨M13, eM13, hf⟩ := nb_e hf
      refine s_iast 626 hx hb hK hM hS (ky_10_0 hG h0) (by decide) (ky_b hG (ky_10_0 hG h0)) h_12 dX9_set_51 (fun H locs hM hS => ?_)
      rw [eM13] at hM
      refine lv_iload_n hx hb dX9_set_52 rfl (lv_at hl 0 rfl) ?_
      exact ef_im hx hb hr hlocks hM hS hf dX9_set_53
    · rw [if_pos g_7] at hf
      refine lv_aload_n hx hb dX9_set_28 rfl (lv_at hl 0 rfl) ?_
      refine lv_iconst (v := 2) hx hb dX9_set_29 (by decide) ?_
      obtain ⟨r15, M16, e_14, hf⟩ := cb_e hf
      refine c_Vi hx hb hml hown hts hV hK hM hS (As := [.int 2]) (rest := []) (k_X9_fails G hG l a0 h0 2 M1 e_14) w_X9_fails (tk_1026 hts) (c_10 h0) rfl rfl ⟨⟨rfl, rfl⟩, Nat.le_of_ble_eq_true rfl, Nat.le_of_ble_eq_true rfl⟩ ⟨Nat.zero_le _, Nat.zero_le _⟩ rfl hl.1 rfl (Nat.le_of_ble_eq_true rfl) dX9_set_30 (fun H locs hM hS => ?_)
      exact ef_im hx hb hr hlocks hM hS hf dX9_set_33
  · rw [if_pos g_4] at hf
    refine lv_aload_n hx hb dX9_set_14 rfl (lv_at hl 0 rfl) ?_
    refine lv_iconst (v := 1) hx hb dX9_set_15 (by decide) ?_
    obtain ⟨r18, M19, e_17, hf⟩ := cb_e hf
    refine c_Vi hx hb hml hown hts hV hK hM hS (As := [.int 1]) (rest := []) (k_X9_fails G hG l a0 h0 1 M1 e_17) w_X9_fails (tk_1026 hts) (c_10 h0) rfl rfl ⟨⟨rfl, rfl⟩, Nat.le_of_ble_eq_true rfl, Nat.le_of_ble_eq_true rfl⟩ ⟨Nat.zero_le _, Nat.zero_le _⟩ rfl hl.1 rfl (Nat.le_of_ble_eq_true rfl) dX9_set_16 (fun H locs hM hS => ?_)
    exact ef_im hx hb hr hlocks hM hS hf dX9_set_19
def f_X9_append (a0 : Nat) (p1 : Int32) (M : Mem) : Option (Int32 × Mem) := nb (sI M a0 7 0) fun M1 => vb (f_X9_in p1 33 126 M1) fun r3 => if r3 = 0 then (cb (f_X9_fails a0 1 M1) fun r13 M14 => some (r13, M14)) else (if (mI M1 a0 9) = (60 : Int32) then (cb (f_X9_fails a0 2 M1) fun r10 M11 => some (r10, M11)) else (gd (ix (mI M1 a0 9) 60) <| nb (sI M1 (a0 + 6) (mI M1 a0 9).toNatClampNeg p1) fun M7 => nb (sI M7 a0 9 ((mI M7 a0 9) + 1)) fun M8 => some (mI M8 a0 9, M8)))
set_option maxHeartbeats 4000000 in
set_option maxRecDepth 100000 in
theorem k_X9_append (G : Gt) (hG : gOK G) (l : Launch) (a0 : Nat) (h0 : gK G a0 = 10) (p1 : Int32) (M : Mem) {r : Int32} {M' : Mem} (hf : f_X9_append a0 p1 M = some (r, M')) : Kc G l yX9_append cX9_append 2 (some .int) ({ frames := 1, cells := 0, slots := 0, locals := 22 } : Room) [.ref a0, .int p1] M (some (.int r)) M' := by
  refine start (by decide) (Nat.le_of_ble_eq_true rfl) ?_
  intro p e s m args below meth c ls hx hb hr hown hml hlocks hts hV hM hl
  have hown : s.vm.findClass "FoldedVoicesModel" = some m.cls := hown
  have hK := hG.1.moved hV
  have hS : va_S (gA G) s.heap s.heap [] := va_S.rf
  have hl : lv_has ls 2 [(0, .ref a0), (1, .int p1)] := hl
  have hM0 := hM
  rw [f_X9_append] at hf
  refine lv_aload_n hx hb dX9_append_0 rfl (lv_at hl 0 rfl) ?_
  refine lv_iconst (v := 0) hx hb dX9_append_1 (by decide) ?_
  obtain ⟨M1, eM1, hf⟩ := nb_e hf
  refine s_put tyX9 hx hb (lay_9 hts) tyX9_ok nmX9 hown hK hM hS (ky_b hG h0) (c_10 h0) rfl 7 (by decide) rfl rfl rfl (Nat.le_of_ble_eq_true rfl) (cp_9_7 h0) (fun _ h9 => cel_sI _ h9) hM.2.2.sI rfl (tk_970 hts) dX9_append_2 (fun H locs hM hS => ?_)
  rw [eM1] at hM
  refine lv_iload_n hx hb dX9_append_5 rfl (lv_at hl 1 rfl) ?_
  refine lv_bipush (v := 33) hx hb dX9_append_6 (by decide) ?_
  refine lv_bipush (v := 126) hx hb dX9_append_8 (by decide) ?_
  obtain ⟨r3, e_2, hf⟩ := vb_e hf
  refine c_Si hx hb hml hown hts hV hM hS (As := [.int p1, .int 33, .int 126]) (rest := []) (k_X9_in G hG l p1 33 126 M1 e_2) w_X9_in (tk_1023 hts) ⟨⟨rfl, rfl⟩, Nat.le_of_ble_eq_true rfl, Nat.le_of_ble_eq_true rfl⟩ ⟨Nat.zero_le _, Nat.zero_le _⟩ rfl hl.1 rfl (Nat.le_of_ble_eq_true rfl) dX9_append_10 (fun H locs hM hS => ?_)
  refine lv_if_ne (tgt := 22) hx hb dX9_append_13 (by decide) (fun g_4 => ?_) (fun g_4 => ?_)
  · rw [if_neg g_4] at hf
    refine lv_aload_n hx hb dX9_append_22 rfl (lv_at hl 0 rfl) ?_
    refine s_get hx hb (lay_9 hts) hown hK hM (c_10 h0) rfl 9 (by decide) rfl rfl (tk_972 hts) dX9_append_23 ?_
    refine lv_bipush (v := 60) hx hb dX9_append_26 (by decide) ?_
    refine lv_icmp_ne (tgt := 37) hx hb dX9_append_28 (by decide) (fun g_5 => ?_) (fun g_5 => ?_)
    · rw [if_neg g_5] at hf
      refine lv_aload_n hx hb dX9_append_37 rfl (lv_at hl 0 rfl) ?_
      refine s_get hx hb (lay_9 hts) hown hK hM (c_10 h0) rfl 8 (by decide) rfl rfl (tk_971 hts) dX9_append_38 ?_
      refine lv_aload_n hx hb dX9_append_41 rfl (lv_at hl 0 rfl) ?_
      refine s_get hx hb (lay_9 hts) hown hK hM (c_10 h0) rfl 9 (by decide) rfl rfl (tk_972 hts) dX9_append_42 ?_
      refine lv_iload_n hx hb dX9_append_45 rfl (lv_at hl 1 rfl) ?_
      obtain ⟨h_6, hf⟩ := gd_e hf
      obtain ⟨M7, eM7, hf⟩ := nb_e hf
      refine s_iast 60 hx hb hK hM hS (ky_10_8 hG h0) (by decide) (ky_b hG (ky_10_8 hG h0)) h_6 dX9_append_46 (fun H locs hM hS => ?_)
      rw [eM7] at hM
      refine lv_aload_n hx hb dX9_append_47 rfl (lv_at hl 0 rfl) ?_
      refine lv_dup hx hb dX9_append_48 rfl ?_
      refine s_get hx hb (lay_9 hts) hown hK hM (c_10 h0) rfl 9 (by decide) rfl rfl (tk_972 hts) dX9_append_49 ?_
      refine lv_iconst (v := 1) hx hb dX9_append_52 (by decide) ?_
      refine lv_iadd hx hb dX9_append_53 ?_
      obtain ⟨M8, eM8, hf⟩ := nb_e hf
      refine s_put tyX9 hx hb (lay_9 hts) tyX9_ok nmX9 hown hK hM hS (ky_b hG h0) (c_10 h0) rfl 9 (by decide) rfl rfl rfl (Nat.le_of_ble_eq_true rfl) (cp_9_9 h0) (fun _ h9 => cel_sI _ h9) hM.2.2.sI rfl (tk_972 hts) dX9_append_54 (fun H locs hM hS => ?_)
      rw [eM8] at hM
      refine lv_aload_n hx hb dX9_append_57 rfl (lv_at hl 0 rfl) ?_
      refine s_get hx hb (lay_9 hts) hown hK hM (c_10 h0) rfl 9 (by decide) rfl rfl (tk_972 hts) dX9_append_58 ?_
      exact ef_im hx hb hr hlocks hM hS hf dX9_append_61
    · rw [if_pos g_5] at hf
      refine lv_aload_n hx hb dX9_append_31 rfl (lv_at hl 0 rfl) ?_
      refine lv_iconst (v := 2) hx hb dX9_append_32 (by decide) ?_
      obtain ⟨r10, M11, e_9, hf⟩ := cb_e hf
      refine c_Vi hx hb hml hown hts hV hK hM hS (As := [.int 2]) (rest := []) (k_X9_fails G hG l a0 h0 2 M1 e_9) w_X9_fails (tk_1026 hts) (c_10 h0) rfl rfl ⟨⟨rfl, rfl⟩, Nat.le_of_ble_eq_true rfl, Nat.le_of_ble_eq_true rfl⟩ ⟨Nat.zero_le _, Nat.zero_le _⟩ rfl hl.1 rfl (Nat.le_of_ble_eq_true rfl) dX9_append_33 (fun H locs hM hS => ?_)
      exact ef_im hx hb hr hlocks hM hS hf dX9_append_36
  · rw [if_pos g_4] at hf
    refine lv_aload_n hx hb dX9_append_16 rfl (lv_at hl 0 rfl) ?_
    refine lv_iconst (v := 1) hx hb dX9_append_17 (by decide) ?_
    obtain ⟨r13, M14, e_12, hf⟩ := cb_e hf
    refine c_Vi hx hb hml hown hts hV hK hM hS (As := [.int 1]) (rest := []) (k_X9_fails G hG l a0 h0 1 M1 e_12) w_X9_fails (tk_1026 hts) (c_10 h0) rfl rfl ⟨⟨rfl, rfl⟩, Nat.le_of_ble_eq_true rfl, Nat.le_of_ble_eq_true rfl⟩ ⟨Nat.zero_le _, Nat.zero_le _⟩ rfl hl.1 rfl (Nat.le_of_ble_eq_true rfl) dX9_append_18 (fun H locs hM hS => ?_)
    exact ef_im hx hb hr hlocks hM hS hf dX9_append_21
def f_X9_clearBuffer (a0 : Nat) (M : Mem) : Option (Int32 × Mem) := nb (sI M a0 7 0) fun M1 => nb (mI M1 a0 9) fun y2 => nb (sI M1 a0 9 0) fun M3 => some (y2, M3)
set_option maxHeartbeats 4000000 in
set_option maxRecDepth 100000 in
theorem k_X9_clearBuffer (G : Gt) (hG : gOK G) (l : Launch) (a0 : Nat) (h0 : gK G a0 = 10) (M : Mem) {r : Int32} {M' : Mem} (hf : f_X9_clearBuffer a0 M = some (r, M')) : Kc G l yX9_clearBuffer cX9_clearBuffer 2 (some .int) ({ frames := 0, cells := 0, slots := 0, locals := 0 } : Room) [.ref a0] M (some (.int r)) M' := by
  refine start (by decide) (Nat.le_of_ble_eq_true rfl) ?_
  intro p e s m args below meth c ls hx hb hr hown hml hlocks hts hV hM hl
  have hown : s.vm.findClass "FoldedVoicesModel" = some m.cls := hown
  have hK := hG.1.moved hV
  have hS : va_S (gA G) s.heap s.heap [] := va_S.rf
  have hl : lv_has ls 2 [(0, .ref a0)] := hl
  have hM0 := hM
  rw [f_X9_clearBuffer] at hf
  refine lv_aload_n hx hb dX9_clearBuffer_0 rfl (lv_at hl 0 rfl) ?_
  refine lv_iconst (v := 0) hx hb dX9_clearBuffer_1 (by decide) ?_
  obtain ⟨M1, eM1, hf⟩ := nb_e hf
  refine s_put tyX9 hx hb (lay_9 hts) tyX9_ok nmX9 hown hK hM hS (ky_b hG h0) (c_10 h0) rfl 7 (by decide) rfl rfl rfl (Nat.le_of_ble_eq_true rfl) (cp_9_7 h0) (fun _ h9 => cel_sI _ h9) hM.2.2.sI rfl (tk_970 hts) dX9_clearBuffer_2 (fun H locs hM hS => ?_)
  rw [eM1] at hM
  refine lv_aload_n hx hb dX9_clearBuffer_5 rfl (lv_at hl 0 rfl) ?_
  refine s_get hx hb (lay_9 hts) hown hK hM (c_10 h0) rfl 9 (by decide) rfl rfl (tk_972 hts) dX9_clearBuffer_6 ?_
  obtain ⟨y2, ey2, hf⟩ := nb_e hf
  refine s_nm ey2 ?_
  refine lv_istore_n (lv' := [(1, .int y2), (0, .ref a0)]) hx hb dX9_clearBuffer_9 rfl hl (by decide) rfl (fun ls hl => ?_)
  refine lv_aload_n hx hb dX9_clearBuffer_10 rfl (lv_at hl 1 rfl) ?_
  refine lv_iconst (v := 0) hx hb dX9_clearBuffer_11 (by decide) ?_
  obtain ⟨M3, eM3, hf⟩ := nb_e hf
  refine s_put tyX9 hx hb (lay_9 hts) tyX9_ok nmX9 hown hK hM hS (ky_b hG h0) (c_10 h0) rfl 9 (by decide) rfl rfl rfl (Nat.le_of_ble_eq_true rfl) (cp_9_9 h0) (fun _ h9 => cel_sI _ h9) hM.2.2.sI rfl (tk_972 hts) dX9_clearBuffer_12 (fun H locs hM hS => ?_)
  rw [eM3] at hM
  refine lv_iload_n hx hb dX9_clearBuffer_15 rfl (lv_at hl 0 rfl) ?_
  exact ef_im hx hb hr hlocks hM hS hf dX9_clearBuffer_16
def f_X9_isAt (a0 : Nat) (p1 : Int32) (p2 : Int32) (M : Mem) : Option Int32 := if (mI M a0 9) ≤ (mI M a0 10) then (some 0) else (gd (ix (mI M a0 10) 60) <| vb (f_X9_in (mI M (a0 + 6) (mI M a0 10).toNatClampNeg) p1 p2 M) fun r4 => if r4 = 0 then (some 0) else (some 1))
set_option maxHeartbeats 4000000 in
set_option maxRecDepth 100000 in
theorem k_X9_isAt (G : Gt) (hG : gOK G) (l : Launch) (a0 : Nat) (h0 : gK G a0 = 10) (p1 : Int32) (p2 : Int32) (M : Mem) {r : Int32} (hf : f_X9_isAt a0 p1 p2 M = some r) : Kc G l yX9_isAt cX9_isAt 3 (some .boolean) ({ frames := 1, cells := 0, slots := 0, locals := 22 } : Room) [.ref a0, .int p1, .int p2] M (some (.int r)) M := by
  refine start (by decide) (Nat.le_of_ble_eq_true rfl) ?_
  intro p e s m args below meth c ls hx hb hr hown hml hlocks hts hV hM hl
  have hown : s.vm.findClass "FoldedVoicesModel" = some m.cls := hown
  have hK := hG.1.moved hV
  have hS : va_S (gA G) s.heap s.heap [] := va_S.rf
  have hl : lv_has ls 3 [(0, .ref a0), (1, .int p1), (2, .int p2)] := hl
  have hM0 := hM
  rw [f_X9_isAt] at hf
  refine lv_aload_n hx hb dX9_isAt_0 rfl (lv_at hl 0 rfl) ?_
  refine s_get hx hb (lay_9 hts) hown hK hM (c_10 h0) rfl 10 (by decide) rfl rfl (tk_973 hts) dX9_isAt_1 ?_
  refine lv_aload_n hx hb dX9_isAt_4 rfl (lv_at hl 0 rfl) ?_
  refine s_get hx hb (lay_9 hts) hown hK hM (c_10 h0) rfl 9 (by decide) rfl rfl (tk_972 hts) dX9_isAt_5 ?_
  refine lv_icmp_ge (tgt := 32) hx hb dX9_isAt_8 (by decide) (fun g_1 => ?_) (fun g_1 => ?_)
  · rw [if_pos g_1] at hf
    refine lv_iconst (v := 0) hx hb dX9_isAt_32 (by decide) ?_
    exact ef_zp hx hb hr hlocks hM hS (nz_n (Or.inl rfl)) hf dX9_isAt_33
  · rw [if_neg g_1] at hf
    refine lv_aload_n hx hb dX9_isAt_11 rfl (lv_at hl 0 rfl) ?_
    refine s_get hx hb (lay_9 hts) hown hK hM (c_10 h0) rfl 8 (by decide) rfl rfl (tk_971 hts) dX9_isAt_12 ?_
    refine lv_aload_n hx hb dX9_isAt_15 rfl (lv_at hl 0 rfl) ?_
    refine s_get hx hb (lay_9 hts) hown hK hM (c_10 h0) rfl 10 (by decide) rfl rfl (tk_973 hts) dX9_isAt_16 ?_
    obtain ⟨h_2, hf⟩ := gd_e hf
    refine s_iald 60 hx hb hK hM (ky_10_8 hG h0) (by decide) h_2 dX9_isAt_19 ?_
    refine lv_iload_n hx hb dX9_isAt_20 rfl (lv_at hl 1 rfl) ?_
    refine lv_iload_n hx hb dX9_isAt_21 rfl (lv_at hl 2 rfl) ?_
    obtain ⟨r4, e_3, hf⟩ := vb_e hf
    refine c_Si hx hb hml hown hts hV hM hS (As := [.int (mI M (a0 + 6) (mI M a0 10).toNatClampNeg), .int p1, .int p2]) (rest := []) (k_X9_in G hG l (mI M (a0 + 6) (mI M a0 10).toNatClampNeg) p1 p2 M e_3) w_X9_in (tk_1023 hts) ⟨⟨rfl, rfl⟩, Nat.le_of_ble_eq_true rfl, Nat.le_of_ble_eq_true rfl⟩ ⟨Nat.zero_le _, Nat.zero_le _⟩ rfl hl.1 rfl (Nat.le_of_ble_eq_true rfl) dX9_isAt_22 (fun H locs hM hS => ?_)
    refine lv_if_eq (tgt := 32) hx hb dX9_isAt_25 (by decide) (fun g_5 => ?_) (fun g_5 => ?_)
    · rw [if_pos g_5] at hf
      refine lv_iconst (v := 0) hx hb dX9_isAt_32 (by decide) ?_
      exact ef_zp hx hb hr hlocks hM hS (nz_n (Or.inl rfl)) hf dX9_isAt_33
    · rw [if_neg g_5] at hf
      refine lv_iconst (v := 1) hx hb dX9_isAt_28 (by decide) ?_
      refine lv_goto (tgt := 33) hx hb dX9_isAt_29 (by decide) ?_
      exact ef_zp hx hb hr hlocks hM hS (nz_n (Or.inr rfl)) hf dX9_isAt_33
