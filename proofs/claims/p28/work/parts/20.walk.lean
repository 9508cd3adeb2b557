def f_L_areCounts_b227 (a0 : Nat) (a1 : Nat) (a2 : Nat) (p3 : Int32) (xs0 : UInt32) (xs1 : UInt32) (M : Mem) : Option (Int32 × Mem) := gd ((Op.cmpValue (FP.fcmp xs1 xs0) .l) = 0) <| some (1, M)
def f_L_areCounts_b138 (a0 : Nat) (a1 : Nat) (a2 : Nat) (p3 : Int32) : Nat → Int32 → Int32 → Mem → Option (Int32 × Mem)
  | 0, _, _, _ => none
  | n + 1, x4, x5, M => if (4 : Int32) ≤ x5 then (gd (ix (5 : Int32) 60) <| gd (ix (25 : Int32) 60) <| gd (ix (45 : Int32) 60) <| nb (((mI M a1 (5 : Int32).toNatClampNeg) + (mI M a1 (25 : Int32).toNatClampNeg)) + (mI M a1 (45 : Int32).toNatClampNeg)) fun y6 => gd (¬ (x4 = 0)) <| vb (f_X8_lostShare a0 M) fun r9 => if y6 = 0 then (f_L_areCounts_b227 a0 a1 a2 p3 FP.fconst0 r9 M) else (gd (ix (3 : Int32) 14) <| gd (ix (4 : Int32) 14) <| gd (ix (5 : Int32) 14) <| gd ((FP.fdiv (FP.i2f (((mI M a2 (3 : Int32).toNatClampNeg) + (mI M a2 (4 : Int32).toNatClampNeg)) + (mI M a2 (5 : Int32).toNatClampNeg))) (FP.i2f y6)) &&& 0x7fffffff ≤ 0x7f800000) <| f_L_areCounts_b227 a0 a1 a2 p3 (FP.fdiv (FP.i2f (((mI M a2 (3 : Int32).toNatClampNeg) + (mI M a2 (4 : Int32).toNatClampNeg)) + (mI M a2 (5 : Int32).toNatClampNeg))) (FP.i2f y6)) r9 M)) else (gd (¬ (x4 = 0)) <| zb (f_X8_setting a0 x5 M) fun r17 M18 => gd (ix ((9 : Int32) + x5) 14) <| gd (r17 = (mI M18 a2 ((9 : Int32) + x5).toNatClampNeg)) <| nb (x5 + 1) fun y21 => f_L_areCounts_b138 a0 a1 a2 p3 n 1 y21 M18)
def f_L_areCounts (a0 : Nat) (a1 : Nat) (a2 : Nat) (p3 : Int32) (M : Mem) : Option (Int32 × Mem) := zb (f_X8_count a0 0 M) fun r23 M24 => gd (ix (13 : Int32) 14) <| gd (r23 = (mI M24 a2 (13 : Int32).toNatClampNeg)) <| zb (f_X8_count a0 1 M24) fun r28 M29 => gd (ix (6 : Int32) 60) <| gd (ix (26 : Int32) 60) <| gd (ix (46 : Int32) 60) <| gd (r28 = (((mI M29 a1 (6 : Int32).toNatClampNeg) + (mI M29 a1 (26 : Int32).toNatClampNeg)) + (mI M29 a1 (46 : Int32).toNatClampNeg))) <| zb (f_X8_count a0 2 M29) fun r35 M36 => gd (ix (5 : Int32) 60) <| gd (ix (25 : Int32) 60) <| gd (ix (45 : Int32) 60) <| gd (r35 = (((mI M36 a1 (5 : Int32).toNatClampNeg) + (mI M36 a1 (25 : Int32).toNatClampNeg)) + (mI M36 a1 (45 : Int32).toNatClampNeg))) <| zb (f_X8_count a0 3 M36) fun r42 M43 => gd (ix (19 : Int32) 60) <| gd (ix (39 : Int32) 60) <| gd (ix (59 : Int32) 60) <| gd (r42 = (((mI M43 a1 (19 : Int32).toNatClampNeg) + (mI M43 a1 (39 : Int32).toNatClampNeg)) + (mI M43 a1 (59 : Int32).toNatClampNeg))) <| zb (f_X8_count a0 4 M43) fun r49 M50 => gd (ix (3 : Int32) 14) <| gd (ix (4 : Int32) 14) <| gd (ix (5 : Int32) 14) <| gd (r49 = (((mI M50 a2 (3 : Int32).toNatClampNeg) + (mI M50 a2 (4 : Int32).toNatClampNeg)) + (mI M50 a2 (5 : Int32).toNatClampNeg))) <| zb (f_X8_count a0 5 M50) fun r56 M57 => gd (ix (6 : Int32) 14) <| gd (ix (7 : Int32) 14) <| gd (ix (8 : Int32) 14) <| gd (r56 = (((mI M57 a2 (6 : Int32).toNatClampNeg) + (mI M57 a2 (7 : Int32).toNatClampNeg)) + (mI M57 a2 (8 : Int32).toNatClampNeg))) <| zb (f_X8_count a0 6 M57) fun r63 M64 => gd (r63 = p3) <| f_L_areCounts_b138 a0 a1 a2 p3 lfuel 1 0 M64
set_option maxHeartbeats 4000000 in
set_option maxRecDepth 100000 in
theorem k_L_areCounts (G : Gt) (hG : gOK G) (l : Launch) (a0 : Nat) (h0 : gK G a0 = 9) (a1 : Nat) (h1 : gK G a1 = 1060) (a2 : Nat) (h2 : gK G a2 = 1014) (p3 : Int32) (M : Mem) {r : Int32} {M' : Mem} (hf : f_L_areCounts a0 a1 a2 p3 M = some (r, M')) : Kc G l yL_areCounts cL_areCounts 6 (some .boolean) ({ frames := 8, cells := 0, slots := 0, locals := 179 } : Room) [.ref a0, .ref a1, .ref a2, .int p3] M (some (.int r)) M' := by
  refine start (by decide) (Nat.le_of_ble_eq_true rfl) ?_
  intro p e s m args below meth c ls hx hb hr hown hml hlocks hts hV hM hl
  have hown : s.vm.findClass "FoldedVoicesLaw" = some m.cls := hown
  have hK := hG.1.moved hV
  have hS : va_S (gA G) s.heap s.heap [] := va_S.rf
  have hl : lv_has ls 6 [(0, .ref a0), (1, .ref a1), (2, .ref a2), (3, .int p3)] := hl
  have hM0 := hM
  have b227 : ∀ (xs0 : UInt32) (xs1 : UInt32) (M : Mem) (H : Heap) (locs : List Loc) (ls : Array Slot), Mh G M H → va_S (gA G) s.heap H locs → lv_has ls 6 [(0, .ref a0), (1, .ref a1), (2, .ref a2), (3, .int p3)] → f_L_areCounts_b227 a0 a1 a2 p3 xs0 xs1 M = some (r, M') → W p l e ({ frames := 8, cells := 0, slots := 0, locals := 179 } : Room) s m args below meth c H locs 0 0 (MQ below (QV G (some (.int r)) M') args s 0 0 (gA G)) (F0 m 227 ls [.float xs0, .float xs1]) := by
    intro xs0 xs1 M H locs ls hM hS hl hf
    rw [f_L_areCounts_b227] at hf
    refine lv_fcmp hx hb dL_areCounts_227 ?_
    obtain ⟨h_1, hf⟩ := gd_e hf
    refine lv_if_ne (tgt := 235) hx hb dL_areCounts_228 (by decide) (fun g => absurd h_1 g) (fun _ => ?_)
    refine lv_iconst (v := 1) hx hb dL_areCounts_231 (by decide) ?_
    refine lv_goto (tgt := 236) hx hb dL_areCounts_232 (by decide) ?_
    exact ef_zm hx hb hr hlocks hM hS (nz_n (Or.inr rfl)) hf dL_areCounts_236
  have b138 : ∀ (n : Nat), ∀ (x4 : Int32) (x5 : Int32) (M : Mem) (H : Heap) (locs : List Loc) (ls : Array Slot), Mh G M H → va_S (gA G) s.heap H locs → lv_has ls 6 [(0, .ref a0), (1, .ref a1), (2, .ref a2), (3, .int p3), (4, .int x4), (5, .int x5)] → f_L_areCounts_b138 a0 a1 a2 p3 n x4 x5 M = some (r, M') → W p l e ({ frames := 8, cells := 0, slots := 0, locals := 179 } : Room) s m args below meth c H locs 0 0 (MQ below (QV G (some (.int r)) M') args s 0 0 (gA G)) (F0 m 138 ls []) := by
    intro n
    induction n with
    | zero =>
      intro x4 x5 M H locs ls hM hS hl hf
      rw [f_L_areCounts_b138] at hf
      cases hf
    | succ n ih =>
      intro x4 x5 M H locs ls hM hS hl hf
      rw [f_L_areCounts_b138] at hf
      refine lv_iload hx hb dL_areCounts_138 (lv_at hl 5 rfl) ?_
      refine lv_iconst (v := 4) hx hb dL_areCounts_140 (by decide) ?_
      refine lv_icmp_ge (tgt := 178) hx hb dL_areCounts_141 (by decide) (fun g_2 => ?_) (fun g_2 => ?_)
      · rw [if_pos g_2] at hf
        refine lv_aload_n hx hb dL_areCounts_178 rfl (lv_at hl 1 rfl) ?_
        refine lv_iconst (v := 5) hx hb dL_areCounts_179 (by decide) ?_
        obtain ⟨h_3, hf⟩ := gd_e hf
        refine s_iald 60 hx hb hK hM h1 (by decide) h_3 dL_areCounts_180 ?_
        refine lv_aload_n hx hb dL_areCounts_181 rfl (lv_at hl 1 rfl) ?_
        refine lv_bipush (v := 25) hx hb dL_areCounts_182 (by decide) ?_
        obtain ⟨h_4, hf⟩ := gd_e hf
        refine s_iald 60 hx hb hK hM h1 (by decide) h_4 dL_areCounts_184 ?_
        refine lv_iadd hx hb dL_areCounts_185 ?_
        refine lv_aload_n hx hb dL_areCounts_186 rfl (lv_at hl 1 rfl) ?_
        refine lv_bipush (v := 45) hx hb dL_areCounts_187 (by decide) ?_
        obtain ⟨h_5, hf⟩ := gd_e hf
        refine s_iald 60 hx hb hK hM h1 (by decide) h_5 dL_areCounts_189 ?_
        refine lv_iadd hx hb dL_areCounts_190 ?_
        obtain ⟨y6, ey6, hf⟩ := nb_e hf
        refine s_nm ey6 ?_
        refine lv_istore (lv' := [(5, .int y6), (0, .ref a0), (1, .ref a1), (2, .ref a2), (3, .int p3), (4, .int x4)]) hx hb dL_areCounts_191 hl (by decide) rfl (fun ls hl => ?_)
        refine lv_iload hx hb dL_areCounts_193 (lv_at hl 5 rfl) ?_
        obtain ⟨h_7, hf⟩ := gd_e hf
        refine lv_if_eq (tgt := 235) hx hb dL_areCounts_195 (by decide) (fun g => absurd g h_7) (fun _ => ?_)
        refine lv_aload_n hx hb dL_areCounts_198 rfl (lv_at hl 1 rfl) ?_
        obtain ⟨r9, e_8, hf⟩ := vb_e hf
        refine c_Vf hx hb hml hown hts hV hK hM hS (As := []) (rest := []) (k_X8_lostShare G hG l a0 h0 M e_8) w_X8_lostShare (tk_598 hts) (c_9 h0) rfl rfl ⟨⟨rfl, rfl⟩, Nat.le_of_ble_eq_true rfl, Nat.le_of_ble_eq_true rfl⟩ ⟨Nat.zero_le _, Nat.zero_le _⟩ rfl hl.1 rfl (Nat.le_of_ble_eq_true rfl) dL_areCounts_199 (fun H locs hM hS => ?_)
        refine lv_iload hx hb dL_areCounts_202 (lv_at hl 0 rfl) ?_
        refine lv_if_ne (tgt := 211) hx hb dL_areCounts_204 (by decide) (fun g_10 => ?_) (fun g_10 => ?_)
        · rw [if_neg g_10] at hf
          refine lv_aload_n hx hb dL_areCounts_211 rfl (lv_at hl 3 rfl) ?_
          refine lv_iconst (v := 3) hx hb dL_areCounts_212 (by decide) ?_
          obtain ⟨h_11, hf⟩ := gd_e hf
          refine s_iald 14 hx hb hK hM h2 (by decide) h_11 dL_areCounts_213 ?_
          refine lv_aload_n hx hb dL_areCounts_214 rfl (lv_at hl 3 rfl) ?_
          refine lv_iconst (v := 4) hx hb dL_areCounts_215 (by decide) ?_
          obtain ⟨h_12, hf⟩ := gd_e hf
          refine s_iald 14 hx hb hK hM h2 (by decide) h_12 dL_areCounts_216 ?_
          refine lv_iadd hx hb dL_areCounts_217 ?_
          refine lv_aload_n hx hb dL_areCounts_218 rfl (lv_at hl 3 rfl) ?_
          refine lv_iconst (v := 5) hx hb dL_areCounts_219 (by decide) ?_
          obtain ⟨h_13, hf⟩ := gd_e hf
          refine s_iald 14 hx hb hK hM h2 (by decide) h_13 dL_areCounts_220 ?_
          refine lv_iadd hx hb dL_areCounts_221 ?_
          refine lv_i2f hx hb dL_areCounts_222 ?_
          refine lv_iload hx hb dL_areCounts_223 (lv_at hl 0 rfl) ?_
          refine lv_i2f hx hb dL_areCounts_225 ?_
          obtain ⟨h_14, hf⟩ := gd_e hf
          refine lv_fdiv hx hb dL_areCounts_226 h_14 ?_
          exact b227 (FP.fdiv (FP.i2f (((mI M a2 (3 : Int32).toNatClampNeg) + (mI M a2 (4 : Int32).toNatClampNeg)) + (mI M a2 (5 : Int32).toNatClampNeg))) (FP.i2f y6)) r9 _ H locs ls hM hS (lv_sub hl [1, 2, 3, 4] rfl) hf
        · rw [if_pos g_10] at hf
          refine lv_fconst0 hx hb dL_areCounts_207 ?_
          refine lv_goto (tgt := 227) hx hb dL_areCounts_208 (by decide) ?_
          exact b227 FP.fconst0 r9 _ H locs ls hM hS (lv_sub hl [1, 2, 3, 4] rfl) hf
      · rw [if_neg g_2] at hf
        refine lv_iload hx hb dL_areCounts_144 (lv_at hl 4 rfl) ?_
        obtain ⟨h_15, hf⟩ := gd_e hf
        refine lv_if_eq (tgt := 169) hx hb dL_areCounts_146 (by decide) (fun g => absurd g h_15) (fun _ => ?_)
        refine lv_aload_n hx hb dL_areCounts_149 rfl (lv_at hl 0 rfl) ?_
        refine lv_iload hx hb dL_areCounts_150 (lv_at hl 5 rfl) ?_
        obtain ⟨r17, M18, e_16, hf⟩ := zb_e hf
        refine c_Vi hx hb hml hown hts hV hK hM hS (As := [.int x5]) (rest := []) (k_X8_setting G hG l a0 h0 x5 M e_16) w_X8_setting (tk_586 hts) (c_9 h0) rfl rfl ⟨⟨rfl, rfl⟩, Nat.le_of_ble_eq_true rfl, Nat.le_of_ble_eq_true rfl⟩ ⟨Nat.zero_le _, Nat.zero_le _⟩ rfl hl.1 rfl (Nat.le_of_ble_eq_true rfl) dL_areCounts_152 (fun H locs hM hS => ?_)
        refine lv_aload_n hx hb dL_areCounts_155 rfl (lv_at hl 2 rfl) ?_
        refine lv_bipush (v := 9) hx hb dL_areCounts_156 (by decide) ?_
        refine lv_iload hx hb dL_areCounts_158 (lv_at hl 5 rfl) ?_
        refine lv_iadd hx hb dL_areCounts_160 ?_
        obtain ⟨h_19, hf⟩ := gd_e hf
        refine s_iald 14 hx hb hK hM h2 (by decide) h_19 dL_areCounts_161 ?_
        obtain ⟨h_20, hf⟩ := gd_e hf
        refine lv_icmp_ne (tgt := 169) hx hb dL_areCounts_162 (by decide) (fun g => absurd h_20 g) (fun _ => ?_)
        refine lv_iconst (v := 1) hx hb dL_areCounts_165 (by decide) ?_
        refine lv_goto (tgt := 170) hx hb dL_areCounts_166 (by decide) ?_
        refine lv_istore (lv' := [(4, .int 1), (0, .ref a0), (1, .ref a1), (2, .ref a2), (3, .int p3), (5, .int x5)]) hx hb dL_areCounts_170 hl (by decide) rfl (fun ls hl => ?_)
        obtain ⟨y21, ey21, hf⟩ := nb_e hf
        refine lv_iinc (v := y21) (lv' := [(5, .int y21), (4, .int 1), (0, .ref a0), (1, .ref a1), (2, .ref a2), (3, .int p3)]) hx hb dL_areCounts_172 hl (k := 5) rfl (by rw [← ey21]; rfl) (by decide) rfl (fun ls hl => ?_)
        refine lv_goto (tgt := 138) hx hb dL_areCounts_175 (by decide) ?_
        exact ih 1 y21 _ H locs ls hM hS (lv_sub hl [2, 3, 4, 5, 1, 0] rfl) hf
  rw [f_L_areCounts] at hf
  obtain ⟨H, hHe⟩ : ∃ H, H = s.heap := ⟨_, rfl⟩
  obtain ⟨locs, hLe⟩ : ∃ L : List Loc, L = [] := ⟨_, rfl⟩
  rw [← hHe] at hM
  have hS : va_S (gA G) s.heap H locs := by rw [hHe, hLe]; exact va_S.rf
  suffices hW : W p l e ({ frames := 8, cells := 0, slots := 0, locals := 179 } : Room) s m args below meth c H locs 0 0 (MQ below (QV G (some (.int r)) M') args s 0 0 (gA G)) (F0 m 0 ls []) by rw [hHe, hLe] at hW; exact hW
  refine lv_aload_n hx hb dL_areCounts_0 rfl (lv_at hl 0 rfl) ?_
  refine lv_iconst (v := 0) hx hb dL_areCounts_1 (by decide) ?_
  obtain ⟨r23, M24, e_22, hf⟩ := zb_e hf
  refine c_Vi hx hb hml hown hts hV hK hM hS (As := [.int 0]) (rest := []) (k_X8_count G hG l a0 h0 0 M e_22) w_X8_count (tk_570 hts) (c_9 h0) rfl rfl ⟨⟨rfl, rfl⟩, Nat.le_of_ble_eq_true rfl, Nat.le_of_ble_eq_true rfl⟩ ⟨Nat.zero_le _, Nat.zero_le _⟩ rfl hl.1 rfl (Nat.le_of_ble_eq_true rfl) dL_areCounts_2 (fun H locs hM hS => ?_)
  refine lv_aload_n hx hb dL_areCounts_5 rfl (lv_at hl 2 rfl) ?_
  refine lv_bipush (v := 13) hx hb dL_areCounts_6 (by decide) ?_
  obtain ⟨h_25, hf⟩ := gd_e hf
  refine s_iald 14 hx hb hK hM h2 (by decide) h_25 dL_areCounts_8 ?_
  obtain ⟨h_26, hf⟩ := gd_e hf
  refine lv_icmp_ne (tgt := 132) hx hb dL_areCounts_9 (by decide) (fun g => absurd h_26 g) (fun _ => ?_)
  refine lv_aload_n hx hb dL_areCounts_12 rfl (lv_at hl 0 rfl) ?_
  refine lv_iconst (v := 1) hx hb dL_areCounts_13 (by decide) ?_
  obtain ⟨r28, M29, e_27, hf⟩ := zb_e hf
  refine c_Vi hx hb hml hown hts hV hK hM hS (As := [.int 1]) (rest := []) (k_X8_count G hG l a0 h0 1 M24 e_27) w_X8_count (tk_570 hts) (c_9 h0) rfl rfl ⟨⟨rfl, rfl⟩, Nat.le_of_ble_eq_true rfl, Nat.le_of_ble_eq_true rfl⟩ ⟨Nat.zero_le _, Nat.zero_le _⟩ rfl hl.1 rfl (Nat.le_of_ble_eq_true rfl) dL_areCounts_14 (fun H locs hM hS => ?_)
  refine lv_aload_n hx hb dL_areCounts_17 rfl (lv_at hl 1 rfl) ?_
  refine lv_bipush (v := 6) hx hb dL_areCounts_18 (by decide) ?_
  obtain ⟨h_30, hf⟩ := gd_e hf
  refine s_iald 60 hx hb hK hM h1 (by decide) h_30 dL_areCounts_20 ?_
  refine lv_aload_n hx hb dL_areCounts_21 rfl (lv_at hl 1 rfl) ?_
  refine lv_bipush (v := 26) hx hb dL_areCounts_22 (by decide) ?_
  obtain ⟨h_31, hf⟩ := gd_e hf
  refine s_iald 60 hx hb hK hM h1 (by decide) h_31 dL_areCounts_24 ?_
  refine lv_iadd hx hb dL_areCounts_25 ?_
  refine lv_aload_n hx hb dL_areCounts_26 rfl (lv_at hl 1 rfl) ?_
  refine lv_bipush (v := 46) hx hb dL_areCounts_27 (by decide) ?_
  obtain ⟨h_32, hf⟩ := gd_e hf
  refine s_iald 60 hx hb hK hM h1 (by decide) h_32 dL_areCounts_29 ?_
  refine lv_iadd hx hb dL_areCounts_30 ?_
  obtain ⟨h_33, hf⟩ := gd_e hf
  refine lv_icmp_ne (tgt := 132) hx hb dL_areCounts_31 (by decide) (fun g => absurd h_33 g) (fun _ => ?_)
  refine lv_aload_n hx hb dL_areCounts_34 rfl (lv_at hl 0 rfl) ?_
  refine lv_iconst (v := 2) hx hb dL_areCounts_35 (by decide) ?_
  obtain ⟨r35, M36, e_34, hf⟩ := zb_e hf
  refine c_Vi hx hb hml hown hts hV hK hM hS (As := [.int 2]) (rest := []) (k_X8_count G hG l a0 h0 2 M29 e_34) w_X8_count (tk_570 hts) (c_9 h0) rfl rfl ⟨⟨rfl, rfl⟩, Nat.le_of_ble_eq_true rfl, Nat.le_of_ble_eq_true rfl⟩ ⟨Nat.zero_le _, Nat.zero_le _⟩ rfl hl.1 rfl (Nat.le_of_ble_eq_true rfl) dL_areCounts_36 (fun H locs hM hS => ?_)
  refine lv_aload_n hx hb dL_areCounts_39 rfl (lv_at hl 1 rfl) ?_
  refine lv_iconst (v := 5) hx hb dL_areCounts_40 (by decide) ?_
  obtain ⟨h_37, hf⟩ := gd_e hf
  refine s_iald 60 hx hb hK hM h1 (by decide) h_37 dL_areCounts_41 ?_
  refine lv_aload_n hx hb dL_areCounts_42 rfl (lv_at hl 1 rfl) ?_
  refine lv_bipush (v := 25) hx hb dL_areCounts_43 (by decide) ?_
  obtain ⟨h_38, hf⟩ := gd_e hf
  refine s_iald 60 hx hb hK hM h1 (by decide) h_38 dL_areCounts_45 ?_
  refine lv_iadd hx hb dL_areCounts_46 ?_
  refine lv_aload_n hx hb dL_areCounts_47 rfl (lv_at hl 1 rfl) ?_
  refine lv_bipush (v := 45) hx hb dL_areCounts_48 (by decide) ?_
  obtain ⟨h_39, hf⟩ := gd_e hf
  refine s_iald 60 hx hb hK hM h1 (by decide) h_39 dL_areCounts_50 ?_
  refine lv_iadd hx hb dL_areCounts_51 ?_
  obtain ⟨h_40, hf⟩ := gd_e hf
  refine lv_icmp_ne (tgt := 132) hx hb dL_areCounts_52 (by decide) (fun g => absurd h_40 g) (fun _ => ?_)
  refine lv_aload_n hx hb dL_areCounts_55 rfl (lv_at hl 0 rfl) ?_
  refine lv_iconst (v := 3) hx hb dL_areCounts_56 (by decide) ?_
  obtain ⟨r42, M43, e_41, hf⟩ := zb_e hf
  refine c_Vi hx hb hml hown hts hV hK hM hS (As := [.int 3]) (rest := []) (k_X8_count G hG l a0 h0 3 M36 e_41) w_X8_count (tk_570 hts) (c_9 h0) rfl rfl ⟨⟨rfl, rfl⟩, Nat.le_of_ble_eq_true rfl, Nat.le_of_ble_eq_true rfl⟩ ⟨Nat.zero_le _, Nat.zero_le _⟩ rfl hl.1 rfl (Nat.le_of_ble_eq_true rfl) dL_areCounts_57 (fun H locs hM hS => ?_)
  refine lv_aload_n hx hb dL_areCounts_60 rfl (lv_at hl 1 rfl) ?_
  refine lv_bipush (v := 19) hx hb dL_areCounts_61 (by decide) ?_
  obtain ⟨h_44, hf⟩ := gd_e hf
  refine s_iald 60 hx hb hK hM h1 (by decide) h_44 dL_areCounts_63 ?_
  refine lv_aload_n hx hb dL_areCounts_64 rfl (lv_at hl 1 rfl) ?_
  refine lv_bipush (v := 39) hx hb dL_areCounts_65 (by decide) ?_
  obtain ⟨h_45, hf⟩ := gd_e hf
  refine s_iald 60 hx hb hK hM h1 (by decide) h_45 dL_areCounts_67 ?_
  refine lv_iadd hx hb dL_areCounts_68 ?_
  refine lv_aload_n hx hb dL_areCounts_69 rfl (lv_at hl 1 rfl) ?_
  refine lv_bipush (v := 59) hx hb dL_areCounts_70 (by decide) ?_
  obtain ⟨h_46, hf⟩ := gd_e hf
  refine s_iald 60 hx hb hK hM h1 (by decide) h_46 dL_areCounts_72 ?_
  refine lv_iadd hx hb dL_areCounts_73 ?_
  obtain ⟨h_47, hf⟩ := gd_e hf
  refine lv_icmp_ne (tgt := 132) hx hb dL_areCounts_74 (by decide) (fun g => absurd h_47 g) (fun _ => ?_)
  refine lv_aload_n hx hb dL_areCounts_77 rfl (lv_at hl 0 rfl) ?_
  refine lv_iconst (v := 4) hx hb dL_areCounts_78 (by decide) ?_
  obtain ⟨r49, M50, e_48, hf⟩ := zb_e hf
  refine c_Vi hx hb hml hown hts hV hK hM hS (As := [.int 4]) (rest := []) (k_X8_count G hG l a0 h0 4 M43 e_48) w_X8_count (tk_570 hts) (c_9 h0) rfl rfl ⟨⟨rfl, rfl⟩, Nat.le_of_ble_eq_true rfl, Nat.le_of_ble_eq_true rfl⟩ ⟨Nat.zero_le _, Nat.zero_le _⟩ rfl hl.1 rfl (Nat.le_of_ble_eq_true rfl) dL_areCounts_79 (fun H locs hM hS => ?_)
  refine lv_aload_n hx hb dL_areCounts_82 rfl (lv_at hl 2 rfl) ?_
  refine lv_iconst (v := 3) hx hb dL_areCounts_83 (by decide) ?_
  obtain ⟨h_51, hf⟩ := gd_e hf
  refine s_iald 14 hx hb hK hM h2 (by decide) h_51 dL_areCounts_84 ?_
  refine lv_aload_n hx hb dL_areCounts_85 rfl (lv_at hl 2 rfl) ?_
  refine lv_iconst (v := 4) hx hb dL_areCounts_86 (by decide) ?_
  obtain ⟨h_52, hf⟩ := gd_e hf
  refine s_iald 14 hx hb hK hM h2 (by decide) h_52 dL_areCounts_87 ?_
  refine lv_iadd hx hb dL_areCounts_88 ?_
  refine lv_aload_n hx hb dL_areCounts_89 rfl (lv_at hl 2 rfl) ?_
  refine lv_iconst (v := 5) hx hb dL_areCounts_90 (by decide) ?_
  obtain ⟨h_53, hf⟩ := gd_e hf
  refine s_iald 14 hx hb hK hM h2 (by decide) h_53 dL_areCounts_91 ?_
  refine lv_iadd hx hb dL_areCounts_92 ?_
  obtain ⟨h_54, hf⟩ := gd_e hf
  refine lv_icmp_ne (tgt := 132) hx hb dL_areCounts_93 (by decide) (fun g => absurd h_54 g) (fun _ => ?_)
  refine lv_aload_n hx hb dL_areCounts_96 rfl (lv_at hl 0 rfl) ?_
  refine lv_iconst (v := 5) hx hb dL_areCounts_97 (by decide) ?_
  obtain ⟨r56, M57, e_55, hf⟩ := zb_e hf
  refine c_Vi hx hb hml hown hts hV hK hM hS (As := [.int 5]) (rest := []) (k_X8_count G hG l a0 h0 5 M50 e_55) w_X8_count (tk_570 hts) (c_9 h0) rfl rfl ⟨⟨rfl, rfl⟩, Nat.le_of_ble_eq_true rfl, Nat.le_of_ble_eq_true rfl⟩ ⟨Nat.zero_le _, Nat.zero_le _⟩ rfl hl.1 rfl (Nat.le_of_ble_eq_true rfl) dL_areCounts_98 (fun H locs hM hS => ?_)
  refine lv_aload_n hx hb dL_areCounts_101 rfl (lv_at hl 2 rfl) ?_
  refine lv_bipush (v := 6) hx hb dL_areCounts_102 (by decide) ?_
  obtain ⟨h_58, hf⟩ := gd_e hf
  refine s_iald 14 hx hb hK hM h2 (by decide) h_58 dL_areCounts_104 ?_
  refine lv_aload_n hx hb dL_areCounts_105 rfl (lv_at hl 2 rfl) ?_
  refine lv_bipush (v := 7) hx hb dL_areCounts_106 (by decide) ?_
  obtain ⟨h_59, hf⟩ := gd_e hf
  refine s_iald 14 hx hb hK hM h2 (by decide) h_59 dL_areCounts_108 ?_
  refine lv_iadd hx hb dL_areCounts_109 ?_
  refine lv_aload_n hx hb dL_areCounts_110 rfl (lv_at hl 2 rfl) ?_
  refine lv_bipush (v := 8) hx hb dL_areCounts_111 (by decide) ?_
  obtain ⟨h_60, hf⟩ := gd_e hf
  refine s_iald 14 hx hb hK hM h2 (by decide) h_60 dL_areCounts_113 ?_
  refine lv_iadd hx hb dL_areCounts_114 ?_
  obtain ⟨h_61, hf⟩ := gd_e hf
  refine lv_icmp_ne (tgt := 132) hx hb dL_areCounts_115 (by decide) (fun g => absurd h_61 g) (fun _ => ?_)
  refine lv_aload_n hx hb dL_areCounts_118 rfl (lv_at hl 0 rfl) ?_
  refine lv_bipush (v := 6) hx hb dL_areCounts_119 (by decide) ?_
  obtain ⟨r63, M64, e_62, hf⟩ := zb_e hf
  refine c_Vi hx hb hml hown hts hV hK hM hS (As := [.int 6]) (rest := []) (k_X8_count G hG l a0 h0 6 M57 e_62) w_X8_count (tk_570 hts) (c_9 h0) rfl rfl ⟨⟨rfl, rfl⟩, Nat.le_of_ble_eq_true rfl, Nat.le_of_ble_eq_true rfl⟩ ⟨Nat.zero_le _, Nat.zero_le _⟩ rfl hl.1 rfl (Nat.le_of_ble_eq_true rfl) dL_areCounts_121 (fun H locs hM hS => ?_)
  refine lv_iload_n hx hb dL_areCounts_124 rfl (lv_at hl 3 rfl) ?_
  obtain ⟨h_65, hf⟩ := gd_e hf
  refine lv_icmp_ne (tgt := 132) hx hb dL_areCounts_125 (by decide) (fun g => absurd h_65 g) (fun _ => ?_)
  refine lv_iconst (v := 1) hx hb dL_areCounts_128 (by decide) ?_
  refine lv_goto (tgt := 133) hx hb dL_areCounts_129 (by decide) ?_
  refine lv_istore (lv' := [(4, .int 1), (0, .ref a0), (1, .ref a1), (2, .ref a2), (3, .int p3)]) hx hb dL_areCounts_133 hl (by decide) rfl (fun ls hl => ?_)
  refine lv_iconst (v := 0) hx hb dL_areCounts_135 (by decide) ?_
  refine lv_istore (lv' := [(5, .int 0), (4, .int 1), (0, .ref a0), (1, .ref a1), (2, .ref a2), (3, .int p3)]) hx hb dL_areCounts_136 hl (by decide) rfl (fun ls hl => ?_)
  exact b138 _ 1 0 _ H locs ls hM hS (lv_sub hl [2, 3, 4, 5, 1, 0] rfl) hf
def f_L_acts_b75 (a0 : Nat) (a1 : Nat) (a2 : Nat) (a3 : Nat) (a4 : Nat) (p5 : Int32) (p6 : Int32) (p7 : Int32) (x8 : Int32) (M : Mem) : Option (Int32 × Mem) := zb (f_X8_saying a0 p5 5 M) fun r2 M3 => gd (ix (x8 + 4) 60) <| gd (r2 = (mI M3 a1 (x8 + 4).toNatClampNeg)) <| some (1, M3)
def f_L_acts_b222 (a0 : Nat) (a1 : Nat) (a2 : Nat) (a3 : Nat) (a4 : Nat) (p5 : Int32) (p6 : Int32) (p7 : Int32) : Nat → Int32 → Mem → Option (Int32 × Mem)
  | 0, _, _ => none
  | n + 1, x12, M => if (16 : Int32) ≤ x12 then (zb (f_X8_swap a0 p5 M) fun r8 M9 => gd (ix (0 : Int32) 64) <| gd (r8 = (mI M9 a4 (0 : Int32).toNatClampNeg)) <| some (1, M9)) else (gd (ix x12 64) <| nb (mI M a4 x12.toNatClampNeg) fun y13 => gd (ix ((16 : Int32) + x12) 64) <| gd (ix x12 64) <| nb (sI M a4 x12.toNatClampNeg (mI M a4 ((16 : Int32) + x12).toNatClampNeg)) fun M16 => gd (ix ((16 : Int32) + x12) 64) <| nb (sI M16 a4 ((16 : Int32) + x12).toNatClampNeg y13) fun M18 => nb (x12 + 1) fun y19 => f_L_acts_b222 a0 a1 a2 a3 a4 p5 p6 p7 n y19 M18)
def f_L_acts_b374 (a0 : Nat) (a1 : Nat) (a2 : Nat) (a3 : Nat) (a4 : Nat) (p5 : Int32) (p6 : Int32) (p7 : Int32) (x12 : Int32) (x13 : Int32) (xs0 : Int32) (xs1 : Int32) (qs2 : Nat) (M : Mem) : Option (Int32 × Mem) := gd (ix xs1 14) <| nb (sI M qs2 xs1.toNatClampNeg xs0) fun M21 => gd (ix ((9 : Int32) + x12) 14) <| zb (f_X8_set a0 x12 (mI M21 a2 ((9 : Int32) + x12).toNatClampNeg) M21) fun r24 M25 => gd (r24 = x13) <| some (1, M25)
def f_L_acts_b470 (a0 : Nat) (a1 : Nat) (a2 : Nat) (a3 : Nat) (a4 : Nat) (p5 : Int32) (p6 : Int32) (p7 : Int32) (x9 : Int32) (xs0 : Int32) (M : Mem) : Option (Int32 × Mem) := if x9 = (4 : Int32) then (some (1, M)) else (zb (f_X8_say a0 p5 xs0 M) fun r29 M30 => cb (f_L_says a1 a2 a3 a4 p5 xs0 M30) fun r32 M33 => gd (r29 = r32) <| some (1, M33))
def f_L_acts (a0 : Nat) (a1 : Nat) (a2 : Nat) (a3 : Nat) (a4 : Nat) (p5 : Int32) (p6 : Int32) (p7 : Int32) (M : Mem) : Option (Int32 × Mem) := nb ((20 : Int32) * p5) fun y35 => gd (ix (y35 + 19) 60) <| nb (mI M a1 (y35 + 19).toNatClampNeg) fun y37 => if p6 = 0 then (gd (ix (y35 + 4) 60) <| if (mI M a1 (y35 + 4).toNatClampNeg) = 0 then (f_L_acts_b75 a0 a1 a2 a3 a4 p5 p6 p7 y35 M) else (if y37 = (4 : Int32) then (f_L_acts_b75 a0 a1 a2 a3 a4 p5 p6 p7 y35 M) else (gd (ix (y35 + 4) 60) <| nb (mI M a1 (y35 + 4).toNatClampNeg) fun y43 => vb (f_L_packs a1 a2 a3 a4 p5 M) fun M45 => zb (f_X8_flush a0 p5 M45) fun r47 M48 => gd (r47 = y43) <| some (1, M48)))) else (if p6 = 1 then (if y37 = 0 then (zb (f_X8_saying a0 p5 9 M) fun r64 M65 => gd (r64 = 0) <| some (1, M65)) else (gd (ix (0 : Int32) 64) <| nb (mI M a4 (0 : Int32).toNatClampNeg) fun y53 => vb (f_L_moves a1 a4 p5 M) fun M55 => gd (ix ((3 : Int32) + p5) 14) <| gd (ix ((3 : Int32) + p5) 14) <| nb (sI M55 a2 ((3 : Int32) + p5).toNatClampNeg ((mI M55 a2 ((3 : Int32) + p5).toNatClampNeg) + 1)) fun M58 => zb (f_X8_lose a0 p5 M58) fun r60 M61 => gd (r60 = y53) <| some (1, M61))) else (if p6 = 2 then (if (2 : Int32) ≤ y37 then (f_L_acts_b222 a0 a1 a2 a3 a4 p5 p6 p7 lfuel 0 M) else (zb (f_X8_saying a0 p5 9 M) fun r70 M71 => gd (¬ ((2 : Int32) ≤ r70)) <| some (1, M71))) else (if p6 = 3 then (vb (f_L_low p7 4 M) fun r75 => gd (ix ((9 : Int32) + r75) 14) <| nb (mI M a2 ((9 : Int32) + r75).toNatClampNeg) fun y77 => if r75 = 0 then (vb (f_L_low (p7 >>> ((2 : Int32) &&& 31)) 4 M) fun r88 => f_L_acts_b374 a0 a1 a2 a3 a4 p5 p6 p7 r75 y77 ((1 : Int32) + r88) ((9 : Int32) + r75) a2 M) else (if r75 = (1 : Int32) then (vb (f_L_low (p7 >>> ((2 : Int32) &&& 31)) 100 M) fun r86 => f_L_acts_b374 a0 a1 a2 a3 a4 p5 p6 p7 r75 y77 r86 ((9 : Int32) + r75) a2 M) else (if r75 = (2 : Int32) then (vb (f_L_low (p7 >>> ((2 : Int32) &&& 31)) 8 M) fun r84 => f_L_acts_b374 a0 a1 a2 a3 a4 p5 p6 p7 r75 y77 ((1 : Int32) + r84) ((9 : Int32) + r75) a2 M) else (vb (f_L_low (p7 >>> ((2 : Int32) &&& 31)) 9 M) fun r82 => f_L_acts_b374 a0 a1 a2 a3 a4 p5 p6 p7 r75 y77 ((1 : Int32) + r82) ((9 : Int32) + r75) a2 M)))) else (if p6 = 4 then (if y37 = 0 then (some (1, M)) else (zb (f_X8_deliver a0 p5 M) fun r92 M93 => cb (f_L_comes a1 a2 a4 p5 M93) fun r95 M96 => gd (r92 = r95) <| some (1, M96))) else (if p6 = 5 then (if y37 = 0 then (some (1, M)) else (zb (f_X8_deliver a0 p5 M) fun r101 M102 => cb (f_L_comes a1 a2 a4 p5 M102) fun r104 M105 => gd (r101 = r104) <| some (1, M105))) else (if p6 = 6 then (if y37 = 0 then (some (1, M)) else (zb (f_X8_deliver a0 p5 M) fun r110 M111 => cb (f_L_comes a1 a2 a4 p5 M111) fun r113 M114 => gd (r110 = r113) <| some (1, M114))) else (vb (f_L_low (p7 >>> ((3 : Int32) &&& 31)) 3 M) fun r117 => if r117 = 0 then (vb (f_L_low (p7 >>> ((5 : Int32) &&& 31)) 4001 M) fun r122 => f_L_acts_b470 a0 a1 a2 a3 a4 p5 p6 p7 y37 (r122 - 2000) M) else (vb (f_L_low (p7 >>> ((5 : Int32) &&& 31)) 300 M) fun r120 => f_L_acts_b470 a0 a1 a2 a3 a4 p5 p6 p7 y37 (r120 - 150) M))))))))
set_option maxHeartbeats 4000000 in
set_option maxRecDepth 100000 in
theorem k_L_acts (G : Gt) (hG : gOK G) (l : Launch) (a0 : Nat) (h0 : gK G a0 = 9) (a1 : Nat) (h1 : gK G a1 = 1060) (a2 : Nat) (h2 : gK G a2 = 1014) (a3 : Nat) (h3 : gK G a3 = 1024) (a4 : Nat) (h4 : gK G a4 = 1064) (p5 : Int32) (p6 : Int32) (p7 : Int32) (M : Mem) {r : Int32} {M' : Mem} (hf : f_L_acts a0 a1 a2 a3 a4 p5 p6 p7 M = some (r, M')) : Kc G l yL_acts cL_acts 15 (some .boolean) ({ frames := 8, cells := 0, slots := 0, locals := 157 } : Room) [.ref a0, .ref a1, .ref a2, .ref a3, .ref a4, .int p5, .int p6, .int p7] M (some (.int r)) M' := by
  refine start (by decide) (Nat.le_of_ble_eq_true rfl) ?_
  intro p e s m args below meth c ls hx hb hr hown hml hlocks hts hV hM hl
  have hown : s.vm.findClass "FoldedVoicesLaw" = some m.cls := hown
  have hK := hG.1.moved hV
  have hS : va_S (gA G) s.heap s.heap [] := va_S.rf
  have hl : lv_has ls 15 [(0, .ref a0), (1, .ref a1), (2, .ref a2), (3, .ref a3), (4, .ref a4), (5, .int p5), (6, .int p6), (7, .int p7)] := hl
  have hM0 := hM
  have b75 : ∀ (x8 : Int32) (M : Mem) (H : Heap) (locs : List Loc) (ls : Array Slot), Mh G M H → va_S (gA G) s.heap H locs → lv_has ls 15 [(0, .ref a0), (1, .ref a1), (2, .ref a2), (3, .ref a3), (4, .ref a4), (5, .int p5), (6, .int p6), (7, .int p7), (8, .int x8)] → f_L_acts_b75 a0 a1 a2 a3 a4 p5 p6 p7 x8 M = some (r, M') → W p l e ({ frames := 8, cells := 0, slots := 0, locals := 157 } : Room) s m args below meth c H locs 0 0 (MQ below (QV G (some (.int r)) M') args s 0 0 (gA G)) (F0 m 75 ls []) := by
    intro x8 M H locs ls hM hS hl hf
    rw [f_L_acts_b75] at hf
    refine lv_aload_n hx hb dL_acts_75 rfl (lv_at hl 0 rfl) ?_
    refine lv_iload hx hb dL_acts_76 (lv_at hl 5 rfl) ?_
    refine lv_iconst (v := 5) hx hb dL_acts_78 (by decide) ?_
    obtain ⟨r2, M3, e_1, hf⟩ := zb_e hf
    refine c_Vi hx hb hml hown hts hV hK hM hS (As := [.int p5, .int 5]) (rest := []) (k_X8_saying G hG l a0 h0 p5 5 M e_1) w_X8_saying (tk_302 hts) (c_9 h0) rfl rfl ⟨⟨rfl, rfl⟩, Nat.le_of_ble_eq_true rfl, Nat.le_of_ble_eq_true rfl⟩ ⟨Nat.zero_le _, Nat.zero_le _⟩ rfl hl.1 rfl (Nat.le_of_ble_eq_true rfl) dL_acts_79 (fun H locs hM hS => ?_)
    refine lv_aload_n hx hb dL_acts_82 rfl (lv_at hl 1 rfl) ?_
    refine lv_iload hx hb dL_acts_83 (lv_at hl 8 rfl) ?_
    refine lv_iconst (v := 4) hx hb dL_acts_85 (by decide) ?_
    refine lv_iadd hx hb dL_acts_86 ?_
    obtain ⟨h_4, hf⟩ := gd_e hf
    refine s_iald 60 hx hb hK hM h1 (by decide) h_4 dL_acts_87 ?_
    obtain ⟨h_5, hf⟩ := gd_e hf
    refine lv_icmp_ne (tgt := 95) hx hb dL_acts_88 (by decide) (fun g => absurd h_5 g) (fun _ => ?_)
    refine lv_iconst (v := 1) hx hb dL_acts_91 (by decide) ?_
    refine lv_goto (tgt := 96) hx hb dL_acts_92 (by decide) ?_
    exact ef_zm hx hb hr hlocks hM hS (nz_n (Or.inr rfl)) hf dL_acts_96
  have b222 : ∀ (n : Nat), ∀ (x12 : Int32) (M : Mem) (H : Heap) (locs : List Loc) (ls : Array Slot), Mh G M H → va_S (gA G) s.heap H locs → lv_has ls 15 [(0, .ref a0), (1, .ref a1), (2, .ref a2), (3, .ref a3), (4, .ref a4), (5, .int p5), (6, .int p6), (7, .int p7), (12, .int x12)] → f_L_acts_b222 a0 a1 a2 a3 a4 p5 p6 p7 n x12 M = some (r, M') → W p l e ({ frames := 8, cells := 0, slots := 0, locals := 157 } : Room) s m args below meth c H locs 0 0 (MQ below (QV G (some (.int r)) M') args s 0 0 (gA G)) (F0 m 222 ls []) := by
    intro n
    induction n with
    | zero =>
      intro x12 M H locs ls hM hS hl hf
      rw [f_L_acts_b222] at hf
      cases hf
    | succ n ih =>
      intro x12 M H locs ls hM hS hl hf
      rw [f_L_acts_b222] at hf
      refine lv_iload hx hb dL_acts_222 (lv_at hl 8 rfl) ?_
      refine lv_bipush (v := 16) hx hb dL_acts_224 (by decide) ?_
      refine lv_icmp_ge (tgt := 265) hx hb dL_acts_226 (by decide) (fun g_6 => ?_) (fun g_6 => ?_)
      · rw [if_pos g_6] at hf
        refine lv_aload_n hx hb dL_acts_265 rfl (lv_at hl 0 rfl) ?_
        refine lv_iload hx hb dL_acts_266 (lv_at hl 5 rfl) ?_
        obtain ⟨r8, M9, e_7, hf⟩ := zb_e hf
        refine c_Vi hx hb hml hown hts hV hK hM hS (As := [.int p5]) (rest := []) (k_X8_swap G hG l a0 h0 p5 M e_7) w_X8_swap (tk_740 hts) (c_9 h0) rfl rfl ⟨⟨rfl, rfl⟩, Nat.le_of_ble_eq_true rfl, Nat.le_of_ble_eq_true rfl⟩ ⟨Nat.zero_le _, Nat.zero_le _⟩ rfl hl.1 rfl (Nat.le_of_ble_eq_true rfl) dL_acts_268 (fun H locs hM hS => ?_)
        refine lv_aload hx hb dL_acts_271 (lv_at hl 4 rfl) ?_
        refine lv_iconst (v := 0) hx hb dL_acts_273 (by decide) ?_
        obtain ⟨h_10, hf⟩ := gd_e hf
        refine s_iald 64 hx hb hK hM h4 (by decide) h_10 dL_acts_274 ?_
        obtain ⟨h_11, hf⟩ := gd_e hf
        refine lv_icmp_ne (tgt := 282) hx hb dL_acts_275 (by decide) (fun g => absurd h_11 g) (fun _ => ?_)
        refine lv_iconst (v := 1) hx hb dL_acts_278 (by decide) ?_
        refine lv_goto (tgt := 283) hx hb dL_acts_279 (by decide) ?_
        exact ef_zm hx hb hr hlocks hM hS (nz_n (Or.inr rfl)) hf dL_acts_283
      · rw [if_neg g_6] at hf
        refine lv_aload hx hb dL_acts_229 (lv_at hl 4 rfl) ?_
        refine lv_iload hx hb dL_acts_231 (lv_at hl 8 rfl) ?_
        obtain ⟨h_12, hf⟩ := gd_e hf
        refine s_iald 64 hx hb hK hM h4 (by decide) h_12 dL_acts_233 ?_
        obtain ⟨y13, ey13, hf⟩ := nb_e hf
        refine s_nm ey13 ?_
        refine lv_istore (lv' := [(13, .int y13), (0, .ref a0), (1, .ref a1), (2, .ref a2), (3, .ref a3), (4, .ref a4), (5, .int p5), (6, .int p6), (7, .int p7), (12, .int x12)]) hx hb dL_acts_234 hl (by decide) rfl (fun ls hl => ?_)
        refine lv_aload hx hb dL_acts_236 (lv_at hl 5 rfl) ?_
        refine lv_iload hx hb dL_acts_238 (lv_at hl 9 rfl) ?_
        refine lv_aload hx hb dL_acts_240 (lv_at hl 5 rfl) ?_
        refine lv_bipush (v := 16) hx hb dL_acts_242 (by decide) ?_
        refine lv_iload hx hb dL_acts_244 (lv_at hl 9 rfl) ?_
        refine lv_iadd hx hb dL_acts_246 ?_
        obtain ⟨h_14, hf⟩ := gd_e hf
        refine s_iald 64 hx hb hK hM h4 (by decide) h_14 dL_acts_247 ?_
        obtain ⟨h_15, hf⟩ := gd_e hf
        obtain ⟨M16, eM16, hf⟩ := nb_e hf
        refine s_iast 64 hx hb hK hM hS h4 (by decide) (ky_b hG h4) h_15 dL_acts_248 (fun H locs hM hS => ?_)
        rw [eM16] at hM
        refine lv_aload hx hb dL_acts_249 (lv_at hl 5 rfl) ?_
        refine lv_bipush (v := 16) hx hb dL_acts_251 (by decide) ?_
        refine lv_iload hx hb dL_acts_253 (lv_at hl 9 rfl) ?_
        refine lv_iadd hx hb dL_acts_255 ?_
        refine lv_iload hx hb dL_acts_256 (lv_at hl 0 rfl) ?_
        obtain ⟨h_17, hf⟩ := gd_e hf
        obtain ⟨M18, eM18, hf⟩ := nb_e hf
        refine s_iast 64 hx hb hK hM hS h4 (by decide) (ky_b hG h4) h_17 dL_acts_258 (fun H locs hM hS => ?_)
        rw [eM18] at hM
        obtain ⟨y19, ey19, hf⟩ := nb_e hf
        refine lv_iinc (v := y19) (lv' := [(12, .int y19), (13, .int y13), (0, .ref a0), (1, .ref a1), (2, .ref a2), (3, .ref a3), (4, .ref a4), (5, .int p5), (6, .int p6), (7, .int p7)]) hx hb dL_acts_259 hl (k := 9) rfl (by rw [← ey19]; rfl) (by decide) rfl (fun ls hl => ?_)
        refine lv_goto (tgt := 222) hx hb dL_acts_262 (by decide) ?_
        exact ih y19 _ H locs ls hM hS (lv_sub hl [2, 3, 4, 5, 6, 7, 8, 9, 0] rfl) hf
  have b374 : ∀ (x12 : Int32) (x13 : Int32) (xs0 : Int32) (xs1 : Int32) (qs2 : Nat) (M : Mem) (H : Heap) (locs : List Loc) (ls : Array Slot), gK G qs2 = 1014 → Mh G M H → va_S (gA G) s.heap H locs → lv_has ls 15 [(0, .ref a0), (1, .ref a1), (2, .ref a2), (3, .ref a3), (4, .ref a4), (5, .int p5), (6, .int p6), (7, .int p7), (12, .int x12), (13, .int x13)] → f_L_acts_b374 a0 a1 a2 a3 a4 p5 p6 p7 x12 x13 xs0 xs1 qs2 M = some (r, M') → W p l e ({ frames := 8, cells := 0, slots := 0, locals := 157 } : Room) s m args below meth c H locs 0 0 (MQ below (QV G (some (.int r)) M') args s 0 0 (gA G)) (F0 m 374 ls [.int xs0, .int xs1, .ref qs2]) := by
    intro x12 x13 xs0 xs1 qs2 M H locs ls h_qs2 hM hS hl hf
    rw [f_L_acts_b374] at hf
    obtain ⟨h_20, hf⟩ := gd_e hf
    obtain ⟨M21, eM21, hf⟩ := nb_e hf
    refine s_iast 14 hx hb hK hM hS h_qs2 (by decide) (ky_b hG h_qs2) h_20 dL_acts_374 (fun H locs hM hS => ?_)
    rw [eM21] at hM
    refine lv_aload_n hx hb dL_acts_375 rfl (lv_at hl 0 rfl) ?_
    refine lv_iload hx hb dL_acts_376 (lv_at hl 8 rfl) ?_
    refine lv_aload_n hx hb dL_acts_378 rfl (lv_at hl 2 rfl) ?_
    refine lv_bipush (v := 9) hx hb dL_acts_379 (by decide) ?_
    refine lv_iload hx hb dL_acts_381 (lv_at hl 8 rfl) ?_
    refine lv_iadd hx hb dL_acts_383 ?_
    obtain ⟨h_22, hf⟩ := gd_e hf
    refine s_iald 14 hx hb hK hM h2 (by decide) h_22 dL_acts_384 ?_
    obtain ⟨r24, M25, e_23, hf⟩ := zb_e hf
    refine c_Vi hx hb hml hown hts hV hK hM hS (As := [.int x12, .int (mI M21 a2 ((9 : Int32) + x12).toNatClampNeg)]) (rest := []) (k_X8_set G hG l a0 h0 x12 (mI M21 a2 ((9 : Int32) + x12).toNatClampNeg) M21 e_23) w_X8_set (tk_748 hts) (c_9 h0) rfl rfl ⟨⟨rfl, rfl⟩, Nat.le_of_ble_eq_true rfl, Nat.le_of_ble_eq_true rfl⟩ ⟨Nat.zero_le _, Nat.zero_le _⟩ rfl hl.1 rfl (Nat.le_of_ble_eq_true rfl) dL_acts_385 (fun H locs hM hS => ?_)
    refine lv_iload hx hb dL_acts_388 (lv_at hl 9 rfl) ?_
    obtain ⟨h_26, hf⟩ := gd_e hf
    refine lv_icmp_ne (tgt := 397) hx hb dL_acts_390 (by decide) (fun g => absurd h_26 g) (fun _ => ?_)
    refine lv_iconst (v := 1) hx hb dL_acts_393 (by decide) ?_
    refine lv_goto (tgt := 398) hx hb dL_acts_394 (by decide) ?_
    exact ef_zm hx hb hr hlocks hM hS (nz_n (Or.inr rfl)) hf dL_acts_398
  have b470 : ∀ (x9 : Int32) (xs0 : Int32) (M : Mem) (H : Heap) (locs : List Loc) (ls : Array Slot), Mh G M H → va_S (gA G) s.heap H locs → lv_has ls 15 [(0, .ref a0), (1, .ref a1), (2, .ref a2), (3, .ref a3), (4, .ref a4), (5, .int p5), (6, .int p6), (7, .int p7), (9, .int x9)] → f_L_acts_b470 a0 a1 a2 a3 a4 p5 p6 p7 x9 xs0 M = some (r, M') → W p l e ({ frames := 8, cells := 0, slots := 0, locals := 157 } : Room) s m args below meth c H locs 0 0 (MQ below (QV G (some (.int r)) M') args s 0 0 (gA G)) (F0 m 470 ls [.int xs0]) := by
    intro x9 xs0 M H locs ls hM hS hl hf
    rw [f_L_acts_b470] at hf
    refine lv_istore (lv' := [(14, .int xs0), (0, .ref a0), (1, .ref a1), (2, .ref a2), (3, .ref a3), (4, .ref a4), (5, .int p5), (6, .int p6), (7, .int p7), (9, .int x9)]) hx hb dL_acts_470 hl (by decide) rfl (fun ls hl => ?_)
    refine lv_iload hx hb dL_acts_472 (lv_at hl 9 rfl) ?_
    refine lv_iconst (v := 4) hx hb dL_acts_474 (by decide) ?_
    refine lv_icmp_eq (tgt := 501) hx hb dL_acts_475 (by decide) (fun g_27 => ?_) (fun g_27 => ?_)
    · rw [if_pos g_27] at hf
      refine lv_iconst (v := 1) hx hb dL_acts_501 (by decide) ?_
      refine lv_goto (tgt := 506) hx hb dL_acts_502 (by decide) ?_
      exact ef_zm hx hb hr hlocks hM hS (nz_n (Or.inr rfl)) hf dL_acts_506
    · rw [if_neg g_27] at hf
      refine lv_aload_n hx hb dL_acts_478 rfl (lv_at hl 1 rfl) ?_
      refine lv_iload hx hb dL_acts_479 (lv_at hl 6 rfl) ?_
      refine lv_iload hx hb dL_acts_481 (lv_at hl 0 rfl) ?_
      obtain ⟨r29, M30, e_28, hf⟩ := zb_e hf
      refine c_Vi hx hb hml hown hts hV hK hM hS (As := [.int p5, .int xs0]) (rest := []) (k_X8_say G hG l a0 h0 p5 xs0 M e_28) w_X8_say (tk_773 hts) (c_9 h0) rfl rfl ⟨⟨rfl, rfl⟩, Nat.le_of_ble_eq_true rfl, Nat.le_of_ble_eq_true rfl⟩ ⟨Nat.zero_le _, Nat.zero_le _⟩ rfl hl.1 rfl (Nat.le_of_ble_eq_true rfl) dL_acts_483 (fun H locs hM hS => ?_)
      refine lv_aload_n hx hb dL_acts_486 rfl (lv_at hl 2 rfl) ?_
      refine lv_aload_n hx hb dL_acts_487 rfl (lv_at hl 3 rfl) ?_
      refine lv_aload_n hx hb dL_acts_488 rfl (lv_at hl 4 rfl) ?_
      refine lv_aload hx hb dL_acts_489 (lv_at hl 5 rfl) ?_
      refine lv_iload hx hb dL_acts_491 (lv_at hl 6 rfl) ?_
      refine lv_iload hx hb dL_acts_493 (lv_at hl 0 rfl) ?_
      obtain ⟨r32, M33, e_31, hf⟩ := cb_e hf
      refine c_Si hx hb hml hown hts hV hM hS (As := [.ref a1, .ref a2, .ref a3, .ref a4, .int p5, .int xs0]) (rest := [.int r29]) (k_L_says G hG l a1 h1 a2 h2 a3 h3 a4 h4 p5 xs0 M30 e_31) w_L_says (tk_810 hts) ⟨⟨rfl, rfl⟩, Nat.le_of_ble_eq_true rfl, Nat.le_of_ble_eq_true rfl⟩ ⟨Nat.zero_le _, Nat.zero_le _⟩ rfl hl.1 rfl (Nat.le_of_ble_eq_true rfl) dL_acts_495 (fun H locs hM hS => ?_)
      obtain ⟨h_34, hf⟩ := gd_e hf
      refine lv_icmp_ne (tgt := 505) hx hb dL_acts_498 (by decide) (fun g => absurd h_34 g) (fun _ => ?_)
      refine lv_iconst (v := 1) hx hb dL_acts_501 (by decide) ?_
      refine lv_goto (tgt := 506) hx hb dL_acts_502 (by decide) ?_
      exact ef_zm hx hb hr hlocks hM hS (nz_n (Or.inr rfl)) hf dL_acts_506
  rw [f_L_acts] at hf
  obtain ⟨H, hHe⟩ : ∃ H, H = s.heap := ⟨_, rfl⟩
  obtain ⟨locs, hLe⟩ : ∃ L : List Loc, L = [] := ⟨_, rfl⟩
  rw [← hHe] at hM
  have hS : va_S (gA G) s.heap H locs := by rw [hHe, hLe]; exact va_S.rf
  suffices hW : W p l e ({ frames := 8, cells := 0, slots := 0, locals := 157 } : Room) s m args below meth c H locs 0 0 (MQ below (QV G (some (.int r)) M') args s 0 0 (gA G)) (F0 m 0 ls []) by rw [hHe, hLe] at hW; exact hW
  refine lv_bipush (v := 20) hx hb dL_acts_0 (by decide) ?_
  refine lv_iload hx hb dL_acts_2 (lv_at hl 5 rfl) ?_
  refine lv_imul hx hb dL_acts_4 ?_
  obtain ⟨y35, ey35, hf⟩ := nb_e hf
  refine s_nm ey35 ?_
  refine lv_istore (lv' := [(8, .int y35), (0, .ref a0), (1, .ref a1), (2, .ref a2), (3, .ref a3), (4, .ref a4), (5, .int p5), (6, .int p6), (7, .int p7)]) hx hb dL_acts_5 hl (by decide) rfl (fun ls hl => ?_)
  refine lv_aload_n hx hb dL_acts_7 rfl (lv_at hl 2 rfl) ?_
  refine lv_iload hx hb dL_acts_8 (lv_at hl 0 rfl) ?_
  refine lv_bipush (v := 19) hx hb dL_acts_10 (by decide) ?_
  refine lv_iadd hx hb dL_acts_12 ?_
  obtain ⟨h_36, hf⟩ := gd_e hf
  refine s_iald 60 hx hb hK hM h1 (by decide) h_36 dL_acts_13 ?_
  obtain ⟨y37, ey37, hf⟩ := nb_e hf
  refine s_nm ey37 ?_
  refine lv_istore (lv' := [(9, .int y37), (8, .int y35), (0, .ref a0), (1, .ref a1), (2, .ref a2), (3, .ref a3), (4, .ref a4), (5, .int p5), (6, .int p6), (7, .int p7)]) hx hb dL_acts_14 hl (by decide) rfl (fun ls hl => ?_)
  refine lv_iload hx hb dL_acts_16 (lv_at hl 8 rfl) ?_
  by_cases g_38 : p6 = 0
  · rw [if_pos g_38] at hf
    refine lv_tableIn (off := 42) (tgt := 60) hx hb dL_acts_18 (by rw [g_38]; decide) (by rw [g_38]; decide) (by rw [g_38]; rfl) (by decide) ?_
    refine lv_aload_n hx hb dL_acts_60 rfl (lv_at hl 3 rfl) ?_
    refine lv_iload hx hb dL_acts_61 (lv_at hl 1 rfl) ?_
    refine lv_iconst (v := 4) hx hb dL_acts_63 (by decide) ?_
    refine lv_iadd hx hb dL_acts_64 ?_
    obtain ⟨h_39, hf⟩ := gd_e hf
    refine s_iald 60 hx hb hK hM h1 (by decide) h_39 dL_acts_65 ?_
    refine lv_if_eq (tgt := 75) hx hb dL_acts_66 (by decide) (fun g_40 => ?_) (fun g_40 => ?_)
    · rw [if_pos g_40] at hf
      exact b75 y35 _ H locs ls hM hS (lv_sub hl [2, 3, 4, 5, 6, 7, 8, 9, 1] rfl) hf
    · rw [if_neg g_40] at hf
      refine lv_iload hx hb dL_acts_69 (lv_at hl 0 rfl) ?_
      refine lv_iconst (v := 4) hx hb dL_acts_71 (by decide) ?_
      refine lv_icmp_ne (tgt := 97) hx hb dL_acts_72 (by decide) (fun g_41 => ?_) (fun g_41 => ?_)
      · rw [if_neg g_41] at hf
        refine lv_aload_n hx hb dL_acts_97 rfl (lv_at hl 3 rfl) ?_
        refine lv_iload hx hb dL_acts_98 (lv_at hl 1 rfl) ?_
        refine lv_iconst (v := 4) hx hb dL_acts_100 (by decide) ?_
        refine lv_iadd hx hb dL_acts_101 ?_
        obtain ⟨h_42, hf⟩ := gd_e hf
        refine s_iald 60 hx hb hK hM h1 (by decide) h_42 dL_acts_102 ?_
        obtain ⟨y43, ey43, hf⟩ := nb_e hf
        refine s_nm ey43 ?_
        refine lv_istore (lv' := [(10, .int y43), (9, .int y37), (8, .int y35), (0, .ref a0), (1, .ref a1), (2, .ref a2), (3, .ref a3), (4, .ref a4), (5, .int p5), (6, .int p6), (7, .int p7)]) hx hb dL_acts_103 hl (by decide) rfl (fun ls hl => ?_)
        refine lv_aload_n hx hb dL_acts_105 rfl (lv_at hl 4 rfl) ?_
        refine lv_aload_n hx hb dL_acts_106 rfl (lv_at hl 5 rfl) ?_
        refine lv_aload_n hx hb dL_acts_107 rfl (lv_at hl 6 rfl) ?_
        refine lv_aload hx hb dL_acts_108 (lv_at hl 7 rfl) ?_
        refine lv_iload hx hb dL_acts_110 (lv_at hl 8 rfl) ?_
        obtain ⟨M45, e_44, hf⟩ := vb_e hf
        refine c_Sv hx hb hml hown hts hV hM hS (As := [.ref a1, .ref a2, .ref a3, .ref a4, .int p5]) (rest := []) (k_L_packs G hG l a1 h1 a2 h2 a3 h3 a4 h4 p5 M e_44) w_L_packs (tk_647 hts) ⟨⟨rfl, rfl⟩, Nat.le_of_ble_eq_true rfl, Nat.le_of_ble_eq_true rfl⟩ ⟨Nat.zero_le _, Nat.zero_le _⟩ rfl hl.1 rfl (Nat.le_of_ble_eq_true rfl) dL_acts_112 (fun H locs hM hS => ?_)
        refine lv_aload_n hx hb dL_acts_115 rfl (lv_at hl 3 rfl) ?_
        refine lv_iload hx hb dL_acts_116 (lv_at hl 8 rfl) ?_
        obtain ⟨r47, M48, e_46, hf⟩ := zb_e hf
        refine c_Vi hx hb hml hown hts hV hK hM hS (As := [.int p5]) (rest := []) (k_X8_flush G hG l a0 h0 p5 M45 e_46) w_X8_flush (tk_650 hts) (c_9 h0) rfl rfl ⟨⟨rfl, rfl⟩, Nat.le_of_ble_eq_true rfl, Nat.le_of_ble_eq_true rfl⟩ ⟨Nat.zero_le _, Nat.zero_le _⟩ rfl hl.1 rfl (Nat.le_of_ble_eq_true rfl) dL_acts_118 (fun H locs hM hS => ?_)
        refine lv_iload hx hb dL_acts_121 (lv_at hl 0 rfl) ?_
        obtain ⟨h_49, hf⟩ := gd_e hf
        refine lv_icmp_ne (tgt := 130) hx hb dL_acts_123 (by decide) (fun g => absurd h_49 g) (fun _ => ?_)
        refine lv_iconst (v := 1) hx hb dL_acts_126 (by decide) ?_
        refine lv_goto (tgt := 131) hx hb dL_acts_127 (by decide) ?_
        exact ef_zm hx hb hr hlocks hM hS (nz_n (Or.inr rfl)) hf dL_acts_131
      · rw [if_pos g_41] at hf
        exact b75 y35 _ H locs ls hM hS (lv_sub hl [2, 3, 4, 5, 6, 7, 8, 9, 1] rfl) hf
  rw [if_neg g_38] at hf
  by_cases g_50 : p6 = 1
  · rw [if_pos g_50] at hf
    refine lv_tableIn (off := 114) (tgt := 132) hx hb dL_acts_18 (by rw [g_50]; decide) (by rw [g_50]; decide) (by rw [g_50]; rfl) (by decide) ?_
    refine lv_iload hx hb dL_acts_132 (lv_at hl 0 rfl) ?_
    refine lv_if_ne (tgt := 154) hx hb dL_acts_134 (by decide) (fun g_51 => ?_) (fun g_51 => ?_)
    · rw [if_neg g_51] at hf
      refine lv_aload hx hb dL_acts_154 (lv_at hl 6 rfl) ?_
      refine lv_iconst (v := 0) hx hb dL_acts_156 (by decide) ?_
      obtain ⟨h_52, hf⟩ := gd_e hf
      refine s_iald 64 hx hb hK hM h4 (by decide) h_52 dL_acts_157 ?_
      obtain ⟨y53, ey53, hf⟩ := nb_e hf
      refine s_nm ey53 ?_
      refine lv_istore (lv' := [(11, .int y53), (9, .int y37), (8, .int y35), (0, .ref a0), (1, .ref a1), (2, .ref a2), (3, .ref a3), (4, .ref a4), (5, .int p5), (6, .int p6), (7, .int p7)]) hx hb dL_acts_158 hl (by decide) rfl (fun ls hl => ?_)
      refine lv_aload_n hx hb dL_acts_160 rfl (lv_at hl 4 rfl) ?_
      refine lv_aload hx hb dL_acts_161 (lv_at hl 7 rfl) ?_
      refine lv_iload hx hb dL_acts_163 (lv_at hl 8 rfl) ?_
      obtain ⟨M55, e_54, hf⟩ := vb_e hf
      refine c_Sv hx hb hml hown hts hV hM hS (As := [.ref a1, .ref a4, .int p5]) (rest := []) (k_L_moves G hG l a1 h1 a4 h4 p5 M e_54) w_L_moves (tk_491 hts) ⟨⟨rfl, rfl⟩, Nat.le_of_ble_eq_true rfl, Nat.le_of_ble_eq_true rfl⟩ ⟨Nat.zero_le _, Nat.zero_le _⟩ rfl hl.1 rfl (Nat.le_of_ble_eq_true rfl) dL_acts_165 (fun H locs hM hS => ?_)
      refine lv_aload_n hx hb dL_acts_168 rfl (lv_at hl 5 rfl) ?_
      refine lv_iconst (v := 3) hx hb dL_acts_169 (by decide) ?_
      refine lv_iload hx hb dL_acts_170 (lv_at hl 8 rfl) ?_
      refine lv_iadd hx hb dL_acts_172 ?_
      refine lv_dup2_11 hx hb dL_acts_173 rfl rfl ?_
      obtain ⟨h_56, hf⟩ := gd_e hf
      refine s_iald 14 hx hb hK hM h2 (by decide) h_56 dL_acts_174 ?_
      refine lv_iconst (v := 1) hx hb dL_acts_175 (by decide) ?_
      refine lv_iadd hx hb dL_acts_176 ?_
      obtain ⟨h_57, hf⟩ := gd_e hf
      obtain ⟨M58, eM58, hf⟩ := nb_e hf
      refine s_iast 14 hx hb hK hM hS h2 (by decide) (ky_b hG h2) h_57 dL_acts_177 (fun H locs hM hS => ?_)
      rw [eM58] at hM
      refine lv_aload_n hx hb dL_acts_178 rfl (lv_at hl 3 rfl) ?_
      refine lv_iload hx hb dL_acts_179 (lv_at hl 8 rfl) ?_
      obtain ⟨r60, M61, e_59, hf⟩ := zb_e hf
      refine c_Vi hx hb hml hown hts hV hK hM hS (As := [.int p5]) (rest := []) (k_X8_lose G hG l a0 h0 p5 M58 e_59) w_X8_lose (tk_724 hts) (c_9 h0) rfl rfl ⟨⟨rfl, rfl⟩, Nat.le_of_ble_eq_true rfl, Nat.le_of_ble_eq_true rfl⟩ ⟨Nat.zero_le _, Nat.zero_le _⟩ rfl hl.1 rfl (Nat.le_of_ble_eq_true rfl) dL_acts_181 (fun H locs hM hS => ?_)
      refine lv_iload hx hb dL_acts_184 (lv_at hl 0 rfl) ?_
      obtain ⟨h_62, hf⟩ := gd_e hf
      refine lv_icmp_ne (tgt := 193) hx hb dL_acts_186 (by decide) (fun g => absurd h_62 g) (fun _ => ?_)
      refine lv_iconst (v := 1) hx hb dL_acts_189 (by decide) ?_
      refine lv_goto (tgt := 194) hx hb dL_acts_190 (by decide) ?_
      exact ef_zm hx hb hr hlocks hM hS (nz_n (Or.inr rfl)) hf dL_acts_194
    · rw [if_pos g_51] at hf
      refine lv_aload_n hx hb dL_acts_137 rfl (lv_at hl 2 rfl) ?_
      refine lv_iload hx hb dL_acts_138 (lv_at hl 7 rfl) ?_
      refine lv_bipush (v := 9) hx hb dL_acts_140 (by decide) ?_
      obtain ⟨r64, M65, e_63, hf⟩ := zb_e hf
      refine c_Vi hx hb hml hown hts hV hK hM hS (As := [.int p5, .int 9]) (rest := []) (k_X8_saying G hG l a0 h0 p5 9 M e_63) w_X8_saying (tk_302 hts) (c_9 h0) rfl rfl ⟨⟨rfl, rfl⟩, Nat.le_of_ble_eq_true rfl, Nat.le_of_ble_eq_true rfl⟩ ⟨Nat.zero_le _, Nat.zero_le _⟩ rfl hl.1 rfl (Nat.le_of_ble_eq_true rfl) dL_acts_142 (fun H locs hM hS => ?_)
      obtain ⟨h_66, hf⟩ := gd_e hf
      refine lv_if_ne (tgt := 152) hx hb dL_acts_145 (by decide) (fun g => absurd h_66 g) (fun _ => ?_)
      refine lv_iconst (v := 1) hx hb dL_acts_148 (by decide) ?_
      refine lv_goto (tgt := 153) hx hb dL_acts_149 (by decide) ?_
      exact ef_zm hx hb hr hlocks hM hS (nz_n (Or.inr rfl)) hf dL_acts_153
  rw [if_neg g_50] at hf
  by_cases g_67 : p6 = 2
  · rw [if_pos g_67] at hf
    refine lv_tableIn (off := 177) (tgt := 195) hx hb dL_acts_18 (by rw [g_67]; decide) (by rw [g_67]; decide) (by rw [g_67]; rfl) (by decide) ?_
    refine lv_iload hx hb dL_acts_195 (lv_at hl 0 rfl) ?_
    refine lv_iconst (v := 2) hx hb dL_acts_197 (by decide) ?_
    refine lv_icmp_ge (tgt := 219) hx hb dL_acts_198 (by decide) (fun g_68 => ?_) (fun g_68 => ?_)
    · rw [if_pos g_68] at hf
      refine lv_iconst (v := 0) hx hb dL_acts_219 (by decide) ?_
      refine lv_istore (lv' := [(12, .int 0), (9, .int y37), (8, .int y35), (0, .ref a0), (1, .ref a1), (2, .ref a2), (3, .ref a3), (4, .ref a4), (5, .int p5), (6, .int p6), (7, .int p7)]) hx hb dL_acts_220 hl (by decide) rfl (fun ls hl => ?_)
      exact b222 _ 0 _ H locs ls hM hS (lv_sub hl [3, 4, 5, 6, 7, 8, 9, 10, 0] rfl) hf
    · rw [if_neg g_68] at hf
      refine lv_aload_n hx hb dL_acts_201 rfl (lv_at hl 2 rfl) ?_
      refine lv_iload hx hb dL_acts_202 (lv_at hl 7 rfl) ?_
      refine lv_bipush (v := 9) hx hb dL_acts_204 (by decide) ?_
      obtain ⟨r70, M71, e_69, hf⟩ := zb_e hf
      refine c_Vi hx hb hml hown hts hV hK hM hS (As := [.int p5, .int 9]) (rest := []) (k_X8_saying G hG l a0 h0 p5 9 M e_69) w_X8_saying (tk_302 hts) (c_9 h0) rfl rfl ⟨⟨rfl, rfl⟩, Nat.le_of_ble_eq_true rfl, Nat.le_of_ble_eq_true rfl⟩ ⟨Nat.zero_le _, Nat.zero_le _⟩ rfl hl.1 rfl (Nat.le_of_ble_eq_true rfl) dL_acts_206 (fun H locs hM hS => ?_)
      refine lv_iconst (v := 2) hx hb dL_acts_209 (by decide) ?_
      obtain ⟨h_72, hf⟩ := gd_e hf
      refine lv_icmp_ge (tgt := 217) hx hb dL_acts_210 (by decide) (fun g => absurd g h_72) (fun _ => ?_)
      refine lv_iconst (v := 1) hx hb dL_acts_213 (by decide) ?_
      refine lv_goto (tgt := 218) hx hb dL_acts_214 (by decide) ?_
      exact ef_zm hx hb hr hlocks hM hS (nz_n (Or.inr rfl)) hf dL_acts_218
  rw [if_neg g_67] at hf
  by_cases g_73 : p6 = 3
  · rw [if_pos g_73] at hf
    refine lv_tableIn (off := 266) (tgt := 284) hx hb dL_acts_18 (by rw [g_73]; decide) (by rw [g_73]; decide) (by rw [g_73]; rfl) (by decide) ?_
    refine lv_iload hx hb dL_acts_284 (lv_at hl 9 rfl) ?_
    refine lv_iconst (v := 4) hx hb dL_acts_286 (by decide) ?_
    obtain ⟨r75, e_74, hf⟩ := vb_e hf
    refine c_Si hx hb hml hown hts hV hM hS (As := [.int p7, .int 4]) (rest := []) (k_L_low G hG l p7 4 M e_74) w_L_low (tk_295 hts) ⟨⟨rfl, rfl⟩, Nat.le_of_ble_eq_true rfl, Nat.le_of_ble_eq_true rfl⟩ ⟨Nat.zero_le _, Nat.zero_le _⟩ rfl hl.1 rfl (Nat.le_of_ble_eq_true rfl) dL_acts_287 (fun H locs hM hS => ?_)
    refine lv_istore (lv' := [(12, .int r75), (9, .int y37), (8, .int y35), (0, .ref a0), (1, .ref a1), (2, .ref a2), (3, .ref a3), (4, .ref a4), (5, .int p5), (6, .int p6), (7, .int p7)]) hx hb dL_acts_290 hl (by decide) rfl (fun ls hl => ?_)
    refine lv_aload_n hx hb dL_acts_292 rfl (lv_at hl 5 rfl) ?_
    refine lv_bipush (v := 9) hx hb dL_acts_293 (by decide) ?_
    refine lv_iload hx hb dL_acts_295 (lv_at hl 0 rfl) ?_
    refine lv_iadd hx hb dL_acts_297 ?_
    obtain ⟨h_76, hf⟩ := gd_e hf
    refine s_iald 14 hx hb hK hM h2 (by decide) h_76 dL_acts_298 ?_
    obtain ⟨y77, ey77, hf⟩ := nb_e hf
    refine s_nm ey77 ?_
    refine lv_istore (lv' := [(13, .int y77), (12, .int r75), (9, .int y37), (8, .int y35), (0, .ref a0), (1, .ref a1), (2, .ref a2), (3, .ref a3), (4, .ref a4), (5, .int p5), (6, .int p6), (7, .int p7)]) hx hb dL_acts_299 hl (by decide) rfl (fun ls hl => ?_)
    refine lv_aload_n hx hb dL_acts_301 rfl (lv_at hl 6 rfl) ?_
    refine lv_bipush (v := 9) hx hb dL_acts_302 (by decide) ?_
    refine lv_iload hx hb dL_acts_304 (lv_at hl 1 rfl) ?_
    refine lv_iadd hx hb dL_acts_306 ?_
    refine lv_iload hx hb dL_acts_307 (lv_at hl 1 rfl) ?_
    refine lv_if_ne (tgt := 325) hx hb dL_acts_309 (by decide) (fun g_78 => ?_) (fun g_78 => ?_)
    · rw [if_neg g_78] at hf
      refine lv_iload hx hb dL_acts_325 (lv_at hl 1 rfl) ?_
      refine lv_iconst (v := 1) hx hb dL_acts_327 (by decide) ?_
      refine lv_icmp_ne (tgt := 343) hx hb dL_acts_328 (by decide) (fun g_79 => ?_) (fun g_79 => ?_)
      · rw [if_neg g_79] at hf
        refine lv_iload hx hb dL_acts_343 (lv_at hl 1 rfl) ?_
        refine lv_iconst (v := 2) hx hb dL_acts_345 (by decide) ?_
        refine lv_icmp_ne (tgt := 363) hx hb dL_acts_346 (by decide) (fun g_80 => ?_) (fun g_80 => ?_)
        · rw [if_neg g_80] at hf
          refine lv_iconst (v := 1) hx hb dL_acts_363 (by decide) ?_
          refine lv_iload hx hb dL_acts_364 (lv_at hl 11 rfl) ?_
          refine lv_iconst (v := 2) hx hb dL_acts_366 (by decide) ?_
          refine lv_ishr hx hb dL_acts_367 ?_
          refine lv_bipush (v := 9) hx hb dL_acts_368 (by decide) ?_
          obtain ⟨r82, e_81, hf⟩ := vb_e hf
          refine c_Si hx hb hml hown hts hV hM hS (As := [.int (p7 >>> ((2 : Int32) &&& 31)), .int 9]) (rest := [.int 1, .int ((9 : Int32) + r75), .ref a2]) (k_L_low G hG l (p7 >>> ((2 : Int32) &&& 31)) 9 M e_81) w_L_low (tk_295 hts) ⟨⟨rfl, rfl⟩, Nat.le_of_ble_eq_true rfl, Nat.le_of_ble_eq_true rfl⟩ ⟨Nat.zero_le _, Nat.zero_le _⟩ rfl hl.1 rfl (Nat.le_of_ble_eq_true rfl) dL_acts_370 (fun H locs hM hS => ?_)
          refine lv_iadd hx hb dL_acts_373 ?_
          exact b374 r75 y77 ((1 : Int32) + r82) ((9 : Int32) + r75) a2 _ H locs ls h2 hM hS (lv_sub hl [4, 5, 6, 7, 8, 9, 10, 11, 1, 0] rfl) hf
        · rw [if_pos g_80] at hf
          refine lv_iconst (v := 1) hx hb dL_acts_349 (by decide) ?_
          refine lv_iload hx hb dL_acts_350 (lv_at hl 11 rfl) ?_
          refine lv_iconst (v := 2) hx hb dL_acts_352 (by decide) ?_
          refine lv_ishr hx hb dL_acts_353 ?_
          refine lv_bipush (v := 8) hx hb dL_acts_354 (by decide) ?_
          obtain ⟨r84, e_83, hf⟩ := vb_e hf
          refine c_Si hx hb hml hown hts hV hM hS (As := [.int (p7 >>> ((2 : Int32) &&& 31)), .int 8]) (rest := [.int 1, .int ((9 : Int32) + r75), .ref a2]) (k_L_low G hG l (p7 >>> ((2 : Int32) &&& 31)) 8 M e_83) w_L_low (tk_295 hts) ⟨⟨rfl, rfl⟩, Nat.le_of_ble_eq_true rfl, Nat.le_of_ble_eq_true rfl⟩ ⟨Nat.zero_le _, Nat.zero_le _⟩ rfl hl.1 rfl (Nat.le_of_ble_eq_true rfl) dL_acts_356 (fun H locs hM hS => ?_)
          refine lv_iadd hx hb dL_acts_359 ?_
          refine lv_goto (tgt := 374) hx hb dL_acts_360 (by decide) ?_
          exact b374 r75 y77 ((1 : Int32) + r84) ((9 : Int32) + r75) a2 _ H locs ls h2 hM hS (lv_sub hl [4, 5, 6, 7, 8, 9, 10, 11, 1, 0] rfl) hf
      · rw [if_pos g_79] at hf
        refine lv_iload hx hb dL_acts_331 (lv_at hl 11 rfl) ?_
        refine lv_iconst (v := 2) hx hb dL_acts_333 (by decide) ?_
        refine lv_ishr hx hb dL_acts_334 ?_
        refine lv_bipush (v := 100) hx hb dL_acts_335 (by decide) ?_
        obtain ⟨r86, e_85, hf⟩ := vb_e hf
        refine c_Si hx hb hml hown hts hV hM hS (As := [.int (p7 >>> ((2 : Int32) &&& 31)), .int 100]) (rest := [.int ((9 : Int32) + r75), .ref a2]) (k_L_low G hG l (p7 >>> ((2 : Int32) &&& 31)) 100 M e_85) w_L_low (tk_295 hts) ⟨⟨rfl, rfl⟩, Nat.le_of_ble_eq_true rfl, Nat.le_of_ble_eq_true rfl⟩ ⟨Nat.zero_le _, Nat.zero_le _⟩ rfl hl.1 rfl (Nat.le_of_ble_eq_true rfl) dL_acts_337 (fun H locs hM hS => ?_)
        refine lv_goto (tgt := 374) hx hb dL_acts_340 (by decide) ?_
        exact b374 r75 y77 r86 ((9 : Int32) + r75) a2 _ H locs ls h2 hM hS (lv_sub hl [4, 5, 6, 7, 8, 9, 10, 11, 1, 0] rfl) hf
    · rw [if_pos g_78] at hf
      refine lv_iconst (v := 1) hx hb dL_acts_312 (by decide) ?_
      refine lv_iload hx hb dL_acts_313 (lv_at hl 11 rfl) ?_
      refine lv_iconst (v := 2) hx hb dL_acts_315 (by decide) ?_
      refine lv_ishr hx hb dL_acts_316 ?_
      refine lv_iconst (v := 4) hx hb dL_acts_317 (by decide) ?_
      obtain ⟨r88, e_87, hf⟩ := vb_e hf
      refine c_Si hx hb hml hown hts hV hM hS (As := [.int (p7 >>> ((2 : Int32) &&& 31)), .int 4]) (rest := [.int 1, .int ((9 : Int32) + r75), .ref a2]) (k_L_low G hG l (p7 >>> ((2 : Int32) &&& 31)) 4 M e_87) w_L_low (tk_295 hts) ⟨⟨rfl, rfl⟩, Nat.le_of_ble_eq_true rfl, Nat.le_of_ble_eq_true rfl⟩ ⟨Nat.zero_le _, Nat.zero_le _⟩ rfl hl.1 rfl (Nat.le_of_ble_eq_true rfl) dL_acts_318 (fun H locs hM hS => ?_)
      refine lv_iadd hx hb dL_acts_321 ?_
      refine lv_goto (tgt := 374) hx hb dL_acts_322 (by decide) ?_
      exact b374 r75 y77 ((1 : Int32) + r88) ((9 : Int32) + r75) a2 _ H locs ls h2 hM hS (lv_sub hl [4, 5, 6, 7, 8, 9, 10, 11, 1, 0] rfl) hf
  rw [if_neg g_73] at hf
  by_cases g_89 : p6 = 4
  · rw [if_pos g_89] at hf
    refine lv_tableIn (off := 381) (tgt := 399) hx hb dL_acts_18 (by rw [g_89]; decide) (by rw [g_89]; decide) (by rw [g_89]; rfl) (by decide) ?_
    refine lv_iload hx hb dL_acts_399 (lv_at hl 0 rfl) ?_
    refine lv_if_eq (tgt := 422) hx hb dL_acts_401 (by decide) (fun g_90 => ?_) (fun g_90 => ?_)
    · rw [if_pos g_90] at hf
      refine lv_iconst (v := 1) hx hb dL_acts_422 (by decide) ?_
      refine lv_goto (tgt := 427) hx hb dL_acts_423 (by decide) ?_
      exact ef_zm hx hb hr hlocks hM hS (nz_n (Or.inr rfl)) hf dL_acts_427
    · rw [if_neg g_90] at hf
      refine lv_aload_n hx hb dL_acts_404 rfl (lv_at hl 2 rfl) ?_
      refine lv_iload hx hb dL_acts_405 (lv_at hl 7 rfl) ?_
      obtain ⟨r92, M93, e_91, hf⟩ := zb_e hf
      refine c_Vi hx hb hml hown hts hV hK hM hS (As := [.int p5]) (rest := []) (k_X8_deliver G hG l a0 h0 p5 M e_91) w_X8_deliver (tk_764 hts) (c_9 h0) rfl rfl ⟨⟨rfl, rfl⟩, Nat.le_of_ble_eq_true rfl, Nat.le_of_ble_eq_true rfl⟩ ⟨Nat.zero_le _, Nat.zero_le _⟩ rfl hl.1 rfl (Nat.le_of_ble_eq_true rfl) dL_acts_407 (fun H locs hM hS => ?_)
      refine lv_aload_n hx hb dL_acts_410 rfl (lv_at hl 3 rfl) ?_
      refine lv_aload_n hx hb dL_acts_411 rfl (lv_at hl 4 rfl) ?_
      refine lv_aload hx hb dL_acts_412 (lv_at hl 6 rfl) ?_
      refine lv_iload hx hb dL_acts_414 (lv_at hl 7 rfl) ?_
      obtain ⟨r95, M96, e_94, hf⟩ := cb_e hf
      refine c_Si hx hb hml hown hts hV hM hS (As := [.ref a1, .ref a2, .ref a4, .int p5]) (rest := [.int r92]) (k_L_comes G hG l a1 h1 a2 h2 a4 h4 p5 M93 e_94) w_L_comes (tk_488 hts) ⟨⟨rfl, rfl⟩, Nat.le_of_ble_eq_true rfl, Nat.le_of_ble_eq_true rfl⟩ ⟨Nat.zero_le _, Nat.zero_le _⟩ rfl hl.1 rfl (Nat.le_of_ble_eq_true rfl) dL_acts_416 (fun H locs hM hS => ?_)
      obtain ⟨h_97, hf⟩ := gd_e hf
      refine lv_icmp_ne (tgt := 426) hx hb dL_acts_419 (by decide) (fun g => absurd h_97 g) (fun _ => ?_)
      refine lv_iconst (v := 1) hx hb dL_acts_422 (by decide) ?_
      refine lv_goto (tgt := 427) hx hb dL_acts_423 (by decide) ?_
      exact ef_zm hx hb hr hlocks hM hS (nz_n (Or.inr rfl)) hf dL_acts_427
  rw [if_neg g_89] at hf
  by_cases g_98 : p6 = 5
  · rw [if_pos g_98] at hf
    refine lv_tableIn (off := 381) (tgt := 399) hx hb dL_acts_18 (by rw [g_98]; decide) (by rw [g_98]; decide) (by rw [g_98]; rfl) (by decide) ?_
    refine lv_iload hx hb dL_acts_399 (lv_at hl 0 rfl) ?_
    refine lv_if_eq (tgt := 422) hx hb dL_acts_401 (by decide) (fun g_99 => ?_) (fun g_99 => ?_)
    · rw [if_pos g_99] at hf
      refine lv_iconst (v := 1) hx hb dL_acts_422 (by decide) ?_
      refine lv_goto (tgt := 427) hx hb dL_acts_423 (by decide) ?_
      exact ef_zm hx hb hr hlocks hM hS (nz_n (Or.inr rfl)) hf dL_acts_427
    · rw [if_neg g_99] at hf
      refine lv_aload_n hx hb dL_acts_404 rfl (lv_at hl 2 rfl) ?_
      refine lv_iload hx hb dL_acts_405 (lv_at hl 7 rfl) ?_
      obtain ⟨r101, M102, e_100, hf⟩ := zb_e hf
      refine c_Vi hx hb hml hown hts hV hK hM hS (As := [.int p5]) (rest := []) (k_X8_deliver G hG l a0 h0 p5 M e_100) w_X8_deliver (tk_764 hts) (c_9 h0) rfl rfl ⟨⟨rfl, rfl⟩, Nat.le_of_ble_eq_true rfl, Nat.le_of_ble_eq_true rfl⟩ ⟨Nat.zero_le _, Nat.zero_le _⟩ rfl hl.1 rfl (Nat.le_of_ble_eq_true rfl) dL_acts_407 (fun H locs hM hS => ?_)
      refine lv_aload_n hx hb dL_acts_410 rfl (lv_at hl 3 rfl) ?_
      refine lv_aload_n hx hb dL_acts_411 rfl (lv_at hl 4 rfl) ?_
      refine lv_aload hx hb dL_acts_412 (lv_at hl 6 rfl) ?_
      refine lv_iload hx hb dL_acts_414 (lv_at hl 7 rfl) ?_
      obtain ⟨r104, M105, e_103, hf⟩ := cb_e hf
      refine c_Si hx hb hml hown hts hV hM hS (As := [.ref a1, .ref a2, .ref a4, .int p5]) (rest := [.int r101]) (k_L_comes G hG l a1 h1 a2 h2 a4 h4 p5 M102 e_103) w_L_comes (tk_488 hts) ⟨⟨rfl, rfl⟩, Nat.le_of_ble_eq_true rfl, Nat.le_of_ble_eq_true rfl⟩ ⟨Nat.zero_le _, Nat.zero_le _⟩ rfl hl.1 rfl (Nat.le_of_ble_eq_true rfl) dL_acts_416 (fun H locs hM hS => ?_)
      obtain ⟨h_106, hf⟩ := gd_e hf
      refine lv_icmp_ne (tgt := 426) hx hb dL_acts_419 (by decide) (fun g => absurd h_106 g) (fun _ => ?_)
      refine lv_iconst (v := 1) hx hb dL_acts_422 (by decide) ?_
      refine lv_goto (tgt := 427) hx hb dL_acts_423 (by decide) ?_
      exact ef_zm hx hb hr hlocks hM hS (nz_n (Or.inr rfl)) hf dL_acts_427
  rw [if_neg g_98] at hf
  by_cases g_107 : p6 = 6
  · rw [if_pos g_107] at hf
    refine lv_tableIn (off := 381) (tgt := 399) hx hb dL_acts_18 (by rw [g_107]; decide) (by rw [g_107]; decide) (by rw [g_107]; rfl) (by decide) ?_
    refine lv_iload hx hb dL_acts_399 (lv_at hl 0 rfl) ?_
    refine lv_if_eq (tgt := 422) hx hb dL_acts_401 (by decide) (fun g_108 => ?_) (fun g_108 => ?_)
    · rw [if_pos g_108] at hf
      refine lv_iconst (v := 1) hx hb dL_acts_422 (by decide) ?_
      refine lv_goto (tgt := 427) hx hb dL_acts_423 (by decide) ?_
      exact ef_zm hx hb hr hlocks hM hS (nz_n (Or.inr rfl)) hf dL_acts_427
    · rw [if_neg g_108] at hf
      refine lv_aload_n hx hb dL_acts_404 rfl (lv_at hl 2 rfl) ?_
      refine lv_iload hx hb dL_acts_405 (lv_at hl 7 rfl) ?_
      obtain ⟨r110, M111, e_109, hf⟩ := zb_e hf
      refine c_Vi hx hb hml hown hts hV hK hM hS (As := [.int p5]) (rest := []) (k_X8_deliver G hG l a0 h0 p5 M e_109) w_X8_deliver (tk_764 hts) (c_9 h0) rfl rfl ⟨⟨rfl, rfl⟩, Nat.le_of_ble_eq_true rfl, Nat.le_of_ble_eq_true rfl⟩ ⟨Nat.zero_le _, Nat.zero_le _⟩ rfl hl.1 rfl (Nat.le_of_ble_eq_true rfl) dL_acts_407 (fun H locs hM hS => ?_)
      refine lv_aload_n hx hb dL_acts_410 rfl (lv_at hl 3 rfl) ?_
      refine lv_aload_n hx hb dL_acts_411 rfl (lv_at hl 4 rfl) ?_
      refine lv_aload hx hb dL_acts_412 (lv_at hl 6 rfl) ?_
      refine lv_iload hx hb dL_acts_414 (lv_at hl 7 rfl) ?_
      obtain ⟨r113, M114, e_112, hf⟩ := cb_e hf
      refine c_Si hx hb hml hown hts hV hM hS (As := [.ref a1, .ref a2, .ref a4, .int p5]) (rest := [.int r110]) (k_L_comes G hG l a1 h1 a2 h2 a4 h4 p5 M111 e_112) w_L_comes (tk_488 hts) ⟨⟨rfl, rfl⟩, Nat.le_of_ble_eq_true rfl, Nat.le_of_ble_eq_true rfl⟩ ⟨Nat.zero_le _, Nat.zero_le _⟩ rfl hl.1 rfl (Nat.le_of_ble_eq_true rfl) dL_acts_416 (fun H locs hM hS => ?_)
      obtain ⟨h_115, hf⟩ := gd_e hf
      refine lv_icmp_ne (tgt := 426) hx hb dL_acts_419 (by decide) (fun g => absurd h_115 g) (fun _ => ?_)
      refine lv_iconst (v := 1) hx hb dL_acts_422 (by decide) ?_
      refine lv_goto (tgt := 427) hx hb dL_acts_423 (by decide) ?_
      exact ef_zm hx hb hr hlocks hM hS (nz_n (Or.inr rfl)) hf dL_acts_427
  rw [if_neg g_107] at hf
  have tg_38 := lv_neT g_38 (show (0 : Int32).toInt = 0 from by decide)
  have tg_50 := lv_neT g_50 (show (1 : Int32).toInt = 1 from by decide)
  have tg_67 := lv_neT g_67 (show (2 : Int32).toInt = 2 from by decide)
  have tg_73 := lv_neT g_73 (show (3 : Int32).toInt = 3 from by decide)
  have tg_89 := lv_neT g_89 (show (4 : Int32).toInt = 4 from by decide)
  have tg_98 := lv_neT g_98 (show (5 : Int32).toInt = 5 from by decide)
  have tg_107 := lv_neT g_107 (show (6 : Int32).toInt = 6 from by decide)
  refine lv_tableOut (tgt := 428) hx hb dL_acts_18 (by omega) (by decide) ?_
  refine lv_iload hx hb dL_acts_428 (lv_at hl 9 rfl) ?_
  refine lv_iconst (v := 3) hx hb dL_acts_430 (by decide) ?_
  refine lv_ishr hx hb dL_acts_431 ?_
  refine lv_iconst (v := 3) hx hb dL_acts_432 (by decide) ?_
  obtain ⟨r117, e_116, hf⟩ := vb_e hf
  refine c_Si hx hb hml hown hts hV hM hS (As := [.int (p7 >>> ((3 : Int32) &&& 31)), .int 3]) (rest := []) (k_L_low G hG l (p7 >>> ((3 : Int32) &&& 31)) 3 M e_116) w_L_low (tk_295 hts) ⟨⟨rfl, rfl⟩, Nat.le_of_ble_eq_true rfl, Nat.le_of_ble_eq_true rfl⟩ ⟨Nat.zero_le _, Nat.zero_le _⟩ rfl hl.1 rfl (Nat.le_of_ble_eq_true rfl) dL_acts_433 (fun H locs hM hS => ?_)
  refine lv_if_ne (tgt := 456) hx hb dL_acts_436 (by decide) (fun g_118 => ?_) (fun g_118 => ?_)
  · rw [if_neg g_118] at hf
    refine lv_iload hx hb dL_acts_456 (lv_at hl 9 rfl) ?_
    refine lv_iconst (v := 5) hx hb dL_acts_458 (by decide) ?_
    refine lv_ishr hx hb dL_acts_459 ?_
    refine lv_sipush (v := 300) hx hb dL_acts_460 (by decide) ?_
    obtain ⟨r120, e_119, hf⟩ := vb_e hf
    refine c_Si hx hb hml hown hts hV hM hS (As := [.int (p7 >>> ((5 : Int32) &&& 31)), .int 300]) (rest := []) (k_L_low G hG l (p7 >>> ((5 : Int32) &&& 31)) 300 M e_119) w_L_low (tk_295 hts) ⟨⟨rfl, rfl⟩, Nat.le_of_ble_eq_true rfl, Nat.le_of_ble_eq_true rfl⟩ ⟨Nat.zero_le _, Nat.zero_le _⟩ rfl hl.1 rfl (Nat.le_of_ble_eq_true rfl) dL_acts_463 (fun H locs hM hS => ?_)
    refine lv_sipush (v := 150) hx hb dL_acts_466 (by decide) ?_
    refine lv_isub hx hb dL_acts_469 ?_
    exact b470 y37 (r120 - 150) _ H locs ls hM hS (lv_sub hl [2, 3, 4, 5, 6, 7, 8, 9, 0] rfl) hf
  · rw [if_pos g_118] at hf
    refine lv_iload hx hb dL_acts_439 (lv_at hl 9 rfl) ?_
    refine lv_iconst (v := 5) hx hb dL_acts_441 (by decide) ?_
    refine lv_ishr hx hb dL_acts_442 ?_
    refine lv_sipush (v := 4001) hx hb dL_acts_443 (by decide) ?_
    obtain ⟨r122, e_121, hf⟩ := vb_e hf
    refine c_Si hx hb hml hown hts hV hM hS (As := [.int (p7 >>> ((5 : Int32) &&& 31)), .int 4001]) (rest := []) (k_L_low G hG l (p7 >>> ((5 : Int32) &&& 31)) 4001 M e_121) w_L_low (tk_295 hts) ⟨⟨rfl, rfl⟩, Nat.le_of_ble_eq_true rfl, Nat.le_of_ble_eq_true rfl⟩ ⟨Nat.zero_le _, Nat.zero_le _⟩ rfl hl.1 rfl (Nat.le_of_ble_eq_true rfl) dL_acts_446 (fun H locs hM hS => ?_)
    refine lv_sipush (v := 2000) hx hb dL_acts_449 (by decide) ?_
    refine lv_isub hx hb dL_acts_452 ?_
    refine lv_goto (tgt := 470) hx hb dL_acts_453 (by decide) ?_
    exact b470 y37 (r122 - 2000) _ H locs ls hM hS (lv_sub hl [2, 3, 4, 5, 6, 7, 8, 9, 0] rfl) hf
