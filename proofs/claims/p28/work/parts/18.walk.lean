def f_L_says_b164 (a0 : Nat) (a1 : Nat) (a2 : Nat) (a3 : Nat) (p4 : Int32) (p5 : Int32) (x6 : Int32) (x7 : Int32) (M : Mem) : Option (Int32 × Mem) := gd (ix x6 60) <| gd (ix (x6 + 1) 60) <| vb (f_L_code x7 (mI M a0 x6.toNatClampNeg) (mI M a0 (x6 + 1).toNatClampNeg) M) fun r4 => gd (ix (x6 + 4) 60) <| gd (ix (((8 : Int32) * p4) + (mI M a0 (x6 + 4).toNatClampNeg)) 24) <| nb (sI M a2 (((8 : Int32) * p4) + (mI M a0 (x6 + 4).toNatClampNeg)).toNatClampNeg ((((65536 : Int32) * r4) + x7) + 2000)) fun M7 => gd (ix (x6 + 4) 60) <| gd (ix (x6 + 4) 60) <| nb (sI M7 a0 (x6 + 4).toNatClampNeg ((mI M7 a0 (x6 + 4).toNatClampNeg) + 1)) fun M10 => gd (ix (x6 + 6) 60) <| gd (ix (x6 + 6) 60) <| nb (sI M10 a0 (x6 + 6).toNatClampNeg ((mI M10 a0 (x6 + 6).toNatClampNeg) + 1)) fun M13 => vb (f_L_follows 60 a0 x6 r4 M13) fun M15 => gd (ix (x6 + 4) 60) <| gd (ix (11 : Int32) 14) <| if (mI M15 a0 (x6 + 4).toNatClampNeg) < (mI M15 a1 (11 : Int32).toNatClampNeg) then (some (r4, M15)) else (vb (f_L_packs a0 a1 a2 a3 p4 M15) fun M20 => some (r4, M20))
def f_L_says_b115 (a0 : Nat) (a1 : Nat) (a2 : Nat) (a3 : Nat) (p4 : Int32) (p5 : Int32) (x6 : Int32) (xs0 : Int32) (M : Mem) : Option (Int32 × Mem) := gd (ix (x6 + 2) 60) <| nb (sI M a0 (x6 + 2).toNatClampNeg 0) fun M22 => gd (ix (x6 + 3) 60) <| nb (sI M22 a0 (x6 + 3).toNatClampNeg 0) fun M24 => gd (ix (x6 + 4) 60) <| if (mI M24 a0 (x6 + 4).toNatClampNeg) = 0 then (gd (ix x6 60) <| gd (ix (x6 + 8) 60) <| nb (sI M24 a0 (x6 + 8).toNatClampNeg (mI M24 a0 x6.toNatClampNeg)) fun M29 => gd (ix (x6 + 1) 60) <| gd (ix (x6 + 9) 60) <| nb (sI M29 a0 (x6 + 9).toNatClampNeg (mI M29 a0 (x6 + 1).toNatClampNeg)) fun M32 => f_L_says_b164 a0 a1 a2 a3 p4 p5 x6 xs0 M32) else (f_L_says_b164 a0 a1 a2 a3 p4 p5 x6 xs0 M24)
def f_L_says_b113 (a0 : Nat) (a1 : Nat) (a2 : Nat) (a3 : Nat) (p4 : Int32) (p5 : Int32) (x6 : Int32) (x7 : Int32) (M : Mem) : Option (Int32 × Mem) := f_L_says_b115 a0 a1 a2 a3 p4 p5 x6 x7 M
def f_L_says (a0 : Nat) (a1 : Nat) (a2 : Nat) (a3 : Nat) (p4 : Int32) (p5 : Int32) (M : Mem) : Option (Int32 × Mem) := nb ((20 : Int32) * p4) fun y33 => gd (ix (y33 + 2) 60) <| gd (ix (y33 + 2) 60) <| nb (sI M a0 (y33 + 2).toNatClampNeg ((mI M a0 (y33 + 2).toNatClampNeg) + 1)) fun M36 => gd (ix (y33 + 3) 60) <| gd (ix (y33 + 3) 60) <| nb (sI M36 a0 (y33 + 3).toNatClampNeg ((mI M36 a0 (y33 + 3).toNatClampNeg) + p5)) fun M39 => gd (ix (13 : Int32) 14) <| gd (ix (13 : Int32) 14) <| nb (sI M39 a1 (13 : Int32).toNatClampNeg ((mI M39 a1 (13 : Int32).toNatClampNeg) + 1)) fun M42 => gd (ix (y33 + 2) 60) <| gd (ix (9 : Int32) 14) <| if (mI M42 a1 (9 : Int32).toNatClampNeg) ≤ (mI M42 a0 (y33 + 2).toNatClampNeg) then (gd (ix (y33 + 3) 60) <| gd (ix (y33 + 2) 60) <| gd (¬ (mI M42 a0 (y33 + 2).toNatClampNeg) = 0) <| nb ((mI M42 a0 (y33 + 3).toNatClampNeg) / (mI M42 a0 (y33 + 2).toNatClampNeg)) fun y49 => gd (ix (10 : Int32) 14) <| if (mI M42 a1 (10 : Int32).toNatClampNeg) ≤ y49 then (f_L_says_b113 a0 a1 a2 a3 p4 p5 y33 y49 M42) else (gd (ix (10 : Int32) 14) <| if (mI M42 a1 (10 : Int32).toNatClampNeg) ≤ (-y49) then (f_L_says_b113 a0 a1 a2 a3 p4 p5 y33 y49 M42) else (f_L_says_b115 a0 a1 a2 a3 p4 p5 y33 0 M42))) else (gd (ix (y33 + 4) 60) <| gd (ix (11 : Int32) 14) <| if (mI M42 a0 (y33 + 4).toNatClampNeg) < (mI M42 a1 (11 : Int32).toNatClampNeg) then (some ((-10000), M42)) else (vb (f_L_packs a0 a1 a2 a3 p4 M42) fun M58 => some ((-10000), M58)))
set_option maxHeartbeats 4000000 in
set_option maxRecDepth 100000 in
theorem k_L_says (G : Gt) (hG : gOK G) (l : Launch) (a0 : Nat) (h0 : gK G a0 = 1060) (a1 : Nat) (h1 : gK G a1 = 1014) (a2 : Nat) (h2 : gK G a2 = 1024) (a3 : Nat) (h3 : gK G a3 = 1064) (p4 : Int32) (p5 : Int32) (M : Mem) {r : Int32} {M' : Mem} (hf : f_L_says a0 a1 a2 a3 p4 p5 M = some (r, M')) : Kc G l yL_says cL_says 9 (some .int) ({ frames := 3, cells := 0, slots := 0, locals := 70 } : Room) [.ref a0, .ref a1, .ref a2, .ref a3, .int p4, .int p5] M (some (.int r)) M' := by
  refine start (by decide) (Nat.le_of_ble_eq_true rfl) ?_
  intro p e s m args below meth c ls hx hb hr hown hml hlocks hts hV hM hl
  have hown : s.vm.findClass "FoldedVoicesLaw" = some m.cls := hown
  have hK := hG.1.moved hV
  have hS : va_S (gA G) s.heap s.heap [] := va_S.rf
  have hl : lv_has ls 9 [(0, .ref a0), (1, .ref a1), (2, .ref a2), (3, .ref a3), (4, .int p4), (5, .int p5)] := hl
  have hM0 := hM
  have b164 : ∀ (x6 : Int32) (x7 : Int32) (M : Mem) (H : Heap) (locs : List Loc) (ls : Array Slot), Mh G M H → va_S (gA G) s.heap H locs → lv_has ls 9 [(0, .ref a0), (1, .ref a1), (2, .ref a2), (3, .ref a3), (4, .int p4), (5, .int p5), (6, .int x6), (7, .int x7)] → f_L_says_b164 a0 a1 a2 a3 p4 p5 x6 x7 M = some (r, M') → W p l e ({ frames := 3, cells := 0, slots := 0, locals := 70 } : Room) s m args below meth c H locs 0 0 (MQ below (QV G (some (.int r)) M') args s 0 0 (gA G)) (F0 m 164 ls []) := by
    intro x6 x7 M H locs ls hM hS hl hf
    rw [f_L_says_b164] at hf
    refine lv_iload hx hb dL_says_164 (lv_at hl 7 rfl) ?_
    refine lv_aload_n hx hb dL_says_166 rfl (lv_at hl 0 rfl) ?_
    refine lv_iload hx hb dL_says_167 (lv_at hl 6 rfl) ?_
    obtain ⟨h_1, hf⟩ := gd_e hf
    refine s_iald 60 hx hb hK hM h0 (by decide) h_1 dL_says_169 ?_
    refine lv_aload_n hx hb dL_says_170 rfl (lv_at hl 0 rfl) ?_
    refine lv_iload hx hb dL_says_171 (lv_at hl 6 rfl) ?_
    refine lv_iconst (v := 1) hx hb dL_says_173 (by decide) ?_
    refine lv_iadd hx hb dL_says_174 ?_
    obtain ⟨h_2, hf⟩ := gd_e hf
    refine s_iald 60 hx hb hK hM h0 (by decide) h_2 dL_says_175 ?_
    obtain ⟨r4, e_3, hf⟩ := vb_e hf
    refine c_Si hx hb hml hown hts hV hM hS (As := [.int x7, .int (mI M a0 x6.toNatClampNeg), .int (mI M a0 (x6 + 1).toNatClampNeg)]) (rest := []) (k_L_code G hG l x7 (mI M a0 x6.toNatClampNeg) (mI M a0 (x6 + 1).toNatClampNeg) M e_3) w_L_code (tk_609 hts) ⟨⟨rfl, rfl⟩, Nat.le_of_ble_eq_true rfl, Nat.le_of_ble_eq_true rfl⟩ ⟨Nat.zero_le _, Nat.zero_le _⟩ rfl hl.1 rfl (Nat.le_of_ble_eq_true rfl) dL_says_176 (fun H locs hM hS => ?_)
    refine lv_istore (lv' := [(8, .int r4), (0, .ref a0), (1, .ref a1), (2, .ref a2), (3, .ref a3), (4, .int p4), (5, .int p5), (6, .int x6), (7, .int x7)]) hx hb dL_says_179 hl (by decide) rfl (fun ls hl => ?_)
    refine lv_aload_n hx hb dL_says_181 rfl (lv_at hl 3 rfl) ?_
    refine lv_bipush (v := 8) hx hb dL_says_182 (by decide) ?_
    refine lv_iload hx hb dL_says_184 (lv_at hl 5 rfl) ?_
    refine lv_imul hx hb dL_says_186 ?_
    refine lv_aload_n hx hb dL_says_187 rfl (lv_at hl 1 rfl) ?_
    refine lv_iload hx hb dL_says_188 (lv_at hl 7 rfl) ?_
    refine lv_iconst (v := 4) hx hb dL_says_190 (by decide) ?_
    refine lv_iadd hx hb dL_says_191 ?_
    obtain ⟨h_5, hf⟩ := gd_e hf
    refine s_iald 60 hx hb hK hM h0 (by decide) h_5 dL_says_192 ?_
    refine lv_iadd hx hb dL_says_193 ?_
    refine lv_ldc hx hb hown (tk_455 hts) dL_says_194 ?_
    refine lv_iload hx hb dL_says_196 (lv_at hl 0 rfl) ?_
    refine lv_imul hx hb dL_says_198 ?_
    refine lv_iload hx hb dL_says_199 (lv_at hl 8 rfl) ?_
    refine lv_iadd hx hb dL_says_201 ?_
    refine lv_sipush (v := 2000) hx hb dL_says_202 (by decide) ?_
    refine lv_iadd hx hb dL_says_205 ?_
    obtain ⟨h_6, hf⟩ := gd_e hf
    obtain ⟨M7, eM7, hf⟩ := nb_e hf
    refine s_iast 24 hx hb hK hM hS h2 (by decide) (ky_b hG h2) h_6 dL_says_206 (fun H locs hM hS => ?_)
    rw [eM7] at hM
    refine lv_aload_n hx hb dL_says_207 rfl (lv_at hl 1 rfl) ?_
    refine lv_iload hx hb dL_says_208 (lv_at hl 7 rfl) ?_
    refine lv_iconst (v := 4) hx hb dL_says_210 (by decide) ?_
    refine lv_iadd hx hb dL_says_211 ?_
    refine lv_dup2_11 hx hb dL_says_212 rfl rfl ?_
    obtain ⟨h_8, hf⟩ := gd_e hf
    refine s_iald 60 hx hb hK hM h0 (by decide) h_8 dL_says_213 ?_
    refine lv_iconst (v := 1) hx hb dL_says_214 (by decide) ?_
    refine lv_iadd hx hb dL_says_215 ?_
    obtain ⟨h_9, hf⟩ := gd_e hf
    obtain ⟨M10, eM10, hf⟩ := nb_e hf
    refine s_iast 60 hx hb hK hM hS h0 (by decide) (ky_b hG h0) h_9 dL_says_216 (fun H locs hM hS => ?_)
    rw [eM10] at hM
    refine lv_aload_n hx hb dL_says_217 rfl (lv_at hl 1 rfl) ?_
    refine lv_iload hx hb dL_says_218 (lv_at hl 7 rfl) ?_
    refine lv_bipush (v := 6) hx hb dL_says_220 (by decide) ?_
    refine lv_iadd hx hb dL_says_222 ?_
    refine lv_dup2_11 hx hb dL_says_223 rfl rfl ?_
    obtain ⟨h_11, hf⟩ := gd_e hf
    refine s_iald 60 hx hb hK hM h0 (by decide) h_11 dL_says_224 ?_
    refine lv_iconst (v := 1) hx hb dL_says_225 (by decide) ?_
    refine lv_iadd hx hb dL_says_226 ?_
    obtain ⟨h_12, hf⟩ := gd_e hf
    obtain ⟨M13, eM13, hf⟩ := nb_e hf
    refine s_iast 60 hx hb hK hM hS h0 (by decide) (ky_b hG h0) h_12 dL_says_227 (fun H locs hM hS => ?_)
    rw [eM13] at hM
    refine lv_aload_n hx hb dL_says_228 rfl (lv_at hl 1 rfl) ?_
    refine lv_iload hx hb dL_says_229 (lv_at hl 7 rfl) ?_
    refine lv_iload hx hb dL_says_231 (lv_at hl 0 rfl) ?_
    obtain ⟨M15, e_14, hf⟩ := vb_e hf
    refine c_Sv hx hb hml hown hts hV hM hS (As := [.ref a0, .int x6, .int r4]) (rest := []) (k_L_follows G hG l 60 (by decide) a0 h0 x6 r4 M13 e_14) w_L_follows (tk_494 hts) ⟨⟨rfl, rfl⟩, Nat.le_of_ble_eq_true rfl, Nat.le_of_ble_eq_true rfl⟩ ⟨Nat.zero_le _, Nat.zero_le _⟩ rfl hl.1 rfl (Nat.le_of_ble_eq_true rfl) dL_says_233 (fun H locs hM hS => ?_)
    refine lv_aload_n hx hb dL_says_236 rfl (lv_at hl 1 rfl) ?_
    refine lv_iload hx hb dL_says_237 (lv_at hl 7 rfl) ?_
    refine lv_iconst (v := 4) hx hb dL_says_239 (by decide) ?_
    refine lv_iadd hx hb dL_says_240 ?_
    obtain ⟨h_16, hf⟩ := gd_e hf
    refine s_iald 60 hx hb hK hM h0 (by decide) h_16 dL_says_241 ?_
    refine lv_aload_n hx hb dL_says_242 rfl (lv_at hl 2 rfl) ?_
    refine lv_bipush (v := 11) hx hb dL_says_243 (by decide) ?_
    obtain ⟨h_17, hf⟩ := gd_e hf
    refine s_iald 14 hx hb hK hM h1 (by decide) h_17 dL_says_245 ?_
    refine lv_icmp_lt (tgt := 258) hx hb dL_says_246 (by decide) (fun g_18 => ?_) (fun g_18 => ?_)
    · rw [if_pos g_18] at hf
      refine lv_iload hx hb dL_says_258 (lv_at hl 0 rfl) ?_
      exact ef_im hx hb hr hlocks hM hS hf dL_says_260
    · rw [if_neg g_18] at hf
      refine lv_aload_n hx hb dL_says_249 rfl (lv_at hl 1 rfl) ?_
      refine lv_aload_n hx hb dL_says_250 rfl (lv_at hl 2 rfl) ?_
      refine lv_aload_n hx hb dL_says_251 rfl (lv_at hl 3 rfl) ?_
      refine lv_aload_n hx hb dL_says_252 rfl (lv_at hl 4 rfl) ?_
      refine lv_iload hx hb dL_says_253 (lv_at hl 5 rfl) ?_
      obtain ⟨M20, e_19, hf⟩ := vb_e hf
      refine c_Sv hx hb hml hown hts hV hM hS (As := [.ref a0, .ref a1, .ref a2, .ref a3, .int p4]) (rest := []) (k_L_packs G hG l a0 h0 a1 h1 a2 h2 a3 h3 p4 M15 e_19) w_L_packs (tk_647 hts) ⟨⟨rfl, rfl⟩, Nat.le_of_ble_eq_true rfl, Nat.le_of_ble_eq_true rfl⟩ ⟨Nat.zero_le _, Nat.zero_le _⟩ rfl hl.1 rfl (Nat.le_of_ble_eq_true rfl) dL_says_255 (fun H locs hM hS => ?_)
      refine lv_iload hx hb dL_says_258 (lv_at hl 0 rfl) ?_
      exact ef_im hx hb hr hlocks hM hS hf dL_says_260
  have b115 : ∀ (x6 : Int32) (xs0 : Int32) (M : Mem) (H : Heap) (locs : List Loc) (ls : Array Slot), Mh G M H → va_S (gA G) s.heap H locs → lv_has ls 9 [(0, .ref a0), (1, .ref a1), (2, .ref a2), (3, .ref a3), (4, .int p4), (5, .int p5), (6, .int x6)] → f_L_says_b115 a0 a1 a2 a3 p4 p5 x6 xs0 M = some (r, M') → W p l e ({ frames := 3, cells := 0, slots := 0, locals := 70 } : Room) s m args below meth c H locs 0 0 (MQ below (QV G (some (.int r)) M') args s 0 0 (gA G)) (F0 m 115 ls [.int xs0]) := by
    intro x6 xs0 M H locs ls hM hS hl hf
    rw [f_L_says_b115] at hf
    refine lv_istore (lv' := [(7, .int xs0), (0, .ref a0), (1, .ref a1), (2, .ref a2), (3, .ref a3), (4, .int p4), (5, .int p5), (6, .int x6)]) hx hb dL_says_115 hl (by decide) rfl (fun ls hl => ?_)
    refine lv_aload_n hx hb dL_says_117 rfl (lv_at hl 1 rfl) ?_
    refine lv_iload hx hb dL_says_118 (lv_at hl 7 rfl) ?_
    refine lv_iconst (v := 2) hx hb dL_says_120 (by decide) ?_
    refine lv_iadd hx hb dL_says_121 ?_
    refine lv_iconst (v := 0) hx hb dL_says_122 (by decide) ?_
    obtain ⟨h_21, hf⟩ := gd_e hf
    obtain ⟨M22, eM22, hf⟩ := nb_e hf
    refine s_iast 60 hx hb hK hM hS h0 (by decide) (ky_b hG h0) h_21 dL_says_123 (fun H locs hM hS => ?_)
    rw [eM22] at hM
    refine lv_aload_n hx hb dL_says_124 rfl (lv_at hl 1 rfl) ?_
    refine lv_iload hx hb dL_says_125 (lv_at hl 7 rfl) ?_
    refine lv_iconst (v := 3) hx hb dL_says_127 (by decide) ?_
    refine lv_iadd hx hb dL_says_128 ?_
    refine lv_iconst (v := 0) hx hb dL_says_129 (by decide) ?_
    obtain ⟨h_23, hf⟩ := gd_e hf
    obtain ⟨M24, eM24, hf⟩ := nb_e hf
    refine s_iast 60 hx hb hK hM hS h0 (by decide) (ky_b hG h0) h_23 dL_says_130 (fun H locs hM hS => ?_)
    rw [eM24] at hM
    refine lv_aload_n hx hb dL_says_131 rfl (lv_at hl 1 rfl) ?_
    refine lv_iload hx hb dL_says_132 (lv_at hl 7 rfl) ?_
    refine lv_iconst (v := 4) hx hb dL_says_134 (by decide) ?_
    refine lv_iadd hx hb dL_says_135 ?_
    obtain ⟨h_25, hf⟩ := gd_e hf
    refine s_iald 60 hx hb hK hM h0 (by decide) h_25 dL_says_136 ?_
    refine lv_if_ne (tgt := 164) hx hb dL_says_137 (by decide) (fun g_26 => ?_) (fun g_26 => ?_)
    · rw [if_neg g_26] at hf
      exact b164 x6 xs0 _ H locs ls hM hS (lv_sub hl [1, 2, 3, 4, 5, 6, 7, 0] rfl) hf
    · rw [if_pos g_26] at hf
      refine lv_aload_n hx hb dL_says_140 rfl (lv_at hl 1 rfl) ?_
      refine lv_iload hx hb dL_says_141 (lv_at hl 7 rfl) ?_
      refine lv_bipush (v := 8) hx hb dL_says_143 (by decide) ?_
      refine lv_iadd hx hb dL_says_145 ?_
      refine lv_aload_n hx hb dL_says_146 rfl (lv_at hl 1 rfl) ?_
      refine lv_iload hx hb dL_says_147 (lv_at hl 7 rfl) ?_
      obtain ⟨h_27, hf⟩ := gd_e hf
      refine s_iald 60 hx hb hK hM h0 (by decide) h_27 dL_says_149 ?_
      obtain ⟨h_28, hf⟩ := gd_e hf
      obtain ⟨M29, eM29, hf⟩ := nb_e hf
      refine s_iast 60 hx hb hK hM hS h0 (by decide) (ky_b hG h0) h_28 dL_says_150 (fun H locs hM hS => ?_)
      rw [eM29] at hM
      refine lv_aload_n hx hb dL_says_151 rfl (lv_at hl 1 rfl) ?_
      refine lv_iload hx hb dL_says_152 (lv_at hl 7 rfl) ?_
      refine lv_bipush (v := 9) hx hb dL_says_154 (by decide) ?_
      refine lv_iadd hx hb dL_says_156 ?_
      refine lv_aload_n hx hb dL_says_157 rfl (lv_at hl 1 rfl) ?_
      refine lv_iload hx hb dL_says_158 (lv_at hl 7 rfl) ?_
      refine lv_iconst (v := 1) hx hb dL_says_160 (by decide) ?_
      refine lv_iadd hx hb dL_says_161 ?_
      obtain ⟨h_30, hf⟩ := gd_e hf
      refine s_iald 60 hx hb hK hM h0 (by decide) h_30 dL_says_162 ?_
      obtain ⟨h_31, hf⟩ := gd_e hf
      obtain ⟨M32, eM32, hf⟩ := nb_e hf
      refine s_iast 60 hx hb hK hM hS h0 (by decide) (ky_b hG h0) h_31 dL_says_163 (fun H locs hM hS => ?_)
      rw [eM32] at hM
      exact b164 x6 xs0 _ H locs ls hM hS (lv_sub hl [1, 2, 3, 4, 5, 6, 7, 0] rfl) hf
  have b113 : ∀ (x6 : Int32) (x7 : Int32) (M : Mem) (H : Heap) (locs : List Loc) (ls : Array Slot), Mh G M H → va_S (gA G) s.heap H locs → lv_has ls 9 [(0, .ref a0), (1, .ref a1), (2, .ref a2), (3, .ref a3), (4, .int p4), (5, .int p5), (6, .int x6), (7, .int x7)] → f_L_says_b113 a0 a1 a2 a3 p4 p5 x6 x7 M = some (r, M') → W p l e ({ frames := 3, cells := 0, slots := 0, locals := 70 } : Room) s m args below meth c H locs 0 0 (MQ below (QV G (some (.int r)) M') args s 0 0 (gA G)) (F0 m 113 ls []) := by
    intro x6 x7 M H locs ls hM hS hl hf
    rw [f_L_says_b113] at hf
    refine lv_iload hx hb dL_says_113 (lv_at hl 7 rfl) ?_
    exact b115 x6 x7 _ H locs ls hM hS (lv_sub hl [0, 1, 2, 3, 4, 5, 6] rfl) hf
  rw [f_L_says] at hf
  obtain ⟨H, hHe⟩ : ∃ H, H = s.heap := ⟨_, rfl⟩
  obtain ⟨locs, hLe⟩ : ∃ L : List Loc, L = [] := ⟨_, rfl⟩
  rw [← hHe] at hM
  have hS : va_S (gA G) s.heap H locs := by rw [hHe, hLe]; exact va_S.rf
  suffices hW : W p l e ({ frames := 3, cells := 0, slots := 0, locals := 70 } : Room) s m args below meth c H locs 0 0 (MQ below (QV G (some (.int r)) M') args s 0 0 (gA G)) (F0 m 0 ls []) by rw [hHe, hLe] at hW; exact hW
  refine lv_bipush (v := 20) hx hb dL_says_0 (by decide) ?_
  refine lv_iload hx hb dL_says_2 (lv_at hl 4 rfl) ?_
  refine lv_imul hx hb dL_says_4 ?_
  obtain ⟨y33, ey33, hf⟩ := nb_e hf
  refine s_nm ey33 ?_
  refine lv_istore (lv' := [(6, .int y33), (0, .ref a0), (1, .ref a1), (2, .ref a2), (3, .ref a3), (4, .int p4), (5, .int p5)]) hx hb dL_says_5 hl (by decide) rfl (fun ls hl => ?_)
  refine lv_aload_n hx hb dL_says_7 rfl (lv_at hl 1 rfl) ?_
  refine lv_iload hx hb dL_says_8 (lv_at hl 0 rfl) ?_
  refine lv_iconst (v := 2) hx hb dL_says_10 (by decide) ?_
  refine lv_iadd hx hb dL_says_11 ?_
  refine lv_dup2_11 hx hb dL_says_12 rfl rfl ?_
  obtain ⟨h_34, hf⟩ := gd_e hf
  refine s_iald 60 hx hb hK hM h0 (by decide) h_34 dL_says_13 ?_
  refine lv_iconst (v := 1) hx hb dL_says_14 (by decide) ?_
  refine lv_iadd hx hb dL_says_15 ?_
  obtain ⟨h_35, hf⟩ := gd_e hf
  obtain ⟨M36, eM36, hf⟩ := nb_e hf
  refine s_iast 60 hx hb hK hM hS h0 (by decide) (ky_b hG h0) h_35 dL_says_16 (fun H locs hM hS => ?_)
  rw [eM36] at hM
  refine lv_aload_n hx hb dL_says_17 rfl (lv_at hl 1 rfl) ?_
  refine lv_iload hx hb dL_says_18 (lv_at hl 0 rfl) ?_
  refine lv_iconst (v := 3) hx hb dL_says_20 (by decide) ?_
  refine lv_iadd hx hb dL_says_21 ?_
  refine lv_dup2_11 hx hb dL_says_22 rfl rfl ?_
  obtain ⟨h_37, hf⟩ := gd_e hf
  refine s_iald 60 hx hb hK hM h0 (by decide) h_37 dL_says_23 ?_
  refine lv_iload hx hb dL_says_24 (lv_at hl 6 rfl) ?_
  refine lv_iadd hx hb dL_says_26 ?_
  obtain ⟨h_38, hf⟩ := gd_e hf
  obtain ⟨M39, eM39, hf⟩ := nb_e hf
  refine s_iast 60 hx hb hK hM hS h0 (by decide) (ky_b hG h0) h_38 dL_says_27 (fun H locs hM hS => ?_)
  rw [eM39] at hM
  refine lv_aload_n hx hb dL_says_28 rfl (lv_at hl 2 rfl) ?_
  refine lv_bipush (v := 13) hx hb dL_says_29 (by decide) ?_
  refine lv_dup2_11 hx hb dL_says_31 rfl rfl ?_
  obtain ⟨h_40, hf⟩ := gd_e hf
  refine s_iald 14 hx hb hK hM h1 (by decide) h_40 dL_says_32 ?_
  refine lv_iconst (v := 1) hx hb dL_says_33 (by decide) ?_
  refine lv_iadd hx hb dL_says_34 ?_
  obtain ⟨h_41, hf⟩ := gd_e hf
  obtain ⟨M42, eM42, hf⟩ := nb_e hf
  refine s_iast 14 hx hb hK hM hS h1 (by decide) (ky_b hG h1) h_41 dL_says_35 (fun H locs hM hS => ?_)
  rw [eM42] at hM
  refine lv_aload_n hx hb dL_says_36 rfl (lv_at hl 1 rfl) ?_
  refine lv_iload hx hb dL_says_37 (lv_at hl 0 rfl) ?_
  refine lv_iconst (v := 2) hx hb dL_says_39 (by decide) ?_
  refine lv_iadd hx hb dL_says_40 ?_
  obtain ⟨h_43, hf⟩ := gd_e hf
  refine s_iald 60 hx hb hK hM h0 (by decide) h_43 dL_says_41 ?_
  refine lv_aload_n hx hb dL_says_42 rfl (lv_at hl 2 rfl) ?_
  refine lv_bipush (v := 9) hx hb dL_says_43 (by decide) ?_
  obtain ⟨h_44, hf⟩ := gd_e hf
  refine s_iald 14 hx hb hK hM h1 (by decide) h_44 dL_says_45 ?_
  refine lv_icmp_ge (tgt := 75) hx hb dL_says_46 (by decide) (fun g_45 => ?_) (fun g_45 => ?_)
  · rw [if_pos g_45] at hf
    refine lv_aload_n hx hb dL_says_75 rfl (lv_at hl 1 rfl) ?_
    refine lv_iload hx hb dL_says_76 (lv_at hl 0 rfl) ?_
    refine lv_iconst (v := 3) hx hb dL_says_78 (by decide) ?_
    refine lv_iadd hx hb dL_says_79 ?_
    obtain ⟨h_46, hf⟩ := gd_e hf
    refine s_iald 60 hx hb hK hM h0 (by decide) h_46 dL_says_80 ?_
    refine lv_aload_n hx hb dL_says_81 rfl (lv_at hl 1 rfl) ?_
    refine lv_iload hx hb dL_says_82 (lv_at hl 0 rfl) ?_
    refine lv_iconst (v := 2) hx hb dL_says_84 (by decide) ?_
    refine lv_iadd hx hb dL_says_85 ?_
    obtain ⟨h_47, hf⟩ := gd_e hf
    refine s_iald 60 hx hb hK hM h0 (by decide) h_47 dL_says_86 ?_
    obtain ⟨h_48, hf⟩ := gd_e hf
    refine lv_idiv hx hb dL_says_87 h_48 ?_
    obtain ⟨y49, ey49, hf⟩ := nb_e hf
    refine s_nm ey49 ?_
    refine lv_istore (lv' := [(7, .int y49), (6, .int y33), (0, .ref a0), (1, .ref a1), (2, .ref a2), (3, .ref a3), (4, .int p4), (5, .int p5)]) hx hb dL_says_88 hl (by decide) rfl (fun ls hl => ?_)
    refine lv_iload hx hb dL_says_90 (lv_at hl 0 rfl) ?_
    refine lv_aload_n hx hb dL_says_92 rfl (lv_at hl 3 rfl) ?_
    refine lv_bipush (v := 10) hx hb dL_says_93 (by decide) ?_
    obtain ⟨h_50, hf⟩ := gd_e hf
    refine s_iald 14 hx hb hK hM h1 (by decide) h_50 dL_says_95 ?_
    refine lv_icmp_ge (tgt := 113) hx hb dL_says_96 (by decide) (fun g_51 => ?_) (fun g_51 => ?_)
    · rw [if_pos g_51] at hf
      exact b113 y33 y49 _ H locs ls hM hS (lv_sub hl [2, 3, 4, 5, 6, 7, 1, 0] rfl) hf
    · rw [if_neg g_51] at hf
      refine lv_iload hx hb dL_says_99 (lv_at hl 0 rfl) ?_
      refine lv_ineg hx hb dL_says_101 ?_
      refine lv_aload_n hx hb dL_says_102 rfl (lv_at hl 3 rfl) ?_
      refine lv_bipush (v := 10) hx hb dL_says_103 (by decide) ?_
      obtain ⟨h_52, hf⟩ := gd_e hf
      refine s_iald 14 hx hb hK hM h1 (by decide) h_52 dL_says_105 ?_
      refine lv_icmp_ge (tgt := 113) hx hb dL_says_106 (by decide) (fun g_53 => ?_) (fun g_53 => ?_)
      · rw [if_pos g_53] at hf
        exact b113 y33 y49 _ H locs ls hM hS (lv_sub hl [2, 3, 4, 5, 6, 7, 1, 0] rfl) hf
      · rw [if_neg g_53] at hf
        refine lv_iconst (v := 0) hx hb dL_says_109 (by decide) ?_
        refine lv_goto (tgt := 115) hx hb dL_says_110 (by decide) ?_
        exact b115 y33 0 _ H locs ls hM hS (lv_sub hl [2, 3, 4, 5, 6, 7, 1] rfl) hf
  · rw [if_neg g_45] at hf
    refine lv_aload_n hx hb dL_says_49 rfl (lv_at hl 1 rfl) ?_
    refine lv_iload hx hb dL_says_50 (lv_at hl 0 rfl) ?_
    refine lv_iconst (v := 4) hx hb dL_says_52 (by decide) ?_
    refine lv_iadd hx hb dL_says_53 ?_
    obtain ⟨h_54, hf⟩ := gd_e hf
    refine s_iald 60 hx hb hK hM h0 (by decide) h_54 dL_says_54 ?_
    refine lv_aload_n hx hb dL_says_55 rfl (lv_at hl 2 rfl) ?_
    refine lv_bipush (v := 11) hx hb dL_says_56 (by decide) ?_
    obtain ⟨h_55, hf⟩ := gd_e hf
    refine s_iald 14 hx hb hK hM h1 (by decide) h_55 dL_says_58 ?_
    refine lv_icmp_lt (tgt := 71) hx hb dL_says_59 (by decide) (fun g_56 => ?_) (fun g_56 => ?_)
    · rw [if_pos g_56] at hf
      refine lv_sipush (v := (-10000)) hx hb dL_says_71 (by decide) ?_
      exact ef_im hx hb hr hlocks hM hS hf dL_says_74
    · rw [if_neg g_56] at hf
      refine lv_aload_n hx hb dL_says_62 rfl (lv_at hl 1 rfl) ?_
      refine lv_aload_n hx hb dL_says_63 rfl (lv_at hl 2 rfl) ?_
      refine lv_aload_n hx hb dL_says_64 rfl (lv_at hl 3 rfl) ?_
      refine lv_aload_n hx hb dL_says_65 rfl (lv_at hl 4 rfl) ?_
      refine lv_iload hx hb dL_says_66 (lv_at hl 5 rfl) ?_
      obtain ⟨M58, e_57, hf⟩ := vb_e hf
      refine c_Sv hx hb hml hown hts hV hM hS (As := [.ref a0, .ref a1, .ref a2, .ref a3, .int p4]) (rest := []) (k_L_packs G hG l a0 h0 a1 h1 a2 h2 a3 h3 p4 M42 e_57) w_L_packs (tk_647 hts) ⟨⟨rfl, rfl⟩, Nat.le_of_ble_eq_true rfl, Nat.le_of_ble_eq_true rfl⟩ ⟨Nat.zero_le _, Nat.zero_le _⟩ rfl hl.1 rfl (Nat.le_of_ble_eq_true rfl) dL_says_68 (fun H locs hM hS => ?_)
      refine lv_sipush (v := (-10000)) hx hb dL_says_71 (by decide) ?_
      exact ef_im hx hb hr hlocks hM hS hf dL_says_74
def f_L_moves_b15 (a0 : Nat) (a1 : Nat) (p2 : Int32) : Nat → Int32 → Mem → Option Mem
  | 0, _, _ => none
  | n + 1, x3, M => gd (ix (((20 : Int32) * p2) + 19) 60) <| if ((16 : Int32) * (mI M a0 (((20 : Int32) * p2) + 19).toNatClampNeg)) ≤ x3 then (some M) else (gd (ix (x3 + 16) 64) <| gd (ix x3 64) <| nb (sI M a1 x3.toNatClampNeg (mI M a1 (x3 + 16).toNatClampNeg)) fun M5 => nb (x3 + 1) fun y6 => f_L_moves_b15 a0 a1 p2 n y6 M5)
def f_L_moves (a0 : Nat) (a1 : Nat) (p2 : Int32) (M : Mem) : Option Mem := gd (ix (((20 : Int32) * p2) + 19) 60) <| gd (ix (((20 : Int32) * p2) + 19) 60) <| nb (sI M a0 (((20 : Int32) * p2) + 19).toNatClampNeg ((mI M a0 (((20 : Int32) * p2) + 19).toNatClampNeg) - 1)) fun M9 => f_L_moves_b15 a0 a1 p2 lfuel 0 M9
set_option maxHeartbeats 4000000 in
set_option maxRecDepth 100000 in
theorem k_L_moves (G : Gt) (hG : gOK G) (l : Launch) (a0 : Nat) (h0 : gK G a0 = 1060) (a1 : Nat) (h1 : gK G a1 = 1064) (p2 : Int32) (M : Mem) {M' : Mem} (hf : f_L_moves a0 a1 p2 M = some M') : Kc G l yL_moves cL_moves 4 none ({ frames := 0, cells := 0, slots := 0, locals := 0 } : Room) [.ref a0, .ref a1, .int p2] M none M' := by
  refine start (by decide) (Nat.le_of_ble_eq_true rfl) ?_
  intro p e s m args below meth c ls hx hb hr hown hml hlocks hts hV hM hl
  have hown : s.vm.findClass "FoldedVoicesLaw" = some m.cls := hown
  have hK := hG.1.moved hV
  have hS : va_S (gA G) s.heap s.heap [] := va_S.rf
  have hl : lv_has ls 4 [(0, .ref a0), (1, .ref a1), (2, .int p2)] := hl
  have hM0 := hM
  have b15 : ∀ (n : Nat), ∀ (x3 : Int32) (M : Mem) (H : Heap) (locs : List Loc) (ls : Array Slot), Mh G M H → va_S (gA G) s.heap H locs → lv_has ls 4 [(0, .ref a0), (1, .ref a1), (2, .int p2), (3, .int x3)] → f_L_moves_b15 a0 a1 p2 n x3 M = some M' → W p l e ({ frames := 0, cells := 0, slots := 0, locals := 0 } : Room) s m args below meth c H locs 0 0 (MQ below (QV G none M') args s 0 0 (gA G)) (F0 m 15 ls []) := by
    intro n
    induction n with
    | zero =>
      intro x3 M H locs ls hM hS hl hf
      rw [f_L_moves_b15] at hf
      cases hf
    | succ n ih =>
      intro x3 M H locs ls hM hS hl hf
      rw [f_L_moves_b15] at hf
      refine lv_iload_n hx hb dL_moves_15 rfl (lv_at hl 3 rfl) ?_
      refine lv_bipush (v := 16) hx hb dL_moves_16 (by decide) ?_
      refine lv_aload_n hx hb dL_moves_18 rfl (lv_at hl 0 rfl) ?_
      refine lv_bipush (v := 20) hx hb dL_moves_19 (by decide) ?_
      refine lv_iload_n hx hb dL_moves_21 rfl (lv_at hl 2 rfl) ?_
      refine lv_imul hx hb dL_moves_22 ?_
      refine lv_bipush (v := 19) hx hb dL_moves_23 (by decide) ?_
      refine lv_iadd hx hb dL_moves_25 ?_
      obtain ⟨h_1, hf⟩ := gd_e hf
      refine s_iald 60 hx hb hK hM h0 (by decide) h_1 dL_moves_26 ?_
      refine lv_imul hx hb dL_moves_27 ?_
      refine lv_icmp_ge (tgt := 46) hx hb dL_moves_28 (by decide) (fun g_2 => ?_) (fun g_2 => ?_)
      · rw [if_pos g_2] at hf
        exact ef_v hx hb hr hlocks hM hS hf dL_moves_46
      · rw [if_neg g_2] at hf
        refine lv_aload_n hx hb dL_moves_31 rfl (lv_at hl 1 rfl) ?_
        refine lv_iload_n hx hb dL_moves_32 rfl (lv_at hl 3 rfl) ?_
        refine lv_aload_n hx hb dL_moves_33 rfl (lv_at hl 1 rfl) ?_
        refine lv_iload_n hx hb dL_moves_34 rfl (lv_at hl 3 rfl) ?_
        refine lv_bipush (v := 16) hx hb dL_moves_35 (by decide) ?_
        refine lv_iadd hx hb dL_moves_37 ?_
        obtain ⟨h_3, hf⟩ := gd_e hf
        refine s_iald 64 hx hb hK hM h1 (by decide) h_3 dL_moves_38 ?_
        obtain ⟨h_4, hf⟩ := gd_e hf
        obtain ⟨M5, eM5, hf⟩ := nb_e hf
        refine s_iast 64 hx hb hK hM hS h1 (by decide) (ky_b hG h1) h_4 dL_moves_39 (fun H locs hM hS => ?_)
        rw [eM5] at hM
        obtain ⟨y6, ey6, hf⟩ := nb_e hf
        refine lv_iinc (v := y6) (lv' := [(3, .int y6), (0, .ref a0), (1, .ref a1), (2, .int p2)]) hx hb dL_moves_40 hl (k := 3) rfl (by rw [← ey6]; rfl) (by decide) rfl (fun ls hl => ?_)
        refine lv_goto (tgt := 15) hx hb dL_moves_43 (by decide) ?_
        exact ih y6 _ H locs ls hM hS (lv_sub hl [1, 2, 3, 0] rfl) hf
  rw [f_L_moves] at hf
  obtain ⟨H, hHe⟩ : ∃ H, H = s.heap := ⟨_, rfl⟩
  obtain ⟨locs, hLe⟩ : ∃ L : List Loc, L = [] := ⟨_, rfl⟩
  rw [← hHe] at hM
  have hS : va_S (gA G) s.heap H locs := by rw [hHe, hLe]; exact va_S.rf
  suffices hW : W p l e ({ frames := 0, cells := 0, slots := 0, locals := 0 } : Room) s m args below meth c H locs 0 0 (MQ below (QV G none M') args s 0 0 (gA G)) (F0 m 0 ls []) by rw [hHe, hLe] at hW; exact hW
  refine lv_aload_n hx hb dL_moves_0 rfl (lv_at hl 0 rfl) ?_
  refine lv_bipush (v := 20) hx hb dL_moves_1 (by decide) ?_
  refine lv_iload_n hx hb dL_moves_3 rfl (lv_at hl 2 rfl) ?_
  refine lv_imul hx hb dL_moves_4 ?_
  refine lv_bipush (v := 19) hx hb dL_moves_5 (by decide) ?_
  refine lv_iadd hx hb dL_moves_7 ?_
  refine lv_dup2_11 hx hb dL_moves_8 rfl rfl ?_
  obtain ⟨h_7, hf⟩ := gd_e hf
  refine s_iald 60 hx hb hK hM h0 (by decide) h_7 dL_moves_9 ?_
  refine lv_iconst (v := 1) hx hb dL_moves_10 (by decide) ?_
  refine lv_isub hx hb dL_moves_11 ?_
  obtain ⟨h_8, hf⟩ := gd_e hf
  obtain ⟨M9, eM9, hf⟩ := nb_e hf
  refine s_iast 60 hx hb hK hM hS h0 (by decide) (ky_b hG h0) h_8 dL_moves_12 (fun H locs hM hS => ?_)
  rw [eM9] at hM
  refine lv_iconst (v := 0) hx hb dL_moves_13 (by decide) ?_
  refine lv_istore_n (lv' := [(3, .int 0), (0, .ref a0), (1, .ref a1), (2, .int p2)]) hx hb dL_moves_14 rfl hl (by decide) rfl (fun ls hl => ?_)
  exact b15 _ 0 _ H locs ls hM hS (lv_sub hl [1, 2, 3, 0] rfl) hf
def f_L_comes_b289 (a0 : Nat) (a1 : Nat) (a2 : Nat) (p3 : Int32) (k184 : Int32 → Int32 → Int32 → Mem → Option (Int32 × Mem)) (x4 : Int32) (x5 : Int32) (x6 : Int32) (xs0 : Int32) (xs1 : Int32) (qs2 : Nat) (M : Mem) : Option (Int32 × Mem) := gd (ix xs1 60) <| nb (sI M qs2 xs1.toNatClampNeg xs0) fun M2 => gd (ix p3 14) <| gd (ix (x4 + 10) 60) <| gd (ix p3 14) <| nb (sI M2 a1 p3.toNatClampNeg ((mI M2 a1 p3.toNatClampNeg) + (mI M2 a0 (x4 + 10).toNatClampNeg))) fun M6 => nb (x6 + 1) fun y7 => k184 x4 x5 y7 M6
def f_L_comes_b184 (a0 : Nat) (a1 : Nat) (a2 : Nat) (p3 : Int32) : Nat → Int32 → Int32 → Int32 → Mem → Option (Int32 × Mem)
  | 0, _, _, _, _ => none
  | n + 1, x4, x5, x6, M => gd (ix (1 : Int32) 64) <| if (mI M a2 (1 : Int32).toNatClampNeg) ≤ x6 then (gd (ix (x4 + 12) 60) <| gd (ix (x4 + 12) 60) <| nb (sI M a0 (x4 + 12).toNatClampNeg ((mI M a0 (x4 + 12).toNatClampNeg) + 1)) fun M12 => vb (f_L_moves a0 a2 p3 M12) fun M14 => some (x5, M14)) else (gd (ix ((5 : Int32) + x6) 64) <| gd (¬ (65536 : Int32) = 0) <| vb (f_L_follows 60 a0 (x4 + 10) ((mI M a2 ((5 : Int32) + x6).toNatClampNeg) / (65536 : Int32)) M) fun M18 => gd (ix (x4 + 10) 60) <| gd (ix ((5 : Int32) + x6) 64) <| gd (¬ (65536 : Int32) = 0) <| vb (f_L_size ((mI M18 a0 (x4 + 10).toNatClampNeg) - (((mI M18 a2 ((5 : Int32) + x6).toNatClampNeg) - (mI M18 a2 ((5 : Int32) + x6).toNatClampNeg) / (65536 : Int32) * (65536 : Int32)) - 2000)) M18) fun r23 => gd (ix (x4 + 13) 60) <| gd (ix (x4 + 13) 60) <| nb (sI M18 a0 (x4 + 13).toNatClampNeg ((mI M18 a0 (x4 + 13).toNatClampNeg) + 1)) fun M26 => gd (ix (x4 + 17) 60) <| gd (ix (x4 + 17) 60) <| nb (sI M26 a0 (x4 + 17).toNatClampNeg ((mI M26 a0 (x4 + 17).toNatClampNeg) + r23)) fun M29 => gd (ix (x4 + 18) 60) <| if r23 ≤ (mI M29 a0 (x4 + 18).toNatClampNeg) then (gd (ix (x4 + 18) 60) <| f_L_comes_b289 a0 a1 a2 p3 (f_L_comes_b184 a0 a1 a2 p3 n) x4 x5 x6 (mI M29 a0 (x4 + 18).toNatClampNeg) (x4 + 18) a0 M29) else (f_L_comes_b289 a0 a1 a2 p3 (f_L_comes_b184 a0 a1 a2 p3 n) x4 x5 x6 r23 (x4 + 18) a0 M29))
def f_L_comes_b181 (a0 : Nat) (a1 : Nat) (a2 : Nat) (p3 : Int32) (x4 : Int32) (x5 : Int32) (M : Mem) : Option (Int32 × Mem) := f_L_comes_b184 a0 a1 a2 p3 lfuel x4 x5 0 M
def f_L_comes_b159 (a0 : Nat) (a1 : Nat) (a2 : Nat) (p3 : Int32) (x4 : Int32) (x5 : Int32) (xs0 : Int32) (xs1 : Int32) (xs2 : Int32) (qs3 : Nat) (M : Mem) : Option (Int32 × Mem) := gd (ix xs2 60) <| nb (sI M qs3 xs2.toNatClampNeg (xs1 + xs0)) fun M34 => gd (ix (3 : Int32) 64) <| gd (ix (x4 + 10) 60) <| nb (sI M34 a0 (x4 + 10).toNatClampNeg (mI M34 a2 (3 : Int32).toNatClampNeg)) fun M37 => gd (ix (4 : Int32) 64) <| gd (ix (x4 + 11) 60) <| nb (sI M37 a0 (x4 + 11).toNatClampNeg (mI M37 a2 (4 : Int32).toNatClampNeg)) fun M40 => f_L_comes_b181 a0 a1 a2 p3 x4 x5 M40
def f_L_comes_b158 (a0 : Nat) (a1 : Nat) (a2 : Nat) (p3 : Int32) (x4 : Int32) (x5 : Int32) (xs0 : Int32) (xs1 : Int32) (qs2 : Nat) (M : Mem) : Option (Int32 × Mem) := f_L_comes_b159 a0 a1 a2 p3 x4 x5 1 xs0 xs1 qs2 M
def f_L_comes_b53 (a0 : Nat) (a1 : Nat) (a2 : Nat) (p3 : Int32) : Nat → Int32 → Int32 → Mem → Option (Int32 × Mem)
  | 0, _, _, _ => none
  | n + 1, x4, x5, M => gd (ix (x4 + 12) 60) <| gd (ix (0 : Int32) 64) <| if (mI M a2 (0 : Int32).toNatClampNeg) ≤ (mI M a0 (x4 + 12).toNatClampNeg) then (gd (ix (x4 + 14) 60) <| gd (ix (x4 + 14) 60) <| nb (sI M a0 (x4 + 14).toNatClampNeg ((mI M a0 (x4 + 14).toNatClampNeg) + x5)) fun M46 => gd (ix (2 : Int32) 64) <| if (mI M46 a2 (2 : Int32).toNatClampNeg) = (1 : Int32) then (gd (ix (x4 + 16) 60) <| gd (ix (x4 + 10) 60) <| gd (ix (3 : Int32) 64) <| if (mI M46 a0 (x4 + 10).toNatClampNeg) = (mI M46 a2 (3 : Int32).toNatClampNeg) then (gd (ix (x4 + 11) 60) <| gd (ix (4 : Int32) 64) <| if (mI M46 a0 (x4 + 11).toNatClampNeg) = (mI M46 a2 (4 : Int32).toNatClampNeg) then (f_L_comes_b159 a0 a1 a2 p3 x4 x5 0 (mI M46 a0 (x4 + 16).toNatClampNeg) (x4 + 16) a0 M46) else (f_L_comes_b158 a0 a1 a2 p3 x4 x5 (mI M46 a0 (x4 + 16).toNatClampNeg) (x4 + 16) a0 M46)) else (f_L_comes_b158 a0 a1 a2 p3 x4 x5 (mI M46 a0 (x4 + 16).toNatClampNeg) (x4 + 16) a0 M46)) else (f_L_comes_b181 a0 a1 a2 p3 x4 x5 M46)) else (gd (ix (x4 + 10) 60) <| gd (ix (x4 + 10) 60) <| nb (sI M a0 (x4 + 10).toNatClampNeg (((mI M a0 (x4 + 10).toNatClampNeg) * 3) / 4)) fun M58 => gd (ix (x4 + 12) 60) <| gd (ix (x4 + 12) 60) <| nb (sI M58 a0 (x4 + 12).toNatClampNeg ((mI M58 a0 (x4 + 12).toNatClampNeg) + 1)) fun M61 => nb (x5 + 1) fun y62 => f_L_comes_b53 a0 a1 a2 p3 n x4 y62 M61)
def f_L_comes (a0 : Nat) (a1 : Nat) (a2 : Nat) (p3 : Int32) (M : Mem) : Option (Int32 × Mem) := nb ((20 : Int32) * p3) fun y63 => gd (ix ((6 : Int32) + p3) 14) <| gd (ix ((6 : Int32) + p3) 14) <| nb (sI M a1 ((6 : Int32) + p3).toNatClampNeg ((mI M a1 ((6 : Int32) + p3).toNatClampNeg) + 1)) fun M66 => gd (ix (0 : Int32) 64) <| gd (ix (y63 + 12) 60) <| if (mI M66 a0 (y63 + 12).toNatClampNeg) ≤ (mI M66 a2 (0 : Int32).toNatClampNeg) then (f_L_comes_b53 a0 a1 a2 p3 lfuel y63 0 M66) else (gd (ix (y63 + 15) 60) <| gd (ix (y63 + 15) 60) <| nb (sI M66 a0 (y63 + 15).toNatClampNeg ((mI M66 a0 (y63 + 15).toNatClampNeg) + 1)) fun M72 => vb (f_L_moves a0 a2 p3 M72) fun M74 => some ((-10000), M74))
set_option maxHeartbeats 4000000 in
set_option maxRecDepth 100000 in
theorem k_L_comes (G : Gt) (hG : gOK G) (l : Launch) (a0 : Nat) (h0 : gK G a0 = 1060) (a1 : Nat) (h1 : gK G a1 = 1014) (a2 : Nat) (h2 : gK G a2 = 1064) (p3 : Int32) (M : Mem) {r : Int32} {M' : Mem} (hf : f_L_comes a0 a1 a2 p3 M = some (r, M')) : Kc G l yL_comes cL_comes 8 (some .int) ({ frames := 3, cells := 0, slots := 0, locals := 70 } : Room) [.ref a0, .ref a1, .ref a2, .int p3] M (some (.int r)) M' := by
  refine start (by decide) (Nat.le_of_ble_eq_true rfl) ?_
  intro p e s m args below meth c ls hx hb hr hown hml hlocks hts hV hM hl
  have hown : s.vm.findClass "FoldedVoicesLaw" = some m.cls := hown
  have hK := hG.1.moved hV
  have hS : va_S (gA G) s.heap s.heap [] := va_S.rf
  have hl : lv_has ls 8 [(0, .ref a0), (1, .ref a1), (2, .ref a2), (3, .int p3)] := hl
  have hM0 := hM
  have b289 : ∀ (k184 : Int32 → Int32 → Int32 → Mem → Option (Int32 × Mem)), (∀ (x4 : Int32) (x5 : Int32) (x6 : Int32) (M : Mem) (H : Heap) (locs : List Loc) (ls : Array Slot), Mh G M H → va_S (gA G) s.heap H locs → lv_has ls 8 [(0, .ref a0), (1, .ref a1), (2, .ref a2), (3, .int p3), (4, .int x4), (5, .int x5), (6, .int x6)] → k184 x4 x5 x6 M = some (r, M') → W p l e ({ frames := 3, cells := 0, slots := 0, locals := 70 } : Room) s m args below meth c H locs 0 0 (MQ below (QV G (some (.int r)) M') args s 0 0 (gA G)) (F0 m 184 ls [])) → ∀ (x4 : Int32) (x5 : Int32) (x6 : Int32) (xs0 : Int32) (xs1 : Int32) (qs2 : Nat) (M : Mem) (H : Heap) (locs : List Loc) (ls : Array Slot), gK G qs2 = 1060 → Mh G M H → va_S (gA G) s.heap H locs → lv_has ls 8 [(0, .ref a0), (1, .ref a1), (2, .ref a2), (3, .int p3), (4, .int x4), (5, .int x5), (6, .int x6)] → f_L_comes_b289 a0 a1 a2 p3 k184 x4 x5 x6 xs0 xs1 qs2 M = some (r, M') → W p l e ({ frames := 3, cells := 0, slots := 0, locals := 70 } : Room) s m args below meth c H locs 0 0 (MQ below (QV G (some (.int r)) M') args s 0 0 (gA G)) (F0 m 289 ls [.int xs0, .int xs1, .ref qs2]) := by
    intro k184 hk184
    intro x4 x5 x6 xs0 xs1 qs2 M H locs ls h_qs2 hM hS hl hf
    rw [f_L_comes_b289] at hf
    obtain ⟨h_1, hf⟩ := gd_e hf
    obtain ⟨M2, eM2, hf⟩ := nb_e hf
    refine s_iast 60 hx hb hK hM hS h_qs2 (by decide) (ky_b hG h_qs2) h_1 dL_comes_289 (fun H locs hM hS => ?_)
    rw [eM2] at hM
    refine lv_aload_n hx hb dL_comes_290 rfl (lv_at hl 1 rfl) ?_
    refine lv_iload_n hx hb dL_comes_291 rfl (lv_at hl 3 rfl) ?_
    refine lv_dup2_11 hx hb dL_comes_292 rfl rfl ?_
    obtain ⟨h_3, hf⟩ := gd_e hf
    refine s_iald 14 hx hb hK hM h1 (by decide) h_3 dL_comes_293 ?_
    refine lv_aload_n hx hb dL_comes_294 rfl (lv_at hl 0 rfl) ?_
    refine lv_iload hx hb dL_comes_295 (lv_at hl 4 rfl) ?_
    refine lv_bipush (v := 10) hx hb dL_comes_297 (by decide) ?_
    refine lv_iadd hx hb dL_comes_299 ?_
    obtain ⟨h_4, hf⟩ := gd_e hf
    refine s_iald 60 hx hb hK hM h0 (by decide) h_4 dL_comes_300 ?_
    refine lv_iadd hx hb dL_comes_301 ?_
    obtain ⟨h_5, hf⟩ := gd_e hf
    obtain ⟨M6, eM6, hf⟩ := nb_e hf
    refine s_iast 14 hx hb hK hM hS h1 (by decide) (ky_b hG h1) h_5 dL_comes_302 (fun H locs hM hS => ?_)
    rw [eM6] at hM
    obtain ⟨y7, ey7, hf⟩ := nb_e hf
    refine lv_iinc (v := y7) (lv' := [(6, .int y7), (0, .ref a0), (1, .ref a1), (2, .ref a2), (3, .int p3), (4, .int x4), (5, .int x5)]) hx hb dL_comes_303 hl (k := 6) rfl (by rw [← ey7]; rfl) (by decide) rfl (fun ls hl => ?_)
    refine lv_goto (tgt := 184) hx hb dL_comes_306 (by decide) ?_
    exact hk184 x4 x5 y7 _ H locs ls hM hS (lv_sub hl [1, 2, 3, 4, 5, 6, 0] rfl) hf
  have b184 : ∀ (n : Nat), ∀ (x4 : Int32) (x5 : Int32) (x6 : Int32) (M : Mem) (H : Heap) (locs : List Loc) (ls : Array Slot), Mh G M H → va_S (gA G) s.heap H locs → lv_has ls 8 [(0, .ref a0), (1, .ref a1), (2, .ref a2), (3, .int p3), (4, .int x4), (5, .int x5), (6, .int x6)] → f_L_comes_b184 a0 a1 a2 p3 n x4 x5 x6 M = some (r, M') → W p l e ({ frames := 3, cells := 0, slots := 0, locals := 70 } : Room) s m args below meth c H locs 0 0 (MQ below (QV G (some (.int r)) M') args s 0 0 (gA G)) (F0 m 184 ls []) := by
    intro n
    induction n with
    | zero =>
      intro x4 x5 x6 M H locs ls hM hS hl hf
      rw [f_L_comes_b184] at hf
      cases hf
    | succ n ih =>
      intro x4 x5 x6 M H locs ls hM hS hl hf
      rw [f_L_comes_b184] at hf
      refine lv_iload hx hb dL_comes_184 (lv_at hl 6 rfl) ?_
      refine lv_aload_n hx hb dL_comes_186 rfl (lv_at hl 2 rfl) ?_
      refine lv_iconst (v := 1) hx hb dL_comes_187 (by decide) ?_
      obtain ⟨h_8, hf⟩ := gd_e hf
      refine s_iald 64 hx hb hK hM h2 (by decide) h_8 dL_comes_188 ?_
      refine lv_icmp_ge (tgt := 309) hx hb dL_comes_189 (by decide) (fun g_9 => ?_) (fun g_9 => ?_)
      · rw [if_pos g_9] at hf
        refine lv_aload_n hx hb dL_comes_309 rfl (lv_at hl 0 rfl) ?_
        refine lv_iload hx hb dL_comes_310 (lv_at hl 4 rfl) ?_
        refine lv_bipush (v := 12) hx hb dL_comes_312 (by decide) ?_
        refine lv_iadd hx hb dL_comes_314 ?_
        refine lv_dup2_11 hx hb dL_comes_315 rfl rfl ?_
        obtain ⟨h_10, hf⟩ := gd_e hf
        refine s_iald 60 hx hb hK hM h0 (by decide) h_10 dL_comes_316 ?_
        refine lv_iconst (v := 1) hx hb dL_comes_317 (by decide) ?_
        refine lv_iadd hx hb dL_comes_318 ?_
        obtain ⟨h_11, hf⟩ := gd_e hf
        obtain ⟨M12, eM12, hf⟩ := nb_e hf
        refine s_iast 60 hx hb hK hM hS h0 (by decide) (ky_b hG h0) h_11 dL_comes_319 (fun H locs hM hS => ?_)
        rw [eM12] at hM
        refine lv_aload_n hx hb dL_comes_320 rfl (lv_at hl 0 rfl) ?_
        refine lv_aload_n hx hb dL_comes_321 rfl (lv_at hl 2 rfl) ?_
        refine lv_iload_n hx hb dL_comes_322 rfl (lv_at hl 3 rfl) ?_
        obtain ⟨M14, e_13, hf⟩ := vb_e hf
        refine c_Sv hx hb hml hown hts hV hM hS (As := [.ref a0, .ref a2, .int p3]) (rest := []) (k_L_moves G hG l a0 h0 a2 h2 p3 M12 e_13) w_L_moves (tk_491 hts) ⟨⟨rfl, rfl⟩, Nat.le_of_ble_eq_true rfl, Nat.le_of_ble_eq_true rfl⟩ ⟨Nat.zero_le _, Nat.zero_le _⟩ rfl hl.1 rfl (Nat.le_of_ble_eq_true rfl) dL_comes_323 (fun H locs hM hS => ?_)
        refine lv_iload hx hb dL_comes_326 (lv_at hl 5 rfl) ?_
        exact ef_im hx hb hr hlocks hM hS hf dL_comes_328
      · rw [if_neg g_9] at hf
        refine lv_aload_n hx hb dL_comes_192 rfl (lv_at hl 0 rfl) ?_
        refine lv_iload hx hb dL_comes_193 (lv_at hl 4 rfl) ?_
        refine lv_bipush (v := 10) hx hb dL_comes_195 (by decide) ?_
        refine lv_iadd hx hb dL_comes_197 ?_
        refine lv_aload_n hx hb dL_comes_198 rfl (lv_at hl 2 rfl) ?_
        refine lv_iconst (v := 5) hx hb dL_comes_199 (by decide) ?_
        refine lv_iload hx hb dL_comes_200 (lv_at hl 6 rfl) ?_
        refine lv_iadd hx hb dL_comes_202 ?_
        obtain ⟨h_15, hf⟩ := gd_e hf
        refine s_iald 64 hx hb hK hM h2 (by decide) h_15 dL_comes_203 ?_
        refine lv_ldc hx hb hown (tk_455 hts) dL_comes_204 ?_
        obtain ⟨h_16, hf⟩ := gd_e hf
        refine lv_idiv hx hb dL_comes_206 h_16 ?_
        obtain ⟨M18, e_17, hf⟩ := vb_e hf
        refine c_Sv hx hb hml hown hts hV hM hS (As := [.ref a0, .int (x4 + 10), .int ((mI M a2 ((5 : Int32) + x6).toNatClampNeg) / (65536 : Int32))]) (rest := []) (k_L_follows G hG l 60 (by decide) a0 h0 (x4 + 10) ((mI M a2 ((5 : Int32) + x6).toNatClampNeg) / (65536 : Int32)) M e_17) w_L_follows (tk_494 hts) ⟨⟨rfl, rfl⟩, Nat.le_of_ble_eq_true rfl, Nat.le_of_ble_eq_true rfl⟩ ⟨Nat.zero_le _, Nat.zero_le _⟩ rfl hl.1 rfl (Nat.le_of_ble_eq_true rfl) dL_comes_207 (fun H locs hM hS => ?_)
        refine lv_aload_n hx hb dL_comes_210 rfl (lv_at hl 0 rfl) ?_
        refine lv_iload hx hb dL_comes_211 (lv_at hl 4 rfl) ?_
        refine lv_bipush (v := 10) hx hb dL_comes_213 (by decide) ?_
        refine lv_iadd hx hb dL_comes_215 ?_
        obtain ⟨h_19, hf⟩ := gd_e hf
        refine s_iald 60 hx hb hK hM h0 (by decide) h_19 dL_comes_216 ?_
        refine lv_aload_n hx hb dL_comes_217 rfl (lv_at hl 2 rfl) ?_
        refine lv_iconst (v := 5) hx hb dL_comes_218 (by decide) ?_
        refine lv_iload hx hb dL_comes_219 (lv_at hl 6 rfl) ?_
        refine lv_iadd hx hb dL_comes_221 ?_
        obtain ⟨h_20, hf⟩ := gd_e hf
        refine s_iald 64 hx hb hK hM h2 (by decide) h_20 dL_comes_222 ?_
        refine lv_ldc hx hb hown (tk_455 hts) dL_comes_223 ?_
        obtain ⟨h_21, hf⟩ := gd_e hf
        refine lv_irem hx hb dL_comes_225 h_21 ?_
        refine lv_sipush (v := 2000) hx hb dL_comes_226 (by decide) ?_
        refine lv_isub hx hb dL_comes_229 ?_
        refine lv_isub hx hb dL_comes_230 ?_
        obtain ⟨r23, e_22, hf⟩ := vb_e hf
        refine c_Si hx hb hml hown hts hV hM hS (As := [.int ((mI M18 a0 (x4 + 10).toNatClampNeg) - (((mI M18 a2 ((5 : Int32) + x6).toNatClampNeg) - (mI M18 a2 ((5 : Int32) + x6).toNatClampNeg) / (65536 : Int32) * (65536 : Int32)) - 2000))]) (rest := []) (k_L_size G hG l ((mI M18 a0 (x4 + 10).toNatClampNeg) - (((mI M18 a2 ((5 : Int32) + x6).toNatClampNeg) - (mI M18 a2 ((5 : Int32) + x6).toNatClampNeg) / (65536 : Int32) * (65536 : Int32)) - 2000)) M18 e_22) w_L_size (tk_503 hts) ⟨⟨rfl, rfl⟩, Nat.le_of_ble_eq_true rfl, Nat.le_of_ble_eq_true rfl⟩ ⟨Nat.zero_le _, Nat.zero_le _⟩ rfl hl.1 rfl (Nat.le_of_ble_eq_true rfl) dL_comes_231 (fun H locs hM hS => ?_)
        refine lv_istore (lv' := [(7, .int r23), (0, .ref a0), (1, .ref a1), (2, .ref a2), (3, .int p3), (4, .int x4), (5, .int x5), (6, .int x6)]) hx hb dL_comes_234 hl (by decide) rfl (fun ls hl => ?_)
        refine lv_aload_n hx hb dL_comes_236 rfl (lv_at hl 1 rfl) ?_
        refine lv_iload hx hb dL_comes_237 (lv_at hl 5 rfl) ?_
        refine lv_bipush (v := 13) hx hb dL_comes_239 (by decide) ?_
        refine lv_iadd hx hb dL_comes_241 ?_
        refine lv_dup2_11 hx hb dL_comes_242 rfl rfl ?_
        obtain ⟨h_24, hf⟩ := gd_e hf
        refine s_iald 60 hx hb hK hM h0 (by decide) h_24 dL_comes_243 ?_
        refine lv_iconst (v := 1) hx hb dL_comes_244 (by decide) ?_
        refine lv_iadd hx hb dL_comes_245 ?_
        obtain ⟨h_25, hf⟩ := gd_e hf
        obtain ⟨M26, eM26, hf⟩ := nb_e hf
        refine s_iast 60 hx hb hK hM hS h0 (by decide) (ky_b hG h0) h_25 dL_comes_246 (fun H locs hM hS => ?_)
        rw [eM26] at hM
        refine lv_aload_n hx hb dL_comes_247 rfl (lv_at hl 1 rfl) ?_
        refine lv_iload hx hb dL_comes_248 (lv_at hl 5 rfl) ?_
        refine lv_bipush (v := 17) hx hb dL_comes_250 (by decide) ?_
        refine lv_iadd hx hb dL_comes_252 ?_
        refine lv_dup2_11 hx hb dL_comes_253 rfl rfl ?_
        obtain ⟨h_27, hf⟩ := gd_e hf
        refine s_iald 60 hx hb hK hM h0 (by decide) h_27 dL_comes_254 ?_
        refine lv_iload hx hb dL_comes_255 (lv_at hl 0 rfl) ?_
        refine lv_iadd hx hb dL_comes_257 ?_
        obtain ⟨h_28, hf⟩ := gd_e hf
        obtain ⟨M29, eM29, hf⟩ := nb_e hf
        refine s_iast 60 hx hb hK hM hS h0 (by decide) (ky_b hG h0) h_28 dL_comes_258 (fun H locs hM hS => ?_)
        rw [eM29] at hM
        refine lv_aload_n hx hb dL_comes_259 rfl (lv_at hl 1 rfl) ?_
        refine lv_iload hx hb dL_comes_260 (lv_at hl 5 rfl) ?_
        refine lv_bipush (v := 18) hx hb dL_comes_262 (by decide) ?_
        refine lv_iadd hx hb dL_comes_264 ?_
        refine lv_iload hx hb dL_comes_265 (lv_at hl 0 rfl) ?_
        refine lv_aload_n hx hb dL_comes_267 rfl (lv_at hl 1 rfl) ?_
        refine lv_iload hx hb dL_comes_268 (lv_at hl 5 rfl) ?_
        refine lv_bipush (v := 18) hx hb dL_comes_270 (by decide) ?_
        refine lv_iadd hx hb dL_comes_272 ?_
        obtain ⟨h_30, hf⟩ := gd_e hf
        refine s_iald 60 hx hb hK hM h0 (by decide) h_30 dL_comes_273 ?_
        refine lv_icmp_le (tgt := 282) hx hb dL_comes_274 (by decide) (fun g_31 => ?_) (fun g_31 => ?_)
        · rw [if_pos g_31] at hf
          refine lv_aload_n hx hb dL_comes_282 rfl (lv_at hl 1 rfl) ?_
          refine lv_iload hx hb dL_comes_283 (lv_at hl 5 rfl) ?_
          refine lv_bipush (v := 18) hx hb dL_comes_285 (by decide) ?_
          refine lv_iadd hx hb dL_comes_287 ?_
          obtain ⟨h_32, hf⟩ := gd_e hf
          refine s_iald 60 hx hb hK hM h0 (by decide) h_32 dL_comes_288 ?_
          exact b289 _ ih x4 x5 x6 (mI M29 a0 (x4 + 18).toNatClampNeg) (x4 + 18) a0 _ H locs ls h0 hM hS (lv_sub hl [1, 2, 3, 4, 5, 6, 7] rfl) hf
        · rw [if_neg g_31] at hf
          refine lv_iload hx hb dL_comes_277 (lv_at hl 0 rfl) ?_
          refine lv_goto (tgt := 289) hx hb dL_comes_279 (by decide) ?_
          exact b289 _ ih x4 x5 x6 r23 (x4 + 18) a0 _ H locs ls h0 hM hS (lv_sub hl [1, 2, 3, 4, 5, 6, 7] rfl) hf
  have b181 : ∀ (x4 : Int32) (x5 : Int32) (M : Mem) (H : Heap) (locs : List Loc) (ls : Array Slot), Mh G M H → va_S (gA G) s.heap H locs → lv_has ls 8 [(0, .ref a0), (1, .ref a1), (2, .ref a2), (3, .int p3), (4, .int x4), (5, .int x5)] → f_L_comes_b181 a0 a1 a2 p3 x4 x5 M = some (r, M') → W p l e ({ frames := 3, cells := 0, slots := 0, locals := 70 } : Room) s m args below meth c H locs 0 0 (MQ below (QV G (some (.int r)) M') args s 0 0 (gA G)) (F0 m 181 ls []) := by
    intro x4 x5 M H locs ls hM hS hl hf
    rw [f_L_comes_b181] at hf
    refine lv_iconst (v := 0) hx hb dL_comes_181 (by decide) ?_
    refine lv_istore (lv' := [(6, .int 0), (0, .ref a0), (1, .ref a1), (2, .ref a2), (3, .int p3), (4, .int x4), (5, .int x5)]) hx hb dL_comes_182 hl (by decide) rfl (fun ls hl => ?_)
    exact b184 _ x4 x5 0 _ H locs ls hM hS (lv_sub hl [1, 2, 3, 4, 5, 6, 0] rfl) hf
  have b159 : ∀ (x4 : Int32) (x5 : Int32) (xs0 : Int32) (xs1 : Int32) (xs2 : Int32) (qs3 : Nat) (M : Mem) (H : Heap) (locs : List Loc) (ls : Array Slot), gK G qs3 = 1060 → Mh G M H → va_S (gA G) s.heap H locs → lv_has ls 8 [(0, .ref a0), (1, .ref a1), (2, .ref a2), (3, .int p3), (4, .int x4), (5, .int x5)] → f_L_comes_b159 a0 a1 a2 p3 x4 x5 xs0 xs1 xs2 qs3 M = some (r, M') → W p l e ({ frames := 3, cells := 0, slots := 0, locals := 70 } : Room) s m args below meth c H locs 0 0 (MQ below (QV G (some (.int r)) M') args s 0 0 (gA G)) (F0 m 159 ls [.int xs0, .int xs1, .int xs2, .ref qs3]) := by
    intro x4 x5 xs0 xs1 xs2 qs3 M H locs ls h_qs3 hM hS hl hf
    rw [f_L_comes_b159] at hf
    refine lv_iadd hx hb dL_comes_159 ?_
    obtain ⟨h_33, hf⟩ := gd_e hf
    obtain ⟨M34, eM34, hf⟩ := nb_e hf
    refine s_iast 60 hx hb hK hM hS h_qs3 (by decide) (ky_b hG h_qs3) h_33 dL_comes_160 (fun H locs hM hS => ?_)
    rw [eM34] at hM
    refine lv_aload_n hx hb dL_comes_161 rfl (lv_at hl 0 rfl) ?_
    refine lv_iload hx hb dL_comes_162 (lv_at hl 4 rfl) ?_
    refine lv_bipush (v := 10) hx hb dL_comes_164 (by decide) ?_
    refine lv_iadd hx hb dL_comes_166 ?_
    refine lv_aload_n hx hb dL_comes_167 rfl (lv_at hl 2 rfl) ?_
    refine lv_iconst (v := 3) hx hb dL_comes_168 (by decide) ?_
    obtain ⟨h_35, hf⟩ := gd_e hf
    refine s_iald 64 hx hb hK hM h2 (by decide) h_35 dL_comes_169 ?_
    obtain ⟨h_36, hf⟩ := gd_e hf
    obtain ⟨M37, eM37, hf⟩ := nb_e hf
    refine s_iast 60 hx hb hK hM hS h0 (by decide) (ky_b hG h0) h_36 dL_comes_170 (fun H locs hM hS => ?_)
    rw [eM37] at hM
    refine lv_aload_n hx hb dL_comes_171 rfl (lv_at hl 0 rfl) ?_
    refine lv_iload hx hb dL_comes_172 (lv_at hl 4 rfl) ?_
    refine lv_bipush (v := 11) hx hb dL_comes_174 (by decide) ?_
    refine lv_iadd hx hb dL_comes_176 ?_
    refine lv_aload_n hx hb dL_comes_177 rfl (lv_at hl 2 rfl) ?_
    refine lv_iconst (v := 4) hx hb dL_comes_178 (by decide) ?_
    obtain ⟨h_38, hf⟩ := gd_e hf
    refine s_iald 64 hx hb hK hM h2 (by decide) h_38 dL_comes_179 ?_
    obtain ⟨h_39, hf⟩ := gd_e hf
    obtain ⟨M40, eM40, hf⟩ := nb_e hf
    refine s_iast 60 hx hb hK hM hS h0 (by decide) (ky_b hG h0) h_39 dL_comes_180 (fun H locs hM hS => ?_)
    rw [eM40] at hM
    exact b181 x4 x5 _ H locs ls hM hS (lv_sub hl [0, 1, 2, 3, 4, 5] rfl) hf
  have b158 : ∀ (x4 : Int32) (x5 : Int32) (xs0 : Int32) (xs1 : Int32) (qs2 : Nat) (M : Mem) (H : Heap) (locs : List Loc) (ls : Array Slot), gK G qs2 = 1060 → Mh G M H → va_S (gA G) s.heap H locs → lv_has ls 8 [(0, .ref a0), (1, .ref a1), (2, .ref a2), (3, .int p3), (4, .int x4), (5, .int x5)] → f_L_comes_b158 a0 a1 a2 p3 x4 x5 xs0 xs1 qs2 M = some (r, M') → W p l e ({ frames := 3, cells := 0, slots := 0, locals := 70 } : Room) s m args below meth c H locs 0 0 (MQ below (QV G (some (.int r)) M') args s 0 0 (gA G)) (F0 m 158 ls [.int xs0, .int xs1, .ref qs2]) := by
    intro x4 x5 xs0 xs1 qs2 M H locs ls h_qs2 hM hS hl hf
    rw [f_L_comes_b158] at hf
    refine lv_iconst (v := 1) hx hb dL_comes_158 (by decide) ?_
    exact b159 x4 x5 1 xs0 xs1 qs2 _ H locs ls h_qs2 hM hS (lv_sub hl [0, 1, 2, 3, 4, 5] rfl) hf
  have b53 : ∀ (n : Nat), ∀ (x4 : Int32) (x5 : Int32) (M : Mem) (H : Heap) (locs : List Loc) (ls : Array Slot), Mh G M H → va_S (gA G) s.heap H locs → lv_has ls 8 [(0, .ref a0), (1, .ref a1), (2, .ref a2), (3, .int p3), (4, .int x4), (5, .int x5)] → f_L_comes_b53 a0 a1 a2 p3 n x4 x5 M = some (r, M') → W p l e ({ frames := 3, cells := 0, slots := 0, locals := 70 } : Room) s m args below meth c H locs 0 0 (MQ below (QV G (some (.int r)) M') args s 0 0 (gA G)) (F0 m 53 ls []) := by
    intro n
    induction n with
    | zero =>
      intro x4 x5 M H locs ls hM hS hl hf
      rw [f_L_comes_b53] at hf
      cases hf
    | succ n ih =>
      intro x4 x5 M H locs ls hM hS hl hf
      rw [f_L_comes_b53] at hf
      refine lv_aload_n hx hb dL_comes_53 rfl (lv_at hl 0 rfl) ?_
      refine lv_iload hx hb dL_comes_54 (lv_at hl 4 rfl) ?_
      refine lv_bipush (v := 12) hx hb dL_comes_56 (by decide) ?_
      refine lv_iadd hx hb dL_comes_58 ?_
      obtain ⟨h_41, hf⟩ := gd_e hf
      refine s_iald 60 hx hb hK hM h0 (by decide) h_41 dL_comes_59 ?_
      refine lv_aload_n hx hb dL_comes_60 rfl (lv_at hl 2 rfl) ?_
      refine lv_iconst (v := 0) hx hb dL_comes_61 (by decide) ?_
      obtain ⟨h_42, hf⟩ := gd_e hf
      refine s_iald 64 hx hb hK hM h2 (by decide) h_42 dL_comes_62 ?_
      refine lv_icmp_ge (tgt := 101) hx hb dL_comes_63 (by decide) (fun g_43 => ?_) (fun g_43 => ?_)
      · rw [if_pos g_43] at hf
        refine lv_aload_n hx hb dL_comes_101 rfl (lv_at hl 0 rfl) ?_
        refine lv_iload hx hb dL_comes_102 (lv_at hl 4 rfl) ?_
        refine lv_bipush (v := 14) hx hb dL_comes_104 (by decide) ?_
        refine lv_iadd hx hb dL_comes_106 ?_
        refine lv_dup2_11 hx hb dL_comes_107 rfl rfl ?_
        obtain ⟨h_44, hf⟩ := gd_e hf
        refine s_iald 60 hx hb hK hM h0 (by decide) h_44 dL_comes_108 ?_
        refine lv_iload hx hb dL_comes_109 (lv_at hl 5 rfl) ?_
        refine lv_iadd hx hb dL_comes_111 ?_
        obtain ⟨h_45, hf⟩ := gd_e hf
        obtain ⟨M46, eM46, hf⟩ := nb_e hf
        refine s_iast 60 hx hb hK hM hS h0 (by decide) (ky_b hG h0) h_45 dL_comes_112 (fun H locs hM hS => ?_)
        rw [eM46] at hM
        refine lv_aload_n hx hb dL_comes_113 rfl (lv_at hl 2 rfl) ?_
        refine lv_iconst (v := 2) hx hb dL_comes_114 (by decide) ?_
        obtain ⟨h_47, hf⟩ := gd_e hf
        refine s_iald 64 hx hb hK hM h2 (by decide) h_47 dL_comes_115 ?_
        refine lv_iconst (v := 1) hx hb dL_comes_116 (by decide) ?_
        refine lv_icmp_ne (tgt := 181) hx hb dL_comes_117 (by decide) (fun g_48 => ?_) (fun g_48 => ?_)
        · rw [if_neg g_48] at hf
          exact b181 x4 x5 _ H locs ls hM hS (lv_sub hl [0, 1, 2, 3, 4, 5] rfl) hf
        · rw [if_pos g_48] at hf
          refine lv_aload_n hx hb dL_comes_120 rfl (lv_at hl 0 rfl) ?_
          refine lv_iload hx hb dL_comes_121 (lv_at hl 4 rfl) ?_
          refine lv_bipush (v := 16) hx hb dL_comes_123 (by decide) ?_
          refine lv_iadd hx hb dL_comes_125 ?_
          refine lv_dup2_11 hx hb dL_comes_126 rfl rfl ?_
          obtain ⟨h_49, hf⟩ := gd_e hf
          refine s_iald 60 hx hb hK hM h0 (by decide) h_49 dL_comes_127 ?_
          refine lv_aload_n hx hb dL_comes_128 rfl (lv_at hl 0 rfl) ?_
          refine lv_iload hx hb dL_comes_129 (lv_at hl 4 rfl) ?_
          refine lv_bipush (v := 10) hx hb dL_comes_131 (by decide) ?_
          refine lv_iadd hx hb dL_comes_133 ?_
          obtain ⟨h_50, hf⟩ := gd_e hf
          refine s_iald 60 hx hb hK hM h0 (by decide) h_50 dL_comes_134 ?_
          refine lv_aload_n hx hb dL_comes_135 rfl (lv_at hl 2 rfl) ?_
          refine lv_iconst (v := 3) hx hb dL_comes_136 (by decide) ?_
          obtain ⟨h_51, hf⟩ := gd_e hf
          refine s_iald 64 hx hb hK hM h2 (by decide) h_51 dL_comes_137 ?_
          refine lv_icmp_ne (tgt := 158) hx hb dL_comes_138 (by decide) (fun g_52 => ?_) (fun g_52 => ?_)
          · rw [if_neg g_52] at hf
            exact b158 x4 x5 (mI M46 a0 (x4 + 16).toNatClampNeg) (x4 + 16) a0 _ H locs ls h0 hM hS (lv_sub hl [0, 1, 2, 3, 4, 5] rfl) hf
          · rw [if_pos g_52] at hf
            refine lv_aload_n hx hb dL_comes_141 rfl (lv_at hl 0 rfl) ?_
            refine lv_iload hx hb dL_comes_142 (lv_at hl 4 rfl) ?_
            refine lv_bipush (v := 11) hx hb dL_comes_144 (by decide) ?_
            refine lv_iadd hx hb dL_comes_146 ?_
            obtain ⟨h_53, hf⟩ := gd_e hf
            refine s_iald 60 hx hb hK hM h0 (by decide) h_53 dL_comes_147 ?_
            refine lv_aload_n hx hb dL_comes_148 rfl (lv_at hl 2 rfl) ?_
            refine lv_iconst (v := 4) hx hb dL_comes_149 (by decide) ?_
            obtain ⟨h_54, hf⟩ := gd_e hf
            refine s_iald 64 hx hb hK hM h2 (by decide) h_54 dL_comes_150 ?_
            refine lv_icmp_ne (tgt := 158) hx hb dL_comes_151 (by decide) (fun g_55 => ?_) (fun g_55 => ?_)
            · rw [if_neg g_55] at hf
              exact b158 x4 x5 (mI M46 a0 (x4 + 16).toNatClampNeg) (x4 + 16) a0 _ H locs ls h0 hM hS (lv_sub hl [0, 1, 2, 3, 4, 5] rfl) hf
            · rw [if_pos g_55] at hf
              refine lv_iconst (v := 0) hx hb dL_comes_154 (by decide) ?_
              refine lv_goto (tgt := 159) hx hb dL_comes_155 (by decide) ?_
              exact b159 x4 x5 0 (mI M46 a0 (x4 + 16).toNatClampNeg) (x4 + 16) a0 _ H locs ls h0 hM hS (lv_sub hl [0, 1, 2, 3, 4, 5] rfl) hf
      · rw [if_neg g_43] at hf
        refine lv_aload_n hx hb dL_comes_66 rfl (lv_at hl 0 rfl) ?_
        refine lv_iload hx hb dL_comes_67 (lv_at hl 4 rfl) ?_
        refine lv_bipush (v := 10) hx hb dL_comes_69 (by decide) ?_
        refine lv_iadd hx hb dL_comes_71 ?_
        refine lv_aload_n hx hb dL_comes_72 rfl (lv_at hl 0 rfl) ?_
        refine lv_iload hx hb dL_comes_73 (lv_at hl 4 rfl) ?_
        refine lv_bipush (v := 10) hx hb dL_comes_75 (by decide) ?_
        refine lv_iadd hx hb dL_comes_77 ?_
        obtain ⟨h_56, hf⟩ := gd_e hf
        refine s_iald 60 hx hb hK hM h0 (by decide) h_56 dL_comes_78 ?_
        refine lv_iconst (v := 3) hx hb dL_comes_79 (by decide) ?_
        refine lv_imul hx hb dL_comes_80 ?_
        refine lv_iconst (v := 4) hx hb dL_comes_81 (by decide) ?_
        refine lv_idiv hx hb dL_comes_82 (by decide) ?_
        obtain ⟨h_57, hf⟩ := gd_e hf
        obtain ⟨M58, eM58, hf⟩ := nb_e hf
        refine s_iast 60 hx hb hK hM hS h0 (by decide) (ky_b hG h0) h_57 dL_comes_83 (fun H locs hM hS => ?_)
        rw [eM58] at hM
        refine lv_aload_n hx hb dL_comes_84 rfl (lv_at hl 0 rfl) ?_
        refine lv_iload hx hb dL_comes_85 (lv_at hl 4 rfl) ?_
        refine lv_bipush (v := 12) hx hb dL_comes_87 (by decide) ?_
        refine lv_iadd hx hb dL_comes_89 ?_
        refine lv_dup2_11 hx hb dL_comes_90 rfl rfl ?_
        obtain ⟨h_59, hf⟩ := gd_e hf
        refine s_iald 60 hx hb hK hM h0 (by decide) h_59 dL_comes_91 ?_
        refine lv_iconst (v := 1) hx hb dL_comes_92 (by decide) ?_
        refine lv_iadd hx hb dL_comes_93 ?_
        obtain ⟨h_60, hf⟩ := gd_e hf
        obtain ⟨M61, eM61, hf⟩ := nb_e hf
        refine s_iast 60 hx hb hK hM hS h0 (by decide) (ky_b hG h0) h_60 dL_comes_94 (fun H locs hM hS => ?_)
        rw [eM61] at hM
        obtain ⟨y62, ey62, hf⟩ := nb_e hf
        refine lv_iinc (v := y62) (lv' := [(5, .int y62), (0, .ref a0), (1, .ref a1), (2, .ref a2), (3, .int p3), (4, .int x4)]) hx hb dL_comes_95 hl (k := 5) rfl (by rw [← ey62]; rfl) (by decide) rfl (fun ls hl => ?_)
        refine lv_goto (tgt := 53) hx hb dL_comes_98 (by decide) ?_
        exact ih x4 y62 _ H locs ls hM hS (lv_sub hl [1, 2, 3, 4, 5, 0] rfl) hf
  rw [f_L_comes] at hf
  obtain ⟨H, hHe⟩ : ∃ H, H = s.heap := ⟨_, rfl⟩
  obtain ⟨locs, hLe⟩ : ∃ L : List Loc, L = [] := ⟨_, rfl⟩
  rw [← hHe] at hM
  have hS : va_S (gA G) s.heap H locs := by rw [hHe, hLe]; exact va_S.rf
  suffices hW : W p l e ({ frames := 3, cells := 0, slots := 0, locals := 70 } : Room) s m args below meth c H locs 0 0 (MQ below (QV G (some (.int r)) M') args s 0 0 (gA G)) (F0 m 0 ls []) by rw [hHe, hLe] at hW; exact hW
  refine lv_bipush (v := 20) hx hb dL_comes_0 (by decide) ?_
  refine lv_iload_n hx hb dL_comes_2 rfl (lv_at hl 3 rfl) ?_
  refine lv_imul hx hb dL_comes_3 ?_
  obtain ⟨y63, ey63, hf⟩ := nb_e hf
  refine s_nm ey63 ?_
  refine lv_istore (lv' := [(4, .int y63), (0, .ref a0), (1, .ref a1), (2, .ref a2), (3, .int p3)]) hx hb dL_comes_4 hl (by decide) rfl (fun ls hl => ?_)
  refine lv_aload_n hx hb dL_comes_6 rfl (lv_at hl 2 rfl) ?_
  refine lv_bipush (v := 6) hx hb dL_comes_7 (by decide) ?_
  refine lv_iload_n hx hb dL_comes_9 rfl (lv_at hl 4 rfl) ?_
  refine lv_iadd hx hb dL_comes_10 ?_
  refine lv_dup2_11 hx hb dL_comes_11 rfl rfl ?_
  obtain ⟨h_64, hf⟩ := gd_e hf
  refine s_iald 14 hx hb hK hM h1 (by decide) h_64 dL_comes_12 ?_
  refine lv_iconst (v := 1) hx hb dL_comes_13 (by decide) ?_
  refine lv_iadd hx hb dL_comes_14 ?_
  obtain ⟨h_65, hf⟩ := gd_e hf
  obtain ⟨M66, eM66, hf⟩ := nb_e hf
  refine s_iast 14 hx hb hK hM hS h1 (by decide) (ky_b hG h1) h_65 dL_comes_15 (fun H locs hM hS => ?_)
  rw [eM66] at hM
  refine lv_aload_n hx hb dL_comes_16 rfl (lv_at hl 3 rfl) ?_
  refine lv_iconst (v := 0) hx hb dL_comes_17 (by decide) ?_
  obtain ⟨h_67, hf⟩ := gd_e hf
  refine s_iald 64 hx hb hK hM h2 (by decide) h_67 dL_comes_18 ?_
  refine lv_aload_n hx hb dL_comes_19 rfl (lv_at hl 1 rfl) ?_
  refine lv_iload hx hb dL_comes_20 (lv_at hl 0 rfl) ?_
  refine lv_bipush (v := 12) hx hb dL_comes_22 (by decide) ?_
  refine lv_iadd hx hb dL_comes_24 ?_
  obtain ⟨h_68, hf⟩ := gd_e hf
  refine s_iald 60 hx hb hK hM h0 (by decide) h_68 dL_comes_25 ?_
  refine lv_icmp_ge (tgt := 50) hx hb dL_comes_26 (by decide) (fun g_69 => ?_) (fun g_69 => ?_)
  · rw [if_pos g_69] at hf
    refine lv_iconst (v := 0) hx hb dL_comes_50 (by decide) ?_
    refine lv_istore (lv' := [(5, .int 0), (4, .int y63), (0, .ref a0), (1, .ref a1), (2, .ref a2), (3, .int p3)]) hx hb dL_comes_51 hl (by decide) rfl (fun ls hl => ?_)
    exact b53 _ y63 0 _ H locs ls hM hS (lv_sub hl [2, 3, 4, 5, 1, 0] rfl) hf
  · rw [if_neg g_69] at hf
    refine lv_aload_n hx hb dL_comes_29 rfl (lv_at hl 1 rfl) ?_
    refine lv_iload hx hb dL_comes_30 (lv_at hl 0 rfl) ?_
    refine lv_bipush (v := 15) hx hb dL_comes_32 (by decide) ?_
    refine lv_iadd hx hb dL_comes_34 ?_
    refine lv_dup2_11 hx hb dL_comes_35 rfl rfl ?_
    obtain ⟨h_70, hf⟩ := gd_e hf
    refine s_iald 60 hx hb hK hM h0 (by decide) h_70 dL_comes_36 ?_
    refine lv_iconst (v := 1) hx hb dL_comes_37 (by decide) ?_
    refine lv_iadd hx hb dL_comes_38 ?_
    obtain ⟨h_71, hf⟩ := gd_e hf
    obtain ⟨M72, eM72, hf⟩ := nb_e hf
    refine s_iast 60 hx hb hK hM hS h0 (by decide) (ky_b hG h0) h_71 dL_comes_39 (fun H locs hM hS => ?_)
    rw [eM72] at hM
    refine lv_aload_n hx hb dL_comes_40 rfl (lv_at hl 1 rfl) ?_
    refine lv_aload_n hx hb dL_comes_41 rfl (lv_at hl 3 rfl) ?_
    refine lv_iload_n hx hb dL_comes_42 rfl (lv_at hl 4 rfl) ?_
    obtain ⟨M74, e_73, hf⟩ := vb_e hf
    refine c_Sv hx hb hml hown hts hV hM hS (As := [.ref a0, .ref a2, .int p3]) (rest := []) (k_L_moves G hG l a0 h0 a2 h2 p3 M72 e_73) w_L_moves (tk_491 hts) ⟨⟨rfl, rfl⟩, Nat.le_of_ble_eq_true rfl, Nat.le_of_ble_eq_true rfl⟩ ⟨Nat.zero_le _, Nat.zero_le _⟩ rfl hl.1 rfl (Nat.le_of_ble_eq_true rfl) dL_comes_43 (fun H locs hM hS => ?_)
    refine lv_sipush (v := (-10000)) hx hb dL_comes_46 (by decide) ?_
    exact ef_im hx hb hr hlocks hM hS hf dL_comes_49
