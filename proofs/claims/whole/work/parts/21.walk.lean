def f_X8_digest_b138 (a0 : Nat) : Nat → Int64 → Int32 → Mem → Option (Int64 × Mem)
  | 0, _, _, _ => none
  | n + 1, x1, x3, M => if (mI M (a0 + 274) 1) ≤ x3 then (some (x1, M)) else (vb (f_X6_signAt (a0 + 274) x3 M) fun r3 => vb (f_X8_mixed x1 r3.toInt64 M) fun r5 => nb (x3 + 1) fun y6 => f_X8_digest_b138 a0 n r5 y6 M)
def f_X8_digest_b119 (a0 : Nat) (xs0 : Int64) (xs1 : Int64) (M : Mem) : Option (Int64 × Mem) := vb (f_X8_mixed xs1 xs0 M) fun r8 => vb (f_X8_mixed r8 ((mI M (a0 + 274) 1).toInt64) M) fun r10 => f_X8_digest_b138 a0 lfuel r10 0 M
def f_X8_digest_b61 (a0 : Nat) : Nat → Int64 → Int32 → Mem → Option (Int64 × Mem)
  | 0, _, _, _ => none
  | n + 1, x1, x3, M => if (3 : Int32) ≤ x3 then (vb (f_X8_shareOfLost a0 M) fun r13 => vb (f_X8_bitsOfFloat r13 M) fun r15 => vb (f_X8_mixed x1 r15 M) fun r17 => if (mI M a0 2) = 0 then (f_X8_digest_b119 a0 (0 : Int64) r17 M) else (f_X8_digest_b119 a0 (1 : Int64) r17 M)) else (gd (ix x3 3) <| nb ((a0 + 1) + 1 + 3 + 44 * x3.toNatClampNeg) fun z21 => cb (f_X8_withVoice a0 x1 z21 M) fun r23 M24 => nb (x3 + 1) fun y25 => f_X8_digest_b61 a0 n r23 y25 M24)
def f_X8_digest_b31 (a0 : Nat) : Nat → Int64 → Int32 → Mem → Option (Int64 × Mem)
  | 0, _, _, _ => none
  | n + 1, x1, x3, M => if (3 : Int32) < x3 then (f_X8_digest_b61 a0 lfuel x1 0 M) else (vb (f_X4_valueOf ((a0 + 1) + 2) x3 M) fun r28 => vb (f_X8_mixed x1 r28.toInt64 M) fun r30 => nb (x3 + 1) fun y31 => f_X8_digest_b31 a0 n r30 y31 M)
def f_X8_digest_b6 (a0 : Nat) : Nat → Int64 → Int32 → Mem → Option (Int64 × Mem)
  | 0, _, _, _ => none
  | n + 1, x1, x3, M => if (7 : Int32) < x3 then (f_X8_digest_b31 a0 lfuel x1 0 M) else (cb (f_X8_tellCount a0 x3 M) fun r34 M35 => vb (f_X8_mixed x1 r34.toInt64 M35) fun r37 => nb (x3 + 1) fun y38 => f_X8_digest_b6 a0 n r37 y38 M35)
def f_X8_digest (a0 : Nat) (M : Mem) : Option (Int64 × Mem) := nb (3637 : Int64) fun y39 => f_X8_digest_b6 a0 lfuel y39 0 M
set_option maxHeartbeats 4000000 in
set_option maxRecDepth 100000 in
theorem k_X8_digest (G : Gt) (hG : gOK G) (l : Launch) (a0 : Nat) (h0 : gK G a0 = 9) (M : Mem) {r : Int64} {M' : Mem} (hf : f_X8_digest a0 M = some (r, M')) : Kc G l yX8_digest cX8_digest 4 (some .long) ({ frames := 7, cells := 0, slots := 0, locals := 161 } : Room) [.ref a0] M (some (.long r)) M' := by
  refine start (by decide) (Nat.le_of_ble_eq_true rfl) ?_
  intro p e s m args below meth c ls hx hb hr hown hml hlocks hts hV hM hl
  have hown : s.vm.findClass "FoldedVoices" = some m.cls := hown
  have hK := hG.1.moved hV
  have hS : va_S (gA G) s.heap s.heap [] := va_S.rf
  have hl : lv_has ls 4 [(0, .ref a0)] := hl
  have hM0 := hM
  have b138 : ∀ (n : Nat), ∀ (x1 : Int64) (x3 : Int32) (M : Mem) (H : Heap) (locs : List Loc) (ls : Array Slot), Mh G M H → va_S (gA G) s.heap H locs → lv_has ls 4 [(0, .ref a0), (1, .long x1), (3, .int x3)] → f_X8_digest_b138 a0 n x1 x3 M = some (r, M') → W p l e ({ frames := 7, cells := 0, slots := 0, locals := 161 } : Room) s m args below meth c H locs 0 0 (MQ below (QV G (some (.long r)) M') args s 0 0 (gA G)) (F0 m 138 ls []) := by
    intro n
    induction n with
    | zero =>
      intro x1 x3 M H locs ls hM hS hl hf
      rw [f_X8_digest_b138] at hf
      cases hf
    | succ n ih =>
      intro x1 x3 M H locs ls hM hS hl hf
      rw [f_X8_digest_b138] at hf
      refine lv_iload_n hx hb dX8_digest_138 rfl (lv_at hl 2 rfl) ?_
      refine lv_aload_n hx hb dX8_digest_139 rfl (lv_at hl 0 rfl) ?_
      refine s_get hx hb (lay_8 hts) hown hK hM (c_9 h0) rfl 5 (by decide) rfl rfl (tk_285 hts) dX8_digest_140 ?_
      refine s_getN hx hb (lay_6 hts) hown hK hM (c_7 (ky_9_5 hG h0)) rfl 1 (by decide) rfl rfl (tk_251 hts) dX8_digest_143 ?_
      refine lv_icmp_ge (tgt := 169) hx hb dX8_digest_146 (by decide) (fun g_1 => ?_) (fun g_1 => ?_)
      · rw [if_pos g_1] at hf
        refine lv_lload_n hx hb dX8_digest_169 rfl (lv_at hl 1 rfl) ?_
        exact ef_lm hx hb hr hlocks hM hS hf dX8_digest_170
      · rw [if_neg g_1] at hf
        refine lv_lload_n hx hb dX8_digest_149 rfl (lv_at hl 1 rfl) ?_
        refine lv_aload_n hx hb dX8_digest_150 rfl (lv_at hl 0 rfl) ?_
        refine s_get hx hb (lay_8 hts) hown hK hM (c_9 h0) rfl 5 (by decide) rfl rfl (tk_285 hts) dX8_digest_151 ?_
        refine lv_iload_n hx hb dX8_digest_154 rfl (lv_at hl 2 rfl) ?_
        obtain ⟨r3, e_2, hf⟩ := vb_e hf
        refine c_Vi hx hb hml hown hts hV hK hM hS (As := [.int x3]) (rest := [.long x1]) (k_X6_signAt G hG l (a0 + 274) (ky_9_5 hG h0) x3 M e_2) w_X6_signAt (tk_561 hts) (c_7 (ky_9_5 hG h0)) rfl rfl ⟨⟨rfl, rfl⟩, Nat.le_of_ble_eq_true rfl, Nat.le_of_ble_eq_true rfl⟩ ⟨Nat.zero_le _, Nat.zero_le _⟩ rfl hl.1 rfl (Nat.le_of_ble_eq_true rfl) dX8_digest_155 (fun H locs hM hS => ?_)
        refine lv_i2l hx hb dX8_digest_158 rfl ?_
        obtain ⟨r5, e_4, hf⟩ := vb_e hf
        refine c_Sj hx hb hml hown hts hV hM hS (As := [.long x1, .long r3.toInt64]) (rest := []) (k_X8_mixed G hG l x1 r3.toInt64 M e_4) w_X8_mixed (tk_479 hts) ⟨⟨rfl, rfl⟩, Nat.le_of_ble_eq_true rfl, Nat.le_of_ble_eq_true rfl⟩ ⟨Nat.zero_le _, Nat.zero_le _⟩ rfl hl.1 rfl (Nat.le_of_ble_eq_true rfl) dX8_digest_159 (fun H locs hM hS => ?_)
        refine lv_lstore_n (lv' := [(1, .long r5), (0, .ref a0), (3, .int x3)]) hx hb dX8_digest_162 rfl hl (by decide) rfl (fun ls hl => ?_)
        obtain ⟨y6, ey6, hf⟩ := nb_e hf
        refine lv_iinc (v := y6) (lv' := [(3, .int y6), (1, .long r5), (0, .ref a0)]) hx hb dX8_digest_163 hl (k := 2) rfl (by rw [← ey6]; rfl) (by decide) rfl (fun ls hl => ?_)
        refine lv_goto (tgt := 138) hx hb dX8_digest_166 (by decide) ?_
        exact ih r5 y6 _ H locs ls hM hS (lv_sub hl [2, 1, 0] rfl) hf
  have b119 : ∀ (xs0 : Int64) (xs1 : Int64) (M : Mem) (H : Heap) (locs : List Loc) (ls : Array Slot), Mh G M H → va_S (gA G) s.heap H locs → lv_has ls 4 [(0, .ref a0)] → f_X8_digest_b119 a0 xs0 xs1 M = some (r, M') → W p l e ({ frames := 7, cells := 0, slots := 0, locals := 161 } : Room) s m args below meth c H locs 0 0 (MQ below (QV G (some (.long r)) M') args s 0 0 (gA G)) (F0 m 119 ls [.long xs0, .long xs1]) := by
    intro xs0 xs1 M H locs ls hM hS hl hf
    rw [f_X8_digest_b119] at hf
    obtain ⟨r8, e_7, hf⟩ := vb_e hf
    refine c_Sj hx hb hml hown hts hV hM hS (As := [.long xs1, .long xs0]) (rest := []) (k_X8_mixed G hG l xs1 xs0 M e_7) w_X8_mixed (tk_479 hts) ⟨⟨rfl, rfl⟩, Nat.le_of_ble_eq_true rfl, Nat.le_of_ble_eq_true rfl⟩ ⟨Nat.zero_le _, Nat.zero_le _⟩ rfl hl.1 rfl (Nat.le_of_ble_eq_true rfl) dX8_digest_119 (fun H locs hM hS => ?_)
    refine lv_lstore_n (lv' := [(1, .long r8), (0, .ref a0)]) hx hb dX8_digest_122 rfl hl (by decide) rfl (fun ls hl => ?_)
    refine lv_lload_n hx hb dX8_digest_123 rfl (lv_at hl 0 rfl) ?_
    refine lv_aload_n hx hb dX8_digest_124 rfl (lv_at hl 1 rfl) ?_
    refine s_get hx hb (lay_8 hts) hown hK hM (c_9 h0) rfl 5 (by decide) rfl rfl (tk_285 hts) dX8_digest_125 ?_
    refine s_getN hx hb (lay_6 hts) hown hK hM (c_7 (ky_9_5 hG h0)) rfl 1 (by decide) rfl rfl (tk_251 hts) dX8_digest_128 ?_
    refine lv_i2l hx hb dX8_digest_131 rfl ?_
    obtain ⟨r10, e_9, hf⟩ := vb_e hf
    refine c_Sj hx hb hml hown hts hV hM hS (As := [.long r8, .long ((mI M (a0 + 274) 1).toInt64)]) (rest := []) (k_X8_mixed G hG l r8 ((mI M (a0 + 274) 1).toInt64) M e_9) w_X8_mixed (tk_479 hts) ⟨⟨rfl, rfl⟩, Nat.le_of_ble_eq_true rfl, Nat.le_of_ble_eq_true rfl⟩ ⟨Nat.zero_le _, Nat.zero_le _⟩ rfl hl.1 rfl (Nat.le_of_ble_eq_true rfl) dX8_digest_132 (fun H locs hM hS => ?_)
    refine lv_lstore_n (lv' := [(1, .long r10), (0, .ref a0)]) hx hb dX8_digest_135 rfl hl (by decide) rfl (fun ls hl => ?_)
    refine lv_iconst (v := 0) hx hb dX8_digest_136 (by decide) ?_
    refine lv_istore_n (lv' := [(3, .int 0), (1, .long r10), (0, .ref a0)]) hx hb dX8_digest_137 rfl hl (by decide) rfl (fun ls hl => ?_)
    exact b138 _ r10 0 _ H locs ls hM hS (lv_sub hl [2, 1, 0] rfl) hf
  have b61 : ∀ (n : Nat), ∀ (x1 : Int64) (x3 : Int32) (M : Mem) (H : Heap) (locs : List Loc) (ls : Array Slot), Mh G M H → va_S (gA G) s.heap H locs → lv_has ls 4 [(0, .ref a0), (1, .long x1), (3, .int x3)] → f_X8_digest_b61 a0 n x1 x3 M = some (r, M') → W p l e ({ frames := 7, cells := 0, slots := 0, locals := 161 } : Room) s m args below meth c H locs 0 0 (MQ below (QV G (some (.long r)) M') args s 0 0 (gA G)) (F0 m 61 ls []) := by
    intro n
    induction n with
    | zero =>
      intro x1 x3 M H locs ls hM hS hl hf
      rw [f_X8_digest_b61] at hf
      cases hf
    | succ n ih =>
      intro x1 x3 M H locs ls hM hS hl hf
      rw [f_X8_digest_b61] at hf
      refine lv_iload_n hx hb dX8_digest_61 rfl (lv_at hl 2 rfl) ?_
      refine lv_aload_n hx hb dX8_digest_62 rfl (lv_at hl 0 rfl) ?_
      refine s_get hx hb (lay_8 hts) hown hK hM (c_9 h0) rfl 0 (by decide) rfl rfl (tk_280 hts) dX8_digest_63 ?_
      refine s_getN hx hb (lay_5 hts) hown hK hM (c_6 (ky_9_0 hG h0)) rfl 0 (by decide) rfl rfl (tk_234 hts) dX8_digest_66 ?_
      refine s_alen 3 hx hb hK hM (cel_va (ky_6_0 hG (ky_9_0 hG h0))) rfl (v := 3) (show Int32.ofNat 3 = 3 from by decide) dX8_digest_69 ?_
      refine lv_icmp_ge (tgt := 94) hx hb dX8_digest_70 (by decide) (fun g_11 => ?_) (fun g_11 => ?_)
      · rw [if_pos g_11] at hf
        refine lv_lload_n hx hb dX8_digest_94 rfl (lv_at hl 1 rfl) ?_
        refine lv_aload_n hx hb dX8_digest_95 rfl (lv_at hl 0 rfl) ?_
        obtain ⟨r13, e_12, hf⟩ := vb_e hf
        refine c_Vf hx hb hml hown hts hV hK hM hS (As := []) (rest := [.long x1]) (k_X8_shareOfLost G hG l a0 h0 M e_12) w_X8_shareOfLost (tk_394 hts) (c_9 h0) rfl rfl ⟨⟨rfl, rfl⟩, Nat.le_of_ble_eq_true rfl, Nat.le_of_ble_eq_true rfl⟩ ⟨Nat.zero_le _, Nat.zero_le _⟩ rfl hl.1 rfl (Nat.le_of_ble_eq_true rfl) dX8_digest_96 (fun H locs hM hS => ?_)
        obtain ⟨r15, e_14, hf⟩ := vb_e hf
        refine c_Sj hx hb hml hown hts hV hM hS (As := [.float r13]) (rest := [.long x1]) (k_X8_bitsOfFloat G hG l r13 M e_14) w_X8_bitsOfFloat (tk_556 hts) ⟨⟨rfl, rfl⟩, Nat.le_of_ble_eq_true rfl, Nat.le_of_ble_eq_true rfl⟩ ⟨Nat.zero_le _, Nat.zero_le _⟩ rfl hl.1 rfl (Nat.le_of_ble_eq_true rfl) dX8_digest_99 (fun H locs hM hS => ?_)
        obtain ⟨r17, e_16, hf⟩ := vb_e hf
        refine c_Sj hx hb hml hown hts hV hM hS (As := [.long x1, .long r15]) (rest := []) (k_X8_mixed G hG l x1 r15 M e_16) w_X8_mixed (tk_479 hts) ⟨⟨rfl, rfl⟩, Nat.le_of_ble_eq_true rfl, Nat.le_of_ble_eq_true rfl⟩ ⟨Nat.zero_le _, Nat.zero_le _⟩ rfl hl.1 rfl (Nat.le_of_ble_eq_true rfl) dX8_digest_102 (fun H locs hM hS => ?_)
        refine lv_lstore_n (lv' := [(1, .long r17), (0, .ref a0), (3, .int x3)]) hx hb dX8_digest_105 rfl hl (by decide) rfl (fun ls hl => ?_)
        refine lv_lload_n hx hb dX8_digest_106 rfl (lv_at hl 0 rfl) ?_
        refine lv_aload_n hx hb dX8_digest_107 rfl (lv_at hl 1 rfl) ?_
        refine s_get hx hb (lay_8 hts) hown hK hM (c_9 h0) rfl 2 (by decide) rfl rfl (tk_282 hts) dX8_digest_108 ?_
        refine lv_if_eq (tgt := 118) hx hb dX8_digest_111 (by decide) (fun g_18 => ?_) (fun g_18 => ?_)
        · rw [if_pos g_18] at hf
          refine lv_lconst (v := 0) hx hb dX8_digest_118 (by decide) ?_
          exact b119 (0 : Int64) r17 _ H locs ls hM hS (lv_sub hl [1] rfl) hf
        · rw [if_neg g_18] at hf
          refine lv_lconst (v := 1) hx hb dX8_digest_114 (by decide) ?_
          refine lv_goto (tgt := 119) hx hb dX8_digest_115 (by decide) ?_
          exact b119 (1 : Int64) r17 _ H locs ls hM hS (lv_sub hl [1] rfl) hf
      · rw [if_neg g_11] at hf
        refine lv_aload_n hx hb dX8_digest_73 rfl (lv_at hl 0 rfl) ?_
        refine lv_lload_n hx hb dX8_digest_74 rfl (lv_at hl 1 rfl) ?_
        refine lv_aload_n hx hb dX8_digest_75 rfl (lv_at hl 0 rfl) ?_
        refine s_get hx hb (lay_8 hts) hown hK hM (c_9 h0) rfl 0 (by decide) rfl rfl (tk_280 hts) dX8_digest_76 ?_
        refine s_getN hx hb (lay_5 hts) hown hK hM (c_6 (ky_9_0 hG h0)) rfl 0 (by decide) rfl rfl (tk_234 hts) dX8_digest_79 ?_
        refine lv_iload_n hx hb dX8_digest_82 rfl (lv_at hl 2 rfl) ?_
        obtain ⟨h_19, hf⟩ := gd_e hf
        refine s_vaald hx hb hK hM (ky_vs hG (ky_6_0 hG (ky_9_0 hG h0))) (ky_6_0 hG (ky_9_0 hG h0)) h_19 dX8_digest_83 (fun h_20 => ?_)
        obtain ⟨z21, ez21, hf⟩ := nb_e hf
        refine s_nmr ez21 ?_
        have h_z21 : gK G z21 = 8 := ez21 ▸ h_20
        obtain ⟨r23, M24, e_22, hf⟩ := cb_e hf
        refine c_Vj hx hb hml hown hts hV hK hM hS (As := [.long x1, .ref z21]) (rest := []) (k_X8_withVoice G hG l a0 h0 x1 z21 h_z21 M e_22) w_X8_withVoice (tk_487 hts) (c_9 h0) rfl rfl ⟨⟨rfl, rfl⟩, Nat.le_of_ble_eq_true rfl, Nat.le_of_ble_eq_true rfl⟩ ⟨Nat.zero_le _, Nat.zero_le _⟩ rfl hl.1 rfl (Nat.le_of_ble_eq_true rfl) dX8_digest_84 (fun H locs hM hS => ?_)
        refine lv_lstore_n (lv' := [(1, .long r23), (0, .ref a0), (3, .int x3)]) hx hb dX8_digest_87 rfl hl (by decide) rfl (fun ls hl => ?_)
        obtain ⟨y25, ey25, hf⟩ := nb_e hf
        refine lv_iinc (v := y25) (lv' := [(3, .int y25), (1, .long r23), (0, .ref a0)]) hx hb dX8_digest_88 hl (k := 2) rfl (by rw [← ey25]; rfl) (by decide) rfl (fun ls hl => ?_)
        refine lv_goto (tgt := 61) hx hb dX8_digest_91 (by decide) ?_
        exact ih r23 y25 _ H locs ls hM hS (lv_sub hl [2, 1, 0] rfl) hf
  have b31 : ∀ (n : Nat), ∀ (x1 : Int64) (x3 : Int32) (M : Mem) (H : Heap) (locs : List Loc) (ls : Array Slot), Mh G M H → va_S (gA G) s.heap H locs → lv_has ls 4 [(0, .ref a0), (1, .long x1), (3, .int x3)] → f_X8_digest_b31 a0 n x1 x3 M = some (r, M') → W p l e ({ frames := 7, cells := 0, slots := 0, locals := 161 } : Room) s m args below meth c H locs 0 0 (MQ below (QV G (some (.long r)) M') args s 0 0 (gA G)) (F0 m 31 ls []) := by
    intro n
    induction n with
    | zero =>
      intro x1 x3 M H locs ls hM hS hl hf
      rw [f_X8_digest_b31] at hf
      cases hf
    | succ n ih =>
      intro x1 x3 M H locs ls hM hS hl hf
      rw [f_X8_digest_b31] at hf
      refine lv_iload_n hx hb dX8_digest_31 rfl (lv_at hl 2 rfl) ?_
      refine lv_iconst (v := 3) hx hb dX8_digest_32 (by decide) ?_
      refine lv_icmp_gt (tgt := 59) hx hb dX8_digest_33 (by decide) (fun g_26 => ?_) (fun g_26 => ?_)
      · rw [if_pos g_26] at hf
        refine lv_iconst (v := 0) hx hb dX8_digest_59 (by decide) ?_
        refine lv_istore_n (lv' := [(3, .int 0), (0, .ref a0), (1, .long x1)]) hx hb dX8_digest_60 rfl hl (by decide) rfl (fun ls hl => ?_)
        exact b61 _ x1 0 _ H locs ls hM hS (lv_sub hl [1, 2, 0] rfl) hf
      · rw [if_neg g_26] at hf
        refine lv_lload_n hx hb dX8_digest_36 rfl (lv_at hl 1 rfl) ?_
        refine lv_aload_n hx hb dX8_digest_37 rfl (lv_at hl 0 rfl) ?_
        refine s_get hx hb (lay_8 hts) hown hK hM (c_9 h0) rfl 0 (by decide) rfl rfl (tk_280 hts) dX8_digest_38 ?_
        refine s_getN hx hb (lay_5 hts) hown hK hM (c_6 (ky_9_0 hG h0)) rfl 1 (by decide) rfl rfl (tk_236 hts) dX8_digest_41 ?_
        refine lv_iload_n hx hb dX8_digest_44 rfl (lv_at hl 2 rfl) ?_
        obtain ⟨r28, e_27, hf⟩ := vb_e hf
        refine c_Vi hx hb hml hown hts hV hK hM hS (As := [.int x3]) (rest := [.long x1]) (k_X4_valueOf G hG l ((a0 + 1) + 2) (ky_6_1 hG (ky_9_0 hG h0)) x3 M e_27) w_X4_valueOf (tk_483 hts) (c_5 (ky_6_1 hG (ky_9_0 hG h0))) rfl rfl ⟨⟨rfl, rfl⟩, Nat.le_of_ble_eq_true rfl, Nat.le_of_ble_eq_true rfl⟩ ⟨Nat.zero_le _, Nat.zero_le _⟩ rfl hl.1 rfl (Nat.le_of_ble_eq_true rfl) dX8_digest_45 (fun H locs hM hS => ?_)
        refine lv_i2l hx hb dX8_digest_48 rfl ?_
        obtain ⟨r30, e_29, hf⟩ := vb_e hf
        refine c_Sj hx hb hml hown hts hV hM hS (As := [.long x1, .long r28.toInt64]) (rest := []) (k_X8_mixed G hG l x1 r28.toInt64 M e_29) w_X8_mixed (tk_479 hts) ⟨⟨rfl, rfl⟩, Nat.le_of_ble_eq_true rfl, Nat.le_of_ble_eq_true rfl⟩ ⟨Nat.zero_le _, Nat.zero_le _⟩ rfl hl.1 rfl (Nat.le_of_ble_eq_true rfl) dX8_digest_49 (fun H locs hM hS => ?_)
        refine lv_lstore_n (lv' := [(1, .long r30), (0, .ref a0), (3, .int x3)]) hx hb dX8_digest_52 rfl hl (by decide) rfl (fun ls hl => ?_)
        obtain ⟨y31, ey31, hf⟩ := nb_e hf
        refine lv_iinc (v := y31) (lv' := [(3, .int y31), (1, .long r30), (0, .ref a0)]) hx hb dX8_digest_53 hl (k := 2) rfl (by rw [← ey31]; rfl) (by decide) rfl (fun ls hl => ?_)
        refine lv_goto (tgt := 31) hx hb dX8_digest_56 (by decide) ?_
        exact ih r30 y31 _ H locs ls hM hS (lv_sub hl [2, 1, 0] rfl) hf
  have b6 : ∀ (n : Nat), ∀ (x1 : Int64) (x3 : Int32) (M : Mem) (H : Heap) (locs : List Loc) (ls : Array Slot), Mh G M H → va_S (gA G) s.heap H locs → lv_has ls 4 [(0, .ref a0), (1, .long x1), (3, .int x3)] → f_X8_digest_b6 a0 n x1 x3 M = some (r, M') → W p l e ({ frames := 7, cells := 0, slots := 0, locals := 161 } : Room) s m args below meth c H locs 0 0 (MQ below (QV G (some (.long r)) M') args s 0 0 (gA G)) (F0 m 6 ls []) := by
    intro n
    induction n with
    | zero =>
      intro x1 x3 M H locs ls hM hS hl hf
      rw [f_X8_digest_b6] at hf
      cases hf
    | succ n ih =>
      intro x1 x3 M H locs ls hM hS hl hf
      rw [f_X8_digest_b6] at hf
      refine lv_iload_n hx hb dX8_digest_6 rfl (lv_at hl 2 rfl) ?_
      refine lv_bipush (v := 7) hx hb dX8_digest_7 (by decide) ?_
      refine lv_icmp_gt (tgt := 29) hx hb dX8_digest_9 (by decide) (fun g_32 => ?_) (fun g_32 => ?_)
      · rw [if_pos g_32] at hf
        refine lv_iconst (v := 0) hx hb dX8_digest_29 (by decide) ?_
        refine lv_istore_n (lv' := [(3, .int 0), (0, .ref a0), (1, .long x1)]) hx hb dX8_digest_30 rfl hl (by decide) rfl (fun ls hl => ?_)
        exact b31 _ x1 0 _ H locs ls hM hS (lv_sub hl [1, 2, 0] rfl) hf
      · rw [if_neg g_32] at hf
        refine lv_lload_n hx hb dX8_digest_12 rfl (lv_at hl 1 rfl) ?_
        refine lv_aload_n hx hb dX8_digest_13 rfl (lv_at hl 0 rfl) ?_
        refine lv_iload_n hx hb dX8_digest_14 rfl (lv_at hl 2 rfl) ?_
        obtain ⟨r34, M35, e_33, hf⟩ := cb_e hf
        refine c_Vi hx hb hml hown hts hV hK hM hS (As := [.int x3]) (rest := [.long x1]) (k_X8_tellCount G hG l a0 h0 x3 M e_33) w_X8_tellCount (tk_403 hts) (c_9 h0) rfl rfl ⟨⟨rfl, rfl⟩, Nat.le_of_ble_eq_true rfl, Nat.le_of_ble_eq_true rfl⟩ ⟨Nat.zero_le _, Nat.zero_le _⟩ rfl hl.1 rfl (Nat.le_of_ble_eq_true rfl) dX8_digest_15 (fun H locs hM hS => ?_)
        refine lv_i2l hx hb dX8_digest_18 rfl ?_
        obtain ⟨r37, e_36, hf⟩ := vb_e hf
        refine c_Sj hx hb hml hown hts hV hM hS (As := [.long x1, .long r34.toInt64]) (rest := []) (k_X8_mixed G hG l x1 r34.toInt64 M35 e_36) w_X8_mixed (tk_479 hts) ⟨⟨rfl, rfl⟩, Nat.le_of_ble_eq_true rfl, Nat.le_of_ble_eq_true rfl⟩ ⟨Nat.zero_le _, Nat.zero_le _⟩ rfl hl.1 rfl (Nat.le_of_ble_eq_true rfl) dX8_digest_19 (fun H locs hM hS => ?_)
        refine lv_lstore_n (lv' := [(1, .long r37), (0, .ref a0), (3, .int x3)]) hx hb dX8_digest_22 rfl hl (by decide) rfl (fun ls hl => ?_)
        obtain ⟨y38, ey38, hf⟩ := nb_e hf
        refine lv_iinc (v := y38) (lv' := [(3, .int y38), (1, .long r37), (0, .ref a0)]) hx hb dX8_digest_23 hl (k := 2) rfl (by rw [← ey38]; rfl) (by decide) rfl (fun ls hl => ?_)
        refine lv_goto (tgt := 6) hx hb dX8_digest_26 (by decide) ?_
        exact ih r37 y38 _ H locs ls hM hS (lv_sub hl [2, 1, 0] rfl) hf
  rw [f_X8_digest] at hf
  obtain ⟨H, hHe⟩ : ∃ H, H = s.heap := ⟨_, rfl⟩
  obtain ⟨locs, hLe⟩ : ∃ L : List Loc, L = [] := ⟨_, rfl⟩
  rw [← hHe] at hM
  have hS : va_S (gA G) s.heap H locs := by rw [hHe, hLe]; exact va_S.rf
  suffices hW : W p l e ({ frames := 7, cells := 0, slots := 0, locals := 161 } : Room) s m args below meth c H locs 0 0 (MQ below (QV G (some (.long r)) M') args s 0 0 (gA G)) (F0 m 0 ls []) by rw [hHe, hLe] at hW; exact hW
  refine lv_ldc2 hx hb hown (tk_402 hts) dX8_digest_0 ?_
  obtain ⟨y39, ey39, hf⟩ := nb_e hf
  refine s_nml ey39 ?_
  refine lv_lstore_n (lv' := [(1, .long y39), (0, .ref a0)]) hx hb dX8_digest_3 rfl hl (by decide) rfl (fun ls hl => ?_)
  refine lv_iconst (v := 0) hx hb dX8_digest_4 (by decide) ?_
  refine lv_istore_n (lv' := [(3, .int 0), (1, .long y39), (0, .ref a0)]) hx hb dX8_digest_5 rfl hl (by decide) rfl (fun ls hl => ?_)
  exact b6 _ y39 0 _ H locs ls hM hS (lv_sub hl [2, 1, 0] rfl) hf
def f_X9_thrown (a0 : Nat) (M : Mem) : Option Int32 := some (mI M a0 7)
set_option maxHeartbeats 4000000 in
set_option maxRecDepth 100000 in
theorem k_X9_thrown (G : Gt) (hG : gOK G) (l : Launch) (a0 : Nat) (h0 : gK G a0 = 10) (M : Mem) {r : Int32} (hf : f_X9_thrown a0 M = some r) : Kc G l yX9_thrown cX9_thrown 1 (some .int) ({ frames := 0, cells := 0, slots := 0, locals := 0 } : Room) [.ref a0] M (some (.int r)) M := by
  refine start (by decide) (Nat.le_of_ble_eq_true rfl) ?_
  intro p e s m args below meth c ls hx hb hr hown hml hlocks hts hV hM hl
  have hown : s.vm.findClass "FoldedVoicesModel" = some m.cls := hown
  have hK := hG.1.moved hV
  have hS : va_S (gA G) s.heap s.heap [] := va_S.rf
  have hl : lv_has ls 1 [(0, .ref a0)] := hl
  have hM0 := hM
  rw [f_X9_thrown] at hf
  refine lv_aload_n hx hb dX9_thrown_0 rfl (lv_at hl 0 rfl) ?_
  refine s_get hx hb (lay_9 hts) hown hK hM (c_10 h0) rfl 7 (by decide) rfl rfl (tk_970 hts) dX9_thrown_1 ?_
  exact ef_ip hx hb hr hlocks hM hS hf dX9_thrown_4
def f_X9_fails (a0 : Nat) (p1 : Int32) (M : Mem) : Option (Int32 × Mem) := nb (sI M a0 7 p1) fun M1 => some (0, M1)
set_option maxHeartbeats 4000000 in
set_option maxRecDepth 100000 in
theorem k_X9_fails (G : Gt) (hG : gOK G) (l : Launch) (a0 : Nat) (h0 : gK G a0 = 10) (p1 : Int32) (M : Mem) {r : Int32} {M' : Mem} (hf : f_X9_fails a0 p1 M = some (r, M')) : Kc G l yX9_fails cX9_fails 2 (some .int) ({ frames := 0, cells := 0, slots := 0, locals := 0 } : Room) [.ref a0, .int p1] M (some (.int r)) M' := by
  refine start (by decide) (Nat.le_of_ble_eq_true rfl) ?_
  intro p e s m args below meth c ls hx hb hr hown hml hlocks hts hV hM hl
  have hown : s.vm.findClass "FoldedVoicesModel" = some m.cls := hown
  have hK := hG.1.moved hV
  have hS : va_S (gA G) s.heap s.heap [] := va_S.rf
  have hl : lv_has ls 2 [(0, .ref a0), (1, .int p1)] := hl
  have hM0 := hM
  rw [f_X9_fails] at hf
  refine lv_aload_n hx hb dX9_fails_0 rfl (lv_at hl 0 rfl) ?_
  refine lv_iload_n hx hb dX9_fails_1 rfl (lv_at hl 1 rfl) ?_
  obtain ⟨M1, eM1, hf⟩ := nb_e hf
  refine s_put tyX9 hx hb (lay_9 hts) tyX9_ok nmX9 hown hK hM hS (ky_b hG h0) (c_10 h0) rfl 7 (by decide) rfl rfl rfl (Nat.le_of_ble_eq_true rfl) (cp_9_7 h0) (fun _ h9 => cel_sI _ h9) hM.2.2.sI rfl (tk_970 hts) dX9_fails_2 (fun H locs hM hS => ?_)
  rw [eM1] at hM
  refine lv_iconst (v := 0) hx hb dX9_fails_5 (by decide) ?_
  exact ef_im hx hb hr hlocks hM hS hf dX9_fails_6
def f_X9_in (p0 : Int32) (p1 : Int32) (p2 : Int32) (M : Mem) : Option Int32 := if p0 < p1 then (some 0) else (if p2 < p0 then (some 0) else (some 1))
set_option maxHeartbeats 4000000 in
set_option maxRecDepth 100000 in
theorem k_X9_in (G : Gt) (hG : gOK G) (l : Launch) (p0 : Int32) (p1 : Int32) (p2 : Int32) (M : Mem) {r : Int32} (hf : f_X9_in p0 p1 p2 M = some r) : Kc G l yX9_in cX9_in 3 (some .boolean) ({ frames := 0, cells := 0, slots := 0, locals := 0 } : Room) [.int p0, .int p1, .int p2] M (some (.int r)) M := by
  refine start (by decide) (Nat.le_of_ble_eq_true rfl) ?_
  intro p e s m args below meth c ls hx hb hr hown hml hlocks hts hV hM hl
  have hown : s.vm.findClass "FoldedVoicesModel" = some m.cls := hown
  have hK := hG.1.moved hV
  have hS : va_S (gA G) s.heap s.heap [] := va_S.rf
  have hl : lv_has ls 3 [(0, .int p0), (1, .int p1), (2, .int p2)] := hl
  have hM0 := hM
  rw [f_X9_in] at hf
  refine lv_iload_n hx hb dX9_in_0 rfl (lv_at hl 0 rfl) ?_
  refine lv_iload_n hx hb dX9_in_1 rfl (lv_at hl 1 rfl) ?_
  refine lv_icmp_lt (tgt := 14) hx hb dX9_in_2 (by decide) (fun g_1 => ?_) (fun g_1 => ?_)
  · rw [if_pos g_1] at hf
    refine lv_iconst (v := 0) hx hb dX9_in_14 (by decide) ?_
    exact ef_zp hx hb hr hlocks hM hS (nz_n (Or.inl rfl)) hf dX9_in_15
  · rw [if_neg g_1] at hf
    refine lv_iload_n hx hb dX9_in_5 rfl (lv_at hl 0 rfl) ?_
    refine lv_iload_n hx hb dX9_in_6 rfl (lv_at hl 2 rfl) ?_
    refine lv_icmp_gt (tgt := 14) hx hb dX9_in_7 (by decide) (fun g_2 => ?_) (fun g_2 => ?_)
    · rw [if_pos g_2] at hf
      refine lv_iconst (v := 0) hx hb dX9_in_14 (by decide) ?_
      exact ef_zp hx hb hr hlocks hM hS (nz_n (Or.inl rfl)) hf dX9_in_15
    · rw [if_neg g_2] at hf
      refine lv_iconst (v := 1) hx hb dX9_in_10 (by decide) ?_
      refine lv_goto (tgt := 15) hx hb dX9_in_11 (by decide) ?_
      exact ef_zp hx hb hr hlocks hM hS (nz_n (Or.inr rfl)) hf dX9_in_15
def f_X9_isVoice (p0 : Int32) (M : Mem) : Option Int32 := vb (f_X9_in p0 0 2 M) fun r2 => gd (r2 = 0 ∨ r2 = 1) <| some r2
set_option maxHeartbeats 4000000 in
set_option maxRecDepth 100000 in
theorem k_X9_isVoice (G : Gt) (hG : gOK G) (l : Launch) (p0 : Int32) (M : Mem) {r : Int32} (hf : f_X9_isVoice p0 M = some r) : Kc G l yX9_isVoice cX9_isVoice 1 (some .boolean) ({ frames := 1, cells := 0, slots := 0, locals := 22 } : Room) [.int p0] M (some (.int r)) M := by
  refine start (by decide) (Nat.le_of_ble_eq_true rfl) ?_
  intro p e s m args below meth c ls hx hb hr hown hml hlocks hts hV hM hl
  have hown : s.vm.findClass "FoldedVoicesModel" = some m.cls := hown
  have hK := hG.1.moved hV
  have hS : va_S (gA G) s.heap s.heap [] := va_S.rf
  have hl : lv_has ls 1 [(0, .int p0)] := hl
  have hM0 := hM
  rw [f_X9_isVoice] at hf
  refine lv_iload_n hx hb dX9_isVoice_0 rfl (lv_at hl 0 rfl) ?_
  refine lv_iconst (v := 0) hx hb dX9_isVoice_1 (by decide) ?_
  refine lv_iconst (v := 2) hx hb dX9_isVoice_2 (by decide) ?_
  obtain ⟨r2, e_1, hf⟩ := vb_e hf
  refine c_Si hx hb hml hown hts hV hM hS (As := [.int p0, .int 0, .int 2]) (rest := []) (k_X9_in G hG l p0 0 2 M e_1) w_X9_in (tk_1023 hts) ⟨⟨rfl, rfl⟩, Nat.le_of_ble_eq_true rfl, Nat.le_of_ble_eq_true rfl⟩ ⟨Nat.zero_le _, Nat.zero_le _⟩ rfl hl.1 rfl (Nat.le_of_ble_eq_true rfl) dX9_isVoice_3 (fun H locs hM hS => ?_)
  obtain ⟨h_3, hf⟩ := gd_e hf
  exact ef_zp hx hb hr hlocks hM hS (nz_n h_3) hf dX9_isVoice_6
def f_X9_isSample (p0 : Int32) (M : Mem) : Option Int32 := vb (f_X9_in p0 (-2000) 2000 M) fun r2 => gd (r2 = 0 ∨ r2 = 1) <| some r2
set_option maxHeartbeats 4000000 in
set_option maxRecDepth 100000 in
theorem k_X9_isSample (G : Gt) (hG : gOK G) (l : Launch) (p0 : Int32) (M : Mem) {r : Int32} (hf : f_X9_isSample p0 M = some r) : Kc G l yX9_isSample cX9_isSample 1 (some .boolean) ({ frames := 1, cells := 0, slots := 0, locals := 22 } : Room) [.int p0] M (some (.int r)) M := by
  refine start (by decide) (Nat.le_of_ble_eq_true rfl) ?_
  intro p e s m args below meth c ls hx hb hr hown hml hlocks hts hV hM hl
  have hown : s.vm.findClass "FoldedVoicesModel" = some m.cls := hown
  have hK := hG.1.moved hV
  have hS : va_S (gA G) s.heap s.heap [] := va_S.rf
  have hl : lv_has ls 1 [(0, .int p0)] := hl
  have hM0 := hM
  rw [f_X9_isSample] at hf
  refine lv_iload_n hx hb dX9_isSample_0 rfl (lv_at hl 0 rfl) ?_
  refine lv_sipush (v := (-2000)) hx hb dX9_isSample_1 (by decide) ?_
  refine lv_sipush (v := 2000) hx hb dX9_isSample_4 (by decide) ?_
  obtain ⟨r2, e_1, hf⟩ := vb_e hf
  refine c_Si hx hb hml hown hts hV hM hS (As := [.int p0, .int (-2000), .int 2000]) (rest := []) (k_X9_in G hG l p0 (-2000) 2000 M e_1) w_X9_in (tk_1023 hts) ⟨⟨rfl, rfl⟩, Nat.le_of_ble_eq_true rfl, Nat.le_of_ble_eq_true rfl⟩ ⟨Nat.zero_le _, Nat.zero_le _⟩ rfl hl.1 rfl (Nat.le_of_ble_eq_true rfl) dX9_isSample_7 (fun H locs hM hS => ?_)
  obtain ⟨h_3, hf⟩ := gd_e hf
  exact ef_zp hx hb hr hlocks hM hS (nz_n h_3) hf dX9_isSample_10
def f_X9_size (p0 : Int32) (M : Mem) : Option Int32 := if 0 ≤ p0 then (some p0) else (some (-p0))
set_option maxHeartbeats 4000000 in
set_option maxRecDepth 100000 in
theorem k_X9_size (G : Gt) (hG : gOK G) (l : Launch) (p0 : Int32) (M : Mem) {r : Int32} (hf : f_X9_size p0 M = some r) : Kc G l yX9_size cX9_size 1 (some .int) ({ frames := 0, cells := 0, slots := 0, locals := 0 } : Room) [.int p0] M (some (.int r)) M := by
  refine start (by decide) (Nat.le_of_ble_eq_true rfl) ?_
  intro p e s m args below meth c ls hx hb hr hown hml hlocks hts hV hM hl
  have hown : s.vm.findClass "FoldedVoicesModel" = some m.cls := hown
  have hK := hG.1.moved hV
  have hS : va_S (gA G) s.heap s.heap [] := va_S.rf
  have hl : lv_has ls 1 [(0, .int p0)] := hl
  have hM0 := hM
  rw [f_X9_size] at hf
  refine lv_iload_n hx hb dX9_size_0 rfl (lv_at hl 0 rfl) ?_
  refine lv_if_ge (tgt := 9) hx hb dX9_size_1 (by decide) (fun g_1 => ?_) (fun g_1 => ?_)
  · rw [if_pos g_1] at hf
    refine lv_iload_n hx hb dX9_size_9 rfl (lv_at hl 0 rfl) ?_
    exact ef_ip hx hb hr hlocks hM hS hf dX9_size_10
  · rw [if_neg g_1] at hf
    refine lv_iload_n hx hb dX9_size_4 rfl (lv_at hl 0 rfl) ?_
    refine lv_ineg hx hb dX9_size_5 ?_
    refine lv_goto (tgt := 10) hx hb dX9_size_6 (by decide) ?_
    exact ef_ip hx hb hr hlocks hM hS hf dX9_size_10
def f_X9_of (a0 : Nat) (p1 : Int32) (p2 : Int32) (M : Mem) : Option Int32 := gd (ix (((5 : Int32) + ((207 : Int32) * p1)) + p2) 626) <| some (mI M (a0 + 1) (((5 : Int32) + ((207 : Int32) * p1)) + p2).toNatClampNeg)
set_option maxHeartbeats 4000000 in
set_option maxRecDepth 100000 in
theorem k_X9_of (G : Gt) (hG : gOK G) (l : Launch) (a0 : Nat) (h0 : gK G a0 = 10) (p1 : Int32) (p2 : Int32) (M : Mem) {r : Int32} (hf : f_X9_of a0 p1 p2 M = some r) : Kc G l yX9_of cX9_of 3 (some .int) ({ frames := 0, cells := 0, slots := 0, locals := 0 } : Room) [.ref a0, .int p1, .int p2] M (some (.int r)) M := by
  refine start (by decide) (Nat.le_of_ble_eq_true rfl) ?_
  intro p e s m args below meth c ls hx hb hr hown hml hlocks hts hV hM hl
  have hown : s.vm.findClass "FoldedVoicesModel" = some m.cls := hown
  have hK := hG.1.moved hV
  have hS : va_S (gA G) s.heap s.heap [] := va_S.rf
  have hl : lv_has ls 3 [(0, .ref a0), (1, .int p1), (2, .int p2)] := hl
  have hM0 := hM
  rw [f_X9_of] at hf
  refine lv_aload_n hx hb dX9_of_0 rfl (lv_at hl 0 rfl) ?_
  refine s_get hx hb (lay_9 hts) hown hK hM (c_10 h0) rfl 0 (by decide) rfl rfl (tk_963 hts) dX9_of_1 ?_
  refine lv_iconst (v := 5) hx hb dX9_of_4 (by decide) ?_
  refine lv_sipush (v := 207) hx hb dX9_of_5 (by decide) ?_
  refine lv_iload_n hx hb dX9_of_8 rfl (lv_at hl 1 rfl) ?_
  refine lv_imul hx hb dX9_of_9 ?_
  refine lv_iadd hx hb dX9_of_10 ?_
  refine lv_iload_n hx hb dX9_of_11 rfl (lv_at hl 2 rfl) ?_
  refine lv_iadd hx hb dX9_of_12 ?_
  obtain ⟨h_1, hf⟩ := gd_e hf
  refine s_iald 626 hx hb hK hM (ky_10_0 hG h0) (by decide) h_1 dX9_of_13 ?_
  exact ef_ip hx hb hr hlocks hM hS hf dX9_of_14
def f_X9_put (a0 : Nat) (p1 : Int32) (p2 : Int32) (p3 : Int32) (M : Mem) : Option Mem := gd (ix (((5 : Int32) + ((207 : Int32) * p1)) + p2) 626) <| nb (sI M (a0 + 1) (((5 : Int32) + ((207 : Int32) * p1)) + p2).toNatClampNeg p3) fun M2 => some M2
set_option maxHeartbeats 4000000 in
set_option maxRecDepth 100000 in
theorem k_X9_put (G : Gt) (hG : gOK G) (l : Launch) (a0 : Nat) (h0 : gK G a0 = 10) (p1 : Int32) (p2 : Int32) (p3 : Int32) (M : Mem) {M' : Mem} (hf : f_X9_put a0 p1 p2 p3 M = some M') : Kc G l yX9_put cX9_put 4 none ({ frames := 0, cells := 0, slots := 0, locals := 0 } : Room) [.ref a0, .int p1, .int p2, .int p3] M none M' := by
  refine start (by decide) (Nat.le_of_ble_eq_true rfl) ?_
  intro p e s m args below meth c ls hx hb hr hown hml hlocks hts hV hM hl
  have hown : s.vm.findClass "FoldedVoicesModel" = some m.cls := hown
  have hK := hG.1.moved hV
  have hS : va_S (gA G) s.heap s.heap [] := va_S.rf
  have hl : lv_has ls 4 [(0, .ref a0), (1, .int p1), (2, .int p2), (3, .int p3)] := hl
  have hM0 := hM
  rw [f_X9_put] at hf
  refine lv_aload_n hx hb dX9_put_0 rfl (lv_at hl 0 rfl) ?_
  refine s_get hx hb (lay_9 hts) hown hK hM (c_10 h0) rfl 0 (by decide) rfl rfl (tk_963 hts) dX9_put_1 ?_
  refine lv_iconst (v := 5) hx hb dX9_put_4 (by decide) ?_
  refine lv_sipush (v := 207) hx hb dX9_put_5 (by decide) ?_
  refine lv_iload_n hx hb dX9_put_8 rfl (lv_at hl 1 rfl) ?_
  refine lv_imul hx hb dX9_put_9 ?_
  refine lv_iadd hx hb dX9_put_10 ?_
  refine lv_iload_n hx hb dX9_put_11 rfl (lv_at hl 2 rfl) ?_
  refine lv_iadd hx hb dX9_put_12 ?_
  refine lv_iload_n hx hb dX9_put_13 rfl (lv_at hl 3 rfl) ?_
  obtain ⟨h_1, hf⟩ := gd_e hf
  obtain ⟨M2, eM2, hf⟩ := nb_e hf
  refine s_iast 626 hx hb hK hM hS (ky_10_0 hG h0) (by decide) (ky_b hG (ky_10_0 hG h0)) h_1 dX9_put_14 (fun H locs hM hS => ?_)
  rw [eM2] at hM
  exact ef_v hx hb hr hlocks hM hS hf dX9_put_15
def f_X9_add (a0 : Nat) (p1 : Int32) (p2 : Int32) (p3 : Int32) (M : Mem) : Option Mem := gd (ix (((5 : Int32) + ((207 : Int32) * p1)) + p2) 626) <| gd (ix (((5 : Int32) + ((207 : Int32) * p1)) + p2) 626) <| nb (sI M (a0 + 1) (((5 : Int32) + ((207 : Int32) * p1)) + p2).toNatClampNeg ((mI M (a0 + 1) (((5 : Int32) + ((207 : Int32) * p1)) + p2).toNatClampNeg) + p3)) fun M3 => some M3
set_option maxHeartbeats 4000000 in
set_option maxRecDepth 100000 in
theorem k_X9_add (G : Gt) (hG : gOK G) (l : Launch) (a0 : Nat) (h0 : gK G a0 = 10) (p1 : Int32) (p2 : Int32) (p3 : Int32) (M : Mem) {M' : Mem} (hf : f_X9_add a0 p1 p2 p3 M = some M') : Kc G l yX9_add cX9_add 4 none ({ frames := 0, cells := 0, slots := 0, locals := 0 } : Room) [.ref a0, .int p1, .int p2, .int p3] M none M' := by
  refine start (by decide) (Nat.le_of_ble_eq_true rfl) ?_
  intro p e s m args below meth c ls hx hb hr hown hml hlocks hts hV hM hl
  have hown : s.vm.findClass "FoldedVoicesModel" = some m.cls := hown
  have hK := hG.1.moved hV
  have hS : va_S (gA G) s.heap s.heap [] := va_S.rf
  have hl : lv_has ls 4 [(0, .ref a0), (1, .int p1), (2, .int p2), (3, .int p3)] := hl
  have hM0 := hM
  rw [f_X9_add] at hf
  refine lv_aload_n hx hb dX9_add_0 rfl (lv_at hl 0 rfl) ?_
  refine s_get hx hb (lay_9 hts) hown hK hM (c_10 h0) rfl 0 (by decide) rfl rfl (tk_963 hts) dX9_add_1 ?_
  refine lv_iconst (v := 5) hx hb dX9_add_4 (by decide) ?_
  refine lv_sipush (v := 207) hx hb dX9_add_5 (by decide) ?_
  refine lv_iload_n hx hb dX9_add_8 rfl (lv_at hl 1 rfl) ?_
  refine lv_imul hx hb dX9_add_9 ?_
  refine lv_iadd hx hb dX9_add_10 ?_
  refine lv_iload_n hx hb dX9_add_11 rfl (lv_at hl 2 rfl) ?_
  refine lv_iadd hx hb dX9_add_12 ?_
  refine lv_dup2_11 hx hb dX9_add_13 rfl rfl ?_
  obtain ⟨h_1, hf⟩ := gd_e hf
  refine s_iald 626 hx hb hK hM (ky_10_0 hG h0) (by decide) h_1 dX9_add_14 ?_
  refine lv_iload_n hx hb dX9_add_15 rfl (lv_at hl 3 rfl) ?_
  refine lv_iadd hx hb dX9_add_16 ?_
  obtain ⟨h_2, hf⟩ := gd_e hf
  obtain ⟨M3, eM3, hf⟩ := nb_e hf
  refine s_iast 626 hx hb hK hM hS (ky_10_0 hG h0) (by decide) (ky_b hG (ky_10_0 hG h0)) h_2 dX9_add_17 (fun H locs hM hS => ?_)
  rw [eM3] at hM
  exact ef_v hx hb hr hlocks hM hS hf dX9_add_18
def f_X9_packetAt (p0 : Int32) (p1 : Int32) (M : Mem) : Option Int32 := some ((((5 : Int32) + ((207 : Int32) * p0)) + 39) + ((21 : Int32) * p1))
set_option maxHeartbeats 4000000 in
set_option maxRecDepth 100000 in
theorem k_X9_packetAt (G : Gt) (hG : gOK G) (l : Launch) (p0 : Int32) (p1 : Int32) (M : Mem) {r : Int32} (hf : f_X9_packetAt p0 p1 M = some r) : Kc G l yX9_packetAt cX9_packetAt 2 (some .int) ({ frames := 0, cells := 0, slots := 0, locals := 0 } : Room) [.int p0, .int p1] M (some (.int r)) M := by
  refine start (by decide) (Nat.le_of_ble_eq_true rfl) ?_
  intro p e s m args below meth c ls hx hb hr hown hml hlocks hts hV hM hl
  have hown : s.vm.findClass "FoldedVoicesModel" = some m.cls := hown
  have hK := hG.1.moved hV
  have hS : va_S (gA G) s.heap s.heap [] := va_S.rf
  have hl : lv_has ls 2 [(0, .int p0), (1, .int p1)] := hl
  have hM0 := hM
  rw [f_X9_packetAt] at hf
  refine lv_iconst (v := 5) hx hb dX9_packetAt_0 (by decide) ?_
  refine lv_sipush (v := 207) hx hb dX9_packetAt_1 (by decide) ?_
  refine lv_iload_n hx hb dX9_packetAt_4 rfl (lv_at hl 0 rfl) ?_
  refine lv_imul hx hb dX9_packetAt_5 ?_
  refine lv_iadd hx hb dX9_packetAt_6 ?_
  refine lv_bipush (v := 39) hx hb dX9_packetAt_7 (by decide) ?_
  refine lv_iadd hx hb dX9_packetAt_9 ?_
  refine lv_bipush (v := 21) hx hb dX9_packetAt_10 (by decide) ?_
  refine lv_iload_n hx hb dX9_packetAt_12 rfl (lv_at hl 1 rfl) ?_
  refine lv_imul hx hb dX9_packetAt_13 ?_
  refine lv_iadd hx hb dX9_packetAt_14 ?_
  exact ef_ip hx hb hr hlocks hM hS hf dX9_packetAt_15
def f_X9_save_b52 (a0 : Nat) : Nat → Int32 → Mem → Option Mem
  | 0, _, _ => none
  | n + 1, x1, M => if (626 : Int32) ≤ x1 then (nb (sI M a0 2 ((mI M a0 2) + 1)) fun M2 => some M2) else (gd (ix x1 626) <| gd (ix (((626 : Int32) * (mI M a0 2)) + x1) 3756) <| nb (sI M (a0 + 2) (((626 : Int32) * (mI M a0 2)) + x1).toNatClampNeg (mI M (a0 + 1) x1.toNatClampNeg)) fun M5 => nb (x1 + 1) fun y6 => f_X9_save_b52 a0 n y6 M5)
def f_X9_save_b50 (a0 : Nat) (M : Mem) : Option Mem := f_X9_save_b52 a0 lfuel 0 M
def f_X9_save_b11 (a0 : Nat) : Nat → Int32 → Mem → Option Mem
  | 0, _, _ => none
  | n + 1, x1, M => if (3130 : Int32) ≤ x1 then (nb (sI M a0 2 ((mI M a0 2) - 1)) fun M8 => f_X9_save_b50 a0 M8) else (gd (ix (x1 + 626) 3756) <| gd (ix x1 3756) <| nb (sI M (a0 + 2) x1.toNatClampNeg (mI M (a0 + 2) (x1 + 626).toNatClampNeg)) fun M11 => nb (x1 + 1) fun y12 => f_X9_save_b11 a0 n y12 M11)
def f_X9_save (a0 : Nat) (M : Mem) : Option Mem := if (mI M a0 2) = (6 : Int32) then (f_X9_save_b11 a0 lfuel 0 M) else (f_X9_save_b50 a0 M)
set_option maxHeartbeats 4000000 in
set_option maxRecDepth 100000 in
theorem k_X9_save (G : Gt) (hG : gOK G) (l : Launch) (a0 : Nat) (h0 : gK G a0 = 10) (M : Mem) {M' : Mem} (hf : f_X9_save a0 M = some M') : Kc G l yX9_save cX9_save 2 none ({ frames := 0, cells := 0, slots := 0, locals := 0 } : Room) [.ref a0] M none M' := by
  refine start (by decide) (Nat.le_of_ble_eq_true rfl) ?_
  intro p e s m args below meth c ls hx hb hr hown hml hlocks hts hV hM hl
  have hown : s.vm.findClass "FoldedVoicesModel" = some m.cls := hown
  have hK := hG.1.moved hV
  have hS : va_S (gA G) s.heap s.heap [] := va_S.rf
  have hl : lv_has ls 2 [(0, .ref a0)] := hl
  have hM0 := hM
  have b52 : ∀ (n : Nat), ∀ (x1 : Int32) (M : Mem) (H : Heap) (locs : List Loc) (ls : Array Slot), Mh G M H → va_S (gA G) s.heap H locs → lv_has ls 2 [(0, .ref a0), (1, .int x1)] → f_X9_save_b52 a0 n x1 M = some M' → W p l e ({ frames := 0, cells := 0, slots := 0, locals := 0 } : Room) s m args below meth c H locs 0 0 (MQ below (QV G none M') args s 0 0 (gA G)) (F0 m 52 ls []) := by
    intro n
    induction n with
    | zero =>
      intro x1 M H locs ls hM hS hl hf
      rw [f_X9_save_b52] at hf
      cases hf
    | succ n ih =>
      intro x1 M H locs ls hM hS hl hf
      rw [f_X9_save_b52] at hf
      refine lv_iload_n hx hb dX9_save_52 rfl (lv_at hl 1 rfl) ?_
      refine lv_sipush (v := 626) hx hb dX9_save_53 (by decide) ?_
      refine lv_icmp_ge (tgt := 86) hx hb dX9_save_56 (by decide) (fun g_1 => ?_) (fun g_1 => ?_)
      · rw [if_pos g_1] at hf
        refine lv_aload_n hx hb dX9_save_86 rfl (lv_at hl 0 rfl) ?_
        refine lv_dup hx hb dX9_save_87 rfl ?_
        refine s_get hx hb (lay_9 hts) hown hK hM (c_10 h0) rfl 2 (by decide) rfl rfl (tk_965 hts) dX9_save_88 ?_
        refine lv_iconst (v := 1) hx hb dX9_save_91 (by decide) ?_
        refine lv_iadd hx hb dX9_save_92 ?_
        obtain ⟨M2, eM2, hf⟩ := nb_e hf
        refine s_put tyX9 hx hb (lay_9 hts) tyX9_ok nmX9 hown hK hM hS (ky_b hG h0) (c_10 h0) rfl 2 (by decide) rfl rfl rfl (Nat.le_of_ble_eq_true rfl) (cp_9_2 h0) (fun _ h9 => cel_sI _ h9) hM.2.2.sI rfl (tk_965 hts) dX9_save_93 (fun H locs hM hS => ?_)
        rw [eM2] at hM
        exact ef_v hx hb hr hlocks hM hS hf dX9_save_96
      · rw [if_neg g_1] at hf
        refine lv_aload_n hx hb dX9_save_59 rfl (lv_at hl 0 rfl) ?_
        refine s_get hx hb (lay_9 hts) hown hK hM (c_10 h0) rfl 1 (by decide) rfl rfl (tk_964 hts) dX9_save_60 ?_
        refine lv_sipush (v := 626) hx hb dX9_save_63 (by decide) ?_
        refine lv_aload_n hx hb dX9_save_66 rfl (lv_at hl 0 rfl) ?_
        refine s_get hx hb (lay_9 hts) hown hK hM (c_10 h0) rfl 2 (by decide) rfl rfl (tk_965 hts) dX9_save_67 ?_
        refine lv_imul hx hb dX9_save_70 ?_
        refine lv_iload_n hx hb dX9_save_71 rfl (lv_at hl 1 rfl) ?_
        refine lv_iadd hx hb dX9_save_72 ?_
        refine lv_aload_n hx hb dX9_save_73 rfl (lv_at hl 0 rfl) ?_
        refine s_get hx hb (lay_9 hts) hown hK hM (c_10 h0) rfl 0 (by decide) rfl rfl (tk_963 hts) dX9_save_74 ?_
        refine lv_iload_n hx hb dX9_save_77 rfl (lv_at hl 1 rfl) ?_
        obtain ⟨h_3, hf⟩ := gd_e hf
        refine s_iald 626 hx hb hK hM (ky_10_0 hG h0) (by decide) h_3 dX9_save_78 ?_
        obtain ⟨h_4, hf⟩ := gd_e hf
        obtain ⟨M5, eM5, hf⟩ := nb_e hf
        refine s_iast 3756 hx hb hK hM hS (ky_10_1 hG h0) (by decide) (ky_b hG (ky_10_1 hG h0)) h_4 dX9_save_79 (fun H locs hM hS => ?_)
        rw [eM5] at hM
        obtain ⟨y6, ey6, hf⟩ := nb_e hf
        refine lv_iinc (v := y6) (lv' := [(1, .int y6), (0, .ref a0)]) hx hb dX9_save_80 hl (k := 1) rfl (by rw [← ey6]; rfl) (by decide) rfl (fun ls hl => ?_)
        refine lv_goto (tgt := 52) hx hb dX9_save_83 (by decide) ?_
        exact ih y6 _ H locs ls hM hS (lv_sub hl [1, 0] rfl) hf
  have b50 : ∀ (M : Mem) (H : Heap) (locs : List Loc) (ls : Array Slot), Mh G M H → va_S (gA G) s.heap H locs → lv_has ls 2 [(0, .ref a0)] → f_X9_save_b50 a0 M = some M' → W p l e ({ frames := 0, cells := 0, slots := 0, locals := 0 } : Room) s m args below meth c H locs 0 0 (MQ below (QV G none M') args s 0 0 (gA G)) (F0 m 50 ls []) := by
    intro M H locs ls hM hS hl hf
    rw [f_X9_save_b50] at hf
    refine lv_iconst (v := 0) hx hb dX9_save_50 (by decide) ?_
    refine lv_istore_n (lv' := [(1, .int 0), (0, .ref a0)]) hx hb dX9_save_51 rfl hl (by decide) rfl (fun ls hl => ?_)
    exact b52 _ 0 _ H locs ls hM hS (lv_sub hl [1, 0] rfl) hf
  have b11 : ∀ (n : Nat), ∀ (x1 : Int32) (M : Mem) (H : Heap) (locs : List Loc) (ls : Array Slot), Mh G M H → va_S (gA G) s.heap H locs → lv_has ls 2 [(0, .ref a0), (1, .int x1)] → f_X9_save_b11 a0 n x1 M = some M' → W p l e ({ frames := 0, cells := 0, slots := 0, locals := 0 } : Room) s m args below meth c H locs 0 0 (MQ below (QV G none M') args s 0 0 (gA G)) (F0 m 11 ls []) := by
    intro n
    induction n with
    | zero =>
      intro x1 M H locs ls hM hS hl hf
      rw [f_X9_save_b11] at hf
      cases hf
    | succ n ih =>
      intro x1 M H locs ls hM hS hl hf
      rw [f_X9_save_b11] at hf
      refine lv_iload_n hx hb dX9_save_11 rfl (lv_at hl 1 rfl) ?_
      refine lv_sipush (v := 3130) hx hb dX9_save_12 (by decide) ?_
      refine lv_icmp_ge (tgt := 40) hx hb dX9_save_15 (by decide) (fun g_7 => ?_) (fun g_7 => ?_)
      · rw [if_pos g_7] at hf
        refine lv_aload_n hx hb dX9_save_40 rfl (lv_at hl 0 rfl) ?_
        refine lv_dup hx hb dX9_save_41 rfl ?_
        refine s_get hx hb (lay_9 hts) hown hK hM (c_10 h0) rfl 2 (by decide) rfl rfl (tk_965 hts) dX9_save_42 ?_
        refine lv_iconst (v := 1) hx hb dX9_save_45 (by decide) ?_
        refine lv_isub hx hb dX9_save_46 ?_
        obtain ⟨M8, eM8, hf⟩ := nb_e hf
        refine s_put tyX9 hx hb (lay_9 hts) tyX9_ok nmX9 hown hK hM hS (ky_b hG h0) (c_10 h0) rfl 2 (by decide) rfl rfl rfl (Nat.le_of_ble_eq_true rfl) (cp_9_2 h0) (fun _ h9 => cel_sI _ h9) hM.2.2.sI rfl (tk_965 hts) dX9_save_47 (fun H locs hM hS => ?_)
        rw [eM8] at hM
        exact b50 _ H locs ls hM hS (lv_sub hl [0] rfl) hf
      · rw [if_neg g_7] at hf
        refine lv_aload_n hx hb dX9_save_18 rfl (lv_at hl 0 rfl) ?_
        refine s_get hx hb (lay_9 hts) hown hK hM (c_10 h0) rfl 1 (by decide) rfl rfl (tk_964 hts) dX9_save_19 ?_
        refine lv_iload_n hx hb dX9_save_22 rfl (lv_at hl 1 rfl) ?_
        refine lv_aload_n hx hb dX9_save_23 rfl (lv_at hl 0 rfl) ?_
        refine s_get hx hb (lay_9 hts) hown hK hM (c_10 h0) rfl 1 (by decide) rfl rfl (tk_964 hts) dX9_save_24 ?_
        refine lv_iload_n hx hb dX9_save_27 rfl (lv_at hl 1 rfl) ?_
        refine lv_sipush (v := 626) hx hb dX9_save_28 (by decide) ?_
        refine lv_iadd hx hb dX9_save_31 ?_
        obtain ⟨h_9, hf⟩ := gd_e hf
        refine s_iald 3756 hx hb hK hM (ky_10_1 hG h0) (by decide) h_9 dX9_save_32 ?_
        obtain ⟨h_10, hf⟩ := gd_e hf
        obtain ⟨M11, eM11, hf⟩ := nb_e hf
        refine s_iast 3756 hx hb hK hM hS (ky_10_1 hG h0) (by decide) (ky_b hG (ky_10_1 hG h0)) h_10 dX9_save_33 (fun H locs hM hS => ?_)
        rw [eM11] at hM
        obtain ⟨y12, ey12, hf⟩ := nb_e hf
        refine lv_iinc (v := y12) (lv' := [(1, .int y12), (0, .ref a0)]) hx hb dX9_save_34 hl (k := 1) rfl (by rw [← ey12]; rfl) (by decide) rfl (fun ls hl => ?_)
        refine lv_goto (tgt := 11) hx hb dX9_save_37 (by decide) ?_
        exact ih y12 _ H locs ls hM hS (lv_sub hl [1, 0] rfl) hf
  rw [f_X9_save] at hf
  obtain ⟨H, hHe⟩ : ∃ H, H = s.heap := ⟨_, rfl⟩
  obtain ⟨locs, hLe⟩ : ∃ L : List Loc, L = [] := ⟨_, rfl⟩
  rw [← hHe] at hM
  have hS : va_S (gA G) s.heap H locs := by rw [hHe, hLe]; exact va_S.rf
  suffices hW : W p l e ({ frames := 0, cells := 0, slots := 0, locals := 0 } : Room) s m args below meth c H locs 0 0 (MQ below (QV G none M') args s 0 0 (gA G)) (F0 m 0 ls []) by rw [hHe, hLe] at hW; exact hW
  refine lv_aload_n hx hb dX9_save_0 rfl (lv_at hl 0 rfl) ?_
  refine s_get hx hb (lay_9 hts) hown hK hM (c_10 h0) rfl 2 (by decide) rfl rfl (tk_965 hts) dX9_save_1 ?_
  refine lv_bipush (v := 6) hx hb dX9_save_4 (by decide) ?_
  refine lv_icmp_ne (tgt := 50) hx hb dX9_save_6 (by decide) (fun g_13 => ?_) (fun g_13 => ?_)
  · rw [if_neg g_13] at hf
    exact b50 _ H locs ls hM hS (lv_sub hl [0] rfl) hf
  · rw [if_pos g_13] at hf
    refine lv_iconst (v := 0) hx hb dX9_save_9 (by decide) ?_
    refine lv_istore_n (lv' := [(1, .int 0), (0, .ref a0)]) hx hb dX9_save_10 rfl hl (by decide) rfl (fun ls hl => ?_)
    exact b11 _ 0 _ H locs ls hM hS (lv_sub hl [1, 0] rfl) hf
def f_X9_putAside_b2 (a0 : Nat) : Nat → Int32 → Mem → Option Mem
  | 0, _, _ => none
  | n + 1, x1, M => if (626 : Int32) ≤ x1 then (some M) else (gd (ix x1 626) <| gd (ix x1 626) <| nb (sI M (a0 + 4) x1.toNatClampNeg (mI M (a0 + 1) x1.toNatClampNeg)) fun M4 => nb (x1 + 1) fun y5 => f_X9_putAside_b2 a0 n y5 M4)
def f_X9_putAside (a0 : Nat) (M : Mem) : Option Mem := f_X9_putAside_b2 a0 lfuel 0 M
set_option maxHeartbeats 4000000 in
set_option maxRecDepth 100000 in
theorem k_X9_putAside (G : Gt) (hG : gOK G) (l : Launch) (a0 : Nat) (h0 : gK G a0 = 10) (M : Mem) {M' : Mem} (hf : f_X9_putAside a0 M = some M') : Kc G l yX9_putAside cX9_putAside 2 none ({ frames := 0, cells := 0, slots := 0, locals := 0 } : Room) [.ref a0] M none M' := by
  refine start (by decide) (Nat.le_of_ble_eq_true rfl) ?_
  intro p e s m args below meth c ls hx hb hr hown hml hlocks hts hV hM hl
  have hown : s.vm.findClass "FoldedVoicesModel" = some m.cls := hown
  have hK := hG.1.moved hV
  have hS : va_S (gA G) s.heap s.heap [] := va_S.rf
  have hl : lv_has ls 2 [(0, .ref a0)] := hl
  have hM0 := hM
  have b2 : ∀ (n : Nat), ∀ (x1 : Int32) (M : Mem) (H : Heap) (locs : List Loc) (ls : Array Slot), Mh G M H → va_S (gA G) s.heap H locs → lv_has ls 2 [(0, .ref a0), (1, .int x1)] → f_X9_putAside_b2 a0 n x1 M = some M' → W p l e ({ frames := 0, cells := 0, slots := 0, locals := 0 } : Room) s m args below meth c H locs 0 0 (MQ below (QV G none M') args s 0 0 (gA G)) (F0 m 2 ls []) := by
    intro n
    induction n with
    | zero =>
      intro x1 M H locs ls hM hS hl hf
      rw [f_X9_putAside_b2] at hf
      cases hf
    | succ n ih =>
      intro x1 M H locs ls hM hS hl hf
      rw [f_X9_putAside_b2] at hf
      refine lv_iload_n hx hb dX9_putAside_2 rfl (lv_at hl 1 rfl) ?_
      refine lv_sipush (v := 626) hx hb dX9_putAside_3 (by decide) ?_
      refine lv_icmp_ge (tgt := 27) hx hb dX9_putAside_6 (by decide) (fun g_1 => ?_) (fun g_1 => ?_)
      · rw [if_pos g_1] at hf
        exact ef_v hx hb hr hlocks hM hS hf dX9_putAside_27
      · rw [if_neg g_1] at hf
        refine lv_aload_n hx hb dX9_putAside_9 rfl (lv_at hl 0 rfl) ?_
        refine s_get hx hb (lay_9 hts) hown hK hM (c_10 h0) rfl 5 (by decide) rfl rfl (tk_968 hts) dX9_putAside_10 ?_
        refine lv_iload_n hx hb dX9_putAside_13 rfl (lv_at hl 1 rfl) ?_
        refine lv_aload_n hx hb dX9_putAside_14 rfl (lv_at hl 0 rfl) ?_
        refine s_get hx hb (lay_9 hts) hown hK hM (c_10 h0) rfl 0 (by decide) rfl rfl (tk_963 hts) dX9_putAside_15 ?_
        refine lv_iload_n hx hb dX9_putAside_18 rfl (lv_at hl 1 rfl) ?_
        obtain ⟨h_2, hf⟩ := gd_e hf
        refine s_iald 626 hx hb hK hM (ky_10_0 hG h0) (by decide) h_2 dX9_putAside_19 ?_
        obtain ⟨h_3, hf⟩ := gd_e hf
        obtain ⟨M4, eM4, hf⟩ := nb_e hf
        refine s_iast 626 hx hb hK hM hS (ky_10_5 hG h0) (by decide) (ky_b hG (ky_10_5 hG h0)) h_3 dX9_putAside_20 (fun H locs hM hS => ?_)
        rw [eM4] at hM
        obtain ⟨y5, ey5, hf⟩ := nb_e hf
        refine lv_iinc (v := y5) (lv' := [(1, .int y5), (0, .ref a0)]) hx hb dX9_putAside_21 hl (k := 1) rfl (by rw [← ey5]; rfl) (by decide) rfl (fun ls hl => ?_)
        refine lv_goto (tgt := 2) hx hb dX9_putAside_24 (by decide) ?_
        exact ih y5 _ H locs ls hM hS (lv_sub hl [1, 0] rfl) hf
  rw [f_X9_putAside] at hf
  obtain ⟨H, hHe⟩ : ∃ H, H = s.heap := ⟨_, rfl⟩
  obtain ⟨locs, hLe⟩ : ∃ L : List Loc, L = [] := ⟨_, rfl⟩
  rw [← hHe] at hM
  have hS : va_S (gA G) s.heap H locs := by rw [hHe, hLe]; exact va_S.rf
  suffices hW : W p l e ({ frames := 0, cells := 0, slots := 0, locals := 0 } : Room) s m args below meth c H locs 0 0 (MQ below (QV G none M') args s 0 0 (gA G)) (F0 m 0 ls []) by rw [hHe, hLe] at hW; exact hW
  refine lv_iconst (v := 0) hx hb dX9_putAside_0 (by decide) ?_
  refine lv_istore_n (lv' := [(1, .int 0), (0, .ref a0)]) hx hb dX9_putAside_1 rfl hl (by decide) rfl (fun ls hl => ?_)
  exact b2 _ 0 _ H locs ls hM hS (lv_sub hl [1, 0] rfl) hf
def f_X9_putBack_b2 (a0 : Nat) : Nat → Int32 → Mem → Option Mem
  | 0, _, _ => none
  | n + 1, x1, M => if (626 : Int32) ≤ x1 then (some M) else (gd (ix x1 626) <| gd (ix x1 626) <| nb (sI M (a0 + 1) x1.toNatClampNeg (mI M (a0 + 4) x1.toNatClampNeg)) fun M4 => nb (x1 + 1) fun y5 => f_X9_putBack_b2 a0 n y5 M4)
def f_X9_putBack (a0 : Nat) (M : Mem) : Option Mem := f_X9_putBack_b2 a0 lfuel 0 M
set_option maxHeartbeats 4000000 in
set_option maxRecDepth 100000 in
theorem k_X9_putBack (G : Gt) (hG : gOK G) (l : Launch) (a0 : Nat) (h0 : gK G a0 = 10) (M : Mem) {M' : Mem} (hf : f_X9_putBack a0 M = some M') : Kc G l yX9_putBack cX9_putBack 2 none ({ frames := 0, cells := 0, slots := 0, locals := 0 } : Room) [.ref a0] M none M' := by
  refine start (by decide) (Nat.le_of_ble_eq_true rfl) ?_
  intro p e s m args below meth c ls hx hb hr hown hml hlocks hts hV hM hl
  have hown : s.vm.findClass "FoldedVoicesModel" = some m.cls := hown
  have hK := hG.1.moved hV
  have hS : va_S (gA G) s.heap s.heap [] := va_S.rf
  have hl : lv_has ls 2 [(0, .ref a0)] := hl
  have hM0 := hM
  have b2 : ∀ (n : Nat), ∀ (x1 : Int32) (M : Mem) (H : Heap) (locs : List Loc) (ls : Array Slot), Mh G M H → va_S (gA G) s.heap H locs → lv_has ls 2 [(0, .ref a0), (1, .int x1)] → f_X9_putBack_b2 a0 n x1 M = some M' → W p l e ({ frames := 0, cells := 0, slots := 0, locals := 0 } : Room) s m args below meth c H locs 0 0 (MQ below (QV G none M') args s 0 0 (gA G)) (F0 m 2 ls []) := by
    intro n
    induction n with
    | zero =>
      intro x1 M H locs ls hM hS hl hf
      rw [f_X9_putBack_b2] at hf
      cases hf
    | succ n ih =>
      intro x1 M H locs ls hM hS hl hf
      rw [f_X9_putBack_b2] at hf
      refine lv_iload_n hx hb dX9_putBack_2 rfl (lv_at hl 1 rfl) ?_
      refine lv_sipush (v := 626) hx hb dX9_putBack_3 (by decide) ?_
      refine lv_icmp_ge (tgt := 27) hx hb dX9_putBack_6 (by decide) (fun g_1 => ?_) (fun g_1 => ?_)
      · rw [if_pos g_1] at hf
        exact ef_v hx hb hr hlocks hM hS hf dX9_putBack_27
      · rw [if_neg g_1] at hf
        refine lv_aload_n hx hb dX9_putBack_9 rfl (lv_at hl 0 rfl) ?_
        refine s_get hx hb (lay_9 hts) hown hK hM (c_10 h0) rfl 0 (by decide) rfl rfl (tk_963 hts) dX9_putBack_10 ?_
        refine lv_iload_n hx hb dX9_putBack_13 rfl (lv_at hl 1 rfl) ?_
        refine lv_aload_n hx hb dX9_putBack_14 rfl (lv_at hl 0 rfl) ?_
        refine s_get hx hb (lay_9 hts) hown hK hM (c_10 h0) rfl 5 (by decide) rfl rfl (tk_968 hts) dX9_putBack_15 ?_
        refine lv_iload_n hx hb dX9_putBack_18 rfl (lv_at hl 1 rfl) ?_
        obtain ⟨h_2, hf⟩ := gd_e hf
        refine s_iald 626 hx hb hK hM (ky_10_5 hG h0) (by decide) h_2 dX9_putBack_19 ?_
        obtain ⟨h_3, hf⟩ := gd_e hf
        obtain ⟨M4, eM4, hf⟩ := nb_e hf
        refine s_iast 626 hx hb hK hM hS (ky_10_0 hG h0) (by decide) (ky_b hG (ky_10_0 hG h0)) h_3 dX9_putBack_20 (fun H locs hM hS => ?_)
        rw [eM4] at hM
        obtain ⟨y5, ey5, hf⟩ := nb_e hf
        refine lv_iinc (v := y5) (lv' := [(1, .int y5), (0, .ref a0)]) hx hb dX9_putBack_21 hl (k := 1) rfl (by rw [← ey5]; rfl) (by decide) rfl (fun ls hl => ?_)
        refine lv_goto (tgt := 2) hx hb dX9_putBack_24 (by decide) ?_
        exact ih y5 _ H locs ls hM hS (lv_sub hl [1, 0] rfl) hf
  rw [f_X9_putBack] at hf
  obtain ⟨H, hHe⟩ : ∃ H, H = s.heap := ⟨_, rfl⟩
  obtain ⟨locs, hLe⟩ : ∃ L : List Loc, L = [] := ⟨_, rfl⟩
  rw [← hHe] at hM
  have hS : va_S (gA G) s.heap H locs := by rw [hHe, hLe]; exact va_S.rf
  suffices hW : W p l e ({ frames := 0, cells := 0, slots := 0, locals := 0 } : Room) s m args below meth c H locs 0 0 (MQ below (QV G none M') args s 0 0 (gA G)) (F0 m 0 ls []) by rw [hHe, hLe] at hW; exact hW
  refine lv_iconst (v := 0) hx hb dX9_putBack_0 (by decide) ?_
  refine lv_istore_n (lv' := [(1, .int 0), (0, .ref a0)]) hx hb dX9_putBack_1 rfl hl (by decide) rfl (fun ls hl => ?_)
  exact b2 _ 0 _ H locs ls hM hS (lv_sub hl [1, 0] rfl) hf
def f_X9_codeOf_b67 (a0 : Nat) (p1 : Int32) (p2 : Int32) (p3 : Int32) (x4 : Int32) (x5 : Int32) (x6 : Int32) (M : Mem) : Option Int32 := if x5 < (x4 / 4) then (some x6) else (some (x6 + 1))
def f_X9_codeOf_b46 (a0 : Nat) (p1 : Int32) (p2 : Int32) (p3 : Int32) (x4 : Int32) (x5 : Int32) (x6 : Int32) (M : Mem) : Option Int32 := if x5 < (x4 / 2) then (f_X9_codeOf_b67 a0 p1 p2 p3 x4 x5 x6 M) else (nb (x6 + 2) fun y3 => nb (x5 - (x4 / 2)) fun y4 => f_X9_codeOf_b67 a0 p1 p2 p3 x4 y4 y3 M)
def f_X9_codeOf_b27 (a0 : Nat) (p1 : Int32) (p2 : Int32) (p3 : Int32) (x4 : Int32) (x5 : Int32) (xs0 : Int32) (M : Mem) : Option Int32 := if x5 < x4 then (f_X9_codeOf_b46 a0 p1 p2 p3 x4 x5 xs0 M) else (nb (xs0 + 4) fun y6 => nb (x5 - x4) fun y7 => f_X9_codeOf_b46 a0 p1 p2 p3 x4 y7 y6 M)
def f_X9_codeOf (a0 : Nat) (p1 : Int32) (p2 : Int32) (p3 : Int32) (M : Mem) : Option Int32 := gd (ix p3 25) <| nb (mI M (a0 + 5) p3.toNatClampNeg) fun y9 => vb (f_X9_size (p1 - p2) M) fun r11 => if p2 ≤ p1 then (f_X9_codeOf_b27 a0 p1 p2 p3 y9 r11 0 M) else (f_X9_codeOf_b27 a0 p1 p2 p3 y9 r11 8 M)
set_option maxHeartbeats 4000000 in
set_option maxRecDepth 100000 in
theorem k_X9_codeOf (G : Gt) (hG : gOK G) (l : Launch) (a0 : Nat) (h0 : gK G a0 = 10) (p1 : Int32) (p2 : Int32) (p3 : Int32) (M : Mem) {r : Int32} (hf : f_X9_codeOf a0 p1 p2 p3 M = some r) : Kc G l yX9_codeOf cX9_codeOf 7 (some .int) ({ frames := 1, cells := 0, slots := 0, locals := 20 } : Room) [.ref a0, .int p1, .int p2, .int p3] M (some (.int r)) M := by
  refine start (by decide) (Nat.le_of_ble_eq_true rfl) ?_
  intro p e s m args below meth c ls hx hb hr hown hml hlocks hts hV hM hl
  have hown : s.vm.findClass "FoldedVoicesModel" = some m.cls := hown
  have hK := hG.1.moved hV
  have hS : va_S (gA G) s.heap s.heap [] := va_S.rf
  have hl : lv_has ls 7 [(0, .ref a0), (1, .int p1), (2, .int p2), (3, .int p3)] := hl
  have hM0 := hM
  have b67 : ∀ (x4 : Int32) (x5 : Int32) (x6 : Int32) (M : Mem) (H : Heap) (locs : List Loc) (ls : Array Slot), Mh G M H → va_S (gA G) s.heap H locs → lv_has ls 7 [(0, .ref a0), (1, .int p1), (2, .int p2), (3, .int p3), (4, .int x4), (5, .int x5), (6, .int x6)] → f_X9_codeOf_b67 a0 p1 p2 p3 x4 x5 x6 M = some r → W p l e ({ frames := 1, cells := 0, slots := 0, locals := 20 } : Room) s m args below meth c H locs 0 0 (MQ below (QV G (some (.int r)) M) args s 0 0 (gA G)) (F0 m 67 ls []) := by
    intro x4 x5 x6 M H locs ls hM hS hl hf
    rw [f_X9_codeOf_b67] at hf
    refine lv_iload hx hb dX9_codeOf_67 (lv_at hl 5 rfl) ?_
    refine lv_iload hx hb dX9_codeOf_69 (lv_at hl 4 rfl) ?_
    refine lv_iconst (v := 4) hx hb dX9_codeOf_71 (by decide) ?_
    refine lv_idiv hx hb dX9_codeOf_72 (by decide) ?_
    refine lv_icmp_lt (tgt := 83) hx hb dX9_codeOf_73 (by decide) (fun g_1 => ?_) (fun g_1 => ?_)
    · rw [if_pos g_1] at hf
      refine lv_iload hx hb dX9_codeOf_83 (lv_at hl 6 rfl) ?_
      exact ef_ip hx hb hr hlocks hM hS hf dX9_codeOf_85
    · rw [if_neg g_1] at hf
      refine lv_iload hx hb dX9_codeOf_76 (lv_at hl 6 rfl) ?_
      refine lv_iconst (v := 1) hx hb dX9_codeOf_78 (by decide) ?_
      refine lv_iadd hx hb dX9_codeOf_79 ?_
      refine lv_goto (tgt := 85) hx hb dX9_codeOf_80 (by decide) ?_
      exact ef_ip hx hb hr hlocks hM hS hf dX9_codeOf_85
  have b46 : ∀ (x4 : Int32) (x5 : Int32) (x6 : Int32) (M : Mem) (H : Heap) (locs : List Loc) (ls : Array Slot), Mh G M H → va_S (gA G) s.heap H locs → lv_has ls 7 [(0, .ref a0), (1, .int p1), (2, .int p2), (3, .int p3), (4, .int x4), (5, .int x5), (6, .int x6)] → f_X9_codeOf_b46 a0 p1 p2 p3 x4 x5 x6 M = some r → W p l e ({ frames := 1, cells := 0, slots := 0, locals := 20 } : Room) s m args below meth c H locs 0 0 (MQ below (QV G (some (.int r)) M) args s 0 0 (gA G)) (F0 m 46 ls []) := by
    intro x4 x5 x6 M H locs ls hM hS hl hf
    rw [f_X9_codeOf_b46] at hf
    refine lv_iload hx hb dX9_codeOf_46 (lv_at hl 5 rfl) ?_
    refine lv_iload hx hb dX9_codeOf_48 (lv_at hl 4 rfl) ?_
    refine lv_iconst (v := 2) hx hb dX9_codeOf_50 (by decide) ?_
    refine lv_idiv hx hb dX9_codeOf_51 (by decide) ?_
    refine lv_icmp_lt (tgt := 67) hx hb dX9_codeOf_52 (by decide) (fun g_2 => ?_) (fun g_2 => ?_)
    · rw [if_pos g_2] at hf
      exact b67 x4 x5 x6 _ H locs ls hM hS (lv_sub hl [0, 1, 2, 3, 4, 5, 6] rfl) hf
    · rw [if_neg g_2] at hf
      obtain ⟨y3, ey3, hf⟩ := nb_e hf
      refine lv_iinc (v := y3) (lv' := [(6, .int y3), (0, .ref a0), (1, .int p1), (2, .int p2), (3, .int p3), (4, .int x4), (5, .int x5)]) hx hb dX9_codeOf_55 hl (k := 6) rfl (by rw [← ey3]; rfl) (by decide) rfl (fun ls hl => ?_)
      refine lv_iload hx hb dX9_codeOf_58 (lv_at hl 6 rfl) ?_
      refine lv_iload hx hb dX9_codeOf_60 (lv_at hl 5 rfl) ?_
      refine lv_iconst (v := 2) hx hb dX9_codeOf_62 (by decide) ?_
      refine lv_idiv hx hb dX9_codeOf_63 (by decide) ?_
      refine lv_isub hx hb dX9_codeOf_64 ?_
      obtain ⟨y4, ey4, hf⟩ := nb_e hf
      refine s_nm ey4 ?_
      refine lv_istore (lv' := [(5, .int y4), (6, .int y3), (0, .ref a0), (1, .int p1), (2, .int p2), (3, .int p3), (4, .int x4)]) hx hb dX9_codeOf_65 hl (by decide) rfl (fun ls hl => ?_)
      exact b67 x4 y4 y3 _ H locs ls hM hS (lv_sub hl [2, 3, 4, 5, 6, 0, 1] rfl) hf
  have b27 : ∀ (x4 : Int32) (x5 : Int32) (xs0 : Int32) (M : Mem) (H : Heap) (locs : List Loc) (ls : Array Slot), Mh G M H → va_S (gA G) s.heap H locs → lv_has ls 7 [(0, .ref a0), (1, .int p1), (2, .int p2), (3, .int p3), (4, .int x4), (5, .int x5)] → f_X9_codeOf_b27 a0 p1 p2 p3 x4 x5 xs0 M = some r → W p l e ({ frames := 1, cells := 0, slots := 0, locals := 20 } : Room) s m args below meth c H locs 0 0 (MQ below (QV G (some (.int r)) M) args s 0 0 (gA G)) (F0 m 27 ls [.int xs0]) := by
    intro x4 x5 xs0 M H locs ls hM hS hl hf
    rw [f_X9_codeOf_b27] at hf
    refine lv_istore (lv' := [(6, .int xs0), (0, .ref a0), (1, .int p1), (2, .int p2), (3, .int p3), (4, .int x4), (5, .int x5)]) hx hb dX9_codeOf_27 hl (by decide) rfl (fun ls hl => ?_)
    refine lv_iload hx hb dX9_codeOf_29 (lv_at hl 6 rfl) ?_
    refine lv_iload hx hb dX9_codeOf_31 (lv_at hl 5 rfl) ?_
    refine lv_icmp_lt (tgt := 46) hx hb dX9_codeOf_33 (by decide) (fun g_5 => ?_) (fun g_5 => ?_)
    · rw [if_pos g_5] at hf
      exact b46 x4 x5 xs0 _ H locs ls hM hS (lv_sub hl [1, 2, 3, 4, 5, 6, 0] rfl) hf
    · rw [if_neg g_5] at hf
      obtain ⟨y6, ey6, hf⟩ := nb_e hf
      refine lv_iinc (v := y6) (lv' := [(6, .int y6), (0, .ref a0), (1, .int p1), (2, .int p2), (3, .int p3), (4, .int x4), (5, .int x5)]) hx hb dX9_codeOf_36 hl (k := 0) rfl (by rw [← ey6]; rfl) (by decide) rfl (fun ls hl => ?_)
      refine lv_iload hx hb dX9_codeOf_39 (lv_at hl 6 rfl) ?_
      refine lv_iload hx hb dX9_codeOf_41 (lv_at hl 5 rfl) ?_
      refine lv_isub hx hb dX9_codeOf_43 ?_
      obtain ⟨y7, ey7, hf⟩ := nb_e hf
      refine s_nm ey7 ?_
      refine lv_istore (lv' := [(5, .int y7), (6, .int y6), (0, .ref a0), (1, .int p1), (2, .int p2), (3, .int p3), (4, .int x4)]) hx hb dX9_codeOf_44 hl (by decide) rfl (fun ls hl => ?_)
      exact b46 x4 y7 y6 _ H locs ls hM hS (lv_sub hl [2, 3, 4, 5, 6, 0, 1] rfl) hf
  rw [f_X9_codeOf] at hf
  obtain ⟨H, hHe⟩ : ∃ H, H = s.heap := ⟨_, rfl⟩
  obtain ⟨locs, hLe⟩ : ∃ L : List Loc, L = [] := ⟨_, rfl⟩
  rw [← hHe] at hM
  have hS : va_S (gA G) s.heap H locs := by rw [hHe, hLe]; exact va_S.rf
  suffices hW : W p l e ({ frames := 1, cells := 0, slots := 0, locals := 20 } : Room) s m args below meth c H locs 0 0 (MQ below (QV G (some (.int r)) M) args s 0 0 (gA G)) (F0 m 0 ls []) by rw [hHe, hLe] at hW; exact hW
  refine lv_aload_n hx hb dX9_codeOf_0 rfl (lv_at hl 0 rfl) ?_
  refine s_get hx hb (lay_9 hts) hown hK hM (c_10 h0) rfl 6 (by decide) rfl rfl (tk_969 hts) dX9_codeOf_1 ?_
  refine lv_iload_n hx hb dX9_codeOf_4 rfl (lv_at hl 3 rfl) ?_
  obtain ⟨h_8, hf⟩ := gd_e hf
  refine s_iald 25 hx hb hK hM (ky_10_6 hG h0) (by decide) h_8 dX9_codeOf_5 ?_
  obtain ⟨y9, ey9, hf⟩ := nb_e hf
  refine s_nm ey9 ?_
  refine lv_istore (lv' := [(4, .int y9), (0, .ref a0), (1, .int p1), (2, .int p2), (3, .int p3)]) hx hb dX9_codeOf_6 hl (by decide) rfl (fun ls hl => ?_)
  refine lv_iload_n hx hb dX9_codeOf_8 rfl (lv_at hl 2 rfl) ?_
  refine lv_iload_n hx hb dX9_codeOf_9 rfl (lv_at hl 3 rfl) ?_
  refine lv_isub hx hb dX9_codeOf_10 ?_
  obtain ⟨r11, e_10, hf⟩ := vb_e hf
  refine c_Si hx hb hml hown hts hV hM hS (As := [.int (p1 - p2)]) (rest := []) (k_X9_size G hG l (p1 - p2) M e_10) w_X9_size (tk_1061 hts) ⟨⟨rfl, rfl⟩, Nat.le_of_ble_eq_true rfl, Nat.le_of_ble_eq_true rfl⟩ ⟨Nat.zero_le _, Nat.zero_le _⟩ rfl hl.1 rfl (Nat.le_of_ble_eq_true rfl) dX9_codeOf_11 (fun H locs hM hS => ?_)
  refine lv_istore (lv' := [(5, .int r11), (4, .int y9), (0, .ref a0), (1, .int p1), (2, .int p2), (3, .int p3)]) hx hb dX9_codeOf_14 hl (by decide) rfl (fun ls hl => ?_)
  refine lv_iload_n hx hb dX9_codeOf_16 rfl (lv_at hl 3 rfl) ?_
  refine lv_iload_n hx hb dX9_codeOf_17 rfl (lv_at hl 4 rfl) ?_
  refine lv_icmp_ge (tgt := 26) hx hb dX9_codeOf_18 (by decide) (fun g_12 => ?_) (fun g_12 => ?_)
  · rw [if_pos g_12] at hf
    refine lv_iconst (v := 0) hx hb dX9_codeOf_26 (by decide) ?_
    exact b27 y9 r11 0 _ H locs ls hM hS (lv_sub hl [2, 3, 4, 5, 1, 0] rfl) hf
  · rw [if_neg g_12] at hf
    refine lv_bipush (v := 8) hx hb dX9_codeOf_21 (by decide) ?_
    refine lv_goto (tgt := 27) hx hb dX9_codeOf_23 (by decide) ?_
    exact b27 y9 r11 8 _ H locs ls hM hS (lv_sub hl [2, 3, 4, 5, 1, 0] rfl) hf
