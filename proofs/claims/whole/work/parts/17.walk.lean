def f_X8_bitsOfDouble_b87 (p0 : UInt64) (x2 : UInt64) (x4 : Int64) (M : Mem) : Option Int64 := gd ((FP.dsub x2 FP.dconst1) &&& 0x7fffffffffffffff ≤ 0x7ff0000000000000) <| gd ((FP.dmul (FP.dsub x2 FP.dconst1) (4841369599423283200 : UInt64)) &&& 0x7fffffffffffffff ≤ 0x7ff0000000000000) <| some ((x4 <<< ((52 : Int32).toInt64 &&& 63)) + (FP.d2l (FP.dmul (FP.dsub x2 FP.dconst1) (4841369599423283200 : UInt64))))
def f_X8_bitsOfDouble_b55 (p0 : UInt64) : Nat → UInt64 → Int64 → Int32 → Mem → Option Int64
  | 0, _, _, _, _ => none
  | n + 1, x2, x4, x6, M => if (1023 : Int32) ≤ x6 then (f_X8_bitsOfDouble_b87 p0 x2 x4 M) else (if 0 ≤ (Op.cmpValue (FP.dcmp x2 FP.dconst1) .g) then (f_X8_bitsOfDouble_b87 p0 x2 x4 M) else (gd ((FP.dmul x2 (4611686018427387904 : UInt64)) &&& 0x7fffffffffffffff ≤ 0x7ff0000000000000) <| nb (FP.dmul x2 (4611686018427387904 : UInt64)) fun y6 => nb (x4 - (1 : Int64)) fun y7 => nb (x6 + 1) fun y8 => f_X8_bitsOfDouble_b55 p0 n y6 y7 y8 M))
def f_X8_bitsOfDouble_b52 (p0 : UInt64) (x2 : UInt64) (x4 : Int64) (M : Mem) : Option Int64 := f_X8_bitsOfDouble_b55 p0 lfuel x2 x4 0 M
def f_X8_bitsOfDouble_b18 (p0 : UInt64) : Nat → UInt64 → Int64 → Int32 → Mem → Option Int64
  | 0, _, _, _, _ => none
  | n + 1, x2, x4, x6, M => if (1023 : Int32) ≤ x6 then (f_X8_bitsOfDouble_b52 p0 x2 x4 M) else (if (Op.cmpValue (FP.dcmp x2 (4611686018427387904 : UInt64)) .l) < 0 then (f_X8_bitsOfDouble_b52 p0 x2 x4 M) else (gd ((FP.ddiv x2 (4611686018427387904 : UInt64)) &&& 0x7fffffffffffffff ≤ 0x7ff0000000000000) <| nb (FP.ddiv x2 (4611686018427387904 : UInt64)) fun y12 => nb (x4 + (1 : Int64)) fun y13 => nb (x6 + 1) fun y14 => f_X8_bitsOfDouble_b18 p0 n y12 y13 y14 M))
def f_X8_bitsOfDouble (p0 : UInt64) (M : Mem) : Option Int64 := if 0 < (Op.cmpValue (FP.dcmp p0 FP.dconst0) .l) then (nb (1023 : Int64) fun y16 => f_X8_bitsOfDouble_b18 p0 lfuel p0 y16 0 M) else (some (0 : Int64))
set_option maxHeartbeats 4000000 in
set_option maxRecDepth 100000 in
theorem k_X8_bitsOfDouble (G : Gt) (hG : gOK G) (l : Launch) (p0 : UInt64) (M : Mem) {r : Int64} (hf : f_X8_bitsOfDouble p0 M = some r) : Kc G l yX8_bitsOfDouble cX8_bitsOfDouble 7 (some .long) ({ frames := 0, cells := 0, slots := 0, locals := 0 } : Room) [.double p0] M (some (.long r)) M := by
  refine start (by decide) (Nat.le_of_ble_eq_true rfl) ?_
  intro p e s m args below meth c ls hx hb hr hown hml hlocks hts hV hM hl
  have hown : s.vm.findClass "FoldedVoices" = some m.cls := hown
  have hK := hG.1.moved hV
  have hS : va_S (gA G) s.heap s.heap [] := va_S.rf
  have hl : lv_has ls 7 [(0, .double p0)] := hl
  have hM0 := hM
  have b87 : ∀ (x2 : UInt64) (x4 : Int64) (M : Mem) (H : Heap) (locs : List Loc) (ls : Array Slot), Mh G M H → va_S (gA G) s.heap H locs → lv_has ls 7 [(0, .double p0), (2, .double x2), (4, .long x4)] → f_X8_bitsOfDouble_b87 p0 x2 x4 M = some r → W p l e ({ frames := 0, cells := 0, slots := 0, locals := 0 } : Room) s m args below meth c H locs 0 0 (MQ below (QV G (some (.long r)) M) args s 0 0 (gA G)) (F0 m 87 ls []) := by
    intro x2 x4 M H locs ls hM hS hl hf
    rw [f_X8_bitsOfDouble_b87] at hf
    refine lv_lload hx hb dX8_bitsOfDouble_87 (lv_at hl 2 rfl) ?_
    refine lv_bipush (v := 52) hx hb dX8_bitsOfDouble_89 (by decide) ?_
    refine lv_lshl hx hb dX8_bitsOfDouble_91 rfl ?_
    refine lv_dload_n hx hb dX8_bitsOfDouble_92 rfl (lv_at hl 1 rfl) ?_
    refine lv_dconst1 hx hb dX8_bitsOfDouble_93 ?_
    obtain ⟨h_1, hf⟩ := gd_e hf
    refine lv_dsub hx hb dX8_bitsOfDouble_94 h_1 ?_
    refine lv_ldc2d hx hb hown (tk_555 hts) dX8_bitsOfDouble_95 ?_
    obtain ⟨h_2, hf⟩ := gd_e hf
    refine lv_dmul hx hb dX8_bitsOfDouble_98 h_2 ?_
    refine lv_d2l hx hb dX8_bitsOfDouble_99 ?_
    refine lv_ladd hx hb dX8_bitsOfDouble_100 ?_
    exact ef_lp hx hb hr hlocks hM hS hf dX8_bitsOfDouble_101
  have b55 : ∀ (n : Nat), ∀ (x2 : UInt64) (x4 : Int64) (x6 : Int32) (M : Mem) (H : Heap) (locs : List Loc) (ls : Array Slot), Mh G M H → va_S (gA G) s.heap H locs → lv_has ls 7 [(0, .double p0), (2, .double x2), (4, .long x4), (6, .int x6)] → f_X8_bitsOfDouble_b55 p0 n x2 x4 x6 M = some r → W p l e ({ frames := 0, cells := 0, slots := 0, locals := 0 } : Room) s m args below meth c H locs 0 0 (MQ below (QV G (some (.long r)) M) args s 0 0 (gA G)) (F0 m 55 ls []) := by
    intro n
    induction n with
    | zero =>
      intro x2 x4 x6 M H locs ls hM hS hl hf
      rw [f_X8_bitsOfDouble_b55] at hf
      cases hf
    | succ n ih =>
      intro x2 x4 x6 M H locs ls hM hS hl hf
      rw [f_X8_bitsOfDouble_b55] at hf
      refine lv_iload hx hb dX8_bitsOfDouble_55 (lv_at hl 3 rfl) ?_
      refine lv_sipush (v := 1023) hx hb dX8_bitsOfDouble_57 (by decide) ?_
      refine lv_icmp_ge (tgt := 87) hx hb dX8_bitsOfDouble_60 (by decide) (fun g_3 => ?_) (fun g_3 => ?_)
      · rw [if_pos g_3] at hf
        exact b87 x2 x4 _ H locs ls hM hS (lv_sub hl [0, 1, 2] rfl) hf
      · rw [if_neg g_3] at hf
        refine lv_dload_n hx hb dX8_bitsOfDouble_63 rfl (lv_at hl 1 rfl) ?_
        refine lv_dconst1 hx hb dX8_bitsOfDouble_64 ?_
        refine lv_dcmp hx hb dX8_bitsOfDouble_65 ?_
        refine lv_if_ge (tgt := 87) hx hb dX8_bitsOfDouble_66 (by decide) (fun g_4 => ?_) (fun g_4 => ?_)
        · rw [if_pos g_4] at hf
          exact b87 x2 x4 _ H locs ls hM hS (lv_sub hl [0, 1, 2] rfl) hf
        · rw [if_neg g_4] at hf
          refine lv_dload_n hx hb dX8_bitsOfDouble_69 rfl (lv_at hl 1 rfl) ?_
          refine lv_ldc2d hx hb hown (tk_554 hts) dX8_bitsOfDouble_70 ?_
          obtain ⟨h_5, hf⟩ := gd_e hf
          refine lv_dmul hx hb dX8_bitsOfDouble_73 h_5 ?_
          obtain ⟨y6, ey6, hf⟩ := nb_e hf
          refine s_nmd ey6 ?_
          refine lv_dstore_n (lv' := [(2, .double y6), (0, .double p0), (4, .long x4), (6, .int x6)]) hx hb dX8_bitsOfDouble_74 rfl hl (by decide) rfl (fun ls hl => ?_)
          refine lv_lload hx hb dX8_bitsOfDouble_75 (lv_at hl 2 rfl) ?_
          refine lv_lconst (v := 1) hx hb dX8_bitsOfDouble_77 (by decide) ?_
          refine lv_lsub hx hb dX8_bitsOfDouble_78 ?_
          obtain ⟨y7, ey7, hf⟩ := nb_e hf
          refine s_nml ey7 ?_
          refine lv_lstore (lv' := [(4, .long y7), (2, .double y6), (0, .double p0), (6, .int x6)]) hx hb dX8_bitsOfDouble_79 hl (by decide) rfl (fun ls hl => ?_)
          obtain ⟨y8, ey8, hf⟩ := nb_e hf
          refine lv_iinc (v := y8) (lv' := [(6, .int y8), (4, .long y7), (2, .double y6), (0, .double p0)]) hx hb dX8_bitsOfDouble_81 hl (k := 3) rfl (by rw [← ey8]; rfl) (by decide) rfl (fun ls hl => ?_)
          refine lv_goto (tgt := 55) hx hb dX8_bitsOfDouble_84 (by decide) ?_
          exact ih y6 y7 y8 _ H locs ls hM hS (lv_sub hl [3, 2, 1, 0] rfl) hf
  have b52 : ∀ (x2 : UInt64) (x4 : Int64) (M : Mem) (H : Heap) (locs : List Loc) (ls : Array Slot), Mh G M H → va_S (gA G) s.heap H locs → lv_has ls 7 [(0, .double p0), (2, .double x2), (4, .long x4)] → f_X8_bitsOfDouble_b52 p0 x2 x4 M = some r → W p l e ({ frames := 0, cells := 0, slots := 0, locals := 0 } : Room) s m args below meth c H locs 0 0 (MQ below (QV G (some (.long r)) M) args s 0 0 (gA G)) (F0 m 52 ls []) := by
    intro x2 x4 M H locs ls hM hS hl hf
    rw [f_X8_bitsOfDouble_b52] at hf
    refine lv_iconst (v := 0) hx hb dX8_bitsOfDouble_52 (by decide) ?_
    refine lv_istore (lv' := [(6, .int 0), (0, .double p0), (2, .double x2), (4, .long x4)]) hx hb dX8_bitsOfDouble_53 hl (by decide) rfl (fun ls hl => ?_)
    exact b55 _ x2 x4 0 _ H locs ls hM hS (lv_sub hl [1, 2, 3, 0] rfl) hf
  have b18 : ∀ (n : Nat), ∀ (x2 : UInt64) (x4 : Int64) (x6 : Int32) (M : Mem) (H : Heap) (locs : List Loc) (ls : Array Slot), Mh G M H → va_S (gA G) s.heap H locs → lv_has ls 7 [(0, .double p0), (2, .double x2), (4, .long x4), (6, .int x6)] → f_X8_bitsOfDouble_b18 p0 n x2 x4 x6 M = some r → W p l e ({ frames := 0, cells := 0, slots := 0, locals := 0 } : Room) s m args below meth c H locs 0 0 (MQ below (QV G (some (.long r)) M) args s 0 0 (gA G)) (F0 m 18 ls []) := by
    intro n
    induction n with
    | zero =>
      intro x2 x4 x6 M H locs ls hM hS hl hf
      rw [f_X8_bitsOfDouble_b18] at hf
      cases hf
    | succ n ih =>
      intro x2 x4 x6 M H locs ls hM hS hl hf
      rw [f_X8_bitsOfDouble_b18] at hf
      refine lv_iload hx hb dX8_bitsOfDouble_18 (lv_at hl 3 rfl) ?_
      refine lv_sipush (v := 1023) hx hb dX8_bitsOfDouble_20 (by decide) ?_
      refine lv_icmp_ge (tgt := 52) hx hb dX8_bitsOfDouble_23 (by decide) (fun g_9 => ?_) (fun g_9 => ?_)
      · rw [if_pos g_9] at hf
        exact b52 x2 x4 _ H locs ls hM hS (lv_sub hl [0, 1, 2] rfl) hf
      · rw [if_neg g_9] at hf
        refine lv_dload_n hx hb dX8_bitsOfDouble_26 rfl (lv_at hl 1 rfl) ?_
        refine lv_ldc2d hx hb hown (tk_554 hts) dX8_bitsOfDouble_27 ?_
        refine lv_dcmp hx hb dX8_bitsOfDouble_30 ?_
        refine lv_if_lt (tgt := 52) hx hb dX8_bitsOfDouble_31 (by decide) (fun g_10 => ?_) (fun g_10 => ?_)
        · rw [if_pos g_10] at hf
          exact b52 x2 x4 _ H locs ls hM hS (lv_sub hl [0, 1, 2] rfl) hf
        · rw [if_neg g_10] at hf
          refine lv_dload_n hx hb dX8_bitsOfDouble_34 rfl (lv_at hl 1 rfl) ?_
          refine lv_ldc2d hx hb hown (tk_554 hts) dX8_bitsOfDouble_35 ?_
          obtain ⟨h_11, hf⟩ := gd_e hf
          refine lv_ddiv hx hb dX8_bitsOfDouble_38 h_11 ?_
          obtain ⟨y12, ey12, hf⟩ := nb_e hf
          refine s_nmd ey12 ?_
          refine lv_dstore_n (lv' := [(2, .double y12), (0, .double p0), (4, .long x4), (6, .int x6)]) hx hb dX8_bitsOfDouble_39 rfl hl (by decide) rfl (fun ls hl => ?_)
          refine lv_lload hx hb dX8_bitsOfDouble_40 (lv_at hl 2 rfl) ?_
          refine lv_lconst (v := 1) hx hb dX8_bitsOfDouble_42 (by decide) ?_
          refine lv_ladd hx hb dX8_bitsOfDouble_43 ?_
          obtain ⟨y13, ey13, hf⟩ := nb_e hf
          refine s_nml ey13 ?_
          refine lv_lstore (lv' := [(4, .long y13), (2, .double y12), (0, .double p0), (6, .int x6)]) hx hb dX8_bitsOfDouble_44 hl (by decide) rfl (fun ls hl => ?_)
          obtain ⟨y14, ey14, hf⟩ := nb_e hf
          refine lv_iinc (v := y14) (lv' := [(6, .int y14), (4, .long y13), (2, .double y12), (0, .double p0)]) hx hb dX8_bitsOfDouble_46 hl (k := 3) rfl (by rw [← ey14]; rfl) (by decide) rfl (fun ls hl => ?_)
          refine lv_goto (tgt := 18) hx hb dX8_bitsOfDouble_49 (by decide) ?_
          exact ih y12 y13 y14 _ H locs ls hM hS (lv_sub hl [3, 2, 1, 0] rfl) hf
  rw [f_X8_bitsOfDouble] at hf
  obtain ⟨H, hHe⟩ : ∃ H, H = s.heap := ⟨_, rfl⟩
  obtain ⟨locs, hLe⟩ : ∃ L : List Loc, L = [] := ⟨_, rfl⟩
  rw [← hHe] at hM
  have hS : va_S (gA G) s.heap H locs := by rw [hHe, hLe]; exact va_S.rf
  suffices hW : W p l e ({ frames := 0, cells := 0, slots := 0, locals := 0 } : Room) s m args below meth c H locs 0 0 (MQ below (QV G (some (.long r)) M) args s 0 0 (gA G)) (F0 m 0 ls []) by rw [hHe, hLe] at hW; exact hW
  refine lv_dload_n hx hb dX8_bitsOfDouble_0 rfl (lv_at hl 0 rfl) ?_
  refine lv_dconst0 hx hb dX8_bitsOfDouble_1 ?_
  refine lv_dcmp hx hb dX8_bitsOfDouble_2 ?_
  refine lv_if_gt (tgt := 8) hx hb dX8_bitsOfDouble_3 (by decide) (fun g_15 => ?_) (fun g_15 => ?_)
  · rw [if_pos g_15] at hf
    refine lv_dload_n hx hb dX8_bitsOfDouble_8 rfl (lv_at hl 0 rfl) ?_
    refine lv_dstore_n (lv' := [(2, .double p0), (0, .double p0)]) hx hb dX8_bitsOfDouble_9 rfl hl (by decide) rfl (fun ls hl => ?_)
    refine lv_ldc2 hx hb hown (tk_553 hts) dX8_bitsOfDouble_10 ?_
    obtain ⟨y16, ey16, hf⟩ := nb_e hf
    refine s_nml ey16 ?_
    refine lv_lstore (lv' := [(4, .long y16), (2, .double p0), (0, .double p0)]) hx hb dX8_bitsOfDouble_13 hl (by decide) rfl (fun ls hl => ?_)
    refine lv_iconst (v := 0) hx hb dX8_bitsOfDouble_15 (by decide) ?_
    refine lv_istore (lv' := [(6, .int 0), (4, .long y16), (2, .double p0), (0, .double p0)]) hx hb dX8_bitsOfDouble_16 hl (by decide) rfl (fun ls hl => ?_)
    exact b18 _ p0 y16 0 _ H locs ls hM hS (lv_sub hl [3, 2, 1, 0] rfl) hf
  · rw [if_neg g_15] at hf
    refine lv_lconst (v := 0) hx hb dX8_bitsOfDouble_6 (by decide) ?_
    exact ef_lp hx hb hr hlocks hM hS hf dX8_bitsOfDouble_7
def f_X8_withVoice_b173 (a0 : Nat) (p1 : Int64) (a3 : Nat) : Nat → Int64 → Int32 → Mem → Option (Int64 × Mem)
  | 0, _, _, _ => none
  | n + 1, x4, x6, M => if (3 : Int32) < x6 then (vb (f_X1_meanOfErrors (a3 + 9) M) fun r3 => vb (f_X8_bitsOfDouble r3 M) fun r5 => vb (f_X8_mixed x4 r5 M) fun r7 => some (r7, M)) else (cb (f_X8_tellIfAllCame a0 a3 x6 M) fun r9 M10 => vb (f_X8_mixed x4 r9.toInt64 M10) fun r12 => nb (x6 + 1) fun y13 => f_X8_withVoice_b173 a0 p1 a3 n r12 y13 M10)
def f_X8_withVoice_b123 (a0 : Nat) (p1 : Int64) (a3 : Nat) : Nat → Int64 → Int32 → Mem → Option (Int64 × Mem)
  | 0, _, _, _ => none
  | n + 1, x4, x6, M => if (4 : Int32) < x6 then (cb (f_X8_codesToComeNear a0 a3 (-500) 50 M) fun r16 M17 => vb (f_X8_mixed x4 r16.toInt64 M17) fun r19 => f_X8_withVoice_b173 a0 p1 a3 lfuel r19 0 M17) else (cb (f_X8_tellCode a0 a3 100 x6 M) fun r21 M22 => vb (f_X8_mixed x4 r21.toInt64 M22) fun r24 => nb (x6 + 1) fun y25 => f_X8_withVoice_b123 a0 p1 a3 n r24 y25 M22)
def f_X8_withVoice_b107 (a0 : Nat) (p1 : Int64) (a3 : Nat) (x4 : Int64) (M : Mem) : Option (Int64 × Mem) := cb (f_X8_tellWhy a0 a3 M) fun r27 M28 => vb (f_X8_mixed x4 r27.toInt64 M28) fun r30 => f_X8_withVoice_b123 a0 p1 a3 lfuel r30 0 M28
def f_X8_withVoice_b68 (a0 : Nat) (p1 : Int64) (a3 : Nat) : Nat → Int64 → Int32 → Mem → Option (Int64 × Mem)
  | 0, _, _, _ => none
  | n + 1, x4, x6, M => if (mI M a3 3) ≤ x6 then (f_X8_withVoice_b107 a0 p1 a3 x4 M) else (if (8 : Int32) ≤ x6 then (f_X8_withVoice_b107 a0 p1 a3 x4 M) else (gd (ix x6 8) <| nb (mR M (a3 + 11) x6.toNatClampNeg) fun z35 => vb (f_X8_withPacket x4 z35 M) fun r37 => nb (x6 + 1) fun y38 => f_X8_withVoice_b68 a0 p1 a3 n r37 y38 M))
def f_X8_withVoice_b37 (a0 : Nat) (p1 : Int64) (a3 : Nat) : Nat → Int64 → Int32 → Mem → Option (Int64 × Mem)
  | 0, _, _, _ => none
  | n + 1, x4, x6, M => if (11 : Int32) < x6 then (f_X8_withVoice_b68 a0 p1 a3 lfuel x4 0 M) else (vb (f_X8_tellHearing a0 a3 x6 M) fun r41 => vb (f_X8_mixed x4 r41.toInt64 M) fun r43 => nb (x6 + 1) fun y44 => f_X8_withVoice_b37 a0 p1 a3 n r43 y44 M)
def f_X8_withVoice_b6 (a0 : Nat) (p1 : Int64) (a3 : Nat) : Nat → Int64 → Int32 → Mem → Option (Int64 × Mem)
  | 0, _, _, _ => none
  | n + 1, x4, x6, M => if (9 : Int32) < x6 then (f_X8_withVoice_b37 a0 p1 a3 lfuel x4 0 M) else (cb (f_X8_tellSaying a0 a3 x6 M) fun r47 M48 => vb (f_X8_mixed x4 r47.toInt64 M48) fun r50 => nb (x6 + 1) fun y51 => f_X8_withVoice_b6 a0 p1 a3 n r50 y51 M48)
def f_X8_withVoice (a0 : Nat) (p1 : Int64) (a3 : Nat) (M : Mem) : Option (Int64 × Mem) := f_X8_withVoice_b6 a0 p1 a3 lfuel p1 0 M
set_option maxHeartbeats 4000000 in
set_option maxRecDepth 100000 in
theorem k_X8_withVoice (G : Gt) (hG : gOK G) (l : Launch) (a0 : Nat) (h0 : gK G a0 = 9) (p1 : Int64) (a3 : Nat) (h3 : gK G a3 = 8) (M : Mem) {r : Int64} {M' : Mem} (hf : f_X8_withVoice a0 p1 a3 M = some (r, M')) : Kc G l yX8_withVoice cX8_withVoice 7 (some .long) ({ frames := 6, cells := 0, slots := 0, locals := 135 } : Room) [.ref a0, .long p1, .ref a3] M (some (.long r)) M' := by
  refine start (by decide) (Nat.le_of_ble_eq_true rfl) ?_
  intro p e s m args below meth c ls hx hb hr hown hml hlocks hts hV hM hl
  have hown : s.vm.findClass "FoldedVoices" = some m.cls := hown
  have hK := hG.1.moved hV
  have hS : va_S (gA G) s.heap s.heap [] := va_S.rf
  have hl : lv_has ls 7 [(0, .ref a0), (1, .long p1), (3, .ref a3)] := hl
  have hM0 := hM
  have b173 : ∀ (n : Nat), ∀ (x4 : Int64) (x6 : Int32) (M : Mem) (H : Heap) (locs : List Loc) (ls : Array Slot), Mh G M H → va_S (gA G) s.heap H locs → lv_has ls 7 [(0, .ref a0), (1, .long p1), (3, .ref a3), (4, .long x4), (6, .int x6)] → f_X8_withVoice_b173 a0 p1 a3 n x4 x6 M = some (r, M') → W p l e ({ frames := 6, cells := 0, slots := 0, locals := 135 } : Room) s m args below meth c H locs 0 0 (MQ below (QV G (some (.long r)) M') args s 0 0 (gA G)) (F0 m 173 ls []) := by
    intro n
    induction n with
    | zero =>
      intro x4 x6 M H locs ls hM hS hl hf
      rw [f_X8_withVoice_b173] at hf
      cases hf
    | succ n ih =>
      intro x4 x6 M H locs ls hM hS hl hf
      rw [f_X8_withVoice_b173] at hf
      refine lv_iload hx hb dX8_withVoice_173 (lv_at hl 4 rfl) ?_
      refine lv_iconst (v := 3) hx hb dX8_withVoice_175 (by decide) ?_
      refine lv_icmp_gt (tgt := 200) hx hb dX8_withVoice_176 (by decide) (fun g_1 => ?_) (fun g_1 => ?_)
      · rw [if_pos g_1] at hf
        refine lv_lload hx hb dX8_withVoice_200 (lv_at hl 3 rfl) ?_
        refine lv_aload_n hx hb dX8_withVoice_202 rfl (lv_at hl 2 rfl) ?_
        refine s_getN hx hb (lay_7 hts) hown hK hM (c_8 h3) rfl 1 (by decide) rfl rfl (tk_215 hts) dX8_withVoice_203 ?_
        obtain ⟨r3, e_2, hf⟩ := vb_e hf
        refine c_Vd hx hb hml hown hts hV hK hM hS (As := []) (rest := [.long x4]) (k_X1_meanOfErrors G hG l (a3 + 9) (ky_8_1 hG h3) M e_2) w_X1_meanOfErrors (tk_546 hts) (c_2 (ky_8_1 hG h3)) rfl rfl ⟨⟨rfl, rfl⟩, Nat.le_of_ble_eq_true rfl, Nat.le_of_ble_eq_true rfl⟩ ⟨Nat.zero_le _, Nat.zero_le _⟩ rfl hl.1 rfl (Nat.le_of_ble_eq_true rfl) dX8_withVoice_206 (fun H locs hM hS => ?_)
        obtain ⟨r5, e_4, hf⟩ := vb_e hf
        refine c_Sj hx hb hml hown hts hV hM hS (As := [.double r3]) (rest := [.long x4]) (k_X8_bitsOfDouble G hG l r3 M e_4) w_X8_bitsOfDouble (tk_550 hts) ⟨⟨rfl, rfl⟩, Nat.le_of_ble_eq_true rfl, Nat.le_of_ble_eq_true rfl⟩ ⟨Nat.zero_le _, Nat.zero_le _⟩ rfl hl.1 rfl (Nat.le_of_ble_eq_true rfl) dX8_withVoice_209 (fun H locs hM hS => ?_)
        obtain ⟨r7, e_6, hf⟩ := vb_e hf
        refine c_Sj hx hb hml hown hts hV hM hS (As := [.long x4, .long r5]) (rest := []) (k_X8_mixed G hG l x4 r5 M e_6) w_X8_mixed (tk_479 hts) ⟨⟨rfl, rfl⟩, Nat.le_of_ble_eq_true rfl, Nat.le_of_ble_eq_true rfl⟩ ⟨Nat.zero_le _, Nat.zero_le _⟩ rfl hl.1 rfl (Nat.le_of_ble_eq_true rfl) dX8_withVoice_212 (fun H locs hM hS => ?_)
        exact ef_lm hx hb hr hlocks hM hS hf dX8_withVoice_215
      · rw [if_neg g_1] at hf
        refine lv_lload hx hb dX8_withVoice_179 (lv_at hl 3 rfl) ?_
        refine lv_aload_n hx hb dX8_withVoice_181 rfl (lv_at hl 0 rfl) ?_
        refine lv_aload_n hx hb dX8_withVoice_182 rfl (lv_at hl 2 rfl) ?_
        refine lv_iload hx hb dX8_withVoice_183 (lv_at hl 4 rfl) ?_
        obtain ⟨r9, M10, e_8, hf⟩ := cb_e hf
        refine c_Vi hx hb hml hown hts hV hK hM hS (As := [.ref a3, .int x6]) (rest := [.long x4]) (k_X8_tellIfAllCame G hG l a0 h0 a3 h3 x6 M e_8) w_X8_tellIfAllCame (tk_542 hts) (c_9 h0) rfl rfl ⟨⟨rfl, rfl⟩, Nat.le_of_ble_eq_true rfl, Nat.le_of_ble_eq_true rfl⟩ ⟨Nat.zero_le _, Nat.zero_le _⟩ rfl hl.1 rfl (Nat.le_of_ble_eq_true rfl) dX8_withVoice_185 (fun H locs hM hS => ?_)
        refine lv_i2l hx hb dX8_withVoice_188 rfl ?_
        obtain ⟨r12, e_11, hf⟩ := vb_e hf
        refine c_Sj hx hb hml hown hts hV hM hS (As := [.long x4, .long r9.toInt64]) (rest := []) (k_X8_mixed G hG l x4 r9.toInt64 M10 e_11) w_X8_mixed (tk_479 hts) ⟨⟨rfl, rfl⟩, Nat.le_of_ble_eq_true rfl, Nat.le_of_ble_eq_true rfl⟩ ⟨Nat.zero_le _, Nat.zero_le _⟩ rfl hl.1 rfl (Nat.le_of_ble_eq_true rfl) dX8_withVoice_189 (fun H locs hM hS => ?_)
        refine lv_lstore (lv' := [(4, .long r12), (0, .ref a0), (1, .long p1), (3, .ref a3), (6, .int x6)]) hx hb dX8_withVoice_192 hl (by decide) rfl (fun ls hl => ?_)
        obtain ⟨y13, ey13, hf⟩ := nb_e hf
        refine lv_iinc (v := y13) (lv' := [(6, .int y13), (4, .long r12), (0, .ref a0), (1, .long p1), (3, .ref a3)]) hx hb dX8_withVoice_194 hl (k := 4) rfl (by rw [← ey13]; rfl) (by decide) rfl (fun ls hl => ?_)
        refine lv_goto (tgt := 173) hx hb dX8_withVoice_197 (by decide) ?_
        exact ih r12 y13 _ H locs ls hM hS (lv_sub hl [2, 3, 4, 1, 0] rfl) hf
  have b123 : ∀ (n : Nat), ∀ (x4 : Int64) (x6 : Int32) (M : Mem) (H : Heap) (locs : List Loc) (ls : Array Slot), Mh G M H → va_S (gA G) s.heap H locs → lv_has ls 7 [(0, .ref a0), (1, .long p1), (3, .ref a3), (4, .long x4), (6, .int x6)] → f_X8_withVoice_b123 a0 p1 a3 n x4 x6 M = some (r, M') → W p l e ({ frames := 6, cells := 0, slots := 0, locals := 135 } : Room) s m args below meth c H locs 0 0 (MQ below (QV G (some (.long r)) M') args s 0 0 (gA G)) (F0 m 123 ls []) := by
    intro n
    induction n with
    | zero =>
      intro x4 x6 M H locs ls hM hS hl hf
      rw [f_X8_withVoice_b123] at hf
      cases hf
    | succ n ih =>
      intro x4 x6 M H locs ls hM hS hl hf
      rw [f_X8_withVoice_b123] at hf
      refine lv_iload hx hb dX8_withVoice_123 (lv_at hl 4 rfl) ?_
      refine lv_iconst (v := 4) hx hb dX8_withVoice_125 (by decide) ?_
      refine lv_icmp_gt (tgt := 152) hx hb dX8_withVoice_126 (by decide) (fun g_14 => ?_) (fun g_14 => ?_)
      · rw [if_pos g_14] at hf
        refine lv_lload hx hb dX8_withVoice_152 (lv_at hl 3 rfl) ?_
        refine lv_aload_n hx hb dX8_withVoice_154 rfl (lv_at hl 0 rfl) ?_
        refine lv_aload_n hx hb dX8_withVoice_155 rfl (lv_at hl 2 rfl) ?_
        refine lv_sipush (v := (-500)) hx hb dX8_withVoice_156 (by decide) ?_
        refine lv_bipush (v := 50) hx hb dX8_withVoice_159 (by decide) ?_
        obtain ⟨r16, M17, e_15, hf⟩ := cb_e hf
        refine c_Vi hx hb hml hown hts hV hK hM hS (As := [.ref a3, .int (-500), .int 50]) (rest := [.long x4]) (k_X8_codesToComeNear G hG l a0 h0 a3 h3 (-500) 50 M e_15) w_X8_codesToComeNear (tk_537 hts) (c_9 h0) rfl rfl ⟨⟨rfl, rfl⟩, Nat.le_of_ble_eq_true rfl, Nat.le_of_ble_eq_true rfl⟩ ⟨Nat.zero_le _, Nat.zero_le _⟩ rfl hl.1 rfl (Nat.le_of_ble_eq_true rfl) dX8_withVoice_161 (fun H locs hM hS => ?_)
        refine lv_i2l hx hb dX8_withVoice_164 rfl ?_
        obtain ⟨r19, e_18, hf⟩ := vb_e hf
        refine c_Sj hx hb hml hown hts hV hM hS (As := [.long x4, .long r16.toInt64]) (rest := []) (k_X8_mixed G hG l x4 r16.toInt64 M17 e_18) w_X8_mixed (tk_479 hts) ⟨⟨rfl, rfl⟩, Nat.le_of_ble_eq_true rfl, Nat.le_of_ble_eq_true rfl⟩ ⟨Nat.zero_le _, Nat.zero_le _⟩ rfl hl.1 rfl (Nat.le_of_ble_eq_true rfl) dX8_withVoice_165 (fun H locs hM hS => ?_)
        refine lv_lstore (lv' := [(4, .long r19), (0, .ref a0), (1, .long p1), (3, .ref a3), (6, .int x6)]) hx hb dX8_withVoice_168 hl (by decide) rfl (fun ls hl => ?_)
        refine lv_iconst (v := 0) hx hb dX8_withVoice_170 (by decide) ?_
        refine lv_istore (lv' := [(6, .int 0), (4, .long r19), (0, .ref a0), (1, .long p1), (3, .ref a3)]) hx hb dX8_withVoice_171 hl (by decide) rfl (fun ls hl => ?_)
        exact b173 _ r19 0 _ H locs ls hM hS (lv_sub hl [2, 3, 4, 1, 0] rfl) hf
      · rw [if_neg g_14] at hf
        refine lv_lload hx hb dX8_withVoice_129 (lv_at hl 3 rfl) ?_
        refine lv_aload_n hx hb dX8_withVoice_131 rfl (lv_at hl 0 rfl) ?_
        refine lv_aload_n hx hb dX8_withVoice_132 rfl (lv_at hl 2 rfl) ?_
        refine lv_bipush (v := 100) hx hb dX8_withVoice_133 (by decide) ?_
        refine lv_iload hx hb dX8_withVoice_135 (lv_at hl 4 rfl) ?_
        obtain ⟨r21, M22, e_20, hf⟩ := cb_e hf
        refine c_Vi hx hb hml hown hts hV hK hM hS (As := [.ref a3, .int 100, .int x6]) (rest := [.long x4]) (k_X8_tellCode G hG l a0 h0 a3 h3 100 x6 M e_20) w_X8_tellCode (tk_523 hts) (c_9 h0) rfl rfl ⟨⟨rfl, rfl⟩, Nat.le_of_ble_eq_true rfl, Nat.le_of_ble_eq_true rfl⟩ ⟨Nat.zero_le _, Nat.zero_le _⟩ rfl hl.1 rfl (Nat.le_of_ble_eq_true rfl) dX8_withVoice_137 (fun H locs hM hS => ?_)
        refine lv_i2l hx hb dX8_withVoice_140 rfl ?_
        obtain ⟨r24, e_23, hf⟩ := vb_e hf
        refine c_Sj hx hb hml hown hts hV hM hS (As := [.long x4, .long r21.toInt64]) (rest := []) (k_X8_mixed G hG l x4 r21.toInt64 M22 e_23) w_X8_mixed (tk_479 hts) ⟨⟨rfl, rfl⟩, Nat.le_of_ble_eq_true rfl, Nat.le_of_ble_eq_true rfl⟩ ⟨Nat.zero_le _, Nat.zero_le _⟩ rfl hl.1 rfl (Nat.le_of_ble_eq_true rfl) dX8_withVoice_141 (fun H locs hM hS => ?_)
        refine lv_lstore (lv' := [(4, .long r24), (0, .ref a0), (1, .long p1), (3, .ref a3), (6, .int x6)]) hx hb dX8_withVoice_144 hl (by decide) rfl (fun ls hl => ?_)
        obtain ⟨y25, ey25, hf⟩ := nb_e hf
        refine lv_iinc (v := y25) (lv' := [(6, .int y25), (4, .long r24), (0, .ref a0), (1, .long p1), (3, .ref a3)]) hx hb dX8_withVoice_146 hl (k := 4) rfl (by rw [← ey25]; rfl) (by decide) rfl (fun ls hl => ?_)
        refine lv_goto (tgt := 123) hx hb dX8_withVoice_149 (by decide) ?_
        exact ih r24 y25 _ H locs ls hM hS (lv_sub hl [2, 3, 4, 1, 0] rfl) hf
  have b107 : ∀ (x4 : Int64) (M : Mem) (H : Heap) (locs : List Loc) (ls : Array Slot), Mh G M H → va_S (gA G) s.heap H locs → lv_has ls 7 [(0, .ref a0), (1, .long p1), (3, .ref a3), (4, .long x4)] → f_X8_withVoice_b107 a0 p1 a3 x4 M = some (r, M') → W p l e ({ frames := 6, cells := 0, slots := 0, locals := 135 } : Room) s m args below meth c H locs 0 0 (MQ below (QV G (some (.long r)) M') args s 0 0 (gA G)) (F0 m 107 ls []) := by
    intro x4 M H locs ls hM hS hl hf
    rw [f_X8_withVoice_b107] at hf
    refine lv_lload hx hb dX8_withVoice_107 (lv_at hl 3 rfl) ?_
    refine lv_aload_n hx hb dX8_withVoice_109 rfl (lv_at hl 0 rfl) ?_
    refine lv_aload_n hx hb dX8_withVoice_110 rfl (lv_at hl 2 rfl) ?_
    obtain ⟨r27, M28, e_26, hf⟩ := cb_e hf
    refine c_Vi hx hb hml hown hts hV hK hM hS (As := [.ref a3]) (rest := [.long x4]) (k_X8_tellWhy G hG l a0 h0 a3 h3 M e_26) w_X8_tellWhy (tk_407 hts) (c_9 h0) rfl rfl ⟨⟨rfl, rfl⟩, Nat.le_of_ble_eq_true rfl, Nat.le_of_ble_eq_true rfl⟩ ⟨Nat.zero_le _, Nat.zero_le _⟩ rfl hl.1 rfl (Nat.le_of_ble_eq_true rfl) dX8_withVoice_111 (fun H locs hM hS => ?_)
    refine lv_i2l hx hb dX8_withVoice_114 rfl ?_
    obtain ⟨r30, e_29, hf⟩ := vb_e hf
    refine c_Sj hx hb hml hown hts hV hM hS (As := [.long x4, .long r27.toInt64]) (rest := []) (k_X8_mixed G hG l x4 r27.toInt64 M28 e_29) w_X8_mixed (tk_479 hts) ⟨⟨rfl, rfl⟩, Nat.le_of_ble_eq_true rfl, Nat.le_of_ble_eq_true rfl⟩ ⟨Nat.zero_le _, Nat.zero_le _⟩ rfl hl.1 rfl (Nat.le_of_ble_eq_true rfl) dX8_withVoice_115 (fun H locs hM hS => ?_)
    refine lv_lstore (lv' := [(4, .long r30), (0, .ref a0), (1, .long p1), (3, .ref a3)]) hx hb dX8_withVoice_118 hl (by decide) rfl (fun ls hl => ?_)
    refine lv_iconst (v := 0) hx hb dX8_withVoice_120 (by decide) ?_
    refine lv_istore (lv' := [(6, .int 0), (4, .long r30), (0, .ref a0), (1, .long p1), (3, .ref a3)]) hx hb dX8_withVoice_121 hl (by decide) rfl (fun ls hl => ?_)
    exact b123 _ r30 0 _ H locs ls hM hS (lv_sub hl [2, 3, 4, 1, 0] rfl) hf
  have b68 : ∀ (n : Nat), ∀ (x4 : Int64) (x6 : Int32) (M : Mem) (H : Heap) (locs : List Loc) (ls : Array Slot), Mh G M H → va_S (gA G) s.heap H locs → lv_has ls 7 [(0, .ref a0), (1, .long p1), (3, .ref a3), (4, .long x4), (6, .int x6)] → f_X8_withVoice_b68 a0 p1 a3 n x4 x6 M = some (r, M') → W p l e ({ frames := 6, cells := 0, slots := 0, locals := 135 } : Room) s m args below meth c H locs 0 0 (MQ below (QV G (some (.long r)) M') args s 0 0 (gA G)) (F0 m 68 ls []) := by
    intro n
    induction n with
    | zero =>
      intro x4 x6 M H locs ls hM hS hl hf
      rw [f_X8_withVoice_b68] at hf
      cases hf
    | succ n ih =>
      intro x4 x6 M H locs ls hM hS hl hf
      rw [f_X8_withVoice_b68] at hf
      refine lv_iload hx hb dX8_withVoice_68 (lv_at hl 4 rfl) ?_
      refine lv_aload_n hx hb dX8_withVoice_70 rfl (lv_at hl 2 rfl) ?_
      refine s_getN hx hb (lay_7 hts) hown hK hM (c_8 h3) rfl 3 (by decide) rfl rfl (tk_219 hts) dX8_withVoice_71 ?_
      refine lv_icmp_ge (tgt := 107) hx hb dX8_withVoice_74 (by decide) (fun g_31 => ?_) (fun g_31 => ?_)
      · rw [if_pos g_31] at hf
        exact b107 x4 _ H locs ls hM hS (lv_sub hl [0, 1, 2, 3] rfl) hf
      · rw [if_neg g_31] at hf
        refine lv_iload hx hb dX8_withVoice_77 (lv_at hl 4 rfl) ?_
        refine lv_aload_n hx hb dX8_withVoice_79 rfl (lv_at hl 2 rfl) ?_
        refine s_getN hx hb (lay_7 hts) hown hK hM (c_8 h3) rfl 2 (by decide) rfl rfl (tk_217 hts) dX8_withVoice_80 ?_
        refine s_alen 2 hx hb hK hM (cel_pa (ky_8_2 hG h3)) rfl (v := 8) (show Int32.ofNat 8 = 8 from by decide) dX8_withVoice_83 ?_
        refine lv_icmp_ge (tgt := 107) hx hb dX8_withVoice_84 (by decide) (fun g_32 => ?_) (fun g_32 => ?_)
        · rw [if_pos g_32] at hf
          exact b107 x4 _ H locs ls hM hS (lv_sub hl [0, 1, 2, 3] rfl) hf
        · rw [if_neg g_32] at hf
          refine lv_lload hx hb dX8_withVoice_87 (lv_at hl 3 rfl) ?_
          refine lv_aload_n hx hb dX8_withVoice_89 rfl (lv_at hl 2 rfl) ?_
          refine s_getN hx hb (lay_7 hts) hown hK hM (c_8 h3) rfl 2 (by decide) rfl rfl (tk_217 hts) dX8_withVoice_90 ?_
          refine lv_iload hx hb dX8_withVoice_93 (lv_at hl 4 rfl) ?_
          obtain ⟨h_33, hf⟩ := gd_e hf
          refine s_paald hx hb hK hM (ky_8_2 hG h3) h_33 dX8_withVoice_95 (fun h_34 => ?_)
          obtain ⟨z35, ez35, hf⟩ := nb_e hf
          refine s_nmr ez35 ?_
          have h_z35 : gK G z35 = 3 := ez35 ▸ h_34
          obtain ⟨r37, e_36, hf⟩ := vb_e hf
          refine c_Sj hx hb hml hown hts hV hM hS (As := [.long x4, .ref z35]) (rest := []) (k_X8_withPacket G hG l x4 z35 h_z35 M e_36) w_X8_withPacket (tk_511 hts) ⟨⟨rfl, rfl⟩, Nat.le_of_ble_eq_true rfl, Nat.le_of_ble_eq_true rfl⟩ ⟨Nat.zero_le _, Nat.zero_le _⟩ rfl hl.1 rfl (Nat.le_of_ble_eq_true rfl) dX8_withVoice_96 (fun H locs hM hS => ?_)
          refine lv_lstore (lv' := [(4, .long r37), (0, .ref a0), (1, .long p1), (3, .ref a3), (6, .int x6)]) hx hb dX8_withVoice_99 hl (by decide) rfl (fun ls hl => ?_)
          obtain ⟨y38, ey38, hf⟩ := nb_e hf
          refine lv_iinc (v := y38) (lv' := [(6, .int y38), (4, .long r37), (0, .ref a0), (1, .long p1), (3, .ref a3)]) hx hb dX8_withVoice_101 hl (k := 4) rfl (by rw [← ey38]; rfl) (by decide) rfl (fun ls hl => ?_)
          refine lv_goto (tgt := 68) hx hb dX8_withVoice_104 (by decide) ?_
          exact ih r37 y38 _ H locs ls hM hS (lv_sub hl [2, 3, 4, 1, 0] rfl) hf
  have b37 : ∀ (n : Nat), ∀ (x4 : Int64) (x6 : Int32) (M : Mem) (H : Heap) (locs : List Loc) (ls : Array Slot), Mh G M H → va_S (gA G) s.heap H locs → lv_has ls 7 [(0, .ref a0), (1, .long p1), (3, .ref a3), (4, .long x4), (6, .int x6)] → f_X8_withVoice_b37 a0 p1 a3 n x4 x6 M = some (r, M') → W p l e ({ frames := 6, cells := 0, slots := 0, locals := 135 } : Room) s m args below meth c H locs 0 0 (MQ below (QV G (some (.long r)) M') args s 0 0 (gA G)) (F0 m 37 ls []) := by
    intro n
    induction n with
    | zero =>
      intro x4 x6 M H locs ls hM hS hl hf
      rw [f_X8_withVoice_b37] at hf
      cases hf
    | succ n ih =>
      intro x4 x6 M H locs ls hM hS hl hf
      rw [f_X8_withVoice_b37] at hf
      refine lv_iload hx hb dX8_withVoice_37 (lv_at hl 4 rfl) ?_
      refine lv_bipush (v := 11) hx hb dX8_withVoice_39 (by decide) ?_
      refine lv_icmp_gt (tgt := 65) hx hb dX8_withVoice_41 (by decide) (fun g_39 => ?_) (fun g_39 => ?_)
      · rw [if_pos g_39] at hf
        refine lv_iconst (v := 0) hx hb dX8_withVoice_65 (by decide) ?_
        refine lv_istore (lv' := [(6, .int 0), (0, .ref a0), (1, .long p1), (3, .ref a3), (4, .long x4)]) hx hb dX8_withVoice_66 hl (by decide) rfl (fun ls hl => ?_)
        exact b68 _ x4 0 _ H locs ls hM hS (lv_sub hl [1, 2, 3, 4, 0] rfl) hf
      · rw [if_neg g_39] at hf
        refine lv_lload hx hb dX8_withVoice_44 (lv_at hl 3 rfl) ?_
        refine lv_aload_n hx hb dX8_withVoice_46 rfl (lv_at hl 0 rfl) ?_
        refine lv_aload_n hx hb dX8_withVoice_47 rfl (lv_at hl 2 rfl) ?_
        refine lv_iload hx hb dX8_withVoice_48 (lv_at hl 4 rfl) ?_
        obtain ⟨r41, e_40, hf⟩ := vb_e hf
        refine c_Vi hx hb hml hown hts hV hK hM hS (As := [.ref a3, .int x6]) (rest := [.long x4]) (k_X8_tellHearing G hG l a0 h0 a3 h3 x6 M e_40) w_X8_tellHearing (tk_502 hts) (c_9 h0) rfl rfl ⟨⟨rfl, rfl⟩, Nat.le_of_ble_eq_true rfl, Nat.le_of_ble_eq_true rfl⟩ ⟨Nat.zero_le _, Nat.zero_le _⟩ rfl hl.1 rfl (Nat.le_of_ble_eq_true rfl) dX8_withVoice_50 (fun H locs hM hS => ?_)
        refine lv_i2l hx hb dX8_withVoice_53 rfl ?_
        obtain ⟨r43, e_42, hf⟩ := vb_e hf
        refine c_Sj hx hb hml hown hts hV hM hS (As := [.long x4, .long r41.toInt64]) (rest := []) (k_X8_mixed G hG l x4 r41.toInt64 M e_42) w_X8_mixed (tk_479 hts) ⟨⟨rfl, rfl⟩, Nat.le_of_ble_eq_true rfl, Nat.le_of_ble_eq_true rfl⟩ ⟨Nat.zero_le _, Nat.zero_le _⟩ rfl hl.1 rfl (Nat.le_of_ble_eq_true rfl) dX8_withVoice_54 (fun H locs hM hS => ?_)
        refine lv_lstore (lv' := [(4, .long r43), (0, .ref a0), (1, .long p1), (3, .ref a3), (6, .int x6)]) hx hb dX8_withVoice_57 hl (by decide) rfl (fun ls hl => ?_)
        obtain ⟨y44, ey44, hf⟩ := nb_e hf
        refine lv_iinc (v := y44) (lv' := [(6, .int y44), (4, .long r43), (0, .ref a0), (1, .long p1), (3, .ref a3)]) hx hb dX8_withVoice_59 hl (k := 4) rfl (by rw [← ey44]; rfl) (by decide) rfl (fun ls hl => ?_)
        refine lv_goto (tgt := 37) hx hb dX8_withVoice_62 (by decide) ?_
        exact ih r43 y44 _ H locs ls hM hS (lv_sub hl [2, 3, 4, 1, 0] rfl) hf
  have b6 : ∀ (n : Nat), ∀ (x4 : Int64) (x6 : Int32) (M : Mem) (H : Heap) (locs : List Loc) (ls : Array Slot), Mh G M H → va_S (gA G) s.heap H locs → lv_has ls 7 [(0, .ref a0), (1, .long p1), (3, .ref a3), (4, .long x4), (6, .int x6)] → f_X8_withVoice_b6 a0 p1 a3 n x4 x6 M = some (r, M') → W p l e ({ frames := 6, cells := 0, slots := 0, locals := 135 } : Room) s m args below meth c H locs 0 0 (MQ below (QV G (some (.long r)) M') args s 0 0 (gA G)) (F0 m 6 ls []) := by
    intro n
    induction n with
    | zero =>
      intro x4 x6 M H locs ls hM hS hl hf
      rw [f_X8_withVoice_b6] at hf
      cases hf
    | succ n ih =>
      intro x4 x6 M H locs ls hM hS hl hf
      rw [f_X8_withVoice_b6] at hf
      refine lv_iload hx hb dX8_withVoice_6 (lv_at hl 4 rfl) ?_
      refine lv_bipush (v := 9) hx hb dX8_withVoice_8 (by decide) ?_
      refine lv_icmp_gt (tgt := 34) hx hb dX8_withVoice_10 (by decide) (fun g_45 => ?_) (fun g_45 => ?_)
      · rw [if_pos g_45] at hf
        refine lv_iconst (v := 0) hx hb dX8_withVoice_34 (by decide) ?_
        refine lv_istore (lv' := [(6, .int 0), (0, .ref a0), (1, .long p1), (3, .ref a3), (4, .long x4)]) hx hb dX8_withVoice_35 hl (by decide) rfl (fun ls hl => ?_)
        exact b37 _ x4 0 _ H locs ls hM hS (lv_sub hl [1, 2, 3, 4, 0] rfl) hf
      · rw [if_neg g_45] at hf
        refine lv_lload hx hb dX8_withVoice_13 (lv_at hl 3 rfl) ?_
        refine lv_aload_n hx hb dX8_withVoice_15 rfl (lv_at hl 0 rfl) ?_
        refine lv_aload_n hx hb dX8_withVoice_16 rfl (lv_at hl 2 rfl) ?_
        refine lv_iload hx hb dX8_withVoice_17 (lv_at hl 4 rfl) ?_
        obtain ⟨r47, M48, e_46, hf⟩ := cb_e hf
        refine c_Vi hx hb hml hown hts hV hK hM hS (As := [.ref a3, .int x6]) (rest := [.long x4]) (k_X8_tellSaying G hG l a0 h0 a3 h3 x6 M e_46) w_X8_tellSaying (tk_491 hts) (c_9 h0) rfl rfl ⟨⟨rfl, rfl⟩, Nat.le_of_ble_eq_true rfl, Nat.le_of_ble_eq_true rfl⟩ ⟨Nat.zero_le _, Nat.zero_le _⟩ rfl hl.1 rfl (Nat.le_of_ble_eq_true rfl) dX8_withVoice_19 (fun H locs hM hS => ?_)
        refine lv_i2l hx hb dX8_withVoice_22 rfl ?_
        obtain ⟨r50, e_49, hf⟩ := vb_e hf
        refine c_Sj hx hb hml hown hts hV hM hS (As := [.long x4, .long r47.toInt64]) (rest := []) (k_X8_mixed G hG l x4 r47.toInt64 M48 e_49) w_X8_mixed (tk_479 hts) ⟨⟨rfl, rfl⟩, Nat.le_of_ble_eq_true rfl, Nat.le_of_ble_eq_true rfl⟩ ⟨Nat.zero_le _, Nat.zero_le _⟩ rfl hl.1 rfl (Nat.le_of_ble_eq_true rfl) dX8_withVoice_23 (fun H locs hM hS => ?_)
        refine lv_lstore (lv' := [(4, .long r50), (0, .ref a0), (1, .long p1), (3, .ref a3), (6, .int x6)]) hx hb dX8_withVoice_26 hl (by decide) rfl (fun ls hl => ?_)
        obtain ⟨y51, ey51, hf⟩ := nb_e hf
        refine lv_iinc (v := y51) (lv' := [(6, .int y51), (4, .long r50), (0, .ref a0), (1, .long p1), (3, .ref a3)]) hx hb dX8_withVoice_28 hl (k := 4) rfl (by rw [← ey51]; rfl) (by decide) rfl (fun ls hl => ?_)
        refine lv_goto (tgt := 6) hx hb dX8_withVoice_31 (by decide) ?_
        exact ih r50 y51 _ H locs ls hM hS (lv_sub hl [2, 3, 4, 1, 0] rfl) hf
  rw [f_X8_withVoice] at hf
  obtain ⟨H, hHe⟩ : ∃ H, H = s.heap := ⟨_, rfl⟩
  obtain ⟨locs, hLe⟩ : ∃ L : List Loc, L = [] := ⟨_, rfl⟩
  rw [← hHe] at hM
  have hS : va_S (gA G) s.heap H locs := by rw [hHe, hLe]; exact va_S.rf
  suffices hW : W p l e ({ frames := 6, cells := 0, slots := 0, locals := 135 } : Room) s m args below meth c H locs 0 0 (MQ below (QV G (some (.long r)) M') args s 0 0 (gA G)) (F0 m 0 ls []) by rw [hHe, hLe] at hW; exact hW
  refine lv_lload_n hx hb dX8_withVoice_0 rfl (lv_at hl 1 rfl) ?_
  refine lv_lstore (lv' := [(4, .long p1), (0, .ref a0), (1, .long p1), (3, .ref a3)]) hx hb dX8_withVoice_1 hl (by decide) rfl (fun ls hl => ?_)
  refine lv_iconst (v := 0) hx hb dX8_withVoice_3 (by decide) ?_
  refine lv_istore (lv' := [(6, .int 0), (4, .long p1), (0, .ref a0), (1, .long p1), (3, .ref a3)]) hx hb dX8_withVoice_4 hl (by decide) rfl (fun ls hl => ?_)
  exact b6 _ p1 0 _ H locs ls hM hS (lv_sub hl [2, 3, 4, 1, 0] rfl) hf
def f_X8_bitsOfFloat (p0 : UInt32) (M : Mem) : Option Int64 := if 0 < (Op.cmpValue (FP.fcmp p0 FP.fconst0) .l) then (gd ((FP.f2d p0) &&& 0x7fffffffffffffff ≤ 0x7ff0000000000000) <| vb (f_X8_bitsOfDouble (FP.f2d p0) M) fun r4 => nb (((r4 >>> ((52 : Int32).toInt64 &&& 63)) - (1023 : Int64)) + (127 : Int64)) fun y5 => nb ((r4 &&& (4503599627370495 : Int64)) >>> ((29 : Int32).toInt64 &&& 63)) fun y6 => some ((y5 <<< ((23 : Int32).toInt64 &&& 63)) + y6)) else (some (0 : Int64))
set_option maxHeartbeats 4000000 in
set_option maxRecDepth 100000 in
theorem k_X8_bitsOfFloat (G : Gt) (hG : gOK G) (l : Launch) (p0 : UInt32) (M : Mem) {r : Int64} (hf : f_X8_bitsOfFloat p0 M = some r) : Kc G l yX8_bitsOfFloat cX8_bitsOfFloat 7 (some .long) ({ frames := 1, cells := 0, slots := 0, locals := 26 } : Room) [.float p0] M (some (.long r)) M := by
  refine start (by decide) (Nat.le_of_ble_eq_true rfl) ?_
  intro p e s m args below meth c ls hx hb hr hown hml hlocks hts hV hM hl
  have hown : s.vm.findClass "FoldedVoices" = some m.cls := hown
  have hK := hG.1.moved hV
  have hS : va_S (gA G) s.heap s.heap [] := va_S.rf
  have hl : lv_has ls 7 [(0, .float p0)] := hl
  have hM0 := hM
  rw [f_X8_bitsOfFloat] at hf
  refine lv_fload_n hx hb dX8_bitsOfFloat_0 rfl (lv_at hl 0 rfl) ?_
  refine lv_fconst0 hx hb dX8_bitsOfFloat_1 ?_
  refine lv_fcmp hx hb dX8_bitsOfFloat_2 ?_
  refine lv_if_gt (tgt := 8) hx hb dX8_bitsOfFloat_3 (by decide) (fun g_1 => ?_) (fun g_1 => ?_)
  · rw [if_pos g_1] at hf
    refine lv_fload_n hx hb dX8_bitsOfFloat_8 rfl (lv_at hl 0 rfl) ?_
    obtain ⟨h_2, hf⟩ := gd_e hf
    refine lv_f2d hx hb dX8_bitsOfFloat_9 h_2 ?_
    obtain ⟨r4, e_3, hf⟩ := vb_e hf
    refine c_Sj hx hb hml hown hts hV hM hS (As := [.double (FP.f2d p0)]) (rest := []) (k_X8_bitsOfDouble G hG l (FP.f2d p0) M e_3) w_X8_bitsOfDouble (tk_550 hts) ⟨⟨rfl, rfl⟩, Nat.le_of_ble_eq_true rfl, Nat.le_of_ble_eq_true rfl⟩ ⟨Nat.zero_le _, Nat.zero_le _⟩ rfl hl.1 rfl (Nat.le_of_ble_eq_true rfl) dX8_bitsOfFloat_10 (fun H locs hM hS => ?_)
    refine lv_lstore_n (lv' := [(1, .long r4), (0, .float p0)]) hx hb dX8_bitsOfFloat_13 rfl hl (by decide) rfl (fun ls hl => ?_)
    refine lv_lload_n hx hb dX8_bitsOfFloat_14 rfl (lv_at hl 0 rfl) ?_
    refine lv_bipush (v := 52) hx hb dX8_bitsOfFloat_15 (by decide) ?_
    refine lv_lshr hx hb dX8_bitsOfFloat_17 rfl ?_
    refine lv_ldc2 hx hb hown (tk_553 hts) dX8_bitsOfFloat_18 ?_
    refine lv_lsub hx hb dX8_bitsOfFloat_21 ?_
    refine lv_ldc2 hx hb hown (tk_559 hts) dX8_bitsOfFloat_22 ?_
    refine lv_ladd hx hb dX8_bitsOfFloat_25 ?_
    obtain ⟨y5, ey5, hf⟩ := nb_e hf
    refine s_nml ey5 ?_
    refine lv_lstore_n (lv' := [(3, .long y5), (1, .long r4), (0, .float p0)]) hx hb dX8_bitsOfFloat_26 rfl hl (by decide) rfl (fun ls hl => ?_)
    refine lv_lload_n hx hb dX8_bitsOfFloat_27 rfl (lv_at hl 1 rfl) ?_
    refine lv_ldc2 hx hb hown (tk_560 hts) dX8_bitsOfFloat_28 ?_
    refine lv_land hx hb dX8_bitsOfFloat_31 ?_
    refine lv_bipush (v := 29) hx hb dX8_bitsOfFloat_32 (by decide) ?_
    refine lv_lshr hx hb dX8_bitsOfFloat_34 rfl ?_
    obtain ⟨y6, ey6, hf⟩ := nb_e hf
    refine s_nml ey6 ?_
    refine lv_lstore (lv' := [(5, .long y6), (3, .long y5), (1, .long r4), (0, .float p0)]) hx hb dX8_bitsOfFloat_35 hl (by decide) rfl (fun ls hl => ?_)
    refine lv_lload_n hx hb dX8_bitsOfFloat_37 rfl (lv_at hl 1 rfl) ?_
    refine lv_bipush (v := 23) hx hb dX8_bitsOfFloat_38 (by decide) ?_
    refine lv_lshl hx hb dX8_bitsOfFloat_40 rfl ?_
    refine lv_lload hx hb dX8_bitsOfFloat_41 (lv_at hl 0 rfl) ?_
    refine lv_ladd hx hb dX8_bitsOfFloat_43 ?_
    exact ef_lp hx hb hr hlocks hM hS hf dX8_bitsOfFloat_44
  · rw [if_neg g_1] at hf
    refine lv_lconst (v := 0) hx hb dX8_bitsOfFloat_6 (by decide) ?_
    exact ef_lp hx hb hr hlocks hM hS hf dX8_bitsOfFloat_7
def f_X8_digest_b138 (a0 : Nat) : Nat → Int64 → Int32 → Mem → Option (Int64 × Mem)
  | 0, _, _, _ => none
  | n + 1, x1, x3, M => if (mI M (a0 + 274) 1) ≤ x3 then (some (x1, M)) else (vb (f_X6_signAt (a0 + 274) x3 M) fun r3 => vb (f_X8_mixed x1 r3.toInt64 M) fun r5 => nb (x3 + 1) fun y6 => f_X8_digest_b138 a0 n r5 y6 M)
def f_X8_digest_b119 (a0 : Nat) (xs0 : Int64) (xs1 : Int64) (M : Mem) : Option (Int64 × Mem) := vb (f_X8_mixed xs1 xs0 M) fun r8 => vb (f_X8_mixed r8 ((mI M (a0 + 274) 1).toInt64) M) fun r10 => f_X8_digest_b138 a0 lfuel r10 0 M
def f_X8_digest_b61 (a0 : Nat) : Nat → Int64 → Int32 → Mem → Option (Int64 × Mem)
  | 0, _, _, _ => none
  | n + 1, x1, x3, M => if (3 : Int32) ≤ x3 then (vb (f_X8_shareOfLost a0 M) fun r13 => vb (f_X8_bitsOfFloat r13 M) fun r15 => vb (f_X8_mixed x1 r15 M) fun r17 => if (mI M a0 2) = 0 then (f_X8_digest_b119 a0 (0 : Int64) r17 M) else (f_X8_digest_b119 a0 (1 : Int64) r17 M)) else (gd (ix x3 3) <| nb ((a0 + 1) + 1 + 3 + 44 * x3.toNatClampNeg) fun z21 => cb (f_X8_withVoice a0 x1 z21 M) fun r23 M24 => nb (x3 + 1) fun y25 => f_X8_digest_b61 a0 n r23 y25 M24)
def f_X8_digest_b31 (a0 : Nat) : Nat → Int64 → Int32 → Mem → Option (Int64 × Mem)
  | 0, _, _, _ => none
  | n + 1, x1, x3, M => if (3 : Int32) < x3 then (f_X8_digest_b61 a0 lfuel x1 0 M) else (vb (f_X4_valueOf ((a0 + 1) + 2) x3 M) fun r28 => vb (f_X8_mixed x1 r28.toInt64 M) fun r30 => nb (x3 + 1) fun y31 => f_X8_digest_b31 a0 n r30 y31 M)
def f_X8_digest_b6 (a0 : Nat) : Nat → Int64 → Int32 → Mem → Option (Int64 × Mem)
  | 0, _, _, _ => none
  | n + 1, x1, x3, M => if (7 : Int32) < x3 then (f_X8_digest_b31 a0 lfuel x1 0 M) else (cb (f_X8_tellCount a0 x3 M) fun r34 M35 => vb (f_X8_mixed x1 r34.toInt64 M35) fun r37 => nb (x3 + 1) fun y38 => f_X8_digest_b6 a0 n r37 y38 M35)
def f_X8_digest (a0 : Nat) (M : Mem) : Option (Int64 × Mem) := nb (3637 : Int64) fun y39 => f_X8_digest_b6 a0 lfuel y39 0 M
set_option maxHeartbeats 4000000 in
set_option maxRecDepth 100000 in
theorem k_X8_digest (G : Gt) (hG : gOK G) (l : Launch) (a0 : Nat) (h0 : gK G a0 = 9) (M : Mem) {r : Int64} {M' : Mem} (hf : f_X8_digest a0 M = some (r, M')) : Kc G l yX8_digest cX8_digest 4 (some .long) ({ frames := 7, cells := 0, slots := 0, locals := 161 } : Room) [.ref a0] M (some (.long r)) M' := by
  refine start (by decide) (Nat.le_of_ble_eq_true rfl) ?_
  intro p e s m args below meth c ls hx hb hr hown hml hlocks hts hV hM hl
  have hown : s.vm.findClass "FoldedVoices" = some m.cls := hown
  have hK := hG.1.moved hV
  have hS : va_S (gA G) s.heap s.heap [] := va_S.rf
  have hl : lv_has ls 4 [(0, .ref a0)] := hl
  have hM0 := hM
  have b138 : ∀ (n : Nat), ∀ (x1 : Int64) (x3 : Int32) (M : Mem) (H : Heap) (locs : List Loc) (ls : Array Slot), Mh G M H → va_S (gA G) s.heap H locs → lv_has ls 4 [(0, .ref a0), (1, .long x1), (3, .int x3)] → f_X8_digest_b138 a0 n x1 x3 M = some (r, M') → W p l e ({ frames := 7, cells := 0, slots := 0, locals := 161 } : Room) s m args below meth c H locs 0 0 (MQ below (QV G (some (.long r)) M') args s 0 0 (gA G)) (F0 m 138 ls []) := by
    intro n
    induction n with
    | zero =>
      intro x1 x3 M H locs ls hM hS hl hf
      rw [f_X8_digest_b138] at hf
      cases hf
    | succ n ih =>
      intro x1 x3 M H locs ls hM hS hl hf
      rw [f_X8_digest_b138] at hf
      refine lv_iload_n hx hb dX8_digest_138 rfl (lv_at hl 2 rfl) ?_
      refine lv_aload_n hx hb dX8_digest_139 rfl (lv_at hl 0 rfl) ?_
      refine s_get hx hb (lay_8 hts) hown hK hM (c_9 h0) rfl 5 (by decide) rfl rfl (tk_285 hts) dX8_digest_140 ?_
      refine s_getN hx hb (lay_6 hts) hown hK hM (c_7 (ky_9_5 hG h0)) rfl 1 (by decide) rfl rfl (tk_251 hts) dX8_digest_143 ?_
      refine lv_icmp_ge (tgt := 169) hx hb dX8_digest_146 (by decide) (fun g_1 => ?_) (fun g_1 => ?_)
      · rw [if_pos g_1] at hf
        refine lv_lload_n hx hb dX8_digest_169 rfl (lv_at hl 1 rfl) ?_
        exact ef_lm hx hb hr hlocks hM hS hf dX8_digest_170
      · rw [if_neg g_1] at hf
        refine lv_lload_n hx hb dX8_digest_149 rfl (lv_at hl 1 rfl) ?_
        refine lv_aload_n hx hb dX8_digest_150 rfl (lv_at hl 0 rfl) ?_
        refine s_get hx hb (lay_8 hts) hown hK hM (c_9 h0) rfl 5 (by decide) rfl rfl (tk_285 hts) dX8_digest_151 ?_
        refine lv_iload_n hx hb dX8_digest_154 rfl (lv_at hl 2 rfl) ?_
        obtain ⟨r3, e_2, hf⟩ := vb_e hf
        refine c_Vi hx hb hml hown hts hV hK hM hS (As := [.int x3]) (rest := [.long x1]) (k_X6_signAt G hG l (a0 + 274) (ky_9_5 hG h0) x3 M e_2) w_X6_signAt (tk_561 hts) (c_7 (ky_9_5 hG h0)) rfl rfl ⟨⟨rfl, rfl⟩, Nat.le_of_ble_eq_true rfl, Nat.le_of_ble_eq_true rfl⟩ ⟨Nat.zero_le _, Nat.zero_le _⟩ rfl hl.1 rfl (Nat.le_of_ble_eq_true rfl) dX8_digest_155 (fun H locs hM hS => ?_)
        refine lv_i2l hx hb dX8_digest_158 rfl ?_
        obtain ⟨r5, e_4, hf⟩ := vb_e hf
        refine c_Sj hx hb hml hown hts hV hM hS (As := [.long x1, .long r3.toInt64]) (rest := []) (k_X8_mixed G hG l x1 r3.toInt64 M e_4) w_X8_mixed (tk_479 hts) ⟨⟨rfl, rfl⟩, Nat.le_of_ble_eq_true rfl, Nat.le_of_ble_eq_true rfl⟩ ⟨Nat.zero_le _, Nat.zero_le _⟩ rfl hl.1 rfl (Nat.le_of_ble_eq_true rfl) dX8_digest_159 (fun H locs hM hS => ?_)
        refine lv_lstore_n (lv' := [(1, .long r5), (0, .ref a0), (3, .int x3)]) hx hb dX8_digest_162 rfl hl (by decide) rfl (fun ls hl => ?_)
        obtain ⟨y6, ey6, hf⟩ := nb_e hf
        refine lv_iinc (v := y6) (lv' := [(3, .int y6), (1, .long r5), (0, .ref a0)]) hx hb dX8_digest_163 hl (k := 2) rfl (by rw [← ey6]; rfl) (by decide) rfl (fun ls hl => ?_)
        refine lv_goto (tgt := 138) hx hb dX8_digest_166 (by decide) ?_
        exact ih r5 y6 _ H locs ls hM hS (lv_sub hl [2, 1, 0] rfl) hf
  have b119 : ∀ (xs0 : Int64) (xs1 : Int64) (M : Mem) (H : Heap) (locs : List Loc) (ls : Array Slot), Mh G M H → va_S (gA G) s.heap H locs → lv_has ls 4 [(0, .ref a0)] → f_X8_digest_b119 a0 xs0 xs1 M = some (r, M') → W p l e ({ frames := 7, cells := 0, slots := 0, locals := 161 } : Room) s m args below meth c H locs 0 0 (MQ below (QV G (some (.long r)) M') args s 0 0 (gA G)) (F0 m 119 ls [.long xs0, .long xs1]) := by
    intro xs0 xs1 M H locs ls hM hS hl hf
    rw [f_X8_digest_b119] at hf
    obtain ⟨r8, e_7, hf⟩ := vb_e hf
    refine c_Sj hx hb hml hown hts hV hM hS (As := [.long xs1, .long xs0]) (rest := []) (k_X8_mixed G hG l xs1 xs0 M e_7) w_X8_mixed (tk_479 hts) ⟨⟨rfl, rfl⟩, Nat.le_of_ble_eq_true rfl, Nat.le_of_ble_eq_true rfl⟩ ⟨Nat.zero_le _, Nat.zero_le _⟩ rfl hl.1 rfl (Nat.le_of_ble_eq_true rfl) dX8_digest_119 (fun H locs hM hS => ?_)
    refine lv_lstore_n (lv' := [(1, .long r8), (0, .ref a0)]) hx hb dX8_digest_122 rfl hl (by decide) rfl (fun ls hl => ?_)
    refine lv_lload_n hx hb dX8_digest_123 rfl (lv_at hl 0 rfl) ?_
    refine lv_aload_n hx hb dX8_digest_124 rfl (lv_at hl 1 rfl) ?_
    refine s_get hx hb (lay_8 hts) hown hK hM (c_9 h0) rfl 5 (by decide) rfl rfl (tk_285 hts) dX8_digest_125 ?_
    refine s_getN hx hb (lay_6 hts) hown hK hM (c_7 (ky_9_5 hG h0)) rfl 1 (by decide) rfl rfl (tk_251 hts) dX8_digest_128 ?_
    refine lv_i2l hx hb dX8_digest_131 rfl ?_
    obtain ⟨r10, e_9, hf⟩ := vb_e hf
    refine c_Sj hx hb hml hown hts hV hM hS (As := [.long r8, .long ((mI M (a0 + 274) 1).toInt64)]) (rest := []) (k_X8_mixed G hG l r8 ((mI M (a0 + 274) 1).toInt64) M e_9) w_X8_mixed (tk_479 hts) ⟨⟨rfl, rfl⟩, Nat.le_of_ble_eq_true rfl, Nat.le_of_ble_eq_true rfl⟩ ⟨Nat.zero_le _, Nat.zero_le _⟩ rfl hl.1 rfl (Nat.le_of_ble_eq_true rfl) dX8_digest_132 (fun H locs hM hS => ?_)
    refine lv_lstore_n (lv' := [(1, .long r10), (0, .ref a0)]) hx hb dX8_digest_135 rfl hl (by decide) rfl (fun ls hl => ?_)
    refine lv_iconst (v := 0) hx hb dX8_digest_136 (by decide) ?_
    refine lv_istore_n (lv' := [(3, .int 0), (1, .long r10), (0, .ref a0)]) hx hb dX8_digest_137 rfl hl (by decide) rfl (fun ls hl => ?_)
    exact b138 _ r10 0 _ H locs ls hM hS (lv_sub hl [2, 1, 0] rfl) hf
  have b61 : ∀ (n : Nat), ∀ (x1 : Int64) (x3 : Int32) (M : Mem) (H : Heap) (locs : List Loc) (ls : Array Slot), Mh G M H → va_S (gA G) s.heap H locs → lv_has ls 4 [(0, .ref a0), (1, .long x1), (3, .int x3)] → f_X8_digest_b61 a0 n x1 x3 M = some (r, M') → W p l e ({ frames := 7, cells := 0, slots := 0, locals := 161 } : Room) s m args below meth c H locs 0 0 (MQ below (QV G (some (.long r)) M') args s 0 0 (gA G)) (F0 m 61 ls []) := by
    intro n
    induction n with
    | zero =>
      intro x1 x3 M H locs ls hM hS hl hf
      rw [f_X8_digest_b61] at hf
      cases hf
    | succ n ih =>
      intro x1 x3 M H locs ls hM hS hl hf
      rw [f_X8_digest_b61] at hf
      refine lv_iload_n hx hb dX8_digest_61 rfl (lv_at hl 2 rfl) ?_
      refine lv_aload_n hx hb dX8_digest_62 rfl (lv_at hl 0 rfl) ?_
      refine s_get hx hb (lay_8 hts) hown hK hM (c_9 h0) rfl 0 (by decide) rfl rfl (tk_280 hts) dX8_digest_63 ?_
      refine s_getN hx hb (lay_5 hts) hown hK hM (c_6 (ky_9_0 hG h0)) rfl 0 (by decide) rfl rfl (tk_234 hts) dX8_digest_66 ?_
      refine s_alen 3 hx hb hK hM (cel_va (ky_6_0 hG (ky_9_0 hG h0))) rfl (v := 3) (show Int32.ofNat 3 = 3 from by decide) dX8_digest_69 ?_
      refine lv_icmp_ge (tgt := 94) hx hb dX8_digest_70 (by decide) (fun g_11 => ?_) (fun g_11 => ?_)
      · rw [if_pos g_11] at hf
        refine lv_lload_n hx hb dX8_digest_94 rfl (lv_at hl 1 rfl) ?_
        refine lv_aload_n hx hb dX8_digest_95 rfl (lv_at hl 0 rfl) ?_
        obtain ⟨r13, e_12, hf⟩ := vb_e hf
        refine c_Vf hx hb hml hown hts hV hK hM hS (As := []) (rest := [.long x1]) (k_X8_shareOfLost G hG l a0 h0 M e_12) w_X8_shareOfLost (tk_394 hts) (c_9 h0) rfl rfl ⟨⟨rfl, rfl⟩, Nat.le_of_ble_eq_true rfl, Nat.le_of_ble_eq_true rfl⟩ ⟨Nat.zero_le _, Nat.zero_le _⟩ rfl hl.1 rfl (Nat.le_of_ble_eq_true rfl) dX8_digest_96 (fun H locs hM hS => ?_)
        obtain ⟨r15, e_14, hf⟩ := vb_e hf
        refine c_Sj hx hb hml hown hts hV hM hS (As := [.float r13]) (rest := [.long x1]) (k_X8_bitsOfFloat G hG l r13 M e_14) w_X8_bitsOfFloat (tk_556 hts) ⟨⟨rfl, rfl⟩, Nat.le_of_ble_eq_true rfl, Nat.le_of_ble_eq_true rfl⟩ ⟨Nat.zero_le _, Nat.zero_le _⟩ rfl hl.1 rfl (Nat.le_of_ble_eq_true rfl) dX8_digest_99 (fun H locs hM hS => ?_)
        obtain ⟨r17, e_16, hf⟩ := vb_e hf
        refine c_Sj hx hb hml hown hts hV hM hS (As := [.long x1, .long r15]) (rest := []) (k_X8_mixed G hG l x1 r15 M e_16) w_X8_mixed (tk_479 hts) ⟨⟨rfl, rfl⟩, Nat.le_of_ble_eq_true rfl, Nat.le_of_ble_eq_true rfl⟩ ⟨Nat.zero_le _, Nat.zero_le _⟩ rfl hl.1 rfl (Nat.le_of_ble_eq_true rfl) dX8_digest_102 (fun H locs hM hS => ?_)
        refine lv_lstore_n (lv' := [(1, .long r17), (0, .ref a0), (3, .int x3)]) hx hb dX8_digest_105 rfl hl (by decide) rfl (fun ls hl => ?_)
        refine lv_lload_n hx hb dX8_digest_106 rfl (lv_at hl 0 rfl) ?_
        refine lv_aload_n hx hb dX8_digest_107 rfl (lv_at hl 1 rfl) ?_
        refine s_get hx hb (lay_8 hts) hown hK hM (c_9 h0) rfl 2 (by decide) rfl rfl (tk_282 hts) dX8_digest_108 ?_
        refine lv_if_eq (tgt := 118) hx hb dX8_digest_111 (by decide) (fun g_18 => ?_) (fun g_18 => ?_)
        · rw [if_pos g_18] at hf
          refine lv_lconst (v := 0) hx hb dX8_digest_118 (by decide) ?_
          exact b119 (0 : Int64) r17 _ H locs ls hM hS (lv_sub hl [1] rfl) hf
        · rw [if_neg g_18] at hf
          refine lv_lconst (v := 1) hx hb dX8_digest_114 (by decide) ?_
          refine lv_goto (tgt := 119) hx hb dX8_digest_115 (by decide) ?_
          exact b119 (1 : Int64) r17 _ H locs ls hM hS (lv_sub hl [1] rfl) hf
      · rw [if_neg g_11] at hf
        refine lv_aload_n hx hb dX8_digest_73 rfl (lv_at hl 0 rfl) ?_
        refine lv_lload_n hx hb dX8_digest_74 rfl (lv_at hl 1 rfl) ?_
        refine lv_aload_n hx hb dX8_digest_75 rfl (lv_at hl 0 rfl) ?_
        refine s_get hx hb (lay_8 hts) hown hK hM (c_9 h0) rfl 0 (by decide) rfl rfl (tk_280 hts) dX8_digest_76 ?_
        refine s_getN hx hb (lay_5 hts) hown hK hM (c_6 (ky_9_0 hG h0)) rfl 0 (by decide) rfl rfl (tk_234 hts) dX8_digest_79 ?_
        refine lv_iload_n hx hb dX8_digest_82 rfl (lv_at hl 2 rfl) ?_
        obtain ⟨h_19, hf⟩ := gd_e hf
        refine s_vaald hx hb hK hM (ky_vs hG (ky_6_0 hG (ky_9_0 hG h0))) (ky_6_0 hG (ky_9_0 hG h0)) h_19 dX8_digest_83 (fun h_20 => ?_)
        obtain ⟨z21, ez21, hf⟩ := nb_e hf
        refine s_nmr ez21 ?_
        have h_z21 : gK G z21 = 8 := ez21 ▸ h_20
        obtain ⟨r23, M24, e_22, hf⟩ := cb_e hf
        refine c_Vj hx hb hml hown hts hV hK hM hS (As := [.long x1, .ref z21]) (rest := []) (k_X8_withVoice G hG l a0 h0 x1 z21 h_z21 M e_22) w_X8_withVoice (tk_487 hts) (c_9 h0) rfl rfl ⟨⟨rfl, rfl⟩, Nat.le_of_ble_eq_true rfl, Nat.le_of_ble_eq_true rfl⟩ ⟨Nat.zero_le _, Nat.zero_le _⟩ rfl hl.1 rfl (Nat.le_of_ble_eq_true rfl) dX8_digest_84 (fun H locs hM hS => ?_)
        refine lv_lstore_n (lv' := [(1, .long r23), (0, .ref a0), (3, .int x3)]) hx hb dX8_digest_87 rfl hl (by decide) rfl (fun ls hl => ?_)
        obtain ⟨y25, ey25, hf⟩ := nb_e hf
        refine lv_iinc (v := y25) (lv' := [(3, .int y25), (1, .long r23), (0, .ref a0)]) hx hb dX8_digest_88 hl (k := 2) rfl (by rw [← ey25]; rfl) (by decide) rfl (fun ls hl => ?_)
        refine lv_goto (tgt := 61) hx hb dX8_digest_91 (by decide) ?_
        exact ih r23 y25 _ H locs ls hM hS (lv_sub hl [2, 1, 0] rfl) hf
  have b31 : ∀ (n : Nat), ∀ (x1 : Int64) (x3 : Int32) (M : Mem) (H : Heap) (locs : List Loc) (ls : Array Slot), Mh G M H → va_S (gA G) s.heap H locs → lv_has ls 4 [(0, .ref a0), (1, .long x1), (3, .int x3)] → f_X8_digest_b31 a0 n x1 x3 M = some (r, M') → W p l e ({ frames := 7, cells := 0, slots := 0, locals := 161 } : Room) s m args below meth c H locs 0 0 (MQ below (QV G (some (.long r)) M') args s 0 0 (gA G)) (F0 m 31 ls []) := by
    intro n
    induction n with
    | zero =>
      intro x1 x3 M H locs ls hM hS hl hf
      rw [f_X8_digest_b31] at hf
      cases hf
    | succ n ih =>
      intro x1 x3 M H locs ls hM hS hl hf
      rw [f_X8_digest_b31] at hf
      refine lv_iload_n hx hb dX8_digest_31 rfl (lv_at hl 2 rfl) ?_
      refine lv_iconst (v := 3) hx hb dX8_digest_32 (by decide) ?_
      refine lv_icmp_gt (tgt := 59) hx hb dX8_digest_33 (by decide) (fun g_26 => ?_) (fun g_26 => ?_)
      · rw [if_pos g_26] at hf
        refine lv_iconst (v := 0) hx hb dX8_digest_59 (by decide) ?_
        refine lv_istore_n (lv' := [(3, .int 0), (0, .ref a0), (1, .long x1)]) hx hb dX8_digest_60 rfl hl (by decide) rfl (fun ls hl => ?_)
        exact b61 _ x1 0 _ H locs ls hM hS (lv_sub hl [1, 2, 0] rfl) hf
      · rw [if_neg g_26] at hf
        refine lv_lload_n hx hb dX8_digest_36 rfl (lv_at hl 1 rfl) ?_
        refine lv_aload_n hx hb dX8_digest_37 rfl (lv_at hl 0 rfl) ?_
        refine s_get hx hb (lay_8 hts) hown hK hM (c_9 h0) rfl 0 (by decide) rfl rfl (tk_280 hts) dX8_digest_38 ?_
        refine s_getN hx hb (lay_5 hts) hown hK hM (c_6 (ky_9_0 hG h0)) rfl 1 (by decide) rfl rfl (tk_236 hts) dX8_digest_41 ?_
        refine lv_iload_n hx hb dX8_digest_44 rfl (lv_at hl 2 rfl) ?_
        obtain ⟨r28, e_27, hf⟩ := vb_e hf
        refine c_Vi hx hb hml hown hts hV hK hM hS (As := [.int x3]) (rest := [.long x1]) (k_X4_valueOf G hG l ((a0 + 1) + 2) (ky_6_1 hG (ky_9_0 hG h0)) x3 M e_27) w_X4_valueOf (tk_483 hts) (c_5 (ky_6_1 hG (ky_9_0 hG h0))) rfl rfl ⟨⟨rfl, rfl⟩, Nat.le_of_ble_eq_true rfl, Nat.le_of_ble_eq_true rfl⟩ ⟨Nat.zero_le _, Nat.zero_le _⟩ rfl hl.1 rfl (Nat.le_of_ble_eq_true rfl) dX8_digest_45 (fun H locs hM hS => ?_)
        refine lv_i2l hx hb dX8_digest_48 rfl ?_
        obtain ⟨r30, e_29, hf⟩ := vb_e hf
        refine c_Sj hx hb hml hown hts hV hM hS (As := [.long x1, .long r28.toInt64]) (rest := []) (k_X8_mixed G hG l x1 r28.toInt64 M e_29) w_X8_mixed (tk_479 hts) ⟨⟨rfl, rfl⟩, Nat.le_of_ble_eq_true rfl, Nat.le_of_ble_eq_true rfl⟩ ⟨Nat.zero_le _, Nat.zero_le _⟩ rfl hl.1 rfl (Nat.le_of_ble_eq_true rfl) dX8_digest_49 (fun H locs hM hS => ?_)
        refine lv_lstore_n (lv' := [(1, .long r30), (0, .ref a0), (3, .int x3)]) hx hb dX8_digest_52 rfl hl (by decide) rfl (fun ls hl => ?_)
        obtain ⟨y31, ey31, hf⟩ := nb_e hf
        refine lv_iinc (v := y31) (lv' := [(3, .int y31), (1, .long r30), (0, .ref a0)]) hx hb dX8_digest_53 hl (k := 2) rfl (by rw [← ey31]; rfl) (by decide) rfl (fun ls hl => ?_)
        refine lv_goto (tgt := 31) hx hb dX8_digest_56 (by decide) ?_
        exact ih r30 y31 _ H locs ls hM hS (lv_sub hl [2, 1, 0] rfl) hf
  have b6 : ∀ (n : Nat), ∀ (x1 : Int64) (x3 : Int32) (M : Mem) (H : Heap) (locs : List Loc) (ls : Array Slot), Mh G M H → va_S (gA G) s.heap H locs → lv_has ls 4 [(0, .ref a0), (1, .long x1), (3, .int x3)] → f_X8_digest_b6 a0 n x1 x3 M = some (r, M') → W p l e ({ frames := 7, cells := 0, slots := 0, locals := 161 } : Room) s m args below meth c H locs 0 0 (MQ below (QV G (some (.long r)) M') args s 0 0 (gA G)) (F0 m 6 ls []) := by
    intro n
    induction n with
    | zero =>
      intro x1 x3 M H locs ls hM hS hl hf
      rw [f_X8_digest_b6] at hf
      cases hf
    | succ n ih =>
      intro x1 x3 M H locs ls hM hS hl hf
      rw [f_X8_digest_b6] at hf
      refine lv_iload_n hx hb dX8_digest_6 rfl (lv_at hl 2 rfl) ?_
      refine lv_bipush (v := 7) hx hb dX8_digest_7 (by decide) ?_
      refine lv_icmp_gt (tgt := 29) hx hb dX8_digest_9 (by decide) (fun g_32 => ?_) (fun g_32 => ?_)
      · rw [if_pos g_32] at hf
        refine lv_iconst (v := 0) hx hb dX8_digest_29 (by decide) ?_
        refine lv_istore_n (lv' := [(3, .int 0), (0, .ref a0), (1, .long x1)]) hx hb dX8_digest_30 rfl hl (by decide) rfl (fun ls hl => ?_)
        exact b31 _ x1 0 _ H locs ls hM hS (lv_sub hl [1, 2, 0] rfl) hf
      · rw [if_neg g_32] at hf
        refine lv_lload_n hx hb dX8_digest_12 rfl (lv_at hl 1 rfl) ?_
        refine lv_aload_n hx hb dX8_digest_13 rfl (lv_at hl 0 rfl) ?_
        refine lv_iload_n hx hb dX8_digest_14 rfl (lv_at hl 2 rfl) ?_
        obtain ⟨r34, M35, e_33, hf⟩ := cb_e hf
        refine c_Vi hx hb hml hown hts hV hK hM hS (As := [.int x3]) (rest := [.long x1]) (k_X8_tellCount G hG l a0 h0 x3 M e_33) w_X8_tellCount (tk_403 hts) (c_9 h0) rfl rfl ⟨⟨rfl, rfl⟩, Nat.le_of_ble_eq_true rfl, Nat.le_of_ble_eq_true rfl⟩ ⟨Nat.zero_le _, Nat.zero_le _⟩ rfl hl.1 rfl (Nat.le_of_ble_eq_true rfl) dX8_digest_15 (fun H locs hM hS => ?_)
        refine lv_i2l hx hb dX8_digest_18 rfl ?_
        obtain ⟨r37, e_36, hf⟩ := vb_e hf
        refine c_Sj hx hb hml hown hts hV hM hS (As := [.long x1, .long r34.toInt64]) (rest := []) (k_X8_mixed G hG l x1 r34.toInt64 M35 e_36) w_X8_mixed (tk_479 hts) ⟨⟨rfl, rfl⟩, Nat.le_of_ble_eq_true rfl, Nat.le_of_ble_eq_true rfl⟩ ⟨Nat.zero_le _, Nat.zero_le _⟩ rfl hl.1 rfl (Nat.le_of_ble_eq_true rfl) dX8_digest_19 (fun H locs hM hS => ?_)
        refine lv_lstore_n (lv' := [(1, .long r37), (0, .ref a0), (3, .int x3)]) hx hb dX8_digest_22 rfl hl (by decide) rfl (fun ls hl => ?_)
        obtain ⟨y38, ey38, hf⟩ := nb_e hf
        refine lv_iinc (v := y38) (lv' := [(3, .int y38), (1, .long r37), (0, .ref a0)]) hx hb dX8_digest_23 hl (k := 2) rfl (by rw [← ey38]; rfl) (by decide) rfl (fun ls hl => ?_)
        refine lv_goto (tgt := 6) hx hb dX8_digest_26 (by decide) ?_
        exact ih r37 y38 _ H locs ls hM hS (lv_sub hl [2, 1, 0] rfl) hf
  rw [f_X8_digest] at hf
  obtain ⟨H, hHe⟩ : ∃ H, H = s.heap := ⟨_, rfl⟩
  obtain ⟨locs, hLe⟩ : ∃ L : List Loc, L = [] := ⟨_, rfl⟩
  rw [← hHe] at hM
  have hS : va_S (gA G) s.heap H locs := by rw [hHe, hLe]; exact va_S.rf
  suffices hW : W p l e ({ frames := 7, cells := 0, slots := 0, locals := 161 } : Room) s m args below meth c H locs 0 0 (MQ below (QV G (some (.long r)) M') args s 0 0 (gA G)) (F0 m 0 ls []) by rw [hHe, hLe] at hW; exact hW
  refine lv_ldc2 hx hb hown (tk_402 hts) dX8_digest_0 ?_
  obtain ⟨y39, ey39, hf⟩ := nb_e hf
  refine s_nml ey39 ?_
  refine lv_lstore_n (lv' := [(1, .long y39), (0, .ref a0)]) hx hb dX8_digest_3 rfl hl (by decide) rfl (fun ls hl => ?_)
  refine lv_iconst (v := 0) hx hb dX8_digest_4 (by decide) ?_
  refine lv_istore_n (lv' := [(3, .int 0), (1, .long y39), (0, .ref a0)]) hx hb dX8_digest_5 rfl hl (by decide) rfl (fun ls hl => ?_)
  exact b6 _ y39 0 _ H locs ls hM hS (lv_sub hl [2, 1, 0] rfl) hf
def f_X8_dropOldestSaved_b9 (a0 : Nat) : Nat → Nat → Int32 → Mem → Option Mem
  | 0, _, _, _ => none
  | n + 1, q1, x2, M => if (6 : Int32) ≤ x2 then (gd (ix ((6 : Int32) - 1) 6) <| nb (sR M (a0 + 273) ((6 : Int32) - 1).toNatClampNeg q1) fun M3 => nb (sI M3 a0 4 ((6 : Int32) - 1)) fun M4 => some M4) else (gd (ix x2 6) <| nb (mR M (a0 + 273) x2.toNatClampNeg) fun z7 => gd (ix (x2 - 1) 6) <| nb (sR M (a0 + 273) (x2 - 1).toNatClampNeg z7) fun M9 => nb (x2 + 1) fun y10 => f_X8_dropOldestSaved_b9 a0 n q1 y10 M9)
def f_X8_dropOldestSaved (a0 : Nat) (M : Mem) : Option Mem := gd (ix (0 : Int32) 6) <| nb (mR M (a0 + 273) (0 : Int32).toNatClampNeg) fun z13 => f_X8_dropOldestSaved_b9 a0 lfuel z13 1 M
set_option maxHeartbeats 4000000 in
set_option maxRecDepth 100000 in
theorem k_X8_dropOldestSaved (G : Gt) (hG : gOK G) (l : Launch) (a0 : Nat) (h0 : gK G a0 = 9) (M : Mem) {M' : Mem} (hf : f_X8_dropOldestSaved a0 M = some M') : Kc G l yX8_dropOldestSaved cX8_dropOldestSaved 3 none ({ frames := 0, cells := 0, slots := 0, locals := 0 } : Room) [.ref a0] M none M' := by
  refine start (by decide) (Nat.le_of_ble_eq_true rfl) ?_
  intro p e s m args below meth c ls hx hb hr hown hml hlocks hts hV hM hl
  have hown : s.vm.findClass "FoldedVoices" = some m.cls := hown
  have hK := hG.1.moved hV
  have hS : va_S (gA G) s.heap s.heap [] := va_S.rf
  have hl : lv_has ls 3 [(0, .ref a0)] := hl
  have hM0 := hM
  have b9 : ∀ (n : Nat), ∀ (q1 : Nat) (x2 : Int32) (M : Mem) (H : Heap) (locs : List Loc) (ls : Array Slot), gK G q1 = 6 → Mh G M H → va_S (gA G) s.heap H locs → lv_has ls 3 [(0, .ref a0), (1, .ref q1), (2, .int x2)] → f_X8_dropOldestSaved_b9 a0 n q1 x2 M = some M' → W p l e ({ frames := 0, cells := 0, slots := 0, locals := 0 } : Room) s m args below meth c H locs 0 0 (MQ below (QV G none M') args s 0 0 (gA G)) (F0 m 9 ls []) := by
    intro n
    induction n with
    | zero =>
      intro q1 x2 M H locs ls h_q1 hM hS hl hf
      rw [f_X8_dropOldestSaved_b9] at hf
      cases hf
    | succ n ih =>
      intro q1 x2 M H locs ls h_q1 hM hS hl hf
      rw [f_X8_dropOldestSaved_b9] at hf
      refine lv_iload_n hx hb dX8_dropOldestSaved_9 rfl (lv_at hl 2 rfl) ?_
      refine lv_aload_n hx hb dX8_dropOldestSaved_10 rfl (lv_at hl 0 rfl) ?_
      refine s_get hx hb (lay_8 hts) hown hK hM (c_9 h0) rfl 3 (by decide) rfl rfl (tk_283 hts) dX8_dropOldestSaved_11 ?_
      refine s_alen 4 hx hb hK hM (cel_sa (ky_9_3 hG h0)) rfl (v := 6) (show Int32.ofNat 6 = 6 from by decide) dX8_dropOldestSaved_14 ?_
      refine lv_icmp_ge (tgt := 38) hx hb dX8_dropOldestSaved_15 (by decide) (fun g_1 => ?_) (fun g_1 => ?_)
      · rw [if_pos g_1] at hf
        refine lv_aload_n hx hb dX8_dropOldestSaved_38 rfl (lv_at hl 0 rfl) ?_
        refine s_get hx hb (lay_8 hts) hown hK hM (c_9 h0) rfl 3 (by decide) rfl rfl (tk_283 hts) dX8_dropOldestSaved_39 ?_
        refine lv_aload_n hx hb dX8_dropOldestSaved_42 rfl (lv_at hl 0 rfl) ?_
        refine s_get hx hb (lay_8 hts) hown hK hM (c_9 h0) rfl 3 (by decide) rfl rfl (tk_283 hts) dX8_dropOldestSaved_43 ?_
        refine s_alen 4 hx hb hK hM (cel_sa (ky_9_3 hG h0)) rfl (v := 6) (show Int32.ofNat 6 = 6 from by decide) dX8_dropOldestSaved_46 ?_
        refine lv_iconst (v := 1) hx hb dX8_dropOldestSaved_47 (by decide) ?_
        refine lv_isub hx hb dX8_dropOldestSaved_48 ?_
        refine lv_aload_n hx hb dX8_dropOldestSaved_49 rfl (lv_at hl 1 rfl) ?_
        obtain ⟨h_2, hf⟩ := gd_e hf
        obtain ⟨M3, eM3, hf⟩ := nb_e hf
        refine s_aast 4 5 6 hx hb hK hM hS (ky_b hG (ky_9_3 hG h0)) (fun N9 => cel_sa (ky_9_3 hG h0)) rfl (c_6 h_q1) rfl h_2 (hM.2.2.sR (fun h9 => absurd (h9.symm.trans (ky_9_3 hG h0)) (by decide)) (fun _ => h_q1)) dX8_dropOldestSaved_50 (fun H locs hM hS => ?_)
        rw [eM3] at hM
        refine lv_aload_n hx hb dX8_dropOldestSaved_51 rfl (lv_at hl 0 rfl) ?_
        refine lv_aload_n hx hb dX8_dropOldestSaved_52 rfl (lv_at hl 0 rfl) ?_
        refine s_get hx hb (lay_8 hts) hown hK hM (c_9 h0) rfl 3 (by decide) rfl rfl (tk_283 hts) dX8_dropOldestSaved_53 ?_
        refine s_alen 4 hx hb hK hM (cel_sa (ky_9_3 hG h0)) rfl (v := 6) (show Int32.ofNat 6 = 6 from by decide) dX8_dropOldestSaved_56 ?_
        refine lv_iconst (v := 1) hx hb dX8_dropOldestSaved_57 (by decide) ?_
        refine lv_isub hx hb dX8_dropOldestSaved_58 ?_
        obtain ⟨M4, eM4, hf⟩ := nb_e hf
        refine s_put tyX8 hx hb (lay_8 hts) tyX8_ok nmX8 hown hK hM hS (ky_b hG h0) (c_9 h0) rfl 4 (by decide) rfl rfl rfl (Nat.le_of_ble_eq_true rfl) (cp_8_4 h0) (fun _ h9 => cel_sI _ h9) hM.2.2.sI rfl (tk_284 hts) dX8_dropOldestSaved_59 (fun H locs hM hS => ?_)
        rw [eM4] at hM
        exact ef_v hx hb hr hlocks hM hS hf dX8_dropOldestSaved_62
      · rw [if_neg g_1] at hf
        refine lv_aload_n hx hb dX8_dropOldestSaved_18 rfl (lv_at hl 0 rfl) ?_
        refine s_get hx hb (lay_8 hts) hown hK hM (c_9 h0) rfl 3 (by decide) rfl rfl (tk_283 hts) dX8_dropOldestSaved_19 ?_
        refine lv_iload_n hx hb dX8_dropOldestSaved_22 rfl (lv_at hl 2 rfl) ?_
        refine lv_iconst (v := 1) hx hb dX8_dropOldestSaved_23 (by decide) ?_
        refine lv_isub hx hb dX8_dropOldestSaved_24 ?_
        refine lv_aload_n hx hb dX8_dropOldestSaved_25 rfl (lv_at hl 0 rfl) ?_
        refine s_get hx hb (lay_8 hts) hown hK hM (c_9 h0) rfl 3 (by decide) rfl rfl (tk_283 hts) dX8_dropOldestSaved_26 ?_
        refine lv_iload_n hx hb dX8_dropOldestSaved_29 rfl (lv_at hl 2 rfl) ?_
        obtain ⟨h_5, hf⟩ := gd_e hf
        refine s_saald hx hb hK hM (ky_9_3 hG h0) h_5 dX8_dropOldestSaved_30 (fun h_6 => ?_)
        obtain ⟨z7, ez7, hf⟩ := nb_e hf
        refine s_nmr ez7 ?_
        have h_z7 : gK G z7 = 6 := ez7 ▸ h_6
        obtain ⟨h_8, hf⟩ := gd_e hf
        obtain ⟨M9, eM9, hf⟩ := nb_e hf
        refine s_aast 4 5 6 hx hb hK hM hS (ky_b hG (ky_9_3 hG h0)) (fun N9 => cel_sa (ky_9_3 hG h0)) rfl (c_6 h_z7) rfl h_8 (hM.2.2.sR (fun h9 => absurd (h9.symm.trans (ky_9_3 hG h0)) (by decide)) (fun _ => h_z7)) dX8_dropOldestSaved_31 (fun H locs hM hS => ?_)
        rw [eM9] at hM
        obtain ⟨y10, ey10, hf⟩ := nb_e hf
        refine lv_iinc (v := y10) (lv' := [(2, .int y10), (0, .ref a0), (1, .ref q1)]) hx hb dX8_dropOldestSaved_32 hl (k := 2) rfl (by rw [← ey10]; rfl) (by decide) rfl (fun ls hl => ?_)
        refine lv_goto (tgt := 9) hx hb dX8_dropOldestSaved_35 (by decide) ?_
        exact ih q1 y10 _ H locs ls h_q1 hM hS (lv_sub hl [1, 2, 0] rfl) hf
  rw [f_X8_dropOldestSaved] at hf
  obtain ⟨H, hHe⟩ : ∃ H, H = s.heap := ⟨_, rfl⟩
  obtain ⟨locs, hLe⟩ : ∃ L : List Loc, L = [] := ⟨_, rfl⟩
  rw [← hHe] at hM
  have hS : va_S (gA G) s.heap H locs := by rw [hHe, hLe]; exact va_S.rf
  suffices hW : W p l e ({ frames := 0, cells := 0, slots := 0, locals := 0 } : Room) s m args below meth c H locs 0 0 (MQ below (QV G none M') args s 0 0 (gA G)) (F0 m 0 ls []) by rw [hHe, hLe] at hW; exact hW
  refine lv_aload_n hx hb dX8_dropOldestSaved_0 rfl (lv_at hl 0 rfl) ?_
  refine s_get hx hb (lay_8 hts) hown hK hM (c_9 h0) rfl 3 (by decide) rfl rfl (tk_283 hts) dX8_dropOldestSaved_1 ?_
  refine lv_iconst (v := 0) hx hb dX8_dropOldestSaved_4 (by decide) ?_
  obtain ⟨h_11, hf⟩ := gd_e hf
  refine s_saald hx hb hK hM (ky_9_3 hG h0) h_11 dX8_dropOldestSaved_5 (fun h_12 => ?_)
  obtain ⟨z13, ez13, hf⟩ := nb_e hf
  refine s_nmr ez13 ?_
  have h_z13 : gK G z13 = 6 := ez13 ▸ h_12
  refine lv_astore_n (lv' := [(1, .ref z13), (0, .ref a0)]) hx hb dX8_dropOldestSaved_6 rfl hl (by decide) rfl (fun ls hl => ?_)
  refine lv_iconst (v := 1) hx hb dX8_dropOldestSaved_7 (by decide) ?_
  refine lv_istore_n (lv' := [(2, .int 1), (1, .ref z13), (0, .ref a0)]) hx hb dX8_dropOldestSaved_8 rfl hl (by decide) rfl (fun ls hl => ?_)
  exact b9 _ z13 1 _ H locs ls h_z13 hM hS (lv_sub hl [2, 1, 0] rfl) hf
