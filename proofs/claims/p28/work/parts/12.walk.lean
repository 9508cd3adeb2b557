def f_X1_receive_b92 (a0 : Nat) (a1 : Nat) : Nat → Int32 → Int32 → Mem → Option (Int32 × Mem)
  | 0, _, _, _ => none
  | n + 1, x2, x3, M => if (mI M a1 2) ≤ x3 then (nb (sI M a0 1 ((mI M a1 3) + 1)) fun M2 => some (x2, M2)) else (vb (f_X2_codeAt a1 x3 M) fun r4 => vb (f_X0_follow (a0 + 1) r4 M) fun M6 => vb (f_X2_meanAt a1 x3 M6) fun r8 => vb (f_X8_distance (mI M6 (a0 + 1) 0) r8 M6) fun r10 => vb (f_X1_noteHeard a0 r10 M6) fun M12 => nb (x3 + 1) fun y13 => f_X1_receive_b92 a0 a1 n x2 y13 M12)
def f_X1_receive_b90 (a0 : Nat) (a1 : Nat) (x2 : Int32) (M : Mem) : Option (Int32 × Mem) := f_X1_receive_b92 a0 a1 lfuel x2 0 M
def f_X1_receive_b47 (a0 : Nat) (a1 : Nat) : Nat → Int32 → Int32 → Mem → Option (Int32 × Mem)
  | 0, _, _, _ => none
  | n + 1, x2, x3, M => if x2 ≤ x3 then (nb (sI M a0 3 ((mI M a0 3) + x2)) fun M15 => if (mI M15 a1 4) = 0 then (f_X1_receive_b90 a0 a1 x2 M15) else (vb (f_X1_moveTo a0 (a1 + 3) M15) fun M18 => f_X1_receive_b90 a0 a1 x2 M18)) else (vb (f_X0_fade (a0 + 1) M) fun M20 => nb (x3 + 1) fun y21 => f_X1_receive_b47 a0 a1 n x2 y21 M20)
def f_X1_receive (a0 : Nat) (a1 : Nat) (M : Mem) : Option (Int32 × Mem) := nb (sI M a0 9 ((mI M a0 9) + 1)) fun M22 => if (mI M22 a0 1) ≤ (mI M22 a1 3) then (nb ((mI M22 a1 3) - (mI M22 a0 1)) fun y24 => f_X1_receive_b47 a0 a1 lfuel y24 0 M22) else (nb (sI M22 a0 4 ((mI M22 a0 4) + 1)) fun M25 => some ((-10000), M25))
set_option maxHeartbeats 4000000 in
set_option maxRecDepth 100000 in
theorem k_X1_receive (G : Gt) (hG : gOK G) (l : Launch) (a0 : Nat) (h0 : gK G a0 = 2) (a1 : Nat) (h1 : gK G a1 = 3) (M : Mem) {r : Int32} {M' : Mem} (hf : f_X1_receive a0 a1 M = some (r, M')) : Kc G l yX1_receive cX1_receive 4 (some .int) ({ frames := 3, cells := 0, slots := 0, locals := 68 } : Room) [.ref a0, .ref a1] M (some (.int r)) M' := by
  refine start (by decide) (Nat.le_of_ble_eq_true rfl) ?_
  intro p e s m args below meth c ls hx hb hr hown hml hlocks hts hV hM hl
  have hown : s.vm.findClass "FoldedVoices$HearingEnd" = some m.cls := hown
  have hK := hG.1.moved hV
  have hS : va_S (gA G) s.heap s.heap [] := va_S.rf
  have hl : lv_has ls 4 [(0, .ref a0), (1, .ref a1)] := hl
  have hM0 := hM
  have b92 : ∀ (n : Nat), ∀ (x2 : Int32) (x3 : Int32) (M : Mem) (H : Heap) (locs : List Loc) (ls : Array Slot), Mh G M H → va_S (gA G) s.heap H locs → lv_has ls 4 [(0, .ref a0), (1, .ref a1), (2, .int x2), (3, .int x3)] → f_X1_receive_b92 a0 a1 n x2 x3 M = some (r, M') → W p l e ({ frames := 3, cells := 0, slots := 0, locals := 68 } : Room) s m args below meth c H locs 0 0 (MQ below (QV G (some (.int r)) M') args s 0 0 (gA G)) (F0 m 92 ls []) := by
    intro n
    induction n with
    | zero =>
      intro x2 x3 M H locs ls hM hS hl hf
      rw [f_X1_receive_b92] at hf
      cases hf
    | succ n ih =>
      intro x2 x3 M H locs ls hM hS hl hf
      rw [f_X1_receive_b92] at hf
      refine lv_iload_n hx hb dX1_receive_92 rfl (lv_at hl 3 rfl) ?_
      refine lv_aload_n hx hb dX1_receive_93 rfl (lv_at hl 1 rfl) ?_
      refine s_getN hx hb (lay_2 hts) hown hK hM (c_3 h1) rfl 2 (by decide) rfl rfl (tk_89 hts) dX1_receive_94 ?_
      refine lv_icmp_ge (tgt := 137) hx hb dX1_receive_97 (by decide) (fun g_1 => ?_) (fun g_1 => ?_)
      · rw [if_pos g_1] at hf
        refine lv_aload_n hx hb dX1_receive_137 rfl (lv_at hl 0 rfl) ?_
        refine lv_aload_n hx hb dX1_receive_138 rfl (lv_at hl 1 rfl) ?_
        refine s_getN hx hb (lay_2 hts) hown hK hM (c_3 h1) rfl 3 (by decide) rfl rfl (tk_93 hts) dX1_receive_139 ?_
        refine lv_iconst (v := 1) hx hb dX1_receive_142 (by decide) ?_
        refine lv_iadd hx hb dX1_receive_143 ?_
        obtain ⟨M2, eM2, hf⟩ := nb_e hf
        refine s_put tyX1 hx hb (lay_1 hts) tyX1_ok nmX1 hown hK hM hS (ky_b hG h0) (c_2 h0) rfl 1 (by decide) rfl rfl rfl (Nat.le_of_ble_eq_true rfl) (cp_1_1 h0) (fun _ h9 => cel_sI _ h9) hM.2.2.sI rfl (tk_170 hts) dX1_receive_144 (fun H locs hM hS => ?_)
        rw [eM2] at hM
        refine lv_iload_n hx hb dX1_receive_147 rfl (lv_at hl 2 rfl) ?_
        exact ef_im hx hb hr hlocks hM hS hf dX1_receive_148
      · rw [if_neg g_1] at hf
        refine lv_aload_n hx hb dX1_receive_100 rfl (lv_at hl 0 rfl) ?_
        refine s_get hx hb (lay_1 hts) hown hK hM (c_2 h0) rfl 0 (by decide) rfl rfl (tk_168 hts) dX1_receive_101 ?_
        refine lv_aload_n hx hb dX1_receive_104 rfl (lv_at hl 1 rfl) ?_
        refine lv_iload_n hx hb dX1_receive_105 rfl (lv_at hl 3 rfl) ?_
        obtain ⟨r4, e_3, hf⟩ := vb_e hf
        refine c_Vi hx hb hml hown hts hV hK hM hS (As := [.int x3]) (rest := [.ref (a0 + 1)]) (k_X2_codeAt G hG l a1 h1 x3 M e_3) w_X2_codeAt (tk_539 hts) (c_3 h1) rfl rfl ⟨⟨rfl, rfl⟩, Nat.le_of_ble_eq_true rfl, Nat.le_of_ble_eq_true rfl⟩ ⟨Nat.zero_le _, Nat.zero_le _⟩ rfl hl.1 rfl (Nat.le_of_ble_eq_true rfl) dX1_receive_106 (fun H locs hM hS => ?_)
        obtain ⟨M6, e_5, hf⟩ := vb_e hf
        refine c_Vv hx hb hml hown hts hV hK hM hS (As := [.int r4]) (rest := []) (k_X0_follow G hG l (a0 + 1) (ky_2_0 hG h0) r4 M e_5) w_X0_follow (tk_540 hts) (c_1 (ky_2_0 hG h0)) rfl rfl ⟨⟨rfl, rfl⟩, Nat.le_of_ble_eq_true rfl, Nat.le_of_ble_eq_true rfl⟩ ⟨Nat.zero_le _, Nat.zero_le _⟩ rfl hl.1 rfl (Nat.le_of_ble_eq_true rfl) dX1_receive_109 (fun H locs hM hS => ?_)
        refine lv_aload_n hx hb dX1_receive_112 rfl (lv_at hl 0 rfl) ?_
        refine lv_aload_n hx hb dX1_receive_113 rfl (lv_at hl 0 rfl) ?_
        refine s_get hx hb (lay_1 hts) hown hK hM (c_2 h0) rfl 0 (by decide) rfl rfl (tk_168 hts) dX1_receive_114 ?_
        refine s_getN hx hb (lay_0 hts) hown hK hM (c_1 (ky_2_0 hG h0)) rfl 0 (by decide) rfl rfl (tk_63 hts) dX1_receive_117 ?_
        refine lv_aload_n hx hb dX1_receive_120 rfl (lv_at hl 1 rfl) ?_
        refine lv_iload_n hx hb dX1_receive_121 rfl (lv_at hl 3 rfl) ?_
        obtain ⟨r8, e_7, hf⟩ := vb_e hf
        refine c_Vi hx hb hml hown hts hV hK hM hS (As := [.int x3]) (rest := [.int (mI M6 (a0 + 1) 0), .ref a0]) (k_X2_meanAt G hG l a1 h1 x3 M6 e_7) w_X2_meanAt (tk_541 hts) (c_3 h1) rfl rfl ⟨⟨rfl, rfl⟩, Nat.le_of_ble_eq_true rfl, Nat.le_of_ble_eq_true rfl⟩ ⟨Nat.zero_le _, Nat.zero_le _⟩ rfl hl.1 rfl (Nat.le_of_ble_eq_true rfl) dX1_receive_122 (fun H locs hM hS => ?_)
        obtain ⟨r10, e_9, hf⟩ := vb_e hf
        refine c_SNi hx hb hml hown hts hV hM hS (As := [.int (mI M6 (a0 + 1) 0), .int r8]) (rest := [.ref a0]) (k_X8_distance G hG l (mI M6 (a0 + 1) 0) r8 M6 e_9) w_X8_distance (tk_545 hts) ⟨⟨rfl, rfl⟩, Nat.le_of_ble_eq_true rfl, Nat.le_of_ble_eq_true rfl⟩ ⟨Nat.zero_le _, Nat.zero_le _⟩ rfl hl.1 rfl (Nat.le_of_ble_eq_true rfl) dX1_receive_125 (fun H locs hM hS => ?_)
        obtain ⟨M12, e_11, hf⟩ := vb_e hf
        refine c_Vv hx hb hml hown hts hV hK hM hS (As := [.int r10]) (rest := []) (k_X1_noteHeard G hG l a0 h0 r10 M6 e_11) w_X1_noteHeard (tk_548 hts) (c_2 h0) rfl rfl ⟨⟨rfl, rfl⟩, Nat.le_of_ble_eq_true rfl, Nat.le_of_ble_eq_true rfl⟩ ⟨Nat.zero_le _, Nat.zero_le _⟩ rfl hl.1 rfl (Nat.le_of_ble_eq_true rfl) dX1_receive_128 (fun H locs hM hS => ?_)
        obtain ⟨y13, ey13, hf⟩ := nb_e hf
        refine lv_iinc (v := y13) (lv' := [(3, .int y13), (0, .ref a0), (1, .ref a1), (2, .int x2)]) hx hb dX1_receive_131 hl (k := 3) rfl (by rw [← ey13]; rfl) (by decide) rfl (fun ls hl => ?_)
        refine lv_goto (tgt := 92) hx hb dX1_receive_134 (by decide) ?_
        exact ih x2 y13 _ H locs ls hM hS (lv_sub hl [1, 2, 3, 0] rfl) hf
  have b90 : ∀ (x2 : Int32) (M : Mem) (H : Heap) (locs : List Loc) (ls : Array Slot), Mh G M H → va_S (gA G) s.heap H locs → lv_has ls 4 [(0, .ref a0), (1, .ref a1), (2, .int x2)] → f_X1_receive_b90 a0 a1 x2 M = some (r, M') → W p l e ({ frames := 3, cells := 0, slots := 0, locals := 68 } : Room) s m args below meth c H locs 0 0 (MQ below (QV G (some (.int r)) M') args s 0 0 (gA G)) (F0 m 90 ls []) := by
    intro x2 M H locs ls hM hS hl hf
    rw [f_X1_receive_b90] at hf
    refine lv_iconst (v := 0) hx hb dX1_receive_90 (by decide) ?_
    refine lv_istore_n (lv' := [(3, .int 0), (0, .ref a0), (1, .ref a1), (2, .int x2)]) hx hb dX1_receive_91 rfl hl (by decide) rfl (fun ls hl => ?_)
    exact b92 _ x2 0 _ H locs ls hM hS (lv_sub hl [1, 2, 3, 0] rfl) hf
  have b47 : ∀ (n : Nat), ∀ (x2 : Int32) (x3 : Int32) (M : Mem) (H : Heap) (locs : List Loc) (ls : Array Slot), Mh G M H → va_S (gA G) s.heap H locs → lv_has ls 4 [(0, .ref a0), (1, .ref a1), (2, .int x2), (3, .int x3)] → f_X1_receive_b47 a0 a1 n x2 x3 M = some (r, M') → W p l e ({ frames := 3, cells := 0, slots := 0, locals := 68 } : Room) s m args below meth c H locs 0 0 (MQ below (QV G (some (.int r)) M') args s 0 0 (gA G)) (F0 m 47 ls []) := by
    intro n
    induction n with
    | zero =>
      intro x2 x3 M H locs ls hM hS hl hf
      rw [f_X1_receive_b47] at hf
      cases hf
    | succ n ih =>
      intro x2 x3 M H locs ls hM hS hl hf
      rw [f_X1_receive_b47] at hf
      refine lv_iload_n hx hb dX1_receive_47 rfl (lv_at hl 3 rfl) ?_
      refine lv_iload_n hx hb dX1_receive_48 rfl (lv_at hl 2 rfl) ?_
      refine lv_icmp_ge (tgt := 65) hx hb dX1_receive_49 (by decide) (fun g_14 => ?_) (fun g_14 => ?_)
      · rw [if_pos g_14] at hf
        refine lv_aload_n hx hb dX1_receive_65 rfl (lv_at hl 0 rfl) ?_
        refine lv_dup hx hb dX1_receive_66 rfl ?_
        refine s_get hx hb (lay_1 hts) hown hK hM (c_2 h0) rfl 3 (by decide) rfl rfl (tk_173 hts) dX1_receive_67 ?_
        refine lv_iload_n hx hb dX1_receive_70 rfl (lv_at hl 2 rfl) ?_
        refine lv_iadd hx hb dX1_receive_71 ?_
        obtain ⟨M15, eM15, hf⟩ := nb_e hf
        refine s_put tyX1 hx hb (lay_1 hts) tyX1_ok nmX1 hown hK hM hS (ky_b hG h0) (c_2 h0) rfl 3 (by decide) rfl rfl rfl (Nat.le_of_ble_eq_true rfl) (cp_1_3 h0) (fun _ h9 => cel_sI _ h9) hM.2.2.sI rfl (tk_173 hts) dX1_receive_72 (fun H locs hM hS => ?_)
        rw [eM15] at hM
        refine lv_aload_n hx hb dX1_receive_75 rfl (lv_at hl 1 rfl) ?_
        refine s_getN hx hb (lay_2 hts) hown hK hM (c_3 h1) rfl 4 (by decide) rfl rfl (tk_97 hts) dX1_receive_76 ?_
        refine lv_if_eq (tgt := 90) hx hb dX1_receive_79 (by decide) (fun g_16 => ?_) (fun g_16 => ?_)
        · rw [if_pos g_16] at hf
          exact b90 x2 _ H locs ls hM hS (lv_sub hl [0, 1, 2] rfl) hf
        · rw [if_neg g_16] at hf
          refine lv_aload_n hx hb dX1_receive_82 rfl (lv_at hl 0 rfl) ?_
          refine lv_aload_n hx hb dX1_receive_83 rfl (lv_at hl 1 rfl) ?_
          refine s_getN hx hb (lay_2 hts) hown hK hM (c_3 h1) rfl 5 (by decide) rfl rfl (tk_100 hts) dX1_receive_84 ?_
          obtain ⟨M18, e_17, hf⟩ := vb_e hf
          refine c_Vv hx hb hml hown hts hV hK hM hS (As := [.ref (a1 + 3)]) (rest := []) (k_X1_moveTo G hG l a0 h0 (a1 + 3) (ky_3_5 hG h1) M15 e_17) w_X1_moveTo (tk_531 hts) (c_2 h0) rfl rfl ⟨⟨rfl, rfl⟩, Nat.le_of_ble_eq_true rfl, Nat.le_of_ble_eq_true rfl⟩ ⟨Nat.zero_le _, Nat.zero_le _⟩ rfl hl.1 rfl (Nat.le_of_ble_eq_true rfl) dX1_receive_87 (fun H locs hM hS => ?_)
          exact b90 x2 _ H locs ls hM hS (lv_sub hl [0, 1, 2] rfl) hf
      · rw [if_neg g_14] at hf
        refine lv_aload_n hx hb dX1_receive_52 rfl (lv_at hl 0 rfl) ?_
        refine s_get hx hb (lay_1 hts) hown hK hM (c_2 h0) rfl 0 (by decide) rfl rfl (tk_168 hts) dX1_receive_53 ?_
        obtain ⟨M20, e_19, hf⟩ := vb_e hf
        refine c_Vv hx hb hml hown hts hV hK hM hS (As := []) (rest := []) (k_X0_fade G hG l (a0 + 1) (ky_2_0 hG h0) M e_19) w_X0_fade (tk_527 hts) (c_1 (ky_2_0 hG h0)) rfl rfl ⟨⟨rfl, rfl⟩, Nat.le_of_ble_eq_true rfl, Nat.le_of_ble_eq_true rfl⟩ ⟨Nat.zero_le _, Nat.zero_le _⟩ rfl hl.1 rfl (Nat.le_of_ble_eq_true rfl) dX1_receive_56 (fun H locs hM hS => ?_)
        obtain ⟨y21, ey21, hf⟩ := nb_e hf
        refine lv_iinc (v := y21) (lv' := [(3, .int y21), (0, .ref a0), (1, .ref a1), (2, .int x2)]) hx hb dX1_receive_59 hl (k := 3) rfl (by rw [← ey21]; rfl) (by decide) rfl (fun ls hl => ?_)
        refine lv_goto (tgt := 47) hx hb dX1_receive_62 (by decide) ?_
        exact ih x2 y21 _ H locs ls hM hS (lv_sub hl [1, 2, 3, 0] rfl) hf
  rw [f_X1_receive] at hf
  obtain ⟨H, hHe⟩ : ∃ H, H = s.heap := ⟨_, rfl⟩
  obtain ⟨locs, hLe⟩ : ∃ L : List Loc, L = [] := ⟨_, rfl⟩
  rw [← hHe] at hM
  have hS : va_S (gA G) s.heap H locs := by rw [hHe, hLe]; exact va_S.rf
  suffices hW : W p l e ({ frames := 3, cells := 0, slots := 0, locals := 68 } : Room) s m args below meth c H locs 0 0 (MQ below (QV G (some (.int r)) M') args s 0 0 (gA G)) (F0 m 0 ls []) by rw [hHe, hLe] at hW; exact hW
  refine lv_aload_n hx hb dX1_receive_0 rfl (lv_at hl 0 rfl) ?_
  refine lv_dup hx hb dX1_receive_1 rfl ?_
  refine s_get hx hb (lay_1 hts) hown hK hM (c_2 h0) rfl 9 (by decide) rfl rfl (tk_183 hts) dX1_receive_2 ?_
  refine lv_iconst (v := 1) hx hb dX1_receive_5 (by decide) ?_
  refine lv_iadd hx hb dX1_receive_6 ?_
  obtain ⟨M22, eM22, hf⟩ := nb_e hf
  refine s_put tyX1 hx hb (lay_1 hts) tyX1_ok nmX1 hown hK hM hS (ky_b hG h0) (c_2 h0) rfl 9 (by decide) rfl rfl rfl (Nat.le_of_ble_eq_true rfl) (cp_1_9 h0) (fun _ h9 => cel_sI _ h9) hM.2.2.sI rfl (tk_183 hts) dX1_receive_7 (fun H locs hM hS => ?_)
  rw [eM22] at hM
  refine lv_aload_n hx hb dX1_receive_10 rfl (lv_at hl 1 rfl) ?_
  refine s_getN hx hb (lay_2 hts) hown hK hM (c_3 h1) rfl 3 (by decide) rfl rfl (tk_93 hts) dX1_receive_11 ?_
  refine lv_aload_n hx hb dX1_receive_14 rfl (lv_at hl 0 rfl) ?_
  refine s_get hx hb (lay_1 hts) hown hK hM (c_2 h0) rfl 1 (by decide) rfl rfl (tk_170 hts) dX1_receive_15 ?_
  refine lv_icmp_ge (tgt := 35) hx hb dX1_receive_18 (by decide) (fun g_23 => ?_) (fun g_23 => ?_)
  · rw [if_pos g_23] at hf
    refine lv_aload_n hx hb dX1_receive_35 rfl (lv_at hl 1 rfl) ?_
    refine s_getN hx hb (lay_2 hts) hown hK hM (c_3 h1) rfl 3 (by decide) rfl rfl (tk_93 hts) dX1_receive_36 ?_
    refine lv_aload_n hx hb dX1_receive_39 rfl (lv_at hl 0 rfl) ?_
    refine s_get hx hb (lay_1 hts) hown hK hM (c_2 h0) rfl 1 (by decide) rfl rfl (tk_170 hts) dX1_receive_40 ?_
    refine lv_isub hx hb dX1_receive_43 ?_
    obtain ⟨y24, ey24, hf⟩ := nb_e hf
    refine s_nm ey24 ?_
    refine lv_istore_n (lv' := [(2, .int y24), (0, .ref a0), (1, .ref a1)]) hx hb dX1_receive_44 rfl hl (by decide) rfl (fun ls hl => ?_)
    refine lv_iconst (v := 0) hx hb dX1_receive_45 (by decide) ?_
    refine lv_istore_n (lv' := [(3, .int 0), (2, .int y24), (0, .ref a0), (1, .ref a1)]) hx hb dX1_receive_46 rfl hl (by decide) rfl (fun ls hl => ?_)
    exact b47 _ y24 0 _ H locs ls hM hS (lv_sub hl [2, 3, 1, 0] rfl) hf
  · rw [if_neg g_23] at hf
    refine lv_aload_n hx hb dX1_receive_21 rfl (lv_at hl 0 rfl) ?_
    refine lv_dup hx hb dX1_receive_22 rfl ?_
    refine s_get hx hb (lay_1 hts) hown hK hM (c_2 h0) rfl 4 (by decide) rfl rfl (tk_175 hts) dX1_receive_23 ?_
    refine lv_iconst (v := 1) hx hb dX1_receive_26 (by decide) ?_
    refine lv_iadd hx hb dX1_receive_27 ?_
    obtain ⟨M25, eM25, hf⟩ := nb_e hf
    refine s_put tyX1 hx hb (lay_1 hts) tyX1_ok nmX1 hown hK hM hS (ky_b hG h0) (c_2 h0) rfl 4 (by decide) rfl rfl rfl (Nat.le_of_ble_eq_true rfl) (cp_1_4 h0) (fun _ h9 => cel_sI _ h9) hM.2.2.sI rfl (tk_175 hts) dX1_receive_28 (fun H locs hM hS => ?_)
    rw [eM25] at hM
    refine lv_sipush (v := (-10000)) hx hb dX1_receive_31 (by decide) ?_
    exact ef_im hx hb hr hlocks hM hS hf dX1_receive_34
def f_X1_meanOfErrors (a0 : Nat) (M : Mem) : Option UInt64 := if (mI M a0 2) ≤ 0 then (some FP.dconst0) else (gd ((FP.ddiv (FP.i2d (mI M a0 6)) (FP.i2d (mI M a0 2))) &&& 0x7fffffffffffffff ≤ 0x7ff0000000000000) <| some (FP.ddiv (FP.i2d (mI M a0 6)) (FP.i2d (mI M a0 2))))
set_option maxHeartbeats 4000000 in
set_option maxRecDepth 100000 in
theorem k_X1_meanOfErrors (G : Gt) (hG : gOK G) (l : Launch) (a0 : Nat) (h0 : gK G a0 = 2) (M : Mem) {r : UInt64} (hf : f_X1_meanOfErrors a0 M = some r) : Kc G l yX1_meanOfErrors cX1_meanOfErrors 1 (some .double) ({ frames := 0, cells := 0, slots := 0, locals := 0 } : Room) [.ref a0] M (some (.double r)) M := by
  refine start (by decide) (Nat.le_of_ble_eq_true rfl) ?_
  intro p e s m args below meth c ls hx hb hr hown hml hlocks hts hV hM hl
  have hown : s.vm.findClass "FoldedVoices$HearingEnd" = some m.cls := hown
  have hK := hG.1.moved hV
  have hS : va_S (gA G) s.heap s.heap [] := va_S.rf
  have hl : lv_has ls 1 [(0, .ref a0)] := hl
  have hM0 := hM
  rw [f_X1_meanOfErrors] at hf
  refine lv_aload_n hx hb dX1_meanOfErrors_0 rfl (lv_at hl 0 rfl) ?_
  refine s_get hx hb (lay_1 hts) hown hK hM (c_2 h0) rfl 2 (by decide) rfl rfl (tk_172 hts) dX1_meanOfErrors_1 ?_
  refine lv_if_le (tgt := 21) hx hb dX1_meanOfErrors_4 (by decide) (fun g_1 => ?_) (fun g_1 => ?_)
  · rw [if_pos g_1] at hf
    refine lv_dconst0 hx hb dX1_meanOfErrors_21 ?_
    exact ef_dp hx hb hr hlocks hM hS hf dX1_meanOfErrors_22
  · rw [if_neg g_1] at hf
    refine lv_aload_n hx hb dX1_meanOfErrors_7 rfl (lv_at hl 0 rfl) ?_
    refine s_get hx hb (lay_1 hts) hown hK hM (c_2 h0) rfl 6 (by decide) rfl rfl (tk_179 hts) dX1_meanOfErrors_8 ?_
    refine lv_i2d hx hb dX1_meanOfErrors_11 ?_
    refine lv_aload_n hx hb dX1_meanOfErrors_12 rfl (lv_at hl 0 rfl) ?_
    refine s_get hx hb (lay_1 hts) hown hK hM (c_2 h0) rfl 2 (by decide) rfl rfl (tk_172 hts) dX1_meanOfErrors_13 ?_
    refine lv_i2d hx hb dX1_meanOfErrors_16 ?_
    obtain ⟨h_2, hf⟩ := gd_e hf
    refine lv_ddiv hx hb dX1_meanOfErrors_17 h_2 ?_
    refine lv_goto (tgt := 22) hx hb dX1_meanOfErrors_18 (by decide) ?_
    exact ef_dp hx hb hr hlocks hM hS hf dX1_meanOfErrors_22
def f_X1_tell (a0 : Nat) (p1 : Int32) (M : Mem) : Option Int32 := if p1 = 0 then (some (mI M (a0 + 1) 0)) else (if p1 = 1 then (some (mI M (a0 + 1) 1)) else (if p1 = 2 then (vb (f_X0_step (a0 + 1) M) fun r5 => some r5) else (if p1 = 3 then (some (mI M a0 1)) else (if p1 = 4 then (some (mI M a0 2)) else (if p1 = 5 then (some (mI M a0 3)) else (if p1 = 6 then (some (mI M a0 4)) else (if p1 = 7 then (some (mI M a0 5)) else (if p1 = 8 then (some (mI M a0 6)) else (if p1 = 9 then (some (mI M a0 7)) else (some (mI M a0 8)))))))))))
set_option maxHeartbeats 4000000 in
set_option maxRecDepth 100000 in
theorem k_X1_tell (G : Gt) (hG : gOK G) (l : Launch) (a0 : Nat) (h0 : gK G a0 = 2) (p1 : Int32) (M : Mem) {r : Int32} (hf : f_X1_tell a0 p1 M = some r) : Kc G l yX1_tell cX1_tell 2 (some .int) ({ frames := 1, cells := 0, slots := 0, locals := 20 } : Room) [.ref a0, .int p1] M (some (.int r)) M := by
  refine start (by decide) (Nat.le_of_ble_eq_true rfl) ?_
  intro p e s m args below meth c ls hx hb hr hown hml hlocks hts hV hM hl
  have hown : s.vm.findClass "FoldedVoices$HearingEnd" = some m.cls := hown
  have hK := hG.1.moved hV
  have hS : va_S (gA G) s.heap s.heap [] := va_S.rf
  have hl : lv_has ls 2 [(0, .ref a0), (1, .int p1)] := hl
  have hM0 := hM
  rw [f_X1_tell] at hf
  refine lv_iload_n hx hb dX1_tell_0 rfl (lv_at hl 1 rfl) ?_
  by_cases g_1 : p1 = 0
  · rw [if_pos g_1] at hf
    refine lv_tableIn (off := 55) (tgt := 56) hx hb dX1_tell_1 (by rw [g_1]; decide) (by rw [g_1]; decide) (by rw [g_1]; rfl) (by decide) ?_
    refine lv_aload_n hx hb dX1_tell_56 rfl (lv_at hl 0 rfl) ?_
    refine s_get hx hb (lay_1 hts) hown hK hM (c_2 h0) rfl 0 (by decide) rfl rfl (tk_168 hts) dX1_tell_57 ?_
    refine s_getN hx hb (lay_0 hts) hown hK hM (c_1 (ky_2_0 hG h0)) rfl 0 (by decide) rfl rfl (tk_63 hts) dX1_tell_60 ?_
    exact ef_ip hx hb hr hlocks hM hS hf dX1_tell_63
  rw [if_neg g_1] at hf
  by_cases g_2 : p1 = 1
  · rw [if_pos g_2] at hf
    refine lv_tableIn (off := 63) (tgt := 64) hx hb dX1_tell_1 (by rw [g_2]; decide) (by rw [g_2]; decide) (by rw [g_2]; rfl) (by decide) ?_
    refine lv_aload_n hx hb dX1_tell_64 rfl (lv_at hl 0 rfl) ?_
    refine s_get hx hb (lay_1 hts) hown hK hM (c_2 h0) rfl 0 (by decide) rfl rfl (tk_168 hts) dX1_tell_65 ?_
    refine s_getN hx hb (lay_0 hts) hown hK hM (c_1 (ky_2_0 hG h0)) rfl 1 (by decide) rfl rfl (tk_68 hts) dX1_tell_68 ?_
    exact ef_ip hx hb hr hlocks hM hS hf dX1_tell_71
  rw [if_neg g_2] at hf
  by_cases g_3 : p1 = 2
  · rw [if_pos g_3] at hf
    refine lv_tableIn (off := 71) (tgt := 72) hx hb dX1_tell_1 (by rw [g_3]; decide) (by rw [g_3]; decide) (by rw [g_3]; rfl) (by decide) ?_
    refine lv_aload_n hx hb dX1_tell_72 rfl (lv_at hl 0 rfl) ?_
    refine s_get hx hb (lay_1 hts) hown hK hM (c_2 h0) rfl 0 (by decide) rfl rfl (tk_168 hts) dX1_tell_73 ?_
    obtain ⟨r5, e_4, hf⟩ := vb_e hf
    refine c_Vi hx hb hml hown hts hV hK hM hS (As := []) (rest := []) (k_X0_step G hG l (a0 + 1) (ky_2_0 hG h0) M e_4) w_X0_step (tk_454 hts) (c_1 (ky_2_0 hG h0)) rfl rfl ⟨⟨rfl, rfl⟩, Nat.le_of_ble_eq_true rfl, Nat.le_of_ble_eq_true rfl⟩ ⟨Nat.zero_le _, Nat.zero_le _⟩ rfl hl.1 rfl (Nat.le_of_ble_eq_true rfl) dX1_tell_76 (fun H locs hM hS => ?_)
    exact ef_ip hx hb hr hlocks hM hS hf dX1_tell_79
  rw [if_neg g_3] at hf
  by_cases g_6 : p1 = 3
  · rw [if_pos g_6] at hf
    refine lv_tableIn (off := 79) (tgt := 80) hx hb dX1_tell_1 (by rw [g_6]; decide) (by rw [g_6]; decide) (by rw [g_6]; rfl) (by decide) ?_
    refine lv_aload_n hx hb dX1_tell_80 rfl (lv_at hl 0 rfl) ?_
    refine s_get hx hb (lay_1 hts) hown hK hM (c_2 h0) rfl 1 (by decide) rfl rfl (tk_170 hts) dX1_tell_81 ?_
    exact ef_ip hx hb hr hlocks hM hS hf dX1_tell_84
  rw [if_neg g_6] at hf
  by_cases g_7 : p1 = 4
  · rw [if_pos g_7] at hf
    refine lv_tableIn (off := 84) (tgt := 85) hx hb dX1_tell_1 (by rw [g_7]; decide) (by rw [g_7]; decide) (by rw [g_7]; rfl) (by decide) ?_
    refine lv_aload_n hx hb dX1_tell_85 rfl (lv_at hl 0 rfl) ?_
    refine s_get hx hb (lay_1 hts) hown hK hM (c_2 h0) rfl 2 (by decide) rfl rfl (tk_172 hts) dX1_tell_86 ?_
    exact ef_ip hx hb hr hlocks hM hS hf dX1_tell_89
  rw [if_neg g_7] at hf
  by_cases g_8 : p1 = 5
  · rw [if_pos g_8] at hf
    refine lv_tableIn (off := 89) (tgt := 90) hx hb dX1_tell_1 (by rw [g_8]; decide) (by rw [g_8]; decide) (by rw [g_8]; rfl) (by decide) ?_
    refine lv_aload_n hx hb dX1_tell_90 rfl (lv_at hl 0 rfl) ?_
    refine s_get hx hb (lay_1 hts) hown hK hM (c_2 h0) rfl 3 (by decide) rfl rfl (tk_173 hts) dX1_tell_91 ?_
    exact ef_ip hx hb hr hlocks hM hS hf dX1_tell_94
  rw [if_neg g_8] at hf
  by_cases g_9 : p1 = 6
  · rw [if_pos g_9] at hf
    refine lv_tableIn (off := 94) (tgt := 95) hx hb dX1_tell_1 (by rw [g_9]; decide) (by rw [g_9]; decide) (by rw [g_9]; rfl) (by decide) ?_
    refine lv_aload_n hx hb dX1_tell_95 rfl (lv_at hl 0 rfl) ?_
    refine s_get hx hb (lay_1 hts) hown hK hM (c_2 h0) rfl 4 (by decide) rfl rfl (tk_175 hts) dX1_tell_96 ?_
    exact ef_ip hx hb hr hlocks hM hS hf dX1_tell_99
  rw [if_neg g_9] at hf
  by_cases g_10 : p1 = 7
  · rw [if_pos g_10] at hf
    refine lv_tableIn (off := 99) (tgt := 100) hx hb dX1_tell_1 (by rw [g_10]; decide) (by rw [g_10]; decide) (by rw [g_10]; rfl) (by decide) ?_
    refine lv_aload_n hx hb dX1_tell_100 rfl (lv_at hl 0 rfl) ?_
    refine s_get hx hb (lay_1 hts) hown hK hM (c_2 h0) rfl 5 (by decide) rfl rfl (tk_177 hts) dX1_tell_101 ?_
    exact ef_ip hx hb hr hlocks hM hS hf dX1_tell_104
  rw [if_neg g_10] at hf
  by_cases g_11 : p1 = 8
  · rw [if_pos g_11] at hf
    refine lv_tableIn (off := 104) (tgt := 105) hx hb dX1_tell_1 (by rw [g_11]; decide) (by rw [g_11]; decide) (by rw [g_11]; rfl) (by decide) ?_
    refine lv_aload_n hx hb dX1_tell_105 rfl (lv_at hl 0 rfl) ?_
    refine s_get hx hb (lay_1 hts) hown hK hM (c_2 h0) rfl 6 (by decide) rfl rfl (tk_179 hts) dX1_tell_106 ?_
    exact ef_ip hx hb hr hlocks hM hS hf dX1_tell_109
  rw [if_neg g_11] at hf
  by_cases g_12 : p1 = 9
  · rw [if_pos g_12] at hf
    refine lv_tableIn (off := 109) (tgt := 110) hx hb dX1_tell_1 (by rw [g_12]; decide) (by rw [g_12]; decide) (by rw [g_12]; rfl) (by decide) ?_
    refine lv_aload_n hx hb dX1_tell_110 rfl (lv_at hl 0 rfl) ?_
    refine s_get hx hb (lay_1 hts) hown hK hM (c_2 h0) rfl 7 (by decide) rfl rfl (tk_181 hts) dX1_tell_111 ?_
    exact ef_ip hx hb hr hlocks hM hS hf dX1_tell_114
  rw [if_neg g_12] at hf
  have tg_1 := lv_neT g_1 (show (0 : Int32).toInt = 0 from by decide)
  have tg_2 := lv_neT g_2 (show (1 : Int32).toInt = 1 from by decide)
  have tg_3 := lv_neT g_3 (show (2 : Int32).toInt = 2 from by decide)
  have tg_6 := lv_neT g_6 (show (3 : Int32).toInt = 3 from by decide)
  have tg_7 := lv_neT g_7 (show (4 : Int32).toInt = 4 from by decide)
  have tg_8 := lv_neT g_8 (show (5 : Int32).toInt = 5 from by decide)
  have tg_9 := lv_neT g_9 (show (6 : Int32).toInt = 6 from by decide)
  have tg_10 := lv_neT g_10 (show (7 : Int32).toInt = 7 from by decide)
  have tg_11 := lv_neT g_11 (show (8 : Int32).toInt = 8 from by decide)
  have tg_12 := lv_neT g_12 (show (9 : Int32).toInt = 9 from by decide)
  refine lv_tableOut (tgt := 115) hx hb dX1_tell_1 (by omega) (by decide) ?_
  refine lv_aload_n hx hb dX1_tell_115 rfl (lv_at hl 0 rfl) ?_
  refine s_get hx hb (lay_1 hts) hown hK hM (c_2 h0) rfl 8 (by decide) rfl rfl (tk_182 hts) dX1_tell_116 ?_
  exact ef_ip hx hb hr hlocks hM hS hf dX1_tell_119
def f_X2_copyFrom (a0 : Nat) (a1 : Nat) (M : Mem) : Option Mem := gd ((¬ (0 : Int32) < 0 ∧ ¬ (0 : Int32) < 0 ∧ ¬ (8 : Int32) < 0) ∧ (0 : Int32).toNatClampNeg + (8 : Int32).toNatClampNeg ≤ 8 ∧ (0 : Int32).toNatClampNeg + (8 : Int32).toNatClampNeg ≤ 8) <| nb (cpI M (a1 + 1) (a0 + 1) (0 : Int32).toNatClampNeg (0 : Int32).toNatClampNeg (8 : Int32).toNatClampNeg) fun M2 => gd ((¬ (0 : Int32) < 0 ∧ ¬ (0 : Int32) < 0 ∧ ¬ (8 : Int32) < 0) ∧ (0 : Int32).toNatClampNeg + (8 : Int32).toNatClampNeg ≤ 8 ∧ (0 : Int32).toNatClampNeg + (8 : Int32).toNatClampNeg ≤ 8) <| nb (cpI M2 (a1 + 2) (a0 + 2) (0 : Int32).toNatClampNeg (0 : Int32).toNatClampNeg (8 : Int32).toNatClampNeg) fun M4 => nb (sI M4 a0 2 (mI M4 a1 2)) fun M5 => nb (sI M5 a0 3 (mI M5 a1 3)) fun M6 => gd ((mI M6 a1 4) = 0 ∨ (mI M6 a1 4) = 1) <| nb (sI M6 a0 4 (mI M6 a1 4)) fun M8 => vb (f_X0_copyFrom (a0 + 3) (a1 + 3) M8) fun M10 => some M10
set_option maxHeartbeats 4000000 in
set_option maxRecDepth 100000 in
theorem k_X2_copyFrom (G : Gt) (hG : gOK G) (l : Launch) (a0 : Nat) (h0 : gK G a0 = 3) (a1 : Nat) (h1 : gK G a1 = 3) (M : Mem) {M' : Mem} (hf : f_X2_copyFrom a0 a1 M = some M') : Kc G l yX2_copyFrom cX2_copyFrom 2 none ({ frames := 1, cells := 0, slots := 0, locals := 26 } : Room) [.ref a0, .ref a1] M none M' := by
  refine start (by decide) (Nat.le_of_ble_eq_true rfl) ?_
  intro p e s m args below meth c ls hx hb hr hown hml hlocks hts hV hM hl
  have hown : s.vm.findClass "FoldedVoices$Packet" = some m.cls := hown
  have hK := hG.1.moved hV
  have hS : va_S (gA G) s.heap s.heap [] := va_S.rf
  have hl : lv_has ls 2 [(0, .ref a0), (1, .ref a1)] := hl
  have hM0 := hM
  rw [f_X2_copyFrom] at hf
  refine lv_aload_n hx hb dX2_copyFrom_0 rfl (lv_at hl 1 rfl) ?_
  refine s_get hx hb (lay_2 hts) hown hK hM (c_3 h1) rfl 0 (by decide) rfl rfl (tk_84 hts) dX2_copyFrom_1 ?_
  refine lv_iconst (v := 0) hx hb dX2_copyFrom_4 (by decide) ?_
  refine lv_aload_n hx hb dX2_copyFrom_5 rfl (lv_at hl 0 rfl) ?_
  refine s_get hx hb (lay_2 hts) hown hK hM (c_3 h0) rfl 0 (by decide) rfl rfl (tk_84 hts) dX2_copyFrom_6 ?_
  refine lv_iconst (v := 0) hx hb dX2_copyFrom_9 (by decide) ?_
  refine lv_bipush (v := 8) hx hb dX2_copyFrom_10 (by decide) ?_
  obtain ⟨h_1, hf⟩ := gd_e hf
  obtain ⟨M2, eM2, hf⟩ := nb_e hf
  refine s_copy 8 8 hx hb (hml.trans hl.1.symm) hown (tk_699 hts) (tk_701 hts) (tk_700 hts) (tk_17 hts) hK hM hS (ky_3_0 hG h1) (by decide) (ky_3_0 hG h0) (by decide) (ky_b hG (ky_3_0 hG h0)) h_1 (Nat.le_of_ble_eq_true rfl) (Nat.le_of_ble_eq_true rfl) dX2_copyFrom_12 (fun H locs hM hS => ?_)
  rw [eM2] at hM
  refine lv_aload_n hx hb dX2_copyFrom_15 rfl (lv_at hl 1 rfl) ?_
  refine s_get hx hb (lay_2 hts) hown hK hM (c_3 h1) rfl 1 (by decide) rfl rfl (tk_85 hts) dX2_copyFrom_16 ?_
  refine lv_iconst (v := 0) hx hb dX2_copyFrom_19 (by decide) ?_
  refine lv_aload_n hx hb dX2_copyFrom_20 rfl (lv_at hl 0 rfl) ?_
  refine s_get hx hb (lay_2 hts) hown hK hM (c_3 h0) rfl 1 (by decide) rfl rfl (tk_85 hts) dX2_copyFrom_21 ?_
  refine lv_iconst (v := 0) hx hb dX2_copyFrom_24 (by decide) ?_
  refine lv_bipush (v := 8) hx hb dX2_copyFrom_25 (by decide) ?_
  obtain ⟨h_3, hf⟩ := gd_e hf
  obtain ⟨M4, eM4, hf⟩ := nb_e hf
  refine s_copy 8 8 hx hb (hml.trans hl.1.symm) hown (tk_699 hts) (tk_701 hts) (tk_700 hts) (tk_17 hts) hK hM hS (ky_3_1 hG h1) (by decide) (ky_3_1 hG h0) (by decide) (ky_b hG (ky_3_1 hG h0)) h_3 (Nat.le_of_ble_eq_true rfl) (Nat.le_of_ble_eq_true rfl) dX2_copyFrom_27 (fun H locs hM hS => ?_)
  rw [eM4] at hM
  refine lv_aload_n hx hb dX2_copyFrom_30 rfl (lv_at hl 0 rfl) ?_
  refine lv_aload_n hx hb dX2_copyFrom_31 rfl (lv_at hl 1 rfl) ?_
  refine s_get hx hb (lay_2 hts) hown hK hM (c_3 h1) rfl 2 (by decide) rfl rfl (tk_86 hts) dX2_copyFrom_32 ?_
  obtain ⟨M5, eM5, hf⟩ := nb_e hf
  refine s_put tyX2 hx hb (lay_2 hts) tyX2_ok nmX2 hown hK hM hS (ky_b hG h0) (c_3 h0) rfl 2 (by decide) rfl rfl rfl (Nat.le_of_ble_eq_true rfl) (cp_2_2 h0) (fun _ h9 => cel_sI _ h9) hM.2.2.sI rfl (tk_86 hts) dX2_copyFrom_35 (fun H locs hM hS => ?_)
  rw [eM5] at hM
  refine lv_aload_n hx hb dX2_copyFrom_38 rfl (lv_at hl 0 rfl) ?_
  refine lv_aload_n hx hb dX2_copyFrom_39 rfl (lv_at hl 1 rfl) ?_
  refine s_get hx hb (lay_2 hts) hown hK hM (c_3 h1) rfl 3 (by decide) rfl rfl (tk_92 hts) dX2_copyFrom_40 ?_
  obtain ⟨M6, eM6, hf⟩ := nb_e hf
  refine s_put tyX2 hx hb (lay_2 hts) tyX2_ok nmX2 hown hK hM hS (ky_b hG h0) (c_3 h0) rfl 3 (by decide) rfl rfl rfl (Nat.le_of_ble_eq_true rfl) (cp_2_3 h0) (fun _ h9 => cel_sI _ h9) hM.2.2.sI rfl (tk_92 hts) dX2_copyFrom_43 (fun H locs hM hS => ?_)
  rw [eM6] at hM
  refine lv_aload_n hx hb dX2_copyFrom_46 rfl (lv_at hl 0 rfl) ?_
  refine lv_aload_n hx hb dX2_copyFrom_47 rfl (lv_at hl 1 rfl) ?_
  refine s_get hx hb (lay_2 hts) hown hK hM (c_3 h1) rfl 4 (by decide) rfl rfl (tk_96 hts) dX2_copyFrom_48 ?_
  obtain ⟨h_7, hf⟩ := gd_e hf
  obtain ⟨M8, eM8, hf⟩ := nb_e hf
  refine s_put tyX2 hx hb (lay_2 hts) tyX2_ok nmX2 hown hK hM hS (ky_b hG h0) (c_3 h0) rfl 4 (by decide) rfl (nz_n h_7) (nz_f h_7) (Nat.le_of_ble_eq_true rfl) (cp_2_4 h0) (fun _ h9 => cel_sI _ h9) hM.2.2.sI rfl (tk_96 hts) dX2_copyFrom_51 (fun H locs hM hS => ?_)
  rw [eM8] at hM
  refine lv_aload_n hx hb dX2_copyFrom_54 rfl (lv_at hl 0 rfl) ?_
  refine s_get hx hb (lay_2 hts) hown hK hM (c_3 h0) rfl 5 (by decide) rfl rfl (tk_99 hts) dX2_copyFrom_55 ?_
  refine lv_aload_n hx hb dX2_copyFrom_58 rfl (lv_at hl 1 rfl) ?_
  refine s_get hx hb (lay_2 hts) hown hK hM (c_3 h1) rfl 5 (by decide) rfl rfl (tk_99 hts) dX2_copyFrom_59 ?_
  obtain ⟨M10, e_9, hf⟩ := vb_e hf
  refine c_Vv hx hb hml hown hts hV hK hM hS (As := [.ref (a1 + 3)]) (rest := []) (k_X0_copyFrom G hG l (a0 + 3) (ky_3_5 hG h0) (a1 + 3) (ky_3_5 hG h1) M8 e_9) w_X0_copyFrom (tk_702 hts) (c_1 (ky_3_5 hG h0)) rfl rfl ⟨⟨rfl, rfl⟩, Nat.le_of_ble_eq_true rfl, Nat.le_of_ble_eq_true rfl⟩ ⟨Nat.zero_le _, Nat.zero_le _⟩ rfl hl.1 rfl (Nat.le_of_ble_eq_true rfl) dX2_copyFrom_62 (fun H locs hM hS => ?_)
  exact ef_v hx hb hr hlocks hM hS hf dX2_copyFrom_65
def f_X2_add (a0 : Nat) (p1 : Int32) (p2 : Int32) (M : Mem) : Option Mem := if (mI M a0 2) < 0 then (some M) else (if (8 : Int32) ≤ (mI M a0 2) then (some M) else (gd (ix (mI M a0 2) 8) <| nb (sI M (a0 + 1) (mI M a0 2).toNatClampNeg p1) fun M4 => gd (ix (mI M4 a0 2) 8) <| nb (sI M4 (a0 + 2) (mI M4 a0 2).toNatClampNeg p2) fun M6 => nb (sI M6 a0 2 ((mI M6 a0 2) + 1)) fun M7 => some M7))
set_option maxHeartbeats 4000000 in
set_option maxRecDepth 100000 in
theorem k_X2_add (G : Gt) (hG : gOK G) (l : Launch) (a0 : Nat) (h0 : gK G a0 = 3) (p1 : Int32) (p2 : Int32) (M : Mem) {M' : Mem} (hf : f_X2_add a0 p1 p2 M = some M') : Kc G l yX2_add cX2_add 3 none ({ frames := 0, cells := 0, slots := 0, locals := 0 } : Room) [.ref a0, .int p1, .int p2] M none M' := by
  refine start (by decide) (Nat.le_of_ble_eq_true rfl) ?_
  intro p e s m args below meth c ls hx hb hr hown hml hlocks hts hV hM hl
  have hown : s.vm.findClass "FoldedVoices$Packet" = some m.cls := hown
  have hK := hG.1.moved hV
  have hS : va_S (gA G) s.heap s.heap [] := va_S.rf
  have hl : lv_has ls 3 [(0, .ref a0), (1, .int p1), (2, .int p2)] := hl
  have hM0 := hM
  rw [f_X2_add] at hf
  refine lv_aload_n hx hb dX2_add_0 rfl (lv_at hl 0 rfl) ?_
  refine s_get hx hb (lay_2 hts) hown hK hM (c_3 h0) rfl 2 (by decide) rfl rfl (tk_86 hts) dX2_add_1 ?_
  refine lv_if_lt (tgt := 46) hx hb dX2_add_4 (by decide) (fun g_1 => ?_) (fun g_1 => ?_)
  · rw [if_pos g_1] at hf
    exact ef_v hx hb hr hlocks hM hS hf dX2_add_46
  · rw [if_neg g_1] at hf
    refine lv_aload_n hx hb dX2_add_7 rfl (lv_at hl 0 rfl) ?_
    refine s_get hx hb (lay_2 hts) hown hK hM (c_3 h0) rfl 2 (by decide) rfl rfl (tk_86 hts) dX2_add_8 ?_
    refine lv_bipush (v := 8) hx hb dX2_add_11 (by decide) ?_
    refine lv_icmp_ge (tgt := 46) hx hb dX2_add_13 (by decide) (fun g_2 => ?_) (fun g_2 => ?_)
    · rw [if_pos g_2] at hf
      exact ef_v hx hb hr hlocks hM hS hf dX2_add_46
    · rw [if_neg g_2] at hf
      refine lv_aload_n hx hb dX2_add_16 rfl (lv_at hl 0 rfl) ?_
      refine s_get hx hb (lay_2 hts) hown hK hM (c_3 h0) rfl 0 (by decide) rfl rfl (tk_84 hts) dX2_add_17 ?_
      refine lv_aload_n hx hb dX2_add_20 rfl (lv_at hl 0 rfl) ?_
      refine s_get hx hb (lay_2 hts) hown hK hM (c_3 h0) rfl 2 (by decide) rfl rfl (tk_86 hts) dX2_add_21 ?_
      refine lv_iload_n hx hb dX2_add_24 rfl (lv_at hl 1 rfl) ?_
      obtain ⟨h_3, hf⟩ := gd_e hf
      obtain ⟨M4, eM4, hf⟩ := nb_e hf
      refine s_iast 8 hx hb hK hM hS (ky_3_0 hG h0) (by decide) (ky_b hG (ky_3_0 hG h0)) h_3 dX2_add_25 (fun H locs hM hS => ?_)
      rw [eM4] at hM
      refine lv_aload_n hx hb dX2_add_26 rfl (lv_at hl 0 rfl) ?_
      refine s_get hx hb (lay_2 hts) hown hK hM (c_3 h0) rfl 1 (by decide) rfl rfl (tk_85 hts) dX2_add_27 ?_
      refine lv_aload_n hx hb dX2_add_30 rfl (lv_at hl 0 rfl) ?_
      refine s_get hx hb (lay_2 hts) hown hK hM (c_3 h0) rfl 2 (by decide) rfl rfl (tk_86 hts) dX2_add_31 ?_
      refine lv_iload_n hx hb dX2_add_34 rfl (lv_at hl 2 rfl) ?_
      obtain ⟨h_5, hf⟩ := gd_e hf
      obtain ⟨M6, eM6, hf⟩ := nb_e hf
      refine s_iast 8 hx hb hK hM hS (ky_3_1 hG h0) (by decide) (ky_b hG (ky_3_1 hG h0)) h_5 dX2_add_35 (fun H locs hM hS => ?_)
      rw [eM6] at hM
      refine lv_aload_n hx hb dX2_add_36 rfl (lv_at hl 0 rfl) ?_
      refine lv_dup hx hb dX2_add_37 rfl ?_
      refine s_get hx hb (lay_2 hts) hown hK hM (c_3 h0) rfl 2 (by decide) rfl rfl (tk_86 hts) dX2_add_38 ?_
      refine lv_iconst (v := 1) hx hb dX2_add_41 (by decide) ?_
      refine lv_iadd hx hb dX2_add_42 ?_
      obtain ⟨M7, eM7, hf⟩ := nb_e hf
      refine s_put tyX2 hx hb (lay_2 hts) tyX2_ok nmX2 hown hK hM hS (ky_b hG h0) (c_3 h0) rfl 2 (by decide) rfl rfl rfl (Nat.le_of_ble_eq_true rfl) (cp_2_2 h0) (fun _ h9 => cel_sI _ h9) hM.2.2.sI rfl (tk_86 hts) dX2_add_43 (fun H locs hM hS => ?_)
      rw [eM7] at hM
      exact ef_v hx hb hr hlocks hM hS hf dX2_add_46
def f_X2_codesAsOne_b4 (a0 : Nat) : Nat → Int32 → Int32 → Mem → Option Int32
  | 0, _, _, _ => none
  | n + 1, x1, x2, M => if (mI M a0 2) ≤ x2 then (some x1) else (vb (f_X2_codeAt a0 x2 M) fun r3 => nb (((16 : Int32) * x1) + r3) fun y4 => nb (x2 + 1) fun y5 => f_X2_codesAsOne_b4 a0 n y4 y5 M)
def f_X2_codesAsOne (a0 : Nat) (M : Mem) : Option Int32 := f_X2_codesAsOne_b4 a0 lfuel 0 0 M
set_option maxHeartbeats 4000000 in
set_option maxRecDepth 100000 in
theorem k_X2_codesAsOne (G : Gt) (hG : gOK G) (l : Launch) (a0 : Nat) (h0 : gK G a0 = 3) (M : Mem) {r : Int32} (hf : f_X2_codesAsOne a0 M = some r) : Kc G l yX2_codesAsOne cX2_codesAsOne 3 (some .int) ({ frames := 1, cells := 0, slots := 0, locals := 21 } : Room) [.ref a0] M (some (.int r)) M := by
  refine start (by decide) (Nat.le_of_ble_eq_true rfl) ?_
  intro p e s m args below meth c ls hx hb hr hown hml hlocks hts hV hM hl
  have hown : s.vm.findClass "FoldedVoices$Packet" = some m.cls := hown
  have hK := hG.1.moved hV
  have hS : va_S (gA G) s.heap s.heap [] := va_S.rf
  have hl : lv_has ls 3 [(0, .ref a0)] := hl
  have hM0 := hM
  have b4 : ∀ (n : Nat), ∀ (x1 : Int32) (x2 : Int32) (M : Mem) (H : Heap) (locs : List Loc) (ls : Array Slot), Mh G M H → va_S (gA G) s.heap H locs → lv_has ls 3 [(0, .ref a0), (1, .int x1), (2, .int x2)] → f_X2_codesAsOne_b4 a0 n x1 x2 M = some r → W p l e ({ frames := 1, cells := 0, slots := 0, locals := 21 } : Room) s m args below meth c H locs 0 0 (MQ below (QV G (some (.int r)) M) args s 0 0 (gA G)) (F0 m 4 ls []) := by
    intro n
    induction n with
    | zero =>
      intro x1 x2 M H locs ls hM hS hl hf
      rw [f_X2_codesAsOne_b4] at hf
      cases hf
    | succ n ih =>
      intro x1 x2 M H locs ls hM hS hl hf
      rw [f_X2_codesAsOne_b4] at hf
      refine lv_iload_n hx hb dX2_codesAsOne_4 rfl (lv_at hl 2 rfl) ?_
      refine lv_aload_n hx hb dX2_codesAsOne_5 rfl (lv_at hl 0 rfl) ?_
      refine s_get hx hb (lay_2 hts) hown hK hM (c_3 h0) rfl 2 (by decide) rfl rfl (tk_86 hts) dX2_codesAsOne_6 ?_
      refine lv_icmp_ge (tgt := 29) hx hb dX2_codesAsOne_9 (by decide) (fun g_1 => ?_) (fun g_1 => ?_)
      · rw [if_pos g_1] at hf
        refine lv_iload_n hx hb dX2_codesAsOne_29 rfl (lv_at hl 1 rfl) ?_
        exact ef_ip hx hb hr hlocks hM hS hf dX2_codesAsOne_30
      · rw [if_neg g_1] at hf
        refine lv_bipush (v := 16) hx hb dX2_codesAsOne_12 (by decide) ?_
        refine lv_iload_n hx hb dX2_codesAsOne_14 rfl (lv_at hl 1 rfl) ?_
        refine lv_imul hx hb dX2_codesAsOne_15 ?_
        refine lv_aload_n hx hb dX2_codesAsOne_16 rfl (lv_at hl 0 rfl) ?_
        refine lv_iload_n hx hb dX2_codesAsOne_17 rfl (lv_at hl 2 rfl) ?_
        obtain ⟨r3, e_2, hf⟩ := vb_e hf
        refine c_Vi hx hb hml hown hts hV hK hM hS (As := [.int x2]) (rest := [.int ((16 : Int32) * x1)]) (k_X2_codeAt G hG l a0 h0 x2 M e_2) w_X2_codeAt (tk_473 hts) (c_3 h0) rfl rfl ⟨⟨rfl, rfl⟩, Nat.le_of_ble_eq_true rfl, Nat.le_of_ble_eq_true rfl⟩ ⟨Nat.zero_le _, Nat.zero_le _⟩ rfl hl.1 rfl (Nat.le_of_ble_eq_true rfl) dX2_codesAsOne_18 (fun H locs hM hS => ?_)
        refine lv_iadd hx hb dX2_codesAsOne_21 ?_
        obtain ⟨y4, ey4, hf⟩ := nb_e hf
        refine s_nm ey4 ?_
        refine lv_istore_n (lv' := [(1, .int y4), (0, .ref a0), (2, .int x2)]) hx hb dX2_codesAsOne_22 rfl hl (by decide) rfl (fun ls hl => ?_)
        obtain ⟨y5, ey5, hf⟩ := nb_e hf
        refine lv_iinc (v := y5) (lv' := [(2, .int y5), (1, .int y4), (0, .ref a0)]) hx hb dX2_codesAsOne_23 hl (k := 2) rfl (by rw [← ey5]; rfl) (by decide) rfl (fun ls hl => ?_)
        refine lv_goto (tgt := 4) hx hb dX2_codesAsOne_26 (by decide) ?_
        exact ih y4 y5 _ H locs ls hM hS (lv_sub hl [2, 1, 0] rfl) hf
  rw [f_X2_codesAsOne] at hf
  obtain ⟨H, hHe⟩ : ∃ H, H = s.heap := ⟨_, rfl⟩
  obtain ⟨locs, hLe⟩ : ∃ L : List Loc, L = [] := ⟨_, rfl⟩
  rw [← hHe] at hM
  have hS : va_S (gA G) s.heap H locs := by rw [hHe, hLe]; exact va_S.rf
  suffices hW : W p l e ({ frames := 1, cells := 0, slots := 0, locals := 21 } : Room) s m args below meth c H locs 0 0 (MQ below (QV G (some (.int r)) M) args s 0 0 (gA G)) (F0 m 0 ls []) by rw [hHe, hLe] at hW; exact hW
  refine lv_iconst (v := 0) hx hb dX2_codesAsOne_0 (by decide) ?_
  refine lv_istore_n (lv' := [(1, .int 0), (0, .ref a0)]) hx hb dX2_codesAsOne_1 rfl hl (by decide) rfl (fun ls hl => ?_)
  refine lv_iconst (v := 0) hx hb dX2_codesAsOne_2 (by decide) ?_
  refine lv_istore_n (lv' := [(2, .int 0), (1, .int 0), (0, .ref a0)]) hx hb dX2_codesAsOne_3 rfl hl (by decide) rfl (fun ls hl => ?_)
  exact b4 _ 0 0 _ H locs ls hM hS (lv_sub hl [2, 1, 0] rfl) hf
def f_X2_tell (a0 : Nat) (p1 : Int32) (M : Mem) : Option Int32 := if p1 = 0 then (some (mI M a0 3)) else (if p1 = 1 then (some (mI M a0 2)) else (if p1 = 2 then (if (mI M a0 4) = 0 then (some 0) else (some 1)) else (if p1 = 3 then (if (mI M a0 4) = 0 then (some (-10000)) else (some (mI M (a0 + 3) 0))) else (if p1 = 4 then (if (mI M a0 4) = 0 then (some (-10000)) else (some (mI M (a0 + 3) 1))) else (vb (f_X2_codesAsOne a0 M) fun r10 => some r10)))))
set_option maxHeartbeats 4000000 in
set_option maxRecDepth 100000 in
theorem k_X2_tell (G : Gt) (hG : gOK G) (l : Launch) (a0 : Nat) (h0 : gK G a0 = 3) (p1 : Int32) (M : Mem) {r : Int32} (hf : f_X2_tell a0 p1 M = some r) : Kc G l yX2_tell cX2_tell 2 (some .int) ({ frames := 2, cells := 0, slots := 0, locals := 43 } : Room) [.ref a0, .int p1] M (some (.int r)) M := by
  refine start (by decide) (Nat.le_of_ble_eq_true rfl) ?_
  intro p e s m args below meth c ls hx hb hr hown hml hlocks hts hV hM hl
  have hown : s.vm.findClass "FoldedVoices$Packet" = some m.cls := hown
  have hK := hG.1.moved hV
  have hS : va_S (gA G) s.heap s.heap [] := va_S.rf
  have hl : lv_has ls 2 [(0, .ref a0), (1, .int p1)] := hl
  have hM0 := hM
  rw [f_X2_tell] at hf
  refine lv_iload_n hx hb dX2_tell_0 rfl (lv_at hl 1 rfl) ?_
  by_cases g_1 : p1 = 0
  · rw [if_pos g_1] at hf
    refine lv_tableIn (off := 35) (tgt := 36) hx hb dX2_tell_1 (by rw [g_1]; decide) (by rw [g_1]; decide) (by rw [g_1]; rfl) (by decide) ?_
    refine lv_aload_n hx hb dX2_tell_36 rfl (lv_at hl 0 rfl) ?_
    refine s_get hx hb (lay_2 hts) hown hK hM (c_3 h0) rfl 3 (by decide) rfl rfl (tk_92 hts) dX2_tell_37 ?_
    exact ef_ip hx hb hr hlocks hM hS hf dX2_tell_40
  rw [if_neg g_1] at hf
  by_cases g_2 : p1 = 1
  · rw [if_pos g_2] at hf
    refine lv_tableIn (off := 40) (tgt := 41) hx hb dX2_tell_1 (by rw [g_2]; decide) (by rw [g_2]; decide) (by rw [g_2]; rfl) (by decide) ?_
    refine lv_aload_n hx hb dX2_tell_41 rfl (lv_at hl 0 rfl) ?_
    refine s_get hx hb (lay_2 hts) hown hK hM (c_3 h0) rfl 2 (by decide) rfl rfl (tk_86 hts) dX2_tell_42 ?_
    exact ef_ip hx hb hr hlocks hM hS hf dX2_tell_45
  rw [if_neg g_2] at hf
  by_cases g_3 : p1 = 2
  · rw [if_pos g_3] at hf
    refine lv_tableIn (off := 45) (tgt := 46) hx hb dX2_tell_1 (by rw [g_3]; decide) (by rw [g_3]; decide) (by rw [g_3]; rfl) (by decide) ?_
    refine lv_aload_n hx hb dX2_tell_46 rfl (lv_at hl 0 rfl) ?_
    refine s_get hx hb (lay_2 hts) hown hK hM (c_3 h0) rfl 4 (by decide) rfl rfl (tk_96 hts) dX2_tell_47 ?_
    refine lv_if_eq (tgt := 57) hx hb dX2_tell_50 (by decide) (fun g_4 => ?_) (fun g_4 => ?_)
    · rw [if_pos g_4] at hf
      refine lv_iconst (v := 0) hx hb dX2_tell_57 (by decide) ?_
      exact ef_ip hx hb hr hlocks hM hS hf dX2_tell_58
    · rw [if_neg g_4] at hf
      refine lv_iconst (v := 1) hx hb dX2_tell_53 (by decide) ?_
      refine lv_goto (tgt := 58) hx hb dX2_tell_54 (by decide) ?_
      exact ef_ip hx hb hr hlocks hM hS hf dX2_tell_58
  rw [if_neg g_3] at hf
  by_cases g_5 : p1 = 3
  · rw [if_pos g_5] at hf
    refine lv_tableIn (off := 58) (tgt := 59) hx hb dX2_tell_1 (by rw [g_5]; decide) (by rw [g_5]; decide) (by rw [g_5]; rfl) (by decide) ?_
    refine lv_aload_n hx hb dX2_tell_59 rfl (lv_at hl 0 rfl) ?_
    refine s_get hx hb (lay_2 hts) hown hK hM (c_3 h0) rfl 4 (by decide) rfl rfl (tk_96 hts) dX2_tell_60 ?_
    refine lv_if_eq (tgt := 76) hx hb dX2_tell_63 (by decide) (fun g_6 => ?_) (fun g_6 => ?_)
    · rw [if_pos g_6] at hf
      refine lv_sipush (v := (-10000)) hx hb dX2_tell_76 (by decide) ?_
      exact ef_ip hx hb hr hlocks hM hS hf dX2_tell_79
    · rw [if_neg g_6] at hf
      refine lv_aload_n hx hb dX2_tell_66 rfl (lv_at hl 0 rfl) ?_
      refine s_get hx hb (lay_2 hts) hown hK hM (c_3 h0) rfl 5 (by decide) rfl rfl (tk_99 hts) dX2_tell_67 ?_
      refine s_getN hx hb (lay_0 hts) hown hK hM (c_1 (ky_3_5 hG h0)) rfl 0 (by decide) rfl rfl (tk_64 hts) dX2_tell_70 ?_
      refine lv_goto (tgt := 79) hx hb dX2_tell_73 (by decide) ?_
      exact ef_ip hx hb hr hlocks hM hS hf dX2_tell_79
  rw [if_neg g_5] at hf
  by_cases g_7 : p1 = 4
  · rw [if_pos g_7] at hf
    refine lv_tableIn (off := 79) (tgt := 80) hx hb dX2_tell_1 (by rw [g_7]; decide) (by rw [g_7]; decide) (by rw [g_7]; rfl) (by decide) ?_
    refine lv_aload_n hx hb dX2_tell_80 rfl (lv_at hl 0 rfl) ?_
    refine s_get hx hb (lay_2 hts) hown hK hM (c_3 h0) rfl 4 (by decide) rfl rfl (tk_96 hts) dX2_tell_81 ?_
    refine lv_if_eq (tgt := 97) hx hb dX2_tell_84 (by decide) (fun g_8 => ?_) (fun g_8 => ?_)
    · rw [if_pos g_8] at hf
      refine lv_sipush (v := (-10000)) hx hb dX2_tell_97 (by decide) ?_
      exact ef_ip hx hb hr hlocks hM hS hf dX2_tell_100
    · rw [if_neg g_8] at hf
      refine lv_aload_n hx hb dX2_tell_87 rfl (lv_at hl 0 rfl) ?_
      refine s_get hx hb (lay_2 hts) hown hK hM (c_3 h0) rfl 5 (by decide) rfl rfl (tk_99 hts) dX2_tell_88 ?_
      refine s_getN hx hb (lay_0 hts) hown hK hM (c_1 (ky_3_5 hG h0)) rfl 1 (by decide) rfl rfl (tk_69 hts) dX2_tell_91 ?_
      refine lv_goto (tgt := 100) hx hb dX2_tell_94 (by decide) ?_
      exact ef_ip hx hb hr hlocks hM hS hf dX2_tell_100
  rw [if_neg g_7] at hf
  have tg_1 := lv_neT g_1 (show (0 : Int32).toInt = 0 from by decide)
  have tg_2 := lv_neT g_2 (show (1 : Int32).toInt = 1 from by decide)
  have tg_3 := lv_neT g_3 (show (2 : Int32).toInt = 2 from by decide)
  have tg_5 := lv_neT g_5 (show (3 : Int32).toInt = 3 from by decide)
  have tg_7 := lv_neT g_7 (show (4 : Int32).toInt = 4 from by decide)
  refine lv_tableOut (tgt := 101) hx hb dX2_tell_1 (by omega) (by decide) ?_
  refine lv_aload_n hx hb dX2_tell_101 rfl (lv_at hl 0 rfl) ?_
  obtain ⟨r10, e_9, hf⟩ := vb_e hf
  refine c_Vi hx hb hml hown hts hV hK hM hS (As := []) (rest := []) (k_X2_codesAsOne G hG l a0 h0 M e_9) w_X2_codesAsOne (tk_469 hts) (c_3 h0) rfl rfl ⟨⟨rfl, rfl⟩, Nat.le_of_ble_eq_true rfl, Nat.le_of_ble_eq_true rfl⟩ ⟨Nat.zero_le _, Nat.zero_le _⟩ rfl hl.1 rfl (Nat.le_of_ble_eq_true rfl) dX2_tell_102 (fun H locs hM hS => ?_)
  exact ef_ip hx hb hr hlocks hM hS hf dX2_tell_105
def f_X3_copyFrom (a0 : Nat) (a1 : Nat) (M : Mem) : Option Mem := vb (f_X0_copyFrom (a0 + 1) (a1 + 1) M) fun M2 => nb (sI M2 a0 1 (mI M2 a1 1)) fun M3 => nb (sI M3 a0 2 (mI M3 a1 2)) fun M4 => nb (sI M4 a0 3 (mI M4 a1 3)) fun M5 => vb (f_X2_copyFrom (a0 + 2) (a1 + 2) M5) fun M7 => nb (sI M7 a0 5 (mI M7 a1 5)) fun M8 => nb (sI M8 a0 6 (mI M8 a1 6)) fun M9 => nb (sI M9 a0 7 (mI M9 a1 7)) fun M10 => vb (f_X0_copyFrom (a0 + 6) (a1 + 6) M10) fun M12 => gd ((¬ (0 : Int32) < 0 ∧ ¬ (0 : Int32) < 0 ∧ ¬ (72 : Int32) < 0) ∧ (0 : Int32).toNatClampNeg + (72 : Int32).toNatClampNeg ≤ 72 ∧ (0 : Int32).toNatClampNeg + (72 : Int32).toNatClampNeg ≤ 72) <| nb (cpI M12 (a1 + 7) (a0 + 7) (0 : Int32).toNatClampNeg (0 : Int32).toNatClampNeg (72 : Int32).toNatClampNeg) fun M14 => nb (sI M14 a0 10 (mI M14 a1 10)) fun M15 => some M15
set_option maxHeartbeats 4000000 in
set_option maxRecDepth 100000 in
theorem k_X3_copyFrom (G : Gt) (hG : gOK G) (l : Launch) (a0 : Nat) (h0 : gK G a0 = 4) (a1 : Nat) (h1 : gK G a1 = 4) (M : Mem) {M' : Mem} (hf : f_X3_copyFrom a0 a1 M = some M') : Kc G l yX3_copyFrom cX3_copyFrom 2 none ({ frames := 2, cells := 0, slots := 0, locals := 47 } : Room) [.ref a0, .ref a1] M none M' := by
  refine start (by decide) (Nat.le_of_ble_eq_true rfl) ?_
  intro p e s m args below meth c ls hx hb hr hown hml hlocks hts hV hM hl
  have hown : s.vm.findClass "FoldedVoices$SayingEnd" = some m.cls := hown
  have hK := hG.1.moved hV
  have hS : va_S (gA G) s.heap s.heap [] := va_S.rf
  have hl : lv_has ls 2 [(0, .ref a0), (1, .ref a1)] := hl
  have hM0 := hM
  rw [f_X3_copyFrom] at hf
  refine lv_aload_n hx hb dX3_copyFrom_0 rfl (lv_at hl 0 rfl) ?_
  refine s_get hx hb (lay_3 hts) hown hK hM (c_4 h0) rfl 0 (by decide) rfl rfl (tk_115 hts) dX3_copyFrom_1 ?_
  refine lv_aload_n hx hb dX3_copyFrom_4 rfl (lv_at hl 1 rfl) ?_
  refine s_get hx hb (lay_3 hts) hown hK hM (c_4 h1) rfl 0 (by decide) rfl rfl (tk_115 hts) dX3_copyFrom_5 ?_
  obtain ⟨M2, e_1, hf⟩ := vb_e hf
  refine c_Vv hx hb hml hown hts hV hK hM hS (As := [.ref (a1 + 1)]) (rest := []) (k_X0_copyFrom G hG l (a0 + 1) (ky_4_0 hG h0) (a1 + 1) (ky_4_0 hG h1) M e_1) w_X0_copyFrom (tk_411 hts) (c_1 (ky_4_0 hG h0)) rfl rfl ⟨⟨rfl, rfl⟩, Nat.le_of_ble_eq_true rfl, Nat.le_of_ble_eq_true rfl⟩ ⟨Nat.zero_le _, Nat.zero_le _⟩ rfl hl.1 rfl (Nat.le_of_ble_eq_true rfl) dX3_copyFrom_8 (fun H locs hM hS => ?_)
  refine lv_aload_n hx hb dX3_copyFrom_11 rfl (lv_at hl 0 rfl) ?_
  refine lv_aload_n hx hb dX3_copyFrom_12 rfl (lv_at hl 1 rfl) ?_
  refine s_get hx hb (lay_3 hts) hown hK hM (c_4 h1) rfl 1 (by decide) rfl rfl (tk_117 hts) dX3_copyFrom_13 ?_
  obtain ⟨M3, eM3, hf⟩ := nb_e hf
  refine s_put tyX3 hx hb (lay_3 hts) tyX3_ok nmX3 hown hK hM hS (ky_b hG h0) (c_4 h0) rfl 1 (by decide) rfl rfl rfl (Nat.le_of_ble_eq_true rfl) (cp_3_1 h0) (fun _ h9 => cel_sI _ h9) hM.2.2.sI rfl (tk_117 hts) dX3_copyFrom_16 (fun H locs hM hS => ?_)
  rw [eM3] at hM
  refine lv_aload_n hx hb dX3_copyFrom_19 rfl (lv_at hl 0 rfl) ?_
  refine lv_aload_n hx hb dX3_copyFrom_20 rfl (lv_at hl 1 rfl) ?_
  refine s_get hx hb (lay_3 hts) hown hK hM (c_4 h1) rfl 2 (by decide) rfl rfl (tk_119 hts) dX3_copyFrom_21 ?_
  obtain ⟨M4, eM4, hf⟩ := nb_e hf
  refine s_put tyX3 hx hb (lay_3 hts) tyX3_ok nmX3 hown hK hM hS (ky_b hG h0) (c_4 h0) rfl 2 (by decide) rfl rfl rfl (Nat.le_of_ble_eq_true rfl) (cp_3_2 h0) (fun _ h9 => cel_sI _ h9) hM.2.2.sI rfl (tk_119 hts) dX3_copyFrom_24 (fun H locs hM hS => ?_)
  rw [eM4] at hM
  refine lv_aload_n hx hb dX3_copyFrom_27 rfl (lv_at hl 0 rfl) ?_
  refine lv_aload_n hx hb dX3_copyFrom_28 rfl (lv_at hl 1 rfl) ?_
  refine s_get hx hb (lay_3 hts) hown hK hM (c_4 h1) rfl 3 (by decide) rfl rfl (tk_122 hts) dX3_copyFrom_29 ?_
  obtain ⟨M5, eM5, hf⟩ := nb_e hf
  refine s_put tyX3 hx hb (lay_3 hts) tyX3_ok nmX3 hown hK hM hS (ky_b hG h0) (c_4 h0) rfl 3 (by decide) rfl rfl rfl (Nat.le_of_ble_eq_true rfl) (cp_3_3 h0) (fun _ h9 => cel_sI _ h9) hM.2.2.sI rfl (tk_122 hts) dX3_copyFrom_32 (fun H locs hM hS => ?_)
  rw [eM5] at hM
  refine lv_aload_n hx hb dX3_copyFrom_35 rfl (lv_at hl 0 rfl) ?_
  refine s_get hx hb (lay_3 hts) hown hK hM (c_4 h0) rfl 4 (by decide) rfl rfl (tk_124 hts) dX3_copyFrom_36 ?_
  refine lv_aload_n hx hb dX3_copyFrom_39 rfl (lv_at hl 1 rfl) ?_
  refine s_get hx hb (lay_3 hts) hown hK hM (c_4 h1) rfl 4 (by decide) rfl rfl (tk_124 hts) dX3_copyFrom_40 ?_
  obtain ⟨M7, e_6, hf⟩ := vb_e hf
  refine c_Vv hx hb hml hown hts hV hK hM hS (As := [.ref (a1 + 2)]) (rest := []) (k_X2_copyFrom G hG l (a0 + 2) (ky_4_4 hG h0) (a1 + 2) (ky_4_4 hG h1) M5 e_6) w_X2_copyFrom (tk_695 hts) (c_3 (ky_4_4 hG h0)) rfl rfl ⟨⟨rfl, rfl⟩, Nat.le_of_ble_eq_true rfl, Nat.le_of_ble_eq_true rfl⟩ ⟨Nat.zero_le _, Nat.zero_le _⟩ rfl hl.1 rfl (Nat.le_of_ble_eq_true rfl) dX3_copyFrom_43 (fun H locs hM hS => ?_)
  refine lv_aload_n hx hb dX3_copyFrom_46 rfl (lv_at hl 0 rfl) ?_
  refine lv_aload_n hx hb dX3_copyFrom_47 rfl (lv_at hl 1 rfl) ?_
  refine s_get hx hb (lay_3 hts) hown hK hM (c_4 h1) rfl 5 (by decide) rfl rfl (tk_127 hts) dX3_copyFrom_48 ?_
  obtain ⟨M8, eM8, hf⟩ := nb_e hf
  refine s_put tyX3 hx hb (lay_3 hts) tyX3_ok nmX3 hown hK hM hS (ky_b hG h0) (c_4 h0) rfl 5 (by decide) rfl rfl rfl (Nat.le_of_ble_eq_true rfl) (cp_3_5 h0) (fun _ h9 => cel_sI _ h9) hM.2.2.sI rfl (tk_127 hts) dX3_copyFrom_51 (fun H locs hM hS => ?_)
  rw [eM8] at hM
  refine lv_aload_n hx hb dX3_copyFrom_54 rfl (lv_at hl 0 rfl) ?_
  refine lv_aload_n hx hb dX3_copyFrom_55 rfl (lv_at hl 1 rfl) ?_
  refine s_get hx hb (lay_3 hts) hown hK hM (c_4 h1) rfl 6 (by decide) rfl rfl (tk_130 hts) dX3_copyFrom_56 ?_
  obtain ⟨M9, eM9, hf⟩ := nb_e hf
  refine s_put tyX3 hx hb (lay_3 hts) tyX3_ok nmX3 hown hK hM hS (ky_b hG h0) (c_4 h0) rfl 6 (by decide) rfl rfl rfl (Nat.le_of_ble_eq_true rfl) (cp_3_6 h0) (fun _ h9 => cel_sI _ h9) hM.2.2.sI rfl (tk_130 hts) dX3_copyFrom_59 (fun H locs hM hS => ?_)
  rw [eM9] at hM
  refine lv_aload_n hx hb dX3_copyFrom_62 rfl (lv_at hl 0 rfl) ?_
  refine lv_aload_n hx hb dX3_copyFrom_63 rfl (lv_at hl 1 rfl) ?_
  refine s_get hx hb (lay_3 hts) hown hK hM (c_4 h1) rfl 7 (by decide) rfl rfl (tk_133 hts) dX3_copyFrom_64 ?_
  obtain ⟨M10, eM10, hf⟩ := nb_e hf
  refine s_put tyX3 hx hb (lay_3 hts) tyX3_ok nmX3 hown hK hM hS (ky_b hG h0) (c_4 h0) rfl 7 (by decide) rfl rfl rfl (Nat.le_of_ble_eq_true rfl) (cp_3_7 h0) (fun _ h9 => cel_sI _ h9) hM.2.2.sI rfl (tk_133 hts) dX3_copyFrom_67 (fun H locs hM hS => ?_)
  rw [eM10] at hM
  refine lv_aload_n hx hb dX3_copyFrom_70 rfl (lv_at hl 0 rfl) ?_
  refine s_get hx hb (lay_3 hts) hown hK hM (c_4 h0) rfl 8 (by decide) rfl rfl (tk_134 hts) dX3_copyFrom_71 ?_
  refine lv_aload_n hx hb dX3_copyFrom_74 rfl (lv_at hl 1 rfl) ?_
  refine s_get hx hb (lay_3 hts) hown hK hM (c_4 h1) rfl 8 (by decide) rfl rfl (tk_134 hts) dX3_copyFrom_75 ?_
  obtain ⟨M12, e_11, hf⟩ := vb_e hf
  refine c_Vv hx hb hml hown hts hV hK hM hS (As := [.ref (a1 + 6)]) (rest := []) (k_X0_copyFrom G hG l (a0 + 6) (ky_4_8 hG h0) (a1 + 6) (ky_4_8 hG h1) M10 e_11) w_X0_copyFrom (tk_411 hts) (c_1 (ky_4_8 hG h0)) rfl rfl ⟨⟨rfl, rfl⟩, Nat.le_of_ble_eq_true rfl, Nat.le_of_ble_eq_true rfl⟩ ⟨Nat.zero_le _, Nat.zero_le _⟩ rfl hl.1 rfl (Nat.le_of_ble_eq_true rfl) dX3_copyFrom_78 (fun H locs hM hS => ?_)
  refine lv_aload_n hx hb dX3_copyFrom_81 rfl (lv_at hl 1 rfl) ?_
  refine s_get hx hb (lay_3 hts) hown hK hM (c_4 h1) rfl 9 (by decide) rfl rfl (tk_135 hts) dX3_copyFrom_82 ?_
  refine lv_iconst (v := 0) hx hb dX3_copyFrom_85 (by decide) ?_
  refine lv_aload_n hx hb dX3_copyFrom_86 rfl (lv_at hl 0 rfl) ?_
  refine s_get hx hb (lay_3 hts) hown hK hM (c_4 h0) rfl 9 (by decide) rfl rfl (tk_135 hts) dX3_copyFrom_87 ?_
  refine lv_iconst (v := 0) hx hb dX3_copyFrom_90 (by decide) ?_
  refine lv_bipush (v := 72) hx hb dX3_copyFrom_91 (by decide) ?_
  obtain ⟨h_13, hf⟩ := gd_e hf
  obtain ⟨M14, eM14, hf⟩ := nb_e hf
  refine s_copy 72 72 hx hb (hml.trans hl.1.symm) hown (tk_703 hts) (tk_701 hts) (tk_700 hts) (tk_17 hts) hK hM hS (ky_4_9 hG h1) (by decide) (ky_4_9 hG h0) (by decide) (ky_b hG (ky_4_9 hG h0)) h_13 (Nat.le_of_ble_eq_true rfl) (Nat.le_of_ble_eq_true rfl) dX3_copyFrom_93 (fun H locs hM hS => ?_)
  rw [eM14] at hM
  refine lv_aload_n hx hb dX3_copyFrom_96 rfl (lv_at hl 0 rfl) ?_
  refine lv_aload_n hx hb dX3_copyFrom_97 rfl (lv_at hl 1 rfl) ?_
  refine s_get hx hb (lay_3 hts) hown hK hM (c_4 h1) rfl 10 (by decide) rfl rfl (tk_136 hts) dX3_copyFrom_98 ?_
  obtain ⟨M15, eM15, hf⟩ := nb_e hf
  refine s_put tyX3 hx hb (lay_3 hts) tyX3_ok nmX3 hown hK hM hS (ky_b hG h0) (c_4 h0) rfl 10 (by decide) rfl rfl rfl (Nat.le_of_ble_eq_true rfl) (cp_3_10 h0) (fun _ h9 => cel_sI _ h9) hM.2.2.sI rfl (tk_136 hts) dX3_copyFrom_101 (fun H locs hM hS => ?_)
  rw [eM15] at hM
  exact ef_v hx hb hr hlocks hM hS hf dX3_copyFrom_104
def f_X4_valueOf (a0 : Nat) (p1 : Int32) (M : Mem) : Option Int32 := if p1 < 0 then (some 0) else (if (4 : Int32) ≤ p1 then (some 0) else (gd (ix p1 4) <| some (mI M (a0 + 1) p1.toNatClampNeg)))
set_option maxHeartbeats 4000000 in
set_option maxRecDepth 100000 in
theorem k_X4_valueOf (G : Gt) (hG : gOK G) (l : Launch) (a0 : Nat) (h0 : gK G a0 = 5) (p1 : Int32) (M : Mem) {r : Int32} (hf : f_X4_valueOf a0 p1 M = some r) : Kc G l yX4_valueOf cX4_valueOf 2 (some .int) ({ frames := 0, cells := 0, slots := 0, locals := 0 } : Room) [.ref a0, .int p1] M (some (.int r)) M := by
  refine start (by decide) (Nat.le_of_ble_eq_true rfl) ?_
  intro p e s m args below meth c ls hx hb hr hown hml hlocks hts hV hM hl
  have hown : s.vm.findClass "FoldedVoices$Settings" = some m.cls := hown
  have hK := hG.1.moved hV
  have hS : va_S (gA G) s.heap s.heap [] := va_S.rf
  have hl : lv_has ls 2 [(0, .ref a0), (1, .int p1)] := hl
  have hM0 := hM
  rw [f_X4_valueOf] at hf
  refine lv_iload_n hx hb dX4_valueOf_0 rfl (lv_at hl 1 rfl) ?_
  refine lv_if_lt (tgt := 22) hx hb dX4_valueOf_1 (by decide) (fun g_1 => ?_) (fun g_1 => ?_)
  · rw [if_pos g_1] at hf
    refine lv_iconst (v := 0) hx hb dX4_valueOf_22 (by decide) ?_
    exact ef_ip hx hb hr hlocks hM hS hf dX4_valueOf_23
  · rw [if_neg g_1] at hf
    refine lv_iload_n hx hb dX4_valueOf_4 rfl (lv_at hl 1 rfl) ?_
    refine lv_aload_n hx hb dX4_valueOf_5 rfl (lv_at hl 0 rfl) ?_
    refine s_get hx hb (lay_4 hts) hown hK hM (c_5 h0) rfl 0 (by decide) rfl rfl (tk_40 hts) dX4_valueOf_6 ?_
    refine s_alen 0 hx hb hK hM (cel_ia (ky_5_0 hG h0) (n := 4) (by decide)) rfl (v := 4) (show Int32.ofNat 4 = 4 from by decide) dX4_valueOf_9 ?_
    refine lv_icmp_ge (tgt := 22) hx hb dX4_valueOf_10 (by decide) (fun g_2 => ?_) (fun g_2 => ?_)
    · rw [if_pos g_2] at hf
      refine lv_iconst (v := 0) hx hb dX4_valueOf_22 (by decide) ?_
      exact ef_ip hx hb hr hlocks hM hS hf dX4_valueOf_23
    · rw [if_neg g_2] at hf
      refine lv_aload_n hx hb dX4_valueOf_13 rfl (lv_at hl 0 rfl) ?_
      refine s_get hx hb (lay_4 hts) hown hK hM (c_5 h0) rfl 0 (by decide) rfl rfl (tk_40 hts) dX4_valueOf_14 ?_
      refine lv_iload_n hx hb dX4_valueOf_17 rfl (lv_at hl 1 rfl) ?_
      obtain ⟨h_3, hf⟩ := gd_e hf
      refine s_iald 4 hx hb hK hM (ky_5_0 hG h0) (by decide) h_3 dX4_valueOf_18 ?_
      refine lv_goto (tgt := 23) hx hb dX4_valueOf_19 (by decide) ?_
      exact ef_ip hx hb hr hlocks hM hS hf dX4_valueOf_23
def f_X3_wouldClose_b33 (a0 : Nat) (a1 : Nat) (xs0 : Int32) (M : Mem) : Option Int32 := vb (f_X4_valueOf a1 2 M) fun r2 => if xs0 < r2 then (some 0) else (some 1)
def f_X3_wouldClose (a0 : Nat) (a1 : Nat) (M : Mem) : Option Int32 := vb (f_X4_valueOf a1 0 M) fun r5 => if ((mI M a0 2) + 1) < r5 then (f_X3_wouldClose_b33 a0 a1 (mI M (a0 + 2) 2) M) else (f_X3_wouldClose_b33 a0 a1 ((mI M (a0 + 2) 2) + 1) M)
set_option maxHeartbeats 4000000 in
set_option maxRecDepth 100000 in
theorem k_X3_wouldClose (G : Gt) (hG : gOK G) (l : Launch) (a0 : Nat) (h0 : gK G a0 = 4) (a1 : Nat) (h1 : gK G a1 = 5) (M : Mem) {r : Int32} (hf : f_X3_wouldClose a0 a1 M = some r) : Kc G l yX3_wouldClose cX3_wouldClose 3 (some .boolean) ({ frames := 1, cells := 0, slots := 0, locals := 21 } : Room) [.ref a0, .ref a1] M (some (.int r)) M := by
  refine start (by decide) (Nat.le_of_ble_eq_true rfl) ?_
  intro p e s m args below meth c ls hx hb hr hown hml hlocks hts hV hM hl
  have hown : s.vm.findClass "FoldedVoices$SayingEnd" = some m.cls := hown
  have hK := hG.1.moved hV
  have hS : va_S (gA G) s.heap s.heap [] := va_S.rf
  have hl : lv_has ls 3 [(0, .ref a0), (1, .ref a1)] := hl
  have hM0 := hM
  have b33 : ∀ (xs0 : Int32) (M : Mem) (H : Heap) (locs : List Loc) (ls : Array Slot), Mh G M H → va_S (gA G) s.heap H locs → lv_has ls 3 [(0, .ref a0), (1, .ref a1)] → f_X3_wouldClose_b33 a0 a1 xs0 M = some r → W p l e ({ frames := 1, cells := 0, slots := 0, locals := 21 } : Room) s m args below meth c H locs 0 0 (MQ below (QV G (some (.int r)) M) args s 0 0 (gA G)) (F0 m 33 ls [.int xs0]) := by
    intro xs0 M H locs ls hM hS hl hf
    rw [f_X3_wouldClose_b33] at hf
    refine lv_istore_n (lv' := [(2, .int xs0), (0, .ref a0), (1, .ref a1)]) hx hb dX3_wouldClose_33 rfl hl (by decide) rfl (fun ls hl => ?_)
    refine lv_iload_n hx hb dX3_wouldClose_34 rfl (lv_at hl 0 rfl) ?_
    refine lv_aload_n hx hb dX3_wouldClose_35 rfl (lv_at hl 2 rfl) ?_
    refine lv_iconst (v := 2) hx hb dX3_wouldClose_36 (by decide) ?_
    obtain ⟨r2, e_1, hf⟩ := vb_e hf
    refine c_Vi hx hb hml hown hts hV hK hM hS (As := [.int 2]) (rest := [.int xs0]) (k_X4_valueOf G hG l a1 h1 2 M e_1) w_X4_valueOf (tk_786 hts) (c_5 h1) rfl rfl ⟨⟨rfl, rfl⟩, Nat.le_of_ble_eq_true rfl, Nat.le_of_ble_eq_true rfl⟩ ⟨Nat.zero_le _, Nat.zero_le _⟩ rfl hl.1 rfl (Nat.le_of_ble_eq_true rfl) dX3_wouldClose_37 (fun H locs hM hS => ?_)
    refine lv_icmp_lt (tgt := 47) hx hb dX3_wouldClose_40 (by decide) (fun g_3 => ?_) (fun g_3 => ?_)
    · rw [if_pos g_3] at hf
      refine lv_iconst (v := 0) hx hb dX3_wouldClose_47 (by decide) ?_
      exact ef_zp hx hb hr hlocks hM hS (nz_n (Or.inl rfl)) hf dX3_wouldClose_48
    · rw [if_neg g_3] at hf
      refine lv_iconst (v := 1) hx hb dX3_wouldClose_43 (by decide) ?_
      refine lv_goto (tgt := 48) hx hb dX3_wouldClose_44 (by decide) ?_
      exact ef_zp hx hb hr hlocks hM hS (nz_n (Or.inr rfl)) hf dX3_wouldClose_48
  rw [f_X3_wouldClose] at hf
  obtain ⟨H, hHe⟩ : ∃ H, H = s.heap := ⟨_, rfl⟩
  obtain ⟨locs, hLe⟩ : ∃ L : List Loc, L = [] := ⟨_, rfl⟩
  rw [← hHe] at hM
  have hS : va_S (gA G) s.heap H locs := by rw [hHe, hLe]; exact va_S.rf
  suffices hW : W p l e ({ frames := 1, cells := 0, slots := 0, locals := 21 } : Room) s m args below meth c H locs 0 0 (MQ below (QV G (some (.int r)) M) args s 0 0 (gA G)) (F0 m 0 ls []) by rw [hHe, hLe] at hW; exact hW
  refine lv_aload_n hx hb dX3_wouldClose_0 rfl (lv_at hl 0 rfl) ?_
  refine s_get hx hb (lay_3 hts) hown hK hM (c_4 h0) rfl 2 (by decide) rfl rfl (tk_119 hts) dX3_wouldClose_1 ?_
  refine lv_iconst (v := 1) hx hb dX3_wouldClose_4 (by decide) ?_
  refine lv_iadd hx hb dX3_wouldClose_5 ?_
  refine lv_aload_n hx hb dX3_wouldClose_6 rfl (lv_at hl 1 rfl) ?_
  refine lv_iconst (v := 0) hx hb dX3_wouldClose_7 (by decide) ?_
  obtain ⟨r5, e_4, hf⟩ := vb_e hf
  refine c_Vi hx hb hml hown hts hV hK hM hS (As := [.int 0]) (rest := [.int ((mI M a0 2) + 1)]) (k_X4_valueOf G hG l a1 h1 0 M e_4) w_X4_valueOf (tk_786 hts) (c_5 h1) rfl rfl ⟨⟨rfl, rfl⟩, Nat.le_of_ble_eq_true rfl, Nat.le_of_ble_eq_true rfl⟩ ⟨Nat.zero_le _, Nat.zero_le _⟩ rfl hl.1 rfl (Nat.le_of_ble_eq_true rfl) dX3_wouldClose_8 (fun H locs hM hS => ?_)
  refine lv_icmp_lt (tgt := 26) hx hb dX3_wouldClose_11 (by decide) (fun g_6 => ?_) (fun g_6 => ?_)
  · rw [if_pos g_6] at hf
    refine lv_aload_n hx hb dX3_wouldClose_26 rfl (lv_at hl 0 rfl) ?_
    refine s_get hx hb (lay_3 hts) hown hK hM (c_4 h0) rfl 4 (by decide) rfl rfl (tk_124 hts) dX3_wouldClose_27 ?_
    refine s_getN hx hb (lay_2 hts) hown hK hM (c_3 (ky_4_4 hG h0)) rfl 2 (by decide) rfl rfl (tk_88 hts) dX3_wouldClose_30 ?_
    exact b33 (mI M (a0 + 2) 2) _ H locs ls hM hS (lv_sub hl [0, 1] rfl) hf
  · rw [if_neg g_6] at hf
    refine lv_aload_n hx hb dX3_wouldClose_14 rfl (lv_at hl 0 rfl) ?_
    refine s_get hx hb (lay_3 hts) hown hK hM (c_4 h0) rfl 4 (by decide) rfl rfl (tk_124 hts) dX3_wouldClose_15 ?_
    refine s_getN hx hb (lay_2 hts) hown hK hM (c_3 (ky_4_4 hG h0)) rfl 2 (by decide) rfl rfl (tk_88 hts) dX3_wouldClose_18 ?_
    refine lv_iconst (v := 1) hx hb dX3_wouldClose_21 (by decide) ?_
    refine lv_iadd hx hb dX3_wouldClose_22 ?_
    refine lv_goto (tgt := 33) hx hb dX3_wouldClose_23 (by decide) ?_
    exact b33 ((mI M (a0 + 2) 2) + 1) _ H locs ls hM hS (lv_sub hl [0, 1] rfl) hf
def f_X3_gather (a0 : Nat) (p1 : Int32) (M : Mem) : Option Mem := nb (sI M a0 1 ((mI M a0 1) + 1)) fun M1 => nb (sI M1 a0 2 ((mI M1 a0 2) + 1)) fun M2 => nb (sI M2 a0 3 ((mI M2 a0 3) + p1)) fun M3 => some M3
set_option maxHeartbeats 4000000 in
set_option maxRecDepth 100000 in
theorem k_X3_gather (G : Gt) (hG : gOK G) (l : Launch) (a0 : Nat) (h0 : gK G a0 = 4) (p1 : Int32) (M : Mem) {M' : Mem} (hf : f_X3_gather a0 p1 M = some M') : Kc G l yX3_gather cX3_gather 2 none ({ frames := 0, cells := 0, slots := 0, locals := 0 } : Room) [.ref a0, .int p1] M none M' := by
  refine start (by decide) (Nat.le_of_ble_eq_true rfl) ?_
  intro p e s m args below meth c ls hx hb hr hown hml hlocks hts hV hM hl
  have hown : s.vm.findClass "FoldedVoices$SayingEnd" = some m.cls := hown
  have hK := hG.1.moved hV
  have hS : va_S (gA G) s.heap s.heap [] := va_S.rf
  have hl : lv_has ls 2 [(0, .ref a0), (1, .int p1)] := hl
  have hM0 := hM
  rw [f_X3_gather] at hf
  refine lv_aload_n hx hb dX3_gather_0 rfl (lv_at hl 0 rfl) ?_
  refine lv_dup hx hb dX3_gather_1 rfl ?_
  refine s_get hx hb (lay_3 hts) hown hK hM (c_4 h0) rfl 1 (by decide) rfl rfl (tk_117 hts) dX3_gather_2 ?_
  refine lv_iconst (v := 1) hx hb dX3_gather_5 (by decide) ?_
  refine lv_iadd hx hb dX3_gather_6 ?_
  obtain ⟨M1, eM1, hf⟩ := nb_e hf
  refine s_put tyX3 hx hb (lay_3 hts) tyX3_ok nmX3 hown hK hM hS (ky_b hG h0) (c_4 h0) rfl 1 (by decide) rfl rfl rfl (Nat.le_of_ble_eq_true rfl) (cp_3_1 h0) (fun _ h9 => cel_sI _ h9) hM.2.2.sI rfl (tk_117 hts) dX3_gather_7 (fun H locs hM hS => ?_)
  rw [eM1] at hM
  refine lv_aload_n hx hb dX3_gather_10 rfl (lv_at hl 0 rfl) ?_
  refine lv_dup hx hb dX3_gather_11 rfl ?_
  refine s_get hx hb (lay_3 hts) hown hK hM (c_4 h0) rfl 2 (by decide) rfl rfl (tk_119 hts) dX3_gather_12 ?_
  refine lv_iconst (v := 1) hx hb dX3_gather_15 (by decide) ?_
  refine lv_iadd hx hb dX3_gather_16 ?_
  obtain ⟨M2, eM2, hf⟩ := nb_e hf
  refine s_put tyX3 hx hb (lay_3 hts) tyX3_ok nmX3 hown hK hM hS (ky_b hG h0) (c_4 h0) rfl 2 (by decide) rfl rfl rfl (Nat.le_of_ble_eq_true rfl) (cp_3_2 h0) (fun _ h9 => cel_sI _ h9) hM.2.2.sI rfl (tk_119 hts) dX3_gather_17 (fun H locs hM hS => ?_)
  rw [eM2] at hM
  refine lv_aload_n hx hb dX3_gather_20 rfl (lv_at hl 0 rfl) ?_
  refine lv_dup hx hb dX3_gather_21 rfl ?_
  refine s_get hx hb (lay_3 hts) hown hK hM (c_4 h0) rfl 3 (by decide) rfl rfl (tk_122 hts) dX3_gather_22 ?_
  refine lv_iload_n hx hb dX3_gather_25 rfl (lv_at hl 1 rfl) ?_
  refine lv_iadd hx hb dX3_gather_26 ?_
  obtain ⟨M3, eM3, hf⟩ := nb_e hf
  refine s_put tyX3 hx hb (lay_3 hts) tyX3_ok nmX3 hown hK hM hS (ky_b hG h0) (c_4 h0) rfl 3 (by decide) rfl rfl rfl (Nat.le_of_ble_eq_true rfl) (cp_3_3 h0) (fun _ h9 => cel_sI _ h9) hM.2.2.sI rfl (tk_122 hts) dX3_gather_27 (fun H locs hM hS => ?_)
  rw [eM3] at hM
  exact ef_v hx hb hr hlocks hM hS hf dX3_gather_30
