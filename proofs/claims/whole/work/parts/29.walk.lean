def f_X9_mixVoice_b148 (a0 : Nat) (p1 : Int32) : Nat → Int32 → Mem → Option Mem
  | 0, _, _ => none
  | n + 1, x2, M => if (4 : Int32) ≤ x2 then (vb (f_X9_mean a0 p1 M) fun r3 => vb (f_Jxe99ae_doubleToLongBits_ccdee r3 M) fun r5 => vb (f_X9_mix a0 r5 M) fun M7 => some M7) else (cb (f_X9_delivered a0 p1 x2 M) fun r9 M10 => vb (f_X9_mix a0 r9.toInt64 M10) fun M12 => nb (x2 + 1) fun y13 => f_X9_mixVoice_b148 a0 p1 n y13 M12)
def f_X9_mixVoice_b107 (a0 : Nat) (p1 : Int32) : Nat → Int32 → Mem → Option Mem
  | 0, _, _ => none
  | n + 1, x2, M => if (5 : Int32) ≤ x2 then (vb (f_X9_settledBehind a0 p1 (-500) 50 M) fun r16 => vb (f_X9_mix a0 r16.toInt64 M) fun M18 => f_X9_mixVoice_b148 a0 p1 lfuel 0 M18) else (vb (f_X9_ofCode a0 p1 100 x2 M) fun r20 => vb (f_X9_mix a0 r20.toInt64 M) fun M22 => nb (x2 + 1) fun y23 => f_X9_mixVoice_b107 a0 p1 n y23 M22)
def f_X9_mixVoice_b65 (a0 : Nat) (p1 : Int32) (k52 : Int32 → Mem → Option Mem) : Nat → Int32 → Int32 → Mem → Option Mem
  | 0, _, _, _ => none
  | n + 1, x2, x3, M => if (6 : Int32) ≤ x3 then (nb (x2 + 1) fun y25 => k52 y25 M) else (vb (f_X9_ofPacket a0 p1 x2 x3 M) fun r27 => vb (f_X9_mix a0 r27.toInt64 M) fun M29 => nb (x3 + 1) fun y30 => f_X9_mixVoice_b65 a0 p1 k52 n x2 y30 M29)
def f_X9_mixVoice_b52 (a0 : Nat) (p1 : Int32) : Nat → Int32 → Mem → Option Mem
  | 0, _, _ => none
  | n + 1, x2, M => vb (f_X9_of a0 p1 38 M) fun r32 => if r32 ≤ x2 then (cb (f_X9_reason a0 p1 M) fun r35 M36 => vb (f_X9_mix a0 r35.toInt64 M36) fun M38 => f_X9_mixVoice_b107 a0 p1 lfuel 0 M38) else (f_X9_mixVoice_b65 a0 p1 (f_X9_mixVoice_b52 a0 p1 n) lfuel x2 0 M)
def f_X9_mixVoice_b27 (a0 : Nat) (p1 : Int32) : Nat → Int32 → Mem → Option Mem
  | 0, _, _ => none
  | n + 1, x2, M => if (12 : Int32) ≤ x2 then (f_X9_mixVoice_b52 a0 p1 lfuel 0 M) else (vb (f_X9_ofHearing a0 p1 x2 M) fun r41 => vb (f_X9_mix a0 r41.toInt64 M) fun M43 => nb (x2 + 1) fun y44 => f_X9_mixVoice_b27 a0 p1 n y44 M43)
def f_X9_mixVoice_b2 (a0 : Nat) (p1 : Int32) : Nat → Int32 → Mem → Option Mem
  | 0, _, _ => none
  | n + 1, x2, M => if (10 : Int32) ≤ x2 then (f_X9_mixVoice_b27 a0 p1 lfuel 0 M) else (vb (f_X9_ofSaying a0 p1 x2 M) fun r47 => vb (f_X9_mix a0 r47.toInt64 M) fun M49 => nb (x2 + 1) fun y50 => f_X9_mixVoice_b2 a0 p1 n y50 M49)
def f_X9_mixVoice (a0 : Nat) (p1 : Int32) (M : Mem) : Option Mem := f_X9_mixVoice_b2 a0 p1 lfuel 0 M
set_option maxHeartbeats 4000000 in
set_option maxRecDepth 100000 in
theorem k_X9_mixVoice (G : Gt) (hG : gOK G) (l : Launch) (a0 : Nat) (h0 : gK G a0 = 10) (p1 : Int32) (M : Mem) {M' : Mem} (hf : f_X9_mixVoice a0 p1 M = some M') : Kc G l yX9_mixVoice cX9_mixVoice 4 none ({ frames := 6, cells := 0, slots := 0, locals := 147 } : Room) [.ref a0, .int p1] M none M' := by
  refine start (by decide) (Nat.le_of_ble_eq_true rfl) ?_
  intro p e s m args below meth c ls hx hb hr hown hml hlocks hts hV hM hl
  have hown : s.vm.findClass "FoldedVoicesModel" = some m.cls := hown
  have hK := hG.1.moved hV
  have hS : va_S (gA G) s.heap s.heap [] := va_S.rf
  have hl : lv_has ls 4 [(0, .ref a0), (1, .int p1)] := hl
  have hM0 := hM
  have b148 : ∀ (n : Nat), ∀ (x2 : Int32) (M : Mem) (H : Heap) (locs : List Loc) (ls : Array Slot), Mh G M H → va_S (gA G) s.heap H locs → lv_has ls 4 [(0, .ref a0), (1, .int p1), (2, .int x2)] → f_X9_mixVoice_b148 a0 p1 n x2 M = some M' → W p l e ({ frames := 6, cells := 0, slots := 0, locals := 147 } : Room) s m args below meth c H locs 0 0 (MQ below (QV G none M') args s 0 0 (gA G)) (F0 m 148 ls []) := by
    intro n
    induction n with
    | zero =>
      intro x2 M H locs ls hM hS hl hf
      rw [f_X9_mixVoice_b148] at hf
      cases hf
    | succ n ih =>
      intro x2 M H locs ls hM hS hl hf
      rw [f_X9_mixVoice_b148] at hf
      refine lv_iload_n hx hb dX9_mixVoice_148 rfl (lv_at hl 2 rfl) ?_
      refine lv_iconst (v := 4) hx hb dX9_mixVoice_149 (by decide) ?_
      refine lv_icmp_ge (tgt := 170) hx hb dX9_mixVoice_150 (by decide) (fun g_1 => ?_) (fun g_1 => ?_)
      · rw [if_pos g_1] at hf
        refine lv_aload_n hx hb dX9_mixVoice_170 rfl (lv_at hl 0 rfl) ?_
        refine lv_aload_n hx hb dX9_mixVoice_171 rfl (lv_at hl 0 rfl) ?_
        refine lv_iload_n hx hb dX9_mixVoice_172 rfl (lv_at hl 1 rfl) ?_
        obtain ⟨r3, e_2, hf⟩ := vb_e hf
        refine c_Vd hx hb hml hown hts hV hK hM hS (As := [.int p1]) (rest := [.ref a0]) (k_X9_mean G hG l a0 h0 p1 M e_2) w_X9_mean (tk_1297 hts) (c_10 h0) rfl rfl ⟨⟨rfl, rfl⟩, Nat.le_of_ble_eq_true rfl, Nat.le_of_ble_eq_true rfl⟩ ⟨Nat.zero_le _, Nat.zero_le _⟩ rfl hl.1 rfl (Nat.le_of_ble_eq_true rfl) dX9_mixVoice_173 (fun H locs hM hS => ?_)
        obtain ⟨r5, e_4, hf⟩ := vb_e hf
        refine c_Sj hx hb hml hown hts hV hM hS (As := [.double r3]) (rest := [.ref a0]) (k_Jxe99ae_doubleToLongBits_ccdee G hG l r3 M e_4) w_Jxe99ae_doubleToLongBits_ccdee (tk_1323 hts) ⟨⟨rfl, rfl⟩, Nat.le_of_ble_eq_true rfl, Nat.le_of_ble_eq_true rfl⟩ ⟨Nat.zero_le _, Nat.zero_le _⟩ rfl hl.1 rfl (Nat.le_of_ble_eq_true rfl) dX9_mixVoice_176 (fun H locs hM hS => ?_)
        obtain ⟨M7, e_6, hf⟩ := vb_e hf
        refine c_Vv hx hb hml hown hts hV hK hM hS (As := [.long r5]) (rest := []) (k_X9_mix G hG l a0 h0 r5 M e_6) w_X9_mix (tk_1314 hts) (c_10 h0) rfl rfl ⟨⟨rfl, rfl⟩, Nat.le_of_ble_eq_true rfl, Nat.le_of_ble_eq_true rfl⟩ ⟨Nat.zero_le _, Nat.zero_le _⟩ rfl hl.1 rfl (Nat.le_of_ble_eq_true rfl) dX9_mixVoice_179 (fun H locs hM hS => ?_)
        exact ef_v hx hb hr hlocks hM hS hf dX9_mixVoice_182
      · rw [if_neg g_1] at hf
        refine lv_aload_n hx hb dX9_mixVoice_153 rfl (lv_at hl 0 rfl) ?_
        refine lv_aload_n hx hb dX9_mixVoice_154 rfl (lv_at hl 0 rfl) ?_
        refine lv_iload_n hx hb dX9_mixVoice_155 rfl (lv_at hl 1 rfl) ?_
        refine lv_iload_n hx hb dX9_mixVoice_156 rfl (lv_at hl 2 rfl) ?_
        obtain ⟨r9, M10, e_8, hf⟩ := cb_e hf
        refine c_Vi hx hb hml hown hts hV hK hM hS (As := [.int p1, .int x2]) (rest := [.ref a0]) (k_X9_delivered G hG l a0 h0 p1 x2 M e_8) w_X9_delivered (tk_1289 hts) (c_10 h0) rfl rfl ⟨⟨rfl, rfl⟩, Nat.le_of_ble_eq_true rfl, Nat.le_of_ble_eq_true rfl⟩ ⟨Nat.zero_le _, Nat.zero_le _⟩ rfl hl.1 rfl (Nat.le_of_ble_eq_true rfl) dX9_mixVoice_157 (fun H locs hM hS => ?_)
        refine lv_i2l hx hb dX9_mixVoice_160 rfl ?_
        obtain ⟨M12, e_11, hf⟩ := vb_e hf
        refine c_Vv hx hb hml hown hts hV hK hM hS (As := [.long r9.toInt64]) (rest := []) (k_X9_mix G hG l a0 h0 r9.toInt64 M10 e_11) w_X9_mix (tk_1314 hts) (c_10 h0) rfl rfl ⟨⟨rfl, rfl⟩, Nat.le_of_ble_eq_true rfl, Nat.le_of_ble_eq_true rfl⟩ ⟨Nat.zero_le _, Nat.zero_le _⟩ rfl hl.1 rfl (Nat.le_of_ble_eq_true rfl) dX9_mixVoice_161 (fun H locs hM hS => ?_)
        obtain ⟨y13, ey13, hf⟩ := nb_e hf
        refine lv_iinc (v := y13) (lv' := [(2, .int y13), (0, .ref a0), (1, .int p1)]) hx hb dX9_mixVoice_164 hl (k := 2) rfl (by rw [← ey13]; rfl) (by decide) rfl (fun ls hl => ?_)
        refine lv_goto (tgt := 148) hx hb dX9_mixVoice_167 (by decide) ?_
        exact ih y13 _ H locs ls hM hS (lv_sub hl [1, 2, 0] rfl) hf
  have b107 : ∀ (n : Nat), ∀ (x2 : Int32) (M : Mem) (H : Heap) (locs : List Loc) (ls : Array Slot), Mh G M H → va_S (gA G) s.heap H locs → lv_has ls 4 [(0, .ref a0), (1, .int p1), (2, .int x2)] → f_X9_mixVoice_b107 a0 p1 n x2 M = some M' → W p l e ({ frames := 6, cells := 0, slots := 0, locals := 147 } : Room) s m args below meth c H locs 0 0 (MQ below (QV G none M') args s 0 0 (gA G)) (F0 m 107 ls []) := by
    intro n
    induction n with
    | zero =>
      intro x2 M H locs ls hM hS hl hf
      rw [f_X9_mixVoice_b107] at hf
      cases hf
    | succ n ih =>
      intro x2 M H locs ls hM hS hl hf
      rw [f_X9_mixVoice_b107] at hf
      refine lv_iload_n hx hb dX9_mixVoice_107 rfl (lv_at hl 2 rfl) ?_
      refine lv_iconst (v := 5) hx hb dX9_mixVoice_108 (by decide) ?_
      refine lv_icmp_ge (tgt := 131) hx hb dX9_mixVoice_109 (by decide) (fun g_14 => ?_) (fun g_14 => ?_)
      · rw [if_pos g_14] at hf
        refine lv_aload_n hx hb dX9_mixVoice_131 rfl (lv_at hl 0 rfl) ?_
        refine lv_aload_n hx hb dX9_mixVoice_132 rfl (lv_at hl 0 rfl) ?_
        refine lv_iload_n hx hb dX9_mixVoice_133 rfl (lv_at hl 1 rfl) ?_
        refine lv_sipush (v := (-500)) hx hb dX9_mixVoice_134 (by decide) ?_
        refine lv_bipush (v := 50) hx hb dX9_mixVoice_137 (by decide) ?_
        obtain ⟨r16, e_15, hf⟩ := vb_e hf
        refine c_Vi hx hb hml hown hts hV hK hM hS (As := [.int p1, .int (-500), .int 50]) (rest := [.ref a0]) (k_X9_settledBehind G hG l a0 h0 p1 (-500) 50 M e_15) w_X9_settledBehind (tk_1281 hts) (c_10 h0) rfl rfl ⟨⟨rfl, rfl⟩, Nat.le_of_ble_eq_true rfl, Nat.le_of_ble_eq_true rfl⟩ ⟨Nat.zero_le _, Nat.zero_le _⟩ rfl hl.1 rfl (Nat.le_of_ble_eq_true rfl) dX9_mixVoice_139 (fun H locs hM hS => ?_)
        refine lv_i2l hx hb dX9_mixVoice_142 rfl ?_
        obtain ⟨M18, e_17, hf⟩ := vb_e hf
        refine c_Vv hx hb hml hown hts hV hK hM hS (As := [.long r16.toInt64]) (rest := []) (k_X9_mix G hG l a0 h0 r16.toInt64 M e_17) w_X9_mix (tk_1314 hts) (c_10 h0) rfl rfl ⟨⟨rfl, rfl⟩, Nat.le_of_ble_eq_true rfl, Nat.le_of_ble_eq_true rfl⟩ ⟨Nat.zero_le _, Nat.zero_le _⟩ rfl hl.1 rfl (Nat.le_of_ble_eq_true rfl) dX9_mixVoice_143 (fun H locs hM hS => ?_)
        refine lv_iconst (v := 0) hx hb dX9_mixVoice_146 (by decide) ?_
        refine lv_istore_n (lv' := [(2, .int 0), (0, .ref a0), (1, .int p1)]) hx hb dX9_mixVoice_147 rfl hl (by decide) rfl (fun ls hl => ?_)
        exact b148 _ 0 _ H locs ls hM hS (lv_sub hl [1, 2, 0] rfl) hf
      · rw [if_neg g_14] at hf
        refine lv_aload_n hx hb dX9_mixVoice_112 rfl (lv_at hl 0 rfl) ?_
        refine lv_aload_n hx hb dX9_mixVoice_113 rfl (lv_at hl 0 rfl) ?_
        refine lv_iload_n hx hb dX9_mixVoice_114 rfl (lv_at hl 1 rfl) ?_
        refine lv_bipush (v := 100) hx hb dX9_mixVoice_115 (by decide) ?_
        refine lv_iload_n hx hb dX9_mixVoice_117 rfl (lv_at hl 2 rfl) ?_
        obtain ⟨r20, e_19, hf⟩ := vb_e hf
        refine c_Vi hx hb hml hown hts hV hK hM hS (As := [.int p1, .int 100, .int x2]) (rest := [.ref a0]) (k_X9_ofCode G hG l a0 h0 p1 100 x2 M e_19) w_X9_ofCode (tk_1269 hts) (c_10 h0) rfl rfl ⟨⟨rfl, rfl⟩, Nat.le_of_ble_eq_true rfl, Nat.le_of_ble_eq_true rfl⟩ ⟨Nat.zero_le _, Nat.zero_le _⟩ rfl hl.1 rfl (Nat.le_of_ble_eq_true rfl) dX9_mixVoice_118 (fun H locs hM hS => ?_)
        refine lv_i2l hx hb dX9_mixVoice_121 rfl ?_
        obtain ⟨M22, e_21, hf⟩ := vb_e hf
        refine c_Vv hx hb hml hown hts hV hK hM hS (As := [.long r20.toInt64]) (rest := []) (k_X9_mix G hG l a0 h0 r20.toInt64 M e_21) w_X9_mix (tk_1314 hts) (c_10 h0) rfl rfl ⟨⟨rfl, rfl⟩, Nat.le_of_ble_eq_true rfl, Nat.le_of_ble_eq_true rfl⟩ ⟨Nat.zero_le _, Nat.zero_le _⟩ rfl hl.1 rfl (Nat.le_of_ble_eq_true rfl) dX9_mixVoice_122 (fun H locs hM hS => ?_)
        obtain ⟨y23, ey23, hf⟩ := nb_e hf
        refine lv_iinc (v := y23) (lv' := [(2, .int y23), (0, .ref a0), (1, .int p1)]) hx hb dX9_mixVoice_125 hl (k := 2) rfl (by rw [← ey23]; rfl) (by decide) rfl (fun ls hl => ?_)
        refine lv_goto (tgt := 107) hx hb dX9_mixVoice_128 (by decide) ?_
        exact ih y23 _ H locs ls hM hS (lv_sub hl [1, 2, 0] rfl) hf
  have b65 : ∀ (k52 : Int32 → Mem → Option Mem), (∀ (x2 : Int32) (M : Mem) (H : Heap) (locs : List Loc) (ls : Array Slot), Mh G M H → va_S (gA G) s.heap H locs → lv_has ls 4 [(0, .ref a0), (1, .int p1), (2, .int x2)] → k52 x2 M = some M' → W p l e ({ frames := 6, cells := 0, slots := 0, locals := 147 } : Room) s m args below meth c H locs 0 0 (MQ below (QV G none M') args s 0 0 (gA G)) (F0 m 52 ls [])) → ∀ (n : Nat), ∀ (x2 : Int32) (x3 : Int32) (M : Mem) (H : Heap) (locs : List Loc) (ls : Array Slot), Mh G M H → va_S (gA G) s.heap H locs → lv_has ls 4 [(0, .ref a0), (1, .int p1), (2, .int x2), (3, .int x3)] → f_X9_mixVoice_b65 a0 p1 k52 n x2 x3 M = some M' → W p l e ({ frames := 6, cells := 0, slots := 0, locals := 147 } : Room) s m args below meth c H locs 0 0 (MQ below (QV G none M') args s 0 0 (gA G)) (F0 m 65 ls []) := by
    intro k52 hk52
    intro n
    induction n with
    | zero =>
      intro x2 x3 M H locs ls hM hS hl hf
      rw [f_X9_mixVoice_b65] at hf
      cases hf
    | succ n ih =>
      intro x2 x3 M H locs ls hM hS hl hf
      rw [f_X9_mixVoice_b65] at hf
      refine lv_iload_n hx hb dX9_mixVoice_65 rfl (lv_at hl 3 rfl) ?_
      refine lv_bipush (v := 6) hx hb dX9_mixVoice_66 (by decide) ?_
      refine lv_icmp_ge (tgt := 89) hx hb dX9_mixVoice_68 (by decide) (fun g_24 => ?_) (fun g_24 => ?_)
      · rw [if_pos g_24] at hf
        obtain ⟨y25, ey25, hf⟩ := nb_e hf
        refine lv_iinc (v := y25) (lv' := [(2, .int y25), (0, .ref a0), (1, .int p1), (3, .int x3)]) hx hb dX9_mixVoice_89 hl (k := 2) rfl (by rw [← ey25]; rfl) (by decide) rfl (fun ls hl => ?_)
        refine lv_goto (tgt := 52) hx hb dX9_mixVoice_92 (by decide) ?_
        exact hk52 y25 _ H locs ls hM hS (lv_sub hl [1, 2, 0] rfl) hf
      · rw [if_neg g_24] at hf
        refine lv_aload_n hx hb dX9_mixVoice_71 rfl (lv_at hl 0 rfl) ?_
        refine lv_aload_n hx hb dX9_mixVoice_72 rfl (lv_at hl 0 rfl) ?_
        refine lv_iload_n hx hb dX9_mixVoice_73 rfl (lv_at hl 1 rfl) ?_
        refine lv_iload_n hx hb dX9_mixVoice_74 rfl (lv_at hl 2 rfl) ?_
        refine lv_iload_n hx hb dX9_mixVoice_75 rfl (lv_at hl 3 rfl) ?_
        obtain ⟨r27, e_26, hf⟩ := vb_e hf
        refine c_Vi hx hb hml hown hts hV hK hM hS (As := [.int p1, .int x2, .int x3]) (rest := [.ref a0]) (k_X9_ofPacket G hG l a0 h0 p1 x2 x3 M e_26) w_X9_ofPacket (tk_1221 hts) (c_10 h0) rfl rfl ⟨⟨rfl, rfl⟩, Nat.le_of_ble_eq_true rfl, Nat.le_of_ble_eq_true rfl⟩ ⟨Nat.zero_le _, Nat.zero_le _⟩ rfl hl.1 rfl (Nat.le_of_ble_eq_true rfl) dX9_mixVoice_76 (fun H locs hM hS => ?_)
        refine lv_i2l hx hb dX9_mixVoice_79 rfl ?_
        obtain ⟨M29, e_28, hf⟩ := vb_e hf
        refine c_Vv hx hb hml hown hts hV hK hM hS (As := [.long r27.toInt64]) (rest := []) (k_X9_mix G hG l a0 h0 r27.toInt64 M e_28) w_X9_mix (tk_1314 hts) (c_10 h0) rfl rfl ⟨⟨rfl, rfl⟩, Nat.le_of_ble_eq_true rfl, Nat.le_of_ble_eq_true rfl⟩ ⟨Nat.zero_le _, Nat.zero_le _⟩ rfl hl.1 rfl (Nat.le_of_ble_eq_true rfl) dX9_mixVoice_80 (fun H locs hM hS => ?_)
        obtain ⟨y30, ey30, hf⟩ := nb_e hf
        refine lv_iinc (v := y30) (lv' := [(3, .int y30), (0, .ref a0), (1, .int p1), (2, .int x2)]) hx hb dX9_mixVoice_83 hl (k := 3) rfl (by rw [← ey30]; rfl) (by decide) rfl (fun ls hl => ?_)
        refine lv_goto (tgt := 65) hx hb dX9_mixVoice_86 (by decide) ?_
        exact ih x2 y30 _ H locs ls hM hS (lv_sub hl [1, 2, 3, 0] rfl) hf
  have b52 : ∀ (n : Nat), ∀ (x2 : Int32) (M : Mem) (H : Heap) (locs : List Loc) (ls : Array Slot), Mh G M H → va_S (gA G) s.heap H locs → lv_has ls 4 [(0, .ref a0), (1, .int p1), (2, .int x2)] → f_X9_mixVoice_b52 a0 p1 n x2 M = some M' → W p l e ({ frames := 6, cells := 0, slots := 0, locals := 147 } : Room) s m args below meth c H locs 0 0 (MQ below (QV G none M') args s 0 0 (gA G)) (F0 m 52 ls []) := by
    intro n
    induction n with
    | zero =>
      intro x2 M H locs ls hM hS hl hf
      rw [f_X9_mixVoice_b52] at hf
      cases hf
    | succ n ih =>
      intro x2 M H locs ls hM hS hl hf
      rw [f_X9_mixVoice_b52] at hf
      refine lv_iload_n hx hb dX9_mixVoice_52 rfl (lv_at hl 2 rfl) ?_
      refine lv_aload_n hx hb dX9_mixVoice_53 rfl (lv_at hl 0 rfl) ?_
      refine lv_iload_n hx hb dX9_mixVoice_54 rfl (lv_at hl 1 rfl) ?_
      refine lv_bipush (v := 38) hx hb dX9_mixVoice_55 (by decide) ?_
      obtain ⟨r32, e_31, hf⟩ := vb_e hf
      refine c_Vi hx hb hml hown hts hV hK hM hS (As := [.int p1, .int 38]) (rest := [.int x2]) (k_X9_of G hG l a0 h0 p1 38 M e_31) w_X9_of (tk_1037 hts) (c_10 h0) rfl rfl ⟨⟨rfl, rfl⟩, Nat.le_of_ble_eq_true rfl, Nat.le_of_ble_eq_true rfl⟩ ⟨Nat.zero_le _, Nat.zero_le _⟩ rfl hl.1 rfl (Nat.le_of_ble_eq_true rfl) dX9_mixVoice_57 (fun H locs hM hS => ?_)
      refine lv_icmp_ge (tgt := 95) hx hb dX9_mixVoice_60 (by decide) (fun g_33 => ?_) (fun g_33 => ?_)
      · rw [if_pos g_33] at hf
        refine lv_aload_n hx hb dX9_mixVoice_95 rfl (lv_at hl 0 rfl) ?_
        refine lv_aload_n hx hb dX9_mixVoice_96 rfl (lv_at hl 0 rfl) ?_
        refine lv_iload_n hx hb dX9_mixVoice_97 rfl (lv_at hl 1 rfl) ?_
        obtain ⟨r35, M36, e_34, hf⟩ := cb_e hf
        refine c_Vi hx hb hml hown hts hV hK hM hS (As := [.int p1]) (rest := [.ref a0]) (k_X9_reason G hG l a0 h0 p1 M e_34) w_X9_reason (tk_1229 hts) (c_10 h0) rfl rfl ⟨⟨rfl, rfl⟩, Nat.le_of_ble_eq_true rfl, Nat.le_of_ble_eq_true rfl⟩ ⟨Nat.zero_le _, Nat.zero_le _⟩ rfl hl.1 rfl (Nat.le_of_ble_eq_true rfl) dX9_mixVoice_98 (fun H locs hM hS => ?_)
        refine lv_i2l hx hb dX9_mixVoice_101 rfl ?_
        obtain ⟨M38, e_37, hf⟩ := vb_e hf
        refine c_Vv hx hb hml hown hts hV hK hM hS (As := [.long r35.toInt64]) (rest := []) (k_X9_mix G hG l a0 h0 r35.toInt64 M36 e_37) w_X9_mix (tk_1314 hts) (c_10 h0) rfl rfl ⟨⟨rfl, rfl⟩, Nat.le_of_ble_eq_true rfl, Nat.le_of_ble_eq_true rfl⟩ ⟨Nat.zero_le _, Nat.zero_le _⟩ rfl hl.1 rfl (Nat.le_of_ble_eq_true rfl) dX9_mixVoice_102 (fun H locs hM hS => ?_)
        refine lv_iconst (v := 0) hx hb dX9_mixVoice_105 (by decide) ?_
        refine lv_istore_n (lv' := [(2, .int 0), (0, .ref a0), (1, .int p1)]) hx hb dX9_mixVoice_106 rfl hl (by decide) rfl (fun ls hl => ?_)
        exact b107 _ 0 _ H locs ls hM hS (lv_sub hl [1, 2, 0] rfl) hf
      · rw [if_neg g_33] at hf
        refine lv_iconst (v := 0) hx hb dX9_mixVoice_63 (by decide) ?_
        refine lv_istore_n (lv' := [(3, .int 0), (0, .ref a0), (1, .int p1), (2, .int x2)]) hx hb dX9_mixVoice_64 rfl hl (by decide) rfl (fun ls hl => ?_)
        exact b65 _ ih _ x2 0 _ H locs ls hM hS (lv_sub hl [1, 2, 3, 0] rfl) hf
  have b27 : ∀ (n : Nat), ∀ (x2 : Int32) (M : Mem) (H : Heap) (locs : List Loc) (ls : Array Slot), Mh G M H → va_S (gA G) s.heap H locs → lv_has ls 4 [(0, .ref a0), (1, .int p1), (2, .int x2)] → f_X9_mixVoice_b27 a0 p1 n x2 M = some M' → W p l e ({ frames := 6, cells := 0, slots := 0, locals := 147 } : Room) s m args below meth c H locs 0 0 (MQ below (QV G none M') args s 0 0 (gA G)) (F0 m 27 ls []) := by
    intro n
    induction n with
    | zero =>
      intro x2 M H locs ls hM hS hl hf
      rw [f_X9_mixVoice_b27] at hf
      cases hf
    | succ n ih =>
      intro x2 M H locs ls hM hS hl hf
      rw [f_X9_mixVoice_b27] at hf
      refine lv_iload_n hx hb dX9_mixVoice_27 rfl (lv_at hl 2 rfl) ?_
      refine lv_bipush (v := 12) hx hb dX9_mixVoice_28 (by decide) ?_
      refine lv_icmp_ge (tgt := 50) hx hb dX9_mixVoice_30 (by decide) (fun g_39 => ?_) (fun g_39 => ?_)
      · rw [if_pos g_39] at hf
        refine lv_iconst (v := 0) hx hb dX9_mixVoice_50 (by decide) ?_
        refine lv_istore_n (lv' := [(2, .int 0), (0, .ref a0), (1, .int p1)]) hx hb dX9_mixVoice_51 rfl hl (by decide) rfl (fun ls hl => ?_)
        exact b52 _ 0 _ H locs ls hM hS (lv_sub hl [1, 2, 0] rfl) hf
      · rw [if_neg g_39] at hf
        refine lv_aload_n hx hb dX9_mixVoice_33 rfl (lv_at hl 0 rfl) ?_
        refine lv_aload_n hx hb dX9_mixVoice_34 rfl (lv_at hl 0 rfl) ?_
        refine lv_iload_n hx hb dX9_mixVoice_35 rfl (lv_at hl 1 rfl) ?_
        refine lv_iload_n hx hb dX9_mixVoice_36 rfl (lv_at hl 2 rfl) ?_
        obtain ⟨r41, e_40, hf⟩ := vb_e hf
        refine c_Vi hx hb hml hown hts hV hK hM hS (As := [.int p1, .int x2]) (rest := [.ref a0]) (k_X9_ofHearing G hG l a0 h0 p1 x2 M e_40) w_X9_ofHearing (tk_1213 hts) (c_10 h0) rfl rfl ⟨⟨rfl, rfl⟩, Nat.le_of_ble_eq_true rfl, Nat.le_of_ble_eq_true rfl⟩ ⟨Nat.zero_le _, Nat.zero_le _⟩ rfl hl.1 rfl (Nat.le_of_ble_eq_true rfl) dX9_mixVoice_37 (fun H locs hM hS => ?_)
        refine lv_i2l hx hb dX9_mixVoice_40 rfl ?_
        obtain ⟨M43, e_42, hf⟩ := vb_e hf
        refine c_Vv hx hb hml hown hts hV hK hM hS (As := [.long r41.toInt64]) (rest := []) (k_X9_mix G hG l a0 h0 r41.toInt64 M e_42) w_X9_mix (tk_1314 hts) (c_10 h0) rfl rfl ⟨⟨rfl, rfl⟩, Nat.le_of_ble_eq_true rfl, Nat.le_of_ble_eq_true rfl⟩ ⟨Nat.zero_le _, Nat.zero_le _⟩ rfl hl.1 rfl (Nat.le_of_ble_eq_true rfl) dX9_mixVoice_41 (fun H locs hM hS => ?_)
        obtain ⟨y44, ey44, hf⟩ := nb_e hf
        refine lv_iinc (v := y44) (lv' := [(2, .int y44), (0, .ref a0), (1, .int p1)]) hx hb dX9_mixVoice_44 hl (k := 2) rfl (by rw [← ey44]; rfl) (by decide) rfl (fun ls hl => ?_)
        refine lv_goto (tgt := 27) hx hb dX9_mixVoice_47 (by decide) ?_
        exact ih y44 _ H locs ls hM hS (lv_sub hl [1, 2, 0] rfl) hf
  have b2 : ∀ (n : Nat), ∀ (x2 : Int32) (M : Mem) (H : Heap) (locs : List Loc) (ls : Array Slot), Mh G M H → va_S (gA G) s.heap H locs → lv_has ls 4 [(0, .ref a0), (1, .int p1), (2, .int x2)] → f_X9_mixVoice_b2 a0 p1 n x2 M = some M' → W p l e ({ frames := 6, cells := 0, slots := 0, locals := 147 } : Room) s m args below meth c H locs 0 0 (MQ below (QV G none M') args s 0 0 (gA G)) (F0 m 2 ls []) := by
    intro n
    induction n with
    | zero =>
      intro x2 M H locs ls hM hS hl hf
      rw [f_X9_mixVoice_b2] at hf
      cases hf
    | succ n ih =>
      intro x2 M H locs ls hM hS hl hf
      rw [f_X9_mixVoice_b2] at hf
      refine lv_iload_n hx hb dX9_mixVoice_2 rfl (lv_at hl 2 rfl) ?_
      refine lv_bipush (v := 10) hx hb dX9_mixVoice_3 (by decide) ?_
      refine lv_icmp_ge (tgt := 25) hx hb dX9_mixVoice_5 (by decide) (fun g_45 => ?_) (fun g_45 => ?_)
      · rw [if_pos g_45] at hf
        refine lv_iconst (v := 0) hx hb dX9_mixVoice_25 (by decide) ?_
        refine lv_istore_n (lv' := [(2, .int 0), (0, .ref a0), (1, .int p1)]) hx hb dX9_mixVoice_26 rfl hl (by decide) rfl (fun ls hl => ?_)
        exact b27 _ 0 _ H locs ls hM hS (lv_sub hl [1, 2, 0] rfl) hf
      · rw [if_neg g_45] at hf
        refine lv_aload_n hx hb dX9_mixVoice_8 rfl (lv_at hl 0 rfl) ?_
        refine lv_aload_n hx hb dX9_mixVoice_9 rfl (lv_at hl 0 rfl) ?_
        refine lv_iload_n hx hb dX9_mixVoice_10 rfl (lv_at hl 1 rfl) ?_
        refine lv_iload_n hx hb dX9_mixVoice_11 rfl (lv_at hl 2 rfl) ?_
        obtain ⟨r47, e_46, hf⟩ := vb_e hf
        refine c_Vi hx hb hml hown hts hV hK hM hS (As := [.int p1, .int x2]) (rest := [.ref a0]) (k_X9_ofSaying G hG l a0 h0 p1 x2 M e_46) w_X9_ofSaying (tk_1205 hts) (c_10 h0) rfl rfl ⟨⟨rfl, rfl⟩, Nat.le_of_ble_eq_true rfl, Nat.le_of_ble_eq_true rfl⟩ ⟨Nat.zero_le _, Nat.zero_le _⟩ rfl hl.1 rfl (Nat.le_of_ble_eq_true rfl) dX9_mixVoice_12 (fun H locs hM hS => ?_)
        refine lv_i2l hx hb dX9_mixVoice_15 rfl ?_
        obtain ⟨M49, e_48, hf⟩ := vb_e hf
        refine c_Vv hx hb hml hown hts hV hK hM hS (As := [.long r47.toInt64]) (rest := []) (k_X9_mix G hG l a0 h0 r47.toInt64 M e_48) w_X9_mix (tk_1314 hts) (c_10 h0) rfl rfl ⟨⟨rfl, rfl⟩, Nat.le_of_ble_eq_true rfl, Nat.le_of_ble_eq_true rfl⟩ ⟨Nat.zero_le _, Nat.zero_le _⟩ rfl hl.1 rfl (Nat.le_of_ble_eq_true rfl) dX9_mixVoice_16 (fun H locs hM hS => ?_)
        obtain ⟨y50, ey50, hf⟩ := nb_e hf
        refine lv_iinc (v := y50) (lv' := [(2, .int y50), (0, .ref a0), (1, .int p1)]) hx hb dX9_mixVoice_19 hl (k := 2) rfl (by rw [← ey50]; rfl) (by decide) rfl (fun ls hl => ?_)
        refine lv_goto (tgt := 2) hx hb dX9_mixVoice_22 (by decide) ?_
        exact ih y50 _ H locs ls hM hS (lv_sub hl [1, 2, 0] rfl) hf
  rw [f_X9_mixVoice] at hf
  obtain ⟨H, hHe⟩ : ∃ H, H = s.heap := ⟨_, rfl⟩
  obtain ⟨locs, hLe⟩ : ∃ L : List Loc, L = [] := ⟨_, rfl⟩
  rw [← hHe] at hM
  have hS : va_S (gA G) s.heap H locs := by rw [hHe, hLe]; exact va_S.rf
  suffices hW : W p l e ({ frames := 6, cells := 0, slots := 0, locals := 147 } : Room) s m args below meth c H locs 0 0 (MQ below (QV G none M') args s 0 0 (gA G)) (F0 m 0 ls []) by rw [hHe, hLe] at hW; exact hW
  refine lv_iconst (v := 0) hx hb dX9_mixVoice_0 (by decide) ?_
  refine lv_istore_n (lv' := [(2, .int 0), (0, .ref a0), (1, .int p1)]) hx hb dX9_mixVoice_1 rfl hl (by decide) rfl (fun ls hl => ?_)
  exact b2 _ 0 _ H locs ls hM hS (lv_sub hl [1, 2, 0] rfl) hf
def f_Jxf58ca_isNaN_12338 (p0 : UInt32) (M : Mem) : Option Int32 := if (Op.cmpValue (FP.fcmp p0 p0) .l) = 0 then (some 0) else (some 1)
set_option maxHeartbeats 4000000 in
set_option maxRecDepth 100000 in
theorem k_Jxf58ca_isNaN_12338 (G : Gt) (hG : gOK G) (l : Launch) (p0 : UInt32) (M : Mem) {r : Int32} (hf : f_Jxf58ca_isNaN_12338 p0 M = some r) : Kc G l yJxf58ca_isNaN_12338 cJxf58ca_isNaN_12338 1 (some .boolean) ({ frames := 0, cells := 0, slots := 0, locals := 0 } : Room) [.float p0] M (some (.int r)) M := by
  refine startF (by decide +kernel) (Nat.le_of_ble_eq_true rfl) ?_
  intro p e s m args below meth c ls hx hb hr hown hml hlocks hts hV hM hl
  have hown : s.vm.findClass "java/lang/Float" = some m.cls := hown
  have hK := hG.1.moved hV
  have hS : va_S (gA G) s.heap s.heap [] := va_S.rf
  have hl : lv_has ls 1 [(0, .float p0)] := hl
  have hM0 := hM
  rw [f_Jxf58ca_isNaN_12338] at hf
  refine lv_fload_n hx hb dJxf58ca_isNaN_12338_0 rfl (lv_at hl 0 rfl) ?_
  refine lv_fload_n hx hb dJxf58ca_isNaN_12338_1 rfl (lv_at hl 0 rfl) ?_
  refine lv_fcmp hx hb dJxf58ca_isNaN_12338_2 ?_
  refine lv_if_eq (tgt := 10) hx hb dJxf58ca_isNaN_12338_3 (by decide) (fun g_1 => ?_) (fun g_1 => ?_)
  · rw [if_pos g_1] at hf
    refine lv_iconst (v := 0) hx hb dJxf58ca_isNaN_12338_10 (by decide) ?_
    exact ef_zp hx hb hr hlocks hM hS (nz_n (Or.inl rfl)) hf dJxf58ca_isNaN_12338_11
  · rw [if_neg g_1] at hf
    refine lv_iconst (v := 1) hx hb dJxf58ca_isNaN_12338_6 (by decide) ?_
    refine lv_goto (tgt := 11) hx hb dJxf58ca_isNaN_12338_7 (by decide) ?_
    exact ef_zp hx hb hr hlocks hM hS (nz_n (Or.inr rfl)) hf dJxf58ca_isNaN_12338_11
def f_Jxf58ca_floatToIntBits_5c35a (p0 : UInt32) (M : Mem) : Option Int32 := vb (f_Jxf58ca_isNaN_12338 p0 M) fun r2 => if r2 = 0 then (some p0.toInt32) else (some (2143289344 : Int32))
set_option maxHeartbeats 4000000 in
set_option maxRecDepth 100000 in
theorem k_Jxf58ca_floatToIntBits_5c35a (G : Gt) (hG : gOK G) (l : Launch) (p0 : UInt32) (M : Mem) {r : Int32} (hf : f_Jxf58ca_floatToIntBits_5c35a p0 M = some r) : Kc G l yJxf58ca_floatToIntBits_5c35a cJxf58ca_floatToIntBits_5c35a 1 (some .int) ({ frames := 1, cells := 0, slots := 0, locals := 23 } : Room) [.float p0] M (some (.int r)) M := by
  refine startF (by decide +kernel) (Nat.le_of_ble_eq_true rfl) ?_
  intro p e s m args below meth c ls hx hb hr hown hml hlocks hts hV hM hl
  have hown : s.vm.findClass "java/lang/Float" = some m.cls := hown
  have hK := hG.1.moved hV
  have hS : va_S (gA G) s.heap s.heap [] := va_S.rf
  have hl : lv_has ls 1 [(0, .float p0)] := hl
  have hM0 := hM
  rw [f_Jxf58ca_floatToIntBits_5c35a] at hf
  refine lv_fload_n hx hb dJxf58ca_floatToIntBits_5c35a_0 rfl (lv_at hl 0 rfl) ?_
  obtain ⟨r2, e_1, hf⟩ := vb_e hf
  refine c_Si hx hb hml hown hts hV hM hS (As := [.float p0]) (rest := []) (k_Jxf58ca_isNaN_12338 G hG l p0 M e_1) w_Jxf58ca_isNaN_12338 (tk_1336 hts) ⟨⟨rfl, rfl⟩, Nat.le_of_ble_eq_true rfl, Nat.le_of_ble_eq_true rfl⟩ ⟨Nat.zero_le _, Nat.zero_le _⟩ rfl hl.1 rfl (Nat.le_of_ble_eq_true rfl) dJxf58ca_floatToIntBits_5c35a_1 (fun H locs hM hS => ?_)
  refine lv_if_ne (tgt := 12) hx hb dJxf58ca_floatToIntBits_5c35a_4 (by decide) (fun g_3 => ?_) (fun g_3 => ?_)
  · rw [if_neg g_3] at hf
    refine lv_ldc hx hb hown (tk_1342 hts) dJxf58ca_floatToIntBits_5c35a_12 ?_
    exact ef_ip hx hb hr hlocks hM hS hf dJxf58ca_floatToIntBits_5c35a_14
  · rw [if_pos g_3] at hf
    refine lv_fload_n hx hb dJxf58ca_floatToIntBits_5c35a_7 rfl (lv_at hl 0 rfl) ?_
    refine vn_f2i hx hb (hml.trans hl.1.symm) hown (tk_1339 hts) (tk_1341 hts) (tk_1340 hts) (tk_20 hts) (Nat.le_of_ble_eq_true rfl) (Nat.le_of_ble_eq_true rfl) dJxf58ca_floatToIntBits_5c35a_8 ?_
    exact ef_ip hx hb hr hlocks hM hS hf dJxf58ca_floatToIntBits_5c35a_11
def f_X9_digest_b117 (a0 : Nat) : Nat → Int32 → Mem → Option (Int64 × Mem)
  | 0, _, _ => none
  | n + 1, x1, M => if (mI M a0 9) ≤ x1 then (some (mJ M a0, M)) else (gd (ix x1 60) <| vb (f_X9_mix a0 ((mI M (a0 + 6) x1.toNatClampNeg).toInt64) M) fun M4 => nb (x1 + 1) fun y5 => f_X9_digest_b117 a0 n y5 M4)
def f_X9_digest_b103 (a0 : Nat) (xs0 : Int64) (qs1 : Nat) (M : Mem) : Option (Int64 × Mem) := vb (f_X9_mix qs1 xs0 M) fun M7 => vb (f_X9_mix a0 ((mI M7 a0 9).toInt64) M7) fun M9 => f_X9_digest_b117 a0 lfuel 0 M9
def f_X9_digest_b62 (a0 : Nat) : Nat → Int32 → Mem → Option (Int64 × Mem)
  | 0, _, _ => none
  | n + 1, x1, M => if (3 : Int32) ≤ x1 then (vb (f_X9_share a0 M) fun r12 => vb (f_Jxf58ca_floatToIntBits_5c35a r12 M) fun r14 => vb (f_X9_mix a0 r14.toInt64 M) fun M16 => if (mI M16 a0 4) = 0 then (f_X9_digest_b103 a0 (0 : Int64) a0 M16) else (f_X9_digest_b103 a0 (1 : Int64) a0 M16)) else (vb (f_X9_mixVoice a0 x1 M) fun M19 => nb (x1 + 1) fun y20 => f_X9_digest_b62 a0 n y20 M19)
def f_X9_digest_b38 (a0 : Nat) : Nat → Int32 → Mem → Option (Int64 × Mem)
  | 0, _, _ => none
  | n + 1, x1, M => if (4 : Int32) ≤ x1 then (f_X9_digest_b62 a0 lfuel 0 M) else (gd (ix x1 626) <| vb (f_X9_mix a0 ((mI M (a0 + 1) x1.toNatClampNeg).toInt64) M) fun M24 => nb (x1 + 1) fun y25 => f_X9_digest_b38 a0 n y25 M24)
def f_X9_digest_b14 (a0 : Nat) : Nat → Int32 → Mem → Option (Int64 × Mem)
  | 0, _, _ => none
  | n + 1, x1, M => if (8 : Int32) ≤ x1 then (f_X9_digest_b38 a0 lfuel 0 M) else (cb (f_X9_number a0 x1 M) fun r28 M29 => vb (f_X9_mix a0 r28.toInt64 M29) fun M31 => nb (x1 + 1) fun y32 => f_X9_digest_b14 a0 n y32 M31)
def f_X9_digest (a0 : Nat) (M : Mem) : Option (Int64 × Mem) := nb (sI M a0 7 0) fun M33 => nb (sJ M33 a0 (3637 : Int64)) fun M34 => f_X9_digest_b14 a0 lfuel 0 M34
set_option maxHeartbeats 4000000 in
set_option maxRecDepth 100000 in
theorem k_X9_digest (G : Gt) (hG : gOK G) (l : Launch) (a0 : Nat) (h0 : gK G a0 = 10) (M : Mem) {r : Int64} {M' : Mem} (hf : f_X9_digest a0 M = some (r, M')) : Kc G l yX9_digest cX9_digest 2 (some .long) ({ frames := 8, cells := 0, slots := 0, locals := 190 } : Room) [.ref a0] M (some (.long r)) M' := by
  refine start (by decide) (Nat.le_of_ble_eq_true rfl) ?_
  intro p e s m args below meth c ls hx hb hr hown hml hlocks hts hV hM hl
  have hown : s.vm.findClass "FoldedVoicesModel" = some m.cls := hown
  have hK := hG.1.moved hV
  have hS : va_S (gA G) s.heap s.heap [] := va_S.rf
  have hl : lv_has ls 2 [(0, .ref a0)] := hl
  have hM0 := hM
  have b117 : ∀ (n : Nat), ∀ (x1 : Int32) (M : Mem) (H : Heap) (locs : List Loc) (ls : Array Slot), Mh G M H → va_S (gA G) s.heap H locs → lv_has ls 2 [(0, .ref a0), (1, .int x1)] → f_X9_digest_b117 a0 n x1 M = some (r, M') → W p l e ({ frames := 8, cells := 0, slots := 0, locals := 190 } : Room) s m args below meth c H locs 0 0 (MQ below (QV G (some (.long r)) M') args s 0 0 (gA G)) (F0 m 117 ls []) := by
    intro n
    induction n with
    | zero =>
      intro x1 M H locs ls hM hS hl hf
      rw [f_X9_digest_b117] at hf
      cases hf
    | succ n ih =>
      intro x1 M H locs ls hM hS hl hf
      rw [f_X9_digest_b117] at hf
      refine lv_iload_n hx hb dX9_digest_117 rfl (lv_at hl 1 rfl) ?_
      refine lv_aload_n hx hb dX9_digest_118 rfl (lv_at hl 0 rfl) ?_
      refine s_get hx hb (lay_9 hts) hown hK hM (c_10 h0) rfl 9 (by decide) rfl rfl (tk_972 hts) dX9_digest_119 ?_
      refine lv_icmp_ge (tgt := 142) hx hb dX9_digest_122 (by decide) (fun g_1 => ?_) (fun g_1 => ?_)
      · rw [if_pos g_1] at hf
        refine lv_aload_n hx hb dX9_digest_142 rfl (lv_at hl 0 rfl) ?_
        refine s_get hx hb (lay_9 hts) hown hK hM (c_10 h0) rfl 15 (by decide) rfl rfl (tk_978 hts) dX9_digest_143 ?_
        exact ef_lm hx hb hr hlocks hM hS hf dX9_digest_146
      · rw [if_neg g_1] at hf
        refine lv_aload_n hx hb dX9_digest_125 rfl (lv_at hl 0 rfl) ?_
        refine lv_aload_n hx hb dX9_digest_126 rfl (lv_at hl 0 rfl) ?_
        refine s_get hx hb (lay_9 hts) hown hK hM (c_10 h0) rfl 8 (by decide) rfl rfl (tk_971 hts) dX9_digest_127 ?_
        refine lv_iload_n hx hb dX9_digest_130 rfl (lv_at hl 1 rfl) ?_
        obtain ⟨h_2, hf⟩ := gd_e hf
        refine s_iald 60 hx hb hK hM (ky_10_8 hG h0) (by decide) h_2 dX9_digest_131 ?_
        refine lv_i2l hx hb dX9_digest_132 rfl ?_
        obtain ⟨M4, e_3, hf⟩ := vb_e hf
        refine c_Vv hx hb hml hown hts hV hK hM hS (As := [.long ((mI M (a0 + 6) x1.toNatClampNeg).toInt64)]) (rest := []) (k_X9_mix G hG l a0 h0 ((mI M (a0 + 6) x1.toNatClampNeg).toInt64) M e_3) w_X9_mix (tk_1314 hts) (c_10 h0) rfl rfl ⟨⟨rfl, rfl⟩, Nat.le_of_ble_eq_true rfl, Nat.le_of_ble_eq_true rfl⟩ ⟨Nat.zero_le _, Nat.zero_le _⟩ rfl hl.1 rfl (Nat.le_of_ble_eq_true rfl) dX9_digest_133 (fun H locs hM hS => ?_)
        obtain ⟨y5, ey5, hf⟩ := nb_e hf
        refine lv_iinc (v := y5) (lv' := [(1, .int y5), (0, .ref a0)]) hx hb dX9_digest_136 hl (k := 1) rfl (by rw [← ey5]; rfl) (by decide) rfl (fun ls hl => ?_)
        refine lv_goto (tgt := 117) hx hb dX9_digest_139 (by decide) ?_
        exact ih y5 _ H locs ls hM hS (lv_sub hl [1, 0] rfl) hf
  have b103 : ∀ (xs0 : Int64) (qs1 : Nat) (M : Mem) (H : Heap) (locs : List Loc) (ls : Array Slot), gK G qs1 = 10 → Mh G M H → va_S (gA G) s.heap H locs → lv_has ls 2 [(0, .ref a0)] → f_X9_digest_b103 a0 xs0 qs1 M = some (r, M') → W p l e ({ frames := 8, cells := 0, slots := 0, locals := 190 } : Room) s m args below meth c H locs 0 0 (MQ below (QV G (some (.long r)) M') args s 0 0 (gA G)) (F0 m 103 ls [.long xs0, .ref qs1]) := by
    intro xs0 qs1 M H locs ls h_qs1 hM hS hl hf
    rw [f_X9_digest_b103] at hf
    obtain ⟨M7, e_6, hf⟩ := vb_e hf
    refine c_Vv hx hb hml hown hts hV hK hM hS (As := [.long xs0]) (rest := []) (k_X9_mix G hG l qs1 h_qs1 xs0 M e_6) w_X9_mix (tk_1314 hts) (c_10 h_qs1) rfl rfl ⟨⟨rfl, rfl⟩, Nat.le_of_ble_eq_true rfl, Nat.le_of_ble_eq_true rfl⟩ ⟨Nat.zero_le _, Nat.zero_le _⟩ rfl hl.1 rfl (Nat.le_of_ble_eq_true rfl) dX9_digest_103 (fun H locs hM hS => ?_)
    refine lv_aload_n hx hb dX9_digest_106 rfl (lv_at hl 0 rfl) ?_
    refine lv_aload_n hx hb dX9_digest_107 rfl (lv_at hl 0 rfl) ?_
    refine s_get hx hb (lay_9 hts) hown hK hM (c_10 h0) rfl 9 (by decide) rfl rfl (tk_972 hts) dX9_digest_108 ?_
    refine lv_i2l hx hb dX9_digest_111 rfl ?_
    obtain ⟨M9, e_8, hf⟩ := vb_e hf
    refine c_Vv hx hb hml hown hts hV hK hM hS (As := [.long ((mI M7 a0 9).toInt64)]) (rest := []) (k_X9_mix G hG l a0 h0 ((mI M7 a0 9).toInt64) M7 e_8) w_X9_mix (tk_1314 hts) (c_10 h0) rfl rfl ⟨⟨rfl, rfl⟩, Nat.le_of_ble_eq_true rfl, Nat.le_of_ble_eq_true rfl⟩ ⟨Nat.zero_le _, Nat.zero_le _⟩ rfl hl.1 rfl (Nat.le_of_ble_eq_true rfl) dX9_digest_112 (fun H locs hM hS => ?_)
    refine lv_iconst (v := 0) hx hb dX9_digest_115 (by decide) ?_
    refine lv_istore_n (lv' := [(1, .int 0), (0, .ref a0)]) hx hb dX9_digest_116 rfl hl (by decide) rfl (fun ls hl => ?_)
    exact b117 _ 0 _ H locs ls hM hS (lv_sub hl [1, 0] rfl) hf
  have b62 : ∀ (n : Nat), ∀ (x1 : Int32) (M : Mem) (H : Heap) (locs : List Loc) (ls : Array Slot), Mh G M H → va_S (gA G) s.heap H locs → lv_has ls 2 [(0, .ref a0), (1, .int x1)] → f_X9_digest_b62 a0 n x1 M = some (r, M') → W p l e ({ frames := 8, cells := 0, slots := 0, locals := 190 } : Room) s m args below meth c H locs 0 0 (MQ below (QV G (some (.long r)) M') args s 0 0 (gA G)) (F0 m 62 ls []) := by
    intro n
    induction n with
    | zero =>
      intro x1 M H locs ls hM hS hl hf
      rw [f_X9_digest_b62] at hf
      cases hf
    | succ n ih =>
      intro x1 M H locs ls hM hS hl hf
      rw [f_X9_digest_b62] at hf
      refine lv_iload_n hx hb dX9_digest_62 rfl (lv_at hl 1 rfl) ?_
      refine lv_iconst (v := 3) hx hb dX9_digest_63 (by decide) ?_
      refine lv_icmp_ge (tgt := 78) hx hb dX9_digest_64 (by decide) (fun g_10 => ?_) (fun g_10 => ?_)
      · rw [if_pos g_10] at hf
        refine lv_aload_n hx hb dX9_digest_78 rfl (lv_at hl 0 rfl) ?_
        refine lv_aload_n hx hb dX9_digest_79 rfl (lv_at hl 0 rfl) ?_
        obtain ⟨r12, e_11, hf⟩ := vb_e hf
        refine c_Vf hx hb hml hown hts hV hK hM hS (As := []) (rest := [.ref a0]) (k_X9_share G hG l a0 h0 M e_11) w_X9_share (tk_1305 hts) (c_10 h0) rfl rfl ⟨⟨rfl, rfl⟩, Nat.le_of_ble_eq_true rfl, Nat.le_of_ble_eq_true rfl⟩ ⟨Nat.zero_le _, Nat.zero_le _⟩ rfl hl.1 rfl (Nat.le_of_ble_eq_true rfl) dX9_digest_80 (fun H locs hM hS => ?_)
        obtain ⟨r14, e_13, hf⟩ := vb_e hf
        refine c_Si hx hb hml hown hts hV hM hS (As := [.float r12]) (rest := [.ref a0]) (k_Jxf58ca_floatToIntBits_5c35a G hG l r12 M e_13) w_Jxf58ca_floatToIntBits_5c35a (tk_1333 hts) ⟨⟨rfl, rfl⟩, Nat.le_of_ble_eq_true rfl, Nat.le_of_ble_eq_true rfl⟩ ⟨Nat.zero_le _, Nat.zero_le _⟩ rfl hl.1 rfl (Nat.le_of_ble_eq_true rfl) dX9_digest_83 (fun H locs hM hS => ?_)
        refine lv_i2l hx hb dX9_digest_86 rfl ?_
        obtain ⟨M16, e_15, hf⟩ := vb_e hf
        refine c_Vv hx hb hml hown hts hV hK hM hS (As := [.long r14.toInt64]) (rest := []) (k_X9_mix G hG l a0 h0 r14.toInt64 M e_15) w_X9_mix (tk_1314 hts) (c_10 h0) rfl rfl ⟨⟨rfl, rfl⟩, Nat.le_of_ble_eq_true rfl, Nat.le_of_ble_eq_true rfl⟩ ⟨Nat.zero_le _, Nat.zero_le _⟩ rfl hl.1 rfl (Nat.le_of_ble_eq_true rfl) dX9_digest_87 (fun H locs hM hS => ?_)
        refine lv_aload_n hx hb dX9_digest_90 rfl (lv_at hl 0 rfl) ?_
        refine lv_aload_n hx hb dX9_digest_91 rfl (lv_at hl 0 rfl) ?_
        refine s_get hx hb (lay_9 hts) hown hK hM (c_10 h0) rfl 4 (by decide) rfl rfl (tk_967 hts) dX9_digest_92 ?_
        refine lv_if_eq (tgt := 102) hx hb dX9_digest_95 (by decide) (fun g_17 => ?_) (fun g_17 => ?_)
        · rw [if_pos g_17] at hf
          refine lv_lconst (v := 0) hx hb dX9_digest_102 (by decide) ?_
          exact b103 (0 : Int64) a0 _ H locs ls h0 hM hS (lv_sub hl [0] rfl) hf
        · rw [if_neg g_17] at hf
          refine lv_lconst (v := 1) hx hb dX9_digest_98 (by decide) ?_
          refine lv_goto (tgt := 103) hx hb dX9_digest_99 (by decide) ?_
          exact b103 (1 : Int64) a0 _ H locs ls h0 hM hS (lv_sub hl [0] rfl) hf
      · rw [if_neg g_10] at hf
        refine lv_aload_n hx hb dX9_digest_67 rfl (lv_at hl 0 rfl) ?_
        refine lv_iload_n hx hb dX9_digest_68 rfl (lv_at hl 1 rfl) ?_
        obtain ⟨M19, e_18, hf⟩ := vb_e hf
        refine c_Vv hx hb hml hown hts hV hK hM hS (As := [.int x1]) (rest := []) (k_X9_mixVoice G hG l a0 h0 x1 M e_18) w_X9_mixVoice (tk_1319 hts) (c_10 h0) rfl rfl ⟨⟨rfl, rfl⟩, Nat.le_of_ble_eq_true rfl, Nat.le_of_ble_eq_true rfl⟩ ⟨Nat.zero_le _, Nat.zero_le _⟩ rfl hl.1 rfl (Nat.le_of_ble_eq_true rfl) dX9_digest_69 (fun H locs hM hS => ?_)
        obtain ⟨y20, ey20, hf⟩ := nb_e hf
        refine lv_iinc (v := y20) (lv' := [(1, .int y20), (0, .ref a0)]) hx hb dX9_digest_72 hl (k := 1) rfl (by rw [← ey20]; rfl) (by decide) rfl (fun ls hl => ?_)
        refine lv_goto (tgt := 62) hx hb dX9_digest_75 (by decide) ?_
        exact ih y20 _ H locs ls hM hS (lv_sub hl [1, 0] rfl) hf
  have b38 : ∀ (n : Nat), ∀ (x1 : Int32) (M : Mem) (H : Heap) (locs : List Loc) (ls : Array Slot), Mh G M H → va_S (gA G) s.heap H locs → lv_has ls 2 [(0, .ref a0), (1, .int x1)] → f_X9_digest_b38 a0 n x1 M = some (r, M') → W p l e ({ frames := 8, cells := 0, slots := 0, locals := 190 } : Room) s m args below meth c H locs 0 0 (MQ below (QV G (some (.long r)) M') args s 0 0 (gA G)) (F0 m 38 ls []) := by
    intro n
    induction n with
    | zero =>
      intro x1 M H locs ls hM hS hl hf
      rw [f_X9_digest_b38] at hf
      cases hf
    | succ n ih =>
      intro x1 M H locs ls hM hS hl hf
      rw [f_X9_digest_b38] at hf
      refine lv_iload_n hx hb dX9_digest_38 rfl (lv_at hl 1 rfl) ?_
      refine lv_iconst (v := 4) hx hb dX9_digest_39 (by decide) ?_
      refine lv_icmp_ge (tgt := 60) hx hb dX9_digest_40 (by decide) (fun g_21 => ?_) (fun g_21 => ?_)
      · rw [if_pos g_21] at hf
        refine lv_iconst (v := 0) hx hb dX9_digest_60 (by decide) ?_
        refine lv_istore_n (lv' := [(1, .int 0), (0, .ref a0)]) hx hb dX9_digest_61 rfl hl (by decide) rfl (fun ls hl => ?_)
        exact b62 _ 0 _ H locs ls hM hS (lv_sub hl [1, 0] rfl) hf
      · rw [if_neg g_21] at hf
        refine lv_aload_n hx hb dX9_digest_43 rfl (lv_at hl 0 rfl) ?_
        refine lv_aload_n hx hb dX9_digest_44 rfl (lv_at hl 0 rfl) ?_
        refine s_get hx hb (lay_9 hts) hown hK hM (c_10 h0) rfl 0 (by decide) rfl rfl (tk_963 hts) dX9_digest_45 ?_
        refine lv_iload_n hx hb dX9_digest_48 rfl (lv_at hl 1 rfl) ?_
        obtain ⟨h_22, hf⟩ := gd_e hf
        refine s_iald 626 hx hb hK hM (ky_10_0 hG h0) (by decide) h_22 dX9_digest_49 ?_
        refine lv_i2l hx hb dX9_digest_50 rfl ?_
        obtain ⟨M24, e_23, hf⟩ := vb_e hf
        refine c_Vv hx hb hml hown hts hV hK hM hS (As := [.long ((mI M (a0 + 1) x1.toNatClampNeg).toInt64)]) (rest := []) (k_X9_mix G hG l a0 h0 ((mI M (a0 + 1) x1.toNatClampNeg).toInt64) M e_23) w_X9_mix (tk_1314 hts) (c_10 h0) rfl rfl ⟨⟨rfl, rfl⟩, Nat.le_of_ble_eq_true rfl, Nat.le_of_ble_eq_true rfl⟩ ⟨Nat.zero_le _, Nat.zero_le _⟩ rfl hl.1 rfl (Nat.le_of_ble_eq_true rfl) dX9_digest_51 (fun H locs hM hS => ?_)
        obtain ⟨y25, ey25, hf⟩ := nb_e hf
        refine lv_iinc (v := y25) (lv' := [(1, .int y25), (0, .ref a0)]) hx hb dX9_digest_54 hl (k := 1) rfl (by rw [← ey25]; rfl) (by decide) rfl (fun ls hl => ?_)
        refine lv_goto (tgt := 38) hx hb dX9_digest_57 (by decide) ?_
        exact ih y25 _ H locs ls hM hS (lv_sub hl [1, 0] rfl) hf
  have b14 : ∀ (n : Nat), ∀ (x1 : Int32) (M : Mem) (H : Heap) (locs : List Loc) (ls : Array Slot), Mh G M H → va_S (gA G) s.heap H locs → lv_has ls 2 [(0, .ref a0), (1, .int x1)] → f_X9_digest_b14 a0 n x1 M = some (r, M') → W p l e ({ frames := 8, cells := 0, slots := 0, locals := 190 } : Room) s m args below meth c H locs 0 0 (MQ below (QV G (some (.long r)) M') args s 0 0 (gA G)) (F0 m 14 ls []) := by
    intro n
    induction n with
    | zero =>
      intro x1 M H locs ls hM hS hl hf
      rw [f_X9_digest_b14] at hf
      cases hf
    | succ n ih =>
      intro x1 M H locs ls hM hS hl hf
      rw [f_X9_digest_b14] at hf
      refine lv_iload_n hx hb dX9_digest_14 rfl (lv_at hl 1 rfl) ?_
      refine lv_bipush (v := 8) hx hb dX9_digest_15 (by decide) ?_
      refine lv_icmp_ge (tgt := 36) hx hb dX9_digest_17 (by decide) (fun g_26 => ?_) (fun g_26 => ?_)
      · rw [if_pos g_26] at hf
        refine lv_iconst (v := 0) hx hb dX9_digest_36 (by decide) ?_
        refine lv_istore_n (lv' := [(1, .int 0), (0, .ref a0)]) hx hb dX9_digest_37 rfl hl (by decide) rfl (fun ls hl => ?_)
        exact b38 _ 0 _ H locs ls hM hS (lv_sub hl [1, 0] rfl) hf
      · rw [if_neg g_26] at hf
        refine lv_aload_n hx hb dX9_digest_20 rfl (lv_at hl 0 rfl) ?_
        refine lv_aload_n hx hb dX9_digest_21 rfl (lv_at hl 0 rfl) ?_
        refine lv_iload_n hx hb dX9_digest_22 rfl (lv_at hl 1 rfl) ?_
        obtain ⟨r28, M29, e_27, hf⟩ := cb_e hf
        refine c_Vi hx hb hml hown hts hV hK hM hS (As := [.int x1]) (rest := [.ref a0]) (k_X9_number G hG l a0 h0 x1 M e_27) w_X9_number (tk_1249 hts) (c_10 h0) rfl rfl ⟨⟨rfl, rfl⟩, Nat.le_of_ble_eq_true rfl, Nat.le_of_ble_eq_true rfl⟩ ⟨Nat.zero_le _, Nat.zero_le _⟩ rfl hl.1 rfl (Nat.le_of_ble_eq_true rfl) dX9_digest_23 (fun H locs hM hS => ?_)
        refine lv_i2l hx hb dX9_digest_26 rfl ?_
        obtain ⟨M31, e_30, hf⟩ := vb_e hf
        refine c_Vv hx hb hml hown hts hV hK hM hS (As := [.long r28.toInt64]) (rest := []) (k_X9_mix G hG l a0 h0 r28.toInt64 M29 e_30) w_X9_mix (tk_1314 hts) (c_10 h0) rfl rfl ⟨⟨rfl, rfl⟩, Nat.le_of_ble_eq_true rfl, Nat.le_of_ble_eq_true rfl⟩ ⟨Nat.zero_le _, Nat.zero_le _⟩ rfl hl.1 rfl (Nat.le_of_ble_eq_true rfl) dX9_digest_27 (fun H locs hM hS => ?_)
        obtain ⟨y32, ey32, hf⟩ := nb_e hf
        refine lv_iinc (v := y32) (lv' := [(1, .int y32), (0, .ref a0)]) hx hb dX9_digest_30 hl (k := 1) rfl (by rw [← ey32]; rfl) (by decide) rfl (fun ls hl => ?_)
        refine lv_goto (tgt := 14) hx hb dX9_digest_33 (by decide) ?_
        exact ih y32 _ H locs ls hM hS (lv_sub hl [1, 0] rfl) hf
  rw [f_X9_digest] at hf
  obtain ⟨H, hHe⟩ : ∃ H, H = s.heap := ⟨_, rfl⟩
  obtain ⟨locs, hLe⟩ : ∃ L : List Loc, L = [] := ⟨_, rfl⟩
  rw [← hHe] at hM
  have hS : va_S (gA G) s.heap H locs := by rw [hHe, hLe]; exact va_S.rf
  suffices hW : W p l e ({ frames := 8, cells := 0, slots := 0, locals := 190 } : Room) s m args below meth c H locs 0 0 (MQ below (QV G (some (.long r)) M') args s 0 0 (gA G)) (F0 m 0 ls []) by rw [hHe, hLe] at hW; exact hW
  refine lv_aload_n hx hb dX9_digest_0 rfl (lv_at hl 0 rfl) ?_
  refine lv_iconst (v := 0) hx hb dX9_digest_1 (by decide) ?_
  obtain ⟨M33, eM33, hf⟩ := nb_e hf
  refine s_put tyX9 hx hb (lay_9 hts) tyX9_ok nmX9 hown hK hM hS (ky_b hG h0) (c_10 h0) rfl 7 (by decide) rfl rfl rfl (Nat.le_of_ble_eq_true rfl) (cp_9_7 h0) (fun _ h9 => cel_sI _ h9) hM.2.2.sI rfl (tk_970 hts) dX9_digest_2 (fun H locs hM hS => ?_)
  rw [eM33] at hM
  refine lv_aload_n hx hb dX9_digest_5 rfl (lv_at hl 0 rfl) ?_
  refine lv_ldc2 hx hb hown (tk_1313 hts) dX9_digest_6 ?_
  obtain ⟨M34, eM34, hf⟩ := nb_e hf
  refine s_put tyX9 hx hb (lay_9 hts) tyX9_ok nmX9 hown hK hM hS (ky_b hG h0) (c_10 h0) rfl 15 (by decide) rfl rfl rfl (Nat.le_of_ble_eq_true rfl) (cp_9_15 h0) (fun _ h9 => cel_sJ _ h9) hM.2.2.sJ rfl (tk_978 hts) dX9_digest_9 (fun H locs hM hS => ?_)
  rw [eM34] at hM
  refine lv_iconst (v := 0) hx hb dX9_digest_12 (by decide) ?_
  refine lv_istore_n (lv' := [(1, .int 0), (0, .ref a0)]) hx hb dX9_digest_13 rfl hl (by decide) rfl (fun ls hl => ?_)
  exact b14 _ 0 _ H locs ls hM hS (lv_sub hl [1, 0] rfl) hf
