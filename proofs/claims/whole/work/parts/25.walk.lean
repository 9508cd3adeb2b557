def f_X9_takes_b21 (a0 : Nat) (p1 : Int32) (p2 : Int32) (x3 : Int32) (xs0 : Int32) (xs1 : Int32) (qs2 : Nat) (M : Mem) : Option (Int32 × Mem) := nb (sI M qs2 10 (xs1 + xs0)) fun M1 => gd (x3 = 0 ∨ x3 = 1) <| some (x3, M1)
def f_X9_takes (a0 : Nat) (p1 : Int32) (p2 : Int32) (M : Mem) : Option (Int32 × Mem) := vb (f_X9_isAt a0 p1 p2 M) fun r4 => if r4 = 0 then (f_X9_takes_b21 a0 p1 p2 r4 0 (mI M a0 10) a0 M) else (f_X9_takes_b21 a0 p1 p2 r4 1 (mI M a0 10) a0 M)
set_option maxHeartbeats 4000000 in
set_option maxRecDepth 100000 in
theorem k_X9_takes (G : Gt) (hG : gOK G) (l : Launch) (a0 : Nat) (h0 : gK G a0 = 10) (p1 : Int32) (p2 : Int32) (M : Mem) {r : Int32} {M' : Mem} (hf : f_X9_takes a0 p1 p2 M = some (r, M')) : Kc G l yX9_takes cX9_takes 4 (some .boolean) ({ frames := 2, cells := 0, slots := 0, locals := 44 } : Room) [.ref a0, .int p1, .int p2] M (some (.int r)) M' := by
  refine start (by decide) (Nat.le_of_ble_eq_true rfl) ?_
  intro p e s m args below meth c ls hx hb hr hown hml hlocks hts hV hM hl
  have hown : s.vm.findClass "FoldedVoicesModel" = some m.cls := hown
  have hK := hG.1.moved hV
  have hS : va_S (gA G) s.heap s.heap [] := va_S.rf
  have hl : lv_has ls 4 [(0, .ref a0), (1, .int p1), (2, .int p2)] := hl
  have hM0 := hM
  have b21 : ∀ (x3 : Int32) (xs0 : Int32) (xs1 : Int32) (qs2 : Nat) (M : Mem) (H : Heap) (locs : List Loc) (ls : Array Slot), gK G qs2 = 10 → Mh G M H → va_S (gA G) s.heap H locs → lv_has ls 4 [(0, .ref a0), (1, .int p1), (2, .int p2), (3, .int x3)] → f_X9_takes_b21 a0 p1 p2 x3 xs0 xs1 qs2 M = some (r, M') → W p l e ({ frames := 2, cells := 0, slots := 0, locals := 44 } : Room) s m args below meth c H locs 0 0 (MQ below (QV G (some (.int r)) M') args s 0 0 (gA G)) (F0 m 21 ls [.int xs0, .int xs1, .ref qs2]) := by
    intro x3 xs0 xs1 qs2 M H locs ls h_qs2 hM hS hl hf
    rw [f_X9_takes_b21] at hf
    refine lv_iadd hx hb dX9_takes_21 ?_
    obtain ⟨M1, eM1, hf⟩ := nb_e hf
    refine s_put tyX9 hx hb (lay_9 hts) tyX9_ok nmX9 hown hK hM hS (ky_b hG h_qs2) (c_10 h_qs2) rfl 10 (by decide) rfl rfl rfl (Nat.le_of_ble_eq_true rfl) (cp_9_10 h_qs2) (fun _ h9 => cel_sI _ h9) hM.2.2.sI rfl (tk_973 hts) dX9_takes_22 (fun H locs hM hS => ?_)
    rw [eM1] at hM
    refine lv_iload_n hx hb dX9_takes_25 rfl (lv_at hl 3 rfl) ?_
    obtain ⟨h_2, hf⟩ := gd_e hf
    exact ef_zm hx hb hr hlocks hM hS (nz_n h_2) hf dX9_takes_26
  rw [f_X9_takes] at hf
  obtain ⟨H, hHe⟩ : ∃ H, H = s.heap := ⟨_, rfl⟩
  obtain ⟨locs, hLe⟩ : ∃ L : List Loc, L = [] := ⟨_, rfl⟩
  rw [← hHe] at hM
  have hS : va_S (gA G) s.heap H locs := by rw [hHe, hLe]; exact va_S.rf
  suffices hW : W p l e ({ frames := 2, cells := 0, slots := 0, locals := 44 } : Room) s m args below meth c H locs 0 0 (MQ below (QV G (some (.int r)) M') args s 0 0 (gA G)) (F0 m 0 ls []) by rw [hHe, hLe] at hW; exact hW
  refine lv_aload_n hx hb dX9_takes_0 rfl (lv_at hl 0 rfl) ?_
  refine lv_iload_n hx hb dX9_takes_1 rfl (lv_at hl 1 rfl) ?_
  refine lv_iload_n hx hb dX9_takes_2 rfl (lv_at hl 2 rfl) ?_
  obtain ⟨r4, e_3, hf⟩ := vb_e hf
  refine c_Vi hx hb hml hown hts hV hK hM hS (As := [.int p1, .int p2]) (rest := []) (k_X9_isAt G hG l a0 h0 p1 p2 M e_3) w_X9_isAt (tk_1161 hts) (c_10 h0) rfl rfl ⟨⟨rfl, rfl⟩, Nat.le_of_ble_eq_true rfl, Nat.le_of_ble_eq_true rfl⟩ ⟨Nat.zero_le _, Nat.zero_le _⟩ rfl hl.1 rfl (Nat.le_of_ble_eq_true rfl) dX9_takes_3 (fun H locs hM hS => ?_)
  refine lv_istore_n (lv' := [(3, .int r4), (0, .ref a0), (1, .int p1), (2, .int p2)]) hx hb dX9_takes_6 rfl hl (by decide) rfl (fun ls hl => ?_)
  refine lv_aload_n hx hb dX9_takes_7 rfl (lv_at hl 1 rfl) ?_
  refine lv_dup hx hb dX9_takes_8 rfl ?_
  refine s_get hx hb (lay_9 hts) hown hK hM (c_10 h0) rfl 10 (by decide) rfl rfl (tk_973 hts) dX9_takes_9 ?_
  refine lv_iload_n hx hb dX9_takes_12 rfl (lv_at hl 0 rfl) ?_
  refine lv_if_eq (tgt := 20) hx hb dX9_takes_13 (by decide) (fun g_5 => ?_) (fun g_5 => ?_)
  · rw [if_pos g_5] at hf
    refine lv_iconst (v := 0) hx hb dX9_takes_20 (by decide) ?_
    exact b21 r4 0 (mI M a0 10) a0 _ H locs ls h0 hM hS (lv_sub hl [1, 2, 3, 0] rfl) hf
  · rw [if_neg g_5] at hf
    refine lv_iconst (v := 1) hx hb dX9_takes_16 (by decide) ?_
    refine lv_goto (tgt := 21) hx hb dX9_takes_17 (by decide) ?_
    exact b21 r4 1 (mI M a0 10) a0 _ H locs ls h0 hM hS (lv_sub hl [1, 2, 3, 0] rfl) hf
def f_X9_addDeed (a0 : Nat) (p1 : Int32) (p2 : Int32) (p3 : Int32) (M : Mem) : Option Mem := gd (ix (mI M a0 11) 32) <| nb (sI M (a0 + 7) (mI M a0 11).toNatClampNeg p1) fun M2 => gd (ix (mI M2 a0 11) 32) <| nb (sI M2 (a0 + 8) (mI M2 a0 11).toNatClampNeg p2) fun M4 => gd (ix (mI M4 a0 11) 32) <| nb (sI M4 (a0 + 9) (mI M4 a0 11).toNatClampNeg p3) fun M6 => nb (sI M6 a0 11 ((mI M6 a0 11) + 1)) fun M7 => some M7
set_option maxHeartbeats 4000000 in
set_option maxRecDepth 100000 in
theorem k_X9_addDeed (G : Gt) (hG : gOK G) (l : Launch) (a0 : Nat) (h0 : gK G a0 = 10) (p1 : Int32) (p2 : Int32) (p3 : Int32) (M : Mem) {M' : Mem} (hf : f_X9_addDeed a0 p1 p2 p3 M = some M') : Kc G l yX9_addDeed cX9_addDeed 4 none ({ frames := 0, cells := 0, slots := 0, locals := 0 } : Room) [.ref a0, .int p1, .int p2, .int p3] M none M' := by
  refine start (by decide) (Nat.le_of_ble_eq_true rfl) ?_
  intro p e s m args below meth c ls hx hb hr hown hml hlocks hts hV hM hl
  have hown : s.vm.findClass "FoldedVoicesModel" = some m.cls := hown
  have hK := hG.1.moved hV
  have hS : va_S (gA G) s.heap s.heap [] := va_S.rf
  have hl : lv_has ls 4 [(0, .ref a0), (1, .int p1), (2, .int p2), (3, .int p3)] := hl
  have hM0 := hM
  rw [f_X9_addDeed] at hf
  refine lv_aload_n hx hb dX9_addDeed_0 rfl (lv_at hl 0 rfl) ?_
  refine s_get hx hb (lay_9 hts) hown hK hM (c_10 h0) rfl 12 (by decide) rfl rfl (tk_975 hts) dX9_addDeed_1 ?_
  refine lv_aload_n hx hb dX9_addDeed_4 rfl (lv_at hl 0 rfl) ?_
  refine s_get hx hb (lay_9 hts) hown hK hM (c_10 h0) rfl 11 (by decide) rfl rfl (tk_974 hts) dX9_addDeed_5 ?_
  refine lv_iload_n hx hb dX9_addDeed_8 rfl (lv_at hl 1 rfl) ?_
  obtain ⟨h_1, hf⟩ := gd_e hf
  obtain ⟨M2, eM2, hf⟩ := nb_e hf
  refine s_iast 32 hx hb hK hM hS (ky_10_12 hG h0) (by decide) (ky_b hG (ky_10_12 hG h0)) h_1 dX9_addDeed_9 (fun H locs hM hS => ?_)
  rw [eM2] at hM
  refine lv_aload_n hx hb dX9_addDeed_10 rfl (lv_at hl 0 rfl) ?_
  refine s_get hx hb (lay_9 hts) hown hK hM (c_10 h0) rfl 13 (by decide) rfl rfl (tk_976 hts) dX9_addDeed_11 ?_
  refine lv_aload_n hx hb dX9_addDeed_14 rfl (lv_at hl 0 rfl) ?_
  refine s_get hx hb (lay_9 hts) hown hK hM (c_10 h0) rfl 11 (by decide) rfl rfl (tk_974 hts) dX9_addDeed_15 ?_
  refine lv_iload_n hx hb dX9_addDeed_18 rfl (lv_at hl 2 rfl) ?_
  obtain ⟨h_3, hf⟩ := gd_e hf
  obtain ⟨M4, eM4, hf⟩ := nb_e hf
  refine s_iast 32 hx hb hK hM hS (ky_10_13 hG h0) (by decide) (ky_b hG (ky_10_13 hG h0)) h_3 dX9_addDeed_19 (fun H locs hM hS => ?_)
  rw [eM4] at hM
  refine lv_aload_n hx hb dX9_addDeed_20 rfl (lv_at hl 0 rfl) ?_
  refine s_get hx hb (lay_9 hts) hown hK hM (c_10 h0) rfl 14 (by decide) rfl rfl (tk_977 hts) dX9_addDeed_21 ?_
  refine lv_aload_n hx hb dX9_addDeed_24 rfl (lv_at hl 0 rfl) ?_
  refine s_get hx hb (lay_9 hts) hown hK hM (c_10 h0) rfl 11 (by decide) rfl rfl (tk_974 hts) dX9_addDeed_25 ?_
  refine lv_iload_n hx hb dX9_addDeed_28 rfl (lv_at hl 3 rfl) ?_
  obtain ⟨h_5, hf⟩ := gd_e hf
  obtain ⟨M6, eM6, hf⟩ := nb_e hf
  refine s_iast 32 hx hb hK hM hS (ky_10_14 hG h0) (by decide) (ky_b hG (ky_10_14 hG h0)) h_5 dX9_addDeed_29 (fun H locs hM hS => ?_)
  rw [eM6] at hM
  refine lv_aload_n hx hb dX9_addDeed_30 rfl (lv_at hl 0 rfl) ?_
  refine lv_dup hx hb dX9_addDeed_31 rfl ?_
  refine s_get hx hb (lay_9 hts) hown hK hM (c_10 h0) rfl 11 (by decide) rfl rfl (tk_974 hts) dX9_addDeed_32 ?_
  refine lv_iconst (v := 1) hx hb dX9_addDeed_35 (by decide) ?_
  refine lv_iadd hx hb dX9_addDeed_36 ?_
  obtain ⟨M7, eM7, hf⟩ := nb_e hf
  refine s_put tyX9 hx hb (lay_9 hts) tyX9_ok nmX9 hown hK hM hS (ky_b hG h0) (c_10 h0) rfl 11 (by decide) rfl rfl rfl (Nat.le_of_ble_eq_true rfl) (cp_9_11 h0) (fun _ h9 => cel_sI _ h9) hM.2.2.sI rfl (tk_974 hts) dX9_addDeed_37 (fun H locs hM hS => ?_)
  rw [eM7] at hM
  exact ef_v hx hb hr hlocks hM hS hf dX9_addDeed_40
def f_X9_readSample_b137 (a0 : Nat) (p1 : Int32) (xs0 : Int32) (xs1 : Int32) (xs2 : Int32) (qs3 : Nat) (M : Mem) : Option (Int32 × Mem) := vb (f_X9_addDeed qs3 xs2 xs1 xs0 M) fun M2 => some (1, M2)
def f_X9_readSample_b123 (a0 : Nat) (p1 : Int32) (x2 : Int32) (x3 : Int32) (M : Mem) : Option (Int32 × Mem) := if x2 = 0 then (f_X9_readSample_b137 a0 p1 x3 p1 115 a0 M) else (f_X9_readSample_b137 a0 p1 (-x3) p1 115 a0 M)
def f_X9_readSample_b54 (a0 : Nat) (p1 : Int32) : Nat → Int32 → Int32 → Mem → Option (Int32 × Mem)
  | 0, _, _, _ => none
  | n + 1, x2, x3, M => if x3 ≤ 0 then (f_X9_readSample_b123 a0 p1 x2 x3 M) else (vb (f_X9_isAt a0 48 57 M) fun r6 => if r6 = 0 then (f_X9_readSample_b123 a0 p1 x2 x3 M) else (gd (ix (mI M a0 10) 60) <| if (2000 : Int32) < ((((10 : Int32) * x3) + (mI M (a0 + 6) (mI M a0 10).toNatClampNeg)) - 48) then (f_X9_readSample_b123 a0 p1 x2 x3 M) else (gd (ix (mI M a0 10) 60) <| nb ((((10 : Int32) * x3) + (mI M (a0 + 6) (mI M a0 10).toNatClampNeg)) - 48) fun y11 => nb (sI M a0 10 ((mI M a0 10) + 1)) fun M12 => f_X9_readSample_b54 a0 p1 n x2 y11 M12)))
def f_X9_readSample_b21 (a0 : Nat) (p1 : Int32) (x2 : Int32) (xs0 : Int32) (qs1 : Nat) (M : Mem) : Option (Int32 × Mem) := vb (f_X9_isAt qs1 xs0 57 M) fun r14 => if r14 = 0 then (some (0, M)) else (gd (ix (mI M a0 10) 60) <| nb ((mI M (a0 + 6) (mI M a0 10).toNatClampNeg) - 48) fun y17 => nb (sI M a0 10 ((mI M a0 10) + 1)) fun M18 => f_X9_readSample_b54 a0 p1 lfuel x2 y17 M18)
def f_X9_readSample (a0 : Nat) (p1 : Int32) (M : Mem) : Option (Int32 × Mem) := cb (f_X9_takes a0 45 45 M) fun r20 M21 => if r20 = 0 then (f_X9_readSample_b21 a0 p1 r20 48 a0 M21) else (f_X9_readSample_b21 a0 p1 r20 49 a0 M21)
set_option maxHeartbeats 4000000 in
set_option maxRecDepth 100000 in
theorem k_X9_readSample (G : Gt) (hG : gOK G) (l : Launch) (a0 : Nat) (h0 : gK G a0 = 10) (p1 : Int32) (M : Mem) {r : Int32} {M' : Mem} (hf : f_X9_readSample a0 p1 M = some (r, M')) : Kc G l yX9_readSample cX9_readSample 4 (some .boolean) ({ frames := 3, cells := 0, slots := 0, locals := 67 } : Room) [.ref a0, .int p1] M (some (.int r)) M' := by
  refine start (by decide) (Nat.le_of_ble_eq_true rfl) ?_
  intro p e s m args below meth c ls hx hb hr hown hml hlocks hts hV hM hl
  have hown : s.vm.findClass "FoldedVoicesModel" = some m.cls := hown
  have hK := hG.1.moved hV
  have hS : va_S (gA G) s.heap s.heap [] := va_S.rf
  have hl : lv_has ls 4 [(0, .ref a0), (1, .int p1)] := hl
  have hM0 := hM
  have b137 : ∀ (xs0 : Int32) (xs1 : Int32) (xs2 : Int32) (qs3 : Nat) (M : Mem) (H : Heap) (locs : List Loc) (ls : Array Slot), gK G qs3 = 10 → Mh G M H → va_S (gA G) s.heap H locs → lv_has ls 4 [(0, .ref a0), (1, .int p1)] → f_X9_readSample_b137 a0 p1 xs0 xs1 xs2 qs3 M = some (r, M') → W p l e ({ frames := 3, cells := 0, slots := 0, locals := 67 } : Room) s m args below meth c H locs 0 0 (MQ below (QV G (some (.int r)) M') args s 0 0 (gA G)) (F0 m 137 ls [.int xs0, .int xs1, .int xs2, .ref qs3]) := by
    intro xs0 xs1 xs2 qs3 M H locs ls h_qs3 hM hS hl hf
    rw [f_X9_readSample_b137] at hf
    obtain ⟨M2, e_1, hf⟩ := vb_e hf
    refine c_Vv hx hb hml hown hts hV hK hM hS (As := [.int xs2, .int xs1, .int xs0]) (rest := []) (k_X9_addDeed G hG l qs3 h_qs3 xs2 xs1 xs0 M e_1) w_X9_addDeed (tk_1173 hts) (c_10 h_qs3) rfl rfl ⟨⟨rfl, rfl⟩, Nat.le_of_ble_eq_true rfl, Nat.le_of_ble_eq_true rfl⟩ ⟨Nat.zero_le _, Nat.zero_le _⟩ rfl hl.1 rfl (Nat.le_of_ble_eq_true rfl) dX9_readSample_137 (fun H locs hM hS => ?_)
    refine lv_iconst (v := 1) hx hb dX9_readSample_140 (by decide) ?_
    exact ef_zm hx hb hr hlocks hM hS (nz_n (Or.inr rfl)) hf dX9_readSample_141
  have b123 : ∀ (x2 : Int32) (x3 : Int32) (M : Mem) (H : Heap) (locs : List Loc) (ls : Array Slot), Mh G M H → va_S (gA G) s.heap H locs → lv_has ls 4 [(0, .ref a0), (1, .int p1), (2, .int x2), (3, .int x3)] → f_X9_readSample_b123 a0 p1 x2 x3 M = some (r, M') → W p l e ({ frames := 3, cells := 0, slots := 0, locals := 67 } : Room) s m args below meth c H locs 0 0 (MQ below (QV G (some (.int r)) M') args s 0 0 (gA G)) (F0 m 123 ls []) := by
    intro x2 x3 M H locs ls hM hS hl hf
    rw [f_X9_readSample_b123] at hf
    refine lv_aload_n hx hb dX9_readSample_123 rfl (lv_at hl 0 rfl) ?_
    refine lv_bipush (v := 115) hx hb dX9_readSample_124 (by decide) ?_
    refine lv_iload_n hx hb dX9_readSample_126 rfl (lv_at hl 1 rfl) ?_
    refine lv_iload_n hx hb dX9_readSample_127 rfl (lv_at hl 2 rfl) ?_
    refine lv_if_eq (tgt := 136) hx hb dX9_readSample_128 (by decide) (fun g_3 => ?_) (fun g_3 => ?_)
    · rw [if_pos g_3] at hf
      refine lv_iload_n hx hb dX9_readSample_136 rfl (lv_at hl 3 rfl) ?_
      exact b137 x3 p1 115 a0 _ H locs ls h0 hM hS (lv_sub hl [0, 1] rfl) hf
    · rw [if_neg g_3] at hf
      refine lv_iload_n hx hb dX9_readSample_131 rfl (lv_at hl 3 rfl) ?_
      refine lv_ineg hx hb dX9_readSample_132 ?_
      refine lv_goto (tgt := 137) hx hb dX9_readSample_133 (by decide) ?_
      exact b137 (-x3) p1 115 a0 _ H locs ls h0 hM hS (lv_sub hl [0, 1] rfl) hf
  have b54 : ∀ (n : Nat), ∀ (x2 : Int32) (x3 : Int32) (M : Mem) (H : Heap) (locs : List Loc) (ls : Array Slot), Mh G M H → va_S (gA G) s.heap H locs → lv_has ls 4 [(0, .ref a0), (1, .int p1), (2, .int x2), (3, .int x3)] → f_X9_readSample_b54 a0 p1 n x2 x3 M = some (r, M') → W p l e ({ frames := 3, cells := 0, slots := 0, locals := 67 } : Room) s m args below meth c H locs 0 0 (MQ below (QV G (some (.int r)) M') args s 0 0 (gA G)) (F0 m 54 ls []) := by
    intro n
    induction n with
    | zero =>
      intro x2 x3 M H locs ls hM hS hl hf
      rw [f_X9_readSample_b54] at hf
      cases hf
    | succ n ih =>
      intro x2 x3 M H locs ls hM hS hl hf
      rw [f_X9_readSample_b54] at hf
      refine lv_iload_n hx hb dX9_readSample_54 rfl (lv_at hl 3 rfl) ?_
      refine lv_if_le (tgt := 123) hx hb dX9_readSample_55 (by decide) (fun g_4 => ?_) (fun g_4 => ?_)
      · rw [if_pos g_4] at hf
        exact b123 x2 x3 _ H locs ls hM hS (lv_sub hl [0, 1, 2, 3] rfl) hf
      · rw [if_neg g_4] at hf
        refine lv_aload_n hx hb dX9_readSample_58 rfl (lv_at hl 0 rfl) ?_
        refine lv_bipush (v := 48) hx hb dX9_readSample_59 (by decide) ?_
        refine lv_bipush (v := 57) hx hb dX9_readSample_61 (by decide) ?_
        obtain ⟨r6, e_5, hf⟩ := vb_e hf
        refine c_Vi hx hb hml hown hts hV hK hM hS (As := [.int 48, .int 57]) (rest := []) (k_X9_isAt G hG l a0 h0 48 57 M e_5) w_X9_isAt (tk_1161 hts) (c_10 h0) rfl rfl ⟨⟨rfl, rfl⟩, Nat.le_of_ble_eq_true rfl, Nat.le_of_ble_eq_true rfl⟩ ⟨Nat.zero_le _, Nat.zero_le _⟩ rfl hl.1 rfl (Nat.le_of_ble_eq_true rfl) dX9_readSample_63 (fun H locs hM hS => ?_)
        refine lv_if_eq (tgt := 123) hx hb dX9_readSample_66 (by decide) (fun g_7 => ?_) (fun g_7 => ?_)
        · rw [if_pos g_7] at hf
          exact b123 x2 x3 _ H locs ls hM hS (lv_sub hl [0, 1, 2, 3] rfl) hf
        · rw [if_neg g_7] at hf
          refine lv_bipush (v := 10) hx hb dX9_readSample_69 (by decide) ?_
          refine lv_iload_n hx hb dX9_readSample_71 rfl (lv_at hl 3 rfl) ?_
          refine lv_imul hx hb dX9_readSample_72 ?_
          refine lv_aload_n hx hb dX9_readSample_73 rfl (lv_at hl 0 rfl) ?_
          refine s_get hx hb (lay_9 hts) hown hK hM (c_10 h0) rfl 8 (by decide) rfl rfl (tk_971 hts) dX9_readSample_74 ?_
          refine lv_aload_n hx hb dX9_readSample_77 rfl (lv_at hl 0 rfl) ?_
          refine s_get hx hb (lay_9 hts) hown hK hM (c_10 h0) rfl 10 (by decide) rfl rfl (tk_973 hts) dX9_readSample_78 ?_
          obtain ⟨h_8, hf⟩ := gd_e hf
          refine s_iald 60 hx hb hK hM (ky_10_8 hG h0) (by decide) h_8 dX9_readSample_81 ?_
          refine lv_iadd hx hb dX9_readSample_82 ?_
          refine lv_bipush (v := 48) hx hb dX9_readSample_83 (by decide) ?_
          refine lv_isub hx hb dX9_readSample_85 ?_
          refine lv_sipush (v := 2000) hx hb dX9_readSample_86 (by decide) ?_
          refine lv_icmp_gt (tgt := 123) hx hb dX9_readSample_89 (by decide) (fun g_9 => ?_) (fun g_9 => ?_)
          · rw [if_pos g_9] at hf
            exact b123 x2 x3 _ H locs ls hM hS (lv_sub hl [0, 1, 2, 3] rfl) hf
          · rw [if_neg g_9] at hf
            refine lv_bipush (v := 10) hx hb dX9_readSample_92 (by decide) ?_
            refine lv_iload_n hx hb dX9_readSample_94 rfl (lv_at hl 3 rfl) ?_
            refine lv_imul hx hb dX9_readSample_95 ?_
            refine lv_aload_n hx hb dX9_readSample_96 rfl (lv_at hl 0 rfl) ?_
            refine s_get hx hb (lay_9 hts) hown hK hM (c_10 h0) rfl 8 (by decide) rfl rfl (tk_971 hts) dX9_readSample_97 ?_
            refine lv_aload_n hx hb dX9_readSample_100 rfl (lv_at hl 0 rfl) ?_
            refine s_get hx hb (lay_9 hts) hown hK hM (c_10 h0) rfl 10 (by decide) rfl rfl (tk_973 hts) dX9_readSample_101 ?_
            obtain ⟨h_10, hf⟩ := gd_e hf
            refine s_iald 60 hx hb hK hM (ky_10_8 hG h0) (by decide) h_10 dX9_readSample_104 ?_
            refine lv_iadd hx hb dX9_readSample_105 ?_
            refine lv_bipush (v := 48) hx hb dX9_readSample_106 (by decide) ?_
            refine lv_isub hx hb dX9_readSample_108 ?_
            obtain ⟨y11, ey11, hf⟩ := nb_e hf
            refine s_nm ey11 ?_
            refine lv_istore_n (lv' := [(3, .int y11), (0, .ref a0), (1, .int p1), (2, .int x2)]) hx hb dX9_readSample_109 rfl hl (by decide) rfl (fun ls hl => ?_)
            refine lv_aload_n hx hb dX9_readSample_110 rfl (lv_at hl 1 rfl) ?_
            refine lv_dup hx hb dX9_readSample_111 rfl ?_
            refine s_get hx hb (lay_9 hts) hown hK hM (c_10 h0) rfl 10 (by decide) rfl rfl (tk_973 hts) dX9_readSample_112 ?_
            refine lv_iconst (v := 1) hx hb dX9_readSample_115 (by decide) ?_
            refine lv_iadd hx hb dX9_readSample_116 ?_
            obtain ⟨M12, eM12, hf⟩ := nb_e hf
            refine s_put tyX9 hx hb (lay_9 hts) tyX9_ok nmX9 hown hK hM hS (ky_b hG h0) (c_10 h0) rfl 10 (by decide) rfl rfl rfl (Nat.le_of_ble_eq_true rfl) (cp_9_10 h0) (fun _ h9 => cel_sI _ h9) hM.2.2.sI rfl (tk_973 hts) dX9_readSample_117 (fun H locs hM hS => ?_)
            rw [eM12] at hM
            refine lv_goto (tgt := 54) hx hb dX9_readSample_120 (by decide) ?_
            exact ih x2 y11 _ H locs ls hM hS (lv_sub hl [1, 2, 3, 0] rfl) hf
  have b21 : ∀ (x2 : Int32) (xs0 : Int32) (qs1 : Nat) (M : Mem) (H : Heap) (locs : List Loc) (ls : Array Slot), gK G qs1 = 10 → Mh G M H → va_S (gA G) s.heap H locs → lv_has ls 4 [(0, .ref a0), (1, .int p1), (2, .int x2)] → f_X9_readSample_b21 a0 p1 x2 xs0 qs1 M = some (r, M') → W p l e ({ frames := 3, cells := 0, slots := 0, locals := 67 } : Room) s m args below meth c H locs 0 0 (MQ below (QV G (some (.int r)) M') args s 0 0 (gA G)) (F0 m 21 ls [.int xs0, .ref qs1]) := by
    intro x2 xs0 qs1 M H locs ls h_qs1 hM hS hl hf
    rw [f_X9_readSample_b21] at hf
    refine lv_bipush (v := 57) hx hb dX9_readSample_21 (by decide) ?_
    obtain ⟨r14, e_13, hf⟩ := vb_e hf
    refine c_Vi hx hb hml hown hts hV hK hM hS (As := [.int xs0, .int 57]) (rest := []) (k_X9_isAt G hG l qs1 h_qs1 xs0 57 M e_13) w_X9_isAt (tk_1161 hts) (c_10 h_qs1) rfl rfl ⟨⟨rfl, rfl⟩, Nat.le_of_ble_eq_true rfl, Nat.le_of_ble_eq_true rfl⟩ ⟨Nat.zero_le _, Nat.zero_le _⟩ rfl hl.1 rfl (Nat.le_of_ble_eq_true rfl) dX9_readSample_23 (fun H locs hM hS => ?_)
    refine lv_if_ne (tgt := 31) hx hb dX9_readSample_26 (by decide) (fun g_15 => ?_) (fun g_15 => ?_)
    · rw [if_neg g_15] at hf
      refine lv_aload_n hx hb dX9_readSample_31 rfl (lv_at hl 0 rfl) ?_
      refine s_get hx hb (lay_9 hts) hown hK hM (c_10 h0) rfl 8 (by decide) rfl rfl (tk_971 hts) dX9_readSample_32 ?_
      refine lv_aload_n hx hb dX9_readSample_35 rfl (lv_at hl 0 rfl) ?_
      refine s_get hx hb (lay_9 hts) hown hK hM (c_10 h0) rfl 10 (by decide) rfl rfl (tk_973 hts) dX9_readSample_36 ?_
      obtain ⟨h_16, hf⟩ := gd_e hf
      refine s_iald 60 hx hb hK hM (ky_10_8 hG h0) (by decide) h_16 dX9_readSample_39 ?_
      refine lv_bipush (v := 48) hx hb dX9_readSample_40 (by decide) ?_
      refine lv_isub hx hb dX9_readSample_42 ?_
      obtain ⟨y17, ey17, hf⟩ := nb_e hf
      refine s_nm ey17 ?_
      refine lv_istore_n (lv' := [(3, .int y17), (0, .ref a0), (1, .int p1), (2, .int x2)]) hx hb dX9_readSample_43 rfl hl (by decide) rfl (fun ls hl => ?_)
      refine lv_aload_n hx hb dX9_readSample_44 rfl (lv_at hl 1 rfl) ?_
      refine lv_dup hx hb dX9_readSample_45 rfl ?_
      refine s_get hx hb (lay_9 hts) hown hK hM (c_10 h0) rfl 10 (by decide) rfl rfl (tk_973 hts) dX9_readSample_46 ?_
      refine lv_iconst (v := 1) hx hb dX9_readSample_49 (by decide) ?_
      refine lv_iadd hx hb dX9_readSample_50 ?_
      obtain ⟨M18, eM18, hf⟩ := nb_e hf
      refine s_put tyX9 hx hb (lay_9 hts) tyX9_ok nmX9 hown hK hM hS (ky_b hG h0) (c_10 h0) rfl 10 (by decide) rfl rfl rfl (Nat.le_of_ble_eq_true rfl) (cp_9_10 h0) (fun _ h9 => cel_sI _ h9) hM.2.2.sI rfl (tk_973 hts) dX9_readSample_51 (fun H locs hM hS => ?_)
      rw [eM18] at hM
      exact b54 _ x2 y17 _ H locs ls hM hS (lv_sub hl [1, 2, 3, 0] rfl) hf
    · rw [if_pos g_15] at hf
      refine lv_iconst (v := 0) hx hb dX9_readSample_29 (by decide) ?_
      exact ef_zm hx hb hr hlocks hM hS (nz_n (Or.inl rfl)) hf dX9_readSample_30
  rw [f_X9_readSample] at hf
  obtain ⟨H, hHe⟩ : ∃ H, H = s.heap := ⟨_, rfl⟩
  obtain ⟨locs, hLe⟩ : ∃ L : List Loc, L = [] := ⟨_, rfl⟩
  rw [← hHe] at hM
  have hS : va_S (gA G) s.heap H locs := by rw [hHe, hLe]; exact va_S.rf
  suffices hW : W p l e ({ frames := 3, cells := 0, slots := 0, locals := 67 } : Room) s m args below meth c H locs 0 0 (MQ below (QV G (some (.int r)) M') args s 0 0 (gA G)) (F0 m 0 ls []) by rw [hHe, hLe] at hW; exact hW
  refine lv_aload_n hx hb dX9_readSample_0 rfl (lv_at hl 0 rfl) ?_
  refine lv_bipush (v := 45) hx hb dX9_readSample_1 (by decide) ?_
  refine lv_bipush (v := 45) hx hb dX9_readSample_3 (by decide) ?_
  obtain ⟨r20, M21, e_19, hf⟩ := cb_e hf
  refine c_Vi hx hb hml hown hts hV hK hM hS (As := [.int 45, .int 45]) (rest := []) (k_X9_takes G hG l a0 h0 45 45 M e_19) w_X9_takes (tk_1157 hts) (c_10 h0) rfl rfl ⟨⟨rfl, rfl⟩, Nat.le_of_ble_eq_true rfl, Nat.le_of_ble_eq_true rfl⟩ ⟨Nat.zero_le _, Nat.zero_le _⟩ rfl hl.1 rfl (Nat.le_of_ble_eq_true rfl) dX9_readSample_5 (fun H locs hM hS => ?_)
  refine lv_istore_n (lv' := [(2, .int r20), (0, .ref a0), (1, .int p1)]) hx hb dX9_readSample_8 rfl hl (by decide) rfl (fun ls hl => ?_)
  refine lv_aload_n hx hb dX9_readSample_9 rfl (lv_at hl 1 rfl) ?_
  refine lv_iload_n hx hb dX9_readSample_10 rfl (lv_at hl 0 rfl) ?_
  refine lv_if_eq (tgt := 19) hx hb dX9_readSample_11 (by decide) (fun g_22 => ?_) (fun g_22 => ?_)
  · rw [if_pos g_22] at hf
    refine lv_bipush (v := 48) hx hb dX9_readSample_19 (by decide) ?_
    exact b21 r20 48 a0 _ H locs ls h0 hM hS (lv_sub hl [1, 2, 0] rfl) hf
  · rw [if_neg g_22] at hf
    refine lv_bipush (v := 49) hx hb dX9_readSample_14 (by decide) ?_
    refine lv_goto (tgt := 21) hx hb dX9_readSample_16 (by decide) ?_
    exact b21 r20 49 a0 _ H locs ls h0 hM hS (lv_sub hl [1, 2, 0] rfl) hf
def f_X9_readSamples_b40 (a0 : Nat) : Nat → Int32 → Int32 → Mem → Option (Int32 × Mem)
  | 0, _, _, _ => none
  | n + 1, x1, x2, M => if x2 = 0 then (gd (x2 = 0 ∨ x2 = 1) <| some (x2, M)) else (cb (f_X9_takes a0 44 44 M) fun r4 M5 => if r4 = 0 then (gd (x2 = 0 ∨ x2 = 1) <| some (x2, M5)) else (cb (f_X9_readSample a0 x1 M5) fun r9 M10 => f_X9_readSamples_b40 a0 n x1 r9 M10))
def f_X9_readSamples_b39 (a0 : Nat) (x1 : Int32) (xs0 : Int32) (M : Mem) : Option (Int32 × Mem) := f_X9_readSamples_b40 a0 lfuel x1 xs0 M
def f_X9_readSamples_b38 (a0 : Nat) (x1 : Int32) (M : Mem) : Option (Int32 × Mem) := f_X9_readSamples_b39 a0 x1 0 M
def f_X9_readSamples (a0 : Nat) (M : Mem) : Option (Int32 × Mem) := gd (ix ((mI M a0 10) - 1) 60) <| nb ((mI M (a0 + 6) ((mI M a0 10) - 1).toNatClampNeg) - 48) fun y12 => cb (f_X9_takes a0 58 58 M) fun r14 M15 => if r14 = 0 then (f_X9_readSamples_b38 a0 y12 M15) else (cb (f_X9_readSample a0 y12 M15) fun r18 M19 => if r18 = 0 then (f_X9_readSamples_b38 a0 y12 M19) else (f_X9_readSamples_b39 a0 y12 1 M19))
set_option maxHeartbeats 4000000 in
set_option maxRecDepth 100000 in
theorem k_X9_readSamples (G : Gt) (hG : gOK G) (l : Launch) (a0 : Nat) (h0 : gK G a0 = 10) (M : Mem) {r : Int32} {M' : Mem} (hf : f_X9_readSamples a0 M = some (r, M')) : Kc G l yX9_readSamples cX9_readSamples 3 (some .boolean) ({ frames := 4, cells := 0, slots := 0, locals := 90 } : Room) [.ref a0] M (some (.int r)) M' := by
  refine start (by decide) (Nat.le_of_ble_eq_true rfl) ?_
  intro p e s m args below meth c ls hx hb hr hown hml hlocks hts hV hM hl
  have hown : s.vm.findClass "FoldedVoicesModel" = some m.cls := hown
  have hK := hG.1.moved hV
  have hS : va_S (gA G) s.heap s.heap [] := va_S.rf
  have hl : lv_has ls 3 [(0, .ref a0)] := hl
  have hM0 := hM
  have b40 : ∀ (n : Nat), ∀ (x1 : Int32) (x2 : Int32) (M : Mem) (H : Heap) (locs : List Loc) (ls : Array Slot), Mh G M H → va_S (gA G) s.heap H locs → lv_has ls 3 [(0, .ref a0), (1, .int x1), (2, .int x2)] → f_X9_readSamples_b40 a0 n x1 x2 M = some (r, M') → W p l e ({ frames := 4, cells := 0, slots := 0, locals := 90 } : Room) s m args below meth c H locs 0 0 (MQ below (QV G (some (.int r)) M') args s 0 0 (gA G)) (F0 m 40 ls []) := by
    intro n
    induction n with
    | zero =>
      intro x1 x2 M H locs ls hM hS hl hf
      rw [f_X9_readSamples_b40] at hf
      cases hf
    | succ n ih =>
      intro x1 x2 M H locs ls hM hS hl hf
      rw [f_X9_readSamples_b40] at hf
      refine lv_iload_n hx hb dX9_readSamples_40 rfl (lv_at hl 2 rfl) ?_
      refine lv_if_eq (tgt := 64) hx hb dX9_readSamples_41 (by decide) (fun g_1 => ?_) (fun g_1 => ?_)
      · rw [if_pos g_1] at hf
        refine lv_iload_n hx hb dX9_readSamples_64 rfl (lv_at hl 2 rfl) ?_
        obtain ⟨h_2, hf⟩ := gd_e hf
        exact ef_zm hx hb hr hlocks hM hS (nz_n h_2) hf dX9_readSamples_65
      · rw [if_neg g_1] at hf
        refine lv_aload_n hx hb dX9_readSamples_44 rfl (lv_at hl 0 rfl) ?_
        refine lv_bipush (v := 44) hx hb dX9_readSamples_45 (by decide) ?_
        refine lv_bipush (v := 44) hx hb dX9_readSamples_47 (by decide) ?_
        obtain ⟨r4, M5, e_3, hf⟩ := cb_e hf
        refine c_Vi hx hb hml hown hts hV hK hM hS (As := [.int 44, .int 44]) (rest := []) (k_X9_takes G hG l a0 h0 44 44 M e_3) w_X9_takes (tk_1157 hts) (c_10 h0) rfl rfl ⟨⟨rfl, rfl⟩, Nat.le_of_ble_eq_true rfl, Nat.le_of_ble_eq_true rfl⟩ ⟨Nat.zero_le _, Nat.zero_le _⟩ rfl hl.1 rfl (Nat.le_of_ble_eq_true rfl) dX9_readSamples_49 (fun H locs hM hS => ?_)
        refine lv_if_eq (tgt := 64) hx hb dX9_readSamples_52 (by decide) (fun g_6 => ?_) (fun g_6 => ?_)
        · rw [if_pos g_6] at hf
          refine lv_iload_n hx hb dX9_readSamples_64 rfl (lv_at hl 2 rfl) ?_
          obtain ⟨h_7, hf⟩ := gd_e hf
          exact ef_zm hx hb hr hlocks hM hS (nz_n h_7) hf dX9_readSamples_65
        · rw [if_neg g_6] at hf
          refine lv_aload_n hx hb dX9_readSamples_55 rfl (lv_at hl 0 rfl) ?_
          refine lv_iload_n hx hb dX9_readSamples_56 rfl (lv_at hl 1 rfl) ?_
          obtain ⟨r9, M10, e_8, hf⟩ := cb_e hf
          refine c_Vi hx hb hml hown hts hV hK hM hS (As := [.int x1]) (rest := []) (k_X9_readSample G hG l a0 h0 x1 M5 e_8) w_X9_readSample (tk_1169 hts) (c_10 h0) rfl rfl ⟨⟨rfl, rfl⟩, Nat.le_of_ble_eq_true rfl, Nat.le_of_ble_eq_true rfl⟩ ⟨Nat.zero_le _, Nat.zero_le _⟩ rfl hl.1 rfl (Nat.le_of_ble_eq_true rfl) dX9_readSamples_57 (fun H locs hM hS => ?_)
          refine lv_istore_n (lv' := [(2, .int r9), (0, .ref a0), (1, .int x1)]) hx hb dX9_readSamples_60 rfl hl (by decide) rfl (fun ls hl => ?_)
          refine lv_goto (tgt := 40) hx hb dX9_readSamples_61 (by decide) ?_
          exact ih x1 r9 _ H locs ls hM hS (lv_sub hl [1, 2, 0] rfl) hf
  have b39 : ∀ (x1 : Int32) (xs0 : Int32) (M : Mem) (H : Heap) (locs : List Loc) (ls : Array Slot), Mh G M H → va_S (gA G) s.heap H locs → lv_has ls 3 [(0, .ref a0), (1, .int x1)] → f_X9_readSamples_b39 a0 x1 xs0 M = some (r, M') → W p l e ({ frames := 4, cells := 0, slots := 0, locals := 90 } : Room) s m args below meth c H locs 0 0 (MQ below (QV G (some (.int r)) M') args s 0 0 (gA G)) (F0 m 39 ls [.int xs0]) := by
    intro x1 xs0 M H locs ls hM hS hl hf
    rw [f_X9_readSamples_b39] at hf
    refine lv_istore_n (lv' := [(2, .int xs0), (0, .ref a0), (1, .int x1)]) hx hb dX9_readSamples_39 rfl hl (by decide) rfl (fun ls hl => ?_)
    exact b40 _ x1 xs0 _ H locs ls hM hS (lv_sub hl [1, 2, 0] rfl) hf
  have b38 : ∀ (x1 : Int32) (M : Mem) (H : Heap) (locs : List Loc) (ls : Array Slot), Mh G M H → va_S (gA G) s.heap H locs → lv_has ls 3 [(0, .ref a0), (1, .int x1)] → f_X9_readSamples_b38 a0 x1 M = some (r, M') → W p l e ({ frames := 4, cells := 0, slots := 0, locals := 90 } : Room) s m args below meth c H locs 0 0 (MQ below (QV G (some (.int r)) M') args s 0 0 (gA G)) (F0 m 38 ls []) := by
    intro x1 M H locs ls hM hS hl hf
    rw [f_X9_readSamples_b38] at hf
    refine lv_iconst (v := 0) hx hb dX9_readSamples_38 (by decide) ?_
    exact b39 x1 0 _ H locs ls hM hS (lv_sub hl [0, 1] rfl) hf
  rw [f_X9_readSamples] at hf
  obtain ⟨H, hHe⟩ : ∃ H, H = s.heap := ⟨_, rfl⟩
  obtain ⟨locs, hLe⟩ : ∃ L : List Loc, L = [] := ⟨_, rfl⟩
  rw [← hHe] at hM
  have hS : va_S (gA G) s.heap H locs := by rw [hHe, hLe]; exact va_S.rf
  suffices hW : W p l e ({ frames := 4, cells := 0, slots := 0, locals := 90 } : Room) s m args below meth c H locs 0 0 (MQ below (QV G (some (.int r)) M') args s 0 0 (gA G)) (F0 m 0 ls []) by rw [hHe, hLe] at hW; exact hW
  refine lv_aload_n hx hb dX9_readSamples_0 rfl (lv_at hl 0 rfl) ?_
  refine s_get hx hb (lay_9 hts) hown hK hM (c_10 h0) rfl 8 (by decide) rfl rfl (tk_971 hts) dX9_readSamples_1 ?_
  refine lv_aload_n hx hb dX9_readSamples_4 rfl (lv_at hl 0 rfl) ?_
  refine s_get hx hb (lay_9 hts) hown hK hM (c_10 h0) rfl 10 (by decide) rfl rfl (tk_973 hts) dX9_readSamples_5 ?_
  refine lv_iconst (v := 1) hx hb dX9_readSamples_8 (by decide) ?_
  refine lv_isub hx hb dX9_readSamples_9 ?_
  obtain ⟨h_11, hf⟩ := gd_e hf
  refine s_iald 60 hx hb hK hM (ky_10_8 hG h0) (by decide) h_11 dX9_readSamples_10 ?_
  refine lv_bipush (v := 48) hx hb dX9_readSamples_11 (by decide) ?_
  refine lv_isub hx hb dX9_readSamples_13 ?_
  obtain ⟨y12, ey12, hf⟩ := nb_e hf
  refine s_nm ey12 ?_
  refine lv_istore_n (lv' := [(1, .int y12), (0, .ref a0)]) hx hb dX9_readSamples_14 rfl hl (by decide) rfl (fun ls hl => ?_)
  refine lv_aload_n hx hb dX9_readSamples_15 rfl (lv_at hl 1 rfl) ?_
  refine lv_bipush (v := 58) hx hb dX9_readSamples_16 (by decide) ?_
  refine lv_bipush (v := 58) hx hb dX9_readSamples_18 (by decide) ?_
  obtain ⟨r14, M15, e_13, hf⟩ := cb_e hf
  refine c_Vi hx hb hml hown hts hV hK hM hS (As := [.int 58, .int 58]) (rest := []) (k_X9_takes G hG l a0 h0 58 58 M e_13) w_X9_takes (tk_1157 hts) (c_10 h0) rfl rfl ⟨⟨rfl, rfl⟩, Nat.le_of_ble_eq_true rfl, Nat.le_of_ble_eq_true rfl⟩ ⟨Nat.zero_le _, Nat.zero_le _⟩ rfl hl.1 rfl (Nat.le_of_ble_eq_true rfl) dX9_readSamples_20 (fun H locs hM hS => ?_)
  refine lv_if_eq (tgt := 38) hx hb dX9_readSamples_23 (by decide) (fun g_16 => ?_) (fun g_16 => ?_)
  · rw [if_pos g_16] at hf
    exact b38 y12 _ H locs ls hM hS (lv_sub hl [1, 0] rfl) hf
  · rw [if_neg g_16] at hf
    refine lv_aload_n hx hb dX9_readSamples_26 rfl (lv_at hl 1 rfl) ?_
    refine lv_iload_n hx hb dX9_readSamples_27 rfl (lv_at hl 0 rfl) ?_
    obtain ⟨r18, M19, e_17, hf⟩ := cb_e hf
    refine c_Vi hx hb hml hown hts hV hK hM hS (As := [.int y12]) (rest := []) (k_X9_readSample G hG l a0 h0 y12 M15 e_17) w_X9_readSample (tk_1169 hts) (c_10 h0) rfl rfl ⟨⟨rfl, rfl⟩, Nat.le_of_ble_eq_true rfl, Nat.le_of_ble_eq_true rfl⟩ ⟨Nat.zero_le _, Nat.zero_le _⟩ rfl hl.1 rfl (Nat.le_of_ble_eq_true rfl) dX9_readSamples_28 (fun H locs hM hS => ?_)
    refine lv_if_eq (tgt := 38) hx hb dX9_readSamples_31 (by decide) (fun g_20 => ?_) (fun g_20 => ?_)
    · rw [if_pos g_20] at hf
      exact b38 y12 _ H locs ls hM hS (lv_sub hl [1, 0] rfl) hf
    · rw [if_neg g_20] at hf
      refine lv_iconst (v := 1) hx hb dX9_readSamples_34 (by decide) ?_
      refine lv_goto (tgt := 39) hx hb dX9_readSamples_35 (by decide) ?_
      exact b39 y12 1 _ H locs ls hM hS (lv_sub hl [1, 0] rfl) hf
def f_X9_readPart_b51 (a0 : Nat) (M : Mem) : Option (Int32 × Mem) := gd (ix ((mI M a0 10) - 1) 60) <| nb (mI M (a0 + 6) ((mI M a0 10) - 1).toNatClampNeg) fun y2 => cb (f_X9_takes a0 48 50 M) fun r4 M5 => if r4 = 0 then (some (0, M5)) else (gd (ix ((mI M5 a0 10) - 1) 60) <| vb (f_X9_addDeed a0 y2 ((mI M5 (a0 + 6) ((mI M5 a0 10) - 1).toNatClampNeg) - 48) 0 M5) fun M9 => some (1, M9))
def f_X9_readPart (a0 : Nat) (M : Mem) : Option (Int32 × Mem) := cb (f_X9_takes a0 48 50 M) fun r11 M12 => if r11 = 0 then (cb (f_X9_takes a0 100 100 M12) fun r15 M16 => if r15 = 0 then (cb (f_X9_takes a0 108 108 M16) fun r19 M20 => if r19 = 0 then (cb (f_X9_takes a0 120 120 M20) fun r23 M24 => if r23 = 0 then (some (0, M24)) else (f_X9_readPart_b51 a0 M24)) else (f_X9_readPart_b51 a0 M20)) else (f_X9_readPart_b51 a0 M16)) else (cb (f_X9_readSamples a0 M12) fun r27 M28 => gd (r27 = 0 ∨ r27 = 1) <| some (r27, M28))
set_option maxHeartbeats 4000000 in
set_option maxRecDepth 100000 in
theorem k_X9_readPart (G : Gt) (hG : gOK G) (l : Launch) (a0 : Nat) (h0 : gK G a0 = 10) (M : Mem) {r : Int32} {M' : Mem} (hf : f_X9_readPart a0 M = some (r, M')) : Kc G l yX9_readPart cX9_readPart 2 (some .boolean) ({ frames := 5, cells := 0, slots := 0, locals := 112 } : Room) [.ref a0] M (some (.int r)) M' := by
  refine start (by decide) (Nat.le_of_ble_eq_true rfl) ?_
  intro p e s m args below meth c ls hx hb hr hown hml hlocks hts hV hM hl
  have hown : s.vm.findClass "FoldedVoicesModel" = some m.cls := hown
  have hK := hG.1.moved hV
  have hS : va_S (gA G) s.heap s.heap [] := va_S.rf
  have hl : lv_has ls 2 [(0, .ref a0)] := hl
  have hM0 := hM
  have b51 : ∀ (M : Mem) (H : Heap) (locs : List Loc) (ls : Array Slot), Mh G M H → va_S (gA G) s.heap H locs → lv_has ls 2 [(0, .ref a0)] → f_X9_readPart_b51 a0 M = some (r, M') → W p l e ({ frames := 5, cells := 0, slots := 0, locals := 112 } : Room) s m args below meth c H locs 0 0 (MQ below (QV G (some (.int r)) M') args s 0 0 (gA G)) (F0 m 51 ls []) := by
    intro M H locs ls hM hS hl hf
    rw [f_X9_readPart_b51] at hf
    refine lv_aload_n hx hb dX9_readPart_51 rfl (lv_at hl 0 rfl) ?_
    refine s_get hx hb (lay_9 hts) hown hK hM (c_10 h0) rfl 8 (by decide) rfl rfl (tk_971 hts) dX9_readPart_52 ?_
    refine lv_aload_n hx hb dX9_readPart_55 rfl (lv_at hl 0 rfl) ?_
    refine s_get hx hb (lay_9 hts) hown hK hM (c_10 h0) rfl 10 (by decide) rfl rfl (tk_973 hts) dX9_readPart_56 ?_
    refine lv_iconst (v := 1) hx hb dX9_readPart_59 (by decide) ?_
    refine lv_isub hx hb dX9_readPart_60 ?_
    obtain ⟨h_1, hf⟩ := gd_e hf
    refine s_iald 60 hx hb hK hM (ky_10_8 hG h0) (by decide) h_1 dX9_readPart_61 ?_
    obtain ⟨y2, ey2, hf⟩ := nb_e hf
    refine s_nm ey2 ?_
    refine lv_istore_n (lv' := [(1, .int y2), (0, .ref a0)]) hx hb dX9_readPart_62 rfl hl (by decide) rfl (fun ls hl => ?_)
    refine lv_aload_n hx hb dX9_readPart_63 rfl (lv_at hl 1 rfl) ?_
    refine lv_bipush (v := 48) hx hb dX9_readPart_64 (by decide) ?_
    refine lv_bipush (v := 50) hx hb dX9_readPart_66 (by decide) ?_
    obtain ⟨r4, M5, e_3, hf⟩ := cb_e hf
    refine c_Vi hx hb hml hown hts hV hK hM hS (As := [.int 48, .int 50]) (rest := []) (k_X9_takes G hG l a0 h0 48 50 M e_3) w_X9_takes (tk_1157 hts) (c_10 h0) rfl rfl ⟨⟨rfl, rfl⟩, Nat.le_of_ble_eq_true rfl, Nat.le_of_ble_eq_true rfl⟩ ⟨Nat.zero_le _, Nat.zero_le _⟩ rfl hl.1 rfl (Nat.le_of_ble_eq_true rfl) dX9_readPart_68 (fun H locs hM hS => ?_)
    refine lv_if_ne (tgt := 76) hx hb dX9_readPart_71 (by decide) (fun g_6 => ?_) (fun g_6 => ?_)
    · rw [if_neg g_6] at hf
      refine lv_aload_n hx hb dX9_readPart_76 rfl (lv_at hl 1 rfl) ?_
      refine lv_iload_n hx hb dX9_readPart_77 rfl (lv_at hl 0 rfl) ?_
      refine lv_aload_n hx hb dX9_readPart_78 rfl (lv_at hl 1 rfl) ?_
      refine s_get hx hb (lay_9 hts) hown hK hM (c_10 h0) rfl 8 (by decide) rfl rfl (tk_971 hts) dX9_readPart_79 ?_
      refine lv_aload_n hx hb dX9_readPart_82 rfl (lv_at hl 1 rfl) ?_
      refine s_get hx hb (lay_9 hts) hown hK hM (c_10 h0) rfl 10 (by decide) rfl rfl (tk_973 hts) dX9_readPart_83 ?_
      refine lv_iconst (v := 1) hx hb dX9_readPart_86 (by decide) ?_
      refine lv_isub hx hb dX9_readPart_87 ?_
      obtain ⟨h_7, hf⟩ := gd_e hf
      refine s_iald 60 hx hb hK hM (ky_10_8 hG h0) (by decide) h_7 dX9_readPart_88 ?_
      refine lv_bipush (v := 48) hx hb dX9_readPart_89 (by decide) ?_
      refine lv_isub hx hb dX9_readPart_91 ?_
      refine lv_iconst (v := 0) hx hb dX9_readPart_92 (by decide) ?_
      obtain ⟨M9, e_8, hf⟩ := vb_e hf
      refine c_Vv hx hb hml hown hts hV hK hM hS (As := [.int y2, .int ((mI M5 (a0 + 6) ((mI M5 a0 10) - 1).toNatClampNeg) - 48), .int 0]) (rest := []) (k_X9_addDeed G hG l a0 h0 y2 ((mI M5 (a0 + 6) ((mI M5 a0 10) - 1).toNatClampNeg) - 48) 0 M5 e_8) w_X9_addDeed (tk_1173 hts) (c_10 h0) rfl rfl ⟨⟨rfl, rfl⟩, Nat.le_of_ble_eq_true rfl, Nat.le_of_ble_eq_true rfl⟩ ⟨Nat.zero_le _, Nat.zero_le _⟩ rfl hl.1 rfl (Nat.le_of_ble_eq_true rfl) dX9_readPart_93 (fun H locs hM hS => ?_)
      refine lv_iconst (v := 1) hx hb dX9_readPart_96 (by decide) ?_
      exact ef_zm hx hb hr hlocks hM hS (nz_n (Or.inr rfl)) hf dX9_readPart_97
    · rw [if_pos g_6] at hf
      refine lv_iconst (v := 0) hx hb dX9_readPart_74 (by decide) ?_
      exact ef_zm hx hb hr hlocks hM hS (nz_n (Or.inl rfl)) hf dX9_readPart_75
  rw [f_X9_readPart] at hf
  obtain ⟨H, hHe⟩ : ∃ H, H = s.heap := ⟨_, rfl⟩
  obtain ⟨locs, hLe⟩ : ∃ L : List Loc, L = [] := ⟨_, rfl⟩
  rw [← hHe] at hM
  have hS : va_S (gA G) s.heap H locs := by rw [hHe, hLe]; exact va_S.rf
  suffices hW : W p l e ({ frames := 5, cells := 0, slots := 0, locals := 112 } : Room) s m args below meth c H locs 0 0 (MQ below (QV G (some (.int r)) M') args s 0 0 (gA G)) (F0 m 0 ls []) by rw [hHe, hLe] at hW; exact hW
  refine lv_aload_n hx hb dX9_readPart_0 rfl (lv_at hl 0 rfl) ?_
  refine lv_bipush (v := 48) hx hb dX9_readPart_1 (by decide) ?_
  refine lv_bipush (v := 50) hx hb dX9_readPart_3 (by decide) ?_
  obtain ⟨r11, M12, e_10, hf⟩ := cb_e hf
  refine c_Vi hx hb hml hown hts hV hK hM hS (As := [.int 48, .int 50]) (rest := []) (k_X9_takes G hG l a0 h0 48 50 M e_10) w_X9_takes (tk_1157 hts) (c_10 h0) rfl rfl ⟨⟨rfl, rfl⟩, Nat.le_of_ble_eq_true rfl, Nat.le_of_ble_eq_true rfl⟩ ⟨Nat.zero_le _, Nat.zero_le _⟩ rfl hl.1 rfl (Nat.le_of_ble_eq_true rfl) dX9_readPart_5 (fun H locs hM hS => ?_)
  refine lv_if_eq (tgt := 16) hx hb dX9_readPart_8 (by decide) (fun g_13 => ?_) (fun g_13 => ?_)
  · rw [if_pos g_13] at hf
    refine lv_aload_n hx hb dX9_readPart_16 rfl (lv_at hl 0 rfl) ?_
    refine lv_bipush (v := 100) hx hb dX9_readPart_17 (by decide) ?_
    refine lv_bipush (v := 100) hx hb dX9_readPart_19 (by decide) ?_
    obtain ⟨r15, M16, e_14, hf⟩ := cb_e hf
    refine c_Vi hx hb hml hown hts hV hK hM hS (As := [.int 100, .int 100]) (rest := []) (k_X9_takes G hG l a0 h0 100 100 M12 e_14) w_X9_takes (tk_1157 hts) (c_10 h0) rfl rfl ⟨⟨rfl, rfl⟩, Nat.le_of_ble_eq_true rfl, Nat.le_of_ble_eq_true rfl⟩ ⟨Nat.zero_le _, Nat.zero_le _⟩ rfl hl.1 rfl (Nat.le_of_ble_eq_true rfl) dX9_readPart_21 (fun H locs hM hS => ?_)
    refine lv_if_ne (tgt := 51) hx hb dX9_readPart_24 (by decide) (fun g_17 => ?_) (fun g_17 => ?_)
    · rw [if_neg g_17] at hf
      exact b51 _ H locs ls hM hS (lv_sub hl [0] rfl) hf
    · rw [if_pos g_17] at hf
      refine lv_aload_n hx hb dX9_readPart_27 rfl (lv_at hl 0 rfl) ?_
      refine lv_bipush (v := 108) hx hb dX9_readPart_28 (by decide) ?_
      refine lv_bipush (v := 108) hx hb dX9_readPart_30 (by decide) ?_
      obtain ⟨r19, M20, e_18, hf⟩ := cb_e hf
      refine c_Vi hx hb hml hown hts hV hK hM hS (As := [.int 108, .int 108]) (rest := []) (k_X9_takes G hG l a0 h0 108 108 M16 e_18) w_X9_takes (tk_1157 hts) (c_10 h0) rfl rfl ⟨⟨rfl, rfl⟩, Nat.le_of_ble_eq_true rfl, Nat.le_of_ble_eq_true rfl⟩ ⟨Nat.zero_le _, Nat.zero_le _⟩ rfl hl.1 rfl (Nat.le_of_ble_eq_true rfl) dX9_readPart_32 (fun H locs hM hS => ?_)
      refine lv_if_ne (tgt := 51) hx hb dX9_readPart_35 (by decide) (fun g_21 => ?_) (fun g_21 => ?_)
      · rw [if_neg g_21] at hf
        exact b51 _ H locs ls hM hS (lv_sub hl [0] rfl) hf
      · rw [if_pos g_21] at hf
        refine lv_aload_n hx hb dX9_readPart_38 rfl (lv_at hl 0 rfl) ?_
        refine lv_bipush (v := 120) hx hb dX9_readPart_39 (by decide) ?_
        refine lv_bipush (v := 120) hx hb dX9_readPart_41 (by decide) ?_
        obtain ⟨r23, M24, e_22, hf⟩ := cb_e hf
        refine c_Vi hx hb hml hown hts hV hK hM hS (As := [.int 120, .int 120]) (rest := []) (k_X9_takes G hG l a0 h0 120 120 M20 e_22) w_X9_takes (tk_1157 hts) (c_10 h0) rfl rfl ⟨⟨rfl, rfl⟩, Nat.le_of_ble_eq_true rfl, Nat.le_of_ble_eq_true rfl⟩ ⟨Nat.zero_le _, Nat.zero_le _⟩ rfl hl.1 rfl (Nat.le_of_ble_eq_true rfl) dX9_readPart_43 (fun H locs hM hS => ?_)
        refine lv_if_ne (tgt := 51) hx hb dX9_readPart_46 (by decide) (fun g_25 => ?_) (fun g_25 => ?_)
        · rw [if_neg g_25] at hf
          exact b51 _ H locs ls hM hS (lv_sub hl [0] rfl) hf
        · rw [if_pos g_25] at hf
          refine lv_iconst (v := 0) hx hb dX9_readPart_49 (by decide) ?_
          exact ef_zm hx hb hr hlocks hM hS (nz_n (Or.inl rfl)) hf dX9_readPart_50
  · rw [if_neg g_13] at hf
    refine lv_aload_n hx hb dX9_readPart_11 rfl (lv_at hl 0 rfl) ?_
    obtain ⟨r27, M28, e_26, hf⟩ := cb_e hf
    refine c_Vi hx hb hml hown hts hV hK hM hS (As := []) (rest := []) (k_X9_readSamples G hG l a0 h0 M12 e_26) w_X9_readSamples (tk_1165 hts) (c_10 h0) rfl rfl ⟨⟨rfl, rfl⟩, Nat.le_of_ble_eq_true rfl, Nat.le_of_ble_eq_true rfl⟩ ⟨Nat.zero_le _, Nat.zero_le _⟩ rfl hl.1 rfl (Nat.le_of_ble_eq_true rfl) dX9_readPart_12 (fun H locs hM hS => ?_)
    obtain ⟨h_29, hf⟩ := gd_e hf
    exact ef_zm hx hb hr hlocks hM hS (nz_n h_29) hf dX9_readPart_15
def f_X9_isTalk_b38 (a0 : Nat) (x1 : Int32) (M : Mem) : Option (Int32 × Mem) := if x1 = 0 then (some (0, M)) else (if (mI M a0 10) = (mI M a0 9) then (some (1, M)) else (some (0, M)))
def f_X9_isTalk_b15 (a0 : Nat) : Nat → Int32 → Mem → Option (Int32 × Mem)
  | 0, _, _ => none
  | n + 1, x1, M => if x1 = 0 then (f_X9_isTalk_b38 a0 x1 M) else (cb (f_X9_takes a0 59 59 M) fun r5 M6 => if r5 = 0 then (f_X9_isTalk_b38 a0 x1 M6) else (cb (f_X9_readPart a0 M6) fun r9 M10 => f_X9_isTalk_b15 a0 n r9 M10))
def f_X9_isTalk (a0 : Nat) (M : Mem) : Option (Int32 × Mem) := nb (sI M a0 10 0) fun M11 => nb (sI M11 a0 11 0) fun M12 => cb (f_X9_readPart a0 M12) fun r14 M15 => f_X9_isTalk_b15 a0 lfuel r14 M15
set_option maxHeartbeats 4000000 in
set_option maxRecDepth 100000 in
theorem k_X9_isTalk (G : Gt) (hG : gOK G) (l : Launch) (a0 : Nat) (h0 : gK G a0 = 10) (M : Mem) {r : Int32} {M' : Mem} (hf : f_X9_isTalk a0 M = some (r, M')) : Kc G l yX9_isTalk cX9_isTalk 2 (some .boolean) ({ frames := 6, cells := 0, slots := 0, locals := 133 } : Room) [.ref a0] M (some (.int r)) M' := by
  refine start (by decide) (Nat.le_of_ble_eq_true rfl) ?_
  intro p e s m args below meth c ls hx hb hr hown hml hlocks hts hV hM hl
  have hown : s.vm.findClass "FoldedVoicesModel" = some m.cls := hown
  have hK := hG.1.moved hV
  have hS : va_S (gA G) s.heap s.heap [] := va_S.rf
  have hl : lv_has ls 2 [(0, .ref a0)] := hl
  have hM0 := hM
  have b38 : ∀ (x1 : Int32) (M : Mem) (H : Heap) (locs : List Loc) (ls : Array Slot), Mh G M H → va_S (gA G) s.heap H locs → lv_has ls 2 [(0, .ref a0), (1, .int x1)] → f_X9_isTalk_b38 a0 x1 M = some (r, M') → W p l e ({ frames := 6, cells := 0, slots := 0, locals := 133 } : Room) s m args below meth c H locs 0 0 (MQ below (QV G (some (.int r)) M') args s 0 0 (gA G)) (F0 m 38 ls []) := by
    intro x1 M H locs ls hM hS hl hf
    rw [f_X9_isTalk_b38] at hf
    refine lv_iload_n hx hb dX9_isTalk_38 rfl (lv_at hl 1 rfl) ?_
    refine lv_if_eq (tgt := 57) hx hb dX9_isTalk_39 (by decide) (fun g_1 => ?_) (fun g_1 => ?_)
    · rw [if_pos g_1] at hf
      refine lv_iconst (v := 0) hx hb dX9_isTalk_57 (by decide) ?_
      exact ef_zm hx hb hr hlocks hM hS (nz_n (Or.inl rfl)) hf dX9_isTalk_58
    · rw [if_neg g_1] at hf
      refine lv_aload_n hx hb dX9_isTalk_42 rfl (lv_at hl 0 rfl) ?_
      refine s_get hx hb (lay_9 hts) hown hK hM (c_10 h0) rfl 10 (by decide) rfl rfl (tk_973 hts) dX9_isTalk_43 ?_
      refine lv_aload_n hx hb dX9_isTalk_46 rfl (lv_at hl 0 rfl) ?_
      refine s_get hx hb (lay_9 hts) hown hK hM (c_10 h0) rfl 9 (by decide) rfl rfl (tk_972 hts) dX9_isTalk_47 ?_
      refine lv_icmp_ne (tgt := 57) hx hb dX9_isTalk_50 (by decide) (fun g_2 => ?_) (fun g_2 => ?_)
      · rw [if_neg g_2] at hf
        refine lv_iconst (v := 0) hx hb dX9_isTalk_57 (by decide) ?_
        exact ef_zm hx hb hr hlocks hM hS (nz_n (Or.inl rfl)) hf dX9_isTalk_58
      · rw [if_pos g_2] at hf
        refine lv_iconst (v := 1) hx hb dX9_isTalk_53 (by decide) ?_
        refine lv_goto (tgt := 58) hx hb dX9_isTalk_54 (by decide) ?_
        exact ef_zm hx hb hr hlocks hM hS (nz_n (Or.inr rfl)) hf dX9_isTalk_58
  have b15 : ∀ (n : Nat), ∀ (x1 : Int32) (M : Mem) (H : Heap) (locs : List Loc) (ls : Array Slot), Mh G M H → va_S (gA G) s.heap H locs → lv_has ls 2 [(0, .ref a0), (1, .int x1)] → f_X9_isTalk_b15 a0 n x1 M = some (r, M') → W p l e ({ frames := 6, cells := 0, slots := 0, locals := 133 } : Room) s m args below meth c H locs 0 0 (MQ below (QV G (some (.int r)) M') args s 0 0 (gA G)) (F0 m 15 ls []) := by
    intro n
    induction n with
    | zero =>
      intro x1 M H locs ls hM hS hl hf
      rw [f_X9_isTalk_b15] at hf
      cases hf
    | succ n ih =>
      intro x1 M H locs ls hM hS hl hf
      rw [f_X9_isTalk_b15] at hf
      refine lv_iload_n hx hb dX9_isTalk_15 rfl (lv_at hl 1 rfl) ?_
      refine lv_if_eq (tgt := 38) hx hb dX9_isTalk_16 (by decide) (fun g_3 => ?_) (fun g_3 => ?_)
      · rw [if_pos g_3] at hf
        exact b38 x1 _ H locs ls hM hS (lv_sub hl [0, 1] rfl) hf
      · rw [if_neg g_3] at hf
        refine lv_aload_n hx hb dX9_isTalk_19 rfl (lv_at hl 0 rfl) ?_
        refine lv_bipush (v := 59) hx hb dX9_isTalk_20 (by decide) ?_
        refine lv_bipush (v := 59) hx hb dX9_isTalk_22 (by decide) ?_
        obtain ⟨r5, M6, e_4, hf⟩ := cb_e hf
        refine c_Vi hx hb hml hown hts hV hK hM hS (As := [.int 59, .int 59]) (rest := []) (k_X9_takes G hG l a0 h0 59 59 M e_4) w_X9_takes (tk_1157 hts) (c_10 h0) rfl rfl ⟨⟨rfl, rfl⟩, Nat.le_of_ble_eq_true rfl, Nat.le_of_ble_eq_true rfl⟩ ⟨Nat.zero_le _, Nat.zero_le _⟩ rfl hl.1 rfl (Nat.le_of_ble_eq_true rfl) dX9_isTalk_24 (fun H locs hM hS => ?_)
        refine lv_if_eq (tgt := 38) hx hb dX9_isTalk_27 (by decide) (fun g_7 => ?_) (fun g_7 => ?_)
        · rw [if_pos g_7] at hf
          exact b38 x1 _ H locs ls hM hS (lv_sub hl [0, 1] rfl) hf
        · rw [if_neg g_7] at hf
          refine lv_aload_n hx hb dX9_isTalk_30 rfl (lv_at hl 0 rfl) ?_
          obtain ⟨r9, M10, e_8, hf⟩ := cb_e hf
          refine c_Vi hx hb hml hown hts hV hK hM hS (As := []) (rest := []) (k_X9_readPart G hG l a0 h0 M6 e_8) w_X9_readPart (tk_1153 hts) (c_10 h0) rfl rfl ⟨⟨rfl, rfl⟩, Nat.le_of_ble_eq_true rfl, Nat.le_of_ble_eq_true rfl⟩ ⟨Nat.zero_le _, Nat.zero_le _⟩ rfl hl.1 rfl (Nat.le_of_ble_eq_true rfl) dX9_isTalk_31 (fun H locs hM hS => ?_)
          refine lv_istore_n (lv' := [(1, .int r9), (0, .ref a0)]) hx hb dX9_isTalk_34 rfl hl (by decide) rfl (fun ls hl => ?_)
          refine lv_goto (tgt := 15) hx hb dX9_isTalk_35 (by decide) ?_
          exact ih r9 _ H locs ls hM hS (lv_sub hl [1, 0] rfl) hf
  rw [f_X9_isTalk] at hf
  obtain ⟨H, hHe⟩ : ∃ H, H = s.heap := ⟨_, rfl⟩
  obtain ⟨locs, hLe⟩ : ∃ L : List Loc, L = [] := ⟨_, rfl⟩
  rw [← hHe] at hM
  have hS : va_S (gA G) s.heap H locs := by rw [hHe, hLe]; exact va_S.rf
  suffices hW : W p l e ({ frames := 6, cells := 0, slots := 0, locals := 133 } : Room) s m args below meth c H locs 0 0 (MQ below (QV G (some (.int r)) M') args s 0 0 (gA G)) (F0 m 0 ls []) by rw [hHe, hLe] at hW; exact hW
  refine lv_aload_n hx hb dX9_isTalk_0 rfl (lv_at hl 0 rfl) ?_
  refine lv_iconst (v := 0) hx hb dX9_isTalk_1 (by decide) ?_
  obtain ⟨M11, eM11, hf⟩ := nb_e hf
  refine s_put tyX9 hx hb (lay_9 hts) tyX9_ok nmX9 hown hK hM hS (ky_b hG h0) (c_10 h0) rfl 10 (by decide) rfl rfl rfl (Nat.le_of_ble_eq_true rfl) (cp_9_10 h0) (fun _ h9 => cel_sI _ h9) hM.2.2.sI rfl (tk_973 hts) dX9_isTalk_2 (fun H locs hM hS => ?_)
  rw [eM11] at hM
  refine lv_aload_n hx hb dX9_isTalk_5 rfl (lv_at hl 0 rfl) ?_
  refine lv_iconst (v := 0) hx hb dX9_isTalk_6 (by decide) ?_
  obtain ⟨M12, eM12, hf⟩ := nb_e hf
  refine s_put tyX9 hx hb (lay_9 hts) tyX9_ok nmX9 hown hK hM hS (ky_b hG h0) (c_10 h0) rfl 11 (by decide) rfl rfl rfl (Nat.le_of_ble_eq_true rfl) (cp_9_11 h0) (fun _ h9 => cel_sI _ h9) hM.2.2.sI rfl (tk_974 hts) dX9_isTalk_7 (fun H locs hM hS => ?_)
  rw [eM12] at hM
  refine lv_aload_n hx hb dX9_isTalk_10 rfl (lv_at hl 0 rfl) ?_
  obtain ⟨r14, M15, e_13, hf⟩ := cb_e hf
  refine c_Vi hx hb hml hown hts hV hK hM hS (As := []) (rest := []) (k_X9_readPart G hG l a0 h0 M12 e_13) w_X9_readPart (tk_1153 hts) (c_10 h0) rfl rfl ⟨⟨rfl, rfl⟩, Nat.le_of_ble_eq_true rfl, Nat.le_of_ble_eq_true rfl⟩ ⟨Nat.zero_le _, Nat.zero_le _⟩ rfl hl.1 rfl (Nat.le_of_ble_eq_true rfl) dX9_isTalk_11 (fun H locs hM hS => ?_)
  refine lv_istore_n (lv' := [(1, .int r14), (0, .ref a0)]) hx hb dX9_isTalk_14 rfl hl (by decide) rfl (fun ls hl => ?_)
  exact b15 _ r14 _ H locs ls hM hS (lv_sub hl [1, 0] rfl) hf
def f_X9_firstError (a0 : Nat) (M : Mem) : Option (Int32 × Mem) := nb (sI M a0 7 0) fun M1 => cb (f_X9_isTalk a0 M1) fun r3 M4 => if r3 = 0 then (some (mI M4 a0 10, M4)) else (some (mI M4 a0 9, M4))
set_option maxHeartbeats 4000000 in
set_option maxRecDepth 100000 in
theorem k_X9_firstError (G : Gt) (hG : gOK G) (l : Launch) (a0 : Nat) (h0 : gK G a0 = 10) (M : Mem) {r : Int32} {M' : Mem} (hf : f_X9_firstError a0 M = some (r, M')) : Kc G l yX9_firstError cX9_firstError 1 (some .int) ({ frames := 7, cells := 0, slots := 0, locals := 154 } : Room) [.ref a0] M (some (.int r)) M' := by
  refine start (by decide) (Nat.le_of_ble_eq_true rfl) ?_
  intro p e s m args below meth c ls hx hb hr hown hml hlocks hts hV hM hl
  have hown : s.vm.findClass "FoldedVoicesModel" = some m.cls := hown
  have hK := hG.1.moved hV
  have hS : va_S (gA G) s.heap s.heap [] := va_S.rf
  have hl : lv_has ls 1 [(0, .ref a0)] := hl
  have hM0 := hM
  rw [f_X9_firstError] at hf
  refine lv_aload_n hx hb dX9_firstError_0 rfl (lv_at hl 0 rfl) ?_
  refine lv_iconst (v := 0) hx hb dX9_firstError_1 (by decide) ?_
  obtain ⟨M1, eM1, hf⟩ := nb_e hf
  refine s_put tyX9 hx hb (lay_9 hts) tyX9_ok nmX9 hown hK hM hS (ky_b hG h0) (c_10 h0) rfl 7 (by decide) rfl rfl rfl (Nat.le_of_ble_eq_true rfl) (cp_9_7 h0) (fun _ h9 => cel_sI _ h9) hM.2.2.sI rfl (tk_970 hts) dX9_firstError_2 (fun H locs hM hS => ?_)
  rw [eM1] at hM
  refine lv_aload_n hx hb dX9_firstError_5 rfl (lv_at hl 0 rfl) ?_
  obtain ⟨r3, M4, e_2, hf⟩ := cb_e hf
  refine c_Vi hx hb hml hown hts hV hK hM hS (As := []) (rest := []) (k_X9_isTalk G hG l a0 h0 M1 e_2) w_X9_isTalk (tk_1149 hts) (c_10 h0) rfl rfl ⟨⟨rfl, rfl⟩, Nat.le_of_ble_eq_true rfl, Nat.le_of_ble_eq_true rfl⟩ ⟨Nat.zero_le _, Nat.zero_le _⟩ rfl hl.1 rfl (Nat.le_of_ble_eq_true rfl) dX9_firstError_6 (fun H locs hM hS => ?_)
  refine lv_if_eq (tgt := 19) hx hb dX9_firstError_9 (by decide) (fun g_5 => ?_) (fun g_5 => ?_)
  · rw [if_pos g_5] at hf
    refine lv_aload_n hx hb dX9_firstError_19 rfl (lv_at hl 0 rfl) ?_
    refine s_get hx hb (lay_9 hts) hown hK hM (c_10 h0) rfl 10 (by decide) rfl rfl (tk_973 hts) dX9_firstError_20 ?_
    exact ef_im hx hb hr hlocks hM hS hf dX9_firstError_23
  · rw [if_neg g_5] at hf
    refine lv_aload_n hx hb dX9_firstError_12 rfl (lv_at hl 0 rfl) ?_
    refine s_get hx hb (lay_9 hts) hown hK hM (c_10 h0) rfl 9 (by decide) rfl rfl (tk_972 hts) dX9_firstError_13 ?_
    refine lv_goto (tgt := 23) hx hb dX9_firstError_16 (by decide) ?_
    exact ef_im hx hb hr hlocks hM hS hf dX9_firstError_23
def f_X9_canDo_b54 (a0 : Nat) (p1 : Int32) (xs0 : Int32) (xs1 : Int32) (M : Mem) : Option Int32 := if xs1 ≤ xs0 then (some 0) else (some 1)
def f_X9_canDo (a0 : Nat) (p1 : Int32) (M : Mem) : Option Int32 := gd (ix p1 32) <| vb (f_X9_of a0 (mI M (a0 + 8) p1.toNatClampNeg) 38 M) fun r4 => gd (ix p1 32) <| if (mI M (a0 + 7) p1.toNatClampNeg) = (115 : Int32) then (gd (ix p1 32) <| vb (f_X9_canSay a0 (mI M (a0 + 8) p1.toNatClampNeg) M) fun r11 => gd (r11 = 0 ∨ r11 = 1) <| some r11) else (gd (ix p1 32) <| if (mI M (a0 + 7) p1.toNatClampNeg) = (120 : Int32) then (f_X9_canDo_b54 a0 p1 1 r4 M) else (f_X9_canDo_b54 a0 p1 0 r4 M))
set_option maxHeartbeats 4000000 in
set_option maxRecDepth 100000 in
theorem k_X9_canDo (G : Gt) (hG : gOK G) (l : Launch) (a0 : Nat) (h0 : gK G a0 = 10) (p1 : Int32) (M : Mem) {r : Int32} (hf : f_X9_canDo a0 p1 M = some r) : Kc G l yX9_canDo cX9_canDo 3 (some .boolean) ({ frames := 3, cells := 0, slots := 0, locals := 64 } : Room) [.ref a0, .int p1] M (some (.int r)) M := by
  refine start (by decide) (Nat.le_of_ble_eq_true rfl) ?_
  intro p e s m args below meth c ls hx hb hr hown hml hlocks hts hV hM hl
  have hown : s.vm.findClass "FoldedVoicesModel" = some m.cls := hown
  have hK := hG.1.moved hV
  have hS : va_S (gA G) s.heap s.heap [] := va_S.rf
  have hl : lv_has ls 3 [(0, .ref a0), (1, .int p1)] := hl
  have hM0 := hM
  have b54 : ∀ (xs0 : Int32) (xs1 : Int32) (M : Mem) (H : Heap) (locs : List Loc) (ls : Array Slot), Mh G M H → va_S (gA G) s.heap H locs → lv_has ls 3 [(0, .ref a0), (1, .int p1)] → f_X9_canDo_b54 a0 p1 xs0 xs1 M = some r → W p l e ({ frames := 3, cells := 0, slots := 0, locals := 64 } : Room) s m args below meth c H locs 0 0 (MQ below (QV G (some (.int r)) M) args s 0 0 (gA G)) (F0 m 54 ls [.int xs0, .int xs1]) := by
    intro xs0 xs1 M H locs ls hM hS hl hf
    rw [f_X9_canDo_b54] at hf
    refine lv_icmp_le (tgt := 61) hx hb dX9_canDo_54 (by decide) (fun g_1 => ?_) (fun g_1 => ?_)
    · rw [if_pos g_1] at hf
      refine lv_iconst (v := 0) hx hb dX9_canDo_61 (by decide) ?_
      exact ef_zp hx hb hr hlocks hM hS (nz_n (Or.inl rfl)) hf dX9_canDo_62
    · rw [if_neg g_1] at hf
      refine lv_iconst (v := 1) hx hb dX9_canDo_57 (by decide) ?_
      refine lv_goto (tgt := 62) hx hb dX9_canDo_58 (by decide) ?_
      exact ef_zp hx hb hr hlocks hM hS (nz_n (Or.inr rfl)) hf dX9_canDo_62
  rw [f_X9_canDo] at hf
  obtain ⟨H, hHe⟩ : ∃ H, H = s.heap := ⟨_, rfl⟩
  obtain ⟨locs, hLe⟩ : ∃ L : List Loc, L = [] := ⟨_, rfl⟩
  rw [← hHe] at hM
  have hS : va_S (gA G) s.heap H locs := by rw [hHe, hLe]; exact va_S.rf
  suffices hW : W p l e ({ frames := 3, cells := 0, slots := 0, locals := 64 } : Room) s m args below meth c H locs 0 0 (MQ below (QV G (some (.int r)) M) args s 0 0 (gA G)) (F0 m 0 ls []) by rw [hHe, hLe] at hW; exact hW
  refine lv_aload_n hx hb dX9_canDo_0 rfl (lv_at hl 0 rfl) ?_
  refine lv_aload_n hx hb dX9_canDo_1 rfl (lv_at hl 0 rfl) ?_
  refine s_get hx hb (lay_9 hts) hown hK hM (c_10 h0) rfl 13 (by decide) rfl rfl (tk_976 hts) dX9_canDo_2 ?_
  refine lv_iload_n hx hb dX9_canDo_5 rfl (lv_at hl 1 rfl) ?_
  obtain ⟨h_2, hf⟩ := gd_e hf
  refine s_iald 32 hx hb hK hM (ky_10_13 hG h0) (by decide) h_2 dX9_canDo_6 ?_
  refine lv_bipush (v := 38) hx hb dX9_canDo_7 (by decide) ?_
  obtain ⟨r4, e_3, hf⟩ := vb_e hf
  refine c_Vi hx hb hml hown hts hV hK hM hS (As := [.int (mI M (a0 + 8) p1.toNatClampNeg), .int 38]) (rest := []) (k_X9_of G hG l a0 h0 (mI M (a0 + 8) p1.toNatClampNeg) 38 M e_3) w_X9_of (tk_1037 hts) (c_10 h0) rfl rfl ⟨⟨rfl, rfl⟩, Nat.le_of_ble_eq_true rfl, Nat.le_of_ble_eq_true rfl⟩ ⟨Nat.zero_le _, Nat.zero_le _⟩ rfl hl.1 rfl (Nat.le_of_ble_eq_true rfl) dX9_canDo_9 (fun H locs hM hS => ?_)
  refine lv_istore_n (lv' := [(2, .int r4), (0, .ref a0), (1, .int p1)]) hx hb dX9_canDo_12 rfl hl (by decide) rfl (fun ls hl => ?_)
  refine lv_aload_n hx hb dX9_canDo_13 rfl (lv_at hl 1 rfl) ?_
  refine s_get hx hb (lay_9 hts) hown hK hM (c_10 h0) rfl 12 (by decide) rfl rfl (tk_975 hts) dX9_canDo_14 ?_
  refine lv_iload_n hx hb dX9_canDo_17 rfl (lv_at hl 2 rfl) ?_
  obtain ⟨h_5, hf⟩ := gd_e hf
  refine s_iald 32 hx hb hK hM (ky_10_12 hG h0) (by decide) h_5 dX9_canDo_18 ?_
  refine lv_bipush (v := 115) hx hb dX9_canDo_19 (by decide) ?_
  refine lv_icmp_ne (tgt := 37) hx hb dX9_canDo_21 (by decide) (fun g_6 => ?_) (fun g_6 => ?_)
  · rw [if_neg g_6] at hf
    refine lv_iload_n hx hb dX9_canDo_37 rfl (lv_at hl 0 rfl) ?_
    refine lv_aload_n hx hb dX9_canDo_38 rfl (lv_at hl 1 rfl) ?_
    refine s_get hx hb (lay_9 hts) hown hK hM (c_10 h0) rfl 12 (by decide) rfl rfl (tk_975 hts) dX9_canDo_39 ?_
    refine lv_iload_n hx hb dX9_canDo_42 rfl (lv_at hl 2 rfl) ?_
    obtain ⟨h_7, hf⟩ := gd_e hf
    refine s_iald 32 hx hb hK hM (ky_10_12 hG h0) (by decide) h_7 dX9_canDo_43 ?_
    refine lv_bipush (v := 120) hx hb dX9_canDo_44 (by decide) ?_
    refine lv_icmp_ne (tgt := 53) hx hb dX9_canDo_46 (by decide) (fun g_8 => ?_) (fun g_8 => ?_)
    · rw [if_neg g_8] at hf
      refine lv_iconst (v := 0) hx hb dX9_canDo_53 (by decide) ?_
      exact b54 0 r4 _ H locs ls hM hS (lv_sub hl [1, 2] rfl) hf
    · rw [if_pos g_8] at hf
      refine lv_iconst (v := 1) hx hb dX9_canDo_49 (by decide) ?_
      refine lv_goto (tgt := 54) hx hb dX9_canDo_50 (by decide) ?_
      exact b54 1 r4 _ H locs ls hM hS (lv_sub hl [1, 2] rfl) hf
  · rw [if_pos g_6] at hf
    refine lv_aload_n hx hb dX9_canDo_24 rfl (lv_at hl 1 rfl) ?_
    refine lv_aload_n hx hb dX9_canDo_25 rfl (lv_at hl 1 rfl) ?_
    refine s_get hx hb (lay_9 hts) hown hK hM (c_10 h0) rfl 13 (by decide) rfl rfl (tk_976 hts) dX9_canDo_26 ?_
    refine lv_iload_n hx hb dX9_canDo_29 rfl (lv_at hl 2 rfl) ?_
    obtain ⟨h_9, hf⟩ := gd_e hf
    refine s_iald 32 hx hb hK hM (ky_10_13 hG h0) (by decide) h_9 dX9_canDo_30 ?_
    obtain ⟨r11, e_10, hf⟩ := vb_e hf
    refine c_Vi hx hb hml hown hts hV hK hM hS (As := [.int (mI M (a0 + 8) p1.toNatClampNeg)]) (rest := []) (k_X9_canSay G hG l a0 h0 (mI M (a0 + 8) p1.toNatClampNeg) M e_10) w_X9_canSay (tk_1033 hts) (c_10 h0) rfl rfl ⟨⟨rfl, rfl⟩, Nat.le_of_ble_eq_true rfl, Nat.le_of_ble_eq_true rfl⟩ ⟨Nat.zero_le _, Nat.zero_le _⟩ rfl hl.1 rfl (Nat.le_of_ble_eq_true rfl) dX9_canDo_31 (fun H locs hM hS => ?_)
    refine lv_goto (tgt := 62) hx hb dX9_canDo_34 (by decide) ?_
    obtain ⟨h_12, hf⟩ := gd_e hf
    exact ef_zp hx hb hr hlocks hM hS (nz_n h_12) hf dX9_canDo_62
def f_X9_doDeed (a0 : Nat) (p1 : Int32) (M : Mem) : Option (Int32 × Mem) := gd (ix p1 32) <| nb (mI M (a0 + 8) p1.toNatClampNeg) fun y2 => gd (ix p1 32) <| nb (mI M (a0 + 7) p1.toNatClampNeg) fun y4 => if y4 = 100 then (cb (f_X9_deliverNow a0 y2 M) fun r7 M8 => some (r7, M8)) else (if y4 = 108 then (cb (f_X9_loseNow a0 y2 M) fun r11 M12 => some (r11, M12)) else (if y4 = 115 then (gd (ix p1 32) <| cb (f_X9_sayNow a0 y2 (mI M (a0 + 9) p1.toNatClampNeg) M) fun r16 M17 => some (r16, M17)) else (cb (f_X9_swapNow a0 y2 M) fun r19 M20 => some (r19, M20))))
set_option maxHeartbeats 4000000 in
set_option maxRecDepth 100000 in
theorem k_X9_doDeed (G : Gt) (hG : gOK G) (l : Launch) (a0 : Nat) (h0 : gK G a0 = 10) (p1 : Int32) (M : Mem) {r : Int32} {M' : Mem} (hf : f_X9_doDeed a0 p1 M = some (r, M')) : Kc G l yX9_doDeed cX9_doDeed 3 (some .int) ({ frames := 4, cells := 0, slots := 0, locals := 100 } : Room) [.ref a0, .int p1] M (some (.int r)) M' := by
  refine start (by decide) (Nat.le_of_ble_eq_true rfl) ?_
  intro p e s m args below meth c ls hx hb hr hown hml hlocks hts hV hM hl
  have hown : s.vm.findClass "FoldedVoicesModel" = some m.cls := hown
  have hK := hG.1.moved hV
  have hS : va_S (gA G) s.heap s.heap [] := va_S.rf
  have hl : lv_has ls 3 [(0, .ref a0), (1, .int p1)] := hl
  have hM0 := hM
  rw [f_X9_doDeed] at hf
  refine lv_aload_n hx hb dX9_doDeed_0 rfl (lv_at hl 0 rfl) ?_
  refine s_get hx hb (lay_9 hts) hown hK hM (c_10 h0) rfl 13 (by decide) rfl rfl (tk_976 hts) dX9_doDeed_1 ?_
  refine lv_iload_n hx hb dX9_doDeed_4 rfl (lv_at hl 1 rfl) ?_
  obtain ⟨h_1, hf⟩ := gd_e hf
  refine s_iald 32 hx hb hK hM (ky_10_13 hG h0) (by decide) h_1 dX9_doDeed_5 ?_
  obtain ⟨y2, ey2, hf⟩ := nb_e hf
  refine s_nm ey2 ?_
  refine lv_istore_n (lv' := [(2, .int y2), (0, .ref a0), (1, .int p1)]) hx hb dX9_doDeed_6 rfl hl (by decide) rfl (fun ls hl => ?_)
  refine lv_aload_n hx hb dX9_doDeed_7 rfl (lv_at hl 1 rfl) ?_
  refine s_get hx hb (lay_9 hts) hown hK hM (c_10 h0) rfl 12 (by decide) rfl rfl (tk_975 hts) dX9_doDeed_8 ?_
  refine lv_iload_n hx hb dX9_doDeed_11 rfl (lv_at hl 2 rfl) ?_
  obtain ⟨h_3, hf⟩ := gd_e hf
  refine s_iald 32 hx hb hK hM (ky_10_12 hG h0) (by decide) h_3 dX9_doDeed_12 ?_
  obtain ⟨y4, ey4, hf⟩ := nb_e hf
  refine s_nm ey4 ?_
  by_cases g_5 : y4 = 100
  · rw [if_pos g_5] at hf
    refine lv_lookup (off := 47) (tgt := 60) hx hb dX9_doDeed_13 (by decide) (by rw [g_5]; decide) (by decide) ?_
    refine lv_aload_n hx hb dX9_doDeed_60 rfl (lv_at hl 1 rfl) ?_
    refine lv_iload_n hx hb dX9_doDeed_61 rfl (lv_at hl 0 rfl) ?_
    obtain ⟨r7, M8, e_6, hf⟩ := cb_e hf
    refine c_Vi hx hb hml hown hts hV hK hM hS (As := [.int y2]) (rest := []) (k_X9_deliverNow G hG l a0 h0 y2 M e_6) w_X9_deliverNow (tk_1098 hts) (c_10 h0) rfl rfl ⟨⟨rfl, rfl⟩, Nat.le_of_ble_eq_true rfl, Nat.le_of_ble_eq_true rfl⟩ ⟨Nat.zero_le _, Nat.zero_le _⟩ rfl hl.1 rfl (Nat.le_of_ble_eq_true rfl) dX9_doDeed_62 (fun H locs hM hS => ?_)
    exact ef_im hx hb hr hlocks hM hS hf dX9_doDeed_65
  rw [if_neg g_5] at hf
  by_cases g_9 : y4 = 108
  · rw [if_pos g_9] at hf
    refine lv_lookup (off := 53) (tgt := 66) hx hb dX9_doDeed_13 (by decide) (by rw [g_9]; decide) (by decide) ?_
    refine lv_aload_n hx hb dX9_doDeed_66 rfl (lv_at hl 1 rfl) ?_
    refine lv_iload_n hx hb dX9_doDeed_67 rfl (lv_at hl 0 rfl) ?_
    obtain ⟨r11, M12, e_10, hf⟩ := cb_e hf
    refine c_Vi hx hb hml hown hts hV hK hM hS (As := [.int y2]) (rest := []) (k_X9_loseNow G hG l a0 h0 y2 M e_10) w_X9_loseNow (tk_1118 hts) (c_10 h0) rfl rfl ⟨⟨rfl, rfl⟩, Nat.le_of_ble_eq_true rfl, Nat.le_of_ble_eq_true rfl⟩ ⟨Nat.zero_le _, Nat.zero_le _⟩ rfl hl.1 rfl (Nat.le_of_ble_eq_true rfl) dX9_doDeed_68 (fun H locs hM hS => ?_)
    exact ef_im hx hb hr hlocks hM hS hf dX9_doDeed_71
  rw [if_neg g_9] at hf
  by_cases g_13 : y4 = 115
  · rw [if_pos g_13] at hf
    refine lv_lookup (off := 35) (tgt := 48) hx hb dX9_doDeed_13 (by decide) (by rw [g_13]; decide) (by decide) ?_
    refine lv_aload_n hx hb dX9_doDeed_48 rfl (lv_at hl 1 rfl) ?_
    refine lv_iload_n hx hb dX9_doDeed_49 rfl (lv_at hl 0 rfl) ?_
    refine lv_aload_n hx hb dX9_doDeed_50 rfl (lv_at hl 1 rfl) ?_
    refine s_get hx hb (lay_9 hts) hown hK hM (c_10 h0) rfl 14 (by decide) rfl rfl (tk_977 hts) dX9_doDeed_51 ?_
    refine lv_iload_n hx hb dX9_doDeed_54 rfl (lv_at hl 2 rfl) ?_
    obtain ⟨h_14, hf⟩ := gd_e hf
    refine s_iald 32 hx hb hK hM (ky_10_14 hG h0) (by decide) h_14 dX9_doDeed_55 ?_
    obtain ⟨r16, M17, e_15, hf⟩ := cb_e hf
    refine c_Vi hx hb hml hown hts hV hK hM hS (As := [.int y2, .int (mI M (a0 + 9) p1.toNatClampNeg)]) (rest := []) (k_X9_sayNow G hG l a0 h0 y2 (mI M (a0 + 9) p1.toNatClampNeg) M e_15) w_X9_sayNow (tk_1049 hts) (c_10 h0) rfl rfl ⟨⟨rfl, rfl⟩, Nat.le_of_ble_eq_true rfl, Nat.le_of_ble_eq_true rfl⟩ ⟨Nat.zero_le _, Nat.zero_le _⟩ rfl hl.1 rfl (Nat.le_of_ble_eq_true rfl) dX9_doDeed_56 (fun H locs hM hS => ?_)
    exact ef_im hx hb hr hlocks hM hS hf dX9_doDeed_59
  rw [if_neg g_13] at hf
  refine lv_lookup (off := 59) (tgt := 72) hx hb dX9_doDeed_13 (by decide) ((lv_osw g_5 (by decide)).trans ((lv_osw g_9 (by decide)).trans ((lv_osw g_13 (by decide)).trans (rfl)))) (by decide) ?_
  refine lv_aload_n hx hb dX9_doDeed_72 rfl (lv_at hl 1 rfl) ?_
  refine lv_iload_n hx hb dX9_doDeed_73 rfl (lv_at hl 0 rfl) ?_
  obtain ⟨r19, M20, e_18, hf⟩ := cb_e hf
  refine c_Vi hx hb hml hown hts hV hK hM hS (As := [.int y2]) (rest := []) (k_X9_swapNow G hG l a0 h0 y2 M e_18) w_X9_swapNow (tk_1126 hts) (c_10 h0) rfl rfl ⟨⟨rfl, rfl⟩, Nat.le_of_ble_eq_true rfl, Nat.le_of_ble_eq_true rfl⟩ ⟨Nat.zero_le _, Nat.zero_le _⟩ rfl hl.1 rfl (Nat.le_of_ble_eq_true rfl) dX9_doDeed_74 (fun H locs hM hS => ?_)
  exact ef_im hx hb hr hlocks hM hS hf dX9_doDeed_77
