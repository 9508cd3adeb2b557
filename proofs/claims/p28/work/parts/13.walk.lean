def f_X3_takeMean_b20 (a0 : Nat) (p1 : Int32) (xs0 : Int32) (M : Mem) : Option (Int32 × Mem) := nb (sI M a0 2 0) fun M1 => nb (sI M1 a0 3 0) fun M2 => vb (f_X8_distance xs0 0 M2) fun r4 => if p1 ≤ r4 then (some (xs0, M2)) else (some (0, M2))
def f_X3_takeMean (a0 : Nat) (p1 : Int32) (M : Mem) : Option (Int32 × Mem) := if (mI M a0 2) ≤ 0 then (f_X3_takeMean_b20 a0 p1 0 M) else (gd (¬ (mI M a0 2) = 0) <| f_X3_takeMean_b20 a0 p1 ((mI M a0 3) / (mI M a0 2)) M)
set_option maxHeartbeats 4000000 in
set_option maxRecDepth 100000 in
theorem k_X3_takeMean (G : Gt) (hG : gOK G) (l : Launch) (a0 : Nat) (h0 : gK G a0 = 4) (p1 : Int32) (M : Mem) {r : Int32} {M' : Mem} (hf : f_X3_takeMean a0 p1 M = some (r, M')) : Kc G l yX3_takeMean cX3_takeMean 3 (some .int) ({ frames := 1, cells := 0, slots := 0, locals := 21 } : Room) [.ref a0, .int p1] M (some (.int r)) M' := by
  refine start (by decide) (Nat.le_of_ble_eq_true rfl) ?_
  intro p e s m args below meth c ls hx hb hr hown hml hlocks hts hV hM hl
  have hown : s.vm.findClass "FoldedVoices$SayingEnd" = some m.cls := hown
  have hK := hG.1.moved hV
  have hS : va_S (gA G) s.heap s.heap [] := va_S.rf
  have hl : lv_has ls 3 [(0, .ref a0), (1, .int p1)] := hl
  have hM0 := hM
  have b20 : ∀ (xs0 : Int32) (M : Mem) (H : Heap) (locs : List Loc) (ls : Array Slot), Mh G M H → va_S (gA G) s.heap H locs → lv_has ls 3 [(0, .ref a0), (1, .int p1)] → f_X3_takeMean_b20 a0 p1 xs0 M = some (r, M') → W p l e ({ frames := 1, cells := 0, slots := 0, locals := 21 } : Room) s m args below meth c H locs 0 0 (MQ below (QV G (some (.int r)) M') args s 0 0 (gA G)) (F0 m 20 ls [.int xs0]) := by
    intro xs0 M H locs ls hM hS hl hf
    rw [f_X3_takeMean_b20] at hf
    refine lv_istore_n (lv' := [(2, .int xs0), (0, .ref a0), (1, .int p1)]) hx hb dX3_takeMean_20 rfl hl (by decide) rfl (fun ls hl => ?_)
    refine lv_aload_n hx hb dX3_takeMean_21 rfl (lv_at hl 1 rfl) ?_
    refine lv_iconst (v := 0) hx hb dX3_takeMean_22 (by decide) ?_
    obtain ⟨M1, eM1, hf⟩ := nb_e hf
    refine s_put tyX3 hx hb (lay_3 hts) tyX3_ok nmX3 hown hK hM hS (ky_b hG h0) (c_4 h0) rfl 2 (by decide) rfl rfl rfl (Nat.le_of_ble_eq_true rfl) (cp_3_2 h0) (fun _ h9 => cel_sI _ h9) hM.2.2.sI rfl (tk_119 hts) dX3_takeMean_23 (fun H locs hM hS => ?_)
    rw [eM1] at hM
    refine lv_aload_n hx hb dX3_takeMean_26 rfl (lv_at hl 1 rfl) ?_
    refine lv_iconst (v := 0) hx hb dX3_takeMean_27 (by decide) ?_
    obtain ⟨M2, eM2, hf⟩ := nb_e hf
    refine s_put tyX3 hx hb (lay_3 hts) tyX3_ok nmX3 hown hK hM hS (ky_b hG h0) (c_4 h0) rfl 3 (by decide) rfl rfl rfl (Nat.le_of_ble_eq_true rfl) (cp_3_3 h0) (fun _ h9 => cel_sI _ h9) hM.2.2.sI rfl (tk_122 hts) dX3_takeMean_28 (fun H locs hM hS => ?_)
    rw [eM2] at hM
    refine lv_iload_n hx hb dX3_takeMean_31 rfl (lv_at hl 0 rfl) ?_
    refine lv_iconst (v := 0) hx hb dX3_takeMean_32 (by decide) ?_
    obtain ⟨r4, e_3, hf⟩ := vb_e hf
    refine c_SNi hx hb hml hown hts hV hM hS (As := [.int xs0, .int 0]) (rest := []) (k_X8_distance G hG l xs0 0 M2 e_3) w_X8_distance (tk_799 hts) ⟨⟨rfl, rfl⟩, Nat.le_of_ble_eq_true rfl, Nat.le_of_ble_eq_true rfl⟩ ⟨Nat.zero_le _, Nat.zero_le _⟩ rfl hl.1 rfl (Nat.le_of_ble_eq_true rfl) dX3_takeMean_33 (fun H locs hM hS => ?_)
    refine lv_iload_n hx hb dX3_takeMean_36 rfl (lv_at hl 2 rfl) ?_
    refine lv_icmp_ge (tgt := 44) hx hb dX3_takeMean_37 (by decide) (fun g_5 => ?_) (fun g_5 => ?_)
    · rw [if_pos g_5] at hf
      refine lv_iload_n hx hb dX3_takeMean_44 rfl (lv_at hl 0 rfl) ?_
      exact ef_im hx hb hr hlocks hM hS hf dX3_takeMean_45
    · rw [if_neg g_5] at hf
      refine lv_iconst (v := 0) hx hb dX3_takeMean_40 (by decide) ?_
      refine lv_goto (tgt := 45) hx hb dX3_takeMean_41 (by decide) ?_
      exact ef_im hx hb hr hlocks hM hS hf dX3_takeMean_45
  rw [f_X3_takeMean] at hf
  obtain ⟨H, hHe⟩ : ∃ H, H = s.heap := ⟨_, rfl⟩
  obtain ⟨locs, hLe⟩ : ∃ L : List Loc, L = [] := ⟨_, rfl⟩
  rw [← hHe] at hM
  have hS : va_S (gA G) s.heap H locs := by rw [hHe, hLe]; exact va_S.rf
  suffices hW : W p l e ({ frames := 1, cells := 0, slots := 0, locals := 21 } : Room) s m args below meth c H locs 0 0 (MQ below (QV G (some (.int r)) M') args s 0 0 (gA G)) (F0 m 0 ls []) by rw [hHe, hLe] at hW; exact hW
  refine lv_aload_n hx hb dX3_takeMean_0 rfl (lv_at hl 0 rfl) ?_
  refine s_get hx hb (lay_3 hts) hown hK hM (c_4 h0) rfl 2 (by decide) rfl rfl (tk_119 hts) dX3_takeMean_1 ?_
  refine lv_if_le (tgt := 19) hx hb dX3_takeMean_4 (by decide) (fun g_6 => ?_) (fun g_6 => ?_)
  · rw [if_pos g_6] at hf
    refine lv_iconst (v := 0) hx hb dX3_takeMean_19 (by decide) ?_
    exact b20 0 _ H locs ls hM hS (lv_sub hl [0, 1] rfl) hf
  · rw [if_neg g_6] at hf
    refine lv_aload_n hx hb dX3_takeMean_7 rfl (lv_at hl 0 rfl) ?_
    refine s_get hx hb (lay_3 hts) hown hK hM (c_4 h0) rfl 3 (by decide) rfl rfl (tk_122 hts) dX3_takeMean_8 ?_
    refine lv_aload_n hx hb dX3_takeMean_11 rfl (lv_at hl 0 rfl) ?_
    refine s_get hx hb (lay_3 hts) hown hK hM (c_4 h0) rfl 2 (by decide) rfl rfl (tk_119 hts) dX3_takeMean_12 ?_
    obtain ⟨h_7, hf⟩ := gd_e hf
    refine lv_idiv hx hb dX3_takeMean_15 h_7 ?_
    refine lv_goto (tgt := 20) hx hb dX3_takeMean_16 (by decide) ?_
    exact b20 ((mI M a0 3) / (mI M a0 2)) _ H locs ls hM hS (lv_sub hl [0, 1] rfl) hf
def f_X3_fold_b33 (a0 : Nat) (p1 : Int32) (x2 : Int32) (M : Mem) : Option (Int32 × Mem) := vb (f_X2_add (a0 + 2) x2 p1 M) fun M2 => vb (f_X0_follow (a0 + 1) x2 M2) fun M4 => nb (sI M4 a0 6 ((mI M4 a0 6) + 1)) fun M5 => some (x2, M5)
def f_X3_fold (a0 : Nat) (p1 : Int32) (M : Mem) : Option (Int32 × Mem) := vb (f_X0_codeFor (a0 + 1) p1 M) fun r7 => if (mI M (a0 + 2) 2) = 0 then (vb (f_X0_copyFrom ((a0 + 2) + 3) (a0 + 1) M) fun M10 => f_X3_fold_b33 a0 p1 r7 M10) else (f_X3_fold_b33 a0 p1 r7 M)
set_option maxHeartbeats 4000000 in
set_option maxRecDepth 100000 in
theorem k_X3_fold (G : Gt) (hG : gOK G) (l : Launch) (a0 : Nat) (h0 : gK G a0 = 4) (p1 : Int32) (M : Mem) {r : Int32} {M' : Mem} (hf : f_X3_fold a0 p1 M = some (r, M')) : Kc G l yX3_fold cX3_fold 3 (some .int) ({ frames := 3, cells := 0, slots := 0, locals := 68 } : Room) [.ref a0, .int p1] M (some (.int r)) M' := by
  refine start (by decide) (Nat.le_of_ble_eq_true rfl) ?_
  intro p e s m args below meth c ls hx hb hr hown hml hlocks hts hV hM hl
  have hown : s.vm.findClass "FoldedVoices$SayingEnd" = some m.cls := hown
  have hK := hG.1.moved hV
  have hS : va_S (gA G) s.heap s.heap [] := va_S.rf
  have hl : lv_has ls 3 [(0, .ref a0), (1, .int p1)] := hl
  have hM0 := hM
  have b33 : ∀ (x2 : Int32) (M : Mem) (H : Heap) (locs : List Loc) (ls : Array Slot), Mh G M H → va_S (gA G) s.heap H locs → lv_has ls 3 [(0, .ref a0), (1, .int p1), (2, .int x2)] → f_X3_fold_b33 a0 p1 x2 M = some (r, M') → W p l e ({ frames := 3, cells := 0, slots := 0, locals := 68 } : Room) s m args below meth c H locs 0 0 (MQ below (QV G (some (.int r)) M') args s 0 0 (gA G)) (F0 m 33 ls []) := by
    intro x2 M H locs ls hM hS hl hf
    rw [f_X3_fold_b33] at hf
    refine lv_aload_n hx hb dX3_fold_33 rfl (lv_at hl 0 rfl) ?_
    refine s_get hx hb (lay_3 hts) hown hK hM (c_4 h0) rfl 4 (by decide) rfl rfl (tk_124 hts) dX3_fold_34 ?_
    refine lv_iload_n hx hb dX3_fold_37 rfl (lv_at hl 2 rfl) ?_
    refine lv_iload_n hx hb dX3_fold_38 rfl (lv_at hl 1 rfl) ?_
    obtain ⟨M2, e_1, hf⟩ := vb_e hf
    refine c_Vv hx hb hml hown hts hV hK hM hS (As := [.int x2, .int p1]) (rest := []) (k_X2_add G hG l (a0 + 2) (ky_4_4 hG h0) x2 p1 M e_1) w_X2_add (tk_805 hts) (c_3 (ky_4_4 hG h0)) rfl rfl ⟨⟨rfl, rfl⟩, Nat.le_of_ble_eq_true rfl, Nat.le_of_ble_eq_true rfl⟩ ⟨Nat.zero_le _, Nat.zero_le _⟩ rfl hl.1 rfl (Nat.le_of_ble_eq_true rfl) dX3_fold_39 (fun H locs hM hS => ?_)
    refine lv_aload_n hx hb dX3_fold_42 rfl (lv_at hl 0 rfl) ?_
    refine s_get hx hb (lay_3 hts) hown hK hM (c_4 h0) rfl 0 (by decide) rfl rfl (tk_115 hts) dX3_fold_43 ?_
    refine lv_iload_n hx hb dX3_fold_46 rfl (lv_at hl 2 rfl) ?_
    obtain ⟨M4, e_3, hf⟩ := vb_e hf
    refine c_Vv hx hb hml hown hts hV hK hM hS (As := [.int x2]) (rest := []) (k_X0_follow G hG l (a0 + 1) (ky_4_0 hG h0) x2 M2 e_3) w_X0_follow (tk_415 hts) (c_1 (ky_4_0 hG h0)) rfl rfl ⟨⟨rfl, rfl⟩, Nat.le_of_ble_eq_true rfl, Nat.le_of_ble_eq_true rfl⟩ ⟨Nat.zero_le _, Nat.zero_le _⟩ rfl hl.1 rfl (Nat.le_of_ble_eq_true rfl) dX3_fold_47 (fun H locs hM hS => ?_)
    refine lv_aload_n hx hb dX3_fold_50 rfl (lv_at hl 0 rfl) ?_
    refine lv_dup hx hb dX3_fold_51 rfl ?_
    refine s_get hx hb (lay_3 hts) hown hK hM (c_4 h0) rfl 6 (by decide) rfl rfl (tk_130 hts) dX3_fold_52 ?_
    refine lv_iconst (v := 1) hx hb dX3_fold_55 (by decide) ?_
    refine lv_iadd hx hb dX3_fold_56 ?_
    obtain ⟨M5, eM5, hf⟩ := nb_e hf
    refine s_put tyX3 hx hb (lay_3 hts) tyX3_ok nmX3 hown hK hM hS (ky_b hG h0) (c_4 h0) rfl 6 (by decide) rfl rfl rfl (Nat.le_of_ble_eq_true rfl) (cp_3_6 h0) (fun _ h9 => cel_sI _ h9) hM.2.2.sI rfl (tk_130 hts) dX3_fold_57 (fun H locs hM hS => ?_)
    rw [eM5] at hM
    refine lv_iload_n hx hb dX3_fold_60 rfl (lv_at hl 2 rfl) ?_
    exact ef_im hx hb hr hlocks hM hS hf dX3_fold_61
  rw [f_X3_fold] at hf
  obtain ⟨H, hHe⟩ : ∃ H, H = s.heap := ⟨_, rfl⟩
  obtain ⟨locs, hLe⟩ : ∃ L : List Loc, L = [] := ⟨_, rfl⟩
  rw [← hHe] at hM
  have hS : va_S (gA G) s.heap H locs := by rw [hHe, hLe]; exact va_S.rf
  suffices hW : W p l e ({ frames := 3, cells := 0, slots := 0, locals := 68 } : Room) s m args below meth c H locs 0 0 (MQ below (QV G (some (.int r)) M') args s 0 0 (gA G)) (F0 m 0 ls []) by rw [hHe, hLe] at hW; exact hW
  refine lv_aload_n hx hb dX3_fold_0 rfl (lv_at hl 0 rfl) ?_
  refine s_get hx hb (lay_3 hts) hown hK hM (c_4 h0) rfl 0 (by decide) rfl rfl (tk_115 hts) dX3_fold_1 ?_
  refine lv_iload_n hx hb dX3_fold_4 rfl (lv_at hl 1 rfl) ?_
  obtain ⟨r7, e_6, hf⟩ := vb_e hf
  refine c_Vi hx hb hml hown hts hV hK hM hS (As := [.int p1]) (rest := []) (k_X0_codeFor G hG l (a0 + 1) (ky_4_0 hG h0) p1 M e_6) w_X0_codeFor (tk_804 hts) (c_1 (ky_4_0 hG h0)) rfl rfl ⟨⟨rfl, rfl⟩, Nat.le_of_ble_eq_true rfl, Nat.le_of_ble_eq_true rfl⟩ ⟨Nat.zero_le _, Nat.zero_le _⟩ rfl hl.1 rfl (Nat.le_of_ble_eq_true rfl) dX3_fold_5 (fun H locs hM hS => ?_)
  refine lv_istore_n (lv' := [(2, .int r7), (0, .ref a0), (1, .int p1)]) hx hb dX3_fold_8 rfl hl (by decide) rfl (fun ls hl => ?_)
  refine lv_aload_n hx hb dX3_fold_9 rfl (lv_at hl 1 rfl) ?_
  refine s_get hx hb (lay_3 hts) hown hK hM (c_4 h0) rfl 4 (by decide) rfl rfl (tk_124 hts) dX3_fold_10 ?_
  refine s_getN hx hb (lay_2 hts) hown hK hM (c_3 (ky_4_4 hG h0)) rfl 2 (by decide) rfl rfl (tk_88 hts) dX3_fold_13 ?_
  refine lv_if_ne (tgt := 33) hx hb dX3_fold_16 (by decide) (fun g_8 => ?_) (fun g_8 => ?_)
  · rw [if_neg g_8] at hf
    exact b33 r7 _ H locs ls hM hS (lv_sub hl [1, 2, 0] rfl) hf
  · rw [if_pos g_8] at hf
    refine lv_aload_n hx hb dX3_fold_19 rfl (lv_at hl 1 rfl) ?_
    refine s_get hx hb (lay_3 hts) hown hK hM (c_4 h0) rfl 4 (by decide) rfl rfl (tk_124 hts) dX3_fold_20 ?_
    refine s_getN hx hb (lay_2 hts) hown hK hM (c_3 (ky_4_4 hG h0)) rfl 5 (by decide) rfl rfl (tk_101 hts) dX3_fold_23 ?_
    refine lv_aload_n hx hb dX3_fold_26 rfl (lv_at hl 1 rfl) ?_
    refine s_get hx hb (lay_3 hts) hown hK hM (c_4 h0) rfl 0 (by decide) rfl rfl (tk_115 hts) dX3_fold_27 ?_
    obtain ⟨M10, e_9, hf⟩ := vb_e hf
    refine c_Vv hx hb hml hown hts hV hK hM hS (As := [.ref (a0 + 1)]) (rest := []) (k_X0_copyFrom G hG l ((a0 + 2) + 3) (ky_3_5 hG (ky_4_4 hG h0)) (a0 + 1) (ky_4_0 hG h0) M e_9) w_X0_copyFrom (tk_411 hts) (c_1 (ky_3_5 hG (ky_4_4 hG h0))) rfl rfl ⟨⟨rfl, rfl⟩, Nat.le_of_ble_eq_true rfl, Nat.le_of_ble_eq_true rfl⟩ ⟨Nat.zero_le _, Nat.zero_le _⟩ rfl hl.1 rfl (Nat.le_of_ble_eq_true rfl) dX3_fold_30 (fun H locs hM hS => ?_)
    exact b33 r7 _ H locs ls hM hS (lv_sub hl [1, 2, 0] rfl) hf
def f_X3_rememberSinceHead_b53 (a0 : Nat) (a1 : Nat) (k2 : Int32 → Mem → Option Mem) (x2 : Int32) (M : Mem) : Option Mem := nb (x2 + 1) fun y1 => k2 y1 M
def f_X3_rememberSinceHead_b2 (a0 : Nat) (a1 : Nat) : Nat → Int32 → Mem → Option Mem
  | 0, _, _ => none
  | n + 1, x2, M => if (mI M a1 2) ≤ x2 then (some M) else (if (mI M a0 10) < 0 then (f_X3_rememberSinceHead_b53 a0 a1 (f_X3_rememberSinceHead_b2 a0 a1 n) x2 M) else (if (72 : Int32) ≤ (mI M a0 10) then (f_X3_rememberSinceHead_b53 a0 a1 (f_X3_rememberSinceHead_b2 a0 a1 n) x2 M) else (vb (f_X2_codeAt a1 x2 M) fun r6 => gd (ix (mI M a0 10) 72) <| nb (sI M (a0 + 7) (mI M a0 10).toNatClampNeg r6) fun M8 => nb (sI M8 a0 10 ((mI M8 a0 10) + 1)) fun M9 => f_X3_rememberSinceHead_b53 a0 a1 (f_X3_rememberSinceHead_b2 a0 a1 n) x2 M9)))
def f_X3_rememberSinceHead (a0 : Nat) (a1 : Nat) (M : Mem) : Option Mem := f_X3_rememberSinceHead_b2 a0 a1 lfuel 0 M
set_option maxHeartbeats 4000000 in
set_option maxRecDepth 100000 in
theorem k_X3_rememberSinceHead (G : Gt) (hG : gOK G) (l : Launch) (a0 : Nat) (h0 : gK G a0 = 4) (a1 : Nat) (h1 : gK G a1 = 3) (M : Mem) {M' : Mem} (hf : f_X3_rememberSinceHead a0 a1 M = some M') : Kc G l yX3_rememberSinceHead cX3_rememberSinceHead 3 none ({ frames := 1, cells := 0, slots := 0, locals := 21 } : Room) [.ref a0, .ref a1] M none M' := by
  refine start (by decide) (Nat.le_of_ble_eq_true rfl) ?_
  intro p e s m args below meth c ls hx hb hr hown hml hlocks hts hV hM hl
  have hown : s.vm.findClass "FoldedVoices$SayingEnd" = some m.cls := hown
  have hK := hG.1.moved hV
  have hS : va_S (gA G) s.heap s.heap [] := va_S.rf
  have hl : lv_has ls 3 [(0, .ref a0), (1, .ref a1)] := hl
  have hM0 := hM
  have b53 : ∀ (k2 : Int32 → Mem → Option Mem), (∀ (x2 : Int32) (M : Mem) (H : Heap) (locs : List Loc) (ls : Array Slot), Mh G M H → va_S (gA G) s.heap H locs → lv_has ls 3 [(0, .ref a0), (1, .ref a1), (2, .int x2)] → k2 x2 M = some M' → W p l e ({ frames := 1, cells := 0, slots := 0, locals := 21 } : Room) s m args below meth c H locs 0 0 (MQ below (QV G none M') args s 0 0 (gA G)) (F0 m 2 ls [])) → ∀ (x2 : Int32) (M : Mem) (H : Heap) (locs : List Loc) (ls : Array Slot), Mh G M H → va_S (gA G) s.heap H locs → lv_has ls 3 [(0, .ref a0), (1, .ref a1), (2, .int x2)] → f_X3_rememberSinceHead_b53 a0 a1 k2 x2 M = some M' → W p l e ({ frames := 1, cells := 0, slots := 0, locals := 21 } : Room) s m args below meth c H locs 0 0 (MQ below (QV G none M') args s 0 0 (gA G)) (F0 m 53 ls []) := by
    intro k2 hk2
    intro x2 M H locs ls hM hS hl hf
    rw [f_X3_rememberSinceHead_b53] at hf
    obtain ⟨y1, ey1, hf⟩ := nb_e hf
    refine lv_iinc (v := y1) (lv' := [(2, .int y1), (0, .ref a0), (1, .ref a1)]) hx hb dX3_rememberSinceHead_53 hl (k := 2) rfl (by rw [← ey1]; rfl) (by decide) rfl (fun ls hl => ?_)
    refine lv_goto (tgt := 2) hx hb dX3_rememberSinceHead_56 (by decide) ?_
    exact hk2 y1 _ H locs ls hM hS (lv_sub hl [1, 2, 0] rfl) hf
  have b2 : ∀ (n : Nat), ∀ (x2 : Int32) (M : Mem) (H : Heap) (locs : List Loc) (ls : Array Slot), Mh G M H → va_S (gA G) s.heap H locs → lv_has ls 3 [(0, .ref a0), (1, .ref a1), (2, .int x2)] → f_X3_rememberSinceHead_b2 a0 a1 n x2 M = some M' → W p l e ({ frames := 1, cells := 0, slots := 0, locals := 21 } : Room) s m args below meth c H locs 0 0 (MQ below (QV G none M') args s 0 0 (gA G)) (F0 m 2 ls []) := by
    intro n
    induction n with
    | zero =>
      intro x2 M H locs ls hM hS hl hf
      rw [f_X3_rememberSinceHead_b2] at hf
      cases hf
    | succ n ih =>
      intro x2 M H locs ls hM hS hl hf
      rw [f_X3_rememberSinceHead_b2] at hf
      refine lv_iload_n hx hb dX3_rememberSinceHead_2 rfl (lv_at hl 2 rfl) ?_
      refine lv_aload_n hx hb dX3_rememberSinceHead_3 rfl (lv_at hl 1 rfl) ?_
      refine s_getN hx hb (lay_2 hts) hown hK hM (c_3 h1) rfl 2 (by decide) rfl rfl (tk_88 hts) dX3_rememberSinceHead_4 ?_
      refine lv_icmp_ge (tgt := 59) hx hb dX3_rememberSinceHead_7 (by decide) (fun g_2 => ?_) (fun g_2 => ?_)
      · rw [if_pos g_2] at hf
        exact ef_v hx hb hr hlocks hM hS hf dX3_rememberSinceHead_59
      · rw [if_neg g_2] at hf
        refine lv_aload_n hx hb dX3_rememberSinceHead_10 rfl (lv_at hl 0 rfl) ?_
        refine s_get hx hb (lay_3 hts) hown hK hM (c_4 h0) rfl 10 (by decide) rfl rfl (tk_136 hts) dX3_rememberSinceHead_11 ?_
        refine lv_if_lt (tgt := 53) hx hb dX3_rememberSinceHead_14 (by decide) (fun g_3 => ?_) (fun g_3 => ?_)
        · rw [if_pos g_3] at hf
          exact b53 _ ih x2 _ H locs ls hM hS (lv_sub hl [0, 1, 2] rfl) hf
        · rw [if_neg g_3] at hf
          refine lv_aload_n hx hb dX3_rememberSinceHead_17 rfl (lv_at hl 0 rfl) ?_
          refine s_get hx hb (lay_3 hts) hown hK hM (c_4 h0) rfl 10 (by decide) rfl rfl (tk_136 hts) dX3_rememberSinceHead_18 ?_
          refine lv_aload_n hx hb dX3_rememberSinceHead_21 rfl (lv_at hl 0 rfl) ?_
          refine s_get hx hb (lay_3 hts) hown hK hM (c_4 h0) rfl 9 (by decide) rfl rfl (tk_135 hts) dX3_rememberSinceHead_22 ?_
          refine s_alen 0 hx hb hK hM (cel_ia (ky_4_9 hG h0) (n := 72) (by decide)) rfl (v := 72) (show Int32.ofNat 72 = 72 from by decide) dX3_rememberSinceHead_25 ?_
          refine lv_icmp_ge (tgt := 53) hx hb dX3_rememberSinceHead_26 (by decide) (fun g_4 => ?_) (fun g_4 => ?_)
          · rw [if_pos g_4] at hf
            exact b53 _ ih x2 _ H locs ls hM hS (lv_sub hl [0, 1, 2] rfl) hf
          · rw [if_neg g_4] at hf
            refine lv_aload_n hx hb dX3_rememberSinceHead_29 rfl (lv_at hl 0 rfl) ?_
            refine s_get hx hb (lay_3 hts) hown hK hM (c_4 h0) rfl 9 (by decide) rfl rfl (tk_135 hts) dX3_rememberSinceHead_30 ?_
            refine lv_aload_n hx hb dX3_rememberSinceHead_33 rfl (lv_at hl 0 rfl) ?_
            refine s_get hx hb (lay_3 hts) hown hK hM (c_4 h0) rfl 10 (by decide) rfl rfl (tk_136 hts) dX3_rememberSinceHead_34 ?_
            refine lv_aload_n hx hb dX3_rememberSinceHead_37 rfl (lv_at hl 1 rfl) ?_
            refine lv_iload_n hx hb dX3_rememberSinceHead_38 rfl (lv_at hl 2 rfl) ?_
            obtain ⟨r6, e_5, hf⟩ := vb_e hf
            refine c_Vi hx hb hml hown hts hV hK hM hS (As := [.int x2]) (rest := [.int (mI M a0 10), .ref (a0 + 7)]) (k_X2_codeAt G hG l a1 h1 x2 M e_5) w_X2_codeAt (tk_723 hts) (c_3 h1) rfl rfl ⟨⟨rfl, rfl⟩, Nat.le_of_ble_eq_true rfl, Nat.le_of_ble_eq_true rfl⟩ ⟨Nat.zero_le _, Nat.zero_le _⟩ rfl hl.1 rfl (Nat.le_of_ble_eq_true rfl) dX3_rememberSinceHead_39 (fun H locs hM hS => ?_)
            obtain ⟨h_7, hf⟩ := gd_e hf
            obtain ⟨M8, eM8, hf⟩ := nb_e hf
            refine s_iast 72 hx hb hK hM hS (ky_4_9 hG h0) (by decide) (ky_b hG (ky_4_9 hG h0)) h_7 dX3_rememberSinceHead_42 (fun H locs hM hS => ?_)
            rw [eM8] at hM
            refine lv_aload_n hx hb dX3_rememberSinceHead_43 rfl (lv_at hl 0 rfl) ?_
            refine lv_dup hx hb dX3_rememberSinceHead_44 rfl ?_
            refine s_get hx hb (lay_3 hts) hown hK hM (c_4 h0) rfl 10 (by decide) rfl rfl (tk_136 hts) dX3_rememberSinceHead_45 ?_
            refine lv_iconst (v := 1) hx hb dX3_rememberSinceHead_48 (by decide) ?_
            refine lv_iadd hx hb dX3_rememberSinceHead_49 ?_
            obtain ⟨M9, eM9, hf⟩ := nb_e hf
            refine s_put tyX3 hx hb (lay_3 hts) tyX3_ok nmX3 hown hK hM hS (ky_b hG h0) (c_4 h0) rfl 10 (by decide) rfl rfl rfl (Nat.le_of_ble_eq_true rfl) (cp_3_10 h0) (fun _ h9 => cel_sI _ h9) hM.2.2.sI rfl (tk_136 hts) dX3_rememberSinceHead_50 (fun H locs hM hS => ?_)
            rw [eM9] at hM
            exact b53 _ ih x2 _ H locs ls hM hS (lv_sub hl [0, 1, 2] rfl) hf
  rw [f_X3_rememberSinceHead] at hf
  obtain ⟨H, hHe⟩ : ∃ H, H = s.heap := ⟨_, rfl⟩
  obtain ⟨locs, hLe⟩ : ∃ L : List Loc, L = [] := ⟨_, rfl⟩
  rw [← hHe] at hM
  have hS : va_S (gA G) s.heap H locs := by rw [hHe, hLe]; exact va_S.rf
  suffices hW : W p l e ({ frames := 1, cells := 0, slots := 0, locals := 21 } : Room) s m args below meth c H locs 0 0 (MQ below (QV G none M') args s 0 0 (gA G)) (F0 m 0 ls []) by rw [hHe, hLe] at hW; exact hW
  refine lv_iconst (v := 0) hx hb dX3_rememberSinceHead_0 (by decide) ?_
  refine lv_istore_n (lv' := [(2, .int 0), (0, .ref a0), (1, .ref a1)]) hx hb dX3_rememberSinceHead_1 rfl hl (by decide) rfl (fun ls hl => ?_)
  exact b2 _ 0 _ H locs ls hM hS (lv_sub hl [1, 2, 0] rfl) hf
def f_X3_closeInto_b76 (a0 : Nat) (a1 : Nat) (p2 : Int32) (M : Mem) : Option Mem := vb (f_X3_rememberSinceHead a0 a1 M) fun M2 => nb (sI M2 a0 5 ((mI M2 a0 5) + 1)) fun M3 => nb (sI M3 (a0 + 2) 2 0) fun M4 => some M4
def f_X3_closeInto_b42 (a0 : Nat) (a1 : Nat) (p2 : Int32) (xs0 : Int32) (qs1 : Nat) (M : Mem) : Option Mem := gd (xs0 = 0 ∨ xs0 = 1) <| nb (sI M qs1 4 xs0) fun M6 => if (mI M6 a1 4) = 0 then (f_X3_closeInto_b76 a0 a1 p2 M6) else (nb (sI M6 a0 7 (mI M6 a0 5)) fun M8 => vb (f_X0_copyFrom (a0 + 6) (a1 + 3) M8) fun M10 => nb (sI M10 a0 10 0) fun M11 => f_X3_closeInto_b76 a0 a1 p2 M11)
def f_X3_closeInto_b37 (a0 : Nat) (a1 : Nat) (p2 : Int32) (qs0 : Nat) (M : Mem) : Option Mem := f_X3_closeInto_b42 a0 a1 p2 1 qs0 M
def f_X3_closeInto (a0 : Nat) (a1 : Nat) (p2 : Int32) (M : Mem) : Option Mem := vb (f_X2_copyFrom a1 (a0 + 2) M) fun M13 => nb (sI M13 a1 3 (mI M13 a0 5)) fun M14 => if (mI M14 a0 5) = 0 then (f_X3_closeInto_b37 a0 a1 p2 a1 M14) else (if ((mI M14 a0 5) - (mI M14 a0 7)) < p2 then (f_X3_closeInto_b42 a0 a1 p2 0 a1 M14) else (f_X3_closeInto_b37 a0 a1 p2 a1 M14))
set_option maxHeartbeats 4000000 in
set_option maxRecDepth 100000 in
theorem k_X3_closeInto (G : Gt) (hG : gOK G) (l : Launch) (a0 : Nat) (h0 : gK G a0 = 4) (a1 : Nat) (h1 : gK G a1 = 3) (p2 : Int32) (M : Mem) {M' : Mem} (hf : f_X3_closeInto a0 a1 p2 M = some M') : Kc G l yX3_closeInto cX3_closeInto 3 none ({ frames := 2, cells := 0, slots := 0, locals := 47 } : Room) [.ref a0, .ref a1, .int p2] M none M' := by
  refine start (by decide) (Nat.le_of_ble_eq_true rfl) ?_
  intro p e s m args below meth c ls hx hb hr hown hml hlocks hts hV hM hl
  have hown : s.vm.findClass "FoldedVoices$SayingEnd" = some m.cls := hown
  have hK := hG.1.moved hV
  have hS : va_S (gA G) s.heap s.heap [] := va_S.rf
  have hl : lv_has ls 3 [(0, .ref a0), (1, .ref a1), (2, .int p2)] := hl
  have hM0 := hM
  have b76 : ∀ (M : Mem) (H : Heap) (locs : List Loc) (ls : Array Slot), Mh G M H → va_S (gA G) s.heap H locs → lv_has ls 3 [(0, .ref a0), (1, .ref a1), (2, .int p2)] → f_X3_closeInto_b76 a0 a1 p2 M = some M' → W p l e ({ frames := 2, cells := 0, slots := 0, locals := 47 } : Room) s m args below meth c H locs 0 0 (MQ below (QV G none M') args s 0 0 (gA G)) (F0 m 76 ls []) := by
    intro M H locs ls hM hS hl hf
    rw [f_X3_closeInto_b76] at hf
    refine lv_aload_n hx hb dX3_closeInto_76 rfl (lv_at hl 0 rfl) ?_
    refine lv_aload_n hx hb dX3_closeInto_77 rfl (lv_at hl 1 rfl) ?_
    obtain ⟨M2, e_1, hf⟩ := vb_e hf
    refine c_Vv hx hb hml hown hts hV hK hM hS (As := [.ref a1]) (rest := []) (k_X3_rememberSinceHead G hG l a0 h0 a1 h1 M e_1) w_X3_rememberSinceHead (tk_719 hts) (c_4 h0) rfl rfl ⟨⟨rfl, rfl⟩, Nat.le_of_ble_eq_true rfl, Nat.le_of_ble_eq_true rfl⟩ ⟨Nat.zero_le _, Nat.zero_le _⟩ rfl hl.1 rfl (Nat.le_of_ble_eq_true rfl) dX3_closeInto_78 (fun H locs hM hS => ?_)
    refine lv_aload_n hx hb dX3_closeInto_81 rfl (lv_at hl 0 rfl) ?_
    refine lv_dup hx hb dX3_closeInto_82 rfl ?_
    refine s_get hx hb (lay_3 hts) hown hK hM (c_4 h0) rfl 5 (by decide) rfl rfl (tk_127 hts) dX3_closeInto_83 ?_
    refine lv_iconst (v := 1) hx hb dX3_closeInto_86 (by decide) ?_
    refine lv_iadd hx hb dX3_closeInto_87 ?_
    obtain ⟨M3, eM3, hf⟩ := nb_e hf
    refine s_put tyX3 hx hb (lay_3 hts) tyX3_ok nmX3 hown hK hM hS (ky_b hG h0) (c_4 h0) rfl 5 (by decide) rfl rfl rfl (Nat.le_of_ble_eq_true rfl) (cp_3_5 h0) (fun _ h9 => cel_sI _ h9) hM.2.2.sI rfl (tk_127 hts) dX3_closeInto_88 (fun H locs hM hS => ?_)
    rw [eM3] at hM
    refine lv_aload_n hx hb dX3_closeInto_91 rfl (lv_at hl 0 rfl) ?_
    refine s_get hx hb (lay_3 hts) hown hK hM (c_4 h0) rfl 4 (by decide) rfl rfl (tk_124 hts) dX3_closeInto_92 ?_
    refine lv_iconst (v := 0) hx hb dX3_closeInto_95 (by decide) ?_
    obtain ⟨M4, eM4, hf⟩ := nb_e hf
    refine s_putN tyX2 hx hb (lay_2 hts) tyX2_ok nmX2 hown hK hM hS (ky_b hG (ky_4_4 hG h0)) (c_3 (ky_4_4 hG h0)) rfl 2 (by decide) rfl rfl rfl (Nat.le_of_ble_eq_true rfl) (cp_2_2 (ky_4_4 hG h0)) (fun _ h9 => cel_sI _ h9) hM.2.2.sI rfl (tk_88 hts) dX3_closeInto_96 (fun H locs hM hS => ?_)
    rw [eM4] at hM
    exact ef_v hx hb hr hlocks hM hS hf dX3_closeInto_99
  have b42 : ∀ (xs0 : Int32) (qs1 : Nat) (M : Mem) (H : Heap) (locs : List Loc) (ls : Array Slot), gK G qs1 = 3 → Mh G M H → va_S (gA G) s.heap H locs → lv_has ls 3 [(0, .ref a0), (1, .ref a1), (2, .int p2)] → f_X3_closeInto_b42 a0 a1 p2 xs0 qs1 M = some M' → W p l e ({ frames := 2, cells := 0, slots := 0, locals := 47 } : Room) s m args below meth c H locs 0 0 (MQ below (QV G none M') args s 0 0 (gA G)) (F0 m 42 ls [.int xs0, .ref qs1]) := by
    intro xs0 qs1 M H locs ls h_qs1 hM hS hl hf
    rw [f_X3_closeInto_b42] at hf
    obtain ⟨h_5, hf⟩ := gd_e hf
    obtain ⟨M6, eM6, hf⟩ := nb_e hf
    refine s_putN tyX2 hx hb (lay_2 hts) tyX2_ok nmX2 hown hK hM hS (ky_b hG h_qs1) (c_3 h_qs1) rfl 4 (by decide) rfl (nz_n h_5) (nz_f h_5) (Nat.le_of_ble_eq_true rfl) (cp_2_4 h_qs1) (fun _ h9 => cel_sI _ h9) hM.2.2.sI rfl (tk_98 hts) dX3_closeInto_42 (fun H locs hM hS => ?_)
    rw [eM6] at hM
    refine lv_aload_n hx hb dX3_closeInto_45 rfl (lv_at hl 1 rfl) ?_
    refine s_getN hx hb (lay_2 hts) hown hK hM (c_3 h1) rfl 4 (by decide) rfl rfl (tk_98 hts) dX3_closeInto_46 ?_
    refine lv_if_eq (tgt := 76) hx hb dX3_closeInto_49 (by decide) (fun g_7 => ?_) (fun g_7 => ?_)
    · rw [if_pos g_7] at hf
      exact b76 _ H locs ls hM hS (lv_sub hl [0, 1, 2] rfl) hf
    · rw [if_neg g_7] at hf
      refine lv_aload_n hx hb dX3_closeInto_52 rfl (lv_at hl 0 rfl) ?_
      refine lv_aload_n hx hb dX3_closeInto_53 rfl (lv_at hl 0 rfl) ?_
      refine s_get hx hb (lay_3 hts) hown hK hM (c_4 h0) rfl 5 (by decide) rfl rfl (tk_127 hts) dX3_closeInto_54 ?_
      obtain ⟨M8, eM8, hf⟩ := nb_e hf
      refine s_put tyX3 hx hb (lay_3 hts) tyX3_ok nmX3 hown hK hM hS (ky_b hG h0) (c_4 h0) rfl 7 (by decide) rfl rfl rfl (Nat.le_of_ble_eq_true rfl) (cp_3_7 h0) (fun _ h9 => cel_sI _ h9) hM.2.2.sI rfl (tk_133 hts) dX3_closeInto_57 (fun H locs hM hS => ?_)
      rw [eM8] at hM
      refine lv_aload_n hx hb dX3_closeInto_60 rfl (lv_at hl 0 rfl) ?_
      refine s_get hx hb (lay_3 hts) hown hK hM (c_4 h0) rfl 8 (by decide) rfl rfl (tk_134 hts) dX3_closeInto_61 ?_
      refine lv_aload_n hx hb dX3_closeInto_64 rfl (lv_at hl 1 rfl) ?_
      refine s_getN hx hb (lay_2 hts) hown hK hM (c_3 h1) rfl 5 (by decide) rfl rfl (tk_101 hts) dX3_closeInto_65 ?_
      obtain ⟨M10, e_9, hf⟩ := vb_e hf
      refine c_Vv hx hb hml hown hts hV hK hM hS (As := [.ref (a1 + 3)]) (rest := []) (k_X0_copyFrom G hG l (a0 + 6) (ky_4_8 hG h0) (a1 + 3) (ky_3_5 hG h1) M8 e_9) w_X0_copyFrom (tk_411 hts) (c_1 (ky_4_8 hG h0)) rfl rfl ⟨⟨rfl, rfl⟩, Nat.le_of_ble_eq_true rfl, Nat.le_of_ble_eq_true rfl⟩ ⟨Nat.zero_le _, Nat.zero_le _⟩ rfl hl.1 rfl (Nat.le_of_ble_eq_true rfl) dX3_closeInto_68 (fun H locs hM hS => ?_)
      refine lv_aload_n hx hb dX3_closeInto_71 rfl (lv_at hl 0 rfl) ?_
      refine lv_iconst (v := 0) hx hb dX3_closeInto_72 (by decide) ?_
      obtain ⟨M11, eM11, hf⟩ := nb_e hf
      refine s_put tyX3 hx hb (lay_3 hts) tyX3_ok nmX3 hown hK hM hS (ky_b hG h0) (c_4 h0) rfl 10 (by decide) rfl rfl rfl (Nat.le_of_ble_eq_true rfl) (cp_3_10 h0) (fun _ h9 => cel_sI _ h9) hM.2.2.sI rfl (tk_136 hts) dX3_closeInto_73 (fun H locs hM hS => ?_)
      rw [eM11] at hM
      exact b76 _ H locs ls hM hS (lv_sub hl [0, 1, 2] rfl) hf
  have b37 : ∀ (qs0 : Nat) (M : Mem) (H : Heap) (locs : List Loc) (ls : Array Slot), gK G qs0 = 3 → Mh G M H → va_S (gA G) s.heap H locs → lv_has ls 3 [(0, .ref a0), (1, .ref a1), (2, .int p2)] → f_X3_closeInto_b37 a0 a1 p2 qs0 M = some M' → W p l e ({ frames := 2, cells := 0, slots := 0, locals := 47 } : Room) s m args below meth c H locs 0 0 (MQ below (QV G none M') args s 0 0 (gA G)) (F0 m 37 ls [.ref qs0]) := by
    intro qs0 M H locs ls h_qs0 hM hS hl hf
    rw [f_X3_closeInto_b37] at hf
    refine lv_iconst (v := 1) hx hb dX3_closeInto_37 (by decide) ?_
    refine lv_goto (tgt := 42) hx hb dX3_closeInto_38 (by decide) ?_
    exact b42 1 qs0 _ H locs ls h_qs0 hM hS (lv_sub hl [0, 1, 2] rfl) hf
  rw [f_X3_closeInto] at hf
  obtain ⟨H, hHe⟩ : ∃ H, H = s.heap := ⟨_, rfl⟩
  obtain ⟨locs, hLe⟩ : ∃ L : List Loc, L = [] := ⟨_, rfl⟩
  rw [← hHe] at hM
  have hS : va_S (gA G) s.heap H locs := by rw [hHe, hLe]; exact va_S.rf
  suffices hW : W p l e ({ frames := 2, cells := 0, slots := 0, locals := 47 } : Room) s m args below meth c H locs 0 0 (MQ below (QV G none M') args s 0 0 (gA G)) (F0 m 0 ls []) by rw [hHe, hLe] at hW; exact hW
  refine lv_aload_n hx hb dX3_closeInto_0 rfl (lv_at hl 1 rfl) ?_
  refine lv_aload_n hx hb dX3_closeInto_1 rfl (lv_at hl 0 rfl) ?_
  refine s_get hx hb (lay_3 hts) hown hK hM (c_4 h0) rfl 4 (by decide) rfl rfl (tk_124 hts) dX3_closeInto_2 ?_
  obtain ⟨M13, e_12, hf⟩ := vb_e hf
  refine c_Vv hx hb hml hown hts hV hK hM hS (As := [.ref (a0 + 2)]) (rest := []) (k_X2_copyFrom G hG l a1 h1 (a0 + 2) (ky_4_4 hG h0) M e_12) w_X2_copyFrom (tk_695 hts) (c_3 h1) rfl rfl ⟨⟨rfl, rfl⟩, Nat.le_of_ble_eq_true rfl, Nat.le_of_ble_eq_true rfl⟩ ⟨Nat.zero_le _, Nat.zero_le _⟩ rfl hl.1 rfl (Nat.le_of_ble_eq_true rfl) dX3_closeInto_5 (fun H locs hM hS => ?_)
  refine lv_aload_n hx hb dX3_closeInto_8 rfl (lv_at hl 1 rfl) ?_
  refine lv_aload_n hx hb dX3_closeInto_9 rfl (lv_at hl 0 rfl) ?_
  refine s_get hx hb (lay_3 hts) hown hK hM (c_4 h0) rfl 5 (by decide) rfl rfl (tk_127 hts) dX3_closeInto_10 ?_
  obtain ⟨M14, eM14, hf⟩ := nb_e hf
  refine s_putN tyX2 hx hb (lay_2 hts) tyX2_ok nmX2 hown hK hM hS (ky_b hG h1) (c_3 h1) rfl 3 (by decide) rfl rfl rfl (Nat.le_of_ble_eq_true rfl) (cp_2_3 h1) (fun _ h9 => cel_sI _ h9) hM.2.2.sI rfl (tk_94 hts) dX3_closeInto_13 (fun H locs hM hS => ?_)
  rw [eM14] at hM
  refine lv_aload_n hx hb dX3_closeInto_16 rfl (lv_at hl 1 rfl) ?_
  refine lv_aload_n hx hb dX3_closeInto_17 rfl (lv_at hl 0 rfl) ?_
  refine s_get hx hb (lay_3 hts) hown hK hM (c_4 h0) rfl 5 (by decide) rfl rfl (tk_127 hts) dX3_closeInto_18 ?_
  refine lv_if_eq (tgt := 37) hx hb dX3_closeInto_21 (by decide) (fun g_15 => ?_) (fun g_15 => ?_)
  · rw [if_pos g_15] at hf
    exact b37 a1 _ H locs ls h1 hM hS (lv_sub hl [0, 1, 2] rfl) hf
  · rw [if_neg g_15] at hf
    refine lv_aload_n hx hb dX3_closeInto_24 rfl (lv_at hl 0 rfl) ?_
    refine s_get hx hb (lay_3 hts) hown hK hM (c_4 h0) rfl 5 (by decide) rfl rfl (tk_127 hts) dX3_closeInto_25 ?_
    refine lv_aload_n hx hb dX3_closeInto_28 rfl (lv_at hl 0 rfl) ?_
    refine s_get hx hb (lay_3 hts) hown hK hM (c_4 h0) rfl 7 (by decide) rfl rfl (tk_133 hts) dX3_closeInto_29 ?_
    refine lv_isub hx hb dX3_closeInto_32 ?_
    refine lv_iload_n hx hb dX3_closeInto_33 rfl (lv_at hl 2 rfl) ?_
    refine lv_icmp_lt (tgt := 41) hx hb dX3_closeInto_34 (by decide) (fun g_16 => ?_) (fun g_16 => ?_)
    · rw [if_pos g_16] at hf
      refine lv_iconst (v := 0) hx hb dX3_closeInto_41 (by decide) ?_
      exact b42 0 a1 _ H locs ls h1 hM hS (lv_sub hl [0, 1, 2] rfl) hf
    · rw [if_neg g_16] at hf
      exact b37 a1 _ H locs ls h1 hM hS (lv_sub hl [0, 1, 2] rfl) hf
def f_X3_guessSinceHead_b43 (a0 : Nat) (a1 : Nat) (M : Mem) : Option (Int32 × Mem) := vb (f_X0_followAll a1 (a0 + 2) M) fun M2 => some (mI M2 a1 0, M2)
def f_X3_guessSinceHead_b10 (a0 : Nat) (a1 : Nat) : Nat → Int32 → Mem → Option (Int32 × Mem)
  | 0, _, _ => none
  | n + 1, x2, M => if (mI M a0 10) ≤ x2 then (f_X3_guessSinceHead_b43 a0 a1 M) else (if (72 : Int32) ≤ x2 then (f_X3_guessSinceHead_b43 a0 a1 M) else (gd (ix x2 72) <| vb (f_X0_follow a1 (mI M (a0 + 7) x2.toNatClampNeg) M) fun M7 => nb (x2 + 1) fun y8 => f_X3_guessSinceHead_b10 a0 a1 n y8 M7))
def f_X3_guessSinceHead (a0 : Nat) (a1 : Nat) (M : Mem) : Option (Int32 × Mem) := vb (f_X0_copyFrom a1 (a0 + 6) M) fun M10 => f_X3_guessSinceHead_b10 a0 a1 lfuel 0 M10
set_option maxHeartbeats 4000000 in
set_option maxRecDepth 100000 in
theorem k_X3_guessSinceHead (G : Gt) (hG : gOK G) (l : Launch) (a0 : Nat) (h0 : gK G a0 = 4) (a1 : Nat) (h1 : gK G a1 = 1) (M : Mem) {r : Int32} {M' : Mem} (hf : f_X3_guessSinceHead a0 a1 M = some (r, M')) : Kc G l yX3_guessSinceHead cX3_guessSinceHead 3 (some .int) ({ frames := 4, cells := 0, slots := 0, locals := 90 } : Room) [.ref a0, .ref a1] M (some (.int r)) M' := by
  refine start (by decide) (Nat.le_of_ble_eq_true rfl) ?_
  intro p e s m args below meth c ls hx hb hr hown hml hlocks hts hV hM hl
  have hown : s.vm.findClass "FoldedVoices$SayingEnd" = some m.cls := hown
  have hK := hG.1.moved hV
  have hS : va_S (gA G) s.heap s.heap [] := va_S.rf
  have hl : lv_has ls 3 [(0, .ref a0), (1, .ref a1)] := hl
  have hM0 := hM
  have b43 : ∀ (M : Mem) (H : Heap) (locs : List Loc) (ls : Array Slot), Mh G M H → va_S (gA G) s.heap H locs → lv_has ls 3 [(0, .ref a0), (1, .ref a1)] → f_X3_guessSinceHead_b43 a0 a1 M = some (r, M') → W p l e ({ frames := 4, cells := 0, slots := 0, locals := 90 } : Room) s m args below meth c H locs 0 0 (MQ below (QV G (some (.int r)) M') args s 0 0 (gA G)) (F0 m 43 ls []) := by
    intro M H locs ls hM hS hl hf
    rw [f_X3_guessSinceHead_b43] at hf
    refine lv_aload_n hx hb dX3_guessSinceHead_43 rfl (lv_at hl 1 rfl) ?_
    refine lv_aload_n hx hb dX3_guessSinceHead_44 rfl (lv_at hl 0 rfl) ?_
    refine s_get hx hb (lay_3 hts) hown hK hM (c_4 h0) rfl 4 (by decide) rfl rfl (tk_124 hts) dX3_guessSinceHead_45 ?_
    obtain ⟨M2, e_1, hf⟩ := vb_e hf
    refine c_Vv hx hb hml hown hts hV hK hM hS (As := [.ref (a0 + 2)]) (rest := []) (k_X0_followAll G hG l a1 h1 (a0 + 2) (ky_4_4 hG h0) M e_1) w_X0_followAll (tk_430 hts) (c_1 h1) rfl rfl ⟨⟨rfl, rfl⟩, Nat.le_of_ble_eq_true rfl, Nat.le_of_ble_eq_true rfl⟩ ⟨Nat.zero_le _, Nat.zero_le _⟩ rfl hl.1 rfl (Nat.le_of_ble_eq_true rfl) dX3_guessSinceHead_48 (fun H locs hM hS => ?_)
    refine lv_aload_n hx hb dX3_guessSinceHead_51 rfl (lv_at hl 1 rfl) ?_
    refine s_getN hx hb (lay_0 hts) hown hK hM (c_1 h1) rfl 0 (by decide) rfl rfl (tk_65 hts) dX3_guessSinceHead_52 ?_
    exact ef_im hx hb hr hlocks hM hS hf dX3_guessSinceHead_55
  have b10 : ∀ (n : Nat), ∀ (x2 : Int32) (M : Mem) (H : Heap) (locs : List Loc) (ls : Array Slot), Mh G M H → va_S (gA G) s.heap H locs → lv_has ls 3 [(0, .ref a0), (1, .ref a1), (2, .int x2)] → f_X3_guessSinceHead_b10 a0 a1 n x2 M = some (r, M') → W p l e ({ frames := 4, cells := 0, slots := 0, locals := 90 } : Room) s m args below meth c H locs 0 0 (MQ below (QV G (some (.int r)) M') args s 0 0 (gA G)) (F0 m 10 ls []) := by
    intro n
    induction n with
    | zero =>
      intro x2 M H locs ls hM hS hl hf
      rw [f_X3_guessSinceHead_b10] at hf
      cases hf
    | succ n ih =>
      intro x2 M H locs ls hM hS hl hf
      rw [f_X3_guessSinceHead_b10] at hf
      refine lv_iload_n hx hb dX3_guessSinceHead_10 rfl (lv_at hl 2 rfl) ?_
      refine lv_aload_n hx hb dX3_guessSinceHead_11 rfl (lv_at hl 0 rfl) ?_
      refine s_get hx hb (lay_3 hts) hown hK hM (c_4 h0) rfl 10 (by decide) rfl rfl (tk_136 hts) dX3_guessSinceHead_12 ?_
      refine lv_icmp_ge (tgt := 43) hx hb dX3_guessSinceHead_15 (by decide) (fun g_3 => ?_) (fun g_3 => ?_)
      · rw [if_pos g_3] at hf
        exact b43 _ H locs ls hM hS (lv_sub hl [0, 1] rfl) hf
      · rw [if_neg g_3] at hf
        refine lv_iload_n hx hb dX3_guessSinceHead_18 rfl (lv_at hl 2 rfl) ?_
        refine lv_aload_n hx hb dX3_guessSinceHead_19 rfl (lv_at hl 0 rfl) ?_
        refine s_get hx hb (lay_3 hts) hown hK hM (c_4 h0) rfl 9 (by decide) rfl rfl (tk_135 hts) dX3_guessSinceHead_20 ?_
        refine s_alen 0 hx hb hK hM (cel_ia (ky_4_9 hG h0) (n := 72) (by decide)) rfl (v := 72) (show Int32.ofNat 72 = 72 from by decide) dX3_guessSinceHead_23 ?_
        refine lv_icmp_ge (tgt := 43) hx hb dX3_guessSinceHead_24 (by decide) (fun g_4 => ?_) (fun g_4 => ?_)
        · rw [if_pos g_4] at hf
          exact b43 _ H locs ls hM hS (lv_sub hl [0, 1] rfl) hf
        · rw [if_neg g_4] at hf
          refine lv_aload_n hx hb dX3_guessSinceHead_27 rfl (lv_at hl 1 rfl) ?_
          refine lv_aload_n hx hb dX3_guessSinceHead_28 rfl (lv_at hl 0 rfl) ?_
          refine s_get hx hb (lay_3 hts) hown hK hM (c_4 h0) rfl 9 (by decide) rfl rfl (tk_135 hts) dX3_guessSinceHead_29 ?_
          refine lv_iload_n hx hb dX3_guessSinceHead_32 rfl (lv_at hl 2 rfl) ?_
          obtain ⟨h_5, hf⟩ := gd_e hf
          refine s_iald 72 hx hb hK hM (ky_4_9 hG h0) (by decide) h_5 dX3_guessSinceHead_33 ?_
          obtain ⟨M7, e_6, hf⟩ := vb_e hf
          refine c_Vv hx hb hml hown hts hV hK hM hS (As := [.int (mI M (a0 + 7) x2.toNatClampNeg)]) (rest := []) (k_X0_follow G hG l a1 h1 (mI M (a0 + 7) x2.toNatClampNeg) M e_6) w_X0_follow (tk_415 hts) (c_1 h1) rfl rfl ⟨⟨rfl, rfl⟩, Nat.le_of_ble_eq_true rfl, Nat.le_of_ble_eq_true rfl⟩ ⟨Nat.zero_le _, Nat.zero_le _⟩ rfl hl.1 rfl (Nat.le_of_ble_eq_true rfl) dX3_guessSinceHead_34 (fun H locs hM hS => ?_)
          obtain ⟨y8, ey8, hf⟩ := nb_e hf
          refine lv_iinc (v := y8) (lv' := [(2, .int y8), (0, .ref a0), (1, .ref a1)]) hx hb dX3_guessSinceHead_37 hl (k := 2) rfl (by rw [← ey8]; rfl) (by decide) rfl (fun ls hl => ?_)
          refine lv_goto (tgt := 10) hx hb dX3_guessSinceHead_40 (by decide) ?_
          exact ih y8 _ H locs ls hM hS (lv_sub hl [1, 2, 0] rfl) hf
  rw [f_X3_guessSinceHead] at hf
  obtain ⟨H, hHe⟩ : ∃ H, H = s.heap := ⟨_, rfl⟩
  obtain ⟨locs, hLe⟩ : ∃ L : List Loc, L = [] := ⟨_, rfl⟩
  rw [← hHe] at hM
  have hS : va_S (gA G) s.heap H locs := by rw [hHe, hLe]; exact va_S.rf
  suffices hW : W p l e ({ frames := 4, cells := 0, slots := 0, locals := 90 } : Room) s m args below meth c H locs 0 0 (MQ below (QV G (some (.int r)) M') args s 0 0 (gA G)) (F0 m 0 ls []) by rw [hHe, hLe] at hW; exact hW
  refine lv_aload_n hx hb dX3_guessSinceHead_0 rfl (lv_at hl 1 rfl) ?_
  refine lv_aload_n hx hb dX3_guessSinceHead_1 rfl (lv_at hl 0 rfl) ?_
  refine s_get hx hb (lay_3 hts) hown hK hM (c_4 h0) rfl 8 (by decide) rfl rfl (tk_134 hts) dX3_guessSinceHead_2 ?_
  obtain ⟨M10, e_9, hf⟩ := vb_e hf
  refine c_Vv hx hb hml hown hts hV hK hM hS (As := [.ref (a0 + 6)]) (rest := []) (k_X0_copyFrom G hG l a1 h1 (a0 + 6) (ky_4_8 hG h0) M e_9) w_X0_copyFrom (tk_411 hts) (c_1 h1) rfl rfl ⟨⟨rfl, rfl⟩, Nat.le_of_ble_eq_true rfl, Nat.le_of_ble_eq_true rfl⟩ ⟨Nat.zero_le _, Nat.zero_le _⟩ rfl hl.1 rfl (Nat.le_of_ble_eq_true rfl) dX3_guessSinceHead_5 (fun H locs hM hS => ?_)
  refine lv_iconst (v := 0) hx hb dX3_guessSinceHead_8 (by decide) ?_
  refine lv_istore_n (lv' := [(2, .int 0), (0, .ref a0), (1, .ref a1)]) hx hb dX3_guessSinceHead_9 rfl hl (by decide) rfl (fun ls hl => ?_)
  exact b10 _ 0 _ H locs ls hM hS (lv_sub hl [1, 2, 0] rfl) hf
def f_X4_copyFrom_b2 (a0 : Nat) (a1 : Nat) : Nat → Int32 → Mem → Option Mem
  | 0, _, _ => none
  | n + 1, x2, M => if (4 : Int32) ≤ x2 then (some M) else (if (4 : Int32) ≤ x2 then (some M) else (gd (ix x2 4) <| gd (ix x2 4) <| nb (sI M (a0 + 1) x2.toNatClampNeg (mI M (a1 + 1) x2.toNatClampNeg)) fun M5 => nb (x2 + 1) fun y6 => f_X4_copyFrom_b2 a0 a1 n y6 M5))
def f_X4_copyFrom (a0 : Nat) (a1 : Nat) (M : Mem) : Option Mem := f_X4_copyFrom_b2 a0 a1 lfuel 0 M
set_option maxHeartbeats 4000000 in
set_option maxRecDepth 100000 in
theorem k_X4_copyFrom (G : Gt) (hG : gOK G) (l : Launch) (a0 : Nat) (h0 : gK G a0 = 5) (a1 : Nat) (h1 : gK G a1 = 5) (M : Mem) {M' : Mem} (hf : f_X4_copyFrom a0 a1 M = some M') : Kc G l yX4_copyFrom cX4_copyFrom 3 none ({ frames := 0, cells := 0, slots := 0, locals := 0 } : Room) [.ref a0, .ref a1] M none M' := by
  refine start (by decide) (Nat.le_of_ble_eq_true rfl) ?_
  intro p e s m args below meth c ls hx hb hr hown hml hlocks hts hV hM hl
  have hown : s.vm.findClass "FoldedVoices$Settings" = some m.cls := hown
  have hK := hG.1.moved hV
  have hS : va_S (gA G) s.heap s.heap [] := va_S.rf
  have hl : lv_has ls 3 [(0, .ref a0), (1, .ref a1)] := hl
  have hM0 := hM
  have b2 : ∀ (n : Nat), ∀ (x2 : Int32) (M : Mem) (H : Heap) (locs : List Loc) (ls : Array Slot), Mh G M H → va_S (gA G) s.heap H locs → lv_has ls 3 [(0, .ref a0), (1, .ref a1), (2, .int x2)] → f_X4_copyFrom_b2 a0 a1 n x2 M = some M' → W p l e ({ frames := 0, cells := 0, slots := 0, locals := 0 } : Room) s m args below meth c H locs 0 0 (MQ below (QV G none M') args s 0 0 (gA G)) (F0 m 2 ls []) := by
    intro n
    induction n with
    | zero =>
      intro x2 M H locs ls hM hS hl hf
      rw [f_X4_copyFrom_b2] at hf
      cases hf
    | succ n ih =>
      intro x2 M H locs ls hM hS hl hf
      rw [f_X4_copyFrom_b2] at hf
      refine lv_iload_n hx hb dX4_copyFrom_2 rfl (lv_at hl 2 rfl) ?_
      refine lv_aload_n hx hb dX4_copyFrom_3 rfl (lv_at hl 0 rfl) ?_
      refine s_get hx hb (lay_4 hts) hown hK hM (c_5 h0) rfl 0 (by decide) rfl rfl (tk_40 hts) dX4_copyFrom_4 ?_
      refine s_alen 0 hx hb hK hM (cel_ia (ky_5_0 hG h0) (n := 4) (by decide)) rfl (v := 4) (show Int32.ofNat 4 = 4 from by decide) dX4_copyFrom_7 ?_
      refine lv_icmp_ge (tgt := 38) hx hb dX4_copyFrom_8 (by decide) (fun g_1 => ?_) (fun g_1 => ?_)
      · rw [if_pos g_1] at hf
        exact ef_v hx hb hr hlocks hM hS hf dX4_copyFrom_38
      · rw [if_neg g_1] at hf
        refine lv_iload_n hx hb dX4_copyFrom_11 rfl (lv_at hl 2 rfl) ?_
        refine lv_aload_n hx hb dX4_copyFrom_12 rfl (lv_at hl 1 rfl) ?_
        refine s_get hx hb (lay_4 hts) hown hK hM (c_5 h1) rfl 0 (by decide) rfl rfl (tk_40 hts) dX4_copyFrom_13 ?_
        refine s_alen 0 hx hb hK hM (cel_ia (ky_5_0 hG h1) (n := 4) (by decide)) rfl (v := 4) (show Int32.ofNat 4 = 4 from by decide) dX4_copyFrom_16 ?_
        refine lv_icmp_ge (tgt := 38) hx hb dX4_copyFrom_17 (by decide) (fun g_2 => ?_) (fun g_2 => ?_)
        · rw [if_pos g_2] at hf
          exact ef_v hx hb hr hlocks hM hS hf dX4_copyFrom_38
        · rw [if_neg g_2] at hf
          refine lv_aload_n hx hb dX4_copyFrom_20 rfl (lv_at hl 0 rfl) ?_
          refine s_get hx hb (lay_4 hts) hown hK hM (c_5 h0) rfl 0 (by decide) rfl rfl (tk_40 hts) dX4_copyFrom_21 ?_
          refine lv_iload_n hx hb dX4_copyFrom_24 rfl (lv_at hl 2 rfl) ?_
          refine lv_aload_n hx hb dX4_copyFrom_25 rfl (lv_at hl 1 rfl) ?_
          refine s_get hx hb (lay_4 hts) hown hK hM (c_5 h1) rfl 0 (by decide) rfl rfl (tk_40 hts) dX4_copyFrom_26 ?_
          refine lv_iload_n hx hb dX4_copyFrom_29 rfl (lv_at hl 2 rfl) ?_
          obtain ⟨h_3, hf⟩ := gd_e hf
          refine s_iald 4 hx hb hK hM (ky_5_0 hG h1) (by decide) h_3 dX4_copyFrom_30 ?_
          obtain ⟨h_4, hf⟩ := gd_e hf
          obtain ⟨M5, eM5, hf⟩ := nb_e hf
          refine s_iast 4 hx hb hK hM hS (ky_5_0 hG h0) (by decide) (ky_b hG (ky_5_0 hG h0)) h_4 dX4_copyFrom_31 (fun H locs hM hS => ?_)
          rw [eM5] at hM
          obtain ⟨y6, ey6, hf⟩ := nb_e hf
          refine lv_iinc (v := y6) (lv' := [(2, .int y6), (0, .ref a0), (1, .ref a1)]) hx hb dX4_copyFrom_32 hl (k := 2) rfl (by rw [← ey6]; rfl) (by decide) rfl (fun ls hl => ?_)
          refine lv_goto (tgt := 2) hx hb dX4_copyFrom_35 (by decide) ?_
          exact ih y6 _ H locs ls hM hS (lv_sub hl [1, 2, 0] rfl) hf
  rw [f_X4_copyFrom] at hf
  obtain ⟨H, hHe⟩ : ∃ H, H = s.heap := ⟨_, rfl⟩
  obtain ⟨locs, hLe⟩ : ∃ L : List Loc, L = [] := ⟨_, rfl⟩
  rw [← hHe] at hM
  have hS : va_S (gA G) s.heap H locs := by rw [hHe, hLe]; exact va_S.rf
  suffices hW : W p l e ({ frames := 0, cells := 0, slots := 0, locals := 0 } : Room) s m args below meth c H locs 0 0 (MQ below (QV G none M') args s 0 0 (gA G)) (F0 m 0 ls []) by rw [hHe, hLe] at hW; exact hW
  refine lv_iconst (v := 0) hx hb dX4_copyFrom_0 (by decide) ?_
  refine lv_istore_n (lv' := [(2, .int 0), (0, .ref a0), (1, .ref a1)]) hx hb dX4_copyFrom_1 rfl hl (by decide) rfl (fun ls hl => ?_)
  exact b2 _ 0 _ H locs ls hM hS (lv_sub hl [1, 2, 0] rfl) hf
def f_X4_isInRange (p0 : Int32) (p1 : Int32) (M : Mem) : Option Int32 := if p0 < 0 then (some 0) else (if (4 : Int32) ≤ p0 then (some 0) else (if (4 : Int32) ≤ p0 then (some 0) else (gd (ix p0 4) <| if p1 < (cLEAST p0.toNatClampNeg) then (some 0) else (gd (ix p0 4) <| if (cMOST p0.toNatClampNeg) < p1 then (some 0) else (some 1)))))
set_option maxHeartbeats 4000000 in
set_option maxRecDepth 100000 in
theorem k_X4_isInRange (G : Gt) (hG : gOK G) (l : Launch) (p0 : Int32) (p1 : Int32) (M : Mem) {r : Int32} (hf : f_X4_isInRange p0 p1 M = some r) : Kc G l yX4_isInRange cX4_isInRange 2 (some .boolean) ({ frames := 0, cells := 0, slots := 0, locals := 0 } : Room) [.int p0, .int p1] M (some (.int r)) M := by
  refine start (by decide) (Nat.le_of_ble_eq_true rfl) ?_
  intro p e s m args below meth c ls hx hb hr hown hml hlocks hts hV hM hl
  have hown : s.vm.findClass "FoldedVoices$Settings" = some m.cls := hown
  have hK := hG.1.moved hV
  have hS : va_S (gA G) s.heap s.heap [] := va_S.rf
  have hl : lv_has ls 2 [(0, .int p0), (1, .int p1)] := hl
  have hM0 := hM
  obtain ⟨t1, hZ1, hT1⟩ := gSt_at hG.2.2.2.1 hV hM
  obtain ⟨t2, hZ2, hT2⟩ := gSt_at hG.2.2.2.2 hV hM
  rw [f_X4_isInRange] at hf
  refine lv_iload_n hx hb dX4_isInRange_0 rfl (lv_at hl 0 rfl) ?_
  refine lv_if_lt (tgt := 42) hx hb dX4_isInRange_1 (by decide) (fun g_1 => ?_) (fun g_1 => ?_)
  · rw [if_pos g_1] at hf
    refine lv_iconst (v := 0) hx hb dX4_isInRange_42 (by decide) ?_
    exact ef_zp hx hb hr hlocks hM hS (nz_n (Or.inl rfl)) hf dX4_isInRange_43
  · rw [if_neg g_1] at hf
    refine lv_iload_n hx hb dX4_isInRange_4 rfl (lv_at hl 0 rfl) ?_
    refine va_getsN hx hb hZ1 hS hown (tk_755 hts) (fun _ h => h) dX4_isInRange_5 ?_
    refine va_tlen hx hb hT1 hS (v := 4) (by decide) dX4_isInRange_8 ?_
    refine lv_icmp_ge (tgt := 42) hx hb dX4_isInRange_9 (by decide) (fun g_2 => ?_) (fun g_2 => ?_)
    · rw [if_pos g_2] at hf
      refine lv_iconst (v := 0) hx hb dX4_isInRange_42 (by decide) ?_
      exact ef_zp hx hb hr hlocks hM hS (nz_n (Or.inl rfl)) hf dX4_isInRange_43
    · rw [if_neg g_2] at hf
      refine lv_iload_n hx hb dX4_isInRange_12 rfl (lv_at hl 0 rfl) ?_
      refine va_getsN hx hb hZ2 hS hown (tk_757 hts) (fun _ h => h) dX4_isInRange_13 ?_
      refine va_tlen hx hb hT2 hS (v := 4) (by decide) dX4_isInRange_16 ?_
      refine lv_icmp_ge (tgt := 42) hx hb dX4_isInRange_17 (by decide) (fun g_3 => ?_) (fun g_3 => ?_)
      · rw [if_pos g_3] at hf
        refine lv_iconst (v := 0) hx hb dX4_isInRange_42 (by decide) ?_
        exact ef_zp hx hb hr hlocks hM hS (nz_n (Or.inl rfl)) hf dX4_isInRange_43
      · rw [if_neg g_3] at hf
        refine lv_iload_n hx hb dX4_isInRange_20 rfl (lv_at hl 1 rfl) ?_
        refine va_getsN hx hb hZ1 hS hown (tk_755 hts) (fun _ h => h) dX4_isInRange_21 ?_
        refine lv_iload_n hx hb dX4_isInRange_24 rfl (lv_at hl 0 rfl) ?_
        obtain ⟨h_4, hf⟩ := gd_e hf
        refine va_ti hx hb hT1 hS h_4 rfl dX4_isInRange_25 ?_
        refine lv_icmp_lt (tgt := 42) hx hb dX4_isInRange_26 (by decide) (fun g_5 => ?_) (fun g_5 => ?_)
        · rw [if_pos g_5] at hf
          refine lv_iconst (v := 0) hx hb dX4_isInRange_42 (by decide) ?_
          exact ef_zp hx hb hr hlocks hM hS (nz_n (Or.inl rfl)) hf dX4_isInRange_43
        · rw [if_neg g_5] at hf
          refine lv_iload_n hx hb dX4_isInRange_29 rfl (lv_at hl 1 rfl) ?_
          refine va_getsN hx hb hZ2 hS hown (tk_757 hts) (fun _ h => h) dX4_isInRange_30 ?_
          refine lv_iload_n hx hb dX4_isInRange_33 rfl (lv_at hl 0 rfl) ?_
          obtain ⟨h_6, hf⟩ := gd_e hf
          refine va_ti hx hb hT2 hS h_6 rfl dX4_isInRange_34 ?_
          refine lv_icmp_gt (tgt := 42) hx hb dX4_isInRange_35 (by decide) (fun g_7 => ?_) (fun g_7 => ?_)
          · rw [if_pos g_7] at hf
            refine lv_iconst (v := 0) hx hb dX4_isInRange_42 (by decide) ?_
            exact ef_zp hx hb hr hlocks hM hS (nz_n (Or.inl rfl)) hf dX4_isInRange_43
          · rw [if_neg g_7] at hf
            refine lv_iconst (v := 1) hx hb dX4_isInRange_38 (by decide) ?_
            refine lv_goto (tgt := 43) hx hb dX4_isInRange_39 (by decide) ?_
            exact ef_zp hx hb hr hlocks hM hS (nz_n (Or.inr rfl)) hf dX4_isInRange_43
def f_X4_put (a0 : Nat) (p1 : Int32) (p2 : Int32) (M : Mem) : Option Mem := if p1 < 0 then (some M) else (if (4 : Int32) ≤ p1 then (some M) else (gd (ix p1 4) <| nb (sI M (a0 + 1) p1.toNatClampNeg p2) fun M4 => some M4))
set_option maxHeartbeats 4000000 in
set_option maxRecDepth 100000 in
theorem k_X4_put (G : Gt) (hG : gOK G) (l : Launch) (a0 : Nat) (h0 : gK G a0 = 5) (p1 : Int32) (p2 : Int32) (M : Mem) {M' : Mem} (hf : f_X4_put a0 p1 p2 M = some M') : Kc G l yX4_put cX4_put 3 none ({ frames := 0, cells := 0, slots := 0, locals := 0 } : Room) [.ref a0, .int p1, .int p2] M none M' := by
  refine start (by decide) (Nat.le_of_ble_eq_true rfl) ?_
  intro p e s m args below meth c ls hx hb hr hown hml hlocks hts hV hM hl
  have hown : s.vm.findClass "FoldedVoices$Settings" = some m.cls := hown
  have hK := hG.1.moved hV
  have hS : va_S (gA G) s.heap s.heap [] := va_S.rf
  have hl : lv_has ls 3 [(0, .ref a0), (1, .int p1), (2, .int p2)] := hl
  have hM0 := hM
  rw [f_X4_put] at hf
  refine lv_iload_n hx hb dX4_put_0 rfl (lv_at hl 1 rfl) ?_
  refine lv_if_lt (tgt := 20) hx hb dX4_put_1 (by decide) (fun g_1 => ?_) (fun g_1 => ?_)
  · rw [if_pos g_1] at hf
    exact ef_v hx hb hr hlocks hM hS hf dX4_put_20
  · rw [if_neg g_1] at hf
    refine lv_iload_n hx hb dX4_put_4 rfl (lv_at hl 1 rfl) ?_
    refine lv_aload_n hx hb dX4_put_5 rfl (lv_at hl 0 rfl) ?_
    refine s_get hx hb (lay_4 hts) hown hK hM (c_5 h0) rfl 0 (by decide) rfl rfl (tk_40 hts) dX4_put_6 ?_
    refine s_alen 0 hx hb hK hM (cel_ia (ky_5_0 hG h0) (n := 4) (by decide)) rfl (v := 4) (show Int32.ofNat 4 = 4 from by decide) dX4_put_9 ?_
    refine lv_icmp_ge (tgt := 20) hx hb dX4_put_10 (by decide) (fun g_2 => ?_) (fun g_2 => ?_)
    · rw [if_pos g_2] at hf
      exact ef_v hx hb hr hlocks hM hS hf dX4_put_20
    · rw [if_neg g_2] at hf
      refine lv_aload_n hx hb dX4_put_13 rfl (lv_at hl 0 rfl) ?_
      refine s_get hx hb (lay_4 hts) hown hK hM (c_5 h0) rfl 0 (by decide) rfl rfl (tk_40 hts) dX4_put_14 ?_
      refine lv_iload_n hx hb dX4_put_17 rfl (lv_at hl 1 rfl) ?_
      refine lv_iload_n hx hb dX4_put_18 rfl (lv_at hl 2 rfl) ?_
      obtain ⟨h_3, hf⟩ := gd_e hf
      obtain ⟨M4, eM4, hf⟩ := nb_e hf
      refine s_iast 4 hx hb hK hM hS (ky_5_0 hG h0) (by decide) (ky_b hG (ky_5_0 hG h0)) h_3 dX4_put_19 (fun H locs hM hS => ?_)
      rw [eM4] at hM
      exact ef_v hx hb hr hlocks hM hS hf dX4_put_20
def f_X7_copyFrom_b63 (a0 : Nat) (a1 : Nat) (M : Mem) : Option Mem := nb (sI M a0 3 (mI M a1 3)) fun M1 => nb (sI M1 a0 4 (mI M1 a1 4)) fun M2 => some M2
def f_X7_copyFrom_b24 (a0 : Nat) (a1 : Nat) : Nat → Int32 → Mem → Option Mem
  | 0, _, _ => none
  | n + 1, x2, M => if (8 : Int32) ≤ x2 then (f_X7_copyFrom_b63 a0 a1 M) else (if (8 : Int32) ≤ x2 then (f_X7_copyFrom_b63 a0 a1 M) else (gd (ix x2 8) <| nb (mR M (a0 + 11) x2.toNatClampNeg) fun z7 => gd (ix x2 8) <| nb (mR M (a1 + 11) x2.toNatClampNeg) fun z10 => vb (f_X2_copyFrom z7 z10 M) fun M12 => nb (x2 + 1) fun y13 => f_X7_copyFrom_b24 a0 a1 n y13 M12))
def f_X7_copyFrom (a0 : Nat) (a1 : Nat) (M : Mem) : Option Mem := vb (f_X3_copyFrom (a0 + 1) (a1 + 1) M) fun M15 => vb (f_X1_copyFrom (a0 + 9) (a1 + 9) M15) fun M17 => f_X7_copyFrom_b24 a0 a1 lfuel 0 M17
set_option maxHeartbeats 4000000 in
set_option maxRecDepth 100000 in
theorem k_X7_copyFrom (G : Gt) (hG : gOK G) (l : Launch) (a0 : Nat) (h0 : gK G a0 = 8) (a1 : Nat) (h1 : gK G a1 = 8) (M : Mem) {M' : Mem} (hf : f_X7_copyFrom a0 a1 M = some M') : Kc G l yX7_copyFrom cX7_copyFrom 3 none ({ frames := 3, cells := 0, slots := 0, locals := 68 } : Room) [.ref a0, .ref a1] M none M' := by
  refine start (by decide) (Nat.le_of_ble_eq_true rfl) ?_
  intro p e s m args below meth c ls hx hb hr hown hml hlocks hts hV hM hl
  have hown : s.vm.findClass "FoldedVoices$Voice" = some m.cls := hown
  have hK := hG.1.moved hV
  have hS : va_S (gA G) s.heap s.heap [] := va_S.rf
  have hl : lv_has ls 3 [(0, .ref a0), (1, .ref a1)] := hl
  have hM0 := hM
  have b63 : ∀ (M : Mem) (H : Heap) (locs : List Loc) (ls : Array Slot), Mh G M H → va_S (gA G) s.heap H locs → lv_has ls 3 [(0, .ref a0), (1, .ref a1)] → f_X7_copyFrom_b63 a0 a1 M = some M' → W p l e ({ frames := 3, cells := 0, slots := 0, locals := 68 } : Room) s m args below meth c H locs 0 0 (MQ below (QV G none M') args s 0 0 (gA G)) (F0 m 63 ls []) := by
    intro M H locs ls hM hS hl hf
    rw [f_X7_copyFrom_b63] at hf
    refine lv_aload_n hx hb dX7_copyFrom_63 rfl (lv_at hl 0 rfl) ?_
    refine lv_aload_n hx hb dX7_copyFrom_64 rfl (lv_at hl 1 rfl) ?_
    refine s_get hx hb (lay_7 hts) hown hK hM (c_8 h1) rfl 3 (by decide) rfl rfl (tk_215 hts) dX7_copyFrom_65 ?_
    obtain ⟨M1, eM1, hf⟩ := nb_e hf
    refine s_put tyX7 hx hb (lay_7 hts) tyX7_ok nmX7 hown hK hM hS (ky_b hG h0) (c_8 h0) rfl 3 (by decide) rfl rfl rfl (Nat.le_of_ble_eq_true rfl) (cp_7_3 h0) (fun _ h9 => cel_sI _ h9) hM.2.2.sI rfl (tk_215 hts) dX7_copyFrom_68 (fun H locs hM hS => ?_)
    rw [eM1] at hM
    refine lv_aload_n hx hb dX7_copyFrom_71 rfl (lv_at hl 0 rfl) ?_
    refine lv_aload_n hx hb dX7_copyFrom_72 rfl (lv_at hl 1 rfl) ?_
    refine s_get hx hb (lay_7 hts) hown hK hM (c_8 h1) rfl 4 (by decide) rfl rfl (tk_217 hts) dX7_copyFrom_73 ?_
    obtain ⟨M2, eM2, hf⟩ := nb_e hf
    refine s_put tyX7 hx hb (lay_7 hts) tyX7_ok nmX7 hown hK hM hS (ky_b hG h0) (c_8 h0) rfl 4 (by decide) rfl rfl rfl (Nat.le_of_ble_eq_true rfl) (cp_7_4 h0) (fun _ h9 => cel_sI _ h9) hM.2.2.sI rfl (tk_217 hts) dX7_copyFrom_76 (fun H locs hM hS => ?_)
    rw [eM2] at hM
    exact ef_v hx hb hr hlocks hM hS hf dX7_copyFrom_79
  have b24 : ∀ (n : Nat), ∀ (x2 : Int32) (M : Mem) (H : Heap) (locs : List Loc) (ls : Array Slot), Mh G M H → va_S (gA G) s.heap H locs → lv_has ls 3 [(0, .ref a0), (1, .ref a1), (2, .int x2)] → f_X7_copyFrom_b24 a0 a1 n x2 M = some M' → W p l e ({ frames := 3, cells := 0, slots := 0, locals := 68 } : Room) s m args below meth c H locs 0 0 (MQ below (QV G none M') args s 0 0 (gA G)) (F0 m 24 ls []) := by
    intro n
    induction n with
    | zero =>
      intro x2 M H locs ls hM hS hl hf
      rw [f_X7_copyFrom_b24] at hf
      cases hf
    | succ n ih =>
      intro x2 M H locs ls hM hS hl hf
      rw [f_X7_copyFrom_b24] at hf
      refine lv_iload_n hx hb dX7_copyFrom_24 rfl (lv_at hl 2 rfl) ?_
      refine lv_aload_n hx hb dX7_copyFrom_25 rfl (lv_at hl 0 rfl) ?_
      refine s_get hx hb (lay_7 hts) hown hK hM (c_8 h0) rfl 2 (by decide) rfl rfl (tk_213 hts) dX7_copyFrom_26 ?_
      refine s_alen 2 hx hb hK hM (cel_pa (ky_8_2 hG h0)) rfl (v := 8) (show Int32.ofNat 8 = 8 from by decide) dX7_copyFrom_29 ?_
      refine lv_icmp_ge (tgt := 63) hx hb dX7_copyFrom_30 (by decide) (fun g_3 => ?_) (fun g_3 => ?_)
      · rw [if_pos g_3] at hf
        exact b63 _ H locs ls hM hS (lv_sub hl [0, 1] rfl) hf
      · rw [if_neg g_3] at hf
        refine lv_iload_n hx hb dX7_copyFrom_33 rfl (lv_at hl 2 rfl) ?_
        refine lv_aload_n hx hb dX7_copyFrom_34 rfl (lv_at hl 1 rfl) ?_
        refine s_get hx hb (lay_7 hts) hown hK hM (c_8 h1) rfl 2 (by decide) rfl rfl (tk_213 hts) dX7_copyFrom_35 ?_
        refine s_alen 2 hx hb hK hM (cel_pa (ky_8_2 hG h1)) rfl (v := 8) (show Int32.ofNat 8 = 8 from by decide) dX7_copyFrom_38 ?_
        refine lv_icmp_ge (tgt := 63) hx hb dX7_copyFrom_39 (by decide) (fun g_4 => ?_) (fun g_4 => ?_)
        · rw [if_pos g_4] at hf
          exact b63 _ H locs ls hM hS (lv_sub hl [0, 1] rfl) hf
        · rw [if_neg g_4] at hf
          refine lv_aload_n hx hb dX7_copyFrom_42 rfl (lv_at hl 0 rfl) ?_
          refine s_get hx hb (lay_7 hts) hown hK hM (c_8 h0) rfl 2 (by decide) rfl rfl (tk_213 hts) dX7_copyFrom_43 ?_
          refine lv_iload_n hx hb dX7_copyFrom_46 rfl (lv_at hl 2 rfl) ?_
          obtain ⟨h_5, hf⟩ := gd_e hf
          refine s_paald hx hb hK hM (ky_8_2 hG h0) h_5 dX7_copyFrom_47 (fun h_6 => ?_)
          obtain ⟨z7, ez7, hf⟩ := nb_e hf
          refine s_nmr ez7 ?_
          have h_z7 : gK G z7 = 3 := ez7 ▸ h_6
          refine lv_aload_n hx hb dX7_copyFrom_48 rfl (lv_at hl 1 rfl) ?_
          refine s_get hx hb (lay_7 hts) hown hK hM (c_8 h1) rfl 2 (by decide) rfl rfl (tk_213 hts) dX7_copyFrom_49 ?_
          refine lv_iload_n hx hb dX7_copyFrom_52 rfl (lv_at hl 2 rfl) ?_
          obtain ⟨h_8, hf⟩ := gd_e hf
          refine s_paald hx hb hK hM (ky_8_2 hG h1) h_8 dX7_copyFrom_53 (fun h_9 => ?_)
          obtain ⟨z10, ez10, hf⟩ := nb_e hf
          refine s_nmr ez10 ?_
          have h_z10 : gK G z10 = 3 := ez10 ▸ h_9
          obtain ⟨M12, e_11, hf⟩ := vb_e hf
          refine c_Vv hx hb hml hown hts hV hK hM hS (As := [.ref z10]) (rest := []) (k_X2_copyFrom G hG l z7 h_z7 z10 h_z10 M e_11) w_X2_copyFrom (tk_705 hts) (c_3 h_z7) rfl rfl ⟨⟨rfl, rfl⟩, Nat.le_of_ble_eq_true rfl, Nat.le_of_ble_eq_true rfl⟩ ⟨Nat.zero_le _, Nat.zero_le _⟩ rfl hl.1 rfl (Nat.le_of_ble_eq_true rfl) dX7_copyFrom_54 (fun H locs hM hS => ?_)
          obtain ⟨y13, ey13, hf⟩ := nb_e hf
          refine lv_iinc (v := y13) (lv' := [(2, .int y13), (0, .ref a0), (1, .ref a1)]) hx hb dX7_copyFrom_57 hl (k := 2) rfl (by rw [← ey13]; rfl) (by decide) rfl (fun ls hl => ?_)
          refine lv_goto (tgt := 24) hx hb dX7_copyFrom_60 (by decide) ?_
          exact ih y13 _ H locs ls hM hS (lv_sub hl [1, 2, 0] rfl) hf
  rw [f_X7_copyFrom] at hf
  obtain ⟨H, hHe⟩ : ∃ H, H = s.heap := ⟨_, rfl⟩
  obtain ⟨locs, hLe⟩ : ∃ L : List Loc, L = [] := ⟨_, rfl⟩
  rw [← hHe] at hM
  have hS : va_S (gA G) s.heap H locs := by rw [hHe, hLe]; exact va_S.rf
  suffices hW : W p l e ({ frames := 3, cells := 0, slots := 0, locals := 68 } : Room) s m args below meth c H locs 0 0 (MQ below (QV G none M') args s 0 0 (gA G)) (F0 m 0 ls []) by rw [hHe, hLe] at hW; exact hW
  refine lv_aload_n hx hb dX7_copyFrom_0 rfl (lv_at hl 0 rfl) ?_
  refine s_get hx hb (lay_7 hts) hown hK hM (c_8 h0) rfl 0 (by decide) rfl rfl (tk_209 hts) dX7_copyFrom_1 ?_
  refine lv_aload_n hx hb dX7_copyFrom_4 rfl (lv_at hl 1 rfl) ?_
  refine s_get hx hb (lay_7 hts) hown hK hM (c_8 h1) rfl 0 (by decide) rfl rfl (tk_209 hts) dX7_copyFrom_5 ?_
  obtain ⟨M15, e_14, hf⟩ := vb_e hf
  refine c_Vv hx hb hml hown hts hV hK hM hS (As := [.ref (a1 + 1)]) (rest := []) (k_X3_copyFrom G hG l (a0 + 1) (ky_8_0 hG h0) (a1 + 1) (ky_8_0 hG h1) M e_14) w_X3_copyFrom (tk_691 hts) (c_4 (ky_8_0 hG h0)) rfl rfl ⟨⟨rfl, rfl⟩, Nat.le_of_ble_eq_true rfl, Nat.le_of_ble_eq_true rfl⟩ ⟨Nat.zero_le _, Nat.zero_le _⟩ rfl hl.1 rfl (Nat.le_of_ble_eq_true rfl) dX7_copyFrom_8 (fun H locs hM hS => ?_)
  refine lv_aload_n hx hb dX7_copyFrom_11 rfl (lv_at hl 0 rfl) ?_
  refine s_get hx hb (lay_7 hts) hown hK hM (c_8 h0) rfl 1 (by decide) rfl rfl (tk_211 hts) dX7_copyFrom_12 ?_
  refine lv_aload_n hx hb dX7_copyFrom_15 rfl (lv_at hl 1 rfl) ?_
  refine s_get hx hb (lay_7 hts) hown hK hM (c_8 h1) rfl 1 (by decide) rfl rfl (tk_211 hts) dX7_copyFrom_16 ?_
  obtain ⟨M17, e_16, hf⟩ := vb_e hf
  refine c_Vv hx hb hml hown hts hV hK hM hS (As := [.ref (a1 + 9)]) (rest := []) (k_X1_copyFrom G hG l (a0 + 9) (ky_8_1 hG h0) (a1 + 9) (ky_8_1 hG h1) M15 e_16) w_X1_copyFrom (tk_704 hts) (c_2 (ky_8_1 hG h0)) rfl rfl ⟨⟨rfl, rfl⟩, Nat.le_of_ble_eq_true rfl, Nat.le_of_ble_eq_true rfl⟩ ⟨Nat.zero_le _, Nat.zero_le _⟩ rfl hl.1 rfl (Nat.le_of_ble_eq_true rfl) dX7_copyFrom_19 (fun H locs hM hS => ?_)
  refine lv_iconst (v := 0) hx hb dX7_copyFrom_22 (by decide) ?_
  refine lv_istore_n (lv' := [(2, .int 0), (0, .ref a0), (1, .ref a1)]) hx hb dX7_copyFrom_23 rfl hl (by decide) rfl (fun ls hl => ?_)
  exact b24 _ 0 _ H locs ls hM hS (lv_sub hl [1, 2, 0] rfl) hf
def f_X5_copyFrom_b41 (a0 : Nat) (a1 : Nat) (M : Mem) : Option Mem := vb (f_X4_copyFrom (a0 + 2) (a1 + 2) M) fun M2 => some M2
def f_X5_copyFrom_b2 (a0 : Nat) (a1 : Nat) : Nat → Int32 → Mem → Option Mem
  | 0, _, _ => none
  | n + 1, x2, M => if (3 : Int32) ≤ x2 then (f_X5_copyFrom_b41 a0 a1 M) else (if (3 : Int32) ≤ x2 then (f_X5_copyFrom_b41 a0 a1 M) else (gd (ix x2 3) <| nb (a0 + 1 + 3 + 44 * x2.toNatClampNeg) fun z7 => gd (ix x2 3) <| nb (a1 + 1 + 3 + 44 * x2.toNatClampNeg) fun z10 => vb (f_X7_copyFrom z7 z10 M) fun M12 => nb (x2 + 1) fun y13 => f_X5_copyFrom_b2 a0 a1 n y13 M12))
def f_X5_copyFrom (a0 : Nat) (a1 : Nat) (M : Mem) : Option Mem := f_X5_copyFrom_b2 a0 a1 lfuel 0 M
set_option maxHeartbeats 4000000 in
set_option maxRecDepth 100000 in
theorem k_X5_copyFrom (G : Gt) (hG : gOK G) (l : Launch) (a0 : Nat) (h0 : gK G a0 = 6) (a1 : Nat) (h1 : gK G a1 = 6) (M : Mem) {M' : Mem} (hf : f_X5_copyFrom a0 a1 M = some M') : Kc G l yX5_copyFrom cX5_copyFrom 3 none ({ frames := 4, cells := 0, slots := 0, locals := 90 } : Room) [.ref a0, .ref a1] M none M' := by
  refine start (by decide) (Nat.le_of_ble_eq_true rfl) ?_
  intro p e s m args below meth c ls hx hb hr hown hml hlocks hts hV hM hl
  have hown : s.vm.findClass "FoldedVoices$State" = some m.cls := hown
  have hK := hG.1.moved hV
  have hS : va_S (gA G) s.heap s.heap [] := va_S.rf
  have hl : lv_has ls 3 [(0, .ref a0), (1, .ref a1)] := hl
  have hM0 := hM
  have b41 : ∀ (M : Mem) (H : Heap) (locs : List Loc) (ls : Array Slot), Mh G M H → va_S (gA G) s.heap H locs → lv_has ls 3 [(0, .ref a0), (1, .ref a1)] → f_X5_copyFrom_b41 a0 a1 M = some M' → W p l e ({ frames := 4, cells := 0, slots := 0, locals := 90 } : Room) s m args below meth c H locs 0 0 (MQ below (QV G none M') args s 0 0 (gA G)) (F0 m 41 ls []) := by
    intro M H locs ls hM hS hl hf
    rw [f_X5_copyFrom_b41] at hf
    refine lv_aload_n hx hb dX5_copyFrom_41 rfl (lv_at hl 0 rfl) ?_
    refine s_get hx hb (lay_5 hts) hown hK hM (c_6 h0) rfl 1 (by decide) rfl rfl (tk_232 hts) dX5_copyFrom_42 ?_
    refine lv_aload_n hx hb dX5_copyFrom_45 rfl (lv_at hl 1 rfl) ?_
    refine s_get hx hb (lay_5 hts) hown hK hM (c_6 h1) rfl 1 (by decide) rfl rfl (tk_232 hts) dX5_copyFrom_46 ?_
    obtain ⟨M2, e_1, hf⟩ := vb_e hf
    refine c_Vv hx hb hml hown hts hV hK hM hS (As := [.ref (a1 + 2)]) (rest := []) (k_X4_copyFrom G hG l (a0 + 2) (ky_6_1 hG h0) (a1 + 2) (ky_6_1 hG h1) M e_1) w_X4_copyFrom (tk_706 hts) (c_5 (ky_6_1 hG h0)) rfl rfl ⟨⟨rfl, rfl⟩, Nat.le_of_ble_eq_true rfl, Nat.le_of_ble_eq_true rfl⟩ ⟨Nat.zero_le _, Nat.zero_le _⟩ rfl hl.1 rfl (Nat.le_of_ble_eq_true rfl) dX5_copyFrom_49 (fun H locs hM hS => ?_)
    exact ef_v hx hb hr hlocks hM hS hf dX5_copyFrom_52
  have b2 : ∀ (n : Nat), ∀ (x2 : Int32) (M : Mem) (H : Heap) (locs : List Loc) (ls : Array Slot), Mh G M H → va_S (gA G) s.heap H locs → lv_has ls 3 [(0, .ref a0), (1, .ref a1), (2, .int x2)] → f_X5_copyFrom_b2 a0 a1 n x2 M = some M' → W p l e ({ frames := 4, cells := 0, slots := 0, locals := 90 } : Room) s m args below meth c H locs 0 0 (MQ below (QV G none M') args s 0 0 (gA G)) (F0 m 2 ls []) := by
    intro n
    induction n with
    | zero =>
      intro x2 M H locs ls hM hS hl hf
      rw [f_X5_copyFrom_b2] at hf
      cases hf
    | succ n ih =>
      intro x2 M H locs ls hM hS hl hf
      rw [f_X5_copyFrom_b2] at hf
      refine lv_iload_n hx hb dX5_copyFrom_2 rfl (lv_at hl 2 rfl) ?_
      refine lv_aload_n hx hb dX5_copyFrom_3 rfl (lv_at hl 0 rfl) ?_
      refine s_get hx hb (lay_5 hts) hown hK hM (c_6 h0) rfl 0 (by decide) rfl rfl (tk_230 hts) dX5_copyFrom_4 ?_
      refine s_alen 3 hx hb hK hM (cel_va (ky_6_0 hG h0)) rfl (v := 3) (show Int32.ofNat 3 = 3 from by decide) dX5_copyFrom_7 ?_
      refine lv_icmp_ge (tgt := 41) hx hb dX5_copyFrom_8 (by decide) (fun g_3 => ?_) (fun g_3 => ?_)
      · rw [if_pos g_3] at hf
        exact b41 _ H locs ls hM hS (lv_sub hl [0, 1] rfl) hf
      · rw [if_neg g_3] at hf
        refine lv_iload_n hx hb dX5_copyFrom_11 rfl (lv_at hl 2 rfl) ?_
        refine lv_aload_n hx hb dX5_copyFrom_12 rfl (lv_at hl 1 rfl) ?_
        refine s_get hx hb (lay_5 hts) hown hK hM (c_6 h1) rfl 0 (by decide) rfl rfl (tk_230 hts) dX5_copyFrom_13 ?_
        refine s_alen 3 hx hb hK hM (cel_va (ky_6_0 hG h1)) rfl (v := 3) (show Int32.ofNat 3 = 3 from by decide) dX5_copyFrom_16 ?_
        refine lv_icmp_ge (tgt := 41) hx hb dX5_copyFrom_17 (by decide) (fun g_4 => ?_) (fun g_4 => ?_)
        · rw [if_pos g_4] at hf
          exact b41 _ H locs ls hM hS (lv_sub hl [0, 1] rfl) hf
        · rw [if_neg g_4] at hf
          refine lv_aload_n hx hb dX5_copyFrom_20 rfl (lv_at hl 0 rfl) ?_
          refine s_get hx hb (lay_5 hts) hown hK hM (c_6 h0) rfl 0 (by decide) rfl rfl (tk_230 hts) dX5_copyFrom_21 ?_
          refine lv_iload_n hx hb dX5_copyFrom_24 rfl (lv_at hl 2 rfl) ?_
          obtain ⟨h_5, hf⟩ := gd_e hf
          refine s_vaald hx hb hK hM (ky_vs hG (ky_6_0 hG h0)) (ky_6_0 hG h0) h_5 dX5_copyFrom_25 (fun h_6 => ?_)
          obtain ⟨z7, ez7, hf⟩ := nb_e hf
          refine s_nmr ez7 ?_
          have h_z7 : gK G z7 = 8 := ez7 ▸ h_6
          refine lv_aload_n hx hb dX5_copyFrom_26 rfl (lv_at hl 1 rfl) ?_
          refine s_get hx hb (lay_5 hts) hown hK hM (c_6 h1) rfl 0 (by decide) rfl rfl (tk_230 hts) dX5_copyFrom_27 ?_
          refine lv_iload_n hx hb dX5_copyFrom_30 rfl (lv_at hl 2 rfl) ?_
          obtain ⟨h_8, hf⟩ := gd_e hf
          refine s_vaald hx hb hK hM (ky_vs hG (ky_6_0 hG h1)) (ky_6_0 hG h1) h_8 dX5_copyFrom_31 (fun h_9 => ?_)
          obtain ⟨z10, ez10, hf⟩ := nb_e hf
          refine s_nmr ez10 ?_
          have h_z10 : gK G z10 = 8 := ez10 ▸ h_9
          obtain ⟨M12, e_11, hf⟩ := vb_e hf
          refine c_Vv hx hb hml hown hts hV hK hM hS (As := [.ref z10]) (rest := []) (k_X7_copyFrom G hG l z7 h_z7 z10 h_z10 M e_11) w_X7_copyFrom (tk_687 hts) (c_8 h_z7) rfl rfl ⟨⟨rfl, rfl⟩, Nat.le_of_ble_eq_true rfl, Nat.le_of_ble_eq_true rfl⟩ ⟨Nat.zero_le _, Nat.zero_le _⟩ rfl hl.1 rfl (Nat.le_of_ble_eq_true rfl) dX5_copyFrom_32 (fun H locs hM hS => ?_)
          obtain ⟨y13, ey13, hf⟩ := nb_e hf
          refine lv_iinc (v := y13) (lv' := [(2, .int y13), (0, .ref a0), (1, .ref a1)]) hx hb dX5_copyFrom_35 hl (k := 2) rfl (by rw [← ey13]; rfl) (by decide) rfl (fun ls hl => ?_)
          refine lv_goto (tgt := 2) hx hb dX5_copyFrom_38 (by decide) ?_
          exact ih y13 _ H locs ls hM hS (lv_sub hl [1, 2, 0] rfl) hf
  rw [f_X5_copyFrom] at hf
  obtain ⟨H, hHe⟩ : ∃ H, H = s.heap := ⟨_, rfl⟩
  obtain ⟨locs, hLe⟩ : ∃ L : List Loc, L = [] := ⟨_, rfl⟩
  rw [← hHe] at hM
  have hS : va_S (gA G) s.heap H locs := by rw [hHe, hLe]; exact va_S.rf
  suffices hW : W p l e ({ frames := 4, cells := 0, slots := 0, locals := 90 } : Room) s m args below meth c H locs 0 0 (MQ below (QV G none M') args s 0 0 (gA G)) (F0 m 0 ls []) by rw [hHe, hLe] at hW; exact hW
  refine lv_iconst (v := 0) hx hb dX5_copyFrom_0 (by decide) ?_
  refine lv_istore_n (lv' := [(2, .int 0), (0, .ref a0), (1, .ref a1)]) hx hb dX5_copyFrom_1 rfl hl (by decide) rfl (fun ls hl => ?_)
  exact b2 _ 0 _ H locs ls hM hS (lv_sub hl [1, 2, 0] rfl) hf
