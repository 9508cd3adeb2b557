def f_X8_set (a0 : Nat) (p1 : Int32) (p2 : Int32) (M : Mem) : Option (Nat × Int32 × Mem) := xb 0 (f_X8_requireSetting p1 M) fun r2 M3 => vb (f_X4_isInRange p1 p2 M3) fun r5 => if r5 = 0 then (some (2, 0, M3)) else (vb (f_X8_saveLive a0 M3) fun M8 => vb (f_X4_valueOf ((a0 + 1) + 2) p1 M8) fun r10 => vb (f_X4_put ((a0 + 1) + 2) p1 p2 M8) fun M12 => some (0, r10, M12))
set_option maxHeartbeats 4000000 in
set_option maxRecDepth 100000 in
theorem k_X8_set (G : Gt) (hG : gOK G) (l : Launch) (a0 : Nat) (h0 : gK G a0 = 9) (p1 : Int32) (p2 : Int32) (M : Mem) {r : Int32} {M' : Mem} (hf : f_X8_set a0 p1 p2 M = some (0, r, M')) : Kc G l yX8_set cX8_set 4 (some .int) ({ frames := 7, cells := 0, slots := 0, locals := 132 } : Room) [.ref a0, .int p1, .int p2] M (some (.int r)) M' := by
  refine start (by decide) (Nat.le_of_ble_eq_true rfl) ?_
  intro p e s m args below meth c ls hx hb hr hown hml hlocks hts hV hM hl
  have hown : s.vm.findClass "FoldedVoices" = some m.cls := hown
  have hK := hG.1.moved hV
  have hS : va_S (gA G) s.heap s.heap [] := va_S.rf
  have hl : lv_has ls 4 [(0, .ref a0), (1, .int p1), (2, .int p2)] := hl
  have hM0 := hM
  rw [f_X8_set] at hf
  refine lv_iload_n hx hb dX8_set_0 rfl (lv_at hl 1 rfl) ?_
  obtain ⟨r2, M3, e_1, hf⟩ := xb_r hf
  refine c_Sv hx hb hml hown hts hV hM hS (As := [.int p1]) (rest := []) (k_X8_requireSetting G hG l p1 M e_1) w_X8_requireSetting (tk_795 hts) ⟨⟨rfl, rfl⟩, Nat.le_of_ble_eq_true rfl, Nat.le_of_ble_eq_true rfl⟩ ⟨Nat.zero_le _, Nat.zero_le _⟩ rfl hl.1 rfl (Nat.le_of_ble_eq_true rfl) dX8_set_1 (fun H locs hM hS => ?_)
  refine lv_iload_n hx hb dX8_set_4 rfl (lv_at hl 1 rfl) ?_
  refine lv_iload_n hx hb dX8_set_5 rfl (lv_at hl 2 rfl) ?_
  obtain ⟨r5, e_4, hf⟩ := vb_e hf
  refine c_Si hx hb hml hown hts hV hM hS (As := [.int p1, .int p2]) (rest := []) (k_X4_isInRange G hG l p1 p2 M3 e_4) w_X4_isInRange (tk_799 hts) ⟨⟨rfl, rfl⟩, Nat.le_of_ble_eq_true rfl, Nat.le_of_ble_eq_true rfl⟩ ⟨Nat.zero_le _, Nat.zero_le _⟩ rfl hl.1 rfl (Nat.le_of_ble_eq_true rfl) dX8_set_6 (fun H locs hM hS => ?_)
  refine lv_if_ne (tgt := 22) hx hb dX8_set_9 (by decide) (fun g_6 => ?_) (fun g_6 => ?_)
  · rw [if_neg g_6] at hf
    refine lv_aload_n hx hb dX8_set_22 rfl (lv_at hl 0 rfl) ?_
    obtain ⟨M8, e_7, hf⟩ := vb_e hf
    refine c_Vv hx hb hml hown hts hV hK hM hS (As := []) (rest := []) (k_X8_saveLive G hG l a0 h0 M3 e_7) w_X8_saveLive (tk_692 hts) (c_9 h0) rfl rfl ⟨⟨rfl, rfl⟩, Nat.le_of_ble_eq_true rfl, Nat.le_of_ble_eq_true rfl⟩ ⟨Nat.zero_le _, Nat.zero_le _⟩ rfl hl.1 rfl (Nat.le_of_ble_eq_true rfl) dX8_set_23 (fun H locs hM hS => ?_)
    refine lv_aload_n hx hb dX8_set_26 rfl (lv_at hl 0 rfl) ?_
    refine s_get hx hb (lay_8 hts) hown hK hM (c_9 h0) rfl 0 (by decide) rfl rfl (tk_280 hts) dX8_set_27 ?_
    refine s_getN hx hb (lay_5 hts) hown hK hM (c_6 (ky_9_0 hG h0)) rfl 1 (by decide) rfl rfl (tk_236 hts) dX8_set_30 ?_
    refine lv_iload_n hx hb dX8_set_33 rfl (lv_at hl 1 rfl) ?_
    obtain ⟨r10, e_9, hf⟩ := vb_e hf
    refine c_Vi hx hb hml hown hts hV hK hM hS (As := [.int p1]) (rest := []) (k_X4_valueOf G hG l ((a0 + 1) + 2) (ky_6_1 hG (ky_9_0 hG h0)) p1 M8 e_9) w_X4_valueOf (tk_483 hts) (c_5 (ky_6_1 hG (ky_9_0 hG h0))) rfl rfl ⟨⟨rfl, rfl⟩, Nat.le_of_ble_eq_true rfl, Nat.le_of_ble_eq_true rfl⟩ ⟨Nat.zero_le _, Nat.zero_le _⟩ rfl hl.1 rfl (Nat.le_of_ble_eq_true rfl) dX8_set_34 (fun H locs hM hS => ?_)
    refine lv_istore_n (lv' := [(3, .int r10), (0, .ref a0), (1, .int p1), (2, .int p2)]) hx hb dX8_set_37 rfl hl (by decide) rfl (fun ls hl => ?_)
    refine lv_aload_n hx hb dX8_set_38 rfl (lv_at hl 1 rfl) ?_
    refine s_get hx hb (lay_8 hts) hown hK hM (c_9 h0) rfl 0 (by decide) rfl rfl (tk_280 hts) dX8_set_39 ?_
    refine s_getN hx hb (lay_5 hts) hown hK hM (c_6 (ky_9_0 hG h0)) rfl 1 (by decide) rfl rfl (tk_236 hts) dX8_set_42 ?_
    refine lv_iload_n hx hb dX8_set_45 rfl (lv_at hl 2 rfl) ?_
    refine lv_iload_n hx hb dX8_set_46 rfl (lv_at hl 3 rfl) ?_
    obtain ⟨M12, e_11, hf⟩ := vb_e hf
    refine c_Vv hx hb hml hown hts hV hK hM hS (As := [.int p1, .int p2]) (rest := []) (k_X4_put G hG l ((a0 + 1) + 2) (ky_6_1 hG (ky_9_0 hG h0)) p1 p2 M8 e_11) w_X4_put (tk_807 hts) (c_5 (ky_6_1 hG (ky_9_0 hG h0))) rfl rfl ⟨⟨rfl, rfl⟩, Nat.le_of_ble_eq_true rfl, Nat.le_of_ble_eq_true rfl⟩ ⟨Nat.zero_le _, Nat.zero_le _⟩ rfl hl.1 rfl (Nat.le_of_ble_eq_true rfl) dX8_set_47 (fun H locs hM hS => ?_)
    refine lv_iload_n hx hb dX8_set_50 rfl (lv_at hl 0 rfl) ?_
    exact ef_ix hx hb hr hlocks hM hS hf dX8_set_51
  · rw [if_pos g_6] at hf
    exact (xf_no2 hf (by decide)).elim
set_option maxHeartbeats 4000000 in
set_option maxRecDepth 100000 in
theorem x_X8_set (G : Gt) (hG : gOK G) (l : Launch) (hfl : l.stackTraces = false) (a0 : Nat) (h0 : gK G a0 = 9) (p1 : Int32) (p2 : Int32) (M : Mem) {j : Nat} {r : Int32} {M' : Mem} (hj : j ≠ 0) (hf : f_X8_set a0 p1 p2 M = some (j, r, M')) : Kt G l yX8_set cX8_set 4 (some .int) ({ frames := 7, cells := 1, slots := 6, locals := 132 } : Room) [.ref a0, .int p1, .int p2] M j M' := by
  refine startT (by decide) (Nat.le_of_ble_eq_true rfl) ?_
  intro p e s m args below meth c ls hx hb hr hown hml hlocks hts hV hM hl ht
  have hown : s.vm.findClass "FoldedVoices" = some m.cls := hown
  have hK := hG.1.moved hV
  have hS : va_S (gA G) s.heap s.heap [] := va_S.rf
  have hl : lv_has ls 4 [(0, .ref a0), (1, .int p1), (2, .int p2)] := hl
  have hM0 := hM
  have hT0 := gTh_at hG.2.2.2.2.2 hV hM
  rw [f_X8_set] at hf
  refine lv_iload_n hx hb dX8_set_0 rfl (lv_at hl 1 rfl) ?_
  rcases xb_t hj hf with ⟨r2, e_1⟩ | ⟨r2, M3, e_1, hf⟩
  · exact c_St hx hb hml hown hlocks ht hts hV hM hS (As := [.int p1]) (rest := []) (x_X8_requireSetting G hG l hfl p1 M hj e_1) w_X8_requireSetting (tk_795 hts) ⟨⟨rfl, rfl⟩, Nat.le_of_ble_eq_true rfl, Nat.le_of_ble_eq_true rfl⟩ ⟨Nat.le_of_ble_eq_true rfl, Nat.le_of_ble_eq_true rfl⟩ rfl hl.1 rfl (Nat.le_of_ble_eq_true rfl) dX8_set_1
  refine c_Sv hx hb hml hown hts hV hM hS (As := [.int p1]) (rest := []) (k_X8_requireSetting G hG l p1 M e_1) w_X8_requireSetting (tk_795 hts) ⟨⟨rfl, rfl⟩, Nat.le_of_ble_eq_true rfl, Nat.le_of_ble_eq_true rfl⟩ ⟨Nat.zero_le _, Nat.zero_le _⟩ rfl hl.1 rfl (Nat.le_of_ble_eq_true rfl) dX8_set_1 (fun H locs hM hS => ?_)
  refine lv_iload_n hx hb dX8_set_4 rfl (lv_at hl 1 rfl) ?_
  refine lv_iload_n hx hb dX8_set_5 rfl (lv_at hl 2 rfl) ?_
  obtain ⟨r5, e_4, hf⟩ := vb_e hf
  refine c_Si hx hb hml hown hts hV hM hS (As := [.int p1, .int p2]) (rest := []) (k_X4_isInRange G hG l p1 p2 M3 e_4) w_X4_isInRange (tk_799 hts) ⟨⟨rfl, rfl⟩, Nat.le_of_ble_eq_true rfl, Nat.le_of_ble_eq_true rfl⟩ ⟨Nat.zero_le _, Nat.zero_le _⟩ rfl hl.1 rfl (Nat.le_of_ble_eq_true rfl) dX8_set_6 (fun H locs hM hS => ?_)
  refine lv_if_ne (tgt := 22) hx hb dX8_set_9 (by decide) (fun g_6 => ?_) (fun g_6 => ?_)
  · rw [if_neg g_6] at hf
    refine lv_aload_n hx hb dX8_set_22 rfl (lv_at hl 0 rfl) ?_
    obtain ⟨M8, e_7, hf⟩ := vb_e hf
    refine c_Vv hx hb hml hown hts hV hK hM hS (As := []) (rest := []) (k_X8_saveLive G hG l a0 h0 M3 e_7) w_X8_saveLive (tk_692 hts) (c_9 h0) rfl rfl ⟨⟨rfl, rfl⟩, Nat.le_of_ble_eq_true rfl, Nat.le_of_ble_eq_true rfl⟩ ⟨Nat.zero_le _, Nat.zero_le _⟩ rfl hl.1 rfl (Nat.le_of_ble_eq_true rfl) dX8_set_23 (fun H locs hM hS => ?_)
    refine lv_aload_n hx hb dX8_set_26 rfl (lv_at hl 0 rfl) ?_
    refine s_get hx hb (lay_8 hts) hown hK hM (c_9 h0) rfl 0 (by decide) rfl rfl (tk_280 hts) dX8_set_27 ?_
    refine s_getN hx hb (lay_5 hts) hown hK hM (c_6 (ky_9_0 hG h0)) rfl 1 (by decide) rfl rfl (tk_236 hts) dX8_set_30 ?_
    refine lv_iload_n hx hb dX8_set_33 rfl (lv_at hl 1 rfl) ?_
    obtain ⟨r10, e_9, hf⟩ := vb_e hf
    refine c_Vi hx hb hml hown hts hV hK hM hS (As := [.int p1]) (rest := []) (k_X4_valueOf G hG l ((a0 + 1) + 2) (ky_6_1 hG (ky_9_0 hG h0)) p1 M8 e_9) w_X4_valueOf (tk_483 hts) (c_5 (ky_6_1 hG (ky_9_0 hG h0))) rfl rfl ⟨⟨rfl, rfl⟩, Nat.le_of_ble_eq_true rfl, Nat.le_of_ble_eq_true rfl⟩ ⟨Nat.zero_le _, Nat.zero_le _⟩ rfl hl.1 rfl (Nat.le_of_ble_eq_true rfl) dX8_set_34 (fun H locs hM hS => ?_)
    refine lv_istore_n (lv' := [(3, .int r10), (0, .ref a0), (1, .int p1), (2, .int p2)]) hx hb dX8_set_37 rfl hl (by decide) rfl (fun ls hl => ?_)
    refine lv_aload_n hx hb dX8_set_38 rfl (lv_at hl 1 rfl) ?_
    refine s_get hx hb (lay_8 hts) hown hK hM (c_9 h0) rfl 0 (by decide) rfl rfl (tk_280 hts) dX8_set_39 ?_
    refine s_getN hx hb (lay_5 hts) hown hK hM (c_6 (ky_9_0 hG h0)) rfl 1 (by decide) rfl rfl (tk_236 hts) dX8_set_42 ?_
    refine lv_iload_n hx hb dX8_set_45 rfl (lv_at hl 2 rfl) ?_
    refine lv_iload_n hx hb dX8_set_46 rfl (lv_at hl 3 rfl) ?_
    obtain ⟨M12, e_11, hf⟩ := vb_e hf
    refine c_Vv hx hb hml hown hts hV hK hM hS (As := [.int p1, .int p2]) (rest := []) (k_X4_put G hG l ((a0 + 1) + 2) (ky_6_1 hG (ky_9_0 hG h0)) p1 p2 M8 e_11) w_X4_put (tk_807 hts) (c_5 (ky_6_1 hG (ky_9_0 hG h0))) rfl rfl ⟨⟨rfl, rfl⟩, Nat.le_of_ble_eq_true rfl, Nat.le_of_ble_eq_true rfl⟩ ⟨Nat.zero_le _, Nat.zero_le _⟩ rfl hl.1 rfl (Nat.le_of_ble_eq_true rfl) dX8_set_47 (fun H locs hM hS => ?_)
    refine lv_iload_n hx hb dX8_set_50 rfl (lv_at hl 0 rfl) ?_
    exact (xf_no hf hj).elim
  · rw [if_pos g_6] at hf
    exact s_throwS hx hb hfl hml hown hlocks ht hts hT0 hM hS (show exN 2 = "java/lang/IllegalArgumentException" from rfl) (by decide +kernel) (tk_647 hts) (tk_15 hts) (hts.2 (127, "the value is out of range") (by decide +kernel)) at_129 hl.1 dX8_set_12 dX8_set_15 dX8_set_16 dX8_set_18 dX8_set_21 ⟨Nat.le_of_ble_eq_true rfl, Nat.le_of_ble_eq_true rfl, Nat.le_of_ble_eq_true rfl, Nat.le_of_ble_eq_true rfl⟩ hf
def f_X8_append_b12 (a0 : Nat) (p1 : Int32) (M : Mem) : Option (Nat × Int32 × Mem) := some (2, 0, M)
def f_X8_append (a0 : Nat) (p1 : Int32) (M : Mem) : Option (Nat × Int32 × Mem) := if p1 < (33 : Int32) then (f_X8_append_b12 a0 p1 M) else (if p1 ≤ (126 : Int32) then (vb (f_X6_isFull (a0 + 274) M) fun r4 => if r4 = 0 then (vb (f_X6_add (a0 + 274) ((p1.toUInt32 % 65536).toInt32) M) fun M7 => some (0, (mI M7 (a0 + 274) 1), M7)) else (some (3, 0, M))) else (f_X8_append_b12 a0 p1 M))
set_option maxHeartbeats 4000000 in
set_option maxRecDepth 100000 in
theorem k_X8_append (G : Gt) (hG : gOK G) (l : Launch) (a0 : Nat) (h0 : gK G a0 = 9) (p1 : Int32) (M : Mem) {r : Int32} {M' : Mem} (hf : f_X8_append a0 p1 M = some (0, r, M')) : Kc G l yX8_append cX8_append 2 (some .int) ({ frames := 6, cells := 0, slots := 0, locals := 82 } : Room) [.ref a0, .int p1] M (some (.int r)) M' := by
  refine start (by decide) (Nat.le_of_ble_eq_true rfl) ?_
  intro p e s m args below meth c ls hx hb hr hown hml hlocks hts hV hM hl
  have hown : s.vm.findClass "FoldedVoices" = some m.cls := hown
  have hK := hG.1.moved hV
  have hS : va_S (gA G) s.heap s.heap [] := va_S.rf
  have hl : lv_has ls 2 [(0, .ref a0), (1, .int p1)] := hl
  have hM0 := hM
  have b12 : ∀ (M : Mem) (H : Heap) (locs : List Loc) (ls : Array Slot), Mh G M H → va_S (gA G) s.heap H locs → lv_has ls 2 [(0, .ref a0), (1, .int p1)] → f_X8_append_b12 a0 p1 M = some (0, r, M') → W p l e ({ frames := 6, cells := 0, slots := 0, locals := 82 } : Room) s m args below meth c H locs 0 0 (MQ below (QV G (some (.int r)) M') args s 0 0 (gA G)) (F0 m 12 ls []) := by
    intro M H locs ls hM hS hl hf
    rw [f_X8_append_b12] at hf
    exact (xf_no2 hf (by decide)).elim
  rw [f_X8_append] at hf
  obtain ⟨H, hHe⟩ : ∃ H, H = s.heap := ⟨_, rfl⟩
  obtain ⟨locs, hLe⟩ : ∃ L : List Loc, L = [] := ⟨_, rfl⟩
  rw [← hHe] at hM
  have hS : va_S (gA G) s.heap H locs := by rw [hHe, hLe]; exact va_S.rf
  suffices hW : W p l e ({ frames := 6, cells := 0, slots := 0, locals := 82 } : Room) s m args below meth c H locs 0 0 (MQ below (QV G (some (.int r)) M') args s 0 0 (gA G)) (F0 m 0 ls []) by rw [hHe, hLe] at hW; exact hW
  refine lv_iload_n hx hb dX8_append_0 rfl (lv_at hl 1 rfl) ?_
  refine lv_bipush (v := 33) hx hb dX8_append_1 (by decide) ?_
  refine lv_icmp_lt (tgt := 12) hx hb dX8_append_3 (by decide) (fun g_1 => ?_) (fun g_1 => ?_)
  · rw [if_pos g_1] at hf
    exact b12 _ H locs ls hM hS (lv_sub hl [0, 1] rfl) hf
  · rw [if_neg g_1] at hf
    refine lv_iload_n hx hb dX8_append_6 rfl (lv_at hl 1 rfl) ?_
    refine lv_bipush (v := 126) hx hb dX8_append_7 (by decide) ?_
    refine lv_icmp_le (tgt := 22) hx hb dX8_append_9 (by decide) (fun g_2 => ?_) (fun g_2 => ?_)
    · rw [if_pos g_2] at hf
      refine lv_aload_n hx hb dX8_append_22 rfl (lv_at hl 0 rfl) ?_
      refine s_get hx hb (lay_8 hts) hown hK hM (c_9 h0) rfl 5 (by decide) rfl rfl (tk_285 hts) dX8_append_23 ?_
      obtain ⟨r4, e_3, hf⟩ := vb_e hf
      refine c_Vi hx hb hml hown hts hV hK hM hS (As := []) (rest := []) (k_X6_isFull G hG l (a0 + 274) (ky_9_5 hG h0) M e_3) w_X6_isFull (tk_819 hts) (c_7 (ky_9_5 hG h0)) rfl rfl ⟨⟨rfl, rfl⟩, Nat.le_of_ble_eq_true rfl, Nat.le_of_ble_eq_true rfl⟩ ⟨Nat.zero_le _, Nat.zero_le _⟩ rfl hl.1 rfl (Nat.le_of_ble_eq_true rfl) dX8_append_26 (fun H locs hM hS => ?_)
      refine lv_if_eq (tgt := 42) hx hb dX8_append_29 (by decide) (fun g_5 => ?_) (fun g_5 => ?_)
      · rw [if_pos g_5] at hf
        refine lv_aload_n hx hb dX8_append_42 rfl (lv_at hl 0 rfl) ?_
        refine s_get hx hb (lay_8 hts) hown hK hM (c_9 h0) rfl 5 (by decide) rfl rfl (tk_285 hts) dX8_append_43 ?_
        refine lv_iload_n hx hb dX8_append_46 rfl (lv_at hl 1 rfl) ?_
        refine lv_i2c hx hb dX8_append_47 rfl ?_
        obtain ⟨M7, e_6, hf⟩ := vb_e hf
        refine c_Vv hx hb hml hown hts hV hK hM hS (As := [.int ((p1.toUInt32 % 65536).toInt32)]) (rest := []) (k_X6_add G hG l (a0 + 274) (ky_9_5 hG h0) ((p1.toUInt32 % 65536).toInt32) M e_6) w_X6_add (tk_824 hts) (c_7 (ky_9_5 hG h0)) rfl rfl ⟨⟨rfl, rfl⟩, Nat.le_of_ble_eq_true rfl, Nat.le_of_ble_eq_true rfl⟩ ⟨Nat.zero_le _, Nat.zero_le _⟩ rfl hl.1 rfl (Nat.le_of_ble_eq_true rfl) dX8_append_48 (fun H locs hM hS => ?_)
        refine lv_aload_n hx hb dX8_append_51 rfl (lv_at hl 0 rfl) ?_
        refine s_get hx hb (lay_8 hts) hown hK hM (c_9 h0) rfl 5 (by decide) rfl rfl (tk_285 hts) dX8_append_52 ?_
        refine s_getN hx hb (lay_6 hts) hown hK hM (c_7 (ky_9_5 hG h0)) rfl 1 (by decide) rfl rfl (tk_251 hts) dX8_append_55 ?_
        exact ef_ix hx hb hr hlocks hM hS hf dX8_append_58
      · rw [if_neg g_5] at hf
        exact (xf_no2 hf (by decide)).elim
    · rw [if_neg g_2] at hf
      exact b12 _ H locs ls hM hS (lv_sub hl [0, 1] rfl) hf
set_option maxHeartbeats 4000000 in
set_option maxRecDepth 100000 in
theorem x_X8_append (G : Gt) (hG : gOK G) (l : Launch) (hfl : l.stackTraces = false) (a0 : Nat) (h0 : gK G a0 = 9) (p1 : Int32) (M : Mem) {j : Nat} {r : Int32} {M' : Mem} (hj : j ≠ 0) (hf : f_X8_append a0 p1 M = some (j, r, M')) : Kt G l yX8_append cX8_append 2 (some .int) ({ frames := 6, cells := 1, slots := 6, locals := 82 } : Room) [.ref a0, .int p1] M j M' := by
  refine startT (by decide) (Nat.le_of_ble_eq_true rfl) ?_
  intro p e s m args below meth c ls hx hb hr hown hml hlocks hts hV hM hl ht
  have hown : s.vm.findClass "FoldedVoices" = some m.cls := hown
  have hK := hG.1.moved hV
  have hS : va_S (gA G) s.heap s.heap [] := va_S.rf
  have hl : lv_has ls 2 [(0, .ref a0), (1, .int p1)] := hl
  have hM0 := hM
  have hT0 := gTh_at hG.2.2.2.2.2 hV hM
  have b12 : ∀ (M : Mem) (H : Heap) (locs : List Loc) (ls : Array Slot), Mh G M H → va_S (gA G) s.heap H locs → lv_has ls 2 [(0, .ref a0), (1, .int p1)] → f_X8_append_b12 a0 p1 M = some (j, r, M') → W p l e ({ frames := 6, cells := 1, slots := 6, locals := 82 } : Room) s m args below meth c H locs 0 0 (vx_MQ below (fun _ _ _ _ => False) (XT G j M') args s 1 6 (gA G)) (F0 m 12 ls []) := by
    intro M H locs ls hM hS hl hf
    rw [f_X8_append_b12] at hf
    exact s_throwS hx hb hfl hml hown hlocks ht hts hT0 hM hS (show exN 2 = "java/lang/IllegalArgumentException" from rfl) (by decide +kernel) (tk_647 hts) (tk_15 hts) (hts.2 (138, "no such character") (by decide +kernel)) at_129 hl.1 dX8_append_12 dX8_append_15 dX8_append_16 dX8_append_18 dX8_append_21 ⟨Nat.le_of_ble_eq_true rfl, Nat.le_of_ble_eq_true rfl, Nat.le_of_ble_eq_true rfl, Nat.le_of_ble_eq_true rfl⟩ hf
  rw [f_X8_append] at hf
  obtain ⟨H, hHe⟩ : ∃ H, H = s.heap := ⟨_, rfl⟩
  obtain ⟨locs, hLe⟩ : ∃ L : List Loc, L = [] := ⟨_, rfl⟩
  rw [← hHe] at hM
  have hS : va_S (gA G) s.heap H locs := by rw [hHe, hLe]; exact va_S.rf
  suffices hW : W p l e ({ frames := 6, cells := 1, slots := 6, locals := 82 } : Room) s m args below meth c H locs 0 0 (vx_MQ below (fun _ _ _ _ => False) (XT G j M') args s 1 6 (gA G)) (F0 m 0 ls []) by rw [hHe, hLe] at hW; exact hW
  refine lv_iload_n hx hb dX8_append_0 rfl (lv_at hl 1 rfl) ?_
  refine lv_bipush (v := 33) hx hb dX8_append_1 (by decide) ?_
  refine lv_icmp_lt (tgt := 12) hx hb dX8_append_3 (by decide) (fun g_1 => ?_) (fun g_1 => ?_)
  · rw [if_pos g_1] at hf
    exact b12 _ H locs ls hM hS (lv_sub hl [0, 1] rfl) hf
  · rw [if_neg g_1] at hf
    refine lv_iload_n hx hb dX8_append_6 rfl (lv_at hl 1 rfl) ?_
    refine lv_bipush (v := 126) hx hb dX8_append_7 (by decide) ?_
    refine lv_icmp_le (tgt := 22) hx hb dX8_append_9 (by decide) (fun g_2 => ?_) (fun g_2 => ?_)
    · rw [if_pos g_2] at hf
      refine lv_aload_n hx hb dX8_append_22 rfl (lv_at hl 0 rfl) ?_
      refine s_get hx hb (lay_8 hts) hown hK hM (c_9 h0) rfl 5 (by decide) rfl rfl (tk_285 hts) dX8_append_23 ?_
      obtain ⟨r4, e_3, hf⟩ := vb_e hf
      refine c_Vi hx hb hml hown hts hV hK hM hS (As := []) (rest := []) (k_X6_isFull G hG l (a0 + 274) (ky_9_5 hG h0) M e_3) w_X6_isFull (tk_819 hts) (c_7 (ky_9_5 hG h0)) rfl rfl ⟨⟨rfl, rfl⟩, Nat.le_of_ble_eq_true rfl, Nat.le_of_ble_eq_true rfl⟩ ⟨Nat.zero_le _, Nat.zero_le _⟩ rfl hl.1 rfl (Nat.le_of_ble_eq_true rfl) dX8_append_26 (fun H locs hM hS => ?_)
      refine lv_if_eq (tgt := 42) hx hb dX8_append_29 (by decide) (fun g_5 => ?_) (fun g_5 => ?_)
      · rw [if_pos g_5] at hf
        refine lv_aload_n hx hb dX8_append_42 rfl (lv_at hl 0 rfl) ?_
        refine s_get hx hb (lay_8 hts) hown hK hM (c_9 h0) rfl 5 (by decide) rfl rfl (tk_285 hts) dX8_append_43 ?_
        refine lv_iload_n hx hb dX8_append_46 rfl (lv_at hl 1 rfl) ?_
        refine lv_i2c hx hb dX8_append_47 rfl ?_
        obtain ⟨M7, e_6, hf⟩ := vb_e hf
        refine c_Vv hx hb hml hown hts hV hK hM hS (As := [.int ((p1.toUInt32 % 65536).toInt32)]) (rest := []) (k_X6_add G hG l (a0 + 274) (ky_9_5 hG h0) ((p1.toUInt32 % 65536).toInt32) M e_6) w_X6_add (tk_824 hts) (c_7 (ky_9_5 hG h0)) rfl rfl ⟨⟨rfl, rfl⟩, Nat.le_of_ble_eq_true rfl, Nat.le_of_ble_eq_true rfl⟩ ⟨Nat.zero_le _, Nat.zero_le _⟩ rfl hl.1 rfl (Nat.le_of_ble_eq_true rfl) dX8_append_48 (fun H locs hM hS => ?_)
        refine lv_aload_n hx hb dX8_append_51 rfl (lv_at hl 0 rfl) ?_
        refine s_get hx hb (lay_8 hts) hown hK hM (c_9 h0) rfl 5 (by decide) rfl rfl (tk_285 hts) dX8_append_52 ?_
        refine s_getN hx hb (lay_6 hts) hown hK hM (c_7 (ky_9_5 hG h0)) rfl 1 (by decide) rfl rfl (tk_251 hts) dX8_append_55 ?_
        exact (xf_no hf hj).elim
      · rw [if_neg g_5] at hf
        exact s_throwS hx hb hfl hml hown hlocks ht hts hT0 hM hS (show exN 3 = "java/lang/IllegalStateException" from rfl) (by decide +kernel) (tk_676 hts) (tk_16 hts) (hts.2 (143, "the buffer is full") (by decide +kernel)) at_66 hl.1 dX8_append_32 dX8_append_35 dX8_append_36 dX8_append_38 dX8_append_41 ⟨Nat.le_of_ble_eq_true rfl, Nat.le_of_ble_eq_true rfl, Nat.le_of_ble_eq_true rfl, Nat.le_of_ble_eq_true rfl⟩ hf
    · rw [if_neg g_2] at hf
      exact b12 _ H locs ls hM hS (lv_sub hl [0, 1] rfl) hf
def f_X8_clearBuffer (a0 : Nat) (M : Mem) : Option (Int32 × Mem) := nb (mI M (a0 + 274) 1) fun y1 => vb (f_X6_clear (a0 + 274) M) fun M3 => some (y1, M3)
set_option maxHeartbeats 4000000 in
set_option maxRecDepth 100000 in
theorem k_X8_clearBuffer (G : Gt) (hG : gOK G) (l : Launch) (a0 : Nat) (h0 : gK G a0 = 9) (M : Mem) {r : Int32} {M' : Mem} (hf : f_X8_clearBuffer a0 M = some (r, M')) : Kc G l yX8_clearBuffer cX8_clearBuffer 2 (some .int) ({ frames := 1, cells := 0, slots := 0, locals := 20 } : Room) [.ref a0] M (some (.int r)) M' := by
  refine start (by decide) (Nat.le_of_ble_eq_true rfl) ?_
  intro p e s m args below meth c ls hx hb hr hown hml hlocks hts hV hM hl
  have hown : s.vm.findClass "FoldedVoices" = some m.cls := hown
  have hK := hG.1.moved hV
  have hS : va_S (gA G) s.heap s.heap [] := va_S.rf
  have hl : lv_has ls 2 [(0, .ref a0)] := hl
  have hM0 := hM
  rw [f_X8_clearBuffer] at hf
  refine lv_aload_n hx hb dX8_clearBuffer_0 rfl (lv_at hl 0 rfl) ?_
  refine s_get hx hb (lay_8 hts) hown hK hM (c_9 h0) rfl 5 (by decide) rfl rfl (tk_285 hts) dX8_clearBuffer_1 ?_
  refine s_getN hx hb (lay_6 hts) hown hK hM (c_7 (ky_9_5 hG h0)) rfl 1 (by decide) rfl rfl (tk_251 hts) dX8_clearBuffer_4 ?_
  obtain ⟨y1, ey1, hf⟩ := nb_e hf
  refine s_nm ey1 ?_
  refine lv_istore_n (lv' := [(1, .int y1), (0, .ref a0)]) hx hb dX8_clearBuffer_7 rfl hl (by decide) rfl (fun ls hl => ?_)
  refine lv_aload_n hx hb dX8_clearBuffer_8 rfl (lv_at hl 1 rfl) ?_
  refine s_get hx hb (lay_8 hts) hown hK hM (c_9 h0) rfl 5 (by decide) rfl rfl (tk_285 hts) dX8_clearBuffer_9 ?_
  obtain ⟨M3, e_2, hf⟩ := vb_e hf
  refine c_Vv hx hb hml hown hts hV hK hM hS (As := []) (rest := []) (k_X6_clear G hG l (a0 + 274) (ky_9_5 hG h0) M e_2) w_X6_clear (tk_309 hts) (c_7 (ky_9_5 hG h0)) rfl rfl ⟨⟨rfl, rfl⟩, Nat.le_of_ble_eq_true rfl, Nat.le_of_ble_eq_true rfl⟩ ⟨Nat.zero_le _, Nat.zero_le _⟩ rfl hl.1 rfl (Nat.le_of_ble_eq_true rfl) dX8_clearBuffer_12 (fun H locs hM hS => ?_)
  refine lv_iload_n hx hb dX8_clearBuffer_15 rfl (lv_at hl 0 rfl) ?_
  exact ef_im hx hb hr hlocks hM hS hf dX8_clearBuffer_16
def f_X8_firstError (a0 : Nat) (M : Mem) : Option (Int32 × Mem) := cb (f_X6_firstWrongPlace (a0 + 274) M) fun r2 M3 => some (r2, M3)
set_option maxHeartbeats 4000000 in
set_option maxRecDepth 100000 in
theorem k_X8_firstError (G : Gt) (hG : gOK G) (l : Launch) (a0 : Nat) (h0 : gK G a0 = 9) (M : Mem) {r : Int32} {M' : Mem} (hf : f_X8_firstError a0 M = some (r, M')) : Kc G l yX8_firstError cX8_firstError 1 (some .int) ({ frames := 3, cells := 0, slots := 0, locals := 65 } : Room) [.ref a0] M (some (.int r)) M' := by
  refine start (by decide) (Nat.le_of_ble_eq_true rfl) ?_
  intro p e s m args below meth c ls hx hb hr hown hml hlocks hts hV hM hl
  have hown : s.vm.findClass "FoldedVoices" = some m.cls := hown
  have hK := hG.1.moved hV
  have hS : va_S (gA G) s.heap s.heap [] := va_S.rf
  have hl : lv_has ls 1 [(0, .ref a0)] := hl
  have hM0 := hM
  rw [f_X8_firstError] at hf
  refine lv_aload_n hx hb dX8_firstError_0 rfl (lv_at hl 0 rfl) ?_
  refine s_get hx hb (lay_8 hts) hown hK hM (c_9 h0) rfl 5 (by decide) rfl rfl (tk_285 hts) dX8_firstError_1 ?_
  obtain ⟨r2, M3, e_1, hf⟩ := cb_e hf
  refine c_Vi hx hb hml hown hts hV hK hM hS (As := []) (rest := []) (k_X6_firstWrongPlace G hG l (a0 + 274) (ky_9_5 hG h0) M e_1) w_X6_firstWrongPlace (tk_317 hts) (c_7 (ky_9_5 hG h0)) rfl rfl ⟨⟨rfl, rfl⟩, Nat.le_of_ble_eq_true rfl, Nat.le_of_ble_eq_true rfl⟩ ⟨Nat.zero_le _, Nat.zero_le _⟩ rfl hl.1 rfl (Nat.le_of_ble_eq_true rfl) dX8_firstError_4 (fun H locs hM hS => ?_)
  exact ef_im hx hb hr hlocks hM hS hf dX8_firstError_7
def f_X8_canDo_b12 (a0 : Nat) (p1 : Int32) (a2 : Nat) (M : Mem) : Option Int32 := if (mI M a2 3) < (1 : Int32) then (some 0) else (some 1)
def f_X8_canDo (a0 : Nat) (p1 : Int32) (a2 : Nat) (M : Mem) : Option Int32 := if p1 = (100 : Int32) then (f_X8_canDo_b12 a0 p1 a2 M) else (if p1 = (108 : Int32) then (f_X8_canDo_b12 a0 p1 a2 M) else (if p1 = (120 : Int32) then (if (mI M a2 3) < (2 : Int32) then (some 0) else (some 1)) else (vb (f_X7_canTake a2 ((a0 + 1) + 2) M) fun r6 => gd (r6 = 0 ∨ r6 = 1) <| some r6)))
set_option maxHeartbeats 4000000 in
set_option maxRecDepth 100000 in
theorem k_X8_canDo (G : Gt) (hG : gOK G) (l : Launch) (a0 : Nat) (h0 : gK G a0 = 9) (p1 : Int32) (a2 : Nat) (h2 : gK G a2 = 8) (M : Mem) {r : Int32} (hf : f_X8_canDo a0 p1 a2 M = some r) : Kc G l yX8_canDo cX8_canDo 3 (some .boolean) ({ frames := 3, cells := 0, slots := 0, locals := 64 } : Room) [.ref a0, .int p1, .ref a2] M (some (.int r)) M := by
  refine start (by decide) (Nat.le_of_ble_eq_true rfl) ?_
  intro p e s m args below meth c ls hx hb hr hown hml hlocks hts hV hM hl
  have hown : s.vm.findClass "FoldedVoices" = some m.cls := hown
  have hK := hG.1.moved hV
  have hS : va_S (gA G) s.heap s.heap [] := va_S.rf
  have hl : lv_has ls 3 [(0, .ref a0), (1, .int p1), (2, .ref a2)] := hl
  have hM0 := hM
  have b12 : ∀ (M : Mem) (H : Heap) (locs : List Loc) (ls : Array Slot), Mh G M H → va_S (gA G) s.heap H locs → lv_has ls 3 [(0, .ref a0), (1, .int p1), (2, .ref a2)] → f_X8_canDo_b12 a0 p1 a2 M = some r → W p l e ({ frames := 3, cells := 0, slots := 0, locals := 64 } : Room) s m args below meth c H locs 0 0 (MQ below (QV G (some (.int r)) M) args s 0 0 (gA G)) (F0 m 12 ls []) := by
    intro M H locs ls hM hS hl hf
    rw [f_X8_canDo_b12] at hf
    refine lv_aload_n hx hb dX8_canDo_12 rfl (lv_at hl 2 rfl) ?_
    refine s_getN hx hb (lay_7 hts) hown hK hM (c_8 h2) rfl 3 (by decide) rfl rfl (tk_219 hts) dX8_canDo_13 ?_
    refine lv_iconst (v := 1) hx hb dX8_canDo_16 (by decide) ?_
    refine lv_icmp_lt (tgt := 24) hx hb dX8_canDo_17 (by decide) (fun g_1 => ?_) (fun g_1 => ?_)
    · rw [if_pos g_1] at hf
      refine lv_iconst (v := 0) hx hb dX8_canDo_24 (by decide) ?_
      exact ef_zp hx hb hr hlocks hM hS (nz_n (Or.inl rfl)) hf dX8_canDo_25
    · rw [if_neg g_1] at hf
      refine lv_iconst (v := 1) hx hb dX8_canDo_20 (by decide) ?_
      refine lv_goto (tgt := 25) hx hb dX8_canDo_21 (by decide) ?_
      exact ef_zp hx hb hr hlocks hM hS (nz_n (Or.inr rfl)) hf dX8_canDo_25
  rw [f_X8_canDo] at hf
  obtain ⟨H, hHe⟩ : ∃ H, H = s.heap := ⟨_, rfl⟩
  obtain ⟨locs, hLe⟩ : ∃ L : List Loc, L = [] := ⟨_, rfl⟩
  rw [← hHe] at hM
  have hS : va_S (gA G) s.heap H locs := by rw [hHe, hLe]; exact va_S.rf
  suffices hW : W p l e ({ frames := 3, cells := 0, slots := 0, locals := 64 } : Room) s m args below meth c H locs 0 0 (MQ below (QV G (some (.int r)) M) args s 0 0 (gA G)) (F0 m 0 ls []) by rw [hHe, hLe] at hW; exact hW
  refine lv_iload_n hx hb dX8_canDo_0 rfl (lv_at hl 1 rfl) ?_
  refine lv_bipush (v := 100) hx hb dX8_canDo_1 (by decide) ?_
  refine lv_icmp_eq (tgt := 12) hx hb dX8_canDo_3 (by decide) (fun g_2 => ?_) (fun g_2 => ?_)
  · rw [if_pos g_2] at hf
    exact b12 _ H locs ls hM hS (lv_sub hl [0, 1, 2] rfl) hf
  · rw [if_neg g_2] at hf
    refine lv_iload_n hx hb dX8_canDo_6 rfl (lv_at hl 1 rfl) ?_
    refine lv_bipush (v := 108) hx hb dX8_canDo_7 (by decide) ?_
    refine lv_icmp_ne (tgt := 26) hx hb dX8_canDo_9 (by decide) (fun g_3 => ?_) (fun g_3 => ?_)
    · rw [if_neg g_3] at hf
      refine lv_iload_n hx hb dX8_canDo_26 rfl (lv_at hl 1 rfl) ?_
      refine lv_bipush (v := 120) hx hb dX8_canDo_27 (by decide) ?_
      refine lv_icmp_ne (tgt := 46) hx hb dX8_canDo_29 (by decide) (fun g_4 => ?_) (fun g_4 => ?_)
      · rw [if_neg g_4] at hf
        refine lv_aload_n hx hb dX8_canDo_46 rfl (lv_at hl 2 rfl) ?_
        refine lv_aload_n hx hb dX8_canDo_47 rfl (lv_at hl 0 rfl) ?_
        refine s_get hx hb (lay_8 hts) hown hK hM (c_9 h0) rfl 0 (by decide) rfl rfl (tk_280 hts) dX8_canDo_48 ?_
        refine s_getN hx hb (lay_5 hts) hown hK hM (c_6 (ky_9_0 hG h0)) rfl 1 (by decide) rfl rfl (tk_236 hts) dX8_canDo_51 ?_
        obtain ⟨r6, e_5, hf⟩ := vb_e hf
        refine c_Vi hx hb hml hown hts hV hK hM hS (As := [.ref ((a0 + 1) + 2)]) (rest := []) (k_X7_canTake G hG l a2 h2 ((a0 + 1) + 2) (ky_6_1 hG (ky_9_0 hG h0)) M e_5) w_X7_canTake (tk_663 hts) (c_8 h2) rfl rfl ⟨⟨rfl, rfl⟩, Nat.le_of_ble_eq_true rfl, Nat.le_of_ble_eq_true rfl⟩ ⟨Nat.zero_le _, Nat.zero_le _⟩ rfl hl.1 rfl (Nat.le_of_ble_eq_true rfl) dX8_canDo_54 (fun H locs hM hS => ?_)
        obtain ⟨h_7, hf⟩ := gd_e hf
        exact ef_zp hx hb hr hlocks hM hS (nz_n h_7) hf dX8_canDo_57
      · rw [if_pos g_4] at hf
        refine lv_aload_n hx hb dX8_canDo_32 rfl (lv_at hl 2 rfl) ?_
        refine s_getN hx hb (lay_7 hts) hown hK hM (c_8 h2) rfl 3 (by decide) rfl rfl (tk_219 hts) dX8_canDo_33 ?_
        refine lv_iconst (v := 2) hx hb dX8_canDo_36 (by decide) ?_
        refine lv_icmp_lt (tgt := 44) hx hb dX8_canDo_37 (by decide) (fun g_8 => ?_) (fun g_8 => ?_)
        · rw [if_pos g_8] at hf
          refine lv_iconst (v := 0) hx hb dX8_canDo_44 (by decide) ?_
          exact ef_zp hx hb hr hlocks hM hS (nz_n (Or.inl rfl)) hf dX8_canDo_45
        · rw [if_neg g_8] at hf
          refine lv_iconst (v := 1) hx hb dX8_canDo_40 (by decide) ?_
          refine lv_goto (tgt := 45) hx hb dX8_canDo_41 (by decide) ?_
          exact ef_zp hx hb hr hlocks hM hS (nz_n (Or.inr rfl)) hf dX8_canDo_45
    · rw [if_pos g_3] at hf
      exact b12 _ H locs ls hM hS (lv_sub hl [0, 1, 2] rfl) hf
def f_X8_doDeed (a0 : Nat) (p1 : Int32) (a2 : Nat) (p3 : Int32) (M : Mem) : Option Mem := if p1 = (100 : Int32) then (cb (f_X7_bringFirst a2 M) fun r14 M15 => some M15) else (if p1 = (108 : Int32) then (cb (f_X7_dropFirst a2 M) fun r11 M12 => some M12) else (if p1 = (120 : Int32) then (cb (f_X7_exchangeFirstTwo a2 M) fun r8 M9 => some M9) else (cb (f_X7_take a2 p3 ((a0 + 1) + 2) M) fun r5 M6 => some M6)))
set_option maxHeartbeats 4000000 in
set_option maxRecDepth 100000 in
theorem k_X8_doDeed (G : Gt) (hG : gOK G) (l : Launch) (a0 : Nat) (h0 : gK G a0 = 9) (p1 : Int32) (a2 : Nat) (h2 : gK G a2 = 8) (p3 : Int32) (M : Mem) {M' : Mem} (hf : f_X8_doDeed a0 p1 a2 p3 M = some M') : Kc G l yX8_doDeed cX8_doDeed 4 none ({ frames := 5, cells := 0, slots := 0, locals := 113 } : Room) [.ref a0, .int p1, .ref a2, .int p3] M none M' := by
  refine start (by decide) (Nat.le_of_ble_eq_true rfl) ?_
  intro p e s m args below meth c ls hx hb hr hown hml hlocks hts hV hM hl
  have hown : s.vm.findClass "FoldedVoices" = some m.cls := hown
  have hK := hG.1.moved hV
  have hS : va_S (gA G) s.heap s.heap [] := va_S.rf
  have hl : lv_has ls 4 [(0, .ref a0), (1, .int p1), (2, .ref a2), (3, .int p3)] := hl
  have hM0 := hM
  rw [f_X8_doDeed] at hf
  refine lv_iload_n hx hb dX8_doDeed_0 rfl (lv_at hl 1 rfl) ?_
  refine lv_bipush (v := 100) hx hb dX8_doDeed_1 (by decide) ?_
  refine lv_icmp_ne (tgt := 14) hx hb dX8_doDeed_3 (by decide) (fun g_1 => ?_) (fun g_1 => ?_)
  · rw [if_neg g_1] at hf
    refine lv_iload_n hx hb dX8_doDeed_14 rfl (lv_at hl 1 rfl) ?_
    refine lv_bipush (v := 108) hx hb dX8_doDeed_15 (by decide) ?_
    refine lv_icmp_ne (tgt := 28) hx hb dX8_doDeed_17 (by decide) (fun g_2 => ?_) (fun g_2 => ?_)
    · rw [if_neg g_2] at hf
      refine lv_iload_n hx hb dX8_doDeed_28 rfl (lv_at hl 1 rfl) ?_
      refine lv_bipush (v := 120) hx hb dX8_doDeed_29 (by decide) ?_
      refine lv_icmp_ne (tgt := 42) hx hb dX8_doDeed_31 (by decide) (fun g_3 => ?_) (fun g_3 => ?_)
      · rw [if_neg g_3] at hf
        refine lv_aload_n hx hb dX8_doDeed_42 rfl (lv_at hl 2 rfl) ?_
        refine lv_iload_n hx hb dX8_doDeed_43 rfl (lv_at hl 3 rfl) ?_
        refine lv_aload_n hx hb dX8_doDeed_44 rfl (lv_at hl 0 rfl) ?_
        refine s_get hx hb (lay_8 hts) hown hK hM (c_9 h0) rfl 0 (by decide) rfl rfl (tk_280 hts) dX8_doDeed_45 ?_
        refine s_getN hx hb (lay_5 hts) hown hK hM (c_6 (ky_9_0 hG h0)) rfl 1 (by decide) rfl rfl (tk_236 hts) dX8_doDeed_48 ?_
        obtain ⟨r5, M6, e_4, hf⟩ := cb_e hf
        refine c_Vi hx hb hml hown hts hV hK hM hS (As := [.int p3, .ref ((a0 + 1) + 2)]) (rest := []) (k_X7_take G hG l a2 h2 p3 ((a0 + 1) + 2) (ky_6_1 hG (ky_9_0 hG h0)) M e_4) w_X7_take (tk_700 hts) (c_8 h2) rfl rfl ⟨⟨rfl, rfl⟩, Nat.le_of_ble_eq_true rfl, Nat.le_of_ble_eq_true rfl⟩ ⟨Nat.zero_le _, Nat.zero_le _⟩ rfl hl.1 rfl (Nat.le_of_ble_eq_true rfl) dX8_doDeed_51 (fun H locs hM hS => ?_)
        refine lv_pop hx hb dX8_doDeed_54 rfl ?_
        exact ef_v hx hb hr hlocks hM hS hf dX8_doDeed_55
      · rw [if_pos g_3] at hf
        refine lv_aload_n hx hb dX8_doDeed_34 rfl (lv_at hl 2 rfl) ?_
        obtain ⟨r8, M9, e_7, hf⟩ := cb_e hf
        refine c_Vi hx hb hml hown hts hV hK hM hS (As := []) (rest := []) (k_X7_exchangeFirstTwo G hG l a2 h2 M e_7) w_X7_exchangeFirstTwo (tk_784 hts) (c_8 h2) rfl rfl ⟨⟨rfl, rfl⟩, Nat.le_of_ble_eq_true rfl, Nat.le_of_ble_eq_true rfl⟩ ⟨Nat.zero_le _, Nat.zero_le _⟩ rfl hl.1 rfl (Nat.le_of_ble_eq_true rfl) dX8_doDeed_35 (fun H locs hM hS => ?_)
        refine lv_pop hx hb dX8_doDeed_38 rfl ?_
        refine lv_goto (tgt := 55) hx hb dX8_doDeed_39 (by decide) ?_
        exact ef_v hx hb hr hlocks hM hS hf dX8_doDeed_55
    · rw [if_pos g_2] at hf
      refine lv_aload_n hx hb dX8_doDeed_20 rfl (lv_at hl 2 rfl) ?_
      obtain ⟨r11, M12, e_10, hf⟩ := cb_e hf
      refine c_Vi hx hb hml hown hts hV hK hM hS (As := []) (rest := []) (k_X7_dropFirst G hG l a2 h2 M e_10) w_X7_dropFirst (tk_773 hts) (c_8 h2) rfl rfl ⟨⟨rfl, rfl⟩, Nat.le_of_ble_eq_true rfl, Nat.le_of_ble_eq_true rfl⟩ ⟨Nat.zero_le _, Nat.zero_le _⟩ rfl hl.1 rfl (Nat.le_of_ble_eq_true rfl) dX8_doDeed_21 (fun H locs hM hS => ?_)
      refine lv_pop hx hb dX8_doDeed_24 rfl ?_
      refine lv_goto (tgt := 55) hx hb dX8_doDeed_25 (by decide) ?_
      exact ef_v hx hb hr hlocks hM hS hf dX8_doDeed_55
  · rw [if_pos g_1] at hf
    refine lv_aload_n hx hb dX8_doDeed_6 rfl (lv_at hl 2 rfl) ?_
    obtain ⟨r14, M15, e_13, hf⟩ := cb_e hf
    refine c_Vi hx hb hml hown hts hV hK hM hS (As := []) (rest := []) (k_X7_bringFirst G hG l a2 h2 M e_13) w_X7_bringFirst (tk_757 hts) (c_8 h2) rfl rfl ⟨⟨rfl, rfl⟩, Nat.le_of_ble_eq_true rfl, Nat.le_of_ble_eq_true rfl⟩ ⟨Nat.zero_le _, Nat.zero_le _⟩ rfl hl.1 rfl (Nat.le_of_ble_eq_true rfl) dX8_doDeed_7 (fun H locs hM hS => ?_)
    refine lv_pop hx hb dX8_doDeed_10 rfl ?_
    refine lv_goto (tgt := 55) hx hb dX8_doDeed_11 (by decide) ?_
    exact ef_v hx hb hr hlocks hM hS hf dX8_doDeed_55
def f_X8_talk_b114 (a0 : Nat) (x1 : Int32) (M : Mem) : Option (Nat × Int32 × Mem) := vb (f_X6_clear (a0 + 274) M) fun M2 => some (0, x1, M2)
def f_X8_talk_b35 (a0 : Nat) : Nat → Int32 → Int32 → Mem → Option (Nat × Int32 × Mem)
  | 0, _, _, _ => none
  | n + 1, x1, x2, M => if (mI M (a0 + 274) 1) ≤ x2 then (f_X8_talk_b114 a0 x1 M) else (cb (f_X6_readDeed (a0 + 274) M) fun r5 M6 => if r5 = 0 then (f_X8_talk_b114 a0 x1 M6) else (xb 0 (f_X8_voiceOf a0 (mI M6 (a0 + 274) 5) M6) fun r9 M10 => vb (f_X8_canDo a0 (mI M10 (a0 + 274) 4) r9 M10) fun r12 => if r12 = 0 then (f_X8_talk_b114 a0 x1 M10) else (vb (f_X8_doDeed a0 (mI M10 (a0 + 274) 4) r9 (mI M10 (a0 + 274) 6) M10) fun M15 => nb (x1 + 1) fun y16 => nb (x2 + 1) fun y17 => f_X8_talk_b35 a0 n y16 y17 M15)))
def f_X8_talk (a0 : Nat) (M : Mem) : Option (Nat × Int32 × Mem) := cb (f_X6_isComplete (a0 + 274) M) fun r19 M20 => if r19 = 0 then (some (2, 0, M20)) else (vb (f_X8_saveLive a0 M20) fun M23 => vb (f_X6_startReading (a0 + 274) M23) fun M25 => f_X8_talk_b35 a0 lfuel 0 0 M25)
set_option maxHeartbeats 4000000 in
set_option maxRecDepth 100000 in
theorem k_X8_talk (G : Gt) (hG : gOK G) (l : Launch) (a0 : Nat) (h0 : gK G a0 = 9) (M : Mem) {r : Int32} {M' : Mem} (hf : f_X8_talk a0 M = some (0, r, M')) : Kc G l yX8_talk cX8_talk 4 (some .int) ({ frames := 7, cells := 0, slots := 0, locals := 136 } : Room) [.ref a0] M (some (.int r)) M' := by
  refine start (by decide) (Nat.le_of_ble_eq_true rfl) ?_
  intro p e s m args below meth c ls hx hb hr hown hml hlocks hts hV hM hl
  have hown : s.vm.findClass "FoldedVoices" = some m.cls := hown
  have hK := hG.1.moved hV
  have hS : va_S (gA G) s.heap s.heap [] := va_S.rf
  have hl : lv_has ls 4 [(0, .ref a0)] := hl
  have hM0 := hM
  have b114 : ∀ (x1 : Int32) (M : Mem) (H : Heap) (locs : List Loc) (ls : Array Slot), Mh G M H → va_S (gA G) s.heap H locs → lv_has ls 4 [(0, .ref a0), (1, .int x1)] → f_X8_talk_b114 a0 x1 M = some (0, r, M') → W p l e ({ frames := 7, cells := 0, slots := 0, locals := 136 } : Room) s m args below meth c H locs 0 0 (MQ below (QV G (some (.int r)) M') args s 0 0 (gA G)) (F0 m 114 ls []) := by
    intro x1 M H locs ls hM hS hl hf
    rw [f_X8_talk_b114] at hf
    refine lv_aload_n hx hb dX8_talk_114 rfl (lv_at hl 0 rfl) ?_
    refine s_get hx hb (lay_8 hts) hown hK hM (c_9 h0) rfl 5 (by decide) rfl rfl (tk_285 hts) dX8_talk_115 ?_
    obtain ⟨M2, e_1, hf⟩ := vb_e hf
    refine c_Vv hx hb hml hown hts hV hK hM hS (As := []) (rest := []) (k_X6_clear G hG l (a0 + 274) (ky_9_5 hG h0) M e_1) w_X6_clear (tk_309 hts) (c_7 (ky_9_5 hG h0)) rfl rfl ⟨⟨rfl, rfl⟩, Nat.le_of_ble_eq_true rfl, Nat.le_of_ble_eq_true rfl⟩ ⟨Nat.zero_le _, Nat.zero_le _⟩ rfl hl.1 rfl (Nat.le_of_ble_eq_true rfl) dX8_talk_118 (fun H locs hM hS => ?_)
    refine lv_iload_n hx hb dX8_talk_121 rfl (lv_at hl 1 rfl) ?_
    exact ef_ix hx hb hr hlocks hM hS hf dX8_talk_122
  have b35 : ∀ (n : Nat), ∀ (x1 : Int32) (x2 : Int32) (M : Mem) (H : Heap) (locs : List Loc) (ls : Array Slot), Mh G M H → va_S (gA G) s.heap H locs → lv_has ls 4 [(0, .ref a0), (1, .int x1), (2, .int x2)] → f_X8_talk_b35 a0 n x1 x2 M = some (0, r, M') → W p l e ({ frames := 7, cells := 0, slots := 0, locals := 136 } : Room) s m args below meth c H locs 0 0 (MQ below (QV G (some (.int r)) M') args s 0 0 (gA G)) (F0 m 35 ls []) := by
    intro n
    induction n with
    | zero =>
      intro x1 x2 M H locs ls hM hS hl hf
      rw [f_X8_talk_b35] at hf
      cases hf
    | succ n ih =>
      intro x1 x2 M H locs ls hM hS hl hf
      rw [f_X8_talk_b35] at hf
      refine lv_iload_n hx hb dX8_talk_35 rfl (lv_at hl 2 rfl) ?_
      refine lv_aload_n hx hb dX8_talk_36 rfl (lv_at hl 0 rfl) ?_
      refine s_get hx hb (lay_8 hts) hown hK hM (c_9 h0) rfl 5 (by decide) rfl rfl (tk_285 hts) dX8_talk_37 ?_
      refine s_getN hx hb (lay_6 hts) hown hK hM (c_7 (ky_9_5 hG h0)) rfl 1 (by decide) rfl rfl (tk_251 hts) dX8_talk_40 ?_
      refine lv_icmp_ge (tgt := 114) hx hb dX8_talk_43 (by decide) (fun g_3 => ?_) (fun g_3 => ?_)
      · rw [if_pos g_3] at hf
        exact b114 x1 _ H locs ls hM hS (lv_sub hl [0, 1] rfl) hf
      · rw [if_neg g_3] at hf
        refine lv_aload_n hx hb dX8_talk_46 rfl (lv_at hl 0 rfl) ?_
        refine s_get hx hb (lay_8 hts) hown hK hM (c_9 h0) rfl 5 (by decide) rfl rfl (tk_285 hts) dX8_talk_47 ?_
        obtain ⟨r5, M6, e_4, hf⟩ := cb_e hf
        refine c_Vi hx hb hml hown hts hV hK hM hS (As := []) (rest := []) (k_X6_readDeed G hG l (a0 + 274) (ky_9_5 hG h0) M e_4) w_X6_readDeed (tk_845 hts) (c_7 (ky_9_5 hG h0)) rfl rfl ⟨⟨rfl, rfl⟩, Nat.le_of_ble_eq_true rfl, Nat.le_of_ble_eq_true rfl⟩ ⟨Nat.zero_le _, Nat.zero_le _⟩ rfl hl.1 rfl (Nat.le_of_ble_eq_true rfl) dX8_talk_50 (fun H locs hM hS => ?_)
        refine lv_if_eq (tgt := 114) hx hb dX8_talk_53 (by decide) (fun g_7 => ?_) (fun g_7 => ?_)
        · rw [if_pos g_7] at hf
          exact b114 x1 _ H locs ls hM hS (lv_sub hl [0, 1] rfl) hf
        · rw [if_neg g_7] at hf
          refine lv_aload_n hx hb dX8_talk_56 rfl (lv_at hl 0 rfl) ?_
          refine lv_aload_n hx hb dX8_talk_57 rfl (lv_at hl 0 rfl) ?_
          refine s_get hx hb (lay_8 hts) hown hK hM (c_9 h0) rfl 5 (by decide) rfl rfl (tk_285 hts) dX8_talk_58 ?_
          refine s_getN hx hb (lay_6 hts) hown hK hM (c_7 (ky_9_5 hG h0)) rfl 5 (by decide) rfl rfl (tk_256 hts) dX8_talk_61 ?_
          obtain ⟨r9, M10, e_8, hf⟩ := xb_r hf
          refine c_Vr hx hb hml hown hts hV hK hM hS (As := [.int (mI M6 (a0 + 274) 5)]) (rest := []) (k_X8_voiceOf G hG l a0 h0 (mI M6 (a0 + 274) 5) M6 e_8) w_X8_voiceOf (tk_572 hts) (c_9 h0) rfl rfl ⟨⟨rfl, rfl⟩, Nat.le_of_ble_eq_true rfl, Nat.le_of_ble_eq_true rfl⟩ ⟨Nat.zero_le _, Nat.zero_le _⟩ rfl hl.1 rfl (Nat.le_of_ble_eq_true rfl) dX8_talk_64 (fun H locs hM hS => ?_)
          have h_r9 := kr_X8_voiceOf hG a0 h0 (mI M6 (a0 + 274) 5) e_8
          refine lv_astore_n (lv' := [(3, .ref r9), (0, .ref a0), (1, .int x1), (2, .int x2)]) hx hb dX8_talk_67 rfl hl (by decide) rfl (fun ls hl => ?_)
          refine lv_aload_n hx hb dX8_talk_68 rfl (lv_at hl 1 rfl) ?_
          refine lv_aload_n hx hb dX8_talk_69 rfl (lv_at hl 1 rfl) ?_
          refine s_get hx hb (lay_8 hts) hown hK hM (c_9 h0) rfl 5 (by decide) rfl rfl (tk_285 hts) dX8_talk_70 ?_
          refine s_getN hx hb (lay_6 hts) hown hK hM (c_7 (ky_9_5 hG h0)) rfl 4 (by decide) rfl rfl (tk_254 hts) dX8_talk_73 ?_
          refine lv_aload_n hx hb dX8_talk_76 rfl (lv_at hl 0 rfl) ?_
          obtain ⟨r12, e_11, hf⟩ := vb_e hf
          refine c_Vi hx hb hml hown hts hV hK hM hS (As := [.int (mI M10 (a0 + 274) 4), .ref r9]) (rest := []) (k_X8_canDo G hG l a0 h0 (mI M10 (a0 + 274) 4) r9 h_r9 M10 e_11) w_X8_canDo (tk_853 hts) (c_9 h0) rfl rfl ⟨⟨rfl, rfl⟩, Nat.le_of_ble_eq_true rfl, Nat.le_of_ble_eq_true rfl⟩ ⟨Nat.zero_le _, Nat.zero_le _⟩ rfl hl.1 rfl (Nat.le_of_ble_eq_true rfl) dX8_talk_77 (fun H locs hM hS => ?_)
          refine lv_if_ne (tgt := 86) hx hb dX8_talk_80 (by decide) (fun g_13 => ?_) (fun g_13 => ?_)
          · rw [if_neg g_13] at hf
            refine lv_aload_n hx hb dX8_talk_86 rfl (lv_at hl 1 rfl) ?_
            refine lv_aload_n hx hb dX8_talk_87 rfl (lv_at hl 1 rfl) ?_
            refine s_get hx hb (lay_8 hts) hown hK hM (c_9 h0) rfl 5 (by decide) rfl rfl (tk_285 hts) dX8_talk_88 ?_
            refine s_getN hx hb (lay_6 hts) hown hK hM (c_7 (ky_9_5 hG h0)) rfl 4 (by decide) rfl rfl (tk_254 hts) dX8_talk_91 ?_
            refine lv_aload_n hx hb dX8_talk_94 rfl (lv_at hl 0 rfl) ?_
            refine lv_aload_n hx hb dX8_talk_95 rfl (lv_at hl 1 rfl) ?_
            refine s_get hx hb (lay_8 hts) hown hK hM (c_9 h0) rfl 5 (by decide) rfl rfl (tk_285 hts) dX8_talk_96 ?_
            refine s_getN hx hb (lay_6 hts) hown hK hM (c_7 (ky_9_5 hG h0)) rfl 6 (by decide) rfl rfl (tk_258 hts) dX8_talk_99 ?_
            obtain ⟨M15, e_14, hf⟩ := vb_e hf
            refine c_Vv hx hb hml hown hts hV hK hM hS (As := [.int (mI M10 (a0 + 274) 4), .ref r9, .int (mI M10 (a0 + 274) 6)]) (rest := []) (k_X8_doDeed G hG l a0 h0 (mI M10 (a0 + 274) 4) r9 h_r9 (mI M10 (a0 + 274) 6) M10 e_14) w_X8_doDeed (tk_857 hts) (c_9 h0) rfl rfl ⟨⟨rfl, rfl⟩, Nat.le_of_ble_eq_true rfl, Nat.le_of_ble_eq_true rfl⟩ ⟨Nat.zero_le _, Nat.zero_le _⟩ rfl hl.1 rfl (Nat.le_of_ble_eq_true rfl) dX8_talk_102 (fun H locs hM hS => ?_)
            obtain ⟨y16, ey16, hf⟩ := nb_e hf
            refine lv_iinc (v := y16) (lv' := [(1, .int y16), (3, .ref r9), (0, .ref a0), (2, .int x2)]) hx hb dX8_talk_105 hl (k := 2) rfl (by rw [← ey16]; rfl) (by decide) rfl (fun ls hl => ?_)
            obtain ⟨y17, ey17, hf⟩ := nb_e hf
            refine lv_iinc (v := y17) (lv' := [(2, .int y17), (1, .int y16), (3, .ref r9), (0, .ref a0)]) hx hb dX8_talk_108 hl (k := 3) rfl (by rw [← ey17]; rfl) (by decide) rfl (fun ls hl => ?_)
            refine lv_goto (tgt := 35) hx hb dX8_talk_111 (by decide) ?_
            exact ih y16 y17 _ H locs ls hM hS (lv_sub hl [3, 1, 0] rfl) hf
          · rw [if_pos g_13] at hf
            refine lv_goto (tgt := 114) hx hb dX8_talk_83 (by decide) ?_
            exact b114 x1 _ H locs ls hM hS (lv_sub hl [1, 2] rfl) hf
  rw [f_X8_talk] at hf
  obtain ⟨H, hHe⟩ : ∃ H, H = s.heap := ⟨_, rfl⟩
  obtain ⟨locs, hLe⟩ : ∃ L : List Loc, L = [] := ⟨_, rfl⟩
  rw [← hHe] at hM
  have hS : va_S (gA G) s.heap H locs := by rw [hHe, hLe]; exact va_S.rf
  suffices hW : W p l e ({ frames := 7, cells := 0, slots := 0, locals := 136 } : Room) s m args below meth c H locs 0 0 (MQ below (QV G (some (.int r)) M') args s 0 0 (gA G)) (F0 m 0 ls []) by rw [hHe, hLe] at hW; exact hW
  refine lv_aload_n hx hb dX8_talk_0 rfl (lv_at hl 0 rfl) ?_
  refine s_get hx hb (lay_8 hts) hown hK hM (c_9 h0) rfl 5 (by decide) rfl rfl (tk_285 hts) dX8_talk_1 ?_
  obtain ⟨r19, M20, e_18, hf⟩ := cb_e hf
  refine c_Vi hx hb hml hown hts hV hK hM hS (As := []) (rest := []) (k_X6_isComplete G hG l (a0 + 274) (ky_9_5 hG h0) M e_18) w_X6_isComplete (tk_835 hts) (c_7 (ky_9_5 hG h0)) rfl rfl ⟨⟨rfl, rfl⟩, Nat.le_of_ble_eq_true rfl, Nat.le_of_ble_eq_true rfl⟩ ⟨Nat.zero_le _, Nat.zero_le _⟩ rfl hl.1 rfl (Nat.le_of_ble_eq_true rfl) dX8_talk_4 (fun H locs hM hS => ?_)
  refine lv_if_ne (tgt := 20) hx hb dX8_talk_7 (by decide) (fun g_21 => ?_) (fun g_21 => ?_)
  · rw [if_neg g_21] at hf
    refine lv_aload_n hx hb dX8_talk_20 rfl (lv_at hl 0 rfl) ?_
    obtain ⟨M23, e_22, hf⟩ := vb_e hf
    refine c_Vv hx hb hml hown hts hV hK hM hS (As := []) (rest := []) (k_X8_saveLive G hG l a0 h0 M20 e_22) w_X8_saveLive (tk_692 hts) (c_9 h0) rfl rfl ⟨⟨rfl, rfl⟩, Nat.le_of_ble_eq_true rfl, Nat.le_of_ble_eq_true rfl⟩ ⟨Nat.zero_le _, Nat.zero_le _⟩ rfl hl.1 rfl (Nat.le_of_ble_eq_true rfl) dX8_talk_21 (fun H locs hM hS => ?_)
    refine lv_aload_n hx hb dX8_talk_24 rfl (lv_at hl 0 rfl) ?_
    refine s_get hx hb (lay_8 hts) hown hK hM (c_9 h0) rfl 5 (by decide) rfl rfl (tk_285 hts) dX8_talk_25 ?_
    obtain ⟨M25, e_24, hf⟩ := vb_e hf
    refine c_Vv hx hb hml hown hts hV hK hM hS (As := []) (rest := []) (k_X6_startReading G hG l (a0 + 274) (ky_9_5 hG h0) M23 e_24) w_X6_startReading (tk_841 hts) (c_7 (ky_9_5 hG h0)) rfl rfl ⟨⟨rfl, rfl⟩, Nat.le_of_ble_eq_true rfl, Nat.le_of_ble_eq_true rfl⟩ ⟨Nat.zero_le _, Nat.zero_le _⟩ rfl hl.1 rfl (Nat.le_of_ble_eq_true rfl) dX8_talk_28 (fun H locs hM hS => ?_)
    refine lv_iconst (v := 0) hx hb dX8_talk_31 (by decide) ?_
    refine lv_istore_n (lv' := [(1, .int 0), (0, .ref a0)]) hx hb dX8_talk_32 rfl hl (by decide) rfl (fun ls hl => ?_)
    refine lv_iconst (v := 0) hx hb dX8_talk_33 (by decide) ?_
    refine lv_istore_n (lv' := [(2, .int 0), (1, .int 0), (0, .ref a0)]) hx hb dX8_talk_34 rfl hl (by decide) rfl (fun ls hl => ?_)
    exact b35 _ 0 0 _ H locs ls hM hS (lv_sub hl [2, 1, 0] rfl) hf
  · rw [if_pos g_21] at hf
    exact (xf_no2 hf (by decide)).elim
set_option maxHeartbeats 4000000 in
set_option maxRecDepth 100000 in
theorem x_X8_talk (G : Gt) (hG : gOK G) (l : Launch) (hfl : l.stackTraces = false) (a0 : Nat) (h0 : gK G a0 = 9) (M : Mem) {j : Nat} {r : Int32} {M' : Mem} (hj : j ≠ 0) (hf : f_X8_talk a0 M = some (j, r, M')) : Kt G l yX8_talk cX8_talk 4 (some .int) ({ frames := 7, cells := 1, slots := 6, locals := 136 } : Room) [.ref a0] M j M' := by
  refine startT (by decide) (Nat.le_of_ble_eq_true rfl) ?_
  intro p e s m args below meth c ls hx hb hr hown hml hlocks hts hV hM hl ht
  have hown : s.vm.findClass "FoldedVoices" = some m.cls := hown
  have hK := hG.1.moved hV
  have hS : va_S (gA G) s.heap s.heap [] := va_S.rf
  have hl : lv_has ls 4 [(0, .ref a0)] := hl
  have hM0 := hM
  have hT0 := gTh_at hG.2.2.2.2.2 hV hM
  have b114 : ∀ (x1 : Int32) (M : Mem) (H : Heap) (locs : List Loc) (ls : Array Slot), Mh G M H → va_S (gA G) s.heap H locs → lv_has ls 4 [(0, .ref a0), (1, .int x1)] → f_X8_talk_b114 a0 x1 M = some (j, r, M') → W p l e ({ frames := 7, cells := 1, slots := 6, locals := 136 } : Room) s m args below meth c H locs 0 0 (vx_MQ below (fun _ _ _ _ => False) (XT G j M') args s 1 6 (gA G)) (F0 m 114 ls []) := by
    intro x1 M H locs ls hM hS hl hf
    rw [f_X8_talk_b114] at hf
    refine lv_aload_n hx hb dX8_talk_114 rfl (lv_at hl 0 rfl) ?_
    refine s_get hx hb (lay_8 hts) hown hK hM (c_9 h0) rfl 5 (by decide) rfl rfl (tk_285 hts) dX8_talk_115 ?_
    obtain ⟨M2, e_1, hf⟩ := vb_e hf
    refine c_Vv hx hb hml hown hts hV hK hM hS (As := []) (rest := []) (k_X6_clear G hG l (a0 + 274) (ky_9_5 hG h0) M e_1) w_X6_clear (tk_309 hts) (c_7 (ky_9_5 hG h0)) rfl rfl ⟨⟨rfl, rfl⟩, Nat.le_of_ble_eq_true rfl, Nat.le_of_ble_eq_true rfl⟩ ⟨Nat.zero_le _, Nat.zero_le _⟩ rfl hl.1 rfl (Nat.le_of_ble_eq_true rfl) dX8_talk_118 (fun H locs hM hS => ?_)
    refine lv_iload_n hx hb dX8_talk_121 rfl (lv_at hl 1 rfl) ?_
    exact (xf_no hf hj).elim
  have b35 : ∀ (n : Nat), ∀ (x1 : Int32) (x2 : Int32) (M : Mem) (H : Heap) (locs : List Loc) (ls : Array Slot), Mh G M H → va_S (gA G) s.heap H locs → lv_has ls 4 [(0, .ref a0), (1, .int x1), (2, .int x2)] → f_X8_talk_b35 a0 n x1 x2 M = some (j, r, M') → W p l e ({ frames := 7, cells := 1, slots := 6, locals := 136 } : Room) s m args below meth c H locs 0 0 (vx_MQ below (fun _ _ _ _ => False) (XT G j M') args s 1 6 (gA G)) (F0 m 35 ls []) := by
    intro n
    induction n with
    | zero =>
      intro x1 x2 M H locs ls hM hS hl hf
      rw [f_X8_talk_b35] at hf
      cases hf
    | succ n ih =>
      intro x1 x2 M H locs ls hM hS hl hf
      rw [f_X8_talk_b35] at hf
      refine lv_iload_n hx hb dX8_talk_35 rfl (lv_at hl 2 rfl) ?_
      refine lv_aload_n hx hb dX8_talk_36 rfl (lv_at hl 0 rfl) ?_
      refine s_get hx hb (lay_8 hts) hown hK hM (c_9 h0) rfl 5 (by decide) rfl rfl (tk_285 hts) dX8_talk_37 ?_
      refine s_getN hx hb (lay_6 hts) hown hK hM (c_7 (ky_9_5 hG h0)) rfl 1 (by decide) rfl rfl (tk_251 hts) dX8_talk_40 ?_
      refine lv_icmp_ge (tgt := 114) hx hb dX8_talk_43 (by decide) (fun g_3 => ?_) (fun g_3 => ?_)
      · rw [if_pos g_3] at hf
        exact b114 x1 _ H locs ls hM hS (lv_sub hl [0, 1] rfl) hf
      · rw [if_neg g_3] at hf
        refine lv_aload_n hx hb dX8_talk_46 rfl (lv_at hl 0 rfl) ?_
        refine s_get hx hb (lay_8 hts) hown hK hM (c_9 h0) rfl 5 (by decide) rfl rfl (tk_285 hts) dX8_talk_47 ?_
        obtain ⟨r5, M6, e_4, hf⟩ := cb_e hf
        refine c_Vi hx hb hml hown hts hV hK hM hS (As := []) (rest := []) (k_X6_readDeed G hG l (a0 + 274) (ky_9_5 hG h0) M e_4) w_X6_readDeed (tk_845 hts) (c_7 (ky_9_5 hG h0)) rfl rfl ⟨⟨rfl, rfl⟩, Nat.le_of_ble_eq_true rfl, Nat.le_of_ble_eq_true rfl⟩ ⟨Nat.zero_le _, Nat.zero_le _⟩ rfl hl.1 rfl (Nat.le_of_ble_eq_true rfl) dX8_talk_50 (fun H locs hM hS => ?_)
        refine lv_if_eq (tgt := 114) hx hb dX8_talk_53 (by decide) (fun g_7 => ?_) (fun g_7 => ?_)
        · rw [if_pos g_7] at hf
          exact b114 x1 _ H locs ls hM hS (lv_sub hl [0, 1] rfl) hf
        · rw [if_neg g_7] at hf
          refine lv_aload_n hx hb dX8_talk_56 rfl (lv_at hl 0 rfl) ?_
          refine lv_aload_n hx hb dX8_talk_57 rfl (lv_at hl 0 rfl) ?_
          refine s_get hx hb (lay_8 hts) hown hK hM (c_9 h0) rfl 5 (by decide) rfl rfl (tk_285 hts) dX8_talk_58 ?_
          refine s_getN hx hb (lay_6 hts) hown hK hM (c_7 (ky_9_5 hG h0)) rfl 5 (by decide) rfl rfl (tk_256 hts) dX8_talk_61 ?_
          rcases xb_t hj hf with ⟨r9, e_8⟩ | ⟨r9, M10, e_8, hf⟩
          · exact c_Vt hx hb hml hown hlocks ht hts hV hK hM hS (As := [.int (mI M6 (a0 + 274) 5)]) (rest := []) (x_X8_voiceOf G hG l hfl a0 h0 (mI M6 (a0 + 274) 5) M6 hj e_8) w_X8_voiceOf (tk_572 hts) (c_9 h0) rfl rfl ⟨⟨rfl, rfl⟩, Nat.le_of_ble_eq_true rfl, Nat.le_of_ble_eq_true rfl⟩ ⟨Nat.le_of_ble_eq_true rfl, Nat.le_of_ble_eq_true rfl⟩ rfl hl.1 rfl (Nat.le_of_ble_eq_true rfl) dX8_talk_64
          refine c_Vr hx hb hml hown hts hV hK hM hS (As := [.int (mI M6 (a0 + 274) 5)]) (rest := []) (k_X8_voiceOf G hG l a0 h0 (mI M6 (a0 + 274) 5) M6 e_8) w_X8_voiceOf (tk_572 hts) (c_9 h0) rfl rfl ⟨⟨rfl, rfl⟩, Nat.le_of_ble_eq_true rfl, Nat.le_of_ble_eq_true rfl⟩ ⟨Nat.zero_le _, Nat.zero_le _⟩ rfl hl.1 rfl (Nat.le_of_ble_eq_true rfl) dX8_talk_64 (fun H locs hM hS => ?_)
          have h_r9 := kr_X8_voiceOf hG a0 h0 (mI M6 (a0 + 274) 5) e_8
          refine lv_astore_n (lv' := [(3, .ref r9), (0, .ref a0), (1, .int x1), (2, .int x2)]) hx hb dX8_talk_67 rfl hl (by decide) rfl (fun ls hl => ?_)
          refine lv_aload_n hx hb dX8_talk_68 rfl (lv_at hl 1 rfl) ?_
          refine lv_aload_n hx hb dX8_talk_69 rfl (lv_at hl 1 rfl) ?_
          refine s_get hx hb (lay_8 hts) hown hK hM (c_9 h0) rfl 5 (by decide) rfl rfl (tk_285 hts) dX8_talk_70 ?_
          refine s_getN hx hb (lay_6 hts) hown hK hM (c_7 (ky_9_5 hG h0)) rfl 4 (by decide) rfl rfl (tk_254 hts) dX8_talk_73 ?_
          refine lv_aload_n hx hb dX8_talk_76 rfl (lv_at hl 0 rfl) ?_
          obtain ⟨r12, e_11, hf⟩ := vb_e hf
          refine c_Vi hx hb hml hown hts hV hK hM hS (As := [.int (mI M10 (a0 + 274) 4), .ref r9]) (rest := []) (k_X8_canDo G hG l a0 h0 (mI M10 (a0 + 274) 4) r9 h_r9 M10 e_11) w_X8_canDo (tk_853 hts) (c_9 h0) rfl rfl ⟨⟨rfl, rfl⟩, Nat.le_of_ble_eq_true rfl, Nat.le_of_ble_eq_true rfl⟩ ⟨Nat.zero_le _, Nat.zero_le _⟩ rfl hl.1 rfl (Nat.le_of_ble_eq_true rfl) dX8_talk_77 (fun H locs hM hS => ?_)
          refine lv_if_ne (tgt := 86) hx hb dX8_talk_80 (by decide) (fun g_13 => ?_) (fun g_13 => ?_)
          · rw [if_neg g_13] at hf
            refine lv_aload_n hx hb dX8_talk_86 rfl (lv_at hl 1 rfl) ?_
            refine lv_aload_n hx hb dX8_talk_87 rfl (lv_at hl 1 rfl) ?_
            refine s_get hx hb (lay_8 hts) hown hK hM (c_9 h0) rfl 5 (by decide) rfl rfl (tk_285 hts) dX8_talk_88 ?_
            refine s_getN hx hb (lay_6 hts) hown hK hM (c_7 (ky_9_5 hG h0)) rfl 4 (by decide) rfl rfl (tk_254 hts) dX8_talk_91 ?_
            refine lv_aload_n hx hb dX8_talk_94 rfl (lv_at hl 0 rfl) ?_
            refine lv_aload_n hx hb dX8_talk_95 rfl (lv_at hl 1 rfl) ?_
            refine s_get hx hb (lay_8 hts) hown hK hM (c_9 h0) rfl 5 (by decide) rfl rfl (tk_285 hts) dX8_talk_96 ?_
            refine s_getN hx hb (lay_6 hts) hown hK hM (c_7 (ky_9_5 hG h0)) rfl 6 (by decide) rfl rfl (tk_258 hts) dX8_talk_99 ?_
            obtain ⟨M15, e_14, hf⟩ := vb_e hf
            refine c_Vv hx hb hml hown hts hV hK hM hS (As := [.int (mI M10 (a0 + 274) 4), .ref r9, .int (mI M10 (a0 + 274) 6)]) (rest := []) (k_X8_doDeed G hG l a0 h0 (mI M10 (a0 + 274) 4) r9 h_r9 (mI M10 (a0 + 274) 6) M10 e_14) w_X8_doDeed (tk_857 hts) (c_9 h0) rfl rfl ⟨⟨rfl, rfl⟩, Nat.le_of_ble_eq_true rfl, Nat.le_of_ble_eq_true rfl⟩ ⟨Nat.zero_le _, Nat.zero_le _⟩ rfl hl.1 rfl (Nat.le_of_ble_eq_true rfl) dX8_talk_102 (fun H locs hM hS => ?_)
            obtain ⟨y16, ey16, hf⟩ := nb_e hf
            refine lv_iinc (v := y16) (lv' := [(1, .int y16), (3, .ref r9), (0, .ref a0), (2, .int x2)]) hx hb dX8_talk_105 hl (k := 2) rfl (by rw [← ey16]; rfl) (by decide) rfl (fun ls hl => ?_)
            obtain ⟨y17, ey17, hf⟩ := nb_e hf
            refine lv_iinc (v := y17) (lv' := [(2, .int y17), (1, .int y16), (3, .ref r9), (0, .ref a0)]) hx hb dX8_talk_108 hl (k := 3) rfl (by rw [← ey17]; rfl) (by decide) rfl (fun ls hl => ?_)
            refine lv_goto (tgt := 35) hx hb dX8_talk_111 (by decide) ?_
            exact ih y16 y17 _ H locs ls hM hS (lv_sub hl [3, 1, 0] rfl) hf
          · rw [if_pos g_13] at hf
            refine lv_goto (tgt := 114) hx hb dX8_talk_83 (by decide) ?_
            exact b114 x1 _ H locs ls hM hS (lv_sub hl [1, 2] rfl) hf
  rw [f_X8_talk] at hf
  obtain ⟨H, hHe⟩ : ∃ H, H = s.heap := ⟨_, rfl⟩
  obtain ⟨locs, hLe⟩ : ∃ L : List Loc, L = [] := ⟨_, rfl⟩
  rw [← hHe] at hM
  have hS : va_S (gA G) s.heap H locs := by rw [hHe, hLe]; exact va_S.rf
  suffices hW : W p l e ({ frames := 7, cells := 1, slots := 6, locals := 136 } : Room) s m args below meth c H locs 0 0 (vx_MQ below (fun _ _ _ _ => False) (XT G j M') args s 1 6 (gA G)) (F0 m 0 ls []) by rw [hHe, hLe] at hW; exact hW
  refine lv_aload_n hx hb dX8_talk_0 rfl (lv_at hl 0 rfl) ?_
  refine s_get hx hb (lay_8 hts) hown hK hM (c_9 h0) rfl 5 (by decide) rfl rfl (tk_285 hts) dX8_talk_1 ?_
  obtain ⟨r19, M20, e_18, hf⟩ := cb_e hf
  refine c_Vi hx hb hml hown hts hV hK hM hS (As := []) (rest := []) (k_X6_isComplete G hG l (a0 + 274) (ky_9_5 hG h0) M e_18) w_X6_isComplete (tk_835 hts) (c_7 (ky_9_5 hG h0)) rfl rfl ⟨⟨rfl, rfl⟩, Nat.le_of_ble_eq_true rfl, Nat.le_of_ble_eq_true rfl⟩ ⟨Nat.zero_le _, Nat.zero_le _⟩ rfl hl.1 rfl (Nat.le_of_ble_eq_true rfl) dX8_talk_4 (fun H locs hM hS => ?_)
  refine lv_if_ne (tgt := 20) hx hb dX8_talk_7 (by decide) (fun g_21 => ?_) (fun g_21 => ?_)
  · rw [if_neg g_21] at hf
    refine lv_aload_n hx hb dX8_talk_20 rfl (lv_at hl 0 rfl) ?_
    obtain ⟨M23, e_22, hf⟩ := vb_e hf
    refine c_Vv hx hb hml hown hts hV hK hM hS (As := []) (rest := []) (k_X8_saveLive G hG l a0 h0 M20 e_22) w_X8_saveLive (tk_692 hts) (c_9 h0) rfl rfl ⟨⟨rfl, rfl⟩, Nat.le_of_ble_eq_true rfl, Nat.le_of_ble_eq_true rfl⟩ ⟨Nat.zero_le _, Nat.zero_le _⟩ rfl hl.1 rfl (Nat.le_of_ble_eq_true rfl) dX8_talk_21 (fun H locs hM hS => ?_)
    refine lv_aload_n hx hb dX8_talk_24 rfl (lv_at hl 0 rfl) ?_
    refine s_get hx hb (lay_8 hts) hown hK hM (c_9 h0) rfl 5 (by decide) rfl rfl (tk_285 hts) dX8_talk_25 ?_
    obtain ⟨M25, e_24, hf⟩ := vb_e hf
    refine c_Vv hx hb hml hown hts hV hK hM hS (As := []) (rest := []) (k_X6_startReading G hG l (a0 + 274) (ky_9_5 hG h0) M23 e_24) w_X6_startReading (tk_841 hts) (c_7 (ky_9_5 hG h0)) rfl rfl ⟨⟨rfl, rfl⟩, Nat.le_of_ble_eq_true rfl, Nat.le_of_ble_eq_true rfl⟩ ⟨Nat.zero_le _, Nat.zero_le _⟩ rfl hl.1 rfl (Nat.le_of_ble_eq_true rfl) dX8_talk_28 (fun H locs hM hS => ?_)
    refine lv_iconst (v := 0) hx hb dX8_talk_31 (by decide) ?_
    refine lv_istore_n (lv' := [(1, .int 0), (0, .ref a0)]) hx hb dX8_talk_32 rfl hl (by decide) rfl (fun ls hl => ?_)
    refine lv_iconst (v := 0) hx hb dX8_talk_33 (by decide) ?_
    refine lv_istore_n (lv' := [(2, .int 0), (1, .int 0), (0, .ref a0)]) hx hb dX8_talk_34 rfl hl (by decide) rfl (fun ls hl => ?_)
    exact b35 _ 0 0 _ H locs ls hM hS (lv_sub hl [2, 1, 0] rfl) hf
  · rw [if_pos g_21] at hf
    exact s_throwS hx hb hfl hml hown hlocks ht hts hT0 hM hS (show exN 2 = "java/lang/IllegalArgumentException" from rfl) (by decide +kernel) (tk_647 hts) (tk_15 hts) (hts.2 (161, "the buffer is not a complete talk") (by decide +kernel)) at_129 hl.1 dX8_talk_10 dX8_talk_13 dX8_talk_14 dX8_talk_16 dX8_talk_19 ⟨Nat.le_of_ble_eq_true rfl, Nat.le_of_ble_eq_true rfl, Nat.le_of_ble_eq_true rfl, Nat.le_of_ble_eq_true rfl⟩ hf
def f_X8_sumOver_b4 (a0 : Nat) (p1 : Int32) : Nat → Int32 → Int32 → Mem → Option Int32
  | 0, _, _, _ => none
  | n + 1, x2, x3, M => if (3 : Int32) ≤ x3 then (some x2) else (gd (ix x3 3) <| nb ((a0 + 1) + 1 + 3 + 44 * x3.toNatClampNeg) fun z4 => vb (f_X7_countedAs z4 p1 M) fun r6 => nb (x2 + r6) fun y7 => nb (x3 + 1) fun y8 => f_X8_sumOver_b4 a0 p1 n y7 y8 M)
def f_X8_sumOver (a0 : Nat) (p1 : Int32) (M : Mem) : Option Int32 := f_X8_sumOver_b4 a0 p1 lfuel 0 0 M
set_option maxHeartbeats 4000000 in
set_option maxRecDepth 100000 in
theorem k_X8_sumOver (G : Gt) (hG : gOK G) (l : Launch) (a0 : Nat) (h0 : gK G a0 = 9) (p1 : Int32) (M : Mem) {r : Int32} (hf : f_X8_sumOver a0 p1 M = some r) : Kc G l yX8_sumOver cX8_sumOver 4 (some .int) ({ frames := 1, cells := 0, slots := 0, locals := 21 } : Room) [.ref a0, .int p1] M (some (.int r)) M := by
  refine start (by decide) (Nat.le_of_ble_eq_true rfl) ?_
  intro p e s m args below meth c ls hx hb hr hown hml hlocks hts hV hM hl
  have hown : s.vm.findClass "FoldedVoices" = some m.cls := hown
  have hK := hG.1.moved hV
  have hS : va_S (gA G) s.heap s.heap [] := va_S.rf
  have hl : lv_has ls 4 [(0, .ref a0), (1, .int p1)] := hl
  have hM0 := hM
  have b4 : ∀ (n : Nat), ∀ (x2 : Int32) (x3 : Int32) (M : Mem) (H : Heap) (locs : List Loc) (ls : Array Slot), Mh G M H → va_S (gA G) s.heap H locs → lv_has ls 4 [(0, .ref a0), (1, .int p1), (2, .int x2), (3, .int x3)] → f_X8_sumOver_b4 a0 p1 n x2 x3 M = some r → W p l e ({ frames := 1, cells := 0, slots := 0, locals := 21 } : Room) s m args below meth c H locs 0 0 (MQ below (QV G (some (.int r)) M) args s 0 0 (gA G)) (F0 m 4 ls []) := by
    intro n
    induction n with
    | zero =>
      intro x2 x3 M H locs ls hM hS hl hf
      rw [f_X8_sumOver_b4] at hf
      cases hf
    | succ n ih =>
      intro x2 x3 M H locs ls hM hS hl hf
      rw [f_X8_sumOver_b4] at hf
      refine lv_iload_n hx hb dX8_sumOver_4 rfl (lv_at hl 3 rfl) ?_
      refine lv_aload_n hx hb dX8_sumOver_5 rfl (lv_at hl 0 rfl) ?_
      refine s_get hx hb (lay_8 hts) hown hK hM (c_9 h0) rfl 0 (by decide) rfl rfl (tk_280 hts) dX8_sumOver_6 ?_
      refine s_getN hx hb (lay_5 hts) hown hK hM (c_6 (ky_9_0 hG h0)) rfl 0 (by decide) rfl rfl (tk_234 hts) dX8_sumOver_9 ?_
      refine s_alen 3 hx hb hK hM (cel_va (ky_6_0 hG (ky_9_0 hG h0))) rfl (v := 3) (show Int32.ofNat 3 = 3 from by decide) dX8_sumOver_12 ?_
      refine lv_icmp_ge (tgt := 38) hx hb dX8_sumOver_13 (by decide) (fun g_1 => ?_) (fun g_1 => ?_)
      · rw [if_pos g_1] at hf
        refine lv_iload_n hx hb dX8_sumOver_38 rfl (lv_at hl 2 rfl) ?_
        exact ef_ip hx hb hr hlocks hM hS hf dX8_sumOver_39
      · rw [if_neg g_1] at hf
        refine lv_iload_n hx hb dX8_sumOver_16 rfl (lv_at hl 2 rfl) ?_
        refine lv_aload_n hx hb dX8_sumOver_17 rfl (lv_at hl 0 rfl) ?_
        refine s_get hx hb (lay_8 hts) hown hK hM (c_9 h0) rfl 0 (by decide) rfl rfl (tk_280 hts) dX8_sumOver_18 ?_
        refine s_getN hx hb (lay_5 hts) hown hK hM (c_6 (ky_9_0 hG h0)) rfl 0 (by decide) rfl rfl (tk_234 hts) dX8_sumOver_21 ?_
        refine lv_iload_n hx hb dX8_sumOver_24 rfl (lv_at hl 3 rfl) ?_
        obtain ⟨h_2, hf⟩ := gd_e hf
        refine s_vaald hx hb hK hM (ky_vs hG (ky_6_0 hG (ky_9_0 hG h0))) (ky_6_0 hG (ky_9_0 hG h0)) h_2 dX8_sumOver_25 (fun h_3 => ?_)
        obtain ⟨z4, ez4, hf⟩ := nb_e hf
        refine s_nmr ez4 ?_
        have h_z4 : gK G z4 = 8 := ez4 ▸ h_3
        refine lv_iload_n hx hb dX8_sumOver_26 rfl (lv_at hl 1 rfl) ?_
        obtain ⟨r6, e_5, hf⟩ := vb_e hf
        refine c_Vi hx hb hml hown hts hV hK hM hS (As := [.int p1]) (rest := [.int x2]) (k_X7_countedAs G hG l z4 h_z4 p1 M e_5) w_X7_countedAs (tk_386 hts) (c_8 h_z4) rfl rfl ⟨⟨rfl, rfl⟩, Nat.le_of_ble_eq_true rfl, Nat.le_of_ble_eq_true rfl⟩ ⟨Nat.zero_le _, Nat.zero_le _⟩ rfl hl.1 rfl (Nat.le_of_ble_eq_true rfl) dX8_sumOver_27 (fun H locs hM hS => ?_)
        refine lv_iadd hx hb dX8_sumOver_30 ?_
        obtain ⟨y7, ey7, hf⟩ := nb_e hf
        refine s_nm ey7 ?_
        refine lv_istore_n (lv' := [(2, .int y7), (0, .ref a0), (1, .int p1), (3, .int x3)]) hx hb dX8_sumOver_31 rfl hl (by decide) rfl (fun ls hl => ?_)
        obtain ⟨y8, ey8, hf⟩ := nb_e hf
        refine lv_iinc (v := y8) (lv' := [(3, .int y8), (2, .int y7), (0, .ref a0), (1, .int p1)]) hx hb dX8_sumOver_32 hl (k := 3) rfl (by rw [← ey8]; rfl) (by decide) rfl (fun ls hl => ?_)
        refine lv_goto (tgt := 4) hx hb dX8_sumOver_35 (by decide) ?_
        exact ih y7 y8 _ H locs ls hM hS (lv_sub hl [2, 3, 1, 0] rfl) hf
  rw [f_X8_sumOver] at hf
  obtain ⟨H, hHe⟩ : ∃ H, H = s.heap := ⟨_, rfl⟩
  obtain ⟨locs, hLe⟩ : ∃ L : List Loc, L = [] := ⟨_, rfl⟩
  rw [← hHe] at hM
  have hS : va_S (gA G) s.heap H locs := by rw [hHe, hLe]; exact va_S.rf
  suffices hW : W p l e ({ frames := 1, cells := 0, slots := 0, locals := 21 } : Room) s m args below meth c H locs 0 0 (MQ below (QV G (some (.int r)) M) args s 0 0 (gA G)) (F0 m 0 ls []) by rw [hHe, hLe] at hW; exact hW
  refine lv_iconst (v := 0) hx hb dX8_sumOver_0 (by decide) ?_
  refine lv_istore_n (lv' := [(2, .int 0), (0, .ref a0), (1, .int p1)]) hx hb dX8_sumOver_1 rfl hl (by decide) rfl (fun ls hl => ?_)
  refine lv_iconst (v := 0) hx hb dX8_sumOver_2 (by decide) ?_
  refine lv_istore_n (lv' := [(3, .int 0), (2, .int 0), (0, .ref a0), (1, .int p1)]) hx hb dX8_sumOver_3 rfl hl (by decide) rfl (fun ls hl => ?_)
  exact b4 _ 0 0 _ H locs ls hM hS (lv_sub hl [2, 3, 1, 0] rfl) hf
def f_X8_keep (a0 : Nat) (M : Mem) : Option (Int32 × Mem) := vb (f_X5_copyFrom (a0 + 137) (a0 + 1) M) fun M2 => nb (sI M2 a0 2 1) fun M3 => vb (f_X8_sumOver a0 0 M3) fun r5 => some (r5, M3)
set_option maxHeartbeats 4000000 in
set_option maxRecDepth 100000 in
theorem k_X8_keep (G : Gt) (hG : gOK G) (l : Launch) (a0 : Nat) (h0 : gK G a0 = 9) (M : Mem) {r : Int32} {M' : Mem} (hf : f_X8_keep a0 M = some (r, M')) : Kc G l yX8_keep cX8_keep 1 (some .int) ({ frames := 5, cells := 0, slots := 0, locals := 112 } : Room) [.ref a0] M (some (.int r)) M' := by
  refine start (by decide) (Nat.le_of_ble_eq_true rfl) ?_
  intro p e s m args below meth c ls hx hb hr hown hml hlocks hts hV hM hl
  have hown : s.vm.findClass "FoldedVoices" = some m.cls := hown
  have hK := hG.1.moved hV
  have hS : va_S (gA G) s.heap s.heap [] := va_S.rf
  have hl : lv_has ls 1 [(0, .ref a0)] := hl
  have hM0 := hM
  rw [f_X8_keep] at hf
  refine lv_aload_n hx hb dX8_keep_0 rfl (lv_at hl 0 rfl) ?_
  refine s_get hx hb (lay_8 hts) hown hK hM (c_9 h0) rfl 1 (by decide) rfl rfl (tk_281 hts) dX8_keep_1 ?_
  refine lv_aload_n hx hb dX8_keep_4 rfl (lv_at hl 0 rfl) ?_
  refine s_get hx hb (lay_8 hts) hown hK hM (c_9 h0) rfl 0 (by decide) rfl rfl (tk_280 hts) dX8_keep_5 ?_
  obtain ⟨M2, e_1, hf⟩ := vb_e hf
  refine c_Vv hx hb hml hown hts hV hK hM hS (As := [.ref (a0 + 1)]) (rest := []) (k_X5_copyFrom G hG l (a0 + 137) (ky_9_1 hG h0) (a0 + 1) (ky_9_0 hG h0) M e_1) w_X5_copyFrom (tk_347 hts) (c_6 (ky_9_1 hG h0)) rfl rfl ⟨⟨rfl, rfl⟩, Nat.le_of_ble_eq_true rfl, Nat.le_of_ble_eq_true rfl⟩ ⟨Nat.zero_le _, Nat.zero_le _⟩ rfl hl.1 rfl (Nat.le_of_ble_eq_true rfl) dX8_keep_8 (fun H locs hM hS => ?_)
  refine lv_aload_n hx hb dX8_keep_11 rfl (lv_at hl 0 rfl) ?_
  refine lv_iconst (v := 1) hx hb dX8_keep_12 (by decide) ?_
  obtain ⟨M3, eM3, hf⟩ := nb_e hf
  refine s_put tyX8 hx hb (lay_8 hts) tyX8_ok nmX8 hown hK hM hS (ky_b hG h0) (c_9 h0) rfl 2 (by decide) rfl (nz_n (Or.inr rfl)) (nz_f (Or.inr rfl)) (Nat.le_of_ble_eq_true rfl) (cp_8_2 h0) (fun _ h9 => cel_sI _ h9) hM.2.2.sI rfl (tk_282 hts) dX8_keep_13 (fun H locs hM hS => ?_)
  rw [eM3] at hM
  refine lv_aload_n hx hb dX8_keep_16 rfl (lv_at hl 0 rfl) ?_
  refine lv_iconst (v := 0) hx hb dX8_keep_17 (by decide) ?_
  obtain ⟨r5, e_4, hf⟩ := vb_e hf
  refine c_Vi hx hb hml hown hts hV hK hM hS (As := [.int 0]) (rest := []) (k_X8_sumOver G hG l a0 h0 0 M3 e_4) w_X8_sumOver (tk_382 hts) (c_9 h0) rfl rfl ⟨⟨rfl, rfl⟩, Nat.le_of_ble_eq_true rfl, Nat.le_of_ble_eq_true rfl⟩ ⟨Nat.zero_le _, Nat.zero_le _⟩ rfl hl.1 rfl (Nat.le_of_ble_eq_true rfl) dX8_keep_18 (fun H locs hM hS => ?_)
  exact ef_im hx hb hr hlocks hM hS hf dX8_keep_21
