def f_X8_ifDelivered (a0 : Nat) (p1 : Int32) (p2 : Int32) (M : Mem) : Option (Nat × Int32 × Mem) := xb 0 (f_X8_voiceOf a0 p1 M) fun r2 M3 => xb 0 (f_X8_requireWhat p2 3 M3) fun r5 M6 => cb (f_X8_tellIfAllCame a0 r2 p2 M6) fun r8 M9 => some (0, r8, M9)
set_option maxHeartbeats 4000000 in
set_option maxRecDepth 100000 in
theorem k_X8_ifDelivered (G : Gt) (hG : gOK G) (l : Launch) (a0 : Nat) (h0 : gK G a0 = 9) (p1 : Int32) (p2 : Int32) (M : Mem) {r : Int32} {M' : Mem} (hf : f_X8_ifDelivered a0 p1 p2 M = some (0, r, M')) : Kc G l yX8_ifDelivered cX8_ifDelivered 4 (some .int) ({ frames := 7, cells := 0, slots := 0, locals := 135 } : Room) [.ref a0, .int p1, .int p2] M (some (.int r)) M' := by
  refine start (by decide) (Nat.le_of_ble_eq_true rfl) ?_
  intro p e s m args below meth c ls hx hb hr hown hml hlocks hts hV hM hl
  have hown : s.vm.findClass "FoldedVoices" = some m.cls := hown
  have hK := hG.1.moved hV
  have hS : va_S (gA G) s.heap s.heap [] := va_S.rf
  have hl : lv_has ls 4 [(0, .ref a0), (1, .int p1), (2, .int p2)] := hl
  have hM0 := hM
  rw [f_X8_ifDelivered] at hf
  refine lv_aload_n hx hb dX8_ifDelivered_0 rfl (lv_at hl 0 rfl) ?_
  refine lv_iload_n hx hb dX8_ifDelivered_1 rfl (lv_at hl 1 rfl) ?_
  obtain ⟨r2, M3, e_1, hf⟩ := xb_r hf
  refine c_Vr hx hb hml hown hts hV hK hM hS (As := [.int p1]) (rest := []) (k_X8_voiceOf G hG l a0 h0 p1 M e_1) w_X8_voiceOf (tk_572 hts) (c_9 h0) rfl rfl ⟨⟨rfl, rfl⟩, Nat.le_of_ble_eq_true rfl, Nat.le_of_ble_eq_true rfl⟩ ⟨Nat.zero_le _, Nat.zero_le _⟩ rfl hl.1 rfl (Nat.le_of_ble_eq_true rfl) dX8_ifDelivered_2 (fun H locs hM hS => ?_)
  have h_r2 := kr_X8_voiceOf hG a0 h0 p1 e_1
  refine lv_astore_n (lv' := [(3, .ref r2), (0, .ref a0), (1, .int p1), (2, .int p2)]) hx hb dX8_ifDelivered_5 rfl hl (by decide) rfl (fun ls hl => ?_)
  refine lv_iload_n hx hb dX8_ifDelivered_6 rfl (lv_at hl 3 rfl) ?_
  refine lv_iconst (v := 3) hx hb dX8_ifDelivered_7 (by decide) ?_
  obtain ⟨r5, M6, e_4, hf⟩ := xb_r hf
  refine c_Sv hx hb hml hown hts hV hM hS (As := [.int p2, .int 3]) (rest := []) (k_X8_requireWhat G hG l p2 3 M3 e_4) w_X8_requireWhat (tk_884 hts) ⟨⟨rfl, rfl⟩, Nat.le_of_ble_eq_true rfl, Nat.le_of_ble_eq_true rfl⟩ ⟨Nat.zero_le _, Nat.zero_le _⟩ rfl hl.1 rfl (Nat.le_of_ble_eq_true rfl) dX8_ifDelivered_8 (fun H locs hM hS => ?_)
  refine lv_aload_n hx hb dX8_ifDelivered_11 rfl (lv_at hl 1 rfl) ?_
  refine lv_aload_n hx hb dX8_ifDelivered_12 rfl (lv_at hl 0 rfl) ?_
  refine lv_iload_n hx hb dX8_ifDelivered_13 rfl (lv_at hl 3 rfl) ?_
  obtain ⟨r8, M9, e_7, hf⟩ := cb_e hf
  refine c_Vi hx hb hml hown hts hV hK hM hS (As := [.ref r2, .int p2]) (rest := []) (k_X8_tellIfAllCame G hG l a0 h0 r2 h_r2 p2 M6 e_7) w_X8_tellIfAllCame (tk_542 hts) (c_9 h0) rfl rfl ⟨⟨rfl, rfl⟩, Nat.le_of_ble_eq_true rfl, Nat.le_of_ble_eq_true rfl⟩ ⟨Nat.zero_le _, Nat.zero_le _⟩ rfl hl.1 rfl (Nat.le_of_ble_eq_true rfl) dX8_ifDelivered_14 (fun H locs hM hS => ?_)
  exact ef_ix hx hb hr hlocks hM hS hf dX8_ifDelivered_17
set_option maxHeartbeats 4000000 in
set_option maxRecDepth 100000 in
theorem x_X8_ifDelivered (G : Gt) (hG : gOK G) (l : Launch) (hfl : l.stackTraces = false) (a0 : Nat) (h0 : gK G a0 = 9) (p1 : Int32) (p2 : Int32) (M : Mem) {j : Nat} {r : Int32} {M' : Mem} (hj : j ≠ 0) (hf : f_X8_ifDelivered a0 p1 p2 M = some (j, r, M')) : Kt G l yX8_ifDelivered cX8_ifDelivered 4 (some .int) ({ frames := 7, cells := 1, slots := 6, locals := 135 } : Room) [.ref a0, .int p1, .int p2] M j M' := by
  refine startT (by decide) (Nat.le_of_ble_eq_true rfl) ?_
  intro p e s m args below meth c ls hx hb hr hown hml hlocks hts hV hM hl ht
  have hown : s.vm.findClass "FoldedVoices" = some m.cls := hown
  have hK := hG.1.moved hV
  have hS : va_S (gA G) s.heap s.heap [] := va_S.rf
  have hl : lv_has ls 4 [(0, .ref a0), (1, .int p1), (2, .int p2)] := hl
  have hM0 := hM
  have hT0 := gTh_at hG.2.2.2.2.2 hV hM
  rw [f_X8_ifDelivered] at hf
  refine lv_aload_n hx hb dX8_ifDelivered_0 rfl (lv_at hl 0 rfl) ?_
  refine lv_iload_n hx hb dX8_ifDelivered_1 rfl (lv_at hl 1 rfl) ?_
  rcases xb_t hj hf with ⟨r2, e_1⟩ | ⟨r2, M3, e_1, hf⟩
  · exact c_Vt hx hb hml hown hlocks ht hts hV hK hM hS (As := [.int p1]) (rest := []) (x_X8_voiceOf G hG l hfl a0 h0 p1 M hj e_1) w_X8_voiceOf (tk_572 hts) (c_9 h0) rfl rfl ⟨⟨rfl, rfl⟩, Nat.le_of_ble_eq_true rfl, Nat.le_of_ble_eq_true rfl⟩ ⟨Nat.le_of_ble_eq_true rfl, Nat.le_of_ble_eq_true rfl⟩ rfl hl.1 rfl (Nat.le_of_ble_eq_true rfl) dX8_ifDelivered_2
  refine c_Vr hx hb hml hown hts hV hK hM hS (As := [.int p1]) (rest := []) (k_X8_voiceOf G hG l a0 h0 p1 M e_1) w_X8_voiceOf (tk_572 hts) (c_9 h0) rfl rfl ⟨⟨rfl, rfl⟩, Nat.le_of_ble_eq_true rfl, Nat.le_of_ble_eq_true rfl⟩ ⟨Nat.zero_le _, Nat.zero_le _⟩ rfl hl.1 rfl (Nat.le_of_ble_eq_true rfl) dX8_ifDelivered_2 (fun H locs hM hS => ?_)
  have h_r2 := kr_X8_voiceOf hG a0 h0 p1 e_1
  refine lv_astore_n (lv' := [(3, .ref r2), (0, .ref a0), (1, .int p1), (2, .int p2)]) hx hb dX8_ifDelivered_5 rfl hl (by decide) rfl (fun ls hl => ?_)
  refine lv_iload_n hx hb dX8_ifDelivered_6 rfl (lv_at hl 3 rfl) ?_
  refine lv_iconst (v := 3) hx hb dX8_ifDelivered_7 (by decide) ?_
  rcases xb_t hj hf with ⟨r5, e_4⟩ | ⟨r5, M6, e_4, hf⟩
  · exact c_St hx hb hml hown hlocks ht hts hV hM hS (As := [.int p2, .int 3]) (rest := []) (x_X8_requireWhat G hG l hfl p2 3 M3 hj e_4) w_X8_requireWhat (tk_884 hts) ⟨⟨rfl, rfl⟩, Nat.le_of_ble_eq_true rfl, Nat.le_of_ble_eq_true rfl⟩ ⟨Nat.le_of_ble_eq_true rfl, Nat.le_of_ble_eq_true rfl⟩ rfl hl.1 rfl (Nat.le_of_ble_eq_true rfl) dX8_ifDelivered_8
  refine c_Sv hx hb hml hown hts hV hM hS (As := [.int p2, .int 3]) (rest := []) (k_X8_requireWhat G hG l p2 3 M3 e_4) w_X8_requireWhat (tk_884 hts) ⟨⟨rfl, rfl⟩, Nat.le_of_ble_eq_true rfl, Nat.le_of_ble_eq_true rfl⟩ ⟨Nat.zero_le _, Nat.zero_le _⟩ rfl hl.1 rfl (Nat.le_of_ble_eq_true rfl) dX8_ifDelivered_8 (fun H locs hM hS => ?_)
  refine lv_aload_n hx hb dX8_ifDelivered_11 rfl (lv_at hl 1 rfl) ?_
  refine lv_aload_n hx hb dX8_ifDelivered_12 rfl (lv_at hl 0 rfl) ?_
  refine lv_iload_n hx hb dX8_ifDelivered_13 rfl (lv_at hl 3 rfl) ?_
  obtain ⟨r8, M9, e_7, hf⟩ := cb_e hf
  refine c_Vi hx hb hml hown hts hV hK hM hS (As := [.ref r2, .int p2]) (rest := []) (k_X8_tellIfAllCame G hG l a0 h0 r2 h_r2 p2 M6 e_7) w_X8_tellIfAllCame (tk_542 hts) (c_9 h0) rfl rfl ⟨⟨rfl, rfl⟩, Nat.le_of_ble_eq_true rfl, Nat.le_of_ble_eq_true rfl⟩ ⟨Nat.zero_le _, Nat.zero_le _⟩ rfl hl.1 rfl (Nat.le_of_ble_eq_true rfl) dX8_ifDelivered_14 (fun H locs hM hS => ?_)
  exact (xf_no hf hj).elim
def f_X8_meanError (a0 : Nat) (p1 : Int32) (M : Mem) : Option (Nat × UInt64 × Mem) := xb 0 (f_X8_voiceOf a0 p1 M) fun r2 M3 => vb (f_X1_meanOfErrors (r2 + 9) M3) fun r5 => some (0, r5, M3)
set_option maxHeartbeats 4000000 in
set_option maxRecDepth 100000 in
theorem k_X8_meanError (G : Gt) (hG : gOK G) (l : Launch) (a0 : Nat) (h0 : gK G a0 = 9) (p1 : Int32) (M : Mem) {r : UInt64} {M' : Mem} (hf : f_X8_meanError a0 p1 M = some (0, r, M')) : Kc G l yX8_meanError cX8_meanError 2 (some .double) ({ frames := 7, cells := 0, slots := 0, locals := 103 } : Room) [.ref a0, .int p1] M (some (.double r)) M' := by
  refine start (by decide) (Nat.le_of_ble_eq_true rfl) ?_
  intro p e s m args below meth c ls hx hb hr hown hml hlocks hts hV hM hl
  have hown : s.vm.findClass "FoldedVoices" = some m.cls := hown
  have hK := hG.1.moved hV
  have hS : va_S (gA G) s.heap s.heap [] := va_S.rf
  have hl : lv_has ls 2 [(0, .ref a0), (1, .int p1)] := hl
  have hM0 := hM
  rw [f_X8_meanError] at hf
  refine lv_aload_n hx hb dX8_meanError_0 rfl (lv_at hl 0 rfl) ?_
  refine lv_iload_n hx hb dX8_meanError_1 rfl (lv_at hl 1 rfl) ?_
  obtain ⟨r2, M3, e_1, hf⟩ := xb_r hf
  refine c_Vr hx hb hml hown hts hV hK hM hS (As := [.int p1]) (rest := []) (k_X8_voiceOf G hG l a0 h0 p1 M e_1) w_X8_voiceOf (tk_572 hts) (c_9 h0) rfl rfl ⟨⟨rfl, rfl⟩, Nat.le_of_ble_eq_true rfl, Nat.le_of_ble_eq_true rfl⟩ ⟨Nat.zero_le _, Nat.zero_le _⟩ rfl hl.1 rfl (Nat.le_of_ble_eq_true rfl) dX8_meanError_2 (fun H locs hM hS => ?_)
  have h_r2 := kr_X8_voiceOf hG a0 h0 p1 e_1
  refine s_getN hx hb (lay_7 hts) hown hK hM (c_8 h_r2) rfl 1 (by decide) rfl rfl (tk_215 hts) dX8_meanError_5 ?_
  obtain ⟨r5, e_4, hf⟩ := vb_e hf
  refine c_Vd hx hb hml hown hts hV hK hM hS (As := []) (rest := []) (k_X1_meanOfErrors G hG l (r2 + 9) (ky_8_1 hG h_r2) M3 e_4) w_X1_meanOfErrors (tk_546 hts) (c_2 (ky_8_1 hG h_r2)) rfl rfl ⟨⟨rfl, rfl⟩, Nat.le_of_ble_eq_true rfl, Nat.le_of_ble_eq_true rfl⟩ ⟨Nat.zero_le _, Nat.zero_le _⟩ rfl hl.1 rfl (Nat.le_of_ble_eq_true rfl) dX8_meanError_8 (fun H locs hM hS => ?_)
  exact ef_dx hx hb hr hlocks hM hS hf dX8_meanError_11
set_option maxHeartbeats 4000000 in
set_option maxRecDepth 100000 in
theorem x_X8_meanError (G : Gt) (hG : gOK G) (l : Launch) (hfl : l.stackTraces = false) (a0 : Nat) (h0 : gK G a0 = 9) (p1 : Int32) (M : Mem) {j : Nat} {r : UInt64} {M' : Mem} (hj : j ≠ 0) (hf : f_X8_meanError a0 p1 M = some (j, r, M')) : Kt G l yX8_meanError cX8_meanError 2 (some .double) ({ frames := 7, cells := 1, slots := 6, locals := 103 } : Room) [.ref a0, .int p1] M j M' := by
  refine startT (by decide) (Nat.le_of_ble_eq_true rfl) ?_
  intro p e s m args below meth c ls hx hb hr hown hml hlocks hts hV hM hl ht
  have hown : s.vm.findClass "FoldedVoices" = some m.cls := hown
  have hK := hG.1.moved hV
  have hS : va_S (gA G) s.heap s.heap [] := va_S.rf
  have hl : lv_has ls 2 [(0, .ref a0), (1, .int p1)] := hl
  have hM0 := hM
  have hT0 := gTh_at hG.2.2.2.2.2 hV hM
  rw [f_X8_meanError] at hf
  refine lv_aload_n hx hb dX8_meanError_0 rfl (lv_at hl 0 rfl) ?_
  refine lv_iload_n hx hb dX8_meanError_1 rfl (lv_at hl 1 rfl) ?_
  rcases xb_t hj hf with ⟨r2, e_1⟩ | ⟨r2, M3, e_1, hf⟩
  · exact c_Vt hx hb hml hown hlocks ht hts hV hK hM hS (As := [.int p1]) (rest := []) (x_X8_voiceOf G hG l hfl a0 h0 p1 M hj e_1) w_X8_voiceOf (tk_572 hts) (c_9 h0) rfl rfl ⟨⟨rfl, rfl⟩, Nat.le_of_ble_eq_true rfl, Nat.le_of_ble_eq_true rfl⟩ ⟨Nat.le_of_ble_eq_true rfl, Nat.le_of_ble_eq_true rfl⟩ rfl hl.1 rfl (Nat.le_of_ble_eq_true rfl) dX8_meanError_2
  refine c_Vr hx hb hml hown hts hV hK hM hS (As := [.int p1]) (rest := []) (k_X8_voiceOf G hG l a0 h0 p1 M e_1) w_X8_voiceOf (tk_572 hts) (c_9 h0) rfl rfl ⟨⟨rfl, rfl⟩, Nat.le_of_ble_eq_true rfl, Nat.le_of_ble_eq_true rfl⟩ ⟨Nat.zero_le _, Nat.zero_le _⟩ rfl hl.1 rfl (Nat.le_of_ble_eq_true rfl) dX8_meanError_2 (fun H locs hM hS => ?_)
  have h_r2 := kr_X8_voiceOf hG a0 h0 p1 e_1
  refine s_getN hx hb (lay_7 hts) hown hK hM (c_8 h_r2) rfl 1 (by decide) rfl rfl (tk_215 hts) dX8_meanError_5 ?_
  obtain ⟨r5, e_4, hf⟩ := vb_e hf
  refine c_Vd hx hb hml hown hts hV hK hM hS (As := []) (rest := []) (k_X1_meanOfErrors G hG l (r2 + 9) (ky_8_1 hG h_r2) M3 e_4) w_X1_meanOfErrors (tk_546 hts) (c_2 (ky_8_1 hG h_r2)) rfl rfl ⟨⟨rfl, rfl⟩, Nat.le_of_ble_eq_true rfl, Nat.le_of_ble_eq_true rfl⟩ ⟨Nat.zero_le _, Nat.zero_le _⟩ rfl hl.1 rfl (Nat.le_of_ble_eq_true rfl) dX8_meanError_8 (fun H locs hM hS => ?_)
  exact (xf_no hf hj).elim
def f_X8_shareOfLost (a0 : Nat) (M : Mem) : Option UInt32 := vb (f_X8_sumOver a0 2 M) fun r2 => if r2 ≤ 0 then (some FP.fconst0) else (vb (f_X8_sumOver a0 4 M) fun r5 => gd ((FP.fdiv (FP.i2f r5) (FP.i2f r2)) &&& 0x7fffffff ≤ 0x7f800000) <| some (FP.fdiv (FP.i2f r5) (FP.i2f r2)))
set_option maxHeartbeats 4000000 in
set_option maxRecDepth 100000 in
theorem k_X8_shareOfLost (G : Gt) (hG : gOK G) (l : Launch) (a0 : Nat) (h0 : gK G a0 = 9) (M : Mem) {r : UInt32} (hf : f_X8_shareOfLost a0 M = some r) : Kc G l yX8_shareOfLost cX8_shareOfLost 2 (some .float) ({ frames := 2, cells := 0, slots := 0, locals := 44 } : Room) [.ref a0] M (some (.float r)) M := by
  refine start (by decide) (Nat.le_of_ble_eq_true rfl) ?_
  intro p e s m args below meth c ls hx hb hr hown hml hlocks hts hV hM hl
  have hown : s.vm.findClass "FoldedVoices" = some m.cls := hown
  have hK := hG.1.moved hV
  have hS : va_S (gA G) s.heap s.heap [] := va_S.rf
  have hl : lv_has ls 2 [(0, .ref a0)] := hl
  have hM0 := hM
  rw [f_X8_shareOfLost] at hf
  refine lv_aload_n hx hb dX8_shareOfLost_0 rfl (lv_at hl 0 rfl) ?_
  refine lv_iconst (v := 2) hx hb dX8_shareOfLost_1 (by decide) ?_
  obtain ⟨r2, e_1, hf⟩ := vb_e hf
  refine c_Vi hx hb hml hown hts hV hK hM hS (As := [.int 2]) (rest := []) (k_X8_sumOver G hG l a0 h0 2 M e_1) w_X8_sumOver (tk_382 hts) (c_9 h0) rfl rfl ⟨⟨rfl, rfl⟩, Nat.le_of_ble_eq_true rfl, Nat.le_of_ble_eq_true rfl⟩ ⟨Nat.zero_le _, Nat.zero_le _⟩ rfl hl.1 rfl (Nat.le_of_ble_eq_true rfl) dX8_shareOfLost_2 (fun H locs hM hS => ?_)
  refine lv_istore_n (lv' := [(1, .int r2), (0, .ref a0)]) hx hb dX8_shareOfLost_5 rfl hl (by decide) rfl (fun ls hl => ?_)
  refine lv_iload_n hx hb dX8_shareOfLost_6 rfl (lv_at hl 0 rfl) ?_
  refine lv_if_le (tgt := 22) hx hb dX8_shareOfLost_7 (by decide) (fun g_3 => ?_) (fun g_3 => ?_)
  · rw [if_pos g_3] at hf
    refine lv_fconst0 hx hb dX8_shareOfLost_22 ?_
    exact ef_fp hx hb hr hlocks hM hS hf dX8_shareOfLost_23
  · rw [if_neg g_3] at hf
    refine lv_aload_n hx hb dX8_shareOfLost_10 rfl (lv_at hl 1 rfl) ?_
    refine lv_iconst (v := 4) hx hb dX8_shareOfLost_11 (by decide) ?_
    obtain ⟨r5, e_4, hf⟩ := vb_e hf
    refine c_Vi hx hb hml hown hts hV hK hM hS (As := [.int 4]) (rest := []) (k_X8_sumOver G hG l a0 h0 4 M e_4) w_X8_sumOver (tk_382 hts) (c_9 h0) rfl rfl ⟨⟨rfl, rfl⟩, Nat.le_of_ble_eq_true rfl, Nat.le_of_ble_eq_true rfl⟩ ⟨Nat.zero_le _, Nat.zero_le _⟩ rfl hl.1 rfl (Nat.le_of_ble_eq_true rfl) dX8_shareOfLost_12 (fun H locs hM hS => ?_)
    refine lv_i2f hx hb dX8_shareOfLost_15 ?_
    refine lv_iload_n hx hb dX8_shareOfLost_16 rfl (lv_at hl 0 rfl) ?_
    refine lv_i2f hx hb dX8_shareOfLost_17 ?_
    obtain ⟨h_6, hf⟩ := gd_e hf
    refine lv_fdiv hx hb dX8_shareOfLost_18 h_6 ?_
    refine lv_goto (tgt := 23) hx hb dX8_shareOfLost_19 (by decide) ?_
    exact ef_fp hx hb hr hlocks hM hS hf dX8_shareOfLost_23
def f_X8_lostShare (a0 : Nat) (M : Mem) : Option UInt32 := vb (f_X8_shareOfLost a0 M) fun r2 => some r2
set_option maxHeartbeats 4000000 in
set_option maxRecDepth 100000 in
theorem k_X8_lostShare (G : Gt) (hG : gOK G) (l : Launch) (a0 : Nat) (h0 : gK G a0 = 9) (M : Mem) {r : UInt32} (hf : f_X8_lostShare a0 M = some r) : Kc G l yX8_lostShare cX8_lostShare 1 (some .float) ({ frames := 3, cells := 0, slots := 0, locals := 65 } : Room) [.ref a0] M (some (.float r)) M := by
  refine start (by decide) (Nat.le_of_ble_eq_true rfl) ?_
  intro p e s m args below meth c ls hx hb hr hown hml hlocks hts hV hM hl
  have hown : s.vm.findClass "FoldedVoices" = some m.cls := hown
  have hK := hG.1.moved hV
  have hS : va_S (gA G) s.heap s.heap [] := va_S.rf
  have hl : lv_has ls 1 [(0, .ref a0)] := hl
  have hM0 := hM
  rw [f_X8_lostShare] at hf
  refine lv_aload_n hx hb dX8_lostShare_0 rfl (lv_at hl 0 rfl) ?_
  obtain ⟨r2, e_1, hf⟩ := vb_e hf
  refine c_Vf hx hb hml hown hts hV hK hM hS (As := []) (rest := []) (k_X8_shareOfLost G hG l a0 h0 M e_1) w_X8_shareOfLost (tk_394 hts) (c_9 h0) rfl rfl ⟨⟨rfl, rfl⟩, Nat.le_of_ble_eq_true rfl, Nat.le_of_ble_eq_true rfl⟩ ⟨Nat.zero_le _, Nat.zero_le _⟩ rfl hl.1 rfl (Nat.le_of_ble_eq_true rfl) dX8_lostShare_1 (fun H locs hM hS => ?_)
  exact ef_fp hx hb hr hlocks hM hS hf dX8_lostShare_4
def f_X8_mixed (p0 : Int64) (p2 : Int64) (M : Mem) : Option Int64 := some (((31 : Int64) * p0) + p2)
set_option maxHeartbeats 4000000 in
set_option maxRecDepth 100000 in
theorem k_X8_mixed (G : Gt) (hG : gOK G) (l : Launch) (p0 : Int64) (p2 : Int64) (M : Mem) {r : Int64} (hf : f_X8_mixed p0 p2 M = some r) : Kc G l yX8_mixed cX8_mixed 4 (some .long) ({ frames := 0, cells := 0, slots := 0, locals := 0 } : Room) [.long p0, .long p2] M (some (.long r)) M := by
  refine start (by decide) (Nat.le_of_ble_eq_true rfl) ?_
  intro p e s m args below meth c ls hx hb hr hown hml hlocks hts hV hM hl
  have hown : s.vm.findClass "FoldedVoices" = some m.cls := hown
  have hK := hG.1.moved hV
  have hS : va_S (gA G) s.heap s.heap [] := va_S.rf
  have hl : lv_has ls 4 [(0, .long p0), (2, .long p2)] := hl
  have hM0 := hM
  rw [f_X8_mixed] at hf
  refine lv_ldc2 hx hb hown (tk_482 hts) dX8_mixed_0 ?_
  refine lv_lload_n hx hb dX8_mixed_3 rfl (lv_at hl 0 rfl) ?_
  refine lv_lmul hx hb dX8_mixed_4 ?_
  refine lv_lload_n hx hb dX8_mixed_5 rfl (lv_at hl 1 rfl) ?_
  refine lv_ladd hx hb dX8_mixed_6 ?_
  exact ef_lp hx hb hr hlocks hM hS hf dX8_mixed_7
def f_X8_withPacket_b5 (p0 : Int64) (a2 : Nat) : Nat → Int64 → Int32 → Mem → Option Int64
  | 0, _, _, _ => none
  | n + 1, x3, x5, M => if (5 : Int32) < x5 then (some x3) else (vb (f_X2_tell a2 x5 M) fun r3 => vb (f_X8_mixed x3 r3.toInt64 M) fun r5 => nb (x5 + 1) fun y6 => f_X8_withPacket_b5 p0 a2 n r5 y6 M)
def f_X8_withPacket (p0 : Int64) (a2 : Nat) (M : Mem) : Option Int64 := f_X8_withPacket_b5 p0 a2 lfuel p0 0 M
set_option maxHeartbeats 4000000 in
set_option maxRecDepth 100000 in
theorem k_X8_withPacket (G : Gt) (hG : gOK G) (l : Launch) (p0 : Int64) (a2 : Nat) (h2 : gK G a2 = 3) (M : Mem) {r : Int64} (hf : f_X8_withPacket p0 a2 M = some r) : Kc G l yX8_withPacket cX8_withPacket 6 (some .long) ({ frames := 3, cells := 0, slots := 0, locals := 64 } : Room) [.long p0, .ref a2] M (some (.long r)) M := by
  refine start (by decide) (Nat.le_of_ble_eq_true rfl) ?_
  intro p e s m args below meth c ls hx hb hr hown hml hlocks hts hV hM hl
  have hown : s.vm.findClass "FoldedVoices" = some m.cls := hown
  have hK := hG.1.moved hV
  have hS : va_S (gA G) s.heap s.heap [] := va_S.rf
  have hl : lv_has ls 6 [(0, .long p0), (2, .ref a2)] := hl
  have hM0 := hM
  have b5 : ∀ (n : Nat), ∀ (x3 : Int64) (x5 : Int32) (M : Mem) (H : Heap) (locs : List Loc) (ls : Array Slot), Mh G M H → va_S (gA G) s.heap H locs → lv_has ls 6 [(0, .long p0), (2, .ref a2), (3, .long x3), (5, .int x5)] → f_X8_withPacket_b5 p0 a2 n x3 x5 M = some r → W p l e ({ frames := 3, cells := 0, slots := 0, locals := 64 } : Room) s m args below meth c H locs 0 0 (MQ below (QV G (some (.long r)) M) args s 0 0 (gA G)) (F0 m 5 ls []) := by
    intro n
    induction n with
    | zero =>
      intro x3 x5 M H locs ls hM hS hl hf
      rw [f_X8_withPacket_b5] at hf
      cases hf
    | succ n ih =>
      intro x3 x5 M H locs ls hM hS hl hf
      rw [f_X8_withPacket_b5] at hf
      refine lv_iload hx hb dX8_withPacket_5 (lv_at hl 3 rfl) ?_
      refine lv_iconst (v := 5) hx hb dX8_withPacket_7 (by decide) ?_
      refine lv_icmp_gt (tgt := 29) hx hb dX8_withPacket_8 (by decide) (fun g_1 => ?_) (fun g_1 => ?_)
      · rw [if_pos g_1] at hf
        refine lv_lload_n hx hb dX8_withPacket_29 rfl (lv_at hl 2 rfl) ?_
        exact ef_lp hx hb hr hlocks hM hS hf dX8_withPacket_30
      · rw [if_neg g_1] at hf
        refine lv_lload_n hx hb dX8_withPacket_11 rfl (lv_at hl 2 rfl) ?_
        refine lv_aload_n hx hb dX8_withPacket_12 rfl (lv_at hl 1 rfl) ?_
        refine lv_iload hx hb dX8_withPacket_13 (lv_at hl 3 rfl) ?_
        obtain ⟨r3, e_2, hf⟩ := vb_e hf
        refine c_Vi hx hb hml hown hts hV hK hM hS (As := [.int x5]) (rest := [.long x3]) (k_X2_tell G hG l a2 h2 x5 M e_2) w_X2_tell (tk_514 hts) (c_3 h2) rfl rfl ⟨⟨rfl, rfl⟩, Nat.le_of_ble_eq_true rfl, Nat.le_of_ble_eq_true rfl⟩ ⟨Nat.zero_le _, Nat.zero_le _⟩ rfl hl.1 rfl (Nat.le_of_ble_eq_true rfl) dX8_withPacket_15 (fun H locs hM hS => ?_)
        refine lv_i2l hx hb dX8_withPacket_18 rfl ?_
        obtain ⟨r5, e_4, hf⟩ := vb_e hf
        refine c_Sj hx hb hml hown hts hV hM hS (As := [.long x3, .long r3.toInt64]) (rest := []) (k_X8_mixed G hG l x3 r3.toInt64 M e_4) w_X8_mixed (tk_479 hts) ⟨⟨rfl, rfl⟩, Nat.le_of_ble_eq_true rfl, Nat.le_of_ble_eq_true rfl⟩ ⟨Nat.zero_le _, Nat.zero_le _⟩ rfl hl.1 rfl (Nat.le_of_ble_eq_true rfl) dX8_withPacket_19 (fun H locs hM hS => ?_)
        refine lv_lstore_n (lv' := [(3, .long r5), (0, .long p0), (2, .ref a2), (5, .int x5)]) hx hb dX8_withPacket_22 rfl hl (by decide) rfl (fun ls hl => ?_)
        obtain ⟨y6, ey6, hf⟩ := nb_e hf
        refine lv_iinc (v := y6) (lv' := [(5, .int y6), (3, .long r5), (0, .long p0), (2, .ref a2)]) hx hb dX8_withPacket_23 hl (k := 3) rfl (by rw [← ey6]; rfl) (by decide) rfl (fun ls hl => ?_)
        refine lv_goto (tgt := 5) hx hb dX8_withPacket_26 (by decide) ?_
        exact ih r5 y6 _ H locs ls hM hS (lv_sub hl [2, 3, 1, 0] rfl) hf
  rw [f_X8_withPacket] at hf
  obtain ⟨H, hHe⟩ : ∃ H, H = s.heap := ⟨_, rfl⟩
  obtain ⟨locs, hLe⟩ : ∃ L : List Loc, L = [] := ⟨_, rfl⟩
  rw [← hHe] at hM
  have hS : va_S (gA G) s.heap H locs := by rw [hHe, hLe]; exact va_S.rf
  suffices hW : W p l e ({ frames := 3, cells := 0, slots := 0, locals := 64 } : Room) s m args below meth c H locs 0 0 (MQ below (QV G (some (.long r)) M) args s 0 0 (gA G)) (F0 m 0 ls []) by rw [hHe, hLe] at hW; exact hW
  refine lv_lload_n hx hb dX8_withPacket_0 rfl (lv_at hl 0 rfl) ?_
  refine lv_lstore_n (lv' := [(3, .long p0), (0, .long p0), (2, .ref a2)]) hx hb dX8_withPacket_1 rfl hl (by decide) rfl (fun ls hl => ?_)
  refine lv_iconst (v := 0) hx hb dX8_withPacket_2 (by decide) ?_
  refine lv_istore (lv' := [(5, .int 0), (3, .long p0), (0, .long p0), (2, .ref a2)]) hx hb dX8_withPacket_3 hl (by decide) rfl (fun ls hl => ?_)
  exact b5 _ p0 0 _ H locs ls hM hS (lv_sub hl [2, 3, 1, 0] rfl) hf
def f_X8_bitsOfDouble_b87 (p0 : UInt64) (x2 : UInt64) (x4 : Int64) (M : Mem) : Option Int64 := gd ((FP.dsub x2 FP.dconst1) &&& 0x7fffffffffffffff ≤ 0x7ff0000000000000) <| gd ((FP.dmul (FP.dsub x2 FP.dconst1) (4841369599423283200 : UInt64)) &&& 0x7fffffffffffffff ≤ 0x7ff0000000000000) <| some ((x4 <<< ((52 : Int32).toInt64 &&& 63)) + (FP.d2l (FP.dmul (FP.dsub x2 FP.dconst1) (4841369599423283200 : UInt64))))
def f_X8_bitsOfDouble_b55 (p0 : UInt64) : Nat → UInt64 → Int64 → Int32 → Mem → Option Int64
  | 0, _, _, _, _ => none
  | n + 1, x2, x4, x6, M => if (1023 : Int32) ≤ x6 then (f_X8_bitsOfDouble_b87 p0 x2 x4 M) else (if 0 ≤ (Op.cmpValue (FP.dcmp x2 FP.dconst1) .g) then (f_X8_bitsOfDouble_b87 p0 x2 x4 M) else (gd ((FP.dmul x2 (4611686018427387904 : UInt64)) &&& 0x7fffffffffffffff ≤ 0x7ff0000000000000) <| nb (FP.dmul x2 (4611686018427387904 : UInt64)) fun y6 => nb (x4 - (1 : Int64)) fun y7 => nb (x6 + 1) fun y8 => f_X8_bitsOfDouble_b55 p0 n y6 y7 y8 M))
def f_X8_bitsOfDouble_b52 (p0 : UInt64) (x2 : UInt64) (x4 : Int64) (M : Mem) : Option Int64 := f_X8_bitsOfDouble_b55 p0 lfuel x2 x4 0 M
def f_X8_bitsOfDouble_b18 (p0 : UInt64) : Nat → UInt64 → Int64 → Int32 → Mem → Option Int64
  | 0, _, _, _, _ => none
  | n + 1, x2, x4, x6, M => if (1023 : Int32) ≤ x6 then (f_X8_bitsOfDouble_b52 p0 x2 x4 M) else (if (Op.cmpValue (FP.dcmp x2 (4611686018427387904 : UInt64)) .l) < 0 then (f_X8_bitsOfDouble_b52 p0 x2 x4 M) else (gd ((FP.ddiv x2 (4611686018427387904 : UInt64)) &&& 0x7fffffffffffffff ≤ 0x7ff0000000000000) <| nb (FP.ddiv x2 (4611686018427387904 : UInt64)) fun y12 => nb (x4 + (1 : Int64)) fun y13 => nb (x6 + 1) fun y14 => f_X8_bitsOfDouble_b18 p0 n y12 y13 y14 M))
def f_X8_bitsOfDouble (p0 : UInt64) (M : Mem) : Option Int64 := if 0 < (Op.cmpValue (FP.dcmp p0 FP.dconst0) .l) then (nb (1023 : Int64) fun y16 => f_X8_bitsOfDouble_b18 p0 lfuel p0 y16 0 M) else (some (0 : Int64))
set_option maxHeartbeats 4000000 in
set_option maxRecDepth 100000 in
theorem k_X8_bitsOfDouble (G : Gt) (hG : gOK G) (l : Launch) (p0 : UInt64) (M : Mem) {r : Int64} (hf : f_X8_bitsOfDouble p0 M = some r) : Kc G l yX8_bitsOfDouble cX8_bitsOfDouble 7 (some .long) ({ frames := 0, cells := 0, slots := 0, locals := 0 } : Room) [.double p0] M (some (.long r)) M := by
  refine start (by decide) (Nat.le_of_ble_eq_true rfl) ?_
  intro p e s m args below meth c ls hx hb hr hown hml hlocks hts hV hM hl
  have hown : s.vm.findClass "FoldedVoices" = some m.cls := hown
  have hK := hG.1.moved hV
  have hS : va_S (gA G) s.heap s.heap [] := va_S.rf
  have hl : lv_has ls 7 [(0, .double p0)] := hl
  have hM0 := hM
  have b87 : ∀ (x2 : UInt64) (x4 : Int64) (M : Mem) (H : Heap) (locs : List Loc) (ls : Array Slot), Mh G M H → va_S (gA G) s.heap H locs → lv_has ls 7 [(0, .double p0), (2, .double x2), (4, .long x4)] → f_X8_bitsOfDouble_b87 p0 x2 x4 M = some r → W p l e ({ frames := 0, cells := 0, slots := 0, locals := 0 } : Room) s m args below meth c H locs 0 0 (MQ below (QV G (some (.long r)) M) args s 0 0 (gA G)) (F0 m 87 ls []) := by
    intro x2 x4 M H locs ls hM hS hl hf
    rw [f_X8_bitsOfDouble_b87] at hf
    refine lv_lload hx hb dX8_bitsOfDouble_87 (lv_at hl 2 rfl) ?_
    refine lv_bipush (v := 52) hx hb dX8_bitsOfDouble_89 (by decide) ?_
    refine lv_lshl hx hb dX8_bitsOfDouble_91 rfl ?_
    refine lv_dload_n hx hb dX8_bitsOfDouble_92 rfl (lv_at hl 1 rfl) ?_
    refine lv_dconst1 hx hb dX8_bitsOfDouble_93 ?_
    obtain ⟨h_1, hf⟩ := gd_e hf
    refine lv_dsub hx hb dX8_bitsOfDouble_94 h_1 ?_
    refine lv_ldc2d hx hb hown (tk_555 hts) dX8_bitsOfDouble_95 ?_
    obtain ⟨h_2, hf⟩ := gd_e hf
    refine lv_dmul hx hb dX8_bitsOfDouble_98 h_2 ?_
    refine lv_d2l hx hb dX8_bitsOfDouble_99 ?_
    refine lv_ladd hx hb dX8_bitsOfDouble_100 ?_
    exact ef_lp hx hb hr hlocks hM hS hf dX8_bitsOfDouble_101
  have b55 : ∀ (n : Nat), ∀ (x2 : UInt64) (x4 : Int64) (x6 : Int32) (M : Mem) (H : Heap) (locs : List Loc) (ls : Array Slot), Mh G M H → va_S (gA G) s.heap H locs → lv_has ls 7 [(0, .double p0), (2, .double x2), (4, .long x4), (6, .int x6)] → f_X8_bitsOfDouble_b55 p0 n x2 x4 x6 M = some r → W p l e ({ frames := 0, cells := 0, slots := 0, locals := 0 } : Room) s m args below meth c H locs 0 0 (MQ below (QV G (some (.long r)) M) args s 0 0 (gA G)) (F0 m 55 ls []) := by
    intro n
    induction n with
    | zero =>
      intro x2 x4 x6 M H locs ls hM hS hl hf
      rw [f_X8_bitsOfDouble_b55] at hf
      cases hf
    | succ n ih =>
      intro x2 x4 x6 M H locs ls hM hS hl hf
      rw [f_X8_bitsOfDouble_b55] at hf
      refine lv_iload hx hb dX8_bitsOfDouble_55 (lv_at hl 3 rfl) ?_
      refine lv_sipush (v := 1023) hx hb dX8_bitsOfDouble_57 (by decide) ?_
      refine lv_icmp_ge (tgt := 87) hx hb dX8_bitsOfDouble_60 (by decide) (fun g_3 => ?_) (fun g_3 => ?_)
      · rw [if_pos g_3] at hf
        exact b87 x2 x4 _ H locs ls hM hS (lv_sub hl [0, 1, 2] rfl) hf
      · rw [if_neg g_3] at hf
        refine lv_dload_n hx hb dX8_bitsOfDouble_63 rfl (lv_at hl 1 rfl) ?_
        refine lv_dconst1 hx hb dX8_bitsOfDouble_64 ?_
        refine lv_dcmp hx hb dX8_bitsOfDouble_65 ?_
        refine lv_if_ge (tgt := 87) hx hb dX8_bitsOfDouble_66 (by decide) (fun g_4 => ?_) (fun g_4 => ?_)
        · rw [if_pos g_4] at hf
          exact b87 x2 x4 _ H locs ls hM hS (lv_sub hl [0, 1, 2] rfl) hf
        · rw [if_neg g_4] at hf
          refine lv_dload_n hx hb dX8_bitsOfDouble_69 rfl (lv_at hl 1 rfl) ?_
          refine lv_ldc2d hx hb hown (tk_554 hts) dX8_bitsOfDouble_70 ?_
          obtain ⟨h_5, hf⟩ := gd_e hf
          refine lv_dmul hx hb dX8_bitsOfDouble_73 h_5 ?_
          obtain ⟨y6, ey6, hf⟩ := nb_e hf
          refine s_nmd ey6 ?_
          refine lv_dstore_n (lv' := [(2, .double y6), (0, .double p0), (4, .long x4), (6, .int x6)]) hx hb dX8_bitsOfDouble_74 rfl hl (by decide) rfl (fun ls hl => ?_)
          refine lv_lload hx hb dX8_bitsOfDouble_75 (lv_at hl 2 rfl) ?_
          refine lv_lconst (v := 1) hx hb dX8_bitsOfDouble_77 (by decide) ?_
          refine lv_lsub hx hb dX8_bitsOfDouble_78 ?_
          obtain ⟨y7, ey7, hf⟩ := nb_e hf
          refine s_nml ey7 ?_
          refine lv_lstore (lv' := [(4, .long y7), (2, .double y6), (0, .double p0), (6, .int x6)]) hx hb dX8_bitsOfDouble_79 hl (by decide) rfl (fun ls hl => ?_)
          obtain ⟨y8, ey8, hf⟩ := nb_e hf
          refine lv_iinc (v := y8) (lv' := [(6, .int y8), (4, .long y7), (2, .double y6), (0, .double p0)]) hx hb dX8_bitsOfDouble_81 hl (k := 3) rfl (by rw [← ey8]; rfl) (by decide) rfl (fun ls hl => ?_)
          refine lv_goto (tgt := 55) hx hb dX8_bitsOfDouble_84 (by decide) ?_
          exact ih y6 y7 y8 _ H locs ls hM hS (lv_sub hl [3, 2, 1, 0] rfl) hf
  have b52 : ∀ (x2 : UInt64) (x4 : Int64) (M : Mem) (H : Heap) (locs : List Loc) (ls : Array Slot), Mh G M H → va_S (gA G) s.heap H locs → lv_has ls 7 [(0, .double p0), (2, .double x2), (4, .long x4)] → f_X8_bitsOfDouble_b52 p0 x2 x4 M = some r → W p l e ({ frames := 0, cells := 0, slots := 0, locals := 0 } : Room) s m args below meth c H locs 0 0 (MQ below (QV G (some (.long r)) M) args s 0 0 (gA G)) (F0 m 52 ls []) := by
    intro x2 x4 M H locs ls hM hS hl hf
    rw [f_X8_bitsOfDouble_b52] at hf
    refine lv_iconst (v := 0) hx hb dX8_bitsOfDouble_52 (by decide) ?_
    refine lv_istore (lv' := [(6, .int 0), (0, .double p0), (2, .double x2), (4, .long x4)]) hx hb dX8_bitsOfDouble_53 hl (by decide) rfl (fun ls hl => ?_)
    exact b55 _ x2 x4 0 _ H locs ls hM hS (lv_sub hl [1, 2, 3, 0] rfl) hf
  have b18 : ∀ (n : Nat), ∀ (x2 : UInt64) (x4 : Int64) (x6 : Int32) (M : Mem) (H : Heap) (locs : List Loc) (ls : Array Slot), Mh G M H → va_S (gA G) s.heap H locs → lv_has ls 7 [(0, .double p0), (2, .double x2), (4, .long x4), (6, .int x6)] → f_X8_bitsOfDouble_b18 p0 n x2 x4 x6 M = some r → W p l e ({ frames := 0, cells := 0, slots := 0, locals := 0 } : Room) s m args below meth c H locs 0 0 (MQ below (QV G (some (.long r)) M) args s 0 0 (gA G)) (F0 m 18 ls []) := by
    intro n
    induction n with
    | zero =>
      intro x2 x4 x6 M H locs ls hM hS hl hf
      rw [f_X8_bitsOfDouble_b18] at hf
      cases hf
    | succ n ih =>
      intro x2 x4 x6 M H locs ls hM hS hl hf
      rw [f_X8_bitsOfDouble_b18] at hf
      refine lv_iload hx hb dX8_bitsOfDouble_18 (lv_at hl 3 rfl) ?_
      refine lv_sipush (v := 1023) hx hb dX8_bitsOfDouble_20 (by decide) ?_
      refine lv_icmp_ge (tgt := 52) hx hb dX8_bitsOfDouble_23 (by decide) (fun g_9 => ?_) (fun g_9 => ?_)
      · rw [if_pos g_9] at hf
        exact b52 x2 x4 _ H locs ls hM hS (lv_sub hl [0, 1, 2] rfl) hf
      · rw [if_neg g_9] at hf
        refine lv_dload_n hx hb dX8_bitsOfDouble_26 rfl (lv_at hl 1 rfl) ?_
        refine lv_ldc2d hx hb hown (tk_554 hts) dX8_bitsOfDouble_27 ?_
        refine lv_dcmp hx hb dX8_bitsOfDouble_30 ?_
        refine lv_if_lt (tgt := 52) hx hb dX8_bitsOfDouble_31 (by decide) (fun g_10 => ?_) (fun g_10 => ?_)
        · rw [if_pos g_10] at hf
          exact b52 x2 x4 _ H locs ls hM hS (lv_sub hl [0, 1, 2] rfl) hf
        · rw [if_neg g_10] at hf
          refine lv_dload_n hx hb dX8_bitsOfDouble_34 rfl (lv_at hl 1 rfl) ?_
          refine lv_ldc2d hx hb hown (tk_554 hts) dX8_bitsOfDouble_35 ?_
          obtain ⟨h_11, hf⟩ := gd_e hf
          refine lv_ddiv hx hb dX8_bitsOfDouble_38 h_11 ?_
          obtain ⟨y12, ey12, hf⟩ := nb_e hf
          refine s_nmd ey12 ?_
          refine lv_dstore_n (lv' := [(2, .double y12), (0, .double p0), (4, .long x4), (6, .int x6)]) hx hb dX8_bitsOfDouble_39 rfl hl (by decide) rfl (fun ls hl => ?_)
          refine lv_lload hx hb dX8_bitsOfDouble_40 (lv_at hl 2 rfl) ?_
          refine lv_lconst (v := 1) hx hb dX8_bitsOfDouble_42 (by decide) ?_
          refine lv_ladd hx hb dX8_bitsOfDouble_43 ?_
          obtain ⟨y13, ey13, hf⟩ := nb_e hf
          refine s_nml ey13 ?_
          refine lv_lstore (lv' := [(4, .long y13), (2, .double y12), (0, .double p0), (6, .int x6)]) hx hb dX8_bitsOfDouble_44 hl (by decide) rfl (fun ls hl => ?_)
          obtain ⟨y14, ey14, hf⟩ := nb_e hf
          refine lv_iinc (v := y14) (lv' := [(6, .int y14), (4, .long y13), (2, .double y12), (0, .double p0)]) hx hb dX8_bitsOfDouble_46 hl (k := 3) rfl (by rw [← ey14]; rfl) (by decide) rfl (fun ls hl => ?_)
          refine lv_goto (tgt := 18) hx hb dX8_bitsOfDouble_49 (by decide) ?_
          exact ih y12 y13 y14 _ H locs ls hM hS (lv_sub hl [3, 2, 1, 0] rfl) hf
  rw [f_X8_bitsOfDouble] at hf
  obtain ⟨H, hHe⟩ : ∃ H, H = s.heap := ⟨_, rfl⟩
  obtain ⟨locs, hLe⟩ : ∃ L : List Loc, L = [] := ⟨_, rfl⟩
  rw [← hHe] at hM
  have hS : va_S (gA G) s.heap H locs := by rw [hHe, hLe]; exact va_S.rf
  suffices hW : W p l e ({ frames := 0, cells := 0, slots := 0, locals := 0 } : Room) s m args below meth c H locs 0 0 (MQ below (QV G (some (.long r)) M) args s 0 0 (gA G)) (F0 m 0 ls []) by rw [hHe, hLe] at hW; exact hW
  refine lv_dload_n hx hb dX8_bitsOfDouble_0 rfl (lv_at hl 0 rfl) ?_
  refine lv_dconst0 hx hb dX8_bitsOfDouble_1 ?_
  refine lv_dcmp hx hb dX8_bitsOfDouble_2 ?_
  refine lv_if_gt (tgt := 8) hx hb dX8_bitsOfDouble_3 (by decide) (fun g_15 => ?_) (fun g_15 => ?_)
  · rw [if_pos g_15] at hf
    refine lv_dload_n hx hb dX8_bitsOfDouble_8 rfl (lv_at hl 0 rfl) ?_
    refine lv_dstore_n (lv' := [(2, .double p0), (0, .double p0)]) hx hb dX8_bitsOfDouble_9 rfl hl (by decide) rfl (fun ls hl => ?_)
    refine lv_ldc2 hx hb hown (tk_553 hts) dX8_bitsOfDouble_10 ?_
    obtain ⟨y16, ey16, hf⟩ := nb_e hf
    refine s_nml ey16 ?_
    refine lv_lstore (lv' := [(4, .long y16), (2, .double p0), (0, .double p0)]) hx hb dX8_bitsOfDouble_13 hl (by decide) rfl (fun ls hl => ?_)
    refine lv_iconst (v := 0) hx hb dX8_bitsOfDouble_15 (by decide) ?_
    refine lv_istore (lv' := [(6, .int 0), (4, .long y16), (2, .double p0), (0, .double p0)]) hx hb dX8_bitsOfDouble_16 hl (by decide) rfl (fun ls hl => ?_)
    exact b18 _ p0 y16 0 _ H locs ls hM hS (lv_sub hl [3, 2, 1, 0] rfl) hf
  · rw [if_neg g_15] at hf
    refine lv_lconst (v := 0) hx hb dX8_bitsOfDouble_6 (by decide) ?_
    exact ef_lp hx hb hr hlocks hM hS hf dX8_bitsOfDouble_7
def f_X8_withVoice_b173 (a0 : Nat) (p1 : Int64) (a3 : Nat) : Nat → Int64 → Int32 → Mem → Option (Int64 × Mem)
  | 0, _, _, _ => none
  | n + 1, x4, x6, M => if (3 : Int32) < x6 then (vb (f_X1_meanOfErrors (a3 + 9) M) fun r3 => vb (f_X8_bitsOfDouble r3 M) fun r5 => vb (f_X8_mixed x4 r5 M) fun r7 => some (r7, M)) else (cb (f_X8_tellIfAllCame a0 a3 x6 M) fun r9 M10 => vb (f_X8_mixed x4 r9.toInt64 M10) fun r12 => nb (x6 + 1) fun y13 => f_X8_withVoice_b173 a0 p1 a3 n r12 y13 M10)
def f_X8_withVoice_b123 (a0 : Nat) (p1 : Int64) (a3 : Nat) : Nat → Int64 → Int32 → Mem → Option (Int64 × Mem)
  | 0, _, _, _ => none
  | n + 1, x4, x6, M => if (4 : Int32) < x6 then (cb (f_X8_codesToComeNear a0 a3 (-500) 50 M) fun r16 M17 => vb (f_X8_mixed x4 r16.toInt64 M17) fun r19 => f_X8_withVoice_b173 a0 p1 a3 lfuel r19 0 M17) else (cb (f_X8_tellCode a0 a3 100 x6 M) fun r21 M22 => vb (f_X8_mixed x4 r21.toInt64 M22) fun r24 => nb (x6 + 1) fun y25 => f_X8_withVoice_b123 a0 p1 a3 n r24 y25 M22)
def f_X8_withVoice_b107 (a0 : Nat) (p1 : Int64) (a3 : Nat) (x4 : Int64) (M : Mem) : Option (Int64 × Mem) := cb (f_X8_tellWhy a0 a3 M) fun r27 M28 => vb (f_X8_mixed x4 r27.toInt64 M28) fun r30 => f_X8_withVoice_b123 a0 p1 a3 lfuel r30 0 M28
def f_X8_withVoice_b68 (a0 : Nat) (p1 : Int64) (a3 : Nat) : Nat → Int64 → Int32 → Mem → Option (Int64 × Mem)
  | 0, _, _, _ => none
  | n + 1, x4, x6, M => if (mI M a3 3) ≤ x6 then (f_X8_withVoice_b107 a0 p1 a3 x4 M) else (if (8 : Int32) ≤ x6 then (f_X8_withVoice_b107 a0 p1 a3 x4 M) else (gd (ix x6 8) <| nb (mR M (a3 + 11) x6.toNatClampNeg) fun z35 => vb (f_X8_withPacket x4 z35 M) fun r37 => nb (x6 + 1) fun y38 => f_X8_withVoice_b68 a0 p1 a3 n r37 y38 M))
def f_X8_withVoice_b37 (a0 : Nat) (p1 : Int64) (a3 : Nat) : Nat → Int64 → Int32 → Mem → Option (Int64 × Mem)
  | 0, _, _, _ => none
  | n + 1, x4, x6, M => if (11 : Int32) < x6 then (f_X8_withVoice_b68 a0 p1 a3 lfuel x4 0 M) else (vb (f_X8_tellHearing a0 a3 x6 M) fun r41 => vb (f_X8_mixed x4 r41.toInt64 M) fun r43 => nb (x6 + 1) fun y44 => f_X8_withVoice_b37 a0 p1 a3 n r43 y44 M)
def f_X8_withVoice_b6 (a0 : Nat) (p1 : Int64) (a3 : Nat) : Nat → Int64 → Int32 → Mem → Option (Int64 × Mem)
  | 0, _, _, _ => none
  | n + 1, x4, x6, M => if (9 : Int32) < x6 then (f_X8_withVoice_b37 a0 p1 a3 lfuel x4 0 M) else (cb (f_X8_tellSaying a0 a3 x6 M) fun r47 M48 => vb (f_X8_mixed x4 r47.toInt64 M48) fun r50 => nb (x6 + 1) fun y51 => f_X8_withVoice_b6 a0 p1 a3 n r50 y51 M48)
def f_X8_withVoice (a0 : Nat) (p1 : Int64) (a3 : Nat) (M : Mem) : Option (Int64 × Mem) := f_X8_withVoice_b6 a0 p1 a3 lfuel p1 0 M
set_option maxHeartbeats 4000000 in
set_option maxRecDepth 100000 in
theorem k_X8_withVoice (G : Gt) (hG : gOK G) (l : Launch) (a0 : Nat) (h0 : gK G a0 = 9) (p1 : Int64) (a3 : Nat) (h3 : gK G a3 = 8) (M : Mem) {r : Int64} {M' : Mem} (hf : f_X8_withVoice a0 p1 a3 M = some (r, M')) : Kc G l yX8_withVoice cX8_withVoice 7 (some .long) ({ frames := 6, cells := 0, slots := 0, locals := 135 } : Room) [.ref a0, .long p1, .ref a3] M (some (.long r)) M' := by
  refine start (by decide) (Nat.le_of_ble_eq_true rfl) ?_
  intro p e s m args below meth c ls hx hb hr hown hml hlocks hts hV hM hl
  have hown : s.vm.findClass "FoldedVoices" = some m.cls := hown
  have hK := hG.1.moved hV
  have hS : va_S (gA G) s.heap s.heap [] := va_S.rf
  have hl : lv_has ls 7 [(0, .ref a0), (1, .long p1), (3, .ref a3)] := hl
  have hM0 := hM
  have b173 : ∀ (n : Nat), ∀ (x4 : Int64) (x6 : Int32) (M : Mem) (H : Heap) (locs : List Loc) (ls : Array Slot), Mh G M H → va_S (gA G) s.heap H locs → lv_has ls 7 [(0, .ref a0), (1, .long p1), (3, .ref a3), (4, .long x4), (6, .int x6)] → f_X8_withVoice_b173 a0 p1 a3 n x4 x6 M = some (r, M') → W p l e ({ frames := 6, cells := 0, slots := 0, locals := 135 } : Room) s m args below meth c H locs 0 0 (MQ below (QV G (some (.long r)) M') args s 0 0 (gA G)) (F0 m 173 ls []) := by
    intro n
    induction n with
    | zero =>
      intro x4 x6 M H locs ls hM hS hl hf
      rw [f_X8_withVoice_b173] at hf
      cases hf
    | succ n ih =>
      intro x4 x6 M H locs ls hM hS hl hf
      rw [f_X8_withVoice_b173] at hf
      refine lv_iload hx hb dX8_withVoice_173 (lv_at hl 4 rfl) ?_
      refine lv_iconst (v := 3) hx hb dX8_withVoice_175 (by decide) ?_
      refine lv_icmp_gt (tgt := 200) hx hb dX8_withVoice_176 (by decide) (fun g_1 => ?_) (fun g_1 => ?_)
      · rw [if_pos g_1] at hf
        refine lv_lload hx hb dX8_withVoice_200 (lv_at hl 3 rfl) ?_
        refine lv_aload_n hx hb dX8_withVoice_202 rfl (lv_at hl 2 rfl) ?_
        refine s_getN hx hb (lay_7 hts) hown hK hM (c_8 h3) rfl 1 (by decide) rfl rfl (tk_215 hts) dX8_withVoice_203 ?_
        obtain ⟨r3, e_2, hf⟩ := vb_e hf
        refine c_Vd hx hb hml hown hts hV hK hM hS (As := []) (rest := [.long x4]) (k_X1_meanOfErrors G hG l (a3 + 9) (ky_8_1 hG h3) M e_2) w_X1_meanOfErrors (tk_546 hts) (c_2 (ky_8_1 hG h3)) rfl rfl ⟨⟨rfl, rfl⟩, Nat.le_of_ble_eq_true rfl, Nat.le_of_ble_eq_true rfl⟩ ⟨Nat.zero_le _, Nat.zero_le _⟩ rfl hl.1 rfl (Nat.le_of_ble_eq_true rfl) dX8_withVoice_206 (fun H locs hM hS => ?_)
        obtain ⟨r5, e_4, hf⟩ := vb_e hf
        refine c_Sj hx hb hml hown hts hV hM hS (As := [.double r3]) (rest := [.long x4]) (k_X8_bitsOfDouble G hG l r3 M e_4) w_X8_bitsOfDouble (tk_550 hts) ⟨⟨rfl, rfl⟩, Nat.le_of_ble_eq_true rfl, Nat.le_of_ble_eq_true rfl⟩ ⟨Nat.zero_le _, Nat.zero_le _⟩ rfl hl.1 rfl (Nat.le_of_ble_eq_true rfl) dX8_withVoice_209 (fun H locs hM hS => ?_)
        obtain ⟨r7, e_6, hf⟩ := vb_e hf
        refine c_Sj hx hb hml hown hts hV hM hS (As := [.long x4, .long r5]) (rest := []) (k_X8_mixed G hG l x4 r5 M e_6) w_X8_mixed (tk_479 hts) ⟨⟨rfl, rfl⟩, Nat.le_of_ble_eq_true rfl, Nat.le_of_ble_eq_true rfl⟩ ⟨Nat.zero_le _, Nat.zero_le _⟩ rfl hl.1 rfl (Nat.le_of_ble_eq_true rfl) dX8_withVoice_212 (fun H locs hM hS => ?_)
        exact ef_lm hx hb hr hlocks hM hS hf dX8_withVoice_215
      · rw [if_neg g_1] at hf
        refine lv_lload hx hb dX8_withVoice_179 (lv_at hl 3 rfl) ?_
        refine lv_aload_n hx hb dX8_withVoice_181 rfl (lv_at hl 0 rfl) ?_
        refine lv_aload_n hx hb dX8_withVoice_182 rfl (lv_at hl 2 rfl) ?_
        refine lv_iload hx hb dX8_withVoice_183 (lv_at hl 4 rfl) ?_
        obtain ⟨r9, M10, e_8, hf⟩ := cb_e hf
        refine c_Vi hx hb hml hown hts hV hK hM hS (As := [.ref a3, .int x6]) (rest := [.long x4]) (k_X8_tellIfAllCame G hG l a0 h0 a3 h3 x6 M e_8) w_X8_tellIfAllCame (tk_542 hts) (c_9 h0) rfl rfl ⟨⟨rfl, rfl⟩, Nat.le_of_ble_eq_true rfl, Nat.le_of_ble_eq_true rfl⟩ ⟨Nat.zero_le _, Nat.zero_le _⟩ rfl hl.1 rfl (Nat.le_of_ble_eq_true rfl) dX8_withVoice_185 (fun H locs hM hS => ?_)
        refine lv_i2l hx hb dX8_withVoice_188 rfl ?_
        obtain ⟨r12, e_11, hf⟩ := vb_e hf
        refine c_Sj hx hb hml hown hts hV hM hS (As := [.long x4, .long r9.toInt64]) (rest := []) (k_X8_mixed G hG l x4 r9.toInt64 M10 e_11) w_X8_mixed (tk_479 hts) ⟨⟨rfl, rfl⟩, Nat.le_of_ble_eq_true rfl, Nat.le_of_ble_eq_true rfl⟩ ⟨Nat.zero_le _, Nat.zero_le _⟩ rfl hl.1 rfl (Nat.le_of_ble_eq_true rfl) dX8_withVoice_189 (fun H locs hM hS => ?_)
        refine lv_lstore (lv' := [(4, .long r12), (0, .ref a0), (1, .long p1), (3, .ref a3), (6, .int x6)]) hx hb dX8_withVoice_192 hl (by decide) rfl (fun ls hl => ?_)
        obtain ⟨y13, ey13, hf⟩ := nb_e hf
        refine lv_iinc (v := y13) (lv' := [(6, .int y13), (4, .long r12), (0, .ref a0), (1, .long p1), (3, .ref a3)]) hx hb dX8_withVoice_194 hl (k := 4) rfl (by rw [← ey13]; rfl) (by decide) rfl (fun ls hl => ?_)
        refine lv_goto (tgt := 173) hx hb dX8_withVoice_197 (by decide) ?_
        exact ih r12 y13 _ H locs ls hM hS (lv_sub hl [2, 3, 4, 1, 0] rfl) hf
  have b123 : ∀ (n : Nat), ∀ (x4 : Int64) (x6 : Int32) (M : Mem) (H : Heap) (locs : List Loc) (ls : Array Slot), Mh G M H → va_S (gA G) s.heap H locs → lv_has ls 7 [(0, .ref a0), (1, .long p1), (3, .ref a3), (4, .long x4), (6, .int x6)] → f_X8_withVoice_b123 a0 p1 a3 n x4 x6 M = some (r, M') → W p l e ({ frames := 6, cells := 0, slots := 0, locals := 135 } : Room) s m args below meth c H locs 0 0 (MQ below (QV G (some (.long r)) M') args s 0 0 (gA G)) (F0 m 123 ls []) := by
    intro n
    induction n with
    | zero =>
      intro x4 x6 M H locs ls hM hS hl hf
      rw [f_X8_withVoice_b123] at hf
      cases hf
    | succ n ih =>
      intro x4 x6 M H locs ls hM hS hl hf
      rw [f_X8_withVoice_b123] at hf
      refine lv_iload hx hb dX8_withVoice_123 (lv_at hl 4 rfl) ?_
      refine lv_iconst (v := 4) hx hb dX8_withVoice_125 (by decide) ?_
      refine lv_icmp_gt (tgt := 152) hx hb dX8_withVoice_126 (by decide) (fun g_14 => ?_) (fun g_14 => ?_)
      · rw [if_pos g_14] at hf
        refine lv_lload hx hb dX8_withVoice_152 (lv_at hl 3 rfl) ?_
        refine lv_aload_n hx hb dX8_withVoice_154 rfl (lv_at hl 0 rfl) ?_
        refine lv_aload_n hx hb dX8_withVoice_155 rfl (lv_at hl 2 rfl) ?_
        refine lv_sipush (v := (-500)) hx hb dX8_withVoice_156 (by decide) ?_
        refine lv_bipush (v := 50) hx hb dX8_withVoice_159 (by decide) ?_
        obtain ⟨r16, M17, e_15, hf⟩ := cb_e hf
        refine c_Vi hx hb hml hown hts hV hK hM hS (As := [.ref a3, .int (-500), .int 50]) (rest := [.long x4]) (k_X8_codesToComeNear G hG l a0 h0 a3 h3 (-500) 50 M e_15) w_X8_codesToComeNear (tk_537 hts) (c_9 h0) rfl rfl ⟨⟨rfl, rfl⟩, Nat.le_of_ble_eq_true rfl, Nat.le_of_ble_eq_true rfl⟩ ⟨Nat.zero_le _, Nat.zero_le _⟩ rfl hl.1 rfl (Nat.le_of_ble_eq_true rfl) dX8_withVoice_161 (fun H locs hM hS => ?_)
        refine lv_i2l hx hb dX8_withVoice_164 rfl ?_
        obtain ⟨r19, e_18, hf⟩ := vb_e hf
        refine c_Sj hx hb hml hown hts hV hM hS (As := [.long x4, .long r16.toInt64]) (rest := []) (k_X8_mixed G hG l x4 r16.toInt64 M17 e_18) w_X8_mixed (tk_479 hts) ⟨⟨rfl, rfl⟩, Nat.le_of_ble_eq_true rfl, Nat.le_of_ble_eq_true rfl⟩ ⟨Nat.zero_le _, Nat.zero_le _⟩ rfl hl.1 rfl (Nat.le_of_ble_eq_true rfl) dX8_withVoice_165 (fun H locs hM hS => ?_)
        refine lv_lstore (lv' := [(4, .long r19), (0, .ref a0), (1, .long p1), (3, .ref a3), (6, .int x6)]) hx hb dX8_withVoice_168 hl (by decide) rfl (fun ls hl => ?_)
        refine lv_iconst (v := 0) hx hb dX8_withVoice_170 (by decide) ?_
        refine lv_istore (lv' := [(6, .int 0), (4, .long r19), (0, .ref a0), (1, .long p1), (3, .ref a3)]) hx hb dX8_withVoice_171 hl (by decide) rfl (fun ls hl => ?_)
        exact b173 _ r19 0 _ H locs ls hM hS (lv_sub hl [2, 3, 4, 1, 0] rfl) hf
      · rw [if_neg g_14] at hf
        refine lv_lload hx hb dX8_withVoice_129 (lv_at hl 3 rfl) ?_
        refine lv_aload_n hx hb dX8_withVoice_131 rfl (lv_at hl 0 rfl) ?_
        refine lv_aload_n hx hb dX8_withVoice_132 rfl (lv_at hl 2 rfl) ?_
        refine lv_bipush (v := 100) hx hb dX8_withVoice_133 (by decide) ?_
        refine lv_iload hx hb dX8_withVoice_135 (lv_at hl 4 rfl) ?_
        obtain ⟨r21, M22, e_20, hf⟩ := cb_e hf
        refine c_Vi hx hb hml hown hts hV hK hM hS (As := [.ref a3, .int 100, .int x6]) (rest := [.long x4]) (k_X8_tellCode G hG l a0 h0 a3 h3 100 x6 M e_20) w_X8_tellCode (tk_523 hts) (c_9 h0) rfl rfl ⟨⟨rfl, rfl⟩, Nat.le_of_ble_eq_true rfl, Nat.le_of_ble_eq_true rfl⟩ ⟨Nat.zero_le _, Nat.zero_le _⟩ rfl hl.1 rfl (Nat.le_of_ble_eq_true rfl) dX8_withVoice_137 (fun H locs hM hS => ?_)
        refine lv_i2l hx hb dX8_withVoice_140 rfl ?_
        obtain ⟨r24, e_23, hf⟩ := vb_e hf
        refine c_Sj hx hb hml hown hts hV hM hS (As := [.long x4, .long r21.toInt64]) (rest := []) (k_X8_mixed G hG l x4 r21.toInt64 M22 e_23) w_X8_mixed (tk_479 hts) ⟨⟨rfl, rfl⟩, Nat.le_of_ble_eq_true rfl, Nat.le_of_ble_eq_true rfl⟩ ⟨Nat.zero_le _, Nat.zero_le _⟩ rfl hl.1 rfl (Nat.le_of_ble_eq_true rfl) dX8_withVoice_141 (fun H locs hM hS => ?_)
        refine lv_lstore (lv' := [(4, .long r24), (0, .ref a0), (1, .long p1), (3, .ref a3), (6, .int x6)]) hx hb dX8_withVoice_144 hl (by decide) rfl (fun ls hl => ?_)
        obtain ⟨y25, ey25, hf⟩ := nb_e hf
        refine lv_iinc (v := y25) (lv' := [(6, .int y25), (4, .long r24), (0, .ref a0), (1, .long p1), (3, .ref a3)]) hx hb dX8_withVoice_146 hl (k := 4) rfl (by rw [← ey25]; rfl) (by decide) rfl (fun ls hl => ?_)
        refine lv_goto (tgt := 123) hx hb dX8_withVoice_149 (by decide) ?_
        exact ih r24 y25 _ H locs ls hM hS (lv_sub hl [2, 3, 4, 1, 0] rfl) hf
  have b107 : ∀ (x4 : Int64) (M : Mem) (H : Heap) (locs : List Loc) (ls : Array Slot), Mh G M H → va_S (gA G) s.heap H locs → lv_has ls 7 [(0, .ref a0), (1, .long p1), (3, .ref a3), (4, .long x4)] → f_X8_withVoice_b107 a0 p1 a3 x4 M = some (r, M') → W p l e ({ frames := 6, cells := 0, slots := 0, locals := 135 } : Room) s m args below meth c H locs 0 0 (MQ below (QV G (some (.long r)) M') args s 0 0 (gA G)) (F0 m 107 ls []) := by
    intro x4 M H locs ls hM hS hl hf
    rw [f_X8_withVoice_b107] at hf
    refine lv_lload hx hb dX8_withVoice_107 (lv_at hl 3 rfl) ?_
    refine lv_aload_n hx hb dX8_withVoice_109 rfl (lv_at hl 0 rfl) ?_
    refine lv_aload_n hx hb dX8_withVoice_110 rfl (lv_at hl 2 rfl) ?_
    obtain ⟨r27, M28, e_26, hf⟩ := cb_e hf
    refine c_Vi hx hb hml hown hts hV hK hM hS (As := [.ref a3]) (rest := [.long x4]) (k_X8_tellWhy G hG l a0 h0 a3 h3 M e_26) w_X8_tellWhy (tk_407 hts) (c_9 h0) rfl rfl ⟨⟨rfl, rfl⟩, Nat.le_of_ble_eq_true rfl, Nat.le_of_ble_eq_true rfl⟩ ⟨Nat.zero_le _, Nat.zero_le _⟩ rfl hl.1 rfl (Nat.le_of_ble_eq_true rfl) dX8_withVoice_111 (fun H locs hM hS => ?_)
    refine lv_i2l hx hb dX8_withVoice_114 rfl ?_
    obtain ⟨r30, e_29, hf⟩ := vb_e hf
    refine c_Sj hx hb hml hown hts hV hM hS (As := [.long x4, .long r27.toInt64]) (rest := []) (k_X8_mixed G hG l x4 r27.toInt64 M28 e_29) w_X8_mixed (tk_479 hts) ⟨⟨rfl, rfl⟩, Nat.le_of_ble_eq_true rfl, Nat.le_of_ble_eq_true rfl⟩ ⟨Nat.zero_le _, Nat.zero_le _⟩ rfl hl.1 rfl (Nat.le_of_ble_eq_true rfl) dX8_withVoice_115 (fun H locs hM hS => ?_)
    refine lv_lstore (lv' := [(4, .long r30), (0, .ref a0), (1, .long p1), (3, .ref a3)]) hx hb dX8_withVoice_118 hl (by decide) rfl (fun ls hl => ?_)
    refine lv_iconst (v := 0) hx hb dX8_withVoice_120 (by decide) ?_
    refine lv_istore (lv' := [(6, .int 0), (4, .long r30), (0, .ref a0), (1, .long p1), (3, .ref a3)]) hx hb dX8_withVoice_121 hl (by decide) rfl (fun ls hl => ?_)
    exact b123 _ r30 0 _ H locs ls hM hS (lv_sub hl [2, 3, 4, 1, 0] rfl) hf
  have b68 : ∀ (n : Nat), ∀ (x4 : Int64) (x6 : Int32) (M : Mem) (H : Heap) (locs : List Loc) (ls : Array Slot), Mh G M H → va_S (gA G) s.heap H locs → lv_has ls 7 [(0, .ref a0), (1, .long p1), (3, .ref a3), (4, .long x4), (6, .int x6)] → f_X8_withVoice_b68 a0 p1 a3 n x4 x6 M = some (r, M') → W p l e ({ frames := 6, cells := 0, slots := 0, locals := 135 } : Room) s m args below meth c H locs 0 0 (MQ below (QV G (some (.long r)) M') args s 0 0 (gA G)) (F0 m 68 ls []) := by
    intro n
    induction n with
    | zero =>
      intro x4 x6 M H locs ls hM hS hl hf
      rw [f_X8_withVoice_b68] at hf
      cases hf
    | succ n ih =>
      intro x4 x6 M H locs ls hM hS hl hf
      rw [f_X8_withVoice_b68] at hf
      refine lv_iload hx hb dX8_withVoice_68 (lv_at hl 4 rfl) ?_
      refine lv_aload_n hx hb dX8_withVoice_70 rfl (lv_at hl 2 rfl) ?_
      refine s_getN hx hb (lay_7 hts) hown hK hM (c_8 h3) rfl 3 (by decide) rfl rfl (tk_219 hts) dX8_withVoice_71 ?_
      refine lv_icmp_ge (tgt := 107) hx hb dX8_withVoice_74 (by decide) (fun g_31 => ?_) (fun g_31 => ?_)
      · rw [if_pos g_31] at hf
        exact b107 x4 _ H locs ls hM hS (lv_sub hl [0, 1, 2, 3] rfl) hf
      · rw [if_neg g_31] at hf
        refine lv_iload hx hb dX8_withVoice_77 (lv_at hl 4 rfl) ?_
        refine lv_aload_n hx hb dX8_withVoice_79 rfl (lv_at hl 2 rfl) ?_
        refine s_getN hx hb (lay_7 hts) hown hK hM (c_8 h3) rfl 2 (by decide) rfl rfl (tk_217 hts) dX8_withVoice_80 ?_
        refine s_alen 2 hx hb hK hM (cel_pa (ky_8_2 hG h3)) rfl (v := 8) (show Int32.ofNat 8 = 8 from by decide) dX8_withVoice_83 ?_
        refine lv_icmp_ge (tgt := 107) hx hb dX8_withVoice_84 (by decide) (fun g_32 => ?_) (fun g_32 => ?_)
        · rw [if_pos g_32] at hf
          exact b107 x4 _ H locs ls hM hS (lv_sub hl [0, 1, 2, 3] rfl) hf
        · rw [if_neg g_32] at hf
          refine lv_lload hx hb dX8_withVoice_87 (lv_at hl 3 rfl) ?_
          refine lv_aload_n hx hb dX8_withVoice_89 rfl (lv_at hl 2 rfl) ?_
          refine s_getN hx hb (lay_7 hts) hown hK hM (c_8 h3) rfl 2 (by decide) rfl rfl (tk_217 hts) dX8_withVoice_90 ?_
          refine lv_iload hx hb dX8_withVoice_93 (lv_at hl 4 rfl) ?_
          obtain ⟨h_33, hf⟩ := gd_e hf
          refine s_paald hx hb hK hM (ky_8_2 hG h3) h_33 dX8_withVoice_95 (fun h_34 => ?_)
          obtain ⟨z35, ez35, hf⟩ := nb_e hf
          refine s_nmr ez35 ?_
          have h_z35 : gK G z35 = 3 := ez35 ▸ h_34
          obtain ⟨r37, e_36, hf⟩ := vb_e hf
          refine c_Sj hx hb hml hown hts hV hM hS (As := [.long x4, .ref z35]) (rest := []) (k_X8_withPacket G hG l x4 z35 h_z35 M e_36) w_X8_withPacket (tk_511 hts) ⟨⟨rfl, rfl⟩, Nat.le_of_ble_eq_true rfl, Nat.le_of_ble_eq_true rfl⟩ ⟨Nat.zero_le _, Nat.zero_le _⟩ rfl hl.1 rfl (Nat.le_of_ble_eq_true rfl) dX8_withVoice_96 (fun H locs hM hS => ?_)
          refine lv_lstore (lv' := [(4, .long r37), (0, .ref a0), (1, .long p1), (3, .ref a3), (6, .int x6)]) hx hb dX8_withVoice_99 hl (by decide) rfl (fun ls hl => ?_)
          obtain ⟨y38, ey38, hf⟩ := nb_e hf
          refine lv_iinc (v := y38) (lv' := [(6, .int y38), (4, .long r37), (0, .ref a0), (1, .long p1), (3, .ref a3)]) hx hb dX8_withVoice_101 hl (k := 4) rfl (by rw [← ey38]; rfl) (by decide) rfl (fun ls hl => ?_)
          refine lv_goto (tgt := 68) hx hb dX8_withVoice_104 (by decide) ?_
          exact ih r37 y38 _ H locs ls hM hS (lv_sub hl [2, 3, 4, 1, 0] rfl) hf
  have b37 : ∀ (n : Nat), ∀ (x4 : Int64) (x6 : Int32) (M : Mem) (H : Heap) (locs : List Loc) (ls : Array Slot), Mh G M H → va_S (gA G) s.heap H locs → lv_has ls 7 [(0, .ref a0), (1, .long p1), (3, .ref a3), (4, .long x4), (6, .int x6)] → f_X8_withVoice_b37 a0 p1 a3 n x4 x6 M = some (r, M') → W p l e ({ frames := 6, cells := 0, slots := 0, locals := 135 } : Room) s m args below meth c H locs 0 0 (MQ below (QV G (some (.long r)) M') args s 0 0 (gA G)) (F0 m 37 ls []) := by
    intro n
    induction n with
    | zero =>
      intro x4 x6 M H locs ls hM hS hl hf
      rw [f_X8_withVoice_b37] at hf
      cases hf
    | succ n ih =>
      intro x4 x6 M H locs ls hM hS hl hf
      rw [f_X8_withVoice_b37] at hf
      refine lv_iload hx hb dX8_withVoice_37 (lv_at hl 4 rfl) ?_
      refine lv_bipush (v := 11) hx hb dX8_withVoice_39 (by decide) ?_
      refine lv_icmp_gt (tgt := 65) hx hb dX8_withVoice_41 (by decide) (fun g_39 => ?_) (fun g_39 => ?_)
      · rw [if_pos g_39] at hf
        refine lv_iconst (v := 0) hx hb dX8_withVoice_65 (by decide) ?_
        refine lv_istore (lv' := [(6, .int 0), (0, .ref a0), (1, .long p1), (3, .ref a3), (4, .long x4)]) hx hb dX8_withVoice_66 hl (by decide) rfl (fun ls hl => ?_)
        exact b68 _ x4 0 _ H locs ls hM hS (lv_sub hl [1, 2, 3, 4, 0] rfl) hf
      · rw [if_neg g_39] at hf
        refine lv_lload hx hb dX8_withVoice_44 (lv_at hl 3 rfl) ?_
        refine lv_aload_n hx hb dX8_withVoice_46 rfl (lv_at hl 0 rfl) ?_
        refine lv_aload_n hx hb dX8_withVoice_47 rfl (lv_at hl 2 rfl) ?_
        refine lv_iload hx hb dX8_withVoice_48 (lv_at hl 4 rfl) ?_
        obtain ⟨r41, e_40, hf⟩ := vb_e hf
        refine c_Vi hx hb hml hown hts hV hK hM hS (As := [.ref a3, .int x6]) (rest := [.long x4]) (k_X8_tellHearing G hG l a0 h0 a3 h3 x6 M e_40) w_X8_tellHearing (tk_502 hts) (c_9 h0) rfl rfl ⟨⟨rfl, rfl⟩, Nat.le_of_ble_eq_true rfl, Nat.le_of_ble_eq_true rfl⟩ ⟨Nat.zero_le _, Nat.zero_le _⟩ rfl hl.1 rfl (Nat.le_of_ble_eq_true rfl) dX8_withVoice_50 (fun H locs hM hS => ?_)
        refine lv_i2l hx hb dX8_withVoice_53 rfl ?_
        obtain ⟨r43, e_42, hf⟩ := vb_e hf
        refine c_Sj hx hb hml hown hts hV hM hS (As := [.long x4, .long r41.toInt64]) (rest := []) (k_X8_mixed G hG l x4 r41.toInt64 M e_42) w_X8_mixed (tk_479 hts) ⟨⟨rfl, rfl⟩, Nat.le_of_ble_eq_true rfl, Nat.le_of_ble_eq_true rfl⟩ ⟨Nat.zero_le _, Nat.zero_le _⟩ rfl hl.1 rfl (Nat.le_of_ble_eq_true rfl) dX8_withVoice_54 (fun H locs hM hS => ?_)
        refine lv_lstore (lv' := [(4, .long r43), (0, .ref a0), (1, .long p1), (3, .ref a3), (6, .int x6)]) hx hb dX8_withVoice_57 hl (by decide) rfl (fun ls hl => ?_)
        obtain ⟨y44, ey44, hf⟩ := nb_e hf
        refine lv_iinc (v := y44) (lv' := [(6, .int y44), (4, .long r43), (0, .ref a0), (1, .long p1), (3, .ref a3)]) hx hb dX8_withVoice_59 hl (k := 4) rfl (by rw [← ey44]; rfl) (by decide) rfl (fun ls hl => ?_)
        refine lv_goto (tgt := 37) hx hb dX8_withVoice_62 (by decide) ?_
        exact ih r43 y44 _ H locs ls hM hS (lv_sub hl [2, 3, 4, 1, 0] rfl) hf
  have b6 : ∀ (n : Nat), ∀ (x4 : Int64) (x6 : Int32) (M : Mem) (H : Heap) (locs : List Loc) (ls : Array Slot), Mh G M H → va_S (gA G) s.heap H locs → lv_has ls 7 [(0, .ref a0), (1, .long p1), (3, .ref a3), (4, .long x4), (6, .int x6)] → f_X8_withVoice_b6 a0 p1 a3 n x4 x6 M = some (r, M') → W p l e ({ frames := 6, cells := 0, slots := 0, locals := 135 } : Room) s m args below meth c H locs 0 0 (MQ below (QV G (some (.long r)) M') args s 0 0 (gA G)) (F0 m 6 ls []) := by
    intro n
    induction n with
    | zero =>
      intro x4 x6 M H locs ls hM hS hl hf
      rw [f_X8_withVoice_b6] at hf
      cases hf
    | succ n ih =>
      intro x4 x6 M H locs ls hM hS hl hf
      rw [f_X8_withVoice_b6] at hf
      refine lv_iload hx hb dX8_withVoice_6 (lv_at hl 4 rfl) ?_
      refine lv_bipush (v := 9) hx hb dX8_withVoice_8 (by decide) ?_
      refine lv_icmp_gt (tgt := 34) hx hb dX8_withVoice_10 (by decide) (fun g_45 => ?_) (fun g_45 => ?_)
      · rw [if_pos g_45] at hf
        refine lv_iconst (v := 0) hx hb dX8_withVoice_34 (by decide) ?_
        refine lv_istore (lv' := [(6, .int 0), (0, .ref a0), (1, .long p1), (3, .ref a3), (4, .long x4)]) hx hb dX8_withVoice_35 hl (by decide) rfl (fun ls hl => ?_)
        exact b37 _ x4 0 _ H locs ls hM hS (lv_sub hl [1, 2, 3, 4, 0] rfl) hf
      · rw [if_neg g_45] at hf
        refine lv_lload hx hb dX8_withVoice_13 (lv_at hl 3 rfl) ?_
        refine lv_aload_n hx hb dX8_withVoice_15 rfl (lv_at hl 0 rfl) ?_
        refine lv_aload_n hx hb dX8_withVoice_16 rfl (lv_at hl 2 rfl) ?_
        refine lv_iload hx hb dX8_withVoice_17 (lv_at hl 4 rfl) ?_
        obtain ⟨r47, M48, e_46, hf⟩ := cb_e hf
        refine c_Vi hx hb hml hown hts hV hK hM hS (As := [.ref a3, .int x6]) (rest := [.long x4]) (k_X8_tellSaying G hG l a0 h0 a3 h3 x6 M e_46) w_X8_tellSaying (tk_491 hts) (c_9 h0) rfl rfl ⟨⟨rfl, rfl⟩, Nat.le_of_ble_eq_true rfl, Nat.le_of_ble_eq_true rfl⟩ ⟨Nat.zero_le _, Nat.zero_le _⟩ rfl hl.1 rfl (Nat.le_of_ble_eq_true rfl) dX8_withVoice_19 (fun H locs hM hS => ?_)
        refine lv_i2l hx hb dX8_withVoice_22 rfl ?_
        obtain ⟨r50, e_49, hf⟩ := vb_e hf
        refine c_Sj hx hb hml hown hts hV hM hS (As := [.long x4, .long r47.toInt64]) (rest := []) (k_X8_mixed G hG l x4 r47.toInt64 M48 e_49) w_X8_mixed (tk_479 hts) ⟨⟨rfl, rfl⟩, Nat.le_of_ble_eq_true rfl, Nat.le_of_ble_eq_true rfl⟩ ⟨Nat.zero_le _, Nat.zero_le _⟩ rfl hl.1 rfl (Nat.le_of_ble_eq_true rfl) dX8_withVoice_23 (fun H locs hM hS => ?_)
        refine lv_lstore (lv' := [(4, .long r50), (0, .ref a0), (1, .long p1), (3, .ref a3), (6, .int x6)]) hx hb dX8_withVoice_26 hl (by decide) rfl (fun ls hl => ?_)
        obtain ⟨y51, ey51, hf⟩ := nb_e hf
        refine lv_iinc (v := y51) (lv' := [(6, .int y51), (4, .long r50), (0, .ref a0), (1, .long p1), (3, .ref a3)]) hx hb dX8_withVoice_28 hl (k := 4) rfl (by rw [← ey51]; rfl) (by decide) rfl (fun ls hl => ?_)
        refine lv_goto (tgt := 6) hx hb dX8_withVoice_31 (by decide) ?_
        exact ih r50 y51 _ H locs ls hM hS (lv_sub hl [2, 3, 4, 1, 0] rfl) hf
  rw [f_X8_withVoice] at hf
  obtain ⟨H, hHe⟩ : ∃ H, H = s.heap := ⟨_, rfl⟩
  obtain ⟨locs, hLe⟩ : ∃ L : List Loc, L = [] := ⟨_, rfl⟩
  rw [← hHe] at hM
  have hS : va_S (gA G) s.heap H locs := by rw [hHe, hLe]; exact va_S.rf
  suffices hW : W p l e ({ frames := 6, cells := 0, slots := 0, locals := 135 } : Room) s m args below meth c H locs 0 0 (MQ below (QV G (some (.long r)) M') args s 0 0 (gA G)) (F0 m 0 ls []) by rw [hHe, hLe] at hW; exact hW
  refine lv_lload_n hx hb dX8_withVoice_0 rfl (lv_at hl 1 rfl) ?_
  refine lv_lstore (lv' := [(4, .long p1), (0, .ref a0), (1, .long p1), (3, .ref a3)]) hx hb dX8_withVoice_1 hl (by decide) rfl (fun ls hl => ?_)
  refine lv_iconst (v := 0) hx hb dX8_withVoice_3 (by decide) ?_
  refine lv_istore (lv' := [(6, .int 0), (4, .long p1), (0, .ref a0), (1, .long p1), (3, .ref a3)]) hx hb dX8_withVoice_4 hl (by decide) rfl (fun ls hl => ?_)
  exact b6 _ p1 0 _ H locs ls hM hS (lv_sub hl [2, 3, 4, 1, 0] rfl) hf
def f_X8_bitsOfFloat (p0 : UInt32) (M : Mem) : Option Int64 := if 0 < (Op.cmpValue (FP.fcmp p0 FP.fconst0) .l) then (gd ((FP.f2d p0) &&& 0x7fffffffffffffff ≤ 0x7ff0000000000000) <| vb (f_X8_bitsOfDouble (FP.f2d p0) M) fun r4 => nb (((r4 >>> ((52 : Int32).toInt64 &&& 63)) - (1023 : Int64)) + (127 : Int64)) fun y5 => nb ((r4 &&& (4503599627370495 : Int64)) >>> ((29 : Int32).toInt64 &&& 63)) fun y6 => some ((y5 <<< ((23 : Int32).toInt64 &&& 63)) + y6)) else (some (0 : Int64))
set_option maxHeartbeats 4000000 in
set_option maxRecDepth 100000 in
theorem k_X8_bitsOfFloat (G : Gt) (hG : gOK G) (l : Launch) (p0 : UInt32) (M : Mem) {r : Int64} (hf : f_X8_bitsOfFloat p0 M = some r) : Kc G l yX8_bitsOfFloat cX8_bitsOfFloat 7 (some .long) ({ frames := 1, cells := 0, slots := 0, locals := 26 } : Room) [.float p0] M (some (.long r)) M := by
  refine start (by decide) (Nat.le_of_ble_eq_true rfl) ?_
  intro p e s m args below meth c ls hx hb hr hown hml hlocks hts hV hM hl
  have hown : s.vm.findClass "FoldedVoices" = some m.cls := hown
  have hK := hG.1.moved hV
  have hS : va_S (gA G) s.heap s.heap [] := va_S.rf
  have hl : lv_has ls 7 [(0, .float p0)] := hl
  have hM0 := hM
  rw [f_X8_bitsOfFloat] at hf
  refine lv_fload_n hx hb dX8_bitsOfFloat_0 rfl (lv_at hl 0 rfl) ?_
  refine lv_fconst0 hx hb dX8_bitsOfFloat_1 ?_
  refine lv_fcmp hx hb dX8_bitsOfFloat_2 ?_
  refine lv_if_gt (tgt := 8) hx hb dX8_bitsOfFloat_3 (by decide) (fun g_1 => ?_) (fun g_1 => ?_)
  · rw [if_pos g_1] at hf
    refine lv_fload_n hx hb dX8_bitsOfFloat_8 rfl (lv_at hl 0 rfl) ?_
    obtain ⟨h_2, hf⟩ := gd_e hf
    refine lv_f2d hx hb dX8_bitsOfFloat_9 h_2 ?_
    obtain ⟨r4, e_3, hf⟩ := vb_e hf
    refine c_Sj hx hb hml hown hts hV hM hS (As := [.double (FP.f2d p0)]) (rest := []) (k_X8_bitsOfDouble G hG l (FP.f2d p0) M e_3) w_X8_bitsOfDouble (tk_550 hts) ⟨⟨rfl, rfl⟩, Nat.le_of_ble_eq_true rfl, Nat.le_of_ble_eq_true rfl⟩ ⟨Nat.zero_le _, Nat.zero_le _⟩ rfl hl.1 rfl (Nat.le_of_ble_eq_true rfl) dX8_bitsOfFloat_10 (fun H locs hM hS => ?_)
    refine lv_lstore_n (lv' := [(1, .long r4), (0, .float p0)]) hx hb dX8_bitsOfFloat_13 rfl hl (by decide) rfl (fun ls hl => ?_)
    refine lv_lload_n hx hb dX8_bitsOfFloat_14 rfl (lv_at hl 0 rfl) ?_
    refine lv_bipush (v := 52) hx hb dX8_bitsOfFloat_15 (by decide) ?_
    refine lv_lshr hx hb dX8_bitsOfFloat_17 rfl ?_
    refine lv_ldc2 hx hb hown (tk_553 hts) dX8_bitsOfFloat_18 ?_
    refine lv_lsub hx hb dX8_bitsOfFloat_21 ?_
    refine lv_ldc2 hx hb hown (tk_559 hts) dX8_bitsOfFloat_22 ?_
    refine lv_ladd hx hb dX8_bitsOfFloat_25 ?_
    obtain ⟨y5, ey5, hf⟩ := nb_e hf
    refine s_nml ey5 ?_
    refine lv_lstore_n (lv' := [(3, .long y5), (1, .long r4), (0, .float p0)]) hx hb dX8_bitsOfFloat_26 rfl hl (by decide) rfl (fun ls hl => ?_)
    refine lv_lload_n hx hb dX8_bitsOfFloat_27 rfl (lv_at hl 1 rfl) ?_
    refine lv_ldc2 hx hb hown (tk_560 hts) dX8_bitsOfFloat_28 ?_
    refine lv_land hx hb dX8_bitsOfFloat_31 ?_
    refine lv_bipush (v := 29) hx hb dX8_bitsOfFloat_32 (by decide) ?_
    refine lv_lshr hx hb dX8_bitsOfFloat_34 rfl ?_
    obtain ⟨y6, ey6, hf⟩ := nb_e hf
    refine s_nml ey6 ?_
    refine lv_lstore (lv' := [(5, .long y6), (3, .long y5), (1, .long r4), (0, .float p0)]) hx hb dX8_bitsOfFloat_35 hl (by decide) rfl (fun ls hl => ?_)
    refine lv_lload_n hx hb dX8_bitsOfFloat_37 rfl (lv_at hl 1 rfl) ?_
    refine lv_bipush (v := 23) hx hb dX8_bitsOfFloat_38 (by decide) ?_
    refine lv_lshl hx hb dX8_bitsOfFloat_40 rfl ?_
    refine lv_lload hx hb dX8_bitsOfFloat_41 (lv_at hl 0 rfl) ?_
    refine lv_ladd hx hb dX8_bitsOfFloat_43 ?_
    exact ef_lp hx hb hr hlocks hM hS hf dX8_bitsOfFloat_44
  · rw [if_neg g_1] at hf
    refine lv_lconst (v := 0) hx hb dX8_bitsOfFloat_6 (by decide) ?_
    exact ef_lp hx hb hr hlocks hM hS hf dX8_bitsOfFloat_7
