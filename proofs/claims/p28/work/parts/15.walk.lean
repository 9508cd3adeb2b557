def f_X8_flush (a0 : Nat) (p1 : Int32) (M : Mem) : Option (Nat × Int32 × Mem) := xb 0 (f_X8_voiceOf a0 p1 M) fun r2 M3 => nb (mI M3 ((r2 + 1) + 2) 2) fun y4 => if y4 = 0 then (some (3, 0, M3)) else (vb (f_X7_hasRoom r2 M3) fun r7 => if r7 = 0 then (some (3, 0, M3)) else (vb (f_X8_saveLive a0 M3) fun M10 => vb (f_X7_closePacket r2 ((a0 + 1) + 2) M10) fun M12 => some (0, y4, M12)))
set_option maxHeartbeats 4000000 in
set_option maxRecDepth 100000 in
theorem k_X8_flush (G : Gt) (hG : gOK G) (l : Launch) (a0 : Nat) (h0 : gK G a0 = 9) (p1 : Int32) (M : Mem) {r : Int32} {M' : Mem} (hf : f_X8_flush a0 p1 M = some (0, r, M')) : Kc G l yX8_flush cX8_flush 4 (some .int) ({ frames := 7, cells := 0, slots := 0, locals := 132 } : Room) [.ref a0, .int p1] M (some (.int r)) M' := by
  refine start (by decide) (Nat.le_of_ble_eq_true rfl) ?_
  intro p e s m args below meth c ls hx hb hr hown hml hlocks hts hV hM hl
  have hown : s.vm.findClass "FoldedVoices" = some m.cls := hown
  have hK := hG.1.moved hV
  have hS : va_S (gA G) s.heap s.heap [] := va_S.rf
  have hl : lv_has ls 4 [(0, .ref a0), (1, .int p1)] := hl
  have hM0 := hM
  rw [f_X8_flush] at hf
  refine lv_aload_n hx hb dX8_flush_0 rfl (lv_at hl 0 rfl) ?_
  refine lv_iload_n hx hb dX8_flush_1 rfl (lv_at hl 1 rfl) ?_
  obtain ⟨r2, M3, e_1, hf⟩ := xb_r hf
  refine c_Vr hx hb hml hown hts hV hK hM hS (As := [.int p1]) (rest := []) (k_X8_voiceOf G hG l a0 h0 p1 M e_1) w_X8_voiceOf (tk_306 hts) (c_9 h0) rfl rfl ⟨⟨rfl, rfl⟩, Nat.le_of_ble_eq_true rfl, Nat.le_of_ble_eq_true rfl⟩ ⟨Nat.zero_le _, Nat.zero_le _⟩ rfl hl.1 rfl (Nat.le_of_ble_eq_true rfl) dX8_flush_2 (fun H locs hM hS => ?_)
  have h_r2 := kr_X8_voiceOf hG a0 h0 p1 e_1
  refine lv_astore_n (lv' := [(2, .ref r2), (0, .ref a0), (1, .int p1)]) hx hb dX8_flush_5 rfl hl (by decide) rfl (fun ls hl => ?_)
  refine lv_aload_n hx hb dX8_flush_6 rfl (lv_at hl 0 rfl) ?_
  refine s_getN hx hb (lay_7 hts) hown hK hM (c_8 h_r2) rfl 0 (by decide) rfl rfl (tk_210 hts) dX8_flush_7 ?_
  refine s_getN hx hb (lay_3 hts) hown hK hM (c_4 (ky_8_0 hG h_r2)) rfl 4 (by decide) rfl rfl (tk_125 hts) dX8_flush_10 ?_
  refine s_getN hx hb (lay_2 hts) hown hK hM (c_3 (ky_4_4 hG (ky_8_0 hG h_r2))) rfl 2 (by decide) rfl rfl (tk_87 hts) dX8_flush_13 ?_
  obtain ⟨y4, ey4, hf⟩ := nb_e hf
  refine s_nm ey4 ?_
  refine lv_istore_n (lv' := [(3, .int y4), (2, .ref r2), (0, .ref a0), (1, .int p1)]) hx hb dX8_flush_16 rfl hl (by decide) rfl (fun ls hl => ?_)
  refine lv_iload_n hx hb dX8_flush_17 rfl (lv_at hl 0 rfl) ?_
  refine lv_if_ne (tgt := 31) hx hb dX8_flush_18 (by decide) (fun g_5 => ?_) (fun g_5 => ?_)
  · rw [if_neg g_5] at hf
    refine lv_aload_n hx hb dX8_flush_31 rfl (lv_at hl 1 rfl) ?_
    obtain ⟨r7, e_6, hf⟩ := vb_e hf
    refine c_Vi hx hb hml hown hts hV hK hM hS (As := []) (rest := []) (k_X7_hasRoom G hG l r2 h_r2 M3 e_6) w_X7_hasRoom (tk_670 hts) (c_8 h_r2) rfl rfl ⟨⟨rfl, rfl⟩, Nat.le_of_ble_eq_true rfl, Nat.le_of_ble_eq_true rfl⟩ ⟨Nat.zero_le _, Nat.zero_le _⟩ rfl hl.1 rfl (Nat.le_of_ble_eq_true rfl) dX8_flush_32 (fun H locs hM hS => ?_)
    refine lv_if_ne (tgt := 48) hx hb dX8_flush_35 (by decide) (fun g_8 => ?_) (fun g_8 => ?_)
    · rw [if_neg g_8] at hf
      refine lv_aload_n hx hb dX8_flush_48 rfl (lv_at hl 2 rfl) ?_
      obtain ⟨M10, e_9, hf⟩ := vb_e hf
      refine c_Vv hx hb hml hown hts hV hK hM hS (As := []) (rest := []) (k_X8_saveLive G hG l a0 h0 M3 e_9) w_X8_saveLive (tk_675 hts) (c_9 h0) rfl rfl ⟨⟨rfl, rfl⟩, Nat.le_of_ble_eq_true rfl, Nat.le_of_ble_eq_true rfl⟩ ⟨Nat.zero_le _, Nat.zero_le _⟩ rfl hl.1 rfl (Nat.le_of_ble_eq_true rfl) dX8_flush_49 (fun H locs hM hS => ?_)
      refine lv_aload_n hx hb dX8_flush_52 rfl (lv_at hl 1 rfl) ?_
      refine lv_aload_n hx hb dX8_flush_53 rfl (lv_at hl 2 rfl) ?_
      refine s_get hx hb (lay_8 hts) hown hK hM (c_9 h0) rfl 0 (by decide) rfl rfl (tk_267 hts) dX8_flush_54 ?_
      refine s_getN hx hb (lay_5 hts) hown hK hM (c_6 (ky_9_0 hG h0)) rfl 1 (by decide) rfl rfl (tk_233 hts) dX8_flush_57 ?_
      obtain ⟨M12, e_11, hf⟩ := vb_e hf
      refine c_Vv hx hb hml hown hts hV hK hM hS (As := [.ref ((a0 + 1) + 2)]) (rest := []) (k_X7_closePacket G hG l r2 h_r2 ((a0 + 1) + 2) (ky_6_1 hG (ky_9_0 hG h0)) M10 e_11) w_X7_closePacket (tk_710 hts) (c_8 h_r2) rfl rfl ⟨⟨rfl, rfl⟩, Nat.le_of_ble_eq_true rfl, Nat.le_of_ble_eq_true rfl⟩ ⟨Nat.zero_le _, Nat.zero_le _⟩ rfl hl.1 rfl (Nat.le_of_ble_eq_true rfl) dX8_flush_60 (fun H locs hM hS => ?_)
      refine lv_iload_n hx hb dX8_flush_63 rfl (lv_at hl 0 rfl) ?_
      exact ef_ix hx hb hr hlocks hM hS hf dX8_flush_64
    · rw [if_pos g_8] at hf
      exact (xf_no2 hf (by decide)).elim
  · rw [if_pos g_5] at hf
    exact (xf_no2 hf (by decide)).elim
def f_X8_requireWaiting (a0 : Nat) (p1 : Int32) (M : Mem) : Option (Nat × Unit × Mem) := if p1 ≤ (mI M a0 3) then (some (0, (), M)) else (some (3, (), M))
set_option maxHeartbeats 4000000 in
set_option maxRecDepth 100000 in
theorem k_X8_requireWaiting (G : Gt) (hG : gOK G) (l : Launch) (a0 : Nat) (h0 : gK G a0 = 8) (p1 : Int32) (M : Mem) {r : Unit} {M' : Mem} (hf : f_X8_requireWaiting a0 p1 M = some (0, r, M')) : Kc G l yX8_requireWaiting cX8_requireWaiting 2 none ({ frames := 6, cells := 0, slots := 0, locals := 82 } : Room) [.ref a0, .int p1] M none M' := by
  refine start (by decide) (Nat.le_of_ble_eq_true rfl) ?_
  intro p e s m args below meth c ls hx hb hr hown hml hlocks hts hV hM hl
  have hown : s.vm.findClass "FoldedVoices" = some m.cls := hown
  have hK := hG.1.moved hV
  have hS : va_S (gA G) s.heap s.heap [] := va_S.rf
  have hl : lv_has ls 2 [(0, .ref a0), (1, .int p1)] := hl
  have hM0 := hM
  rw [f_X8_requireWaiting] at hf
  refine lv_aload_n hx hb dX8_requireWaiting_0 rfl (lv_at hl 0 rfl) ?_
  refine s_getN hx hb (lay_7 hts) hown hK hM (c_8 h0) rfl 3 (by decide) rfl rfl (tk_216 hts) dX8_requireWaiting_1 ?_
  refine lv_iload_n hx hb dX8_requireWaiting_4 rfl (lv_at hl 1 rfl) ?_
  refine lv_icmp_ge (tgt := 19) hx hb dX8_requireWaiting_5 (by decide) (fun g_1 => ?_) (fun g_1 => ?_)
  · rw [if_pos g_1] at hf
    exact ef_vx hx hb hr hlocks hM hS hf dX8_requireWaiting_19
  · rw [if_neg g_1] at hf
    exact (xf_no2 hf (by decide)).elim
def f_X8_deliver (a0 : Nat) (p1 : Int32) (M : Mem) : Option (Nat × Int32 × Mem) := xb 0 (f_X8_voiceOf a0 p1 M) fun r2 M3 => xb 0 (f_X8_requireWaiting r2 1 M3) fun r5 M6 => vb (f_X8_saveLive a0 M6) fun M8 => cb (f_X7_bringFirst r2 M8) fun r10 M11 => some (0, r10, M11)
set_option maxHeartbeats 4000000 in
set_option maxRecDepth 100000 in
theorem k_X8_deliver (G : Gt) (hG : gOK G) (l : Launch) (a0 : Nat) (h0 : gK G a0 = 9) (p1 : Int32) (M : Mem) {r : Int32} {M' : Mem} (hf : f_X8_deliver a0 p1 M = some (0, r, M')) : Kc G l yX8_deliver cX8_deliver 3 (some .int) ({ frames := 7, cells := 0, slots := 0, locals := 132 } : Room) [.ref a0, .int p1] M (some (.int r)) M' := by
  refine start (by decide) (Nat.le_of_ble_eq_true rfl) ?_
  intro p e s m args below meth c ls hx hb hr hown hml hlocks hts hV hM hl
  have hown : s.vm.findClass "FoldedVoices" = some m.cls := hown
  have hK := hG.1.moved hV
  have hS : va_S (gA G) s.heap s.heap [] := va_S.rf
  have hl : lv_has ls 3 [(0, .ref a0), (1, .int p1)] := hl
  have hM0 := hM
  rw [f_X8_deliver] at hf
  refine lv_aload_n hx hb dX8_deliver_0 rfl (lv_at hl 0 rfl) ?_
  refine lv_iload_n hx hb dX8_deliver_1 rfl (lv_at hl 1 rfl) ?_
  obtain ⟨r2, M3, e_1, hf⟩ := xb_r hf
  refine c_Vr hx hb hml hown hts hV hK hM hS (As := [.int p1]) (rest := []) (k_X8_voiceOf G hG l a0 h0 p1 M e_1) w_X8_voiceOf (tk_306 hts) (c_9 h0) rfl rfl ⟨⟨rfl, rfl⟩, Nat.le_of_ble_eq_true rfl, Nat.le_of_ble_eq_true rfl⟩ ⟨Nat.zero_le _, Nat.zero_le _⟩ rfl hl.1 rfl (Nat.le_of_ble_eq_true rfl) dX8_deliver_2 (fun H locs hM hS => ?_)
  have h_r2 := kr_X8_voiceOf hG a0 h0 p1 e_1
  refine lv_astore_n (lv' := [(2, .ref r2), (0, .ref a0), (1, .int p1)]) hx hb dX8_deliver_5 rfl hl (by decide) rfl (fun ls hl => ?_)
  refine lv_aload_n hx hb dX8_deliver_6 rfl (lv_at hl 0 rfl) ?_
  refine lv_iconst (v := 1) hx hb dX8_deliver_7 (by decide) ?_
  obtain ⟨r5, M6, e_4, hf⟩ := xb_r hf
  refine c_Sv hx hb hml hown hts hV hM hS (As := [.ref r2, .int 1]) (rest := []) (k_X8_requireWaiting G hG l r2 h_r2 1 M3 e_4) w_X8_requireWaiting (tk_728 hts) ⟨⟨rfl, rfl⟩, Nat.le_of_ble_eq_true rfl, Nat.le_of_ble_eq_true rfl⟩ ⟨Nat.zero_le _, Nat.zero_le _⟩ rfl hl.1 rfl (Nat.le_of_ble_eq_true rfl) dX8_deliver_8 (fun H locs hM hS => ?_)
  refine lv_aload_n hx hb dX8_deliver_11 rfl (lv_at hl 1 rfl) ?_
  obtain ⟨M8, e_7, hf⟩ := vb_e hf
  refine c_Vv hx hb hml hown hts hV hK hM hS (As := []) (rest := []) (k_X8_saveLive G hG l a0 h0 M6 e_7) w_X8_saveLive (tk_675 hts) (c_9 h0) rfl rfl ⟨⟨rfl, rfl⟩, Nat.le_of_ble_eq_true rfl, Nat.le_of_ble_eq_true rfl⟩ ⟨Nat.zero_le _, Nat.zero_le _⟩ rfl hl.1 rfl (Nat.le_of_ble_eq_true rfl) dX8_deliver_12 (fun H locs hM hS => ?_)
  refine lv_aload_n hx hb dX8_deliver_15 rfl (lv_at hl 0 rfl) ?_
  obtain ⟨r10, M11, e_9, hf⟩ := cb_e hf
  refine c_Vi hx hb hml hown hts hV hK hM hS (As := []) (rest := []) (k_X7_bringFirst G hG l r2 h_r2 M8 e_9) w_X7_bringFirst (tk_768 hts) (c_8 h_r2) rfl rfl ⟨⟨rfl, rfl⟩, Nat.le_of_ble_eq_true rfl, Nat.le_of_ble_eq_true rfl⟩ ⟨Nat.zero_le _, Nat.zero_le _⟩ rfl hl.1 rfl (Nat.le_of_ble_eq_true rfl) dX8_deliver_16 (fun H locs hM hS => ?_)
  exact ef_ix hx hb hr hlocks hM hS hf dX8_deliver_19
def f_X8_lose (a0 : Nat) (p1 : Int32) (M : Mem) : Option (Nat × Int32 × Mem) := xb 0 (f_X8_voiceOf a0 p1 M) fun r2 M3 => xb 0 (f_X8_requireWaiting r2 1 M3) fun r5 M6 => vb (f_X8_saveLive a0 M6) fun M8 => cb (f_X7_dropFirst r2 M8) fun r10 M11 => some (0, r10, M11)
set_option maxHeartbeats 4000000 in
set_option maxRecDepth 100000 in
theorem k_X8_lose (G : Gt) (hG : gOK G) (l : Launch) (a0 : Nat) (h0 : gK G a0 = 9) (p1 : Int32) (M : Mem) {r : Int32} {M' : Mem} (hf : f_X8_lose a0 p1 M = some (0, r, M')) : Kc G l yX8_lose cX8_lose 3 (some .int) ({ frames := 7, cells := 0, slots := 0, locals := 132 } : Room) [.ref a0, .int p1] M (some (.int r)) M' := by
  refine start (by decide) (Nat.le_of_ble_eq_true rfl) ?_
  intro p e s m args below meth c ls hx hb hr hown hml hlocks hts hV hM hl
  have hown : s.vm.findClass "FoldedVoices" = some m.cls := hown
  have hK := hG.1.moved hV
  have hS : va_S (gA G) s.heap s.heap [] := va_S.rf
  have hl : lv_has ls 3 [(0, .ref a0), (1, .int p1)] := hl
  have hM0 := hM
  rw [f_X8_lose] at hf
  refine lv_aload_n hx hb dX8_lose_0 rfl (lv_at hl 0 rfl) ?_
  refine lv_iload_n hx hb dX8_lose_1 rfl (lv_at hl 1 rfl) ?_
  obtain ⟨r2, M3, e_1, hf⟩ := xb_r hf
  refine c_Vr hx hb hml hown hts hV hK hM hS (As := [.int p1]) (rest := []) (k_X8_voiceOf G hG l a0 h0 p1 M e_1) w_X8_voiceOf (tk_306 hts) (c_9 h0) rfl rfl ⟨⟨rfl, rfl⟩, Nat.le_of_ble_eq_true rfl, Nat.le_of_ble_eq_true rfl⟩ ⟨Nat.zero_le _, Nat.zero_le _⟩ rfl hl.1 rfl (Nat.le_of_ble_eq_true rfl) dX8_lose_2 (fun H locs hM hS => ?_)
  have h_r2 := kr_X8_voiceOf hG a0 h0 p1 e_1
  refine lv_astore_n (lv' := [(2, .ref r2), (0, .ref a0), (1, .int p1)]) hx hb dX8_lose_5 rfl hl (by decide) rfl (fun ls hl => ?_)
  refine lv_aload_n hx hb dX8_lose_6 rfl (lv_at hl 0 rfl) ?_
  refine lv_iconst (v := 1) hx hb dX8_lose_7 (by decide) ?_
  obtain ⟨r5, M6, e_4, hf⟩ := xb_r hf
  refine c_Sv hx hb hml hown hts hV hM hS (As := [.ref r2, .int 1]) (rest := []) (k_X8_requireWaiting G hG l r2 h_r2 1 M3 e_4) w_X8_requireWaiting (tk_728 hts) ⟨⟨rfl, rfl⟩, Nat.le_of_ble_eq_true rfl, Nat.le_of_ble_eq_true rfl⟩ ⟨Nat.zero_le _, Nat.zero_le _⟩ rfl hl.1 rfl (Nat.le_of_ble_eq_true rfl) dX8_lose_8 (fun H locs hM hS => ?_)
  refine lv_aload_n hx hb dX8_lose_11 rfl (lv_at hl 1 rfl) ?_
  obtain ⟨M8, e_7, hf⟩ := vb_e hf
  refine c_Vv hx hb hml hown hts hV hK hM hS (As := []) (rest := []) (k_X8_saveLive G hG l a0 h0 M6 e_7) w_X8_saveLive (tk_675 hts) (c_9 h0) rfl rfl ⟨⟨rfl, rfl⟩, Nat.le_of_ble_eq_true rfl, Nat.le_of_ble_eq_true rfl⟩ ⟨Nat.zero_le _, Nat.zero_le _⟩ rfl hl.1 rfl (Nat.le_of_ble_eq_true rfl) dX8_lose_12 (fun H locs hM hS => ?_)
  refine lv_aload_n hx hb dX8_lose_15 rfl (lv_at hl 0 rfl) ?_
  obtain ⟨r10, M11, e_9, hf⟩ := cb_e hf
  refine c_Vi hx hb hml hown hts hV hK hM hS (As := []) (rest := []) (k_X7_dropFirst G hG l r2 h_r2 M8 e_9) w_X7_dropFirst (tk_732 hts) (c_8 h_r2) rfl rfl ⟨⟨rfl, rfl⟩, Nat.le_of_ble_eq_true rfl, Nat.le_of_ble_eq_true rfl⟩ ⟨Nat.zero_le _, Nat.zero_le _⟩ rfl hl.1 rfl (Nat.le_of_ble_eq_true rfl) dX8_lose_16 (fun H locs hM hS => ?_)
  exact ef_ix hx hb hr hlocks hM hS hf dX8_lose_19
def f_X8_swap (a0 : Nat) (p1 : Int32) (M : Mem) : Option (Nat × Int32 × Mem) := xb 0 (f_X8_voiceOf a0 p1 M) fun r2 M3 => xb 0 (f_X8_requireWaiting r2 2 M3) fun r5 M6 => vb (f_X8_saveLive a0 M6) fun M8 => cb (f_X7_exchangeFirstTwo r2 M8) fun r10 M11 => some (0, r10, M11)
set_option maxHeartbeats 4000000 in
set_option maxRecDepth 100000 in
theorem k_X8_swap (G : Gt) (hG : gOK G) (l : Launch) (a0 : Nat) (h0 : gK G a0 = 9) (p1 : Int32) (M : Mem) {r : Int32} {M' : Mem} (hf : f_X8_swap a0 p1 M = some (0, r, M')) : Kc G l yX8_swap cX8_swap 3 (some .int) ({ frames := 7, cells := 0, slots := 0, locals := 132 } : Room) [.ref a0, .int p1] M (some (.int r)) M' := by
  refine start (by decide) (Nat.le_of_ble_eq_true rfl) ?_
  intro p e s m args below meth c ls hx hb hr hown hml hlocks hts hV hM hl
  have hown : s.vm.findClass "FoldedVoices" = some m.cls := hown
  have hK := hG.1.moved hV
  have hS : va_S (gA G) s.heap s.heap [] := va_S.rf
  have hl : lv_has ls 3 [(0, .ref a0), (1, .int p1)] := hl
  have hM0 := hM
  rw [f_X8_swap] at hf
  refine lv_aload_n hx hb dX8_swap_0 rfl (lv_at hl 0 rfl) ?_
  refine lv_iload_n hx hb dX8_swap_1 rfl (lv_at hl 1 rfl) ?_
  obtain ⟨r2, M3, e_1, hf⟩ := xb_r hf
  refine c_Vr hx hb hml hown hts hV hK hM hS (As := [.int p1]) (rest := []) (k_X8_voiceOf G hG l a0 h0 p1 M e_1) w_X8_voiceOf (tk_306 hts) (c_9 h0) rfl rfl ⟨⟨rfl, rfl⟩, Nat.le_of_ble_eq_true rfl, Nat.le_of_ble_eq_true rfl⟩ ⟨Nat.zero_le _, Nat.zero_le _⟩ rfl hl.1 rfl (Nat.le_of_ble_eq_true rfl) dX8_swap_2 (fun H locs hM hS => ?_)
  have h_r2 := kr_X8_voiceOf hG a0 h0 p1 e_1
  refine lv_astore_n (lv' := [(2, .ref r2), (0, .ref a0), (1, .int p1)]) hx hb dX8_swap_5 rfl hl (by decide) rfl (fun ls hl => ?_)
  refine lv_aload_n hx hb dX8_swap_6 rfl (lv_at hl 0 rfl) ?_
  refine lv_iconst (v := 2) hx hb dX8_swap_7 (by decide) ?_
  obtain ⟨r5, M6, e_4, hf⟩ := xb_r hf
  refine c_Sv hx hb hml hown hts hV hM hS (As := [.ref r2, .int 2]) (rest := []) (k_X8_requireWaiting G hG l r2 h_r2 2 M3 e_4) w_X8_requireWaiting (tk_728 hts) ⟨⟨rfl, rfl⟩, Nat.le_of_ble_eq_true rfl, Nat.le_of_ble_eq_true rfl⟩ ⟨Nat.zero_le _, Nat.zero_le _⟩ rfl hl.1 rfl (Nat.le_of_ble_eq_true rfl) dX8_swap_8 (fun H locs hM hS => ?_)
  refine lv_aload_n hx hb dX8_swap_11 rfl (lv_at hl 1 rfl) ?_
  obtain ⟨M8, e_7, hf⟩ := vb_e hf
  refine c_Vv hx hb hml hown hts hV hK hM hS (As := []) (rest := []) (k_X8_saveLive G hG l a0 h0 M6 e_7) w_X8_saveLive (tk_675 hts) (c_9 h0) rfl rfl ⟨⟨rfl, rfl⟩, Nat.le_of_ble_eq_true rfl, Nat.le_of_ble_eq_true rfl⟩ ⟨Nat.zero_le _, Nat.zero_le _⟩ rfl hl.1 rfl (Nat.le_of_ble_eq_true rfl) dX8_swap_12 (fun H locs hM hS => ?_)
  refine lv_aload_n hx hb dX8_swap_15 rfl (lv_at hl 0 rfl) ?_
  obtain ⟨r10, M11, e_9, hf⟩ := cb_e hf
  refine c_Vi hx hb hml hown hts hV hK hM hS (As := []) (rest := []) (k_X7_exchangeFirstTwo G hG l r2 h_r2 M8 e_9) w_X7_exchangeFirstTwo (tk_744 hts) (c_8 h_r2) rfl rfl ⟨⟨rfl, rfl⟩, Nat.le_of_ble_eq_true rfl, Nat.le_of_ble_eq_true rfl⟩ ⟨Nat.zero_le _, Nat.zero_le _⟩ rfl hl.1 rfl (Nat.le_of_ble_eq_true rfl) dX8_swap_16 (fun H locs hM hS => ?_)
  exact ef_ix hx hb hr hlocks hM hS hf dX8_swap_19
def f_X8_requireSetting_b9 (p0 : Int32) (M : Mem) : Option (Nat × Unit × Mem) := some (1, (), M)
def f_X8_requireSetting (p0 : Int32) (M : Mem) : Option (Nat × Unit × Mem) := if p0 < 0 then (f_X8_requireSetting_b9 p0 M) else (if p0 ≤ (3 : Int32) then (some (0, (), M)) else (f_X8_requireSetting_b9 p0 M))
set_option maxHeartbeats 4000000 in
set_option maxRecDepth 100000 in
theorem k_X8_requireSetting (G : Gt) (hG : gOK G) (l : Launch) (p0 : Int32) (M : Mem) {r : Unit} {M' : Mem} (hf : f_X8_requireSetting p0 M = some (0, r, M')) : Kc G l yX8_requireSetting cX8_requireSetting 1 none ({ frames := 6, cells := 0, slots := 0, locals := 82 } : Room) [.int p0] M none M' := by
  refine start (by decide) (Nat.le_of_ble_eq_true rfl) ?_
  intro p e s m args below meth c ls hx hb hr hown hml hlocks hts hV hM hl
  have hown : s.vm.findClass "FoldedVoices" = some m.cls := hown
  have hK := hG.1.moved hV
  have hS : va_S (gA G) s.heap s.heap [] := va_S.rf
  have hl : lv_has ls 1 [(0, .int p0)] := hl
  have hM0 := hM
  have b9 : ∀ (M : Mem) (H : Heap) (locs : List Loc) (ls : Array Slot), Mh G M H → va_S (gA G) s.heap H locs → lv_has ls 1 [(0, .int p0)] → f_X8_requireSetting_b9 p0 M = some (0, r, M') → W p l e ({ frames := 6, cells := 0, slots := 0, locals := 82 } : Room) s m args below meth c H locs 0 0 (MQ below (QV G none M') args s 0 0 (gA G)) (F0 m 9 ls []) := by
    intro M H locs ls hM hS hl hf
    rw [f_X8_requireSetting_b9] at hf
    exact (xf_no2 hf (by decide)).elim
  rw [f_X8_requireSetting] at hf
  obtain ⟨H, hHe⟩ : ∃ H, H = s.heap := ⟨_, rfl⟩
  obtain ⟨locs, hLe⟩ : ∃ L : List Loc, L = [] := ⟨_, rfl⟩
  rw [← hHe] at hM
  have hS : va_S (gA G) s.heap H locs := by rw [hHe, hLe]; exact va_S.rf
  suffices hW : W p l e ({ frames := 6, cells := 0, slots := 0, locals := 82 } : Room) s m args below meth c H locs 0 0 (MQ below (QV G none M') args s 0 0 (gA G)) (F0 m 0 ls []) by rw [hHe, hLe] at hW; exact hW
  refine lv_iload_n hx hb dX8_requireSetting_0 rfl (lv_at hl 0 rfl) ?_
  refine lv_if_lt (tgt := 9) hx hb dX8_requireSetting_1 (by decide) (fun g_1 => ?_) (fun g_1 => ?_)
  · rw [if_pos g_1] at hf
    exact b9 _ H locs ls hM hS (lv_sub hl [0] rfl) hf
  · rw [if_neg g_1] at hf
    refine lv_iload_n hx hb dX8_requireSetting_4 rfl (lv_at hl 0 rfl) ?_
    refine lv_iconst (v := 3) hx hb dX8_requireSetting_5 (by decide) ?_
    refine lv_icmp_le (tgt := 20) hx hb dX8_requireSetting_6 (by decide) (fun g_2 => ?_) (fun g_2 => ?_)
    · rw [if_pos g_2] at hf
      exact ef_vx hx hb hr hlocks hM hS hf dX8_requireSetting_20
    · rw [if_neg g_2] at hf
      exact b9 _ H locs ls hM hS (lv_sub hl [0] rfl) hf
def f_X8_set (a0 : Nat) (p1 : Int32) (p2 : Int32) (M : Mem) : Option (Nat × Int32 × Mem) := xb 0 (f_X8_requireSetting p1 M) fun r2 M3 => vb (f_X4_isInRange p1 p2 M3) fun r5 => if r5 = 0 then (some (2, 0, M3)) else (vb (f_X8_saveLive a0 M3) fun M8 => vb (f_X4_valueOf ((a0 + 1) + 2) p1 M8) fun r10 => vb (f_X4_put ((a0 + 1) + 2) p1 p2 M8) fun M12 => some (0, r10, M12))
set_option maxHeartbeats 4000000 in
set_option maxRecDepth 100000 in
theorem k_X8_set (G : Gt) (hG : gOK G) (l : Launch) (a0 : Nat) (h0 : gK G a0 = 9) (p1 : Int32) (p2 : Int32) (M : Mem) {r : Int32} {M' : Mem} (hf : f_X8_set a0 p1 p2 M = some (0, r, M')) : Kc G l yX8_set cX8_set 4 (some .int) ({ frames := 7, cells := 0, slots := 0, locals := 132 } : Room) [.ref a0, .int p1, .int p2] M (some (.int r)) M' := by
  refine start (by decide) (Nat.le_of_ble_eq_true rfl) ?_
  intro p e s m args below meth c ls hx hb hr hown hml hlocks hts hV hM hl
  have hown : s.vm.findClass "FoldedVoices" = some m.cls := hown
  have hK := hG.1.moved hV
  have hS : va_S (gA G) s.heap s.heap [] := va_S.rf
  have hl : lv_has ls 4 [(0, .ref a0), (1, .int p1), (2, .int p2)] := hl
  have hM0 := hM
  rw [f_X8_set] at hf
  refine lv_iload_n hx hb dX8_set_0 rfl (lv_at hl 1 rfl) ?_
  obtain ⟨r2, M3, e_1, hf⟩ := xb_r hf
  refine c_Sv hx hb hml hown hts hV hM hS (As := [.int p1]) (rest := []) (k_X8_requireSetting G hG l p1 M e_1) w_X8_requireSetting (tk_590 hts) ⟨⟨rfl, rfl⟩, Nat.le_of_ble_eq_true rfl, Nat.le_of_ble_eq_true rfl⟩ ⟨Nat.zero_le _, Nat.zero_le _⟩ rfl hl.1 rfl (Nat.le_of_ble_eq_true rfl) dX8_set_1 (fun H locs hM hS => ?_)
  refine lv_iload_n hx hb dX8_set_4 rfl (lv_at hl 1 rfl) ?_
  refine lv_iload_n hx hb dX8_set_5 rfl (lv_at hl 2 rfl) ?_
  obtain ⟨r5, e_4, hf⟩ := vb_e hf
  refine c_Si hx hb hml hown hts hV hM hS (As := [.int p1, .int p2]) (rest := []) (k_X4_isInRange G hG l p1 p2 M3 e_4) w_X4_isInRange (tk_752 hts) ⟨⟨rfl, rfl⟩, Nat.le_of_ble_eq_true rfl, Nat.le_of_ble_eq_true rfl⟩ ⟨Nat.zero_le _, Nat.zero_le _⟩ rfl hl.1 rfl (Nat.le_of_ble_eq_true rfl) dX8_set_6 (fun H locs hM hS => ?_)
  refine lv_if_ne (tgt := 22) hx hb dX8_set_9 (by decide) (fun g_6 => ?_) (fun g_6 => ?_)
  · rw [if_neg g_6] at hf
    refine lv_aload_n hx hb dX8_set_22 rfl (lv_at hl 0 rfl) ?_
    obtain ⟨M8, e_7, hf⟩ := vb_e hf
    refine c_Vv hx hb hml hown hts hV hK hM hS (As := []) (rest := []) (k_X8_saveLive G hG l a0 h0 M3 e_7) w_X8_saveLive (tk_675 hts) (c_9 h0) rfl rfl ⟨⟨rfl, rfl⟩, Nat.le_of_ble_eq_true rfl, Nat.le_of_ble_eq_true rfl⟩ ⟨Nat.zero_le _, Nat.zero_le _⟩ rfl hl.1 rfl (Nat.le_of_ble_eq_true rfl) dX8_set_23 (fun H locs hM hS => ?_)
    refine lv_aload_n hx hb dX8_set_26 rfl (lv_at hl 0 rfl) ?_
    refine s_get hx hb (lay_8 hts) hown hK hM (c_9 h0) rfl 0 (by decide) rfl rfl (tk_267 hts) dX8_set_27 ?_
    refine s_getN hx hb (lay_5 hts) hown hK hM (c_6 (ky_9_0 hG h0)) rfl 1 (by decide) rfl rfl (tk_233 hts) dX8_set_30 ?_
    refine lv_iload_n hx hb dX8_set_33 rfl (lv_at hl 1 rfl) ?_
    obtain ⟨r10, e_9, hf⟩ := vb_e hf
    refine c_Vi hx hb hml hown hts hV hK hM hS (As := [.int p1]) (rest := []) (k_X4_valueOf G hG l ((a0 + 1) + 2) (ky_6_1 hG (ky_9_0 hG h0)) p1 M8 e_9) w_X4_valueOf (tk_594 hts) (c_5 (ky_6_1 hG (ky_9_0 hG h0))) rfl rfl ⟨⟨rfl, rfl⟩, Nat.le_of_ble_eq_true rfl, Nat.le_of_ble_eq_true rfl⟩ ⟨Nat.zero_le _, Nat.zero_le _⟩ rfl hl.1 rfl (Nat.le_of_ble_eq_true rfl) dX8_set_34 (fun H locs hM hS => ?_)
    refine lv_istore_n (lv' := [(3, .int r10), (0, .ref a0), (1, .int p1), (2, .int p2)]) hx hb dX8_set_37 rfl hl (by decide) rfl (fun ls hl => ?_)
    refine lv_aload_n hx hb dX8_set_38 rfl (lv_at hl 1 rfl) ?_
    refine s_get hx hb (lay_8 hts) hown hK hM (c_9 h0) rfl 0 (by decide) rfl rfl (tk_267 hts) dX8_set_39 ?_
    refine s_getN hx hb (lay_5 hts) hown hK hM (c_6 (ky_9_0 hG h0)) rfl 1 (by decide) rfl rfl (tk_233 hts) dX8_set_42 ?_
    refine lv_iload_n hx hb dX8_set_45 rfl (lv_at hl 2 rfl) ?_
    refine lv_iload_n hx hb dX8_set_46 rfl (lv_at hl 3 rfl) ?_
    obtain ⟨M12, e_11, hf⟩ := vb_e hf
    refine c_Vv hx hb hml hown hts hV hK hM hS (As := [.int p1, .int p2]) (rest := []) (k_X4_put G hG l ((a0 + 1) + 2) (ky_6_1 hG (ky_9_0 hG h0)) p1 p2 M8 e_11) w_X4_put (tk_760 hts) (c_5 (ky_6_1 hG (ky_9_0 hG h0))) rfl rfl ⟨⟨rfl, rfl⟩, Nat.le_of_ble_eq_true rfl, Nat.le_of_ble_eq_true rfl⟩ ⟨Nat.zero_le _, Nat.zero_le _⟩ rfl hl.1 rfl (Nat.le_of_ble_eq_true rfl) dX8_set_47 (fun H locs hM hS => ?_)
    refine lv_iload_n hx hb dX8_set_50 rfl (lv_at hl 0 rfl) ?_
    exact ef_ix hx hb hr hlocks hM hS hf dX8_set_51
  · rw [if_pos g_6] at hf
    exact (xf_no2 hf (by decide)).elim
def f_X8_requireWhat_b9 (p0 : Int32) (p1 : Int32) (M : Mem) : Option (Nat × Unit × Mem) := some (2, (), M)
def f_X8_requireWhat (p0 : Int32) (p1 : Int32) (M : Mem) : Option (Nat × Unit × Mem) := if p0 < 0 then (f_X8_requireWhat_b9 p0 p1 M) else (if p0 ≤ p1 then (some (0, (), M)) else (f_X8_requireWhat_b9 p0 p1 M))
set_option maxHeartbeats 4000000 in
set_option maxRecDepth 100000 in
theorem k_X8_requireWhat (G : Gt) (hG : gOK G) (l : Launch) (p0 : Int32) (p1 : Int32) (M : Mem) {r : Unit} {M' : Mem} (hf : f_X8_requireWhat p0 p1 M = some (0, r, M')) : Kc G l yX8_requireWhat cX8_requireWhat 2 none ({ frames := 6, cells := 0, slots := 0, locals := 82 } : Room) [.int p0, .int p1] M none M' := by
  refine start (by decide) (Nat.le_of_ble_eq_true rfl) ?_
  intro p e s m args below meth c ls hx hb hr hown hml hlocks hts hV hM hl
  have hown : s.vm.findClass "FoldedVoices" = some m.cls := hown
  have hK := hG.1.moved hV
  have hS : va_S (gA G) s.heap s.heap [] := va_S.rf
  have hl : lv_has ls 2 [(0, .int p0), (1, .int p1)] := hl
  have hM0 := hM
  have b9 : ∀ (M : Mem) (H : Heap) (locs : List Loc) (ls : Array Slot), Mh G M H → va_S (gA G) s.heap H locs → lv_has ls 2 [(0, .int p0), (1, .int p1)] → f_X8_requireWhat_b9 p0 p1 M = some (0, r, M') → W p l e ({ frames := 6, cells := 0, slots := 0, locals := 82 } : Room) s m args below meth c H locs 0 0 (MQ below (QV G none M') args s 0 0 (gA G)) (F0 m 9 ls []) := by
    intro M H locs ls hM hS hl hf
    rw [f_X8_requireWhat_b9] at hf
    exact (xf_no2 hf (by decide)).elim
  rw [f_X8_requireWhat] at hf
  obtain ⟨H, hHe⟩ : ∃ H, H = s.heap := ⟨_, rfl⟩
  obtain ⟨locs, hLe⟩ : ∃ L : List Loc, L = [] := ⟨_, rfl⟩
  rw [← hHe] at hM
  have hS : va_S (gA G) s.heap H locs := by rw [hHe, hLe]; exact va_S.rf
  suffices hW : W p l e ({ frames := 6, cells := 0, slots := 0, locals := 82 } : Room) s m args below meth c H locs 0 0 (MQ below (QV G none M') args s 0 0 (gA G)) (F0 m 0 ls []) by rw [hHe, hLe] at hW; exact hW
  refine lv_iload_n hx hb dX8_requireWhat_0 rfl (lv_at hl 0 rfl) ?_
  refine lv_if_lt (tgt := 9) hx hb dX8_requireWhat_1 (by decide) (fun g_1 => ?_) (fun g_1 => ?_)
  · rw [if_pos g_1] at hf
    exact b9 _ H locs ls hM hS (lv_sub hl [0, 1] rfl) hf
  · rw [if_neg g_1] at hf
    refine lv_iload_n hx hb dX8_requireWhat_4 rfl (lv_at hl 0 rfl) ?_
    refine lv_iload_n hx hb dX8_requireWhat_5 rfl (lv_at hl 1 rfl) ?_
    refine lv_icmp_le (tgt := 20) hx hb dX8_requireWhat_6 (by decide) (fun g_2 => ?_) (fun g_2 => ?_)
    · rw [if_pos g_2] at hf
      exact ef_vx hx hb hr hlocks hM hS hf dX8_requireWhat_20
    · rw [if_neg g_2] at hf
      exact b9 _ H locs ls hM hS (lv_sub hl [0, 1] rfl) hf
def f_X8_tellSaying (a0 : Nat) (a1 : Nat) (p2 : Int32) (M : Mem) : Option (Int32 × Mem) := if p2 = 0 then (some (mI M ((a1 + 1) + 1) 0, M)) else (if p2 = 1 then (some (mI M ((a1 + 1) + 1) 1, M)) else (if p2 = 2 then (vb (f_X0_step ((a1 + 1) + 1) M) fun r5 => some (r5, M)) else (if p2 = 3 then (some (mI M (a1 + 1) 2, M)) else (if p2 = 4 then (some (mI M (a1 + 1) 3, M)) else (if p2 = 5 then (some (mI M ((a1 + 1) + 2) 2, M)) else (if p2 = 6 then (some (mI M (a1 + 1) 5, M)) else (if p2 = 7 then (some (mI M (a1 + 1) 6, M)) else (if p2 = 8 then (cb (f_X3_guessSinceHead (a1 + 1) (a0 + 276) M) fun r13 M14 => some (r13, M14)) else (some (mI M a1 3, M))))))))))
set_option maxHeartbeats 4000000 in
set_option maxRecDepth 100000 in
theorem k_X8_tellSaying (G : Gt) (hG : gOK G) (l : Launch) (a0 : Nat) (h0 : gK G a0 = 9) (a1 : Nat) (h1 : gK G a1 = 8) (p2 : Int32) (M : Mem) {r : Int32} {M' : Mem} (hf : f_X8_tellSaying a0 a1 p2 M = some (r, M')) : Kc G l yX8_tellSaying cX8_tellSaying 3 (some .int) ({ frames := 5, cells := 0, slots := 0, locals := 112 } : Room) [.ref a0, .ref a1, .int p2] M (some (.int r)) M' := by
  refine start (by decide) (Nat.le_of_ble_eq_true rfl) ?_
  intro p e s m args below meth c ls hx hb hr hown hml hlocks hts hV hM hl
  have hown : s.vm.findClass "FoldedVoices" = some m.cls := hown
  have hK := hG.1.moved hV
  have hS : va_S (gA G) s.heap s.heap [] := va_S.rf
  have hl : lv_has ls 3 [(0, .ref a0), (1, .ref a1), (2, .int p2)] := hl
  have hM0 := hM
  rw [f_X8_tellSaying] at hf
  refine lv_iload_n hx hb dX8_tellSaying_0 rfl (lv_at hl 2 rfl) ?_
  by_cases g_1 : p2 = 0
  · rw [if_pos g_1] at hf
    refine lv_tableIn (off := 51) (tgt := 52) hx hb dX8_tellSaying_1 (by rw [g_1]; decide) (by rw [g_1]; decide) (by rw [g_1]; rfl) (by decide) ?_
    refine lv_aload_n hx hb dX8_tellSaying_52 rfl (lv_at hl 1 rfl) ?_
    refine s_getN hx hb (lay_7 hts) hown hK hM (c_8 h1) rfl 0 (by decide) rfl rfl (tk_210 hts) dX8_tellSaying_53 ?_
    refine s_getN hx hb (lay_3 hts) hown hK hM (c_4 (ky_8_0 hG h1)) rfl 0 (by decide) rfl rfl (tk_116 hts) dX8_tellSaying_56 ?_
    refine s_getN hx hb (lay_0 hts) hown hK hM (c_1 (ky_4_0 hG (ky_8_0 hG h1))) rfl 0 (by decide) rfl rfl (tk_66 hts) dX8_tellSaying_59 ?_
    exact ef_im hx hb hr hlocks hM hS hf dX8_tellSaying_62
  rw [if_neg g_1] at hf
  by_cases g_2 : p2 = 1
  · rw [if_pos g_2] at hf
    refine lv_tableIn (off := 62) (tgt := 63) hx hb dX8_tellSaying_1 (by rw [g_2]; decide) (by rw [g_2]; decide) (by rw [g_2]; rfl) (by decide) ?_
    refine lv_aload_n hx hb dX8_tellSaying_63 rfl (lv_at hl 1 rfl) ?_
    refine s_getN hx hb (lay_7 hts) hown hK hM (c_8 h1) rfl 0 (by decide) rfl rfl (tk_210 hts) dX8_tellSaying_64 ?_
    refine s_getN hx hb (lay_3 hts) hown hK hM (c_4 (ky_8_0 hG h1)) rfl 0 (by decide) rfl rfl (tk_116 hts) dX8_tellSaying_67 ?_
    refine s_getN hx hb (lay_0 hts) hown hK hM (c_1 (ky_4_0 hG (ky_8_0 hG h1))) rfl 1 (by decide) rfl rfl (tk_70 hts) dX8_tellSaying_70 ?_
    exact ef_im hx hb hr hlocks hM hS hf dX8_tellSaying_73
  rw [if_neg g_2] at hf
  by_cases g_3 : p2 = 2
  · rw [if_pos g_3] at hf
    refine lv_tableIn (off := 73) (tgt := 74) hx hb dX8_tellSaying_1 (by rw [g_3]; decide) (by rw [g_3]; decide) (by rw [g_3]; rfl) (by decide) ?_
    refine lv_aload_n hx hb dX8_tellSaying_74 rfl (lv_at hl 1 rfl) ?_
    refine s_getN hx hb (lay_7 hts) hown hK hM (c_8 h1) rfl 0 (by decide) rfl rfl (tk_210 hts) dX8_tellSaying_75 ?_
    refine s_getN hx hb (lay_3 hts) hown hK hM (c_4 (ky_8_0 hG h1)) rfl 0 (by decide) rfl rfl (tk_116 hts) dX8_tellSaying_78 ?_
    obtain ⟨r5, e_4, hf⟩ := vb_e hf
    refine c_Vi hx hb hml hown hts hV hK hM hS (As := []) (rest := []) (k_X0_step G hG l ((a1 + 1) + 1) (ky_4_0 hG (ky_8_0 hG h1)) M e_4) w_X0_step (tk_401 hts) (c_1 (ky_4_0 hG (ky_8_0 hG h1))) rfl rfl ⟨⟨rfl, rfl⟩, Nat.le_of_ble_eq_true rfl, Nat.le_of_ble_eq_true rfl⟩ ⟨Nat.zero_le _, Nat.zero_le _⟩ rfl hl.1 rfl (Nat.le_of_ble_eq_true rfl) dX8_tellSaying_81 (fun H locs hM hS => ?_)
    exact ef_im hx hb hr hlocks hM hS hf dX8_tellSaying_84
  rw [if_neg g_3] at hf
  by_cases g_6 : p2 = 3
  · rw [if_pos g_6] at hf
    refine lv_tableIn (off := 84) (tgt := 85) hx hb dX8_tellSaying_1 (by rw [g_6]; decide) (by rw [g_6]; decide) (by rw [g_6]; rfl) (by decide) ?_
    refine lv_aload_n hx hb dX8_tellSaying_85 rfl (lv_at hl 1 rfl) ?_
    refine s_getN hx hb (lay_7 hts) hown hK hM (c_8 h1) rfl 0 (by decide) rfl rfl (tk_210 hts) dX8_tellSaying_86 ?_
    refine s_getN hx hb (lay_3 hts) hown hK hM (c_4 (ky_8_0 hG h1)) rfl 2 (by decide) rfl rfl (tk_121 hts) dX8_tellSaying_89 ?_
    exact ef_im hx hb hr hlocks hM hS hf dX8_tellSaying_92
  rw [if_neg g_6] at hf
  by_cases g_7 : p2 = 4
  · rw [if_pos g_7] at hf
    refine lv_tableIn (off := 92) (tgt := 93) hx hb dX8_tellSaying_1 (by rw [g_7]; decide) (by rw [g_7]; decide) (by rw [g_7]; rfl) (by decide) ?_
    refine lv_aload_n hx hb dX8_tellSaying_93 rfl (lv_at hl 1 rfl) ?_
    refine s_getN hx hb (lay_7 hts) hown hK hM (c_8 h1) rfl 0 (by decide) rfl rfl (tk_210 hts) dX8_tellSaying_94 ?_
    refine s_getN hx hb (lay_3 hts) hown hK hM (c_4 (ky_8_0 hG h1)) rfl 3 (by decide) rfl rfl (tk_123 hts) dX8_tellSaying_97 ?_
    exact ef_im hx hb hr hlocks hM hS hf dX8_tellSaying_100
  rw [if_neg g_7] at hf
  by_cases g_8 : p2 = 5
  · rw [if_pos g_8] at hf
    refine lv_tableIn (off := 100) (tgt := 101) hx hb dX8_tellSaying_1 (by rw [g_8]; decide) (by rw [g_8]; decide) (by rw [g_8]; rfl) (by decide) ?_
    refine lv_aload_n hx hb dX8_tellSaying_101 rfl (lv_at hl 1 rfl) ?_
    refine s_getN hx hb (lay_7 hts) hown hK hM (c_8 h1) rfl 0 (by decide) rfl rfl (tk_210 hts) dX8_tellSaying_102 ?_
    refine s_getN hx hb (lay_3 hts) hown hK hM (c_4 (ky_8_0 hG h1)) rfl 4 (by decide) rfl rfl (tk_125 hts) dX8_tellSaying_105 ?_
    refine s_getN hx hb (lay_2 hts) hown hK hM (c_3 (ky_4_4 hG (ky_8_0 hG h1))) rfl 2 (by decide) rfl rfl (tk_87 hts) dX8_tellSaying_108 ?_
    exact ef_im hx hb hr hlocks hM hS hf dX8_tellSaying_111
  rw [if_neg g_8] at hf
  by_cases g_9 : p2 = 6
  · rw [if_pos g_9] at hf
    refine lv_tableIn (off := 111) (tgt := 112) hx hb dX8_tellSaying_1 (by rw [g_9]; decide) (by rw [g_9]; decide) (by rw [g_9]; rfl) (by decide) ?_
    refine lv_aload_n hx hb dX8_tellSaying_112 rfl (lv_at hl 1 rfl) ?_
    refine s_getN hx hb (lay_7 hts) hown hK hM (c_8 h1) rfl 0 (by decide) rfl rfl (tk_210 hts) dX8_tellSaying_113 ?_
    refine s_getN hx hb (lay_3 hts) hown hK hM (c_4 (ky_8_0 hG h1)) rfl 5 (by decide) rfl rfl (tk_129 hts) dX8_tellSaying_116 ?_
    exact ef_im hx hb hr hlocks hM hS hf dX8_tellSaying_119
  rw [if_neg g_9] at hf
  by_cases g_10 : p2 = 7
  · rw [if_pos g_10] at hf
    refine lv_tableIn (off := 119) (tgt := 120) hx hb dX8_tellSaying_1 (by rw [g_10]; decide) (by rw [g_10]; decide) (by rw [g_10]; rfl) (by decide) ?_
    refine lv_aload_n hx hb dX8_tellSaying_120 rfl (lv_at hl 1 rfl) ?_
    refine s_getN hx hb (lay_7 hts) hown hK hM (c_8 h1) rfl 0 (by decide) rfl rfl (tk_210 hts) dX8_tellSaying_121 ?_
    refine s_getN hx hb (lay_3 hts) hown hK hM (c_4 (ky_8_0 hG h1)) rfl 6 (by decide) rfl rfl (tk_132 hts) dX8_tellSaying_124 ?_
    exact ef_im hx hb hr hlocks hM hS hf dX8_tellSaying_127
  rw [if_neg g_10] at hf
  by_cases g_11 : p2 = 8
  · rw [if_pos g_11] at hf
    refine lv_tableIn (off := 127) (tgt := 128) hx hb dX8_tellSaying_1 (by rw [g_11]; decide) (by rw [g_11]; decide) (by rw [g_11]; rfl) (by decide) ?_
    refine lv_aload_n hx hb dX8_tellSaying_128 rfl (lv_at hl 1 rfl) ?_
    refine s_getN hx hb (lay_7 hts) hown hK hM (c_8 h1) rfl 0 (by decide) rfl rfl (tk_210 hts) dX8_tellSaying_129 ?_
    refine lv_aload_n hx hb dX8_tellSaying_132 rfl (lv_at hl 0 rfl) ?_
    refine s_get hx hb (lay_8 hts) hown hK hM (c_9 h0) rfl 6 (by decide) rfl rfl (tk_272 hts) dX8_tellSaying_133 ?_
    obtain ⟨r13, M14, e_12, hf⟩ := cb_e hf
    refine c_Vi hx hb hml hown hts hV hK hM hS (As := [.ref (a0 + 276)]) (rest := []) (k_X3_guessSinceHead G hG l (a1 + 1) (ky_8_0 hG h1) (a0 + 276) (ky_9_6 hG h0) M e_12) w_X3_guessSinceHead (tk_407 hts) (c_4 (ky_8_0 hG h1)) rfl rfl ⟨⟨rfl, rfl⟩, Nat.le_of_ble_eq_true rfl, Nat.le_of_ble_eq_true rfl⟩ ⟨Nat.zero_le _, Nat.zero_le _⟩ rfl hl.1 rfl (Nat.le_of_ble_eq_true rfl) dX8_tellSaying_136 (fun H locs hM hS => ?_)
    exact ef_im hx hb hr hlocks hM hS hf dX8_tellSaying_139
  rw [if_neg g_11] at hf
  have tg_1 := lv_neT g_1 (show (0 : Int32).toInt = 0 from by decide)
  have tg_2 := lv_neT g_2 (show (1 : Int32).toInt = 1 from by decide)
  have tg_3 := lv_neT g_3 (show (2 : Int32).toInt = 2 from by decide)
  have tg_6 := lv_neT g_6 (show (3 : Int32).toInt = 3 from by decide)
  have tg_7 := lv_neT g_7 (show (4 : Int32).toInt = 4 from by decide)
  have tg_8 := lv_neT g_8 (show (5 : Int32).toInt = 5 from by decide)
  have tg_9 := lv_neT g_9 (show (6 : Int32).toInt = 6 from by decide)
  have tg_10 := lv_neT g_10 (show (7 : Int32).toInt = 7 from by decide)
  have tg_11 := lv_neT g_11 (show (8 : Int32).toInt = 8 from by decide)
  refine lv_tableOut (tgt := 140) hx hb dX8_tellSaying_1 (by omega) (by decide) ?_
  refine lv_aload_n hx hb dX8_tellSaying_140 rfl (lv_at hl 1 rfl) ?_
  refine s_getN hx hb (lay_7 hts) hown hK hM (c_8 h1) rfl 3 (by decide) rfl rfl (tk_216 hts) dX8_tellSaying_141 ?_
  exact ef_im hx hb hr hlocks hM hS hf dX8_tellSaying_144
def f_X8_saying (a0 : Nat) (p1 : Int32) (p2 : Int32) (M : Mem) : Option (Nat × Int32 × Mem) := xb 0 (f_X8_voiceOf a0 p1 M) fun r2 M3 => xb 0 (f_X8_requireWhat p2 9 M3) fun r5 M6 => cb (f_X8_tellSaying a0 r2 p2 M6) fun r8 M9 => some (0, r8, M9)
set_option maxHeartbeats 4000000 in
set_option maxRecDepth 100000 in
theorem k_X8_saying (G : Gt) (hG : gOK G) (l : Launch) (a0 : Nat) (h0 : gK G a0 = 9) (p1 : Int32) (p2 : Int32) (M : Mem) {r : Int32} {M' : Mem} (hf : f_X8_saying a0 p1 p2 M = some (0, r, M')) : Kc G l yX8_saying cX8_saying 4 (some .int) ({ frames := 7, cells := 0, slots := 0, locals := 134 } : Room) [.ref a0, .int p1, .int p2] M (some (.int r)) M' := by
  refine start (by decide) (Nat.le_of_ble_eq_true rfl) ?_
  intro p e s m args below meth c ls hx hb hr hown hml hlocks hts hV hM hl
  have hown : s.vm.findClass "FoldedVoices" = some m.cls := hown
  have hK := hG.1.moved hV
  have hS : va_S (gA G) s.heap s.heap [] := va_S.rf
  have hl : lv_has ls 4 [(0, .ref a0), (1, .int p1), (2, .int p2)] := hl
  have hM0 := hM
  rw [f_X8_saying] at hf
  refine lv_aload_n hx hb dX8_saying_0 rfl (lv_at hl 0 rfl) ?_
  refine lv_iload_n hx hb dX8_saying_1 rfl (lv_at hl 1 rfl) ?_
  obtain ⟨r2, M3, e_1, hf⟩ := xb_r hf
  refine c_Vr hx hb hml hown hts hV hK hM hS (As := [.int p1]) (rest := []) (k_X8_voiceOf G hG l a0 h0 p1 M e_1) w_X8_voiceOf (tk_306 hts) (c_9 h0) rfl rfl ⟨⟨rfl, rfl⟩, Nat.le_of_ble_eq_true rfl, Nat.le_of_ble_eq_true rfl⟩ ⟨Nat.zero_le _, Nat.zero_le _⟩ rfl hl.1 rfl (Nat.le_of_ble_eq_true rfl) dX8_saying_2 (fun H locs hM hS => ?_)
  have h_r2 := kr_X8_voiceOf hG a0 h0 p1 e_1
  refine lv_astore_n (lv' := [(3, .ref r2), (0, .ref a0), (1, .int p1), (2, .int p2)]) hx hb dX8_saying_5 rfl hl (by decide) rfl (fun ls hl => ?_)
  refine lv_iload_n hx hb dX8_saying_6 rfl (lv_at hl 3 rfl) ?_
  refine lv_bipush (v := 9) hx hb dX8_saying_7 (by decide) ?_
  obtain ⟨r5, M6, e_4, hf⟩ := xb_r hf
  refine c_Sv hx hb hml hown hts hV hM hS (As := [.int p2, .int 9]) (rest := []) (k_X8_requireWhat G hG l p2 9 M3 e_4) w_X8_requireWhat (tk_378 hts) ⟨⟨rfl, rfl⟩, Nat.le_of_ble_eq_true rfl, Nat.le_of_ble_eq_true rfl⟩ ⟨Nat.zero_le _, Nat.zero_le _⟩ rfl hl.1 rfl (Nat.le_of_ble_eq_true rfl) dX8_saying_9 (fun H locs hM hS => ?_)
  refine lv_aload_n hx hb dX8_saying_12 rfl (lv_at hl 1 rfl) ?_
  refine lv_aload_n hx hb dX8_saying_13 rfl (lv_at hl 0 rfl) ?_
  refine lv_iload_n hx hb dX8_saying_14 rfl (lv_at hl 3 rfl) ?_
  obtain ⟨r8, M9, e_7, hf⟩ := cb_e hf
  refine c_Vi hx hb hml hown hts hV hK hM hS (As := [.ref r2, .int p2]) (rest := []) (k_X8_tellSaying G hG l a0 h0 r2 h_r2 p2 M6 e_7) w_X8_tellSaying (tk_397 hts) (c_9 h0) rfl rfl ⟨⟨rfl, rfl⟩, Nat.le_of_ble_eq_true rfl, Nat.le_of_ble_eq_true rfl⟩ ⟨Nat.zero_le _, Nat.zero_le _⟩ rfl hl.1 rfl (Nat.le_of_ble_eq_true rfl) dX8_saying_15 (fun H locs hM hS => ?_)
  exact ef_ix hx hb hr hlocks hM hS hf dX8_saying_18
def f_X8_tellHearing (a0 : Nat) (a1 : Nat) (p2 : Int32) (M : Mem) : Option Int32 := if p2 = (11 : Int32) then (some (mI M a1 4)) else (vb (f_X1_tell (a1 + 9) p2 M) fun r3 => some r3)
set_option maxHeartbeats 4000000 in
set_option maxRecDepth 100000 in
theorem k_X8_tellHearing (G : Gt) (hG : gOK G) (l : Launch) (a0 : Nat) (h0 : gK G a0 = 9) (a1 : Nat) (h1 : gK G a1 = 8) (p2 : Int32) (M : Mem) {r : Int32} (hf : f_X8_tellHearing a0 a1 p2 M = some r) : Kc G l yX8_tellHearing cX8_tellHearing 3 (some .int) ({ frames := 2, cells := 0, slots := 0, locals := 41 } : Room) [.ref a0, .ref a1, .int p2] M (some (.int r)) M := by
  refine start (by decide) (Nat.le_of_ble_eq_true rfl) ?_
  intro p e s m args below meth c ls hx hb hr hown hml hlocks hts hV hM hl
  have hown : s.vm.findClass "FoldedVoices" = some m.cls := hown
  have hK := hG.1.moved hV
  have hS : va_S (gA G) s.heap s.heap [] := va_S.rf
  have hl : lv_has ls 3 [(0, .ref a0), (1, .ref a1), (2, .int p2)] := hl
  have hM0 := hM
  rw [f_X8_tellHearing] at hf
  refine lv_iload_n hx hb dX8_tellHearing_0 rfl (lv_at hl 2 rfl) ?_
  refine lv_bipush (v := 11) hx hb dX8_tellHearing_1 (by decide) ?_
  refine lv_icmp_ne (tgt := 13) hx hb dX8_tellHearing_3 (by decide) (fun g_1 => ?_) (fun g_1 => ?_)
  · rw [if_neg g_1] at hf
    refine lv_aload_n hx hb dX8_tellHearing_13 rfl (lv_at hl 1 rfl) ?_
    refine s_getN hx hb (lay_7 hts) hown hK hM (c_8 h1) rfl 1 (by decide) rfl rfl (tk_212 hts) dX8_tellHearing_14 ?_
    refine lv_iload_n hx hb dX8_tellHearing_17 rfl (lv_at hl 2 rfl) ?_
    obtain ⟨r3, e_2, hf⟩ := vb_e hf
    refine c_Vi hx hb hml hown hts hV hK hM hS (As := [.int p2]) (rest := []) (k_X1_tell G hG l (a1 + 9) (ky_8_1 hG h1) p2 M e_2) w_X1_tell (tk_450 hts) (c_2 (ky_8_1 hG h1)) rfl rfl ⟨⟨rfl, rfl⟩, Nat.le_of_ble_eq_true rfl, Nat.le_of_ble_eq_true rfl⟩ ⟨Nat.zero_le _, Nat.zero_le _⟩ rfl hl.1 rfl (Nat.le_of_ble_eq_true rfl) dX8_tellHearing_18 (fun H locs hM hS => ?_)
    exact ef_ip hx hb hr hlocks hM hS hf dX8_tellHearing_21
  · rw [if_pos g_1] at hf
    refine lv_aload_n hx hb dX8_tellHearing_6 rfl (lv_at hl 1 rfl) ?_
    refine s_getN hx hb (lay_7 hts) hown hK hM (c_8 h1) rfl 4 (by decide) rfl rfl (tk_218 hts) dX8_tellHearing_7 ?_
    refine lv_goto (tgt := 21) hx hb dX8_tellHearing_10 (by decide) ?_
    exact ef_ip hx hb hr hlocks hM hS hf dX8_tellHearing_21
def f_X8_hearing (a0 : Nat) (p1 : Int32) (p2 : Int32) (M : Mem) : Option (Nat × Int32 × Mem) := xb 0 (f_X8_voiceOf a0 p1 M) fun r2 M3 => xb 0 (f_X8_requireWhat p2 11 M3) fun r5 M6 => vb (f_X8_tellHearing a0 r2 p2 M6) fun r8 => some (0, r8, M6)
set_option maxHeartbeats 4000000 in
set_option maxRecDepth 100000 in
theorem k_X8_hearing (G : Gt) (hG : gOK G) (l : Launch) (a0 : Nat) (h0 : gK G a0 = 9) (p1 : Int32) (p2 : Int32) (M : Mem) {r : Int32} {M' : Mem} (hf : f_X8_hearing a0 p1 p2 M = some (0, r, M')) : Kc G l yX8_hearing cX8_hearing 4 (some .int) ({ frames := 7, cells := 0, slots := 0, locals := 103 } : Room) [.ref a0, .int p1, .int p2] M (some (.int r)) M' := by
  refine start (by decide) (Nat.le_of_ble_eq_true rfl) ?_
  intro p e s m args below meth c ls hx hb hr hown hml hlocks hts hV hM hl
  have hown : s.vm.findClass "FoldedVoices" = some m.cls := hown
  have hK := hG.1.moved hV
  have hS : va_S (gA G) s.heap s.heap [] := va_S.rf
  have hl : lv_has ls 4 [(0, .ref a0), (1, .int p1), (2, .int p2)] := hl
  have hM0 := hM
  rw [f_X8_hearing] at hf
  refine lv_aload_n hx hb dX8_hearing_0 rfl (lv_at hl 0 rfl) ?_
  refine lv_iload_n hx hb dX8_hearing_1 rfl (lv_at hl 1 rfl) ?_
  obtain ⟨r2, M3, e_1, hf⟩ := xb_r hf
  refine c_Vr hx hb hml hown hts hV hK hM hS (As := [.int p1]) (rest := []) (k_X8_voiceOf G hG l a0 h0 p1 M e_1) w_X8_voiceOf (tk_306 hts) (c_9 h0) rfl rfl ⟨⟨rfl, rfl⟩, Nat.le_of_ble_eq_true rfl, Nat.le_of_ble_eq_true rfl⟩ ⟨Nat.zero_le _, Nat.zero_le _⟩ rfl hl.1 rfl (Nat.le_of_ble_eq_true rfl) dX8_hearing_2 (fun H locs hM hS => ?_)
  have h_r2 := kr_X8_voiceOf hG a0 h0 p1 e_1
  refine lv_astore_n (lv' := [(3, .ref r2), (0, .ref a0), (1, .int p1), (2, .int p2)]) hx hb dX8_hearing_5 rfl hl (by decide) rfl (fun ls hl => ?_)
  refine lv_iload_n hx hb dX8_hearing_6 rfl (lv_at hl 3 rfl) ?_
  refine lv_bipush (v := 11) hx hb dX8_hearing_7 (by decide) ?_
  obtain ⟨r5, M6, e_4, hf⟩ := xb_r hf
  refine c_Sv hx hb hml hown hts hV hM hS (As := [.int p2, .int 11]) (rest := []) (k_X8_requireWhat G hG l p2 11 M3 e_4) w_X8_requireWhat (tk_378 hts) ⟨⟨rfl, rfl⟩, Nat.le_of_ble_eq_true rfl, Nat.le_of_ble_eq_true rfl⟩ ⟨Nat.zero_le _, Nat.zero_le _⟩ rfl hl.1 rfl (Nat.le_of_ble_eq_true rfl) dX8_hearing_9 (fun H locs hM hS => ?_)
  refine lv_aload_n hx hb dX8_hearing_12 rfl (lv_at hl 1 rfl) ?_
  refine lv_aload_n hx hb dX8_hearing_13 rfl (lv_at hl 0 rfl) ?_
  refine lv_iload_n hx hb dX8_hearing_14 rfl (lv_at hl 3 rfl) ?_
  obtain ⟨r8, e_7, hf⟩ := vb_e hf
  refine c_Vi hx hb hml hown hts hV hK hM hS (As := [.ref r2, .int p2]) (rest := []) (k_X8_tellHearing G hG l a0 h0 r2 h_r2 p2 M6 e_7) w_X8_tellHearing (tk_446 hts) (c_9 h0) rfl rfl ⟨⟨rfl, rfl⟩, Nat.le_of_ble_eq_true rfl, Nat.le_of_ble_eq_true rfl⟩ ⟨Nat.zero_le _, Nat.zero_le _⟩ rfl hl.1 rfl (Nat.le_of_ble_eq_true rfl) dX8_hearing_15 (fun H locs hM hS => ?_)
  exact ef_ix hx hb hr hlocks hM hS hf dX8_hearing_18
def f_X8_packet (a0 : Nat) (p1 : Int32) (p2 : Int32) (p3 : Int32) (M : Mem) : Option (Nat × Int32 × Mem) := xb 0 (f_X8_voiceOf a0 p1 M) fun r2 M3 => vb (f_X7_packetAt r2 p2 M3) fun r5 => ob r5 (some (1, 0, M3)) fun z6 => (xb 0 (f_X8_requireWhat p3 5 M3) fun r8 M9 => vb (f_X2_tell z6 p3 M9) fun r11 => some (0, r11, M9))
set_option maxHeartbeats 4000000 in
set_option maxRecDepth 100000 in
theorem k_X8_packet (G : Gt) (hG : gOK G) (l : Launch) (a0 : Nat) (h0 : gK G a0 = 9) (p1 : Int32) (p2 : Int32) (p3 : Int32) (M : Mem) {r : Int32} {M' : Mem} (hf : f_X8_packet a0 p1 p2 p3 M = some (0, r, M')) : Kc G l yX8_packet cX8_packet 6 (some .int) ({ frames := 7, cells := 0, slots := 0, locals := 103 } : Room) [.ref a0, .int p1, .int p2, .int p3] M (some (.int r)) M' := by
  refine start (by decide) (Nat.le_of_ble_eq_true rfl) ?_
  intro p e s m args below meth c ls hx hb hr hown hml hlocks hts hV hM hl
  have hown : s.vm.findClass "FoldedVoices" = some m.cls := hown
  have hK := hG.1.moved hV
  have hS : va_S (gA G) s.heap s.heap [] := va_S.rf
  have hl : lv_has ls 6 [(0, .ref a0), (1, .int p1), (2, .int p2), (3, .int p3)] := hl
  have hM0 := hM
  rw [f_X8_packet] at hf
  refine lv_aload_n hx hb dX8_packet_0 rfl (lv_at hl 0 rfl) ?_
  refine lv_iload_n hx hb dX8_packet_1 rfl (lv_at hl 1 rfl) ?_
  obtain ⟨r2, M3, e_1, hf⟩ := xb_r hf
  refine c_Vr hx hb hml hown hts hV hK hM hS (As := [.int p1]) (rest := []) (k_X8_voiceOf G hG l a0 h0 p1 M e_1) w_X8_voiceOf (tk_306 hts) (c_9 h0) rfl rfl ⟨⟨rfl, rfl⟩, Nat.le_of_ble_eq_true rfl, Nat.le_of_ble_eq_true rfl⟩ ⟨Nat.zero_le _, Nat.zero_le _⟩ rfl hl.1 rfl (Nat.le_of_ble_eq_true rfl) dX8_packet_2 (fun H locs hM hS => ?_)
  have h_r2 := kr_X8_voiceOf hG a0 h0 p1 e_1
  refine lv_astore (lv' := [(4, .ref r2), (0, .ref a0), (1, .int p1), (2, .int p2), (3, .int p3)]) hx hb dX8_packet_5 hl (by decide) rfl (fun ls hl => ?_)
  refine lv_aload hx hb dX8_packet_7 (lv_at hl 0 rfl) ?_
  refine lv_iload_n hx hb dX8_packet_9 rfl (lv_at hl 3 rfl) ?_
  obtain ⟨r5, e_4, hf⟩ := vb_e hf
  refine c_Vo hx hb hml hown hts hV hK hM hS (As := [.int p2]) (rest := []) (k_X7_packetAt G hG l r2 h_r2 p2 M3 e_4) w_X7_packetAt (tk_460 hts) (c_8 h_r2) rfl rfl ⟨⟨rfl, rfl⟩, Nat.le_of_ble_eq_true rfl, Nat.le_of_ble_eq_true rfl⟩ ⟨Nat.zero_le _, Nat.zero_le _⟩ rfl hl.1 rfl (Nat.le_of_ble_eq_true rfl) dX8_packet_10 (fun H locs hM hS => ?_)
  cases r5 with
  | none =>
    rw [ob_n] at hf
    refine lv_astoreN (lv' := [(5, .null), (4, .ref r2), (0, .ref a0), (1, .int p1), (2, .int p2), (3, .int p3)]) hx hb dX8_packet_13 hl (by decide) rfl (fun ls hl => ?_)
    refine lv_aloadN hx hb dX8_packet_15 (lv_at hl 0 rfl) ?_
    refine lv_ifnonnullN hx hb dX8_packet_17 ?_
    exact (xf_no2 hf (by decide)).elim
  | some z6 =>
    have h_z6 := kr_X7_packetAt hG r2 h_r2 p2 hM.2.2 e_4
    rw [ob_s] at hf
    refine lv_astore (lv' := [(5, .ref z6), (4, .ref r2), (0, .ref a0), (1, .int p1), (2, .int p2), (3, .int p3)]) hx hb dX8_packet_13 hl (by decide) rfl (fun ls hl => ?_)
    refine lv_aload hx hb dX8_packet_15 (lv_at hl 0 rfl) ?_
    refine lv_ifnonnull (tgt := 30) hx hb dX8_packet_17 (by decide) ?_
    refine lv_iload_n hx hb dX8_packet_30 rfl (lv_at hl 5 rfl) ?_
    refine lv_iconst (v := 5) hx hb dX8_packet_31 (by decide) ?_
    obtain ⟨r8, M9, e_7, hf⟩ := xb_r hf
    refine c_Sv hx hb hml hown hts hV hM hS (As := [.int p3, .int 5]) (rest := []) (k_X8_requireWhat G hG l p3 5 M3 e_7) w_X8_requireWhat (tk_378 hts) ⟨⟨rfl, rfl⟩, Nat.le_of_ble_eq_true rfl, Nat.le_of_ble_eq_true rfl⟩ ⟨Nat.zero_le _, Nat.zero_le _⟩ rfl hl.1 rfl (Nat.le_of_ble_eq_true rfl) dX8_packet_32 (fun H locs hM hS => ?_)
    refine lv_aload hx hb dX8_packet_35 (lv_at hl 0 rfl) ?_
    refine lv_iload_n hx hb dX8_packet_37 rfl (lv_at hl 5 rfl) ?_
    obtain ⟨r11, e_10, hf⟩ := vb_e hf
    refine c_Vi hx hb hml hown hts hV hK hM hS (As := [.int p3]) (rest := []) (k_X2_tell G hG l z6 h_z6 p3 M9 e_10) w_X2_tell (tk_465 hts) (c_3 h_z6) rfl rfl ⟨⟨rfl, rfl⟩, Nat.le_of_ble_eq_true rfl, Nat.le_of_ble_eq_true rfl⟩ ⟨Nat.zero_le _, Nat.zero_le _⟩ rfl hl.1 rfl (Nat.le_of_ble_eq_true rfl) dX8_packet_38 (fun H locs hM hS => ?_)
    exact ef_ix hx hb hr hlocks hM hS hf dX8_packet_41
def f_X8_letAllCome_b13 (a0 : Nat) (a1 : Nat) : Nat → Int32 → Mem → Option Mem
  | 0, _, _ => none
  | n + 1, x2, M => if (mI M a1 3) ≤ x2 then (some M) else (if (8 : Int32) ≤ x2 then (some M) else (gd (ix x2 8) <| nb (mR M (a1 + 11) x2.toNatClampNeg) fun z5 => cb (f_X1_receive (a0 + 277) z5 M) fun r7 M8 => nb (x2 + 1) fun y9 => f_X8_letAllCome_b13 a0 a1 n y9 M8))
def f_X8_letAllCome (a0 : Nat) (a1 : Nat) (M : Mem) : Option Mem := vb (f_X1_copyFrom (a0 + 277) (a1 + 9) M) fun M11 => f_X8_letAllCome_b13 a0 a1 lfuel 0 M11
set_option maxHeartbeats 4000000 in
set_option maxRecDepth 100000 in
theorem k_X8_letAllCome (G : Gt) (hG : gOK G) (l : Launch) (a0 : Nat) (h0 : gK G a0 = 9) (a1 : Nat) (h1 : gK G a1 = 8) (M : Mem) {M' : Mem} (hf : f_X8_letAllCome a0 a1 M = some M') : Kc G l yX8_letAllCome cX8_letAllCome 3 none ({ frames := 4, cells := 0, slots := 0, locals := 91 } : Room) [.ref a0, .ref a1] M none M' := by
  refine start (by decide) (Nat.le_of_ble_eq_true rfl) ?_
  intro p e s m args below meth c ls hx hb hr hown hml hlocks hts hV hM hl
  have hown : s.vm.findClass "FoldedVoices" = some m.cls := hown
  have hK := hG.1.moved hV
  have hS : va_S (gA G) s.heap s.heap [] := va_S.rf
  have hl : lv_has ls 3 [(0, .ref a0), (1, .ref a1)] := hl
  have hM0 := hM
  have b13 : ∀ (n : Nat), ∀ (x2 : Int32) (M : Mem) (H : Heap) (locs : List Loc) (ls : Array Slot), Mh G M H → va_S (gA G) s.heap H locs → lv_has ls 3 [(0, .ref a0), (1, .ref a1), (2, .int x2)] → f_X8_letAllCome_b13 a0 a1 n x2 M = some M' → W p l e ({ frames := 4, cells := 0, slots := 0, locals := 91 } : Room) s m args below meth c H locs 0 0 (MQ below (QV G none M') args s 0 0 (gA G)) (F0 m 13 ls []) := by
    intro n
    induction n with
    | zero =>
      intro x2 M H locs ls hM hS hl hf
      rw [f_X8_letAllCome_b13] at hf
      cases hf
    | succ n ih =>
      intro x2 M H locs ls hM hS hl hf
      rw [f_X8_letAllCome_b13] at hf
      refine lv_iload_n hx hb dX8_letAllCome_13 rfl (lv_at hl 2 rfl) ?_
      refine lv_aload_n hx hb dX8_letAllCome_14 rfl (lv_at hl 1 rfl) ?_
      refine s_getN hx hb (lay_7 hts) hown hK hM (c_8 h1) rfl 3 (by decide) rfl rfl (tk_216 hts) dX8_letAllCome_15 ?_
      refine lv_icmp_ge (tgt := 50) hx hb dX8_letAllCome_18 (by decide) (fun g_1 => ?_) (fun g_1 => ?_)
      · rw [if_pos g_1] at hf
        exact ef_v hx hb hr hlocks hM hS hf dX8_letAllCome_50
      · rw [if_neg g_1] at hf
        refine lv_iload_n hx hb dX8_letAllCome_21 rfl (lv_at hl 2 rfl) ?_
        refine lv_aload_n hx hb dX8_letAllCome_22 rfl (lv_at hl 1 rfl) ?_
        refine s_getN hx hb (lay_7 hts) hown hK hM (c_8 h1) rfl 2 (by decide) rfl rfl (tk_214 hts) dX8_letAllCome_23 ?_
        refine s_alen 2 hx hb hK hM (cel_pa (ky_8_2 hG h1)) rfl (v := 8) (show Int32.ofNat 8 = 8 from by decide) dX8_letAllCome_26 ?_
        refine lv_icmp_ge (tgt := 50) hx hb dX8_letAllCome_27 (by decide) (fun g_2 => ?_) (fun g_2 => ?_)
        · rw [if_pos g_2] at hf
          exact ef_v hx hb hr hlocks hM hS hf dX8_letAllCome_50
        · rw [if_neg g_2] at hf
          refine lv_aload_n hx hb dX8_letAllCome_30 rfl (lv_at hl 0 rfl) ?_
          refine s_get hx hb (lay_8 hts) hown hK hM (c_9 h0) rfl 7 (by decide) rfl rfl (tk_273 hts) dX8_letAllCome_31 ?_
          refine lv_aload_n hx hb dX8_letAllCome_34 rfl (lv_at hl 1 rfl) ?_
          refine s_getN hx hb (lay_7 hts) hown hK hM (c_8 h1) rfl 2 (by decide) rfl rfl (tk_214 hts) dX8_letAllCome_35 ?_
          refine lv_iload_n hx hb dX8_letAllCome_38 rfl (lv_at hl 2 rfl) ?_
          obtain ⟨h_3, hf⟩ := gd_e hf
          refine s_paald hx hb hK hM (ky_8_2 hG h1) h_3 dX8_letAllCome_39 (fun h_4 => ?_)
          obtain ⟨z5, ez5, hf⟩ := nb_e hf
          refine s_nmr ez5 ?_
          have h_z5 : gK G z5 = 3 := ez5 ▸ h_4
          obtain ⟨r7, M8, e_6, hf⟩ := cb_e hf
          refine c_Vi hx hb hml hown hts hV hK hM hS (As := [.ref z5]) (rest := []) (k_X1_receive G hG l (a0 + 277) (ky_9_7 hG h0) z5 h_z5 M e_6) w_X1_receive (tk_523 hts) (c_2 (ky_9_7 hG h0)) rfl rfl ⟨⟨rfl, rfl⟩, Nat.le_of_ble_eq_true rfl, Nat.le_of_ble_eq_true rfl⟩ ⟨Nat.zero_le _, Nat.zero_le _⟩ rfl hl.1 rfl (Nat.le_of_ble_eq_true rfl) dX8_letAllCome_40 (fun H locs hM hS => ?_)
          refine lv_pop hx hb dX8_letAllCome_43 rfl ?_
          obtain ⟨y9, ey9, hf⟩ := nb_e hf
          refine lv_iinc (v := y9) (lv' := [(2, .int y9), (0, .ref a0), (1, .ref a1)]) hx hb dX8_letAllCome_44 hl (k := 2) rfl (by rw [← ey9]; rfl) (by decide) rfl (fun ls hl => ?_)
          refine lv_goto (tgt := 13) hx hb dX8_letAllCome_47 (by decide) ?_
          exact ih y9 _ H locs ls hM hS (lv_sub hl [1, 2, 0] rfl) hf
  rw [f_X8_letAllCome] at hf
  obtain ⟨H, hHe⟩ : ∃ H, H = s.heap := ⟨_, rfl⟩
  obtain ⟨locs, hLe⟩ : ∃ L : List Loc, L = [] := ⟨_, rfl⟩
  rw [← hHe] at hM
  have hS : va_S (gA G) s.heap H locs := by rw [hHe, hLe]; exact va_S.rf
  suffices hW : W p l e ({ frames := 4, cells := 0, slots := 0, locals := 91 } : Room) s m args below meth c H locs 0 0 (MQ below (QV G none M') args s 0 0 (gA G)) (F0 m 0 ls []) by rw [hHe, hLe] at hW; exact hW
  refine lv_aload_n hx hb dX8_letAllCome_0 rfl (lv_at hl 0 rfl) ?_
  refine s_get hx hb (lay_8 hts) hown hK hM (c_9 h0) rfl 7 (by decide) rfl rfl (tk_273 hts) dX8_letAllCome_1 ?_
  refine lv_aload_n hx hb dX8_letAllCome_4 rfl (lv_at hl 1 rfl) ?_
  refine s_getN hx hb (lay_7 hts) hown hK hM (c_8 h1) rfl 1 (by decide) rfl rfl (tk_212 hts) dX8_letAllCome_5 ?_
  obtain ⟨M11, e_10, hf⟩ := vb_e hf
  refine c_Vv hx hb hml hown hts hV hK hM hS (As := [.ref (a1 + 9)]) (rest := []) (k_X1_copyFrom G hG l (a0 + 277) (ky_9_7 hG h0) (a1 + 9) (ky_8_1 hG h1) M e_10) w_X1_copyFrom (tk_518 hts) (c_2 (ky_9_7 hG h0)) rfl rfl ⟨⟨rfl, rfl⟩, Nat.le_of_ble_eq_true rfl, Nat.le_of_ble_eq_true rfl⟩ ⟨Nat.zero_le _, Nat.zero_le _⟩ rfl hl.1 rfl (Nat.le_of_ble_eq_true rfl) dX8_letAllCome_8 (fun H locs hM hS => ?_)
  refine lv_iconst (v := 0) hx hb dX8_letAllCome_11 (by decide) ?_
  refine lv_istore_n (lv' := [(2, .int 0), (0, .ref a0), (1, .ref a1)]) hx hb dX8_letAllCome_12 rfl hl (by decide) rfl (fun ls hl => ?_)
  exact b13 _ 0 _ H locs ls hM hS (lv_sub hl [1, 2, 0] rfl) hf
def f_X8_wouldAgree (a0 : Nat) (a1 : Nat) (M : Mem) : Option (Int32 × Mem) := vb (f_X0_copyFrom (a0 + 276) ((a0 + 277) + 1) M) fun M2 => vb (f_X0_followAll (a0 + 276) ((a1 + 1) + 2) M2) fun M4 => vb (f_X0_isAt (a0 + 276) (mI M4 ((a1 + 1) + 1) 0) (mI M4 ((a1 + 1) + 1) 1) M4) fun r6 => gd (r6 = 0 ∨ r6 = 1) <| some (r6, M4)
set_option maxHeartbeats 4000000 in
set_option maxRecDepth 100000 in
theorem k_X8_wouldAgree (G : Gt) (hG : gOK G) (l : Launch) (a0 : Nat) (h0 : gK G a0 = 9) (a1 : Nat) (h1 : gK G a1 = 8) (M : Mem) {r : Int32} {M' : Mem} (hf : f_X8_wouldAgree a0 a1 M = some (r, M')) : Kc G l yX8_wouldAgree cX8_wouldAgree 2 (some .boolean) ({ frames := 4, cells := 0, slots := 0, locals := 90 } : Room) [.ref a0, .ref a1] M (some (.int r)) M' := by
  refine start (by decide) (Nat.le_of_ble_eq_true rfl) ?_
  intro p e s m args below meth c ls hx hb hr hown hml hlocks hts hV hM hl
  have hown : s.vm.findClass "FoldedVoices" = some m.cls := hown
  have hK := hG.1.moved hV
  have hS : va_S (gA G) s.heap s.heap [] := va_S.rf
  have hl : lv_has ls 2 [(0, .ref a0), (1, .ref a1)] := hl
  have hM0 := hM
  rw [f_X8_wouldAgree] at hf
  refine lv_aload_n hx hb dX8_wouldAgree_0 rfl (lv_at hl 0 rfl) ?_
  refine s_get hx hb (lay_8 hts) hown hK hM (c_9 h0) rfl 6 (by decide) rfl rfl (tk_272 hts) dX8_wouldAgree_1 ?_
  refine lv_aload_n hx hb dX8_wouldAgree_4 rfl (lv_at hl 0 rfl) ?_
  refine s_get hx hb (lay_8 hts) hown hK hM (c_9 h0) rfl 7 (by decide) rfl rfl (tk_273 hts) dX8_wouldAgree_5 ?_
  refine s_getN hx hb (lay_1 hts) hown hK hM (c_2 (ky_9_7 hG h0)) rfl 0 (by decide) rfl rfl (tk_169 hts) dX8_wouldAgree_8 ?_
  obtain ⟨M2, e_1, hf⟩ := vb_e hf
  refine c_Vv hx hb hml hown hts hV hK hM hS (As := [.ref ((a0 + 277) + 1)]) (rest := []) (k_X0_copyFrom G hG l (a0 + 276) (ky_9_6 hG h0) ((a0 + 277) + 1) (ky_2_0 hG (ky_9_7 hG h0)) M e_1) w_X0_copyFrom (tk_564 hts) (c_1 (ky_9_6 hG h0)) rfl rfl ⟨⟨rfl, rfl⟩, Nat.le_of_ble_eq_true rfl, Nat.le_of_ble_eq_true rfl⟩ ⟨Nat.zero_le _, Nat.zero_le _⟩ rfl hl.1 rfl (Nat.le_of_ble_eq_true rfl) dX8_wouldAgree_11 (fun H locs hM hS => ?_)
  refine lv_aload_n hx hb dX8_wouldAgree_14 rfl (lv_at hl 0 rfl) ?_
  refine s_get hx hb (lay_8 hts) hown hK hM (c_9 h0) rfl 6 (by decide) rfl rfl (tk_272 hts) dX8_wouldAgree_15 ?_
  refine lv_aload_n hx hb dX8_wouldAgree_18 rfl (lv_at hl 1 rfl) ?_
  refine s_getN hx hb (lay_7 hts) hown hK hM (c_8 h1) rfl 0 (by decide) rfl rfl (tk_210 hts) dX8_wouldAgree_19 ?_
  refine s_getN hx hb (lay_3 hts) hown hK hM (c_4 (ky_8_0 hG h1)) rfl 4 (by decide) rfl rfl (tk_125 hts) dX8_wouldAgree_22 ?_
  obtain ⟨M4, e_3, hf⟩ := vb_e hf
  refine c_Vv hx hb hml hown hts hV hK hM hS (As := [.ref ((a1 + 1) + 2)]) (rest := []) (k_X0_followAll G hG l (a0 + 276) (ky_9_6 hG h0) ((a1 + 1) + 2) (ky_4_4 hG (ky_8_0 hG h1)) M2 e_3) w_X0_followAll (tk_565 hts) (c_1 (ky_9_6 hG h0)) rfl rfl ⟨⟨rfl, rfl⟩, Nat.le_of_ble_eq_true rfl, Nat.le_of_ble_eq_true rfl⟩ ⟨Nat.zero_le _, Nat.zero_le _⟩ rfl hl.1 rfl (Nat.le_of_ble_eq_true rfl) dX8_wouldAgree_25 (fun H locs hM hS => ?_)
  refine lv_aload_n hx hb dX8_wouldAgree_28 rfl (lv_at hl 0 rfl) ?_
  refine s_get hx hb (lay_8 hts) hown hK hM (c_9 h0) rfl 6 (by decide) rfl rfl (tk_272 hts) dX8_wouldAgree_29 ?_
  refine lv_aload_n hx hb dX8_wouldAgree_32 rfl (lv_at hl 1 rfl) ?_
  refine s_getN hx hb (lay_7 hts) hown hK hM (c_8 h1) rfl 0 (by decide) rfl rfl (tk_210 hts) dX8_wouldAgree_33 ?_
  refine s_getN hx hb (lay_3 hts) hown hK hM (c_4 (ky_8_0 hG h1)) rfl 0 (by decide) rfl rfl (tk_116 hts) dX8_wouldAgree_36 ?_
  refine s_getN hx hb (lay_0 hts) hown hK hM (c_1 (ky_4_0 hG (ky_8_0 hG h1))) rfl 0 (by decide) rfl rfl (tk_66 hts) dX8_wouldAgree_39 ?_
  refine lv_aload_n hx hb dX8_wouldAgree_42 rfl (lv_at hl 1 rfl) ?_
  refine s_getN hx hb (lay_7 hts) hown hK hM (c_8 h1) rfl 0 (by decide) rfl rfl (tk_210 hts) dX8_wouldAgree_43 ?_
  refine s_getN hx hb (lay_3 hts) hown hK hM (c_4 (ky_8_0 hG h1)) rfl 0 (by decide) rfl rfl (tk_116 hts) dX8_wouldAgree_46 ?_
  refine s_getN hx hb (lay_0 hts) hown hK hM (c_1 (ky_4_0 hG (ky_8_0 hG h1))) rfl 1 (by decide) rfl rfl (tk_70 hts) dX8_wouldAgree_49 ?_
  obtain ⟨r6, e_5, hf⟩ := vb_e hf
  refine c_Vi hx hb hml hown hts hV hK hM hS (As := [.int (mI M4 ((a1 + 1) + 1) 0), .int (mI M4 ((a1 + 1) + 1) 1)]) (rest := []) (k_X0_isAt G hG l (a0 + 276) (ky_9_6 hG h0) (mI M4 ((a1 + 1) + 1) 0) (mI M4 ((a1 + 1) + 1) 1) M4 e_5) w_X0_isAt (tk_566 hts) (c_1 (ky_9_6 hG h0)) rfl rfl ⟨⟨rfl, rfl⟩, Nat.le_of_ble_eq_true rfl, Nat.le_of_ble_eq_true rfl⟩ ⟨Nat.zero_le _, Nat.zero_le _⟩ rfl hl.1 rfl (Nat.le_of_ble_eq_true rfl) dX8_wouldAgree_52 (fun H locs hM hS => ?_)
  obtain ⟨h_7, hf⟩ := gd_e hf
  exact ef_zm hx hb hr hlocks hM hS (nz_n h_7) hf dX8_wouldAgree_55
def f_X8_tellWhy_b71 (a0 : Nat) (a1 : Nat) (xs0 : Int32) (M : Mem) : Option (Int32 × Mem) := if xs0 = 0 then (some (1, M)) else (some (2, M))
def f_X8_tellWhy_b70 (a0 : Nat) (a1 : Nat) (M : Mem) : Option (Int32 × Mem) := f_X8_tellWhy_b71 a0 a1 0 M
def f_X8_tellWhy (a0 : Nat) (a1 : Nat) (M : Mem) : Option (Int32 × Mem) := vb (f_X8_letAllCome a0 a1 M) fun M3 => cb (f_X8_wouldAgree a0 a1 M3) fun r5 M6 => if r5 = 0 then (if (mI M6 (a0 + 277) 4) = (mI M6 (a1 + 9) 4) then (if (mI M6 (a0 + 277) 3) = (mI M6 (a1 + 9) 3) then (if (mI M6 (a0 + 277) 1) = (mI M6 (a1 + 1) 5) then (f_X8_tellWhy_b71 a0 a1 1 M6) else (f_X8_tellWhy_b70 a0 a1 M6)) else (f_X8_tellWhy_b70 a0 a1 M6)) else (f_X8_tellWhy_b70 a0 a1 M6)) else (some (0, M6))
set_option maxHeartbeats 4000000 in
set_option maxRecDepth 100000 in
theorem k_X8_tellWhy (G : Gt) (hG : gOK G) (l : Launch) (a0 : Nat) (h0 : gK G a0 = 9) (a1 : Nat) (h1 : gK G a1 = 8) (M : Mem) {r : Int32} {M' : Mem} (hf : f_X8_tellWhy a0 a1 M = some (r, M')) : Kc G l yX8_tellWhy cX8_tellWhy 3 (some .int) ({ frames := 5, cells := 0, slots := 0, locals := 113 } : Room) [.ref a0, .ref a1] M (some (.int r)) M' := by
  refine start (by decide) (Nat.le_of_ble_eq_true rfl) ?_
  intro p e s m args below meth c ls hx hb hr hown hml hlocks hts hV hM hl
  have hown : s.vm.findClass "FoldedVoices" = some m.cls := hown
  have hK := hG.1.moved hV
  have hS : va_S (gA G) s.heap s.heap [] := va_S.rf
  have hl : lv_has ls 3 [(0, .ref a0), (1, .ref a1)] := hl
  have hM0 := hM
  have b71 : ∀ (xs0 : Int32) (M : Mem) (H : Heap) (locs : List Loc) (ls : Array Slot), Mh G M H → va_S (gA G) s.heap H locs → lv_has ls 3 [(0, .ref a0), (1, .ref a1)] → f_X8_tellWhy_b71 a0 a1 xs0 M = some (r, M') → W p l e ({ frames := 5, cells := 0, slots := 0, locals := 113 } : Room) s m args below meth c H locs 0 0 (MQ below (QV G (some (.int r)) M') args s 0 0 (gA G)) (F0 m 71 ls [.int xs0]) := by
    intro xs0 M H locs ls hM hS hl hf
    rw [f_X8_tellWhy_b71] at hf
    refine lv_istore_n (lv' := [(2, .int xs0), (0, .ref a0), (1, .ref a1)]) hx hb dX8_tellWhy_71 rfl hl (by decide) rfl (fun ls hl => ?_)
    refine lv_iload_n hx hb dX8_tellWhy_72 rfl (lv_at hl 0 rfl) ?_
    refine lv_if_eq (tgt := 80) hx hb dX8_tellWhy_73 (by decide) (fun g_1 => ?_) (fun g_1 => ?_)
    · rw [if_pos g_1] at hf
      refine lv_iconst (v := 1) hx hb dX8_tellWhy_80 (by decide) ?_
      exact ef_im hx hb hr hlocks hM hS hf dX8_tellWhy_81
    · rw [if_neg g_1] at hf
      refine lv_iconst (v := 2) hx hb dX8_tellWhy_76 (by decide) ?_
      refine lv_goto (tgt := 81) hx hb dX8_tellWhy_77 (by decide) ?_
      exact ef_im hx hb hr hlocks hM hS hf dX8_tellWhy_81
  have b70 : ∀ (M : Mem) (H : Heap) (locs : List Loc) (ls : Array Slot), Mh G M H → va_S (gA G) s.heap H locs → lv_has ls 3 [(0, .ref a0), (1, .ref a1)] → f_X8_tellWhy_b70 a0 a1 M = some (r, M') → W p l e ({ frames := 5, cells := 0, slots := 0, locals := 113 } : Room) s m args below meth c H locs 0 0 (MQ below (QV G (some (.int r)) M') args s 0 0 (gA G)) (F0 m 70 ls []) := by
    intro M H locs ls hM hS hl hf
    rw [f_X8_tellWhy_b70] at hf
    refine lv_iconst (v := 0) hx hb dX8_tellWhy_70 (by decide) ?_
    exact b71 0 _ H locs ls hM hS (lv_sub hl [0, 1] rfl) hf
  rw [f_X8_tellWhy] at hf
  obtain ⟨H, hHe⟩ : ∃ H, H = s.heap := ⟨_, rfl⟩
  obtain ⟨locs, hLe⟩ : ∃ L : List Loc, L = [] := ⟨_, rfl⟩
  rw [← hHe] at hM
  have hS : va_S (gA G) s.heap H locs := by rw [hHe, hLe]; exact va_S.rf
  suffices hW : W p l e ({ frames := 5, cells := 0, slots := 0, locals := 113 } : Room) s m args below meth c H locs 0 0 (MQ below (QV G (some (.int r)) M') args s 0 0 (gA G)) (F0 m 0 ls []) by rw [hHe, hLe] at hW; exact hW
  refine lv_aload_n hx hb dX8_tellWhy_0 rfl (lv_at hl 0 rfl) ?_
  refine lv_aload_n hx hb dX8_tellWhy_1 rfl (lv_at hl 1 rfl) ?_
  obtain ⟨M3, e_2, hf⟩ := vb_e hf
  refine c_Vv hx hb hml hown hts hV hK hM hS (As := [.ref a1]) (rest := []) (k_X8_letAllCome G hG l a0 h0 a1 h1 M e_2) w_X8_letAllCome (tk_514 hts) (c_9 h0) rfl rfl ⟨⟨rfl, rfl⟩, Nat.le_of_ble_eq_true rfl, Nat.le_of_ble_eq_true rfl⟩ ⟨Nat.zero_le _, Nat.zero_le _⟩ rfl hl.1 rfl (Nat.le_of_ble_eq_true rfl) dX8_tellWhy_2 (fun H locs hM hS => ?_)
  refine lv_aload_n hx hb dX8_tellWhy_5 rfl (lv_at hl 0 rfl) ?_
  refine lv_aload_n hx hb dX8_tellWhy_6 rfl (lv_at hl 1 rfl) ?_
  obtain ⟨r5, M6, e_4, hf⟩ := cb_e hf
  refine c_Vi hx hb hml hown hts hV hK hM hS (As := [.ref a1]) (rest := []) (k_X8_wouldAgree G hG l a0 h0 a1 h1 M3 e_4) w_X8_wouldAgree (tk_560 hts) (c_9 h0) rfl rfl ⟨⟨rfl, rfl⟩, Nat.le_of_ble_eq_true rfl, Nat.le_of_ble_eq_true rfl⟩ ⟨Nat.zero_le _, Nat.zero_le _⟩ rfl hl.1 rfl (Nat.le_of_ble_eq_true rfl) dX8_tellWhy_7 (fun H locs hM hS => ?_)
  refine lv_if_eq (tgt := 15) hx hb dX8_tellWhy_10 (by decide) (fun g_7 => ?_) (fun g_7 => ?_)
  · rw [if_pos g_7] at hf
    refine lv_aload_n hx hb dX8_tellWhy_15 rfl (lv_at hl 0 rfl) ?_
    refine s_get hx hb (lay_8 hts) hown hK hM (c_9 h0) rfl 7 (by decide) rfl rfl (tk_273 hts) dX8_tellWhy_16 ?_
    refine s_getN hx hb (lay_1 hts) hown hK hM (c_2 (ky_9_7 hG h0)) rfl 4 (by decide) rfl rfl (tk_176 hts) dX8_tellWhy_19 ?_
    refine lv_aload_n hx hb dX8_tellWhy_22 rfl (lv_at hl 1 rfl) ?_
    refine s_getN hx hb (lay_7 hts) hown hK hM (c_8 h1) rfl 1 (by decide) rfl rfl (tk_212 hts) dX8_tellWhy_23 ?_
    refine s_getN hx hb (lay_1 hts) hown hK hM (c_2 (ky_8_1 hG h1)) rfl 4 (by decide) rfl rfl (tk_176 hts) dX8_tellWhy_26 ?_
    refine lv_icmp_ne (tgt := 70) hx hb dX8_tellWhy_29 (by decide) (fun g_8 => ?_) (fun g_8 => ?_)
    · rw [if_neg g_8] at hf
      exact b70 _ H locs ls hM hS (lv_sub hl [0, 1] rfl) hf
    · rw [if_pos g_8] at hf
      refine lv_aload_n hx hb dX8_tellWhy_32 rfl (lv_at hl 0 rfl) ?_
      refine s_get hx hb (lay_8 hts) hown hK hM (c_9 h0) rfl 7 (by decide) rfl rfl (tk_273 hts) dX8_tellWhy_33 ?_
      refine s_getN hx hb (lay_1 hts) hown hK hM (c_2 (ky_9_7 hG h0)) rfl 3 (by decide) rfl rfl (tk_174 hts) dX8_tellWhy_36 ?_
      refine lv_aload_n hx hb dX8_tellWhy_39 rfl (lv_at hl 1 rfl) ?_
      refine s_getN hx hb (lay_7 hts) hown hK hM (c_8 h1) rfl 1 (by decide) rfl rfl (tk_212 hts) dX8_tellWhy_40 ?_
      refine s_getN hx hb (lay_1 hts) hown hK hM (c_2 (ky_8_1 hG h1)) rfl 3 (by decide) rfl rfl (tk_174 hts) dX8_tellWhy_43 ?_
      refine lv_icmp_ne (tgt := 70) hx hb dX8_tellWhy_46 (by decide) (fun g_9 => ?_) (fun g_9 => ?_)
      · rw [if_neg g_9] at hf
        exact b70 _ H locs ls hM hS (lv_sub hl [0, 1] rfl) hf
      · rw [if_pos g_9] at hf
        refine lv_aload_n hx hb dX8_tellWhy_49 rfl (lv_at hl 0 rfl) ?_
        refine s_get hx hb (lay_8 hts) hown hK hM (c_9 h0) rfl 7 (by decide) rfl rfl (tk_273 hts) dX8_tellWhy_50 ?_
        refine s_getN hx hb (lay_1 hts) hown hK hM (c_2 (ky_9_7 hG h0)) rfl 1 (by decide) rfl rfl (tk_171 hts) dX8_tellWhy_53 ?_
        refine lv_aload_n hx hb dX8_tellWhy_56 rfl (lv_at hl 1 rfl) ?_
        refine s_getN hx hb (lay_7 hts) hown hK hM (c_8 h1) rfl 0 (by decide) rfl rfl (tk_210 hts) dX8_tellWhy_57 ?_
        refine s_getN hx hb (lay_3 hts) hown hK hM (c_4 (ky_8_0 hG h1)) rfl 5 (by decide) rfl rfl (tk_129 hts) dX8_tellWhy_60 ?_
        refine lv_icmp_ne (tgt := 70) hx hb dX8_tellWhy_63 (by decide) (fun g_10 => ?_) (fun g_10 => ?_)
        · rw [if_neg g_10] at hf
          exact b70 _ H locs ls hM hS (lv_sub hl [0, 1] rfl) hf
        · rw [if_pos g_10] at hf
          refine lv_iconst (v := 1) hx hb dX8_tellWhy_66 (by decide) ?_
          refine lv_goto (tgt := 71) hx hb dX8_tellWhy_67 (by decide) ?_
          exact b71 1 _ H locs ls hM hS (lv_sub hl [0, 1] rfl) hf
  · rw [if_neg g_7] at hf
    refine lv_iconst (v := 0) hx hb dX8_tellWhy_13 (by decide) ?_
    exact ef_im hx hb hr hlocks hM hS hf dX8_tellWhy_14
def f_X8_why (a0 : Nat) (p1 : Int32) (M : Mem) : Option (Nat × Int32 × Mem) := xb 0 (f_X8_voiceOf a0 p1 M) fun r2 M3 => cb (f_X8_tellWhy a0 r2 M3) fun r5 M6 => some (0, r5, M6)
set_option maxHeartbeats 4000000 in
set_option maxRecDepth 100000 in
theorem k_X8_why (G : Gt) (hG : gOK G) (l : Launch) (a0 : Nat) (h0 : gK G a0 = 9) (p1 : Int32) (M : Mem) {r : Int32} {M' : Mem} (hf : f_X8_why a0 p1 M = some (0, r, M')) : Kc G l yX8_why cX8_why 2 (some .int) ({ frames := 7, cells := 0, slots := 0, locals := 135 } : Room) [.ref a0, .int p1] M (some (.int r)) M' := by
  refine start (by decide) (Nat.le_of_ble_eq_true rfl) ?_
  intro p e s m args below meth c ls hx hb hr hown hml hlocks hts hV hM hl
  have hown : s.vm.findClass "FoldedVoices" = some m.cls := hown
  have hK := hG.1.moved hV
  have hS : va_S (gA G) s.heap s.heap [] := va_S.rf
  have hl : lv_has ls 2 [(0, .ref a0), (1, .int p1)] := hl
  have hM0 := hM
  rw [f_X8_why] at hf
  refine lv_aload_n hx hb dX8_why_0 rfl (lv_at hl 0 rfl) ?_
  refine lv_aload_n hx hb dX8_why_1 rfl (lv_at hl 0 rfl) ?_
  refine lv_iload_n hx hb dX8_why_2 rfl (lv_at hl 1 rfl) ?_
  obtain ⟨r2, M3, e_1, hf⟩ := xb_r hf
  refine c_Vr hx hb hml hown hts hV hK hM hS (As := [.int p1]) (rest := [.ref a0]) (k_X8_voiceOf G hG l a0 h0 p1 M e_1) w_X8_voiceOf (tk_306 hts) (c_9 h0) rfl rfl ⟨⟨rfl, rfl⟩, Nat.le_of_ble_eq_true rfl, Nat.le_of_ble_eq_true rfl⟩ ⟨Nat.zero_le _, Nat.zero_le _⟩ rfl hl.1 rfl (Nat.le_of_ble_eq_true rfl) dX8_why_3 (fun H locs hM hS => ?_)
  have h_r2 := kr_X8_voiceOf hG a0 h0 p1 e_1
  obtain ⟨r5, M6, e_4, hf⟩ := cb_e hf
  refine c_Vi hx hb hml hown hts hV hK hM hS (As := [.ref r2]) (rest := []) (k_X8_tellWhy G hG l a0 h0 r2 h_r2 M3 e_4) w_X8_tellWhy (tk_556 hts) (c_9 h0) rfl rfl ⟨⟨rfl, rfl⟩, Nat.le_of_ble_eq_true rfl, Nat.le_of_ble_eq_true rfl⟩ ⟨Nat.zero_le _, Nat.zero_le _⟩ rfl hl.1 rfl (Nat.le_of_ble_eq_true rfl) dX8_why_6 (fun H locs hM hS => ?_)
  exact ef_ix hx hb hr hlocks hM hS hf dX8_why_9
