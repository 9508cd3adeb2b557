def f_X7_countedAs (a0 : Nat) (p1 : Int32) (M : Mem) : Option Int32 := if p1 = 0 then (some (mI M (a0 + 1) 1)) else (if p1 = 1 then (some (mI M (a0 + 1) 6)) else (if p1 = 2 then (some (mI M (a0 + 1) 5)) else (if p1 = 3 then (some (mI M a0 3)) else (if p1 = 4 then (some (mI M a0 4)) else (some (mI M (a0 + 9) 9))))))
set_option maxHeartbeats 4000000 in
set_option maxRecDepth 100000 in
theorem k_X7_countedAs (G : Gt) (hG : gOK G) (l : Launch) (a0 : Nat) (h0 : gK G a0 = 8) (p1 : Int32) (M : Mem) {r : Int32} (hf : f_X7_countedAs a0 p1 M = some r) : Kc G l yX7_countedAs cX7_countedAs 2 (some .int) ({ frames := 0, cells := 0, slots := 0, locals := 0 } : Room) [.ref a0, .int p1] M (some (.int r)) M := by
  refine start (by decide) (Nat.le_of_ble_eq_true rfl) ?_
  intro p e s m args below meth c ls hx hb hr hown hml hlocks hts hV hM hl
  have hown : s.vm.findClass "FoldedVoices$Voice" = some m.cls := hown
  have hK := hG.1.moved hV
  have hS : va_S (gA G) s.heap s.heap [] := va_S.rf
  have hl : lv_has ls 2 [(0, .ref a0), (1, .int p1)] := hl
  have hM0 := hM
  rw [f_X7_countedAs] at hf
  refine lv_iload_n hx hb dX7_countedAs_0 rfl (lv_at hl 1 rfl) ?_
  by_cases g_1 : p1 = 0
  · rw [if_pos g_1] at hf
    refine lv_tableIn (off := 35) (tgt := 36) hx hb dX7_countedAs_1 (by rw [g_1]; decide) (by rw [g_1]; decide) (by rw [g_1]; rfl) (by decide) ?_
    refine lv_aload_n hx hb dX7_countedAs_36 rfl (lv_at hl 0 rfl) ?_
    refine s_get hx hb (lay_7 hts) hown hK hM (c_8 h0) rfl 0 (by decide) rfl rfl (tk_209 hts) dX7_countedAs_37 ?_
    refine s_getN hx hb (lay_3 hts) hown hK hM (c_4 (ky_8_0 hG h0)) rfl 1 (by decide) rfl rfl (tk_118 hts) dX7_countedAs_40 ?_
    exact ef_ip hx hb hr hlocks hM hS hf dX7_countedAs_43
  rw [if_neg g_1] at hf
  by_cases g_2 : p1 = 1
  · rw [if_pos g_2] at hf
    refine lv_tableIn (off := 43) (tgt := 44) hx hb dX7_countedAs_1 (by rw [g_2]; decide) (by rw [g_2]; decide) (by rw [g_2]; rfl) (by decide) ?_
    refine lv_aload_n hx hb dX7_countedAs_44 rfl (lv_at hl 0 rfl) ?_
    refine s_get hx hb (lay_7 hts) hown hK hM (c_8 h0) rfl 0 (by decide) rfl rfl (tk_209 hts) dX7_countedAs_45 ?_
    refine s_getN hx hb (lay_3 hts) hown hK hM (c_4 (ky_8_0 hG h0)) rfl 6 (by decide) rfl rfl (tk_131 hts) dX7_countedAs_48 ?_
    exact ef_ip hx hb hr hlocks hM hS hf dX7_countedAs_51
  rw [if_neg g_2] at hf
  by_cases g_3 : p1 = 2
  · rw [if_pos g_3] at hf
    refine lv_tableIn (off := 51) (tgt := 52) hx hb dX7_countedAs_1 (by rw [g_3]; decide) (by rw [g_3]; decide) (by rw [g_3]; rfl) (by decide) ?_
    refine lv_aload_n hx hb dX7_countedAs_52 rfl (lv_at hl 0 rfl) ?_
    refine s_get hx hb (lay_7 hts) hown hK hM (c_8 h0) rfl 0 (by decide) rfl rfl (tk_209 hts) dX7_countedAs_53 ?_
    refine s_getN hx hb (lay_3 hts) hown hK hM (c_4 (ky_8_0 hG h0)) rfl 5 (by decide) rfl rfl (tk_128 hts) dX7_countedAs_56 ?_
    exact ef_ip hx hb hr hlocks hM hS hf dX7_countedAs_59
  rw [if_neg g_3] at hf
  by_cases g_4 : p1 = 3
  · rw [if_pos g_4] at hf
    refine lv_tableIn (off := 59) (tgt := 60) hx hb dX7_countedAs_1 (by rw [g_4]; decide) (by rw [g_4]; decide) (by rw [g_4]; rfl) (by decide) ?_
    refine lv_aload_n hx hb dX7_countedAs_60 rfl (lv_at hl 0 rfl) ?_
    refine s_get hx hb (lay_7 hts) hown hK hM (c_8 h0) rfl 3 (by decide) rfl rfl (tk_215 hts) dX7_countedAs_61 ?_
    exact ef_ip hx hb hr hlocks hM hS hf dX7_countedAs_64
  rw [if_neg g_4] at hf
  by_cases g_5 : p1 = 4
  · rw [if_pos g_5] at hf
    refine lv_tableIn (off := 64) (tgt := 65) hx hb dX7_countedAs_1 (by rw [g_5]; decide) (by rw [g_5]; decide) (by rw [g_5]; rfl) (by decide) ?_
    refine lv_aload_n hx hb dX7_countedAs_65 rfl (lv_at hl 0 rfl) ?_
    refine s_get hx hb (lay_7 hts) hown hK hM (c_8 h0) rfl 4 (by decide) rfl rfl (tk_217 hts) dX7_countedAs_66 ?_
    exact ef_ip hx hb hr hlocks hM hS hf dX7_countedAs_69
  rw [if_neg g_5] at hf
  have tg_1 := lv_neT g_1 (show (0 : Int32).toInt = 0 from by decide)
  have tg_2 := lv_neT g_2 (show (1 : Int32).toInt = 1 from by decide)
  have tg_3 := lv_neT g_3 (show (2 : Int32).toInt = 2 from by decide)
  have tg_4 := lv_neT g_4 (show (3 : Int32).toInt = 3 from by decide)
  have tg_5 := lv_neT g_5 (show (4 : Int32).toInt = 4 from by decide)
  refine lv_tableOut (tgt := 70) hx hb dX7_countedAs_1 (by omega) (by decide) ?_
  refine lv_aload_n hx hb dX7_countedAs_70 rfl (lv_at hl 0 rfl) ?_
  refine s_get hx hb (lay_7 hts) hown hK hM (c_8 h0) rfl 1 (by decide) rfl rfl (tk_211 hts) dX7_countedAs_71 ?_
  refine s_getN hx hb (lay_1 hts) hown hK hM (c_2 (ky_8_1 hG h0)) rfl 9 (by decide) rfl rfl (tk_184 hts) dX7_countedAs_74 ?_
  exact ef_ip hx hb hr hlocks hM hS hf dX7_countedAs_77
def f_X7_packetAt (a0 : Nat) (p1 : Int32) (M : Mem) : Option (Option Nat) := if p1 < 0 then (some none) else (if (mI M a0 3) ≤ p1 then (some none) else (if (8 : Int32) ≤ p1 then (some none) else (gd (ix p1 8) <| nb (mR M (a0 + 11) p1.toNatClampNeg) fun z6 => some (some z6))))
set_option maxHeartbeats 4000000 in
set_option maxRecDepth 100000 in
theorem k_X7_packetAt (G : Gt) (hG : gOK G) (l : Launch) (a0 : Nat) (h0 : gK G a0 = 8) (p1 : Int32) (M : Mem) {r : Option Nat} (hf : f_X7_packetAt a0 p1 M = some r) : Kc G l yX7_packetAt cX7_packetAt 2 (some (.object "FoldedVoices$Packet")) ({ frames := 0, cells := 0, slots := 0, locals := 0 } : Room) [.ref a0, .int p1] M (some (va_rf r)) M := by
  refine start (by decide) (Nat.le_of_ble_eq_true rfl) ?_
  intro p e s m args below meth c ls hx hb hr hown hml hlocks hts hV hM hl
  have hown : s.vm.findClass "FoldedVoices$Voice" = some m.cls := hown
  have hK := hG.1.moved hV
  have hS : va_S (gA G) s.heap s.heap [] := va_S.rf
  have hl : lv_has ls 2 [(0, .ref a0), (1, .int p1)] := hl
  have hM0 := hM
  rw [f_X7_packetAt] at hf
  refine lv_iload_n hx hb dX7_packetAt_0 rfl (lv_at hl 1 rfl) ?_
  refine lv_if_lt (tgt := 30) hx hb dX7_packetAt_1 (by decide) (fun g_1 => ?_) (fun g_1 => ?_)
  · rw [if_pos g_1] at hf
    refine lv_null hx hb dX7_packetAt_30 ?_
    exact ef_on hx hb hr hlocks hM hS hf dX7_packetAt_31
  · rw [if_neg g_1] at hf
    refine lv_iload_n hx hb dX7_packetAt_4 rfl (lv_at hl 1 rfl) ?_
    refine lv_aload_n hx hb dX7_packetAt_5 rfl (lv_at hl 0 rfl) ?_
    refine s_get hx hb (lay_7 hts) hown hK hM (c_8 h0) rfl 3 (by decide) rfl rfl (tk_215 hts) dX7_packetAt_6 ?_
    refine lv_icmp_ge (tgt := 30) hx hb dX7_packetAt_9 (by decide) (fun g_2 => ?_) (fun g_2 => ?_)
    · rw [if_pos g_2] at hf
      refine lv_null hx hb dX7_packetAt_30 ?_
      exact ef_on hx hb hr hlocks hM hS hf dX7_packetAt_31
    · rw [if_neg g_2] at hf
      refine lv_iload_n hx hb dX7_packetAt_12 rfl (lv_at hl 1 rfl) ?_
      refine lv_aload_n hx hb dX7_packetAt_13 rfl (lv_at hl 0 rfl) ?_
      refine s_get hx hb (lay_7 hts) hown hK hM (c_8 h0) rfl 2 (by decide) rfl rfl (tk_213 hts) dX7_packetAt_14 ?_
      refine s_alen 2 hx hb hK hM (cel_pa (ky_8_2 hG h0)) rfl (v := 8) (show Int32.ofNat 8 = 8 from by decide) dX7_packetAt_17 ?_
      refine lv_icmp_ge (tgt := 30) hx hb dX7_packetAt_18 (by decide) (fun g_3 => ?_) (fun g_3 => ?_)
      · rw [if_pos g_3] at hf
        refine lv_null hx hb dX7_packetAt_30 ?_
        exact ef_on hx hb hr hlocks hM hS hf dX7_packetAt_31
      · rw [if_neg g_3] at hf
        refine lv_aload_n hx hb dX7_packetAt_21 rfl (lv_at hl 0 rfl) ?_
        refine s_get hx hb (lay_7 hts) hown hK hM (c_8 h0) rfl 2 (by decide) rfl rfl (tk_213 hts) dX7_packetAt_22 ?_
        refine lv_iload_n hx hb dX7_packetAt_25 rfl (lv_at hl 1 rfl) ?_
        obtain ⟨h_4, hf⟩ := gd_e hf
        refine s_paald hx hb hK hM (ky_8_2 hG h0) h_4 dX7_packetAt_26 (fun h_5 => ?_)
        obtain ⟨z6, ez6, hf⟩ := nb_e hf
        refine s_nmr ez6 ?_
        have h_z6 : gK G z6 = 3 := ez6 ▸ h_5
        refine lv_goto (tgt := 31) hx hb dX7_packetAt_27 (by decide) ?_
        exact ef_os hx hb hr hlocks hM hS hf dX7_packetAt_31
theorem kr_X7_packetAt {G : Gt} (hG : gOK G) (a0 : Nat) (h0 : gK G a0 = 8) (p1 : Int32) {M : Mem} {q : Nat} (hw : wfM G M) (hf : f_X7_packetAt a0 p1 M = some (some q)) : gK G q = 3 := by
  unfold f_X7_packetAt at hf
  repeat' split at hf
  all_goals first | (cases hf; done) | skip
  all_goals (simp only [gd, nb] at hf; split at hf)
  all_goals first | (cases hf; done) | skip
  all_goals (rename_i hh; cases hf; exact hw.1 _ _ (ky_8_2 hG h0) (ix_lt hh))
def f_X7_hasRoom (a0 : Nat) (M : Mem) : Option Int32 := if (8 : Int32) ≤ (mI M a0 3) then (some 0) else (some 1)
set_option maxHeartbeats 4000000 in
set_option maxRecDepth 100000 in
theorem k_X7_hasRoom (G : Gt) (hG : gOK G) (l : Launch) (a0 : Nat) (h0 : gK G a0 = 8) (M : Mem) {r : Int32} (hf : f_X7_hasRoom a0 M = some r) : Kc G l yX7_hasRoom cX7_hasRoom 1 (some .boolean) ({ frames := 0, cells := 0, slots := 0, locals := 0 } : Room) [.ref a0] M (some (.int r)) M := by
  refine start (by decide) (Nat.le_of_ble_eq_true rfl) ?_
  intro p e s m args below meth c ls hx hb hr hown hml hlocks hts hV hM hl
  have hown : s.vm.findClass "FoldedVoices$Voice" = some m.cls := hown
  have hK := hG.1.moved hV
  have hS : va_S (gA G) s.heap s.heap [] := va_S.rf
  have hl : lv_has ls 1 [(0, .ref a0)] := hl
  have hM0 := hM
  rw [f_X7_hasRoom] at hf
  refine lv_aload_n hx hb dX7_hasRoom_0 rfl (lv_at hl 0 rfl) ?_
  refine s_get hx hb (lay_7 hts) hown hK hM (c_8 h0) rfl 3 (by decide) rfl rfl (tk_215 hts) dX7_hasRoom_1 ?_
  refine lv_aload_n hx hb dX7_hasRoom_4 rfl (lv_at hl 0 rfl) ?_
  refine s_get hx hb (lay_7 hts) hown hK hM (c_8 h0) rfl 2 (by decide) rfl rfl (tk_213 hts) dX7_hasRoom_5 ?_
  refine s_alen 2 hx hb hK hM (cel_pa (ky_8_2 hG h0)) rfl (v := 8) (show Int32.ofNat 8 = 8 from by decide) dX7_hasRoom_8 ?_
  refine lv_icmp_ge (tgt := 16) hx hb dX7_hasRoom_9 (by decide) (fun g_1 => ?_) (fun g_1 => ?_)
  · rw [if_pos g_1] at hf
    refine lv_iconst (v := 0) hx hb dX7_hasRoom_16 (by decide) ?_
    exact ef_zp hx hb hr hlocks hM hS (nz_n (Or.inl rfl)) hf dX7_hasRoom_17
  · rw [if_neg g_1] at hf
    refine lv_iconst (v := 1) hx hb dX7_hasRoom_12 (by decide) ?_
    refine lv_goto (tgt := 17) hx hb dX7_hasRoom_13 (by decide) ?_
    exact ef_zp hx hb hr hlocks hM hS (nz_n (Or.inr rfl)) hf dX7_hasRoom_17
def f_X7_canTake (a0 : Nat) (a1 : Nat) (M : Mem) : Option Int32 := vb (f_X7_hasRoom a0 M) fun r2 => if r2 = 0 then (vb (f_X3_wouldClose (a0 + 1) a1 M) fun r5 => if r5 = 0 then (some 1) else (some 0)) else (some 1)
set_option maxHeartbeats 4000000 in
set_option maxRecDepth 100000 in
theorem k_X7_canTake (G : Gt) (hG : gOK G) (l : Launch) (a0 : Nat) (h0 : gK G a0 = 8) (a1 : Nat) (h1 : gK G a1 = 5) (M : Mem) {r : Int32} (hf : f_X7_canTake a0 a1 M = some r) : Kc G l yX7_canTake cX7_canTake 2 (some .boolean) ({ frames := 2, cells := 0, slots := 0, locals := 43 } : Room) [.ref a0, .ref a1] M (some (.int r)) M := by
  refine start (by decide) (Nat.le_of_ble_eq_true rfl) ?_
  intro p e s m args below meth c ls hx hb hr hown hml hlocks hts hV hM hl
  have hown : s.vm.findClass "FoldedVoices$Voice" = some m.cls := hown
  have hK := hG.1.moved hV
  have hS : va_S (gA G) s.heap s.heap [] := va_S.rf
  have hl : lv_has ls 2 [(0, .ref a0), (1, .ref a1)] := hl
  have hM0 := hM
  rw [f_X7_canTake] at hf
  refine lv_aload_n hx hb dX7_canTake_0 rfl (lv_at hl 0 rfl) ?_
  obtain ⟨r2, e_1, hf⟩ := vb_e hf
  refine c_Vi hx hb hml hown hts hV hK hM hS (As := []) (rest := []) (k_X7_hasRoom G hG l a0 h0 M e_1) w_X7_hasRoom (tk_781 hts) (c_8 h0) rfl rfl ⟨⟨rfl, rfl⟩, Nat.le_of_ble_eq_true rfl, Nat.le_of_ble_eq_true rfl⟩ ⟨Nat.zero_le _, Nat.zero_le _⟩ rfl hl.1 rfl (Nat.le_of_ble_eq_true rfl) dX7_canTake_1 (fun H locs hM hS => ?_)
  refine lv_if_ne (tgt := 18) hx hb dX7_canTake_4 (by decide) (fun g_3 => ?_) (fun g_3 => ?_)
  · rw [if_neg g_3] at hf
    refine lv_iconst (v := 1) hx hb dX7_canTake_18 (by decide) ?_
    refine lv_goto (tgt := 23) hx hb dX7_canTake_19 (by decide) ?_
    exact ef_zp hx hb hr hlocks hM hS (nz_n (Or.inr rfl)) hf dX7_canTake_23
  · rw [if_pos g_3] at hf
    refine lv_aload_n hx hb dX7_canTake_7 rfl (lv_at hl 0 rfl) ?_
    refine s_get hx hb (lay_7 hts) hown hK hM (c_8 h0) rfl 0 (by decide) rfl rfl (tk_209 hts) dX7_canTake_8 ?_
    refine lv_aload_n hx hb dX7_canTake_11 rfl (lv_at hl 1 rfl) ?_
    obtain ⟨r5, e_4, hf⟩ := vb_e hf
    refine c_Vi hx hb hml hown hts hV hK hM hS (As := [.ref a1]) (rest := []) (k_X3_wouldClose G hG l (a0 + 1) (ky_8_0 hG h0) a1 h1 M e_4) w_X3_wouldClose (tk_782 hts) (c_4 (ky_8_0 hG h0)) rfl rfl ⟨⟨rfl, rfl⟩, Nat.le_of_ble_eq_true rfl, Nat.le_of_ble_eq_true rfl⟩ ⟨Nat.zero_le _, Nat.zero_le _⟩ rfl hl.1 rfl (Nat.le_of_ble_eq_true rfl) dX7_canTake_12 (fun H locs hM hS => ?_)
    refine lv_if_ne (tgt := 22) hx hb dX7_canTake_15 (by decide) (fun g_6 => ?_) (fun g_6 => ?_)
    · rw [if_neg g_6] at hf
      refine lv_iconst (v := 0) hx hb dX7_canTake_22 (by decide) ?_
      exact ef_zp hx hb hr hlocks hM hS (nz_n (Or.inl rfl)) hf dX7_canTake_23
    · rw [if_pos g_6] at hf
      refine lv_iconst (v := 1) hx hb dX7_canTake_18 (by decide) ?_
      refine lv_goto (tgt := 23) hx hb dX7_canTake_19 (by decide) ?_
      exact ef_zp hx hb hr hlocks hM hS (nz_n (Or.inr rfl)) hf dX7_canTake_23
def f_X7_closePacket (a0 : Nat) (a1 : Nat) (M : Mem) : Option Mem := if (mI M a0 3) < 0 then (some M) else (if (8 : Int32) ≤ (mI M a0 3) then (some M) else (gd (ix (mI M a0 3) 8) <| nb (mR M (a0 + 11) (mI M a0 3).toNatClampNeg) fun z5 => vb (f_X4_valueOf a1 3 M) fun r7 => vb (f_X3_closeInto (a0 + 1) z5 r7 M) fun M9 => nb (sI M9 a0 3 ((mI M9 a0 3) + 1)) fun M10 => some M10))
set_option maxHeartbeats 4000000 in
set_option maxRecDepth 100000 in
theorem k_X7_closePacket (G : Gt) (hG : gOK G) (l : Launch) (a0 : Nat) (h0 : gK G a0 = 8) (a1 : Nat) (h1 : gK G a1 = 5) (M : Mem) {M' : Mem} (hf : f_X7_closePacket a0 a1 M = some M') : Kc G l yX7_closePacket cX7_closePacket 2 none ({ frames := 3, cells := 0, slots := 0, locals := 69 } : Room) [.ref a0, .ref a1] M none M' := by
  refine start (by decide) (Nat.le_of_ble_eq_true rfl) ?_
  intro p e s m args below meth c ls hx hb hr hown hml hlocks hts hV hM hl
  have hown : s.vm.findClass "FoldedVoices$Voice" = some m.cls := hown
  have hK := hG.1.moved hV
  have hS : va_S (gA G) s.heap s.heap [] := va_S.rf
  have hl : lv_has ls 2 [(0, .ref a0), (1, .ref a1)] := hl
  have hM0 := hM
  rw [f_X7_closePacket] at hf
  refine lv_aload_n hx hb dX7_closePacket_0 rfl (lv_at hl 0 rfl) ?_
  refine s_get hx hb (lay_7 hts) hown hK hM (c_8 h0) rfl 3 (by decide) rfl rfl (tk_215 hts) dX7_closePacket_1 ?_
  refine lv_if_lt (tgt := 50) hx hb dX7_closePacket_4 (by decide) (fun g_1 => ?_) (fun g_1 => ?_)
  · rw [if_pos g_1] at hf
    exact ef_v hx hb hr hlocks hM hS hf dX7_closePacket_50
  · rw [if_neg g_1] at hf
    refine lv_aload_n hx hb dX7_closePacket_7 rfl (lv_at hl 0 rfl) ?_
    refine s_get hx hb (lay_7 hts) hown hK hM (c_8 h0) rfl 3 (by decide) rfl rfl (tk_215 hts) dX7_closePacket_8 ?_
    refine lv_aload_n hx hb dX7_closePacket_11 rfl (lv_at hl 0 rfl) ?_
    refine s_get hx hb (lay_7 hts) hown hK hM (c_8 h0) rfl 2 (by decide) rfl rfl (tk_213 hts) dX7_closePacket_12 ?_
    refine s_alen 2 hx hb hK hM (cel_pa (ky_8_2 hG h0)) rfl (v := 8) (show Int32.ofNat 8 = 8 from by decide) dX7_closePacket_15 ?_
    refine lv_icmp_ge (tgt := 50) hx hb dX7_closePacket_16 (by decide) (fun g_2 => ?_) (fun g_2 => ?_)
    · rw [if_pos g_2] at hf
      exact ef_v hx hb hr hlocks hM hS hf dX7_closePacket_50
    · rw [if_neg g_2] at hf
      refine lv_aload_n hx hb dX7_closePacket_19 rfl (lv_at hl 0 rfl) ?_
      refine s_get hx hb (lay_7 hts) hown hK hM (c_8 h0) rfl 0 (by decide) rfl rfl (tk_209 hts) dX7_closePacket_20 ?_
      refine lv_aload_n hx hb dX7_closePacket_23 rfl (lv_at hl 0 rfl) ?_
      refine s_get hx hb (lay_7 hts) hown hK hM (c_8 h0) rfl 2 (by decide) rfl rfl (tk_213 hts) dX7_closePacket_24 ?_
      refine lv_aload_n hx hb dX7_closePacket_27 rfl (lv_at hl 0 rfl) ?_
      refine s_get hx hb (lay_7 hts) hown hK hM (c_8 h0) rfl 3 (by decide) rfl rfl (tk_215 hts) dX7_closePacket_28 ?_
      obtain ⟨h_3, hf⟩ := gd_e hf
      refine s_paald hx hb hK hM (ky_8_2 hG h0) h_3 dX7_closePacket_31 (fun h_4 => ?_)
      obtain ⟨z5, ez5, hf⟩ := nb_e hf
      refine s_nmr ez5 ?_
      have h_z5 : gK G z5 = 3 := ez5 ▸ h_4
      refine lv_aload_n hx hb dX7_closePacket_32 rfl (lv_at hl 1 rfl) ?_
      refine lv_iconst (v := 3) hx hb dX7_closePacket_33 (by decide) ?_
      obtain ⟨r7, e_6, hf⟩ := vb_e hf
      refine c_Vi hx hb hml hown hts hV hK hM hS (As := [.int 3]) (rest := [.ref z5, .ref (a0 + 1)]) (k_X4_valueOf G hG l a1 h1 3 M e_6) w_X4_valueOf (tk_714 hts) (c_5 h1) rfl rfl ⟨⟨rfl, rfl⟩, Nat.le_of_ble_eq_true rfl, Nat.le_of_ble_eq_true rfl⟩ ⟨Nat.zero_le _, Nat.zero_le _⟩ rfl hl.1 rfl (Nat.le_of_ble_eq_true rfl) dX7_closePacket_34 (fun H locs hM hS => ?_)
      obtain ⟨M9, e_8, hf⟩ := vb_e hf
      refine c_Vv hx hb hml hown hts hV hK hM hS (As := [.ref z5, .int r7]) (rest := []) (k_X3_closeInto G hG l (a0 + 1) (ky_8_0 hG h0) z5 h_z5 r7 M e_8) w_X3_closeInto (tk_715 hts) (c_4 (ky_8_0 hG h0)) rfl rfl ⟨⟨rfl, rfl⟩, Nat.le_of_ble_eq_true rfl, Nat.le_of_ble_eq_true rfl⟩ ⟨Nat.zero_le _, Nat.zero_le _⟩ rfl hl.1 rfl (Nat.le_of_ble_eq_true rfl) dX7_closePacket_37 (fun H locs hM hS => ?_)
      refine lv_aload_n hx hb dX7_closePacket_40 rfl (lv_at hl 0 rfl) ?_
      refine lv_dup hx hb dX7_closePacket_41 rfl ?_
      refine s_get hx hb (lay_7 hts) hown hK hM (c_8 h0) rfl 3 (by decide) rfl rfl (tk_215 hts) dX7_closePacket_42 ?_
      refine lv_iconst (v := 1) hx hb dX7_closePacket_45 (by decide) ?_
      refine lv_iadd hx hb dX7_closePacket_46 ?_
      obtain ⟨M10, eM10, hf⟩ := nb_e hf
      refine s_put tyX7 hx hb (lay_7 hts) tyX7_ok nmX7 hown hK hM hS (ky_b hG h0) (c_8 h0) rfl 3 (by decide) rfl rfl rfl (Nat.le_of_ble_eq_true rfl) (cp_7_3 h0) (fun _ h9 => cel_sI _ h9) hM.2.2.sI rfl (tk_215 hts) dX7_closePacket_47 (fun H locs hM hS => ?_)
      rw [eM10] at hM
      exact ef_v hx hb hr hlocks hM hS hf dX7_closePacket_50
def f_X7_take_b47 (a0 : Nat) (p1 : Int32) (a2 : Nat) (x3 : Int32) (M : Mem) : Option (Int32 × Mem) := vb (f_X4_valueOf a2 2 M) fun r2 => if (mI M ((a0 + 1) + 2) 2) < r2 then (some (x3, M)) else (vb (f_X7_closePacket a0 a2 M) fun M5 => some (x3, M5))
def f_X7_take (a0 : Nat) (p1 : Int32) (a2 : Nat) (M : Mem) : Option (Int32 × Mem) := vb (f_X3_gather (a0 + 1) p1 M) fun M7 => vb (f_X4_valueOf a2 0 M7) fun r9 => if (mI M7 (a0 + 1) 2) < r9 then (f_X7_take_b47 a0 p1 a2 (-10000) M7) else (vb (f_X4_valueOf a2 1 M7) fun r12 => cb (f_X3_takeMean (a0 + 1) r12 M7) fun r14 M15 => cb (f_X3_fold (a0 + 1) r14 M15) fun r17 M18 => f_X7_take_b47 a0 p1 a2 r17 M18)
set_option maxHeartbeats 4000000 in
set_option maxRecDepth 100000 in
theorem k_X7_take (G : Gt) (hG : gOK G) (l : Launch) (a0 : Nat) (h0 : gK G a0 = 8) (p1 : Int32) (a2 : Nat) (h2 : gK G a2 = 5) (M : Mem) {r : Int32} {M' : Mem} (hf : f_X7_take a0 p1 a2 M = some (r, M')) : Kc G l yX7_take cX7_take 4 (some .int) ({ frames := 4, cells := 0, slots := 0, locals := 90 } : Room) [.ref a0, .int p1, .ref a2] M (some (.int r)) M' := by
  refine start (by decide) (Nat.le_of_ble_eq_true rfl) ?_
  intro p e s m args below meth c ls hx hb hr hown hml hlocks hts hV hM hl
  have hown : s.vm.findClass "FoldedVoices$Voice" = some m.cls := hown
  have hK := hG.1.moved hV
  have hS : va_S (gA G) s.heap s.heap [] := va_S.rf
  have hl : lv_has ls 4 [(0, .ref a0), (1, .int p1), (2, .ref a2)] := hl
  have hM0 := hM
  have b47 : ∀ (x3 : Int32) (M : Mem) (H : Heap) (locs : List Loc) (ls : Array Slot), Mh G M H → va_S (gA G) s.heap H locs → lv_has ls 4 [(0, .ref a0), (1, .int p1), (2, .ref a2), (3, .int x3)] → f_X7_take_b47 a0 p1 a2 x3 M = some (r, M') → W p l e ({ frames := 4, cells := 0, slots := 0, locals := 90 } : Room) s m args below meth c H locs 0 0 (MQ below (QV G (some (.int r)) M') args s 0 0 (gA G)) (F0 m 47 ls []) := by
    intro x3 M H locs ls hM hS hl hf
    rw [f_X7_take_b47] at hf
    refine lv_aload_n hx hb dX7_take_47 rfl (lv_at hl 0 rfl) ?_
    refine s_get hx hb (lay_7 hts) hown hK hM (c_8 h0) rfl 0 (by decide) rfl rfl (tk_209 hts) dX7_take_48 ?_
    refine s_getN hx hb (lay_3 hts) hown hK hM (c_4 (ky_8_0 hG h0)) rfl 4 (by decide) rfl rfl (tk_126 hts) dX7_take_51 ?_
    refine s_getN hx hb (lay_2 hts) hown hK hM (c_3 (ky_4_4 hG (ky_8_0 hG h0))) rfl 2 (by decide) rfl rfl (tk_90 hts) dX7_take_54 ?_
    refine lv_aload_n hx hb dX7_take_57 rfl (lv_at hl 2 rfl) ?_
    refine lv_iconst (v := 2) hx hb dX7_take_58 (by decide) ?_
    obtain ⟨r2, e_1, hf⟩ := vb_e hf
    refine c_Vi hx hb hml hown hts hV hK hM hS (As := [.int 2]) (rest := [.int (mI M ((a0 + 1) + 2) 2)]) (k_X4_valueOf G hG l a2 h2 2 M e_1) w_X4_valueOf (tk_714 hts) (c_5 h2) rfl rfl ⟨⟨rfl, rfl⟩, Nat.le_of_ble_eq_true rfl, Nat.le_of_ble_eq_true rfl⟩ ⟨Nat.zero_le _, Nat.zero_le _⟩ rfl hl.1 rfl (Nat.le_of_ble_eq_true rfl) dX7_take_59 (fun H locs hM hS => ?_)
    refine lv_icmp_lt (tgt := 70) hx hb dX7_take_62 (by decide) (fun g_3 => ?_) (fun g_3 => ?_)
    · rw [if_pos g_3] at hf
      refine lv_iload_n hx hb dX7_take_70 rfl (lv_at hl 3 rfl) ?_
      exact ef_im hx hb hr hlocks hM hS hf dX7_take_71
    · rw [if_neg g_3] at hf
      refine lv_aload_n hx hb dX7_take_65 rfl (lv_at hl 0 rfl) ?_
      refine lv_aload_n hx hb dX7_take_66 rfl (lv_at hl 2 rfl) ?_
      obtain ⟨M5, e_4, hf⟩ := vb_e hf
      refine c_Vv hx hb hml hown hts hV hK hM hS (As := [.ref a2]) (rest := []) (k_X7_closePacket G hG l a0 h0 a2 h2 M e_4) w_X7_closePacket (tk_809 hts) (c_8 h0) rfl rfl ⟨⟨rfl, rfl⟩, Nat.le_of_ble_eq_true rfl, Nat.le_of_ble_eq_true rfl⟩ ⟨Nat.zero_le _, Nat.zero_le _⟩ rfl hl.1 rfl (Nat.le_of_ble_eq_true rfl) dX7_take_67 (fun H locs hM hS => ?_)
      refine lv_iload_n hx hb dX7_take_70 rfl (lv_at hl 3 rfl) ?_
      exact ef_im hx hb hr hlocks hM hS hf dX7_take_71
  rw [f_X7_take] at hf
  obtain ⟨H, hHe⟩ : ∃ H, H = s.heap := ⟨_, rfl⟩
  obtain ⟨locs, hLe⟩ : ∃ L : List Loc, L = [] := ⟨_, rfl⟩
  rw [← hHe] at hM
  have hS : va_S (gA G) s.heap H locs := by rw [hHe, hLe]; exact va_S.rf
  suffices hW : W p l e ({ frames := 4, cells := 0, slots := 0, locals := 90 } : Room) s m args below meth c H locs 0 0 (MQ below (QV G (some (.int r)) M') args s 0 0 (gA G)) (F0 m 0 ls []) by rw [hHe, hLe] at hW; exact hW
  refine lv_aload_n hx hb dX7_take_0 rfl (lv_at hl 0 rfl) ?_
  refine s_get hx hb (lay_7 hts) hown hK hM (c_8 h0) rfl 0 (by decide) rfl rfl (tk_209 hts) dX7_take_1 ?_
  refine lv_iload_n hx hb dX7_take_4 rfl (lv_at hl 1 rfl) ?_
  obtain ⟨M7, e_6, hf⟩ := vb_e hf
  refine c_Vv hx hb hml hown hts hV hK hM hS (As := [.int p1]) (rest := []) (k_X3_gather G hG l (a0 + 1) (ky_8_0 hG h0) p1 M e_6) w_X3_gather (tk_791 hts) (c_4 (ky_8_0 hG h0)) rfl rfl ⟨⟨rfl, rfl⟩, Nat.le_of_ble_eq_true rfl, Nat.le_of_ble_eq_true rfl⟩ ⟨Nat.zero_le _, Nat.zero_le _⟩ rfl hl.1 rfl (Nat.le_of_ble_eq_true rfl) dX7_take_5 (fun H locs hM hS => ?_)
  refine lv_sipush (v := (-10000)) hx hb dX7_take_8 (by decide) ?_
  refine lv_istore_n (lv' := [(3, .int (-10000)), (0, .ref a0), (1, .int p1), (2, .ref a2)]) hx hb dX7_take_11 rfl hl (by decide) rfl (fun ls hl => ?_)
  refine lv_aload_n hx hb dX7_take_12 rfl (lv_at hl 1 rfl) ?_
  refine s_get hx hb (lay_7 hts) hown hK hM (c_8 h0) rfl 0 (by decide) rfl rfl (tk_209 hts) dX7_take_13 ?_
  refine s_getN hx hb (lay_3 hts) hown hK hM (c_4 (ky_8_0 hG h0)) rfl 2 (by decide) rfl rfl (tk_120 hts) dX7_take_16 ?_
  refine lv_aload_n hx hb dX7_take_19 rfl (lv_at hl 3 rfl) ?_
  refine lv_iconst (v := 0) hx hb dX7_take_20 (by decide) ?_
  obtain ⟨r9, e_8, hf⟩ := vb_e hf
  refine c_Vi hx hb hml hown hts hV hK hM hS (As := [.int 0]) (rest := [.int (mI M7 (a0 + 1) 2)]) (k_X4_valueOf G hG l a2 h2 0 M7 e_8) w_X4_valueOf (tk_714 hts) (c_5 h2) rfl rfl ⟨⟨rfl, rfl⟩, Nat.le_of_ble_eq_true rfl, Nat.le_of_ble_eq_true rfl⟩ ⟨Nat.zero_le _, Nat.zero_le _⟩ rfl hl.1 rfl (Nat.le_of_ble_eq_true rfl) dX7_take_21 (fun H locs hM hS => ?_)
  refine lv_icmp_lt (tgt := 47) hx hb dX7_take_24 (by decide) (fun g_10 => ?_) (fun g_10 => ?_)
  · rw [if_pos g_10] at hf
    exact b47 (-10000) _ H locs ls hM hS (lv_sub hl [1, 2, 3, 0] rfl) hf
  · rw [if_neg g_10] at hf
    refine lv_aload_n hx hb dX7_take_27 rfl (lv_at hl 1 rfl) ?_
    refine s_get hx hb (lay_7 hts) hown hK hM (c_8 h0) rfl 0 (by decide) rfl rfl (tk_209 hts) dX7_take_28 ?_
    refine lv_aload_n hx hb dX7_take_31 rfl (lv_at hl 1 rfl) ?_
    refine s_get hx hb (lay_7 hts) hown hK hM (c_8 h0) rfl 0 (by decide) rfl rfl (tk_209 hts) dX7_take_32 ?_
    refine lv_aload_n hx hb dX7_take_35 rfl (lv_at hl 3 rfl) ?_
    refine lv_iconst (v := 1) hx hb dX7_take_36 (by decide) ?_
    obtain ⟨r12, e_11, hf⟩ := vb_e hf
    refine c_Vi hx hb hml hown hts hV hK hM hS (As := [.int 1]) (rest := [.ref (a0 + 1), .ref (a0 + 1)]) (k_X4_valueOf G hG l a2 h2 1 M7 e_11) w_X4_valueOf (tk_714 hts) (c_5 h2) rfl rfl ⟨⟨rfl, rfl⟩, Nat.le_of_ble_eq_true rfl, Nat.le_of_ble_eq_true rfl⟩ ⟨Nat.zero_le _, Nat.zero_le _⟩ rfl hl.1 rfl (Nat.le_of_ble_eq_true rfl) dX7_take_37 (fun H locs hM hS => ?_)
    obtain ⟨r14, M15, e_13, hf⟩ := cb_e hf
    refine c_Vi hx hb hml hown hts hV hK hM hS (As := [.int r12]) (rest := [.ref (a0 + 1)]) (k_X3_takeMean G hG l (a0 + 1) (ky_8_0 hG h0) r12 M7 e_13) w_X3_takeMean (tk_795 hts) (c_4 (ky_8_0 hG h0)) rfl rfl ⟨⟨rfl, rfl⟩, Nat.le_of_ble_eq_true rfl, Nat.le_of_ble_eq_true rfl⟩ ⟨Nat.zero_le _, Nat.zero_le _⟩ rfl hl.1 rfl (Nat.le_of_ble_eq_true rfl) dX7_take_40 (fun H locs hM hS => ?_)
    obtain ⟨r17, M18, e_16, hf⟩ := cb_e hf
    refine c_Vi hx hb hml hown hts hV hK hM hS (As := [.int r14]) (rest := []) (k_X3_fold G hG l (a0 + 1) (ky_8_0 hG h0) r14 M15 e_16) w_X3_fold (tk_800 hts) (c_4 (ky_8_0 hG h0)) rfl rfl ⟨⟨rfl, rfl⟩, Nat.le_of_ble_eq_true rfl, Nat.le_of_ble_eq_true rfl⟩ ⟨Nat.zero_le _, Nat.zero_le _⟩ rfl hl.1 rfl (Nat.le_of_ble_eq_true rfl) dX7_take_43 (fun H locs hM hS => ?_)
    refine lv_istore_n (lv' := [(3, .int r17), (0, .ref a0), (1, .int p1), (2, .ref a2)]) hx hb dX7_take_46 rfl hl (by decide) rfl (fun ls hl => ?_)
    exact b47 r17 _ H locs ls hM hS (lv_sub hl [1, 2, 3, 0] rfl) hf
def f_X7_takeFirstOff_b9 (a0 : Nat) : Nat → Nat → Int32 → Mem → Option Mem
  | 0, _, _, _ => none
  | n + 1, q1, x2, M => if (8 : Int32) ≤ x2 then (gd (ix ((8 : Int32) - 1) 8) <| nb (sR M (a0 + 11) ((8 : Int32) - 1).toNatClampNeg q1) fun M3 => nb (sI M3 a0 3 ((mI M3 a0 3) - 1)) fun M4 => some M4) else (gd (ix x2 8) <| nb (mR M (a0 + 11) x2.toNatClampNeg) fun z7 => gd (ix (x2 - 1) 8) <| nb (sR M (a0 + 11) (x2 - 1).toNatClampNeg z7) fun M9 => nb (x2 + 1) fun y10 => f_X7_takeFirstOff_b9 a0 n q1 y10 M9)
def f_X7_takeFirstOff (a0 : Nat) (M : Mem) : Option Mem := gd (ix (0 : Int32) 8) <| nb (mR M (a0 + 11) (0 : Int32).toNatClampNeg) fun z13 => f_X7_takeFirstOff_b9 a0 lfuel z13 1 M
set_option maxHeartbeats 4000000 in
set_option maxRecDepth 100000 in
theorem k_X7_takeFirstOff (G : Gt) (hG : gOK G) (l : Launch) (a0 : Nat) (h0 : gK G a0 = 8) (M : Mem) {M' : Mem} (hf : f_X7_takeFirstOff a0 M = some M') : Kc G l yX7_takeFirstOff cX7_takeFirstOff 3 none ({ frames := 0, cells := 0, slots := 0, locals := 0 } : Room) [.ref a0] M none M' := by
  refine start (by decide) (Nat.le_of_ble_eq_true rfl) ?_
  intro p e s m args below meth c ls hx hb hr hown hml hlocks hts hV hM hl
  have hown : s.vm.findClass "FoldedVoices$Voice" = some m.cls := hown
  have hK := hG.1.moved hV
  have hS : va_S (gA G) s.heap s.heap [] := va_S.rf
  have hl : lv_has ls 3 [(0, .ref a0)] := hl
  have hM0 := hM
  have b9 : ∀ (n : Nat), ∀ (q1 : Nat) (x2 : Int32) (M : Mem) (H : Heap) (locs : List Loc) (ls : Array Slot), gK G q1 = 3 → Mh G M H → va_S (gA G) s.heap H locs → lv_has ls 3 [(0, .ref a0), (1, .ref q1), (2, .int x2)] → f_X7_takeFirstOff_b9 a0 n q1 x2 M = some M' → W p l e ({ frames := 0, cells := 0, slots := 0, locals := 0 } : Room) s m args below meth c H locs 0 0 (MQ below (QV G none M') args s 0 0 (gA G)) (F0 m 9 ls []) := by
    intro n
    induction n with
    | zero =>
      intro q1 x2 M H locs ls h_q1 hM hS hl hf
      rw [f_X7_takeFirstOff_b9] at hf
      cases hf
    | succ n ih =>
      intro q1 x2 M H locs ls h_q1 hM hS hl hf
      rw [f_X7_takeFirstOff_b9] at hf
      refine lv_iload_n hx hb dX7_takeFirstOff_9 rfl (lv_at hl 2 rfl) ?_
      refine lv_aload_n hx hb dX7_takeFirstOff_10 rfl (lv_at hl 0 rfl) ?_
      refine s_get hx hb (lay_7 hts) hown hK hM (c_8 h0) rfl 2 (by decide) rfl rfl (tk_213 hts) dX7_takeFirstOff_11 ?_
      refine s_alen 2 hx hb hK hM (cel_pa (ky_8_2 hG h0)) rfl (v := 8) (show Int32.ofNat 8 = 8 from by decide) dX7_takeFirstOff_14 ?_
      refine lv_icmp_ge (tgt := 38) hx hb dX7_takeFirstOff_15 (by decide) (fun g_1 => ?_) (fun g_1 => ?_)
      · rw [if_pos g_1] at hf
        refine lv_aload_n hx hb dX7_takeFirstOff_38 rfl (lv_at hl 0 rfl) ?_
        refine s_get hx hb (lay_7 hts) hown hK hM (c_8 h0) rfl 2 (by decide) rfl rfl (tk_213 hts) dX7_takeFirstOff_39 ?_
        refine lv_aload_n hx hb dX7_takeFirstOff_42 rfl (lv_at hl 0 rfl) ?_
        refine s_get hx hb (lay_7 hts) hown hK hM (c_8 h0) rfl 2 (by decide) rfl rfl (tk_213 hts) dX7_takeFirstOff_43 ?_
        refine s_alen 2 hx hb hK hM (cel_pa (ky_8_2 hG h0)) rfl (v := 8) (show Int32.ofNat 8 = 8 from by decide) dX7_takeFirstOff_46 ?_
        refine lv_iconst (v := 1) hx hb dX7_takeFirstOff_47 (by decide) ?_
        refine lv_isub hx hb dX7_takeFirstOff_48 ?_
        refine lv_aload_n hx hb dX7_takeFirstOff_49 rfl (lv_at hl 1 rfl) ?_
        obtain ⟨h_2, hf⟩ := gd_e hf
        obtain ⟨M3, eM3, hf⟩ := nb_e hf
        refine s_aast 2 2 8 hx hb hK hM hS (ky_b hG (ky_8_2 hG h0)) (fun N9 => cel_pa (ky_8_2 hG h0)) rfl (c_3 h_q1) rfl h_2 (hM.2.2.sR (fun _ => h_q1) (fun h9 => absurd (h9.symm.trans (ky_8_2 hG h0)) (by decide))) dX7_takeFirstOff_50 (fun H locs hM hS => ?_)
        rw [eM3] at hM
        refine lv_aload_n hx hb dX7_takeFirstOff_51 rfl (lv_at hl 0 rfl) ?_
        refine lv_dup hx hb dX7_takeFirstOff_52 rfl ?_
        refine s_get hx hb (lay_7 hts) hown hK hM (c_8 h0) rfl 3 (by decide) rfl rfl (tk_215 hts) dX7_takeFirstOff_53 ?_
        refine lv_iconst (v := 1) hx hb dX7_takeFirstOff_56 (by decide) ?_
        refine lv_isub hx hb dX7_takeFirstOff_57 ?_
        obtain ⟨M4, eM4, hf⟩ := nb_e hf
        refine s_put tyX7 hx hb (lay_7 hts) tyX7_ok nmX7 hown hK hM hS (ky_b hG h0) (c_8 h0) rfl 3 (by decide) rfl rfl rfl (Nat.le_of_ble_eq_true rfl) (cp_7_3 h0) (fun _ h9 => cel_sI _ h9) hM.2.2.sI rfl (tk_215 hts) dX7_takeFirstOff_58 (fun H locs hM hS => ?_)
        rw [eM4] at hM
        exact ef_v hx hb hr hlocks hM hS hf dX7_takeFirstOff_61
      · rw [if_neg g_1] at hf
        refine lv_aload_n hx hb dX7_takeFirstOff_18 rfl (lv_at hl 0 rfl) ?_
        refine s_get hx hb (lay_7 hts) hown hK hM (c_8 h0) rfl 2 (by decide) rfl rfl (tk_213 hts) dX7_takeFirstOff_19 ?_
        refine lv_iload_n hx hb dX7_takeFirstOff_22 rfl (lv_at hl 2 rfl) ?_
        refine lv_iconst (v := 1) hx hb dX7_takeFirstOff_23 (by decide) ?_
        refine lv_isub hx hb dX7_takeFirstOff_24 ?_
        refine lv_aload_n hx hb dX7_takeFirstOff_25 rfl (lv_at hl 0 rfl) ?_
        refine s_get hx hb (lay_7 hts) hown hK hM (c_8 h0) rfl 2 (by decide) rfl rfl (tk_213 hts) dX7_takeFirstOff_26 ?_
        refine lv_iload_n hx hb dX7_takeFirstOff_29 rfl (lv_at hl 2 rfl) ?_
        obtain ⟨h_5, hf⟩ := gd_e hf
        refine s_paald hx hb hK hM (ky_8_2 hG h0) h_5 dX7_takeFirstOff_30 (fun h_6 => ?_)
        obtain ⟨z7, ez7, hf⟩ := nb_e hf
        refine s_nmr ez7 ?_
        have h_z7 : gK G z7 = 3 := ez7 ▸ h_6
        obtain ⟨h_8, hf⟩ := gd_e hf
        obtain ⟨M9, eM9, hf⟩ := nb_e hf
        refine s_aast 2 2 8 hx hb hK hM hS (ky_b hG (ky_8_2 hG h0)) (fun N9 => cel_pa (ky_8_2 hG h0)) rfl (c_3 h_z7) rfl h_8 (hM.2.2.sR (fun _ => h_z7) (fun h9 => absurd (h9.symm.trans (ky_8_2 hG h0)) (by decide))) dX7_takeFirstOff_31 (fun H locs hM hS => ?_)
        rw [eM9] at hM
        obtain ⟨y10, ey10, hf⟩ := nb_e hf
        refine lv_iinc (v := y10) (lv' := [(2, .int y10), (0, .ref a0), (1, .ref q1)]) hx hb dX7_takeFirstOff_32 hl (k := 2) rfl (by rw [← ey10]; rfl) (by decide) rfl (fun ls hl => ?_)
        refine lv_goto (tgt := 9) hx hb dX7_takeFirstOff_35 (by decide) ?_
        exact ih q1 y10 _ H locs ls h_q1 hM hS (lv_sub hl [1, 2, 0] rfl) hf
  rw [f_X7_takeFirstOff] at hf
  obtain ⟨H, hHe⟩ : ∃ H, H = s.heap := ⟨_, rfl⟩
  obtain ⟨locs, hLe⟩ : ∃ L : List Loc, L = [] := ⟨_, rfl⟩
  rw [← hHe] at hM
  have hS : va_S (gA G) s.heap H locs := by rw [hHe, hLe]; exact va_S.rf
  suffices hW : W p l e ({ frames := 0, cells := 0, slots := 0, locals := 0 } : Room) s m args below meth c H locs 0 0 (MQ below (QV G none M') args s 0 0 (gA G)) (F0 m 0 ls []) by rw [hHe, hLe] at hW; exact hW
  refine lv_aload_n hx hb dX7_takeFirstOff_0 rfl (lv_at hl 0 rfl) ?_
  refine s_get hx hb (lay_7 hts) hown hK hM (c_8 h0) rfl 2 (by decide) rfl rfl (tk_213 hts) dX7_takeFirstOff_1 ?_
  refine lv_iconst (v := 0) hx hb dX7_takeFirstOff_4 (by decide) ?_
  obtain ⟨h_11, hf⟩ := gd_e hf
  refine s_paald hx hb hK hM (ky_8_2 hG h0) h_11 dX7_takeFirstOff_5 (fun h_12 => ?_)
  obtain ⟨z13, ez13, hf⟩ := nb_e hf
  refine s_nmr ez13 ?_
  have h_z13 : gK G z13 = 3 := ez13 ▸ h_12
  refine lv_astore_n (lv' := [(1, .ref z13), (0, .ref a0)]) hx hb dX7_takeFirstOff_6 rfl hl (by decide) rfl (fun ls hl => ?_)
  refine lv_iconst (v := 1) hx hb dX7_takeFirstOff_7 (by decide) ?_
  refine lv_istore_n (lv' := [(2, .int 1), (1, .ref z13), (0, .ref a0)]) hx hb dX7_takeFirstOff_8 rfl hl (by decide) rfl (fun ls hl => ?_)
  exact b9 _ z13 1 _ H locs ls h_z13 hM hS (lv_sub hl [2, 1, 0] rfl) hf
def f_X7_bringFirst (a0 : Nat) (M : Mem) : Option (Int32 × Mem) := gd (ix (0 : Int32) 8) <| nb (mR M (a0 + 11) (0 : Int32).toNatClampNeg) fun z3 => cb (f_X1_receive (a0 + 9) z3 M) fun r5 M6 => vb (f_X7_takeFirstOff a0 M6) fun M8 => some (r5, M8)
set_option maxHeartbeats 4000000 in
set_option maxRecDepth 100000 in
theorem k_X7_bringFirst (G : Gt) (hG : gOK G) (l : Launch) (a0 : Nat) (h0 : gK G a0 = 8) (M : Mem) {r : Int32} {M' : Mem} (hf : f_X7_bringFirst a0 M = some (r, M')) : Kc G l yX7_bringFirst cX7_bringFirst 2 (some .int) ({ frames := 4, cells := 0, slots := 0, locals := 91 } : Room) [.ref a0] M (some (.int r)) M' := by
  refine start (by decide) (Nat.le_of_ble_eq_true rfl) ?_
  intro p e s m args below meth c ls hx hb hr hown hml hlocks hts hV hM hl
  have hown : s.vm.findClass "FoldedVoices$Voice" = some m.cls := hown
  have hK := hG.1.moved hV
  have hS : va_S (gA G) s.heap s.heap [] := va_S.rf
  have hl : lv_has ls 2 [(0, .ref a0)] := hl
  have hM0 := hM
  rw [f_X7_bringFirst] at hf
  refine lv_aload_n hx hb dX7_bringFirst_0 rfl (lv_at hl 0 rfl) ?_
  refine s_get hx hb (lay_7 hts) hown hK hM (c_8 h0) rfl 1 (by decide) rfl rfl (tk_211 hts) dX7_bringFirst_1 ?_
  refine lv_aload_n hx hb dX7_bringFirst_4 rfl (lv_at hl 0 rfl) ?_
  refine s_get hx hb (lay_7 hts) hown hK hM (c_8 h0) rfl 2 (by decide) rfl rfl (tk_213 hts) dX7_bringFirst_5 ?_
  refine lv_iconst (v := 0) hx hb dX7_bringFirst_8 (by decide) ?_
  obtain ⟨h_1, hf⟩ := gd_e hf
  refine s_paald hx hb hK hM (ky_8_2 hG h0) h_1 dX7_bringFirst_9 (fun h_2 => ?_)
  obtain ⟨z3, ez3, hf⟩ := nb_e hf
  refine s_nmr ez3 ?_
  have h_z3 : gK G z3 = 3 := ez3 ▸ h_2
  obtain ⟨r5, M6, e_4, hf⟩ := cb_e hf
  refine c_Vi hx hb hml hown hts hV hK hM hS (As := [.ref z3]) (rest := []) (k_X1_receive G hG l (a0 + 9) (ky_8_1 hG h0) z3 h_z3 M e_4) w_X1_receive (tk_772 hts) (c_2 (ky_8_1 hG h0)) rfl rfl ⟨⟨rfl, rfl⟩, Nat.le_of_ble_eq_true rfl, Nat.le_of_ble_eq_true rfl⟩ ⟨Nat.zero_le _, Nat.zero_le _⟩ rfl hl.1 rfl (Nat.le_of_ble_eq_true rfl) dX7_bringFirst_10 (fun H locs hM hS => ?_)
  refine lv_istore_n (lv' := [(1, .int r5), (0, .ref a0)]) hx hb dX7_bringFirst_13 rfl hl (by decide) rfl (fun ls hl => ?_)
  refine lv_aload_n hx hb dX7_bringFirst_14 rfl (lv_at hl 1 rfl) ?_
  obtain ⟨M8, e_7, hf⟩ := vb_e hf
  refine c_Vv hx hb hml hown hts hV hK hM hS (As := []) (rest := []) (k_X7_takeFirstOff G hG l a0 h0 M6 e_7) w_X7_takeFirstOff (tk_736 hts) (c_8 h0) rfl rfl ⟨⟨rfl, rfl⟩, Nat.le_of_ble_eq_true rfl, Nat.le_of_ble_eq_true rfl⟩ ⟨Nat.zero_le _, Nat.zero_le _⟩ rfl hl.1 rfl (Nat.le_of_ble_eq_true rfl) dX7_bringFirst_15 (fun H locs hM hS => ?_)
  refine lv_iload_n hx hb dX7_bringFirst_18 rfl (lv_at hl 0 rfl) ?_
  exact ef_im hx hb hr hlocks hM hS hf dX7_bringFirst_19
def f_X7_dropFirst (a0 : Nat) (M : Mem) : Option (Int32 × Mem) := gd (ix (0 : Int32) 8) <| nb (mR M (a0 + 11) (0 : Int32).toNatClampNeg) fun z3 => nb (mI M z3 3) fun y4 => nb (sI M a0 4 ((mI M a0 4) + 1)) fun M5 => vb (f_X7_takeFirstOff a0 M5) fun M7 => some (y4, M7)
set_option maxHeartbeats 4000000 in
set_option maxRecDepth 100000 in
theorem k_X7_dropFirst (G : Gt) (hG : gOK G) (l : Launch) (a0 : Nat) (h0 : gK G a0 = 8) (M : Mem) {r : Int32} {M' : Mem} (hf : f_X7_dropFirst a0 M = some (r, M')) : Kc G l yX7_dropFirst cX7_dropFirst 2 (some .int) ({ frames := 1, cells := 0, slots := 0, locals := 22 } : Room) [.ref a0] M (some (.int r)) M' := by
  refine start (by decide) (Nat.le_of_ble_eq_true rfl) ?_
  intro p e s m args below meth c ls hx hb hr hown hml hlocks hts hV hM hl
  have hown : s.vm.findClass "FoldedVoices$Voice" = some m.cls := hown
  have hK := hG.1.moved hV
  have hS : va_S (gA G) s.heap s.heap [] := va_S.rf
  have hl : lv_has ls 2 [(0, .ref a0)] := hl
  have hM0 := hM
  rw [f_X7_dropFirst] at hf
  refine lv_aload_n hx hb dX7_dropFirst_0 rfl (lv_at hl 0 rfl) ?_
  refine s_get hx hb (lay_7 hts) hown hK hM (c_8 h0) rfl 2 (by decide) rfl rfl (tk_213 hts) dX7_dropFirst_1 ?_
  refine lv_iconst (v := 0) hx hb dX7_dropFirst_4 (by decide) ?_
  obtain ⟨h_1, hf⟩ := gd_e hf
  refine s_paald hx hb hK hM (ky_8_2 hG h0) h_1 dX7_dropFirst_5 (fun h_2 => ?_)
  obtain ⟨z3, ez3, hf⟩ := nb_e hf
  refine s_nmr ez3 ?_
  have h_z3 : gK G z3 = 3 := ez3 ▸ h_2
  refine s_getN hx hb (lay_2 hts) hown hK hM (c_3 h_z3) rfl 3 (by decide) rfl rfl (tk_95 hts) dX7_dropFirst_6 ?_
  obtain ⟨y4, ey4, hf⟩ := nb_e hf
  refine s_nm ey4 ?_
  refine lv_istore_n (lv' := [(1, .int y4), (0, .ref a0)]) hx hb dX7_dropFirst_9 rfl hl (by decide) rfl (fun ls hl => ?_)
  refine lv_aload_n hx hb dX7_dropFirst_10 rfl (lv_at hl 1 rfl) ?_
  refine lv_dup hx hb dX7_dropFirst_11 rfl ?_
  refine s_get hx hb (lay_7 hts) hown hK hM (c_8 h0) rfl 4 (by decide) rfl rfl (tk_217 hts) dX7_dropFirst_12 ?_
  refine lv_iconst (v := 1) hx hb dX7_dropFirst_15 (by decide) ?_
  refine lv_iadd hx hb dX7_dropFirst_16 ?_
  obtain ⟨M5, eM5, hf⟩ := nb_e hf
  refine s_put tyX7 hx hb (lay_7 hts) tyX7_ok nmX7 hown hK hM hS (ky_b hG h0) (c_8 h0) rfl 4 (by decide) rfl rfl rfl (Nat.le_of_ble_eq_true rfl) (cp_7_4 h0) (fun _ h9 => cel_sI _ h9) hM.2.2.sI rfl (tk_217 hts) dX7_dropFirst_17 (fun H locs hM hS => ?_)
  rw [eM5] at hM
  refine lv_aload_n hx hb dX7_dropFirst_20 rfl (lv_at hl 1 rfl) ?_
  obtain ⟨M7, e_6, hf⟩ := vb_e hf
  refine c_Vv hx hb hml hown hts hV hK hM hS (As := []) (rest := []) (k_X7_takeFirstOff G hG l a0 h0 M5 e_6) w_X7_takeFirstOff (tk_736 hts) (c_8 h0) rfl rfl ⟨⟨rfl, rfl⟩, Nat.le_of_ble_eq_true rfl, Nat.le_of_ble_eq_true rfl⟩ ⟨Nat.zero_le _, Nat.zero_le _⟩ rfl hl.1 rfl (Nat.le_of_ble_eq_true rfl) dX7_dropFirst_21 (fun H locs hM hS => ?_)
  refine lv_iload_n hx hb dX7_dropFirst_24 rfl (lv_at hl 0 rfl) ?_
  exact ef_im hx hb hr hlocks hM hS hf dX7_dropFirst_25
def f_X7_exchangeFirstTwo (a0 : Nat) (M : Mem) : Option (Int32 × Mem) := gd (ix (0 : Int32) 8) <| nb (mR M (a0 + 11) (0 : Int32).toNatClampNeg) fun z3 => gd (ix (1 : Int32) 8) <| nb (mR M (a0 + 11) (1 : Int32).toNatClampNeg) fun z6 => gd (ix (0 : Int32) 8) <| nb (sR M (a0 + 11) (0 : Int32).toNatClampNeg z6) fun M8 => gd (ix (1 : Int32) 8) <| nb (sR M8 (a0 + 11) (1 : Int32).toNatClampNeg z3) fun M10 => gd (ix (0 : Int32) 8) <| nb (mR M10 (a0 + 11) (0 : Int32).toNatClampNeg) fun z13 => some (mI M10 z13 3, M10)
set_option maxHeartbeats 4000000 in
set_option maxRecDepth 100000 in
theorem k_X7_exchangeFirstTwo (G : Gt) (hG : gOK G) (l : Launch) (a0 : Nat) (h0 : gK G a0 = 8) (M : Mem) {r : Int32} {M' : Mem} (hf : f_X7_exchangeFirstTwo a0 M = some (r, M')) : Kc G l yX7_exchangeFirstTwo cX7_exchangeFirstTwo 2 (some .int) ({ frames := 0, cells := 0, slots := 0, locals := 0 } : Room) [.ref a0] M (some (.int r)) M' := by
  refine start (by decide) (Nat.le_of_ble_eq_true rfl) ?_
  intro p e s m args below meth c ls hx hb hr hown hml hlocks hts hV hM hl
  have hown : s.vm.findClass "FoldedVoices$Voice" = some m.cls := hown
  have hK := hG.1.moved hV
  have hS : va_S (gA G) s.heap s.heap [] := va_S.rf
  have hl : lv_has ls 2 [(0, .ref a0)] := hl
  have hM0 := hM
  rw [f_X7_exchangeFirstTwo] at hf
  refine lv_aload_n hx hb dX7_exchangeFirstTwo_0 rfl (lv_at hl 0 rfl) ?_
  refine s_get hx hb (lay_7 hts) hown hK hM (c_8 h0) rfl 2 (by decide) rfl rfl (tk_213 hts) dX7_exchangeFirstTwo_1 ?_
  refine lv_iconst (v := 0) hx hb dX7_exchangeFirstTwo_4 (by decide) ?_
  obtain ⟨h_1, hf⟩ := gd_e hf
  refine s_paald hx hb hK hM (ky_8_2 hG h0) h_1 dX7_exchangeFirstTwo_5 (fun h_2 => ?_)
  obtain ⟨z3, ez3, hf⟩ := nb_e hf
  refine s_nmr ez3 ?_
  have h_z3 : gK G z3 = 3 := ez3 ▸ h_2
  refine lv_astore_n (lv' := [(1, .ref z3), (0, .ref a0)]) hx hb dX7_exchangeFirstTwo_6 rfl hl (by decide) rfl (fun ls hl => ?_)
  refine lv_aload_n hx hb dX7_exchangeFirstTwo_7 rfl (lv_at hl 1 rfl) ?_
  refine s_get hx hb (lay_7 hts) hown hK hM (c_8 h0) rfl 2 (by decide) rfl rfl (tk_213 hts) dX7_exchangeFirstTwo_8 ?_
  refine lv_iconst (v := 0) hx hb dX7_exchangeFirstTwo_11 (by decide) ?_
  refine lv_aload_n hx hb dX7_exchangeFirstTwo_12 rfl (lv_at hl 1 rfl) ?_
  refine s_get hx hb (lay_7 hts) hown hK hM (c_8 h0) rfl 2 (by decide) rfl rfl (tk_213 hts) dX7_exchangeFirstTwo_13 ?_
  refine lv_iconst (v := 1) hx hb dX7_exchangeFirstTwo_16 (by decide) ?_
  obtain ⟨h_4, hf⟩ := gd_e hf
  refine s_paald hx hb hK hM (ky_8_2 hG h0) h_4 dX7_exchangeFirstTwo_17 (fun h_5 => ?_)
  obtain ⟨z6, ez6, hf⟩ := nb_e hf
  refine s_nmr ez6 ?_
  have h_z6 : gK G z6 = 3 := ez6 ▸ h_5
  obtain ⟨h_7, hf⟩ := gd_e hf
  obtain ⟨M8, eM8, hf⟩ := nb_e hf
  refine s_aast 2 2 8 hx hb hK hM hS (ky_b hG (ky_8_2 hG h0)) (fun N9 => cel_pa (ky_8_2 hG h0)) rfl (c_3 h_z6) rfl h_7 (hM.2.2.sR (fun _ => h_z6) (fun h9 => absurd (h9.symm.trans (ky_8_2 hG h0)) (by decide))) dX7_exchangeFirstTwo_18 (fun H locs hM hS => ?_)
  rw [eM8] at hM
  refine lv_aload_n hx hb dX7_exchangeFirstTwo_19 rfl (lv_at hl 1 rfl) ?_
  refine s_get hx hb (lay_7 hts) hown hK hM (c_8 h0) rfl 2 (by decide) rfl rfl (tk_213 hts) dX7_exchangeFirstTwo_20 ?_
  refine lv_iconst (v := 1) hx hb dX7_exchangeFirstTwo_23 (by decide) ?_
  refine lv_aload_n hx hb dX7_exchangeFirstTwo_24 rfl (lv_at hl 0 rfl) ?_
  obtain ⟨h_9, hf⟩ := gd_e hf
  obtain ⟨M10, eM10, hf⟩ := nb_e hf
  refine s_aast 2 2 8 hx hb hK hM hS (ky_b hG (ky_8_2 hG h0)) (fun N9 => cel_pa (ky_8_2 hG h0)) rfl (c_3 h_z3) rfl h_9 (hM.2.2.sR (fun _ => h_z3) (fun h9 => absurd (h9.symm.trans (ky_8_2 hG h0)) (by decide))) dX7_exchangeFirstTwo_25 (fun H locs hM hS => ?_)
  rw [eM10] at hM
  refine lv_aload_n hx hb dX7_exchangeFirstTwo_26 rfl (lv_at hl 1 rfl) ?_
  refine s_get hx hb (lay_7 hts) hown hK hM (c_8 h0) rfl 2 (by decide) rfl rfl (tk_213 hts) dX7_exchangeFirstTwo_27 ?_
  refine lv_iconst (v := 0) hx hb dX7_exchangeFirstTwo_30 (by decide) ?_
  obtain ⟨h_11, hf⟩ := gd_e hf
  refine s_paald hx hb hK hM (ky_8_2 hG h0) h_11 dX7_exchangeFirstTwo_31 (fun h_12 => ?_)
  obtain ⟨z13, ez13, hf⟩ := nb_e hf
  refine s_nmr ez13 ?_
  have h_z13 : gK G z13 = 3 := ez13 ▸ h_12
  refine s_getN hx hb (lay_2 hts) hown hK hM (c_3 h_z13) rfl 3 (by decide) rfl rfl (tk_95 hts) dX7_exchangeFirstTwo_32 ?_
  exact ef_im hx hb hr hlocks hM hS hf dX7_exchangeFirstTwo_35
def f_X8_voiceOf_b16 (a0 : Nat) (p1 : Int32) (M : Mem) : Option (Nat × Nat × Mem) := some (1, 0, M)
def f_X8_voiceOf (a0 : Nat) (p1 : Int32) (M : Mem) : Option (Nat × Nat × Mem) := if p1 < 0 then (f_X8_voiceOf_b16 a0 p1 M) else (if p1 < (3 : Int32) then (gd (ix p1 3) <| nb ((a0 + 1) + 1 + 3 + 44 * p1.toNatClampNeg) fun z5 => some (0, z5, M)) else (f_X8_voiceOf_b16 a0 p1 M))
set_option maxHeartbeats 4000000 in
set_option maxRecDepth 100000 in
theorem k_X8_voiceOf (G : Gt) (hG : gOK G) (l : Launch) (a0 : Nat) (h0 : gK G a0 = 9) (p1 : Int32) (M : Mem) {r : Nat} {M' : Mem} (hf : f_X8_voiceOf a0 p1 M = some (0, r, M')) : Kc G l yX8_voiceOf cX8_voiceOf 2 (some (.object "FoldedVoices$Voice")) ({ frames := 6, cells := 0, slots := 0, locals := 82 } : Room) [.ref a0, .int p1] M (some (.ref r)) M' := by
  refine start (by decide) (Nat.le_of_ble_eq_true rfl) ?_
  intro p e s m args below meth c ls hx hb hr hown hml hlocks hts hV hM hl
  have hown : s.vm.findClass "FoldedVoices" = some m.cls := hown
  have hK := hG.1.moved hV
  have hS : va_S (gA G) s.heap s.heap [] := va_S.rf
  have hl : lv_has ls 2 [(0, .ref a0), (1, .int p1)] := hl
  have hM0 := hM
  have b16 : ∀ (M : Mem) (H : Heap) (locs : List Loc) (ls : Array Slot), Mh G M H → va_S (gA G) s.heap H locs → lv_has ls 2 [(0, .ref a0), (1, .int p1)] → f_X8_voiceOf_b16 a0 p1 M = some (0, r, M') → W p l e ({ frames := 6, cells := 0, slots := 0, locals := 82 } : Room) s m args below meth c H locs 0 0 (MQ below (QV G (some (.ref r)) M') args s 0 0 (gA G)) (F0 m 16 ls []) := by
    intro M H locs ls hM hS hl hf
    rw [f_X8_voiceOf_b16] at hf
    exact (xf_no2 hf (by decide)).elim
  rw [f_X8_voiceOf] at hf
  obtain ⟨H, hHe⟩ : ∃ H, H = s.heap := ⟨_, rfl⟩
  obtain ⟨locs, hLe⟩ : ∃ L : List Loc, L = [] := ⟨_, rfl⟩
  rw [← hHe] at hM
  have hS : va_S (gA G) s.heap H locs := by rw [hHe, hLe]; exact va_S.rf
  suffices hW : W p l e ({ frames := 6, cells := 0, slots := 0, locals := 82 } : Room) s m args below meth c H locs 0 0 (MQ below (QV G (some (.ref r)) M') args s 0 0 (gA G)) (F0 m 0 ls []) by rw [hHe, hLe] at hW; exact hW
  refine lv_iload_n hx hb dX8_voiceOf_0 rfl (lv_at hl 1 rfl) ?_
  refine lv_if_lt (tgt := 16) hx hb dX8_voiceOf_1 (by decide) (fun g_1 => ?_) (fun g_1 => ?_)
  · rw [if_pos g_1] at hf
    exact b16 _ H locs ls hM hS (lv_sub hl [0, 1] rfl) hf
  · rw [if_neg g_1] at hf
    refine lv_iload_n hx hb dX8_voiceOf_4 rfl (lv_at hl 1 rfl) ?_
    refine lv_aload_n hx hb dX8_voiceOf_5 rfl (lv_at hl 0 rfl) ?_
    refine s_get hx hb (lay_8 hts) hown hK hM (c_9 h0) rfl 0 (by decide) rfl rfl (tk_267 hts) dX8_voiceOf_6 ?_
    refine s_getN hx hb (lay_5 hts) hown hK hM (c_6 (ky_9_0 hG h0)) rfl 0 (by decide) rfl rfl (tk_231 hts) dX8_voiceOf_9 ?_
    refine s_alen 3 hx hb hK hM (cel_va (ky_6_0 hG (ky_9_0 hG h0))) rfl (v := 3) (show Int32.ofNat 3 = 3 from by decide) dX8_voiceOf_12 ?_
    refine lv_icmp_lt (tgt := 27) hx hb dX8_voiceOf_13 (by decide) (fun g_2 => ?_) (fun g_2 => ?_)
    · rw [if_pos g_2] at hf
      refine lv_aload_n hx hb dX8_voiceOf_27 rfl (lv_at hl 0 rfl) ?_
      refine s_get hx hb (lay_8 hts) hown hK hM (c_9 h0) rfl 0 (by decide) rfl rfl (tk_267 hts) dX8_voiceOf_28 ?_
      refine s_getN hx hb (lay_5 hts) hown hK hM (c_6 (ky_9_0 hG h0)) rfl 0 (by decide) rfl rfl (tk_231 hts) dX8_voiceOf_31 ?_
      refine lv_iload_n hx hb dX8_voiceOf_34 rfl (lv_at hl 1 rfl) ?_
      obtain ⟨h_3, hf⟩ := gd_e hf
      refine s_vaald hx hb hK hM (ky_vs hG (ky_6_0 hG (ky_9_0 hG h0))) (ky_6_0 hG (ky_9_0 hG h0)) h_3 dX8_voiceOf_35 (fun h_4 => ?_)
      obtain ⟨z5, ez5, hf⟩ := nb_e hf
      refine s_nmr ez5 ?_
      have h_z5 : gK G z5 = 8 := ez5 ▸ h_4
      exact ef_rx hx hb hr hlocks hM hS hf dX8_voiceOf_36
    · rw [if_neg g_2] at hf
      exact b16 _ H locs ls hM hS (lv_sub hl [0, 1] rfl) hf
theorem kr_X8_voiceOf {G : Gt} (hG : gOK G) (a0 : Nat) (h0 : gK G a0 = 9) (p1 : Int32) {M : Mem} {r : Nat} {M' : Mem} (hf : f_X8_voiceOf a0 p1 M = some (0, r, M')) : gK G r = 8 := by
  have h1 := ky_vs hG (ky_6_0 hG (ky_9_0 hG h0))
  unfold f_X8_voiceOf at hf
  repeat' split at hf
  all_goals first | (cases hf; done) | skip
  all_goals (simp only [gd, nb] at hf; split at hf)
  all_goals first | (cases hf; done) | skip
  all_goals (rename_i hh; cases hf; exact h1 _ (ix_lt hh))
def f_X8_requireSample_b14 (p0 : Int32) (M : Mem) : Option (Nat × Unit × Mem) := some (2, (), M)
def f_X8_requireSample (p0 : Int32) (M : Mem) : Option (Nat × Unit × Mem) := if p0 < (-2000 : Int32) then (f_X8_requireSample_b14 p0 M) else (if p0 ≤ (2000 : Int32) then (some (0, (), M)) else (f_X8_requireSample_b14 p0 M))
set_option maxHeartbeats 4000000 in
set_option maxRecDepth 100000 in
theorem k_X8_requireSample (G : Gt) (hG : gOK G) (l : Launch) (p0 : Int32) (M : Mem) {r : Unit} {M' : Mem} (hf : f_X8_requireSample p0 M = some (0, r, M')) : Kc G l yX8_requireSample cX8_requireSample 1 none ({ frames := 6, cells := 0, slots := 0, locals := 82 } : Room) [.int p0] M none M' := by
  refine start (by decide) (Nat.le_of_ble_eq_true rfl) ?_
  intro p e s m args below meth c ls hx hb hr hown hml hlocks hts hV hM hl
  have hown : s.vm.findClass "FoldedVoices" = some m.cls := hown
  have hK := hG.1.moved hV
  have hS : va_S (gA G) s.heap s.heap [] := va_S.rf
  have hl : lv_has ls 1 [(0, .int p0)] := hl
  have hM0 := hM
  have b14 : ∀ (M : Mem) (H : Heap) (locs : List Loc) (ls : Array Slot), Mh G M H → va_S (gA G) s.heap H locs → lv_has ls 1 [(0, .int p0)] → f_X8_requireSample_b14 p0 M = some (0, r, M') → W p l e ({ frames := 6, cells := 0, slots := 0, locals := 82 } : Room) s m args below meth c H locs 0 0 (MQ below (QV G none M') args s 0 0 (gA G)) (F0 m 14 ls []) := by
    intro M H locs ls hM hS hl hf
    rw [f_X8_requireSample_b14] at hf
    exact (xf_no2 hf (by decide)).elim
  rw [f_X8_requireSample] at hf
  obtain ⟨H, hHe⟩ : ∃ H, H = s.heap := ⟨_, rfl⟩
  obtain ⟨locs, hLe⟩ : ∃ L : List Loc, L = [] := ⟨_, rfl⟩
  rw [← hHe] at hM
  have hS : va_S (gA G) s.heap H locs := by rw [hHe, hLe]; exact va_S.rf
  suffices hW : W p l e ({ frames := 6, cells := 0, slots := 0, locals := 82 } : Room) s m args below meth c H locs 0 0 (MQ below (QV G none M') args s 0 0 (gA G)) (F0 m 0 ls []) by rw [hHe, hLe] at hW; exact hW
  refine lv_iload_n hx hb dX8_requireSample_0 rfl (lv_at hl 0 rfl) ?_
  refine lv_sipush (v := (-2000)) hx hb dX8_requireSample_1 (by decide) ?_
  refine lv_icmp_lt (tgt := 14) hx hb dX8_requireSample_4 (by decide) (fun g_1 => ?_) (fun g_1 => ?_)
  · rw [if_pos g_1] at hf
    exact b14 _ H locs ls hM hS (lv_sub hl [0] rfl) hf
  · rw [if_neg g_1] at hf
    refine lv_iload_n hx hb dX8_requireSample_7 rfl (lv_at hl 0 rfl) ?_
    refine lv_sipush (v := 2000) hx hb dX8_requireSample_8 (by decide) ?_
    refine lv_icmp_le (tgt := 25) hx hb dX8_requireSample_11 (by decide) (fun g_2 => ?_) (fun g_2 => ?_)
    · rw [if_pos g_2] at hf
      exact ef_vx hx hb hr hlocks hM hS hf dX8_requireSample_25
    · rw [if_neg g_2] at hf
      exact b14 _ H locs ls hM hS (lv_sub hl [0] rfl) hf
def f_X8_dropOldestSaved_b9 (a0 : Nat) : Nat → Nat → Int32 → Mem → Option Mem
  | 0, _, _, _ => none
  | n + 1, q1, x2, M => if (6 : Int32) ≤ x2 then (gd (ix ((6 : Int32) - 1) 6) <| nb (sR M (a0 + 273) ((6 : Int32) - 1).toNatClampNeg q1) fun M3 => nb (sI M3 a0 4 ((6 : Int32) - 1)) fun M4 => some M4) else (gd (ix x2 6) <| nb (mR M (a0 + 273) x2.toNatClampNeg) fun z7 => gd (ix (x2 - 1) 6) <| nb (sR M (a0 + 273) (x2 - 1).toNatClampNeg z7) fun M9 => nb (x2 + 1) fun y10 => f_X8_dropOldestSaved_b9 a0 n q1 y10 M9)
def f_X8_dropOldestSaved (a0 : Nat) (M : Mem) : Option Mem := gd (ix (0 : Int32) 6) <| nb (mR M (a0 + 273) (0 : Int32).toNatClampNeg) fun z13 => f_X8_dropOldestSaved_b9 a0 lfuel z13 1 M
set_option maxHeartbeats 4000000 in
set_option maxRecDepth 100000 in
theorem k_X8_dropOldestSaved (G : Gt) (hG : gOK G) (l : Launch) (a0 : Nat) (h0 : gK G a0 = 9) (M : Mem) {M' : Mem} (hf : f_X8_dropOldestSaved a0 M = some M') : Kc G l yX8_dropOldestSaved cX8_dropOldestSaved 3 none ({ frames := 0, cells := 0, slots := 0, locals := 0 } : Room) [.ref a0] M none M' := by
  refine start (by decide) (Nat.le_of_ble_eq_true rfl) ?_
  intro p e s m args below meth c ls hx hb hr hown hml hlocks hts hV hM hl
  have hown : s.vm.findClass "FoldedVoices" = some m.cls := hown
  have hK := hG.1.moved hV
  have hS : va_S (gA G) s.heap s.heap [] := va_S.rf
  have hl : lv_has ls 3 [(0, .ref a0)] := hl
  have hM0 := hM
  have b9 : ∀ (n : Nat), ∀ (q1 : Nat) (x2 : Int32) (M : Mem) (H : Heap) (locs : List Loc) (ls : Array Slot), gK G q1 = 6 → Mh G M H → va_S (gA G) s.heap H locs → lv_has ls 3 [(0, .ref a0), (1, .ref q1), (2, .int x2)] → f_X8_dropOldestSaved_b9 a0 n q1 x2 M = some M' → W p l e ({ frames := 0, cells := 0, slots := 0, locals := 0 } : Room) s m args below meth c H locs 0 0 (MQ below (QV G none M') args s 0 0 (gA G)) (F0 m 9 ls []) := by
    intro n
    induction n with
    | zero =>
      intro q1 x2 M H locs ls h_q1 hM hS hl hf
      rw [f_X8_dropOldestSaved_b9] at hf
      cases hf
    | succ n ih =>
      intro q1 x2 M H locs ls h_q1 hM hS hl hf
      rw [f_X8_dropOldestSaved_b9] at hf
      refine lv_iload_n hx hb dX8_dropOldestSaved_9 rfl (lv_at hl 2 rfl) ?_
      refine lv_aload_n hx hb dX8_dropOldestSaved_10 rfl (lv_at hl 0 rfl) ?_
      refine s_get hx hb (lay_8 hts) hown hK hM (c_9 h0) rfl 3 (by decide) rfl rfl (tk_269 hts) dX8_dropOldestSaved_11 ?_
      refine s_alen 4 hx hb hK hM (cel_sa (ky_9_3 hG h0)) rfl (v := 6) (show Int32.ofNat 6 = 6 from by decide) dX8_dropOldestSaved_14 ?_
      refine lv_icmp_ge (tgt := 38) hx hb dX8_dropOldestSaved_15 (by decide) (fun g_1 => ?_) (fun g_1 => ?_)
      · rw [if_pos g_1] at hf
        refine lv_aload_n hx hb dX8_dropOldestSaved_38 rfl (lv_at hl 0 rfl) ?_
        refine s_get hx hb (lay_8 hts) hown hK hM (c_9 h0) rfl 3 (by decide) rfl rfl (tk_269 hts) dX8_dropOldestSaved_39 ?_
        refine lv_aload_n hx hb dX8_dropOldestSaved_42 rfl (lv_at hl 0 rfl) ?_
        refine s_get hx hb (lay_8 hts) hown hK hM (c_9 h0) rfl 3 (by decide) rfl rfl (tk_269 hts) dX8_dropOldestSaved_43 ?_
        refine s_alen 4 hx hb hK hM (cel_sa (ky_9_3 hG h0)) rfl (v := 6) (show Int32.ofNat 6 = 6 from by decide) dX8_dropOldestSaved_46 ?_
        refine lv_iconst (v := 1) hx hb dX8_dropOldestSaved_47 (by decide) ?_
        refine lv_isub hx hb dX8_dropOldestSaved_48 ?_
        refine lv_aload_n hx hb dX8_dropOldestSaved_49 rfl (lv_at hl 1 rfl) ?_
        obtain ⟨h_2, hf⟩ := gd_e hf
        obtain ⟨M3, eM3, hf⟩ := nb_e hf
        refine s_aast 4 5 6 hx hb hK hM hS (ky_b hG (ky_9_3 hG h0)) (fun N9 => cel_sa (ky_9_3 hG h0)) rfl (c_6 h_q1) rfl h_2 (hM.2.2.sR (fun h9 => absurd (h9.symm.trans (ky_9_3 hG h0)) (by decide)) (fun _ => h_q1)) dX8_dropOldestSaved_50 (fun H locs hM hS => ?_)
        rw [eM3] at hM
        refine lv_aload_n hx hb dX8_dropOldestSaved_51 rfl (lv_at hl 0 rfl) ?_
        refine lv_aload_n hx hb dX8_dropOldestSaved_52 rfl (lv_at hl 0 rfl) ?_
        refine s_get hx hb (lay_8 hts) hown hK hM (c_9 h0) rfl 3 (by decide) rfl rfl (tk_269 hts) dX8_dropOldestSaved_53 ?_
        refine s_alen 4 hx hb hK hM (cel_sa (ky_9_3 hG h0)) rfl (v := 6) (show Int32.ofNat 6 = 6 from by decide) dX8_dropOldestSaved_56 ?_
        refine lv_iconst (v := 1) hx hb dX8_dropOldestSaved_57 (by decide) ?_
        refine lv_isub hx hb dX8_dropOldestSaved_58 ?_
        obtain ⟨M4, eM4, hf⟩ := nb_e hf
        refine s_put tyX8 hx hb (lay_8 hts) tyX8_ok nmX8 hown hK hM hS (ky_b hG h0) (c_9 h0) rfl 4 (by decide) rfl rfl rfl (Nat.le_of_ble_eq_true rfl) (cp_8_4 h0) (fun _ h9 => cel_sI _ h9) hM.2.2.sI rfl (tk_270 hts) dX8_dropOldestSaved_59 (fun H locs hM hS => ?_)
        rw [eM4] at hM
        exact ef_v hx hb hr hlocks hM hS hf dX8_dropOldestSaved_62
      · rw [if_neg g_1] at hf
        refine lv_aload_n hx hb dX8_dropOldestSaved_18 rfl (lv_at hl 0 rfl) ?_
        refine s_get hx hb (lay_8 hts) hown hK hM (c_9 h0) rfl 3 (by decide) rfl rfl (tk_269 hts) dX8_dropOldestSaved_19 ?_
        refine lv_iload_n hx hb dX8_dropOldestSaved_22 rfl (lv_at hl 2 rfl) ?_
        refine lv_iconst (v := 1) hx hb dX8_dropOldestSaved_23 (by decide) ?_
        refine lv_isub hx hb dX8_dropOldestSaved_24 ?_
        refine lv_aload_n hx hb dX8_dropOldestSaved_25 rfl (lv_at hl 0 rfl) ?_
        refine s_get hx hb (lay_8 hts) hown hK hM (c_9 h0) rfl 3 (by decide) rfl rfl (tk_269 hts) dX8_dropOldestSaved_26 ?_
        refine lv_iload_n hx hb dX8_dropOldestSaved_29 rfl (lv_at hl 2 rfl) ?_
        obtain ⟨h_5, hf⟩ := gd_e hf
        refine s_saald hx hb hK hM (ky_9_3 hG h0) h_5 dX8_dropOldestSaved_30 (fun h_6 => ?_)
        obtain ⟨z7, ez7, hf⟩ := nb_e hf
        refine s_nmr ez7 ?_
        have h_z7 : gK G z7 = 6 := ez7 ▸ h_6
        obtain ⟨h_8, hf⟩ := gd_e hf
        obtain ⟨M9, eM9, hf⟩ := nb_e hf
        refine s_aast 4 5 6 hx hb hK hM hS (ky_b hG (ky_9_3 hG h0)) (fun N9 => cel_sa (ky_9_3 hG h0)) rfl (c_6 h_z7) rfl h_8 (hM.2.2.sR (fun h9 => absurd (h9.symm.trans (ky_9_3 hG h0)) (by decide)) (fun _ => h_z7)) dX8_dropOldestSaved_31 (fun H locs hM hS => ?_)
        rw [eM9] at hM
        obtain ⟨y10, ey10, hf⟩ := nb_e hf
        refine lv_iinc (v := y10) (lv' := [(2, .int y10), (0, .ref a0), (1, .ref q1)]) hx hb dX8_dropOldestSaved_32 hl (k := 2) rfl (by rw [← ey10]; rfl) (by decide) rfl (fun ls hl => ?_)
        refine lv_goto (tgt := 9) hx hb dX8_dropOldestSaved_35 (by decide) ?_
        exact ih q1 y10 _ H locs ls h_q1 hM hS (lv_sub hl [1, 2, 0] rfl) hf
  rw [f_X8_dropOldestSaved] at hf
  obtain ⟨H, hHe⟩ : ∃ H, H = s.heap := ⟨_, rfl⟩
  obtain ⟨locs, hLe⟩ : ∃ L : List Loc, L = [] := ⟨_, rfl⟩
  rw [← hHe] at hM
  have hS : va_S (gA G) s.heap H locs := by rw [hHe, hLe]; exact va_S.rf
  suffices hW : W p l e ({ frames := 0, cells := 0, slots := 0, locals := 0 } : Room) s m args below meth c H locs 0 0 (MQ below (QV G none M') args s 0 0 (gA G)) (F0 m 0 ls []) by rw [hHe, hLe] at hW; exact hW
  refine lv_aload_n hx hb dX8_dropOldestSaved_0 rfl (lv_at hl 0 rfl) ?_
  refine s_get hx hb (lay_8 hts) hown hK hM (c_9 h0) rfl 3 (by decide) rfl rfl (tk_269 hts) dX8_dropOldestSaved_1 ?_
  refine lv_iconst (v := 0) hx hb dX8_dropOldestSaved_4 (by decide) ?_
  obtain ⟨h_11, hf⟩ := gd_e hf
  refine s_saald hx hb hK hM (ky_9_3 hG h0) h_11 dX8_dropOldestSaved_5 (fun h_12 => ?_)
  obtain ⟨z13, ez13, hf⟩ := nb_e hf
  refine s_nmr ez13 ?_
  have h_z13 : gK G z13 = 6 := ez13 ▸ h_12
  refine lv_astore_n (lv' := [(1, .ref z13), (0, .ref a0)]) hx hb dX8_dropOldestSaved_6 rfl hl (by decide) rfl (fun ls hl => ?_)
  refine lv_iconst (v := 1) hx hb dX8_dropOldestSaved_7 (by decide) ?_
  refine lv_istore_n (lv' := [(2, .int 1), (1, .ref z13), (0, .ref a0)]) hx hb dX8_dropOldestSaved_8 rfl hl (by decide) rfl (fun ls hl => ?_)
  exact b9 _ z13 1 _ H locs ls h_z13 hM hS (lv_sub hl [2, 1, 0] rfl) hf
def f_X8_saveLive_b16 (a0 : Nat) (M : Mem) : Option Mem := if (mI M a0 4) < 0 then (some M) else (if (mI M a0 4) < (6 : Int32) then (gd (ix (mI M a0 4) 6) <| nb (mR M (a0 + 273) (mI M a0 4).toNatClampNeg) fun z5 => vb (f_X5_copyFrom z5 (a0 + 1) M) fun M7 => nb (sI M7 a0 4 ((mI M7 a0 4) + 1)) fun M8 => some M8) else (some M))
def f_X8_saveLive (a0 : Nat) (M : Mem) : Option Mem := if (mI M a0 4) < (6 : Int32) then (f_X8_saveLive_b16 a0 M) else (vb (f_X8_dropOldestSaved a0 M) fun M11 => f_X8_saveLive_b16 a0 M11)
set_option maxHeartbeats 4000000 in
set_option maxRecDepth 100000 in
theorem k_X8_saveLive (G : Gt) (hG : gOK G) (l : Launch) (a0 : Nat) (h0 : gK G a0 = 9) (M : Mem) {M' : Mem} (hf : f_X8_saveLive a0 M = some M') : Kc G l yX8_saveLive cX8_saveLive 1 none ({ frames := 5, cells := 0, slots := 0, locals := 112 } : Room) [.ref a0] M none M' := by
  refine start (by decide) (Nat.le_of_ble_eq_true rfl) ?_
  intro p e s m args below meth c ls hx hb hr hown hml hlocks hts hV hM hl
  have hown : s.vm.findClass "FoldedVoices" = some m.cls := hown
  have hK := hG.1.moved hV
  have hS : va_S (gA G) s.heap s.heap [] := va_S.rf
  have hl : lv_has ls 1 [(0, .ref a0)] := hl
  have hM0 := hM
  have b16 : ∀ (M : Mem) (H : Heap) (locs : List Loc) (ls : Array Slot), Mh G M H → va_S (gA G) s.heap H locs → lv_has ls 1 [(0, .ref a0)] → f_X8_saveLive_b16 a0 M = some M' → W p l e ({ frames := 5, cells := 0, slots := 0, locals := 112 } : Room) s m args below meth c H locs 0 0 (MQ below (QV G none M') args s 0 0 (gA G)) (F0 m 16 ls []) := by
    intro M H locs ls hM hS hl hf
    rw [f_X8_saveLive_b16] at hf
    refine lv_aload_n hx hb dX8_saveLive_16 rfl (lv_at hl 0 rfl) ?_
    refine s_get hx hb (lay_8 hts) hown hK hM (c_9 h0) rfl 4 (by decide) rfl rfl (tk_270 hts) dX8_saveLive_17 ?_
    refine lv_if_lt (tgt := 35) hx hb dX8_saveLive_20 (by decide) (fun g_1 => ?_) (fun g_1 => ?_)
    · rw [if_pos g_1] at hf
      exact ef_v hx hb hr hlocks hM hS hf dX8_saveLive_35
    · rw [if_neg g_1] at hf
      refine lv_aload_n hx hb dX8_saveLive_23 rfl (lv_at hl 0 rfl) ?_
      refine s_get hx hb (lay_8 hts) hown hK hM (c_9 h0) rfl 4 (by decide) rfl rfl (tk_270 hts) dX8_saveLive_24 ?_
      refine lv_aload_n hx hb dX8_saveLive_27 rfl (lv_at hl 0 rfl) ?_
      refine s_get hx hb (lay_8 hts) hown hK hM (c_9 h0) rfl 3 (by decide) rfl rfl (tk_269 hts) dX8_saveLive_28 ?_
      refine s_alen 4 hx hb hK hM (cel_sa (ky_9_3 hG h0)) rfl (v := 6) (show Int32.ofNat 6 = 6 from by decide) dX8_saveLive_31 ?_
      refine lv_icmp_lt (tgt := 36) hx hb dX8_saveLive_32 (by decide) (fun g_2 => ?_) (fun g_2 => ?_)
      · rw [if_pos g_2] at hf
        refine lv_aload_n hx hb dX8_saveLive_36 rfl (lv_at hl 0 rfl) ?_
        refine s_get hx hb (lay_8 hts) hown hK hM (c_9 h0) rfl 3 (by decide) rfl rfl (tk_269 hts) dX8_saveLive_37 ?_
        refine lv_aload_n hx hb dX8_saveLive_40 rfl (lv_at hl 0 rfl) ?_
        refine s_get hx hb (lay_8 hts) hown hK hM (c_9 h0) rfl 4 (by decide) rfl rfl (tk_270 hts) dX8_saveLive_41 ?_
        obtain ⟨h_3, hf⟩ := gd_e hf
        refine s_saald hx hb hK hM (ky_9_3 hG h0) h_3 dX8_saveLive_44 (fun h_4 => ?_)
        obtain ⟨z5, ez5, hf⟩ := nb_e hf
        refine s_nmr ez5 ?_
        have h_z5 : gK G z5 = 6 := ez5 ▸ h_4
        refine lv_aload_n hx hb dX8_saveLive_45 rfl (lv_at hl 0 rfl) ?_
        refine s_get hx hb (lay_8 hts) hown hK hM (c_9 h0) rfl 0 (by decide) rfl rfl (tk_267 hts) dX8_saveLive_46 ?_
        obtain ⟨M7, e_6, hf⟩ := vb_e hf
        refine c_Vv hx hb hml hown hts hV hK hM hS (As := [.ref (a0 + 1)]) (rest := []) (k_X5_copyFrom G hG l z5 h_z5 (a0 + 1) (ky_9_0 hG h0) M e_6) w_X5_copyFrom (tk_683 hts) (c_6 h_z5) rfl rfl ⟨⟨rfl, rfl⟩, Nat.le_of_ble_eq_true rfl, Nat.le_of_ble_eq_true rfl⟩ ⟨Nat.zero_le _, Nat.zero_le _⟩ rfl hl.1 rfl (Nat.le_of_ble_eq_true rfl) dX8_saveLive_49 (fun H locs hM hS => ?_)
        refine lv_aload_n hx hb dX8_saveLive_52 rfl (lv_at hl 0 rfl) ?_
        refine lv_dup hx hb dX8_saveLive_53 rfl ?_
        refine s_get hx hb (lay_8 hts) hown hK hM (c_9 h0) rfl 4 (by decide) rfl rfl (tk_270 hts) dX8_saveLive_54 ?_
        refine lv_iconst (v := 1) hx hb dX8_saveLive_57 (by decide) ?_
        refine lv_iadd hx hb dX8_saveLive_58 ?_
        obtain ⟨M8, eM8, hf⟩ := nb_e hf
        refine s_put tyX8 hx hb (lay_8 hts) tyX8_ok nmX8 hown hK hM hS (ky_b hG h0) (c_9 h0) rfl 4 (by decide) rfl rfl rfl (Nat.le_of_ble_eq_true rfl) (cp_8_4 h0) (fun _ h9 => cel_sI _ h9) hM.2.2.sI rfl (tk_270 hts) dX8_saveLive_59 (fun H locs hM hS => ?_)
        rw [eM8] at hM
        exact ef_v hx hb hr hlocks hM hS hf dX8_saveLive_62
      · rw [if_neg g_2] at hf
        exact ef_v hx hb hr hlocks hM hS hf dX8_saveLive_35
  rw [f_X8_saveLive] at hf
  obtain ⟨H, hHe⟩ : ∃ H, H = s.heap := ⟨_, rfl⟩
  obtain ⟨locs, hLe⟩ : ∃ L : List Loc, L = [] := ⟨_, rfl⟩
  rw [← hHe] at hM
  have hS : va_S (gA G) s.heap H locs := by rw [hHe, hLe]; exact va_S.rf
  suffices hW : W p l e ({ frames := 5, cells := 0, slots := 0, locals := 112 } : Room) s m args below meth c H locs 0 0 (MQ below (QV G none M') args s 0 0 (gA G)) (F0 m 0 ls []) by rw [hHe, hLe] at hW; exact hW
  refine lv_aload_n hx hb dX8_saveLive_0 rfl (lv_at hl 0 rfl) ?_
  refine s_get hx hb (lay_8 hts) hown hK hM (c_9 h0) rfl 4 (by decide) rfl rfl (tk_270 hts) dX8_saveLive_1 ?_
  refine lv_aload_n hx hb dX8_saveLive_4 rfl (lv_at hl 0 rfl) ?_
  refine s_get hx hb (lay_8 hts) hown hK hM (c_9 h0) rfl 3 (by decide) rfl rfl (tk_269 hts) dX8_saveLive_5 ?_
  refine s_alen 4 hx hb hK hM (cel_sa (ky_9_3 hG h0)) rfl (v := 6) (show Int32.ofNat 6 = 6 from by decide) dX8_saveLive_8 ?_
  refine lv_icmp_lt (tgt := 16) hx hb dX8_saveLive_9 (by decide) (fun g_9 => ?_) (fun g_9 => ?_)
  · rw [if_pos g_9] at hf
    exact b16 _ H locs ls hM hS (lv_sub hl [0] rfl) hf
  · rw [if_neg g_9] at hf
    refine lv_aload_n hx hb dX8_saveLive_12 rfl (lv_at hl 0 rfl) ?_
    obtain ⟨M11, e_10, hf⟩ := vb_e hf
    refine c_Vv hx hb hml hown hts hV hK hM hS (As := []) (rest := []) (k_X8_dropOldestSaved G hG l a0 h0 M e_10) w_X8_dropOldestSaved (tk_679 hts) (c_9 h0) rfl rfl ⟨⟨rfl, rfl⟩, Nat.le_of_ble_eq_true rfl, Nat.le_of_ble_eq_true rfl⟩ ⟨Nat.zero_le _, Nat.zero_le _⟩ rfl hl.1 rfl (Nat.le_of_ble_eq_true rfl) dX8_saveLive_13 (fun H locs hM hS => ?_)
    exact b16 _ H locs ls hM hS (lv_sub hl [0] rfl) hf
def f_X8_say (a0 : Nat) (p1 : Int32) (p2 : Int32) (M : Mem) : Option (Nat × Int32 × Mem) := xb 0 (f_X8_voiceOf a0 p1 M) fun r2 M3 => xb 0 (f_X8_requireSample p2 M3) fun r5 M6 => vb (f_X7_canTake r2 ((a0 + 1) + 2) M6) fun r8 => if r8 = 0 then (some (3, 0, M6)) else (vb (f_X8_saveLive a0 M6) fun M11 => cb (f_X7_take r2 p2 ((a0 + 1) + 2) M11) fun r13 M14 => some (0, r13, M14))
set_option maxHeartbeats 4000000 in
set_option maxRecDepth 100000 in
theorem k_X8_say (G : Gt) (hG : gOK G) (l : Launch) (a0 : Nat) (h0 : gK G a0 = 9) (p1 : Int32) (p2 : Int32) (M : Mem) {r : Int32} {M' : Mem} (hf : f_X8_say a0 p1 p2 M = some (0, r, M')) : Kc G l yX8_say cX8_say 4 (some .int) ({ frames := 7, cells := 0, slots := 0, locals := 132 } : Room) [.ref a0, .int p1, .int p2] M (some (.int r)) M' := by
  refine start (by decide) (Nat.le_of_ble_eq_true rfl) ?_
  intro p e s m args below meth c ls hx hb hr hown hml hlocks hts hV hM hl
  have hown : s.vm.findClass "FoldedVoices" = some m.cls := hown
  have hK := hG.1.moved hV
  have hS : va_S (gA G) s.heap s.heap [] := va_S.rf
  have hl : lv_has ls 4 [(0, .ref a0), (1, .int p1), (2, .int p2)] := hl
  have hM0 := hM
  rw [f_X8_say] at hf
  refine lv_aload_n hx hb dX8_say_0 rfl (lv_at hl 0 rfl) ?_
  refine lv_iload_n hx hb dX8_say_1 rfl (lv_at hl 1 rfl) ?_
  obtain ⟨r2, M3, e_1, hf⟩ := xb_r hf
  refine c_Vr hx hb hml hown hts hV hK hM hS (As := [.int p1]) (rest := []) (k_X8_voiceOf G hG l a0 h0 p1 M e_1) w_X8_voiceOf (tk_306 hts) (c_9 h0) rfl rfl ⟨⟨rfl, rfl⟩, Nat.le_of_ble_eq_true rfl, Nat.le_of_ble_eq_true rfl⟩ ⟨Nat.zero_le _, Nat.zero_le _⟩ rfl hl.1 rfl (Nat.le_of_ble_eq_true rfl) dX8_say_2 (fun H locs hM hS => ?_)
  have h_r2 := kr_X8_voiceOf hG a0 h0 p1 e_1
  refine lv_astore_n (lv' := [(3, .ref r2), (0, .ref a0), (1, .int p1), (2, .int p2)]) hx hb dX8_say_5 rfl hl (by decide) rfl (fun ls hl => ?_)
  refine lv_iload_n hx hb dX8_say_6 rfl (lv_at hl 3 rfl) ?_
  obtain ⟨r5, M6, e_4, hf⟩ := xb_r hf
  refine c_Sv hx hb hml hown hts hV hM hS (As := [.int p2]) (rest := []) (k_X8_requireSample G hG l p2 M3 e_4) w_X8_requireSample (tk_616 hts) ⟨⟨rfl, rfl⟩, Nat.le_of_ble_eq_true rfl, Nat.le_of_ble_eq_true rfl⟩ ⟨Nat.zero_le _, Nat.zero_le _⟩ rfl hl.1 rfl (Nat.le_of_ble_eq_true rfl) dX8_say_7 (fun H locs hM hS => ?_)
  refine lv_aload_n hx hb dX8_say_10 rfl (lv_at hl 0 rfl) ?_
  refine lv_aload_n hx hb dX8_say_11 rfl (lv_at hl 1 rfl) ?_
  refine s_get hx hb (lay_8 hts) hown hK hM (c_9 h0) rfl 0 (by decide) rfl rfl (tk_267 hts) dX8_say_12 ?_
  refine s_getN hx hb (lay_5 hts) hown hK hM (c_6 (ky_9_0 hG h0)) rfl 1 (by decide) rfl rfl (tk_233 hts) dX8_say_15 ?_
  obtain ⟨r8, e_7, hf⟩ := vb_e hf
  refine c_Vi hx hb hml hown hts hV hK hM hS (As := [.ref ((a0 + 1) + 2)]) (rest := []) (k_X7_canTake G hG l r2 h_r2 ((a0 + 1) + 2) (ky_6_1 hG (ky_9_0 hG h0)) M6 e_7) w_X7_canTake (tk_777 hts) (c_8 h_r2) rfl rfl ⟨⟨rfl, rfl⟩, Nat.le_of_ble_eq_true rfl, Nat.le_of_ble_eq_true rfl⟩ ⟨Nat.zero_le _, Nat.zero_le _⟩ rfl hl.1 rfl (Nat.le_of_ble_eq_true rfl) dX8_say_18 (fun H locs hM hS => ?_)
  refine lv_if_ne (tgt := 34) hx hb dX8_say_21 (by decide) (fun g_9 => ?_) (fun g_9 => ?_)
  · rw [if_neg g_9] at hf
    refine lv_aload_n hx hb dX8_say_34 rfl (lv_at hl 1 rfl) ?_
    obtain ⟨M11, e_10, hf⟩ := vb_e hf
    refine c_Vv hx hb hml hown hts hV hK hM hS (As := []) (rest := []) (k_X8_saveLive G hG l a0 h0 M6 e_10) w_X8_saveLive (tk_675 hts) (c_9 h0) rfl rfl ⟨⟨rfl, rfl⟩, Nat.le_of_ble_eq_true rfl, Nat.le_of_ble_eq_true rfl⟩ ⟨Nat.zero_le _, Nat.zero_le _⟩ rfl hl.1 rfl (Nat.le_of_ble_eq_true rfl) dX8_say_35 (fun H locs hM hS => ?_)
    refine lv_aload_n hx hb dX8_say_38 rfl (lv_at hl 0 rfl) ?_
    refine lv_iload_n hx hb dX8_say_39 rfl (lv_at hl 3 rfl) ?_
    refine lv_aload_n hx hb dX8_say_40 rfl (lv_at hl 1 rfl) ?_
    refine s_get hx hb (lay_8 hts) hown hK hM (c_9 h0) rfl 0 (by decide) rfl rfl (tk_267 hts) dX8_say_41 ?_
    refine s_getN hx hb (lay_5 hts) hown hK hM (c_6 (ky_9_0 hG h0)) rfl 1 (by decide) rfl rfl (tk_233 hts) dX8_say_44 ?_
    obtain ⟨r13, M14, e_12, hf⟩ := cb_e hf
    refine c_Vi hx hb hml hown hts hV hK hM hS (As := [.int p2, .ref ((a0 + 1) + 2)]) (rest := []) (k_X7_take G hG l r2 h_r2 p2 ((a0 + 1) + 2) (ky_6_1 hG (ky_9_0 hG h0)) M11 e_12) w_X7_take (tk_787 hts) (c_8 h_r2) rfl rfl ⟨⟨rfl, rfl⟩, Nat.le_of_ble_eq_true rfl, Nat.le_of_ble_eq_true rfl⟩ ⟨Nat.zero_le _, Nat.zero_le _⟩ rfl hl.1 rfl (Nat.le_of_ble_eq_true rfl) dX8_say_47 (fun H locs hM hS => ?_)
    exact ef_ix hx hb hr hlocks hM hS hf dX8_say_50
  · rw [if_pos g_9] at hf
    exact (xf_no2 hf (by decide)).elim
