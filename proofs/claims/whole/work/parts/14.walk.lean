def f_X6_add (a0 : Nat) (p1 : Int32) (M : Mem) : Option Mem := if (mI M a0 1) < 0 then (some M) else (if (60 : Int32) ≤ (mI M a0 1) then (some M) else (gd (ix (mI M a0 1) 60) <| nb (sI M (a0 + 1) (mI M a0 1).toNatClampNeg (vp_nar .char p1)) fun M4 => nb (sI M4 a0 1 ((mI M4 a0 1) + 1)) fun M5 => some M5))
set_option maxHeartbeats 4000000 in
set_option maxRecDepth 100000 in
theorem k_X6_add (G : Gt) (hG : gOK G) (l : Launch) (a0 : Nat) (h0 : gK G a0 = 7) (p1 : Int32) (M : Mem) {M' : Mem} (hf : f_X6_add a0 p1 M = some M') : Kc G l yX6_add cX6_add 2 none ({ frames := 0, cells := 0, slots := 0, locals := 0 } : Room) [.ref a0, .int p1] M none M' := by
  refine start (by decide) (Nat.le_of_ble_eq_true rfl) ?_
  intro p e s m args below meth c ls hx hb hr hown hml hlocks hts hV hM hl
  have hown : s.vm.findClass "FoldedVoices$TalkText" = some m.cls := hown
  have hK := hG.1.moved hV
  have hS : va_S (gA G) s.heap s.heap [] := va_S.rf
  have hl : lv_has ls 2 [(0, .ref a0), (1, .int p1)] := hl
  have hM0 := hM
  rw [f_X6_add] at hf
  refine lv_aload_n hx hb dX6_add_0 rfl (lv_at hl 0 rfl) ?_
  refine s_get hx hb (lay_6 hts) hown hK hM (c_7 h0) rfl 1 (by decide) rfl rfl (tk_250 hts) dX6_add_1 ?_
  refine lv_if_lt (tgt := 39) hx hb dX6_add_4 (by decide) (fun g_1 => ?_) (fun g_1 => ?_)
  · rw [if_pos g_1] at hf
    exact ef_v hx hb hr hlocks hM hS hf dX6_add_39
  · rw [if_neg g_1] at hf
    refine lv_aload_n hx hb dX6_add_7 rfl (lv_at hl 0 rfl) ?_
    refine s_get hx hb (lay_6 hts) hown hK hM (c_7 h0) rfl 1 (by decide) rfl rfl (tk_250 hts) dX6_add_8 ?_
    refine lv_aload_n hx hb dX6_add_11 rfl (lv_at hl 0 rfl) ?_
    refine s_get hx hb (lay_6 hts) hown hK hM (c_7 h0) rfl 0 (by decide) rfl rfl (tk_249 hts) dX6_add_12 ?_
    refine s_alen 1 hx hb hK hM (cel_ca (ky_7_0 hG h0) (n := 60) (by decide)) rfl (v := 60) (show Int32.ofNat 60 = 60 from by decide) dX6_add_15 ?_
    refine lv_icmp_ge (tgt := 39) hx hb dX6_add_16 (by decide) (fun g_2 => ?_) (fun g_2 => ?_)
    · rw [if_pos g_2] at hf
      exact ef_v hx hb hr hlocks hM hS hf dX6_add_39
    · rw [if_neg g_2] at hf
      refine lv_aload_n hx hb dX6_add_19 rfl (lv_at hl 0 rfl) ?_
      refine s_get hx hb (lay_6 hts) hown hK hM (c_7 h0) rfl 0 (by decide) rfl rfl (tk_249 hts) dX6_add_20 ?_
      refine lv_aload_n hx hb dX6_add_23 rfl (lv_at hl 0 rfl) ?_
      refine s_get hx hb (lay_6 hts) hown hK hM (c_7 h0) rfl 1 (by decide) rfl rfl (tk_250 hts) dX6_add_24 ?_
      refine lv_iload_n hx hb dX6_add_27 rfl (lv_at hl 1 rfl) ?_
      obtain ⟨h_3, hf⟩ := gd_e hf
      obtain ⟨M4, eM4, hf⟩ := nb_e hf
      refine s_cast 60 hx hb hK hM hS (ky_7_0 hG h0) (by decide) (ky_b hG (ky_7_0 hG h0)) h_3 dX6_add_28 (fun H locs hM hS => ?_)
      rw [eM4] at hM
      refine lv_aload_n hx hb dX6_add_29 rfl (lv_at hl 0 rfl) ?_
      refine lv_dup hx hb dX6_add_30 rfl ?_
      refine s_get hx hb (lay_6 hts) hown hK hM (c_7 h0) rfl 1 (by decide) rfl rfl (tk_250 hts) dX6_add_31 ?_
      refine lv_iconst (v := 1) hx hb dX6_add_34 (by decide) ?_
      refine lv_iadd hx hb dX6_add_35 ?_
      obtain ⟨M5, eM5, hf⟩ := nb_e hf
      refine s_put tyX6 hx hb (lay_6 hts) tyX6_ok nmX6 hown hK hM hS (ky_b hG h0) (c_7 h0) rfl 1 (by decide) rfl rfl rfl (Nat.le_of_ble_eq_true rfl) (cp_6_1 h0) (fun _ h9 => cel_sI _ h9) hM.2.2.sI rfl (tk_250 hts) dX6_add_36 (fun H locs hM hS => ?_)
      rw [eM5] at hM
      exact ef_v hx hb hr hlocks hM hS hf dX6_add_39
def f_X6_clear (a0 : Nat) (M : Mem) : Option Mem := nb (sI M a0 1 0) fun M1 => some M1
set_option maxHeartbeats 4000000 in
set_option maxRecDepth 100000 in
theorem k_X6_clear (G : Gt) (hG : gOK G) (l : Launch) (a0 : Nat) (h0 : gK G a0 = 7) (M : Mem) {M' : Mem} (hf : f_X6_clear a0 M = some M') : Kc G l yX6_clear cX6_clear 1 none ({ frames := 0, cells := 0, slots := 0, locals := 0 } : Room) [.ref a0] M none M' := by
  refine start (by decide) (Nat.le_of_ble_eq_true rfl) ?_
  intro p e s m args below meth c ls hx hb hr hown hml hlocks hts hV hM hl
  have hown : s.vm.findClass "FoldedVoices$TalkText" = some m.cls := hown
  have hK := hG.1.moved hV
  have hS : va_S (gA G) s.heap s.heap [] := va_S.rf
  have hl : lv_has ls 1 [(0, .ref a0)] := hl
  have hM0 := hM
  rw [f_X6_clear] at hf
  refine lv_aload_n hx hb dX6_clear_0 rfl (lv_at hl 0 rfl) ?_
  refine lv_iconst (v := 0) hx hb dX6_clear_1 (by decide) ?_
  obtain ⟨M1, eM1, hf⟩ := nb_e hf
  refine s_put tyX6 hx hb (lay_6 hts) tyX6_ok nmX6 hown hK hM hS (ky_b hG h0) (c_7 h0) rfl 1 (by decide) rfl rfl rfl (Nat.le_of_ble_eq_true rfl) (cp_6_1 h0) (fun _ h9 => cel_sI _ h9) hM.2.2.sI rfl (tk_250 hts) dX6_clear_2 (fun H locs hM hS => ?_)
  rw [eM1] at hM
  exact ef_v hx hb hr hlocks hM hS hf dX6_clear_5
def f_X6_signAt (a0 : Nat) (p1 : Int32) (M : Mem) : Option Int32 := if p1 < 0 then (gd (0 ≤ (32 : Int32) ∧ (32 : Int32) ≤ 65535) <| some 32) else (if (mI M a0 1) ≤ p1 then (gd (0 ≤ (32 : Int32) ∧ (32 : Int32) ≤ 65535) <| some 32) else (if (60 : Int32) ≤ p1 then (gd (0 ≤ (32 : Int32) ∧ (32 : Int32) ≤ 65535) <| some 32) else (gd (ix p1 60) <| gd (0 ≤ (mI M (a0 + 1) p1.toNatClampNeg) ∧ (mI M (a0 + 1) p1.toNatClampNeg) ≤ 65535) <| some (mI M (a0 + 1) p1.toNatClampNeg))))
set_option maxHeartbeats 4000000 in
set_option maxRecDepth 100000 in
theorem k_X6_signAt (G : Gt) (hG : gOK G) (l : Launch) (a0 : Nat) (h0 : gK G a0 = 7) (p1 : Int32) (M : Mem) {r : Int32} (hf : f_X6_signAt a0 p1 M = some r) : Kc G l yX6_signAt cX6_signAt 2 (some .char) ({ frames := 0, cells := 0, slots := 0, locals := 0 } : Room) [.ref a0, .int p1] M (some (.int r)) M := by
  refine start (by decide) (Nat.le_of_ble_eq_true rfl) ?_
  intro p e s m args below meth c ls hx hb hr hown hml hlocks hts hV hM hl
  have hown : s.vm.findClass "FoldedVoices$TalkText" = some m.cls := hown
  have hK := hG.1.moved hV
  have hS : va_S (gA G) s.heap s.heap [] := va_S.rf
  have hl : lv_has ls 2 [(0, .ref a0), (1, .int p1)] := hl
  have hM0 := hM
  rw [f_X6_signAt] at hf
  refine lv_iload_n hx hb dX6_signAt_0 rfl (lv_at hl 1 rfl) ?_
  refine lv_if_lt (tgt := 30) hx hb dX6_signAt_1 (by decide) (fun g_1 => ?_) (fun g_1 => ?_)
  · rw [if_pos g_1] at hf
    refine lv_bipush (v := 32) hx hb dX6_signAt_30 (by decide) ?_
    obtain ⟨h_2, hf⟩ := gd_e hf
    exact ef_zp hx hb hr hlocks hM hS (nc_n h_2) hf dX6_signAt_32
  · rw [if_neg g_1] at hf
    refine lv_iload_n hx hb dX6_signAt_4 rfl (lv_at hl 1 rfl) ?_
    refine lv_aload_n hx hb dX6_signAt_5 rfl (lv_at hl 0 rfl) ?_
    refine s_get hx hb (lay_6 hts) hown hK hM (c_7 h0) rfl 1 (by decide) rfl rfl (tk_250 hts) dX6_signAt_6 ?_
    refine lv_icmp_ge (tgt := 30) hx hb dX6_signAt_9 (by decide) (fun g_3 => ?_) (fun g_3 => ?_)
    · rw [if_pos g_3] at hf
      refine lv_bipush (v := 32) hx hb dX6_signAt_30 (by decide) ?_
      obtain ⟨h_4, hf⟩ := gd_e hf
      exact ef_zp hx hb hr hlocks hM hS (nc_n h_4) hf dX6_signAt_32
    · rw [if_neg g_3] at hf
      refine lv_iload_n hx hb dX6_signAt_12 rfl (lv_at hl 1 rfl) ?_
      refine lv_aload_n hx hb dX6_signAt_13 rfl (lv_at hl 0 rfl) ?_
      refine s_get hx hb (lay_6 hts) hown hK hM (c_7 h0) rfl 0 (by decide) rfl rfl (tk_249 hts) dX6_signAt_14 ?_
      refine s_alen 1 hx hb hK hM (cel_ca (ky_7_0 hG h0) (n := 60) (by decide)) rfl (v := 60) (show Int32.ofNat 60 = 60 from by decide) dX6_signAt_17 ?_
      refine lv_icmp_ge (tgt := 30) hx hb dX6_signAt_18 (by decide) (fun g_5 => ?_) (fun g_5 => ?_)
      · rw [if_pos g_5] at hf
        refine lv_bipush (v := 32) hx hb dX6_signAt_30 (by decide) ?_
        obtain ⟨h_6, hf⟩ := gd_e hf
        exact ef_zp hx hb hr hlocks hM hS (nc_n h_6) hf dX6_signAt_32
      · rw [if_neg g_5] at hf
        refine lv_aload_n hx hb dX6_signAt_21 rfl (lv_at hl 0 rfl) ?_
        refine s_get hx hb (lay_6 hts) hown hK hM (c_7 h0) rfl 0 (by decide) rfl rfl (tk_249 hts) dX6_signAt_22 ?_
        refine lv_iload_n hx hb dX6_signAt_25 rfl (lv_at hl 1 rfl) ?_
        obtain ⟨h_7, hf⟩ := gd_e hf
        refine s_cald 60 hx hb hK hM (ky_7_0 hG h0) (by decide) h_7 dX6_signAt_26 ?_
        refine lv_goto (tgt := 32) hx hb dX6_signAt_27 (by decide) ?_
        obtain ⟨h_8, hf⟩ := gd_e hf
        exact ef_zp hx hb hr hlocks hM hS (nc_n h_8) hf dX6_signAt_32
def f_X6_isDigit (p0 : Int32) (M : Mem) : Option Int32 := if p0 < (48 : Int32) then (some 0) else (if (57 : Int32) < p0 then (some 0) else (some 1))
set_option maxHeartbeats 4000000 in
set_option maxRecDepth 100000 in
theorem k_X6_isDigit (G : Gt) (hG : gOK G) (l : Launch) (p0 : Int32) (M : Mem) {r : Int32} (hf : f_X6_isDigit p0 M = some r) : Kc G l yX6_isDigit cX6_isDigit 1 (some .boolean) ({ frames := 0, cells := 0, slots := 0, locals := 0 } : Room) [.int p0] M (some (.int r)) M := by
  refine start (by decide) (Nat.le_of_ble_eq_true rfl) ?_
  intro p e s m args below meth c ls hx hb hr hown hml hlocks hts hV hM hl
  have hown : s.vm.findClass "FoldedVoices$TalkText" = some m.cls := hown
  have hK := hG.1.moved hV
  have hS : va_S (gA G) s.heap s.heap [] := va_S.rf
  have hl : lv_has ls 1 [(0, .int p0)] := hl
  have hM0 := hM
  rw [f_X6_isDigit] at hf
  refine lv_iload_n hx hb dX6_isDigit_0 rfl (lv_at hl 0 rfl) ?_
  refine lv_bipush (v := 48) hx hb dX6_isDigit_1 (by decide) ?_
  refine lv_icmp_lt (tgt := 16) hx hb dX6_isDigit_3 (by decide) (fun g_1 => ?_) (fun g_1 => ?_)
  · rw [if_pos g_1] at hf
    refine lv_iconst (v := 0) hx hb dX6_isDigit_16 (by decide) ?_
    exact ef_zp hx hb hr hlocks hM hS (nz_n (Or.inl rfl)) hf dX6_isDigit_17
  · rw [if_neg g_1] at hf
    refine lv_iload_n hx hb dX6_isDigit_6 rfl (lv_at hl 0 rfl) ?_
    refine lv_bipush (v := 57) hx hb dX6_isDigit_7 (by decide) ?_
    refine lv_icmp_gt (tgt := 16) hx hb dX6_isDigit_9 (by decide) (fun g_2 => ?_) (fun g_2 => ?_)
    · rw [if_pos g_2] at hf
      refine lv_iconst (v := 0) hx hb dX6_isDigit_16 (by decide) ?_
      exact ef_zp hx hb hr hlocks hM hS (nz_n (Or.inl rfl)) hf dX6_isDigit_17
    · rw [if_neg g_2] at hf
      refine lv_iconst (v := 1) hx hb dX6_isDigit_12 (by decide) ?_
      refine lv_goto (tgt := 17) hx hb dX6_isDigit_13 (by decide) ?_
      exact ef_zp hx hb hr hlocks hM hS (nz_n (Or.inr rfl)) hf dX6_isDigit_17
def f_X6_isVoice (p0 : Int32) (M : Mem) : Option Int32 := if p0 < (48 : Int32) then (some 0) else (if (51 : Int32) ≤ p0 then (some 0) else (some 1))
set_option maxHeartbeats 4000000 in
set_option maxRecDepth 100000 in
theorem k_X6_isVoice (G : Gt) (hG : gOK G) (l : Launch) (p0 : Int32) (M : Mem) {r : Int32} (hf : f_X6_isVoice p0 M = some r) : Kc G l yX6_isVoice cX6_isVoice 1 (some .boolean) ({ frames := 0, cells := 0, slots := 0, locals := 0 } : Room) [.int p0] M (some (.int r)) M := by
  refine start (by decide) (Nat.le_of_ble_eq_true rfl) ?_
  intro p e s m args below meth c ls hx hb hr hown hml hlocks hts hV hM hl
  have hown : s.vm.findClass "FoldedVoices$TalkText" = some m.cls := hown
  have hK := hG.1.moved hV
  have hS : va_S (gA G) s.heap s.heap [] := va_S.rf
  have hl : lv_has ls 1 [(0, .int p0)] := hl
  have hM0 := hM
  rw [f_X6_isVoice] at hf
  refine lv_iload_n hx hb dX6_isVoice_0 rfl (lv_at hl 0 rfl) ?_
  refine lv_bipush (v := 48) hx hb dX6_isVoice_1 (by decide) ?_
  refine lv_icmp_lt (tgt := 16) hx hb dX6_isVoice_3 (by decide) (fun g_1 => ?_) (fun g_1 => ?_)
  · rw [if_pos g_1] at hf
    refine lv_iconst (v := 0) hx hb dX6_isVoice_16 (by decide) ?_
    exact ef_zp hx hb hr hlocks hM hS (nz_n (Or.inl rfl)) hf dX6_isVoice_17
  · rw [if_neg g_1] at hf
    refine lv_iload_n hx hb dX6_isVoice_6 rfl (lv_at hl 0 rfl) ?_
    refine lv_bipush (v := 51) hx hb dX6_isVoice_7 (by decide) ?_
    refine lv_icmp_ge (tgt := 16) hx hb dX6_isVoice_9 (by decide) (fun g_2 => ?_) (fun g_2 => ?_)
    · rw [if_pos g_2] at hf
      refine lv_iconst (v := 0) hx hb dX6_isVoice_16 (by decide) ?_
      exact ef_zp hx hb hr hlocks hM hS (nz_n (Or.inl rfl)) hf dX6_isVoice_17
    · rw [if_neg g_2] at hf
      refine lv_iconst (v := 1) hx hb dX6_isVoice_12 (by decide) ?_
      refine lv_goto (tgt := 17) hx hb dX6_isVoice_13 (by decide) ?_
      exact ef_zp hx hb hr hlocks hM hS (nz_n (Or.inr rfl)) hf dX6_isVoice_17
def f_X6_isLetter (p0 : Int32) (M : Mem) : Option Int32 := if p0 = (100 : Int32) then (some 1) else (if p0 = (108 : Int32) then (some 1) else (if p0 = (120 : Int32) then (some 1) else (some 0)))
set_option maxHeartbeats 4000000 in
set_option maxRecDepth 100000 in
theorem k_X6_isLetter (G : Gt) (hG : gOK G) (l : Launch) (p0 : Int32) (M : Mem) {r : Int32} (hf : f_X6_isLetter p0 M = some r) : Kc G l yX6_isLetter cX6_isLetter 1 (some .boolean) ({ frames := 0, cells := 0, slots := 0, locals := 0 } : Room) [.int p0] M (some (.int r)) M := by
  refine start (by decide) (Nat.le_of_ble_eq_true rfl) ?_
  intro p e s m args below meth c ls hx hb hr hown hml hlocks hts hV hM hl
  have hown : s.vm.findClass "FoldedVoices$TalkText" = some m.cls := hown
  have hK := hG.1.moved hV
  have hS : va_S (gA G) s.heap s.heap [] := va_S.rf
  have hl : lv_has ls 1 [(0, .int p0)] := hl
  have hM0 := hM
  rw [f_X6_isLetter] at hf
  refine lv_iload_n hx hb dX6_isLetter_0 rfl (lv_at hl 0 rfl) ?_
  refine lv_bipush (v := 100) hx hb dX6_isLetter_1 (by decide) ?_
  refine lv_icmp_eq (tgt := 18) hx hb dX6_isLetter_3 (by decide) (fun g_1 => ?_) (fun g_1 => ?_)
  · rw [if_pos g_1] at hf
    refine lv_iconst (v := 1) hx hb dX6_isLetter_18 (by decide) ?_
    refine lv_goto (tgt := 23) hx hb dX6_isLetter_19 (by decide) ?_
    exact ef_zp hx hb hr hlocks hM hS (nz_n (Or.inr rfl)) hf dX6_isLetter_23
  · rw [if_neg g_1] at hf
    refine lv_iload_n hx hb dX6_isLetter_6 rfl (lv_at hl 0 rfl) ?_
    refine lv_bipush (v := 108) hx hb dX6_isLetter_7 (by decide) ?_
    refine lv_icmp_eq (tgt := 18) hx hb dX6_isLetter_9 (by decide) (fun g_2 => ?_) (fun g_2 => ?_)
    · rw [if_pos g_2] at hf
      refine lv_iconst (v := 1) hx hb dX6_isLetter_18 (by decide) ?_
      refine lv_goto (tgt := 23) hx hb dX6_isLetter_19 (by decide) ?_
      exact ef_zp hx hb hr hlocks hM hS (nz_n (Or.inr rfl)) hf dX6_isLetter_23
    · rw [if_neg g_2] at hf
      refine lv_iload_n hx hb dX6_isLetter_12 rfl (lv_at hl 0 rfl) ?_
      refine lv_bipush (v := 120) hx hb dX6_isLetter_13 (by decide) ?_
      refine lv_icmp_ne (tgt := 22) hx hb dX6_isLetter_15 (by decide) (fun g_3 => ?_) (fun g_3 => ?_)
      · rw [if_neg g_3] at hf
        refine lv_iconst (v := 0) hx hb dX6_isLetter_22 (by decide) ?_
        exact ef_zp hx hb hr hlocks hM hS (nz_n (Or.inl rfl)) hf dX6_isLetter_23
      · rw [if_pos g_3] at hf
        refine lv_iconst (v := 1) hx hb dX6_isLetter_18 (by decide) ?_
        refine lv_goto (tgt := 23) hx hb dX6_isLetter_19 (by decide) ?_
        exact ef_zp hx hb hr hlocks hM hS (nz_n (Or.inr rfl)) hf dX6_isLetter_23
def f_X6_inNumberIf (p0 : Int32) (M : Mem) : Option Int32 := if p0 = 0 then (some (-1)) else (some 5)
set_option maxHeartbeats 4000000 in
set_option maxRecDepth 100000 in
theorem k_X6_inNumberIf (G : Gt) (hG : gOK G) (l : Launch) (p0 : Int32) (M : Mem) {r : Int32} (hf : f_X6_inNumberIf p0 M = some r) : Kc G l yX6_inNumberIf cX6_inNumberIf 1 (some .int) ({ frames := 0, cells := 0, slots := 0, locals := 0 } : Room) [.int p0] M (some (.int r)) M := by
  refine start (by decide) (Nat.le_of_ble_eq_true rfl) ?_
  intro p e s m args below meth c ls hx hb hr hown hml hlocks hts hV hM hl
  have hown : s.vm.findClass "FoldedVoices$TalkText" = some m.cls := hown
  have hK := hG.1.moved hV
  have hS : va_S (gA G) s.heap s.heap [] := va_S.rf
  have hl : lv_has ls 1 [(0, .int p0)] := hl
  have hM0 := hM
  rw [f_X6_inNumberIf] at hf
  refine lv_iload_n hx hb dX6_inNumberIf_0 rfl (lv_at hl 0 rfl) ?_
  refine lv_if_eq (tgt := 8) hx hb dX6_inNumberIf_1 (by decide) (fun g_1 => ?_) (fun g_1 => ?_)
  · rw [if_pos g_1] at hf
    refine lv_iconst (v := (-1)) hx hb dX6_inNumberIf_8 (by decide) ?_
    exact ef_ip hx hb hr hlocks hM hS hf dX6_inNumberIf_9
  · rw [if_neg g_1] at hf
    refine lv_iconst (v := 5) hx hb dX6_inNumberIf_4 (by decide) ?_
    refine lv_goto (tgt := 9) hx hb dX6_inNumberIf_5 (by decide) ?_
    exact ef_ip hx hb hr hlocks hM hS hf dX6_inNumberIf_9
def f_X6_behindSample (p0 : Int32) (M : Mem) : Option Int32 := if p0 = (44 : Int32) then (some 2) else (if p0 = (59 : Int32) then (some 0) else (some (-1)))
set_option maxHeartbeats 4000000 in
set_option maxRecDepth 100000 in
theorem k_X6_behindSample (G : Gt) (hG : gOK G) (l : Launch) (p0 : Int32) (M : Mem) {r : Int32} (hf : f_X6_behindSample p0 M = some r) : Kc G l yX6_behindSample cX6_behindSample 1 (some .int) ({ frames := 0, cells := 0, slots := 0, locals := 0 } : Room) [.int p0] M (some (.int r)) M := by
  refine start (by decide) (Nat.le_of_ble_eq_true rfl) ?_
  intro p e s m args below meth c ls hx hb hr hown hml hlocks hts hV hM hl
  have hown : s.vm.findClass "FoldedVoices$TalkText" = some m.cls := hown
  have hK := hG.1.moved hV
  have hS : va_S (gA G) s.heap s.heap [] := va_S.rf
  have hl : lv_has ls 1 [(0, .int p0)] := hl
  have hM0 := hM
  rw [f_X6_behindSample] at hf
  refine lv_iload_n hx hb dX6_behindSample_0 rfl (lv_at hl 0 rfl) ?_
  refine lv_bipush (v := 44) hx hb dX6_behindSample_1 (by decide) ?_
  refine lv_icmp_ne (tgt := 8) hx hb dX6_behindSample_3 (by decide) (fun g_1 => ?_) (fun g_1 => ?_)
  · rw [if_neg g_1] at hf
    refine lv_iload_n hx hb dX6_behindSample_8 rfl (lv_at hl 0 rfl) ?_
    refine lv_bipush (v := 59) hx hb dX6_behindSample_9 (by decide) ?_
    refine lv_icmp_ne (tgt := 18) hx hb dX6_behindSample_11 (by decide) (fun g_2 => ?_) (fun g_2 => ?_)
    · rw [if_neg g_2] at hf
      refine lv_iconst (v := (-1)) hx hb dX6_behindSample_18 (by decide) ?_
      exact ef_ip hx hb hr hlocks hM hS hf dX6_behindSample_19
    · rw [if_pos g_2] at hf
      refine lv_iconst (v := 0) hx hb dX6_behindSample_14 (by decide) ?_
      refine lv_goto (tgt := 19) hx hb dX6_behindSample_15 (by decide) ?_
      exact ef_ip hx hb hr hlocks hM hS hf dX6_behindSample_19
  · rw [if_pos g_1] at hf
    refine lv_iconst (v := 2) hx hb dX6_behindSample_6 (by decide) ?_
    exact ef_ip hx hb hr hlocks hM hS hf dX6_behindSample_7
def f_X6_standBehind_b127 (p0 : Int32) (p1 : Int32) (p2 : Int32) (xs0 : Int32) (M : Mem) : Option Int32 := vb (f_X6_inNumberIf xs0 M) fun r2 => some r2
def f_X6_standBehind_b126 (p0 : Int32) (p1 : Int32) (p2 : Int32) (M : Mem) : Option Int32 := f_X6_standBehind_b127 p0 p1 p2 0 M
def f_X6_standBehind_b155 (p0 : Int32) (p1 : Int32) (p2 : Int32) (xs0 : Int32) (M : Mem) : Option Int32 := vb (f_X6_inNumberIf xs0 M) fun r4 => some r4
def f_X6_standBehind (p0 : Int32) (p1 : Int32) (p2 : Int32) (M : Mem) : Option Int32 := if p0 = 0 then (vb (f_X6_isVoice p1 M) fun r7 => if r7 = 0 then (vb (f_X6_isLetter p1 M) fun r10 => if r10 = 0 then (some (-1)) else (some 6)) else (some 1)) else (if p0 = 1 then (if p1 = (58 : Int32) then (some 2) else (some (-1))) else (if p0 = 2 then (if p1 = (45 : Int32) then (some 3) else (if p1 = (48 : Int32) then (some 4) else (vb (f_X6_isDigit p1 M) fun r18 => vb (f_X6_inNumberIf r18 M) fun r20 => some r20))) else (if p0 = 3 then (vb (f_X6_isDigit p1 M) fun r23 => if r23 = 0 then (f_X6_standBehind_b126 p0 p1 p2 M) else (if p1 = (48 : Int32) then (f_X6_standBehind_b126 p0 p1 p2 M) else (f_X6_standBehind_b127 p0 p1 p2 1 M))) else (if p0 = 4 then (vb (f_X6_behindSample p1 M) fun r28 => some r28) else (if p0 = 5 then (vb (f_X6_isDigit p1 M) fun r31 => if r31 = 0 then (vb (f_X6_behindSample p1 M) fun r34 => some r34) else (if (2000 : Int32) < p2 then (f_X6_standBehind_b155 p0 p1 p2 0 M) else (f_X6_standBehind_b155 p0 p1 p2 1 M))) else (if p0 = 6 then (vb (f_X6_isVoice p1 M) fun r38 => if r38 = 0 then (some (-1)) else (some 7)) else (if p0 = 7 then (if p1 = (59 : Int32) then (some 0) else (some (-1))) else (some (-1)))))))))
set_option maxHeartbeats 4000000 in
set_option maxRecDepth 100000 in
theorem k_X6_standBehind (G : Gt) (hG : gOK G) (l : Launch) (p0 : Int32) (p1 : Int32) (p2 : Int32) (M : Mem) {r : Int32} (hf : f_X6_standBehind p0 p1 p2 M = some r) : Kc G l yX6_standBehind cX6_standBehind 3 (some .int) ({ frames := 1, cells := 0, slots := 0, locals := 20 } : Room) [.int p0, .int p1, .int p2] M (some (.int r)) M := by
  refine start (by decide) (Nat.le_of_ble_eq_true rfl) ?_
  intro p e s m args below meth c ls hx hb hr hown hml hlocks hts hV hM hl
  have hown : s.vm.findClass "FoldedVoices$TalkText" = some m.cls := hown
  have hK := hG.1.moved hV
  have hS : va_S (gA G) s.heap s.heap [] := va_S.rf
  have hl : lv_has ls 3 [(0, .int p0), (1, .int p1), (2, .int p2)] := hl
  have hM0 := hM
  have b127 : ∀ (xs0 : Int32) (M : Mem) (H : Heap) (locs : List Loc) (ls : Array Slot), Mh G M H → va_S (gA G) s.heap H locs → lv_has ls 3 [(0, .int p0), (1, .int p1), (2, .int p2)] → f_X6_standBehind_b127 p0 p1 p2 xs0 M = some r → W p l e ({ frames := 1, cells := 0, slots := 0, locals := 20 } : Room) s m args below meth c H locs 0 0 (MQ below (QV G (some (.int r)) M) args s 0 0 (gA G)) (F0 m 127 ls [.int xs0]) := by
    intro xs0 M H locs ls hM hS hl hf
    rw [f_X6_standBehind_b127] at hf
    obtain ⟨r2, e_1, hf⟩ := vb_e hf
    refine c_Si hx hb hml hown hts hV hM hS (As := [.int xs0]) (rest := []) (k_X6_inNumberIf G hG l xs0 M e_1) w_X6_inNumberIf (tk_337 hts) ⟨⟨rfl, rfl⟩, Nat.le_of_ble_eq_true rfl, Nat.le_of_ble_eq_true rfl⟩ ⟨Nat.zero_le _, Nat.zero_le _⟩ rfl hl.1 rfl (Nat.le_of_ble_eq_true rfl) dX6_standBehind_127 (fun H locs hM hS => ?_)
    exact ef_ip hx hb hr hlocks hM hS hf dX6_standBehind_130
  have b126 : ∀ (M : Mem) (H : Heap) (locs : List Loc) (ls : Array Slot), Mh G M H → va_S (gA G) s.heap H locs → lv_has ls 3 [(0, .int p0), (1, .int p1), (2, .int p2)] → f_X6_standBehind_b126 p0 p1 p2 M = some r → W p l e ({ frames := 1, cells := 0, slots := 0, locals := 20 } : Room) s m args below meth c H locs 0 0 (MQ below (QV G (some (.int r)) M) args s 0 0 (gA G)) (F0 m 126 ls []) := by
    intro M H locs ls hM hS hl hf
    rw [f_X6_standBehind_b126] at hf
    refine lv_iconst (v := 0) hx hb dX6_standBehind_126 (by decide) ?_
    exact b127 0 _ H locs ls hM hS (lv_sub hl [0, 1, 2] rfl) hf
  have b155 : ∀ (xs0 : Int32) (M : Mem) (H : Heap) (locs : List Loc) (ls : Array Slot), Mh G M H → va_S (gA G) s.heap H locs → lv_has ls 3 [(0, .int p0), (1, .int p1), (2, .int p2)] → f_X6_standBehind_b155 p0 p1 p2 xs0 M = some r → W p l e ({ frames := 1, cells := 0, slots := 0, locals := 20 } : Room) s m args below meth c H locs 0 0 (MQ below (QV G (some (.int r)) M) args s 0 0 (gA G)) (F0 m 155 ls [.int xs0]) := by
    intro xs0 M H locs ls hM hS hl hf
    rw [f_X6_standBehind_b155] at hf
    obtain ⟨r4, e_3, hf⟩ := vb_e hf
    refine c_Si hx hb hml hown hts hV hM hS (As := [.int xs0]) (rest := []) (k_X6_inNumberIf G hG l xs0 M e_3) w_X6_inNumberIf (tk_337 hts) ⟨⟨rfl, rfl⟩, Nat.le_of_ble_eq_true rfl, Nat.le_of_ble_eq_true rfl⟩ ⟨Nat.zero_le _, Nat.zero_le _⟩ rfl hl.1 rfl (Nat.le_of_ble_eq_true rfl) dX6_standBehind_155 (fun H locs hM hS => ?_)
    refine lv_goto (tgt := 165) hx hb dX6_standBehind_158 (by decide) ?_
    exact ef_ip hx hb hr hlocks hM hS hf dX6_standBehind_165
  rw [f_X6_standBehind] at hf
  obtain ⟨H, hHe⟩ : ∃ H, H = s.heap := ⟨_, rfl⟩
  obtain ⟨locs, hLe⟩ : ∃ L : List Loc, L = [] := ⟨_, rfl⟩
  rw [← hHe] at hM
  have hS : va_S (gA G) s.heap H locs := by rw [hHe, hLe]; exact va_S.rf
  suffices hW : W p l e ({ frames := 1, cells := 0, slots := 0, locals := 20 } : Room) s m args below meth c H locs 0 0 (MQ below (QV G (some (.int r)) M) args s 0 0 (gA G)) (F0 m 0 ls []) by rw [hHe, hLe] at hW; exact hW
  refine lv_iload_n hx hb dX6_standBehind_0 rfl (lv_at hl 0 rfl) ?_
  by_cases g_5 : p0 = 0
  · rw [if_pos g_5] at hf
    refine lv_tableIn (off := 47) (tgt := 48) hx hb dX6_standBehind_1 (by rw [g_5]; decide) (by rw [g_5]; decide) (by rw [g_5]; rfl) (by decide) ?_
    refine lv_iload_n hx hb dX6_standBehind_48 rfl (lv_at hl 1 rfl) ?_
    obtain ⟨r7, e_6, hf⟩ := vb_e hf
    refine c_Si hx hb hml hown hts hV hM hS (As := [.int p1]) (rest := []) (k_X6_isVoice G hG l p1 M e_6) w_X6_isVoice (tk_331 hts) ⟨⟨rfl, rfl⟩, Nat.le_of_ble_eq_true rfl, Nat.le_of_ble_eq_true rfl⟩ ⟨Nat.zero_le _, Nat.zero_le _⟩ rfl hl.1 rfl (Nat.le_of_ble_eq_true rfl) dX6_standBehind_49 (fun H locs hM hS => ?_)
    refine lv_if_eq (tgt := 57) hx hb dX6_standBehind_52 (by decide) (fun g_8 => ?_) (fun g_8 => ?_)
    · rw [if_pos g_8] at hf
      refine lv_iload_n hx hb dX6_standBehind_57 rfl (lv_at hl 1 rfl) ?_
      obtain ⟨r10, e_9, hf⟩ := vb_e hf
      refine c_Si hx hb hml hown hts hV hM hS (As := [.int p1]) (rest := []) (k_X6_isLetter G hG l p1 M e_9) w_X6_isLetter (tk_334 hts) ⟨⟨rfl, rfl⟩, Nat.le_of_ble_eq_true rfl, Nat.le_of_ble_eq_true rfl⟩ ⟨Nat.zero_le _, Nat.zero_le _⟩ rfl hl.1 rfl (Nat.le_of_ble_eq_true rfl) dX6_standBehind_58 (fun H locs hM hS => ?_)
      refine lv_if_eq (tgt := 69) hx hb dX6_standBehind_61 (by decide) (fun g_11 => ?_) (fun g_11 => ?_)
      · rw [if_pos g_11] at hf
        refine lv_iconst (v := (-1)) hx hb dX6_standBehind_69 (by decide) ?_
        exact ef_ip hx hb hr hlocks hM hS hf dX6_standBehind_70
      · rw [if_neg g_11] at hf
        refine lv_bipush (v := 6) hx hb dX6_standBehind_64 (by decide) ?_
        refine lv_goto (tgt := 70) hx hb dX6_standBehind_66 (by decide) ?_
        exact ef_ip hx hb hr hlocks hM hS hf dX6_standBehind_70
    · rw [if_neg g_8] at hf
      refine lv_iconst (v := 1) hx hb dX6_standBehind_55 (by decide) ?_
      exact ef_ip hx hb hr hlocks hM hS hf dX6_standBehind_56
  rw [if_neg g_5] at hf
  by_cases g_12 : p0 = 1
  · rw [if_pos g_12] at hf
    refine lv_tableIn (off := 70) (tgt := 71) hx hb dX6_standBehind_1 (by rw [g_12]; decide) (by rw [g_12]; decide) (by rw [g_12]; rfl) (by decide) ?_
    refine lv_iload_n hx hb dX6_standBehind_71 rfl (lv_at hl 1 rfl) ?_
    refine lv_bipush (v := 58) hx hb dX6_standBehind_72 (by decide) ?_
    refine lv_icmp_ne (tgt := 81) hx hb dX6_standBehind_74 (by decide) (fun g_13 => ?_) (fun g_13 => ?_)
    · rw [if_neg g_13] at hf
      refine lv_iconst (v := (-1)) hx hb dX6_standBehind_81 (by decide) ?_
      exact ef_ip hx hb hr hlocks hM hS hf dX6_standBehind_82
    · rw [if_pos g_13] at hf
      refine lv_iconst (v := 2) hx hb dX6_standBehind_77 (by decide) ?_
      refine lv_goto (tgt := 82) hx hb dX6_standBehind_78 (by decide) ?_
      exact ef_ip hx hb hr hlocks hM hS hf dX6_standBehind_82
  rw [if_neg g_12] at hf
  by_cases g_14 : p0 = 2
  · rw [if_pos g_14] at hf
    refine lv_tableIn (off := 82) (tgt := 83) hx hb dX6_standBehind_1 (by rw [g_14]; decide) (by rw [g_14]; decide) (by rw [g_14]; rfl) (by decide) ?_
    refine lv_iload_n hx hb dX6_standBehind_83 rfl (lv_at hl 1 rfl) ?_
    refine lv_bipush (v := 45) hx hb dX6_standBehind_84 (by decide) ?_
    refine lv_icmp_ne (tgt := 91) hx hb dX6_standBehind_86 (by decide) (fun g_15 => ?_) (fun g_15 => ?_)
    · rw [if_neg g_15] at hf
      refine lv_iload_n hx hb dX6_standBehind_91 rfl (lv_at hl 1 rfl) ?_
      refine lv_bipush (v := 48) hx hb dX6_standBehind_92 (by decide) ?_
      refine lv_icmp_ne (tgt := 101) hx hb dX6_standBehind_94 (by decide) (fun g_16 => ?_) (fun g_16 => ?_)
      · rw [if_neg g_16] at hf
        refine lv_iload_n hx hb dX6_standBehind_101 rfl (lv_at hl 1 rfl) ?_
        obtain ⟨r18, e_17, hf⟩ := vb_e hf
        refine c_Si hx hb hml hown hts hV hM hS (As := [.int p1]) (rest := []) (k_X6_isDigit G hG l p1 M e_17) w_X6_isDigit (tk_325 hts) ⟨⟨rfl, rfl⟩, Nat.le_of_ble_eq_true rfl, Nat.le_of_ble_eq_true rfl⟩ ⟨Nat.zero_le _, Nat.zero_le _⟩ rfl hl.1 rfl (Nat.le_of_ble_eq_true rfl) dX6_standBehind_102 (fun H locs hM hS => ?_)
        obtain ⟨r20, e_19, hf⟩ := vb_e hf
        refine c_Si hx hb hml hown hts hV hM hS (As := [.int r18]) (rest := []) (k_X6_inNumberIf G hG l r18 M e_19) w_X6_inNumberIf (tk_337 hts) ⟨⟨rfl, rfl⟩, Nat.le_of_ble_eq_true rfl, Nat.le_of_ble_eq_true rfl⟩ ⟨Nat.zero_le _, Nat.zero_le _⟩ rfl hl.1 rfl (Nat.le_of_ble_eq_true rfl) dX6_standBehind_105 (fun H locs hM hS => ?_)
        exact ef_ip hx hb hr hlocks hM hS hf dX6_standBehind_108
      · rw [if_pos g_16] at hf
        refine lv_iconst (v := 4) hx hb dX6_standBehind_97 (by decide) ?_
        refine lv_goto (tgt := 108) hx hb dX6_standBehind_98 (by decide) ?_
        exact ef_ip hx hb hr hlocks hM hS hf dX6_standBehind_108
    · rw [if_pos g_15] at hf
      refine lv_iconst (v := 3) hx hb dX6_standBehind_89 (by decide) ?_
      exact ef_ip hx hb hr hlocks hM hS hf dX6_standBehind_90
  rw [if_neg g_14] at hf
  by_cases g_21 : p0 = 3
  · rw [if_pos g_21] at hf
    refine lv_tableIn (off := 108) (tgt := 109) hx hb dX6_standBehind_1 (by rw [g_21]; decide) (by rw [g_21]; decide) (by rw [g_21]; rfl) (by decide) ?_
    refine lv_iload_n hx hb dX6_standBehind_109 rfl (lv_at hl 1 rfl) ?_
    obtain ⟨r23, e_22, hf⟩ := vb_e hf
    refine c_Si hx hb hml hown hts hV hM hS (As := [.int p1]) (rest := []) (k_X6_isDigit G hG l p1 M e_22) w_X6_isDigit (tk_325 hts) ⟨⟨rfl, rfl⟩, Nat.le_of_ble_eq_true rfl, Nat.le_of_ble_eq_true rfl⟩ ⟨Nat.zero_le _, Nat.zero_le _⟩ rfl hl.1 rfl (Nat.le_of_ble_eq_true rfl) dX6_standBehind_110 (fun H locs hM hS => ?_)
    refine lv_if_eq (tgt := 126) hx hb dX6_standBehind_113 (by decide) (fun g_24 => ?_) (fun g_24 => ?_)
    · rw [if_pos g_24] at hf
      exact b126 _ H locs ls hM hS (lv_sub hl [0, 1, 2] rfl) hf
    · rw [if_neg g_24] at hf
      refine lv_iload_n hx hb dX6_standBehind_116 rfl (lv_at hl 1 rfl) ?_
      refine lv_bipush (v := 48) hx hb dX6_standBehind_117 (by decide) ?_
      refine lv_icmp_eq (tgt := 126) hx hb dX6_standBehind_119 (by decide) (fun g_25 => ?_) (fun g_25 => ?_)
      · rw [if_pos g_25] at hf
        exact b126 _ H locs ls hM hS (lv_sub hl [0, 1, 2] rfl) hf
      · rw [if_neg g_25] at hf
        refine lv_iconst (v := 1) hx hb dX6_standBehind_122 (by decide) ?_
        refine lv_goto (tgt := 127) hx hb dX6_standBehind_123 (by decide) ?_
        exact b127 1 _ H locs ls hM hS (lv_sub hl [0, 1, 2] rfl) hf
  rw [if_neg g_21] at hf
  by_cases g_26 : p0 = 4
  · rw [if_pos g_26] at hf
    refine lv_tableIn (off := 130) (tgt := 131) hx hb dX6_standBehind_1 (by rw [g_26]; decide) (by rw [g_26]; decide) (by rw [g_26]; rfl) (by decide) ?_
    refine lv_iload_n hx hb dX6_standBehind_131 rfl (lv_at hl 1 rfl) ?_
    obtain ⟨r28, e_27, hf⟩ := vb_e hf
    refine c_Si hx hb hml hown hts hV hM hS (As := [.int p1]) (rest := []) (k_X6_behindSample G hG l p1 M e_27) w_X6_behindSample (tk_340 hts) ⟨⟨rfl, rfl⟩, Nat.le_of_ble_eq_true rfl, Nat.le_of_ble_eq_true rfl⟩ ⟨Nat.zero_le _, Nat.zero_le _⟩ rfl hl.1 rfl (Nat.le_of_ble_eq_true rfl) dX6_standBehind_132 (fun H locs hM hS => ?_)
    exact ef_ip hx hb hr hlocks hM hS hf dX6_standBehind_135
  rw [if_neg g_26] at hf
  by_cases g_29 : p0 = 5
  · rw [if_pos g_29] at hf
    refine lv_tableIn (off := 135) (tgt := 136) hx hb dX6_standBehind_1 (by rw [g_29]; decide) (by rw [g_29]; decide) (by rw [g_29]; rfl) (by decide) ?_
    refine lv_iload_n hx hb dX6_standBehind_136 rfl (lv_at hl 1 rfl) ?_
    obtain ⟨r31, e_30, hf⟩ := vb_e hf
    refine c_Si hx hb hml hown hts hV hM hS (As := [.int p1]) (rest := []) (k_X6_isDigit G hG l p1 M e_30) w_X6_isDigit (tk_325 hts) ⟨⟨rfl, rfl⟩, Nat.le_of_ble_eq_true rfl, Nat.le_of_ble_eq_true rfl⟩ ⟨Nat.zero_le _, Nat.zero_le _⟩ rfl hl.1 rfl (Nat.le_of_ble_eq_true rfl) dX6_standBehind_137 (fun H locs hM hS => ?_)
    refine lv_if_eq (tgt := 161) hx hb dX6_standBehind_140 (by decide) (fun g_32 => ?_) (fun g_32 => ?_)
    · rw [if_pos g_32] at hf
      refine lv_iload_n hx hb dX6_standBehind_161 rfl (lv_at hl 1 rfl) ?_
      obtain ⟨r34, e_33, hf⟩ := vb_e hf
      refine c_Si hx hb hml hown hts hV hM hS (As := [.int p1]) (rest := []) (k_X6_behindSample G hG l p1 M e_33) w_X6_behindSample (tk_340 hts) ⟨⟨rfl, rfl⟩, Nat.le_of_ble_eq_true rfl, Nat.le_of_ble_eq_true rfl⟩ ⟨Nat.zero_le _, Nat.zero_le _⟩ rfl hl.1 rfl (Nat.le_of_ble_eq_true rfl) dX6_standBehind_162 (fun H locs hM hS => ?_)
      exact ef_ip hx hb hr hlocks hM hS hf dX6_standBehind_165
    · rw [if_neg g_32] at hf
      refine lv_iload_n hx hb dX6_standBehind_143 rfl (lv_at hl 2 rfl) ?_
      refine lv_sipush (v := 2000) hx hb dX6_standBehind_144 (by decide) ?_
      refine lv_icmp_gt (tgt := 154) hx hb dX6_standBehind_147 (by decide) (fun g_35 => ?_) (fun g_35 => ?_)
      · rw [if_pos g_35] at hf
        refine lv_iconst (v := 0) hx hb dX6_standBehind_154 (by decide) ?_
        exact b155 0 _ H locs ls hM hS (lv_sub hl [0, 1, 2] rfl) hf
      · rw [if_neg g_35] at hf
        refine lv_iconst (v := 1) hx hb dX6_standBehind_150 (by decide) ?_
        refine lv_goto (tgt := 155) hx hb dX6_standBehind_151 (by decide) ?_
        exact b155 1 _ H locs ls hM hS (lv_sub hl [0, 1, 2] rfl) hf
  rw [if_neg g_29] at hf
  by_cases g_36 : p0 = 6
  · rw [if_pos g_36] at hf
    refine lv_tableIn (off := 165) (tgt := 166) hx hb dX6_standBehind_1 (by rw [g_36]; decide) (by rw [g_36]; decide) (by rw [g_36]; rfl) (by decide) ?_
    refine lv_iload_n hx hb dX6_standBehind_166 rfl (lv_at hl 1 rfl) ?_
    obtain ⟨r38, e_37, hf⟩ := vb_e hf
    refine c_Si hx hb hml hown hts hV hM hS (As := [.int p1]) (rest := []) (k_X6_isVoice G hG l p1 M e_37) w_X6_isVoice (tk_331 hts) ⟨⟨rfl, rfl⟩, Nat.le_of_ble_eq_true rfl, Nat.le_of_ble_eq_true rfl⟩ ⟨Nat.zero_le _, Nat.zero_le _⟩ rfl hl.1 rfl (Nat.le_of_ble_eq_true rfl) dX6_standBehind_167 (fun H locs hM hS => ?_)
    refine lv_if_eq (tgt := 178) hx hb dX6_standBehind_170 (by decide) (fun g_39 => ?_) (fun g_39 => ?_)
    · rw [if_pos g_39] at hf
      refine lv_iconst (v := (-1)) hx hb dX6_standBehind_178 (by decide) ?_
      exact ef_ip hx hb hr hlocks hM hS hf dX6_standBehind_179
    · rw [if_neg g_39] at hf
      refine lv_bipush (v := 7) hx hb dX6_standBehind_173 (by decide) ?_
      refine lv_goto (tgt := 179) hx hb dX6_standBehind_175 (by decide) ?_
      exact ef_ip hx hb hr hlocks hM hS hf dX6_standBehind_179
  rw [if_neg g_36] at hf
  by_cases g_40 : p0 = 7
  · rw [if_pos g_40] at hf
    refine lv_tableIn (off := 179) (tgt := 180) hx hb dX6_standBehind_1 (by rw [g_40]; decide) (by rw [g_40]; decide) (by rw [g_40]; rfl) (by decide) ?_
    refine lv_iload_n hx hb dX6_standBehind_180 rfl (lv_at hl 1 rfl) ?_
    refine lv_bipush (v := 59) hx hb dX6_standBehind_181 (by decide) ?_
    refine lv_icmp_ne (tgt := 190) hx hb dX6_standBehind_183 (by decide) (fun g_41 => ?_) (fun g_41 => ?_)
    · rw [if_neg g_41] at hf
      refine lv_iconst (v := (-1)) hx hb dX6_standBehind_190 (by decide) ?_
      exact ef_ip hx hb hr hlocks hM hS hf dX6_standBehind_191
    · rw [if_pos g_41] at hf
      refine lv_iconst (v := 0) hx hb dX6_standBehind_186 (by decide) ?_
      refine lv_goto (tgt := 191) hx hb dX6_standBehind_187 (by decide) ?_
      exact ef_ip hx hb hr hlocks hM hS hf dX6_standBehind_191
  rw [if_neg g_40] at hf
  have tg_5 := lv_neT g_5 (show (0 : Int32).toInt = 0 from by decide)
  have tg_12 := lv_neT g_12 (show (1 : Int32).toInt = 1 from by decide)
  have tg_14 := lv_neT g_14 (show (2 : Int32).toInt = 2 from by decide)
  have tg_21 := lv_neT g_21 (show (3 : Int32).toInt = 3 from by decide)
  have tg_26 := lv_neT g_26 (show (4 : Int32).toInt = 4 from by decide)
  have tg_29 := lv_neT g_29 (show (5 : Int32).toInt = 5 from by decide)
  have tg_36 := lv_neT g_36 (show (6 : Int32).toInt = 6 from by decide)
  have tg_40 := lv_neT g_40 (show (7 : Int32).toInt = 7 from by decide)
  refine lv_tableOut (tgt := 192) hx hb dX6_standBehind_1 (by omega) (by decide) ?_
  refine lv_iconst (v := (-1)) hx hb dX6_standBehind_192 (by decide) ?_
  exact ef_ip hx hb hr hlocks hM hS hf dX6_standBehind_193
def f_X6_firstWrongPlace_b43 (a0 : Nat) (k9 : Int32 → Int32 → Mem → Option (Int32 × Mem)) (x2 : Int32) (x3 : Int32) (xs0 : Int32) (M : Mem) : Option (Int32 × Mem) := vb (f_X6_standBehind (mI M a0 2) x3 xs0 M) fun r2 => nb (sI M a0 2 r2) fun M3 => if (mI M3 a0 2) = (-1 : Int32) then (some (x2, M3)) else (nb (x2 + 1) fun y5 => k9 xs0 y5 M3)
def f_X6_firstWrongPlace_b9 (a0 : Nat) : Nat → Int32 → Int32 → Mem → Option (Int32 × Mem)
  | 0, _, _, _ => none
  | n + 1, x1, x2, M => if (mI M a0 1) ≤ x2 then (some (mI M a0 1, M)) else (vb (f_X6_signAt a0 x2 M) fun r8 => vb (f_X6_isDigit r8 M) fun r10 => if r10 = 0 then (f_X6_firstWrongPlace_b43 a0 (f_X6_firstWrongPlace_b9 a0 n) x2 r8 0 M) else (f_X6_firstWrongPlace_b43 a0 (f_X6_firstWrongPlace_b9 a0 n) x2 r8 ((((10 : Int32) * x1) + r8) - 48) M))
def f_X6_firstWrongPlace (a0 : Nat) (M : Mem) : Option (Int32 × Mem) := nb (sI M a0 2 0) fun M12 => f_X6_firstWrongPlace_b9 a0 lfuel 0 0 M12
set_option maxHeartbeats 4000000 in
set_option maxRecDepth 100000 in
theorem k_X6_firstWrongPlace (G : Gt) (hG : gOK G) (l : Launch) (a0 : Nat) (h0 : gK G a0 = 7) (M : Mem) {r : Int32} {M' : Mem} (hf : f_X6_firstWrongPlace a0 M = some (r, M')) : Kc G l yX6_firstWrongPlace cX6_firstWrongPlace 4 (some .int) ({ frames := 2, cells := 0, slots := 0, locals := 42 } : Room) [.ref a0] M (some (.int r)) M' := by
  refine start (by decide) (Nat.le_of_ble_eq_true rfl) ?_
  intro p e s m args below meth c ls hx hb hr hown hml hlocks hts hV hM hl
  have hown : s.vm.findClass "FoldedVoices$TalkText" = some m.cls := hown
  have hK := hG.1.moved hV
  have hS : va_S (gA G) s.heap s.heap [] := va_S.rf
  have hl : lv_has ls 4 [(0, .ref a0)] := hl
  have hM0 := hM
  have b43 : ∀ (k9 : Int32 → Int32 → Mem → Option (Int32 × Mem)), (∀ (x1 : Int32) (x2 : Int32) (M : Mem) (H : Heap) (locs : List Loc) (ls : Array Slot), Mh G M H → va_S (gA G) s.heap H locs → lv_has ls 4 [(0, .ref a0), (1, .int x1), (2, .int x2)] → k9 x1 x2 M = some (r, M') → W p l e ({ frames := 2, cells := 0, slots := 0, locals := 42 } : Room) s m args below meth c H locs 0 0 (MQ below (QV G (some (.int r)) M') args s 0 0 (gA G)) (F0 m 9 ls [])) → ∀ (x2 : Int32) (x3 : Int32) (xs0 : Int32) (M : Mem) (H : Heap) (locs : List Loc) (ls : Array Slot), Mh G M H → va_S (gA G) s.heap H locs → lv_has ls 4 [(0, .ref a0), (2, .int x2), (3, .int x3)] → f_X6_firstWrongPlace_b43 a0 k9 x2 x3 xs0 M = some (r, M') → W p l e ({ frames := 2, cells := 0, slots := 0, locals := 42 } : Room) s m args below meth c H locs 0 0 (MQ below (QV G (some (.int r)) M') args s 0 0 (gA G)) (F0 m 43 ls [.int xs0]) := by
    intro k9 hk9
    intro x2 x3 xs0 M H locs ls hM hS hl hf
    rw [f_X6_firstWrongPlace_b43] at hf
    refine lv_istore_n (lv' := [(1, .int xs0), (0, .ref a0), (2, .int x2), (3, .int x3)]) hx hb dX6_firstWrongPlace_43 rfl hl (by decide) rfl (fun ls hl => ?_)
    refine lv_aload_n hx hb dX6_firstWrongPlace_44 rfl (lv_at hl 1 rfl) ?_
    refine lv_aload_n hx hb dX6_firstWrongPlace_45 rfl (lv_at hl 1 rfl) ?_
    refine s_get hx hb (lay_6 hts) hown hK hM (c_7 h0) rfl 2 (by decide) rfl rfl (tk_252 hts) dX6_firstWrongPlace_46 ?_
    refine lv_iload_n hx hb dX6_firstWrongPlace_49 rfl (lv_at hl 3 rfl) ?_
    refine lv_iload_n hx hb dX6_firstWrongPlace_50 rfl (lv_at hl 0 rfl) ?_
    obtain ⟨r2, e_1, hf⟩ := vb_e hf
    refine c_Si hx hb hml hown hts hV hM hS (As := [.int (mI M a0 2), .int x3, .int xs0]) (rest := [.ref a0]) (k_X6_standBehind G hG l (mI M a0 2) x3 xs0 M e_1) w_X6_standBehind (tk_328 hts) ⟨⟨rfl, rfl⟩, Nat.le_of_ble_eq_true rfl, Nat.le_of_ble_eq_true rfl⟩ ⟨Nat.zero_le _, Nat.zero_le _⟩ rfl hl.1 rfl (Nat.le_of_ble_eq_true rfl) dX6_firstWrongPlace_51 (fun H locs hM hS => ?_)
    obtain ⟨M3, eM3, hf⟩ := nb_e hf
    refine s_put tyX6 hx hb (lay_6 hts) tyX6_ok nmX6 hown hK hM hS (ky_b hG h0) (c_7 h0) rfl 2 (by decide) rfl rfl rfl (Nat.le_of_ble_eq_true rfl) (cp_6_2 h0) (fun _ h9 => cel_sI _ h9) hM.2.2.sI rfl (tk_252 hts) dX6_firstWrongPlace_54 (fun H locs hM hS => ?_)
    rw [eM3] at hM
    refine lv_aload_n hx hb dX6_firstWrongPlace_57 rfl (lv_at hl 1 rfl) ?_
    refine s_get hx hb (lay_6 hts) hown hK hM (c_7 h0) rfl 2 (by decide) rfl rfl (tk_252 hts) dX6_firstWrongPlace_58 ?_
    refine lv_iconst (v := (-1)) hx hb dX6_firstWrongPlace_61 (by decide) ?_
    refine lv_icmp_ne (tgt := 67) hx hb dX6_firstWrongPlace_62 (by decide) (fun g_4 => ?_) (fun g_4 => ?_)
    · rw [if_neg g_4] at hf
      obtain ⟨y5, ey5, hf⟩ := nb_e hf
      refine lv_iinc (v := y5) (lv' := [(2, .int y5), (1, .int xs0), (0, .ref a0), (3, .int x3)]) hx hb dX6_firstWrongPlace_67 hl (k := 2) rfl (by rw [← ey5]; rfl) (by decide) rfl (fun ls hl => ?_)
      refine lv_goto (tgt := 9) hx hb dX6_firstWrongPlace_70 (by decide) ?_
      exact hk9 xs0 y5 _ H locs ls hM hS (lv_sub hl [2, 1, 0] rfl) hf
    · rw [if_pos g_4] at hf
      refine lv_iload_n hx hb dX6_firstWrongPlace_65 rfl (lv_at hl 2 rfl) ?_
      exact ef_im hx hb hr hlocks hM hS hf dX6_firstWrongPlace_66
  have b9 : ∀ (n : Nat), ∀ (x1 : Int32) (x2 : Int32) (M : Mem) (H : Heap) (locs : List Loc) (ls : Array Slot), Mh G M H → va_S (gA G) s.heap H locs → lv_has ls 4 [(0, .ref a0), (1, .int x1), (2, .int x2)] → f_X6_firstWrongPlace_b9 a0 n x1 x2 M = some (r, M') → W p l e ({ frames := 2, cells := 0, slots := 0, locals := 42 } : Room) s m args below meth c H locs 0 0 (MQ below (QV G (some (.int r)) M') args s 0 0 (gA G)) (F0 m 9 ls []) := by
    intro n
    induction n with
    | zero =>
      intro x1 x2 M H locs ls hM hS hl hf
      rw [f_X6_firstWrongPlace_b9] at hf
      cases hf
    | succ n ih =>
      intro x1 x2 M H locs ls hM hS hl hf
      rw [f_X6_firstWrongPlace_b9] at hf
      refine lv_iload_n hx hb dX6_firstWrongPlace_9 rfl (lv_at hl 2 rfl) ?_
      refine lv_aload_n hx hb dX6_firstWrongPlace_10 rfl (lv_at hl 0 rfl) ?_
      refine s_get hx hb (lay_6 hts) hown hK hM (c_7 h0) rfl 1 (by decide) rfl rfl (tk_250 hts) dX6_firstWrongPlace_11 ?_
      refine lv_icmp_ge (tgt := 73) hx hb dX6_firstWrongPlace_14 (by decide) (fun g_6 => ?_) (fun g_6 => ?_)
      · rw [if_pos g_6] at hf
        refine lv_aload_n hx hb dX6_firstWrongPlace_73 rfl (lv_at hl 0 rfl) ?_
        refine s_get hx hb (lay_6 hts) hown hK hM (c_7 h0) rfl 1 (by decide) rfl rfl (tk_250 hts) dX6_firstWrongPlace_74 ?_
        exact ef_im hx hb hr hlocks hM hS hf dX6_firstWrongPlace_77
      · rw [if_neg g_6] at hf
        refine lv_aload_n hx hb dX6_firstWrongPlace_17 rfl (lv_at hl 0 rfl) ?_
        refine lv_iload_n hx hb dX6_firstWrongPlace_18 rfl (lv_at hl 2 rfl) ?_
        obtain ⟨r8, e_7, hf⟩ := vb_e hf
        refine c_Vi hx hb hml hown hts hV hK hM hS (As := [.int x2]) (rest := []) (k_X6_signAt G hG l a0 h0 x2 M e_7) w_X6_signAt (tk_321 hts) (c_7 h0) rfl rfl ⟨⟨rfl, rfl⟩, Nat.le_of_ble_eq_true rfl, Nat.le_of_ble_eq_true rfl⟩ ⟨Nat.zero_le _, Nat.zero_le _⟩ rfl hl.1 rfl (Nat.le_of_ble_eq_true rfl) dX6_firstWrongPlace_19 (fun H locs hM hS => ?_)
        refine lv_istore_n (lv' := [(3, .int r8), (0, .ref a0), (1, .int x1), (2, .int x2)]) hx hb dX6_firstWrongPlace_22 rfl hl (by decide) rfl (fun ls hl => ?_)
        refine lv_iload_n hx hb dX6_firstWrongPlace_23 rfl (lv_at hl 0 rfl) ?_
        obtain ⟨r10, e_9, hf⟩ := vb_e hf
        refine c_Si hx hb hml hown hts hV hM hS (As := [.int r8]) (rest := []) (k_X6_isDigit G hG l r8 M e_9) w_X6_isDigit (tk_325 hts) ⟨⟨rfl, rfl⟩, Nat.le_of_ble_eq_true rfl, Nat.le_of_ble_eq_true rfl⟩ ⟨Nat.zero_le _, Nat.zero_le _⟩ rfl hl.1 rfl (Nat.le_of_ble_eq_true rfl) dX6_firstWrongPlace_24 (fun H locs hM hS => ?_)
        refine lv_if_eq (tgt := 42) hx hb dX6_firstWrongPlace_27 (by decide) (fun g_11 => ?_) (fun g_11 => ?_)
        · rw [if_pos g_11] at hf
          refine lv_iconst (v := 0) hx hb dX6_firstWrongPlace_42 (by decide) ?_
          exact b43 _ ih x2 r8 0 _ H locs ls hM hS (lv_sub hl [1, 3, 0] rfl) hf
        · rw [if_neg g_11] at hf
          refine lv_bipush (v := 10) hx hb dX6_firstWrongPlace_30 (by decide) ?_
          refine lv_iload_n hx hb dX6_firstWrongPlace_32 rfl (lv_at hl 2 rfl) ?_
          refine lv_imul hx hb dX6_firstWrongPlace_33 ?_
          refine lv_iload_n hx hb dX6_firstWrongPlace_34 rfl (lv_at hl 0 rfl) ?_
          refine lv_iadd hx hb dX6_firstWrongPlace_35 ?_
          refine lv_bipush (v := 48) hx hb dX6_firstWrongPlace_36 (by decide) ?_
          refine lv_isub hx hb dX6_firstWrongPlace_38 ?_
          refine lv_goto (tgt := 43) hx hb dX6_firstWrongPlace_39 (by decide) ?_
          exact b43 _ ih x2 r8 ((((10 : Int32) * x1) + r8) - 48) _ H locs ls hM hS (lv_sub hl [1, 3, 0] rfl) hf
  rw [f_X6_firstWrongPlace] at hf
  obtain ⟨H, hHe⟩ : ∃ H, H = s.heap := ⟨_, rfl⟩
  obtain ⟨locs, hLe⟩ : ∃ L : List Loc, L = [] := ⟨_, rfl⟩
  rw [← hHe] at hM
  have hS : va_S (gA G) s.heap H locs := by rw [hHe, hLe]; exact va_S.rf
  suffices hW : W p l e ({ frames := 2, cells := 0, slots := 0, locals := 42 } : Room) s m args below meth c H locs 0 0 (MQ below (QV G (some (.int r)) M') args s 0 0 (gA G)) (F0 m 0 ls []) by rw [hHe, hLe] at hW; exact hW
  refine lv_aload_n hx hb dX6_firstWrongPlace_0 rfl (lv_at hl 0 rfl) ?_
  refine lv_iconst (v := 0) hx hb dX6_firstWrongPlace_1 (by decide) ?_
  obtain ⟨M12, eM12, hf⟩ := nb_e hf
  refine s_put tyX6 hx hb (lay_6 hts) tyX6_ok nmX6 hown hK hM hS (ky_b hG h0) (c_7 h0) rfl 2 (by decide) rfl rfl rfl (Nat.le_of_ble_eq_true rfl) (cp_6_2 h0) (fun _ h9 => cel_sI _ h9) hM.2.2.sI rfl (tk_252 hts) dX6_firstWrongPlace_2 (fun H locs hM hS => ?_)
  rw [eM12] at hM
  refine lv_iconst (v := 0) hx hb dX6_firstWrongPlace_5 (by decide) ?_
  refine lv_istore_n (lv' := [(1, .int 0), (0, .ref a0)]) hx hb dX6_firstWrongPlace_6 rfl hl (by decide) rfl (fun ls hl => ?_)
  refine lv_iconst (v := 0) hx hb dX6_firstWrongPlace_7 (by decide) ?_
  refine lv_istore_n (lv' := [(2, .int 0), (1, .int 0), (0, .ref a0)]) hx hb dX6_firstWrongPlace_8 rfl hl (by decide) rfl (fun ls hl => ?_)
  exact b9 _ 0 0 _ H locs ls hM hS (lv_sub hl [2, 1, 0] rfl) hf
def f_X6_isComplete (a0 : Nat) (M : Mem) : Option (Int32 × Mem) := cb (f_X6_firstWrongPlace a0 M) fun r2 M3 => if r2 = (mI M3 a0 1) then (if (mI M3 a0 2) = (4 : Int32) then (some (1, M3)) else (if (mI M3 a0 2) = (5 : Int32) then (some (1, M3)) else (if (mI M3 a0 2) = (7 : Int32) then (some (1, M3)) else (some (0, M3))))) else (some (0, M3))
set_option maxHeartbeats 4000000 in
set_option maxRecDepth 100000 in
theorem k_X6_isComplete (G : Gt) (hG : gOK G) (l : Launch) (a0 : Nat) (h0 : gK G a0 = 7) (M : Mem) {r : Int32} {M' : Mem} (hf : f_X6_isComplete a0 M = some (r, M')) : Kc G l yX6_isComplete cX6_isComplete 1 (some .boolean) ({ frames := 3, cells := 0, slots := 0, locals := 65 } : Room) [.ref a0] M (some (.int r)) M' := by
  refine start (by decide) (Nat.le_of_ble_eq_true rfl) ?_
  intro p e s m args below meth c ls hx hb hr hown hml hlocks hts hV hM hl
  have hown : s.vm.findClass "FoldedVoices$TalkText" = some m.cls := hown
  have hK := hG.1.moved hV
  have hS : va_S (gA G) s.heap s.heap [] := va_S.rf
  have hl : lv_has ls 1 [(0, .ref a0)] := hl
  have hM0 := hM
  rw [f_X6_isComplete] at hf
  refine lv_aload_n hx hb dX6_isComplete_0 rfl (lv_at hl 0 rfl) ?_
  obtain ⟨r2, M3, e_1, hf⟩ := cb_e hf
  refine c_Vi hx hb hml hown hts hV hK hM hS (As := []) (rest := []) (k_X6_firstWrongPlace G hG l a0 h0 M e_1) w_X6_firstWrongPlace (tk_839 hts) (c_7 h0) rfl rfl ⟨⟨rfl, rfl⟩, Nat.le_of_ble_eq_true rfl, Nat.le_of_ble_eq_true rfl⟩ ⟨Nat.zero_le _, Nat.zero_le _⟩ rfl hl.1 rfl (Nat.le_of_ble_eq_true rfl) dX6_isComplete_1 (fun H locs hM hS => ?_)
  refine lv_aload_n hx hb dX6_isComplete_4 rfl (lv_at hl 0 rfl) ?_
  refine s_get hx hb (lay_6 hts) hown hK hM (c_7 h0) rfl 1 (by decide) rfl rfl (tk_250 hts) dX6_isComplete_5 ?_
  refine lv_icmp_ne (tgt := 40) hx hb dX6_isComplete_8 (by decide) (fun g_4 => ?_) (fun g_4 => ?_)
  · rw [if_neg g_4] at hf
    refine lv_iconst (v := 0) hx hb dX6_isComplete_40 (by decide) ?_
    exact ef_zm hx hb hr hlocks hM hS (nz_n (Or.inl rfl)) hf dX6_isComplete_41
  · rw [if_pos g_4] at hf
    refine lv_aload_n hx hb dX6_isComplete_11 rfl (lv_at hl 0 rfl) ?_
    refine s_get hx hb (lay_6 hts) hown hK hM (c_7 h0) rfl 2 (by decide) rfl rfl (tk_252 hts) dX6_isComplete_12 ?_
    refine lv_iconst (v := 4) hx hb dX6_isComplete_15 (by decide) ?_
    refine lv_icmp_eq (tgt := 36) hx hb dX6_isComplete_16 (by decide) (fun g_5 => ?_) (fun g_5 => ?_)
    · rw [if_pos g_5] at hf
      refine lv_iconst (v := 1) hx hb dX6_isComplete_36 (by decide) ?_
      refine lv_goto (tgt := 41) hx hb dX6_isComplete_37 (by decide) ?_
      exact ef_zm hx hb hr hlocks hM hS (nz_n (Or.inr rfl)) hf dX6_isComplete_41
    · rw [if_neg g_5] at hf
      refine lv_aload_n hx hb dX6_isComplete_19 rfl (lv_at hl 0 rfl) ?_
      refine s_get hx hb (lay_6 hts) hown hK hM (c_7 h0) rfl 2 (by decide) rfl rfl (tk_252 hts) dX6_isComplete_20 ?_
      refine lv_iconst (v := 5) hx hb dX6_isComplete_23 (by decide) ?_
      refine lv_icmp_eq (tgt := 36) hx hb dX6_isComplete_24 (by decide) (fun g_6 => ?_) (fun g_6 => ?_)
      · rw [if_pos g_6] at hf
        refine lv_iconst (v := 1) hx hb dX6_isComplete_36 (by decide) ?_
        refine lv_goto (tgt := 41) hx hb dX6_isComplete_37 (by decide) ?_
        exact ef_zm hx hb hr hlocks hM hS (nz_n (Or.inr rfl)) hf dX6_isComplete_41
      · rw [if_neg g_6] at hf
        refine lv_aload_n hx hb dX6_isComplete_27 rfl (lv_at hl 0 rfl) ?_
        refine s_get hx hb (lay_6 hts) hown hK hM (c_7 h0) rfl 2 (by decide) rfl rfl (tk_252 hts) dX6_isComplete_28 ?_
        refine lv_bipush (v := 7) hx hb dX6_isComplete_31 (by decide) ?_
        refine lv_icmp_ne (tgt := 40) hx hb dX6_isComplete_33 (by decide) (fun g_7 => ?_) (fun g_7 => ?_)
        · rw [if_neg g_7] at hf
          refine lv_iconst (v := 0) hx hb dX6_isComplete_40 (by decide) ?_
          exact ef_zm hx hb hr hlocks hM hS (nz_n (Or.inl rfl)) hf dX6_isComplete_41
        · rw [if_pos g_7] at hf
          refine lv_iconst (v := 1) hx hb dX6_isComplete_36 (by decide) ?_
          refine lv_goto (tgt := 41) hx hb dX6_isComplete_37 (by decide) ?_
          exact ef_zm hx hb hr hlocks hM hS (nz_n (Or.inr rfl)) hf dX6_isComplete_41
def f_X6_startReading (a0 : Nat) (M : Mem) : Option Mem := nb (sI M a0 3 0) fun M1 => some M1
set_option maxHeartbeats 4000000 in
set_option maxRecDepth 100000 in
theorem k_X6_startReading (G : Gt) (hG : gOK G) (l : Launch) (a0 : Nat) (h0 : gK G a0 = 7) (M : Mem) {M' : Mem} (hf : f_X6_startReading a0 M = some M') : Kc G l yX6_startReading cX6_startReading 1 none ({ frames := 0, cells := 0, slots := 0, locals := 0 } : Room) [.ref a0] M none M' := by
  refine start (by decide) (Nat.le_of_ble_eq_true rfl) ?_
  intro p e s m args below meth c ls hx hb hr hown hml hlocks hts hV hM hl
  have hown : s.vm.findClass "FoldedVoices$TalkText" = some m.cls := hown
  have hK := hG.1.moved hV
  have hS : va_S (gA G) s.heap s.heap [] := va_S.rf
  have hl : lv_has ls 1 [(0, .ref a0)] := hl
  have hM0 := hM
  rw [f_X6_startReading] at hf
  refine lv_aload_n hx hb dX6_startReading_0 rfl (lv_at hl 0 rfl) ?_
  refine lv_iconst (v := 0) hx hb dX6_startReading_1 (by decide) ?_
  obtain ⟨M1, eM1, hf⟩ := nb_e hf
  refine s_put tyX6 hx hb (lay_6 hts) tyX6_ok nmX6 hown hK hM hS (ky_b hG h0) (c_7 h0) rfl 3 (by decide) rfl rfl rfl (Nat.le_of_ble_eq_true rfl) (cp_6_3 h0) (fun _ h9 => cel_sI _ h9) hM.2.2.sI rfl (tk_253 hts) dX6_startReading_2 (fun H locs hM hS => ?_)
  rw [eM1] at hM
  exact ef_v hx hb hr hlocks hM hS hf dX6_startReading_5
def f_X6_readSample_b101 (a0 : Nat) (xs0 : Int32) (qs1 : Nat) (M : Mem) : Option Mem := nb (sI M qs1 6 xs0) fun M1 => some M1
def f_X6_readSample_b90 (a0 : Nat) (x1 : Int32) (x2 : Int32) (M : Mem) : Option Mem := if x1 = 0 then (f_X6_readSample_b101 a0 x2 a0 M) else (f_X6_readSample_b101 a0 (-x2) a0 M)
def f_X6_readSample_b35 (a0 : Nat) : Nat → Int32 → Int32 → Mem → Option Mem
  | 0, _, _, _ => none
  | n + 1, x1, x2, M => if (mI M a0 1) ≤ (mI M a0 3) then (f_X6_readSample_b90 a0 x1 x2 M) else (vb (f_X6_signAt a0 (mI M a0 3) M) fun r5 => vb (f_X6_isDigit r5 M) fun r7 => if r7 = 0 then (f_X6_readSample_b90 a0 x1 x2 M) else (vb (f_X6_signAt a0 (mI M a0 3) M) fun r10 => nb ((((10 : Int32) * x2) + r10) - 48) fun y11 => nb (sI M a0 3 ((mI M a0 3) + 1)) fun M12 => f_X6_readSample_b35 a0 n x1 y11 M12))
def f_X6_readSample_b33 (a0 : Nat) (x1 : Int32) (M : Mem) : Option Mem := f_X6_readSample_b35 a0 lfuel x1 0 M
def f_X6_readSample_b18 (a0 : Nat) (xs0 : Int32) (M : Mem) : Option Mem := if xs0 = 0 then (f_X6_readSample_b33 a0 xs0 M) else (nb (sI M a0 3 ((mI M a0 3) + 1)) fun M14 => f_X6_readSample_b33 a0 xs0 M14)
def f_X6_readSample (a0 : Nat) (M : Mem) : Option Mem := vb (f_X6_signAt a0 (mI M a0 3) M) fun r16 => if r16 = (45 : Int32) then (f_X6_readSample_b18 a0 1 M) else (f_X6_readSample_b18 a0 0 M)
set_option maxHeartbeats 4000000 in
set_option maxRecDepth 100000 in
theorem k_X6_readSample (G : Gt) (hG : gOK G) (l : Launch) (a0 : Nat) (h0 : gK G a0 = 7) (M : Mem) {M' : Mem} (hf : f_X6_readSample a0 M = some M') : Kc G l yX6_readSample cX6_readSample 3 none ({ frames := 1, cells := 0, slots := 0, locals := 21 } : Room) [.ref a0] M none M' := by
  refine start (by decide) (Nat.le_of_ble_eq_true rfl) ?_
  intro p e s m args below meth c ls hx hb hr hown hml hlocks hts hV hM hl
  have hown : s.vm.findClass "FoldedVoices$TalkText" = some m.cls := hown
  have hK := hG.1.moved hV
  have hS : va_S (gA G) s.heap s.heap [] := va_S.rf
  have hl : lv_has ls 3 [(0, .ref a0)] := hl
  have hM0 := hM
  have b101 : ∀ (xs0 : Int32) (qs1 : Nat) (M : Mem) (H : Heap) (locs : List Loc) (ls : Array Slot), gK G qs1 = 7 → Mh G M H → va_S (gA G) s.heap H locs → lv_has ls 3 [(0, .ref a0)] → f_X6_readSample_b101 a0 xs0 qs1 M = some M' → W p l e ({ frames := 1, cells := 0, slots := 0, locals := 21 } : Room) s m args below meth c H locs 0 0 (MQ below (QV G none M') args s 0 0 (gA G)) (F0 m 101 ls [.int xs0, .ref qs1]) := by
    intro xs0 qs1 M H locs ls h_qs1 hM hS hl hf
    rw [f_X6_readSample_b101] at hf
    obtain ⟨M1, eM1, hf⟩ := nb_e hf
    refine s_put tyX6 hx hb (lay_6 hts) tyX6_ok nmX6 hown hK hM hS (ky_b hG h_qs1) (c_7 h_qs1) rfl 6 (by decide) rfl rfl rfl (Nat.le_of_ble_eq_true rfl) (cp_6_6 h_qs1) (fun _ h9 => cel_sI _ h9) hM.2.2.sI rfl (tk_259 hts) dX6_readSample_101 (fun H locs hM hS => ?_)
    rw [eM1] at hM
    exact ef_v hx hb hr hlocks hM hS hf dX6_readSample_104
  have b90 : ∀ (x1 : Int32) (x2 : Int32) (M : Mem) (H : Heap) (locs : List Loc) (ls : Array Slot), Mh G M H → va_S (gA G) s.heap H locs → lv_has ls 3 [(0, .ref a0), (1, .int x1), (2, .int x2)] → f_X6_readSample_b90 a0 x1 x2 M = some M' → W p l e ({ frames := 1, cells := 0, slots := 0, locals := 21 } : Room) s m args below meth c H locs 0 0 (MQ below (QV G none M') args s 0 0 (gA G)) (F0 m 90 ls []) := by
    intro x1 x2 M H locs ls hM hS hl hf
    rw [f_X6_readSample_b90] at hf
    refine lv_aload_n hx hb dX6_readSample_90 rfl (lv_at hl 0 rfl) ?_
    refine lv_iload_n hx hb dX6_readSample_91 rfl (lv_at hl 1 rfl) ?_
    refine lv_if_eq (tgt := 100) hx hb dX6_readSample_92 (by decide) (fun g_2 => ?_) (fun g_2 => ?_)
    · rw [if_pos g_2] at hf
      refine lv_iload_n hx hb dX6_readSample_100 rfl (lv_at hl 2 rfl) ?_
      exact b101 x2 a0 _ H locs ls h0 hM hS (lv_sub hl [0] rfl) hf
    · rw [if_neg g_2] at hf
      refine lv_iload_n hx hb dX6_readSample_95 rfl (lv_at hl 2 rfl) ?_
      refine lv_ineg hx hb dX6_readSample_96 ?_
      refine lv_goto (tgt := 101) hx hb dX6_readSample_97 (by decide) ?_
      exact b101 (-x2) a0 _ H locs ls h0 hM hS (lv_sub hl [0] rfl) hf
  have b35 : ∀ (n : Nat), ∀ (x1 : Int32) (x2 : Int32) (M : Mem) (H : Heap) (locs : List Loc) (ls : Array Slot), Mh G M H → va_S (gA G) s.heap H locs → lv_has ls 3 [(0, .ref a0), (1, .int x1), (2, .int x2)] → f_X6_readSample_b35 a0 n x1 x2 M = some M' → W p l e ({ frames := 1, cells := 0, slots := 0, locals := 21 } : Room) s m args below meth c H locs 0 0 (MQ below (QV G none M') args s 0 0 (gA G)) (F0 m 35 ls []) := by
    intro n
    induction n with
    | zero =>
      intro x1 x2 M H locs ls hM hS hl hf
      rw [f_X6_readSample_b35] at hf
      cases hf
    | succ n ih =>
      intro x1 x2 M H locs ls hM hS hl hf
      rw [f_X6_readSample_b35] at hf
      refine lv_aload_n hx hb dX6_readSample_35 rfl (lv_at hl 0 rfl) ?_
      refine s_get hx hb (lay_6 hts) hown hK hM (c_7 h0) rfl 3 (by decide) rfl rfl (tk_253 hts) dX6_readSample_36 ?_
      refine lv_aload_n hx hb dX6_readSample_39 rfl (lv_at hl 0 rfl) ?_
      refine s_get hx hb (lay_6 hts) hown hK hM (c_7 h0) rfl 1 (by decide) rfl rfl (tk_250 hts) dX6_readSample_40 ?_
      refine lv_icmp_ge (tgt := 90) hx hb dX6_readSample_43 (by decide) (fun g_3 => ?_) (fun g_3 => ?_)
      · rw [if_pos g_3] at hf
        exact b90 x1 x2 _ H locs ls hM hS (lv_sub hl [0, 1, 2] rfl) hf
      · rw [if_neg g_3] at hf
        refine lv_aload_n hx hb dX6_readSample_46 rfl (lv_at hl 0 rfl) ?_
        refine lv_aload_n hx hb dX6_readSample_47 rfl (lv_at hl 0 rfl) ?_
        refine s_get hx hb (lay_6 hts) hown hK hM (c_7 h0) rfl 3 (by decide) rfl rfl (tk_253 hts) dX6_readSample_48 ?_
        obtain ⟨r5, e_4, hf⟩ := vb_e hf
        refine c_Vi hx hb hml hown hts hV hK hM hS (As := [.int (mI M a0 3)]) (rest := []) (k_X6_signAt G hG l a0 h0 (mI M a0 3) M e_4) w_X6_signAt (tk_321 hts) (c_7 h0) rfl rfl ⟨⟨rfl, rfl⟩, Nat.le_of_ble_eq_true rfl, Nat.le_of_ble_eq_true rfl⟩ ⟨Nat.zero_le _, Nat.zero_le _⟩ rfl hl.1 rfl (Nat.le_of_ble_eq_true rfl) dX6_readSample_51 (fun H locs hM hS => ?_)
        obtain ⟨r7, e_6, hf⟩ := vb_e hf
        refine c_Si hx hb hml hown hts hV hM hS (As := [.int r5]) (rest := []) (k_X6_isDigit G hG l r5 M e_6) w_X6_isDigit (tk_325 hts) ⟨⟨rfl, rfl⟩, Nat.le_of_ble_eq_true rfl, Nat.le_of_ble_eq_true rfl⟩ ⟨Nat.zero_le _, Nat.zero_le _⟩ rfl hl.1 rfl (Nat.le_of_ble_eq_true rfl) dX6_readSample_54 (fun H locs hM hS => ?_)
        refine lv_if_eq (tgt := 90) hx hb dX6_readSample_57 (by decide) (fun g_8 => ?_) (fun g_8 => ?_)
        · rw [if_pos g_8] at hf
          exact b90 x1 x2 _ H locs ls hM hS (lv_sub hl [0, 1, 2] rfl) hf
        · rw [if_neg g_8] at hf
          refine lv_bipush (v := 10) hx hb dX6_readSample_60 (by decide) ?_
          refine lv_iload_n hx hb dX6_readSample_62 rfl (lv_at hl 2 rfl) ?_
          refine lv_imul hx hb dX6_readSample_63 ?_
          refine lv_aload_n hx hb dX6_readSample_64 rfl (lv_at hl 0 rfl) ?_
          refine lv_aload_n hx hb dX6_readSample_65 rfl (lv_at hl 0 rfl) ?_
          refine s_get hx hb (lay_6 hts) hown hK hM (c_7 h0) rfl 3 (by decide) rfl rfl (tk_253 hts) dX6_readSample_66 ?_
          obtain ⟨r10, e_9, hf⟩ := vb_e hf
          refine c_Vi hx hb hml hown hts hV hK hM hS (As := [.int (mI M a0 3)]) (rest := [.int ((10 : Int32) * x2)]) (k_X6_signAt G hG l a0 h0 (mI M a0 3) M e_9) w_X6_signAt (tk_321 hts) (c_7 h0) rfl rfl ⟨⟨rfl, rfl⟩, Nat.le_of_ble_eq_true rfl, Nat.le_of_ble_eq_true rfl⟩ ⟨Nat.zero_le _, Nat.zero_le _⟩ rfl hl.1 rfl (Nat.le_of_ble_eq_true rfl) dX6_readSample_69 (fun H locs hM hS => ?_)
          refine lv_iadd hx hb dX6_readSample_72 ?_
          refine lv_bipush (v := 48) hx hb dX6_readSample_73 (by decide) ?_
          refine lv_isub hx hb dX6_readSample_75 ?_
          obtain ⟨y11, ey11, hf⟩ := nb_e hf
          refine s_nm ey11 ?_
          refine lv_istore_n (lv' := [(2, .int y11), (0, .ref a0), (1, .int x1)]) hx hb dX6_readSample_76 rfl hl (by decide) rfl (fun ls hl => ?_)
          refine lv_aload_n hx hb dX6_readSample_77 rfl (lv_at hl 1 rfl) ?_
          refine lv_dup hx hb dX6_readSample_78 rfl ?_
          refine s_get hx hb (lay_6 hts) hown hK hM (c_7 h0) rfl 3 (by decide) rfl rfl (tk_253 hts) dX6_readSample_79 ?_
          refine lv_iconst (v := 1) hx hb dX6_readSample_82 (by decide) ?_
          refine lv_iadd hx hb dX6_readSample_83 ?_
          obtain ⟨M12, eM12, hf⟩ := nb_e hf
          refine s_put tyX6 hx hb (lay_6 hts) tyX6_ok nmX6 hown hK hM hS (ky_b hG h0) (c_7 h0) rfl 3 (by decide) rfl rfl rfl (Nat.le_of_ble_eq_true rfl) (cp_6_3 h0) (fun _ h9 => cel_sI _ h9) hM.2.2.sI rfl (tk_253 hts) dX6_readSample_84 (fun H locs hM hS => ?_)
          rw [eM12] at hM
          refine lv_goto (tgt := 35) hx hb dX6_readSample_87 (by decide) ?_
          exact ih x1 y11 _ H locs ls hM hS (lv_sub hl [1, 2, 0] rfl) hf
  have b33 : ∀ (x1 : Int32) (M : Mem) (H : Heap) (locs : List Loc) (ls : Array Slot), Mh G M H → va_S (gA G) s.heap H locs → lv_has ls 3 [(0, .ref a0), (1, .int x1)] → f_X6_readSample_b33 a0 x1 M = some M' → W p l e ({ frames := 1, cells := 0, slots := 0, locals := 21 } : Room) s m args below meth c H locs 0 0 (MQ below (QV G none M') args s 0 0 (gA G)) (F0 m 33 ls []) := by
    intro x1 M H locs ls hM hS hl hf
    rw [f_X6_readSample_b33] at hf
    refine lv_iconst (v := 0) hx hb dX6_readSample_33 (by decide) ?_
    refine lv_istore_n (lv' := [(2, .int 0), (0, .ref a0), (1, .int x1)]) hx hb dX6_readSample_34 rfl hl (by decide) rfl (fun ls hl => ?_)
    exact b35 _ x1 0 _ H locs ls hM hS (lv_sub hl [1, 2, 0] rfl) hf
  have b18 : ∀ (xs0 : Int32) (M : Mem) (H : Heap) (locs : List Loc) (ls : Array Slot), Mh G M H → va_S (gA G) s.heap H locs → lv_has ls 3 [(0, .ref a0)] → f_X6_readSample_b18 a0 xs0 M = some M' → W p l e ({ frames := 1, cells := 0, slots := 0, locals := 21 } : Room) s m args below meth c H locs 0 0 (MQ below (QV G none M') args s 0 0 (gA G)) (F0 m 18 ls [.int xs0]) := by
    intro xs0 M H locs ls hM hS hl hf
    rw [f_X6_readSample_b18] at hf
    refine lv_istore_n (lv' := [(1, .int xs0), (0, .ref a0)]) hx hb dX6_readSample_18 rfl hl (by decide) rfl (fun ls hl => ?_)
    refine lv_iload_n hx hb dX6_readSample_19 rfl (lv_at hl 0 rfl) ?_
    refine lv_if_eq (tgt := 33) hx hb dX6_readSample_20 (by decide) (fun g_13 => ?_) (fun g_13 => ?_)
    · rw [if_pos g_13] at hf
      exact b33 xs0 _ H locs ls hM hS (lv_sub hl [1, 0] rfl) hf
    · rw [if_neg g_13] at hf
      refine lv_aload_n hx hb dX6_readSample_23 rfl (lv_at hl 1 rfl) ?_
      refine lv_dup hx hb dX6_readSample_24 rfl ?_
      refine s_get hx hb (lay_6 hts) hown hK hM (c_7 h0) rfl 3 (by decide) rfl rfl (tk_253 hts) dX6_readSample_25 ?_
      refine lv_iconst (v := 1) hx hb dX6_readSample_28 (by decide) ?_
      refine lv_iadd hx hb dX6_readSample_29 ?_
      obtain ⟨M14, eM14, hf⟩ := nb_e hf
      refine s_put tyX6 hx hb (lay_6 hts) tyX6_ok nmX6 hown hK hM hS (ky_b hG h0) (c_7 h0) rfl 3 (by decide) rfl rfl rfl (Nat.le_of_ble_eq_true rfl) (cp_6_3 h0) (fun _ h9 => cel_sI _ h9) hM.2.2.sI rfl (tk_253 hts) dX6_readSample_30 (fun H locs hM hS => ?_)
      rw [eM14] at hM
      exact b33 xs0 _ H locs ls hM hS (lv_sub hl [1, 0] rfl) hf
  rw [f_X6_readSample] at hf
  obtain ⟨H, hHe⟩ : ∃ H, H = s.heap := ⟨_, rfl⟩
  obtain ⟨locs, hLe⟩ : ∃ L : List Loc, L = [] := ⟨_, rfl⟩
  rw [← hHe] at hM
  have hS : va_S (gA G) s.heap H locs := by rw [hHe, hLe]; exact va_S.rf
  suffices hW : W p l e ({ frames := 1, cells := 0, slots := 0, locals := 21 } : Room) s m args below meth c H locs 0 0 (MQ below (QV G none M') args s 0 0 (gA G)) (F0 m 0 ls []) by rw [hHe, hLe] at hW; exact hW
  refine lv_aload_n hx hb dX6_readSample_0 rfl (lv_at hl 0 rfl) ?_
  refine lv_aload_n hx hb dX6_readSample_1 rfl (lv_at hl 0 rfl) ?_
  refine s_get hx hb (lay_6 hts) hown hK hM (c_7 h0) rfl 3 (by decide) rfl rfl (tk_253 hts) dX6_readSample_2 ?_
  obtain ⟨r16, e_15, hf⟩ := vb_e hf
  refine c_Vi hx hb hml hown hts hV hK hM hS (As := [.int (mI M a0 3)]) (rest := []) (k_X6_signAt G hG l a0 h0 (mI M a0 3) M e_15) w_X6_signAt (tk_321 hts) (c_7 h0) rfl rfl ⟨⟨rfl, rfl⟩, Nat.le_of_ble_eq_true rfl, Nat.le_of_ble_eq_true rfl⟩ ⟨Nat.zero_le _, Nat.zero_le _⟩ rfl hl.1 rfl (Nat.le_of_ble_eq_true rfl) dX6_readSample_5 (fun H locs hM hS => ?_)
  refine lv_bipush (v := 45) hx hb dX6_readSample_8 (by decide) ?_
  refine lv_icmp_ne (tgt := 17) hx hb dX6_readSample_10 (by decide) (fun g_17 => ?_) (fun g_17 => ?_)
  · rw [if_neg g_17] at hf
    refine lv_iconst (v := 0) hx hb dX6_readSample_17 (by decide) ?_
    exact b18 0 _ H locs ls hM hS (lv_sub hl [0] rfl) hf
  · rw [if_pos g_17] at hf
    refine lv_iconst (v := 1) hx hb dX6_readSample_13 (by decide) ?_
    refine lv_goto (tgt := 18) hx hb dX6_readSample_14 (by decide) ?_
    exact b18 1 _ H locs ls hM hS (lv_sub hl [0] rfl) hf
