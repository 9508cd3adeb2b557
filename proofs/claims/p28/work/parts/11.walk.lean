def f_X0_copyFrom (a0 : Nat) (a1 : Nat) (M : Mem) : Option Mem := nb (sI M a0 0 (mI M a1 0)) fun M1 => nb (sI M1 a0 1 (mI M1 a1 1)) fun M2 => some M2
set_option maxHeartbeats 4000000 in
set_option maxRecDepth 100000 in
theorem k_X0_copyFrom (G : Gt) (hG : gOK G) (l : Launch) (a0 : Nat) (h0 : gK G a0 = 1) (a1 : Nat) (h1 : gK G a1 = 1) (M : Mem) {M' : Mem} (hf : f_X0_copyFrom a0 a1 M = some M') : Kc G l yX0_copyFrom cX0_copyFrom 2 none ({ frames := 0, cells := 0, slots := 0, locals := 0 } : Room) [.ref a0, .ref a1] M none M' := by
  refine start (by decide) (Nat.le_of_ble_eq_true rfl) ?_
  intro p e s m args below meth c ls hx hb hr hown hml hlocks hts hV hM hl
  have hown : s.vm.findClass "FoldedVoices$End" = some m.cls := hown
  have hK := hG.1.moved hV
  have hS : va_S (gA G) s.heap s.heap [] := va_S.rf
  have hl : lv_has ls 2 [(0, .ref a0), (1, .ref a1)] := hl
  have hM0 := hM
  rw [f_X0_copyFrom] at hf
  refine lv_aload_n hx hb dX0_copyFrom_0 rfl (lv_at hl 0 rfl) ?_
  refine lv_aload_n hx hb dX0_copyFrom_1 rfl (lv_at hl 1 rfl) ?_
  refine s_get hx hb (lay_0 hts) hown hK hM (c_1 h1) rfl 0 (by decide) rfl rfl (tk_62 hts) dX0_copyFrom_2 ?_
  obtain ⟨M1, eM1, hf⟩ := nb_e hf
  refine s_put tyX0 hx hb (lay_0 hts) tyX0_ok nmX0 hown hK hM hS (ky_b hG h0) (c_1 h0) rfl 0 (by decide) rfl rfl rfl (Nat.le_of_ble_eq_true rfl) (cp_0_0 h0) (fun _ h9 => cel_sI _ h9) hM.2.2.sI rfl (tk_62 hts) dX0_copyFrom_5 (fun H locs hM hS => ?_)
  rw [eM1] at hM
  refine lv_aload_n hx hb dX0_copyFrom_8 rfl (lv_at hl 0 rfl) ?_
  refine lv_aload_n hx hb dX0_copyFrom_9 rfl (lv_at hl 1 rfl) ?_
  refine s_get hx hb (lay_0 hts) hown hK hM (c_1 h1) rfl 1 (by decide) rfl rfl (tk_67 hts) dX0_copyFrom_10 ?_
  obtain ⟨M2, eM2, hf⟩ := nb_e hf
  refine s_put tyX0 hx hb (lay_0 hts) tyX0_ok nmX0 hown hK hM hS (ky_b hG h0) (c_1 h0) rfl 1 (by decide) rfl rfl rfl (Nat.le_of_ble_eq_true rfl) (cp_0_1 h0) (fun _ h9 => cel_sI _ h9) hM.2.2.sI rfl (tk_67 hts) dX0_copyFrom_13 (fun H locs hM hS => ?_)
  rw [eM2] at hM
  exact ef_v hx hb hr hlocks hM hS hf dX0_copyFrom_16
def f_X0_isAt (a0 : Nat) (p1 : Int32) (p2 : Int32) (M : Mem) : Option Int32 := if (mI M a0 0) = p1 then (if (mI M a0 1) = p2 then (some 1) else (some 0)) else (some 0)
set_option maxHeartbeats 4000000 in
set_option maxRecDepth 100000 in
theorem k_X0_isAt (G : Gt) (hG : gOK G) (l : Launch) (a0 : Nat) (h0 : gK G a0 = 1) (p1 : Int32) (p2 : Int32) (M : Mem) {r : Int32} (hf : f_X0_isAt a0 p1 p2 M = some r) : Kc G l yX0_isAt cX0_isAt 3 (some .boolean) ({ frames := 0, cells := 0, slots := 0, locals := 0 } : Room) [.ref a0, .int p1, .int p2] M (some (.int r)) M := by
  refine start (by decide) (Nat.le_of_ble_eq_true rfl) ?_
  intro p e s m args below meth c ls hx hb hr hown hml hlocks hts hV hM hl
  have hown : s.vm.findClass "FoldedVoices$End" = some m.cls := hown
  have hK := hG.1.moved hV
  have hS : va_S (gA G) s.heap s.heap [] := va_S.rf
  have hl : lv_has ls 3 [(0, .ref a0), (1, .int p1), (2, .int p2)] := hl
  have hM0 := hM
  rw [f_X0_isAt] at hf
  refine lv_aload_n hx hb dX0_isAt_0 rfl (lv_at hl 0 rfl) ?_
  refine s_get hx hb (lay_0 hts) hown hK hM (c_1 h0) rfl 0 (by decide) rfl rfl (tk_62 hts) dX0_isAt_1 ?_
  refine lv_iload_n hx hb dX0_isAt_4 rfl (lv_at hl 1 rfl) ?_
  refine lv_icmp_ne (tgt := 20) hx hb dX0_isAt_5 (by decide) (fun g_1 => ?_) (fun g_1 => ?_)
  · rw [if_neg g_1] at hf
    refine lv_iconst (v := 0) hx hb dX0_isAt_20 (by decide) ?_
    exact ef_zp hx hb hr hlocks hM hS (nz_n (Or.inl rfl)) hf dX0_isAt_21
  · rw [if_pos g_1] at hf
    refine lv_aload_n hx hb dX0_isAt_8 rfl (lv_at hl 0 rfl) ?_
    refine s_get hx hb (lay_0 hts) hown hK hM (c_1 h0) rfl 1 (by decide) rfl rfl (tk_67 hts) dX0_isAt_9 ?_
    refine lv_iload_n hx hb dX0_isAt_12 rfl (lv_at hl 2 rfl) ?_
    refine lv_icmp_ne (tgt := 20) hx hb dX0_isAt_13 (by decide) (fun g_2 => ?_) (fun g_2 => ?_)
    · rw [if_neg g_2] at hf
      refine lv_iconst (v := 0) hx hb dX0_isAt_20 (by decide) ?_
      exact ef_zp hx hb hr hlocks hM hS (nz_n (Or.inl rfl)) hf dX0_isAt_21
    · rw [if_pos g_2] at hf
      refine lv_iconst (v := 1) hx hb dX0_isAt_16 (by decide) ?_
      refine lv_goto (tgt := 21) hx hb dX0_isAt_17 (by decide) ?_
      exact ef_zp hx hb hr hlocks hM hS (nz_n (Or.inr rfl)) hf dX0_isAt_21
def f_X0_step (a0 : Nat) (M : Mem) : Option Int32 := if (mI M a0 1) < 0 then (some 0) else (if (25 : Int32) ≤ (mI M a0 1) then (some 0) else (gd (ix (mI M a0 1) 25) <| some (cSTEPS (mI M a0 1).toNatClampNeg)))
set_option maxHeartbeats 4000000 in
set_option maxRecDepth 100000 in
theorem k_X0_step (G : Gt) (hG : gOK G) (l : Launch) (a0 : Nat) (h0 : gK G a0 = 1) (M : Mem) {r : Int32} (hf : f_X0_step a0 M = some r) : Kc G l yX0_step cX0_step 1 (some .int) ({ frames := 0, cells := 0, slots := 0, locals := 0 } : Room) [.ref a0] M (some (.int r)) M := by
  refine start (by decide) (Nat.le_of_ble_eq_true rfl) ?_
  intro p e s m args below meth c ls hx hb hr hown hml hlocks hts hV hM hl
  have hown : s.vm.findClass "FoldedVoices$End" = some m.cls := hown
  have hK := hG.1.moved hV
  have hS : va_S (gA G) s.heap s.heap [] := va_S.rf
  have hl : lv_has ls 1 [(0, .ref a0)] := hl
  have hM0 := hM
  obtain ⟨t0, hZ0, hT0⟩ := gSt_at hG.2.2.1 hV hM
  rw [f_X0_step] at hf
  refine lv_aload_n hx hb dX0_step_0 rfl (lv_at hl 0 rfl) ?_
  refine s_get hx hb (lay_0 hts) hown hK hM (c_1 h0) rfl 1 (by decide) rfl rfl (tk_67 hts) dX0_step_1 ?_
  refine lv_if_lt (tgt := 29) hx hb dX0_step_4 (by decide) (fun g_1 => ?_) (fun g_1 => ?_)
  · rw [if_pos g_1] at hf
    refine lv_iconst (v := 0) hx hb dX0_step_29 (by decide) ?_
    exact ef_ip hx hb hr hlocks hM hS hf dX0_step_30
  · rw [if_neg g_1] at hf
    refine lv_aload_n hx hb dX0_step_7 rfl (lv_at hl 0 rfl) ?_
    refine s_get hx hb (lay_0 hts) hown hK hM (c_1 h0) rfl 1 (by decide) rfl rfl (tk_67 hts) dX0_step_8 ?_
    refine va_getsN hx hb hZ0 hS hown (tk_405 hts) (fun _ h => h) dX0_step_11 ?_
    refine va_tlen hx hb hT0 hS (v := 25) (by decide) dX0_step_14 ?_
    refine lv_icmp_ge (tgt := 29) hx hb dX0_step_15 (by decide) (fun g_2 => ?_) (fun g_2 => ?_)
    · rw [if_pos g_2] at hf
      refine lv_iconst (v := 0) hx hb dX0_step_29 (by decide) ?_
      exact ef_ip hx hb hr hlocks hM hS hf dX0_step_30
    · rw [if_neg g_2] at hf
      refine va_getsN hx hb hZ0 hS hown (tk_405 hts) (fun _ h => h) dX0_step_18 ?_
      refine lv_aload_n hx hb dX0_step_21 rfl (lv_at hl 0 rfl) ?_
      refine s_get hx hb (lay_0 hts) hown hK hM (c_1 h0) rfl 1 (by decide) rfl rfl (tk_67 hts) dX0_step_22 ?_
      obtain ⟨h_3, hf⟩ := gd_e hf
      refine va_ti hx hb hT0 hS h_3 rfl dX0_step_25 ?_
      refine lv_goto (tgt := 30) hx hb dX0_step_26 (by decide) ?_
      exact ef_ip hx hb hr hlocks hM hS hf dX0_step_30
def f_X0_codeFor_b54 (a0 : Nat) (p1 : Int32) (x2 : Int32) (x3 : Int32) (x4 : Int32) (M : Mem) : Option Int32 := if x3 < (x2 / 4) then (some x4) else (nb (x4 + 1) fun y2 => some y2)
def f_X0_codeFor_b38 (a0 : Nat) (p1 : Int32) (x2 : Int32) (x3 : Int32) (x4 : Int32) (M : Mem) : Option Int32 := if x3 < (x2 / 2) then (f_X0_codeFor_b54 a0 p1 x2 x3 x4 M) else (nb (x4 + 2) fun y4 => nb (x3 - (x2 / 2)) fun y5 => f_X0_codeFor_b54 a0 p1 x2 y5 y4 M)
def f_X0_codeFor_b26 (a0 : Nat) (p1 : Int32) (x2 : Int32) (x3 : Int32) (x4 : Int32) (M : Mem) : Option Int32 := if x3 < x2 then (f_X0_codeFor_b38 a0 p1 x2 x3 x4 M) else (nb (x4 + 4) fun y7 => nb (x3 - x2) fun y8 => f_X0_codeFor_b38 a0 p1 x2 y8 y7 M)
def f_X0_codeFor (a0 : Nat) (p1 : Int32) (M : Mem) : Option Int32 := vb (f_X0_step a0 M) fun r10 => nb (p1 - (mI M a0 0)) fun y11 => if 0 ≤ y11 then (f_X0_codeFor_b26 a0 p1 r10 y11 0 M) else (nb (-y11) fun y13 => f_X0_codeFor_b26 a0 p1 r10 y13 8 M)
set_option maxHeartbeats 4000000 in
set_option maxRecDepth 100000 in
theorem k_X0_codeFor (G : Gt) (hG : gOK G) (l : Launch) (a0 : Nat) (h0 : gK G a0 = 1) (p1 : Int32) (M : Mem) {r : Int32} (hf : f_X0_codeFor a0 p1 M = some r) : Kc G l yX0_codeFor cX0_codeFor 5 (some .int) ({ frames := 1, cells := 0, slots := 0, locals := 20 } : Room) [.ref a0, .int p1] M (some (.int r)) M := by
  refine start (by decide) (Nat.le_of_ble_eq_true rfl) ?_
  intro p e s m args below meth c ls hx hb hr hown hml hlocks hts hV hM hl
  have hown : s.vm.findClass "FoldedVoices$End" = some m.cls := hown
  have hK := hG.1.moved hV
  have hS : va_S (gA G) s.heap s.heap [] := va_S.rf
  have hl : lv_has ls 5 [(0, .ref a0), (1, .int p1)] := hl
  have hM0 := hM
  have b54 : ∀ (x2 : Int32) (x3 : Int32) (x4 : Int32) (M : Mem) (H : Heap) (locs : List Loc) (ls : Array Slot), Mh G M H → va_S (gA G) s.heap H locs → lv_has ls 5 [(0, .ref a0), (1, .int p1), (2, .int x2), (3, .int x3), (4, .int x4)] → f_X0_codeFor_b54 a0 p1 x2 x3 x4 M = some r → W p l e ({ frames := 1, cells := 0, slots := 0, locals := 20 } : Room) s m args below meth c H locs 0 0 (MQ below (QV G (some (.int r)) M) args s 0 0 (gA G)) (F0 m 54 ls []) := by
    intro x2 x3 x4 M H locs ls hM hS hl hf
    rw [f_X0_codeFor_b54] at hf
    refine lv_iload_n hx hb dX0_codeFor_54 rfl (lv_at hl 3 rfl) ?_
    refine lv_iload_n hx hb dX0_codeFor_55 rfl (lv_at hl 2 rfl) ?_
    refine lv_iconst (v := 4) hx hb dX0_codeFor_56 (by decide) ?_
    refine lv_idiv hx hb dX0_codeFor_57 (by decide) ?_
    refine lv_icmp_lt (tgt := 64) hx hb dX0_codeFor_58 (by decide) (fun g_1 => ?_) (fun g_1 => ?_)
    · rw [if_pos g_1] at hf
      refine lv_iload hx hb dX0_codeFor_64 (lv_at hl 4 rfl) ?_
      exact ef_ip hx hb hr hlocks hM hS hf dX0_codeFor_66
    · rw [if_neg g_1] at hf
      obtain ⟨y2, ey2, hf⟩ := nb_e hf
      refine lv_iinc (v := y2) (lv' := [(4, .int y2), (0, .ref a0), (1, .int p1), (2, .int x2), (3, .int x3)]) hx hb dX0_codeFor_61 hl (k := 4) rfl (by rw [← ey2]; rfl) (by decide) rfl (fun ls hl => ?_)
      refine lv_iload hx hb dX0_codeFor_64 (lv_at hl 0 rfl) ?_
      exact ef_ip hx hb hr hlocks hM hS hf dX0_codeFor_66
  have b38 : ∀ (x2 : Int32) (x3 : Int32) (x4 : Int32) (M : Mem) (H : Heap) (locs : List Loc) (ls : Array Slot), Mh G M H → va_S (gA G) s.heap H locs → lv_has ls 5 [(0, .ref a0), (1, .int p1), (2, .int x2), (3, .int x3), (4, .int x4)] → f_X0_codeFor_b38 a0 p1 x2 x3 x4 M = some r → W p l e ({ frames := 1, cells := 0, slots := 0, locals := 20 } : Room) s m args below meth c H locs 0 0 (MQ below (QV G (some (.int r)) M) args s 0 0 (gA G)) (F0 m 38 ls []) := by
    intro x2 x3 x4 M H locs ls hM hS hl hf
    rw [f_X0_codeFor_b38] at hf
    refine lv_iload_n hx hb dX0_codeFor_38 rfl (lv_at hl 3 rfl) ?_
    refine lv_iload_n hx hb dX0_codeFor_39 rfl (lv_at hl 2 rfl) ?_
    refine lv_iconst (v := 2) hx hb dX0_codeFor_40 (by decide) ?_
    refine lv_idiv hx hb dX0_codeFor_41 (by decide) ?_
    refine lv_icmp_lt (tgt := 54) hx hb dX0_codeFor_42 (by decide) (fun g_3 => ?_) (fun g_3 => ?_)
    · rw [if_pos g_3] at hf
      exact b54 x2 x3 x4 _ H locs ls hM hS (lv_sub hl [0, 1, 2, 3, 4] rfl) hf
    · rw [if_neg g_3] at hf
      obtain ⟨y4, ey4, hf⟩ := nb_e hf
      refine lv_iinc (v := y4) (lv' := [(4, .int y4), (0, .ref a0), (1, .int p1), (2, .int x2), (3, .int x3)]) hx hb dX0_codeFor_45 hl (k := 4) rfl (by rw [← ey4]; rfl) (by decide) rfl (fun ls hl => ?_)
      refine lv_iload_n hx hb dX0_codeFor_48 rfl (lv_at hl 4 rfl) ?_
      refine lv_iload_n hx hb dX0_codeFor_49 rfl (lv_at hl 3 rfl) ?_
      refine lv_iconst (v := 2) hx hb dX0_codeFor_50 (by decide) ?_
      refine lv_idiv hx hb dX0_codeFor_51 (by decide) ?_
      refine lv_isub hx hb dX0_codeFor_52 ?_
      obtain ⟨y5, ey5, hf⟩ := nb_e hf
      refine s_nm ey5 ?_
      refine lv_istore_n (lv' := [(3, .int y5), (4, .int y4), (0, .ref a0), (1, .int p1), (2, .int x2)]) hx hb dX0_codeFor_53 rfl hl (by decide) rfl (fun ls hl => ?_)
      exact b54 x2 y5 y4 _ H locs ls hM hS (lv_sub hl [2, 3, 4, 0, 1] rfl) hf
  have b26 : ∀ (x2 : Int32) (x3 : Int32) (x4 : Int32) (M : Mem) (H : Heap) (locs : List Loc) (ls : Array Slot), Mh G M H → va_S (gA G) s.heap H locs → lv_has ls 5 [(0, .ref a0), (1, .int p1), (2, .int x2), (3, .int x3), (4, .int x4)] → f_X0_codeFor_b26 a0 p1 x2 x3 x4 M = some r → W p l e ({ frames := 1, cells := 0, slots := 0, locals := 20 } : Room) s m args below meth c H locs 0 0 (MQ below (QV G (some (.int r)) M) args s 0 0 (gA G)) (F0 m 26 ls []) := by
    intro x2 x3 x4 M H locs ls hM hS hl hf
    rw [f_X0_codeFor_b26] at hf
    refine lv_iload_n hx hb dX0_codeFor_26 rfl (lv_at hl 3 rfl) ?_
    refine lv_iload_n hx hb dX0_codeFor_27 rfl (lv_at hl 2 rfl) ?_
    refine lv_icmp_lt (tgt := 38) hx hb dX0_codeFor_28 (by decide) (fun g_6 => ?_) (fun g_6 => ?_)
    · rw [if_pos g_6] at hf
      exact b38 x2 x3 x4 _ H locs ls hM hS (lv_sub hl [0, 1, 2, 3, 4] rfl) hf
    · rw [if_neg g_6] at hf
      obtain ⟨y7, ey7, hf⟩ := nb_e hf
      refine lv_iinc (v := y7) (lv' := [(4, .int y7), (0, .ref a0), (1, .int p1), (2, .int x2), (3, .int x3)]) hx hb dX0_codeFor_31 hl (k := 4) rfl (by rw [← ey7]; rfl) (by decide) rfl (fun ls hl => ?_)
      refine lv_iload_n hx hb dX0_codeFor_34 rfl (lv_at hl 4 rfl) ?_
      refine lv_iload_n hx hb dX0_codeFor_35 rfl (lv_at hl 3 rfl) ?_
      refine lv_isub hx hb dX0_codeFor_36 ?_
      obtain ⟨y8, ey8, hf⟩ := nb_e hf
      refine s_nm ey8 ?_
      refine lv_istore_n (lv' := [(3, .int y8), (4, .int y7), (0, .ref a0), (1, .int p1), (2, .int x2)]) hx hb dX0_codeFor_37 rfl hl (by decide) rfl (fun ls hl => ?_)
      exact b38 x2 y8 y7 _ H locs ls hM hS (lv_sub hl [2, 3, 4, 0, 1] rfl) hf
  rw [f_X0_codeFor] at hf
  obtain ⟨H, hHe⟩ : ∃ H, H = s.heap := ⟨_, rfl⟩
  obtain ⟨locs, hLe⟩ : ∃ L : List Loc, L = [] := ⟨_, rfl⟩
  rw [← hHe] at hM
  have hS : va_S (gA G) s.heap H locs := by rw [hHe, hLe]; exact va_S.rf
  suffices hW : W p l e ({ frames := 1, cells := 0, slots := 0, locals := 20 } : Room) s m args below meth c H locs 0 0 (MQ below (QV G (some (.int r)) M) args s 0 0 (gA G)) (F0 m 0 ls []) by rw [hHe, hLe] at hW; exact hW
  refine lv_aload_n hx hb dX0_codeFor_0 rfl (lv_at hl 0 rfl) ?_
  obtain ⟨r10, e_9, hf⟩ := vb_e hf
  refine c_Vi hx hb hml hown hts hV hK hM hS (As := []) (rest := []) (k_X0_step G hG l a0 h0 M e_9) w_X0_step (tk_419 hts) (c_1 h0) rfl rfl ⟨⟨rfl, rfl⟩, Nat.le_of_ble_eq_true rfl, Nat.le_of_ble_eq_true rfl⟩ ⟨Nat.zero_le _, Nat.zero_le _⟩ rfl hl.1 rfl (Nat.le_of_ble_eq_true rfl) dX0_codeFor_1 (fun H locs hM hS => ?_)
  refine lv_istore_n (lv' := [(2, .int r10), (0, .ref a0), (1, .int p1)]) hx hb dX0_codeFor_4 rfl hl (by decide) rfl (fun ls hl => ?_)
  refine lv_iload_n hx hb dX0_codeFor_5 rfl (lv_at hl 2 rfl) ?_
  refine lv_aload_n hx hb dX0_codeFor_6 rfl (lv_at hl 1 rfl) ?_
  refine s_get hx hb (lay_0 hts) hown hK hM (c_1 h0) rfl 0 (by decide) rfl rfl (tk_62 hts) dX0_codeFor_7 ?_
  refine lv_isub hx hb dX0_codeFor_10 ?_
  obtain ⟨y11, ey11, hf⟩ := nb_e hf
  refine s_nm ey11 ?_
  refine lv_istore_n (lv' := [(3, .int y11), (2, .int r10), (0, .ref a0), (1, .int p1)]) hx hb dX0_codeFor_11 rfl hl (by decide) rfl (fun ls hl => ?_)
  refine lv_iconst (v := 0) hx hb dX0_codeFor_12 (by decide) ?_
  refine lv_istore (lv' := [(4, .int 0), (3, .int y11), (2, .int r10), (0, .ref a0), (1, .int p1)]) hx hb dX0_codeFor_13 hl (by decide) rfl (fun ls hl => ?_)
  refine lv_iload_n hx hb dX0_codeFor_15 rfl (lv_at hl 1 rfl) ?_
  refine lv_if_ge (tgt := 26) hx hb dX0_codeFor_16 (by decide) (fun g_12 => ?_) (fun g_12 => ?_)
  · rw [if_pos g_12] at hf
    exact b26 r10 y11 0 _ H locs ls hM hS (lv_sub hl [3, 4, 2, 1, 0] rfl) hf
  · rw [if_neg g_12] at hf
    refine lv_bipush (v := 8) hx hb dX0_codeFor_19 (by decide) ?_
    refine lv_istore (lv' := [(4, .int 8), (3, .int y11), (2, .int r10), (0, .ref a0), (1, .int p1)]) hx hb dX0_codeFor_21 hl (by decide) rfl (fun ls hl => ?_)
    refine lv_iload_n hx hb dX0_codeFor_23 rfl (lv_at hl 1 rfl) ?_
    refine lv_ineg hx hb dX0_codeFor_24 ?_
    obtain ⟨y13, ey13, hf⟩ := nb_e hf
    refine s_nm ey13 ?_
    refine lv_istore_n (lv' := [(3, .int y13), (4, .int 8), (2, .int r10), (0, .ref a0), (1, .int p1)]) hx hb dX0_codeFor_25 rfl hl (by decide) rfl (fun ls hl => ?_)
    exact b26 r10 y13 8 _ H locs ls hM hS (lv_sub hl [3, 4, 2, 0, 1] rfl) hf
def f_X0_guessBehind_b61 (a0 : Nat) (p1 : Int32) (p2 : Int32) (xs0 : Int32) (M : Mem) : Option Int32 := nb (if 2000 < xs0 then 2000 else xs0) fun y1 => nb (if (-2000) < y1 then y1 else (-2000)) fun y2 => some y2
def f_X0_guessBehind_b39 (a0 : Nat) (p1 : Int32) (p2 : Int32) (x3 : Int32) (M : Mem) : Option Int32 := if (p1 &&& 8) = 0 then (f_X0_guessBehind_b61 a0 p1 p2 ((mI M a0 0) + x3) M) else (f_X0_guessBehind_b61 a0 p1 p2 ((mI M a0 0) - x3) M)
def f_X0_guessBehind_b27 (a0 : Nat) (p1 : Int32) (p2 : Int32) (x3 : Int32) (M : Mem) : Option Int32 := if (p1 &&& 1) = 0 then (f_X0_guessBehind_b39 a0 p1 p2 x3 M) else (nb (x3 + (p2 / 4)) fun y5 => f_X0_guessBehind_b39 a0 p1 p2 y5 M)
def f_X0_guessBehind_b15 (a0 : Nat) (p1 : Int32) (p2 : Int32) (x3 : Int32) (M : Mem) : Option Int32 := if (p1 &&& 2) = 0 then (f_X0_guessBehind_b27 a0 p1 p2 x3 M) else (nb (x3 + (p2 / 2)) fun y7 => f_X0_guessBehind_b27 a0 p1 p2 y7 M)
def f_X0_guessBehind (a0 : Nat) (p1 : Int32) (p2 : Int32) (M : Mem) : Option Int32 := nb (p2 / 8) fun y8 => if (p1 &&& 4) = 0 then (f_X0_guessBehind_b15 a0 p1 p2 y8 M) else (nb (y8 + p2) fun y10 => f_X0_guessBehind_b15 a0 p1 p2 y10 M)
set_option maxHeartbeats 4000000 in
set_option maxRecDepth 100000 in
theorem k_X0_guessBehind (G : Gt) (hG : gOK G) (l : Launch) (a0 : Nat) (h0 : gK G a0 = 1) (p1 : Int32) (p2 : Int32) (M : Mem) {r : Int32} (hf : f_X0_guessBehind a0 p1 p2 M = some r) : Kc G l yX0_guessBehind cX0_guessBehind 5 (some .int) ({ frames := 1, cells := 0, slots := 0, locals := 21 } : Room) [.ref a0, .int p1, .int p2] M (some (.int r)) M := by
  refine start (by decide) (Nat.le_of_ble_eq_true rfl) ?_
  intro p e s m args below meth c ls hx hb hr hown hml hlocks hts hV hM hl
  have hown : s.vm.findClass "FoldedVoices$End" = some m.cls := hown
  have hK := hG.1.moved hV
  have hS : va_S (gA G) s.heap s.heap [] := va_S.rf
  have hl : lv_has ls 5 [(0, .ref a0), (1, .int p1), (2, .int p2)] := hl
  have hM0 := hM
  have b61 : ∀ (xs0 : Int32) (M : Mem) (H : Heap) (locs : List Loc) (ls : Array Slot), Mh G M H → va_S (gA G) s.heap H locs → lv_has ls 5 [(0, .ref a0), (1, .int p1), (2, .int p2)] → f_X0_guessBehind_b61 a0 p1 p2 xs0 M = some r → W p l e ({ frames := 1, cells := 0, slots := 0, locals := 21 } : Room) s m args below meth c H locs 0 0 (MQ below (QV G (some (.int r)) M) args s 0 0 (gA G)) (F0 m 61 ls [.int xs0]) := by
    intro xs0 M H locs ls hM hS hl hf
    rw [f_X0_guessBehind_b61] at hf
    refine lv_istore (lv' := [(4, .int xs0), (0, .ref a0), (1, .int p1), (2, .int p2)]) hx hb dX0_guessBehind_61 hl (by decide) rfl (fun ls hl => ?_)
    refine lv_sipush (v := (-2000)) hx hb dX0_guessBehind_63 (by decide) ?_
    refine lv_iload hx hb dX0_guessBehind_66 (lv_at hl 0 rfl) ?_
    refine lv_sipush (v := 2000) hx hb dX0_guessBehind_68 (by decide) ?_
    refine va_mmin hx hb (hml.trans hl.1.symm) hown (tk_424 hts) (tk_425 hts) (tk_14 hts) (tk_426 hts) (Nat.le_of_ble_eq_true rfl) (Nat.le_of_ble_eq_true rfl) (Nat.zero_le _) (Nat.zero_le _) dX0_guessBehind_71 ?_
    obtain ⟨y1, ey1, hf⟩ := nb_e hf
    refine s_nm ey1 ?_
    refine va_mmax hx hb (hml.trans hl.1.symm) hown (tk_427 hts) (tk_428 hts) (tk_14 hts) (tk_429 hts) (Nat.le_of_ble_eq_true rfl) (Nat.le_of_ble_eq_true rfl) (Nat.zero_le _) (Nat.zero_le _) dX0_guessBehind_74 ?_
    obtain ⟨y2, ey2, hf⟩ := nb_e hf
    refine s_nm ey2 ?_
    exact ef_ip hx hb hr hlocks hM hS hf dX0_guessBehind_77
  have b39 : ∀ (x3 : Int32) (M : Mem) (H : Heap) (locs : List Loc) (ls : Array Slot), Mh G M H → va_S (gA G) s.heap H locs → lv_has ls 5 [(0, .ref a0), (1, .int p1), (2, .int p2), (3, .int x3)] → f_X0_guessBehind_b39 a0 p1 p2 x3 M = some r → W p l e ({ frames := 1, cells := 0, slots := 0, locals := 21 } : Room) s m args below meth c H locs 0 0 (MQ below (QV G (some (.int r)) M) args s 0 0 (gA G)) (F0 m 39 ls []) := by
    intro x3 M H locs ls hM hS hl hf
    rw [f_X0_guessBehind_b39] at hf
    refine lv_iload_n hx hb dX0_guessBehind_39 rfl (lv_at hl 1 rfl) ?_
    refine lv_bipush (v := 8) hx hb dX0_guessBehind_40 (by decide) ?_
    refine lv_iand hx hb dX0_guessBehind_42 ?_
    refine lv_if_eq (tgt := 55) hx hb dX0_guessBehind_43 (by decide) (fun g_3 => ?_) (fun g_3 => ?_)
    · rw [if_pos g_3] at hf
      refine lv_aload_n hx hb dX0_guessBehind_55 rfl (lv_at hl 0 rfl) ?_
      refine s_get hx hb (lay_0 hts) hown hK hM (c_1 h0) rfl 0 (by decide) rfl rfl (tk_62 hts) dX0_guessBehind_56 ?_
      refine lv_iload_n hx hb dX0_guessBehind_59 rfl (lv_at hl 3 rfl) ?_
      refine lv_iadd hx hb dX0_guessBehind_60 ?_
      exact b61 ((mI M a0 0) + x3) _ H locs ls hM hS (lv_sub hl [0, 1, 2] rfl) hf
    · rw [if_neg g_3] at hf
      refine lv_aload_n hx hb dX0_guessBehind_46 rfl (lv_at hl 0 rfl) ?_
      refine s_get hx hb (lay_0 hts) hown hK hM (c_1 h0) rfl 0 (by decide) rfl rfl (tk_62 hts) dX0_guessBehind_47 ?_
      refine lv_iload_n hx hb dX0_guessBehind_50 rfl (lv_at hl 3 rfl) ?_
      refine lv_isub hx hb dX0_guessBehind_51 ?_
      refine lv_goto (tgt := 61) hx hb dX0_guessBehind_52 (by decide) ?_
      exact b61 ((mI M a0 0) - x3) _ H locs ls hM hS (lv_sub hl [0, 1, 2] rfl) hf
  have b27 : ∀ (x3 : Int32) (M : Mem) (H : Heap) (locs : List Loc) (ls : Array Slot), Mh G M H → va_S (gA G) s.heap H locs → lv_has ls 5 [(0, .ref a0), (1, .int p1), (2, .int p2), (3, .int x3)] → f_X0_guessBehind_b27 a0 p1 p2 x3 M = some r → W p l e ({ frames := 1, cells := 0, slots := 0, locals := 21 } : Room) s m args below meth c H locs 0 0 (MQ below (QV G (some (.int r)) M) args s 0 0 (gA G)) (F0 m 27 ls []) := by
    intro x3 M H locs ls hM hS hl hf
    rw [f_X0_guessBehind_b27] at hf
    refine lv_iload_n hx hb dX0_guessBehind_27 rfl (lv_at hl 1 rfl) ?_
    refine lv_iconst (v := 1) hx hb dX0_guessBehind_28 (by decide) ?_
    refine lv_iand hx hb dX0_guessBehind_29 ?_
    refine lv_if_eq (tgt := 39) hx hb dX0_guessBehind_30 (by decide) (fun g_4 => ?_) (fun g_4 => ?_)
    · rw [if_pos g_4] at hf
      exact b39 x3 _ H locs ls hM hS (lv_sub hl [0, 1, 2, 3] rfl) hf
    · rw [if_neg g_4] at hf
      refine lv_iload_n hx hb dX0_guessBehind_33 rfl (lv_at hl 3 rfl) ?_
      refine lv_iload_n hx hb dX0_guessBehind_34 rfl (lv_at hl 2 rfl) ?_
      refine lv_iconst (v := 4) hx hb dX0_guessBehind_35 (by decide) ?_
      refine lv_idiv hx hb dX0_guessBehind_36 (by decide) ?_
      refine lv_iadd hx hb dX0_guessBehind_37 ?_
      obtain ⟨y5, ey5, hf⟩ := nb_e hf
      refine s_nm ey5 ?_
      refine lv_istore_n (lv' := [(3, .int y5), (0, .ref a0), (1, .int p1), (2, .int p2)]) hx hb dX0_guessBehind_38 rfl hl (by decide) rfl (fun ls hl => ?_)
      exact b39 y5 _ H locs ls hM hS (lv_sub hl [1, 2, 3, 0] rfl) hf
  have b15 : ∀ (x3 : Int32) (M : Mem) (H : Heap) (locs : List Loc) (ls : Array Slot), Mh G M H → va_S (gA G) s.heap H locs → lv_has ls 5 [(0, .ref a0), (1, .int p1), (2, .int p2), (3, .int x3)] → f_X0_guessBehind_b15 a0 p1 p2 x3 M = some r → W p l e ({ frames := 1, cells := 0, slots := 0, locals := 21 } : Room) s m args below meth c H locs 0 0 (MQ below (QV G (some (.int r)) M) args s 0 0 (gA G)) (F0 m 15 ls []) := by
    intro x3 M H locs ls hM hS hl hf
    rw [f_X0_guessBehind_b15] at hf
    refine lv_iload_n hx hb dX0_guessBehind_15 rfl (lv_at hl 1 rfl) ?_
    refine lv_iconst (v := 2) hx hb dX0_guessBehind_16 (by decide) ?_
    refine lv_iand hx hb dX0_guessBehind_17 ?_
    refine lv_if_eq (tgt := 27) hx hb dX0_guessBehind_18 (by decide) (fun g_6 => ?_) (fun g_6 => ?_)
    · rw [if_pos g_6] at hf
      exact b27 x3 _ H locs ls hM hS (lv_sub hl [0, 1, 2, 3] rfl) hf
    · rw [if_neg g_6] at hf
      refine lv_iload_n hx hb dX0_guessBehind_21 rfl (lv_at hl 3 rfl) ?_
      refine lv_iload_n hx hb dX0_guessBehind_22 rfl (lv_at hl 2 rfl) ?_
      refine lv_iconst (v := 2) hx hb dX0_guessBehind_23 (by decide) ?_
      refine lv_idiv hx hb dX0_guessBehind_24 (by decide) ?_
      refine lv_iadd hx hb dX0_guessBehind_25 ?_
      obtain ⟨y7, ey7, hf⟩ := nb_e hf
      refine s_nm ey7 ?_
      refine lv_istore_n (lv' := [(3, .int y7), (0, .ref a0), (1, .int p1), (2, .int p2)]) hx hb dX0_guessBehind_26 rfl hl (by decide) rfl (fun ls hl => ?_)
      exact b27 y7 _ H locs ls hM hS (lv_sub hl [1, 2, 3, 0] rfl) hf
  rw [f_X0_guessBehind] at hf
  obtain ⟨H, hHe⟩ : ∃ H, H = s.heap := ⟨_, rfl⟩
  obtain ⟨locs, hLe⟩ : ∃ L : List Loc, L = [] := ⟨_, rfl⟩
  rw [← hHe] at hM
  have hS : va_S (gA G) s.heap H locs := by rw [hHe, hLe]; exact va_S.rf
  suffices hW : W p l e ({ frames := 1, cells := 0, slots := 0, locals := 21 } : Room) s m args below meth c H locs 0 0 (MQ below (QV G (some (.int r)) M) args s 0 0 (gA G)) (F0 m 0 ls []) by rw [hHe, hLe] at hW; exact hW
  refine lv_iload_n hx hb dX0_guessBehind_0 rfl (lv_at hl 2 rfl) ?_
  refine lv_bipush (v := 8) hx hb dX0_guessBehind_1 (by decide) ?_
  refine lv_idiv hx hb dX0_guessBehind_3 (by decide) ?_
  obtain ⟨y8, ey8, hf⟩ := nb_e hf
  refine s_nm ey8 ?_
  refine lv_istore_n (lv' := [(3, .int y8), (0, .ref a0), (1, .int p1), (2, .int p2)]) hx hb dX0_guessBehind_4 rfl hl (by decide) rfl (fun ls hl => ?_)
  refine lv_iload_n hx hb dX0_guessBehind_5 rfl (lv_at hl 2 rfl) ?_
  refine lv_iconst (v := 4) hx hb dX0_guessBehind_6 (by decide) ?_
  refine lv_iand hx hb dX0_guessBehind_7 ?_
  refine lv_if_eq (tgt := 15) hx hb dX0_guessBehind_8 (by decide) (fun g_9 => ?_) (fun g_9 => ?_)
  · rw [if_pos g_9] at hf
    exact b15 y8 _ H locs ls hM hS (lv_sub hl [1, 2, 3, 0] rfl) hf
  · rw [if_neg g_9] at hf
    refine lv_iload_n hx hb dX0_guessBehind_11 rfl (lv_at hl 0 rfl) ?_
    refine lv_iload_n hx hb dX0_guessBehind_12 rfl (lv_at hl 3 rfl) ?_
    refine lv_iadd hx hb dX0_guessBehind_13 ?_
    obtain ⟨y10, ey10, hf⟩ := nb_e hf
    refine s_nm ey10 ?_
    refine lv_istore_n (lv' := [(3, .int y10), (0, .ref a0), (1, .int p1), (2, .int p2)]) hx hb dX0_guessBehind_14 rfl hl (by decide) rfl (fun ls hl => ?_)
    exact b15 y10 _ H locs ls hM hS (lv_sub hl [1, 2, 3, 0] rfl) hf
def f_X8_distance (p0 : Int32) (p1 : Int32) (M : Mem) : Option Int32 := if p1 ≤ p0 then (some (p0 - p1)) else (some (p1 - p0))
set_option maxHeartbeats 4000000 in
set_option maxRecDepth 100000 in
theorem k_X8_distance (G : Gt) (hG : gOK G) (l : Launch) (p0 : Int32) (p1 : Int32) (M : Mem) {r : Int32} (hf : f_X8_distance p0 p1 M = some r) : Kc G l yX8_distance cX8_distance 2 (some .int) ({ frames := 0, cells := 0, slots := 0, locals := 0 } : Room) [.int p0, .int p1] M (some (.int r)) M := by
  refine start (by decide) (Nat.le_of_ble_eq_true rfl) ?_
  intro p e s m args below meth c ls hx hb hr hown hml hlocks hts hV hM hl
  have hown : s.vm.findClass "FoldedVoices" = some m.cls := hown
  have hK := hG.1.moved hV
  have hS : va_S (gA G) s.heap s.heap [] := va_S.rf
  have hl : lv_has ls 2 [(0, .int p0), (1, .int p1)] := hl
  have hM0 := hM
  rw [f_X8_distance] at hf
  refine lv_iload_n hx hb dX8_distance_0 rfl (lv_at hl 0 rfl) ?_
  refine lv_iload_n hx hb dX8_distance_1 rfl (lv_at hl 1 rfl) ?_
  refine lv_icmp_ge (tgt := 11) hx hb dX8_distance_2 (by decide) (fun g_1 => ?_) (fun g_1 => ?_)
  · rw [if_pos g_1] at hf
    refine lv_iload_n hx hb dX8_distance_11 rfl (lv_at hl 0 rfl) ?_
    refine lv_iload_n hx hb dX8_distance_12 rfl (lv_at hl 1 rfl) ?_
    refine lv_isub hx hb dX8_distance_13 ?_
    exact ef_ip hx hb hr hlocks hM hS hf dX8_distance_14
  · rw [if_neg g_1] at hf
    refine lv_iload_n hx hb dX8_distance_5 rfl (lv_at hl 1 rfl) ?_
    refine lv_iload_n hx hb dX8_distance_6 rfl (lv_at hl 0 rfl) ?_
    refine lv_isub hx hb dX8_distance_7 ?_
    refine lv_goto (tgt := 14) hx hb dX8_distance_8 (by decide) ?_
    exact ef_ip hx hb hr hlocks hM hS hf dX8_distance_14
def f_X0_nearestCodeFor_b54 (a0 : Nat) (p1 : Int32) (k19 : Int32 → Int32 → Int32 → Mem → Option Int32) (x2 : Int32) (x3 : Int32) (x4 : Int32) (M : Mem) : Option Int32 := nb (x4 + 1) fun y1 => k19 x2 x3 y1 M
def f_X0_nearestCodeFor_b19 (a0 : Nat) (p1 : Int32) : Nat → Int32 → Int32 → Int32 → Mem → Option Int32
  | 0, _, _, _, _ => none
  | n + 1, x2, x3, x4, M => if (16 : Int32) ≤ x4 then (some x2) else (vb (f_X0_step a0 M) fun r4 => vb (f_X0_guessBehind a0 x4 r4 M) fun r6 => vb (f_X8_distance r6 p1 M) fun r8 => if x3 ≤ r8 then (f_X0_nearestCodeFor_b54 a0 p1 (f_X0_nearestCodeFor_b19 a0 p1 n) x2 x3 x4 M) else (f_X0_nearestCodeFor_b54 a0 p1 (f_X0_nearestCodeFor_b19 a0 p1 n) x4 r8 x4 M))
def f_X0_nearestCodeFor (a0 : Nat) (p1 : Int32) (M : Mem) : Option Int32 := vb (f_X0_step a0 M) fun r11 => vb (f_X0_guessBehind a0 0 r11 M) fun r13 => vb (f_X8_distance r13 p1 M) fun r15 => f_X0_nearestCodeFor_b19 a0 p1 lfuel 0 r15 1 M
set_option maxHeartbeats 4000000 in
set_option maxRecDepth 100000 in
theorem k_X0_nearestCodeFor (G : Gt) (hG : gOK G) (l : Launch) (a0 : Nat) (h0 : gK G a0 = 1) (p1 : Int32) (M : Mem) {r : Int32} (hf : f_X0_nearestCodeFor a0 p1 M = some r) : Kc G l yX0_nearestCodeFor cX0_nearestCodeFor 6 (some .int) ({ frames := 2, cells := 0, slots := 0, locals := 45 } : Room) [.ref a0, .int p1] M (some (.int r)) M := by
  refine start (by decide) (Nat.le_of_ble_eq_true rfl) ?_
  intro p e s m args below meth c ls hx hb hr hown hml hlocks hts hV hM hl
  have hown : s.vm.findClass "FoldedVoices$End" = some m.cls := hown
  have hK := hG.1.moved hV
  have hS : va_S (gA G) s.heap s.heap [] := va_S.rf
  have hl : lv_has ls 6 [(0, .ref a0), (1, .int p1)] := hl
  have hM0 := hM
  have b54 : ∀ (k19 : Int32 → Int32 → Int32 → Mem → Option Int32), (∀ (x2 : Int32) (x3 : Int32) (x4 : Int32) (M : Mem) (H : Heap) (locs : List Loc) (ls : Array Slot), Mh G M H → va_S (gA G) s.heap H locs → lv_has ls 6 [(0, .ref a0), (1, .int p1), (2, .int x2), (3, .int x3), (4, .int x4)] → k19 x2 x3 x4 M = some r → W p l e ({ frames := 2, cells := 0, slots := 0, locals := 45 } : Room) s m args below meth c H locs 0 0 (MQ below (QV G (some (.int r)) M) args s 0 0 (gA G)) (F0 m 19 ls [])) → ∀ (x2 : Int32) (x3 : Int32) (x4 : Int32) (M : Mem) (H : Heap) (locs : List Loc) (ls : Array Slot), Mh G M H → va_S (gA G) s.heap H locs → lv_has ls 6 [(0, .ref a0), (1, .int p1), (2, .int x2), (3, .int x3), (4, .int x4)] → f_X0_nearestCodeFor_b54 a0 p1 k19 x2 x3 x4 M = some r → W p l e ({ frames := 2, cells := 0, slots := 0, locals := 45 } : Room) s m args below meth c H locs 0 0 (MQ below (QV G (some (.int r)) M) args s 0 0 (gA G)) (F0 m 54 ls []) := by
    intro k19 hk19
    intro x2 x3 x4 M H locs ls hM hS hl hf
    rw [f_X0_nearestCodeFor_b54] at hf
    obtain ⟨y1, ey1, hf⟩ := nb_e hf
    refine lv_iinc (v := y1) (lv' := [(4, .int y1), (0, .ref a0), (1, .int p1), (2, .int x2), (3, .int x3)]) hx hb dX0_nearestCodeFor_54 hl (k := 4) rfl (by rw [← ey1]; rfl) (by decide) rfl (fun ls hl => ?_)
    refine lv_goto (tgt := 19) hx hb dX0_nearestCodeFor_57 (by decide) ?_
    exact hk19 x2 x3 y1 _ H locs ls hM hS (lv_sub hl [1, 2, 3, 4, 0] rfl) hf
  have b19 : ∀ (n : Nat), ∀ (x2 : Int32) (x3 : Int32) (x4 : Int32) (M : Mem) (H : Heap) (locs : List Loc) (ls : Array Slot), Mh G M H → va_S (gA G) s.heap H locs → lv_has ls 6 [(0, .ref a0), (1, .int p1), (2, .int x2), (3, .int x3), (4, .int x4)] → f_X0_nearestCodeFor_b19 a0 p1 n x2 x3 x4 M = some r → W p l e ({ frames := 2, cells := 0, slots := 0, locals := 45 } : Room) s m args below meth c H locs 0 0 (MQ below (QV G (some (.int r)) M) args s 0 0 (gA G)) (F0 m 19 ls []) := by
    intro n
    induction n with
    | zero =>
      intro x2 x3 x4 M H locs ls hM hS hl hf
      rw [f_X0_nearestCodeFor_b19] at hf
      cases hf
    | succ n ih =>
      intro x2 x3 x4 M H locs ls hM hS hl hf
      rw [f_X0_nearestCodeFor_b19] at hf
      refine lv_iload hx hb dX0_nearestCodeFor_19 (lv_at hl 4 rfl) ?_
      refine lv_bipush (v := 16) hx hb dX0_nearestCodeFor_21 (by decide) ?_
      refine lv_icmp_ge (tgt := 60) hx hb dX0_nearestCodeFor_23 (by decide) (fun g_2 => ?_) (fun g_2 => ?_)
      · rw [if_pos g_2] at hf
        refine lv_iload_n hx hb dX0_nearestCodeFor_60 rfl (lv_at hl 2 rfl) ?_
        exact ef_ip hx hb hr hlocks hM hS hf dX0_nearestCodeFor_61
      · rw [if_neg g_2] at hf
        refine lv_aload_n hx hb dX0_nearestCodeFor_26 rfl (lv_at hl 0 rfl) ?_
        refine lv_iload hx hb dX0_nearestCodeFor_27 (lv_at hl 4 rfl) ?_
        refine lv_aload_n hx hb dX0_nearestCodeFor_29 rfl (lv_at hl 0 rfl) ?_
        obtain ⟨r4, e_3, hf⟩ := vb_e hf
        refine c_Vi hx hb hml hown hts hV hK hM hS (As := []) (rest := [.int x4, .ref a0]) (k_X0_step G hG l a0 h0 M e_3) w_X0_step (tk_419 hts) (c_1 h0) rfl rfl ⟨⟨rfl, rfl⟩, Nat.le_of_ble_eq_true rfl, Nat.le_of_ble_eq_true rfl⟩ ⟨Nat.zero_le _, Nat.zero_le _⟩ rfl hl.1 rfl (Nat.le_of_ble_eq_true rfl) dX0_nearestCodeFor_30 (fun H locs hM hS => ?_)
        obtain ⟨r6, e_5, hf⟩ := vb_e hf
        refine c_Vi hx hb hml hown hts hV hK hM hS (As := [.int x4, .int r4]) (rest := []) (k_X0_guessBehind G hG l a0 h0 x4 r4 M e_5) w_X0_guessBehind (tk_420 hts) (c_1 h0) rfl rfl ⟨⟨rfl, rfl⟩, Nat.le_of_ble_eq_true rfl, Nat.le_of_ble_eq_true rfl⟩ ⟨Nat.zero_le _, Nat.zero_le _⟩ rfl hl.1 rfl (Nat.le_of_ble_eq_true rfl) dX0_nearestCodeFor_33 (fun H locs hM hS => ?_)
        refine lv_iload_n hx hb dX0_nearestCodeFor_36 rfl (lv_at hl 1 rfl) ?_
        obtain ⟨r8, e_7, hf⟩ := vb_e hf
        refine c_SNi hx hb hml hown hts hV hM hS (As := [.int r6, .int p1]) (rest := []) (k_X8_distance G hG l r6 p1 M e_7) w_X8_distance (tk_632 hts) ⟨⟨rfl, rfl⟩, Nat.le_of_ble_eq_true rfl, Nat.le_of_ble_eq_true rfl⟩ ⟨Nat.zero_le _, Nat.zero_le _⟩ rfl hl.1 rfl (Nat.le_of_ble_eq_true rfl) dX0_nearestCodeFor_37 (fun H locs hM hS => ?_)
        refine lv_istore (lv' := [(5, .int r8), (0, .ref a0), (1, .int p1), (2, .int x2), (3, .int x3), (4, .int x4)]) hx hb dX0_nearestCodeFor_40 hl (by decide) rfl (fun ls hl => ?_)
        refine lv_iload hx hb dX0_nearestCodeFor_42 (lv_at hl 0 rfl) ?_
        refine lv_iload_n hx hb dX0_nearestCodeFor_44 rfl (lv_at hl 4 rfl) ?_
        refine lv_icmp_ge (tgt := 54) hx hb dX0_nearestCodeFor_45 (by decide) (fun g_9 => ?_) (fun g_9 => ?_)
        · rw [if_pos g_9] at hf
          exact b54 _ ih x2 x3 x4 _ H locs ls hM hS (lv_sub hl [1, 2, 3, 4, 5] rfl) hf
        · rw [if_neg g_9] at hf
          refine lv_iload hx hb dX0_nearestCodeFor_48 (lv_at hl 0 rfl) ?_
          refine lv_istore_n (lv' := [(3, .int r8), (5, .int r8), (0, .ref a0), (1, .int p1), (2, .int x2), (4, .int x4)]) hx hb dX0_nearestCodeFor_50 rfl hl (by decide) rfl (fun ls hl => ?_)
          refine lv_iload hx hb dX0_nearestCodeFor_51 (lv_at hl 5 rfl) ?_
          refine lv_istore_n (lv' := [(2, .int x4), (3, .int r8), (5, .int r8), (0, .ref a0), (1, .int p1), (4, .int x4)]) hx hb dX0_nearestCodeFor_53 rfl hl (by decide) rfl (fun ls hl => ?_)
          exact b54 _ ih x4 r8 x4 _ H locs ls hM hS (lv_sub hl [3, 4, 0, 1, 5] rfl) hf
  rw [f_X0_nearestCodeFor] at hf
  obtain ⟨H, hHe⟩ : ∃ H, H = s.heap := ⟨_, rfl⟩
  obtain ⟨locs, hLe⟩ : ∃ L : List Loc, L = [] := ⟨_, rfl⟩
  rw [← hHe] at hM
  have hS : va_S (gA G) s.heap H locs := by rw [hHe, hLe]; exact va_S.rf
  suffices hW : W p l e ({ frames := 2, cells := 0, slots := 0, locals := 45 } : Room) s m args below meth c H locs 0 0 (MQ below (QV G (some (.int r)) M) args s 0 0 (gA G)) (F0 m 0 ls []) by rw [hHe, hLe] at hW; exact hW
  refine lv_iconst (v := 0) hx hb dX0_nearestCodeFor_0 (by decide) ?_
  refine lv_istore_n (lv' := [(2, .int 0), (0, .ref a0), (1, .int p1)]) hx hb dX0_nearestCodeFor_1 rfl hl (by decide) rfl (fun ls hl => ?_)
  refine lv_aload_n hx hb dX0_nearestCodeFor_2 rfl (lv_at hl 1 rfl) ?_
  refine lv_iconst (v := 0) hx hb dX0_nearestCodeFor_3 (by decide) ?_
  refine lv_aload_n hx hb dX0_nearestCodeFor_4 rfl (lv_at hl 1 rfl) ?_
  obtain ⟨r11, e_10, hf⟩ := vb_e hf
  refine c_Vi hx hb hml hown hts hV hK hM hS (As := []) (rest := [.int 0, .ref a0]) (k_X0_step G hG l a0 h0 M e_10) w_X0_step (tk_419 hts) (c_1 h0) rfl rfl ⟨⟨rfl, rfl⟩, Nat.le_of_ble_eq_true rfl, Nat.le_of_ble_eq_true rfl⟩ ⟨Nat.zero_le _, Nat.zero_le _⟩ rfl hl.1 rfl (Nat.le_of_ble_eq_true rfl) dX0_nearestCodeFor_5 (fun H locs hM hS => ?_)
  obtain ⟨r13, e_12, hf⟩ := vb_e hf
  refine c_Vi hx hb hml hown hts hV hK hM hS (As := [.int 0, .int r11]) (rest := []) (k_X0_guessBehind G hG l a0 h0 0 r11 M e_12) w_X0_guessBehind (tk_420 hts) (c_1 h0) rfl rfl ⟨⟨rfl, rfl⟩, Nat.le_of_ble_eq_true rfl, Nat.le_of_ble_eq_true rfl⟩ ⟨Nat.zero_le _, Nat.zero_le _⟩ rfl hl.1 rfl (Nat.le_of_ble_eq_true rfl) dX0_nearestCodeFor_8 (fun H locs hM hS => ?_)
  refine lv_iload_n hx hb dX0_nearestCodeFor_11 rfl (lv_at hl 2 rfl) ?_
  obtain ⟨r15, e_14, hf⟩ := vb_e hf
  refine c_SNi hx hb hml hown hts hV hM hS (As := [.int r13, .int p1]) (rest := []) (k_X8_distance G hG l r13 p1 M e_14) w_X8_distance (tk_632 hts) ⟨⟨rfl, rfl⟩, Nat.le_of_ble_eq_true rfl, Nat.le_of_ble_eq_true rfl⟩ ⟨Nat.zero_le _, Nat.zero_le _⟩ rfl hl.1 rfl (Nat.le_of_ble_eq_true rfl) dX0_nearestCodeFor_12 (fun H locs hM hS => ?_)
  refine lv_istore_n (lv' := [(3, .int r15), (2, .int 0), (0, .ref a0), (1, .int p1)]) hx hb dX0_nearestCodeFor_15 rfl hl (by decide) rfl (fun ls hl => ?_)
  refine lv_iconst (v := 1) hx hb dX0_nearestCodeFor_16 (by decide) ?_
  refine lv_istore (lv' := [(4, .int 1), (3, .int r15), (2, .int 0), (0, .ref a0), (1, .int p1)]) hx hb dX0_nearestCodeFor_17 hl (by decide) rfl (fun ls hl => ?_)
  exact b19 _ 0 r15 1 _ H locs ls hM hS (lv_sub hl [3, 4, 2, 1, 0] rfl) hf
def f_X0_follow_b32 (a0 : Nat) (p1 : Int32) (xs0 : Int32) (M : Mem) : Option Mem := nb (if 24 < ((mI M a0 1) + xs0) then 24 else ((mI M a0 1) + xs0)) fun y1 => nb (if 0 < y1 then y1 else 0) fun y2 => nb (sI M a0 1 y2) fun M3 => some M3
def f_X0_follow (a0 : Nat) (p1 : Int32) (M : Mem) : Option Mem := vb (f_X0_step a0 M) fun r5 => vb (f_X0_guessBehind a0 p1 r5 M) fun r7 => nb (sI M a0 0 r7) fun M8 => nb (p1 &&& 7) fun y9 => if (4 : Int32) ≤ y9 then (f_X0_follow_b32 a0 p1 ((2 : Int32) * (y9 - 3)) M8) else (f_X0_follow_b32 a0 p1 (-1) M8)
set_option maxHeartbeats 4000000 in
set_option maxRecDepth 100000 in
theorem k_X0_follow (G : Gt) (hG : gOK G) (l : Launch) (a0 : Nat) (h0 : gK G a0 = 1) (p1 : Int32) (M : Mem) {M' : Mem} (hf : f_X0_follow a0 p1 M = some M') : Kc G l yX0_follow cX0_follow 4 none ({ frames := 2, cells := 0, slots := 0, locals := 45 } : Room) [.ref a0, .int p1] M none M' := by
  refine start (by decide) (Nat.le_of_ble_eq_true rfl) ?_
  intro p e s m args below meth c ls hx hb hr hown hml hlocks hts hV hM hl
  have hown : s.vm.findClass "FoldedVoices$End" = some m.cls := hown
  have hK := hG.1.moved hV
  have hS : va_S (gA G) s.heap s.heap [] := va_S.rf
  have hl : lv_has ls 4 [(0, .ref a0), (1, .int p1)] := hl
  have hM0 := hM
  have b32 : ∀ (xs0 : Int32) (M : Mem) (H : Heap) (locs : List Loc) (ls : Array Slot), Mh G M H → va_S (gA G) s.heap H locs → lv_has ls 4 [(0, .ref a0), (1, .int p1)] → f_X0_follow_b32 a0 p1 xs0 M = some M' → W p l e ({ frames := 2, cells := 0, slots := 0, locals := 45 } : Room) s m args below meth c H locs 0 0 (MQ below (QV G none M') args s 0 0 (gA G)) (F0 m 32 ls [.int xs0]) := by
    intro xs0 M H locs ls hM hS hl hf
    rw [f_X0_follow_b32] at hf
    refine lv_istore_n (lv' := [(3, .int xs0), (0, .ref a0), (1, .int p1)]) hx hb dX0_follow_32 rfl hl (by decide) rfl (fun ls hl => ?_)
    refine lv_aload_n hx hb dX0_follow_33 rfl (lv_at hl 1 rfl) ?_
    refine lv_iconst (v := 0) hx hb dX0_follow_34 (by decide) ?_
    refine lv_aload_n hx hb dX0_follow_35 rfl (lv_at hl 1 rfl) ?_
    refine s_get hx hb (lay_0 hts) hown hK hM (c_1 h0) rfl 1 (by decide) rfl rfl (tk_67 hts) dX0_follow_36 ?_
    refine lv_iload_n hx hb dX0_follow_39 rfl (lv_at hl 0 rfl) ?_
    refine lv_iadd hx hb dX0_follow_40 ?_
    refine lv_bipush (v := 24) hx hb dX0_follow_41 (by decide) ?_
    refine va_mmin hx hb (hml.trans hl.1.symm) hown (tk_424 hts) (tk_425 hts) (tk_14 hts) (tk_426 hts) (Nat.le_of_ble_eq_true rfl) (Nat.le_of_ble_eq_true rfl) (Nat.zero_le _) (Nat.zero_le _) dX0_follow_43 ?_
    obtain ⟨y1, ey1, hf⟩ := nb_e hf
    refine s_nm ey1 ?_
    refine va_mmax hx hb (hml.trans hl.1.symm) hown (tk_427 hts) (tk_428 hts) (tk_14 hts) (tk_429 hts) (Nat.le_of_ble_eq_true rfl) (Nat.le_of_ble_eq_true rfl) (Nat.zero_le _) (Nat.zero_le _) dX0_follow_46 ?_
    obtain ⟨y2, ey2, hf⟩ := nb_e hf
    refine s_nm ey2 ?_
    obtain ⟨M3, eM3, hf⟩ := nb_e hf
    refine s_put tyX0 hx hb (lay_0 hts) tyX0_ok nmX0 hown hK hM hS (ky_b hG h0) (c_1 h0) rfl 1 (by decide) rfl rfl rfl (Nat.le_of_ble_eq_true rfl) (cp_0_1 h0) (fun _ h9 => cel_sI _ h9) hM.2.2.sI rfl (tk_67 hts) dX0_follow_49 (fun H locs hM hS => ?_)
    rw [eM3] at hM
    exact ef_v hx hb hr hlocks hM hS hf dX0_follow_52
  rw [f_X0_follow] at hf
  obtain ⟨H, hHe⟩ : ∃ H, H = s.heap := ⟨_, rfl⟩
  obtain ⟨locs, hLe⟩ : ∃ L : List Loc, L = [] := ⟨_, rfl⟩
  rw [← hHe] at hM
  have hS : va_S (gA G) s.heap H locs := by rw [hHe, hLe]; exact va_S.rf
  suffices hW : W p l e ({ frames := 2, cells := 0, slots := 0, locals := 45 } : Room) s m args below meth c H locs 0 0 (MQ below (QV G none M') args s 0 0 (gA G)) (F0 m 0 ls []) by rw [hHe, hLe] at hW; exact hW
  refine lv_aload_n hx hb dX0_follow_0 rfl (lv_at hl 0 rfl) ?_
  refine lv_aload_n hx hb dX0_follow_1 rfl (lv_at hl 0 rfl) ?_
  refine lv_iload_n hx hb dX0_follow_2 rfl (lv_at hl 1 rfl) ?_
  refine lv_aload_n hx hb dX0_follow_3 rfl (lv_at hl 0 rfl) ?_
  obtain ⟨r5, e_4, hf⟩ := vb_e hf
  refine c_Vi hx hb hml hown hts hV hK hM hS (As := []) (rest := [.int p1, .ref a0, .ref a0]) (k_X0_step G hG l a0 h0 M e_4) w_X0_step (tk_419 hts) (c_1 h0) rfl rfl ⟨⟨rfl, rfl⟩, Nat.le_of_ble_eq_true rfl, Nat.le_of_ble_eq_true rfl⟩ ⟨Nat.zero_le _, Nat.zero_le _⟩ rfl hl.1 rfl (Nat.le_of_ble_eq_true rfl) dX0_follow_4 (fun H locs hM hS => ?_)
  obtain ⟨r7, e_6, hf⟩ := vb_e hf
  refine c_Vi hx hb hml hown hts hV hK hM hS (As := [.int p1, .int r5]) (rest := [.ref a0]) (k_X0_guessBehind G hG l a0 h0 p1 r5 M e_6) w_X0_guessBehind (tk_420 hts) (c_1 h0) rfl rfl ⟨⟨rfl, rfl⟩, Nat.le_of_ble_eq_true rfl, Nat.le_of_ble_eq_true rfl⟩ ⟨Nat.zero_le _, Nat.zero_le _⟩ rfl hl.1 rfl (Nat.le_of_ble_eq_true rfl) dX0_follow_7 (fun H locs hM hS => ?_)
  obtain ⟨M8, eM8, hf⟩ := nb_e hf
  refine s_put tyX0 hx hb (lay_0 hts) tyX0_ok nmX0 hown hK hM hS (ky_b hG h0) (c_1 h0) rfl 0 (by decide) rfl rfl rfl (Nat.le_of_ble_eq_true rfl) (cp_0_0 h0) (fun _ h9 => cel_sI _ h9) hM.2.2.sI rfl (tk_62 hts) dX0_follow_10 (fun H locs hM hS => ?_)
  rw [eM8] at hM
  refine lv_iload_n hx hb dX0_follow_13 rfl (lv_at hl 1 rfl) ?_
  refine lv_bipush (v := 7) hx hb dX0_follow_14 (by decide) ?_
  refine lv_iand hx hb dX0_follow_16 ?_
  obtain ⟨y9, ey9, hf⟩ := nb_e hf
  refine s_nm ey9 ?_
  refine lv_istore_n (lv' := [(2, .int y9), (0, .ref a0), (1, .int p1)]) hx hb dX0_follow_17 rfl hl (by decide) rfl (fun ls hl => ?_)
  refine lv_iload_n hx hb dX0_follow_18 rfl (lv_at hl 0 rfl) ?_
  refine lv_iconst (v := 4) hx hb dX0_follow_19 (by decide) ?_
  refine lv_icmp_ge (tgt := 27) hx hb dX0_follow_20 (by decide) (fun g_10 => ?_) (fun g_10 => ?_)
  · rw [if_pos g_10] at hf
    refine lv_iconst (v := 2) hx hb dX0_follow_27 (by decide) ?_
    refine lv_iload_n hx hb dX0_follow_28 rfl (lv_at hl 0 rfl) ?_
    refine lv_iconst (v := 3) hx hb dX0_follow_29 (by decide) ?_
    refine lv_isub hx hb dX0_follow_30 ?_
    refine lv_imul hx hb dX0_follow_31 ?_
    exact b32 ((2 : Int32) * (y9 - 3)) _ H locs ls hM hS (lv_sub hl [1, 2] rfl) hf
  · rw [if_neg g_10] at hf
    refine lv_iconst (v := (-1)) hx hb dX0_follow_23 (by decide) ?_
    refine lv_goto (tgt := 32) hx hb dX0_follow_24 (by decide) ?_
    exact b32 (-1) _ H locs ls hM hS (lv_sub hl [1, 2] rfl) hf
def f_X2_codeAt (a0 : Nat) (p1 : Int32) (M : Mem) : Option Int32 := if p1 < 0 then (some 0) else (if (8 : Int32) ≤ p1 then (some 0) else (gd (ix p1 8) <| some (mI M (a0 + 1) p1.toNatClampNeg)))
set_option maxHeartbeats 4000000 in
set_option maxRecDepth 100000 in
theorem k_X2_codeAt (G : Gt) (hG : gOK G) (l : Launch) (a0 : Nat) (h0 : gK G a0 = 3) (p1 : Int32) (M : Mem) {r : Int32} (hf : f_X2_codeAt a0 p1 M = some r) : Kc G l yX2_codeAt cX2_codeAt 2 (some .int) ({ frames := 0, cells := 0, slots := 0, locals := 0 } : Room) [.ref a0, .int p1] M (some (.int r)) M := by
  refine start (by decide) (Nat.le_of_ble_eq_true rfl) ?_
  intro p e s m args below meth c ls hx hb hr hown hml hlocks hts hV hM hl
  have hown : s.vm.findClass "FoldedVoices$Packet" = some m.cls := hown
  have hK := hG.1.moved hV
  have hS : va_S (gA G) s.heap s.heap [] := va_S.rf
  have hl : lv_has ls 2 [(0, .ref a0), (1, .int p1)] := hl
  have hM0 := hM
  rw [f_X2_codeAt] at hf
  refine lv_iload_n hx hb dX2_codeAt_0 rfl (lv_at hl 1 rfl) ?_
  refine lv_if_lt (tgt := 22) hx hb dX2_codeAt_1 (by decide) (fun g_1 => ?_) (fun g_1 => ?_)
  · rw [if_pos g_1] at hf
    refine lv_iconst (v := 0) hx hb dX2_codeAt_22 (by decide) ?_
    exact ef_ip hx hb hr hlocks hM hS hf dX2_codeAt_23
  · rw [if_neg g_1] at hf
    refine lv_iload_n hx hb dX2_codeAt_4 rfl (lv_at hl 1 rfl) ?_
    refine lv_aload_n hx hb dX2_codeAt_5 rfl (lv_at hl 0 rfl) ?_
    refine s_get hx hb (lay_2 hts) hown hK hM (c_3 h0) rfl 0 (by decide) rfl rfl (tk_84 hts) dX2_codeAt_6 ?_
    refine s_alen 0 hx hb hK hM (cel_ia (ky_3_0 hG h0) (n := 8) (by decide)) rfl (v := 8) (show Int32.ofNat 8 = 8 from by decide) dX2_codeAt_9 ?_
    refine lv_icmp_ge (tgt := 22) hx hb dX2_codeAt_10 (by decide) (fun g_2 => ?_) (fun g_2 => ?_)
    · rw [if_pos g_2] at hf
      refine lv_iconst (v := 0) hx hb dX2_codeAt_22 (by decide) ?_
      exact ef_ip hx hb hr hlocks hM hS hf dX2_codeAt_23
    · rw [if_neg g_2] at hf
      refine lv_aload_n hx hb dX2_codeAt_13 rfl (lv_at hl 0 rfl) ?_
      refine s_get hx hb (lay_2 hts) hown hK hM (c_3 h0) rfl 0 (by decide) rfl rfl (tk_84 hts) dX2_codeAt_14 ?_
      refine lv_iload_n hx hb dX2_codeAt_17 rfl (lv_at hl 1 rfl) ?_
      obtain ⟨h_3, hf⟩ := gd_e hf
      refine s_iald 8 hx hb hK hM (ky_3_0 hG h0) (by decide) h_3 dX2_codeAt_18 ?_
      refine lv_goto (tgt := 23) hx hb dX2_codeAt_19 (by decide) ?_
      exact ef_ip hx hb hr hlocks hM hS hf dX2_codeAt_23
def f_X0_followAll_b2 (a0 : Nat) (a1 : Nat) : Nat → Int32 → Mem → Option Mem
  | 0, _, _ => none
  | n + 1, x2, M => if (mI M a1 2) ≤ x2 then (some M) else (vb (f_X2_codeAt a1 x2 M) fun r3 => vb (f_X0_follow a0 r3 M) fun M5 => nb (x2 + 1) fun y6 => f_X0_followAll_b2 a0 a1 n y6 M5)
def f_X0_followAll (a0 : Nat) (a1 : Nat) (M : Mem) : Option Mem := f_X0_followAll_b2 a0 a1 lfuel 0 M
set_option maxHeartbeats 4000000 in
set_option maxRecDepth 100000 in
theorem k_X0_followAll (G : Gt) (hG : gOK G) (l : Launch) (a0 : Nat) (h0 : gK G a0 = 1) (a1 : Nat) (h1 : gK G a1 = 3) (M : Mem) {M' : Mem} (hf : f_X0_followAll a0 a1 M = some M') : Kc G l yX0_followAll cX0_followAll 3 none ({ frames := 3, cells := 0, slots := 0, locals := 68 } : Room) [.ref a0, .ref a1] M none M' := by
  refine start (by decide) (Nat.le_of_ble_eq_true rfl) ?_
  intro p e s m args below meth c ls hx hb hr hown hml hlocks hts hV hM hl
  have hown : s.vm.findClass "FoldedVoices$End" = some m.cls := hown
  have hK := hG.1.moved hV
  have hS : va_S (gA G) s.heap s.heap [] := va_S.rf
  have hl : lv_has ls 3 [(0, .ref a0), (1, .ref a1)] := hl
  have hM0 := hM
  have b2 : ∀ (n : Nat), ∀ (x2 : Int32) (M : Mem) (H : Heap) (locs : List Loc) (ls : Array Slot), Mh G M H → va_S (gA G) s.heap H locs → lv_has ls 3 [(0, .ref a0), (1, .ref a1), (2, .int x2)] → f_X0_followAll_b2 a0 a1 n x2 M = some M' → W p l e ({ frames := 3, cells := 0, slots := 0, locals := 68 } : Room) s m args below meth c H locs 0 0 (MQ below (QV G none M') args s 0 0 (gA G)) (F0 m 2 ls []) := by
    intro n
    induction n with
    | zero =>
      intro x2 M H locs ls hM hS hl hf
      rw [f_X0_followAll_b2] at hf
      cases hf
    | succ n ih =>
      intro x2 M H locs ls hM hS hl hf
      rw [f_X0_followAll_b2] at hf
      refine lv_iload_n hx hb dX0_followAll_2 rfl (lv_at hl 2 rfl) ?_
      refine lv_aload_n hx hb dX0_followAll_3 rfl (lv_at hl 1 rfl) ?_
      refine s_getN hx hb (lay_2 hts) hown hK hM (c_3 h1) rfl 2 (by decide) rfl rfl (tk_91 hts) dX0_followAll_4 ?_
      refine lv_icmp_ge (tgt := 25) hx hb dX0_followAll_7 (by decide) (fun g_1 => ?_) (fun g_1 => ?_)
      · rw [if_pos g_1] at hf
        exact ef_v hx hb hr hlocks hM hS hf dX0_followAll_25
      · rw [if_neg g_1] at hf
        refine lv_aload_n hx hb dX0_followAll_10 rfl (lv_at hl 0 rfl) ?_
        refine lv_aload_n hx hb dX0_followAll_11 rfl (lv_at hl 1 rfl) ?_
        refine lv_iload_n hx hb dX0_followAll_12 rfl (lv_at hl 2 rfl) ?_
        obtain ⟨r3, e_2, hf⟩ := vb_e hf
        refine c_Vi hx hb hml hown hts hV hK hM hS (As := [.int x2]) (rest := [.ref a0]) (k_X2_codeAt G hG l a1 h1 x2 M e_2) w_X2_codeAt (tk_434 hts) (c_3 h1) rfl rfl ⟨⟨rfl, rfl⟩, Nat.le_of_ble_eq_true rfl, Nat.le_of_ble_eq_true rfl⟩ ⟨Nat.zero_le _, Nat.zero_le _⟩ rfl hl.1 rfl (Nat.le_of_ble_eq_true rfl) dX0_followAll_13 (fun H locs hM hS => ?_)
        obtain ⟨M5, e_4, hf⟩ := vb_e hf
        refine c_Vv hx hb hml hown hts hV hK hM hS (As := [.int r3]) (rest := []) (k_X0_follow G hG l a0 h0 r3 M e_4) w_X0_follow (tk_438 hts) (c_1 h0) rfl rfl ⟨⟨rfl, rfl⟩, Nat.le_of_ble_eq_true rfl, Nat.le_of_ble_eq_true rfl⟩ ⟨Nat.zero_le _, Nat.zero_le _⟩ rfl hl.1 rfl (Nat.le_of_ble_eq_true rfl) dX0_followAll_16 (fun H locs hM hS => ?_)
        obtain ⟨y6, ey6, hf⟩ := nb_e hf
        refine lv_iinc (v := y6) (lv' := [(2, .int y6), (0, .ref a0), (1, .ref a1)]) hx hb dX0_followAll_19 hl (k := 2) rfl (by rw [← ey6]; rfl) (by decide) rfl (fun ls hl => ?_)
        refine lv_goto (tgt := 2) hx hb dX0_followAll_22 (by decide) ?_
        exact ih y6 _ H locs ls hM hS (lv_sub hl [1, 2, 0] rfl) hf
  rw [f_X0_followAll] at hf
  obtain ⟨H, hHe⟩ : ∃ H, H = s.heap := ⟨_, rfl⟩
  obtain ⟨locs, hLe⟩ : ∃ L : List Loc, L = [] := ⟨_, rfl⟩
  rw [← hHe] at hM
  have hS : va_S (gA G) s.heap H locs := by rw [hHe, hLe]; exact va_S.rf
  suffices hW : W p l e ({ frames := 3, cells := 0, slots := 0, locals := 68 } : Room) s m args below meth c H locs 0 0 (MQ below (QV G none M') args s 0 0 (gA G)) (F0 m 0 ls []) by rw [hHe, hLe] at hW; exact hW
  refine lv_iconst (v := 0) hx hb dX0_followAll_0 (by decide) ?_
  refine lv_istore_n (lv' := [(2, .int 0), (0, .ref a0), (1, .ref a1)]) hx hb dX0_followAll_1 rfl hl (by decide) rfl (fun ls hl => ?_)
  exact b2 _ 0 _ H locs ls hM hS (lv_sub hl [1, 2, 0] rfl) hf
def f_X0_fade (a0 : Nat) (M : Mem) : Option Mem := nb (sI M a0 0 (((3 : Int32) * (mI M a0 0)) / 4)) fun M1 => some M1
set_option maxHeartbeats 4000000 in
set_option maxRecDepth 100000 in
theorem k_X0_fade (G : Gt) (hG : gOK G) (l : Launch) (a0 : Nat) (h0 : gK G a0 = 1) (M : Mem) {M' : Mem} (hf : f_X0_fade a0 M = some M') : Kc G l yX0_fade cX0_fade 1 none ({ frames := 0, cells := 0, slots := 0, locals := 0 } : Room) [.ref a0] M none M' := by
  refine start (by decide) (Nat.le_of_ble_eq_true rfl) ?_
  intro p e s m args below meth c ls hx hb hr hown hml hlocks hts hV hM hl
  have hown : s.vm.findClass "FoldedVoices$End" = some m.cls := hown
  have hK := hG.1.moved hV
  have hS : va_S (gA G) s.heap s.heap [] := va_S.rf
  have hl : lv_has ls 1 [(0, .ref a0)] := hl
  have hM0 := hM
  rw [f_X0_fade] at hf
  refine lv_aload_n hx hb dX0_fade_0 rfl (lv_at hl 0 rfl) ?_
  refine lv_iconst (v := 3) hx hb dX0_fade_1 (by decide) ?_
  refine lv_aload_n hx hb dX0_fade_2 rfl (lv_at hl 0 rfl) ?_
  refine s_get hx hb (lay_0 hts) hown hK hM (c_1 h0) rfl 0 (by decide) rfl rfl (tk_62 hts) dX0_fade_3 ?_
  refine lv_imul hx hb dX0_fade_6 ?_
  refine lv_iconst (v := 4) hx hb dX0_fade_7 (by decide) ?_
  refine lv_idiv hx hb dX0_fade_8 (by decide) ?_
  obtain ⟨M1, eM1, hf⟩ := nb_e hf
  refine s_put tyX0 hx hb (lay_0 hts) tyX0_ok nmX0 hown hK hM hS (ky_b hG h0) (c_1 h0) rfl 0 (by decide) rfl rfl rfl (Nat.le_of_ble_eq_true rfl) (cp_0_0 h0) (fun _ h9 => cel_sI _ h9) hM.2.2.sI rfl (tk_62 hts) dX0_fade_9 (fun H locs hM hS => ?_)
  rw [eM1] at hM
  exact ef_v hx hb hr hlocks hM hS hf dX0_fade_12
def f_X1_copyFrom (a0 : Nat) (a1 : Nat) (M : Mem) : Option Mem := vb (f_X0_copyFrom (a0 + 1) (a1 + 1) M) fun M2 => nb (sI M2 a0 1 (mI M2 a1 1)) fun M3 => nb (sI M3 a0 2 (mI M3 a1 2)) fun M4 => nb (sI M4 a0 3 (mI M4 a1 3)) fun M5 => nb (sI M5 a0 4 (mI M5 a1 4)) fun M6 => nb (sI M6 a0 5 (mI M6 a1 5)) fun M7 => nb (sI M7 a0 6 (mI M7 a1 6)) fun M8 => nb (sI M8 a0 7 (mI M8 a1 7)) fun M9 => nb (sI M9 a0 8 (mI M9 a1 8)) fun M10 => nb (sI M10 a0 9 (mI M10 a1 9)) fun M11 => some M11
set_option maxHeartbeats 4000000 in
set_option maxRecDepth 100000 in
theorem k_X1_copyFrom (G : Gt) (hG : gOK G) (l : Launch) (a0 : Nat) (h0 : gK G a0 = 2) (a1 : Nat) (h1 : gK G a1 = 2) (M : Mem) {M' : Mem} (hf : f_X1_copyFrom a0 a1 M = some M') : Kc G l yX1_copyFrom cX1_copyFrom 2 none ({ frames := 1, cells := 0, slots := 0, locals := 21 } : Room) [.ref a0, .ref a1] M none M' := by
  refine start (by decide) (Nat.le_of_ble_eq_true rfl) ?_
  intro p e s m args below meth c ls hx hb hr hown hml hlocks hts hV hM hl
  have hown : s.vm.findClass "FoldedVoices$HearingEnd" = some m.cls := hown
  have hK := hG.1.moved hV
  have hS : va_S (gA G) s.heap s.heap [] := va_S.rf
  have hl : lv_has ls 2 [(0, .ref a0), (1, .ref a1)] := hl
  have hM0 := hM
  rw [f_X1_copyFrom] at hf
  refine lv_aload_n hx hb dX1_copyFrom_0 rfl (lv_at hl 0 rfl) ?_
  refine s_get hx hb (lay_1 hts) hown hK hM (c_2 h0) rfl 0 (by decide) rfl rfl (tk_168 hts) dX1_copyFrom_1 ?_
  refine lv_aload_n hx hb dX1_copyFrom_4 rfl (lv_at hl 1 rfl) ?_
  refine s_get hx hb (lay_1 hts) hown hK hM (c_2 h1) rfl 0 (by decide) rfl rfl (tk_168 hts) dX1_copyFrom_5 ?_
  obtain ⟨M2, e_1, hf⟩ := vb_e hf
  refine c_Vv hx hb hml hown hts hV hK hM hS (As := [.ref (a1 + 1)]) (rest := []) (k_X0_copyFrom G hG l (a0 + 1) (ky_2_0 hG h0) (a1 + 1) (ky_2_0 hG h1) M e_1) w_X0_copyFrom (tk_522 hts) (c_1 (ky_2_0 hG h0)) rfl rfl ⟨⟨rfl, rfl⟩, Nat.le_of_ble_eq_true rfl, Nat.le_of_ble_eq_true rfl⟩ ⟨Nat.zero_le _, Nat.zero_le _⟩ rfl hl.1 rfl (Nat.le_of_ble_eq_true rfl) dX1_copyFrom_8 (fun H locs hM hS => ?_)
  refine lv_aload_n hx hb dX1_copyFrom_11 rfl (lv_at hl 0 rfl) ?_
  refine lv_aload_n hx hb dX1_copyFrom_12 rfl (lv_at hl 1 rfl) ?_
  refine s_get hx hb (lay_1 hts) hown hK hM (c_2 h1) rfl 1 (by decide) rfl rfl (tk_170 hts) dX1_copyFrom_13 ?_
  obtain ⟨M3, eM3, hf⟩ := nb_e hf
  refine s_put tyX1 hx hb (lay_1 hts) tyX1_ok nmX1 hown hK hM hS (ky_b hG h0) (c_2 h0) rfl 1 (by decide) rfl rfl rfl (Nat.le_of_ble_eq_true rfl) (cp_1_1 h0) (fun _ h9 => cel_sI _ h9) hM.2.2.sI rfl (tk_170 hts) dX1_copyFrom_16 (fun H locs hM hS => ?_)
  rw [eM3] at hM
  refine lv_aload_n hx hb dX1_copyFrom_19 rfl (lv_at hl 0 rfl) ?_
  refine lv_aload_n hx hb dX1_copyFrom_20 rfl (lv_at hl 1 rfl) ?_
  refine s_get hx hb (lay_1 hts) hown hK hM (c_2 h1) rfl 2 (by decide) rfl rfl (tk_172 hts) dX1_copyFrom_21 ?_
  obtain ⟨M4, eM4, hf⟩ := nb_e hf
  refine s_put tyX1 hx hb (lay_1 hts) tyX1_ok nmX1 hown hK hM hS (ky_b hG h0) (c_2 h0) rfl 2 (by decide) rfl rfl rfl (Nat.le_of_ble_eq_true rfl) (cp_1_2 h0) (fun _ h9 => cel_sI _ h9) hM.2.2.sI rfl (tk_172 hts) dX1_copyFrom_24 (fun H locs hM hS => ?_)
  rw [eM4] at hM
  refine lv_aload_n hx hb dX1_copyFrom_27 rfl (lv_at hl 0 rfl) ?_
  refine lv_aload_n hx hb dX1_copyFrom_28 rfl (lv_at hl 1 rfl) ?_
  refine s_get hx hb (lay_1 hts) hown hK hM (c_2 h1) rfl 3 (by decide) rfl rfl (tk_173 hts) dX1_copyFrom_29 ?_
  obtain ⟨M5, eM5, hf⟩ := nb_e hf
  refine s_put tyX1 hx hb (lay_1 hts) tyX1_ok nmX1 hown hK hM hS (ky_b hG h0) (c_2 h0) rfl 3 (by decide) rfl rfl rfl (Nat.le_of_ble_eq_true rfl) (cp_1_3 h0) (fun _ h9 => cel_sI _ h9) hM.2.2.sI rfl (tk_173 hts) dX1_copyFrom_32 (fun H locs hM hS => ?_)
  rw [eM5] at hM
  refine lv_aload_n hx hb dX1_copyFrom_35 rfl (lv_at hl 0 rfl) ?_
  refine lv_aload_n hx hb dX1_copyFrom_36 rfl (lv_at hl 1 rfl) ?_
  refine s_get hx hb (lay_1 hts) hown hK hM (c_2 h1) rfl 4 (by decide) rfl rfl (tk_175 hts) dX1_copyFrom_37 ?_
  obtain ⟨M6, eM6, hf⟩ := nb_e hf
  refine s_put tyX1 hx hb (lay_1 hts) tyX1_ok nmX1 hown hK hM hS (ky_b hG h0) (c_2 h0) rfl 4 (by decide) rfl rfl rfl (Nat.le_of_ble_eq_true rfl) (cp_1_4 h0) (fun _ h9 => cel_sI _ h9) hM.2.2.sI rfl (tk_175 hts) dX1_copyFrom_40 (fun H locs hM hS => ?_)
  rw [eM6] at hM
  refine lv_aload_n hx hb dX1_copyFrom_43 rfl (lv_at hl 0 rfl) ?_
  refine lv_aload_n hx hb dX1_copyFrom_44 rfl (lv_at hl 1 rfl) ?_
  refine s_get hx hb (lay_1 hts) hown hK hM (c_2 h1) rfl 5 (by decide) rfl rfl (tk_177 hts) dX1_copyFrom_45 ?_
  obtain ⟨M7, eM7, hf⟩ := nb_e hf
  refine s_put tyX1 hx hb (lay_1 hts) tyX1_ok nmX1 hown hK hM hS (ky_b hG h0) (c_2 h0) rfl 5 (by decide) rfl rfl rfl (Nat.le_of_ble_eq_true rfl) (cp_1_5 h0) (fun _ h9 => cel_sI _ h9) hM.2.2.sI rfl (tk_177 hts) dX1_copyFrom_48 (fun H locs hM hS => ?_)
  rw [eM7] at hM
  refine lv_aload_n hx hb dX1_copyFrom_51 rfl (lv_at hl 0 rfl) ?_
  refine lv_aload_n hx hb dX1_copyFrom_52 rfl (lv_at hl 1 rfl) ?_
  refine s_get hx hb (lay_1 hts) hown hK hM (c_2 h1) rfl 6 (by decide) rfl rfl (tk_179 hts) dX1_copyFrom_53 ?_
  obtain ⟨M8, eM8, hf⟩ := nb_e hf
  refine s_put tyX1 hx hb (lay_1 hts) tyX1_ok nmX1 hown hK hM hS (ky_b hG h0) (c_2 h0) rfl 6 (by decide) rfl rfl rfl (Nat.le_of_ble_eq_true rfl) (cp_1_6 h0) (fun _ h9 => cel_sI _ h9) hM.2.2.sI rfl (tk_179 hts) dX1_copyFrom_56 (fun H locs hM hS => ?_)
  rw [eM8] at hM
  refine lv_aload_n hx hb dX1_copyFrom_59 rfl (lv_at hl 0 rfl) ?_
  refine lv_aload_n hx hb dX1_copyFrom_60 rfl (lv_at hl 1 rfl) ?_
  refine s_get hx hb (lay_1 hts) hown hK hM (c_2 h1) rfl 7 (by decide) rfl rfl (tk_181 hts) dX1_copyFrom_61 ?_
  obtain ⟨M9, eM9, hf⟩ := nb_e hf
  refine s_put tyX1 hx hb (lay_1 hts) tyX1_ok nmX1 hown hK hM hS (ky_b hG h0) (c_2 h0) rfl 7 (by decide) rfl rfl rfl (Nat.le_of_ble_eq_true rfl) (cp_1_7 h0) (fun _ h9 => cel_sI _ h9) hM.2.2.sI rfl (tk_181 hts) dX1_copyFrom_64 (fun H locs hM hS => ?_)
  rw [eM9] at hM
  refine lv_aload_n hx hb dX1_copyFrom_67 rfl (lv_at hl 0 rfl) ?_
  refine lv_aload_n hx hb dX1_copyFrom_68 rfl (lv_at hl 1 rfl) ?_
  refine s_get hx hb (lay_1 hts) hown hK hM (c_2 h1) rfl 8 (by decide) rfl rfl (tk_182 hts) dX1_copyFrom_69 ?_
  obtain ⟨M10, eM10, hf⟩ := nb_e hf
  refine s_put tyX1 hx hb (lay_1 hts) tyX1_ok nmX1 hown hK hM hS (ky_b hG h0) (c_2 h0) rfl 8 (by decide) rfl rfl rfl (Nat.le_of_ble_eq_true rfl) (cp_1_8 h0) (fun _ h9 => cel_sI _ h9) hM.2.2.sI rfl (tk_182 hts) dX1_copyFrom_72 (fun H locs hM hS => ?_)
  rw [eM10] at hM
  refine lv_aload_n hx hb dX1_copyFrom_75 rfl (lv_at hl 0 rfl) ?_
  refine lv_aload_n hx hb dX1_copyFrom_76 rfl (lv_at hl 1 rfl) ?_
  refine s_get hx hb (lay_1 hts) hown hK hM (c_2 h1) rfl 9 (by decide) rfl rfl (tk_183 hts) dX1_copyFrom_77 ?_
  obtain ⟨M11, eM11, hf⟩ := nb_e hf
  refine s_put tyX1 hx hb (lay_1 hts) tyX1_ok nmX1 hown hK hM hS (ky_b hG h0) (c_2 h0) rfl 9 (by decide) rfl rfl rfl (Nat.le_of_ble_eq_true rfl) (cp_1_9 h0) (fun _ h9 => cel_sI _ h9) hM.2.2.sI rfl (tk_183 hts) dX1_copyFrom_80 (fun H locs hM hS => ?_)
  rw [eM11] at hM
  exact ef_v hx hb hr hlocks hM hS hf dX1_copyFrom_83
def f_X1_moveTo_b28 (a0 : Nat) (a1 : Nat) (M : Mem) : Option Mem := vb (f_X0_copyFrom (a0 + 1) a1 M) fun M2 => some M2
def f_X1_moveTo (a0 : Nat) (a1 : Nat) (M : Mem) : Option Mem := vb (f_X0_isAt (a0 + 1) (mI M a1 0) (mI M a1 1) M) fun r4 => if r4 = 0 then (nb (sI M a0 5 ((mI M a0 5) + 1)) fun M6 => f_X1_moveTo_b28 a0 a1 M6) else (f_X1_moveTo_b28 a0 a1 M)
set_option maxHeartbeats 4000000 in
set_option maxRecDepth 100000 in
theorem k_X1_moveTo (G : Gt) (hG : gOK G) (l : Launch) (a0 : Nat) (h0 : gK G a0 = 2) (a1 : Nat) (h1 : gK G a1 = 1) (M : Mem) {M' : Mem} (hf : f_X1_moveTo a0 a1 M = some M') : Kc G l yX1_moveTo cX1_moveTo 2 none ({ frames := 1, cells := 0, slots := 0, locals := 22 } : Room) [.ref a0, .ref a1] M none M' := by
  refine start (by decide) (Nat.le_of_ble_eq_true rfl) ?_
  intro p e s m args below meth c ls hx hb hr hown hml hlocks hts hV hM hl
  have hown : s.vm.findClass "FoldedVoices$HearingEnd" = some m.cls := hown
  have hK := hG.1.moved hV
  have hS : va_S (gA G) s.heap s.heap [] := va_S.rf
  have hl : lv_has ls 2 [(0, .ref a0), (1, .ref a1)] := hl
  have hM0 := hM
  have b28 : ∀ (M : Mem) (H : Heap) (locs : List Loc) (ls : Array Slot), Mh G M H → va_S (gA G) s.heap H locs → lv_has ls 2 [(0, .ref a0), (1, .ref a1)] → f_X1_moveTo_b28 a0 a1 M = some M' → W p l e ({ frames := 1, cells := 0, slots := 0, locals := 22 } : Room) s m args below meth c H locs 0 0 (MQ below (QV G none M') args s 0 0 (gA G)) (F0 m 28 ls []) := by
    intro M H locs ls hM hS hl hf
    rw [f_X1_moveTo_b28] at hf
    refine lv_aload_n hx hb dX1_moveTo_28 rfl (lv_at hl 0 rfl) ?_
    refine s_get hx hb (lay_1 hts) hown hK hM (c_2 h0) rfl 0 (by decide) rfl rfl (tk_168 hts) dX1_moveTo_29 ?_
    refine lv_aload_n hx hb dX1_moveTo_32 rfl (lv_at hl 1 rfl) ?_
    obtain ⟨M2, e_1, hf⟩ := vb_e hf
    refine c_Vv hx hb hml hown hts hV hK hM hS (As := [.ref a1]) (rest := []) (k_X0_copyFrom G hG l (a0 + 1) (ky_2_0 hG h0) a1 h1 M e_1) w_X0_copyFrom (tk_522 hts) (c_1 (ky_2_0 hG h0)) rfl rfl ⟨⟨rfl, rfl⟩, Nat.le_of_ble_eq_true rfl, Nat.le_of_ble_eq_true rfl⟩ ⟨Nat.zero_le _, Nat.zero_le _⟩ rfl hl.1 rfl (Nat.le_of_ble_eq_true rfl) dX1_moveTo_33 (fun H locs hM hS => ?_)
    exact ef_v hx hb hr hlocks hM hS hf dX1_moveTo_36
  rw [f_X1_moveTo] at hf
  obtain ⟨H, hHe⟩ : ∃ H, H = s.heap := ⟨_, rfl⟩
  obtain ⟨locs, hLe⟩ : ∃ L : List Loc, L = [] := ⟨_, rfl⟩
  rw [← hHe] at hM
  have hS : va_S (gA G) s.heap H locs := by rw [hHe, hLe]; exact va_S.rf
  suffices hW : W p l e ({ frames := 1, cells := 0, slots := 0, locals := 22 } : Room) s m args below meth c H locs 0 0 (MQ below (QV G none M') args s 0 0 (gA G)) (F0 m 0 ls []) by rw [hHe, hLe] at hW; exact hW
  refine lv_aload_n hx hb dX1_moveTo_0 rfl (lv_at hl 0 rfl) ?_
  refine s_get hx hb (lay_1 hts) hown hK hM (c_2 h0) rfl 0 (by decide) rfl rfl (tk_168 hts) dX1_moveTo_1 ?_
  refine lv_aload_n hx hb dX1_moveTo_4 rfl (lv_at hl 1 rfl) ?_
  refine s_getN hx hb (lay_0 hts) hown hK hM (c_1 h1) rfl 0 (by decide) rfl rfl (tk_63 hts) dX1_moveTo_5 ?_
  refine lv_aload_n hx hb dX1_moveTo_8 rfl (lv_at hl 1 rfl) ?_
  refine s_getN hx hb (lay_0 hts) hown hK hM (c_1 h1) rfl 1 (by decide) rfl rfl (tk_68 hts) dX1_moveTo_9 ?_
  obtain ⟨r4, e_3, hf⟩ := vb_e hf
  refine c_Vi hx hb hml hown hts hV hK hM hS (As := [.int (mI M a1 0), .int (mI M a1 1)]) (rest := []) (k_X0_isAt G hG l (a0 + 1) (ky_2_0 hG h0) (mI M a1 0) (mI M a1 1) M e_3) w_X0_isAt (tk_535 hts) (c_1 (ky_2_0 hG h0)) rfl rfl ⟨⟨rfl, rfl⟩, Nat.le_of_ble_eq_true rfl, Nat.le_of_ble_eq_true rfl⟩ ⟨Nat.zero_le _, Nat.zero_le _⟩ rfl hl.1 rfl (Nat.le_of_ble_eq_true rfl) dX1_moveTo_12 (fun H locs hM hS => ?_)
  refine lv_if_ne (tgt := 28) hx hb dX1_moveTo_15 (by decide) (fun g_5 => ?_) (fun g_5 => ?_)
  · rw [if_neg g_5] at hf
    exact b28 _ H locs ls hM hS (lv_sub hl [0, 1] rfl) hf
  · rw [if_pos g_5] at hf
    refine lv_aload_n hx hb dX1_moveTo_18 rfl (lv_at hl 0 rfl) ?_
    refine lv_dup hx hb dX1_moveTo_19 rfl ?_
    refine s_get hx hb (lay_1 hts) hown hK hM (c_2 h0) rfl 5 (by decide) rfl rfl (tk_177 hts) dX1_moveTo_20 ?_
    refine lv_iconst (v := 1) hx hb dX1_moveTo_23 (by decide) ?_
    refine lv_iadd hx hb dX1_moveTo_24 ?_
    obtain ⟨M6, eM6, hf⟩ := nb_e hf
    refine s_put tyX1 hx hb (lay_1 hts) tyX1_ok nmX1 hown hK hM hS (ky_b hG h0) (c_2 h0) rfl 5 (by decide) rfl rfl rfl (Nat.le_of_ble_eq_true rfl) (cp_1_5 h0) (fun _ h9 => cel_sI _ h9) hM.2.2.sI rfl (tk_177 hts) dX1_moveTo_25 (fun H locs hM hS => ?_)
    rw [eM6] at hM
    exact b28 _ H locs ls hM hS (lv_sub hl [0, 1] rfl) hf
def f_X2_meanAt (a0 : Nat) (p1 : Int32) (M : Mem) : Option Int32 := if p1 < 0 then (some 0) else (if (8 : Int32) ≤ p1 then (some 0) else (gd (ix p1 8) <| some (mI M (a0 + 2) p1.toNatClampNeg)))
set_option maxHeartbeats 4000000 in
set_option maxRecDepth 100000 in
theorem k_X2_meanAt (G : Gt) (hG : gOK G) (l : Launch) (a0 : Nat) (h0 : gK G a0 = 3) (p1 : Int32) (M : Mem) {r : Int32} (hf : f_X2_meanAt a0 p1 M = some r) : Kc G l yX2_meanAt cX2_meanAt 2 (some .int) ({ frames := 0, cells := 0, slots := 0, locals := 0 } : Room) [.ref a0, .int p1] M (some (.int r)) M := by
  refine start (by decide) (Nat.le_of_ble_eq_true rfl) ?_
  intro p e s m args below meth c ls hx hb hr hown hml hlocks hts hV hM hl
  have hown : s.vm.findClass "FoldedVoices$Packet" = some m.cls := hown
  have hK := hG.1.moved hV
  have hS : va_S (gA G) s.heap s.heap [] := va_S.rf
  have hl : lv_has ls 2 [(0, .ref a0), (1, .int p1)] := hl
  have hM0 := hM
  rw [f_X2_meanAt] at hf
  refine lv_iload_n hx hb dX2_meanAt_0 rfl (lv_at hl 1 rfl) ?_
  refine lv_if_lt (tgt := 22) hx hb dX2_meanAt_1 (by decide) (fun g_1 => ?_) (fun g_1 => ?_)
  · rw [if_pos g_1] at hf
    refine lv_iconst (v := 0) hx hb dX2_meanAt_22 (by decide) ?_
    exact ef_ip hx hb hr hlocks hM hS hf dX2_meanAt_23
  · rw [if_neg g_1] at hf
    refine lv_iload_n hx hb dX2_meanAt_4 rfl (lv_at hl 1 rfl) ?_
    refine lv_aload_n hx hb dX2_meanAt_5 rfl (lv_at hl 0 rfl) ?_
    refine s_get hx hb (lay_2 hts) hown hK hM (c_3 h0) rfl 1 (by decide) rfl rfl (tk_85 hts) dX2_meanAt_6 ?_
    refine s_alen 0 hx hb hK hM (cel_ia (ky_3_1 hG h0) (n := 8) (by decide)) rfl (v := 8) (show Int32.ofNat 8 = 8 from by decide) dX2_meanAt_9 ?_
    refine lv_icmp_ge (tgt := 22) hx hb dX2_meanAt_10 (by decide) (fun g_2 => ?_) (fun g_2 => ?_)
    · rw [if_pos g_2] at hf
      refine lv_iconst (v := 0) hx hb dX2_meanAt_22 (by decide) ?_
      exact ef_ip hx hb hr hlocks hM hS hf dX2_meanAt_23
    · rw [if_neg g_2] at hf
      refine lv_aload_n hx hb dX2_meanAt_13 rfl (lv_at hl 0 rfl) ?_
      refine s_get hx hb (lay_2 hts) hown hK hM (c_3 h0) rfl 1 (by decide) rfl rfl (tk_85 hts) dX2_meanAt_14 ?_
      refine lv_iload_n hx hb dX2_meanAt_17 rfl (lv_at hl 1 rfl) ?_
      obtain ⟨h_3, hf⟩ := gd_e hf
      refine s_iald 8 hx hb hK hM (ky_3_1 hG h0) (by decide) h_3 dX2_meanAt_18 ?_
      refine lv_goto (tgt := 23) hx hb dX2_meanAt_19 (by decide) ?_
      exact ef_ip hx hb hr hlocks hM hS hf dX2_meanAt_23
def f_X1_noteHeard (a0 : Nat) (p1 : Int32) (M : Mem) : Option Mem := nb (sI M a0 2 ((mI M a0 2) + 1)) fun M1 => nb (sI M1 a0 8 ((mI M1 a0 8) + (mI M1 (a0 + 1) 0))) fun M2 => nb (sI M2 a0 6 ((mI M2 a0 6) + p1)) fun M3 => if p1 ≤ (mI M3 a0 7) then (some M3) else (nb (sI M3 a0 7 p1) fun M5 => some M5)
set_option maxHeartbeats 4000000 in
set_option maxRecDepth 100000 in
theorem k_X1_noteHeard (G : Gt) (hG : gOK G) (l : Launch) (a0 : Nat) (h0 : gK G a0 = 2) (p1 : Int32) (M : Mem) {M' : Mem} (hf : f_X1_noteHeard a0 p1 M = some M') : Kc G l yX1_noteHeard cX1_noteHeard 2 none ({ frames := 0, cells := 0, slots := 0, locals := 0 } : Room) [.ref a0, .int p1] M none M' := by
  refine start (by decide) (Nat.le_of_ble_eq_true rfl) ?_
  intro p e s m args below meth c ls hx hb hr hown hml hlocks hts hV hM hl
  have hown : s.vm.findClass "FoldedVoices$HearingEnd" = some m.cls := hown
  have hK := hG.1.moved hV
  have hS : va_S (gA G) s.heap s.heap [] := va_S.rf
  have hl : lv_has ls 2 [(0, .ref a0), (1, .int p1)] := hl
  have hM0 := hM
  rw [f_X1_noteHeard] at hf
  refine lv_aload_n hx hb dX1_noteHeard_0 rfl (lv_at hl 0 rfl) ?_
  refine lv_dup hx hb dX1_noteHeard_1 rfl ?_
  refine s_get hx hb (lay_1 hts) hown hK hM (c_2 h0) rfl 2 (by decide) rfl rfl (tk_172 hts) dX1_noteHeard_2 ?_
  refine lv_iconst (v := 1) hx hb dX1_noteHeard_5 (by decide) ?_
  refine lv_iadd hx hb dX1_noteHeard_6 ?_
  obtain ⟨M1, eM1, hf⟩ := nb_e hf
  refine s_put tyX1 hx hb (lay_1 hts) tyX1_ok nmX1 hown hK hM hS (ky_b hG h0) (c_2 h0) rfl 2 (by decide) rfl rfl rfl (Nat.le_of_ble_eq_true rfl) (cp_1_2 h0) (fun _ h9 => cel_sI _ h9) hM.2.2.sI rfl (tk_172 hts) dX1_noteHeard_7 (fun H locs hM hS => ?_)
  rw [eM1] at hM
  refine lv_aload_n hx hb dX1_noteHeard_10 rfl (lv_at hl 0 rfl) ?_
  refine lv_dup hx hb dX1_noteHeard_11 rfl ?_
  refine s_get hx hb (lay_1 hts) hown hK hM (c_2 h0) rfl 8 (by decide) rfl rfl (tk_182 hts) dX1_noteHeard_12 ?_
  refine lv_aload_n hx hb dX1_noteHeard_15 rfl (lv_at hl 0 rfl) ?_
  refine s_get hx hb (lay_1 hts) hown hK hM (c_2 h0) rfl 0 (by decide) rfl rfl (tk_168 hts) dX1_noteHeard_16 ?_
  refine s_getN hx hb (lay_0 hts) hown hK hM (c_1 (ky_2_0 hG h0)) rfl 0 (by decide) rfl rfl (tk_63 hts) dX1_noteHeard_19 ?_
  refine lv_iadd hx hb dX1_noteHeard_22 ?_
  obtain ⟨M2, eM2, hf⟩ := nb_e hf
  refine s_put tyX1 hx hb (lay_1 hts) tyX1_ok nmX1 hown hK hM hS (ky_b hG h0) (c_2 h0) rfl 8 (by decide) rfl rfl rfl (Nat.le_of_ble_eq_true rfl) (cp_1_8 h0) (fun _ h9 => cel_sI _ h9) hM.2.2.sI rfl (tk_182 hts) dX1_noteHeard_23 (fun H locs hM hS => ?_)
  rw [eM2] at hM
  refine lv_aload_n hx hb dX1_noteHeard_26 rfl (lv_at hl 0 rfl) ?_
  refine lv_dup hx hb dX1_noteHeard_27 rfl ?_
  refine s_get hx hb (lay_1 hts) hown hK hM (c_2 h0) rfl 6 (by decide) rfl rfl (tk_179 hts) dX1_noteHeard_28 ?_
  refine lv_iload_n hx hb dX1_noteHeard_31 rfl (lv_at hl 1 rfl) ?_
  refine lv_iadd hx hb dX1_noteHeard_32 ?_
  obtain ⟨M3, eM3, hf⟩ := nb_e hf
  refine s_put tyX1 hx hb (lay_1 hts) tyX1_ok nmX1 hown hK hM hS (ky_b hG h0) (c_2 h0) rfl 6 (by decide) rfl rfl rfl (Nat.le_of_ble_eq_true rfl) (cp_1_6 h0) (fun _ h9 => cel_sI _ h9) hM.2.2.sI rfl (tk_179 hts) dX1_noteHeard_33 (fun H locs hM hS => ?_)
  rw [eM3] at hM
  refine lv_iload_n hx hb dX1_noteHeard_36 rfl (lv_at hl 1 rfl) ?_
  refine lv_aload_n hx hb dX1_noteHeard_37 rfl (lv_at hl 0 rfl) ?_
  refine s_get hx hb (lay_1 hts) hown hK hM (c_2 h0) rfl 7 (by decide) rfl rfl (tk_181 hts) dX1_noteHeard_38 ?_
  refine lv_icmp_le (tgt := 49) hx hb dX1_noteHeard_41 (by decide) (fun g_4 => ?_) (fun g_4 => ?_)
  · rw [if_pos g_4] at hf
    exact ef_v hx hb hr hlocks hM hS hf dX1_noteHeard_49
  · rw [if_neg g_4] at hf
    refine lv_aload_n hx hb dX1_noteHeard_44 rfl (lv_at hl 0 rfl) ?_
    refine lv_iload_n hx hb dX1_noteHeard_45 rfl (lv_at hl 1 rfl) ?_
    obtain ⟨M5, eM5, hf⟩ := nb_e hf
    refine s_put tyX1 hx hb (lay_1 hts) tyX1_ok nmX1 hown hK hM hS (ky_b hG h0) (c_2 h0) rfl 7 (by decide) rfl rfl rfl (Nat.le_of_ble_eq_true rfl) (cp_1_7 h0) (fun _ h9 => cel_sI _ h9) hM.2.2.sI rfl (tk_181 hts) dX1_noteHeard_46 (fun H locs hM hS => ?_)
    rw [eM5] at hM
    exact ef_v hx hb hr hlocks hM hS hf dX1_noteHeard_49
