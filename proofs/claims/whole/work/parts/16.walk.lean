def f_X8_dropOldestSaved_b9 (a0 : Nat) : Nat → Nat → Int32 → Mem → Option Mem
  | 0, _, _, _ => none
  | n + 1, q1, x2, M => if (6 : Int32) ≤ x2 then (gd (ix ((6 : Int32) - 1) 6) <| nb (sR M (a0 + 273) ((6 : Int32) - 1).toNatClampNeg q1) fun M3 => nb (sI M3 a0 4 ((6 : Int32) - 1)) fun M4 => some M4) else (gd (ix x2 6) <| nb (mR M (a0 + 273) x2.toNatClampNeg) fun z7 => gd (ix (x2 - 1) 6) <| nb (sR M (a0 + 273) (x2 - 1).toNatClampNeg z7) fun M9 => nb (x2 + 1) fun y10 => f_X8_dropOldestSaved_b9 a0 n q1 y10 M9)
def f_X8_dropOldestSaved (a0 : Nat) (M : Mem) : Option Mem := gd (ix (0 : Int32) 6) <| nb (mR M (a0 + 273) (0 : Int32).toNatClampNeg) fun z13 => f_X8_dropOldestSaved_b9 a0 lfuel z13 1 M
set_option maxHeartbeats 4000000 in
set_option maxRecDepth 100000 in
theorem k_X8_dropOldestSaved (G : Gt) (hG : gOK G) (l : Launch) (a0 : Nat) (h0 : gK G a0 = 9) (M : Mem) {M' : Mem} (hf : f_X8_dropOldestSaved a0 M = some M') : Kc G l yX8_dropOldestSaved cX8_dropOldestSaved 3 none ({ frames := 0, cells := 0, slots := 0, locals := 0 } : Room) [.ref a0] M none M' := by
  refine start (by decide) (Nat.le_of_ble_eq_true rfl) ?_
  intro p e s m args below meth c ls hx hb hr hown hml hlocks hts hV hM hl
  have hown : s.vm.findClass "FoldedVoices" = some m.cls := hown
  have hK := hG.1.moved hV
  have hS : va_S (gA G) s.heap s.heap [] := va_S.rf
  have hl : lv_has ls 3 [(0, .ref a0)] := hl
  have hM0 := hM
  have b9 : ∀ (n : Nat), ∀ (q1 : Nat) (x2 : Int32) (M : Mem) (H : Heap) (locs : List Loc) (ls : Array Slot), gK G q1 = 6 → Mh G M H → va_S (gA G) s.heap H locs → lv_has ls 3 [(0, .ref a0), (1, .ref q1), (2, .int x2)] → f_X8_dropOldestSaved_b9 a0 n q1 x2 M = some M' → W p l e ({ frames := 0, cells := 0, slots := 0, locals := 0 } : Room) s m args below meth c H locs 0 0 (MQ below (QV G none M') args s 0 0 (gA G)) (F0 m 9 ls []) := by
    intro n
    induction n with
    | zero =>
      intro q1 x2 M H locs ls h_q1 hM hS hl hf
      rw [f_X8_dropOldestSaved_b9] at hf
      cases hf
    | succ n ih =>
      intro q1 x2 M H locs ls h_q1 hM hS hl hf
      rw [f_X8_dropOldestSaved_b9] at hf
      refine lv_iload_n hx hb dX8_dropOldestSaved_9 rfl (lv_at hl 2 rfl) ?_
      refine lv_aload_n hx hb dX8_dropOldestSaved_10 rfl (lv_at hl 0 rfl) ?_
      refine s_get hx hb (lay_8 hts) hown hK hM (c_9 h0) rfl 3 (by decide) rfl rfl (tk_283 hts) dX8_dropOldestSaved_11 ?_
      refine s_alen 4 hx hb hK hM (cel_sa (ky_9_3 hG h0)) rfl (v := 6) (show Int32.ofNat 6 = 6 from by decide) dX8_dropOldestSaved_14 ?_
      refine lv_icmp_ge (tgt := 38) hx hb dX8_dropOldestSaved_15 (by decide) (fun g_1 => ?_) (fun g_1 => ?_)
      · rw [if_pos g_1] at hf
        refine lv_aload_n hx hb dX8_dropOldestSaved_38 rfl (lv_at hl 0 rfl) ?_
        refine s_get hx hb (lay_8 hts) hown hK hM (c_9 h0) rfl 3 (by decide) rfl rfl (tk_283 hts) dX8_dropOldestSaved_39 ?_
        refine lv_aload_n hx hb dX8_dropOldestSaved_42 rfl (lv_at hl 0 rfl) ?_
        refine s_get hx hb (lay_8 hts) hown hK hM (c_9 h0) rfl 3 (by decide) rfl rfl (tk_283 hts) dX8_dropOldestSaved_43 ?_
        refine s_alen 4 hx hb hK hM (cel_sa (ky_9_3 hG h0)) rfl (v := 6) (show Int32.ofNat 6 = 6 from by decide) dX8_dropOldestSaved_46 ?_
        refine lv_iconst (v := 1) hx hb dX8_dropOldestSaved_47 (by decide) ?_
        refine lv_isub hx hb dX8_dropOldestSaved_48 ?_
        refine lv_aload_n hx hb dX8_dropOldestSaved_49 rfl (lv_at hl 1 rfl) ?_
        obtain ⟨h_2, hf⟩ := gd_e hf
        obtain ⟨M3, eM3, hf⟩ := nb_e hf
        refine s_aast 4 5 6 hx hb hK hM hS (ky_b hG (ky_9_3 hG h0)) (fun N9 => cel_sa (ky_9_3 hG h0)) rfl (c_6 h_q1) rfl h_2 (hM.2.2.sR (fun h9 => absurd (h9.symm.trans (ky_9_3 hG h0)) (by decide)) (fun _ => h_q1)) dX8_dropOldestSaved_50 (fun H locs hM hS => ?_)
        rw [eM3] at hM
        refine lv_aload_n hx hb dX8_dropOldestSaved_51 rfl (lv_at hl 0 rfl) ?_
        refine lv_aload_n hx hb dX8_dropOldestSaved_52 rfl (lv_at hl 0 rfl) ?_
        refine s_get hx hb (lay_8 hts) hown hK hM (c_9 h0) rfl 3 (by decide) rfl rfl (tk_283 hts) dX8_dropOldestSaved_53 ?_
        refine s_alen 4 hx hb hK hM (cel_sa (ky_9_3 hG h0)) rfl (v := 6) (show Int32.ofNat 6 = 6 from by decide) dX8_dropOldestSaved_56 ?_
        refine lv_iconst (v := 1) hx hb dX8_dropOldestSaved_57 (by decide) ?_
        refine lv_isub hx hb dX8_dropOldestSaved_58 ?_
        obtain ⟨M4, eM4, hf⟩ := nb_e hf
        refine s_put tyX8 hx hb (lay_8 hts) tyX8_ok nmX8 hown hK hM hS (ky_b hG h0) (c_9 h0) rfl 4 (by decide) rfl rfl rfl (Nat.le_of_ble_eq_true rfl) (cp_8_4 h0) (fun _ h9 => cel_sI _ h9) hM.2.2.sI rfl (tk_284 hts) dX8_dropOldestSaved_59 (fun H locs hM hS => ?_)
        rw [eM4] at hM
        exact ef_v hx hb hr hlocks hM hS hf dX8_dropOldestSaved_62
      · rw [if_neg g_1] at hf
        refine lv_aload_n hx hb dX8_dropOldestSaved_18 rfl (lv_at hl 0 rfl) ?_
        refine s_get hx hb (lay_8 hts) hown hK hM (c_9 h0) rfl 3 (by decide) rfl rfl (tk_283 hts) dX8_dropOldestSaved_19 ?_
        refine lv_iload_n hx hb dX8_dropOldestSaved_22 rfl (lv_at hl 2 rfl) ?_
        refine lv_iconst (v := 1) hx hb dX8_dropOldestSaved_23 (by decide) ?_
        refine lv_isub hx hb dX8_dropOldestSaved_24 ?_
        refine lv_aload_n hx hb dX8_dropOldestSaved_25 rfl (lv_at hl 0 rfl) ?_
        refine s_get hx hb (lay_8 hts) hown hK hM (c_9 h0) rfl 3 (by decide) rfl rfl (tk_283 hts) dX8_dropOldestSaved_26 ?_
        refine lv_iload_n hx hb dX8_dropOldestSaved_29 rfl (lv_at hl 2 rfl) ?_
        obtain ⟨h_5, hf⟩ := gd_e hf
        refine s_saald hx hb hK hM (ky_9_3 hG h0) h_5 dX8_dropOldestSaved_30 (fun h_6 => ?_)
        obtain ⟨z7, ez7, hf⟩ := nb_e hf
        refine s_nmr ez7 ?_
        have h_z7 : gK G z7 = 6 := ez7 ▸ h_6
        obtain ⟨h_8, hf⟩ := gd_e hf
        obtain ⟨M9, eM9, hf⟩ := nb_e hf
        refine s_aast 4 5 6 hx hb hK hM hS (ky_b hG (ky_9_3 hG h0)) (fun N9 => cel_sa (ky_9_3 hG h0)) rfl (c_6 h_z7) rfl h_8 (hM.2.2.sR (fun h9 => absurd (h9.symm.trans (ky_9_3 hG h0)) (by decide)) (fun _ => h_z7)) dX8_dropOldestSaved_31 (fun H locs hM hS => ?_)
        rw [eM9] at hM
        obtain ⟨y10, ey10, hf⟩ := nb_e hf
        refine lv_iinc (v := y10) (lv' := [(2, .int y10), (0, .ref a0), (1, .ref q1)]) hx hb dX8_dropOldestSaved_32 hl (k := 2) rfl (by rw [← ey10]; rfl) (by decide) rfl (fun ls hl => ?_)
        refine lv_goto (tgt := 9) hx hb dX8_dropOldestSaved_35 (by decide) ?_
        exact ih q1 y10 _ H locs ls h_q1 hM hS (lv_sub hl [1, 2, 0] rfl) hf
  rw [f_X8_dropOldestSaved] at hf
  obtain ⟨H, hHe⟩ : ∃ H, H = s.heap := ⟨_, rfl⟩
  obtain ⟨locs, hLe⟩ : ∃ L : List Loc, L = [] := ⟨_, rfl⟩
  rw [← hHe] at hM
  have hS : va_S (gA G) s.heap H locs := by rw [hHe, hLe]; exact va_S.rf
  suffices hW : W p l e ({ frames := 0, cells := 0, slots := 0, locals := 0 } : Room) s m args below meth c H locs 0 0 (MQ below (QV G none M') args s 0 0 (gA G)) (F0 m 0 ls []) by rw [hHe, hLe] at hW; exact hW
  refine lv_aload_n hx hb dX8_dropOldestSaved_0 rfl (lv_at hl 0 rfl) ?_
  refine s_get hx hb (lay_8 hts) hown hK hM (c_9 h0) rfl 3 (by decide) rfl rfl (tk_283 hts) dX8_dropOldestSaved_1 ?_
  refine lv_iconst (v := 0) hx hb dX8_dropOldestSaved_4 (by decide) ?_
  obtain ⟨h_11, hf⟩ := gd_e hf
  refine s_saald hx hb hK hM (ky_9_3 hG h0) h_11 dX8_dropOldestSaved_5 (fun h_12 => ?_)
  obtain ⟨z13, ez13, hf⟩ := nb_e hf
  refine s_nmr ez13 ?_
  have h_z13 : gK G z13 = 6 := ez13 ▸ h_12
  refine lv_astore_n (lv' := [(1, .ref z13), (0, .ref a0)]) hx hb dX8_dropOldestSaved_6 rfl hl (by decide) rfl (fun ls hl => ?_)
  refine lv_iconst (v := 1) hx hb dX8_dropOldestSaved_7 (by decide) ?_
  refine lv_istore_n (lv' := [(2, .int 1), (1, .ref z13), (0, .ref a0)]) hx hb dX8_dropOldestSaved_8 rfl hl (by decide) rfl (fun ls hl => ?_)
  exact b9 _ z13 1 _ H locs ls h_z13 hM hS (lv_sub hl [2, 1, 0] rfl) hf
def f_X8_saveLive_b16 (a0 : Nat) (M : Mem) : Option Mem := if (mI M a0 4) < 0 then (some M) else (if (mI M a0 4) < (6 : Int32) then (gd (ix (mI M a0 4) 6) <| nb (mR M (a0 + 273) (mI M a0 4).toNatClampNeg) fun z5 => vb (f_X5_copyFrom z5 (a0 + 1) M) fun M7 => nb (sI M7 a0 4 ((mI M7 a0 4) + 1)) fun M8 => some M8) else (some M))
def f_X8_saveLive (a0 : Nat) (M : Mem) : Option Mem := if (mI M a0 4) < (6 : Int32) then (f_X8_saveLive_b16 a0 M) else (vb (f_X8_dropOldestSaved a0 M) fun M11 => f_X8_saveLive_b16 a0 M11)
set_option maxHeartbeats 4000000 in
set_option maxRecDepth 100000 in
theorem k_X8_saveLive (G : Gt) (hG : gOK G) (l : Launch) (a0 : Nat) (h0 : gK G a0 = 9) (M : Mem) {M' : Mem} (hf : f_X8_saveLive a0 M = some M') : Kc G l yX8_saveLive cX8_saveLive 1 none ({ frames := 5, cells := 0, slots := 0, locals := 112 } : Room) [.ref a0] M none M' := by
  refine start (by decide) (Nat.le_of_ble_eq_true rfl) ?_
  intro p e s m args below meth c ls hx hb hr hown hml hlocks hts hV hM hl
  have hown : s.vm.findClass "FoldedVoices" = some m.cls := hown
  have hK := hG.1.moved hV
  have hS : va_S (gA G) s.heap s.heap [] := va_S.rf
  have hl : lv_has ls 1 [(0, .ref a0)] := hl
  have hM0 := hM
  have b16 : ∀ (M : Mem) (H : Heap) (locs : List Loc) (ls : Array Slot), Mh G M H → va_S (gA G) s.heap H locs → lv_has ls 1 [(0, .ref a0)] → f_X8_saveLive_b16 a0 M = some M' → W p l e ({ frames := 5, cells := 0, slots := 0, locals := 112 } : Room) s m args below meth c H locs 0 0 (MQ below (QV G none M') args s 0 0 (gA G)) (F0 m 16 ls []) := by
    intro M H locs ls hM hS hl hf
    rw [f_X8_saveLive_b16] at hf
    refine lv_aload_n hx hb dX8_saveLive_16 rfl (lv_at hl 0 rfl) ?_
    refine s_get hx hb (lay_8 hts) hown hK hM (c_9 h0) rfl 4 (by decide) rfl rfl (tk_284 hts) dX8_saveLive_17 ?_
    refine lv_if_lt (tgt := 35) hx hb dX8_saveLive_20 (by decide) (fun g_1 => ?_) (fun g_1 => ?_)
    · rw [if_pos g_1] at hf
      exact ef_v hx hb hr hlocks hM hS hf dX8_saveLive_35
    · rw [if_neg g_1] at hf
      refine lv_aload_n hx hb dX8_saveLive_23 rfl (lv_at hl 0 rfl) ?_
      refine s_get hx hb (lay_8 hts) hown hK hM (c_9 h0) rfl 4 (by decide) rfl rfl (tk_284 hts) dX8_saveLive_24 ?_
      refine lv_aload_n hx hb dX8_saveLive_27 rfl (lv_at hl 0 rfl) ?_
      refine s_get hx hb (lay_8 hts) hown hK hM (c_9 h0) rfl 3 (by decide) rfl rfl (tk_283 hts) dX8_saveLive_28 ?_
      refine s_alen 4 hx hb hK hM (cel_sa (ky_9_3 hG h0)) rfl (v := 6) (show Int32.ofNat 6 = 6 from by decide) dX8_saveLive_31 ?_
      refine lv_icmp_lt (tgt := 36) hx hb dX8_saveLive_32 (by decide) (fun g_2 => ?_) (fun g_2 => ?_)
      · rw [if_pos g_2] at hf
        refine lv_aload_n hx hb dX8_saveLive_36 rfl (lv_at hl 0 rfl) ?_
        refine s_get hx hb (lay_8 hts) hown hK hM (c_9 h0) rfl 3 (by decide) rfl rfl (tk_283 hts) dX8_saveLive_37 ?_
        refine lv_aload_n hx hb dX8_saveLive_40 rfl (lv_at hl 0 rfl) ?_
        refine s_get hx hb (lay_8 hts) hown hK hM (c_9 h0) rfl 4 (by decide) rfl rfl (tk_284 hts) dX8_saveLive_41 ?_
        obtain ⟨h_3, hf⟩ := gd_e hf
        refine s_saald hx hb hK hM (ky_9_3 hG h0) h_3 dX8_saveLive_44 (fun h_4 => ?_)
        obtain ⟨z5, ez5, hf⟩ := nb_e hf
        refine s_nmr ez5 ?_
        have h_z5 : gK G z5 = 6 := ez5 ▸ h_4
        refine lv_aload_n hx hb dX8_saveLive_45 rfl (lv_at hl 0 rfl) ?_
        refine s_get hx hb (lay_8 hts) hown hK hM (c_9 h0) rfl 0 (by decide) rfl rfl (tk_280 hts) dX8_saveLive_46 ?_
        obtain ⟨M7, e_6, hf⟩ := vb_e hf
        refine c_Vv hx hb hml hown hts hV hK hM hS (As := [.ref (a0 + 1)]) (rest := []) (k_X5_copyFrom G hG l z5 h_z5 (a0 + 1) (ky_9_0 hG h0) M e_6) w_X5_copyFrom (tk_347 hts) (c_6 h_z5) rfl rfl ⟨⟨rfl, rfl⟩, Nat.le_of_ble_eq_true rfl, Nat.le_of_ble_eq_true rfl⟩ ⟨Nat.zero_le _, Nat.zero_le _⟩ rfl hl.1 rfl (Nat.le_of_ble_eq_true rfl) dX8_saveLive_49 (fun H locs hM hS => ?_)
        refine lv_aload_n hx hb dX8_saveLive_52 rfl (lv_at hl 0 rfl) ?_
        refine lv_dup hx hb dX8_saveLive_53 rfl ?_
        refine s_get hx hb (lay_8 hts) hown hK hM (c_9 h0) rfl 4 (by decide) rfl rfl (tk_284 hts) dX8_saveLive_54 ?_
        refine lv_iconst (v := 1) hx hb dX8_saveLive_57 (by decide) ?_
        refine lv_iadd hx hb dX8_saveLive_58 ?_
        obtain ⟨M8, eM8, hf⟩ := nb_e hf
        refine s_put tyX8 hx hb (lay_8 hts) tyX8_ok nmX8 hown hK hM hS (ky_b hG h0) (c_9 h0) rfl 4 (by decide) rfl rfl rfl (Nat.le_of_ble_eq_true rfl) (cp_8_4 h0) (fun _ h9 => cel_sI _ h9) hM.2.2.sI rfl (tk_284 hts) dX8_saveLive_59 (fun H locs hM hS => ?_)
        rw [eM8] at hM
        exact ef_v hx hb hr hlocks hM hS hf dX8_saveLive_62
      · rw [if_neg g_2] at hf
        exact ef_v hx hb hr hlocks hM hS hf dX8_saveLive_35
  rw [f_X8_saveLive] at hf
  obtain ⟨H, hHe⟩ : ∃ H, H = s.heap := ⟨_, rfl⟩
  obtain ⟨locs, hLe⟩ : ∃ L : List Loc, L = [] := ⟨_, rfl⟩
  rw [← hHe] at hM
  have hS : va_S (gA G) s.heap H locs := by rw [hHe, hLe]; exact va_S.rf
  suffices hW : W p l e ({ frames := 5, cells := 0, slots := 0, locals := 112 } : Room) s m args below meth c H locs 0 0 (MQ below (QV G none M') args s 0 0 (gA G)) (F0 m 0 ls []) by rw [hHe, hLe] at hW; exact hW
  refine lv_aload_n hx hb dX8_saveLive_0 rfl (lv_at hl 0 rfl) ?_
  refine s_get hx hb (lay_8 hts) hown hK hM (c_9 h0) rfl 4 (by decide) rfl rfl (tk_284 hts) dX8_saveLive_1 ?_
  refine lv_aload_n hx hb dX8_saveLive_4 rfl (lv_at hl 0 rfl) ?_
  refine s_get hx hb (lay_8 hts) hown hK hM (c_9 h0) rfl 3 (by decide) rfl rfl (tk_283 hts) dX8_saveLive_5 ?_
  refine s_alen 4 hx hb hK hM (cel_sa (ky_9_3 hG h0)) rfl (v := 6) (show Int32.ofNat 6 = 6 from by decide) dX8_saveLive_8 ?_
  refine lv_icmp_lt (tgt := 16) hx hb dX8_saveLive_9 (by decide) (fun g_9 => ?_) (fun g_9 => ?_)
  · rw [if_pos g_9] at hf
    exact b16 _ H locs ls hM hS (lv_sub hl [0] rfl) hf
  · rw [if_neg g_9] at hf
    refine lv_aload_n hx hb dX8_saveLive_12 rfl (lv_at hl 0 rfl) ?_
    obtain ⟨M11, e_10, hf⟩ := vb_e hf
    refine c_Vv hx hb hml hown hts hV hK hM hS (As := []) (rest := []) (k_X8_dropOldestSaved G hG l a0 h0 M e_10) w_X8_dropOldestSaved (tk_696 hts) (c_9 h0) rfl rfl ⟨⟨rfl, rfl⟩, Nat.le_of_ble_eq_true rfl, Nat.le_of_ble_eq_true rfl⟩ ⟨Nat.zero_le _, Nat.zero_le _⟩ rfl hl.1 rfl (Nat.le_of_ble_eq_true rfl) dX8_saveLive_13 (fun H locs hM hS => ?_)
    exact b16 _ H locs ls hM hS (lv_sub hl [0] rfl) hf
def f_X8_say (a0 : Nat) (p1 : Int32) (p2 : Int32) (M : Mem) : Option (Nat × Int32 × Mem) := xb 0 (f_X8_voiceOf a0 p1 M) fun r2 M3 => xb 0 (f_X8_requireSample p2 M3) fun r5 M6 => vb (f_X7_canTake r2 ((a0 + 1) + 2) M6) fun r8 => if r8 = 0 then (some (3, 0, M6)) else (vb (f_X8_saveLive a0 M6) fun M11 => cb (f_X7_take r2 p2 ((a0 + 1) + 2) M11) fun r13 M14 => some (0, r13, M14))
set_option maxHeartbeats 4000000 in
set_option maxRecDepth 100000 in
theorem k_X8_say (G : Gt) (hG : gOK G) (l : Launch) (a0 : Nat) (h0 : gK G a0 = 9) (p1 : Int32) (p2 : Int32) (M : Mem) {r : Int32} {M' : Mem} (hf : f_X8_say a0 p1 p2 M = some (0, r, M')) : Kc G l yX8_say cX8_say 4 (some .int) ({ frames := 7, cells := 0, slots := 0, locals := 132 } : Room) [.ref a0, .int p1, .int p2] M (some (.int r)) M' := by
  refine start (by decide) (Nat.le_of_ble_eq_true rfl) ?_
  intro p e s m args below meth c ls hx hb hr hown hml hlocks hts hV hM hl
  have hown : s.vm.findClass "FoldedVoices" = some m.cls := hown
  have hK := hG.1.moved hV
  have hS : va_S (gA G) s.heap s.heap [] := va_S.rf
  have hl : lv_has ls 4 [(0, .ref a0), (1, .int p1), (2, .int p2)] := hl
  have hM0 := hM
  rw [f_X8_say] at hf
  refine lv_aload_n hx hb dX8_say_0 rfl (lv_at hl 0 rfl) ?_
  refine lv_iload_n hx hb dX8_say_1 rfl (lv_at hl 1 rfl) ?_
  obtain ⟨r2, M3, e_1, hf⟩ := xb_r hf
  refine c_Vr hx hb hml hown hts hV hK hM hS (As := [.int p1]) (rest := []) (k_X8_voiceOf G hG l a0 h0 p1 M e_1) w_X8_voiceOf (tk_572 hts) (c_9 h0) rfl rfl ⟨⟨rfl, rfl⟩, Nat.le_of_ble_eq_true rfl, Nat.le_of_ble_eq_true rfl⟩ ⟨Nat.zero_le _, Nat.zero_le _⟩ rfl hl.1 rfl (Nat.le_of_ble_eq_true rfl) dX8_say_2 (fun H locs hM hS => ?_)
  have h_r2 := kr_X8_voiceOf hG a0 h0 p1 e_1
  refine lv_astore_n (lv' := [(3, .ref r2), (0, .ref a0), (1, .int p1), (2, .int p2)]) hx hb dX8_say_5 rfl hl (by decide) rfl (fun ls hl => ?_)
  refine lv_iload_n hx hb dX8_say_6 rfl (lv_at hl 3 rfl) ?_
  obtain ⟨r5, M6, e_4, hf⟩ := xb_r hf
  refine c_Sv hx hb hml hown hts hV hM hS (As := [.int p2]) (rest := []) (k_X8_requireSample G hG l p2 M3 e_4) w_X8_requireSample (tk_644 hts) ⟨⟨rfl, rfl⟩, Nat.le_of_ble_eq_true rfl, Nat.le_of_ble_eq_true rfl⟩ ⟨Nat.zero_le _, Nat.zero_le _⟩ rfl hl.1 rfl (Nat.le_of_ble_eq_true rfl) dX8_say_7 (fun H locs hM hS => ?_)
  refine lv_aload_n hx hb dX8_say_10 rfl (lv_at hl 0 rfl) ?_
  refine lv_aload_n hx hb dX8_say_11 rfl (lv_at hl 1 rfl) ?_
  refine s_get hx hb (lay_8 hts) hown hK hM (c_9 h0) rfl 0 (by decide) rfl rfl (tk_280 hts) dX8_say_12 ?_
  refine s_getN hx hb (lay_5 hts) hown hK hM (c_6 (ky_9_0 hG h0)) rfl 1 (by decide) rfl rfl (tk_236 hts) dX8_say_15 ?_
  obtain ⟨r8, e_7, hf⟩ := vb_e hf
  refine c_Vi hx hb hml hown hts hV hK hM hS (As := [.ref ((a0 + 1) + 2)]) (rest := []) (k_X7_canTake G hG l r2 h_r2 ((a0 + 1) + 2) (ky_6_1 hG (ky_9_0 hG h0)) M6 e_7) w_X7_canTake (tk_663 hts) (c_8 h_r2) rfl rfl ⟨⟨rfl, rfl⟩, Nat.le_of_ble_eq_true rfl, Nat.le_of_ble_eq_true rfl⟩ ⟨Nat.zero_le _, Nat.zero_le _⟩ rfl hl.1 rfl (Nat.le_of_ble_eq_true rfl) dX8_say_18 (fun H locs hM hS => ?_)
  refine lv_if_ne (tgt := 34) hx hb dX8_say_21 (by decide) (fun g_9 => ?_) (fun g_9 => ?_)
  · rw [if_neg g_9] at hf
    refine lv_aload_n hx hb dX8_say_34 rfl (lv_at hl 1 rfl) ?_
    obtain ⟨M11, e_10, hf⟩ := vb_e hf
    refine c_Vv hx hb hml hown hts hV hK hM hS (As := []) (rest := []) (k_X8_saveLive G hG l a0 h0 M6 e_10) w_X8_saveLive (tk_692 hts) (c_9 h0) rfl rfl ⟨⟨rfl, rfl⟩, Nat.le_of_ble_eq_true rfl, Nat.le_of_ble_eq_true rfl⟩ ⟨Nat.zero_le _, Nat.zero_le _⟩ rfl hl.1 rfl (Nat.le_of_ble_eq_true rfl) dX8_say_35 (fun H locs hM hS => ?_)
    refine lv_aload_n hx hb dX8_say_38 rfl (lv_at hl 0 rfl) ?_
    refine lv_iload_n hx hb dX8_say_39 rfl (lv_at hl 3 rfl) ?_
    refine lv_aload_n hx hb dX8_say_40 rfl (lv_at hl 1 rfl) ?_
    refine s_get hx hb (lay_8 hts) hown hK hM (c_9 h0) rfl 0 (by decide) rfl rfl (tk_280 hts) dX8_say_41 ?_
    refine s_getN hx hb (lay_5 hts) hown hK hM (c_6 (ky_9_0 hG h0)) rfl 1 (by decide) rfl rfl (tk_236 hts) dX8_say_44 ?_
    obtain ⟨r13, M14, e_12, hf⟩ := cb_e hf
    refine c_Vi hx hb hml hown hts hV hK hM hS (As := [.int p2, .ref ((a0 + 1) + 2)]) (rest := []) (k_X7_take G hG l r2 h_r2 p2 ((a0 + 1) + 2) (ky_6_1 hG (ky_9_0 hG h0)) M11 e_12) w_X7_take (tk_700 hts) (c_8 h_r2) rfl rfl ⟨⟨rfl, rfl⟩, Nat.le_of_ble_eq_true rfl, Nat.le_of_ble_eq_true rfl⟩ ⟨Nat.zero_le _, Nat.zero_le _⟩ rfl hl.1 rfl (Nat.le_of_ble_eq_true rfl) dX8_say_47 (fun H locs hM hS => ?_)
    exact ef_ix hx hb hr hlocks hM hS hf dX8_say_50
  · rw [if_pos g_9] at hf
    exact (xf_no2 hf (by decide)).elim
set_option maxHeartbeats 4000000 in
set_option maxRecDepth 100000 in
theorem x_X8_say (G : Gt) (hG : gOK G) (l : Launch) (hfl : l.stackTraces = false) (a0 : Nat) (h0 : gK G a0 = 9) (p1 : Int32) (p2 : Int32) (M : Mem) {j : Nat} {r : Int32} {M' : Mem} (hj : j ≠ 0) (hf : f_X8_say a0 p1 p2 M = some (j, r, M')) : Kt G l yX8_say cX8_say 4 (some .int) ({ frames := 7, cells := 1, slots := 6, locals := 132 } : Room) [.ref a0, .int p1, .int p2] M j M' := by
  refine startT (by decide) (Nat.le_of_ble_eq_true rfl) ?_
  intro p e s m args below meth c ls hx hb hr hown hml hlocks hts hV hM hl ht
  have hown : s.vm.findClass "FoldedVoices" = some m.cls := hown
  have hK := hG.1.moved hV
  have hS : va_S (gA G) s.heap s.heap [] := va_S.rf
  have hl : lv_has ls 4 [(0, .ref a0), (1, .int p1), (2, .int p2)] := hl
  have hM0 := hM
  have hT0 := gTh_at hG.2.2.2.2.2 hV hM
  rw [f_X8_say] at hf
  refine lv_aload_n hx hb dX8_say_0 rfl (lv_at hl 0 rfl) ?_
  refine lv_iload_n hx hb dX8_say_1 rfl (lv_at hl 1 rfl) ?_
  rcases xb_t hj hf with ⟨r2, e_1⟩ | ⟨r2, M3, e_1, hf⟩
  · exact c_Vt hx hb hml hown hlocks ht hts hV hK hM hS (As := [.int p1]) (rest := []) (x_X8_voiceOf G hG l hfl a0 h0 p1 M hj e_1) w_X8_voiceOf (tk_572 hts) (c_9 h0) rfl rfl ⟨⟨rfl, rfl⟩, Nat.le_of_ble_eq_true rfl, Nat.le_of_ble_eq_true rfl⟩ ⟨Nat.le_of_ble_eq_true rfl, Nat.le_of_ble_eq_true rfl⟩ rfl hl.1 rfl (Nat.le_of_ble_eq_true rfl) dX8_say_2
  refine c_Vr hx hb hml hown hts hV hK hM hS (As := [.int p1]) (rest := []) (k_X8_voiceOf G hG l a0 h0 p1 M e_1) w_X8_voiceOf (tk_572 hts) (c_9 h0) rfl rfl ⟨⟨rfl, rfl⟩, Nat.le_of_ble_eq_true rfl, Nat.le_of_ble_eq_true rfl⟩ ⟨Nat.zero_le _, Nat.zero_le _⟩ rfl hl.1 rfl (Nat.le_of_ble_eq_true rfl) dX8_say_2 (fun H locs hM hS => ?_)
  have h_r2 := kr_X8_voiceOf hG a0 h0 p1 e_1
  refine lv_astore_n (lv' := [(3, .ref r2), (0, .ref a0), (1, .int p1), (2, .int p2)]) hx hb dX8_say_5 rfl hl (by decide) rfl (fun ls hl => ?_)
  refine lv_iload_n hx hb dX8_say_6 rfl (lv_at hl 3 rfl) ?_
  rcases xb_t hj hf with ⟨r5, e_4⟩ | ⟨r5, M6, e_4, hf⟩
  · exact c_St hx hb hml hown hlocks ht hts hV hM hS (As := [.int p2]) (rest := []) (x_X8_requireSample G hG l hfl p2 M3 hj e_4) w_X8_requireSample (tk_644 hts) ⟨⟨rfl, rfl⟩, Nat.le_of_ble_eq_true rfl, Nat.le_of_ble_eq_true rfl⟩ ⟨Nat.le_of_ble_eq_true rfl, Nat.le_of_ble_eq_true rfl⟩ rfl hl.1 rfl (Nat.le_of_ble_eq_true rfl) dX8_say_7
  refine c_Sv hx hb hml hown hts hV hM hS (As := [.int p2]) (rest := []) (k_X8_requireSample G hG l p2 M3 e_4) w_X8_requireSample (tk_644 hts) ⟨⟨rfl, rfl⟩, Nat.le_of_ble_eq_true rfl, Nat.le_of_ble_eq_true rfl⟩ ⟨Nat.zero_le _, Nat.zero_le _⟩ rfl hl.1 rfl (Nat.le_of_ble_eq_true rfl) dX8_say_7 (fun H locs hM hS => ?_)
  refine lv_aload_n hx hb dX8_say_10 rfl (lv_at hl 0 rfl) ?_
  refine lv_aload_n hx hb dX8_say_11 rfl (lv_at hl 1 rfl) ?_
  refine s_get hx hb (lay_8 hts) hown hK hM (c_9 h0) rfl 0 (by decide) rfl rfl (tk_280 hts) dX8_say_12 ?_
  refine s_getN hx hb (lay_5 hts) hown hK hM (c_6 (ky_9_0 hG h0)) rfl 1 (by decide) rfl rfl (tk_236 hts) dX8_say_15 ?_
  obtain ⟨r8, e_7, hf⟩ := vb_e hf
  refine c_Vi hx hb hml hown hts hV hK hM hS (As := [.ref ((a0 + 1) + 2)]) (rest := []) (k_X7_canTake G hG l r2 h_r2 ((a0 + 1) + 2) (ky_6_1 hG (ky_9_0 hG h0)) M6 e_7) w_X7_canTake (tk_663 hts) (c_8 h_r2) rfl rfl ⟨⟨rfl, rfl⟩, Nat.le_of_ble_eq_true rfl, Nat.le_of_ble_eq_true rfl⟩ ⟨Nat.zero_le _, Nat.zero_le _⟩ rfl hl.1 rfl (Nat.le_of_ble_eq_true rfl) dX8_say_18 (fun H locs hM hS => ?_)
  refine lv_if_ne (tgt := 34) hx hb dX8_say_21 (by decide) (fun g_9 => ?_) (fun g_9 => ?_)
  · rw [if_neg g_9] at hf
    refine lv_aload_n hx hb dX8_say_34 rfl (lv_at hl 1 rfl) ?_
    obtain ⟨M11, e_10, hf⟩ := vb_e hf
    refine c_Vv hx hb hml hown hts hV hK hM hS (As := []) (rest := []) (k_X8_saveLive G hG l a0 h0 M6 e_10) w_X8_saveLive (tk_692 hts) (c_9 h0) rfl rfl ⟨⟨rfl, rfl⟩, Nat.le_of_ble_eq_true rfl, Nat.le_of_ble_eq_true rfl⟩ ⟨Nat.zero_le _, Nat.zero_le _⟩ rfl hl.1 rfl (Nat.le_of_ble_eq_true rfl) dX8_say_35 (fun H locs hM hS => ?_)
    refine lv_aload_n hx hb dX8_say_38 rfl (lv_at hl 0 rfl) ?_
    refine lv_iload_n hx hb dX8_say_39 rfl (lv_at hl 3 rfl) ?_
    refine lv_aload_n hx hb dX8_say_40 rfl (lv_at hl 1 rfl) ?_
    refine s_get hx hb (lay_8 hts) hown hK hM (c_9 h0) rfl 0 (by decide) rfl rfl (tk_280 hts) dX8_say_41 ?_
    refine s_getN hx hb (lay_5 hts) hown hK hM (c_6 (ky_9_0 hG h0)) rfl 1 (by decide) rfl rfl (tk_236 hts) dX8_say_44 ?_
    obtain ⟨r13, M14, e_12, hf⟩ := cb_e hf
    refine c_Vi hx hb hml hown hts hV hK hM hS (As := [.int p2, .ref ((a0 + 1) + 2)]) (rest := []) (k_X7_take G hG l r2 h_r2 p2 ((a0 + 1) + 2) (ky_6_1 hG (ky_9_0 hG h0)) M11 e_12) w_X7_take (tk_700 hts) (c_8 h_r2) rfl rfl ⟨⟨rfl, rfl⟩, Nat.le_of_ble_eq_true rfl, Nat.le_of_ble_eq_true rfl⟩ ⟨Nat.zero_le _, Nat.zero_le _⟩ rfl hl.1 rfl (Nat.le_of_ble_eq_true rfl) dX8_say_47 (fun H locs hM hS => ?_)
    exact (xf_no hf hj).elim
  · rw [if_pos g_9] at hf
    exact s_throwS hx hb hfl hml hown hlocks ht hts hT0 hM hS (show exN 3 = "java/lang/IllegalStateException" from rfl) (by decide +kernel) (tk_676 hts) (tk_16 hts) (hts.2 (64, "the wire has no room for the packet") (by decide +kernel)) at_66 hl.1 dX8_say_24 dX8_say_27 dX8_say_28 dX8_say_30 dX8_say_33 ⟨Nat.le_of_ble_eq_true rfl, Nat.le_of_ble_eq_true rfl, Nat.le_of_ble_eq_true rfl, Nat.le_of_ble_eq_true rfl⟩ hf
def f_X8_flush (a0 : Nat) (p1 : Int32) (M : Mem) : Option (Nat × Int32 × Mem) := xb 0 (f_X8_voiceOf a0 p1 M) fun r2 M3 => nb (mI M3 ((r2 + 1) + 2) 2) fun y4 => if y4 = 0 then (some (3, 0, M3)) else (vb (f_X7_hasRoom r2 M3) fun r7 => if r7 = 0 then (some (3, 0, M3)) else (vb (f_X8_saveLive a0 M3) fun M10 => vb (f_X7_closePacket r2 ((a0 + 1) + 2) M10) fun M12 => some (0, y4, M12)))
set_option maxHeartbeats 4000000 in
set_option maxRecDepth 100000 in
theorem k_X8_flush (G : Gt) (hG : gOK G) (l : Launch) (a0 : Nat) (h0 : gK G a0 = 9) (p1 : Int32) (M : Mem) {r : Int32} {M' : Mem} (hf : f_X8_flush a0 p1 M = some (0, r, M')) : Kc G l yX8_flush cX8_flush 4 (some .int) ({ frames := 7, cells := 0, slots := 0, locals := 132 } : Room) [.ref a0, .int p1] M (some (.int r)) M' := by
  refine start (by decide) (Nat.le_of_ble_eq_true rfl) ?_
  intro p e s m args below meth c ls hx hb hr hown hml hlocks hts hV hM hl
  have hown : s.vm.findClass "FoldedVoices" = some m.cls := hown
  have hK := hG.1.moved hV
  have hS : va_S (gA G) s.heap s.heap [] := va_S.rf
  have hl : lv_has ls 4 [(0, .ref a0), (1, .int p1)] := hl
  have hM0 := hM
  rw [f_X8_flush] at hf
  refine lv_aload_n hx hb dX8_flush_0 rfl (lv_at hl 0 rfl) ?_
  refine lv_iload_n hx hb dX8_flush_1 rfl (lv_at hl 1 rfl) ?_
  obtain ⟨r2, M3, e_1, hf⟩ := xb_r hf
  refine c_Vr hx hb hml hown hts hV hK hM hS (As := [.int p1]) (rest := []) (k_X8_voiceOf G hG l a0 h0 p1 M e_1) w_X8_voiceOf (tk_572 hts) (c_9 h0) rfl rfl ⟨⟨rfl, rfl⟩, Nat.le_of_ble_eq_true rfl, Nat.le_of_ble_eq_true rfl⟩ ⟨Nat.zero_le _, Nat.zero_le _⟩ rfl hl.1 rfl (Nat.le_of_ble_eq_true rfl) dX8_flush_2 (fun H locs hM hS => ?_)
  have h_r2 := kr_X8_voiceOf hG a0 h0 p1 e_1
  refine lv_astore_n (lv' := [(2, .ref r2), (0, .ref a0), (1, .int p1)]) hx hb dX8_flush_5 rfl hl (by decide) rfl (fun ls hl => ?_)
  refine lv_aload_n hx hb dX8_flush_6 rfl (lv_at hl 0 rfl) ?_
  refine s_getN hx hb (lay_7 hts) hown hK hM (c_8 h_r2) rfl 0 (by decide) rfl rfl (tk_213 hts) dX8_flush_7 ?_
  refine s_getN hx hb (lay_3 hts) hown hK hM (c_4 (ky_8_0 hG h_r2)) rfl 4 (by decide) rfl rfl (tk_128 hts) dX8_flush_10 ?_
  refine s_getN hx hb (lay_2 hts) hown hK hM (c_3 (ky_4_4 hG (ky_8_0 hG h_r2))) rfl 2 (by decide) rfl rfl (tk_90 hts) dX8_flush_13 ?_
  obtain ⟨y4, ey4, hf⟩ := nb_e hf
  refine s_nm ey4 ?_
  refine lv_istore_n (lv' := [(3, .int y4), (2, .ref r2), (0, .ref a0), (1, .int p1)]) hx hb dX8_flush_16 rfl hl (by decide) rfl (fun ls hl => ?_)
  refine lv_iload_n hx hb dX8_flush_17 rfl (lv_at hl 0 rfl) ?_
  refine lv_if_ne (tgt := 31) hx hb dX8_flush_18 (by decide) (fun g_5 => ?_) (fun g_5 => ?_)
  · rw [if_neg g_5] at hf
    refine lv_aload_n hx hb dX8_flush_31 rfl (lv_at hl 1 rfl) ?_
    obtain ⟨r7, e_6, hf⟩ := vb_e hf
    refine c_Vi hx hb hml hown hts hV hK hM hS (As := []) (rest := []) (k_X7_hasRoom G hG l r2 h_r2 M3 e_6) w_X7_hasRoom (tk_744 hts) (c_8 h_r2) rfl rfl ⟨⟨rfl, rfl⟩, Nat.le_of_ble_eq_true rfl, Nat.le_of_ble_eq_true rfl⟩ ⟨Nat.zero_le _, Nat.zero_le _⟩ rfl hl.1 rfl (Nat.le_of_ble_eq_true rfl) dX8_flush_32 (fun H locs hM hS => ?_)
    refine lv_if_ne (tgt := 48) hx hb dX8_flush_35 (by decide) (fun g_8 => ?_) (fun g_8 => ?_)
    · rw [if_neg g_8] at hf
      refine lv_aload_n hx hb dX8_flush_48 rfl (lv_at hl 2 rfl) ?_
      obtain ⟨M10, e_9, hf⟩ := vb_e hf
      refine c_Vv hx hb hml hown hts hV hK hM hS (As := []) (rest := []) (k_X8_saveLive G hG l a0 h0 M3 e_9) w_X8_saveLive (tk_692 hts) (c_9 h0) rfl rfl ⟨⟨rfl, rfl⟩, Nat.le_of_ble_eq_true rfl, Nat.le_of_ble_eq_true rfl⟩ ⟨Nat.zero_le _, Nat.zero_le _⟩ rfl hl.1 rfl (Nat.le_of_ble_eq_true rfl) dX8_flush_49 (fun H locs hM hS => ?_)
      refine lv_aload_n hx hb dX8_flush_52 rfl (lv_at hl 1 rfl) ?_
      refine lv_aload_n hx hb dX8_flush_53 rfl (lv_at hl 2 rfl) ?_
      refine s_get hx hb (lay_8 hts) hown hK hM (c_9 h0) rfl 0 (by decide) rfl rfl (tk_280 hts) dX8_flush_54 ?_
      refine s_getN hx hb (lay_5 hts) hown hK hM (c_6 (ky_9_0 hG h0)) rfl 1 (by decide) rfl rfl (tk_236 hts) dX8_flush_57 ?_
      obtain ⟨M12, e_11, hf⟩ := vb_e hf
      refine c_Vv hx hb hml hown hts hV hK hM hS (As := [.ref ((a0 + 1) + 2)]) (rest := []) (k_X7_closePacket G hG l r2 h_r2 ((a0 + 1) + 2) (ky_6_1 hG (ky_9_0 hG h0)) M10 e_11) w_X7_closePacket (tk_745 hts) (c_8 h_r2) rfl rfl ⟨⟨rfl, rfl⟩, Nat.le_of_ble_eq_true rfl, Nat.le_of_ble_eq_true rfl⟩ ⟨Nat.zero_le _, Nat.zero_le _⟩ rfl hl.1 rfl (Nat.le_of_ble_eq_true rfl) dX8_flush_60 (fun H locs hM hS => ?_)
      refine lv_iload_n hx hb dX8_flush_63 rfl (lv_at hl 0 rfl) ?_
      exact ef_ix hx hb hr hlocks hM hS hf dX8_flush_64
    · rw [if_pos g_8] at hf
      exact (xf_no2 hf (by decide)).elim
  · rw [if_pos g_5] at hf
    exact (xf_no2 hf (by decide)).elim
set_option maxHeartbeats 4000000 in
set_option maxRecDepth 100000 in
theorem x_X8_flush (G : Gt) (hG : gOK G) (l : Launch) (hfl : l.stackTraces = false) (a0 : Nat) (h0 : gK G a0 = 9) (p1 : Int32) (M : Mem) {j : Nat} {r : Int32} {M' : Mem} (hj : j ≠ 0) (hf : f_X8_flush a0 p1 M = some (j, r, M')) : Kt G l yX8_flush cX8_flush 4 (some .int) ({ frames := 7, cells := 1, slots := 6, locals := 132 } : Room) [.ref a0, .int p1] M j M' := by
  refine startT (by decide) (Nat.le_of_ble_eq_true rfl) ?_
  intro p e s m args below meth c ls hx hb hr hown hml hlocks hts hV hM hl ht
  have hown : s.vm.findClass "FoldedVoices" = some m.cls := hown
  have hK := hG.1.moved hV
  have hS : va_S (gA G) s.heap s.heap [] := va_S.rf
  have hl : lv_has ls 4 [(0, .ref a0), (1, .int p1)] := hl
  have hM0 := hM
  have hT0 := gTh_at hG.2.2.2.2.2 hV hM
  rw [f_X8_flush] at hf
  refine lv_aload_n hx hb dX8_flush_0 rfl (lv_at hl 0 rfl) ?_
  refine lv_iload_n hx hb dX8_flush_1 rfl (lv_at hl 1 rfl) ?_
  rcases xb_t hj hf with ⟨r2, e_1⟩ | ⟨r2, M3, e_1, hf⟩
  · exact c_Vt hx hb hml hown hlocks ht hts hV hK hM hS (As := [.int p1]) (rest := []) (x_X8_voiceOf G hG l hfl a0 h0 p1 M hj e_1) w_X8_voiceOf (tk_572 hts) (c_9 h0) rfl rfl ⟨⟨rfl, rfl⟩, Nat.le_of_ble_eq_true rfl, Nat.le_of_ble_eq_true rfl⟩ ⟨Nat.le_of_ble_eq_true rfl, Nat.le_of_ble_eq_true rfl⟩ rfl hl.1 rfl (Nat.le_of_ble_eq_true rfl) dX8_flush_2
  refine c_Vr hx hb hml hown hts hV hK hM hS (As := [.int p1]) (rest := []) (k_X8_voiceOf G hG l a0 h0 p1 M e_1) w_X8_voiceOf (tk_572 hts) (c_9 h0) rfl rfl ⟨⟨rfl, rfl⟩, Nat.le_of_ble_eq_true rfl, Nat.le_of_ble_eq_true rfl⟩ ⟨Nat.zero_le _, Nat.zero_le _⟩ rfl hl.1 rfl (Nat.le_of_ble_eq_true rfl) dX8_flush_2 (fun H locs hM hS => ?_)
  have h_r2 := kr_X8_voiceOf hG a0 h0 p1 e_1
  refine lv_astore_n (lv' := [(2, .ref r2), (0, .ref a0), (1, .int p1)]) hx hb dX8_flush_5 rfl hl (by decide) rfl (fun ls hl => ?_)
  refine lv_aload_n hx hb dX8_flush_6 rfl (lv_at hl 0 rfl) ?_
  refine s_getN hx hb (lay_7 hts) hown hK hM (c_8 h_r2) rfl 0 (by decide) rfl rfl (tk_213 hts) dX8_flush_7 ?_
  refine s_getN hx hb (lay_3 hts) hown hK hM (c_4 (ky_8_0 hG h_r2)) rfl 4 (by decide) rfl rfl (tk_128 hts) dX8_flush_10 ?_
  refine s_getN hx hb (lay_2 hts) hown hK hM (c_3 (ky_4_4 hG (ky_8_0 hG h_r2))) rfl 2 (by decide) rfl rfl (tk_90 hts) dX8_flush_13 ?_
  obtain ⟨y4, ey4, hf⟩ := nb_e hf
  refine s_nm ey4 ?_
  refine lv_istore_n (lv' := [(3, .int y4), (2, .ref r2), (0, .ref a0), (1, .int p1)]) hx hb dX8_flush_16 rfl hl (by decide) rfl (fun ls hl => ?_)
  refine lv_iload_n hx hb dX8_flush_17 rfl (lv_at hl 0 rfl) ?_
  refine lv_if_ne (tgt := 31) hx hb dX8_flush_18 (by decide) (fun g_5 => ?_) (fun g_5 => ?_)
  · rw [if_neg g_5] at hf
    refine lv_aload_n hx hb dX8_flush_31 rfl (lv_at hl 1 rfl) ?_
    obtain ⟨r7, e_6, hf⟩ := vb_e hf
    refine c_Vi hx hb hml hown hts hV hK hM hS (As := []) (rest := []) (k_X7_hasRoom G hG l r2 h_r2 M3 e_6) w_X7_hasRoom (tk_744 hts) (c_8 h_r2) rfl rfl ⟨⟨rfl, rfl⟩, Nat.le_of_ble_eq_true rfl, Nat.le_of_ble_eq_true rfl⟩ ⟨Nat.zero_le _, Nat.zero_le _⟩ rfl hl.1 rfl (Nat.le_of_ble_eq_true rfl) dX8_flush_32 (fun H locs hM hS => ?_)
    refine lv_if_ne (tgt := 48) hx hb dX8_flush_35 (by decide) (fun g_8 => ?_) (fun g_8 => ?_)
    · rw [if_neg g_8] at hf
      refine lv_aload_n hx hb dX8_flush_48 rfl (lv_at hl 2 rfl) ?_
      obtain ⟨M10, e_9, hf⟩ := vb_e hf
      refine c_Vv hx hb hml hown hts hV hK hM hS (As := []) (rest := []) (k_X8_saveLive G hG l a0 h0 M3 e_9) w_X8_saveLive (tk_692 hts) (c_9 h0) rfl rfl ⟨⟨rfl, rfl⟩, Nat.le_of_ble_eq_true rfl, Nat.le_of_ble_eq_true rfl⟩ ⟨Nat.zero_le _, Nat.zero_le _⟩ rfl hl.1 rfl (Nat.le_of_ble_eq_true rfl) dX8_flush_49 (fun H locs hM hS => ?_)
      refine lv_aload_n hx hb dX8_flush_52 rfl (lv_at hl 1 rfl) ?_
      refine lv_aload_n hx hb dX8_flush_53 rfl (lv_at hl 2 rfl) ?_
      refine s_get hx hb (lay_8 hts) hown hK hM (c_9 h0) rfl 0 (by decide) rfl rfl (tk_280 hts) dX8_flush_54 ?_
      refine s_getN hx hb (lay_5 hts) hown hK hM (c_6 (ky_9_0 hG h0)) rfl 1 (by decide) rfl rfl (tk_236 hts) dX8_flush_57 ?_
      obtain ⟨M12, e_11, hf⟩ := vb_e hf
      refine c_Vv hx hb hml hown hts hV hK hM hS (As := [.ref ((a0 + 1) + 2)]) (rest := []) (k_X7_closePacket G hG l r2 h_r2 ((a0 + 1) + 2) (ky_6_1 hG (ky_9_0 hG h0)) M10 e_11) w_X7_closePacket (tk_745 hts) (c_8 h_r2) rfl rfl ⟨⟨rfl, rfl⟩, Nat.le_of_ble_eq_true rfl, Nat.le_of_ble_eq_true rfl⟩ ⟨Nat.zero_le _, Nat.zero_le _⟩ rfl hl.1 rfl (Nat.le_of_ble_eq_true rfl) dX8_flush_60 (fun H locs hM hS => ?_)
      refine lv_iload_n hx hb dX8_flush_63 rfl (lv_at hl 0 rfl) ?_
      exact (xf_no hf hj).elim
    · rw [if_pos g_8] at hf
      exact s_throwS hx hb hfl hml hown hlocks ht hts hT0 hM hS (show exN 3 = "java/lang/IllegalStateException" from rfl) (by decide +kernel) (tk_676 hts) (tk_16 hts) (hts.2 (64, "the wire has no room for the packet") (by decide +kernel)) at_66 hl.1 dX8_flush_38 dX8_flush_41 dX8_flush_42 dX8_flush_44 dX8_flush_47 ⟨Nat.le_of_ble_eq_true rfl, Nat.le_of_ble_eq_true rfl, Nat.le_of_ble_eq_true rfl, Nat.le_of_ble_eq_true rfl⟩ hf
  · rw [if_pos g_5] at hf
    exact s_throwS hx hb hfl hml hown hlocks ht hts hT0 hM hS (show exN 3 = "java/lang/IllegalStateException" from rfl) (by decide +kernel) (tk_676 hts) (tk_16 hts) (hts.2 (92, "no codes were gathered") (by decide +kernel)) at_66 hl.1 dX8_flush_21 dX8_flush_24 dX8_flush_25 dX8_flush_27 dX8_flush_30 ⟨Nat.le_of_ble_eq_true rfl, Nat.le_of_ble_eq_true rfl, Nat.le_of_ble_eq_true rfl, Nat.le_of_ble_eq_true rfl⟩ hf
def f_X8_requireWaiting (a0 : Nat) (p1 : Int32) (M : Mem) : Option (Nat × Unit × Mem) := if p1 ≤ (mI M a0 3) then (some (0, (), M)) else (some (3, (), M))
set_option maxHeartbeats 4000000 in
set_option maxRecDepth 100000 in
theorem k_X8_requireWaiting (G : Gt) (hG : gOK G) (l : Launch) (a0 : Nat) (h0 : gK G a0 = 8) (p1 : Int32) (M : Mem) {r : Unit} {M' : Mem} (hf : f_X8_requireWaiting a0 p1 M = some (0, r, M')) : Kc G l yX8_requireWaiting cX8_requireWaiting 2 none ({ frames := 6, cells := 0, slots := 0, locals := 82 } : Room) [.ref a0, .int p1] M none M' := by
  refine start (by decide) (Nat.le_of_ble_eq_true rfl) ?_
  intro p e s m args below meth c ls hx hb hr hown hml hlocks hts hV hM hl
  have hown : s.vm.findClass "FoldedVoices" = some m.cls := hown
  have hK := hG.1.moved hV
  have hS : va_S (gA G) s.heap s.heap [] := va_S.rf
  have hl : lv_has ls 2 [(0, .ref a0), (1, .int p1)] := hl
  have hM0 := hM
  rw [f_X8_requireWaiting] at hf
  refine lv_aload_n hx hb dX8_requireWaiting_0 rfl (lv_at hl 0 rfl) ?_
  refine s_getN hx hb (lay_7 hts) hown hK hM (c_8 h0) rfl 3 (by decide) rfl rfl (tk_219 hts) dX8_requireWaiting_1 ?_
  refine lv_iload_n hx hb dX8_requireWaiting_4 rfl (lv_at hl 1 rfl) ?_
  refine lv_icmp_ge (tgt := 19) hx hb dX8_requireWaiting_5 (by decide) (fun g_1 => ?_) (fun g_1 => ?_)
  · rw [if_pos g_1] at hf
    exact ef_vx hx hb hr hlocks hM hS hf dX8_requireWaiting_19
  · rw [if_neg g_1] at hf
    exact (xf_no2 hf (by decide)).elim
set_option maxHeartbeats 4000000 in
set_option maxRecDepth 100000 in
theorem x_X8_requireWaiting (G : Gt) (hG : gOK G) (l : Launch) (hfl : l.stackTraces = false) (a0 : Nat) (h0 : gK G a0 = 8) (p1 : Int32) (M : Mem) {j : Nat} {r : Unit} {M' : Mem} (hj : j ≠ 0) (hf : f_X8_requireWaiting a0 p1 M = some (j, r, M')) : Kt G l yX8_requireWaiting cX8_requireWaiting 2 none ({ frames := 6, cells := 1, slots := 6, locals := 82 } : Room) [.ref a0, .int p1] M j M' := by
  refine startT (by decide) (Nat.le_of_ble_eq_true rfl) ?_
  intro p e s m args below meth c ls hx hb hr hown hml hlocks hts hV hM hl ht
  have hown : s.vm.findClass "FoldedVoices" = some m.cls := hown
  have hK := hG.1.moved hV
  have hS : va_S (gA G) s.heap s.heap [] := va_S.rf
  have hl : lv_has ls 2 [(0, .ref a0), (1, .int p1)] := hl
  have hM0 := hM
  have hT0 := gTh_at hG.2.2.2.2.2 hV hM
  rw [f_X8_requireWaiting] at hf
  refine lv_aload_n hx hb dX8_requireWaiting_0 rfl (lv_at hl 0 rfl) ?_
  refine s_getN hx hb (lay_7 hts) hown hK hM (c_8 h0) rfl 3 (by decide) rfl rfl (tk_219 hts) dX8_requireWaiting_1 ?_
  refine lv_iload_n hx hb dX8_requireWaiting_4 rfl (lv_at hl 1 rfl) ?_
  refine lv_icmp_ge (tgt := 19) hx hb dX8_requireWaiting_5 (by decide) (fun g_1 => ?_) (fun g_1 => ?_)
  · rw [if_pos g_1] at hf
    exact (xf_no hf hj).elim
  · rw [if_neg g_1] at hf
    exact s_throwSW hx hb hfl hml hown hlocks ht hts hT0 hM hS (show exN 3 = "java/lang/IllegalStateException" from rfl) (by decide +kernel) (tk_676 hts) (tk_16 hts) (hts.2 (290, "too few packets wait") (by decide +kernel)) at_66 hl.1 dX8_requireWaiting_8 dX8_requireWaiting_11 dX8_requireWaiting_12 dX8_requireWaiting_15 dX8_requireWaiting_18 ⟨Nat.le_of_ble_eq_true rfl, Nat.le_of_ble_eq_true rfl, Nat.le_of_ble_eq_true rfl, Nat.le_of_ble_eq_true rfl⟩ hf
def f_X8_deliver (a0 : Nat) (p1 : Int32) (M : Mem) : Option (Nat × Int32 × Mem) := xb 0 (f_X8_voiceOf a0 p1 M) fun r2 M3 => xb 0 (f_X8_requireWaiting r2 1 M3) fun r5 M6 => vb (f_X8_saveLive a0 M6) fun M8 => cb (f_X7_bringFirst r2 M8) fun r10 M11 => some (0, r10, M11)
set_option maxHeartbeats 4000000 in
set_option maxRecDepth 100000 in
theorem k_X8_deliver (G : Gt) (hG : gOK G) (l : Launch) (a0 : Nat) (h0 : gK G a0 = 9) (p1 : Int32) (M : Mem) {r : Int32} {M' : Mem} (hf : f_X8_deliver a0 p1 M = some (0, r, M')) : Kc G l yX8_deliver cX8_deliver 3 (some .int) ({ frames := 7, cells := 0, slots := 0, locals := 132 } : Room) [.ref a0, .int p1] M (some (.int r)) M' := by
  refine start (by decide) (Nat.le_of_ble_eq_true rfl) ?_
  intro p e s m args below meth c ls hx hb hr hown hml hlocks hts hV hM hl
  have hown : s.vm.findClass "FoldedVoices" = some m.cls := hown
  have hK := hG.1.moved hV
  have hS : va_S (gA G) s.heap s.heap [] := va_S.rf
  have hl : lv_has ls 3 [(0, .ref a0), (1, .int p1)] := hl
  have hM0 := hM
  rw [f_X8_deliver] at hf
  refine lv_aload_n hx hb dX8_deliver_0 rfl (lv_at hl 0 rfl) ?_
  refine lv_iload_n hx hb dX8_deliver_1 rfl (lv_at hl 1 rfl) ?_
  obtain ⟨r2, M3, e_1, hf⟩ := xb_r hf
  refine c_Vr hx hb hml hown hts hV hK hM hS (As := [.int p1]) (rest := []) (k_X8_voiceOf G hG l a0 h0 p1 M e_1) w_X8_voiceOf (tk_572 hts) (c_9 h0) rfl rfl ⟨⟨rfl, rfl⟩, Nat.le_of_ble_eq_true rfl, Nat.le_of_ble_eq_true rfl⟩ ⟨Nat.zero_le _, Nat.zero_le _⟩ rfl hl.1 rfl (Nat.le_of_ble_eq_true rfl) dX8_deliver_2 (fun H locs hM hS => ?_)
  have h_r2 := kr_X8_voiceOf hG a0 h0 p1 e_1
  refine lv_astore_n (lv' := [(2, .ref r2), (0, .ref a0), (1, .int p1)]) hx hb dX8_deliver_5 rfl hl (by decide) rfl (fun ls hl => ?_)
  refine lv_aload_n hx hb dX8_deliver_6 rfl (lv_at hl 0 rfl) ?_
  refine lv_iconst (v := 1) hx hb dX8_deliver_7 (by decide) ?_
  obtain ⟨r5, M6, e_4, hf⟩ := xb_r hf
  refine c_Sv hx hb hml hown hts hV hM hS (As := [.ref r2, .int 1]) (rest := []) (k_X8_requireWaiting G hG l r2 h_r2 1 M3 e_4) w_X8_requireWaiting (tk_753 hts) ⟨⟨rfl, rfl⟩, Nat.le_of_ble_eq_true rfl, Nat.le_of_ble_eq_true rfl⟩ ⟨Nat.zero_le _, Nat.zero_le _⟩ rfl hl.1 rfl (Nat.le_of_ble_eq_true rfl) dX8_deliver_8 (fun H locs hM hS => ?_)
  refine lv_aload_n hx hb dX8_deliver_11 rfl (lv_at hl 1 rfl) ?_
  obtain ⟨M8, e_7, hf⟩ := vb_e hf
  refine c_Vv hx hb hml hown hts hV hK hM hS (As := []) (rest := []) (k_X8_saveLive G hG l a0 h0 M6 e_7) w_X8_saveLive (tk_692 hts) (c_9 h0) rfl rfl ⟨⟨rfl, rfl⟩, Nat.le_of_ble_eq_true rfl, Nat.le_of_ble_eq_true rfl⟩ ⟨Nat.zero_le _, Nat.zero_le _⟩ rfl hl.1 rfl (Nat.le_of_ble_eq_true rfl) dX8_deliver_12 (fun H locs hM hS => ?_)
  refine lv_aload_n hx hb dX8_deliver_15 rfl (lv_at hl 0 rfl) ?_
  obtain ⟨r10, M11, e_9, hf⟩ := cb_e hf
  refine c_Vi hx hb hml hown hts hV hK hM hS (As := []) (rest := []) (k_X7_bringFirst G hG l r2 h_r2 M8 e_9) w_X7_bringFirst (tk_757 hts) (c_8 h_r2) rfl rfl ⟨⟨rfl, rfl⟩, Nat.le_of_ble_eq_true rfl, Nat.le_of_ble_eq_true rfl⟩ ⟨Nat.zero_le _, Nat.zero_le _⟩ rfl hl.1 rfl (Nat.le_of_ble_eq_true rfl) dX8_deliver_16 (fun H locs hM hS => ?_)
  exact ef_ix hx hb hr hlocks hM hS hf dX8_deliver_19
set_option maxHeartbeats 4000000 in
set_option maxRecDepth 100000 in
theorem x_X8_deliver (G : Gt) (hG : gOK G) (l : Launch) (hfl : l.stackTraces = false) (a0 : Nat) (h0 : gK G a0 = 9) (p1 : Int32) (M : Mem) {j : Nat} {r : Int32} {M' : Mem} (hj : j ≠ 0) (hf : f_X8_deliver a0 p1 M = some (j, r, M')) : Kt G l yX8_deliver cX8_deliver 3 (some .int) ({ frames := 7, cells := 1, slots := 6, locals := 132 } : Room) [.ref a0, .int p1] M j M' := by
  refine startT (by decide) (Nat.le_of_ble_eq_true rfl) ?_
  intro p e s m args below meth c ls hx hb hr hown hml hlocks hts hV hM hl ht
  have hown : s.vm.findClass "FoldedVoices" = some m.cls := hown
  have hK := hG.1.moved hV
  have hS : va_S (gA G) s.heap s.heap [] := va_S.rf
  have hl : lv_has ls 3 [(0, .ref a0), (1, .int p1)] := hl
  have hM0 := hM
  have hT0 := gTh_at hG.2.2.2.2.2 hV hM
  rw [f_X8_deliver] at hf
  refine lv_aload_n hx hb dX8_deliver_0 rfl (lv_at hl 0 rfl) ?_
  refine lv_iload_n hx hb dX8_deliver_1 rfl (lv_at hl 1 rfl) ?_
  rcases xb_t hj hf with ⟨r2, e_1⟩ | ⟨r2, M3, e_1, hf⟩
  · exact c_Vt hx hb hml hown hlocks ht hts hV hK hM hS (As := [.int p1]) (rest := []) (x_X8_voiceOf G hG l hfl a0 h0 p1 M hj e_1) w_X8_voiceOf (tk_572 hts) (c_9 h0) rfl rfl ⟨⟨rfl, rfl⟩, Nat.le_of_ble_eq_true rfl, Nat.le_of_ble_eq_true rfl⟩ ⟨Nat.le_of_ble_eq_true rfl, Nat.le_of_ble_eq_true rfl⟩ rfl hl.1 rfl (Nat.le_of_ble_eq_true rfl) dX8_deliver_2
  refine c_Vr hx hb hml hown hts hV hK hM hS (As := [.int p1]) (rest := []) (k_X8_voiceOf G hG l a0 h0 p1 M e_1) w_X8_voiceOf (tk_572 hts) (c_9 h0) rfl rfl ⟨⟨rfl, rfl⟩, Nat.le_of_ble_eq_true rfl, Nat.le_of_ble_eq_true rfl⟩ ⟨Nat.zero_le _, Nat.zero_le _⟩ rfl hl.1 rfl (Nat.le_of_ble_eq_true rfl) dX8_deliver_2 (fun H locs hM hS => ?_)
  have h_r2 := kr_X8_voiceOf hG a0 h0 p1 e_1
  refine lv_astore_n (lv' := [(2, .ref r2), (0, .ref a0), (1, .int p1)]) hx hb dX8_deliver_5 rfl hl (by decide) rfl (fun ls hl => ?_)
  refine lv_aload_n hx hb dX8_deliver_6 rfl (lv_at hl 0 rfl) ?_
  refine lv_iconst (v := 1) hx hb dX8_deliver_7 (by decide) ?_
  rcases xb_t hj hf with ⟨r5, e_4⟩ | ⟨r5, M6, e_4, hf⟩
  · exact c_St hx hb hml hown hlocks ht hts hV hM hS (As := [.ref r2, .int 1]) (rest := []) (x_X8_requireWaiting G hG l hfl r2 h_r2 1 M3 hj e_4) w_X8_requireWaiting (tk_753 hts) ⟨⟨rfl, rfl⟩, Nat.le_of_ble_eq_true rfl, Nat.le_of_ble_eq_true rfl⟩ ⟨Nat.le_of_ble_eq_true rfl, Nat.le_of_ble_eq_true rfl⟩ rfl hl.1 rfl (Nat.le_of_ble_eq_true rfl) dX8_deliver_8
  refine c_Sv hx hb hml hown hts hV hM hS (As := [.ref r2, .int 1]) (rest := []) (k_X8_requireWaiting G hG l r2 h_r2 1 M3 e_4) w_X8_requireWaiting (tk_753 hts) ⟨⟨rfl, rfl⟩, Nat.le_of_ble_eq_true rfl, Nat.le_of_ble_eq_true rfl⟩ ⟨Nat.zero_le _, Nat.zero_le _⟩ rfl hl.1 rfl (Nat.le_of_ble_eq_true rfl) dX8_deliver_8 (fun H locs hM hS => ?_)
  refine lv_aload_n hx hb dX8_deliver_11 rfl (lv_at hl 1 rfl) ?_
  obtain ⟨M8, e_7, hf⟩ := vb_e hf
  refine c_Vv hx hb hml hown hts hV hK hM hS (As := []) (rest := []) (k_X8_saveLive G hG l a0 h0 M6 e_7) w_X8_saveLive (tk_692 hts) (c_9 h0) rfl rfl ⟨⟨rfl, rfl⟩, Nat.le_of_ble_eq_true rfl, Nat.le_of_ble_eq_true rfl⟩ ⟨Nat.zero_le _, Nat.zero_le _⟩ rfl hl.1 rfl (Nat.le_of_ble_eq_true rfl) dX8_deliver_12 (fun H locs hM hS => ?_)
  refine lv_aload_n hx hb dX8_deliver_15 rfl (lv_at hl 0 rfl) ?_
  obtain ⟨r10, M11, e_9, hf⟩ := cb_e hf
  refine c_Vi hx hb hml hown hts hV hK hM hS (As := []) (rest := []) (k_X7_bringFirst G hG l r2 h_r2 M8 e_9) w_X7_bringFirst (tk_757 hts) (c_8 h_r2) rfl rfl ⟨⟨rfl, rfl⟩, Nat.le_of_ble_eq_true rfl, Nat.le_of_ble_eq_true rfl⟩ ⟨Nat.zero_le _, Nat.zero_le _⟩ rfl hl.1 rfl (Nat.le_of_ble_eq_true rfl) dX8_deliver_16 (fun H locs hM hS => ?_)
  exact (xf_no hf hj).elim
def f_X8_lose (a0 : Nat) (p1 : Int32) (M : Mem) : Option (Nat × Int32 × Mem) := xb 0 (f_X8_voiceOf a0 p1 M) fun r2 M3 => xb 0 (f_X8_requireWaiting r2 1 M3) fun r5 M6 => vb (f_X8_saveLive a0 M6) fun M8 => cb (f_X7_dropFirst r2 M8) fun r10 M11 => some (0, r10, M11)
set_option maxHeartbeats 4000000 in
set_option maxRecDepth 100000 in
theorem k_X8_lose (G : Gt) (hG : gOK G) (l : Launch) (a0 : Nat) (h0 : gK G a0 = 9) (p1 : Int32) (M : Mem) {r : Int32} {M' : Mem} (hf : f_X8_lose a0 p1 M = some (0, r, M')) : Kc G l yX8_lose cX8_lose 3 (some .int) ({ frames := 7, cells := 0, slots := 0, locals := 132 } : Room) [.ref a0, .int p1] M (some (.int r)) M' := by
  refine start (by decide) (Nat.le_of_ble_eq_true rfl) ?_
  intro p e s m args below meth c ls hx hb hr hown hml hlocks hts hV hM hl
  have hown : s.vm.findClass "FoldedVoices" = some m.cls := hown
  have hK := hG.1.moved hV
  have hS : va_S (gA G) s.heap s.heap [] := va_S.rf
  have hl : lv_has ls 3 [(0, .ref a0), (1, .int p1)] := hl
  have hM0 := hM
  rw [f_X8_lose] at hf
  refine lv_aload_n hx hb dX8_lose_0 rfl (lv_at hl 0 rfl) ?_
  refine lv_iload_n hx hb dX8_lose_1 rfl (lv_at hl 1 rfl) ?_
  obtain ⟨r2, M3, e_1, hf⟩ := xb_r hf
  refine c_Vr hx hb hml hown hts hV hK hM hS (As := [.int p1]) (rest := []) (k_X8_voiceOf G hG l a0 h0 p1 M e_1) w_X8_voiceOf (tk_572 hts) (c_9 h0) rfl rfl ⟨⟨rfl, rfl⟩, Nat.le_of_ble_eq_true rfl, Nat.le_of_ble_eq_true rfl⟩ ⟨Nat.zero_le _, Nat.zero_le _⟩ rfl hl.1 rfl (Nat.le_of_ble_eq_true rfl) dX8_lose_2 (fun H locs hM hS => ?_)
  have h_r2 := kr_X8_voiceOf hG a0 h0 p1 e_1
  refine lv_astore_n (lv' := [(2, .ref r2), (0, .ref a0), (1, .int p1)]) hx hb dX8_lose_5 rfl hl (by decide) rfl (fun ls hl => ?_)
  refine lv_aload_n hx hb dX8_lose_6 rfl (lv_at hl 0 rfl) ?_
  refine lv_iconst (v := 1) hx hb dX8_lose_7 (by decide) ?_
  obtain ⟨r5, M6, e_4, hf⟩ := xb_r hf
  refine c_Sv hx hb hml hown hts hV hM hS (As := [.ref r2, .int 1]) (rest := []) (k_X8_requireWaiting G hG l r2 h_r2 1 M3 e_4) w_X8_requireWaiting (tk_753 hts) ⟨⟨rfl, rfl⟩, Nat.le_of_ble_eq_true rfl, Nat.le_of_ble_eq_true rfl⟩ ⟨Nat.zero_le _, Nat.zero_le _⟩ rfl hl.1 rfl (Nat.le_of_ble_eq_true rfl) dX8_lose_8 (fun H locs hM hS => ?_)
  refine lv_aload_n hx hb dX8_lose_11 rfl (lv_at hl 1 rfl) ?_
  obtain ⟨M8, e_7, hf⟩ := vb_e hf
  refine c_Vv hx hb hml hown hts hV hK hM hS (As := []) (rest := []) (k_X8_saveLive G hG l a0 h0 M6 e_7) w_X8_saveLive (tk_692 hts) (c_9 h0) rfl rfl ⟨⟨rfl, rfl⟩, Nat.le_of_ble_eq_true rfl, Nat.le_of_ble_eq_true rfl⟩ ⟨Nat.zero_le _, Nat.zero_le _⟩ rfl hl.1 rfl (Nat.le_of_ble_eq_true rfl) dX8_lose_12 (fun H locs hM hS => ?_)
  refine lv_aload_n hx hb dX8_lose_15 rfl (lv_at hl 0 rfl) ?_
  obtain ⟨r10, M11, e_9, hf⟩ := cb_e hf
  refine c_Vi hx hb hml hown hts hV hK hM hS (As := []) (rest := []) (k_X7_dropFirst G hG l r2 h_r2 M8 e_9) w_X7_dropFirst (tk_773 hts) (c_8 h_r2) rfl rfl ⟨⟨rfl, rfl⟩, Nat.le_of_ble_eq_true rfl, Nat.le_of_ble_eq_true rfl⟩ ⟨Nat.zero_le _, Nat.zero_le _⟩ rfl hl.1 rfl (Nat.le_of_ble_eq_true rfl) dX8_lose_16 (fun H locs hM hS => ?_)
  exact ef_ix hx hb hr hlocks hM hS hf dX8_lose_19
set_option maxHeartbeats 4000000 in
set_option maxRecDepth 100000 in
theorem x_X8_lose (G : Gt) (hG : gOK G) (l : Launch) (hfl : l.stackTraces = false) (a0 : Nat) (h0 : gK G a0 = 9) (p1 : Int32) (M : Mem) {j : Nat} {r : Int32} {M' : Mem} (hj : j ≠ 0) (hf : f_X8_lose a0 p1 M = some (j, r, M')) : Kt G l yX8_lose cX8_lose 3 (some .int) ({ frames := 7, cells := 1, slots := 6, locals := 132 } : Room) [.ref a0, .int p1] M j M' := by
  refine startT (by decide) (Nat.le_of_ble_eq_true rfl) ?_
  intro p e s m args below meth c ls hx hb hr hown hml hlocks hts hV hM hl ht
  have hown : s.vm.findClass "FoldedVoices" = some m.cls := hown
  have hK := hG.1.moved hV
  have hS : va_S (gA G) s.heap s.heap [] := va_S.rf
  have hl : lv_has ls 3 [(0, .ref a0), (1, .int p1)] := hl
  have hM0 := hM
  have hT0 := gTh_at hG.2.2.2.2.2 hV hM
  rw [f_X8_lose] at hf
  refine lv_aload_n hx hb dX8_lose_0 rfl (lv_at hl 0 rfl) ?_
  refine lv_iload_n hx hb dX8_lose_1 rfl (lv_at hl 1 rfl) ?_
  rcases xb_t hj hf with ⟨r2, e_1⟩ | ⟨r2, M3, e_1, hf⟩
  · exact c_Vt hx hb hml hown hlocks ht hts hV hK hM hS (As := [.int p1]) (rest := []) (x_X8_voiceOf G hG l hfl a0 h0 p1 M hj e_1) w_X8_voiceOf (tk_572 hts) (c_9 h0) rfl rfl ⟨⟨rfl, rfl⟩, Nat.le_of_ble_eq_true rfl, Nat.le_of_ble_eq_true rfl⟩ ⟨Nat.le_of_ble_eq_true rfl, Nat.le_of_ble_eq_true rfl⟩ rfl hl.1 rfl (Nat.le_of_ble_eq_true rfl) dX8_lose_2
  refine c_Vr hx hb hml hown hts hV hK hM hS (As := [.int p1]) (rest := []) (k_X8_voiceOf G hG l a0 h0 p1 M e_1) w_X8_voiceOf (tk_572 hts) (c_9 h0) rfl rfl ⟨⟨rfl, rfl⟩, Nat.le_of_ble_eq_true rfl, Nat.le_of_ble_eq_true rfl⟩ ⟨Nat.zero_le _, Nat.zero_le _⟩ rfl hl.1 rfl (Nat.le_of_ble_eq_true rfl) dX8_lose_2 (fun H locs hM hS => ?_)
  have h_r2 := kr_X8_voiceOf hG a0 h0 p1 e_1
  refine lv_astore_n (lv' := [(2, .ref r2), (0, .ref a0), (1, .int p1)]) hx hb dX8_lose_5 rfl hl (by decide) rfl (fun ls hl => ?_)
  refine lv_aload_n hx hb dX8_lose_6 rfl (lv_at hl 0 rfl) ?_
  refine lv_iconst (v := 1) hx hb dX8_lose_7 (by decide) ?_
  rcases xb_t hj hf with ⟨r5, e_4⟩ | ⟨r5, M6, e_4, hf⟩
  · exact c_St hx hb hml hown hlocks ht hts hV hM hS (As := [.ref r2, .int 1]) (rest := []) (x_X8_requireWaiting G hG l hfl r2 h_r2 1 M3 hj e_4) w_X8_requireWaiting (tk_753 hts) ⟨⟨rfl, rfl⟩, Nat.le_of_ble_eq_true rfl, Nat.le_of_ble_eq_true rfl⟩ ⟨Nat.le_of_ble_eq_true rfl, Nat.le_of_ble_eq_true rfl⟩ rfl hl.1 rfl (Nat.le_of_ble_eq_true rfl) dX8_lose_8
  refine c_Sv hx hb hml hown hts hV hM hS (As := [.ref r2, .int 1]) (rest := []) (k_X8_requireWaiting G hG l r2 h_r2 1 M3 e_4) w_X8_requireWaiting (tk_753 hts) ⟨⟨rfl, rfl⟩, Nat.le_of_ble_eq_true rfl, Nat.le_of_ble_eq_true rfl⟩ ⟨Nat.zero_le _, Nat.zero_le _⟩ rfl hl.1 rfl (Nat.le_of_ble_eq_true rfl) dX8_lose_8 (fun H locs hM hS => ?_)
  refine lv_aload_n hx hb dX8_lose_11 rfl (lv_at hl 1 rfl) ?_
  obtain ⟨M8, e_7, hf⟩ := vb_e hf
  refine c_Vv hx hb hml hown hts hV hK hM hS (As := []) (rest := []) (k_X8_saveLive G hG l a0 h0 M6 e_7) w_X8_saveLive (tk_692 hts) (c_9 h0) rfl rfl ⟨⟨rfl, rfl⟩, Nat.le_of_ble_eq_true rfl, Nat.le_of_ble_eq_true rfl⟩ ⟨Nat.zero_le _, Nat.zero_le _⟩ rfl hl.1 rfl (Nat.le_of_ble_eq_true rfl) dX8_lose_12 (fun H locs hM hS => ?_)
  refine lv_aload_n hx hb dX8_lose_15 rfl (lv_at hl 0 rfl) ?_
  obtain ⟨r10, M11, e_9, hf⟩ := cb_e hf
  refine c_Vi hx hb hml hown hts hV hK hM hS (As := []) (rest := []) (k_X7_dropFirst G hG l r2 h_r2 M8 e_9) w_X7_dropFirst (tk_773 hts) (c_8 h_r2) rfl rfl ⟨⟨rfl, rfl⟩, Nat.le_of_ble_eq_true rfl, Nat.le_of_ble_eq_true rfl⟩ ⟨Nat.zero_le _, Nat.zero_le _⟩ rfl hl.1 rfl (Nat.le_of_ble_eq_true rfl) dX8_lose_16 (fun H locs hM hS => ?_)
  exact (xf_no hf hj).elim
def f_X8_swap (a0 : Nat) (p1 : Int32) (M : Mem) : Option (Nat × Int32 × Mem) := xb 0 (f_X8_voiceOf a0 p1 M) fun r2 M3 => xb 0 (f_X8_requireWaiting r2 2 M3) fun r5 M6 => vb (f_X8_saveLive a0 M6) fun M8 => cb (f_X7_exchangeFirstTwo r2 M8) fun r10 M11 => some (0, r10, M11)
set_option maxHeartbeats 4000000 in
set_option maxRecDepth 100000 in
theorem k_X8_swap (G : Gt) (hG : gOK G) (l : Launch) (a0 : Nat) (h0 : gK G a0 = 9) (p1 : Int32) (M : Mem) {r : Int32} {M' : Mem} (hf : f_X8_swap a0 p1 M = some (0, r, M')) : Kc G l yX8_swap cX8_swap 3 (some .int) ({ frames := 7, cells := 0, slots := 0, locals := 132 } : Room) [.ref a0, .int p1] M (some (.int r)) M' := by
  refine start (by decide) (Nat.le_of_ble_eq_true rfl) ?_
  intro p e s m args below meth c ls hx hb hr hown hml hlocks hts hV hM hl
  have hown : s.vm.findClass "FoldedVoices" = some m.cls := hown
  have hK := hG.1.moved hV
  have hS : va_S (gA G) s.heap s.heap [] := va_S.rf
  have hl : lv_has ls 3 [(0, .ref a0), (1, .int p1)] := hl
  have hM0 := hM
  rw [f_X8_swap] at hf
  refine lv_aload_n hx hb dX8_swap_0 rfl (lv_at hl 0 rfl) ?_
  refine lv_iload_n hx hb dX8_swap_1 rfl (lv_at hl 1 rfl) ?_
  obtain ⟨r2, M3, e_1, hf⟩ := xb_r hf
  refine c_Vr hx hb hml hown hts hV hK hM hS (As := [.int p1]) (rest := []) (k_X8_voiceOf G hG l a0 h0 p1 M e_1) w_X8_voiceOf (tk_572 hts) (c_9 h0) rfl rfl ⟨⟨rfl, rfl⟩, Nat.le_of_ble_eq_true rfl, Nat.le_of_ble_eq_true rfl⟩ ⟨Nat.zero_le _, Nat.zero_le _⟩ rfl hl.1 rfl (Nat.le_of_ble_eq_true rfl) dX8_swap_2 (fun H locs hM hS => ?_)
  have h_r2 := kr_X8_voiceOf hG a0 h0 p1 e_1
  refine lv_astore_n (lv' := [(2, .ref r2), (0, .ref a0), (1, .int p1)]) hx hb dX8_swap_5 rfl hl (by decide) rfl (fun ls hl => ?_)
  refine lv_aload_n hx hb dX8_swap_6 rfl (lv_at hl 0 rfl) ?_
  refine lv_iconst (v := 2) hx hb dX8_swap_7 (by decide) ?_
  obtain ⟨r5, M6, e_4, hf⟩ := xb_r hf
  refine c_Sv hx hb hml hown hts hV hM hS (As := [.ref r2, .int 2]) (rest := []) (k_X8_requireWaiting G hG l r2 h_r2 2 M3 e_4) w_X8_requireWaiting (tk_753 hts) ⟨⟨rfl, rfl⟩, Nat.le_of_ble_eq_true rfl, Nat.le_of_ble_eq_true rfl⟩ ⟨Nat.zero_le _, Nat.zero_le _⟩ rfl hl.1 rfl (Nat.le_of_ble_eq_true rfl) dX8_swap_8 (fun H locs hM hS => ?_)
  refine lv_aload_n hx hb dX8_swap_11 rfl (lv_at hl 1 rfl) ?_
  obtain ⟨M8, e_7, hf⟩ := vb_e hf
  refine c_Vv hx hb hml hown hts hV hK hM hS (As := []) (rest := []) (k_X8_saveLive G hG l a0 h0 M6 e_7) w_X8_saveLive (tk_692 hts) (c_9 h0) rfl rfl ⟨⟨rfl, rfl⟩, Nat.le_of_ble_eq_true rfl, Nat.le_of_ble_eq_true rfl⟩ ⟨Nat.zero_le _, Nat.zero_le _⟩ rfl hl.1 rfl (Nat.le_of_ble_eq_true rfl) dX8_swap_12 (fun H locs hM hS => ?_)
  refine lv_aload_n hx hb dX8_swap_15 rfl (lv_at hl 0 rfl) ?_
  obtain ⟨r10, M11, e_9, hf⟩ := cb_e hf
  refine c_Vi hx hb hml hown hts hV hK hM hS (As := []) (rest := []) (k_X7_exchangeFirstTwo G hG l r2 h_r2 M8 e_9) w_X7_exchangeFirstTwo (tk_784 hts) (c_8 h_r2) rfl rfl ⟨⟨rfl, rfl⟩, Nat.le_of_ble_eq_true rfl, Nat.le_of_ble_eq_true rfl⟩ ⟨Nat.zero_le _, Nat.zero_le _⟩ rfl hl.1 rfl (Nat.le_of_ble_eq_true rfl) dX8_swap_16 (fun H locs hM hS => ?_)
  exact ef_ix hx hb hr hlocks hM hS hf dX8_swap_19
set_option maxHeartbeats 4000000 in
set_option maxRecDepth 100000 in
theorem x_X8_swap (G : Gt) (hG : gOK G) (l : Launch) (hfl : l.stackTraces = false) (a0 : Nat) (h0 : gK G a0 = 9) (p1 : Int32) (M : Mem) {j : Nat} {r : Int32} {M' : Mem} (hj : j ≠ 0) (hf : f_X8_swap a0 p1 M = some (j, r, M')) : Kt G l yX8_swap cX8_swap 3 (some .int) ({ frames := 7, cells := 1, slots := 6, locals := 132 } : Room) [.ref a0, .int p1] M j M' := by
  refine startT (by decide) (Nat.le_of_ble_eq_true rfl) ?_
  intro p e s m args below meth c ls hx hb hr hown hml hlocks hts hV hM hl ht
  have hown : s.vm.findClass "FoldedVoices" = some m.cls := hown
  have hK := hG.1.moved hV
  have hS : va_S (gA G) s.heap s.heap [] := va_S.rf
  have hl : lv_has ls 3 [(0, .ref a0), (1, .int p1)] := hl
  have hM0 := hM
  have hT0 := gTh_at hG.2.2.2.2.2 hV hM
  rw [f_X8_swap] at hf
  refine lv_aload_n hx hb dX8_swap_0 rfl (lv_at hl 0 rfl) ?_
  refine lv_iload_n hx hb dX8_swap_1 rfl (lv_at hl 1 rfl) ?_
  rcases xb_t hj hf with ⟨r2, e_1⟩ | ⟨r2, M3, e_1, hf⟩
  · exact c_Vt hx hb hml hown hlocks ht hts hV hK hM hS (As := [.int p1]) (rest := []) (x_X8_voiceOf G hG l hfl a0 h0 p1 M hj e_1) w_X8_voiceOf (tk_572 hts) (c_9 h0) rfl rfl ⟨⟨rfl, rfl⟩, Nat.le_of_ble_eq_true rfl, Nat.le_of_ble_eq_true rfl⟩ ⟨Nat.le_of_ble_eq_true rfl, Nat.le_of_ble_eq_true rfl⟩ rfl hl.1 rfl (Nat.le_of_ble_eq_true rfl) dX8_swap_2
  refine c_Vr hx hb hml hown hts hV hK hM hS (As := [.int p1]) (rest := []) (k_X8_voiceOf G hG l a0 h0 p1 M e_1) w_X8_voiceOf (tk_572 hts) (c_9 h0) rfl rfl ⟨⟨rfl, rfl⟩, Nat.le_of_ble_eq_true rfl, Nat.le_of_ble_eq_true rfl⟩ ⟨Nat.zero_le _, Nat.zero_le _⟩ rfl hl.1 rfl (Nat.le_of_ble_eq_true rfl) dX8_swap_2 (fun H locs hM hS => ?_)
  have h_r2 := kr_X8_voiceOf hG a0 h0 p1 e_1
  refine lv_astore_n (lv' := [(2, .ref r2), (0, .ref a0), (1, .int p1)]) hx hb dX8_swap_5 rfl hl (by decide) rfl (fun ls hl => ?_)
  refine lv_aload_n hx hb dX8_swap_6 rfl (lv_at hl 0 rfl) ?_
  refine lv_iconst (v := 2) hx hb dX8_swap_7 (by decide) ?_
  rcases xb_t hj hf with ⟨r5, e_4⟩ | ⟨r5, M6, e_4, hf⟩
  · exact c_St hx hb hml hown hlocks ht hts hV hM hS (As := [.ref r2, .int 2]) (rest := []) (x_X8_requireWaiting G hG l hfl r2 h_r2 2 M3 hj e_4) w_X8_requireWaiting (tk_753 hts) ⟨⟨rfl, rfl⟩, Nat.le_of_ble_eq_true rfl, Nat.le_of_ble_eq_true rfl⟩ ⟨Nat.le_of_ble_eq_true rfl, Nat.le_of_ble_eq_true rfl⟩ rfl hl.1 rfl (Nat.le_of_ble_eq_true rfl) dX8_swap_8
  refine c_Sv hx hb hml hown hts hV hM hS (As := [.ref r2, .int 2]) (rest := []) (k_X8_requireWaiting G hG l r2 h_r2 2 M3 e_4) w_X8_requireWaiting (tk_753 hts) ⟨⟨rfl, rfl⟩, Nat.le_of_ble_eq_true rfl, Nat.le_of_ble_eq_true rfl⟩ ⟨Nat.zero_le _, Nat.zero_le _⟩ rfl hl.1 rfl (Nat.le_of_ble_eq_true rfl) dX8_swap_8 (fun H locs hM hS => ?_)
  refine lv_aload_n hx hb dX8_swap_11 rfl (lv_at hl 1 rfl) ?_
  obtain ⟨M8, e_7, hf⟩ := vb_e hf
  refine c_Vv hx hb hml hown hts hV hK hM hS (As := []) (rest := []) (k_X8_saveLive G hG l a0 h0 M6 e_7) w_X8_saveLive (tk_692 hts) (c_9 h0) rfl rfl ⟨⟨rfl, rfl⟩, Nat.le_of_ble_eq_true rfl, Nat.le_of_ble_eq_true rfl⟩ ⟨Nat.zero_le _, Nat.zero_le _⟩ rfl hl.1 rfl (Nat.le_of_ble_eq_true rfl) dX8_swap_12 (fun H locs hM hS => ?_)
  refine lv_aload_n hx hb dX8_swap_15 rfl (lv_at hl 0 rfl) ?_
  obtain ⟨r10, M11, e_9, hf⟩ := cb_e hf
  refine c_Vi hx hb hml hown hts hV hK hM hS (As := []) (rest := []) (k_X7_exchangeFirstTwo G hG l r2 h_r2 M8 e_9) w_X7_exchangeFirstTwo (tk_784 hts) (c_8 h_r2) rfl rfl ⟨⟨rfl, rfl⟩, Nat.le_of_ble_eq_true rfl, Nat.le_of_ble_eq_true rfl⟩ ⟨Nat.zero_le _, Nat.zero_le _⟩ rfl hl.1 rfl (Nat.le_of_ble_eq_true rfl) dX8_swap_16 (fun H locs hM hS => ?_)
  exact (xf_no hf hj).elim
def f_X8_requireSetting_b9 (p0 : Int32) (M : Mem) : Option (Nat × Unit × Mem) := some (1, (), M)
def f_X8_requireSetting (p0 : Int32) (M : Mem) : Option (Nat × Unit × Mem) := if p0 < 0 then (f_X8_requireSetting_b9 p0 M) else (if p0 ≤ (3 : Int32) then (some (0, (), M)) else (f_X8_requireSetting_b9 p0 M))
set_option maxHeartbeats 4000000 in
set_option maxRecDepth 100000 in
theorem k_X8_requireSetting (G : Gt) (hG : gOK G) (l : Launch) (p0 : Int32) (M : Mem) {r : Unit} {M' : Mem} (hf : f_X8_requireSetting p0 M = some (0, r, M')) : Kc G l yX8_requireSetting cX8_requireSetting 1 none ({ frames := 6, cells := 0, slots := 0, locals := 82 } : Room) [.int p0] M none M' := by
  refine start (by decide) (Nat.le_of_ble_eq_true rfl) ?_
  intro p e s m args below meth c ls hx hb hr hown hml hlocks hts hV hM hl
  have hown : s.vm.findClass "FoldedVoices" = some m.cls := hown
  have hK := hG.1.moved hV
  have hS : va_S (gA G) s.heap s.heap [] := va_S.rf
  have hl : lv_has ls 1 [(0, .int p0)] := hl
  have hM0 := hM
  have b9 : ∀ (M : Mem) (H : Heap) (locs : List Loc) (ls : Array Slot), Mh G M H → va_S (gA G) s.heap H locs → lv_has ls 1 [(0, .int p0)] → f_X8_requireSetting_b9 p0 M = some (0, r, M') → W p l e ({ frames := 6, cells := 0, slots := 0, locals := 82 } : Room) s m args below meth c H locs 0 0 (MQ below (QV G none M') args s 0 0 (gA G)) (F0 m 9 ls []) := by
    intro M H locs ls hM hS hl hf
    rw [f_X8_requireSetting_b9] at hf
    exact (xf_no2 hf (by decide)).elim
  rw [f_X8_requireSetting] at hf
  obtain ⟨H, hHe⟩ : ∃ H, H = s.heap := ⟨_, rfl⟩
  obtain ⟨locs, hLe⟩ : ∃ L : List Loc, L = [] := ⟨_, rfl⟩
  rw [← hHe] at hM
  have hS : va_S (gA G) s.heap H locs := by rw [hHe, hLe]; exact va_S.rf
  suffices hW : W p l e ({ frames := 6, cells := 0, slots := 0, locals := 82 } : Room) s m args below meth c H locs 0 0 (MQ below (QV G none M') args s 0 0 (gA G)) (F0 m 0 ls []) by rw [hHe, hLe] at hW; exact hW
  refine lv_iload_n hx hb dX8_requireSetting_0 rfl (lv_at hl 0 rfl) ?_
  refine lv_if_lt (tgt := 9) hx hb dX8_requireSetting_1 (by decide) (fun g_1 => ?_) (fun g_1 => ?_)
  · rw [if_pos g_1] at hf
    exact b9 _ H locs ls hM hS (lv_sub hl [0] rfl) hf
  · rw [if_neg g_1] at hf
    refine lv_iload_n hx hb dX8_requireSetting_4 rfl (lv_at hl 0 rfl) ?_
    refine lv_iconst (v := 3) hx hb dX8_requireSetting_5 (by decide) ?_
    refine lv_icmp_le (tgt := 20) hx hb dX8_requireSetting_6 (by decide) (fun g_2 => ?_) (fun g_2 => ?_)
    · rw [if_pos g_2] at hf
      exact ef_vx hx hb hr hlocks hM hS hf dX8_requireSetting_20
    · rw [if_neg g_2] at hf
      exact b9 _ H locs ls hM hS (lv_sub hl [0] rfl) hf
set_option maxHeartbeats 4000000 in
set_option maxRecDepth 100000 in
theorem x_X8_requireSetting (G : Gt) (hG : gOK G) (l : Launch) (hfl : l.stackTraces = false) (p0 : Int32) (M : Mem) {j : Nat} {r : Unit} {M' : Mem} (hj : j ≠ 0) (hf : f_X8_requireSetting p0 M = some (j, r, M')) : Kt G l yX8_requireSetting cX8_requireSetting 1 none ({ frames := 6, cells := 1, slots := 6, locals := 82 } : Room) [.int p0] M j M' := by
  refine startT (by decide) (Nat.le_of_ble_eq_true rfl) ?_
  intro p e s m args below meth c ls hx hb hr hown hml hlocks hts hV hM hl ht
  have hown : s.vm.findClass "FoldedVoices" = some m.cls := hown
  have hK := hG.1.moved hV
  have hS : va_S (gA G) s.heap s.heap [] := va_S.rf
  have hl : lv_has ls 1 [(0, .int p0)] := hl
  have hM0 := hM
  have hT0 := gTh_at hG.2.2.2.2.2 hV hM
  have b9 : ∀ (M : Mem) (H : Heap) (locs : List Loc) (ls : Array Slot), Mh G M H → va_S (gA G) s.heap H locs → lv_has ls 1 [(0, .int p0)] → f_X8_requireSetting_b9 p0 M = some (j, r, M') → W p l e ({ frames := 6, cells := 1, slots := 6, locals := 82 } : Room) s m args below meth c H locs 0 0 (vx_MQ below (fun _ _ _ _ => False) (XT G j M') args s 1 6 (gA G)) (F0 m 9 ls []) := by
    intro M H locs ls hM hS hl hf
    rw [f_X8_requireSetting_b9] at hf
    exact s_throwSW hx hb hfl hml hown hlocks ht hts hT0 hM hS (show exN 1 = "java/lang/IndexOutOfBoundsException" from rfl) (by decide +kernel) (tk_576 hts) (tk_14 hts) (hts.2 (281, "no such setting") (by decide +kernel)) at_223 hl.1 dX8_requireSetting_9 dX8_requireSetting_12 dX8_requireSetting_13 dX8_requireSetting_16 dX8_requireSetting_19 ⟨Nat.le_of_ble_eq_true rfl, Nat.le_of_ble_eq_true rfl, Nat.le_of_ble_eq_true rfl, Nat.le_of_ble_eq_true rfl⟩ hf
  rw [f_X8_requireSetting] at hf
  obtain ⟨H, hHe⟩ : ∃ H, H = s.heap := ⟨_, rfl⟩
  obtain ⟨locs, hLe⟩ : ∃ L : List Loc, L = [] := ⟨_, rfl⟩
  rw [← hHe] at hM
  have hS : va_S (gA G) s.heap H locs := by rw [hHe, hLe]; exact va_S.rf
  suffices hW : W p l e ({ frames := 6, cells := 1, slots := 6, locals := 82 } : Room) s m args below meth c H locs 0 0 (vx_MQ below (fun _ _ _ _ => False) (XT G j M') args s 1 6 (gA G)) (F0 m 0 ls []) by rw [hHe, hLe] at hW; exact hW
  refine lv_iload_n hx hb dX8_requireSetting_0 rfl (lv_at hl 0 rfl) ?_
  refine lv_if_lt (tgt := 9) hx hb dX8_requireSetting_1 (by decide) (fun g_1 => ?_) (fun g_1 => ?_)
  · rw [if_pos g_1] at hf
    exact b9 _ H locs ls hM hS (lv_sub hl [0] rfl) hf
  · rw [if_neg g_1] at hf
    refine lv_iload_n hx hb dX8_requireSetting_4 rfl (lv_at hl 0 rfl) ?_
    refine lv_iconst (v := 3) hx hb dX8_requireSetting_5 (by decide) ?_
    refine lv_icmp_le (tgt := 20) hx hb dX8_requireSetting_6 (by decide) (fun g_2 => ?_) (fun g_2 => ?_)
    · rw [if_pos g_2] at hf
      exact (xf_no hf hj).elim
    · rw [if_neg g_2] at hf
      exact b9 _ H locs ls hM hS (lv_sub hl [0] rfl) hf
