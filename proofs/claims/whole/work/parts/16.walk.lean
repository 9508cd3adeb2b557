def f_X8_lostShare (a0 : Nat) (M : Mem) : Option UInt32 := vb (f_X8_shareOfLost a0 M) fun r2 => some r2
set_option maxHeartbeats 4000000 in
set_option maxRecDepth 100000 in
theorem k_X8_lostShare (G : Gt) (hG : gOK G) (l : Launch) (a0 : Nat) (h0 : gK G a0 = 9) (M : Mem) {r : UInt32} (hf : f_X8_lostShare a0 M = some r) : Kc G l yX8_lostShare cX8_lostShare 1 (some .float) ({ frames := 3, cells := 0, slots := 0, locals := 65 } : Room) [.ref a0] M (some (.float r)) M := by
  refine start (by decide) (Nat.le_of_ble_eq_true rfl) ?_
  intro p e s m args below meth c ls hx hb hr hown hml hlocks hts hV hM hl
  have hown : s.vm.findClass "FoldedVoices" = some m.cls := hown
  have hK := hG.1.moved hV
  have hS : va_S (gA G) s.heap s.heap [] := va_S.rf
  have hl : lv_has ls 1 [(0, .ref a0)] := hl
  have hM0 := hM
  rw [f_X8_lostShare] at hf
  refine lv_aload_n hx hb dX8_lostShare_0 rfl (lv_at hl 0 rfl) ?_
  obtain ⟨r2, e_1, hf⟩ := vb_e hf
  refine c_Vf hx hb hml hown hts hV hK hM hS (As := []) (rest := []) (k_X8_shareOfLost G hG l a0 h0 M e_1) w_X8_shareOfLost (tk_394 hts) (c_9 h0) rfl rfl ⟨⟨rfl, rfl⟩, Nat.le_of_ble_eq_true rfl, Nat.le_of_ble_eq_true rfl⟩ ⟨Nat.zero_le _, Nat.zero_le _⟩ rfl hl.1 rfl (Nat.le_of_ble_eq_true rfl) dX8_lostShare_1 (fun H locs hM hS => ?_)
  exact ef_fp hx hb hr hlocks hM hS hf dX8_lostShare_4
def f_X8_letAllCome_b13 (a0 : Nat) (a1 : Nat) : Nat → Int32 → Mem → Option Mem
  | 0, _, _ => none
  | n + 1, x2, M => if (mI M a1 3) ≤ x2 then (some M) else (if (8 : Int32) ≤ x2 then (some M) else (gd (ix x2 8) <| nb (mR M (a1 + 11) x2.toNatClampNeg) fun z5 => cb (f_X1_receive (a0 + 277) z5 M) fun r7 M8 => nb (x2 + 1) fun y9 => f_X8_letAllCome_b13 a0 a1 n y9 M8))
def f_X8_letAllCome (a0 : Nat) (a1 : Nat) (M : Mem) : Option Mem := vb (f_X1_copyFrom (a0 + 277) (a1 + 9) M) fun M11 => f_X8_letAllCome_b13 a0 a1 lfuel 0 M11
set_option maxHeartbeats 4000000 in
set_option maxRecDepth 100000 in
theorem k_X8_letAllCome (G : Gt) (hG : gOK G) (l : Launch) (a0 : Nat) (h0 : gK G a0 = 9) (a1 : Nat) (h1 : gK G a1 = 8) (M : Mem) {M' : Mem} (hf : f_X8_letAllCome a0 a1 M = some M') : Kc G l yX8_letAllCome cX8_letAllCome 3 none ({ frames := 4, cells := 0, slots := 0, locals := 91 } : Room) [.ref a0, .ref a1] M none M' := by
  refine start (by decide) (Nat.le_of_ble_eq_true rfl) ?_
  intro p e s m args below meth c ls hx hb hr hown hml hlocks hts hV hM hl
  have hown : s.vm.findClass "FoldedVoices" = some m.cls := hown
  have hK := hG.1.moved hV
  have hS : va_S (gA G) s.heap s.heap [] := va_S.rf
  have hl : lv_has ls 3 [(0, .ref a0), (1, .ref a1)] := hl
  have hM0 := hM
  have b13 : ∀ (n : Nat), ∀ (x2 : Int32) (M : Mem) (H : Heap) (locs : List Loc) (ls : Array Slot), Mh G M H → va_S (gA G) s.heap H locs → lv_has ls 3 [(0, .ref a0), (1, .ref a1), (2, .int x2)] → f_X8_letAllCome_b13 a0 a1 n x2 M = some M' → W p l e ({ frames := 4, cells := 0, slots := 0, locals := 91 } : Room) s m args below meth c H locs 0 0 (MQ below (QV G none M') args s 0 0 (gA G)) (F0 m 13 ls []) := by
    intro n
    induction n with
    | zero =>
      intro x2 M H locs ls hM hS hl hf
      rw [f_X8_letAllCome_b13] at hf
      cases hf
    | succ n ih =>
      intro x2 M H locs ls hM hS hl hf
      rw [f_X8_letAllCome_b13] at hf
      refine lv_iload_n hx hb dX8_letAllCome_13 rfl (lv_at hl 2 rfl) ?_
      refine lv_aload_n hx hb dX8_letAllCome_14 rfl (lv_at hl 1 rfl) ?_
      refine s_getN hx hb (lay_7 hts) hown hK hM (c_8 h1) rfl 3 (by decide) rfl rfl (tk_219 hts) dX8_letAllCome_15 ?_
      refine lv_icmp_ge (tgt := 50) hx hb dX8_letAllCome_18 (by decide) (fun g_1 => ?_) (fun g_1 => ?_)
      · rw [if_pos g_1] at hf
        exact ef_v hx hb hr hlocks hM hS hf dX8_letAllCome_50
      · rw [if_neg g_1] at hf
        refine lv_iload_n hx hb dX8_letAllCome_21 rfl (lv_at hl 2 rfl) ?_
        refine lv_aload_n hx hb dX8_letAllCome_22 rfl (lv_at hl 1 rfl) ?_
        refine s_getN hx hb (lay_7 hts) hown hK hM (c_8 h1) rfl 2 (by decide) rfl rfl (tk_217 hts) dX8_letAllCome_23 ?_
        refine s_alen 2 hx hb hK hM (cel_pa (ky_8_2 hG h1)) rfl (v := 8) (show Int32.ofNat 8 = 8 from by decide) dX8_letAllCome_26 ?_
        refine lv_icmp_ge (tgt := 50) hx hb dX8_letAllCome_27 (by decide) (fun g_2 => ?_) (fun g_2 => ?_)
        · rw [if_pos g_2] at hf
          exact ef_v hx hb hr hlocks hM hS hf dX8_letAllCome_50
        · rw [if_neg g_2] at hf
          refine lv_aload_n hx hb dX8_letAllCome_30 rfl (lv_at hl 0 rfl) ?_
          refine s_get hx hb (lay_8 hts) hown hK hM (c_9 h0) rfl 7 (by decide) rfl rfl (tk_287 hts) dX8_letAllCome_31 ?_
          refine lv_aload_n hx hb dX8_letAllCome_34 rfl (lv_at hl 1 rfl) ?_
          refine s_getN hx hb (lay_7 hts) hown hK hM (c_8 h1) rfl 2 (by decide) rfl rfl (tk_217 hts) dX8_letAllCome_35 ?_
          refine lv_iload_n hx hb dX8_letAllCome_38 rfl (lv_at hl 2 rfl) ?_
          obtain ⟨h_3, hf⟩ := gd_e hf
          refine s_paald hx hb hK hM (ky_8_2 hG h1) h_3 dX8_letAllCome_39 (fun h_4 => ?_)
          obtain ⟨z5, ez5, hf⟩ := nb_e hf
          refine s_nmr ez5 ?_
          have h_z5 : gK G z5 = 3 := ez5 ▸ h_4
          obtain ⟨r7, M8, e_6, hf⟩ := cb_e hf
          refine c_Vi hx hb hml hown hts hV hK hM hS (As := [.ref z5]) (rest := []) (k_X1_receive G hG l (a0 + 277) (ky_9_7 hG h0) z5 h_z5 M e_6) w_X1_receive (tk_416 hts) (c_2 (ky_9_7 hG h0)) rfl rfl ⟨⟨rfl, rfl⟩, Nat.le_of_ble_eq_true rfl, Nat.le_of_ble_eq_true rfl⟩ ⟨Nat.zero_le _, Nat.zero_le _⟩ rfl hl.1 rfl (Nat.le_of_ble_eq_true rfl) dX8_letAllCome_40 (fun H locs hM hS => ?_)
          refine lv_pop hx hb dX8_letAllCome_43 rfl ?_
          obtain ⟨y9, ey9, hf⟩ := nb_e hf
          refine lv_iinc (v := y9) (lv' := [(2, .int y9), (0, .ref a0), (1, .ref a1)]) hx hb dX8_letAllCome_44 hl (k := 2) rfl (by rw [← ey9]; rfl) (by decide) rfl (fun ls hl => ?_)
          refine lv_goto (tgt := 13) hx hb dX8_letAllCome_47 (by decide) ?_
          exact ih y9 _ H locs ls hM hS (lv_sub hl [1, 2, 0] rfl) hf
  rw [f_X8_letAllCome] at hf
  obtain ⟨H, hHe⟩ : ∃ H, H = s.heap := ⟨_, rfl⟩
  obtain ⟨locs, hLe⟩ : ∃ L : List Loc, L = [] := ⟨_, rfl⟩
  rw [← hHe] at hM
  have hS : va_S (gA G) s.heap H locs := by rw [hHe, hLe]; exact va_S.rf
  suffices hW : W p l e ({ frames := 4, cells := 0, slots := 0, locals := 91 } : Room) s m args below meth c H locs 0 0 (MQ below (QV G none M') args s 0 0 (gA G)) (F0 m 0 ls []) by rw [hHe, hLe] at hW; exact hW
  refine lv_aload_n hx hb dX8_letAllCome_0 rfl (lv_at hl 0 rfl) ?_
  refine s_get hx hb (lay_8 hts) hown hK hM (c_9 h0) rfl 7 (by decide) rfl rfl (tk_287 hts) dX8_letAllCome_1 ?_
  refine lv_aload_n hx hb dX8_letAllCome_4 rfl (lv_at hl 1 rfl) ?_
  refine s_getN hx hb (lay_7 hts) hown hK hM (c_8 h1) rfl 1 (by decide) rfl rfl (tk_215 hts) dX8_letAllCome_5 ?_
  obtain ⟨M11, e_10, hf⟩ := vb_e hf
  refine c_Vv hx hb hml hown hts hV hK hM hS (As := [.ref (a1 + 9)]) (rest := []) (k_X1_copyFrom G hG l (a0 + 277) (ky_9_7 hG h0) (a1 + 9) (ky_8_1 hG h1) M e_10) w_X1_copyFrom (tk_415 hts) (c_2 (ky_9_7 hG h0)) rfl rfl ⟨⟨rfl, rfl⟩, Nat.le_of_ble_eq_true rfl, Nat.le_of_ble_eq_true rfl⟩ ⟨Nat.zero_le _, Nat.zero_le _⟩ rfl hl.1 rfl (Nat.le_of_ble_eq_true rfl) dX8_letAllCome_8 (fun H locs hM hS => ?_)
  refine lv_iconst (v := 0) hx hb dX8_letAllCome_11 (by decide) ?_
  refine lv_istore_n (lv' := [(2, .int 0), (0, .ref a0), (1, .ref a1)]) hx hb dX8_letAllCome_12 rfl hl (by decide) rfl (fun ls hl => ?_)
  exact b13 _ 0 _ H locs ls hM hS (lv_sub hl [1, 2, 0] rfl) hf
def f_X8_wouldAgree (a0 : Nat) (a1 : Nat) (M : Mem) : Option (Int32 × Mem) := vb (f_X0_copyFrom (a0 + 276) ((a0 + 277) + 1) M) fun M2 => vb (f_X0_followAll (a0 + 276) ((a1 + 1) + 2) M2) fun M4 => vb (f_X0_isAt (a0 + 276) (mI M4 ((a1 + 1) + 1) 0) (mI M4 ((a1 + 1) + 1) 1) M4) fun r6 => gd (r6 = 0 ∨ r6 = 1) <| some (r6, M4)
set_option maxHeartbeats 4000000 in
set_option maxRecDepth 100000 in
theorem k_X8_wouldAgree (G : Gt) (hG : gOK G) (l : Launch) (a0 : Nat) (h0 : gK G a0 = 9) (a1 : Nat) (h1 : gK G a1 = 8) (M : Mem) {r : Int32} {M' : Mem} (hf : f_X8_wouldAgree a0 a1 M = some (r, M')) : Kc G l yX8_wouldAgree cX8_wouldAgree 2 (some .boolean) ({ frames := 4, cells := 0, slots := 0, locals := 90 } : Room) [.ref a0, .ref a1] M (some (.int r)) M' := by
  refine start (by decide) (Nat.le_of_ble_eq_true rfl) ?_
  intro p e s m args below meth c ls hx hb hr hown hml hlocks hts hV hM hl
  have hown : s.vm.findClass "FoldedVoices" = some m.cls := hown
  have hK := hG.1.moved hV
  have hS : va_S (gA G) s.heap s.heap [] := va_S.rf
  have hl : lv_has ls 2 [(0, .ref a0), (1, .ref a1)] := hl
  have hM0 := hM
  rw [f_X8_wouldAgree] at hf
  refine lv_aload_n hx hb dX8_wouldAgree_0 rfl (lv_at hl 0 rfl) ?_
  refine s_get hx hb (lay_8 hts) hown hK hM (c_9 h0) rfl 6 (by decide) rfl rfl (tk_286 hts) dX8_wouldAgree_1 ?_
  refine lv_aload_n hx hb dX8_wouldAgree_4 rfl (lv_at hl 0 rfl) ?_
  refine s_get hx hb (lay_8 hts) hown hK hM (c_9 h0) rfl 7 (by decide) rfl rfl (tk_287 hts) dX8_wouldAgree_5 ?_
  refine s_getN hx hb (lay_1 hts) hown hK hM (c_2 (ky_9_7 hG h0)) rfl 0 (by decide) rfl rfl (tk_172 hts) dX8_wouldAgree_8 ?_
  obtain ⟨M2, e_1, hf⟩ := vb_e hf
  refine c_Vv hx hb hml hown hts hV hK hM hS (As := [.ref ((a0 + 277) + 1)]) (rest := []) (k_X0_copyFrom G hG l (a0 + 276) (ky_9_6 hG h0) ((a0 + 277) + 1) (ky_2_0 hG (ky_9_7 hG h0)) M e_1) w_X0_copyFrom (tk_471 hts) (c_1 (ky_9_6 hG h0)) rfl rfl ⟨⟨rfl, rfl⟩, Nat.le_of_ble_eq_true rfl, Nat.le_of_ble_eq_true rfl⟩ ⟨Nat.zero_le _, Nat.zero_le _⟩ rfl hl.1 rfl (Nat.le_of_ble_eq_true rfl) dX8_wouldAgree_11 (fun H locs hM hS => ?_)
  refine lv_aload_n hx hb dX8_wouldAgree_14 rfl (lv_at hl 0 rfl) ?_
  refine s_get hx hb (lay_8 hts) hown hK hM (c_9 h0) rfl 6 (by decide) rfl rfl (tk_286 hts) dX8_wouldAgree_15 ?_
  refine lv_aload_n hx hb dX8_wouldAgree_18 rfl (lv_at hl 1 rfl) ?_
  refine s_getN hx hb (lay_7 hts) hown hK hM (c_8 h1) rfl 0 (by decide) rfl rfl (tk_213 hts) dX8_wouldAgree_19 ?_
  refine s_getN hx hb (lay_3 hts) hown hK hM (c_4 (ky_8_0 hG h1)) rfl 4 (by decide) rfl rfl (tk_128 hts) dX8_wouldAgree_22 ?_
  obtain ⟨M4, e_3, hf⟩ := vb_e hf
  refine c_Vv hx hb hml hown hts hV hK hM hS (As := [.ref ((a1 + 1) + 2)]) (rest := []) (k_X0_followAll G hG l (a0 + 276) (ky_9_6 hG h0) ((a1 + 1) + 2) (ky_4_4 hG (ky_8_0 hG h1)) M2 e_3) w_X0_followAll (tk_472 hts) (c_1 (ky_9_6 hG h0)) rfl rfl ⟨⟨rfl, rfl⟩, Nat.le_of_ble_eq_true rfl, Nat.le_of_ble_eq_true rfl⟩ ⟨Nat.zero_le _, Nat.zero_le _⟩ rfl hl.1 rfl (Nat.le_of_ble_eq_true rfl) dX8_wouldAgree_25 (fun H locs hM hS => ?_)
  refine lv_aload_n hx hb dX8_wouldAgree_28 rfl (lv_at hl 0 rfl) ?_
  refine s_get hx hb (lay_8 hts) hown hK hM (c_9 h0) rfl 6 (by decide) rfl rfl (tk_286 hts) dX8_wouldAgree_29 ?_
  refine lv_aload_n hx hb dX8_wouldAgree_32 rfl (lv_at hl 1 rfl) ?_
  refine s_getN hx hb (lay_7 hts) hown hK hM (c_8 h1) rfl 0 (by decide) rfl rfl (tk_213 hts) dX8_wouldAgree_33 ?_
  refine s_getN hx hb (lay_3 hts) hown hK hM (c_4 (ky_8_0 hG h1)) rfl 0 (by decide) rfl rfl (tk_119 hts) dX8_wouldAgree_36 ?_
  refine s_getN hx hb (lay_0 hts) hown hK hM (c_1 (ky_4_0 hG (ky_8_0 hG h1))) rfl 0 (by decide) rfl rfl (tk_69 hts) dX8_wouldAgree_39 ?_
  refine lv_aload_n hx hb dX8_wouldAgree_42 rfl (lv_at hl 1 rfl) ?_
  refine s_getN hx hb (lay_7 hts) hown hK hM (c_8 h1) rfl 0 (by decide) rfl rfl (tk_213 hts) dX8_wouldAgree_43 ?_
  refine s_getN hx hb (lay_3 hts) hown hK hM (c_4 (ky_8_0 hG h1)) rfl 0 (by decide) rfl rfl (tk_119 hts) dX8_wouldAgree_46 ?_
  refine s_getN hx hb (lay_0 hts) hown hK hM (c_1 (ky_4_0 hG (ky_8_0 hG h1))) rfl 1 (by decide) rfl rfl (tk_73 hts) dX8_wouldAgree_49 ?_
  obtain ⟨r6, e_5, hf⟩ := vb_e hf
  refine c_Vi hx hb hml hown hts hV hK hM hS (As := [.int (mI M4 ((a1 + 1) + 1) 0), .int (mI M4 ((a1 + 1) + 1) 1)]) (rest := []) (k_X0_isAt G hG l (a0 + 276) (ky_9_6 hG h0) (mI M4 ((a1 + 1) + 1) 0) (mI M4 ((a1 + 1) + 1) 1) M4 e_5) w_X0_isAt (tk_478 hts) (c_1 (ky_9_6 hG h0)) rfl rfl ⟨⟨rfl, rfl⟩, Nat.le_of_ble_eq_true rfl, Nat.le_of_ble_eq_true rfl⟩ ⟨Nat.zero_le _, Nat.zero_le _⟩ rfl hl.1 rfl (Nat.le_of_ble_eq_true rfl) dX8_wouldAgree_52 (fun H locs hM hS => ?_)
  obtain ⟨h_7, hf⟩ := gd_e hf
  exact ef_zm hx hb hr hlocks hM hS (nz_n h_7) hf dX8_wouldAgree_55
def f_X8_tellWhy_b71 (a0 : Nat) (a1 : Nat) (xs0 : Int32) (M : Mem) : Option (Int32 × Mem) := if xs0 = 0 then (some (1, M)) else (some (2, M))
def f_X8_tellWhy_b70 (a0 : Nat) (a1 : Nat) (M : Mem) : Option (Int32 × Mem) := f_X8_tellWhy_b71 a0 a1 0 M
def f_X8_tellWhy (a0 : Nat) (a1 : Nat) (M : Mem) : Option (Int32 × Mem) := vb (f_X8_letAllCome a0 a1 M) fun M3 => cb (f_X8_wouldAgree a0 a1 M3) fun r5 M6 => if r5 = 0 then (if (mI M6 (a0 + 277) 4) = (mI M6 (a1 + 9) 4) then (if (mI M6 (a0 + 277) 3) = (mI M6 (a1 + 9) 3) then (if (mI M6 (a0 + 277) 1) = (mI M6 (a1 + 1) 5) then (f_X8_tellWhy_b71 a0 a1 1 M6) else (f_X8_tellWhy_b70 a0 a1 M6)) else (f_X8_tellWhy_b70 a0 a1 M6)) else (f_X8_tellWhy_b70 a0 a1 M6)) else (some (0, M6))
set_option maxHeartbeats 4000000 in
set_option maxRecDepth 100000 in
theorem k_X8_tellWhy (G : Gt) (hG : gOK G) (l : Launch) (a0 : Nat) (h0 : gK G a0 = 9) (a1 : Nat) (h1 : gK G a1 = 8) (M : Mem) {r : Int32} {M' : Mem} (hf : f_X8_tellWhy a0 a1 M = some (r, M')) : Kc G l yX8_tellWhy cX8_tellWhy 3 (some .int) ({ frames := 5, cells := 0, slots := 0, locals := 113 } : Room) [.ref a0, .ref a1] M (some (.int r)) M' := by
  refine start (by decide) (Nat.le_of_ble_eq_true rfl) ?_
  intro p e s m args below meth c ls hx hb hr hown hml hlocks hts hV hM hl
  have hown : s.vm.findClass "FoldedVoices" = some m.cls := hown
  have hK := hG.1.moved hV
  have hS : va_S (gA G) s.heap s.heap [] := va_S.rf
  have hl : lv_has ls 3 [(0, .ref a0), (1, .ref a1)] := hl
  have hM0 := hM
  have b71 : ∀ (xs0 : Int32) (M : Mem) (H : Heap) (locs : List Loc) (ls : Array Slot), Mh G M H → va_S (gA G) s.heap H locs → lv_has ls 3 [(0, .ref a0), (1, .ref a1)] → f_X8_tellWhy_b71 a0 a1 xs0 M = some (r, M') → W p l e ({ frames := 5, cells := 0, slots := 0, locals := 113 } : Room) s m args below meth c H locs 0 0 (MQ below (QV G (some (.int r)) M') args s 0 0 (gA G)) (F0 m 71 ls [.int xs0]) := by
    intro xs0 M H locs ls hM hS hl hf
    rw [f_X8_tellWhy_b71] at hf
    refine lv_istore_n (lv' := [(2, .int xs0), (0, .ref a0), (1, .ref a1)]) hx hb dX8_tellWhy_71 rfl hl (by decide) rfl (fun ls hl => ?_)
    refine lv_iload_n hx hb dX8_tellWhy_72 rfl (lv_at hl 0 rfl) ?_
    refine lv_if_eq (tgt := 80) hx hb dX8_tellWhy_73 (by decide) (fun g_1 => ?_) (fun g_1 => ?_)
    · rw [if_pos g_1] at hf
      refine lv_iconst (v := 1) hx hb dX8_tellWhy_80 (by decide) ?_
      exact ef_im hx hb hr hlocks hM hS hf dX8_tellWhy_81
    · rw [if_neg g_1] at hf
      refine lv_iconst (v := 2) hx hb dX8_tellWhy_76 (by decide) ?_
      refine lv_goto (tgt := 81) hx hb dX8_tellWhy_77 (by decide) ?_
      exact ef_im hx hb hr hlocks hM hS hf dX8_tellWhy_81
  have b70 : ∀ (M : Mem) (H : Heap) (locs : List Loc) (ls : Array Slot), Mh G M H → va_S (gA G) s.heap H locs → lv_has ls 3 [(0, .ref a0), (1, .ref a1)] → f_X8_tellWhy_b70 a0 a1 M = some (r, M') → W p l e ({ frames := 5, cells := 0, slots := 0, locals := 113 } : Room) s m args below meth c H locs 0 0 (MQ below (QV G (some (.int r)) M') args s 0 0 (gA G)) (F0 m 70 ls []) := by
    intro M H locs ls hM hS hl hf
    rw [f_X8_tellWhy_b70] at hf
    refine lv_iconst (v := 0) hx hb dX8_tellWhy_70 (by decide) ?_
    exact b71 0 _ H locs ls hM hS (lv_sub hl [0, 1] rfl) hf
  rw [f_X8_tellWhy] at hf
  obtain ⟨H, hHe⟩ : ∃ H, H = s.heap := ⟨_, rfl⟩
  obtain ⟨locs, hLe⟩ : ∃ L : List Loc, L = [] := ⟨_, rfl⟩
  rw [← hHe] at hM
  have hS : va_S (gA G) s.heap H locs := by rw [hHe, hLe]; exact va_S.rf
  suffices hW : W p l e ({ frames := 5, cells := 0, slots := 0, locals := 113 } : Room) s m args below meth c H locs 0 0 (MQ below (QV G (some (.int r)) M') args s 0 0 (gA G)) (F0 m 0 ls []) by rw [hHe, hLe] at hW; exact hW
  refine lv_aload_n hx hb dX8_tellWhy_0 rfl (lv_at hl 0 rfl) ?_
  refine lv_aload_n hx hb dX8_tellWhy_1 rfl (lv_at hl 1 rfl) ?_
  obtain ⟨M3, e_2, hf⟩ := vb_e hf
  refine c_Vv hx hb hml hown hts hV hK hM hS (As := [.ref a1]) (rest := []) (k_X8_letAllCome G hG l a0 h0 a1 h1 M e_2) w_X8_letAllCome (tk_411 hts) (c_9 h0) rfl rfl ⟨⟨rfl, rfl⟩, Nat.le_of_ble_eq_true rfl, Nat.le_of_ble_eq_true rfl⟩ ⟨Nat.zero_le _, Nat.zero_le _⟩ rfl hl.1 rfl (Nat.le_of_ble_eq_true rfl) dX8_tellWhy_2 (fun H locs hM hS => ?_)
  refine lv_aload_n hx hb dX8_tellWhy_5 rfl (lv_at hl 0 rfl) ?_
  refine lv_aload_n hx hb dX8_tellWhy_6 rfl (lv_at hl 1 rfl) ?_
  obtain ⟨r5, M6, e_4, hf⟩ := cb_e hf
  refine c_Vi hx hb hml hown hts hV hK hM hS (As := [.ref a1]) (rest := []) (k_X8_wouldAgree G hG l a0 h0 a1 h1 M3 e_4) w_X8_wouldAgree (tk_467 hts) (c_9 h0) rfl rfl ⟨⟨rfl, rfl⟩, Nat.le_of_ble_eq_true rfl, Nat.le_of_ble_eq_true rfl⟩ ⟨Nat.zero_le _, Nat.zero_le _⟩ rfl hl.1 rfl (Nat.le_of_ble_eq_true rfl) dX8_tellWhy_7 (fun H locs hM hS => ?_)
  refine lv_if_eq (tgt := 15) hx hb dX8_tellWhy_10 (by decide) (fun g_7 => ?_) (fun g_7 => ?_)
  · rw [if_pos g_7] at hf
    refine lv_aload_n hx hb dX8_tellWhy_15 rfl (lv_at hl 0 rfl) ?_
    refine s_get hx hb (lay_8 hts) hown hK hM (c_9 h0) rfl 7 (by decide) rfl rfl (tk_287 hts) dX8_tellWhy_16 ?_
    refine s_getN hx hb (lay_1 hts) hown hK hM (c_2 (ky_9_7 hG h0)) rfl 4 (by decide) rfl rfl (tk_179 hts) dX8_tellWhy_19 ?_
    refine lv_aload_n hx hb dX8_tellWhy_22 rfl (lv_at hl 1 rfl) ?_
    refine s_getN hx hb (lay_7 hts) hown hK hM (c_8 h1) rfl 1 (by decide) rfl rfl (tk_215 hts) dX8_tellWhy_23 ?_
    refine s_getN hx hb (lay_1 hts) hown hK hM (c_2 (ky_8_1 hG h1)) rfl 4 (by decide) rfl rfl (tk_179 hts) dX8_tellWhy_26 ?_
    refine lv_icmp_ne (tgt := 70) hx hb dX8_tellWhy_29 (by decide) (fun g_8 => ?_) (fun g_8 => ?_)
    · rw [if_neg g_8] at hf
      exact b70 _ H locs ls hM hS (lv_sub hl [0, 1] rfl) hf
    · rw [if_pos g_8] at hf
      refine lv_aload_n hx hb dX8_tellWhy_32 rfl (lv_at hl 0 rfl) ?_
      refine s_get hx hb (lay_8 hts) hown hK hM (c_9 h0) rfl 7 (by decide) rfl rfl (tk_287 hts) dX8_tellWhy_33 ?_
      refine s_getN hx hb (lay_1 hts) hown hK hM (c_2 (ky_9_7 hG h0)) rfl 3 (by decide) rfl rfl (tk_177 hts) dX8_tellWhy_36 ?_
      refine lv_aload_n hx hb dX8_tellWhy_39 rfl (lv_at hl 1 rfl) ?_
      refine s_getN hx hb (lay_7 hts) hown hK hM (c_8 h1) rfl 1 (by decide) rfl rfl (tk_215 hts) dX8_tellWhy_40 ?_
      refine s_getN hx hb (lay_1 hts) hown hK hM (c_2 (ky_8_1 hG h1)) rfl 3 (by decide) rfl rfl (tk_177 hts) dX8_tellWhy_43 ?_
      refine lv_icmp_ne (tgt := 70) hx hb dX8_tellWhy_46 (by decide) (fun g_9 => ?_) (fun g_9 => ?_)
      · rw [if_neg g_9] at hf
        exact b70 _ H locs ls hM hS (lv_sub hl [0, 1] rfl) hf
      · rw [if_pos g_9] at hf
        refine lv_aload_n hx hb dX8_tellWhy_49 rfl (lv_at hl 0 rfl) ?_
        refine s_get hx hb (lay_8 hts) hown hK hM (c_9 h0) rfl 7 (by decide) rfl rfl (tk_287 hts) dX8_tellWhy_50 ?_
        refine s_getN hx hb (lay_1 hts) hown hK hM (c_2 (ky_9_7 hG h0)) rfl 1 (by decide) rfl rfl (tk_174 hts) dX8_tellWhy_53 ?_
        refine lv_aload_n hx hb dX8_tellWhy_56 rfl (lv_at hl 1 rfl) ?_
        refine s_getN hx hb (lay_7 hts) hown hK hM (c_8 h1) rfl 0 (by decide) rfl rfl (tk_213 hts) dX8_tellWhy_57 ?_
        refine s_getN hx hb (lay_3 hts) hown hK hM (c_4 (ky_8_0 hG h1)) rfl 5 (by decide) rfl rfl (tk_132 hts) dX8_tellWhy_60 ?_
        refine lv_icmp_ne (tgt := 70) hx hb dX8_tellWhy_63 (by decide) (fun g_10 => ?_) (fun g_10 => ?_)
        · rw [if_neg g_10] at hf
          exact b70 _ H locs ls hM hS (lv_sub hl [0, 1] rfl) hf
        · rw [if_pos g_10] at hf
          refine lv_iconst (v := 1) hx hb dX8_tellWhy_66 (by decide) ?_
          refine lv_goto (tgt := 71) hx hb dX8_tellWhy_67 (by decide) ?_
          exact b71 1 _ H locs ls hM hS (lv_sub hl [0, 1] rfl) hf
  · rw [if_neg g_7] at hf
    refine lv_iconst (v := 0) hx hb dX8_tellWhy_13 (by decide) ?_
    exact ef_im hx hb hr hlocks hM hS hf dX8_tellWhy_14
def f_X8_tellCount_b58 (a0 : Nat) (p1 : Int32) (k27 : Int32 → Int32 → Mem → Option (Int32 × Mem)) (x2 : Int32) (x3 : Int32) (M : Mem) : Option (Int32 × Mem) := nb (x3 + 1) fun y1 => k27 x2 y1 M
def f_X8_tellCount_b27 (a0 : Nat) (p1 : Int32) : Nat → Int32 → Int32 → Mem → Option (Int32 × Mem)
  | 0, _, _, _ => none
  | n + 1, x2, x3, M => if (3 : Int32) ≤ x3 then (some (x2, M)) else (gd (ix x3 3) <| nb ((a0 + 1) + 1 + 3 + 44 * x3.toNatClampNeg) fun z5 => cb (f_X8_tellWhy a0 z5 M) fun r7 M8 => if r7 = 0 then (nb (x2 + 1) fun y10 => f_X8_tellCount_b58 a0 p1 (f_X8_tellCount_b27 a0 p1 n) y10 x3 M8) else (f_X8_tellCount_b58 a0 p1 (f_X8_tellCount_b27 a0 p1 n) x2 x3 M8))
def f_X8_tellCount (a0 : Nat) (p1 : Int32) (M : Mem) : Option (Int32 × Mem) := if p1 = (7 : Int32) then (some (mI M a0 4, M)) else (if (6 : Int32) ≤ p1 then (f_X8_tellCount_b27 a0 p1 lfuel 0 0 M) else (vb (f_X8_sumOver a0 p1 M) fun r14 => some (r14, M)))
set_option maxHeartbeats 4000000 in
set_option maxRecDepth 100000 in
theorem k_X8_tellCount (G : Gt) (hG : gOK G) (l : Launch) (a0 : Nat) (h0 : gK G a0 = 9) (p1 : Int32) (M : Mem) {r : Int32} {M' : Mem} (hf : f_X8_tellCount a0 p1 M = some (r, M')) : Kc G l yX8_tellCount cX8_tellCount 4 (some .int) ({ frames := 6, cells := 0, slots := 0, locals := 135 } : Room) [.ref a0, .int p1] M (some (.int r)) M' := by
  refine start (by decide) (Nat.le_of_ble_eq_true rfl) ?_
  intro p e s m args below meth c ls hx hb hr hown hml hlocks hts hV hM hl
  have hown : s.vm.findClass "FoldedVoices" = some m.cls := hown
  have hK := hG.1.moved hV
  have hS : va_S (gA G) s.heap s.heap [] := va_S.rf
  have hl : lv_has ls 4 [(0, .ref a0), (1, .int p1)] := hl
  have hM0 := hM
  have b58 : ∀ (k27 : Int32 → Int32 → Mem → Option (Int32 × Mem)), (∀ (x2 : Int32) (x3 : Int32) (M : Mem) (H : Heap) (locs : List Loc) (ls : Array Slot), Mh G M H → va_S (gA G) s.heap H locs → lv_has ls 4 [(0, .ref a0), (1, .int p1), (2, .int x2), (3, .int x3)] → k27 x2 x3 M = some (r, M') → W p l e ({ frames := 6, cells := 0, slots := 0, locals := 135 } : Room) s m args below meth c H locs 0 0 (MQ below (QV G (some (.int r)) M') args s 0 0 (gA G)) (F0 m 27 ls [])) → ∀ (x2 : Int32) (x3 : Int32) (M : Mem) (H : Heap) (locs : List Loc) (ls : Array Slot), Mh G M H → va_S (gA G) s.heap H locs → lv_has ls 4 [(0, .ref a0), (1, .int p1), (2, .int x2), (3, .int x3)] → f_X8_tellCount_b58 a0 p1 k27 x2 x3 M = some (r, M') → W p l e ({ frames := 6, cells := 0, slots := 0, locals := 135 } : Room) s m args below meth c H locs 0 0 (MQ below (QV G (some (.int r)) M') args s 0 0 (gA G)) (F0 m 58 ls []) := by
    intro k27 hk27
    intro x2 x3 M H locs ls hM hS hl hf
    rw [f_X8_tellCount_b58] at hf
    obtain ⟨y1, ey1, hf⟩ := nb_e hf
    refine lv_iinc (v := y1) (lv' := [(3, .int y1), (0, .ref a0), (1, .int p1), (2, .int x2)]) hx hb dX8_tellCount_58 hl (k := 3) rfl (by rw [← ey1]; rfl) (by decide) rfl (fun ls hl => ?_)
    refine lv_goto (tgt := 27) hx hb dX8_tellCount_61 (by decide) ?_
    exact hk27 x2 y1 _ H locs ls hM hS (lv_sub hl [1, 2, 3, 0] rfl) hf
  have b27 : ∀ (n : Nat), ∀ (x2 : Int32) (x3 : Int32) (M : Mem) (H : Heap) (locs : List Loc) (ls : Array Slot), Mh G M H → va_S (gA G) s.heap H locs → lv_has ls 4 [(0, .ref a0), (1, .int p1), (2, .int x2), (3, .int x3)] → f_X8_tellCount_b27 a0 p1 n x2 x3 M = some (r, M') → W p l e ({ frames := 6, cells := 0, slots := 0, locals := 135 } : Room) s m args below meth c H locs 0 0 (MQ below (QV G (some (.int r)) M') args s 0 0 (gA G)) (F0 m 27 ls []) := by
    intro n
    induction n with
    | zero =>
      intro x2 x3 M H locs ls hM hS hl hf
      rw [f_X8_tellCount_b27] at hf
      cases hf
    | succ n ih =>
      intro x2 x3 M H locs ls hM hS hl hf
      rw [f_X8_tellCount_b27] at hf
      refine lv_iload_n hx hb dX8_tellCount_27 rfl (lv_at hl 3 rfl) ?_
      refine lv_aload_n hx hb dX8_tellCount_28 rfl (lv_at hl 0 rfl) ?_
      refine s_get hx hb (lay_8 hts) hown hK hM (c_9 h0) rfl 0 (by decide) rfl rfl (tk_280 hts) dX8_tellCount_29 ?_
      refine s_getN hx hb (lay_5 hts) hown hK hM (c_6 (ky_9_0 hG h0)) rfl 0 (by decide) rfl rfl (tk_234 hts) dX8_tellCount_32 ?_
      refine s_alen 3 hx hb hK hM (cel_va (ky_6_0 hG (ky_9_0 hG h0))) rfl (v := 3) (show Int32.ofNat 3 = 3 from by decide) dX8_tellCount_35 ?_
      refine lv_icmp_ge (tgt := 64) hx hb dX8_tellCount_36 (by decide) (fun g_2 => ?_) (fun g_2 => ?_)
      · rw [if_pos g_2] at hf
        refine lv_iload_n hx hb dX8_tellCount_64 rfl (lv_at hl 2 rfl) ?_
        exact ef_im hx hb hr hlocks hM hS hf dX8_tellCount_65
      · rw [if_neg g_2] at hf
        refine lv_aload_n hx hb dX8_tellCount_39 rfl (lv_at hl 0 rfl) ?_
        refine lv_aload_n hx hb dX8_tellCount_40 rfl (lv_at hl 0 rfl) ?_
        refine s_get hx hb (lay_8 hts) hown hK hM (c_9 h0) rfl 0 (by decide) rfl rfl (tk_280 hts) dX8_tellCount_41 ?_
        refine s_getN hx hb (lay_5 hts) hown hK hM (c_6 (ky_9_0 hG h0)) rfl 0 (by decide) rfl rfl (tk_234 hts) dX8_tellCount_44 ?_
        refine lv_iload_n hx hb dX8_tellCount_47 rfl (lv_at hl 3 rfl) ?_
        obtain ⟨h_3, hf⟩ := gd_e hf
        refine s_vaald hx hb hK hM (ky_vs hG (ky_6_0 hG (ky_9_0 hG h0))) (ky_6_0 hG (ky_9_0 hG h0)) h_3 dX8_tellCount_48 (fun h_4 => ?_)
        obtain ⟨z5, ez5, hf⟩ := nb_e hf
        refine s_nmr ez5 ?_
        have h_z5 : gK G z5 = 8 := ez5 ▸ h_4
        obtain ⟨r7, M8, e_6, hf⟩ := cb_e hf
        refine c_Vi hx hb hml hown hts hV hK hM hS (As := [.ref z5]) (rest := []) (k_X8_tellWhy G hG l a0 h0 z5 h_z5 M e_6) w_X8_tellWhy (tk_407 hts) (c_9 h0) rfl rfl ⟨⟨rfl, rfl⟩, Nat.le_of_ble_eq_true rfl, Nat.le_of_ble_eq_true rfl⟩ ⟨Nat.zero_le _, Nat.zero_le _⟩ rfl hl.1 rfl (Nat.le_of_ble_eq_true rfl) dX8_tellCount_49 (fun H locs hM hS => ?_)
        refine lv_if_ne (tgt := 58) hx hb dX8_tellCount_52 (by decide) (fun g_9 => ?_) (fun g_9 => ?_)
        · rw [if_neg g_9] at hf
          exact b58 _ ih x2 x3 _ H locs ls hM hS (lv_sub hl [0, 1, 2, 3] rfl) hf
        · rw [if_pos g_9] at hf
          obtain ⟨y10, ey10, hf⟩ := nb_e hf
          refine lv_iinc (v := y10) (lv' := [(2, .int y10), (0, .ref a0), (1, .int p1), (3, .int x3)]) hx hb dX8_tellCount_55 hl (k := 2) rfl (by rw [← ey10]; rfl) (by decide) rfl (fun ls hl => ?_)
          exact b58 _ ih y10 x3 _ H locs ls hM hS (lv_sub hl [1, 2, 0, 3] rfl) hf
  rw [f_X8_tellCount] at hf
  obtain ⟨H, hHe⟩ : ∃ H, H = s.heap := ⟨_, rfl⟩
  obtain ⟨locs, hLe⟩ : ∃ L : List Loc, L = [] := ⟨_, rfl⟩
  rw [← hHe] at hM
  have hS : va_S (gA G) s.heap H locs := by rw [hHe, hLe]; exact va_S.rf
  suffices hW : W p l e ({ frames := 6, cells := 0, slots := 0, locals := 135 } : Room) s m args below meth c H locs 0 0 (MQ below (QV G (some (.int r)) M') args s 0 0 (gA G)) (F0 m 0 ls []) by rw [hHe, hLe] at hW; exact hW
  refine lv_iload_n hx hb dX8_tellCount_0 rfl (lv_at hl 1 rfl) ?_
  refine lv_bipush (v := 7) hx hb dX8_tellCount_1 (by decide) ?_
  refine lv_icmp_ne (tgt := 11) hx hb dX8_tellCount_3 (by decide) (fun g_11 => ?_) (fun g_11 => ?_)
  · rw [if_neg g_11] at hf
    refine lv_iload_n hx hb dX8_tellCount_11 rfl (lv_at hl 1 rfl) ?_
    refine lv_bipush (v := 6) hx hb dX8_tellCount_12 (by decide) ?_
    refine lv_icmp_ge (tgt := 23) hx hb dX8_tellCount_14 (by decide) (fun g_12 => ?_) (fun g_12 => ?_)
    · rw [if_pos g_12] at hf
      refine lv_iconst (v := 0) hx hb dX8_tellCount_23 (by decide) ?_
      refine lv_istore_n (lv' := [(2, .int 0), (0, .ref a0), (1, .int p1)]) hx hb dX8_tellCount_24 rfl hl (by decide) rfl (fun ls hl => ?_)
      refine lv_iconst (v := 0) hx hb dX8_tellCount_25 (by decide) ?_
      refine lv_istore_n (lv' := [(3, .int 0), (2, .int 0), (0, .ref a0), (1, .int p1)]) hx hb dX8_tellCount_26 rfl hl (by decide) rfl (fun ls hl => ?_)
      exact b27 _ 0 0 _ H locs ls hM hS (lv_sub hl [2, 3, 1, 0] rfl) hf
    · rw [if_neg g_12] at hf
      refine lv_aload_n hx hb dX8_tellCount_17 rfl (lv_at hl 0 rfl) ?_
      refine lv_iload_n hx hb dX8_tellCount_18 rfl (lv_at hl 1 rfl) ?_
      obtain ⟨r14, e_13, hf⟩ := vb_e hf
      refine c_Vi hx hb hml hown hts hV hK hM hS (As := [.int p1]) (rest := []) (k_X8_sumOver G hG l a0 h0 p1 M e_13) w_X8_sumOver (tk_382 hts) (c_9 h0) rfl rfl ⟨⟨rfl, rfl⟩, Nat.le_of_ble_eq_true rfl, Nat.le_of_ble_eq_true rfl⟩ ⟨Nat.zero_le _, Nat.zero_le _⟩ rfl hl.1 rfl (Nat.le_of_ble_eq_true rfl) dX8_tellCount_19 (fun H locs hM hS => ?_)
      exact ef_im hx hb hr hlocks hM hS hf dX8_tellCount_22
  · rw [if_pos g_11] at hf
    refine lv_aload_n hx hb dX8_tellCount_6 rfl (lv_at hl 0 rfl) ?_
    refine s_get hx hb (lay_8 hts) hown hK hM (c_9 h0) rfl 4 (by decide) rfl rfl (tk_284 hts) dX8_tellCount_7 ?_
    exact ef_im hx hb hr hlocks hM hS hf dX8_tellCount_10
def f_X8_mixed (p0 : Int64) (p2 : Int64) (M : Mem) : Option Int64 := some (((31 : Int64) * p0) + p2)
set_option maxHeartbeats 4000000 in
set_option maxRecDepth 100000 in
theorem k_X8_mixed (G : Gt) (hG : gOK G) (l : Launch) (p0 : Int64) (p2 : Int64) (M : Mem) {r : Int64} (hf : f_X8_mixed p0 p2 M = some r) : Kc G l yX8_mixed cX8_mixed 4 (some .long) ({ frames := 0, cells := 0, slots := 0, locals := 0 } : Room) [.long p0, .long p2] M (some (.long r)) M := by
  refine start (by decide) (Nat.le_of_ble_eq_true rfl) ?_
  intro p e s m args below meth c ls hx hb hr hown hml hlocks hts hV hM hl
  have hown : s.vm.findClass "FoldedVoices" = some m.cls := hown
  have hK := hG.1.moved hV
  have hS : va_S (gA G) s.heap s.heap [] := va_S.rf
  have hl : lv_has ls 4 [(0, .long p0), (2, .long p2)] := hl
  have hM0 := hM
  rw [f_X8_mixed] at hf
  refine lv_ldc2 hx hb hown (tk_482 hts) dX8_mixed_0 ?_
  refine lv_lload_n hx hb dX8_mixed_3 rfl (lv_at hl 0 rfl) ?_
  refine lv_lmul hx hb dX8_mixed_4 ?_
  refine lv_lload_n hx hb dX8_mixed_5 rfl (lv_at hl 1 rfl) ?_
  refine lv_ladd hx hb dX8_mixed_6 ?_
  exact ef_lp hx hb hr hlocks hM hS hf dX8_mixed_7
def f_X8_tellSaying (a0 : Nat) (a1 : Nat) (p2 : Int32) (M : Mem) : Option (Int32 × Mem) := if p2 = 0 then (some (mI M ((a1 + 1) + 1) 0, M)) else (if p2 = 1 then (some (mI M ((a1 + 1) + 1) 1, M)) else (if p2 = 2 then (vb (f_X0_step ((a1 + 1) + 1) M) fun r5 => some (r5, M)) else (if p2 = 3 then (some (mI M (a1 + 1) 2, M)) else (if p2 = 4 then (some (mI M (a1 + 1) 3, M)) else (if p2 = 5 then (some (mI M ((a1 + 1) + 2) 2, M)) else (if p2 = 6 then (some (mI M (a1 + 1) 5, M)) else (if p2 = 7 then (some (mI M (a1 + 1) 6, M)) else (if p2 = 8 then (cb (f_X3_guessSinceHead (a1 + 1) (a0 + 276) M) fun r13 M14 => some (r13, M14)) else (some (mI M a1 3, M))))))))))
set_option maxHeartbeats 4000000 in
set_option maxRecDepth 100000 in
theorem k_X8_tellSaying (G : Gt) (hG : gOK G) (l : Launch) (a0 : Nat) (h0 : gK G a0 = 9) (a1 : Nat) (h1 : gK G a1 = 8) (p2 : Int32) (M : Mem) {r : Int32} {M' : Mem} (hf : f_X8_tellSaying a0 a1 p2 M = some (r, M')) : Kc G l yX8_tellSaying cX8_tellSaying 3 (some .int) ({ frames := 5, cells := 0, slots := 0, locals := 112 } : Room) [.ref a0, .ref a1, .int p2] M (some (.int r)) M' := by
  refine start (by decide) (Nat.le_of_ble_eq_true rfl) ?_
  intro p e s m args below meth c ls hx hb hr hown hml hlocks hts hV hM hl
  have hown : s.vm.findClass "FoldedVoices" = some m.cls := hown
  have hK := hG.1.moved hV
  have hS : va_S (gA G) s.heap s.heap [] := va_S.rf
  have hl : lv_has ls 3 [(0, .ref a0), (1, .ref a1), (2, .int p2)] := hl
  have hM0 := hM
  rw [f_X8_tellSaying] at hf
  refine lv_iload_n hx hb dX8_tellSaying_0 rfl (lv_at hl 2 rfl) ?_
  by_cases g_1 : p2 = 0
  · rw [if_pos g_1] at hf
    refine lv_tableIn (off := 51) (tgt := 52) hx hb dX8_tellSaying_1 (by rw [g_1]; decide) (by rw [g_1]; decide) (by rw [g_1]; rfl) (by decide) ?_
    refine lv_aload_n hx hb dX8_tellSaying_52 rfl (lv_at hl 1 rfl) ?_
    refine s_getN hx hb (lay_7 hts) hown hK hM (c_8 h1) rfl 0 (by decide) rfl rfl (tk_213 hts) dX8_tellSaying_53 ?_
    refine s_getN hx hb (lay_3 hts) hown hK hM (c_4 (ky_8_0 hG h1)) rfl 0 (by decide) rfl rfl (tk_119 hts) dX8_tellSaying_56 ?_
    refine s_getN hx hb (lay_0 hts) hown hK hM (c_1 (ky_4_0 hG (ky_8_0 hG h1))) rfl 0 (by decide) rfl rfl (tk_69 hts) dX8_tellSaying_59 ?_
    exact ef_im hx hb hr hlocks hM hS hf dX8_tellSaying_62
  rw [if_neg g_1] at hf
  by_cases g_2 : p2 = 1
  · rw [if_pos g_2] at hf
    refine lv_tableIn (off := 62) (tgt := 63) hx hb dX8_tellSaying_1 (by rw [g_2]; decide) (by rw [g_2]; decide) (by rw [g_2]; rfl) (by decide) ?_
    refine lv_aload_n hx hb dX8_tellSaying_63 rfl (lv_at hl 1 rfl) ?_
    refine s_getN hx hb (lay_7 hts) hown hK hM (c_8 h1) rfl 0 (by decide) rfl rfl (tk_213 hts) dX8_tellSaying_64 ?_
    refine s_getN hx hb (lay_3 hts) hown hK hM (c_4 (ky_8_0 hG h1)) rfl 0 (by decide) rfl rfl (tk_119 hts) dX8_tellSaying_67 ?_
    refine s_getN hx hb (lay_0 hts) hown hK hM (c_1 (ky_4_0 hG (ky_8_0 hG h1))) rfl 1 (by decide) rfl rfl (tk_73 hts) dX8_tellSaying_70 ?_
    exact ef_im hx hb hr hlocks hM hS hf dX8_tellSaying_73
  rw [if_neg g_2] at hf
  by_cases g_3 : p2 = 2
  · rw [if_pos g_3] at hf
    refine lv_tableIn (off := 73) (tgt := 74) hx hb dX8_tellSaying_1 (by rw [g_3]; decide) (by rw [g_3]; decide) (by rw [g_3]; rfl) (by decide) ?_
    refine lv_aload_n hx hb dX8_tellSaying_74 rfl (lv_at hl 1 rfl) ?_
    refine s_getN hx hb (lay_7 hts) hown hK hM (c_8 h1) rfl 0 (by decide) rfl rfl (tk_213 hts) dX8_tellSaying_75 ?_
    refine s_getN hx hb (lay_3 hts) hown hK hM (c_4 (ky_8_0 hG h1)) rfl 0 (by decide) rfl rfl (tk_119 hts) dX8_tellSaying_78 ?_
    obtain ⟨r5, e_4, hf⟩ := vb_e hf
    refine c_Vi hx hb hml hown hts hV hK hM hS (As := []) (rest := []) (k_X0_step G hG l ((a1 + 1) + 1) (ky_4_0 hG (ky_8_0 hG h1)) M e_4) w_X0_step (tk_495 hts) (c_1 (ky_4_0 hG (ky_8_0 hG h1))) rfl rfl ⟨⟨rfl, rfl⟩, Nat.le_of_ble_eq_true rfl, Nat.le_of_ble_eq_true rfl⟩ ⟨Nat.zero_le _, Nat.zero_le _⟩ rfl hl.1 rfl (Nat.le_of_ble_eq_true rfl) dX8_tellSaying_81 (fun H locs hM hS => ?_)
    exact ef_im hx hb hr hlocks hM hS hf dX8_tellSaying_84
  rw [if_neg g_3] at hf
  by_cases g_6 : p2 = 3
  · rw [if_pos g_6] at hf
    refine lv_tableIn (off := 84) (tgt := 85) hx hb dX8_tellSaying_1 (by rw [g_6]; decide) (by rw [g_6]; decide) (by rw [g_6]; rfl) (by decide) ?_
    refine lv_aload_n hx hb dX8_tellSaying_85 rfl (lv_at hl 1 rfl) ?_
    refine s_getN hx hb (lay_7 hts) hown hK hM (c_8 h1) rfl 0 (by decide) rfl rfl (tk_213 hts) dX8_tellSaying_86 ?_
    refine s_getN hx hb (lay_3 hts) hown hK hM (c_4 (ky_8_0 hG h1)) rfl 2 (by decide) rfl rfl (tk_124 hts) dX8_tellSaying_89 ?_
    exact ef_im hx hb hr hlocks hM hS hf dX8_tellSaying_92
  rw [if_neg g_6] at hf
  by_cases g_7 : p2 = 4
  · rw [if_pos g_7] at hf
    refine lv_tableIn (off := 92) (tgt := 93) hx hb dX8_tellSaying_1 (by rw [g_7]; decide) (by rw [g_7]; decide) (by rw [g_7]; rfl) (by decide) ?_
    refine lv_aload_n hx hb dX8_tellSaying_93 rfl (lv_at hl 1 rfl) ?_
    refine s_getN hx hb (lay_7 hts) hown hK hM (c_8 h1) rfl 0 (by decide) rfl rfl (tk_213 hts) dX8_tellSaying_94 ?_
    refine s_getN hx hb (lay_3 hts) hown hK hM (c_4 (ky_8_0 hG h1)) rfl 3 (by decide) rfl rfl (tk_126 hts) dX8_tellSaying_97 ?_
    exact ef_im hx hb hr hlocks hM hS hf dX8_tellSaying_100
  rw [if_neg g_7] at hf
  by_cases g_8 : p2 = 5
  · rw [if_pos g_8] at hf
    refine lv_tableIn (off := 100) (tgt := 101) hx hb dX8_tellSaying_1 (by rw [g_8]; decide) (by rw [g_8]; decide) (by rw [g_8]; rfl) (by decide) ?_
    refine lv_aload_n hx hb dX8_tellSaying_101 rfl (lv_at hl 1 rfl) ?_
    refine s_getN hx hb (lay_7 hts) hown hK hM (c_8 h1) rfl 0 (by decide) rfl rfl (tk_213 hts) dX8_tellSaying_102 ?_
    refine s_getN hx hb (lay_3 hts) hown hK hM (c_4 (ky_8_0 hG h1)) rfl 4 (by decide) rfl rfl (tk_128 hts) dX8_tellSaying_105 ?_
    refine s_getN hx hb (lay_2 hts) hown hK hM (c_3 (ky_4_4 hG (ky_8_0 hG h1))) rfl 2 (by decide) rfl rfl (tk_90 hts) dX8_tellSaying_108 ?_
    exact ef_im hx hb hr hlocks hM hS hf dX8_tellSaying_111
  rw [if_neg g_8] at hf
  by_cases g_9 : p2 = 6
  · rw [if_pos g_9] at hf
    refine lv_tableIn (off := 111) (tgt := 112) hx hb dX8_tellSaying_1 (by rw [g_9]; decide) (by rw [g_9]; decide) (by rw [g_9]; rfl) (by decide) ?_
    refine lv_aload_n hx hb dX8_tellSaying_112 rfl (lv_at hl 1 rfl) ?_
    refine s_getN hx hb (lay_7 hts) hown hK hM (c_8 h1) rfl 0 (by decide) rfl rfl (tk_213 hts) dX8_tellSaying_113 ?_
    refine s_getN hx hb (lay_3 hts) hown hK hM (c_4 (ky_8_0 hG h1)) rfl 5 (by decide) rfl rfl (tk_132 hts) dX8_tellSaying_116 ?_
    exact ef_im hx hb hr hlocks hM hS hf dX8_tellSaying_119
  rw [if_neg g_9] at hf
  by_cases g_10 : p2 = 7
  · rw [if_pos g_10] at hf
    refine lv_tableIn (off := 119) (tgt := 120) hx hb dX8_tellSaying_1 (by rw [g_10]; decide) (by rw [g_10]; decide) (by rw [g_10]; rfl) (by decide) ?_
    refine lv_aload_n hx hb dX8_tellSaying_120 rfl (lv_at hl 1 rfl) ?_
    refine s_getN hx hb (lay_7 hts) hown hK hM (c_8 h1) rfl 0 (by decide) rfl rfl (tk_213 hts) dX8_tellSaying_121 ?_
    refine s_getN hx hb (lay_3 hts) hown hK hM (c_4 (ky_8_0 hG h1)) rfl 6 (by decide) rfl rfl (tk_135 hts) dX8_tellSaying_124 ?_
    exact ef_im hx hb hr hlocks hM hS hf dX8_tellSaying_127
  rw [if_neg g_10] at hf
  by_cases g_11 : p2 = 8
  · rw [if_pos g_11] at hf
    refine lv_tableIn (off := 127) (tgt := 128) hx hb dX8_tellSaying_1 (by rw [g_11]; decide) (by rw [g_11]; decide) (by rw [g_11]; rfl) (by decide) ?_
    refine lv_aload_n hx hb dX8_tellSaying_128 rfl (lv_at hl 1 rfl) ?_
    refine s_getN hx hb (lay_7 hts) hown hK hM (c_8 h1) rfl 0 (by decide) rfl rfl (tk_213 hts) dX8_tellSaying_129 ?_
    refine lv_aload_n hx hb dX8_tellSaying_132 rfl (lv_at hl 0 rfl) ?_
    refine s_get hx hb (lay_8 hts) hown hK hM (c_9 h0) rfl 6 (by decide) rfl rfl (tk_286 hts) dX8_tellSaying_133 ?_
    obtain ⟨r13, M14, e_12, hf⟩ := cb_e hf
    refine c_Vi hx hb hml hown hts hV hK hM hS (As := [.ref (a0 + 276)]) (rest := []) (k_X3_guessSinceHead G hG l (a1 + 1) (ky_8_0 hG h1) (a0 + 276) (ky_9_6 hG h0) M e_12) w_X3_guessSinceHead (tk_496 hts) (c_4 (ky_8_0 hG h1)) rfl rfl ⟨⟨rfl, rfl⟩, Nat.le_of_ble_eq_true rfl, Nat.le_of_ble_eq_true rfl⟩ ⟨Nat.zero_le _, Nat.zero_le _⟩ rfl hl.1 rfl (Nat.le_of_ble_eq_true rfl) dX8_tellSaying_136 (fun H locs hM hS => ?_)
    exact ef_im hx hb hr hlocks hM hS hf dX8_tellSaying_139
  rw [if_neg g_11] at hf
  have tg_1 := lv_neT g_1 (show (0 : Int32).toInt = 0 from by decide)
  have tg_2 := lv_neT g_2 (show (1 : Int32).toInt = 1 from by decide)
  have tg_3 := lv_neT g_3 (show (2 : Int32).toInt = 2 from by decide)
  have tg_6 := lv_neT g_6 (show (3 : Int32).toInt = 3 from by decide)
  have tg_7 := lv_neT g_7 (show (4 : Int32).toInt = 4 from by decide)
  have tg_8 := lv_neT g_8 (show (5 : Int32).toInt = 5 from by decide)
  have tg_9 := lv_neT g_9 (show (6 : Int32).toInt = 6 from by decide)
  have tg_10 := lv_neT g_10 (show (7 : Int32).toInt = 7 from by decide)
  have tg_11 := lv_neT g_11 (show (8 : Int32).toInt = 8 from by decide)
  refine lv_tableOut (tgt := 140) hx hb dX8_tellSaying_1 (by omega) (by decide) ?_
  refine lv_aload_n hx hb dX8_tellSaying_140 rfl (lv_at hl 1 rfl) ?_
  refine s_getN hx hb (lay_7 hts) hown hK hM (c_8 h1) rfl 3 (by decide) rfl rfl (tk_219 hts) dX8_tellSaying_141 ?_
  exact ef_im hx hb hr hlocks hM hS hf dX8_tellSaying_144
def f_X8_tellHearing (a0 : Nat) (a1 : Nat) (p2 : Int32) (M : Mem) : Option Int32 := if p2 = (11 : Int32) then (some (mI M a1 4)) else (vb (f_X1_tell (a1 + 9) p2 M) fun r3 => some r3)
set_option maxHeartbeats 4000000 in
set_option maxRecDepth 100000 in
theorem k_X8_tellHearing (G : Gt) (hG : gOK G) (l : Launch) (a0 : Nat) (h0 : gK G a0 = 9) (a1 : Nat) (h1 : gK G a1 = 8) (p2 : Int32) (M : Mem) {r : Int32} (hf : f_X8_tellHearing a0 a1 p2 M = some r) : Kc G l yX8_tellHearing cX8_tellHearing 3 (some .int) ({ frames := 2, cells := 0, slots := 0, locals := 41 } : Room) [.ref a0, .ref a1, .int p2] M (some (.int r)) M := by
  refine start (by decide) (Nat.le_of_ble_eq_true rfl) ?_
  intro p e s m args below meth c ls hx hb hr hown hml hlocks hts hV hM hl
  have hown : s.vm.findClass "FoldedVoices" = some m.cls := hown
  have hK := hG.1.moved hV
  have hS : va_S (gA G) s.heap s.heap [] := va_S.rf
  have hl : lv_has ls 3 [(0, .ref a0), (1, .ref a1), (2, .int p2)] := hl
  have hM0 := hM
  rw [f_X8_tellHearing] at hf
  refine lv_iload_n hx hb dX8_tellHearing_0 rfl (lv_at hl 2 rfl) ?_
  refine lv_bipush (v := 11) hx hb dX8_tellHearing_1 (by decide) ?_
  refine lv_icmp_ne (tgt := 13) hx hb dX8_tellHearing_3 (by decide) (fun g_1 => ?_) (fun g_1 => ?_)
  · rw [if_neg g_1] at hf
    refine lv_aload_n hx hb dX8_tellHearing_13 rfl (lv_at hl 1 rfl) ?_
    refine s_getN hx hb (lay_7 hts) hown hK hM (c_8 h1) rfl 1 (by decide) rfl rfl (tk_215 hts) dX8_tellHearing_14 ?_
    refine lv_iload_n hx hb dX8_tellHearing_17 rfl (lv_at hl 2 rfl) ?_
    obtain ⟨r3, e_2, hf⟩ := vb_e hf
    refine c_Vi hx hb hml hown hts hV hK hM hS (As := [.int p2]) (rest := []) (k_X1_tell G hG l (a1 + 9) (ky_8_1 hG h1) p2 M e_2) w_X1_tell (tk_506 hts) (c_2 (ky_8_1 hG h1)) rfl rfl ⟨⟨rfl, rfl⟩, Nat.le_of_ble_eq_true rfl, Nat.le_of_ble_eq_true rfl⟩ ⟨Nat.zero_le _, Nat.zero_le _⟩ rfl hl.1 rfl (Nat.le_of_ble_eq_true rfl) dX8_tellHearing_18 (fun H locs hM hS => ?_)
    exact ef_ip hx hb hr hlocks hM hS hf dX8_tellHearing_21
  · rw [if_pos g_1] at hf
    refine lv_aload_n hx hb dX8_tellHearing_6 rfl (lv_at hl 1 rfl) ?_
    refine s_getN hx hb (lay_7 hts) hown hK hM (c_8 h1) rfl 4 (by decide) rfl rfl (tk_221 hts) dX8_tellHearing_7 ?_
    refine lv_goto (tgt := 21) hx hb dX8_tellHearing_10 (by decide) ?_
    exact ef_ip hx hb hr hlocks hM hS hf dX8_tellHearing_21
def f_X8_withPacket_b5 (p0 : Int64) (a2 : Nat) : Nat → Int64 → Int32 → Mem → Option Int64
  | 0, _, _, _ => none
  | n + 1, x3, x5, M => if (5 : Int32) < x5 then (some x3) else (vb (f_X2_tell a2 x5 M) fun r3 => vb (f_X8_mixed x3 r3.toInt64 M) fun r5 => nb (x5 + 1) fun y6 => f_X8_withPacket_b5 p0 a2 n r5 y6 M)
def f_X8_withPacket (p0 : Int64) (a2 : Nat) (M : Mem) : Option Int64 := f_X8_withPacket_b5 p0 a2 lfuel p0 0 M
set_option maxHeartbeats 4000000 in
set_option maxRecDepth 100000 in
theorem k_X8_withPacket (G : Gt) (hG : gOK G) (l : Launch) (p0 : Int64) (a2 : Nat) (h2 : gK G a2 = 3) (M : Mem) {r : Int64} (hf : f_X8_withPacket p0 a2 M = some r) : Kc G l yX8_withPacket cX8_withPacket 6 (some .long) ({ frames := 3, cells := 0, slots := 0, locals := 64 } : Room) [.long p0, .ref a2] M (some (.long r)) M := by
  refine start (by decide) (Nat.le_of_ble_eq_true rfl) ?_
  intro p e s m args below meth c ls hx hb hr hown hml hlocks hts hV hM hl
  have hown : s.vm.findClass "FoldedVoices" = some m.cls := hown
  have hK := hG.1.moved hV
  have hS : va_S (gA G) s.heap s.heap [] := va_S.rf
  have hl : lv_has ls 6 [(0, .long p0), (2, .ref a2)] := hl
  have hM0 := hM
  have b5 : ∀ (n : Nat), ∀ (x3 : Int64) (x5 : Int32) (M : Mem) (H : Heap) (locs : List Loc) (ls : Array Slot), Mh G M H → va_S (gA G) s.heap H locs → lv_has ls 6 [(0, .long p0), (2, .ref a2), (3, .long x3), (5, .int x5)] → f_X8_withPacket_b5 p0 a2 n x3 x5 M = some r → W p l e ({ frames := 3, cells := 0, slots := 0, locals := 64 } : Room) s m args below meth c H locs 0 0 (MQ below (QV G (some (.long r)) M) args s 0 0 (gA G)) (F0 m 5 ls []) := by
    intro n
    induction n with
    | zero =>
      intro x3 x5 M H locs ls hM hS hl hf
      rw [f_X8_withPacket_b5] at hf
      cases hf
    | succ n ih =>
      intro x3 x5 M H locs ls hM hS hl hf
      rw [f_X8_withPacket_b5] at hf
      refine lv_iload hx hb dX8_withPacket_5 (lv_at hl 3 rfl) ?_
      refine lv_iconst (v := 5) hx hb dX8_withPacket_7 (by decide) ?_
      refine lv_icmp_gt (tgt := 29) hx hb dX8_withPacket_8 (by decide) (fun g_1 => ?_) (fun g_1 => ?_)
      · rw [if_pos g_1] at hf
        refine lv_lload_n hx hb dX8_withPacket_29 rfl (lv_at hl 2 rfl) ?_
        exact ef_lp hx hb hr hlocks hM hS hf dX8_withPacket_30
      · rw [if_neg g_1] at hf
        refine lv_lload_n hx hb dX8_withPacket_11 rfl (lv_at hl 2 rfl) ?_
        refine lv_aload_n hx hb dX8_withPacket_12 rfl (lv_at hl 1 rfl) ?_
        refine lv_iload hx hb dX8_withPacket_13 (lv_at hl 3 rfl) ?_
        obtain ⟨r3, e_2, hf⟩ := vb_e hf
        refine c_Vi hx hb hml hown hts hV hK hM hS (As := [.int x5]) (rest := [.long x3]) (k_X2_tell G hG l a2 h2 x5 M e_2) w_X2_tell (tk_514 hts) (c_3 h2) rfl rfl ⟨⟨rfl, rfl⟩, Nat.le_of_ble_eq_true rfl, Nat.le_of_ble_eq_true rfl⟩ ⟨Nat.zero_le _, Nat.zero_le _⟩ rfl hl.1 rfl (Nat.le_of_ble_eq_true rfl) dX8_withPacket_15 (fun H locs hM hS => ?_)
        refine lv_i2l hx hb dX8_withPacket_18 rfl ?_
        obtain ⟨r5, e_4, hf⟩ := vb_e hf
        refine c_Sj hx hb hml hown hts hV hM hS (As := [.long x3, .long r3.toInt64]) (rest := []) (k_X8_mixed G hG l x3 r3.toInt64 M e_4) w_X8_mixed (tk_479 hts) ⟨⟨rfl, rfl⟩, Nat.le_of_ble_eq_true rfl, Nat.le_of_ble_eq_true rfl⟩ ⟨Nat.zero_le _, Nat.zero_le _⟩ rfl hl.1 rfl (Nat.le_of_ble_eq_true rfl) dX8_withPacket_19 (fun H locs hM hS => ?_)
        refine lv_lstore_n (lv' := [(3, .long r5), (0, .long p0), (2, .ref a2), (5, .int x5)]) hx hb dX8_withPacket_22 rfl hl (by decide) rfl (fun ls hl => ?_)
        obtain ⟨y6, ey6, hf⟩ := nb_e hf
        refine lv_iinc (v := y6) (lv' := [(5, .int y6), (3, .long r5), (0, .long p0), (2, .ref a2)]) hx hb dX8_withPacket_23 hl (k := 3) rfl (by rw [← ey6]; rfl) (by decide) rfl (fun ls hl => ?_)
        refine lv_goto (tgt := 5) hx hb dX8_withPacket_26 (by decide) ?_
        exact ih r5 y6 _ H locs ls hM hS (lv_sub hl [2, 3, 1, 0] rfl) hf
  rw [f_X8_withPacket] at hf
  obtain ⟨H, hHe⟩ : ∃ H, H = s.heap := ⟨_, rfl⟩
  obtain ⟨locs, hLe⟩ : ∃ L : List Loc, L = [] := ⟨_, rfl⟩
  rw [← hHe] at hM
  have hS : va_S (gA G) s.heap H locs := by rw [hHe, hLe]; exact va_S.rf
  suffices hW : W p l e ({ frames := 3, cells := 0, slots := 0, locals := 64 } : Room) s m args below meth c H locs 0 0 (MQ below (QV G (some (.long r)) M) args s 0 0 (gA G)) (F0 m 0 ls []) by rw [hHe, hLe] at hW; exact hW
  refine lv_lload_n hx hb dX8_withPacket_0 rfl (lv_at hl 0 rfl) ?_
  refine lv_lstore_n (lv' := [(3, .long p0), (0, .long p0), (2, .ref a2)]) hx hb dX8_withPacket_1 rfl hl (by decide) rfl (fun ls hl => ?_)
  refine lv_iconst (v := 0) hx hb dX8_withPacket_2 (by decide) ?_
  refine lv_istore (lv' := [(5, .int 0), (3, .long p0), (0, .long p0), (2, .ref a2)]) hx hb dX8_withPacket_3 hl (by decide) rfl (fun ls hl => ?_)
  exact b5 _ p0 0 _ H locs ls hM hS (lv_sub hl [2, 3, 1, 0] rfl) hf
def f_X8_tellCode_b38 (a0 : Nat) (a1 : Nat) (p2 : Int32) (p3 : Int32) (xs0 : Int32) (M : Mem) : Option (Int32 × Mem) := if p3 = 0 then (some (xs0, M)) else (if p3 = (3 : Int32) then (some (xs0, M)) else (vb (f_X0_follow (a0 + 276) xs0 M) fun M4 => if p3 = (2 : Int32) then (some (mI M4 (a0 + 276) 1, M4)) else (some (mI M4 (a0 + 276) 0, M4))))
def f_X8_tellCode (a0 : Nat) (a1 : Nat) (p2 : Int32) (p3 : Int32) (M : Mem) : Option (Int32 × Mem) := vb (f_X0_copyFrom (a0 + 276) ((a1 + 1) + 1) M) fun M7 => if (3 : Int32) ≤ p3 then (vb (f_X0_nearestCodeFor (a0 + 276) p2 M7) fun r10 => f_X8_tellCode_b38 a0 a1 p2 p3 r10 M7) else (vb (f_X0_codeFor (a0 + 276) p2 M7) fun r12 => f_X8_tellCode_b38 a0 a1 p2 p3 r12 M7)
set_option maxHeartbeats 4000000 in
set_option maxRecDepth 100000 in
theorem k_X8_tellCode (G : Gt) (hG : gOK G) (l : Launch) (a0 : Nat) (h0 : gK G a0 = 9) (a1 : Nat) (h1 : gK G a1 = 8) (p2 : Int32) (p3 : Int32) (M : Mem) {r : Int32} {M' : Mem} (hf : f_X8_tellCode a0 a1 p2 p3 M = some (r, M')) : Kc G l yX8_tellCode cX8_tellCode 5 (some .int) ({ frames := 3, cells := 0, slots := 0, locals := 70 } : Room) [.ref a0, .ref a1, .int p2, .int p3] M (some (.int r)) M' := by
  refine start (by decide) (Nat.le_of_ble_eq_true rfl) ?_
  intro p e s m args below meth c ls hx hb hr hown hml hlocks hts hV hM hl
  have hown : s.vm.findClass "FoldedVoices" = some m.cls := hown
  have hK := hG.1.moved hV
  have hS : va_S (gA G) s.heap s.heap [] := va_S.rf
  have hl : lv_has ls 5 [(0, .ref a0), (1, .ref a1), (2, .int p2), (3, .int p3)] := hl
  have hM0 := hM
  have b38 : ∀ (xs0 : Int32) (M : Mem) (H : Heap) (locs : List Loc) (ls : Array Slot), Mh G M H → va_S (gA G) s.heap H locs → lv_has ls 5 [(0, .ref a0), (1, .ref a1), (2, .int p2), (3, .int p3)] → f_X8_tellCode_b38 a0 a1 p2 p3 xs0 M = some (r, M') → W p l e ({ frames := 3, cells := 0, slots := 0, locals := 70 } : Room) s m args below meth c H locs 0 0 (MQ below (QV G (some (.int r)) M') args s 0 0 (gA G)) (F0 m 38 ls [.int xs0]) := by
    intro xs0 M H locs ls hM hS hl hf
    rw [f_X8_tellCode_b38] at hf
    refine lv_istore (lv' := [(4, .int xs0), (0, .ref a0), (1, .ref a1), (2, .int p2), (3, .int p3)]) hx hb dX8_tellCode_38 hl (by decide) rfl (fun ls hl => ?_)
    refine lv_iload_n hx hb dX8_tellCode_40 rfl (lv_at hl 4 rfl) ?_
    refine lv_if_eq (tgt := 49) hx hb dX8_tellCode_41 (by decide) (fun g_1 => ?_) (fun g_1 => ?_)
    · rw [if_pos g_1] at hf
      refine lv_iload hx hb dX8_tellCode_49 (lv_at hl 0 rfl) ?_
      exact ef_im hx hb hr hlocks hM hS hf dX8_tellCode_51
    · rw [if_neg g_1] at hf
      refine lv_iload_n hx hb dX8_tellCode_44 rfl (lv_at hl 4 rfl) ?_
      refine lv_iconst (v := 3) hx hb dX8_tellCode_45 (by decide) ?_
      refine lv_icmp_ne (tgt := 52) hx hb dX8_tellCode_46 (by decide) (fun g_2 => ?_) (fun g_2 => ?_)
      · rw [if_neg g_2] at hf
        refine lv_aload_n hx hb dX8_tellCode_52 rfl (lv_at hl 1 rfl) ?_
        refine s_get hx hb (lay_8 hts) hown hK hM (c_9 h0) rfl 6 (by decide) rfl rfl (tk_286 hts) dX8_tellCode_53 ?_
        refine lv_iload hx hb dX8_tellCode_56 (lv_at hl 0 rfl) ?_
        obtain ⟨M4, e_3, hf⟩ := vb_e hf
        refine c_Vv hx hb hml hown hts hV hK hM hS (As := [.int xs0]) (rest := []) (k_X0_follow G hG l (a0 + 276) (ky_9_6 hG h0) xs0 M e_3) w_X0_follow (tk_536 hts) (c_1 (ky_9_6 hG h0)) rfl rfl ⟨⟨rfl, rfl⟩, Nat.le_of_ble_eq_true rfl, Nat.le_of_ble_eq_true rfl⟩ ⟨Nat.zero_le _, Nat.zero_le _⟩ rfl hl.1 rfl (Nat.le_of_ble_eq_true rfl) dX8_tellCode_58 (fun H locs hM hS => ?_)
        refine lv_iload_n hx hb dX8_tellCode_61 rfl (lv_at hl 4 rfl) ?_
        refine lv_iconst (v := 2) hx hb dX8_tellCode_62 (by decide) ?_
        refine lv_icmp_ne (tgt := 76) hx hb dX8_tellCode_63 (by decide) (fun g_5 => ?_) (fun g_5 => ?_)
        · rw [if_neg g_5] at hf
          refine lv_aload_n hx hb dX8_tellCode_76 rfl (lv_at hl 1 rfl) ?_
          refine s_get hx hb (lay_8 hts) hown hK hM (c_9 h0) rfl 6 (by decide) rfl rfl (tk_286 hts) dX8_tellCode_77 ?_
          refine s_getN hx hb (lay_0 hts) hown hK hM (c_1 (ky_9_6 hG h0)) rfl 0 (by decide) rfl rfl (tk_69 hts) dX8_tellCode_80 ?_
          exact ef_im hx hb hr hlocks hM hS hf dX8_tellCode_83
        · rw [if_pos g_5] at hf
          refine lv_aload_n hx hb dX8_tellCode_66 rfl (lv_at hl 1 rfl) ?_
          refine s_get hx hb (lay_8 hts) hown hK hM (c_9 h0) rfl 6 (by decide) rfl rfl (tk_286 hts) dX8_tellCode_67 ?_
          refine s_getN hx hb (lay_0 hts) hown hK hM (c_1 (ky_9_6 hG h0)) rfl 1 (by decide) rfl rfl (tk_73 hts) dX8_tellCode_70 ?_
          refine lv_goto (tgt := 83) hx hb dX8_tellCode_73 (by decide) ?_
          exact ef_im hx hb hr hlocks hM hS hf dX8_tellCode_83
      · rw [if_pos g_2] at hf
        refine lv_iload hx hb dX8_tellCode_49 (lv_at hl 0 rfl) ?_
        exact ef_im hx hb hr hlocks hM hS hf dX8_tellCode_51
  rw [f_X8_tellCode] at hf
  obtain ⟨H, hHe⟩ : ∃ H, H = s.heap := ⟨_, rfl⟩
  obtain ⟨locs, hLe⟩ : ∃ L : List Loc, L = [] := ⟨_, rfl⟩
  rw [← hHe] at hM
  have hS : va_S (gA G) s.heap H locs := by rw [hHe, hLe]; exact va_S.rf
  suffices hW : W p l e ({ frames := 3, cells := 0, slots := 0, locals := 70 } : Room) s m args below meth c H locs 0 0 (MQ below (QV G (some (.int r)) M') args s 0 0 (gA G)) (F0 m 0 ls []) by rw [hHe, hLe] at hW; exact hW
  refine lv_aload_n hx hb dX8_tellCode_0 rfl (lv_at hl 0 rfl) ?_
  refine s_get hx hb (lay_8 hts) hown hK hM (c_9 h0) rfl 6 (by decide) rfl rfl (tk_286 hts) dX8_tellCode_1 ?_
  refine lv_aload_n hx hb dX8_tellCode_4 rfl (lv_at hl 1 rfl) ?_
  refine s_getN hx hb (lay_7 hts) hown hK hM (c_8 h1) rfl 0 (by decide) rfl rfl (tk_213 hts) dX8_tellCode_5 ?_
  refine s_getN hx hb (lay_3 hts) hown hK hM (c_4 (ky_8_0 hG h1)) rfl 0 (by decide) rfl rfl (tk_119 hts) dX8_tellCode_8 ?_
  obtain ⟨M7, e_6, hf⟩ := vb_e hf
  refine c_Vv hx hb hml hown hts hV hK hM hS (As := [.ref ((a1 + 1) + 1)]) (rest := []) (k_X0_copyFrom G hG l (a0 + 276) (ky_9_6 hG h0) ((a1 + 1) + 1) (ky_4_0 hG (ky_8_0 hG h1)) M e_6) w_X0_copyFrom (tk_471 hts) (c_1 (ky_9_6 hG h0)) rfl rfl ⟨⟨rfl, rfl⟩, Nat.le_of_ble_eq_true rfl, Nat.le_of_ble_eq_true rfl⟩ ⟨Nat.zero_le _, Nat.zero_le _⟩ rfl hl.1 rfl (Nat.le_of_ble_eq_true rfl) dX8_tellCode_11 (fun H locs hM hS => ?_)
  refine lv_iload_n hx hb dX8_tellCode_14 rfl (lv_at hl 3 rfl) ?_
  refine lv_iconst (v := 3) hx hb dX8_tellCode_15 (by decide) ?_
  refine lv_icmp_ge (tgt := 30) hx hb dX8_tellCode_16 (by decide) (fun g_8 => ?_) (fun g_8 => ?_)
  · rw [if_pos g_8] at hf
    refine lv_aload_n hx hb dX8_tellCode_30 rfl (lv_at hl 0 rfl) ?_
    refine s_get hx hb (lay_8 hts) hown hK hM (c_9 h0) rfl 6 (by decide) rfl rfl (tk_286 hts) dX8_tellCode_31 ?_
    refine lv_iload_n hx hb dX8_tellCode_34 rfl (lv_at hl 2 rfl) ?_
    obtain ⟨r10, e_9, hf⟩ := vb_e hf
    refine c_Vi hx hb hml hown hts hV hK hM hS (As := [.int p2]) (rest := []) (k_X0_nearestCodeFor G hG l (a0 + 276) (ky_9_6 hG h0) p2 M7 e_9) w_X0_nearestCodeFor (tk_531 hts) (c_1 (ky_9_6 hG h0)) rfl rfl ⟨⟨rfl, rfl⟩, Nat.le_of_ble_eq_true rfl, Nat.le_of_ble_eq_true rfl⟩ ⟨Nat.zero_le _, Nat.zero_le _⟩ rfl hl.1 rfl (Nat.le_of_ble_eq_true rfl) dX8_tellCode_35 (fun H locs hM hS => ?_)
    exact b38 r10 _ H locs ls hM hS (lv_sub hl [0, 1, 2, 3] rfl) hf
  · rw [if_neg g_8] at hf
    refine lv_aload_n hx hb dX8_tellCode_19 rfl (lv_at hl 0 rfl) ?_
    refine s_get hx hb (lay_8 hts) hown hK hM (c_9 h0) rfl 6 (by decide) rfl rfl (tk_286 hts) dX8_tellCode_20 ?_
    refine lv_iload_n hx hb dX8_tellCode_23 rfl (lv_at hl 2 rfl) ?_
    obtain ⟨r12, e_11, hf⟩ := vb_e hf
    refine c_Vi hx hb hml hown hts hV hK hM hS (As := [.int p2]) (rest := []) (k_X0_codeFor G hG l (a0 + 276) (ky_9_6 hG h0) p2 M7 e_11) w_X0_codeFor (tk_527 hts) (c_1 (ky_9_6 hG h0)) rfl rfl ⟨⟨rfl, rfl⟩, Nat.le_of_ble_eq_true rfl, Nat.le_of_ble_eq_true rfl⟩ ⟨Nat.zero_le _, Nat.zero_le _⟩ rfl hl.1 rfl (Nat.le_of_ble_eq_true rfl) dX8_tellCode_24 (fun H locs hM hS => ?_)
    refine lv_goto (tgt := 38) hx hb dX8_tellCode_27 (by decide) ?_
    exact b38 r12 _ H locs ls hM hS (lv_sub hl [0, 1, 2, 3] rfl) hf
def f_X8_codesToComeNear_b17 (a0 : Nat) (a1 : Nat) (p2 : Int32) (p3 : Int32) : Nat → Int32 → Mem → Option (Int32 × Mem)
  | 0, _, _ => none
  | n + 1, x4, M => if (60 : Int32) < x4 then (some ((-10000), M)) else (vb (f_X8_distance (mI M (a0 + 276) 0) p2 M) fun r3 => if p3 ≤ r3 then (vb (f_X0_codeFor (a0 + 276) p2 M) fun r6 => vb (f_X0_follow (a0 + 276) r6 M) fun M8 => nb (x4 + 1) fun y9 => f_X8_codesToComeNear_b17 a0 a1 p2 p3 n y9 M8) else (some (x4, M)))
def f_X8_codesToComeNear (a0 : Nat) (a1 : Nat) (p2 : Int32) (p3 : Int32) (M : Mem) : Option (Int32 × Mem) := vb (f_X0_copyFrom (a0 + 276) ((a1 + 1) + 1) M) fun M11 => f_X8_codesToComeNear_b17 a0 a1 p2 p3 lfuel 0 M11
set_option maxHeartbeats 4000000 in
set_option maxRecDepth 100000 in
theorem k_X8_codesToComeNear (G : Gt) (hG : gOK G) (l : Launch) (a0 : Nat) (h0 : gK G a0 = 9) (a1 : Nat) (h1 : gK G a1 = 8) (p2 : Int32) (p3 : Int32) (M : Mem) {r : Int32} {M' : Mem} (hf : f_X8_codesToComeNear a0 a1 p2 p3 M = some (r, M')) : Kc G l yX8_codesToComeNear cX8_codesToComeNear 5 (some .int) ({ frames := 3, cells := 0, slots := 0, locals := 68 } : Room) [.ref a0, .ref a1, .int p2, .int p3] M (some (.int r)) M' := by
  refine start (by decide) (Nat.le_of_ble_eq_true rfl) ?_
  intro p e s m args below meth c ls hx hb hr hown hml hlocks hts hV hM hl
  have hown : s.vm.findClass "FoldedVoices" = some m.cls := hown
  have hK := hG.1.moved hV
  have hS : va_S (gA G) s.heap s.heap [] := va_S.rf
  have hl : lv_has ls 5 [(0, .ref a0), (1, .ref a1), (2, .int p2), (3, .int p3)] := hl
  have hM0 := hM
  have b17 : ∀ (n : Nat), ∀ (x4 : Int32) (M : Mem) (H : Heap) (locs : List Loc) (ls : Array Slot), Mh G M H → va_S (gA G) s.heap H locs → lv_has ls 5 [(0, .ref a0), (1, .ref a1), (2, .int p2), (3, .int p3), (4, .int x4)] → f_X8_codesToComeNear_b17 a0 a1 p2 p3 n x4 M = some (r, M') → W p l e ({ frames := 3, cells := 0, slots := 0, locals := 68 } : Room) s m args below meth c H locs 0 0 (MQ below (QV G (some (.int r)) M') args s 0 0 (gA G)) (F0 m 17 ls []) := by
    intro n
    induction n with
    | zero =>
      intro x4 M H locs ls hM hS hl hf
      rw [f_X8_codesToComeNear_b17] at hf
      cases hf
    | succ n ih =>
      intro x4 M H locs ls hM hS hl hf
      rw [f_X8_codesToComeNear_b17] at hf
      refine lv_iload hx hb dX8_codesToComeNear_17 (lv_at hl 4 rfl) ?_
      refine lv_bipush (v := 60) hx hb dX8_codesToComeNear_19 (by decide) ?_
      refine lv_icmp_gt (tgt := 63) hx hb dX8_codesToComeNear_21 (by decide) (fun g_1 => ?_) (fun g_1 => ?_)
      · rw [if_pos g_1] at hf
        refine lv_sipush (v := (-10000)) hx hb dX8_codesToComeNear_63 (by decide) ?_
        exact ef_im hx hb hr hlocks hM hS hf dX8_codesToComeNear_66
      · rw [if_neg g_1] at hf
        refine lv_aload_n hx hb dX8_codesToComeNear_24 rfl (lv_at hl 0 rfl) ?_
        refine s_get hx hb (lay_8 hts) hown hK hM (c_9 h0) rfl 6 (by decide) rfl rfl (tk_286 hts) dX8_codesToComeNear_25 ?_
        refine s_getN hx hb (lay_0 hts) hown hK hM (c_1 (ky_9_6 hG h0)) rfl 0 (by decide) rfl rfl (tk_69 hts) dX8_codesToComeNear_28 ?_
        refine lv_iload_n hx hb dX8_codesToComeNear_31 rfl (lv_at hl 2 rfl) ?_
        obtain ⟨r3, e_2, hf⟩ := vb_e hf
        refine c_Si hx hb hml hown hts hV hM hS (As := [.int (mI M (a0 + 276) 0), .int p2]) (rest := []) (k_X8_distance G hG l (mI M (a0 + 276) 0) p2 M e_2) w_X8_distance (tk_541 hts) ⟨⟨rfl, rfl⟩, Nat.le_of_ble_eq_true rfl, Nat.le_of_ble_eq_true rfl⟩ ⟨Nat.zero_le _, Nat.zero_le _⟩ rfl hl.1 rfl (Nat.le_of_ble_eq_true rfl) dX8_codesToComeNear_32 (fun H locs hM hS => ?_)
        refine lv_iload_n hx hb dX8_codesToComeNear_35 rfl (lv_at hl 3 rfl) ?_
        refine lv_icmp_ge (tgt := 42) hx hb dX8_codesToComeNear_36 (by decide) (fun g_4 => ?_) (fun g_4 => ?_)
        · rw [if_pos g_4] at hf
          refine lv_aload_n hx hb dX8_codesToComeNear_42 rfl (lv_at hl 0 rfl) ?_
          refine s_get hx hb (lay_8 hts) hown hK hM (c_9 h0) rfl 6 (by decide) rfl rfl (tk_286 hts) dX8_codesToComeNear_43 ?_
          refine lv_aload_n hx hb dX8_codesToComeNear_46 rfl (lv_at hl 0 rfl) ?_
          refine s_get hx hb (lay_8 hts) hown hK hM (c_9 h0) rfl 6 (by decide) rfl rfl (tk_286 hts) dX8_codesToComeNear_47 ?_
          refine lv_iload_n hx hb dX8_codesToComeNear_50 rfl (lv_at hl 2 rfl) ?_
          obtain ⟨r6, e_5, hf⟩ := vb_e hf
          refine c_Vi hx hb hml hown hts hV hK hM hS (As := [.int p2]) (rest := [.ref (a0 + 276)]) (k_X0_codeFor G hG l (a0 + 276) (ky_9_6 hG h0) p2 M e_5) w_X0_codeFor (tk_527 hts) (c_1 (ky_9_6 hG h0)) rfl rfl ⟨⟨rfl, rfl⟩, Nat.le_of_ble_eq_true rfl, Nat.le_of_ble_eq_true rfl⟩ ⟨Nat.zero_le _, Nat.zero_le _⟩ rfl hl.1 rfl (Nat.le_of_ble_eq_true rfl) dX8_codesToComeNear_51 (fun H locs hM hS => ?_)
          obtain ⟨M8, e_7, hf⟩ := vb_e hf
          refine c_Vv hx hb hml hown hts hV hK hM hS (As := [.int r6]) (rest := []) (k_X0_follow G hG l (a0 + 276) (ky_9_6 hG h0) r6 M e_7) w_X0_follow (tk_536 hts) (c_1 (ky_9_6 hG h0)) rfl rfl ⟨⟨rfl, rfl⟩, Nat.le_of_ble_eq_true rfl, Nat.le_of_ble_eq_true rfl⟩ ⟨Nat.zero_le _, Nat.zero_le _⟩ rfl hl.1 rfl (Nat.le_of_ble_eq_true rfl) dX8_codesToComeNear_54 (fun H locs hM hS => ?_)
          obtain ⟨y9, ey9, hf⟩ := nb_e hf
          refine lv_iinc (v := y9) (lv' := [(4, .int y9), (0, .ref a0), (1, .ref a1), (2, .int p2), (3, .int p3)]) hx hb dX8_codesToComeNear_57 hl (k := 4) rfl (by rw [← ey9]; rfl) (by decide) rfl (fun ls hl => ?_)
          refine lv_goto (tgt := 17) hx hb dX8_codesToComeNear_60 (by decide) ?_
          exact ih y9 _ H locs ls hM hS (lv_sub hl [1, 2, 3, 4, 0] rfl) hf
        · rw [if_neg g_4] at hf
          refine lv_iload hx hb dX8_codesToComeNear_39 (lv_at hl 4 rfl) ?_
          exact ef_im hx hb hr hlocks hM hS hf dX8_codesToComeNear_41
  rw [f_X8_codesToComeNear] at hf
  obtain ⟨H, hHe⟩ : ∃ H, H = s.heap := ⟨_, rfl⟩
  obtain ⟨locs, hLe⟩ : ∃ L : List Loc, L = [] := ⟨_, rfl⟩
  rw [← hHe] at hM
  have hS : va_S (gA G) s.heap H locs := by rw [hHe, hLe]; exact va_S.rf
  suffices hW : W p l e ({ frames := 3, cells := 0, slots := 0, locals := 68 } : Room) s m args below meth c H locs 0 0 (MQ below (QV G (some (.int r)) M') args s 0 0 (gA G)) (F0 m 0 ls []) by rw [hHe, hLe] at hW; exact hW
  refine lv_aload_n hx hb dX8_codesToComeNear_0 rfl (lv_at hl 0 rfl) ?_
  refine s_get hx hb (lay_8 hts) hown hK hM (c_9 h0) rfl 6 (by decide) rfl rfl (tk_286 hts) dX8_codesToComeNear_1 ?_
  refine lv_aload_n hx hb dX8_codesToComeNear_4 rfl (lv_at hl 1 rfl) ?_
  refine s_getN hx hb (lay_7 hts) hown hK hM (c_8 h1) rfl 0 (by decide) rfl rfl (tk_213 hts) dX8_codesToComeNear_5 ?_
  refine s_getN hx hb (lay_3 hts) hown hK hM (c_4 (ky_8_0 hG h1)) rfl 0 (by decide) rfl rfl (tk_119 hts) dX8_codesToComeNear_8 ?_
  obtain ⟨M11, e_10, hf⟩ := vb_e hf
  refine c_Vv hx hb hml hown hts hV hK hM hS (As := [.ref ((a1 + 1) + 1)]) (rest := []) (k_X0_copyFrom G hG l (a0 + 276) (ky_9_6 hG h0) ((a1 + 1) + 1) (ky_4_0 hG (ky_8_0 hG h1)) M e_10) w_X0_copyFrom (tk_471 hts) (c_1 (ky_9_6 hG h0)) rfl rfl ⟨⟨rfl, rfl⟩, Nat.le_of_ble_eq_true rfl, Nat.le_of_ble_eq_true rfl⟩ ⟨Nat.zero_le _, Nat.zero_le _⟩ rfl hl.1 rfl (Nat.le_of_ble_eq_true rfl) dX8_codesToComeNear_11 (fun H locs hM hS => ?_)
  refine lv_iconst (v := 0) hx hb dX8_codesToComeNear_14 (by decide) ?_
  refine lv_istore (lv' := [(4, .int 0), (0, .ref a0), (1, .ref a1), (2, .int p2), (3, .int p3)]) hx hb dX8_codesToComeNear_15 hl (by decide) rfl (fun ls hl => ?_)
  exact b17 _ 0 _ H locs ls hM hS (lv_sub hl [1, 2, 3, 4, 0] rfl) hf
def f_X8_tellIfAllCame (a0 : Nat) (a1 : Nat) (p2 : Int32) (M : Mem) : Option (Int32 × Mem) := vb (f_X8_letAllCome a0 a1 M) fun M2 => if p2 = 0 then (some (mI M2 ((a0 + 277) + 1) 0, M2)) else (if p2 = 1 then (some ((mI M2 (a0 + 277) 6) - (mI M2 (a1 + 9) 6), M2)) else (if p2 = 2 then (some ((mI M2 (a0 + 277) 3) - (mI M2 (a1 + 9) 3), M2)) else (some ((mI M2 (a0 + 277) 5) - (mI M2 (a1 + 9) 5), M2))))
set_option maxHeartbeats 4000000 in
set_option maxRecDepth 100000 in
theorem k_X8_tellIfAllCame (G : Gt) (hG : gOK G) (l : Launch) (a0 : Nat) (h0 : gK G a0 = 9) (a1 : Nat) (h1 : gK G a1 = 8) (p2 : Int32) (M : Mem) {r : Int32} {M' : Mem} (hf : f_X8_tellIfAllCame a0 a1 p2 M = some (r, M')) : Kc G l yX8_tellIfAllCame cX8_tellIfAllCame 3 (some .int) ({ frames := 5, cells := 0, slots := 0, locals := 113 } : Room) [.ref a0, .ref a1, .int p2] M (some (.int r)) M' := by
  refine start (by decide) (Nat.le_of_ble_eq_true rfl) ?_
  intro p e s m args below meth c ls hx hb hr hown hml hlocks hts hV hM hl
  have hown : s.vm.findClass "FoldedVoices" = some m.cls := hown
  have hK := hG.1.moved hV
  have hS : va_S (gA G) s.heap s.heap [] := va_S.rf
  have hl : lv_has ls 3 [(0, .ref a0), (1, .ref a1), (2, .int p2)] := hl
  have hM0 := hM
  rw [f_X8_tellIfAllCame] at hf
  refine lv_aload_n hx hb dX8_tellIfAllCame_0 rfl (lv_at hl 0 rfl) ?_
  refine lv_aload_n hx hb dX8_tellIfAllCame_1 rfl (lv_at hl 1 rfl) ?_
  obtain ⟨M2, e_1, hf⟩ := vb_e hf
  refine c_Vv hx hb hml hown hts hV hK hM hS (As := [.ref a1]) (rest := []) (k_X8_letAllCome G hG l a0 h0 a1 h1 M e_1) w_X8_letAllCome (tk_411 hts) (c_9 h0) rfl rfl ⟨⟨rfl, rfl⟩, Nat.le_of_ble_eq_true rfl, Nat.le_of_ble_eq_true rfl⟩ ⟨Nat.zero_le _, Nat.zero_le _⟩ rfl hl.1 rfl (Nat.le_of_ble_eq_true rfl) dX8_tellIfAllCame_2 (fun H locs hM hS => ?_)
  refine lv_iload_n hx hb dX8_tellIfAllCame_5 rfl (lv_at hl 2 rfl) ?_
  by_cases g_3 : p2 = 0
  · rw [if_pos g_3] at hf
    refine lv_tableIn (off := 26) (tgt := 32) hx hb dX8_tellIfAllCame_6 (by rw [g_3]; decide) (by rw [g_3]; decide) (by rw [g_3]; rfl) (by decide) ?_
    refine lv_aload_n hx hb dX8_tellIfAllCame_32 rfl (lv_at hl 0 rfl) ?_
    refine s_get hx hb (lay_8 hts) hown hK hM (c_9 h0) rfl 7 (by decide) rfl rfl (tk_287 hts) dX8_tellIfAllCame_33 ?_
    refine s_getN hx hb (lay_1 hts) hown hK hM (c_2 (ky_9_7 hG h0)) rfl 0 (by decide) rfl rfl (tk_172 hts) dX8_tellIfAllCame_36 ?_
    refine s_getN hx hb (lay_0 hts) hown hK hM (c_1 (ky_2_0 hG (ky_9_7 hG h0))) rfl 0 (by decide) rfl rfl (tk_69 hts) dX8_tellIfAllCame_39 ?_
    exact ef_im hx hb hr hlocks hM hS hf dX8_tellIfAllCame_42
  rw [if_neg g_3] at hf
  by_cases g_4 : p2 = 1
  · rw [if_pos g_4] at hf
    refine lv_tableIn (off := 37) (tgt := 43) hx hb dX8_tellIfAllCame_6 (by rw [g_4]; decide) (by rw [g_4]; decide) (by rw [g_4]; rfl) (by decide) ?_
    refine lv_aload_n hx hb dX8_tellIfAllCame_43 rfl (lv_at hl 0 rfl) ?_
    refine s_get hx hb (lay_8 hts) hown hK hM (c_9 h0) rfl 7 (by decide) rfl rfl (tk_287 hts) dX8_tellIfAllCame_44 ?_
    refine s_getN hx hb (lay_1 hts) hown hK hM (c_2 (ky_9_7 hG h0)) rfl 6 (by decide) rfl rfl (tk_183 hts) dX8_tellIfAllCame_47 ?_
    refine lv_aload_n hx hb dX8_tellIfAllCame_50 rfl (lv_at hl 1 rfl) ?_
    refine s_getN hx hb (lay_7 hts) hown hK hM (c_8 h1) rfl 1 (by decide) rfl rfl (tk_215 hts) dX8_tellIfAllCame_51 ?_
    refine s_getN hx hb (lay_1 hts) hown hK hM (c_2 (ky_8_1 hG h1)) rfl 6 (by decide) rfl rfl (tk_183 hts) dX8_tellIfAllCame_54 ?_
    refine lv_isub hx hb dX8_tellIfAllCame_57 ?_
    exact ef_im hx hb hr hlocks hM hS hf dX8_tellIfAllCame_58
  rw [if_neg g_4] at hf
  by_cases g_5 : p2 = 2
  · rw [if_pos g_5] at hf
    refine lv_tableIn (off := 53) (tgt := 59) hx hb dX8_tellIfAllCame_6 (by rw [g_5]; decide) (by rw [g_5]; decide) (by rw [g_5]; rfl) (by decide) ?_
    refine lv_aload_n hx hb dX8_tellIfAllCame_59 rfl (lv_at hl 0 rfl) ?_
    refine s_get hx hb (lay_8 hts) hown hK hM (c_9 h0) rfl 7 (by decide) rfl rfl (tk_287 hts) dX8_tellIfAllCame_60 ?_
    refine s_getN hx hb (lay_1 hts) hown hK hM (c_2 (ky_9_7 hG h0)) rfl 3 (by decide) rfl rfl (tk_177 hts) dX8_tellIfAllCame_63 ?_
    refine lv_aload_n hx hb dX8_tellIfAllCame_66 rfl (lv_at hl 1 rfl) ?_
    refine s_getN hx hb (lay_7 hts) hown hK hM (c_8 h1) rfl 1 (by decide) rfl rfl (tk_215 hts) dX8_tellIfAllCame_67 ?_
    refine s_getN hx hb (lay_1 hts) hown hK hM (c_2 (ky_8_1 hG h1)) rfl 3 (by decide) rfl rfl (tk_177 hts) dX8_tellIfAllCame_70 ?_
    refine lv_isub hx hb dX8_tellIfAllCame_73 ?_
    exact ef_im hx hb hr hlocks hM hS hf dX8_tellIfAllCame_74
  rw [if_neg g_5] at hf
  have tg_3 := lv_neT g_3 (show (0 : Int32).toInt = 0 from by decide)
  have tg_4 := lv_neT g_4 (show (1 : Int32).toInt = 1 from by decide)
  have tg_5 := lv_neT g_5 (show (2 : Int32).toInt = 2 from by decide)
  refine lv_tableOut (tgt := 75) hx hb dX8_tellIfAllCame_6 (by omega) (by decide) ?_
  refine lv_aload_n hx hb dX8_tellIfAllCame_75 rfl (lv_at hl 0 rfl) ?_
  refine s_get hx hb (lay_8 hts) hown hK hM (c_9 h0) rfl 7 (by decide) rfl rfl (tk_287 hts) dX8_tellIfAllCame_76 ?_
  refine s_getN hx hb (lay_1 hts) hown hK hM (c_2 (ky_9_7 hG h0)) rfl 5 (by decide) rfl rfl (tk_181 hts) dX8_tellIfAllCame_79 ?_
  refine lv_aload_n hx hb dX8_tellIfAllCame_82 rfl (lv_at hl 1 rfl) ?_
  refine s_getN hx hb (lay_7 hts) hown hK hM (c_8 h1) rfl 1 (by decide) rfl rfl (tk_215 hts) dX8_tellIfAllCame_83 ?_
  refine s_getN hx hb (lay_1 hts) hown hK hM (c_2 (ky_8_1 hG h1)) rfl 5 (by decide) rfl rfl (tk_181 hts) dX8_tellIfAllCame_86 ?_
  refine lv_isub hx hb dX8_tellIfAllCame_89 ?_
  exact ef_im hx hb hr hlocks hM hS hf dX8_tellIfAllCame_90
