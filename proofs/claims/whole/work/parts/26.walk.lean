def f_X9_talk_b52 (a0 : Nat) (x1 : Int32) (M : Mem) : Option (Int32 × Mem) := nb (sI M a0 9 0) fun M1 => some (x1, M1)
def f_X9_talk_b24 (a0 : Nat) : Nat → Int32 → Mem → Option (Int32 × Mem)
  | 0, _, _ => none
  | n + 1, x1, M => if (mI M a0 11) ≤ x1 then (f_X9_talk_b52 a0 x1 M) else (vb (f_X9_canDo a0 x1 M) fun r4 => if r4 = 0 then (f_X9_talk_b52 a0 x1 M) else (cb (f_X9_doDeed a0 x1 M) fun r7 M8 => nb (x1 + 1) fun y9 => f_X9_talk_b24 a0 n y9 M8))
def f_X9_talk (a0 : Nat) (M : Mem) : Option (Int32 × Mem) := nb (sI M a0 7 0) fun M10 => cb (f_X9_isTalk a0 M10) fun r12 M13 => if r12 = 0 then (cb (f_X9_fails a0 1 M13) fun r18 M19 => some (r18, M19)) else (vb (f_X9_save a0 M13) fun M16 => f_X9_talk_b24 a0 lfuel 0 M16)
set_option maxHeartbeats 4000000 in
set_option maxRecDepth 100000 in
theorem k_X9_talk (G : Gt) (hG : gOK G) (l : Launch) (a0 : Nat) (h0 : gK G a0 = 10) (M : Mem) {r : Int32} {M' : Mem} (hf : f_X9_talk a0 M = some (r, M')) : Kc G l yX9_talk cX9_talk 3 (some .int) ({ frames := 7, cells := 0, slots := 0, locals := 154 } : Room) [.ref a0] M (some (.int r)) M' := by
  refine start (by decide) (Nat.le_of_ble_eq_true rfl) ?_
  intro p e s m args below meth c ls hx hb hr hown hml hlocks hts hV hM hl
  have hown : s.vm.findClass "FoldedVoicesModel" = some m.cls := hown
  have hK := hG.1.moved hV
  have hS : va_S (gA G) s.heap s.heap [] := va_S.rf
  have hl : lv_has ls 3 [(0, .ref a0)] := hl
  have hM0 := hM
  have b52 : ∀ (x1 : Int32) (M : Mem) (H : Heap) (locs : List Loc) (ls : Array Slot), Mh G M H → va_S (gA G) s.heap H locs → lv_has ls 3 [(0, .ref a0), (1, .int x1)] → f_X9_talk_b52 a0 x1 M = some (r, M') → W p l e ({ frames := 7, cells := 0, slots := 0, locals := 154 } : Room) s m args below meth c H locs 0 0 (MQ below (QV G (some (.int r)) M') args s 0 0 (gA G)) (F0 m 52 ls []) := by
    intro x1 M H locs ls hM hS hl hf
    rw [f_X9_talk_b52] at hf
    refine lv_aload_n hx hb dX9_talk_52 rfl (lv_at hl 0 rfl) ?_
    refine lv_iconst (v := 0) hx hb dX9_talk_53 (by decide) ?_
    obtain ⟨M1, eM1, hf⟩ := nb_e hf
    refine s_put tyX9 hx hb (lay_9 hts) tyX9_ok nmX9 hown hK hM hS (ky_b hG h0) (c_10 h0) rfl 9 (by decide) rfl rfl rfl (Nat.le_of_ble_eq_true rfl) (cp_9_9 h0) (fun _ h9 => cel_sI _ h9) hM.2.2.sI rfl (tk_972 hts) dX9_talk_54 (fun H locs hM hS => ?_)
    rw [eM1] at hM
    refine lv_iload_n hx hb dX9_talk_57 rfl (lv_at hl 1 rfl) ?_
    exact ef_im hx hb hr hlocks hM hS hf dX9_talk_58
  have b24 : ∀ (n : Nat), ∀ (x1 : Int32) (M : Mem) (H : Heap) (locs : List Loc) (ls : Array Slot), Mh G M H → va_S (gA G) s.heap H locs → lv_has ls 3 [(0, .ref a0), (1, .int x1)] → f_X9_talk_b24 a0 n x1 M = some (r, M') → W p l e ({ frames := 7, cells := 0, slots := 0, locals := 154 } : Room) s m args below meth c H locs 0 0 (MQ below (QV G (some (.int r)) M') args s 0 0 (gA G)) (F0 m 24 ls []) := by
    intro n
    induction n with
    | zero =>
      intro x1 M H locs ls hM hS hl hf
      rw [f_X9_talk_b24] at hf
      cases hf
    | succ n ih =>
      intro x1 M H locs ls hM hS hl hf
      rw [f_X9_talk_b24] at hf
      refine lv_iload_n hx hb dX9_talk_24 rfl (lv_at hl 1 rfl) ?_
      refine lv_aload_n hx hb dX9_talk_25 rfl (lv_at hl 0 rfl) ?_
      refine s_get hx hb (lay_9 hts) hown hK hM (c_10 h0) rfl 11 (by decide) rfl rfl (tk_974 hts) dX9_talk_26 ?_
      refine lv_icmp_ge (tgt := 52) hx hb dX9_talk_29 (by decide) (fun g_2 => ?_) (fun g_2 => ?_)
      · rw [if_pos g_2] at hf
        exact b52 x1 _ H locs ls hM hS (lv_sub hl [0, 1] rfl) hf
      · rw [if_neg g_2] at hf
        refine lv_aload_n hx hb dX9_talk_32 rfl (lv_at hl 0 rfl) ?_
        refine lv_iload_n hx hb dX9_talk_33 rfl (lv_at hl 1 rfl) ?_
        obtain ⟨r4, e_3, hf⟩ := vb_e hf
        refine c_Vi hx hb hml hown hts hV hK hM hS (As := [.int x1]) (rest := []) (k_X9_canDo G hG l a0 h0 x1 M e_3) w_X9_canDo (tk_1181 hts) (c_10 h0) rfl rfl ⟨⟨rfl, rfl⟩, Nat.le_of_ble_eq_true rfl, Nat.le_of_ble_eq_true rfl⟩ ⟨Nat.zero_le _, Nat.zero_le _⟩ rfl hl.1 rfl (Nat.le_of_ble_eq_true rfl) dX9_talk_34 (fun H locs hM hS => ?_)
        refine lv_if_eq (tgt := 52) hx hb dX9_talk_37 (by decide) (fun g_5 => ?_) (fun g_5 => ?_)
        · rw [if_pos g_5] at hf
          exact b52 x1 _ H locs ls hM hS (lv_sub hl [0, 1] rfl) hf
        · rw [if_neg g_5] at hf
          refine lv_aload_n hx hb dX9_talk_40 rfl (lv_at hl 0 rfl) ?_
          refine lv_iload_n hx hb dX9_talk_41 rfl (lv_at hl 1 rfl) ?_
          obtain ⟨r7, M8, e_6, hf⟩ := cb_e hf
          refine c_Vi hx hb hml hown hts hV hK hM hS (As := [.int x1]) (rest := []) (k_X9_doDeed G hG l a0 h0 x1 M e_6) w_X9_doDeed (tk_1185 hts) (c_10 h0) rfl rfl ⟨⟨rfl, rfl⟩, Nat.le_of_ble_eq_true rfl, Nat.le_of_ble_eq_true rfl⟩ ⟨Nat.zero_le _, Nat.zero_le _⟩ rfl hl.1 rfl (Nat.le_of_ble_eq_true rfl) dX9_talk_42 (fun H locs hM hS => ?_)
          refine lv_istore_n (lv' := [(2, .int r7), (0, .ref a0), (1, .int x1)]) hx hb dX9_talk_45 rfl hl (by decide) rfl (fun ls hl => ?_)
          obtain ⟨y9, ey9, hf⟩ := nb_e hf
          refine lv_iinc (v := y9) (lv' := [(1, .int y9), (2, .int r7), (0, .ref a0)]) hx hb dX9_talk_46 hl (k := 2) rfl (by rw [← ey9]; rfl) (by decide) rfl (fun ls hl => ?_)
          refine lv_goto (tgt := 24) hx hb dX9_talk_49 (by decide) ?_
          exact ih y9 _ H locs ls hM hS (lv_sub hl [2, 0] rfl) hf
  rw [f_X9_talk] at hf
  obtain ⟨H, hHe⟩ : ∃ H, H = s.heap := ⟨_, rfl⟩
  obtain ⟨locs, hLe⟩ : ∃ L : List Loc, L = [] := ⟨_, rfl⟩
  rw [← hHe] at hM
  have hS : va_S (gA G) s.heap H locs := by rw [hHe, hLe]; exact va_S.rf
  suffices hW : W p l e ({ frames := 7, cells := 0, slots := 0, locals := 154 } : Room) s m args below meth c H locs 0 0 (MQ below (QV G (some (.int r)) M') args s 0 0 (gA G)) (F0 m 0 ls []) by rw [hHe, hLe] at hW; exact hW
  refine lv_aload_n hx hb dX9_talk_0 rfl (lv_at hl 0 rfl) ?_
  refine lv_iconst (v := 0) hx hb dX9_talk_1 (by decide) ?_
  obtain ⟨M10, eM10, hf⟩ := nb_e hf
  refine s_put tyX9 hx hb (lay_9 hts) tyX9_ok nmX9 hown hK hM hS (ky_b hG h0) (c_10 h0) rfl 7 (by decide) rfl rfl rfl (Nat.le_of_ble_eq_true rfl) (cp_9_7 h0) (fun _ h9 => cel_sI _ h9) hM.2.2.sI rfl (tk_970 hts) dX9_talk_2 (fun H locs hM hS => ?_)
  rw [eM10] at hM
  refine lv_aload_n hx hb dX9_talk_5 rfl (lv_at hl 0 rfl) ?_
  obtain ⟨r12, M13, e_11, hf⟩ := cb_e hf
  refine c_Vi hx hb hml hown hts hV hK hM hS (As := []) (rest := []) (k_X9_isTalk G hG l a0 h0 M10 e_11) w_X9_isTalk (tk_1149 hts) (c_10 h0) rfl rfl ⟨⟨rfl, rfl⟩, Nat.le_of_ble_eq_true rfl, Nat.le_of_ble_eq_true rfl⟩ ⟨Nat.zero_le _, Nat.zero_le _⟩ rfl hl.1 rfl (Nat.le_of_ble_eq_true rfl) dX9_talk_6 (fun H locs hM hS => ?_)
  refine lv_if_ne (tgt := 18) hx hb dX9_talk_9 (by decide) (fun g_14 => ?_) (fun g_14 => ?_)
  · rw [if_neg g_14] at hf
    refine lv_aload_n hx hb dX9_talk_18 rfl (lv_at hl 0 rfl) ?_
    obtain ⟨M16, e_15, hf⟩ := vb_e hf
    refine c_Vv hx hb hml hown hts hV hK hM hS (As := []) (rest := []) (k_X9_save G hG l a0 h0 M13 e_15) w_X9_save (tk_1045 hts) (c_10 h0) rfl rfl ⟨⟨rfl, rfl⟩, Nat.le_of_ble_eq_true rfl, Nat.le_of_ble_eq_true rfl⟩ ⟨Nat.zero_le _, Nat.zero_le _⟩ rfl hl.1 rfl (Nat.le_of_ble_eq_true rfl) dX9_talk_19 (fun H locs hM hS => ?_)
    refine lv_iconst (v := 0) hx hb dX9_talk_22 (by decide) ?_
    refine lv_istore_n (lv' := [(1, .int 0), (0, .ref a0)]) hx hb dX9_talk_23 rfl hl (by decide) rfl (fun ls hl => ?_)
    exact b24 _ 0 _ H locs ls hM hS (lv_sub hl [1, 0] rfl) hf
  · rw [if_pos g_14] at hf
    refine lv_aload_n hx hb dX9_talk_12 rfl (lv_at hl 0 rfl) ?_
    refine lv_iconst (v := 1) hx hb dX9_talk_13 (by decide) ?_
    obtain ⟨r18, M19, e_17, hf⟩ := cb_e hf
    refine c_Vi hx hb hml hown hts hV hK hM hS (As := [.int 1]) (rest := []) (k_X9_fails G hG l a0 h0 1 M13 e_17) w_X9_fails (tk_1026 hts) (c_10 h0) rfl rfl ⟨⟨rfl, rfl⟩, Nat.le_of_ble_eq_true rfl, Nat.le_of_ble_eq_true rfl⟩ ⟨Nat.zero_le _, Nat.zero_le _⟩ rfl hl.1 rfl (Nat.le_of_ble_eq_true rfl) dX9_talk_14 (fun H locs hM hS => ?_)
    exact ef_im hx hb hr hlocks hM hS hf dX9_talk_17
def f_X9_keep_b7 (a0 : Nat) : Nat → Int32 → Mem → Option (Int32 × Mem)
  | 0, _, _ => none
  | n + 1, x1, M => if (626 : Int32) ≤ x1 then (nb (sI M a0 4 1) fun M2 => gd (ix (4 : Int32) 626) <| some (mI M2 (a0 + 1) (4 : Int32).toNatClampNeg, M2)) else (gd (ix x1 626) <| gd (ix x1 626) <| nb (sI M (a0 + 3) x1.toNatClampNeg (mI M (a0 + 1) x1.toNatClampNeg)) fun M6 => nb (x1 + 1) fun y7 => f_X9_keep_b7 a0 n y7 M6)
def f_X9_keep (a0 : Nat) (M : Mem) : Option (Int32 × Mem) := nb (sI M a0 7 0) fun M8 => f_X9_keep_b7 a0 lfuel 0 M8
set_option maxHeartbeats 4000000 in
set_option maxRecDepth 100000 in
theorem k_X9_keep (G : Gt) (hG : gOK G) (l : Launch) (a0 : Nat) (h0 : gK G a0 = 10) (M : Mem) {r : Int32} {M' : Mem} (hf : f_X9_keep a0 M = some (r, M')) : Kc G l yX9_keep cX9_keep 2 (some .int) ({ frames := 0, cells := 0, slots := 0, locals := 0 } : Room) [.ref a0] M (some (.int r)) M' := by
  refine start (by decide) (Nat.le_of_ble_eq_true rfl) ?_
  intro p e s m args below meth c ls hx hb hr hown hml hlocks hts hV hM hl
  have hown : s.vm.findClass "FoldedVoicesModel" = some m.cls := hown
  have hK := hG.1.moved hV
  have hS : va_S (gA G) s.heap s.heap [] := va_S.rf
  have hl : lv_has ls 2 [(0, .ref a0)] := hl
  have hM0 := hM
  have b7 : ∀ (n : Nat), ∀ (x1 : Int32) (M : Mem) (H : Heap) (locs : List Loc) (ls : Array Slot), Mh G M H → va_S (gA G) s.heap H locs → lv_has ls 2 [(0, .ref a0), (1, .int x1)] → f_X9_keep_b7 a0 n x1 M = some (r, M') → W p l e ({ frames := 0, cells := 0, slots := 0, locals := 0 } : Room) s m args below meth c H locs 0 0 (MQ below (QV G (some (.int r)) M') args s 0 0 (gA G)) (F0 m 7 ls []) := by
    intro n
    induction n with
    | zero =>
      intro x1 M H locs ls hM hS hl hf
      rw [f_X9_keep_b7] at hf
      cases hf
    | succ n ih =>
      intro x1 M H locs ls hM hS hl hf
      rw [f_X9_keep_b7] at hf
      refine lv_iload_n hx hb dX9_keep_7 rfl (lv_at hl 1 rfl) ?_
      refine lv_sipush (v := 626) hx hb dX9_keep_8 (by decide) ?_
      refine lv_icmp_ge (tgt := 32) hx hb dX9_keep_11 (by decide) (fun g_1 => ?_) (fun g_1 => ?_)
      · rw [if_pos g_1] at hf
        refine lv_aload_n hx hb dX9_keep_32 rfl (lv_at hl 0 rfl) ?_
        refine lv_iconst (v := 1) hx hb dX9_keep_33 (by decide) ?_
        obtain ⟨M2, eM2, hf⟩ := nb_e hf
        refine s_put tyX9 hx hb (lay_9 hts) tyX9_ok nmX9 hown hK hM hS (ky_b hG h0) (c_10 h0) rfl 4 (by decide) rfl (nz_n (Or.inr rfl)) (nz_f (Or.inr rfl)) (Nat.le_of_ble_eq_true rfl) (cp_9_4 h0) (fun _ h9 => cel_sI _ h9) hM.2.2.sI rfl (tk_967 hts) dX9_keep_34 (fun H locs hM hS => ?_)
        rw [eM2] at hM
        refine lv_aload_n hx hb dX9_keep_37 rfl (lv_at hl 0 rfl) ?_
        refine s_get hx hb (lay_9 hts) hown hK hM (c_10 h0) rfl 0 (by decide) rfl rfl (tk_963 hts) dX9_keep_38 ?_
        refine lv_iconst (v := 4) hx hb dX9_keep_41 (by decide) ?_
        obtain ⟨h_3, hf⟩ := gd_e hf
        refine s_iald 626 hx hb hK hM (ky_10_0 hG h0) (by decide) h_3 dX9_keep_42 ?_
        exact ef_im hx hb hr hlocks hM hS hf dX9_keep_43
      · rw [if_neg g_1] at hf
        refine lv_aload_n hx hb dX9_keep_14 rfl (lv_at hl 0 rfl) ?_
        refine s_get hx hb (lay_9 hts) hown hK hM (c_10 h0) rfl 3 (by decide) rfl rfl (tk_966 hts) dX9_keep_15 ?_
        refine lv_iload_n hx hb dX9_keep_18 rfl (lv_at hl 1 rfl) ?_
        refine lv_aload_n hx hb dX9_keep_19 rfl (lv_at hl 0 rfl) ?_
        refine s_get hx hb (lay_9 hts) hown hK hM (c_10 h0) rfl 0 (by decide) rfl rfl (tk_963 hts) dX9_keep_20 ?_
        refine lv_iload_n hx hb dX9_keep_23 rfl (lv_at hl 1 rfl) ?_
        obtain ⟨h_4, hf⟩ := gd_e hf
        refine s_iald 626 hx hb hK hM (ky_10_0 hG h0) (by decide) h_4 dX9_keep_24 ?_
        obtain ⟨h_5, hf⟩ := gd_e hf
        obtain ⟨M6, eM6, hf⟩ := nb_e hf
        refine s_iast 626 hx hb hK hM hS (ky_10_3 hG h0) (by decide) (ky_b hG (ky_10_3 hG h0)) h_5 dX9_keep_25 (fun H locs hM hS => ?_)
        rw [eM6] at hM
        obtain ⟨y7, ey7, hf⟩ := nb_e hf
        refine lv_iinc (v := y7) (lv' := [(1, .int y7), (0, .ref a0)]) hx hb dX9_keep_26 hl (k := 1) rfl (by rw [← ey7]; rfl) (by decide) rfl (fun ls hl => ?_)
        refine lv_goto (tgt := 7) hx hb dX9_keep_29 (by decide) ?_
        exact ih y7 _ H locs ls hM hS (lv_sub hl [1, 0] rfl) hf
  rw [f_X9_keep] at hf
  obtain ⟨H, hHe⟩ : ∃ H, H = s.heap := ⟨_, rfl⟩
  obtain ⟨locs, hLe⟩ : ∃ L : List Loc, L = [] := ⟨_, rfl⟩
  rw [← hHe] at hM
  have hS : va_S (gA G) s.heap H locs := by rw [hHe, hLe]; exact va_S.rf
  suffices hW : W p l e ({ frames := 0, cells := 0, slots := 0, locals := 0 } : Room) s m args below meth c H locs 0 0 (MQ below (QV G (some (.int r)) M') args s 0 0 (gA G)) (F0 m 0 ls []) by rw [hHe, hLe] at hW; exact hW
  refine lv_aload_n hx hb dX9_keep_0 rfl (lv_at hl 0 rfl) ?_
  refine lv_iconst (v := 0) hx hb dX9_keep_1 (by decide) ?_
  obtain ⟨M8, eM8, hf⟩ := nb_e hf
  refine s_put tyX9 hx hb (lay_9 hts) tyX9_ok nmX9 hown hK hM hS (ky_b hG h0) (c_10 h0) rfl 7 (by decide) rfl rfl rfl (Nat.le_of_ble_eq_true rfl) (cp_9_7 h0) (fun _ h9 => cel_sI _ h9) hM.2.2.sI rfl (tk_970 hts) dX9_keep_2 (fun H locs hM hS => ?_)
  rw [eM8] at hM
  refine lv_iconst (v := 0) hx hb dX9_keep_5 (by decide) ?_
  refine lv_istore_n (lv' := [(1, .int 0), (0, .ref a0)]) hx hb dX9_keep_6 rfl hl (by decide) rfl (fun ls hl => ?_)
  exact b7 _ 0 _ H locs ls hM hS (lv_sub hl [1, 0] rfl) hf
def f_X9_goBack_b24 (a0 : Nat) : Nat → Int32 → Mem → Option (Int32 × Mem)
  | 0, _, _ => none
  | n + 1, x1, M => if (626 : Int32) ≤ x1 then (gd (ix (4 : Int32) 626) <| some (mI M (a0 + 1) (4 : Int32).toNatClampNeg, M)) else (gd (ix x1 626) <| gd (ix x1 626) <| nb (sI M (a0 + 1) x1.toNatClampNeg (mI M (a0 + 3) x1.toNatClampNeg)) fun M5 => nb (x1 + 1) fun y6 => f_X9_goBack_b24 a0 n y6 M5)
def f_X9_goBack (a0 : Nat) (M : Mem) : Option (Int32 × Mem) := nb (sI M a0 7 0) fun M7 => if (mI M7 a0 4) = 0 then (cb (f_X9_fails a0 1 M7) fun r12 M13 => some (r12, M13)) else (vb (f_X9_save a0 M7) fun M10 => f_X9_goBack_b24 a0 lfuel 0 M10)
set_option maxHeartbeats 4000000 in
set_option maxRecDepth 100000 in
theorem k_X9_goBack (G : Gt) (hG : gOK G) (l : Launch) (a0 : Nat) (h0 : gK G a0 = 10) (M : Mem) {r : Int32} {M' : Mem} (hf : f_X9_goBack a0 M = some (r, M')) : Kc G l yX9_goBack cX9_goBack 2 (some .int) ({ frames := 1, cells := 0, slots := 0, locals := 21 } : Room) [.ref a0] M (some (.int r)) M' := by
  refine start (by decide) (Nat.le_of_ble_eq_true rfl) ?_
  intro p e s m args below meth c ls hx hb hr hown hml hlocks hts hV hM hl
  have hown : s.vm.findClass "FoldedVoicesModel" = some m.cls := hown
  have hK := hG.1.moved hV
  have hS : va_S (gA G) s.heap s.heap [] := va_S.rf
  have hl : lv_has ls 2 [(0, .ref a0)] := hl
  have hM0 := hM
  have b24 : ∀ (n : Nat), ∀ (x1 : Int32) (M : Mem) (H : Heap) (locs : List Loc) (ls : Array Slot), Mh G M H → va_S (gA G) s.heap H locs → lv_has ls 2 [(0, .ref a0), (1, .int x1)] → f_X9_goBack_b24 a0 n x1 M = some (r, M') → W p l e ({ frames := 1, cells := 0, slots := 0, locals := 21 } : Room) s m args below meth c H locs 0 0 (MQ below (QV G (some (.int r)) M') args s 0 0 (gA G)) (F0 m 24 ls []) := by
    intro n
    induction n with
    | zero =>
      intro x1 M H locs ls hM hS hl hf
      rw [f_X9_goBack_b24] at hf
      cases hf
    | succ n ih =>
      intro x1 M H locs ls hM hS hl hf
      rw [f_X9_goBack_b24] at hf
      refine lv_iload_n hx hb dX9_goBack_24 rfl (lv_at hl 1 rfl) ?_
      refine lv_sipush (v := 626) hx hb dX9_goBack_25 (by decide) ?_
      refine lv_icmp_ge (tgt := 49) hx hb dX9_goBack_28 (by decide) (fun g_1 => ?_) (fun g_1 => ?_)
      · rw [if_pos g_1] at hf
        refine lv_aload_n hx hb dX9_goBack_49 rfl (lv_at hl 0 rfl) ?_
        refine s_get hx hb (lay_9 hts) hown hK hM (c_10 h0) rfl 0 (by decide) rfl rfl (tk_963 hts) dX9_goBack_50 ?_
        refine lv_iconst (v := 4) hx hb dX9_goBack_53 (by decide) ?_
        obtain ⟨h_2, hf⟩ := gd_e hf
        refine s_iald 626 hx hb hK hM (ky_10_0 hG h0) (by decide) h_2 dX9_goBack_54 ?_
        exact ef_im hx hb hr hlocks hM hS hf dX9_goBack_55
      · rw [if_neg g_1] at hf
        refine lv_aload_n hx hb dX9_goBack_31 rfl (lv_at hl 0 rfl) ?_
        refine s_get hx hb (lay_9 hts) hown hK hM (c_10 h0) rfl 0 (by decide) rfl rfl (tk_963 hts) dX9_goBack_32 ?_
        refine lv_iload_n hx hb dX9_goBack_35 rfl (lv_at hl 1 rfl) ?_
        refine lv_aload_n hx hb dX9_goBack_36 rfl (lv_at hl 0 rfl) ?_
        refine s_get hx hb (lay_9 hts) hown hK hM (c_10 h0) rfl 3 (by decide) rfl rfl (tk_966 hts) dX9_goBack_37 ?_
        refine lv_iload_n hx hb dX9_goBack_40 rfl (lv_at hl 1 rfl) ?_
        obtain ⟨h_3, hf⟩ := gd_e hf
        refine s_iald 626 hx hb hK hM (ky_10_3 hG h0) (by decide) h_3 dX9_goBack_41 ?_
        obtain ⟨h_4, hf⟩ := gd_e hf
        obtain ⟨M5, eM5, hf⟩ := nb_e hf
        refine s_iast 626 hx hb hK hM hS (ky_10_0 hG h0) (by decide) (ky_b hG (ky_10_0 hG h0)) h_4 dX9_goBack_42 (fun H locs hM hS => ?_)
        rw [eM5] at hM
        obtain ⟨y6, ey6, hf⟩ := nb_e hf
        refine lv_iinc (v := y6) (lv' := [(1, .int y6), (0, .ref a0)]) hx hb dX9_goBack_43 hl (k := 1) rfl (by rw [← ey6]; rfl) (by decide) rfl (fun ls hl => ?_)
        refine lv_goto (tgt := 24) hx hb dX9_goBack_46 (by decide) ?_
        exact ih y6 _ H locs ls hM hS (lv_sub hl [1, 0] rfl) hf
  rw [f_X9_goBack] at hf
  obtain ⟨H, hHe⟩ : ∃ H, H = s.heap := ⟨_, rfl⟩
  obtain ⟨locs, hLe⟩ : ∃ L : List Loc, L = [] := ⟨_, rfl⟩
  rw [← hHe] at hM
  have hS : va_S (gA G) s.heap H locs := by rw [hHe, hLe]; exact va_S.rf
  suffices hW : W p l e ({ frames := 1, cells := 0, slots := 0, locals := 21 } : Room) s m args below meth c H locs 0 0 (MQ below (QV G (some (.int r)) M') args s 0 0 (gA G)) (F0 m 0 ls []) by rw [hHe, hLe] at hW; exact hW
  refine lv_aload_n hx hb dX9_goBack_0 rfl (lv_at hl 0 rfl) ?_
  refine lv_iconst (v := 0) hx hb dX9_goBack_1 (by decide) ?_
  obtain ⟨M7, eM7, hf⟩ := nb_e hf
  refine s_put tyX9 hx hb (lay_9 hts) tyX9_ok nmX9 hown hK hM hS (ky_b hG h0) (c_10 h0) rfl 7 (by decide) rfl rfl rfl (Nat.le_of_ble_eq_true rfl) (cp_9_7 h0) (fun _ h9 => cel_sI _ h9) hM.2.2.sI rfl (tk_970 hts) dX9_goBack_2 (fun H locs hM hS => ?_)
  rw [eM7] at hM
  refine lv_aload_n hx hb dX9_goBack_5 rfl (lv_at hl 0 rfl) ?_
  refine s_get hx hb (lay_9 hts) hown hK hM (c_10 h0) rfl 4 (by decide) rfl rfl (tk_967 hts) dX9_goBack_6 ?_
  refine lv_if_ne (tgt := 18) hx hb dX9_goBack_9 (by decide) (fun g_8 => ?_) (fun g_8 => ?_)
  · rw [if_neg g_8] at hf
    refine lv_aload_n hx hb dX9_goBack_18 rfl (lv_at hl 0 rfl) ?_
    obtain ⟨M10, e_9, hf⟩ := vb_e hf
    refine c_Vv hx hb hml hown hts hV hK hM hS (As := []) (rest := []) (k_X9_save G hG l a0 h0 M7 e_9) w_X9_save (tk_1045 hts) (c_10 h0) rfl rfl ⟨⟨rfl, rfl⟩, Nat.le_of_ble_eq_true rfl, Nat.le_of_ble_eq_true rfl⟩ ⟨Nat.zero_le _, Nat.zero_le _⟩ rfl hl.1 rfl (Nat.le_of_ble_eq_true rfl) dX9_goBack_19 (fun H locs hM hS => ?_)
    refine lv_iconst (v := 0) hx hb dX9_goBack_22 (by decide) ?_
    refine lv_istore_n (lv' := [(1, .int 0), (0, .ref a0)]) hx hb dX9_goBack_23 rfl hl (by decide) rfl (fun ls hl => ?_)
    exact b24 _ 0 _ H locs ls hM hS (lv_sub hl [1, 0] rfl) hf
  · rw [if_pos g_8] at hf
    refine lv_aload_n hx hb dX9_goBack_12 rfl (lv_at hl 0 rfl) ?_
    refine lv_iconst (v := 1) hx hb dX9_goBack_13 (by decide) ?_
    obtain ⟨r12, M13, e_11, hf⟩ := cb_e hf
    refine c_Vi hx hb hml hown hts hV hK hM hS (As := [.int 1]) (rest := []) (k_X9_fails G hG l a0 h0 1 M7 e_11) w_X9_fails (tk_1026 hts) (c_10 h0) rfl rfl ⟨⟨rfl, rfl⟩, Nat.le_of_ble_eq_true rfl, Nat.le_of_ble_eq_true rfl⟩ ⟨Nat.zero_le _, Nat.zero_le _⟩ rfl hl.1 rfl (Nat.le_of_ble_eq_true rfl) dX9_goBack_14 (fun H locs hM hS => ?_)
    exact ef_im hx hb hr hlocks hM hS hf dX9_goBack_17
def f_X9_undo_b30 (a0 : Nat) : Nat → Int32 → Mem → Option (Int32 × Mem)
  | 0, _, _ => none
  | n + 1, x1, M => if (626 : Int32) ≤ x1 then (some (mI M a0 2, M)) else (gd (ix (((626 : Int32) * (mI M a0 2)) + x1) 3756) <| gd (ix x1 626) <| nb (sI M (a0 + 1) x1.toNatClampNeg (mI M (a0 + 2) (((626 : Int32) * (mI M a0 2)) + x1).toNatClampNeg)) fun M4 => nb (x1 + 1) fun y5 => f_X9_undo_b30 a0 n y5 M4)
def f_X9_undo (a0 : Nat) (M : Mem) : Option (Int32 × Mem) := nb (sI M a0 7 0) fun M6 => if (mI M6 a0 2) = 0 then (cb (f_X9_fails a0 1 M6) fun r10 M11 => some (r10, M11)) else (nb (sI M6 a0 2 ((mI M6 a0 2) - 1)) fun M8 => f_X9_undo_b30 a0 lfuel 0 M8)
set_option maxHeartbeats 4000000 in
set_option maxRecDepth 100000 in
theorem k_X9_undo (G : Gt) (hG : gOK G) (l : Launch) (a0 : Nat) (h0 : gK G a0 = 10) (M : Mem) {r : Int32} {M' : Mem} (hf : f_X9_undo a0 M = some (r, M')) : Kc G l yX9_undo cX9_undo 2 (some .int) ({ frames := 1, cells := 0, slots := 0, locals := 21 } : Room) [.ref a0] M (some (.int r)) M' := by
  refine start (by decide) (Nat.le_of_ble_eq_true rfl) ?_
  intro p e s m args below meth c ls hx hb hr hown hml hlocks hts hV hM hl
  have hown : s.vm.findClass "FoldedVoicesModel" = some m.cls := hown
  have hK := hG.1.moved hV
  have hS : va_S (gA G) s.heap s.heap [] := va_S.rf
  have hl : lv_has ls 2 [(0, .ref a0)] := hl
  have hM0 := hM
  have b30 : ∀ (n : Nat), ∀ (x1 : Int32) (M : Mem) (H : Heap) (locs : List Loc) (ls : Array Slot), Mh G M H → va_S (gA G) s.heap H locs → lv_has ls 2 [(0, .ref a0), (1, .int x1)] → f_X9_undo_b30 a0 n x1 M = some (r, M') → W p l e ({ frames := 1, cells := 0, slots := 0, locals := 21 } : Room) s m args below meth c H locs 0 0 (MQ below (QV G (some (.int r)) M') args s 0 0 (gA G)) (F0 m 30 ls []) := by
    intro n
    induction n with
    | zero =>
      intro x1 M H locs ls hM hS hl hf
      rw [f_X9_undo_b30] at hf
      cases hf
    | succ n ih =>
      intro x1 M H locs ls hM hS hl hf
      rw [f_X9_undo_b30] at hf
      refine lv_iload_n hx hb dX9_undo_30 rfl (lv_at hl 1 rfl) ?_
      refine lv_sipush (v := 626) hx hb dX9_undo_31 (by decide) ?_
      refine lv_icmp_ge (tgt := 64) hx hb dX9_undo_34 (by decide) (fun g_1 => ?_) (fun g_1 => ?_)
      · rw [if_pos g_1] at hf
        refine lv_aload_n hx hb dX9_undo_64 rfl (lv_at hl 0 rfl) ?_
        refine s_get hx hb (lay_9 hts) hown hK hM (c_10 h0) rfl 2 (by decide) rfl rfl (tk_965 hts) dX9_undo_65 ?_
        exact ef_im hx hb hr hlocks hM hS hf dX9_undo_68
      · rw [if_neg g_1] at hf
        refine lv_aload_n hx hb dX9_undo_37 rfl (lv_at hl 0 rfl) ?_
        refine s_get hx hb (lay_9 hts) hown hK hM (c_10 h0) rfl 0 (by decide) rfl rfl (tk_963 hts) dX9_undo_38 ?_
        refine lv_iload_n hx hb dX9_undo_41 rfl (lv_at hl 1 rfl) ?_
        refine lv_aload_n hx hb dX9_undo_42 rfl (lv_at hl 0 rfl) ?_
        refine s_get hx hb (lay_9 hts) hown hK hM (c_10 h0) rfl 1 (by decide) rfl rfl (tk_964 hts) dX9_undo_43 ?_
        refine lv_sipush (v := 626) hx hb dX9_undo_46 (by decide) ?_
        refine lv_aload_n hx hb dX9_undo_49 rfl (lv_at hl 0 rfl) ?_
        refine s_get hx hb (lay_9 hts) hown hK hM (c_10 h0) rfl 2 (by decide) rfl rfl (tk_965 hts) dX9_undo_50 ?_
        refine lv_imul hx hb dX9_undo_53 ?_
        refine lv_iload_n hx hb dX9_undo_54 rfl (lv_at hl 1 rfl) ?_
        refine lv_iadd hx hb dX9_undo_55 ?_
        obtain ⟨h_2, hf⟩ := gd_e hf
        refine s_iald 3756 hx hb hK hM (ky_10_1 hG h0) (by decide) h_2 dX9_undo_56 ?_
        obtain ⟨h_3, hf⟩ := gd_e hf
        obtain ⟨M4, eM4, hf⟩ := nb_e hf
        refine s_iast 626 hx hb hK hM hS (ky_10_0 hG h0) (by decide) (ky_b hG (ky_10_0 hG h0)) h_3 dX9_undo_57 (fun H locs hM hS => ?_)
        rw [eM4] at hM
        obtain ⟨y5, ey5, hf⟩ := nb_e hf
        refine lv_iinc (v := y5) (lv' := [(1, .int y5), (0, .ref a0)]) hx hb dX9_undo_58 hl (k := 1) rfl (by rw [← ey5]; rfl) (by decide) rfl (fun ls hl => ?_)
        refine lv_goto (tgt := 30) hx hb dX9_undo_61 (by decide) ?_
        exact ih y5 _ H locs ls hM hS (lv_sub hl [1, 0] rfl) hf
  rw [f_X9_undo] at hf
  obtain ⟨H, hHe⟩ : ∃ H, H = s.heap := ⟨_, rfl⟩
  obtain ⟨locs, hLe⟩ : ∃ L : List Loc, L = [] := ⟨_, rfl⟩
  rw [← hHe] at hM
  have hS : va_S (gA G) s.heap H locs := by rw [hHe, hLe]; exact va_S.rf
  suffices hW : W p l e ({ frames := 1, cells := 0, slots := 0, locals := 21 } : Room) s m args below meth c H locs 0 0 (MQ below (QV G (some (.int r)) M') args s 0 0 (gA G)) (F0 m 0 ls []) by rw [hHe, hLe] at hW; exact hW
  refine lv_aload_n hx hb dX9_undo_0 rfl (lv_at hl 0 rfl) ?_
  refine lv_iconst (v := 0) hx hb dX9_undo_1 (by decide) ?_
  obtain ⟨M6, eM6, hf⟩ := nb_e hf
  refine s_put tyX9 hx hb (lay_9 hts) tyX9_ok nmX9 hown hK hM hS (ky_b hG h0) (c_10 h0) rfl 7 (by decide) rfl rfl rfl (Nat.le_of_ble_eq_true rfl) (cp_9_7 h0) (fun _ h9 => cel_sI _ h9) hM.2.2.sI rfl (tk_970 hts) dX9_undo_2 (fun H locs hM hS => ?_)
  rw [eM6] at hM
  refine lv_aload_n hx hb dX9_undo_5 rfl (lv_at hl 0 rfl) ?_
  refine s_get hx hb (lay_9 hts) hown hK hM (c_10 h0) rfl 2 (by decide) rfl rfl (tk_965 hts) dX9_undo_6 ?_
  refine lv_if_ne (tgt := 18) hx hb dX9_undo_9 (by decide) (fun g_7 => ?_) (fun g_7 => ?_)
  · rw [if_neg g_7] at hf
    refine lv_aload_n hx hb dX9_undo_18 rfl (lv_at hl 0 rfl) ?_
    refine lv_dup hx hb dX9_undo_19 rfl ?_
    refine s_get hx hb (lay_9 hts) hown hK hM (c_10 h0) rfl 2 (by decide) rfl rfl (tk_965 hts) dX9_undo_20 ?_
    refine lv_iconst (v := 1) hx hb dX9_undo_23 (by decide) ?_
    refine lv_isub hx hb dX9_undo_24 ?_
    obtain ⟨M8, eM8, hf⟩ := nb_e hf
    refine s_put tyX9 hx hb (lay_9 hts) tyX9_ok nmX9 hown hK hM hS (ky_b hG h0) (c_10 h0) rfl 2 (by decide) rfl rfl rfl (Nat.le_of_ble_eq_true rfl) (cp_9_2 h0) (fun _ h9 => cel_sI _ h9) hM.2.2.sI rfl (tk_965 hts) dX9_undo_25 (fun H locs hM hS => ?_)
    rw [eM8] at hM
    refine lv_iconst (v := 0) hx hb dX9_undo_28 (by decide) ?_
    refine lv_istore_n (lv' := [(1, .int 0), (0, .ref a0)]) hx hb dX9_undo_29 rfl hl (by decide) rfl (fun ls hl => ?_)
    exact b30 _ 0 _ H locs ls hM hS (lv_sub hl [1, 0] rfl) hf
  · rw [if_pos g_7] at hf
    refine lv_aload_n hx hb dX9_undo_12 rfl (lv_at hl 0 rfl) ?_
    refine lv_iconst (v := 1) hx hb dX9_undo_13 (by decide) ?_
    obtain ⟨r10, M11, e_9, hf⟩ := cb_e hf
    refine c_Vi hx hb hml hown hts hV hK hM hS (As := [.int 1]) (rest := []) (k_X9_fails G hG l a0 h0 1 M6 e_9) w_X9_fails (tk_1026 hts) (c_10 h0) rfl rfl ⟨⟨rfl, rfl⟩, Nat.le_of_ble_eq_true rfl, Nat.le_of_ble_eq_true rfl⟩ ⟨Nat.zero_le _, Nat.zero_le _⟩ rfl hl.1 rfl (Nat.le_of_ble_eq_true rfl) dX9_undo_14 (fun H locs hM hS => ?_)
    exact ef_im hx hb hr hlocks hM hS hf dX9_undo_17
def f_X9_ofSaying (a0 : Nat) (p1 : Int32) (p2 : Int32) (M : Mem) : Option Int32 := if p2 = 0 then (vb (f_X9_of a0 p1 0 M) fun r3 => some r3) else (if p2 = 1 then (vb (f_X9_of a0 p1 1 M) fun r6 => some r6) else (if p2 = 2 then (vb (f_X9_of a0 p1 1 M) fun r9 => gd (ix r9 25) <| some (mI M (a0 + 5) r9.toNatClampNeg)) else (if p2 = 3 then (vb (f_X9_of a0 p1 2 M) fun r13 => some r13) else (if p2 = 4 then (vb (f_X9_of a0 p1 3 M) fun r16 => some r16) else (if p2 = 5 then (vb (f_X9_of a0 p1 4 M) fun r19 => some r19) else (if p2 = 6 then (vb (f_X9_of a0 p1 21 M) fun r22 => some r22) else (if p2 = 7 then (vb (f_X9_of a0 p1 22 M) fun r25 => some r25) else (if p2 = 8 then (vb (f_X9_of a0 p1 0 M) fun r28 => some r28) else (vb (f_X9_of a0 p1 38 M) fun r30 => some r30)))))))))
set_option maxHeartbeats 4000000 in
set_option maxRecDepth 100000 in
theorem k_X9_ofSaying (G : Gt) (hG : gOK G) (l : Launch) (a0 : Nat) (h0 : gK G a0 = 10) (p1 : Int32) (p2 : Int32) (M : Mem) {r : Int32} (hf : f_X9_ofSaying a0 p1 p2 M = some r) : Kc G l yX9_ofSaying cX9_ofSaying 3 (some .int) ({ frames := 1, cells := 0, slots := 0, locals := 22 } : Room) [.ref a0, .int p1, .int p2] M (some (.int r)) M := by
  refine start (by decide) (Nat.le_of_ble_eq_true rfl) ?_
  intro p e s m args below meth c ls hx hb hr hown hml hlocks hts hV hM hl
  have hown : s.vm.findClass "FoldedVoicesModel" = some m.cls := hown
  have hK := hG.1.moved hV
  have hS : va_S (gA G) s.heap s.heap [] := va_S.rf
  have hl : lv_has ls 3 [(0, .ref a0), (1, .int p1), (2, .int p2)] := hl
  have hM0 := hM
  rw [f_X9_ofSaying] at hf
  refine lv_iload_n hx hb dX9_ofSaying_0 rfl (lv_at hl 2 rfl) ?_
  by_cases g_1 : p2 = 0
  · rw [if_pos g_1] at hf
    refine lv_tableIn (off := 51) (tgt := 52) hx hb dX9_ofSaying_1 (by rw [g_1]; decide) (by rw [g_1]; decide) (by rw [g_1]; rfl) (by decide) ?_
    refine lv_aload_n hx hb dX9_ofSaying_52 rfl (lv_at hl 0 rfl) ?_
    refine lv_iload_n hx hb dX9_ofSaying_53 rfl (lv_at hl 1 rfl) ?_
    refine lv_iconst (v := 0) hx hb dX9_ofSaying_54 (by decide) ?_
    obtain ⟨r3, e_2, hf⟩ := vb_e hf
    refine c_Vi hx hb hml hown hts hV hK hM hS (As := [.int p1, .int 0]) (rest := []) (k_X9_of G hG l a0 h0 p1 0 M e_2) w_X9_of (tk_1037 hts) (c_10 h0) rfl rfl ⟨⟨rfl, rfl⟩, Nat.le_of_ble_eq_true rfl, Nat.le_of_ble_eq_true rfl⟩ ⟨Nat.zero_le _, Nat.zero_le _⟩ rfl hl.1 rfl (Nat.le_of_ble_eq_true rfl) dX9_ofSaying_55 (fun H locs hM hS => ?_)
    exact ef_ip hx hb hr hlocks hM hS hf dX9_ofSaying_58
  rw [if_neg g_1] at hf
  by_cases g_4 : p2 = 1
  · rw [if_pos g_4] at hf
    refine lv_tableIn (off := 58) (tgt := 59) hx hb dX9_ofSaying_1 (by rw [g_4]; decide) (by rw [g_4]; decide) (by rw [g_4]; rfl) (by decide) ?_
    refine lv_aload_n hx hb dX9_ofSaying_59 rfl (lv_at hl 0 rfl) ?_
    refine lv_iload_n hx hb dX9_ofSaying_60 rfl (lv_at hl 1 rfl) ?_
    refine lv_iconst (v := 1) hx hb dX9_ofSaying_61 (by decide) ?_
    obtain ⟨r6, e_5, hf⟩ := vb_e hf
    refine c_Vi hx hb hml hown hts hV hK hM hS (As := [.int p1, .int 1]) (rest := []) (k_X9_of G hG l a0 h0 p1 1 M e_5) w_X9_of (tk_1037 hts) (c_10 h0) rfl rfl ⟨⟨rfl, rfl⟩, Nat.le_of_ble_eq_true rfl, Nat.le_of_ble_eq_true rfl⟩ ⟨Nat.zero_le _, Nat.zero_le _⟩ rfl hl.1 rfl (Nat.le_of_ble_eq_true rfl) dX9_ofSaying_62 (fun H locs hM hS => ?_)
    exact ef_ip hx hb hr hlocks hM hS hf dX9_ofSaying_65
  rw [if_neg g_4] at hf
  by_cases g_7 : p2 = 2
  · rw [if_pos g_7] at hf
    refine lv_tableIn (off := 65) (tgt := 66) hx hb dX9_ofSaying_1 (by rw [g_7]; decide) (by rw [g_7]; decide) (by rw [g_7]; rfl) (by decide) ?_
    refine lv_aload_n hx hb dX9_ofSaying_66 rfl (lv_at hl 0 rfl) ?_
    refine s_get hx hb (lay_9 hts) hown hK hM (c_10 h0) rfl 6 (by decide) rfl rfl (tk_969 hts) dX9_ofSaying_67 ?_
    refine lv_aload_n hx hb dX9_ofSaying_70 rfl (lv_at hl 0 rfl) ?_
    refine lv_iload_n hx hb dX9_ofSaying_71 rfl (lv_at hl 1 rfl) ?_
    refine lv_iconst (v := 1) hx hb dX9_ofSaying_72 (by decide) ?_
    obtain ⟨r9, e_8, hf⟩ := vb_e hf
    refine c_Vi hx hb hml hown hts hV hK hM hS (As := [.int p1, .int 1]) (rest := [.ref (a0 + 5)]) (k_X9_of G hG l a0 h0 p1 1 M e_8) w_X9_of (tk_1037 hts) (c_10 h0) rfl rfl ⟨⟨rfl, rfl⟩, Nat.le_of_ble_eq_true rfl, Nat.le_of_ble_eq_true rfl⟩ ⟨Nat.zero_le _, Nat.zero_le _⟩ rfl hl.1 rfl (Nat.le_of_ble_eq_true rfl) dX9_ofSaying_73 (fun H locs hM hS => ?_)
    obtain ⟨h_10, hf⟩ := gd_e hf
    refine s_iald 25 hx hb hK hM (ky_10_6 hG h0) (by decide) h_10 dX9_ofSaying_76 ?_
    exact ef_ip hx hb hr hlocks hM hS hf dX9_ofSaying_77
  rw [if_neg g_7] at hf
  by_cases g_11 : p2 = 3
  · rw [if_pos g_11] at hf
    refine lv_tableIn (off := 77) (tgt := 78) hx hb dX9_ofSaying_1 (by rw [g_11]; decide) (by rw [g_11]; decide) (by rw [g_11]; rfl) (by decide) ?_
    refine lv_aload_n hx hb dX9_ofSaying_78 rfl (lv_at hl 0 rfl) ?_
    refine lv_iload_n hx hb dX9_ofSaying_79 rfl (lv_at hl 1 rfl) ?_
    refine lv_iconst (v := 2) hx hb dX9_ofSaying_80 (by decide) ?_
    obtain ⟨r13, e_12, hf⟩ := vb_e hf
    refine c_Vi hx hb hml hown hts hV hK hM hS (As := [.int p1, .int 2]) (rest := []) (k_X9_of G hG l a0 h0 p1 2 M e_12) w_X9_of (tk_1037 hts) (c_10 h0) rfl rfl ⟨⟨rfl, rfl⟩, Nat.le_of_ble_eq_true rfl, Nat.le_of_ble_eq_true rfl⟩ ⟨Nat.zero_le _, Nat.zero_le _⟩ rfl hl.1 rfl (Nat.le_of_ble_eq_true rfl) dX9_ofSaying_81 (fun H locs hM hS => ?_)
    exact ef_ip hx hb hr hlocks hM hS hf dX9_ofSaying_84
  rw [if_neg g_11] at hf
  by_cases g_14 : p2 = 4
  · rw [if_pos g_14] at hf
    refine lv_tableIn (off := 84) (tgt := 85) hx hb dX9_ofSaying_1 (by rw [g_14]; decide) (by rw [g_14]; decide) (by rw [g_14]; rfl) (by decide) ?_
    refine lv_aload_n hx hb dX9_ofSaying_85 rfl (lv_at hl 0 rfl) ?_
    refine lv_iload_n hx hb dX9_ofSaying_86 rfl (lv_at hl 1 rfl) ?_
    refine lv_iconst (v := 3) hx hb dX9_ofSaying_87 (by decide) ?_
    obtain ⟨r16, e_15, hf⟩ := vb_e hf
    refine c_Vi hx hb hml hown hts hV hK hM hS (As := [.int p1, .int 3]) (rest := []) (k_X9_of G hG l a0 h0 p1 3 M e_15) w_X9_of (tk_1037 hts) (c_10 h0) rfl rfl ⟨⟨rfl, rfl⟩, Nat.le_of_ble_eq_true rfl, Nat.le_of_ble_eq_true rfl⟩ ⟨Nat.zero_le _, Nat.zero_le _⟩ rfl hl.1 rfl (Nat.le_of_ble_eq_true rfl) dX9_ofSaying_88 (fun H locs hM hS => ?_)
    exact ef_ip hx hb hr hlocks hM hS hf dX9_ofSaying_91
  rw [if_neg g_14] at hf
  by_cases g_17 : p2 = 5
  · rw [if_pos g_17] at hf
    refine lv_tableIn (off := 91) (tgt := 92) hx hb dX9_ofSaying_1 (by rw [g_17]; decide) (by rw [g_17]; decide) (by rw [g_17]; rfl) (by decide) ?_
    refine lv_aload_n hx hb dX9_ofSaying_92 rfl (lv_at hl 0 rfl) ?_
    refine lv_iload_n hx hb dX9_ofSaying_93 rfl (lv_at hl 1 rfl) ?_
    refine lv_iconst (v := 4) hx hb dX9_ofSaying_94 (by decide) ?_
    obtain ⟨r19, e_18, hf⟩ := vb_e hf
    refine c_Vi hx hb hml hown hts hV hK hM hS (As := [.int p1, .int 4]) (rest := []) (k_X9_of G hG l a0 h0 p1 4 M e_18) w_X9_of (tk_1037 hts) (c_10 h0) rfl rfl ⟨⟨rfl, rfl⟩, Nat.le_of_ble_eq_true rfl, Nat.le_of_ble_eq_true rfl⟩ ⟨Nat.zero_le _, Nat.zero_le _⟩ rfl hl.1 rfl (Nat.le_of_ble_eq_true rfl) dX9_ofSaying_95 (fun H locs hM hS => ?_)
    exact ef_ip hx hb hr hlocks hM hS hf dX9_ofSaying_98
  rw [if_neg g_17] at hf
  by_cases g_20 : p2 = 6
  · rw [if_pos g_20] at hf
    refine lv_tableIn (off := 98) (tgt := 99) hx hb dX9_ofSaying_1 (by rw [g_20]; decide) (by rw [g_20]; decide) (by rw [g_20]; rfl) (by decide) ?_
    refine lv_aload_n hx hb dX9_ofSaying_99 rfl (lv_at hl 0 rfl) ?_
    refine lv_iload_n hx hb dX9_ofSaying_100 rfl (lv_at hl 1 rfl) ?_
    refine lv_bipush (v := 21) hx hb dX9_ofSaying_101 (by decide) ?_
    obtain ⟨r22, e_21, hf⟩ := vb_e hf
    refine c_Vi hx hb hml hown hts hV hK hM hS (As := [.int p1, .int 21]) (rest := []) (k_X9_of G hG l a0 h0 p1 21 M e_21) w_X9_of (tk_1037 hts) (c_10 h0) rfl rfl ⟨⟨rfl, rfl⟩, Nat.le_of_ble_eq_true rfl, Nat.le_of_ble_eq_true rfl⟩ ⟨Nat.zero_le _, Nat.zero_le _⟩ rfl hl.1 rfl (Nat.le_of_ble_eq_true rfl) dX9_ofSaying_103 (fun H locs hM hS => ?_)
    exact ef_ip hx hb hr hlocks hM hS hf dX9_ofSaying_106
  rw [if_neg g_20] at hf
  by_cases g_23 : p2 = 7
  · rw [if_pos g_23] at hf
    refine lv_tableIn (off := 106) (tgt := 107) hx hb dX9_ofSaying_1 (by rw [g_23]; decide) (by rw [g_23]; decide) (by rw [g_23]; rfl) (by decide) ?_
    refine lv_aload_n hx hb dX9_ofSaying_107 rfl (lv_at hl 0 rfl) ?_
    refine lv_iload_n hx hb dX9_ofSaying_108 rfl (lv_at hl 1 rfl) ?_
    refine lv_bipush (v := 22) hx hb dX9_ofSaying_109 (by decide) ?_
    obtain ⟨r25, e_24, hf⟩ := vb_e hf
    refine c_Vi hx hb hml hown hts hV hK hM hS (As := [.int p1, .int 22]) (rest := []) (k_X9_of G hG l a0 h0 p1 22 M e_24) w_X9_of (tk_1037 hts) (c_10 h0) rfl rfl ⟨⟨rfl, rfl⟩, Nat.le_of_ble_eq_true rfl, Nat.le_of_ble_eq_true rfl⟩ ⟨Nat.zero_le _, Nat.zero_le _⟩ rfl hl.1 rfl (Nat.le_of_ble_eq_true rfl) dX9_ofSaying_111 (fun H locs hM hS => ?_)
    exact ef_ip hx hb hr hlocks hM hS hf dX9_ofSaying_114
  rw [if_neg g_23] at hf
  by_cases g_26 : p2 = 8
  · rw [if_pos g_26] at hf
    refine lv_tableIn (off := 114) (tgt := 115) hx hb dX9_ofSaying_1 (by rw [g_26]; decide) (by rw [g_26]; decide) (by rw [g_26]; rfl) (by decide) ?_
    refine lv_aload_n hx hb dX9_ofSaying_115 rfl (lv_at hl 0 rfl) ?_
    refine lv_iload_n hx hb dX9_ofSaying_116 rfl (lv_at hl 1 rfl) ?_
    refine lv_iconst (v := 0) hx hb dX9_ofSaying_117 (by decide) ?_
    obtain ⟨r28, e_27, hf⟩ := vb_e hf
    refine c_Vi hx hb hml hown hts hV hK hM hS (As := [.int p1, .int 0]) (rest := []) (k_X9_of G hG l a0 h0 p1 0 M e_27) w_X9_of (tk_1037 hts) (c_10 h0) rfl rfl ⟨⟨rfl, rfl⟩, Nat.le_of_ble_eq_true rfl, Nat.le_of_ble_eq_true rfl⟩ ⟨Nat.zero_le _, Nat.zero_le _⟩ rfl hl.1 rfl (Nat.le_of_ble_eq_true rfl) dX9_ofSaying_118 (fun H locs hM hS => ?_)
    exact ef_ip hx hb hr hlocks hM hS hf dX9_ofSaying_121
  rw [if_neg g_26] at hf
  have tg_1 := lv_neT g_1 (show (0 : Int32).toInt = 0 from by decide)
  have tg_4 := lv_neT g_4 (show (1 : Int32).toInt = 1 from by decide)
  have tg_7 := lv_neT g_7 (show (2 : Int32).toInt = 2 from by decide)
  have tg_11 := lv_neT g_11 (show (3 : Int32).toInt = 3 from by decide)
  have tg_14 := lv_neT g_14 (show (4 : Int32).toInt = 4 from by decide)
  have tg_17 := lv_neT g_17 (show (5 : Int32).toInt = 5 from by decide)
  have tg_20 := lv_neT g_20 (show (6 : Int32).toInt = 6 from by decide)
  have tg_23 := lv_neT g_23 (show (7 : Int32).toInt = 7 from by decide)
  have tg_26 := lv_neT g_26 (show (8 : Int32).toInt = 8 from by decide)
  refine lv_tableOut (tgt := 122) hx hb dX9_ofSaying_1 (by omega) (by decide) ?_
  refine lv_aload_n hx hb dX9_ofSaying_122 rfl (lv_at hl 0 rfl) ?_
  refine lv_iload_n hx hb dX9_ofSaying_123 rfl (lv_at hl 1 rfl) ?_
  refine lv_bipush (v := 38) hx hb dX9_ofSaying_124 (by decide) ?_
  obtain ⟨r30, e_29, hf⟩ := vb_e hf
  refine c_Vi hx hb hml hown hts hV hK hM hS (As := [.int p1, .int 38]) (rest := []) (k_X9_of G hG l a0 h0 p1 38 M e_29) w_X9_of (tk_1037 hts) (c_10 h0) rfl rfl ⟨⟨rfl, rfl⟩, Nat.le_of_ble_eq_true rfl, Nat.le_of_ble_eq_true rfl⟩ ⟨Nat.zero_le _, Nat.zero_le _⟩ rfl hl.1 rfl (Nat.le_of_ble_eq_true rfl) dX9_ofSaying_126 (fun H locs hM hS => ?_)
  exact ef_ip hx hb hr hlocks hM hS hf dX9_ofSaying_129
def f_X9_saying (a0 : Nat) (p1 : Int32) (p2 : Int32) (M : Mem) : Option (Int32 × Mem) := nb (sI M a0 7 0) fun M1 => vb (f_X9_isVoice p1 M1) fun r3 => if r3 = 0 then (cb (f_X9_fails a0 1 M1) fun r14 M15 => some (r14, M15)) else (vb (f_X9_in p2 0 9 M1) fun r6 => if r6 = 0 then (cb (f_X9_fails a0 2 M1) fun r9 M10 => some (r9, M10)) else (vb (f_X9_ofSaying a0 p1 p2 M1) fun r12 => some (r12, M1)))
set_option maxHeartbeats 4000000 in
set_option maxRecDepth 100000 in
theorem k_X9_saying (G : Gt) (hG : gOK G) (l : Launch) (a0 : Nat) (h0 : gK G a0 = 10) (p1 : Int32) (p2 : Int32) (M : Mem) {r : Int32} {M' : Mem} (hf : f_X9_saying a0 p1 p2 M = some (r, M')) : Kc G l yX9_saying cX9_saying 3 (some .int) ({ frames := 2, cells := 0, slots := 0, locals := 44 } : Room) [.ref a0, .int p1, .int p2] M (some (.int r)) M' := by
  refine start (by decide) (Nat.le_of_ble_eq_true rfl) ?_
  intro p e s m args below meth c ls hx hb hr hown hml hlocks hts hV hM hl
  have hown : s.vm.findClass "FoldedVoicesModel" = some m.cls := hown
  have hK := hG.1.moved hV
  have hS : va_S (gA G) s.heap s.heap [] := va_S.rf
  have hl : lv_has ls 3 [(0, .ref a0), (1, .int p1), (2, .int p2)] := hl
  have hM0 := hM
  rw [f_X9_saying] at hf
  refine lv_aload_n hx hb dX9_saying_0 rfl (lv_at hl 0 rfl) ?_
  refine lv_iconst (v := 0) hx hb dX9_saying_1 (by decide) ?_
  obtain ⟨M1, eM1, hf⟩ := nb_e hf
  refine s_put tyX9 hx hb (lay_9 hts) tyX9_ok nmX9 hown hK hM hS (ky_b hG h0) (c_10 h0) rfl 7 (by decide) rfl rfl rfl (Nat.le_of_ble_eq_true rfl) (cp_9_7 h0) (fun _ h9 => cel_sI _ h9) hM.2.2.sI rfl (tk_970 hts) dX9_saying_2 (fun H locs hM hS => ?_)
  rw [eM1] at hM
  refine lv_iload_n hx hb dX9_saying_5 rfl (lv_at hl 1 rfl) ?_
  obtain ⟨r3, e_2, hf⟩ := vb_e hf
  refine c_Si hx hb hml hown hts hV hM hS (As := [.int p1]) (rest := []) (k_X9_isVoice G hG l p1 M1 e_2) w_X9_isVoice (tk_1020 hts) ⟨⟨rfl, rfl⟩, Nat.le_of_ble_eq_true rfl, Nat.le_of_ble_eq_true rfl⟩ ⟨Nat.zero_le _, Nat.zero_le _⟩ rfl hl.1 rfl (Nat.le_of_ble_eq_true rfl) dX9_saying_6 (fun H locs hM hS => ?_)
  refine lv_if_ne (tgt := 18) hx hb dX9_saying_9 (by decide) (fun g_4 => ?_) (fun g_4 => ?_)
  · rw [if_neg g_4] at hf
    refine lv_iload_n hx hb dX9_saying_18 rfl (lv_at hl 2 rfl) ?_
    refine lv_iconst (v := 0) hx hb dX9_saying_19 (by decide) ?_
    refine lv_bipush (v := 9) hx hb dX9_saying_20 (by decide) ?_
    obtain ⟨r6, e_5, hf⟩ := vb_e hf
    refine c_Si hx hb hml hown hts hV hM hS (As := [.int p2, .int 0, .int 9]) (rest := []) (k_X9_in G hG l p2 0 9 M1 e_5) w_X9_in (tk_1023 hts) ⟨⟨rfl, rfl⟩, Nat.le_of_ble_eq_true rfl, Nat.le_of_ble_eq_true rfl⟩ ⟨Nat.zero_le _, Nat.zero_le _⟩ rfl hl.1 rfl (Nat.le_of_ble_eq_true rfl) dX9_saying_22 (fun H locs hM hS => ?_)
    refine lv_if_eq (tgt := 37) hx hb dX9_saying_25 (by decide) (fun g_7 => ?_) (fun g_7 => ?_)
    · rw [if_pos g_7] at hf
      refine lv_aload_n hx hb dX9_saying_37 rfl (lv_at hl 0 rfl) ?_
      refine lv_iconst (v := 2) hx hb dX9_saying_38 (by decide) ?_
      obtain ⟨r9, M10, e_8, hf⟩ := cb_e hf
      refine c_Vi hx hb hml hown hts hV hK hM hS (As := [.int 2]) (rest := []) (k_X9_fails G hG l a0 h0 2 M1 e_8) w_X9_fails (tk_1026 hts) (c_10 h0) rfl rfl ⟨⟨rfl, rfl⟩, Nat.le_of_ble_eq_true rfl, Nat.le_of_ble_eq_true rfl⟩ ⟨Nat.zero_le _, Nat.zero_le _⟩ rfl hl.1 rfl (Nat.le_of_ble_eq_true rfl) dX9_saying_39 (fun H locs hM hS => ?_)
      exact ef_im hx hb hr hlocks hM hS hf dX9_saying_42
    · rw [if_neg g_7] at hf
      refine lv_aload_n hx hb dX9_saying_28 rfl (lv_at hl 0 rfl) ?_
      refine lv_iload_n hx hb dX9_saying_29 rfl (lv_at hl 1 rfl) ?_
      refine lv_iload_n hx hb dX9_saying_30 rfl (lv_at hl 2 rfl) ?_
      obtain ⟨r12, e_11, hf⟩ := vb_e hf
      refine c_Vi hx hb hml hown hts hV hK hM hS (As := [.int p1, .int p2]) (rest := []) (k_X9_ofSaying G hG l a0 h0 p1 p2 M1 e_11) w_X9_ofSaying (tk_1205 hts) (c_10 h0) rfl rfl ⟨⟨rfl, rfl⟩, Nat.le_of_ble_eq_true rfl, Nat.le_of_ble_eq_true rfl⟩ ⟨Nat.zero_le _, Nat.zero_le _⟩ rfl hl.1 rfl (Nat.le_of_ble_eq_true rfl) dX9_saying_31 (fun H locs hM hS => ?_)
      refine lv_goto (tgt := 42) hx hb dX9_saying_34 (by decide) ?_
      exact ef_im hx hb hr hlocks hM hS hf dX9_saying_42
  · rw [if_pos g_4] at hf
    refine lv_aload_n hx hb dX9_saying_12 rfl (lv_at hl 0 rfl) ?_
    refine lv_iconst (v := 1) hx hb dX9_saying_13 (by decide) ?_
    obtain ⟨r14, M15, e_13, hf⟩ := cb_e hf
    refine c_Vi hx hb hml hown hts hV hK hM hS (As := [.int 1]) (rest := []) (k_X9_fails G hG l a0 h0 1 M1 e_13) w_X9_fails (tk_1026 hts) (c_10 h0) rfl rfl ⟨⟨rfl, rfl⟩, Nat.le_of_ble_eq_true rfl, Nat.le_of_ble_eq_true rfl⟩ ⟨Nat.zero_le _, Nat.zero_le _⟩ rfl hl.1 rfl (Nat.le_of_ble_eq_true rfl) dX9_saying_14 (fun H locs hM hS => ?_)
    exact ef_im hx hb hr hlocks hM hS hf dX9_saying_17
def f_X9_ofHearing (a0 : Nat) (p1 : Int32) (p2 : Int32) (M : Mem) : Option Int32 := if p2 = 0 then (vb (f_X9_of a0 p1 26 M) fun r3 => some r3) else (if p2 = 1 then (vb (f_X9_of a0 p1 27 M) fun r6 => some r6) else (if p2 = 2 then (vb (f_X9_of a0 p1 27 M) fun r9 => gd (ix r9 25) <| some (mI M (a0 + 5) r9.toNatClampNeg)) else (if p2 = 3 then (vb (f_X9_of a0 p1 28 M) fun r13 => some r13) else (if p2 = 4 then (vb (f_X9_of a0 p1 29 M) fun r16 => some r16) else (if p2 = 5 then (vb (f_X9_of a0 p1 30 M) fun r19 => some r19) else (if p2 = 6 then (vb (f_X9_of a0 p1 31 M) fun r22 => some r22) else (if p2 = 7 then (vb (f_X9_of a0 p1 32 M) fun r25 => some r25) else (if p2 = 8 then (vb (f_X9_of a0 p1 33 M) fun r28 => some r28) else (if p2 = 9 then (vb (f_X9_of a0 p1 34 M) fun r31 => some r31) else (if p2 = 10 then (vb (f_X9_of a0 p1 35 M) fun r34 => some r34) else (vb (f_X9_of a0 p1 36 M) fun r36 => some r36)))))))))))
set_option maxHeartbeats 4000000 in
set_option maxRecDepth 100000 in
theorem k_X9_ofHearing (G : Gt) (hG : gOK G) (l : Launch) (a0 : Nat) (h0 : gK G a0 = 10) (p1 : Int32) (p2 : Int32) (M : Mem) {r : Int32} (hf : f_X9_ofHearing a0 p1 p2 M = some r) : Kc G l yX9_ofHearing cX9_ofHearing 3 (some .int) ({ frames := 1, cells := 0, slots := 0, locals := 22 } : Room) [.ref a0, .int p1, .int p2] M (some (.int r)) M := by
  refine start (by decide) (Nat.le_of_ble_eq_true rfl) ?_
  intro p e s m args below meth c ls hx hb hr hown hml hlocks hts hV hM hl
  have hown : s.vm.findClass "FoldedVoicesModel" = some m.cls := hown
  have hK := hG.1.moved hV
  have hS : va_S (gA G) s.heap s.heap [] := va_S.rf
  have hl : lv_has ls 3 [(0, .ref a0), (1, .int p1), (2, .int p2)] := hl
  have hM0 := hM
  rw [f_X9_ofHearing] at hf
  refine lv_iload_n hx hb dX9_ofHearing_0 rfl (lv_at hl 2 rfl) ?_
  by_cases g_1 : p2 = 0
  · rw [if_pos g_1] at hf
    refine lv_tableIn (off := 59) (tgt := 60) hx hb dX9_ofHearing_1 (by rw [g_1]; decide) (by rw [g_1]; decide) (by rw [g_1]; rfl) (by decide) ?_
    refine lv_aload_n hx hb dX9_ofHearing_60 rfl (lv_at hl 0 rfl) ?_
    refine lv_iload_n hx hb dX9_ofHearing_61 rfl (lv_at hl 1 rfl) ?_
    refine lv_bipush (v := 26) hx hb dX9_ofHearing_62 (by decide) ?_
    obtain ⟨r3, e_2, hf⟩ := vb_e hf
    refine c_Vi hx hb hml hown hts hV hK hM hS (As := [.int p1, .int 26]) (rest := []) (k_X9_of G hG l a0 h0 p1 26 M e_2) w_X9_of (tk_1037 hts) (c_10 h0) rfl rfl ⟨⟨rfl, rfl⟩, Nat.le_of_ble_eq_true rfl, Nat.le_of_ble_eq_true rfl⟩ ⟨Nat.zero_le _, Nat.zero_le _⟩ rfl hl.1 rfl (Nat.le_of_ble_eq_true rfl) dX9_ofHearing_64 (fun H locs hM hS => ?_)
    exact ef_ip hx hb hr hlocks hM hS hf dX9_ofHearing_67
  rw [if_neg g_1] at hf
  by_cases g_4 : p2 = 1
  · rw [if_pos g_4] at hf
    refine lv_tableIn (off := 67) (tgt := 68) hx hb dX9_ofHearing_1 (by rw [g_4]; decide) (by rw [g_4]; decide) (by rw [g_4]; rfl) (by decide) ?_
    refine lv_aload_n hx hb dX9_ofHearing_68 rfl (lv_at hl 0 rfl) ?_
    refine lv_iload_n hx hb dX9_ofHearing_69 rfl (lv_at hl 1 rfl) ?_
    refine lv_bipush (v := 27) hx hb dX9_ofHearing_70 (by decide) ?_
    obtain ⟨r6, e_5, hf⟩ := vb_e hf
    refine c_Vi hx hb hml hown hts hV hK hM hS (As := [.int p1, .int 27]) (rest := []) (k_X9_of G hG l a0 h0 p1 27 M e_5) w_X9_of (tk_1037 hts) (c_10 h0) rfl rfl ⟨⟨rfl, rfl⟩, Nat.le_of_ble_eq_true rfl, Nat.le_of_ble_eq_true rfl⟩ ⟨Nat.zero_le _, Nat.zero_le _⟩ rfl hl.1 rfl (Nat.le_of_ble_eq_true rfl) dX9_ofHearing_72 (fun H locs hM hS => ?_)
    exact ef_ip hx hb hr hlocks hM hS hf dX9_ofHearing_75
  rw [if_neg g_4] at hf
  by_cases g_7 : p2 = 2
  · rw [if_pos g_7] at hf
    refine lv_tableIn (off := 75) (tgt := 76) hx hb dX9_ofHearing_1 (by rw [g_7]; decide) (by rw [g_7]; decide) (by rw [g_7]; rfl) (by decide) ?_
    refine lv_aload_n hx hb dX9_ofHearing_76 rfl (lv_at hl 0 rfl) ?_
    refine s_get hx hb (lay_9 hts) hown hK hM (c_10 h0) rfl 6 (by decide) rfl rfl (tk_969 hts) dX9_ofHearing_77 ?_
    refine lv_aload_n hx hb dX9_ofHearing_80 rfl (lv_at hl 0 rfl) ?_
    refine lv_iload_n hx hb dX9_ofHearing_81 rfl (lv_at hl 1 rfl) ?_
    refine lv_bipush (v := 27) hx hb dX9_ofHearing_82 (by decide) ?_
    obtain ⟨r9, e_8, hf⟩ := vb_e hf
    refine c_Vi hx hb hml hown hts hV hK hM hS (As := [.int p1, .int 27]) (rest := [.ref (a0 + 5)]) (k_X9_of G hG l a0 h0 p1 27 M e_8) w_X9_of (tk_1037 hts) (c_10 h0) rfl rfl ⟨⟨rfl, rfl⟩, Nat.le_of_ble_eq_true rfl, Nat.le_of_ble_eq_true rfl⟩ ⟨Nat.zero_le _, Nat.zero_le _⟩ rfl hl.1 rfl (Nat.le_of_ble_eq_true rfl) dX9_ofHearing_84 (fun H locs hM hS => ?_)
    obtain ⟨h_10, hf⟩ := gd_e hf
    refine s_iald 25 hx hb hK hM (ky_10_6 hG h0) (by decide) h_10 dX9_ofHearing_87 ?_
    exact ef_ip hx hb hr hlocks hM hS hf dX9_ofHearing_88
  rw [if_neg g_7] at hf
  by_cases g_11 : p2 = 3
  · rw [if_pos g_11] at hf
    refine lv_tableIn (off := 88) (tgt := 89) hx hb dX9_ofHearing_1 (by rw [g_11]; decide) (by rw [g_11]; decide) (by rw [g_11]; rfl) (by decide) ?_
    refine lv_aload_n hx hb dX9_ofHearing_89 rfl (lv_at hl 0 rfl) ?_
    refine lv_iload_n hx hb dX9_ofHearing_90 rfl (lv_at hl 1 rfl) ?_
    refine lv_bipush (v := 28) hx hb dX9_ofHearing_91 (by decide) ?_
    obtain ⟨r13, e_12, hf⟩ := vb_e hf
    refine c_Vi hx hb hml hown hts hV hK hM hS (As := [.int p1, .int 28]) (rest := []) (k_X9_of G hG l a0 h0 p1 28 M e_12) w_X9_of (tk_1037 hts) (c_10 h0) rfl rfl ⟨⟨rfl, rfl⟩, Nat.le_of_ble_eq_true rfl, Nat.le_of_ble_eq_true rfl⟩ ⟨Nat.zero_le _, Nat.zero_le _⟩ rfl hl.1 rfl (Nat.le_of_ble_eq_true rfl) dX9_ofHearing_93 (fun H locs hM hS => ?_)
    exact ef_ip hx hb hr hlocks hM hS hf dX9_ofHearing_96
  rw [if_neg g_11] at hf
  by_cases g_14 : p2 = 4
  · rw [if_pos g_14] at hf
    refine lv_tableIn (off := 96) (tgt := 97) hx hb dX9_ofHearing_1 (by rw [g_14]; decide) (by rw [g_14]; decide) (by rw [g_14]; rfl) (by decide) ?_
    refine lv_aload_n hx hb dX9_ofHearing_97 rfl (lv_at hl 0 rfl) ?_
    refine lv_iload_n hx hb dX9_ofHearing_98 rfl (lv_at hl 1 rfl) ?_
    refine lv_bipush (v := 29) hx hb dX9_ofHearing_99 (by decide) ?_
    obtain ⟨r16, e_15, hf⟩ := vb_e hf
    refine c_Vi hx hb hml hown hts hV hK hM hS (As := [.int p1, .int 29]) (rest := []) (k_X9_of G hG l a0 h0 p1 29 M e_15) w_X9_of (tk_1037 hts) (c_10 h0) rfl rfl ⟨⟨rfl, rfl⟩, Nat.le_of_ble_eq_true rfl, Nat.le_of_ble_eq_true rfl⟩ ⟨Nat.zero_le _, Nat.zero_le _⟩ rfl hl.1 rfl (Nat.le_of_ble_eq_true rfl) dX9_ofHearing_101 (fun H locs hM hS => ?_)
    exact ef_ip hx hb hr hlocks hM hS hf dX9_ofHearing_104
  rw [if_neg g_14] at hf
  by_cases g_17 : p2 = 5
  · rw [if_pos g_17] at hf
    refine lv_tableIn (off := 104) (tgt := 105) hx hb dX9_ofHearing_1 (by rw [g_17]; decide) (by rw [g_17]; decide) (by rw [g_17]; rfl) (by decide) ?_
    refine lv_aload_n hx hb dX9_ofHearing_105 rfl (lv_at hl 0 rfl) ?_
    refine lv_iload_n hx hb dX9_ofHearing_106 rfl (lv_at hl 1 rfl) ?_
    refine lv_bipush (v := 30) hx hb dX9_ofHearing_107 (by decide) ?_
    obtain ⟨r19, e_18, hf⟩ := vb_e hf
    refine c_Vi hx hb hml hown hts hV hK hM hS (As := [.int p1, .int 30]) (rest := []) (k_X9_of G hG l a0 h0 p1 30 M e_18) w_X9_of (tk_1037 hts) (c_10 h0) rfl rfl ⟨⟨rfl, rfl⟩, Nat.le_of_ble_eq_true rfl, Nat.le_of_ble_eq_true rfl⟩ ⟨Nat.zero_le _, Nat.zero_le _⟩ rfl hl.1 rfl (Nat.le_of_ble_eq_true rfl) dX9_ofHearing_109 (fun H locs hM hS => ?_)
    exact ef_ip hx hb hr hlocks hM hS hf dX9_ofHearing_112
  rw [if_neg g_17] at hf
  by_cases g_20 : p2 = 6
  · rw [if_pos g_20] at hf
    refine lv_tableIn (off := 112) (tgt := 113) hx hb dX9_ofHearing_1 (by rw [g_20]; decide) (by rw [g_20]; decide) (by rw [g_20]; rfl) (by decide) ?_
    refine lv_aload_n hx hb dX9_ofHearing_113 rfl (lv_at hl 0 rfl) ?_
    refine lv_iload_n hx hb dX9_ofHearing_114 rfl (lv_at hl 1 rfl) ?_
    refine lv_bipush (v := 31) hx hb dX9_ofHearing_115 (by decide) ?_
    obtain ⟨r22, e_21, hf⟩ := vb_e hf
    refine c_Vi hx hb hml hown hts hV hK hM hS (As := [.int p1, .int 31]) (rest := []) (k_X9_of G hG l a0 h0 p1 31 M e_21) w_X9_of (tk_1037 hts) (c_10 h0) rfl rfl ⟨⟨rfl, rfl⟩, Nat.le_of_ble_eq_true rfl, Nat.le_of_ble_eq_true rfl⟩ ⟨Nat.zero_le _, Nat.zero_le _⟩ rfl hl.1 rfl (Nat.le_of_ble_eq_true rfl) dX9_ofHearing_117 (fun H locs hM hS => ?_)
    exact ef_ip hx hb hr hlocks hM hS hf dX9_ofHearing_120
  rw [if_neg g_20] at hf
  by_cases g_23 : p2 = 7
  · rw [if_pos g_23] at hf
    refine lv_tableIn (off := 120) (tgt := 121) hx hb dX9_ofHearing_1 (by rw [g_23]; decide) (by rw [g_23]; decide) (by rw [g_23]; rfl) (by decide) ?_
    refine lv_aload_n hx hb dX9_ofHearing_121 rfl (lv_at hl 0 rfl) ?_
    refine lv_iload_n hx hb dX9_ofHearing_122 rfl (lv_at hl 1 rfl) ?_
    refine lv_bipush (v := 32) hx hb dX9_ofHearing_123 (by decide) ?_
    obtain ⟨r25, e_24, hf⟩ := vb_e hf
    refine c_Vi hx hb hml hown hts hV hK hM hS (As := [.int p1, .int 32]) (rest := []) (k_X9_of G hG l a0 h0 p1 32 M e_24) w_X9_of (tk_1037 hts) (c_10 h0) rfl rfl ⟨⟨rfl, rfl⟩, Nat.le_of_ble_eq_true rfl, Nat.le_of_ble_eq_true rfl⟩ ⟨Nat.zero_le _, Nat.zero_le _⟩ rfl hl.1 rfl (Nat.le_of_ble_eq_true rfl) dX9_ofHearing_125 (fun H locs hM hS => ?_)
    exact ef_ip hx hb hr hlocks hM hS hf dX9_ofHearing_128
  rw [if_neg g_23] at hf
  by_cases g_26 : p2 = 8
  · rw [if_pos g_26] at hf
    refine lv_tableIn (off := 128) (tgt := 129) hx hb dX9_ofHearing_1 (by rw [g_26]; decide) (by rw [g_26]; decide) (by rw [g_26]; rfl) (by decide) ?_
    refine lv_aload_n hx hb dX9_ofHearing_129 rfl (lv_at hl 0 rfl) ?_
    refine lv_iload_n hx hb dX9_ofHearing_130 rfl (lv_at hl 1 rfl) ?_
    refine lv_bipush (v := 33) hx hb dX9_ofHearing_131 (by decide) ?_
    obtain ⟨r28, e_27, hf⟩ := vb_e hf
    refine c_Vi hx hb hml hown hts hV hK hM hS (As := [.int p1, .int 33]) (rest := []) (k_X9_of G hG l a0 h0 p1 33 M e_27) w_X9_of (tk_1037 hts) (c_10 h0) rfl rfl ⟨⟨rfl, rfl⟩, Nat.le_of_ble_eq_true rfl, Nat.le_of_ble_eq_true rfl⟩ ⟨Nat.zero_le _, Nat.zero_le _⟩ rfl hl.1 rfl (Nat.le_of_ble_eq_true rfl) dX9_ofHearing_133 (fun H locs hM hS => ?_)
    exact ef_ip hx hb hr hlocks hM hS hf dX9_ofHearing_136
  rw [if_neg g_26] at hf
  by_cases g_29 : p2 = 9
  · rw [if_pos g_29] at hf
    refine lv_tableIn (off := 136) (tgt := 137) hx hb dX9_ofHearing_1 (by rw [g_29]; decide) (by rw [g_29]; decide) (by rw [g_29]; rfl) (by decide) ?_
    refine lv_aload_n hx hb dX9_ofHearing_137 rfl (lv_at hl 0 rfl) ?_
    refine lv_iload_n hx hb dX9_ofHearing_138 rfl (lv_at hl 1 rfl) ?_
    refine lv_bipush (v := 34) hx hb dX9_ofHearing_139 (by decide) ?_
    obtain ⟨r31, e_30, hf⟩ := vb_e hf
    refine c_Vi hx hb hml hown hts hV hK hM hS (As := [.int p1, .int 34]) (rest := []) (k_X9_of G hG l a0 h0 p1 34 M e_30) w_X9_of (tk_1037 hts) (c_10 h0) rfl rfl ⟨⟨rfl, rfl⟩, Nat.le_of_ble_eq_true rfl, Nat.le_of_ble_eq_true rfl⟩ ⟨Nat.zero_le _, Nat.zero_le _⟩ rfl hl.1 rfl (Nat.le_of_ble_eq_true rfl) dX9_ofHearing_141 (fun H locs hM hS => ?_)
    exact ef_ip hx hb hr hlocks hM hS hf dX9_ofHearing_144
  rw [if_neg g_29] at hf
  by_cases g_32 : p2 = 10
  · rw [if_pos g_32] at hf
    refine lv_tableIn (off := 144) (tgt := 145) hx hb dX9_ofHearing_1 (by rw [g_32]; decide) (by rw [g_32]; decide) (by rw [g_32]; rfl) (by decide) ?_
    refine lv_aload_n hx hb dX9_ofHearing_145 rfl (lv_at hl 0 rfl) ?_
    refine lv_iload_n hx hb dX9_ofHearing_146 rfl (lv_at hl 1 rfl) ?_
    refine lv_bipush (v := 35) hx hb dX9_ofHearing_147 (by decide) ?_
    obtain ⟨r34, e_33, hf⟩ := vb_e hf
    refine c_Vi hx hb hml hown hts hV hK hM hS (As := [.int p1, .int 35]) (rest := []) (k_X9_of G hG l a0 h0 p1 35 M e_33) w_X9_of (tk_1037 hts) (c_10 h0) rfl rfl ⟨⟨rfl, rfl⟩, Nat.le_of_ble_eq_true rfl, Nat.le_of_ble_eq_true rfl⟩ ⟨Nat.zero_le _, Nat.zero_le _⟩ rfl hl.1 rfl (Nat.le_of_ble_eq_true rfl) dX9_ofHearing_149 (fun H locs hM hS => ?_)
    exact ef_ip hx hb hr hlocks hM hS hf dX9_ofHearing_152
  rw [if_neg g_32] at hf
  have tg_1 := lv_neT g_1 (show (0 : Int32).toInt = 0 from by decide)
  have tg_4 := lv_neT g_4 (show (1 : Int32).toInt = 1 from by decide)
  have tg_7 := lv_neT g_7 (show (2 : Int32).toInt = 2 from by decide)
  have tg_11 := lv_neT g_11 (show (3 : Int32).toInt = 3 from by decide)
  have tg_14 := lv_neT g_14 (show (4 : Int32).toInt = 4 from by decide)
  have tg_17 := lv_neT g_17 (show (5 : Int32).toInt = 5 from by decide)
  have tg_20 := lv_neT g_20 (show (6 : Int32).toInt = 6 from by decide)
  have tg_23 := lv_neT g_23 (show (7 : Int32).toInt = 7 from by decide)
  have tg_26 := lv_neT g_26 (show (8 : Int32).toInt = 8 from by decide)
  have tg_29 := lv_neT g_29 (show (9 : Int32).toInt = 9 from by decide)
  have tg_32 := lv_neT g_32 (show (10 : Int32).toInt = 10 from by decide)
  refine lv_tableOut (tgt := 153) hx hb dX9_ofHearing_1 (by omega) (by decide) ?_
  refine lv_aload_n hx hb dX9_ofHearing_153 rfl (lv_at hl 0 rfl) ?_
  refine lv_iload_n hx hb dX9_ofHearing_154 rfl (lv_at hl 1 rfl) ?_
  refine lv_bipush (v := 36) hx hb dX9_ofHearing_155 (by decide) ?_
  obtain ⟨r36, e_35, hf⟩ := vb_e hf
  refine c_Vi hx hb hml hown hts hV hK hM hS (As := [.int p1, .int 36]) (rest := []) (k_X9_of G hG l a0 h0 p1 36 M e_35) w_X9_of (tk_1037 hts) (c_10 h0) rfl rfl ⟨⟨rfl, rfl⟩, Nat.le_of_ble_eq_true rfl, Nat.le_of_ble_eq_true rfl⟩ ⟨Nat.zero_le _, Nat.zero_le _⟩ rfl hl.1 rfl (Nat.le_of_ble_eq_true rfl) dX9_ofHearing_157 (fun H locs hM hS => ?_)
  exact ef_ip hx hb hr hlocks hM hS hf dX9_ofHearing_160
def f_X9_hearing (a0 : Nat) (p1 : Int32) (p2 : Int32) (M : Mem) : Option (Int32 × Mem) := nb (sI M a0 7 0) fun M1 => vb (f_X9_isVoice p1 M1) fun r3 => if r3 = 0 then (cb (f_X9_fails a0 1 M1) fun r14 M15 => some (r14, M15)) else (vb (f_X9_in p2 0 11 M1) fun r6 => if r6 = 0 then (cb (f_X9_fails a0 2 M1) fun r9 M10 => some (r9, M10)) else (vb (f_X9_ofHearing a0 p1 p2 M1) fun r12 => some (r12, M1)))
set_option maxHeartbeats 4000000 in
set_option maxRecDepth 100000 in
theorem k_X9_hearing (G : Gt) (hG : gOK G) (l : Launch) (a0 : Nat) (h0 : gK G a0 = 10) (p1 : Int32) (p2 : Int32) (M : Mem) {r : Int32} {M' : Mem} (hf : f_X9_hearing a0 p1 p2 M = some (r, M')) : Kc G l yX9_hearing cX9_hearing 3 (some .int) ({ frames := 2, cells := 0, slots := 0, locals := 44 } : Room) [.ref a0, .int p1, .int p2] M (some (.int r)) M' := by
  refine start (by decide) (Nat.le_of_ble_eq_true rfl) ?_
  intro p e s m args below meth c ls hx hb hr hown hml hlocks hts hV hM hl
  have hown : s.vm.findClass "FoldedVoicesModel" = some m.cls := hown
  have hK := hG.1.moved hV
  have hS : va_S (gA G) s.heap s.heap [] := va_S.rf
  have hl : lv_has ls 3 [(0, .ref a0), (1, .int p1), (2, .int p2)] := hl
  have hM0 := hM
  rw [f_X9_hearing] at hf
  refine lv_aload_n hx hb dX9_hearing_0 rfl (lv_at hl 0 rfl) ?_
  refine lv_iconst (v := 0) hx hb dX9_hearing_1 (by decide) ?_
  obtain ⟨M1, eM1, hf⟩ := nb_e hf
  refine s_put tyX9 hx hb (lay_9 hts) tyX9_ok nmX9 hown hK hM hS (ky_b hG h0) (c_10 h0) rfl 7 (by decide) rfl rfl rfl (Nat.le_of_ble_eq_true rfl) (cp_9_7 h0) (fun _ h9 => cel_sI _ h9) hM.2.2.sI rfl (tk_970 hts) dX9_hearing_2 (fun H locs hM hS => ?_)
  rw [eM1] at hM
  refine lv_iload_n hx hb dX9_hearing_5 rfl (lv_at hl 1 rfl) ?_
  obtain ⟨r3, e_2, hf⟩ := vb_e hf
  refine c_Si hx hb hml hown hts hV hM hS (As := [.int p1]) (rest := []) (k_X9_isVoice G hG l p1 M1 e_2) w_X9_isVoice (tk_1020 hts) ⟨⟨rfl, rfl⟩, Nat.le_of_ble_eq_true rfl, Nat.le_of_ble_eq_true rfl⟩ ⟨Nat.zero_le _, Nat.zero_le _⟩ rfl hl.1 rfl (Nat.le_of_ble_eq_true rfl) dX9_hearing_6 (fun H locs hM hS => ?_)
  refine lv_if_ne (tgt := 18) hx hb dX9_hearing_9 (by decide) (fun g_4 => ?_) (fun g_4 => ?_)
  · rw [if_neg g_4] at hf
    refine lv_iload_n hx hb dX9_hearing_18 rfl (lv_at hl 2 rfl) ?_
    refine lv_iconst (v := 0) hx hb dX9_hearing_19 (by decide) ?_
    refine lv_bipush (v := 11) hx hb dX9_hearing_20 (by decide) ?_
    obtain ⟨r6, e_5, hf⟩ := vb_e hf
    refine c_Si hx hb hml hown hts hV hM hS (As := [.int p2, .int 0, .int 11]) (rest := []) (k_X9_in G hG l p2 0 11 M1 e_5) w_X9_in (tk_1023 hts) ⟨⟨rfl, rfl⟩, Nat.le_of_ble_eq_true rfl, Nat.le_of_ble_eq_true rfl⟩ ⟨Nat.zero_le _, Nat.zero_le _⟩ rfl hl.1 rfl (Nat.le_of_ble_eq_true rfl) dX9_hearing_22 (fun H locs hM hS => ?_)
    refine lv_if_eq (tgt := 37) hx hb dX9_hearing_25 (by decide) (fun g_7 => ?_) (fun g_7 => ?_)
    · rw [if_pos g_7] at hf
      refine lv_aload_n hx hb dX9_hearing_37 rfl (lv_at hl 0 rfl) ?_
      refine lv_iconst (v := 2) hx hb dX9_hearing_38 (by decide) ?_
      obtain ⟨r9, M10, e_8, hf⟩ := cb_e hf
      refine c_Vi hx hb hml hown hts hV hK hM hS (As := [.int 2]) (rest := []) (k_X9_fails G hG l a0 h0 2 M1 e_8) w_X9_fails (tk_1026 hts) (c_10 h0) rfl rfl ⟨⟨rfl, rfl⟩, Nat.le_of_ble_eq_true rfl, Nat.le_of_ble_eq_true rfl⟩ ⟨Nat.zero_le _, Nat.zero_le _⟩ rfl hl.1 rfl (Nat.le_of_ble_eq_true rfl) dX9_hearing_39 (fun H locs hM hS => ?_)
      exact ef_im hx hb hr hlocks hM hS hf dX9_hearing_42
    · rw [if_neg g_7] at hf
      refine lv_aload_n hx hb dX9_hearing_28 rfl (lv_at hl 0 rfl) ?_
      refine lv_iload_n hx hb dX9_hearing_29 rfl (lv_at hl 1 rfl) ?_
      refine lv_iload_n hx hb dX9_hearing_30 rfl (lv_at hl 2 rfl) ?_
      obtain ⟨r12, e_11, hf⟩ := vb_e hf
      refine c_Vi hx hb hml hown hts hV hK hM hS (As := [.int p1, .int p2]) (rest := []) (k_X9_ofHearing G hG l a0 h0 p1 p2 M1 e_11) w_X9_ofHearing (tk_1213 hts) (c_10 h0) rfl rfl ⟨⟨rfl, rfl⟩, Nat.le_of_ble_eq_true rfl, Nat.le_of_ble_eq_true rfl⟩ ⟨Nat.zero_le _, Nat.zero_le _⟩ rfl hl.1 rfl (Nat.le_of_ble_eq_true rfl) dX9_hearing_31 (fun H locs hM hS => ?_)
      refine lv_goto (tgt := 42) hx hb dX9_hearing_34 (by decide) ?_
      exact ef_im hx hb hr hlocks hM hS hf dX9_hearing_42
  · rw [if_pos g_4] at hf
    refine lv_aload_n hx hb dX9_hearing_12 rfl (lv_at hl 0 rfl) ?_
    refine lv_iconst (v := 1) hx hb dX9_hearing_13 (by decide) ?_
    obtain ⟨r14, M15, e_13, hf⟩ := cb_e hf
    refine c_Vi hx hb hml hown hts hV hK hM hS (As := [.int 1]) (rest := []) (k_X9_fails G hG l a0 h0 1 M1 e_13) w_X9_fails (tk_1026 hts) (c_10 h0) rfl rfl ⟨⟨rfl, rfl⟩, Nat.le_of_ble_eq_true rfl, Nat.le_of_ble_eq_true rfl⟩ ⟨Nat.zero_le _, Nat.zero_le _⟩ rfl hl.1 rfl (Nat.le_of_ble_eq_true rfl) dX9_hearing_14 (fun H locs hM hS => ?_)
    exact ef_im hx hb hr hlocks hM hS hf dX9_hearing_17
