def f_X8_sumOver_b4 (a0 : Nat) (p1 : Int32) : Nat → Int32 → Int32 → Mem → Option Int32
  | 0, _, _, _ => none
  | n + 1, x2, x3, M => if (3 : Int32) ≤ x3 then (some x2) else (gd (ix x3 3) <| nb ((a0 + 1) + 1 + 3 + 44 * x3.toNatClampNeg) fun z4 => vb (f_X7_countedAs z4 p1 M) fun r6 => nb (x2 + r6) fun y7 => nb (x3 + 1) fun y8 => f_X8_sumOver_b4 a0 p1 n y7 y8 M)
def f_X8_sumOver (a0 : Nat) (p1 : Int32) (M : Mem) : Option Int32 := f_X8_sumOver_b4 a0 p1 lfuel 0 0 M
set_option maxHeartbeats 4000000 in
set_option maxRecDepth 100000 in
theorem k_X8_sumOver (G : Gt) (hG : gOK G) (l : Launch) (a0 : Nat) (h0 : gK G a0 = 9) (p1 : Int32) (M : Mem) {r : Int32} (hf : f_X8_sumOver a0 p1 M = some r) : Kc G l yX8_sumOver cX8_sumOver 4 (some .int) ({ frames := 1, cells := 0, slots := 0, locals := 21 } : Room) [.ref a0, .int p1] M (some (.int r)) M := by
  refine start (by decide) (Nat.le_of_ble_eq_true rfl) ?_
  intro p e s m args below meth c ls hx hb hr hown hml hlocks hts hV hM hl
  have hown : s.vm.findClass "FoldedVoices" = some m.cls := hown
  have hK := hG.1.moved hV
  have hS : va_S (gA G) s.heap s.heap [] := va_S.rf
  have hl : lv_has ls 4 [(0, .ref a0), (1, .int p1)] := hl
  have hM0 := hM
  have b4 : ∀ (n : Nat), ∀ (x2 : Int32) (x3 : Int32) (M : Mem) (H : Heap) (locs : List Loc) (ls : Array Slot), Mh G M H → va_S (gA G) s.heap H locs → lv_has ls 4 [(0, .ref a0), (1, .int p1), (2, .int x2), (3, .int x3)] → f_X8_sumOver_b4 a0 p1 n x2 x3 M = some r → W p l e ({ frames := 1, cells := 0, slots := 0, locals := 21 } : Room) s m args below meth c H locs 0 0 (MQ below (QV G (some (.int r)) M) args s 0 0 (gA G)) (F0 m 4 ls []) := by
    intro n
    induction n with
    | zero =>
      intro x2 x3 M H locs ls hM hS hl hf
      rw [f_X8_sumOver_b4] at hf
      cases hf
    | succ n ih =>
      intro x2 x3 M H locs ls hM hS hl hf
      rw [f_X8_sumOver_b4] at hf
      refine lv_iload_n hx hb dX8_sumOver_4 rfl (lv_at hl 3 rfl) ?_
      refine lv_aload_n hx hb dX8_sumOver_5 rfl (lv_at hl 0 rfl) ?_
      refine s_get hx hb (lay_8 hts) hown hK hM (c_9 h0) rfl 0 (by decide) rfl rfl (tk_267 hts) dX8_sumOver_6 ?_
      refine s_getN hx hb (lay_5 hts) hown hK hM (c_6 (ky_9_0 hG h0)) rfl 0 (by decide) rfl rfl (tk_231 hts) dX8_sumOver_9 ?_
      refine s_alen 3 hx hb hK hM (cel_va (ky_6_0 hG (ky_9_0 hG h0))) rfl (v := 3) (show Int32.ofNat 3 = 3 from by decide) dX8_sumOver_12 ?_
      refine lv_icmp_ge (tgt := 38) hx hb dX8_sumOver_13 (by decide) (fun g_1 => ?_) (fun g_1 => ?_)
      · rw [if_pos g_1] at hf
        refine lv_iload_n hx hb dX8_sumOver_38 rfl (lv_at hl 2 rfl) ?_
        exact ef_ip hx hb hr hlocks hM hS hf dX8_sumOver_39
      · rw [if_neg g_1] at hf
        refine lv_iload_n hx hb dX8_sumOver_16 rfl (lv_at hl 2 rfl) ?_
        refine lv_aload_n hx hb dX8_sumOver_17 rfl (lv_at hl 0 rfl) ?_
        refine s_get hx hb (lay_8 hts) hown hK hM (c_9 h0) rfl 0 (by decide) rfl rfl (tk_267 hts) dX8_sumOver_18 ?_
        refine s_getN hx hb (lay_5 hts) hown hK hM (c_6 (ky_9_0 hG h0)) rfl 0 (by decide) rfl rfl (tk_231 hts) dX8_sumOver_21 ?_
        refine lv_iload_n hx hb dX8_sumOver_24 rfl (lv_at hl 3 rfl) ?_
        obtain ⟨h_2, hf⟩ := gd_e hf
        refine s_vaald hx hb hK hM (ky_vs hG (ky_6_0 hG (ky_9_0 hG h0))) (ky_6_0 hG (ky_9_0 hG h0)) h_2 dX8_sumOver_25 (fun h_3 => ?_)
        obtain ⟨z4, ez4, hf⟩ := nb_e hf
        refine s_nmr ez4 ?_
        have h_z4 : gK G z4 = 8 := ez4 ▸ h_3
        refine lv_iload_n hx hb dX8_sumOver_26 rfl (lv_at hl 1 rfl) ?_
        obtain ⟨r6, e_5, hf⟩ := vb_e hf
        refine c_Vi hx hb hml hown hts hV hK hM hS (As := [.int p1]) (rest := [.int x2]) (k_X7_countedAs G hG l z4 h_z4 p1 M e_5) w_X7_countedAs (tk_582 hts) (c_8 h_z4) rfl rfl ⟨⟨rfl, rfl⟩, Nat.le_of_ble_eq_true rfl, Nat.le_of_ble_eq_true rfl⟩ ⟨Nat.zero_le _, Nat.zero_le _⟩ rfl hl.1 rfl (Nat.le_of_ble_eq_true rfl) dX8_sumOver_27 (fun H locs hM hS => ?_)
        refine lv_iadd hx hb dX8_sumOver_30 ?_
        obtain ⟨y7, ey7, hf⟩ := nb_e hf
        refine s_nm ey7 ?_
        refine lv_istore_n (lv' := [(2, .int y7), (0, .ref a0), (1, .int p1), (3, .int x3)]) hx hb dX8_sumOver_31 rfl hl (by decide) rfl (fun ls hl => ?_)
        obtain ⟨y8, ey8, hf⟩ := nb_e hf
        refine lv_iinc (v := y8) (lv' := [(3, .int y8), (2, .int y7), (0, .ref a0), (1, .int p1)]) hx hb dX8_sumOver_32 hl (k := 3) rfl (by rw [← ey8]; rfl) (by decide) rfl (fun ls hl => ?_)
        refine lv_goto (tgt := 4) hx hb dX8_sumOver_35 (by decide) ?_
        exact ih y7 y8 _ H locs ls hM hS (lv_sub hl [2, 3, 1, 0] rfl) hf
  rw [f_X8_sumOver] at hf
  obtain ⟨H, hHe⟩ : ∃ H, H = s.heap := ⟨_, rfl⟩
  obtain ⟨locs, hLe⟩ : ∃ L : List Loc, L = [] := ⟨_, rfl⟩
  rw [← hHe] at hM
  have hS : va_S (gA G) s.heap H locs := by rw [hHe, hLe]; exact va_S.rf
  suffices hW : W p l e ({ frames := 1, cells := 0, slots := 0, locals := 21 } : Room) s m args below meth c H locs 0 0 (MQ below (QV G (some (.int r)) M) args s 0 0 (gA G)) (F0 m 0 ls []) by rw [hHe, hLe] at hW; exact hW
  refine lv_iconst (v := 0) hx hb dX8_sumOver_0 (by decide) ?_
  refine lv_istore_n (lv' := [(2, .int 0), (0, .ref a0), (1, .int p1)]) hx hb dX8_sumOver_1 rfl hl (by decide) rfl (fun ls hl => ?_)
  refine lv_iconst (v := 0) hx hb dX8_sumOver_2 (by decide) ?_
  refine lv_istore_n (lv' := [(3, .int 0), (2, .int 0), (0, .ref a0), (1, .int p1)]) hx hb dX8_sumOver_3 rfl hl (by decide) rfl (fun ls hl => ?_)
  exact b4 _ 0 0 _ H locs ls hM hS (lv_sub hl [2, 3, 1, 0] rfl) hf
def f_X8_tellCount_b58 (a0 : Nat) (p1 : Int32) (k27 : Int32 → Int32 → Mem → Option (Int32 × Mem)) (x2 : Int32) (x3 : Int32) (M : Mem) : Option (Int32 × Mem) := nb (x3 + 1) fun y1 => k27 x2 y1 M
def f_X8_tellCount_b27 (a0 : Nat) (p1 : Int32) : Nat → Int32 → Int32 → Mem → Option (Int32 × Mem)
  | 0, _, _, _ => none
  | n + 1, x2, x3, M => if (3 : Int32) ≤ x3 then (some (x2, M)) else (gd (ix x3 3) <| nb ((a0 + 1) + 1 + 3 + 44 * x3.toNatClampNeg) fun z5 => cb (f_X8_tellWhy a0 z5 M) fun r7 M8 => if r7 = 0 then (nb (x2 + 1) fun y10 => f_X8_tellCount_b58 a0 p1 (f_X8_tellCount_b27 a0 p1 n) y10 x3 M8) else (f_X8_tellCount_b58 a0 p1 (f_X8_tellCount_b27 a0 p1 n) x2 x3 M8))
def f_X8_tellCount (a0 : Nat) (p1 : Int32) (M : Mem) : Option (Int32 × Mem) := if p1 = (7 : Int32) then (some (mI M a0 4, M)) else (if (6 : Int32) ≤ p1 then (f_X8_tellCount_b27 a0 p1 lfuel 0 0 M) else (vb (f_X8_sumOver a0 p1 M) fun r14 => some (r14, M)))
set_option maxHeartbeats 4000000 in
set_option maxRecDepth 100000 in
theorem k_X8_tellCount (G : Gt) (hG : gOK G) (l : Launch) (a0 : Nat) (h0 : gK G a0 = 9) (p1 : Int32) (M : Mem) {r : Int32} {M' : Mem} (hf : f_X8_tellCount a0 p1 M = some (r, M')) : Kc G l yX8_tellCount cX8_tellCount 4 (some .int) ({ frames := 6, cells := 0, slots := 0, locals := 135 } : Room) [.ref a0, .int p1] M (some (.int r)) M' := by
  refine start (by decide) (Nat.le_of_ble_eq_true rfl) ?_
  intro p e s m args below meth c ls hx hb hr hown hml hlocks hts hV hM hl
  have hown : s.vm.findClass "FoldedVoices" = some m.cls := hown
  have hK := hG.1.moved hV
  have hS : va_S (gA G) s.heap s.heap [] := va_S.rf
  have hl : lv_has ls 4 [(0, .ref a0), (1, .int p1)] := hl
  have hM0 := hM
  have b58 : ∀ (k27 : Int32 → Int32 → Mem → Option (Int32 × Mem)), (∀ (x2 : Int32) (x3 : Int32) (M : Mem) (H : Heap) (locs : List Loc) (ls : Array Slot), Mh G M H → va_S (gA G) s.heap H locs → lv_has ls 4 [(0, .ref a0), (1, .int p1), (2, .int x2), (3, .int x3)] → k27 x2 x3 M = some (r, M') → W p l e ({ frames := 6, cells := 0, slots := 0, locals := 135 } : Room) s m args below meth c H locs 0 0 (MQ below (QV G (some (.int r)) M') args s 0 0 (gA G)) (F0 m 27 ls [])) → ∀ (x2 : Int32) (x3 : Int32) (M : Mem) (H : Heap) (locs : List Loc) (ls : Array Slot), Mh G M H → va_S (gA G) s.heap H locs → lv_has ls 4 [(0, .ref a0), (1, .int p1), (2, .int x2), (3, .int x3)] → f_X8_tellCount_b58 a0 p1 k27 x2 x3 M = some (r, M') → W p l e ({ frames := 6, cells := 0, slots := 0, locals := 135 } : Room) s m args below meth c H locs 0 0 (MQ below (QV G (some (.int r)) M') args s 0 0 (gA G)) (F0 m 58 ls []) := by
    intro k27 hk27
    intro x2 x3 M H locs ls hM hS hl hf
    rw [f_X8_tellCount_b58] at hf
    obtain ⟨y1, ey1, hf⟩ := nb_e hf
    refine lv_iinc (v := y1) (lv' := [(3, .int y1), (0, .ref a0), (1, .int p1), (2, .int x2)]) hx hb dX8_tellCount_58 hl (k := 3) rfl (by rw [← ey1]; rfl) (by decide) rfl (fun ls hl => ?_)
    refine lv_goto (tgt := 27) hx hb dX8_tellCount_61 (by decide) ?_
    exact hk27 x2 y1 _ H locs ls hM hS (lv_sub hl [1, 2, 3, 0] rfl) hf
  have b27 : ∀ (n : Nat), ∀ (x2 : Int32) (x3 : Int32) (M : Mem) (H : Heap) (locs : List Loc) (ls : Array Slot), Mh G M H → va_S (gA G) s.heap H locs → lv_has ls 4 [(0, .ref a0), (1, .int p1), (2, .int x2), (3, .int x3)] → f_X8_tellCount_b27 a0 p1 n x2 x3 M = some (r, M') → W p l e ({ frames := 6, cells := 0, slots := 0, locals := 135 } : Room) s m args below meth c H locs 0 0 (MQ below (QV G (some (.int r)) M') args s 0 0 (gA G)) (F0 m 27 ls []) := by
    intro n
    induction n with
    | zero =>
      intro x2 x3 M H locs ls hM hS hl hf
      rw [f_X8_tellCount_b27] at hf
      cases hf
    | succ n ih =>
      intro x2 x3 M H locs ls hM hS hl hf
      rw [f_X8_tellCount_b27] at hf
      refine lv_iload_n hx hb dX8_tellCount_27 rfl (lv_at hl 3 rfl) ?_
      refine lv_aload_n hx hb dX8_tellCount_28 rfl (lv_at hl 0 rfl) ?_
      refine s_get hx hb (lay_8 hts) hown hK hM (c_9 h0) rfl 0 (by decide) rfl rfl (tk_267 hts) dX8_tellCount_29 ?_
      refine s_getN hx hb (lay_5 hts) hown hK hM (c_6 (ky_9_0 hG h0)) rfl 0 (by decide) rfl rfl (tk_231 hts) dX8_tellCount_32 ?_
      refine s_alen 3 hx hb hK hM (cel_va (ky_6_0 hG (ky_9_0 hG h0))) rfl (v := 3) (show Int32.ofNat 3 = 3 from by decide) dX8_tellCount_35 ?_
      refine lv_icmp_ge (tgt := 64) hx hb dX8_tellCount_36 (by decide) (fun g_2 => ?_) (fun g_2 => ?_)
      · rw [if_pos g_2] at hf
        refine lv_iload_n hx hb dX8_tellCount_64 rfl (lv_at hl 2 rfl) ?_
        exact ef_im hx hb hr hlocks hM hS hf dX8_tellCount_65
      · rw [if_neg g_2] at hf
        refine lv_aload_n hx hb dX8_tellCount_39 rfl (lv_at hl 0 rfl) ?_
        refine lv_aload_n hx hb dX8_tellCount_40 rfl (lv_at hl 0 rfl) ?_
        refine s_get hx hb (lay_8 hts) hown hK hM (c_9 h0) rfl 0 (by decide) rfl rfl (tk_267 hts) dX8_tellCount_41 ?_
        refine s_getN hx hb (lay_5 hts) hown hK hM (c_6 (ky_9_0 hG h0)) rfl 0 (by decide) rfl rfl (tk_231 hts) dX8_tellCount_44 ?_
        refine lv_iload_n hx hb dX8_tellCount_47 rfl (lv_at hl 3 rfl) ?_
        obtain ⟨h_3, hf⟩ := gd_e hf
        refine s_vaald hx hb hK hM (ky_vs hG (ky_6_0 hG (ky_9_0 hG h0))) (ky_6_0 hG (ky_9_0 hG h0)) h_3 dX8_tellCount_48 (fun h_4 => ?_)
        obtain ⟨z5, ez5, hf⟩ := nb_e hf
        refine s_nmr ez5 ?_
        have h_z5 : gK G z5 = 8 := ez5 ▸ h_4
        obtain ⟨r7, M8, e_6, hf⟩ := cb_e hf
        refine c_Vi hx hb hml hown hts hV hK hM hS (As := [.ref z5]) (rest := []) (k_X8_tellWhy G hG l a0 h0 z5 h_z5 M e_6) w_X8_tellWhy (tk_556 hts) (c_9 h0) rfl rfl ⟨⟨rfl, rfl⟩, Nat.le_of_ble_eq_true rfl, Nat.le_of_ble_eq_true rfl⟩ ⟨Nat.zero_le _, Nat.zero_le _⟩ rfl hl.1 rfl (Nat.le_of_ble_eq_true rfl) dX8_tellCount_49 (fun H locs hM hS => ?_)
        refine lv_if_ne (tgt := 58) hx hb dX8_tellCount_52 (by decide) (fun g_9 => ?_) (fun g_9 => ?_)
        · rw [if_neg g_9] at hf
          exact b58 _ ih x2 x3 _ H locs ls hM hS (lv_sub hl [0, 1, 2, 3] rfl) hf
        · rw [if_pos g_9] at hf
          obtain ⟨y10, ey10, hf⟩ := nb_e hf
          refine lv_iinc (v := y10) (lv' := [(2, .int y10), (0, .ref a0), (1, .int p1), (3, .int x3)]) hx hb dX8_tellCount_55 hl (k := 2) rfl (by rw [← ey10]; rfl) (by decide) rfl (fun ls hl => ?_)
          exact b58 _ ih y10 x3 _ H locs ls hM hS (lv_sub hl [1, 2, 0, 3] rfl) hf
  rw [f_X8_tellCount] at hf
  obtain ⟨H, hHe⟩ : ∃ H, H = s.heap := ⟨_, rfl⟩
  obtain ⟨locs, hLe⟩ : ∃ L : List Loc, L = [] := ⟨_, rfl⟩
  rw [← hHe] at hM
  have hS : va_S (gA G) s.heap H locs := by rw [hHe, hLe]; exact va_S.rf
  suffices hW : W p l e ({ frames := 6, cells := 0, slots := 0, locals := 135 } : Room) s m args below meth c H locs 0 0 (MQ below (QV G (some (.int r)) M') args s 0 0 (gA G)) (F0 m 0 ls []) by rw [hHe, hLe] at hW; exact hW
  refine lv_iload_n hx hb dX8_tellCount_0 rfl (lv_at hl 1 rfl) ?_
  refine lv_bipush (v := 7) hx hb dX8_tellCount_1 (by decide) ?_
  refine lv_icmp_ne (tgt := 11) hx hb dX8_tellCount_3 (by decide) (fun g_11 => ?_) (fun g_11 => ?_)
  · rw [if_neg g_11] at hf
    refine lv_iload_n hx hb dX8_tellCount_11 rfl (lv_at hl 1 rfl) ?_
    refine lv_bipush (v := 6) hx hb dX8_tellCount_12 (by decide) ?_
    refine lv_icmp_ge (tgt := 23) hx hb dX8_tellCount_14 (by decide) (fun g_12 => ?_) (fun g_12 => ?_)
    · rw [if_pos g_12] at hf
      refine lv_iconst (v := 0) hx hb dX8_tellCount_23 (by decide) ?_
      refine lv_istore_n (lv' := [(2, .int 0), (0, .ref a0), (1, .int p1)]) hx hb dX8_tellCount_24 rfl hl (by decide) rfl (fun ls hl => ?_)
      refine lv_iconst (v := 0) hx hb dX8_tellCount_25 (by decide) ?_
      refine lv_istore_n (lv' := [(3, .int 0), (2, .int 0), (0, .ref a0), (1, .int p1)]) hx hb dX8_tellCount_26 rfl hl (by decide) rfl (fun ls hl => ?_)
      exact b27 _ 0 0 _ H locs ls hM hS (lv_sub hl [2, 3, 1, 0] rfl) hf
    · rw [if_neg g_12] at hf
      refine lv_aload_n hx hb dX8_tellCount_17 rfl (lv_at hl 0 rfl) ?_
      refine lv_iload_n hx hb dX8_tellCount_18 rfl (lv_at hl 1 rfl) ?_
      obtain ⟨r14, e_13, hf⟩ := vb_e hf
      refine c_Vi hx hb hml hown hts hV hK hM hS (As := [.int p1]) (rest := []) (k_X8_sumOver G hG l a0 h0 p1 M e_13) w_X8_sumOver (tk_578 hts) (c_9 h0) rfl rfl ⟨⟨rfl, rfl⟩, Nat.le_of_ble_eq_true rfl, Nat.le_of_ble_eq_true rfl⟩ ⟨Nat.zero_le _, Nat.zero_le _⟩ rfl hl.1 rfl (Nat.le_of_ble_eq_true rfl) dX8_tellCount_19 (fun H locs hM hS => ?_)
      exact ef_im hx hb hr hlocks hM hS hf dX8_tellCount_22
  · rw [if_pos g_11] at hf
    refine lv_aload_n hx hb dX8_tellCount_6 rfl (lv_at hl 0 rfl) ?_
    refine s_get hx hb (lay_8 hts) hown hK hM (c_9 h0) rfl 4 (by decide) rfl rfl (tk_270 hts) dX8_tellCount_7 ?_
    exact ef_im hx hb hr hlocks hM hS hf dX8_tellCount_10
def f_X8_count (a0 : Nat) (p1 : Int32) (M : Mem) : Option (Nat × Int32 × Mem) := xb 0 (f_X8_requireWhat p1 7 M) fun r2 M3 => cb (f_X8_tellCount a0 p1 M3) fun r5 M6 => some (0, r5, M6)
set_option maxHeartbeats 4000000 in
set_option maxRecDepth 100000 in
theorem k_X8_count (G : Gt) (hG : gOK G) (l : Launch) (a0 : Nat) (h0 : gK G a0 = 9) (p1 : Int32) (M : Mem) {r : Int32} {M' : Mem} (hf : f_X8_count a0 p1 M = some (0, r, M')) : Kc G l yX8_count cX8_count 2 (some .int) ({ frames := 7, cells := 0, slots := 0, locals := 158 } : Room) [.ref a0, .int p1] M (some (.int r)) M' := by
  refine start (by decide) (Nat.le_of_ble_eq_true rfl) ?_
  intro p e s m args below meth c ls hx hb hr hown hml hlocks hts hV hM hl
  have hown : s.vm.findClass "FoldedVoices" = some m.cls := hown
  have hK := hG.1.moved hV
  have hS : va_S (gA G) s.heap s.heap [] := va_S.rf
  have hl : lv_has ls 2 [(0, .ref a0), (1, .int p1)] := hl
  have hM0 := hM
  rw [f_X8_count] at hf
  refine lv_iload_n hx hb dX8_count_0 rfl (lv_at hl 1 rfl) ?_
  refine lv_bipush (v := 7) hx hb dX8_count_1 (by decide) ?_
  obtain ⟨r2, M3, e_1, hf⟩ := xb_r hf
  refine c_Sv hx hb hml hown hts hV hM hS (As := [.int p1, .int 7]) (rest := []) (k_X8_requireWhat G hG l p1 7 M e_1) w_X8_requireWhat (tk_378 hts) ⟨⟨rfl, rfl⟩, Nat.le_of_ble_eq_true rfl, Nat.le_of_ble_eq_true rfl⟩ ⟨Nat.zero_le _, Nat.zero_le _⟩ rfl hl.1 rfl (Nat.le_of_ble_eq_true rfl) dX8_count_3 (fun H locs hM hS => ?_)
  refine lv_aload_n hx hb dX8_count_6 rfl (lv_at hl 0 rfl) ?_
  refine lv_iload_n hx hb dX8_count_7 rfl (lv_at hl 1 rfl) ?_
  obtain ⟨r5, M6, e_4, hf⟩ := cb_e hf
  refine c_Vi hx hb hml hown hts hV hK hM hS (As := [.int p1]) (rest := []) (k_X8_tellCount G hG l a0 h0 p1 M3 e_4) w_X8_tellCount (tk_574 hts) (c_9 h0) rfl rfl ⟨⟨rfl, rfl⟩, Nat.le_of_ble_eq_true rfl, Nat.le_of_ble_eq_true rfl⟩ ⟨Nat.zero_le _, Nat.zero_le _⟩ rfl hl.1 rfl (Nat.le_of_ble_eq_true rfl) dX8_count_8 (fun H locs hM hS => ?_)
  exact ef_ix hx hb hr hlocks hM hS hf dX8_count_11
def f_X8_setting (a0 : Nat) (p1 : Int32) (M : Mem) : Option (Nat × Int32 × Mem) := xb 0 (f_X8_requireSetting p1 M) fun r2 M3 => vb (f_X4_valueOf ((a0 + 1) + 2) p1 M3) fun r5 => some (0, r5, M3)
set_option maxHeartbeats 4000000 in
set_option maxRecDepth 100000 in
theorem k_X8_setting (G : Gt) (hG : gOK G) (l : Launch) (a0 : Nat) (h0 : gK G a0 = 9) (p1 : Int32) (M : Mem) {r : Int32} {M' : Mem} (hf : f_X8_setting a0 p1 M = some (0, r, M')) : Kc G l yX8_setting cX8_setting 2 (some .int) ({ frames := 7, cells := 0, slots := 0, locals := 102 } : Room) [.ref a0, .int p1] M (some (.int r)) M' := by
  refine start (by decide) (Nat.le_of_ble_eq_true rfl) ?_
  intro p e s m args below meth c ls hx hb hr hown hml hlocks hts hV hM hl
  have hown : s.vm.findClass "FoldedVoices" = some m.cls := hown
  have hK := hG.1.moved hV
  have hS : va_S (gA G) s.heap s.heap [] := va_S.rf
  have hl : lv_has ls 2 [(0, .ref a0), (1, .int p1)] := hl
  have hM0 := hM
  rw [f_X8_setting] at hf
  refine lv_iload_n hx hb dX8_setting_0 rfl (lv_at hl 1 rfl) ?_
  obtain ⟨r2, M3, e_1, hf⟩ := xb_r hf
  refine c_Sv hx hb hml hown hts hV hM hS (As := [.int p1]) (rest := []) (k_X8_requireSetting G hG l p1 M e_1) w_X8_requireSetting (tk_590 hts) ⟨⟨rfl, rfl⟩, Nat.le_of_ble_eq_true rfl, Nat.le_of_ble_eq_true rfl⟩ ⟨Nat.zero_le _, Nat.zero_le _⟩ rfl hl.1 rfl (Nat.le_of_ble_eq_true rfl) dX8_setting_1 (fun H locs hM hS => ?_)
  refine lv_aload_n hx hb dX8_setting_4 rfl (lv_at hl 0 rfl) ?_
  refine s_get hx hb (lay_8 hts) hown hK hM (c_9 h0) rfl 0 (by decide) rfl rfl (tk_267 hts) dX8_setting_5 ?_
  refine s_getN hx hb (lay_5 hts) hown hK hM (c_6 (ky_9_0 hG h0)) rfl 1 (by decide) rfl rfl (tk_233 hts) dX8_setting_8 ?_
  refine lv_iload_n hx hb dX8_setting_11 rfl (lv_at hl 1 rfl) ?_
  obtain ⟨r5, e_4, hf⟩ := vb_e hf
  refine c_Vi hx hb hml hown hts hV hK hM hS (As := [.int p1]) (rest := []) (k_X4_valueOf G hG l ((a0 + 1) + 2) (ky_6_1 hG (ky_9_0 hG h0)) p1 M3 e_4) w_X4_valueOf (tk_594 hts) (c_5 (ky_6_1 hG (ky_9_0 hG h0))) rfl rfl ⟨⟨rfl, rfl⟩, Nat.le_of_ble_eq_true rfl, Nat.le_of_ble_eq_true rfl⟩ ⟨Nat.zero_le _, Nat.zero_le _⟩ rfl hl.1 rfl (Nat.le_of_ble_eq_true rfl) dX8_setting_12 (fun H locs hM hS => ?_)
  exact ef_ix hx hb hr hlocks hM hS hf dX8_setting_15
def f_X8_tellCode_b38 (a0 : Nat) (a1 : Nat) (p2 : Int32) (p3 : Int32) (xs0 : Int32) (M : Mem) : Option (Int32 × Mem) := if p3 = 0 then (some (xs0, M)) else (if p3 = (3 : Int32) then (some (xs0, M)) else (vb (f_X0_follow (a0 + 276) xs0 M) fun M4 => if p3 = (2 : Int32) then (some (mI M4 (a0 + 276) 1, M4)) else (some (mI M4 (a0 + 276) 0, M4))))
def f_X8_tellCode (a0 : Nat) (a1 : Nat) (p2 : Int32) (p3 : Int32) (M : Mem) : Option (Int32 × Mem) := vb (f_X0_copyFrom (a0 + 276) ((a1 + 1) + 1) M) fun M7 => if (3 : Int32) ≤ p3 then (vb (f_X0_nearestCodeFor (a0 + 276) p2 M7) fun r10 => f_X8_tellCode_b38 a0 a1 p2 p3 r10 M7) else (vb (f_X0_codeFor (a0 + 276) p2 M7) fun r12 => f_X8_tellCode_b38 a0 a1 p2 p3 r12 M7)
set_option maxHeartbeats 4000000 in
set_option maxRecDepth 100000 in
theorem k_X8_tellCode (G : Gt) (hG : gOK G) (l : Launch) (a0 : Nat) (h0 : gK G a0 = 9) (a1 : Nat) (h1 : gK G a1 = 8) (p2 : Int32) (p3 : Int32) (M : Mem) {r : Int32} {M' : Mem} (hf : f_X8_tellCode a0 a1 p2 p3 M = some (r, M')) : Kc G l yX8_tellCode cX8_tellCode 5 (some .int) ({ frames := 3, cells := 0, slots := 0, locals := 70 } : Room) [.ref a0, .ref a1, .int p2, .int p3] M (some (.int r)) M' := by
  refine start (by decide) (Nat.le_of_ble_eq_true rfl) ?_
  intro p e s m args below meth c ls hx hb hr hown hml hlocks hts hV hM hl
  have hown : s.vm.findClass "FoldedVoices" = some m.cls := hown
  have hK := hG.1.moved hV
  have hS : va_S (gA G) s.heap s.heap [] := va_S.rf
  have hl : lv_has ls 5 [(0, .ref a0), (1, .ref a1), (2, .int p2), (3, .int p3)] := hl
  have hM0 := hM
  have b38 : ∀ (xs0 : Int32) (M : Mem) (H : Heap) (locs : List Loc) (ls : Array Slot), Mh G M H → va_S (gA G) s.heap H locs → lv_has ls 5 [(0, .ref a0), (1, .ref a1), (2, .int p2), (3, .int p3)] → f_X8_tellCode_b38 a0 a1 p2 p3 xs0 M = some (r, M') → W p l e ({ frames := 3, cells := 0, slots := 0, locals := 70 } : Room) s m args below meth c H locs 0 0 (MQ below (QV G (some (.int r)) M') args s 0 0 (gA G)) (F0 m 38 ls [.int xs0]) := by
    intro xs0 M H locs ls hM hS hl hf
    rw [f_X8_tellCode_b38] at hf
    refine lv_istore (lv' := [(4, .int xs0), (0, .ref a0), (1, .ref a1), (2, .int p2), (3, .int p3)]) hx hb dX8_tellCode_38 hl (by decide) rfl (fun ls hl => ?_)
    refine lv_iload_n hx hb dX8_tellCode_40 rfl (lv_at hl 4 rfl) ?_
    refine lv_if_eq (tgt := 49) hx hb dX8_tellCode_41 (by decide) (fun g_1 => ?_) (fun g_1 => ?_)
    · rw [if_pos g_1] at hf
      refine lv_iload hx hb dX8_tellCode_49 (lv_at hl 0 rfl) ?_
      exact ef_im hx hb hr hlocks hM hS hf dX8_tellCode_51
    · rw [if_neg g_1] at hf
      refine lv_iload_n hx hb dX8_tellCode_44 rfl (lv_at hl 4 rfl) ?_
      refine lv_iconst (v := 3) hx hb dX8_tellCode_45 (by decide) ?_
      refine lv_icmp_ne (tgt := 52) hx hb dX8_tellCode_46 (by decide) (fun g_2 => ?_) (fun g_2 => ?_)
      · rw [if_neg g_2] at hf
        refine lv_aload_n hx hb dX8_tellCode_52 rfl (lv_at hl 1 rfl) ?_
        refine s_get hx hb (lay_8 hts) hown hK hM (c_9 h0) rfl 6 (by decide) rfl rfl (tk_272 hts) dX8_tellCode_53 ?_
        refine lv_iload hx hb dX8_tellCode_56 (lv_at hl 0 rfl) ?_
        obtain ⟨M4, e_3, hf⟩ := vb_e hf
        refine c_Vv hx hb hml hown hts hV hK hM hS (As := [.int xs0]) (rest := []) (k_X0_follow G hG l (a0 + 276) (ky_9_6 hG h0) xs0 M e_3) w_X0_follow (tk_633 hts) (c_1 (ky_9_6 hG h0)) rfl rfl ⟨⟨rfl, rfl⟩, Nat.le_of_ble_eq_true rfl, Nat.le_of_ble_eq_true rfl⟩ ⟨Nat.zero_le _, Nat.zero_le _⟩ rfl hl.1 rfl (Nat.le_of_ble_eq_true rfl) dX8_tellCode_58 (fun H locs hM hS => ?_)
        refine lv_iload_n hx hb dX8_tellCode_61 rfl (lv_at hl 4 rfl) ?_
        refine lv_iconst (v := 2) hx hb dX8_tellCode_62 (by decide) ?_
        refine lv_icmp_ne (tgt := 76) hx hb dX8_tellCode_63 (by decide) (fun g_5 => ?_) (fun g_5 => ?_)
        · rw [if_neg g_5] at hf
          refine lv_aload_n hx hb dX8_tellCode_76 rfl (lv_at hl 1 rfl) ?_
          refine s_get hx hb (lay_8 hts) hown hK hM (c_9 h0) rfl 6 (by decide) rfl rfl (tk_272 hts) dX8_tellCode_77 ?_
          refine s_getN hx hb (lay_0 hts) hown hK hM (c_1 (ky_9_6 hG h0)) rfl 0 (by decide) rfl rfl (tk_66 hts) dX8_tellCode_80 ?_
          exact ef_im hx hb hr hlocks hM hS hf dX8_tellCode_83
        · rw [if_pos g_5] at hf
          refine lv_aload_n hx hb dX8_tellCode_66 rfl (lv_at hl 1 rfl) ?_
          refine s_get hx hb (lay_8 hts) hown hK hM (c_9 h0) rfl 6 (by decide) rfl rfl (tk_272 hts) dX8_tellCode_67 ?_
          refine s_getN hx hb (lay_0 hts) hown hK hM (c_1 (ky_9_6 hG h0)) rfl 1 (by decide) rfl rfl (tk_70 hts) dX8_tellCode_70 ?_
          refine lv_goto (tgt := 83) hx hb dX8_tellCode_73 (by decide) ?_
          exact ef_im hx hb hr hlocks hM hS hf dX8_tellCode_83
      · rw [if_pos g_2] at hf
        refine lv_iload hx hb dX8_tellCode_49 (lv_at hl 0 rfl) ?_
        exact ef_im hx hb hr hlocks hM hS hf dX8_tellCode_51
  rw [f_X8_tellCode] at hf
  obtain ⟨H, hHe⟩ : ∃ H, H = s.heap := ⟨_, rfl⟩
  obtain ⟨locs, hLe⟩ : ∃ L : List Loc, L = [] := ⟨_, rfl⟩
  rw [← hHe] at hM
  have hS : va_S (gA G) s.heap H locs := by rw [hHe, hLe]; exact va_S.rf
  suffices hW : W p l e ({ frames := 3, cells := 0, slots := 0, locals := 70 } : Room) s m args below meth c H locs 0 0 (MQ below (QV G (some (.int r)) M') args s 0 0 (gA G)) (F0 m 0 ls []) by rw [hHe, hLe] at hW; exact hW
  refine lv_aload_n hx hb dX8_tellCode_0 rfl (lv_at hl 0 rfl) ?_
  refine s_get hx hb (lay_8 hts) hown hK hM (c_9 h0) rfl 6 (by decide) rfl rfl (tk_272 hts) dX8_tellCode_1 ?_
  refine lv_aload_n hx hb dX8_tellCode_4 rfl (lv_at hl 1 rfl) ?_
  refine s_getN hx hb (lay_7 hts) hown hK hM (c_8 h1) rfl 0 (by decide) rfl rfl (tk_210 hts) dX8_tellCode_5 ?_
  refine s_getN hx hb (lay_3 hts) hown hK hM (c_4 (ky_8_0 hG h1)) rfl 0 (by decide) rfl rfl (tk_116 hts) dX8_tellCode_8 ?_
  obtain ⟨M7, e_6, hf⟩ := vb_e hf
  refine c_Vv hx hb hml hown hts hV hK hM hS (As := [.ref ((a1 + 1) + 1)]) (rest := []) (k_X0_copyFrom G hG l (a0 + 276) (ky_9_6 hG h0) ((a1 + 1) + 1) (ky_4_0 hG (ky_8_0 hG h1)) M e_6) w_X0_copyFrom (tk_564 hts) (c_1 (ky_9_6 hG h0)) rfl rfl ⟨⟨rfl, rfl⟩, Nat.le_of_ble_eq_true rfl, Nat.le_of_ble_eq_true rfl⟩ ⟨Nat.zero_le _, Nat.zero_le _⟩ rfl hl.1 rfl (Nat.le_of_ble_eq_true rfl) dX8_tellCode_11 (fun H locs hM hS => ?_)
  refine lv_iload_n hx hb dX8_tellCode_14 rfl (lv_at hl 3 rfl) ?_
  refine lv_iconst (v := 3) hx hb dX8_tellCode_15 (by decide) ?_
  refine lv_icmp_ge (tgt := 30) hx hb dX8_tellCode_16 (by decide) (fun g_8 => ?_) (fun g_8 => ?_)
  · rw [if_pos g_8] at hf
    refine lv_aload_n hx hb dX8_tellCode_30 rfl (lv_at hl 0 rfl) ?_
    refine s_get hx hb (lay_8 hts) hown hK hM (c_9 h0) rfl 6 (by decide) rfl rfl (tk_272 hts) dX8_tellCode_31 ?_
    refine lv_iload_n hx hb dX8_tellCode_34 rfl (lv_at hl 2 rfl) ?_
    obtain ⟨r10, e_9, hf⟩ := vb_e hf
    refine c_Vi hx hb hml hown hts hV hK hM hS (As := [.int p2]) (rest := []) (k_X0_nearestCodeFor G hG l (a0 + 276) (ky_9_6 hG h0) p2 M7 e_9) w_X0_nearestCodeFor (tk_628 hts) (c_1 (ky_9_6 hG h0)) rfl rfl ⟨⟨rfl, rfl⟩, Nat.le_of_ble_eq_true rfl, Nat.le_of_ble_eq_true rfl⟩ ⟨Nat.zero_le _, Nat.zero_le _⟩ rfl hl.1 rfl (Nat.le_of_ble_eq_true rfl) dX8_tellCode_35 (fun H locs hM hS => ?_)
    exact b38 r10 _ H locs ls hM hS (lv_sub hl [0, 1, 2, 3] rfl) hf
  · rw [if_neg g_8] at hf
    refine lv_aload_n hx hb dX8_tellCode_19 rfl (lv_at hl 0 rfl) ?_
    refine s_get hx hb (lay_8 hts) hown hK hM (c_9 h0) rfl 6 (by decide) rfl rfl (tk_272 hts) dX8_tellCode_20 ?_
    refine lv_iload_n hx hb dX8_tellCode_23 rfl (lv_at hl 2 rfl) ?_
    obtain ⟨r12, e_11, hf⟩ := vb_e hf
    refine c_Vi hx hb hml hown hts hV hK hM hS (As := [.int p2]) (rest := []) (k_X0_codeFor G hG l (a0 + 276) (ky_9_6 hG h0) p2 M7 e_11) w_X0_codeFor (tk_624 hts) (c_1 (ky_9_6 hG h0)) rfl rfl ⟨⟨rfl, rfl⟩, Nat.le_of_ble_eq_true rfl, Nat.le_of_ble_eq_true rfl⟩ ⟨Nat.zero_le _, Nat.zero_le _⟩ rfl hl.1 rfl (Nat.le_of_ble_eq_true rfl) dX8_tellCode_24 (fun H locs hM hS => ?_)
    refine lv_goto (tgt := 38) hx hb dX8_tellCode_27 (by decide) ?_
    exact b38 r12 _ H locs ls hM hS (lv_sub hl [0, 1, 2, 3] rfl) hf
def f_X8_code (a0 : Nat) (p1 : Int32) (p2 : Int32) (p3 : Int32) (M : Mem) : Option (Nat × Int32 × Mem) := xb 0 (f_X8_voiceOf a0 p1 M) fun r2 M3 => xb 0 (f_X8_requireSample p2 M3) fun r5 M6 => xb 0 (f_X8_requireWhat p3 4 M6) fun r8 M9 => cb (f_X8_tellCode a0 r2 p2 p3 M9) fun r11 M12 => some (0, r11, M12)
set_option maxHeartbeats 4000000 in
set_option maxRecDepth 100000 in
theorem k_X8_code (G : Gt) (hG : gOK G) (l : Launch) (a0 : Nat) (h0 : gK G a0 = 9) (p1 : Int32) (p2 : Int32) (p3 : Int32) (M : Mem) {r : Int32} {M' : Mem} (hf : f_X8_code a0 p1 p2 p3 M = some (0, r, M')) : Kc G l yX8_code cX8_code 5 (some .int) ({ frames := 7, cells := 0, slots := 0, locals := 103 } : Room) [.ref a0, .int p1, .int p2, .int p3] M (some (.int r)) M' := by
  refine start (by decide) (Nat.le_of_ble_eq_true rfl) ?_
  intro p e s m args below meth c ls hx hb hr hown hml hlocks hts hV hM hl
  have hown : s.vm.findClass "FoldedVoices" = some m.cls := hown
  have hK := hG.1.moved hV
  have hS : va_S (gA G) s.heap s.heap [] := va_S.rf
  have hl : lv_has ls 5 [(0, .ref a0), (1, .int p1), (2, .int p2), (3, .int p3)] := hl
  have hM0 := hM
  rw [f_X8_code] at hf
  refine lv_aload_n hx hb dX8_code_0 rfl (lv_at hl 0 rfl) ?_
  refine lv_iload_n hx hb dX8_code_1 rfl (lv_at hl 1 rfl) ?_
  obtain ⟨r2, M3, e_1, hf⟩ := xb_r hf
  refine c_Vr hx hb hml hown hts hV hK hM hS (As := [.int p1]) (rest := []) (k_X8_voiceOf G hG l a0 h0 p1 M e_1) w_X8_voiceOf (tk_306 hts) (c_9 h0) rfl rfl ⟨⟨rfl, rfl⟩, Nat.le_of_ble_eq_true rfl, Nat.le_of_ble_eq_true rfl⟩ ⟨Nat.zero_le _, Nat.zero_le _⟩ rfl hl.1 rfl (Nat.le_of_ble_eq_true rfl) dX8_code_2 (fun H locs hM hS => ?_)
  have h_r2 := kr_X8_voiceOf hG a0 h0 p1 e_1
  refine lv_astore (lv' := [(4, .ref r2), (0, .ref a0), (1, .int p1), (2, .int p2), (3, .int p3)]) hx hb dX8_code_5 hl (by decide) rfl (fun ls hl => ?_)
  refine lv_iload_n hx hb dX8_code_7 rfl (lv_at hl 3 rfl) ?_
  obtain ⟨r5, M6, e_4, hf⟩ := xb_r hf
  refine c_Sv hx hb hml hown hts hV hM hS (As := [.int p2]) (rest := []) (k_X8_requireSample G hG l p2 M3 e_4) w_X8_requireSample (tk_616 hts) ⟨⟨rfl, rfl⟩, Nat.le_of_ble_eq_true rfl, Nat.le_of_ble_eq_true rfl⟩ ⟨Nat.zero_le _, Nat.zero_le _⟩ rfl hl.1 rfl (Nat.le_of_ble_eq_true rfl) dX8_code_8 (fun H locs hM hS => ?_)
  refine lv_iload_n hx hb dX8_code_11 rfl (lv_at hl 4 rfl) ?_
  refine lv_iconst (v := 4) hx hb dX8_code_12 (by decide) ?_
  obtain ⟨r8, M9, e_7, hf⟩ := xb_r hf
  refine c_Sv hx hb hml hown hts hV hM hS (As := [.int p3, .int 4]) (rest := []) (k_X8_requireWhat G hG l p3 4 M6 e_7) w_X8_requireWhat (tk_378 hts) ⟨⟨rfl, rfl⟩, Nat.le_of_ble_eq_true rfl, Nat.le_of_ble_eq_true rfl⟩ ⟨Nat.zero_le _, Nat.zero_le _⟩ rfl hl.1 rfl (Nat.le_of_ble_eq_true rfl) dX8_code_13 (fun H locs hM hS => ?_)
  refine lv_aload_n hx hb dX8_code_16 rfl (lv_at hl 1 rfl) ?_
  refine lv_aload hx hb dX8_code_17 (lv_at hl 0 rfl) ?_
  refine lv_iload_n hx hb dX8_code_19 rfl (lv_at hl 3 rfl) ?_
  refine lv_iload_n hx hb dX8_code_20 rfl (lv_at hl 4 rfl) ?_
  obtain ⟨r11, M12, e_10, hf⟩ := cb_e hf
  refine c_Vi hx hb hml hown hts hV hK hM hS (As := [.ref r2, .int p2, .int p3]) (rest := []) (k_X8_tellCode G hG l a0 h0 r2 h_r2 p2 p3 M9 e_10) w_X8_tellCode (tk_620 hts) (c_9 h0) rfl rfl ⟨⟨rfl, rfl⟩, Nat.le_of_ble_eq_true rfl, Nat.le_of_ble_eq_true rfl⟩ ⟨Nat.zero_le _, Nat.zero_le _⟩ rfl hl.1 rfl (Nat.le_of_ble_eq_true rfl) dX8_code_21 (fun H locs hM hS => ?_)
  exact ef_ix hx hb hr hlocks hM hS hf dX8_code_24
def f_X8_codesToComeNear_b17 (a0 : Nat) (a1 : Nat) (p2 : Int32) (p3 : Int32) : Nat → Int32 → Mem → Option (Int32 × Mem)
  | 0, _, _ => none
  | n + 1, x4, M => if (60 : Int32) < x4 then (some ((-10000), M)) else (vb (f_X8_distance (mI M (a0 + 276) 0) p2 M) fun r3 => if p3 ≤ r3 then (vb (f_X0_codeFor (a0 + 276) p2 M) fun r6 => vb (f_X0_follow (a0 + 276) r6 M) fun M8 => nb (x4 + 1) fun y9 => f_X8_codesToComeNear_b17 a0 a1 p2 p3 n y9 M8) else (some (x4, M)))
def f_X8_codesToComeNear (a0 : Nat) (a1 : Nat) (p2 : Int32) (p3 : Int32) (M : Mem) : Option (Int32 × Mem) := vb (f_X0_copyFrom (a0 + 276) ((a1 + 1) + 1) M) fun M11 => f_X8_codesToComeNear_b17 a0 a1 p2 p3 lfuel 0 M11
set_option maxHeartbeats 4000000 in
set_option maxRecDepth 100000 in
theorem k_X8_codesToComeNear (G : Gt) (hG : gOK G) (l : Launch) (a0 : Nat) (h0 : gK G a0 = 9) (a1 : Nat) (h1 : gK G a1 = 8) (p2 : Int32) (p3 : Int32) (M : Mem) {r : Int32} {M' : Mem} (hf : f_X8_codesToComeNear a0 a1 p2 p3 M = some (r, M')) : Kc G l yX8_codesToComeNear cX8_codesToComeNear 5 (some .int) ({ frames := 3, cells := 0, slots := 0, locals := 68 } : Room) [.ref a0, .ref a1, .int p2, .int p3] M (some (.int r)) M' := by
  refine start (by decide) (Nat.le_of_ble_eq_true rfl) ?_
  intro p e s m args below meth c ls hx hb hr hown hml hlocks hts hV hM hl
  have hown : s.vm.findClass "FoldedVoices" = some m.cls := hown
  have hK := hG.1.moved hV
  have hS : va_S (gA G) s.heap s.heap [] := va_S.rf
  have hl : lv_has ls 5 [(0, .ref a0), (1, .ref a1), (2, .int p2), (3, .int p3)] := hl
  have hM0 := hM
  have b17 : ∀ (n : Nat), ∀ (x4 : Int32) (M : Mem) (H : Heap) (locs : List Loc) (ls : Array Slot), Mh G M H → va_S (gA G) s.heap H locs → lv_has ls 5 [(0, .ref a0), (1, .ref a1), (2, .int p2), (3, .int p3), (4, .int x4)] → f_X8_codesToComeNear_b17 a0 a1 p2 p3 n x4 M = some (r, M') → W p l e ({ frames := 3, cells := 0, slots := 0, locals := 68 } : Room) s m args below meth c H locs 0 0 (MQ below (QV G (some (.int r)) M') args s 0 0 (gA G)) (F0 m 17 ls []) := by
    intro n
    induction n with
    | zero =>
      intro x4 M H locs ls hM hS hl hf
      rw [f_X8_codesToComeNear_b17] at hf
      cases hf
    | succ n ih =>
      intro x4 M H locs ls hM hS hl hf
      rw [f_X8_codesToComeNear_b17] at hf
      refine lv_iload hx hb dX8_codesToComeNear_17 (lv_at hl 4 rfl) ?_
      refine lv_bipush (v := 60) hx hb dX8_codesToComeNear_19 (by decide) ?_
      refine lv_icmp_gt (tgt := 63) hx hb dX8_codesToComeNear_21 (by decide) (fun g_1 => ?_) (fun g_1 => ?_)
      · rw [if_pos g_1] at hf
        refine lv_sipush (v := (-10000)) hx hb dX8_codesToComeNear_63 (by decide) ?_
        exact ef_im hx hb hr hlocks hM hS hf dX8_codesToComeNear_66
      · rw [if_neg g_1] at hf
        refine lv_aload_n hx hb dX8_codesToComeNear_24 rfl (lv_at hl 0 rfl) ?_
        refine s_get hx hb (lay_8 hts) hown hK hM (c_9 h0) rfl 6 (by decide) rfl rfl (tk_272 hts) dX8_codesToComeNear_25 ?_
        refine s_getN hx hb (lay_0 hts) hown hK hM (c_1 (ky_9_6 hG h0)) rfl 0 (by decide) rfl rfl (tk_66 hts) dX8_codesToComeNear_28 ?_
        refine lv_iload_n hx hb dX8_codesToComeNear_31 rfl (lv_at hl 2 rfl) ?_
        obtain ⟨r3, e_2, hf⟩ := vb_e hf
        refine c_Si hx hb hml hown hts hV hM hS (As := [.int (mI M (a0 + 276) 0), .int p2]) (rest := []) (k_X8_distance G hG l (mI M (a0 + 276) 0) p2 M e_2) w_X8_distance (tk_643 hts) ⟨⟨rfl, rfl⟩, Nat.le_of_ble_eq_true rfl, Nat.le_of_ble_eq_true rfl⟩ ⟨Nat.zero_le _, Nat.zero_le _⟩ rfl hl.1 rfl (Nat.le_of_ble_eq_true rfl) dX8_codesToComeNear_32 (fun H locs hM hS => ?_)
        refine lv_iload_n hx hb dX8_codesToComeNear_35 rfl (lv_at hl 3 rfl) ?_
        refine lv_icmp_ge (tgt := 42) hx hb dX8_codesToComeNear_36 (by decide) (fun g_4 => ?_) (fun g_4 => ?_)
        · rw [if_pos g_4] at hf
          refine lv_aload_n hx hb dX8_codesToComeNear_42 rfl (lv_at hl 0 rfl) ?_
          refine s_get hx hb (lay_8 hts) hown hK hM (c_9 h0) rfl 6 (by decide) rfl rfl (tk_272 hts) dX8_codesToComeNear_43 ?_
          refine lv_aload_n hx hb dX8_codesToComeNear_46 rfl (lv_at hl 0 rfl) ?_
          refine s_get hx hb (lay_8 hts) hown hK hM (c_9 h0) rfl 6 (by decide) rfl rfl (tk_272 hts) dX8_codesToComeNear_47 ?_
          refine lv_iload_n hx hb dX8_codesToComeNear_50 rfl (lv_at hl 2 rfl) ?_
          obtain ⟨r6, e_5, hf⟩ := vb_e hf
          refine c_Vi hx hb hml hown hts hV hK hM hS (As := [.int p2]) (rest := [.ref (a0 + 276)]) (k_X0_codeFor G hG l (a0 + 276) (ky_9_6 hG h0) p2 M e_5) w_X0_codeFor (tk_624 hts) (c_1 (ky_9_6 hG h0)) rfl rfl ⟨⟨rfl, rfl⟩, Nat.le_of_ble_eq_true rfl, Nat.le_of_ble_eq_true rfl⟩ ⟨Nat.zero_le _, Nat.zero_le _⟩ rfl hl.1 rfl (Nat.le_of_ble_eq_true rfl) dX8_codesToComeNear_51 (fun H locs hM hS => ?_)
          obtain ⟨M8, e_7, hf⟩ := vb_e hf
          refine c_Vv hx hb hml hown hts hV hK hM hS (As := [.int r6]) (rest := []) (k_X0_follow G hG l (a0 + 276) (ky_9_6 hG h0) r6 M e_7) w_X0_follow (tk_633 hts) (c_1 (ky_9_6 hG h0)) rfl rfl ⟨⟨rfl, rfl⟩, Nat.le_of_ble_eq_true rfl, Nat.le_of_ble_eq_true rfl⟩ ⟨Nat.zero_le _, Nat.zero_le _⟩ rfl hl.1 rfl (Nat.le_of_ble_eq_true rfl) dX8_codesToComeNear_54 (fun H locs hM hS => ?_)
          obtain ⟨y9, ey9, hf⟩ := nb_e hf
          refine lv_iinc (v := y9) (lv' := [(4, .int y9), (0, .ref a0), (1, .ref a1), (2, .int p2), (3, .int p3)]) hx hb dX8_codesToComeNear_57 hl (k := 4) rfl (by rw [← ey9]; rfl) (by decide) rfl (fun ls hl => ?_)
          refine lv_goto (tgt := 17) hx hb dX8_codesToComeNear_60 (by decide) ?_
          exact ih y9 _ H locs ls hM hS (lv_sub hl [1, 2, 3, 4, 0] rfl) hf
        · rw [if_neg g_4] at hf
          refine lv_iload hx hb dX8_codesToComeNear_39 (lv_at hl 4 rfl) ?_
          exact ef_im hx hb hr hlocks hM hS hf dX8_codesToComeNear_41
  rw [f_X8_codesToComeNear] at hf
  obtain ⟨H, hHe⟩ : ∃ H, H = s.heap := ⟨_, rfl⟩
  obtain ⟨locs, hLe⟩ : ∃ L : List Loc, L = [] := ⟨_, rfl⟩
  rw [← hHe] at hM
  have hS : va_S (gA G) s.heap H locs := by rw [hHe, hLe]; exact va_S.rf
  suffices hW : W p l e ({ frames := 3, cells := 0, slots := 0, locals := 68 } : Room) s m args below meth c H locs 0 0 (MQ below (QV G (some (.int r)) M') args s 0 0 (gA G)) (F0 m 0 ls []) by rw [hHe, hLe] at hW; exact hW
  refine lv_aload_n hx hb dX8_codesToComeNear_0 rfl (lv_at hl 0 rfl) ?_
  refine s_get hx hb (lay_8 hts) hown hK hM (c_9 h0) rfl 6 (by decide) rfl rfl (tk_272 hts) dX8_codesToComeNear_1 ?_
  refine lv_aload_n hx hb dX8_codesToComeNear_4 rfl (lv_at hl 1 rfl) ?_
  refine s_getN hx hb (lay_7 hts) hown hK hM (c_8 h1) rfl 0 (by decide) rfl rfl (tk_210 hts) dX8_codesToComeNear_5 ?_
  refine s_getN hx hb (lay_3 hts) hown hK hM (c_4 (ky_8_0 hG h1)) rfl 0 (by decide) rfl rfl (tk_116 hts) dX8_codesToComeNear_8 ?_
  obtain ⟨M11, e_10, hf⟩ := vb_e hf
  refine c_Vv hx hb hml hown hts hV hK hM hS (As := [.ref ((a1 + 1) + 1)]) (rest := []) (k_X0_copyFrom G hG l (a0 + 276) (ky_9_6 hG h0) ((a1 + 1) + 1) (ky_4_0 hG (ky_8_0 hG h1)) M e_10) w_X0_copyFrom (tk_564 hts) (c_1 (ky_9_6 hG h0)) rfl rfl ⟨⟨rfl, rfl⟩, Nat.le_of_ble_eq_true rfl, Nat.le_of_ble_eq_true rfl⟩ ⟨Nat.zero_le _, Nat.zero_le _⟩ rfl hl.1 rfl (Nat.le_of_ble_eq_true rfl) dX8_codesToComeNear_11 (fun H locs hM hS => ?_)
  refine lv_iconst (v := 0) hx hb dX8_codesToComeNear_14 (by decide) ?_
  refine lv_istore (lv' := [(4, .int 0), (0, .ref a0), (1, .ref a1), (2, .int p2), (3, .int p3)]) hx hb dX8_codesToComeNear_15 hl (by decide) rfl (fun ls hl => ?_)
  exact b17 _ 0 _ H locs ls hM hS (lv_sub hl [1, 2, 3, 4, 0] rfl) hf
def f_X8_settles_b23 (a0 : Nat) (p1 : Int32) (p2 : Int32) (p3 : Int32) (M : Mem) : Option (Nat × Int32 × Mem) := some (2, 0, M)
def f_X8_settles (a0 : Nat) (p1 : Int32) (p2 : Int32) (p3 : Int32) (M : Mem) : Option (Nat × Int32 × Mem) := xb 0 (f_X8_voiceOf a0 p1 M) fun r2 M3 => xb 0 (f_X8_requireSample p2 M3) fun r5 M6 => if p3 < (1 : Int32) then (f_X8_settles_b23 a0 p1 p2 p3 M6) else (if p3 ≤ (2000 : Int32) then (cb (f_X8_codesToComeNear a0 r2 p2 p3 M6) fun r10 M11 => some (0, r10, M11)) else (f_X8_settles_b23 a0 p1 p2 p3 M6))
set_option maxHeartbeats 4000000 in
set_option maxRecDepth 100000 in
theorem k_X8_settles (G : Gt) (hG : gOK G) (l : Launch) (a0 : Nat) (h0 : gK G a0 = 9) (p1 : Int32) (p2 : Int32) (p3 : Int32) (M : Mem) {r : Int32} {M' : Mem} (hf : f_X8_settles a0 p1 p2 p3 M = some (0, r, M')) : Kc G l yX8_settles cX8_settles 5 (some .int) ({ frames := 7, cells := 0, slots := 0, locals := 103 } : Room) [.ref a0, .int p1, .int p2, .int p3] M (some (.int r)) M' := by
  refine start (by decide) (Nat.le_of_ble_eq_true rfl) ?_
  intro p e s m args below meth c ls hx hb hr hown hml hlocks hts hV hM hl
  have hown : s.vm.findClass "FoldedVoices" = some m.cls := hown
  have hK := hG.1.moved hV
  have hS : va_S (gA G) s.heap s.heap [] := va_S.rf
  have hl : lv_has ls 5 [(0, .ref a0), (1, .int p1), (2, .int p2), (3, .int p3)] := hl
  have hM0 := hM
  have b23 : ∀ (M : Mem) (H : Heap) (locs : List Loc) (ls : Array Slot), Mh G M H → va_S (gA G) s.heap H locs → lv_has ls 5 [(0, .ref a0), (1, .int p1), (2, .int p2), (3, .int p3)] → f_X8_settles_b23 a0 p1 p2 p3 M = some (0, r, M') → W p l e ({ frames := 7, cells := 0, slots := 0, locals := 103 } : Room) s m args below meth c H locs 0 0 (MQ below (QV G (some (.int r)) M') args s 0 0 (gA G)) (F0 m 23 ls []) := by
    intro M H locs ls hM hS hl hf
    rw [f_X8_settles_b23] at hf
    exact (xf_no2 hf (by decide)).elim
  rw [f_X8_settles] at hf
  obtain ⟨H, hHe⟩ : ∃ H, H = s.heap := ⟨_, rfl⟩
  obtain ⟨locs, hLe⟩ : ∃ L : List Loc, L = [] := ⟨_, rfl⟩
  rw [← hHe] at hM
  have hS : va_S (gA G) s.heap H locs := by rw [hHe, hLe]; exact va_S.rf
  suffices hW : W p l e ({ frames := 7, cells := 0, slots := 0, locals := 103 } : Room) s m args below meth c H locs 0 0 (MQ below (QV G (some (.int r)) M') args s 0 0 (gA G)) (F0 m 0 ls []) by rw [hHe, hLe] at hW; exact hW
  refine lv_aload_n hx hb dX8_settles_0 rfl (lv_at hl 0 rfl) ?_
  refine lv_iload_n hx hb dX8_settles_1 rfl (lv_at hl 1 rfl) ?_
  obtain ⟨r2, M3, e_1, hf⟩ := xb_r hf
  refine c_Vr hx hb hml hown hts hV hK hM hS (As := [.int p1]) (rest := []) (k_X8_voiceOf G hG l a0 h0 p1 M e_1) w_X8_voiceOf (tk_306 hts) (c_9 h0) rfl rfl ⟨⟨rfl, rfl⟩, Nat.le_of_ble_eq_true rfl, Nat.le_of_ble_eq_true rfl⟩ ⟨Nat.zero_le _, Nat.zero_le _⟩ rfl hl.1 rfl (Nat.le_of_ble_eq_true rfl) dX8_settles_2 (fun H locs hM hS => ?_)
  have h_r2 := kr_X8_voiceOf hG a0 h0 p1 e_1
  refine lv_astore (lv' := [(4, .ref r2), (0, .ref a0), (1, .int p1), (2, .int p2), (3, .int p3)]) hx hb dX8_settles_5 hl (by decide) rfl (fun ls hl => ?_)
  refine lv_iload_n hx hb dX8_settles_7 rfl (lv_at hl 3 rfl) ?_
  obtain ⟨r5, M6, e_4, hf⟩ := xb_r hf
  refine c_Sv hx hb hml hown hts hV hM hS (As := [.int p2]) (rest := []) (k_X8_requireSample G hG l p2 M3 e_4) w_X8_requireSample (tk_616 hts) ⟨⟨rfl, rfl⟩, Nat.le_of_ble_eq_true rfl, Nat.le_of_ble_eq_true rfl⟩ ⟨Nat.zero_le _, Nat.zero_le _⟩ rfl hl.1 rfl (Nat.le_of_ble_eq_true rfl) dX8_settles_8 (fun H locs hM hS => ?_)
  refine lv_iload_n hx hb dX8_settles_11 rfl (lv_at hl 4 rfl) ?_
  refine lv_iconst (v := 1) hx hb dX8_settles_12 (by decide) ?_
  refine lv_icmp_lt (tgt := 23) hx hb dX8_settles_13 (by decide) (fun g_7 => ?_) (fun g_7 => ?_)
  · rw [if_pos g_7] at hf
    exact b23 _ H locs ls hM hS (lv_sub hl [1, 2, 3, 4] rfl) hf
  · rw [if_neg g_7] at hf
    refine lv_iload_n hx hb dX8_settles_16 rfl (lv_at hl 4 rfl) ?_
    refine lv_sipush (v := 2000) hx hb dX8_settles_17 (by decide) ?_
    refine lv_icmp_le (tgt := 33) hx hb dX8_settles_20 (by decide) (fun g_8 => ?_) (fun g_8 => ?_)
    · rw [if_pos g_8] at hf
      refine lv_aload_n hx hb dX8_settles_33 rfl (lv_at hl 1 rfl) ?_
      refine lv_aload hx hb dX8_settles_34 (lv_at hl 0 rfl) ?_
      refine lv_iload_n hx hb dX8_settles_36 rfl (lv_at hl 3 rfl) ?_
      refine lv_iload_n hx hb dX8_settles_37 rfl (lv_at hl 4 rfl) ?_
      obtain ⟨r10, M11, e_9, hf⟩ := cb_e hf
      refine c_Vi hx hb hml hown hts hV hK hM hS (As := [.ref r2, .int p2, .int p3]) (rest := []) (k_X8_codesToComeNear G hG l a0 h0 r2 h_r2 p2 p3 M6 e_9) w_X8_codesToComeNear (tk_639 hts) (c_9 h0) rfl rfl ⟨⟨rfl, rfl⟩, Nat.le_of_ble_eq_true rfl, Nat.le_of_ble_eq_true rfl⟩ ⟨Nat.zero_le _, Nat.zero_le _⟩ rfl hl.1 rfl (Nat.le_of_ble_eq_true rfl) dX8_settles_38 (fun H locs hM hS => ?_)
      exact ef_ix hx hb hr hlocks hM hS hf dX8_settles_41
    · rw [if_neg g_8] at hf
      exact b23 _ H locs ls hM hS (lv_sub hl [1, 2, 3, 4] rfl) hf
def f_X8_tellIfAllCame (a0 : Nat) (a1 : Nat) (p2 : Int32) (M : Mem) : Option (Int32 × Mem) := vb (f_X8_letAllCome a0 a1 M) fun M2 => if p2 = 0 then (some (mI M2 ((a0 + 277) + 1) 0, M2)) else (if p2 = 1 then (some ((mI M2 (a0 + 277) 6) - (mI M2 (a1 + 9) 6), M2)) else (if p2 = 2 then (some ((mI M2 (a0 + 277) 3) - (mI M2 (a1 + 9) 3), M2)) else (some ((mI M2 (a0 + 277) 5) - (mI M2 (a1 + 9) 5), M2))))
set_option maxHeartbeats 4000000 in
set_option maxRecDepth 100000 in
theorem k_X8_tellIfAllCame (G : Gt) (hG : gOK G) (l : Launch) (a0 : Nat) (h0 : gK G a0 = 9) (a1 : Nat) (h1 : gK G a1 = 8) (p2 : Int32) (M : Mem) {r : Int32} {M' : Mem} (hf : f_X8_tellIfAllCame a0 a1 p2 M = some (r, M')) : Kc G l yX8_tellIfAllCame cX8_tellIfAllCame 3 (some .int) ({ frames := 5, cells := 0, slots := 0, locals := 113 } : Room) [.ref a0, .ref a1, .int p2] M (some (.int r)) M' := by
  refine start (by decide) (Nat.le_of_ble_eq_true rfl) ?_
  intro p e s m args below meth c ls hx hb hr hown hml hlocks hts hV hM hl
  have hown : s.vm.findClass "FoldedVoices" = some m.cls := hown
  have hK := hG.1.moved hV
  have hS : va_S (gA G) s.heap s.heap [] := va_S.rf
  have hl : lv_has ls 3 [(0, .ref a0), (1, .ref a1), (2, .int p2)] := hl
  have hM0 := hM
  rw [f_X8_tellIfAllCame] at hf
  refine lv_aload_n hx hb dX8_tellIfAllCame_0 rfl (lv_at hl 0 rfl) ?_
  refine lv_aload_n hx hb dX8_tellIfAllCame_1 rfl (lv_at hl 1 rfl) ?_
  obtain ⟨M2, e_1, hf⟩ := vb_e hf
  refine c_Vv hx hb hml hown hts hV hK hM hS (As := [.ref a1]) (rest := []) (k_X8_letAllCome G hG l a0 h0 a1 h1 M e_1) w_X8_letAllCome (tk_514 hts) (c_9 h0) rfl rfl ⟨⟨rfl, rfl⟩, Nat.le_of_ble_eq_true rfl, Nat.le_of_ble_eq_true rfl⟩ ⟨Nat.zero_le _, Nat.zero_le _⟩ rfl hl.1 rfl (Nat.le_of_ble_eq_true rfl) dX8_tellIfAllCame_2 (fun H locs hM hS => ?_)
  refine lv_iload_n hx hb dX8_tellIfAllCame_5 rfl (lv_at hl 2 rfl) ?_
  by_cases g_3 : p2 = 0
  · rw [if_pos g_3] at hf
    refine lv_tableIn (off := 26) (tgt := 32) hx hb dX8_tellIfAllCame_6 (by rw [g_3]; decide) (by rw [g_3]; decide) (by rw [g_3]; rfl) (by decide) ?_
    refine lv_aload_n hx hb dX8_tellIfAllCame_32 rfl (lv_at hl 0 rfl) ?_
    refine s_get hx hb (lay_8 hts) hown hK hM (c_9 h0) rfl 7 (by decide) rfl rfl (tk_273 hts) dX8_tellIfAllCame_33 ?_
    refine s_getN hx hb (lay_1 hts) hown hK hM (c_2 (ky_9_7 hG h0)) rfl 0 (by decide) rfl rfl (tk_169 hts) dX8_tellIfAllCame_36 ?_
    refine s_getN hx hb (lay_0 hts) hown hK hM (c_1 (ky_2_0 hG (ky_9_7 hG h0))) rfl 0 (by decide) rfl rfl (tk_66 hts) dX8_tellIfAllCame_39 ?_
    exact ef_im hx hb hr hlocks hM hS hf dX8_tellIfAllCame_42
  rw [if_neg g_3] at hf
  by_cases g_4 : p2 = 1
  · rw [if_pos g_4] at hf
    refine lv_tableIn (off := 37) (tgt := 43) hx hb dX8_tellIfAllCame_6 (by rw [g_4]; decide) (by rw [g_4]; decide) (by rw [g_4]; rfl) (by decide) ?_
    refine lv_aload_n hx hb dX8_tellIfAllCame_43 rfl (lv_at hl 0 rfl) ?_
    refine s_get hx hb (lay_8 hts) hown hK hM (c_9 h0) rfl 7 (by decide) rfl rfl (tk_273 hts) dX8_tellIfAllCame_44 ?_
    refine s_getN hx hb (lay_1 hts) hown hK hM (c_2 (ky_9_7 hG h0)) rfl 6 (by decide) rfl rfl (tk_180 hts) dX8_tellIfAllCame_47 ?_
    refine lv_aload_n hx hb dX8_tellIfAllCame_50 rfl (lv_at hl 1 rfl) ?_
    refine s_getN hx hb (lay_7 hts) hown hK hM (c_8 h1) rfl 1 (by decide) rfl rfl (tk_212 hts) dX8_tellIfAllCame_51 ?_
    refine s_getN hx hb (lay_1 hts) hown hK hM (c_2 (ky_8_1 hG h1)) rfl 6 (by decide) rfl rfl (tk_180 hts) dX8_tellIfAllCame_54 ?_
    refine lv_isub hx hb dX8_tellIfAllCame_57 ?_
    exact ef_im hx hb hr hlocks hM hS hf dX8_tellIfAllCame_58
  rw [if_neg g_4] at hf
  by_cases g_5 : p2 = 2
  · rw [if_pos g_5] at hf
    refine lv_tableIn (off := 53) (tgt := 59) hx hb dX8_tellIfAllCame_6 (by rw [g_5]; decide) (by rw [g_5]; decide) (by rw [g_5]; rfl) (by decide) ?_
    refine lv_aload_n hx hb dX8_tellIfAllCame_59 rfl (lv_at hl 0 rfl) ?_
    refine s_get hx hb (lay_8 hts) hown hK hM (c_9 h0) rfl 7 (by decide) rfl rfl (tk_273 hts) dX8_tellIfAllCame_60 ?_
    refine s_getN hx hb (lay_1 hts) hown hK hM (c_2 (ky_9_7 hG h0)) rfl 3 (by decide) rfl rfl (tk_174 hts) dX8_tellIfAllCame_63 ?_
    refine lv_aload_n hx hb dX8_tellIfAllCame_66 rfl (lv_at hl 1 rfl) ?_
    refine s_getN hx hb (lay_7 hts) hown hK hM (c_8 h1) rfl 1 (by decide) rfl rfl (tk_212 hts) dX8_tellIfAllCame_67 ?_
    refine s_getN hx hb (lay_1 hts) hown hK hM (c_2 (ky_8_1 hG h1)) rfl 3 (by decide) rfl rfl (tk_174 hts) dX8_tellIfAllCame_70 ?_
    refine lv_isub hx hb dX8_tellIfAllCame_73 ?_
    exact ef_im hx hb hr hlocks hM hS hf dX8_tellIfAllCame_74
  rw [if_neg g_5] at hf
  have tg_3 := lv_neT g_3 (show (0 : Int32).toInt = 0 from by decide)
  have tg_4 := lv_neT g_4 (show (1 : Int32).toInt = 1 from by decide)
  have tg_5 := lv_neT g_5 (show (2 : Int32).toInt = 2 from by decide)
  refine lv_tableOut (tgt := 75) hx hb dX8_tellIfAllCame_6 (by omega) (by decide) ?_
  refine lv_aload_n hx hb dX8_tellIfAllCame_75 rfl (lv_at hl 0 rfl) ?_
  refine s_get hx hb (lay_8 hts) hown hK hM (c_9 h0) rfl 7 (by decide) rfl rfl (tk_273 hts) dX8_tellIfAllCame_76 ?_
  refine s_getN hx hb (lay_1 hts) hown hK hM (c_2 (ky_9_7 hG h0)) rfl 5 (by decide) rfl rfl (tk_178 hts) dX8_tellIfAllCame_79 ?_
  refine lv_aload_n hx hb dX8_tellIfAllCame_82 rfl (lv_at hl 1 rfl) ?_
  refine s_getN hx hb (lay_7 hts) hown hK hM (c_8 h1) rfl 1 (by decide) rfl rfl (tk_212 hts) dX8_tellIfAllCame_83 ?_
  refine s_getN hx hb (lay_1 hts) hown hK hM (c_2 (ky_8_1 hG h1)) rfl 5 (by decide) rfl rfl (tk_178 hts) dX8_tellIfAllCame_86 ?_
  refine lv_isub hx hb dX8_tellIfAllCame_89 ?_
  exact ef_im hx hb hr hlocks hM hS hf dX8_tellIfAllCame_90
def f_X8_ifDelivered (a0 : Nat) (p1 : Int32) (p2 : Int32) (M : Mem) : Option (Nat × Int32 × Mem) := xb 0 (f_X8_voiceOf a0 p1 M) fun r2 M3 => xb 0 (f_X8_requireWhat p2 3 M3) fun r5 M6 => cb (f_X8_tellIfAllCame a0 r2 p2 M6) fun r8 M9 => some (0, r8, M9)
set_option maxHeartbeats 4000000 in
set_option maxRecDepth 100000 in
theorem k_X8_ifDelivered (G : Gt) (hG : gOK G) (l : Launch) (a0 : Nat) (h0 : gK G a0 = 9) (p1 : Int32) (p2 : Int32) (M : Mem) {r : Int32} {M' : Mem} (hf : f_X8_ifDelivered a0 p1 p2 M = some (0, r, M')) : Kc G l yX8_ifDelivered cX8_ifDelivered 4 (some .int) ({ frames := 7, cells := 0, slots := 0, locals := 135 } : Room) [.ref a0, .int p1, .int p2] M (some (.int r)) M' := by
  refine start (by decide) (Nat.le_of_ble_eq_true rfl) ?_
  intro p e s m args below meth c ls hx hb hr hown hml hlocks hts hV hM hl
  have hown : s.vm.findClass "FoldedVoices" = some m.cls := hown
  have hK := hG.1.moved hV
  have hS : va_S (gA G) s.heap s.heap [] := va_S.rf
  have hl : lv_has ls 4 [(0, .ref a0), (1, .int p1), (2, .int p2)] := hl
  have hM0 := hM
  rw [f_X8_ifDelivered] at hf
  refine lv_aload_n hx hb dX8_ifDelivered_0 rfl (lv_at hl 0 rfl) ?_
  refine lv_iload_n hx hb dX8_ifDelivered_1 rfl (lv_at hl 1 rfl) ?_
  obtain ⟨r2, M3, e_1, hf⟩ := xb_r hf
  refine c_Vr hx hb hml hown hts hV hK hM hS (As := [.int p1]) (rest := []) (k_X8_voiceOf G hG l a0 h0 p1 M e_1) w_X8_voiceOf (tk_306 hts) (c_9 h0) rfl rfl ⟨⟨rfl, rfl⟩, Nat.le_of_ble_eq_true rfl, Nat.le_of_ble_eq_true rfl⟩ ⟨Nat.zero_le _, Nat.zero_le _⟩ rfl hl.1 rfl (Nat.le_of_ble_eq_true rfl) dX8_ifDelivered_2 (fun H locs hM hS => ?_)
  have h_r2 := kr_X8_voiceOf hG a0 h0 p1 e_1
  refine lv_astore_n (lv' := [(3, .ref r2), (0, .ref a0), (1, .int p1), (2, .int p2)]) hx hb dX8_ifDelivered_5 rfl hl (by decide) rfl (fun ls hl => ?_)
  refine lv_iload_n hx hb dX8_ifDelivered_6 rfl (lv_at hl 3 rfl) ?_
  refine lv_iconst (v := 3) hx hb dX8_ifDelivered_7 (by decide) ?_
  obtain ⟨r5, M6, e_4, hf⟩ := xb_r hf
  refine c_Sv hx hb hml hown hts hV hM hS (As := [.int p2, .int 3]) (rest := []) (k_X8_requireWhat G hG l p2 3 M3 e_4) w_X8_requireWhat (tk_378 hts) ⟨⟨rfl, rfl⟩, Nat.le_of_ble_eq_true rfl, Nat.le_of_ble_eq_true rfl⟩ ⟨Nat.zero_le _, Nat.zero_le _⟩ rfl hl.1 rfl (Nat.le_of_ble_eq_true rfl) dX8_ifDelivered_8 (fun H locs hM hS => ?_)
  refine lv_aload_n hx hb dX8_ifDelivered_11 rfl (lv_at hl 1 rfl) ?_
  refine lv_aload_n hx hb dX8_ifDelivered_12 rfl (lv_at hl 0 rfl) ?_
  refine lv_iload_n hx hb dX8_ifDelivered_13 rfl (lv_at hl 3 rfl) ?_
  obtain ⟨r8, M9, e_7, hf⟩ := cb_e hf
  refine c_Vi hx hb hml hown hts hV hK hM hS (As := [.ref r2, .int p2]) (rest := []) (k_X8_tellIfAllCame G hG l a0 h0 r2 h_r2 p2 M6 e_7) w_X8_tellIfAllCame (tk_510 hts) (c_9 h0) rfl rfl ⟨⟨rfl, rfl⟩, Nat.le_of_ble_eq_true rfl, Nat.le_of_ble_eq_true rfl⟩ ⟨Nat.zero_le _, Nat.zero_le _⟩ rfl hl.1 rfl (Nat.le_of_ble_eq_true rfl) dX8_ifDelivered_14 (fun H locs hM hS => ?_)
  exact ef_ix hx hb hr hlocks hM hS hf dX8_ifDelivered_17
def f_X8_meanError (a0 : Nat) (p1 : Int32) (M : Mem) : Option (Nat × UInt64 × Mem) := xb 0 (f_X8_voiceOf a0 p1 M) fun r2 M3 => vb (f_X1_meanOfErrors (r2 + 9) M3) fun r5 => some (0, r5, M3)
set_option maxHeartbeats 4000000 in
set_option maxRecDepth 100000 in
theorem k_X8_meanError (G : Gt) (hG : gOK G) (l : Launch) (a0 : Nat) (h0 : gK G a0 = 9) (p1 : Int32) (M : Mem) {r : UInt64} {M' : Mem} (hf : f_X8_meanError a0 p1 M = some (0, r, M')) : Kc G l yX8_meanError cX8_meanError 2 (some .double) ({ frames := 7, cells := 0, slots := 0, locals := 103 } : Room) [.ref a0, .int p1] M (some (.double r)) M' := by
  refine start (by decide) (Nat.le_of_ble_eq_true rfl) ?_
  intro p e s m args below meth c ls hx hb hr hown hml hlocks hts hV hM hl
  have hown : s.vm.findClass "FoldedVoices" = some m.cls := hown
  have hK := hG.1.moved hV
  have hS : va_S (gA G) s.heap s.heap [] := va_S.rf
  have hl : lv_has ls 2 [(0, .ref a0), (1, .int p1)] := hl
  have hM0 := hM
  rw [f_X8_meanError] at hf
  refine lv_aload_n hx hb dX8_meanError_0 rfl (lv_at hl 0 rfl) ?_
  refine lv_iload_n hx hb dX8_meanError_1 rfl (lv_at hl 1 rfl) ?_
  obtain ⟨r2, M3, e_1, hf⟩ := xb_r hf
  refine c_Vr hx hb hml hown hts hV hK hM hS (As := [.int p1]) (rest := []) (k_X8_voiceOf G hG l a0 h0 p1 M e_1) w_X8_voiceOf (tk_306 hts) (c_9 h0) rfl rfl ⟨⟨rfl, rfl⟩, Nat.le_of_ble_eq_true rfl, Nat.le_of_ble_eq_true rfl⟩ ⟨Nat.zero_le _, Nat.zero_le _⟩ rfl hl.1 rfl (Nat.le_of_ble_eq_true rfl) dX8_meanError_2 (fun H locs hM hS => ?_)
  have h_r2 := kr_X8_voiceOf hG a0 h0 p1 e_1
  refine s_getN hx hb (lay_7 hts) hown hK hM (c_8 h_r2) rfl 1 (by decide) rfl rfl (tk_212 hts) dX8_meanError_5 ?_
  obtain ⟨r5, e_4, hf⟩ := vb_e hf
  refine c_Vd hx hb hml hown hts hV hK hM hS (As := []) (rest := []) (k_X1_meanOfErrors G hG l (r2 + 9) (ky_8_1 hG h_r2) M3 e_4) w_X1_meanOfErrors (tk_478 hts) (c_2 (ky_8_1 hG h_r2)) rfl rfl ⟨⟨rfl, rfl⟩, Nat.le_of_ble_eq_true rfl, Nat.le_of_ble_eq_true rfl⟩ ⟨Nat.zero_le _, Nat.zero_le _⟩ rfl hl.1 rfl (Nat.le_of_ble_eq_true rfl) dX8_meanError_8 (fun H locs hM hS => ?_)
  exact ef_dx hx hb hr hlocks hM hS hf dX8_meanError_11
def f_X8_shareOfLost (a0 : Nat) (M : Mem) : Option UInt32 := vb (f_X8_sumOver a0 2 M) fun r2 => if r2 ≤ 0 then (some FP.fconst0) else (vb (f_X8_sumOver a0 4 M) fun r5 => gd ((FP.fdiv (FP.i2f r5) (FP.i2f r2)) &&& 0x7fffffff ≤ 0x7f800000) <| some (FP.fdiv (FP.i2f r5) (FP.i2f r2)))
set_option maxHeartbeats 4000000 in
set_option maxRecDepth 100000 in
theorem k_X8_shareOfLost (G : Gt) (hG : gOK G) (l : Launch) (a0 : Nat) (h0 : gK G a0 = 9) (M : Mem) {r : UInt32} (hf : f_X8_shareOfLost a0 M = some r) : Kc G l yX8_shareOfLost cX8_shareOfLost 2 (some .float) ({ frames := 2, cells := 0, slots := 0, locals := 44 } : Room) [.ref a0] M (some (.float r)) M := by
  refine start (by decide) (Nat.le_of_ble_eq_true rfl) ?_
  intro p e s m args below meth c ls hx hb hr hown hml hlocks hts hV hM hl
  have hown : s.vm.findClass "FoldedVoices" = some m.cls := hown
  have hK := hG.1.moved hV
  have hS : va_S (gA G) s.heap s.heap [] := va_S.rf
  have hl : lv_has ls 2 [(0, .ref a0)] := hl
  have hM0 := hM
  rw [f_X8_shareOfLost] at hf
  refine lv_aload_n hx hb dX8_shareOfLost_0 rfl (lv_at hl 0 rfl) ?_
  refine lv_iconst (v := 2) hx hb dX8_shareOfLost_1 (by decide) ?_
  obtain ⟨r2, e_1, hf⟩ := vb_e hf
  refine c_Vi hx hb hml hown hts hV hK hM hS (As := [.int 2]) (rest := []) (k_X8_sumOver G hG l a0 h0 2 M e_1) w_X8_sumOver (tk_578 hts) (c_9 h0) rfl rfl ⟨⟨rfl, rfl⟩, Nat.le_of_ble_eq_true rfl, Nat.le_of_ble_eq_true rfl⟩ ⟨Nat.zero_le _, Nat.zero_le _⟩ rfl hl.1 rfl (Nat.le_of_ble_eq_true rfl) dX8_shareOfLost_2 (fun H locs hM hS => ?_)
  refine lv_istore_n (lv' := [(1, .int r2), (0, .ref a0)]) hx hb dX8_shareOfLost_5 rfl hl (by decide) rfl (fun ls hl => ?_)
  refine lv_iload_n hx hb dX8_shareOfLost_6 rfl (lv_at hl 0 rfl) ?_
  refine lv_if_le (tgt := 22) hx hb dX8_shareOfLost_7 (by decide) (fun g_3 => ?_) (fun g_3 => ?_)
  · rw [if_pos g_3] at hf
    refine lv_fconst0 hx hb dX8_shareOfLost_22 ?_
    exact ef_fp hx hb hr hlocks hM hS hf dX8_shareOfLost_23
  · rw [if_neg g_3] at hf
    refine lv_aload_n hx hb dX8_shareOfLost_10 rfl (lv_at hl 1 rfl) ?_
    refine lv_iconst (v := 4) hx hb dX8_shareOfLost_11 (by decide) ?_
    obtain ⟨r5, e_4, hf⟩ := vb_e hf
    refine c_Vi hx hb hml hown hts hV hK hM hS (As := [.int 4]) (rest := []) (k_X8_sumOver G hG l a0 h0 4 M e_4) w_X8_sumOver (tk_578 hts) (c_9 h0) rfl rfl ⟨⟨rfl, rfl⟩, Nat.le_of_ble_eq_true rfl, Nat.le_of_ble_eq_true rfl⟩ ⟨Nat.zero_le _, Nat.zero_le _⟩ rfl hl.1 rfl (Nat.le_of_ble_eq_true rfl) dX8_shareOfLost_12 (fun H locs hM hS => ?_)
    refine lv_i2f hx hb dX8_shareOfLost_15 ?_
    refine lv_iload_n hx hb dX8_shareOfLost_16 rfl (lv_at hl 0 rfl) ?_
    refine lv_i2f hx hb dX8_shareOfLost_17 ?_
    obtain ⟨h_6, hf⟩ := gd_e hf
    refine lv_fdiv hx hb dX8_shareOfLost_18 h_6 ?_
    refine lv_goto (tgt := 23) hx hb dX8_shareOfLost_19 (by decide) ?_
    exact ef_fp hx hb hr hlocks hM hS hf dX8_shareOfLost_23
def f_X8_lostShare (a0 : Nat) (M : Mem) : Option UInt32 := vb (f_X8_shareOfLost a0 M) fun r2 => some r2
set_option maxHeartbeats 4000000 in
set_option maxRecDepth 100000 in
theorem k_X8_lostShare (G : Gt) (hG : gOK G) (l : Launch) (a0 : Nat) (h0 : gK G a0 = 9) (M : Mem) {r : UInt32} (hf : f_X8_lostShare a0 M = some r) : Kc G l yX8_lostShare cX8_lostShare 1 (some .float) ({ frames := 3, cells := 0, slots := 0, locals := 65 } : Room) [.ref a0] M (some (.float r)) M := by
  refine start (by decide) (Nat.le_of_ble_eq_true rfl) ?_
  intro p e s m args below meth c ls hx hb hr hown hml hlocks hts hV hM hl
  have hown : s.vm.findClass "FoldedVoices" = some m.cls := hown
  have hK := hG.1.moved hV
  have hS : va_S (gA G) s.heap s.heap [] := va_S.rf
  have hl : lv_has ls 1 [(0, .ref a0)] := hl
  have hM0 := hM
  rw [f_X8_lostShare] at hf
  refine lv_aload_n hx hb dX8_lostShare_0 rfl (lv_at hl 0 rfl) ?_
  obtain ⟨r2, e_1, hf⟩ := vb_e hf
  refine c_Vf hx hb hml hown hts hV hK hM hS (As := []) (rest := []) (k_X8_shareOfLost G hG l a0 h0 M e_1) w_X8_shareOfLost (tk_602 hts) (c_9 h0) rfl rfl ⟨⟨rfl, rfl⟩, Nat.le_of_ble_eq_true rfl, Nat.le_of_ble_eq_true rfl⟩ ⟨Nat.zero_le _, Nat.zero_le _⟩ rfl hl.1 rfl (Nat.le_of_ble_eq_true rfl) dX8_lostShare_1 (fun H locs hM hS => ?_)
  exact ef_fp hx hb hr hlocks hM hS hf dX8_lostShare_4
