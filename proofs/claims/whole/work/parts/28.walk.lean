def f_X9_nearestCode_b49 (a0 : Nat) (p1 : Int32) (p2 : Int32) (p3 : Int32) (k6 : Int32 → Int32 → Mem → Option Int32) (x5 : Int32) (xs0 : Int32) (M : Mem) : Option Int32 := nb (x5 + 1) fun y1 => k6 xs0 y1 M
def f_X9_nearestCode_b6 (a0 : Nat) (p1 : Int32) (p2 : Int32) (p3 : Int32) : Nat → Int32 → Int32 → Mem → Option Int32
  | 0, _, _, _ => none
  | n + 1, x4, x5, M => if (16 : Int32) ≤ x5 then (some x4) else (vb (f_X9_guessBehind a0 p1 p2 x5 M) fun r4 => vb (f_X9_size (r4 - p3) M) fun r6 => vb (f_X9_guessBehind a0 p1 p2 x4 M) fun r8 => vb (f_X9_size (r8 - p3) M) fun r10 => if r10 ≤ r6 then (f_X9_nearestCode_b49 a0 p1 p2 p3 (f_X9_nearestCode_b6 a0 p1 p2 p3 n) x5 x4 M) else (f_X9_nearestCode_b49 a0 p1 p2 p3 (f_X9_nearestCode_b6 a0 p1 p2 p3 n) x5 x5 M))
def f_X9_nearestCode (a0 : Nat) (p1 : Int32) (p2 : Int32) (p3 : Int32) (M : Mem) : Option Int32 := f_X9_nearestCode_b6 a0 p1 p2 p3 lfuel 0 1 M
set_option maxHeartbeats 4000000 in
set_option maxRecDepth 100000 in
theorem k_X9_nearestCode (G : Gt) (hG : gOK G) (l : Launch) (a0 : Nat) (h0 : gK G a0 = 10) (p1 : Int32) (p2 : Int32) (p3 : Int32) (M : Mem) {r : Int32} (hf : f_X9_nearestCode a0 p1 p2 p3 M = some r) : Kc G l yX9_nearestCode cX9_nearestCode 6 (some .int) ({ frames := 1, cells := 0, slots := 0, locals := 26 } : Room) [.ref a0, .int p1, .int p2, .int p3] M (some (.int r)) M := by
  refine start (by decide) (Nat.le_of_ble_eq_true rfl) ?_
  intro p e s m args below meth c ls hx hb hr hown hml hlocks hts hV hM hl
  have hown : s.vm.findClass "FoldedVoicesModel" = some m.cls := hown
  have hK := hG.1.moved hV
  have hS : va_S (gA G) s.heap s.heap [] := va_S.rf
  have hl : lv_has ls 6 [(0, .ref a0), (1, .int p1), (2, .int p2), (3, .int p3)] := hl
  have hM0 := hM
  have b49 : ∀ (k6 : Int32 → Int32 → Mem → Option Int32), (∀ (x4 : Int32) (x5 : Int32) (M : Mem) (H : Heap) (locs : List Loc) (ls : Array Slot), Mh G M H → va_S (gA G) s.heap H locs → lv_has ls 6 [(0, .ref a0), (1, .int p1), (2, .int p2), (3, .int p3), (4, .int x4), (5, .int x5)] → k6 x4 x5 M = some r → W p l e ({ frames := 1, cells := 0, slots := 0, locals := 26 } : Room) s m args below meth c H locs 0 0 (MQ below (QV G (some (.int r)) M) args s 0 0 (gA G)) (F0 m 6 ls [])) → ∀ (x5 : Int32) (xs0 : Int32) (M : Mem) (H : Heap) (locs : List Loc) (ls : Array Slot), Mh G M H → va_S (gA G) s.heap H locs → lv_has ls 6 [(0, .ref a0), (1, .int p1), (2, .int p2), (3, .int p3), (5, .int x5)] → f_X9_nearestCode_b49 a0 p1 p2 p3 k6 x5 xs0 M = some r → W p l e ({ frames := 1, cells := 0, slots := 0, locals := 26 } : Room) s m args below meth c H locs 0 0 (MQ below (QV G (some (.int r)) M) args s 0 0 (gA G)) (F0 m 49 ls [.int xs0]) := by
    intro k6 hk6
    intro x5 xs0 M H locs ls hM hS hl hf
    rw [f_X9_nearestCode_b49] at hf
    refine lv_istore (lv' := [(4, .int xs0), (0, .ref a0), (1, .int p1), (2, .int p2), (3, .int p3), (5, .int x5)]) hx hb dX9_nearestCode_49 hl (by decide) rfl (fun ls hl => ?_)
    obtain ⟨y1, ey1, hf⟩ := nb_e hf
    refine lv_iinc (v := y1) (lv' := [(5, .int y1), (4, .int xs0), (0, .ref a0), (1, .int p1), (2, .int p2), (3, .int p3)]) hx hb dX9_nearestCode_51 hl (k := 5) rfl (by rw [← ey1]; rfl) (by decide) rfl (fun ls hl => ?_)
    refine lv_goto (tgt := 6) hx hb dX9_nearestCode_54 (by decide) ?_
    exact hk6 xs0 y1 _ H locs ls hM hS (lv_sub hl [2, 3, 4, 5, 1, 0] rfl) hf
  have b6 : ∀ (n : Nat), ∀ (x4 : Int32) (x5 : Int32) (M : Mem) (H : Heap) (locs : List Loc) (ls : Array Slot), Mh G M H → va_S (gA G) s.heap H locs → lv_has ls 6 [(0, .ref a0), (1, .int p1), (2, .int p2), (3, .int p3), (4, .int x4), (5, .int x5)] → f_X9_nearestCode_b6 a0 p1 p2 p3 n x4 x5 M = some r → W p l e ({ frames := 1, cells := 0, slots := 0, locals := 26 } : Room) s m args below meth c H locs 0 0 (MQ below (QV G (some (.int r)) M) args s 0 0 (gA G)) (F0 m 6 ls []) := by
    intro n
    induction n with
    | zero =>
      intro x4 x5 M H locs ls hM hS hl hf
      rw [f_X9_nearestCode_b6] at hf
      cases hf
    | succ n ih =>
      intro x4 x5 M H locs ls hM hS hl hf
      rw [f_X9_nearestCode_b6] at hf
      refine lv_iload hx hb dX9_nearestCode_6 (lv_at hl 5 rfl) ?_
      refine lv_bipush (v := 16) hx hb dX9_nearestCode_8 (by decide) ?_
      refine lv_icmp_ge (tgt := 57) hx hb dX9_nearestCode_10 (by decide) (fun g_2 => ?_) (fun g_2 => ?_)
      · rw [if_pos g_2] at hf
        refine lv_iload hx hb dX9_nearestCode_57 (lv_at hl 4 rfl) ?_
        exact ef_ip hx hb hr hlocks hM hS hf dX9_nearestCode_59
      · rw [if_neg g_2] at hf
        refine lv_aload_n hx hb dX9_nearestCode_13 rfl (lv_at hl 0 rfl) ?_
        refine lv_iload_n hx hb dX9_nearestCode_14 rfl (lv_at hl 1 rfl) ?_
        refine lv_iload_n hx hb dX9_nearestCode_15 rfl (lv_at hl 2 rfl) ?_
        refine lv_iload hx hb dX9_nearestCode_16 (lv_at hl 5 rfl) ?_
        obtain ⟨r4, e_3, hf⟩ := vb_e hf
        refine c_Vi hx hb hml hown hts hV hK hM hS (As := [.int p1, .int p2, .int x5]) (rest := []) (k_X9_guessBehind G hG l a0 h0 p1 p2 x5 M e_3) w_X9_guessBehind (tk_1076 hts) (c_10 h0) rfl rfl ⟨⟨rfl, rfl⟩, Nat.le_of_ble_eq_true rfl, Nat.le_of_ble_eq_true rfl⟩ ⟨Nat.zero_le _, Nat.zero_le _⟩ rfl hl.1 rfl (Nat.le_of_ble_eq_true rfl) dX9_nearestCode_18 (fun H locs hM hS => ?_)
        refine lv_iload_n hx hb dX9_nearestCode_21 rfl (lv_at hl 3 rfl) ?_
        refine lv_isub hx hb dX9_nearestCode_22 ?_
        obtain ⟨r6, e_5, hf⟩ := vb_e hf
        refine c_Si hx hb hml hown hts hV hM hS (As := [.int (r4 - p3)]) (rest := []) (k_X9_size G hG l (r4 - p3) M e_5) w_X9_size (tk_1061 hts) ⟨⟨rfl, rfl⟩, Nat.le_of_ble_eq_true rfl, Nat.le_of_ble_eq_true rfl⟩ ⟨Nat.zero_le _, Nat.zero_le _⟩ rfl hl.1 rfl (Nat.le_of_ble_eq_true rfl) dX9_nearestCode_23 (fun H locs hM hS => ?_)
        refine lv_aload_n hx hb dX9_nearestCode_26 rfl (lv_at hl 0 rfl) ?_
        refine lv_iload_n hx hb dX9_nearestCode_27 rfl (lv_at hl 1 rfl) ?_
        refine lv_iload_n hx hb dX9_nearestCode_28 rfl (lv_at hl 2 rfl) ?_
        refine lv_iload hx hb dX9_nearestCode_29 (lv_at hl 4 rfl) ?_
        obtain ⟨r8, e_7, hf⟩ := vb_e hf
        refine c_Vi hx hb hml hown hts hV hK hM hS (As := [.int p1, .int p2, .int x4]) (rest := [.int r6]) (k_X9_guessBehind G hG l a0 h0 p1 p2 x4 M e_7) w_X9_guessBehind (tk_1076 hts) (c_10 h0) rfl rfl ⟨⟨rfl, rfl⟩, Nat.le_of_ble_eq_true rfl, Nat.le_of_ble_eq_true rfl⟩ ⟨Nat.zero_le _, Nat.zero_le _⟩ rfl hl.1 rfl (Nat.le_of_ble_eq_true rfl) dX9_nearestCode_31 (fun H locs hM hS => ?_)
        refine lv_iload_n hx hb dX9_nearestCode_34 rfl (lv_at hl 3 rfl) ?_
        refine lv_isub hx hb dX9_nearestCode_35 ?_
        obtain ⟨r10, e_9, hf⟩ := vb_e hf
        refine c_Si hx hb hml hown hts hV hM hS (As := [.int (r8 - p3)]) (rest := [.int r6]) (k_X9_size G hG l (r8 - p3) M e_9) w_X9_size (tk_1061 hts) ⟨⟨rfl, rfl⟩, Nat.le_of_ble_eq_true rfl, Nat.le_of_ble_eq_true rfl⟩ ⟨Nat.zero_le _, Nat.zero_le _⟩ rfl hl.1 rfl (Nat.le_of_ble_eq_true rfl) dX9_nearestCode_36 (fun H locs hM hS => ?_)
        refine lv_icmp_ge (tgt := 47) hx hb dX9_nearestCode_39 (by decide) (fun g_11 => ?_) (fun g_11 => ?_)
        · rw [if_pos g_11] at hf
          refine lv_iload hx hb dX9_nearestCode_47 (lv_at hl 4 rfl) ?_
          exact b49 _ ih x5 x4 _ H locs ls hM hS (lv_sub hl [0, 1, 2, 3, 5] rfl) hf
        · rw [if_neg g_11] at hf
          refine lv_iload hx hb dX9_nearestCode_42 (lv_at hl 5 rfl) ?_
          refine lv_goto (tgt := 49) hx hb dX9_nearestCode_44 (by decide) ?_
          exact b49 _ ih x5 x5 _ H locs ls hM hS (lv_sub hl [0, 1, 2, 3, 5] rfl) hf
  rw [f_X9_nearestCode] at hf
  obtain ⟨H, hHe⟩ : ∃ H, H = s.heap := ⟨_, rfl⟩
  obtain ⟨locs, hLe⟩ : ∃ L : List Loc, L = [] := ⟨_, rfl⟩
  rw [← hHe] at hM
  have hS : va_S (gA G) s.heap H locs := by rw [hHe, hLe]; exact va_S.rf
  suffices hW : W p l e ({ frames := 1, cells := 0, slots := 0, locals := 26 } : Room) s m args below meth c H locs 0 0 (MQ below (QV G (some (.int r)) M) args s 0 0 (gA G)) (F0 m 0 ls []) by rw [hHe, hLe] at hW; exact hW
  refine lv_iconst (v := 0) hx hb dX9_nearestCode_0 (by decide) ?_
  refine lv_istore (lv' := [(4, .int 0), (0, .ref a0), (1, .int p1), (2, .int p2), (3, .int p3)]) hx hb dX9_nearestCode_1 hl (by decide) rfl (fun ls hl => ?_)
  refine lv_iconst (v := 1) hx hb dX9_nearestCode_3 (by decide) ?_
  refine lv_istore (lv' := [(5, .int 1), (4, .int 0), (0, .ref a0), (1, .int p1), (2, .int p2), (3, .int p3)]) hx hb dX9_nearestCode_4 hl (by decide) rfl (fun ls hl => ?_)
  exact b6 _ 0 1 _ H locs ls hM hS (lv_sub hl [2, 3, 4, 5, 1, 0] rfl) hf
def f_X9_ofCode (a0 : Nat) (p1 : Int32) (p2 : Int32) (p3 : Int32) (M : Mem) : Option Int32 := vb (f_X9_of a0 p1 0 M) fun r2 => vb (f_X9_of a0 p1 1 M) fun r4 => vb (f_X9_codeOf a0 p2 r2 r4 M) fun r6 => if p3 = 0 then (some r6) else (if p3 = 1 then (vb (f_X9_guessBehind a0 r2 r4 r6 M) fun r10 => some r10) else (if p3 = 2 then (vb (f_X9_indexBehind r4 r6 M) fun r13 => some r13) else (if p3 = 3 then (vb (f_X9_nearestCode a0 r2 r4 p2 M) fun r16 => some r16) else (vb (f_X9_nearestCode a0 r2 r4 p2 M) fun r18 => vb (f_X9_guessBehind a0 r2 r4 r18 M) fun r20 => some r20))))
set_option maxHeartbeats 4000000 in
set_option maxRecDepth 100000 in
theorem k_X9_ofCode (G : Gt) (hG : gOK G) (l : Launch) (a0 : Nat) (h0 : gK G a0 = 10) (p1 : Int32) (p2 : Int32) (p3 : Int32) (M : Mem) {r : Int32} (hf : f_X9_ofCode a0 p1 p2 p3 M = some r) : Kc G l yX9_ofCode cX9_ofCode 7 (some .int) ({ frames := 2, cells := 0, slots := 0, locals := 51 } : Room) [.ref a0, .int p1, .int p2, .int p3] M (some (.int r)) M := by
  refine start (by decide) (Nat.le_of_ble_eq_true rfl) ?_
  intro p e s m args below meth c ls hx hb hr hown hml hlocks hts hV hM hl
  have hown : s.vm.findClass "FoldedVoicesModel" = some m.cls := hown
  have hK := hG.1.moved hV
  have hS : va_S (gA G) s.heap s.heap [] := va_S.rf
  have hl : lv_has ls 7 [(0, .ref a0), (1, .int p1), (2, .int p2), (3, .int p3)] := hl
  have hM0 := hM
  rw [f_X9_ofCode] at hf
  refine lv_aload_n hx hb dX9_ofCode_0 rfl (lv_at hl 0 rfl) ?_
  refine lv_iload_n hx hb dX9_ofCode_1 rfl (lv_at hl 1 rfl) ?_
  refine lv_iconst (v := 0) hx hb dX9_ofCode_2 (by decide) ?_
  obtain ⟨r2, e_1, hf⟩ := vb_e hf
  refine c_Vi hx hb hml hown hts hV hK hM hS (As := [.int p1, .int 0]) (rest := []) (k_X9_of G hG l a0 h0 p1 0 M e_1) w_X9_of (tk_1037 hts) (c_10 h0) rfl rfl ⟨⟨rfl, rfl⟩, Nat.le_of_ble_eq_true rfl, Nat.le_of_ble_eq_true rfl⟩ ⟨Nat.zero_le _, Nat.zero_le _⟩ rfl hl.1 rfl (Nat.le_of_ble_eq_true rfl) dX9_ofCode_3 (fun H locs hM hS => ?_)
  refine lv_istore (lv' := [(4, .int r2), (0, .ref a0), (1, .int p1), (2, .int p2), (3, .int p3)]) hx hb dX9_ofCode_6 hl (by decide) rfl (fun ls hl => ?_)
  refine lv_aload_n hx hb dX9_ofCode_8 rfl (lv_at hl 1 rfl) ?_
  refine lv_iload_n hx hb dX9_ofCode_9 rfl (lv_at hl 2 rfl) ?_
  refine lv_iconst (v := 1) hx hb dX9_ofCode_10 (by decide) ?_
  obtain ⟨r4, e_3, hf⟩ := vb_e hf
  refine c_Vi hx hb hml hown hts hV hK hM hS (As := [.int p1, .int 1]) (rest := []) (k_X9_of G hG l a0 h0 p1 1 M e_3) w_X9_of (tk_1037 hts) (c_10 h0) rfl rfl ⟨⟨rfl, rfl⟩, Nat.le_of_ble_eq_true rfl, Nat.le_of_ble_eq_true rfl⟩ ⟨Nat.zero_le _, Nat.zero_le _⟩ rfl hl.1 rfl (Nat.le_of_ble_eq_true rfl) dX9_ofCode_11 (fun H locs hM hS => ?_)
  refine lv_istore (lv' := [(5, .int r4), (4, .int r2), (0, .ref a0), (1, .int p1), (2, .int p2), (3, .int p3)]) hx hb dX9_ofCode_14 hl (by decide) rfl (fun ls hl => ?_)
  refine lv_aload_n hx hb dX9_ofCode_16 rfl (lv_at hl 2 rfl) ?_
  refine lv_iload_n hx hb dX9_ofCode_17 rfl (lv_at hl 4 rfl) ?_
  refine lv_iload hx hb dX9_ofCode_18 (lv_at hl 1 rfl) ?_
  refine lv_iload hx hb dX9_ofCode_20 (lv_at hl 0 rfl) ?_
  obtain ⟨r6, e_5, hf⟩ := vb_e hf
  refine c_Vi hx hb hml hown hts hV hK hM hS (As := [.int p2, .int r2, .int r4]) (rest := []) (k_X9_codeOf G hG l a0 h0 p2 r2 r4 M e_5) w_X9_codeOf (tk_1068 hts) (c_10 h0) rfl rfl ⟨⟨rfl, rfl⟩, Nat.le_of_ble_eq_true rfl, Nat.le_of_ble_eq_true rfl⟩ ⟨Nat.zero_le _, Nat.zero_le _⟩ rfl hl.1 rfl (Nat.le_of_ble_eq_true rfl) dX9_ofCode_22 (fun H locs hM hS => ?_)
  refine lv_istore (lv' := [(6, .int r6), (5, .int r4), (4, .int r2), (0, .ref a0), (1, .int p1), (2, .int p2), (3, .int p3)]) hx hb dX9_ofCode_25 hl (by decide) rfl (fun ls hl => ?_)
  refine lv_iload_n hx hb dX9_ofCode_27 rfl (lv_at hl 6 rfl) ?_
  by_cases g_7 : p3 = 0
  · rw [if_pos g_7] at hf
    refine lv_tableIn (off := 32) (tgt := 60) hx hb dX9_ofCode_28 (by rw [g_7]; decide) (by rw [g_7]; decide) (by rw [g_7]; rfl) (by decide) ?_
    refine lv_iload hx hb dX9_ofCode_60 (lv_at hl 0 rfl) ?_
    exact ef_ip hx hb hr hlocks hM hS hf dX9_ofCode_62
  rw [if_neg g_7] at hf
  by_cases g_8 : p3 = 1
  · rw [if_pos g_8] at hf
    refine lv_tableIn (off := 35) (tgt := 63) hx hb dX9_ofCode_28 (by rw [g_8]; decide) (by rw [g_8]; decide) (by rw [g_8]; rfl) (by decide) ?_
    refine lv_aload_n hx hb dX9_ofCode_63 rfl (lv_at hl 3 rfl) ?_
    refine lv_iload hx hb dX9_ofCode_64 (lv_at hl 2 rfl) ?_
    refine lv_iload hx hb dX9_ofCode_66 (lv_at hl 1 rfl) ?_
    refine lv_iload hx hb dX9_ofCode_68 (lv_at hl 0 rfl) ?_
    obtain ⟨r10, e_9, hf⟩ := vb_e hf
    refine c_Vi hx hb hml hown hts hV hK hM hS (As := [.int r2, .int r4, .int r6]) (rest := []) (k_X9_guessBehind G hG l a0 h0 r2 r4 r6 M e_9) w_X9_guessBehind (tk_1076 hts) (c_10 h0) rfl rfl ⟨⟨rfl, rfl⟩, Nat.le_of_ble_eq_true rfl, Nat.le_of_ble_eq_true rfl⟩ ⟨Nat.zero_le _, Nat.zero_le _⟩ rfl hl.1 rfl (Nat.le_of_ble_eq_true rfl) dX9_ofCode_70 (fun H locs hM hS => ?_)
    exact ef_ip hx hb hr hlocks hM hS hf dX9_ofCode_73
  rw [if_neg g_8] at hf
  by_cases g_11 : p3 = 2
  · rw [if_pos g_11] at hf
    refine lv_tableIn (off := 46) (tgt := 74) hx hb dX9_ofCode_28 (by rw [g_11]; decide) (by rw [g_11]; decide) (by rw [g_11]; rfl) (by decide) ?_
    refine lv_iload hx hb dX9_ofCode_74 (lv_at hl 1 rfl) ?_
    refine lv_iload hx hb dX9_ofCode_76 (lv_at hl 0 rfl) ?_
    obtain ⟨r13, e_12, hf⟩ := vb_e hf
    refine c_Si hx hb hml hown hts hV hM hS (As := [.int r4, .int r6]) (rest := []) (k_X9_indexBehind G hG l r4 r6 M e_12) w_X9_indexBehind (tk_1080 hts) ⟨⟨rfl, rfl⟩, Nat.le_of_ble_eq_true rfl, Nat.le_of_ble_eq_true rfl⟩ ⟨Nat.zero_le _, Nat.zero_le _⟩ rfl hl.1 rfl (Nat.le_of_ble_eq_true rfl) dX9_ofCode_78 (fun H locs hM hS => ?_)
    exact ef_ip hx hb hr hlocks hM hS hf dX9_ofCode_81
  rw [if_neg g_11] at hf
  by_cases g_14 : p3 = 3
  · rw [if_pos g_14] at hf
    refine lv_tableIn (off := 54) (tgt := 82) hx hb dX9_ofCode_28 (by rw [g_14]; decide) (by rw [g_14]; decide) (by rw [g_14]; rfl) (by decide) ?_
    refine lv_aload_n hx hb dX9_ofCode_82 rfl (lv_at hl 3 rfl) ?_
    refine lv_iload hx hb dX9_ofCode_83 (lv_at hl 2 rfl) ?_
    refine lv_iload hx hb dX9_ofCode_85 (lv_at hl 1 rfl) ?_
    refine lv_iload_n hx hb dX9_ofCode_87 rfl (lv_at hl 5 rfl) ?_
    obtain ⟨r16, e_15, hf⟩ := vb_e hf
    refine c_Vi hx hb hml hown hts hV hK hM hS (As := [.int r2, .int r4, .int p2]) (rest := []) (k_X9_nearestCode G hG l a0 h0 r2 r4 p2 M e_15) w_X9_nearestCode (tk_1273 hts) (c_10 h0) rfl rfl ⟨⟨rfl, rfl⟩, Nat.le_of_ble_eq_true rfl, Nat.le_of_ble_eq_true rfl⟩ ⟨Nat.zero_le _, Nat.zero_le _⟩ rfl hl.1 rfl (Nat.le_of_ble_eq_true rfl) dX9_ofCode_88 (fun H locs hM hS => ?_)
    exact ef_ip hx hb hr hlocks hM hS hf dX9_ofCode_91
  rw [if_neg g_14] at hf
  have tg_7 := lv_neT g_7 (show (0 : Int32).toInt = 0 from by decide)
  have tg_8 := lv_neT g_8 (show (1 : Int32).toInt = 1 from by decide)
  have tg_11 := lv_neT g_11 (show (2 : Int32).toInt = 2 from by decide)
  have tg_14 := lv_neT g_14 (show (3 : Int32).toInt = 3 from by decide)
  refine lv_tableOut (tgt := 92) hx hb dX9_ofCode_28 (by omega) (by decide) ?_
  refine lv_aload_n hx hb dX9_ofCode_92 rfl (lv_at hl 3 rfl) ?_
  refine lv_iload hx hb dX9_ofCode_93 (lv_at hl 2 rfl) ?_
  refine lv_iload hx hb dX9_ofCode_95 (lv_at hl 1 rfl) ?_
  refine lv_aload_n hx hb dX9_ofCode_97 rfl (lv_at hl 3 rfl) ?_
  refine lv_iload hx hb dX9_ofCode_98 (lv_at hl 2 rfl) ?_
  refine lv_iload hx hb dX9_ofCode_100 (lv_at hl 1 rfl) ?_
  refine lv_iload_n hx hb dX9_ofCode_102 rfl (lv_at hl 5 rfl) ?_
  obtain ⟨r18, e_17, hf⟩ := vb_e hf
  refine c_Vi hx hb hml hown hts hV hK hM hS (As := [.int r2, .int r4, .int p2]) (rest := [.int r4, .int r2, .ref a0]) (k_X9_nearestCode G hG l a0 h0 r2 r4 p2 M e_17) w_X9_nearestCode (tk_1273 hts) (c_10 h0) rfl rfl ⟨⟨rfl, rfl⟩, Nat.le_of_ble_eq_true rfl, Nat.le_of_ble_eq_true rfl⟩ ⟨Nat.zero_le _, Nat.zero_le _⟩ rfl hl.1 rfl (Nat.le_of_ble_eq_true rfl) dX9_ofCode_103 (fun H locs hM hS => ?_)
  obtain ⟨r20, e_19, hf⟩ := vb_e hf
  refine c_Vi hx hb hml hown hts hV hK hM hS (As := [.int r2, .int r4, .int r18]) (rest := []) (k_X9_guessBehind G hG l a0 h0 r2 r4 r18 M e_19) w_X9_guessBehind (tk_1076 hts) (c_10 h0) rfl rfl ⟨⟨rfl, rfl⟩, Nat.le_of_ble_eq_true rfl, Nat.le_of_ble_eq_true rfl⟩ ⟨Nat.zero_le _, Nat.zero_le _⟩ rfl hl.1 rfl (Nat.le_of_ble_eq_true rfl) dX9_ofCode_106 (fun H locs hM hS => ?_)
  exact ef_ip hx hb hr hlocks hM hS hf dX9_ofCode_109
def f_X9_code_b44 (a0 : Nat) (p1 : Int32) (p2 : Int32) (p3 : Int32) (M : Mem) : Option (Int32 × Mem) := cb (f_X9_fails a0 2 M) fun r2 M3 => some (r2, M3)
def f_X9_code (a0 : Nat) (p1 : Int32) (p2 : Int32) (p3 : Int32) (M : Mem) : Option (Int32 × Mem) := nb (sI M a0 7 0) fun M4 => vb (f_X9_isVoice p1 M4) fun r6 => if r6 = 0 then (cb (f_X9_fails a0 1 M4) fun r17 M18 => some (r17, M18)) else (vb (f_X9_isSample p2 M4) fun r9 => if r9 = 0 then (f_X9_code_b44 a0 p1 p2 p3 M4) else (vb (f_X9_in p3 0 4 M4) fun r12 => if r12 = 0 then (f_X9_code_b44 a0 p1 p2 p3 M4) else (vb (f_X9_ofCode a0 p1 p2 p3 M4) fun r15 => some (r15, M4))))
set_option maxHeartbeats 4000000 in
set_option maxRecDepth 100000 in
theorem k_X9_code (G : Gt) (hG : gOK G) (l : Launch) (a0 : Nat) (h0 : gK G a0 = 10) (p1 : Int32) (p2 : Int32) (p3 : Int32) (M : Mem) {r : Int32} {M' : Mem} (hf : f_X9_code a0 p1 p2 p3 M = some (r, M')) : Kc G l yX9_code cX9_code 4 (some .int) ({ frames := 3, cells := 0, slots := 0, locals := 77 } : Room) [.ref a0, .int p1, .int p2, .int p3] M (some (.int r)) M' := by
  refine start (by decide) (Nat.le_of_ble_eq_true rfl) ?_
  intro p e s m args below meth c ls hx hb hr hown hml hlocks hts hV hM hl
  have hown : s.vm.findClass "FoldedVoicesModel" = some m.cls := hown
  have hK := hG.1.moved hV
  have hS : va_S (gA G) s.heap s.heap [] := va_S.rf
  have hl : lv_has ls 4 [(0, .ref a0), (1, .int p1), (2, .int p2), (3, .int p3)] := hl
  have hM0 := hM
  have b44 : ∀ (M : Mem) (H : Heap) (locs : List Loc) (ls : Array Slot), Mh G M H → va_S (gA G) s.heap H locs → lv_has ls 4 [(0, .ref a0), (1, .int p1), (2, .int p2), (3, .int p3)] → f_X9_code_b44 a0 p1 p2 p3 M = some (r, M') → W p l e ({ frames := 3, cells := 0, slots := 0, locals := 77 } : Room) s m args below meth c H locs 0 0 (MQ below (QV G (some (.int r)) M') args s 0 0 (gA G)) (F0 m 44 ls []) := by
    intro M H locs ls hM hS hl hf
    rw [f_X9_code_b44] at hf
    refine lv_aload_n hx hb dX9_code_44 rfl (lv_at hl 0 rfl) ?_
    refine lv_iconst (v := 2) hx hb dX9_code_45 (by decide) ?_
    obtain ⟨r2, M3, e_1, hf⟩ := cb_e hf
    refine c_Vi hx hb hml hown hts hV hK hM hS (As := [.int 2]) (rest := []) (k_X9_fails G hG l a0 h0 2 M e_1) w_X9_fails (tk_1026 hts) (c_10 h0) rfl rfl ⟨⟨rfl, rfl⟩, Nat.le_of_ble_eq_true rfl, Nat.le_of_ble_eq_true rfl⟩ ⟨Nat.zero_le _, Nat.zero_le _⟩ rfl hl.1 rfl (Nat.le_of_ble_eq_true rfl) dX9_code_46 (fun H locs hM hS => ?_)
    exact ef_im hx hb hr hlocks hM hS hf dX9_code_49
  rw [f_X9_code] at hf
  obtain ⟨H, hHe⟩ : ∃ H, H = s.heap := ⟨_, rfl⟩
  obtain ⟨locs, hLe⟩ : ∃ L : List Loc, L = [] := ⟨_, rfl⟩
  rw [← hHe] at hM
  have hS : va_S (gA G) s.heap H locs := by rw [hHe, hLe]; exact va_S.rf
  suffices hW : W p l e ({ frames := 3, cells := 0, slots := 0, locals := 77 } : Room) s m args below meth c H locs 0 0 (MQ below (QV G (some (.int r)) M') args s 0 0 (gA G)) (F0 m 0 ls []) by rw [hHe, hLe] at hW; exact hW
  refine lv_aload_n hx hb dX9_code_0 rfl (lv_at hl 0 rfl) ?_
  refine lv_iconst (v := 0) hx hb dX9_code_1 (by decide) ?_
  obtain ⟨M4, eM4, hf⟩ := nb_e hf
  refine s_put tyX9 hx hb (lay_9 hts) tyX9_ok nmX9 hown hK hM hS (ky_b hG h0) (c_10 h0) rfl 7 (by decide) rfl rfl rfl (Nat.le_of_ble_eq_true rfl) (cp_9_7 h0) (fun _ h9 => cel_sI _ h9) hM.2.2.sI rfl (tk_970 hts) dX9_code_2 (fun H locs hM hS => ?_)
  rw [eM4] at hM
  refine lv_iload_n hx hb dX9_code_5 rfl (lv_at hl 1 rfl) ?_
  obtain ⟨r6, e_5, hf⟩ := vb_e hf
  refine c_Si hx hb hml hown hts hV hM hS (As := [.int p1]) (rest := []) (k_X9_isVoice G hG l p1 M4 e_5) w_X9_isVoice (tk_1020 hts) ⟨⟨rfl, rfl⟩, Nat.le_of_ble_eq_true rfl, Nat.le_of_ble_eq_true rfl⟩ ⟨Nat.zero_le _, Nat.zero_le _⟩ rfl hl.1 rfl (Nat.le_of_ble_eq_true rfl) dX9_code_6 (fun H locs hM hS => ?_)
  refine lv_if_ne (tgt := 18) hx hb dX9_code_9 (by decide) (fun g_7 => ?_) (fun g_7 => ?_)
  · rw [if_neg g_7] at hf
    refine lv_iload_n hx hb dX9_code_18 rfl (lv_at hl 2 rfl) ?_
    obtain ⟨r9, e_8, hf⟩ := vb_e hf
    refine c_Si hx hb hml hown hts hV hM hS (As := [.int p2]) (rest := []) (k_X9_isSample G hG l p2 M4 e_8) w_X9_isSample (tk_1030 hts) ⟨⟨rfl, rfl⟩, Nat.le_of_ble_eq_true rfl, Nat.le_of_ble_eq_true rfl⟩ ⟨Nat.zero_le _, Nat.zero_le _⟩ rfl hl.1 rfl (Nat.le_of_ble_eq_true rfl) dX9_code_19 (fun H locs hM hS => ?_)
    refine lv_if_eq (tgt := 44) hx hb dX9_code_22 (by decide) (fun g_10 => ?_) (fun g_10 => ?_)
    · rw [if_pos g_10] at hf
      exact b44 _ H locs ls hM hS (lv_sub hl [0, 1, 2, 3] rfl) hf
    · rw [if_neg g_10] at hf
      refine lv_iload_n hx hb dX9_code_25 rfl (lv_at hl 3 rfl) ?_
      refine lv_iconst (v := 0) hx hb dX9_code_26 (by decide) ?_
      refine lv_iconst (v := 4) hx hb dX9_code_27 (by decide) ?_
      obtain ⟨r12, e_11, hf⟩ := vb_e hf
      refine c_Si hx hb hml hown hts hV hM hS (As := [.int p3, .int 0, .int 4]) (rest := []) (k_X9_in G hG l p3 0 4 M4 e_11) w_X9_in (tk_1023 hts) ⟨⟨rfl, rfl⟩, Nat.le_of_ble_eq_true rfl, Nat.le_of_ble_eq_true rfl⟩ ⟨Nat.zero_le _, Nat.zero_le _⟩ rfl hl.1 rfl (Nat.le_of_ble_eq_true rfl) dX9_code_28 (fun H locs hM hS => ?_)
      refine lv_if_eq (tgt := 44) hx hb dX9_code_31 (by decide) (fun g_13 => ?_) (fun g_13 => ?_)
      · rw [if_pos g_13] at hf
        exact b44 _ H locs ls hM hS (lv_sub hl [0, 1, 2, 3] rfl) hf
      · rw [if_neg g_13] at hf
        refine lv_aload_n hx hb dX9_code_34 rfl (lv_at hl 0 rfl) ?_
        refine lv_iload_n hx hb dX9_code_35 rfl (lv_at hl 1 rfl) ?_
        refine lv_iload_n hx hb dX9_code_36 rfl (lv_at hl 2 rfl) ?_
        refine lv_iload_n hx hb dX9_code_37 rfl (lv_at hl 3 rfl) ?_
        obtain ⟨r15, e_14, hf⟩ := vb_e hf
        refine c_Vi hx hb hml hown hts hV hK hM hS (As := [.int p1, .int p2, .int p3]) (rest := []) (k_X9_ofCode G hG l a0 h0 p1 p2 p3 M4 e_14) w_X9_ofCode (tk_1269 hts) (c_10 h0) rfl rfl ⟨⟨rfl, rfl⟩, Nat.le_of_ble_eq_true rfl, Nat.le_of_ble_eq_true rfl⟩ ⟨Nat.zero_le _, Nat.zero_le _⟩ rfl hl.1 rfl (Nat.le_of_ble_eq_true rfl) dX9_code_38 (fun H locs hM hS => ?_)
        refine lv_goto (tgt := 49) hx hb dX9_code_41 (by decide) ?_
        exact ef_im hx hb hr hlocks hM hS hf dX9_code_49
  · rw [if_pos g_7] at hf
    refine lv_aload_n hx hb dX9_code_12 rfl (lv_at hl 0 rfl) ?_
    refine lv_iconst (v := 1) hx hb dX9_code_13 (by decide) ?_
    obtain ⟨r17, M18, e_16, hf⟩ := cb_e hf
    refine c_Vi hx hb hml hown hts hV hK hM hS (As := [.int 1]) (rest := []) (k_X9_fails G hG l a0 h0 1 M4 e_16) w_X9_fails (tk_1026 hts) (c_10 h0) rfl rfl ⟨⟨rfl, rfl⟩, Nat.le_of_ble_eq_true rfl, Nat.le_of_ble_eq_true rfl⟩ ⟨Nat.zero_le _, Nat.zero_le _⟩ rfl hl.1 rfl (Nat.le_of_ble_eq_true rfl) dX9_code_14 (fun H locs hM hS => ?_)
    exact ef_im hx hb hr hlocks hM hS hf dX9_code_17
def f_X9_settledBehind_b19 (a0 : Nat) (p1 : Int32) (p2 : Int32) (p3 : Int32) : Nat → Int32 → Int32 → Int32 → Mem → Option Int32
  | 0, _, _, _, _ => none
  | n + 1, x4, x5, x6, M => if (60 : Int32) < x6 then (some (-10000)) else (vb (f_X9_size (x4 - p2) M) fun r3 => if p3 ≤ r3 then (vb (f_X9_codeOf a0 p2 x4 x5 M) fun r6 => vb (f_X9_guessBehind a0 x4 x5 r6 M) fun r8 => vb (f_X9_indexBehind x5 r6 M) fun r10 => nb (x6 + 1) fun y11 => f_X9_settledBehind_b19 a0 p1 p2 p3 n r8 r10 y11 M) else (some x6))
def f_X9_settledBehind (a0 : Nat) (p1 : Int32) (p2 : Int32) (p3 : Int32) (M : Mem) : Option Int32 := vb (f_X9_of a0 p1 0 M) fun r13 => vb (f_X9_of a0 p1 1 M) fun r15 => f_X9_settledBehind_b19 a0 p1 p2 p3 lfuel r13 r15 0 M
set_option maxHeartbeats 4000000 in
set_option maxRecDepth 100000 in
theorem k_X9_settledBehind (G : Gt) (hG : gOK G) (l : Launch) (a0 : Nat) (h0 : gK G a0 = 10) (p1 : Int32) (p2 : Int32) (p3 : Int32) (M : Mem) {r : Int32} (hf : f_X9_settledBehind a0 p1 p2 p3 M = some r) : Kc G l yX9_settledBehind cX9_settledBehind 8 (some .int) ({ frames := 2, cells := 0, slots := 0, locals := 46 } : Room) [.ref a0, .int p1, .int p2, .int p3] M (some (.int r)) M := by
  refine start (by decide) (Nat.le_of_ble_eq_true rfl) ?_
  intro p e s m args below meth c ls hx hb hr hown hml hlocks hts hV hM hl
  have hown : s.vm.findClass "FoldedVoicesModel" = some m.cls := hown
  have hK := hG.1.moved hV
  have hS : va_S (gA G) s.heap s.heap [] := va_S.rf
  have hl : lv_has ls 8 [(0, .ref a0), (1, .int p1), (2, .int p2), (3, .int p3)] := hl
  have hM0 := hM
  have b19 : ∀ (n : Nat), ∀ (x4 : Int32) (x5 : Int32) (x6 : Int32) (M : Mem) (H : Heap) (locs : List Loc) (ls : Array Slot), Mh G M H → va_S (gA G) s.heap H locs → lv_has ls 8 [(0, .ref a0), (1, .int p1), (2, .int p2), (3, .int p3), (4, .int x4), (5, .int x5), (6, .int x6)] → f_X9_settledBehind_b19 a0 p1 p2 p3 n x4 x5 x6 M = some r → W p l e ({ frames := 2, cells := 0, slots := 0, locals := 46 } : Room) s m args below meth c H locs 0 0 (MQ below (QV G (some (.int r)) M) args s 0 0 (gA G)) (F0 m 19 ls []) := by
    intro n
    induction n with
    | zero =>
      intro x4 x5 x6 M H locs ls hM hS hl hf
      rw [f_X9_settledBehind_b19] at hf
      cases hf
    | succ n ih =>
      intro x4 x5 x6 M H locs ls hM hS hl hf
      rw [f_X9_settledBehind_b19] at hf
      refine lv_iload hx hb dX9_settledBehind_19 (lv_at hl 6 rfl) ?_
      refine lv_bipush (v := 60) hx hb dX9_settledBehind_21 (by decide) ?_
      refine lv_icmp_gt (tgt := 78) hx hb dX9_settledBehind_23 (by decide) (fun g_1 => ?_) (fun g_1 => ?_)
      · rw [if_pos g_1] at hf
        refine lv_sipush (v := (-10000)) hx hb dX9_settledBehind_78 (by decide) ?_
        exact ef_ip hx hb hr hlocks hM hS hf dX9_settledBehind_81
      · rw [if_neg g_1] at hf
        refine lv_iload hx hb dX9_settledBehind_26 (lv_at hl 4 rfl) ?_
        refine lv_iload_n hx hb dX9_settledBehind_28 rfl (lv_at hl 2 rfl) ?_
        refine lv_isub hx hb dX9_settledBehind_29 ?_
        obtain ⟨r3, e_2, hf⟩ := vb_e hf
        refine c_Si hx hb hml hown hts hV hM hS (As := [.int (x4 - p2)]) (rest := []) (k_X9_size G hG l (x4 - p2) M e_2) w_X9_size (tk_1061 hts) ⟨⟨rfl, rfl⟩, Nat.le_of_ble_eq_true rfl, Nat.le_of_ble_eq_true rfl⟩ ⟨Nat.zero_le _, Nat.zero_le _⟩ rfl hl.1 rfl (Nat.le_of_ble_eq_true rfl) dX9_settledBehind_30 (fun H locs hM hS => ?_)
        refine lv_iload_n hx hb dX9_settledBehind_33 rfl (lv_at hl 3 rfl) ?_
        refine lv_icmp_ge (tgt := 40) hx hb dX9_settledBehind_34 (by decide) (fun g_4 => ?_) (fun g_4 => ?_)
        · rw [if_pos g_4] at hf
          refine lv_aload_n hx hb dX9_settledBehind_40 rfl (lv_at hl 0 rfl) ?_
          refine lv_iload_n hx hb dX9_settledBehind_41 rfl (lv_at hl 2 rfl) ?_
          refine lv_iload hx hb dX9_settledBehind_42 (lv_at hl 4 rfl) ?_
          refine lv_iload hx hb dX9_settledBehind_44 (lv_at hl 5 rfl) ?_
          obtain ⟨r6, e_5, hf⟩ := vb_e hf
          refine c_Vi hx hb hml hown hts hV hK hM hS (As := [.int p2, .int x4, .int x5]) (rest := []) (k_X9_codeOf G hG l a0 h0 p2 x4 x5 M e_5) w_X9_codeOf (tk_1068 hts) (c_10 h0) rfl rfl ⟨⟨rfl, rfl⟩, Nat.le_of_ble_eq_true rfl, Nat.le_of_ble_eq_true rfl⟩ ⟨Nat.zero_le _, Nat.zero_le _⟩ rfl hl.1 rfl (Nat.le_of_ble_eq_true rfl) dX9_settledBehind_46 (fun H locs hM hS => ?_)
          refine lv_istore (lv' := [(7, .int r6), (0, .ref a0), (1, .int p1), (2, .int p2), (3, .int p3), (4, .int x4), (5, .int x5), (6, .int x6)]) hx hb dX9_settledBehind_49 hl (by decide) rfl (fun ls hl => ?_)
          refine lv_aload_n hx hb dX9_settledBehind_51 rfl (lv_at hl 1 rfl) ?_
          refine lv_iload hx hb dX9_settledBehind_52 (lv_at hl 5 rfl) ?_
          refine lv_iload hx hb dX9_settledBehind_54 (lv_at hl 6 rfl) ?_
          refine lv_iload hx hb dX9_settledBehind_56 (lv_at hl 0 rfl) ?_
          obtain ⟨r8, e_7, hf⟩ := vb_e hf
          refine c_Vi hx hb hml hown hts hV hK hM hS (As := [.int x4, .int x5, .int r6]) (rest := []) (k_X9_guessBehind G hG l a0 h0 x4 x5 r6 M e_7) w_X9_guessBehind (tk_1076 hts) (c_10 h0) rfl rfl ⟨⟨rfl, rfl⟩, Nat.le_of_ble_eq_true rfl, Nat.le_of_ble_eq_true rfl⟩ ⟨Nat.zero_le _, Nat.zero_le _⟩ rfl hl.1 rfl (Nat.le_of_ble_eq_true rfl) dX9_settledBehind_58 (fun H locs hM hS => ?_)
          refine lv_istore (lv' := [(4, .int r8), (7, .int r6), (0, .ref a0), (1, .int p1), (2, .int p2), (3, .int p3), (5, .int x5), (6, .int x6)]) hx hb dX9_settledBehind_61 hl (by decide) rfl (fun ls hl => ?_)
          refine lv_iload hx hb dX9_settledBehind_63 (lv_at hl 6 rfl) ?_
          refine lv_iload hx hb dX9_settledBehind_65 (lv_at hl 1 rfl) ?_
          obtain ⟨r10, e_9, hf⟩ := vb_e hf
          refine c_Si hx hb hml hown hts hV hM hS (As := [.int x5, .int r6]) (rest := []) (k_X9_indexBehind G hG l x5 r6 M e_9) w_X9_indexBehind (tk_1080 hts) ⟨⟨rfl, rfl⟩, Nat.le_of_ble_eq_true rfl, Nat.le_of_ble_eq_true rfl⟩ ⟨Nat.zero_le _, Nat.zero_le _⟩ rfl hl.1 rfl (Nat.le_of_ble_eq_true rfl) dX9_settledBehind_67 (fun H locs hM hS => ?_)
          refine lv_istore (lv' := [(5, .int r10), (4, .int r8), (7, .int r6), (0, .ref a0), (1, .int p1), (2, .int p2), (3, .int p3), (6, .int x6)]) hx hb dX9_settledBehind_70 hl (by decide) rfl (fun ls hl => ?_)
          obtain ⟨y11, ey11, hf⟩ := nb_e hf
          refine lv_iinc (v := y11) (lv' := [(6, .int y11), (5, .int r10), (4, .int r8), (7, .int r6), (0, .ref a0), (1, .int p1), (2, .int p2), (3, .int p3)]) hx hb dX9_settledBehind_72 hl (k := 7) rfl (by rw [← ey11]; rfl) (by decide) rfl (fun ls hl => ?_)
          refine lv_goto (tgt := 19) hx hb dX9_settledBehind_75 (by decide) ?_
          exact ih r8 r10 y11 _ H locs ls hM hS (lv_sub hl [4, 5, 6, 7, 2, 1, 0] rfl) hf
        · rw [if_neg g_4] at hf
          refine lv_iload hx hb dX9_settledBehind_37 (lv_at hl 6 rfl) ?_
          exact ef_ip hx hb hr hlocks hM hS hf dX9_settledBehind_39
  rw [f_X9_settledBehind] at hf
  obtain ⟨H, hHe⟩ : ∃ H, H = s.heap := ⟨_, rfl⟩
  obtain ⟨locs, hLe⟩ : ∃ L : List Loc, L = [] := ⟨_, rfl⟩
  rw [← hHe] at hM
  have hS : va_S (gA G) s.heap H locs := by rw [hHe, hLe]; exact va_S.rf
  suffices hW : W p l e ({ frames := 2, cells := 0, slots := 0, locals := 46 } : Room) s m args below meth c H locs 0 0 (MQ below (QV G (some (.int r)) M) args s 0 0 (gA G)) (F0 m 0 ls []) by rw [hHe, hLe] at hW; exact hW
  refine lv_aload_n hx hb dX9_settledBehind_0 rfl (lv_at hl 0 rfl) ?_
  refine lv_iload_n hx hb dX9_settledBehind_1 rfl (lv_at hl 1 rfl) ?_
  refine lv_iconst (v := 0) hx hb dX9_settledBehind_2 (by decide) ?_
  obtain ⟨r13, e_12, hf⟩ := vb_e hf
  refine c_Vi hx hb hml hown hts hV hK hM hS (As := [.int p1, .int 0]) (rest := []) (k_X9_of G hG l a0 h0 p1 0 M e_12) w_X9_of (tk_1037 hts) (c_10 h0) rfl rfl ⟨⟨rfl, rfl⟩, Nat.le_of_ble_eq_true rfl, Nat.le_of_ble_eq_true rfl⟩ ⟨Nat.zero_le _, Nat.zero_le _⟩ rfl hl.1 rfl (Nat.le_of_ble_eq_true rfl) dX9_settledBehind_3 (fun H locs hM hS => ?_)
  refine lv_istore (lv' := [(4, .int r13), (0, .ref a0), (1, .int p1), (2, .int p2), (3, .int p3)]) hx hb dX9_settledBehind_6 hl (by decide) rfl (fun ls hl => ?_)
  refine lv_aload_n hx hb dX9_settledBehind_8 rfl (lv_at hl 1 rfl) ?_
  refine lv_iload_n hx hb dX9_settledBehind_9 rfl (lv_at hl 2 rfl) ?_
  refine lv_iconst (v := 1) hx hb dX9_settledBehind_10 (by decide) ?_
  obtain ⟨r15, e_14, hf⟩ := vb_e hf
  refine c_Vi hx hb hml hown hts hV hK hM hS (As := [.int p1, .int 1]) (rest := []) (k_X9_of G hG l a0 h0 p1 1 M e_14) w_X9_of (tk_1037 hts) (c_10 h0) rfl rfl ⟨⟨rfl, rfl⟩, Nat.le_of_ble_eq_true rfl, Nat.le_of_ble_eq_true rfl⟩ ⟨Nat.zero_le _, Nat.zero_le _⟩ rfl hl.1 rfl (Nat.le_of_ble_eq_true rfl) dX9_settledBehind_11 (fun H locs hM hS => ?_)
  refine lv_istore (lv' := [(5, .int r15), (4, .int r13), (0, .ref a0), (1, .int p1), (2, .int p2), (3, .int p3)]) hx hb dX9_settledBehind_14 hl (by decide) rfl (fun ls hl => ?_)
  refine lv_iconst (v := 0) hx hb dX9_settledBehind_16 (by decide) ?_
  refine lv_istore (lv' := [(6, .int 0), (5, .int r15), (4, .int r13), (0, .ref a0), (1, .int p1), (2, .int p2), (3, .int p3)]) hx hb dX9_settledBehind_17 hl (by decide) rfl (fun ls hl => ?_)
  exact b19 _ r13 r15 0 _ H locs ls hM hS (lv_sub hl [3, 4, 5, 6, 2, 1, 0] rfl) hf
def f_X9_settles_b46 (a0 : Nat) (p1 : Int32) (p2 : Int32) (p3 : Int32) (M : Mem) : Option (Int32 × Mem) := cb (f_X9_fails a0 2 M) fun r2 M3 => some (r2, M3)
def f_X9_settles (a0 : Nat) (p1 : Int32) (p2 : Int32) (p3 : Int32) (M : Mem) : Option (Int32 × Mem) := nb (sI M a0 7 0) fun M4 => vb (f_X9_isVoice p1 M4) fun r6 => if r6 = 0 then (cb (f_X9_fails a0 1 M4) fun r17 M18 => some (r17, M18)) else (vb (f_X9_isSample p2 M4) fun r9 => if r9 = 0 then (f_X9_settles_b46 a0 p1 p2 p3 M4) else (vb (f_X9_in p3 1 2000 M4) fun r12 => if r12 = 0 then (f_X9_settles_b46 a0 p1 p2 p3 M4) else (vb (f_X9_settledBehind a0 p1 p2 p3 M4) fun r15 => some (r15, M4))))
set_option maxHeartbeats 4000000 in
set_option maxRecDepth 100000 in
theorem k_X9_settles (G : Gt) (hG : gOK G) (l : Launch) (a0 : Nat) (h0 : gK G a0 = 10) (p1 : Int32) (p2 : Int32) (p3 : Int32) (M : Mem) {r : Int32} {M' : Mem} (hf : f_X9_settles a0 p1 p2 p3 M = some (r, M')) : Kc G l yX9_settles cX9_settles 4 (some .int) ({ frames := 3, cells := 0, slots := 0, locals := 73 } : Room) [.ref a0, .int p1, .int p2, .int p3] M (some (.int r)) M' := by
  refine start (by decide) (Nat.le_of_ble_eq_true rfl) ?_
  intro p e s m args below meth c ls hx hb hr hown hml hlocks hts hV hM hl
  have hown : s.vm.findClass "FoldedVoicesModel" = some m.cls := hown
  have hK := hG.1.moved hV
  have hS : va_S (gA G) s.heap s.heap [] := va_S.rf
  have hl : lv_has ls 4 [(0, .ref a0), (1, .int p1), (2, .int p2), (3, .int p3)] := hl
  have hM0 := hM
  have b46 : ∀ (M : Mem) (H : Heap) (locs : List Loc) (ls : Array Slot), Mh G M H → va_S (gA G) s.heap H locs → lv_has ls 4 [(0, .ref a0), (1, .int p1), (2, .int p2), (3, .int p3)] → f_X9_settles_b46 a0 p1 p2 p3 M = some (r, M') → W p l e ({ frames := 3, cells := 0, slots := 0, locals := 73 } : Room) s m args below meth c H locs 0 0 (MQ below (QV G (some (.int r)) M') args s 0 0 (gA G)) (F0 m 46 ls []) := by
    intro M H locs ls hM hS hl hf
    rw [f_X9_settles_b46] at hf
    refine lv_aload_n hx hb dX9_settles_46 rfl (lv_at hl 0 rfl) ?_
    refine lv_iconst (v := 2) hx hb dX9_settles_47 (by decide) ?_
    obtain ⟨r2, M3, e_1, hf⟩ := cb_e hf
    refine c_Vi hx hb hml hown hts hV hK hM hS (As := [.int 2]) (rest := []) (k_X9_fails G hG l a0 h0 2 M e_1) w_X9_fails (tk_1026 hts) (c_10 h0) rfl rfl ⟨⟨rfl, rfl⟩, Nat.le_of_ble_eq_true rfl, Nat.le_of_ble_eq_true rfl⟩ ⟨Nat.zero_le _, Nat.zero_le _⟩ rfl hl.1 rfl (Nat.le_of_ble_eq_true rfl) dX9_settles_48 (fun H locs hM hS => ?_)
    exact ef_im hx hb hr hlocks hM hS hf dX9_settles_51
  rw [f_X9_settles] at hf
  obtain ⟨H, hHe⟩ : ∃ H, H = s.heap := ⟨_, rfl⟩
  obtain ⟨locs, hLe⟩ : ∃ L : List Loc, L = [] := ⟨_, rfl⟩
  rw [← hHe] at hM
  have hS : va_S (gA G) s.heap H locs := by rw [hHe, hLe]; exact va_S.rf
  suffices hW : W p l e ({ frames := 3, cells := 0, slots := 0, locals := 73 } : Room) s m args below meth c H locs 0 0 (MQ below (QV G (some (.int r)) M') args s 0 0 (gA G)) (F0 m 0 ls []) by rw [hHe, hLe] at hW; exact hW
  refine lv_aload_n hx hb dX9_settles_0 rfl (lv_at hl 0 rfl) ?_
  refine lv_iconst (v := 0) hx hb dX9_settles_1 (by decide) ?_
  obtain ⟨M4, eM4, hf⟩ := nb_e hf
  refine s_put tyX9 hx hb (lay_9 hts) tyX9_ok nmX9 hown hK hM hS (ky_b hG h0) (c_10 h0) rfl 7 (by decide) rfl rfl rfl (Nat.le_of_ble_eq_true rfl) (cp_9_7 h0) (fun _ h9 => cel_sI _ h9) hM.2.2.sI rfl (tk_970 hts) dX9_settles_2 (fun H locs hM hS => ?_)
  rw [eM4] at hM
  refine lv_iload_n hx hb dX9_settles_5 rfl (lv_at hl 1 rfl) ?_
  obtain ⟨r6, e_5, hf⟩ := vb_e hf
  refine c_Si hx hb hml hown hts hV hM hS (As := [.int p1]) (rest := []) (k_X9_isVoice G hG l p1 M4 e_5) w_X9_isVoice (tk_1020 hts) ⟨⟨rfl, rfl⟩, Nat.le_of_ble_eq_true rfl, Nat.le_of_ble_eq_true rfl⟩ ⟨Nat.zero_le _, Nat.zero_le _⟩ rfl hl.1 rfl (Nat.le_of_ble_eq_true rfl) dX9_settles_6 (fun H locs hM hS => ?_)
  refine lv_if_ne (tgt := 18) hx hb dX9_settles_9 (by decide) (fun g_7 => ?_) (fun g_7 => ?_)
  · rw [if_neg g_7] at hf
    refine lv_iload_n hx hb dX9_settles_18 rfl (lv_at hl 2 rfl) ?_
    obtain ⟨r9, e_8, hf⟩ := vb_e hf
    refine c_Si hx hb hml hown hts hV hM hS (As := [.int p2]) (rest := []) (k_X9_isSample G hG l p2 M4 e_8) w_X9_isSample (tk_1030 hts) ⟨⟨rfl, rfl⟩, Nat.le_of_ble_eq_true rfl, Nat.le_of_ble_eq_true rfl⟩ ⟨Nat.zero_le _, Nat.zero_le _⟩ rfl hl.1 rfl (Nat.le_of_ble_eq_true rfl) dX9_settles_19 (fun H locs hM hS => ?_)
    refine lv_if_eq (tgt := 46) hx hb dX9_settles_22 (by decide) (fun g_10 => ?_) (fun g_10 => ?_)
    · rw [if_pos g_10] at hf
      exact b46 _ H locs ls hM hS (lv_sub hl [0, 1, 2, 3] rfl) hf
    · rw [if_neg g_10] at hf
      refine lv_iload_n hx hb dX9_settles_25 rfl (lv_at hl 3 rfl) ?_
      refine lv_iconst (v := 1) hx hb dX9_settles_26 (by decide) ?_
      refine lv_sipush (v := 2000) hx hb dX9_settles_27 (by decide) ?_
      obtain ⟨r12, e_11, hf⟩ := vb_e hf
      refine c_Si hx hb hml hown hts hV hM hS (As := [.int p3, .int 1, .int 2000]) (rest := []) (k_X9_in G hG l p3 1 2000 M4 e_11) w_X9_in (tk_1023 hts) ⟨⟨rfl, rfl⟩, Nat.le_of_ble_eq_true rfl, Nat.le_of_ble_eq_true rfl⟩ ⟨Nat.zero_le _, Nat.zero_le _⟩ rfl hl.1 rfl (Nat.le_of_ble_eq_true rfl) dX9_settles_30 (fun H locs hM hS => ?_)
      refine lv_if_eq (tgt := 46) hx hb dX9_settles_33 (by decide) (fun g_13 => ?_) (fun g_13 => ?_)
      · rw [if_pos g_13] at hf
        exact b46 _ H locs ls hM hS (lv_sub hl [0, 1, 2, 3] rfl) hf
      · rw [if_neg g_13] at hf
        refine lv_aload_n hx hb dX9_settles_36 rfl (lv_at hl 0 rfl) ?_
        refine lv_iload_n hx hb dX9_settles_37 rfl (lv_at hl 1 rfl) ?_
        refine lv_iload_n hx hb dX9_settles_38 rfl (lv_at hl 2 rfl) ?_
        refine lv_iload_n hx hb dX9_settles_39 rfl (lv_at hl 3 rfl) ?_
        obtain ⟨r15, e_14, hf⟩ := vb_e hf
        refine c_Vi hx hb hml hown hts hV hK hM hS (As := [.int p1, .int p2, .int p3]) (rest := []) (k_X9_settledBehind G hG l a0 h0 p1 p2 p3 M4 e_14) w_X9_settledBehind (tk_1281 hts) (c_10 h0) rfl rfl ⟨⟨rfl, rfl⟩, Nat.le_of_ble_eq_true rfl, Nat.le_of_ble_eq_true rfl⟩ ⟨Nat.zero_le _, Nat.zero_le _⟩ rfl hl.1 rfl (Nat.le_of_ble_eq_true rfl) dX9_settles_40 (fun H locs hM hS => ?_)
        refine lv_goto (tgt := 51) hx hb dX9_settles_43 (by decide) ?_
        exact ef_im hx hb hr hlocks hM hS hf dX9_settles_51
  · rw [if_pos g_7] at hf
    refine lv_aload_n hx hb dX9_settles_12 rfl (lv_at hl 0 rfl) ?_
    refine lv_iconst (v := 1) hx hb dX9_settles_13 (by decide) ?_
    obtain ⟨r17, M18, e_16, hf⟩ := cb_e hf
    refine c_Vi hx hb hml hown hts hV hK hM hS (As := [.int 1]) (rest := []) (k_X9_fails G hG l a0 h0 1 M4 e_16) w_X9_fails (tk_1026 hts) (c_10 h0) rfl rfl ⟨⟨rfl, rfl⟩, Nat.le_of_ble_eq_true rfl, Nat.le_of_ble_eq_true rfl⟩ ⟨Nat.zero_le _, Nat.zero_le _⟩ rfl hl.1 rfl (Nat.le_of_ble_eq_true rfl) dX9_settles_14 (fun H locs hM hS => ?_)
    exact ef_im hx hb hr hlocks hM hS hf dX9_settles_17
def f_X9_delivered_b63 (a0 : Nat) (p1 : Int32) (p2 : Int32) (xs0 : Int32) (M : Mem) : Option (Int32 × Mem) := vb (f_X9_putBack a0 M) fun M2 => some (xs0, M2)
def f_X9_delivered_b26 (a0 : Nat) (p1 : Int32) (p2 : Int32) (xs0 : Int32) (M : Mem) : Option (Int32 × Mem) := vb (f_X9_of a0 p1 xs0 M) fun r4 => vb (f_X9_deliverAll a0 p1 M) fun M6 => if p2 = 0 then (vb (f_X9_of a0 p1 26 M6) fun r11 => f_X9_delivered_b63 a0 p1 p2 r11 M6) else (vb (f_X9_of a0 p1 xs0 M6) fun r9 => f_X9_delivered_b63 a0 p1 p2 (r9 - r4) M6)
def f_X9_delivered (a0 : Nat) (p1 : Int32) (p2 : Int32) (M : Mem) : Option (Int32 × Mem) := vb (f_X9_putAside a0 M) fun M13 => if p2 = (1 : Int32) then (f_X9_delivered_b26 a0 p1 p2 33 M13) else (if p2 = (2 : Int32) then (f_X9_delivered_b26 a0 p1 p2 30 M13) else (f_X9_delivered_b26 a0 p1 p2 32 M13))
set_option maxHeartbeats 4000000 in
set_option maxRecDepth 100000 in
theorem k_X9_delivered (G : Gt) (hG : gOK G) (l : Launch) (a0 : Nat) (h0 : gK G a0 = 10) (p1 : Int32) (p2 : Int32) (M : Mem) {r : Int32} {M' : Mem} (hf : f_X9_delivered a0 p1 p2 M = some (r, M')) : Kc G l yX9_delivered cX9_delivered 6 (some .int) ({ frames := 5, cells := 0, slots := 0, locals := 122 } : Room) [.ref a0, .int p1, .int p2] M (some (.int r)) M' := by
  refine start (by decide) (Nat.le_of_ble_eq_true rfl) ?_
  intro p e s m args below meth c ls hx hb hr hown hml hlocks hts hV hM hl
  have hown : s.vm.findClass "FoldedVoicesModel" = some m.cls := hown
  have hK := hG.1.moved hV
  have hS : va_S (gA G) s.heap s.heap [] := va_S.rf
  have hl : lv_has ls 6 [(0, .ref a0), (1, .int p1), (2, .int p2)] := hl
  have hM0 := hM
  have b63 : ∀ (xs0 : Int32) (M : Mem) (H : Heap) (locs : List Loc) (ls : Array Slot), Mh G M H → va_S (gA G) s.heap H locs → lv_has ls 6 [(0, .ref a0), (1, .int p1), (2, .int p2)] → f_X9_delivered_b63 a0 p1 p2 xs0 M = some (r, M') → W p l e ({ frames := 5, cells := 0, slots := 0, locals := 122 } : Room) s m args below meth c H locs 0 0 (MQ below (QV G (some (.int r)) M') args s 0 0 (gA G)) (F0 m 63 ls [.int xs0]) := by
    intro xs0 M H locs ls hM hS hl hf
    rw [f_X9_delivered_b63] at hf
    refine lv_istore (lv' := [(5, .int xs0), (0, .ref a0), (1, .int p1), (2, .int p2)]) hx hb dX9_delivered_63 hl (by decide) rfl (fun ls hl => ?_)
    refine lv_aload_n hx hb dX9_delivered_65 rfl (lv_at hl 1 rfl) ?_
    obtain ⟨M2, e_1, hf⟩ := vb_e hf
    refine c_Vv hx hb hml hown hts hV hK hM hS (As := []) (rest := []) (k_X9_putBack G hG l a0 h0 M e_1) w_X9_putBack (tk_1241 hts) (c_10 h0) rfl rfl ⟨⟨rfl, rfl⟩, Nat.le_of_ble_eq_true rfl, Nat.le_of_ble_eq_true rfl⟩ ⟨Nat.zero_le _, Nat.zero_le _⟩ rfl hl.1 rfl (Nat.le_of_ble_eq_true rfl) dX9_delivered_66 (fun H locs hM hS => ?_)
    refine lv_iload hx hb dX9_delivered_69 (lv_at hl 0 rfl) ?_
    exact ef_im hx hb hr hlocks hM hS hf dX9_delivered_71
  have b26 : ∀ (xs0 : Int32) (M : Mem) (H : Heap) (locs : List Loc) (ls : Array Slot), Mh G M H → va_S (gA G) s.heap H locs → lv_has ls 6 [(0, .ref a0), (1, .int p1), (2, .int p2)] → f_X9_delivered_b26 a0 p1 p2 xs0 M = some (r, M') → W p l e ({ frames := 5, cells := 0, slots := 0, locals := 122 } : Room) s m args below meth c H locs 0 0 (MQ below (QV G (some (.int r)) M') args s 0 0 (gA G)) (F0 m 26 ls [.int xs0]) := by
    intro xs0 M H locs ls hM hS hl hf
    rw [f_X9_delivered_b26] at hf
    refine lv_istore_n (lv' := [(3, .int xs0), (0, .ref a0), (1, .int p1), (2, .int p2)]) hx hb dX9_delivered_26 rfl hl (by decide) rfl (fun ls hl => ?_)
    refine lv_aload_n hx hb dX9_delivered_27 rfl (lv_at hl 1 rfl) ?_
    refine lv_iload_n hx hb dX9_delivered_28 rfl (lv_at hl 2 rfl) ?_
    refine lv_iload_n hx hb dX9_delivered_29 rfl (lv_at hl 0 rfl) ?_
    obtain ⟨r4, e_3, hf⟩ := vb_e hf
    refine c_Vi hx hb hml hown hts hV hK hM hS (As := [.int p1, .int xs0]) (rest := []) (k_X9_of G hG l a0 h0 p1 xs0 M e_3) w_X9_of (tk_1037 hts) (c_10 h0) rfl rfl ⟨⟨rfl, rfl⟩, Nat.le_of_ble_eq_true rfl, Nat.le_of_ble_eq_true rfl⟩ ⟨Nat.zero_le _, Nat.zero_le _⟩ rfl hl.1 rfl (Nat.le_of_ble_eq_true rfl) dX9_delivered_30 (fun H locs hM hS => ?_)
    refine lv_istore (lv' := [(4, .int r4), (3, .int xs0), (0, .ref a0), (1, .int p1), (2, .int p2)]) hx hb dX9_delivered_33 hl (by decide) rfl (fun ls hl => ?_)
    refine lv_aload_n hx hb dX9_delivered_35 rfl (lv_at hl 2 rfl) ?_
    refine lv_iload_n hx hb dX9_delivered_36 rfl (lv_at hl 3 rfl) ?_
    obtain ⟨M6, e_5, hf⟩ := vb_e hf
    refine c_Vv hx hb hml hown hts hV hK hM hS (As := [.int p1]) (rest := []) (k_X9_deliverAll G hG l a0 h0 p1 M e_5) w_X9_deliverAll (tk_1237 hts) (c_10 h0) rfl rfl ⟨⟨rfl, rfl⟩, Nat.le_of_ble_eq_true rfl, Nat.le_of_ble_eq_true rfl⟩ ⟨Nat.zero_le _, Nat.zero_le _⟩ rfl hl.1 rfl (Nat.le_of_ble_eq_true rfl) dX9_delivered_37 (fun H locs hM hS => ?_)
    refine lv_iload_n hx hb dX9_delivered_40 rfl (lv_at hl 4 rfl) ?_
    refine lv_if_ne (tgt := 54) hx hb dX9_delivered_41 (by decide) (fun g_7 => ?_) (fun g_7 => ?_)
    · rw [if_neg g_7] at hf
      refine lv_aload_n hx hb dX9_delivered_54 rfl (lv_at hl 2 rfl) ?_
      refine lv_iload_n hx hb dX9_delivered_55 rfl (lv_at hl 3 rfl) ?_
      refine lv_iload_n hx hb dX9_delivered_56 rfl (lv_at hl 1 rfl) ?_
      obtain ⟨r9, e_8, hf⟩ := vb_e hf
      refine c_Vi hx hb hml hown hts hV hK hM hS (As := [.int p1, .int xs0]) (rest := []) (k_X9_of G hG l a0 h0 p1 xs0 M6 e_8) w_X9_of (tk_1037 hts) (c_10 h0) rfl rfl ⟨⟨rfl, rfl⟩, Nat.le_of_ble_eq_true rfl, Nat.le_of_ble_eq_true rfl⟩ ⟨Nat.zero_le _, Nat.zero_le _⟩ rfl hl.1 rfl (Nat.le_of_ble_eq_true rfl) dX9_delivered_57 (fun H locs hM hS => ?_)
      refine lv_iload hx hb dX9_delivered_60 (lv_at hl 0 rfl) ?_
      refine lv_isub hx hb dX9_delivered_62 ?_
      exact b63 (r9 - r4) _ H locs ls hM hS (lv_sub hl [2, 3, 4] rfl) hf
    · rw [if_pos g_7] at hf
      refine lv_aload_n hx hb dX9_delivered_44 rfl (lv_at hl 2 rfl) ?_
      refine lv_iload_n hx hb dX9_delivered_45 rfl (lv_at hl 3 rfl) ?_
      refine lv_bipush (v := 26) hx hb dX9_delivered_46 (by decide) ?_
      obtain ⟨r11, e_10, hf⟩ := vb_e hf
      refine c_Vi hx hb hml hown hts hV hK hM hS (As := [.int p1, .int 26]) (rest := []) (k_X9_of G hG l a0 h0 p1 26 M6 e_10) w_X9_of (tk_1037 hts) (c_10 h0) rfl rfl ⟨⟨rfl, rfl⟩, Nat.le_of_ble_eq_true rfl, Nat.le_of_ble_eq_true rfl⟩ ⟨Nat.zero_le _, Nat.zero_le _⟩ rfl hl.1 rfl (Nat.le_of_ble_eq_true rfl) dX9_delivered_48 (fun H locs hM hS => ?_)
      refine lv_goto (tgt := 63) hx hb dX9_delivered_51 (by decide) ?_
      exact b63 r11 _ H locs ls hM hS (lv_sub hl [2, 3, 4] rfl) hf
  rw [f_X9_delivered] at hf
  obtain ⟨H, hHe⟩ : ∃ H, H = s.heap := ⟨_, rfl⟩
  obtain ⟨locs, hLe⟩ : ∃ L : List Loc, L = [] := ⟨_, rfl⟩
  rw [← hHe] at hM
  have hS : va_S (gA G) s.heap H locs := by rw [hHe, hLe]; exact va_S.rf
  suffices hW : W p l e ({ frames := 5, cells := 0, slots := 0, locals := 122 } : Room) s m args below meth c H locs 0 0 (MQ below (QV G (some (.int r)) M') args s 0 0 (gA G)) (F0 m 0 ls []) by rw [hHe, hLe] at hW; exact hW
  refine lv_aload_n hx hb dX9_delivered_0 rfl (lv_at hl 0 rfl) ?_
  obtain ⟨M13, e_12, hf⟩ := vb_e hf
  refine c_Vv hx hb hml hown hts hV hK hM hS (As := []) (rest := []) (k_X9_putAside G hG l a0 h0 M e_12) w_X9_putAside (tk_1233 hts) (c_10 h0) rfl rfl ⟨⟨rfl, rfl⟩, Nat.le_of_ble_eq_true rfl, Nat.le_of_ble_eq_true rfl⟩ ⟨Nat.zero_le _, Nat.zero_le _⟩ rfl hl.1 rfl (Nat.le_of_ble_eq_true rfl) dX9_delivered_1 (fun H locs hM hS => ?_)
  refine lv_iload_n hx hb dX9_delivered_4 rfl (lv_at hl 2 rfl) ?_
  refine lv_iconst (v := 1) hx hb dX9_delivered_5 (by decide) ?_
  refine lv_icmp_ne (tgt := 14) hx hb dX9_delivered_6 (by decide) (fun g_14 => ?_) (fun g_14 => ?_)
  · rw [if_neg g_14] at hf
    refine lv_iload_n hx hb dX9_delivered_14 rfl (lv_at hl 2 rfl) ?_
    refine lv_iconst (v := 2) hx hb dX9_delivered_15 (by decide) ?_
    refine lv_icmp_ne (tgt := 24) hx hb dX9_delivered_16 (by decide) (fun g_15 => ?_) (fun g_15 => ?_)
    · rw [if_neg g_15] at hf
      refine lv_bipush (v := 32) hx hb dX9_delivered_24 (by decide) ?_
      exact b26 32 _ H locs ls hM hS (lv_sub hl [0, 1, 2] rfl) hf
    · rw [if_pos g_15] at hf
      refine lv_bipush (v := 30) hx hb dX9_delivered_19 (by decide) ?_
      refine lv_goto (tgt := 26) hx hb dX9_delivered_21 (by decide) ?_
      exact b26 30 _ H locs ls hM hS (lv_sub hl [0, 1, 2] rfl) hf
  · rw [if_pos g_14] at hf
    refine lv_bipush (v := 33) hx hb dX9_delivered_9 (by decide) ?_
    refine lv_goto (tgt := 26) hx hb dX9_delivered_11 (by decide) ?_
    exact b26 33 _ H locs ls hM hS (lv_sub hl [0, 1, 2] rfl) hf
def f_X9_ifDelivered (a0 : Nat) (p1 : Int32) (p2 : Int32) (M : Mem) : Option (Int32 × Mem) := nb (sI M a0 7 0) fun M1 => vb (f_X9_isVoice p1 M1) fun r3 => if r3 = 0 then (cb (f_X9_fails a0 1 M1) fun r15 M16 => some (r15, M16)) else (vb (f_X9_in p2 0 3 M1) fun r6 => if r6 = 0 then (cb (f_X9_fails a0 2 M1) fun r9 M10 => some (r9, M10)) else (cb (f_X9_delivered a0 p1 p2 M1) fun r12 M13 => some (r12, M13)))
set_option maxHeartbeats 4000000 in
set_option maxRecDepth 100000 in
theorem k_X9_ifDelivered (G : Gt) (hG : gOK G) (l : Launch) (a0 : Nat) (h0 : gK G a0 = 10) (p1 : Int32) (p2 : Int32) (M : Mem) {r : Int32} {M' : Mem} (hf : f_X9_ifDelivered a0 p1 p2 M = some (r, M')) : Kc G l yX9_ifDelivered cX9_ifDelivered 3 (some .int) ({ frames := 6, cells := 0, slots := 0, locals := 147 } : Room) [.ref a0, .int p1, .int p2] M (some (.int r)) M' := by
  refine start (by decide) (Nat.le_of_ble_eq_true rfl) ?_
  intro p e s m args below meth c ls hx hb hr hown hml hlocks hts hV hM hl
  have hown : s.vm.findClass "FoldedVoicesModel" = some m.cls := hown
  have hK := hG.1.moved hV
  have hS : va_S (gA G) s.heap s.heap [] := va_S.rf
  have hl : lv_has ls 3 [(0, .ref a0), (1, .int p1), (2, .int p2)] := hl
  have hM0 := hM
  rw [f_X9_ifDelivered] at hf
  refine lv_aload_n hx hb dX9_ifDelivered_0 rfl (lv_at hl 0 rfl) ?_
  refine lv_iconst (v := 0) hx hb dX9_ifDelivered_1 (by decide) ?_
  obtain ⟨M1, eM1, hf⟩ := nb_e hf
  refine s_put tyX9 hx hb (lay_9 hts) tyX9_ok nmX9 hown hK hM hS (ky_b hG h0) (c_10 h0) rfl 7 (by decide) rfl rfl rfl (Nat.le_of_ble_eq_true rfl) (cp_9_7 h0) (fun _ h9 => cel_sI _ h9) hM.2.2.sI rfl (tk_970 hts) dX9_ifDelivered_2 (fun H locs hM hS => ?_)
  rw [eM1] at hM
  refine lv_iload_n hx hb dX9_ifDelivered_5 rfl (lv_at hl 1 rfl) ?_
  obtain ⟨r3, e_2, hf⟩ := vb_e hf
  refine c_Si hx hb hml hown hts hV hM hS (As := [.int p1]) (rest := []) (k_X9_isVoice G hG l p1 M1 e_2) w_X9_isVoice (tk_1020 hts) ⟨⟨rfl, rfl⟩, Nat.le_of_ble_eq_true rfl, Nat.le_of_ble_eq_true rfl⟩ ⟨Nat.zero_le _, Nat.zero_le _⟩ rfl hl.1 rfl (Nat.le_of_ble_eq_true rfl) dX9_ifDelivered_6 (fun H locs hM hS => ?_)
  refine lv_if_ne (tgt := 18) hx hb dX9_ifDelivered_9 (by decide) (fun g_4 => ?_) (fun g_4 => ?_)
  · rw [if_neg g_4] at hf
    refine lv_iload_n hx hb dX9_ifDelivered_18 rfl (lv_at hl 2 rfl) ?_
    refine lv_iconst (v := 0) hx hb dX9_ifDelivered_19 (by decide) ?_
    refine lv_iconst (v := 3) hx hb dX9_ifDelivered_20 (by decide) ?_
    obtain ⟨r6, e_5, hf⟩ := vb_e hf
    refine c_Si hx hb hml hown hts hV hM hS (As := [.int p2, .int 0, .int 3]) (rest := []) (k_X9_in G hG l p2 0 3 M1 e_5) w_X9_in (tk_1023 hts) ⟨⟨rfl, rfl⟩, Nat.le_of_ble_eq_true rfl, Nat.le_of_ble_eq_true rfl⟩ ⟨Nat.zero_le _, Nat.zero_le _⟩ rfl hl.1 rfl (Nat.le_of_ble_eq_true rfl) dX9_ifDelivered_21 (fun H locs hM hS => ?_)
    refine lv_if_eq (tgt := 36) hx hb dX9_ifDelivered_24 (by decide) (fun g_7 => ?_) (fun g_7 => ?_)
    · rw [if_pos g_7] at hf
      refine lv_aload_n hx hb dX9_ifDelivered_36 rfl (lv_at hl 0 rfl) ?_
      refine lv_iconst (v := 2) hx hb dX9_ifDelivered_37 (by decide) ?_
      obtain ⟨r9, M10, e_8, hf⟩ := cb_e hf
      refine c_Vi hx hb hml hown hts hV hK hM hS (As := [.int 2]) (rest := []) (k_X9_fails G hG l a0 h0 2 M1 e_8) w_X9_fails (tk_1026 hts) (c_10 h0) rfl rfl ⟨⟨rfl, rfl⟩, Nat.le_of_ble_eq_true rfl, Nat.le_of_ble_eq_true rfl⟩ ⟨Nat.zero_le _, Nat.zero_le _⟩ rfl hl.1 rfl (Nat.le_of_ble_eq_true rfl) dX9_ifDelivered_38 (fun H locs hM hS => ?_)
      exact ef_im hx hb hr hlocks hM hS hf dX9_ifDelivered_41
    · rw [if_neg g_7] at hf
      refine lv_aload_n hx hb dX9_ifDelivered_27 rfl (lv_at hl 0 rfl) ?_
      refine lv_iload_n hx hb dX9_ifDelivered_28 rfl (lv_at hl 1 rfl) ?_
      refine lv_iload_n hx hb dX9_ifDelivered_29 rfl (lv_at hl 2 rfl) ?_
      obtain ⟨r12, M13, e_11, hf⟩ := cb_e hf
      refine c_Vi hx hb hml hown hts hV hK hM hS (As := [.int p1, .int p2]) (rest := []) (k_X9_delivered G hG l a0 h0 p1 p2 M1 e_11) w_X9_delivered (tk_1289 hts) (c_10 h0) rfl rfl ⟨⟨rfl, rfl⟩, Nat.le_of_ble_eq_true rfl, Nat.le_of_ble_eq_true rfl⟩ ⟨Nat.zero_le _, Nat.zero_le _⟩ rfl hl.1 rfl (Nat.le_of_ble_eq_true rfl) dX9_ifDelivered_30 (fun H locs hM hS => ?_)
      refine lv_goto (tgt := 41) hx hb dX9_ifDelivered_33 (by decide) ?_
      exact ef_im hx hb hr hlocks hM hS hf dX9_ifDelivered_41
  · rw [if_pos g_4] at hf
    refine lv_aload_n hx hb dX9_ifDelivered_12 rfl (lv_at hl 0 rfl) ?_
    refine lv_iconst (v := 1) hx hb dX9_ifDelivered_13 (by decide) ?_
    obtain ⟨r15, M16, e_14, hf⟩ := cb_e hf
    refine c_Vi hx hb hml hown hts hV hK hM hS (As := [.int 1]) (rest := []) (k_X9_fails G hG l a0 h0 1 M1 e_14) w_X9_fails (tk_1026 hts) (c_10 h0) rfl rfl ⟨⟨rfl, rfl⟩, Nat.le_of_ble_eq_true rfl, Nat.le_of_ble_eq_true rfl⟩ ⟨Nat.zero_le _, Nat.zero_le _⟩ rfl hl.1 rfl (Nat.le_of_ble_eq_true rfl) dX9_ifDelivered_14 (fun H locs hM hS => ?_)
    exact ef_im hx hb hr hlocks hM hS hf dX9_ifDelivered_17
def f_X9_mean (a0 : Nat) (p1 : Int32) (M : Mem) : Option UInt64 := vb (f_X9_of a0 p1 29 M) fun r2 => if r2 = 0 then (some FP.dconst0) else (vb (f_X9_of a0 p1 33 M) fun r5 => vb (f_X9_of a0 p1 29 M) fun r7 => gd ((FP.ddiv (FP.i2d r5) (FP.i2d r7)) &&& 0x7fffffffffffffff ≤ 0x7ff0000000000000) <| some (FP.ddiv (FP.i2d r5) (FP.i2d r7)))
set_option maxHeartbeats 4000000 in
set_option maxRecDepth 100000 in
theorem k_X9_mean (G : Gt) (hG : gOK G) (l : Launch) (a0 : Nat) (h0 : gK G a0 = 10) (p1 : Int32) (M : Mem) {r : UInt64} (hf : f_X9_mean a0 p1 M = some r) : Kc G l yX9_mean cX9_mean 2 (some .double) ({ frames := 1, cells := 0, slots := 0, locals := 22 } : Room) [.ref a0, .int p1] M (some (.double r)) M := by
  refine start (by decide) (Nat.le_of_ble_eq_true rfl) ?_
  intro p e s m args below meth c ls hx hb hr hown hml hlocks hts hV hM hl
  have hown : s.vm.findClass "FoldedVoicesModel" = some m.cls := hown
  have hK := hG.1.moved hV
  have hS : va_S (gA G) s.heap s.heap [] := va_S.rf
  have hl : lv_has ls 2 [(0, .ref a0), (1, .int p1)] := hl
  have hM0 := hM
  rw [f_X9_mean] at hf
  refine lv_aload_n hx hb dX9_mean_0 rfl (lv_at hl 0 rfl) ?_
  refine lv_iload_n hx hb dX9_mean_1 rfl (lv_at hl 1 rfl) ?_
  refine lv_bipush (v := 29) hx hb dX9_mean_2 (by decide) ?_
  obtain ⟨r2, e_1, hf⟩ := vb_e hf
  refine c_Vi hx hb hml hown hts hV hK hM hS (As := [.int p1, .int 29]) (rest := []) (k_X9_of G hG l a0 h0 p1 29 M e_1) w_X9_of (tk_1037 hts) (c_10 h0) rfl rfl ⟨⟨rfl, rfl⟩, Nat.le_of_ble_eq_true rfl, Nat.le_of_ble_eq_true rfl⟩ ⟨Nat.zero_le _, Nat.zero_le _⟩ rfl hl.1 rfl (Nat.le_of_ble_eq_true rfl) dX9_mean_4 (fun H locs hM hS => ?_)
  refine lv_if_ne (tgt := 14) hx hb dX9_mean_7 (by decide) (fun g_3 => ?_) (fun g_3 => ?_)
  · rw [if_neg g_3] at hf
    refine lv_aload_n hx hb dX9_mean_14 rfl (lv_at hl 0 rfl) ?_
    refine lv_iload_n hx hb dX9_mean_15 rfl (lv_at hl 1 rfl) ?_
    refine lv_bipush (v := 33) hx hb dX9_mean_16 (by decide) ?_
    obtain ⟨r5, e_4, hf⟩ := vb_e hf
    refine c_Vi hx hb hml hown hts hV hK hM hS (As := [.int p1, .int 33]) (rest := []) (k_X9_of G hG l a0 h0 p1 33 M e_4) w_X9_of (tk_1037 hts) (c_10 h0) rfl rfl ⟨⟨rfl, rfl⟩, Nat.le_of_ble_eq_true rfl, Nat.le_of_ble_eq_true rfl⟩ ⟨Nat.zero_le _, Nat.zero_le _⟩ rfl hl.1 rfl (Nat.le_of_ble_eq_true rfl) dX9_mean_18 (fun H locs hM hS => ?_)
    refine lv_i2d hx hb dX9_mean_21 ?_
    refine lv_aload_n hx hb dX9_mean_22 rfl (lv_at hl 0 rfl) ?_
    refine lv_iload_n hx hb dX9_mean_23 rfl (lv_at hl 1 rfl) ?_
    refine lv_bipush (v := 29) hx hb dX9_mean_24 (by decide) ?_
    obtain ⟨r7, e_6, hf⟩ := vb_e hf
    refine c_Vi hx hb hml hown hts hV hK hM hS (As := [.int p1, .int 29]) (rest := [.double (FP.i2d r5)]) (k_X9_of G hG l a0 h0 p1 29 M e_6) w_X9_of (tk_1037 hts) (c_10 h0) rfl rfl ⟨⟨rfl, rfl⟩, Nat.le_of_ble_eq_true rfl, Nat.le_of_ble_eq_true rfl⟩ ⟨Nat.zero_le _, Nat.zero_le _⟩ rfl hl.1 rfl (Nat.le_of_ble_eq_true rfl) dX9_mean_26 (fun H locs hM hS => ?_)
    refine lv_i2d hx hb dX9_mean_29 ?_
    obtain ⟨h_8, hf⟩ := gd_e hf
    refine lv_ddiv hx hb dX9_mean_30 h_8 ?_
    exact ef_dp hx hb hr hlocks hM hS hf dX9_mean_31
  · rw [if_pos g_3] at hf
    refine lv_dconst0 hx hb dX9_mean_10 ?_
    refine lv_goto (tgt := 31) hx hb dX9_mean_11 (by decide) ?_
    exact ef_dp hx hb hr hlocks hM hS hf dX9_mean_31
def f_X9_meanError (a0 : Nat) (p1 : Int32) (M : Mem) : Option (UInt64 × Mem) := nb (sI M a0 7 0) fun M1 => vb (f_X9_isVoice p1 M1) fun r3 => if r3 = 0 then (cb (f_X9_fails a0 1 M1) fun r6 M7 => some (FP.i2d r6, M7)) else (vb (f_X9_mean a0 p1 M1) fun r9 => some (r9, M1))
set_option maxHeartbeats 4000000 in
set_option maxRecDepth 100000 in
theorem k_X9_meanError (G : Gt) (hG : gOK G) (l : Launch) (a0 : Nat) (h0 : gK G a0 = 10) (p1 : Int32) (M : Mem) {r : UInt64} {M' : Mem} (hf : f_X9_meanError a0 p1 M = some (r, M')) : Kc G l yX9_meanError cX9_meanError 2 (some .double) ({ frames := 2, cells := 0, slots := 0, locals := 43 } : Room) [.ref a0, .int p1] M (some (.double r)) M' := by
  refine start (by decide) (Nat.le_of_ble_eq_true rfl) ?_
  intro p e s m args below meth c ls hx hb hr hown hml hlocks hts hV hM hl
  have hown : s.vm.findClass "FoldedVoicesModel" = some m.cls := hown
  have hK := hG.1.moved hV
  have hS : va_S (gA G) s.heap s.heap [] := va_S.rf
  have hl : lv_has ls 2 [(0, .ref a0), (1, .int p1)] := hl
  have hM0 := hM
  rw [f_X9_meanError] at hf
  refine lv_aload_n hx hb dX9_meanError_0 rfl (lv_at hl 0 rfl) ?_
  refine lv_iconst (v := 0) hx hb dX9_meanError_1 (by decide) ?_
  obtain ⟨M1, eM1, hf⟩ := nb_e hf
  refine s_put tyX9 hx hb (lay_9 hts) tyX9_ok nmX9 hown hK hM hS (ky_b hG h0) (c_10 h0) rfl 7 (by decide) rfl rfl rfl (Nat.le_of_ble_eq_true rfl) (cp_9_7 h0) (fun _ h9 => cel_sI _ h9) hM.2.2.sI rfl (tk_970 hts) dX9_meanError_2 (fun H locs hM hS => ?_)
  rw [eM1] at hM
  refine lv_iload_n hx hb dX9_meanError_5 rfl (lv_at hl 1 rfl) ?_
  obtain ⟨r3, e_2, hf⟩ := vb_e hf
  refine c_Si hx hb hml hown hts hV hM hS (As := [.int p1]) (rest := []) (k_X9_isVoice G hG l p1 M1 e_2) w_X9_isVoice (tk_1020 hts) ⟨⟨rfl, rfl⟩, Nat.le_of_ble_eq_true rfl, Nat.le_of_ble_eq_true rfl⟩ ⟨Nat.zero_le _, Nat.zero_le _⟩ rfl hl.1 rfl (Nat.le_of_ble_eq_true rfl) dX9_meanError_6 (fun H locs hM hS => ?_)
  refine lv_if_eq (tgt := 20) hx hb dX9_meanError_9 (by decide) (fun g_4 => ?_) (fun g_4 => ?_)
  · rw [if_pos g_4] at hf
    refine lv_aload_n hx hb dX9_meanError_20 rfl (lv_at hl 0 rfl) ?_
    refine lv_iconst (v := 1) hx hb dX9_meanError_21 (by decide) ?_
    obtain ⟨r6, M7, e_5, hf⟩ := cb_e hf
    refine c_Vi hx hb hml hown hts hV hK hM hS (As := [.int 1]) (rest := []) (k_X9_fails G hG l a0 h0 1 M1 e_5) w_X9_fails (tk_1026 hts) (c_10 h0) rfl rfl ⟨⟨rfl, rfl⟩, Nat.le_of_ble_eq_true rfl, Nat.le_of_ble_eq_true rfl⟩ ⟨Nat.zero_le _, Nat.zero_le _⟩ rfl hl.1 rfl (Nat.le_of_ble_eq_true rfl) dX9_meanError_22 (fun H locs hM hS => ?_)
    refine lv_i2d hx hb dX9_meanError_25 ?_
    exact ef_dm hx hb hr hlocks hM hS hf dX9_meanError_26
  · rw [if_neg g_4] at hf
    refine lv_aload_n hx hb dX9_meanError_12 rfl (lv_at hl 0 rfl) ?_
    refine lv_iload_n hx hb dX9_meanError_13 rfl (lv_at hl 1 rfl) ?_
    obtain ⟨r9, e_8, hf⟩ := vb_e hf
    refine c_Vd hx hb hml hown hts hV hK hM hS (As := [.int p1]) (rest := []) (k_X9_mean G hG l a0 h0 p1 M1 e_8) w_X9_mean (tk_1297 hts) (c_10 h0) rfl rfl ⟨⟨rfl, rfl⟩, Nat.le_of_ble_eq_true rfl, Nat.le_of_ble_eq_true rfl⟩ ⟨Nat.zero_le _, Nat.zero_le _⟩ rfl hl.1 rfl (Nat.le_of_ble_eq_true rfl) dX9_meanError_14 (fun H locs hM hS => ?_)
    refine lv_goto (tgt := 26) hx hb dX9_meanError_17 (by decide) ?_
    exact ef_dm hx hb hr hlocks hM hS hf dX9_meanError_26
def f_X9_share (a0 : Nat) (M : Mem) : Option UInt32 := vb (f_X9_sum a0 21 M) fun r2 => if r2 = 0 then (some FP.fconst0) else (vb (f_X9_sum a0 36 M) fun r5 => vb (f_X9_sum a0 21 M) fun r7 => gd ((FP.fdiv (FP.i2f r5) (FP.i2f r7)) &&& 0x7fffffff ≤ 0x7f800000) <| some (FP.fdiv (FP.i2f r5) (FP.i2f r7)))
set_option maxHeartbeats 4000000 in
set_option maxRecDepth 100000 in
theorem k_X9_share (G : Gt) (hG : gOK G) (l : Launch) (a0 : Nat) (h0 : gK G a0 = 10) (M : Mem) {r : UInt32} (hf : f_X9_share a0 M = some r) : Kc G l yX9_share cX9_share 1 (some .float) ({ frames := 2, cells := 0, slots := 0, locals := 43 } : Room) [.ref a0] M (some (.float r)) M := by
  refine start (by decide) (Nat.le_of_ble_eq_true rfl) ?_
  intro p e s m args below meth c ls hx hb hr hown hml hlocks hts hV hM hl
  have hown : s.vm.findClass "FoldedVoicesModel" = some m.cls := hown
  have hK := hG.1.moved hV
  have hS : va_S (gA G) s.heap s.heap [] := va_S.rf
  have hl : lv_has ls 1 [(0, .ref a0)] := hl
  have hM0 := hM
  rw [f_X9_share] at hf
  refine lv_aload_n hx hb dX9_share_0 rfl (lv_at hl 0 rfl) ?_
  refine lv_bipush (v := 21) hx hb dX9_share_1 (by decide) ?_
  obtain ⟨r2, e_1, hf⟩ := vb_e hf
  refine c_Vi hx hb hml hown hts hV hK hM hS (As := [.int 21]) (rest := []) (k_X9_sum G hG l a0 h0 21 M e_1) w_X9_sum (tk_1253 hts) (c_10 h0) rfl rfl ⟨⟨rfl, rfl⟩, Nat.le_of_ble_eq_true rfl, Nat.le_of_ble_eq_true rfl⟩ ⟨Nat.zero_le _, Nat.zero_le _⟩ rfl hl.1 rfl (Nat.le_of_ble_eq_true rfl) dX9_share_3 (fun H locs hM hS => ?_)
  refine lv_if_ne (tgt := 13) hx hb dX9_share_6 (by decide) (fun g_3 => ?_) (fun g_3 => ?_)
  · rw [if_neg g_3] at hf
    refine lv_aload_n hx hb dX9_share_13 rfl (lv_at hl 0 rfl) ?_
    refine lv_bipush (v := 36) hx hb dX9_share_14 (by decide) ?_
    obtain ⟨r5, e_4, hf⟩ := vb_e hf
    refine c_Vi hx hb hml hown hts hV hK hM hS (As := [.int 36]) (rest := []) (k_X9_sum G hG l a0 h0 36 M e_4) w_X9_sum (tk_1253 hts) (c_10 h0) rfl rfl ⟨⟨rfl, rfl⟩, Nat.le_of_ble_eq_true rfl, Nat.le_of_ble_eq_true rfl⟩ ⟨Nat.zero_le _, Nat.zero_le _⟩ rfl hl.1 rfl (Nat.le_of_ble_eq_true rfl) dX9_share_16 (fun H locs hM hS => ?_)
    refine lv_i2f hx hb dX9_share_19 ?_
    refine lv_aload_n hx hb dX9_share_20 rfl (lv_at hl 0 rfl) ?_
    refine lv_bipush (v := 21) hx hb dX9_share_21 (by decide) ?_
    obtain ⟨r7, e_6, hf⟩ := vb_e hf
    refine c_Vi hx hb hml hown hts hV hK hM hS (As := [.int 21]) (rest := [.float (FP.i2f r5)]) (k_X9_sum G hG l a0 h0 21 M e_6) w_X9_sum (tk_1253 hts) (c_10 h0) rfl rfl ⟨⟨rfl, rfl⟩, Nat.le_of_ble_eq_true rfl, Nat.le_of_ble_eq_true rfl⟩ ⟨Nat.zero_le _, Nat.zero_le _⟩ rfl hl.1 rfl (Nat.le_of_ble_eq_true rfl) dX9_share_23 (fun H locs hM hS => ?_)
    refine lv_i2f hx hb dX9_share_26 ?_
    obtain ⟨h_8, hf⟩ := gd_e hf
    refine lv_fdiv hx hb dX9_share_27 h_8 ?_
    exact ef_fp hx hb hr hlocks hM hS hf dX9_share_28
  · rw [if_pos g_3] at hf
    refine lv_fconst0 hx hb dX9_share_9 ?_
    refine lv_goto (tgt := 28) hx hb dX9_share_10 (by decide) ?_
    exact ef_fp hx hb hr hlocks hM hS hf dX9_share_28
def f_X9_lostShare (a0 : Nat) (M : Mem) : Option (UInt32 × Mem) := nb (sI M a0 7 0) fun M1 => vb (f_X9_share a0 M1) fun r3 => some (r3, M1)
set_option maxHeartbeats 4000000 in
set_option maxRecDepth 100000 in
theorem k_X9_lostShare (G : Gt) (hG : gOK G) (l : Launch) (a0 : Nat) (h0 : gK G a0 = 10) (M : Mem) {r : UInt32} {M' : Mem} (hf : f_X9_lostShare a0 M = some (r, M')) : Kc G l yX9_lostShare cX9_lostShare 1 (some .float) ({ frames := 3, cells := 0, slots := 0, locals := 63 } : Room) [.ref a0] M (some (.float r)) M' := by
  refine start (by decide) (Nat.le_of_ble_eq_true rfl) ?_
  intro p e s m args below meth c ls hx hb hr hown hml hlocks hts hV hM hl
  have hown : s.vm.findClass "FoldedVoicesModel" = some m.cls := hown
  have hK := hG.1.moved hV
  have hS : va_S (gA G) s.heap s.heap [] := va_S.rf
  have hl : lv_has ls 1 [(0, .ref a0)] := hl
  have hM0 := hM
  rw [f_X9_lostShare] at hf
  refine lv_aload_n hx hb dX9_lostShare_0 rfl (lv_at hl 0 rfl) ?_
  refine lv_iconst (v := 0) hx hb dX9_lostShare_1 (by decide) ?_
  obtain ⟨M1, eM1, hf⟩ := nb_e hf
  refine s_put tyX9 hx hb (lay_9 hts) tyX9_ok nmX9 hown hK hM hS (ky_b hG h0) (c_10 h0) rfl 7 (by decide) rfl rfl rfl (Nat.le_of_ble_eq_true rfl) (cp_9_7 h0) (fun _ h9 => cel_sI _ h9) hM.2.2.sI rfl (tk_970 hts) dX9_lostShare_2 (fun H locs hM hS => ?_)
  rw [eM1] at hM
  refine lv_aload_n hx hb dX9_lostShare_5 rfl (lv_at hl 0 rfl) ?_
  obtain ⟨r3, e_2, hf⟩ := vb_e hf
  refine c_Vf hx hb hml hown hts hV hK hM hS (As := []) (rest := []) (k_X9_share G hG l a0 h0 M1 e_2) w_X9_share (tk_1305 hts) (c_10 h0) rfl rfl ⟨⟨rfl, rfl⟩, Nat.le_of_ble_eq_true rfl, Nat.le_of_ble_eq_true rfl⟩ ⟨Nat.zero_le _, Nat.zero_le _⟩ rfl hl.1 rfl (Nat.le_of_ble_eq_true rfl) dX9_lostShare_6 (fun H locs hM hS => ?_)
  exact ef_fm hx hb hr hlocks hM hS hf dX9_lostShare_9
def f_X9_mix (a0 : Nat) (p1 : Int64) (M : Mem) : Option Mem := nb (sJ M a0 (((31 : Int64) * (mJ M a0)) + p1)) fun M1 => some M1
set_option maxHeartbeats 4000000 in
set_option maxRecDepth 100000 in
theorem k_X9_mix (G : Gt) (hG : gOK G) (l : Launch) (a0 : Nat) (h0 : gK G a0 = 10) (p1 : Int64) (M : Mem) {M' : Mem} (hf : f_X9_mix a0 p1 M = some M') : Kc G l yX9_mix cX9_mix 3 none ({ frames := 0, cells := 0, slots := 0, locals := 0 } : Room) [.ref a0, .long p1] M none M' := by
  refine start (by decide) (Nat.le_of_ble_eq_true rfl) ?_
  intro p e s m args below meth c ls hx hb hr hown hml hlocks hts hV hM hl
  have hown : s.vm.findClass "FoldedVoicesModel" = some m.cls := hown
  have hK := hG.1.moved hV
  have hS : va_S (gA G) s.heap s.heap [] := va_S.rf
  have hl : lv_has ls 3 [(0, .ref a0), (1, .long p1)] := hl
  have hM0 := hM
  rw [f_X9_mix] at hf
  refine lv_aload_n hx hb dX9_mix_0 rfl (lv_at hl 0 rfl) ?_
  refine lv_ldc2 hx hb hown (tk_1318 hts) dX9_mix_1 ?_
  refine lv_aload_n hx hb dX9_mix_4 rfl (lv_at hl 0 rfl) ?_
  refine s_get hx hb (lay_9 hts) hown hK hM (c_10 h0) rfl 15 (by decide) rfl rfl (tk_978 hts) dX9_mix_5 ?_
  refine lv_lmul hx hb dX9_mix_8 ?_
  refine lv_lload_n hx hb dX9_mix_9 rfl (lv_at hl 1 rfl) ?_
  refine lv_ladd hx hb dX9_mix_10 ?_
  obtain ⟨M1, eM1, hf⟩ := nb_e hf
  refine s_put tyX9 hx hb (lay_9 hts) tyX9_ok nmX9 hown hK hM hS (ky_b hG h0) (c_10 h0) rfl 15 (by decide) rfl rfl rfl (Nat.le_of_ble_eq_true rfl) (cp_9_15 h0) (fun _ h9 => cel_sJ _ h9) hM.2.2.sJ rfl (tk_978 hts) dX9_mix_11 (fun H locs hM hS => ?_)
  rw [eM1] at hM
  exact ef_v hx hb hr hlocks hM hS hf dX9_mix_14
def f_Jxe99ae_isNaN_b9ae7 (p0 : UInt64) (M : Mem) : Option Int32 := if (Op.cmpValue (FP.dcmp p0 p0) .l) = 0 then (some 0) else (some 1)
set_option maxHeartbeats 4000000 in
set_option maxRecDepth 100000 in
theorem k_Jxe99ae_isNaN_b9ae7 (G : Gt) (hG : gOK G) (l : Launch) (p0 : UInt64) (M : Mem) {r : Int32} (hf : f_Jxe99ae_isNaN_b9ae7 p0 M = some r) : Kc G l yJxe99ae_isNaN_b9ae7 cJxe99ae_isNaN_b9ae7 2 (some .boolean) ({ frames := 0, cells := 0, slots := 0, locals := 0 } : Room) [.double p0] M (some (.int r)) M := by
  refine startF (by decide +kernel) (Nat.le_of_ble_eq_true rfl) ?_
  intro p e s m args below meth c ls hx hb hr hown hml hlocks hts hV hM hl
  have hown : s.vm.findClass "java/lang/Double" = some m.cls := hown
  have hK := hG.1.moved hV
  have hS : va_S (gA G) s.heap s.heap [] := va_S.rf
  have hl : lv_has ls 2 [(0, .double p0)] := hl
  have hM0 := hM
  rw [f_Jxe99ae_isNaN_b9ae7] at hf
  refine lv_dload_n hx hb dJxe99ae_isNaN_b9ae7_0 rfl (lv_at hl 0 rfl) ?_
  refine lv_dload_n hx hb dJxe99ae_isNaN_b9ae7_1 rfl (lv_at hl 0 rfl) ?_
  refine lv_dcmp hx hb dJxe99ae_isNaN_b9ae7_2 ?_
  refine lv_if_eq (tgt := 10) hx hb dJxe99ae_isNaN_b9ae7_3 (by decide) (fun g_1 => ?_) (fun g_1 => ?_)
  · rw [if_pos g_1] at hf
    refine lv_iconst (v := 0) hx hb dJxe99ae_isNaN_b9ae7_10 (by decide) ?_
    exact ef_zp hx hb hr hlocks hM hS (nz_n (Or.inl rfl)) hf dJxe99ae_isNaN_b9ae7_11
  · rw [if_neg g_1] at hf
    refine lv_iconst (v := 1) hx hb dJxe99ae_isNaN_b9ae7_6 (by decide) ?_
    refine lv_goto (tgt := 11) hx hb dJxe99ae_isNaN_b9ae7_7 (by decide) ?_
    exact ef_zp hx hb hr hlocks hM hS (nz_n (Or.inr rfl)) hf dJxe99ae_isNaN_b9ae7_11
def f_Jxe99ae_doubleToLongBits_ccdee (p0 : UInt64) (M : Mem) : Option Int64 := vb (f_Jxe99ae_isNaN_b9ae7 p0 M) fun r2 => if r2 = 0 then (some p0.toInt64) else (some (9221120237041090560 : Int64))
set_option maxHeartbeats 4000000 in
set_option maxRecDepth 100000 in
theorem k_Jxe99ae_doubleToLongBits_ccdee (G : Gt) (hG : gOK G) (l : Launch) (p0 : UInt64) (M : Mem) {r : Int64} (hf : f_Jxe99ae_doubleToLongBits_ccdee p0 M = some r) : Kc G l yJxe99ae_doubleToLongBits_ccdee cJxe99ae_doubleToLongBits_ccdee 2 (some .long) ({ frames := 1, cells := 0, slots := 0, locals := 23 } : Room) [.double p0] M (some (.long r)) M := by
  refine startF (by decide +kernel) (Nat.le_of_ble_eq_true rfl) ?_
  intro p e s m args below meth c ls hx hb hr hown hml hlocks hts hV hM hl
  have hown : s.vm.findClass "java/lang/Double" = some m.cls := hown
  have hK := hG.1.moved hV
  have hS : va_S (gA G) s.heap s.heap [] := va_S.rf
  have hl : lv_has ls 2 [(0, .double p0)] := hl
  have hM0 := hM
  rw [f_Jxe99ae_doubleToLongBits_ccdee] at hf
  refine lv_dload_n hx hb dJxe99ae_doubleToLongBits_ccdee_0 rfl (lv_at hl 0 rfl) ?_
  obtain ⟨r2, e_1, hf⟩ := vb_e hf
  refine c_Si hx hb hml hown hts hV hM hS (As := [.double p0]) (rest := []) (k_Jxe99ae_isNaN_b9ae7 G hG l p0 M e_1) w_Jxe99ae_isNaN_b9ae7 (tk_1326 hts) ⟨⟨rfl, rfl⟩, Nat.le_of_ble_eq_true rfl, Nat.le_of_ble_eq_true rfl⟩ ⟨Nat.zero_le _, Nat.zero_le _⟩ rfl hl.1 rfl (Nat.le_of_ble_eq_true rfl) dJxe99ae_doubleToLongBits_ccdee_1 (fun H locs hM hS => ?_)
  refine lv_if_ne (tgt := 12) hx hb dJxe99ae_doubleToLongBits_ccdee_4 (by decide) (fun g_3 => ?_) (fun g_3 => ?_)
  · rw [if_neg g_3] at hf
    refine lv_ldc2 hx hb hown (tk_1332 hts) dJxe99ae_doubleToLongBits_ccdee_12 ?_
    exact ef_lp hx hb hr hlocks hM hS hf dJxe99ae_doubleToLongBits_ccdee_15
  · rw [if_pos g_3] at hf
    refine lv_dload_n hx hb dJxe99ae_doubleToLongBits_ccdee_7 rfl (lv_at hl 0 rfl) ?_
    refine vn_d2l hx hb (hml.trans hl.1.symm) hown (tk_1329 hts) (tk_1331 hts) (tk_1330 hts) (tk_19 hts) (Nat.le_of_ble_eq_true rfl) (Nat.le_of_ble_eq_true rfl) dJxe99ae_doubleToLongBits_ccdee_8 ?_
    exact ef_lp hx hb hr hlocks hM hS hf dJxe99ae_doubleToLongBits_ccdee_11
