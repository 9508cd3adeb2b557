def f_X9_guessBehind_b76 (a0 : Nat) (p1 : Int32) (p2 : Int32) (p3 : Int32) (xs0 : Int32) (M : Mem) : Option Int32 := if xs0 ≤ (2000 : Int32) then (if (-2000 : Int32) ≤ xs0 then (some xs0) else (some (-2000))) else (some 2000)
def f_X9_guessBehind_b55 (a0 : Nat) (p1 : Int32) (p2 : Int32) (p3 : Int32) (xs0 : Int32) (xs1 : Int32) (M : Mem) : Option Int32 := nb (xs1 + xs0) fun y3 => if (p3 &&& 8) ≤ 0 then (f_X9_guessBehind_b76 a0 p1 p2 p3 (p1 + y3) M) else (f_X9_guessBehind_b76 a0 p1 p2 p3 (p1 - y3) M)
def f_X9_guessBehind_b40 (a0 : Nat) (p1 : Int32) (p2 : Int32) (p3 : Int32) (x4 : Int32) (xs0 : Int32) (xs1 : Int32) (M : Mem) : Option Int32 := if (p3 &&& 1) ≤ 0 then (f_X9_guessBehind_b55 a0 p1 p2 p3 0 (xs1 + xs0) M) else (f_X9_guessBehind_b55 a0 p1 p2 p3 (x4 / 4) (xs1 + xs0) M)
def f_X9_guessBehind_b25 (a0 : Nat) (p1 : Int32) (p2 : Int32) (p3 : Int32) (x4 : Int32) (xs0 : Int32) (xs1 : Int32) (M : Mem) : Option Int32 := if (p3 &&& 2) ≤ 0 then (f_X9_guessBehind_b40 a0 p1 p2 p3 x4 0 (xs1 + xs0) M) else (f_X9_guessBehind_b40 a0 p1 p2 p3 x4 (x4 / 2) (xs1 + xs0) M)
def f_X9_guessBehind (a0 : Nat) (p1 : Int32) (p2 : Int32) (p3 : Int32) (M : Mem) : Option Int32 := gd (ix p2 25) <| nb (mI M (a0 + 5) p2.toNatClampNeg) fun y8 => if (p3 &&& 4) ≤ 0 then (f_X9_guessBehind_b25 a0 p1 p2 p3 y8 0 (y8 / 8) M) else (f_X9_guessBehind_b25 a0 p1 p2 p3 y8 y8 (y8 / 8) M)
set_option maxHeartbeats 4000000 in
set_option maxRecDepth 100000 in
theorem k_X9_guessBehind (G : Gt) (hG : gOK G) (l : Launch) (a0 : Nat) (h0 : gK G a0 = 10) (p1 : Int32) (p2 : Int32) (p3 : Int32) (M : Mem) {r : Int32} (hf : f_X9_guessBehind a0 p1 p2 p3 M = some r) : Kc G l yX9_guessBehind cX9_guessBehind 7 (some .int) ({ frames := 0, cells := 0, slots := 0, locals := 0 } : Room) [.ref a0, .int p1, .int p2, .int p3] M (some (.int r)) M := by
  refine start (by decide) (Nat.le_of_ble_eq_true rfl) ?_
  intro p e s m args below meth c ls hx hb hr hown hml hlocks hts hV hM hl
  have hown : s.vm.findClass "FoldedVoicesModel" = some m.cls := hown
  have hK := hG.1.moved hV
  have hS : va_S (gA G) s.heap s.heap [] := va_S.rf
  have hl : lv_has ls 7 [(0, .ref a0), (1, .int p1), (2, .int p2), (3, .int p3)] := hl
  have hM0 := hM
  have b76 : ∀ (xs0 : Int32) (M : Mem) (H : Heap) (locs : List Loc) (ls : Array Slot), Mh G M H → va_S (gA G) s.heap H locs → lv_has ls 7 [(0, .ref a0), (1, .int p1), (2, .int p2), (3, .int p3)] → f_X9_guessBehind_b76 a0 p1 p2 p3 xs0 M = some r → W p l e ({ frames := 0, cells := 0, slots := 0, locals := 0 } : Room) s m args below meth c H locs 0 0 (MQ below (QV G (some (.int r)) M) args s 0 0 (gA G)) (F0 m 76 ls [.int xs0]) := by
    intro xs0 M H locs ls hM hS hl hf
    rw [f_X9_guessBehind_b76] at hf
    refine lv_istore (lv' := [(6, .int xs0), (0, .ref a0), (1, .int p1), (2, .int p2), (3, .int p3)]) hx hb dX9_guessBehind_76 hl (by decide) rfl (fun ls hl => ?_)
    refine lv_iload hx hb dX9_guessBehind_78 (lv_at hl 0 rfl) ?_
    refine lv_sipush (v := 2000) hx hb dX9_guessBehind_80 (by decide) ?_
    refine lv_icmp_le (tgt := 92) hx hb dX9_guessBehind_83 (by decide) (fun g_1 => ?_) (fun g_1 => ?_)
    · rw [if_pos g_1] at hf
      refine lv_iload hx hb dX9_guessBehind_92 (lv_at hl 0 rfl) ?_
      refine lv_sipush (v := (-2000)) hx hb dX9_guessBehind_94 (by decide) ?_
      refine lv_icmp_ge (tgt := 106) hx hb dX9_guessBehind_97 (by decide) (fun g_2 => ?_) (fun g_2 => ?_)
      · rw [if_pos g_2] at hf
        refine lv_iload hx hb dX9_guessBehind_106 (lv_at hl 0 rfl) ?_
        exact ef_ip hx hb hr hlocks hM hS hf dX9_guessBehind_108
      · rw [if_neg g_2] at hf
        refine lv_sipush (v := (-2000)) hx hb dX9_guessBehind_100 (by decide) ?_
        refine lv_goto (tgt := 108) hx hb dX9_guessBehind_103 (by decide) ?_
        exact ef_ip hx hb hr hlocks hM hS hf dX9_guessBehind_108
    · rw [if_neg g_1] at hf
      refine lv_sipush (v := 2000) hx hb dX9_guessBehind_86 (by decide) ?_
      refine lv_goto (tgt := 108) hx hb dX9_guessBehind_89 (by decide) ?_
      exact ef_ip hx hb hr hlocks hM hS hf dX9_guessBehind_108
  have b55 : ∀ (xs0 : Int32) (xs1 : Int32) (M : Mem) (H : Heap) (locs : List Loc) (ls : Array Slot), Mh G M H → va_S (gA G) s.heap H locs → lv_has ls 7 [(0, .ref a0), (1, .int p1), (2, .int p2), (3, .int p3)] → f_X9_guessBehind_b55 a0 p1 p2 p3 xs0 xs1 M = some r → W p l e ({ frames := 0, cells := 0, slots := 0, locals := 0 } : Room) s m args below meth c H locs 0 0 (MQ below (QV G (some (.int r)) M) args s 0 0 (gA G)) (F0 m 55 ls [.int xs0, .int xs1]) := by
    intro xs0 xs1 M H locs ls hM hS hl hf
    rw [f_X9_guessBehind_b55] at hf
    refine lv_iadd hx hb dX9_guessBehind_55 ?_
    obtain ⟨y3, ey3, hf⟩ := nb_e hf
    refine s_nm ey3 ?_
    refine lv_istore (lv' := [(5, .int y3), (0, .ref a0), (1, .int p1), (2, .int p2), (3, .int p3)]) hx hb dX9_guessBehind_56 hl (by decide) rfl (fun ls hl => ?_)
    refine lv_iload_n hx hb dX9_guessBehind_58 rfl (lv_at hl 4 rfl) ?_
    refine lv_bipush (v := 8) hx hb dX9_guessBehind_59 (by decide) ?_
    refine lv_iand hx hb dX9_guessBehind_61 ?_
    refine lv_if_le (tgt := 72) hx hb dX9_guessBehind_62 (by decide) (fun g_4 => ?_) (fun g_4 => ?_)
    · rw [if_pos g_4] at hf
      refine lv_iload_n hx hb dX9_guessBehind_72 rfl (lv_at hl 2 rfl) ?_
      refine lv_iload hx hb dX9_guessBehind_73 (lv_at hl 0 rfl) ?_
      refine lv_iadd hx hb dX9_guessBehind_75 ?_
      exact b76 (p1 + y3) _ H locs ls hM hS (lv_sub hl [1, 2, 3, 4] rfl) hf
    · rw [if_neg g_4] at hf
      refine lv_iload_n hx hb dX9_guessBehind_65 rfl (lv_at hl 2 rfl) ?_
      refine lv_iload hx hb dX9_guessBehind_66 (lv_at hl 0 rfl) ?_
      refine lv_isub hx hb dX9_guessBehind_68 ?_
      refine lv_goto (tgt := 76) hx hb dX9_guessBehind_69 (by decide) ?_
      exact b76 (p1 - y3) _ H locs ls hM hS (lv_sub hl [1, 2, 3, 4] rfl) hf
  have b40 : ∀ (x4 : Int32) (xs0 : Int32) (xs1 : Int32) (M : Mem) (H : Heap) (locs : List Loc) (ls : Array Slot), Mh G M H → va_S (gA G) s.heap H locs → lv_has ls 7 [(0, .ref a0), (1, .int p1), (2, .int p2), (3, .int p3), (4, .int x4)] → f_X9_guessBehind_b40 a0 p1 p2 p3 x4 xs0 xs1 M = some r → W p l e ({ frames := 0, cells := 0, slots := 0, locals := 0 } : Room) s m args below meth c H locs 0 0 (MQ below (QV G (some (.int r)) M) args s 0 0 (gA G)) (F0 m 40 ls [.int xs0, .int xs1]) := by
    intro x4 xs0 xs1 M H locs ls hM hS hl hf
    rw [f_X9_guessBehind_b40] at hf
    refine lv_iadd hx hb dX9_guessBehind_40 ?_
    refine lv_iload_n hx hb dX9_guessBehind_41 rfl (lv_at hl 3 rfl) ?_
    refine lv_iconst (v := 1) hx hb dX9_guessBehind_42 (by decide) ?_
    refine lv_iand hx hb dX9_guessBehind_43 ?_
    refine lv_if_le (tgt := 54) hx hb dX9_guessBehind_44 (by decide) (fun g_5 => ?_) (fun g_5 => ?_)
    · rw [if_pos g_5] at hf
      refine lv_iconst (v := 0) hx hb dX9_guessBehind_54 (by decide) ?_
      exact b55 0 (xs1 + xs0) _ H locs ls hM hS (lv_sub hl [0, 1, 2, 3] rfl) hf
    · rw [if_neg g_5] at hf
      refine lv_iload hx hb dX9_guessBehind_47 (lv_at hl 4 rfl) ?_
      refine lv_iconst (v := 4) hx hb dX9_guessBehind_49 (by decide) ?_
      refine lv_idiv hx hb dX9_guessBehind_50 (by decide) ?_
      refine lv_goto (tgt := 55) hx hb dX9_guessBehind_51 (by decide) ?_
      exact b55 (x4 / 4) (xs1 + xs0) _ H locs ls hM hS (lv_sub hl [0, 1, 2, 3] rfl) hf
  have b25 : ∀ (x4 : Int32) (xs0 : Int32) (xs1 : Int32) (M : Mem) (H : Heap) (locs : List Loc) (ls : Array Slot), Mh G M H → va_S (gA G) s.heap H locs → lv_has ls 7 [(0, .ref a0), (1, .int p1), (2, .int p2), (3, .int p3), (4, .int x4)] → f_X9_guessBehind_b25 a0 p1 p2 p3 x4 xs0 xs1 M = some r → W p l e ({ frames := 0, cells := 0, slots := 0, locals := 0 } : Room) s m args below meth c H locs 0 0 (MQ below (QV G (some (.int r)) M) args s 0 0 (gA G)) (F0 m 25 ls [.int xs0, .int xs1]) := by
    intro x4 xs0 xs1 M H locs ls hM hS hl hf
    rw [f_X9_guessBehind_b25] at hf
    refine lv_iadd hx hb dX9_guessBehind_25 ?_
    refine lv_iload_n hx hb dX9_guessBehind_26 rfl (lv_at hl 3 rfl) ?_
    refine lv_iconst (v := 2) hx hb dX9_guessBehind_27 (by decide) ?_
    refine lv_iand hx hb dX9_guessBehind_28 ?_
    refine lv_if_le (tgt := 39) hx hb dX9_guessBehind_29 (by decide) (fun g_6 => ?_) (fun g_6 => ?_)
    · rw [if_pos g_6] at hf
      refine lv_iconst (v := 0) hx hb dX9_guessBehind_39 (by decide) ?_
      exact b40 x4 0 (xs1 + xs0) _ H locs ls hM hS (lv_sub hl [0, 1, 2, 3, 4] rfl) hf
    · rw [if_neg g_6] at hf
      refine lv_iload hx hb dX9_guessBehind_32 (lv_at hl 4 rfl) ?_
      refine lv_iconst (v := 2) hx hb dX9_guessBehind_34 (by decide) ?_
      refine lv_idiv hx hb dX9_guessBehind_35 (by decide) ?_
      refine lv_goto (tgt := 40) hx hb dX9_guessBehind_36 (by decide) ?_
      exact b40 x4 (x4 / 2) (xs1 + xs0) _ H locs ls hM hS (lv_sub hl [0, 1, 2, 3, 4] rfl) hf
  rw [f_X9_guessBehind] at hf
  obtain ⟨H, hHe⟩ : ∃ H, H = s.heap := ⟨_, rfl⟩
  obtain ⟨locs, hLe⟩ : ∃ L : List Loc, L = [] := ⟨_, rfl⟩
  rw [← hHe] at hM
  have hS : va_S (gA G) s.heap H locs := by rw [hHe, hLe]; exact va_S.rf
  suffices hW : W p l e ({ frames := 0, cells := 0, slots := 0, locals := 0 } : Room) s m args below meth c H locs 0 0 (MQ below (QV G (some (.int r)) M) args s 0 0 (gA G)) (F0 m 0 ls []) by rw [hHe, hLe] at hW; exact hW
  refine lv_aload_n hx hb dX9_guessBehind_0 rfl (lv_at hl 0 rfl) ?_
  refine s_get hx hb (lay_9 hts) hown hK hM (c_10 h0) rfl 6 (by decide) rfl rfl (tk_969 hts) dX9_guessBehind_1 ?_
  refine lv_iload_n hx hb dX9_guessBehind_4 rfl (lv_at hl 2 rfl) ?_
  obtain ⟨h_7, hf⟩ := gd_e hf
  refine s_iald 25 hx hb hK hM (ky_10_6 hG h0) (by decide) h_7 dX9_guessBehind_5 ?_
  obtain ⟨y8, ey8, hf⟩ := nb_e hf
  refine s_nm ey8 ?_
  refine lv_istore (lv' := [(4, .int y8), (0, .ref a0), (1, .int p1), (2, .int p2), (3, .int p3)]) hx hb dX9_guessBehind_6 hl (by decide) rfl (fun ls hl => ?_)
  refine lv_iload hx hb dX9_guessBehind_8 (lv_at hl 0 rfl) ?_
  refine lv_bipush (v := 8) hx hb dX9_guessBehind_10 (by decide) ?_
  refine lv_idiv hx hb dX9_guessBehind_12 (by decide) ?_
  refine lv_iload_n hx hb dX9_guessBehind_13 rfl (lv_at hl 4 rfl) ?_
  refine lv_iconst (v := 4) hx hb dX9_guessBehind_14 (by decide) ?_
  refine lv_iand hx hb dX9_guessBehind_15 ?_
  refine lv_if_le (tgt := 24) hx hb dX9_guessBehind_16 (by decide) (fun g_9 => ?_) (fun g_9 => ?_)
  · rw [if_pos g_9] at hf
    refine lv_iconst (v := 0) hx hb dX9_guessBehind_24 (by decide) ?_
    exact b25 y8 0 (y8 / 8) _ H locs ls hM hS (lv_sub hl [1, 2, 3, 4, 0] rfl) hf
  · rw [if_neg g_9] at hf
    refine lv_iload hx hb dX9_guessBehind_19 (lv_at hl 0 rfl) ?_
    refine lv_goto (tgt := 25) hx hb dX9_guessBehind_21 (by decide) ?_
    exact b25 y8 y8 (y8 / 8) _ H locs ls hM hS (lv_sub hl [1, 2, 3, 4, 0] rfl) hf
def f_X9_indexBehind_b23 (p0 : Int32) (p1 : Int32) (xs0 : Int32) (M : Mem) : Option Int32 := if 0 ≤ xs0 then (if xs0 ≤ (24 : Int32) then (some xs0) else (some 24)) else (some 0)
def f_X9_indexBehind (p0 : Int32) (p1 : Int32) (M : Mem) : Option Int32 := nb (p1 &&& 7) fun y3 => if (4 : Int32) ≤ y3 then (f_X9_indexBehind_b23 p0 p1 (p0 + ((2 : Int32) * (y3 - 3))) M) else (f_X9_indexBehind_b23 p0 p1 (p0 - 1) M)
set_option maxHeartbeats 4000000 in
set_option maxRecDepth 100000 in
theorem k_X9_indexBehind (G : Gt) (hG : gOK G) (l : Launch) (p0 : Int32) (p1 : Int32) (M : Mem) {r : Int32} (hf : f_X9_indexBehind p0 p1 M = some r) : Kc G l yX9_indexBehind cX9_indexBehind 4 (some .int) ({ frames := 0, cells := 0, slots := 0, locals := 0 } : Room) [.int p0, .int p1] M (some (.int r)) M := by
  refine start (by decide) (Nat.le_of_ble_eq_true rfl) ?_
  intro p e s m args below meth c ls hx hb hr hown hml hlocks hts hV hM hl
  have hown : s.vm.findClass "FoldedVoicesModel" = some m.cls := hown
  have hK := hG.1.moved hV
  have hS : va_S (gA G) s.heap s.heap [] := va_S.rf
  have hl : lv_has ls 4 [(0, .int p0), (1, .int p1)] := hl
  have hM0 := hM
  have b23 : ∀ (xs0 : Int32) (M : Mem) (H : Heap) (locs : List Loc) (ls : Array Slot), Mh G M H → va_S (gA G) s.heap H locs → lv_has ls 4 [(0, .int p0), (1, .int p1)] → f_X9_indexBehind_b23 p0 p1 xs0 M = some r → W p l e ({ frames := 0, cells := 0, slots := 0, locals := 0 } : Room) s m args below meth c H locs 0 0 (MQ below (QV G (some (.int r)) M) args s 0 0 (gA G)) (F0 m 23 ls [.int xs0]) := by
    intro xs0 M H locs ls hM hS hl hf
    rw [f_X9_indexBehind_b23] at hf
    refine lv_istore_n (lv' := [(3, .int xs0), (0, .int p0), (1, .int p1)]) hx hb dX9_indexBehind_23 rfl hl (by decide) rfl (fun ls hl => ?_)
    refine lv_iload_n hx hb dX9_indexBehind_24 rfl (lv_at hl 0 rfl) ?_
    refine lv_if_ge (tgt := 32) hx hb dX9_indexBehind_25 (by decide) (fun g_1 => ?_) (fun g_1 => ?_)
    · rw [if_pos g_1] at hf
      refine lv_iload_n hx hb dX9_indexBehind_32 rfl (lv_at hl 0 rfl) ?_
      refine lv_bipush (v := 24) hx hb dX9_indexBehind_33 (by decide) ?_
      refine lv_icmp_le (tgt := 43) hx hb dX9_indexBehind_35 (by decide) (fun g_2 => ?_) (fun g_2 => ?_)
      · rw [if_pos g_2] at hf
        refine lv_iload_n hx hb dX9_indexBehind_43 rfl (lv_at hl 0 rfl) ?_
        exact ef_ip hx hb hr hlocks hM hS hf dX9_indexBehind_44
      · rw [if_neg g_2] at hf
        refine lv_bipush (v := 24) hx hb dX9_indexBehind_38 (by decide) ?_
        refine lv_goto (tgt := 44) hx hb dX9_indexBehind_40 (by decide) ?_
        exact ef_ip hx hb hr hlocks hM hS hf dX9_indexBehind_44
    · rw [if_neg g_1] at hf
      refine lv_iconst (v := 0) hx hb dX9_indexBehind_28 (by decide) ?_
      refine lv_goto (tgt := 44) hx hb dX9_indexBehind_29 (by decide) ?_
      exact ef_ip hx hb hr hlocks hM hS hf dX9_indexBehind_44
  rw [f_X9_indexBehind] at hf
  obtain ⟨H, hHe⟩ : ∃ H, H = s.heap := ⟨_, rfl⟩
  obtain ⟨locs, hLe⟩ : ∃ L : List Loc, L = [] := ⟨_, rfl⟩
  rw [← hHe] at hM
  have hS : va_S (gA G) s.heap H locs := by rw [hHe, hLe]; exact va_S.rf
  suffices hW : W p l e ({ frames := 0, cells := 0, slots := 0, locals := 0 } : Room) s m args below meth c H locs 0 0 (MQ below (QV G (some (.int r)) M) args s 0 0 (gA G)) (F0 m 0 ls []) by rw [hHe, hLe] at hW; exact hW
  refine lv_iload_n hx hb dX9_indexBehind_0 rfl (lv_at hl 1 rfl) ?_
  refine lv_bipush (v := 7) hx hb dX9_indexBehind_1 (by decide) ?_
  refine lv_iand hx hb dX9_indexBehind_3 ?_
  obtain ⟨y3, ey3, hf⟩ := nb_e hf
  refine s_nm ey3 ?_
  refine lv_istore_n (lv' := [(2, .int y3), (0, .int p0), (1, .int p1)]) hx hb dX9_indexBehind_4 rfl hl (by decide) rfl (fun ls hl => ?_)
  refine lv_iload_n hx hb dX9_indexBehind_5 rfl (lv_at hl 0 rfl) ?_
  refine lv_iconst (v := 4) hx hb dX9_indexBehind_6 (by decide) ?_
  refine lv_icmp_ge (tgt := 16) hx hb dX9_indexBehind_7 (by decide) (fun g_4 => ?_) (fun g_4 => ?_)
  · rw [if_pos g_4] at hf
    refine lv_iload_n hx hb dX9_indexBehind_16 rfl (lv_at hl 1 rfl) ?_
    refine lv_iconst (v := 2) hx hb dX9_indexBehind_17 (by decide) ?_
    refine lv_iload_n hx hb dX9_indexBehind_18 rfl (lv_at hl 0 rfl) ?_
    refine lv_iconst (v := 3) hx hb dX9_indexBehind_19 (by decide) ?_
    refine lv_isub hx hb dX9_indexBehind_20 ?_
    refine lv_imul hx hb dX9_indexBehind_21 ?_
    refine lv_iadd hx hb dX9_indexBehind_22 ?_
    exact b23 (p0 + ((2 : Int32) * (y3 - 3))) _ H locs ls hM hS (lv_sub hl [1, 2] rfl) hf
  · rw [if_neg g_4] at hf
    refine lv_iload_n hx hb dX9_indexBehind_10 rfl (lv_at hl 1 rfl) ?_
    refine lv_iconst (v := 1) hx hb dX9_indexBehind_11 (by decide) ?_
    refine lv_isub hx hb dX9_indexBehind_12 ?_
    refine lv_goto (tgt := 23) hx hb dX9_indexBehind_13 (by decide) ?_
    exact b23 (p0 - 1) _ H locs ls hM hS (lv_sub hl [1, 2] rfl) hf
def f_X9_follow (a0 : Nat) (p1 : Int32) (p2 : Int32) (p3 : Int32) (M : Mem) : Option Mem := vb (f_X9_of a0 p1 (p2 + 1) M) fun r2 => vb (f_X9_of a0 p1 p2 M) fun r4 => vb (f_X9_guessBehind a0 r4 r2 p3 M) fun r6 => vb (f_X9_put a0 p1 p2 r6 M) fun M8 => vb (f_X9_indexBehind r2 p3 M8) fun r10 => vb (f_X9_put a0 p1 (p2 + 1) r10 M8) fun M12 => some M12
set_option maxHeartbeats 4000000 in
set_option maxRecDepth 100000 in
theorem k_X9_follow (G : Gt) (hG : gOK G) (l : Launch) (a0 : Nat) (h0 : gK G a0 = 10) (p1 : Int32) (p2 : Int32) (p3 : Int32) (M : Mem) {M' : Mem} (hf : f_X9_follow a0 p1 p2 p3 M = some M') : Kc G l yX9_follow cX9_follow 5 none ({ frames := 1, cells := 0, slots := 0, locals := 26 } : Room) [.ref a0, .int p1, .int p2, .int p3] M none M' := by
  refine start (by decide) (Nat.le_of_ble_eq_true rfl) ?_
  intro p e s m args below meth c ls hx hb hr hown hml hlocks hts hV hM hl
  have hown : s.vm.findClass "FoldedVoicesModel" = some m.cls := hown
  have hK := hG.1.moved hV
  have hS : va_S (gA G) s.heap s.heap [] := va_S.rf
  have hl : lv_has ls 5 [(0, .ref a0), (1, .int p1), (2, .int p2), (3, .int p3)] := hl
  have hM0 := hM
  rw [f_X9_follow] at hf
  refine lv_aload_n hx hb dX9_follow_0 rfl (lv_at hl 0 rfl) ?_
  refine lv_iload_n hx hb dX9_follow_1 rfl (lv_at hl 1 rfl) ?_
  refine lv_iload_n hx hb dX9_follow_2 rfl (lv_at hl 2 rfl) ?_
  refine lv_iconst (v := 1) hx hb dX9_follow_3 (by decide) ?_
  refine lv_iadd hx hb dX9_follow_4 ?_
  obtain ⟨r2, e_1, hf⟩ := vb_e hf
  refine c_Vi hx hb hml hown hts hV hK hM hS (As := [.int p1, .int (p2 + 1)]) (rest := []) (k_X9_of G hG l a0 h0 p1 (p2 + 1) M e_1) w_X9_of (tk_1037 hts) (c_10 h0) rfl rfl ⟨⟨rfl, rfl⟩, Nat.le_of_ble_eq_true rfl, Nat.le_of_ble_eq_true rfl⟩ ⟨Nat.zero_le _, Nat.zero_le _⟩ rfl hl.1 rfl (Nat.le_of_ble_eq_true rfl) dX9_follow_5 (fun H locs hM hS => ?_)
  refine lv_istore (lv' := [(4, .int r2), (0, .ref a0), (1, .int p1), (2, .int p2), (3, .int p3)]) hx hb dX9_follow_8 hl (by decide) rfl (fun ls hl => ?_)
  refine lv_aload_n hx hb dX9_follow_10 rfl (lv_at hl 1 rfl) ?_
  refine lv_iload_n hx hb dX9_follow_11 rfl (lv_at hl 2 rfl) ?_
  refine lv_iload_n hx hb dX9_follow_12 rfl (lv_at hl 3 rfl) ?_
  refine lv_aload_n hx hb dX9_follow_13 rfl (lv_at hl 1 rfl) ?_
  refine lv_aload_n hx hb dX9_follow_14 rfl (lv_at hl 1 rfl) ?_
  refine lv_iload_n hx hb dX9_follow_15 rfl (lv_at hl 2 rfl) ?_
  refine lv_iload_n hx hb dX9_follow_16 rfl (lv_at hl 3 rfl) ?_
  obtain ⟨r4, e_3, hf⟩ := vb_e hf
  refine c_Vi hx hb hml hown hts hV hK hM hS (As := [.int p1, .int p2]) (rest := [.ref a0, .int p2, .int p1, .ref a0]) (k_X9_of G hG l a0 h0 p1 p2 M e_3) w_X9_of (tk_1037 hts) (c_10 h0) rfl rfl ⟨⟨rfl, rfl⟩, Nat.le_of_ble_eq_true rfl, Nat.le_of_ble_eq_true rfl⟩ ⟨Nat.zero_le _, Nat.zero_le _⟩ rfl hl.1 rfl (Nat.le_of_ble_eq_true rfl) dX9_follow_17 (fun H locs hM hS => ?_)
  refine lv_iload hx hb dX9_follow_20 (lv_at hl 0 rfl) ?_
  refine lv_iload_n hx hb dX9_follow_22 rfl (lv_at hl 4 rfl) ?_
  obtain ⟨r6, e_5, hf⟩ := vb_e hf
  refine c_Vi hx hb hml hown hts hV hK hM hS (As := [.int r4, .int r2, .int p3]) (rest := [.int p2, .int p1, .ref a0]) (k_X9_guessBehind G hG l a0 h0 r4 r2 p3 M e_5) w_X9_guessBehind (tk_1076 hts) (c_10 h0) rfl rfl ⟨⟨rfl, rfl⟩, Nat.le_of_ble_eq_true rfl, Nat.le_of_ble_eq_true rfl⟩ ⟨Nat.zero_le _, Nat.zero_le _⟩ rfl hl.1 rfl (Nat.le_of_ble_eq_true rfl) dX9_follow_23 (fun H locs hM hS => ?_)
  obtain ⟨M8, e_7, hf⟩ := vb_e hf
  refine c_Vv hx hb hml hown hts hV hK hM hS (As := [.int p1, .int p2, .int r6]) (rest := []) (k_X9_put G hG l a0 h0 p1 p2 r6 M e_7) w_X9_put (tk_1064 hts) (c_10 h0) rfl rfl ⟨⟨rfl, rfl⟩, Nat.le_of_ble_eq_true rfl, Nat.le_of_ble_eq_true rfl⟩ ⟨Nat.zero_le _, Nat.zero_le _⟩ rfl hl.1 rfl (Nat.le_of_ble_eq_true rfl) dX9_follow_26 (fun H locs hM hS => ?_)
  refine lv_aload_n hx hb dX9_follow_29 rfl (lv_at hl 1 rfl) ?_
  refine lv_iload_n hx hb dX9_follow_30 rfl (lv_at hl 2 rfl) ?_
  refine lv_iload_n hx hb dX9_follow_31 rfl (lv_at hl 3 rfl) ?_
  refine lv_iconst (v := 1) hx hb dX9_follow_32 (by decide) ?_
  refine lv_iadd hx hb dX9_follow_33 ?_
  refine lv_iload hx hb dX9_follow_34 (lv_at hl 0 rfl) ?_
  refine lv_iload_n hx hb dX9_follow_36 rfl (lv_at hl 4 rfl) ?_
  obtain ⟨r10, e_9, hf⟩ := vb_e hf
  refine c_Si hx hb hml hown hts hV hM hS (As := [.int r2, .int p3]) (rest := [.int (p2 + 1), .int p1, .ref a0]) (k_X9_indexBehind G hG l r2 p3 M8 e_9) w_X9_indexBehind (tk_1080 hts) ⟨⟨rfl, rfl⟩, Nat.le_of_ble_eq_true rfl, Nat.le_of_ble_eq_true rfl⟩ ⟨Nat.zero_le _, Nat.zero_le _⟩ rfl hl.1 rfl (Nat.le_of_ble_eq_true rfl) dX9_follow_37 (fun H locs hM hS => ?_)
  obtain ⟨M12, e_11, hf⟩ := vb_e hf
  refine c_Vv hx hb hml hown hts hV hK hM hS (As := [.int p1, .int (p2 + 1), .int r10]) (rest := []) (k_X9_put G hG l a0 h0 p1 (p2 + 1) r10 M8 e_11) w_X9_put (tk_1064 hts) (c_10 h0) rfl rfl ⟨⟨rfl, rfl⟩, Nat.le_of_ble_eq_true rfl, Nat.le_of_ble_eq_true rfl⟩ ⟨Nat.zero_le _, Nat.zero_le _⟩ rfl hl.1 rfl (Nat.le_of_ble_eq_true rfl) dX9_follow_40 (fun H locs hM hS => ?_)
  exact ef_v hx hb hr hlocks hM hS hf dX9_follow_43
def f_X9_makesCode (a0 : Nat) (p1 : Int32) (M : Mem) : Option Int32 := vb (f_X9_of a0 p1 2 M) fun r2 => gd (ix (0 : Int32) 626) <| if (r2 + 1) < (mI M (a0 + 1) (0 : Int32).toNatClampNeg) then (some 0) else (some 1)
set_option maxHeartbeats 4000000 in
set_option maxRecDepth 100000 in
theorem k_X9_makesCode (G : Gt) (hG : gOK G) (l : Launch) (a0 : Nat) (h0 : gK G a0 = 10) (p1 : Int32) (M : Mem) {r : Int32} (hf : f_X9_makesCode a0 p1 M = some r) : Kc G l yX9_makesCode cX9_makesCode 2 (some .boolean) ({ frames := 1, cells := 0, slots := 0, locals := 22 } : Room) [.ref a0, .int p1] M (some (.int r)) M := by
  refine start (by decide) (Nat.le_of_ble_eq_true rfl) ?_
  intro p e s m args below meth c ls hx hb hr hown hml hlocks hts hV hM hl
  have hown : s.vm.findClass "FoldedVoicesModel" = some m.cls := hown
  have hK := hG.1.moved hV
  have hS : va_S (gA G) s.heap s.heap [] := va_S.rf
  have hl : lv_has ls 2 [(0, .ref a0), (1, .int p1)] := hl
  have hM0 := hM
  rw [f_X9_makesCode] at hf
  refine lv_aload_n hx hb dX9_makesCode_0 rfl (lv_at hl 0 rfl) ?_
  refine lv_iload_n hx hb dX9_makesCode_1 rfl (lv_at hl 1 rfl) ?_
  refine lv_iconst (v := 2) hx hb dX9_makesCode_2 (by decide) ?_
  obtain ⟨r2, e_1, hf⟩ := vb_e hf
  refine c_Vi hx hb hml hown hts hV hK hM hS (As := [.int p1, .int 2]) (rest := []) (k_X9_of G hG l a0 h0 p1 2 M e_1) w_X9_of (tk_1037 hts) (c_10 h0) rfl rfl ⟨⟨rfl, rfl⟩, Nat.le_of_ble_eq_true rfl, Nat.le_of_ble_eq_true rfl⟩ ⟨Nat.zero_le _, Nat.zero_le _⟩ rfl hl.1 rfl (Nat.le_of_ble_eq_true rfl) dX9_makesCode_3 (fun H locs hM hS => ?_)
  refine lv_iconst (v := 1) hx hb dX9_makesCode_6 (by decide) ?_
  refine lv_iadd hx hb dX9_makesCode_7 ?_
  refine lv_aload_n hx hb dX9_makesCode_8 rfl (lv_at hl 0 rfl) ?_
  refine s_get hx hb (lay_9 hts) hown hK hM (c_10 h0) rfl 0 (by decide) rfl rfl (tk_963 hts) dX9_makesCode_9 ?_
  refine lv_iconst (v := 0) hx hb dX9_makesCode_12 (by decide) ?_
  obtain ⟨h_3, hf⟩ := gd_e hf
  refine s_iald 626 hx hb hK hM (ky_10_0 hG h0) (by decide) h_3 dX9_makesCode_13 ?_
  refine lv_icmp_lt (tgt := 21) hx hb dX9_makesCode_14 (by decide) (fun g_4 => ?_) (fun g_4 => ?_)
  · rw [if_pos g_4] at hf
    refine lv_iconst (v := 0) hx hb dX9_makesCode_21 (by decide) ?_
    exact ef_zp hx hb hr hlocks hM hS (nz_n (Or.inl rfl)) hf dX9_makesCode_22
  · rw [if_neg g_4] at hf
    refine lv_iconst (v := 1) hx hb dX9_makesCode_17 (by decide) ?_
    refine lv_goto (tgt := 22) hx hb dX9_makesCode_18 (by decide) ?_
    exact ef_zp hx hb hr hlocks hM hS (nz_n (Or.inr rfl)) hf dX9_makesCode_22
def f_X9_canSay_b31 (a0 : Nat) (p1 : Int32) (xs0 : Int32) (xs1 : Int32) (M : Mem) : Option Int32 := gd (ix (2 : Int32) 626) <| if (mI M (a0 + 1) (2 : Int32).toNatClampNeg) ≤ (xs1 + xs0) then (some 0) else (some 1)
def f_X9_canSay (a0 : Nat) (p1 : Int32) (M : Mem) : Option Int32 := vb (f_X9_of a0 p1 38 M) fun r4 => if r4 < (8 : Int32) then (some 1) else (vb (f_X9_of a0 p1 4 M) fun r7 => vb (f_X9_makesCode a0 p1 M) fun r9 => if r9 = 0 then (f_X9_canSay_b31 a0 p1 0 r7 M) else (f_X9_canSay_b31 a0 p1 1 r7 M))
set_option maxHeartbeats 4000000 in
set_option maxRecDepth 100000 in
theorem k_X9_canSay (G : Gt) (hG : gOK G) (l : Launch) (a0 : Nat) (h0 : gK G a0 = 10) (p1 : Int32) (M : Mem) {r : Int32} (hf : f_X9_canSay a0 p1 M = some r) : Kc G l yX9_canSay cX9_canSay 2 (some .boolean) ({ frames := 2, cells := 0, slots := 0, locals := 43 } : Room) [.ref a0, .int p1] M (some (.int r)) M := by
  refine start (by decide) (Nat.le_of_ble_eq_true rfl) ?_
  intro p e s m args below meth c ls hx hb hr hown hml hlocks hts hV hM hl
  have hown : s.vm.findClass "FoldedVoicesModel" = some m.cls := hown
  have hK := hG.1.moved hV
  have hS : va_S (gA G) s.heap s.heap [] := va_S.rf
  have hl : lv_has ls 2 [(0, .ref a0), (1, .int p1)] := hl
  have hM0 := hM
  have b31 : ∀ (xs0 : Int32) (xs1 : Int32) (M : Mem) (H : Heap) (locs : List Loc) (ls : Array Slot), Mh G M H → va_S (gA G) s.heap H locs → lv_has ls 2 [(0, .ref a0), (1, .int p1)] → f_X9_canSay_b31 a0 p1 xs0 xs1 M = some r → W p l e ({ frames := 2, cells := 0, slots := 0, locals := 43 } : Room) s m args below meth c H locs 0 0 (MQ below (QV G (some (.int r)) M) args s 0 0 (gA G)) (F0 m 31 ls [.int xs0, .int xs1]) := by
    intro xs0 xs1 M H locs ls hM hS hl hf
    rw [f_X9_canSay_b31] at hf
    refine lv_iadd hx hb dX9_canSay_31 ?_
    refine lv_aload_n hx hb dX9_canSay_32 rfl (lv_at hl 0 rfl) ?_
    refine s_get hx hb (lay_9 hts) hown hK hM (c_10 h0) rfl 0 (by decide) rfl rfl (tk_963 hts) dX9_canSay_33 ?_
    refine lv_iconst (v := 2) hx hb dX9_canSay_36 (by decide) ?_
    obtain ⟨h_1, hf⟩ := gd_e hf
    refine s_iald 626 hx hb hK hM (ky_10_0 hG h0) (by decide) h_1 dX9_canSay_37 ?_
    refine lv_icmp_ge (tgt := 45) hx hb dX9_canSay_38 (by decide) (fun g_2 => ?_) (fun g_2 => ?_)
    · rw [if_pos g_2] at hf
      refine lv_iconst (v := 0) hx hb dX9_canSay_45 (by decide) ?_
      exact ef_zp hx hb hr hlocks hM hS (nz_n (Or.inl rfl)) hf dX9_canSay_46
    · rw [if_neg g_2] at hf
      refine lv_iconst (v := 1) hx hb dX9_canSay_41 (by decide) ?_
      refine lv_goto (tgt := 46) hx hb dX9_canSay_42 (by decide) ?_
      exact ef_zp hx hb hr hlocks hM hS (nz_n (Or.inr rfl)) hf dX9_canSay_46
  rw [f_X9_canSay] at hf
  obtain ⟨H, hHe⟩ : ∃ H, H = s.heap := ⟨_, rfl⟩
  obtain ⟨locs, hLe⟩ : ∃ L : List Loc, L = [] := ⟨_, rfl⟩
  rw [← hHe] at hM
  have hS : va_S (gA G) s.heap H locs := by rw [hHe, hLe]; exact va_S.rf
  suffices hW : W p l e ({ frames := 2, cells := 0, slots := 0, locals := 43 } : Room) s m args below meth c H locs 0 0 (MQ below (QV G (some (.int r)) M) args s 0 0 (gA G)) (F0 m 0 ls []) by rw [hHe, hLe] at hW; exact hW
  refine lv_aload_n hx hb dX9_canSay_0 rfl (lv_at hl 0 rfl) ?_
  refine lv_iload_n hx hb dX9_canSay_1 rfl (lv_at hl 1 rfl) ?_
  refine lv_bipush (v := 38) hx hb dX9_canSay_2 (by decide) ?_
  obtain ⟨r4, e_3, hf⟩ := vb_e hf
  refine c_Vi hx hb hml hown hts hV hK hM hS (As := [.int p1, .int 38]) (rest := []) (k_X9_of G hG l a0 h0 p1 38 M e_3) w_X9_of (tk_1037 hts) (c_10 h0) rfl rfl ⟨⟨rfl, rfl⟩, Nat.le_of_ble_eq_true rfl, Nat.le_of_ble_eq_true rfl⟩ ⟨Nat.zero_le _, Nat.zero_le _⟩ rfl hl.1 rfl (Nat.le_of_ble_eq_true rfl) dX9_canSay_4 (fun H locs hM hS => ?_)
  refine lv_bipush (v := 8) hx hb dX9_canSay_7 (by decide) ?_
  refine lv_icmp_lt (tgt := 41) hx hb dX9_canSay_9 (by decide) (fun g_5 => ?_) (fun g_5 => ?_)
  · rw [if_pos g_5] at hf
    refine lv_iconst (v := 1) hx hb dX9_canSay_41 (by decide) ?_
    refine lv_goto (tgt := 46) hx hb dX9_canSay_42 (by decide) ?_
    exact ef_zp hx hb hr hlocks hM hS (nz_n (Or.inr rfl)) hf dX9_canSay_46
  · rw [if_neg g_5] at hf
    refine lv_aload_n hx hb dX9_canSay_12 rfl (lv_at hl 0 rfl) ?_
    refine lv_iload_n hx hb dX9_canSay_13 rfl (lv_at hl 1 rfl) ?_
    refine lv_iconst (v := 4) hx hb dX9_canSay_14 (by decide) ?_
    obtain ⟨r7, e_6, hf⟩ := vb_e hf
    refine c_Vi hx hb hml hown hts hV hK hM hS (As := [.int p1, .int 4]) (rest := []) (k_X9_of G hG l a0 h0 p1 4 M e_6) w_X9_of (tk_1037 hts) (c_10 h0) rfl rfl ⟨⟨rfl, rfl⟩, Nat.le_of_ble_eq_true rfl, Nat.le_of_ble_eq_true rfl⟩ ⟨Nat.zero_le _, Nat.zero_le _⟩ rfl hl.1 rfl (Nat.le_of_ble_eq_true rfl) dX9_canSay_15 (fun H locs hM hS => ?_)
    refine lv_aload_n hx hb dX9_canSay_18 rfl (lv_at hl 0 rfl) ?_
    refine lv_iload_n hx hb dX9_canSay_19 rfl (lv_at hl 1 rfl) ?_
    obtain ⟨r9, e_8, hf⟩ := vb_e hf
    refine c_Vi hx hb hml hown hts hV hK hM hS (As := [.int p1]) (rest := [.int r7]) (k_X9_makesCode G hG l a0 h0 p1 M e_8) w_X9_makesCode (tk_1041 hts) (c_10 h0) rfl rfl ⟨⟨rfl, rfl⟩, Nat.le_of_ble_eq_true rfl, Nat.le_of_ble_eq_true rfl⟩ ⟨Nat.zero_le _, Nat.zero_le _⟩ rfl hl.1 rfl (Nat.le_of_ble_eq_true rfl) dX9_canSay_20 (fun H locs hM hS => ?_)
    refine lv_if_eq (tgt := 30) hx hb dX9_canSay_23 (by decide) (fun g_10 => ?_) (fun g_10 => ?_)
    · rw [if_pos g_10] at hf
      refine lv_iconst (v := 0) hx hb dX9_canSay_30 (by decide) ?_
      exact b31 0 r7 _ H locs ls hM hS (lv_sub hl [0, 1] rfl) hf
    · rw [if_neg g_10] at hf
      refine lv_iconst (v := 1) hx hb dX9_canSay_26 (by decide) ?_
      refine lv_goto (tgt := 31) hx hb dX9_canSay_27 (by decide) ?_
      exact b31 1 r7 _ H locs ls hM hS (lv_sub hl [0, 1] rfl) hf
def f_X9_makePacket_b209 (a0 : Nat) (p1 : Int32) (xs0 : Int32) (xs1 : Int32) (xs2 : Int32) (qs3 : Nat) (M : Mem) : Option Mem := vb (f_X9_put qs3 xs2 xs1 xs0 M) fun M2 => vb (f_X9_put a0 p1 4 0 M2) fun M4 => vb (f_X9_add a0 p1 21 1 M4) fun M6 => vb (f_X9_add a0 p1 38 1 M6) fun M8 => some M8
def f_X9_makePacket_b145 (a0 : Nat) (p1 : Int32) : Nat → Int32 → Int32 → Int32 → Mem → Option Mem
  | 0, _, _, _, _ => none
  | n + 1, x2, x3, x4, M => if (16 : Int32) ≤ x4 then (if x3 = 0 then (vb (f_X9_of a0 p1 23 M) fun r12 => f_X9_makePacket_b209 a0 p1 (r12 + 1) 23 p1 a0 M) else (f_X9_makePacket_b209 a0 p1 0 23 p1 a0 M)) else (vb (f_X9_of a0 p1 ((5 : Int32) + x4) M) fun r14 => gd (ix ((x2 + 5) + x4) 626) <| nb (sI M (a0 + 1) ((x2 + 5) + x4).toNatClampNeg r14) fun M16 => vb (f_X9_put a0 p1 ((5 : Int32) + x4) 0 M16) fun M18 => nb (x4 + 1) fun y19 => f_X9_makePacket_b145 a0 p1 n x2 x3 y19 M18)
def f_X9_makePacket_b141 (a0 : Nat) (p1 : Int32) (x2 : Int32) (x3 : Int32) (xs0 : Int32) (xs1 : Int32) (qs2 : Nat) (M : Mem) : Option Mem := gd (ix xs1 626) <| nb (sI M qs2 xs1.toNatClampNeg xs0) fun M21 => f_X9_makePacket_b145 a0 p1 lfuel x2 x3 0 M21
def f_X9_makePacket_b116 (a0 : Nat) (p1 : Int32) (x2 : Int32) (x3 : Int32) (xs0 : Int32) (xs1 : Int32) (qs2 : Nat) (M : Mem) : Option Mem := gd (ix xs1 626) <| nb (sI M qs2 xs1.toNatClampNeg xs0) fun M23 => if x3 = 0 then (f_X9_makePacket_b141 a0 p1 x2 x3 (-10000) (x2 + 4) (a0 + 1) M23) else (vb (f_X9_of a0 p1 25 M23) fun r26 => f_X9_makePacket_b141 a0 p1 x2 x3 r26 (x2 + 4) (a0 + 1) M23)
def f_X9_makePacket_b91 (a0 : Nat) (p1 : Int32) (x2 : Int32) (x3 : Int32) (xs0 : Int32) (xs1 : Int32) (qs2 : Nat) (M : Mem) : Option Mem := gd (ix xs1 626) <| nb (sI M qs2 xs1.toNatClampNeg xs0) fun M28 => if x3 = 0 then (f_X9_makePacket_b116 a0 p1 x2 x3 (-10000) (x2 + 3) (a0 + 1) M28) else (vb (f_X9_of a0 p1 24 M28) fun r31 => f_X9_makePacket_b116 a0 p1 x2 x3 r31 (x2 + 3) (a0 + 1) M28)
def f_X9_makePacket_b45 (a0 : Nat) (p1 : Int32) (x2 : Int32) (xs0 : Int32) (M : Mem) : Option Mem := vb (f_X9_of a0 p1 21 M) fun r33 => gd (ix (x2 + 0) 626) <| nb (sI M (a0 + 1) (x2 + 0).toNatClampNeg r33) fun M35 => vb (f_X9_of a0 p1 4 M35) fun r37 => gd (ix (x2 + 1) 626) <| nb (sI M35 (a0 + 1) (x2 + 1).toNatClampNeg r37) fun M39 => if xs0 = 0 then (f_X9_makePacket_b91 a0 p1 x2 xs0 0 (x2 + 2) (a0 + 1) M39) else (f_X9_makePacket_b91 a0 p1 x2 xs0 1 (x2 + 2) (a0 + 1) M39)
def f_X9_makePacket_b40 (a0 : Nat) (p1 : Int32) (x2 : Int32) (M : Mem) : Option Mem := f_X9_makePacket_b45 a0 p1 x2 1 M
def f_X9_makePacket (a0 : Nat) (p1 : Int32) (M : Mem) : Option Mem := vb (f_X9_of a0 p1 38 M) fun r42 => vb (f_X9_packetAt p1 r42 M) fun r44 => vb (f_X9_of a0 p1 21 M) fun r46 => if r46 = 0 then (f_X9_makePacket_b40 a0 p1 r44 M) else (vb (f_X9_of a0 p1 23 M) fun r49 => gd (ix (3 : Int32) 626) <| if (r49 + 1) < (mI M (a0 + 1) (3 : Int32).toNatClampNeg) then (f_X9_makePacket_b45 a0 p1 r44 0 M) else (f_X9_makePacket_b40 a0 p1 r44 M))
set_option maxHeartbeats 4000000 in
set_option maxRecDepth 100000 in
theorem k_X9_makePacket (G : Gt) (hG : gOK G) (l : Launch) (a0 : Nat) (h0 : gK G a0 = 10) (p1 : Int32) (M : Mem) {M' : Mem} (hf : f_X9_makePacket a0 p1 M = some M') : Kc G l yX9_makePacket cX9_makePacket 5 none ({ frames := 1, cells := 0, slots := 0, locals := 23 } : Room) [.ref a0, .int p1] M none M' := by
  refine start (by decide) (Nat.le_of_ble_eq_true rfl) ?_
  intro p e s m args below meth c ls hx hb hr hown hml hlocks hts hV hM hl
  have hown : s.vm.findClass "FoldedVoicesModel" = some m.cls := hown
  have hK := hG.1.moved hV
  have hS : va_S (gA G) s.heap s.heap [] := va_S.rf
  have hl : lv_has ls 5 [(0, .ref a0), (1, .int p1)] := hl
  have hM0 := hM
  have b209 : ∀ (xs0 : Int32) (xs1 : Int32) (xs2 : Int32) (qs3 : Nat) (M : Mem) (H : Heap) (locs : List Loc) (ls : Array Slot), gK G qs3 = 10 → Mh G M H → va_S (gA G) s.heap H locs → lv_has ls 5 [(0, .ref a0), (1, .int p1)] → f_X9_makePacket_b209 a0 p1 xs0 xs1 xs2 qs3 M = some M' → W p l e ({ frames := 1, cells := 0, slots := 0, locals := 23 } : Room) s m args below meth c H locs 0 0 (MQ below (QV G none M') args s 0 0 (gA G)) (F0 m 209 ls [.int xs0, .int xs1, .int xs2, .ref qs3]) := by
    intro xs0 xs1 xs2 qs3 M H locs ls h_qs3 hM hS hl hf
    rw [f_X9_makePacket_b209] at hf
    obtain ⟨M2, e_1, hf⟩ := vb_e hf
    refine c_Vv hx hb hml hown hts hV hK hM hS (As := [.int xs2, .int xs1, .int xs0]) (rest := []) (k_X9_put G hG l qs3 h_qs3 xs2 xs1 xs0 M e_1) w_X9_put (tk_1064 hts) (c_10 h_qs3) rfl rfl ⟨⟨rfl, rfl⟩, Nat.le_of_ble_eq_true rfl, Nat.le_of_ble_eq_true rfl⟩ ⟨Nat.zero_le _, Nat.zero_le _⟩ rfl hl.1 rfl (Nat.le_of_ble_eq_true rfl) dX9_makePacket_209 (fun H locs hM hS => ?_)
    refine lv_aload_n hx hb dX9_makePacket_212 rfl (lv_at hl 0 rfl) ?_
    refine lv_iload_n hx hb dX9_makePacket_213 rfl (lv_at hl 1 rfl) ?_
    refine lv_iconst (v := 4) hx hb dX9_makePacket_214 (by decide) ?_
    refine lv_iconst (v := 0) hx hb dX9_makePacket_215 (by decide) ?_
    obtain ⟨M4, e_3, hf⟩ := vb_e hf
    refine c_Vv hx hb hml hown hts hV hK hM hS (As := [.int p1, .int 4, .int 0]) (rest := []) (k_X9_put G hG l a0 h0 p1 4 0 M2 e_3) w_X9_put (tk_1064 hts) (c_10 h0) rfl rfl ⟨⟨rfl, rfl⟩, Nat.le_of_ble_eq_true rfl, Nat.le_of_ble_eq_true rfl⟩ ⟨Nat.zero_le _, Nat.zero_le _⟩ rfl hl.1 rfl (Nat.le_of_ble_eq_true rfl) dX9_makePacket_216 (fun H locs hM hS => ?_)
    refine lv_aload_n hx hb dX9_makePacket_219 rfl (lv_at hl 0 rfl) ?_
    refine lv_iload_n hx hb dX9_makePacket_220 rfl (lv_at hl 1 rfl) ?_
    refine lv_bipush (v := 21) hx hb dX9_makePacket_221 (by decide) ?_
    refine lv_iconst (v := 1) hx hb dX9_makePacket_223 (by decide) ?_
    obtain ⟨M6, e_5, hf⟩ := vb_e hf
    refine c_Vv hx hb hml hown hts hV hK hM hS (As := [.int p1, .int 21, .int 1]) (rest := []) (k_X9_add G hG l a0 h0 p1 21 1 M4 e_5) w_X9_add (tk_1053 hts) (c_10 h0) rfl rfl ⟨⟨rfl, rfl⟩, Nat.le_of_ble_eq_true rfl, Nat.le_of_ble_eq_true rfl⟩ ⟨Nat.zero_le _, Nat.zero_le _⟩ rfl hl.1 rfl (Nat.le_of_ble_eq_true rfl) dX9_makePacket_224 (fun H locs hM hS => ?_)
    refine lv_aload_n hx hb dX9_makePacket_227 rfl (lv_at hl 0 rfl) ?_
    refine lv_iload_n hx hb dX9_makePacket_228 rfl (lv_at hl 1 rfl) ?_
    refine lv_bipush (v := 38) hx hb dX9_makePacket_229 (by decide) ?_
    refine lv_iconst (v := 1) hx hb dX9_makePacket_231 (by decide) ?_
    obtain ⟨M8, e_7, hf⟩ := vb_e hf
    refine c_Vv hx hb hml hown hts hV hK hM hS (As := [.int p1, .int 38, .int 1]) (rest := []) (k_X9_add G hG l a0 h0 p1 38 1 M6 e_7) w_X9_add (tk_1053 hts) (c_10 h0) rfl rfl ⟨⟨rfl, rfl⟩, Nat.le_of_ble_eq_true rfl, Nat.le_of_ble_eq_true rfl⟩ ⟨Nat.zero_le _, Nat.zero_le _⟩ rfl hl.1 rfl (Nat.le_of_ble_eq_true rfl) dX9_makePacket_232 (fun H locs hM hS => ?_)
    exact ef_v hx hb hr hlocks hM hS hf dX9_makePacket_235
  have b145 : ∀ (n : Nat), ∀ (x2 : Int32) (x3 : Int32) (x4 : Int32) (M : Mem) (H : Heap) (locs : List Loc) (ls : Array Slot), Mh G M H → va_S (gA G) s.heap H locs → lv_has ls 5 [(0, .ref a0), (1, .int p1), (2, .int x2), (3, .int x3), (4, .int x4)] → f_X9_makePacket_b145 a0 p1 n x2 x3 x4 M = some M' → W p l e ({ frames := 1, cells := 0, slots := 0, locals := 23 } : Room) s m args below meth c H locs 0 0 (MQ below (QV G none M') args s 0 0 (gA G)) (F0 m 145 ls []) := by
    intro n
    induction n with
    | zero =>
      intro x2 x3 x4 M H locs ls hM hS hl hf
      rw [f_X9_makePacket_b145] at hf
      cases hf
    | succ n ih =>
      intro x2 x3 x4 M H locs ls hM hS hl hf
      rw [f_X9_makePacket_b145] at hf
      refine lv_iload hx hb dX9_makePacket_145 (lv_at hl 4 rfl) ?_
      refine lv_bipush (v := 16) hx hb dX9_makePacket_147 (by decide) ?_
      refine lv_icmp_ge (tgt := 188) hx hb dX9_makePacket_149 (by decide) (fun g_9 => ?_) (fun g_9 => ?_)
      · rw [if_pos g_9] at hf
        refine lv_aload_n hx hb dX9_makePacket_188 rfl (lv_at hl 0 rfl) ?_
        refine lv_iload_n hx hb dX9_makePacket_189 rfl (lv_at hl 1 rfl) ?_
        refine lv_bipush (v := 23) hx hb dX9_makePacket_190 (by decide) ?_
        refine lv_iload_n hx hb dX9_makePacket_192 rfl (lv_at hl 3 rfl) ?_
        refine lv_if_eq (tgt := 200) hx hb dX9_makePacket_193 (by decide) (fun g_10 => ?_) (fun g_10 => ?_)
        · rw [if_pos g_10] at hf
          refine lv_aload_n hx hb dX9_makePacket_200 rfl (lv_at hl 0 rfl) ?_
          refine lv_iload_n hx hb dX9_makePacket_201 rfl (lv_at hl 1 rfl) ?_
          refine lv_bipush (v := 23) hx hb dX9_makePacket_202 (by decide) ?_
          obtain ⟨r12, e_11, hf⟩ := vb_e hf
          refine c_Vi hx hb hml hown hts hV hK hM hS (As := [.int p1, .int 23]) (rest := [.int 23, .int p1, .ref a0]) (k_X9_of G hG l a0 h0 p1 23 M e_11) w_X9_of (tk_1037 hts) (c_10 h0) rfl rfl ⟨⟨rfl, rfl⟩, Nat.le_of_ble_eq_true rfl, Nat.le_of_ble_eq_true rfl⟩ ⟨Nat.zero_le _, Nat.zero_le _⟩ rfl hl.1 rfl (Nat.le_of_ble_eq_true rfl) dX9_makePacket_204 (fun H locs hM hS => ?_)
          refine lv_iconst (v := 1) hx hb dX9_makePacket_207 (by decide) ?_
          refine lv_iadd hx hb dX9_makePacket_208 ?_
          exact b209 (r12 + 1) 23 p1 a0 _ H locs ls h0 hM hS (lv_sub hl [0, 1] rfl) hf
        · rw [if_neg g_10] at hf
          refine lv_iconst (v := 0) hx hb dX9_makePacket_196 (by decide) ?_
          refine lv_goto (tgt := 209) hx hb dX9_makePacket_197 (by decide) ?_
          exact b209 0 23 p1 a0 _ H locs ls h0 hM hS (lv_sub hl [0, 1] rfl) hf
      · rw [if_neg g_9] at hf
        refine lv_aload_n hx hb dX9_makePacket_152 rfl (lv_at hl 0 rfl) ?_
        refine s_get hx hb (lay_9 hts) hown hK hM (c_10 h0) rfl 0 (by decide) rfl rfl (tk_963 hts) dX9_makePacket_153 ?_
        refine lv_iload_n hx hb dX9_makePacket_156 rfl (lv_at hl 2 rfl) ?_
        refine lv_iconst (v := 5) hx hb dX9_makePacket_157 (by decide) ?_
        refine lv_iadd hx hb dX9_makePacket_158 ?_
        refine lv_iload hx hb dX9_makePacket_159 (lv_at hl 4 rfl) ?_
        refine lv_iadd hx hb dX9_makePacket_161 ?_
        refine lv_aload_n hx hb dX9_makePacket_162 rfl (lv_at hl 0 rfl) ?_
        refine lv_iload_n hx hb dX9_makePacket_163 rfl (lv_at hl 1 rfl) ?_
        refine lv_iconst (v := 5) hx hb dX9_makePacket_164 (by decide) ?_
        refine lv_iload hx hb dX9_makePacket_165 (lv_at hl 4 rfl) ?_
        refine lv_iadd hx hb dX9_makePacket_167 ?_
        obtain ⟨r14, e_13, hf⟩ := vb_e hf
        refine c_Vi hx hb hml hown hts hV hK hM hS (As := [.int p1, .int ((5 : Int32) + x4)]) (rest := [.int ((x2 + 5) + x4), .ref (a0 + 1)]) (k_X9_of G hG l a0 h0 p1 ((5 : Int32) + x4) M e_13) w_X9_of (tk_1037 hts) (c_10 h0) rfl rfl ⟨⟨rfl, rfl⟩, Nat.le_of_ble_eq_true rfl, Nat.le_of_ble_eq_true rfl⟩ ⟨Nat.zero_le _, Nat.zero_le _⟩ rfl hl.1 rfl (Nat.le_of_ble_eq_true rfl) dX9_makePacket_168 (fun H locs hM hS => ?_)
        obtain ⟨h_15, hf⟩ := gd_e hf
        obtain ⟨M16, eM16, hf⟩ := nb_e hf
        refine s_iast 626 hx hb hK hM hS (ky_10_0 hG h0) (by decide) (ky_b hG (ky_10_0 hG h0)) h_15 dX9_makePacket_171 (fun H locs hM hS => ?_)
        rw [eM16] at hM
        refine lv_aload_n hx hb dX9_makePacket_172 rfl (lv_at hl 0 rfl) ?_
        refine lv_iload_n hx hb dX9_makePacket_173 rfl (lv_at hl 1 rfl) ?_
        refine lv_iconst (v := 5) hx hb dX9_makePacket_174 (by decide) ?_
        refine lv_iload hx hb dX9_makePacket_175 (lv_at hl 4 rfl) ?_
        refine lv_iadd hx hb dX9_makePacket_177 ?_
        refine lv_iconst (v := 0) hx hb dX9_makePacket_178 (by decide) ?_
        obtain ⟨M18, e_17, hf⟩ := vb_e hf
        refine c_Vv hx hb hml hown hts hV hK hM hS (As := [.int p1, .int ((5 : Int32) + x4), .int 0]) (rest := []) (k_X9_put G hG l a0 h0 p1 ((5 : Int32) + x4) 0 M16 e_17) w_X9_put (tk_1064 hts) (c_10 h0) rfl rfl ⟨⟨rfl, rfl⟩, Nat.le_of_ble_eq_true rfl, Nat.le_of_ble_eq_true rfl⟩ ⟨Nat.zero_le _, Nat.zero_le _⟩ rfl hl.1 rfl (Nat.le_of_ble_eq_true rfl) dX9_makePacket_179 (fun H locs hM hS => ?_)
        obtain ⟨y19, ey19, hf⟩ := nb_e hf
        refine lv_iinc (v := y19) (lv' := [(4, .int y19), (0, .ref a0), (1, .int p1), (2, .int x2), (3, .int x3)]) hx hb dX9_makePacket_182 hl (k := 4) rfl (by rw [← ey19]; rfl) (by decide) rfl (fun ls hl => ?_)
        refine lv_goto (tgt := 145) hx hb dX9_makePacket_185 (by decide) ?_
        exact ih x2 x3 y19 _ H locs ls hM hS (lv_sub hl [1, 2, 3, 4, 0] rfl) hf
  have b141 : ∀ (x2 : Int32) (x3 : Int32) (xs0 : Int32) (xs1 : Int32) (qs2 : Nat) (M : Mem) (H : Heap) (locs : List Loc) (ls : Array Slot), gK G qs2 = 1626 → Mh G M H → va_S (gA G) s.heap H locs → lv_has ls 5 [(0, .ref a0), (1, .int p1), (2, .int x2), (3, .int x3)] → f_X9_makePacket_b141 a0 p1 x2 x3 xs0 xs1 qs2 M = some M' → W p l e ({ frames := 1, cells := 0, slots := 0, locals := 23 } : Room) s m args below meth c H locs 0 0 (MQ below (QV G none M') args s 0 0 (gA G)) (F0 m 141 ls [.int xs0, .int xs1, .ref qs2]) := by
    intro x2 x3 xs0 xs1 qs2 M H locs ls h_qs2 hM hS hl hf
    rw [f_X9_makePacket_b141] at hf
    obtain ⟨h_20, hf⟩ := gd_e hf
    obtain ⟨M21, eM21, hf⟩ := nb_e hf
    refine s_iast 626 hx hb hK hM hS h_qs2 (by decide) (ky_b hG h_qs2) h_20 dX9_makePacket_141 (fun H locs hM hS => ?_)
    rw [eM21] at hM
    refine lv_iconst (v := 0) hx hb dX9_makePacket_142 (by decide) ?_
    refine lv_istore (lv' := [(4, .int 0), (0, .ref a0), (1, .int p1), (2, .int x2), (3, .int x3)]) hx hb dX9_makePacket_143 hl (by decide) rfl (fun ls hl => ?_)
    exact b145 _ x2 x3 0 _ H locs ls hM hS (lv_sub hl [1, 2, 3, 4, 0] rfl) hf
  have b116 : ∀ (x2 : Int32) (x3 : Int32) (xs0 : Int32) (xs1 : Int32) (qs2 : Nat) (M : Mem) (H : Heap) (locs : List Loc) (ls : Array Slot), gK G qs2 = 1626 → Mh G M H → va_S (gA G) s.heap H locs → lv_has ls 5 [(0, .ref a0), (1, .int p1), (2, .int x2), (3, .int x3)] → f_X9_makePacket_b116 a0 p1 x2 x3 xs0 xs1 qs2 M = some M' → W p l e ({ frames := 1, cells := 0, slots := 0, locals := 23 } : Room) s m args below meth c H locs 0 0 (MQ below (QV G none M') args s 0 0 (gA G)) (F0 m 116 ls [.int xs0, .int xs1, .ref qs2]) := by
    intro x2 x3 xs0 xs1 qs2 M H locs ls h_qs2 hM hS hl hf
    rw [f_X9_makePacket_b116] at hf
    obtain ⟨h_22, hf⟩ := gd_e hf
    obtain ⟨M23, eM23, hf⟩ := nb_e hf
    refine s_iast 626 hx hb hK hM hS h_qs2 (by decide) (ky_b hG h_qs2) h_22 dX9_makePacket_116 (fun H locs hM hS => ?_)
    rw [eM23] at hM
    refine lv_aload_n hx hb dX9_makePacket_117 rfl (lv_at hl 0 rfl) ?_
    refine s_get hx hb (lay_9 hts) hown hK hM (c_10 h0) rfl 0 (by decide) rfl rfl (tk_963 hts) dX9_makePacket_118 ?_
    refine lv_iload_n hx hb dX9_makePacket_121 rfl (lv_at hl 2 rfl) ?_
    refine lv_iconst (v := 4) hx hb dX9_makePacket_122 (by decide) ?_
    refine lv_iadd hx hb dX9_makePacket_123 ?_
    refine lv_iload_n hx hb dX9_makePacket_124 rfl (lv_at hl 3 rfl) ?_
    refine lv_if_eq (tgt := 138) hx hb dX9_makePacket_125 (by decide) (fun g_24 => ?_) (fun g_24 => ?_)
    · rw [if_pos g_24] at hf
      refine lv_sipush (v := (-10000)) hx hb dX9_makePacket_138 (by decide) ?_
      exact b141 x2 x3 (-10000) (x2 + 4) (a0 + 1) _ H locs ls (ky_10_0 hG h0) hM hS (lv_sub hl [0, 1, 2, 3] rfl) hf
    · rw [if_neg g_24] at hf
      refine lv_aload_n hx hb dX9_makePacket_128 rfl (lv_at hl 0 rfl) ?_
      refine lv_iload_n hx hb dX9_makePacket_129 rfl (lv_at hl 1 rfl) ?_
      refine lv_bipush (v := 25) hx hb dX9_makePacket_130 (by decide) ?_
      obtain ⟨r26, e_25, hf⟩ := vb_e hf
      refine c_Vi hx hb hml hown hts hV hK hM hS (As := [.int p1, .int 25]) (rest := [.int (x2 + 4), .ref (a0 + 1)]) (k_X9_of G hG l a0 h0 p1 25 M23 e_25) w_X9_of (tk_1037 hts) (c_10 h0) rfl rfl ⟨⟨rfl, rfl⟩, Nat.le_of_ble_eq_true rfl, Nat.le_of_ble_eq_true rfl⟩ ⟨Nat.zero_le _, Nat.zero_le _⟩ rfl hl.1 rfl (Nat.le_of_ble_eq_true rfl) dX9_makePacket_132 (fun H locs hM hS => ?_)
      refine lv_goto (tgt := 141) hx hb dX9_makePacket_135 (by decide) ?_
      exact b141 x2 x3 r26 (x2 + 4) (a0 + 1) _ H locs ls (ky_10_0 hG h0) hM hS (lv_sub hl [0, 1, 2, 3] rfl) hf
  have b91 : ∀ (x2 : Int32) (x3 : Int32) (xs0 : Int32) (xs1 : Int32) (qs2 : Nat) (M : Mem) (H : Heap) (locs : List Loc) (ls : Array Slot), gK G qs2 = 1626 → Mh G M H → va_S (gA G) s.heap H locs → lv_has ls 5 [(0, .ref a0), (1, .int p1), (2, .int x2), (3, .int x3)] → f_X9_makePacket_b91 a0 p1 x2 x3 xs0 xs1 qs2 M = some M' → W p l e ({ frames := 1, cells := 0, slots := 0, locals := 23 } : Room) s m args below meth c H locs 0 0 (MQ below (QV G none M') args s 0 0 (gA G)) (F0 m 91 ls [.int xs0, .int xs1, .ref qs2]) := by
    intro x2 x3 xs0 xs1 qs2 M H locs ls h_qs2 hM hS hl hf
    rw [f_X9_makePacket_b91] at hf
    obtain ⟨h_27, hf⟩ := gd_e hf
    obtain ⟨M28, eM28, hf⟩ := nb_e hf
    refine s_iast 626 hx hb hK hM hS h_qs2 (by decide) (ky_b hG h_qs2) h_27 dX9_makePacket_91 (fun H locs hM hS => ?_)
    rw [eM28] at hM
    refine lv_aload_n hx hb dX9_makePacket_92 rfl (lv_at hl 0 rfl) ?_
    refine s_get hx hb (lay_9 hts) hown hK hM (c_10 h0) rfl 0 (by decide) rfl rfl (tk_963 hts) dX9_makePacket_93 ?_
    refine lv_iload_n hx hb dX9_makePacket_96 rfl (lv_at hl 2 rfl) ?_
    refine lv_iconst (v := 3) hx hb dX9_makePacket_97 (by decide) ?_
    refine lv_iadd hx hb dX9_makePacket_98 ?_
    refine lv_iload_n hx hb dX9_makePacket_99 rfl (lv_at hl 3 rfl) ?_
    refine lv_if_eq (tgt := 113) hx hb dX9_makePacket_100 (by decide) (fun g_29 => ?_) (fun g_29 => ?_)
    · rw [if_pos g_29] at hf
      refine lv_sipush (v := (-10000)) hx hb dX9_makePacket_113 (by decide) ?_
      exact b116 x2 x3 (-10000) (x2 + 3) (a0 + 1) _ H locs ls (ky_10_0 hG h0) hM hS (lv_sub hl [0, 1, 2, 3] rfl) hf
    · rw [if_neg g_29] at hf
      refine lv_aload_n hx hb dX9_makePacket_103 rfl (lv_at hl 0 rfl) ?_
      refine lv_iload_n hx hb dX9_makePacket_104 rfl (lv_at hl 1 rfl) ?_
      refine lv_bipush (v := 24) hx hb dX9_makePacket_105 (by decide) ?_
      obtain ⟨r31, e_30, hf⟩ := vb_e hf
      refine c_Vi hx hb hml hown hts hV hK hM hS (As := [.int p1, .int 24]) (rest := [.int (x2 + 3), .ref (a0 + 1)]) (k_X9_of G hG l a0 h0 p1 24 M28 e_30) w_X9_of (tk_1037 hts) (c_10 h0) rfl rfl ⟨⟨rfl, rfl⟩, Nat.le_of_ble_eq_true rfl, Nat.le_of_ble_eq_true rfl⟩ ⟨Nat.zero_le _, Nat.zero_le _⟩ rfl hl.1 rfl (Nat.le_of_ble_eq_true rfl) dX9_makePacket_107 (fun H locs hM hS => ?_)
      refine lv_goto (tgt := 116) hx hb dX9_makePacket_110 (by decide) ?_
      exact b116 x2 x3 r31 (x2 + 3) (a0 + 1) _ H locs ls (ky_10_0 hG h0) hM hS (lv_sub hl [0, 1, 2, 3] rfl) hf
  have b45 : ∀ (x2 : Int32) (xs0 : Int32) (M : Mem) (H : Heap) (locs : List Loc) (ls : Array Slot), Mh G M H → va_S (gA G) s.heap H locs → lv_has ls 5 [(0, .ref a0), (1, .int p1), (2, .int x2)] → f_X9_makePacket_b45 a0 p1 x2 xs0 M = some M' → W p l e ({ frames := 1, cells := 0, slots := 0, locals := 23 } : Room) s m args below meth c H locs 0 0 (MQ below (QV G none M') args s 0 0 (gA G)) (F0 m 45 ls [.int xs0]) := by
    intro x2 xs0 M H locs ls hM hS hl hf
    rw [f_X9_makePacket_b45] at hf
    refine lv_istore_n (lv' := [(3, .int xs0), (0, .ref a0), (1, .int p1), (2, .int x2)]) hx hb dX9_makePacket_45 rfl hl (by decide) rfl (fun ls hl => ?_)
    refine lv_aload_n hx hb dX9_makePacket_46 rfl (lv_at hl 1 rfl) ?_
    refine s_get hx hb (lay_9 hts) hown hK hM (c_10 h0) rfl 0 (by decide) rfl rfl (tk_963 hts) dX9_makePacket_47 ?_
    refine lv_iload_n hx hb dX9_makePacket_50 rfl (lv_at hl 3 rfl) ?_
    refine lv_iconst (v := 0) hx hb dX9_makePacket_51 (by decide) ?_
    refine lv_iadd hx hb dX9_makePacket_52 ?_
    refine lv_aload_n hx hb dX9_makePacket_53 rfl (lv_at hl 1 rfl) ?_
    refine lv_iload_n hx hb dX9_makePacket_54 rfl (lv_at hl 2 rfl) ?_
    refine lv_bipush (v := 21) hx hb dX9_makePacket_55 (by decide) ?_
    obtain ⟨r33, e_32, hf⟩ := vb_e hf
    refine c_Vi hx hb hml hown hts hV hK hM hS (As := [.int p1, .int 21]) (rest := [.int (x2 + 0), .ref (a0 + 1)]) (k_X9_of G hG l a0 h0 p1 21 M e_32) w_X9_of (tk_1037 hts) (c_10 h0) rfl rfl ⟨⟨rfl, rfl⟩, Nat.le_of_ble_eq_true rfl, Nat.le_of_ble_eq_true rfl⟩ ⟨Nat.zero_le _, Nat.zero_le _⟩ rfl hl.1 rfl (Nat.le_of_ble_eq_true rfl) dX9_makePacket_57 (fun H locs hM hS => ?_)
    obtain ⟨h_34, hf⟩ := gd_e hf
    obtain ⟨M35, eM35, hf⟩ := nb_e hf
    refine s_iast 626 hx hb hK hM hS (ky_10_0 hG h0) (by decide) (ky_b hG (ky_10_0 hG h0)) h_34 dX9_makePacket_60 (fun H locs hM hS => ?_)
    rw [eM35] at hM
    refine lv_aload_n hx hb dX9_makePacket_61 rfl (lv_at hl 1 rfl) ?_
    refine s_get hx hb (lay_9 hts) hown hK hM (c_10 h0) rfl 0 (by decide) rfl rfl (tk_963 hts) dX9_makePacket_62 ?_
    refine lv_iload_n hx hb dX9_makePacket_65 rfl (lv_at hl 3 rfl) ?_
    refine lv_iconst (v := 1) hx hb dX9_makePacket_66 (by decide) ?_
    refine lv_iadd hx hb dX9_makePacket_67 ?_
    refine lv_aload_n hx hb dX9_makePacket_68 rfl (lv_at hl 1 rfl) ?_
    refine lv_iload_n hx hb dX9_makePacket_69 rfl (lv_at hl 2 rfl) ?_
    refine lv_iconst (v := 4) hx hb dX9_makePacket_70 (by decide) ?_
    obtain ⟨r37, e_36, hf⟩ := vb_e hf
    refine c_Vi hx hb hml hown hts hV hK hM hS (As := [.int p1, .int 4]) (rest := [.int (x2 + 1), .ref (a0 + 1)]) (k_X9_of G hG l a0 h0 p1 4 M35 e_36) w_X9_of (tk_1037 hts) (c_10 h0) rfl rfl ⟨⟨rfl, rfl⟩, Nat.le_of_ble_eq_true rfl, Nat.le_of_ble_eq_true rfl⟩ ⟨Nat.zero_le _, Nat.zero_le _⟩ rfl hl.1 rfl (Nat.le_of_ble_eq_true rfl) dX9_makePacket_71 (fun H locs hM hS => ?_)
    obtain ⟨h_38, hf⟩ := gd_e hf
    obtain ⟨M39, eM39, hf⟩ := nb_e hf
    refine s_iast 626 hx hb hK hM hS (ky_10_0 hG h0) (by decide) (ky_b hG (ky_10_0 hG h0)) h_38 dX9_makePacket_74 (fun H locs hM hS => ?_)
    rw [eM39] at hM
    refine lv_aload_n hx hb dX9_makePacket_75 rfl (lv_at hl 1 rfl) ?_
    refine s_get hx hb (lay_9 hts) hown hK hM (c_10 h0) rfl 0 (by decide) rfl rfl (tk_963 hts) dX9_makePacket_76 ?_
    refine lv_iload_n hx hb dX9_makePacket_79 rfl (lv_at hl 3 rfl) ?_
    refine lv_iconst (v := 2) hx hb dX9_makePacket_80 (by decide) ?_
    refine lv_iadd hx hb dX9_makePacket_81 ?_
    refine lv_iload_n hx hb dX9_makePacket_82 rfl (lv_at hl 0 rfl) ?_
    refine lv_if_eq (tgt := 90) hx hb dX9_makePacket_83 (by decide) (fun g_40 => ?_) (fun g_40 => ?_)
    · rw [if_pos g_40] at hf
      refine lv_iconst (v := 0) hx hb dX9_makePacket_90 (by decide) ?_
      exact b91 x2 xs0 0 (x2 + 2) (a0 + 1) _ H locs ls (ky_10_0 hG h0) hM hS (lv_sub hl [1, 2, 3, 0] rfl) hf
    · rw [if_neg g_40] at hf
      refine lv_iconst (v := 1) hx hb dX9_makePacket_86 (by decide) ?_
      refine lv_goto (tgt := 91) hx hb dX9_makePacket_87 (by decide) ?_
      exact b91 x2 xs0 1 (x2 + 2) (a0 + 1) _ H locs ls (ky_10_0 hG h0) hM hS (lv_sub hl [1, 2, 3, 0] rfl) hf
  have b40 : ∀ (x2 : Int32) (M : Mem) (H : Heap) (locs : List Loc) (ls : Array Slot), Mh G M H → va_S (gA G) s.heap H locs → lv_has ls 5 [(0, .ref a0), (1, .int p1), (2, .int x2)] → f_X9_makePacket_b40 a0 p1 x2 M = some M' → W p l e ({ frames := 1, cells := 0, slots := 0, locals := 23 } : Room) s m args below meth c H locs 0 0 (MQ below (QV G none M') args s 0 0 (gA G)) (F0 m 40 ls []) := by
    intro x2 M H locs ls hM hS hl hf
    rw [f_X9_makePacket_b40] at hf
    refine lv_iconst (v := 1) hx hb dX9_makePacket_40 (by decide) ?_
    refine lv_goto (tgt := 45) hx hb dX9_makePacket_41 (by decide) ?_
    exact b45 x2 1 _ H locs ls hM hS (lv_sub hl [0, 1, 2] rfl) hf
  rw [f_X9_makePacket] at hf
  obtain ⟨H, hHe⟩ : ∃ H, H = s.heap := ⟨_, rfl⟩
  obtain ⟨locs, hLe⟩ : ∃ L : List Loc, L = [] := ⟨_, rfl⟩
  rw [← hHe] at hM
  have hS : va_S (gA G) s.heap H locs := by rw [hHe, hLe]; exact va_S.rf
  suffices hW : W p l e ({ frames := 1, cells := 0, slots := 0, locals := 23 } : Room) s m args below meth c H locs 0 0 (MQ below (QV G none M') args s 0 0 (gA G)) (F0 m 0 ls []) by rw [hHe, hLe] at hW; exact hW
  refine lv_iload_n hx hb dX9_makePacket_0 rfl (lv_at hl 1 rfl) ?_
  refine lv_aload_n hx hb dX9_makePacket_1 rfl (lv_at hl 0 rfl) ?_
  refine lv_iload_n hx hb dX9_makePacket_2 rfl (lv_at hl 1 rfl) ?_
  refine lv_bipush (v := 38) hx hb dX9_makePacket_3 (by decide) ?_
  obtain ⟨r42, e_41, hf⟩ := vb_e hf
  refine c_Vi hx hb hml hown hts hV hK hM hS (As := [.int p1, .int 38]) (rest := [.int p1]) (k_X9_of G hG l a0 h0 p1 38 M e_41) w_X9_of (tk_1037 hts) (c_10 h0) rfl rfl ⟨⟨rfl, rfl⟩, Nat.le_of_ble_eq_true rfl, Nat.le_of_ble_eq_true rfl⟩ ⟨Nat.zero_le _, Nat.zero_le _⟩ rfl hl.1 rfl (Nat.le_of_ble_eq_true rfl) dX9_makePacket_5 (fun H locs hM hS => ?_)
  obtain ⟨r44, e_43, hf⟩ := vb_e hf
  refine c_Si hx hb hml hown hts hV hM hS (As := [.int p1, .int r42]) (rest := []) (k_X9_packetAt G hG l p1 r42 M e_43) w_X9_packetAt (tk_1087 hts) ⟨⟨rfl, rfl⟩, Nat.le_of_ble_eq_true rfl, Nat.le_of_ble_eq_true rfl⟩ ⟨Nat.zero_le _, Nat.zero_le _⟩ rfl hl.1 rfl (Nat.le_of_ble_eq_true rfl) dX9_makePacket_8 (fun H locs hM hS => ?_)
  refine lv_istore_n (lv' := [(2, .int r44), (0, .ref a0), (1, .int p1)]) hx hb dX9_makePacket_11 rfl hl (by decide) rfl (fun ls hl => ?_)
  refine lv_aload_n hx hb dX9_makePacket_12 rfl (lv_at hl 1 rfl) ?_
  refine lv_iload_n hx hb dX9_makePacket_13 rfl (lv_at hl 2 rfl) ?_
  refine lv_bipush (v := 21) hx hb dX9_makePacket_14 (by decide) ?_
  obtain ⟨r46, e_45, hf⟩ := vb_e hf
  refine c_Vi hx hb hml hown hts hV hK hM hS (As := [.int p1, .int 21]) (rest := []) (k_X9_of G hG l a0 h0 p1 21 M e_45) w_X9_of (tk_1037 hts) (c_10 h0) rfl rfl ⟨⟨rfl, rfl⟩, Nat.le_of_ble_eq_true rfl, Nat.le_of_ble_eq_true rfl⟩ ⟨Nat.zero_le _, Nat.zero_le _⟩ rfl hl.1 rfl (Nat.le_of_ble_eq_true rfl) dX9_makePacket_16 (fun H locs hM hS => ?_)
  refine lv_if_eq (tgt := 40) hx hb dX9_makePacket_19 (by decide) (fun g_47 => ?_) (fun g_47 => ?_)
  · rw [if_pos g_47] at hf
    exact b40 r44 _ H locs ls hM hS (lv_sub hl [1, 2, 0] rfl) hf
  · rw [if_neg g_47] at hf
    refine lv_aload_n hx hb dX9_makePacket_22 rfl (lv_at hl 1 rfl) ?_
    refine lv_iload_n hx hb dX9_makePacket_23 rfl (lv_at hl 2 rfl) ?_
    refine lv_bipush (v := 23) hx hb dX9_makePacket_24 (by decide) ?_
    obtain ⟨r49, e_48, hf⟩ := vb_e hf
    refine c_Vi hx hb hml hown hts hV hK hM hS (As := [.int p1, .int 23]) (rest := []) (k_X9_of G hG l a0 h0 p1 23 M e_48) w_X9_of (tk_1037 hts) (c_10 h0) rfl rfl ⟨⟨rfl, rfl⟩, Nat.le_of_ble_eq_true rfl, Nat.le_of_ble_eq_true rfl⟩ ⟨Nat.zero_le _, Nat.zero_le _⟩ rfl hl.1 rfl (Nat.le_of_ble_eq_true rfl) dX9_makePacket_26 (fun H locs hM hS => ?_)
    refine lv_iconst (v := 1) hx hb dX9_makePacket_29 (by decide) ?_
    refine lv_iadd hx hb dX9_makePacket_30 ?_
    refine lv_aload_n hx hb dX9_makePacket_31 rfl (lv_at hl 1 rfl) ?_
    refine s_get hx hb (lay_9 hts) hown hK hM (c_10 h0) rfl 0 (by decide) rfl rfl (tk_963 hts) dX9_makePacket_32 ?_
    refine lv_iconst (v := 3) hx hb dX9_makePacket_35 (by decide) ?_
    obtain ⟨h_50, hf⟩ := gd_e hf
    refine s_iald 626 hx hb hK hM (ky_10_0 hG h0) (by decide) h_50 dX9_makePacket_36 ?_
    refine lv_icmp_lt (tgt := 44) hx hb dX9_makePacket_37 (by decide) (fun g_51 => ?_) (fun g_51 => ?_)
    · rw [if_pos g_51] at hf
      refine lv_iconst (v := 0) hx hb dX9_makePacket_44 (by decide) ?_
      exact b45 r44 0 _ H locs ls hM hS (lv_sub hl [1, 2, 0] rfl) hf
    · rw [if_neg g_51] at hf
      exact b40 r44 _ H locs ls hM hS (lv_sub hl [1, 2, 0] rfl) hf
