def f_L_low (p0 : Int32) (p1 : Int32) (M : Mem) : Option Int32 := gd (¬ p1 = 0) <| some ((p0 &&& (2147483647 : Int32)) - (p0 &&& (2147483647 : Int32)) / p1 * p1)
set_option maxHeartbeats 4000000 in
set_option maxRecDepth 100000 in
theorem k_L_low (G : Gt) (hG : gOK G) (l : Launch) (p0 : Int32) (p1 : Int32) (M : Mem) {r : Int32} (hf : f_L_low p0 p1 M = some r) : Kc G l yL_low cL_low 2 (some .int) ({ frames := 0, cells := 0, slots := 0, locals := 0 } : Room) [.int p0, .int p1] M (some (.int r)) M := by
  refine start (by decide) (Nat.le_of_ble_eq_true rfl) ?_
  intro p e s m args below meth c ls hx hb hr hown hml hlocks hts hV hM hl
  have hown : s.vm.findClass "FoldedVoicesLaw" = some m.cls := hown
  have hK := hG.1.moved hV
  have hS : va_S (gA G) s.heap s.heap [] := va_S.rf
  have hl : lv_has ls 2 [(0, .int p0), (1, .int p1)] := hl
  have hM0 := hM
  rw [f_L_low] at hf
  refine lv_iload_n hx hb dL_low_0 rfl (lv_at hl 0 rfl) ?_
  refine lv_ldc hx hb hown (tk_298 hts) dL_low_1 ?_
  refine lv_iand hx hb dL_low_3 ?_
  refine lv_iload_n hx hb dL_low_4 rfl (lv_at hl 1 rfl) ?_
  obtain ⟨h_1, hf⟩ := gd_e hf
  refine lv_irem hx hb dL_low_5 h_1 ?_
  exact ef_ip hx hb hr hlocks hM hS hf dL_low_6
def f_L_step_b5 (p0 : Int32) : Nat → Int32 → Int32 → Mem → Option Int32
  | 0, _, _, _ => none
  | n + 1, x1, x2, M => if p0 ≤ x2 then (some x1) else (nb (((5 : Int32) * x1) / 4) fun y2 => nb (x2 + 1) fun y3 => f_L_step_b5 p0 n y2 y3 M)
def f_L_step (p0 : Int32) (M : Mem) : Option Int32 := f_L_step_b5 p0 lfuel 8 0 M
set_option maxHeartbeats 4000000 in
set_option maxRecDepth 100000 in
theorem k_L_step (G : Gt) (hG : gOK G) (l : Launch) (p0 : Int32) (M : Mem) {r : Int32} (hf : f_L_step p0 M = some r) : Kc G l yL_step cL_step 3 (some .int) ({ frames := 0, cells := 0, slots := 0, locals := 0 } : Room) [.int p0] M (some (.int r)) M := by
  refine start (by decide) (Nat.le_of_ble_eq_true rfl) ?_
  intro p e s m args below meth c ls hx hb hr hown hml hlocks hts hV hM hl
  have hown : s.vm.findClass "FoldedVoicesLaw" = some m.cls := hown
  have hK := hG.1.moved hV
  have hS : va_S (gA G) s.heap s.heap [] := va_S.rf
  have hl : lv_has ls 3 [(0, .int p0)] := hl
  have hM0 := hM
  have b5 : ∀ (n : Nat), ∀ (x1 : Int32) (x2 : Int32) (M : Mem) (H : Heap) (locs : List Loc) (ls : Array Slot), Mh G M H → va_S (gA G) s.heap H locs → lv_has ls 3 [(0, .int p0), (1, .int x1), (2, .int x2)] → f_L_step_b5 p0 n x1 x2 M = some r → W p l e ({ frames := 0, cells := 0, slots := 0, locals := 0 } : Room) s m args below meth c H locs 0 0 (MQ below (QV G (some (.int r)) M) args s 0 0 (gA G)) (F0 m 5 ls []) := by
    intro n
    induction n with
    | zero =>
      intro x1 x2 M H locs ls hM hS hl hf
      rw [f_L_step_b5] at hf
      cases hf
    | succ n ih =>
      intro x1 x2 M H locs ls hM hS hl hf
      rw [f_L_step_b5] at hf
      refine lv_iload_n hx hb dL_step_5 rfl (lv_at hl 2 rfl) ?_
      refine lv_iload_n hx hb dL_step_6 rfl (lv_at hl 0 rfl) ?_
      refine lv_icmp_ge (tgt := 22) hx hb dL_step_7 (by decide) (fun g_1 => ?_) (fun g_1 => ?_)
      · rw [if_pos g_1] at hf
        refine lv_iload_n hx hb dL_step_22 rfl (lv_at hl 1 rfl) ?_
        exact ef_ip hx hb hr hlocks hM hS hf dL_step_23
      · rw [if_neg g_1] at hf
        refine lv_iconst (v := 5) hx hb dL_step_10 (by decide) ?_
        refine lv_iload_n hx hb dL_step_11 rfl (lv_at hl 1 rfl) ?_
        refine lv_imul hx hb dL_step_12 ?_
        refine lv_iconst (v := 4) hx hb dL_step_13 (by decide) ?_
        refine lv_idiv hx hb dL_step_14 (by decide) ?_
        obtain ⟨y2, ey2, hf⟩ := nb_e hf
        refine s_nm ey2 ?_
        refine lv_istore_n (lv' := [(1, .int y2), (0, .int p0), (2, .int x2)]) hx hb dL_step_15 rfl hl (by decide) rfl (fun ls hl => ?_)
        obtain ⟨y3, ey3, hf⟩ := nb_e hf
        refine lv_iinc (v := y3) (lv' := [(2, .int y3), (1, .int y2), (0, .int p0)]) hx hb dL_step_16 hl (k := 2) rfl (by rw [← ey3]; rfl) (by decide) rfl (fun ls hl => ?_)
        refine lv_goto (tgt := 5) hx hb dL_step_19 (by decide) ?_
        exact ih y2 y3 _ H locs ls hM hS (lv_sub hl [2, 1, 0] rfl) hf
  rw [f_L_step] at hf
  obtain ⟨H, hHe⟩ : ∃ H, H = s.heap := ⟨_, rfl⟩
  obtain ⟨locs, hLe⟩ : ∃ L : List Loc, L = [] := ⟨_, rfl⟩
  rw [← hHe] at hM
  have hS : va_S (gA G) s.heap H locs := by rw [hHe, hLe]; exact va_S.rf
  suffices hW : W p l e ({ frames := 0, cells := 0, slots := 0, locals := 0 } : Room) s m args below meth c H locs 0 0 (MQ below (QV G (some (.int r)) M) args s 0 0 (gA G)) (F0 m 0 ls []) by rw [hHe, hLe] at hW; exact hW
  refine lv_bipush (v := 8) hx hb dL_step_0 (by decide) ?_
  refine lv_istore_n (lv' := [(1, .int 8), (0, .int p0)]) hx hb dL_step_2 rfl hl (by decide) rfl (fun ls hl => ?_)
  refine lv_iconst (v := 0) hx hb dL_step_3 (by decide) ?_
  refine lv_istore_n (lv' := [(2, .int 0), (1, .int 8), (0, .int p0)]) hx hb dL_step_4 rfl hl (by decide) rfl (fun ls hl => ?_)
  exact b5 _ 8 0 _ H locs ls hM hS (lv_sub hl [2, 1, 0] rfl) hf
def f_L_code_b104 (p0 : Int32) (p1 : Int32) (p2 : Int32) (xs0 : Int32) (xs1 : Int32) (M : Mem) : Option Int32 := nb (xs1 + xs0) fun y1 => if p1 ≤ p0 then (some y1) else (some ((8 : Int32) + y1))
def f_L_code_b86 (p0 : Int32) (p1 : Int32) (p2 : Int32) (x3 : Int32) (x5 : Int32) (xs0 : Int32) (xs1 : Int32) (M : Mem) : Option Int32 := nb (xs1 - xs0) fun y3 => if y3 < (x3 / 4) then (f_L_code_b104 p0 p1 p2 0 x5 M) else (f_L_code_b104 p0 p1 p2 1 x5 M)
def f_L_code_b66 (p0 : Int32) (p1 : Int32) (p2 : Int32) (x3 : Int32) (x4 : Int32) (xs0 : Int32) (xs1 : Int32) (M : Mem) : Option Int32 := nb (xs1 + xs0) fun y5 => if x4 < (x3 / 2) then (f_L_code_b86 p0 p1 p2 x3 y5 0 x4 M) else (f_L_code_b86 p0 p1 p2 x3 y5 (x3 / 2) x4 M)
def f_L_code_b48 (p0 : Int32) (p1 : Int32) (p2 : Int32) (x3 : Int32) (x5 : Int32) (xs0 : Int32) (xs1 : Int32) (M : Mem) : Option Int32 := nb (xs1 - xs0) fun y7 => if y7 < (x3 / 2) then (f_L_code_b66 p0 p1 p2 x3 y7 0 x5 M) else (f_L_code_b66 p0 p1 p2 x3 y7 2 x5 M)
def f_L_code_b33 (p0 : Int32) (p1 : Int32) (p2 : Int32) (x3 : Int32) (x4 : Int32) (xs0 : Int32) (M : Mem) : Option Int32 := if x4 < x3 then (f_L_code_b48 p0 p1 p2 x3 xs0 0 x4 M) else (f_L_code_b48 p0 p1 p2 x3 xs0 x3 x4 M)
def f_L_code_b20 (p0 : Int32) (p1 : Int32) (p2 : Int32) (x3 : Int32) (xs0 : Int32) (M : Mem) : Option Int32 := if xs0 < x3 then (f_L_code_b33 p0 p1 p2 x3 xs0 0 M) else (f_L_code_b33 p0 p1 p2 x3 xs0 4 M)
def f_L_code (p0 : Int32) (p1 : Int32) (p2 : Int32) (M : Mem) : Option Int32 := vb (f_L_step p2 M) fun r12 => if 0 ≤ (p0 - p1) then (f_L_code_b20 p0 p1 p2 r12 (p0 - p1) M) else (f_L_code_b20 p0 p1 p2 r12 (p1 - p0) M)
set_option maxHeartbeats 4000000 in
set_option maxRecDepth 100000 in
theorem k_L_code (G : Gt) (hG : gOK G) (l : Launch) (p0 : Int32) (p1 : Int32) (p2 : Int32) (M : Mem) {r : Int32} (hf : f_L_code p0 p1 p2 M = some r) : Kc G l yL_code cL_code 6 (some .int) ({ frames := 1, cells := 0, slots := 0, locals := 22 } : Room) [.int p0, .int p1, .int p2] M (some (.int r)) M := by
  refine start (by decide) (Nat.le_of_ble_eq_true rfl) ?_
  intro p e s m args below meth c ls hx hb hr hown hml hlocks hts hV hM hl
  have hown : s.vm.findClass "FoldedVoicesLaw" = some m.cls := hown
  have hK := hG.1.moved hV
  have hS : va_S (gA G) s.heap s.heap [] := va_S.rf
  have hl : lv_has ls 6 [(0, .int p0), (1, .int p1), (2, .int p2)] := hl
  have hM0 := hM
  have b104 : ∀ (xs0 : Int32) (xs1 : Int32) (M : Mem) (H : Heap) (locs : List Loc) (ls : Array Slot), Mh G M H → va_S (gA G) s.heap H locs → lv_has ls 6 [(0, .int p0), (1, .int p1), (2, .int p2)] → f_L_code_b104 p0 p1 p2 xs0 xs1 M = some r → W p l e ({ frames := 1, cells := 0, slots := 0, locals := 22 } : Room) s m args below meth c H locs 0 0 (MQ below (QV G (some (.int r)) M) args s 0 0 (gA G)) (F0 m 104 ls [.int xs0, .int xs1]) := by
    intro xs0 xs1 M H locs ls hM hS hl hf
    rw [f_L_code_b104] at hf
    refine lv_iadd hx hb dL_code_104 ?_
    obtain ⟨y1, ey1, hf⟩ := nb_e hf
    refine s_nm ey1 ?_
    refine lv_istore (lv' := [(5, .int y1), (0, .int p0), (1, .int p1), (2, .int p2)]) hx hb dL_code_105 hl (by decide) rfl (fun ls hl => ?_)
    refine lv_iload_n hx hb dL_code_107 rfl (lv_at hl 1 rfl) ?_
    refine lv_iload_n hx hb dL_code_108 rfl (lv_at hl 2 rfl) ?_
    refine lv_icmp_ge (tgt := 120) hx hb dL_code_109 (by decide) (fun g_2 => ?_) (fun g_2 => ?_)
    · rw [if_pos g_2] at hf
      refine lv_iload hx hb dL_code_120 (lv_at hl 0 rfl) ?_
      exact ef_ip hx hb hr hlocks hM hS hf dL_code_122
    · rw [if_neg g_2] at hf
      refine lv_bipush (v := 8) hx hb dL_code_112 (by decide) ?_
      refine lv_iload hx hb dL_code_114 (lv_at hl 0 rfl) ?_
      refine lv_iadd hx hb dL_code_116 ?_
      refine lv_goto (tgt := 122) hx hb dL_code_117 (by decide) ?_
      exact ef_ip hx hb hr hlocks hM hS hf dL_code_122
  have b86 : ∀ (x3 : Int32) (x5 : Int32) (xs0 : Int32) (xs1 : Int32) (M : Mem) (H : Heap) (locs : List Loc) (ls : Array Slot), Mh G M H → va_S (gA G) s.heap H locs → lv_has ls 6 [(0, .int p0), (1, .int p1), (2, .int p2), (3, .int x3), (5, .int x5)] → f_L_code_b86 p0 p1 p2 x3 x5 xs0 xs1 M = some r → W p l e ({ frames := 1, cells := 0, slots := 0, locals := 22 } : Room) s m args below meth c H locs 0 0 (MQ below (QV G (some (.int r)) M) args s 0 0 (gA G)) (F0 m 86 ls [.int xs0, .int xs1]) := by
    intro x3 x5 xs0 xs1 M H locs ls hM hS hl hf
    rw [f_L_code_b86] at hf
    refine lv_isub hx hb dL_code_86 ?_
    obtain ⟨y3, ey3, hf⟩ := nb_e hf
    refine s_nm ey3 ?_
    refine lv_istore (lv' := [(4, .int y3), (0, .int p0), (1, .int p1), (2, .int p2), (3, .int x3), (5, .int x5)]) hx hb dL_code_87 hl (by decide) rfl (fun ls hl => ?_)
    refine lv_iload hx hb dL_code_89 (lv_at hl 5 rfl) ?_
    refine lv_iload hx hb dL_code_91 (lv_at hl 0 rfl) ?_
    refine lv_iload_n hx hb dL_code_93 rfl (lv_at hl 4 rfl) ?_
    refine lv_iconst (v := 4) hx hb dL_code_94 (by decide) ?_
    refine lv_idiv hx hb dL_code_95 (by decide) ?_
    refine lv_icmp_lt (tgt := 103) hx hb dL_code_96 (by decide) (fun g_4 => ?_) (fun g_4 => ?_)
    · rw [if_pos g_4] at hf
      refine lv_iconst (v := 0) hx hb dL_code_103 (by decide) ?_
      exact b104 0 x5 _ H locs ls hM hS (lv_sub hl [1, 2, 3] rfl) hf
    · rw [if_neg g_4] at hf
      refine lv_iconst (v := 1) hx hb dL_code_99 (by decide) ?_
      refine lv_goto (tgt := 104) hx hb dL_code_100 (by decide) ?_
      exact b104 1 x5 _ H locs ls hM hS (lv_sub hl [1, 2, 3] rfl) hf
  have b66 : ∀ (x3 : Int32) (x4 : Int32) (xs0 : Int32) (xs1 : Int32) (M : Mem) (H : Heap) (locs : List Loc) (ls : Array Slot), Mh G M H → va_S (gA G) s.heap H locs → lv_has ls 6 [(0, .int p0), (1, .int p1), (2, .int p2), (3, .int x3), (4, .int x4)] → f_L_code_b66 p0 p1 p2 x3 x4 xs0 xs1 M = some r → W p l e ({ frames := 1, cells := 0, slots := 0, locals := 22 } : Room) s m args below meth c H locs 0 0 (MQ below (QV G (some (.int r)) M) args s 0 0 (gA G)) (F0 m 66 ls [.int xs0, .int xs1]) := by
    intro x3 x4 xs0 xs1 M H locs ls hM hS hl hf
    rw [f_L_code_b66] at hf
    refine lv_iadd hx hb dL_code_66 ?_
    obtain ⟨y5, ey5, hf⟩ := nb_e hf
    refine s_nm ey5 ?_
    refine lv_istore (lv' := [(5, .int y5), (0, .int p0), (1, .int p1), (2, .int p2), (3, .int x3), (4, .int x4)]) hx hb dL_code_67 hl (by decide) rfl (fun ls hl => ?_)
    refine lv_iload hx hb dL_code_69 (lv_at hl 5 rfl) ?_
    refine lv_iload hx hb dL_code_71 (lv_at hl 5 rfl) ?_
    refine lv_iload_n hx hb dL_code_73 rfl (lv_at hl 4 rfl) ?_
    refine lv_iconst (v := 2) hx hb dL_code_74 (by decide) ?_
    refine lv_idiv hx hb dL_code_75 (by decide) ?_
    refine lv_icmp_lt (tgt := 85) hx hb dL_code_76 (by decide) (fun g_6 => ?_) (fun g_6 => ?_)
    · rw [if_pos g_6] at hf
      refine lv_iconst (v := 0) hx hb dL_code_85 (by decide) ?_
      exact b86 x3 y5 0 x4 _ H locs ls hM hS (lv_sub hl [1, 2, 3, 4, 0] rfl) hf
    · rw [if_neg g_6] at hf
      refine lv_iload_n hx hb dL_code_79 rfl (lv_at hl 4 rfl) ?_
      refine lv_iconst (v := 2) hx hb dL_code_80 (by decide) ?_
      refine lv_idiv hx hb dL_code_81 (by decide) ?_
      refine lv_goto (tgt := 86) hx hb dL_code_82 (by decide) ?_
      exact b86 x3 y5 (x3 / 2) x4 _ H locs ls hM hS (lv_sub hl [1, 2, 3, 4, 0] rfl) hf
  have b48 : ∀ (x3 : Int32) (x5 : Int32) (xs0 : Int32) (xs1 : Int32) (M : Mem) (H : Heap) (locs : List Loc) (ls : Array Slot), Mh G M H → va_S (gA G) s.heap H locs → lv_has ls 6 [(0, .int p0), (1, .int p1), (2, .int p2), (3, .int x3), (5, .int x5)] → f_L_code_b48 p0 p1 p2 x3 x5 xs0 xs1 M = some r → W p l e ({ frames := 1, cells := 0, slots := 0, locals := 22 } : Room) s m args below meth c H locs 0 0 (MQ below (QV G (some (.int r)) M) args s 0 0 (gA G)) (F0 m 48 ls [.int xs0, .int xs1]) := by
    intro x3 x5 xs0 xs1 M H locs ls hM hS hl hf
    rw [f_L_code_b48] at hf
    refine lv_isub hx hb dL_code_48 ?_
    obtain ⟨y7, ey7, hf⟩ := nb_e hf
    refine s_nm ey7 ?_
    refine lv_istore (lv' := [(4, .int y7), (0, .int p0), (1, .int p1), (2, .int p2), (3, .int x3), (5, .int x5)]) hx hb dL_code_49 hl (by decide) rfl (fun ls hl => ?_)
    refine lv_iload hx hb dL_code_51 (lv_at hl 5 rfl) ?_
    refine lv_iload hx hb dL_code_53 (lv_at hl 0 rfl) ?_
    refine lv_iload_n hx hb dL_code_55 rfl (lv_at hl 4 rfl) ?_
    refine lv_iconst (v := 2) hx hb dL_code_56 (by decide) ?_
    refine lv_idiv hx hb dL_code_57 (by decide) ?_
    refine lv_icmp_lt (tgt := 65) hx hb dL_code_58 (by decide) (fun g_8 => ?_) (fun g_8 => ?_)
    · rw [if_pos g_8] at hf
      refine lv_iconst (v := 0) hx hb dL_code_65 (by decide) ?_
      exact b66 x3 y7 0 x5 _ H locs ls hM hS (lv_sub hl [1, 2, 3, 4, 0] rfl) hf
    · rw [if_neg g_8] at hf
      refine lv_iconst (v := 2) hx hb dL_code_61 (by decide) ?_
      refine lv_goto (tgt := 66) hx hb dL_code_62 (by decide) ?_
      exact b66 x3 y7 2 x5 _ H locs ls hM hS (lv_sub hl [1, 2, 3, 4, 0] rfl) hf
  have b33 : ∀ (x3 : Int32) (x4 : Int32) (xs0 : Int32) (M : Mem) (H : Heap) (locs : List Loc) (ls : Array Slot), Mh G M H → va_S (gA G) s.heap H locs → lv_has ls 6 [(0, .int p0), (1, .int p1), (2, .int p2), (3, .int x3), (4, .int x4)] → f_L_code_b33 p0 p1 p2 x3 x4 xs0 M = some r → W p l e ({ frames := 1, cells := 0, slots := 0, locals := 22 } : Room) s m args below meth c H locs 0 0 (MQ below (QV G (some (.int r)) M) args s 0 0 (gA G)) (F0 m 33 ls [.int xs0]) := by
    intro x3 x4 xs0 M H locs ls hM hS hl hf
    rw [f_L_code_b33] at hf
    refine lv_istore (lv' := [(5, .int xs0), (0, .int p0), (1, .int p1), (2, .int p2), (3, .int x3), (4, .int x4)]) hx hb dL_code_33 hl (by decide) rfl (fun ls hl => ?_)
    refine lv_iload hx hb dL_code_35 (lv_at hl 5 rfl) ?_
    refine lv_iload hx hb dL_code_37 (lv_at hl 5 rfl) ?_
    refine lv_iload_n hx hb dL_code_39 rfl (lv_at hl 4 rfl) ?_
    refine lv_icmp_lt (tgt := 47) hx hb dL_code_40 (by decide) (fun g_9 => ?_) (fun g_9 => ?_)
    · rw [if_pos g_9] at hf
      refine lv_iconst (v := 0) hx hb dL_code_47 (by decide) ?_
      exact b48 x3 xs0 0 x4 _ H locs ls hM hS (lv_sub hl [1, 2, 3, 4, 0] rfl) hf
    · rw [if_neg g_9] at hf
      refine lv_iload_n hx hb dL_code_43 rfl (lv_at hl 4 rfl) ?_
      refine lv_goto (tgt := 48) hx hb dL_code_44 (by decide) ?_
      exact b48 x3 xs0 x3 x4 _ H locs ls hM hS (lv_sub hl [1, 2, 3, 4, 0] rfl) hf
  have b20 : ∀ (x3 : Int32) (xs0 : Int32) (M : Mem) (H : Heap) (locs : List Loc) (ls : Array Slot), Mh G M H → va_S (gA G) s.heap H locs → lv_has ls 6 [(0, .int p0), (1, .int p1), (2, .int p2), (3, .int x3)] → f_L_code_b20 p0 p1 p2 x3 xs0 M = some r → W p l e ({ frames := 1, cells := 0, slots := 0, locals := 22 } : Room) s m args below meth c H locs 0 0 (MQ below (QV G (some (.int r)) M) args s 0 0 (gA G)) (F0 m 20 ls [.int xs0]) := by
    intro x3 xs0 M H locs ls hM hS hl hf
    rw [f_L_code_b20] at hf
    refine lv_istore (lv' := [(4, .int xs0), (0, .int p0), (1, .int p1), (2, .int p2), (3, .int x3)]) hx hb dL_code_20 hl (by decide) rfl (fun ls hl => ?_)
    refine lv_iload hx hb dL_code_22 (lv_at hl 0 rfl) ?_
    refine lv_iload_n hx hb dL_code_24 rfl (lv_at hl 4 rfl) ?_
    refine lv_icmp_lt (tgt := 32) hx hb dL_code_25 (by decide) (fun g_10 => ?_) (fun g_10 => ?_)
    · rw [if_pos g_10] at hf
      refine lv_iconst (v := 0) hx hb dL_code_32 (by decide) ?_
      exact b33 x3 xs0 0 _ H locs ls hM hS (lv_sub hl [1, 2, 3, 4, 0] rfl) hf
    · rw [if_neg g_10] at hf
      refine lv_iconst (v := 4) hx hb dL_code_28 (by decide) ?_
      refine lv_goto (tgt := 33) hx hb dL_code_29 (by decide) ?_
      exact b33 x3 xs0 4 _ H locs ls hM hS (lv_sub hl [1, 2, 3, 4, 0] rfl) hf
  rw [f_L_code] at hf
  obtain ⟨H, hHe⟩ : ∃ H, H = s.heap := ⟨_, rfl⟩
  obtain ⟨locs, hLe⟩ : ∃ L : List Loc, L = [] := ⟨_, rfl⟩
  rw [← hHe] at hM
  have hS : va_S (gA G) s.heap H locs := by rw [hHe, hLe]; exact va_S.rf
  suffices hW : W p l e ({ frames := 1, cells := 0, slots := 0, locals := 22 } : Room) s m args below meth c H locs 0 0 (MQ below (QV G (some (.int r)) M) args s 0 0 (gA G)) (F0 m 0 ls []) by rw [hHe, hLe] at hW; exact hW
  refine lv_iload_n hx hb dL_code_0 rfl (lv_at hl 2 rfl) ?_
  obtain ⟨r12, e_11, hf⟩ := vb_e hf
  refine c_Si hx hb hml hown hts hV hM hS (As := [.int p2]) (rest := []) (k_L_step G hG l p2 M e_11) w_L_step (tk_439 hts) ⟨⟨rfl, rfl⟩, Nat.le_of_ble_eq_true rfl, Nat.le_of_ble_eq_true rfl⟩ ⟨Nat.zero_le _, Nat.zero_le _⟩ rfl hl.1 rfl (Nat.le_of_ble_eq_true rfl) dL_code_1 (fun H locs hM hS => ?_)
  refine lv_istore_n (lv' := [(3, .int r12), (0, .int p0), (1, .int p1), (2, .int p2)]) hx hb dL_code_4 rfl hl (by decide) rfl (fun ls hl => ?_)
  refine lv_iload_n hx hb dL_code_5 rfl (lv_at hl 1 rfl) ?_
  refine lv_iload_n hx hb dL_code_6 rfl (lv_at hl 2 rfl) ?_
  refine lv_isub hx hb dL_code_7 ?_
  refine lv_if_ge (tgt := 17) hx hb dL_code_8 (by decide) (fun g_13 => ?_) (fun g_13 => ?_)
  · rw [if_pos g_13] at hf
    refine lv_iload_n hx hb dL_code_17 rfl (lv_at hl 1 rfl) ?_
    refine lv_iload_n hx hb dL_code_18 rfl (lv_at hl 2 rfl) ?_
    refine lv_isub hx hb dL_code_19 ?_
    exact b20 r12 (p0 - p1) _ H locs ls hM hS (lv_sub hl [1, 2, 3, 0] rfl) hf
  · rw [if_neg g_13] at hf
    refine lv_iload_n hx hb dL_code_11 rfl (lv_at hl 2 rfl) ?_
    refine lv_iload_n hx hb dL_code_12 rfl (lv_at hl 1 rfl) ?_
    refine lv_isub hx hb dL_code_13 ?_
    refine lv_goto (tgt := 20) hx hb dL_code_14 (by decide) ?_
    exact b20 r12 (p1 - p0) _ H locs ls hM hS (lv_sub hl [1, 2, 3, 0] rfl) hf
def f_L_guess_b54 (p0 : Int32) (p1 : Int32) (p2 : Int32) (xs0 : Int32) (M : Mem) : Option Int32 := if (-2000 : Int32) ≤ xs0 then (if xs0 ≤ (2000 : Int32) then (some xs0) else (some 2000)) else (some (-2000))
def f_L_guess (p0 : Int32) (p1 : Int32) (p2 : Int32) (M : Mem) : Option Int32 := vb (f_L_step p1 M) fun r4 => nb ((((r4 / 8) + (((p2 >>> ((2 : Int32) &&& 31)) &&& 1) * r4)) + (((p2 >>> ((1 : Int32) &&& 31)) &&& 1) * (r4 / 2))) + ((p2 &&& 1) * (r4 / 4))) fun y5 => if p2 ≤ (7 : Int32) then (f_L_guess_b54 p0 p1 p2 (p0 + y5) M) else (f_L_guess_b54 p0 p1 p2 (p0 - y5) M)
set_option maxHeartbeats 4000000 in
set_option maxRecDepth 100000 in
theorem k_L_guess (G : Gt) (hG : gOK G) (l : Launch) (p0 : Int32) (p1 : Int32) (p2 : Int32) (M : Mem) {r : Int32} (hf : f_L_guess p0 p1 p2 M = some r) : Kc G l yL_guess cL_guess 6 (some .int) ({ frames := 1, cells := 0, slots := 0, locals := 22 } : Room) [.int p0, .int p1, .int p2] M (some (.int r)) M := by
  refine start (by decide) (Nat.le_of_ble_eq_true rfl) ?_
  intro p e s m args below meth c ls hx hb hr hown hml hlocks hts hV hM hl
  have hown : s.vm.findClass "FoldedVoicesLaw" = some m.cls := hown
  have hK := hG.1.moved hV
  have hS : va_S (gA G) s.heap s.heap [] := va_S.rf
  have hl : lv_has ls 6 [(0, .int p0), (1, .int p1), (2, .int p2)] := hl
  have hM0 := hM
  have b54 : ∀ (xs0 : Int32) (M : Mem) (H : Heap) (locs : List Loc) (ls : Array Slot), Mh G M H → va_S (gA G) s.heap H locs → lv_has ls 6 [(0, .int p0), (1, .int p1), (2, .int p2)] → f_L_guess_b54 p0 p1 p2 xs0 M = some r → W p l e ({ frames := 1, cells := 0, slots := 0, locals := 22 } : Room) s m args below meth c H locs 0 0 (MQ below (QV G (some (.int r)) M) args s 0 0 (gA G)) (F0 m 54 ls [.int xs0]) := by
    intro xs0 M H locs ls hM hS hl hf
    rw [f_L_guess_b54] at hf
    refine lv_istore (lv' := [(5, .int xs0), (0, .int p0), (1, .int p1), (2, .int p2)]) hx hb dL_guess_54 hl (by decide) rfl (fun ls hl => ?_)
    refine lv_iload hx hb dL_guess_56 (lv_at hl 0 rfl) ?_
    refine lv_sipush (v := (-2000)) hx hb dL_guess_58 (by decide) ?_
    refine lv_icmp_ge (tgt := 70) hx hb dL_guess_61 (by decide) (fun g_1 => ?_) (fun g_1 => ?_)
    · rw [if_pos g_1] at hf
      refine lv_iload hx hb dL_guess_70 (lv_at hl 0 rfl) ?_
      refine lv_sipush (v := 2000) hx hb dL_guess_72 (by decide) ?_
      refine lv_icmp_le (tgt := 84) hx hb dL_guess_75 (by decide) (fun g_2 => ?_) (fun g_2 => ?_)
      · rw [if_pos g_2] at hf
        refine lv_iload hx hb dL_guess_84 (lv_at hl 0 rfl) ?_
        exact ef_ip hx hb hr hlocks hM hS hf dL_guess_86
      · rw [if_neg g_2] at hf
        refine lv_sipush (v := 2000) hx hb dL_guess_78 (by decide) ?_
        refine lv_goto (tgt := 86) hx hb dL_guess_81 (by decide) ?_
        exact ef_ip hx hb hr hlocks hM hS hf dL_guess_86
    · rw [if_neg g_1] at hf
      refine lv_sipush (v := (-2000)) hx hb dL_guess_64 (by decide) ?_
      refine lv_goto (tgt := 86) hx hb dL_guess_67 (by decide) ?_
      exact ef_ip hx hb hr hlocks hM hS hf dL_guess_86
  rw [f_L_guess] at hf
  obtain ⟨H, hHe⟩ : ∃ H, H = s.heap := ⟨_, rfl⟩
  obtain ⟨locs, hLe⟩ : ∃ L : List Loc, L = [] := ⟨_, rfl⟩
  rw [← hHe] at hM
  have hS : va_S (gA G) s.heap H locs := by rw [hHe, hLe]; exact va_S.rf
  suffices hW : W p l e ({ frames := 1, cells := 0, slots := 0, locals := 22 } : Room) s m args below meth c H locs 0 0 (MQ below (QV G (some (.int r)) M) args s 0 0 (gA G)) (F0 m 0 ls []) by rw [hHe, hLe] at hW; exact hW
  refine lv_iload_n hx hb dL_guess_0 rfl (lv_at hl 1 rfl) ?_
  obtain ⟨r4, e_3, hf⟩ := vb_e hf
  refine c_Si hx hb hml hown hts hV hM hS (As := [.int p1]) (rest := []) (k_L_step G hG l p1 M e_3) w_L_step (tk_439 hts) ⟨⟨rfl, rfl⟩, Nat.le_of_ble_eq_true rfl, Nat.le_of_ble_eq_true rfl⟩ ⟨Nat.zero_le _, Nat.zero_le _⟩ rfl hl.1 rfl (Nat.le_of_ble_eq_true rfl) dL_guess_1 (fun H locs hM hS => ?_)
  refine lv_istore_n (lv' := [(3, .int r4), (0, .int p0), (1, .int p1), (2, .int p2)]) hx hb dL_guess_4 rfl hl (by decide) rfl (fun ls hl => ?_)
  refine lv_iload_n hx hb dL_guess_5 rfl (lv_at hl 0 rfl) ?_
  refine lv_bipush (v := 8) hx hb dL_guess_6 (by decide) ?_
  refine lv_idiv hx hb dL_guess_8 (by decide) ?_
  refine lv_iload_n hx hb dL_guess_9 rfl (lv_at hl 3 rfl) ?_
  refine lv_iconst (v := 2) hx hb dL_guess_10 (by decide) ?_
  refine lv_ishr hx hb dL_guess_11 ?_
  refine lv_iconst (v := 1) hx hb dL_guess_12 (by decide) ?_
  refine lv_iand hx hb dL_guess_13 ?_
  refine lv_iload_n hx hb dL_guess_14 rfl (lv_at hl 0 rfl) ?_
  refine lv_imul hx hb dL_guess_15 ?_
  refine lv_iadd hx hb dL_guess_16 ?_
  refine lv_iload_n hx hb dL_guess_17 rfl (lv_at hl 3 rfl) ?_
  refine lv_iconst (v := 1) hx hb dL_guess_18 (by decide) ?_
  refine lv_ishr hx hb dL_guess_19 ?_
  refine lv_iconst (v := 1) hx hb dL_guess_20 (by decide) ?_
  refine lv_iand hx hb dL_guess_21 ?_
  refine lv_iload_n hx hb dL_guess_22 rfl (lv_at hl 0 rfl) ?_
  refine lv_iconst (v := 2) hx hb dL_guess_23 (by decide) ?_
  refine lv_idiv hx hb dL_guess_24 (by decide) ?_
  refine lv_imul hx hb dL_guess_25 ?_
  refine lv_iadd hx hb dL_guess_26 ?_
  refine lv_iload_n hx hb dL_guess_27 rfl (lv_at hl 3 rfl) ?_
  refine lv_iconst (v := 1) hx hb dL_guess_28 (by decide) ?_
  refine lv_iand hx hb dL_guess_29 ?_
  refine lv_iload_n hx hb dL_guess_30 rfl (lv_at hl 0 rfl) ?_
  refine lv_iconst (v := 4) hx hb dL_guess_31 (by decide) ?_
  refine lv_idiv hx hb dL_guess_32 (by decide) ?_
  refine lv_imul hx hb dL_guess_33 ?_
  refine lv_iadd hx hb dL_guess_34 ?_
  obtain ⟨y5, ey5, hf⟩ := nb_e hf
  refine s_nm ey5 ?_
  refine lv_istore (lv' := [(4, .int y5), (3, .int r4), (0, .int p0), (1, .int p1), (2, .int p2)]) hx hb dL_guess_35 hl (by decide) rfl (fun ls hl => ?_)
  refine lv_iload_n hx hb dL_guess_37 rfl (lv_at hl 4 rfl) ?_
  refine lv_bipush (v := 7) hx hb dL_guess_38 (by decide) ?_
  refine lv_icmp_le (tgt := 50) hx hb dL_guess_40 (by decide) (fun g_6 => ?_) (fun g_6 => ?_)
  · rw [if_pos g_6] at hf
    refine lv_iload_n hx hb dL_guess_50 rfl (lv_at hl 2 rfl) ?_
    refine lv_iload hx hb dL_guess_51 (lv_at hl 0 rfl) ?_
    refine lv_iadd hx hb dL_guess_53 ?_
    exact b54 (p0 + y5) _ H locs ls hM hS (lv_sub hl [2, 3, 4] rfl) hf
  · rw [if_neg g_6] at hf
    refine lv_iload_n hx hb dL_guess_43 rfl (lv_at hl 2 rfl) ?_
    refine lv_iload hx hb dL_guess_44 (lv_at hl 0 rfl) ?_
    refine lv_isub hx hb dL_guess_46 ?_
    refine lv_goto (tgt := 54) hx hb dL_guess_47 (by decide) ?_
    exact b54 (p0 - y5) _ H locs ls hM hS (lv_sub hl [2, 3, 4] rfl) hf
def f_L_index_b47 (p0 : Int32) (p1 : Int32) (xs0 : Int32) (xs1 : Int32) (M : Mem) : Option Int32 := nb (xs1 + xs0) fun y1 => if 0 ≤ y1 then (if y1 ≤ (24 : Int32) then (some y1) else (some 24)) else (some 0)
def f_L_index (p0 : Int32) (p1 : Int32) (M : Mem) : Option Int32 := nb (p1 - p1 / 8 * 8) fun y4 => if y4 = (7 : Int32) then (f_L_index_b47 p0 p1 8 p0 M) else (if y4 = (6 : Int32) then (f_L_index_b47 p0 p1 6 p0 M) else (if y4 = (5 : Int32) then (f_L_index_b47 p0 p1 4 p0 M) else (if y4 = (4 : Int32) then (f_L_index_b47 p0 p1 2 p0 M) else (f_L_index_b47 p0 p1 (-1) p0 M))))
set_option maxHeartbeats 4000000 in
set_option maxRecDepth 100000 in
theorem k_L_index (G : Gt) (hG : gOK G) (l : Launch) (p0 : Int32) (p1 : Int32) (M : Mem) {r : Int32} (hf : f_L_index p0 p1 M = some r) : Kc G l yL_index cL_index 4 (some .int) ({ frames := 0, cells := 0, slots := 0, locals := 0 } : Room) [.int p0, .int p1] M (some (.int r)) M := by
  refine start (by decide) (Nat.le_of_ble_eq_true rfl) ?_
  intro p e s m args below meth c ls hx hb hr hown hml hlocks hts hV hM hl
  have hown : s.vm.findClass "FoldedVoicesLaw" = some m.cls := hown
  have hK := hG.1.moved hV
  have hS : va_S (gA G) s.heap s.heap [] := va_S.rf
  have hl : lv_has ls 4 [(0, .int p0), (1, .int p1)] := hl
  have hM0 := hM
  have b47 : ∀ (xs0 : Int32) (xs1 : Int32) (M : Mem) (H : Heap) (locs : List Loc) (ls : Array Slot), Mh G M H → va_S (gA G) s.heap H locs → lv_has ls 4 [(0, .int p0), (1, .int p1)] → f_L_index_b47 p0 p1 xs0 xs1 M = some r → W p l e ({ frames := 0, cells := 0, slots := 0, locals := 0 } : Room) s m args below meth c H locs 0 0 (MQ below (QV G (some (.int r)) M) args s 0 0 (gA G)) (F0 m 47 ls [.int xs0, .int xs1]) := by
    intro xs0 xs1 M H locs ls hM hS hl hf
    rw [f_L_index_b47] at hf
    refine lv_iadd hx hb dL_index_47 ?_
    obtain ⟨y1, ey1, hf⟩ := nb_e hf
    refine s_nm ey1 ?_
    refine lv_istore_n (lv' := [(3, .int y1), (0, .int p0), (1, .int p1)]) hx hb dL_index_48 rfl hl (by decide) rfl (fun ls hl => ?_)
    refine lv_iload_n hx hb dL_index_49 rfl (lv_at hl 0 rfl) ?_
    refine lv_if_ge (tgt := 57) hx hb dL_index_50 (by decide) (fun g_2 => ?_) (fun g_2 => ?_)
    · rw [if_pos g_2] at hf
      refine lv_iload_n hx hb dL_index_57 rfl (lv_at hl 0 rfl) ?_
      refine lv_bipush (v := 24) hx hb dL_index_58 (by decide) ?_
      refine lv_icmp_le (tgt := 68) hx hb dL_index_60 (by decide) (fun g_3 => ?_) (fun g_3 => ?_)
      · rw [if_pos g_3] at hf
        refine lv_iload_n hx hb dL_index_68 rfl (lv_at hl 0 rfl) ?_
        exact ef_ip hx hb hr hlocks hM hS hf dL_index_69
      · rw [if_neg g_3] at hf
        refine lv_bipush (v := 24) hx hb dL_index_63 (by decide) ?_
        refine lv_goto (tgt := 69) hx hb dL_index_65 (by decide) ?_
        exact ef_ip hx hb hr hlocks hM hS hf dL_index_69
    · rw [if_neg g_2] at hf
      refine lv_iconst (v := 0) hx hb dL_index_53 (by decide) ?_
      refine lv_goto (tgt := 69) hx hb dL_index_54 (by decide) ?_
      exact ef_ip hx hb hr hlocks hM hS hf dL_index_69
  rw [f_L_index] at hf
  obtain ⟨H, hHe⟩ : ∃ H, H = s.heap := ⟨_, rfl⟩
  obtain ⟨locs, hLe⟩ : ∃ L : List Loc, L = [] := ⟨_, rfl⟩
  rw [← hHe] at hM
  have hS : va_S (gA G) s.heap H locs := by rw [hHe, hLe]; exact va_S.rf
  suffices hW : W p l e ({ frames := 0, cells := 0, slots := 0, locals := 0 } : Room) s m args below meth c H locs 0 0 (MQ below (QV G (some (.int r)) M) args s 0 0 (gA G)) (F0 m 0 ls []) by rw [hHe, hLe] at hW; exact hW
  refine lv_iload_n hx hb dL_index_0 rfl (lv_at hl 1 rfl) ?_
  refine lv_bipush (v := 8) hx hb dL_index_1 (by decide) ?_
  refine lv_irem hx hb dL_index_3 (by decide) ?_
  obtain ⟨y4, ey4, hf⟩ := nb_e hf
  refine s_nm ey4 ?_
  refine lv_istore_n (lv' := [(2, .int y4), (0, .int p0), (1, .int p1)]) hx hb dL_index_4 rfl hl (by decide) rfl (fun ls hl => ?_)
  refine lv_iload_n hx hb dL_index_5 rfl (lv_at hl 1 rfl) ?_
  refine lv_iload_n hx hb dL_index_6 rfl (lv_at hl 0 rfl) ?_
  refine lv_bipush (v := 7) hx hb dL_index_7 (by decide) ?_
  refine lv_icmp_ne (tgt := 17) hx hb dL_index_9 (by decide) (fun g_5 => ?_) (fun g_5 => ?_)
  · rw [if_neg g_5] at hf
    refine lv_iload_n hx hb dL_index_17 rfl (lv_at hl 0 rfl) ?_
    refine lv_bipush (v := 6) hx hb dL_index_18 (by decide) ?_
    refine lv_icmp_ne (tgt := 28) hx hb dL_index_20 (by decide) (fun g_6 => ?_) (fun g_6 => ?_)
    · rw [if_neg g_6] at hf
      refine lv_iload_n hx hb dL_index_28 rfl (lv_at hl 0 rfl) ?_
      refine lv_iconst (v := 5) hx hb dL_index_29 (by decide) ?_
      refine lv_icmp_ne (tgt := 37) hx hb dL_index_30 (by decide) (fun g_7 => ?_) (fun g_7 => ?_)
      · rw [if_neg g_7] at hf
        refine lv_iload_n hx hb dL_index_37 rfl (lv_at hl 0 rfl) ?_
        refine lv_iconst (v := 4) hx hb dL_index_38 (by decide) ?_
        refine lv_icmp_ne (tgt := 46) hx hb dL_index_39 (by decide) (fun g_8 => ?_) (fun g_8 => ?_)
        · rw [if_neg g_8] at hf
          refine lv_iconst (v := (-1)) hx hb dL_index_46 (by decide) ?_
          exact b47 (-1) p0 _ H locs ls hM hS (lv_sub hl [1, 2] rfl) hf
        · rw [if_pos g_8] at hf
          refine lv_iconst (v := 2) hx hb dL_index_42 (by decide) ?_
          refine lv_goto (tgt := 47) hx hb dL_index_43 (by decide) ?_
          exact b47 2 p0 _ H locs ls hM hS (lv_sub hl [1, 2] rfl) hf
      · rw [if_pos g_7] at hf
        refine lv_iconst (v := 4) hx hb dL_index_33 (by decide) ?_
        refine lv_goto (tgt := 47) hx hb dL_index_34 (by decide) ?_
        exact b47 4 p0 _ H locs ls hM hS (lv_sub hl [1, 2] rfl) hf
    · rw [if_pos g_6] at hf
      refine lv_bipush (v := 6) hx hb dL_index_23 (by decide) ?_
      refine lv_goto (tgt := 47) hx hb dL_index_25 (by decide) ?_
      exact b47 6 p0 _ H locs ls hM hS (lv_sub hl [1, 2] rfl) hf
  · rw [if_pos g_5] at hf
    refine lv_bipush (v := 8) hx hb dL_index_12 (by decide) ?_
    refine lv_goto (tgt := 47) hx hb dL_index_14 (by decide) ?_
    exact b47 8 p0 _ H locs ls hM hS (lv_sub hl [1, 2] rfl) hf
def f_L_size (p0 : Int32) (M : Mem) : Option Int32 := if 0 ≤ p0 then (some p0) else (some (-p0))
set_option maxHeartbeats 4000000 in
set_option maxRecDepth 100000 in
theorem k_L_size (G : Gt) (hG : gOK G) (l : Launch) (p0 : Int32) (M : Mem) {r : Int32} (hf : f_L_size p0 M = some r) : Kc G l yL_size cL_size 1 (some .int) ({ frames := 0, cells := 0, slots := 0, locals := 0 } : Room) [.int p0] M (some (.int r)) M := by
  refine start (by decide) (Nat.le_of_ble_eq_true rfl) ?_
  intro p e s m args below meth c ls hx hb hr hown hml hlocks hts hV hM hl
  have hown : s.vm.findClass "FoldedVoicesLaw" = some m.cls := hown
  have hK := hG.1.moved hV
  have hS : va_S (gA G) s.heap s.heap [] := va_S.rf
  have hl : lv_has ls 1 [(0, .int p0)] := hl
  have hM0 := hM
  rw [f_L_size] at hf
  refine lv_iload_n hx hb dL_size_0 rfl (lv_at hl 0 rfl) ?_
  refine lv_if_ge (tgt := 9) hx hb dL_size_1 (by decide) (fun g_1 => ?_) (fun g_1 => ?_)
  · rw [if_pos g_1] at hf
    refine lv_iload_n hx hb dL_size_9 rfl (lv_at hl 0 rfl) ?_
    exact ef_ip hx hb hr hlocks hM hS hf dL_size_10
  · rw [if_neg g_1] at hf
    refine lv_iload_n hx hb dL_size_4 rfl (lv_at hl 0 rfl) ?_
    refine lv_ineg hx hb dL_size_5 ?_
    refine lv_goto (tgt := 10) hx hb dL_size_6 (by decide) ?_
    exact ef_ip hx hb hr hlocks hM hS hf dL_size_10
def f_L_follows (n0 : Nat) (a0 : Nat) (p1 : Int32) (p2 : Int32) (M : Mem) : Option Mem := gd (ix p1 n0) <| gd (ix (p1 + 1) n0) <| vb (f_L_guess (mI M a0 p1.toNatClampNeg) (mI M a0 (p1 + 1).toNatClampNeg) p2 M) fun r4 => gd (ix (p1 + 1) n0) <| vb (f_L_index (mI M a0 (p1 + 1).toNatClampNeg) p2 M) fun r7 => gd (ix (p1 + 1) n0) <| nb (sI M a0 (p1 + 1).toNatClampNeg r7) fun M9 => gd (ix p1 n0) <| nb (sI M9 a0 p1.toNatClampNeg r4) fun M11 => some M11
set_option maxHeartbeats 4000000 in
set_option maxRecDepth 100000 in
theorem k_L_follows (G : Gt) (hG : gOK G) (l : Launch) (n0 : Nat) (hn0 : n0 < 4000) (a0 : Nat) (h0 : gK G a0 = 1000 + n0) (p1 : Int32) (p2 : Int32) (M : Mem) {M' : Mem} (hf : f_L_follows n0 a0 p1 p2 M = some M') : Kc G l yL_follows cL_follows 4 none ({ frames := 2, cells := 0, slots := 0, locals := 47 } : Room) [.ref a0, .int p1, .int p2] M none M' := by
  refine start (by decide) (Nat.le_of_ble_eq_true rfl) ?_
  intro p e s m args below meth c ls hx hb hr hown hml hlocks hts hV hM hl
  have hown : s.vm.findClass "FoldedVoicesLaw" = some m.cls := hown
  have hK := hG.1.moved hV
  have hS : va_S (gA G) s.heap s.heap [] := va_S.rf
  have hl : lv_has ls 4 [(0, .ref a0), (1, .int p1), (2, .int p2)] := hl
  have hM0 := hM
  rw [f_L_follows] at hf
  refine lv_aload_n hx hb dL_follows_0 rfl (lv_at hl 0 rfl) ?_
  refine lv_iload_n hx hb dL_follows_1 rfl (lv_at hl 1 rfl) ?_
  obtain ⟨h_1, hf⟩ := gd_e hf
  refine s_iald n0 hx hb hK hM h0 hn0 h_1 dL_follows_2 ?_
  refine lv_aload_n hx hb dL_follows_3 rfl (lv_at hl 0 rfl) ?_
  refine lv_iload_n hx hb dL_follows_4 rfl (lv_at hl 1 rfl) ?_
  refine lv_iconst (v := 1) hx hb dL_follows_5 (by decide) ?_
  refine lv_iadd hx hb dL_follows_6 ?_
  obtain ⟨h_2, hf⟩ := gd_e hf
  refine s_iald n0 hx hb hK hM h0 hn0 h_2 dL_follows_7 ?_
  refine lv_iload_n hx hb dL_follows_8 rfl (lv_at hl 2 rfl) ?_
  obtain ⟨r4, e_3, hf⟩ := vb_e hf
  refine c_Si hx hb hml hown hts hV hM hS (As := [.int (mI M a0 p1.toNatClampNeg), .int (mI M a0 (p1 + 1).toNatClampNeg), .int p2]) (rest := []) (k_L_guess G hG l (mI M a0 p1.toNatClampNeg) (mI M a0 (p1 + 1).toNatClampNeg) p2 M e_3) w_L_guess (tk_497 hts) ⟨⟨rfl, rfl⟩, Nat.le_of_ble_eq_true rfl, Nat.le_of_ble_eq_true rfl⟩ ⟨Nat.zero_le _, Nat.zero_le _⟩ rfl hl.1 rfl (Nat.le_of_ble_eq_true rfl) dL_follows_9 (fun H locs hM hS => ?_)
  refine lv_istore_n (lv' := [(3, .int r4), (0, .ref a0), (1, .int p1), (2, .int p2)]) hx hb dL_follows_12 rfl hl (by decide) rfl (fun ls hl => ?_)
  refine lv_aload_n hx hb dL_follows_13 rfl (lv_at hl 1 rfl) ?_
  refine lv_iload_n hx hb dL_follows_14 rfl (lv_at hl 2 rfl) ?_
  refine lv_iconst (v := 1) hx hb dL_follows_15 (by decide) ?_
  refine lv_iadd hx hb dL_follows_16 ?_
  refine lv_aload_n hx hb dL_follows_17 rfl (lv_at hl 1 rfl) ?_
  refine lv_iload_n hx hb dL_follows_18 rfl (lv_at hl 2 rfl) ?_
  refine lv_iconst (v := 1) hx hb dL_follows_19 (by decide) ?_
  refine lv_iadd hx hb dL_follows_20 ?_
  obtain ⟨h_5, hf⟩ := gd_e hf
  refine s_iald n0 hx hb hK hM h0 hn0 h_5 dL_follows_21 ?_
  refine lv_iload_n hx hb dL_follows_22 rfl (lv_at hl 3 rfl) ?_
  obtain ⟨r7, e_6, hf⟩ := vb_e hf
  refine c_Si hx hb hml hown hts hV hM hS (As := [.int (mI M a0 (p1 + 1).toNatClampNeg), .int p2]) (rest := [.int (p1 + 1), .ref a0]) (k_L_index G hG l (mI M a0 (p1 + 1).toNatClampNeg) p2 M e_6) w_L_index (tk_500 hts) ⟨⟨rfl, rfl⟩, Nat.le_of_ble_eq_true rfl, Nat.le_of_ble_eq_true rfl⟩ ⟨Nat.zero_le _, Nat.zero_le _⟩ rfl hl.1 rfl (Nat.le_of_ble_eq_true rfl) dL_follows_23 (fun H locs hM hS => ?_)
  obtain ⟨h_8, hf⟩ := gd_e hf
  obtain ⟨M9, eM9, hf⟩ := nb_e hf
  refine s_iast n0 hx hb hK hM hS h0 hn0 (ky_b hG h0 (by omega)) h_8 dL_follows_26 (fun H locs hM hS => ?_)
  rw [eM9] at hM
  refine lv_aload_n hx hb dL_follows_27 rfl (lv_at hl 1 rfl) ?_
  refine lv_iload_n hx hb dL_follows_28 rfl (lv_at hl 2 rfl) ?_
  refine lv_iload_n hx hb dL_follows_29 rfl (lv_at hl 0 rfl) ?_
  obtain ⟨h_10, hf⟩ := gd_e hf
  obtain ⟨M11, eM11, hf⟩ := nb_e hf
  refine s_iast n0 hx hb hK hM hS h0 hn0 (ky_b hG h0 (by omega)) h_10 dL_follows_30 (fun H locs hM hS => ?_)
  rw [eM11] at hM
  exact ef_v hx hb hr hlocks hM hS hf dL_follows_31
def f_L_packs_b216 (a0 : Nat) (a1 : Nat) (a2 : Nat) (a3 : Nat) (p4 : Int32) (xs0 : Int32) (xs1 : Int32) (qs2 : Nat) (M : Mem) : Option Mem := gd (ix xs1 60) <| nb (sI M qs2 xs1.toNatClampNeg xs0) fun M2 => gd (ix (((20 : Int32) * p4) + 4) 60) <| nb (sI M2 a0 (((20 : Int32) * p4) + 4).toNatClampNeg 0) fun M4 => gd (ix (((20 : Int32) * p4) + 5) 60) <| gd (ix (((20 : Int32) * p4) + 5) 60) <| nb (sI M4 a0 (((20 : Int32) * p4) + 5).toNatClampNeg ((mI M4 a0 (((20 : Int32) * p4) + 5).toNatClampNeg) + 1)) fun M7 => gd (ix (((20 : Int32) * p4) + 19) 60) <| gd (ix (((20 : Int32) * p4) + 19) 60) <| nb (sI M7 a0 (((20 : Int32) * p4) + 19).toNatClampNeg ((mI M7 a0 (((20 : Int32) * p4) + 19).toNatClampNeg) + 1)) fun M10 => some M10
def f_L_packs_b154 (a0 : Nat) (a1 : Nat) (a2 : Nat) (a3 : Nat) (p4 : Int32) : Nat → Int32 → Int32 → Int32 → Mem → Option Mem
  | 0, _, _, _, _ => none
  | n + 1, x5, x6, x7, M => if (8 : Int32) ≤ x7 then (if x6 = 0 then (gd (ix (((20 : Int32) * p4) + 7) 60) <| f_L_packs_b216 a0 a1 a2 a3 p4 ((mI M a0 (((20 : Int32) * p4) + 7).toNatClampNeg) + 1) (((20 : Int32) * p4) + 7) a0 M) else (f_L_packs_b216 a0 a1 a2 a3 p4 0 (((20 : Int32) * p4) + 7) a0 M)) else (gd (ix (((8 : Int32) * p4) + x7) 24) <| gd (ix ((x5 + 5) + x7) 64) <| nb (sI M a3 ((x5 + 5) + x7).toNatClampNeg (mI M a2 (((8 : Int32) * p4) + x7).toNatClampNeg)) fun M16 => nb (x7 + 1) fun y17 => f_L_packs_b154 a0 a1 a2 a3 p4 n x5 x6 y17 M16)
def f_L_packs_b150 (a0 : Nat) (a1 : Nat) (a2 : Nat) (a3 : Nat) (p4 : Int32) (x5 : Int32) (x6 : Int32) (xs0 : Int32) (xs1 : Int32) (qs2 : Nat) (M : Mem) : Option Mem := gd (ix xs1 64) <| nb (sI M qs2 xs1.toNatClampNeg xs0) fun M19 => f_L_packs_b154 a0 a1 a2 a3 p4 lfuel x5 x6 0 M19
def f_L_packs_b123 (a0 : Nat) (a1 : Nat) (a2 : Nat) (a3 : Nat) (p4 : Int32) (x5 : Int32) (x6 : Int32) (xs0 : Int32) (xs1 : Int32) (qs2 : Nat) (M : Mem) : Option Mem := gd (ix xs1 64) <| nb (sI M qs2 xs1.toNatClampNeg xs0) fun M21 => if x6 = 0 then (f_L_packs_b150 a0 a1 a2 a3 p4 x5 x6 (-10000) (x5 + 4) a3 M21) else (gd (ix (((20 : Int32) * p4) + 9) 60) <| f_L_packs_b150 a0 a1 a2 a3 p4 x5 x6 (mI M21 a0 (((20 : Int32) * p4) + 9).toNatClampNeg) (x5 + 4) a3 M21)
def f_L_packs_b96 (a0 : Nat) (a1 : Nat) (a2 : Nat) (a3 : Nat) (p4 : Int32) (x5 : Int32) (x6 : Int32) (xs0 : Int32) (xs1 : Int32) (qs2 : Nat) (M : Mem) : Option Mem := gd (ix xs1 64) <| nb (sI M qs2 xs1.toNatClampNeg xs0) fun M25 => if x6 = 0 then (f_L_packs_b123 a0 a1 a2 a3 p4 x5 x6 (-10000) (x5 + 3) a3 M25) else (gd (ix (((20 : Int32) * p4) + 8) 60) <| f_L_packs_b123 a0 a1 a2 a3 p4 x5 x6 (mI M25 a0 (((20 : Int32) * p4) + 8).toNatClampNeg) (x5 + 3) a3 M25)
def f_L_packs_b51 (a0 : Nat) (a1 : Nat) (a2 : Nat) (a3 : Nat) (p4 : Int32) (x5 : Int32) (xs0 : Int32) (M : Mem) : Option Mem := gd (ix (((20 : Int32) * p4) + 5) 60) <| gd (ix x5 64) <| nb (sI M a3 x5.toNatClampNeg (mI M a0 (((20 : Int32) * p4) + 5).toNatClampNeg)) fun M30 => gd (ix (((20 : Int32) * p4) + 4) 60) <| gd (ix (x5 + 1) 64) <| nb (sI M30 a3 (x5 + 1).toNatClampNeg (mI M30 a0 (((20 : Int32) * p4) + 4).toNatClampNeg)) fun M33 => if xs0 = 0 then (f_L_packs_b96 a0 a1 a2 a3 p4 x5 xs0 0 (x5 + 2) a3 M33) else (f_L_packs_b96 a0 a1 a2 a3 p4 x5 xs0 1 (x5 + 2) a3 M33)
def f_L_packs_b46 (a0 : Nat) (a1 : Nat) (a2 : Nat) (a3 : Nat) (p4 : Int32) (x5 : Int32) (M : Mem) : Option Mem := f_L_packs_b51 a0 a1 a2 a3 p4 x5 1 M
def f_L_packs (a0 : Nat) (a1 : Nat) (a2 : Nat) (a3 : Nat) (p4 : Int32) (M : Mem) : Option Mem := gd (ix (((20 : Int32) * p4) + 19) 60) <| nb ((16 : Int32) * (mI M a0 (((20 : Int32) * p4) + 19).toNatClampNeg)) fun y36 => gd (ix (((20 : Int32) * p4) + 5) 60) <| if (mI M a0 (((20 : Int32) * p4) + 5).toNatClampNeg) = 0 then (f_L_packs_b46 a0 a1 a2 a3 p4 y36 M) else (gd (ix (((20 : Int32) * p4) + 7) 60) <| gd (ix (12 : Int32) 14) <| if ((mI M a0 (((20 : Int32) * p4) + 7).toNatClampNeg) + 1) < (mI M a1 (12 : Int32).toNatClampNeg) then (f_L_packs_b51 a0 a1 a2 a3 p4 y36 0 M) else (f_L_packs_b46 a0 a1 a2 a3 p4 y36 M))
set_option maxHeartbeats 4000000 in
set_option maxRecDepth 100000 in
theorem k_L_packs (G : Gt) (hG : gOK G) (l : Launch) (a0 : Nat) (h0 : gK G a0 = 1060) (a1 : Nat) (h1 : gK G a1 = 1014) (a2 : Nat) (h2 : gK G a2 = 1024) (a3 : Nat) (h3 : gK G a3 = 1064) (p4 : Int32) (M : Mem) {M' : Mem} (hf : f_L_packs a0 a1 a2 a3 p4 M = some M') : Kc G l yL_packs cL_packs 8 none ({ frames := 0, cells := 0, slots := 0, locals := 0 } : Room) [.ref a0, .ref a1, .ref a2, .ref a3, .int p4] M none M' := by
  refine start (by decide) (Nat.le_of_ble_eq_true rfl) ?_
  intro p e s m args below meth c ls hx hb hr hown hml hlocks hts hV hM hl
  have hown : s.vm.findClass "FoldedVoicesLaw" = some m.cls := hown
  have hK := hG.1.moved hV
  have hS : va_S (gA G) s.heap s.heap [] := va_S.rf
  have hl : lv_has ls 8 [(0, .ref a0), (1, .ref a1), (2, .ref a2), (3, .ref a3), (4, .int p4)] := hl
  have hM0 := hM
  have b216 : ∀ (xs0 : Int32) (xs1 : Int32) (qs2 : Nat) (M : Mem) (H : Heap) (locs : List Loc) (ls : Array Slot), gK G qs2 = 1060 → Mh G M H → va_S (gA G) s.heap H locs → lv_has ls 8 [(0, .ref a0), (1, .ref a1), (2, .ref a2), (3, .ref a3), (4, .int p4)] → f_L_packs_b216 a0 a1 a2 a3 p4 xs0 xs1 qs2 M = some M' → W p l e ({ frames := 0, cells := 0, slots := 0, locals := 0 } : Room) s m args below meth c H locs 0 0 (MQ below (QV G none M') args s 0 0 (gA G)) (F0 m 216 ls [.int xs0, .int xs1, .ref qs2]) := by
    intro xs0 xs1 qs2 M H locs ls h_qs2 hM hS hl hf
    rw [f_L_packs_b216] at hf
    obtain ⟨h_1, hf⟩ := gd_e hf
    obtain ⟨M2, eM2, hf⟩ := nb_e hf
    refine s_iast 60 hx hb hK hM hS h_qs2 (by decide) (ky_b hG h_qs2) h_1 dL_packs_216 (fun H locs hM hS => ?_)
    rw [eM2] at hM
    refine lv_aload_n hx hb dL_packs_217 rfl (lv_at hl 0 rfl) ?_
    refine lv_bipush (v := 20) hx hb dL_packs_218 (by decide) ?_
    refine lv_iload hx hb dL_packs_220 (lv_at hl 4 rfl) ?_
    refine lv_imul hx hb dL_packs_222 ?_
    refine lv_iconst (v := 4) hx hb dL_packs_223 (by decide) ?_
    refine lv_iadd hx hb dL_packs_224 ?_
    refine lv_iconst (v := 0) hx hb dL_packs_225 (by decide) ?_
    obtain ⟨h_3, hf⟩ := gd_e hf
    obtain ⟨M4, eM4, hf⟩ := nb_e hf
    refine s_iast 60 hx hb hK hM hS h0 (by decide) (ky_b hG h0) h_3 dL_packs_226 (fun H locs hM hS => ?_)
    rw [eM4] at hM
    refine lv_aload_n hx hb dL_packs_227 rfl (lv_at hl 0 rfl) ?_
    refine lv_bipush (v := 20) hx hb dL_packs_228 (by decide) ?_
    refine lv_iload hx hb dL_packs_230 (lv_at hl 4 rfl) ?_
    refine lv_imul hx hb dL_packs_232 ?_
    refine lv_iconst (v := 5) hx hb dL_packs_233 (by decide) ?_
    refine lv_iadd hx hb dL_packs_234 ?_
    refine lv_dup2_11 hx hb dL_packs_235 rfl rfl ?_
    obtain ⟨h_5, hf⟩ := gd_e hf
    refine s_iald 60 hx hb hK hM h0 (by decide) h_5 dL_packs_236 ?_
    refine lv_iconst (v := 1) hx hb dL_packs_237 (by decide) ?_
    refine lv_iadd hx hb dL_packs_238 ?_
    obtain ⟨h_6, hf⟩ := gd_e hf
    obtain ⟨M7, eM7, hf⟩ := nb_e hf
    refine s_iast 60 hx hb hK hM hS h0 (by decide) (ky_b hG h0) h_6 dL_packs_239 (fun H locs hM hS => ?_)
    rw [eM7] at hM
    refine lv_aload_n hx hb dL_packs_240 rfl (lv_at hl 0 rfl) ?_
    refine lv_bipush (v := 20) hx hb dL_packs_241 (by decide) ?_
    refine lv_iload hx hb dL_packs_243 (lv_at hl 4 rfl) ?_
    refine lv_imul hx hb dL_packs_245 ?_
    refine lv_bipush (v := 19) hx hb dL_packs_246 (by decide) ?_
    refine lv_iadd hx hb dL_packs_248 ?_
    refine lv_dup2_11 hx hb dL_packs_249 rfl rfl ?_
    obtain ⟨h_8, hf⟩ := gd_e hf
    refine s_iald 60 hx hb hK hM h0 (by decide) h_8 dL_packs_250 ?_
    refine lv_iconst (v := 1) hx hb dL_packs_251 (by decide) ?_
    refine lv_iadd hx hb dL_packs_252 ?_
    obtain ⟨h_9, hf⟩ := gd_e hf
    obtain ⟨M10, eM10, hf⟩ := nb_e hf
    refine s_iast 60 hx hb hK hM hS h0 (by decide) (ky_b hG h0) h_9 dL_packs_253 (fun H locs hM hS => ?_)
    rw [eM10] at hM
    exact ef_v hx hb hr hlocks hM hS hf dL_packs_254
  have b154 : ∀ (n : Nat), ∀ (x5 : Int32) (x6 : Int32) (x7 : Int32) (M : Mem) (H : Heap) (locs : List Loc) (ls : Array Slot), Mh G M H → va_S (gA G) s.heap H locs → lv_has ls 8 [(0, .ref a0), (1, .ref a1), (2, .ref a2), (3, .ref a3), (4, .int p4), (5, .int x5), (6, .int x6), (7, .int x7)] → f_L_packs_b154 a0 a1 a2 a3 p4 n x5 x6 x7 M = some M' → W p l e ({ frames := 0, cells := 0, slots := 0, locals := 0 } : Room) s m args below meth c H locs 0 0 (MQ below (QV G none M') args s 0 0 (gA G)) (F0 m 154 ls []) := by
    intro n
    induction n with
    | zero =>
      intro x5 x6 x7 M H locs ls hM hS hl hf
      rw [f_L_packs_b154] at hf
      cases hf
    | succ n ih =>
      intro x5 x6 x7 M H locs ls hM hS hl hf
      rw [f_L_packs_b154] at hf
      refine lv_iload hx hb dL_packs_154 (lv_at hl 7 rfl) ?_
      refine lv_bipush (v := 8) hx hb dL_packs_156 (by decide) ?_
      refine lv_icmp_ge (tgt := 186) hx hb dL_packs_158 (by decide) (fun g_11 => ?_) (fun g_11 => ?_)
      · rw [if_pos g_11] at hf
        refine lv_aload_n hx hb dL_packs_186 rfl (lv_at hl 0 rfl) ?_
        refine lv_bipush (v := 20) hx hb dL_packs_187 (by decide) ?_
        refine lv_iload hx hb dL_packs_189 (lv_at hl 4 rfl) ?_
        refine lv_imul hx hb dL_packs_191 ?_
        refine lv_bipush (v := 7) hx hb dL_packs_192 (by decide) ?_
        refine lv_iadd hx hb dL_packs_194 ?_
        refine lv_iload hx hb dL_packs_195 (lv_at hl 6 rfl) ?_
        refine lv_if_eq (tgt := 204) hx hb dL_packs_197 (by decide) (fun g_12 => ?_) (fun g_12 => ?_)
        · rw [if_pos g_12] at hf
          refine lv_aload_n hx hb dL_packs_204 rfl (lv_at hl 0 rfl) ?_
          refine lv_bipush (v := 20) hx hb dL_packs_205 (by decide) ?_
          refine lv_iload hx hb dL_packs_207 (lv_at hl 4 rfl) ?_
          refine lv_imul hx hb dL_packs_209 ?_
          refine lv_bipush (v := 7) hx hb dL_packs_210 (by decide) ?_
          refine lv_iadd hx hb dL_packs_212 ?_
          obtain ⟨h_13, hf⟩ := gd_e hf
          refine s_iald 60 hx hb hK hM h0 (by decide) h_13 dL_packs_213 ?_
          refine lv_iconst (v := 1) hx hb dL_packs_214 (by decide) ?_
          refine lv_iadd hx hb dL_packs_215 ?_
          exact b216 ((mI M a0 (((20 : Int32) * p4) + 7).toNatClampNeg) + 1) (((20 : Int32) * p4) + 7) a0 _ H locs ls h0 hM hS (lv_sub hl [0, 1, 2, 3, 4] rfl) hf
        · rw [if_neg g_12] at hf
          refine lv_iconst (v := 0) hx hb dL_packs_200 (by decide) ?_
          refine lv_goto (tgt := 216) hx hb dL_packs_201 (by decide) ?_
          exact b216 0 (((20 : Int32) * p4) + 7) a0 _ H locs ls h0 hM hS (lv_sub hl [0, 1, 2, 3, 4] rfl) hf
      · rw [if_neg g_11] at hf
        refine lv_aload_n hx hb dL_packs_161 rfl (lv_at hl 3 rfl) ?_
        refine lv_iload hx hb dL_packs_162 (lv_at hl 5 rfl) ?_
        refine lv_iconst (v := 5) hx hb dL_packs_164 (by decide) ?_
        refine lv_iadd hx hb dL_packs_165 ?_
        refine lv_iload hx hb dL_packs_166 (lv_at hl 7 rfl) ?_
        refine lv_iadd hx hb dL_packs_168 ?_
        refine lv_aload_n hx hb dL_packs_169 rfl (lv_at hl 2 rfl) ?_
        refine lv_bipush (v := 8) hx hb dL_packs_170 (by decide) ?_
        refine lv_iload hx hb dL_packs_172 (lv_at hl 4 rfl) ?_
        refine lv_imul hx hb dL_packs_174 ?_
        refine lv_iload hx hb dL_packs_175 (lv_at hl 7 rfl) ?_
        refine lv_iadd hx hb dL_packs_177 ?_
        obtain ⟨h_14, hf⟩ := gd_e hf
        refine s_iald 24 hx hb hK hM h2 (by decide) h_14 dL_packs_178 ?_
        obtain ⟨h_15, hf⟩ := gd_e hf
        obtain ⟨M16, eM16, hf⟩ := nb_e hf
        refine s_iast 64 hx hb hK hM hS h3 (by decide) (ky_b hG h3) h_15 dL_packs_179 (fun H locs hM hS => ?_)
        rw [eM16] at hM
        obtain ⟨y17, ey17, hf⟩ := nb_e hf
        refine lv_iinc (v := y17) (lv' := [(7, .int y17), (0, .ref a0), (1, .ref a1), (2, .ref a2), (3, .ref a3), (4, .int p4), (5, .int x5), (6, .int x6)]) hx hb dL_packs_180 hl (k := 7) rfl (by rw [← ey17]; rfl) (by decide) rfl (fun ls hl => ?_)
        refine lv_goto (tgt := 154) hx hb dL_packs_183 (by decide) ?_
        exact ih x5 x6 y17 _ H locs ls hM hS (lv_sub hl [1, 2, 3, 4, 5, 6, 7, 0] rfl) hf
  have b150 : ∀ (x5 : Int32) (x6 : Int32) (xs0 : Int32) (xs1 : Int32) (qs2 : Nat) (M : Mem) (H : Heap) (locs : List Loc) (ls : Array Slot), gK G qs2 = 1064 → Mh G M H → va_S (gA G) s.heap H locs → lv_has ls 8 [(0, .ref a0), (1, .ref a1), (2, .ref a2), (3, .ref a3), (4, .int p4), (5, .int x5), (6, .int x6)] → f_L_packs_b150 a0 a1 a2 a3 p4 x5 x6 xs0 xs1 qs2 M = some M' → W p l e ({ frames := 0, cells := 0, slots := 0, locals := 0 } : Room) s m args below meth c H locs 0 0 (MQ below (QV G none M') args s 0 0 (gA G)) (F0 m 150 ls [.int xs0, .int xs1, .ref qs2]) := by
    intro x5 x6 xs0 xs1 qs2 M H locs ls h_qs2 hM hS hl hf
    rw [f_L_packs_b150] at hf
    obtain ⟨h_18, hf⟩ := gd_e hf
    obtain ⟨M19, eM19, hf⟩ := nb_e hf
    refine s_iast 64 hx hb hK hM hS h_qs2 (by decide) (ky_b hG h_qs2) h_18 dL_packs_150 (fun H locs hM hS => ?_)
    rw [eM19] at hM
    refine lv_iconst (v := 0) hx hb dL_packs_151 (by decide) ?_
    refine lv_istore (lv' := [(7, .int 0), (0, .ref a0), (1, .ref a1), (2, .ref a2), (3, .ref a3), (4, .int p4), (5, .int x5), (6, .int x6)]) hx hb dL_packs_152 hl (by decide) rfl (fun ls hl => ?_)
    exact b154 _ x5 x6 0 _ H locs ls hM hS (lv_sub hl [1, 2, 3, 4, 5, 6, 7, 0] rfl) hf
  have b123 : ∀ (x5 : Int32) (x6 : Int32) (xs0 : Int32) (xs1 : Int32) (qs2 : Nat) (M : Mem) (H : Heap) (locs : List Loc) (ls : Array Slot), gK G qs2 = 1064 → Mh G M H → va_S (gA G) s.heap H locs → lv_has ls 8 [(0, .ref a0), (1, .ref a1), (2, .ref a2), (3, .ref a3), (4, .int p4), (5, .int x5), (6, .int x6)] → f_L_packs_b123 a0 a1 a2 a3 p4 x5 x6 xs0 xs1 qs2 M = some M' → W p l e ({ frames := 0, cells := 0, slots := 0, locals := 0 } : Room) s m args below meth c H locs 0 0 (MQ below (QV G none M') args s 0 0 (gA G)) (F0 m 123 ls [.int xs0, .int xs1, .ref qs2]) := by
    intro x5 x6 xs0 xs1 qs2 M H locs ls h_qs2 hM hS hl hf
    rw [f_L_packs_b123] at hf
    obtain ⟨h_20, hf⟩ := gd_e hf
    obtain ⟨M21, eM21, hf⟩ := nb_e hf
    refine s_iast 64 hx hb hK hM hS h_qs2 (by decide) (ky_b hG h_qs2) h_20 dL_packs_123 (fun H locs hM hS => ?_)
    rw [eM21] at hM
    refine lv_aload_n hx hb dL_packs_124 rfl (lv_at hl 3 rfl) ?_
    refine lv_iload hx hb dL_packs_125 (lv_at hl 5 rfl) ?_
    refine lv_iconst (v := 4) hx hb dL_packs_127 (by decide) ?_
    refine lv_iadd hx hb dL_packs_128 ?_
    refine lv_iload hx hb dL_packs_129 (lv_at hl 6 rfl) ?_
    refine lv_if_eq (tgt := 147) hx hb dL_packs_131 (by decide) (fun g_22 => ?_) (fun g_22 => ?_)
    · rw [if_pos g_22] at hf
      refine lv_sipush (v := (-10000)) hx hb dL_packs_147 (by decide) ?_
      exact b150 x5 x6 (-10000) (x5 + 4) a3 _ H locs ls h3 hM hS (lv_sub hl [0, 1, 2, 3, 4, 5, 6] rfl) hf
    · rw [if_neg g_22] at hf
      refine lv_aload_n hx hb dL_packs_134 rfl (lv_at hl 0 rfl) ?_
      refine lv_bipush (v := 20) hx hb dL_packs_135 (by decide) ?_
      refine lv_iload hx hb dL_packs_137 (lv_at hl 4 rfl) ?_
      refine lv_imul hx hb dL_packs_139 ?_
      refine lv_bipush (v := 9) hx hb dL_packs_140 (by decide) ?_
      refine lv_iadd hx hb dL_packs_142 ?_
      obtain ⟨h_23, hf⟩ := gd_e hf
      refine s_iald 60 hx hb hK hM h0 (by decide) h_23 dL_packs_143 ?_
      refine lv_goto (tgt := 150) hx hb dL_packs_144 (by decide) ?_
      exact b150 x5 x6 (mI M21 a0 (((20 : Int32) * p4) + 9).toNatClampNeg) (x5 + 4) a3 _ H locs ls h3 hM hS (lv_sub hl [0, 1, 2, 3, 4, 5, 6] rfl) hf
  have b96 : ∀ (x5 : Int32) (x6 : Int32) (xs0 : Int32) (xs1 : Int32) (qs2 : Nat) (M : Mem) (H : Heap) (locs : List Loc) (ls : Array Slot), gK G qs2 = 1064 → Mh G M H → va_S (gA G) s.heap H locs → lv_has ls 8 [(0, .ref a0), (1, .ref a1), (2, .ref a2), (3, .ref a3), (4, .int p4), (5, .int x5), (6, .int x6)] → f_L_packs_b96 a0 a1 a2 a3 p4 x5 x6 xs0 xs1 qs2 M = some M' → W p l e ({ frames := 0, cells := 0, slots := 0, locals := 0 } : Room) s m args below meth c H locs 0 0 (MQ below (QV G none M') args s 0 0 (gA G)) (F0 m 96 ls [.int xs0, .int xs1, .ref qs2]) := by
    intro x5 x6 xs0 xs1 qs2 M H locs ls h_qs2 hM hS hl hf
    rw [f_L_packs_b96] at hf
    obtain ⟨h_24, hf⟩ := gd_e hf
    obtain ⟨M25, eM25, hf⟩ := nb_e hf
    refine s_iast 64 hx hb hK hM hS h_qs2 (by decide) (ky_b hG h_qs2) h_24 dL_packs_96 (fun H locs hM hS => ?_)
    rw [eM25] at hM
    refine lv_aload_n hx hb dL_packs_97 rfl (lv_at hl 3 rfl) ?_
    refine lv_iload hx hb dL_packs_98 (lv_at hl 5 rfl) ?_
    refine lv_iconst (v := 3) hx hb dL_packs_100 (by decide) ?_
    refine lv_iadd hx hb dL_packs_101 ?_
    refine lv_iload hx hb dL_packs_102 (lv_at hl 6 rfl) ?_
    refine lv_if_eq (tgt := 120) hx hb dL_packs_104 (by decide) (fun g_26 => ?_) (fun g_26 => ?_)
    · rw [if_pos g_26] at hf
      refine lv_sipush (v := (-10000)) hx hb dL_packs_120 (by decide) ?_
      exact b123 x5 x6 (-10000) (x5 + 3) a3 _ H locs ls h3 hM hS (lv_sub hl [0, 1, 2, 3, 4, 5, 6] rfl) hf
    · rw [if_neg g_26] at hf
      refine lv_aload_n hx hb dL_packs_107 rfl (lv_at hl 0 rfl) ?_
      refine lv_bipush (v := 20) hx hb dL_packs_108 (by decide) ?_
      refine lv_iload hx hb dL_packs_110 (lv_at hl 4 rfl) ?_
      refine lv_imul hx hb dL_packs_112 ?_
      refine lv_bipush (v := 8) hx hb dL_packs_113 (by decide) ?_
      refine lv_iadd hx hb dL_packs_115 ?_
      obtain ⟨h_27, hf⟩ := gd_e hf
      refine s_iald 60 hx hb hK hM h0 (by decide) h_27 dL_packs_116 ?_
      refine lv_goto (tgt := 123) hx hb dL_packs_117 (by decide) ?_
      exact b123 x5 x6 (mI M25 a0 (((20 : Int32) * p4) + 8).toNatClampNeg) (x5 + 3) a3 _ H locs ls h3 hM hS (lv_sub hl [0, 1, 2, 3, 4, 5, 6] rfl) hf
  have b51 : ∀ (x5 : Int32) (xs0 : Int32) (M : Mem) (H : Heap) (locs : List Loc) (ls : Array Slot), Mh G M H → va_S (gA G) s.heap H locs → lv_has ls 8 [(0, .ref a0), (1, .ref a1), (2, .ref a2), (3, .ref a3), (4, .int p4), (5, .int x5)] → f_L_packs_b51 a0 a1 a2 a3 p4 x5 xs0 M = some M' → W p l e ({ frames := 0, cells := 0, slots := 0, locals := 0 } : Room) s m args below meth c H locs 0 0 (MQ below (QV G none M') args s 0 0 (gA G)) (F0 m 51 ls [.int xs0]) := by
    intro x5 xs0 M H locs ls hM hS hl hf
    rw [f_L_packs_b51] at hf
    refine lv_istore (lv' := [(6, .int xs0), (0, .ref a0), (1, .ref a1), (2, .ref a2), (3, .ref a3), (4, .int p4), (5, .int x5)]) hx hb dL_packs_51 hl (by decide) rfl (fun ls hl => ?_)
    refine lv_aload_n hx hb dL_packs_53 rfl (lv_at hl 4 rfl) ?_
    refine lv_iload hx hb dL_packs_54 (lv_at hl 6 rfl) ?_
    refine lv_aload_n hx hb dL_packs_56 rfl (lv_at hl 1 rfl) ?_
    refine lv_bipush (v := 20) hx hb dL_packs_57 (by decide) ?_
    refine lv_iload hx hb dL_packs_59 (lv_at hl 5 rfl) ?_
    refine lv_imul hx hb dL_packs_61 ?_
    refine lv_iconst (v := 5) hx hb dL_packs_62 (by decide) ?_
    refine lv_iadd hx hb dL_packs_63 ?_
    obtain ⟨h_28, hf⟩ := gd_e hf
    refine s_iald 60 hx hb hK hM h0 (by decide) h_28 dL_packs_64 ?_
    obtain ⟨h_29, hf⟩ := gd_e hf
    obtain ⟨M30, eM30, hf⟩ := nb_e hf
    refine s_iast 64 hx hb hK hM hS h3 (by decide) (ky_b hG h3) h_29 dL_packs_65 (fun H locs hM hS => ?_)
    rw [eM30] at hM
    refine lv_aload_n hx hb dL_packs_66 rfl (lv_at hl 4 rfl) ?_
    refine lv_iload hx hb dL_packs_67 (lv_at hl 6 rfl) ?_
    refine lv_iconst (v := 1) hx hb dL_packs_69 (by decide) ?_
    refine lv_iadd hx hb dL_packs_70 ?_
    refine lv_aload_n hx hb dL_packs_71 rfl (lv_at hl 1 rfl) ?_
    refine lv_bipush (v := 20) hx hb dL_packs_72 (by decide) ?_
    refine lv_iload hx hb dL_packs_74 (lv_at hl 5 rfl) ?_
    refine lv_imul hx hb dL_packs_76 ?_
    refine lv_iconst (v := 4) hx hb dL_packs_77 (by decide) ?_
    refine lv_iadd hx hb dL_packs_78 ?_
    obtain ⟨h_31, hf⟩ := gd_e hf
    refine s_iald 60 hx hb hK hM h0 (by decide) h_31 dL_packs_79 ?_
    obtain ⟨h_32, hf⟩ := gd_e hf
    obtain ⟨M33, eM33, hf⟩ := nb_e hf
    refine s_iast 64 hx hb hK hM hS h3 (by decide) (ky_b hG h3) h_32 dL_packs_80 (fun H locs hM hS => ?_)
    rw [eM33] at hM
    refine lv_aload_n hx hb dL_packs_81 rfl (lv_at hl 4 rfl) ?_
    refine lv_iload hx hb dL_packs_82 (lv_at hl 6 rfl) ?_
    refine lv_iconst (v := 2) hx hb dL_packs_84 (by decide) ?_
    refine lv_iadd hx hb dL_packs_85 ?_
    refine lv_iload hx hb dL_packs_86 (lv_at hl 0 rfl) ?_
    refine lv_if_eq (tgt := 95) hx hb dL_packs_88 (by decide) (fun g_34 => ?_) (fun g_34 => ?_)
    · rw [if_pos g_34] at hf
      refine lv_iconst (v := 0) hx hb dL_packs_95 (by decide) ?_
      exact b96 x5 xs0 0 (x5 + 2) a3 _ H locs ls h3 hM hS (lv_sub hl [1, 2, 3, 4, 5, 6, 0] rfl) hf
    · rw [if_neg g_34] at hf
      refine lv_iconst (v := 1) hx hb dL_packs_91 (by decide) ?_
      refine lv_goto (tgt := 96) hx hb dL_packs_92 (by decide) ?_
      exact b96 x5 xs0 1 (x5 + 2) a3 _ H locs ls h3 hM hS (lv_sub hl [1, 2, 3, 4, 5, 6, 0] rfl) hf
  have b46 : ∀ (x5 : Int32) (M : Mem) (H : Heap) (locs : List Loc) (ls : Array Slot), Mh G M H → va_S (gA G) s.heap H locs → lv_has ls 8 [(0, .ref a0), (1, .ref a1), (2, .ref a2), (3, .ref a3), (4, .int p4), (5, .int x5)] → f_L_packs_b46 a0 a1 a2 a3 p4 x5 M = some M' → W p l e ({ frames := 0, cells := 0, slots := 0, locals := 0 } : Room) s m args below meth c H locs 0 0 (MQ below (QV G none M') args s 0 0 (gA G)) (F0 m 46 ls []) := by
    intro x5 M H locs ls hM hS hl hf
    rw [f_L_packs_b46] at hf
    refine lv_iconst (v := 1) hx hb dL_packs_46 (by decide) ?_
    refine lv_goto (tgt := 51) hx hb dL_packs_47 (by decide) ?_
    exact b51 x5 1 _ H locs ls hM hS (lv_sub hl [0, 1, 2, 3, 4, 5] rfl) hf
  rw [f_L_packs] at hf
  obtain ⟨H, hHe⟩ : ∃ H, H = s.heap := ⟨_, rfl⟩
  obtain ⟨locs, hLe⟩ : ∃ L : List Loc, L = [] := ⟨_, rfl⟩
  rw [← hHe] at hM
  have hS : va_S (gA G) s.heap H locs := by rw [hHe, hLe]; exact va_S.rf
  suffices hW : W p l e ({ frames := 0, cells := 0, slots := 0, locals := 0 } : Room) s m args below meth c H locs 0 0 (MQ below (QV G none M') args s 0 0 (gA G)) (F0 m 0 ls []) by rw [hHe, hLe] at hW; exact hW
  refine lv_bipush (v := 16) hx hb dL_packs_0 (by decide) ?_
  refine lv_aload_n hx hb dL_packs_2 rfl (lv_at hl 0 rfl) ?_
  refine lv_bipush (v := 20) hx hb dL_packs_3 (by decide) ?_
  refine lv_iload hx hb dL_packs_5 (lv_at hl 4 rfl) ?_
  refine lv_imul hx hb dL_packs_7 ?_
  refine lv_bipush (v := 19) hx hb dL_packs_8 (by decide) ?_
  refine lv_iadd hx hb dL_packs_10 ?_
  obtain ⟨h_35, hf⟩ := gd_e hf
  refine s_iald 60 hx hb hK hM h0 (by decide) h_35 dL_packs_11 ?_
  refine lv_imul hx hb dL_packs_12 ?_
  obtain ⟨y36, ey36, hf⟩ := nb_e hf
  refine s_nm ey36 ?_
  refine lv_istore (lv' := [(5, .int y36), (0, .ref a0), (1, .ref a1), (2, .ref a2), (3, .ref a3), (4, .int p4)]) hx hb dL_packs_13 hl (by decide) rfl (fun ls hl => ?_)
  refine lv_aload_n hx hb dL_packs_15 rfl (lv_at hl 1 rfl) ?_
  refine lv_bipush (v := 20) hx hb dL_packs_16 (by decide) ?_
  refine lv_iload hx hb dL_packs_18 (lv_at hl 5 rfl) ?_
  refine lv_imul hx hb dL_packs_20 ?_
  refine lv_iconst (v := 5) hx hb dL_packs_21 (by decide) ?_
  refine lv_iadd hx hb dL_packs_22 ?_
  obtain ⟨h_37, hf⟩ := gd_e hf
  refine s_iald 60 hx hb hK hM h0 (by decide) h_37 dL_packs_23 ?_
  refine lv_if_eq (tgt := 46) hx hb dL_packs_24 (by decide) (fun g_38 => ?_) (fun g_38 => ?_)
  · rw [if_pos g_38] at hf
    exact b46 y36 _ H locs ls hM hS (lv_sub hl [1, 2, 3, 4, 5, 0] rfl) hf
  · rw [if_neg g_38] at hf
    refine lv_aload_n hx hb dL_packs_27 rfl (lv_at hl 1 rfl) ?_
    refine lv_bipush (v := 20) hx hb dL_packs_28 (by decide) ?_
    refine lv_iload hx hb dL_packs_30 (lv_at hl 5 rfl) ?_
    refine lv_imul hx hb dL_packs_32 ?_
    refine lv_bipush (v := 7) hx hb dL_packs_33 (by decide) ?_
    refine lv_iadd hx hb dL_packs_35 ?_
    obtain ⟨h_39, hf⟩ := gd_e hf
    refine s_iald 60 hx hb hK hM h0 (by decide) h_39 dL_packs_36 ?_
    refine lv_iconst (v := 1) hx hb dL_packs_37 (by decide) ?_
    refine lv_iadd hx hb dL_packs_38 ?_
    refine lv_aload_n hx hb dL_packs_39 rfl (lv_at hl 2 rfl) ?_
    refine lv_bipush (v := 12) hx hb dL_packs_40 (by decide) ?_
    obtain ⟨h_40, hf⟩ := gd_e hf
    refine s_iald 14 hx hb hK hM h1 (by decide) h_40 dL_packs_42 ?_
    refine lv_icmp_lt (tgt := 50) hx hb dL_packs_43 (by decide) (fun g_41 => ?_) (fun g_41 => ?_)
    · rw [if_pos g_41] at hf
      refine lv_iconst (v := 0) hx hb dL_packs_50 (by decide) ?_
      exact b51 y36 0 _ H locs ls hM hS (lv_sub hl [1, 2, 3, 4, 5, 0] rfl) hf
    · rw [if_neg g_41] at hf
      exact b46 y36 _ H locs ls hM hS (lv_sub hl [1, 2, 3, 4, 5, 0] rfl) hf
