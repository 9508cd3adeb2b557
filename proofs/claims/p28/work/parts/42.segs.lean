/-! pieces of the law's methods that make rows, and of the law -/
def f_sreason_b330 (a0 : Nat) (a1 : Nat) (a2 : Nat) (a3 : Nat) (a4 : Nat) (p5 : Int32) (a6 : Nat) (a7 : Nat) (a8 : Nat) (x10 : Int32) (xs0 : Int32) (M : Mem) : Option (Int32 × Mem) := gd (¬ (x10 = 0)) <| zb (f_X8_why a0 p5 M) fun r3 M4 => gd (r3 = xs0) <| some (xs0, M4)
def f_sreason_b320 (a0 : Nat) (a1 : Nat) (a2 : Nat) (a3 : Nat) (a4 : Nat) (p5 : Int32) (a6 : Nat) (a7 : Nat) (a8 : Nat) (x10 : Int32) (x11 : Int32) (M : Mem) : Option (Int32 × Mem) := if x11 = 0 then (f_sreason_b330 a0 a1 a2 a3 a4 p5 a6 a7 a8 x10 2 M) else (f_sreason_b330 a0 a1 a2 a3 a4 p5 a6 a7 a8 x10 1 M)
def f_sreason_b244 (a0 : Nat) (a1 : Nat) (a2 : Nat) (a3 : Nat) (a4 : Nat) (p5 : Int32) (a6 : Nat) (a7 : Nat) (a8 : Nat) : Nat → Int32 → Int32 → Int32 → Int32 → Mem → Option (Int32 × Mem)
  | 0, _, _, _, _, _ => none
  | n + 1, x9, x10, x11, x12, M => gd (ix (x9 + 4) 60) <| if (mI M a1 (x9 + 4).toNatClampNeg) ≤ x12 then (gd (ix (x9 + 10) 60) <| gd (ix x9 60) <| if (mI M a6 (x9 + 10).toNatClampNeg) = (mI M a1 x9.toNatClampNeg) then (gd (ix (x9 + 11) 60) <| gd (ix (x9 + 1) 60) <| if (mI M a6 (x9 + 11).toNatClampNeg) = (mI M a1 (x9 + 1).toNatClampNeg) then (f_sreason_b330 a0 a1 a2 a3 a4 p5 a6 a7 a8 x10 0 M) else (f_sreason_b320 a0 a1 a2 a3 a4 p5 a6 a7 a8 x10 x11 M)) else (f_sreason_b320 a0 a1 a2 a3 a4 p5 a6 a7 a8 x10 x11 M)) else (gd (ix (((8 : Int32) * p5) + x12) 24) <| gd (¬ (65536 : Int32) = 0) <| vb (f_L_follows 60 a6 (x9 + 10) ((mI M a3 (((8 : Int32) * p5) + x12).toNatClampNeg) / (65536 : Int32)) M) fun M18 => nb (x12 + 1) fun y19 => f_sreason_b244 a0 a1 a2 a3 a4 p5 a6 a7 a8 n x9 x10 x11 y19 M18)
def f_sreason_b239 (a0 : Nat) (a1 : Nat) (a2 : Nat) (a3 : Nat) (a4 : Nat) (p5 : Int32) (a6 : Nat) (a7 : Nat) (a8 : Nat) (x9 : Int32) (x10 : Int32) (xs0 : Int32) (M : Mem) : Option (Int32 × Mem) := f_sreason_b244 a0 a1 a2 a3 a4 p5 a6 a7 a8 lfuel x9 x10 xs0 0 M
def f_sreason_b234 (a0 : Nat) (a1 : Nat) (a2 : Nat) (a3 : Nat) (a4 : Nat) (p5 : Int32) (a6 : Nat) (a7 : Nat) (a8 : Nat) (x9 : Int32) (x10 : Int32) (M : Mem) : Option (Int32 × Mem) := f_sreason_b239 a0 a1 a2 a3 a4 p5 a6 a7 a8 x9 x10 1 M
def f_sreason_b50 (a0 : Nat) (a1 : Nat) (a2 : Nat) (a3 : Nat) (a4 : Nat) (p5 : Int32) (a6 : Nat) (a7 : Nat) (a8 : Nat) : Nat → Int32 → Mem → Option (Int32 × Mem)
  | 0, _, _ => none
  | n + 1, x9, M => gd (ix (x9 + 19) 60) <| if (mI M a6 (x9 + 19).toNatClampNeg) ≤ 0 then (zb (f_X8_ifDelivered a0 p5 0 M) fun r23 M24 => gd (ix (x9 + 10) 60) <| gd (r23 = (mI M24 a6 (x9 + 10).toNatClampNeg)) <| zb (f_X8_ifDelivered a0 p5 1 M24) fun r28 M29 => gd (ix (x9 + 17) 60) <| gd (ix (x9 + 17) 60) <| gd (r28 = ((mI M29 a6 (x9 + 17).toNatClampNeg) - (mI M29 a1 (x9 + 17).toNatClampNeg))) <| zb (f_X8_ifDelivered a0 p5 2 M29) fun r34 M35 => gd (ix (x9 + 14) 60) <| gd (ix (x9 + 14) 60) <| gd (r34 = ((mI M35 a6 (x9 + 14).toNatClampNeg) - (mI M35 a1 (x9 + 14).toNatClampNeg))) <| zb (f_X8_ifDelivered a0 p5 3 M35) fun r40 M41 => gd (ix (x9 + 16) 60) <| gd (ix (x9 + 16) 60) <| gd (r40 = ((mI M41 a6 (x9 + 16).toNatClampNeg) - (mI M41 a1 (x9 + 16).toNatClampNeg))) <| gd (ix (x9 + 15) 60) <| gd (ix (x9 + 15) 60) <| if (mI M41 a1 (x9 + 15).toNatClampNeg) < (mI M41 a6 (x9 + 15).toNatClampNeg) then (f_sreason_b234 a0 a1 a2 a3 a4 p5 a6 a7 a8 x9 1 M41) else (gd (ix (x9 + 14) 60) <| gd (ix (x9 + 14) 60) <| if (mI M41 a1 (x9 + 14).toNatClampNeg) < (mI M41 a6 (x9 + 14).toNatClampNeg) then (f_sreason_b234 a0 a1 a2 a3 a4 p5 a6 a7 a8 x9 1 M41) else (gd (ix (x9 + 12) 60) <| gd (ix (x9 + 5) 60) <| if (mI M41 a6 (x9 + 12).toNatClampNeg) = (mI M41 a6 (x9 + 5).toNatClampNeg) then (f_sreason_b239 a0 a1 a2 a3 a4 p5 a6 a7 a8 x9 1 0 M41) else (f_sreason_b234 a0 a1 a2 a3 a4 p5 a6 a7 a8 x9 1 M41)))) else (cb (f_L_comes a6 a7 a8 p5 M) fun r55 M56 => f_sreason_b50 a0 a1 a2 a3 a4 p5 a6 a7 a8 n x9 M56)
def f_sreason (a0 : Nat) (a1 : Nat) (a2 : Nat) (a3 : Nat) (a4 : Nat) (p5 : Int32) (a6 : Nat) (a7 : Nat) (a8 : Nat) (M : Mem) : Option (Int32 × Mem) := nb ((20 : Int32) * p5) fun y57 => vb (f_L_copy 60 60 a1 a6 60 M) fun M59 => vb (f_L_copy 14 14 a2 a7 14 M59) fun M61 => vb (f_L_copy 64 64 a4 a8 64 M61) fun M63 => f_sreason_b50 a0 a1 a2 a3 a4 p5 a6 a7 a8 lfuel y57 M63
set_option maxHeartbeats 4000000 in
set_option maxRecDepth 100000 in
theorem k_sreason {p : Program} {e : Env} {s : State} {m : MethodId} {args : Array Value} {below : List Frame} {meth : Method} {c : Code} {Q : State → Prop} {C S : Nat} (G : Gt) (hG : gOK G) (l : Launch) (hx : p.tables.exec = Jvm.exec) (hb : c.code = cL_reason) (hml : c.maxLocals = 13) (hown : s.vm.findClass "FoldedVoicesLaw" = some m.cls) (hts : KK s) (hV : (gS G).vm.Alike s.vm) (a0 : Nat) (h0 : gK G a0 = 9) (a1 : Nat) (h1 : gK G a1 = 1060) (a2 : Nat) (h2 : gK G a2 = 1014) (a3 : Nat) (h3 : gK G a3 = 1024) (a4 : Nat) (h4 : gK G a4 = 1064) (p5 : Int32) (a6 : Nat) (h6 : gK G a6 = 1060) (a7 : Nat) (h7 : gK G a7 = 1014) (a8 : Nat) (h8 : gK G a8 = 1064) (M : Mem) {os0 : Int32} {M' : Mem} (hf : f_sreason a0 a1 a2 a3 a4 p5 a6 a7 a8 M = some (os0, M')) (hc0 : C ≤ (({ frames := 8, cells := 3, slots := 138, locals := 158 } : Room)).cells ∧ S ≤ (({ frames := 8, cells := 3, slots := 138, locals := 158 } : Room)).slots) (hk : ∀ (H : Heap) (locs : List Loc) (ls : Array Slot), Mh G M' H → va_S (gA G) s.heap H locs → lv_has ls 13 [(0, .ref a0), (1, .ref a1), (2, .ref a2), (3, .ref a3), (4, .ref a4), (5, .int p5), (6, .ref a6), (7, .ref a7), (8, .ref a8)] → W p l e ({ frames := 8, cells := 3, slots := 138, locals := 158 } : Room) s m args below meth c H locs C S Q (F0 m 354 ls [.int os0])) : ∀ (H : Heap) (locs : List Loc) (ls : Array Slot), Mh G M H → va_S (gA G) s.heap H locs → lv_has ls 13 [(0, .ref a0), (1, .ref a1), (2, .ref a2), (3, .ref a3), (4, .ref a4), (5, .int p5), (6, .ref a6), (7, .ref a7), (8, .ref a8)] → W p l e ({ frames := 8, cells := 3, slots := 138, locals := 158 } : Room) s m args below meth c H locs C S Q (F0 m 18 ls []) := by
  have hK := hG.1.moved hV
  have b330 : ∀ (x10 : Int32) (xs0 : Int32) (M : Mem) (H : Heap) (locs : List Loc) (ls : Array Slot), Mh G M H → va_S (gA G) s.heap H locs → lv_has ls 13 [(0, .ref a0), (1, .ref a1), (2, .ref a2), (3, .ref a3), (4, .ref a4), (5, .int p5), (6, .ref a6), (7, .ref a7), (8, .ref a8), (10, .int x10)] → f_sreason_b330 a0 a1 a2 a3 a4 p5 a6 a7 a8 x10 xs0 M = some (os0, M') → W p l e ({ frames := 8, cells := 3, slots := 138, locals := 158 } : Room) s m args below meth c H locs C S Q (F0 m 330 ls [.int xs0]) := by
    intro x10 xs0 M H locs ls hM hS hl hf
    rw [f_sreason_b330] at hf
    refine lv_istore (lv' := [(12, .int xs0), (0, .ref a0), (1, .ref a1), (2, .ref a2), (3, .ref a3), (4, .ref a4), (5, .int p5), (6, .ref a6), (7, .ref a7), (8, .ref a8), (10, .int x10)]) hx hb dL_reason_330 hl (by decide) rfl (fun ls hl => ?_)
    refine lv_iload hx hb dL_reason_332 (lv_at hl 10 rfl) ?_
    obtain ⟨h_1, hf⟩ := gd_e hf
    refine lv_if_eq (tgt := 353) hx hb dL_reason_334 (by decide) (fun g => absurd g h_1) (fun _ => ?_)
    refine lv_aload_n hx hb dL_reason_337 rfl (lv_at hl 1 rfl) ?_
    refine lv_iload hx hb dL_reason_338 (lv_at hl 6 rfl) ?_
    obtain ⟨r3, M4, e_2, hf⟩ := zb_e hf
    refine c_Vi hx hb hml hown hts hV hK hM hS (As := [.int p5]) (rest := []) (k_X8_why G hG l a0 h0 p5 M e_2) w_X8_why (tk_552 hts) (c_9 h0) rfl rfl ⟨⟨rfl, rfl⟩, Nat.le_of_ble_eq_true rfl, Nat.le_of_ble_eq_true rfl⟩ hc0 rfl hl.1 rfl (Nat.le_of_ble_eq_true rfl) dL_reason_340 (fun H locs hM hS => ?_)
    refine lv_iload hx hb dL_reason_343 (lv_at hl 0 rfl) ?_
    obtain ⟨h_5, hf⟩ := gd_e hf
    refine lv_icmp_ne (tgt := 353) hx hb dL_reason_345 (by decide) (fun g => absurd h_5 g) (fun _ => ?_)
    refine lv_iload hx hb dL_reason_348 (lv_at hl 0 rfl) ?_
    refine lv_goto (tgt := 354) hx hb dL_reason_350 (by decide) ?_
    cases hf
    exact hk H locs ls hM hS (lv_sub hl [1, 2, 3, 4, 5, 6, 7, 8, 9] rfl)
  have b320 : ∀ (x10 : Int32) (x11 : Int32) (M : Mem) (H : Heap) (locs : List Loc) (ls : Array Slot), Mh G M H → va_S (gA G) s.heap H locs → lv_has ls 13 [(0, .ref a0), (1, .ref a1), (2, .ref a2), (3, .ref a3), (4, .ref a4), (5, .int p5), (6, .ref a6), (7, .ref a7), (8, .ref a8), (10, .int x10), (11, .int x11)] → f_sreason_b320 a0 a1 a2 a3 a4 p5 a6 a7 a8 x10 x11 M = some (os0, M') → W p l e ({ frames := 8, cells := 3, slots := 138, locals := 158 } : Room) s m args below meth c H locs C S Q (F0 m 320 ls []) := by
    intro x10 x11 M H locs ls hM hS hl hf
    rw [f_sreason_b320] at hf
    refine lv_iload hx hb dL_reason_320 (lv_at hl 10 rfl) ?_
    refine lv_if_eq (tgt := 329) hx hb dL_reason_322 (by decide) (fun g_6 => ?_) (fun g_6 => ?_)
    · rw [if_pos g_6] at hf
      refine lv_iconst (v := 2) hx hb dL_reason_329 (by decide) ?_
      exact b330 x10 2 _ H locs ls hM hS (lv_sub hl [0, 1, 2, 3, 4, 5, 6, 7, 8, 9] rfl) hf
    · rw [if_neg g_6] at hf
      refine lv_iconst (v := 1) hx hb dL_reason_325 (by decide) ?_
      refine lv_goto (tgt := 330) hx hb dL_reason_326 (by decide) ?_
      exact b330 x10 1 _ H locs ls hM hS (lv_sub hl [0, 1, 2, 3, 4, 5, 6, 7, 8, 9] rfl) hf
  have b244 : ∀ (n : Nat), ∀ (x9 : Int32) (x10 : Int32) (x11 : Int32) (x12 : Int32) (M : Mem) (H : Heap) (locs : List Loc) (ls : Array Slot), Mh G M H → va_S (gA G) s.heap H locs → lv_has ls 13 [(0, .ref a0), (1, .ref a1), (2, .ref a2), (3, .ref a3), (4, .ref a4), (5, .int p5), (6, .ref a6), (7, .ref a7), (8, .ref a8), (9, .int x9), (10, .int x10), (11, .int x11), (12, .int x12)] → f_sreason_b244 a0 a1 a2 a3 a4 p5 a6 a7 a8 n x9 x10 x11 x12 M = some (os0, M') → W p l e ({ frames := 8, cells := 3, slots := 138, locals := 158 } : Room) s m args below meth c H locs C S Q (F0 m 244 ls []) := by
    intro n
    induction n with
    | zero =>
      intro x9 x10 x11 x12 M H locs ls hM hS hl hf
      rw [f_sreason_b244] at hf
      cases hf
    | succ n ih =>
      intro x9 x10 x11 x12 M H locs ls hM hS hl hf
      rw [f_sreason_b244] at hf
      refine lv_iload hx hb dL_reason_244 (lv_at hl 12 rfl) ?_
      refine lv_aload_n hx hb dL_reason_246 rfl (lv_at hl 1 rfl) ?_
      refine lv_iload hx hb dL_reason_247 (lv_at hl 9 rfl) ?_
      refine lv_iconst (v := 4) hx hb dL_reason_249 (by decide) ?_
      refine lv_iadd hx hb dL_reason_250 ?_
      obtain ⟨h_7, hf⟩ := gd_e hf
      refine s_iald 60 hx hb hK hM h1 (by decide) h_7 dL_reason_251 ?_
      refine lv_icmp_ge (tgt := 284) hx hb dL_reason_252 (by decide) (fun g_8 => ?_) (fun g_8 => ?_)
      · rw [if_pos g_8] at hf
        refine lv_aload hx hb dL_reason_284 (lv_at hl 6 rfl) ?_
        refine lv_iload hx hb dL_reason_286 (lv_at hl 9 rfl) ?_
        refine lv_bipush (v := 10) hx hb dL_reason_288 (by decide) ?_
        refine lv_iadd hx hb dL_reason_290 ?_
        obtain ⟨h_9, hf⟩ := gd_e hf
        refine s_iald 60 hx hb hK hM h6 (by decide) h_9 dL_reason_291 ?_
        refine lv_aload_n hx hb dL_reason_292 rfl (lv_at hl 1 rfl) ?_
        refine lv_iload hx hb dL_reason_293 (lv_at hl 9 rfl) ?_
        obtain ⟨h_10, hf⟩ := gd_e hf
        refine s_iald 60 hx hb hK hM h1 (by decide) h_10 dL_reason_295 ?_
        refine lv_icmp_ne (tgt := 320) hx hb dL_reason_296 (by decide) (fun g_11 => ?_) (fun g_11 => ?_)
        · rw [if_neg g_11] at hf
          exact b320 x10 x11 _ H locs ls hM hS (lv_sub hl [0, 1, 2, 3, 4, 5, 6, 7, 8, 10, 11] rfl) hf
        · rw [if_pos g_11] at hf
          refine lv_aload hx hb dL_reason_299 (lv_at hl 6 rfl) ?_
          refine lv_iload hx hb dL_reason_301 (lv_at hl 9 rfl) ?_
          refine lv_bipush (v := 11) hx hb dL_reason_303 (by decide) ?_
          refine lv_iadd hx hb dL_reason_305 ?_
          obtain ⟨h_12, hf⟩ := gd_e hf
          refine s_iald 60 hx hb hK hM h6 (by decide) h_12 dL_reason_306 ?_
          refine lv_aload_n hx hb dL_reason_307 rfl (lv_at hl 1 rfl) ?_
          refine lv_iload hx hb dL_reason_308 (lv_at hl 9 rfl) ?_
          refine lv_iconst (v := 1) hx hb dL_reason_310 (by decide) ?_
          refine lv_iadd hx hb dL_reason_311 ?_
          obtain ⟨h_13, hf⟩ := gd_e hf
          refine s_iald 60 hx hb hK hM h1 (by decide) h_13 dL_reason_312 ?_
          refine lv_icmp_ne (tgt := 320) hx hb dL_reason_313 (by decide) (fun g_14 => ?_) (fun g_14 => ?_)
          · rw [if_neg g_14] at hf
            exact b320 x10 x11 _ H locs ls hM hS (lv_sub hl [0, 1, 2, 3, 4, 5, 6, 7, 8, 10, 11] rfl) hf
          · rw [if_pos g_14] at hf
            refine lv_iconst (v := 0) hx hb dL_reason_316 (by decide) ?_
            refine lv_goto (tgt := 330) hx hb dL_reason_317 (by decide) ?_
            exact b330 x10 0 _ H locs ls hM hS (lv_sub hl [0, 1, 2, 3, 4, 5, 6, 7, 8, 10] rfl) hf
      · rw [if_neg g_8] at hf
        refine lv_aload hx hb dL_reason_255 (lv_at hl 6 rfl) ?_
        refine lv_iload hx hb dL_reason_257 (lv_at hl 9 rfl) ?_
        refine lv_bipush (v := 10) hx hb dL_reason_259 (by decide) ?_
        refine lv_iadd hx hb dL_reason_261 ?_
        refine lv_aload_n hx hb dL_reason_262 rfl (lv_at hl 3 rfl) ?_
        refine lv_bipush (v := 8) hx hb dL_reason_263 (by decide) ?_
        refine lv_iload hx hb dL_reason_265 (lv_at hl 5 rfl) ?_
        refine lv_imul hx hb dL_reason_267 ?_
        refine lv_iload hx hb dL_reason_268 (lv_at hl 12 rfl) ?_
        refine lv_iadd hx hb dL_reason_270 ?_
        obtain ⟨h_15, hf⟩ := gd_e hf
        refine s_iald 24 hx hb hK hM h3 (by decide) h_15 dL_reason_271 ?_
        refine lv_ldc hx hb hown (tk_455 hts) dL_reason_272 ?_
        obtain ⟨h_16, hf⟩ := gd_e hf
        refine lv_idiv hx hb dL_reason_274 h_16 ?_
        obtain ⟨M18, e_17, hf⟩ := vb_e hf
        refine c_Sv hx hb hml hown hts hV hM hS (As := [.ref a6, .int (x9 + 10), .int ((mI M a3 (((8 : Int32) * p5) + x12).toNatClampNeg) / (65536 : Int32))]) (rest := []) (k_L_follows G hG l 60 (by decide) a6 h6 (x9 + 10) ((mI M a3 (((8 : Int32) * p5) + x12).toNatClampNeg) / (65536 : Int32)) M e_17) w_L_follows (tk_494 hts) ⟨⟨rfl, rfl⟩, Nat.le_of_ble_eq_true rfl, Nat.le_of_ble_eq_true rfl⟩ hc0 rfl hl.1 rfl (Nat.le_of_ble_eq_true rfl) dL_reason_275 (fun H locs hM hS => ?_)
        obtain ⟨y19, ey19, hf⟩ := nb_e hf
        refine lv_iinc (v := y19) (lv' := [(12, .int y19), (0, .ref a0), (1, .ref a1), (2, .ref a2), (3, .ref a3), (4, .ref a4), (5, .int p5), (6, .ref a6), (7, .ref a7), (8, .ref a8), (9, .int x9), (10, .int x10), (11, .int x11)]) hx hb dL_reason_278 hl (k := 12) rfl (by rw [← ey19]; rfl) (by decide) rfl (fun ls hl => ?_)
        refine lv_goto (tgt := 244) hx hb dL_reason_281 (by decide) ?_
        exact ih x9 x10 x11 y19 _ H locs ls hM hS (lv_sub hl [1, 2, 3, 4, 5, 6, 7, 8, 9, 10, 11, 12, 0] rfl) hf
  have b239 : ∀ (x9 : Int32) (x10 : Int32) (xs0 : Int32) (M : Mem) (H : Heap) (locs : List Loc) (ls : Array Slot), Mh G M H → va_S (gA G) s.heap H locs → lv_has ls 13 [(0, .ref a0), (1, .ref a1), (2, .ref a2), (3, .ref a3), (4, .ref a4), (5, .int p5), (6, .ref a6), (7, .ref a7), (8, .ref a8), (9, .int x9), (10, .int x10)] → f_sreason_b239 a0 a1 a2 a3 a4 p5 a6 a7 a8 x9 x10 xs0 M = some (os0, M') → W p l e ({ frames := 8, cells := 3, slots := 138, locals := 158 } : Room) s m args below meth c H locs C S Q (F0 m 239 ls [.int xs0]) := by
    intro x9 x10 xs0 M H locs ls hM hS hl hf
    rw [f_sreason_b239] at hf
    refine lv_istore (lv' := [(11, .int xs0), (0, .ref a0), (1, .ref a1), (2, .ref a2), (3, .ref a3), (4, .ref a4), (5, .int p5), (6, .ref a6), (7, .ref a7), (8, .ref a8), (9, .int x9), (10, .int x10)]) hx hb dL_reason_239 hl (by decide) rfl (fun ls hl => ?_)
    refine lv_iconst (v := 0) hx hb dL_reason_241 (by decide) ?_
    refine lv_istore (lv' := [(12, .int 0), (11, .int xs0), (0, .ref a0), (1, .ref a1), (2, .ref a2), (3, .ref a3), (4, .ref a4), (5, .int p5), (6, .ref a6), (7, .ref a7), (8, .ref a8), (9, .int x9), (10, .int x10)]) hx hb dL_reason_242 hl (by decide) rfl (fun ls hl => ?_)
    exact b244 _ x9 x10 xs0 0 _ H locs ls hM hS (lv_sub hl [2, 3, 4, 5, 6, 7, 8, 9, 10, 11, 12, 1, 0] rfl) hf
  have b234 : ∀ (x9 : Int32) (x10 : Int32) (M : Mem) (H : Heap) (locs : List Loc) (ls : Array Slot), Mh G M H → va_S (gA G) s.heap H locs → lv_has ls 13 [(0, .ref a0), (1, .ref a1), (2, .ref a2), (3, .ref a3), (4, .ref a4), (5, .int p5), (6, .ref a6), (7, .ref a7), (8, .ref a8), (9, .int x9), (10, .int x10)] → f_sreason_b234 a0 a1 a2 a3 a4 p5 a6 a7 a8 x9 x10 M = some (os0, M') → W p l e ({ frames := 8, cells := 3, slots := 138, locals := 158 } : Room) s m args below meth c H locs C S Q (F0 m 234 ls []) := by
    intro x9 x10 M H locs ls hM hS hl hf
    rw [f_sreason_b234] at hf
    refine lv_iconst (v := 1) hx hb dL_reason_234 (by decide) ?_
    refine lv_goto (tgt := 239) hx hb dL_reason_235 (by decide) ?_
    exact b239 x9 x10 1 _ H locs ls hM hS (lv_sub hl [0, 1, 2, 3, 4, 5, 6, 7, 8, 9, 10] rfl) hf
  have b50 : ∀ (n : Nat), ∀ (x9 : Int32) (M : Mem) (H : Heap) (locs : List Loc) (ls : Array Slot), Mh G M H → va_S (gA G) s.heap H locs → lv_has ls 13 [(0, .ref a0), (1, .ref a1), (2, .ref a2), (3, .ref a3), (4, .ref a4), (5, .int p5), (6, .ref a6), (7, .ref a7), (8, .ref a8), (9, .int x9)] → f_sreason_b50 a0 a1 a2 a3 a4 p5 a6 a7 a8 n x9 M = some (os0, M') → W p l e ({ frames := 8, cells := 3, slots := 138, locals := 158 } : Room) s m args below meth c H locs C S Q (F0 m 50 ls []) := by
    intro n
    induction n with
    | zero =>
      intro x9 M H locs ls hM hS hl hf
      rw [f_sreason_b50] at hf
      cases hf
    | succ n ih =>
      intro x9 M H locs ls hM hS hl hf
      rw [f_sreason_b50] at hf
      refine lv_aload hx hb dL_reason_50 (lv_at hl 6 rfl) ?_
      refine lv_iload hx hb dL_reason_52 (lv_at hl 9 rfl) ?_
      refine lv_bipush (v := 19) hx hb dL_reason_54 (by decide) ?_
      refine lv_iadd hx hb dL_reason_56 ?_
      obtain ⟨h_20, hf⟩ := gd_e hf
      refine s_iald 60 hx hb hK hM h6 (by decide) h_20 dL_reason_57 ?_
      refine lv_if_le (tgt := 77) hx hb dL_reason_58 (by decide) (fun g_21 => ?_) (fun g_21 => ?_)
      · rw [if_pos g_21] at hf
        refine lv_aload_n hx hb dL_reason_77 rfl (lv_at hl 0 rfl) ?_
        refine lv_iload hx hb dL_reason_78 (lv_at hl 5 rfl) ?_
        refine lv_iconst (v := 0) hx hb dL_reason_80 (by decide) ?_
        obtain ⟨r23, M24, e_22, hf⟩ := zb_e hf
        refine c_Vi hx hb hml hown hts hV hK hM hS (As := [.int p5, .int 0]) (rest := []) (k_X8_ifDelivered G hG l a0 h0 p5 0 M e_22) w_X8_ifDelivered (tk_506 hts) (c_9 h0) rfl rfl ⟨⟨rfl, rfl⟩, Nat.le_of_ble_eq_true rfl, Nat.le_of_ble_eq_true rfl⟩ hc0 rfl hl.1 rfl (Nat.le_of_ble_eq_true rfl) dL_reason_81 (fun H locs hM hS => ?_)
        refine lv_aload hx hb dL_reason_84 (lv_at hl 6 rfl) ?_
        refine lv_iload hx hb dL_reason_86 (lv_at hl 9 rfl) ?_
        refine lv_bipush (v := 10) hx hb dL_reason_88 (by decide) ?_
        refine lv_iadd hx hb dL_reason_90 ?_
        obtain ⟨h_25, hf⟩ := gd_e hf
        refine s_iald 60 hx hb hK hM h6 (by decide) h_25 dL_reason_91 ?_
        obtain ⟨h_26, hf⟩ := gd_e hf
        refine lv_icmp_ne (tgt := 177) hx hb dL_reason_92 (by decide) (fun g => absurd h_26 g) (fun _ => ?_)
        refine lv_aload_n hx hb dL_reason_95 rfl (lv_at hl 0 rfl) ?_
        refine lv_iload hx hb dL_reason_96 (lv_at hl 5 rfl) ?_
        refine lv_iconst (v := 1) hx hb dL_reason_98 (by decide) ?_
        obtain ⟨r28, M29, e_27, hf⟩ := zb_e hf
        refine c_Vi hx hb hml hown hts hV hK hM hS (As := [.int p5, .int 1]) (rest := []) (k_X8_ifDelivered G hG l a0 h0 p5 1 M24 e_27) w_X8_ifDelivered (tk_506 hts) (c_9 h0) rfl rfl ⟨⟨rfl, rfl⟩, Nat.le_of_ble_eq_true rfl, Nat.le_of_ble_eq_true rfl⟩ hc0 rfl hl.1 rfl (Nat.le_of_ble_eq_true rfl) dL_reason_99 (fun H locs hM hS => ?_)
        refine lv_aload hx hb dL_reason_102 (lv_at hl 6 rfl) ?_
        refine lv_iload hx hb dL_reason_104 (lv_at hl 9 rfl) ?_
        refine lv_bipush (v := 17) hx hb dL_reason_106 (by decide) ?_
        refine lv_iadd hx hb dL_reason_108 ?_
        obtain ⟨h_30, hf⟩ := gd_e hf
        refine s_iald 60 hx hb hK hM h6 (by decide) h_30 dL_reason_109 ?_
        refine lv_aload_n hx hb dL_reason_110 rfl (lv_at hl 1 rfl) ?_
        refine lv_iload hx hb dL_reason_111 (lv_at hl 9 rfl) ?_
        refine lv_bipush (v := 17) hx hb dL_reason_113 (by decide) ?_
        refine lv_iadd hx hb dL_reason_115 ?_
        obtain ⟨h_31, hf⟩ := gd_e hf
        refine s_iald 60 hx hb hK hM h1 (by decide) h_31 dL_reason_116 ?_
        refine lv_isub hx hb dL_reason_117 ?_
        obtain ⟨h_32, hf⟩ := gd_e hf
        refine lv_icmp_ne (tgt := 177) hx hb dL_reason_118 (by decide) (fun g => absurd h_32 g) (fun _ => ?_)
        refine lv_aload_n hx hb dL_reason_121 rfl (lv_at hl 0 rfl) ?_
        refine lv_iload hx hb dL_reason_122 (lv_at hl 5 rfl) ?_
        refine lv_iconst (v := 2) hx hb dL_reason_124 (by decide) ?_
        obtain ⟨r34, M35, e_33, hf⟩ := zb_e hf
        refine c_Vi hx hb hml hown hts hV hK hM hS (As := [.int p5, .int 2]) (rest := []) (k_X8_ifDelivered G hG l a0 h0 p5 2 M29 e_33) w_X8_ifDelivered (tk_506 hts) (c_9 h0) rfl rfl ⟨⟨rfl, rfl⟩, Nat.le_of_ble_eq_true rfl, Nat.le_of_ble_eq_true rfl⟩ hc0 rfl hl.1 rfl (Nat.le_of_ble_eq_true rfl) dL_reason_125 (fun H locs hM hS => ?_)
        refine lv_aload hx hb dL_reason_128 (lv_at hl 6 rfl) ?_
        refine lv_iload hx hb dL_reason_130 (lv_at hl 9 rfl) ?_
        refine lv_bipush (v := 14) hx hb dL_reason_132 (by decide) ?_
        refine lv_iadd hx hb dL_reason_134 ?_
        obtain ⟨h_36, hf⟩ := gd_e hf
        refine s_iald 60 hx hb hK hM h6 (by decide) h_36 dL_reason_135 ?_
        refine lv_aload_n hx hb dL_reason_136 rfl (lv_at hl 1 rfl) ?_
        refine lv_iload hx hb dL_reason_137 (lv_at hl 9 rfl) ?_
        refine lv_bipush (v := 14) hx hb dL_reason_139 (by decide) ?_
        refine lv_iadd hx hb dL_reason_141 ?_
        obtain ⟨h_37, hf⟩ := gd_e hf
        refine s_iald 60 hx hb hK hM h1 (by decide) h_37 dL_reason_142 ?_
        refine lv_isub hx hb dL_reason_143 ?_
        obtain ⟨h_38, hf⟩ := gd_e hf
        refine lv_icmp_ne (tgt := 177) hx hb dL_reason_144 (by decide) (fun g => absurd h_38 g) (fun _ => ?_)
        refine lv_aload_n hx hb dL_reason_147 rfl (lv_at hl 0 rfl) ?_
        refine lv_iload hx hb dL_reason_148 (lv_at hl 5 rfl) ?_
        refine lv_iconst (v := 3) hx hb dL_reason_150 (by decide) ?_
        obtain ⟨r40, M41, e_39, hf⟩ := zb_e hf
        refine c_Vi hx hb hml hown hts hV hK hM hS (As := [.int p5, .int 3]) (rest := []) (k_X8_ifDelivered G hG l a0 h0 p5 3 M35 e_39) w_X8_ifDelivered (tk_506 hts) (c_9 h0) rfl rfl ⟨⟨rfl, rfl⟩, Nat.le_of_ble_eq_true rfl, Nat.le_of_ble_eq_true rfl⟩ hc0 rfl hl.1 rfl (Nat.le_of_ble_eq_true rfl) dL_reason_151 (fun H locs hM hS => ?_)
        refine lv_aload hx hb dL_reason_154 (lv_at hl 6 rfl) ?_
        refine lv_iload hx hb dL_reason_156 (lv_at hl 9 rfl) ?_
        refine lv_bipush (v := 16) hx hb dL_reason_158 (by decide) ?_
        refine lv_iadd hx hb dL_reason_160 ?_
        obtain ⟨h_42, hf⟩ := gd_e hf
        refine s_iald 60 hx hb hK hM h6 (by decide) h_42 dL_reason_161 ?_
        refine lv_aload_n hx hb dL_reason_162 rfl (lv_at hl 1 rfl) ?_
        refine lv_iload hx hb dL_reason_163 (lv_at hl 9 rfl) ?_
        refine lv_bipush (v := 16) hx hb dL_reason_165 (by decide) ?_
        refine lv_iadd hx hb dL_reason_167 ?_
        obtain ⟨h_43, hf⟩ := gd_e hf
        refine s_iald 60 hx hb hK hM h1 (by decide) h_43 dL_reason_168 ?_
        refine lv_isub hx hb dL_reason_169 ?_
        obtain ⟨h_44, hf⟩ := gd_e hf
        refine lv_icmp_ne (tgt := 177) hx hb dL_reason_170 (by decide) (fun g => absurd h_44 g) (fun _ => ?_)
        refine lv_iconst (v := 1) hx hb dL_reason_173 (by decide) ?_
        refine lv_goto (tgt := 178) hx hb dL_reason_174 (by decide) ?_
        refine lv_istore (lv' := [(10, .int 1), (0, .ref a0), (1, .ref a1), (2, .ref a2), (3, .ref a3), (4, .ref a4), (5, .int p5), (6, .ref a6), (7, .ref a7), (8, .ref a8), (9, .int x9)]) hx hb dL_reason_178 hl (by decide) rfl (fun ls hl => ?_)
        refine lv_aload hx hb dL_reason_180 (lv_at hl 7 rfl) ?_
        refine lv_iload hx hb dL_reason_182 (lv_at hl 10 rfl) ?_
        refine lv_bipush (v := 15) hx hb dL_reason_184 (by decide) ?_
        refine lv_iadd hx hb dL_reason_186 ?_
        obtain ⟨h_45, hf⟩ := gd_e hf
        refine s_iald 60 hx hb hK hM h6 (by decide) h_45 dL_reason_187 ?_
        refine lv_aload_n hx hb dL_reason_188 rfl (lv_at hl 2 rfl) ?_
        refine lv_iload hx hb dL_reason_189 (lv_at hl 10 rfl) ?_
        refine lv_bipush (v := 15) hx hb dL_reason_191 (by decide) ?_
        refine lv_iadd hx hb dL_reason_193 ?_
        obtain ⟨h_46, hf⟩ := gd_e hf
        refine s_iald 60 hx hb hK hM h1 (by decide) h_46 dL_reason_194 ?_
        refine lv_icmp_gt (tgt := 234) hx hb dL_reason_195 (by decide) (fun g_47 => ?_) (fun g_47 => ?_)
        · rw [if_pos g_47] at hf
          exact b234 x9 1 _ H locs ls hM hS (lv_sub hl [1, 2, 3, 4, 5, 6, 7, 8, 9, 10, 0] rfl) hf
        · rw [if_neg g_47] at hf
          refine lv_aload hx hb dL_reason_198 (lv_at hl 7 rfl) ?_
          refine lv_iload hx hb dL_reason_200 (lv_at hl 10 rfl) ?_
          refine lv_bipush (v := 14) hx hb dL_reason_202 (by decide) ?_
          refine lv_iadd hx hb dL_reason_204 ?_
          obtain ⟨h_48, hf⟩ := gd_e hf
          refine s_iald 60 hx hb hK hM h6 (by decide) h_48 dL_reason_205 ?_
          refine lv_aload_n hx hb dL_reason_206 rfl (lv_at hl 2 rfl) ?_
          refine lv_iload hx hb dL_reason_207 (lv_at hl 10 rfl) ?_
          refine lv_bipush (v := 14) hx hb dL_reason_209 (by decide) ?_
          refine lv_iadd hx hb dL_reason_211 ?_
          obtain ⟨h_49, hf⟩ := gd_e hf
          refine s_iald 60 hx hb hK hM h1 (by decide) h_49 dL_reason_212 ?_
          refine lv_icmp_gt (tgt := 234) hx hb dL_reason_213 (by decide) (fun g_50 => ?_) (fun g_50 => ?_)
          · rw [if_pos g_50] at hf
            exact b234 x9 1 _ H locs ls hM hS (lv_sub hl [1, 2, 3, 4, 5, 6, 7, 8, 9, 10, 0] rfl) hf
          · rw [if_neg g_50] at hf
            refine lv_aload hx hb dL_reason_216 (lv_at hl 7 rfl) ?_
            refine lv_iload hx hb dL_reason_218 (lv_at hl 10 rfl) ?_
            refine lv_bipush (v := 12) hx hb dL_reason_220 (by decide) ?_
            refine lv_iadd hx hb dL_reason_222 ?_
            obtain ⟨h_51, hf⟩ := gd_e hf
            refine s_iald 60 hx hb hK hM h6 (by decide) h_51 dL_reason_223 ?_
            refine lv_aload hx hb dL_reason_224 (lv_at hl 7 rfl) ?_
            refine lv_iload hx hb dL_reason_226 (lv_at hl 10 rfl) ?_
            refine lv_iconst (v := 5) hx hb dL_reason_228 (by decide) ?_
            refine lv_iadd hx hb dL_reason_229 ?_
            obtain ⟨h_52, hf⟩ := gd_e hf
            refine s_iald 60 hx hb hK hM h6 (by decide) h_52 dL_reason_230 ?_
            refine lv_icmp_eq (tgt := 238) hx hb dL_reason_231 (by decide) (fun g_53 => ?_) (fun g_53 => ?_)
            · rw [if_pos g_53] at hf
              refine lv_iconst (v := 0) hx hb dL_reason_238 (by decide) ?_
              exact b239 x9 1 0 _ H locs ls hM hS (lv_sub hl [1, 2, 3, 4, 5, 6, 7, 8, 9, 10, 0] rfl) hf
            · rw [if_neg g_53] at hf
              exact b234 x9 1 _ H locs ls hM hS (lv_sub hl [1, 2, 3, 4, 5, 6, 7, 8, 9, 10, 0] rfl) hf
      · rw [if_neg g_21] at hf
        refine lv_aload hx hb dL_reason_61 (lv_at hl 6 rfl) ?_
        refine lv_aload hx hb dL_reason_63 (lv_at hl 7 rfl) ?_
        refine lv_aload hx hb dL_reason_65 (lv_at hl 8 rfl) ?_
        refine lv_iload hx hb dL_reason_67 (lv_at hl 5 rfl) ?_
        obtain ⟨r55, M56, e_54, hf⟩ := cb_e hf
        refine c_Si hx hb hml hown hts hV hM hS (As := [.ref a6, .ref a7, .ref a8, .int p5]) (rest := []) (k_L_comes G hG l a6 h6 a7 h7 a8 h8 p5 M e_54) w_L_comes (tk_488 hts) ⟨⟨rfl, rfl⟩, Nat.le_of_ble_eq_true rfl, Nat.le_of_ble_eq_true rfl⟩ hc0 rfl hl.1 rfl (Nat.le_of_ble_eq_true rfl) dL_reason_69 (fun H locs hM hS => ?_)
        refine lv_istore (lv' := [(10, .int r55), (0, .ref a0), (1, .ref a1), (2, .ref a2), (3, .ref a3), (4, .ref a4), (5, .int p5), (6, .ref a6), (7, .ref a7), (8, .ref a8), (9, .int x9)]) hx hb dL_reason_72 hl (by decide) rfl (fun ls hl => ?_)
        refine lv_goto (tgt := 50) hx hb dL_reason_74 (by decide) ?_
        exact ih x9 _ H locs ls hM hS (lv_sub hl [1, 2, 3, 4, 5, 6, 7, 8, 9, 10] rfl) hf
  intro H locs ls hM hS hl
  rw [f_sreason] at hf
  refine lv_bipush (v := 20) hx hb dL_reason_18 (by decide) ?_
  refine lv_iload hx hb dL_reason_20 (lv_at hl 5 rfl) ?_
  refine lv_imul hx hb dL_reason_22 ?_
  obtain ⟨y57, ey57, hf⟩ := nb_e hf
  refine s_nm ey57 ?_
  refine lv_istore (lv' := [(9, .int y57), (0, .ref a0), (1, .ref a1), (2, .ref a2), (3, .ref a3), (4, .ref a4), (5, .int p5), (6, .ref a6), (7, .ref a7), (8, .ref a8)]) hx hb dL_reason_23 hl (by decide) rfl (fun ls hl => ?_)
  refine lv_aload_n hx hb dL_reason_25 rfl (lv_at hl 2 rfl) ?_
  refine lv_aload hx hb dL_reason_26 (lv_at hl 7 rfl) ?_
  refine lv_bipush (v := 60) hx hb dL_reason_28 (by decide) ?_
  obtain ⟨M59, e_58, hf⟩ := vb_e hf
  refine c_Sv hx hb hml hown hts hV hM hS (As := [.ref a1, .ref a6, .int 60]) (rest := []) (k_L_copy G hG l 60 (by decide) 60 (by decide) a1 h1 a6 h6 60 M e_58) w_L_copy (tk_485 hts) ⟨⟨rfl, rfl⟩, Nat.le_of_ble_eq_true rfl, Nat.le_of_ble_eq_true rfl⟩ hc0 rfl hl.1 rfl (Nat.le_of_ble_eq_true rfl) dL_reason_30 (fun H locs hM hS => ?_)
  refine lv_aload_n hx hb dL_reason_33 rfl (lv_at hl 3 rfl) ?_
  refine lv_aload hx hb dL_reason_34 (lv_at hl 8 rfl) ?_
  refine lv_bipush (v := 14) hx hb dL_reason_36 (by decide) ?_
  obtain ⟨M61, e_60, hf⟩ := vb_e hf
  refine c_Sv hx hb hml hown hts hV hM hS (As := [.ref a2, .ref a7, .int 14]) (rest := []) (k_L_copy G hG l 14 (by decide) 14 (by decide) a2 h2 a7 h7 14 M59 e_60) w_L_copy (tk_485 hts) ⟨⟨rfl, rfl⟩, Nat.le_of_ble_eq_true rfl, Nat.le_of_ble_eq_true rfl⟩ hc0 rfl hl.1 rfl (Nat.le_of_ble_eq_true rfl) dL_reason_38 (fun H locs hM hS => ?_)
  refine lv_aload hx hb dL_reason_41 (lv_at hl 5 rfl) ?_
  refine lv_aload hx hb dL_reason_43 (lv_at hl 9 rfl) ?_
  refine lv_bipush (v := 64) hx hb dL_reason_45 (by decide) ?_
  obtain ⟨M63, e_62, hf⟩ := vb_e hf
  refine c_Sv hx hb hml hown hts hV hM hS (As := [.ref a4, .ref a8, .int 64]) (rest := []) (k_L_copy G hG l 64 (by decide) 64 (by decide) a4 h4 a8 h8 64 M61 e_62) w_L_copy (tk_485 hts) ⟨⟨rfl, rfl⟩, Nat.le_of_ble_eq_true rfl, Nat.le_of_ble_eq_true rfl⟩ hc0 rfl hl.1 rfl (Nat.le_of_ble_eq_true rfl) dL_reason_47 (fun H locs hM hS => ?_)
  exact b50 _ y57 _ H locs ls hM hS (lv_sub hl [1, 2, 3, 4, 5, 6, 7, 8, 9, 0] rfl) hf
def f_swould0_b113 (a0 : Nat) (a1 : Nat) (p2 : Int32) (p3 : Int32) (k56 : Int32 → Int32 → Int32 → Int32 → Int32 → Int32 → Mem → Option (Int32 × Int32 × Int32 × Int32 × Mem)) (x4 : Int32) (x5 : Int32) (x6 : Int32) (x7 : Int32) (x9 : Int32) (xs0 : Int32) (M : Mem) : Option (Int32 × Int32 × Int32 × Int32 × Mem) := nb (x9 + (-1)) fun y1 => k56 x4 x5 x6 x7 xs0 y1 M
def f_swould0_b56 (a0 : Nat) (a1 : Nat) (p2 : Int32) (p3 : Int32) : Nat → Int32 → Int32 → Int32 → Int32 → Int32 → Int32 → Mem → Option (Int32 × Int32 × Int32 × Int32 × Mem)
  | 0, _, _, _, _, _, _, _ => none
  | n + 1, x4, x5, x6, x7, x8, x9, M => if x9 < 0 then (zb (f_X8_code a0 p2 x4 0 M) fun r4 M5 => gd (r4 = x7) <| zb (f_X8_code a0 p2 x4 1 M5) fun r8 M9 => gd (ix x6 60) <| gd (ix (x6 + 1) 60) <| vb (f_L_guess (mI M9 a1 x6.toNatClampNeg) (mI M9 a1 (x6 + 1).toNatClampNeg) x7 M9) fun r13 => gd (r8 = r13) <| zb (f_X8_code a0 p2 x4 2 M9) fun r16 M17 => gd (ix (x6 + 1) 60) <| vb (f_L_index (mI M17 a1 (x6 + 1).toNatClampNeg) x7 M17) fun r20 => gd (r16 = r20) <| zb (f_X8_code a0 p2 x4 3 M17) fun r23 M24 => gd (r23 = x8) <| zb (f_X8_code a0 p2 x4 4 M24) fun r27 M28 => gd (ix x6 60) <| gd (ix (x6 + 1) 60) <| vb (f_L_guess (mI M28 a1 x6.toNatClampNeg) (mI M28 a1 (x6 + 1).toNatClampNeg) x8 M28) fun r32 => gd (r27 = r32) <| some (x4, x5, x6, 1, M28)) else (gd (ix x6 60) <| gd (ix (x6 + 1) 60) <| vb (f_L_guess (mI M a1 x6.toNatClampNeg) (mI M a1 (x6 + 1).toNatClampNeg) x9 M) fun r37 => vb (f_L_size (r37 - x4) M) fun r39 => gd (ix x6 60) <| gd (ix (x6 + 1) 60) <| vb (f_L_guess (mI M a1 x6.toNatClampNeg) (mI M a1 (x6 + 1).toNatClampNeg) x8 M) fun r43 => vb (f_L_size (r43 - x4) M) fun r45 => if r45 < r39 then (f_swould0_b113 a0 a1 p2 p3 (f_swould0_b56 a0 a1 p2 p3 n) x4 x5 x6 x7 x9 x8 M) else (f_swould0_b113 a0 a1 p2 p3 (f_swould0_b56 a0 a1 p2 p3 n) x4 x5 x6 x7 x9 x9 M))
def f_swould0 (a0 : Nat) (a1 : Nat) (p2 : Int32) (p3 : Int32) (M : Mem) : Option (Int32 × Int32 × Int32 × Int32 × Mem) := vb (f_L_low p3 4001 M) fun r48 => nb (r48 - 2000) fun y49 => vb (f_L_low (p3 >>> ((5 : Int32) &&& 31)) 60 M) fun r51 => nb ((1 : Int32) + r51) fun y52 => nb ((20 : Int32) * p2) fun y53 => gd (ix y53 60) <| gd (ix (y53 + 1) 60) <| vb (f_L_code y49 (mI M a1 y53.toNatClampNeg) (mI M a1 (y53 + 1).toNatClampNeg) M) fun r57 => f_swould0_b56 a0 a1 p2 p3 lfuel y49 y52 y53 r57 15 14 M
set_option maxHeartbeats 4000000 in
set_option maxRecDepth 100000 in
theorem k_swould0 {p : Program} {e : Env} {s : State} {m : MethodId} {args : Array Value} {below : List Frame} {meth : Method} {c : Code} {Q : State → Prop} {C S : Nat} (G : Gt) (hG : gOK G) (l : Launch) (hx : p.tables.exec = Jvm.exec) (hb : c.code = cL_would) (hml : c.maxLocals = 12) (hown : s.vm.findClass "FoldedVoicesLaw" = some m.cls) (hts : KK s) (hV : (gS G).vm.Alike s.vm) (a0 : Nat) (h0 : gK G a0 = 9) (a1 : Nat) (h1 : gK G a1 = 1060) (p2 : Int32) (p3 : Int32) (M : Mem) {o4 : Int32} {o5 : Int32} {o6 : Int32} {o9 : Int32} {M' : Mem} (hf : f_swould0 a0 a1 p2 p3 M = some (o4, o5, o6, o9, M')) (hc0 : C ≤ (({ frames := 8, cells := 1, slots := 2, locals := 127 } : Room)).cells ∧ S ≤ (({ frames := 8, cells := 1, slots := 2, locals := 127 } : Room)).slots) (hk : ∀ (H : Heap) (locs : List Loc) (ls : Array Slot), Mh G M' H → va_S (gA G) s.heap H locs → lv_has ls 12 [(0, .ref a0), (1, .ref a1), (2, .int p2), (3, .int p3), (4, .int o4), (5, .int o5), (6, .int o6), (9, .int o9)] → W p l e ({ frames := 8, cells := 1, slots := 2, locals := 127 } : Room) s m args below meth c H locs C S Q (F0 m 228 ls [])) : ∀ (H : Heap) (locs : List Loc) (ls : Array Slot), Mh G M H → va_S (gA G) s.heap H locs → lv_has ls 12 [(0, .ref a0), (1, .ref a1), (2, .int p2), (3, .int p3)] → W p l e ({ frames := 8, cells := 1, slots := 2, locals := 127 } : Room) s m args below meth c H locs C S Q (F0 m 0 ls []) := by
  have hK := hG.1.moved hV
  have b113 : ∀ (k56 : Int32 → Int32 → Int32 → Int32 → Int32 → Int32 → Mem → Option (Int32 × Int32 × Int32 × Int32 × Mem)), (∀ (x4 : Int32) (x5 : Int32) (x6 : Int32) (x7 : Int32) (x8 : Int32) (x9 : Int32) (M : Mem) (H : Heap) (locs : List Loc) (ls : Array Slot), Mh G M H → va_S (gA G) s.heap H locs → lv_has ls 12 [(0, .ref a0), (1, .ref a1), (2, .int p2), (3, .int p3), (4, .int x4), (5, .int x5), (6, .int x6), (7, .int x7), (8, .int x8), (9, .int x9)] → k56 x4 x5 x6 x7 x8 x9 M = some (o4, o5, o6, o9, M') → W p l e ({ frames := 8, cells := 1, slots := 2, locals := 127 } : Room) s m args below meth c H locs C S Q (F0 m 56 ls [])) → ∀ (x4 : Int32) (x5 : Int32) (x6 : Int32) (x7 : Int32) (x9 : Int32) (xs0 : Int32) (M : Mem) (H : Heap) (locs : List Loc) (ls : Array Slot), Mh G M H → va_S (gA G) s.heap H locs → lv_has ls 12 [(0, .ref a0), (1, .ref a1), (2, .int p2), (3, .int p3), (4, .int x4), (5, .int x5), (6, .int x6), (7, .int x7), (9, .int x9)] → f_swould0_b113 a0 a1 p2 p3 k56 x4 x5 x6 x7 x9 xs0 M = some (o4, o5, o6, o9, M') → W p l e ({ frames := 8, cells := 1, slots := 2, locals := 127 } : Room) s m args below meth c H locs C S Q (F0 m 113 ls [.int xs0]) := by
    intro k56 hk56
    intro x4 x5 x6 x7 x9 xs0 M H locs ls hM hS hl hf
    rw [f_swould0_b113] at hf
    refine lv_istore (lv' := [(8, .int xs0), (0, .ref a0), (1, .ref a1), (2, .int p2), (3, .int p3), (4, .int x4), (5, .int x5), (6, .int x6), (7, .int x7), (9, .int x9)]) hx hb dL_would_113 hl (by decide) rfl (fun ls hl => ?_)
    obtain ⟨y1, ey1, hf⟩ := nb_e hf
    refine lv_iinc (v := y1) (lv' := [(9, .int y1), (8, .int xs0), (0, .ref a0), (1, .ref a1), (2, .int p2), (3, .int p3), (4, .int x4), (5, .int x5), (6, .int x6), (7, .int x7)]) hx hb dL_would_115 hl (k := 9) rfl (by rw [← ey1]; rfl) (by decide) rfl (fun ls hl => ?_)
    refine lv_goto (tgt := 56) hx hb dL_would_118 (by decide) ?_
    exact hk56 x4 x5 x6 x7 xs0 y1 _ H locs ls hM hS (lv_sub hl [2, 3, 4, 5, 6, 7, 8, 9, 1, 0] rfl) hf
  have b56 : ∀ (n : Nat), ∀ (x4 : Int32) (x5 : Int32) (x6 : Int32) (x7 : Int32) (x8 : Int32) (x9 : Int32) (M : Mem) (H : Heap) (locs : List Loc) (ls : Array Slot), Mh G M H → va_S (gA G) s.heap H locs → lv_has ls 12 [(0, .ref a0), (1, .ref a1), (2, .int p2), (3, .int p3), (4, .int x4), (5, .int x5), (6, .int x6), (7, .int x7), (8, .int x8), (9, .int x9)] → f_swould0_b56 a0 a1 p2 p3 n x4 x5 x6 x7 x8 x9 M = some (o4, o5, o6, o9, M') → W p l e ({ frames := 8, cells := 1, slots := 2, locals := 127 } : Room) s m args below meth c H locs C S Q (F0 m 56 ls []) := by
    intro n
    induction n with
    | zero =>
      intro x4 x5 x6 x7 x8 x9 M H locs ls hM hS hl hf
      rw [f_swould0_b56] at hf
      cases hf
    | succ n ih =>
      intro x4 x5 x6 x7 x8 x9 M H locs ls hM hS hl hf
      rw [f_swould0_b56] at hf
      refine lv_iload hx hb dL_would_56 (lv_at hl 9 rfl) ?_
      refine lv_if_lt (tgt := 121) hx hb dL_would_58 (by decide) (fun g_2 => ?_) (fun g_2 => ?_)
      · rw [if_pos g_2] at hf
        refine lv_aload_n hx hb dL_would_121 rfl (lv_at hl 0 rfl) ?_
        refine lv_iload_n hx hb dL_would_122 rfl (lv_at hl 2 rfl) ?_
        refine lv_iload hx hb dL_would_123 (lv_at hl 4 rfl) ?_
        refine lv_iconst (v := 0) hx hb dL_would_125 (by decide) ?_
        obtain ⟨r4, M5, e_3, hf⟩ := zb_e hf
        refine c_Vi hx hb hml hown hts hV hK hM hS (As := [.int p2, .int x4, .int 0]) (rest := []) (k_X8_code G hG l a0 h0 p2 x4 0 M e_3) w_X8_code (tk_612 hts) (c_9 h0) rfl rfl ⟨⟨rfl, rfl⟩, Nat.le_of_ble_eq_true rfl, Nat.le_of_ble_eq_true rfl⟩ hc0 rfl hl.1 rfl (Nat.le_of_ble_eq_true rfl) dL_would_126 (fun H locs hM hS => ?_)
        refine lv_iload hx hb dL_would_129 (lv_at hl 7 rfl) ?_
        obtain ⟨h_6, hf⟩ := gd_e hf
        refine lv_icmp_ne (tgt := 225) hx hb dL_would_131 (by decide) (fun g => absurd h_6 g) (fun _ => ?_)
        refine lv_aload_n hx hb dL_would_134 rfl (lv_at hl 0 rfl) ?_
        refine lv_iload_n hx hb dL_would_135 rfl (lv_at hl 2 rfl) ?_
        refine lv_iload hx hb dL_would_136 (lv_at hl 4 rfl) ?_
        refine lv_iconst (v := 1) hx hb dL_would_138 (by decide) ?_
        obtain ⟨r8, M9, e_7, hf⟩ := zb_e hf
        refine c_Vi hx hb hml hown hts hV hK hM hS (As := [.int p2, .int x4, .int 1]) (rest := []) (k_X8_code G hG l a0 h0 p2 x4 1 M5 e_7) w_X8_code (tk_612 hts) (c_9 h0) rfl rfl ⟨⟨rfl, rfl⟩, Nat.le_of_ble_eq_true rfl, Nat.le_of_ble_eq_true rfl⟩ hc0 rfl hl.1 rfl (Nat.le_of_ble_eq_true rfl) dL_would_139 (fun H locs hM hS => ?_)
        refine lv_aload_n hx hb dL_would_142 rfl (lv_at hl 1 rfl) ?_
        refine lv_iload hx hb dL_would_143 (lv_at hl 6 rfl) ?_
        obtain ⟨h_10, hf⟩ := gd_e hf
        refine s_iald 60 hx hb hK hM h1 (by decide) h_10 dL_would_145 ?_
        refine lv_aload_n hx hb dL_would_146 rfl (lv_at hl 1 rfl) ?_
        refine lv_iload hx hb dL_would_147 (lv_at hl 6 rfl) ?_
        refine lv_iconst (v := 1) hx hb dL_would_149 (by decide) ?_
        refine lv_iadd hx hb dL_would_150 ?_
        obtain ⟨h_11, hf⟩ := gd_e hf
        refine s_iald 60 hx hb hK hM h1 (by decide) h_11 dL_would_151 ?_
        refine lv_iload hx hb dL_would_152 (lv_at hl 7 rfl) ?_
        obtain ⟨r13, e_12, hf⟩ := vb_e hf
        refine c_Si hx hb hml hown hts hV hM hS (As := [.int (mI M9 a1 x6.toNatClampNeg), .int (mI M9 a1 (x6 + 1).toNatClampNeg), .int x7]) (rest := [.int r8]) (k_L_guess G hG l (mI M9 a1 x6.toNatClampNeg) (mI M9 a1 (x6 + 1).toNatClampNeg) x7 M9 e_12) w_L_guess (tk_497 hts) ⟨⟨rfl, rfl⟩, Nat.le_of_ble_eq_true rfl, Nat.le_of_ble_eq_true rfl⟩ hc0 rfl hl.1 rfl (Nat.le_of_ble_eq_true rfl) dL_would_154 (fun H locs hM hS => ?_)
        obtain ⟨h_14, hf⟩ := gd_e hf
        refine lv_icmp_ne (tgt := 225) hx hb dL_would_157 (by decide) (fun g => absurd h_14 g) (fun _ => ?_)
        refine lv_aload_n hx hb dL_would_160 rfl (lv_at hl 0 rfl) ?_
        refine lv_iload_n hx hb dL_would_161 rfl (lv_at hl 2 rfl) ?_
        refine lv_iload hx hb dL_would_162 (lv_at hl 4 rfl) ?_
        refine lv_iconst (v := 2) hx hb dL_would_164 (by decide) ?_
        obtain ⟨r16, M17, e_15, hf⟩ := zb_e hf
        refine c_Vi hx hb hml hown hts hV hK hM hS (As := [.int p2, .int x4, .int 2]) (rest := []) (k_X8_code G hG l a0 h0 p2 x4 2 M9 e_15) w_X8_code (tk_612 hts) (c_9 h0) rfl rfl ⟨⟨rfl, rfl⟩, Nat.le_of_ble_eq_true rfl, Nat.le_of_ble_eq_true rfl⟩ hc0 rfl hl.1 rfl (Nat.le_of_ble_eq_true rfl) dL_would_165 (fun H locs hM hS => ?_)
        refine lv_aload_n hx hb dL_would_168 rfl (lv_at hl 1 rfl) ?_
        refine lv_iload hx hb dL_would_169 (lv_at hl 6 rfl) ?_
        refine lv_iconst (v := 1) hx hb dL_would_171 (by decide) ?_
        refine lv_iadd hx hb dL_would_172 ?_
        obtain ⟨h_18, hf⟩ := gd_e hf
        refine s_iald 60 hx hb hK hM h1 (by decide) h_18 dL_would_173 ?_
        refine lv_iload hx hb dL_would_174 (lv_at hl 7 rfl) ?_
        obtain ⟨r20, e_19, hf⟩ := vb_e hf
        refine c_Si hx hb hml hown hts hV hM hS (As := [.int (mI M17 a1 (x6 + 1).toNatClampNeg), .int x7]) (rest := [.int r16]) (k_L_index G hG l (mI M17 a1 (x6 + 1).toNatClampNeg) x7 M17 e_19) w_L_index (tk_500 hts) ⟨⟨rfl, rfl⟩, Nat.le_of_ble_eq_true rfl, Nat.le_of_ble_eq_true rfl⟩ hc0 rfl hl.1 rfl (Nat.le_of_ble_eq_true rfl) dL_would_176 (fun H locs hM hS => ?_)
        obtain ⟨h_21, hf⟩ := gd_e hf
        refine lv_icmp_ne (tgt := 225) hx hb dL_would_179 (by decide) (fun g => absurd h_21 g) (fun _ => ?_)
        refine lv_aload_n hx hb dL_would_182 rfl (lv_at hl 0 rfl) ?_
        refine lv_iload_n hx hb dL_would_183 rfl (lv_at hl 2 rfl) ?_
        refine lv_iload hx hb dL_would_184 (lv_at hl 4 rfl) ?_
        refine lv_iconst (v := 3) hx hb dL_would_186 (by decide) ?_
        obtain ⟨r23, M24, e_22, hf⟩ := zb_e hf
        refine c_Vi hx hb hml hown hts hV hK hM hS (As := [.int p2, .int x4, .int 3]) (rest := []) (k_X8_code G hG l a0 h0 p2 x4 3 M17 e_22) w_X8_code (tk_612 hts) (c_9 h0) rfl rfl ⟨⟨rfl, rfl⟩, Nat.le_of_ble_eq_true rfl, Nat.le_of_ble_eq_true rfl⟩ hc0 rfl hl.1 rfl (Nat.le_of_ble_eq_true rfl) dL_would_187 (fun H locs hM hS => ?_)
        refine lv_iload hx hb dL_would_190 (lv_at hl 8 rfl) ?_
        obtain ⟨h_25, hf⟩ := gd_e hf
        refine lv_icmp_ne (tgt := 225) hx hb dL_would_192 (by decide) (fun g => absurd h_25 g) (fun _ => ?_)
        refine lv_aload_n hx hb dL_would_195 rfl (lv_at hl 0 rfl) ?_
        refine lv_iload_n hx hb dL_would_196 rfl (lv_at hl 2 rfl) ?_
        refine lv_iload hx hb dL_would_197 (lv_at hl 4 rfl) ?_
        refine lv_iconst (v := 4) hx hb dL_would_199 (by decide) ?_
        obtain ⟨r27, M28, e_26, hf⟩ := zb_e hf
        refine c_Vi hx hb hml hown hts hV hK hM hS (As := [.int p2, .int x4, .int 4]) (rest := []) (k_X8_code G hG l a0 h0 p2 x4 4 M24 e_26) w_X8_code (tk_612 hts) (c_9 h0) rfl rfl ⟨⟨rfl, rfl⟩, Nat.le_of_ble_eq_true rfl, Nat.le_of_ble_eq_true rfl⟩ hc0 rfl hl.1 rfl (Nat.le_of_ble_eq_true rfl) dL_would_200 (fun H locs hM hS => ?_)
        refine lv_aload_n hx hb dL_would_203 rfl (lv_at hl 1 rfl) ?_
        refine lv_iload hx hb dL_would_204 (lv_at hl 6 rfl) ?_
        obtain ⟨h_29, hf⟩ := gd_e hf
        refine s_iald 60 hx hb hK hM h1 (by decide) h_29 dL_would_206 ?_
        refine lv_aload_n hx hb dL_would_207 rfl (lv_at hl 1 rfl) ?_
        refine lv_iload hx hb dL_would_208 (lv_at hl 6 rfl) ?_
        refine lv_iconst (v := 1) hx hb dL_would_210 (by decide) ?_
        refine lv_iadd hx hb dL_would_211 ?_
        obtain ⟨h_30, hf⟩ := gd_e hf
        refine s_iald 60 hx hb hK hM h1 (by decide) h_30 dL_would_212 ?_
        refine lv_iload hx hb dL_would_213 (lv_at hl 8 rfl) ?_
        obtain ⟨r32, e_31, hf⟩ := vb_e hf
        refine c_Si hx hb hml hown hts hV hM hS (As := [.int (mI M28 a1 x6.toNatClampNeg), .int (mI M28 a1 (x6 + 1).toNatClampNeg), .int x8]) (rest := [.int r27]) (k_L_guess G hG l (mI M28 a1 x6.toNatClampNeg) (mI M28 a1 (x6 + 1).toNatClampNeg) x8 M28 e_31) w_L_guess (tk_497 hts) ⟨⟨rfl, rfl⟩, Nat.le_of_ble_eq_true rfl, Nat.le_of_ble_eq_true rfl⟩ hc0 rfl hl.1 rfl (Nat.le_of_ble_eq_true rfl) dL_would_215 (fun H locs hM hS => ?_)
        obtain ⟨h_33, hf⟩ := gd_e hf
        refine lv_icmp_ne (tgt := 225) hx hb dL_would_218 (by decide) (fun g => absurd h_33 g) (fun _ => ?_)
        refine lv_iconst (v := 1) hx hb dL_would_221 (by decide) ?_
        refine lv_goto (tgt := 226) hx hb dL_would_222 (by decide) ?_
        refine lv_istore (lv' := [(9, .int 1), (0, .ref a0), (1, .ref a1), (2, .int p2), (3, .int p3), (4, .int x4), (5, .int x5), (6, .int x6), (7, .int x7), (8, .int x8)]) hx hb dL_would_226 hl (by decide) rfl (fun ls hl => ?_)
        cases hf
        exact hk H locs ls hM hS (lv_sub hl [1, 2, 3, 4, 5, 6, 7, 0] rfl)
      · rw [if_neg g_2] at hf
        refine lv_aload_n hx hb dL_would_61 rfl (lv_at hl 1 rfl) ?_
        refine lv_iload hx hb dL_would_62 (lv_at hl 6 rfl) ?_
        obtain ⟨h_34, hf⟩ := gd_e hf
        refine s_iald 60 hx hb hK hM h1 (by decide) h_34 dL_would_64 ?_
        refine lv_aload_n hx hb dL_would_65 rfl (lv_at hl 1 rfl) ?_
        refine lv_iload hx hb dL_would_66 (lv_at hl 6 rfl) ?_
        refine lv_iconst (v := 1) hx hb dL_would_68 (by decide) ?_
        refine lv_iadd hx hb dL_would_69 ?_
        obtain ⟨h_35, hf⟩ := gd_e hf
        refine s_iald 60 hx hb hK hM h1 (by decide) h_35 dL_would_70 ?_
        refine lv_iload hx hb dL_would_71 (lv_at hl 9 rfl) ?_
        obtain ⟨r37, e_36, hf⟩ := vb_e hf
        refine c_Si hx hb hml hown hts hV hM hS (As := [.int (mI M a1 x6.toNatClampNeg), .int (mI M a1 (x6 + 1).toNatClampNeg), .int x9]) (rest := []) (k_L_guess G hG l (mI M a1 x6.toNatClampNeg) (mI M a1 (x6 + 1).toNatClampNeg) x9 M e_36) w_L_guess (tk_497 hts) ⟨⟨rfl, rfl⟩, Nat.le_of_ble_eq_true rfl, Nat.le_of_ble_eq_true rfl⟩ hc0 rfl hl.1 rfl (Nat.le_of_ble_eq_true rfl) dL_would_73 (fun H locs hM hS => ?_)
        refine lv_iload hx hb dL_would_76 (lv_at hl 4 rfl) ?_
        refine lv_isub hx hb dL_would_78 ?_
        obtain ⟨r39, e_38, hf⟩ := vb_e hf
        refine c_Si hx hb hml hown hts hV hM hS (As := [.int (r37 - x4)]) (rest := []) (k_L_size G hG l (r37 - x4) M e_38) w_L_size (tk_503 hts) ⟨⟨rfl, rfl⟩, Nat.le_of_ble_eq_true rfl, Nat.le_of_ble_eq_true rfl⟩ hc0 rfl hl.1 rfl (Nat.le_of_ble_eq_true rfl) dL_would_79 (fun H locs hM hS => ?_)
        refine lv_aload_n hx hb dL_would_82 rfl (lv_at hl 1 rfl) ?_
        refine lv_iload hx hb dL_would_83 (lv_at hl 6 rfl) ?_
        obtain ⟨h_40, hf⟩ := gd_e hf
        refine s_iald 60 hx hb hK hM h1 (by decide) h_40 dL_would_85 ?_
        refine lv_aload_n hx hb dL_would_86 rfl (lv_at hl 1 rfl) ?_
        refine lv_iload hx hb dL_would_87 (lv_at hl 6 rfl) ?_
        refine lv_iconst (v := 1) hx hb dL_would_89 (by decide) ?_
        refine lv_iadd hx hb dL_would_90 ?_
        obtain ⟨h_41, hf⟩ := gd_e hf
        refine s_iald 60 hx hb hK hM h1 (by decide) h_41 dL_would_91 ?_
        refine lv_iload hx hb dL_would_92 (lv_at hl 8 rfl) ?_
        obtain ⟨r43, e_42, hf⟩ := vb_e hf
        refine c_Si hx hb hml hown hts hV hM hS (As := [.int (mI M a1 x6.toNatClampNeg), .int (mI M a1 (x6 + 1).toNatClampNeg), .int x8]) (rest := [.int r39]) (k_L_guess G hG l (mI M a1 x6.toNatClampNeg) (mI M a1 (x6 + 1).toNatClampNeg) x8 M e_42) w_L_guess (tk_497 hts) ⟨⟨rfl, rfl⟩, Nat.le_of_ble_eq_true rfl, Nat.le_of_ble_eq_true rfl⟩ hc0 rfl hl.1 rfl (Nat.le_of_ble_eq_true rfl) dL_would_94 (fun H locs hM hS => ?_)
        refine lv_iload hx hb dL_would_97 (lv_at hl 4 rfl) ?_
        refine lv_isub hx hb dL_would_99 ?_
        obtain ⟨r45, e_44, hf⟩ := vb_e hf
        refine c_Si hx hb hml hown hts hV hM hS (As := [.int (r43 - x4)]) (rest := [.int r39]) (k_L_size G hG l (r43 - x4) M e_44) w_L_size (tk_503 hts) ⟨⟨rfl, rfl⟩, Nat.le_of_ble_eq_true rfl, Nat.le_of_ble_eq_true rfl⟩ hc0 rfl hl.1 rfl (Nat.le_of_ble_eq_true rfl) dL_would_100 (fun H locs hM hS => ?_)
        refine lv_icmp_gt (tgt := 111) hx hb dL_would_103 (by decide) (fun g_46 => ?_) (fun g_46 => ?_)
        · rw [if_pos g_46] at hf
          refine lv_iload hx hb dL_would_111 (lv_at hl 8 rfl) ?_
          exact b113 _ ih x4 x5 x6 x7 x9 x8 _ H locs ls hM hS (lv_sub hl [0, 1, 2, 3, 4, 5, 6, 7, 9] rfl) hf
        · rw [if_neg g_46] at hf
          refine lv_iload hx hb dL_would_106 (lv_at hl 9 rfl) ?_
          refine lv_goto (tgt := 113) hx hb dL_would_108 (by decide) ?_
          exact b113 _ ih x4 x5 x6 x7 x9 x9 _ H locs ls hM hS (lv_sub hl [0, 1, 2, 3, 4, 5, 6, 7, 9] rfl) hf
  intro H locs ls hM hS hl
  rw [f_swould0] at hf
  refine lv_iload_n hx hb dL_would_0 rfl (lv_at hl 3 rfl) ?_
  refine lv_sipush (v := 4001) hx hb dL_would_1 (by decide) ?_
  obtain ⟨r48, e_47, hf⟩ := vb_e hf
  refine c_Si hx hb hml hown hts hV hM hS (As := [.int p3, .int 4001]) (rest := []) (k_L_low G hG l p3 4001 M e_47) w_L_low (tk_295 hts) ⟨⟨rfl, rfl⟩, Nat.le_of_ble_eq_true rfl, Nat.le_of_ble_eq_true rfl⟩ hc0 rfl hl.1 rfl (Nat.le_of_ble_eq_true rfl) dL_would_4 (fun H locs hM hS => ?_)
  refine lv_sipush (v := 2000) hx hb dL_would_7 (by decide) ?_
  refine lv_isub hx hb dL_would_10 ?_
  obtain ⟨y49, ey49, hf⟩ := nb_e hf
  refine s_nm ey49 ?_
  refine lv_istore (lv' := [(4, .int y49), (0, .ref a0), (1, .ref a1), (2, .int p2), (3, .int p3)]) hx hb dL_would_11 hl (by decide) rfl (fun ls hl => ?_)
  refine lv_iconst (v := 1) hx hb dL_would_13 (by decide) ?_
  refine lv_iload_n hx hb dL_would_14 rfl (lv_at hl 4 rfl) ?_
  refine lv_iconst (v := 5) hx hb dL_would_15 (by decide) ?_
  refine lv_ishr hx hb dL_would_16 ?_
  refine lv_bipush (v := 60) hx hb dL_would_17 (by decide) ?_
  obtain ⟨r51, e_50, hf⟩ := vb_e hf
  refine c_Si hx hb hml hown hts hV hM hS (As := [.int (p3 >>> ((5 : Int32) &&& 31)), .int 60]) (rest := [.int 1]) (k_L_low G hG l (p3 >>> ((5 : Int32) &&& 31)) 60 M e_50) w_L_low (tk_295 hts) ⟨⟨rfl, rfl⟩, Nat.le_of_ble_eq_true rfl, Nat.le_of_ble_eq_true rfl⟩ hc0 rfl hl.1 rfl (Nat.le_of_ble_eq_true rfl) dL_would_19 (fun H locs hM hS => ?_)
  refine lv_iadd hx hb dL_would_22 ?_
  obtain ⟨y52, ey52, hf⟩ := nb_e hf
  refine s_nm ey52 ?_
  refine lv_istore (lv' := [(5, .int y52), (4, .int y49), (0, .ref a0), (1, .ref a1), (2, .int p2), (3, .int p3)]) hx hb dL_would_23 hl (by decide) rfl (fun ls hl => ?_)
  refine lv_bipush (v := 20) hx hb dL_would_25 (by decide) ?_
  refine lv_iload_n hx hb dL_would_27 rfl (lv_at hl 4 rfl) ?_
  refine lv_imul hx hb dL_would_28 ?_
  obtain ⟨y53, ey53, hf⟩ := nb_e hf
  refine s_nm ey53 ?_
  refine lv_istore (lv' := [(6, .int y53), (5, .int y52), (4, .int y49), (0, .ref a0), (1, .ref a1), (2, .int p2), (3, .int p3)]) hx hb dL_would_29 hl (by decide) rfl (fun ls hl => ?_)
  refine lv_iload hx hb dL_would_31 (lv_at hl 2 rfl) ?_
  refine lv_aload_n hx hb dL_would_33 rfl (lv_at hl 4 rfl) ?_
  refine lv_iload hx hb dL_would_34 (lv_at hl 0 rfl) ?_
  obtain ⟨h_54, hf⟩ := gd_e hf
  refine s_iald 60 hx hb hK hM h1 (by decide) h_54 dL_would_36 ?_
  refine lv_aload_n hx hb dL_would_37 rfl (lv_at hl 4 rfl) ?_
  refine lv_iload hx hb dL_would_38 (lv_at hl 0 rfl) ?_
  refine lv_iconst (v := 1) hx hb dL_would_40 (by decide) ?_
  refine lv_iadd hx hb dL_would_41 ?_
  obtain ⟨h_55, hf⟩ := gd_e hf
  refine s_iald 60 hx hb hK hM h1 (by decide) h_55 dL_would_42 ?_
  obtain ⟨r57, e_56, hf⟩ := vb_e hf
  refine c_Si hx hb hml hown hts hV hM hS (As := [.int y49, .int (mI M a1 y53.toNatClampNeg), .int (mI M a1 (y53 + 1).toNatClampNeg)]) (rest := []) (k_L_code G hG l y49 (mI M a1 y53.toNatClampNeg) (mI M a1 (y53 + 1).toNatClampNeg) M e_56) w_L_code (tk_609 hts) ⟨⟨rfl, rfl⟩, Nat.le_of_ble_eq_true rfl, Nat.le_of_ble_eq_true rfl⟩ hc0 rfl hl.1 rfl (Nat.le_of_ble_eq_true rfl) dL_would_43 (fun H locs hM hS => ?_)
  refine lv_istore (lv' := [(7, .int r57), (6, .int y53), (5, .int y52), (4, .int y49), (0, .ref a0), (1, .ref a1), (2, .int p2), (3, .int p3)]) hx hb dL_would_46 hl (by decide) rfl (fun ls hl => ?_)
  refine lv_bipush (v := 15) hx hb dL_would_48 (by decide) ?_
  refine lv_istore (lv' := [(8, .int 15), (7, .int r57), (6, .int y53), (5, .int y52), (4, .int y49), (0, .ref a0), (1, .ref a1), (2, .int p2), (3, .int p3)]) hx hb dL_would_50 hl (by decide) rfl (fun ls hl => ?_)
  refine lv_bipush (v := 14) hx hb dL_would_52 (by decide) ?_
  refine lv_istore (lv' := [(9, .int 14), (8, .int 15), (7, .int r57), (6, .int y53), (5, .int y52), (4, .int y49), (0, .ref a0), (1, .ref a1), (2, .int p2), (3, .int p3)]) hx hb dL_would_54 hl (by decide) rfl (fun ls hl => ?_)
  exact b56 _ y49 y52 y53 r57 15 14 _ H locs ls hM hS (lv_sub hl [6, 7, 8, 9, 5, 4, 3, 2, 1, 0] rfl) hf
def f_swould1_b301 (a0 : Nat) (a1 : Nat) (p2 : Int32) (p4 : Int32) (p5 : Int32) (p6 : Int32) (p9 : Int32) (a10 : Nat) (x11 : Int32) (M : Mem) : Option (Int32 × Mem) := gd (¬ (p9 = 0)) <| zb (f_X8_settles a0 p2 p4 p5 M) fun r3 M4 => if x11 ≤ (60 : Int32) then (gd (r3 = x11) <| some (1, M4)) else (gd (r3 = (-10000 : Int32)) <| some (1, M4))
def f_swould1_b254 (a0 : Nat) (a1 : Nat) (p2 : Int32) (p4 : Int32) (p5 : Int32) (p6 : Int32) (p9 : Int32) (a10 : Nat) : Nat → Int32 → Mem → Option (Int32 × Mem)
  | 0, _, _ => none
  | n + 1, x11, M => if (61 : Int32) ≤ x11 then (f_swould1_b301 a0 a1 p2 p4 p5 p6 p9 a10 x11 M) else (gd (ix (0 : Int32) 2) <| vb (f_L_size ((mI M a10 (0 : Int32).toNatClampNeg) - p4) M) fun r11 => if r11 < p5 then (f_swould1_b301 a0 a1 p2 p4 p5 p6 p9 a10 x11 M) else (gd (ix (0 : Int32) 2) <| gd (ix (1 : Int32) 2) <| vb (f_L_code p4 (mI M a10 (0 : Int32).toNatClampNeg) (mI M a10 (1 : Int32).toNatClampNeg) M) fun r16 => vb (f_L_follows 2 a10 0 r16 M) fun M18 => nb (x11 + 1) fun y19 => f_swould1_b254 a0 a1 p2 p4 p5 p6 p9 a10 n y19 M18))
def f_swould1 (a0 : Nat) (a1 : Nat) (p2 : Int32) (p4 : Int32) (p5 : Int32) (p6 : Int32) (p9 : Int32) (a10 : Nat) (M : Mem) : Option (Int32 × Mem) := gd (ix p6 60) <| gd (ix (0 : Int32) 2) <| nb (sI M a10 (0 : Int32).toNatClampNeg (mI M a1 p6.toNatClampNeg)) fun M22 => gd (ix (p6 + 1) 60) <| gd (ix (1 : Int32) 2) <| nb (sI M22 a10 (1 : Int32).toNatClampNeg (mI M22 a1 (p6 + 1).toNatClampNeg)) fun M25 => f_swould1_b254 a0 a1 p2 p4 p5 p6 p9 a10 lfuel 0 M25
set_option maxHeartbeats 4000000 in
set_option maxRecDepth 100000 in
theorem k_swould1 {p : Program} {e : Env} {s : State} {m : MethodId} {args : Array Value} {below : List Frame} {meth : Method} {c : Code} {Q : State → Prop} {C S : Nat} (G : Gt) (hG : gOK G) (l : Launch) (hx : p.tables.exec = Jvm.exec) (hb : c.code = cL_would) (hml : c.maxLocals = 12) (hown : s.vm.findClass "FoldedVoicesLaw" = some m.cls) (hts : KK s) (hV : (gS G).vm.Alike s.vm) (a0 : Nat) (h0 : gK G a0 = 9) (a1 : Nat) (h1 : gK G a1 = 1060) (p2 : Int32) (p4 : Int32) (p5 : Int32) (p6 : Int32) (p9 : Int32) (a10 : Nat) (h10 : gK G a10 = 1002) (M : Mem) {os0 : Int32} {M' : Mem} (hf : f_swould1 a0 a1 p2 p4 p5 p6 p9 a10 M = some (os0, M')) (hc0 : C ≤ (({ frames := 8, cells := 1, slots := 2, locals := 127 } : Room)).cells ∧ S ≤ (({ frames := 8, cells := 1, slots := 2, locals := 127 } : Room)).slots) (hk : ∀ (H : Heap) (locs : List Loc) (ls : Array Slot), Mh G M' H → va_S (gA G) s.heap H locs → lv_has ls 12 [(0, .ref a0), (1, .ref a1), (2, .int p2), (4, .int p4), (5, .int p5), (6, .int p6), (9, .int p9), (10, .ref a10)] → W p l e ({ frames := 8, cells := 1, slots := 2, locals := 127 } : Room) s m args below meth c H locs C S Q (F0 m 338 ls [.int os0])) : ∀ (H : Heap) (locs : List Loc) (ls : Array Slot), Mh G M H → va_S (gA G) s.heap H locs → lv_has ls 12 [(0, .ref a0), (1, .ref a1), (2, .int p2), (4, .int p4), (5, .int p5), (6, .int p6), (9, .int p9), (10, .ref a10)] → W p l e ({ frames := 8, cells := 1, slots := 2, locals := 127 } : Room) s m args below meth c H locs C S Q (F0 m 233 ls []) := by
  have hK := hG.1.moved hV
  have b301 : ∀ (x11 : Int32) (M : Mem) (H : Heap) (locs : List Loc) (ls : Array Slot), Mh G M H → va_S (gA G) s.heap H locs → lv_has ls 12 [(0, .ref a0), (1, .ref a1), (2, .int p2), (4, .int p4), (5, .int p5), (6, .int p6), (9, .int p9), (10, .ref a10), (11, .int x11)] → f_swould1_b301 a0 a1 p2 p4 p5 p6 p9 a10 x11 M = some (os0, M') → W p l e ({ frames := 8, cells := 1, slots := 2, locals := 127 } : Room) s m args below meth c H locs C S Q (F0 m 301 ls []) := by
    intro x11 M H locs ls hM hS hl hf
    rw [f_swould1_b301] at hf
    refine lv_iload hx hb dL_would_301 (lv_at hl 6 rfl) ?_
    obtain ⟨h_1, hf⟩ := gd_e hf
    refine lv_if_eq (tgt := 337) hx hb dL_would_303 (by decide) (fun g => absurd g h_1) (fun _ => ?_)
    refine lv_aload_n hx hb dL_would_306 rfl (lv_at hl 0 rfl) ?_
    refine lv_iload_n hx hb dL_would_307 rfl (lv_at hl 2 rfl) ?_
    refine lv_iload hx hb dL_would_308 (lv_at hl 3 rfl) ?_
    refine lv_iload hx hb dL_would_310 (lv_at hl 4 rfl) ?_
    obtain ⟨r3, M4, e_2, hf⟩ := zb_e hf
    refine c_Vi hx hb hml hown hts hV hK hM hS (As := [.int p2, .int p4, .int p5]) (rest := []) (k_X8_settles G hG l a0 h0 p2 p4 p5 M e_2) w_X8_settles (tk_634 hts) (c_9 h0) rfl rfl ⟨⟨rfl, rfl⟩, Nat.le_of_ble_eq_true rfl, Nat.le_of_ble_eq_true rfl⟩ hc0 rfl hl.1 rfl (Nat.le_of_ble_eq_true rfl) dL_would_312 (fun H locs hM hS => ?_)
    refine lv_iload hx hb dL_would_315 (lv_at hl 8 rfl) ?_
    refine lv_bipush (v := 60) hx hb dL_would_317 (by decide) ?_
    refine lv_icmp_le (tgt := 328) hx hb dL_would_319 (by decide) (fun g_5 => ?_) (fun g_5 => ?_)
    · rw [if_pos g_5] at hf
      refine lv_iload hx hb dL_would_328 (lv_at hl 8 rfl) ?_
      obtain ⟨h_6, hf⟩ := gd_e hf
      refine lv_icmp_ne (tgt := 337) hx hb dL_would_330 (by decide) (fun g => absurd h_6 g) (fun _ => ?_)
      refine lv_iconst (v := 1) hx hb dL_would_333 (by decide) ?_
      refine lv_goto (tgt := 338) hx hb dL_would_334 (by decide) ?_
      cases hf
      exact hk H locs ls hM hS (lv_sub hl [0, 1, 2, 3, 4, 5, 6, 7] rfl)
    · rw [if_neg g_5] at hf
      refine lv_sipush (v := (-10000)) hx hb dL_would_322 (by decide) ?_
      refine lv_goto (tgt := 330) hx hb dL_would_325 (by decide) ?_
      obtain ⟨h_7, hf⟩ := gd_e hf
      refine lv_icmp_ne (tgt := 337) hx hb dL_would_330 (by decide) (fun g => absurd h_7 g) (fun _ => ?_)
      refine lv_iconst (v := 1) hx hb dL_would_333 (by decide) ?_
      refine lv_goto (tgt := 338) hx hb dL_would_334 (by decide) ?_
      cases hf
      exact hk H locs ls hM hS (lv_sub hl [0, 1, 2, 3, 4, 5, 6, 7] rfl)
  have b254 : ∀ (n : Nat), ∀ (x11 : Int32) (M : Mem) (H : Heap) (locs : List Loc) (ls : Array Slot), Mh G M H → va_S (gA G) s.heap H locs → lv_has ls 12 [(0, .ref a0), (1, .ref a1), (2, .int p2), (4, .int p4), (5, .int p5), (6, .int p6), (9, .int p9), (10, .ref a10), (11, .int x11)] → f_swould1_b254 a0 a1 p2 p4 p5 p6 p9 a10 n x11 M = some (os0, M') → W p l e ({ frames := 8, cells := 1, slots := 2, locals := 127 } : Room) s m args below meth c H locs C S Q (F0 m 254 ls []) := by
    intro n
    induction n with
    | zero =>
      intro x11 M H locs ls hM hS hl hf
      rw [f_swould1_b254] at hf
      cases hf
    | succ n ih =>
      intro x11 M H locs ls hM hS hl hf
      rw [f_swould1_b254] at hf
      refine lv_iload hx hb dL_would_254 (lv_at hl 8 rfl) ?_
      refine lv_bipush (v := 61) hx hb dL_would_256 (by decide) ?_
      refine lv_icmp_ge (tgt := 301) hx hb dL_would_258 (by decide) (fun g_8 => ?_) (fun g_8 => ?_)
      · rw [if_pos g_8] at hf
        exact b301 x11 _ H locs ls hM hS (lv_sub hl [0, 1, 2, 3, 4, 5, 6, 7, 8] rfl) hf
      · rw [if_neg g_8] at hf
        refine lv_aload hx hb dL_would_261 (lv_at hl 7 rfl) ?_
        refine lv_iconst (v := 0) hx hb dL_would_263 (by decide) ?_
        obtain ⟨h_9, hf⟩ := gd_e hf
        refine s_iald 2 hx hb hK hM h10 (by decide) h_9 dL_would_264 ?_
        refine lv_iload hx hb dL_would_265 (lv_at hl 3 rfl) ?_
        refine lv_isub hx hb dL_would_267 ?_
        obtain ⟨r11, e_10, hf⟩ := vb_e hf
        refine c_Si hx hb hml hown hts hV hM hS (As := [.int ((mI M a10 (0 : Int32).toNatClampNeg) - p4)]) (rest := []) (k_L_size G hG l ((mI M a10 (0 : Int32).toNatClampNeg) - p4) M e_10) w_L_size (tk_503 hts) ⟨⟨rfl, rfl⟩, Nat.le_of_ble_eq_true rfl, Nat.le_of_ble_eq_true rfl⟩ hc0 rfl hl.1 rfl (Nat.le_of_ble_eq_true rfl) dL_would_268 (fun H locs hM hS => ?_)
        refine lv_iload hx hb dL_would_271 (lv_at hl 4 rfl) ?_
        refine lv_icmp_lt (tgt := 301) hx hb dL_would_273 (by decide) (fun g_12 => ?_) (fun g_12 => ?_)
        · rw [if_pos g_12] at hf
          exact b301 x11 _ H locs ls hM hS (lv_sub hl [0, 1, 2, 3, 4, 5, 6, 7, 8] rfl) hf
        · rw [if_neg g_12] at hf
          refine lv_aload hx hb dL_would_276 (lv_at hl 7 rfl) ?_
          refine lv_iconst (v := 0) hx hb dL_would_278 (by decide) ?_
          refine lv_iload hx hb dL_would_279 (lv_at hl 3 rfl) ?_
          refine lv_aload hx hb dL_would_281 (lv_at hl 7 rfl) ?_
          refine lv_iconst (v := 0) hx hb dL_would_283 (by decide) ?_
          obtain ⟨h_13, hf⟩ := gd_e hf
          refine s_iald 2 hx hb hK hM h10 (by decide) h_13 dL_would_284 ?_
          refine lv_aload hx hb dL_would_285 (lv_at hl 7 rfl) ?_
          refine lv_iconst (v := 1) hx hb dL_would_287 (by decide) ?_
          obtain ⟨h_14, hf⟩ := gd_e hf
          refine s_iald 2 hx hb hK hM h10 (by decide) h_14 dL_would_288 ?_
          obtain ⟨r16, e_15, hf⟩ := vb_e hf
          refine c_Si hx hb hml hown hts hV hM hS (As := [.int p4, .int (mI M a10 (0 : Int32).toNatClampNeg), .int (mI M a10 (1 : Int32).toNatClampNeg)]) (rest := [.int 0, .ref a10]) (k_L_code G hG l p4 (mI M a10 (0 : Int32).toNatClampNeg) (mI M a10 (1 : Int32).toNatClampNeg) M e_15) w_L_code (tk_609 hts) ⟨⟨rfl, rfl⟩, Nat.le_of_ble_eq_true rfl, Nat.le_of_ble_eq_true rfl⟩ hc0 rfl hl.1 rfl (Nat.le_of_ble_eq_true rfl) dL_would_289 (fun H locs hM hS => ?_)
          obtain ⟨M18, e_17, hf⟩ := vb_e hf
          refine c_Sv hx hb hml hown hts hV hM hS (As := [.ref a10, .int 0, .int r16]) (rest := []) (k_L_follows G hG l 2 (by decide) a10 h10 0 r16 M e_17) w_L_follows (tk_494 hts) ⟨⟨rfl, rfl⟩, Nat.le_of_ble_eq_true rfl, Nat.le_of_ble_eq_true rfl⟩ hc0 rfl hl.1 rfl (Nat.le_of_ble_eq_true rfl) dL_would_292 (fun H locs hM hS => ?_)
          obtain ⟨y19, ey19, hf⟩ := nb_e hf
          refine lv_iinc (v := y19) (lv' := [(11, .int y19), (0, .ref a0), (1, .ref a1), (2, .int p2), (4, .int p4), (5, .int p5), (6, .int p6), (9, .int p9), (10, .ref a10)]) hx hb dL_would_295 hl (k := 8) rfl (by rw [← ey19]; rfl) (by decide) rfl (fun ls hl => ?_)
          refine lv_goto (tgt := 254) hx hb dL_would_298 (by decide) ?_
          exact ih y19 _ H locs ls hM hS (lv_sub hl [1, 2, 3, 4, 5, 6, 7, 8, 0] rfl) hf
  intro H locs ls hM hS hl
  rw [f_swould1] at hf
  refine lv_aload hx hb dL_would_233 (lv_at hl 7 rfl) ?_
  refine lv_iconst (v := 0) hx hb dL_would_235 (by decide) ?_
  refine lv_aload_n hx hb dL_would_236 rfl (lv_at hl 1 rfl) ?_
  refine lv_iload hx hb dL_would_237 (lv_at hl 5 rfl) ?_
  obtain ⟨h_20, hf⟩ := gd_e hf
  refine s_iald 60 hx hb hK hM h1 (by decide) h_20 dL_would_239 ?_
  obtain ⟨h_21, hf⟩ := gd_e hf
  obtain ⟨M22, eM22, hf⟩ := nb_e hf
  refine s_iast 2 hx hb hK hM hS h10 (by decide) (ky_b hG h10) h_21 dL_would_240 (fun H locs hM hS => ?_)
  rw [eM22] at hM
  refine lv_aload hx hb dL_would_241 (lv_at hl 7 rfl) ?_
  refine lv_iconst (v := 1) hx hb dL_would_243 (by decide) ?_
  refine lv_aload_n hx hb dL_would_244 rfl (lv_at hl 1 rfl) ?_
  refine lv_iload hx hb dL_would_245 (lv_at hl 5 rfl) ?_
  refine lv_iconst (v := 1) hx hb dL_would_247 (by decide) ?_
  refine lv_iadd hx hb dL_would_248 ?_
  obtain ⟨h_23, hf⟩ := gd_e hf
  refine s_iald 60 hx hb hK hM h1 (by decide) h_23 dL_would_249 ?_
  obtain ⟨h_24, hf⟩ := gd_e hf
  obtain ⟨M25, eM25, hf⟩ := nb_e hf
  refine s_iast 2 hx hb hK hM hS h10 (by decide) (ky_b hG h10) h_24 dL_would_250 (fun H locs hM hS => ?_)
  rw [eM25] at hM
  refine lv_iconst (v := 0) hx hb dL_would_251 (by decide) ?_
  refine lv_istore (lv' := [(11, .int 0), (0, .ref a0), (1, .ref a1), (2, .int p2), (4, .int p4), (5, .int p5), (6, .int p6), (9, .int p9), (10, .ref a10)]) hx hb dL_would_252 hl (by decide) rfl (fun ls hl => ?_)
  exact b254 _ 0 _ H locs ls hM hS (lv_sub hl [1, 2, 3, 4, 5, 6, 7, 8, 0] rfl) hf
def f_slaw1_b194 (a1 : Nat) (a2 : Nat) (a3 : Nat) (a4 : Nat) (a5 : Nat) (a6 : Nat) (a7 : Nat) (p9 : Int32) (xs : Nat → Int32) (L : Nat) (x10 : Int32) (x11 : Int32) (qs0 : Nat) (qs1 : Nat) (qs2 : Nat) (qs3 : Nat) (qs4 : Nat) (M : Mem) : Option (Int32 × Int32 × Mem) := cb (f_L_isVoice qs4 qs3 qs2 qs1 qs0 x11 M) fun r2 M3 => gd (¬ (r2 = 0)) <| some (x10, x11, M3)
def f_slaw1_b154 (a1 : Nat) (a2 : Nat) (a3 : Nat) (a4 : Nat) (a5 : Nat) (a6 : Nat) (a7 : Nat) (p9 : Int32) (xs : Nat → Int32) (L : Nat) (x10 : Int32) (x11 : Int32) (x12 : Int32) (qs0 : Nat) (qs1 : Nat) (qs2 : Nat) (qs3 : Nat) (qs4 : Nat) (M : Mem) : Option (Int32 × Int32 × Mem) := cb (f_L_acts qs4 qs3 qs2 qs1 qs0 x11 x12 x10 M) fun r6 M7 => gd (¬ (r6 = 0)) <| if x11 = 0 then (f_slaw1_b194 a1 a2 a3 a4 a5 a6 a7 p9 xs L x10 x11 a5 a4 a3 a2 a1 M7) else (if x11 = (1 : Int32) then (f_slaw1_b194 a1 a2 a3 a4 a5 a6 a7 p9 xs L x10 x11 a6 a4 a3 a2 a1 M7) else (f_slaw1_b194 a1 a2 a3 a4 a5 a6 a7 p9 xs L x10 x11 a7 a4 a3 a2 a1 M7))
def f_slaw1_b124 (a1 : Nat) (a2 : Nat) (a3 : Nat) (a4 : Nat) (a5 : Nat) (a6 : Nat) (a7 : Nat) (p9 : Int32) (xs : Nat → Int32) (L : Nat) (x10 : Int32) (x11 : Int32) (xs0 : Int32) (M : Mem) : Option (Int32 × Int32 × Mem) := if x11 = 0 then (f_slaw1_b154 a1 a2 a3 a4 a5 a6 a7 p9 xs L x10 x11 xs0 a5 a4 a3 a2 a1 M) else (if x11 = (1 : Int32) then (f_slaw1_b154 a1 a2 a3 a4 a5 a6 a7 p9 xs L x10 x11 xs0 a6 a4 a3 a2 a1 M) else (f_slaw1_b154 a1 a2 a3 a4 a5 a6 a7 p9 xs L x10 x11 xs0 a7 a4 a3 a2 a1 M))
def f_slaw1 (a1 : Nat) (a2 : Nat) (a3 : Nat) (a4 : Nat) (a5 : Nat) (a6 : Nat) (a7 : Nat) (p9 : Int32) (xs : Nat → Int32) (L : Nat) (M : Mem) : Option (Int32 × Int32 × Mem) := gd (0 ≤ p9) <| nb (cellv xs L p9) fun y15 => vb (f_L_low (y15 >>> ((19 : Int32) &&& 31)) 4 M) fun r17 => nb (r17 - r17 / 3 * 3) fun y18 => if (6 : Int32) ≤ p9 then (vb (f_L_low (y15 >>> ((21 : Int32) &&& 31)) 16 M) fun r21 => f_slaw1_b124 a1 a2 a3 a4 a5 a6 a7 p9 xs L y15 y18 r21 M) else (f_slaw1_b124 a1 a2 a3 a4 a5 a6 a7 p9 xs L y15 y18 9 M)
set_option maxHeartbeats 4000000 in
set_option maxRecDepth 100000 in
theorem k_slaw1 {p : Program} {e : Env} {s : State} {m : MethodId} {args : Array Value} {below : List Frame} {meth : Method} {c : Code} {Q : State → Prop} {C S : Nat} (G : Gt) (hG : gOK G) {a0 L : Nat} {xs : Nat → Int32} (hX0 : gX G a0 L xs) (l : Launch) (hx : p.tables.exec = Jvm.exec) (hb : c.code = cL_law) (hml : c.maxLocals = 16) (hown : s.vm.findClass "FoldedVoicesLaw" = some m.cls) (hts : KK s) (hV : (gS G).vm.Alike s.vm) (a1 : Nat) (h1 : gK G a1 = 9) (a2 : Nat) (h2 : gK G a2 = 1060) (a3 : Nat) (h3 : gK G a3 = 1014) (a4 : Nat) (h4 : gK G a4 = 1024) (a5 : Nat) (h5 : gK G a5 = 1064) (a6 : Nat) (h6 : gK G a6 = 1064) (a7 : Nat) (h7 : gK G a7 = 1064) (p9 : Int32) (M : Mem) {o10 : Int32} {o11 : Int32} {M' : Mem} (hf : f_slaw1 a1 a2 a3 a4 a5 a6 a7 p9 xs L M = some (o10, o11, M')) (hc0 : C ≤ (room_1).cells ∧ S ≤ (room_1).slots) (hk : ∀ (H : Heap) (locs : List Loc) (ls : Array Slot), Mh G M' H → va_S (gA G) s.heap H locs → lv_has ls 16 [(0, .ref a0), (1, .ref a1), (2, .ref a2), (3, .ref a3), (4, .ref a4), (5, .ref a5), (6, .ref a6), (7, .ref a7), (9, .int p9), (10, .int o10), (11, .int o11)] → W p l e room_1 s m args below meth c H locs C S Q (F0 m 202 ls [])) : ∀ (H : Heap) (locs : List Loc) (ls : Array Slot), Mh G M H → va_S (gA G) s.heap H locs → lv_has ls 16 [(0, .ref a0), (1, .ref a1), (2, .ref a2), (3, .ref a3), (4, .ref a4), (5, .ref a5), (6, .ref a6), (7, .ref a7), (9, .int p9)] → W p l e room_1 s m args below meth c H locs C S Q (F0 m 81 ls []) := by
  have hK := hG.1.moved hV
  have b194 : ∀ (x10 : Int32) (x11 : Int32) (qs0 : Nat) (qs1 : Nat) (qs2 : Nat) (qs3 : Nat) (qs4 : Nat) (M : Mem) (H : Heap) (locs : List Loc) (ls : Array Slot), gK G qs0 = 1064 → gK G qs1 = 1024 → gK G qs2 = 1014 → gK G qs3 = 1060 → gK G qs4 = 9 → Mh G M H → va_S (gA G) s.heap H locs → lv_has ls 16 [(0, .ref a0), (1, .ref a1), (2, .ref a2), (3, .ref a3), (4, .ref a4), (5, .ref a5), (6, .ref a6), (7, .ref a7), (9, .int p9), (10, .int x10), (11, .int x11)] → f_slaw1_b194 a1 a2 a3 a4 a5 a6 a7 p9 xs L x10 x11 qs0 qs1 qs2 qs3 qs4 M = some (o10, o11, M') → W p l e room_1 s m args below meth c H locs C S Q (F0 m 194 ls [.ref qs0, .ref qs1, .ref qs2, .ref qs3, .ref qs4]) := by
    intro x10 x11 qs0 qs1 qs2 qs3 qs4 M H locs ls h_qs0 h_qs1 h_qs2 h_qs3 h_qs4 hM hS hl hf
    rw [f_slaw1_b194] at hf
    refine lv_iload hx hb dL_law_194 (lv_at hl 10 rfl) ?_
    obtain ⟨r2, M3, e_1, hf⟩ := cb_e hf
    refine c_Si hx hb hml hown hts hV hM hS (As := [.ref qs4, .ref qs3, .ref qs2, .ref qs1, .ref qs0, .int x11]) (rest := []) (k_L_isVoice G hG l qs4 h_qs4 qs3 h_qs3 qs2 h_qs2 qs1 h_qs1 qs0 h_qs0 x11 M e_1) w_L_isVoice (tk_299 hts) ⟨⟨rfl, rfl⟩, Nat.le_of_ble_eq_true rfl, Nat.le_of_ble_eq_true rfl⟩ hc0 rfl hl.1 rfl (Nat.le_of_ble_eq_true rfl) dL_law_196 (fun H locs hM hS => ?_)
    obtain ⟨h_4, hf⟩ := gd_e hf
    refine lv_if_eq (tgt := 220) hx hb dL_law_199 (by decide) (fun g => absurd g h_4) (fun _ => ?_)
    cases hf
    exact hk H locs ls hM hS (lv_sub hl [0, 1, 2, 3, 4, 5, 6, 7, 8, 9, 10] rfl)
  have b154 : ∀ (x10 : Int32) (x11 : Int32) (x12 : Int32) (qs0 : Nat) (qs1 : Nat) (qs2 : Nat) (qs3 : Nat) (qs4 : Nat) (M : Mem) (H : Heap) (locs : List Loc) (ls : Array Slot), gK G qs0 = 1064 → gK G qs1 = 1024 → gK G qs2 = 1014 → gK G qs3 = 1060 → gK G qs4 = 9 → Mh G M H → va_S (gA G) s.heap H locs → lv_has ls 16 [(0, .ref a0), (1, .ref a1), (2, .ref a2), (3, .ref a3), (4, .ref a4), (5, .ref a5), (6, .ref a6), (7, .ref a7), (9, .int p9), (10, .int x10), (11, .int x11), (12, .int x12)] → f_slaw1_b154 a1 a2 a3 a4 a5 a6 a7 p9 xs L x10 x11 x12 qs0 qs1 qs2 qs3 qs4 M = some (o10, o11, M') → W p l e room_1 s m args below meth c H locs C S Q (F0 m 154 ls [.ref qs0, .ref qs1, .ref qs2, .ref qs3, .ref qs4]) := by
    intro x10 x11 x12 qs0 qs1 qs2 qs3 qs4 M H locs ls h_qs0 h_qs1 h_qs2 h_qs3 h_qs4 hM hS hl hf
    rw [f_slaw1_b154] at hf
    refine lv_iload hx hb dL_law_154 (lv_at hl 10 rfl) ?_
    refine lv_iload hx hb dL_law_156 (lv_at hl 11 rfl) ?_
    refine lv_iload hx hb dL_law_158 (lv_at hl 9 rfl) ?_
    obtain ⟨r6, M7, e_5, hf⟩ := cb_e hf
    refine c_Si hx hb hml hown hts hV hM hS (As := [.ref qs4, .ref qs3, .ref qs2, .ref qs1, .ref qs0, .int x11, .int x12, .int x10]) (rest := []) (k_L_acts G hG l qs4 h_qs4 qs3 h_qs3 qs2 h_qs2 qs1 h_qs1 qs0 h_qs0 x11 x12 x10 M e_5) w_L_acts (tk_644 hts) ⟨⟨rfl, rfl⟩, Nat.le_of_ble_eq_true rfl, Nat.le_of_ble_eq_true rfl⟩ hc0 rfl hl.1 rfl (Nat.le_of_ble_eq_true rfl) dL_law_160 (fun H locs hM hS => ?_)
    obtain ⟨h_8, hf⟩ := gd_e hf
    refine lv_if_eq (tgt := 220) hx hb dL_law_163 (by decide) (fun g => absurd g h_8) (fun _ => ?_)
    refine lv_aload_n hx hb dL_law_166 rfl (lv_at hl 1 rfl) ?_
    refine lv_aload_n hx hb dL_law_167 rfl (lv_at hl 2 rfl) ?_
    refine lv_aload_n hx hb dL_law_168 rfl (lv_at hl 3 rfl) ?_
    refine lv_aload hx hb dL_law_169 (lv_at hl 4 rfl) ?_
    refine lv_iload hx hb dL_law_171 (lv_at hl 10 rfl) ?_
    refine lv_if_ne (tgt := 181) hx hb dL_law_173 (by decide) (fun g_9 => ?_) (fun g_9 => ?_)
    · rw [if_neg g_9] at hf
      refine lv_iload hx hb dL_law_181 (lv_at hl 10 rfl) ?_
      refine lv_iconst (v := 1) hx hb dL_law_183 (by decide) ?_
      refine lv_icmp_ne (tgt := 192) hx hb dL_law_184 (by decide) (fun g_10 => ?_) (fun g_10 => ?_)
      · rw [if_neg g_10] at hf
        refine lv_aload hx hb dL_law_192 (lv_at hl 7 rfl) ?_
        exact b194 x10 x11 a7 a4 a3 a2 a1 _ H locs ls h7 h4 h3 h2 h1 hM hS (lv_sub hl [0, 1, 2, 3, 4, 5, 6, 7, 8, 9, 10] rfl) hf
      · rw [if_pos g_10] at hf
        refine lv_aload hx hb dL_law_187 (lv_at hl 6 rfl) ?_
        refine lv_goto (tgt := 194) hx hb dL_law_189 (by decide) ?_
        exact b194 x10 x11 a6 a4 a3 a2 a1 _ H locs ls h6 h4 h3 h2 h1 hM hS (lv_sub hl [0, 1, 2, 3, 4, 5, 6, 7, 8, 9, 10] rfl) hf
    · rw [if_pos g_9] at hf
      refine lv_aload hx hb dL_law_176 (lv_at hl 5 rfl) ?_
      refine lv_goto (tgt := 194) hx hb dL_law_178 (by decide) ?_
      exact b194 x10 x11 a5 a4 a3 a2 a1 _ H locs ls h5 h4 h3 h2 h1 hM hS (lv_sub hl [0, 1, 2, 3, 4, 5, 6, 7, 8, 9, 10] rfl) hf
  have b124 : ∀ (x10 : Int32) (x11 : Int32) (xs0 : Int32) (M : Mem) (H : Heap) (locs : List Loc) (ls : Array Slot), Mh G M H → va_S (gA G) s.heap H locs → lv_has ls 16 [(0, .ref a0), (1, .ref a1), (2, .ref a2), (3, .ref a3), (4, .ref a4), (5, .ref a5), (6, .ref a6), (7, .ref a7), (9, .int p9), (10, .int x10), (11, .int x11)] → f_slaw1_b124 a1 a2 a3 a4 a5 a6 a7 p9 xs L x10 x11 xs0 M = some (o10, o11, M') → W p l e room_1 s m args below meth c H locs C S Q (F0 m 124 ls [.int xs0]) := by
    intro x10 x11 xs0 M H locs ls hM hS hl hf
    rw [f_slaw1_b124] at hf
    refine lv_istore (lv' := [(12, .int xs0), (0, .ref a0), (1, .ref a1), (2, .ref a2), (3, .ref a3), (4, .ref a4), (5, .ref a5), (6, .ref a6), (7, .ref a7), (9, .int p9), (10, .int x10), (11, .int x11)]) hx hb dL_law_124 hl (by decide) rfl (fun ls hl => ?_)
    refine lv_aload_n hx hb dL_law_126 rfl (lv_at hl 2 rfl) ?_
    refine lv_aload_n hx hb dL_law_127 rfl (lv_at hl 3 rfl) ?_
    refine lv_aload_n hx hb dL_law_128 rfl (lv_at hl 4 rfl) ?_
    refine lv_aload hx hb dL_law_129 (lv_at hl 5 rfl) ?_
    refine lv_iload hx hb dL_law_131 (lv_at hl 11 rfl) ?_
    refine lv_if_ne (tgt := 141) hx hb dL_law_133 (by decide) (fun g_11 => ?_) (fun g_11 => ?_)
    · rw [if_neg g_11] at hf
      refine lv_iload hx hb dL_law_141 (lv_at hl 11 rfl) ?_
      refine lv_iconst (v := 1) hx hb dL_law_143 (by decide) ?_
      refine lv_icmp_ne (tgt := 152) hx hb dL_law_144 (by decide) (fun g_12 => ?_) (fun g_12 => ?_)
      · rw [if_neg g_12] at hf
        refine lv_aload hx hb dL_law_152 (lv_at hl 8 rfl) ?_
        exact b154 x10 x11 xs0 a7 a4 a3 a2 a1 _ H locs ls h7 h4 h3 h2 h1 hM hS (lv_sub hl [1, 2, 3, 4, 5, 6, 7, 8, 9, 10, 11, 0] rfl) hf
      · rw [if_pos g_12] at hf
        refine lv_aload hx hb dL_law_147 (lv_at hl 7 rfl) ?_
        refine lv_goto (tgt := 154) hx hb dL_law_149 (by decide) ?_
        exact b154 x10 x11 xs0 a6 a4 a3 a2 a1 _ H locs ls h6 h4 h3 h2 h1 hM hS (lv_sub hl [1, 2, 3, 4, 5, 6, 7, 8, 9, 10, 11, 0] rfl) hf
    · rw [if_pos g_11] at hf
      refine lv_aload hx hb dL_law_136 (lv_at hl 6 rfl) ?_
      refine lv_goto (tgt := 154) hx hb dL_law_138 (by decide) ?_
      exact b154 x10 x11 xs0 a5 a4 a3 a2 a1 _ H locs ls h5 h4 h3 h2 h1 hM hS (lv_sub hl [1, 2, 3, 4, 5, 6, 7, 8, 9, 10, 11, 0] rfl) hf
  intro H locs ls hM hS hl
  rw [f_slaw1] at hf
  refine lv_aload_n hx hb dL_law_81 rfl (lv_at hl 0 rfl) ?_
  refine lv_iload hx hb dL_law_82 (lv_at hl 8 rfl) ?_
  obtain ⟨h_14, hf⟩ := gd_e hf
  refine c_Si hx hb hml hown hts hV hM hS (As := [.ref a0, .int p9]) (rest := []) (k_L_cell G hG hX0 l p9 M h_14) w_L_cell (tk_291 hts) ⟨⟨rfl, rfl⟩, Nat.le_of_ble_eq_true rfl, Nat.le_of_ble_eq_true rfl⟩ hc0 rfl hl.1 rfl (Nat.le_of_ble_eq_true rfl) dL_law_84 (fun H locs hM hS => ?_)
  obtain ⟨y15, ey15, hf⟩ := nb_e hf
  refine s_nm ey15 ?_
  refine lv_istore (lv' := [(10, .int y15), (0, .ref a0), (1, .ref a1), (2, .ref a2), (3, .ref a3), (4, .ref a4), (5, .ref a5), (6, .ref a6), (7, .ref a7), (9, .int p9)]) hx hb dL_law_87 hl (by decide) rfl (fun ls hl => ?_)
  refine lv_iload hx hb dL_law_89 (lv_at hl 0 rfl) ?_
  refine lv_bipush (v := 19) hx hb dL_law_91 (by decide) ?_
  refine lv_ishr hx hb dL_law_93 ?_
  refine lv_iconst (v := 4) hx hb dL_law_94 (by decide) ?_
  obtain ⟨r17, e_16, hf⟩ := vb_e hf
  refine c_Si hx hb hml hown hts hV hM hS (As := [.int (y15 >>> ((19 : Int32) &&& 31)), .int 4]) (rest := []) (k_L_low G hG l (y15 >>> ((19 : Int32) &&& 31)) 4 M e_16) w_L_low (tk_295 hts) ⟨⟨rfl, rfl⟩, Nat.le_of_ble_eq_true rfl, Nat.le_of_ble_eq_true rfl⟩ hc0 rfl hl.1 rfl (Nat.le_of_ble_eq_true rfl) dL_law_95 (fun H locs hM hS => ?_)
  refine lv_iconst (v := 3) hx hb dL_law_98 (by decide) ?_
  refine lv_irem hx hb dL_law_99 (by decide) ?_
  obtain ⟨y18, ey18, hf⟩ := nb_e hf
  refine s_nm ey18 ?_
  refine lv_istore (lv' := [(11, .int y18), (10, .int y15), (0, .ref a0), (1, .ref a1), (2, .ref a2), (3, .ref a3), (4, .ref a4), (5, .ref a5), (6, .ref a6), (7, .ref a7), (9, .int p9)]) hx hb dL_law_100 hl (by decide) rfl (fun ls hl => ?_)
  refine lv_iload hx hb dL_law_102 (lv_at hl 10 rfl) ?_
  refine lv_bipush (v := 6) hx hb dL_law_104 (by decide) ?_
  refine lv_icmp_ge (tgt := 114) hx hb dL_law_106 (by decide) (fun g_19 => ?_) (fun g_19 => ?_)
  · rw [if_pos g_19] at hf
    refine lv_iload hx hb dL_law_114 (lv_at hl 1 rfl) ?_
    refine lv_bipush (v := 21) hx hb dL_law_116 (by decide) ?_
    refine lv_ishr hx hb dL_law_118 ?_
    refine lv_bipush (v := 16) hx hb dL_law_119 (by decide) ?_
    obtain ⟨r21, e_20, hf⟩ := vb_e hf
    refine c_Si hx hb hml hown hts hV hM hS (As := [.int (y15 >>> ((21 : Int32) &&& 31)), .int 16]) (rest := []) (k_L_low G hG l (y15 >>> ((21 : Int32) &&& 31)) 16 M e_20) w_L_low (tk_295 hts) ⟨⟨rfl, rfl⟩, Nat.le_of_ble_eq_true rfl, Nat.le_of_ble_eq_true rfl⟩ hc0 rfl hl.1 rfl (Nat.le_of_ble_eq_true rfl) dL_law_121 (fun H locs hM hS => ?_)
    exact b124 y15 y18 r21 _ H locs ls hM hS (lv_sub hl [2, 3, 4, 5, 6, 7, 8, 9, 10, 1, 0] rfl) hf
  · rw [if_neg g_19] at hf
    refine lv_bipush (v := 9) hx hb dL_law_109 (by decide) ?_
    refine lv_goto (tgt := 124) hx hb dL_law_111 (by decide) ?_
    exact b124 y15 y18 9 _ H locs ls hM hS (lv_sub hl [2, 3, 4, 5, 6, 7, 8, 9, 10, 1, 0] rfl) hf
def f_slaw2_b316 (a1 : Nat) (a2 : Nat) (a3 : Nat) (a4 : Nat) (a5 : Nat) (a6 : Nat) (a7 : Nat) (p9 : Int32) (p13 : Int32) (p14 : Int32) (p15 : Int32) (xs : Nat → Int32) (L : Nat) (xs0 : Int32) (xs1 : Int32) (qs2 : Nat) (qs3 : Nat) (qs4 : Nat) (M : Mem) : Option (Int32 × Mem) := cb (f_L_areCounts qs4 qs3 qs2 (xs1 + xs0) M) fun r2 M3 => gd (¬ (r2 = 0)) <| some (1, M3)
def f_slaw2_b305 (a1 : Nat) (a2 : Nat) (a3 : Nat) (a4 : Nat) (a5 : Nat) (a6 : Nat) (a7 : Nat) (p9 : Int32) (p13 : Int32) (p14 : Int32) (p15 : Int32) (xs : Nat → Int32) (L : Nat) (xs0 : Int32) (xs1 : Int32) (qs2 : Nat) (qs3 : Nat) (qs4 : Nat) (M : Mem) : Option (Int32 × Mem) := if p15 = 0 then (f_slaw2_b316 a1 a2 a3 a4 a5 a6 a7 p9 p13 p14 p15 xs L 1 (xs1 + xs0) qs2 qs3 qs4 M) else (f_slaw2_b316 a1 a2 a3 a4 a5 a6 a7 p9 p13 p14 p15 xs L 0 (xs1 + xs0) qs2 qs3 qs4 M)
def f_slaw2_b295 (a1 : Nat) (a2 : Nat) (a3 : Nat) (a4 : Nat) (a5 : Nat) (a6 : Nat) (a7 : Nat) (p9 : Int32) (p13 : Int32) (p14 : Int32) (p15 : Int32) (xs : Nat → Int32) (L : Nat) (xs0 : Int32) (qs1 : Nat) (qs2 : Nat) (qs3 : Nat) (M : Mem) : Option (Int32 × Mem) := if p14 = 0 then (f_slaw2_b305 a1 a2 a3 a4 a5 a6 a7 p9 p13 p14 p15 xs L 1 xs0 qs1 qs2 qs3 M) else (f_slaw2_b305 a1 a2 a3 a4 a5 a6 a7 p9 p13 p14 p15 xs L 0 xs0 qs1 qs2 qs3 M)
def f_slaw2 (a1 : Nat) (a2 : Nat) (a3 : Nat) (a4 : Nat) (a5 : Nat) (a6 : Nat) (a7 : Nat) (p8 : Int32) (p9 : Int32) (p13 : Int32) (p14 : Int32) (p15 : Int32) (xs : Nat → Int32) (L : Nat) (M : Mem) : Option (Int32 × Mem) := gd (¬ (p8 = 0)) <| gd (¬ (p13 < 0)) <| gd (¬ (p14 < 0)) <| gd (¬ (p15 < 0)) <| if p13 = 0 then (f_slaw2_b295 a1 a2 a3 a4 a5 a6 a7 p9 p13 p14 p15 xs L 1 a3 a2 a1 M) else (f_slaw2_b295 a1 a2 a3 a4 a5 a6 a7 p9 p13 p14 p15 xs L 0 a3 a2 a1 M)
set_option maxHeartbeats 4000000 in
set_option maxRecDepth 100000 in
theorem k_slaw2 {p : Program} {e : Env} {s : State} {m : MethodId} {args : Array Value} {below : List Frame} {meth : Method} {c : Code} {Q : State → Prop} {C S : Nat} (G : Gt) (hG : gOK G) {a0 L : Nat} {xs : Nat → Int32} (hX0 : gX G a0 L xs) (l : Launch) (hx : p.tables.exec = Jvm.exec) (hb : c.code = cL_law) (hml : c.maxLocals = 16) (hown : s.vm.findClass "FoldedVoicesLaw" = some m.cls) (hts : KK s) (hV : (gS G).vm.Alike s.vm) (a1 : Nat) (h1 : gK G a1 = 9) (a2 : Nat) (h2 : gK G a2 = 1060) (a3 : Nat) (h3 : gK G a3 = 1014) (a4 : Nat) (h4 : gK G a4 = 1024) (a5 : Nat) (h5 : gK G a5 = 1064) (a6 : Nat) (h6 : gK G a6 = 1064) (a7 : Nat) (h7 : gK G a7 = 1064) (p8 : Int32) (p9 : Int32) (p13 : Int32) (p14 : Int32) (p15 : Int32) (M : Mem) {o8 : Int32} {M' : Mem} (hf : f_slaw2 a1 a2 a3 a4 a5 a6 a7 p8 p9 p13 p14 p15 xs L M = some (o8, M')) (hc0 : C ≤ (room_1).cells ∧ S ≤ (room_1).slots) (hk : ∀ (H : Heap) (locs : List Loc) (ls : Array Slot), Mh G M' H → va_S (gA G) s.heap H locs → lv_has ls 16 [(0, .ref a0), (1, .ref a1), (2, .ref a2), (3, .ref a3), (4, .ref a4), (5, .ref a5), (6, .ref a6), (7, .ref a7), (9, .int p9), (13, .int p13), (14, .int p14), (15, .int p15), (8, .int o8)] → W p l e room_1 s m args below meth c H locs C S Q (F0 m 330 ls [])) : ∀ (H : Heap) (locs : List Loc) (ls : Array Slot), Mh G M H → va_S (gA G) s.heap H locs → lv_has ls 16 [(0, .ref a0), (1, .ref a1), (2, .ref a2), (3, .ref a3), (4, .ref a4), (5, .ref a5), (6, .ref a6), (7, .ref a7), (8, .int p8), (9, .int p9), (13, .int p13), (14, .int p14), (15, .int p15)] → W p l e room_1 s m args below meth c H locs C S Q (F0 m 262 ls []) := by
  have hK := hG.1.moved hV
  have b316 : ∀ (xs0 : Int32) (xs1 : Int32) (qs2 : Nat) (qs3 : Nat) (qs4 : Nat) (M : Mem) (H : Heap) (locs : List Loc) (ls : Array Slot), gK G qs2 = 1014 → gK G qs3 = 1060 → gK G qs4 = 9 → Mh G M H → va_S (gA G) s.heap H locs → lv_has ls 16 [(0, .ref a0), (1, .ref a1), (2, .ref a2), (3, .ref a3), (4, .ref a4), (5, .ref a5), (6, .ref a6), (7, .ref a7), (9, .int p9), (13, .int p13), (14, .int p14), (15, .int p15)] → f_slaw2_b316 a1 a2 a3 a4 a5 a6 a7 p9 p13 p14 p15 xs L xs0 xs1 qs2 qs3 qs4 M = some (o8, M') → W p l e room_1 s m args below meth c H locs C S Q (F0 m 316 ls [.int xs0, .int xs1, .ref qs2, .ref qs3, .ref qs4]) := by
    intro xs0 xs1 qs2 qs3 qs4 M H locs ls h_qs2 h_qs3 h_qs4 hM hS hl hf
    rw [f_slaw2_b316] at hf
    refine lv_iadd hx hb dL_law_316 ?_
    obtain ⟨r2, M3, e_1, hf⟩ := cb_e hf
    refine c_Si hx hb hml hown hts hV hM hS (As := [.ref qs4, .ref qs3, .ref qs2, .int (xs1 + xs0)]) (rest := []) (k_L_areCounts G hG l qs4 h_qs4 qs3 h_qs3 qs2 h_qs2 (xs1 + xs0) M e_1) w_L_areCounts (tk_567 hts) ⟨⟨rfl, rfl⟩, Nat.le_of_ble_eq_true rfl, Nat.le_of_ble_eq_true rfl⟩ hc0 rfl hl.1 rfl (Nat.le_of_ble_eq_true rfl) dL_law_317 (fun H locs hM hS => ?_)
    obtain ⟨h_4, hf⟩ := gd_e hf
    refine lv_if_eq (tgt := 327) hx hb dL_law_320 (by decide) (fun g => absurd g h_4) (fun _ => ?_)
    refine lv_iconst (v := 1) hx hb dL_law_323 (by decide) ?_
    refine lv_goto (tgt := 328) hx hb dL_law_324 (by decide) ?_
    refine lv_istore (lv' := [(8, .int 1), (0, .ref a0), (1, .ref a1), (2, .ref a2), (3, .ref a3), (4, .ref a4), (5, .ref a5), (6, .ref a6), (7, .ref a7), (9, .int p9), (13, .int p13), (14, .int p14), (15, .int p15)]) hx hb dL_law_328 hl (by decide) rfl (fun ls hl => ?_)
    cases hf
    exact hk H locs ls hM hS (lv_sub hl [1, 2, 3, 4, 5, 6, 7, 8, 9, 10, 11, 12, 0] rfl)
  have b305 : ∀ (xs0 : Int32) (xs1 : Int32) (qs2 : Nat) (qs3 : Nat) (qs4 : Nat) (M : Mem) (H : Heap) (locs : List Loc) (ls : Array Slot), gK G qs2 = 1014 → gK G qs3 = 1060 → gK G qs4 = 9 → Mh G M H → va_S (gA G) s.heap H locs → lv_has ls 16 [(0, .ref a0), (1, .ref a1), (2, .ref a2), (3, .ref a3), (4, .ref a4), (5, .ref a5), (6, .ref a6), (7, .ref a7), (9, .int p9), (13, .int p13), (14, .int p14), (15, .int p15)] → f_slaw2_b305 a1 a2 a3 a4 a5 a6 a7 p9 p13 p14 p15 xs L xs0 xs1 qs2 qs3 qs4 M = some (o8, M') → W p l e room_1 s m args below meth c H locs C S Q (F0 m 305 ls [.int xs0, .int xs1, .ref qs2, .ref qs3, .ref qs4]) := by
    intro xs0 xs1 qs2 qs3 qs4 M H locs ls h_qs2 h_qs3 h_qs4 hM hS hl hf
    rw [f_slaw2_b305] at hf
    refine lv_iadd hx hb dL_law_305 ?_
    refine lv_iload hx hb dL_law_306 (lv_at hl 11 rfl) ?_
    refine lv_if_ne (tgt := 315) hx hb dL_law_308 (by decide) (fun g_5 => ?_) (fun g_5 => ?_)
    · rw [if_neg g_5] at hf
      refine lv_iconst (v := 0) hx hb dL_law_315 (by decide) ?_
      exact b316 0 (xs1 + xs0) qs2 qs3 qs4 _ H locs ls h_qs2 h_qs3 h_qs4 hM hS (lv_sub hl [0, 1, 2, 3, 4, 5, 6, 7, 8, 9, 10, 11] rfl) hf
    · rw [if_pos g_5] at hf
      refine lv_iconst (v := 1) hx hb dL_law_311 (by decide) ?_
      refine lv_goto (tgt := 316) hx hb dL_law_312 (by decide) ?_
      exact b316 1 (xs1 + xs0) qs2 qs3 qs4 _ H locs ls h_qs2 h_qs3 h_qs4 hM hS (lv_sub hl [0, 1, 2, 3, 4, 5, 6, 7, 8, 9, 10, 11] rfl) hf
  have b295 : ∀ (xs0 : Int32) (qs1 : Nat) (qs2 : Nat) (qs3 : Nat) (M : Mem) (H : Heap) (locs : List Loc) (ls : Array Slot), gK G qs1 = 1014 → gK G qs2 = 1060 → gK G qs3 = 9 → Mh G M H → va_S (gA G) s.heap H locs → lv_has ls 16 [(0, .ref a0), (1, .ref a1), (2, .ref a2), (3, .ref a3), (4, .ref a4), (5, .ref a5), (6, .ref a6), (7, .ref a7), (9, .int p9), (13, .int p13), (14, .int p14), (15, .int p15)] → f_slaw2_b295 a1 a2 a3 a4 a5 a6 a7 p9 p13 p14 p15 xs L xs0 qs1 qs2 qs3 M = some (o8, M') → W p l e room_1 s m args below meth c H locs C S Q (F0 m 295 ls [.int xs0, .ref qs1, .ref qs2, .ref qs3]) := by
    intro xs0 qs1 qs2 qs3 M H locs ls h_qs1 h_qs2 h_qs3 hM hS hl hf
    rw [f_slaw2_b295] at hf
    refine lv_iload hx hb dL_law_295 (lv_at hl 10 rfl) ?_
    refine lv_if_ne (tgt := 304) hx hb dL_law_297 (by decide) (fun g_6 => ?_) (fun g_6 => ?_)
    · rw [if_neg g_6] at hf
      refine lv_iconst (v := 0) hx hb dL_law_304 (by decide) ?_
      exact b305 0 xs0 qs1 qs2 qs3 _ H locs ls h_qs1 h_qs2 h_qs3 hM hS (lv_sub hl [0, 1, 2, 3, 4, 5, 6, 7, 8, 9, 10, 11] rfl) hf
    · rw [if_pos g_6] at hf
      refine lv_iconst (v := 1) hx hb dL_law_300 (by decide) ?_
      refine lv_goto (tgt := 305) hx hb dL_law_301 (by decide) ?_
      exact b305 1 xs0 qs1 qs2 qs3 _ H locs ls h_qs1 h_qs2 h_qs3 hM hS (lv_sub hl [0, 1, 2, 3, 4, 5, 6, 7, 8, 9, 10, 11] rfl) hf
  intro H locs ls hM hS hl
  rw [f_slaw2] at hf
  refine lv_iload hx hb dL_law_262 (lv_at hl 8 rfl) ?_
  obtain ⟨h_7, hf⟩ := gd_e hf
  refine lv_if_eq (tgt := 327) hx hb dL_law_264 (by decide) (fun g => absurd g h_7) (fun _ => ?_)
  refine lv_iload hx hb dL_law_267 (lv_at hl 10 rfl) ?_
  obtain ⟨h_8, hf⟩ := gd_e hf
  refine lv_if_lt (tgt := 327) hx hb dL_law_269 (by decide) (fun g => absurd g h_8) (fun _ => ?_)
  refine lv_iload hx hb dL_law_272 (lv_at hl 11 rfl) ?_
  obtain ⟨h_9, hf⟩ := gd_e hf
  refine lv_if_lt (tgt := 327) hx hb dL_law_274 (by decide) (fun g => absurd g h_9) (fun _ => ?_)
  refine lv_iload hx hb dL_law_277 (lv_at hl 12 rfl) ?_
  obtain ⟨h_10, hf⟩ := gd_e hf
  refine lv_if_lt (tgt := 327) hx hb dL_law_279 (by decide) (fun g => absurd g h_10) (fun _ => ?_)
  refine lv_aload_n hx hb dL_law_282 rfl (lv_at hl 1 rfl) ?_
  refine lv_aload_n hx hb dL_law_283 rfl (lv_at hl 2 rfl) ?_
  refine lv_aload_n hx hb dL_law_284 rfl (lv_at hl 3 rfl) ?_
  refine lv_iload hx hb dL_law_285 (lv_at hl 10 rfl) ?_
  refine lv_if_ne (tgt := 294) hx hb dL_law_287 (by decide) (fun g_11 => ?_) (fun g_11 => ?_)
  · rw [if_neg g_11] at hf
    refine lv_iconst (v := 0) hx hb dL_law_294 (by decide) ?_
    exact b295 0 a3 a2 a1 _ H locs ls h3 h2 h1 hM hS (lv_sub hl [0, 1, 2, 3, 4, 5, 6, 7, 9, 10, 11, 12] rfl) hf
  · rw [if_pos g_11] at hf
    refine lv_iconst (v := 1) hx hb dL_law_290 (by decide) ?_
    refine lv_goto (tgt := 295) hx hb dL_law_291 (by decide) ?_
    exact b295 1 a3 a2 a1 _ H locs ls h3 h2 h1 hM hS (lv_sub hl [0, 1, 2, 3, 4, 5, 6, 7, 9, 10, 11, 12] rfl) hf
