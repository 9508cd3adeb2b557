/-! the cases of the law -/
section LAWC
variable {p : Program} {l : Launch} {e : Env} {R : Room} {s : State} {m : MethodId} {args : Array Value} {below : List Frame} {meth : Method} {c : Code} {H : Heap} {locs : List Loc} {cells slots : Nat} {Q : State → Prop} {cc : ByteArray} {pc nL : Nat} {ls : Array Slot} {rest st0 : List Value} {G : Gt} {M M1 : Mem} {y : MethodName} {bytes : ByteArray} {maxL n idx : Nat} {rm : Room} {As : List Value} {own : String} {H0 : Heap} {hh : List (Nat × Nat × Nat × Nat)} {r : Int32}
theorem c_W (hx : p.tables.exec = Jvm.exec) (hb : c.code = cc) (hml : c.maxLocals = nL) (hown : s.vm.findClass own = some m.cls) (hts : KK s) (hV : (gS G).vm.Alike s.vm) (hM : Mh G M H) (hS : va_S (gA G) H0 H locs) (hk : Kw G l y bytes maxL hh rm As M r M1) (w : pkgW y bytes maxL hh n) (hl : (Cond.methodLink own idx y).before args s = true)
    (hrm : (rm.cells = 1 ∧ rm.slots = 6) ∧ rm.frames + 1 ≤ R.frames ∧ 8 + (maxL + 11) + rm.locals ≤ R.locals) (hcs : cells + 1 ≤ R.cells ∧ slots + 6 ≤ R.slots) (hn : As.length = n) (hsz : ls.size = nL) (hst : st0 = As.reverse ++ rest) (hW : (rest.map fun v => v.category).sum ≤ 8) (hdg : decode cc pc = .ok (.invokestatic idx, 3))
    (kk : ∀ (H1 : Heap) (locs1 : List Loc), Mh G M1 H1 → va_S (gA G) H0 H1 locs1 → W p l e R s m args below meth c H1 locs1 (cells + 1) (slots + 6) Q (F0 m (pc + 3) ls (.int r :: rest))) : W p l e R s m args below meth c H locs cells slots Q (F0 m pc ls st0) := by
  obtain ⟨⟨w1, w2⟩, w3, w5, w6⟩ := w
  have hcw : vx_CSW R s args own idx y bytes maxL (some .int) hh [.codeWith y bytes maxL (some .int) hh] rm 1 6 n := by
    refine ⟨⟨hrm.1.1, hrm.1.2, hrm.2.1, hrm.2.2, fun w' h a' U hW => ?_, List.mem_singleton.mpr rfl⟩, hts.1 _ w1 rfl _, hts.1 _ w2 rfl _, w5, fun sig h => ?_, hl, hts.1 _ w3 rfl _⟩
    · rw [List.mem_singleton.mp h]
      exact tw_moves (a := #[]) hW rfl (hts.1 _ w1 rfl #[])
    · rw [h] at w6
      exact (Option.some.inj w6).symm
  have hr := vx_runSW (e := e) (below := below) (meth := meth) (cells := cells) (slots := slots) (locs := locs) (g := F0 m pc ls st0) (rest := rest) (Ts := []) ⟨hx, hb, hml, hown, fun _ h => absurd h List.not_mem_nil⟩ hk hcw ⟨pre_blind, fun U hU hW1 => ⟨rfl, hts.moves hW1, ⟨hV.trans hW1.alike, by rw [hU]; exact hM⟩⟩⟩ rfl hn hsz hst (lv_room hW) hdg hcs
  intro T hT X
  obtain ⟨v, st₀, t, T', L, h0, X', hL, e1, e2, ⟨hv, hM1, hz, hk1⟩, st⟩ := hr T hT X
  cases hv
  rw [h0] at hz hk1
  obtain ⟨t2, a1, b1⟩ := kk T'.heap (locs ++ L) (by rw [e1]; exact hM1)
    ⟨Nat.le_trans hS.1 (by rw [e1]; exact hz), fun q h1 h2 => by rw [e1, hk1 q (Nat.lt_of_lt_of_le h1 hS.1) h2]; exact hS.2.1 q h1 h2, fun q hq => by
      rcases List.mem_append.mp hq with h | h
      · exact hS.2.2 q h
      · exact hL q h⟩ T' rfl X'
  exact ⟨t2, st t2 a1, b1⟩
end LAWC
def f_law_0 (x mo o d : Nat) (xs : Nat → Int32) (L : Nat) (x5 : Int32) (M : Mem) : Option Mem := gd (ix (x5 + 1) L) <| gd (ix (x5 + 2) L) <| cb (f_L_say x (xs (x5 + 1).toNatClampNeg) (xs (x5 + 2).toNatClampNeg) o M) fun r4 M5 => gd (ix (x5 + 1) L) <| gd (ix (x5 + 2) L) <| cb (f_X9_say mo (xs (x5 + 1).toNatClampNeg) (xs (x5 + 2).toNatClampNeg) M5) fun r9 M10 => vb (f_X9_thrown mo M10) fun r12 => if r12 = r4 then (if r4 = 0 then (gd (ix 0 1) <| if (lg_cmp (mJ M10 o) r9.toInt64) = 0 then (some M10) else (none)) else (some M10)) else (none)
set_option maxHeartbeats 4000000 in
set_option maxRecDepth 100000 in
theorem law_c0 {p : Program} {e : Env} {s : State} {m : MethodId} {below : List Frame} {meth : Method} {c : Code} {b L : Nat} {xs : Nat → Int32} {Q : State → Prop} {C S : Nat} (G : Gt) (hG : gOK G) (hN0 : gNc G) (l : Launch) (hfl : l.stackTraces = false) (hx : p.tables.exec = Jvm.exec) (hb : c.code = cL_law) (hml : c.maxLocals = 10) (hown : s.vm.findClass "FoldedVoicesLaw" = some m.cls) (hts : KK s) (hV : (gS G).vm.Alike s.vm) (hX : va_X b L xs s s.heap) (hbl : b < s.heap.size) (hbA : ¬ gA G b) (x mo o d : Nat) (h1 : gK G x = 9) (h2 : gK G mo = 10) (h3 : gK G o = 9001) (h4 : gK G d = 10001) (x5 : Int32) (hc0 : C ≤ room_1.cells ∧ S ≤ room_1.slots) (hc1 : C + 1 ≤ room_1.cells ∧ S + 6 ≤ room_1.slots) {M M' : Mem} (hf : f_law_0 x mo o d xs L x5 M = some M') (hk : ∀ (H : Heap) (locs : List Loc) (ls : Array Slot), Mh G M' H → va_S (gA G) s.heap H locs → lv_has ls 10 [(0, .ref b), (1, .ref x), (2, .ref mo), (3, .ref o), (4, .ref d), (5, .int x5)] → W p l e room_1 s m #[Value.ref b] below meth c H locs (C + 1) (S + 6) Q (F0 m 1493 ls [])) : ∀ (H : Heap) (locs : List Loc) (ls : Array Slot), Mh G M H → va_S (gA G) s.heap H locs → lv_has ls 10 [(0, .ref b), (1, .ref x), (2, .ref mo), (3, .ref o), (4, .ref d), (5, .int x5)] → W p l e room_1 s m #[Value.ref b] below meth c H locs C S Q (F0 m 160 ls []) := by
  intro H locs ls hM hS hl
  have hK := hG.1.moved hV
  rw [f_law_0] at hf
  refine lv_aload_n hx hb dL_law_160 rfl (lv_at hl 1 rfl) ?_
  refine lv_aload_n hx hb dL_law_161 rfl (lv_at hl 0 rfl) ?_
  refine lv_iload hx hb dL_law_162 (lv_at hl 5 rfl) ?_
  refine lv_iconst (v := 1) hx hb dL_law_164 (by decide) ?_
  refine lv_iadd hx hb dL_law_165 ?_
  obtain ⟨h_1, hf⟩ := gd_e hf
  refine va_sld hx hb hX hbl hbA hS h_1 dL_law_166 ?_
  refine lv_aload_n hx hb dL_law_167 rfl (lv_at hl 0 rfl) ?_
  refine lv_iload hx hb dL_law_168 (lv_at hl 5 rfl) ?_
  refine lv_iconst (v := 2) hx hb dL_law_170 (by decide) ?_
  refine lv_iadd hx hb dL_law_171 ?_
  obtain ⟨h_2, hf⟩ := gd_e hf
  refine va_sld hx hb hX hbl hbA hS h_2 dL_law_172 ?_
  refine lv_aload_n hx hb dL_law_173 rfl (lv_at hl 3 rfl) ?_
  obtain ⟨r4, M5, e_3, hf⟩ := cb_e hf
  refine c_W hx hb hml hown hts hV hM hS (As := [.ref x, .int (xs (x5 + 1).toNatClampNeg), .int (xs (x5 + 2).toNatClampNeg), .ref o]) (rest := []) (k_L_say G hG hN0 l hfl x h1 (xs (x5 + 1).toNatClampNeg) (xs (x5 + 2).toNatClampNeg) o h3 M e_3) w_L_say (tk_562 hts) ⟨⟨rfl, rfl⟩, Nat.le_of_ble_eq_true rfl, Nat.le_of_ble_eq_true rfl⟩ hc1 rfl hl.1 rfl (Nat.le_of_ble_eq_true rfl) dL_law_174 (fun H locs hM hS => ?_)
  refine lv_istore (lv' := [(6, .int r4), (0, .ref b), (1, .ref x), (2, .ref mo), (3, .ref o), (4, .ref d), (5, .int x5)]) hx hb dL_law_177 hl (by decide) rfl (fun ls hl => ?_)
  refine lv_aload_n hx hb dL_law_179 rfl (lv_at hl 3 rfl) ?_
  refine lv_aload_n hx hb dL_law_180 rfl (lv_at hl 1 rfl) ?_
  refine lv_iload hx hb dL_law_181 (lv_at hl 6 rfl) ?_
  refine lv_iconst (v := 1) hx hb dL_law_183 (by decide) ?_
  refine lv_iadd hx hb dL_law_184 ?_
  obtain ⟨h_6, hf⟩ := gd_e hf
  refine va_sld hx hb hX hbl hbA hS h_6 dL_law_185 ?_
  refine lv_aload_n hx hb dL_law_186 rfl (lv_at hl 1 rfl) ?_
  refine lv_iload hx hb dL_law_187 (lv_at hl 6 rfl) ?_
  refine lv_iconst (v := 2) hx hb dL_law_189 (by decide) ?_
  refine lv_iadd hx hb dL_law_190 ?_
  obtain ⟨h_7, hf⟩ := gd_e hf
  refine va_sld hx hb hX hbl hbA hS h_7 dL_law_191 ?_
  obtain ⟨r9, M10, e_8, hf⟩ := cb_e hf
  refine c_Vi hx hb hml hown hts hV hK hM hS (As := [.int (xs (x5 + 1).toNatClampNeg), .int (xs (x5 + 2).toNatClampNeg)]) (rest := []) (k_X9_say G hG l mo h2 (xs (x5 + 1).toNatClampNeg) (xs (x5 + 2).toNatClampNeg) M5 e_8) w_X9_say (tk_1016 hts) (c_10 h2) rfl rfl ⟨⟨rfl, rfl⟩, Nat.le_of_ble_eq_true rfl, Nat.le_of_ble_eq_true rfl⟩ hc1 rfl hl.1 rfl (Nat.le_of_ble_eq_true rfl) dL_law_192 (fun H locs hM hS => ?_)
  refine lv_istore (lv' := [(7, .int r9), (6, .int r4), (0, .ref b), (1, .ref x), (2, .ref mo), (3, .ref o), (4, .ref d), (5, .int x5)]) hx hb dL_law_195 hl (by decide) rfl (fun ls hl => ?_)
  refine lv_aload_n hx hb dL_law_197 rfl (lv_at hl 4 rfl) ?_
  obtain ⟨r12, e_11, hf⟩ := vb_e hf
  refine c_Vi hx hb hml hown hts hV hK hM hS (As := []) (rest := []) (k_X9_thrown G hG l mo h2 M10 e_11) w_X9_thrown (tk_1012 hts) (c_10 h2) rfl rfl ⟨⟨rfl, rfl⟩, Nat.le_of_ble_eq_true rfl, Nat.le_of_ble_eq_true rfl⟩ hc1 rfl hl.1 rfl (Nat.le_of_ble_eq_true rfl) dL_law_198 (fun H locs hM hS => ?_)
  refine lv_iload hx hb dL_law_201 (lv_at hl 1 rfl) ?_
  refine lv_icmp_eq (tgt := 208) hx hb dL_law_203 (by decide) (fun g_13 => ?_) (fun g_13 => ?_)
  · rw [if_pos g_13] at hf
    refine lv_iload hx hb dL_law_208 (lv_at hl 1 rfl) ?_
    refine lv_if_ne (tgt := 225) hx hb dL_law_210 (by decide) (fun g_14 => ?_) (fun g_14 => ?_)
    · rw [if_neg g_14] at hf
      refine lv_goto (tgt := 1493) hx hb dL_law_225 (by decide) ?_
      cases hf
      exact W.widen (by omega) (by omega) (hk H locs ls hM hS (lv_sub hl [2, 3, 4, 5, 6, 7] rfl))
    · rw [if_pos g_14] at hf
      refine lv_aload_n hx hb dL_law_213 rfl (lv_at hl 5 rfl) ?_
      refine lv_iconst (v := 0) hx hb dL_law_214 (by decide) ?_
      obtain ⟨h_15, hf⟩ := gd_e hf
      refine s_lald hx hb hK hM h3 h_15 dL_law_215 ?_
      refine lv_iload hx hb dL_law_216 (lv_at hl 0 rfl) ?_
      refine lv_i2l hx hb dL_law_218 rfl ?_
      refine W.lcmp hx hb dL_law_219 ?_
      refine lv_if_eq (tgt := 225) hx hb dL_law_220 (by decide) (fun g_16 => ?_) (fun g_16 => ?_)
      · rw [if_pos g_16] at hf
        refine lv_goto (tgt := 1493) hx hb dL_law_225 (by decide) ?_
        cases hf
        exact W.widen (by omega) (by omega) (hk H locs ls hM hS (lv_sub hl [2, 3, 4, 5, 6, 7] rfl))
      · rw [if_neg g_16] at hf
        refine lv_iconst (v := 0) hx hb dL_law_223 (by decide) ?_
        cases hf
  · rw [if_neg g_13] at hf
    refine lv_iconst (v := 0) hx hb dL_law_206 (by decide) ?_
    cases hf
def f_law_1 (x mo o d : Nat) (xs : Nat → Int32) (L : Nat) (x5 : Int32) (M : Mem) : Option Mem := gd (ix (x5 + 1) L) <| cb (f_L_flush x (xs (x5 + 1).toNatClampNeg) o M) fun r3 M4 => gd (ix (x5 + 1) L) <| cb (f_X9_flush mo (xs (x5 + 1).toNatClampNeg) M4) fun r7 M8 => vb (f_X9_thrown mo M8) fun r10 => if r10 = r3 then (if r3 = 0 then (gd (ix 0 1) <| if (lg_cmp (mJ M8 o) r7.toInt64) = 0 then (some M8) else (none)) else (some M8)) else (none)
set_option maxHeartbeats 4000000 in
set_option maxRecDepth 100000 in
theorem law_c1 {p : Program} {e : Env} {s : State} {m : MethodId} {below : List Frame} {meth : Method} {c : Code} {b L : Nat} {xs : Nat → Int32} {Q : State → Prop} {C S : Nat} (G : Gt) (hG : gOK G) (hN0 : gNc G) (l : Launch) (hfl : l.stackTraces = false) (hx : p.tables.exec = Jvm.exec) (hb : c.code = cL_law) (hml : c.maxLocals = 10) (hown : s.vm.findClass "FoldedVoicesLaw" = some m.cls) (hts : KK s) (hV : (gS G).vm.Alike s.vm) (hX : va_X b L xs s s.heap) (hbl : b < s.heap.size) (hbA : ¬ gA G b) (x mo o d : Nat) (h1 : gK G x = 9) (h2 : gK G mo = 10) (h3 : gK G o = 9001) (h4 : gK G d = 10001) (x5 : Int32) (hc0 : C ≤ room_1.cells ∧ S ≤ room_1.slots) (hc1 : C + 1 ≤ room_1.cells ∧ S + 6 ≤ room_1.slots) {M M' : Mem} (hf : f_law_1 x mo o d xs L x5 M = some M') (hk : ∀ (H : Heap) (locs : List Loc) (ls : Array Slot), Mh G M' H → va_S (gA G) s.heap H locs → lv_has ls 10 [(0, .ref b), (1, .ref x), (2, .ref mo), (3, .ref o), (4, .ref d), (5, .int x5)] → W p l e room_1 s m #[Value.ref b] below meth c H locs (C + 1) (S + 6) Q (F0 m 1493 ls [])) : ∀ (H : Heap) (locs : List Loc) (ls : Array Slot), Mh G M H → va_S (gA G) s.heap H locs → lv_has ls 10 [(0, .ref b), (1, .ref x), (2, .ref mo), (3, .ref o), (4, .ref d), (5, .int x5)] → W p l e room_1 s m #[Value.ref b] below meth c H locs C S Q (F0 m 228 ls []) := by
  intro H locs ls hM hS hl
  have hK := hG.1.moved hV
  rw [f_law_1] at hf
  refine lv_aload_n hx hb dL_law_228 rfl (lv_at hl 1 rfl) ?_
  refine lv_aload_n hx hb dL_law_229 rfl (lv_at hl 0 rfl) ?_
  refine lv_iload hx hb dL_law_230 (lv_at hl 5 rfl) ?_
  refine lv_iconst (v := 1) hx hb dL_law_232 (by decide) ?_
  refine lv_iadd hx hb dL_law_233 ?_
  obtain ⟨h_1, hf⟩ := gd_e hf
  refine va_sld hx hb hX hbl hbA hS h_1 dL_law_234 ?_
  refine lv_aload_n hx hb dL_law_235 rfl (lv_at hl 3 rfl) ?_
  obtain ⟨r3, M4, e_2, hf⟩ := cb_e hf
  refine c_W hx hb hml hown hts hV hM hS (As := [.ref x, .int (xs (x5 + 1).toNatClampNeg), .ref o]) (rest := []) (k_L_flush G hG hN0 l hfl x h1 (xs (x5 + 1).toNatClampNeg) o h3 M e_2) w_L_flush (tk_736 hts) ⟨⟨rfl, rfl⟩, Nat.le_of_ble_eq_true rfl, Nat.le_of_ble_eq_true rfl⟩ hc1 rfl hl.1 rfl (Nat.le_of_ble_eq_true rfl) dL_law_236 (fun H locs hM hS => ?_)
  refine lv_istore (lv' := [(6, .int r3), (0, .ref b), (1, .ref x), (2, .ref mo), (3, .ref o), (4, .ref d), (5, .int x5)]) hx hb dL_law_239 hl (by decide) rfl (fun ls hl => ?_)
  refine lv_aload_n hx hb dL_law_241 rfl (lv_at hl 3 rfl) ?_
  refine lv_aload_n hx hb dL_law_242 rfl (lv_at hl 1 rfl) ?_
  refine lv_iload hx hb dL_law_243 (lv_at hl 6 rfl) ?_
  refine lv_iconst (v := 1) hx hb dL_law_245 (by decide) ?_
  refine lv_iadd hx hb dL_law_246 ?_
  obtain ⟨h_5, hf⟩ := gd_e hf
  refine va_sld hx hb hX hbl hbA hS h_5 dL_law_247 ?_
  obtain ⟨r7, M8, e_6, hf⟩ := cb_e hf
  refine c_Vi hx hb hml hown hts hV hK hM hS (As := [.int (xs (x5 + 1).toNatClampNeg)]) (rest := []) (k_X9_flush G hG l mo h2 (xs (x5 + 1).toNatClampNeg) M4 e_6) w_X9_flush (tk_1090 hts) (c_10 h2) rfl rfl ⟨⟨rfl, rfl⟩, Nat.le_of_ble_eq_true rfl, Nat.le_of_ble_eq_true rfl⟩ hc1 rfl hl.1 rfl (Nat.le_of_ble_eq_true rfl) dL_law_248 (fun H locs hM hS => ?_)
  refine lv_istore (lv' := [(7, .int r7), (6, .int r3), (0, .ref b), (1, .ref x), (2, .ref mo), (3, .ref o), (4, .ref d), (5, .int x5)]) hx hb dL_law_251 hl (by decide) rfl (fun ls hl => ?_)
  refine lv_aload_n hx hb dL_law_253 rfl (lv_at hl 4 rfl) ?_
  obtain ⟨r10, e_9, hf⟩ := vb_e hf
  refine c_Vi hx hb hml hown hts hV hK hM hS (As := []) (rest := []) (k_X9_thrown G hG l mo h2 M8 e_9) w_X9_thrown (tk_1012 hts) (c_10 h2) rfl rfl ⟨⟨rfl, rfl⟩, Nat.le_of_ble_eq_true rfl, Nat.le_of_ble_eq_true rfl⟩ hc1 rfl hl.1 rfl (Nat.le_of_ble_eq_true rfl) dL_law_254 (fun H locs hM hS => ?_)
  refine lv_iload hx hb dL_law_257 (lv_at hl 1 rfl) ?_
  refine lv_icmp_eq (tgt := 264) hx hb dL_law_259 (by decide) (fun g_11 => ?_) (fun g_11 => ?_)
  · rw [if_pos g_11] at hf
    refine lv_iload hx hb dL_law_264 (lv_at hl 1 rfl) ?_
    refine lv_if_ne (tgt := 281) hx hb dL_law_266 (by decide) (fun g_12 => ?_) (fun g_12 => ?_)
    · rw [if_neg g_12] at hf
      refine lv_goto (tgt := 1493) hx hb dL_law_281 (by decide) ?_
      cases hf
      exact W.widen (by omega) (by omega) (hk H locs ls hM hS (lv_sub hl [2, 3, 4, 5, 6, 7] rfl))
    · rw [if_pos g_12] at hf
      refine lv_aload_n hx hb dL_law_269 rfl (lv_at hl 5 rfl) ?_
      refine lv_iconst (v := 0) hx hb dL_law_270 (by decide) ?_
      obtain ⟨h_13, hf⟩ := gd_e hf
      refine s_lald hx hb hK hM h3 h_13 dL_law_271 ?_
      refine lv_iload hx hb dL_law_272 (lv_at hl 0 rfl) ?_
      refine lv_i2l hx hb dL_law_274 rfl ?_
      refine W.lcmp hx hb dL_law_275 ?_
      refine lv_if_eq (tgt := 281) hx hb dL_law_276 (by decide) (fun g_14 => ?_) (fun g_14 => ?_)
      · rw [if_pos g_14] at hf
        refine lv_goto (tgt := 1493) hx hb dL_law_281 (by decide) ?_
        cases hf
        exact W.widen (by omega) (by omega) (hk H locs ls hM hS (lv_sub hl [2, 3, 4, 5, 6, 7] rfl))
      · rw [if_neg g_14] at hf
        refine lv_iconst (v := 0) hx hb dL_law_279 (by decide) ?_
        cases hf
  · rw [if_neg g_11] at hf
    refine lv_iconst (v := 0) hx hb dL_law_262 (by decide) ?_
    cases hf
def f_law_2 (x mo o d : Nat) (xs : Nat → Int32) (L : Nat) (x5 : Int32) (M : Mem) : Option Mem := gd (ix (x5 + 1) L) <| cb (f_L_deliver x (xs (x5 + 1).toNatClampNeg) o M) fun r3 M4 => gd (ix (x5 + 1) L) <| cb (f_X9_deliver mo (xs (x5 + 1).toNatClampNeg) M4) fun r7 M8 => vb (f_X9_thrown mo M8) fun r10 => if r10 = r3 then (if r3 = 0 then (gd (ix 0 1) <| if (lg_cmp (mJ M8 o) r7.toInt64) = 0 then (some M8) else (none)) else (some M8)) else (none)
set_option maxHeartbeats 4000000 in
set_option maxRecDepth 100000 in
theorem law_c2 {p : Program} {e : Env} {s : State} {m : MethodId} {below : List Frame} {meth : Method} {c : Code} {b L : Nat} {xs : Nat → Int32} {Q : State → Prop} {C S : Nat} (G : Gt) (hG : gOK G) (hN0 : gNc G) (l : Launch) (hfl : l.stackTraces = false) (hx : p.tables.exec = Jvm.exec) (hb : c.code = cL_law) (hml : c.maxLocals = 10) (hown : s.vm.findClass "FoldedVoicesLaw" = some m.cls) (hts : KK s) (hV : (gS G).vm.Alike s.vm) (hX : va_X b L xs s s.heap) (hbl : b < s.heap.size) (hbA : ¬ gA G b) (x mo o d : Nat) (h1 : gK G x = 9) (h2 : gK G mo = 10) (h3 : gK G o = 9001) (h4 : gK G d = 10001) (x5 : Int32) (hc0 : C ≤ room_1.cells ∧ S ≤ room_1.slots) (hc1 : C + 1 ≤ room_1.cells ∧ S + 6 ≤ room_1.slots) {M M' : Mem} (hf : f_law_2 x mo o d xs L x5 M = some M') (hk : ∀ (H : Heap) (locs : List Loc) (ls : Array Slot), Mh G M' H → va_S (gA G) s.heap H locs → lv_has ls 10 [(0, .ref b), (1, .ref x), (2, .ref mo), (3, .ref o), (4, .ref d), (5, .int x5)] → W p l e room_1 s m #[Value.ref b] below meth c H locs (C + 1) (S + 6) Q (F0 m 1493 ls [])) : ∀ (H : Heap) (locs : List Loc) (ls : Array Slot), Mh G M H → va_S (gA G) s.heap H locs → lv_has ls 10 [(0, .ref b), (1, .ref x), (2, .ref mo), (3, .ref o), (4, .ref d), (5, .int x5)] → W p l e room_1 s m #[Value.ref b] below meth c H locs C S Q (F0 m 284 ls []) := by
  intro H locs ls hM hS hl
  have hK := hG.1.moved hV
  rw [f_law_2] at hf
  refine lv_aload_n hx hb dL_law_284 rfl (lv_at hl 1 rfl) ?_
  refine lv_aload_n hx hb dL_law_285 rfl (lv_at hl 0 rfl) ?_
  refine lv_iload hx hb dL_law_286 (lv_at hl 5 rfl) ?_
  refine lv_iconst (v := 1) hx hb dL_law_288 (by decide) ?_
  refine lv_iadd hx hb dL_law_289 ?_
  obtain ⟨h_1, hf⟩ := gd_e hf
  refine va_sld hx hb hX hbl hbA hS h_1 dL_law_290 ?_
  refine lv_aload_n hx hb dL_law_291 rfl (lv_at hl 3 rfl) ?_
  obtain ⟨r3, M4, e_2, hf⟩ := cb_e hf
  refine c_W hx hb hml hown hts hV hM hS (As := [.ref x, .int (xs (x5 + 1).toNatClampNeg), .ref o]) (rest := []) (k_L_deliver G hG hN0 l hfl x h1 (xs (x5 + 1).toNatClampNeg) o h3 M e_2) w_L_deliver (tk_746 hts) ⟨⟨rfl, rfl⟩, Nat.le_of_ble_eq_true rfl, Nat.le_of_ble_eq_true rfl⟩ hc1 rfl hl.1 rfl (Nat.le_of_ble_eq_true rfl) dL_law_292 (fun H locs hM hS => ?_)
  refine lv_istore (lv' := [(6, .int r3), (0, .ref b), (1, .ref x), (2, .ref mo), (3, .ref o), (4, .ref d), (5, .int x5)]) hx hb dL_law_295 hl (by decide) rfl (fun ls hl => ?_)
  refine lv_aload_n hx hb dL_law_297 rfl (lv_at hl 3 rfl) ?_
  refine lv_aload_n hx hb dL_law_298 rfl (lv_at hl 1 rfl) ?_
  refine lv_iload hx hb dL_law_299 (lv_at hl 6 rfl) ?_
  refine lv_iconst (v := 1) hx hb dL_law_301 (by decide) ?_
  refine lv_iadd hx hb dL_law_302 ?_
  obtain ⟨h_5, hf⟩ := gd_e hf
  refine va_sld hx hb hX hbl hbA hS h_5 dL_law_303 ?_
  obtain ⟨r7, M8, e_6, hf⟩ := cb_e hf
  refine c_Vi hx hb hml hown hts hV hK hM hS (As := [.int (xs (x5 + 1).toNatClampNeg)]) (rest := []) (k_X9_deliver G hG l mo h2 (xs (x5 + 1).toNatClampNeg) M4 e_6) w_X9_deliver (tk_1094 hts) (c_10 h2) rfl rfl ⟨⟨rfl, rfl⟩, Nat.le_of_ble_eq_true rfl, Nat.le_of_ble_eq_true rfl⟩ hc1 rfl hl.1 rfl (Nat.le_of_ble_eq_true rfl) dL_law_304 (fun H locs hM hS => ?_)
  refine lv_istore (lv' := [(7, .int r7), (6, .int r3), (0, .ref b), (1, .ref x), (2, .ref mo), (3, .ref o), (4, .ref d), (5, .int x5)]) hx hb dL_law_307 hl (by decide) rfl (fun ls hl => ?_)
  refine lv_aload_n hx hb dL_law_309 rfl (lv_at hl 4 rfl) ?_
  obtain ⟨r10, e_9, hf⟩ := vb_e hf
  refine c_Vi hx hb hml hown hts hV hK hM hS (As := []) (rest := []) (k_X9_thrown G hG l mo h2 M8 e_9) w_X9_thrown (tk_1012 hts) (c_10 h2) rfl rfl ⟨⟨rfl, rfl⟩, Nat.le_of_ble_eq_true rfl, Nat.le_of_ble_eq_true rfl⟩ hc1 rfl hl.1 rfl (Nat.le_of_ble_eq_true rfl) dL_law_310 (fun H locs hM hS => ?_)
  refine lv_iload hx hb dL_law_313 (lv_at hl 1 rfl) ?_
  refine lv_icmp_eq (tgt := 320) hx hb dL_law_315 (by decide) (fun g_11 => ?_) (fun g_11 => ?_)
  · rw [if_pos g_11] at hf
    refine lv_iload hx hb dL_law_320 (lv_at hl 1 rfl) ?_
    refine lv_if_ne (tgt := 337) hx hb dL_law_322 (by decide) (fun g_12 => ?_) (fun g_12 => ?_)
    · rw [if_neg g_12] at hf
      refine lv_goto (tgt := 1493) hx hb dL_law_337 (by decide) ?_
      cases hf
      exact W.widen (by omega) (by omega) (hk H locs ls hM hS (lv_sub hl [2, 3, 4, 5, 6, 7] rfl))
    · rw [if_pos g_12] at hf
      refine lv_aload_n hx hb dL_law_325 rfl (lv_at hl 5 rfl) ?_
      refine lv_iconst (v := 0) hx hb dL_law_326 (by decide) ?_
      obtain ⟨h_13, hf⟩ := gd_e hf
      refine s_lald hx hb hK hM h3 h_13 dL_law_327 ?_
      refine lv_iload hx hb dL_law_328 (lv_at hl 0 rfl) ?_
      refine lv_i2l hx hb dL_law_330 rfl ?_
      refine W.lcmp hx hb dL_law_331 ?_
      refine lv_if_eq (tgt := 337) hx hb dL_law_332 (by decide) (fun g_14 => ?_) (fun g_14 => ?_)
      · rw [if_pos g_14] at hf
        refine lv_goto (tgt := 1493) hx hb dL_law_337 (by decide) ?_
        cases hf
        exact W.widen (by omega) (by omega) (hk H locs ls hM hS (lv_sub hl [2, 3, 4, 5, 6, 7] rfl))
      · rw [if_neg g_14] at hf
        refine lv_iconst (v := 0) hx hb dL_law_335 (by decide) ?_
        cases hf
  · rw [if_neg g_11] at hf
    refine lv_iconst (v := 0) hx hb dL_law_318 (by decide) ?_
    cases hf
def f_law_3 (x mo o d : Nat) (xs : Nat → Int32) (L : Nat) (x5 : Int32) (M : Mem) : Option Mem := gd (ix (x5 + 1) L) <| cb (f_L_lose x (xs (x5 + 1).toNatClampNeg) o M) fun r3 M4 => gd (ix (x5 + 1) L) <| cb (f_X9_lose mo (xs (x5 + 1).toNatClampNeg) M4) fun r7 M8 => vb (f_X9_thrown mo M8) fun r10 => if r10 = r3 then (if r3 = 0 then (gd (ix 0 1) <| if (lg_cmp (mJ M8 o) r7.toInt64) = 0 then (some M8) else (none)) else (some M8)) else (none)
set_option maxHeartbeats 4000000 in
set_option maxRecDepth 100000 in
theorem law_c3 {p : Program} {e : Env} {s : State} {m : MethodId} {below : List Frame} {meth : Method} {c : Code} {b L : Nat} {xs : Nat → Int32} {Q : State → Prop} {C S : Nat} (G : Gt) (hG : gOK G) (hN0 : gNc G) (l : Launch) (hfl : l.stackTraces = false) (hx : p.tables.exec = Jvm.exec) (hb : c.code = cL_law) (hml : c.maxLocals = 10) (hown : s.vm.findClass "FoldedVoicesLaw" = some m.cls) (hts : KK s) (hV : (gS G).vm.Alike s.vm) (hX : va_X b L xs s s.heap) (hbl : b < s.heap.size) (hbA : ¬ gA G b) (x mo o d : Nat) (h1 : gK G x = 9) (h2 : gK G mo = 10) (h3 : gK G o = 9001) (h4 : gK G d = 10001) (x5 : Int32) (hc0 : C ≤ room_1.cells ∧ S ≤ room_1.slots) (hc1 : C + 1 ≤ room_1.cells ∧ S + 6 ≤ room_1.slots) {M M' : Mem} (hf : f_law_3 x mo o d xs L x5 M = some M') (hk : ∀ (H : Heap) (locs : List Loc) (ls : Array Slot), Mh G M' H → va_S (gA G) s.heap H locs → lv_has ls 10 [(0, .ref b), (1, .ref x), (2, .ref mo), (3, .ref o), (4, .ref d), (5, .int x5)] → W p l e room_1 s m #[Value.ref b] below meth c H locs (C + 1) (S + 6) Q (F0 m 1493 ls [])) : ∀ (H : Heap) (locs : List Loc) (ls : Array Slot), Mh G M H → va_S (gA G) s.heap H locs → lv_has ls 10 [(0, .ref b), (1, .ref x), (2, .ref mo), (3, .ref o), (4, .ref d), (5, .int x5)] → W p l e room_1 s m #[Value.ref b] below meth c H locs C S Q (F0 m 340 ls []) := by
  intro H locs ls hM hS hl
  have hK := hG.1.moved hV
  rw [f_law_3] at hf
  refine lv_aload_n hx hb dL_law_340 rfl (lv_at hl 1 rfl) ?_
  refine lv_aload_n hx hb dL_law_341 rfl (lv_at hl 0 rfl) ?_
  refine lv_iload hx hb dL_law_342 (lv_at hl 5 rfl) ?_
  refine lv_iconst (v := 1) hx hb dL_law_344 (by decide) ?_
  refine lv_iadd hx hb dL_law_345 ?_
  obtain ⟨h_1, hf⟩ := gd_e hf
  refine va_sld hx hb hX hbl hbA hS h_1 dL_law_346 ?_
  refine lv_aload_n hx hb dL_law_347 rfl (lv_at hl 3 rfl) ?_
  obtain ⟨r3, M4, e_2, hf⟩ := cb_e hf
  refine c_W hx hb hml hown hts hV hM hS (As := [.ref x, .int (xs (x5 + 1).toNatClampNeg), .ref o]) (rest := []) (k_L_lose G hG hN0 l hfl x h1 (xs (x5 + 1).toNatClampNeg) o h3 M e_2) w_L_lose (tk_766 hts) ⟨⟨rfl, rfl⟩, Nat.le_of_ble_eq_true rfl, Nat.le_of_ble_eq_true rfl⟩ hc1 rfl hl.1 rfl (Nat.le_of_ble_eq_true rfl) dL_law_348 (fun H locs hM hS => ?_)
  refine lv_istore (lv' := [(6, .int r3), (0, .ref b), (1, .ref x), (2, .ref mo), (3, .ref o), (4, .ref d), (5, .int x5)]) hx hb dL_law_351 hl (by decide) rfl (fun ls hl => ?_)
  refine lv_aload_n hx hb dL_law_353 rfl (lv_at hl 3 rfl) ?_
  refine lv_aload_n hx hb dL_law_354 rfl (lv_at hl 1 rfl) ?_
  refine lv_iload hx hb dL_law_355 (lv_at hl 6 rfl) ?_
  refine lv_iconst (v := 1) hx hb dL_law_357 (by decide) ?_
  refine lv_iadd hx hb dL_law_358 ?_
  obtain ⟨h_5, hf⟩ := gd_e hf
  refine va_sld hx hb hX hbl hbA hS h_5 dL_law_359 ?_
  obtain ⟨r7, M8, e_6, hf⟩ := cb_e hf
  refine c_Vi hx hb hml hown hts hV hK hM hS (As := [.int (xs (x5 + 1).toNatClampNeg)]) (rest := []) (k_X9_lose G hG l mo h2 (xs (x5 + 1).toNatClampNeg) M4 e_6) w_X9_lose (tk_1114 hts) (c_10 h2) rfl rfl ⟨⟨rfl, rfl⟩, Nat.le_of_ble_eq_true rfl, Nat.le_of_ble_eq_true rfl⟩ hc1 rfl hl.1 rfl (Nat.le_of_ble_eq_true rfl) dL_law_360 (fun H locs hM hS => ?_)
  refine lv_istore (lv' := [(7, .int r7), (6, .int r3), (0, .ref b), (1, .ref x), (2, .ref mo), (3, .ref o), (4, .ref d), (5, .int x5)]) hx hb dL_law_363 hl (by decide) rfl (fun ls hl => ?_)
  refine lv_aload_n hx hb dL_law_365 rfl (lv_at hl 4 rfl) ?_
  obtain ⟨r10, e_9, hf⟩ := vb_e hf
  refine c_Vi hx hb hml hown hts hV hK hM hS (As := []) (rest := []) (k_X9_thrown G hG l mo h2 M8 e_9) w_X9_thrown (tk_1012 hts) (c_10 h2) rfl rfl ⟨⟨rfl, rfl⟩, Nat.le_of_ble_eq_true rfl, Nat.le_of_ble_eq_true rfl⟩ hc1 rfl hl.1 rfl (Nat.le_of_ble_eq_true rfl) dL_law_366 (fun H locs hM hS => ?_)
  refine lv_iload hx hb dL_law_369 (lv_at hl 1 rfl) ?_
  refine lv_icmp_eq (tgt := 376) hx hb dL_law_371 (by decide) (fun g_11 => ?_) (fun g_11 => ?_)
  · rw [if_pos g_11] at hf
    refine lv_iload hx hb dL_law_376 (lv_at hl 1 rfl) ?_
    refine lv_if_ne (tgt := 393) hx hb dL_law_378 (by decide) (fun g_12 => ?_) (fun g_12 => ?_)
    · rw [if_neg g_12] at hf
      refine lv_goto (tgt := 1493) hx hb dL_law_393 (by decide) ?_
      cases hf
      exact W.widen (by omega) (by omega) (hk H locs ls hM hS (lv_sub hl [2, 3, 4, 5, 6, 7] rfl))
    · rw [if_pos g_12] at hf
      refine lv_aload_n hx hb dL_law_381 rfl (lv_at hl 5 rfl) ?_
      refine lv_iconst (v := 0) hx hb dL_law_382 (by decide) ?_
      obtain ⟨h_13, hf⟩ := gd_e hf
      refine s_lald hx hb hK hM h3 h_13 dL_law_383 ?_
      refine lv_iload hx hb dL_law_384 (lv_at hl 0 rfl) ?_
      refine lv_i2l hx hb dL_law_386 rfl ?_
      refine W.lcmp hx hb dL_law_387 ?_
      refine lv_if_eq (tgt := 393) hx hb dL_law_388 (by decide) (fun g_14 => ?_) (fun g_14 => ?_)
      · rw [if_pos g_14] at hf
        refine lv_goto (tgt := 1493) hx hb dL_law_393 (by decide) ?_
        cases hf
        exact W.widen (by omega) (by omega) (hk H locs ls hM hS (lv_sub hl [2, 3, 4, 5, 6, 7] rfl))
      · rw [if_neg g_14] at hf
        refine lv_iconst (v := 0) hx hb dL_law_391 (by decide) ?_
        cases hf
  · rw [if_neg g_11] at hf
    refine lv_iconst (v := 0) hx hb dL_law_374 (by decide) ?_
    cases hf
def f_law_4 (x mo o d : Nat) (xs : Nat → Int32) (L : Nat) (x5 : Int32) (M : Mem) : Option Mem := gd (ix (x5 + 1) L) <| cb (f_L_swap x (xs (x5 + 1).toNatClampNeg) o M) fun r3 M4 => gd (ix (x5 + 1) L) <| cb (f_X9_swap mo (xs (x5 + 1).toNatClampNeg) M4) fun r7 M8 => vb (f_X9_thrown mo M8) fun r10 => if r10 = r3 then (if r3 = 0 then (gd (ix 0 1) <| if (lg_cmp (mJ M8 o) r7.toInt64) = 0 then (some M8) else (none)) else (some M8)) else (none)
set_option maxHeartbeats 4000000 in
set_option maxRecDepth 100000 in
theorem law_c4 {p : Program} {e : Env} {s : State} {m : MethodId} {below : List Frame} {meth : Method} {c : Code} {b L : Nat} {xs : Nat → Int32} {Q : State → Prop} {C S : Nat} (G : Gt) (hG : gOK G) (hN0 : gNc G) (l : Launch) (hfl : l.stackTraces = false) (hx : p.tables.exec = Jvm.exec) (hb : c.code = cL_law) (hml : c.maxLocals = 10) (hown : s.vm.findClass "FoldedVoicesLaw" = some m.cls) (hts : KK s) (hV : (gS G).vm.Alike s.vm) (hX : va_X b L xs s s.heap) (hbl : b < s.heap.size) (hbA : ¬ gA G b) (x mo o d : Nat) (h1 : gK G x = 9) (h2 : gK G mo = 10) (h3 : gK G o = 9001) (h4 : gK G d = 10001) (x5 : Int32) (hc0 : C ≤ room_1.cells ∧ S ≤ room_1.slots) (hc1 : C + 1 ≤ room_1.cells ∧ S + 6 ≤ room_1.slots) {M M' : Mem} (hf : f_law_4 x mo o d xs L x5 M = some M') (hk : ∀ (H : Heap) (locs : List Loc) (ls : Array Slot), Mh G M' H → va_S (gA G) s.heap H locs → lv_has ls 10 [(0, .ref b), (1, .ref x), (2, .ref mo), (3, .ref o), (4, .ref d), (5, .int x5)] → W p l e room_1 s m #[Value.ref b] below meth c H locs (C + 1) (S + 6) Q (F0 m 1493 ls [])) : ∀ (H : Heap) (locs : List Loc) (ls : Array Slot), Mh G M H → va_S (gA G) s.heap H locs → lv_has ls 10 [(0, .ref b), (1, .ref x), (2, .ref mo), (3, .ref o), (4, .ref d), (5, .int x5)] → W p l e room_1 s m #[Value.ref b] below meth c H locs C S Q (F0 m 396 ls []) := by
  intro H locs ls hM hS hl
  have hK := hG.1.moved hV
  rw [f_law_4] at hf
  refine lv_aload_n hx hb dL_law_396 rfl (lv_at hl 1 rfl) ?_
  refine lv_aload_n hx hb dL_law_397 rfl (lv_at hl 0 rfl) ?_
  refine lv_iload hx hb dL_law_398 (lv_at hl 5 rfl) ?_
  refine lv_iconst (v := 1) hx hb dL_law_400 (by decide) ?_
  refine lv_iadd hx hb dL_law_401 ?_
  obtain ⟨h_1, hf⟩ := gd_e hf
  refine va_sld hx hb hX hbl hbA hS h_1 dL_law_402 ?_
  refine lv_aload_n hx hb dL_law_403 rfl (lv_at hl 3 rfl) ?_
  obtain ⟨r3, M4, e_2, hf⟩ := cb_e hf
  refine c_W hx hb hml hown hts hV hM hS (As := [.ref x, .int (xs (x5 + 1).toNatClampNeg), .ref o]) (rest := []) (k_L_swap G hG hN0 l hfl x h1 (xs (x5 + 1).toNatClampNeg) o h3 M e_2) w_L_swap (tk_777 hts) ⟨⟨rfl, rfl⟩, Nat.le_of_ble_eq_true rfl, Nat.le_of_ble_eq_true rfl⟩ hc1 rfl hl.1 rfl (Nat.le_of_ble_eq_true rfl) dL_law_404 (fun H locs hM hS => ?_)
  refine lv_istore (lv' := [(6, .int r3), (0, .ref b), (1, .ref x), (2, .ref mo), (3, .ref o), (4, .ref d), (5, .int x5)]) hx hb dL_law_407 hl (by decide) rfl (fun ls hl => ?_)
  refine lv_aload_n hx hb dL_law_409 rfl (lv_at hl 3 rfl) ?_
  refine lv_aload_n hx hb dL_law_410 rfl (lv_at hl 1 rfl) ?_
  refine lv_iload hx hb dL_law_411 (lv_at hl 6 rfl) ?_
  refine lv_iconst (v := 1) hx hb dL_law_413 (by decide) ?_
  refine lv_iadd hx hb dL_law_414 ?_
  obtain ⟨h_5, hf⟩ := gd_e hf
  refine va_sld hx hb hX hbl hbA hS h_5 dL_law_415 ?_
  obtain ⟨r7, M8, e_6, hf⟩ := cb_e hf
  refine c_Vi hx hb hml hown hts hV hK hM hS (As := [.int (xs (x5 + 1).toNatClampNeg)]) (rest := []) (k_X9_swap G hG l mo h2 (xs (x5 + 1).toNatClampNeg) M4 e_6) w_X9_swap (tk_1122 hts) (c_10 h2) rfl rfl ⟨⟨rfl, rfl⟩, Nat.le_of_ble_eq_true rfl, Nat.le_of_ble_eq_true rfl⟩ hc1 rfl hl.1 rfl (Nat.le_of_ble_eq_true rfl) dL_law_416 (fun H locs hM hS => ?_)
  refine lv_istore (lv' := [(7, .int r7), (6, .int r3), (0, .ref b), (1, .ref x), (2, .ref mo), (3, .ref o), (4, .ref d), (5, .int x5)]) hx hb dL_law_419 hl (by decide) rfl (fun ls hl => ?_)
  refine lv_aload_n hx hb dL_law_421 rfl (lv_at hl 4 rfl) ?_
  obtain ⟨r10, e_9, hf⟩ := vb_e hf
  refine c_Vi hx hb hml hown hts hV hK hM hS (As := []) (rest := []) (k_X9_thrown G hG l mo h2 M8 e_9) w_X9_thrown (tk_1012 hts) (c_10 h2) rfl rfl ⟨⟨rfl, rfl⟩, Nat.le_of_ble_eq_true rfl, Nat.le_of_ble_eq_true rfl⟩ hc1 rfl hl.1 rfl (Nat.le_of_ble_eq_true rfl) dL_law_422 (fun H locs hM hS => ?_)
  refine lv_iload hx hb dL_law_425 (lv_at hl 1 rfl) ?_
  refine lv_icmp_eq (tgt := 432) hx hb dL_law_427 (by decide) (fun g_11 => ?_) (fun g_11 => ?_)
  · rw [if_pos g_11] at hf
    refine lv_iload hx hb dL_law_432 (lv_at hl 1 rfl) ?_
    refine lv_if_ne (tgt := 449) hx hb dL_law_434 (by decide) (fun g_12 => ?_) (fun g_12 => ?_)
    · rw [if_neg g_12] at hf
      refine lv_goto (tgt := 1493) hx hb dL_law_449 (by decide) ?_
      cases hf
      exact W.widen (by omega) (by omega) (hk H locs ls hM hS (lv_sub hl [2, 3, 4, 5, 6, 7] rfl))
    · rw [if_pos g_12] at hf
      refine lv_aload_n hx hb dL_law_437 rfl (lv_at hl 5 rfl) ?_
      refine lv_iconst (v := 0) hx hb dL_law_438 (by decide) ?_
      obtain ⟨h_13, hf⟩ := gd_e hf
      refine s_lald hx hb hK hM h3 h_13 dL_law_439 ?_
      refine lv_iload hx hb dL_law_440 (lv_at hl 0 rfl) ?_
      refine lv_i2l hx hb dL_law_442 rfl ?_
      refine W.lcmp hx hb dL_law_443 ?_
      refine lv_if_eq (tgt := 449) hx hb dL_law_444 (by decide) (fun g_14 => ?_) (fun g_14 => ?_)
      · rw [if_pos g_14] at hf
        refine lv_goto (tgt := 1493) hx hb dL_law_449 (by decide) ?_
        cases hf
        exact W.widen (by omega) (by omega) (hk H locs ls hM hS (lv_sub hl [2, 3, 4, 5, 6, 7] rfl))
      · rw [if_neg g_14] at hf
        refine lv_iconst (v := 0) hx hb dL_law_447 (by decide) ?_
        cases hf
  · rw [if_neg g_11] at hf
    refine lv_iconst (v := 0) hx hb dL_law_430 (by decide) ?_
    cases hf
def f_law_5 (x mo o d : Nat) (xs : Nat → Int32) (L : Nat) (x5 : Int32) (M : Mem) : Option Mem := gd (ix (x5 + 1) L) <| gd (ix (x5 + 2) L) <| cb (f_L_set x (xs (x5 + 1).toNatClampNeg) (xs (x5 + 2).toNatClampNeg) o M) fun r4 M5 => gd (ix (x5 + 1) L) <| gd (ix (x5 + 2) L) <| cb (f_X9_set mo (xs (x5 + 1).toNatClampNeg) (xs (x5 + 2).toNatClampNeg) M5) fun r9 M10 => vb (f_X9_thrown mo M10) fun r12 => if r12 = r4 then (if r4 = 0 then (gd (ix 0 1) <| if (lg_cmp (mJ M10 o) r9.toInt64) = 0 then (some M10) else (none)) else (some M10)) else (none)
set_option maxHeartbeats 4000000 in
set_option maxRecDepth 100000 in
theorem law_c5 {p : Program} {e : Env} {s : State} {m : MethodId} {below : List Frame} {meth : Method} {c : Code} {b L : Nat} {xs : Nat → Int32} {Q : State → Prop} {C S : Nat} (G : Gt) (hG : gOK G) (hN0 : gNc G) (l : Launch) (hfl : l.stackTraces = false) (hx : p.tables.exec = Jvm.exec) (hb : c.code = cL_law) (hml : c.maxLocals = 10) (hown : s.vm.findClass "FoldedVoicesLaw" = some m.cls) (hts : KK s) (hV : (gS G).vm.Alike s.vm) (hX : va_X b L xs s s.heap) (hbl : b < s.heap.size) (hbA : ¬ gA G b) (x mo o d : Nat) (h1 : gK G x = 9) (h2 : gK G mo = 10) (h3 : gK G o = 9001) (h4 : gK G d = 10001) (x5 : Int32) (hc0 : C ≤ room_1.cells ∧ S ≤ room_1.slots) (hc1 : C + 1 ≤ room_1.cells ∧ S + 6 ≤ room_1.slots) {M M' : Mem} (hf : f_law_5 x mo o d xs L x5 M = some M') (hk : ∀ (H : Heap) (locs : List Loc) (ls : Array Slot), Mh G M' H → va_S (gA G) s.heap H locs → lv_has ls 10 [(0, .ref b), (1, .ref x), (2, .ref mo), (3, .ref o), (4, .ref d), (5, .int x5)] → W p l e room_1 s m #[Value.ref b] below meth c H locs (C + 1) (S + 6) Q (F0 m 1493 ls [])) : ∀ (H : Heap) (locs : List Loc) (ls : Array Slot), Mh G M H → va_S (gA G) s.heap H locs → lv_has ls 10 [(0, .ref b), (1, .ref x), (2, .ref mo), (3, .ref o), (4, .ref d), (5, .int x5)] → W p l e room_1 s m #[Value.ref b] below meth c H locs C S Q (F0 m 452 ls []) := by
  intro H locs ls hM hS hl
  have hK := hG.1.moved hV
  rw [f_law_5] at hf
  refine lv_aload_n hx hb dL_law_452 rfl (lv_at hl 1 rfl) ?_
  refine lv_aload_n hx hb dL_law_453 rfl (lv_at hl 0 rfl) ?_
  refine lv_iload hx hb dL_law_454 (lv_at hl 5 rfl) ?_
  refine lv_iconst (v := 1) hx hb dL_law_456 (by decide) ?_
  refine lv_iadd hx hb dL_law_457 ?_
  obtain ⟨h_1, hf⟩ := gd_e hf
  refine va_sld hx hb hX hbl hbA hS h_1 dL_law_458 ?_
  refine lv_aload_n hx hb dL_law_459 rfl (lv_at hl 0 rfl) ?_
  refine lv_iload hx hb dL_law_460 (lv_at hl 5 rfl) ?_
  refine lv_iconst (v := 2) hx hb dL_law_462 (by decide) ?_
  refine lv_iadd hx hb dL_law_463 ?_
  obtain ⟨h_2, hf⟩ := gd_e hf
  refine va_sld hx hb hX hbl hbA hS h_2 dL_law_464 ?_
  refine lv_aload_n hx hb dL_law_465 rfl (lv_at hl 3 rfl) ?_
  obtain ⟨r4, M5, e_3, hf⟩ := cb_e hf
  refine c_W hx hb hml hown hts hV hM hS (As := [.ref x, .int (xs (x5 + 1).toNatClampNeg), .int (xs (x5 + 2).toNatClampNeg), .ref o]) (rest := []) (k_L_set G hG hN0 l hfl x h1 (xs (x5 + 1).toNatClampNeg) (xs (x5 + 2).toNatClampNeg) o h3 M e_3) w_L_set (tk_788 hts) ⟨⟨rfl, rfl⟩, Nat.le_of_ble_eq_true rfl, Nat.le_of_ble_eq_true rfl⟩ hc1 rfl hl.1 rfl (Nat.le_of_ble_eq_true rfl) dL_law_466 (fun H locs hM hS => ?_)
  refine lv_istore (lv' := [(6, .int r4), (0, .ref b), (1, .ref x), (2, .ref mo), (3, .ref o), (4, .ref d), (5, .int x5)]) hx hb dL_law_469 hl (by decide) rfl (fun ls hl => ?_)
  refine lv_aload_n hx hb dL_law_471 rfl (lv_at hl 3 rfl) ?_
  refine lv_aload_n hx hb dL_law_472 rfl (lv_at hl 1 rfl) ?_
  refine lv_iload hx hb dL_law_473 (lv_at hl 6 rfl) ?_
  refine lv_iconst (v := 1) hx hb dL_law_475 (by decide) ?_
  refine lv_iadd hx hb dL_law_476 ?_
  obtain ⟨h_6, hf⟩ := gd_e hf
  refine va_sld hx hb hX hbl hbA hS h_6 dL_law_477 ?_
  refine lv_aload_n hx hb dL_law_478 rfl (lv_at hl 1 rfl) ?_
  refine lv_iload hx hb dL_law_479 (lv_at hl 6 rfl) ?_
  refine lv_iconst (v := 2) hx hb dL_law_481 (by decide) ?_
  refine lv_iadd hx hb dL_law_482 ?_
  obtain ⟨h_7, hf⟩ := gd_e hf
  refine va_sld hx hb hX hbl hbA hS h_7 dL_law_483 ?_
  obtain ⟨r9, M10, e_8, hf⟩ := cb_e hf
  refine c_Vi hx hb hml hown hts hV hK hM hS (As := [.int (xs (x5 + 1).toNatClampNeg), .int (xs (x5 + 2).toNatClampNeg)]) (rest := []) (k_X9_set G hG l mo h2 (xs (x5 + 1).toNatClampNeg) (xs (x5 + 2).toNatClampNeg) M5 e_8) w_X9_set (tk_1130 hts) (c_10 h2) rfl rfl ⟨⟨rfl, rfl⟩, Nat.le_of_ble_eq_true rfl, Nat.le_of_ble_eq_true rfl⟩ hc1 rfl hl.1 rfl (Nat.le_of_ble_eq_true rfl) dL_law_484 (fun H locs hM hS => ?_)
  refine lv_istore (lv' := [(7, .int r9), (6, .int r4), (0, .ref b), (1, .ref x), (2, .ref mo), (3, .ref o), (4, .ref d), (5, .int x5)]) hx hb dL_law_487 hl (by decide) rfl (fun ls hl => ?_)
  refine lv_aload_n hx hb dL_law_489 rfl (lv_at hl 4 rfl) ?_
  obtain ⟨r12, e_11, hf⟩ := vb_e hf
  refine c_Vi hx hb hml hown hts hV hK hM hS (As := []) (rest := []) (k_X9_thrown G hG l mo h2 M10 e_11) w_X9_thrown (tk_1012 hts) (c_10 h2) rfl rfl ⟨⟨rfl, rfl⟩, Nat.le_of_ble_eq_true rfl, Nat.le_of_ble_eq_true rfl⟩ hc1 rfl hl.1 rfl (Nat.le_of_ble_eq_true rfl) dL_law_490 (fun H locs hM hS => ?_)
  refine lv_iload hx hb dL_law_493 (lv_at hl 1 rfl) ?_
  refine lv_icmp_eq (tgt := 500) hx hb dL_law_495 (by decide) (fun g_13 => ?_) (fun g_13 => ?_)
  · rw [if_pos g_13] at hf
    refine lv_iload hx hb dL_law_500 (lv_at hl 1 rfl) ?_
    refine lv_if_ne (tgt := 517) hx hb dL_law_502 (by decide) (fun g_14 => ?_) (fun g_14 => ?_)
    · rw [if_neg g_14] at hf
      refine lv_goto (tgt := 1493) hx hb dL_law_517 (by decide) ?_
      cases hf
      exact W.widen (by omega) (by omega) (hk H locs ls hM hS (lv_sub hl [2, 3, 4, 5, 6, 7] rfl))
    · rw [if_pos g_14] at hf
      refine lv_aload_n hx hb dL_law_505 rfl (lv_at hl 5 rfl) ?_
      refine lv_iconst (v := 0) hx hb dL_law_506 (by decide) ?_
      obtain ⟨h_15, hf⟩ := gd_e hf
      refine s_lald hx hb hK hM h3 h_15 dL_law_507 ?_
      refine lv_iload hx hb dL_law_508 (lv_at hl 0 rfl) ?_
      refine lv_i2l hx hb dL_law_510 rfl ?_
      refine W.lcmp hx hb dL_law_511 ?_
      refine lv_if_eq (tgt := 517) hx hb dL_law_512 (by decide) (fun g_16 => ?_) (fun g_16 => ?_)
      · rw [if_pos g_16] at hf
        refine lv_goto (tgt := 1493) hx hb dL_law_517 (by decide) ?_
        cases hf
        exact W.widen (by omega) (by omega) (hk H locs ls hM hS (lv_sub hl [2, 3, 4, 5, 6, 7] rfl))
      · rw [if_neg g_16] at hf
        refine lv_iconst (v := 0) hx hb dL_law_515 (by decide) ?_
        cases hf
  · rw [if_neg g_13] at hf
    refine lv_iconst (v := 0) hx hb dL_law_498 (by decide) ?_
    cases hf
def f_law_6 (x mo o d : Nat) (xs : Nat → Int32) (L : Nat) (x5 : Int32) (M : Mem) : Option Mem := gd (ix (x5 + 1) L) <| cb (f_L_append x (xs (x5 + 1).toNatClampNeg) o M) fun r3 M4 => gd (ix (x5 + 1) L) <| cb (f_X9_append mo (xs (x5 + 1).toNatClampNeg) M4) fun r7 M8 => vb (f_X9_thrown mo M8) fun r10 => if r10 = r3 then (if r3 = 0 then (gd (ix 0 1) <| if (lg_cmp (mJ M8 o) r7.toInt64) = 0 then (some M8) else (none)) else (some M8)) else (none)
set_option maxHeartbeats 4000000 in
set_option maxRecDepth 100000 in
theorem law_c6 {p : Program} {e : Env} {s : State} {m : MethodId} {below : List Frame} {meth : Method} {c : Code} {b L : Nat} {xs : Nat → Int32} {Q : State → Prop} {C S : Nat} (G : Gt) (hG : gOK G) (hN0 : gNc G) (l : Launch) (hfl : l.stackTraces = false) (hx : p.tables.exec = Jvm.exec) (hb : c.code = cL_law) (hml : c.maxLocals = 10) (hown : s.vm.findClass "FoldedVoicesLaw" = some m.cls) (hts : KK s) (hV : (gS G).vm.Alike s.vm) (hX : va_X b L xs s s.heap) (hbl : b < s.heap.size) (hbA : ¬ gA G b) (x mo o d : Nat) (h1 : gK G x = 9) (h2 : gK G mo = 10) (h3 : gK G o = 9001) (h4 : gK G d = 10001) (x5 : Int32) (hc0 : C ≤ room_1.cells ∧ S ≤ room_1.slots) (hc1 : C + 1 ≤ room_1.cells ∧ S + 6 ≤ room_1.slots) {M M' : Mem} (hf : f_law_6 x mo o d xs L x5 M = some M') (hk : ∀ (H : Heap) (locs : List Loc) (ls : Array Slot), Mh G M' H → va_S (gA G) s.heap H locs → lv_has ls 10 [(0, .ref b), (1, .ref x), (2, .ref mo), (3, .ref o), (4, .ref d), (5, .int x5)] → W p l e room_1 s m #[Value.ref b] below meth c H locs (C + 1) (S + 6) Q (F0 m 1493 ls [])) : ∀ (H : Heap) (locs : List Loc) (ls : Array Slot), Mh G M H → va_S (gA G) s.heap H locs → lv_has ls 10 [(0, .ref b), (1, .ref x), (2, .ref mo), (3, .ref o), (4, .ref d), (5, .int x5)] → W p l e room_1 s m #[Value.ref b] below meth c H locs C S Q (F0 m 520 ls []) := by
  intro H locs ls hM hS hl
  have hK := hG.1.moved hV
  rw [f_law_6] at hf
  refine lv_aload_n hx hb dL_law_520 rfl (lv_at hl 1 rfl) ?_
  refine lv_aload_n hx hb dL_law_521 rfl (lv_at hl 0 rfl) ?_
  refine lv_iload hx hb dL_law_522 (lv_at hl 5 rfl) ?_
  refine lv_iconst (v := 1) hx hb dL_law_524 (by decide) ?_
  refine lv_iadd hx hb dL_law_525 ?_
  obtain ⟨h_1, hf⟩ := gd_e hf
  refine va_sld hx hb hX hbl hbA hS h_1 dL_law_526 ?_
  refine lv_aload_n hx hb dL_law_527 rfl (lv_at hl 3 rfl) ?_
  obtain ⟨r3, M4, e_2, hf⟩ := cb_e hf
  refine c_W hx hb hml hown hts hV hM hS (As := [.ref x, .int (xs (x5 + 1).toNatClampNeg), .ref o]) (rest := []) (k_L_append G hG hN0 l hfl x h1 (xs (x5 + 1).toNatClampNeg) o h3 M e_2) w_L_append (tk_811 hts) ⟨⟨rfl, rfl⟩, Nat.le_of_ble_eq_true rfl, Nat.le_of_ble_eq_true rfl⟩ hc1 rfl hl.1 rfl (Nat.le_of_ble_eq_true rfl) dL_law_528 (fun H locs hM hS => ?_)
  refine lv_istore (lv' := [(6, .int r3), (0, .ref b), (1, .ref x), (2, .ref mo), (3, .ref o), (4, .ref d), (5, .int x5)]) hx hb dL_law_531 hl (by decide) rfl (fun ls hl => ?_)
  refine lv_aload_n hx hb dL_law_533 rfl (lv_at hl 3 rfl) ?_
  refine lv_aload_n hx hb dL_law_534 rfl (lv_at hl 1 rfl) ?_
  refine lv_iload hx hb dL_law_535 (lv_at hl 6 rfl) ?_
  refine lv_iconst (v := 1) hx hb dL_law_537 (by decide) ?_
  refine lv_iadd hx hb dL_law_538 ?_
  obtain ⟨h_5, hf⟩ := gd_e hf
  refine va_sld hx hb hX hbl hbA hS h_5 dL_law_539 ?_
  obtain ⟨r7, M8, e_6, hf⟩ := cb_e hf
  refine c_Vi hx hb hml hown hts hV hK hM hS (As := [.int (xs (x5 + 1).toNatClampNeg)]) (rest := []) (k_X9_append G hG l mo h2 (xs (x5 + 1).toNatClampNeg) M4 e_6) w_X9_append (tk_1137 hts) (c_10 h2) rfl rfl ⟨⟨rfl, rfl⟩, Nat.le_of_ble_eq_true rfl, Nat.le_of_ble_eq_true rfl⟩ hc1 rfl hl.1 rfl (Nat.le_of_ble_eq_true rfl) dL_law_540 (fun H locs hM hS => ?_)
  refine lv_istore (lv' := [(7, .int r7), (6, .int r3), (0, .ref b), (1, .ref x), (2, .ref mo), (3, .ref o), (4, .ref d), (5, .int x5)]) hx hb dL_law_543 hl (by decide) rfl (fun ls hl => ?_)
  refine lv_aload_n hx hb dL_law_545 rfl (lv_at hl 4 rfl) ?_
  obtain ⟨r10, e_9, hf⟩ := vb_e hf
  refine c_Vi hx hb hml hown hts hV hK hM hS (As := []) (rest := []) (k_X9_thrown G hG l mo h2 M8 e_9) w_X9_thrown (tk_1012 hts) (c_10 h2) rfl rfl ⟨⟨rfl, rfl⟩, Nat.le_of_ble_eq_true rfl, Nat.le_of_ble_eq_true rfl⟩ hc1 rfl hl.1 rfl (Nat.le_of_ble_eq_true rfl) dL_law_546 (fun H locs hM hS => ?_)
  refine lv_iload hx hb dL_law_549 (lv_at hl 1 rfl) ?_
  refine lv_icmp_eq (tgt := 556) hx hb dL_law_551 (by decide) (fun g_11 => ?_) (fun g_11 => ?_)
  · rw [if_pos g_11] at hf
    refine lv_iload hx hb dL_law_556 (lv_at hl 1 rfl) ?_
    refine lv_if_ne (tgt := 573) hx hb dL_law_558 (by decide) (fun g_12 => ?_) (fun g_12 => ?_)
    · rw [if_neg g_12] at hf
      refine lv_goto (tgt := 1493) hx hb dL_law_573 (by decide) ?_
      cases hf
      exact W.widen (by omega) (by omega) (hk H locs ls hM hS (lv_sub hl [2, 3, 4, 5, 6, 7] rfl))
    · rw [if_pos g_12] at hf
      refine lv_aload_n hx hb dL_law_561 rfl (lv_at hl 5 rfl) ?_
      refine lv_iconst (v := 0) hx hb dL_law_562 (by decide) ?_
      obtain ⟨h_13, hf⟩ := gd_e hf
      refine s_lald hx hb hK hM h3 h_13 dL_law_563 ?_
      refine lv_iload hx hb dL_law_564 (lv_at hl 0 rfl) ?_
      refine lv_i2l hx hb dL_law_566 rfl ?_
      refine W.lcmp hx hb dL_law_567 ?_
      refine lv_if_eq (tgt := 573) hx hb dL_law_568 (by decide) (fun g_14 => ?_) (fun g_14 => ?_)
      · rw [if_pos g_14] at hf
        refine lv_goto (tgt := 1493) hx hb dL_law_573 (by decide) ?_
        cases hf
        exact W.widen (by omega) (by omega) (hk H locs ls hM hS (lv_sub hl [2, 3, 4, 5, 6, 7] rfl))
      · rw [if_neg g_14] at hf
        refine lv_iconst (v := 0) hx hb dL_law_571 (by decide) ?_
        cases hf
  · rw [if_neg g_11] at hf
    refine lv_iconst (v := 0) hx hb dL_law_554 (by decide) ?_
    cases hf
def f_law_7 (x mo o d : Nat) (xs : Nat → Int32) (L : Nat) (x5 : Int32) (M : Mem) : Option Mem := cb (f_X8_clearBuffer x M) fun r2 M3 => cb (f_X9_clearBuffer mo M3) fun r5 M6 => if r2 = r5 then (some M6) else (none)
set_option maxHeartbeats 4000000 in
set_option maxRecDepth 100000 in
theorem law_c7 {p : Program} {e : Env} {s : State} {m : MethodId} {below : List Frame} {meth : Method} {c : Code} {b L : Nat} {xs : Nat → Int32} {Q : State → Prop} {C S : Nat} (G : Gt) (hG : gOK G) (hN0 : gNc G) (l : Launch) (hfl : l.stackTraces = false) (hx : p.tables.exec = Jvm.exec) (hb : c.code = cL_law) (hml : c.maxLocals = 10) (hown : s.vm.findClass "FoldedVoicesLaw" = some m.cls) (hts : KK s) (hV : (gS G).vm.Alike s.vm) (hX : va_X b L xs s s.heap) (hbl : b < s.heap.size) (hbA : ¬ gA G b) (x mo o d : Nat) (h1 : gK G x = 9) (h2 : gK G mo = 10) (h3 : gK G o = 9001) (h4 : gK G d = 10001) (x5 : Int32) (hc0 : C ≤ room_1.cells ∧ S ≤ room_1.slots) (hc1 : C + 1 ≤ room_1.cells ∧ S + 6 ≤ room_1.slots) {M M' : Mem} (hf : f_law_7 x mo o d xs L x5 M = some M') (hk : ∀ (H : Heap) (locs : List Loc) (ls : Array Slot), Mh G M' H → va_S (gA G) s.heap H locs → lv_has ls 10 [(0, .ref b), (1, .ref x), (2, .ref mo), (3, .ref o), (4, .ref d), (5, .int x5)] → W p l e room_1 s m #[Value.ref b] below meth c H locs (C + 1) (S + 6) Q (F0 m 1493 ls [])) : ∀ (H : Heap) (locs : List Loc) (ls : Array Slot), Mh G M H → va_S (gA G) s.heap H locs → lv_has ls 10 [(0, .ref b), (1, .ref x), (2, .ref mo), (3, .ref o), (4, .ref d), (5, .int x5)] → W p l e room_1 s m #[Value.ref b] below meth c H locs C S Q (F0 m 576 ls []) := by
  intro H locs ls hM hS hl
  have hK := hG.1.moved hV
  rw [f_law_7] at hf
  refine lv_aload_n hx hb dL_law_576 rfl (lv_at hl 1 rfl) ?_
  obtain ⟨r2, M3, e_1, hf⟩ := cb_e hf
  refine c_Vi hx hb hml hown hts hV hK hM hS (As := []) (rest := []) (k_X8_clearBuffer G hG l x h1 M e_1) w_X8_clearBuffer (tk_305 hts) (c_9 h1) rfl rfl ⟨⟨rfl, rfl⟩, Nat.le_of_ble_eq_true rfl, Nat.le_of_ble_eq_true rfl⟩ hc0 rfl hl.1 rfl (Nat.le_of_ble_eq_true rfl) dL_law_577 (fun H locs hM hS => ?_)
  refine lv_aload_n hx hb dL_law_580 rfl (lv_at hl 2 rfl) ?_
  obtain ⟨r5, M6, e_4, hf⟩ := cb_e hf
  refine c_Vi hx hb hml hown hts hV hK hM hS (As := []) (rest := [.int r2]) (k_X9_clearBuffer G hG l mo h2 M3 e_4) w_X9_clearBuffer (tk_1141 hts) (c_10 h2) rfl rfl ⟨⟨rfl, rfl⟩, Nat.le_of_ble_eq_true rfl, Nat.le_of_ble_eq_true rfl⟩ hc0 rfl hl.1 rfl (Nat.le_of_ble_eq_true rfl) dL_law_581 (fun H locs hM hS => ?_)
  refine lv_icmp_eq (tgt := 1493) hx hb dL_law_584 (by decide) (fun g_7 => ?_) (fun g_7 => ?_)
  · rw [if_pos g_7] at hf
    cases hf
    exact W.widen (by omega) (by omega) (hk H locs ls hM hS (lv_sub hl [0, 1, 2, 3, 4, 5] rfl))
  · rw [if_neg g_7] at hf
    refine lv_iconst (v := 0) hx hb dL_law_587 (by decide) ?_
    cases hf
def f_law_8 (x mo o d : Nat) (xs : Nat → Int32) (L : Nat) (x5 : Int32) (M : Mem) : Option Mem := cb (f_X8_firstError x M) fun r2 M3 => cb (f_X9_firstError mo M3) fun r5 M6 => if r2 = r5 then (some M6) else (none)
set_option maxHeartbeats 4000000 in
set_option maxRecDepth 100000 in
theorem law_c8 {p : Program} {e : Env} {s : State} {m : MethodId} {below : List Frame} {meth : Method} {c : Code} {b L : Nat} {xs : Nat → Int32} {Q : State → Prop} {C S : Nat} (G : Gt) (hG : gOK G) (hN0 : gNc G) (l : Launch) (hfl : l.stackTraces = false) (hx : p.tables.exec = Jvm.exec) (hb : c.code = cL_law) (hml : c.maxLocals = 10) (hown : s.vm.findClass "FoldedVoicesLaw" = some m.cls) (hts : KK s) (hV : (gS G).vm.Alike s.vm) (hX : va_X b L xs s s.heap) (hbl : b < s.heap.size) (hbA : ¬ gA G b) (x mo o d : Nat) (h1 : gK G x = 9) (h2 : gK G mo = 10) (h3 : gK G o = 9001) (h4 : gK G d = 10001) (x5 : Int32) (hc0 : C ≤ room_1.cells ∧ S ≤ room_1.slots) (hc1 : C + 1 ≤ room_1.cells ∧ S + 6 ≤ room_1.slots) {M M' : Mem} (hf : f_law_8 x mo o d xs L x5 M = some M') (hk : ∀ (H : Heap) (locs : List Loc) (ls : Array Slot), Mh G M' H → va_S (gA G) s.heap H locs → lv_has ls 10 [(0, .ref b), (1, .ref x), (2, .ref mo), (3, .ref o), (4, .ref d), (5, .int x5)] → W p l e room_1 s m #[Value.ref b] below meth c H locs (C + 1) (S + 6) Q (F0 m 1493 ls [])) : ∀ (H : Heap) (locs : List Loc) (ls : Array Slot), Mh G M H → va_S (gA G) s.heap H locs → lv_has ls 10 [(0, .ref b), (1, .ref x), (2, .ref mo), (3, .ref o), (4, .ref d), (5, .int x5)] → W p l e room_1 s m #[Value.ref b] below meth c H locs C S Q (F0 m 589 ls []) := by
  intro H locs ls hM hS hl
  have hK := hG.1.moved hV
  rw [f_law_8] at hf
  refine lv_aload_n hx hb dL_law_589 rfl (lv_at hl 1 rfl) ?_
  obtain ⟨r2, M3, e_1, hf⟩ := cb_e hf
  refine c_Vi hx hb hml hown hts hV hK hM hS (As := []) (rest := []) (k_X8_firstError G hG l x h1 M e_1) w_X8_firstError (tk_313 hts) (c_9 h1) rfl rfl ⟨⟨rfl, rfl⟩, Nat.le_of_ble_eq_true rfl, Nat.le_of_ble_eq_true rfl⟩ hc0 rfl hl.1 rfl (Nat.le_of_ble_eq_true rfl) dL_law_590 (fun H locs hM hS => ?_)
  refine lv_aload_n hx hb dL_law_593 rfl (lv_at hl 2 rfl) ?_
  obtain ⟨r5, M6, e_4, hf⟩ := cb_e hf
  refine c_Vi hx hb hml hown hts hV hK hM hS (As := []) (rest := [.int r2]) (k_X9_firstError G hG l mo h2 M3 e_4) w_X9_firstError (tk_1145 hts) (c_10 h2) rfl rfl ⟨⟨rfl, rfl⟩, Nat.le_of_ble_eq_true rfl, Nat.le_of_ble_eq_true rfl⟩ hc0 rfl hl.1 rfl (Nat.le_of_ble_eq_true rfl) dL_law_594 (fun H locs hM hS => ?_)
  refine lv_icmp_eq (tgt := 1493) hx hb dL_law_597 (by decide) (fun g_7 => ?_) (fun g_7 => ?_)
  · rw [if_pos g_7] at hf
    cases hf
    exact W.widen (by omega) (by omega) (hk H locs ls hM hS (lv_sub hl [0, 1, 2, 3, 4, 5] rfl))
  · rw [if_neg g_7] at hf
    refine lv_iconst (v := 0) hx hb dL_law_600 (by decide) ?_
    cases hf
def f_law_9 (x mo o d : Nat) (xs : Nat → Int32) (L : Nat) (x5 : Int32) (M : Mem) : Option Mem := cb (f_L_talk x o M) fun r2 M3 => cb (f_X9_talk mo M3) fun r5 M6 => vb (f_X9_thrown mo M6) fun r8 => if r8 = r2 then (if r2 = 0 then (gd (ix 0 1) <| if (lg_cmp (mJ M6 o) r5.toInt64) = 0 then (some M6) else (none)) else (some M6)) else (none)
set_option maxHeartbeats 4000000 in
set_option maxRecDepth 100000 in
theorem law_c9 {p : Program} {e : Env} {s : State} {m : MethodId} {below : List Frame} {meth : Method} {c : Code} {b L : Nat} {xs : Nat → Int32} {Q : State → Prop} {C S : Nat} (G : Gt) (hG : gOK G) (hN0 : gNc G) (l : Launch) (hfl : l.stackTraces = false) (hx : p.tables.exec = Jvm.exec) (hb : c.code = cL_law) (hml : c.maxLocals = 10) (hown : s.vm.findClass "FoldedVoicesLaw" = some m.cls) (hts : KK s) (hV : (gS G).vm.Alike s.vm) (hX : va_X b L xs s s.heap) (hbl : b < s.heap.size) (hbA : ¬ gA G b) (x mo o d : Nat) (h1 : gK G x = 9) (h2 : gK G mo = 10) (h3 : gK G o = 9001) (h4 : gK G d = 10001) (x5 : Int32) (hc0 : C ≤ room_1.cells ∧ S ≤ room_1.slots) (hc1 : C + 1 ≤ room_1.cells ∧ S + 6 ≤ room_1.slots) {M M' : Mem} (hf : f_law_9 x mo o d xs L x5 M = some M') (hk : ∀ (H : Heap) (locs : List Loc) (ls : Array Slot), Mh G M' H → va_S (gA G) s.heap H locs → lv_has ls 10 [(0, .ref b), (1, .ref x), (2, .ref mo), (3, .ref o), (4, .ref d), (5, .int x5)] → W p l e room_1 s m #[Value.ref b] below meth c H locs (C + 1) (S + 6) Q (F0 m 1493 ls [])) : ∀ (H : Heap) (locs : List Loc) (ls : Array Slot), Mh G M H → va_S (gA G) s.heap H locs → lv_has ls 10 [(0, .ref b), (1, .ref x), (2, .ref mo), (3, .ref o), (4, .ref d), (5, .int x5)] → W p l e room_1 s m #[Value.ref b] below meth c H locs C S Q (F0 m 602 ls []) := by
  intro H locs ls hM hS hl
  have hK := hG.1.moved hV
  rw [f_law_9] at hf
  refine lv_aload_n hx hb dL_law_602 rfl (lv_at hl 1 rfl) ?_
  refine lv_aload_n hx hb dL_law_603 rfl (lv_at hl 3 rfl) ?_
  obtain ⟨r2, M3, e_1, hf⟩ := cb_e hf
  refine c_W hx hb hml hown hts hV hM hS (As := [.ref x, .ref o]) (rest := []) (k_L_talk G hG hN0 l hfl x h1 o h3 M e_1) w_L_talk (tk_828 hts) ⟨⟨rfl, rfl⟩, Nat.le_of_ble_eq_true rfl, Nat.le_of_ble_eq_true rfl⟩ hc1 rfl hl.1 rfl (Nat.le_of_ble_eq_true rfl) dL_law_604 (fun H locs hM hS => ?_)
  refine lv_istore (lv' := [(6, .int r2), (0, .ref b), (1, .ref x), (2, .ref mo), (3, .ref o), (4, .ref d), (5, .int x5)]) hx hb dL_law_607 hl (by decide) rfl (fun ls hl => ?_)
  refine lv_aload_n hx hb dL_law_609 rfl (lv_at hl 3 rfl) ?_
  obtain ⟨r5, M6, e_4, hf⟩ := cb_e hf
  refine c_Vi hx hb hml hown hts hV hK hM hS (As := []) (rest := []) (k_X9_talk G hG l mo h2 M3 e_4) w_X9_talk (tk_1177 hts) (c_10 h2) rfl rfl ⟨⟨rfl, rfl⟩, Nat.le_of_ble_eq_true rfl, Nat.le_of_ble_eq_true rfl⟩ hc1 rfl hl.1 rfl (Nat.le_of_ble_eq_true rfl) dL_law_610 (fun H locs hM hS => ?_)
  refine lv_istore (lv' := [(7, .int r5), (6, .int r2), (0, .ref b), (1, .ref x), (2, .ref mo), (3, .ref o), (4, .ref d), (5, .int x5)]) hx hb dL_law_613 hl (by decide) rfl (fun ls hl => ?_)
  refine lv_aload_n hx hb dL_law_615 rfl (lv_at hl 4 rfl) ?_
  obtain ⟨r8, e_7, hf⟩ := vb_e hf
  refine c_Vi hx hb hml hown hts hV hK hM hS (As := []) (rest := []) (k_X9_thrown G hG l mo h2 M6 e_7) w_X9_thrown (tk_1012 hts) (c_10 h2) rfl rfl ⟨⟨rfl, rfl⟩, Nat.le_of_ble_eq_true rfl, Nat.le_of_ble_eq_true rfl⟩ hc1 rfl hl.1 rfl (Nat.le_of_ble_eq_true rfl) dL_law_616 (fun H locs hM hS => ?_)
  refine lv_iload hx hb dL_law_619 (lv_at hl 1 rfl) ?_
  refine lv_icmp_eq (tgt := 626) hx hb dL_law_621 (by decide) (fun g_9 => ?_) (fun g_9 => ?_)
  · rw [if_pos g_9] at hf
    refine lv_iload hx hb dL_law_626 (lv_at hl 1 rfl) ?_
    refine lv_if_ne (tgt := 643) hx hb dL_law_628 (by decide) (fun g_10 => ?_) (fun g_10 => ?_)
    · rw [if_neg g_10] at hf
      refine lv_goto (tgt := 1493) hx hb dL_law_643 (by decide) ?_
      cases hf
      exact W.widen (by omega) (by omega) (hk H locs ls hM hS (lv_sub hl [2, 3, 4, 5, 6, 7] rfl))
    · rw [if_pos g_10] at hf
      refine lv_aload_n hx hb dL_law_631 rfl (lv_at hl 5 rfl) ?_
      refine lv_iconst (v := 0) hx hb dL_law_632 (by decide) ?_
      obtain ⟨h_11, hf⟩ := gd_e hf
      refine s_lald hx hb hK hM h3 h_11 dL_law_633 ?_
      refine lv_iload hx hb dL_law_634 (lv_at hl 0 rfl) ?_
      refine lv_i2l hx hb dL_law_636 rfl ?_
      refine W.lcmp hx hb dL_law_637 ?_
      refine lv_if_eq (tgt := 643) hx hb dL_law_638 (by decide) (fun g_12 => ?_) (fun g_12 => ?_)
      · rw [if_pos g_12] at hf
        refine lv_goto (tgt := 1493) hx hb dL_law_643 (by decide) ?_
        cases hf
        exact W.widen (by omega) (by omega) (hk H locs ls hM hS (lv_sub hl [2, 3, 4, 5, 6, 7] rfl))
      · rw [if_neg g_12] at hf
        refine lv_iconst (v := 0) hx hb dL_law_641 (by decide) ?_
        cases hf
  · rw [if_neg g_9] at hf
    refine lv_iconst (v := 0) hx hb dL_law_624 (by decide) ?_
    cases hf
def f_law_10 (x mo o d : Nat) (xs : Nat → Int32) (L : Nat) (x5 : Int32) (M : Mem) : Option Mem := cb (f_X8_keep x M) fun r2 M3 => cb (f_X9_keep mo M3) fun r5 M6 => if r2 = r5 then (some M6) else (none)
set_option maxHeartbeats 4000000 in
set_option maxRecDepth 100000 in
theorem law_c10 {p : Program} {e : Env} {s : State} {m : MethodId} {below : List Frame} {meth : Method} {c : Code} {b L : Nat} {xs : Nat → Int32} {Q : State → Prop} {C S : Nat} (G : Gt) (hG : gOK G) (hN0 : gNc G) (l : Launch) (hfl : l.stackTraces = false) (hx : p.tables.exec = Jvm.exec) (hb : c.code = cL_law) (hml : c.maxLocals = 10) (hown : s.vm.findClass "FoldedVoicesLaw" = some m.cls) (hts : KK s) (hV : (gS G).vm.Alike s.vm) (hX : va_X b L xs s s.heap) (hbl : b < s.heap.size) (hbA : ¬ gA G b) (x mo o d : Nat) (h1 : gK G x = 9) (h2 : gK G mo = 10) (h3 : gK G o = 9001) (h4 : gK G d = 10001) (x5 : Int32) (hc0 : C ≤ room_1.cells ∧ S ≤ room_1.slots) (hc1 : C + 1 ≤ room_1.cells ∧ S + 6 ≤ room_1.slots) {M M' : Mem} (hf : f_law_10 x mo o d xs L x5 M = some M') (hk : ∀ (H : Heap) (locs : List Loc) (ls : Array Slot), Mh G M' H → va_S (gA G) s.heap H locs → lv_has ls 10 [(0, .ref b), (1, .ref x), (2, .ref mo), (3, .ref o), (4, .ref d), (5, .int x5)] → W p l e room_1 s m #[Value.ref b] below meth c H locs (C + 1) (S + 6) Q (F0 m 1493 ls [])) : ∀ (H : Heap) (locs : List Loc) (ls : Array Slot), Mh G M H → va_S (gA G) s.heap H locs → lv_has ls 10 [(0, .ref b), (1, .ref x), (2, .ref mo), (3, .ref o), (4, .ref d), (5, .int x5)] → W p l e room_1 s m #[Value.ref b] below meth c H locs C S Q (F0 m 646 ls []) := by
  intro H locs ls hM hS hl
  have hK := hG.1.moved hV
  rw [f_law_10] at hf
  refine lv_aload_n hx hb dL_law_646 rfl (lv_at hl 1 rfl) ?_
  obtain ⟨r2, M3, e_1, hf⟩ := cb_e hf
  refine c_Vi hx hb hml hown hts hV hK hM hS (As := []) (rest := []) (k_X8_keep G hG l x h1 M e_1) w_X8_keep (tk_343 hts) (c_9 h1) rfl rfl ⟨⟨rfl, rfl⟩, Nat.le_of_ble_eq_true rfl, Nat.le_of_ble_eq_true rfl⟩ hc0 rfl hl.1 rfl (Nat.le_of_ble_eq_true rfl) dL_law_647 (fun H locs hM hS => ?_)
  refine lv_aload_n hx hb dL_law_650 rfl (lv_at hl 2 rfl) ?_
  obtain ⟨r5, M6, e_4, hf⟩ := cb_e hf
  refine c_Vi hx hb hml hown hts hV hK hM hS (As := []) (rest := [.int r2]) (k_X9_keep G hG l mo h2 M3 e_4) w_X9_keep (tk_1189 hts) (c_10 h2) rfl rfl ⟨⟨rfl, rfl⟩, Nat.le_of_ble_eq_true rfl, Nat.le_of_ble_eq_true rfl⟩ hc0 rfl hl.1 rfl (Nat.le_of_ble_eq_true rfl) dL_law_651 (fun H locs hM hS => ?_)
  refine lv_icmp_eq (tgt := 1493) hx hb dL_law_654 (by decide) (fun g_7 => ?_) (fun g_7 => ?_)
  · rw [if_pos g_7] at hf
    cases hf
    exact W.widen (by omega) (by omega) (hk H locs ls hM hS (lv_sub hl [0, 1, 2, 3, 4, 5] rfl))
  · rw [if_neg g_7] at hf
    refine lv_iconst (v := 0) hx hb dL_law_657 (by decide) ?_
    cases hf
def f_law_11 (x mo o d : Nat) (xs : Nat → Int32) (L : Nat) (x5 : Int32) (M : Mem) : Option Mem := cb (f_L_goBack x o M) fun r2 M3 => cb (f_X9_goBack mo M3) fun r5 M6 => vb (f_X9_thrown mo M6) fun r8 => if r8 = r2 then (if r2 = 0 then (gd (ix 0 1) <| if (lg_cmp (mJ M6 o) r5.toInt64) = 0 then (some M6) else (none)) else (some M6)) else (none)
set_option maxHeartbeats 4000000 in
set_option maxRecDepth 100000 in
theorem law_c11 {p : Program} {e : Env} {s : State} {m : MethodId} {below : List Frame} {meth : Method} {c : Code} {b L : Nat} {xs : Nat → Int32} {Q : State → Prop} {C S : Nat} (G : Gt) (hG : gOK G) (hN0 : gNc G) (l : Launch) (hfl : l.stackTraces = false) (hx : p.tables.exec = Jvm.exec) (hb : c.code = cL_law) (hml : c.maxLocals = 10) (hown : s.vm.findClass "FoldedVoicesLaw" = some m.cls) (hts : KK s) (hV : (gS G).vm.Alike s.vm) (hX : va_X b L xs s s.heap) (hbl : b < s.heap.size) (hbA : ¬ gA G b) (x mo o d : Nat) (h1 : gK G x = 9) (h2 : gK G mo = 10) (h3 : gK G o = 9001) (h4 : gK G d = 10001) (x5 : Int32) (hc0 : C ≤ room_1.cells ∧ S ≤ room_1.slots) (hc1 : C + 1 ≤ room_1.cells ∧ S + 6 ≤ room_1.slots) {M M' : Mem} (hf : f_law_11 x mo o d xs L x5 M = some M') (hk : ∀ (H : Heap) (locs : List Loc) (ls : Array Slot), Mh G M' H → va_S (gA G) s.heap H locs → lv_has ls 10 [(0, .ref b), (1, .ref x), (2, .ref mo), (3, .ref o), (4, .ref d), (5, .int x5)] → W p l e room_1 s m #[Value.ref b] below meth c H locs (C + 1) (S + 6) Q (F0 m 1493 ls [])) : ∀ (H : Heap) (locs : List Loc) (ls : Array Slot), Mh G M H → va_S (gA G) s.heap H locs → lv_has ls 10 [(0, .ref b), (1, .ref x), (2, .ref mo), (3, .ref o), (4, .ref d), (5, .int x5)] → W p l e room_1 s m #[Value.ref b] below meth c H locs C S Q (F0 m 659 ls []) := by
  intro H locs ls hM hS hl
  have hK := hG.1.moved hV
  rw [f_law_11] at hf
  refine lv_aload_n hx hb dL_law_659 rfl (lv_at hl 1 rfl) ?_
  refine lv_aload_n hx hb dL_law_660 rfl (lv_at hl 3 rfl) ?_
  obtain ⟨r2, M3, e_1, hf⟩ := cb_e hf
  refine c_W hx hb hml hown hts hV hM hS (As := [.ref x, .ref o]) (rest := []) (k_L_goBack G hG hN0 l hfl x h1 o h3 M e_1) w_L_goBack (tk_861 hts) ⟨⟨rfl, rfl⟩, Nat.le_of_ble_eq_true rfl, Nat.le_of_ble_eq_true rfl⟩ hc1 rfl hl.1 rfl (Nat.le_of_ble_eq_true rfl) dL_law_661 (fun H locs hM hS => ?_)
  refine lv_istore (lv' := [(6, .int r2), (0, .ref b), (1, .ref x), (2, .ref mo), (3, .ref o), (4, .ref d), (5, .int x5)]) hx hb dL_law_664 hl (by decide) rfl (fun ls hl => ?_)
  refine lv_aload_n hx hb dL_law_666 rfl (lv_at hl 3 rfl) ?_
  obtain ⟨r5, M6, e_4, hf⟩ := cb_e hf
  refine c_Vi hx hb hml hown hts hV hK hM hS (As := []) (rest := []) (k_X9_goBack G hG l mo h2 M3 e_4) w_X9_goBack (tk_1193 hts) (c_10 h2) rfl rfl ⟨⟨rfl, rfl⟩, Nat.le_of_ble_eq_true rfl, Nat.le_of_ble_eq_true rfl⟩ hc1 rfl hl.1 rfl (Nat.le_of_ble_eq_true rfl) dL_law_667 (fun H locs hM hS => ?_)
  refine lv_istore (lv' := [(7, .int r5), (6, .int r2), (0, .ref b), (1, .ref x), (2, .ref mo), (3, .ref o), (4, .ref d), (5, .int x5)]) hx hb dL_law_670 hl (by decide) rfl (fun ls hl => ?_)
  refine lv_aload_n hx hb dL_law_672 rfl (lv_at hl 4 rfl) ?_
  obtain ⟨r8, e_7, hf⟩ := vb_e hf
  refine c_Vi hx hb hml hown hts hV hK hM hS (As := []) (rest := []) (k_X9_thrown G hG l mo h2 M6 e_7) w_X9_thrown (tk_1012 hts) (c_10 h2) rfl rfl ⟨⟨rfl, rfl⟩, Nat.le_of_ble_eq_true rfl, Nat.le_of_ble_eq_true rfl⟩ hc1 rfl hl.1 rfl (Nat.le_of_ble_eq_true rfl) dL_law_673 (fun H locs hM hS => ?_)
  refine lv_iload hx hb dL_law_676 (lv_at hl 1 rfl) ?_
  refine lv_icmp_eq (tgt := 683) hx hb dL_law_678 (by decide) (fun g_9 => ?_) (fun g_9 => ?_)
  · rw [if_pos g_9] at hf
    refine lv_iload hx hb dL_law_683 (lv_at hl 1 rfl) ?_
    refine lv_if_ne (tgt := 700) hx hb dL_law_685 (by decide) (fun g_10 => ?_) (fun g_10 => ?_)
    · rw [if_neg g_10] at hf
      refine lv_goto (tgt := 1493) hx hb dL_law_700 (by decide) ?_
      cases hf
      exact W.widen (by omega) (by omega) (hk H locs ls hM hS (lv_sub hl [2, 3, 4, 5, 6, 7] rfl))
    · rw [if_pos g_10] at hf
      refine lv_aload_n hx hb dL_law_688 rfl (lv_at hl 5 rfl) ?_
      refine lv_iconst (v := 0) hx hb dL_law_689 (by decide) ?_
      obtain ⟨h_11, hf⟩ := gd_e hf
      refine s_lald hx hb hK hM h3 h_11 dL_law_690 ?_
      refine lv_iload hx hb dL_law_691 (lv_at hl 0 rfl) ?_
      refine lv_i2l hx hb dL_law_693 rfl ?_
      refine W.lcmp hx hb dL_law_694 ?_
      refine lv_if_eq (tgt := 700) hx hb dL_law_695 (by decide) (fun g_12 => ?_) (fun g_12 => ?_)
      · rw [if_pos g_12] at hf
        refine lv_goto (tgt := 1493) hx hb dL_law_700 (by decide) ?_
        cases hf
        exact W.widen (by omega) (by omega) (hk H locs ls hM hS (lv_sub hl [2, 3, 4, 5, 6, 7] rfl))
      · rw [if_neg g_12] at hf
        refine lv_iconst (v := 0) hx hb dL_law_698 (by decide) ?_
        cases hf
  · rw [if_neg g_9] at hf
    refine lv_iconst (v := 0) hx hb dL_law_681 (by decide) ?_
    cases hf
def f_law_12 (x mo o d : Nat) (xs : Nat → Int32) (L : Nat) (x5 : Int32) (M : Mem) : Option Mem := cb (f_L_undo x o M) fun r2 M3 => cb (f_X9_undo mo M3) fun r5 M6 => vb (f_X9_thrown mo M6) fun r8 => if r8 = r2 then (if r2 = 0 then (gd (ix 0 1) <| if (lg_cmp (mJ M6 o) r5.toInt64) = 0 then (some M6) else (none)) else (some M6)) else (none)
set_option maxHeartbeats 4000000 in
set_option maxRecDepth 100000 in
theorem law_c12 {p : Program} {e : Env} {s : State} {m : MethodId} {below : List Frame} {meth : Method} {c : Code} {b L : Nat} {xs : Nat → Int32} {Q : State → Prop} {C S : Nat} (G : Gt) (hG : gOK G) (hN0 : gNc G) (l : Launch) (hfl : l.stackTraces = false) (hx : p.tables.exec = Jvm.exec) (hb : c.code = cL_law) (hml : c.maxLocals = 10) (hown : s.vm.findClass "FoldedVoicesLaw" = some m.cls) (hts : KK s) (hV : (gS G).vm.Alike s.vm) (hX : va_X b L xs s s.heap) (hbl : b < s.heap.size) (hbA : ¬ gA G b) (x mo o d : Nat) (h1 : gK G x = 9) (h2 : gK G mo = 10) (h3 : gK G o = 9001) (h4 : gK G d = 10001) (x5 : Int32) (hc0 : C ≤ room_1.cells ∧ S ≤ room_1.slots) (hc1 : C + 1 ≤ room_1.cells ∧ S + 6 ≤ room_1.slots) {M M' : Mem} (hf : f_law_12 x mo o d xs L x5 M = some M') (hk : ∀ (H : Heap) (locs : List Loc) (ls : Array Slot), Mh G M' H → va_S (gA G) s.heap H locs → lv_has ls 10 [(0, .ref b), (1, .ref x), (2, .ref mo), (3, .ref o), (4, .ref d), (5, .int x5)] → W p l e room_1 s m #[Value.ref b] below meth c H locs (C + 1) (S + 6) Q (F0 m 1493 ls [])) : ∀ (H : Heap) (locs : List Loc) (ls : Array Slot), Mh G M H → va_S (gA G) s.heap H locs → lv_has ls 10 [(0, .ref b), (1, .ref x), (2, .ref mo), (3, .ref o), (4, .ref d), (5, .int x5)] → W p l e room_1 s m #[Value.ref b] below meth c H locs C S Q (F0 m 703 ls []) := by
  intro H locs ls hM hS hl
  have hK := hG.1.moved hV
  rw [f_law_12] at hf
  refine lv_aload_n hx hb dL_law_703 rfl (lv_at hl 1 rfl) ?_
  refine lv_aload_n hx hb dL_law_704 rfl (lv_at hl 3 rfl) ?_
  obtain ⟨r2, M3, e_1, hf⟩ := cb_e hf
  refine c_W hx hb hml hown hts hV hM hS (As := [.ref x, .ref o]) (rest := []) (k_L_undo G hG hN0 l hfl x h1 o h3 M e_1) w_L_undo (tk_869 hts) ⟨⟨rfl, rfl⟩, Nat.le_of_ble_eq_true rfl, Nat.le_of_ble_eq_true rfl⟩ hc1 rfl hl.1 rfl (Nat.le_of_ble_eq_true rfl) dL_law_705 (fun H locs hM hS => ?_)
  refine lv_istore (lv' := [(6, .int r2), (0, .ref b), (1, .ref x), (2, .ref mo), (3, .ref o), (4, .ref d), (5, .int x5)]) hx hb dL_law_708 hl (by decide) rfl (fun ls hl => ?_)
  refine lv_aload_n hx hb dL_law_710 rfl (lv_at hl 3 rfl) ?_
  obtain ⟨r5, M6, e_4, hf⟩ := cb_e hf
  refine c_Vi hx hb hml hown hts hV hK hM hS (As := []) (rest := []) (k_X9_undo G hG l mo h2 M3 e_4) w_X9_undo (tk_1197 hts) (c_10 h2) rfl rfl ⟨⟨rfl, rfl⟩, Nat.le_of_ble_eq_true rfl, Nat.le_of_ble_eq_true rfl⟩ hc1 rfl hl.1 rfl (Nat.le_of_ble_eq_true rfl) dL_law_711 (fun H locs hM hS => ?_)
  refine lv_istore (lv' := [(7, .int r5), (6, .int r2), (0, .ref b), (1, .ref x), (2, .ref mo), (3, .ref o), (4, .ref d), (5, .int x5)]) hx hb dL_law_714 hl (by decide) rfl (fun ls hl => ?_)
  refine lv_aload_n hx hb dL_law_716 rfl (lv_at hl 4 rfl) ?_
  obtain ⟨r8, e_7, hf⟩ := vb_e hf
  refine c_Vi hx hb hml hown hts hV hK hM hS (As := []) (rest := []) (k_X9_thrown G hG l mo h2 M6 e_7) w_X9_thrown (tk_1012 hts) (c_10 h2) rfl rfl ⟨⟨rfl, rfl⟩, Nat.le_of_ble_eq_true rfl, Nat.le_of_ble_eq_true rfl⟩ hc1 rfl hl.1 rfl (Nat.le_of_ble_eq_true rfl) dL_law_717 (fun H locs hM hS => ?_)
  refine lv_iload hx hb dL_law_720 (lv_at hl 1 rfl) ?_
  refine lv_icmp_eq (tgt := 727) hx hb dL_law_722 (by decide) (fun g_9 => ?_) (fun g_9 => ?_)
  · rw [if_pos g_9] at hf
    refine lv_iload hx hb dL_law_727 (lv_at hl 1 rfl) ?_
    refine lv_if_ne (tgt := 744) hx hb dL_law_729 (by decide) (fun g_10 => ?_) (fun g_10 => ?_)
    · rw [if_neg g_10] at hf
      refine lv_goto (tgt := 1493) hx hb dL_law_744 (by decide) ?_
      cases hf
      exact W.widen (by omega) (by omega) (hk H locs ls hM hS (lv_sub hl [2, 3, 4, 5, 6, 7] rfl))
    · rw [if_pos g_10] at hf
      refine lv_aload_n hx hb dL_law_732 rfl (lv_at hl 5 rfl) ?_
      refine lv_iconst (v := 0) hx hb dL_law_733 (by decide) ?_
      obtain ⟨h_11, hf⟩ := gd_e hf
      refine s_lald hx hb hK hM h3 h_11 dL_law_734 ?_
      refine lv_iload hx hb dL_law_735 (lv_at hl 0 rfl) ?_
      refine lv_i2l hx hb dL_law_737 rfl ?_
      refine W.lcmp hx hb dL_law_738 ?_
      refine lv_if_eq (tgt := 744) hx hb dL_law_739 (by decide) (fun g_12 => ?_) (fun g_12 => ?_)
      · rw [if_pos g_12] at hf
        refine lv_goto (tgt := 1493) hx hb dL_law_744 (by decide) ?_
        cases hf
        exact W.widen (by omega) (by omega) (hk H locs ls hM hS (lv_sub hl [2, 3, 4, 5, 6, 7] rfl))
      · rw [if_neg g_12] at hf
        refine lv_iconst (v := 0) hx hb dL_law_742 (by decide) ?_
        cases hf
  · rw [if_neg g_9] at hf
    refine lv_iconst (v := 0) hx hb dL_law_725 (by decide) ?_
    cases hf
def f_law_13 (x mo o d : Nat) (xs : Nat → Int32) (L : Nat) (x5 : Int32) (M : Mem) : Option Mem := gd (ix (x5 + 1) L) <| gd (ix (x5 + 2) L) <| cb (f_L_saying x (xs (x5 + 1).toNatClampNeg) (xs (x5 + 2).toNatClampNeg) o M) fun r4 M5 => gd (ix (x5 + 1) L) <| gd (ix (x5 + 2) L) <| cb (f_X9_saying mo (xs (x5 + 1).toNatClampNeg) (xs (x5 + 2).toNatClampNeg) M5) fun r9 M10 => vb (f_X9_thrown mo M10) fun r12 => if r12 = r4 then (if r4 = 0 then (gd (ix 0 1) <| if (lg_cmp (mJ M10 o) r9.toInt64) = 0 then (some M10) else (none)) else (some M10)) else (none)
set_option maxHeartbeats 4000000 in
set_option maxRecDepth 100000 in
theorem law_c13 {p : Program} {e : Env} {s : State} {m : MethodId} {below : List Frame} {meth : Method} {c : Code} {b L : Nat} {xs : Nat → Int32} {Q : State → Prop} {C S : Nat} (G : Gt) (hG : gOK G) (hN0 : gNc G) (l : Launch) (hfl : l.stackTraces = false) (hx : p.tables.exec = Jvm.exec) (hb : c.code = cL_law) (hml : c.maxLocals = 10) (hown : s.vm.findClass "FoldedVoicesLaw" = some m.cls) (hts : KK s) (hV : (gS G).vm.Alike s.vm) (hX : va_X b L xs s s.heap) (hbl : b < s.heap.size) (hbA : ¬ gA G b) (x mo o d : Nat) (h1 : gK G x = 9) (h2 : gK G mo = 10) (h3 : gK G o = 9001) (h4 : gK G d = 10001) (x5 : Int32) (hc0 : C ≤ room_1.cells ∧ S ≤ room_1.slots) (hc1 : C + 1 ≤ room_1.cells ∧ S + 6 ≤ room_1.slots) {M M' : Mem} (hf : f_law_13 x mo o d xs L x5 M = some M') (hk : ∀ (H : Heap) (locs : List Loc) (ls : Array Slot), Mh G M' H → va_S (gA G) s.heap H locs → lv_has ls 10 [(0, .ref b), (1, .ref x), (2, .ref mo), (3, .ref o), (4, .ref d), (5, .int x5)] → W p l e room_1 s m #[Value.ref b] below meth c H locs (C + 1) (S + 6) Q (F0 m 1493 ls [])) : ∀ (H : Heap) (locs : List Loc) (ls : Array Slot), Mh G M H → va_S (gA G) s.heap H locs → lv_has ls 10 [(0, .ref b), (1, .ref x), (2, .ref mo), (3, .ref o), (4, .ref d), (5, .int x5)] → W p l e room_1 s m #[Value.ref b] below meth c H locs C S Q (F0 m 747 ls []) := by
  intro H locs ls hM hS hl
  have hK := hG.1.moved hV
  rw [f_law_13] at hf
  refine lv_aload_n hx hb dL_law_747 rfl (lv_at hl 1 rfl) ?_
  refine lv_aload_n hx hb dL_law_748 rfl (lv_at hl 0 rfl) ?_
  refine lv_iload hx hb dL_law_749 (lv_at hl 5 rfl) ?_
  refine lv_iconst (v := 1) hx hb dL_law_751 (by decide) ?_
  refine lv_iadd hx hb dL_law_752 ?_
  obtain ⟨h_1, hf⟩ := gd_e hf
  refine va_sld hx hb hX hbl hbA hS h_1 dL_law_753 ?_
  refine lv_aload_n hx hb dL_law_754 rfl (lv_at hl 0 rfl) ?_
  refine lv_iload hx hb dL_law_755 (lv_at hl 5 rfl) ?_
  refine lv_iconst (v := 2) hx hb dL_law_757 (by decide) ?_
  refine lv_iadd hx hb dL_law_758 ?_
  obtain ⟨h_2, hf⟩ := gd_e hf
  refine va_sld hx hb hX hbl hbA hS h_2 dL_law_759 ?_
  refine lv_aload_n hx hb dL_law_760 rfl (lv_at hl 3 rfl) ?_
  obtain ⟨r4, M5, e_3, hf⟩ := cb_e hf
  refine c_W hx hb hml hown hts hV hM hS (As := [.ref x, .int (xs (x5 + 1).toNatClampNeg), .int (xs (x5 + 2).toNatClampNeg), .ref o]) (rest := []) (k_L_saying G hG hN0 l hfl x h1 (xs (x5 + 1).toNatClampNeg) (xs (x5 + 2).toNatClampNeg) o h3 M e_3) w_L_saying (tk_877 hts) ⟨⟨rfl, rfl⟩, Nat.le_of_ble_eq_true rfl, Nat.le_of_ble_eq_true rfl⟩ hc1 rfl hl.1 rfl (Nat.le_of_ble_eq_true rfl) dL_law_761 (fun H locs hM hS => ?_)
  refine lv_istore (lv' := [(6, .int r4), (0, .ref b), (1, .ref x), (2, .ref mo), (3, .ref o), (4, .ref d), (5, .int x5)]) hx hb dL_law_764 hl (by decide) rfl (fun ls hl => ?_)
  refine lv_aload_n hx hb dL_law_766 rfl (lv_at hl 3 rfl) ?_
  refine lv_aload_n hx hb dL_law_767 rfl (lv_at hl 1 rfl) ?_
  refine lv_iload hx hb dL_law_768 (lv_at hl 6 rfl) ?_
  refine lv_iconst (v := 1) hx hb dL_law_770 (by decide) ?_
  refine lv_iadd hx hb dL_law_771 ?_
  obtain ⟨h_6, hf⟩ := gd_e hf
  refine va_sld hx hb hX hbl hbA hS h_6 dL_law_772 ?_
  refine lv_aload_n hx hb dL_law_773 rfl (lv_at hl 1 rfl) ?_
  refine lv_iload hx hb dL_law_774 (lv_at hl 6 rfl) ?_
  refine lv_iconst (v := 2) hx hb dL_law_776 (by decide) ?_
  refine lv_iadd hx hb dL_law_777 ?_
  obtain ⟨h_7, hf⟩ := gd_e hf
  refine va_sld hx hb hX hbl hbA hS h_7 dL_law_778 ?_
  obtain ⟨r9, M10, e_8, hf⟩ := cb_e hf
  refine c_Vi hx hb hml hown hts hV hK hM hS (As := [.int (xs (x5 + 1).toNatClampNeg), .int (xs (x5 + 2).toNatClampNeg)]) (rest := []) (k_X9_saying G hG l mo h2 (xs (x5 + 1).toNatClampNeg) (xs (x5 + 2).toNatClampNeg) M5 e_8) w_X9_saying (tk_1201 hts) (c_10 h2) rfl rfl ⟨⟨rfl, rfl⟩, Nat.le_of_ble_eq_true rfl, Nat.le_of_ble_eq_true rfl⟩ hc1 rfl hl.1 rfl (Nat.le_of_ble_eq_true rfl) dL_law_779 (fun H locs hM hS => ?_)
  refine lv_istore (lv' := [(7, .int r9), (6, .int r4), (0, .ref b), (1, .ref x), (2, .ref mo), (3, .ref o), (4, .ref d), (5, .int x5)]) hx hb dL_law_782 hl (by decide) rfl (fun ls hl => ?_)
  refine lv_aload_n hx hb dL_law_784 rfl (lv_at hl 4 rfl) ?_
  obtain ⟨r12, e_11, hf⟩ := vb_e hf
  refine c_Vi hx hb hml hown hts hV hK hM hS (As := []) (rest := []) (k_X9_thrown G hG l mo h2 M10 e_11) w_X9_thrown (tk_1012 hts) (c_10 h2) rfl rfl ⟨⟨rfl, rfl⟩, Nat.le_of_ble_eq_true rfl, Nat.le_of_ble_eq_true rfl⟩ hc1 rfl hl.1 rfl (Nat.le_of_ble_eq_true rfl) dL_law_785 (fun H locs hM hS => ?_)
  refine lv_iload hx hb dL_law_788 (lv_at hl 1 rfl) ?_
  refine lv_icmp_eq (tgt := 795) hx hb dL_law_790 (by decide) (fun g_13 => ?_) (fun g_13 => ?_)
  · rw [if_pos g_13] at hf
    refine lv_iload hx hb dL_law_795 (lv_at hl 1 rfl) ?_
    refine lv_if_ne (tgt := 812) hx hb dL_law_797 (by decide) (fun g_14 => ?_) (fun g_14 => ?_)
    · rw [if_neg g_14] at hf
      refine lv_goto (tgt := 1493) hx hb dL_law_812 (by decide) ?_
      cases hf
      exact W.widen (by omega) (by omega) (hk H locs ls hM hS (lv_sub hl [2, 3, 4, 5, 6, 7] rfl))
    · rw [if_pos g_14] at hf
      refine lv_aload_n hx hb dL_law_800 rfl (lv_at hl 5 rfl) ?_
      refine lv_iconst (v := 0) hx hb dL_law_801 (by decide) ?_
      obtain ⟨h_15, hf⟩ := gd_e hf
      refine s_lald hx hb hK hM h3 h_15 dL_law_802 ?_
      refine lv_iload hx hb dL_law_803 (lv_at hl 0 rfl) ?_
      refine lv_i2l hx hb dL_law_805 rfl ?_
      refine W.lcmp hx hb dL_law_806 ?_
      refine lv_if_eq (tgt := 812) hx hb dL_law_807 (by decide) (fun g_16 => ?_) (fun g_16 => ?_)
      · rw [if_pos g_16] at hf
        refine lv_goto (tgt := 1493) hx hb dL_law_812 (by decide) ?_
        cases hf
        exact W.widen (by omega) (by omega) (hk H locs ls hM hS (lv_sub hl [2, 3, 4, 5, 6, 7] rfl))
      · rw [if_neg g_16] at hf
        refine lv_iconst (v := 0) hx hb dL_law_810 (by decide) ?_
        cases hf
  · rw [if_neg g_13] at hf
    refine lv_iconst (v := 0) hx hb dL_law_793 (by decide) ?_
    cases hf
def f_law_14 (x mo o d : Nat) (xs : Nat → Int32) (L : Nat) (x5 : Int32) (M : Mem) : Option Mem := gd (ix (x5 + 1) L) <| gd (ix (x5 + 2) L) <| cb (f_L_hearing x (xs (x5 + 1).toNatClampNeg) (xs (x5 + 2).toNatClampNeg) o M) fun r4 M5 => gd (ix (x5 + 1) L) <| gd (ix (x5 + 2) L) <| cb (f_X9_hearing mo (xs (x5 + 1).toNatClampNeg) (xs (x5 + 2).toNatClampNeg) M5) fun r9 M10 => vb (f_X9_thrown mo M10) fun r12 => if r12 = r4 then (if r4 = 0 then (gd (ix 0 1) <| if (lg_cmp (mJ M10 o) r9.toInt64) = 0 then (some M10) else (none)) else (some M10)) else (none)
set_option maxHeartbeats 4000000 in
set_option maxRecDepth 100000 in
theorem law_c14 {p : Program} {e : Env} {s : State} {m : MethodId} {below : List Frame} {meth : Method} {c : Code} {b L : Nat} {xs : Nat → Int32} {Q : State → Prop} {C S : Nat} (G : Gt) (hG : gOK G) (hN0 : gNc G) (l : Launch) (hfl : l.stackTraces = false) (hx : p.tables.exec = Jvm.exec) (hb : c.code = cL_law) (hml : c.maxLocals = 10) (hown : s.vm.findClass "FoldedVoicesLaw" = some m.cls) (hts : KK s) (hV : (gS G).vm.Alike s.vm) (hX : va_X b L xs s s.heap) (hbl : b < s.heap.size) (hbA : ¬ gA G b) (x mo o d : Nat) (h1 : gK G x = 9) (h2 : gK G mo = 10) (h3 : gK G o = 9001) (h4 : gK G d = 10001) (x5 : Int32) (hc0 : C ≤ room_1.cells ∧ S ≤ room_1.slots) (hc1 : C + 1 ≤ room_1.cells ∧ S + 6 ≤ room_1.slots) {M M' : Mem} (hf : f_law_14 x mo o d xs L x5 M = some M') (hk : ∀ (H : Heap) (locs : List Loc) (ls : Array Slot), Mh G M' H → va_S (gA G) s.heap H locs → lv_has ls 10 [(0, .ref b), (1, .ref x), (2, .ref mo), (3, .ref o), (4, .ref d), (5, .int x5)] → W p l e room_1 s m #[Value.ref b] below meth c H locs (C + 1) (S + 6) Q (F0 m 1493 ls [])) : ∀ (H : Heap) (locs : List Loc) (ls : Array Slot), Mh G M H → va_S (gA G) s.heap H locs → lv_has ls 10 [(0, .ref b), (1, .ref x), (2, .ref mo), (3, .ref o), (4, .ref d), (5, .int x5)] → W p l e room_1 s m #[Value.ref b] below meth c H locs C S Q (F0 m 815 ls []) := by
  intro H locs ls hM hS hl
  have hK := hG.1.moved hV
  rw [f_law_14] at hf
  refine lv_aload_n hx hb dL_law_815 rfl (lv_at hl 1 rfl) ?_
  refine lv_aload_n hx hb dL_law_816 rfl (lv_at hl 0 rfl) ?_
  refine lv_iload hx hb dL_law_817 (lv_at hl 5 rfl) ?_
  refine lv_iconst (v := 1) hx hb dL_law_819 (by decide) ?_
  refine lv_iadd hx hb dL_law_820 ?_
  obtain ⟨h_1, hf⟩ := gd_e hf
  refine va_sld hx hb hX hbl hbA hS h_1 dL_law_821 ?_
  refine lv_aload_n hx hb dL_law_822 rfl (lv_at hl 0 rfl) ?_
  refine lv_iload hx hb dL_law_823 (lv_at hl 5 rfl) ?_
  refine lv_iconst (v := 2) hx hb dL_law_825 (by decide) ?_
  refine lv_iadd hx hb dL_law_826 ?_
  obtain ⟨h_2, hf⟩ := gd_e hf
  refine va_sld hx hb hX hbl hbA hS h_2 dL_law_827 ?_
  refine lv_aload_n hx hb dL_law_828 rfl (lv_at hl 3 rfl) ?_
  obtain ⟨r4, M5, e_3, hf⟩ := cb_e hf
  refine c_W hx hb hml hown hts hV hM hS (As := [.ref x, .int (xs (x5 + 1).toNatClampNeg), .int (xs (x5 + 2).toNatClampNeg), .ref o]) (rest := []) (k_L_hearing G hG hN0 l hfl x h1 (xs (x5 + 1).toNatClampNeg) (xs (x5 + 2).toNatClampNeg) o h3 M e_3) w_L_hearing (tk_888 hts) ⟨⟨rfl, rfl⟩, Nat.le_of_ble_eq_true rfl, Nat.le_of_ble_eq_true rfl⟩ hc1 rfl hl.1 rfl (Nat.le_of_ble_eq_true rfl) dL_law_829 (fun H locs hM hS => ?_)
  refine lv_istore (lv' := [(6, .int r4), (0, .ref b), (1, .ref x), (2, .ref mo), (3, .ref o), (4, .ref d), (5, .int x5)]) hx hb dL_law_832 hl (by decide) rfl (fun ls hl => ?_)
  refine lv_aload_n hx hb dL_law_834 rfl (lv_at hl 3 rfl) ?_
  refine lv_aload_n hx hb dL_law_835 rfl (lv_at hl 1 rfl) ?_
  refine lv_iload hx hb dL_law_836 (lv_at hl 6 rfl) ?_
  refine lv_iconst (v := 1) hx hb dL_law_838 (by decide) ?_
  refine lv_iadd hx hb dL_law_839 ?_
  obtain ⟨h_6, hf⟩ := gd_e hf
  refine va_sld hx hb hX hbl hbA hS h_6 dL_law_840 ?_
  refine lv_aload_n hx hb dL_law_841 rfl (lv_at hl 1 rfl) ?_
  refine lv_iload hx hb dL_law_842 (lv_at hl 6 rfl) ?_
  refine lv_iconst (v := 2) hx hb dL_law_844 (by decide) ?_
  refine lv_iadd hx hb dL_law_845 ?_
  obtain ⟨h_7, hf⟩ := gd_e hf
  refine va_sld hx hb hX hbl hbA hS h_7 dL_law_846 ?_
  obtain ⟨r9, M10, e_8, hf⟩ := cb_e hf
  refine c_Vi hx hb hml hown hts hV hK hM hS (As := [.int (xs (x5 + 1).toNatClampNeg), .int (xs (x5 + 2).toNatClampNeg)]) (rest := []) (k_X9_hearing G hG l mo h2 (xs (x5 + 1).toNatClampNeg) (xs (x5 + 2).toNatClampNeg) M5 e_8) w_X9_hearing (tk_1209 hts) (c_10 h2) rfl rfl ⟨⟨rfl, rfl⟩, Nat.le_of_ble_eq_true rfl, Nat.le_of_ble_eq_true rfl⟩ hc1 rfl hl.1 rfl (Nat.le_of_ble_eq_true rfl) dL_law_847 (fun H locs hM hS => ?_)
  refine lv_istore (lv' := [(7, .int r9), (6, .int r4), (0, .ref b), (1, .ref x), (2, .ref mo), (3, .ref o), (4, .ref d), (5, .int x5)]) hx hb dL_law_850 hl (by decide) rfl (fun ls hl => ?_)
  refine lv_aload_n hx hb dL_law_852 rfl (lv_at hl 4 rfl) ?_
  obtain ⟨r12, e_11, hf⟩ := vb_e hf
  refine c_Vi hx hb hml hown hts hV hK hM hS (As := []) (rest := []) (k_X9_thrown G hG l mo h2 M10 e_11) w_X9_thrown (tk_1012 hts) (c_10 h2) rfl rfl ⟨⟨rfl, rfl⟩, Nat.le_of_ble_eq_true rfl, Nat.le_of_ble_eq_true rfl⟩ hc1 rfl hl.1 rfl (Nat.le_of_ble_eq_true rfl) dL_law_853 (fun H locs hM hS => ?_)
  refine lv_iload hx hb dL_law_856 (lv_at hl 1 rfl) ?_
  refine lv_icmp_eq (tgt := 863) hx hb dL_law_858 (by decide) (fun g_13 => ?_) (fun g_13 => ?_)
  · rw [if_pos g_13] at hf
    refine lv_iload hx hb dL_law_863 (lv_at hl 1 rfl) ?_
    refine lv_if_ne (tgt := 880) hx hb dL_law_865 (by decide) (fun g_14 => ?_) (fun g_14 => ?_)
    · rw [if_neg g_14] at hf
      refine lv_goto (tgt := 1493) hx hb dL_law_880 (by decide) ?_
      cases hf
      exact W.widen (by omega) (by omega) (hk H locs ls hM hS (lv_sub hl [2, 3, 4, 5, 6, 7] rfl))
    · rw [if_pos g_14] at hf
      refine lv_aload_n hx hb dL_law_868 rfl (lv_at hl 5 rfl) ?_
      refine lv_iconst (v := 0) hx hb dL_law_869 (by decide) ?_
      obtain ⟨h_15, hf⟩ := gd_e hf
      refine s_lald hx hb hK hM h3 h_15 dL_law_870 ?_
      refine lv_iload hx hb dL_law_871 (lv_at hl 0 rfl) ?_
      refine lv_i2l hx hb dL_law_873 rfl ?_
      refine W.lcmp hx hb dL_law_874 ?_
      refine lv_if_eq (tgt := 880) hx hb dL_law_875 (by decide) (fun g_16 => ?_) (fun g_16 => ?_)
      · rw [if_pos g_16] at hf
        refine lv_goto (tgt := 1493) hx hb dL_law_880 (by decide) ?_
        cases hf
        exact W.widen (by omega) (by omega) (hk H locs ls hM hS (lv_sub hl [2, 3, 4, 5, 6, 7] rfl))
      · rw [if_neg g_16] at hf
        refine lv_iconst (v := 0) hx hb dL_law_878 (by decide) ?_
        cases hf
  · rw [if_neg g_13] at hf
    refine lv_iconst (v := 0) hx hb dL_law_861 (by decide) ?_
    cases hf
def f_law_15 (x mo o d : Nat) (xs : Nat → Int32) (L : Nat) (x5 : Int32) (M : Mem) : Option Mem := gd (ix (x5 + 1) L) <| gd (ix (x5 + 2) L) <| gd (ix (x5 + 3) L) <| cb (f_L_packet x (xs (x5 + 1).toNatClampNeg) (xs (x5 + 2).toNatClampNeg) (xs (x5 + 3).toNatClampNeg) o M) fun r5 M6 => gd (ix (x5 + 1) L) <| gd (ix (x5 + 2) L) <| gd (ix (x5 + 3) L) <| cb (f_X9_packet mo (xs (x5 + 1).toNatClampNeg) (xs (x5 + 2).toNatClampNeg) (xs (x5 + 3).toNatClampNeg) M6) fun r11 M12 => vb (f_X9_thrown mo M12) fun r14 => if r14 = r5 then (if r5 = 0 then (gd (ix 0 1) <| if (lg_cmp (mJ M12 o) r11.toInt64) = 0 then (some M12) else (none)) else (some M12)) else (none)
set_option maxHeartbeats 4000000 in
set_option maxRecDepth 100000 in
theorem law_c15 {p : Program} {e : Env} {s : State} {m : MethodId} {below : List Frame} {meth : Method} {c : Code} {b L : Nat} {xs : Nat → Int32} {Q : State → Prop} {C S : Nat} (G : Gt) (hG : gOK G) (hN0 : gNc G) (l : Launch) (hfl : l.stackTraces = false) (hx : p.tables.exec = Jvm.exec) (hb : c.code = cL_law) (hml : c.maxLocals = 10) (hown : s.vm.findClass "FoldedVoicesLaw" = some m.cls) (hts : KK s) (hV : (gS G).vm.Alike s.vm) (hX : va_X b L xs s s.heap) (hbl : b < s.heap.size) (hbA : ¬ gA G b) (x mo o d : Nat) (h1 : gK G x = 9) (h2 : gK G mo = 10) (h3 : gK G o = 9001) (h4 : gK G d = 10001) (x5 : Int32) (hc0 : C ≤ room_1.cells ∧ S ≤ room_1.slots) (hc1 : C + 1 ≤ room_1.cells ∧ S + 6 ≤ room_1.slots) {M M' : Mem} (hf : f_law_15 x mo o d xs L x5 M = some M') (hk : ∀ (H : Heap) (locs : List Loc) (ls : Array Slot), Mh G M' H → va_S (gA G) s.heap H locs → lv_has ls 10 [(0, .ref b), (1, .ref x), (2, .ref mo), (3, .ref o), (4, .ref d), (5, .int x5)] → W p l e room_1 s m #[Value.ref b] below meth c H locs (C + 1) (S + 6) Q (F0 m 1493 ls [])) : ∀ (H : Heap) (locs : List Loc) (ls : Array Slot), Mh G M H → va_S (gA G) s.heap H locs → lv_has ls 10 [(0, .ref b), (1, .ref x), (2, .ref mo), (3, .ref o), (4, .ref d), (5, .int x5)] → W p l e room_1 s m #[Value.ref b] below meth c H locs C S Q (F0 m 883 ls []) := by
  intro H locs ls hM hS hl
  have hK := hG.1.moved hV
  rw [f_law_15] at hf
  refine lv_aload_n hx hb dL_law_883 rfl (lv_at hl 1 rfl) ?_
  refine lv_aload_n hx hb dL_law_884 rfl (lv_at hl 0 rfl) ?_
  refine lv_iload hx hb dL_law_885 (lv_at hl 5 rfl) ?_
  refine lv_iconst (v := 1) hx hb dL_law_887 (by decide) ?_
  refine lv_iadd hx hb dL_law_888 ?_
  obtain ⟨h_1, hf⟩ := gd_e hf
  refine va_sld hx hb hX hbl hbA hS h_1 dL_law_889 ?_
  refine lv_aload_n hx hb dL_law_890 rfl (lv_at hl 0 rfl) ?_
  refine lv_iload hx hb dL_law_891 (lv_at hl 5 rfl) ?_
  refine lv_iconst (v := 2) hx hb dL_law_893 (by decide) ?_
  refine lv_iadd hx hb dL_law_894 ?_
  obtain ⟨h_2, hf⟩ := gd_e hf
  refine va_sld hx hb hX hbl hbA hS h_2 dL_law_895 ?_
  refine lv_aload_n hx hb dL_law_896 rfl (lv_at hl 0 rfl) ?_
  refine lv_iload hx hb dL_law_897 (lv_at hl 5 rfl) ?_
  refine lv_iconst (v := 3) hx hb dL_law_899 (by decide) ?_
  refine lv_iadd hx hb dL_law_900 ?_
  obtain ⟨h_3, hf⟩ := gd_e hf
  refine va_sld hx hb hX hbl hbA hS h_3 dL_law_901 ?_
  refine lv_aload_n hx hb dL_law_902 rfl (lv_at hl 3 rfl) ?_
  obtain ⟨r5, M6, e_4, hf⟩ := cb_e hf
  refine c_W hx hb hml hown hts hV hM hS (As := [.ref x, .int (xs (x5 + 1).toNatClampNeg), .int (xs (x5 + 2).toNatClampNeg), .int (xs (x5 + 3).toNatClampNeg), .ref o]) (rest := []) (k_L_packet G hG hN0 l hfl x h1 (xs (x5 + 1).toNatClampNeg) (xs (x5 + 2).toNatClampNeg) (xs (x5 + 3).toNatClampNeg) o h3 M e_4) w_L_packet (tk_895 hts) ⟨⟨rfl, rfl⟩, Nat.le_of_ble_eq_true rfl, Nat.le_of_ble_eq_true rfl⟩ hc1 rfl hl.1 rfl (Nat.le_of_ble_eq_true rfl) dL_law_903 (fun H locs hM hS => ?_)
  refine lv_istore (lv' := [(6, .int r5), (0, .ref b), (1, .ref x), (2, .ref mo), (3, .ref o), (4, .ref d), (5, .int x5)]) hx hb dL_law_906 hl (by decide) rfl (fun ls hl => ?_)
  refine lv_aload_n hx hb dL_law_908 rfl (lv_at hl 3 rfl) ?_
  refine lv_aload_n hx hb dL_law_909 rfl (lv_at hl 1 rfl) ?_
  refine lv_iload hx hb dL_law_910 (lv_at hl 6 rfl) ?_
  refine lv_iconst (v := 1) hx hb dL_law_912 (by decide) ?_
  refine lv_iadd hx hb dL_law_913 ?_
  obtain ⟨h_7, hf⟩ := gd_e hf
  refine va_sld hx hb hX hbl hbA hS h_7 dL_law_914 ?_
  refine lv_aload_n hx hb dL_law_915 rfl (lv_at hl 1 rfl) ?_
  refine lv_iload hx hb dL_law_916 (lv_at hl 6 rfl) ?_
  refine lv_iconst (v := 2) hx hb dL_law_918 (by decide) ?_
  refine lv_iadd hx hb dL_law_919 ?_
  obtain ⟨h_8, hf⟩ := gd_e hf
  refine va_sld hx hb hX hbl hbA hS h_8 dL_law_920 ?_
  refine lv_aload_n hx hb dL_law_921 rfl (lv_at hl 1 rfl) ?_
  refine lv_iload hx hb dL_law_922 (lv_at hl 6 rfl) ?_
  refine lv_iconst (v := 3) hx hb dL_law_924 (by decide) ?_
  refine lv_iadd hx hb dL_law_925 ?_
  obtain ⟨h_9, hf⟩ := gd_e hf
  refine va_sld hx hb hX hbl hbA hS h_9 dL_law_926 ?_
  obtain ⟨r11, M12, e_10, hf⟩ := cb_e hf
  refine c_Vi hx hb hml hown hts hV hK hM hS (As := [.int (xs (x5 + 1).toNatClampNeg), .int (xs (x5 + 2).toNatClampNeg), .int (xs (x5 + 3).toNatClampNeg)]) (rest := []) (k_X9_packet G hG l mo h2 (xs (x5 + 1).toNatClampNeg) (xs (x5 + 2).toNatClampNeg) (xs (x5 + 3).toNatClampNeg) M6 e_10) w_X9_packet (tk_1217 hts) (c_10 h2) rfl rfl ⟨⟨rfl, rfl⟩, Nat.le_of_ble_eq_true rfl, Nat.le_of_ble_eq_true rfl⟩ hc1 rfl hl.1 rfl (Nat.le_of_ble_eq_true rfl) dL_law_927 (fun H locs hM hS => ?_)
  refine lv_istore (lv' := [(7, .int r11), (6, .int r5), (0, .ref b), (1, .ref x), (2, .ref mo), (3, .ref o), (4, .ref d), (5, .int x5)]) hx hb dL_law_930 hl (by decide) rfl (fun ls hl => ?_)
  refine lv_aload_n hx hb dL_law_932 rfl (lv_at hl 4 rfl) ?_
  obtain ⟨r14, e_13, hf⟩ := vb_e hf
  refine c_Vi hx hb hml hown hts hV hK hM hS (As := []) (rest := []) (k_X9_thrown G hG l mo h2 M12 e_13) w_X9_thrown (tk_1012 hts) (c_10 h2) rfl rfl ⟨⟨rfl, rfl⟩, Nat.le_of_ble_eq_true rfl, Nat.le_of_ble_eq_true rfl⟩ hc1 rfl hl.1 rfl (Nat.le_of_ble_eq_true rfl) dL_law_933 (fun H locs hM hS => ?_)
  refine lv_iload hx hb dL_law_936 (lv_at hl 1 rfl) ?_
  refine lv_icmp_eq (tgt := 943) hx hb dL_law_938 (by decide) (fun g_15 => ?_) (fun g_15 => ?_)
  · rw [if_pos g_15] at hf
    refine lv_iload hx hb dL_law_943 (lv_at hl 1 rfl) ?_
    refine lv_if_ne (tgt := 960) hx hb dL_law_945 (by decide) (fun g_16 => ?_) (fun g_16 => ?_)
    · rw [if_neg g_16] at hf
      refine lv_goto (tgt := 1493) hx hb dL_law_960 (by decide) ?_
      cases hf
      exact W.widen (by omega) (by omega) (hk H locs ls hM hS (lv_sub hl [2, 3, 4, 5, 6, 7] rfl))
    · rw [if_pos g_16] at hf
      refine lv_aload_n hx hb dL_law_948 rfl (lv_at hl 5 rfl) ?_
      refine lv_iconst (v := 0) hx hb dL_law_949 (by decide) ?_
      obtain ⟨h_17, hf⟩ := gd_e hf
      refine s_lald hx hb hK hM h3 h_17 dL_law_950 ?_
      refine lv_iload hx hb dL_law_951 (lv_at hl 0 rfl) ?_
      refine lv_i2l hx hb dL_law_953 rfl ?_
      refine W.lcmp hx hb dL_law_954 ?_
      refine lv_if_eq (tgt := 960) hx hb dL_law_955 (by decide) (fun g_18 => ?_) (fun g_18 => ?_)
      · rw [if_pos g_18] at hf
        refine lv_goto (tgt := 1493) hx hb dL_law_960 (by decide) ?_
        cases hf
        exact W.widen (by omega) (by omega) (hk H locs ls hM hS (lv_sub hl [2, 3, 4, 5, 6, 7] rfl))
      · rw [if_neg g_18] at hf
        refine lv_iconst (v := 0) hx hb dL_law_958 (by decide) ?_
        cases hf
  · rw [if_neg g_15] at hf
    refine lv_iconst (v := 0) hx hb dL_law_941 (by decide) ?_
    cases hf
def f_law_16 (x mo o d : Nat) (xs : Nat → Int32) (L : Nat) (x5 : Int32) (M : Mem) : Option Mem := gd (ix (x5 + 1) L) <| cb (f_L_why x (xs (x5 + 1).toNatClampNeg) o M) fun r3 M4 => gd (ix (x5 + 1) L) <| cb (f_X9_why mo (xs (x5 + 1).toNatClampNeg) M4) fun r7 M8 => vb (f_X9_thrown mo M8) fun r10 => if r10 = r3 then (if r3 = 0 then (gd (ix 0 1) <| if (lg_cmp (mJ M8 o) r7.toInt64) = 0 then (some M8) else (none)) else (some M8)) else (none)
set_option maxHeartbeats 4000000 in
set_option maxRecDepth 100000 in
theorem law_c16 {p : Program} {e : Env} {s : State} {m : MethodId} {below : List Frame} {meth : Method} {c : Code} {b L : Nat} {xs : Nat → Int32} {Q : State → Prop} {C S : Nat} (G : Gt) (hG : gOK G) (hN0 : gNc G) (l : Launch) (hfl : l.stackTraces = false) (hx : p.tables.exec = Jvm.exec) (hb : c.code = cL_law) (hml : c.maxLocals = 10) (hown : s.vm.findClass "FoldedVoicesLaw" = some m.cls) (hts : KK s) (hV : (gS G).vm.Alike s.vm) (hX : va_X b L xs s s.heap) (hbl : b < s.heap.size) (hbA : ¬ gA G b) (x mo o d : Nat) (h1 : gK G x = 9) (h2 : gK G mo = 10) (h3 : gK G o = 9001) (h4 : gK G d = 10001) (x5 : Int32) (hc0 : C ≤ room_1.cells ∧ S ≤ room_1.slots) (hc1 : C + 1 ≤ room_1.cells ∧ S + 6 ≤ room_1.slots) {M M' : Mem} (hf : f_law_16 x mo o d xs L x5 M = some M') (hk : ∀ (H : Heap) (locs : List Loc) (ls : Array Slot), Mh G M' H → va_S (gA G) s.heap H locs → lv_has ls 10 [(0, .ref b), (1, .ref x), (2, .ref mo), (3, .ref o), (4, .ref d), (5, .int x5)] → W p l e room_1 s m #[Value.ref b] below meth c H locs (C + 1) (S + 6) Q (F0 m 1493 ls [])) : ∀ (H : Heap) (locs : List Loc) (ls : Array Slot), Mh G M H → va_S (gA G) s.heap H locs → lv_has ls 10 [(0, .ref b), (1, .ref x), (2, .ref mo), (3, .ref o), (4, .ref d), (5, .int x5)] → W p l e room_1 s m #[Value.ref b] below meth c H locs C S Q (F0 m 963 ls []) := by
  intro H locs ls hM hS hl
  have hK := hG.1.moved hV
  rw [f_law_16] at hf
  refine lv_aload_n hx hb dL_law_963 rfl (lv_at hl 1 rfl) ?_
  refine lv_aload_n hx hb dL_law_964 rfl (lv_at hl 0 rfl) ?_
  refine lv_iload hx hb dL_law_965 (lv_at hl 5 rfl) ?_
  refine lv_iconst (v := 1) hx hb dL_law_967 (by decide) ?_
  refine lv_iadd hx hb dL_law_968 ?_
  obtain ⟨h_1, hf⟩ := gd_e hf
  refine va_sld hx hb hX hbl hbA hS h_1 dL_law_969 ?_
  refine lv_aload_n hx hb dL_law_970 rfl (lv_at hl 3 rfl) ?_
  obtain ⟨r3, M4, e_2, hf⟩ := cb_e hf
  refine c_W hx hb hml hown hts hV hM hS (As := [.ref x, .int (xs (x5 + 1).toNatClampNeg), .ref o]) (rest := []) (k_L_why G hG hN0 l hfl x h1 (xs (x5 + 1).toNatClampNeg) o h3 M e_2) w_L_why (tk_907 hts) ⟨⟨rfl, rfl⟩, Nat.le_of_ble_eq_true rfl, Nat.le_of_ble_eq_true rfl⟩ hc1 rfl hl.1 rfl (Nat.le_of_ble_eq_true rfl) dL_law_971 (fun H locs hM hS => ?_)
  refine lv_istore (lv' := [(6, .int r3), (0, .ref b), (1, .ref x), (2, .ref mo), (3, .ref o), (4, .ref d), (5, .int x5)]) hx hb dL_law_974 hl (by decide) rfl (fun ls hl => ?_)
  refine lv_aload_n hx hb dL_law_976 rfl (lv_at hl 3 rfl) ?_
  refine lv_aload_n hx hb dL_law_977 rfl (lv_at hl 1 rfl) ?_
  refine lv_iload hx hb dL_law_978 (lv_at hl 6 rfl) ?_
  refine lv_iconst (v := 1) hx hb dL_law_980 (by decide) ?_
  refine lv_iadd hx hb dL_law_981 ?_
  obtain ⟨h_5, hf⟩ := gd_e hf
  refine va_sld hx hb hX hbl hbA hS h_5 dL_law_982 ?_
  obtain ⟨r7, M8, e_6, hf⟩ := cb_e hf
  refine c_Vi hx hb hml hown hts hV hK hM hS (As := [.int (xs (x5 + 1).toNatClampNeg)]) (rest := []) (k_X9_why G hG l mo h2 (xs (x5 + 1).toNatClampNeg) M4 e_6) w_X9_why (tk_1225 hts) (c_10 h2) rfl rfl ⟨⟨rfl, rfl⟩, Nat.le_of_ble_eq_true rfl, Nat.le_of_ble_eq_true rfl⟩ hc1 rfl hl.1 rfl (Nat.le_of_ble_eq_true rfl) dL_law_983 (fun H locs hM hS => ?_)
  refine lv_istore (lv' := [(7, .int r7), (6, .int r3), (0, .ref b), (1, .ref x), (2, .ref mo), (3, .ref o), (4, .ref d), (5, .int x5)]) hx hb dL_law_986 hl (by decide) rfl (fun ls hl => ?_)
  refine lv_aload_n hx hb dL_law_988 rfl (lv_at hl 4 rfl) ?_
  obtain ⟨r10, e_9, hf⟩ := vb_e hf
  refine c_Vi hx hb hml hown hts hV hK hM hS (As := []) (rest := []) (k_X9_thrown G hG l mo h2 M8 e_9) w_X9_thrown (tk_1012 hts) (c_10 h2) rfl rfl ⟨⟨rfl, rfl⟩, Nat.le_of_ble_eq_true rfl, Nat.le_of_ble_eq_true rfl⟩ hc1 rfl hl.1 rfl (Nat.le_of_ble_eq_true rfl) dL_law_989 (fun H locs hM hS => ?_)
  refine lv_iload hx hb dL_law_992 (lv_at hl 1 rfl) ?_
  refine lv_icmp_eq (tgt := 999) hx hb dL_law_994 (by decide) (fun g_11 => ?_) (fun g_11 => ?_)
  · rw [if_pos g_11] at hf
    refine lv_iload hx hb dL_law_999 (lv_at hl 1 rfl) ?_
    refine lv_if_ne (tgt := 1016) hx hb dL_law_1001 (by decide) (fun g_12 => ?_) (fun g_12 => ?_)
    · rw [if_neg g_12] at hf
      refine lv_goto (tgt := 1493) hx hb dL_law_1016 (by decide) ?_
      cases hf
      exact W.widen (by omega) (by omega) (hk H locs ls hM hS (lv_sub hl [2, 3, 4, 5, 6, 7] rfl))
    · rw [if_pos g_12] at hf
      refine lv_aload_n hx hb dL_law_1004 rfl (lv_at hl 5 rfl) ?_
      refine lv_iconst (v := 0) hx hb dL_law_1005 (by decide) ?_
      obtain ⟨h_13, hf⟩ := gd_e hf
      refine s_lald hx hb hK hM h3 h_13 dL_law_1006 ?_
      refine lv_iload hx hb dL_law_1007 (lv_at hl 0 rfl) ?_
      refine lv_i2l hx hb dL_law_1009 rfl ?_
      refine W.lcmp hx hb dL_law_1010 ?_
      refine lv_if_eq (tgt := 1016) hx hb dL_law_1011 (by decide) (fun g_14 => ?_) (fun g_14 => ?_)
      · rw [if_pos g_14] at hf
        refine lv_goto (tgt := 1493) hx hb dL_law_1016 (by decide) ?_
        cases hf
        exact W.widen (by omega) (by omega) (hk H locs ls hM hS (lv_sub hl [2, 3, 4, 5, 6, 7] rfl))
      · rw [if_neg g_14] at hf
        refine lv_iconst (v := 0) hx hb dL_law_1014 (by decide) ?_
        cases hf
  · rw [if_neg g_11] at hf
    refine lv_iconst (v := 0) hx hb dL_law_997 (by decide) ?_
    cases hf
def f_law_17 (x mo o d : Nat) (xs : Nat → Int32) (L : Nat) (x5 : Int32) (M : Mem) : Option Mem := gd (ix (x5 + 1) L) <| cb (f_L_count x (xs (x5 + 1).toNatClampNeg) o M) fun r3 M4 => gd (ix (x5 + 1) L) <| cb (f_X9_count mo (xs (x5 + 1).toNatClampNeg) M4) fun r7 M8 => vb (f_X9_thrown mo M8) fun r10 => if r10 = r3 then (if r3 = 0 then (gd (ix 0 1) <| if (lg_cmp (mJ M8 o) r7.toInt64) = 0 then (some M8) else (none)) else (some M8)) else (none)
set_option maxHeartbeats 4000000 in
set_option maxRecDepth 100000 in
theorem law_c17 {p : Program} {e : Env} {s : State} {m : MethodId} {below : List Frame} {meth : Method} {c : Code} {b L : Nat} {xs : Nat → Int32} {Q : State → Prop} {C S : Nat} (G : Gt) (hG : gOK G) (hN0 : gNc G) (l : Launch) (hfl : l.stackTraces = false) (hx : p.tables.exec = Jvm.exec) (hb : c.code = cL_law) (hml : c.maxLocals = 10) (hown : s.vm.findClass "FoldedVoicesLaw" = some m.cls) (hts : KK s) (hV : (gS G).vm.Alike s.vm) (hX : va_X b L xs s s.heap) (hbl : b < s.heap.size) (hbA : ¬ gA G b) (x mo o d : Nat) (h1 : gK G x = 9) (h2 : gK G mo = 10) (h3 : gK G o = 9001) (h4 : gK G d = 10001) (x5 : Int32) (hc0 : C ≤ room_1.cells ∧ S ≤ room_1.slots) (hc1 : C + 1 ≤ room_1.cells ∧ S + 6 ≤ room_1.slots) {M M' : Mem} (hf : f_law_17 x mo o d xs L x5 M = some M') (hk : ∀ (H : Heap) (locs : List Loc) (ls : Array Slot), Mh G M' H → va_S (gA G) s.heap H locs → lv_has ls 10 [(0, .ref b), (1, .ref x), (2, .ref mo), (3, .ref o), (4, .ref d), (5, .int x5)] → W p l e room_1 s m #[Value.ref b] below meth c H locs (C + 1) (S + 6) Q (F0 m 1493 ls [])) : ∀ (H : Heap) (locs : List Loc) (ls : Array Slot), Mh G M H → va_S (gA G) s.heap H locs → lv_has ls 10 [(0, .ref b), (1, .ref x), (2, .ref mo), (3, .ref o), (4, .ref d), (5, .int x5)] → W p l e room_1 s m #[Value.ref b] below meth c H locs C S Q (F0 m 1019 ls []) := by
  intro H locs ls hM hS hl
  have hK := hG.1.moved hV
  rw [f_law_17] at hf
  refine lv_aload_n hx hb dL_law_1019 rfl (lv_at hl 1 rfl) ?_
  refine lv_aload_n hx hb dL_law_1020 rfl (lv_at hl 0 rfl) ?_
  refine lv_iload hx hb dL_law_1021 (lv_at hl 5 rfl) ?_
  refine lv_iconst (v := 1) hx hb dL_law_1023 (by decide) ?_
  refine lv_iadd hx hb dL_law_1024 ?_
  obtain ⟨h_1, hf⟩ := gd_e hf
  refine va_sld hx hb hX hbl hbA hS h_1 dL_law_1025 ?_
  refine lv_aload_n hx hb dL_law_1026 rfl (lv_at hl 3 rfl) ?_
  obtain ⟨r3, M4, e_2, hf⟩ := cb_e hf
  refine c_W hx hb hml hown hts hV hM hS (As := [.ref x, .int (xs (x5 + 1).toNatClampNeg), .ref o]) (rest := []) (k_L_count G hG hN0 l hfl x h1 (xs (x5 + 1).toNatClampNeg) o h3 M e_2) w_L_count (tk_914 hts) ⟨⟨rfl, rfl⟩, Nat.le_of_ble_eq_true rfl, Nat.le_of_ble_eq_true rfl⟩ hc1 rfl hl.1 rfl (Nat.le_of_ble_eq_true rfl) dL_law_1027 (fun H locs hM hS => ?_)
  refine lv_istore (lv' := [(6, .int r3), (0, .ref b), (1, .ref x), (2, .ref mo), (3, .ref o), (4, .ref d), (5, .int x5)]) hx hb dL_law_1030 hl (by decide) rfl (fun ls hl => ?_)
  refine lv_aload_n hx hb dL_law_1032 rfl (lv_at hl 3 rfl) ?_
  refine lv_aload_n hx hb dL_law_1033 rfl (lv_at hl 1 rfl) ?_
  refine lv_iload hx hb dL_law_1034 (lv_at hl 6 rfl) ?_
  refine lv_iconst (v := 1) hx hb dL_law_1036 (by decide) ?_
  refine lv_iadd hx hb dL_law_1037 ?_
  obtain ⟨h_5, hf⟩ := gd_e hf
  refine va_sld hx hb hX hbl hbA hS h_5 dL_law_1038 ?_
  obtain ⟨r7, M8, e_6, hf⟩ := cb_e hf
  refine c_Vi hx hb hml hown hts hV hK hM hS (As := [.int (xs (x5 + 1).toNatClampNeg)]) (rest := []) (k_X9_count G hG l mo h2 (xs (x5 + 1).toNatClampNeg) M4 e_6) w_X9_count (tk_1245 hts) (c_10 h2) rfl rfl ⟨⟨rfl, rfl⟩, Nat.le_of_ble_eq_true rfl, Nat.le_of_ble_eq_true rfl⟩ hc1 rfl hl.1 rfl (Nat.le_of_ble_eq_true rfl) dL_law_1039 (fun H locs hM hS => ?_)
  refine lv_istore (lv' := [(7, .int r7), (6, .int r3), (0, .ref b), (1, .ref x), (2, .ref mo), (3, .ref o), (4, .ref d), (5, .int x5)]) hx hb dL_law_1042 hl (by decide) rfl (fun ls hl => ?_)
  refine lv_aload_n hx hb dL_law_1044 rfl (lv_at hl 4 rfl) ?_
  obtain ⟨r10, e_9, hf⟩ := vb_e hf
  refine c_Vi hx hb hml hown hts hV hK hM hS (As := []) (rest := []) (k_X9_thrown G hG l mo h2 M8 e_9) w_X9_thrown (tk_1012 hts) (c_10 h2) rfl rfl ⟨⟨rfl, rfl⟩, Nat.le_of_ble_eq_true rfl, Nat.le_of_ble_eq_true rfl⟩ hc1 rfl hl.1 rfl (Nat.le_of_ble_eq_true rfl) dL_law_1045 (fun H locs hM hS => ?_)
  refine lv_iload hx hb dL_law_1048 (lv_at hl 1 rfl) ?_
  refine lv_icmp_eq (tgt := 1055) hx hb dL_law_1050 (by decide) (fun g_11 => ?_) (fun g_11 => ?_)
  · rw [if_pos g_11] at hf
    refine lv_iload hx hb dL_law_1055 (lv_at hl 1 rfl) ?_
    refine lv_if_ne (tgt := 1072) hx hb dL_law_1057 (by decide) (fun g_12 => ?_) (fun g_12 => ?_)
    · rw [if_neg g_12] at hf
      refine lv_goto (tgt := 1493) hx hb dL_law_1072 (by decide) ?_
      cases hf
      exact W.widen (by omega) (by omega) (hk H locs ls hM hS (lv_sub hl [2, 3, 4, 5, 6, 7] rfl))
    · rw [if_pos g_12] at hf
      refine lv_aload_n hx hb dL_law_1060 rfl (lv_at hl 5 rfl) ?_
      refine lv_iconst (v := 0) hx hb dL_law_1061 (by decide) ?_
      obtain ⟨h_13, hf⟩ := gd_e hf
      refine s_lald hx hb hK hM h3 h_13 dL_law_1062 ?_
      refine lv_iload hx hb dL_law_1063 (lv_at hl 0 rfl) ?_
      refine lv_i2l hx hb dL_law_1065 rfl ?_
      refine W.lcmp hx hb dL_law_1066 ?_
      refine lv_if_eq (tgt := 1072) hx hb dL_law_1067 (by decide) (fun g_14 => ?_) (fun g_14 => ?_)
      · rw [if_pos g_14] at hf
        refine lv_goto (tgt := 1493) hx hb dL_law_1072 (by decide) ?_
        cases hf
        exact W.widen (by omega) (by omega) (hk H locs ls hM hS (lv_sub hl [2, 3, 4, 5, 6, 7] rfl))
      · rw [if_neg g_14] at hf
        refine lv_iconst (v := 0) hx hb dL_law_1070 (by decide) ?_
        cases hf
  · rw [if_neg g_11] at hf
    refine lv_iconst (v := 0) hx hb dL_law_1053 (by decide) ?_
    cases hf
def f_law_18 (x mo o d : Nat) (xs : Nat → Int32) (L : Nat) (x5 : Int32) (M : Mem) : Option Mem := gd (ix (x5 + 1) L) <| cb (f_L_setting x (xs (x5 + 1).toNatClampNeg) o M) fun r3 M4 => gd (ix (x5 + 1) L) <| cb (f_X9_setting mo (xs (x5 + 1).toNatClampNeg) M4) fun r7 M8 => vb (f_X9_thrown mo M8) fun r10 => if r10 = r3 then (if r3 = 0 then (gd (ix 0 1) <| if (lg_cmp (mJ M8 o) r7.toInt64) = 0 then (some M8) else (none)) else (some M8)) else (none)
set_option maxHeartbeats 4000000 in
set_option maxRecDepth 100000 in
theorem law_c18 {p : Program} {e : Env} {s : State} {m : MethodId} {below : List Frame} {meth : Method} {c : Code} {b L : Nat} {xs : Nat → Int32} {Q : State → Prop} {C S : Nat} (G : Gt) (hG : gOK G) (hN0 : gNc G) (l : Launch) (hfl : l.stackTraces = false) (hx : p.tables.exec = Jvm.exec) (hb : c.code = cL_law) (hml : c.maxLocals = 10) (hown : s.vm.findClass "FoldedVoicesLaw" = some m.cls) (hts : KK s) (hV : (gS G).vm.Alike s.vm) (hX : va_X b L xs s s.heap) (hbl : b < s.heap.size) (hbA : ¬ gA G b) (x mo o d : Nat) (h1 : gK G x = 9) (h2 : gK G mo = 10) (h3 : gK G o = 9001) (h4 : gK G d = 10001) (x5 : Int32) (hc0 : C ≤ room_1.cells ∧ S ≤ room_1.slots) (hc1 : C + 1 ≤ room_1.cells ∧ S + 6 ≤ room_1.slots) {M M' : Mem} (hf : f_law_18 x mo o d xs L x5 M = some M') (hk : ∀ (H : Heap) (locs : List Loc) (ls : Array Slot), Mh G M' H → va_S (gA G) s.heap H locs → lv_has ls 10 [(0, .ref b), (1, .ref x), (2, .ref mo), (3, .ref o), (4, .ref d), (5, .int x5)] → W p l e room_1 s m #[Value.ref b] below meth c H locs (C + 1) (S + 6) Q (F0 m 1493 ls [])) : ∀ (H : Heap) (locs : List Loc) (ls : Array Slot), Mh G M H → va_S (gA G) s.heap H locs → lv_has ls 10 [(0, .ref b), (1, .ref x), (2, .ref mo), (3, .ref o), (4, .ref d), (5, .int x5)] → W p l e room_1 s m #[Value.ref b] below meth c H locs C S Q (F0 m 1075 ls []) := by
  intro H locs ls hM hS hl
  have hK := hG.1.moved hV
  rw [f_law_18] at hf
  refine lv_aload_n hx hb dL_law_1075 rfl (lv_at hl 1 rfl) ?_
  refine lv_aload_n hx hb dL_law_1076 rfl (lv_at hl 0 rfl) ?_
  refine lv_iload hx hb dL_law_1077 (lv_at hl 5 rfl) ?_
  refine lv_iconst (v := 1) hx hb dL_law_1079 (by decide) ?_
  refine lv_iadd hx hb dL_law_1080 ?_
  obtain ⟨h_1, hf⟩ := gd_e hf
  refine va_sld hx hb hX hbl hbA hS h_1 dL_law_1081 ?_
  refine lv_aload_n hx hb dL_law_1082 rfl (lv_at hl 3 rfl) ?_
  obtain ⟨r3, M4, e_2, hf⟩ := cb_e hf
  refine c_W hx hb hml hown hts hV hM hS (As := [.ref x, .int (xs (x5 + 1).toNatClampNeg), .ref o]) (rest := []) (k_L_setting G hG hN0 l hfl x h1 (xs (x5 + 1).toNatClampNeg) o h3 M e_2) w_L_setting (tk_921 hts) ⟨⟨rfl, rfl⟩, Nat.le_of_ble_eq_true rfl, Nat.le_of_ble_eq_true rfl⟩ hc1 rfl hl.1 rfl (Nat.le_of_ble_eq_true rfl) dL_law_1083 (fun H locs hM hS => ?_)
  refine lv_istore (lv' := [(6, .int r3), (0, .ref b), (1, .ref x), (2, .ref mo), (3, .ref o), (4, .ref d), (5, .int x5)]) hx hb dL_law_1086 hl (by decide) rfl (fun ls hl => ?_)
  refine lv_aload_n hx hb dL_law_1088 rfl (lv_at hl 3 rfl) ?_
  refine lv_aload_n hx hb dL_law_1089 rfl (lv_at hl 1 rfl) ?_
  refine lv_iload hx hb dL_law_1090 (lv_at hl 6 rfl) ?_
  refine lv_iconst (v := 1) hx hb dL_law_1092 (by decide) ?_
  refine lv_iadd hx hb dL_law_1093 ?_
  obtain ⟨h_5, hf⟩ := gd_e hf
  refine va_sld hx hb hX hbl hbA hS h_5 dL_law_1094 ?_
  obtain ⟨r7, M8, e_6, hf⟩ := cb_e hf
  refine c_Vi hx hb hml hown hts hV hK hM hS (As := [.int (xs (x5 + 1).toNatClampNeg)]) (rest := []) (k_X9_setting G hG l mo h2 (xs (x5 + 1).toNatClampNeg) M4 e_6) w_X9_setting (tk_1261 hts) (c_10 h2) rfl rfl ⟨⟨rfl, rfl⟩, Nat.le_of_ble_eq_true rfl, Nat.le_of_ble_eq_true rfl⟩ hc1 rfl hl.1 rfl (Nat.le_of_ble_eq_true rfl) dL_law_1095 (fun H locs hM hS => ?_)
  refine lv_istore (lv' := [(7, .int r7), (6, .int r3), (0, .ref b), (1, .ref x), (2, .ref mo), (3, .ref o), (4, .ref d), (5, .int x5)]) hx hb dL_law_1098 hl (by decide) rfl (fun ls hl => ?_)
  refine lv_aload_n hx hb dL_law_1100 rfl (lv_at hl 4 rfl) ?_
  obtain ⟨r10, e_9, hf⟩ := vb_e hf
  refine c_Vi hx hb hml hown hts hV hK hM hS (As := []) (rest := []) (k_X9_thrown G hG l mo h2 M8 e_9) w_X9_thrown (tk_1012 hts) (c_10 h2) rfl rfl ⟨⟨rfl, rfl⟩, Nat.le_of_ble_eq_true rfl, Nat.le_of_ble_eq_true rfl⟩ hc1 rfl hl.1 rfl (Nat.le_of_ble_eq_true rfl) dL_law_1101 (fun H locs hM hS => ?_)
  refine lv_iload hx hb dL_law_1104 (lv_at hl 1 rfl) ?_
  refine lv_icmp_eq (tgt := 1111) hx hb dL_law_1106 (by decide) (fun g_11 => ?_) (fun g_11 => ?_)
  · rw [if_pos g_11] at hf
    refine lv_iload hx hb dL_law_1111 (lv_at hl 1 rfl) ?_
    refine lv_if_ne (tgt := 1128) hx hb dL_law_1113 (by decide) (fun g_12 => ?_) (fun g_12 => ?_)
    · rw [if_neg g_12] at hf
      refine lv_goto (tgt := 1493) hx hb dL_law_1128 (by decide) ?_
      cases hf
      exact W.widen (by omega) (by omega) (hk H locs ls hM hS (lv_sub hl [2, 3, 4, 5, 6, 7] rfl))
    · rw [if_pos g_12] at hf
      refine lv_aload_n hx hb dL_law_1116 rfl (lv_at hl 5 rfl) ?_
      refine lv_iconst (v := 0) hx hb dL_law_1117 (by decide) ?_
      obtain ⟨h_13, hf⟩ := gd_e hf
      refine s_lald hx hb hK hM h3 h_13 dL_law_1118 ?_
      refine lv_iload hx hb dL_law_1119 (lv_at hl 0 rfl) ?_
      refine lv_i2l hx hb dL_law_1121 rfl ?_
      refine W.lcmp hx hb dL_law_1122 ?_
      refine lv_if_eq (tgt := 1128) hx hb dL_law_1123 (by decide) (fun g_14 => ?_) (fun g_14 => ?_)
      · rw [if_pos g_14] at hf
        refine lv_goto (tgt := 1493) hx hb dL_law_1128 (by decide) ?_
        cases hf
        exact W.widen (by omega) (by omega) (hk H locs ls hM hS (lv_sub hl [2, 3, 4, 5, 6, 7] rfl))
      · rw [if_neg g_14] at hf
        refine lv_iconst (v := 0) hx hb dL_law_1126 (by decide) ?_
        cases hf
  · rw [if_neg g_11] at hf
    refine lv_iconst (v := 0) hx hb dL_law_1109 (by decide) ?_
    cases hf
def f_law_19 (x mo o d : Nat) (xs : Nat → Int32) (L : Nat) (x5 : Int32) (M : Mem) : Option Mem := gd (ix (x5 + 1) L) <| gd (ix (x5 + 2) L) <| gd (ix (x5 + 3) L) <| cb (f_L_code x (xs (x5 + 1).toNatClampNeg) (xs (x5 + 2).toNatClampNeg) (xs (x5 + 3).toNatClampNeg) o M) fun r5 M6 => gd (ix (x5 + 1) L) <| gd (ix (x5 + 2) L) <| gd (ix (x5 + 3) L) <| cb (f_X9_code mo (xs (x5 + 1).toNatClampNeg) (xs (x5 + 2).toNatClampNeg) (xs (x5 + 3).toNatClampNeg) M6) fun r11 M12 => vb (f_X9_thrown mo M12) fun r14 => if r14 = r5 then (if r5 = 0 then (gd (ix 0 1) <| if (lg_cmp (mJ M12 o) r11.toInt64) = 0 then (some M12) else (none)) else (some M12)) else (none)
set_option maxHeartbeats 4000000 in
set_option maxRecDepth 100000 in
theorem law_c19 {p : Program} {e : Env} {s : State} {m : MethodId} {below : List Frame} {meth : Method} {c : Code} {b L : Nat} {xs : Nat → Int32} {Q : State → Prop} {C S : Nat} (G : Gt) (hG : gOK G) (hN0 : gNc G) (l : Launch) (hfl : l.stackTraces = false) (hx : p.tables.exec = Jvm.exec) (hb : c.code = cL_law) (hml : c.maxLocals = 10) (hown : s.vm.findClass "FoldedVoicesLaw" = some m.cls) (hts : KK s) (hV : (gS G).vm.Alike s.vm) (hX : va_X b L xs s s.heap) (hbl : b < s.heap.size) (hbA : ¬ gA G b) (x mo o d : Nat) (h1 : gK G x = 9) (h2 : gK G mo = 10) (h3 : gK G o = 9001) (h4 : gK G d = 10001) (x5 : Int32) (hc0 : C ≤ room_1.cells ∧ S ≤ room_1.slots) (hc1 : C + 1 ≤ room_1.cells ∧ S + 6 ≤ room_1.slots) {M M' : Mem} (hf : f_law_19 x mo o d xs L x5 M = some M') (hk : ∀ (H : Heap) (locs : List Loc) (ls : Array Slot), Mh G M' H → va_S (gA G) s.heap H locs → lv_has ls 10 [(0, .ref b), (1, .ref x), (2, .ref mo), (3, .ref o), (4, .ref d), (5, .int x5)] → W p l e room_1 s m #[Value.ref b] below meth c H locs (C + 1) (S + 6) Q (F0 m 1493 ls [])) : ∀ (H : Heap) (locs : List Loc) (ls : Array Slot), Mh G M H → va_S (gA G) s.heap H locs → lv_has ls 10 [(0, .ref b), (1, .ref x), (2, .ref mo), (3, .ref o), (4, .ref d), (5, .int x5)] → W p l e room_1 s m #[Value.ref b] below meth c H locs C S Q (F0 m 1131 ls []) := by
  intro H locs ls hM hS hl
  have hK := hG.1.moved hV
  rw [f_law_19] at hf
  refine lv_aload_n hx hb dL_law_1131 rfl (lv_at hl 1 rfl) ?_
  refine lv_aload_n hx hb dL_law_1132 rfl (lv_at hl 0 rfl) ?_
  refine lv_iload hx hb dL_law_1133 (lv_at hl 5 rfl) ?_
  refine lv_iconst (v := 1) hx hb dL_law_1135 (by decide) ?_
  refine lv_iadd hx hb dL_law_1136 ?_
  obtain ⟨h_1, hf⟩ := gd_e hf
  refine va_sld hx hb hX hbl hbA hS h_1 dL_law_1137 ?_
  refine lv_aload_n hx hb dL_law_1138 rfl (lv_at hl 0 rfl) ?_
  refine lv_iload hx hb dL_law_1139 (lv_at hl 5 rfl) ?_
  refine lv_iconst (v := 2) hx hb dL_law_1141 (by decide) ?_
  refine lv_iadd hx hb dL_law_1142 ?_
  obtain ⟨h_2, hf⟩ := gd_e hf
  refine va_sld hx hb hX hbl hbA hS h_2 dL_law_1143 ?_
  refine lv_aload_n hx hb dL_law_1144 rfl (lv_at hl 0 rfl) ?_
  refine lv_iload hx hb dL_law_1145 (lv_at hl 5 rfl) ?_
  refine lv_iconst (v := 3) hx hb dL_law_1147 (by decide) ?_
  refine lv_iadd hx hb dL_law_1148 ?_
  obtain ⟨h_3, hf⟩ := gd_e hf
  refine va_sld hx hb hX hbl hbA hS h_3 dL_law_1149 ?_
  refine lv_aload_n hx hb dL_law_1150 rfl (lv_at hl 3 rfl) ?_
  obtain ⟨r5, M6, e_4, hf⟩ := cb_e hf
  refine c_W hx hb hml hown hts hV hM hS (As := [.ref x, .int (xs (x5 + 1).toNatClampNeg), .int (xs (x5 + 2).toNatClampNeg), .int (xs (x5 + 3).toNatClampNeg), .ref o]) (rest := []) (k_L_code G hG hN0 l hfl x h1 (xs (x5 + 1).toNatClampNeg) (xs (x5 + 2).toNatClampNeg) (xs (x5 + 3).toNatClampNeg) o h3 M e_4) w_L_code (tk_928 hts) ⟨⟨rfl, rfl⟩, Nat.le_of_ble_eq_true rfl, Nat.le_of_ble_eq_true rfl⟩ hc1 rfl hl.1 rfl (Nat.le_of_ble_eq_true rfl) dL_law_1151 (fun H locs hM hS => ?_)
  refine lv_istore (lv' := [(6, .int r5), (0, .ref b), (1, .ref x), (2, .ref mo), (3, .ref o), (4, .ref d), (5, .int x5)]) hx hb dL_law_1154 hl (by decide) rfl (fun ls hl => ?_)
  refine lv_aload_n hx hb dL_law_1156 rfl (lv_at hl 3 rfl) ?_
  refine lv_aload_n hx hb dL_law_1157 rfl (lv_at hl 1 rfl) ?_
  refine lv_iload hx hb dL_law_1158 (lv_at hl 6 rfl) ?_
  refine lv_iconst (v := 1) hx hb dL_law_1160 (by decide) ?_
  refine lv_iadd hx hb dL_law_1161 ?_
  obtain ⟨h_7, hf⟩ := gd_e hf
  refine va_sld hx hb hX hbl hbA hS h_7 dL_law_1162 ?_
  refine lv_aload_n hx hb dL_law_1163 rfl (lv_at hl 1 rfl) ?_
  refine lv_iload hx hb dL_law_1164 (lv_at hl 6 rfl) ?_
  refine lv_iconst (v := 2) hx hb dL_law_1166 (by decide) ?_
  refine lv_iadd hx hb dL_law_1167 ?_
  obtain ⟨h_8, hf⟩ := gd_e hf
  refine va_sld hx hb hX hbl hbA hS h_8 dL_law_1168 ?_
  refine lv_aload_n hx hb dL_law_1169 rfl (lv_at hl 1 rfl) ?_
  refine lv_iload hx hb dL_law_1170 (lv_at hl 6 rfl) ?_
  refine lv_iconst (v := 3) hx hb dL_law_1172 (by decide) ?_
  refine lv_iadd hx hb dL_law_1173 ?_
  obtain ⟨h_9, hf⟩ := gd_e hf
  refine va_sld hx hb hX hbl hbA hS h_9 dL_law_1174 ?_
  obtain ⟨r11, M12, e_10, hf⟩ := cb_e hf
  refine c_Vi hx hb hml hown hts hV hK hM hS (As := [.int (xs (x5 + 1).toNatClampNeg), .int (xs (x5 + 2).toNatClampNeg), .int (xs (x5 + 3).toNatClampNeg)]) (rest := []) (k_X9_code G hG l mo h2 (xs (x5 + 1).toNatClampNeg) (xs (x5 + 2).toNatClampNeg) (xs (x5 + 3).toNatClampNeg) M6 e_10) w_X9_code (tk_1265 hts) (c_10 h2) rfl rfl ⟨⟨rfl, rfl⟩, Nat.le_of_ble_eq_true rfl, Nat.le_of_ble_eq_true rfl⟩ hc1 rfl hl.1 rfl (Nat.le_of_ble_eq_true rfl) dL_law_1175 (fun H locs hM hS => ?_)
  refine lv_istore (lv' := [(7, .int r11), (6, .int r5), (0, .ref b), (1, .ref x), (2, .ref mo), (3, .ref o), (4, .ref d), (5, .int x5)]) hx hb dL_law_1178 hl (by decide) rfl (fun ls hl => ?_)
  refine lv_aload_n hx hb dL_law_1180 rfl (lv_at hl 4 rfl) ?_
  obtain ⟨r14, e_13, hf⟩ := vb_e hf
  refine c_Vi hx hb hml hown hts hV hK hM hS (As := []) (rest := []) (k_X9_thrown G hG l mo h2 M12 e_13) w_X9_thrown (tk_1012 hts) (c_10 h2) rfl rfl ⟨⟨rfl, rfl⟩, Nat.le_of_ble_eq_true rfl, Nat.le_of_ble_eq_true rfl⟩ hc1 rfl hl.1 rfl (Nat.le_of_ble_eq_true rfl) dL_law_1181 (fun H locs hM hS => ?_)
  refine lv_iload hx hb dL_law_1184 (lv_at hl 1 rfl) ?_
  refine lv_icmp_eq (tgt := 1191) hx hb dL_law_1186 (by decide) (fun g_15 => ?_) (fun g_15 => ?_)
  · rw [if_pos g_15] at hf
    refine lv_iload hx hb dL_law_1191 (lv_at hl 1 rfl) ?_
    refine lv_if_ne (tgt := 1208) hx hb dL_law_1193 (by decide) (fun g_16 => ?_) (fun g_16 => ?_)
    · rw [if_neg g_16] at hf
      refine lv_goto (tgt := 1493) hx hb dL_law_1208 (by decide) ?_
      cases hf
      exact W.widen (by omega) (by omega) (hk H locs ls hM hS (lv_sub hl [2, 3, 4, 5, 6, 7] rfl))
    · rw [if_pos g_16] at hf
      refine lv_aload_n hx hb dL_law_1196 rfl (lv_at hl 5 rfl) ?_
      refine lv_iconst (v := 0) hx hb dL_law_1197 (by decide) ?_
      obtain ⟨h_17, hf⟩ := gd_e hf
      refine s_lald hx hb hK hM h3 h_17 dL_law_1198 ?_
      refine lv_iload hx hb dL_law_1199 (lv_at hl 0 rfl) ?_
      refine lv_i2l hx hb dL_law_1201 rfl ?_
      refine W.lcmp hx hb dL_law_1202 ?_
      refine lv_if_eq (tgt := 1208) hx hb dL_law_1203 (by decide) (fun g_18 => ?_) (fun g_18 => ?_)
      · rw [if_pos g_18] at hf
        refine lv_goto (tgt := 1493) hx hb dL_law_1208 (by decide) ?_
        cases hf
        exact W.widen (by omega) (by omega) (hk H locs ls hM hS (lv_sub hl [2, 3, 4, 5, 6, 7] rfl))
      · rw [if_neg g_18] at hf
        refine lv_iconst (v := 0) hx hb dL_law_1206 (by decide) ?_
        cases hf
  · rw [if_neg g_15] at hf
    refine lv_iconst (v := 0) hx hb dL_law_1189 (by decide) ?_
    cases hf
def f_law_20 (x mo o d : Nat) (xs : Nat → Int32) (L : Nat) (x5 : Int32) (M : Mem) : Option Mem := gd (ix (x5 + 1) L) <| gd (ix (x5 + 2) L) <| gd (ix (x5 + 3) L) <| cb (f_L_settles x (xs (x5 + 1).toNatClampNeg) (xs (x5 + 2).toNatClampNeg) (xs (x5 + 3).toNatClampNeg) o M) fun r5 M6 => gd (ix (x5 + 1) L) <| gd (ix (x5 + 2) L) <| gd (ix (x5 + 3) L) <| cb (f_X9_settles mo (xs (x5 + 1).toNatClampNeg) (xs (x5 + 2).toNatClampNeg) (xs (x5 + 3).toNatClampNeg) M6) fun r11 M12 => vb (f_X9_thrown mo M12) fun r14 => if r14 = r5 then (if r5 = 0 then (gd (ix 0 1) <| if (lg_cmp (mJ M12 o) r11.toInt64) = 0 then (some M12) else (none)) else (some M12)) else (none)
set_option maxHeartbeats 4000000 in
set_option maxRecDepth 100000 in
theorem law_c20 {p : Program} {e : Env} {s : State} {m : MethodId} {below : List Frame} {meth : Method} {c : Code} {b L : Nat} {xs : Nat → Int32} {Q : State → Prop} {C S : Nat} (G : Gt) (hG : gOK G) (hN0 : gNc G) (l : Launch) (hfl : l.stackTraces = false) (hx : p.tables.exec = Jvm.exec) (hb : c.code = cL_law) (hml : c.maxLocals = 10) (hown : s.vm.findClass "FoldedVoicesLaw" = some m.cls) (hts : KK s) (hV : (gS G).vm.Alike s.vm) (hX : va_X b L xs s s.heap) (hbl : b < s.heap.size) (hbA : ¬ gA G b) (x mo o d : Nat) (h1 : gK G x = 9) (h2 : gK G mo = 10) (h3 : gK G o = 9001) (h4 : gK G d = 10001) (x5 : Int32) (hc0 : C ≤ room_1.cells ∧ S ≤ room_1.slots) (hc1 : C + 1 ≤ room_1.cells ∧ S + 6 ≤ room_1.slots) {M M' : Mem} (hf : f_law_20 x mo o d xs L x5 M = some M') (hk : ∀ (H : Heap) (locs : List Loc) (ls : Array Slot), Mh G M' H → va_S (gA G) s.heap H locs → lv_has ls 10 [(0, .ref b), (1, .ref x), (2, .ref mo), (3, .ref o), (4, .ref d), (5, .int x5)] → W p l e room_1 s m #[Value.ref b] below meth c H locs (C + 1) (S + 6) Q (F0 m 1493 ls [])) : ∀ (H : Heap) (locs : List Loc) (ls : Array Slot), Mh G M H → va_S (gA G) s.heap H locs → lv_has ls 10 [(0, .ref b), (1, .ref x), (2, .ref mo), (3, .ref o), (4, .ref d), (5, .int x5)] → W p l e room_1 s m #[Value.ref b] below meth c H locs C S Q (F0 m 1211 ls []) := by
  intro H locs ls hM hS hl
  have hK := hG.1.moved hV
  rw [f_law_20] at hf
  refine lv_aload_n hx hb dL_law_1211 rfl (lv_at hl 1 rfl) ?_
  refine lv_aload_n hx hb dL_law_1212 rfl (lv_at hl 0 rfl) ?_
  refine lv_iload hx hb dL_law_1213 (lv_at hl 5 rfl) ?_
  refine lv_iconst (v := 1) hx hb dL_law_1215 (by decide) ?_
  refine lv_iadd hx hb dL_law_1216 ?_
  obtain ⟨h_1, hf⟩ := gd_e hf
  refine va_sld hx hb hX hbl hbA hS h_1 dL_law_1217 ?_
  refine lv_aload_n hx hb dL_law_1218 rfl (lv_at hl 0 rfl) ?_
  refine lv_iload hx hb dL_law_1219 (lv_at hl 5 rfl) ?_
  refine lv_iconst (v := 2) hx hb dL_law_1221 (by decide) ?_
  refine lv_iadd hx hb dL_law_1222 ?_
  obtain ⟨h_2, hf⟩ := gd_e hf
  refine va_sld hx hb hX hbl hbA hS h_2 dL_law_1223 ?_
  refine lv_aload_n hx hb dL_law_1224 rfl (lv_at hl 0 rfl) ?_
  refine lv_iload hx hb dL_law_1225 (lv_at hl 5 rfl) ?_
  refine lv_iconst (v := 3) hx hb dL_law_1227 (by decide) ?_
  refine lv_iadd hx hb dL_law_1228 ?_
  obtain ⟨h_3, hf⟩ := gd_e hf
  refine va_sld hx hb hX hbl hbA hS h_3 dL_law_1229 ?_
  refine lv_aload_n hx hb dL_law_1230 rfl (lv_at hl 3 rfl) ?_
  obtain ⟨r5, M6, e_4, hf⟩ := cb_e hf
  refine c_W hx hb hml hown hts hV hM hS (As := [.ref x, .int (xs (x5 + 1).toNatClampNeg), .int (xs (x5 + 2).toNatClampNeg), .int (xs (x5 + 3).toNatClampNeg), .ref o]) (rest := []) (k_L_settles G hG hN0 l hfl x h1 (xs (x5 + 1).toNatClampNeg) (xs (x5 + 2).toNatClampNeg) (xs (x5 + 3).toNatClampNeg) o h3 M e_4) w_L_settles (tk_935 hts) ⟨⟨rfl, rfl⟩, Nat.le_of_ble_eq_true rfl, Nat.le_of_ble_eq_true rfl⟩ hc1 rfl hl.1 rfl (Nat.le_of_ble_eq_true rfl) dL_law_1231 (fun H locs hM hS => ?_)
  refine lv_istore (lv' := [(6, .int r5), (0, .ref b), (1, .ref x), (2, .ref mo), (3, .ref o), (4, .ref d), (5, .int x5)]) hx hb dL_law_1234 hl (by decide) rfl (fun ls hl => ?_)
  refine lv_aload_n hx hb dL_law_1236 rfl (lv_at hl 3 rfl) ?_
  refine lv_aload_n hx hb dL_law_1237 rfl (lv_at hl 1 rfl) ?_
  refine lv_iload hx hb dL_law_1238 (lv_at hl 6 rfl) ?_
  refine lv_iconst (v := 1) hx hb dL_law_1240 (by decide) ?_
  refine lv_iadd hx hb dL_law_1241 ?_
  obtain ⟨h_7, hf⟩ := gd_e hf
  refine va_sld hx hb hX hbl hbA hS h_7 dL_law_1242 ?_
  refine lv_aload_n hx hb dL_law_1243 rfl (lv_at hl 1 rfl) ?_
  refine lv_iload hx hb dL_law_1244 (lv_at hl 6 rfl) ?_
  refine lv_iconst (v := 2) hx hb dL_law_1246 (by decide) ?_
  refine lv_iadd hx hb dL_law_1247 ?_
  obtain ⟨h_8, hf⟩ := gd_e hf
  refine va_sld hx hb hX hbl hbA hS h_8 dL_law_1248 ?_
  refine lv_aload_n hx hb dL_law_1249 rfl (lv_at hl 1 rfl) ?_
  refine lv_iload hx hb dL_law_1250 (lv_at hl 6 rfl) ?_
  refine lv_iconst (v := 3) hx hb dL_law_1252 (by decide) ?_
  refine lv_iadd hx hb dL_law_1253 ?_
  obtain ⟨h_9, hf⟩ := gd_e hf
  refine va_sld hx hb hX hbl hbA hS h_9 dL_law_1254 ?_
  obtain ⟨r11, M12, e_10, hf⟩ := cb_e hf
  refine c_Vi hx hb hml hown hts hV hK hM hS (As := [.int (xs (x5 + 1).toNatClampNeg), .int (xs (x5 + 2).toNatClampNeg), .int (xs (x5 + 3).toNatClampNeg)]) (rest := []) (k_X9_settles G hG l mo h2 (xs (x5 + 1).toNatClampNeg) (xs (x5 + 2).toNatClampNeg) (xs (x5 + 3).toNatClampNeg) M6 e_10) w_X9_settles (tk_1277 hts) (c_10 h2) rfl rfl ⟨⟨rfl, rfl⟩, Nat.le_of_ble_eq_true rfl, Nat.le_of_ble_eq_true rfl⟩ hc1 rfl hl.1 rfl (Nat.le_of_ble_eq_true rfl) dL_law_1255 (fun H locs hM hS => ?_)
  refine lv_istore (lv' := [(7, .int r11), (6, .int r5), (0, .ref b), (1, .ref x), (2, .ref mo), (3, .ref o), (4, .ref d), (5, .int x5)]) hx hb dL_law_1258 hl (by decide) rfl (fun ls hl => ?_)
  refine lv_aload_n hx hb dL_law_1260 rfl (lv_at hl 4 rfl) ?_
  obtain ⟨r14, e_13, hf⟩ := vb_e hf
  refine c_Vi hx hb hml hown hts hV hK hM hS (As := []) (rest := []) (k_X9_thrown G hG l mo h2 M12 e_13) w_X9_thrown (tk_1012 hts) (c_10 h2) rfl rfl ⟨⟨rfl, rfl⟩, Nat.le_of_ble_eq_true rfl, Nat.le_of_ble_eq_true rfl⟩ hc1 rfl hl.1 rfl (Nat.le_of_ble_eq_true rfl) dL_law_1261 (fun H locs hM hS => ?_)
  refine lv_iload hx hb dL_law_1264 (lv_at hl 1 rfl) ?_
  refine lv_icmp_eq (tgt := 1271) hx hb dL_law_1266 (by decide) (fun g_15 => ?_) (fun g_15 => ?_)
  · rw [if_pos g_15] at hf
    refine lv_iload hx hb dL_law_1271 (lv_at hl 1 rfl) ?_
    refine lv_if_ne (tgt := 1288) hx hb dL_law_1273 (by decide) (fun g_16 => ?_) (fun g_16 => ?_)
    · rw [if_neg g_16] at hf
      refine lv_goto (tgt := 1493) hx hb dL_law_1288 (by decide) ?_
      cases hf
      exact W.widen (by omega) (by omega) (hk H locs ls hM hS (lv_sub hl [2, 3, 4, 5, 6, 7] rfl))
    · rw [if_pos g_16] at hf
      refine lv_aload_n hx hb dL_law_1276 rfl (lv_at hl 5 rfl) ?_
      refine lv_iconst (v := 0) hx hb dL_law_1277 (by decide) ?_
      obtain ⟨h_17, hf⟩ := gd_e hf
      refine s_lald hx hb hK hM h3 h_17 dL_law_1278 ?_
      refine lv_iload hx hb dL_law_1279 (lv_at hl 0 rfl) ?_
      refine lv_i2l hx hb dL_law_1281 rfl ?_
      refine W.lcmp hx hb dL_law_1282 ?_
      refine lv_if_eq (tgt := 1288) hx hb dL_law_1283 (by decide) (fun g_18 => ?_) (fun g_18 => ?_)
      · rw [if_pos g_18] at hf
        refine lv_goto (tgt := 1493) hx hb dL_law_1288 (by decide) ?_
        cases hf
        exact W.widen (by omega) (by omega) (hk H locs ls hM hS (lv_sub hl [2, 3, 4, 5, 6, 7] rfl))
      · rw [if_neg g_18] at hf
        refine lv_iconst (v := 0) hx hb dL_law_1286 (by decide) ?_
        cases hf
  · rw [if_neg g_15] at hf
    refine lv_iconst (v := 0) hx hb dL_law_1269 (by decide) ?_
    cases hf
def f_law_21 (x mo o d : Nat) (xs : Nat → Int32) (L : Nat) (x5 : Int32) (M : Mem) : Option Mem := gd (ix (x5 + 1) L) <| gd (ix (x5 + 2) L) <| cb (f_L_ifDelivered x (xs (x5 + 1).toNatClampNeg) (xs (x5 + 2).toNatClampNeg) o M) fun r4 M5 => gd (ix (x5 + 1) L) <| gd (ix (x5 + 2) L) <| cb (f_X9_ifDelivered mo (xs (x5 + 1).toNatClampNeg) (xs (x5 + 2).toNatClampNeg) M5) fun r9 M10 => vb (f_X9_thrown mo M10) fun r12 => if r12 = r4 then (if r4 = 0 then (gd (ix 0 1) <| if (lg_cmp (mJ M10 o) r9.toInt64) = 0 then (some M10) else (none)) else (some M10)) else (none)
set_option maxHeartbeats 4000000 in
set_option maxRecDepth 100000 in
theorem law_c21 {p : Program} {e : Env} {s : State} {m : MethodId} {below : List Frame} {meth : Method} {c : Code} {b L : Nat} {xs : Nat → Int32} {Q : State → Prop} {C S : Nat} (G : Gt) (hG : gOK G) (hN0 : gNc G) (l : Launch) (hfl : l.stackTraces = false) (hx : p.tables.exec = Jvm.exec) (hb : c.code = cL_law) (hml : c.maxLocals = 10) (hown : s.vm.findClass "FoldedVoicesLaw" = some m.cls) (hts : KK s) (hV : (gS G).vm.Alike s.vm) (hX : va_X b L xs s s.heap) (hbl : b < s.heap.size) (hbA : ¬ gA G b) (x mo o d : Nat) (h1 : gK G x = 9) (h2 : gK G mo = 10) (h3 : gK G o = 9001) (h4 : gK G d = 10001) (x5 : Int32) (hc0 : C ≤ room_1.cells ∧ S ≤ room_1.slots) (hc1 : C + 1 ≤ room_1.cells ∧ S + 6 ≤ room_1.slots) {M M' : Mem} (hf : f_law_21 x mo o d xs L x5 M = some M') (hk : ∀ (H : Heap) (locs : List Loc) (ls : Array Slot), Mh G M' H → va_S (gA G) s.heap H locs → lv_has ls 10 [(0, .ref b), (1, .ref x), (2, .ref mo), (3, .ref o), (4, .ref d), (5, .int x5)] → W p l e room_1 s m #[Value.ref b] below meth c H locs (C + 1) (S + 6) Q (F0 m 1493 ls [])) : ∀ (H : Heap) (locs : List Loc) (ls : Array Slot), Mh G M H → va_S (gA G) s.heap H locs → lv_has ls 10 [(0, .ref b), (1, .ref x), (2, .ref mo), (3, .ref o), (4, .ref d), (5, .int x5)] → W p l e room_1 s m #[Value.ref b] below meth c H locs C S Q (F0 m 1291 ls []) := by
  intro H locs ls hM hS hl
  have hK := hG.1.moved hV
  rw [f_law_21] at hf
  refine lv_aload_n hx hb dL_law_1291 rfl (lv_at hl 1 rfl) ?_
  refine lv_aload_n hx hb dL_law_1292 rfl (lv_at hl 0 rfl) ?_
  refine lv_iload hx hb dL_law_1293 (lv_at hl 5 rfl) ?_
  refine lv_iconst (v := 1) hx hb dL_law_1295 (by decide) ?_
  refine lv_iadd hx hb dL_law_1296 ?_
  obtain ⟨h_1, hf⟩ := gd_e hf
  refine va_sld hx hb hX hbl hbA hS h_1 dL_law_1297 ?_
  refine lv_aload_n hx hb dL_law_1298 rfl (lv_at hl 0 rfl) ?_
  refine lv_iload hx hb dL_law_1299 (lv_at hl 5 rfl) ?_
  refine lv_iconst (v := 2) hx hb dL_law_1301 (by decide) ?_
  refine lv_iadd hx hb dL_law_1302 ?_
  obtain ⟨h_2, hf⟩ := gd_e hf
  refine va_sld hx hb hX hbl hbA hS h_2 dL_law_1303 ?_
  refine lv_aload_n hx hb dL_law_1304 rfl (lv_at hl 3 rfl) ?_
  obtain ⟨r4, M5, e_3, hf⟩ := cb_e hf
  refine c_W hx hb hml hown hts hV hM hS (As := [.ref x, .int (xs (x5 + 1).toNatClampNeg), .int (xs (x5 + 2).toNatClampNeg), .ref o]) (rest := []) (k_L_ifDelivered G hG hN0 l hfl x h1 (xs (x5 + 1).toNatClampNeg) (xs (x5 + 2).toNatClampNeg) o h3 M e_3) w_L_ifDelivered (tk_943 hts) ⟨⟨rfl, rfl⟩, Nat.le_of_ble_eq_true rfl, Nat.le_of_ble_eq_true rfl⟩ hc1 rfl hl.1 rfl (Nat.le_of_ble_eq_true rfl) dL_law_1305 (fun H locs hM hS => ?_)
  refine lv_istore (lv' := [(6, .int r4), (0, .ref b), (1, .ref x), (2, .ref mo), (3, .ref o), (4, .ref d), (5, .int x5)]) hx hb dL_law_1308 hl (by decide) rfl (fun ls hl => ?_)
  refine lv_aload_n hx hb dL_law_1310 rfl (lv_at hl 3 rfl) ?_
  refine lv_aload_n hx hb dL_law_1311 rfl (lv_at hl 1 rfl) ?_
  refine lv_iload hx hb dL_law_1312 (lv_at hl 6 rfl) ?_
  refine lv_iconst (v := 1) hx hb dL_law_1314 (by decide) ?_
  refine lv_iadd hx hb dL_law_1315 ?_
  obtain ⟨h_6, hf⟩ := gd_e hf
  refine va_sld hx hb hX hbl hbA hS h_6 dL_law_1316 ?_
  refine lv_aload_n hx hb dL_law_1317 rfl (lv_at hl 1 rfl) ?_
  refine lv_iload hx hb dL_law_1318 (lv_at hl 6 rfl) ?_
  refine lv_iconst (v := 2) hx hb dL_law_1320 (by decide) ?_
  refine lv_iadd hx hb dL_law_1321 ?_
  obtain ⟨h_7, hf⟩ := gd_e hf
  refine va_sld hx hb hX hbl hbA hS h_7 dL_law_1322 ?_
  obtain ⟨r9, M10, e_8, hf⟩ := cb_e hf
  refine c_Vi hx hb hml hown hts hV hK hM hS (As := [.int (xs (x5 + 1).toNatClampNeg), .int (xs (x5 + 2).toNatClampNeg)]) (rest := []) (k_X9_ifDelivered G hG l mo h2 (xs (x5 + 1).toNatClampNeg) (xs (x5 + 2).toNatClampNeg) M5 e_8) w_X9_ifDelivered (tk_1285 hts) (c_10 h2) rfl rfl ⟨⟨rfl, rfl⟩, Nat.le_of_ble_eq_true rfl, Nat.le_of_ble_eq_true rfl⟩ hc1 rfl hl.1 rfl (Nat.le_of_ble_eq_true rfl) dL_law_1323 (fun H locs hM hS => ?_)
  refine lv_istore (lv' := [(7, .int r9), (6, .int r4), (0, .ref b), (1, .ref x), (2, .ref mo), (3, .ref o), (4, .ref d), (5, .int x5)]) hx hb dL_law_1326 hl (by decide) rfl (fun ls hl => ?_)
  refine lv_aload_n hx hb dL_law_1328 rfl (lv_at hl 4 rfl) ?_
  obtain ⟨r12, e_11, hf⟩ := vb_e hf
  refine c_Vi hx hb hml hown hts hV hK hM hS (As := []) (rest := []) (k_X9_thrown G hG l mo h2 M10 e_11) w_X9_thrown (tk_1012 hts) (c_10 h2) rfl rfl ⟨⟨rfl, rfl⟩, Nat.le_of_ble_eq_true rfl, Nat.le_of_ble_eq_true rfl⟩ hc1 rfl hl.1 rfl (Nat.le_of_ble_eq_true rfl) dL_law_1329 (fun H locs hM hS => ?_)
  refine lv_iload hx hb dL_law_1332 (lv_at hl 1 rfl) ?_
  refine lv_icmp_eq (tgt := 1339) hx hb dL_law_1334 (by decide) (fun g_13 => ?_) (fun g_13 => ?_)
  · rw [if_pos g_13] at hf
    refine lv_iload hx hb dL_law_1339 (lv_at hl 1 rfl) ?_
    refine lv_if_ne (tgt := 1356) hx hb dL_law_1341 (by decide) (fun g_14 => ?_) (fun g_14 => ?_)
    · rw [if_neg g_14] at hf
      refine lv_goto (tgt := 1493) hx hb dL_law_1356 (by decide) ?_
      cases hf
      exact W.widen (by omega) (by omega) (hk H locs ls hM hS (lv_sub hl [2, 3, 4, 5, 6, 7] rfl))
    · rw [if_pos g_14] at hf
      refine lv_aload_n hx hb dL_law_1344 rfl (lv_at hl 5 rfl) ?_
      refine lv_iconst (v := 0) hx hb dL_law_1345 (by decide) ?_
      obtain ⟨h_15, hf⟩ := gd_e hf
      refine s_lald hx hb hK hM h3 h_15 dL_law_1346 ?_
      refine lv_iload hx hb dL_law_1347 (lv_at hl 0 rfl) ?_
      refine lv_i2l hx hb dL_law_1349 rfl ?_
      refine W.lcmp hx hb dL_law_1350 ?_
      refine lv_if_eq (tgt := 1356) hx hb dL_law_1351 (by decide) (fun g_16 => ?_) (fun g_16 => ?_)
      · rw [if_pos g_16] at hf
        refine lv_goto (tgt := 1493) hx hb dL_law_1356 (by decide) ?_
        cases hf
        exact W.widen (by omega) (by omega) (hk H locs ls hM hS (lv_sub hl [2, 3, 4, 5, 6, 7] rfl))
      · rw [if_neg g_16] at hf
        refine lv_iconst (v := 0) hx hb dL_law_1354 (by decide) ?_
        cases hf
  · rw [if_neg g_13] at hf
    refine lv_iconst (v := 0) hx hb dL_law_1337 (by decide) ?_
    cases hf
def f_law_22 (x mo o d : Nat) (xs : Nat → Int32) (L : Nat) (x5 : Int32) (M : Mem) : Option Mem := gd (ix (x5 + 1) L) <| cb (f_L_meanError x (xs (x5 + 1).toNatClampNeg) d M) fun r3 M4 => gd (ix (x5 + 1) L) <| cb (f_X9_meanError mo (xs (x5 + 1).toNatClampNeg) M4) fun r7 M8 => vb (f_X9_thrown mo M8) fun r10 => if r10 = r3 then (if r3 = 0 then (gd (ix 0 1) <| if (Op.cmpValue (FP.dcmp (mD M8 d) r7) .l) = 0 then (some M8) else (gd (ix 0 1) <| gd (ix 0 1) <| if (Op.cmpValue (FP.dcmp (mD M8 d) (mD M8 d)) .l) = 0 then (none) else (if (Op.cmpValue (FP.dcmp r7 r7) .l) = 0 then (none) else (some M8)))) else (some M8)) else (none)
set_option maxHeartbeats 4000000 in
set_option maxRecDepth 100000 in
theorem law_c22 {p : Program} {e : Env} {s : State} {m : MethodId} {below : List Frame} {meth : Method} {c : Code} {b L : Nat} {xs : Nat → Int32} {Q : State → Prop} {C S : Nat} (G : Gt) (hG : gOK G) (hN0 : gNc G) (l : Launch) (hfl : l.stackTraces = false) (hx : p.tables.exec = Jvm.exec) (hb : c.code = cL_law) (hml : c.maxLocals = 10) (hown : s.vm.findClass "FoldedVoicesLaw" = some m.cls) (hts : KK s) (hV : (gS G).vm.Alike s.vm) (hX : va_X b L xs s s.heap) (hbl : b < s.heap.size) (hbA : ¬ gA G b) (x mo o d : Nat) (h1 : gK G x = 9) (h2 : gK G mo = 10) (h3 : gK G o = 9001) (h4 : gK G d = 10001) (x5 : Int32) (hc0 : C ≤ room_1.cells ∧ S ≤ room_1.slots) (hc1 : C + 1 ≤ room_1.cells ∧ S + 6 ≤ room_1.slots) {M M' : Mem} (hf : f_law_22 x mo o d xs L x5 M = some M') (hk : ∀ (H : Heap) (locs : List Loc) (ls : Array Slot), Mh G M' H → va_S (gA G) s.heap H locs → lv_has ls 10 [(0, .ref b), (1, .ref x), (2, .ref mo), (3, .ref o), (4, .ref d), (5, .int x5)] → W p l e room_1 s m #[Value.ref b] below meth c H locs (C + 1) (S + 6) Q (F0 m 1493 ls [])) : ∀ (H : Heap) (locs : List Loc) (ls : Array Slot), Mh G M H → va_S (gA G) s.heap H locs → lv_has ls 10 [(0, .ref b), (1, .ref x), (2, .ref mo), (3, .ref o), (4, .ref d), (5, .int x5)] → W p l e room_1 s m #[Value.ref b] below meth c H locs C S Q (F0 m 1359 ls []) := by
  intro H locs ls hM hS hl
  have hK := hG.1.moved hV
  rw [f_law_22] at hf
  refine lv_aload_n hx hb dL_law_1359 rfl (lv_at hl 1 rfl) ?_
  refine lv_aload_n hx hb dL_law_1360 rfl (lv_at hl 0 rfl) ?_
  refine lv_iload hx hb dL_law_1361 (lv_at hl 5 rfl) ?_
  refine lv_iconst (v := 1) hx hb dL_law_1363 (by decide) ?_
  refine lv_iadd hx hb dL_law_1364 ?_
  obtain ⟨h_1, hf⟩ := gd_e hf
  refine va_sld hx hb hX hbl hbA hS h_1 dL_law_1365 ?_
  refine lv_aload hx hb dL_law_1366 (lv_at hl 4 rfl) ?_
  obtain ⟨r3, M4, e_2, hf⟩ := cb_e hf
  refine c_W hx hb hml hown hts hV hM hS (As := [.ref x, .int (xs (x5 + 1).toNatClampNeg), .ref d]) (rest := []) (k_L_meanError G hG hN0 l hfl x h1 (xs (x5 + 1).toNatClampNeg) d h4 M e_2) w_L_meanError (tk_950 hts) ⟨⟨rfl, rfl⟩, Nat.le_of_ble_eq_true rfl, Nat.le_of_ble_eq_true rfl⟩ hc1 rfl hl.1 rfl (Nat.le_of_ble_eq_true rfl) dL_law_1368 (fun H locs hM hS => ?_)
  refine lv_istore (lv' := [(6, .int r3), (0, .ref b), (1, .ref x), (2, .ref mo), (3, .ref o), (4, .ref d), (5, .int x5)]) hx hb dL_law_1371 hl (by decide) rfl (fun ls hl => ?_)
  refine lv_aload_n hx hb dL_law_1373 rfl (lv_at hl 3 rfl) ?_
  refine lv_aload_n hx hb dL_law_1374 rfl (lv_at hl 1 rfl) ?_
  refine lv_iload hx hb dL_law_1375 (lv_at hl 6 rfl) ?_
  refine lv_iconst (v := 1) hx hb dL_law_1377 (by decide) ?_
  refine lv_iadd hx hb dL_law_1378 ?_
  obtain ⟨h_5, hf⟩ := gd_e hf
  refine va_sld hx hb hX hbl hbA hS h_5 dL_law_1379 ?_
  obtain ⟨r7, M8, e_6, hf⟩ := cb_e hf
  refine c_Vd hx hb hml hown hts hV hK hM hS (As := [.int (xs (x5 + 1).toNatClampNeg)]) (rest := []) (k_X9_meanError G hG l mo h2 (xs (x5 + 1).toNatClampNeg) M4 e_6) w_X9_meanError (tk_1293 hts) (c_10 h2) rfl rfl ⟨⟨rfl, rfl⟩, Nat.le_of_ble_eq_true rfl, Nat.le_of_ble_eq_true rfl⟩ hc1 rfl hl.1 rfl (Nat.le_of_ble_eq_true rfl) dL_law_1380 (fun H locs hM hS => ?_)
  refine lv_dstore (lv' := [(7, .double r7), (6, .int r3), (0, .ref b), (1, .ref x), (2, .ref mo), (3, .ref o), (4, .ref d), (5, .int x5)]) hx hb dL_law_1383 hl (by decide) rfl (fun ls hl => ?_)
  refine lv_aload_n hx hb dL_law_1385 rfl (lv_at hl 4 rfl) ?_
  obtain ⟨r10, e_9, hf⟩ := vb_e hf
  refine c_Vi hx hb hml hown hts hV hK hM hS (As := []) (rest := []) (k_X9_thrown G hG l mo h2 M8 e_9) w_X9_thrown (tk_1012 hts) (c_10 h2) rfl rfl ⟨⟨rfl, rfl⟩, Nat.le_of_ble_eq_true rfl, Nat.le_of_ble_eq_true rfl⟩ hc1 rfl hl.1 rfl (Nat.le_of_ble_eq_true rfl) dL_law_1386 (fun H locs hM hS => ?_)
  refine lv_iload hx hb dL_law_1389 (lv_at hl 1 rfl) ?_
  refine lv_icmp_eq (tgt := 1396) hx hb dL_law_1391 (by decide) (fun g_11 => ?_) (fun g_11 => ?_)
  · rw [if_pos g_11] at hf
    refine lv_iload hx hb dL_law_1396 (lv_at hl 1 rfl) ?_
    refine lv_if_ne (tgt := 1433) hx hb dL_law_1398 (by decide) (fun g_12 => ?_) (fun g_12 => ?_)
    · rw [if_neg g_12] at hf
      refine lv_goto (tgt := 1493) hx hb dL_law_1433 (by decide) ?_
      cases hf
      exact W.widen (by omega) (by omega) (hk H locs ls hM hS (lv_sub hl [2, 3, 4, 5, 6, 7] rfl))
    · rw [if_pos g_12] at hf
      refine lv_aload hx hb dL_law_1401 (lv_at hl 6 rfl) ?_
      refine lv_iconst (v := 0) hx hb dL_law_1403 (by decide) ?_
      obtain ⟨h_13, hf⟩ := gd_e hf
      refine s_dald hx hb hK hM h4 h_13 dL_law_1404 ?_
      refine lv_dload hx hb dL_law_1405 (lv_at hl 0 rfl) ?_
      refine lv_dcmp hx hb dL_law_1407 ?_
      refine lv_if_eq (tgt := 1433) hx hb dL_law_1408 (by decide) (fun g_14 => ?_) (fun g_14 => ?_)
      · rw [if_pos g_14] at hf
        refine lv_goto (tgt := 1493) hx hb dL_law_1433 (by decide) ?_
        cases hf
        exact W.widen (by omega) (by omega) (hk H locs ls hM hS (lv_sub hl [2, 3, 4, 5, 6, 7] rfl))
      · rw [if_neg g_14] at hf
        refine lv_aload hx hb dL_law_1411 (lv_at hl 6 rfl) ?_
        refine lv_iconst (v := 0) hx hb dL_law_1413 (by decide) ?_
        obtain ⟨h_15, hf⟩ := gd_e hf
        refine s_dald hx hb hK hM h4 h_15 dL_law_1414 ?_
        refine lv_aload hx hb dL_law_1415 (lv_at hl 6 rfl) ?_
        refine lv_iconst (v := 0) hx hb dL_law_1417 (by decide) ?_
        obtain ⟨h_16, hf⟩ := gd_e hf
        refine s_dald hx hb hK hM h4 h_16 dL_law_1418 ?_
        refine lv_dcmp hx hb dL_law_1419 ?_
        refine lv_if_eq (tgt := 1431) hx hb dL_law_1420 (by decide) (fun g_17 => ?_) (fun g_17 => ?_)
        · rw [if_pos g_17] at hf
          refine lv_iconst (v := 0) hx hb dL_law_1431 (by decide) ?_
          cases hf
        · rw [if_neg g_17] at hf
          refine lv_dload hx hb dL_law_1423 (lv_at hl 0 rfl) ?_
          refine lv_dload hx hb dL_law_1425 (lv_at hl 0 rfl) ?_
          refine lv_dcmp hx hb dL_law_1427 ?_
          refine lv_if_ne (tgt := 1433) hx hb dL_law_1428 (by decide) (fun g_18 => ?_) (fun g_18 => ?_)
          · rw [if_neg g_18] at hf
            refine lv_goto (tgt := 1493) hx hb dL_law_1433 (by decide) ?_
            cases hf
            exact W.widen (by omega) (by omega) (hk H locs ls hM hS (lv_sub hl [2, 3, 4, 5, 6, 7] rfl))
          · rw [if_pos g_18] at hf
            refine lv_iconst (v := 0) hx hb dL_law_1431 (by decide) ?_
            cases hf
  · rw [if_neg g_11] at hf
    refine lv_iconst (v := 0) hx hb dL_law_1394 (by decide) ?_
    cases hf
def f_law_23 (x mo o d : Nat) (xs : Nat → Int32) (L : Nat) (x5 : Int32) (M : Mem) : Option Mem := vb (f_X8_lostShare x M) fun r2 => gd ((FP.f2d r2) &&& 0x7fffffffffffffff ≤ 0x7ff0000000000000) <| nb (FP.f2d r2) fun y4 => cb (f_X9_lostShare mo M) fun r6 M7 => gd ((FP.f2d r6) &&& 0x7fffffffffffffff ≤ 0x7ff0000000000000) <| nb (FP.f2d r6) fun y9 => if (Op.cmpValue (FP.dcmp y4 y9) .l) = 0 then (some M7) else (if (Op.cmpValue (FP.dcmp y4 y4) .l) = 0 then (none) else (if (Op.cmpValue (FP.dcmp y9 y9) .l) = 0 then (none) else (some M7)))
set_option maxHeartbeats 4000000 in
set_option maxRecDepth 100000 in
theorem law_c23 {p : Program} {e : Env} {s : State} {m : MethodId} {below : List Frame} {meth : Method} {c : Code} {b L : Nat} {xs : Nat → Int32} {Q : State → Prop} {C S : Nat} (G : Gt) (hG : gOK G) (hN0 : gNc G) (l : Launch) (hfl : l.stackTraces = false) (hx : p.tables.exec = Jvm.exec) (hb : c.code = cL_law) (hml : c.maxLocals = 10) (hown : s.vm.findClass "FoldedVoicesLaw" = some m.cls) (hts : KK s) (hV : (gS G).vm.Alike s.vm) (hX : va_X b L xs s s.heap) (hbl : b < s.heap.size) (hbA : ¬ gA G b) (x mo o d : Nat) (h1 : gK G x = 9) (h2 : gK G mo = 10) (h3 : gK G o = 9001) (h4 : gK G d = 10001) (x5 : Int32) (hc0 : C ≤ room_1.cells ∧ S ≤ room_1.slots) (hc1 : C + 1 ≤ room_1.cells ∧ S + 6 ≤ room_1.slots) {M M' : Mem} (hf : f_law_23 x mo o d xs L x5 M = some M') (hk : ∀ (H : Heap) (locs : List Loc) (ls : Array Slot), Mh G M' H → va_S (gA G) s.heap H locs → lv_has ls 10 [(0, .ref b), (1, .ref x), (2, .ref mo), (3, .ref o), (4, .ref d), (5, .int x5)] → W p l e room_1 s m #[Value.ref b] below meth c H locs (C + 1) (S + 6) Q (F0 m 1493 ls [])) : ∀ (H : Heap) (locs : List Loc) (ls : Array Slot), Mh G M H → va_S (gA G) s.heap H locs → lv_has ls 10 [(0, .ref b), (1, .ref x), (2, .ref mo), (3, .ref o), (4, .ref d), (5, .int x5)] → W p l e room_1 s m #[Value.ref b] below meth c H locs C S Q (F0 m 1436 ls []) := by
  intro H locs ls hM hS hl
  have hK := hG.1.moved hV
  rw [f_law_23] at hf
  refine lv_aload_n hx hb dL_law_1436 rfl (lv_at hl 1 rfl) ?_
  obtain ⟨r2, e_1, hf⟩ := vb_e hf
  refine c_Vf hx hb hml hown hts hV hK hM hS (As := []) (rest := []) (k_X8_lostShare G hG l x h1 M e_1) w_X8_lostShare (tk_390 hts) (c_9 h1) rfl rfl ⟨⟨rfl, rfl⟩, Nat.le_of_ble_eq_true rfl, Nat.le_of_ble_eq_true rfl⟩ hc0 rfl hl.1 rfl (Nat.le_of_ble_eq_true rfl) dL_law_1437 (fun H locs hM hS => ?_)
  obtain ⟨h_3, hf⟩ := gd_e hf
  refine lv_f2d hx hb dL_law_1440 h_3 ?_
  obtain ⟨y4, ey4, hf⟩ := nb_e hf
  refine s_nmd ey4 ?_
  refine lv_dstore (lv' := [(6, .double y4), (0, .ref b), (1, .ref x), (2, .ref mo), (3, .ref o), (4, .ref d), (5, .int x5)]) hx hb dL_law_1441 hl (by decide) rfl (fun ls hl => ?_)
  refine lv_aload_n hx hb dL_law_1443 rfl (lv_at hl 3 rfl) ?_
  obtain ⟨r6, M7, e_5, hf⟩ := cb_e hf
  refine c_Vf hx hb hml hown hts hV hK hM hS (As := []) (rest := []) (k_X9_lostShare G hG l mo h2 M e_5) w_X9_lostShare (tk_1301 hts) (c_10 h2) rfl rfl ⟨⟨rfl, rfl⟩, Nat.le_of_ble_eq_true rfl, Nat.le_of_ble_eq_true rfl⟩ hc0 rfl hl.1 rfl (Nat.le_of_ble_eq_true rfl) dL_law_1444 (fun H locs hM hS => ?_)
  obtain ⟨h_8, hf⟩ := gd_e hf
  refine lv_f2d hx hb dL_law_1447 h_8 ?_
  obtain ⟨y9, ey9, hf⟩ := nb_e hf
  refine s_nmd ey9 ?_
  refine lv_dstore (lv' := [(8, .double y9), (6, .double y4), (0, .ref b), (1, .ref x), (2, .ref mo), (3, .ref o), (4, .ref d), (5, .int x5)]) hx hb dL_law_1448 hl (by decide) rfl (fun ls hl => ?_)
  refine lv_dload hx hb dL_law_1450 (lv_at hl 1 rfl) ?_
  refine lv_dload hx hb dL_law_1452 (lv_at hl 0 rfl) ?_
  refine lv_dcmp hx hb dL_law_1454 ?_
  refine lv_if_eq (tgt := 1476) hx hb dL_law_1455 (by decide) (fun g_10 => ?_) (fun g_10 => ?_)
  · rw [if_pos g_10] at hf
    refine lv_goto (tgt := 1493) hx hb dL_law_1476 (by decide) ?_
    cases hf
    exact W.widen (by omega) (by omega) (hk H locs ls hM hS (lv_sub hl [2, 3, 4, 5, 6, 7] rfl))
  · rw [if_neg g_10] at hf
    refine lv_dload hx hb dL_law_1458 (lv_at hl 1 rfl) ?_
    refine lv_dload hx hb dL_law_1460 (lv_at hl 1 rfl) ?_
    refine lv_dcmp hx hb dL_law_1462 ?_
    refine lv_if_eq (tgt := 1474) hx hb dL_law_1463 (by decide) (fun g_11 => ?_) (fun g_11 => ?_)
    · rw [if_pos g_11] at hf
      refine lv_iconst (v := 0) hx hb dL_law_1474 (by decide) ?_
      cases hf
    · rw [if_neg g_11] at hf
      refine lv_dload hx hb dL_law_1466 (lv_at hl 0 rfl) ?_
      refine lv_dload hx hb dL_law_1468 (lv_at hl 0 rfl) ?_
      refine lv_dcmp hx hb dL_law_1470 ?_
      refine lv_if_ne (tgt := 1476) hx hb dL_law_1471 (by decide) (fun g_12 => ?_) (fun g_12 => ?_)
      · rw [if_neg g_12] at hf
        refine lv_goto (tgt := 1493) hx hb dL_law_1476 (by decide) ?_
        cases hf
        exact W.widen (by omega) (by omega) (hk H locs ls hM hS (lv_sub hl [2, 3, 4, 5, 6, 7] rfl))
      · rw [if_pos g_12] at hf
        refine lv_iconst (v := 0) hx hb dL_law_1474 (by decide) ?_
        cases hf
def f_law_24 (x mo o d : Nat) (xs : Nat → Int32) (L : Nat) (x5 : Int32) (M : Mem) : Option Mem := cb (f_X8_digest x M) fun r2 M3 => cb (f_X9_digest mo M3) fun r5 M6 => if (lg_cmp r2 r5) = 0 then (some M6) else (none)
set_option maxHeartbeats 4000000 in
set_option maxRecDepth 100000 in
theorem law_c24 {p : Program} {e : Env} {s : State} {m : MethodId} {below : List Frame} {meth : Method} {c : Code} {b L : Nat} {xs : Nat → Int32} {Q : State → Prop} {C S : Nat} (G : Gt) (hG : gOK G) (hN0 : gNc G) (l : Launch) (hfl : l.stackTraces = false) (hx : p.tables.exec = Jvm.exec) (hb : c.code = cL_law) (hml : c.maxLocals = 10) (hown : s.vm.findClass "FoldedVoicesLaw" = some m.cls) (hts : KK s) (hV : (gS G).vm.Alike s.vm) (hX : va_X b L xs s s.heap) (hbl : b < s.heap.size) (hbA : ¬ gA G b) (x mo o d : Nat) (h1 : gK G x = 9) (h2 : gK G mo = 10) (h3 : gK G o = 9001) (h4 : gK G d = 10001) (x5 : Int32) (hc0 : C ≤ room_1.cells ∧ S ≤ room_1.slots) (hc1 : C + 1 ≤ room_1.cells ∧ S + 6 ≤ room_1.slots) {M M' : Mem} (hf : f_law_24 x mo o d xs L x5 M = some M') (hk : ∀ (H : Heap) (locs : List Loc) (ls : Array Slot), Mh G M' H → va_S (gA G) s.heap H locs → lv_has ls 10 [(0, .ref b), (1, .ref x), (2, .ref mo), (3, .ref o), (4, .ref d), (5, .int x5)] → W p l e room_1 s m #[Value.ref b] below meth c H locs (C + 1) (S + 6) Q (F0 m 1493 ls [])) : ∀ (H : Heap) (locs : List Loc) (ls : Array Slot), Mh G M H → va_S (gA G) s.heap H locs → lv_has ls 10 [(0, .ref b), (1, .ref x), (2, .ref mo), (3, .ref o), (4, .ref d), (5, .int x5)] → W p l e room_1 s m #[Value.ref b] below meth c H locs C S Q (F0 m 1479 ls []) := by
  intro H locs ls hM hS hl
  have hK := hG.1.moved hV
  rw [f_law_24] at hf
  refine lv_aload_n hx hb dL_law_1479 rfl (lv_at hl 1 rfl) ?_
  obtain ⟨r2, M3, e_1, hf⟩ := cb_e hf
  refine c_Vj hx hb hml hown hts hV hK hM hS (As := []) (rest := []) (k_X8_digest G hG l x h1 M e_1) w_X8_digest (tk_398 hts) (c_9 h1) rfl rfl ⟨⟨rfl, rfl⟩, Nat.le_of_ble_eq_true rfl, Nat.le_of_ble_eq_true rfl⟩ hc0 rfl hl.1 rfl (Nat.le_of_ble_eq_true rfl) dL_law_1480 (fun H locs hM hS => ?_)
  refine lv_aload_n hx hb dL_law_1483 rfl (lv_at hl 2 rfl) ?_
  obtain ⟨r5, M6, e_4, hf⟩ := cb_e hf
  refine c_Vj hx hb hml hown hts hV hK hM hS (As := []) (rest := [.long r2]) (k_X9_digest G hG l mo h2 M3 e_4) w_X9_digest (tk_1309 hts) (c_10 h2) rfl rfl ⟨⟨rfl, rfl⟩, Nat.le_of_ble_eq_true rfl, Nat.le_of_ble_eq_true rfl⟩ hc0 rfl hl.1 rfl (Nat.le_of_ble_eq_true rfl) dL_law_1484 (fun H locs hM hS => ?_)
  refine W.lcmp hx hb dL_law_1487 ?_
  refine lv_if_eq (tgt := 1493) hx hb dL_law_1488 (by decide) (fun g_7 => ?_) (fun g_7 => ?_)
  · rw [if_pos g_7] at hf
    cases hf
    exact W.widen (by omega) (by omega) (hk H locs ls hM hS (lv_sub hl [0, 1, 2, 3, 4, 5] rfl))
  · rw [if_neg g_7] at hf
    refine lv_iconst (v := 0) hx hb dL_law_1491 (by decide) ?_
    cases hf
