/-! the law's loop -/
/-- one turn of the law: out of J k some J (k + 1) -/
def Turn (G : Gt) (x e w cc p q r : Nat) (xs : Nat → Int32) (L k : Nat) (M : Mem) (Next : Mem → Prop) : Prop :=
  ∃ (y v : Int32) (M1 : Mem) (J : Mem → Prop) (r0 r1 r2 : Int32), f_slaw1 x e w cc p q r (nI k) xs L M = some (y, v, M1) ∧ J M1 ∧ (∀ N, J N → HW G x e v (y >>> ((3 : Int32) &&& 31)) N J) ∧ (∀ N, J N → HR G x e w cc p 0 r0 N J) ∧ (∀ N, J N → HR G x e w cc q 1 r1 N J) ∧ (∀ N, J N → HR G x e w cc r 2 r2 N J) ∧ ∀ N, J N → ∃ N', f_slaw2 x e w cc p q r 1 (nI k) r0 r1 r2 xs L N = some (1, N') ∧ Next N'
set_option maxHeartbeats 4000000 in
set_option maxRecDepth 100000 in
theorem law_loop {pp : Program} {ee : Env} {s : State} {m : MethodId} {args : Array Value} {below : List Frame} {meth : Method} {c : Code} {Q : State → Prop} (G : Gt) (hG : gOK G) {b L : Nat} {xs : Nat → Int32} (hX0 : gX G b L xs) (l : Launch) (hx : pp.tables.exec = Jvm.exec) (hb : c.code = cL_law) (hml : c.maxLocals = 16) (hown : s.vm.findClass "FoldedVoicesLaw" = some m.cls) (hts : KK s) (hV : (gS G).vm.Alike s.vm) (x : Nat) (h1 : gK G x = 9) (e : Nat) (h2 : gK G e = 1060) (w : Nat) (h3 : gK G w = 1014) (cc : Nat) (h4 : gK G cc = 1024) (p : Nat) (h5 : gK G p = 1064) (q : Nat) (h6 : gK G q = 1064) (r : Nat) (h7 : gK G r = 1064)
    (Inv : Nat → Mem → Prop) (hstep : ∀ (k : Nat) (M : Mem), k < 60 → Inv k M → Turn G x e w cc p q r xs L k M (Inv (k + 1)))
    (hend : ∀ (H : Heap) (locs : List Loc) (ls : Array Slot) (C S : Nat), C ≤ 600130 → S ≤ 7301080 → va_S (gA G) s.heap H locs → W pp l ee room_1 s m args below meth c H locs C S Q (F0 m 338 ls [.int 1])) :
    ∀ (n k : Nat) (M : Mem) (C S : Nat), k + n = 60 → C + 10 * n ≤ 600130 → S + 416 * n ≤ 7301080 → Inv k M → ∀ (H : Heap) (locs : List Loc) (ls : Array Slot), Mh G M H → va_S (gA G) s.heap H locs → lv_has ls 16 [(0, .ref b), (1, .ref x), (2, .ref e), (3, .ref w), (4, .ref cc), (5, .ref p), (6, .ref q), (7, .ref r), (8, .int 1), (9, .int (nI k))] → W pp l ee room_1 s m args below meth c H locs C S Q (F0 m 69 ls []) := by
  have hK := hG.1.moved hV
  have R1 : room_1.cells = 600130 := rfl
  have R2 : room_1.slots = 7301080 := rfl
  intro n
  induction n with
  | zero =>
    intro k M C S hk hC hS0 hI H locs ls hM hS hl
    refine lv_iload hx hb dL_law_69 (lv_at hl 9 rfl) ?_
    refine lv_bipush (v := 60) hx hb dL_law_71 (by decide) ?_
    refine lv_icmp_ge (tgt := 336) hx hb dL_law_73 (by decide) (fun _ => ?_) (fun g => absurd (show (60 : Int32) ≤ nI k from nI_le (a := 60) (by omega) (by omega)) g)
    refine lv_iload hx hb dL_law_336 (lv_at hl 8 rfl) ?_
    exact hend H locs ls C S (by omega) (by omega) hS
  | succ n ih =>
    intro k M C S hk hC hS0 hI H locs ls hM hS hl
    obtain ⟨y, v, M1, J, r0, r1, r2, e1, j1, hw, hr0, hr1, hr2, hz⟩ := hstep k M (by omega) hI
    refine lv_iload hx hb dL_law_69 (lv_at hl 9 rfl) ?_
    refine lv_bipush (v := 60) hx hb dL_law_71 (by decide) ?_
    refine lv_icmp_ge (tgt := 336) hx hb dL_law_73 (by decide) (fun g => absurd g (show ¬ (60 : Int32) ≤ nI k from nI_ge (b := 60) (by omega) (by decide))) (fun _ => ?_)
    refine lv_iload hx hb dL_law_76 (lv_at hl 8 rfl) ?_
    refine lv_if_eq (tgt := 336) hx hb dL_law_78 (by decide) (fun g => absurd g (by decide)) (fun _ => ?_)
    refine k_slaw1 G hG hX0 l hx hb hml hown hts hV x h1 e h2 w h3 cc h4 p h5 q h6 r h7 (nI k) M e1 ⟨by omega, by omega⟩ (fun H locs ls hM hS hl => ?_) H locs ls hM hS (lv_sub hl [0, 1, 2, 3, 4, 5, 6, 7, 9] rfl)
    refine lv_aload_n hx hb dL_law_202 rfl (lv_at hl 1 rfl) ?_
    refine lv_aload_n hx hb dL_law_203 rfl (lv_at hl 2 rfl) ?_
    refine lv_iload hx hb dL_law_204 (lv_at hl 10 rfl) ?_
    refine lv_iload hx hb dL_law_206 (lv_at hl 9 rfl) ?_
    refine lv_iconst (v := 3) hx hb dL_law_208 (by decide) ?_
    refine lv_ishr hx hb dL_law_209 ?_
    refine c_SA hx hb hml hown hts hV hM hS (As := [.ref x, .ref e, .int v, .int (y >>> ((3 : Int32) &&& 31))]) (rest := []) (k_L_would G hG l x h1 e h2 v _ M1 (hw M1 j1)) w_L_would (tk_606 hts) ⟨⟨rfl, rfl⟩, Nat.le_of_ble_eq_true rfl, Nat.le_of_ble_eq_true rfl⟩ ⟨by omega, by omega⟩ rfl hl.1 rfl (Nat.le_of_ble_eq_true rfl) dL_law_210 (fun M H locs j hM hS => ?_)
    refine lv_if_eq (tgt := 220) hx hb dL_law_213 (by decide) (fun g => absurd g (by decide)) (fun _ => ?_)
    refine lv_iconst (v := 1) hx hb dL_law_216 (by decide) ?_
    refine lv_goto (tgt := 221) hx hb dL_law_217 (by decide) ?_
    refine lv_istore (lv' := [(8, .int 1), (0, .ref b), (1, .ref x), (2, .ref e), (3, .ref w), (4, .ref cc), (5, .ref p), (6, .ref q), (7, .ref r), (9, .int (nI k)), (10, .int y), (11, .int v)]) hx hb dL_law_221 hl (by decide) rfl (fun ls hl => ?_)
    refine lv_aload_n hx hb dL_law_223 rfl (lv_at hl 2 rfl) ?_
    refine lv_aload_n hx hb dL_law_224 rfl (lv_at hl 3 rfl) ?_
    refine lv_aload_n hx hb dL_law_225 rfl (lv_at hl 4 rfl) ?_
    refine lv_aload hx hb dL_law_226 (lv_at hl 5 rfl) ?_
    refine lv_aload hx hb dL_law_228 (lv_at hl 6 rfl) ?_
    refine lv_iconst (v := 0) hx hb dL_law_230 (by decide) ?_
    refine c_SA hx hb hml hown hts hV hM hS (As := [.ref x, .ref e, .ref w, .ref cc, .ref p, .int 0]) (rest := []) (k_L_reason G hG l x h1 e h2 w h3 cc h4 p h5 0 M (hr0 M j)) w_L_reason (tk_482 hts) ⟨⟨rfl, rfl⟩, Nat.le_of_ble_eq_true rfl, Nat.le_of_ble_eq_true rfl⟩ ⟨by omega, by omega⟩ rfl hl.1 rfl (Nat.le_of_ble_eq_true rfl) dL_law_231 (fun M H locs j hM hS => ?_)
    refine lv_istore (lv' := [(13, .int r0), (8, .int 1), (0, .ref b), (1, .ref x), (2, .ref e), (3, .ref w), (4, .ref cc), (5, .ref p), (6, .ref q), (7, .ref r), (9, .int (nI k)), (10, .int y), (11, .int v)]) hx hb dL_law_234 hl (by decide) rfl (fun ls hl => ?_)
    refine lv_aload_n hx hb dL_law_236 rfl (lv_at hl 3 rfl) ?_
    refine lv_aload_n hx hb dL_law_237 rfl (lv_at hl 4 rfl) ?_
    refine lv_aload_n hx hb dL_law_238 rfl (lv_at hl 5 rfl) ?_
    refine lv_aload hx hb dL_law_239 (lv_at hl 6 rfl) ?_
    refine lv_aload hx hb dL_law_241 (lv_at hl 8 rfl) ?_
    refine lv_iconst (v := 1) hx hb dL_law_243 (by decide) ?_
    refine c_SA hx hb hml hown hts hV hM hS (As := [.ref x, .ref e, .ref w, .ref cc, .ref q, .int 1]) (rest := []) (k_L_reason G hG l x h1 e h2 w h3 cc h4 q h6 1 M (hr1 M j)) w_L_reason (tk_482 hts) ⟨⟨rfl, rfl⟩, Nat.le_of_ble_eq_true rfl, Nat.le_of_ble_eq_true rfl⟩ ⟨by omega, by omega⟩ rfl hl.1 rfl (Nat.le_of_ble_eq_true rfl) dL_law_244 (fun M H locs j hM hS => ?_)
    refine lv_istore (lv' := [(14, .int r1), (13, .int r0), (8, .int 1), (0, .ref b), (1, .ref x), (2, .ref e), (3, .ref w), (4, .ref cc), (5, .ref p), (6, .ref q), (7, .ref r), (9, .int (nI k)), (10, .int y), (11, .int v)]) hx hb dL_law_247 hl (by decide) rfl (fun ls hl => ?_)
    refine lv_aload_n hx hb dL_law_249 rfl (lv_at hl 4 rfl) ?_
    refine lv_aload_n hx hb dL_law_250 rfl (lv_at hl 5 rfl) ?_
    refine lv_aload_n hx hb dL_law_251 rfl (lv_at hl 6 rfl) ?_
    refine lv_aload hx hb dL_law_252 (lv_at hl 7 rfl) ?_
    refine lv_aload hx hb dL_law_254 (lv_at hl 10 rfl) ?_
    refine lv_iconst (v := 2) hx hb dL_law_256 (by decide) ?_
    refine c_SA hx hb hml hown hts hV hM hS (As := [.ref x, .ref e, .ref w, .ref cc, .ref r, .int 2]) (rest := []) (k_L_reason G hG l x h1 e h2 w h3 cc h4 r h7 2 M (hr2 M j)) w_L_reason (tk_482 hts) ⟨⟨rfl, rfl⟩, Nat.le_of_ble_eq_true rfl, Nat.le_of_ble_eq_true rfl⟩ ⟨by omega, by omega⟩ rfl hl.1 rfl (Nat.le_of_ble_eq_true rfl) dL_law_257 (fun M H locs j hM hS => ?_)
    refine lv_istore (lv' := [(15, .int r2), (14, .int r1), (13, .int r0), (8, .int 1), (0, .ref b), (1, .ref x), (2, .ref e), (3, .ref w), (4, .ref cc), (5, .ref p), (6, .ref q), (7, .ref r), (9, .int (nI k)), (10, .int y), (11, .int v)]) hx hb dL_law_260 hl (by decide) rfl (fun ls hl => ?_)
    obtain ⟨N', e2, hI2⟩ := hz M j
    refine k_slaw2 G hG hX0 l hx hb hml hown hts hV x h1 e h2 w h3 cc h4 p h5 q h6 r h7 1 (nI k) r0 r1 r2 M e2 ⟨by omega, by omega⟩ (fun H locs ls hM hS hl => ?_) H locs ls hM hS (lv_sub hl [4, 5, 6, 7, 8, 9, 10, 11, 3, 12, 2, 1, 0] rfl)
    refine lv_iinc (v := nI (k + 1)) (lv' := [(9, .int (nI (k + 1))), (0, .ref b), (1, .ref x), (2, .ref e), (3, .ref w), (4, .ref cc), (5, .ref p), (6, .ref q), (7, .ref r), (13, .int r0), (14, .int r1), (15, .int r2), (8, .int 1)]) hx hb dL_law_330 hl (k := 8) rfl (nI_succ k).symm (by decide) rfl (fun ls hl => ?_)
    refine lv_goto (tgt := 69) hx hb dL_law_333 (by decide) ?_
    exact ih (k + 1) N' (C + 1 + 3 + 3 + 3) (S + 2 + 138 + 138 + 138) (by omega) (by omega) (by omega) hI2 H locs ls hM hS (lv_sub hl [1, 2, 3, 4, 5, 6, 7, 8, 12, 0] rfl)
