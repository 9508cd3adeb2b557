/-! the constructors, walked -/
theorem x9_row (j : Nat) : upd (upd (upd (fun _ => (0 : Int32)) 0 1) 2 4) 3 3 j = cINIT j := by
  match j with
  | 0 => rfl
  | 1 => rfl
  | 2 => rfl
  | 3 => rfl
  | j + 4 => rfl
theorem ra_o {U : State} {cA : ClassId} {C : String} (h : va_RA U cA (.object C)) : U.vm.findClass ("[" ++ (FieldType.object C).toString) = some cA := by
  obtain ⟨_, _, _, _, _, h⟩ := h
  exact h
theorem lv_size {ls : Array Slot} {n : Nat} {l : List (Nat × Value)} (h : lv_has ls n l) : ls.size = n := h.1
theorem x_ne2 {v : Nat} {p q : Nat × va_E} (h1 : p.1 ≠ v) (h2 : q.1 ≠ v) : ∀ (k : Nat) (r : Nat × va_E), [p, q][k]? = some r → r.1 ≠ v := fun k r hr => by
  match k, hr with
  | 0, hr => cases hr; exact h1
  | 1, hr => cases hr; exact h2
  | k + 2, hr => simp at hr
theorem x_ne {X : va_W} {v : Nat} (h : ∀ p ∈ X, p.1 ≠ v) : ∀ (k : Nat) (p : Nat × va_E), X[k]? = some p → p.1 ≠ v := fun _ p hp => h p (List.mem_of_getElem? hp)
theorem m0_pk {G : Gt} (hw : wfM G (M0 G)) {a : Nat} (h : gK G a = 6008) (j : Nat) (hj : j < 8) : gK G (a + 1 + 4 * j) = 3 := by
  have := hw.1 a j h hj
  rw [m0_p h] at this
  exact this
theorem m0_sk {G : Gt} (hw : wfM G (M0 G)) {a : Nat} (h : gK G a = 8006) (j : Nat) (hj : j < 6) : gK G (a + 6 + 136 * j) = 6 := by
  have := hw.2 a j h hj
  rw [m0_r h] at this
  exact this
set_option maxHeartbeats 4000000 in
set_option maxRecDepth 100000 in
theorem kn_X0 (G : Gt) (hG : gOK G) (hw : wfM G (M0 G)) (l : Launch) (a0 : Nat) (h0 : gK G a0 = 1) : Kn G l yX0_init cX0_init 1 ({ frames := 1, cells := 0, slots := 0, locals := 12 } : Room) a0 0 [.int 0, .int 0] 1 := by
  refine startN (by decide) rfl (by decide) ?_
  intro p e s m args below meth c ls hx hb hr hown hml hlocks hin hts hV hA hB hl
  have hown : s.vm.findClass "FoldedVoices$End" = some m.cls := hown
  have hK := hG.1.moved hV
  have hl : lv_has ls 1 [(0, .ref a0)] := hl
  refine lv_aload_n hx hb dX0_init_0 rfl (lv_at hl 0 rfl) ?_
  refine b_init hx hb hml hown (tk_64 hts) (tk_27 hts) (tk_28 hts) (lv_size hl) (Nat.le_of_ble_eq_true rfl) (Nat.le_of_ble_eq_true rfl) dX0_init_1 ?_
  exact b_end hx hb hr hlocks hB (List.forall_mem_cons.mpr ⟨fun _ _ => (fin_eq ((c_1 h0).trans (by rw [m0_i h0 (by decide)]))), List.forall_mem_nil _⟩) dX0_init_4
set_option maxHeartbeats 4000000 in
set_option maxRecDepth 100000 in
theorem kn_X4 (G : Gt) (hG : gOK G) (hw : wfM G (M0 G)) (l : Launch) (a0 : Nat) (h0 : gK G a0 = 5) : Kn G l yX4_init cX4_init 1 ({ frames := 1, cells := 1, slots := 4, locals := 12 } : Room) a0 4 [.null] 2 := by
  refine startN (by decide) rfl (by decide) ?_
  intro p e s m args below meth c ls hx hb hr hown hml hlocks hin hts hV hA hB hl
  have hown : s.vm.findClass "FoldedVoices$Settings" = some m.cls := hown
  have hK := hG.1.moved hV
  have hl : lv_has ls 1 [(0, .ref a0)] := hl
  refine lv_aload_n hx hb dX4_init_0 rfl (lv_at hl 0 rfl) ?_
  refine b_init hx hb hml hown (tk_42 hts) (tk_27 hts) (tk_28 hts) (lv_size hl) (Nat.le_of_ble_eq_true rfl) (Nat.le_of_ble_eq_true rfl) dX4_init_1 ?_
  refine lv_aload_n hx hb dX4_init_4 rfl (lv_at hl 0 rfl) ?_
  refine lv_iconst (v := 4) hx hb dX4_init_5 (by decide) ?_
  refine b_arr (ty := .int) rfl rfl hx hb (tk_47 hts) (hK.2 0 _ rfl).2 hB (n := 4) (N := 4) (by decide) (by decide) (by decide) (Nat.le_of_ble_eq_true rfl) (Nat.le_of_ble_eq_true rfl) dX4_init_6 (fun H hB => ?_)
  replace hB : Bd G a0 2 [(a0, .inr (4, [.null])), (a0 + 1, .inl (gC G 0, 4, .inl (fun _ => 0)))] s.heap H _ := hB
  refine lv_dup hx hb dX4_init_8 rfl ?_
  refine lv_iconst (v := 0) hx hb dX4_init_9 (by decide) ?_
  refine lv_iconst (v := 1) hx hb dX4_init_10 (by decide) ?_
  refine b_ist (t0 := 0) hx hb hK hB 1 rfl rfl (i := 0) (by decide) dX4_init_11 (fun H locs hB => ?_)
  replace hB : Bd G a0 2 [(a0, .inr (4, [.null])), (a0 + 1, .inl (gC G 0, 4, .inl (upd (fun _ => 0) 0 1)))] s.heap H _ := hB
  refine lv_dup hx hb dX4_init_12 rfl ?_
  refine lv_iconst (v := 1) hx hb dX4_init_13 (by decide) ?_
  refine lv_iconst (v := 0) hx hb dX4_init_14 (by decide) ?_
  refine b_ist (t0 := 0) hx hb hK hB 1 rfl rfl (i := 1) (by decide) dX4_init_15 (fun H locs hB => ?_)
  replace hB : Bd G a0 2 [(a0, .inr (4, [.null])), (a0 + 1, .inl (gC G 0, 4, .inl (upd (upd (fun _ => 0) 0 1) 1 0)))] s.heap H _ := hB
  refine lv_dup hx hb dX4_init_16 rfl ?_
  refine lv_iconst (v := 2) hx hb dX4_init_17 (by decide) ?_
  refine lv_iconst (v := 4) hx hb dX4_init_18 (by decide) ?_
  refine b_ist (t0 := 0) hx hb hK hB 1 rfl rfl (i := 2) (by decide) dX4_init_19 (fun H locs hB => ?_)
  replace hB : Bd G a0 2 [(a0, .inr (4, [.null])), (a0 + 1, .inl (gC G 0, 4, .inl (upd (upd (upd (fun _ => 0) 0 1) 1 0) 2 4)))] s.heap H _ := hB
  refine lv_dup hx hb dX4_init_20 rfl ?_
  refine lv_iconst (v := 3) hx hb dX4_init_21 (by decide) ?_
  refine lv_iconst (v := 3) hx hb dX4_init_22 (by decide) ?_
  refine b_ist (t0 := 0) hx hb hK hB 1 rfl rfl (i := 3) (by decide) dX4_init_23 (fun H locs hB => ?_)
  replace hB : Bd G a0 2 [(a0, .inr (4, [.null])), (a0 + 1, .inl (gC G 0, 4, .inl (upd (upd (upd (upd (fun _ => 0) 0 1) 1 0) 2 4) 3 3)))] s.heap H _ := hB
  refine b_put tyX4 hx hb (lay_4 hts) tyX4_ok nmX4 hown hK hin hB 0 rfl rfl 0 (by decide) rfl rfl rfl rfl (Nat.le_of_ble_eq_true rfl) rfl (tk_43 hts) dX4_init_24 (fun H locs hB => ?_)
  replace hB : Bd G a0 2 [(a0, .inr (4, [.ref (a0 + 1)])), (a0 + 1, .inl (gC G 0, 4, .inl (upd (upd (upd (upd (fun _ => 0) 0 1) 1 0) 2 4) 3 3)))] s.heap H _ := hB
  exact b_end hx hb hr hlocks hB (List.forall_mem_cons.mpr ⟨fun _ _ => (fin_eq ((c_5 h0).trans rfl)), List.forall_mem_cons.mpr ⟨fun _ _ => (fin_int ((cel_ia (n := 4) (ky_5_0 hG h0) (by decide)).trans (by rw [m0_s (ky_5_0 hG h0)])) (fun j hj => by match j, hj with | 0, _ => rfl | 1, _ => rfl | 2, _ => rfl | 3, _ => rfl | j + 4, hj => omega)), List.forall_mem_nil _⟩⟩) dX4_init_27
set_option maxHeartbeats 4000000 in
set_option maxRecDepth 100000 in
theorem kn_X6 (G : Gt) (hG : gOK G) (hw : wfM G (M0 G)) (l : Launch) (a0 : Nat) (h0 : gK G a0 = 7) : Kn G l yX6_init cX6_init 1 ({ frames := 1, cells := 1, slots := 60, locals := 12 } : Room) a0 6 [.null, .int 0, .int 0, .int 0, .int 0, .int 0, .int 0] 2 := by
  refine startN (by decide) rfl (by decide) ?_
  intro p e s m args below meth c ls hx hb hr hown hml hlocks hin hts hV hA hB hl
  have hown : s.vm.findClass "FoldedVoices$TalkText" = some m.cls := hown
  have hK := hG.1.moved hV
  have hl : lv_has ls 1 [(0, .ref a0)] := hl
  refine lv_aload_n hx hb dX6_init_0 rfl (lv_at hl 0 rfl) ?_
  refine b_init hx hb hml hown (tk_248 hts) (tk_27 hts) (tk_28 hts) (lv_size hl) (Nat.le_of_ble_eq_true rfl) (Nat.le_of_ble_eq_true rfl) dX6_init_1 ?_
  refine lv_aload_n hx hb dX6_init_4 rfl (lv_at hl 0 rfl) ?_
  refine lv_bipush (v := 60) hx hb dX6_init_5 (by decide) ?_
  refine b_arr (ty := .char) rfl rfl hx hb (tk_275 hts) (hK.2 1 _ rfl).2 hB (n := 60) (N := 60) (by decide) (by decide) (by decide) (Nat.le_of_ble_eq_true rfl) (Nat.le_of_ble_eq_true rfl) dX6_init_7 (fun H hB => ?_)
  replace hB : Bd G a0 2 [(a0, .inr (6, [.null, .int 0, .int 0, .int 0, .int 0, .int 0, .int 0])), (a0 + 1, .inl (gC G 1, 60, .inl (fun _ => 0)))] s.heap H _ := hB
  refine b_put tyX6 hx hb (lay_6 hts) tyX6_ok nmX6 hown hK hin hB 0 rfl rfl 0 (by decide) rfl rfl rfl rfl (Nat.le_of_ble_eq_true rfl) rfl (tk_249 hts) dX6_init_9 (fun H locs hB => ?_)
  replace hB : Bd G a0 2 [(a0, .inr (6, [.ref (a0 + 1), .int 0, .int 0, .int 0, .int 0, .int 0, .int 0])), (a0 + 1, .inl (gC G 1, 60, .inl (fun _ => 0)))] s.heap H _ := hB
  exact b_end hx hb hr hlocks hB (List.forall_mem_cons.mpr ⟨fun _ _ => (fin_eq ((c_7 h0).trans (by rw [m0_i h0 (by decide)]))), List.forall_mem_cons.mpr ⟨fun _ _ => (fin_eq ((cel_ca (n := 60) (ky_7_0 hG h0) (by decide)).trans (by rw [m0_i (ky_7_0 hG h0) (by decide)]))), List.forall_mem_nil _⟩⟩) dX6_init_12
set_option maxHeartbeats 4000000 in
set_option maxRecDepth 100000 in
theorem kn_X2 (G : Gt) (hG : gOK G) (hw : wfM G (M0 G)) (l : Launch) (a0 : Nat) (h0 : gK G a0 = 3) : Kn G l yX2_init cX2_init 1 ({ frames := 2, cells := 3, slots := 18, locals := 32 } : Room) a0 2 [.null, .null, .int 0, .int 0, .int 0, .null] 4 := by
  refine startN (by decide) rfl (by decide) ?_
  intro p e s m args below meth c ls hx hb hr hown hml hlocks hin hts hV hA hB hl
  have hown : s.vm.findClass "FoldedVoices$Packet" = some m.cls := hown
  have hK := hG.1.moved hV
  have hl : lv_has ls 1 [(0, .ref a0)] := hl
  refine lv_aload_n hx hb dX2_init_0 rfl (lv_at hl 0 rfl) ?_
  refine b_init hx hb hml hown (tk_84 hts) (tk_27 hts) (tk_28 hts) (lv_size hl) (Nat.le_of_ble_eq_true rfl) (Nat.le_of_ble_eq_true rfl) dX2_init_1 ?_
  refine lv_aload_n hx hb dX2_init_4 rfl (lv_at hl 0 rfl) ?_
  refine lv_bipush (v := 8) hx hb dX2_init_5 (by decide) ?_
  refine b_arr (ty := .int) rfl rfl hx hb (tk_47 hts) (hK.2 0 _ rfl).2 hB (n := 8) (N := 8) (by decide) (by decide) (by decide) (Nat.le_of_ble_eq_true rfl) (Nat.le_of_ble_eq_true rfl) dX2_init_7 (fun H hB => ?_)
  replace hB : Bd G a0 2 [(a0, .inr (2, [.null, .null, .int 0, .int 0, .int 0, .null])), (a0 + 1, .inl (gC G 0, 8, .inl (fun _ => 0)))] s.heap H _ := hB
  refine b_put tyX2 hx hb (lay_2 hts) tyX2_ok nmX2 hown hK hin hB 0 rfl rfl 0 (by decide) rfl rfl rfl rfl (Nat.le_of_ble_eq_true rfl) rfl (tk_87 hts) dX2_init_9 (fun H locs hB => ?_)
  replace hB : Bd G a0 2 [(a0, .inr (2, [.ref (a0 + 1), .null, .int 0, .int 0, .int 0, .null])), (a0 + 1, .inl (gC G 0, 8, .inl (fun _ => 0)))] s.heap H _ := hB
  refine lv_aload_n hx hb dX2_init_12 rfl (lv_at hl 0 rfl) ?_
  refine lv_bipush (v := 8) hx hb dX2_init_13 (by decide) ?_
  refine b_arr (ty := .int) rfl rfl hx hb (tk_47 hts) (hK.2 0 _ rfl).2 hB (n := 8) (N := 8) (by decide) (by decide) (by decide) (Nat.le_of_ble_eq_true rfl) (Nat.le_of_ble_eq_true rfl) dX2_init_15 (fun H hB => ?_)
  replace hB : Bd G a0 3 [(a0, .inr (2, [.ref (a0 + 1), .null, .int 0, .int 0, .int 0, .null])), (a0 + 1, .inl (gC G 0, 8, .inl (fun _ => 0))), (a0 + 2, .inl (gC G 0, 8, .inl (fun _ => 0)))] s.heap H _ := hB
  refine b_put tyX2 hx hb (lay_2 hts) tyX2_ok nmX2 hown hK hin hB 0 rfl rfl 1 (by decide) rfl rfl rfl rfl (Nat.le_of_ble_eq_true rfl) rfl (tk_88 hts) dX2_init_17 (fun H locs hB => ?_)
  replace hB : Bd G a0 3 [(a0, .inr (2, [.ref (a0 + 1), .ref (a0 + 2), .int 0, .int 0, .int 0, .null])), (a0 + 1, .inl (gC G 0, 8, .inl (fun _ => 0))), (a0 + 2, .inl (gC G 0, 8, .inl (fun _ => 0)))] s.heap H _ := hB
  refine lv_aload_n hx hb dX2_init_20 rfl (lv_at hl 0 rfl) ?_
  refine b_newN tyX0 hx hb hml hown hts hV hA hK hB (kn_X0 G hG hw l _ (ky_3_5 hG h0)) wn_X0 (lay_0 hts) tyX0_ok rfl (by decide) (by decide) (tk_85 hts) (tk_86 hts) ⟨Nat.le_of_ble_eq_true rfl, Nat.le_of_ble_eq_true rfl⟩ ⟨Nat.le_of_ble_eq_true rfl, Nat.le_of_ble_eq_true rfl⟩ (lv_size hl) (Nat.le_of_ble_eq_true rfl) dX2_init_21 dX2_init_24 dX2_init_25 (fun H locs hB => ?_)
  replace hB : Bd G a0 4 [(a0, .inr (2, [.ref (a0 + 1), .ref (a0 + 2), .int 0, .int 0, .int 0, .null])), (a0 + 1, .inl (gC G 0, 8, .inl (fun _ => 0))), (a0 + 2, .inl (gC G 0, 8, .inl (fun _ => 0)))] s.heap H _ := hB
  refine b_put tyX2 hx hb (lay_2 hts) tyX2_ok nmX2 hown hK hin hB 0 rfl rfl 5 (by decide) rfl rfl rfl rfl (Nat.le_of_ble_eq_true rfl) rfl (tk_102 hts) dX2_init_28 (fun H locs hB => ?_)
  replace hB : Bd G a0 4 [(a0, .inr (2, [.ref (a0 + 1), .ref (a0 + 2), .int 0, .int 0, .int 0, .ref (a0 + 3)])), (a0 + 1, .inl (gC G 0, 8, .inl (fun _ => 0))), (a0 + 2, .inl (gC G 0, 8, .inl (fun _ => 0)))] s.heap H _ := hB
  exact b_end hx hb hr hlocks hB (List.forall_mem_cons.mpr ⟨fun _ _ => (fin_eq ((c_3 h0).trans (by rw [m0_i h0 (by decide)]))), List.forall_mem_cons.mpr ⟨fun _ _ => (fin_eq ((cel_ia (n := 8) (ky_3_0 hG h0) (by decide)).trans (by rw [m0_i (ky_3_0 hG h0) (by decide)]))), List.forall_mem_cons.mpr ⟨fun _ _ => (fin_eq ((cel_ia (n := 8) (ky_3_1 hG h0) (by decide)).trans (by rw [m0_i (ky_3_1 hG h0) (by decide)]))), List.forall_mem_nil _⟩⟩⟩) dX2_init_31
set_option maxHeartbeats 4000000 in
set_option maxRecDepth 100000 in
theorem kn_X1 (G : Gt) (hG : gOK G) (hw : wfM G (M0 G)) (l : Launch) (a0 : Nat) (h0 : gK G a0 = 2) : Kn G l yX1_init cX1_init 1 ({ frames := 2, cells := 1, slots := 2, locals := 32 } : Room) a0 1 [.null, .int 0, .int 0, .int 0, .int 0, .int 0, .int 0, .int 0, .int 0, .int 0] 2 := by
  refine startN (by decide) rfl (by decide) ?_
  intro p e s m args below meth c ls hx hb hr hown hml hlocks hin hts hV hA hB hl
  have hown : s.vm.findClass "FoldedVoices$HearingEnd" = some m.cls := hown
  have hK := hG.1.moved hV
  have hl : lv_has ls 1 [(0, .ref a0)] := hl
  refine lv_aload_n hx hb dX1_init_0 rfl (lv_at hl 0 rfl) ?_
  refine b_init hx hb hml hown (tk_168 hts) (tk_27 hts) (tk_28 hts) (lv_size hl) (Nat.le_of_ble_eq_true rfl) (Nat.le_of_ble_eq_true rfl) dX1_init_1 ?_
  refine lv_aload_n hx hb dX1_init_4 rfl (lv_at hl 0 rfl) ?_
  refine b_newN tyX0 hx hb hml hown hts hV hA hK hB (kn_X0 G hG hw l _ (ky_2_0 hG h0)) wn_X0 (lay_0 hts) tyX0_ok rfl (by decide) (by decide) (tk_169 hts) (tk_170 hts) ⟨Nat.le_of_ble_eq_true rfl, Nat.le_of_ble_eq_true rfl⟩ ⟨Nat.le_of_ble_eq_true rfl, Nat.le_of_ble_eq_true rfl⟩ (lv_size hl) (Nat.le_of_ble_eq_true rfl) dX1_init_5 dX1_init_8 dX1_init_9 (fun H locs hB => ?_)
  replace hB : Bd G a0 2 [(a0, .inr (1, [.null, .int 0, .int 0, .int 0, .int 0, .int 0, .int 0, .int 0, .int 0, .int 0]))] s.heap H _ := hB
  refine b_put tyX1 hx hb (lay_1 hts) tyX1_ok nmX1 hown hK hin hB 0 rfl rfl 0 (by decide) rfl rfl rfl rfl (Nat.le_of_ble_eq_true rfl) rfl (tk_171 hts) dX1_init_12 (fun H locs hB => ?_)
  replace hB : Bd G a0 2 [(a0, .inr (1, [.ref (a0 + 1), .int 0, .int 0, .int 0, .int 0, .int 0, .int 0, .int 0, .int 0, .int 0]))] s.heap H _ := hB
  exact b_end hx hb hr hlocks hB (List.forall_mem_cons.mpr ⟨fun _ _ => (fin_eq ((c_2 h0).trans (by rw [m0_i h0 (by decide)]))), List.forall_mem_nil _⟩) dX1_init_15
set_option maxHeartbeats 4000000 in
set_option maxRecDepth 100000 in
theorem kn_X3 (G : Gt) (hG : gOK G) (hw : wfM G (M0 G)) (l : Launch) (a0 : Nat) (h0 : gK G a0 = 4) : Kn G l yX3_init cX3_init 1 ({ frames := 3, cells := 7, slots := 100, locals := 52 } : Room) a0 3 [.null, .int 0, .int 0, .int 0, .null, .int 0, .int 0, .int 0, .null, .null, .int 0] 8 := by
  refine startN (by decide) rfl (by decide) ?_
  intro p e s m args below meth c ls hx hb hr hown hml hlocks hin hts hV hA hB hl
  have hown : s.vm.findClass "FoldedVoices$SayingEnd" = some m.cls := hown
  have hK := hG.1.moved hV
  have hl : lv_has ls 1 [(0, .ref a0)] := hl
  refine lv_aload_n hx hb dX3_init_0 rfl (lv_at hl 0 rfl) ?_
  refine b_init hx hb hml hown (tk_58 hts) (tk_27 hts) (tk_28 hts) (lv_size hl) (Nat.le_of_ble_eq_true rfl) (Nat.le_of_ble_eq_true rfl) dX3_init_1 ?_
  refine lv_aload_n hx hb dX3_init_4 rfl (lv_at hl 0 rfl) ?_
  refine b_newN tyX0 hx hb hml hown hts hV hA hK hB (kn_X0 G hG hw l _ (ky_4_0 hG h0)) wn_X0 (lay_0 hts) tyX0_ok rfl (by decide) (by decide) (tk_59 hts) (tk_61 hts) ⟨Nat.le_of_ble_eq_true rfl, Nat.le_of_ble_eq_true rfl⟩ ⟨Nat.le_of_ble_eq_true rfl, Nat.le_of_ble_eq_true rfl⟩ (lv_size hl) (Nat.le_of_ble_eq_true rfl) dX3_init_5 dX3_init_8 dX3_init_9 (fun H locs hB => ?_)
  replace hB : Bd G a0 2 [(a0, .inr (3, [.null, .int 0, .int 0, .int 0, .null, .int 0, .int 0, .int 0, .null, .null, .int 0]))] s.heap H _ := hB
  refine b_put tyX3 hx hb (lay_3 hts) tyX3_ok nmX3 hown hK hin hB 0 rfl rfl 0 (by decide) rfl rfl rfl rfl (Nat.le_of_ble_eq_true rfl) rfl (tk_118 hts) dX3_init_12 (fun H locs hB => ?_)
  replace hB : Bd G a0 2 [(a0, .inr (3, [.ref (a0 + 1), .int 0, .int 0, .int 0, .null, .int 0, .int 0, .int 0, .null, .null, .int 0]))] s.heap H _ := hB
  refine lv_aload_n hx hb dX3_init_15 rfl (lv_at hl 0 rfl) ?_
  refine b_newN tyX2 hx hb hml hown hts hV hA hK hB (kn_X2 G hG hw l _ (ky_4_4 hG h0)) wn_X2 (lay_2 hts) tyX2_ok rfl (by decide) (by decide) (tk_79 hts) (tk_81 hts) ⟨Nat.le_of_ble_eq_true rfl, Nat.le_of_ble_eq_true rfl⟩ ⟨Nat.le_of_ble_eq_true rfl, Nat.le_of_ble_eq_true rfl⟩ (lv_size hl) (Nat.le_of_ble_eq_true rfl) dX3_init_16 dX3_init_19 dX3_init_20 (fun H locs hB => ?_)
  replace hB : Bd G a0 6 [(a0, .inr (3, [.ref (a0 + 1), .int 0, .int 0, .int 0, .null, .int 0, .int 0, .int 0, .null, .null, .int 0]))] s.heap H _ := hB
  refine b_put tyX3 hx hb (lay_3 hts) tyX3_ok nmX3 hown hK hin hB 0 rfl rfl 4 (by decide) rfl rfl rfl rfl (Nat.le_of_ble_eq_true rfl) rfl (tk_127 hts) dX3_init_23 (fun H locs hB => ?_)
  replace hB : Bd G a0 6 [(a0, .inr (3, [.ref (a0 + 1), .int 0, .int 0, .int 0, .ref (a0 + 2), .int 0, .int 0, .int 0, .null, .null, .int 0]))] s.heap H _ := hB
  refine lv_aload_n hx hb dX3_init_26 rfl (lv_at hl 0 rfl) ?_
  refine b_newN tyX0 hx hb hml hown hts hV hA hK hB (kn_X0 G hG hw l _ (ky_4_8 hG h0)) wn_X0 (lay_0 hts) tyX0_ok rfl (by decide) (by decide) (tk_59 hts) (tk_61 hts) ⟨Nat.le_of_ble_eq_true rfl, Nat.le_of_ble_eq_true rfl⟩ ⟨Nat.le_of_ble_eq_true rfl, Nat.le_of_ble_eq_true rfl⟩ (lv_size hl) (Nat.le_of_ble_eq_true rfl) dX3_init_27 dX3_init_30 dX3_init_31 (fun H locs hB => ?_)
  replace hB : Bd G a0 7 [(a0, .inr (3, [.ref (a0 + 1), .int 0, .int 0, .int 0, .ref (a0 + 2), .int 0, .int 0, .int 0, .null, .null, .int 0]))] s.heap H _ := hB
  refine b_put tyX3 hx hb (lay_3 hts) tyX3_ok nmX3 hown hK hin hB 0 rfl rfl 8 (by decide) rfl rfl rfl rfl (Nat.le_of_ble_eq_true rfl) rfl (tk_137 hts) dX3_init_34 (fun H locs hB => ?_)
  replace hB : Bd G a0 7 [(a0, .inr (3, [.ref (a0 + 1), .int 0, .int 0, .int 0, .ref (a0 + 2), .int 0, .int 0, .int 0, .ref (a0 + 6), .null, .int 0]))] s.heap H _ := hB
  refine lv_aload_n hx hb dX3_init_37 rfl (lv_at hl 0 rfl) ?_
  refine lv_bipush (v := 72) hx hb dX3_init_38 (by decide) ?_
  refine b_arr (ty := .int) rfl rfl hx hb (tk_47 hts) (hK.2 0 _ rfl).2 hB (n := 72) (N := 72) (by decide) (by decide) (by decide) (Nat.le_of_ble_eq_true rfl) (Nat.le_of_ble_eq_true rfl) dX3_init_40 (fun H hB => ?_)
  replace hB : Bd G a0 8 [(a0, .inr (3, [.ref (a0 + 1), .int 0, .int 0, .int 0, .ref (a0 + 2), .int 0, .int 0, .int 0, .ref (a0 + 6), .null, .int 0])), (a0 + 7, .inl (gC G 0, 72, .inl (fun _ => 0)))] s.heap H _ := hB
  refine b_put tyX3 hx hb (lay_3 hts) tyX3_ok nmX3 hown hK hin hB 0 rfl rfl 9 (by decide) rfl rfl rfl rfl (Nat.le_of_ble_eq_true rfl) rfl (tk_138 hts) dX3_init_42 (fun H locs hB => ?_)
  replace hB : Bd G a0 8 [(a0, .inr (3, [.ref (a0 + 1), .int 0, .int 0, .int 0, .ref (a0 + 2), .int 0, .int 0, .int 0, .ref (a0 + 6), .ref (a0 + 7), .int 0])), (a0 + 7, .inl (gC G 0, 72, .inl (fun _ => 0)))] s.heap H _ := hB
  exact b_end hx hb hr hlocks hB (List.forall_mem_cons.mpr ⟨fun _ _ => (fin_eq ((c_4 h0).trans (by rw [m0_i h0 (by decide)]))), List.forall_mem_cons.mpr ⟨fun _ _ => (fin_eq ((cel_ia (n := 72) (ky_4_9 hG h0) (by decide)).trans (by rw [m0_i (ky_4_9 hG h0) (by decide)]))), List.forall_mem_nil _⟩⟩) dX3_init_45
set_option maxHeartbeats 4000000 in
set_option maxRecDepth 100000 in
theorem kn_X7 (G : Gt) (hG : gOK G) (hw : wfM G (M0 G)) (l : Launch) (a0 : Nat) (h0 : gK G a0 = 8) : Kn G l yX7_init cX7_init 2 ({ frames := 4, cells := 43, slots := 323, locals := 72 } : Room) a0 7 [.null, .null, .null, .int 0, .int 0] 44 := by
  refine startN (by decide) rfl (by decide) ?_
  intro p e s m args below meth c ls hx hb hr hown hml hlocks hin hts hV hA hB hl
  have hown : s.vm.findClass "FoldedVoices$Voice" = some m.cls := hown
  have hK := hG.1.moved hV
  have hl : lv_has ls 2 [(0, .ref a0)] := hl
  refine lv_aload_n hx hb dX7_init_0 rfl (lv_at hl 0 rfl) ?_
  refine b_init hx hb hml hown (tk_52 hts) (tk_27 hts) (tk_28 hts) (lv_size hl) (Nat.le_of_ble_eq_true rfl) (Nat.le_of_ble_eq_true rfl) dX7_init_1 ?_
  refine lv_aload_n hx hb dX7_init_4 rfl (lv_at hl 0 rfl) ?_
  refine b_newN tyX3 hx hb hml hown hts hV hA hK hB (kn_X3 G hG hw l _ (ky_8_0 hG h0)) wn_X3 (lay_3 hts) tyX3_ok rfl (by decide) (by decide) (tk_53 hts) (tk_55 hts) ⟨Nat.le_of_ble_eq_true rfl, Nat.le_of_ble_eq_true rfl⟩ ⟨Nat.le_of_ble_eq_true rfl, Nat.le_of_ble_eq_true rfl⟩ (lv_size hl) (Nat.le_of_ble_eq_true rfl) dX7_init_5 dX7_init_8 dX7_init_9 (fun H locs hB => ?_)
  replace hB : Bd G a0 9 [(a0, .inr (7, [.null, .null, .null, .int 0, .int 0]))] s.heap H _ := hB
  refine b_put tyX7 hx hb (lay_7 hts) tyX7_ok nmX7 hown hK hin hB 0 rfl rfl 0 (by decide) rfl rfl rfl rfl (Nat.le_of_ble_eq_true rfl) rfl (tk_212 hts) dX7_init_12 (fun H locs hB => ?_)
  replace hB : Bd G a0 9 [(a0, .inr (7, [.ref (a0 + 1), .null, .null, .int 0, .int 0]))] s.heap H _ := hB
  refine lv_aload_n hx hb dX7_init_15 rfl (lv_at hl 0 rfl) ?_
  refine b_newN tyX1 hx hb hml hown hts hV hA hK hB (kn_X1 G hG hw l _ (ky_8_1 hG h0)) wn_X1 (lay_1 hts) tyX1_ok rfl (by decide) (by decide) (tk_163 hts) (tk_165 hts) ⟨Nat.le_of_ble_eq_true rfl, Nat.le_of_ble_eq_true rfl⟩ ⟨Nat.le_of_ble_eq_true rfl, Nat.le_of_ble_eq_true rfl⟩ (lv_size hl) (Nat.le_of_ble_eq_true rfl) dX7_init_16 dX7_init_19 dX7_init_20 (fun H locs hB => ?_)
  replace hB : Bd G a0 11 [(a0, .inr (7, [.ref (a0 + 1), .null, .null, .int 0, .int 0]))] s.heap H _ := hB
  refine b_put tyX7 hx hb (lay_7 hts) tyX7_ok nmX7 hown hK hin hB 0 rfl rfl 1 (by decide) rfl rfl rfl rfl (Nat.le_of_ble_eq_true rfl) rfl (tk_214 hts) dX7_init_23 (fun H locs hB => ?_)
  replace hB : Bd G a0 11 [(a0, .inr (7, [.ref (a0 + 1), .ref (a0 + 9), .null, .int 0, .int 0]))] s.heap H _ := hB
  refine lv_aload_n hx hb dX7_init_26 rfl (lv_at hl 0 rfl) ?_
  refine lv_bipush (v := 8) hx hb dX7_init_27 (by decide) ?_
  refine b_anew hx hb hown (tk_209 hts) hA.1 (ra_o (hK.2 2 _ rfl).2) hB (n := 8) (N := 8) (by decide) (by decide) (by decide) (Nat.le_of_ble_eq_true rfl) (Nat.le_of_ble_eq_true rfl) dX7_init_29 (fun H hB => ?_)
  replace hB : Bd G a0 12 [(a0, .inr (7, [.ref (a0 + 1), .ref (a0 + 9), .null, .int 0, .int 0])), (a0 + 11, .inl (gC G 2, 8, .inr (.inr (.inr (.inr (fun _ => none))))))] s.heap H _ := hB
  refine b_put tyX7 hx hb (lay_7 hts) tyX7_ok nmX7 hown hK hin hB 0 rfl rfl 2 (by decide) rfl rfl rfl rfl (Nat.le_of_ble_eq_true rfl) rfl (tk_216 hts) dX7_init_32 (fun H locs hB => ?_)
  replace hB : Bd G a0 12 [(a0, .inr (7, [.ref (a0 + 1), .ref (a0 + 9), .ref (a0 + 11), .int 0, .int 0])), (a0 + 11, .inl (gC G 2, 8, .inr (.inr (.inr (.inr (fun _ => none))))))] s.heap H _ := hB
  refine lv_iconst (v := 0) hx hb dX7_init_35 (by decide) ?_
  refine lv_istore_n (lv' := [(1, .int 0), (0, .ref a0)]) hx hb dX7_init_36 rfl hl (by decide) rfl (fun ls hl => ?_)
  refine lv_iload_n hx hb dX7_init_37 rfl (lv_at hl 0 rfl) ?_
  refine lv_aload_n hx hb dX7_init_38 rfl (lv_at hl 1 rfl) ?_
  refine va_get hx hb (lay_7 hts) (fun _ h => h) hown hK hB.1 0 rfl rfl 2 (by decide) (tk_216 hts) (fun _ h => h) rfl dX7_init_39 ?_
  refine va_alen hx hb hK hB.1 1 2 rfl rfl (v := 8) (show Int32.ofNat 8 = 8 from rfl) dX7_init_42 ?_
  refine lv_icmp_ge (tgt := 65) hx hb dX7_init_43 (by decide) (fun g => absurd g (by decide)) (fun _ => ?_)
  refine lv_aload_n hx hb dX7_init_46 rfl (lv_at hl 1 rfl) ?_
  refine va_get hx hb (lay_7 hts) (fun _ h => h) hown hK hB.1 0 rfl rfl 2 (by decide) (tk_216 hts) (fun _ h => h) rfl dX7_init_47 ?_
  refine lv_iload_n hx hb dX7_init_50 rfl (lv_at hl 0 rfl) ?_
  refine b_newN tyX2 hx hb hml hown hts hV hA hK hB (kn_X2 G hG hw l _ (m0_pk hw (ky_8_2 hG h0) 0 (by decide))) wn_X2 (lay_2 hts) tyX2_ok rfl (by decide) (by decide) (tk_209 hts) (tk_211 hts) ⟨Nat.le_of_ble_eq_true rfl, Nat.le_of_ble_eq_true rfl⟩ ⟨Nat.le_of_ble_eq_true rfl, Nat.le_of_ble_eq_true rfl⟩ (lv_size hl) (Nat.le_of_ble_eq_true rfl) dX7_init_51 dX7_init_54 dX7_init_55 (fun H locs hB => ?_)
  replace hB : Bd G a0 16 [(a0, .inr (7, [.ref (a0 + 1), .ref (a0 + 9), .ref (a0 + 11), .int 0, .int 0])), (a0 + 11, .inl (gC G 2, 8, .inr (.inr (.inr (.inr (fun _ => none))))))] s.heap H _ := hB
  refine b_aast (t0 := 2) (r := (RX2, TX2, 6)) hx hb hK hB 1 rfl rfl (c_3 (m0_pk hw (ky_8_2 hG h0) 0 (by decide))) (by omega) (by omega) (x_ne2 (show a0 ≠ a0 + 12 from by omega) (show a0 + 11 ≠ a0 + 12 from by omega)) rfl (i := 0) (by decide) dX7_init_58 (fun H locs hB => ?_)
  replace hB : Bd G a0 16 [(a0, .inr (7, [.ref (a0 + 1), .ref (a0 + 9), .ref (a0 + 11), .int 0, .int 0])), (a0 + 11, .inl (gC G 2, 8, .inr (.inr (.inr (.inr (va_up (fun _ => none) 0 (some (a0 + 12))))))))] s.heap H _ := hB
  refine lv_iinc (v := 1) (lv' := [(1, .int 1), (0, .ref a0)]) hx hb dX7_init_59 hl (k := 0) rfl (by decide) (by decide) rfl (fun ls hl => ?_)
  refine lv_goto (tgt := 37) hx hb dX7_init_62 (by decide) ?_
  refine lv_iload_n hx hb dX7_init_37 rfl (lv_at hl 0 rfl) ?_
  refine lv_aload_n hx hb dX7_init_38 rfl (lv_at hl 1 rfl) ?_
  refine va_get hx hb (lay_7 hts) (fun _ h => h) hown hK hB.1 0 rfl rfl 2 (by decide) (tk_216 hts) (fun _ h => h) rfl dX7_init_39 ?_
  refine va_alen hx hb hK hB.1 1 2 rfl rfl (v := 8) (show Int32.ofNat 8 = 8 from rfl) dX7_init_42 ?_
  refine lv_icmp_ge (tgt := 65) hx hb dX7_init_43 (by decide) (fun g => absurd g (by decide)) (fun _ => ?_)
  refine lv_aload_n hx hb dX7_init_46 rfl (lv_at hl 1 rfl) ?_
  refine va_get hx hb (lay_7 hts) (fun _ h => h) hown hK hB.1 0 rfl rfl 2 (by decide) (tk_216 hts) (fun _ h => h) rfl dX7_init_47 ?_
  refine lv_iload_n hx hb dX7_init_50 rfl (lv_at hl 0 rfl) ?_
  refine b_newN tyX2 hx hb hml hown hts hV hA hK hB (kn_X2 G hG hw l _ (m0_pk hw (ky_8_2 hG h0) 1 (by decide))) wn_X2 (lay_2 hts) tyX2_ok rfl (by decide) (by decide) (tk_209 hts) (tk_211 hts) ⟨Nat.le_of_ble_eq_true rfl, Nat.le_of_ble_eq_true rfl⟩ ⟨Nat.le_of_ble_eq_true rfl, Nat.le_of_ble_eq_true rfl⟩ (lv_size hl) (Nat.le_of_ble_eq_true rfl) dX7_init_51 dX7_init_54 dX7_init_55 (fun H locs hB => ?_)
  replace hB : Bd G a0 20 [(a0, .inr (7, [.ref (a0 + 1), .ref (a0 + 9), .ref (a0 + 11), .int 0, .int 0])), (a0 + 11, .inl (gC G 2, 8, .inr (.inr (.inr (.inr (va_up (fun _ => none) 0 (some (a0 + 12))))))))] s.heap H _ := hB
  refine b_aast (t0 := 2) (r := (RX2, TX2, 6)) hx hb hK hB 1 rfl rfl (c_3 (m0_pk hw (ky_8_2 hG h0) 1 (by decide))) (by omega) (by omega) (x_ne2 (show a0 ≠ a0 + 16 from by omega) (show a0 + 11 ≠ a0 + 16 from by omega)) rfl (i := 1) (by decide) dX7_init_58 (fun H locs hB => ?_)
  replace hB : Bd G a0 20 [(a0, .inr (7, [.ref (a0 + 1), .ref (a0 + 9), .ref (a0 + 11), .int 0, .int 0])), (a0 + 11, .inl (gC G 2, 8, .inr (.inr (.inr (.inr (va_up (va_up (fun _ => none) 0 (some (a0 + 12))) 1 (some (a0 + 16))))))))] s.heap H _ := hB
  refine lv_iinc (v := 2) (lv' := [(1, .int 2), (0, .ref a0)]) hx hb dX7_init_59 hl (k := 0) rfl (by decide) (by decide) rfl (fun ls hl => ?_)
  refine lv_goto (tgt := 37) hx hb dX7_init_62 (by decide) ?_
  refine lv_iload_n hx hb dX7_init_37 rfl (lv_at hl 0 rfl) ?_
  refine lv_aload_n hx hb dX7_init_38 rfl (lv_at hl 1 rfl) ?_
  refine va_get hx hb (lay_7 hts) (fun _ h => h) hown hK hB.1 0 rfl rfl 2 (by decide) (tk_216 hts) (fun _ h => h) rfl dX7_init_39 ?_
  refine va_alen hx hb hK hB.1 1 2 rfl rfl (v := 8) (show Int32.ofNat 8 = 8 from rfl) dX7_init_42 ?_
  refine lv_icmp_ge (tgt := 65) hx hb dX7_init_43 (by decide) (fun g => absurd g (by decide)) (fun _ => ?_)
  refine lv_aload_n hx hb dX7_init_46 rfl (lv_at hl 1 rfl) ?_
  refine va_get hx hb (lay_7 hts) (fun _ h => h) hown hK hB.1 0 rfl rfl 2 (by decide) (tk_216 hts) (fun _ h => h) rfl dX7_init_47 ?_
  refine lv_iload_n hx hb dX7_init_50 rfl (lv_at hl 0 rfl) ?_
  refine b_newN tyX2 hx hb hml hown hts hV hA hK hB (kn_X2 G hG hw l _ (m0_pk hw (ky_8_2 hG h0) 2 (by decide))) wn_X2 (lay_2 hts) tyX2_ok rfl (by decide) (by decide) (tk_209 hts) (tk_211 hts) ⟨Nat.le_of_ble_eq_true rfl, Nat.le_of_ble_eq_true rfl⟩ ⟨Nat.le_of_ble_eq_true rfl, Nat.le_of_ble_eq_true rfl⟩ (lv_size hl) (Nat.le_of_ble_eq_true rfl) dX7_init_51 dX7_init_54 dX7_init_55 (fun H locs hB => ?_)
  replace hB : Bd G a0 24 [(a0, .inr (7, [.ref (a0 + 1), .ref (a0 + 9), .ref (a0 + 11), .int 0, .int 0])), (a0 + 11, .inl (gC G 2, 8, .inr (.inr (.inr (.inr (va_up (va_up (fun _ => none) 0 (some (a0 + 12))) 1 (some (a0 + 16))))))))] s.heap H _ := hB
  refine b_aast (t0 := 2) (r := (RX2, TX2, 6)) hx hb hK hB 1 rfl rfl (c_3 (m0_pk hw (ky_8_2 hG h0) 2 (by decide))) (by omega) (by omega) (x_ne2 (show a0 ≠ a0 + 20 from by omega) (show a0 + 11 ≠ a0 + 20 from by omega)) rfl (i := 2) (by decide) dX7_init_58 (fun H locs hB => ?_)
  replace hB : Bd G a0 24 [(a0, .inr (7, [.ref (a0 + 1), .ref (a0 + 9), .ref (a0 + 11), .int 0, .int 0])), (a0 + 11, .inl (gC G 2, 8, .inr (.inr (.inr (.inr (va_up (va_up (va_up (fun _ => none) 0 (some (a0 + 12))) 1 (some (a0 + 16))) 2 (some (a0 + 20))))))))] s.heap H _ := hB
  refine lv_iinc (v := 3) (lv' := [(1, .int 3), (0, .ref a0)]) hx hb dX7_init_59 hl (k := 0) rfl (by decide) (by decide) rfl (fun ls hl => ?_)
  refine lv_goto (tgt := 37) hx hb dX7_init_62 (by decide) ?_
  refine lv_iload_n hx hb dX7_init_37 rfl (lv_at hl 0 rfl) ?_
  refine lv_aload_n hx hb dX7_init_38 rfl (lv_at hl 1 rfl) ?_
  refine va_get hx hb (lay_7 hts) (fun _ h => h) hown hK hB.1 0 rfl rfl 2 (by decide) (tk_216 hts) (fun _ h => h) rfl dX7_init_39 ?_
  refine va_alen hx hb hK hB.1 1 2 rfl rfl (v := 8) (show Int32.ofNat 8 = 8 from rfl) dX7_init_42 ?_
  refine lv_icmp_ge (tgt := 65) hx hb dX7_init_43 (by decide) (fun g => absurd g (by decide)) (fun _ => ?_)
  refine lv_aload_n hx hb dX7_init_46 rfl (lv_at hl 1 rfl) ?_
  refine va_get hx hb (lay_7 hts) (fun _ h => h) hown hK hB.1 0 rfl rfl 2 (by decide) (tk_216 hts) (fun _ h => h) rfl dX7_init_47 ?_
  refine lv_iload_n hx hb dX7_init_50 rfl (lv_at hl 0 rfl) ?_
  refine b_newN tyX2 hx hb hml hown hts hV hA hK hB (kn_X2 G hG hw l _ (m0_pk hw (ky_8_2 hG h0) 3 (by decide))) wn_X2 (lay_2 hts) tyX2_ok rfl (by decide) (by decide) (tk_209 hts) (tk_211 hts) ⟨Nat.le_of_ble_eq_true rfl, Nat.le_of_ble_eq_true rfl⟩ ⟨Nat.le_of_ble_eq_true rfl, Nat.le_of_ble_eq_true rfl⟩ (lv_size hl) (Nat.le_of_ble_eq_true rfl) dX7_init_51 dX7_init_54 dX7_init_55 (fun H locs hB => ?_)
  replace hB : Bd G a0 28 [(a0, .inr (7, [.ref (a0 + 1), .ref (a0 + 9), .ref (a0 + 11), .int 0, .int 0])), (a0 + 11, .inl (gC G 2, 8, .inr (.inr (.inr (.inr (va_up (va_up (va_up (fun _ => none) 0 (some (a0 + 12))) 1 (some (a0 + 16))) 2 (some (a0 + 20))))))))] s.heap H _ := hB
  refine b_aast (t0 := 2) (r := (RX2, TX2, 6)) hx hb hK hB 1 rfl rfl (c_3 (m0_pk hw (ky_8_2 hG h0) 3 (by decide))) (by omega) (by omega) (x_ne2 (show a0 ≠ a0 + 24 from by omega) (show a0 + 11 ≠ a0 + 24 from by omega)) rfl (i := 3) (by decide) dX7_init_58 (fun H locs hB => ?_)
  replace hB : Bd G a0 28 [(a0, .inr (7, [.ref (a0 + 1), .ref (a0 + 9), .ref (a0 + 11), .int 0, .int 0])), (a0 + 11, .inl (gC G 2, 8, .inr (.inr (.inr (.inr (va_up (va_up (va_up (va_up (fun _ => none) 0 (some (a0 + 12))) 1 (some (a0 + 16))) 2 (some (a0 + 20))) 3 (some (a0 + 24))))))))] s.heap H _ := hB
  refine lv_iinc (v := 4) (lv' := [(1, .int 4), (0, .ref a0)]) hx hb dX7_init_59 hl (k := 0) rfl (by decide) (by decide) rfl (fun ls hl => ?_)
  refine lv_goto (tgt := 37) hx hb dX7_init_62 (by decide) ?_
  refine lv_iload_n hx hb dX7_init_37 rfl (lv_at hl 0 rfl) ?_
  refine lv_aload_n hx hb dX7_init_38 rfl (lv_at hl 1 rfl) ?_
  refine va_get hx hb (lay_7 hts) (fun _ h => h) hown hK hB.1 0 rfl rfl 2 (by decide) (tk_216 hts) (fun _ h => h) rfl dX7_init_39 ?_
  refine va_alen hx hb hK hB.1 1 2 rfl rfl (v := 8) (show Int32.ofNat 8 = 8 from rfl) dX7_init_42 ?_
  refine lv_icmp_ge (tgt := 65) hx hb dX7_init_43 (by decide) (fun g => absurd g (by decide)) (fun _ => ?_)
  refine lv_aload_n hx hb dX7_init_46 rfl (lv_at hl 1 rfl) ?_
  refine va_get hx hb (lay_7 hts) (fun _ h => h) hown hK hB.1 0 rfl rfl 2 (by decide) (tk_216 hts) (fun _ h => h) rfl dX7_init_47 ?_
  refine lv_iload_n hx hb dX7_init_50 rfl (lv_at hl 0 rfl) ?_
  refine b_newN tyX2 hx hb hml hown hts hV hA hK hB (kn_X2 G hG hw l _ (m0_pk hw (ky_8_2 hG h0) 4 (by decide))) wn_X2 (lay_2 hts) tyX2_ok rfl (by decide) (by decide) (tk_209 hts) (tk_211 hts) ⟨Nat.le_of_ble_eq_true rfl, Nat.le_of_ble_eq_true rfl⟩ ⟨Nat.le_of_ble_eq_true rfl, Nat.le_of_ble_eq_true rfl⟩ (lv_size hl) (Nat.le_of_ble_eq_true rfl) dX7_init_51 dX7_init_54 dX7_init_55 (fun H locs hB => ?_)
  replace hB : Bd G a0 32 [(a0, .inr (7, [.ref (a0 + 1), .ref (a0 + 9), .ref (a0 + 11), .int 0, .int 0])), (a0 + 11, .inl (gC G 2, 8, .inr (.inr (.inr (.inr (va_up (va_up (va_up (va_up (fun _ => none) 0 (some (a0 + 12))) 1 (some (a0 + 16))) 2 (some (a0 + 20))) 3 (some (a0 + 24))))))))] s.heap H _ := hB
  refine b_aast (t0 := 2) (r := (RX2, TX2, 6)) hx hb hK hB 1 rfl rfl (c_3 (m0_pk hw (ky_8_2 hG h0) 4 (by decide))) (by omega) (by omega) (x_ne2 (show a0 ≠ a0 + 28 from by omega) (show a0 + 11 ≠ a0 + 28 from by omega)) rfl (i := 4) (by decide) dX7_init_58 (fun H locs hB => ?_)
  replace hB : Bd G a0 32 [(a0, .inr (7, [.ref (a0 + 1), .ref (a0 + 9), .ref (a0 + 11), .int 0, .int 0])), (a0 + 11, .inl (gC G 2, 8, .inr (.inr (.inr (.inr (va_up (va_up (va_up (va_up (va_up (fun _ => none) 0 (some (a0 + 12))) 1 (some (a0 + 16))) 2 (some (a0 + 20))) 3 (some (a0 + 24))) 4 (some (a0 + 28))))))))] s.heap H _ := hB
  refine lv_iinc (v := 5) (lv' := [(1, .int 5), (0, .ref a0)]) hx hb dX7_init_59 hl (k := 0) rfl (by decide) (by decide) rfl (fun ls hl => ?_)
  refine lv_goto (tgt := 37) hx hb dX7_init_62 (by decide) ?_
  refine lv_iload_n hx hb dX7_init_37 rfl (lv_at hl 0 rfl) ?_
  refine lv_aload_n hx hb dX7_init_38 rfl (lv_at hl 1 rfl) ?_
  refine va_get hx hb (lay_7 hts) (fun _ h => h) hown hK hB.1 0 rfl rfl 2 (by decide) (tk_216 hts) (fun _ h => h) rfl dX7_init_39 ?_
  refine va_alen hx hb hK hB.1 1 2 rfl rfl (v := 8) (show Int32.ofNat 8 = 8 from rfl) dX7_init_42 ?_
  refine lv_icmp_ge (tgt := 65) hx hb dX7_init_43 (by decide) (fun g => absurd g (by decide)) (fun _ => ?_)
  refine lv_aload_n hx hb dX7_init_46 rfl (lv_at hl 1 rfl) ?_
  refine va_get hx hb (lay_7 hts) (fun _ h => h) hown hK hB.1 0 rfl rfl 2 (by decide) (tk_216 hts) (fun _ h => h) rfl dX7_init_47 ?_
  refine lv_iload_n hx hb dX7_init_50 rfl (lv_at hl 0 rfl) ?_
  refine b_newN tyX2 hx hb hml hown hts hV hA hK hB (kn_X2 G hG hw l _ (m0_pk hw (ky_8_2 hG h0) 5 (by decide))) wn_X2 (lay_2 hts) tyX2_ok rfl (by decide) (by decide) (tk_209 hts) (tk_211 hts) ⟨Nat.le_of_ble_eq_true rfl, Nat.le_of_ble_eq_true rfl⟩ ⟨Nat.le_of_ble_eq_true rfl, Nat.le_of_ble_eq_true rfl⟩ (lv_size hl) (Nat.le_of_ble_eq_true rfl) dX7_init_51 dX7_init_54 dX7_init_55 (fun H locs hB => ?_)
  replace hB : Bd G a0 36 [(a0, .inr (7, [.ref (a0 + 1), .ref (a0 + 9), .ref (a0 + 11), .int 0, .int 0])), (a0 + 11, .inl (gC G 2, 8, .inr (.inr (.inr (.inr (va_up (va_up (va_up (va_up (va_up (fun _ => none) 0 (some (a0 + 12))) 1 (some (a0 + 16))) 2 (some (a0 + 20))) 3 (some (a0 + 24))) 4 (some (a0 + 28))))))))] s.heap H _ := hB
  refine b_aast (t0 := 2) (r := (RX2, TX2, 6)) hx hb hK hB 1 rfl rfl (c_3 (m0_pk hw (ky_8_2 hG h0) 5 (by decide))) (by omega) (by omega) (x_ne2 (show a0 ≠ a0 + 32 from by omega) (show a0 + 11 ≠ a0 + 32 from by omega)) rfl (i := 5) (by decide) dX7_init_58 (fun H locs hB => ?_)
  replace hB : Bd G a0 36 [(a0, .inr (7, [.ref (a0 + 1), .ref (a0 + 9), .ref (a0 + 11), .int 0, .int 0])), (a0 + 11, .inl (gC G 2, 8, .inr (.inr (.inr (.inr (va_up (va_up (va_up (va_up (va_up (va_up (fun _ => none) 0 (some (a0 + 12))) 1 (some (a0 + 16))) 2 (some (a0 + 20))) 3 (some (a0 + 24))) 4 (some (a0 + 28))) 5 (some (a0 + 32))))))))] s.heap H _ := hB
  refine lv_iinc (v := 6) (lv' := [(1, .int 6), (0, .ref a0)]) hx hb dX7_init_59 hl (k := 0) rfl (by decide) (by decide) rfl (fun ls hl => ?_)
  refine lv_goto (tgt := 37) hx hb dX7_init_62 (by decide) ?_
  refine lv_iload_n hx hb dX7_init_37 rfl (lv_at hl 0 rfl) ?_
  refine lv_aload_n hx hb dX7_init_38 rfl (lv_at hl 1 rfl) ?_
  refine va_get hx hb (lay_7 hts) (fun _ h => h) hown hK hB.1 0 rfl rfl 2 (by decide) (tk_216 hts) (fun _ h => h) rfl dX7_init_39 ?_
  refine va_alen hx hb hK hB.1 1 2 rfl rfl (v := 8) (show Int32.ofNat 8 = 8 from rfl) dX7_init_42 ?_
  refine lv_icmp_ge (tgt := 65) hx hb dX7_init_43 (by decide) (fun g => absurd g (by decide)) (fun _ => ?_)
  refine lv_aload_n hx hb dX7_init_46 rfl (lv_at hl 1 rfl) ?_
  refine va_get hx hb (lay_7 hts) (fun _ h => h) hown hK hB.1 0 rfl rfl 2 (by decide) (tk_216 hts) (fun _ h => h) rfl dX7_init_47 ?_
  refine lv_iload_n hx hb dX7_init_50 rfl (lv_at hl 0 rfl) ?_
  refine b_newN tyX2 hx hb hml hown hts hV hA hK hB (kn_X2 G hG hw l _ (m0_pk hw (ky_8_2 hG h0) 6 (by decide))) wn_X2 (lay_2 hts) tyX2_ok rfl (by decide) (by decide) (tk_209 hts) (tk_211 hts) ⟨Nat.le_of_ble_eq_true rfl, Nat.le_of_ble_eq_true rfl⟩ ⟨Nat.le_of_ble_eq_true rfl, Nat.le_of_ble_eq_true rfl⟩ (lv_size hl) (Nat.le_of_ble_eq_true rfl) dX7_init_51 dX7_init_54 dX7_init_55 (fun H locs hB => ?_)
  replace hB : Bd G a0 40 [(a0, .inr (7, [.ref (a0 + 1), .ref (a0 + 9), .ref (a0 + 11), .int 0, .int 0])), (a0 + 11, .inl (gC G 2, 8, .inr (.inr (.inr (.inr (va_up (va_up (va_up (va_up (va_up (va_up (fun _ => none) 0 (some (a0 + 12))) 1 (some (a0 + 16))) 2 (some (a0 + 20))) 3 (some (a0 + 24))) 4 (some (a0 + 28))) 5 (some (a0 + 32))))))))] s.heap H _ := hB
  refine b_aast (t0 := 2) (r := (RX2, TX2, 6)) hx hb hK hB 1 rfl rfl (c_3 (m0_pk hw (ky_8_2 hG h0) 6 (by decide))) (by omega) (by omega) (x_ne2 (show a0 ≠ a0 + 36 from by omega) (show a0 + 11 ≠ a0 + 36 from by omega)) rfl (i := 6) (by decide) dX7_init_58 (fun H locs hB => ?_)
  replace hB : Bd G a0 40 [(a0, .inr (7, [.ref (a0 + 1), .ref (a0 + 9), .ref (a0 + 11), .int 0, .int 0])), (a0 + 11, .inl (gC G 2, 8, .inr (.inr (.inr (.inr (va_up (va_up (va_up (va_up (va_up (va_up (va_up (fun _ => none) 0 (some (a0 + 12))) 1 (some (a0 + 16))) 2 (some (a0 + 20))) 3 (some (a0 + 24))) 4 (some (a0 + 28))) 5 (some (a0 + 32))) 6 (some (a0 + 36))))))))] s.heap H _ := hB
  refine lv_iinc (v := 7) (lv' := [(1, .int 7), (0, .ref a0)]) hx hb dX7_init_59 hl (k := 0) rfl (by decide) (by decide) rfl (fun ls hl => ?_)
  refine lv_goto (tgt := 37) hx hb dX7_init_62 (by decide) ?_
  refine lv_iload_n hx hb dX7_init_37 rfl (lv_at hl 0 rfl) ?_
  refine lv_aload_n hx hb dX7_init_38 rfl (lv_at hl 1 rfl) ?_
  refine va_get hx hb (lay_7 hts) (fun _ h => h) hown hK hB.1 0 rfl rfl 2 (by decide) (tk_216 hts) (fun _ h => h) rfl dX7_init_39 ?_
  refine va_alen hx hb hK hB.1 1 2 rfl rfl (v := 8) (show Int32.ofNat 8 = 8 from rfl) dX7_init_42 ?_
  refine lv_icmp_ge (tgt := 65) hx hb dX7_init_43 (by decide) (fun g => absurd g (by decide)) (fun _ => ?_)
  refine lv_aload_n hx hb dX7_init_46 rfl (lv_at hl 1 rfl) ?_
  refine va_get hx hb (lay_7 hts) (fun _ h => h) hown hK hB.1 0 rfl rfl 2 (by decide) (tk_216 hts) (fun _ h => h) rfl dX7_init_47 ?_
  refine lv_iload_n hx hb dX7_init_50 rfl (lv_at hl 0 rfl) ?_
  refine b_newN tyX2 hx hb hml hown hts hV hA hK hB (kn_X2 G hG hw l _ (m0_pk hw (ky_8_2 hG h0) 7 (by decide))) wn_X2 (lay_2 hts) tyX2_ok rfl (by decide) (by decide) (tk_209 hts) (tk_211 hts) ⟨Nat.le_of_ble_eq_true rfl, Nat.le_of_ble_eq_true rfl⟩ ⟨Nat.le_of_ble_eq_true rfl, Nat.le_of_ble_eq_true rfl⟩ (lv_size hl) (Nat.le_of_ble_eq_true rfl) dX7_init_51 dX7_init_54 dX7_init_55 (fun H locs hB => ?_)
  replace hB : Bd G a0 44 [(a0, .inr (7, [.ref (a0 + 1), .ref (a0 + 9), .ref (a0 + 11), .int 0, .int 0])), (a0 + 11, .inl (gC G 2, 8, .inr (.inr (.inr (.inr (va_up (va_up (va_up (va_up (va_up (va_up (va_up (fun _ => none) 0 (some (a0 + 12))) 1 (some (a0 + 16))) 2 (some (a0 + 20))) 3 (some (a0 + 24))) 4 (some (a0 + 28))) 5 (some (a0 + 32))) 6 (some (a0 + 36))))))))] s.heap H _ := hB
  refine b_aast (t0 := 2) (r := (RX2, TX2, 6)) hx hb hK hB 1 rfl rfl (c_3 (m0_pk hw (ky_8_2 hG h0) 7 (by decide))) (by omega) (by omega) (x_ne2 (show a0 ≠ a0 + 40 from by omega) (show a0 + 11 ≠ a0 + 40 from by omega)) rfl (i := 7) (by decide) dX7_init_58 (fun H locs hB => ?_)
  replace hB : Bd G a0 44 [(a0, .inr (7, [.ref (a0 + 1), .ref (a0 + 9), .ref (a0 + 11), .int 0, .int 0])), (a0 + 11, .inl (gC G 2, 8, .inr (.inr (.inr (.inr (va_up (va_up (va_up (va_up (va_up (va_up (va_up (va_up (fun _ => none) 0 (some (a0 + 12))) 1 (some (a0 + 16))) 2 (some (a0 + 20))) 3 (some (a0 + 24))) 4 (some (a0 + 28))) 5 (some (a0 + 32))) 6 (some (a0 + 36))) 7 (some (a0 + 40))))))))] s.heap H _ := hB
  refine lv_iinc (v := 8) (lv' := [(1, .int 8), (0, .ref a0)]) hx hb dX7_init_59 hl (k := 0) rfl (by decide) (by decide) rfl (fun ls hl => ?_)
  refine lv_goto (tgt := 37) hx hb dX7_init_62 (by decide) ?_
  refine lv_iload_n hx hb dX7_init_37 rfl (lv_at hl 0 rfl) ?_
  refine lv_aload_n hx hb dX7_init_38 rfl (lv_at hl 1 rfl) ?_
  refine va_get hx hb (lay_7 hts) (fun _ h => h) hown hK hB.1 0 rfl rfl 2 (by decide) (tk_216 hts) (fun _ h => h) rfl dX7_init_39 ?_
  refine va_alen hx hb hK hB.1 1 2 rfl rfl (v := 8) (show Int32.ofNat 8 = 8 from rfl) dX7_init_42 ?_
  refine lv_icmp_ge (tgt := 65) hx hb dX7_init_43 (by decide) (fun _ => ?_) (fun g => absurd (by decide) g)
  exact b_end hx hb hr hlocks hB (List.forall_mem_cons.mpr ⟨fun _ _ => (fin_eq ((c_8 h0).trans (by rw [m0_i h0 (by decide)]))), List.forall_mem_cons.mpr ⟨fun _ _ => (fin_arr (cel_pa (ky_8_2 hG h0)) (fun j hj => by match j, hj with | 0, _ => rw [m0_p (ky_8_2 hG h0) _]; rfl | 1, _ => rw [m0_p (ky_8_2 hG h0) _]; rfl | 2, _ => rw [m0_p (ky_8_2 hG h0) _]; rfl | 3, _ => rw [m0_p (ky_8_2 hG h0) _]; rfl | 4, _ => rw [m0_p (ky_8_2 hG h0) _]; rfl | 5, _ => rw [m0_p (ky_8_2 hG h0) _]; rfl | 6, _ => rw [m0_p (ky_8_2 hG h0) _]; rfl | 7, _ => rw [m0_p (ky_8_2 hG h0) _]; rfl | j + 8, hj => omega)), List.forall_mem_nil _⟩⟩) dX7_init_65
set_option maxHeartbeats 4000000 in
set_option maxRecDepth 100000 in
theorem kn_X5 (G : Gt) (hG : gOK G) (hw : wfM G (M0 G)) (l : Launch) (a0 : Nat) (h0 : gK G a0 = 6) : Kn G l yX5_init cX5_init 2 ({ frames := 5, cells := 135, slots := 992, locals := 93 } : Room) a0 5 [.null, .null] 136 := by
  refine startN (by decide) rfl (by decide) ?_
  intro p e s m args below meth c ls hx hb hr hown hml hlocks hin hts hV hA hB hl
  have hown : s.vm.findClass "FoldedVoices$State" = some m.cls := hown
  have hK := hG.1.moved hV
  have hl : lv_has ls 2 [(0, .ref a0)] := hl
  refine lv_aload_n hx hb dX5_init_0 rfl (lv_at hl 0 rfl) ?_
  refine b_init hx hb hml hown (tk_34 hts) (tk_27 hts) (tk_28 hts) (lv_size hl) (Nat.le_of_ble_eq_true rfl) (Nat.le_of_ble_eq_true rfl) dX5_init_1 ?_
  refine lv_aload_n hx hb dX5_init_4 rfl (lv_at hl 0 rfl) ?_
  refine lv_iconst (v := 3) hx hb dX5_init_5 (by decide) ?_
  refine b_anew hx hb hown (tk_35 hts) hA.2.1 (ra_o (hK.2 3 _ rfl).2) hB (n := 3) (N := 3) (by decide) (by decide) (by decide) (Nat.le_of_ble_eq_true rfl) (Nat.le_of_ble_eq_true rfl) dX5_init_6 (fun H hB => ?_)
  replace hB : Bd G a0 2 [(a0, .inr (5, [.null, .null])), (a0 + 1, .inl (gC G 3, 3, .inr (.inr (.inr (.inr (fun _ => none))))))] s.heap H _ := hB
  refine b_put tyX5 hx hb (lay_5 hts) tyX5_ok nmX5 hown hK hin hB 0 rfl rfl 0 (by decide) rfl rfl rfl rfl (Nat.le_of_ble_eq_true rfl) rfl (tk_233 hts) dX5_init_9 (fun H locs hB => ?_)
  replace hB : Bd G a0 2 [(a0, .inr (5, [.ref (a0 + 1), .null])), (a0 + 1, .inl (gC G 3, 3, .inr (.inr (.inr (.inr (fun _ => none))))))] s.heap H _ := hB
  refine lv_aload_n hx hb dX5_init_12 rfl (lv_at hl 0 rfl) ?_
  refine b_newN tyX4 hx hb hml hown hts hV hA hK hB (kn_X4 G hG hw l _ (ky_6_1 hG h0)) wn_X4 (lay_4 hts) tyX4_ok rfl (by decide) (by decide) (tk_37 hts) (tk_39 hts) ⟨Nat.le_of_ble_eq_true rfl, Nat.le_of_ble_eq_true rfl⟩ ⟨Nat.le_of_ble_eq_true rfl, Nat.le_of_ble_eq_true rfl⟩ (lv_size hl) (Nat.le_of_ble_eq_true rfl) dX5_init_13 dX5_init_16 dX5_init_17 (fun H locs hB => ?_)
  replace hB : Bd G a0 4 [(a0, .inr (5, [.ref (a0 + 1), .null])), (a0 + 1, .inl (gC G 3, 3, .inr (.inr (.inr (.inr (fun _ => none))))))] s.heap H _ := hB
  refine b_put tyX5 hx hb (lay_5 hts) tyX5_ok nmX5 hown hK hin hB 0 rfl rfl 1 (by decide) rfl rfl rfl rfl (Nat.le_of_ble_eq_true rfl) rfl (tk_235 hts) dX5_init_20 (fun H locs hB => ?_)
  replace hB : Bd G a0 4 [(a0, .inr (5, [.ref (a0 + 1), .ref (a0 + 2)])), (a0 + 1, .inl (gC G 3, 3, .inr (.inr (.inr (.inr (fun _ => none))))))] s.heap H _ := hB
  refine lv_iconst (v := 0) hx hb dX5_init_23 (by decide) ?_
  refine lv_istore_n (lv' := [(1, .int 0), (0, .ref a0)]) hx hb dX5_init_24 rfl hl (by decide) rfl (fun ls hl => ?_)
  refine lv_iload_n hx hb dX5_init_25 rfl (lv_at hl 0 rfl) ?_
  refine lv_aload_n hx hb dX5_init_26 rfl (lv_at hl 1 rfl) ?_
  refine va_get hx hb (lay_5 hts) (fun _ h => h) hown hK hB.1 0 rfl rfl 0 (by decide) (tk_233 hts) (fun _ h => h) rfl dX5_init_27 ?_
  refine va_alen hx hb hK hB.1 1 3 rfl rfl (v := 3) (show Int32.ofNat 3 = 3 from rfl) dX5_init_30 ?_
  refine lv_icmp_ge (tgt := 53) hx hb dX5_init_31 (by decide) (fun g => absurd g (by decide)) (fun _ => ?_)
  refine lv_aload_n hx hb dX5_init_34 rfl (lv_at hl 1 rfl) ?_
  refine va_get hx hb (lay_5 hts) (fun _ h => h) hown hK hB.1 0 rfl rfl 0 (by decide) (tk_233 hts) (fun _ h => h) rfl dX5_init_35 ?_
  refine lv_iload_n hx hb dX5_init_38 rfl (lv_at hl 0 rfl) ?_
  refine b_new tyX7 hx hb hml hown hts hV hA hK hB (kn_X7 G hG hw l _ (ky_vs hG (ky_6_0 hG h0) 0 (by decide))) wn_X7 (lay_7 hts) tyX7_ok rfl (by decide) (by decide) (tk_35 hts) (tk_49 hts) ⟨Nat.le_of_ble_eq_true rfl, Nat.le_of_ble_eq_true rfl⟩ ⟨Nat.le_of_ble_eq_true rfl, Nat.le_of_ble_eq_true rfl⟩ (lv_size hl) (Nat.le_of_ble_eq_true rfl) dX5_init_39 dX5_init_42 dX5_init_43 (fun H locs hB => ?_)
  replace hB : Bd G a0 48 [(a0, .inr (5, [.ref (a0 + 1), .ref (a0 + 2)])), (a0 + 1, .inl (gC G 3, 3, .inr (.inr (.inr (.inr (fun _ => none))))))] s.heap H _ := hB
  refine b_aast (t0 := 3) (r := (RX7, TX7, 5)) hx hb hK hB 1 rfl rfl (c_8 (ky_vs hG (ky_6_0 hG h0) 0 (by decide))) (by omega) (by omega) (x_ne2 (show a0 ≠ a0 + 4 from by omega) (show a0 + 1 ≠ a0 + 4 from by omega)) rfl (i := 0) (by decide) dX5_init_46 (fun H locs hB => ?_)
  replace hB : Bd G a0 48 [(a0, .inr (5, [.ref (a0 + 1), .ref (a0 + 2)])), (a0 + 1, .inl (gC G 3, 3, .inr (.inr (.inr (.inr (va_up (fun _ => none) 0 (some (a0 + 4))))))))] s.heap H _ := hB
  refine lv_iinc (v := 1) (lv' := [(1, .int 1), (0, .ref a0)]) hx hb dX5_init_47 hl (k := 0) rfl (by decide) (by decide) rfl (fun ls hl => ?_)
  refine lv_goto (tgt := 25) hx hb dX5_init_50 (by decide) ?_
  refine lv_iload_n hx hb dX5_init_25 rfl (lv_at hl 0 rfl) ?_
  refine lv_aload_n hx hb dX5_init_26 rfl (lv_at hl 1 rfl) ?_
  refine va_get hx hb (lay_5 hts) (fun _ h => h) hown hK hB.1 0 rfl rfl 0 (by decide) (tk_233 hts) (fun _ h => h) rfl dX5_init_27 ?_
  refine va_alen hx hb hK hB.1 1 3 rfl rfl (v := 3) (show Int32.ofNat 3 = 3 from rfl) dX5_init_30 ?_
  refine lv_icmp_ge (tgt := 53) hx hb dX5_init_31 (by decide) (fun g => absurd g (by decide)) (fun _ => ?_)
  refine lv_aload_n hx hb dX5_init_34 rfl (lv_at hl 1 rfl) ?_
  refine va_get hx hb (lay_5 hts) (fun _ h => h) hown hK hB.1 0 rfl rfl 0 (by decide) (tk_233 hts) (fun _ h => h) rfl dX5_init_35 ?_
  refine lv_iload_n hx hb dX5_init_38 rfl (lv_at hl 0 rfl) ?_
  refine b_new tyX7 hx hb hml hown hts hV hA hK hB (kn_X7 G hG hw l _ (ky_vs hG (ky_6_0 hG h0) 1 (by decide))) wn_X7 (lay_7 hts) tyX7_ok rfl (by decide) (by decide) (tk_35 hts) (tk_49 hts) ⟨Nat.le_of_ble_eq_true rfl, Nat.le_of_ble_eq_true rfl⟩ ⟨Nat.le_of_ble_eq_true rfl, Nat.le_of_ble_eq_true rfl⟩ (lv_size hl) (Nat.le_of_ble_eq_true rfl) dX5_init_39 dX5_init_42 dX5_init_43 (fun H locs hB => ?_)
  replace hB : Bd G a0 92 [(a0, .inr (5, [.ref (a0 + 1), .ref (a0 + 2)])), (a0 + 1, .inl (gC G 3, 3, .inr (.inr (.inr (.inr (va_up (fun _ => none) 0 (some (a0 + 4))))))))] s.heap H _ := hB
  refine b_aast (t0 := 3) (r := (RX7, TX7, 5)) hx hb hK hB 1 rfl rfl (c_8 (ky_vs hG (ky_6_0 hG h0) 1 (by decide))) (by omega) (by omega) (x_ne2 (show a0 ≠ a0 + 48 from by omega) (show a0 + 1 ≠ a0 + 48 from by omega)) rfl (i := 1) (by decide) dX5_init_46 (fun H locs hB => ?_)
  replace hB : Bd G a0 92 [(a0, .inr (5, [.ref (a0 + 1), .ref (a0 + 2)])), (a0 + 1, .inl (gC G 3, 3, .inr (.inr (.inr (.inr (va_up (va_up (fun _ => none) 0 (some (a0 + 4))) 1 (some (a0 + 48))))))))] s.heap H _ := hB
  refine lv_iinc (v := 2) (lv' := [(1, .int 2), (0, .ref a0)]) hx hb dX5_init_47 hl (k := 0) rfl (by decide) (by decide) rfl (fun ls hl => ?_)
  refine lv_goto (tgt := 25) hx hb dX5_init_50 (by decide) ?_
  refine lv_iload_n hx hb dX5_init_25 rfl (lv_at hl 0 rfl) ?_
  refine lv_aload_n hx hb dX5_init_26 rfl (lv_at hl 1 rfl) ?_
  refine va_get hx hb (lay_5 hts) (fun _ h => h) hown hK hB.1 0 rfl rfl 0 (by decide) (tk_233 hts) (fun _ h => h) rfl dX5_init_27 ?_
  refine va_alen hx hb hK hB.1 1 3 rfl rfl (v := 3) (show Int32.ofNat 3 = 3 from rfl) dX5_init_30 ?_
  refine lv_icmp_ge (tgt := 53) hx hb dX5_init_31 (by decide) (fun g => absurd g (by decide)) (fun _ => ?_)
  refine lv_aload_n hx hb dX5_init_34 rfl (lv_at hl 1 rfl) ?_
  refine va_get hx hb (lay_5 hts) (fun _ h => h) hown hK hB.1 0 rfl rfl 0 (by decide) (tk_233 hts) (fun _ h => h) rfl dX5_init_35 ?_
  refine lv_iload_n hx hb dX5_init_38 rfl (lv_at hl 0 rfl) ?_
  refine b_new tyX7 hx hb hml hown hts hV hA hK hB (kn_X7 G hG hw l _ (ky_vs hG (ky_6_0 hG h0) 2 (by decide))) wn_X7 (lay_7 hts) tyX7_ok rfl (by decide) (by decide) (tk_35 hts) (tk_49 hts) ⟨Nat.le_of_ble_eq_true rfl, Nat.le_of_ble_eq_true rfl⟩ ⟨Nat.le_of_ble_eq_true rfl, Nat.le_of_ble_eq_true rfl⟩ (lv_size hl) (Nat.le_of_ble_eq_true rfl) dX5_init_39 dX5_init_42 dX5_init_43 (fun H locs hB => ?_)
  replace hB : Bd G a0 136 [(a0, .inr (5, [.ref (a0 + 1), .ref (a0 + 2)])), (a0 + 1, .inl (gC G 3, 3, .inr (.inr (.inr (.inr (va_up (va_up (fun _ => none) 0 (some (a0 + 4))) 1 (some (a0 + 48))))))))] s.heap H _ := hB
  refine b_aast (t0 := 3) (r := (RX7, TX7, 5)) hx hb hK hB 1 rfl rfl (c_8 (ky_vs hG (ky_6_0 hG h0) 2 (by decide))) (by omega) (by omega) (x_ne2 (show a0 ≠ a0 + 92 from by omega) (show a0 + 1 ≠ a0 + 92 from by omega)) rfl (i := 2) (by decide) dX5_init_46 (fun H locs hB => ?_)
  replace hB : Bd G a0 136 [(a0, .inr (5, [.ref (a0 + 1), .ref (a0 + 2)])), (a0 + 1, .inl (gC G 3, 3, .inr (.inr (.inr (.inr (va_up (va_up (va_up (fun _ => none) 0 (some (a0 + 4))) 1 (some (a0 + 48))) 2 (some (a0 + 92))))))))] s.heap H _ := hB
  refine lv_iinc (v := 3) (lv' := [(1, .int 3), (0, .ref a0)]) hx hb dX5_init_47 hl (k := 0) rfl (by decide) (by decide) rfl (fun ls hl => ?_)
  refine lv_goto (tgt := 25) hx hb dX5_init_50 (by decide) ?_
  refine lv_iload_n hx hb dX5_init_25 rfl (lv_at hl 0 rfl) ?_
  refine lv_aload_n hx hb dX5_init_26 rfl (lv_at hl 1 rfl) ?_
  refine va_get hx hb (lay_5 hts) (fun _ h => h) hown hK hB.1 0 rfl rfl 0 (by decide) (tk_233 hts) (fun _ h => h) rfl dX5_init_27 ?_
  refine va_alen hx hb hK hB.1 1 3 rfl rfl (v := 3) (show Int32.ofNat 3 = 3 from rfl) dX5_init_30 ?_
  refine lv_icmp_ge (tgt := 53) hx hb dX5_init_31 (by decide) (fun _ => ?_) (fun g => absurd (by decide) g)
  exact b_end hx hb hr hlocks hB (List.forall_mem_cons.mpr ⟨fun _ _ => (fin_eq ((c_6 h0).trans rfl)), List.forall_mem_cons.mpr ⟨fun _ _ => (fin_arr (cel_va (ky_6_0 hG h0)) (fun j hj => by match j, hj with | 0, _ => rfl | 1, _ => rfl | 2, _ => rfl | j + 3, hj => omega)), List.forall_mem_nil _⟩⟩) dX5_init_53
set_option maxHeartbeats 4000000 in
set_option maxRecDepth 100000 in
theorem kn_X8 (G : Gt) (hG : gOK G) (hw : wfM G (M0 G)) (l : Launch) (a0 : Nat) (h0 : gK G a0 = 9) : Kn G l yX8_init cX8_init 2 ({ frames := 6, cells := 1094, slots := 8039, locals := 114 } : Room) a0 8 [.null, .null, .int 0, .null, .int 0, .null, .null, .null] 1095 := by
  refine startN (by decide) rfl (by decide) ?_
  intro p e s m args below meth c ls hx hb hr hown hml hlocks hin hts hV hA hB hl
  have hown : s.vm.findClass "FoldedVoices" = some m.cls := hown
  have hK := hG.1.moved hV
  have hl : lv_has ls 2 [(0, .ref a0)] := hl
  refine lv_aload_n hx hb dX8_init_0 rfl (lv_at hl 0 rfl) ?_
  refine b_init hx hb hml hown (tk_26 hts) (tk_27 hts) (tk_28 hts) (lv_size hl) (Nat.le_of_ble_eq_true rfl) (Nat.le_of_ble_eq_true rfl) dX8_init_1 ?_
  refine lv_aload_n hx hb dX8_init_4 rfl (lv_at hl 0 rfl) ?_
  refine b_new tyX5 hx hb hml hown hts hV hA hK hB (kn_X5 G hG hw l _ (ky_9_0 hG h0)) wn_X5 (lay_5 hts) tyX5_ok rfl (by decide) (by decide) (tk_29 hts) (tk_31 hts) ⟨Nat.le_of_ble_eq_true rfl, Nat.le_of_ble_eq_true rfl⟩ ⟨Nat.le_of_ble_eq_true rfl, Nat.le_of_ble_eq_true rfl⟩ (lv_size hl) (Nat.le_of_ble_eq_true rfl) dX8_init_5 dX8_init_8 dX8_init_9 (fun H locs hB => ?_)
  replace hB : Bd G a0 137 [(a0, .inr (8, [.null, .null, .int 0, .null, .int 0, .null, .null, .null]))] s.heap H _ := hB
  refine b_put tyX8 hx hb (lay_8 hts) tyX8_ok nmX8 hown hK hin hB 0 rfl rfl 0 (by decide) rfl rfl rfl rfl (Nat.le_of_ble_eq_true rfl) rfl (tk_280 hts) dX8_init_12 (fun H locs hB => ?_)
  replace hB : Bd G a0 137 [(a0, .inr (8, [.ref (a0 + 1), .null, .int 0, .null, .int 0, .null, .null, .null]))] s.heap H _ := hB
  refine lv_aload_n hx hb dX8_init_15 rfl (lv_at hl 0 rfl) ?_
  refine b_new tyX5 hx hb hml hown hts hV hA hK hB (kn_X5 G hG hw l _ (ky_9_1 hG h0)) wn_X5 (lay_5 hts) tyX5_ok rfl (by decide) (by decide) (tk_29 hts) (tk_31 hts) ⟨Nat.le_of_ble_eq_true rfl, Nat.le_of_ble_eq_true rfl⟩ ⟨Nat.le_of_ble_eq_true rfl, Nat.le_of_ble_eq_true rfl⟩ (lv_size hl) (Nat.le_of_ble_eq_true rfl) dX8_init_16 dX8_init_19 dX8_init_20 (fun H locs hB => ?_)
  replace hB : Bd G a0 273 [(a0, .inr (8, [.ref (a0 + 1), .null, .int 0, .null, .int 0, .null, .null, .null]))] s.heap H _ := hB
  refine b_put tyX8 hx hb (lay_8 hts) tyX8_ok nmX8 hown hK hin hB 0 rfl rfl 1 (by decide) rfl rfl rfl rfl (Nat.le_of_ble_eq_true rfl) rfl (tk_281 hts) dX8_init_23 (fun H locs hB => ?_)
  replace hB : Bd G a0 273 [(a0, .inr (8, [.ref (a0 + 1), .ref (a0 + 137), .int 0, .null, .int 0, .null, .null, .null]))] s.heap H _ := hB
  refine lv_aload_n hx hb dX8_init_26 rfl (lv_at hl 0 rfl) ?_
  refine lv_bipush (v := 6) hx hb dX8_init_27 (by decide) ?_
  refine b_anew hx hb hown (tk_29 hts) hA.2.2 (ra_o (hK.2 4 _ rfl).2) hB (n := 6) (N := 6) (by decide) (by decide) (by decide) (Nat.le_of_ble_eq_true rfl) (Nat.le_of_ble_eq_true rfl) dX8_init_29 (fun H hB => ?_)
  replace hB : Bd G a0 274 [(a0, .inr (8, [.ref (a0 + 1), .ref (a0 + 137), .int 0, .null, .int 0, .null, .null, .null])), (a0 + 273, .inl (gC G 4, 6, .inr (.inr (.inr (.inr (fun _ => none))))))] s.heap H _ := hB
  refine b_put tyX8 hx hb (lay_8 hts) tyX8_ok nmX8 hown hK hin hB 0 rfl rfl 3 (by decide) rfl rfl rfl rfl (Nat.le_of_ble_eq_true rfl) rfl (tk_283 hts) dX8_init_32 (fun H locs hB => ?_)
  replace hB : Bd G a0 274 [(a0, .inr (8, [.ref (a0 + 1), .ref (a0 + 137), .int 0, .ref (a0 + 273), .int 0, .null, .null, .null])), (a0 + 273, .inl (gC G 4, 6, .inr (.inr (.inr (.inr (fun _ => none))))))] s.heap H _ := hB
  refine lv_aload_n hx hb dX8_init_35 rfl (lv_at hl 0 rfl) ?_
  refine b_newN tyX6 hx hb hml hown hts hV hA hK hB (kn_X6 G hG hw l _ (ky_9_5 hG h0)) wn_X6 (lay_6 hts) tyX6_ok rfl (by decide) (by decide) (tk_243 hts) (tk_245 hts) ⟨Nat.le_of_ble_eq_true rfl, Nat.le_of_ble_eq_true rfl⟩ ⟨Nat.le_of_ble_eq_true rfl, Nat.le_of_ble_eq_true rfl⟩ (lv_size hl) (Nat.le_of_ble_eq_true rfl) dX8_init_36 dX8_init_39 dX8_init_40 (fun H locs hB => ?_)
  replace hB : Bd G a0 276 [(a0, .inr (8, [.ref (a0 + 1), .ref (a0 + 137), .int 0, .ref (a0 + 273), .int 0, .null, .null, .null])), (a0 + 273, .inl (gC G 4, 6, .inr (.inr (.inr (.inr (fun _ => none))))))] s.heap H _ := hB
  refine b_put tyX8 hx hb (lay_8 hts) tyX8_ok nmX8 hown hK hin hB 0 rfl rfl 5 (by decide) rfl rfl rfl rfl (Nat.le_of_ble_eq_true rfl) rfl (tk_285 hts) dX8_init_43 (fun H locs hB => ?_)
  replace hB : Bd G a0 276 [(a0, .inr (8, [.ref (a0 + 1), .ref (a0 + 137), .int 0, .ref (a0 + 273), .int 0, .ref (a0 + 274), .null, .null])), (a0 + 273, .inl (gC G 4, 6, .inr (.inr (.inr (.inr (fun _ => none))))))] s.heap H _ := hB
  refine lv_aload_n hx hb dX8_init_46 rfl (lv_at hl 0 rfl) ?_
  refine b_newN tyX0 hx hb hml hown hts hV hA hK hB (kn_X0 G hG hw l _ (ky_9_6 hG h0)) wn_X0 (lay_0 hts) tyX0_ok rfl (by decide) (by decide) (tk_276 hts) (tk_277 hts) ⟨Nat.le_of_ble_eq_true rfl, Nat.le_of_ble_eq_true rfl⟩ ⟨Nat.le_of_ble_eq_true rfl, Nat.le_of_ble_eq_true rfl⟩ (lv_size hl) (Nat.le_of_ble_eq_true rfl) dX8_init_47 dX8_init_50 dX8_init_51 (fun H locs hB => ?_)
  replace hB : Bd G a0 277 [(a0, .inr (8, [.ref (a0 + 1), .ref (a0 + 137), .int 0, .ref (a0 + 273), .int 0, .ref (a0 + 274), .null, .null])), (a0 + 273, .inl (gC G 4, 6, .inr (.inr (.inr (.inr (fun _ => none))))))] s.heap H _ := hB
  refine b_put tyX8 hx hb (lay_8 hts) tyX8_ok nmX8 hown hK hin hB 0 rfl rfl 6 (by decide) rfl rfl rfl rfl (Nat.le_of_ble_eq_true rfl) rfl (tk_286 hts) dX8_init_54 (fun H locs hB => ?_)
  replace hB : Bd G a0 277 [(a0, .inr (8, [.ref (a0 + 1), .ref (a0 + 137), .int 0, .ref (a0 + 273), .int 0, .ref (a0 + 274), .ref (a0 + 276), .null])), (a0 + 273, .inl (gC G 4, 6, .inr (.inr (.inr (.inr (fun _ => none))))))] s.heap H _ := hB
  refine lv_aload_n hx hb dX8_init_57 rfl (lv_at hl 0 rfl) ?_
  refine b_newN tyX1 hx hb hml hown hts hV hA hK hB (kn_X1 G hG hw l _ (ky_9_7 hG h0)) wn_X1 (lay_1 hts) tyX1_ok rfl (by decide) (by decide) (tk_278 hts) (tk_279 hts) ⟨Nat.le_of_ble_eq_true rfl, Nat.le_of_ble_eq_true rfl⟩ ⟨Nat.le_of_ble_eq_true rfl, Nat.le_of_ble_eq_true rfl⟩ (lv_size hl) (Nat.le_of_ble_eq_true rfl) dX8_init_58 dX8_init_61 dX8_init_62 (fun H locs hB => ?_)
  replace hB : Bd G a0 279 [(a0, .inr (8, [.ref (a0 + 1), .ref (a0 + 137), .int 0, .ref (a0 + 273), .int 0, .ref (a0 + 274), .ref (a0 + 276), .null])), (a0 + 273, .inl (gC G 4, 6, .inr (.inr (.inr (.inr (fun _ => none))))))] s.heap H _ := hB
  refine b_put tyX8 hx hb (lay_8 hts) tyX8_ok nmX8 hown hK hin hB 0 rfl rfl 7 (by decide) rfl rfl rfl rfl (Nat.le_of_ble_eq_true rfl) rfl (tk_287 hts) dX8_init_65 (fun H locs hB => ?_)
  replace hB : Bd G a0 279 [(a0, .inr (8, [.ref (a0 + 1), .ref (a0 + 137), .int 0, .ref (a0 + 273), .int 0, .ref (a0 + 274), .ref (a0 + 276), .ref (a0 + 277)])), (a0 + 273, .inl (gC G 4, 6, .inr (.inr (.inr (.inr (fun _ => none))))))] s.heap H _ := hB
  refine lv_iconst (v := 0) hx hb dX8_init_68 (by decide) ?_
  refine lv_istore_n (lv' := [(1, .int 0), (0, .ref a0)]) hx hb dX8_init_69 rfl hl (by decide) rfl (fun ls hl => ?_)
  refine lv_iload_n hx hb dX8_init_70 rfl (lv_at hl 0 rfl) ?_
  refine lv_aload_n hx hb dX8_init_71 rfl (lv_at hl 1 rfl) ?_
  refine va_get hx hb (lay_8 hts) (fun _ h => h) hown hK hB.1 0 rfl rfl 3 (by decide) (tk_283 hts) (fun _ h => h) rfl dX8_init_72 ?_
  refine va_alen hx hb hK hB.1 1 4 rfl rfl (v := 6) (show Int32.ofNat 6 = 6 from rfl) dX8_init_75 ?_
  refine lv_icmp_ge (tgt := 98) hx hb dX8_init_76 (by decide) (fun g => absurd g (by decide)) (fun _ => ?_)
  refine lv_aload_n hx hb dX8_init_79 rfl (lv_at hl 1 rfl) ?_
  refine va_get hx hb (lay_8 hts) (fun _ h => h) hown hK hB.1 0 rfl rfl 3 (by decide) (tk_283 hts) (fun _ h => h) rfl dX8_init_80 ?_
  refine lv_iload_n hx hb dX8_init_83 rfl (lv_at hl 0 rfl) ?_
  refine b_new tyX5 hx hb hml hown hts hV hA hK hB (kn_X5 G hG hw l _ (m0_sk hw (ky_9_3 hG h0) 0 (by decide))) wn_X5 (lay_5 hts) tyX5_ok rfl (by decide) (by decide) (tk_29 hts) (tk_31 hts) ⟨Nat.le_of_ble_eq_true rfl, Nat.le_of_ble_eq_true rfl⟩ ⟨Nat.le_of_ble_eq_true rfl, Nat.le_of_ble_eq_true rfl⟩ (lv_size hl) (Nat.le_of_ble_eq_true rfl) dX8_init_84 dX8_init_87 dX8_init_88 (fun H locs hB => ?_)
  replace hB : Bd G a0 415 [(a0, .inr (8, [.ref (a0 + 1), .ref (a0 + 137), .int 0, .ref (a0 + 273), .int 0, .ref (a0 + 274), .ref (a0 + 276), .ref (a0 + 277)])), (a0 + 273, .inl (gC G 4, 6, .inr (.inr (.inr (.inr (fun _ => none))))))] s.heap H _ := hB
  refine b_aast (t0 := 4) (r := (RX5, TX5, 2)) hx hb hK hB 1 rfl rfl (c_6 (m0_sk hw (ky_9_3 hG h0) 0 (by decide))) (by omega) (by omega) (x_ne2 (show a0 ≠ a0 + 279 from by omega) (show a0 + 273 ≠ a0 + 279 from by omega)) rfl (i := 0) (by decide) dX8_init_91 (fun H locs hB => ?_)
  replace hB : Bd G a0 415 [(a0, .inr (8, [.ref (a0 + 1), .ref (a0 + 137), .int 0, .ref (a0 + 273), .int 0, .ref (a0 + 274), .ref (a0 + 276), .ref (a0 + 277)])), (a0 + 273, .inl (gC G 4, 6, .inr (.inr (.inr (.inr (va_up (fun _ => none) 0 (some (a0 + 279))))))))] s.heap H _ := hB
  refine lv_iinc (v := 1) (lv' := [(1, .int 1), (0, .ref a0)]) hx hb dX8_init_92 hl (k := 0) rfl (by decide) (by decide) rfl (fun ls hl => ?_)
  refine lv_goto (tgt := 70) hx hb dX8_init_95 (by decide) ?_
  refine lv_iload_n hx hb dX8_init_70 rfl (lv_at hl 0 rfl) ?_
  refine lv_aload_n hx hb dX8_init_71 rfl (lv_at hl 1 rfl) ?_
  refine va_get hx hb (lay_8 hts) (fun _ h => h) hown hK hB.1 0 rfl rfl 3 (by decide) (tk_283 hts) (fun _ h => h) rfl dX8_init_72 ?_
  refine va_alen hx hb hK hB.1 1 4 rfl rfl (v := 6) (show Int32.ofNat 6 = 6 from rfl) dX8_init_75 ?_
  refine lv_icmp_ge (tgt := 98) hx hb dX8_init_76 (by decide) (fun g => absurd g (by decide)) (fun _ => ?_)
  refine lv_aload_n hx hb dX8_init_79 rfl (lv_at hl 1 rfl) ?_
  refine va_get hx hb (lay_8 hts) (fun _ h => h) hown hK hB.1 0 rfl rfl 3 (by decide) (tk_283 hts) (fun _ h => h) rfl dX8_init_80 ?_
  refine lv_iload_n hx hb dX8_init_83 rfl (lv_at hl 0 rfl) ?_
  refine b_new tyX5 hx hb hml hown hts hV hA hK hB (kn_X5 G hG hw l _ (m0_sk hw (ky_9_3 hG h0) 1 (by decide))) wn_X5 (lay_5 hts) tyX5_ok rfl (by decide) (by decide) (tk_29 hts) (tk_31 hts) ⟨Nat.le_of_ble_eq_true rfl, Nat.le_of_ble_eq_true rfl⟩ ⟨Nat.le_of_ble_eq_true rfl, Nat.le_of_ble_eq_true rfl⟩ (lv_size hl) (Nat.le_of_ble_eq_true rfl) dX8_init_84 dX8_init_87 dX8_init_88 (fun H locs hB => ?_)
  replace hB : Bd G a0 551 [(a0, .inr (8, [.ref (a0 + 1), .ref (a0 + 137), .int 0, .ref (a0 + 273), .int 0, .ref (a0 + 274), .ref (a0 + 276), .ref (a0 + 277)])), (a0 + 273, .inl (gC G 4, 6, .inr (.inr (.inr (.inr (va_up (fun _ => none) 0 (some (a0 + 279))))))))] s.heap H _ := hB
  refine b_aast (t0 := 4) (r := (RX5, TX5, 2)) hx hb hK hB 1 rfl rfl (c_6 (m0_sk hw (ky_9_3 hG h0) 1 (by decide))) (by omega) (by omega) (x_ne2 (show a0 ≠ a0 + 415 from by omega) (show a0 + 273 ≠ a0 + 415 from by omega)) rfl (i := 1) (by decide) dX8_init_91 (fun H locs hB => ?_)
  replace hB : Bd G a0 551 [(a0, .inr (8, [.ref (a0 + 1), .ref (a0 + 137), .int 0, .ref (a0 + 273), .int 0, .ref (a0 + 274), .ref (a0 + 276), .ref (a0 + 277)])), (a0 + 273, .inl (gC G 4, 6, .inr (.inr (.inr (.inr (va_up (va_up (fun _ => none) 0 (some (a0 + 279))) 1 (some (a0 + 415))))))))] s.heap H _ := hB
  refine lv_iinc (v := 2) (lv' := [(1, .int 2), (0, .ref a0)]) hx hb dX8_init_92 hl (k := 0) rfl (by decide) (by decide) rfl (fun ls hl => ?_)
  refine lv_goto (tgt := 70) hx hb dX8_init_95 (by decide) ?_
  refine lv_iload_n hx hb dX8_init_70 rfl (lv_at hl 0 rfl) ?_
  refine lv_aload_n hx hb dX8_init_71 rfl (lv_at hl 1 rfl) ?_
  refine va_get hx hb (lay_8 hts) (fun _ h => h) hown hK hB.1 0 rfl rfl 3 (by decide) (tk_283 hts) (fun _ h => h) rfl dX8_init_72 ?_
  refine va_alen hx hb hK hB.1 1 4 rfl rfl (v := 6) (show Int32.ofNat 6 = 6 from rfl) dX8_init_75 ?_
  refine lv_icmp_ge (tgt := 98) hx hb dX8_init_76 (by decide) (fun g => absurd g (by decide)) (fun _ => ?_)
  refine lv_aload_n hx hb dX8_init_79 rfl (lv_at hl 1 rfl) ?_
  refine va_get hx hb (lay_8 hts) (fun _ h => h) hown hK hB.1 0 rfl rfl 3 (by decide) (tk_283 hts) (fun _ h => h) rfl dX8_init_80 ?_
  refine lv_iload_n hx hb dX8_init_83 rfl (lv_at hl 0 rfl) ?_
  refine b_new tyX5 hx hb hml hown hts hV hA hK hB (kn_X5 G hG hw l _ (m0_sk hw (ky_9_3 hG h0) 2 (by decide))) wn_X5 (lay_5 hts) tyX5_ok rfl (by decide) (by decide) (tk_29 hts) (tk_31 hts) ⟨Nat.le_of_ble_eq_true rfl, Nat.le_of_ble_eq_true rfl⟩ ⟨Nat.le_of_ble_eq_true rfl, Nat.le_of_ble_eq_true rfl⟩ (lv_size hl) (Nat.le_of_ble_eq_true rfl) dX8_init_84 dX8_init_87 dX8_init_88 (fun H locs hB => ?_)
  replace hB : Bd G a0 687 [(a0, .inr (8, [.ref (a0 + 1), .ref (a0 + 137), .int 0, .ref (a0 + 273), .int 0, .ref (a0 + 274), .ref (a0 + 276), .ref (a0 + 277)])), (a0 + 273, .inl (gC G 4, 6, .inr (.inr (.inr (.inr (va_up (va_up (fun _ => none) 0 (some (a0 + 279))) 1 (some (a0 + 415))))))))] s.heap H _ := hB
  refine b_aast (t0 := 4) (r := (RX5, TX5, 2)) hx hb hK hB 1 rfl rfl (c_6 (m0_sk hw (ky_9_3 hG h0) 2 (by decide))) (by omega) (by omega) (x_ne2 (show a0 ≠ a0 + 551 from by omega) (show a0 + 273 ≠ a0 + 551 from by omega)) rfl (i := 2) (by decide) dX8_init_91 (fun H locs hB => ?_)
  replace hB : Bd G a0 687 [(a0, .inr (8, [.ref (a0 + 1), .ref (a0 + 137), .int 0, .ref (a0 + 273), .int 0, .ref (a0 + 274), .ref (a0 + 276), .ref (a0 + 277)])), (a0 + 273, .inl (gC G 4, 6, .inr (.inr (.inr (.inr (va_up (va_up (va_up (fun _ => none) 0 (some (a0 + 279))) 1 (some (a0 + 415))) 2 (some (a0 + 551))))))))] s.heap H _ := hB
  refine lv_iinc (v := 3) (lv' := [(1, .int 3), (0, .ref a0)]) hx hb dX8_init_92 hl (k := 0) rfl (by decide) (by decide) rfl (fun ls hl => ?_)
  refine lv_goto (tgt := 70) hx hb dX8_init_95 (by decide) ?_
  refine lv_iload_n hx hb dX8_init_70 rfl (lv_at hl 0 rfl) ?_
  refine lv_aload_n hx hb dX8_init_71 rfl (lv_at hl 1 rfl) ?_
  refine va_get hx hb (lay_8 hts) (fun _ h => h) hown hK hB.1 0 rfl rfl 3 (by decide) (tk_283 hts) (fun _ h => h) rfl dX8_init_72 ?_
  refine va_alen hx hb hK hB.1 1 4 rfl rfl (v := 6) (show Int32.ofNat 6 = 6 from rfl) dX8_init_75 ?_
  refine lv_icmp_ge (tgt := 98) hx hb dX8_init_76 (by decide) (fun g => absurd g (by decide)) (fun _ => ?_)
  refine lv_aload_n hx hb dX8_init_79 rfl (lv_at hl 1 rfl) ?_
  refine va_get hx hb (lay_8 hts) (fun _ h => h) hown hK hB.1 0 rfl rfl 3 (by decide) (tk_283 hts) (fun _ h => h) rfl dX8_init_80 ?_
  refine lv_iload_n hx hb dX8_init_83 rfl (lv_at hl 0 rfl) ?_
  refine b_new tyX5 hx hb hml hown hts hV hA hK hB (kn_X5 G hG hw l _ (m0_sk hw (ky_9_3 hG h0) 3 (by decide))) wn_X5 (lay_5 hts) tyX5_ok rfl (by decide) (by decide) (tk_29 hts) (tk_31 hts) ⟨Nat.le_of_ble_eq_true rfl, Nat.le_of_ble_eq_true rfl⟩ ⟨Nat.le_of_ble_eq_true rfl, Nat.le_of_ble_eq_true rfl⟩ (lv_size hl) (Nat.le_of_ble_eq_true rfl) dX8_init_84 dX8_init_87 dX8_init_88 (fun H locs hB => ?_)
  replace hB : Bd G a0 823 [(a0, .inr (8, [.ref (a0 + 1), .ref (a0 + 137), .int 0, .ref (a0 + 273), .int 0, .ref (a0 + 274), .ref (a0 + 276), .ref (a0 + 277)])), (a0 + 273, .inl (gC G 4, 6, .inr (.inr (.inr (.inr (va_up (va_up (va_up (fun _ => none) 0 (some (a0 + 279))) 1 (some (a0 + 415))) 2 (some (a0 + 551))))))))] s.heap H _ := hB
  refine b_aast (t0 := 4) (r := (RX5, TX5, 2)) hx hb hK hB 1 rfl rfl (c_6 (m0_sk hw (ky_9_3 hG h0) 3 (by decide))) (by omega) (by omega) (x_ne2 (show a0 ≠ a0 + 687 from by omega) (show a0 + 273 ≠ a0 + 687 from by omega)) rfl (i := 3) (by decide) dX8_init_91 (fun H locs hB => ?_)
  replace hB : Bd G a0 823 [(a0, .inr (8, [.ref (a0 + 1), .ref (a0 + 137), .int 0, .ref (a0 + 273), .int 0, .ref (a0 + 274), .ref (a0 + 276), .ref (a0 + 277)])), (a0 + 273, .inl (gC G 4, 6, .inr (.inr (.inr (.inr (va_up (va_up (va_up (va_up (fun _ => none) 0 (some (a0 + 279))) 1 (some (a0 + 415))) 2 (some (a0 + 551))) 3 (some (a0 + 687))))))))] s.heap H _ := hB
  refine lv_iinc (v := 4) (lv' := [(1, .int 4), (0, .ref a0)]) hx hb dX8_init_92 hl (k := 0) rfl (by decide) (by decide) rfl (fun ls hl => ?_)
  refine lv_goto (tgt := 70) hx hb dX8_init_95 (by decide) ?_
  refine lv_iload_n hx hb dX8_init_70 rfl (lv_at hl 0 rfl) ?_
  refine lv_aload_n hx hb dX8_init_71 rfl (lv_at hl 1 rfl) ?_
  refine va_get hx hb (lay_8 hts) (fun _ h => h) hown hK hB.1 0 rfl rfl 3 (by decide) (tk_283 hts) (fun _ h => h) rfl dX8_init_72 ?_
  refine va_alen hx hb hK hB.1 1 4 rfl rfl (v := 6) (show Int32.ofNat 6 = 6 from rfl) dX8_init_75 ?_
  refine lv_icmp_ge (tgt := 98) hx hb dX8_init_76 (by decide) (fun g => absurd g (by decide)) (fun _ => ?_)
  refine lv_aload_n hx hb dX8_init_79 rfl (lv_at hl 1 rfl) ?_
  refine va_get hx hb (lay_8 hts) (fun _ h => h) hown hK hB.1 0 rfl rfl 3 (by decide) (tk_283 hts) (fun _ h => h) rfl dX8_init_80 ?_
  refine lv_iload_n hx hb dX8_init_83 rfl (lv_at hl 0 rfl) ?_
  refine b_new tyX5 hx hb hml hown hts hV hA hK hB (kn_X5 G hG hw l _ (m0_sk hw (ky_9_3 hG h0) 4 (by decide))) wn_X5 (lay_5 hts) tyX5_ok rfl (by decide) (by decide) (tk_29 hts) (tk_31 hts) ⟨Nat.le_of_ble_eq_true rfl, Nat.le_of_ble_eq_true rfl⟩ ⟨Nat.le_of_ble_eq_true rfl, Nat.le_of_ble_eq_true rfl⟩ (lv_size hl) (Nat.le_of_ble_eq_true rfl) dX8_init_84 dX8_init_87 dX8_init_88 (fun H locs hB => ?_)
  replace hB : Bd G a0 959 [(a0, .inr (8, [.ref (a0 + 1), .ref (a0 + 137), .int 0, .ref (a0 + 273), .int 0, .ref (a0 + 274), .ref (a0 + 276), .ref (a0 + 277)])), (a0 + 273, .inl (gC G 4, 6, .inr (.inr (.inr (.inr (va_up (va_up (va_up (va_up (fun _ => none) 0 (some (a0 + 279))) 1 (some (a0 + 415))) 2 (some (a0 + 551))) 3 (some (a0 + 687))))))))] s.heap H _ := hB
  refine b_aast (t0 := 4) (r := (RX5, TX5, 2)) hx hb hK hB 1 rfl rfl (c_6 (m0_sk hw (ky_9_3 hG h0) 4 (by decide))) (by omega) (by omega) (x_ne2 (show a0 ≠ a0 + 823 from by omega) (show a0 + 273 ≠ a0 + 823 from by omega)) rfl (i := 4) (by decide) dX8_init_91 (fun H locs hB => ?_)
  replace hB : Bd G a0 959 [(a0, .inr (8, [.ref (a0 + 1), .ref (a0 + 137), .int 0, .ref (a0 + 273), .int 0, .ref (a0 + 274), .ref (a0 + 276), .ref (a0 + 277)])), (a0 + 273, .inl (gC G 4, 6, .inr (.inr (.inr (.inr (va_up (va_up (va_up (va_up (va_up (fun _ => none) 0 (some (a0 + 279))) 1 (some (a0 + 415))) 2 (some (a0 + 551))) 3 (some (a0 + 687))) 4 (some (a0 + 823))))))))] s.heap H _ := hB
  refine lv_iinc (v := 5) (lv' := [(1, .int 5), (0, .ref a0)]) hx hb dX8_init_92 hl (k := 0) rfl (by decide) (by decide) rfl (fun ls hl => ?_)
  refine lv_goto (tgt := 70) hx hb dX8_init_95 (by decide) ?_
  refine lv_iload_n hx hb dX8_init_70 rfl (lv_at hl 0 rfl) ?_
  refine lv_aload_n hx hb dX8_init_71 rfl (lv_at hl 1 rfl) ?_
  refine va_get hx hb (lay_8 hts) (fun _ h => h) hown hK hB.1 0 rfl rfl 3 (by decide) (tk_283 hts) (fun _ h => h) rfl dX8_init_72 ?_
  refine va_alen hx hb hK hB.1 1 4 rfl rfl (v := 6) (show Int32.ofNat 6 = 6 from rfl) dX8_init_75 ?_
  refine lv_icmp_ge (tgt := 98) hx hb dX8_init_76 (by decide) (fun g => absurd g (by decide)) (fun _ => ?_)
  refine lv_aload_n hx hb dX8_init_79 rfl (lv_at hl 1 rfl) ?_
  refine va_get hx hb (lay_8 hts) (fun _ h => h) hown hK hB.1 0 rfl rfl 3 (by decide) (tk_283 hts) (fun _ h => h) rfl dX8_init_80 ?_
  refine lv_iload_n hx hb dX8_init_83 rfl (lv_at hl 0 rfl) ?_
  refine b_new tyX5 hx hb hml hown hts hV hA hK hB (kn_X5 G hG hw l _ (m0_sk hw (ky_9_3 hG h0) 5 (by decide))) wn_X5 (lay_5 hts) tyX5_ok rfl (by decide) (by decide) (tk_29 hts) (tk_31 hts) ⟨Nat.le_of_ble_eq_true rfl, Nat.le_of_ble_eq_true rfl⟩ ⟨Nat.le_of_ble_eq_true rfl, Nat.le_of_ble_eq_true rfl⟩ (lv_size hl) (Nat.le_of_ble_eq_true rfl) dX8_init_84 dX8_init_87 dX8_init_88 (fun H locs hB => ?_)
  replace hB : Bd G a0 1095 [(a0, .inr (8, [.ref (a0 + 1), .ref (a0 + 137), .int 0, .ref (a0 + 273), .int 0, .ref (a0 + 274), .ref (a0 + 276), .ref (a0 + 277)])), (a0 + 273, .inl (gC G 4, 6, .inr (.inr (.inr (.inr (va_up (va_up (va_up (va_up (va_up (fun _ => none) 0 (some (a0 + 279))) 1 (some (a0 + 415))) 2 (some (a0 + 551))) 3 (some (a0 + 687))) 4 (some (a0 + 823))))))))] s.heap H _ := hB
  refine b_aast (t0 := 4) (r := (RX5, TX5, 2)) hx hb hK hB 1 rfl rfl (c_6 (m0_sk hw (ky_9_3 hG h0) 5 (by decide))) (by omega) (by omega) (x_ne2 (show a0 ≠ a0 + 959 from by omega) (show a0 + 273 ≠ a0 + 959 from by omega)) rfl (i := 5) (by decide) dX8_init_91 (fun H locs hB => ?_)
  replace hB : Bd G a0 1095 [(a0, .inr (8, [.ref (a0 + 1), .ref (a0 + 137), .int 0, .ref (a0 + 273), .int 0, .ref (a0 + 274), .ref (a0 + 276), .ref (a0 + 277)])), (a0 + 273, .inl (gC G 4, 6, .inr (.inr (.inr (.inr (va_up (va_up (va_up (va_up (va_up (va_up (fun _ => none) 0 (some (a0 + 279))) 1 (some (a0 + 415))) 2 (some (a0 + 551))) 3 (some (a0 + 687))) 4 (some (a0 + 823))) 5 (some (a0 + 959))))))))] s.heap H _ := hB
  refine lv_iinc (v := 6) (lv' := [(1, .int 6), (0, .ref a0)]) hx hb dX8_init_92 hl (k := 0) rfl (by decide) (by decide) rfl (fun ls hl => ?_)
  refine lv_goto (tgt := 70) hx hb dX8_init_95 (by decide) ?_
  refine lv_iload_n hx hb dX8_init_70 rfl (lv_at hl 0 rfl) ?_
  refine lv_aload_n hx hb dX8_init_71 rfl (lv_at hl 1 rfl) ?_
  refine va_get hx hb (lay_8 hts) (fun _ h => h) hown hK hB.1 0 rfl rfl 3 (by decide) (tk_283 hts) (fun _ h => h) rfl dX8_init_72 ?_
  refine va_alen hx hb hK hB.1 1 4 rfl rfl (v := 6) (show Int32.ofNat 6 = 6 from rfl) dX8_init_75 ?_
  refine lv_icmp_ge (tgt := 98) hx hb dX8_init_76 (by decide) (fun _ => ?_) (fun g => absurd (by decide) g)
  exact b_end hx hb hr hlocks hB (List.forall_mem_cons.mpr ⟨fun _ _ => (fin_eq ((c_9 h0).trans (by rw [m0_i h0 (by decide)]))), List.forall_mem_cons.mpr ⟨fun _ _ => (fin_arr (cel_sa (ky_9_3 hG h0)) (fun j hj => by match j, hj with | 0, _ => rw [m0_r (ky_9_3 hG h0) _]; rfl | 1, _ => rw [m0_r (ky_9_3 hG h0) _]; rfl | 2, _ => rw [m0_r (ky_9_3 hG h0) _]; rfl | 3, _ => rw [m0_r (ky_9_3 hG h0) _]; rfl | 4, _ => rw [m0_r (ky_9_3 hG h0) _]; rfl | 5, _ => rw [m0_r (ky_9_3 hG h0) _]; rfl | j + 6, hj => omega)), List.forall_mem_nil _⟩⟩) dX8_init_98
set_option maxHeartbeats 4000000 in
set_option maxRecDepth 100000 in
theorem kn_X9 (G : Gt) (hG : gOK G) (hw : wfM G (M0 G)) (l : Launch) (a0 : Nat) (h0 : gK G a0 = 10) : Kn G l yX9_init cX9_init 2 ({ frames := 1, cells := 9, slots := 5815, locals := 12 } : Room) a0 9 [.null, .null, .int 0, .null, .int 0, .null, .null, .int 0, .null, .int 0, .int 0, .int 0, .null, .null, .null, .long 0] 10 := by
  refine startN (by decide) rfl (by decide) ?_
  intro p e s m args below meth c ls hx hb hr hown hml hlocks hin hts hV hA hB hl
  have hown : s.vm.findClass "FoldedVoicesModel" = some m.cls := hown
  have hK := hG.1.moved hV
  have hl : lv_has ls 2 [(0, .ref a0)] := hl
  refine lv_aload_n hx hb dX9_init_0 rfl (lv_at hl 0 rfl) ?_
  refine b_init hx hb hml hown (tk_962 hts) (tk_27 hts) (tk_28 hts) (lv_size hl) (Nat.le_of_ble_eq_true rfl) (Nat.le_of_ble_eq_true rfl) dX9_init_1 ?_
  refine lv_aload_n hx hb dX9_init_4 rfl (lv_at hl 0 rfl) ?_
  refine lv_sipush (v := 626) hx hb dX9_init_5 (by decide) ?_
  refine b_arr (ty := .int) rfl rfl hx hb (tk_47 hts) (hK.2 0 _ rfl).2 hB (n := 626) (N := 626) (by decide) (by decide) (by decide) (Nat.le_of_ble_eq_true rfl) (Nat.le_of_ble_eq_true rfl) dX9_init_8 (fun H hB => ?_)
  replace hB : Bd G a0 2 [(a0, .inr (9, [.null, .null, .int 0, .null, .int 0, .null, .null, .int 0, .null, .int 0, .int 0, .int 0, .null, .null, .null, .long 0])), (a0 + 1, .inl (gC G 0, 626, .inl (fun _ => 0)))] s.heap H _ := hB
  refine b_put tyX9 hx hb (lay_9 hts) tyX9_ok nmX9 hown hK hin hB 0 rfl rfl 0 (by decide) rfl rfl rfl rfl (Nat.le_of_ble_eq_true rfl) rfl (tk_963 hts) dX9_init_10 (fun H locs hB => ?_)
  replace hB : Bd G a0 2 [(a0, .inr (9, [.ref (a0 + 1), .null, .int 0, .null, .int 0, .null, .null, .int 0, .null, .int 0, .int 0, .int 0, .null, .null, .null, .long 0])), (a0 + 1, .inl (gC G 0, 626, .inl (fun _ => 0)))] s.heap H _ := hB
  refine lv_aload_n hx hb dX9_init_13 rfl (lv_at hl 0 rfl) ?_
  refine lv_sipush (v := 3756) hx hb dX9_init_14 (by decide) ?_
  refine b_arr (ty := .int) rfl rfl hx hb (tk_47 hts) (hK.2 0 _ rfl).2 hB (n := 3756) (N := 3756) (by decide) (by decide) (by decide) (Nat.le_of_ble_eq_true rfl) (Nat.le_of_ble_eq_true rfl) dX9_init_17 (fun H hB => ?_)
  replace hB : Bd G a0 3 [(a0, .inr (9, [.ref (a0 + 1), .null, .int 0, .null, .int 0, .null, .null, .int 0, .null, .int 0, .int 0, .int 0, .null, .null, .null, .long 0])), (a0 + 1, .inl (gC G 0, 626, .inl (fun _ => 0))), (a0 + 2, .inl (gC G 0, 3756, .inl (fun _ => 0)))] s.heap H _ := hB
  refine b_put tyX9 hx hb (lay_9 hts) tyX9_ok nmX9 hown hK hin hB 0 rfl rfl 1 (by decide) rfl rfl rfl rfl (Nat.le_of_ble_eq_true rfl) rfl (tk_964 hts) dX9_init_19 (fun H locs hB => ?_)
  replace hB : Bd G a0 3 [(a0, .inr (9, [.ref (a0 + 1), .ref (a0 + 2), .int 0, .null, .int 0, .null, .null, .int 0, .null, .int 0, .int 0, .int 0, .null, .null, .null, .long 0])), (a0 + 1, .inl (gC G 0, 626, .inl (fun _ => 0))), (a0 + 2, .inl (gC G 0, 3756, .inl (fun _ => 0)))] s.heap H _ := hB
  refine lv_aload_n hx hb dX9_init_22 rfl (lv_at hl 0 rfl) ?_
  refine lv_sipush (v := 626) hx hb dX9_init_23 (by decide) ?_
  refine b_arr (ty := .int) rfl rfl hx hb (tk_47 hts) (hK.2 0 _ rfl).2 hB (n := 626) (N := 626) (by decide) (by decide) (by decide) (Nat.le_of_ble_eq_true rfl) (Nat.le_of_ble_eq_true rfl) dX9_init_26 (fun H hB => ?_)
  replace hB : Bd G a0 4 [(a0, .inr (9, [.ref (a0 + 1), .ref (a0 + 2), .int 0, .null, .int 0, .null, .null, .int 0, .null, .int 0, .int 0, .int 0, .null, .null, .null, .long 0])), (a0 + 1, .inl (gC G 0, 626, .inl (fun _ => 0))), (a0 + 2, .inl (gC G 0, 3756, .inl (fun _ => 0))), (a0 + 3, .inl (gC G 0, 626, .inl (fun _ => 0)))] s.heap H _ := hB
  refine b_put tyX9 hx hb (lay_9 hts) tyX9_ok nmX9 hown hK hin hB 0 rfl rfl 3 (by decide) rfl rfl rfl rfl (Nat.le_of_ble_eq_true rfl) rfl (tk_966 hts) dX9_init_28 (fun H locs hB => ?_)
  replace hB : Bd G a0 4 [(a0, .inr (9, [.ref (a0 + 1), .ref (a0 + 2), .int 0, .ref (a0 + 3), .int 0, .null, .null, .int 0, .null, .int 0, .int 0, .int 0, .null, .null, .null, .long 0])), (a0 + 1, .inl (gC G 0, 626, .inl (fun _ => 0))), (a0 + 2, .inl (gC G 0, 3756, .inl (fun _ => 0))), (a0 + 3, .inl (gC G 0, 626, .inl (fun _ => 0)))] s.heap H _ := hB
  refine lv_aload_n hx hb dX9_init_31 rfl (lv_at hl 0 rfl) ?_
  refine lv_sipush (v := 626) hx hb dX9_init_32 (by decide) ?_
  refine b_arr (ty := .int) rfl rfl hx hb (tk_47 hts) (hK.2 0 _ rfl).2 hB (n := 626) (N := 626) (by decide) (by decide) (by decide) (Nat.le_of_ble_eq_true rfl) (Nat.le_of_ble_eq_true rfl) dX9_init_35 (fun H hB => ?_)
  replace hB : Bd G a0 5 [(a0, .inr (9, [.ref (a0 + 1), .ref (a0 + 2), .int 0, .ref (a0 + 3), .int 0, .null, .null, .int 0, .null, .int 0, .int 0, .int 0, .null, .null, .null, .long 0])), (a0 + 1, .inl (gC G 0, 626, .inl (fun _ => 0))), (a0 + 2, .inl (gC G 0, 3756, .inl (fun _ => 0))), (a0 + 3, .inl (gC G 0, 626, .inl (fun _ => 0))), (a0 + 4, .inl (gC G 0, 626, .inl (fun _ => 0)))] s.heap H _ := hB
  refine b_put tyX9 hx hb (lay_9 hts) tyX9_ok nmX9 hown hK hin hB 0 rfl rfl 5 (by decide) rfl rfl rfl rfl (Nat.le_of_ble_eq_true rfl) rfl (tk_968 hts) dX9_init_37 (fun H locs hB => ?_)
  replace hB : Bd G a0 5 [(a0, .inr (9, [.ref (a0 + 1), .ref (a0 + 2), .int 0, .ref (a0 + 3), .int 0, .ref (a0 + 4), .null, .int 0, .null, .int 0, .int 0, .int 0, .null, .null, .null, .long 0])), (a0 + 1, .inl (gC G 0, 626, .inl (fun _ => 0))), (a0 + 2, .inl (gC G 0, 3756, .inl (fun _ => 0))), (a0 + 3, .inl (gC G 0, 626, .inl (fun _ => 0))), (a0 + 4, .inl (gC G 0, 626, .inl (fun _ => 0)))] s.heap H _ := hB
  refine lv_aload_n hx hb dX9_init_40 rfl (lv_at hl 0 rfl) ?_
  refine lv_bipush (v := 25) hx hb dX9_init_41 (by decide) ?_
  refine b_arr (ty := .int) rfl rfl hx hb (tk_47 hts) (hK.2 0 _ rfl).2 hB (n := 25) (N := 25) (by decide) (by decide) (by decide) (Nat.le_of_ble_eq_true rfl) (Nat.le_of_ble_eq_true rfl) dX9_init_43 (fun H hB => ?_)
  replace hB : Bd G a0 6 [(a0, .inr (9, [.ref (a0 + 1), .ref (a0 + 2), .int 0, .ref (a0 + 3), .int 0, .ref (a0 + 4), .null, .int 0, .null, .int 0, .int 0, .int 0, .null, .null, .null, .long 0])), (a0 + 1, .inl (gC G 0, 626, .inl (fun _ => 0))), (a0 + 2, .inl (gC G 0, 3756, .inl (fun _ => 0))), (a0 + 3, .inl (gC G 0, 626, .inl (fun _ => 0))), (a0 + 4, .inl (gC G 0, 626, .inl (fun _ => 0))), (a0 + 5, .inl (gC G 0, 25, .inl (fun _ => 0)))] s.heap H _ := hB
  refine b_put tyX9 hx hb (lay_9 hts) tyX9_ok nmX9 hown hK hin hB 0 rfl rfl 6 (by decide) rfl rfl rfl rfl (Nat.le_of_ble_eq_true rfl) rfl (tk_969 hts) dX9_init_45 (fun H locs hB => ?_)
  replace hB : Bd G a0 6 [(a0, .inr (9, [.ref (a0 + 1), .ref (a0 + 2), .int 0, .ref (a0 + 3), .int 0, .ref (a0 + 4), .ref (a0 + 5), .int 0, .null, .int 0, .int 0, .int 0, .null, .null, .null, .long 0])), (a0 + 1, .inl (gC G 0, 626, .inl (fun _ => 0))), (a0 + 2, .inl (gC G 0, 3756, .inl (fun _ => 0))), (a0 + 3, .inl (gC G 0, 626, .inl (fun _ => 0))), (a0 + 4, .inl (gC G 0, 626, .inl (fun _ => 0))), (a0 + 5, .inl (gC G 0, 25, .inl (fun _ => 0)))] s.heap H _ := hB
  refine lv_aload_n hx hb dX9_init_48 rfl (lv_at hl 0 rfl) ?_
  refine lv_bipush (v := 60) hx hb dX9_init_49 (by decide) ?_
  refine b_arr (ty := .int) rfl rfl hx hb (tk_47 hts) (hK.2 0 _ rfl).2 hB (n := 60) (N := 60) (by decide) (by decide) (by decide) (Nat.le_of_ble_eq_true rfl) (Nat.le_of_ble_eq_true rfl) dX9_init_51 (fun H hB => ?_)
  replace hB : Bd G a0 7 [(a0, .inr (9, [.ref (a0 + 1), .ref (a0 + 2), .int 0, .ref (a0 + 3), .int 0, .ref (a0 + 4), .ref (a0 + 5), .int 0, .null, .int 0, .int 0, .int 0, .null, .null, .null, .long 0])), (a0 + 1, .inl (gC G 0, 626, .inl (fun _ => 0))), (a0 + 2, .inl (gC G 0, 3756, .inl (fun _ => 0))), (a0 + 3, .inl (gC G 0, 626, .inl (fun _ => 0))), (a0 + 4, .inl (gC G 0, 626, .inl (fun _ => 0))), (a0 + 5, .inl (gC G 0, 25, .inl (fun _ => 0))), (a0 + 6, .inl (gC G 0, 60, .inl (fun _ => 0)))] s.heap H _ := hB
  refine b_put tyX9 hx hb (lay_9 hts) tyX9_ok nmX9 hown hK hin hB 0 rfl rfl 8 (by decide) rfl rfl rfl rfl (Nat.le_of_ble_eq_true rfl) rfl (tk_971 hts) dX9_init_53 (fun H locs hB => ?_)
  replace hB : Bd G a0 7 [(a0, .inr (9, [.ref (a0 + 1), .ref (a0 + 2), .int 0, .ref (a0 + 3), .int 0, .ref (a0 + 4), .ref (a0 + 5), .int 0, .ref (a0 + 6), .int 0, .int 0, .int 0, .null, .null, .null, .long 0])), (a0 + 1, .inl (gC G 0, 626, .inl (fun _ => 0))), (a0 + 2, .inl (gC G 0, 3756, .inl (fun _ => 0))), (a0 + 3, .inl (gC G 0, 626, .inl (fun _ => 0))), (a0 + 4, .inl (gC G 0, 626, .inl (fun _ => 0))), (a0 + 5, .inl (gC G 0, 25, .inl (fun _ => 0))), (a0 + 6, .inl (gC G 0, 60, .inl (fun _ => 0)))] s.heap H _ := hB
  refine lv_aload_n hx hb dX9_init_56 rfl (lv_at hl 0 rfl) ?_
  refine lv_bipush (v := 32) hx hb dX9_init_57 (by decide) ?_
  refine b_arr (ty := .int) rfl rfl hx hb (tk_47 hts) (hK.2 0 _ rfl).2 hB (n := 32) (N := 32) (by decide) (by decide) (by decide) (Nat.le_of_ble_eq_true rfl) (Nat.le_of_ble_eq_true rfl) dX9_init_59 (fun H hB => ?_)
  replace hB : Bd G a0 8 [(a0, .inr (9, [.ref (a0 + 1), .ref (a0 + 2), .int 0, .ref (a0 + 3), .int 0, .ref (a0 + 4), .ref (a0 + 5), .int 0, .ref (a0 + 6), .int 0, .int 0, .int 0, .null, .null, .null, .long 0])), (a0 + 1, .inl (gC G 0, 626, .inl (fun _ => 0))), (a0 + 2, .inl (gC G 0, 3756, .inl (fun _ => 0))), (a0 + 3, .inl (gC G 0, 626, .inl (fun _ => 0))), (a0 + 4, .inl (gC G 0, 626, .inl (fun _ => 0))), (a0 + 5, .inl (gC G 0, 25, .inl (fun _ => 0))), (a0 + 6, .inl (gC G 0, 60, .inl (fun _ => 0))), (a0 + 7, .inl (gC G 0, 32, .inl (fun _ => 0)))] s.heap H _ := hB
  refine b_put tyX9 hx hb (lay_9 hts) tyX9_ok nmX9 hown hK hin hB 0 rfl rfl 12 (by decide) rfl rfl rfl rfl (Nat.le_of_ble_eq_true rfl) rfl (tk_975 hts) dX9_init_61 (fun H locs hB => ?_)
  replace hB : Bd G a0 8 [(a0, .inr (9, [.ref (a0 + 1), .ref (a0 + 2), .int 0, .ref (a0 + 3), .int 0, .ref (a0 + 4), .ref (a0 + 5), .int 0, .ref (a0 + 6), .int 0, .int 0, .int 0, .ref (a0 + 7), .null, .null, .long 0])), (a0 + 1, .inl (gC G 0, 626, .inl (fun _ => 0))), (a0 + 2, .inl (gC G 0, 3756, .inl (fun _ => 0))), (a0 + 3, .inl (gC G 0, 626, .inl (fun _ => 0))), (a0 + 4, .inl (gC G 0, 626, .inl (fun _ => 0))), (a0 + 5, .inl (gC G 0, 25, .inl (fun _ => 0))), (a0 + 6, .inl (gC G 0, 60, .inl (fun _ => 0))), (a0 + 7, .inl (gC G 0, 32, .inl (fun _ => 0)))] s.heap H _ := hB
  refine lv_aload_n hx hb dX9_init_64 rfl (lv_at hl 0 rfl) ?_
  refine lv_bipush (v := 32) hx hb dX9_init_65 (by decide) ?_
  refine b_arr (ty := .int) rfl rfl hx hb (tk_47 hts) (hK.2 0 _ rfl).2 hB (n := 32) (N := 32) (by decide) (by decide) (by decide) (Nat.le_of_ble_eq_true rfl) (Nat.le_of_ble_eq_true rfl) dX9_init_67 (fun H hB => ?_)
  replace hB : Bd G a0 9 [(a0, .inr (9, [.ref (a0 + 1), .ref (a0 + 2), .int 0, .ref (a0 + 3), .int 0, .ref (a0 + 4), .ref (a0 + 5), .int 0, .ref (a0 + 6), .int 0, .int 0, .int 0, .ref (a0 + 7), .null, .null, .long 0])), (a0 + 1, .inl (gC G 0, 626, .inl (fun _ => 0))), (a0 + 2, .inl (gC G 0, 3756, .inl (fun _ => 0))), (a0 + 3, .inl (gC G 0, 626, .inl (fun _ => 0))), (a0 + 4, .inl (gC G 0, 626, .inl (fun _ => 0))), (a0 + 5, .inl (gC G 0, 25, .inl (fun _ => 0))), (a0 + 6, .inl (gC G 0, 60, .inl (fun _ => 0))), (a0 + 7, .inl (gC G 0, 32, .inl (fun _ => 0))), (a0 + 8, .inl (gC G 0, 32, .inl (fun _ => 0)))] s.heap H _ := hB
  refine b_put tyX9 hx hb (lay_9 hts) tyX9_ok nmX9 hown hK hin hB 0 rfl rfl 13 (by decide) rfl rfl rfl rfl (Nat.le_of_ble_eq_true rfl) rfl (tk_976 hts) dX9_init_69 (fun H locs hB => ?_)
  replace hB : Bd G a0 9 [(a0, .inr (9, [.ref (a0 + 1), .ref (a0 + 2), .int 0, .ref (a0 + 3), .int 0, .ref (a0 + 4), .ref (a0 + 5), .int 0, .ref (a0 + 6), .int 0, .int 0, .int 0, .ref (a0 + 7), .ref (a0 + 8), .null, .long 0])), (a0 + 1, .inl (gC G 0, 626, .inl (fun _ => 0))), (a0 + 2, .inl (gC G 0, 3756, .inl (fun _ => 0))), (a0 + 3, .inl (gC G 0, 626, .inl (fun _ => 0))), (a0 + 4, .inl (gC G 0, 626, .inl (fun _ => 0))), (a0 + 5, .inl (gC G 0, 25, .inl (fun _ => 0))), (a0 + 6, .inl (gC G 0, 60, .inl (fun _ => 0))), (a0 + 7, .inl (gC G 0, 32, .inl (fun _ => 0))), (a0 + 8, .inl (gC G 0, 32, .inl (fun _ => 0)))] s.heap H _ := hB
  refine lv_aload_n hx hb dX9_init_72 rfl (lv_at hl 0 rfl) ?_
  refine lv_bipush (v := 32) hx hb dX9_init_73 (by decide) ?_
  refine b_arr (ty := .int) rfl rfl hx hb (tk_47 hts) (hK.2 0 _ rfl).2 hB (n := 32) (N := 32) (by decide) (by decide) (by decide) (Nat.le_of_ble_eq_true rfl) (Nat.le_of_ble_eq_true rfl) dX9_init_75 (fun H hB => ?_)
  replace hB : Bd G a0 10 [(a0, .inr (9, [.ref (a0 + 1), .ref (a0 + 2), .int 0, .ref (a0 + 3), .int 0, .ref (a0 + 4), .ref (a0 + 5), .int 0, .ref (a0 + 6), .int 0, .int 0, .int 0, .ref (a0 + 7), .ref (a0 + 8), .null, .long 0])), (a0 + 1, .inl (gC G 0, 626, .inl (fun _ => 0))), (a0 + 2, .inl (gC G 0, 3756, .inl (fun _ => 0))), (a0 + 3, .inl (gC G 0, 626, .inl (fun _ => 0))), (a0 + 4, .inl (gC G 0, 626, .inl (fun _ => 0))), (a0 + 5, .inl (gC G 0, 25, .inl (fun _ => 0))), (a0 + 6, .inl (gC G 0, 60, .inl (fun _ => 0))), (a0 + 7, .inl (gC G 0, 32, .inl (fun _ => 0))), (a0 + 8, .inl (gC G 0, 32, .inl (fun _ => 0))), (a0 + 9, .inl (gC G 0, 32, .inl (fun _ => 0)))] s.heap H _ := hB
  refine b_put tyX9 hx hb (lay_9 hts) tyX9_ok nmX9 hown hK hin hB 0 rfl rfl 14 (by decide) rfl rfl rfl rfl (Nat.le_of_ble_eq_true rfl) rfl (tk_977 hts) dX9_init_77 (fun H locs hB => ?_)
  replace hB : Bd G a0 10 [(a0, .inr (9, [.ref (a0 + 1), .ref (a0 + 2), .int 0, .ref (a0 + 3), .int 0, .ref (a0 + 4), .ref (a0 + 5), .int 0, .ref (a0 + 6), .int 0, .int 0, .int 0, .ref (a0 + 7), .ref (a0 + 8), .ref (a0 + 9), .long 0])), (a0 + 1, .inl (gC G 0, 626, .inl (fun _ => 0))), (a0 + 2, .inl (gC G 0, 3756, .inl (fun _ => 0))), (a0 + 3, .inl (gC G 0, 626, .inl (fun _ => 0))), (a0 + 4, .inl (gC G 0, 626, .inl (fun _ => 0))), (a0 + 5, .inl (gC G 0, 25, .inl (fun _ => 0))), (a0 + 6, .inl (gC G 0, 60, .inl (fun _ => 0))), (a0 + 7, .inl (gC G 0, 32, .inl (fun _ => 0))), (a0 + 8, .inl (gC G 0, 32, .inl (fun _ => 0))), (a0 + 9, .inl (gC G 0, 32, .inl (fun _ => 0)))] s.heap H _ := hB
  refine lv_aload_n hx hb dX9_init_80 rfl (lv_at hl 0 rfl) ?_
  refine va_get hx hb (lay_9 hts) (fun _ h => h) hown hK hB.1 0 rfl rfl 0 (by decide) (tk_963 hts) (fun _ h => h) rfl dX9_init_81 ?_
  refine lv_iconst (v := 0) hx hb dX9_init_84 (by decide) ?_
  refine lv_iconst (v := 1) hx hb dX9_init_85 (by decide) ?_
  refine b_ist (t0 := 0) hx hb hK hB 1 rfl rfl (i := 0) (by decide) dX9_init_86 (fun H locs hB => ?_)
  replace hB : Bd G a0 10 [(a0, .inr (9, [.ref (a0 + 1), .ref (a0 + 2), .int 0, .ref (a0 + 3), .int 0, .ref (a0 + 4), .ref (a0 + 5), .int 0, .ref (a0 + 6), .int 0, .int 0, .int 0, .ref (a0 + 7), .ref (a0 + 8), .ref (a0 + 9), .long 0])), (a0 + 1, .inl (gC G 0, 626, .inl (upd (fun _ => 0) 0 1))), (a0 + 2, .inl (gC G 0, 3756, .inl (fun _ => 0))), (a0 + 3, .inl (gC G 0, 626, .inl (fun _ => 0))), (a0 + 4, .inl (gC G 0, 626, .inl (fun _ => 0))), (a0 + 5, .inl (gC G 0, 25, .inl (fun _ => 0))), (a0 + 6, .inl (gC G 0, 60, .inl (fun _ => 0))), (a0 + 7, .inl (gC G 0, 32, .inl (fun _ => 0))), (a0 + 8, .inl (gC G 0, 32, .inl (fun _ => 0))), (a0 + 9, .inl (gC G 0, 32, .inl (fun _ => 0)))] s.heap H _ := hB
  refine lv_aload_n hx hb dX9_init_87 rfl (lv_at hl 0 rfl) ?_
  refine va_get hx hb (lay_9 hts) (fun _ h => h) hown hK hB.1 0 rfl rfl 0 (by decide) (tk_963 hts) (fun _ h => h) rfl dX9_init_88 ?_
  refine lv_iconst (v := 2) hx hb dX9_init_91 (by decide) ?_
  refine lv_iconst (v := 4) hx hb dX9_init_92 (by decide) ?_
  refine b_ist (t0 := 0) hx hb hK hB 1 rfl rfl (i := 2) (by decide) dX9_init_93 (fun H locs hB => ?_)
  replace hB : Bd G a0 10 [(a0, .inr (9, [.ref (a0 + 1), .ref (a0 + 2), .int 0, .ref (a0 + 3), .int 0, .ref (a0 + 4), .ref (a0 + 5), .int 0, .ref (a0 + 6), .int 0, .int 0, .int 0, .ref (a0 + 7), .ref (a0 + 8), .ref (a0 + 9), .long 0])), (a0 + 1, .inl (gC G 0, 626, .inl (upd (upd (fun _ => 0) 0 1) 2 4))), (a0 + 2, .inl (gC G 0, 3756, .inl (fun _ => 0))), (a0 + 3, .inl (gC G 0, 626, .inl (fun _ => 0))), (a0 + 4, .inl (gC G 0, 626, .inl (fun _ => 0))), (a0 + 5, .inl (gC G 0, 25, .inl (fun _ => 0))), (a0 + 6, .inl (gC G 0, 60, .inl (fun _ => 0))), (a0 + 7, .inl (gC G 0, 32, .inl (fun _ => 0))), (a0 + 8, .inl (gC G 0, 32, .inl (fun _ => 0))), (a0 + 9, .inl (gC G 0, 32, .inl (fun _ => 0)))] s.heap H _ := hB
  refine lv_aload_n hx hb dX9_init_94 rfl (lv_at hl 0 rfl) ?_
  refine va_get hx hb (lay_9 hts) (fun _ h => h) hown hK hB.1 0 rfl rfl 0 (by decide) (tk_963 hts) (fun _ h => h) rfl dX9_init_95 ?_
  refine lv_iconst (v := 3) hx hb dX9_init_98 (by decide) ?_
  refine lv_iconst (v := 3) hx hb dX9_init_99 (by decide) ?_
  refine b_ist (t0 := 0) hx hb hK hB 1 rfl rfl (i := 3) (by decide) dX9_init_100 (fun H locs hB => ?_)
  replace hB : Bd G a0 10 [(a0, .inr (9, [.ref (a0 + 1), .ref (a0 + 2), .int 0, .ref (a0 + 3), .int 0, .ref (a0 + 4), .ref (a0 + 5), .int 0, .ref (a0 + 6), .int 0, .int 0, .int 0, .ref (a0 + 7), .ref (a0 + 8), .ref (a0 + 9), .long 0])), (a0 + 1, .inl (gC G 0, 626, .inl (upd (upd (upd (fun _ => 0) 0 1) 2 4) 3 3))), (a0 + 2, .inl (gC G 0, 3756, .inl (fun _ => 0))), (a0 + 3, .inl (gC G 0, 626, .inl (fun _ => 0))), (a0 + 4, .inl (gC G 0, 626, .inl (fun _ => 0))), (a0 + 5, .inl (gC G 0, 25, .inl (fun _ => 0))), (a0 + 6, .inl (gC G 0, 60, .inl (fun _ => 0))), (a0 + 7, .inl (gC G 0, 32, .inl (fun _ => 0))), (a0 + 8, .inl (gC G 0, 32, .inl (fun _ => 0))), (a0 + 9, .inl (gC G 0, 32, .inl (fun _ => 0)))] s.heap H _ := hB
  refine lv_aload_n hx hb dX9_init_101 rfl (lv_at hl 0 rfl) ?_
  refine va_get hx hb (lay_9 hts) (fun _ h => h) hown hK hB.1 0 rfl rfl 6 (by decide) (tk_969 hts) (fun _ h => h) rfl dX9_init_102 ?_
  refine lv_iconst (v := 0) hx hb dX9_init_105 (by decide) ?_
  refine lv_bipush (v := 8) hx hb dX9_init_106 (by decide) ?_
  refine b_ist (t0 := 0) hx hb hK hB 5 rfl rfl (i := 0) (by decide) dX9_init_108 (fun H locs hB => ?_)
  replace hB : Bd G a0 10 [(a0, .inr (9, [.ref (a0 + 1), .ref (a0 + 2), .int 0, .ref (a0 + 3), .int 0, .ref (a0 + 4), .ref (a0 + 5), .int 0, .ref (a0 + 6), .int 0, .int 0, .int 0, .ref (a0 + 7), .ref (a0 + 8), .ref (a0 + 9), .long 0])), (a0 + 1, .inl (gC G 0, 626, .inl (upd (upd (upd (fun _ => 0) 0 1) 2 4) 3 3))), (a0 + 2, .inl (gC G 0, 3756, .inl (fun _ => 0))), (a0 + 3, .inl (gC G 0, 626, .inl (fun _ => 0))), (a0 + 4, .inl (gC G 0, 626, .inl (fun _ => 0))), (a0 + 5, .inl (gC G 0, 25, .inl (upd (fun _ => 0) 0 8))), (a0 + 6, .inl (gC G 0, 60, .inl (fun _ => 0))), (a0 + 7, .inl (gC G 0, 32, .inl (fun _ => 0))), (a0 + 8, .inl (gC G 0, 32, .inl (fun _ => 0))), (a0 + 9, .inl (gC G 0, 32, .inl (fun _ => 0)))] s.heap H _ := hB
  refine lv_iconst (v := 1) hx hb dX9_init_109 (by decide) ?_
  refine lv_istore_n (lv' := [(1, .int 1), (0, .ref a0)]) hx hb dX9_init_110 rfl hl (by decide) rfl (fun ls hl => ?_)
  refine lv_iload_n hx hb dX9_init_111 rfl (lv_at hl 0 rfl) ?_
  refine lv_bipush (v := 24) hx hb dX9_init_112 (by decide) ?_
  refine lv_icmp_gt (tgt := 141) hx hb dX9_init_114 (by decide) (fun g => absurd g (by decide)) (fun _ => ?_)
  refine lv_aload_n hx hb dX9_init_117 rfl (lv_at hl 1 rfl) ?_
  refine va_get hx hb (lay_9 hts) (fun _ h => h) hown hK hB.1 0 rfl rfl 6 (by decide) (tk_969 hts) (fun _ h => h) rfl dX9_init_118 ?_
  refine lv_iload_n hx hb dX9_init_121 rfl (lv_at hl 0 rfl) ?_
  refine lv_iconst (v := 5) hx hb dX9_init_122 (by decide) ?_
  refine lv_aload_n hx hb dX9_init_123 rfl (lv_at hl 1 rfl) ?_
  refine va_get hx hb (lay_9 hts) (fun _ h => h) hown hK hB.1 0 rfl rfl 6 (by decide) (tk_969 hts) (fun _ h => h) rfl dX9_init_124 ?_
  refine lv_iload_n hx hb dX9_init_127 rfl (lv_at hl 0 rfl) ?_
  refine lv_iconst (v := 1) hx hb dX9_init_128 (by decide) ?_
  refine lv_isub hx hb dX9_init_129 ?_
  refine s_nm (show ((1 : Int32) - 1) = 0 from by decide +kernel) ?_
  refine va_iald hx hb hK hB.1 5 0 rfl rfl (i := 0) (show ix 0 25 from by decide) dX9_init_130 ?_
  refine s_nm (show (upd (fun _ => 0) 0 8) (Int32.toNatClampNeg 0) = 8 from by decide +kernel) ?_
  refine lv_imul hx hb dX9_init_131 ?_
  refine s_nm (show ((5 : Int32) * 8) = 40 from by decide +kernel) ?_
  refine lv_iconst (v := 4) hx hb dX9_init_132 (by decide) ?_
  refine lv_idiv hx hb dX9_init_133 (by decide) ?_
  refine s_nm (show ((40 : Int32) / 4) = 10 from by decide +kernel) ?_
  refine b_ist (t0 := 0) hx hb hK hB 5 rfl rfl (i := 1) (by decide) dX9_init_134 (fun H locs hB => ?_)
  replace hB : Bd G a0 10 [(a0, .inr (9, [.ref (a0 + 1), .ref (a0 + 2), .int 0, .ref (a0 + 3), .int 0, .ref (a0 + 4), .ref (a0 + 5), .int 0, .ref (a0 + 6), .int 0, .int 0, .int 0, .ref (a0 + 7), .ref (a0 + 8), .ref (a0 + 9), .long 0])), (a0 + 1, .inl (gC G 0, 626, .inl (upd (upd (upd (fun _ => 0) 0 1) 2 4) 3 3))), (a0 + 2, .inl (gC G 0, 3756, .inl (fun _ => 0))), (a0 + 3, .inl (gC G 0, 626, .inl (fun _ => 0))), (a0 + 4, .inl (gC G 0, 626, .inl (fun _ => 0))), (a0 + 5, .inl (gC G 0, 25, .inl (upd (upd (fun _ => 0) 0 8) 1 10))), (a0 + 6, .inl (gC G 0, 60, .inl (fun _ => 0))), (a0 + 7, .inl (gC G 0, 32, .inl (fun _ => 0))), (a0 + 8, .inl (gC G 0, 32, .inl (fun _ => 0))), (a0 + 9, .inl (gC G 0, 32, .inl (fun _ => 0)))] s.heap H _ := hB
  refine lv_iinc (v := 2) (lv' := [(1, .int 2), (0, .ref a0)]) hx hb dX9_init_135 hl (k := 0) rfl (by decide) (by decide) rfl (fun ls hl => ?_)
  refine lv_goto (tgt := 111) hx hb dX9_init_138 (by decide) ?_
  refine lv_iload_n hx hb dX9_init_111 rfl (lv_at hl 0 rfl) ?_
  refine lv_bipush (v := 24) hx hb dX9_init_112 (by decide) ?_
  refine lv_icmp_gt (tgt := 141) hx hb dX9_init_114 (by decide) (fun g => absurd g (by decide)) (fun _ => ?_)
  refine lv_aload_n hx hb dX9_init_117 rfl (lv_at hl 1 rfl) ?_
  refine va_get hx hb (lay_9 hts) (fun _ h => h) hown hK hB.1 0 rfl rfl 6 (by decide) (tk_969 hts) (fun _ h => h) rfl dX9_init_118 ?_
  refine lv_iload_n hx hb dX9_init_121 rfl (lv_at hl 0 rfl) ?_
  refine lv_iconst (v := 5) hx hb dX9_init_122 (by decide) ?_
  refine lv_aload_n hx hb dX9_init_123 rfl (lv_at hl 1 rfl) ?_
  refine va_get hx hb (lay_9 hts) (fun _ h => h) hown hK hB.1 0 rfl rfl 6 (by decide) (tk_969 hts) (fun _ h => h) rfl dX9_init_124 ?_
  refine lv_iload_n hx hb dX9_init_127 rfl (lv_at hl 0 rfl) ?_
  refine lv_iconst (v := 1) hx hb dX9_init_128 (by decide) ?_
  refine lv_isub hx hb dX9_init_129 ?_
  refine s_nm (show ((2 : Int32) - 1) = 1 from by decide +kernel) ?_
  refine va_iald hx hb hK hB.1 5 0 rfl rfl (i := 1) (show ix 1 25 from by decide) dX9_init_130 ?_
  refine s_nm (show (upd (upd (fun _ => 0) 0 8) 1 10) (Int32.toNatClampNeg 1) = 10 from by decide +kernel) ?_
  refine lv_imul hx hb dX9_init_131 ?_
  refine s_nm (show ((5 : Int32) * 10) = 50 from by decide +kernel) ?_
  refine lv_iconst (v := 4) hx hb dX9_init_132 (by decide) ?_
  refine lv_idiv hx hb dX9_init_133 (by decide) ?_
  refine s_nm (show ((50 : Int32) / 4) = 12 from by decide +kernel) ?_
  refine b_ist (t0 := 0) hx hb hK hB 5 rfl rfl (i := 2) (by decide) dX9_init_134 (fun H locs hB => ?_)
  replace hB : Bd G a0 10 [(a0, .inr (9, [.ref (a0 + 1), .ref (a0 + 2), .int 0, .ref (a0 + 3), .int 0, .ref (a0 + 4), .ref (a0 + 5), .int 0, .ref (a0 + 6), .int 0, .int 0, .int 0, .ref (a0 + 7), .ref (a0 + 8), .ref (a0 + 9), .long 0])), (a0 + 1, .inl (gC G 0, 626, .inl (upd (upd (upd (fun _ => 0) 0 1) 2 4) 3 3))), (a0 + 2, .inl (gC G 0, 3756, .inl (fun _ => 0))), (a0 + 3, .inl (gC G 0, 626, .inl (fun _ => 0))), (a0 + 4, .inl (gC G 0, 626, .inl (fun _ => 0))), (a0 + 5, .inl (gC G 0, 25, .inl (upd (upd (upd (fun _ => 0) 0 8) 1 10) 2 12))), (a0 + 6, .inl (gC G 0, 60, .inl (fun _ => 0))), (a0 + 7, .inl (gC G 0, 32, .inl (fun _ => 0))), (a0 + 8, .inl (gC G 0, 32, .inl (fun _ => 0))), (a0 + 9, .inl (gC G 0, 32, .inl (fun _ => 0)))] s.heap H _ := hB
  refine lv_iinc (v := 3) (lv' := [(1, .int 3), (0, .ref a0)]) hx hb dX9_init_135 hl (k := 0) rfl (by decide) (by decide) rfl (fun ls hl => ?_)
  refine lv_goto (tgt := 111) hx hb dX9_init_138 (by decide) ?_
  refine lv_iload_n hx hb dX9_init_111 rfl (lv_at hl 0 rfl) ?_
  refine lv_bipush (v := 24) hx hb dX9_init_112 (by decide) ?_
  refine lv_icmp_gt (tgt := 141) hx hb dX9_init_114 (by decide) (fun g => absurd g (by decide)) (fun _ => ?_)
  refine lv_aload_n hx hb dX9_init_117 rfl (lv_at hl 1 rfl) ?_
  refine va_get hx hb (lay_9 hts) (fun _ h => h) hown hK hB.1 0 rfl rfl 6 (by decide) (tk_969 hts) (fun _ h => h) rfl dX9_init_118 ?_
  refine lv_iload_n hx hb dX9_init_121 rfl (lv_at hl 0 rfl) ?_
  refine lv_iconst (v := 5) hx hb dX9_init_122 (by decide) ?_
  refine lv_aload_n hx hb dX9_init_123 rfl (lv_at hl 1 rfl) ?_
  refine va_get hx hb (lay_9 hts) (fun _ h => h) hown hK hB.1 0 rfl rfl 6 (by decide) (tk_969 hts) (fun _ h => h) rfl dX9_init_124 ?_
  refine lv_iload_n hx hb dX9_init_127 rfl (lv_at hl 0 rfl) ?_
  refine lv_iconst (v := 1) hx hb dX9_init_128 (by decide) ?_
  refine lv_isub hx hb dX9_init_129 ?_
  refine s_nm (show ((3 : Int32) - 1) = 2 from by decide +kernel) ?_
  refine va_iald hx hb hK hB.1 5 0 rfl rfl (i := 2) (show ix 2 25 from by decide) dX9_init_130 ?_
  refine s_nm (show (upd (upd (upd (fun _ => 0) 0 8) 1 10) 2 12) (Int32.toNatClampNeg 2) = 12 from by decide +kernel) ?_
  refine lv_imul hx hb dX9_init_131 ?_
  refine s_nm (show ((5 : Int32) * 12) = 60 from by decide +kernel) ?_
  refine lv_iconst (v := 4) hx hb dX9_init_132 (by decide) ?_
  refine lv_idiv hx hb dX9_init_133 (by decide) ?_
  refine s_nm (show ((60 : Int32) / 4) = 15 from by decide +kernel) ?_
  refine b_ist (t0 := 0) hx hb hK hB 5 rfl rfl (i := 3) (by decide) dX9_init_134 (fun H locs hB => ?_)
  replace hB : Bd G a0 10 [(a0, .inr (9, [.ref (a0 + 1), .ref (a0 + 2), .int 0, .ref (a0 + 3), .int 0, .ref (a0 + 4), .ref (a0 + 5), .int 0, .ref (a0 + 6), .int 0, .int 0, .int 0, .ref (a0 + 7), .ref (a0 + 8), .ref (a0 + 9), .long 0])), (a0 + 1, .inl (gC G 0, 626, .inl (upd (upd (upd (fun _ => 0) 0 1) 2 4) 3 3))), (a0 + 2, .inl (gC G 0, 3756, .inl (fun _ => 0))), (a0 + 3, .inl (gC G 0, 626, .inl (fun _ => 0))), (a0 + 4, .inl (gC G 0, 626, .inl (fun _ => 0))), (a0 + 5, .inl (gC G 0, 25, .inl (upd (upd (upd (upd (fun _ => 0) 0 8) 1 10) 2 12) 3 15))), (a0 + 6, .inl (gC G 0, 60, .inl (fun _ => 0))), (a0 + 7, .inl (gC G 0, 32, .inl (fun _ => 0))), (a0 + 8, .inl (gC G 0, 32, .inl (fun _ => 0))), (a0 + 9, .inl (gC G 0, 32, .inl (fun _ => 0)))] s.heap H _ := hB
  refine lv_iinc (v := 4) (lv' := [(1, .int 4), (0, .ref a0)]) hx hb dX9_init_135 hl (k := 0) rfl (by decide) (by decide) rfl (fun ls hl => ?_)
  refine lv_goto (tgt := 111) hx hb dX9_init_138 (by decide) ?_
  refine lv_iload_n hx hb dX9_init_111 rfl (lv_at hl 0 rfl) ?_
  refine lv_bipush (v := 24) hx hb dX9_init_112 (by decide) ?_
  refine lv_icmp_gt (tgt := 141) hx hb dX9_init_114 (by decide) (fun g => absurd g (by decide)) (fun _ => ?_)
  refine lv_aload_n hx hb dX9_init_117 rfl (lv_at hl 1 rfl) ?_
  refine va_get hx hb (lay_9 hts) (fun _ h => h) hown hK hB.1 0 rfl rfl 6 (by decide) (tk_969 hts) (fun _ h => h) rfl dX9_init_118 ?_
  refine lv_iload_n hx hb dX9_init_121 rfl (lv_at hl 0 rfl) ?_
  refine lv_iconst (v := 5) hx hb dX9_init_122 (by decide) ?_
  refine lv_aload_n hx hb dX9_init_123 rfl (lv_at hl 1 rfl) ?_
  refine va_get hx hb (lay_9 hts) (fun _ h => h) hown hK hB.1 0 rfl rfl 6 (by decide) (tk_969 hts) (fun _ h => h) rfl dX9_init_124 ?_
  refine lv_iload_n hx hb dX9_init_127 rfl (lv_at hl 0 rfl) ?_
  refine lv_iconst (v := 1) hx hb dX9_init_128 (by decide) ?_
  refine lv_isub hx hb dX9_init_129 ?_
  refine s_nm (show ((4 : Int32) - 1) = 3 from by decide +kernel) ?_
  refine va_iald hx hb hK hB.1 5 0 rfl rfl (i := 3) (show ix 3 25 from by decide) dX9_init_130 ?_
  refine s_nm (show (upd (upd (upd (upd (fun _ => 0) 0 8) 1 10) 2 12) 3 15) (Int32.toNatClampNeg 3) = 15 from by decide +kernel) ?_
  refine lv_imul hx hb dX9_init_131 ?_
  refine s_nm (show ((5 : Int32) * 15) = 75 from by decide +kernel) ?_
  refine lv_iconst (v := 4) hx hb dX9_init_132 (by decide) ?_
  refine lv_idiv hx hb dX9_init_133 (by decide) ?_
  refine s_nm (show ((75 : Int32) / 4) = 18 from by decide +kernel) ?_
  refine b_ist (t0 := 0) hx hb hK hB 5 rfl rfl (i := 4) (by decide) dX9_init_134 (fun H locs hB => ?_)
  replace hB : Bd G a0 10 [(a0, .inr (9, [.ref (a0 + 1), .ref (a0 + 2), .int 0, .ref (a0 + 3), .int 0, .ref (a0 + 4), .ref (a0 + 5), .int 0, .ref (a0 + 6), .int 0, .int 0, .int 0, .ref (a0 + 7), .ref (a0 + 8), .ref (a0 + 9), .long 0])), (a0 + 1, .inl (gC G 0, 626, .inl (upd (upd (upd (fun _ => 0) 0 1) 2 4) 3 3))), (a0 + 2, .inl (gC G 0, 3756, .inl (fun _ => 0))), (a0 + 3, .inl (gC G 0, 626, .inl (fun _ => 0))), (a0 + 4, .inl (gC G 0, 626, .inl (fun _ => 0))), (a0 + 5, .inl (gC G 0, 25, .inl (upd (upd (upd (upd (upd (fun _ => 0) 0 8) 1 10) 2 12) 3 15) 4 18))), (a0 + 6, .inl (gC G 0, 60, .inl (fun _ => 0))), (a0 + 7, .inl (gC G 0, 32, .inl (fun _ => 0))), (a0 + 8, .inl (gC G 0, 32, .inl (fun _ => 0))), (a0 + 9, .inl (gC G 0, 32, .inl (fun _ => 0)))] s.heap H _ := hB
  refine lv_iinc (v := 5) (lv' := [(1, .int 5), (0, .ref a0)]) hx hb dX9_init_135 hl (k := 0) rfl (by decide) (by decide) rfl (fun ls hl => ?_)
  refine lv_goto (tgt := 111) hx hb dX9_init_138 (by decide) ?_
  refine lv_iload_n hx hb dX9_init_111 rfl (lv_at hl 0 rfl) ?_
  refine lv_bipush (v := 24) hx hb dX9_init_112 (by decide) ?_
  refine lv_icmp_gt (tgt := 141) hx hb dX9_init_114 (by decide) (fun g => absurd g (by decide)) (fun _ => ?_)
  refine lv_aload_n hx hb dX9_init_117 rfl (lv_at hl 1 rfl) ?_
  refine va_get hx hb (lay_9 hts) (fun _ h => h) hown hK hB.1 0 rfl rfl 6 (by decide) (tk_969 hts) (fun _ h => h) rfl dX9_init_118 ?_
  refine lv_iload_n hx hb dX9_init_121 rfl (lv_at hl 0 rfl) ?_
  refine lv_iconst (v := 5) hx hb dX9_init_122 (by decide) ?_
  refine lv_aload_n hx hb dX9_init_123 rfl (lv_at hl 1 rfl) ?_
  refine va_get hx hb (lay_9 hts) (fun _ h => h) hown hK hB.1 0 rfl rfl 6 (by decide) (tk_969 hts) (fun _ h => h) rfl dX9_init_124 ?_
  refine lv_iload_n hx hb dX9_init_127 rfl (lv_at hl 0 rfl) ?_
  refine lv_iconst (v := 1) hx hb dX9_init_128 (by decide) ?_
  refine lv_isub hx hb dX9_init_129 ?_
  refine s_nm (show ((5 : Int32) - 1) = 4 from by decide +kernel) ?_
  refine va_iald hx hb hK hB.1 5 0 rfl rfl (i := 4) (show ix 4 25 from by decide) dX9_init_130 ?_
  refine s_nm (show (upd (upd (upd (upd (upd (fun _ => 0) 0 8) 1 10) 2 12) 3 15) 4 18) (Int32.toNatClampNeg 4) = 18 from by decide +kernel) ?_
  refine lv_imul hx hb dX9_init_131 ?_
  refine s_nm (show ((5 : Int32) * 18) = 90 from by decide +kernel) ?_
  refine lv_iconst (v := 4) hx hb dX9_init_132 (by decide) ?_
  refine lv_idiv hx hb dX9_init_133 (by decide) ?_
  refine s_nm (show ((90 : Int32) / 4) = 22 from by decide +kernel) ?_
  refine b_ist (t0 := 0) hx hb hK hB 5 rfl rfl (i := 5) (by decide) dX9_init_134 (fun H locs hB => ?_)
  replace hB : Bd G a0 10 [(a0, .inr (9, [.ref (a0 + 1), .ref (a0 + 2), .int 0, .ref (a0 + 3), .int 0, .ref (a0 + 4), .ref (a0 + 5), .int 0, .ref (a0 + 6), .int 0, .int 0, .int 0, .ref (a0 + 7), .ref (a0 + 8), .ref (a0 + 9), .long 0])), (a0 + 1, .inl (gC G 0, 626, .inl (upd (upd (upd (fun _ => 0) 0 1) 2 4) 3 3))), (a0 + 2, .inl (gC G 0, 3756, .inl (fun _ => 0))), (a0 + 3, .inl (gC G 0, 626, .inl (fun _ => 0))), (a0 + 4, .inl (gC G 0, 626, .inl (fun _ => 0))), (a0 + 5, .inl (gC G 0, 25, .inl (upd (upd (upd (upd (upd (upd (fun _ => 0) 0 8) 1 10) 2 12) 3 15) 4 18) 5 22))), (a0 + 6, .inl (gC G 0, 60, .inl (fun _ => 0))), (a0 + 7, .inl (gC G 0, 32, .inl (fun _ => 0))), (a0 + 8, .inl (gC G 0, 32, .inl (fun _ => 0))), (a0 + 9, .inl (gC G 0, 32, .inl (fun _ => 0)))] s.heap H _ := hB
  refine lv_iinc (v := 6) (lv' := [(1, .int 6), (0, .ref a0)]) hx hb dX9_init_135 hl (k := 0) rfl (by decide) (by decide) rfl (fun ls hl => ?_)
  refine lv_goto (tgt := 111) hx hb dX9_init_138 (by decide) ?_
  refine lv_iload_n hx hb dX9_init_111 rfl (lv_at hl 0 rfl) ?_
  refine lv_bipush (v := 24) hx hb dX9_init_112 (by decide) ?_
  refine lv_icmp_gt (tgt := 141) hx hb dX9_init_114 (by decide) (fun g => absurd g (by decide)) (fun _ => ?_)
  refine lv_aload_n hx hb dX9_init_117 rfl (lv_at hl 1 rfl) ?_
  refine va_get hx hb (lay_9 hts) (fun _ h => h) hown hK hB.1 0 rfl rfl 6 (by decide) (tk_969 hts) (fun _ h => h) rfl dX9_init_118 ?_
  refine lv_iload_n hx hb dX9_init_121 rfl (lv_at hl 0 rfl) ?_
  refine lv_iconst (v := 5) hx hb dX9_init_122 (by decide) ?_
  refine lv_aload_n hx hb dX9_init_123 rfl (lv_at hl 1 rfl) ?_
  refine va_get hx hb (lay_9 hts) (fun _ h => h) hown hK hB.1 0 rfl rfl 6 (by decide) (tk_969 hts) (fun _ h => h) rfl dX9_init_124 ?_
  refine lv_iload_n hx hb dX9_init_127 rfl (lv_at hl 0 rfl) ?_
  refine lv_iconst (v := 1) hx hb dX9_init_128 (by decide) ?_
  refine lv_isub hx hb dX9_init_129 ?_
  refine s_nm (show ((6 : Int32) - 1) = 5 from by decide +kernel) ?_
  refine va_iald hx hb hK hB.1 5 0 rfl rfl (i := 5) (show ix 5 25 from by decide) dX9_init_130 ?_
  refine s_nm (show (upd (upd (upd (upd (upd (upd (fun _ => 0) 0 8) 1 10) 2 12) 3 15) 4 18) 5 22) (Int32.toNatClampNeg 5) = 22 from by decide +kernel) ?_
  refine lv_imul hx hb dX9_init_131 ?_
  refine s_nm (show ((5 : Int32) * 22) = 110 from by decide +kernel) ?_
  refine lv_iconst (v := 4) hx hb dX9_init_132 (by decide) ?_
  refine lv_idiv hx hb dX9_init_133 (by decide) ?_
  refine s_nm (show ((110 : Int32) / 4) = 27 from by decide +kernel) ?_
  refine b_ist (t0 := 0) hx hb hK hB 5 rfl rfl (i := 6) (by decide) dX9_init_134 (fun H locs hB => ?_)
  replace hB : Bd G a0 10 [(a0, .inr (9, [.ref (a0 + 1), .ref (a0 + 2), .int 0, .ref (a0 + 3), .int 0, .ref (a0 + 4), .ref (a0 + 5), .int 0, .ref (a0 + 6), .int 0, .int 0, .int 0, .ref (a0 + 7), .ref (a0 + 8), .ref (a0 + 9), .long 0])), (a0 + 1, .inl (gC G 0, 626, .inl (upd (upd (upd (fun _ => 0) 0 1) 2 4) 3 3))), (a0 + 2, .inl (gC G 0, 3756, .inl (fun _ => 0))), (a0 + 3, .inl (gC G 0, 626, .inl (fun _ => 0))), (a0 + 4, .inl (gC G 0, 626, .inl (fun _ => 0))), (a0 + 5, .inl (gC G 0, 25, .inl (upd (upd (upd (upd (upd (upd (upd (fun _ => 0) 0 8) 1 10) 2 12) 3 15) 4 18) 5 22) 6 27))), (a0 + 6, .inl (gC G 0, 60, .inl (fun _ => 0))), (a0 + 7, .inl (gC G 0, 32, .inl (fun _ => 0))), (a0 + 8, .inl (gC G 0, 32, .inl (fun _ => 0))), (a0 + 9, .inl (gC G 0, 32, .inl (fun _ => 0)))] s.heap H _ := hB
  refine lv_iinc (v := 7) (lv' := [(1, .int 7), (0, .ref a0)]) hx hb dX9_init_135 hl (k := 0) rfl (by decide) (by decide) rfl (fun ls hl => ?_)
  refine lv_goto (tgt := 111) hx hb dX9_init_138 (by decide) ?_
  refine lv_iload_n hx hb dX9_init_111 rfl (lv_at hl 0 rfl) ?_
  refine lv_bipush (v := 24) hx hb dX9_init_112 (by decide) ?_
  refine lv_icmp_gt (tgt := 141) hx hb dX9_init_114 (by decide) (fun g => absurd g (by decide)) (fun _ => ?_)
  refine lv_aload_n hx hb dX9_init_117 rfl (lv_at hl 1 rfl) ?_
  refine va_get hx hb (lay_9 hts) (fun _ h => h) hown hK hB.1 0 rfl rfl 6 (by decide) (tk_969 hts) (fun _ h => h) rfl dX9_init_118 ?_
  refine lv_iload_n hx hb dX9_init_121 rfl (lv_at hl 0 rfl) ?_
  refine lv_iconst (v := 5) hx hb dX9_init_122 (by decide) ?_
  refine lv_aload_n hx hb dX9_init_123 rfl (lv_at hl 1 rfl) ?_
  refine va_get hx hb (lay_9 hts) (fun _ h => h) hown hK hB.1 0 rfl rfl 6 (by decide) (tk_969 hts) (fun _ h => h) rfl dX9_init_124 ?_
  refine lv_iload_n hx hb dX9_init_127 rfl (lv_at hl 0 rfl) ?_
  refine lv_iconst (v := 1) hx hb dX9_init_128 (by decide) ?_
  refine lv_isub hx hb dX9_init_129 ?_
  refine s_nm (show ((7 : Int32) - 1) = 6 from by decide +kernel) ?_
  refine va_iald hx hb hK hB.1 5 0 rfl rfl (i := 6) (show ix 6 25 from by decide) dX9_init_130 ?_
  refine s_nm (show (upd (upd (upd (upd (upd (upd (upd (fun _ => 0) 0 8) 1 10) 2 12) 3 15) 4 18) 5 22) 6 27) (Int32.toNatClampNeg 6) = 27 from by decide +kernel) ?_
  refine lv_imul hx hb dX9_init_131 ?_
  refine s_nm (show ((5 : Int32) * 27) = 135 from by decide +kernel) ?_
  refine lv_iconst (v := 4) hx hb dX9_init_132 (by decide) ?_
  refine lv_idiv hx hb dX9_init_133 (by decide) ?_
  refine s_nm (show ((135 : Int32) / 4) = 33 from by decide +kernel) ?_
  refine b_ist (t0 := 0) hx hb hK hB 5 rfl rfl (i := 7) (by decide) dX9_init_134 (fun H locs hB => ?_)
  replace hB : Bd G a0 10 [(a0, .inr (9, [.ref (a0 + 1), .ref (a0 + 2), .int 0, .ref (a0 + 3), .int 0, .ref (a0 + 4), .ref (a0 + 5), .int 0, .ref (a0 + 6), .int 0, .int 0, .int 0, .ref (a0 + 7), .ref (a0 + 8), .ref (a0 + 9), .long 0])), (a0 + 1, .inl (gC G 0, 626, .inl (upd (upd (upd (fun _ => 0) 0 1) 2 4) 3 3))), (a0 + 2, .inl (gC G 0, 3756, .inl (fun _ => 0))), (a0 + 3, .inl (gC G 0, 626, .inl (fun _ => 0))), (a0 + 4, .inl (gC G 0, 626, .inl (fun _ => 0))), (a0 + 5, .inl (gC G 0, 25, .inl (upd (upd (upd (upd (upd (upd (upd (upd (fun _ => 0) 0 8) 1 10) 2 12) 3 15) 4 18) 5 22) 6 27) 7 33))), (a0 + 6, .inl (gC G 0, 60, .inl (fun _ => 0))), (a0 + 7, .inl (gC G 0, 32, .inl (fun _ => 0))), (a0 + 8, .inl (gC G 0, 32, .inl (fun _ => 0))), (a0 + 9, .inl (gC G 0, 32, .inl (fun _ => 0)))] s.heap H _ := hB
  refine lv_iinc (v := 8) (lv' := [(1, .int 8), (0, .ref a0)]) hx hb dX9_init_135 hl (k := 0) rfl (by decide) (by decide) rfl (fun ls hl => ?_)
  refine lv_goto (tgt := 111) hx hb dX9_init_138 (by decide) ?_
  refine lv_iload_n hx hb dX9_init_111 rfl (lv_at hl 0 rfl) ?_
  refine lv_bipush (v := 24) hx hb dX9_init_112 (by decide) ?_
  refine lv_icmp_gt (tgt := 141) hx hb dX9_init_114 (by decide) (fun g => absurd g (by decide)) (fun _ => ?_)
  refine lv_aload_n hx hb dX9_init_117 rfl (lv_at hl 1 rfl) ?_
  refine va_get hx hb (lay_9 hts) (fun _ h => h) hown hK hB.1 0 rfl rfl 6 (by decide) (tk_969 hts) (fun _ h => h) rfl dX9_init_118 ?_
  refine lv_iload_n hx hb dX9_init_121 rfl (lv_at hl 0 rfl) ?_
  refine lv_iconst (v := 5) hx hb dX9_init_122 (by decide) ?_
  refine lv_aload_n hx hb dX9_init_123 rfl (lv_at hl 1 rfl) ?_
  refine va_get hx hb (lay_9 hts) (fun _ h => h) hown hK hB.1 0 rfl rfl 6 (by decide) (tk_969 hts) (fun _ h => h) rfl dX9_init_124 ?_
  refine lv_iload_n hx hb dX9_init_127 rfl (lv_at hl 0 rfl) ?_
  refine lv_iconst (v := 1) hx hb dX9_init_128 (by decide) ?_
  refine lv_isub hx hb dX9_init_129 ?_
  refine s_nm (show ((8 : Int32) - 1) = 7 from by decide +kernel) ?_
  refine va_iald hx hb hK hB.1 5 0 rfl rfl (i := 7) (show ix 7 25 from by decide) dX9_init_130 ?_
  refine s_nm (show (upd (upd (upd (upd (upd (upd (upd (upd (fun _ => 0) 0 8) 1 10) 2 12) 3 15) 4 18) 5 22) 6 27) 7 33) (Int32.toNatClampNeg 7) = 33 from by decide +kernel) ?_
  refine lv_imul hx hb dX9_init_131 ?_
  refine s_nm (show ((5 : Int32) * 33) = 165 from by decide +kernel) ?_
  refine lv_iconst (v := 4) hx hb dX9_init_132 (by decide) ?_
  refine lv_idiv hx hb dX9_init_133 (by decide) ?_
  refine s_nm (show ((165 : Int32) / 4) = 41 from by decide +kernel) ?_
  refine b_ist (t0 := 0) hx hb hK hB 5 rfl rfl (i := 8) (by decide) dX9_init_134 (fun H locs hB => ?_)
  replace hB : Bd G a0 10 [(a0, .inr (9, [.ref (a0 + 1), .ref (a0 + 2), .int 0, .ref (a0 + 3), .int 0, .ref (a0 + 4), .ref (a0 + 5), .int 0, .ref (a0 + 6), .int 0, .int 0, .int 0, .ref (a0 + 7), .ref (a0 + 8), .ref (a0 + 9), .long 0])), (a0 + 1, .inl (gC G 0, 626, .inl (upd (upd (upd (fun _ => 0) 0 1) 2 4) 3 3))), (a0 + 2, .inl (gC G 0, 3756, .inl (fun _ => 0))), (a0 + 3, .inl (gC G 0, 626, .inl (fun _ => 0))), (a0 + 4, .inl (gC G 0, 626, .inl (fun _ => 0))), (a0 + 5, .inl (gC G 0, 25, .inl (upd (upd (upd (upd (upd (upd (upd (upd (upd (fun _ => 0) 0 8) 1 10) 2 12) 3 15) 4 18) 5 22) 6 27) 7 33) 8 41))), (a0 + 6, .inl (gC G 0, 60, .inl (fun _ => 0))), (a0 + 7, .inl (gC G 0, 32, .inl (fun _ => 0))), (a0 + 8, .inl (gC G 0, 32, .inl (fun _ => 0))), (a0 + 9, .inl (gC G 0, 32, .inl (fun _ => 0)))] s.heap H _ := hB
  refine lv_iinc (v := 9) (lv' := [(1, .int 9), (0, .ref a0)]) hx hb dX9_init_135 hl (k := 0) rfl (by decide) (by decide) rfl (fun ls hl => ?_)
  refine lv_goto (tgt := 111) hx hb dX9_init_138 (by decide) ?_
  refine lv_iload_n hx hb dX9_init_111 rfl (lv_at hl 0 rfl) ?_
  refine lv_bipush (v := 24) hx hb dX9_init_112 (by decide) ?_
  refine lv_icmp_gt (tgt := 141) hx hb dX9_init_114 (by decide) (fun g => absurd g (by decide)) (fun _ => ?_)
  refine lv_aload_n hx hb dX9_init_117 rfl (lv_at hl 1 rfl) ?_
  refine va_get hx hb (lay_9 hts) (fun _ h => h) hown hK hB.1 0 rfl rfl 6 (by decide) (tk_969 hts) (fun _ h => h) rfl dX9_init_118 ?_
  refine lv_iload_n hx hb dX9_init_121 rfl (lv_at hl 0 rfl) ?_
  refine lv_iconst (v := 5) hx hb dX9_init_122 (by decide) ?_
  refine lv_aload_n hx hb dX9_init_123 rfl (lv_at hl 1 rfl) ?_
  refine va_get hx hb (lay_9 hts) (fun _ h => h) hown hK hB.1 0 rfl rfl 6 (by decide) (tk_969 hts) (fun _ h => h) rfl dX9_init_124 ?_
  refine lv_iload_n hx hb dX9_init_127 rfl (lv_at hl 0 rfl) ?_
  refine lv_iconst (v := 1) hx hb dX9_init_128 (by decide) ?_
  refine lv_isub hx hb dX9_init_129 ?_
  refine s_nm (show ((9 : Int32) - 1) = 8 from by decide +kernel) ?_
  refine va_iald hx hb hK hB.1 5 0 rfl rfl (i := 8) (show ix 8 25 from by decide) dX9_init_130 ?_
  refine s_nm (show (upd (upd (upd (upd (upd (upd (upd (upd (upd (fun _ => 0) 0 8) 1 10) 2 12) 3 15) 4 18) 5 22) 6 27) 7 33) 8 41) (Int32.toNatClampNeg 8) = 41 from by decide +kernel) ?_
  refine lv_imul hx hb dX9_init_131 ?_
  refine s_nm (show ((5 : Int32) * 41) = 205 from by decide +kernel) ?_
  refine lv_iconst (v := 4) hx hb dX9_init_132 (by decide) ?_
  refine lv_idiv hx hb dX9_init_133 (by decide) ?_
  refine s_nm (show ((205 : Int32) / 4) = 51 from by decide +kernel) ?_
  refine b_ist (t0 := 0) hx hb hK hB 5 rfl rfl (i := 9) (by decide) dX9_init_134 (fun H locs hB => ?_)
  replace hB : Bd G a0 10 [(a0, .inr (9, [.ref (a0 + 1), .ref (a0 + 2), .int 0, .ref (a0 + 3), .int 0, .ref (a0 + 4), .ref (a0 + 5), .int 0, .ref (a0 + 6), .int 0, .int 0, .int 0, .ref (a0 + 7), .ref (a0 + 8), .ref (a0 + 9), .long 0])), (a0 + 1, .inl (gC G 0, 626, .inl (upd (upd (upd (fun _ => 0) 0 1) 2 4) 3 3))), (a0 + 2, .inl (gC G 0, 3756, .inl (fun _ => 0))), (a0 + 3, .inl (gC G 0, 626, .inl (fun _ => 0))), (a0 + 4, .inl (gC G 0, 626, .inl (fun _ => 0))), (a0 + 5, .inl (gC G 0, 25, .inl (upd (upd (upd (upd (upd (upd (upd (upd (upd (upd (fun _ => 0) 0 8) 1 10) 2 12) 3 15) 4 18) 5 22) 6 27) 7 33) 8 41) 9 51))), (a0 + 6, .inl (gC G 0, 60, .inl (fun _ => 0))), (a0 + 7, .inl (gC G 0, 32, .inl (fun _ => 0))), (a0 + 8, .inl (gC G 0, 32, .inl (fun _ => 0))), (a0 + 9, .inl (gC G 0, 32, .inl (fun _ => 0)))] s.heap H _ := hB
  refine lv_iinc (v := 10) (lv' := [(1, .int 10), (0, .ref a0)]) hx hb dX9_init_135 hl (k := 0) rfl (by decide) (by decide) rfl (fun ls hl => ?_)
  refine lv_goto (tgt := 111) hx hb dX9_init_138 (by decide) ?_
  refine lv_iload_n hx hb dX9_init_111 rfl (lv_at hl 0 rfl) ?_
  refine lv_bipush (v := 24) hx hb dX9_init_112 (by decide) ?_
  refine lv_icmp_gt (tgt := 141) hx hb dX9_init_114 (by decide) (fun g => absurd g (by decide)) (fun _ => ?_)
  refine lv_aload_n hx hb dX9_init_117 rfl (lv_at hl 1 rfl) ?_
  refine va_get hx hb (lay_9 hts) (fun _ h => h) hown hK hB.1 0 rfl rfl 6 (by decide) (tk_969 hts) (fun _ h => h) rfl dX9_init_118 ?_
  refine lv_iload_n hx hb dX9_init_121 rfl (lv_at hl 0 rfl) ?_
  refine lv_iconst (v := 5) hx hb dX9_init_122 (by decide) ?_
  refine lv_aload_n hx hb dX9_init_123 rfl (lv_at hl 1 rfl) ?_
  refine va_get hx hb (lay_9 hts) (fun _ h => h) hown hK hB.1 0 rfl rfl 6 (by decide) (tk_969 hts) (fun _ h => h) rfl dX9_init_124 ?_
  refine lv_iload_n hx hb dX9_init_127 rfl (lv_at hl 0 rfl) ?_
  refine lv_iconst (v := 1) hx hb dX9_init_128 (by decide) ?_
  refine lv_isub hx hb dX9_init_129 ?_
  refine s_nm (show ((10 : Int32) - 1) = 9 from by decide +kernel) ?_
  refine va_iald hx hb hK hB.1 5 0 rfl rfl (i := 9) (show ix 9 25 from by decide) dX9_init_130 ?_
  refine s_nm (show (upd (upd (upd (upd (upd (upd (upd (upd (upd (upd (fun _ => 0) 0 8) 1 10) 2 12) 3 15) 4 18) 5 22) 6 27) 7 33) 8 41) 9 51) (Int32.toNatClampNeg 9) = 51 from by decide +kernel) ?_
  refine lv_imul hx hb dX9_init_131 ?_
  refine s_nm (show ((5 : Int32) * 51) = 255 from by decide +kernel) ?_
  refine lv_iconst (v := 4) hx hb dX9_init_132 (by decide) ?_
  refine lv_idiv hx hb dX9_init_133 (by decide) ?_
  refine s_nm (show ((255 : Int32) / 4) = 63 from by decide +kernel) ?_
  refine b_ist (t0 := 0) hx hb hK hB 5 rfl rfl (i := 10) (by decide) dX9_init_134 (fun H locs hB => ?_)
  replace hB : Bd G a0 10 [(a0, .inr (9, [.ref (a0 + 1), .ref (a0 + 2), .int 0, .ref (a0 + 3), .int 0, .ref (a0 + 4), .ref (a0 + 5), .int 0, .ref (a0 + 6), .int 0, .int 0, .int 0, .ref (a0 + 7), .ref (a0 + 8), .ref (a0 + 9), .long 0])), (a0 + 1, .inl (gC G 0, 626, .inl (upd (upd (upd (fun _ => 0) 0 1) 2 4) 3 3))), (a0 + 2, .inl (gC G 0, 3756, .inl (fun _ => 0))), (a0 + 3, .inl (gC G 0, 626, .inl (fun _ => 0))), (a0 + 4, .inl (gC G 0, 626, .inl (fun _ => 0))), (a0 + 5, .inl (gC G 0, 25, .inl (upd (upd (upd (upd (upd (upd (upd (upd (upd (upd (upd (fun _ => 0) 0 8) 1 10) 2 12) 3 15) 4 18) 5 22) 6 27) 7 33) 8 41) 9 51) 10 63))), (a0 + 6, .inl (gC G 0, 60, .inl (fun _ => 0))), (a0 + 7, .inl (gC G 0, 32, .inl (fun _ => 0))), (a0 + 8, .inl (gC G 0, 32, .inl (fun _ => 0))), (a0 + 9, .inl (gC G 0, 32, .inl (fun _ => 0)))] s.heap H _ := hB
  refine lv_iinc (v := 11) (lv' := [(1, .int 11), (0, .ref a0)]) hx hb dX9_init_135 hl (k := 0) rfl (by decide) (by decide) rfl (fun ls hl => ?_)
  refine lv_goto (tgt := 111) hx hb dX9_init_138 (by decide) ?_
  refine lv_iload_n hx hb dX9_init_111 rfl (lv_at hl 0 rfl) ?_
  refine lv_bipush (v := 24) hx hb dX9_init_112 (by decide) ?_
  refine lv_icmp_gt (tgt := 141) hx hb dX9_init_114 (by decide) (fun g => absurd g (by decide)) (fun _ => ?_)
  refine lv_aload_n hx hb dX9_init_117 rfl (lv_at hl 1 rfl) ?_
  refine va_get hx hb (lay_9 hts) (fun _ h => h) hown hK hB.1 0 rfl rfl 6 (by decide) (tk_969 hts) (fun _ h => h) rfl dX9_init_118 ?_
  refine lv_iload_n hx hb dX9_init_121 rfl (lv_at hl 0 rfl) ?_
  refine lv_iconst (v := 5) hx hb dX9_init_122 (by decide) ?_
  refine lv_aload_n hx hb dX9_init_123 rfl (lv_at hl 1 rfl) ?_
  refine va_get hx hb (lay_9 hts) (fun _ h => h) hown hK hB.1 0 rfl rfl 6 (by decide) (tk_969 hts) (fun _ h => h) rfl dX9_init_124 ?_
  refine lv_iload_n hx hb dX9_init_127 rfl (lv_at hl 0 rfl) ?_
  refine lv_iconst (v := 1) hx hb dX9_init_128 (by decide) ?_
  refine lv_isub hx hb dX9_init_129 ?_
  refine s_nm (show ((11 : Int32) - 1) = 10 from by decide +kernel) ?_
  refine va_iald hx hb hK hB.1 5 0 rfl rfl (i := 10) (show ix 10 25 from by decide) dX9_init_130 ?_
  refine s_nm (show (upd (upd (upd (upd (upd (upd (upd (upd (upd (upd (upd (fun _ => 0) 0 8) 1 10) 2 12) 3 15) 4 18) 5 22) 6 27) 7 33) 8 41) 9 51) 10 63) (Int32.toNatClampNeg 10) = 63 from by decide +kernel) ?_
  refine lv_imul hx hb dX9_init_131 ?_
  refine s_nm (show ((5 : Int32) * 63) = 315 from by decide +kernel) ?_
  refine lv_iconst (v := 4) hx hb dX9_init_132 (by decide) ?_
  refine lv_idiv hx hb dX9_init_133 (by decide) ?_
  refine s_nm (show ((315 : Int32) / 4) = 78 from by decide +kernel) ?_
  refine b_ist (t0 := 0) hx hb hK hB 5 rfl rfl (i := 11) (by decide) dX9_init_134 (fun H locs hB => ?_)
  replace hB : Bd G a0 10 [(a0, .inr (9, [.ref (a0 + 1), .ref (a0 + 2), .int 0, .ref (a0 + 3), .int 0, .ref (a0 + 4), .ref (a0 + 5), .int 0, .ref (a0 + 6), .int 0, .int 0, .int 0, .ref (a0 + 7), .ref (a0 + 8), .ref (a0 + 9), .long 0])), (a0 + 1, .inl (gC G 0, 626, .inl (upd (upd (upd (fun _ => 0) 0 1) 2 4) 3 3))), (a0 + 2, .inl (gC G 0, 3756, .inl (fun _ => 0))), (a0 + 3, .inl (gC G 0, 626, .inl (fun _ => 0))), (a0 + 4, .inl (gC G 0, 626, .inl (fun _ => 0))), (a0 + 5, .inl (gC G 0, 25, .inl (upd (upd (upd (upd (upd (upd (upd (upd (upd (upd (upd (upd (fun _ => 0) 0 8) 1 10) 2 12) 3 15) 4 18) 5 22) 6 27) 7 33) 8 41) 9 51) 10 63) 11 78))), (a0 + 6, .inl (gC G 0, 60, .inl (fun _ => 0))), (a0 + 7, .inl (gC G 0, 32, .inl (fun _ => 0))), (a0 + 8, .inl (gC G 0, 32, .inl (fun _ => 0))), (a0 + 9, .inl (gC G 0, 32, .inl (fun _ => 0)))] s.heap H _ := hB
  refine lv_iinc (v := 12) (lv' := [(1, .int 12), (0, .ref a0)]) hx hb dX9_init_135 hl (k := 0) rfl (by decide) (by decide) rfl (fun ls hl => ?_)
  refine lv_goto (tgt := 111) hx hb dX9_init_138 (by decide) ?_
  refine lv_iload_n hx hb dX9_init_111 rfl (lv_at hl 0 rfl) ?_
  refine lv_bipush (v := 24) hx hb dX9_init_112 (by decide) ?_
  refine lv_icmp_gt (tgt := 141) hx hb dX9_init_114 (by decide) (fun g => absurd g (by decide)) (fun _ => ?_)
  refine lv_aload_n hx hb dX9_init_117 rfl (lv_at hl 1 rfl) ?_
  refine va_get hx hb (lay_9 hts) (fun _ h => h) hown hK hB.1 0 rfl rfl 6 (by decide) (tk_969 hts) (fun _ h => h) rfl dX9_init_118 ?_
  refine lv_iload_n hx hb dX9_init_121 rfl (lv_at hl 0 rfl) ?_
  refine lv_iconst (v := 5) hx hb dX9_init_122 (by decide) ?_
  refine lv_aload_n hx hb dX9_init_123 rfl (lv_at hl 1 rfl) ?_
  refine va_get hx hb (lay_9 hts) (fun _ h => h) hown hK hB.1 0 rfl rfl 6 (by decide) (tk_969 hts) (fun _ h => h) rfl dX9_init_124 ?_
  refine lv_iload_n hx hb dX9_init_127 rfl (lv_at hl 0 rfl) ?_
  refine lv_iconst (v := 1) hx hb dX9_init_128 (by decide) ?_
  refine lv_isub hx hb dX9_init_129 ?_
  refine s_nm (show ((12 : Int32) - 1) = 11 from by decide +kernel) ?_
  refine va_iald hx hb hK hB.1 5 0 rfl rfl (i := 11) (show ix 11 25 from by decide) dX9_init_130 ?_
  refine s_nm (show (upd (upd (upd (upd (upd (upd (upd (upd (upd (upd (upd (upd (fun _ => 0) 0 8) 1 10) 2 12) 3 15) 4 18) 5 22) 6 27) 7 33) 8 41) 9 51) 10 63) 11 78) (Int32.toNatClampNeg 11) = 78 from by decide +kernel) ?_
  refine lv_imul hx hb dX9_init_131 ?_
  refine s_nm (show ((5 : Int32) * 78) = 390 from by decide +kernel) ?_
  refine lv_iconst (v := 4) hx hb dX9_init_132 (by decide) ?_
  refine lv_idiv hx hb dX9_init_133 (by decide) ?_
  refine s_nm (show ((390 : Int32) / 4) = 97 from by decide +kernel) ?_
  refine b_ist (t0 := 0) hx hb hK hB 5 rfl rfl (i := 12) (by decide) dX9_init_134 (fun H locs hB => ?_)
  replace hB : Bd G a0 10 [(a0, .inr (9, [.ref (a0 + 1), .ref (a0 + 2), .int 0, .ref (a0 + 3), .int 0, .ref (a0 + 4), .ref (a0 + 5), .int 0, .ref (a0 + 6), .int 0, .int 0, .int 0, .ref (a0 + 7), .ref (a0 + 8), .ref (a0 + 9), .long 0])), (a0 + 1, .inl (gC G 0, 626, .inl (upd (upd (upd (fun _ => 0) 0 1) 2 4) 3 3))), (a0 + 2, .inl (gC G 0, 3756, .inl (fun _ => 0))), (a0 + 3, .inl (gC G 0, 626, .inl (fun _ => 0))), (a0 + 4, .inl (gC G 0, 626, .inl (fun _ => 0))), (a0 + 5, .inl (gC G 0, 25, .inl (upd (upd (upd (upd (upd (upd (upd (upd (upd (upd (upd (upd (upd (fun _ => 0) 0 8) 1 10) 2 12) 3 15) 4 18) 5 22) 6 27) 7 33) 8 41) 9 51) 10 63) 11 78) 12 97))), (a0 + 6, .inl (gC G 0, 60, .inl (fun _ => 0))), (a0 + 7, .inl (gC G 0, 32, .inl (fun _ => 0))), (a0 + 8, .inl (gC G 0, 32, .inl (fun _ => 0))), (a0 + 9, .inl (gC G 0, 32, .inl (fun _ => 0)))] s.heap H _ := hB
  refine lv_iinc (v := 13) (lv' := [(1, .int 13), (0, .ref a0)]) hx hb dX9_init_135 hl (k := 0) rfl (by decide) (by decide) rfl (fun ls hl => ?_)
  refine lv_goto (tgt := 111) hx hb dX9_init_138 (by decide) ?_
  refine lv_iload_n hx hb dX9_init_111 rfl (lv_at hl 0 rfl) ?_
  refine lv_bipush (v := 24) hx hb dX9_init_112 (by decide) ?_
  refine lv_icmp_gt (tgt := 141) hx hb dX9_init_114 (by decide) (fun g => absurd g (by decide)) (fun _ => ?_)
  refine lv_aload_n hx hb dX9_init_117 rfl (lv_at hl 1 rfl) ?_
  refine va_get hx hb (lay_9 hts) (fun _ h => h) hown hK hB.1 0 rfl rfl 6 (by decide) (tk_969 hts) (fun _ h => h) rfl dX9_init_118 ?_
  refine lv_iload_n hx hb dX9_init_121 rfl (lv_at hl 0 rfl) ?_
  refine lv_iconst (v := 5) hx hb dX9_init_122 (by decide) ?_
  refine lv_aload_n hx hb dX9_init_123 rfl (lv_at hl 1 rfl) ?_
  refine va_get hx hb (lay_9 hts) (fun _ h => h) hown hK hB.1 0 rfl rfl 6 (by decide) (tk_969 hts) (fun _ h => h) rfl dX9_init_124 ?_
  refine lv_iload_n hx hb dX9_init_127 rfl (lv_at hl 0 rfl) ?_
  refine lv_iconst (v := 1) hx hb dX9_init_128 (by decide) ?_
  refine lv_isub hx hb dX9_init_129 ?_
  refine s_nm (show ((13 : Int32) - 1) = 12 from by decide +kernel) ?_
  refine va_iald hx hb hK hB.1 5 0 rfl rfl (i := 12) (show ix 12 25 from by decide) dX9_init_130 ?_
  refine s_nm (show (upd (upd (upd (upd (upd (upd (upd (upd (upd (upd (upd (upd (upd (fun _ => 0) 0 8) 1 10) 2 12) 3 15) 4 18) 5 22) 6 27) 7 33) 8 41) 9 51) 10 63) 11 78) 12 97) (Int32.toNatClampNeg 12) = 97 from by decide +kernel) ?_
  refine lv_imul hx hb dX9_init_131 ?_
  refine s_nm (show ((5 : Int32) * 97) = 485 from by decide +kernel) ?_
  refine lv_iconst (v := 4) hx hb dX9_init_132 (by decide) ?_
  refine lv_idiv hx hb dX9_init_133 (by decide) ?_
  refine s_nm (show ((485 : Int32) / 4) = 121 from by decide +kernel) ?_
  refine b_ist (t0 := 0) hx hb hK hB 5 rfl rfl (i := 13) (by decide) dX9_init_134 (fun H locs hB => ?_)
  replace hB : Bd G a0 10 [(a0, .inr (9, [.ref (a0 + 1), .ref (a0 + 2), .int 0, .ref (a0 + 3), .int 0, .ref (a0 + 4), .ref (a0 + 5), .int 0, .ref (a0 + 6), .int 0, .int 0, .int 0, .ref (a0 + 7), .ref (a0 + 8), .ref (a0 + 9), .long 0])), (a0 + 1, .inl (gC G 0, 626, .inl (upd (upd (upd (fun _ => 0) 0 1) 2 4) 3 3))), (a0 + 2, .inl (gC G 0, 3756, .inl (fun _ => 0))), (a0 + 3, .inl (gC G 0, 626, .inl (fun _ => 0))), (a0 + 4, .inl (gC G 0, 626, .inl (fun _ => 0))), (a0 + 5, .inl (gC G 0, 25, .inl (upd (upd (upd (upd (upd (upd (upd (upd (upd (upd (upd (upd (upd (upd (fun _ => 0) 0 8) 1 10) 2 12) 3 15) 4 18) 5 22) 6 27) 7 33) 8 41) 9 51) 10 63) 11 78) 12 97) 13 121))), (a0 + 6, .inl (gC G 0, 60, .inl (fun _ => 0))), (a0 + 7, .inl (gC G 0, 32, .inl (fun _ => 0))), (a0 + 8, .inl (gC G 0, 32, .inl (fun _ => 0))), (a0 + 9, .inl (gC G 0, 32, .inl (fun _ => 0)))] s.heap H _ := hB
  refine lv_iinc (v := 14) (lv' := [(1, .int 14), (0, .ref a0)]) hx hb dX9_init_135 hl (k := 0) rfl (by decide) (by decide) rfl (fun ls hl => ?_)
  refine lv_goto (tgt := 111) hx hb dX9_init_138 (by decide) ?_
  refine lv_iload_n hx hb dX9_init_111 rfl (lv_at hl 0 rfl) ?_
  refine lv_bipush (v := 24) hx hb dX9_init_112 (by decide) ?_
  refine lv_icmp_gt (tgt := 141) hx hb dX9_init_114 (by decide) (fun g => absurd g (by decide)) (fun _ => ?_)
  refine lv_aload_n hx hb dX9_init_117 rfl (lv_at hl 1 rfl) ?_
  refine va_get hx hb (lay_9 hts) (fun _ h => h) hown hK hB.1 0 rfl rfl 6 (by decide) (tk_969 hts) (fun _ h => h) rfl dX9_init_118 ?_
  refine lv_iload_n hx hb dX9_init_121 rfl (lv_at hl 0 rfl) ?_
  refine lv_iconst (v := 5) hx hb dX9_init_122 (by decide) ?_
  refine lv_aload_n hx hb dX9_init_123 rfl (lv_at hl 1 rfl) ?_
  refine va_get hx hb (lay_9 hts) (fun _ h => h) hown hK hB.1 0 rfl rfl 6 (by decide) (tk_969 hts) (fun _ h => h) rfl dX9_init_124 ?_
  refine lv_iload_n hx hb dX9_init_127 rfl (lv_at hl 0 rfl) ?_
  refine lv_iconst (v := 1) hx hb dX9_init_128 (by decide) ?_
  refine lv_isub hx hb dX9_init_129 ?_
  refine s_nm (show ((14 : Int32) - 1) = 13 from by decide +kernel) ?_
  refine va_iald hx hb hK hB.1 5 0 rfl rfl (i := 13) (show ix 13 25 from by decide) dX9_init_130 ?_
  refine s_nm (show (upd (upd (upd (upd (upd (upd (upd (upd (upd (upd (upd (upd (upd (upd (fun _ => 0) 0 8) 1 10) 2 12) 3 15) 4 18) 5 22) 6 27) 7 33) 8 41) 9 51) 10 63) 11 78) 12 97) 13 121) (Int32.toNatClampNeg 13) = 121 from by decide +kernel) ?_
  refine lv_imul hx hb dX9_init_131 ?_
  refine s_nm (show ((5 : Int32) * 121) = 605 from by decide +kernel) ?_
  refine lv_iconst (v := 4) hx hb dX9_init_132 (by decide) ?_
  refine lv_idiv hx hb dX9_init_133 (by decide) ?_
  refine s_nm (show ((605 : Int32) / 4) = 151 from by decide +kernel) ?_
  refine b_ist (t0 := 0) hx hb hK hB 5 rfl rfl (i := 14) (by decide) dX9_init_134 (fun H locs hB => ?_)
  replace hB : Bd G a0 10 [(a0, .inr (9, [.ref (a0 + 1), .ref (a0 + 2), .int 0, .ref (a0 + 3), .int 0, .ref (a0 + 4), .ref (a0 + 5), .int 0, .ref (a0 + 6), .int 0, .int 0, .int 0, .ref (a0 + 7), .ref (a0 + 8), .ref (a0 + 9), .long 0])), (a0 + 1, .inl (gC G 0, 626, .inl (upd (upd (upd (fun _ => 0) 0 1) 2 4) 3 3))), (a0 + 2, .inl (gC G 0, 3756, .inl (fun _ => 0))), (a0 + 3, .inl (gC G 0, 626, .inl (fun _ => 0))), (a0 + 4, .inl (gC G 0, 626, .inl (fun _ => 0))), (a0 + 5, .inl (gC G 0, 25, .inl (upd (upd (upd (upd (upd (upd (upd (upd (upd (upd (upd (upd (upd (upd (upd (fun _ => 0) 0 8) 1 10) 2 12) 3 15) 4 18) 5 22) 6 27) 7 33) 8 41) 9 51) 10 63) 11 78) 12 97) 13 121) 14 151))), (a0 + 6, .inl (gC G 0, 60, .inl (fun _ => 0))), (a0 + 7, .inl (gC G 0, 32, .inl (fun _ => 0))), (a0 + 8, .inl (gC G 0, 32, .inl (fun _ => 0))), (a0 + 9, .inl (gC G 0, 32, .inl (fun _ => 0)))] s.heap H _ := hB
  refine lv_iinc (v := 15) (lv' := [(1, .int 15), (0, .ref a0)]) hx hb dX9_init_135 hl (k := 0) rfl (by decide) (by decide) rfl (fun ls hl => ?_)
  refine lv_goto (tgt := 111) hx hb dX9_init_138 (by decide) ?_
  refine lv_iload_n hx hb dX9_init_111 rfl (lv_at hl 0 rfl) ?_
  refine lv_bipush (v := 24) hx hb dX9_init_112 (by decide) ?_
  refine lv_icmp_gt (tgt := 141) hx hb dX9_init_114 (by decide) (fun g => absurd g (by decide)) (fun _ => ?_)
  refine lv_aload_n hx hb dX9_init_117 rfl (lv_at hl 1 rfl) ?_
  refine va_get hx hb (lay_9 hts) (fun _ h => h) hown hK hB.1 0 rfl rfl 6 (by decide) (tk_969 hts) (fun _ h => h) rfl dX9_init_118 ?_
  refine lv_iload_n hx hb dX9_init_121 rfl (lv_at hl 0 rfl) ?_
  refine lv_iconst (v := 5) hx hb dX9_init_122 (by decide) ?_
  refine lv_aload_n hx hb dX9_init_123 rfl (lv_at hl 1 rfl) ?_
  refine va_get hx hb (lay_9 hts) (fun _ h => h) hown hK hB.1 0 rfl rfl 6 (by decide) (tk_969 hts) (fun _ h => h) rfl dX9_init_124 ?_
  refine lv_iload_n hx hb dX9_init_127 rfl (lv_at hl 0 rfl) ?_
  refine lv_iconst (v := 1) hx hb dX9_init_128 (by decide) ?_
  refine lv_isub hx hb dX9_init_129 ?_
  refine s_nm (show ((15 : Int32) - 1) = 14 from by decide +kernel) ?_
  refine va_iald hx hb hK hB.1 5 0 rfl rfl (i := 14) (show ix 14 25 from by decide) dX9_init_130 ?_
  refine s_nm (show (upd (upd (upd (upd (upd (upd (upd (upd (upd (upd (upd (upd (upd (upd (upd (fun _ => 0) 0 8) 1 10) 2 12) 3 15) 4 18) 5 22) 6 27) 7 33) 8 41) 9 51) 10 63) 11 78) 12 97) 13 121) 14 151) (Int32.toNatClampNeg 14) = 151 from by decide +kernel) ?_
  refine lv_imul hx hb dX9_init_131 ?_
  refine s_nm (show ((5 : Int32) * 151) = 755 from by decide +kernel) ?_
  refine lv_iconst (v := 4) hx hb dX9_init_132 (by decide) ?_
  refine lv_idiv hx hb dX9_init_133 (by decide) ?_
  refine s_nm (show ((755 : Int32) / 4) = 188 from by decide +kernel) ?_
  refine b_ist (t0 := 0) hx hb hK hB 5 rfl rfl (i := 15) (by decide) dX9_init_134 (fun H locs hB => ?_)
  replace hB : Bd G a0 10 [(a0, .inr (9, [.ref (a0 + 1), .ref (a0 + 2), .int 0, .ref (a0 + 3), .int 0, .ref (a0 + 4), .ref (a0 + 5), .int 0, .ref (a0 + 6), .int 0, .int 0, .int 0, .ref (a0 + 7), .ref (a0 + 8), .ref (a0 + 9), .long 0])), (a0 + 1, .inl (gC G 0, 626, .inl (upd (upd (upd (fun _ => 0) 0 1) 2 4) 3 3))), (a0 + 2, .inl (gC G 0, 3756, .inl (fun _ => 0))), (a0 + 3, .inl (gC G 0, 626, .inl (fun _ => 0))), (a0 + 4, .inl (gC G 0, 626, .inl (fun _ => 0))), (a0 + 5, .inl (gC G 0, 25, .inl (upd (upd (upd (upd (upd (upd (upd (upd (upd (upd (upd (upd (upd (upd (upd (upd (fun _ => 0) 0 8) 1 10) 2 12) 3 15) 4 18) 5 22) 6 27) 7 33) 8 41) 9 51) 10 63) 11 78) 12 97) 13 121) 14 151) 15 188))), (a0 + 6, .inl (gC G 0, 60, .inl (fun _ => 0))), (a0 + 7, .inl (gC G 0, 32, .inl (fun _ => 0))), (a0 + 8, .inl (gC G 0, 32, .inl (fun _ => 0))), (a0 + 9, .inl (gC G 0, 32, .inl (fun _ => 0)))] s.heap H _ := hB
  refine lv_iinc (v := 16) (lv' := [(1, .int 16), (0, .ref a0)]) hx hb dX9_init_135 hl (k := 0) rfl (by decide) (by decide) rfl (fun ls hl => ?_)
  refine lv_goto (tgt := 111) hx hb dX9_init_138 (by decide) ?_
  refine lv_iload_n hx hb dX9_init_111 rfl (lv_at hl 0 rfl) ?_
  refine lv_bipush (v := 24) hx hb dX9_init_112 (by decide) ?_
  refine lv_icmp_gt (tgt := 141) hx hb dX9_init_114 (by decide) (fun g => absurd g (by decide)) (fun _ => ?_)
  refine lv_aload_n hx hb dX9_init_117 rfl (lv_at hl 1 rfl) ?_
  refine va_get hx hb (lay_9 hts) (fun _ h => h) hown hK hB.1 0 rfl rfl 6 (by decide) (tk_969 hts) (fun _ h => h) rfl dX9_init_118 ?_
  refine lv_iload_n hx hb dX9_init_121 rfl (lv_at hl 0 rfl) ?_
  refine lv_iconst (v := 5) hx hb dX9_init_122 (by decide) ?_
  refine lv_aload_n hx hb dX9_init_123 rfl (lv_at hl 1 rfl) ?_
  refine va_get hx hb (lay_9 hts) (fun _ h => h) hown hK hB.1 0 rfl rfl 6 (by decide) (tk_969 hts) (fun _ h => h) rfl dX9_init_124 ?_
  refine lv_iload_n hx hb dX9_init_127 rfl (lv_at hl 0 rfl) ?_
  refine lv_iconst (v := 1) hx hb dX9_init_128 (by decide) ?_
  refine lv_isub hx hb dX9_init_129 ?_
  refine s_nm (show ((16 : Int32) - 1) = 15 from by decide +kernel) ?_
  refine va_iald hx hb hK hB.1 5 0 rfl rfl (i := 15) (show ix 15 25 from by decide) dX9_init_130 ?_
  refine s_nm (show (upd (upd (upd (upd (upd (upd (upd (upd (upd (upd (upd (upd (upd (upd (upd (upd (fun _ => 0) 0 8) 1 10) 2 12) 3 15) 4 18) 5 22) 6 27) 7 33) 8 41) 9 51) 10 63) 11 78) 12 97) 13 121) 14 151) 15 188) (Int32.toNatClampNeg 15) = 188 from by decide +kernel) ?_
  refine lv_imul hx hb dX9_init_131 ?_
  refine s_nm (show ((5 : Int32) * 188) = 940 from by decide +kernel) ?_
  refine lv_iconst (v := 4) hx hb dX9_init_132 (by decide) ?_
  refine lv_idiv hx hb dX9_init_133 (by decide) ?_
  refine s_nm (show ((940 : Int32) / 4) = 235 from by decide +kernel) ?_
  refine b_ist (t0 := 0) hx hb hK hB 5 rfl rfl (i := 16) (by decide) dX9_init_134 (fun H locs hB => ?_)
  replace hB : Bd G a0 10 [(a0, .inr (9, [.ref (a0 + 1), .ref (a0 + 2), .int 0, .ref (a0 + 3), .int 0, .ref (a0 + 4), .ref (a0 + 5), .int 0, .ref (a0 + 6), .int 0, .int 0, .int 0, .ref (a0 + 7), .ref (a0 + 8), .ref (a0 + 9), .long 0])), (a0 + 1, .inl (gC G 0, 626, .inl (upd (upd (upd (fun _ => 0) 0 1) 2 4) 3 3))), (a0 + 2, .inl (gC G 0, 3756, .inl (fun _ => 0))), (a0 + 3, .inl (gC G 0, 626, .inl (fun _ => 0))), (a0 + 4, .inl (gC G 0, 626, .inl (fun _ => 0))), (a0 + 5, .inl (gC G 0, 25, .inl (upd (upd (upd (upd (upd (upd (upd (upd (upd (upd (upd (upd (upd (upd (upd (upd (upd (fun _ => 0) 0 8) 1 10) 2 12) 3 15) 4 18) 5 22) 6 27) 7 33) 8 41) 9 51) 10 63) 11 78) 12 97) 13 121) 14 151) 15 188) 16 235))), (a0 + 6, .inl (gC G 0, 60, .inl (fun _ => 0))), (a0 + 7, .inl (gC G 0, 32, .inl (fun _ => 0))), (a0 + 8, .inl (gC G 0, 32, .inl (fun _ => 0))), (a0 + 9, .inl (gC G 0, 32, .inl (fun _ => 0)))] s.heap H _ := hB
  refine lv_iinc (v := 17) (lv' := [(1, .int 17), (0, .ref a0)]) hx hb dX9_init_135 hl (k := 0) rfl (by decide) (by decide) rfl (fun ls hl => ?_)
  refine lv_goto (tgt := 111) hx hb dX9_init_138 (by decide) ?_
  refine lv_iload_n hx hb dX9_init_111 rfl (lv_at hl 0 rfl) ?_
  refine lv_bipush (v := 24) hx hb dX9_init_112 (by decide) ?_
  refine lv_icmp_gt (tgt := 141) hx hb dX9_init_114 (by decide) (fun g => absurd g (by decide)) (fun _ => ?_)
  refine lv_aload_n hx hb dX9_init_117 rfl (lv_at hl 1 rfl) ?_
  refine va_get hx hb (lay_9 hts) (fun _ h => h) hown hK hB.1 0 rfl rfl 6 (by decide) (tk_969 hts) (fun _ h => h) rfl dX9_init_118 ?_
  refine lv_iload_n hx hb dX9_init_121 rfl (lv_at hl 0 rfl) ?_
  refine lv_iconst (v := 5) hx hb dX9_init_122 (by decide) ?_
  refine lv_aload_n hx hb dX9_init_123 rfl (lv_at hl 1 rfl) ?_
  refine va_get hx hb (lay_9 hts) (fun _ h => h) hown hK hB.1 0 rfl rfl 6 (by decide) (tk_969 hts) (fun _ h => h) rfl dX9_init_124 ?_
  refine lv_iload_n hx hb dX9_init_127 rfl (lv_at hl 0 rfl) ?_
  refine lv_iconst (v := 1) hx hb dX9_init_128 (by decide) ?_
  refine lv_isub hx hb dX9_init_129 ?_
  refine s_nm (show ((17 : Int32) - 1) = 16 from by decide +kernel) ?_
  refine va_iald hx hb hK hB.1 5 0 rfl rfl (i := 16) (show ix 16 25 from by decide) dX9_init_130 ?_
  refine s_nm (show (upd (upd (upd (upd (upd (upd (upd (upd (upd (upd (upd (upd (upd (upd (upd (upd (upd (fun _ => 0) 0 8) 1 10) 2 12) 3 15) 4 18) 5 22) 6 27) 7 33) 8 41) 9 51) 10 63) 11 78) 12 97) 13 121) 14 151) 15 188) 16 235) (Int32.toNatClampNeg 16) = 235 from by decide +kernel) ?_
  refine lv_imul hx hb dX9_init_131 ?_
  refine s_nm (show ((5 : Int32) * 235) = 1175 from by decide +kernel) ?_
  refine lv_iconst (v := 4) hx hb dX9_init_132 (by decide) ?_
  refine lv_idiv hx hb dX9_init_133 (by decide) ?_
  refine s_nm (show ((1175 : Int32) / 4) = 293 from by decide +kernel) ?_
  refine b_ist (t0 := 0) hx hb hK hB 5 rfl rfl (i := 17) (by decide) dX9_init_134 (fun H locs hB => ?_)
  replace hB : Bd G a0 10 [(a0, .inr (9, [.ref (a0 + 1), .ref (a0 + 2), .int 0, .ref (a0 + 3), .int 0, .ref (a0 + 4), .ref (a0 + 5), .int 0, .ref (a0 + 6), .int 0, .int 0, .int 0, .ref (a0 + 7), .ref (a0 + 8), .ref (a0 + 9), .long 0])), (a0 + 1, .inl (gC G 0, 626, .inl (upd (upd (upd (fun _ => 0) 0 1) 2 4) 3 3))), (a0 + 2, .inl (gC G 0, 3756, .inl (fun _ => 0))), (a0 + 3, .inl (gC G 0, 626, .inl (fun _ => 0))), (a0 + 4, .inl (gC G 0, 626, .inl (fun _ => 0))), (a0 + 5, .inl (gC G 0, 25, .inl (upd (upd (upd (upd (upd (upd (upd (upd (upd (upd (upd (upd (upd (upd (upd (upd (upd (upd (fun _ => 0) 0 8) 1 10) 2 12) 3 15) 4 18) 5 22) 6 27) 7 33) 8 41) 9 51) 10 63) 11 78) 12 97) 13 121) 14 151) 15 188) 16 235) 17 293))), (a0 + 6, .inl (gC G 0, 60, .inl (fun _ => 0))), (a0 + 7, .inl (gC G 0, 32, .inl (fun _ => 0))), (a0 + 8, .inl (gC G 0, 32, .inl (fun _ => 0))), (a0 + 9, .inl (gC G 0, 32, .inl (fun _ => 0)))] s.heap H _ := hB
  refine lv_iinc (v := 18) (lv' := [(1, .int 18), (0, .ref a0)]) hx hb dX9_init_135 hl (k := 0) rfl (by decide) (by decide) rfl (fun ls hl => ?_)
  refine lv_goto (tgt := 111) hx hb dX9_init_138 (by decide) ?_
  refine lv_iload_n hx hb dX9_init_111 rfl (lv_at hl 0 rfl) ?_
  refine lv_bipush (v := 24) hx hb dX9_init_112 (by decide) ?_
  refine lv_icmp_gt (tgt := 141) hx hb dX9_init_114 (by decide) (fun g => absurd g (by decide)) (fun _ => ?_)
  refine lv_aload_n hx hb dX9_init_117 rfl (lv_at hl 1 rfl) ?_
  refine va_get hx hb (lay_9 hts) (fun _ h => h) hown hK hB.1 0 rfl rfl 6 (by decide) (tk_969 hts) (fun _ h => h) rfl dX9_init_118 ?_
  refine lv_iload_n hx hb dX9_init_121 rfl (lv_at hl 0 rfl) ?_
  refine lv_iconst (v := 5) hx hb dX9_init_122 (by decide) ?_
  refine lv_aload_n hx hb dX9_init_123 rfl (lv_at hl 1 rfl) ?_
  refine va_get hx hb (lay_9 hts) (fun _ h => h) hown hK hB.1 0 rfl rfl 6 (by decide) (tk_969 hts) (fun _ h => h) rfl dX9_init_124 ?_
  refine lv_iload_n hx hb dX9_init_127 rfl (lv_at hl 0 rfl) ?_
  refine lv_iconst (v := 1) hx hb dX9_init_128 (by decide) ?_
  refine lv_isub hx hb dX9_init_129 ?_
  refine s_nm (show ((18 : Int32) - 1) = 17 from by decide +kernel) ?_
  refine va_iald hx hb hK hB.1 5 0 rfl rfl (i := 17) (show ix 17 25 from by decide) dX9_init_130 ?_
  refine s_nm (show (upd (upd (upd (upd (upd (upd (upd (upd (upd (upd (upd (upd (upd (upd (upd (upd (upd (upd (fun _ => 0) 0 8) 1 10) 2 12) 3 15) 4 18) 5 22) 6 27) 7 33) 8 41) 9 51) 10 63) 11 78) 12 97) 13 121) 14 151) 15 188) 16 235) 17 293) (Int32.toNatClampNeg 17) = 293 from by decide +kernel) ?_
  refine lv_imul hx hb dX9_init_131 ?_
  refine s_nm (show ((5 : Int32) * 293) = 1465 from by decide +kernel) ?_
  refine lv_iconst (v := 4) hx hb dX9_init_132 (by decide) ?_
  refine lv_idiv hx hb dX9_init_133 (by decide) ?_
  refine s_nm (show ((1465 : Int32) / 4) = 366 from by decide +kernel) ?_
  refine b_ist (t0 := 0) hx hb hK hB 5 rfl rfl (i := 18) (by decide) dX9_init_134 (fun H locs hB => ?_)
  replace hB : Bd G a0 10 [(a0, .inr (9, [.ref (a0 + 1), .ref (a0 + 2), .int 0, .ref (a0 + 3), .int 0, .ref (a0 + 4), .ref (a0 + 5), .int 0, .ref (a0 + 6), .int 0, .int 0, .int 0, .ref (a0 + 7), .ref (a0 + 8), .ref (a0 + 9), .long 0])), (a0 + 1, .inl (gC G 0, 626, .inl (upd (upd (upd (fun _ => 0) 0 1) 2 4) 3 3))), (a0 + 2, .inl (gC G 0, 3756, .inl (fun _ => 0))), (a0 + 3, .inl (gC G 0, 626, .inl (fun _ => 0))), (a0 + 4, .inl (gC G 0, 626, .inl (fun _ => 0))), (a0 + 5, .inl (gC G 0, 25, .inl (upd (upd (upd (upd (upd (upd (upd (upd (upd (upd (upd (upd (upd (upd (upd (upd (upd (upd (upd (fun _ => 0) 0 8) 1 10) 2 12) 3 15) 4 18) 5 22) 6 27) 7 33) 8 41) 9 51) 10 63) 11 78) 12 97) 13 121) 14 151) 15 188) 16 235) 17 293) 18 366))), (a0 + 6, .inl (gC G 0, 60, .inl (fun _ => 0))), (a0 + 7, .inl (gC G 0, 32, .inl (fun _ => 0))), (a0 + 8, .inl (gC G 0, 32, .inl (fun _ => 0))), (a0 + 9, .inl (gC G 0, 32, .inl (fun _ => 0)))] s.heap H _ := hB
  refine lv_iinc (v := 19) (lv' := [(1, .int 19), (0, .ref a0)]) hx hb dX9_init_135 hl (k := 0) rfl (by decide) (by decide) rfl (fun ls hl => ?_)
  refine lv_goto (tgt := 111) hx hb dX9_init_138 (by decide) ?_
  refine lv_iload_n hx hb dX9_init_111 rfl (lv_at hl 0 rfl) ?_
  refine lv_bipush (v := 24) hx hb dX9_init_112 (by decide) ?_
  refine lv_icmp_gt (tgt := 141) hx hb dX9_init_114 (by decide) (fun g => absurd g (by decide)) (fun _ => ?_)
  refine lv_aload_n hx hb dX9_init_117 rfl (lv_at hl 1 rfl) ?_
  refine va_get hx hb (lay_9 hts) (fun _ h => h) hown hK hB.1 0 rfl rfl 6 (by decide) (tk_969 hts) (fun _ h => h) rfl dX9_init_118 ?_
  refine lv_iload_n hx hb dX9_init_121 rfl (lv_at hl 0 rfl) ?_
  refine lv_iconst (v := 5) hx hb dX9_init_122 (by decide) ?_
  refine lv_aload_n hx hb dX9_init_123 rfl (lv_at hl 1 rfl) ?_
  refine va_get hx hb (lay_9 hts) (fun _ h => h) hown hK hB.1 0 rfl rfl 6 (by decide) (tk_969 hts) (fun _ h => h) rfl dX9_init_124 ?_
  refine lv_iload_n hx hb dX9_init_127 rfl (lv_at hl 0 rfl) ?_
  refine lv_iconst (v := 1) hx hb dX9_init_128 (by decide) ?_
  refine lv_isub hx hb dX9_init_129 ?_
  refine s_nm (show ((19 : Int32) - 1) = 18 from by decide +kernel) ?_
  refine va_iald hx hb hK hB.1 5 0 rfl rfl (i := 18) (show ix 18 25 from by decide) dX9_init_130 ?_
  refine s_nm (show (upd (upd (upd (upd (upd (upd (upd (upd (upd (upd (upd (upd (upd (upd (upd (upd (upd (upd (upd (fun _ => 0) 0 8) 1 10) 2 12) 3 15) 4 18) 5 22) 6 27) 7 33) 8 41) 9 51) 10 63) 11 78) 12 97) 13 121) 14 151) 15 188) 16 235) 17 293) 18 366) (Int32.toNatClampNeg 18) = 366 from by decide +kernel) ?_
  refine lv_imul hx hb dX9_init_131 ?_
  refine s_nm (show ((5 : Int32) * 366) = 1830 from by decide +kernel) ?_
  refine lv_iconst (v := 4) hx hb dX9_init_132 (by decide) ?_
  refine lv_idiv hx hb dX9_init_133 (by decide) ?_
  refine s_nm (show ((1830 : Int32) / 4) = 457 from by decide +kernel) ?_
  refine b_ist (t0 := 0) hx hb hK hB 5 rfl rfl (i := 19) (by decide) dX9_init_134 (fun H locs hB => ?_)
  replace hB : Bd G a0 10 [(a0, .inr (9, [.ref (a0 + 1), .ref (a0 + 2), .int 0, .ref (a0 + 3), .int 0, .ref (a0 + 4), .ref (a0 + 5), .int 0, .ref (a0 + 6), .int 0, .int 0, .int 0, .ref (a0 + 7), .ref (a0 + 8), .ref (a0 + 9), .long 0])), (a0 + 1, .inl (gC G 0, 626, .inl (upd (upd (upd (fun _ => 0) 0 1) 2 4) 3 3))), (a0 + 2, .inl (gC G 0, 3756, .inl (fun _ => 0))), (a0 + 3, .inl (gC G 0, 626, .inl (fun _ => 0))), (a0 + 4, .inl (gC G 0, 626, .inl (fun _ => 0))), (a0 + 5, .inl (gC G 0, 25, .inl (upd (upd (upd (upd (upd (upd (upd (upd (upd (upd (upd (upd (upd (upd (upd (upd (upd (upd (upd (upd (fun _ => 0) 0 8) 1 10) 2 12) 3 15) 4 18) 5 22) 6 27) 7 33) 8 41) 9 51) 10 63) 11 78) 12 97) 13 121) 14 151) 15 188) 16 235) 17 293) 18 366) 19 457))), (a0 + 6, .inl (gC G 0, 60, .inl (fun _ => 0))), (a0 + 7, .inl (gC G 0, 32, .inl (fun _ => 0))), (a0 + 8, .inl (gC G 0, 32, .inl (fun _ => 0))), (a0 + 9, .inl (gC G 0, 32, .inl (fun _ => 0)))] s.heap H _ := hB
  refine lv_iinc (v := 20) (lv' := [(1, .int 20), (0, .ref a0)]) hx hb dX9_init_135 hl (k := 0) rfl (by decide) (by decide) rfl (fun ls hl => ?_)
  refine lv_goto (tgt := 111) hx hb dX9_init_138 (by decide) ?_
  refine lv_iload_n hx hb dX9_init_111 rfl (lv_at hl 0 rfl) ?_
  refine lv_bipush (v := 24) hx hb dX9_init_112 (by decide) ?_
  refine lv_icmp_gt (tgt := 141) hx hb dX9_init_114 (by decide) (fun g => absurd g (by decide)) (fun _ => ?_)
  refine lv_aload_n hx hb dX9_init_117 rfl (lv_at hl 1 rfl) ?_
  refine va_get hx hb (lay_9 hts) (fun _ h => h) hown hK hB.1 0 rfl rfl 6 (by decide) (tk_969 hts) (fun _ h => h) rfl dX9_init_118 ?_
  refine lv_iload_n hx hb dX9_init_121 rfl (lv_at hl 0 rfl) ?_
  refine lv_iconst (v := 5) hx hb dX9_init_122 (by decide) ?_
  refine lv_aload_n hx hb dX9_init_123 rfl (lv_at hl 1 rfl) ?_
  refine va_get hx hb (lay_9 hts) (fun _ h => h) hown hK hB.1 0 rfl rfl 6 (by decide) (tk_969 hts) (fun _ h => h) rfl dX9_init_124 ?_
  refine lv_iload_n hx hb dX9_init_127 rfl (lv_at hl 0 rfl) ?_
  refine lv_iconst (v := 1) hx hb dX9_init_128 (by decide) ?_
  refine lv_isub hx hb dX9_init_129 ?_
  refine s_nm (show ((20 : Int32) - 1) = 19 from by decide +kernel) ?_
  refine va_iald hx hb hK hB.1 5 0 rfl rfl (i := 19) (show ix 19 25 from by decide) dX9_init_130 ?_
  refine s_nm (show (upd (upd (upd (upd (upd (upd (upd (upd (upd (upd (upd (upd (upd (upd (upd (upd (upd (upd (upd (upd (fun _ => 0) 0 8) 1 10) 2 12) 3 15) 4 18) 5 22) 6 27) 7 33) 8 41) 9 51) 10 63) 11 78) 12 97) 13 121) 14 151) 15 188) 16 235) 17 293) 18 366) 19 457) (Int32.toNatClampNeg 19) = 457 from by decide +kernel) ?_
  refine lv_imul hx hb dX9_init_131 ?_
  refine s_nm (show ((5 : Int32) * 457) = 2285 from by decide +kernel) ?_
  refine lv_iconst (v := 4) hx hb dX9_init_132 (by decide) ?_
  refine lv_idiv hx hb dX9_init_133 (by decide) ?_
  refine s_nm (show ((2285 : Int32) / 4) = 571 from by decide +kernel) ?_
  refine b_ist (t0 := 0) hx hb hK hB 5 rfl rfl (i := 20) (by decide) dX9_init_134 (fun H locs hB => ?_)
  replace hB : Bd G a0 10 [(a0, .inr (9, [.ref (a0 + 1), .ref (a0 + 2), .int 0, .ref (a0 + 3), .int 0, .ref (a0 + 4), .ref (a0 + 5), .int 0, .ref (a0 + 6), .int 0, .int 0, .int 0, .ref (a0 + 7), .ref (a0 + 8), .ref (a0 + 9), .long 0])), (a0 + 1, .inl (gC G 0, 626, .inl (upd (upd (upd (fun _ => 0) 0 1) 2 4) 3 3))), (a0 + 2, .inl (gC G 0, 3756, .inl (fun _ => 0))), (a0 + 3, .inl (gC G 0, 626, .inl (fun _ => 0))), (a0 + 4, .inl (gC G 0, 626, .inl (fun _ => 0))), (a0 + 5, .inl (gC G 0, 25, .inl (upd (upd (upd (upd (upd (upd (upd (upd (upd (upd (upd (upd (upd (upd (upd (upd (upd (upd (upd (upd (upd (fun _ => 0) 0 8) 1 10) 2 12) 3 15) 4 18) 5 22) 6 27) 7 33) 8 41) 9 51) 10 63) 11 78) 12 97) 13 121) 14 151) 15 188) 16 235) 17 293) 18 366) 19 457) 20 571))), (a0 + 6, .inl (gC G 0, 60, .inl (fun _ => 0))), (a0 + 7, .inl (gC G 0, 32, .inl (fun _ => 0))), (a0 + 8, .inl (gC G 0, 32, .inl (fun _ => 0))), (a0 + 9, .inl (gC G 0, 32, .inl (fun _ => 0)))] s.heap H _ := hB
  refine lv_iinc (v := 21) (lv' := [(1, .int 21), (0, .ref a0)]) hx hb dX9_init_135 hl (k := 0) rfl (by decide) (by decide) rfl (fun ls hl => ?_)
  refine lv_goto (tgt := 111) hx hb dX9_init_138 (by decide) ?_
  refine lv_iload_n hx hb dX9_init_111 rfl (lv_at hl 0 rfl) ?_
  refine lv_bipush (v := 24) hx hb dX9_init_112 (by decide) ?_
  refine lv_icmp_gt (tgt := 141) hx hb dX9_init_114 (by decide) (fun g => absurd g (by decide)) (fun _ => ?_)
  refine lv_aload_n hx hb dX9_init_117 rfl (lv_at hl 1 rfl) ?_
  refine va_get hx hb (lay_9 hts) (fun _ h => h) hown hK hB.1 0 rfl rfl 6 (by decide) (tk_969 hts) (fun _ h => h) rfl dX9_init_118 ?_
  refine lv_iload_n hx hb dX9_init_121 rfl (lv_at hl 0 rfl) ?_
  refine lv_iconst (v := 5) hx hb dX9_init_122 (by decide) ?_
  refine lv_aload_n hx hb dX9_init_123 rfl (lv_at hl 1 rfl) ?_
  refine va_get hx hb (lay_9 hts) (fun _ h => h) hown hK hB.1 0 rfl rfl 6 (by decide) (tk_969 hts) (fun _ h => h) rfl dX9_init_124 ?_
  refine lv_iload_n hx hb dX9_init_127 rfl (lv_at hl 0 rfl) ?_
  refine lv_iconst (v := 1) hx hb dX9_init_128 (by decide) ?_
  refine lv_isub hx hb dX9_init_129 ?_
  refine s_nm (show ((21 : Int32) - 1) = 20 from by decide +kernel) ?_
  refine va_iald hx hb hK hB.1 5 0 rfl rfl (i := 20) (show ix 20 25 from by decide) dX9_init_130 ?_
  refine s_nm (show (upd (upd (upd (upd (upd (upd (upd (upd (upd (upd (upd (upd (upd (upd (upd (upd (upd (upd (upd (upd (upd (fun _ => 0) 0 8) 1 10) 2 12) 3 15) 4 18) 5 22) 6 27) 7 33) 8 41) 9 51) 10 63) 11 78) 12 97) 13 121) 14 151) 15 188) 16 235) 17 293) 18 366) 19 457) 20 571) (Int32.toNatClampNeg 20) = 571 from by decide +kernel) ?_
  refine lv_imul hx hb dX9_init_131 ?_
  refine s_nm (show ((5 : Int32) * 571) = 2855 from by decide +kernel) ?_
  refine lv_iconst (v := 4) hx hb dX9_init_132 (by decide) ?_
  refine lv_idiv hx hb dX9_init_133 (by decide) ?_
  refine s_nm (show ((2855 : Int32) / 4) = 713 from by decide +kernel) ?_
  refine b_ist (t0 := 0) hx hb hK hB 5 rfl rfl (i := 21) (by decide) dX9_init_134 (fun H locs hB => ?_)
  replace hB : Bd G a0 10 [(a0, .inr (9, [.ref (a0 + 1), .ref (a0 + 2), .int 0, .ref (a0 + 3), .int 0, .ref (a0 + 4), .ref (a0 + 5), .int 0, .ref (a0 + 6), .int 0, .int 0, .int 0, .ref (a0 + 7), .ref (a0 + 8), .ref (a0 + 9), .long 0])), (a0 + 1, .inl (gC G 0, 626, .inl (upd (upd (upd (fun _ => 0) 0 1) 2 4) 3 3))), (a0 + 2, .inl (gC G 0, 3756, .inl (fun _ => 0))), (a0 + 3, .inl (gC G 0, 626, .inl (fun _ => 0))), (a0 + 4, .inl (gC G 0, 626, .inl (fun _ => 0))), (a0 + 5, .inl (gC G 0, 25, .inl (upd (upd (upd (upd (upd (upd (upd (upd (upd (upd (upd (upd (upd (upd (upd (upd (upd (upd (upd (upd (upd (upd (fun _ => 0) 0 8) 1 10) 2 12) 3 15) 4 18) 5 22) 6 27) 7 33) 8 41) 9 51) 10 63) 11 78) 12 97) 13 121) 14 151) 15 188) 16 235) 17 293) 18 366) 19 457) 20 571) 21 713))), (a0 + 6, .inl (gC G 0, 60, .inl (fun _ => 0))), (a0 + 7, .inl (gC G 0, 32, .inl (fun _ => 0))), (a0 + 8, .inl (gC G 0, 32, .inl (fun _ => 0))), (a0 + 9, .inl (gC G 0, 32, .inl (fun _ => 0)))] s.heap H _ := hB
  refine lv_iinc (v := 22) (lv' := [(1, .int 22), (0, .ref a0)]) hx hb dX9_init_135 hl (k := 0) rfl (by decide) (by decide) rfl (fun ls hl => ?_)
  refine lv_goto (tgt := 111) hx hb dX9_init_138 (by decide) ?_
  refine lv_iload_n hx hb dX9_init_111 rfl (lv_at hl 0 rfl) ?_
  refine lv_bipush (v := 24) hx hb dX9_init_112 (by decide) ?_
  refine lv_icmp_gt (tgt := 141) hx hb dX9_init_114 (by decide) (fun g => absurd g (by decide)) (fun _ => ?_)
  refine lv_aload_n hx hb dX9_init_117 rfl (lv_at hl 1 rfl) ?_
  refine va_get hx hb (lay_9 hts) (fun _ h => h) hown hK hB.1 0 rfl rfl 6 (by decide) (tk_969 hts) (fun _ h => h) rfl dX9_init_118 ?_
  refine lv_iload_n hx hb dX9_init_121 rfl (lv_at hl 0 rfl) ?_
  refine lv_iconst (v := 5) hx hb dX9_init_122 (by decide) ?_
  refine lv_aload_n hx hb dX9_init_123 rfl (lv_at hl 1 rfl) ?_
  refine va_get hx hb (lay_9 hts) (fun _ h => h) hown hK hB.1 0 rfl rfl 6 (by decide) (tk_969 hts) (fun _ h => h) rfl dX9_init_124 ?_
  refine lv_iload_n hx hb dX9_init_127 rfl (lv_at hl 0 rfl) ?_
  refine lv_iconst (v := 1) hx hb dX9_init_128 (by decide) ?_
  refine lv_isub hx hb dX9_init_129 ?_
  refine s_nm (show ((22 : Int32) - 1) = 21 from by decide +kernel) ?_
  refine va_iald hx hb hK hB.1 5 0 rfl rfl (i := 21) (show ix 21 25 from by decide) dX9_init_130 ?_
  refine s_nm (show (upd (upd (upd (upd (upd (upd (upd (upd (upd (upd (upd (upd (upd (upd (upd (upd (upd (upd (upd (upd (upd (upd (fun _ => 0) 0 8) 1 10) 2 12) 3 15) 4 18) 5 22) 6 27) 7 33) 8 41) 9 51) 10 63) 11 78) 12 97) 13 121) 14 151) 15 188) 16 235) 17 293) 18 366) 19 457) 20 571) 21 713) (Int32.toNatClampNeg 21) = 713 from by decide +kernel) ?_
  refine lv_imul hx hb dX9_init_131 ?_
  refine s_nm (show ((5 : Int32) * 713) = 3565 from by decide +kernel) ?_
  refine lv_iconst (v := 4) hx hb dX9_init_132 (by decide) ?_
  refine lv_idiv hx hb dX9_init_133 (by decide) ?_
  refine s_nm (show ((3565 : Int32) / 4) = 891 from by decide +kernel) ?_
  refine b_ist (t0 := 0) hx hb hK hB 5 rfl rfl (i := 22) (by decide) dX9_init_134 (fun H locs hB => ?_)
  replace hB : Bd G a0 10 [(a0, .inr (9, [.ref (a0 + 1), .ref (a0 + 2), .int 0, .ref (a0 + 3), .int 0, .ref (a0 + 4), .ref (a0 + 5), .int 0, .ref (a0 + 6), .int 0, .int 0, .int 0, .ref (a0 + 7), .ref (a0 + 8), .ref (a0 + 9), .long 0])), (a0 + 1, .inl (gC G 0, 626, .inl (upd (upd (upd (fun _ => 0) 0 1) 2 4) 3 3))), (a0 + 2, .inl (gC G 0, 3756, .inl (fun _ => 0))), (a0 + 3, .inl (gC G 0, 626, .inl (fun _ => 0))), (a0 + 4, .inl (gC G 0, 626, .inl (fun _ => 0))), (a0 + 5, .inl (gC G 0, 25, .inl (upd (upd (upd (upd (upd (upd (upd (upd (upd (upd (upd (upd (upd (upd (upd (upd (upd (upd (upd (upd (upd (upd (upd (fun _ => 0) 0 8) 1 10) 2 12) 3 15) 4 18) 5 22) 6 27) 7 33) 8 41) 9 51) 10 63) 11 78) 12 97) 13 121) 14 151) 15 188) 16 235) 17 293) 18 366) 19 457) 20 571) 21 713) 22 891))), (a0 + 6, .inl (gC G 0, 60, .inl (fun _ => 0))), (a0 + 7, .inl (gC G 0, 32, .inl (fun _ => 0))), (a0 + 8, .inl (gC G 0, 32, .inl (fun _ => 0))), (a0 + 9, .inl (gC G 0, 32, .inl (fun _ => 0)))] s.heap H _ := hB
  refine lv_iinc (v := 23) (lv' := [(1, .int 23), (0, .ref a0)]) hx hb dX9_init_135 hl (k := 0) rfl (by decide) (by decide) rfl (fun ls hl => ?_)
  refine lv_goto (tgt := 111) hx hb dX9_init_138 (by decide) ?_
  refine lv_iload_n hx hb dX9_init_111 rfl (lv_at hl 0 rfl) ?_
  refine lv_bipush (v := 24) hx hb dX9_init_112 (by decide) ?_
  refine lv_icmp_gt (tgt := 141) hx hb dX9_init_114 (by decide) (fun g => absurd g (by decide)) (fun _ => ?_)
  refine lv_aload_n hx hb dX9_init_117 rfl (lv_at hl 1 rfl) ?_
  refine va_get hx hb (lay_9 hts) (fun _ h => h) hown hK hB.1 0 rfl rfl 6 (by decide) (tk_969 hts) (fun _ h => h) rfl dX9_init_118 ?_
  refine lv_iload_n hx hb dX9_init_121 rfl (lv_at hl 0 rfl) ?_
  refine lv_iconst (v := 5) hx hb dX9_init_122 (by decide) ?_
  refine lv_aload_n hx hb dX9_init_123 rfl (lv_at hl 1 rfl) ?_
  refine va_get hx hb (lay_9 hts) (fun _ h => h) hown hK hB.1 0 rfl rfl 6 (by decide) (tk_969 hts) (fun _ h => h) rfl dX9_init_124 ?_
  refine lv_iload_n hx hb dX9_init_127 rfl (lv_at hl 0 rfl) ?_
  refine lv_iconst (v := 1) hx hb dX9_init_128 (by decide) ?_
  refine lv_isub hx hb dX9_init_129 ?_
  refine s_nm (show ((23 : Int32) - 1) = 22 from by decide +kernel) ?_
  refine va_iald hx hb hK hB.1 5 0 rfl rfl (i := 22) (show ix 22 25 from by decide) dX9_init_130 ?_
  refine s_nm (show (upd (upd (upd (upd (upd (upd (upd (upd (upd (upd (upd (upd (upd (upd (upd (upd (upd (upd (upd (upd (upd (upd (upd (fun _ => 0) 0 8) 1 10) 2 12) 3 15) 4 18) 5 22) 6 27) 7 33) 8 41) 9 51) 10 63) 11 78) 12 97) 13 121) 14 151) 15 188) 16 235) 17 293) 18 366) 19 457) 20 571) 21 713) 22 891) (Int32.toNatClampNeg 22) = 891 from by decide +kernel) ?_
  refine lv_imul hx hb dX9_init_131 ?_
  refine s_nm (show ((5 : Int32) * 891) = 4455 from by decide +kernel) ?_
  refine lv_iconst (v := 4) hx hb dX9_init_132 (by decide) ?_
  refine lv_idiv hx hb dX9_init_133 (by decide) ?_
  refine s_nm (show ((4455 : Int32) / 4) = 1113 from by decide +kernel) ?_
  refine b_ist (t0 := 0) hx hb hK hB 5 rfl rfl (i := 23) (by decide) dX9_init_134 (fun H locs hB => ?_)
  replace hB : Bd G a0 10 [(a0, .inr (9, [.ref (a0 + 1), .ref (a0 + 2), .int 0, .ref (a0 + 3), .int 0, .ref (a0 + 4), .ref (a0 + 5), .int 0, .ref (a0 + 6), .int 0, .int 0, .int 0, .ref (a0 + 7), .ref (a0 + 8), .ref (a0 + 9), .long 0])), (a0 + 1, .inl (gC G 0, 626, .inl (upd (upd (upd (fun _ => 0) 0 1) 2 4) 3 3))), (a0 + 2, .inl (gC G 0, 3756, .inl (fun _ => 0))), (a0 + 3, .inl (gC G 0, 626, .inl (fun _ => 0))), (a0 + 4, .inl (gC G 0, 626, .inl (fun _ => 0))), (a0 + 5, .inl (gC G 0, 25, .inl (upd (upd (upd (upd (upd (upd (upd (upd (upd (upd (upd (upd (upd (upd (upd (upd (upd (upd (upd (upd (upd (upd (upd (upd (fun _ => 0) 0 8) 1 10) 2 12) 3 15) 4 18) 5 22) 6 27) 7 33) 8 41) 9 51) 10 63) 11 78) 12 97) 13 121) 14 151) 15 188) 16 235) 17 293) 18 366) 19 457) 20 571) 21 713) 22 891) 23 1113))), (a0 + 6, .inl (gC G 0, 60, .inl (fun _ => 0))), (a0 + 7, .inl (gC G 0, 32, .inl (fun _ => 0))), (a0 + 8, .inl (gC G 0, 32, .inl (fun _ => 0))), (a0 + 9, .inl (gC G 0, 32, .inl (fun _ => 0)))] s.heap H _ := hB
  refine lv_iinc (v := 24) (lv' := [(1, .int 24), (0, .ref a0)]) hx hb dX9_init_135 hl (k := 0) rfl (by decide) (by decide) rfl (fun ls hl => ?_)
  refine lv_goto (tgt := 111) hx hb dX9_init_138 (by decide) ?_
  refine lv_iload_n hx hb dX9_init_111 rfl (lv_at hl 0 rfl) ?_
  refine lv_bipush (v := 24) hx hb dX9_init_112 (by decide) ?_
  refine lv_icmp_gt (tgt := 141) hx hb dX9_init_114 (by decide) (fun g => absurd g (by decide)) (fun _ => ?_)
  refine lv_aload_n hx hb dX9_init_117 rfl (lv_at hl 1 rfl) ?_
  refine va_get hx hb (lay_9 hts) (fun _ h => h) hown hK hB.1 0 rfl rfl 6 (by decide) (tk_969 hts) (fun _ h => h) rfl dX9_init_118 ?_
  refine lv_iload_n hx hb dX9_init_121 rfl (lv_at hl 0 rfl) ?_
  refine lv_iconst (v := 5) hx hb dX9_init_122 (by decide) ?_
  refine lv_aload_n hx hb dX9_init_123 rfl (lv_at hl 1 rfl) ?_
  refine va_get hx hb (lay_9 hts) (fun _ h => h) hown hK hB.1 0 rfl rfl 6 (by decide) (tk_969 hts) (fun _ h => h) rfl dX9_init_124 ?_
  refine lv_iload_n hx hb dX9_init_127 rfl (lv_at hl 0 rfl) ?_
  refine lv_iconst (v := 1) hx hb dX9_init_128 (by decide) ?_
  refine lv_isub hx hb dX9_init_129 ?_
  refine s_nm (show ((24 : Int32) - 1) = 23 from by decide +kernel) ?_
  refine va_iald hx hb hK hB.1 5 0 rfl rfl (i := 23) (show ix 23 25 from by decide) dX9_init_130 ?_
  refine s_nm (show (upd (upd (upd (upd (upd (upd (upd (upd (upd (upd (upd (upd (upd (upd (upd (upd (upd (upd (upd (upd (upd (upd (upd (upd (fun _ => 0) 0 8) 1 10) 2 12) 3 15) 4 18) 5 22) 6 27) 7 33) 8 41) 9 51) 10 63) 11 78) 12 97) 13 121) 14 151) 15 188) 16 235) 17 293) 18 366) 19 457) 20 571) 21 713) 22 891) 23 1113) (Int32.toNatClampNeg 23) = 1113 from by decide +kernel) ?_
  refine lv_imul hx hb dX9_init_131 ?_
  refine s_nm (show ((5 : Int32) * 1113) = 5565 from by decide +kernel) ?_
  refine lv_iconst (v := 4) hx hb dX9_init_132 (by decide) ?_
  refine lv_idiv hx hb dX9_init_133 (by decide) ?_
  refine s_nm (show ((5565 : Int32) / 4) = 1391 from by decide +kernel) ?_
  refine b_ist (t0 := 0) hx hb hK hB 5 rfl rfl (i := 24) (by decide) dX9_init_134 (fun H locs hB => ?_)
  replace hB : Bd G a0 10 [(a0, .inr (9, [.ref (a0 + 1), .ref (a0 + 2), .int 0, .ref (a0 + 3), .int 0, .ref (a0 + 4), .ref (a0 + 5), .int 0, .ref (a0 + 6), .int 0, .int 0, .int 0, .ref (a0 + 7), .ref (a0 + 8), .ref (a0 + 9), .long 0])), (a0 + 1, .inl (gC G 0, 626, .inl (upd (upd (upd (fun _ => 0) 0 1) 2 4) 3 3))), (a0 + 2, .inl (gC G 0, 3756, .inl (fun _ => 0))), (a0 + 3, .inl (gC G 0, 626, .inl (fun _ => 0))), (a0 + 4, .inl (gC G 0, 626, .inl (fun _ => 0))), (a0 + 5, .inl (gC G 0, 25, .inl (upd (upd (upd (upd (upd (upd (upd (upd (upd (upd (upd (upd (upd (upd (upd (upd (upd (upd (upd (upd (upd (upd (upd (upd (upd (fun _ => 0) 0 8) 1 10) 2 12) 3 15) 4 18) 5 22) 6 27) 7 33) 8 41) 9 51) 10 63) 11 78) 12 97) 13 121) 14 151) 15 188) 16 235) 17 293) 18 366) 19 457) 20 571) 21 713) 22 891) 23 1113) 24 1391))), (a0 + 6, .inl (gC G 0, 60, .inl (fun _ => 0))), (a0 + 7, .inl (gC G 0, 32, .inl (fun _ => 0))), (a0 + 8, .inl (gC G 0, 32, .inl (fun _ => 0))), (a0 + 9, .inl (gC G 0, 32, .inl (fun _ => 0)))] s.heap H _ := hB
  refine lv_iinc (v := 25) (lv' := [(1, .int 25), (0, .ref a0)]) hx hb dX9_init_135 hl (k := 0) rfl (by decide) (by decide) rfl (fun ls hl => ?_)
  refine lv_goto (tgt := 111) hx hb dX9_init_138 (by decide) ?_
  refine lv_iload_n hx hb dX9_init_111 rfl (lv_at hl 0 rfl) ?_
  refine lv_bipush (v := 24) hx hb dX9_init_112 (by decide) ?_
  refine lv_icmp_gt (tgt := 141) hx hb dX9_init_114 (by decide) (fun _ => ?_) (fun g => absurd (by decide) g)
  exact b_end hx hb hr hlocks hB (List.forall_mem_cons.mpr ⟨fun _ _ => (fin_eq ((c_10 h0).trans (by rw [m0_i h0 (by decide)]; rfl))), List.forall_mem_cons.mpr ⟨fun _ _ => (fin_int ((cel_ia (n := 626) (ky_10_0 hG h0) (by decide)).trans (by rw [m0_w (ky_10_0 hG h0) h0])) (fun j hj => x9_row j)), List.forall_mem_cons.mpr ⟨fun _ _ => (fin_eq ((cel_ia (n := 3756) (ky_10_1 hG h0) (by decide)).trans (by rw [m0_i (ky_10_1 hG h0) (by decide)]))), List.forall_mem_cons.mpr ⟨fun _ _ => (fin_eq ((cel_ia (n := 626) (ky_10_3 hG h0) (by decide)).trans (by rw [m0_n (n := 4756) (ky_10_3 hG h0) (ky_10_1 hG h0) (by decide)]))), List.forall_mem_cons.mpr ⟨fun _ _ => (fin_eq ((cel_ia (n := 626) (ky_10_5 hG h0) (by decide)).trans (by rw [m0_n (n := 1626) (ky_10_5 hG h0) (ky_10_3 hG h0) (by decide)]))), List.forall_mem_cons.mpr ⟨fun _ _ => (fin_int ((cel_ia (n := 25) (ky_10_6 hG h0) (by decide)).trans (by rw [m0_t (ky_10_6 hG h0)])) (fun j hj => by match j, hj with | 0, _ => rfl | 1, _ => rfl | 2, _ => rfl | 3, _ => rfl | 4, _ => rfl | 5, _ => rfl | 6, _ => rfl | 7, _ => rfl | 8, _ => rfl | 9, _ => rfl | 10, _ => rfl | 11, _ => rfl | 12, _ => rfl | 13, _ => rfl | 14, _ => rfl | 15, _ => rfl | 16, _ => rfl | 17, _ => rfl | 18, _ => rfl | 19, _ => rfl | 20, _ => rfl | 21, _ => rfl | 22, _ => rfl | 23, _ => rfl | 24, _ => rfl | j + 25, hj => omega)), List.forall_mem_cons.mpr ⟨fun _ _ => (fin_eq ((cel_ia (n := 60) (ky_10_8 hG h0) (by decide)).trans (by rw [m0_i (ky_10_8 hG h0) (by decide)]))), List.forall_mem_cons.mpr ⟨fun _ _ => (fin_eq ((cel_ia (n := 32) (ky_10_12 hG h0) (by decide)).trans (by rw [m0_i (ky_10_12 hG h0) (by decide)]))), List.forall_mem_cons.mpr ⟨fun _ _ => (fin_eq ((cel_ia (n := 32) (ky_10_13 hG h0) (by decide)).trans (by rw [m0_i (ky_10_13 hG h0) (by decide)]))), List.forall_mem_cons.mpr ⟨fun _ _ => (fin_eq ((cel_ia (n := 32) (ky_10_14 hG h0) (by decide)).trans (by rw [m0_i (ky_10_14 hG h0) (by decide)]))), List.forall_mem_nil _⟩⟩⟩⟩⟩⟩⟩⟩⟩⟩) dX9_init_141
