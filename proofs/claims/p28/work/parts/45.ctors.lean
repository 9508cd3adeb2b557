/-! the constructors, walked -/
theorem ra_o {U : State} {cA : ClassId} {C : String} (h : va_RA U cA (.object C)) : U.vm.findClass ("[" ++ (FieldType.object C).toString) = some cA := by
  obtain ⟨_, _, _, _, _, h⟩ := h
  exact h
theorem lv_size {ls : Array Slot} {n : Nat} {l : List (Nat × Value)} (h : lv_has ls n l) : ls.size = n := h.1
theorem x_ne2 {v : Nat} {p q : Nat × va_E} (h1 : p.1 ≠ v) (h2 : q.1 ≠ v) : ∀ (k : Nat) (r : Nat × va_E), [p, q][k]? = some r → r.1 ≠ v := fun k r hr => by
  match k, hr with
  | 0, hr => cases hr; exact h1
  | 1, hr => cases hr; exact h2
  | k + 2, hr => simp at hr
theorem x_ne {X : va_W} {v : Nat} (h : ∀ p ∈ X, p.1 ≠ v) : ∀ (k : Nat) (p : Nat × va_E), X[k]? = some p → p.1 ≠ v := fun _ p hp => h p (List.mem_of_getElem? hp)
theorem m0_pk {G : Gt} (hw : wfM G (M0 G)) {a : Nat} (h : gK G a = 6008) (j : Nat) (hj : j < 8) : gK G (a + 1 + 4 * j) = 3 := by
  have := hw.1 a j h hj
  rw [m0_p h] at this
  exact this
theorem m0_sk {G : Gt} (hw : wfM G (M0 G)) {a : Nat} (h : gK G a = 8006) (j : Nat) (hj : j < 6) : gK G (a + 6 + 136 * j) = 6 := by
  have := hw.2 a j h hj
  rw [m0_r h] at this
  exact this
set_option maxHeartbeats 4000000 in
set_option maxRecDepth 100000 in
theorem kn_X0 (G : Gt) (hG : gOK G) (hw : wfM G (M0 G)) (l : Launch) (a0 : Nat) (h0 : gK G a0 = 1) : Kn G l yX0_init cX0_init 1 ({ frames := 1, cells := 0, slots := 0, locals := 12 } : Room) a0 0 [.int 0, .int 0] 1 := by
  refine startN (by decide) rfl (by decide) ?_
  intro p e s m args below meth c ls hx hb hr hown hml hlocks hin hts hV hA hB hl
  have hown : s.vm.findClass "FoldedVoices$End" = some m.cls := hown
  have hK := hG.1.moved hV
  have hl : lv_has ls 1 [(0, .ref a0)] := hl
  refine lv_aload_n hx hb dX0_init_0 rfl (lv_at hl 0 rfl) ?_
  refine b_init hx hb hml hown (tk_61 hts) (tk_24 hts) (tk_25 hts) (lv_size hl) (Nat.le_of_ble_eq_true rfl) (Nat.le_of_ble_eq_true rfl) dX0_init_1 ?_
  exact b_end hx hb hr hlocks hB (List.forall_mem_cons.mpr ⟨fun _ _ => (fin_eq ((c_1 h0).trans (by rw [m0_i h0 (by decide)]))), List.forall_mem_nil _⟩) dX0_init_4
set_option maxHeartbeats 4000000 in
set_option maxRecDepth 100000 in
theorem kn_X4 (G : Gt) (hG : gOK G) (hw : wfM G (M0 G)) (l : Launch) (a0 : Nat) (h0 : gK G a0 = 5) : Kn G l yX4_init cX4_init 1 ({ frames := 1, cells := 1, slots := 4, locals := 12 } : Room) a0 4 [.null] 2 := by
  refine startN (by decide) rfl (by decide) ?_
  intro p e s m args below meth c ls hx hb hr hown hml hlocks hin hts hV hA hB hl
  have hown : s.vm.findClass "FoldedVoices$Settings" = some m.cls := hown
  have hK := hG.1.moved hV
  have hl : lv_has ls 1 [(0, .ref a0)] := hl
  refine lv_aload_n hx hb dX4_init_0 rfl (lv_at hl 0 rfl) ?_
  refine b_init hx hb hml hown (tk_39 hts) (tk_24 hts) (tk_25 hts) (lv_size hl) (Nat.le_of_ble_eq_true rfl) (Nat.le_of_ble_eq_true rfl) dX4_init_1 ?_
  refine lv_aload_n hx hb dX4_init_4 rfl (lv_at hl 0 rfl) ?_
  refine lv_iconst (v := 4) hx hb dX4_init_5 (by decide) ?_
  refine b_arr (ty := .int) rfl rfl hx hb (tk_44 hts) (hK.2 0 _ rfl).2 hB (n := 4) (N := 4) (by decide) (by decide) (by decide) (Nat.le_of_ble_eq_true rfl) (Nat.le_of_ble_eq_true rfl) dX4_init_6 (fun H hB => ?_)
  replace hB : Bd G a0 2 [(a0, .inr (4, [.null])), (a0 + 1, .inl (gC G 0, 4, .inl (fun _ => 0)))] s.heap H _ := hB
  refine lv_dup hx hb dX4_init_8 rfl ?_
  refine lv_iconst (v := 0) hx hb dX4_init_9 (by decide) ?_
  refine lv_iconst (v := 1) hx hb dX4_init_10 (by decide) ?_
  refine b_ist (t0 := 0) hx hb hK hB 1 rfl rfl (i := 0) (by decide) dX4_init_11 (fun H locs hB => ?_)
  replace hB : Bd G a0 2 [(a0, .inr (4, [.null])), (a0 + 1, .inl (gC G 0, 4, .inl (upd (fun _ => 0) 0 1)))] s.heap H _ := hB
  refine lv_dup hx hb dX4_init_12 rfl ?_
  refine lv_iconst (v := 1) hx hb dX4_init_13 (by decide) ?_
  refine lv_iconst (v := 0) hx hb dX4_init_14 (by decide) ?_
  refine b_ist (t0 := 0) hx hb hK hB 1 rfl rfl (i := 1) (by decide) dX4_init_15 (fun H locs hB => ?_)
  replace hB : Bd G a0 2 [(a0, .inr (4, [.null])), (a0 + 1, .inl (gC G 0, 4, .inl (upd (upd (fun _ => 0) 0 1) 1 0)))] s.heap H _ := hB
  refine lv_dup hx hb dX4_init_16 rfl ?_
  refine lv_iconst (v := 2) hx hb dX4_init_17 (by decide) ?_
  refine lv_iconst (v := 4) hx hb dX4_init_18 (by decide) ?_
  refine b_ist (t0 := 0) hx hb hK hB 1 rfl rfl (i := 2) (by decide) dX4_init_19 (fun H locs hB => ?_)
  replace hB : Bd G a0 2 [(a0, .inr (4, [.null])), (a0 + 1, .inl (gC G 0, 4, .inl (upd (upd (upd (fun _ => 0) 0 1) 1 0) 2 4)))] s.heap H _ := hB
  refine lv_dup hx hb dX4_init_20 rfl ?_
  refine lv_iconst (v := 3) hx hb dX4_init_21 (by decide) ?_
  refine lv_iconst (v := 3) hx hb dX4_init_22 (by decide) ?_
  refine b_ist (t0 := 0) hx hb hK hB 1 rfl rfl (i := 3) (by decide) dX4_init_23 (fun H locs hB => ?_)
  replace hB : Bd G a0 2 [(a0, .inr (4, [.null])), (a0 + 1, .inl (gC G 0, 4, .inl (upd (upd (upd (upd (fun _ => 0) 0 1) 1 0) 2 4) 3 3)))] s.heap H _ := hB
  refine b_put tyX4 hx hb (lay_4 hts) tyX4_ok nmX4 hown hK hin hB 0 rfl rfl 0 (by decide) rfl rfl rfl rfl (Nat.le_of_ble_eq_true rfl) rfl (tk_40 hts) dX4_init_24 (fun H locs hB => ?_)
  replace hB : Bd G a0 2 [(a0, .inr (4, [.ref (a0 + 1)])), (a0 + 1, .inl (gC G 0, 4, .inl (upd (upd (upd (upd (fun _ => 0) 0 1) 1 0) 2 4) 3 3)))] s.heap H _ := hB
  exact b_end hx hb hr hlocks hB (List.forall_mem_cons.mpr ⟨fun _ _ => (fin_eq ((c_5 h0).trans rfl)), List.forall_mem_cons.mpr ⟨fun _ _ => (fin_int ((cel_ia (n := 4) (ky_5_0 hG h0) (by decide)).trans (by rw [m0_s (ky_5_0 hG h0)])) (fun j hj => by match j, hj with | 0, _ => rfl | 1, _ => rfl | 2, _ => rfl | 3, _ => rfl | j + 4, hj => omega)), List.forall_mem_nil _⟩⟩) dX4_init_27
set_option maxHeartbeats 4000000 in
set_option maxRecDepth 100000 in
theorem kn_X6 (G : Gt) (hG : gOK G) (hw : wfM G (M0 G)) (l : Launch) (a0 : Nat) (h0 : gK G a0 = 7) : Kn G l yX6_init cX6_init 1 ({ frames := 1, cells := 1, slots := 60, locals := 12 } : Room) a0 6 [.null, .int 0, .int 0, .int 0, .int 0, .int 0, .int 0] 2 := by
  refine startN (by decide) rfl (by decide) ?_
  intro p e s m args below meth c ls hx hb hr hown hml hlocks hin hts hV hA hB hl
  have hown : s.vm.findClass "FoldedVoices$TalkText" = some m.cls := hown
  have hK := hG.1.moved hV
  have hl : lv_has ls 1 [(0, .ref a0)] := hl
  refine lv_aload_n hx hb dX6_init_0 rfl (lv_at hl 0 rfl) ?_
  refine b_init hx hb hml hown (tk_245 hts) (tk_24 hts) (tk_25 hts) (lv_size hl) (Nat.le_of_ble_eq_true rfl) (Nat.le_of_ble_eq_true rfl) dX6_init_1 ?_
  refine lv_aload_n hx hb dX6_init_4 rfl (lv_at hl 0 rfl) ?_
  refine lv_bipush (v := 60) hx hb dX6_init_5 (by decide) ?_
  refine b_arr (ty := .char) rfl rfl hx hb (tk_262 hts) (hK.2 1 _ rfl).2 hB (n := 60) (N := 60) (by decide) (by decide) (by decide) (Nat.le_of_ble_eq_true rfl) (Nat.le_of_ble_eq_true rfl) dX6_init_7 (fun H hB => ?_)
  replace hB : Bd G a0 2 [(a0, .inr (6, [.null, .int 0, .int 0, .int 0, .int 0, .int 0, .int 0])), (a0 + 1, .inl (gC G 1, 60, .inl (fun _ => 0)))] s.heap H _ := hB
  refine b_put tyX6 hx hb (lay_6 hts) tyX6_ok nmX6 hown hK hin hB 0 rfl rfl 0 (by decide) rfl rfl rfl rfl (Nat.le_of_ble_eq_true rfl) rfl (tk_246 hts) dX6_init_9 (fun H locs hB => ?_)
  replace hB : Bd G a0 2 [(a0, .inr (6, [.ref (a0 + 1), .int 0, .int 0, .int 0, .int 0, .int 0, .int 0])), (a0 + 1, .inl (gC G 1, 60, .inl (fun _ => 0)))] s.heap H _ := hB
  exact b_end hx hb hr hlocks hB (List.forall_mem_cons.mpr ⟨fun _ _ => (fin_eq ((c_7 h0).trans (by rw [m0_i h0 (by decide)]))), List.forall_mem_cons.mpr ⟨fun _ _ => (fin_eq ((cel_ca (n := 60) (ky_7_0 hG h0) (by decide)).trans (by rw [m0_i (ky_7_0 hG h0) (by decide)]))), List.forall_mem_nil _⟩⟩) dX6_init_12
set_option maxHeartbeats 4000000 in
set_option maxRecDepth 100000 in
theorem kn_X2 (G : Gt) (hG : gOK G) (hw : wfM G (M0 G)) (l : Launch) (a0 : Nat) (h0 : gK G a0 = 3) : Kn G l yX2_init cX2_init 1 ({ frames := 2, cells := 3, slots := 18, locals := 32 } : Room) a0 2 [.null, .null, .int 0, .int 0, .int 0, .null] 4 := by
  refine startN (by decide) rfl (by decide) ?_
  intro p e s m args below meth c ls hx hb hr hown hml hlocks hin hts hV hA hB hl
  have hown : s.vm.findClass "FoldedVoices$Packet" = some m.cls := hown
  have hK := hG.1.moved hV
  have hl : lv_has ls 1 [(0, .ref a0)] := hl
  refine lv_aload_n hx hb dX2_init_0 rfl (lv_at hl 0 rfl) ?_
  refine b_init hx hb hml hown (tk_81 hts) (tk_24 hts) (tk_25 hts) (lv_size hl) (Nat.le_of_ble_eq_true rfl) (Nat.le_of_ble_eq_true rfl) dX2_init_1 ?_
  refine lv_aload_n hx hb dX2_init_4 rfl (lv_at hl 0 rfl) ?_
  refine lv_bipush (v := 8) hx hb dX2_init_5 (by decide) ?_
  refine b_arr (ty := .int) rfl rfl hx hb (tk_44 hts) (hK.2 0 _ rfl).2 hB (n := 8) (N := 8) (by decide) (by decide) (by decide) (Nat.le_of_ble_eq_true rfl) (Nat.le_of_ble_eq_true rfl) dX2_init_7 (fun H hB => ?_)
  replace hB : Bd G a0 2 [(a0, .inr (2, [.null, .null, .int 0, .int 0, .int 0, .null])), (a0 + 1, .inl (gC G 0, 8, .inl (fun _ => 0)))] s.heap H _ := hB
  refine b_put tyX2 hx hb (lay_2 hts) tyX2_ok nmX2 hown hK hin hB 0 rfl rfl 0 (by decide) rfl rfl rfl rfl (Nat.le_of_ble_eq_true rfl) rfl (tk_84 hts) dX2_init_9 (fun H locs hB => ?_)
  replace hB : Bd G a0 2 [(a0, .inr (2, [.ref (a0 + 1), .null, .int 0, .int 0, .int 0, .null])), (a0 + 1, .inl (gC G 0, 8, .inl (fun _ => 0)))] s.heap H _ := hB
  refine lv_aload_n hx hb dX2_init_12 rfl (lv_at hl 0 rfl) ?_
  refine lv_bipush (v := 8) hx hb dX2_init_13 (by decide) ?_
  refine b_arr (ty := .int) rfl rfl hx hb (tk_44 hts) (hK.2 0 _ rfl).2 hB (n := 8) (N := 8) (by decide) (by decide) (by decide) (Nat.le_of_ble_eq_true rfl) (Nat.le_of_ble_eq_true rfl) dX2_init_15 (fun H hB => ?_)
  replace hB : Bd G a0 3 [(a0, .inr (2, [.ref (a0 + 1), .null, .int 0, .int 0, .int 0, .null])), (a0 + 1, .inl (gC G 0, 8, .inl (fun _ => 0))), (a0 + 2, .inl (gC G 0, 8, .inl (fun _ => 0)))] s.heap H _ := hB
  refine b_put tyX2 hx hb (lay_2 hts) tyX2_ok nmX2 hown hK hin hB 0 rfl rfl 1 (by decide) rfl rfl rfl rfl (Nat.le_of_ble_eq_true rfl) rfl (tk_85 hts) dX2_init_17 (fun H locs hB => ?_)
  replace hB : Bd G a0 3 [(a0, .inr (2, [.ref (a0 + 1), .ref (a0 + 2), .int 0, .int 0, .int 0, .null])), (a0 + 1, .inl (gC G 0, 8, .inl (fun _ => 0))), (a0 + 2, .inl (gC G 0, 8, .inl (fun _ => 0)))] s.heap H _ := hB
  refine lv_aload_n hx hb dX2_init_20 rfl (lv_at hl 0 rfl) ?_
  refine b_newN tyX0 hx hb hml hown hts hV hA hK hB (kn_X0 G hG hw l _ (ky_3_5 hG h0)) wn_X0 (lay_0 hts) tyX0_ok rfl (by decide) (by decide) (tk_82 hts) (tk_83 hts) ⟨Nat.le_of_ble_eq_true rfl, Nat.le_of_ble_eq_true rfl⟩ ⟨Nat.le_of_ble_eq_true rfl, Nat.le_of_ble_eq_true rfl⟩ (lv_size hl) (Nat.le_of_ble_eq_true rfl) dX2_init_21 dX2_init_24 dX2_init_25 (fun H locs hB => ?_)
  replace hB : Bd G a0 4 [(a0, .inr (2, [.ref (a0 + 1), .ref (a0 + 2), .int 0, .int 0, .int 0, .null])), (a0 + 1, .inl (gC G 0, 8, .inl (fun _ => 0))), (a0 + 2, .inl (gC G 0, 8, .inl (fun _ => 0)))] s.heap H _ := hB
  refine b_put tyX2 hx hb (lay_2 hts) tyX2_ok nmX2 hown hK hin hB 0 rfl rfl 5 (by decide) rfl rfl rfl rfl (Nat.le_of_ble_eq_true rfl) rfl (tk_99 hts) dX2_init_28 (fun H locs hB => ?_)
  replace hB : Bd G a0 4 [(a0, .inr (2, [.ref (a0 + 1), .ref (a0 + 2), .int 0, .int 0, .int 0, .ref (a0 + 3)])), (a0 + 1, .inl (gC G 0, 8, .inl (fun _ => 0))), (a0 + 2, .inl (gC G 0, 8, .inl (fun _ => 0)))] s.heap H _ := hB
  exact b_end hx hb hr hlocks hB (List.forall_mem_cons.mpr ⟨fun _ _ => (fin_eq ((c_3 h0).trans (by rw [m0_i h0 (by decide)]))), List.forall_mem_cons.mpr ⟨fun _ _ => (fin_eq ((cel_ia (n := 8) (ky_3_0 hG h0) (by decide)).trans (by rw [m0_i (ky_3_0 hG h0) (by decide)]))), List.forall_mem_cons.mpr ⟨fun _ _ => (fin_eq ((cel_ia (n := 8) (ky_3_1 hG h0) (by decide)).trans (by rw [m0_i (ky_3_1 hG h0) (by decide)]))), List.forall_mem_nil _⟩⟩⟩) dX2_init_31
set_option maxHeartbeats 4000000 in
set_option maxRecDepth 100000 in
theorem kn_X1 (G : Gt) (hG : gOK G) (hw : wfM G (M0 G)) (l : Launch) (a0 : Nat) (h0 : gK G a0 = 2) : Kn G l yX1_init cX1_init 1 ({ frames := 2, cells := 1, slots := 2, locals := 32 } : Room) a0 1 [.null, .int 0, .int 0, .int 0, .int 0, .int 0, .int 0, .int 0, .int 0, .int 0] 2 := by
  refine startN (by decide) rfl (by decide) ?_
  intro p e s m args below meth c ls hx hb hr hown hml hlocks hin hts hV hA hB hl
  have hown : s.vm.findClass "FoldedVoices$HearingEnd" = some m.cls := hown
  have hK := hG.1.moved hV
  have hl : lv_has ls 1 [(0, .ref a0)] := hl
  refine lv_aload_n hx hb dX1_init_0 rfl (lv_at hl 0 rfl) ?_
  refine b_init hx hb hml hown (tk_165 hts) (tk_24 hts) (tk_25 hts) (lv_size hl) (Nat.le_of_ble_eq_true rfl) (Nat.le_of_ble_eq_true rfl) dX1_init_1 ?_
  refine lv_aload_n hx hb dX1_init_4 rfl (lv_at hl 0 rfl) ?_
  refine b_newN tyX0 hx hb hml hown hts hV hA hK hB (kn_X0 G hG hw l _ (ky_2_0 hG h0)) wn_X0 (lay_0 hts) tyX0_ok rfl (by decide) (by decide) (tk_166 hts) (tk_167 hts) ⟨Nat.le_of_ble_eq_true rfl, Nat.le_of_ble_eq_true rfl⟩ ⟨Nat.le_of_ble_eq_true rfl, Nat.le_of_ble_eq_true rfl⟩ (lv_size hl) (Nat.le_of_ble_eq_true rfl) dX1_init_5 dX1_init_8 dX1_init_9 (fun H locs hB => ?_)
  replace hB : Bd G a0 2 [(a0, .inr (1, [.null, .int 0, .int 0, .int 0, .int 0, .int 0, .int 0, .int 0, .int 0, .int 0]))] s.heap H _ := hB
  refine b_put tyX1 hx hb (lay_1 hts) tyX1_ok nmX1 hown hK hin hB 0 rfl rfl 0 (by decide) rfl rfl rfl rfl (Nat.le_of_ble_eq_true rfl) rfl (tk_168 hts) dX1_init_12 (fun H locs hB => ?_)
  replace hB : Bd G a0 2 [(a0, .inr (1, [.ref (a0 + 1), .int 0, .int 0, .int 0, .int 0, .int 0, .int 0, .int 0, .int 0, .int 0]))] s.heap H _ := hB
  exact b_end hx hb hr hlocks hB (List.forall_mem_cons.mpr ⟨fun _ _ => (fin_eq ((c_2 h0).trans (by rw [m0_i h0 (by decide)]))), List.forall_mem_nil _⟩) dX1_init_15
set_option maxHeartbeats 4000000 in
set_option maxRecDepth 100000 in
theorem kn_X3 (G : Gt) (hG : gOK G) (hw : wfM G (M0 G)) (l : Launch) (a0 : Nat) (h0 : gK G a0 = 4) : Kn G l yX3_init cX3_init 1 ({ frames := 3, cells := 7, slots := 100, locals := 52 } : Room) a0 3 [.null, .int 0, .int 0, .int 0, .null, .int 0, .int 0, .int 0, .null, .null, .int 0] 8 := by
  refine startN (by decide) rfl (by decide) ?_
  intro p e s m args below meth c ls hx hb hr hown hml hlocks hin hts hV hA hB hl
  have hown : s.vm.findClass "FoldedVoices$SayingEnd" = some m.cls := hown
  have hK := hG.1.moved hV
  have hl : lv_has ls 1 [(0, .ref a0)] := hl
  refine lv_aload_n hx hb dX3_init_0 rfl (lv_at hl 0 rfl) ?_
  refine b_init hx hb hml hown (tk_55 hts) (tk_24 hts) (tk_25 hts) (lv_size hl) (Nat.le_of_ble_eq_true rfl) (Nat.le_of_ble_eq_true rfl) dX3_init_1 ?_
  refine lv_aload_n hx hb dX3_init_4 rfl (lv_at hl 0 rfl) ?_
  refine b_newN tyX0 hx hb hml hown hts hV hA hK hB (kn_X0 G hG hw l _ (ky_4_0 hG h0)) wn_X0 (lay_0 hts) tyX0_ok rfl (by decide) (by decide) (tk_56 hts) (tk_58 hts) ⟨Nat.le_of_ble_eq_true rfl, Nat.le_of_ble_eq_true rfl⟩ ⟨Nat.le_of_ble_eq_true rfl, Nat.le_of_ble_eq_true rfl⟩ (lv_size hl) (Nat.le_of_ble_eq_true rfl) dX3_init_5 dX3_init_8 dX3_init_9 (fun H locs hB => ?_)
  replace hB : Bd G a0 2 [(a0, .inr (3, [.null, .int 0, .int 0, .int 0, .null, .int 0, .int 0, .int 0, .null, .null, .int 0]))] s.heap H _ := hB
  refine b_put tyX3 hx hb (lay_3 hts) tyX3_ok nmX3 hown hK hin hB 0 rfl rfl 0 (by decide) rfl rfl rfl rfl (Nat.le_of_ble_eq_true rfl) rfl (tk_115 hts) dX3_init_12 (fun H locs hB => ?_)
  replace hB : Bd G a0 2 [(a0, .inr (3, [.ref (a0 + 1), .int 0, .int 0, .int 0, .null, .int 0, .int 0, .int 0, .null, .null, .int 0]))] s.heap H _ := hB
  refine lv_aload_n hx hb dX3_init_15 rfl (lv_at hl 0 rfl) ?_
  refine b_newN tyX2 hx hb hml hown hts hV hA hK hB (kn_X2 G hG hw l _ (ky_4_4 hG h0)) wn_X2 (lay_2 hts) tyX2_ok rfl (by decide) (by decide) (tk_76 hts) (tk_78 hts) ⟨Nat.le_of_ble_eq_true rfl, Nat.le_of_ble_eq_true rfl⟩ ⟨Nat.le_of_ble_eq_true rfl, Nat.le_of_ble_eq_true rfl⟩ (lv_size hl) (Nat.le_of_ble_eq_true rfl) dX3_init_16 dX3_init_19 dX3_init_20 (fun H locs hB => ?_)
  replace hB : Bd G a0 6 [(a0, .inr (3, [.ref (a0 + 1), .int 0, .int 0, .int 0, .null, .int 0, .int 0, .int 0, .null, .null, .int 0]))] s.heap H _ := hB
  refine b_put tyX3 hx hb (lay_3 hts) tyX3_ok nmX3 hown hK hin hB 0 rfl rfl 4 (by decide) rfl rfl rfl rfl (Nat.le_of_ble_eq_true rfl) rfl (tk_124 hts) dX3_init_23 (fun H locs hB => ?_)
  replace hB : Bd G a0 6 [(a0, .inr (3, [.ref (a0 + 1), .int 0, .int 0, .int 0, .ref (a0 + 2), .int 0, .int 0, .int 0, .null, .null, .int 0]))] s.heap H _ := hB
  refine lv_aload_n hx hb dX3_init_26 rfl (lv_at hl 0 rfl) ?_
  refine b_newN tyX0 hx hb hml hown hts hV hA hK hB (kn_X0 G hG hw l _ (ky_4_8 hG h0)) wn_X0 (lay_0 hts) tyX0_ok rfl (by decide) (by decide) (tk_56 hts) (tk_58 hts) ⟨Nat.le_of_ble_eq_true rfl, Nat.le_of_ble_eq_true rfl⟩ ⟨Nat.le_of_ble_eq_true rfl, Nat.le_of_ble_eq_true rfl⟩ (lv_size hl) (Nat.le_of_ble_eq_true rfl) dX3_init_27 dX3_init_30 dX3_init_31 (fun H locs hB => ?_)
  replace hB : Bd G a0 7 [(a0, .inr (3, [.ref (a0 + 1), .int 0, .int 0, .int 0, .ref (a0 + 2), .int 0, .int 0, .int 0, .null, .null, .int 0]))] s.heap H _ := hB
  refine b_put tyX3 hx hb (lay_3 hts) tyX3_ok nmX3 hown hK hin hB 0 rfl rfl 8 (by decide) rfl rfl rfl rfl (Nat.le_of_ble_eq_true rfl) rfl (tk_134 hts) dX3_init_34 (fun H locs hB => ?_)
  replace hB : Bd G a0 7 [(a0, .inr (3, [.ref (a0 + 1), .int 0, .int 0, .int 0, .ref (a0 + 2), .int 0, .int 0, .int 0, .ref (a0 + 6), .null, .int 0]))] s.heap H _ := hB
  refine lv_aload_n hx hb dX3_init_37 rfl (lv_at hl 0 rfl) ?_
  refine lv_bipush (v := 72) hx hb dX3_init_38 (by decide) ?_
  refine b_arr (ty := .int) rfl rfl hx hb (tk_44 hts) (hK.2 0 _ rfl).2 hB (n := 72) (N := 72) (by decide) (by decide) (by decide) (Nat.le_of_ble_eq_true rfl) (Nat.le_of_ble_eq_true rfl) dX3_init_40 (fun H hB => ?_)
  replace hB : Bd G a0 8 [(a0, .inr (3, [.ref (a0 + 1), .int 0, .int 0, .int 0, .ref (a0 + 2), .int 0, .int 0, .int 0, .ref (a0 + 6), .null, .int 0])), (a0 + 7, .inl (gC G 0, 72, .inl (fun _ => 0)))] s.heap H _ := hB
  refine b_put tyX3 hx hb (lay_3 hts) tyX3_ok nmX3 hown hK hin hB 0 rfl rfl 9 (by decide) rfl rfl rfl rfl (Nat.le_of_ble_eq_true rfl) rfl (tk_135 hts) dX3_init_42 (fun H locs hB => ?_)
  replace hB : Bd G a0 8 [(a0, .inr (3, [.ref (a0 + 1), .int 0, .int 0, .int 0, .ref (a0 + 2), .int 0, .int 0, .int 0, .ref (a0 + 6), .ref (a0 + 7), .int 0])), (a0 + 7, .inl (gC G 0, 72, .inl (fun _ => 0)))] s.heap H _ := hB
  exact b_end hx hb hr hlocks hB (List.forall_mem_cons.mpr ⟨fun _ _ => (fin_eq ((c_4 h0).trans (by rw [m0_i h0 (by decide)]))), List.forall_mem_cons.mpr ⟨fun _ _ => (fin_eq ((cel_ia (n := 72) (ky_4_9 hG h0) (by decide)).trans (by rw [m0_i (ky_4_9 hG h0) (by decide)]))), List.forall_mem_nil _⟩⟩) dX3_init_45
set_option maxHeartbeats 4000000 in
set_option maxRecDepth 100000 in
theorem kn_X7 (G : Gt) (hG : gOK G) (hw : wfM G (M0 G)) (l : Launch) (a0 : Nat) (h0 : gK G a0 = 8) : Kn G l yX7_init cX7_init 2 ({ frames := 4, cells := 43, slots := 323, locals := 72 } : Room) a0 7 [.null, .null, .null, .int 0, .int 0] 44 := by
  refine startN (by decide) rfl (by decide) ?_
  intro p e s m args below meth c ls hx hb hr hown hml hlocks hin hts hV hA hB hl
  have hown : s.vm.findClass "FoldedVoices$Voice" = some m.cls := hown
  have hK := hG.1.moved hV
  have hl : lv_has ls 2 [(0, .ref a0)] := hl
  refine lv_aload_n hx hb dX7_init_0 rfl (lv_at hl 0 rfl) ?_
  refine b_init hx hb hml hown (tk_49 hts) (tk_24 hts) (tk_25 hts) (lv_size hl) (Nat.le_of_ble_eq_true rfl) (Nat.le_of_ble_eq_true rfl) dX7_init_1 ?_
  refine lv_aload_n hx hb dX7_init_4 rfl (lv_at hl 0 rfl) ?_
  refine b_newN tyX3 hx hb hml hown hts hV hA hK hB (kn_X3 G hG hw l _ (ky_8_0 hG h0)) wn_X3 (lay_3 hts) tyX3_ok rfl (by decide) (by decide) (tk_50 hts) (tk_52 hts) ⟨Nat.le_of_ble_eq_true rfl, Nat.le_of_ble_eq_true rfl⟩ ⟨Nat.le_of_ble_eq_true rfl, Nat.le_of_ble_eq_true rfl⟩ (lv_size hl) (Nat.le_of_ble_eq_true rfl) dX7_init_5 dX7_init_8 dX7_init_9 (fun H locs hB => ?_)
  replace hB : Bd G a0 9 [(a0, .inr (7, [.null, .null, .null, .int 0, .int 0]))] s.heap H _ := hB
  refine b_put tyX7 hx hb (lay_7 hts) tyX7_ok nmX7 hown hK hin hB 0 rfl rfl 0 (by decide) rfl rfl rfl rfl (Nat.le_of_ble_eq_true rfl) rfl (tk_209 hts) dX7_init_12 (fun H locs hB => ?_)
  replace hB : Bd G a0 9 [(a0, .inr (7, [.ref (a0 + 1), .null, .null, .int 0, .int 0]))] s.heap H _ := hB
  refine lv_aload_n hx hb dX7_init_15 rfl (lv_at hl 0 rfl) ?_
  refine b_newN tyX1 hx hb hml hown hts hV hA hK hB (kn_X1 G hG hw l _ (ky_8_1 hG h0)) wn_X1 (lay_1 hts) tyX1_ok rfl (by decide) (by decide) (tk_160 hts) (tk_162 hts) ⟨Nat.le_of_ble_eq_true rfl, Nat.le_of_ble_eq_true rfl⟩ ⟨Nat.le_of_ble_eq_true rfl, Nat.le_of_ble_eq_true rfl⟩ (lv_size hl) (Nat.le_of_ble_eq_true rfl) dX7_init_16 dX7_init_19 dX7_init_20 (fun H locs hB => ?_)
  replace hB : Bd G a0 11 [(a0, .inr (7, [.ref (a0 + 1), .null, .null, .int 0, .int 0]))] s.heap H _ := hB
  refine b_put tyX7 hx hb (lay_7 hts) tyX7_ok nmX7 hown hK hin hB 0 rfl rfl 1 (by decide) rfl rfl rfl rfl (Nat.le_of_ble_eq_true rfl) rfl (tk_211 hts) dX7_init_23 (fun H locs hB => ?_)
  replace hB : Bd G a0 11 [(a0, .inr (7, [.ref (a0 + 1), .ref (a0 + 9), .null, .int 0, .int 0]))] s.heap H _ := hB
  refine lv_aload_n hx hb dX7_init_26 rfl (lv_at hl 0 rfl) ?_
  refine lv_bipush (v := 8) hx hb dX7_init_27 (by decide) ?_
  refine b_anew hx hb hown (tk_206 hts) hA.1 (ra_o (hK.2 2 _ rfl).2) hB (n := 8) (N := 8) (by decide) (by decide) (by decide) (Nat.le_of_ble_eq_true rfl) (Nat.le_of_ble_eq_true rfl) dX7_init_29 (fun H hB => ?_)
  replace hB : Bd G a0 12 [(a0, .inr (7, [.ref (a0 + 1), .ref (a0 + 9), .null, .int 0, .int 0])), (a0 + 11, .inl (gC G 2, 8, .inr (.inr (.inr (.inr (fun _ => none))))))] s.heap H _ := hB
  refine b_put tyX7 hx hb (lay_7 hts) tyX7_ok nmX7 hown hK hin hB 0 rfl rfl 2 (by decide) rfl rfl rfl rfl (Nat.le_of_ble_eq_true rfl) rfl (tk_213 hts) dX7_init_32 (fun H locs hB => ?_)
  replace hB : Bd G a0 12 [(a0, .inr (7, [.ref (a0 + 1), .ref (a0 + 9), .ref (a0 + 11), .int 0, .int 0])), (a0 + 11, .inl (gC G 2, 8, .inr (.inr (.inr (.inr (fun _ => none))))))] s.heap H _ := hB
  refine lv_iconst (v := 0) hx hb dX7_init_35 (by decide) ?_
  refine lv_istore_n (lv' := [(1, .int 0), (0, .ref a0)]) hx hb dX7_init_36 rfl hl (by decide) rfl (fun ls hl => ?_)
  refine lv_iload_n hx hb dX7_init_37 rfl (lv_at hl 0 rfl) ?_
  refine lv_aload_n hx hb dX7_init_38 rfl (lv_at hl 1 rfl) ?_
  refine va_get hx hb (lay_7 hts) (fun _ h => h) hown hK hB.1 0 rfl rfl 2 (by decide) (tk_213 hts) (fun _ h => h) rfl dX7_init_39 ?_
  refine va_alen hx hb hK hB.1 1 2 rfl rfl (v := 8) (show Int32.ofNat 8 = 8 from rfl) dX7_init_42 ?_
  refine lv_icmp_ge (tgt := 65) hx hb dX7_init_43 (by decide) (fun g => absurd g (by decide)) (fun _ => ?_)
  refine lv_aload_n hx hb dX7_init_46 rfl (lv_at hl 1 rfl) ?_
  refine va_get hx hb (lay_7 hts) (fun _ h => h) hown hK hB.1 0 rfl rfl 2 (by decide) (tk_213 hts) (fun _ h => h) rfl dX7_init_47 ?_
  refine lv_iload_n hx hb dX7_init_50 rfl (lv_at hl 0 rfl) ?_
  refine b_newN tyX2 hx hb hml hown hts hV hA hK hB (kn_X2 G hG hw l _ (m0_pk hw (ky_8_2 hG h0) 0 (by decide))) wn_X2 (lay_2 hts) tyX2_ok rfl (by decide) (by decide) (tk_206 hts) (tk_208 hts) ⟨Nat.le_of_ble_eq_true rfl, Nat.le_of_ble_eq_true rfl⟩ ⟨Nat.le_of_ble_eq_true rfl, Nat.le_of_ble_eq_true rfl⟩ (lv_size hl) (Nat.le_of_ble_eq_true rfl) dX7_init_51 dX7_init_54 dX7_init_55 (fun H locs hB => ?_)
  replace hB : Bd G a0 16 [(a0, .inr (7, [.ref (a0 + 1), .ref (a0 + 9), .ref (a0 + 11), .int 0, .int 0])), (a0 + 11, .inl (gC G 2, 8, .inr (.inr (.inr (.inr (fun _ => none))))))] s.heap H _ := hB
  refine b_aast (t0 := 2) (r := (RX2, TX2, 6)) hx hb hK hB 1 rfl rfl (c_3 (m0_pk hw (ky_8_2 hG h0) 0 (by decide))) (by omega) (by omega) (x_ne2 (show a0 ≠ a0 + 12 from by omega) (show a0 + 11 ≠ a0 + 12 from by omega)) rfl (i := 0) (by decide) dX7_init_58 (fun H locs hB => ?_)
  replace hB : Bd G a0 16 [(a0, .inr (7, [.ref (a0 + 1), .ref (a0 + 9), .ref (a0 + 11), .int 0, .int 0])), (a0 + 11, .inl (gC G 2, 8, .inr (.inr (.inr (.inr (va_up (fun _ => none) 0 (some (a0 + 12))))))))] s.heap H _ := hB
  refine lv_iinc (v := 1) (lv' := [(1, .int 1), (0, .ref a0)]) hx hb dX7_init_59 hl (k := 0) rfl (by decide) (by decide) rfl (fun ls hl => ?_)
  refine lv_goto (tgt := 37) hx hb dX7_init_62 (by decide) ?_
  refine lv_iload_n hx hb dX7_init_37 rfl (lv_at hl 0 rfl) ?_
  refine lv_aload_n hx hb dX7_init_38 rfl (lv_at hl 1 rfl) ?_
  refine va_get hx hb (lay_7 hts) (fun _ h => h) hown hK hB.1 0 rfl rfl 2 (by decide) (tk_213 hts) (fun _ h => h) rfl dX7_init_39 ?_
  refine va_alen hx hb hK hB.1 1 2 rfl rfl (v := 8) (show Int32.ofNat 8 = 8 from rfl) dX7_init_42 ?_
  refine lv_icmp_ge (tgt := 65) hx hb dX7_init_43 (by decide) (fun g => absurd g (by decide)) (fun _ => ?_)
  refine lv_aload_n hx hb dX7_init_46 rfl (lv_at hl 1 rfl) ?_
  refine va_get hx hb (lay_7 hts) (fun _ h => h) hown hK hB.1 0 rfl rfl 2 (by decide) (tk_213 hts) (fun _ h => h) rfl dX7_init_47 ?_
  refine lv_iload_n hx hb dX7_init_50 rfl (lv_at hl 0 rfl) ?_
  refine b_newN tyX2 hx hb hml hown hts hV hA hK hB (kn_X2 G hG hw l _ (m0_pk hw (ky_8_2 hG h0) 1 (by decide))) wn_X2 (lay_2 hts) tyX2_ok rfl (by decide) (by decide) (tk_206 hts) (tk_208 hts) ⟨Nat.le_of_ble_eq_true rfl, Nat.le_of_ble_eq_true rfl⟩ ⟨Nat.le_of_ble_eq_true rfl, Nat.le_of_ble_eq_true rfl⟩ (lv_size hl) (Nat.le_of_ble_eq_true rfl) dX7_init_51 dX7_init_54 dX7_init_55 (fun H locs hB => ?_)
  replace hB : Bd G a0 20 [(a0, .inr (7, [.ref (a0 + 1), .ref (a0 + 9), .ref (a0 + 11), .int 0, .int 0])), (a0 + 11, .inl (gC G 2, 8, .inr (.inr (.inr (.inr (va_up (fun _ => none) 0 (some (a0 + 12))))))))] s.heap H _ := hB
  refine b_aast (t0 := 2) (r := (RX2, TX2, 6)) hx hb hK hB 1 rfl rfl (c_3 (m0_pk hw (ky_8_2 hG h0) 1 (by decide))) (by omega) (by omega) (x_ne2 (show a0 ≠ a0 + 16 from by omega) (show a0 + 11 ≠ a0 + 16 from by omega)) rfl (i := 1) (by decide) dX7_init_58 (fun H locs hB => ?_)
  replace hB : Bd G a0 20 [(a0, .inr (7, [.ref (a0 + 1), .ref (a0 + 9), .ref (a0 + 11), .int 0, .int 0])), (a0 + 11, .inl (gC G 2, 8, .inr (.inr (.inr (.inr (va_up (va_up (fun _ => none) 0 (some (a0 + 12))) 1 (some (a0 + 16))))))))] s.heap H _ := hB
  refine lv_iinc (v := 2) (lv' := [(1, .int 2), (0, .ref a0)]) hx hb dX7_init_59 hl (k := 0) rfl (by decide) (by decide) rfl (fun ls hl => ?_)
  refine lv_goto (tgt := 37) hx hb dX7_init_62 (by decide) ?_
  refine lv_iload_n hx hb dX7_init_37 rfl (lv_at hl 0 rfl) ?_
  refine lv_aload_n hx hb dX7_init_38 rfl (lv_at hl 1 rfl) ?_
  refine va_get hx hb (lay_7 hts) (fun _ h => h) hown hK hB.1 0 rfl rfl 2 (by decide) (tk_213 hts) (fun _ h => h) rfl dX7_init_39 ?_
  refine va_alen hx hb hK hB.1 1 2 rfl rfl (v := 8) (show Int32.ofNat 8 = 8 from rfl) dX7_init_42 ?_
  refine lv_icmp_ge (tgt := 65) hx hb dX7_init_43 (by decide) (fun g => absurd g (by decide)) (fun _ => ?_)
  refine lv_aload_n hx hb dX7_init_46 rfl (lv_at hl 1 rfl) ?_
  refine va_get hx hb (lay_7 hts) (fun _ h => h) hown hK hB.1 0 rfl rfl 2 (by decide) (tk_213 hts) (fun _ h => h) rfl dX7_init_47 ?_
  refine lv_iload_n hx hb dX7_init_50 rfl (lv_at hl 0 rfl) ?_
  refine b_newN tyX2 hx hb hml hown hts hV hA hK hB (kn_X2 G hG hw l _ (m0_pk hw (ky_8_2 hG h0) 2 (by decide))) wn_X2 (lay_2 hts) tyX2_ok rfl (by decide) (by decide) (tk_206 hts) (tk_208 hts) ⟨Nat.le_of_ble_eq_true rfl, Nat.le_of_ble_eq_true rfl⟩ ⟨Nat.le_of_ble_eq_true rfl, Nat.le_of_ble_eq_true rfl⟩ (lv_size hl) (Nat.le_of_ble_eq_true rfl) dX7_init_51 dX7_init_54 dX7_init_55 (fun H locs hB => ?_)
  replace hB : Bd G a0 24 [(a0, .inr (7, [.ref (a0 + 1), .ref (a0 + 9), .ref (a0 + 11), .int 0, .int 0])), (a0 + 11, .inl (gC G 2, 8, .inr (.inr (.inr (.inr (va_up (va_up (fun _ => none) 0 (some (a0 + 12))) 1 (some (a0 + 16))))))))] s.heap H _ := hB
  refine b_aast (t0 := 2) (r := (RX2, TX2, 6)) hx hb hK hB 1 rfl rfl (c_3 (m0_pk hw (ky_8_2 hG h0) 2 (by decide))) (by omega) (by omega) (x_ne2 (show a0 ≠ a0 + 20 from by omega) (show a0 + 11 ≠ a0 + 20 from by omega)) rfl (i := 2) (by decide) dX7_init_58 (fun H locs hB => ?_)
  replace hB : Bd G a0 24 [(a0, .inr (7, [.ref (a0 + 1), .ref (a0 + 9), .ref (a0 + 11), .int 0, .int 0])), (a0 + 11, .inl (gC G 2, 8, .inr (.inr (.inr (.inr (va_up (va_up (va_up (fun _ => none) 0 (some (a0 + 12))) 1 (some (a0 + 16))) 2 (some (a0 + 20))))))))] s.heap H _ := hB
  refine lv_iinc (v := 3) (lv' := [(1, .int 3), (0, .ref a0)]) hx hb dX7_init_59 hl (k := 0) rfl (by decide) (by decide) rfl (fun ls hl => ?_)
  refine lv_goto (tgt := 37) hx hb dX7_init_62 (by decide) ?_
  refine lv_iload_n hx hb dX7_init_37 rfl (lv_at hl 0 rfl) ?_
  refine lv_aload_n hx hb dX7_init_38 rfl (lv_at hl 1 rfl) ?_
  refine va_get hx hb (lay_7 hts) (fun _ h => h) hown hK hB.1 0 rfl rfl 2 (by decide) (tk_213 hts) (fun _ h => h) rfl dX7_init_39 ?_
  refine va_alen hx hb hK hB.1 1 2 rfl rfl (v := 8) (show Int32.ofNat 8 = 8 from rfl) dX7_init_42 ?_
  refine lv_icmp_ge (tgt := 65) hx hb dX7_init_43 (by decide) (fun g => absurd g (by decide)) (fun _ => ?_)
  refine lv_aload_n hx hb dX7_init_46 rfl (lv_at hl 1 rfl) ?_
  refine va_get hx hb (lay_7 hts) (fun _ h => h) hown hK hB.1 0 rfl rfl 2 (by decide) (tk_213 hts) (fun _ h => h) rfl dX7_init_47 ?_
  refine lv_iload_n hx hb dX7_init_50 rfl (lv_at hl 0 rfl) ?_
  refine b_newN tyX2 hx hb hml hown hts hV hA hK hB (kn_X2 G hG hw l _ (m0_pk hw (ky_8_2 hG h0) 3 (by decide))) wn_X2 (lay_2 hts) tyX2_ok rfl (by decide) (by decide) (tk_206 hts) (tk_208 hts) ⟨Nat.le_of_ble_eq_true rfl, Nat.le_of_ble_eq_true rfl⟩ ⟨Nat.le_of_ble_eq_true rfl, Nat.le_of_ble_eq_true rfl⟩ (lv_size hl) (Nat.le_of_ble_eq_true rfl) dX7_init_51 dX7_init_54 dX7_init_55 (fun H locs hB => ?_)
  replace hB : Bd G a0 28 [(a0, .inr (7, [.ref (a0 + 1), .ref (a0 + 9), .ref (a0 + 11), .int 0, .int 0])), (a0 + 11, .inl (gC G 2, 8, .inr (.inr (.inr (.inr (va_up (va_up (va_up (fun _ => none) 0 (some (a0 + 12))) 1 (some (a0 + 16))) 2 (some (a0 + 20))))))))] s.heap H _ := hB
  refine b_aast (t0 := 2) (r := (RX2, TX2, 6)) hx hb hK hB 1 rfl rfl (c_3 (m0_pk hw (ky_8_2 hG h0) 3 (by decide))) (by omega) (by omega) (x_ne2 (show a0 ≠ a0 + 24 from by omega) (show a0 + 11 ≠ a0 + 24 from by omega)) rfl (i := 3) (by decide) dX7_init_58 (fun H locs hB => ?_)
  replace hB : Bd G a0 28 [(a0, .inr (7, [.ref (a0 + 1), .ref (a0 + 9), .ref (a0 + 11), .int 0, .int 0])), (a0 + 11, .inl (gC G 2, 8, .inr (.inr (.inr (.inr (va_up (va_up (va_up (va_up (fun _ => none) 0 (some (a0 + 12))) 1 (some (a0 + 16))) 2 (some (a0 + 20))) 3 (some (a0 + 24))))))))] s.heap H _ := hB
  refine lv_iinc (v := 4) (lv' := [(1, .int 4), (0, .ref a0)]) hx hb dX7_init_59 hl (k := 0) rfl (by decide) (by decide) rfl (fun ls hl => ?_)
  refine lv_goto (tgt := 37) hx hb dX7_init_62 (by decide) ?_
  refine lv_iload_n hx hb dX7_init_37 rfl (lv_at hl 0 rfl) ?_
  refine lv_aload_n hx hb dX7_init_38 rfl (lv_at hl 1 rfl) ?_
  refine va_get hx hb (lay_7 hts) (fun _ h => h) hown hK hB.1 0 rfl rfl 2 (by decide) (tk_213 hts) (fun _ h => h) rfl dX7_init_39 ?_
  refine va_alen hx hb hK hB.1 1 2 rfl rfl (v := 8) (show Int32.ofNat 8 = 8 from rfl) dX7_init_42 ?_
  refine lv_icmp_ge (tgt := 65) hx hb dX7_init_43 (by decide) (fun g => absurd g (by decide)) (fun _ => ?_)
  refine lv_aload_n hx hb dX7_init_46 rfl (lv_at hl 1 rfl) ?_
  refine va_get hx hb (lay_7 hts) (fun _ h => h) hown hK hB.1 0 rfl rfl 2 (by decide) (tk_213 hts) (fun _ h => h) rfl dX7_init_47 ?_
  refine lv_iload_n hx hb dX7_init_50 rfl (lv_at hl 0 rfl) ?_
  refine b_newN tyX2 hx hb hml hown hts hV hA hK hB (kn_X2 G hG hw l _ (m0_pk hw (ky_8_2 hG h0) 4 (by decide))) wn_X2 (lay_2 hts) tyX2_ok rfl (by decide) (by decide) (tk_206 hts) (tk_208 hts) ⟨Nat.le_of_ble_eq_true rfl, Nat.le_of_ble_eq_true rfl⟩ ⟨Nat.le_of_ble_eq_true rfl, Nat.le_of_ble_eq_true rfl⟩ (lv_size hl) (Nat.le_of_ble_eq_true rfl) dX7_init_51 dX7_init_54 dX7_init_55 (fun H locs hB => ?_)
  replace hB : Bd G a0 32 [(a0, .inr (7, [.ref (a0 + 1), .ref (a0 + 9), .ref (a0 + 11), .int 0, .int 0])), (a0 + 11, .inl (gC G 2, 8, .inr (.inr (.inr (.inr (va_up (va_up (va_up (va_up (fun _ => none) 0 (some (a0 + 12))) 1 (some (a0 + 16))) 2 (some (a0 + 20))) 3 (some (a0 + 24))))))))] s.heap H _ := hB
  refine b_aast (t0 := 2) (r := (RX2, TX2, 6)) hx hb hK hB 1 rfl rfl (c_3 (m0_pk hw (ky_8_2 hG h0) 4 (by decide))) (by omega) (by omega) (x_ne2 (show a0 ≠ a0 + 28 from by omega) (show a0 + 11 ≠ a0 + 28 from by omega)) rfl (i := 4) (by decide) dX7_init_58 (fun H locs hB => ?_)
  replace hB : Bd G a0 32 [(a0, .inr (7, [.ref (a0 + 1), .ref (a0 + 9), .ref (a0 + 11), .int 0, .int 0])), (a0 + 11, .inl (gC G 2, 8, .inr (.inr (.inr (.inr (va_up (va_up (va_up (va_up (va_up (fun _ => none) 0 (some (a0 + 12))) 1 (some (a0 + 16))) 2 (some (a0 + 20))) 3 (some (a0 + 24))) 4 (some (a0 + 28))))))))] s.heap H _ := hB
  refine lv_iinc (v := 5) (lv' := [(1, .int 5), (0, .ref a0)]) hx hb dX7_init_59 hl (k := 0) rfl (by decide) (by decide) rfl (fun ls hl => ?_)
  refine lv_goto (tgt := 37) hx hb dX7_init_62 (by decide) ?_
  refine lv_iload_n hx hb dX7_init_37 rfl (lv_at hl 0 rfl) ?_
  refine lv_aload_n hx hb dX7_init_38 rfl (lv_at hl 1 rfl) ?_
  refine va_get hx hb (lay_7 hts) (fun _ h => h) hown hK hB.1 0 rfl rfl 2 (by decide) (tk_213 hts) (fun _ h => h) rfl dX7_init_39 ?_
  refine va_alen hx hb hK hB.1 1 2 rfl rfl (v := 8) (show Int32.ofNat 8 = 8 from rfl) dX7_init_42 ?_
  refine lv_icmp_ge (tgt := 65) hx hb dX7_init_43 (by decide) (fun g => absurd g (by decide)) (fun _ => ?_)
  refine lv_aload_n hx hb dX7_init_46 rfl (lv_at hl 1 rfl) ?_
  refine va_get hx hb (lay_7 hts) (fun _ h => h) hown hK hB.1 0 rfl rfl 2 (by decide) (tk_213 hts) (fun _ h => h) rfl dX7_init_47 ?_
  refine lv_iload_n hx hb dX7_init_50 rfl (lv_at hl 0 rfl) ?_
  refine b_newN tyX2 hx hb hml hown hts hV hA hK hB (kn_X2 G hG hw l _ (m0_pk hw (ky_8_2 hG h0) 5 (by decide))) wn_X2 (lay_2 hts) tyX2_ok rfl (by decide) (by decide) (tk_206 hts) (tk_208 hts) ⟨Nat.le_of_ble_eq_true rfl, Nat.le_of_ble_eq_true rfl⟩ ⟨Nat.le_of_ble_eq_true rfl, Nat.le_of_ble_eq_true rfl⟩ (lv_size hl) (Nat.le_of_ble_eq_true rfl) dX7_init_51 dX7_init_54 dX7_init_55 (fun H locs hB => ?_)
  replace hB : Bd G a0 36 [(a0, .inr (7, [.ref (a0 + 1), .ref (a0 + 9), .ref (a0 + 11), .int 0, .int 0])), (a0 + 11, .inl (gC G 2, 8, .inr (.inr (.inr (.inr (va_up (va_up (va_up (va_up (va_up (fun _ => none) 0 (some (a0 + 12))) 1 (some (a0 + 16))) 2 (some (a0 + 20))) 3 (some (a0 + 24))) 4 (some (a0 + 28))))))))] s.heap H _ := hB
  refine b_aast (t0 := 2) (r := (RX2, TX2, 6)) hx hb hK hB 1 rfl rfl (c_3 (m0_pk hw (ky_8_2 hG h0) 5 (by decide))) (by omega) (by omega) (x_ne2 (show a0 ≠ a0 + 32 from by omega) (show a0 + 11 ≠ a0 + 32 from by omega)) rfl (i := 5) (by decide) dX7_init_58 (fun H locs hB => ?_)
  replace hB : Bd G a0 36 [(a0, .inr (7, [.ref (a0 + 1), .ref (a0 + 9), .ref (a0 + 11), .int 0, .int 0])), (a0 + 11, .inl (gC G 2, 8, .inr (.inr (.inr (.inr (va_up (va_up (va_up (va_up (va_up (va_up (fun _ => none) 0 (some (a0 + 12))) 1 (some (a0 + 16))) 2 (some (a0 + 20))) 3 (some (a0 + 24))) 4 (some (a0 + 28))) 5 (some (a0 + 32))))))))] s.heap H _ := hB
  refine lv_iinc (v := 6) (lv' := [(1, .int 6), (0, .ref a0)]) hx hb dX7_init_59 hl (k := 0) rfl (by decide) (by decide) rfl (fun ls hl => ?_)
  refine lv_goto (tgt := 37) hx hb dX7_init_62 (by decide) ?_
  refine lv_iload_n hx hb dX7_init_37 rfl (lv_at hl 0 rfl) ?_
  refine lv_aload_n hx hb dX7_init_38 rfl (lv_at hl 1 rfl) ?_
  refine va_get hx hb (lay_7 hts) (fun _ h => h) hown hK hB.1 0 rfl rfl 2 (by decide) (tk_213 hts) (fun _ h => h) rfl dX7_init_39 ?_
  refine va_alen hx hb hK hB.1 1 2 rfl rfl (v := 8) (show Int32.ofNat 8 = 8 from rfl) dX7_init_42 ?_
  refine lv_icmp_ge (tgt := 65) hx hb dX7_init_43 (by decide) (fun g => absurd g (by decide)) (fun _ => ?_)
  refine lv_aload_n hx hb dX7_init_46 rfl (lv_at hl 1 rfl) ?_
  refine va_get hx hb (lay_7 hts) (fun _ h => h) hown hK hB.1 0 rfl rfl 2 (by decide) (tk_213 hts) (fun _ h => h) rfl dX7_init_47 ?_
  refine lv_iload_n hx hb dX7_init_50 rfl (lv_at hl 0 rfl) ?_
  refine b_newN tyX2 hx hb hml hown hts hV hA hK hB (kn_X2 G hG hw l _ (m0_pk hw (ky_8_2 hG h0) 6 (by decide))) wn_X2 (lay_2 hts) tyX2_ok rfl (by decide) (by decide) (tk_206 hts) (tk_208 hts) ⟨Nat.le_of_ble_eq_true rfl, Nat.le_of_ble_eq_true rfl⟩ ⟨Nat.le_of_ble_eq_true rfl, Nat.le_of_ble_eq_true rfl⟩ (lv_size hl) (Nat.le_of_ble_eq_true rfl) dX7_init_51 dX7_init_54 dX7_init_55 (fun H locs hB => ?_)
  replace hB : Bd G a0 40 [(a0, .inr (7, [.ref (a0 + 1), .ref (a0 + 9), .ref (a0 + 11), .int 0, .int 0])), (a0 + 11, .inl (gC G 2, 8, .inr (.inr (.inr (.inr (va_up (va_up (va_up (va_up (va_up (va_up (fun _ => none) 0 (some (a0 + 12))) 1 (some (a0 + 16))) 2 (some (a0 + 20))) 3 (some (a0 + 24))) 4 (some (a0 + 28))) 5 (some (a0 + 32))))))))] s.heap H _ := hB
  refine b_aast (t0 := 2) (r := (RX2, TX2, 6)) hx hb hK hB 1 rfl rfl (c_3 (m0_pk hw (ky_8_2 hG h0) 6 (by decide))) (by omega) (by omega) (x_ne2 (show a0 ≠ a0 + 36 from by omega) (show a0 + 11 ≠ a0 + 36 from by omega)) rfl (i := 6) (by decide) dX7_init_58 (fun H locs hB => ?_)
  replace hB : Bd G a0 40 [(a0, .inr (7, [.ref (a0 + 1), .ref (a0 + 9), .ref (a0 + 11), .int 0, .int 0])), (a0 + 11, .inl (gC G 2, 8, .inr (.inr (.inr (.inr (va_up (va_up (va_up (va_up (va_up (va_up (va_up (fun _ => none) 0 (some (a0 + 12))) 1 (some (a0 + 16))) 2 (some (a0 + 20))) 3 (some (a0 + 24))) 4 (some (a0 + 28))) 5 (some (a0 + 32))) 6 (some (a0 + 36))))))))] s.heap H _ := hB
  refine lv_iinc (v := 7) (lv' := [(1, .int 7), (0, .ref a0)]) hx hb dX7_init_59 hl (k := 0) rfl (by decide) (by decide) rfl (fun ls hl => ?_)
  refine lv_goto (tgt := 37) hx hb dX7_init_62 (by decide) ?_
  refine lv_iload_n hx hb dX7_init_37 rfl (lv_at hl 0 rfl) ?_
  refine lv_aload_n hx hb dX7_init_38 rfl (lv_at hl 1 rfl) ?_
  refine va_get hx hb (lay_7 hts) (fun _ h => h) hown hK hB.1 0 rfl rfl 2 (by decide) (tk_213 hts) (fun _ h => h) rfl dX7_init_39 ?_
  refine va_alen hx hb hK hB.1 1 2 rfl rfl (v := 8) (show Int32.ofNat 8 = 8 from rfl) dX7_init_42 ?_
  refine lv_icmp_ge (tgt := 65) hx hb dX7_init_43 (by decide) (fun g => absurd g (by decide)) (fun _ => ?_)
  refine lv_aload_n hx hb dX7_init_46 rfl (lv_at hl 1 rfl) ?_
  refine va_get hx hb (lay_7 hts) (fun _ h => h) hown hK hB.1 0 rfl rfl 2 (by decide) (tk_213 hts) (fun _ h => h) rfl dX7_init_47 ?_
  refine lv_iload_n hx hb dX7_init_50 rfl (lv_at hl 0 rfl) ?_
  refine b_newN tyX2 hx hb hml hown hts hV hA hK hB (kn_X2 G hG hw l _ (m0_pk hw (ky_8_2 hG h0) 7 (by decide))) wn_X2 (lay_2 hts) tyX2_ok rfl (by decide) (by decide) (tk_206 hts) (tk_208 hts) ⟨Nat.le_of_ble_eq_true rfl, Nat.le_of_ble_eq_true rfl⟩ ⟨Nat.le_of_ble_eq_true rfl, Nat.le_of_ble_eq_true rfl⟩ (lv_size hl) (Nat.le_of_ble_eq_true rfl) dX7_init_51 dX7_init_54 dX7_init_55 (fun H locs hB => ?_)
  replace hB : Bd G a0 44 [(a0, .inr (7, [.ref (a0 + 1), .ref (a0 + 9), .ref (a0 + 11), .int 0, .int 0])), (a0 + 11, .inl (gC G 2, 8, .inr (.inr (.inr (.inr (va_up (va_up (va_up (va_up (va_up (va_up (va_up (fun _ => none) 0 (some (a0 + 12))) 1 (some (a0 + 16))) 2 (some (a0 + 20))) 3 (some (a0 + 24))) 4 (some (a0 + 28))) 5 (some (a0 + 32))) 6 (some (a0 + 36))))))))] s.heap H _ := hB
  refine b_aast (t0 := 2) (r := (RX2, TX2, 6)) hx hb hK hB 1 rfl rfl (c_3 (m0_pk hw (ky_8_2 hG h0) 7 (by decide))) (by omega) (by omega) (x_ne2 (show a0 ≠ a0 + 40 from by omega) (show a0 + 11 ≠ a0 + 40 from by omega)) rfl (i := 7) (by decide) dX7_init_58 (fun H locs hB => ?_)
  replace hB : Bd G a0 44 [(a0, .inr (7, [.ref (a0 + 1), .ref (a0 + 9), .ref (a0 + 11), .int 0, .int 0])), (a0 + 11, .inl (gC G 2, 8, .inr (.inr (.inr (.inr (va_up (va_up (va_up (va_up (va_up (va_up (va_up (va_up (fun _ => none) 0 (some (a0 + 12))) 1 (some (a0 + 16))) 2 (some (a0 + 20))) 3 (some (a0 + 24))) 4 (some (a0 + 28))) 5 (some (a0 + 32))) 6 (some (a0 + 36))) 7 (some (a0 + 40))))))))] s.heap H _ := hB
  refine lv_iinc (v := 8) (lv' := [(1, .int 8), (0, .ref a0)]) hx hb dX7_init_59 hl (k := 0) rfl (by decide) (by decide) rfl (fun ls hl => ?_)
  refine lv_goto (tgt := 37) hx hb dX7_init_62 (by decide) ?_
  refine lv_iload_n hx hb dX7_init_37 rfl (lv_at hl 0 rfl) ?_
  refine lv_aload_n hx hb dX7_init_38 rfl (lv_at hl 1 rfl) ?_
  refine va_get hx hb (lay_7 hts) (fun _ h => h) hown hK hB.1 0 rfl rfl 2 (by decide) (tk_213 hts) (fun _ h => h) rfl dX7_init_39 ?_
  refine va_alen hx hb hK hB.1 1 2 rfl rfl (v := 8) (show Int32.ofNat 8 = 8 from rfl) dX7_init_42 ?_
  refine lv_icmp_ge (tgt := 65) hx hb dX7_init_43 (by decide) (fun _ => ?_) (fun g => absurd (by decide) g)
  exact b_end hx hb hr hlocks hB (List.forall_mem_cons.mpr ⟨fun _ _ => (fin_eq ((c_8 h0).trans (by rw [m0_i h0 (by decide)]))), List.forall_mem_cons.mpr ⟨fun _ _ => (fin_arr (cel_pa (ky_8_2 hG h0)) (fun j hj => by match j, hj with | 0, _ => rw [m0_p (ky_8_2 hG h0) _]; rfl | 1, _ => rw [m0_p (ky_8_2 hG h0) _]; rfl | 2, _ => rw [m0_p (ky_8_2 hG h0) _]; rfl | 3, _ => rw [m0_p (ky_8_2 hG h0) _]; rfl | 4, _ => rw [m0_p (ky_8_2 hG h0) _]; rfl | 5, _ => rw [m0_p (ky_8_2 hG h0) _]; rfl | 6, _ => rw [m0_p (ky_8_2 hG h0) _]; rfl | 7, _ => rw [m0_p (ky_8_2 hG h0) _]; rfl | j + 8, hj => omega)), List.forall_mem_nil _⟩⟩) dX7_init_65
set_option maxHeartbeats 4000000 in
set_option maxRecDepth 100000 in
theorem kn_X5 (G : Gt) (hG : gOK G) (hw : wfM G (M0 G)) (l : Launch) (a0 : Nat) (h0 : gK G a0 = 6) : Kn G l yX5_init cX5_init 2 ({ frames := 5, cells := 135, slots := 992, locals := 93 } : Room) a0 5 [.null, .null] 136 := by
  refine startN (by decide) rfl (by decide) ?_
  intro p e s m args below meth c ls hx hb hr hown hml hlocks hin hts hV hA hB hl
  have hown : s.vm.findClass "FoldedVoices$State" = some m.cls := hown
  have hK := hG.1.moved hV
  have hl : lv_has ls 2 [(0, .ref a0)] := hl
  refine lv_aload_n hx hb dX5_init_0 rfl (lv_at hl 0 rfl) ?_
  refine b_init hx hb hml hown (tk_31 hts) (tk_24 hts) (tk_25 hts) (lv_size hl) (Nat.le_of_ble_eq_true rfl) (Nat.le_of_ble_eq_true rfl) dX5_init_1 ?_
  refine lv_aload_n hx hb dX5_init_4 rfl (lv_at hl 0 rfl) ?_
  refine lv_iconst (v := 3) hx hb dX5_init_5 (by decide) ?_
  refine b_anew hx hb hown (tk_32 hts) hA.2.1 (ra_o (hK.2 3 _ rfl).2) hB (n := 3) (N := 3) (by decide) (by decide) (by decide) (Nat.le_of_ble_eq_true rfl) (Nat.le_of_ble_eq_true rfl) dX5_init_6 (fun H hB => ?_)
  replace hB : Bd G a0 2 [(a0, .inr (5, [.null, .null])), (a0 + 1, .inl (gC G 3, 3, .inr (.inr (.inr (.inr (fun _ => none))))))] s.heap H _ := hB
  refine b_put tyX5 hx hb (lay_5 hts) tyX5_ok nmX5 hown hK hin hB 0 rfl rfl 0 (by decide) rfl rfl rfl rfl (Nat.le_of_ble_eq_true rfl) rfl (tk_230 hts) dX5_init_9 (fun H locs hB => ?_)
  replace hB : Bd G a0 2 [(a0, .inr (5, [.ref (a0 + 1), .null])), (a0 + 1, .inl (gC G 3, 3, .inr (.inr (.inr (.inr (fun _ => none))))))] s.heap H _ := hB
  refine lv_aload_n hx hb dX5_init_12 rfl (lv_at hl 0 rfl) ?_
  refine b_newN tyX4 hx hb hml hown hts hV hA hK hB (kn_X4 G hG hw l _ (ky_6_1 hG h0)) wn_X4 (lay_4 hts) tyX4_ok rfl (by decide) (by decide) (tk_34 hts) (tk_36 hts) ⟨Nat.le_of_ble_eq_true rfl, Nat.le_of_ble_eq_true rfl⟩ ⟨Nat.le_of_ble_eq_true rfl, Nat.le_of_ble_eq_true rfl⟩ (lv_size hl) (Nat.le_of_ble_eq_true rfl) dX5_init_13 dX5_init_16 dX5_init_17 (fun H locs hB => ?_)
  replace hB : Bd G a0 4 [(a0, .inr (5, [.ref (a0 + 1), .null])), (a0 + 1, .inl (gC G 3, 3, .inr (.inr (.inr (.inr (fun _ => none))))))] s.heap H _ := hB
  refine b_put tyX5 hx hb (lay_5 hts) tyX5_ok nmX5 hown hK hin hB 0 rfl rfl 1 (by decide) rfl rfl rfl rfl (Nat.le_of_ble_eq_true rfl) rfl (tk_232 hts) dX5_init_20 (fun H locs hB => ?_)
  replace hB : Bd G a0 4 [(a0, .inr (5, [.ref (a0 + 1), .ref (a0 + 2)])), (a0 + 1, .inl (gC G 3, 3, .inr (.inr (.inr (.inr (fun _ => none))))))] s.heap H _ := hB
  refine lv_iconst (v := 0) hx hb dX5_init_23 (by decide) ?_
  refine lv_istore_n (lv' := [(1, .int 0), (0, .ref a0)]) hx hb dX5_init_24 rfl hl (by decide) rfl (fun ls hl => ?_)
  refine lv_iload_n hx hb dX5_init_25 rfl (lv_at hl 0 rfl) ?_
  refine lv_aload_n hx hb dX5_init_26 rfl (lv_at hl 1 rfl) ?_
  refine va_get hx hb (lay_5 hts) (fun _ h => h) hown hK hB.1 0 rfl rfl 0 (by decide) (tk_230 hts) (fun _ h => h) rfl dX5_init_27 ?_
  refine va_alen hx hb hK hB.1 1 3 rfl rfl (v := 3) (show Int32.ofNat 3 = 3 from rfl) dX5_init_30 ?_
  refine lv_icmp_ge (tgt := 53) hx hb dX5_init_31 (by decide) (fun g => absurd g (by decide)) (fun _ => ?_)
  refine lv_aload_n hx hb dX5_init_34 rfl (lv_at hl 1 rfl) ?_
  refine va_get hx hb (lay_5 hts) (fun _ h => h) hown hK hB.1 0 rfl rfl 0 (by decide) (tk_230 hts) (fun _ h => h) rfl dX5_init_35 ?_
  refine lv_iload_n hx hb dX5_init_38 rfl (lv_at hl 0 rfl) ?_
  refine b_new tyX7 hx hb hml hown hts hV hA hK hB (kn_X7 G hG hw l _ (ky_vs hG (ky_6_0 hG h0) 0 (by decide))) wn_X7 (lay_7 hts) tyX7_ok rfl (by decide) (by decide) (tk_32 hts) (tk_46 hts) ⟨Nat.le_of_ble_eq_true rfl, Nat.le_of_ble_eq_true rfl⟩ ⟨Nat.le_of_ble_eq_true rfl, Nat.le_of_ble_eq_true rfl⟩ (lv_size hl) (Nat.le_of_ble_eq_true rfl) dX5_init_39 dX5_init_42 dX5_init_43 (fun H locs hB => ?_)
  replace hB : Bd G a0 48 [(a0, .inr (5, [.ref (a0 + 1), .ref (a0 + 2)])), (a0 + 1, .inl (gC G 3, 3, .inr (.inr (.inr (.inr (fun _ => none))))))] s.heap H _ := hB
  refine b_aast (t0 := 3) (r := (RX7, TX7, 5)) hx hb hK hB 1 rfl rfl (c_8 (ky_vs hG (ky_6_0 hG h0) 0 (by decide))) (by omega) (by omega) (x_ne2 (show a0 ≠ a0 + 4 from by omega) (show a0 + 1 ≠ a0 + 4 from by omega)) rfl (i := 0) (by decide) dX5_init_46 (fun H locs hB => ?_)
  replace hB : Bd G a0 48 [(a0, .inr (5, [.ref (a0 + 1), .ref (a0 + 2)])), (a0 + 1, .inl (gC G 3, 3, .inr (.inr (.inr (.inr (va_up (fun _ => none) 0 (some (a0 + 4))))))))] s.heap H _ := hB
  refine lv_iinc (v := 1) (lv' := [(1, .int 1), (0, .ref a0)]) hx hb dX5_init_47 hl (k := 0) rfl (by decide) (by decide) rfl (fun ls hl => ?_)
  refine lv_goto (tgt := 25) hx hb dX5_init_50 (by decide) ?_
  refine lv_iload_n hx hb dX5_init_25 rfl (lv_at hl 0 rfl) ?_
  refine lv_aload_n hx hb dX5_init_26 rfl (lv_at hl 1 rfl) ?_
  refine va_get hx hb (lay_5 hts) (fun _ h => h) hown hK hB.1 0 rfl rfl 0 (by decide) (tk_230 hts) (fun _ h => h) rfl dX5_init_27 ?_
  refine va_alen hx hb hK hB.1 1 3 rfl rfl (v := 3) (show Int32.ofNat 3 = 3 from rfl) dX5_init_30 ?_
  refine lv_icmp_ge (tgt := 53) hx hb dX5_init_31 (by decide) (fun g => absurd g (by decide)) (fun _ => ?_)
  refine lv_aload_n hx hb dX5_init_34 rfl (lv_at hl 1 rfl) ?_
  refine va_get hx hb (lay_5 hts) (fun _ h => h) hown hK hB.1 0 rfl rfl 0 (by decide) (tk_230 hts) (fun _ h => h) rfl dX5_init_35 ?_
  refine lv_iload_n hx hb dX5_init_38 rfl (lv_at hl 0 rfl) ?_
  refine b_new tyX7 hx hb hml hown hts hV hA hK hB (kn_X7 G hG hw l _ (ky_vs hG (ky_6_0 hG h0) 1 (by decide))) wn_X7 (lay_7 hts) tyX7_ok rfl (by decide) (by decide) (tk_32 hts) (tk_46 hts) ⟨Nat.le_of_ble_eq_true rfl, Nat.le_of_ble_eq_true rfl⟩ ⟨Nat.le_of_ble_eq_true rfl, Nat.le_of_ble_eq_true rfl⟩ (lv_size hl) (Nat.le_of_ble_eq_true rfl) dX5_init_39 dX5_init_42 dX5_init_43 (fun H locs hB => ?_)
  replace hB : Bd G a0 92 [(a0, .inr (5, [.ref (a0 + 1), .ref (a0 + 2)])), (a0 + 1, .inl (gC G 3, 3, .inr (.inr (.inr (.inr (va_up (fun _ => none) 0 (some (a0 + 4))))))))] s.heap H _ := hB
  refine b_aast (t0 := 3) (r := (RX7, TX7, 5)) hx hb hK hB 1 rfl rfl (c_8 (ky_vs hG (ky_6_0 hG h0) 1 (by decide))) (by omega) (by omega) (x_ne2 (show a0 ≠ a0 + 48 from by omega) (show a0 + 1 ≠ a0 + 48 from by omega)) rfl (i := 1) (by decide) dX5_init_46 (fun H locs hB => ?_)
  replace hB : Bd G a0 92 [(a0, .inr (5, [.ref (a0 + 1), .ref (a0 + 2)])), (a0 + 1, .inl (gC G 3, 3, .inr (.inr (.inr (.inr (va_up (va_up (fun _ => none) 0 (some (a0 + 4))) 1 (some (a0 + 48))))))))] s.heap H _ := hB
  refine lv_iinc (v := 2) (lv' := [(1, .int 2), (0, .ref a0)]) hx hb dX5_init_47 hl (k := 0) rfl (by decide) (by decide) rfl (fun ls hl => ?_)
  refine lv_goto (tgt := 25) hx hb dX5_init_50 (by decide) ?_
  refine lv_iload_n hx hb dX5_init_25 rfl (lv_at hl 0 rfl) ?_
  refine lv_aload_n hx hb dX5_init_26 rfl (lv_at hl 1 rfl) ?_
  refine va_get hx hb (lay_5 hts) (fun _ h => h) hown hK hB.1 0 rfl rfl 0 (by decide) (tk_230 hts) (fun _ h => h) rfl dX5_init_27 ?_
  refine va_alen hx hb hK hB.1 1 3 rfl rfl (v := 3) (show Int32.ofNat 3 = 3 from rfl) dX5_init_30 ?_
  refine lv_icmp_ge (tgt := 53) hx hb dX5_init_31 (by decide) (fun g => absurd g (by decide)) (fun _ => ?_)
  refine lv_aload_n hx hb dX5_init_34 rfl (lv_at hl 1 rfl) ?_
  refine va_get hx hb (lay_5 hts) (fun _ h => h) hown hK hB.1 0 rfl rfl 0 (by decide) (tk_230 hts) (fun _ h => h) rfl dX5_init_35 ?_
  refine lv_iload_n hx hb dX5_init_38 rfl (lv_at hl 0 rfl) ?_
  refine b_new tyX7 hx hb hml hown hts hV hA hK hB (kn_X7 G hG hw l _ (ky_vs hG (ky_6_0 hG h0) 2 (by decide))) wn_X7 (lay_7 hts) tyX7_ok rfl (by decide) (by decide) (tk_32 hts) (tk_46 hts) ⟨Nat.le_of_ble_eq_true rfl, Nat.le_of_ble_eq_true rfl⟩ ⟨Nat.le_of_ble_eq_true rfl, Nat.le_of_ble_eq_true rfl⟩ (lv_size hl) (Nat.le_of_ble_eq_true rfl) dX5_init_39 dX5_init_42 dX5_init_43 (fun H locs hB => ?_)
  replace hB : Bd G a0 136 [(a0, .inr (5, [.ref (a0 + 1), .ref (a0 + 2)])), (a0 + 1, .inl (gC G 3, 3, .inr (.inr (.inr (.inr (va_up (va_up (fun _ => none) 0 (some (a0 + 4))) 1 (some (a0 + 48))))))))] s.heap H _ := hB
  refine b_aast (t0 := 3) (r := (RX7, TX7, 5)) hx hb hK hB 1 rfl rfl (c_8 (ky_vs hG (ky_6_0 hG h0) 2 (by decide))) (by omega) (by omega) (x_ne2 (show a0 ≠ a0 + 92 from by omega) (show a0 + 1 ≠ a0 + 92 from by omega)) rfl (i := 2) (by decide) dX5_init_46 (fun H locs hB => ?_)
  replace hB : Bd G a0 136 [(a0, .inr (5, [.ref (a0 + 1), .ref (a0 + 2)])), (a0 + 1, .inl (gC G 3, 3, .inr (.inr (.inr (.inr (va_up (va_up (va_up (fun _ => none) 0 (some (a0 + 4))) 1 (some (a0 + 48))) 2 (some (a0 + 92))))))))] s.heap H _ := hB
  refine lv_iinc (v := 3) (lv' := [(1, .int 3), (0, .ref a0)]) hx hb dX5_init_47 hl (k := 0) rfl (by decide) (by decide) rfl (fun ls hl => ?_)
  refine lv_goto (tgt := 25) hx hb dX5_init_50 (by decide) ?_
  refine lv_iload_n hx hb dX5_init_25 rfl (lv_at hl 0 rfl) ?_
  refine lv_aload_n hx hb dX5_init_26 rfl (lv_at hl 1 rfl) ?_
  refine va_get hx hb (lay_5 hts) (fun _ h => h) hown hK hB.1 0 rfl rfl 0 (by decide) (tk_230 hts) (fun _ h => h) rfl dX5_init_27 ?_
  refine va_alen hx hb hK hB.1 1 3 rfl rfl (v := 3) (show Int32.ofNat 3 = 3 from rfl) dX5_init_30 ?_
  refine lv_icmp_ge (tgt := 53) hx hb dX5_init_31 (by decide) (fun _ => ?_) (fun g => absurd (by decide) g)
  exact b_end hx hb hr hlocks hB (List.forall_mem_cons.mpr ⟨fun _ _ => (fin_eq ((c_6 h0).trans rfl)), List.forall_mem_cons.mpr ⟨fun _ _ => (fin_arr (cel_va (ky_6_0 hG h0)) (fun j hj => by match j, hj with | 0, _ => rfl | 1, _ => rfl | 2, _ => rfl | j + 3, hj => omega)), List.forall_mem_nil _⟩⟩) dX5_init_53
set_option maxHeartbeats 4000000 in
set_option maxRecDepth 100000 in
theorem kn_X8 (G : Gt) (hG : gOK G) (hw : wfM G (M0 G)) (l : Launch) (a0 : Nat) (h0 : gK G a0 = 9) : Kn G l yX8_init cX8_init 2 ({ frames := 6, cells := 1094, slots := 8039, locals := 114 } : Room) a0 8 [.null, .null, .int 0, .null, .int 0, .null, .null, .null] 1095 := by
  refine startN (by decide) rfl (by decide) ?_
  intro p e s m args below meth c ls hx hb hr hown hml hlocks hin hts hV hA hB hl
  have hown : s.vm.findClass "FoldedVoices" = some m.cls := hown
  have hK := hG.1.moved hV
  have hl : lv_has ls 2 [(0, .ref a0)] := hl
  refine lv_aload_n hx hb dX8_init_0 rfl (lv_at hl 0 rfl) ?_
  refine b_init hx hb hml hown (tk_23 hts) (tk_24 hts) (tk_25 hts) (lv_size hl) (Nat.le_of_ble_eq_true rfl) (Nat.le_of_ble_eq_true rfl) dX8_init_1 ?_
  refine lv_aload_n hx hb dX8_init_4 rfl (lv_at hl 0 rfl) ?_
  refine b_new tyX5 hx hb hml hown hts hV hA hK hB (kn_X5 G hG hw l _ (ky_9_0 hG h0)) wn_X5 (lay_5 hts) tyX5_ok rfl (by decide) (by decide) (tk_26 hts) (tk_28 hts) ⟨Nat.le_of_ble_eq_true rfl, Nat.le_of_ble_eq_true rfl⟩ ⟨Nat.le_of_ble_eq_true rfl, Nat.le_of_ble_eq_true rfl⟩ (lv_size hl) (Nat.le_of_ble_eq_true rfl) dX8_init_5 dX8_init_8 dX8_init_9 (fun H locs hB => ?_)
  replace hB : Bd G a0 137 [(a0, .inr (8, [.null, .null, .int 0, .null, .int 0, .null, .null, .null]))] s.heap H _ := hB
  refine b_put tyX8 hx hb (lay_8 hts) tyX8_ok nmX8 hown hK hin hB 0 rfl rfl 0 (by decide) rfl rfl rfl rfl (Nat.le_of_ble_eq_true rfl) rfl (tk_267 hts) dX8_init_12 (fun H locs hB => ?_)
  replace hB : Bd G a0 137 [(a0, .inr (8, [.ref (a0 + 1), .null, .int 0, .null, .int 0, .null, .null, .null]))] s.heap H _ := hB
  refine lv_aload_n hx hb dX8_init_15 rfl (lv_at hl 0 rfl) ?_
  refine b_new tyX5 hx hb hml hown hts hV hA hK hB (kn_X5 G hG hw l _ (ky_9_1 hG h0)) wn_X5 (lay_5 hts) tyX5_ok rfl (by decide) (by decide) (tk_26 hts) (tk_28 hts) ⟨Nat.le_of_ble_eq_true rfl, Nat.le_of_ble_eq_true rfl⟩ ⟨Nat.le_of_ble_eq_true rfl, Nat.le_of_ble_eq_true rfl⟩ (lv_size hl) (Nat.le_of_ble_eq_true rfl) dX8_init_16 dX8_init_19 dX8_init_20 (fun H locs hB => ?_)
  replace hB : Bd G a0 273 [(a0, .inr (8, [.ref (a0 + 1), .null, .int 0, .null, .int 0, .null, .null, .null]))] s.heap H _ := hB
  refine b_put tyX8 hx hb (lay_8 hts) tyX8_ok nmX8 hown hK hin hB 0 rfl rfl 1 (by decide) rfl rfl rfl rfl (Nat.le_of_ble_eq_true rfl) rfl (tk_268 hts) dX8_init_23 (fun H locs hB => ?_)
  replace hB : Bd G a0 273 [(a0, .inr (8, [.ref (a0 + 1), .ref (a0 + 137), .int 0, .null, .int 0, .null, .null, .null]))] s.heap H _ := hB
  refine lv_aload_n hx hb dX8_init_26 rfl (lv_at hl 0 rfl) ?_
  refine lv_bipush (v := 6) hx hb dX8_init_27 (by decide) ?_
  refine b_anew hx hb hown (tk_26 hts) hA.2.2 (ra_o (hK.2 4 _ rfl).2) hB (n := 6) (N := 6) (by decide) (by decide) (by decide) (Nat.le_of_ble_eq_true rfl) (Nat.le_of_ble_eq_true rfl) dX8_init_29 (fun H hB => ?_)
  replace hB : Bd G a0 274 [(a0, .inr (8, [.ref (a0 + 1), .ref (a0 + 137), .int 0, .null, .int 0, .null, .null, .null])), (a0 + 273, .inl (gC G 4, 6, .inr (.inr (.inr (.inr (fun _ => none))))))] s.heap H _ := hB
  refine b_put tyX8 hx hb (lay_8 hts) tyX8_ok nmX8 hown hK hin hB 0 rfl rfl 3 (by decide) rfl rfl rfl rfl (Nat.le_of_ble_eq_true rfl) rfl (tk_269 hts) dX8_init_32 (fun H locs hB => ?_)
  replace hB : Bd G a0 274 [(a0, .inr (8, [.ref (a0 + 1), .ref (a0 + 137), .int 0, .ref (a0 + 273), .int 0, .null, .null, .null])), (a0 + 273, .inl (gC G 4, 6, .inr (.inr (.inr (.inr (fun _ => none))))))] s.heap H _ := hB
  refine lv_aload_n hx hb dX8_init_35 rfl (lv_at hl 0 rfl) ?_
  refine b_newN tyX6 hx hb hml hown hts hV hA hK hB (kn_X6 G hG hw l _ (ky_9_5 hG h0)) wn_X6 (lay_6 hts) tyX6_ok rfl (by decide) (by decide) (tk_240 hts) (tk_242 hts) ⟨Nat.le_of_ble_eq_true rfl, Nat.le_of_ble_eq_true rfl⟩ ⟨Nat.le_of_ble_eq_true rfl, Nat.le_of_ble_eq_true rfl⟩ (lv_size hl) (Nat.le_of_ble_eq_true rfl) dX8_init_36 dX8_init_39 dX8_init_40 (fun H locs hB => ?_)
  replace hB : Bd G a0 276 [(a0, .inr (8, [.ref (a0 + 1), .ref (a0 + 137), .int 0, .ref (a0 + 273), .int 0, .null, .null, .null])), (a0 + 273, .inl (gC G 4, 6, .inr (.inr (.inr (.inr (fun _ => none))))))] s.heap H _ := hB
  refine b_put tyX8 hx hb (lay_8 hts) tyX8_ok nmX8 hown hK hin hB 0 rfl rfl 5 (by decide) rfl rfl rfl rfl (Nat.le_of_ble_eq_true rfl) rfl (tk_271 hts) dX8_init_43 (fun H locs hB => ?_)
  replace hB : Bd G a0 276 [(a0, .inr (8, [.ref (a0 + 1), .ref (a0 + 137), .int 0, .ref (a0 + 273), .int 0, .ref (a0 + 274), .null, .null])), (a0 + 273, .inl (gC G 4, 6, .inr (.inr (.inr (.inr (fun _ => none))))))] s.heap H _ := hB
  refine lv_aload_n hx hb dX8_init_46 rfl (lv_at hl 0 rfl) ?_
  refine b_newN tyX0 hx hb hml hown hts hV hA hK hB (kn_X0 G hG hw l _ (ky_9_6 hG h0)) wn_X0 (lay_0 hts) tyX0_ok rfl (by decide) (by decide) (tk_263 hts) (tk_264 hts) ⟨Nat.le_of_ble_eq_true rfl, Nat.le_of_ble_eq_true rfl⟩ ⟨Nat.le_of_ble_eq_true rfl, Nat.le_of_ble_eq_true rfl⟩ (lv_size hl) (Nat.le_of_ble_eq_true rfl) dX8_init_47 dX8_init_50 dX8_init_51 (fun H locs hB => ?_)
  replace hB : Bd G a0 277 [(a0, .inr (8, [.ref (a0 + 1), .ref (a0 + 137), .int 0, .ref (a0 + 273), .int 0, .ref (a0 + 274), .null, .null])), (a0 + 273, .inl (gC G 4, 6, .inr (.inr (.inr (.inr (fun _ => none))))))] s.heap H _ := hB
  refine b_put tyX8 hx hb (lay_8 hts) tyX8_ok nmX8 hown hK hin hB 0 rfl rfl 6 (by decide) rfl rfl rfl rfl (Nat.le_of_ble_eq_true rfl) rfl (tk_272 hts) dX8_init_54 (fun H locs hB => ?_)
  replace hB : Bd G a0 277 [(a0, .inr (8, [.ref (a0 + 1), .ref (a0 + 137), .int 0, .ref (a0 + 273), .int 0, .ref (a0 + 274), .ref (a0 + 276), .null])), (a0 + 273, .inl (gC G 4, 6, .inr (.inr (.inr (.inr (fun _ => none))))))] s.heap H _ := hB
  refine lv_aload_n hx hb dX8_init_57 rfl (lv_at hl 0 rfl) ?_
  refine b_newN tyX1 hx hb hml hown hts hV hA hK hB (kn_X1 G hG hw l _ (ky_9_7 hG h0)) wn_X1 (lay_1 hts) tyX1_ok rfl (by decide) (by decide) (tk_265 hts) (tk_266 hts) ⟨Nat.le_of_ble_eq_true rfl, Nat.le_of_ble_eq_true rfl⟩ ⟨Nat.le_of_ble_eq_true rfl, Nat.le_of_ble_eq_true rfl⟩ (lv_size hl) (Nat.le_of_ble_eq_true rfl) dX8_init_58 dX8_init_61 dX8_init_62 (fun H locs hB => ?_)
  replace hB : Bd G a0 279 [(a0, .inr (8, [.ref (a0 + 1), .ref (a0 + 137), .int 0, .ref (a0 + 273), .int 0, .ref (a0 + 274), .ref (a0 + 276), .null])), (a0 + 273, .inl (gC G 4, 6, .inr (.inr (.inr (.inr (fun _ => none))))))] s.heap H _ := hB
  refine b_put tyX8 hx hb (lay_8 hts) tyX8_ok nmX8 hown hK hin hB 0 rfl rfl 7 (by decide) rfl rfl rfl rfl (Nat.le_of_ble_eq_true rfl) rfl (tk_273 hts) dX8_init_65 (fun H locs hB => ?_)
  replace hB : Bd G a0 279 [(a0, .inr (8, [.ref (a0 + 1), .ref (a0 + 137), .int 0, .ref (a0 + 273), .int 0, .ref (a0 + 274), .ref (a0 + 276), .ref (a0 + 277)])), (a0 + 273, .inl (gC G 4, 6, .inr (.inr (.inr (.inr (fun _ => none))))))] s.heap H _ := hB
  refine lv_iconst (v := 0) hx hb dX8_init_68 (by decide) ?_
  refine lv_istore_n (lv' := [(1, .int 0), (0, .ref a0)]) hx hb dX8_init_69 rfl hl (by decide) rfl (fun ls hl => ?_)
  refine lv_iload_n hx hb dX8_init_70 rfl (lv_at hl 0 rfl) ?_
  refine lv_aload_n hx hb dX8_init_71 rfl (lv_at hl 1 rfl) ?_
  refine va_get hx hb (lay_8 hts) (fun _ h => h) hown hK hB.1 0 rfl rfl 3 (by decide) (tk_269 hts) (fun _ h => h) rfl dX8_init_72 ?_
  refine va_alen hx hb hK hB.1 1 4 rfl rfl (v := 6) (show Int32.ofNat 6 = 6 from rfl) dX8_init_75 ?_
  refine lv_icmp_ge (tgt := 98) hx hb dX8_init_76 (by decide) (fun g => absurd g (by decide)) (fun _ => ?_)
  refine lv_aload_n hx hb dX8_init_79 rfl (lv_at hl 1 rfl) ?_
  refine va_get hx hb (lay_8 hts) (fun _ h => h) hown hK hB.1 0 rfl rfl 3 (by decide) (tk_269 hts) (fun _ h => h) rfl dX8_init_80 ?_
  refine lv_iload_n hx hb dX8_init_83 rfl (lv_at hl 0 rfl) ?_
  refine b_new tyX5 hx hb hml hown hts hV hA hK hB (kn_X5 G hG hw l _ (m0_sk hw (ky_9_3 hG h0) 0 (by decide))) wn_X5 (lay_5 hts) tyX5_ok rfl (by decide) (by decide) (tk_26 hts) (tk_28 hts) ⟨Nat.le_of_ble_eq_true rfl, Nat.le_of_ble_eq_true rfl⟩ ⟨Nat.le_of_ble_eq_true rfl, Nat.le_of_ble_eq_true rfl⟩ (lv_size hl) (Nat.le_of_ble_eq_true rfl) dX8_init_84 dX8_init_87 dX8_init_88 (fun H locs hB => ?_)
  replace hB : Bd G a0 415 [(a0, .inr (8, [.ref (a0 + 1), .ref (a0 + 137), .int 0, .ref (a0 + 273), .int 0, .ref (a0 + 274), .ref (a0 + 276), .ref (a0 + 277)])), (a0 + 273, .inl (gC G 4, 6, .inr (.inr (.inr (.inr (fun _ => none))))))] s.heap H _ := hB
  refine b_aast (t0 := 4) (r := (RX5, TX5, 2)) hx hb hK hB 1 rfl rfl (c_6 (m0_sk hw (ky_9_3 hG h0) 0 (by decide))) (by omega) (by omega) (x_ne2 (show a0 ≠ a0 + 279 from by omega) (show a0 + 273 ≠ a0 + 279 from by omega)) rfl (i := 0) (by decide) dX8_init_91 (fun H locs hB => ?_)
  replace hB : Bd G a0 415 [(a0, .inr (8, [.ref (a0 + 1), .ref (a0 + 137), .int 0, .ref (a0 + 273), .int 0, .ref (a0 + 274), .ref (a0 + 276), .ref (a0 + 277)])), (a0 + 273, .inl (gC G 4, 6, .inr (.inr (.inr (.inr (va_up (fun _ => none) 0 (some (a0 + 279))))))))] s.heap H _ := hB
  refine lv_iinc (v := 1) (lv' := [(1, .int 1), (0, .ref a0)]) hx hb dX8_init_92 hl (k := 0) rfl (by decide) (by decide) rfl (fun ls hl => ?_)
  refine lv_goto (tgt := 70) hx hb dX8_init_95 (by decide) ?_
  refine lv_iload_n hx hb dX8_init_70 rfl (lv_at hl 0 rfl) ?_
  refine lv_aload_n hx hb dX8_init_71 rfl (lv_at hl 1 rfl) ?_
  refine va_get hx hb (lay_8 hts) (fun _ h => h) hown hK hB.1 0 rfl rfl 3 (by decide) (tk_269 hts) (fun _ h => h) rfl dX8_init_72 ?_
  refine va_alen hx hb hK hB.1 1 4 rfl rfl (v := 6) (show Int32.ofNat 6 = 6 from rfl) dX8_init_75 ?_
  refine lv_icmp_ge (tgt := 98) hx hb dX8_init_76 (by decide) (fun g => absurd g (by decide)) (fun _ => ?_)
  refine lv_aload_n hx hb dX8_init_79 rfl (lv_at hl 1 rfl) ?_
  refine va_get hx hb (lay_8 hts) (fun _ h => h) hown hK hB.1 0 rfl rfl 3 (by decide) (tk_269 hts) (fun _ h => h) rfl dX8_init_80 ?_
  refine lv_iload_n hx hb dX8_init_83 rfl (lv_at hl 0 rfl) ?_
  refine b_new tyX5 hx hb hml hown hts hV hA hK hB (kn_X5 G hG hw l _ (m0_sk hw (ky_9_3 hG h0) 1 (by decide))) wn_X5 (lay_5 hts) tyX5_ok rfl (by decide) (by decide) (tk_26 hts) (tk_28 hts) ⟨Nat.le_of_ble_eq_true rfl, Nat.le_of_ble_eq_true rfl⟩ ⟨Nat.le_of_ble_eq_true rfl, Nat.le_of_ble_eq_true rfl⟩ (lv_size hl) (Nat.le_of_ble_eq_true rfl) dX8_init_84 dX8_init_87 dX8_init_88 (fun H locs hB => ?_)
  replace hB : Bd G a0 551 [(a0, .inr (8, [.ref (a0 + 1), .ref (a0 + 137), .int 0, .ref (a0 + 273), .int 0, .ref (a0 + 274), .ref (a0 + 276), .ref (a0 + 277)])), (a0 + 273, .inl (gC G 4, 6, .inr (.inr (.inr (.inr (va_up (fun _ => none) 0 (some (a0 + 279))))))))] s.heap H _ := hB
  refine b_aast (t0 := 4) (r := (RX5, TX5, 2)) hx hb hK hB 1 rfl rfl (c_6 (m0_sk hw (ky_9_3 hG h0) 1 (by decide))) (by omega) (by omega) (x_ne2 (show a0 ≠ a0 + 415 from by omega) (show a0 + 273 ≠ a0 + 415 from by omega)) rfl (i := 1) (by decide) dX8_init_91 (fun H locs hB => ?_)
  replace hB : Bd G a0 551 [(a0, .inr (8, [.ref (a0 + 1), .ref (a0 + 137), .int 0, .ref (a0 + 273), .int 0, .ref (a0 + 274), .ref (a0 + 276), .ref (a0 + 277)])), (a0 + 273, .inl (gC G 4, 6, .inr (.inr (.inr (.inr (va_up (va_up (fun _ => none) 0 (some (a0 + 279))) 1 (some (a0 + 415))))))))] s.heap H _ := hB
  refine lv_iinc (v := 2) (lv' := [(1, .int 2), (0, .ref a0)]) hx hb dX8_init_92 hl (k := 0) rfl (by decide) (by decide) rfl (fun ls hl => ?_)
  refine lv_goto (tgt := 70) hx hb dX8_init_95 (by decide) ?_
  refine lv_iload_n hx hb dX8_init_70 rfl (lv_at hl 0 rfl) ?_
  refine lv_aload_n hx hb dX8_init_71 rfl (lv_at hl 1 rfl) ?_
  refine va_get hx hb (lay_8 hts) (fun _ h => h) hown hK hB.1 0 rfl rfl 3 (by decide) (tk_269 hts) (fun _ h => h) rfl dX8_init_72 ?_
  refine va_alen hx hb hK hB.1 1 4 rfl rfl (v := 6) (show Int32.ofNat 6 = 6 from rfl) dX8_init_75 ?_
  refine lv_icmp_ge (tgt := 98) hx hb dX8_init_76 (by decide) (fun g => absurd g (by decide)) (fun _ => ?_)
  refine lv_aload_n hx hb dX8_init_79 rfl (lv_at hl 1 rfl) ?_
  refine va_get hx hb (lay_8 hts) (fun _ h => h) hown hK hB.1 0 rfl rfl 3 (by decide) (tk_269 hts) (fun _ h => h) rfl dX8_init_80 ?_
  refine lv_iload_n hx hb dX8_init_83 rfl (lv_at hl 0 rfl) ?_
  refine b_new tyX5 hx hb hml hown hts hV hA hK hB (kn_X5 G hG hw l _ (m0_sk hw (ky_9_3 hG h0) 2 (by decide))) wn_X5 (lay_5 hts) tyX5_ok rfl (by decide) (by decide) (tk_26 hts) (tk_28 hts) ⟨Nat.le_of_ble_eq_true rfl, Nat.le_of_ble_eq_true rfl⟩ ⟨Nat.le_of_ble_eq_true rfl, Nat.le_of_ble_eq_true rfl⟩ (lv_size hl) (Nat.le_of_ble_eq_true rfl) dX8_init_84 dX8_init_87 dX8_init_88 (fun H locs hB => ?_)
  replace hB : Bd G a0 687 [(a0, .inr (8, [.ref (a0 + 1), .ref (a0 + 137), .int 0, .ref (a0 + 273), .int 0, .ref (a0 + 274), .ref (a0 + 276), .ref (a0 + 277)])), (a0 + 273, .inl (gC G 4, 6, .inr (.inr (.inr (.inr (va_up (va_up (fun _ => none) 0 (some (a0 + 279))) 1 (some (a0 + 415))))))))] s.heap H _ := hB
  refine b_aast (t0 := 4) (r := (RX5, TX5, 2)) hx hb hK hB 1 rfl rfl (c_6 (m0_sk hw (ky_9_3 hG h0) 2 (by decide))) (by omega) (by omega) (x_ne2 (show a0 ≠ a0 + 551 from by omega) (show a0 + 273 ≠ a0 + 551 from by omega)) rfl (i := 2) (by decide) dX8_init_91 (fun H locs hB => ?_)
  replace hB : Bd G a0 687 [(a0, .inr (8, [.ref (a0 + 1), .ref (a0 + 137), .int 0, .ref (a0 + 273), .int 0, .ref (a0 + 274), .ref (a0 + 276), .ref (a0 + 277)])), (a0 + 273, .inl (gC G 4, 6, .inr (.inr (.inr (.inr (va_up (va_up (va_up (fun _ => none) 0 (some (a0 + 279))) 1 (some (a0 + 415))) 2 (some (a0 + 551))))))))] s.heap H _ := hB
  refine lv_iinc (v := 3) (lv' := [(1, .int 3), (0, .ref a0)]) hx hb dX8_init_92 hl (k := 0) rfl (by decide) (by decide) rfl (fun ls hl => ?_)
  refine lv_goto (tgt := 70) hx hb dX8_init_95 (by decide) ?_
  refine lv_iload_n hx hb dX8_init_70 rfl (lv_at hl 0 rfl) ?_
  refine lv_aload_n hx hb dX8_init_71 rfl (lv_at hl 1 rfl) ?_
  refine va_get hx hb (lay_8 hts) (fun _ h => h) hown hK hB.1 0 rfl rfl 3 (by decide) (tk_269 hts) (fun _ h => h) rfl dX8_init_72 ?_
  refine va_alen hx hb hK hB.1 1 4 rfl rfl (v := 6) (show Int32.ofNat 6 = 6 from rfl) dX8_init_75 ?_
  refine lv_icmp_ge (tgt := 98) hx hb dX8_init_76 (by decide) (fun g => absurd g (by decide)) (fun _ => ?_)
  refine lv_aload_n hx hb dX8_init_79 rfl (lv_at hl 1 rfl) ?_
  refine va_get hx hb (lay_8 hts) (fun _ h => h) hown hK hB.1 0 rfl rfl 3 (by decide) (tk_269 hts) (fun _ h => h) rfl dX8_init_80 ?_
  refine lv_iload_n hx hb dX8_init_83 rfl (lv_at hl 0 rfl) ?_
  refine b_new tyX5 hx hb hml hown hts hV hA hK hB (kn_X5 G hG hw l _ (m0_sk hw (ky_9_3 hG h0) 3 (by decide))) wn_X5 (lay_5 hts) tyX5_ok rfl (by decide) (by decide) (tk_26 hts) (tk_28 hts) ⟨Nat.le_of_ble_eq_true rfl, Nat.le_of_ble_eq_true rfl⟩ ⟨Nat.le_of_ble_eq_true rfl, Nat.le_of_ble_eq_true rfl⟩ (lv_size hl) (Nat.le_of_ble_eq_true rfl) dX8_init_84 dX8_init_87 dX8_init_88 (fun H locs hB => ?_)
  replace hB : Bd G a0 823 [(a0, .inr (8, [.ref (a0 + 1), .ref (a0 + 137), .int 0, .ref (a0 + 273), .int 0, .ref (a0 + 274), .ref (a0 + 276), .ref (a0 + 277)])), (a0 + 273, .inl (gC G 4, 6, .inr (.inr (.inr (.inr (va_up (va_up (va_up (fun _ => none) 0 (some (a0 + 279))) 1 (some (a0 + 415))) 2 (some (a0 + 551))))))))] s.heap H _ := hB
  refine b_aast (t0 := 4) (r := (RX5, TX5, 2)) hx hb hK hB 1 rfl rfl (c_6 (m0_sk hw (ky_9_3 hG h0) 3 (by decide))) (by omega) (by omega) (x_ne2 (show a0 ≠ a0 + 687 from by omega) (show a0 + 273 ≠ a0 + 687 from by omega)) rfl (i := 3) (by decide) dX8_init_91 (fun H locs hB => ?_)
  replace hB : Bd G a0 823 [(a0, .inr (8, [.ref (a0 + 1), .ref (a0 + 137), .int 0, .ref (a0 + 273), .int 0, .ref (a0 + 274), .ref (a0 + 276), .ref (a0 + 277)])), (a0 + 273, .inl (gC G 4, 6, .inr (.inr (.inr (.inr (va_up (va_up (va_up (va_up (fun _ => none) 0 (some (a0 + 279))) 1 (some (a0 + 415))) 2 (some (a0 + 551))) 3 (some (a0 + 687))))))))] s.heap H _ := hB
  refine lv_iinc (v := 4) (lv' := [(1, .int 4), (0, .ref a0)]) hx hb dX8_init_92 hl (k := 0) rfl (by decide) (by decide) rfl (fun ls hl => ?_)
  refine lv_goto (tgt := 70) hx hb dX8_init_95 (by decide) ?_
  refine lv_iload_n hx hb dX8_init_70 rfl (lv_at hl 0 rfl) ?_
  refine lv_aload_n hx hb dX8_init_71 rfl (lv_at hl 1 rfl) ?_
  refine va_get hx hb (lay_8 hts) (fun _ h => h) hown hK hB.1 0 rfl rfl 3 (by decide) (tk_269 hts) (fun _ h => h) rfl dX8_init_72 ?_
  refine va_alen hx hb hK hB.1 1 4 rfl rfl (v := 6) (show Int32.ofNat 6 = 6 from rfl) dX8_init_75 ?_
  refine lv_icmp_ge (tgt := 98) hx hb dX8_init_76 (by decide) (fun g => absurd g (by decide)) (fun _ => ?_)
  refine lv_aload_n hx hb dX8_init_79 rfl (lv_at hl 1 rfl) ?_
  refine va_get hx hb (lay_8 hts) (fun _ h => h) hown hK hB.1 0 rfl rfl 3 (by decide) (tk_269 hts) (fun _ h => h) rfl dX8_init_80 ?_
  refine lv_iload_n hx hb dX8_init_83 rfl (lv_at hl 0 rfl) ?_
  refine b_new tyX5 hx hb hml hown hts hV hA hK hB (kn_X5 G hG hw l _ (m0_sk hw (ky_9_3 hG h0) 4 (by decide))) wn_X5 (lay_5 hts) tyX5_ok rfl (by decide) (by decide) (tk_26 hts) (tk_28 hts) ⟨Nat.le_of_ble_eq_true rfl, Nat.le_of_ble_eq_true rfl⟩ ⟨Nat.le_of_ble_eq_true rfl, Nat.le_of_ble_eq_true rfl⟩ (lv_size hl) (Nat.le_of_ble_eq_true rfl) dX8_init_84 dX8_init_87 dX8_init_88 (fun H locs hB => ?_)
  replace hB : Bd G a0 959 [(a0, .inr (8, [.ref (a0 + 1), .ref (a0 + 137), .int 0, .ref (a0 + 273), .int 0, .ref (a0 + 274), .ref (a0 + 276), .ref (a0 + 277)])), (a0 + 273, .inl (gC G 4, 6, .inr (.inr (.inr (.inr (va_up (va_up (va_up (va_up (fun _ => none) 0 (some (a0 + 279))) 1 (some (a0 + 415))) 2 (some (a0 + 551))) 3 (some (a0 + 687))))))))] s.heap H _ := hB
  refine b_aast (t0 := 4) (r := (RX5, TX5, 2)) hx hb hK hB 1 rfl rfl (c_6 (m0_sk hw (ky_9_3 hG h0) 4 (by decide))) (by omega) (by omega) (x_ne2 (show a0 ≠ a0 + 823 from by omega) (show a0 + 273 ≠ a0 + 823 from by omega)) rfl (i := 4) (by decide) dX8_init_91 (fun H locs hB => ?_)
  replace hB : Bd G a0 959 [(a0, .inr (8, [.ref (a0 + 1), .ref (a0 + 137), .int 0, .ref (a0 + 273), .int 0, .ref (a0 + 274), .ref (a0 + 276), .ref (a0 + 277)])), (a0 + 273, .inl (gC G 4, 6, .inr (.inr (.inr (.inr (va_up (va_up (va_up (va_up (va_up (fun _ => none) 0 (some (a0 + 279))) 1 (some (a0 + 415))) 2 (some (a0 + 551))) 3 (some (a0 + 687))) 4 (some (a0 + 823))))))))] s.heap H _ := hB
  refine lv_iinc (v := 5) (lv' := [(1, .int 5), (0, .ref a0)]) hx hb dX8_init_92 hl (k := 0) rfl (by decide) (by decide) rfl (fun ls hl => ?_)
  refine lv_goto (tgt := 70) hx hb dX8_init_95 (by decide) ?_
  refine lv_iload_n hx hb dX8_init_70 rfl (lv_at hl 0 rfl) ?_
  refine lv_aload_n hx hb dX8_init_71 rfl (lv_at hl 1 rfl) ?_
  refine va_get hx hb (lay_8 hts) (fun _ h => h) hown hK hB.1 0 rfl rfl 3 (by decide) (tk_269 hts) (fun _ h => h) rfl dX8_init_72 ?_
  refine va_alen hx hb hK hB.1 1 4 rfl rfl (v := 6) (show Int32.ofNat 6 = 6 from rfl) dX8_init_75 ?_
  refine lv_icmp_ge (tgt := 98) hx hb dX8_init_76 (by decide) (fun g => absurd g (by decide)) (fun _ => ?_)
  refine lv_aload_n hx hb dX8_init_79 rfl (lv_at hl 1 rfl) ?_
  refine va_get hx hb (lay_8 hts) (fun _ h => h) hown hK hB.1 0 rfl rfl 3 (by decide) (tk_269 hts) (fun _ h => h) rfl dX8_init_80 ?_
  refine lv_iload_n hx hb dX8_init_83 rfl (lv_at hl 0 rfl) ?_
  refine b_new tyX5 hx hb hml hown hts hV hA hK hB (kn_X5 G hG hw l _ (m0_sk hw (ky_9_3 hG h0) 5 (by decide))) wn_X5 (lay_5 hts) tyX5_ok rfl (by decide) (by decide) (tk_26 hts) (tk_28 hts) ⟨Nat.le_of_ble_eq_true rfl, Nat.le_of_ble_eq_true rfl⟩ ⟨Nat.le_of_ble_eq_true rfl, Nat.le_of_ble_eq_true rfl⟩ (lv_size hl) (Nat.le_of_ble_eq_true rfl) dX8_init_84 dX8_init_87 dX8_init_88 (fun H locs hB => ?_)
  replace hB : Bd G a0 1095 [(a0, .inr (8, [.ref (a0 + 1), .ref (a0 + 137), .int 0, .ref (a0 + 273), .int 0, .ref (a0 + 274), .ref (a0 + 276), .ref (a0 + 277)])), (a0 + 273, .inl (gC G 4, 6, .inr (.inr (.inr (.inr (va_up (va_up (va_up (va_up (va_up (fun _ => none) 0 (some (a0 + 279))) 1 (some (a0 + 415))) 2 (some (a0 + 551))) 3 (some (a0 + 687))) 4 (some (a0 + 823))))))))] s.heap H _ := hB
  refine b_aast (t0 := 4) (r := (RX5, TX5, 2)) hx hb hK hB 1 rfl rfl (c_6 (m0_sk hw (ky_9_3 hG h0) 5 (by decide))) (by omega) (by omega) (x_ne2 (show a0 ≠ a0 + 959 from by omega) (show a0 + 273 ≠ a0 + 959 from by omega)) rfl (i := 5) (by decide) dX8_init_91 (fun H locs hB => ?_)
  replace hB : Bd G a0 1095 [(a0, .inr (8, [.ref (a0 + 1), .ref (a0 + 137), .int 0, .ref (a0 + 273), .int 0, .ref (a0 + 274), .ref (a0 + 276), .ref (a0 + 277)])), (a0 + 273, .inl (gC G 4, 6, .inr (.inr (.inr (.inr (va_up (va_up (va_up (va_up (va_up (va_up (fun _ => none) 0 (some (a0 + 279))) 1 (some (a0 + 415))) 2 (some (a0 + 551))) 3 (some (a0 + 687))) 4 (some (a0 + 823))) 5 (some (a0 + 959))))))))] s.heap H _ := hB
  refine lv_iinc (v := 6) (lv' := [(1, .int 6), (0, .ref a0)]) hx hb dX8_init_92 hl (k := 0) rfl (by decide) (by decide) rfl (fun ls hl => ?_)
  refine lv_goto (tgt := 70) hx hb dX8_init_95 (by decide) ?_
  refine lv_iload_n hx hb dX8_init_70 rfl (lv_at hl 0 rfl) ?_
  refine lv_aload_n hx hb dX8_init_71 rfl (lv_at hl 1 rfl) ?_
  refine va_get hx hb (lay_8 hts) (fun _ h => h) hown hK hB.1 0 rfl rfl 3 (by decide) (tk_269 hts) (fun _ h => h) rfl dX8_init_72 ?_
  refine va_alen hx hb hK hB.1 1 4 rfl rfl (v := 6) (show Int32.ofNat 6 = 6 from rfl) dX8_init_75 ?_
  refine lv_icmp_ge (tgt := 98) hx hb dX8_init_76 (by decide) (fun _ => ?_) (fun g => absurd (by decide) g)
  exact b_end hx hb hr hlocks hB (List.forall_mem_cons.mpr ⟨fun _ _ => (fin_eq ((c_9 h0).trans (by rw [m0_i h0 (by decide)]))), List.forall_mem_cons.mpr ⟨fun _ _ => (fin_arr (cel_sa (ky_9_3 hG h0)) (fun j hj => by match j, hj with | 0, _ => rw [m0_r (ky_9_3 hG h0) _]; rfl | 1, _ => rw [m0_r (ky_9_3 hG h0) _]; rfl | 2, _ => rw [m0_r (ky_9_3 hG h0) _]; rfl | 3, _ => rw [m0_r (ky_9_3 hG h0) _]; rfl | 4, _ => rw [m0_r (ky_9_3 hG h0) _]; rfl | 5, _ => rw [m0_r (ky_9_3 hG h0) _]; rfl | j + 6, hj => omega)), List.forall_mem_nil _⟩⟩) dX8_init_98
