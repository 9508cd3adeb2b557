/-! THE CLAIM OUT OF ONE WALK OF THE LAW'S BODY. Your part is whole_start (and what it stands on); all else here is the same for every law, but numbers. -/
def R_law : String := "FoldedVoicesLaw"
def lw_P (b : Addr) (xs : List Int32) (args : Array Value) (s : State) : Prop := args = #[.ref b] ∧ s.IntsAt b xs ∧ xs.length ≤ 260 ∧ (Jvm.Cond.and given_1 narrow_1).before args s = true
/-- what a walk over the start with the record d0 says of its end, said of the start itself -/
theorem lw_closed {s t : State} {o : Outcome} {d0 : Drawn} {L : List Loc} {k n : Nat} (hd0 : s.drawn.sameBut d0 lw_cs) (hv : ∃ v, o = .returned v) (hW : (s.setDrawn d0).WarmedH t.vm) (hs : (s.setDrawn d0).sameButNew ({ t with vm := s.vm } : State) L k n) : State.butDraws s t lw_cs (fun t1 => Framed s o t1 L k n) := by
  have h2 : t.drawn = d0 := congrArg State.drawn hs.1
  refine ⟨⟨hv, hW, State.sameButNew.setDrawn hs s.drawn⟩, ?_, by decide⟩
  rw [h2]
  exact hd0
def lw_Q (_ : Array Value) (s : State) (o : Outcome) (t : State) : Prop := o = .returned (some (.int 1)) ∧ State.butDraws s t lw_cs (fun t1 => Framed s o t1 [] 600130 7301080)
def lw_Z (below : List Frame) (a : Array Value) (s : State) : State → Prop := fun t => ∃ o, t.status = .running ∧ Ended t below o ∧ lw_Q a s o t
/-- the law's own end, with 1 on the stack, nothing written that was there before, its room as the claim has it; d0: the record of draws at this point (at the entry s.drawn: begin with 'refine W.base ?_' and 'have hd0 := Drawn.sameBut.refl s.drawn lw_cs') -/
theorem lw_ret {p : Program} {l : Launch} {e : Env} {s : State} {m : MethodId} {below : List Frame} {meth : Method} {c : Code} {b : Nat} {d0 : Drawn} (hd0 : s.drawn.sameBut d0 lw_cs) (hx : p.tables.exec = Jvm.exec) (hb : c.code = code) (hr : meth.sig.returnType = ret) (hlocks : meth.locks = false) {pc : Nat} {H : Heap} {ls : Array Slot} (hdg : decode code pc = .ok (.ireturn, 1)) : W p l e room_1 (s.setDrawn d0) m #[Value.ref b] below meth c H [] 600130 7301080 (lw_Z below #[Value.ref b] s) (F0 m pc ls [.int 1]) := by
  intro T hT X
  obtain ⟨fs, hret, hrun, hended, hW, hframe⟩ := X.leave (v := some (.int 1)) (hlocks := hlocks) (fun h => by rw [hr] at h; cases h)
  have hmeth' : T.vm.method? m = some meth := X.method'
  refine ⟨T.setFrames fs, ?_, .returned (some (.int 1)), hrun, hended, rfl, lw_closed hd0 ⟨_, rfl⟩ hW hframe⟩
  jvm_step X.here [X.here.top, hx, hb, hdg, hmeth', hr, ret, narrow_b1]
  (try refine ⟨rfl, ?_⟩); (try refine ⟨rfl, ?_⟩)
  first | (intro acts; rw [hret _ acts rfl rfl rfl]) | rw [hret _ _ rfl rfl rfl]
  exact Steps.refl _
/-- what holds at the law's entry: the machine, the code, the tables' words (any of lw_tbl by 'hts w (by decide +kernel)'), the script of L ints xs at the cell b, what the Statement gives of the start (any of its parts by flat_of_before) -/
def lw_At (p : Program) (s : State) (m : MethodId) (meth : Method) (c : Code) (b L : Nat) (xs : Nat → Int32) : Prop :=
  p.tables.exec = Jvm.exec ∧ c.code = code ∧ meth.sig.returnType = ret ∧ c.maxLocals = 16 ∧ s.vm.findClass R_law = some m.cls ∧ (∀ w ∈ lw_tbl, w.before #[Value.ref b] s = true) ∧ va_X b L xs s s.heap ∧ b < s.heap.size ∧ meth.locks = false ∧ (Jvm.Cond.and given_1 narrow_1).before #[Value.ref b] s = true
theorem Bd.nil {G : Gt} {a : Nat} {H : Heap} (hz : H.size = a) : Bd G a 0 [] H H [] := ⟨fun k q hk => by simp at hk, ⟨fun i j p q hi hj _ => by simp at hi, fun k q hk => by simp at hk⟩, hz, fun q e h1 h2 => by omega, va_S.rf⟩
theorem Bd.mh {G : Gt} {n : Nat} {X : va_W} {H : Heap} {locs : List Loc} (hB : Bd G (gB G) n X (gS G).heap H locs) (hf : ∀ p ∈ X, ∀ (e : va_E) (H : Heap), cel G (M0 G) p.1 = some e → va_at (gD G) vwCl p H → va_at (gD G) vwCl (p.1, e) H) (ho : ∀ a, a < gB G ∨ gB G + n ≤ a → gK G a = 0) (hw : wfM G (M0 G)) : Mh G (M0 G) H := by
  refine ⟨fun a e hc => ?_, ⟨hB.2.2.2.2.1, fun q hq => hB.2.2.2.2.2.1 q hq (by omega)⟩, hw⟩
  by_cases hr : gB G ≤ a ∧ a < gB G + n
  · exact hB.done hf a e hr.1 hr.2 hc
  · have h0 := ho a (by omega)
    rw [cel_o h0 (by decide)] at hc
    cases hc
set_option maxHeartbeats 4000000 in
set_option maxRecDepth 100000 in
theorem lw_begin {p : Program} {e : Env} {s : State} {m : MethodId} {below : List Frame} {meth : Method} {c : Code} (l : Launch) {b L : Nat} {xs : Nat → Int32} (hL : L ≤ 260) (C0 : lw_At p s m meth c b L xs) : W p l e room_1 s m #[Value.ref b] below meth c s.heap [] 0 0 (lw_Z below #[Value.ref b] s) (entryFrame m ([Value.ref b] : List Value).toArray 16) := by
  obtain ⟨hx, hb, hr, hml, hown, hts0, hX, hbl, hlocks, hgv⟩ := C0
  obtain ⟨G, hGs, hG, hw, hk⟩ := g_start hts0 hgv
  have hts : KK s := KK_start hts0 hgv
  have hA : AOk s := AO_start hts0
  have hBs : gB G = s.heap.size := by unfold gB; rw [hGs]
  have hV : (gS G).vm.Alike s.vm := by rw [hGs]; exact Vm.Alike.refl _
  have hK := hG.1.moved hV
  have hkG : ∀ a, gK G a = gKof (gB G) a := by rw [hBs]; exact hk
  have hX0 : gX G b L xs := ⟨⟨by rw [hGs]; exact hX, by rw [hBs]; exact hbl⟩, hL⟩
  have hk0 : ∀ o, gK G (gB G + o) = Kof o := M0_k hkG
  have hl := lv_entry [Value.ref b] (n := 16) (Nat.le_of_ble_eq_true rfl)
  rw [lg_entry_eq]
  have hl : lv_has _ 16 [(0, .ref b)] := hl
  have hb : c.code = cL_law := hb
  have hown : s.vm.findClass "FoldedVoicesLaw" = some m.cls := hown
  have hB : Bd G (gB G) 0 [] s.heap s.heap [] := Bd.nil hBs.symm
  refine b_new tyX8 hx hb hml hown hts hV hA hK hB (kn_X8 G hG hw l _ (hk0 0)) wn_X8 (lay_8 hts) tyX8_ok rfl (by decide) (by decide) (hts0 _ (tin_1 (List.mem_of_getElem? (i := 18) (by decide +kernel)))) (hts0 _ (tin_1 (List.mem_of_getElem? (i := 20) (by decide +kernel)))) ⟨Nat.le_of_ble_eq_true rfl, Nat.le_of_ble_eq_true rfl⟩ ⟨Nat.le_of_ble_eq_true rfl, Nat.le_of_ble_eq_true rfl⟩ (lv_size hl) (Nat.le_of_ble_eq_true rfl) dL_law_0 dL_law_3 dL_law_4 (fun H locs hB => ?_)
  replace hB : Bd G (gB G) 1095 [] s.heap H locs := hB
  refine lv_astore_n (lv' := [(1, .ref (gB G)), (0, .ref b)]) hx hb dL_law_7 rfl hl (by decide) rfl (fun ls hl => ?_)
  refine lv_bipush (v := 60) hx hb dL_law_8 (by decide) ?_
  refine b_arr (ty := .int) rfl rfl hx hb (hts0 _ (tin_1 (List.mem_of_getElem? (i := 44) (by decide +kernel)))) (hK.2 0 _ rfl).2 hB (n := 60) (N := 60) (by decide) (by decide) (by decide) (Nat.le_of_ble_eq_true rfl) (Nat.le_of_ble_eq_true rfl) dL_law_10 (fun H hB => ?_)
  replace hB : Bd G (gB G) 1096 [(gB G + 1095, .inl (gC G 0, 60, .inl fun _ => 0))] s.heap H _ := hB
  refine lv_astore_n (lv' := [(2, .ref (gB G + 1095)), (1, .ref (gB G)), (0, .ref b)]) hx hb dL_law_12 rfl hl (by decide) rfl (fun ls hl => ?_)
  refine lv_bipush (v := 14) hx hb dL_law_13 (by decide) ?_
  refine b_arr (ty := .int) rfl rfl hx hb (hts0 _ (tin_1 (List.mem_of_getElem? (i := 44) (by decide +kernel)))) (hK.2 0 _ rfl).2 hB (n := 14) (N := 14) (by decide) (by decide) (by decide) (Nat.le_of_ble_eq_true rfl) (Nat.le_of_ble_eq_true rfl) dL_law_15 (fun H hB => ?_)
  replace hB : Bd G (gB G) 1097 [(gB G + 1095, .inl (gC G 0, 60, .inl fun _ => 0)), (gB G + 1096, .inl (gC G 0, 14, .inl fun _ => 0))] s.heap H _ := hB
  refine lv_astore_n (lv' := [(3, .ref (gB G + 1096)), (2, .ref (gB G + 1095)), (1, .ref (gB G)), (0, .ref b)]) hx hb dL_law_17 rfl hl (by decide) rfl (fun ls hl => ?_)
  refine lv_bipush (v := 24) hx hb dL_law_18 (by decide) ?_
  refine b_arr (ty := .int) rfl rfl hx hb (hts0 _ (tin_1 (List.mem_of_getElem? (i := 44) (by decide +kernel)))) (hK.2 0 _ rfl).2 hB (n := 24) (N := 24) (by decide) (by decide) (by decide) (Nat.le_of_ble_eq_true rfl) (Nat.le_of_ble_eq_true rfl) dL_law_20 (fun H hB => ?_)
  replace hB : Bd G (gB G) 1098 [(gB G + 1095, .inl (gC G 0, 60, .inl fun _ => 0)), (gB G + 1096, .inl (gC G 0, 14, .inl fun _ => 0)), (gB G + 1097, .inl (gC G 0, 24, .inl fun _ => 0))] s.heap H _ := hB
  refine lv_astore (lv' := [(4, .ref (gB G + 1097)), (3, .ref (gB G + 1096)), (2, .ref (gB G + 1095)), (1, .ref (gB G)), (0, .ref b)]) hx hb dL_law_22 hl (by decide) rfl (fun ls hl => ?_)
  refine lv_bipush (v := 64) hx hb dL_law_24 (by decide) ?_
  refine b_arr (ty := .int) rfl rfl hx hb (hts0 _ (tin_1 (List.mem_of_getElem? (i := 44) (by decide +kernel)))) (hK.2 0 _ rfl).2 hB (n := 64) (N := 64) (by decide) (by decide) (by decide) (Nat.le_of_ble_eq_true rfl) (Nat.le_of_ble_eq_true rfl) dL_law_26 (fun H hB => ?_)
  replace hB : Bd G (gB G) 1099 [(gB G + 1095, .inl (gC G 0, 60, .inl fun _ => 0)), (gB G + 1096, .inl (gC G 0, 14, .inl fun _ => 0)), (gB G + 1097, .inl (gC G 0, 24, .inl fun _ => 0)), (gB G + 1098, .inl (gC G 0, 64, .inl fun _ => 0))] s.heap H _ := hB
  refine lv_astore (lv' := [(5, .ref (gB G + 1098)), (4, .ref (gB G + 1097)), (3, .ref (gB G + 1096)), (2, .ref (gB G + 1095)), (1, .ref (gB G)), (0, .ref b)]) hx hb dL_law_28 hl (by decide) rfl (fun ls hl => ?_)
  refine lv_bipush (v := 64) hx hb dL_law_30 (by decide) ?_
  refine b_arr (ty := .int) rfl rfl hx hb (hts0 _ (tin_1 (List.mem_of_getElem? (i := 44) (by decide +kernel)))) (hK.2 0 _ rfl).2 hB (n := 64) (N := 64) (by decide) (by decide) (by decide) (Nat.le_of_ble_eq_true rfl) (Nat.le_of_ble_eq_true rfl) dL_law_32 (fun H hB => ?_)
  replace hB : Bd G (gB G) 1100 [(gB G + 1095, .inl (gC G 0, 60, .inl fun _ => 0)), (gB G + 1096, .inl (gC G 0, 14, .inl fun _ => 0)), (gB G + 1097, .inl (gC G 0, 24, .inl fun _ => 0)), (gB G + 1098, .inl (gC G 0, 64, .inl fun _ => 0)), (gB G + 1099, .inl (gC G 0, 64, .inl fun _ => 0))] s.heap H _ := hB
  refine lv_astore (lv' := [(6, .ref (gB G + 1099)), (5, .ref (gB G + 1098)), (4, .ref (gB G + 1097)), (3, .ref (gB G + 1096)), (2, .ref (gB G + 1095)), (1, .ref (gB G)), (0, .ref b)]) hx hb dL_law_34 hl (by decide) rfl (fun ls hl => ?_)
  refine lv_bipush (v := 64) hx hb dL_law_36 (by decide) ?_
  refine b_arr (ty := .int) rfl rfl hx hb (hts0 _ (tin_1 (List.mem_of_getElem? (i := 44) (by decide +kernel)))) (hK.2 0 _ rfl).2 hB (n := 64) (N := 64) (by decide) (by decide) (by decide) (Nat.le_of_ble_eq_true rfl) (Nat.le_of_ble_eq_true rfl) dL_law_38 (fun H hB => ?_)
  replace hB : Bd G (gB G) 1101 [(gB G + 1095, .inl (gC G 0, 60, .inl fun _ => 0)), (gB G + 1096, .inl (gC G 0, 14, .inl fun _ => 0)), (gB G + 1097, .inl (gC G 0, 24, .inl fun _ => 0)), (gB G + 1098, .inl (gC G 0, 64, .inl fun _ => 0)), (gB G + 1099, .inl (gC G 0, 64, .inl fun _ => 0)), (gB G + 1100, .inl (gC G 0, 64, .inl fun _ => 0))] s.heap H _ := hB
  refine lv_astore (lv' := [(7, .ref (gB G + 1100)), (6, .ref (gB G + 1099)), (5, .ref (gB G + 1098)), (4, .ref (gB G + 1097)), (3, .ref (gB G + 1096)), (2, .ref (gB G + 1095)), (1, .ref (gB G)), (0, .ref b)]) hx hb dL_law_40 hl (by decide) rfl (fun ls hl => ?_)
  have hM : Mh G (M0 G) H := by
    refine Bd.mh (n := 1101) (by rw [hGs]; exact hB) (List.forall_mem_cons.mpr ⟨fun _ _ => fin_eq ((cel_ia (n := 60) (hk0 1095) (by decide)).trans (by rw [m0_i (hk0 1095) (by decide)])), List.forall_mem_cons.mpr ⟨fun _ _ => fin_eq ((cel_ia (n := 14) (hk0 1096) (by decide)).trans (by rw [m0_i (hk0 1096) (by decide)])), List.forall_mem_cons.mpr ⟨fun _ _ => fin_eq ((cel_ia (n := 24) (hk0 1097) (by decide)).trans (by rw [m0_i (hk0 1097) (by decide)])), List.forall_mem_cons.mpr ⟨fun _ _ => fin_eq ((cel_ia (n := 64) (hk0 1098) (by decide)).trans (by rw [m0_i (hk0 1098) (by decide)])), List.forall_mem_cons.mpr ⟨fun _ _ => fin_eq ((cel_ia (n := 64) (hk0 1099) (by decide)).trans (by rw [m0_i (hk0 1099) (by decide)])), List.forall_mem_cons.mpr ⟨fun _ _ => fin_eq ((cel_ia (n := 64) (hk0 1100) (by decide)).trans (by rw [m0_i (hk0 1100) (by decide)])), List.forall_mem_nil _⟩⟩⟩⟩⟩⟩) (fun a ha => ?_) hw
    rw [hkG]
    unfold gKof
    rcases ha with ha | ha
    · rw [if_pos ha]
    · rw [if_neg (by omega), Kof_out (by omega)]
  have hS : va_S (gA G) s.heap H _ := hB.2.2.2.2
  refine lv_aload_n hx hb dL_law_42 rfl (lv_at hl 4 rfl) ?_
  refine lv_bipush (v := 9) hx hb dL_law_43 (by decide) ?_
  refine lv_iconst (v := 1) hx hb dL_law_45 (by decide) ?_
  refine s_iast 14 hx hb hK hM hS (hk0 1096) (by decide) (Nat.le_add_right _ _) (nI_ix (a := 9) (n := 14) (by decide) (by decide)) dL_law_46 (fun H locs hM hS => ?_)
  rw [cl_9] at hM
  refine lv_aload_n hx hb dL_law_47 rfl (lv_at hl 4 rfl) ?_
  refine lv_bipush (v := 11) hx hb dL_law_48 (by decide) ?_
  refine lv_iconst (v := 4) hx hb dL_law_50 (by decide) ?_
  refine s_iast 14 hx hb hK hM hS (hk0 1096) (by decide) (Nat.le_add_right _ _) (nI_ix (a := 11) (n := 14) (by decide) (by decide)) dL_law_51 (fun H locs hM hS => ?_)
  rw [cl_11] at hM
  refine lv_aload_n hx hb dL_law_52 rfl (lv_at hl 4 rfl) ?_
  refine lv_bipush (v := 12) hx hb dL_law_53 (by decide) ?_
  refine lv_iconst (v := 3) hx hb dL_law_55 (by decide) ?_
  refine s_iast 14 hx hb hK hM hS (hk0 1096) (by decide) (Nat.le_add_right _ _) (nI_ix (a := 12) (n := 14) (by decide) (by decide)) dL_law_56 (fun H locs hM hS => ?_)
  rw [cl_12] at hM
  obtain ⟨M1, e1, hI0⟩ := LInv_0 hkG
  refine lv_aload_n hx hb dL_law_57 rfl (lv_at hl 6 rfl) ?_
  refine lv_aload_n hx hb dL_law_58 rfl (lv_at hl 5 rfl) ?_
  refine lv_aload_n hx hb dL_law_59 rfl (lv_at hl 4 rfl) ?_
  refine lv_iconst (v := 3) hx hb dL_law_60 (by decide) ?_
  refine c_Si hx hb hml hown hts hV hM hS (As := [.ref (gB G), .ref (gB G + 1095), .ref (gB G + 1096), .int 3]) (rest := []) (k_L_areCounts G hG l (gB G) (hk0 0) (gB G + 1095) (hk0 1095) (gB G + 1096) (hk0 1096) 3 _ e1) w_L_areCounts (hts0 _ (tin_3 (List.mem_of_getElem? (i := 87) (by decide +kernel)))) ⟨⟨rfl, rfl⟩, Nat.le_of_ble_eq_true rfl, Nat.le_of_ble_eq_true rfl⟩ ⟨Nat.le_of_ble_eq_true rfl, Nat.le_of_ble_eq_true rfl⟩ rfl hl.1 rfl (Nat.le_of_ble_eq_true rfl) dL_law_61 (fun H locs hM hS => ?_)
  refine lv_istore (lv' := [(8, .int 1), (7, .ref (gB G + 1100)), (6, .ref (gB G + 1099)), (5, .ref (gB G + 1098)), (4, .ref (gB G + 1097)), (3, .ref (gB G + 1096)), (2, .ref (gB G + 1095)), (1, .ref (gB G)), (0, .ref b)]) hx hb dL_law_64 hl (by decide) rfl (fun ls hl => ?_)
  refine lv_iconst (v := 0) hx hb dL_law_66 (by decide) ?_
  refine lv_istore (lv' := [(9, .int (nI 0)), (8, .int 1), (7, .ref (gB G + 1100)), (6, .ref (gB G + 1099)), (5, .ref (gB G + 1098)), (4, .ref (gB G + 1097)), (3, .ref (gB G + 1096)), (2, .ref (gB G + 1095)), (1, .ref (gB G)), (0, .ref b)]) hx hb dL_law_67 hl (by decide) rfl (fun ls hl => ?_)
  refine law_loop G hG hX0 l hx hb hml hown hts hV (gB G) (hk0 0) (gB G + 1095) (hk0 1095) (gB G + 1096) (hk0 1096) (gB G + 1097) (hk0 1097) (gB G + 1098) (hk0 1098) (gB G + 1099) (hk0 1099) (gB G + 1100) (hk0 1100) (LInv (gB G)) (fun k M h60 hI => turn_l hkG rfl k M h60 hI) (fun H locs ls C S hC hS0 hS => ?_) 60 0 M1 1101 8337 rfl (by decide) (by decide) hI0 H _ ls hM hS (lv_sub hl [9, 8, 7, 6, 5, 4, 3, 2, 1, 0] rfl)
  refine va_forget (fun q hq => by rw [← hBs]; exact hS.2.2 q hq) ?_
  refine W.widen hC hS0 ?_
  exact W.base (lw_ret (d0 := s.drawn) (Drawn.sameBut.refl s.drawn lw_cs) hx hb hr hlocks dL_law_338)
