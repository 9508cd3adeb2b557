/-! THE CLAIM OUT OF ONE WALK OF THE LAW'S BODY. Your part is whole_start (and what it stands on); all else here is the same for every law, but numbers. -/
def R_law : String := "FoldedVoicesLaw"
def lw_P (b : Addr) (xs : List Int32) (args : Array Value) (s : State) : Prop := args = #[.ref b] ∧ s.IntsAt b xs ∧ xs.length ≤ 2048 ∧ (Jvm.Cond.and given_1 narrow_1).before args s = true
/-- what a walk over the start with the record d0 says of its end, said of the start itself -/
theorem lw_closed {s t : State} {o : Outcome} {d0 : Drawn} {L : List Loc} {k n : Nat} (hd0 : s.drawn.sameBut d0 lw_cs) (hv : ∃ v, o = .returned v) (hW : (s.setDrawn d0).WarmedH t.vm) (hs : (s.setDrawn d0).sameButNew ({ t with vm := s.vm } : State) L k n) : State.butDraws s t lw_cs (fun t1 => Framed s o t1 L k n) := by
  have h2 : t.drawn = d0 := congrArg State.drawn hs.1
  refine ⟨⟨hv, hW, State.sameButNew.setDrawn hs s.drawn⟩, ?_, by decide⟩
  rw [h2]
  exact hd0
def lw_Q (_ : Array Value) (s : State) (o : Outcome) (t : State) : Prop := o = .returned (some (.int 1)) ∧ State.butDraws s t lw_cs (fun t1 => Framed s o t1 [] 601024 7293034)
def lw_Z (below : List Frame) (a : Array Value) (s : State) : State → Prop := fun t => ∃ o, t.status = .running ∧ Ended t below o ∧ lw_Q a s o t
/-- the law's own end, with 1 on the stack, nothing written that was there before, its room as the claim has it; d0: the record of draws at this point (at the entry s.drawn: begin with 'refine W.base ?_' and 'have hd0 := Drawn.sameBut.refl s.drawn lw_cs') -/
theorem lw_ret {p : Program} {l : Launch} {e : Env} {s : State} {m : MethodId} {below : List Frame} {meth : Method} {c : Code} {b : Nat} {d0 : Drawn} (hd0 : s.drawn.sameBut d0 lw_cs) (hx : p.tables.exec = Jvm.exec) (hb : c.code = code) (hr : meth.sig.returnType = ret) (hlocks : meth.locks = false) {pc : Nat} {H : Heap} {ls : Array Slot} (hdg : decode code pc = .ok (.ireturn, 1)) : W p l e room_1 (s.setDrawn d0) m #[Value.ref b] below meth c H [] 601024 7293034 (lw_Z below #[Value.ref b] s) (F0 m pc ls [.int 1]) := by
  intro T hT X
  obtain ⟨fs, hret, hrun, hended, hW, hframe⟩ := X.leave (v := some (.int 1)) (hlocks := hlocks) (fun h => by rw [hr] at h; cases h)
  have hmeth' : T.vm.method? m = some meth := X.method'
  refine ⟨T.setFrames fs, ?_, .returned (some (.int 1)), hrun, hended, rfl, lw_closed hd0 ⟨_, rfl⟩ hW hframe⟩
  jvm_step X.here [X.here.top, hx, hb, hdg, hmeth', hr, ret, narrow_b1]
  (try refine ⟨rfl, ?_⟩); (try refine ⟨rfl, ?_⟩)
  first | (intro acts; rw [hret _ acts rfl rfl rfl]) | rw [hret _ _ rfl rfl rfl]
  exact Steps.refl _
/-- what holds at the law's entry: the machine, the code, the tables' words (any of lw_tbl by 'hts w (by decide +kernel)'), the script of L ints xs at the cell b, what the Statement gives of the start (any of its parts by flat_of_before) -/
def lw_At (p : Program) (s : State) (m : MethodId) (meth : Method) (c : Code) (b L : Nat) (xs : Nat → Int32) : Prop :=
  p.tables.exec = Jvm.exec ∧ c.code = code ∧ meth.sig.returnType = ret ∧ c.maxLocals = 10 ∧ s.vm.findClass R_law = some m.cls ∧ (∀ w ∈ lw_tbl, w.before #[Value.ref b] s = true) ∧ va_X b L xs s s.heap ∧ b < s.heap.size ∧ meth.locks = false ∧ (Jvm.Cond.and given_1 narrow_1).before #[Value.ref b] s = true
theorem Bd.nil {G : Gt} {a : Nat} {H : Heap} (hz : H.size = a) : Bd G a 0 [] H H [] := ⟨fun k q hk => by simp at hk, ⟨fun i j p q hi hj _ => by simp at hi, fun k q hk => by simp at hk⟩, hz, fun q e h1 h2 => by omega, va_S.rf⟩
theorem Bd.mh {G : Gt} {n : Nat} {X : va_W} {H : Heap} {locs : List Loc} (hB : Bd G (gB G) n X (gS G).heap H locs) (hf : ∀ p ∈ X, ∀ (e : va_E) (H : Heap), cel G (M0 G) p.1 = some e → va_at (gD G) vwCl p H → va_at (gD G) vwCl (p.1, e) H) (ho : ∀ a, a < gB G ∨ gB G + n ≤ a → gK G a = 0) (hw : wfM G (M0 G)) : Mh G (M0 G) H := by
  refine ⟨fun a e hc => ?_, ⟨hB.2.2.2.2.1, fun q hq => hB.2.2.2.2.2.1 q hq (by omega)⟩, hw⟩
  by_cases hr : gB G ≤ a ∧ a < gB G + n
  · exact hB.done hf a e hr.1 hr.2 hc
  · have h0 := ho a (by omega)
    rw [cel_o h0 (by decide)] at hc
    cases hc
section BEGIN
variable {p : Program} {l : Launch} {e : Env} {R : Room} {s : State} {m : MethodId} {args : Array Value} {below : List Frame} {meth : Method} {c : Code} {H : Heap} {locs : List Loc} {cells slots : Nat} {Q : State → Prop} {cc : ByteArray} {pc nL : Nat} {ls : Array Slot} {rest : List Value} {G : Gt} {a j b : Nat} {X : va_W} {H0 : Heap}
theorem b_arrL {atype : ArrayType} {ty : FieldType} {cI : ClassId} {z : vp_A} {N : Nat} (hty : newarray.typeOf atype = ty) (hd : ∀ cA : ClassId, vp_cell cA z = arrV cA N (fun _ => defaultValue ty)) (hx : p.tables.exec = Jvm.exec) (hb : c.code = cc) (harr : (Cond.arrayClass ty).before args s = true) (hcI : s.vm.findClass ("[" ++ ty.toString) = some cI) (hB : Bd G a j X H0 H locs) {n : Int32} (hn : ¬ n < 0) (hN : n.toNatClampNeg = N) (hbytes : N * componentBytes ty ≤ 536870912) (hcells : cells + 1 ≤ R.cells) (hslots : slots + N ≤ R.slots) (hdg : decode cc pc = .ok (.newarray atype, 2))
    (kk : ∀ (H1 : Heap), Bd G a (j + 1) (X ++ [(a + j, .inl (cI, z))]) H0 H1 locs → W p l e R s m args below meth c H1 locs (cells + 1) (slots + N) Q (F0 m (pc + 2) ls (.ref (a + j) :: rest))) : W p l e R s m args below meth c H locs cells slots Q (F0 m pc ls (.int n :: rest)) := by
  subst hty
  refine va_newaK hx hb harr rfl hdg rfl hn hN hbytes hcells hslots hB.2.2.1 fun H1 cA e1 z1 o1 hAr hNm => ?_
  have hc : cA = cI := Option.some.inj (hNm.symm.trans hcI)
  subst hc
  refine kk H1 (hB.push ?_ (by rw [z1, hB.2.2.1]) (fun q hq => o1 q (by rw [← hB.2.2.1]; exact hq)))
  show H1[a + j]? = some (vp_cell _ _)
  rw [e1, hd]
end BEGIN
set_option maxHeartbeats 4000000 in
set_option maxRecDepth 100000 in
theorem lw_begin {p : Program} {e : Env} {s : State} {m : MethodId} {below : List Frame} {meth : Method} {c : Code} (l : Launch) (hflags : l.flags = flags0) {b L : Nat} {xs : Nat → Int32} (hL : L ≤ 2048) (C0 : lw_At p s m meth c b L xs) (hpure : ∀ G : Gt, gOK G → wfM G (M0 G) → (∀ a, gK G a = gKof (gB G) a) → ∃ Inv : Nat → Mem → Prop, Inv 0 (M0 G) ∧ ∀ (k : Nat) (M : Mem), 4 * k + 4 ≤ L → Inv k M → ∃ M' : Mem, f_law (gB G) (gB G + 1095) (gB G + 1105) (gB G + 1106) xs L (Int32.ofNat (4 * k)) M = some M' ∧ Inv (k + 1) M') : W p l e room_1 s m #[Value.ref b] below meth c s.heap [] 0 0 (lw_Z below #[Value.ref b] s) (entryFrame m ([Value.ref b] : List Value).toArray 10) := by
  obtain ⟨hx, hb, hr, hml, hown, hts0, hX, hbl, hlocks, hgv⟩ := C0
  obtain ⟨G, hGs, hG, hN0, hw, hk⟩ := g_start hts0 hgv
  have hts : KK s := KK_start hts0 hgv
  have hA : AOk s := AO_start hts0
  have hBs : gB G = s.heap.size := by unfold gB; rw [hGs]
  have hV : (gS G).vm.Alike s.vm := by rw [hGs]; exact Vm.Alike.refl _
  have hK := hG.1.moved hV
  have hfl : l.stackTraces = false := by unfold Launch.stackTraces; rw [hflags]; first | rfl | decide
  have hbA : ¬ gA G b := by unfold gA; omega
  have hk0 : ∀ o, gK G (gB G + o) = Kof o := fun o => by
    rw [hk, ← hBs]
    unfold gKof
    rw [if_neg (by omega), Nat.add_sub_cancel_left]
  obtain ⟨Inv, hI0, hstep⟩ := hpure G hG hw (by rw [hBs]; exact hk)
  have hl := lv_entry [Value.ref b] (n := 10) (Nat.le_of_ble_eq_true rfl)
  rw [lg_entry_eq]
  have hl : lv_has _ 10 [(0, .ref b)] := hl
  have hb : c.code = cL_law := hb
  have hown : s.vm.findClass "FoldedVoicesLaw" = some m.cls := hown
  have hB : Bd G (gB G) 0 [] s.heap s.heap [] := Bd.nil hBs.symm
  refine b_new tyX8 hx hb hml hown hts hV hA hK hB (kn_X8 G hG hw l _ (hk0 0)) wn_X8 (lay_8 hts) tyX8_ok rfl (by decide) (by decide) (hts0 _ (tin_1 (List.mem_of_getElem? (i := 21) (by decide +kernel)))) (hts0 _ (tin_1 (List.mem_of_getElem? (i := 23) (by decide +kernel)))) ⟨Nat.le_of_ble_eq_true rfl, Nat.le_of_ble_eq_true rfl⟩ ⟨Nat.le_of_ble_eq_true rfl, Nat.le_of_ble_eq_true rfl⟩ (lv_size hl) (Nat.le_of_ble_eq_true rfl) dL_law_0 dL_law_3 dL_law_4 (fun H locs hB => ?_)
  replace hB : Bd G (gB G) 1095 [] s.heap H locs := hB
  refine lv_astore_n (lv' := [(1, .ref (gB G)), (0, .ref b)]) hx hb dL_law_7 rfl hl (by decide) rfl (fun ls hl => ?_)
  refine b_new tyX9 hx hb hml hown hts hV hA hK hB (kn_X9 G hG hw l _ (hk0 1095)) wn_X9 (lay_9 hts) tyX9_ok rfl (by decide) (by decide) (hts0 _ (tin_4 (List.mem_of_getElem? (i := 237) (by decide +kernel)))) (hts0 _ (tin_4 (List.mem_of_getElem? (i := 239) (by decide +kernel)))) ⟨Nat.le_of_ble_eq_true rfl, Nat.le_of_ble_eq_true rfl⟩ ⟨Nat.le_of_ble_eq_true rfl, Nat.le_of_ble_eq_true rfl⟩ (lv_size hl) (Nat.le_of_ble_eq_true rfl) dL_law_8 dL_law_11 dL_law_12 (fun H locs hB => ?_)
  replace hB : Bd G (gB G) 1105 [] s.heap H locs := hB
  refine lv_astore_n (lv' := [(2, .ref (gB G + 1095)), (1, .ref (gB G)), (0, .ref b)]) hx hb dL_law_15 rfl hl (by decide) rfl (fun ls hl => ?_)
  refine lv_iconst (v := 1) hx hb dL_law_16 (by decide) ?_
  refine b_arrL (ty := .long) (z := (1, .inr (.inl fun _ => 0))) (N := 1) rfl (fun _ => rfl) hx hb (hts0 _ (tin_6 (List.mem_of_getElem? (i := 143) (by decide +kernel)))) (hK.2 5 _ rfl).2 hB (n := 1) (by decide) (by decide) (by decide) (Nat.le_of_ble_eq_true rfl) (Nat.le_of_ble_eq_true rfl) dL_law_17 (fun H hB => ?_)
  replace hB : Bd G (gB G) 1106 [(gB G + 1105, .inl (gC G 5, 1, .inr (.inl fun _ => 0)))] s.heap H _ := hB
  refine lv_astore_n (lv' := [(3, .ref (gB G + 1105)), (2, .ref (gB G + 1095)), (1, .ref (gB G)), (0, .ref b)]) hx hb dL_law_19 rfl hl (by decide) rfl (fun ls hl => ?_)
  refine lv_iconst (v := 1) hx hb dL_law_20 (by decide) ?_
  refine b_arrL (ty := .double) (z := (1, .inr (.inr (.inr (.inl fun _ => 0))))) (N := 1) rfl (fun _ => rfl) hx hb (hts0 _ (tin_6 (List.mem_of_getElem? (i := 144) (by decide +kernel)))) (hK.2 6 _ rfl).2 hB (n := 1) (by decide) (by decide) (by decide) (Nat.le_of_ble_eq_true rfl) (Nat.le_of_ble_eq_true rfl) dL_law_21 (fun H hB => ?_)
  replace hB : Bd G (gB G) 1107 [(gB G + 1105, .inl (gC G 5, 1, .inr (.inl fun _ => 0))), (gB G + 1106, .inl (gC G 6, 1, .inr (.inr (.inr (.inl fun _ => 0)))))] s.heap H _ := hB
  refine lv_astore (lv' := [(4, .ref (gB G + 1106)), (3, .ref (gB G + 1105)), (2, .ref (gB G + 1095)), (1, .ref (gB G)), (0, .ref b)]) hx hb dL_law_23 hl (by decide) rfl (fun ls hl => ?_)
  refine lv_iconst (v := 0) hx hb dL_law_25 (by decide) ?_
  refine lv_istore (lv' := [(5, .int 0), (4, .ref (gB G + 1106)), (3, .ref (gB G + 1105)), (2, .ref (gB G + 1095)), (1, .ref (gB G)), (0, .ref b)]) hx hb dL_law_26 hl (by decide) rfl (fun ls hl => ?_)
  have hM : Mh G (M0 G) H := by
    refine Bd.mh (n := 1107) (by rw [hGs]; exact hB) (List.forall_mem_cons.mpr ⟨fun _ _ => fin_eq (cel_la (hk0 1105)), List.forall_mem_cons.mpr ⟨fun _ _ => fin_eq (cel_da (hk0 1106)), List.forall_mem_nil _⟩⟩) (fun a ha => ?_) hw
    rw [hk, ← hBs]
    unfold gKof
    rcases ha with ha | ha
    · rw [if_pos ha]
    · rw [if_neg (by omega), Kof_out (by omega)]
  have hS : va_S (gA G) s.heap H _ := hB.2.2.2.2
  refine law_loop G hG hN0 l hfl hx hb hml hown hts hV hX hbl hbA (gB G) (gB G + 1095) (gB G + 1105) (gB G + 1106) (hk0 0) (hk0 1095) (hk0 1105) (hk0 1106) hL Inv hstep (fun H locs ls C S hC hS0 hS => ?_) (L / 4) 0 (M0 G) 1107 13880 (by omega) (by omega) (by omega) hI0 H _ ls hM hS (lv_sub hl [5, 4, 3, 2, 1, 0] rfl)
  refine lv_iconst (v := 1) hx hb dL_law_1499 (by decide) ?_
  refine va_forget (fun q hq => by rw [← hBs]; exact hS.2.2 q hq) ?_
  refine W.widen hC hS0 ?_
  exact W.base (lw_ret (d0 := s.drawn) (Drawn.sameBut.refl s.drawn lw_cs) hx hb hr hlocks dL_law_1500)
